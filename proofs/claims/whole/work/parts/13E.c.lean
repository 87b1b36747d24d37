/-! printed by wip/gen/gen_all.py: contracts of SundayGameModel -/
theorem c_M_is {S : ASh} {V : ASt} {x0 x1 x2 : Int} {r : Int} {V' : ASt} (h : f_M_is S V x0 x1 x2 = some (r, V')) : ACt m_M_is 2 0 0 [(aI x0), (aI x1), (aI x2)] S V (some (aI r)) S V' := by
  unfold f_M_is at h
  refine ACt_of (plainFor_of_name rfl) rfl (Nat.le_of_ble_eq_true rfl) ?_
  show AWk m_M_is 2 0 0 0 0 0 [some (aI x0), some (aI x1), some (aI x2)] [] S V (some (aI r)) S V'
  refine Ak_iload_n 1 0 (d_M_is 0 0 (.iload_n 0) 1 rfl) rfl rfl rfl ?_
  refine Ak_iload_n 2 1 (d_M_is 1 1 (.iload_n 1) 1 rfl) rfl rfl rfl ?_
  refine Ak_icmp_lt 14 5 (d_M_is 2 2 (.if_icmp .lt 12) 3 rfl) rfl rfl (fun hc => ?_) (fun hc => ?_)
  · replace h := it_t hc h
    refine Ak_iconst 15 (d_M_is 8 14 (.iconst 0) 1 rfl) rfl (rk rfl) ?_
    cases h
    exact Ak_zret (Or.inl rfl) rfl (d_M_is 9 15 (.ireturn) 1 rfl)
  · replace h := it_f hc h
    refine Ak_iload_n 6 0 (d_M_is 3 5 (.iload_n 0) 1 rfl) rfl rfl rfl ?_
    refine Ak_iload_n 7 2 (d_M_is 4 6 (.iload_n 2) 1 rfl) rfl rfl rfl ?_
    refine Ak_icmp_gt 14 10 (d_M_is 5 7 (.if_icmp .gt 7) 3 rfl) rfl rfl (fun hc => ?_) (fun hc => ?_)
    · replace h := it_t hc h
      refine Ak_iconst 15 (d_M_is 8 14 (.iconst 0) 1 rfl) rfl (rk rfl) ?_
      cases h
      exact Ak_zret (Or.inl rfl) rfl (d_M_is 9 15 (.ireturn) 1 rfl)
    · replace h := it_f hc h
      refine Ak_iconst 11 (d_M_is 6 10 (.iconst 1) 1 rfl) rfl (rk rfl) ?_
      refine Ak_goto 15 (d_M_is 7 11 (.goto 4) 3 rfl) rfl ?_
      cases h
      exact Ak_zret (Or.inr rfl) rfl (d_M_is 9 15 (.ireturn) 1 rfl)
theorem t_M_put_L3 {S : ASh} {x0 x1 : Int} (hO : isO S x0 13 = true) : ∀ (n : Nat) (V : ASt) (x2 : Int) (r : Int) (V' : ASt), b_M_put_L3 S x0 x1 n V x2 = some (r, V') → AWk m_M_put 2 0 0 0 0 3 [some (aR x0), some (aI x1), some (aI x2)] [] S V none S V' := by
  intro n
  induction n with
  | zero => intro V x2 r V' h; cases h
  | succ n ih =>
    intro V x2 r V' h
    replace ih : ∀ {V : ASt} {x2 : Int} {r : Int} {V' : ASt}, b_M_put_L3 S x0 x1 n V x2 = some (r, V') → AWk m_M_put 2 0 0 0 0 3 [some (aR x0), some (aI x1), some (aI x2)] [] S V none S V' := fun h => ih _ _ _ _ h
    rw [b_M_put_L3] at h
    refine Ak_iload_n 4 2 (d_M_put 2 3 (.iload_n 2) 1 rfl) rfl rfl rfl ?_
    refine Ak_if_lt 39 7 (d_M_put 3 4 (.ifCond .lt 35) 3 rfl) rfl rfl (fun hc => ?_) (fun hc => ?_)
    · replace h := it_t hc h
      cases h
      exact Ak_vret rfl (d_M_put 22 39 (.return_) 1 rfl)
    · replace h := it_f hc h
      refine Ak_aload_n 8 0 (d_M_put 4 7 (.aload_n 0) 1 rfl) rfl rfl rfl ?_
      refine Ak_getF 11 0 hO clX13 (by decide) rfl lkF_M_7 (d_M_put 5 8 (.getfield 7) 3 rfl) rfl ?_
      refine Ak_aload_n 12 0 (d_M_put 6 11 (.aload_n 0) 1 rfl) rfl rfl rfl ?_
      refine Ak_getI 15 1 hO clX13 (by decide) (Or.inl rfl) lkF_M_13 (d_M_put 7 12 (.getfield 13) 3 rfl) rfl ?_
      refine Ak_iload_n 16 1 (d_M_put 8 15 (.iload_n 1) 1 rfl) rfl rfl rfl ?_
      refine Ak_iload_n 17 2 (d_M_put 9 16 (.iload_n 2) 1 rfl) rfl rfl rfl ?_
      refine Ak_ishr 18 (d_M_put 10 17 (.ishr) 1 rfl) rfl ?_
      refine Ak_sipush 21 (d_M_put 11 18 (.sipush 255) 3 rfl) rfl (sp_ok rfl) (rk rfl) ?_
      refine Ak_iand 22 (d_M_put 12 21 (.iand) 1 rfl) rfl ?_
      obtain ⟨ha1, h⟩ := gd_some h
      refine Ak_iastore 23 ha1 (d_M_put 13 22 (.iastore) 1 rfl) rfl (fun V2 hV2 => ?_)
      replace h := wV_some h V2 hV2
      refine Ak_aload_n 24 0 (d_M_put 14 23 (.aload_n 0) 1 rfl) rfl rfl rfl ?_
      refine Ak_dup 25 (d_M_put 15 24 (.dup) 1 rfl) rfl rfl ?_
      refine Ak_getI 28 1 hO clX13 (by decide) (Or.inl rfl) lkF_M_13 (d_M_put 16 25 (.getfield 13) 3 rfl) rfl ?_
      refine Ak_iconst 29 (d_M_put 17 28 (.iconst 1) 1 rfl) rfl (rk rfl) ?_
      refine Ak_iadd 30 (d_M_put 18 29 (.iadd) 1 rfl) rfl ?_
      refine Ak_putI 33 1 hO clX13 (by decide) rfl rfl rfl lkF_M_13 (d_M_put 19 30 (.putfield 13) 3 rfl) rfl (fun V3 hV3 => ?_)
      replace h := wV_some h V3 hV3
      refine Ak_iinc 36 (d_M_put 20 33 (.iinc 2 (-8)) 3 rfl) rfl rfl (by decide) ?_
      refine Ak_goto 3 (d_M_put 21 36 (.goto (-33)) 3 rfl) rfl ?_
      refine Ak_keep [true, true, true] ?_
      exact ih h
theorem c_M_put {S : ASh} {V : ASt} {x0 x1 : Int} {r : Int} {V' : ASt} (h : f_M_put S V x0 x1 = some (r, V')) : ACt m_M_put 2 0 0 [(aR x0), (aI x1)] S V none S V' := by
  unfold f_M_put at h
  obtain ⟨hO, h⟩ := gd_some h
  refine ACt_of (plainFor_of_name rfl) rfl (Nat.le_of_ble_eq_true rfl) ?_
  show AWk m_M_put 2 0 0 0 0 0 [some (aR x0), some (aI x1)] [] S V none S V'
  refine Ak_bipush 2 (d_M_put 0 0 (.bipush 24) 2 rfl) rfl (bp_ok rfl) (rk rfl) ?_
  refine Ak_istore_n 3 2 (d_M_put 1 2 (.istore_n 2) 1 rfl) rfl rfl (by decide) ?_
  refine Ak_keep [true, true, true] ?_
  exact t_M_put_L3 hO FU _ _ _ _ h
theorem c_M_refuses {S : ASh} {V : ASt} {x0 x1 : Int} {r : Int} {V' : ASt} (h : f_M_refuses S V x0 x1 = some (r, V')) : ACt m_M_refuses 2 0 0 [(aR x0), (aI x1)] S V (some (aI r)) S V' := by
  unfold f_M_refuses at h
  obtain ⟨hO, h⟩ := gd_some h
  refine ACt_of (plainFor_of_name rfl) rfl (Nat.le_of_ble_eq_true rfl) ?_
  show AWk m_M_refuses 2 0 0 0 0 0 [some (aR x0), some (aI x1)] [] S V (some (aI r)) S V'
  refine Ak_aload_n 1 0 (d_M_refuses 0 0 (.aload_n 0) 1 rfl) rfl rfl rfl ?_
  refine Ak_getF 4 41 hO clX13 (by decide) rfl lkF_M_138 (d_M_refuses 1 1 (.getfield 138) 3 rfl) rfl ?_
  refine Ak_iload_n 5 1 (d_M_refuses 2 4 (.iload_n 1) 1 rfl) rfl rfl rfl ?_
  refine Ak_dup2 6 (d_M_refuses 3 5 (.dup2) 1 rfl) rfl rfl rfl ?_
  obtain ⟨ha1, h⟩ := gd_some h
  refine Ak_iaload 7 ha1 (d_M_refuses 4 6 (.iaload) 1 rfl) rfl ?_
  refine Ak_iconst 8 (d_M_refuses 5 7 (.iconst 1) 1 rfl) rfl (rk rfl) ?_
  refine Ak_iadd 9 (d_M_refuses 6 8 (.iadd) 1 rfl) rfl ?_
  refine Ak_iastore 10 ha1 (d_M_refuses 7 9 (.iastore) 1 rfl) rfl (fun V2 hV2 => ?_)
  replace h := wV_some h V2 hV2
  refine Ak_iconst 11 (d_M_refuses 8 10 (.iconst (-1)) 1 rfl) rfl (rk rfl) ?_
  cases h
  exact Ak_iret rfl (d_M_refuses 9 11 (.ireturn) 1 rfl)
theorem c_M_feed {S : ASh} {V : ASt} {x0 x1 x2 x3 x4 x5 : Int} {r : Int} {V' : ASt} (h : f_M_feed S V x0 x1 x2 x3 x4 x5 = some (r, V')) : ACt m_M_feed 3 0 0 [(aR x0), (aI x1), (aI x2), (aI x3), (aI x4), (aI x5)] S V (some (aI r)) S V' := by
  unfold f_M_feed at h
  obtain ⟨hO, h⟩ := gd_some h
  refine ACt_of (plainFor_of_name rfl) rfl (Nat.le_of_ble_eq_true rfl) ?_
  show AWk m_M_feed 3 0 0 0 0 0 [some (aR x0), some (aI x1), some (aI x2), some (aI x3), some (aI x4), some (aI x5)] [] S V (some (aI r)) S V'
  refine Ak_aload_n 1 0 (d_M_feed 0 0 (.aload_n 0) 1 rfl) rfl rfl rfl ?_
  refine Ak_getI 4 1 hO clX13 (by decide) (Or.inl rfl) lkF_M_13 (d_M_feed 1 1 (.getfield 13) 3 rfl) rfl ?_
  refine Ak_bipush 6 (d_M_feed 2 4 (.bipush 20) 2 rfl) rfl (bp_ok rfl) (rk rfl) ?_
  refine Ak_iadd 7 (d_M_feed 3 6 (.iadd) 1 rfl) rfl ?_
  refine Ak_sipush 10 (d_M_feed 4 7 (.sipush 1800) 3 rfl) rfl (sp_ok rfl) (rk rfl) ?_
  refine Ak_icmp_le 19 13 (d_M_feed 5 10 (.if_icmp .le 9) 3 rfl) rfl rfl (fun hc => ?_) (fun hc => ?_)
  · replace h := it_t hc h
    refine Ak_aload_n 20 0 (d_M_feed 10 19 (.aload_n 0) 1 rfl) rfl rfl rfl ?_
    refine Ak_iload_n 21 1 (d_M_feed 11 20 (.iload_n 1) 1 rfl) rfl rfl rfl ?_
    obtain ⟨r1, V2, h3, h⟩ := bnd_some h
    refine Ak_cV0 24 2 (c_M_put h3) rfl hO clX13 rfl mok_M_put lkM_M_262 (d_M_feed 12 21 (.invokevirtual 262) 3 rfl) rfl (by decide) (Nat.le_of_ble_eq_true rfl) ?_
    refine Ak_aload_n 25 0 (d_M_feed 13 24 (.aload_n 0) 1 rfl) rfl rfl rfl ?_
    refine Ak_iload_n 26 2 (d_M_feed 14 25 (.iload_n 2) 1 rfl) rfl rfl rfl ?_
    obtain ⟨r4, V5, h6, h⟩ := bnd_some h
    refine Ak_cV0 29 2 (c_M_put h6) rfl hO clX13 rfl mok_M_put lkM_M_262 (d_M_feed 15 26 (.invokevirtual 262) 3 rfl) rfl (by decide) (Nat.le_of_ble_eq_true rfl) ?_
    refine Ak_aload_n 30 0 (d_M_feed 16 29 (.aload_n 0) 1 rfl) rfl rfl rfl ?_
    refine Ak_iload_n 31 3 (d_M_feed 17 30 (.iload_n 3) 1 rfl) rfl rfl rfl ?_
    obtain ⟨r7, V8, h9, h⟩ := bnd_some h
    refine Ak_cV0 34 2 (c_M_put h9) rfl hO clX13 rfl mok_M_put lkM_M_262 (d_M_feed 18 31 (.invokevirtual 262) 3 rfl) rfl (by decide) (Nat.le_of_ble_eq_true rfl) ?_
    refine Ak_aload_n 35 0 (d_M_feed 19 34 (.aload_n 0) 1 rfl) rfl rfl rfl ?_
    refine Ak_iload 37 (d_M_feed 20 35 (.iload 4) 2 rfl) rfl rfl ?_
    obtain ⟨r10, V11, h12, h⟩ := bnd_some h
    refine Ak_cV0 40 2 (c_M_put h12) rfl hO clX13 rfl mok_M_put lkM_M_262 (d_M_feed 21 37 (.invokevirtual 262) 3 rfl) rfl (by decide) (Nat.le_of_ble_eq_true rfl) ?_
    refine Ak_aload_n 41 0 (d_M_feed 22 40 (.aload_n 0) 1 rfl) rfl rfl rfl ?_
    refine Ak_iload 43 (d_M_feed 23 41 (.iload 5) 2 rfl) rfl rfl ?_
    obtain ⟨r13, V14, h15, h⟩ := bnd_some h
    refine Ak_cV0 46 2 (c_M_put h15) rfl hO clX13 rfl mok_M_put lkM_M_262 (d_M_feed 24 43 (.invokevirtual 262) 3 rfl) rfl (by decide) (Nat.le_of_ble_eq_true rfl) ?_
    refine Ak_aload_n 47 0 (d_M_feed 25 46 (.aload_n 0) 1 rfl) rfl rfl rfl ?_
    refine Ak_getI 50 1 hO clX13 (by decide) (Or.inl rfl) lkF_M_13 (d_M_feed 26 47 (.getfield 13) 3 rfl) rfl ?_
    cases h
    exact Ak_iret rfl (d_M_feed 27 50 (.ireturn) 1 rfl)
  · replace h := it_f hc h
    refine Ak_aload_n 14 0 (d_M_feed 6 13 (.aload_n 0) 1 rfl) rfl rfl rfl ?_
    refine Ak_iconst 15 (d_M_feed 7 14 (.iconst 0) 1 rfl) rfl (rk rfl) ?_
    obtain ⟨r16, V17, h18, h⟩ := bnd_some h
    refine Ak_cV1 18 2 (c_M_refuses h18) rfl hO clX13 rfl mok_M_refuses lkM_M_258 (d_M_feed 8 15 (.invokevirtual 258) 3 rfl) rfl (by decide) (Nat.le_of_ble_eq_true rfl) ?_
    cases h
    exact Ak_iret rfl (d_M_feed 9 18 (.ireturn) 1 rfl)
theorem t_M_end_J12 {S : ASh} {V : ASt} {x0 : Int} {r : Int} {V' : ASt} (hO : isO S x0 13 = true) (h : b_M_end_J12 S  V x0 = some (r, V')) : AWk m_M_end 3 0 0 0 0 12 [some (aR x0)] [] S V (some (aI r)) S V' := by
  unfold b_M_end_J12 at h
  refine Ak_aload_n 13 0 (d_M_end 6 12 (.aload_n 0) 1 rfl) rfl rfl rfl ?_
  refine Ak_iconst 14 (d_M_end 7 13 (.iconst 0) 1 rfl) rfl (rk rfl) ?_
  obtain ⟨r1, V2, h3, h⟩ := bnd_some h
  refine Ak_cV1 17 2 (c_M_refuses h3) rfl hO clX13 rfl mok_M_refuses lkM_M_258 (d_M_end 8 14 (.invokevirtual 258) 3 rfl) rfl (by decide) (Nat.le_of_ble_eq_true rfl) ?_
  refine Ak_if_lt 24 20 (d_M_end 9 17 (.ifCond .lt 7) 3 rfl) rfl rfl (fun hc => ?_) (fun hc => ?_)
  · replace h := it_t hc h
    refine Ak_iconst 25 (d_M_end 12 24 (.iconst 0) 1 rfl) rfl (rk rfl) ?_
    cases h
    exact Ak_zret (Or.inl rfl) rfl (d_M_end 13 25 (.ireturn) 1 rfl)
  · replace h := it_f hc h
    refine Ak_iconst 21 (d_M_end 10 20 (.iconst 1) 1 rfl) rfl (rk rfl) ?_
    refine Ak_goto 25 (d_M_end 11 21 (.goto 4) 3 rfl) rfl ?_
    cases h
    exact Ak_zret (Or.inr rfl) rfl (d_M_end 13 25 (.ireturn) 1 rfl)
theorem c_M_end {S : ASh} {V : ASt} {x0 x1 : Int} {r : Int} {V' : ASt} (h : f_M_end S V x0 x1 = some (r, V')) : ACt m_M_end 3 0 0 [(aR x0), (aI x1)] S V (some (aI r)) S V' := by
  unfold f_M_end at h
  obtain ⟨hO, h⟩ := gd_some h
  refine ACt_of (plainFor_of_name rfl) rfl (Nat.le_of_ble_eq_true rfl) ?_
  show AWk m_M_end 3 0 0 0 0 0 [some (aR x0), some (aI x1)] [] S V (some (aI r)) S V'
  refine Ak_iload_n 1 1 (d_M_end 0 0 (.iload_n 1) 1 rfl) rfl rfl rfl ?_
  refine Ak_if_lt 12 4 (d_M_end 1 1 (.ifCond .lt 11) 3 rfl) rfl rfl (fun hc => ?_) (fun hc => ?_)
  · replace h := it_t hc h
    refine Ak_keep [true] ?_
    exact t_M_end_J12 hO h
  · replace h := it_f hc h
    refine Ak_iload_n 5 1 (d_M_end 2 4 (.iload_n 1) 1 rfl) rfl rfl rfl ?_
    refine Ak_aload_n 6 0 (d_M_end 3 5 (.aload_n 0) 1 rfl) rfl rfl rfl ?_
    refine Ak_getI 9 1 hO clX13 (by decide) (Or.inl rfl) lkF_M_13 (d_M_end 4 6 (.getfield 13) 3 rfl) rfl ?_
    refine Ak_icmp_le 26 12 (d_M_end 5 9 (.if_icmp .le 17) 3 rfl) rfl rfl (fun hc => ?_) (fun hc => ?_)
    · replace h := it_t hc h
      refine Ak_aload_n 27 0 (d_M_end 14 26 (.aload_n 0) 1 rfl) rfl rfl rfl ?_
      refine Ak_iload_n 28 1 (d_M_end 15 27 (.iload_n 1) 1 rfl) rfl rfl rfl ?_
      refine Ak_putI 31 1 hO clX13 (by decide) rfl rfl rfl lkF_M_13 (d_M_end 16 28 (.putfield 13) 3 rfl) rfl (fun V4 hV4 => ?_)
      replace h := wV_some h V4 hV4
      refine Ak_iconst 32 (d_M_end 17 31 (.iconst 1) 1 rfl) rfl (rk rfl) ?_
      cases h
      exact Ak_zret (Or.inr rfl) rfl (d_M_end 18 32 (.ireturn) 1 rfl)
    · replace h := it_f hc h
      refine Ak_keep [true] ?_
      exact t_M_end_J12 hO h
theorem c_M_blame {S : ASh} {V : ASt} {x0 x1 x2 : Int} {r : Int} {V' : ASt} (h : f_M_blame S V x0 x1 x2 = some (r, V')) : ACt m_M_blame 2 0 0 [(aR x0), (aI x1), (aI x2)] S V none S V' := by
  unfold f_M_blame at h
  obtain ⟨hO, h⟩ := gd_some h
  refine ACt_of (plainFor_of_name rfl) rfl (Nat.le_of_ble_eq_true rfl) ?_
  show AWk m_M_blame 2 0 0 0 0 0 [some (aR x0), some (aI x1), some (aI x2)] [] S V none S V'
  refine Ak_aload_n 1 0 (d_M_blame 0 0 (.aload_n 0) 1 rfl) rfl rfl rfl ?_
  refine Ak_getI 4 8 hO clX13 (by decide) (Or.inl rfl) lkF_M_36 (d_M_blame 1 1 (.getfield 36) 3 rfl) rfl ?_
  refine Ak_if_le 8 7 (d_M_blame 2 4 (.ifCond .le 4) 3 rfl) rfl rfl (fun hc => ?_) (fun hc => ?_)
  · replace h := it_t hc h
    refine Ak_aload_n 9 0 (d_M_blame 4 8 (.aload_n 0) 1 rfl) rfl rfl rfl ?_
    refine Ak_iload_n 10 1 (d_M_blame 5 9 (.iload_n 1) 1 rfl) rfl rfl rfl ?_
    refine Ak_putI 13 8 hO clX13 (by decide) rfl rfl rfl lkF_M_36 (d_M_blame 6 10 (.putfield 36) 3 rfl) rfl (fun V1 hV1 => ?_)
    replace h := wV_some h V1 hV1
    refine Ak_aload_n 14 0 (d_M_blame 7 13 (.aload_n 0) 1 rfl) rfl rfl rfl ?_
    refine Ak_iload_n 15 2 (d_M_blame 8 14 (.iload_n 2) 1 rfl) rfl rfl rfl ?_
    refine Ak_putI 18 9 hO clX13 (by decide) rfl rfl rfl lkF_M_39 (d_M_blame 9 15 (.putfield 39) 3 rfl) rfl (fun V2 hV2 => ?_)
    replace h := wV_some h V2 hV2
    cases h
    exact Ak_vret rfl (d_M_blame 10 18 (.return_) 1 rfl)
  · replace h := it_f hc h
    cases h
    exact Ak_vret rfl (d_M_blame 3 7 (.return_) 1 rfl)
theorem c_M_isLetter {S : ASh} {V : ASt} {x0 : Int} {r : Int} {V' : ASt} (h : f_M_isLetter S V x0 = some (r, V')) : ACt m_M_isLetter 2 0 0 [(aI x0)] S V (some (aI r)) S V' := by
  unfold f_M_isLetter at h
  refine ACt_of (plainFor_of_name rfl) rfl (Nat.le_of_ble_eq_true rfl) ?_
  show AWk m_M_isLetter 2 0 0 0 0 0 [some (aI x0)] [] S V (some (aI r)) S V'
  refine Ak_iload_n 1 0 (d_M_isLetter 0 0 (.iload_n 0) 1 rfl) rfl rfl rfl ?_
  refine Ak_bipush 3 (d_M_isLetter 1 1 (.bipush 97) 2 rfl) rfl (bp_ok rfl) (rk rfl) ?_
  refine Ak_icmp_lt 16 6 (d_M_isLetter 2 3 (.if_icmp .lt 13) 3 rfl) rfl rfl (fun hc => ?_) (fun hc => ?_)
  · replace h := it_t hc h
    refine Ak_iconst 17 (d_M_isLetter 8 16 (.iconst 0) 1 rfl) rfl (rk rfl) ?_
    cases h
    exact Ak_zret (Or.inl rfl) rfl (d_M_isLetter 9 17 (.ireturn) 1 rfl)
  · replace h := it_f hc h
    refine Ak_iload_n 7 0 (d_M_isLetter 3 6 (.iload_n 0) 1 rfl) rfl rfl rfl ?_
    refine Ak_bipush 9 (d_M_isLetter 4 7 (.bipush 122) 2 rfl) rfl (bp_ok rfl) (rk rfl) ?_
    refine Ak_icmp_gt 16 12 (d_M_isLetter 5 9 (.if_icmp .gt 7) 3 rfl) rfl rfl (fun hc => ?_) (fun hc => ?_)
    · replace h := it_t hc h
      refine Ak_iconst 17 (d_M_isLetter 8 16 (.iconst 0) 1 rfl) rfl (rk rfl) ?_
      cases h
      exact Ak_zret (Or.inl rfl) rfl (d_M_isLetter 9 17 (.ireturn) 1 rfl)
    · replace h := it_f hc h
      refine Ak_iconst 13 (d_M_isLetter 6 12 (.iconst 1) 1 rfl) rfl (rk rfl) ?_
      refine Ak_goto 17 (d_M_isLetter 7 13 (.goto 4) 3 rfl) rfl ?_
      cases h
      exact Ak_zret (Or.inr rfl) rfl (d_M_isLetter 9 17 (.ireturn) 1 rfl)
theorem c_M_isDigit {S : ASh} {V : ASt} {x0 : Int} {r : Int} {V' : ASt} (h : f_M_isDigit S V x0 = some (r, V')) : ACt m_M_isDigit 2 0 0 [(aI x0)] S V (some (aI r)) S V' := by
  unfold f_M_isDigit at h
  refine ACt_of (plainFor_of_name rfl) rfl (Nat.le_of_ble_eq_true rfl) ?_
  show AWk m_M_isDigit 2 0 0 0 0 0 [some (aI x0)] [] S V (some (aI r)) S V'
  refine Ak_iload_n 1 0 (d_M_isDigit 0 0 (.iload_n 0) 1 rfl) rfl rfl rfl ?_
  refine Ak_bipush 3 (d_M_isDigit 1 1 (.bipush 48) 2 rfl) rfl (bp_ok rfl) (rk rfl) ?_
  refine Ak_icmp_lt 16 6 (d_M_isDigit 2 3 (.if_icmp .lt 13) 3 rfl) rfl rfl (fun hc => ?_) (fun hc => ?_)
  · replace h := it_t hc h
    refine Ak_iconst 17 (d_M_isDigit 8 16 (.iconst 0) 1 rfl) rfl (rk rfl) ?_
    cases h
    exact Ak_zret (Or.inl rfl) rfl (d_M_isDigit 9 17 (.ireturn) 1 rfl)
  · replace h := it_f hc h
    refine Ak_iload_n 7 0 (d_M_isDigit 3 6 (.iload_n 0) 1 rfl) rfl rfl rfl ?_
    refine Ak_bipush 9 (d_M_isDigit 4 7 (.bipush 57) 2 rfl) rfl (bp_ok rfl) (rk rfl) ?_
    refine Ak_icmp_gt 16 12 (d_M_isDigit 5 9 (.if_icmp .gt 7) 3 rfl) rfl rfl (fun hc => ?_) (fun hc => ?_)
    · replace h := it_t hc h
      refine Ak_iconst 17 (d_M_isDigit 8 16 (.iconst 0) 1 rfl) rfl (rk rfl) ?_
      cases h
      exact Ak_zret (Or.inl rfl) rfl (d_M_isDigit 9 17 (.ireturn) 1 rfl)
    · replace h := it_f hc h
      refine Ak_iconst 13 (d_M_isDigit 6 12 (.iconst 1) 1 rfl) rfl (rk rfl) ?_
      refine Ak_goto 17 (d_M_isDigit 7 13 (.goto 4) 3 rfl) rfl ?_
      cases h
      exact Ak_zret (Or.inr rfl) rfl (d_M_isDigit 9 17 (.ireturn) 1 rfl)
theorem t_M_ahead_J282 {S : ASh} {K200 : ASt → Int → Int → Option (Int × ASt)} {V : ASt} {x0 x1 x2 x3 x4 x5 : Int} {r : Int} {V' : ASt} (hO : isO S x0 13 = true) (hK200 : ∀ {V : ASt} {y1 y5 : Int} {r : Int} {V' : ASt}, K200 V y1 y5 = some (r, V') → AWk m_M_ahead 3 0 0 0 0 200 [some (aR x0), some (aI y1), some (aI x2), some (aI x3), some (aI x4), some (aI y5)] [] S V none S V') (h : b_M_ahead_J282 S K200 V x0 x1 x2 x3 x4 x5 = some (r, V')) : AWk m_M_ahead 3 0 0 0 0 282 [some (aR x0), some (aI x1), some (aI x2), some (aI x3), some (aI x4), some (aI x5)] [] S V none S V' := by
  unfold b_M_ahead_J282 at h
  refine Ak_iload 284 (d_M_ahead 156 282 (.iload 5) 2 rfl) rfl rfl ?_
  refine Ak_iload 286 (d_M_ahead 157 284 (.iload 4) 2 rfl) rfl rfl ?_
  refine Ak_icmp_ge 314 289 (d_M_ahead 158 286 (.if_icmp .ge 28) 3 rfl) rfl rfl (fun hc => ?_) (fun hc => ?_)
  · replace h := it_t hc h
    refine Ak_iinc 317 (d_M_ahead 174 314 (.iinc 5 1) 3 rfl) rfl rfl (by decide) ?_
    refine Ak_iinc 320 (d_M_ahead 175 317 (.iinc 1 1) 3 rfl) rfl rfl (by decide) ?_
    refine Ak_goto 200 (d_M_ahead 176 320 (.goto (-120)) 3 rfl) rfl ?_
    refine Ak_keep [true, true, true, true, true, true] ?_
    exact hK200 h
  · replace h := it_f hc h
    refine Ak_iload_n 290 3 (d_M_ahead 159 289 (.iload_n 3) 1 rfl) rfl rfl rfl ?_
    refine Ak_if_eq 314 293 (d_M_ahead 160 290 (.ifCond .eq 24) 3 rfl) rfl rfl (fun hc => ?_) (fun hc => ?_)
    · replace h := it_t hc h
      refine Ak_iinc 317 (d_M_ahead 174 314 (.iinc 5 1) 3 rfl) rfl rfl (by decide) ?_
      refine Ak_iinc 320 (d_M_ahead 175 317 (.iinc 1 1) 3 rfl) rfl rfl (by decide) ?_
      refine Ak_goto 200 (d_M_ahead 176 320 (.goto (-120)) 3 rfl) rfl ?_
      refine Ak_keep [true, true, true, true, true, true] ?_
      exact hK200 h
    · replace h := it_f hc h
      refine Ak_aload_n 294 0 (d_M_ahead 161 293 (.aload_n 0) 1 rfl) rfl rfl rfl ?_
      refine Ak_bipush 296 (d_M_ahead 162 294 (.bipush 10) 2 rfl) rfl (bp_ok rfl) (rk rfl) ?_
      refine Ak_aload_n 297 0 (d_M_ahead 163 296 (.aload_n 0) 1 rfl) rfl rfl rfl ?_
      refine Ak_getI 300 6 hO clX13 (by decide) (Or.inl rfl) lkF_M_29 (d_M_ahead 164 297 (.getfield 29) 3 rfl) rfl ?_
      refine Ak_imul 301 (d_M_ahead 165 300 (.imul) 1 rfl) rfl ?_
      refine Ak_aload_n 302 0 (d_M_ahead 166 301 (.aload_n 0) 1 rfl) rfl rfl rfl ?_
      refine Ak_getF 305 0 hO clX13 (by decide) rfl lkF_M_7 (d_M_ahead 167 302 (.getfield 7) 3 rfl) rfl ?_
      refine Ak_iload_n 306 1 (d_M_ahead 168 305 (.iload_n 1) 1 rfl) rfl rfl rfl ?_
      obtain ⟨ha1, h⟩ := gd_some h
      refine Ak_iaload 307 ha1 (d_M_ahead 169 306 (.iaload) 1 rfl) rfl ?_
      refine Ak_iadd 308 (d_M_ahead 170 307 (.iadd) 1 rfl) rfl ?_
      refine Ak_bipush 310 (d_M_ahead 171 308 (.bipush 48) 2 rfl) rfl (bp_ok rfl) (rk rfl) ?_
      refine Ak_isub 311 (d_M_ahead 172 310 (.isub) 1 rfl) rfl ?_
      refine Ak_putI 314 6 hO clX13 (by decide) rfl rfl rfl lkF_M_29 (d_M_ahead 173 311 (.putfield 29) 3 rfl) rfl (fun V2 hV2 => ?_)
      replace h := wV_some h V2 hV2
      refine Ak_iinc 317 (d_M_ahead 174 314 (.iinc 5 1) 3 rfl) rfl rfl (by decide) ?_
      refine Ak_iinc 320 (d_M_ahead 175 317 (.iinc 1 1) 3 rfl) rfl rfl (by decide) ?_
      refine Ak_goto 200 (d_M_ahead 176 320 (.goto (-120)) 3 rfl) rfl ?_
      refine Ak_keep [true, true, true, true, true, true] ?_
      exact hK200 h
theorem t_M_ahead_J252 {S : ASh} {K200 : ASt → Int → Int → Option (Int × ASt)} {V : ASt} {x0 x1 x2 x3 x4 x5 : Int} {r : Int} {V' : ASt} (hO : isO S x0 13 = true) (hK200 : ∀ {V : ASt} {y1 y5 : Int} {r : Int} {V' : ASt}, K200 V y1 y5 = some (r, V') → AWk m_M_ahead 3 0 0 0 0 200 [some (aR x0), some (aI y1), some (aI x2), some (aI x3), some (aI x4), some (aI y5)] [] S V none S V') (h : b_M_ahead_J252 S K200 V x0 x1 x2 x3 x4 x5 = some (r, V')) : AWk m_M_ahead 3 0 0 0 0 252 [some (aR x0), some (aI x1), some (aI x2), some (aI x3), some (aI x4), some (aI x5)] [] S V none S V' := by
  unfold b_M_ahead_J252 at h
  refine Ak_iload 254 (d_M_ahead 139 252 (.iload 5) 2 rfl) rfl rfl ?_
  refine Ak_iload 256 (d_M_ahead 140 254 (.iload 4) 2 rfl) rfl rfl ?_
  refine Ak_icmp_ge 282 259 (d_M_ahead 141 256 (.if_icmp .ge 26) 3 rfl) rfl rfl (fun hc => ?_) (fun hc => ?_)
  · replace h := it_t hc h
    refine Ak_keep [true, true, true, true, true, true] ?_
    exact t_M_ahead_J282 hO (fun h => hK200 h) h
  · replace h := it_f hc h
    refine Ak_iload_n 260 2 (d_M_ahead 142 259 (.iload_n 2) 1 rfl) rfl rfl rfl ?_
    refine Ak_if_eq 282 263 (d_M_ahead 143 260 (.ifCond .eq 22) 3 rfl) rfl rfl (fun hc => ?_) (fun hc => ?_)
    · replace h := it_t hc h
      refine Ak_keep [true, true, true, true, true, true] ?_
      exact t_M_ahead_J282 hO (fun h => hK200 h) h
    · replace h := it_f hc h
      refine Ak_aload_n 264 0 (d_M_ahead 144 263 (.aload_n 0) 1 rfl) rfl rfl rfl ?_
      refine Ak_aload_n 265 0 (d_M_ahead 145 264 (.aload_n 0) 1 rfl) rfl rfl rfl ?_
      refine Ak_getL 268 7 hO clX13 (by decide) rfl lkF_M_32 (d_M_ahead 146 265 (.getfield 32) 3 rfl) rfl ?_
      refine Ak_bipush 270 (d_M_ahead 147 268 (.bipush 8) 2 rfl) rfl (bp_ok rfl) (rk rfl) ?_
      refine Ak_lshl 271 (d_M_ahead 148 270 (.lshl) 1 rfl) rfl ?_
      refine Ak_aload_n 272 0 (d_M_ahead 149 271 (.aload_n 0) 1 rfl) rfl rfl rfl ?_
      refine Ak_getF 275 0 hO clX13 (by decide) rfl lkF_M_7 (d_M_ahead 150 272 (.getfield 7) 3 rfl) rfl ?_
      refine Ak_iload_n 276 1 (d_M_ahead 151 275 (.iload_n 1) 1 rfl) rfl rfl rfl ?_
      obtain ⟨ha3, h⟩ := gd_some h
      refine Ak_iaload 277 ha3 (d_M_ahead 152 276 (.iaload) 1 rfl) rfl ?_
      refine Ak_i2l 278 (d_M_ahead 153 277 (.i2l) 1 rfl) rfl ?_
      refine Ak_lor 279 (d_M_ahead 154 278 (.lor) 1 rfl) rfl ?_
      refine Ak_putL 282 7 hO clX13 (by decide) rfl rfl rfl lkF_M_32 (d_M_ahead 155 279 (.putfield 32) 3 rfl) rfl (fun V4 hV4 => ?_)
      replace h := wV_some h V4 hV4
      refine Ak_keep [true, true, true, true, true, true] ?_
      exact t_M_ahead_J282 hO (fun h => hK200 h) h
theorem t_M_ahead_J239 {S : ASh} {K200 : ASt → Int → Int → Option (Int × ASt)} {V : ASt} {x0 x1 x2 x3 x4 x5 : Int} {r : Int} {V' : ASt} (hO : isO S x0 13 = true) (hK200 : ∀ {V : ASt} {y1 y5 : Int} {r : Int} {V' : ASt}, K200 V y1 y5 = some (r, V') → AWk m_M_ahead 3 0 0 0 0 200 [some (aR x0), some (aI y1), some (aI x2), some (aI x3), some (aI x4), some (aI y5)] [] S V none S V') (h : b_M_ahead_J239 S K200 V x0 x1 x2 x3 x4 x5 = some (r, V')) : AWk m_M_ahead 3 0 0 0 0 239 [some (aR x0), some (aI x1), some (aI x2), some (aI x3), some (aI x4), some (aI x5)] [] S V none S V' := by
  unfold b_M_ahead_J239 at h
  refine Ak_iload 241 (d_M_ahead 132 239 (.iload 5) 2 rfl) rfl rfl ?_
  refine Ak_iload 243 (d_M_ahead 133 241 (.iload 4) 2 rfl) rfl rfl ?_
  refine Ak_icmp_ne 252 246 (d_M_ahead 134 243 (.if_icmp .ne 9) 3 rfl) rfl rfl (fun hc => ?_) (fun hc => ?_)
  · replace h := it_f hc h
    refine Ak_keep [true, true, true, true, true, true] ?_
    exact t_M_ahead_J252 hO (fun h => hK200 h) h
  · replace h := it_t hc h
    refine Ak_aload_n 247 0 (d_M_ahead 135 246 (.aload_n 0) 1 rfl) rfl rfl rfl ?_
    refine Ak_iconst 248 (d_M_ahead 136 247 (.iconst 1) 1 rfl) rfl (rk rfl) ?_
    refine Ak_iload_n 249 1 (d_M_ahead 137 248 (.iload_n 1) 1 rfl) rfl rfl rfl ?_
    obtain ⟨r5, V6, h7, h⟩ := bnd_some h
    refine Ak_cV0 252 2 (c_M_blame h7) rfl hO clX13 rfl mok_M_blame lkM_M_273 (d_M_ahead 138 249 (.invokevirtual 273) 3 rfl) rfl (by decide) (Nat.le_of_ble_eq_true rfl) ?_
    refine Ak_keep [true, true, true, true, true, true] ?_
    exact t_M_ahead_J252 hO (fun h => hK200 h) h
theorem t_M_ahead_J323 {S : ASh} {V : ASt} {x0 x1 : Int} {r : Int} {V' : ASt} (hO : isO S x0 13 = true) (h : b_M_ahead_J323 S  V x0 x1 = some (r, V')) : AWk m_M_ahead 3 0 0 0 0 323 [some (aR x0), some (aI x1)] [] S V none S V' := by
  unfold b_M_ahead_J323 at h
  refine Ak_aload_n 324 0 (d_M_ahead 177 323 (.aload_n 0) 1 rfl) rfl rfl rfl ?_
  refine Ak_iload_n 325 1 (d_M_ahead 178 324 (.iload_n 1) 1 rfl) rfl rfl rfl ?_
  refine Ak_putI 328 5 hO clX13 (by decide) rfl rfl rfl lkF_M_26 (d_M_ahead 179 325 (.putfield 26) 3 rfl) rfl (fun V8 hV8 => ?_)
  replace h := wV_some h V8 hV8
  cases h
  exact Ak_vret rfl (d_M_ahead 180 328 (.return_) 1 rfl)
theorem t_M_ahead_L200 {S : ASh} {x0 x2 x3 x4 : Int} (hO : isO S x0 13 = true) : ∀ (n : Nat) (V : ASt) (x1 x5 : Int) (r : Int) (V' : ASt), b_M_ahead_L200 S x0 x2 x3 x4 n V x1 x5 = some (r, V') → AWk m_M_ahead 3 0 0 0 0 200 [some (aR x0), some (aI x1), some (aI x2), some (aI x3), some (aI x4), some (aI x5)] [] S V none S V' := by
  intro n
  induction n with
  | zero => intro V x1 x5 r V' h; cases h
  | succ n ih =>
    intro V x1 x5 r V' h
    replace ih : ∀ {V : ASt} {x1 x5 : Int} {r : Int} {V' : ASt}, b_M_ahead_L200 S x0 x2 x3 x4 n V x1 x5 = some (r, V') → AWk m_M_ahead 3 0 0 0 0 200 [some (aR x0), some (aI x1), some (aI x2), some (aI x3), some (aI x4), some (aI x5)] [] S V none S V' := fun h => ih _ _ _ _ _ h
    rw [b_M_ahead_L200] at h
    refine Ak_iload_n 201 1 (d_M_ahead 113 200 (.iload_n 1) 1 rfl) rfl rfl rfl ?_
    refine Ak_aload_n 202 0 (d_M_ahead 114 201 (.aload_n 0) 1 rfl) rfl rfl rfl ?_
    refine Ak_getI 205 2 hO clX13 (by decide) (Or.inl rfl) lkF_M_17 (d_M_ahead 115 202 (.getfield 17) 3 rfl) rfl ?_
    refine Ak_icmp_ge 323 208 (d_M_ahead 116 205 (.if_icmp .ge 118) 3 rfl) rfl rfl (fun hc => ?_) (fun hc => ?_)
    · replace h := it_t hc h
      refine Ak_keep [true, true] ?_
      exact t_M_ahead_J323 hO h
    · replace h := it_f hc h
      refine Ak_iload_n 209 2 (d_M_ahead 117 208 (.iload_n 2) 1 rfl) rfl rfl rfl ?_
      refine Ak_if_eq 227 212 (d_M_ahead 118 209 (.ifCond .eq 18) 3 rfl) rfl rfl (fun hc => ?_) (fun hc => ?_)
      · replace h := it_t hc h
        refine Ak_aload_n 228 0 (d_M_ahead 126 227 (.aload_n 0) 1 rfl) rfl rfl rfl ?_
        refine Ak_getF 231 0 hO clX13 (by decide) rfl lkF_M_7 (d_M_ahead 127 228 (.getfield 7) 3 rfl) rfl ?_
        refine Ak_iload_n 232 1 (d_M_ahead 128 231 (.iload_n 1) 1 rfl) rfl rfl rfl ?_
        obtain ⟨ha9, h⟩ := gd_some h
        refine Ak_iaload 233 ha9 (d_M_ahead 129 232 (.iaload) 1 rfl) rfl ?_
        obtain ⟨r10, V11, h12, h⟩ := bnd_some h
        refine Ak_cS1 236 2 (c_M_isDigit h12) rfl mok_M_isDigit lkM_M_270 (d_M_ahead 130 233 (.invokestatic 270) 3 rfl) rfl (by decide) (Nat.le_of_ble_eq_true rfl) ?_
        refine Ak_if_eq 323 239 (d_M_ahead 131 236 (.ifCond .eq 87) 3 rfl) rfl rfl (fun hc => ?_) (fun hc => ?_)
        · replace h := it_t hc h
          refine Ak_keep [true, true] ?_
          exact t_M_ahead_J323 hO h
        · replace h := it_f hc h
          refine Ak_keep [true, true, true, true, true, true] ?_
          exact t_M_ahead_J239 hO (fun h => ih h) h
      · replace h := it_f hc h
        refine Ak_aload_n 213 0 (d_M_ahead 119 212 (.aload_n 0) 1 rfl) rfl rfl rfl ?_
        refine Ak_getF 216 0 hO clX13 (by decide) rfl lkF_M_7 (d_M_ahead 120 213 (.getfield 7) 3 rfl) rfl ?_
        refine Ak_iload_n 217 1 (d_M_ahead 121 216 (.iload_n 1) 1 rfl) rfl rfl rfl ?_
        obtain ⟨ha13, h⟩ := gd_some h
        refine Ak_iaload 218 ha13 (d_M_ahead 122 217 (.iaload) 1 rfl) rfl ?_
        obtain ⟨r14, V15, h16, h⟩ := bnd_some h
        refine Ak_cS1 221 2 (c_M_isLetter h16) rfl mok_M_isLetter lkM_M_266 (d_M_ahead 123 218 (.invokestatic 266) 3 rfl) rfl (by decide) (Nat.le_of_ble_eq_true rfl) ?_
        refine Ak_if_eq 323 224 (d_M_ahead 124 221 (.ifCond .eq 102) 3 rfl) rfl rfl (fun hc => ?_) (fun hc => ?_)
        · replace h := it_t hc h
          refine Ak_keep [true, true] ?_
          exact t_M_ahead_J323 hO h
        · replace h := it_f hc h
          refine Ak_goto 239 (d_M_ahead 125 224 (.goto 15) 3 rfl) rfl ?_
          refine Ak_keep [true, true, true, true, true, true] ?_
          exact t_M_ahead_J239 hO (fun h => ih h) h
theorem t_M_ahead_J182 {S : ASh} {V : ASt} {x0 x1 x2 x3 s0 s1 : Int} {r : Int} {V' : ASt} (hO : isO S x0 13 = true) (h : b_M_ahead_J182 S  V x0 x1 x2 x3 s0 s1 = some (r, V')) : AWk m_M_ahead 3 0 0 0 0 182 [some (aR x0), some (aI x1), some (aI x2), some (aI x3)] [(aI s1), (aR s0)] S V none S V' := by
  unfold b_M_ahead_J182 at h
  obtain ⟨hg17, h⟩ := gd_some h
  refine Ak_putI 185 3 hg17 clX13 (by decide) rfl rfl rfl lkF_M_20 (d_M_ahead 104 182 (.putfield 20) 3 rfl) rfl (fun V18 hV18 => ?_)
  replace h := wV_some h V18 hV18
  refine Ak_iload_n 186 2 (d_M_ahead 105 185 (.iload_n 2) 1 rfl) rfl rfl rfl ?_
  refine Ak_if_eq 194 189 (d_M_ahead 106 186 (.ifCond .eq 8) 3 rfl) rfl rfl (fun hc => ?_) (fun hc => ?_)
  · replace h := it_t hc h
    refine Ak_iconst 195 (d_M_ahead 109 194 (.iconst 4) 1 rfl) rfl (rk rfl) ?_
    refine Ak_istore 197 (d_M_ahead 110 195 (.istore 4) 2 rfl) rfl (by decide) ?_
    refine Ak_iconst 198 (d_M_ahead 111 197 (.iconst 0) 1 rfl) rfl (rk rfl) ?_
    refine Ak_istore 200 (d_M_ahead 112 198 (.istore 5) 2 rfl) rfl (by decide) ?_
    refine Ak_keep [true, true, true, true, true, true] ?_
    exact t_M_ahead_L200 hO FU _ _ _ _ _ h
  · replace h := it_f hc h
    refine Ak_bipush 191 (d_M_ahead 107 189 (.bipush 6) 2 rfl) rfl (bp_ok rfl) (rk rfl) ?_
    refine Ak_goto 195 (d_M_ahead 108 191 (.goto 4) 3 rfl) rfl ?_
    refine Ak_istore 197 (d_M_ahead 110 195 (.istore 4) 2 rfl) rfl (by decide) ?_
    refine Ak_iconst 198 (d_M_ahead 111 197 (.iconst 0) 1 rfl) rfl (rk rfl) ?_
    refine Ak_istore 200 (d_M_ahead 112 198 (.istore 5) 2 rfl) rfl (by decide) ?_
    refine Ak_keep [true, true, true, true, true, true] ?_
    exact t_M_ahead_L200 hO FU _ _ _ _ _ h
theorem t_M_ahead_J172 {S : ASh} {V : ASt} {x0 x1 x2 x3 : Int} {r : Int} {V' : ASt} (hO : isO S x0 13 = true) (h : b_M_ahead_J172 S  V x0 x1 x2 x3 = some (r, V')) : AWk m_M_ahead 3 0 0 0 0 172 [some (aR x0), some (aI x1), some (aI x2), some (aI x3)] [] S V none S V' := by
  unfold b_M_ahead_J172 at h
  refine Ak_aload_n 173 0 (d_M_ahead 98 172 (.aload_n 0) 1 rfl) rfl rfl rfl ?_
  refine Ak_iload_n 174 2 (d_M_ahead 99 173 (.iload_n 2) 1 rfl) rfl rfl rfl ?_
  refine Ak_if_eq 181 177 (d_M_ahead 100 174 (.ifCond .eq 7) 3 rfl) rfl rfl (fun hc => ?_) (fun hc => ?_)
  · replace h := it_t hc h
    refine Ak_iconst 182 (d_M_ahead 103 181 (.iconst 2) 1 rfl) rfl (rk rfl) ?_
    refine Ak_keep [true, true, true, true] ?_
    exact t_M_ahead_J182 hO h
  · replace h := it_f hc h
    refine Ak_iconst 178 (d_M_ahead 101 177 (.iconst 1) 1 rfl) rfl (rk rfl) ?_
    refine Ak_goto 182 (d_M_ahead 102 178 (.goto 4) 3 rfl) rfl ?_
    refine Ak_keep [true, true, true, true] ?_
    exact t_M_ahead_J182 hO h
theorem t_M_ahead_J131 {S : ASh} {V : ASt} {x0 x1 x2 x3 : Int} {r : Int} {V' : ASt} (hO : isO S x0 13 = true) (h : b_M_ahead_J131 S  V x0 x1 x2 x3 = some (r, V')) : AWk m_M_ahead 3 0 0 0 0 131 [some (aR x0), some (aI x1), some (aI x2), some (aI x3)] [] S V none S V' := by
  unfold b_M_ahead_J131 at h
  refine Ak_aload_n 132 0 (d_M_ahead 73 131 (.aload_n 0) 1 rfl) rfl rfl rfl ?_
  refine Ak_iconst 133 (d_M_ahead 74 132 (.iconst 0) 1 rfl) rfl (rk rfl) ?_
  refine Ak_putI 136 6 hO clX13 (by decide) rfl rfl rfl lkF_M_29 (d_M_ahead 75 133 (.putfield 29) 3 rfl) rfl (fun V19 hV19 => ?_)
  replace h := wV_some h V19 hV19
  refine Ak_aload_n 137 0 (d_M_ahead 76 136 (.aload_n 0) 1 rfl) rfl rfl rfl ?_
  refine Ak_lconst 138 0 (d_M_ahead 77 137 (.lconst 0) 1 rfl) rfl rfl (rkL rfl) ?_
  refine Ak_putL 141 7 hO clX13 (by decide) rfl rfl rfl lkF_M_32 (d_M_ahead 78 138 (.putfield 32) 3 rfl) rfl (fun V20 hV20 => ?_)
  replace h := wV_some h V20 hV20
  refine Ak_aload_n 142 0 (d_M_ahead 79 141 (.aload_n 0) 1 rfl) rfl rfl rfl ?_
  refine Ak_iconst 143 (d_M_ahead 80 142 (.iconst 3) 1 rfl) rfl (rk rfl) ?_
  refine Ak_putI 146 3 hO clX13 (by decide) rfl rfl rfl lkF_M_20 (d_M_ahead 81 143 (.putfield 20) 3 rfl) rfl (fun V21 hV21 => ?_)
  replace h := wV_some h V21 hV21
  refine Ak_aload_n 147 0 (d_M_ahead 82 146 (.aload_n 0) 1 rfl) rfl rfl rfl ?_
  refine Ak_iload_n 148 1 (d_M_ahead 83 147 (.iload_n 1) 1 rfl) rfl rfl rfl ?_
  refine Ak_iconst 149 (d_M_ahead 84 148 (.iconst 1) 1 rfl) rfl (rk rfl) ?_
  refine Ak_iadd 150 (d_M_ahead 85 149 (.iadd) 1 rfl) rfl ?_
  refine Ak_putI 153 5 hO clX13 (by decide) rfl rfl rfl lkF_M_26 (d_M_ahead 86 150 (.putfield 26) 3 rfl) rfl (fun V22 hV22 => ?_)
  replace h := wV_some h V22 hV22
  refine Ak_iload_n 154 2 (d_M_ahead 87 153 (.iload_n 2) 1 rfl) rfl rfl rfl ?_
  refine Ak_if_ne 172 157 (d_M_ahead 88 154 (.ifCond .ne 18) 3 rfl) rfl rfl (fun hc => ?_) (fun hc => ?_)
  · replace h := it_f hc h
    refine Ak_keep [true, true, true, true] ?_
    exact t_M_ahead_J172 hO h
  · replace h := it_t hc h
    refine Ak_iload_n 158 3 (d_M_ahead 89 157 (.iload_n 3) 1 rfl) rfl rfl rfl ?_
    refine Ak_if_ne 172 161 (d_M_ahead 90 158 (.ifCond .ne 14) 3 rfl) rfl rfl (fun hc => ?_) (fun hc => ?_)
    · replace h := it_f hc h
      refine Ak_keep [true, true, true, true] ?_
      exact t_M_ahead_J172 hO h
    · replace h := it_t hc h
      refine Ak_aload_n 162 0 (d_M_ahead 91 161 (.aload_n 0) 1 rfl) rfl rfl rfl ?_
      refine Ak_aload_n 163 0 (d_M_ahead 92 162 (.aload_n 0) 1 rfl) rfl rfl rfl ?_
      refine Ak_getF 166 0 hO clX13 (by decide) rfl lkF_M_7 (d_M_ahead 93 163 (.getfield 7) 3 rfl) rfl ?_
      refine Ak_iload_n 167 1 (d_M_ahead 94 166 (.iload_n 1) 1 rfl) rfl rfl rfl ?_
      obtain ⟨ha23, h⟩ := gd_some h
      refine Ak_iaload 168 ha23 (d_M_ahead 95 167 (.iaload) 1 rfl) rfl ?_
      refine Ak_putI 171 6 hO clX13 (by decide) rfl rfl rfl lkF_M_29 (d_M_ahead 96 168 (.putfield 29) 3 rfl) rfl (fun V24 hV24 => ?_)
      replace h := wV_some h V24 hV24
      cases h
      exact Ak_vret rfl (d_M_ahead 97 171 (.return_) 1 rfl)
theorem t_M_ahead_J125 {S : ASh} {V : ASt} {x0 x1 x2 x3 : Int} {r : Int} {V' : ASt} (hO : isO S x0 13 = true) (h : b_M_ahead_J125 S  V x0 x1 x2 x3 = some (r, V')) : AWk m_M_ahead 3 0 0 0 0 125 [some (aR x0), some (aI x1), some (aI x2), some (aI x3)] [] S V none S V' := by
  unfold b_M_ahead_J125 at h
  refine Ak_aload_n 126 0 (d_M_ahead 69 125 (.aload_n 0) 1 rfl) rfl rfl rfl ?_
  refine Ak_iconst 127 (d_M_ahead 70 126 (.iconst 1) 1 rfl) rfl (rk rfl) ?_
  refine Ak_iload_n 128 1 (d_M_ahead 71 127 (.iload_n 1) 1 rfl) rfl rfl rfl ?_
  obtain ⟨r25, V26, h27, h⟩ := bnd_some h
  refine Ak_cV0 131 2 (c_M_blame h27) rfl hO clX13 rfl mok_M_blame lkM_M_273 (d_M_ahead 72 128 (.invokevirtual 273) 3 rfl) rfl (by decide) (Nat.le_of_ble_eq_true rfl) ?_
  refine Ak_keep [true, true, true, true] ?_
  exact t_M_ahead_J131 hO h
theorem t_M_ahead_J93 {S : ASh} {V : ASt} {x0 x1 x2 x3 : Int} {r : Int} {V' : ASt} (hO : isO S x0 13 = true) (h : b_M_ahead_J93 S  V x0 x1 x2 x3 = some (r, V')) : AWk m_M_ahead 3 0 0 0 0 93 [some (aR x0), some (aI x1), some (aI x2), some (aI x3)] [] S V none S V' := by
  unfold b_M_ahead_J93 at h
  refine Ak_iload_n 94 1 (d_M_ahead 51 93 (.iload_n 1) 1 rfl) rfl rfl rfl ?_
  refine Ak_if_le 131 97 (d_M_ahead 52 94 (.ifCond .le 37) 3 rfl) rfl rfl (fun hc => ?_) (fun hc => ?_)
  · replace h := it_t hc h
    refine Ak_keep [true, true, true, true] ?_
    exact t_M_ahead_J131 hO h
  · replace h := it_f hc h
    refine Ak_aload_n 98 0 (d_M_ahead 53 97 (.aload_n 0) 1 rfl) rfl rfl rfl ?_
    refine Ak_getF 101 0 hO clX13 (by decide) rfl lkF_M_7 (d_M_ahead 54 98 (.getfield 7) 3 rfl) rfl ?_
    refine Ak_iload_n 102 1 (d_M_ahead 55 101 (.iload_n 1) 1 rfl) rfl rfl rfl ?_
    refine Ak_iconst 103 (d_M_ahead 56 102 (.iconst 1) 1 rfl) rfl (rk rfl) ?_
    refine Ak_isub 104 (d_M_ahead 57 103 (.isub) 1 rfl) rfl ?_
    obtain ⟨ha28, h⟩ := gd_some h
    refine Ak_iaload 105 ha28 (d_M_ahead 58 104 (.iaload) 1 rfl) rfl ?_
    obtain ⟨r29, V30, h31, h⟩ := bnd_some h
    refine Ak_cS1 108 2 (c_M_isLetter h31) rfl mok_M_isLetter lkM_M_266 (d_M_ahead 59 105 (.invokestatic 266) 3 rfl) rfl (by decide) (Nat.le_of_ble_eq_true rfl) ?_
    refine Ak_if_ne 125 111 (d_M_ahead 60 108 (.ifCond .ne 17) 3 rfl) rfl rfl (fun hc => ?_) (fun hc => ?_)
    · replace h := it_f hc h
      refine Ak_keep [true, true, true, true] ?_
      exact t_M_ahead_J125 hO h
    · replace h := it_t hc h
      refine Ak_aload_n 112 0 (d_M_ahead 61 111 (.aload_n 0) 1 rfl) rfl rfl rfl ?_
      refine Ak_getF 115 0 hO clX13 (by decide) rfl lkF_M_7 (d_M_ahead 62 112 (.getfield 7) 3 rfl) rfl ?_
      refine Ak_iload_n 116 1 (d_M_ahead 63 115 (.iload_n 1) 1 rfl) rfl rfl rfl ?_
      refine Ak_iconst 117 (d_M_ahead 64 116 (.iconst 1) 1 rfl) rfl (rk rfl) ?_
      refine Ak_isub 118 (d_M_ahead 65 117 (.isub) 1 rfl) rfl ?_
      refine Ak_iaload 119 ha28 (d_M_ahead 66 118 (.iaload) 1 rfl) rfl ?_
      obtain ⟨r32, V33, h34, h⟩ := bnd_some h
      refine Ak_cS1 122 2 (c_M_isDigit h34) rfl mok_M_isDigit lkM_M_270 (d_M_ahead 67 119 (.invokestatic 270) 3 rfl) rfl (by decide) (Nat.le_of_ble_eq_true rfl) ?_
      refine Ak_if_eq 131 125 (d_M_ahead 68 122 (.ifCond .eq 9) 3 rfl) rfl rfl (fun hc => ?_) (fun hc => ?_)
      · replace h := it_t hc h
        refine Ak_keep [true, true, true, true] ?_
        exact t_M_ahead_J131 hO h
      · replace h := it_f hc h
        refine Ak_keep [true, true, true, true] ?_
        exact t_M_ahead_J125 hO h
theorem t_M_ahead_J41 {S : ASh} {V : ASt} {x0 x1 : Int} {r : Int} {V' : ASt} (hO : isO S x0 13 = true) (h : b_M_ahead_J41 S  V x0 x1 = some (r, V')) : AWk m_M_ahead 3 0 0 0 0 41 [some (aR x0), some (aI x1)] [] S V none S V' := by
  unfold b_M_ahead_J41 at h
  refine Ak_aload_n 42 0 (d_M_ahead 21 41 (.aload_n 0) 1 rfl) rfl rfl rfl ?_
  refine Ak_iload_n 43 1 (d_M_ahead 22 42 (.iload_n 1) 1 rfl) rfl rfl rfl ?_
  refine Ak_putI 46 4 hO clX13 (by decide) rfl rfl rfl lkF_M_23 (d_M_ahead 23 43 (.putfield 23) 3 rfl) rfl (fun V35 hV35 => ?_)
  replace h := wV_some h V35 hV35
  refine Ak_aload_n 47 0 (d_M_ahead 24 46 (.aload_n 0) 1 rfl) rfl rfl rfl ?_
  refine Ak_iload_n 48 1 (d_M_ahead 25 47 (.iload_n 1) 1 rfl) rfl rfl rfl ?_
  refine Ak_putI 51 5 hO clX13 (by decide) rfl rfl rfl lkF_M_26 (d_M_ahead 26 48 (.putfield 26) 3 rfl) rfl (fun V36 hV36 => ?_)
  replace h := wV_some h V36 hV36
  refine Ak_aload_n 52 0 (d_M_ahead 27 51 (.aload_n 0) 1 rfl) rfl rfl rfl ?_
  refine Ak_iconst 53 (d_M_ahead 28 52 (.iconst 0) 1 rfl) rfl (rk rfl) ?_
  refine Ak_putI 56 3 hO clX13 (by decide) rfl rfl rfl lkF_M_20 (d_M_ahead 29 53 (.putfield 20) 3 rfl) rfl (fun V37 hV37 => ?_)
  replace h := wV_some h V37 hV37
  refine Ak_iload_n 57 1 (d_M_ahead 30 56 (.iload_n 1) 1 rfl) rfl rfl rfl ?_
  refine Ak_aload_n 58 0 (d_M_ahead 31 57 (.aload_n 0) 1 rfl) rfl rfl rfl ?_
  refine Ak_getI 61 2 hO clX13 (by decide) (Or.inl rfl) lkF_M_17 (d_M_ahead 32 58 (.getfield 17) 3 rfl) rfl ?_
  refine Ak_icmp_lt 65 64 (d_M_ahead 33 61 (.if_icmp .lt 4) 3 rfl) rfl rfl (fun hc => ?_) (fun hc => ?_)
  · replace h := it_t hc h
    refine Ak_aload_n 66 0 (d_M_ahead 35 65 (.aload_n 0) 1 rfl) rfl rfl rfl ?_
    refine Ak_getF 69 0 hO clX13 (by decide) rfl lkF_M_7 (d_M_ahead 36 66 (.getfield 7) 3 rfl) rfl ?_
    refine Ak_iload_n 70 1 (d_M_ahead 37 69 (.iload_n 1) 1 rfl) rfl rfl rfl ?_
    obtain ⟨ha38, h⟩ := gd_some h
    refine Ak_iaload 71 ha38 (d_M_ahead 38 70 (.iaload) 1 rfl) rfl ?_
    obtain ⟨r39, V40, h41, h⟩ := bnd_some h
    refine Ak_cS1 74 2 (c_M_isLetter h41) rfl mok_M_isLetter lkM_M_266 (d_M_ahead 39 71 (.invokestatic 266) 3 rfl) rfl (by decide) (Nat.le_of_ble_eq_true rfl) ?_
    refine Ak_istore_n 75 2 (d_M_ahead 40 74 (.istore_n 2) 1 rfl) rfl rfl (by decide) ?_
    refine Ak_aload_n 76 0 (d_M_ahead 41 75 (.aload_n 0) 1 rfl) rfl rfl rfl ?_
    refine Ak_getF 79 0 hO clX13 (by decide) rfl lkF_M_7 (d_M_ahead 42 76 (.getfield 7) 3 rfl) rfl ?_
    refine Ak_iload_n 80 1 (d_M_ahead 43 79 (.iload_n 1) 1 rfl) rfl rfl rfl ?_
    refine Ak_iaload 81 ha38 (d_M_ahead 44 80 (.iaload) 1 rfl) rfl ?_
    obtain ⟨r42, V43, h44, h⟩ := bnd_some h
    refine Ak_cS1 84 2 (c_M_isDigit h44) rfl mok_M_isDigit lkM_M_270 (d_M_ahead 45 81 (.invokestatic 270) 3 rfl) rfl (by decide) (Nat.le_of_ble_eq_true rfl) ?_
    refine Ak_istore_n 85 3 (d_M_ahead 46 84 (.istore_n 3) 1 rfl) rfl rfl (by decide) ?_
    refine Ak_iload_n 86 2 (d_M_ahead 47 85 (.iload_n 2) 1 rfl) rfl rfl rfl ?_
    refine Ak_if_ne 93 89 (d_M_ahead 48 86 (.ifCond .ne 7) 3 rfl) rfl rfl (fun hc => ?_) (fun hc => ?_)
    · replace h := it_f hc h
      refine Ak_keep [true, true, true, true] ?_
      exact t_M_ahead_J93 hO h
    · replace h := it_t hc h
      refine Ak_iload_n 90 3 (d_M_ahead 49 89 (.iload_n 3) 1 rfl) rfl rfl rfl ?_
      refine Ak_if_eq 131 93 (d_M_ahead 50 90 (.ifCond .eq 41) 3 rfl) rfl rfl (fun hc => ?_) (fun hc => ?_)
      · replace h := it_t hc h
        refine Ak_keep [true, true, true, true] ?_
        exact t_M_ahead_J131 hO h
      · replace h := it_f hc h
        refine Ak_keep [true, true, true, true] ?_
        exact t_M_ahead_J93 hO h
  · replace h := it_f hc h
    cases h
    exact Ak_vret rfl (d_M_ahead 34 64 (.return_) 1 rfl)
theorem t_M_ahead_L5 {S : ASh} {x0 : Int} (hO : isO S x0 13 = true) : ∀ (n : Nat) (V : ASt) (x1 : Int) (r : Int) (V' : ASt), b_M_ahead_L5 S x0 n V x1 = some (r, V') → AWk m_M_ahead 3 0 0 0 0 5 [some (aR x0), some (aI x1)] [] S V none S V' := by
  intro n
  induction n with
  | zero => intro V x1 r V' h; cases h
  | succ n ih =>
    intro V x1 r V' h
    replace ih : ∀ {V : ASt} {x1 : Int} {r : Int} {V' : ASt}, b_M_ahead_L5 S x0 n V x1 = some (r, V') → AWk m_M_ahead 3 0 0 0 0 5 [some (aR x0), some (aI x1)] [] S V none S V' := fun h => ih _ _ _ _ h
    rw [b_M_ahead_L5] at h
    refine Ak_iload_n 6 1 (d_M_ahead 3 5 (.iload_n 1) 1 rfl) rfl rfl rfl ?_
    refine Ak_aload_n 7 0 (d_M_ahead 4 6 (.aload_n 0) 1 rfl) rfl rfl rfl ?_
    refine Ak_getI 10 2 hO clX13 (by decide) (Or.inl rfl) lkF_M_17 (d_M_ahead 5 7 (.getfield 17) 3 rfl) rfl ?_
    refine Ak_icmp_ge 41 13 (d_M_ahead 6 10 (.if_icmp .ge 31) 3 rfl) rfl rfl (fun hc => ?_) (fun hc => ?_)
    · replace h := it_t hc h
      refine Ak_keep [true, true] ?_
      exact t_M_ahead_J41 hO h
    · replace h := it_f hc h
      refine Ak_aload_n 14 0 (d_M_ahead 7 13 (.aload_n 0) 1 rfl) rfl rfl rfl ?_
      refine Ak_getF 17 0 hO clX13 (by decide) rfl lkF_M_7 (d_M_ahead 8 14 (.getfield 7) 3 rfl) rfl ?_
      refine Ak_iload_n 18 1 (d_M_ahead 9 17 (.iload_n 1) 1 rfl) rfl rfl rfl ?_
      obtain ⟨ha45, h⟩ := gd_some h
      refine Ak_iaload 19 ha45 (d_M_ahead 10 18 (.iaload) 1 rfl) rfl ?_
      refine Ak_bipush 21 (d_M_ahead 11 19 (.bipush 32) 2 rfl) rfl (bp_ok rfl) (rk rfl) ?_
      refine Ak_icmp_eq 35 24 (d_M_ahead 12 21 (.if_icmp .eq 14) 3 rfl) rfl rfl (fun hc => ?_) (fun hc => ?_)
      · replace h := it_t hc h
        refine Ak_iinc 38 (d_M_ahead 19 35 (.iinc 1 1) 3 rfl) rfl rfl (by decide) ?_
        refine Ak_goto 5 (d_M_ahead 20 38 (.goto (-33)) 3 rfl) rfl ?_
        refine Ak_keep [true, true] ?_
        exact ih h
      · replace h := it_f hc h
        refine Ak_aload_n 25 0 (d_M_ahead 13 24 (.aload_n 0) 1 rfl) rfl rfl rfl ?_
        refine Ak_getF 28 0 hO clX13 (by decide) rfl lkF_M_7 (d_M_ahead 14 25 (.getfield 7) 3 rfl) rfl ?_
        refine Ak_iload_n 29 1 (d_M_ahead 15 28 (.iload_n 1) 1 rfl) rfl rfl rfl ?_
        refine Ak_iaload 30 ha45 (d_M_ahead 16 29 (.iaload) 1 rfl) rfl ?_
        refine Ak_bipush 32 (d_M_ahead 17 30 (.bipush 10) 2 rfl) rfl (bp_ok rfl) (rk rfl) ?_
        refine Ak_icmp_ne 41 35 (d_M_ahead 18 32 (.if_icmp .ne 9) 3 rfl) rfl rfl (fun hc => ?_) (fun hc => ?_)
        · replace h := it_f hc h
          refine Ak_keep [true, true] ?_
          exact t_M_ahead_J41 hO h
        · replace h := it_t hc h
          refine Ak_iinc 38 (d_M_ahead 19 35 (.iinc 1 1) 3 rfl) rfl rfl (by decide) ?_
          refine Ak_goto 5 (d_M_ahead 20 38 (.goto (-33)) 3 rfl) rfl ?_
          refine Ak_keep [true, true] ?_
          exact ih h
theorem c_M_ahead {S : ASh} {V : ASt} {x0 : Int} {r : Int} {V' : ASt} (h : f_M_ahead S V x0 = some (r, V')) : ACt m_M_ahead 3 0 0 [(aR x0)] S V none S V' := by
  unfold f_M_ahead at h
  obtain ⟨hO, h⟩ := gd_some h
  refine ACt_of (plainFor_of_name rfl) rfl (Nat.le_of_ble_eq_true rfl) ?_
  show AWk m_M_ahead 3 0 0 0 0 0 [some (aR x0)] [] S V none S V'
  refine Ak_aload_n 1 0 (d_M_ahead 0 0 (.aload_n 0) 1 rfl) rfl rfl rfl ?_
  refine Ak_getI 4 5 hO clX13 (by decide) (Or.inl rfl) lkF_M_26 (d_M_ahead 1 1 (.getfield 26) 3 rfl) rfl ?_
  refine Ak_istore_n 5 1 (d_M_ahead 2 4 (.istore_n 1) 1 rfl) rfl rfl (by decide) ?_
  refine Ak_keep [true, true] ?_
  exact t_M_ahead_L5 hO FU _ _ _ _ h
theorem c_M_isSign {S : ASh} {V : ASt} {x0 x1 : Int} {r : Int} {V' : ASt} (h : f_M_isSign S V x0 x1 = some (r, V')) : ACt m_M_isSign 2 0 0 [(aR x0), (aI x1)] S V (some (aI r)) S V' := by
  unfold f_M_isSign at h
  obtain ⟨hO, h⟩ := gd_some h
  refine ACt_of (plainFor_of_name rfl) rfl (Nat.le_of_ble_eq_true rfl) ?_
  show AWk m_M_isSign 2 0 0 0 0 0 [some (aR x0), some (aI x1)] [] S V (some (aI r)) S V'
  refine Ak_aload_n 1 0 (d_M_isSign 0 0 (.aload_n 0) 1 rfl) rfl rfl rfl ?_
  refine Ak_getI 4 3 hO clX13 (by decide) (Or.inl rfl) lkF_M_20 (d_M_isSign 1 1 (.getfield 20) 3 rfl) rfl ?_
  refine Ak_iconst 5 (d_M_isSign 2 4 (.iconst 3) 1 rfl) rfl (rk rfl) ?_
  refine Ak_icmp_ne 20 8 (d_M_isSign 3 5 (.if_icmp .ne 15) 3 rfl) rfl rfl (fun hc => ?_) (fun hc => ?_)
  · replace h := it_f hc h
    refine Ak_iconst 21 (d_M_isSign 10 20 (.iconst 0) 1 rfl) rfl (rk rfl) ?_
    cases h
    exact Ak_zret (Or.inl rfl) rfl (d_M_isSign 11 21 (.ireturn) 1 rfl)
  · replace h := it_t hc h
    refine Ak_aload_n 9 0 (d_M_isSign 4 8 (.aload_n 0) 1 rfl) rfl rfl rfl ?_
    refine Ak_getI 12 6 hO clX13 (by decide) (Or.inl rfl) lkF_M_29 (d_M_isSign 5 9 (.getfield 29) 3 rfl) rfl ?_
    refine Ak_iload_n 13 1 (d_M_isSign 6 12 (.iload_n 1) 1 rfl) rfl rfl rfl ?_
    refine Ak_icmp_ne 20 16 (d_M_isSign 7 13 (.if_icmp .ne 7) 3 rfl) rfl rfl (fun hc => ?_) (fun hc => ?_)
    · replace h := it_f hc h
      refine Ak_iconst 21 (d_M_isSign 10 20 (.iconst 0) 1 rfl) rfl (rk rfl) ?_
      cases h
      exact Ak_zret (Or.inl rfl) rfl (d_M_isSign 11 21 (.ireturn) 1 rfl)
    · replace h := it_t hc h
      refine Ak_iconst 17 (d_M_isSign 8 16 (.iconst 1) 1 rfl) rfl (rk rfl) ?_
      refine Ak_goto 21 (d_M_isSign 9 17 (.goto 4) 3 rfl) rfl ?_
      cases h
      exact Ak_zret (Or.inr rfl) rfl (d_M_isSign 11 21 (.ireturn) 1 rfl)
theorem c_M_isWord {S : ASh} {V : ASt} {x0 x1 : Int} {r : Int} {V' : ASt} (h : f_M_isWord S V x0 x1 = some (r, V')) : ACt m_M_isWord 2 0 0 [(aR x0), (aL x1)] S V (some (aI r)) S V' := by
  unfold f_M_isWord at h
  obtain ⟨hO, h⟩ := gd_some h
  refine ACt_of (plainFor_of_name rfl) rfl (Nat.le_of_ble_eq_true rfl) ?_
  show AWk m_M_isWord 2 0 0 0 0 0 [some (aR x0), some (aL x1), none] [] S V (some (aI r)) S V'
  refine Ak_aload_n 1 0 (d_M_isWord 0 0 (.aload_n 0) 1 rfl) rfl rfl rfl ?_
  refine Ak_getI 4 3 hO clX13 (by decide) (Or.inl rfl) lkF_M_20 (d_M_isWord 1 1 (.getfield 20) 3 rfl) rfl ?_
  refine Ak_iconst 5 (d_M_isWord 2 4 (.iconst 1) 1 rfl) rfl (rk rfl) ?_
  refine Ak_icmp_ne 21 8 (d_M_isWord 3 5 (.if_icmp .ne 16) 3 rfl) rfl rfl (fun hc => ?_) (fun hc => ?_)
  · replace h := it_f hc h
    refine Ak_iconst 22 (d_M_isWord 11 21 (.iconst 0) 1 rfl) rfl (rk rfl) ?_
    cases h
    exact Ak_zret (Or.inl rfl) rfl (d_M_isWord 12 22 (.ireturn) 1 rfl)
  · replace h := it_t hc h
    refine Ak_aload_n 9 0 (d_M_isWord 4 8 (.aload_n 0) 1 rfl) rfl rfl rfl ?_
    refine Ak_getL 12 7 hO clX13 (by decide) rfl lkF_M_32 (d_M_isWord 5 9 (.getfield 32) 3 rfl) rfl ?_
    refine Ak_lload_n 13 1 (d_M_isWord 6 12 (.lload_n 1) 1 rfl) rfl rfl rfl ?_
    refine Ak_lcmp 14 (d_M_isWord 7 13 (.lcmp) 1 rfl) rfl ?_
    refine Ak_if_ne 21 17 (d_M_isWord 8 14 (.ifCond .ne 7) 3 rfl) rfl rfl (fun hc => ?_) (fun hc => ?_)
    · replace h := it_f hc h
      refine Ak_iconst 22 (d_M_isWord 11 21 (.iconst 0) 1 rfl) rfl (rk rfl) ?_
      cases h
      exact Ak_zret (Or.inl rfl) rfl (d_M_isWord 12 22 (.ireturn) 1 rfl)
    · replace h := it_t hc h
      refine Ak_iconst 18 (d_M_isWord 9 17 (.iconst 1) 1 rfl) rfl (rk rfl) ?_
      refine Ak_goto 22 (d_M_isWord 10 18 (.goto 4) 3 rfl) rfl ?_
      cases h
      exact Ak_zret (Or.inr rfl) rfl (d_M_isWord 12 22 (.ireturn) 1 rfl)
theorem t_M_must_I_J17 {S : ASh} {V : ASt} {x0 : Int} {r : Int} {V' : ASt} (hO : isO S x0 13 = true) (h : b_M_must_I_J17 S  V x0 = some (r, V')) : AWk m_M_must_I 4 0 0 0 0 17 [some (aR x0)] [] S V none S V' := by
  unfold b_M_must_I_J17 at h
  refine Ak_aload_n 18 0 (d_M_must_I 9 17 (.aload_n 0) 1 rfl) rfl rfl rfl ?_
  refine Ak_getI 21 8 hO clX13 (by decide) (Or.inl rfl) lkF_M_36 (d_M_must_I 10 18 (.getfield 36) 3 rfl) rfl ?_
  refine Ak_if_ne 28 24 (d_M_must_I 11 21 (.ifCond .ne 7) 3 rfl) rfl rfl (fun hc => ?_) (fun hc => ?_)
  · replace h := it_f hc h
    cases h
    exact Ak_vret rfl (d_M_must_I 14 28 (.return_) 1 rfl)
  · replace h := it_t hc h
    refine Ak_aload_n 25 0 (d_M_must_I 12 24 (.aload_n 0) 1 rfl) rfl rfl rfl ?_
    obtain ⟨r1, V2, h3, h⟩ := bnd_some h
    refine Ak_cV0 28 3 (c_M_ahead h3) rfl hO clX13 rfl mok_M_ahead lkM_M_280 (d_M_must_I 13 25 (.invokevirtual 280) 3 rfl) rfl (by decide) (Nat.le_of_ble_eq_true rfl) ?_
    cases h
    exact Ak_vret rfl (d_M_must_I 14 28 (.return_) 1 rfl)
theorem c_M_must_I {S : ASh} {V : ASt} {x0 x1 : Int} {r : Int} {V' : ASt} (h : f_M_must_I S V x0 x1 = some (r, V')) : ACt m_M_must_I 4 0 0 [(aR x0), (aI x1)] S V none S V' := by
  unfold f_M_must_I at h
  obtain ⟨hO, h⟩ := gd_some h
  refine ACt_of (plainFor_of_name rfl) rfl (Nat.le_of_ble_eq_true rfl) ?_
  show AWk m_M_must_I 4 0 0 0 0 0 [some (aR x0), some (aI x1)] [] S V none S V'
  refine Ak_aload_n 1 0 (d_M_must_I 0 0 (.aload_n 0) 1 rfl) rfl rfl rfl ?_
  refine Ak_iload_n 2 1 (d_M_must_I 1 1 (.iload_n 1) 1 rfl) rfl rfl rfl ?_
  obtain ⟨r4, V5, h6, h⟩ := bnd_some h
  refine Ak_cV1 5 2 (c_M_isSign h6) rfl hO clX13 rfl mok_M_isSign lkM_M_277 (d_M_must_I 2 2 (.invokevirtual 277) 3 rfl) rfl (by decide) (Nat.le_of_ble_eq_true rfl) ?_
  refine Ak_if_ne 17 8 (d_M_must_I 3 5 (.ifCond .ne 12) 3 rfl) rfl rfl (fun hc => ?_) (fun hc => ?_)
  · replace h := it_f hc h
    refine Ak_keep [true] ?_
    exact t_M_must_I_J17 hO h
  · replace h := it_t hc h
    refine Ak_aload_n 9 0 (d_M_must_I 4 8 (.aload_n 0) 1 rfl) rfl rfl rfl ?_
    refine Ak_iconst 10 (d_M_must_I 5 9 (.iconst 1) 1 rfl) rfl (rk rfl) ?_
    refine Ak_aload_n 11 0 (d_M_must_I 6 10 (.aload_n 0) 1 rfl) rfl rfl rfl ?_
    refine Ak_getI 14 4 hO clX13 (by decide) (Or.inl rfl) lkF_M_23 (d_M_must_I 7 11 (.getfield 23) 3 rfl) rfl ?_
    obtain ⟨r7, V8, h9, h⟩ := bnd_some h
    refine Ak_cV0 17 2 (c_M_blame h9) rfl hO clX13 rfl mok_M_blame lkM_M_273 (d_M_must_I 8 14 (.invokevirtual 273) 3 rfl) rfl (by decide) (Nat.le_of_ble_eq_true rfl) ?_
    refine Ak_keep [true] ?_
    exact t_M_must_I_J17 hO h
theorem c_M_isOwn {S : ASh} {V : ASt} {x0 x1 : Int} {r : Int} {V' : ASt} (h : f_M_isOwn S V x0 x1 = some (r, V')) : ACt m_M_isOwn 2 0 0 [(aR x0), (aL x1)] S V (some (aI r)) S V' := by
  unfold f_M_isOwn at h
  obtain ⟨hO, h⟩ := gd_some h
  refine ACt_of (plainFor_of_name rfl) rfl (Nat.le_of_ble_eq_true rfl) ?_
  show AWk m_M_isOwn 2 0 0 0 0 0 [some (aR x0), some (aL x1), none] [] S V (some (aI r)) S V'
  refine Ak_lload_n 1 1 (d_M_isOwn 0 0 (.lload_n 1) 1 rfl) rfl rfl rfl ?_
  refine Ak_ldc2 4 422775452260 (d_M_isOwn 1 1 (.ldc2_w 283) 3 rfl) rfl lkJ_M_283 (rkL rfl) ?_
  refine Ak_lcmp 5 (d_M_isOwn 2 4 (.lcmp) 1 rfl) rfl ?_
  refine Ak_if_eq 40 8 (d_M_isOwn 3 5 (.ifCond .eq 35) 3 rfl) rfl rfl (fun hc => ?_) (fun hc => ?_)
  · replace h := it_t hc h
    refine Ak_iconst 41 (d_M_isOwn 20 40 (.iconst 1) 1 rfl) rfl (rk rfl) ?_
    cases h
    exact Ak_zret (Or.inr rfl) rfl (d_M_isOwn 21 41 (.ireturn) 1 rfl)
  · replace h := it_f hc h
    refine Ak_lload_n 9 1 (d_M_isOwn 4 8 (.lload_n 1) 1 rfl) rfl rfl rfl ?_
    refine Ak_ldc2 12 482804589413 (d_M_isOwn 5 9 (.ldc2_w 285) 3 rfl) rfl lkJ_M_285 (rkL rfl) ?_
    refine Ak_lcmp 13 (d_M_isOwn 6 12 (.lcmp) 1 rfl) rfl ?_
    refine Ak_if_eq 40 16 (d_M_isOwn 7 13 (.ifCond .eq 27) 3 rfl) rfl rfl (fun hc => ?_) (fun hc => ?_)
    · replace h := it_t hc h
      refine Ak_iconst 41 (d_M_isOwn 20 40 (.iconst 1) 1 rfl) rfl (rk rfl) ?_
      cases h
      exact Ak_zret (Or.inr rfl) rfl (d_M_isOwn 21 41 (.ireturn) 1 rfl)
    · replace h := it_f hc h
      refine Ak_lload_n 17 1 (d_M_isOwn 8 16 (.lload_n 1) 1 rfl) rfl rfl rfl ?_
      refine Ak_ldc2 20 24948 (d_M_isOwn 9 17 (.ldc2_w 287) 3 rfl) rfl lkJ_M_287 (rkL rfl) ?_
      refine Ak_lcmp 21 (d_M_isOwn 10 20 (.lcmp) 1 rfl) rfl ?_
      refine Ak_if_eq 40 24 (d_M_isOwn 11 21 (.ifCond .eq 19) 3 rfl) rfl rfl (fun hc => ?_) (fun hc => ?_)
      · replace h := it_t hc h
        refine Ak_iconst 41 (d_M_isOwn 20 40 (.iconst 1) 1 rfl) rfl (rk rfl) ?_
        cases h
        exact Ak_zret (Or.inr rfl) rfl (d_M_isOwn 21 41 (.ireturn) 1 rfl)
      · replace h := it_f hc h
        refine Ak_lload_n 25 1 (d_M_isOwn 12 24 (.lload_n 1) 1 rfl) rfl rfl rfl ?_
        refine Ak_ldc2 28 28518 (d_M_isOwn 13 25 (.ldc2_w 289) 3 rfl) rfl lkJ_M_289 (rkL rfl) ?_
        refine Ak_lcmp 29 (d_M_isOwn 14 28 (.lcmp) 1 rfl) rfl ?_
        refine Ak_if_eq 40 32 (d_M_isOwn 15 29 (.ifCond .eq 11) 3 rfl) rfl rfl (fun hc => ?_) (fun hc => ?_)
        · replace h := it_t hc h
          refine Ak_iconst 41 (d_M_isOwn 20 40 (.iconst 1) 1 rfl) rfl (rk rfl) ?_
          cases h
          exact Ak_zret (Or.inr rfl) rfl (d_M_isOwn 21 41 (.ireturn) 1 rfl)
        · replace h := it_f hc h
          refine Ak_lload_n 33 1 (d_M_isOwn 16 32 (.lload_n 1) 1 rfl) rfl rfl rfl ?_
          refine Ak_ldc2 36 1702258034 (d_M_isOwn 17 33 (.ldc2_w 291) 3 rfl) rfl lkJ_M_291 (rkL rfl) ?_
          refine Ak_lcmp 37 (d_M_isOwn 18 36 (.lcmp) 1 rfl) rfl ?_
          refine Ak_if_ne 42 40 (d_M_isOwn 19 37 (.ifCond .ne 5) 3 rfl) rfl rfl (fun hc => ?_) (fun hc => ?_)
          · replace h := it_f hc h
            refine Ak_lload_n 43 1 (d_M_isOwn 22 42 (.lload_n 1) 1 rfl) rfl rfl rfl ?_
            refine Ak_ldc2 46 495875089259 (d_M_isOwn 23 43 (.ldc2_w 293) 3 rfl) rfl lkJ_M_293 (rkL rfl) ?_
            refine Ak_lcmp 47 (d_M_isOwn 24 46 (.lcmp) 1 rfl) rfl ?_
            refine Ak_if_eq 82 50 (d_M_isOwn 25 47 (.ifCond .eq 35) 3 rfl) rfl rfl (fun hc => ?_) (fun hc => ?_)
            · replace h := it_t hc h
              refine Ak_iconst 83 (d_M_isOwn 42 82 (.iconst 1) 1 rfl) rfl (rk rfl) ?_
              cases h
              exact Ak_zret (Or.inr rfl) rfl (d_M_isOwn 43 83 (.ireturn) 1 rfl)
            · replace h := it_f hc h
              refine Ak_lload_n 51 1 (d_M_isOwn 26 50 (.lload_n 1) 1 rfl) rfl rfl rfl ?_
              refine Ak_ldc2 54 465726301555 (d_M_isOwn 27 51 (.ldc2_w 295) 3 rfl) rfl lkJ_M_295 (rkL rfl) ?_
              refine Ak_lcmp 55 (d_M_isOwn 28 54 (.lcmp) 1 rfl) rfl ?_
              refine Ak_if_eq 82 58 (d_M_isOwn 29 55 (.ifCond .eq 27) 3 rfl) rfl rfl (fun hc => ?_) (fun hc => ?_)
              · replace h := it_t hc h
                refine Ak_iconst 83 (d_M_isOwn 42 82 (.iconst 1) 1 rfl) rfl (rk rfl) ?_
                cases h
                exact Ak_zret (Or.inr rfl) rfl (d_M_isOwn 43 83 (.ireturn) 1 rfl)
              · replace h := it_f hc h
                refine Ak_lload_n 59 1 (d_M_isOwn 30 58 (.lload_n 1) 1 rfl) rfl rfl rfl ?_
                refine Ak_ldc2 62 431415719795 (d_M_isOwn 31 59 (.ldc2_w 297) 3 rfl) rfl lkJ_M_297 (rkL rfl) ?_
                refine Ak_lcmp 63 (d_M_isOwn 32 62 (.lcmp) 1 rfl) rfl ?_
                refine Ak_if_eq 82 66 (d_M_isOwn 33 63 (.ifCond .eq 19) 3 rfl) rfl rfl (fun hc => ?_) (fun hc => ?_)
                · replace h := it_t hc h
                  refine Ak_iconst 83 (d_M_isOwn 42 82 (.iconst 1) 1 rfl) rfl (rk rfl) ?_
                  cases h
                  exact Ak_zret (Or.inr rfl) rfl (d_M_isOwn 43 83 (.ireturn) 1 rfl)
                · replace h := it_f hc h
                  refine Ak_lload_n 67 1 (d_M_isOwn 34 66 (.lload_n 1) 1 rfl) rfl rfl rfl ?_
                  refine Ak_ldc2 70 2003398259 (d_M_isOwn 35 67 (.ldc2_w 299) 3 rfl) rfl lkJ_M_299 (rkL rfl) ?_
                  refine Ak_lcmp 71 (d_M_isOwn 36 70 (.lcmp) 1 rfl) rfl ?_
                  refine Ak_if_eq 82 74 (d_M_isOwn 37 71 (.ifCond .eq 11) 3 rfl) rfl rfl (fun hc => ?_) (fun hc => ?_)
                  · replace h := it_t hc h
                    refine Ak_iconst 83 (d_M_isOwn 42 82 (.iconst 1) 1 rfl) rfl (rk rfl) ?_
                    cases h
                    exact Ak_zret (Or.inr rfl) rfl (d_M_isOwn 43 83 (.ireturn) 1 rfl)
                  · replace h := it_f hc h
                    refine Ak_lload_n 75 1 (d_M_isOwn 38 74 (.lload_n 1) 1 rfl) rfl rfl rfl ?_
                    refine Ak_ldc2 78 7168377 (d_M_isOwn 39 75 (.ldc2_w 301) 3 rfl) rfl lkJ_M_301 (rkL rfl) ?_
                    refine Ak_lcmp 79 (d_M_isOwn 40 78 (.lcmp) 1 rfl) rfl ?_
                    refine Ak_if_ne 84 82 (d_M_isOwn 41 79 (.ifCond .ne 5) 3 rfl) rfl rfl (fun hc => ?_) (fun hc => ?_)
                    · replace h := it_f hc h
                      refine Ak_lload_n 85 1 (d_M_isOwn 44 84 (.lload_n 1) 1 rfl) rfl rfl rfl ?_
                      refine Ak_ldc2 88 7237492 (d_M_isOwn 45 85 (.ldc2_w 303) 3 rfl) rfl lkJ_M_303 (rkL rfl) ?_
                      refine Ak_lcmp 89 (d_M_isOwn 46 88 (.lcmp) 1 rfl) rfl ?_
                      refine Ak_if_eq 124 92 (d_M_isOwn 47 89 (.ifCond .eq 35) 3 rfl) rfl rfl (fun hc => ?_) (fun hc => ?_)
                      · replace h := it_t hc h
                        refine Ak_iconst 125 (d_M_isOwn 64 124 (.iconst 1) 1 rfl) rfl (rk rfl) ?_
                        cases h
                        exact Ak_zret (Or.inr rfl) rfl (d_M_isOwn 65 125 (.ireturn) 1 rfl)
                      · replace h := it_f hc h
                        refine Ak_lload_n 93 1 (d_M_isOwn 48 92 (.lload_n 1) 1 rfl) rfl rfl rfl ?_
                        refine Ak_ldc2 96 30064 (d_M_isOwn 49 93 (.ldc2_w 305) 3 rfl) rfl lkJ_M_305 (rkL rfl) ?_
                        refine Ak_lcmp 97 (d_M_isOwn 50 96 (.lcmp) 1 rfl) rfl ?_
                        refine Ak_if_eq 124 100 (d_M_isOwn 51 97 (.ifCond .eq 27) 3 rfl) rfl rfl (fun hc => ?_) (fun hc => ?_)
                        · replace h := it_t hc h
                          refine Ak_iconst 125 (d_M_isOwn 64 124 (.iconst 1) 1 rfl) rfl (rk rfl) ?_
                          cases h
                          exact Ak_zret (Or.inr rfl) rfl (d_M_isOwn 65 125 (.ireturn) 1 rfl)
                        · replace h := it_f hc h
                          refine Ak_lload_n 101 1 (d_M_isOwn 52 100 (.lload_n 1) 1 rfl) rfl rfl rfl ?_
                          refine Ak_ldc2 104 1685026670 (d_M_isOwn 53 101 (.ldc2_w 307) 3 rfl) rfl lkJ_M_307 (rkL rfl) ?_
                          refine Ak_lcmp 105 (d_M_isOwn 54 104 (.lcmp) 1 rfl) rfl ?_
                          refine Ak_if_eq 124 108 (d_M_isOwn 55 105 (.ifCond .eq 19) 3 rfl) rfl rfl (fun hc => ?_) (fun hc => ?_)
                          · replace h := it_t hc h
                            refine Ak_iconst 125 (d_M_isOwn 64 124 (.iconst 1) 1 rfl) rfl (rk rfl) ?_
                            cases h
                            exact Ak_zret (Or.inr rfl) rfl (d_M_isOwn 65 125 (.ireturn) 1 rfl)
                          · replace h := it_f hc h
                            refine Ak_lload_n 109 1 (d_M_isOwn 56 108 (.lload_n 1) 1 rfl) rfl rfl rfl ?_
                            refine Ak_ldc2 112 7300710 (d_M_isOwn 57 109 (.ldc2_w 309) 3 rfl) rfl lkJ_M_309 (rkL rfl) ?_
                            refine Ak_lcmp 113 (d_M_isOwn 58 112 (.lcmp) 1 rfl) rfl ?_
                            refine Ak_if_eq 124 116 (d_M_isOwn 59 113 (.ifCond .eq 11) 3 rfl) rfl rfl (fun hc => ?_) (fun hc => ?_)
                            · replace h := it_t hc h
                              refine Ak_iconst 125 (d_M_isOwn 64 124 (.iconst 1) 1 rfl) rfl (rk rfl) ?_
                              cases h
                              exact Ak_zret (Or.inr rfl) rfl (d_M_isOwn 65 125 (.ireturn) 1 rfl)
                            · replace h := it_f hc h
                              refine Ak_lload_n 117 1 (d_M_isOwn 60 116 (.lload_n 1) 1 rfl) rfl rfl rfl ?_
                              refine Ak_ldc2 120 2003330414 (d_M_isOwn 61 117 (.ldc2_w 311) 3 rfl) rfl lkJ_M_311 (rkL rfl) ?_
                              refine Ak_lcmp 121 (d_M_isOwn 62 120 (.lcmp) 1 rfl) rfl ?_
                              refine Ak_if_ne 126 124 (d_M_isOwn 63 121 (.ifCond .ne 5) 3 rfl) rfl rfl (fun hc => ?_) (fun hc => ?_)
                              · replace h := it_f hc h
                                refine Ak_lload_n 127 1 (d_M_isOwn 66 126 (.lload_n 1) 1 rfl) rfl rfl rfl ?_
                                refine Ak_ldc2 130 28530 (d_M_isOwn 67 127 (.ldc2_w 313) 3 rfl) rfl lkJ_M_313 (rkL rfl) ?_
                                refine Ak_lcmp 131 (d_M_isOwn 68 130 (.lcmp) 1 rfl) rfl ?_
                                refine Ak_if_eq 166 134 (d_M_isOwn 69 131 (.ifCond .eq 35) 3 rfl) rfl rfl (fun hc => ?_) (fun hc => ?_)
                                · replace h := it_t hc h
                                  refine Ak_iconst 167 (d_M_isOwn 86 166 (.iconst 1) 1 rfl) rfl (rk rfl) ?_
                                  cases h
                                  exact Ak_zret (Or.inr rfl) rfl (d_M_isOwn 87 167 (.ireturn) 1 rfl)
                                · replace h := it_f hc h
                                  refine Ak_lload_n 135 1 (d_M_isOwn 70 134 (.lload_n 1) 1 rfl) rfl rfl rfl ?_
                                  refine Ak_ldc2 138 6385252 (d_M_isOwn 71 135 (.ldc2_w 315) 3 rfl) rfl lkJ_M_315 (rkL rfl) ?_
                                  refine Ak_lcmp 139 (d_M_isOwn 72 138 (.lcmp) 1 rfl) rfl ?_
                                  refine Ak_if_eq 166 142 (d_M_isOwn 73 139 (.ifCond .eq 27) 3 rfl) rfl rfl (fun hc => ?_) (fun hc => ?_)
                                  · replace h := it_t hc h
                                    refine Ak_iconst 167 (d_M_isOwn 86 166 (.iconst 1) 1 rfl) rfl (rk rfl) ?_
                                    cases h
                                    exact Ak_zret (Or.inr rfl) rfl (d_M_isOwn 87 167 (.ireturn) 1 rfl)
                                  · replace h := it_f hc h
                                    refine Ak_lload_n 143 1 (d_M_isOwn 74 142 (.lload_n 1) 1 rfl) rfl rfl rfl ?_
                                    refine Ak_ldc2 146 6384748 (d_M_isOwn 75 143 (.ldc2_w 317) 3 rfl) rfl lkJ_M_317 (rkL rfl) ?_
                                    refine Ak_lcmp 147 (d_M_isOwn 76 146 (.lcmp) 1 rfl) rfl ?_
                                    refine Ak_if_eq 166 150 (d_M_isOwn 77 147 (.ifCond .eq 19) 3 rfl) rfl rfl (fun hc => ?_) (fun hc => ?_)
                                    · replace h := it_t hc h
                                      refine Ak_iconst 167 (d_M_isOwn 86 166 (.iconst 1) 1 rfl) rfl (rk rfl) ?_
                                      cases h
                                      exact Ak_zret (Or.inr rfl) rfl (d_M_isOwn 87 167 (.ireturn) 1 rfl)
                                    · replace h := it_f hc h
                                      refine Ak_lload_n 151 1 (d_M_isOwn 78 150 (.lload_n 1) 1 rfl) rfl rfl rfl ?_
                                      refine Ak_ldc2 154 1936748404 (d_M_isOwn 79 151 (.ldc2_w 319) 3 rfl) rfl lkJ_M_319 (rkL rfl) ?_
                                      refine Ak_lcmp 155 (d_M_isOwn 80 154 (.lcmp) 1 rfl) rfl ?_
                                      refine Ak_if_eq 166 158 (d_M_isOwn 81 155 (.ifCond .eq 11) 3 rfl) rfl rfl (fun hc => ?_) (fun hc => ?_)
                                      · replace h := it_t hc h
                                        refine Ak_iconst 167 (d_M_isOwn 86 166 (.iconst 1) 1 rfl) rfl (rk rfl) ?_
                                        cases h
                                        exact Ak_zret (Or.inr rfl) rfl (d_M_isOwn 87 167 (.ireturn) 1 rfl)
                                      · replace h := it_f hc h
                                        refine Ak_lload_n 159 1 (d_M_isOwn 82 158 (.lload_n 1) 1 rfl) rfl rfl rfl ?_
                                        refine Ak_ldc2 162 1735352684 (d_M_isOwn 83 159 (.ldc2_w 321) 3 rfl) rfl lkJ_M_321 (rkL rfl) ?_
                                        refine Ak_lcmp 163 (d_M_isOwn 84 162 (.lcmp) 1 rfl) rfl ?_
                                        refine Ak_if_ne 168 166 (d_M_isOwn 85 163 (.ifCond .ne 5) 3 rfl) rfl rfl (fun hc => ?_) (fun hc => ?_)
                                        · replace h := it_f hc h
                                          refine Ak_lload_n 169 1 (d_M_isOwn 88 168 (.lload_n 1) 1 rfl) rfl rfl rfl ?_
                                          refine Ak_ldc2 172 7825519 (d_M_isOwn 89 169 (.ldc2_w 323) 3 rfl) rfl lkJ_M_323 (rkL rfl) ?_
                                          refine Ak_lcmp 173 (d_M_isOwn 90 172 (.lcmp) 1 rfl) rfl ?_
                                          refine Ak_if_eq 192 176 (d_M_isOwn 91 173 (.ifCond .eq 19) 3 rfl) rfl rfl (fun hc => ?_) (fun hc => ?_)
                                          · replace h := it_t hc h
                                            refine Ak_iconst 193 (d_M_isOwn 100 192 (.iconst 1) 1 rfl) rfl (rk rfl) ?_
                                            cases h
                                            exact Ak_zret (Or.inr rfl) rfl (d_M_isOwn 101 193 (.ireturn) 1 rfl)
                                          · replace h := it_f hc h
                                            refine Ak_lload_n 177 1 (d_M_isOwn 92 176 (.lload_n 1) 1 rfl) rfl rfl rfl ?_
                                            refine Ak_ldc2 180 7170414 (d_M_isOwn 93 177 (.ldc2_w 325) 3 rfl) rfl lkJ_M_325 (rkL rfl) ?_
                                            refine Ak_lcmp 181 (d_M_isOwn 94 180 (.lcmp) 1 rfl) rfl ?_
                                            refine Ak_if_eq 192 184 (d_M_isOwn 95 181 (.ifCond .eq 11) 3 rfl) rfl rfl (fun hc => ?_) (fun hc => ?_)
                                            · replace h := it_t hc h
                                              refine Ak_iconst 193 (d_M_isOwn 100 192 (.iconst 1) 1 rfl) rfl (rk rfl) ?_
                                              cases h
                                              exact Ak_zret (Or.inr rfl) rfl (d_M_isOwn 101 193 (.ireturn) 1 rfl)
                                            · replace h := it_f hc h
                                              refine Ak_lload_n 185 1 (d_M_isOwn 96 184 (.lload_n 1) 1 rfl) rfl rfl rfl ?_
                                              refine Ak_ldc2 188 7168376 (d_M_isOwn 97 185 (.ldc2_w 327) 3 rfl) rfl lkJ_M_327 (rkL rfl) ?_
                                              refine Ak_lcmp 189 (d_M_isOwn 98 188 (.lcmp) 1 rfl) rfl ?_
                                              refine Ak_if_ne 194 192 (d_M_isOwn 99 189 (.ifCond .ne 5) 3 rfl) rfl rfl (fun hc => ?_) (fun hc => ?_)
                                              · replace h := it_f hc h
                                                refine Ak_iconst 195 (d_M_isOwn 102 194 (.iconst 0) 1 rfl) rfl (rk rfl) ?_
                                                cases h
                                                exact Ak_zret (Or.inl rfl) rfl (d_M_isOwn 103 195 (.ireturn) 1 rfl)
                                              · replace h := it_t hc h
                                                refine Ak_iconst 193 (d_M_isOwn 100 192 (.iconst 1) 1 rfl) rfl (rk rfl) ?_
                                                cases h
                                                exact Ak_zret (Or.inr rfl) rfl (d_M_isOwn 101 193 (.ireturn) 1 rfl)
                                        · replace h := it_t hc h
                                          refine Ak_iconst 167 (d_M_isOwn 86 166 (.iconst 1) 1 rfl) rfl (rk rfl) ?_
                                          cases h
                                          exact Ak_zret (Or.inr rfl) rfl (d_M_isOwn 87 167 (.ireturn) 1 rfl)
                              · replace h := it_t hc h
                                refine Ak_iconst 125 (d_M_isOwn 64 124 (.iconst 1) 1 rfl) rfl (rk rfl) ?_
                                cases h
                                exact Ak_zret (Or.inr rfl) rfl (d_M_isOwn 65 125 (.ireturn) 1 rfl)
                    · replace h := it_t hc h
                      refine Ak_iconst 83 (d_M_isOwn 42 82 (.iconst 1) 1 rfl) rfl (rk rfl) ?_
                      cases h
                      exact Ak_zret (Or.inr rfl) rfl (d_M_isOwn 43 83 (.ireturn) 1 rfl)
          · replace h := it_t hc h
            refine Ak_iconst 41 (d_M_isOwn 20 40 (.iconst 1) 1 rfl) rfl (rk rfl) ?_
            cases h
            exact Ak_zret (Or.inr rfl) rfl (d_M_isOwn 21 41 (.ireturn) 1 rfl)
theorem t_M_named_L2 {S : ASh} {x0 x1 : Int} (hO : isO S x0 13 = true) : ∀ (n : Nat) (V : ASt) (x3 : Int) (r : Int) (V' : ASt), b_M_named_L2 S x0 x1 n V x3 = some (r, V') → AWk m_M_named 2 0 0 0 0 2 [some (aR x0), some (aL x1), none, some (aI x3)] [] S V (some (aI r)) S V' := by
  intro n
  induction n with
  | zero => intro V x3 r V' h; cases h
  | succ n ih =>
    intro V x3 r V' h
    replace ih : ∀ {V : ASt} {x3 : Int} {r : Int} {V' : ASt}, b_M_named_L2 S x0 x1 n V x3 = some (r, V') → AWk m_M_named 2 0 0 0 0 2 [some (aR x0), some (aL x1), none, some (aI x3)] [] S V (some (aI r)) S V' := fun h => ih _ _ _ _ h
    rw [b_M_named_L2] at h
    refine Ak_iload_n 3 3 (d_M_named 2 2 (.iload_n 3) 1 rfl) rfl rfl rfl ?_
    refine Ak_aload_n 4 0 (d_M_named 3 3 (.aload_n 0) 1 rfl) rfl rfl rfl ?_
    refine Ak_getF 7 14 hO clX13 (by decide) rfl lkF_M_54 (d_M_named 4 4 (.getfield 54) 3 rfl) rfl ?_
    refine Ak_aload_n 8 0 (d_M_named 5 7 (.aload_n 0) 1 rfl) rfl rfl rfl ?_
    refine Ak_getI 11 30 hO clX13 (by decide) (Or.inl rfl) lkF_M_104 (d_M_named 6 8 (.getfield 104) 3 rfl) rfl ?_
    obtain ⟨ha1, h⟩ := gd_some h
    refine Ak_iaload 12 ha1 (d_M_named 7 11 (.iaload) 1 rfl) rfl ?_
    refine Ak_icmp_ge 41 15 (d_M_named 8 12 (.if_icmp .ge 29) 3 rfl) rfl rfl (fun hc => ?_) (fun hc => ?_)
    · replace h := it_t hc h
      refine Ak_iconst 42 (d_M_named 25 41 (.iconst (-1)) 1 rfl) rfl (rk rfl) ?_
      cases h
      exact Ak_iret rfl (d_M_named 26 42 (.ireturn) 1 rfl)
    · replace h := it_f hc h
      refine Ak_aload_n 16 0 (d_M_named 9 15 (.aload_n 0) 1 rfl) rfl rfl rfl ?_
      refine Ak_getF 19 15 hO clX13 (by decide) rfl lkF_M_57 (d_M_named 10 16 (.getfield 57) 3 rfl) rfl ?_
      refine Ak_iconst 20 (d_M_named 11 19 (.iconst 2) 1 rfl) rfl (rk rfl) ?_
      refine Ak_aload_n 21 0 (d_M_named 12 20 (.aload_n 0) 1 rfl) rfl rfl rfl ?_
      refine Ak_getI 24 30 hO clX13 (by decide) (Or.inl rfl) lkF_M_104 (d_M_named 13 21 (.getfield 104) 3 rfl) rfl ?_
      refine Ak_imul 25 (d_M_named 14 24 (.imul) 1 rfl) rfl ?_
      refine Ak_iload_n 26 3 (d_M_named 15 25 (.iload_n 3) 1 rfl) rfl rfl rfl ?_
      refine Ak_iadd 27 (d_M_named 16 26 (.iadd) 1 rfl) rfl ?_
      obtain ⟨ha2, h⟩ := gd_some h
      refine Ak_laload 28 ha2 (d_M_named 17 27 (.laload) 1 rfl) rfl ?_
      refine Ak_lload_n 29 1 (d_M_named 18 28 (.lload_n 1) 1 rfl) rfl rfl rfl ?_
      refine Ak_lcmp 30 (d_M_named 19 29 (.lcmp) 1 rfl) rfl ?_
      refine Ak_if_ne 35 33 (d_M_named 20 30 (.ifCond .ne 5) 3 rfl) rfl rfl (fun hc => ?_) (fun hc => ?_)
      · replace h := it_f hc h
        refine Ak_iinc 38 (d_M_named 23 35 (.iinc 3 1) 3 rfl) rfl rfl (by decide) ?_
        refine Ak_goto 2 (d_M_named 24 38 (.goto (-36)) 3 rfl) rfl ?_
        refine Ak_keep [true, true, false, true] ?_
        exact ih h
      · replace h := it_t hc h
        refine Ak_iload_n 34 3 (d_M_named 21 33 (.iload_n 3) 1 rfl) rfl rfl rfl ?_
        cases h
        exact Ak_iret rfl (d_M_named 22 34 (.ireturn) 1 rfl)
theorem c_M_named {S : ASh} {V : ASt} {x0 x1 : Int} {r : Int} {V' : ASt} (h : f_M_named S V x0 x1 = some (r, V')) : ACt m_M_named 2 0 0 [(aR x0), (aL x1)] S V (some (aI r)) S V' := by
  unfold f_M_named at h
  obtain ⟨hO, h⟩ := gd_some h
  refine ACt_of (plainFor_of_name rfl) rfl (Nat.le_of_ble_eq_true rfl) ?_
  show AWk m_M_named 2 0 0 0 0 0 [some (aR x0), some (aL x1), none] [] S V (some (aI r)) S V'
  refine Ak_iconst 1 (d_M_named 0 0 (.iconst 0) 1 rfl) rfl (rk rfl) ?_
  refine Ak_istore_n 2 3 (d_M_named 1 1 (.istore_n 3) 1 rfl) rfl rfl (by decide) ?_
  refine Ak_keep [true, true, false, true] ?_
  exact t_M_named_L2 hO FU _ _ _ _ h
theorem t_M_number_J54 {S : ASh} {V : ASt} {x0 : Int} {r : Int} {V' : ASt} (hO : isO S x0 13 = true) (h : b_M_number_J54 S  V x0 = some (r, V')) : AWk m_M_number 4 0 0 0 0 54 [some (aR x0)] [] S V (some (aI r)) S V' := by
  unfold b_M_number_J54 at h
  refine Ak_aload_n 55 0 (d_M_number 28 54 (.aload_n 0) 1 rfl) rfl rfl rfl ?_
  refine Ak_getI 58 6 hO clX13 (by decide) (Or.inl rfl) lkF_M_29 (d_M_number 29 55 (.getfield 29) 3 rfl) rfl ?_
  refine Ak_istore_n 59 3 (d_M_number 30 58 (.istore_n 3) 1 rfl) rfl rfl (by decide) ?_
  refine Ak_aload_n 60 0 (d_M_number 31 59 (.aload_n 0) 1 rfl) rfl rfl rfl ?_
  refine Ak_getI 63 8 hO clX13 (by decide) (Or.inl rfl) lkF_M_36 (d_M_number 32 60 (.getfield 36) 3 rfl) rfl ?_
  refine Ak_if_ne 70 66 (d_M_number 33 63 (.ifCond .ne 7) 3 rfl) rfl rfl (fun hc => ?_) (fun hc => ?_)
  · replace h := it_f hc h
    refine Ak_iload_n 71 3 (d_M_number 36 70 (.iload_n 3) 1 rfl) rfl rfl rfl ?_
    cases h
    exact Ak_iret rfl (d_M_number 37 71 (.ireturn) 1 rfl)
  · replace h := it_t hc h
    refine Ak_aload_n 67 0 (d_M_number 34 66 (.aload_n 0) 1 rfl) rfl rfl rfl ?_
    obtain ⟨r1, V2, h3, h⟩ := bnd_some h
    refine Ak_cV0 70 3 (c_M_ahead h3) rfl hO clX13 rfl mok_M_ahead lkM_M_280 (d_M_number 35 67 (.invokevirtual 280) 3 rfl) rfl (by decide) (Nat.le_of_ble_eq_true rfl) ?_
    refine Ak_iload_n 71 3 (d_M_number 36 70 (.iload_n 3) 1 rfl) rfl rfl rfl ?_
    cases h
    exact Ak_iret rfl (d_M_number 37 71 (.ireturn) 1 rfl)
theorem t_M_number_J26 {S : ASh} {V : ASt} {x0 x1 x2 : Int} {r : Int} {V' : ASt} (hO : isO S x0 13 = true) (h : b_M_number_J26 S  V x0 x1 x2 = some (r, V')) : AWk m_M_number 4 0 0 0 0 26 [some (aR x0), some (aI x1), some (aI x2)] [] S V (some (aI r)) S V' := by
  unfold b_M_number_J26 at h
  refine Ak_aload_n 27 0 (d_M_number 14 26 (.aload_n 0) 1 rfl) rfl rfl rfl ?_
  refine Ak_getI 30 8 hO clX13 (by decide) (Or.inl rfl) lkF_M_36 (d_M_number 15 27 (.getfield 36) 3 rfl) rfl ?_
  refine Ak_if_ne 54 33 (d_M_number 16 30 (.ifCond .ne 24) 3 rfl) rfl rfl (fun hc => ?_) (fun hc => ?_)
  · replace h := it_f hc h
    refine Ak_keep [true] ?_
    exact t_M_number_J54 hO h
  · replace h := it_t hc h
    refine Ak_aload_n 34 0 (d_M_number 17 33 (.aload_n 0) 1 rfl) rfl rfl rfl ?_
    refine Ak_getI 37 6 hO clX13 (by decide) (Or.inl rfl) lkF_M_29 (d_M_number 18 34 (.getfield 29) 3 rfl) rfl ?_
    refine Ak_iload_n 38 1 (d_M_number 19 37 (.iload_n 1) 1 rfl) rfl rfl rfl ?_
    refine Ak_iload_n 39 2 (d_M_number 20 38 (.iload_n 2) 1 rfl) rfl rfl rfl ?_
    obtain ⟨r4, V5, h6, h⟩ := bnd_some h
    refine Ak_cS1 42 2 (c_M_is h6) rfl mok_M_is lkM_M_329 (d_M_number 21 39 (.invokestatic 329) 3 rfl) rfl (by decide) (Nat.le_of_ble_eq_true rfl) ?_
    refine Ak_if_ne 54 45 (d_M_number 22 42 (.ifCond .ne 12) 3 rfl) rfl rfl (fun hc => ?_) (fun hc => ?_)
    · replace h := it_f hc h
      refine Ak_keep [true] ?_
      exact t_M_number_J54 hO h
    · replace h := it_t hc h
      refine Ak_aload_n 46 0 (d_M_number 23 45 (.aload_n 0) 1 rfl) rfl rfl rfl ?_
      refine Ak_iconst 47 (d_M_number 24 46 (.iconst 4) 1 rfl) rfl (rk rfl) ?_
      refine Ak_aload_n 48 0 (d_M_number 25 47 (.aload_n 0) 1 rfl) rfl rfl rfl ?_
      refine Ak_getI 51 4 hO clX13 (by decide) (Or.inl rfl) lkF_M_23 (d_M_number 26 48 (.getfield 23) 3 rfl) rfl ?_
      obtain ⟨r7, V8, h9, h⟩ := bnd_some h
      refine Ak_cV0 54 2 (c_M_blame h9) rfl hO clX13 rfl mok_M_blame lkM_M_273 (d_M_number 27 51 (.invokevirtual 273) 3 rfl) rfl (by decide) (Nat.le_of_ble_eq_true rfl) ?_
      refine Ak_keep [true] ?_
      exact t_M_number_J54 hO h
theorem c_M_number {S : ASh} {V : ASt} {x0 x1 x2 : Int} {r : Int} {V' : ASt} (h : f_M_number S V x0 x1 x2 = some (r, V')) : ACt m_M_number 4 0 0 [(aR x0), (aI x1), (aI x2)] S V (some (aI r)) S V' := by
  unfold f_M_number at h
  obtain ⟨hO, h⟩ := gd_some h
  refine ACt_of (plainFor_of_name rfl) rfl (Nat.le_of_ble_eq_true rfl) ?_
  show AWk m_M_number 4 0 0 0 0 0 [some (aR x0), some (aI x1), some (aI x2)] [] S V (some (aI r)) S V'
  refine Ak_aload_n 1 0 (d_M_number 0 0 (.aload_n 0) 1 rfl) rfl rfl rfl ?_
  refine Ak_getI 4 8 hO clX13 (by decide) (Or.inl rfl) lkF_M_36 (d_M_number 1 1 (.getfield 36) 3 rfl) rfl ?_
  refine Ak_if_le 9 7 (d_M_number 2 4 (.ifCond .le 5) 3 rfl) rfl rfl (fun hc => ?_) (fun hc => ?_)
  · replace h := it_t hc h
    refine Ak_aload_n 10 0 (d_M_number 5 9 (.aload_n 0) 1 rfl) rfl rfl rfl ?_
    refine Ak_getI 13 3 hO clX13 (by decide) (Or.inl rfl) lkF_M_20 (d_M_number 6 10 (.getfield 20) 3 rfl) rfl ?_
    refine Ak_iconst 14 (d_M_number 7 13 (.iconst 2) 1 rfl) rfl (rk rfl) ?_
    refine Ak_icmp_eq 26 17 (d_M_number 8 14 (.if_icmp .eq 12) 3 rfl) rfl rfl (fun hc => ?_) (fun hc => ?_)
    · replace h := it_t hc h
      refine Ak_keep [true, true, true] ?_
      exact t_M_number_J26 hO h
    · replace h := it_f hc h
      refine Ak_aload_n 18 0 (d_M_number 9 17 (.aload_n 0) 1 rfl) rfl rfl rfl ?_
      refine Ak_iconst 19 (d_M_number 10 18 (.iconst 1) 1 rfl) rfl (rk rfl) ?_
      refine Ak_aload_n 20 0 (d_M_number 11 19 (.aload_n 0) 1 rfl) rfl rfl rfl ?_
      refine Ak_getI 23 4 hO clX13 (by decide) (Or.inl rfl) lkF_M_23 (d_M_number 12 20 (.getfield 23) 3 rfl) rfl ?_
      obtain ⟨r10, V11, h12, h⟩ := bnd_some h
      refine Ak_cV0 26 2 (c_M_blame h12) rfl hO clX13 rfl mok_M_blame lkM_M_273 (d_M_number 13 23 (.invokevirtual 273) 3 rfl) rfl (by decide) (Nat.le_of_ble_eq_true rfl) ?_
      refine Ak_keep [true, true, true] ?_
      exact t_M_number_J26 hO h
  · replace h := it_f hc h
    refine Ak_iconst 8 (d_M_number 3 7 (.iconst 0) 1 rfl) rfl (rk rfl) ?_
    cases h
    exact Ak_iret rfl (d_M_number 4 8 (.ireturn) 1 rfl)
theorem c_M_add {S : ASh} {V : ASt} {x0 x1 x2 : Int} {r : Int} {V' : ASt} (h : f_M_add S V x0 x1 x2 = some (r, V')) : ACt m_M_add 2 0 0 [(aR x0), (aI x1), (aI x2)] S V none S V' := by
  unfold f_M_add at h
  obtain ⟨hO, h⟩ := gd_some h
  refine ACt_of (plainFor_of_name rfl) rfl (Nat.le_of_ble_eq_true rfl) ?_
  show AWk m_M_add 2 0 0 0 0 0 [some (aR x0), some (aI x1), some (aI x2)] [] S V none S V'
  refine Ak_aload_n 1 0 (d_M_add 0 0 (.aload_n 0) 1 rfl) rfl rfl rfl ?_
  refine Ak_getF 4 27 hO clX13 (by decide) rfl lkF_M_95 (d_M_add 1 1 (.getfield 95) 3 rfl) rfl ?_
  refine Ak_sipush 7 (d_M_add 2 4 (.sipush 1800) 3 rfl) rfl (sp_ok rfl) (rk rfl) ?_
  refine Ak_aload_n 8 0 (d_M_add 3 7 (.aload_n 0) 1 rfl) rfl rfl rfl ?_
  refine Ak_getI 11 30 hO clX13 (by decide) (Or.inl rfl) lkF_M_104 (d_M_add 4 8 (.getfield 104) 3 rfl) rfl ?_
  refine Ak_imul 12 (d_M_add 5 11 (.imul) 1 rfl) rfl ?_
  refine Ak_aload_n 13 0 (d_M_add 6 12 (.aload_n 0) 1 rfl) rfl rfl rfl ?_
  refine Ak_getI 16 29 hO clX13 (by decide) (Or.inl rfl) lkF_M_101 (d_M_add 7 13 (.getfield 101) 3 rfl) rfl ?_
  refine Ak_iadd 17 (d_M_add 8 16 (.iadd) 1 rfl) rfl ?_
  refine Ak_iload_n 18 1 (d_M_add 9 17 (.iload_n 1) 1 rfl) rfl rfl rfl ?_
  obtain ⟨ha1, h⟩ := gd_some h
  refine Ak_iastore 19 ha1 (d_M_add 10 18 (.iastore) 1 rfl) rfl (fun V2 hV2 => ?_)
  replace h := wV_some h V2 hV2
  refine Ak_aload_n 20 0 (d_M_add 11 19 (.aload_n 0) 1 rfl) rfl rfl rfl ?_
  refine Ak_getF 23 28 hO clX13 (by decide) rfl lkF_M_98 (d_M_add 12 20 (.getfield 98) 3 rfl) rfl ?_
  refine Ak_sipush 26 (d_M_add 13 23 (.sipush 1800) 3 rfl) rfl (sp_ok rfl) (rk rfl) ?_
  refine Ak_aload_n 27 0 (d_M_add 14 26 (.aload_n 0) 1 rfl) rfl rfl rfl ?_
  refine Ak_getI 30 30 hO clX13 (by decide) (Or.inl rfl) lkF_M_104 (d_M_add 15 27 (.getfield 104) 3 rfl) rfl ?_
  refine Ak_imul 31 (d_M_add 16 30 (.imul) 1 rfl) rfl ?_
  refine Ak_aload_n 32 0 (d_M_add 17 31 (.aload_n 0) 1 rfl) rfl rfl rfl ?_
  refine Ak_getI 35 29 hO clX13 (by decide) (Or.inl rfl) lkF_M_101 (d_M_add 18 32 (.getfield 101) 3 rfl) rfl ?_
  refine Ak_iadd 36 (d_M_add 19 35 (.iadd) 1 rfl) rfl ?_
  refine Ak_iload_n 37 2 (d_M_add 20 36 (.iload_n 2) 1 rfl) rfl rfl rfl ?_
  obtain ⟨ha3, h⟩ := gd_some h
  refine Ak_iastore 38 ha3 (d_M_add 21 37 (.iastore) 1 rfl) rfl (fun V4 hV4 => ?_)
  replace h := wV_some h V4 hV4
  refine Ak_aload_n 39 0 (d_M_add 22 38 (.aload_n 0) 1 rfl) rfl rfl rfl ?_
  refine Ak_dup 40 (d_M_add 23 39 (.dup) 1 rfl) rfl rfl ?_
  refine Ak_getI 43 29 hO clX13 (by decide) (Or.inl rfl) lkF_M_101 (d_M_add 24 40 (.getfield 101) 3 rfl) rfl ?_
  refine Ak_iconst 44 (d_M_add 25 43 (.iconst 1) 1 rfl) rfl (rk rfl) ?_
  refine Ak_iadd 45 (d_M_add 26 44 (.iadd) 1 rfl) rfl ?_
  refine Ak_putI 48 29 hO clX13 (by decide) rfl rfl rfl lkF_M_101 (d_M_add 27 45 (.putfield 101) 3 rfl) rfl (fun V5 hV5 => ?_)
  replace h := wV_some h V5 hV5
  cases h
  exact Ak_vret rfl (d_M_add 28 48 (.return_) 1 rfl)
theorem c_M_rank {S : ASh} {V : ASt} {x0 : Int} {r : Int} {V' : ASt} (h : f_M_rank S V x0 = some (r, V')) : ACt m_M_rank 2 0 0 [(aI x0)] S V (some (aI r)) S V' := by
  unfold f_M_rank at h
  refine ACt_of (plainFor_of_name rfl) rfl (Nat.le_of_ble_eq_true rfl) ?_
  show AWk m_M_rank 2 0 0 0 0 0 [some (aI x0)] [] S V (some (aI r)) S V'
  refine Ak_iload_n 1 0 (d_M_rank 0 0 (.iload_n 0) 1 rfl) rfl rfl rfl ?_
  refine Ak_bipush 3 (d_M_rank 1 1 (.bipush 21) 2 rfl) rfl (bp_ok rfl) (rk rfl) ?_
  refine Ak_icmp_ne 10 6 (d_M_rank 2 3 (.if_icmp .ne 7) 3 rfl) rfl rfl (fun hc => ?_) (fun hc => ?_)
  · replace h := it_f hc h
    refine Ak_iload_n 11 0 (d_M_rank 5 10 (.iload_n 0) 1 rfl) rfl rfl rfl ?_
    refine Ak_bipush 13 (d_M_rank 6 11 (.bipush 20) 2 rfl) rfl (bp_ok rfl) (rk rfl) ?_
    refine Ak_icmp_ne 20 16 (d_M_rank 7 13 (.if_icmp .ne 7) 3 rfl) rfl rfl (fun hc => ?_) (fun hc => ?_)
    · replace h := it_f hc h
      refine Ak_iload_n 21 0 (d_M_rank 10 20 (.iload_n 0) 1 rfl) rfl rfl rfl ?_
      refine Ak_bipush 23 (d_M_rank 11 21 (.bipush 22) 2 rfl) rfl (bp_ok rfl) (rk rfl) ?_
      refine Ak_icmp_ne 30 26 (d_M_rank 12 23 (.if_icmp .ne 7) 3 rfl) rfl rfl (fun hc => ?_) (fun hc => ?_)
      · replace h := it_f hc h
        refine Ak_iload_n 31 0 (d_M_rank 15 30 (.iload_n 0) 1 rfl) rfl rfl rfl ?_
        refine Ak_bipush 33 (d_M_rank 16 31 (.bipush 17) 2 rfl) rfl (bp_ok rfl) (rk rfl) ?_
        refine Ak_icmp_eq 48 36 (d_M_rank 17 33 (.if_icmp .eq 15) 3 rfl) rfl rfl (fun hc => ?_) (fun hc => ?_)
        · replace h := it_t hc h
          refine Ak_iconst 49 (d_M_rank 24 48 (.iconst 4) 1 rfl) rfl (rk rfl) ?_
          refine Ak_goto 70 (d_M_rank 25 49 (.goto 21) 3 rfl) rfl ?_
          cases h
          exact Ak_iret rfl (d_M_rank 35 70 (.ireturn) 1 rfl)
        · replace h := it_f hc h
          refine Ak_iload_n 37 0 (d_M_rank 18 36 (.iload_n 0) 1 rfl) rfl rfl rfl ?_
          refine Ak_bipush 39 (d_M_rank 19 37 (.bipush 18) 2 rfl) rfl (bp_ok rfl) (rk rfl) ?_
          refine Ak_icmp_eq 48 42 (d_M_rank 20 39 (.if_icmp .eq 9) 3 rfl) rfl rfl (fun hc => ?_) (fun hc => ?_)
          · replace h := it_t hc h
            refine Ak_iconst 49 (d_M_rank 24 48 (.iconst 4) 1 rfl) rfl (rk rfl) ?_
            refine Ak_goto 70 (d_M_rank 25 49 (.goto 21) 3 rfl) rfl ?_
            cases h
            exact Ak_iret rfl (d_M_rank 35 70 (.ireturn) 1 rfl)
          · replace h := it_f hc h
            refine Ak_iload_n 43 0 (d_M_rank 21 42 (.iload_n 0) 1 rfl) rfl rfl rfl ?_
            refine Ak_bipush 45 (d_M_rank 22 43 (.bipush 19) 2 rfl) rfl (bp_ok rfl) (rk rfl) ?_
            refine Ak_icmp_ne 52 48 (d_M_rank 23 45 (.if_icmp .ne 7) 3 rfl) rfl rfl (fun hc => ?_) (fun hc => ?_)
            · replace h := it_f hc h
              refine Ak_iload_n 53 0 (d_M_rank 26 52 (.iload_n 0) 1 rfl) rfl rfl rfl ?_
              refine Ak_bipush 55 (d_M_rank 27 53 (.bipush 10) 2 rfl) rfl (bp_ok rfl) (rk rfl) ?_
              refine Ak_icmp_eq 64 58 (d_M_rank 28 55 (.if_icmp .eq 9) 3 rfl) rfl rfl (fun hc => ?_) (fun hc => ?_)
              · replace h := it_t hc h
                refine Ak_iconst 65 (d_M_rank 32 64 (.iconst 5) 1 rfl) rfl (rk rfl) ?_
                refine Ak_goto 70 (d_M_rank 33 65 (.goto 5) 3 rfl) rfl ?_
                cases h
                exact Ak_iret rfl (d_M_rank 35 70 (.ireturn) 1 rfl)
              · replace h := it_f hc h
                refine Ak_iload_n 59 0 (d_M_rank 29 58 (.iload_n 0) 1 rfl) rfl rfl rfl ?_
                refine Ak_bipush 61 (d_M_rank 30 59 (.bipush 11) 2 rfl) rfl (bp_ok rfl) (rk rfl) ?_
                refine Ak_icmp_ne 68 64 (d_M_rank 31 61 (.if_icmp .ne 7) 3 rfl) rfl rfl (fun hc => ?_) (fun hc => ?_)
                · replace h := it_f hc h
                  refine Ak_bipush 70 (d_M_rank 34 68 (.bipush 6) 2 rfl) rfl (bp_ok rfl) (rk rfl) ?_
                  cases h
                  exact Ak_iret rfl (d_M_rank 35 70 (.ireturn) 1 rfl)
                · replace h := it_t hc h
                  refine Ak_iconst 65 (d_M_rank 32 64 (.iconst 5) 1 rfl) rfl (rk rfl) ?_
                  refine Ak_goto 70 (d_M_rank 33 65 (.goto 5) 3 rfl) rfl ?_
                  cases h
                  exact Ak_iret rfl (d_M_rank 35 70 (.ireturn) 1 rfl)
            · replace h := it_t hc h
              refine Ak_iconst 49 (d_M_rank 24 48 (.iconst 4) 1 rfl) rfl (rk rfl) ?_
              refine Ak_goto 70 (d_M_rank 25 49 (.goto 21) 3 rfl) rfl ?_
              cases h
              exact Ak_iret rfl (d_M_rank 35 70 (.ireturn) 1 rfl)
      · replace h := it_t hc h
        refine Ak_iconst 27 (d_M_rank 13 26 (.iconst 3) 1 rfl) rfl (rk rfl) ?_
        refine Ak_goto 70 (d_M_rank 14 27 (.goto 43) 3 rfl) rfl ?_
        cases h
        exact Ak_iret rfl (d_M_rank 35 70 (.ireturn) 1 rfl)
    · replace h := it_t hc h
      refine Ak_iconst 17 (d_M_rank 8 16 (.iconst 2) 1 rfl) rfl (rk rfl) ?_
      refine Ak_goto 70 (d_M_rank 9 17 (.goto 53) 3 rfl) rfl ?_
      cases h
      exact Ak_iret rfl (d_M_rank 35 70 (.ireturn) 1 rfl)
  · replace h := it_t hc h
    refine Ak_iconst 7 (d_M_rank 3 6 (.iconst 1) 1 rfl) rfl (rk rfl) ?_
    refine Ak_goto 70 (d_M_rank 4 7 (.goto 63) 3 rfl) rfl ?_
    cases h
    exact Ak_iret rfl (d_M_rank 35 70 (.ireturn) 1 rfl)
theorem t_M_joins_L0 {S : ASh} {x0 x1 : Int} (hO : isO S x0 13 = true) : ∀ (n : Nat) (V : ASt) (r : Int) (V' : ASt), b_M_joins_L0 S x0 x1 n V  = some (r, V') → AWk m_M_joins 3 0 0 0 0 0 [some (aR x0), some (aI x1)] [] S V none S V' := by
  intro n
  induction n with
  | zero => intro V  r V' h; cases h
  | succ n ih =>
    intro V  r V' h
    replace ih : ∀ {V : ASt} {r : Int} {V' : ASt}, b_M_joins_L0 S x0 x1 n V  = some (r, V') → AWk m_M_joins 3 0 0 0 0 0 [some (aR x0), some (aI x1)] [] S V none S V' := fun h => ih _  _ _ h
    rw [b_M_joins_L0] at h
    refine Ak_aload_n 1 0 (d_M_joins 0 0 (.aload_n 0) 1 rfl) rfl rfl rfl ?_
    refine Ak_getI 4 39 hO clX13 (by decide) (Or.inl rfl) lkF_M_131 (d_M_joins 1 1 (.getfield 131) 3 rfl) rfl ?_
    refine Ak_aload_n 5 0 (d_M_joins 2 4 (.aload_n 0) 1 rfl) rfl rfl rfl ?_
    refine Ak_getF 8 35 hO clX13 (by decide) rfl lkF_M_119 (d_M_joins 3 5 (.getfield 119) 3 rfl) rfl ?_
    refine Ak_aload_n 9 0 (d_M_joins 4 8 (.aload_n 0) 1 rfl) rfl rfl rfl ?_
    refine Ak_getI 12 36 hO clX13 (by decide) (Or.inl rfl) lkF_M_122 (d_M_joins 5 9 (.getfield 122) 3 rfl) rfl ?_
    refine Ak_iconst 13 (d_M_joins 6 12 (.iconst 1) 1 rfl) rfl (rk rfl) ?_
    refine Ak_isub 14 (d_M_joins 7 13 (.isub) 1 rfl) rfl ?_
    obtain ⟨ha1, h⟩ := gd_some h
    refine Ak_iaload 15 ha1 (d_M_joins 8 14 (.iaload) 1 rfl) rfl ?_
    refine Ak_icmp_le 63 18 (d_M_joins 9 15 (.if_icmp .le 48) 3 rfl) rfl rfl (fun hc => ?_) (fun hc => ?_)
    · replace h := it_t hc h
      cases h
      exact Ak_vret rfl (d_M_joins 35 63 (.return_) 1 rfl)
    · replace h := it_f hc h
      refine Ak_aload_n 19 0 (d_M_joins 10 18 (.aload_n 0) 1 rfl) rfl rfl rfl ?_
      refine Ak_getF 22 38 hO clX13 (by decide) rfl lkF_M_128 (d_M_joins 11 19 (.getfield 128) 3 rfl) rfl ?_
      refine Ak_aload_n 23 0 (d_M_joins 12 22 (.aload_n 0) 1 rfl) rfl rfl rfl ?_
      refine Ak_getI 26 39 hO clX13 (by decide) (Or.inl rfl) lkF_M_131 (d_M_joins 13 23 (.getfield 131) 3 rfl) rfl ?_
      refine Ak_iconst 27 (d_M_joins 14 26 (.iconst 1) 1 rfl) rfl (rk rfl) ?_
      refine Ak_isub 28 (d_M_joins 15 27 (.isub) 1 rfl) rfl ?_
      obtain ⟨ha2, h⟩ := gd_some h
      refine Ak_iaload 29 ha2 (d_M_joins 16 28 (.iaload) 1 rfl) rfl ?_
      obtain ⟨r3, V4, h5, h⟩ := bnd_some h
      refine Ak_cS1 32 2 (c_M_rank h5) rfl mok_M_rank lkM_M_333 (d_M_joins 17 29 (.invokestatic 333) 3 rfl) rfl (by decide) (Nat.le_of_ble_eq_true rfl) ?_
      refine Ak_iload_n 33 1 (d_M_joins 18 32 (.iload_n 1) 1 rfl) rfl rfl rfl ?_
      refine Ak_icmp_lt 63 36 (d_M_joins 19 33 (.if_icmp .lt 30) 3 rfl) rfl rfl (fun hc => ?_) (fun hc => ?_)
      · replace h := it_t hc h
        cases h
        exact Ak_vret rfl (d_M_joins 35 63 (.return_) 1 rfl)
      · replace h := it_f hc h
        refine Ak_aload_n 37 0 (d_M_joins 20 36 (.aload_n 0) 1 rfl) rfl rfl rfl ?_
        refine Ak_dup 38 (d_M_joins 21 37 (.dup) 1 rfl) rfl rfl ?_
        refine Ak_getI 41 39 hO clX13 (by decide) (Or.inl rfl) lkF_M_131 (d_M_joins 22 38 (.getfield 131) 3 rfl) rfl ?_
        refine Ak_iconst 42 (d_M_joins 23 41 (.iconst 1) 1 rfl) rfl (rk rfl) ?_
        refine Ak_isub 43 (d_M_joins 24 42 (.isub) 1 rfl) rfl ?_
        refine Ak_putI 46 39 hO clX13 (by decide) rfl rfl rfl lkF_M_131 (d_M_joins 25 43 (.putfield 131) 3 rfl) rfl (fun V6 hV6 => ?_)
        replace h := wV_some h V6 hV6
        refine Ak_aload_n 47 0 (d_M_joins 26 46 (.aload_n 0) 1 rfl) rfl rfl rfl ?_
        refine Ak_aload_n 48 0 (d_M_joins 27 47 (.aload_n 0) 1 rfl) rfl rfl rfl ?_
        refine Ak_getF 51 38 hO clX13 (by decide) rfl lkF_M_128 (d_M_joins 28 48 (.getfield 128) 3 rfl) rfl ?_
        refine Ak_aload_n 52 0 (d_M_joins 29 51 (.aload_n 0) 1 rfl) rfl rfl rfl ?_
        refine Ak_getI 55 39 hO clX13 (by decide) (Or.inl rfl) lkF_M_131 (d_M_joins 30 52 (.getfield 131) 3 rfl) rfl ?_
        obtain ⟨ha7, h⟩ := gd_some h
        refine Ak_iaload 56 ha7 (d_M_joins 31 55 (.iaload) 1 rfl) rfl ?_
        refine Ak_iconst 57 (d_M_joins 32 56 (.iconst 0) 1 rfl) rfl (rk rfl) ?_
        obtain ⟨r8, V9, h10, h⟩ := bnd_some h
        refine Ak_cV0 60 2 (c_M_add h10) rfl hO clX13 rfl mok_M_add lkM_M_336 (d_M_joins 33 57 (.invokevirtual 336) 3 rfl) rfl (by decide) (Nat.le_of_ble_eq_true rfl) ?_
        refine Ak_goto 0 (d_M_joins 34 60 (.goto (-60)) 3 rfl) rfl ?_
        refine Ak_keep [true, true] ?_
        exact ih h
theorem c_M_joins {S : ASh} {V : ASt} {x0 x1 : Int} {r : Int} {V' : ASt} (h : f_M_joins S V x0 x1 = some (r, V')) : ACt m_M_joins 3 0 0 [(aR x0), (aI x1)] S V none S V' := by
  unfold f_M_joins at h
  obtain ⟨hO, h⟩ := gd_some h
  refine ACt_of (plainFor_of_name rfl) rfl (Nat.le_of_ble_eq_true rfl) ?_
  show AWk m_M_joins 3 0 0 0 0 0 [some (aR x0), some (aI x1)] [] S V none S V'
  refine Ak_keep [true, true] ?_
  exact t_M_joins_L0 hO FU _ _ _ h
theorem c_M_holdsBack {S : ASh} {V : ASt} {x0 x1 : Int} {r : Int} {V' : ASt} (h : f_M_holdsBack S V x0 x1 = some (r, V')) : ACt m_M_holdsBack 2 0 0 [(aR x0), (aI x1)] S V none S V' := by
  unfold f_M_holdsBack at h
  obtain ⟨hO, h⟩ := gd_some h
  refine ACt_of (plainFor_of_name rfl) rfl (Nat.le_of_ble_eq_true rfl) ?_
  show AWk m_M_holdsBack 2 0 0 0 0 0 [some (aR x0), some (aI x1)] [] S V none S V'
  refine Ak_aload_n 1 0 (d_M_holdsBack 0 0 (.aload_n 0) 1 rfl) rfl rfl rfl ?_
  refine Ak_getF 4 38 hO clX13 (by decide) rfl lkF_M_128 (d_M_holdsBack 1 1 (.getfield 128) 3 rfl) rfl ?_
  refine Ak_aload_n 5 0 (d_M_holdsBack 2 4 (.aload_n 0) 1 rfl) rfl rfl rfl ?_
  refine Ak_getI 8 39 hO clX13 (by decide) (Or.inl rfl) lkF_M_131 (d_M_holdsBack 3 5 (.getfield 131) 3 rfl) rfl ?_
  refine Ak_iload_n 9 1 (d_M_holdsBack 4 8 (.iload_n 1) 1 rfl) rfl rfl rfl ?_
  obtain ⟨ha1, h⟩ := gd_some h
  refine Ak_iastore 10 ha1 (d_M_holdsBack 5 9 (.iastore) 1 rfl) rfl (fun V2 hV2 => ?_)
  replace h := wV_some h V2 hV2
  refine Ak_aload_n 11 0 (d_M_holdsBack 6 10 (.aload_n 0) 1 rfl) rfl rfl rfl ?_
  refine Ak_dup 12 (d_M_holdsBack 7 11 (.dup) 1 rfl) rfl rfl ?_
  refine Ak_getI 15 39 hO clX13 (by decide) (Or.inl rfl) lkF_M_131 (d_M_holdsBack 8 12 (.getfield 131) 3 rfl) rfl ?_
  refine Ak_iconst 16 (d_M_holdsBack 9 15 (.iconst 1) 1 rfl) rfl (rk rfl) ?_
  refine Ak_iadd 17 (d_M_holdsBack 10 16 (.iadd) 1 rfl) rfl ?_
  refine Ak_putI 20 39 hO clX13 (by decide) rfl rfl rfl lkF_M_131 (d_M_holdsBack 11 17 (.putfield 131) 3 rfl) rfl (fun V3 hV3 => ?_)
  replace h := wV_some h V3 hV3
  cases h
  exact Ak_vret rfl (d_M_holdsBack 12 20 (.return_) 1 rfl)
theorem c_M_pushes {S : ASh} {V : ASt} {x0 x1 : Int} {r : Int} {V' : ASt} (h : f_M_pushes S V x0 x1 = some (r, V')) : ACt m_M_pushes 2 0 0 [(aR x0), (aI x1)] S V none S V' := by
  unfold f_M_pushes at h
  obtain ⟨hO, h⟩ := gd_some h
  refine ACt_of (plainFor_of_name rfl) rfl (Nat.le_of_ble_eq_true rfl) ?_
  show AWk m_M_pushes 2 0 0 0 0 0 [some (aR x0), some (aI x1)] [] S V none S V'
  refine Ak_aload_n 1 0 (d_M_pushes 0 0 (.aload_n 0) 1 rfl) rfl rfl rfl ?_
  refine Ak_getF 4 31 hO clX13 (by decide) rfl lkF_M_107 (d_M_pushes 1 1 (.getfield 107) 3 rfl) rfl ?_
  refine Ak_aload_n 5 0 (d_M_pushes 2 4 (.aload_n 0) 1 rfl) rfl rfl rfl ?_
  refine Ak_getI 8 36 hO clX13 (by decide) (Or.inl rfl) lkF_M_122 (d_M_pushes 3 5 (.getfield 122) 3 rfl) rfl ?_
  refine Ak_iload_n 9 1 (d_M_pushes 4 8 (.iload_n 1) 1 rfl) rfl rfl rfl ?_
  obtain ⟨ha1, h⟩ := gd_some h
  refine Ak_iastore 10 ha1 (d_M_pushes 5 9 (.iastore) 1 rfl) rfl (fun V2 hV2 => ?_)
  replace h := wV_some h V2 hV2
  refine Ak_aload_n 11 0 (d_M_pushes 6 10 (.aload_n 0) 1 rfl) rfl rfl rfl ?_
  refine Ak_getF 14 32 hO clX13 (by decide) rfl lkF_M_110 (d_M_pushes 7 11 (.getfield 110) 3 rfl) rfl ?_
  refine Ak_aload_n 15 0 (d_M_pushes 8 14 (.aload_n 0) 1 rfl) rfl rfl rfl ?_
  refine Ak_getI 18 36 hO clX13 (by decide) (Or.inl rfl) lkF_M_122 (d_M_pushes 9 15 (.getfield 122) 3 rfl) rfl ?_
  refine Ak_iconst 19 (d_M_pushes 10 18 (.iconst 0) 1 rfl) rfl (rk rfl) ?_
  obtain ⟨ha3, h⟩ := gd_some h
  refine Ak_iastore 20 ha3 (d_M_pushes 11 19 (.iastore) 1 rfl) rfl (fun V4 hV4 => ?_)
  replace h := wV_some h V4 hV4
  refine Ak_aload_n 21 0 (d_M_pushes 12 20 (.aload_n 0) 1 rfl) rfl rfl rfl ?_
  refine Ak_getF 24 33 hO clX13 (by decide) rfl lkF_M_113 (d_M_pushes 13 21 (.getfield 113) 3 rfl) rfl ?_
  refine Ak_aload_n 25 0 (d_M_pushes 14 24 (.aload_n 0) 1 rfl) rfl rfl rfl ?_
  refine Ak_getI 28 36 hO clX13 (by decide) (Or.inl rfl) lkF_M_122 (d_M_pushes 15 25 (.getfield 122) 3 rfl) rfl ?_
  refine Ak_iconst 29 (d_M_pushes 16 28 (.iconst 1) 1 rfl) rfl (rk rfl) ?_
  obtain ⟨ha5, h⟩ := gd_some h
  refine Ak_bastore 30 ha5 (Or.inr rfl) (d_M_pushes 17 29 (.bastore) 1 rfl) rfl (fun V6 hV6 => ?_)
  replace h := wV_some h V6 hV6
  refine Ak_aload_n 31 0 (d_M_pushes 18 30 (.aload_n 0) 1 rfl) rfl rfl rfl ?_
  refine Ak_getF 34 35 hO clX13 (by decide) rfl lkF_M_119 (d_M_pushes 19 31 (.getfield 119) 3 rfl) rfl ?_
  refine Ak_aload_n 35 0 (d_M_pushes 20 34 (.aload_n 0) 1 rfl) rfl rfl rfl ?_
  refine Ak_getI 38 36 hO clX13 (by decide) (Or.inl rfl) lkF_M_122 (d_M_pushes 21 35 (.getfield 122) 3 rfl) rfl ?_
  refine Ak_aload_n 39 0 (d_M_pushes 22 38 (.aload_n 0) 1 rfl) rfl rfl rfl ?_
  refine Ak_getI 42 39 hO clX13 (by decide) (Or.inl rfl) lkF_M_131 (d_M_pushes 23 39 (.getfield 131) 3 rfl) rfl ?_
  obtain ⟨ha7, h⟩ := gd_some h
  refine Ak_iastore 43 ha7 (d_M_pushes 24 42 (.iastore) 1 rfl) rfl (fun V8 hV8 => ?_)
  replace h := wV_some h V8 hV8
  refine Ak_aload_n 44 0 (d_M_pushes 25 43 (.aload_n 0) 1 rfl) rfl rfl rfl ?_
  refine Ak_dup 45 (d_M_pushes 26 44 (.dup) 1 rfl) rfl rfl ?_
  refine Ak_getI 48 36 hO clX13 (by decide) (Or.inl rfl) lkF_M_122 (d_M_pushes 27 45 (.getfield 122) 3 rfl) rfl ?_
  refine Ak_iconst 49 (d_M_pushes 28 48 (.iconst 1) 1 rfl) rfl (rk rfl) ?_
  refine Ak_iadd 50 (d_M_pushes 29 49 (.iadd) 1 rfl) rfl ?_
  refine Ak_putI 53 36 hO clX13 (by decide) rfl rfl rfl lkF_M_122 (d_M_pushes 30 50 (.putfield 122) 3 rfl) rfl (fun V9 hV9 => ?_)
  replace h := wV_some h V9 hV9
  cases h
  exact Ak_vret rfl (d_M_pushes 31 53 (.return_) 1 rfl)
theorem t_M_opens_J18 {S : ASh} {V : ASt} {x0 x1 : Int} {r : Int} {V' : ASt} (hO : isO S x0 13 = true) (h : b_M_opens_J18 S  V x0 x1 = some (r, V')) : AWk m_M_opens 4 0 0 0 0 18 [some (aR x0), some (aI x1)] [] S V none S V' := by
  unfold b_M_opens_J18 at h
  refine Ak_aload_n 19 0 (d_M_opens 9 18 (.aload_n 0) 1 rfl) rfl rfl rfl ?_
  refine Ak_getI 22 8 hO clX13 (by decide) (Or.inl rfl) lkF_M_36 (d_M_opens 10 19 (.getfield 36) 3 rfl) rfl ?_
  refine Ak_if_le 26 25 (d_M_opens 11 22 (.ifCond .le 4) 3 rfl) rfl rfl (fun hc => ?_) (fun hc => ?_)
  · replace h := it_t hc h
    refine Ak_aload_n 27 0 (d_M_opens 13 26 (.aload_n 0) 1 rfl) rfl rfl rfl ?_
    refine Ak_dup 28 (d_M_opens 14 27 (.dup) 1 rfl) rfl rfl ?_
    refine Ak_getI 31 37 hO clX13 (by decide) (Or.inl rfl) lkF_M_125 (d_M_opens 15 28 (.getfield 125) 3 rfl) rfl ?_
    refine Ak_iconst 32 (d_M_opens 16 31 (.iconst 1) 1 rfl) rfl (rk rfl) ?_
    refine Ak_iadd 33 (d_M_opens 17 32 (.iadd) 1 rfl) rfl ?_
    refine Ak_putI 36 37 hO clX13 (by decide) rfl rfl rfl lkF_M_125 (d_M_opens 18 33 (.putfield 125) 3 rfl) rfl (fun V1 hV1 => ?_)
    replace h := wV_some h V1 hV1
    refine Ak_aload_n 37 0 (d_M_opens 19 36 (.aload_n 0) 1 rfl) rfl rfl rfl ?_
    obtain ⟨r2, V3, h4, h⟩ := bnd_some h
    refine Ak_cV0 40 3 (c_M_ahead h4) rfl hO clX13 rfl mok_M_ahead lkM_M_280 (d_M_opens 20 37 (.invokevirtual 280) 3 rfl) rfl (by decide) (Nat.le_of_ble_eq_true rfl) ?_
    refine Ak_aload_n 41 0 (d_M_opens 21 40 (.aload_n 0) 1 rfl) rfl rfl rfl ?_
    refine Ak_iload_n 42 1 (d_M_opens 22 41 (.iload_n 1) 1 rfl) rfl rfl rfl ?_
    obtain ⟨r5, V6, h7, h⟩ := bnd_some h
    refine Ak_cV0 45 2 (c_M_pushes h7) rfl hO clX13 rfl mok_M_pushes lkM_M_339 (d_M_opens 23 42 (.invokevirtual 339) 3 rfl) rfl (by decide) (Nat.le_of_ble_eq_true rfl) ?_
    cases h
    exact Ak_vret rfl (d_M_opens 24 45 (.return_) 1 rfl)
  · replace h := it_f hc h
    cases h
    exact Ak_vret rfl (d_M_opens 12 25 (.return_) 1 rfl)
theorem c_M_opens {S : ASh} {V : ASt} {x0 x1 : Int} {r : Int} {V' : ASt} (h : f_M_opens S V x0 x1 = some (r, V')) : ACt m_M_opens 4 0 0 [(aR x0), (aI x1)] S V none S V' := by
  unfold f_M_opens at h
  obtain ⟨hO, h⟩ := gd_some h
  refine ACt_of (plainFor_of_name rfl) rfl (Nat.le_of_ble_eq_true rfl) ?_
  show AWk m_M_opens 4 0 0 0 0 0 [some (aR x0), some (aI x1)] [] S V none S V'
  refine Ak_aload_n 1 0 (d_M_opens 0 0 (.aload_n 0) 1 rfl) rfl rfl rfl ?_
  refine Ak_getI 4 37 hO clX13 (by decide) (Or.inl rfl) lkF_M_125 (d_M_opens 1 1 (.getfield 125) 3 rfl) rfl ?_
  refine Ak_bipush 6 (d_M_opens 2 4 (.bipush 8) 2 rfl) rfl (bp_ok rfl) (rk rfl) ?_
  refine Ak_icmp_ne 18 9 (d_M_opens 3 6 (.if_icmp .ne 12) 3 rfl) rfl rfl (fun hc => ?_) (fun hc => ?_)
  · replace h := it_f hc h
    refine Ak_keep [true, true] ?_
    exact t_M_opens_J18 hO h
  · replace h := it_t hc h
    refine Ak_aload_n 10 0 (d_M_opens 4 9 (.aload_n 0) 1 rfl) rfl rfl rfl ?_
    refine Ak_iconst 11 (d_M_opens 5 10 (.iconst 5) 1 rfl) rfl (rk rfl) ?_
    refine Ak_aload_n 12 0 (d_M_opens 6 11 (.aload_n 0) 1 rfl) rfl rfl rfl ?_
    refine Ak_getI 15 4 hO clX13 (by decide) (Or.inl rfl) lkF_M_23 (d_M_opens 7 12 (.getfield 23) 3 rfl) rfl ?_
    obtain ⟨r8, V9, h10, h⟩ := bnd_some h
    refine Ak_cV0 18 2 (c_M_blame h10) rfl hO clX13 rfl mok_M_blame lkM_M_273 (d_M_opens 8 15 (.invokevirtual 273) 3 rfl) rfl (by decide) (Nat.le_of_ble_eq_true rfl) ?_
    refine Ak_keep [true, true] ?_
    exact t_M_opens_J18 hO h
theorem c_M_isTest {S : ASh} {V : ASt} {x0 : Int} {r : Int} {V' : ASt} (h : f_M_isTest S V x0 = some (r, V')) : ACt m_M_isTest 2 0 0 [(aI x0)] S V (some (aI r)) S V' := by
  unfold f_M_isTest at h
  refine ACt_of (plainFor_of_name rfl) rfl (Nat.le_of_ble_eq_true rfl) ?_
  show AWk m_M_isTest 2 0 0 0 0 0 [some (aI x0)] [] S V (some (aI r)) S V'
  refine Ak_iload_n 1 0 (d_M_isTest 0 0 (.iload_n 0) 1 rfl) rfl rfl rfl ?_
  refine Ak_iconst 2 (d_M_isTest 1 1 (.iconst 1) 1 rfl) rfl (rk rfl) ?_
  refine Ak_icmp_eq 10 5 (d_M_isTest 2 2 (.if_icmp .eq 8) 3 rfl) rfl rfl (fun hc => ?_) (fun hc => ?_)
  · replace h := it_t hc h
    refine Ak_iconst 11 (d_M_isTest 6 10 (.iconst 1) 1 rfl) rfl (rk rfl) ?_
    refine Ak_goto 15 (d_M_isTest 7 11 (.goto 4) 3 rfl) rfl ?_
    cases h
    exact Ak_zret (Or.inr rfl) rfl (d_M_isTest 9 15 (.ireturn) 1 rfl)
  · replace h := it_f hc h
    refine Ak_iload_n 6 0 (d_M_isTest 3 5 (.iload_n 0) 1 rfl) rfl rfl rfl ?_
    refine Ak_iconst 7 (d_M_isTest 4 6 (.iconst 5) 1 rfl) rfl (rk rfl) ?_
    refine Ak_icmp_ne 14 10 (d_M_isTest 5 7 (.if_icmp .ne 7) 3 rfl) rfl rfl (fun hc => ?_) (fun hc => ?_)
    · replace h := it_f hc h
      refine Ak_iconst 15 (d_M_isTest 8 14 (.iconst 0) 1 rfl) rfl (rk rfl) ?_
      cases h
      exact Ak_zret (Or.inl rfl) rfl (d_M_isTest 9 15 (.ireturn) 1 rfl)
    · replace h := it_t hc h
      refine Ak_iconst 11 (d_M_isTest 6 10 (.iconst 1) 1 rfl) rfl (rk rfl) ?_
      refine Ak_goto 15 (d_M_isTest 7 11 (.goto 4) 3 rfl) rfl ?_
      cases h
      exact Ak_zret (Or.inr rfl) rfl (d_M_isTest 9 15 (.ireturn) 1 rfl)
theorem t_M_operand_J197 {S : ASh} {V : ASt} {x0 x3 : Int} {r : Int} {V' : ASt} (hO : isO S x0 13 = true) (h : b_M_operand_J197 S  V x0 x3 = some (r, V')) : AWk m_M_operand 5 0 0 0 0 197 [some (aR x0), none, none, some (aI x3)] [] S V (some (aI r)) S V' := by
  unfold b_M_operand_J197 at h
  refine Ak_aload_n 198 0 (d_M_operand 104 197 (.aload_n 0) 1 rfl) rfl rfl rfl ?_
  refine Ak_iconst 199 (d_M_operand 105 198 (.iconst 3) 1 rfl) rfl (rk rfl) ?_
  obtain ⟨r1, V2, h3, h⟩ := bnd_some h
  refine Ak_cV0 202 4 (c_M_opens h3) rfl hO clX13 rfl mok_M_opens lkM_M_352 (d_M_operand 106 199 (.invokevirtual 352) 3 rfl) rfl (by decide) (Nat.le_of_ble_eq_true rfl) ?_
  refine Ak_aload_n 203 0 (d_M_operand 107 202 (.aload_n 0) 1 rfl) rfl rfl rfl ?_
  refine Ak_getI 206 8 hO clX13 (by decide) (Or.inl rfl) lkF_M_36 (d_M_operand 108 203 (.getfield 36) 3 rfl) rfl ?_
  refine Ak_if_ne 221 209 (d_M_operand 109 206 (.ifCond .ne 15) 3 rfl) rfl rfl (fun hc => ?_) (fun hc => ?_)
  · replace h := it_f hc h
    refine Ak_iconst 222 (d_M_operand 118 221 (.iconst 0) 1 rfl) rfl (rk rfl) ?_
    cases h
    exact Ak_zret (Or.inl rfl) rfl (d_M_operand 119 222 (.ireturn) 1 rfl)
  · replace h := it_t hc h
    refine Ak_aload_n 210 0 (d_M_operand 110 209 (.aload_n 0) 1 rfl) rfl rfl rfl ?_
    refine Ak_getF 213 34 hO clX13 (by decide) rfl lkF_M_116 (d_M_operand 111 210 (.getfield 116) 3 rfl) rfl ?_
    refine Ak_aload_n 214 0 (d_M_operand 112 213 (.aload_n 0) 1 rfl) rfl rfl rfl ?_
    refine Ak_getI 217 36 hO clX13 (by decide) (Or.inl rfl) lkF_M_122 (d_M_operand 113 214 (.getfield 122) 3 rfl) rfl ?_
    refine Ak_iconst 218 (d_M_operand 114 217 (.iconst 1) 1 rfl) rfl (rk rfl) ?_
    refine Ak_isub 219 (d_M_operand 115 218 (.isub) 1 rfl) rfl ?_
    refine Ak_iload_n 220 3 (d_M_operand 116 219 (.iload_n 3) 1 rfl) rfl rfl rfl ?_
    obtain ⟨ha4, h⟩ := gd_some h
    refine Ak_iastore 221 ha4 (d_M_operand 117 220 (.iastore) 1 rfl) rfl (fun V5 hV5 => ?_)
    replace h := wV_some h V5 hV5
    refine Ak_iconst 222 (d_M_operand 118 221 (.iconst 0) 1 rfl) rfl (rk rfl) ?_
    cases h
    exact Ak_zret (Or.inl rfl) rfl (d_M_operand 119 222 (.ireturn) 1 rfl)
theorem t_M_operand_J174 {S : ASh} {V : ASt} {x0 s0 : Int} {r : Int} {V' : ASt} (hO : isO S x0 13 = true) (h : b_M_operand_J174 S  V x0 s0 = some (r, V')) : AWk m_M_operand 5 0 0 0 0 174 [some (aR x0)] [(aI s0)] S V (some (aI r)) S V' := by
  unfold b_M_operand_J174 at h
  refine Ak_istore_n 175 3 (d_M_operand 92 174 (.istore_n 3) 1 rfl) rfl rfl (by decide) ?_
  refine Ak_aload_n 176 0 (d_M_operand 93 175 (.aload_n 0) 1 rfl) rfl rfl rfl ?_
  obtain ⟨r6, V7, h8, h⟩ := bnd_some h
  refine Ak_cV0 179 3 (c_M_ahead h8) rfl hO clX13 rfl mok_M_ahead lkM_M_280 (d_M_operand 94 176 (.invokevirtual 280) 3 rfl) rfl (by decide) (Nat.le_of_ble_eq_true rfl) ?_
  refine Ak_aload_n 180 0 (d_M_operand 95 179 (.aload_n 0) 1 rfl) rfl rfl rfl ?_
  refine Ak_bipush 182 (d_M_operand 96 180 (.bipush 40) 2 rfl) rfl (bp_ok rfl) (rk rfl) ?_
  obtain ⟨r9, V10, h11, h⟩ := bnd_some h
  refine Ak_cV1 185 2 (c_M_isSign h11) rfl hO clX13 rfl mok_M_isSign lkM_M_277 (d_M_operand 97 182 (.invokevirtual 277) 3 rfl) rfl (by decide) (Nat.le_of_ble_eq_true rfl) ?_
  refine Ak_if_ne 197 188 (d_M_operand 98 185 (.ifCond .ne 12) 3 rfl) rfl rfl (fun hc => ?_) (fun hc => ?_)
  · replace h := it_f hc h
    refine Ak_keep [true, false, false, true] ?_
    exact t_M_operand_J197 hO h
  · replace h := it_t hc h
    refine Ak_aload_n 189 0 (d_M_operand 99 188 (.aload_n 0) 1 rfl) rfl rfl rfl ?_
    refine Ak_iconst 190 (d_M_operand 100 189 (.iconst 1) 1 rfl) rfl (rk rfl) ?_
    refine Ak_aload_n 191 0 (d_M_operand 101 190 (.aload_n 0) 1 rfl) rfl rfl rfl ?_
    refine Ak_getI 194 4 hO clX13 (by decide) (Or.inl rfl) lkF_M_23 (d_M_operand 102 191 (.getfield 23) 3 rfl) rfl ?_
    obtain ⟨r12, V13, h14, h⟩ := bnd_some h
    refine Ak_cV0 197 2 (c_M_blame h14) rfl hO clX13 rfl mok_M_blame lkM_M_273 (d_M_operand 103 194 (.invokevirtual 273) 3 rfl) rfl (by decide) (Nat.le_of_ble_eq_true rfl) ?_
    refine Ak_keep [true, false, false, true] ?_
    exact t_M_operand_J197 hO h
theorem t_M_operand_J157 {S : ASh} {V : ASt} {x0 : Int} {r : Int} {V' : ASt} (hO : isO S x0 13 = true) (h : b_M_operand_J157 S  V x0 = some (r, V')) : AWk m_M_operand 5 0 0 0 0 157 [some (aR x0)] [] S V (some (aI r)) S V' := by
  unfold b_M_operand_J157 at h
  refine Ak_aload_n 158 0 (d_M_operand 85 157 (.aload_n 0) 1 rfl) rfl rfl rfl ?_
  refine Ak_ldc2 161 7170414 (d_M_operand 86 158 (.ldc2_w 325) 3 rfl) rfl lkJ_M_325 (rkL rfl) ?_
  obtain ⟨r15, V16, h17, h⟩ := bnd_some h
  refine Ak_cV1 164 2 (c_M_isWord h17) rfl hO clX13 rfl mok_M_isWord lkM_M_345 (d_M_operand 87 161 (.invokevirtual 345) 3 rfl) rfl (by decide) (Nat.le_of_ble_eq_true rfl) ?_
  refine Ak_if_eq 172 167 (d_M_operand 88 164 (.ifCond .eq 8) 3 rfl) rfl rfl (fun hc => ?_) (fun hc => ?_)
  · replace h := it_t hc h
    refine Ak_bipush 174 (d_M_operand 91 172 (.bipush 16) 2 rfl) rfl (bp_ok rfl) (rk rfl) ?_
    refine Ak_keep [true] ?_
    exact t_M_operand_J174 hO h
  · replace h := it_f hc h
    refine Ak_bipush 169 (d_M_operand 89 167 (.bipush 15) 2 rfl) rfl (bp_ok rfl) (rk rfl) ?_
    refine Ak_goto 174 (d_M_operand 90 169 (.goto 5) 3 rfl) rfl ?_
    refine Ak_keep [true] ?_
    exact t_M_operand_J174 hO h
theorem t_M_operand_J373 {S : ASh} {V : ASt} {x0 x3 : Int} {r : Int} {V' : ASt} (hO : isO S x0 13 = true) (h : b_M_operand_J373 S  V x0 x3 = some (r, V')) : AWk m_M_operand 5 0 0 0 0 373 [some (aR x0), none, none, some (aI x3)] [] S V (some (aI r)) S V' := by
  unfold b_M_operand_J373 at h
  refine Ak_aload_n 374 0 (d_M_operand 195 373 (.aload_n 0) 1 rfl) rfl rfl rfl ?_
  refine Ak_getI 377 8 hO clX13 (by decide) (Or.inl rfl) lkF_M_36 (d_M_operand 196 374 (.getfield 36) 3 rfl) rfl ?_
  refine Ak_if_le 382 380 (d_M_operand 197 377 (.ifCond .le 5) 3 rfl) rfl rfl (fun hc => ?_) (fun hc => ?_)
  · replace h := it_t hc h
    refine Ak_aload_n 383 0 (d_M_operand 200 382 (.aload_n 0) 1 rfl) rfl rfl rfl ?_
    refine Ak_iload_n 384 3 (d_M_operand 201 383 (.iload_n 3) 1 rfl) rfl rfl rfl ?_
    refine Ak_aload_n 385 0 (d_M_operand 202 384 (.aload_n 0) 1 rfl) rfl rfl rfl ?_
    refine Ak_getI 388 6 hO clX13 (by decide) (Or.inl rfl) lkF_M_29 (d_M_operand 203 385 (.getfield 29) 3 rfl) rfl ?_
    obtain ⟨r18, V19, h20, h⟩ := bnd_some h
    refine Ak_cV0 391 2 (c_M_add h20) rfl hO clX13 rfl mok_M_add lkM_M_336 (d_M_operand 204 388 (.invokevirtual 336) 3 rfl) rfl (by decide) (Nat.le_of_ble_eq_true rfl) ?_
    refine Ak_aload_n 392 0 (d_M_operand 205 391 (.aload_n 0) 1 rfl) rfl rfl rfl ?_
    obtain ⟨r21, V22, h23, h⟩ := bnd_some h
    refine Ak_cV0 395 3 (c_M_ahead h23) rfl hO clX13 rfl mok_M_ahead lkM_M_280 (d_M_operand 206 392 (.invokevirtual 280) 3 rfl) rfl (by decide) (Nat.le_of_ble_eq_true rfl) ?_
    refine Ak_iconst 396 (d_M_operand 207 395 (.iconst 1) 1 rfl) rfl (rk rfl) ?_
    cases h
    exact Ak_zret (Or.inr rfl) rfl (d_M_operand 208 396 (.ireturn) 1 rfl)
  · replace h := it_f hc h
    refine Ak_iconst 381 (d_M_operand 198 380 (.iconst 1) 1 rfl) rfl (rk rfl) ?_
    cases h
    exact Ak_zret (Or.inr rfl) rfl (d_M_operand 199 381 (.ireturn) 1 rfl)
theorem t_M_operand_J359 {S : ASh} {V : ASt} {x0 x3 : Int} {r : Int} {V' : ASt} (hO : isO S x0 13 = true) (h : b_M_operand_J359 S  V x0 x3 = some (r, V')) : AWk m_M_operand 5 0 0 0 0 359 [some (aR x0), none, none, some (aI x3)] [] S V (some (aI r)) S V' := by
  unfold b_M_operand_J359 at h
  refine Ak_iload_n 360 3 (d_M_operand 187 359 (.iload_n 3) 1 rfl) rfl rfl rfl ?_
  refine Ak_iconst 361 (d_M_operand 188 360 (.iconst (-1)) 1 rfl) rfl (rk rfl) ?_
  refine Ak_icmp_ne 373 364 (d_M_operand 189 361 (.if_icmp .ne 12) 3 rfl) rfl rfl (fun hc => ?_) (fun hc => ?_)
  · replace h := it_f hc h
    refine Ak_keep [true, false, false, true] ?_
    exact t_M_operand_J373 hO h
  · replace h := it_t hc h
    refine Ak_aload_n 365 0 (d_M_operand 190 364 (.aload_n 0) 1 rfl) rfl rfl rfl ?_
    refine Ak_iconst 366 (d_M_operand 191 365 (.iconst 1) 1 rfl) rfl (rk rfl) ?_
    refine Ak_aload_n 367 0 (d_M_operand 192 366 (.aload_n 0) 1 rfl) rfl rfl rfl ?_
    refine Ak_getI 370 4 hO clX13 (by decide) (Or.inl rfl) lkF_M_23 (d_M_operand 193 367 (.getfield 23) 3 rfl) rfl ?_
    obtain ⟨r24, V25, h26, h⟩ := bnd_some h
    refine Ak_cV0 373 2 (c_M_blame h26) rfl hO clX13 rfl mok_M_blame lkM_M_273 (d_M_operand 194 370 (.invokevirtual 273) 3 rfl) rfl (by decide) (Nat.le_of_ble_eq_true rfl) ?_
    refine Ak_keep [true, false, false, true] ?_
    exact t_M_operand_J373 hO h
theorem t_M_operand_J336 {S : ASh} {V : ASt} {x0 x3 x4 : Int} {r : Int} {V' : ASt} (hO : isO S x0 13 = true) (h : b_M_operand_J336 S  V x0 x3 x4 = some (r, V')) : AWk m_M_operand 5 0 0 0 0 336 [some (aR x0), none, none, some (aI x3), some (aI x4)] [] S V (some (aI r)) S V' := by
  unfold b_M_operand_J336 at h
  refine Ak_iload 338 (d_M_operand 175 336 (.iload 4) 2 rfl) rfl rfl ?_
  refine Ak_if_eq 359 341 (d_M_operand 176 338 (.ifCond .eq 21) 3 rfl) rfl rfl (fun hc => ?_) (fun hc => ?_)
  · replace h := it_t hc h
    refine Ak_keep [true, false, false, true] ?_
    exact t_M_operand_J359 hO h
  · replace h := it_f hc h
    refine Ak_aload_n 342 0 (d_M_operand 177 341 (.aload_n 0) 1 rfl) rfl rfl rfl ?_
    refine Ak_getI 345 8 hO clX13 (by decide) (Or.inl rfl) lkF_M_36 (d_M_operand 178 342 (.getfield 36) 3 rfl) rfl ?_
    refine Ak_if_ne 359 348 (d_M_operand 179 345 (.ifCond .ne 14) 3 rfl) rfl rfl (fun hc => ?_) (fun hc => ?_)
    · replace h := it_f hc h
      refine Ak_keep [true, false, false, true] ?_
      exact t_M_operand_J359 hO h
    · replace h := it_t hc h
      refine Ak_iconst 349 (d_M_operand 180 348 (.iconst 4) 1 rfl) rfl (rk rfl) ?_
      refine Ak_aload_n 350 0 (d_M_operand 181 349 (.aload_n 0) 1 rfl) rfl rfl rfl ?_
      refine Ak_aload_n 351 0 (d_M_operand 182 350 (.aload_n 0) 1 rfl) rfl rfl rfl ?_
      refine Ak_getL 354 7 hO clX13 (by decide) rfl lkF_M_32 (d_M_operand 183 351 (.getfield 32) 3 rfl) rfl ?_
      obtain ⟨r27, V28, h29, h⟩ := bnd_some h
      refine Ak_cV1 357 2 (c_M_named h29) rfl hO clX13 rfl mok_M_named lkM_M_358 (d_M_operand 184 354 (.invokevirtual 358) 3 rfl) rfl (by decide) (Nat.le_of_ble_eq_true rfl) ?_
      refine Ak_iadd 358 (d_M_operand 185 357 (.iadd) 1 rfl) rfl ?_
      refine Ak_istore_n 359 3 (d_M_operand 186 358 (.istore_n 3) 1 rfl) rfl rfl (by decide) ?_
      refine Ak_keep [true, false, false, true] ?_
      exact t_M_operand_J359 hO h
theorem t_M_operand_J308 {S : ASh} {V : ASt} {x0 x3 s0 : Int} {r : Int} {V' : ASt} (hO : isO S x0 13 = true) (h : b_M_operand_J308 S  V x0 x3 s0 = some (r, V')) : AWk m_M_operand 5 0 0 0 0 308 [some (aR x0), none, none, some (aI x3)] [(aI s0)] S V (some (aI r)) S V' := by
  unfold b_M_operand_J308 at h
  refine Ak_istore 310 (d_M_operand 161 308 (.istore 4) 2 rfl) rfl (by decide) ?_
  refine Ak_iload 312 (d_M_operand 162 310 (.iload 4) 2 rfl) rfl rfl ?_
  refine Ak_if_eq 336 315 (d_M_operand 163 312 (.ifCond .eq 24) 3 rfl) rfl rfl (fun hc => ?_) (fun hc => ?_)
  · replace h := it_t hc h
    refine Ak_keep [true, false, false, true, true] ?_
    exact t_M_operand_J336 hO h
  · replace h := it_f hc h
    refine Ak_aload_n 316 0 (d_M_operand 164 315 (.aload_n 0) 1 rfl) rfl rfl rfl ?_
    refine Ak_aload_n 317 0 (d_M_operand 165 316 (.aload_n 0) 1 rfl) rfl rfl rfl ?_
    refine Ak_getL 320 7 hO clX13 (by decide) rfl lkF_M_32 (d_M_operand 166 317 (.getfield 32) 3 rfl) rfl ?_
    obtain ⟨r30, V31, h32, h⟩ := bnd_some h
    refine Ak_cV1 323 2 (c_M_named h32) rfl hO clX13 rfl mok_M_named lkM_M_358 (d_M_operand 167 320 (.invokevirtual 358) 3 rfl) rfl (by decide) (Nat.le_of_ble_eq_true rfl) ?_
    refine Ak_iconst 324 (d_M_operand 168 323 (.iconst (-1)) 1 rfl) rfl (rk rfl) ?_
    refine Ak_icmp_ne 336 327 (d_M_operand 169 324 (.if_icmp .ne 12) 3 rfl) rfl rfl (fun hc => ?_) (fun hc => ?_)
    · replace h := it_f hc h
      refine Ak_keep [true, false, false, true, true] ?_
      exact t_M_operand_J336 hO h
    · replace h := it_t hc h
      refine Ak_aload_n 328 0 (d_M_operand 170 327 (.aload_n 0) 1 rfl) rfl rfl rfl ?_
      refine Ak_iconst 329 (d_M_operand 171 328 (.iconst 3) 1 rfl) rfl (rk rfl) ?_
      refine Ak_aload_n 330 0 (d_M_operand 172 329 (.aload_n 0) 1 rfl) rfl rfl rfl ?_
      refine Ak_getI 333 4 hO clX13 (by decide) (Or.inl rfl) lkF_M_23 (d_M_operand 173 330 (.getfield 23) 3 rfl) rfl ?_
      obtain ⟨r33, V34, h35, h⟩ := bnd_some h
      refine Ak_cV0 336 2 (c_M_blame h35) rfl hO clX13 rfl mok_M_blame lkM_M_273 (d_M_operand 174 333 (.invokevirtual 273) 3 rfl) rfl (by decide) (Nat.le_of_ble_eq_true rfl) ?_
      refine Ak_keep [true, false, false, true, true] ?_
      exact t_M_operand_J336 hO h
theorem t_M_operand_J278 {S : ASh} {V : ASt} {x0 s0 : Int} {r : Int} {V' : ASt} (hO : isO S x0 13 = true) (h : b_M_operand_J278 S  V x0 s0 = some (r, V')) : AWk m_M_operand 5 0 0 0 0 278 [some (aR x0)] [(aI s0)] S V (some (aI r)) S V' := by
  unfold b_M_operand_J278 at h
  refine Ak_istore_n 279 3 (d_M_operand 145 278 (.istore_n 3) 1 rfl) rfl rfl (by decide) ?_
  refine Ak_iload_n 280 3 (d_M_operand 146 279 (.iload_n 3) 1 rfl) rfl rfl rfl ?_
  refine Ak_iconst 281 (d_M_operand 147 280 (.iconst (-1)) 1 rfl) rfl (rk rfl) ?_
  refine Ak_icmp_ne 307 284 (d_M_operand 148 281 (.if_icmp .ne 26) 3 rfl) rfl rfl (fun hc => ?_) (fun hc => ?_)
  · replace h := it_f hc h
    refine Ak_iconst 308 (d_M_operand 160 307 (.iconst 0) 1 rfl) rfl (rk rfl) ?_
    refine Ak_keep [true, false, false, true] ?_
    exact t_M_operand_J308 hO h
  · replace h := it_t hc h
    refine Ak_aload_n 285 0 (d_M_operand 149 284 (.aload_n 0) 1 rfl) rfl rfl rfl ?_
    refine Ak_getI 288 3 hO clX13 (by decide) (Or.inl rfl) lkF_M_20 (d_M_operand 150 285 (.getfield 20) 3 rfl) rfl ?_
    refine Ak_iconst 289 (d_M_operand 151 288 (.iconst 1) 1 rfl) rfl (rk rfl) ?_
    refine Ak_icmp_ne 307 292 (d_M_operand 152 289 (.if_icmp .ne 18) 3 rfl) rfl rfl (fun hc => ?_) (fun hc => ?_)
    · replace h := it_f hc h
      refine Ak_iconst 308 (d_M_operand 160 307 (.iconst 0) 1 rfl) rfl (rk rfl) ?_
      refine Ak_keep [true, false, false, true] ?_
      exact t_M_operand_J308 hO h
    · replace h := it_t hc h
      refine Ak_aload_n 293 0 (d_M_operand 153 292 (.aload_n 0) 1 rfl) rfl rfl rfl ?_
      refine Ak_aload_n 294 0 (d_M_operand 154 293 (.aload_n 0) 1 rfl) rfl rfl rfl ?_
      refine Ak_getL 297 7 hO clX13 (by decide) rfl lkF_M_32 (d_M_operand 155 294 (.getfield 32) 3 rfl) rfl ?_
      obtain ⟨r36, V37, h38, h⟩ := bnd_some h
      refine Ak_cV1 300 2 (c_M_isOwn h38) rfl hO clX13 rfl mok_M_isOwn lkM_M_355 (d_M_operand 156 297 (.invokevirtual 355) 3 rfl) rfl (by decide) (Nat.le_of_ble_eq_true rfl) ?_
      refine Ak_if_ne 307 303 (d_M_operand 157 300 (.ifCond .ne 7) 3 rfl) rfl rfl (fun hc => ?_) (fun hc => ?_)
      · replace h := it_f hc h
        refine Ak_iconst 308 (d_M_operand 160 307 (.iconst 0) 1 rfl) rfl (rk rfl) ?_
        refine Ak_keep [true, false, false, true] ?_
        exact t_M_operand_J308 hO h
      · replace h := it_t hc h
        refine Ak_iconst 304 (d_M_operand 158 303 (.iconst 1) 1 rfl) rfl (rk rfl) ?_
        refine Ak_goto 308 (d_M_operand 159 304 (.goto 4) 3 rfl) rfl ?_
        refine Ak_keep [true, false, false, true] ?_
        exact t_M_operand_J308 hO h
theorem t_M_operand_J121 {S : ASh} {V : ASt} {x0 : Int} {r : Int} {V' : ASt} (hO : isO S x0 13 = true) (h : b_M_operand_J121 S  V x0 = some (r, V')) : AWk m_M_operand 5 0 0 0 0 121 [some (aR x0)] [] S V (some (aI r)) S V' := by
  unfold b_M_operand_J121 at h
  refine Ak_aload_n 122 0 (d_M_operand 68 121 (.aload_n 0) 1 rfl) rfl rfl rfl ?_
  refine Ak_bipush 124 (d_M_operand 69 122 (.bipush 40) 2 rfl) rfl (bp_ok rfl) (rk rfl) ?_
  obtain ⟨r39, V40, h41, h⟩ := bnd_some h
  refine Ak_cV1 127 2 (c_M_isSign h41) rfl hO clX13 rfl mok_M_isSign lkM_M_277 (d_M_operand 70 124 (.invokevirtual 277) 3 rfl) rfl (by decide) (Nat.le_of_ble_eq_true rfl) ?_
  refine Ak_if_eq 137 130 (d_M_operand 71 127 (.ifCond .eq 10) 3 rfl) rfl rfl (fun hc => ?_) (fun hc => ?_)
  · replace h := it_t hc h
    refine Ak_aload_n 138 0 (d_M_operand 77 137 (.aload_n 0) 1 rfl) rfl rfl rfl ?_
    refine Ak_ldc2 141 7170414 (d_M_operand 78 138 (.ldc2_w 325) 3 rfl) rfl lkJ_M_325 (rkL rfl) ?_
    obtain ⟨r42, V43, h44, h⟩ := bnd_some h
    refine Ak_cV1 144 2 (c_M_isWord h44) rfl hO clX13 rfl mok_M_isWord lkM_M_345 (d_M_operand 79 141 (.invokevirtual 345) 3 rfl) rfl (by decide) (Nat.le_of_ble_eq_true rfl) ?_
    refine Ak_if_ne 157 147 (d_M_operand 80 144 (.ifCond .ne 13) 3 rfl) rfl rfl (fun hc => ?_) (fun hc => ?_)
    · replace h := it_f hc h
      refine Ak_keep [true] ?_
      exact t_M_operand_J157 hO h
    · replace h := it_t hc h
      refine Ak_aload_n 148 0 (d_M_operand 81 147 (.aload_n 0) 1 rfl) rfl rfl rfl ?_
      refine Ak_ldc2 151 7168376 (d_M_operand 82 148 (.ldc2_w 327) 3 rfl) rfl lkJ_M_327 (rkL rfl) ?_
      obtain ⟨r45, V46, h47, h⟩ := bnd_some h
      refine Ak_cV1 154 2 (c_M_isWord h47) rfl hO clX13 rfl mok_M_isWord lkM_M_345 (d_M_operand 83 151 (.invokevirtual 345) 3 rfl) rfl (by decide) (Nat.le_of_ble_eq_true rfl) ?_
      refine Ak_if_eq 223 157 (d_M_operand 84 154 (.ifCond .eq 69) 3 rfl) rfl rfl (fun hc => ?_) (fun hc => ?_)
      · replace h := it_t hc h
        refine Ak_aload_n 224 0 (d_M_operand 120 223 (.aload_n 0) 1 rfl) rfl rfl rfl ?_
        refine Ak_getI 227 3 hO clX13 (by decide) (Or.inl rfl) lkF_M_20 (d_M_operand 121 224 (.getfield 20) 3 rfl) rfl ?_
        refine Ak_iconst 228 (d_M_operand 122 227 (.iconst 2) 1 rfl) rfl (rk rfl) ?_
        refine Ak_icmp_ne 235 231 (d_M_operand 123 228 (.if_icmp .ne 7) 3 rfl) rfl rfl (fun hc => ?_) (fun hc => ?_)
        · replace h := it_f hc h
          refine Ak_aload_n 236 0 (d_M_operand 126 235 (.aload_n 0) 1 rfl) rfl rfl rfl ?_
          refine Ak_ldc2 239 1936748404 (d_M_operand 127 236 (.ldc2_w 319) 3 rfl) rfl lkJ_M_319 (rkL rfl) ?_
          obtain ⟨r48, V49, h50, h⟩ := bnd_some h
          refine Ak_cV1 242 2 (c_M_isWord h50) rfl hO clX13 rfl mok_M_isWord lkM_M_345 (d_M_operand 128 239 (.invokevirtual 345) 3 rfl) rfl (by decide) (Nat.le_of_ble_eq_true rfl) ?_
          refine Ak_if_eq 249 245 (d_M_operand 129 242 (.ifCond .eq 7) 3 rfl) rfl rfl (fun hc => ?_) (fun hc => ?_)
          · replace h := it_t hc h
            refine Ak_aload_n 250 0 (d_M_operand 132 249 (.aload_n 0) 1 rfl) rfl rfl rfl ?_
            refine Ak_ldc2 253 1735352684 (d_M_operand 133 250 (.ldc2_w 321) 3 rfl) rfl lkJ_M_321 (rkL rfl) ?_
            obtain ⟨r51, V52, h53, h⟩ := bnd_some h
            refine Ak_cV1 256 2 (c_M_isWord h53) rfl hO clX13 rfl mok_M_isWord lkM_M_345 (d_M_operand 134 253 (.invokevirtual 345) 3 rfl) rfl (by decide) (Nat.le_of_ble_eq_true rfl) ?_
            refine Ak_if_eq 263 259 (d_M_operand 135 256 (.ifCond .eq 7) 3 rfl) rfl rfl (fun hc => ?_) (fun hc => ?_)
            · replace h := it_t hc h
              refine Ak_aload_n 264 0 (d_M_operand 138 263 (.aload_n 0) 1 rfl) rfl rfl rfl ?_
              refine Ak_ldc2 267 7825519 (d_M_operand 139 264 (.ldc2_w 323) 3 rfl) rfl lkJ_M_323 (rkL rfl) ?_
              obtain ⟨r54, V55, h56, h⟩ := bnd_some h
              refine Ak_cV1 270 2 (c_M_isWord h56) rfl hO clX13 rfl mok_M_isWord lkM_M_345 (d_M_operand 140 267 (.invokevirtual 345) 3 rfl) rfl (by decide) (Nat.le_of_ble_eq_true rfl) ?_
              refine Ak_if_eq 277 273 (d_M_operand 141 270 (.ifCond .eq 7) 3 rfl) rfl rfl (fun hc => ?_) (fun hc => ?_)
              · replace h := it_t hc h
                refine Ak_iconst 278 (d_M_operand 144 277 (.iconst (-1)) 1 rfl) rfl (rk rfl) ?_
                refine Ak_keep [true] ?_
                exact t_M_operand_J278 hO h
              · replace h := it_f hc h
                refine Ak_iconst 274 (d_M_operand 142 273 (.iconst 3) 1 rfl) rfl (rk rfl) ?_
                refine Ak_goto 278 (d_M_operand 143 274 (.goto 4) 3 rfl) rfl ?_
                refine Ak_keep [true] ?_
                exact t_M_operand_J278 hO h
            · replace h := it_f hc h
              refine Ak_iconst 260 (d_M_operand 136 259 (.iconst 2) 1 rfl) rfl (rk rfl) ?_
              refine Ak_goto 278 (d_M_operand 137 260 (.goto 18) 3 rfl) rfl ?_
              refine Ak_keep [true] ?_
              exact t_M_operand_J278 hO h
          · replace h := it_f hc h
            refine Ak_iconst 246 (d_M_operand 130 245 (.iconst 1) 1 rfl) rfl (rk rfl) ?_
            refine Ak_goto 278 (d_M_operand 131 246 (.goto 32) 3 rfl) rfl ?_
            refine Ak_keep [true] ?_
            exact t_M_operand_J278 hO h
        · replace h := it_t hc h
          refine Ak_iconst 232 (d_M_operand 124 231 (.iconst 0) 1 rfl) rfl (rk rfl) ?_
          refine Ak_goto 278 (d_M_operand 125 232 (.goto 46) 3 rfl) rfl ?_
          refine Ak_keep [true] ?_
          exact t_M_operand_J278 hO h
      · replace h := it_f hc h
        refine Ak_keep [true] ?_
        exact t_M_operand_J157 hO h
  · replace h := it_f hc h
    refine Ak_aload_n 131 0 (d_M_operand 72 130 (.aload_n 0) 1 rfl) rfl rfl rfl ?_
    refine Ak_iconst 132 (d_M_operand 73 131 (.iconst 2) 1 rfl) rfl (rk rfl) ?_
    obtain ⟨r57, V58, h59, h⟩ := bnd_some h
    refine Ak_cV0 135 4 (c_M_opens h59) rfl hO clX13 rfl mok_M_opens lkM_M_352 (d_M_operand 74 132 (.invokevirtual 352) 3 rfl) rfl (by decide) (Nat.le_of_ble_eq_true rfl) ?_
    refine Ak_iconst 136 (d_M_operand 75 135 (.iconst 0) 1 rfl) rfl (rk rfl) ?_
    cases h
    exact Ak_zret (Or.inl rfl) rfl (d_M_operand 76 136 (.ireturn) 1 rfl)
theorem t_M_operand_J87 {S : ASh} {V : ASt} {x0 x1 x2 : Int} {r : Int} {V' : ASt} (hO : isO S x0 13 = true) (h : b_M_operand_J87 S  V x0 x1 x2 = some (r, V')) : AWk m_M_operand 5 0 0 0 0 87 [some (aR x0), some (aI x1), some (aI x2)] [] S V (some (aI r)) S V' := by
  unfold b_M_operand_J87 at h
  refine Ak_iload_n 88 2 (d_M_operand 49 87 (.iload_n 2) 1 rfl) rfl rfl rfl ?_
  refine Ak_if_eq 121 91 (d_M_operand 50 88 (.ifCond .eq 33) 3 rfl) rfl rfl (fun hc => ?_) (fun hc => ?_)
  · replace h := it_t hc h
    refine Ak_keep [true] ?_
    exact t_M_operand_J121 hO h
  · replace h := it_f hc h
    refine Ak_aload_n 92 0 (d_M_operand 51 91 (.aload_n 0) 1 rfl) rfl rfl rfl ?_
    refine Ak_ldc2 95 6384748 (d_M_operand 52 92 (.ldc2_w 317) 3 rfl) rfl lkJ_M_317 (rkL rfl) ?_
    obtain ⟨r60, V61, h62, h⟩ := bnd_some h
    refine Ak_cV1 98 2 (c_M_isWord h62) rfl hO clX13 rfl mok_M_isWord lkM_M_345 (d_M_operand 53 95 (.invokevirtual 345) 3 rfl) rfl (by decide) (Nat.le_of_ble_eq_true rfl) ?_
    refine Ak_if_eq 121 101 (d_M_operand 54 98 (.ifCond .eq 23) 3 rfl) rfl rfl (fun hc => ?_) (fun hc => ?_)
    · replace h := it_t hc h
      refine Ak_keep [true] ?_
      exact t_M_operand_J121 hO h
    · replace h := it_f hc h
      refine Ak_aload_n 102 0 (d_M_operand 55 101 (.aload_n 0) 1 rfl) rfl rfl rfl ?_
      refine Ak_bipush 104 (d_M_operand 56 102 (.bipush 9) 2 rfl) rfl (bp_ok rfl) (rk rfl) ?_
      refine Ak_iconst 105 (d_M_operand 57 104 (.iconst 0) 1 rfl) rfl (rk rfl) ?_
      obtain ⟨r63, V64, h65, h⟩ := bnd_some h
      refine Ak_cV0 108 2 (c_M_add h65) rfl hO clX13 rfl mok_M_add lkM_M_336 (d_M_operand 58 105 (.invokevirtual 336) 3 rfl) rfl (by decide) (Nat.le_of_ble_eq_true rfl) ?_
      refine Ak_aload_n 109 0 (d_M_operand 59 108 (.aload_n 0) 1 rfl) rfl rfl rfl ?_
      refine Ak_getF 112 32 hO clX13 (by decide) rfl lkF_M_110 (d_M_operand 60 109 (.getfield 110) 3 rfl) rfl ?_
      refine Ak_iload_n 113 1 (d_M_operand 61 112 (.iload_n 1) 1 rfl) rfl rfl rfl ?_
      refine Ak_iconst 114 (d_M_operand 62 113 (.iconst 2) 1 rfl) rfl (rk rfl) ?_
      obtain ⟨ha66, h⟩ := gd_some h
      refine Ak_iastore 115 ha66 (d_M_operand 63 114 (.iastore) 1 rfl) rfl (fun V67 hV67 => ?_)
      replace h := wV_some h V67 hV67
      refine Ak_aload_n 116 0 (d_M_operand 64 115 (.aload_n 0) 1 rfl) rfl rfl rfl ?_
      obtain ⟨r68, V69, h70, h⟩ := bnd_some h
      refine Ak_cV0 119 3 (c_M_ahead h70) rfl hO clX13 rfl mok_M_ahead lkM_M_280 (d_M_operand 65 116 (.invokevirtual 280) 3 rfl) rfl (by decide) (Nat.le_of_ble_eq_true rfl) ?_
      refine Ak_iconst 120 (d_M_operand 66 119 (.iconst 1) 1 rfl) rfl (rk rfl) ?_
      cases h
      exact Ak_zret (Or.inr rfl) rfl (d_M_operand 67 120 (.ireturn) 1 rfl)
theorem t_M_operand_J60 {S : ASh} {V : ASt} {x0 x1 x2 : Int} {r : Int} {V' : ASt} (hO : isO S x0 13 = true) (h : b_M_operand_J60 S  V x0 x1 x2 = some (r, V')) : AWk m_M_operand 5 0 0 0 0 60 [some (aR x0), some (aI x1), some (aI x2)] [] S V (some (aI r)) S V' := by
  unfold b_M_operand_J60 at h
  refine Ak_aload_n 61 0 (d_M_operand 33 60 (.aload_n 0) 1 rfl) rfl rfl rfl ?_
  refine Ak_getF 64 33 hO clX13 (by decide) rfl lkF_M_113 (d_M_operand 34 61 (.getfield 113) 3 rfl) rfl ?_
  refine Ak_iload_n 65 1 (d_M_operand 35 64 (.iload_n 1) 1 rfl) rfl rfl rfl ?_
  refine Ak_iconst 66 (d_M_operand 36 65 (.iconst 0) 1 rfl) rfl (rk rfl) ?_
  obtain ⟨ha71, h⟩ := gd_some h
  refine Ak_bastore 67 ha71 (Or.inl rfl) (d_M_operand 37 66 (.bastore) 1 rfl) rfl (fun V72 hV72 => ?_)
  replace h := wV_some h V72 hV72
  refine Ak_iload_n 68 2 (d_M_operand 38 67 (.iload_n 2) 1 rfl) rfl rfl rfl ?_
  refine Ak_if_eq 87 71 (d_M_operand 39 68 (.ifCond .eq 19) 3 rfl) rfl rfl (fun hc => ?_) (fun hc => ?_)
  · replace h := it_t hc h
    refine Ak_keep [true, true, true] ?_
    exact t_M_operand_J87 hO h
  · replace h := it_f hc h
    refine Ak_aload_n 72 0 (d_M_operand 40 71 (.aload_n 0) 1 rfl) rfl rfl rfl ?_
    refine Ak_bipush 74 (d_M_operand 41 72 (.bipush 91) 2 rfl) rfl (bp_ok rfl) (rk rfl) ?_
    obtain ⟨r73, V74, h75, h⟩ := bnd_some h
    refine Ak_cV1 77 2 (c_M_isSign h75) rfl hO clX13 rfl mok_M_isSign lkM_M_277 (d_M_operand 42 74 (.invokevirtual 277) 3 rfl) rfl (by decide) (Nat.le_of_ble_eq_true rfl) ?_
    refine Ak_if_eq 87 80 (d_M_operand 43 77 (.ifCond .eq 10) 3 rfl) rfl rfl (fun hc => ?_) (fun hc => ?_)
    · replace h := it_t hc h
      refine Ak_keep [true, true, true] ?_
      exact t_M_operand_J87 hO h
    · replace h := it_f hc h
      refine Ak_aload_n 81 0 (d_M_operand 44 80 (.aload_n 0) 1 rfl) rfl rfl rfl ?_
      refine Ak_iconst 82 (d_M_operand 45 81 (.iconst 5) 1 rfl) rfl (rk rfl) ?_
      obtain ⟨r76, V77, h78, h⟩ := bnd_some h
      refine Ak_cV0 85 4 (c_M_opens h78) rfl hO clX13 rfl mok_M_opens lkM_M_352 (d_M_operand 46 82 (.invokevirtual 352) 3 rfl) rfl (by decide) (Nat.le_of_ble_eq_true rfl) ?_
      refine Ak_iconst 86 (d_M_operand 47 85 (.iconst 0) 1 rfl) rfl (rk rfl) ?_
      cases h
      exact Ak_zret (Or.inl rfl) rfl (d_M_operand 48 86 (.ireturn) 1 rfl)
theorem t_M_operand_J33 {S : ASh} {V : ASt} {x0 x1 s0 : Int} {r : Int} {V' : ASt} (hO : isO S x0 13 = true) (h : b_M_operand_J33 S  V x0 x1 s0 = some (r, V')) : AWk m_M_operand 5 0 0 0 0 33 [some (aR x0), some (aI x1)] [(aI s0)] S V (some (aI r)) S V' := by
  unfold b_M_operand_J33 at h
  refine Ak_istore_n 34 2 (d_M_operand 19 33 (.istore_n 2) 1 rfl) rfl rfl (by decide) ?_
  refine Ak_iload_n 35 2 (d_M_operand 20 34 (.iload_n 2) 1 rfl) rfl rfl rfl ?_
  refine Ak_if_eq 60 38 (d_M_operand 21 35 (.ifCond .eq 25) 3 rfl) rfl rfl (fun hc => ?_) (fun hc => ?_)
  · replace h := it_t hc h
    refine Ak_keep [true, true, true] ?_
    exact t_M_operand_J60 hO h
  · replace h := it_f hc h
    refine Ak_aload_n 39 0 (d_M_operand 22 38 (.aload_n 0) 1 rfl) rfl rfl rfl ?_
    refine Ak_ldc2 42 7237492 (d_M_operand 23 39 (.ldc2_w 303) 3 rfl) rfl lkJ_M_303 (rkL rfl) ?_
    obtain ⟨r79, V80, h81, h⟩ := bnd_some h
    refine Ak_cV1 45 2 (c_M_isWord h81) rfl hO clX13 rfl mok_M_isWord lkM_M_345 (d_M_operand 24 42 (.invokevirtual 345) 3 rfl) rfl (by decide) (Nat.le_of_ble_eq_true rfl) ?_
    refine Ak_if_eq 60 48 (d_M_operand 25 45 (.ifCond .eq 15) 3 rfl) rfl rfl (fun hc => ?_) (fun hc => ?_)
    · replace h := it_t hc h
      refine Ak_keep [true, true, true] ?_
      exact t_M_operand_J60 hO h
    · replace h := it_f hc h
      refine Ak_aload_n 49 0 (d_M_operand 26 48 (.aload_n 0) 1 rfl) rfl rfl rfl ?_
      refine Ak_bipush 51 (d_M_operand 27 49 (.bipush 22) 2 rfl) rfl (bp_ok rfl) (rk rfl) ?_
      obtain ⟨r82, V83, h84, h⟩ := bnd_some h
      refine Ak_cV0 54 2 (c_M_holdsBack h84) rfl hO clX13 rfl mok_M_holdsBack lkM_M_349 (d_M_operand 28 51 (.invokevirtual 349) 3 rfl) rfl (by decide) (Nat.le_of_ble_eq_true rfl) ?_
      refine Ak_aload_n 55 0 (d_M_operand 29 54 (.aload_n 0) 1 rfl) rfl rfl rfl ?_
      obtain ⟨r85, V86, h87, h⟩ := bnd_some h
      refine Ak_cV0 58 3 (c_M_ahead h87) rfl hO clX13 rfl mok_M_ahead lkM_M_280 (d_M_operand 30 55 (.invokevirtual 280) 3 rfl) rfl (by decide) (Nat.le_of_ble_eq_true rfl) ?_
      refine Ak_iconst 59 (d_M_operand 31 58 (.iconst 0) 1 rfl) rfl (rk rfl) ?_
      cases h
      exact Ak_zret (Or.inl rfl) rfl (d_M_operand 32 59 (.ireturn) 1 rfl)
theorem c_M_operand {S : ASh} {V : ASt} {x0 : Int} {r : Int} {V' : ASt} (h : f_M_operand S V x0 = some (r, V')) : ACt m_M_operand 5 0 0 [(aR x0)] S V (some (aI r)) S V' := by
  unfold f_M_operand at h
  obtain ⟨hO, h⟩ := gd_some h
  refine ACt_of (plainFor_of_name rfl) rfl (Nat.le_of_ble_eq_true rfl) ?_
  show AWk m_M_operand 5 0 0 0 0 0 [some (aR x0)] [] S V (some (aI r)) S V'
  refine Ak_aload_n 1 0 (d_M_operand 0 0 (.aload_n 0) 1 rfl) rfl rfl rfl ?_
  refine Ak_getI 4 36 hO clX13 (by decide) (Or.inl rfl) lkF_M_122 (d_M_operand 1 1 (.getfield 122) 3 rfl) rfl ?_
  refine Ak_iconst 5 (d_M_operand 2 4 (.iconst 1) 1 rfl) rfl (rk rfl) ?_
  refine Ak_isub 6 (d_M_operand 3 5 (.isub) 1 rfl) rfl ?_
  refine Ak_istore_n 7 1 (d_M_operand 4 6 (.istore_n 1) 1 rfl) rfl rfl (by decide) ?_
  refine Ak_aload_n 8 0 (d_M_operand 5 7 (.aload_n 0) 1 rfl) rfl rfl rfl ?_
  refine Ak_getF 11 31 hO clX13 (by decide) rfl lkF_M_107 (d_M_operand 6 8 (.getfield 107) 3 rfl) rfl ?_
  refine Ak_iload_n 12 1 (d_M_operand 7 11 (.iload_n 1) 1 rfl) rfl rfl rfl ?_
  obtain ⟨ha88, h⟩ := gd_some h
  refine Ak_iaload 13 ha88 (d_M_operand 8 12 (.iaload) 1 rfl) rfl ?_
  obtain ⟨r89, V90, h91, h⟩ := bnd_some h
  refine Ak_cS1 16 2 (c_M_isTest h91) rfl mok_M_isTest lkM_M_342 (d_M_operand 9 13 (.invokestatic 342) 3 rfl) rfl (by decide) (Nat.le_of_ble_eq_true rfl) ?_
  refine Ak_if_eq 32 19 (d_M_operand 10 16 (.ifCond .eq 16) 3 rfl) rfl rfl (fun hc => ?_) (fun hc => ?_)
  · replace h := it_t hc h
    refine Ak_iconst 33 (d_M_operand 18 32 (.iconst 0) 1 rfl) rfl (rk rfl) ?_
    refine Ak_keep [true, true] ?_
    exact t_M_operand_J33 hO h
  · replace h := it_f hc h
    refine Ak_aload_n 20 0 (d_M_operand 11 19 (.aload_n 0) 1 rfl) rfl rfl rfl ?_
    refine Ak_getF 23 33 hO clX13 (by decide) rfl lkF_M_113 (d_M_operand 12 20 (.getfield 113) 3 rfl) rfl ?_
    refine Ak_iload_n 24 1 (d_M_operand 13 23 (.iload_n 1) 1 rfl) rfl rfl rfl ?_
    obtain ⟨ha92, h⟩ := gd_some h
    refine Ak_baload 25 ha92 (d_M_operand 14 24 (.baload) 1 rfl) rfl ?_
    refine Ak_if_eq 32 28 (d_M_operand 15 25 (.ifCond .eq 7) 3 rfl) rfl rfl (fun hc => ?_) (fun hc => ?_)
    · replace h := it_t hc h
      refine Ak_iconst 33 (d_M_operand 18 32 (.iconst 0) 1 rfl) rfl (rk rfl) ?_
      refine Ak_keep [true, true] ?_
      exact t_M_operand_J33 hO h
    · replace h := it_f hc h
      refine Ak_iconst 29 (d_M_operand 16 28 (.iconst 1) 1 rfl) rfl (rk rfl) ?_
      refine Ak_goto 33 (d_M_operand 17 29 (.goto 4) 3 rfl) rfl ?_
      refine Ak_keep [true, true] ?_
      exact t_M_operand_J33 hO h
theorem t_M_goesOn_J161 {S : ASh} {V : ASt} {x0 s0 s1 : Int} {r : Int} {V' : ASt} (hO : isO S x0 13 = true) (h : b_M_goesOn_J161 S  V x0 s0 s1 = some (r, V')) : AWk m_M_goesOn 4 0 0 0 0 161 [some (aR x0)] [(aI s1), (aR s0)] S V (some (aI r)) S V' := by
  unfold b_M_goesOn_J161 at h
  obtain ⟨hg4, h⟩ := gd_some h
  obtain ⟨r1, V2, h3, h⟩ := bnd_some h
  refine Ak_cV0 164 2 (c_M_holdsBack h3) rfl hg4 clX13 rfl mok_M_holdsBack lkM_M_349 (d_M_goesOn 78 161 (.invokevirtual 349) 3 rfl) rfl (by decide) (Nat.le_of_ble_eq_true rfl) ?_
  refine Ak_aload_n 165 0 (d_M_goesOn 79 164 (.aload_n 0) 1 rfl) rfl rfl rfl ?_
  obtain ⟨r5, V6, h7, h⟩ := bnd_some h
  refine Ak_cV0 168 3 (c_M_ahead h7) rfl hO clX13 rfl mok_M_ahead lkM_M_280 (d_M_goesOn 80 165 (.invokevirtual 280) 3 rfl) rfl (by decide) (Nat.le_of_ble_eq_true rfl) ?_
  refine Ak_aload_n 169 0 (d_M_goesOn 81 168 (.aload_n 0) 1 rfl) rfl rfl rfl ?_
  refine Ak_iconst 170 (d_M_goesOn 82 169 (.iconst 0) 1 rfl) rfl (rk rfl) ?_
  refine Ak_putZ 173 40 (Or.inl rfl) hO clX13 (by decide) rfl rfl rfl lkF_M_134 (d_M_goesOn 83 170 (.putfield 134) 3 rfl) rfl (fun V8 hV8 => ?_)
  replace h := wV_some h V8 hV8
  refine Ak_iconst 174 (d_M_goesOn 84 173 (.iconst 1) 1 rfl) rfl (rk rfl) ?_
  cases h
  exact Ak_zret (Or.inr rfl) rfl (d_M_goesOn 85 174 (.ireturn) 1 rfl)
theorem t_M_goesOn_J99 {S : ASh} {V : ASt} {x0 s0 s1 : Int} {r : Int} {V' : ASt} (hO : isO S x0 13 = true) (h : b_M_goesOn_J99 S  V x0 s0 s1 = some (r, V')) : AWk m_M_goesOn 4 0 0 0 0 99 [some (aR x0)] [(aI s1), (aR s0)] S V (some (aI r)) S V' := by
  unfold b_M_goesOn_J99 at h
  obtain ⟨hg12, h⟩ := gd_some h
  obtain ⟨r9, V10, h11, h⟩ := bnd_some h
  refine Ak_cV0 102 3 (c_M_joins h11) rfl hg12 clX13 rfl mok_M_joins lkM_M_362 (d_M_goesOn 51 99 (.invokevirtual 362) 3 rfl) rfl (by decide) (Nat.le_of_ble_eq_true rfl) ?_
  refine Ak_aload_n 103 0 (d_M_goesOn 52 102 (.aload_n 0) 1 rfl) rfl rfl rfl ?_
  refine Ak_aload_n 104 0 (d_M_goesOn 53 103 (.aload_n 0) 1 rfl) rfl rfl rfl ?_
  refine Ak_bipush 106 (d_M_goesOn 54 104 (.bipush 43) 2 rfl) rfl (bp_ok rfl) (rk rfl) ?_
  obtain ⟨r13, V14, h15, h⟩ := bnd_some h
  refine Ak_cV1 109 2 (c_M_isSign h15) rfl hO clX13 rfl mok_M_isSign lkM_M_277 (d_M_goesOn 55 106 (.invokevirtual 277) 3 rfl) rfl (by decide) (Nat.le_of_ble_eq_true rfl) ?_
  refine Ak_if_eq 117 112 (d_M_goesOn 56 109 (.ifCond .eq 8) 3 rfl) rfl rfl (fun hc => ?_) (fun hc => ?_)
  · replace h := it_t hc h
    refine Ak_aload_n 118 0 (d_M_goesOn 59 117 (.aload_n 0) 1 rfl) rfl rfl rfl ?_
    refine Ak_bipush 120 (d_M_goesOn 60 118 (.bipush 45) 2 rfl) rfl (bp_ok rfl) (rk rfl) ?_
    obtain ⟨r16, V17, h18, h⟩ := bnd_some h
    refine Ak_cV1 123 2 (c_M_isSign h18) rfl hO clX13 rfl mok_M_isSign lkM_M_277 (d_M_goesOn 61 120 (.invokevirtual 277) 3 rfl) rfl (by decide) (Nat.le_of_ble_eq_true rfl) ?_
    refine Ak_if_eq 131 126 (d_M_goesOn 62 123 (.ifCond .eq 8) 3 rfl) rfl rfl (fun hc => ?_) (fun hc => ?_)
    · replace h := it_t hc h
      refine Ak_aload_n 132 0 (d_M_goesOn 65 131 (.aload_n 0) 1 rfl) rfl rfl rfl ?_
      refine Ak_bipush 134 (d_M_goesOn 66 132 (.bipush 42) 2 rfl) rfl (bp_ok rfl) (rk rfl) ?_
      obtain ⟨r19, V20, h21, h⟩ := bnd_some h
      refine Ak_cV1 137 2 (c_M_isSign h21) rfl hO clX13 rfl mok_M_isSign lkM_M_277 (d_M_goesOn 67 134 (.invokevirtual 277) 3 rfl) rfl (by decide) (Nat.le_of_ble_eq_true rfl) ?_
      refine Ak_if_eq 145 140 (d_M_goesOn 68 137 (.ifCond .eq 8) 3 rfl) rfl rfl (fun hc => ?_) (fun hc => ?_)
      · replace h := it_t hc h
        refine Ak_aload_n 146 0 (d_M_goesOn 71 145 (.aload_n 0) 1 rfl) rfl rfl rfl ?_
        refine Ak_bipush 148 (d_M_goesOn 72 146 (.bipush 47) 2 rfl) rfl (bp_ok rfl) (rk rfl) ?_
        obtain ⟨r22, V23, h24, h⟩ := bnd_some h
        refine Ak_cV1 151 2 (c_M_isSign h24) rfl hO clX13 rfl mok_M_isSign lkM_M_277 (d_M_goesOn 73 148 (.invokevirtual 277) 3 rfl) rfl (by decide) (Nat.le_of_ble_eq_true rfl) ?_
        refine Ak_if_eq 159 154 (d_M_goesOn 74 151 (.ifCond .eq 8) 3 rfl) rfl rfl (fun hc => ?_) (fun hc => ?_)
        · replace h := it_t hc h
          refine Ak_bipush 161 (d_M_goesOn 77 159 (.bipush 14) 2 rfl) rfl (bp_ok rfl) (rk rfl) ?_
          refine Ak_keep [true] ?_
          exact t_M_goesOn_J161 hO h
        · replace h := it_f hc h
          refine Ak_bipush 156 (d_M_goesOn 75 154 (.bipush 13) 2 rfl) rfl (bp_ok rfl) (rk rfl) ?_
          refine Ak_goto 161 (d_M_goesOn 76 156 (.goto 5) 3 rfl) rfl ?_
          refine Ak_keep [true] ?_
          exact t_M_goesOn_J161 hO h
      · replace h := it_f hc h
        refine Ak_bipush 142 (d_M_goesOn 69 140 (.bipush 12) 2 rfl) rfl (bp_ok rfl) (rk rfl) ?_
        refine Ak_goto 161 (d_M_goesOn 70 142 (.goto 19) 3 rfl) rfl ?_
        refine Ak_keep [true] ?_
        exact t_M_goesOn_J161 hO h
    · replace h := it_f hc h
      refine Ak_bipush 128 (d_M_goesOn 63 126 (.bipush 11) 2 rfl) rfl (bp_ok rfl) (rk rfl) ?_
      refine Ak_goto 161 (d_M_goesOn 64 128 (.goto 33) 3 rfl) rfl ?_
      refine Ak_keep [true] ?_
      exact t_M_goesOn_J161 hO h
  · replace h := it_f hc h
    refine Ak_bipush 114 (d_M_goesOn 57 112 (.bipush 10) 2 rfl) rfl (bp_ok rfl) (rk rfl) ?_
    refine Ak_goto 161 (d_M_goesOn 58 114 (.goto 47) 3 rfl) rfl ?_
    refine Ak_keep [true] ?_
    exact t_M_goesOn_J161 hO h
theorem t_M_goesOn_J74 {S : ASh} {V : ASt} {x0 : Int} {r : Int} {V' : ASt} (hO : isO S x0 13 = true) (h : b_M_goesOn_J74 S  V x0 = some (r, V')) : AWk m_M_goesOn 4 0 0 0 0 74 [some (aR x0)] [] S V (some (aI r)) S V' := by
  unfold b_M_goesOn_J74 at h
  refine Ak_aload_n 75 0 (d_M_goesOn 39 74 (.aload_n 0) 1 rfl) rfl rfl rfl ?_
  refine Ak_aload_n 76 0 (d_M_goesOn 40 75 (.aload_n 0) 1 rfl) rfl rfl rfl ?_
  refine Ak_bipush 78 (d_M_goesOn 41 76 (.bipush 43) 2 rfl) rfl (bp_ok rfl) (rk rfl) ?_
  obtain ⟨r25, V26, h27, h⟩ := bnd_some h
  refine Ak_cV1 81 2 (c_M_isSign h27) rfl hO clX13 rfl mok_M_isSign lkM_M_277 (d_M_goesOn 42 78 (.invokevirtual 277) 3 rfl) rfl (by decide) (Nat.le_of_ble_eq_true rfl) ?_
  refine Ak_if_ne 93 84 (d_M_goesOn 43 81 (.ifCond .ne 12) 3 rfl) rfl rfl (fun hc => ?_) (fun hc => ?_)
  · replace h := it_f hc h
    refine Ak_iconst 94 (d_M_goesOn 48 93 (.iconst 5) 1 rfl) rfl (rk rfl) ?_
    refine Ak_goto 99 (d_M_goesOn 49 94 (.goto 5) 3 rfl) rfl ?_
    refine Ak_keep [true] ?_
    exact t_M_goesOn_J99 hO h
  · replace h := it_t hc h
    refine Ak_aload_n 85 0 (d_M_goesOn 44 84 (.aload_n 0) 1 rfl) rfl rfl rfl ?_
    refine Ak_bipush 87 (d_M_goesOn 45 85 (.bipush 45) 2 rfl) rfl (bp_ok rfl) (rk rfl) ?_
    obtain ⟨r28, V29, h30, h⟩ := bnd_some h
    refine Ak_cV1 90 2 (c_M_isSign h30) rfl hO clX13 rfl mok_M_isSign lkM_M_277 (d_M_goesOn 46 87 (.invokevirtual 277) 3 rfl) rfl (by decide) (Nat.le_of_ble_eq_true rfl) ?_
    refine Ak_if_eq 97 93 (d_M_goesOn 47 90 (.ifCond .eq 7) 3 rfl) rfl rfl (fun hc => ?_) (fun hc => ?_)
    · replace h := it_t hc h
      refine Ak_bipush 99 (d_M_goesOn 50 97 (.bipush 6) 2 rfl) rfl (bp_ok rfl) (rk rfl) ?_
      refine Ak_keep [true] ?_
      exact t_M_goesOn_J99 hO h
    · replace h := it_f hc h
      refine Ak_iconst 94 (d_M_goesOn 48 93 (.iconst 5) 1 rfl) rfl (rk rfl) ?_
      refine Ak_goto 99 (d_M_goesOn 49 94 (.goto 5) 3 rfl) rfl ?_
      refine Ak_keep [true] ?_
      exact t_M_goesOn_J99 hO h
theorem t_M_goesOn_J251 {S : ASh} {V : ASt} {x0 x1 s0 s1 : Int} {r : Int} {V' : ASt} (hO : isO S x0 13 = true) (h : b_M_goesOn_J251 S  V x0 x1 s0 s1 = some (r, V')) : AWk m_M_goesOn 4 0 0 0 0 251 [some (aR x0), some (aI x1)] [(aI s1), (aR s0)] S V (some (aI r)) S V' := by
  unfold b_M_goesOn_J251 at h
  obtain ⟨hg34, h⟩ := gd_some h
  obtain ⟨r31, V32, h33, h⟩ := bnd_some h
  refine Ak_cV0 254 2 (c_M_holdsBack h33) rfl hg34 clX13 rfl mok_M_holdsBack lkM_M_349 (d_M_goesOn 122 251 (.invokevirtual 349) 3 rfl) rfl (by decide) (Nat.le_of_ble_eq_true rfl) ?_
  refine Ak_aload_n 255 0 (d_M_goesOn 123 254 (.aload_n 0) 1 rfl) rfl rfl rfl ?_
  refine Ak_getF 258 32 hO clX13 (by decide) rfl lkF_M_110 (d_M_goesOn 124 255 (.getfield 110) 3 rfl) rfl ?_
  refine Ak_iload_n 259 1 (d_M_goesOn 125 258 (.iload_n 1) 1 rfl) rfl rfl rfl ?_
  refine Ak_iconst 260 (d_M_goesOn 126 259 (.iconst 1) 1 rfl) rfl (rk rfl) ?_
  obtain ⟨ha35, h⟩ := gd_some h
  refine Ak_iastore 261 ha35 (d_M_goesOn 127 260 (.iastore) 1 rfl) rfl (fun V36 hV36 => ?_)
  replace h := wV_some h V36 hV36
  refine Ak_aload_n 262 0 (d_M_goesOn 128 261 (.aload_n 0) 1 rfl) rfl rfl rfl ?_
  obtain ⟨r37, V38, h39, h⟩ := bnd_some h
  refine Ak_cV0 265 3 (c_M_ahead h39) rfl hO clX13 rfl mok_M_ahead lkM_M_280 (d_M_goesOn 129 262 (.invokevirtual 280) 3 rfl) rfl (by decide) (Nat.le_of_ble_eq_true rfl) ?_
  refine Ak_aload_n 266 0 (d_M_goesOn 130 265 (.aload_n 0) 1 rfl) rfl rfl rfl ?_
  refine Ak_iconst 267 (d_M_goesOn 131 266 (.iconst 0) 1 rfl) rfl (rk rfl) ?_
  refine Ak_putZ 270 40 (Or.inl rfl) hO clX13 (by decide) rfl rfl rfl lkF_M_134 (d_M_goesOn 132 267 (.putfield 134) 3 rfl) rfl (fun V40 hV40 => ?_)
  replace h := wV_some h V40 hV40
  refine Ak_iconst 271 (d_M_goesOn 133 270 (.iconst 1) 1 rfl) rfl (rk rfl) ?_
  cases h
  exact Ak_zret (Or.inr rfl) rfl (d_M_goesOn 134 271 (.ireturn) 1 rfl)
theorem t_M_goesOn_J215 {S : ASh} {V : ASt} {x0 x1 : Int} {r : Int} {V' : ASt} (hO : isO S x0 13 = true) (h : b_M_goesOn_J215 S  V x0 x1 = some (r, V')) : AWk m_M_goesOn 4 0 0 0 0 215 [some (aR x0), some (aI x1)] [] S V (some (aI r)) S V' := by
  unfold b_M_goesOn_J215 at h
  refine Ak_aload_n 216 0 (d_M_goesOn 105 215 (.aload_n 0) 1 rfl) rfl rfl rfl ?_
  refine Ak_iconst 217 (d_M_goesOn 106 216 (.iconst 5) 1 rfl) rfl (rk rfl) ?_
  obtain ⟨r41, V42, h43, h⟩ := bnd_some h
  refine Ak_cV0 220 3 (c_M_joins h43) rfl hO clX13 rfl mok_M_joins lkM_M_362 (d_M_goesOn 107 217 (.invokevirtual 362) 3 rfl) rfl (by decide) (Nat.le_of_ble_eq_true rfl) ?_
  refine Ak_aload_n 221 0 (d_M_goesOn 108 220 (.aload_n 0) 1 rfl) rfl rfl rfl ?_
  refine Ak_aload_n 222 0 (d_M_goesOn 109 221 (.aload_n 0) 1 rfl) rfl rfl rfl ?_
  refine Ak_bipush 224 (d_M_goesOn 110 222 (.bipush 60) 2 rfl) rfl (bp_ok rfl) (rk rfl) ?_
  obtain ⟨r44, V45, h46, h⟩ := bnd_some h
  refine Ak_cV1 227 2 (c_M_isSign h46) rfl hO clX13 rfl mok_M_isSign lkM_M_277 (d_M_goesOn 111 224 (.invokevirtual 277) 3 rfl) rfl (by decide) (Nat.le_of_ble_eq_true rfl) ?_
  refine Ak_if_eq 235 230 (d_M_goesOn 112 227 (.ifCond .eq 8) 3 rfl) rfl rfl (fun hc => ?_) (fun hc => ?_)
  · replace h := it_t hc h
    refine Ak_aload_n 236 0 (d_M_goesOn 115 235 (.aload_n 0) 1 rfl) rfl rfl rfl ?_
    refine Ak_bipush 238 (d_M_goesOn 116 236 (.bipush 62) 2 rfl) rfl (bp_ok rfl) (rk rfl) ?_
    obtain ⟨r47, V48, h49, h⟩ := bnd_some h
    refine Ak_cV1 241 2 (c_M_isSign h49) rfl hO clX13 rfl mok_M_isSign lkM_M_277 (d_M_goesOn 117 238 (.invokevirtual 277) 3 rfl) rfl (by decide) (Nat.le_of_ble_eq_true rfl) ?_
    refine Ak_if_eq 249 244 (d_M_goesOn 118 241 (.ifCond .eq 8) 3 rfl) rfl rfl (fun hc => ?_) (fun hc => ?_)
    · replace h := it_t hc h
      refine Ak_bipush 251 (d_M_goesOn 121 249 (.bipush 19) 2 rfl) rfl (bp_ok rfl) (rk rfl) ?_
      refine Ak_keep [true, true] ?_
      exact t_M_goesOn_J251 hO h
    · replace h := it_f hc h
      refine Ak_bipush 246 (d_M_goesOn 119 244 (.bipush 18) 2 rfl) rfl (bp_ok rfl) (rk rfl) ?_
      refine Ak_goto 251 (d_M_goesOn 120 246 (.goto 5) 3 rfl) rfl ?_
      refine Ak_keep [true, true] ?_
      exact t_M_goesOn_J251 hO h
  · replace h := it_f hc h
    refine Ak_bipush 232 (d_M_goesOn 113 230 (.bipush 17) 2 rfl) rfl (bp_ok rfl) (rk rfl) ?_
    refine Ak_goto 251 (d_M_goesOn 114 232 (.goto 19) 3 rfl) rfl ?_
    refine Ak_keep [true, true] ?_
    exact t_M_goesOn_J251 hO h
theorem t_M_goesOn_J359 {S : ASh} {V : ASt} {x0 x1 s0 s1 : Int} {r : Int} {V' : ASt} (hO : isO S x0 13 = true) (h : b_M_goesOn_J359 S  V x0 x1 s0 s1 = some (r, V')) : AWk m_M_goesOn 4 0 0 0 0 359 [some (aR x0), some (aI x1)] [(aI s1), (aR s0)] S V (some (aI r)) S V' := by
  unfold b_M_goesOn_J359 at h
  obtain ⟨hg53, h⟩ := gd_some h
  obtain ⟨r50, V51, h52, h⟩ := bnd_some h
  refine Ak_cV0 362 2 (c_M_holdsBack h52) rfl hg53 clX13 rfl mok_M_holdsBack lkM_M_349 (d_M_goesOn 177 359 (.invokevirtual 349) 3 rfl) rfl (by decide) (Nat.le_of_ble_eq_true rfl) ?_
  refine Ak_aload_n 363 0 (d_M_goesOn 178 362 (.aload_n 0) 1 rfl) rfl rfl rfl ?_
  refine Ak_getF 366 32 hO clX13 (by decide) rfl lkF_M_110 (d_M_goesOn 179 363 (.getfield 110) 3 rfl) rfl ?_
  refine Ak_iload_n 367 1 (d_M_goesOn 180 366 (.iload_n 1) 1 rfl) rfl rfl rfl ?_
  refine Ak_iconst 368 (d_M_goesOn 181 367 (.iconst 0) 1 rfl) rfl (rk rfl) ?_
  obtain ⟨ha54, h⟩ := gd_some h
  refine Ak_iastore 369 ha54 (d_M_goesOn 182 368 (.iastore) 1 rfl) rfl (fun V55 hV55 => ?_)
  replace h := wV_some h V55 hV55
  refine Ak_aload_n 370 0 (d_M_goesOn 183 369 (.aload_n 0) 1 rfl) rfl rfl rfl ?_
  refine Ak_getF 373 33 hO clX13 (by decide) rfl lkF_M_113 (d_M_goesOn 184 370 (.getfield 113) 3 rfl) rfl ?_
  refine Ak_iload_n 374 1 (d_M_goesOn 185 373 (.iload_n 1) 1 rfl) rfl rfl rfl ?_
  refine Ak_iconst 375 (d_M_goesOn 186 374 (.iconst 1) 1 rfl) rfl (rk rfl) ?_
  obtain ⟨ha56, h⟩ := gd_some h
  refine Ak_bastore 376 ha56 (Or.inr rfl) (d_M_goesOn 187 375 (.bastore) 1 rfl) rfl (fun V57 hV57 => ?_)
  replace h := wV_some h V57 hV57
  refine Ak_aload_n 377 0 (d_M_goesOn 188 376 (.aload_n 0) 1 rfl) rfl rfl rfl ?_
  obtain ⟨r58, V59, h60, h⟩ := bnd_some h
  refine Ak_cV0 380 3 (c_M_ahead h60) rfl hO clX13 rfl mok_M_ahead lkM_M_280 (d_M_goesOn 189 377 (.invokevirtual 280) 3 rfl) rfl (by decide) (Nat.le_of_ble_eq_true rfl) ?_
  refine Ak_aload_n 381 0 (d_M_goesOn 190 380 (.aload_n 0) 1 rfl) rfl rfl rfl ?_
  refine Ak_iconst 382 (d_M_goesOn 191 381 (.iconst 0) 1 rfl) rfl (rk rfl) ?_
  refine Ak_putZ 385 40 (Or.inl rfl) hO clX13 (by decide) rfl rfl rfl lkF_M_134 (d_M_goesOn 192 382 (.putfield 134) 3 rfl) rfl (fun V61 hV61 => ?_)
  replace h := wV_some h V61 hV61
  refine Ak_iconst 386 (d_M_goesOn 193 385 (.iconst 1) 1 rfl) rfl (rk rfl) ?_
  cases h
  exact Ak_zret (Or.inr rfl) rfl (d_M_goesOn 194 386 (.ireturn) 1 rfl)
theorem t_M_goesOn_J343 {S : ASh} {V : ASt} {x0 x1 x4 s0 s1 : Int} {r : Int} {V' : ASt} (hO : isO S x0 13 = true) (h : b_M_goesOn_J343 S  V x0 x1 x4 s0 s1 = some (r, V')) : AWk m_M_goesOn 4 0 0 0 0 343 [some (aR x0), some (aI x1), none, none, some (aI x4)] [(aI s1), (aR s0)] S V (some (aI r)) S V' := by
  unfold b_M_goesOn_J343 at h
  obtain ⟨hg65, h⟩ := gd_some h
  obtain ⟨r62, V63, h64, h⟩ := bnd_some h
  refine Ak_cV0 346 3 (c_M_joins h64) rfl hg65 clX13 rfl mok_M_joins lkM_M_362 (d_M_goesOn 170 343 (.invokevirtual 362) 3 rfl) rfl (by decide) (Nat.le_of_ble_eq_true rfl) ?_
  refine Ak_aload_n 347 0 (d_M_goesOn 171 346 (.aload_n 0) 1 rfl) rfl rfl rfl ?_
  refine Ak_iload 349 (d_M_goesOn 172 347 (.iload 4) 2 rfl) rfl rfl ?_
  refine Ak_if_eq 357 352 (d_M_goesOn 173 349 (.ifCond .eq 8) 3 rfl) rfl rfl (fun hc => ?_) (fun hc => ?_)
  · replace h := it_t hc h
    refine Ak_bipush 359 (d_M_goesOn 176 357 (.bipush 21) 2 rfl) rfl (bp_ok rfl) (rk rfl) ?_
    refine Ak_keep [true, true] ?_
    exact t_M_goesOn_J359 hO h
  · replace h := it_f hc h
    refine Ak_bipush 354 (d_M_goesOn 174 352 (.bipush 20) 2 rfl) rfl (bp_ok rfl) (rk rfl) ?_
    refine Ak_goto 359 (d_M_goesOn 175 354 (.goto 5) 3 rfl) rfl ?_
    refine Ak_keep [true, true] ?_
    exact t_M_goesOn_J359 hO h
theorem t_M_goesOn_J314 {S : ASh} {V : ASt} {x0 x1 : Int} {r : Int} {V' : ASt} (hO : isO S x0 13 = true) (h : b_M_goesOn_J314 S  V x0 x1 = some (r, V')) : AWk m_M_goesOn 4 0 0 0 0 314 [some (aR x0), some (aI x1)] [] S V (some (aI r)) S V' := by
  unfold b_M_goesOn_J314 at h
  refine Ak_aload_n 315 0 (d_M_goesOn 155 314 (.aload_n 0) 1 rfl) rfl rfl rfl ?_
  refine Ak_getI 318 8 hO clX13 (by decide) (Or.inl rfl) lkF_M_36 (d_M_goesOn 156 315 (.getfield 36) 3 rfl) rfl ?_
  refine Ak_if_le 323 321 (d_M_goesOn 157 318 (.ifCond .le 5) 3 rfl) rfl rfl (fun hc => ?_) (fun hc => ?_)
  · replace h := it_t hc h
    refine Ak_aload_n 324 0 (d_M_goesOn 160 323 (.aload_n 0) 1 rfl) rfl rfl rfl ?_
    refine Ak_ldc2 327 6385252 (d_M_goesOn 161 324 (.ldc2_w 315) 3 rfl) rfl lkJ_M_315 (rkL rfl) ?_
    obtain ⟨r66, V67, h68, h⟩ := bnd_some h
    refine Ak_cV1 330 2 (c_M_isWord h68) rfl hO clX13 rfl mok_M_isWord lkM_M_345 (d_M_goesOn 162 327 (.invokevirtual 345) 3 rfl) rfl (by decide) (Nat.le_of_ble_eq_true rfl) ?_
    refine Ak_istore 332 (d_M_goesOn 163 330 (.istore 4) 2 rfl) rfl (by decide) ?_
    refine Ak_aload_n 333 0 (d_M_goesOn 164 332 (.aload_n 0) 1 rfl) rfl rfl rfl ?_
    refine Ak_iload 335 (d_M_goesOn 165 333 (.iload 4) 2 rfl) rfl rfl ?_
    refine Ak_if_eq 342 338 (d_M_goesOn 166 335 (.ifCond .eq 7) 3 rfl) rfl rfl (fun hc => ?_) (fun hc => ?_)
    · replace h := it_t hc h
      refine Ak_iconst 343 (d_M_goesOn 169 342 (.iconst 1) 1 rfl) rfl (rk rfl) ?_
      refine Ak_keep [true, true, false, false, true] ?_
      exact t_M_goesOn_J343 hO h
    · replace h := it_f hc h
      refine Ak_iconst 339 (d_M_goesOn 167 338 (.iconst 2) 1 rfl) rfl (rk rfl) ?_
      refine Ak_goto 343 (d_M_goesOn 168 339 (.goto 4) 3 rfl) rfl ?_
      refine Ak_keep [true, true, false, false, true] ?_
      exact t_M_goesOn_J343 hO h
  · replace h := it_f hc h
    refine Ak_iconst 322 (d_M_goesOn 158 321 (.iconst 0) 1 rfl) rfl (rk rfl) ?_
    cases h
    exact Ak_zret (Or.inl rfl) rfl (d_M_goesOn 159 322 (.ireturn) 1 rfl)
theorem t_M_goesOn_J296 {S : ASh} {V : ASt} {x0 x1 : Int} {r : Int} {V' : ASt} (hO : isO S x0 13 = true) (h : b_M_goesOn_J296 S  V x0 x1 = some (r, V')) : AWk m_M_goesOn 4 0 0 0 0 296 [some (aR x0), some (aI x1)] [] S V (some (aI r)) S V' := by
  unfold b_M_goesOn_J296 at h
  refine Ak_aload_n 297 0 (d_M_goesOn 145 296 (.aload_n 0) 1 rfl) rfl rfl rfl ?_
  refine Ak_getF 300 32 hO clX13 (by decide) rfl lkF_M_110 (d_M_goesOn 146 297 (.getfield 110) 3 rfl) rfl ?_
  refine Ak_iload_n 301 1 (d_M_goesOn 147 300 (.iload_n 1) 1 rfl) rfl rfl rfl ?_
  obtain ⟨ha69, h⟩ := gd_some h
  refine Ak_iaload 302 ha69 (d_M_goesOn 148 301 (.iaload) 1 rfl) rfl ?_
  refine Ak_if_ne 314 305 (d_M_goesOn 149 302 (.ifCond .ne 12) 3 rfl) rfl rfl (fun hc => ?_) (fun hc => ?_)
  · replace h := it_f hc h
    refine Ak_keep [true, true] ?_
    exact t_M_goesOn_J314 hO h
  · replace h := it_t hc h
    refine Ak_aload_n 306 0 (d_M_goesOn 150 305 (.aload_n 0) 1 rfl) rfl rfl rfl ?_
    refine Ak_iconst 307 (d_M_goesOn 151 306 (.iconst 1) 1 rfl) rfl (rk rfl) ?_
    refine Ak_aload_n 308 0 (d_M_goesOn 152 307 (.aload_n 0) 1 rfl) rfl rfl rfl ?_
    refine Ak_getI 311 4 hO clX13 (by decide) (Or.inl rfl) lkF_M_23 (d_M_goesOn 153 308 (.getfield 23) 3 rfl) rfl ?_
    obtain ⟨r70, V71, h72, h⟩ := bnd_some h
    refine Ak_cV0 314 2 (c_M_blame h72) rfl hO clX13 rfl mok_M_blame lkM_M_273 (d_M_goesOn 154 311 (.invokevirtual 273) 3 rfl) rfl (by decide) (Nat.le_of_ble_eq_true rfl) ?_
    refine Ak_keep [true, true] ?_
    exact t_M_goesOn_J314 hO h
theorem t_M_goesOn_J451 {S : ASh} {V : ASt} {x0 x1 : Int} {r : Int} {V' : ASt} (hO : isO S x0 13 = true) (h : b_M_goesOn_J451 S  V x0 x1 = some (r, V')) : AWk m_M_goesOn 4 0 0 0 0 451 [some (aR x0), some (aI x1)] [] S V (some (aI r)) S V' := by
  unfold b_M_goesOn_J451 at h
  refine Ak_aload_n 452 0 (d_M_goesOn 230 451 (.aload_n 0) 1 rfl) rfl rfl rfl ?_
  refine Ak_getI 455 8 hO clX13 (by decide) (Or.inl rfl) lkF_M_36 (d_M_goesOn 231 452 (.getfield 36) 3 rfl) rfl ?_
  refine Ak_if_le 460 458 (d_M_goesOn 232 455 (.ifCond .le 5) 3 rfl) rfl rfl (fun hc => ?_) (fun hc => ?_)
  · replace h := it_t hc h
    refine Ak_aload_n 461 0 (d_M_goesOn 235 460 (.aload_n 0) 1 rfl) rfl rfl rfl ?_
    refine Ak_iconst 462 (d_M_goesOn 236 461 (.iconst 1) 1 rfl) rfl (rk rfl) ?_
    obtain ⟨r73, V74, h75, h⟩ := bnd_some h
    refine Ak_cV0 465 3 (c_M_joins h75) rfl hO clX13 rfl mok_M_joins lkM_M_362 (d_M_goesOn 237 462 (.invokevirtual 362) 3 rfl) rfl (by decide) (Nat.le_of_ble_eq_true rfl) ?_
    refine Ak_aload_n 466 0 (d_M_goesOn 238 465 (.aload_n 0) 1 rfl) rfl rfl rfl ?_
    refine Ak_getF 469 31 hO clX13 (by decide) rfl lkF_M_107 (d_M_goesOn 239 466 (.getfield 107) 3 rfl) rfl ?_
    refine Ak_iload_n 470 1 (d_M_goesOn 240 469 (.iload_n 1) 1 rfl) rfl rfl rfl ?_
    refine Ak_iconst 471 (d_M_goesOn 241 470 (.iconst 4) 1 rfl) rfl (rk rfl) ?_
    obtain ⟨ha76, h⟩ := gd_some h
    refine Ak_iastore 472 ha76 (d_M_goesOn 242 471 (.iastore) 1 rfl) rfl (fun V77 hV77 => ?_)
    replace h := wV_some h V77 hV77
    refine Ak_aload_n 473 0 (d_M_goesOn 243 472 (.aload_n 0) 1 rfl) rfl rfl rfl ?_
    obtain ⟨r78, V79, h80, h⟩ := bnd_some h
    refine Ak_cV0 476 3 (c_M_ahead h80) rfl hO clX13 rfl mok_M_ahead lkM_M_280 (d_M_goesOn 244 473 (.invokevirtual 280) 3 rfl) rfl (by decide) (Nat.le_of_ble_eq_true rfl) ?_
    refine Ak_aload_n 477 0 (d_M_goesOn 245 476 (.aload_n 0) 1 rfl) rfl rfl rfl ?_
    refine Ak_iconst 478 (d_M_goesOn 246 477 (.iconst 0) 1 rfl) rfl (rk rfl) ?_
    refine Ak_putZ 481 40 (Or.inl rfl) hO clX13 (by decide) rfl rfl rfl lkF_M_134 (d_M_goesOn 247 478 (.putfield 134) 3 rfl) rfl (fun V81 hV81 => ?_)
    replace h := wV_some h V81 hV81
    refine Ak_iconst 482 (d_M_goesOn 248 481 (.iconst 1) 1 rfl) rfl (rk rfl) ?_
    cases h
    exact Ak_zret (Or.inr rfl) rfl (d_M_goesOn 249 482 (.ireturn) 1 rfl)
  · replace h := it_f hc h
    refine Ak_iconst 459 (d_M_goesOn 233 458 (.iconst 0) 1 rfl) rfl (rk rfl) ?_
    cases h
    exact Ak_zret (Or.inl rfl) rfl (d_M_goesOn 234 459 (.ireturn) 1 rfl)
theorem t_M_goesOn_J578 {S : ASh} {V : ASt} {x0 : Int} {r : Int} {V' : ASt} (hO : isO S x0 13 = true) (h : b_M_goesOn_J578 S  V x0 = some (r, V')) : AWk m_M_goesOn 4 0 0 0 0 578 [some (aR x0)] [] S V (some (aI r)) S V' := by
  unfold b_M_goesOn_J578 at h
  refine Ak_aload_n 579 0 (d_M_goesOn 305 578 (.aload_n 0) 1 rfl) rfl rfl rfl ?_
  obtain ⟨r82, V83, h84, h⟩ := bnd_some h
  refine Ak_cV0 582 3 (c_M_ahead h84) rfl hO clX13 rfl mok_M_ahead lkM_M_280 (d_M_goesOn 306 579 (.invokevirtual 280) 3 rfl) rfl (by decide) (Nat.le_of_ble_eq_true rfl) ?_
  refine Ak_iconst 583 (d_M_goesOn 307 582 (.iconst 1) 1 rfl) rfl (rk rfl) ?_
  cases h
  exact Ak_zret (Or.inr rfl) rfl (d_M_goesOn 308 583 (.ireturn) 1 rfl)
theorem t_M_goesOn_J561 {S : ASh} {V : ASt} {x0 x2 : Int} {r : Int} {V' : ASt} (hO : isO S x0 13 = true) (h : b_M_goesOn_J561 S  V x0 x2 = some (r, V')) : AWk m_M_goesOn 4 0 0 0 0 561 [some (aR x0), none, some (aI x2)] [] S V (some (aI r)) S V' := by
  unfold b_M_goesOn_J561 at h
  refine Ak_iload_n 562 2 (d_M_goesOn 294 561 (.iload_n 2) 1 rfl) rfl rfl rfl ?_
  refine Ak_iconst 563 (d_M_goesOn 295 562 (.iconst 5) 1 rfl) rfl (rk rfl) ?_
  refine Ak_icmp_ne 578 566 (d_M_goesOn 296 563 (.if_icmp .ne 15) 3 rfl) rfl rfl (fun hc => ?_) (fun hc => ?_)
  · replace h := it_f hc h
    refine Ak_keep [true] ?_
    exact t_M_goesOn_J578 hO h
  · replace h := it_t hc h
    refine Ak_aload_n 567 0 (d_M_goesOn 297 566 (.aload_n 0) 1 rfl) rfl rfl rfl ?_
    refine Ak_getF 570 32 hO clX13 (by decide) rfl lkF_M_110 (d_M_goesOn 298 567 (.getfield 110) 3 rfl) rfl ?_
    refine Ak_aload_n 571 0 (d_M_goesOn 299 570 (.aload_n 0) 1 rfl) rfl rfl rfl ?_
    refine Ak_getI 574 36 hO clX13 (by decide) (Or.inl rfl) lkF_M_122 (d_M_goesOn 300 571 (.getfield 122) 3 rfl) rfl ?_
    refine Ak_iconst 575 (d_M_goesOn 301 574 (.iconst 1) 1 rfl) rfl (rk rfl) ?_
    refine Ak_isub 576 (d_M_goesOn 302 575 (.isub) 1 rfl) rfl ?_
    refine Ak_iconst 577 (d_M_goesOn 303 576 (.iconst 2) 1 rfl) rfl (rk rfl) ?_
    obtain ⟨ha85, h⟩ := gd_some h
    refine Ak_iastore 578 ha85 (d_M_goesOn 304 577 (.iastore) 1 rfl) rfl (fun V86 hV86 => ?_)
    replace h := wV_some h V86 hV86
    refine Ak_keep [true] ?_
    exact t_M_goesOn_J578 hO h
theorem t_M_goesOn_J511 {S : ASh} {V : ASt} {x0 x1 x2 : Int} {r : Int} {V' : ASt} (hO : isO S x0 13 = true) (h : b_M_goesOn_J511 S  V x0 x1 x2 = some (r, V')) : AWk m_M_goesOn 4 0 0 0 0 511 [some (aR x0), some (aI x1), some (aI x2)] [] S V (some (aI r)) S V' := by
  unfold b_M_goesOn_J511 at h
  refine Ak_aload_n 512 0 (d_M_goesOn 264 511 (.aload_n 0) 1 rfl) rfl rfl rfl ?_
  refine Ak_getI 515 8 hO clX13 (by decide) (Or.inl rfl) lkF_M_36 (d_M_goesOn 265 512 (.getfield 36) 3 rfl) rfl ?_
  refine Ak_if_le 520 518 (d_M_goesOn 266 515 (.ifCond .le 5) 3 rfl) rfl rfl (fun hc => ?_) (fun hc => ?_)
  · replace h := it_t hc h
    refine Ak_aload_n 521 0 (d_M_goesOn 269 520 (.aload_n 0) 1 rfl) rfl rfl rfl ?_
    refine Ak_iconst 522 (d_M_goesOn 270 521 (.iconst 1) 1 rfl) rfl (rk rfl) ?_
    obtain ⟨r87, V88, h89, h⟩ := bnd_some h
    refine Ak_cV0 525 3 (c_M_joins h89) rfl hO clX13 rfl mok_M_joins lkM_M_362 (d_M_goesOn 271 522 (.invokevirtual 362) 3 rfl) rfl (by decide) (Nat.le_of_ble_eq_true rfl) ?_
    refine Ak_aload_n 526 0 (d_M_goesOn 272 525 (.aload_n 0) 1 rfl) rfl rfl rfl ?_
    refine Ak_dup 527 (d_M_goesOn 273 526 (.dup) 1 rfl) rfl rfl ?_
    refine Ak_getI 530 36 hO clX13 (by decide) (Or.inl rfl) lkF_M_122 (d_M_goesOn 274 527 (.getfield 122) 3 rfl) rfl ?_
    refine Ak_iconst 531 (d_M_goesOn 275 530 (.iconst 1) 1 rfl) rfl (rk rfl) ?_
    refine Ak_isub 532 (d_M_goesOn 276 531 (.isub) 1 rfl) rfl ?_
    refine Ak_putI 535 36 hO clX13 (by decide) rfl rfl rfl lkF_M_122 (d_M_goesOn 277 532 (.putfield 122) 3 rfl) rfl (fun V90 hV90 => ?_)
    replace h := wV_some h V90 hV90
    refine Ak_aload_n 536 0 (d_M_goesOn 278 535 (.aload_n 0) 1 rfl) rfl rfl rfl ?_
    refine Ak_dup 537 (d_M_goesOn 279 536 (.dup) 1 rfl) rfl rfl ?_
    refine Ak_getI 540 37 hO clX13 (by decide) (Or.inl rfl) lkF_M_125 (d_M_goesOn 280 537 (.getfield 125) 3 rfl) rfl ?_
    refine Ak_iconst 541 (d_M_goesOn 281 540 (.iconst 1) 1 rfl) rfl (rk rfl) ?_
    refine Ak_isub 542 (d_M_goesOn 282 541 (.isub) 1 rfl) rfl ?_
    refine Ak_putI 545 37 hO clX13 (by decide) rfl rfl rfl lkF_M_125 (d_M_goesOn 283 542 (.putfield 125) 3 rfl) rfl (fun V91 hV91 => ?_)
    replace h := wV_some h V91 hV91
    refine Ak_iload_n 546 2 (d_M_goesOn 284 545 (.iload_n 2) 1 rfl) rfl rfl rfl ?_
    refine Ak_iconst 547 (d_M_goesOn 285 546 (.iconst 4) 1 rfl) rfl (rk rfl) ?_
    refine Ak_icmp_ne 561 550 (d_M_goesOn 286 547 (.if_icmp .ne 14) 3 rfl) rfl rfl (fun hc => ?_) (fun hc => ?_)
    · replace h := it_f hc h
      refine Ak_keep [true, false, true] ?_
      exact t_M_goesOn_J561 hO h
    · replace h := it_t hc h
      refine Ak_aload_n 551 0 (d_M_goesOn 287 550 (.aload_n 0) 1 rfl) rfl rfl rfl ?_
      refine Ak_aload_n 552 0 (d_M_goesOn 288 551 (.aload_n 0) 1 rfl) rfl rfl rfl ?_
      refine Ak_getF 555 34 hO clX13 (by decide) rfl lkF_M_116 (d_M_goesOn 289 552 (.getfield 116) 3 rfl) rfl ?_
      refine Ak_iload_n 556 1 (d_M_goesOn 290 555 (.iload_n 1) 1 rfl) rfl rfl rfl ?_
      obtain ⟨ha92, h⟩ := gd_some h
      refine Ak_iaload 557 ha92 (d_M_goesOn 291 556 (.iaload) 1 rfl) rfl ?_
      refine Ak_iconst 558 (d_M_goesOn 292 557 (.iconst 0) 1 rfl) rfl (rk rfl) ?_
      obtain ⟨r93, V94, h95, h⟩ := bnd_some h
      refine Ak_cV0 561 2 (c_M_add h95) rfl hO clX13 rfl mok_M_add lkM_M_336 (d_M_goesOn 293 558 (.invokevirtual 336) 3 rfl) rfl (by decide) (Nat.le_of_ble_eq_true rfl) ?_
      refine Ak_keep [true, false, true] ?_
      exact t_M_goesOn_J561 hO h
  · replace h := it_f hc h
    refine Ak_iconst 519 (d_M_goesOn 267 518 (.iconst 0) 1 rfl) rfl (rk rfl) ?_
    cases h
    exact Ak_zret (Or.inl rfl) rfl (d_M_goesOn 268 519 (.ireturn) 1 rfl)
theorem t_M_goesOn_J496 {S : ASh} {V : ASt} {x0 x1 x2 s0 s1 : Int} {r : Int} {V' : ASt} (hO : isO S x0 13 = true) (h : b_M_goesOn_J496 S  V x0 x1 x2 s0 s1 = some (r, V')) : AWk m_M_goesOn 4 0 0 0 0 496 [some (aR x0), some (aI x1), some (aI x2)] [(aI s1), (aR s0)] S V (some (aI r)) S V' := by
  unfold b_M_goesOn_J496 at h
  obtain ⟨hg99, h⟩ := gd_some h
  obtain ⟨r96, V97, h98, h⟩ := bnd_some h
  refine Ak_cV1 499 2 (c_M_isSign h98) rfl hg99 clX13 rfl mok_M_isSign lkM_M_277 (d_M_goesOn 257 496 (.invokevirtual 277) 3 rfl) rfl (by decide) (Nat.le_of_ble_eq_true rfl) ?_
  refine Ak_if_ne 511 502 (d_M_goesOn 258 499 (.ifCond .ne 12) 3 rfl) rfl rfl (fun hc => ?_) (fun hc => ?_)
  · replace h := it_f hc h
    refine Ak_keep [true, true, true] ?_
    exact t_M_goesOn_J511 hO h
  · replace h := it_t hc h
    refine Ak_aload_n 503 0 (d_M_goesOn 259 502 (.aload_n 0) 1 rfl) rfl rfl rfl ?_
    refine Ak_iconst 504 (d_M_goesOn 260 503 (.iconst 1) 1 rfl) rfl (rk rfl) ?_
    refine Ak_aload_n 505 0 (d_M_goesOn 261 504 (.aload_n 0) 1 rfl) rfl rfl rfl ?_
    refine Ak_getI 508 4 hO clX13 (by decide) (Or.inl rfl) lkF_M_23 (d_M_goesOn 262 505 (.getfield 23) 3 rfl) rfl ?_
    obtain ⟨r100, V101, h102, h⟩ := bnd_some h
    refine Ak_cV0 511 2 (c_M_blame h102) rfl hO clX13 rfl mok_M_blame lkM_M_273 (d_M_goesOn 263 508 (.invokevirtual 273) 3 rfl) rfl (by decide) (Nat.le_of_ble_eq_true rfl) ?_
    refine Ak_keep [true, true, true] ?_
    exact t_M_goesOn_J511 hO h
theorem t_M_goesOn_J409 {S : ASh} {V : ASt} {x0 x1 x2 : Int} {r : Int} {V' : ASt} (hO : isO S x0 13 = true) (h : b_M_goesOn_J409 S  V x0 x1 x2 = some (r, V')) : AWk m_M_goesOn 4 0 0 0 0 409 [some (aR x0), some (aI x1), some (aI x2)] [] S V (some (aI r)) S V' := by
  unfold b_M_goesOn_J409 at h
  refine Ak_iload_n 410 2 (d_M_goesOn 207 409 (.iload_n 2) 1 rfl) rfl rfl rfl ?_
  refine Ak_iconst 411 (d_M_goesOn 208 410 (.iconst 2) 1 rfl) rfl (rk rfl) ?_
  refine Ak_icmp_ge 428 414 (d_M_goesOn 209 411 (.if_icmp .ge 17) 3 rfl) rfl rfl (fun hc => ?_) (fun hc => ?_)
  · replace h := it_t hc h
    refine Ak_iload_n 429 2 (d_M_goesOn 218 428 (.iload_n 2) 1 rfl) rfl rfl rfl ?_
    refine Ak_iconst 430 (d_M_goesOn 219 429 (.iconst 3) 1 rfl) rfl (rk rfl) ?_
    refine Ak_icmp_ne 483 433 (d_M_goesOn 220 430 (.if_icmp .ne 53) 3 rfl) rfl rfl (fun hc => ?_) (fun hc => ?_)
    · replace h := it_f hc h
      refine Ak_aload_n 484 0 (d_M_goesOn 250 483 (.aload_n 0) 1 rfl) rfl rfl rfl ?_
      refine Ak_iload_n 485 2 (d_M_goesOn 251 484 (.iload_n 2) 1 rfl) rfl rfl rfl ?_
      refine Ak_iconst 486 (d_M_goesOn 252 485 (.iconst 5) 1 rfl) rfl (rk rfl) ?_
      refine Ak_icmp_ne 494 489 (d_M_goesOn 253 486 (.if_icmp .ne 8) 3 rfl) rfl rfl (fun hc => ?_) (fun hc => ?_)
      · replace h := it_f hc h
        refine Ak_bipush 496 (d_M_goesOn 256 494 (.bipush 41) 2 rfl) rfl (bp_ok rfl) (rk rfl) ?_
        refine Ak_keep [true, true, true] ?_
        exact t_M_goesOn_J496 hO h
      · replace h := it_t hc h
        refine Ak_bipush 491 (d_M_goesOn 254 489 (.bipush 93) 2 rfl) rfl (bp_ok rfl) (rk rfl) ?_
        refine Ak_goto 496 (d_M_goesOn 255 491 (.goto 5) 3 rfl) rfl ?_
        refine Ak_keep [true, true, true] ?_
        exact t_M_goesOn_J496 hO h
    · replace h := it_t hc h
      refine Ak_aload_n 434 0 (d_M_goesOn 221 433 (.aload_n 0) 1 rfl) rfl rfl rfl ?_
      refine Ak_bipush 436 (d_M_goesOn 222 434 (.bipush 44) 2 rfl) rfl (bp_ok rfl) (rk rfl) ?_
      obtain ⟨r103, V104, h105, h⟩ := bnd_some h
      refine Ak_cV1 439 2 (c_M_isSign h105) rfl hO clX13 rfl mok_M_isSign lkM_M_277 (d_M_goesOn 223 436 (.invokevirtual 277) 3 rfl) rfl (by decide) (Nat.le_of_ble_eq_true rfl) ?_
      refine Ak_if_ne 451 442 (d_M_goesOn 224 439 (.ifCond .ne 12) 3 rfl) rfl rfl (fun hc => ?_) (fun hc => ?_)
      · replace h := it_f hc h
        refine Ak_keep [true, true] ?_
        exact t_M_goesOn_J451 hO h
      · replace h := it_t hc h
        refine Ak_aload_n 443 0 (d_M_goesOn 225 442 (.aload_n 0) 1 rfl) rfl rfl rfl ?_
        refine Ak_iconst 444 (d_M_goesOn 226 443 (.iconst 1) 1 rfl) rfl (rk rfl) ?_
        refine Ak_aload_n 445 0 (d_M_goesOn 227 444 (.aload_n 0) 1 rfl) rfl rfl rfl ?_
        refine Ak_getI 448 4 hO clX13 (by decide) (Or.inl rfl) lkF_M_23 (d_M_goesOn 228 445 (.getfield 23) 3 rfl) rfl ?_
        obtain ⟨r106, V107, h108, h⟩ := bnd_some h
        refine Ak_cV0 451 2 (c_M_blame h108) rfl hO clX13 rfl mok_M_blame lkM_M_273 (d_M_goesOn 229 448 (.invokevirtual 273) 3 rfl) rfl (by decide) (Nat.le_of_ble_eq_true rfl) ?_
        refine Ak_keep [true, true] ?_
        exact t_M_goesOn_J451 hO h
  · replace h := it_f hc h
    refine Ak_aload_n 415 0 (d_M_goesOn 210 414 (.aload_n 0) 1 rfl) rfl rfl rfl ?_
    refine Ak_getI 418 8 hO clX13 (by decide) (Or.inl rfl) lkF_M_36 (d_M_goesOn 211 415 (.getfield 36) 3 rfl) rfl ?_
    refine Ak_if_ne 426 421 (d_M_goesOn 212 418 (.ifCond .ne 8) 3 rfl) rfl rfl (fun hc => ?_) (fun hc => ?_)
    · replace h := it_f hc h
      refine Ak_iconst 427 (d_M_goesOn 216 426 (.iconst 0) 1 rfl) rfl (rk rfl) ?_
      cases h
      exact Ak_zret (Or.inl rfl) rfl (d_M_goesOn 217 427 (.ireturn) 1 rfl)
    · replace h := it_t hc h
      refine Ak_aload_n 422 0 (d_M_goesOn 213 421 (.aload_n 0) 1 rfl) rfl rfl rfl ?_
      refine Ak_iconst 423 (d_M_goesOn 214 422 (.iconst 1) 1 rfl) rfl (rk rfl) ?_
      obtain ⟨r109, V110, h111, h⟩ := bnd_some h
      refine Ak_cV0 426 3 (c_M_joins h111) rfl hO clX13 rfl mok_M_joins lkM_M_362 (d_M_goesOn 215 423 (.invokevirtual 362) 3 rfl) rfl (by decide) (Nat.le_of_ble_eq_true rfl) ?_
      refine Ak_iconst 427 (d_M_goesOn 216 426 (.iconst 0) 1 rfl) rfl (rk rfl) ?_
      cases h
      exact Ak_zret (Or.inl rfl) rfl (d_M_goesOn 217 427 (.ireturn) 1 rfl)
theorem t_M_goesOn_J387 {S : ASh} {V : ASt} {x0 x1 x2 x3 : Int} {r : Int} {V' : ASt} (hO : isO S x0 13 = true) (h : b_M_goesOn_J387 S  V x0 x1 x2 x3 = some (r, V')) : AWk m_M_goesOn 4 0 0 0 0 387 [some (aR x0), some (aI x1), some (aI x2), some (aI x3)] [] S V (some (aI r)) S V' := by
  unfold b_M_goesOn_J387 at h
  refine Ak_iload_n 388 3 (d_M_goesOn 195 387 (.iload_n 3) 1 rfl) rfl rfl rfl ?_
  refine Ak_if_eq 409 391 (d_M_goesOn 196 388 (.ifCond .eq 21) 3 rfl) rfl rfl (fun hc => ?_) (fun hc => ?_)
  · replace h := it_t hc h
    refine Ak_keep [true, true, true] ?_
    exact t_M_goesOn_J409 hO h
  · replace h := it_f hc h
    refine Ak_aload_n 392 0 (d_M_goesOn 197 391 (.aload_n 0) 1 rfl) rfl rfl rfl ?_
    refine Ak_getF 395 32 hO clX13 (by decide) rfl lkF_M_110 (d_M_goesOn 198 392 (.getfield 110) 3 rfl) rfl ?_
    refine Ak_iload_n 396 1 (d_M_goesOn 199 395 (.iload_n 1) 1 rfl) rfl rfl rfl ?_
    obtain ⟨ha112, h⟩ := gd_some h
    refine Ak_iaload 397 ha112 (d_M_goesOn 200 396 (.iaload) 1 rfl) rfl ?_
    refine Ak_if_ne 409 400 (d_M_goesOn 201 397 (.ifCond .ne 12) 3 rfl) rfl rfl (fun hc => ?_) (fun hc => ?_)
    · replace h := it_f hc h
      refine Ak_keep [true, true, true] ?_
      exact t_M_goesOn_J409 hO h
    · replace h := it_t hc h
      refine Ak_aload_n 401 0 (d_M_goesOn 202 400 (.aload_n 0) 1 rfl) rfl rfl rfl ?_
      refine Ak_iconst 402 (d_M_goesOn 203 401 (.iconst 1) 1 rfl) rfl (rk rfl) ?_
      refine Ak_aload_n 403 0 (d_M_goesOn 204 402 (.aload_n 0) 1 rfl) rfl rfl rfl ?_
      refine Ak_getI 406 4 hO clX13 (by decide) (Or.inl rfl) lkF_M_23 (d_M_goesOn 205 403 (.getfield 23) 3 rfl) rfl ?_
      obtain ⟨r113, V114, h115, h⟩ := bnd_some h
      refine Ak_cV0 409 2 (c_M_blame h115) rfl hO clX13 rfl mok_M_blame lkM_M_273 (d_M_goesOn 206 406 (.invokevirtual 273) 3 rfl) rfl (by decide) (Nat.le_of_ble_eq_true rfl) ?_
      refine Ak_keep [true, true, true] ?_
      exact t_M_goesOn_J409 hO h
theorem t_M_goesOn_J272 {S : ASh} {V : ASt} {x0 x1 x2 x3 : Int} {r : Int} {V' : ASt} (hO : isO S x0 13 = true) (h : b_M_goesOn_J272 S  V x0 x1 x2 x3 = some (r, V')) : AWk m_M_goesOn 4 0 0 0 0 272 [some (aR x0), some (aI x1), some (aI x2), some (aI x3)] [] S V (some (aI r)) S V' := by
  unfold b_M_goesOn_J272 at h
  refine Ak_iload_n 273 3 (d_M_goesOn 135 272 (.iload_n 3) 1 rfl) rfl rfl rfl ?_
  refine Ak_if_eq 387 276 (d_M_goesOn 136 273 (.ifCond .eq 114) 3 rfl) rfl rfl (fun hc => ?_) (fun hc => ?_)
  · replace h := it_t hc h
    refine Ak_keep [true, true, true, true] ?_
    exact t_M_goesOn_J387 hO h
  · replace h := it_f hc h
    refine Ak_aload_n 277 0 (d_M_goesOn 137 276 (.aload_n 0) 1 rfl) rfl rfl rfl ?_
    refine Ak_ldc2 280 6385252 (d_M_goesOn 138 277 (.ldc2_w 315) 3 rfl) rfl lkJ_M_315 (rkL rfl) ?_
    obtain ⟨r116, V117, h118, h⟩ := bnd_some h
    refine Ak_cV1 283 2 (c_M_isWord h118) rfl hO clX13 rfl mok_M_isWord lkM_M_345 (d_M_goesOn 139 280 (.invokevirtual 345) 3 rfl) rfl (by decide) (Nat.le_of_ble_eq_true rfl) ?_
    refine Ak_if_ne 296 286 (d_M_goesOn 140 283 (.ifCond .ne 13) 3 rfl) rfl rfl (fun hc => ?_) (fun hc => ?_)
    · replace h := it_f hc h
      refine Ak_keep [true, true] ?_
      exact t_M_goesOn_J296 hO h
    · replace h := it_t hc h
      refine Ak_aload_n 287 0 (d_M_goesOn 141 286 (.aload_n 0) 1 rfl) rfl rfl rfl ?_
      refine Ak_ldc2 290 28530 (d_M_goesOn 142 287 (.ldc2_w 313) 3 rfl) rfl lkJ_M_313 (rkL rfl) ?_
      obtain ⟨r119, V120, h121, h⟩ := bnd_some h
      refine Ak_cV1 293 2 (c_M_isWord h121) rfl hO clX13 rfl mok_M_isWord lkM_M_345 (d_M_goesOn 143 290 (.invokevirtual 345) 3 rfl) rfl (by decide) (Nat.le_of_ble_eq_true rfl) ?_
      refine Ak_if_eq 387 296 (d_M_goesOn 144 293 (.ifCond .eq 94) 3 rfl) rfl rfl (fun hc => ?_) (fun hc => ?_)
      · replace h := it_t hc h
        refine Ak_keep [true, true, true, true] ?_
        exact t_M_goesOn_J387 hO h
      · replace h := it_f hc h
        refine Ak_keep [true, true] ?_
        exact t_M_goesOn_J296 hO h
theorem t_M_goesOn_J175 {S : ASh} {V : ASt} {x0 x1 x2 x3 : Int} {r : Int} {V' : ASt} (hO : isO S x0 13 = true) (h : b_M_goesOn_J175 S  V x0 x1 x2 x3 = some (r, V')) : AWk m_M_goesOn 4 0 0 0 0 175 [some (aR x0), some (aI x1), some (aI x2), some (aI x3)] [] S V (some (aI r)) S V' := by
  unfold b_M_goesOn_J175 at h
  refine Ak_iload_n 176 3 (d_M_goesOn 86 175 (.iload_n 3) 1 rfl) rfl rfl rfl ?_
  refine Ak_if_eq 272 179 (d_M_goesOn 87 176 (.ifCond .eq 96) 3 rfl) rfl rfl (fun hc => ?_) (fun hc => ?_)
  · replace h := it_t hc h
    refine Ak_keep [true, true, true, true] ?_
    exact t_M_goesOn_J272 hO h
  · replace h := it_f hc h
    refine Ak_aload_n 180 0 (d_M_goesOn 88 179 (.aload_n 0) 1 rfl) rfl rfl rfl ?_
    refine Ak_getF 183 32 hO clX13 (by decide) rfl lkF_M_110 (d_M_goesOn 89 180 (.getfield 110) 3 rfl) rfl ?_
    refine Ak_iload_n 184 1 (d_M_goesOn 90 183 (.iload_n 1) 1 rfl) rfl rfl rfl ?_
    obtain ⟨ha122, h⟩ := gd_some h
    refine Ak_iaload 185 ha122 (d_M_goesOn 91 184 (.iaload) 1 rfl) rfl ?_
    refine Ak_if_ne 272 188 (d_M_goesOn 92 185 (.ifCond .ne 87) 3 rfl) rfl rfl (fun hc => ?_) (fun hc => ?_)
    · replace h := it_f hc h
      refine Ak_keep [true, true, true, true] ?_
      exact t_M_goesOn_J272 hO h
    · replace h := it_t hc h
      refine Ak_aload_n 189 0 (d_M_goesOn 93 188 (.aload_n 0) 1 rfl) rfl rfl rfl ?_
      refine Ak_bipush 191 (d_M_goesOn 94 189 (.bipush 60) 2 rfl) rfl (bp_ok rfl) (rk rfl) ?_
      obtain ⟨r123, V124, h125, h⟩ := bnd_some h
      refine Ak_cV1 194 2 (c_M_isSign h125) rfl hO clX13 rfl mok_M_isSign lkM_M_277 (d_M_goesOn 95 191 (.invokevirtual 277) 3 rfl) rfl (by decide) (Nat.le_of_ble_eq_true rfl) ?_
      refine Ak_if_ne 215 197 (d_M_goesOn 96 194 (.ifCond .ne 21) 3 rfl) rfl rfl (fun hc => ?_) (fun hc => ?_)
      · replace h := it_f hc h
        refine Ak_keep [true, true] ?_
        exact t_M_goesOn_J215 hO h
      · replace h := it_t hc h
        refine Ak_aload_n 198 0 (d_M_goesOn 97 197 (.aload_n 0) 1 rfl) rfl rfl rfl ?_
        refine Ak_bipush 200 (d_M_goesOn 98 198 (.bipush 62) 2 rfl) rfl (bp_ok rfl) (rk rfl) ?_
        obtain ⟨r126, V127, h128, h⟩ := bnd_some h
        refine Ak_cV1 203 2 (c_M_isSign h128) rfl hO clX13 rfl mok_M_isSign lkM_M_277 (d_M_goesOn 99 200 (.invokevirtual 277) 3 rfl) rfl (by decide) (Nat.le_of_ble_eq_true rfl) ?_
        refine Ak_if_ne 215 206 (d_M_goesOn 100 203 (.ifCond .ne 12) 3 rfl) rfl rfl (fun hc => ?_) (fun hc => ?_)
        · replace h := it_f hc h
          refine Ak_keep [true, true] ?_
          exact t_M_goesOn_J215 hO h
        · replace h := it_t hc h
          refine Ak_aload_n 207 0 (d_M_goesOn 101 206 (.aload_n 0) 1 rfl) rfl rfl rfl ?_
          refine Ak_bipush 209 (d_M_goesOn 102 207 (.bipush 61) 2 rfl) rfl (bp_ok rfl) (rk rfl) ?_
          obtain ⟨r129, V130, h131, h⟩ := bnd_some h
          refine Ak_cV1 212 2 (c_M_isSign h131) rfl hO clX13 rfl mok_M_isSign lkM_M_277 (d_M_goesOn 103 209 (.invokevirtual 277) 3 rfl) rfl (by decide) (Nat.le_of_ble_eq_true rfl) ?_
          refine Ak_if_eq 272 215 (d_M_goesOn 104 212 (.ifCond .eq 60) 3 rfl) rfl rfl (fun hc => ?_) (fun hc => ?_)
          · replace h := it_t hc h
            refine Ak_keep [true, true, true, true] ?_
            exact t_M_goesOn_J272 hO h
          · replace h := it_f hc h
            refine Ak_keep [true, true] ?_
            exact t_M_goesOn_J215 hO h
theorem c_M_goesOn {S : ASh} {V : ASt} {x0 : Int} {r : Int} {V' : ASt} (h : f_M_goesOn S V x0 = some (r, V')) : ACt m_M_goesOn 4 0 0 [(aR x0)] S V (some (aI r)) S V' := by
  unfold f_M_goesOn at h
  obtain ⟨hO, h⟩ := gd_some h
  refine ACt_of (plainFor_of_name rfl) rfl (Nat.le_of_ble_eq_true rfl) ?_
  show AWk m_M_goesOn 4 0 0 0 0 0 [some (aR x0)] [] S V (some (aI r)) S V'
  refine Ak_aload_n 1 0 (d_M_goesOn 0 0 (.aload_n 0) 1 rfl) rfl rfl rfl ?_
  refine Ak_getI 4 36 hO clX13 (by decide) (Or.inl rfl) lkF_M_122 (d_M_goesOn 1 1 (.getfield 122) 3 rfl) rfl ?_
  refine Ak_iconst 5 (d_M_goesOn 2 4 (.iconst 1) 1 rfl) rfl (rk rfl) ?_
  refine Ak_isub 6 (d_M_goesOn 3 5 (.isub) 1 rfl) rfl ?_
  refine Ak_istore_n 7 1 (d_M_goesOn 4 6 (.istore_n 1) 1 rfl) rfl rfl (by decide) ?_
  refine Ak_aload_n 8 0 (d_M_goesOn 5 7 (.aload_n 0) 1 rfl) rfl rfl rfl ?_
  refine Ak_getF 11 31 hO clX13 (by decide) rfl lkF_M_107 (d_M_goesOn 6 8 (.getfield 107) 3 rfl) rfl ?_
  refine Ak_iload_n 12 1 (d_M_goesOn 7 11 (.iload_n 1) 1 rfl) rfl rfl rfl ?_
  obtain ⟨ha132, h⟩ := gd_some h
  refine Ak_iaload 13 ha132 (d_M_goesOn 8 12 (.iaload) 1 rfl) rfl ?_
  refine Ak_istore_n 14 2 (d_M_goesOn 9 13 (.istore_n 2) 1 rfl) rfl rfl (by decide) ?_
  refine Ak_iload_n 15 2 (d_M_goesOn 10 14 (.iload_n 2) 1 rfl) rfl rfl rfl ?_
  obtain ⟨r133, V134, h135, h⟩ := bnd_some h
  refine Ak_cS1 18 2 (c_M_isTest h135) rfl mok_M_isTest lkM_M_342 (d_M_goesOn 11 15 (.invokestatic 342) 3 rfl) rfl (by decide) (Nat.le_of_ble_eq_true rfl) ?_
  refine Ak_istore_n 19 3 (d_M_goesOn 12 18 (.istore_n 3) 1 rfl) rfl rfl (by decide) ?_
  refine Ak_aload_n 20 0 (d_M_goesOn 13 19 (.aload_n 0) 1 rfl) rfl rfl rfl ?_
  refine Ak_getF 23 32 hO clX13 (by decide) rfl lkF_M_110 (d_M_goesOn 14 20 (.getfield 110) 3 rfl) rfl ?_
  refine Ak_iload_n 24 1 (d_M_goesOn 15 23 (.iload_n 1) 1 rfl) rfl rfl rfl ?_
  obtain ⟨ha136, h⟩ := gd_some h
  refine Ak_iaload 25 ha136 (d_M_goesOn 16 24 (.iaload) 1 rfl) rfl ?_
  refine Ak_iconst 26 (d_M_goesOn 17 25 (.iconst 2) 1 rfl) rfl (rk rfl) ?_
  refine Ak_icmp_ge 175 29 (d_M_goesOn 18 26 (.if_icmp .ge 149) 3 rfl) rfl rfl (fun hc => ?_) (fun hc => ?_)
  · replace h := it_t hc h
    refine Ak_keep [true, true, true, true] ?_
    exact t_M_goesOn_J175 hO h
  · replace h := it_f hc h
    refine Ak_aload_n 30 0 (d_M_goesOn 19 29 (.aload_n 0) 1 rfl) rfl rfl rfl ?_
    refine Ak_bipush 32 (d_M_goesOn 20 30 (.bipush 43) 2 rfl) rfl (bp_ok rfl) (rk rfl) ?_
    obtain ⟨r137, V138, h139, h⟩ := bnd_some h
    refine Ak_cV1 35 2 (c_M_isSign h139) rfl hO clX13 rfl mok_M_isSign lkM_M_277 (d_M_goesOn 21 32 (.invokevirtual 277) 3 rfl) rfl (by decide) (Nat.le_of_ble_eq_true rfl) ?_
    refine Ak_if_ne 74 38 (d_M_goesOn 22 35 (.ifCond .ne 39) 3 rfl) rfl rfl (fun hc => ?_) (fun hc => ?_)
    · replace h := it_f hc h
      refine Ak_keep [true] ?_
      exact t_M_goesOn_J74 hO h
    · replace h := it_t hc h
      refine Ak_aload_n 39 0 (d_M_goesOn 23 38 (.aload_n 0) 1 rfl) rfl rfl rfl ?_
      refine Ak_bipush 41 (d_M_goesOn 24 39 (.bipush 45) 2 rfl) rfl (bp_ok rfl) (rk rfl) ?_
      obtain ⟨r140, V141, h142, h⟩ := bnd_some h
      refine Ak_cV1 44 2 (c_M_isSign h142) rfl hO clX13 rfl mok_M_isSign lkM_M_277 (d_M_goesOn 25 41 (.invokevirtual 277) 3 rfl) rfl (by decide) (Nat.le_of_ble_eq_true rfl) ?_
      refine Ak_if_ne 74 47 (d_M_goesOn 26 44 (.ifCond .ne 30) 3 rfl) rfl rfl (fun hc => ?_) (fun hc => ?_)
      · replace h := it_f hc h
        refine Ak_keep [true] ?_
        exact t_M_goesOn_J74 hO h
      · replace h := it_t hc h
        refine Ak_aload_n 48 0 (d_M_goesOn 27 47 (.aload_n 0) 1 rfl) rfl rfl rfl ?_
        refine Ak_bipush 50 (d_M_goesOn 28 48 (.bipush 42) 2 rfl) rfl (bp_ok rfl) (rk rfl) ?_
        obtain ⟨r143, V144, h145, h⟩ := bnd_some h
        refine Ak_cV1 53 2 (c_M_isSign h145) rfl hO clX13 rfl mok_M_isSign lkM_M_277 (d_M_goesOn 29 50 (.invokevirtual 277) 3 rfl) rfl (by decide) (Nat.le_of_ble_eq_true rfl) ?_
        refine Ak_if_ne 74 56 (d_M_goesOn 30 53 (.ifCond .ne 21) 3 rfl) rfl rfl (fun hc => ?_) (fun hc => ?_)
        · replace h := it_f hc h
          refine Ak_keep [true] ?_
          exact t_M_goesOn_J74 hO h
        · replace h := it_t hc h
          refine Ak_aload_n 57 0 (d_M_goesOn 31 56 (.aload_n 0) 1 rfl) rfl rfl rfl ?_
          refine Ak_bipush 59 (d_M_goesOn 32 57 (.bipush 47) 2 rfl) rfl (bp_ok rfl) (rk rfl) ?_
          obtain ⟨r146, V147, h148, h⟩ := bnd_some h
          refine Ak_cV1 62 2 (c_M_isSign h148) rfl hO clX13 rfl mok_M_isSign lkM_M_277 (d_M_goesOn 33 59 (.invokevirtual 277) 3 rfl) rfl (by decide) (Nat.le_of_ble_eq_true rfl) ?_
          refine Ak_if_ne 74 65 (d_M_goesOn 34 62 (.ifCond .ne 12) 3 rfl) rfl rfl (fun hc => ?_) (fun hc => ?_)
          · replace h := it_f hc h
            refine Ak_keep [true] ?_
            exact t_M_goesOn_J74 hO h
          · replace h := it_t hc h
            refine Ak_aload_n 66 0 (d_M_goesOn 35 65 (.aload_n 0) 1 rfl) rfl rfl rfl ?_
            refine Ak_bipush 68 (d_M_goesOn 36 66 (.bipush 37) 2 rfl) rfl (bp_ok rfl) (rk rfl) ?_
            obtain ⟨r149, V150, h151, h⟩ := bnd_some h
            refine Ak_cV1 71 2 (c_M_isSign h151) rfl hO clX13 rfl mok_M_isSign lkM_M_277 (d_M_goesOn 37 68 (.invokevirtual 277) 3 rfl) rfl (by decide) (Nat.le_of_ble_eq_true rfl) ?_
            refine Ak_if_eq 175 74 (d_M_goesOn 38 71 (.ifCond .eq 104) 3 rfl) rfl rfl (fun hc => ?_) (fun hc => ?_)
            · replace h := it_t hc h
              refine Ak_keep [true, true, true, true] ?_
              exact t_M_goesOn_J175 hO h
            · replace h := it_f hc h
              refine Ak_keep [true] ?_
              exact t_M_goesOn_J74 hO h
theorem t_M_reads_J70 {S : ASh} {K43 : ASt → Int → Option (Int × ASt)} {V : ASt} {x0 x2 : Int} {r : Int} {V' : ASt} (hO : isO S x0 13 = true) (hK43 : ∀ {V : ASt} {y2 : Int} {r : Int} {V' : ASt}, K43 V y2 = some (r, V') → AWk m_M_reads 6 0 0 0 0 43 [some (aR x0), none, some (aI y2)] [] S V none S V') (h : b_M_reads_J70 S K43 V x0 x2 = some (r, V')) : AWk m_M_reads 6 0 0 0 0 70 [some (aR x0), none, some (aI x2)] [] S V none S V' := by
  unfold b_M_reads_J70 at h
  refine Ak_iload_n 71 2 (d_M_reads 38 70 (.iload_n 2) 1 rfl) rfl rfl rfl ?_
  refine Ak_if_eq 85 74 (d_M_reads 39 71 (.ifCond .eq 14) 3 rfl) rfl rfl (fun hc => ?_) (fun hc => ?_)
  · replace h := it_t hc h
    refine Ak_iconst 86 (d_M_reads 45 85 (.iconst 0) 1 rfl) rfl (rk rfl) ?_
    refine Ak_istore_n 87 2 (d_M_reads 46 86 (.istore_n 2) 1 rfl) rfl rfl (by decide) ?_
    refine Ak_goto 43 (d_M_reads 47 87 (.goto (-44)) 3 rfl) rfl ?_
    refine Ak_keep [true, false, true] ?_
    exact hK43 h
  · replace h := it_f hc h
    refine Ak_aload_n 75 0 (d_M_reads 40 74 (.aload_n 0) 1 rfl) rfl rfl rfl ?_
    refine Ak_getI 78 8 hO clX13 (by decide) (Or.inl rfl) lkF_M_36 (d_M_reads 41 75 (.getfield 36) 3 rfl) rfl ?_
    refine Ak_if_ne 85 81 (d_M_reads 42 78 (.ifCond .ne 7) 3 rfl) rfl rfl (fun hc => ?_) (fun hc => ?_)
    · replace h := it_f hc h
      refine Ak_iconst 86 (d_M_reads 45 85 (.iconst 0) 1 rfl) rfl (rk rfl) ?_
      refine Ak_istore_n 87 2 (d_M_reads 46 86 (.istore_n 2) 1 rfl) rfl rfl (by decide) ?_
      refine Ak_goto 43 (d_M_reads 47 87 (.goto (-44)) 3 rfl) rfl ?_
      refine Ak_keep [true, false, true] ?_
      exact hK43 h
    · replace h := it_t hc h
      refine Ak_iconst 82 (d_M_reads 43 81 (.iconst 1) 1 rfl) rfl (rk rfl) ?_
      refine Ak_goto 86 (d_M_reads 44 82 (.goto 4) 3 rfl) rfl ?_
      refine Ak_istore_n 87 2 (d_M_reads 46 86 (.istore_n 2) 1 rfl) rfl rfl (by decide) ?_
      refine Ak_goto 43 (d_M_reads 47 87 (.goto (-44)) 3 rfl) rfl ?_
      refine Ak_keep [true, false, true] ?_
      exact hK43 h
theorem t_M_reads_L43 {S : ASh} {x0 : Int} (hO : isO S x0 13 = true) : ∀ (n : Nat) (V : ASt) (x2 : Int) (r : Int) (V' : ASt), b_M_reads_L43 S x0 n V x2 = some (r, V') → AWk m_M_reads 6 0 0 0 0 43 [some (aR x0), none, some (aI x2)] [] S V none S V' := by
  intro n
  induction n with
  | zero => intro V x2 r V' h; cases h
  | succ n ih =>
    intro V x2 r V' h
    replace ih : ∀ {V : ASt} {x2 : Int} {r : Int} {V' : ASt}, b_M_reads_L43 S x0 n V x2 = some (r, V') → AWk m_M_reads 6 0 0 0 0 43 [some (aR x0), none, some (aI x2)] [] S V none S V' := fun h => ih _ _ _ _ h
    rw [b_M_reads_L43] at h
    refine Ak_iload_n 44 2 (d_M_reads 25 43 (.iload_n 2) 1 rfl) rfl rfl rfl ?_
    refine Ak_if_eq 90 47 (d_M_reads 26 44 (.ifCond .eq 46) 3 rfl) rfl rfl (fun hc => ?_) (fun hc => ?_)
    · replace h := it_t hc h
      cases h
      exact Ak_vret rfl (d_M_reads 48 90 (.return_) 1 rfl)
    · replace h := it_f hc h
      refine Ak_aload_n 48 0 (d_M_reads 27 47 (.aload_n 0) 1 rfl) rfl rfl rfl ?_
      refine Ak_getI 51 40 hO clX13 (by decide) (Or.inr rfl) lkF_M_134 (d_M_reads 28 48 (.getfield 134) 3 rfl) rfl ?_
      refine Ak_if_ne 65 54 (d_M_reads 29 51 (.ifCond .ne 14) 3 rfl) rfl rfl (fun hc => ?_) (fun hc => ?_)
      · replace h := it_f hc h
        refine Ak_aload_n 66 0 (d_M_reads 35 65 (.aload_n 0) 1 rfl) rfl rfl rfl ?_
        obtain ⟨r1, V2, h3, h⟩ := bnd_some h
        refine Ak_cV1 69 4 (c_M_goesOn h3) rfl hO clX13 rfl mok_M_goesOn lkM_M_368 (d_M_reads 36 66 (.invokevirtual 368) 3 rfl) rfl (by decide) (Nat.le_of_ble_eq_true rfl) ?_
        refine Ak_istore_n 70 2 (d_M_reads 37 69 (.istore_n 2) 1 rfl) rfl rfl (by decide) ?_
        refine Ak_keep [true, false, true] ?_
        exact t_M_reads_J70 hO (fun h => ih h) h
      · replace h := it_t hc h
        refine Ak_aload_n 55 0 (d_M_reads 30 54 (.aload_n 0) 1 rfl) rfl rfl rfl ?_
        refine Ak_aload_n 56 0 (d_M_reads 31 55 (.aload_n 0) 1 rfl) rfl rfl rfl ?_
        obtain ⟨r4, V5, h6, h⟩ := bnd_some h
        refine Ak_cV1 59 5 (c_M_operand h6) rfl hO clX13 rfl mok_M_operand lkM_M_365 (d_M_reads 32 56 (.invokevirtual 365) 3 rfl) rfl (by decide) (Nat.le_of_ble_eq_true rfl) ?_
        obtain ⟨hb8, h⟩ := gd_some h
        refine Ak_putZ 62 40 (dec_t hb8) hO clX13 (by decide) rfl rfl rfl lkF_M_134 (d_M_reads 33 59 (.putfield 134) 3 rfl) rfl (fun V7 hV7 => ?_)
        replace h := wV_some h V7 hV7
        refine Ak_goto 70 (d_M_reads 34 62 (.goto 8) 3 rfl) rfl ?_
        refine Ak_keep [true, false, true] ?_
        exact t_M_reads_J70 hO (fun h => ih h) h
theorem t_M_reads_J38 {S : ASh} {V : ASt} {x0 s0 s1 : Int} {r : Int} {V' : ASt} (hO : isO S x0 13 = true) (h : b_M_reads_J38 S  V x0 s0 s1 = some (r, V')) : AWk m_M_reads 6 0 0 0 0 38 [some (aR x0)] [(aI s1), (aR s0)] S V none S V' := by
  unfold b_M_reads_J38 at h
  obtain ⟨hg12, h⟩ := gd_some h
  obtain ⟨r9, V10, h11, h⟩ := bnd_some h
  refine Ak_cV0 41 2 (c_M_pushes h11) rfl hg12 clX13 rfl mok_M_pushes lkM_M_339 (d_M_reads 22 38 (.invokevirtual 339) 3 rfl) rfl (by decide) (Nat.le_of_ble_eq_true rfl) ?_
  refine Ak_iconst 42 (d_M_reads 23 41 (.iconst 1) 1 rfl) rfl (rk rfl) ?_
  refine Ak_istore_n 43 2 (d_M_reads 24 42 (.istore_n 2) 1 rfl) rfl rfl (by decide) ?_
  refine Ak_keep [true, false, true] ?_
  exact t_M_reads_L43 hO FU _ _ _ _ h
theorem c_M_reads {S : ASh} {V : ASt} {x0 x1 : Int} {r : Int} {V' : ASt} (h : f_M_reads S V x0 x1 = some (r, V')) : ACt m_M_reads 6 0 0 [(aR x0), (aI x1)] S V none S V' := by
  unfold f_M_reads at h
  obtain ⟨hO, h⟩ := gd_some h
  refine ACt_of (plainFor_of_name rfl) rfl (Nat.le_of_ble_eq_true rfl) ?_
  show AWk m_M_reads 6 0 0 0 0 0 [some (aR x0), some (aI x1)] [] S V none S V'
  refine Ak_aload_n 1 0 (d_M_reads 0 0 (.aload_n 0) 1 rfl) rfl rfl rfl ?_
  refine Ak_getI 4 8 hO clX13 (by decide) (Or.inl rfl) lkF_M_36 (d_M_reads 1 1 (.getfield 36) 3 rfl) rfl ?_
  refine Ak_if_le 8 7 (d_M_reads 2 4 (.ifCond .le 4) 3 rfl) rfl rfl (fun hc => ?_) (fun hc => ?_)
  · replace h := it_t hc h
    refine Ak_aload_n 9 0 (d_M_reads 4 8 (.aload_n 0) 1 rfl) rfl rfl rfl ?_
    refine Ak_iconst 10 (d_M_reads 5 9 (.iconst 0) 1 rfl) rfl (rk rfl) ?_
    refine Ak_putI 13 36 hO clX13 (by decide) rfl rfl rfl lkF_M_122 (d_M_reads 6 10 (.putfield 122) 3 rfl) rfl (fun V13 hV13 => ?_)
    replace h := wV_some h V13 hV13
    refine Ak_aload_n 14 0 (d_M_reads 7 13 (.aload_n 0) 1 rfl) rfl rfl rfl ?_
    refine Ak_iconst 15 (d_M_reads 8 14 (.iconst 0) 1 rfl) rfl (rk rfl) ?_
    refine Ak_putI 18 37 hO clX13 (by decide) rfl rfl rfl lkF_M_125 (d_M_reads 9 15 (.putfield 125) 3 rfl) rfl (fun V14 hV14 => ?_)
    replace h := wV_some h V14 hV14
    refine Ak_aload_n 19 0 (d_M_reads 10 18 (.aload_n 0) 1 rfl) rfl rfl rfl ?_
    refine Ak_iconst 20 (d_M_reads 11 19 (.iconst 0) 1 rfl) rfl (rk rfl) ?_
    refine Ak_putI 23 39 hO clX13 (by decide) rfl rfl rfl lkF_M_131 (d_M_reads 12 20 (.putfield 131) 3 rfl) rfl (fun V15 hV15 => ?_)
    replace h := wV_some h V15 hV15
    refine Ak_aload_n 24 0 (d_M_reads 13 23 (.aload_n 0) 1 rfl) rfl rfl rfl ?_
    refine Ak_iconst 25 (d_M_reads 14 24 (.iconst 0) 1 rfl) rfl (rk rfl) ?_
    refine Ak_putZ 28 40 (Or.inl rfl) hO clX13 (by decide) rfl rfl rfl lkF_M_134 (d_M_reads 15 25 (.putfield 134) 3 rfl) rfl (fun V16 hV16 => ?_)
    replace h := wV_some h V16 hV16
    refine Ak_aload_n 29 0 (d_M_reads 16 28 (.aload_n 0) 1 rfl) rfl rfl rfl ?_
    refine Ak_iload_n 30 1 (d_M_reads 17 29 (.iload_n 1) 1 rfl) rfl rfl rfl ?_
    refine Ak_if_eq 37 33 (d_M_reads 18 30 (.ifCond .eq 7) 3 rfl) rfl rfl (fun hc => ?_) (fun hc => ?_)
    · replace h := it_t hc h
      refine Ak_iconst 38 (d_M_reads 21 37 (.iconst 0) 1 rfl) rfl (rk rfl) ?_
      refine Ak_keep [true] ?_
      exact t_M_reads_J38 hO h
    · replace h := it_f hc h
      refine Ak_iconst 34 (d_M_reads 19 33 (.iconst 1) 1 rfl) rfl (rk rfl) ?_
      refine Ak_goto 38 (d_M_reads 20 34 (.goto 4) 3 rfl) rfl ?_
      refine Ak_keep [true] ?_
      exact t_M_reads_J38 hO h
  · replace h := it_f hc h
    cases h
    exact Ak_vret rfl (d_M_reads 3 7 (.return_) 1 rfl)
theorem t_M_counts_J31 {S : ASh} {V : ASt} {x0 : Int} {r : Int} {V' : ASt} (hO : isO S x0 13 = true) (h : b_M_counts_J31 S  V x0 = some (r, V')) : AWk m_M_counts 4 0 0 0 0 31 [some (aR x0)] [] S V (some (aI r)) S V' := by
  unfold b_M_counts_J31 at h
  refine Ak_aload_n 32 0 (d_M_counts 15 31 (.aload_n 0) 1 rfl) rfl rfl rfl ?_
  refine Ak_getI 35 8 hO clX13 (by decide) (Or.inl rfl) lkF_M_36 (d_M_counts 16 32 (.getfield 36) 3 rfl) rfl ?_
  refine Ak_if_ne 42 38 (d_M_counts 17 35 (.ifCond .ne 7) 3 rfl) rfl rfl (fun hc => ?_) (fun hc => ?_)
  · replace h := it_f hc h
    refine Ak_iconst 43 (d_M_counts 20 42 (.iconst 0) 1 rfl) rfl (rk rfl) ?_
    cases h
    exact Ak_zret (Or.inl rfl) rfl (d_M_counts 21 43 (.ireturn) 1 rfl)
  · replace h := it_t hc h
    refine Ak_iconst 39 (d_M_counts 18 38 (.iconst 1) 1 rfl) rfl (rk rfl) ?_
    refine Ak_goto 43 (d_M_counts 19 39 (.goto 4) 3 rfl) rfl ?_
    cases h
    exact Ak_zret (Or.inr rfl) rfl (d_M_counts 21 43 (.ireturn) 1 rfl)
theorem t_M_counts_J20 {S : ASh} {V : ASt} {x0 : Int} {r : Int} {V' : ASt} (hO : isO S x0 13 = true) (h : b_M_counts_J20 S  V x0 = some (r, V')) : AWk m_M_counts 4 0 0 0 0 20 [some (aR x0)] [] S V (some (aI r)) S V' := by
  unfold b_M_counts_J20 at h
  refine Ak_aload_n 21 0 (d_M_counts 10 20 (.aload_n 0) 1 rfl) rfl rfl rfl ?_
  refine Ak_getI 24 8 hO clX13 (by decide) (Or.inl rfl) lkF_M_36 (d_M_counts 11 21 (.getfield 36) 3 rfl) rfl ?_
  refine Ak_if_ne 31 27 (d_M_counts 12 24 (.ifCond .ne 7) 3 rfl) rfl rfl (fun hc => ?_) (fun hc => ?_)
  · replace h := it_f hc h
    refine Ak_keep [true] ?_
    exact t_M_counts_J31 hO h
  · replace h := it_t hc h
    refine Ak_aload_n 28 0 (d_M_counts 13 27 (.aload_n 0) 1 rfl) rfl rfl rfl ?_
    obtain ⟨r1, V2, h3, h⟩ := bnd_some h
    refine Ak_cV0 31 3 (c_M_ahead h3) rfl hO clX13 rfl mok_M_ahead lkM_M_280 (d_M_counts 14 28 (.invokevirtual 280) 3 rfl) rfl (by decide) (Nat.le_of_ble_eq_true rfl) ?_
    refine Ak_keep [true] ?_
    exact t_M_counts_J31 hO h
theorem c_M_counts {S : ASh} {V : ASt} {x0 x1 : Int} {r : Int} {V' : ASt} (h : f_M_counts S V x0 x1 = some (r, V')) : ACt m_M_counts 4 0 0 [(aR x0), (aI x1)] S V (some (aI r)) S V' := by
  unfold f_M_counts at h
  obtain ⟨hO, h⟩ := gd_some h
  refine ACt_of (plainFor_of_name rfl) rfl (Nat.le_of_ble_eq_true rfl) ?_
  show AWk m_M_counts 4 0 0 0 0 0 [some (aR x0), some (aI x1)] [] S V (some (aI r)) S V'
  refine Ak_aload_n 1 0 (d_M_counts 0 0 (.aload_n 0) 1 rfl) rfl rfl rfl ?_
  refine Ak_getI 4 8 hO clX13 (by decide) (Or.inl rfl) lkF_M_36 (d_M_counts 1 1 (.getfield 36) 3 rfl) rfl ?_
  refine Ak_if_ne 20 7 (d_M_counts 2 4 (.ifCond .ne 16) 3 rfl) rfl rfl (fun hc => ?_) (fun hc => ?_)
  · replace h := it_f hc h
    refine Ak_keep [true] ?_
    exact t_M_counts_J20 hO h
  · replace h := it_t hc h
    refine Ak_iload_n 8 1 (d_M_counts 3 7 (.iload_n 1) 1 rfl) rfl rfl rfl ?_
    refine Ak_if_eq 20 11 (d_M_counts 4 8 (.ifCond .eq 12) 3 rfl) rfl rfl (fun hc => ?_) (fun hc => ?_)
    · replace h := it_t hc h
      refine Ak_keep [true] ?_
      exact t_M_counts_J20 hO h
    · replace h := it_f hc h
      refine Ak_aload_n 12 0 (d_M_counts 5 11 (.aload_n 0) 1 rfl) rfl rfl rfl ?_
      refine Ak_iconst 13 (d_M_counts 6 12 (.iconst 5) 1 rfl) rfl (rk rfl) ?_
      refine Ak_aload_n 14 0 (d_M_counts 7 13 (.aload_n 0) 1 rfl) rfl rfl rfl ?_
      refine Ak_getI 17 4 hO clX13 (by decide) (Or.inl rfl) lkF_M_23 (d_M_counts 8 14 (.getfield 23) 3 rfl) rfl ?_
      obtain ⟨r4, V5, h6, h⟩ := bnd_some h
      refine Ak_cV0 20 2 (c_M_blame h6) rfl hO clX13 rfl mok_M_blame lkM_M_273 (d_M_counts 9 17 (.invokevirtual 273) 3 rfl) rfl (by decide) (Nat.le_of_ble_eq_true rfl) ?_
      refine Ak_keep [true] ?_
      exact t_M_counts_J20 hO h
theorem t_M_must_J_J25 {S : ASh} {V : ASt} {x0 : Int} {r : Int} {V' : ASt} (hO : isO S x0 13 = true) (h : b_M_must_J_J25 S  V x0 = some (r, V')) : AWk m_M_must_J 4 0 0 0 0 25 [some (aR x0)] [] S V none S V' := by
  unfold b_M_must_J_J25 at h
  refine Ak_aload_n 26 0 (d_M_must_J 13 25 (.aload_n 0) 1 rfl) rfl rfl rfl ?_
  refine Ak_getI 29 8 hO clX13 (by decide) (Or.inl rfl) lkF_M_36 (d_M_must_J 14 26 (.getfield 36) 3 rfl) rfl ?_
  refine Ak_if_ne 36 32 (d_M_must_J 15 29 (.ifCond .ne 7) 3 rfl) rfl rfl (fun hc => ?_) (fun hc => ?_)
  · replace h := it_f hc h
    cases h
    exact Ak_vret rfl (d_M_must_J 18 36 (.return_) 1 rfl)
  · replace h := it_t hc h
    refine Ak_aload_n 33 0 (d_M_must_J 16 32 (.aload_n 0) 1 rfl) rfl rfl rfl ?_
    obtain ⟨r1, V2, h3, h⟩ := bnd_some h
    refine Ak_cV0 36 3 (c_M_ahead h3) rfl hO clX13 rfl mok_M_ahead lkM_M_280 (d_M_must_J 17 33 (.invokevirtual 280) 3 rfl) rfl (by decide) (Nat.le_of_ble_eq_true rfl) ?_
    cases h
    exact Ak_vret rfl (d_M_must_J 18 36 (.return_) 1 rfl)
theorem c_M_must_J {S : ASh} {V : ASt} {x0 x1 : Int} {r : Int} {V' : ASt} (h : f_M_must_J S V x0 x1 = some (r, V')) : ACt m_M_must_J 4 0 0 [(aR x0), (aL x1)] S V none S V' := by
  unfold f_M_must_J at h
  obtain ⟨hO, h⟩ := gd_some h
  refine ACt_of (plainFor_of_name rfl) rfl (Nat.le_of_ble_eq_true rfl) ?_
  show AWk m_M_must_J 4 0 0 0 0 0 [some (aR x0), some (aL x1), none] [] S V none S V'
  refine Ak_aload_n 1 0 (d_M_must_J 0 0 (.aload_n 0) 1 rfl) rfl rfl rfl ?_
  refine Ak_getI 4 8 hO clX13 (by decide) (Or.inl rfl) lkF_M_36 (d_M_must_J 1 1 (.getfield 36) 3 rfl) rfl ?_
  refine Ak_if_le 8 7 (d_M_must_J 2 4 (.ifCond .le 4) 3 rfl) rfl rfl (fun hc => ?_) (fun hc => ?_)
  · replace h := it_t hc h
    refine Ak_aload_n 9 0 (d_M_must_J 4 8 (.aload_n 0) 1 rfl) rfl rfl rfl ?_
    refine Ak_lload_n 10 1 (d_M_must_J 5 9 (.lload_n 1) 1 rfl) rfl rfl rfl ?_
    obtain ⟨r4, V5, h6, h⟩ := bnd_some h
    refine Ak_cV1 13 2 (c_M_isWord h6) rfl hO clX13 rfl mok_M_isWord lkM_M_345 (d_M_must_J 6 10 (.invokevirtual 345) 3 rfl) rfl (by decide) (Nat.le_of_ble_eq_true rfl) ?_
    refine Ak_if_ne 25 16 (d_M_must_J 7 13 (.ifCond .ne 12) 3 rfl) rfl rfl (fun hc => ?_) (fun hc => ?_)
    · replace h := it_f hc h
      refine Ak_keep [true] ?_
      exact t_M_must_J_J25 hO h
    · replace h := it_t hc h
      refine Ak_aload_n 17 0 (d_M_must_J 8 16 (.aload_n 0) 1 rfl) rfl rfl rfl ?_
      refine Ak_iconst 18 (d_M_must_J 9 17 (.iconst 1) 1 rfl) rfl (rk rfl) ?_
      refine Ak_aload_n 19 0 (d_M_must_J 10 18 (.aload_n 0) 1 rfl) rfl rfl rfl ?_
      refine Ak_getI 22 4 hO clX13 (by decide) (Or.inl rfl) lkF_M_23 (d_M_must_J 11 19 (.getfield 23) 3 rfl) rfl ?_
      obtain ⟨r7, V8, h9, h⟩ := bnd_some h
      refine Ak_cV0 25 2 (c_M_blame h9) rfl hO clX13 rfl mok_M_blame lkM_M_273 (d_M_must_J 12 22 (.invokevirtual 273) 3 rfl) rfl (by decide) (Nat.le_of_ble_eq_true rfl) ?_
      refine Ak_keep [true] ?_
      exact t_M_must_J_J25 hO h
  · replace h := it_f hc h
    cases h
    exact Ak_vret rfl (d_M_must_J 3 7 (.return_) 1 rfl)
theorem t_M_fresh_J65 {S : ASh} {V : ASt} {x0 : Int} {r : Int} {V' : ASt} (hO : isO S x0 13 = true) (h : b_M_fresh_J65 S  V x0 = some (r, V')) : AWk m_M_fresh 4 0 0 0 0 65 [some (aR x0)] [] S V (some (aL r)) S V' := by
  unfold b_M_fresh_J65 at h
  refine Ak_aload_n 66 0 (d_M_fresh 33 65 (.aload_n 0) 1 rfl) rfl rfl rfl ?_
  refine Ak_getL 69 7 hO clX13 (by decide) rfl lkF_M_32 (d_M_fresh 34 66 (.getfield 32) 3 rfl) rfl ?_
  refine Ak_lstore_n 70 1 (d_M_fresh 35 69 (.lstore_n 1) 1 rfl) rfl rfl (by decide) ?_
  refine Ak_aload_n 71 0 (d_M_fresh 36 70 (.aload_n 0) 1 rfl) rfl rfl rfl ?_
  refine Ak_getI 74 8 hO clX13 (by decide) (Or.inl rfl) lkF_M_36 (d_M_fresh 37 71 (.getfield 36) 3 rfl) rfl ?_
  refine Ak_if_ne 81 77 (d_M_fresh 38 74 (.ifCond .ne 7) 3 rfl) rfl rfl (fun hc => ?_) (fun hc => ?_)
  · replace h := it_f hc h
    refine Ak_lload_n 82 1 (d_M_fresh 41 81 (.lload_n 1) 1 rfl) rfl rfl rfl ?_
    cases h
    exact Ak_lret rfl (d_M_fresh 42 82 (.lreturn) 1 rfl)
  · replace h := it_t hc h
    refine Ak_aload_n 78 0 (d_M_fresh 39 77 (.aload_n 0) 1 rfl) rfl rfl rfl ?_
    obtain ⟨r1, V2, h3, h⟩ := bnd_some h
    refine Ak_cV0 81 3 (c_M_ahead h3) rfl hO clX13 rfl mok_M_ahead lkM_M_280 (d_M_fresh 40 78 (.invokevirtual 280) 3 rfl) rfl (by decide) (Nat.le_of_ble_eq_true rfl) ?_
    refine Ak_lload_n 82 1 (d_M_fresh 41 81 (.lload_n 1) 1 rfl) rfl rfl rfl ?_
    cases h
    exact Ak_lret rfl (d_M_fresh 42 82 (.lreturn) 1 rfl)
theorem t_M_fresh_J37 {S : ASh} {V : ASt} {x0 : Int} {r : Int} {V' : ASt} (hO : isO S x0 13 = true) (h : b_M_fresh_J37 S  V x0 = some (r, V')) : AWk m_M_fresh 4 0 0 0 0 37 [some (aR x0)] [] S V (some (aL r)) S V' := by
  unfold b_M_fresh_J37 at h
  refine Ak_aload_n 38 0 (d_M_fresh 19 37 (.aload_n 0) 1 rfl) rfl rfl rfl ?_
  refine Ak_getI 41 8 hO clX13 (by decide) (Or.inl rfl) lkF_M_36 (d_M_fresh 20 38 (.getfield 36) 3 rfl) rfl ?_
  refine Ak_if_ne 65 44 (d_M_fresh 21 41 (.ifCond .ne 24) 3 rfl) rfl rfl (fun hc => ?_) (fun hc => ?_)
  · replace h := it_f hc h
    refine Ak_keep [true] ?_
    exact t_M_fresh_J65 hO h
  · replace h := it_t hc h
    refine Ak_aload_n 45 0 (d_M_fresh 22 44 (.aload_n 0) 1 rfl) rfl rfl rfl ?_
    refine Ak_aload_n 46 0 (d_M_fresh 23 45 (.aload_n 0) 1 rfl) rfl rfl rfl ?_
    refine Ak_getL 49 7 hO clX13 (by decide) rfl lkF_M_32 (d_M_fresh 24 46 (.getfield 32) 3 rfl) rfl ?_
    obtain ⟨r4, V5, h6, h⟩ := bnd_some h
    refine Ak_cV1 52 2 (c_M_named h6) rfl hO clX13 rfl mok_M_named lkM_M_358 (d_M_fresh 25 49 (.invokevirtual 358) 3 rfl) rfl (by decide) (Nat.le_of_ble_eq_true rfl) ?_
    refine Ak_iconst 53 (d_M_fresh 26 52 (.iconst (-1)) 1 rfl) rfl (rk rfl) ?_
    refine Ak_icmp_eq 65 56 (d_M_fresh 27 53 (.if_icmp .eq 12) 3 rfl) rfl rfl (fun hc => ?_) (fun hc => ?_)
    · replace h := it_t hc h
      refine Ak_keep [true] ?_
      exact t_M_fresh_J65 hO h
    · replace h := it_f hc h
      refine Ak_aload_n 57 0 (d_M_fresh 28 56 (.aload_n 0) 1 rfl) rfl rfl rfl ?_
      refine Ak_iconst 58 (d_M_fresh 29 57 (.iconst 2) 1 rfl) rfl (rk rfl) ?_
      refine Ak_aload_n 59 0 (d_M_fresh 30 58 (.aload_n 0) 1 rfl) rfl rfl rfl ?_
      refine Ak_getI 62 4 hO clX13 (by decide) (Or.inl rfl) lkF_M_23 (d_M_fresh 31 59 (.getfield 23) 3 rfl) rfl ?_
      obtain ⟨r7, V8, h9, h⟩ := bnd_some h
      refine Ak_cV0 65 2 (c_M_blame h9) rfl hO clX13 rfl mok_M_blame lkM_M_273 (d_M_fresh 32 62 (.invokevirtual 273) 3 rfl) rfl (by decide) (Nat.le_of_ble_eq_true rfl) ?_
      refine Ak_keep [true] ?_
      exact t_M_fresh_J65 hO h
theorem t_M_fresh_J28 {S : ASh} {V : ASt} {x0 : Int} {r : Int} {V' : ASt} (hO : isO S x0 13 = true) (h : b_M_fresh_J28 S  V x0 = some (r, V')) : AWk m_M_fresh 4 0 0 0 0 28 [some (aR x0)] [] S V (some (aL r)) S V' := by
  unfold b_M_fresh_J28 at h
  refine Ak_aload_n 29 0 (d_M_fresh 14 28 (.aload_n 0) 1 rfl) rfl rfl rfl ?_
  refine Ak_iconst 30 (d_M_fresh 15 29 (.iconst 1) 1 rfl) rfl (rk rfl) ?_
  refine Ak_aload_n 31 0 (d_M_fresh 16 30 (.aload_n 0) 1 rfl) rfl rfl rfl ?_
  refine Ak_getI 34 4 hO clX13 (by decide) (Or.inl rfl) lkF_M_23 (d_M_fresh 17 31 (.getfield 23) 3 rfl) rfl ?_
  obtain ⟨r10, V11, h12, h⟩ := bnd_some h
  refine Ak_cV0 37 2 (c_M_blame h12) rfl hO clX13 rfl mok_M_blame lkM_M_273 (d_M_fresh 18 34 (.invokevirtual 273) 3 rfl) rfl (by decide) (Nat.le_of_ble_eq_true rfl) ?_
  refine Ak_keep [true] ?_
  exact t_M_fresh_J37 hO h
theorem c_M_fresh {S : ASh} {V : ASt} {x0 : Int} {r : Int} {V' : ASt} (h : f_M_fresh S V x0 = some (r, V')) : ACt m_M_fresh 4 0 0 [(aR x0)] S V (some (aL r)) S V' := by
  unfold f_M_fresh at h
  obtain ⟨hO, h⟩ := gd_some h
  refine ACt_of (plainFor_of_name rfl) rfl (Nat.le_of_ble_eq_true rfl) ?_
  show AWk m_M_fresh 4 0 0 0 0 0 [some (aR x0)] [] S V (some (aL r)) S V'
  refine Ak_aload_n 1 0 (d_M_fresh 0 0 (.aload_n 0) 1 rfl) rfl rfl rfl ?_
  refine Ak_getI 4 8 hO clX13 (by decide) (Or.inl rfl) lkF_M_36 (d_M_fresh 1 1 (.getfield 36) 3 rfl) rfl ?_
  refine Ak_if_le 9 7 (d_M_fresh 2 4 (.ifCond .le 5) 3 rfl) rfl rfl (fun hc => ?_) (fun hc => ?_)
  · replace h := it_t hc h
    refine Ak_aload_n 10 0 (d_M_fresh 5 9 (.aload_n 0) 1 rfl) rfl rfl rfl ?_
    refine Ak_getI 13 3 hO clX13 (by decide) (Or.inl rfl) lkF_M_20 (d_M_fresh 6 10 (.getfield 20) 3 rfl) rfl ?_
    refine Ak_iconst 14 (d_M_fresh 7 13 (.iconst 1) 1 rfl) rfl (rk rfl) ?_
    refine Ak_icmp_ne 28 17 (d_M_fresh 8 14 (.if_icmp .ne 14) 3 rfl) rfl rfl (fun hc => ?_) (fun hc => ?_)
    · replace h := it_f hc h
      refine Ak_keep [true] ?_
      exact t_M_fresh_J28 hO h
    · replace h := it_t hc h
      refine Ak_aload_n 18 0 (d_M_fresh 9 17 (.aload_n 0) 1 rfl) rfl rfl rfl ?_
      refine Ak_aload_n 19 0 (d_M_fresh 10 18 (.aload_n 0) 1 rfl) rfl rfl rfl ?_
      refine Ak_getL 22 7 hO clX13 (by decide) rfl lkF_M_32 (d_M_fresh 11 19 (.getfield 32) 3 rfl) rfl ?_
      obtain ⟨r13, V14, h15, h⟩ := bnd_some h
      refine Ak_cV1 25 2 (c_M_isOwn h15) rfl hO clX13 rfl mok_M_isOwn lkM_M_355 (d_M_fresh 12 22 (.invokevirtual 355) 3 rfl) rfl (by decide) (Nat.le_of_ble_eq_true rfl) ?_
      refine Ak_if_eq 37 28 (d_M_fresh 13 25 (.ifCond .eq 12) 3 rfl) rfl rfl (fun hc => ?_) (fun hc => ?_)
      · replace h := it_t hc h
        refine Ak_keep [true] ?_
        exact t_M_fresh_J37 hO h
      · replace h := it_f hc h
        refine Ak_keep [true] ?_
        exact t_M_fresh_J28 hO h
  · replace h := it_f hc h
    refine Ak_lconst 8 0 (d_M_fresh 3 7 (.lconst 0) 1 rfl) rfl rfl (rkL rfl) ?_
    cases h
    exact Ak_lret rfl (d_M_fresh 4 8 (.lreturn) 1 rfl)
theorem t_M_asked_J89 {S : ASh} {V : ASt} {x0 x1 : Int} {r : Int} {V' : ASt} (hO : isO S x0 13 = true) (h : b_M_asked_J89 S  V x0 x1 = some (r, V')) : AWk m_M_asked 4 0 0 0 0 89 [some (aR x0), some (aI x1)] [] S V (some (aI r)) S V' := by
  unfold b_M_asked_J89 at h
  refine Ak_aload_n 90 0 (d_M_asked 45 89 (.aload_n 0) 1 rfl) rfl rfl rfl ?_
  refine Ak_getI 93 8 hO clX13 (by decide) (Or.inl rfl) lkF_M_36 (d_M_asked 46 90 (.getfield 36) 3 rfl) rfl ?_
  refine Ak_if_le 100 96 (d_M_asked 47 93 (.ifCond .le 7) 3 rfl) rfl rfl (fun hc => ?_) (fun hc => ?_)
  · replace h := it_t hc h
    refine Ak_iload_n 101 1 (d_M_asked 50 100 (.iload_n 1) 1 rfl) rfl rfl rfl ?_
    cases h
    exact Ak_iret rfl (d_M_asked 51 101 (.ireturn) 1 rfl)
  · replace h := it_f hc h
    refine Ak_iconst 97 (d_M_asked 48 96 (.iconst 0) 1 rfl) rfl (rk rfl) ?_
    refine Ak_goto 101 (d_M_asked 49 97 (.goto 4) 3 rfl) rfl ?_
    cases h
    exact Ak_iret rfl (d_M_asked 51 101 (.ireturn) 1 rfl)
theorem t_M_asked_J78 {S : ASh} {V : ASt} {x0 x1 : Int} {r : Int} {V' : ASt} (hO : isO S x0 13 = true) (h : b_M_asked_J78 S  V x0 x1 = some (r, V')) : AWk m_M_asked 4 0 0 0 0 78 [some (aR x0), some (aI x1)] [] S V (some (aI r)) S V' := by
  unfold b_M_asked_J78 at h
  refine Ak_aload_n 79 0 (d_M_asked 40 78 (.aload_n 0) 1 rfl) rfl rfl rfl ?_
  refine Ak_getI 82 8 hO clX13 (by decide) (Or.inl rfl) lkF_M_36 (d_M_asked 41 79 (.getfield 36) 3 rfl) rfl ?_
  refine Ak_if_ne 89 85 (d_M_asked 42 82 (.ifCond .ne 7) 3 rfl) rfl rfl (fun hc => ?_) (fun hc => ?_)
  · replace h := it_f hc h
    refine Ak_keep [true, true] ?_
    exact t_M_asked_J89 hO h
  · replace h := it_t hc h
    refine Ak_aload_n 86 0 (d_M_asked 43 85 (.aload_n 0) 1 rfl) rfl rfl rfl ?_
    obtain ⟨r1, V2, h3, h⟩ := bnd_some h
    refine Ak_cV0 89 3 (c_M_ahead h3) rfl hO clX13 rfl mok_M_ahead lkM_M_280 (d_M_asked 44 86 (.invokevirtual 280) 3 rfl) rfl (by decide) (Nat.le_of_ble_eq_true rfl) ?_
    refine Ak_keep [true, true] ?_
    exact t_M_asked_J89 hO h
theorem t_M_asked_J56 {S : ASh} {V : ASt} {x0 s0 : Int} {r : Int} {V' : ASt} (hO : isO S x0 13 = true) (h : b_M_asked_J56 S  V x0 s0 = some (r, V')) : AWk m_M_asked 4 0 0 0 0 56 [some (aR x0)] [(aI s0)] S V (some (aI r)) S V' := by
  unfold b_M_asked_J56 at h
  refine Ak_istore_n 57 1 (d_M_asked 28 56 (.istore_n 1) 1 rfl) rfl rfl (by decide) ?_
  refine Ak_aload_n 58 0 (d_M_asked 29 57 (.aload_n 0) 1 rfl) rfl rfl rfl ?_
  refine Ak_getI 61 8 hO clX13 (by decide) (Or.inl rfl) lkF_M_36 (d_M_asked 30 58 (.getfield 36) 3 rfl) rfl ?_
  refine Ak_if_ne 78 64 (d_M_asked 31 61 (.ifCond .ne 17) 3 rfl) rfl rfl (fun hc => ?_) (fun hc => ?_)
  · replace h := it_f hc h
    refine Ak_keep [true, true] ?_
    exact t_M_asked_J78 hO h
  · replace h := it_t hc h
    refine Ak_iload_n 65 1 (d_M_asked 32 64 (.iload_n 1) 1 rfl) rfl rfl rfl ?_
    refine Ak_iconst 66 (d_M_asked 33 65 (.iconst (-1)) 1 rfl) rfl (rk rfl) ?_
    refine Ak_icmp_ne 78 69 (d_M_asked 34 66 (.if_icmp .ne 12) 3 rfl) rfl rfl (fun hc => ?_) (fun hc => ?_)
    · replace h := it_f hc h
      refine Ak_keep [true, true] ?_
      exact t_M_asked_J78 hO h
    · replace h := it_t hc h
      refine Ak_aload_n 70 0 (d_M_asked 35 69 (.aload_n 0) 1 rfl) rfl rfl rfl ?_
      refine Ak_iconst 71 (d_M_asked 36 70 (.iconst 3) 1 rfl) rfl (rk rfl) ?_
      refine Ak_aload_n 72 0 (d_M_asked 37 71 (.aload_n 0) 1 rfl) rfl rfl rfl ?_
      refine Ak_getI 75 4 hO clX13 (by decide) (Or.inl rfl) lkF_M_23 (d_M_asked 38 72 (.getfield 23) 3 rfl) rfl ?_
      obtain ⟨r4, V5, h6, h⟩ := bnd_some h
      refine Ak_cV0 78 2 (c_M_blame h6) rfl hO clX13 rfl mok_M_blame lkM_M_273 (d_M_asked 39 75 (.invokevirtual 273) 3 rfl) rfl (by decide) (Nat.le_of_ble_eq_true rfl) ?_
      refine Ak_keep [true, true] ?_
      exact t_M_asked_J78 hO h
theorem t_M_asked_J37 {S : ASh} {V : ASt} {x0 : Int} {r : Int} {V' : ASt} (hO : isO S x0 13 = true) (h : b_M_asked_J37 S  V x0 = some (r, V')) : AWk m_M_asked 4 0 0 0 0 37 [some (aR x0)] [] S V (some (aI r)) S V' := by
  unfold b_M_asked_J37 at h
  refine Ak_aload_n 38 0 (d_M_asked 19 37 (.aload_n 0) 1 rfl) rfl rfl rfl ?_
  refine Ak_getI 41 8 hO clX13 (by decide) (Or.inl rfl) lkF_M_36 (d_M_asked 20 38 (.getfield 36) 3 rfl) rfl ?_
  refine Ak_if_le 48 44 (d_M_asked 21 41 (.ifCond .le 7) 3 rfl) rfl rfl (fun hc => ?_) (fun hc => ?_)
  · replace h := it_t hc h
    refine Ak_aload_n 49 0 (d_M_asked 24 48 (.aload_n 0) 1 rfl) rfl rfl rfl ?_
    refine Ak_aload_n 50 0 (d_M_asked 25 49 (.aload_n 0) 1 rfl) rfl rfl rfl ?_
    refine Ak_getL 53 7 hO clX13 (by decide) rfl lkF_M_32 (d_M_asked 26 50 (.getfield 32) 3 rfl) rfl ?_
    obtain ⟨r7, V8, h9, h⟩ := bnd_some h
    refine Ak_cV1 56 2 (c_M_named h9) rfl hO clX13 rfl mok_M_named lkM_M_358 (d_M_asked 27 53 (.invokevirtual 358) 3 rfl) rfl (by decide) (Nat.le_of_ble_eq_true rfl) ?_
    refine Ak_keep [true] ?_
    exact t_M_asked_J56 hO h
  · replace h := it_f hc h
    refine Ak_iconst 45 (d_M_asked 22 44 (.iconst 0) 1 rfl) rfl (rk rfl) ?_
    refine Ak_goto 56 (d_M_asked 23 45 (.goto 11) 3 rfl) rfl ?_
    refine Ak_keep [true] ?_
    exact t_M_asked_J56 hO h
theorem t_M_asked_J28 {S : ASh} {V : ASt} {x0 : Int} {r : Int} {V' : ASt} (hO : isO S x0 13 = true) (h : b_M_asked_J28 S  V x0 = some (r, V')) : AWk m_M_asked 4 0 0 0 0 28 [some (aR x0)] [] S V (some (aI r)) S V' := by
  unfold b_M_asked_J28 at h
  refine Ak_aload_n 29 0 (d_M_asked 14 28 (.aload_n 0) 1 rfl) rfl rfl rfl ?_
  refine Ak_iconst 30 (d_M_asked 15 29 (.iconst 1) 1 rfl) rfl (rk rfl) ?_
  refine Ak_aload_n 31 0 (d_M_asked 16 30 (.aload_n 0) 1 rfl) rfl rfl rfl ?_
  refine Ak_getI 34 4 hO clX13 (by decide) (Or.inl rfl) lkF_M_23 (d_M_asked 17 31 (.getfield 23) 3 rfl) rfl ?_
  obtain ⟨r10, V11, h12, h⟩ := bnd_some h
  refine Ak_cV0 37 2 (c_M_blame h12) rfl hO clX13 rfl mok_M_blame lkM_M_273 (d_M_asked 18 34 (.invokevirtual 273) 3 rfl) rfl (by decide) (Nat.le_of_ble_eq_true rfl) ?_
  refine Ak_keep [true] ?_
  exact t_M_asked_J37 hO h
theorem c_M_asked {S : ASh} {V : ASt} {x0 : Int} {r : Int} {V' : ASt} (h : f_M_asked S V x0 = some (r, V')) : ACt m_M_asked 4 0 0 [(aR x0)] S V (some (aI r)) S V' := by
  unfold f_M_asked at h
  obtain ⟨hO, h⟩ := gd_some h
  refine ACt_of (plainFor_of_name rfl) rfl (Nat.le_of_ble_eq_true rfl) ?_
  show AWk m_M_asked 4 0 0 0 0 0 [some (aR x0)] [] S V (some (aI r)) S V'
  refine Ak_aload_n 1 0 (d_M_asked 0 0 (.aload_n 0) 1 rfl) rfl rfl rfl ?_
  refine Ak_getI 4 8 hO clX13 (by decide) (Or.inl rfl) lkF_M_36 (d_M_asked 1 1 (.getfield 36) 3 rfl) rfl ?_
  refine Ak_if_le 9 7 (d_M_asked 2 4 (.ifCond .le 5) 3 rfl) rfl rfl (fun hc => ?_) (fun hc => ?_)
  · replace h := it_t hc h
    refine Ak_aload_n 10 0 (d_M_asked 5 9 (.aload_n 0) 1 rfl) rfl rfl rfl ?_
    refine Ak_getI 13 3 hO clX13 (by decide) (Or.inl rfl) lkF_M_20 (d_M_asked 6 10 (.getfield 20) 3 rfl) rfl ?_
    refine Ak_iconst 14 (d_M_asked 7 13 (.iconst 1) 1 rfl) rfl (rk rfl) ?_
    refine Ak_icmp_ne 28 17 (d_M_asked 8 14 (.if_icmp .ne 14) 3 rfl) rfl rfl (fun hc => ?_) (fun hc => ?_)
    · replace h := it_f hc h
      refine Ak_keep [true] ?_
      exact t_M_asked_J28 hO h
    · replace h := it_t hc h
      refine Ak_aload_n 18 0 (d_M_asked 9 17 (.aload_n 0) 1 rfl) rfl rfl rfl ?_
      refine Ak_aload_n 19 0 (d_M_asked 10 18 (.aload_n 0) 1 rfl) rfl rfl rfl ?_
      refine Ak_getL 22 7 hO clX13 (by decide) rfl lkF_M_32 (d_M_asked 11 19 (.getfield 32) 3 rfl) rfl ?_
      obtain ⟨r13, V14, h15, h⟩ := bnd_some h
      refine Ak_cV1 25 2 (c_M_isOwn h15) rfl hO clX13 rfl mok_M_isOwn lkM_M_355 (d_M_asked 12 22 (.invokevirtual 355) 3 rfl) rfl (by decide) (Nat.le_of_ble_eq_true rfl) ?_
      refine Ak_if_eq 37 28 (d_M_asked 13 25 (.ifCond .eq 12) 3 rfl) rfl rfl (fun hc => ?_) (fun hc => ?_)
      · replace h := it_t hc h
        refine Ak_keep [true] ?_
        exact t_M_asked_J37 hO h
      · replace h := it_f hc h
        refine Ak_keep [true] ?_
        exact t_M_asked_J28 hO h
  · replace h := it_f hc h
    refine Ak_iconst 8 (d_M_asked 3 7 (.iconst 0) 1 rfl) rfl (rk rfl) ?_
    cases h
    exact Ak_iret rfl (d_M_asked 4 8 (.ireturn) 1 rfl)
theorem t_M_board_J19 {S : ASh} {V : ASt} {x0 : Int} {r : Int} {V' : ASt} (hO : isO S x0 13 = true) (h : b_M_board_J19 S  V x0 = some (r, V')) : AWk m_M_board 5 0 0 0 0 19 [some (aR x0)] [] S V none S V' := by
  unfold b_M_board_J19 at h
  refine Ak_aload_n 20 0 (d_M_board 9 19 (.aload_n 0) 1 rfl) rfl rfl rfl ?_
  refine Ak_getI 23 8 hO clX13 (by decide) (Or.inl rfl) lkF_M_36 (d_M_board 10 20 (.getfield 36) 3 rfl) rfl ?_
  refine Ak_if_le 27 26 (d_M_board 11 23 (.ifCond .le 4) 3 rfl) rfl rfl (fun hc => ?_) (fun hc => ?_)
  · replace h := it_t hc h
    refine Ak_aload_n 28 0 (d_M_board 13 27 (.aload_n 0) 1 rfl) rfl rfl rfl ?_
    obtain ⟨r1, V2, h3, h⟩ := bnd_some h
    refine Ak_cV0 31 3 (c_M_ahead h3) rfl hO clX13 rfl mok_M_ahead lkM_M_280 (d_M_board 14 28 (.invokevirtual 280) 3 rfl) rfl (by decide) (Nat.le_of_ble_eq_true rfl) ?_
    refine Ak_aload_n 32 0 (d_M_board 15 31 (.aload_n 0) 1 rfl) rfl rfl rfl ?_
    refine Ak_getF 35 13 hO clX13 (by decide) rfl lkF_M_51 (d_M_board 16 32 (.getfield 51) 3 rfl) rfl ?_
    refine Ak_aload_n 36 0 (d_M_board 17 35 (.aload_n 0) 1 rfl) rfl rfl rfl ?_
    refine Ak_getI 39 30 hO clX13 (by decide) (Or.inl rfl) lkF_M_104 (d_M_board 18 36 (.getfield 104) 3 rfl) rfl ?_
    refine Ak_aload_n 40 0 (d_M_board 19 39 (.aload_n 0) 1 rfl) rfl rfl rfl ?_
    refine Ak_iconst 41 (d_M_board 20 40 (.iconst 2) 1 rfl) rfl (rk rfl) ?_
    refine Ak_bipush 43 (d_M_board 21 41 (.bipush 9) 2 rfl) rfl (bp_ok rfl) (rk rfl) ?_
    obtain ⟨r4, V5, h6, h⟩ := bnd_some h
    refine Ak_cV1 46 4 (c_M_number h6) rfl hO clX13 rfl mok_M_number lkM_M_371 (d_M_board 22 43 (.invokevirtual 371) 3 rfl) rfl (by decide) (Nat.le_of_ble_eq_true rfl) ?_
    obtain ⟨ha7, h⟩ := gd_some h
    refine Ak_iastore 47 ha7 (d_M_board 23 46 (.iastore) 1 rfl) rfl (fun V8 hV8 => ?_)
    replace h := wV_some h V8 hV8
    refine Ak_aload_n 48 0 (d_M_board 24 47 (.aload_n 0) 1 rfl) rfl rfl rfl ?_
    refine Ak_getI 51 8 hO clX13 (by decide) (Or.inl rfl) lkF_M_36 (d_M_board 25 48 (.getfield 36) 3 rfl) rfl ?_
    refine Ak_if_ne 60 54 (d_M_board 26 51 (.ifCond .ne 9) 3 rfl) rfl rfl (fun hc => ?_) (fun hc => ?_)
    · replace h := it_f hc h
      cases h
      exact Ak_vret rfl (d_M_board 30 60 (.return_) 1 rfl)
    · replace h := it_t hc h
      refine Ak_aload_n 55 0 (d_M_board 27 54 (.aload_n 0) 1 rfl) rfl rfl rfl ?_
      refine Ak_bipush 57 (d_M_board 28 55 (.bipush 59) 2 rfl) rfl (bp_ok rfl) (rk rfl) ?_
      obtain ⟨r9, V10, h11, h⟩ := bnd_some h
      refine Ak_cV0 60 4 (c_M_must_I h11) rfl hO clX13 rfl mok_M_must_I lkM_M_375 (d_M_board 29 57 (.invokevirtual 375) 3 rfl) rfl (by decide) (Nat.le_of_ble_eq_true rfl) ?_
      cases h
      exact Ak_vret rfl (d_M_board 30 60 (.return_) 1 rfl)
  · replace h := it_f hc h
    cases h
    exact Ak_vret rfl (d_M_board 12 26 (.return_) 1 rfl)
theorem c_M_board {S : ASh} {V : ASt} {x0 : Int} {r : Int} {V' : ASt} (h : f_M_board S V x0 = some (r, V')) : ACt m_M_board 5 0 0 [(aR x0)] S V none S V' := by
  unfold f_M_board at h
  obtain ⟨hO, h⟩ := gd_some h
  refine ACt_of (plainFor_of_name rfl) rfl (Nat.le_of_ble_eq_true rfl) ?_
  show AWk m_M_board 5 0 0 0 0 0 [some (aR x0)] [] S V none S V'
  refine Ak_aload_n 1 0 (d_M_board 0 0 (.aload_n 0) 1 rfl) rfl rfl rfl ?_
  refine Ak_ldc2 4 422775452260 (d_M_board 1 1 (.ldc2_w 283) 3 rfl) rfl lkJ_M_283 (rkL rfl) ?_
  obtain ⟨r12, V13, h14, h⟩ := bnd_some h
  refine Ak_cV1 7 2 (c_M_isWord h14) rfl hO clX13 rfl mok_M_isWord lkM_M_345 (d_M_board 2 4 (.invokevirtual 345) 3 rfl) rfl (by decide) (Nat.le_of_ble_eq_true rfl) ?_
  refine Ak_if_ne 19 10 (d_M_board 3 7 (.ifCond .ne 12) 3 rfl) rfl rfl (fun hc => ?_) (fun hc => ?_)
  · replace h := it_f hc h
    refine Ak_keep [true] ?_
    exact t_M_board_J19 hO h
  · replace h := it_t hc h
    refine Ak_aload_n 11 0 (d_M_board 4 10 (.aload_n 0) 1 rfl) rfl rfl rfl ?_
    refine Ak_iconst 12 (d_M_board 5 11 (.iconst 1) 1 rfl) rfl (rk rfl) ?_
    refine Ak_aload_n 13 0 (d_M_board 6 12 (.aload_n 0) 1 rfl) rfl rfl rfl ?_
    refine Ak_getI 16 4 hO clX13 (by decide) (Or.inl rfl) lkF_M_23 (d_M_board 7 13 (.getfield 23) 3 rfl) rfl ?_
    obtain ⟨r15, V16, h17, h⟩ := bnd_some h
    refine Ak_cV0 19 2 (c_M_blame h17) rfl hO clX13 rfl mok_M_blame lkM_M_273 (d_M_board 8 16 (.invokevirtual 273) 3 rfl) rfl (by decide) (Nat.le_of_ble_eq_true rfl) ?_
    refine Ak_keep [true] ?_
    exact t_M_board_J19 hO h
theorem t_M_piece_J19 {S : ASh} {V : ASt} {x0 s0 s1 : Int} {r : Int} {V' : ASt} (hO : isO S x0 13 = true) (h : b_M_piece_J19 S  V x0 s0 s1 = some (r, V')) : AWk m_M_piece 5 0 0 0 0 19 [some (aR x0)] [(aI s1), (aR s0)] S V none S V' := by
  unfold b_M_piece_J19 at h
  obtain ⟨hg4, h⟩ := gd_some h
  obtain ⟨r1, V2, h3, h⟩ := bnd_some h
  refine Ak_cV1 22 4 (c_M_counts h3) rfl hg4 clX13 rfl mok_M_counts lkM_M_378 (d_M_piece 11 19 (.invokevirtual 378) 3 rfl) rfl (by decide) (Nat.le_of_ble_eq_true rfl) ?_
  refine Ak_if_ne 26 25 (d_M_piece 12 22 (.ifCond .ne 4) 3 rfl) rfl rfl (fun hc => ?_) (fun hc => ?_)
  · replace h := it_f hc h
    refine Ak_iconst 27 (d_M_piece 14 26 (.iconst 2) 1 rfl) rfl (rk rfl) ?_
    refine Ak_aload_n 28 0 (d_M_piece 15 27 (.aload_n 0) 1 rfl) rfl rfl rfl ?_
    refine Ak_getI 31 30 hO clX13 (by decide) (Or.inl rfl) lkF_M_104 (d_M_piece 16 28 (.getfield 104) 3 rfl) rfl ?_
    refine Ak_imul 32 (d_M_piece 17 31 (.imul) 1 rfl) rfl ?_
    refine Ak_aload_n 33 0 (d_M_piece 18 32 (.aload_n 0) 1 rfl) rfl rfl rfl ?_
    refine Ak_getF 36 14 hO clX13 (by decide) rfl lkF_M_54 (d_M_piece 19 33 (.getfield 54) 3 rfl) rfl ?_
    refine Ak_aload_n 37 0 (d_M_piece 20 36 (.aload_n 0) 1 rfl) rfl rfl rfl ?_
    refine Ak_getI 40 30 hO clX13 (by decide) (Or.inl rfl) lkF_M_104 (d_M_piece 21 37 (.getfield 104) 3 rfl) rfl ?_
    obtain ⟨ha5, h⟩ := gd_some h
    refine Ak_iaload 41 ha5 (d_M_piece 22 40 (.iaload) 1 rfl) rfl ?_
    refine Ak_iadd 42 (d_M_piece 23 41 (.iadd) 1 rfl) rfl ?_
    refine Ak_istore_n 43 1 (d_M_piece 24 42 (.istore_n 1) 1 rfl) rfl rfl (by decide) ?_
    refine Ak_aload_n 44 0 (d_M_piece 25 43 (.aload_n 0) 1 rfl) rfl rfl rfl ?_
    refine Ak_getF 47 15 hO clX13 (by decide) rfl lkF_M_57 (d_M_piece 26 44 (.getfield 57) 3 rfl) rfl ?_
    refine Ak_iload_n 48 1 (d_M_piece 27 47 (.iload_n 1) 1 rfl) rfl rfl rfl ?_
    refine Ak_aload_n 49 0 (d_M_piece 28 48 (.aload_n 0) 1 rfl) rfl rfl rfl ?_
    obtain ⟨r6, V7, h8, h⟩ := bnd_some h
    refine Ak_cV1 52 4 (c_M_fresh h8) rfl hO clX13 rfl mok_M_fresh lkM_M_382 (d_M_piece 29 49 (.invokevirtual 382) 3 rfl) rfl (by decide) (Nat.le_of_ble_eq_true rfl) ?_
    obtain ⟨ha9, h⟩ := gd_some h
    refine Ak_lastore 53 ha9 (d_M_piece 30 52 (.lastore) 1 rfl) rfl (fun V10 hV10 => ?_)
    replace h := wV_some h V10 hV10
    refine Ak_aload_n 54 0 (d_M_piece 31 53 (.aload_n 0) 1 rfl) rfl rfl rfl ?_
    refine Ak_ldc2 57 24948 (d_M_piece 32 54 (.ldc2_w 287) 3 rfl) rfl lkJ_M_287 (rkL rfl) ?_
    obtain ⟨r11, V12, h13, h⟩ := bnd_some h
    refine Ak_cV0 60 4 (c_M_must_J h13) rfl hO clX13 rfl mok_M_must_J lkM_M_386 (d_M_piece 33 57 (.invokevirtual 386) 3 rfl) rfl (by decide) (Nat.le_of_ble_eq_true rfl) ?_
    refine Ak_aload_n 61 0 (d_M_piece 34 60 (.aload_n 0) 1 rfl) rfl rfl rfl ?_
    refine Ak_getF 64 16 hO clX13 (by decide) rfl lkF_M_61 (d_M_piece 35 61 (.getfield 61) 3 rfl) rfl ?_
    refine Ak_iload_n 65 1 (d_M_piece 36 64 (.iload_n 1) 1 rfl) rfl rfl rfl ?_
    refine Ak_aload_n 66 0 (d_M_piece 37 65 (.aload_n 0) 1 rfl) rfl rfl rfl ?_
    refine Ak_iconst 67 (d_M_piece 38 66 (.iconst 0) 1 rfl) rfl (rk rfl) ?_
    refine Ak_aload_n 68 0 (d_M_piece 39 67 (.aload_n 0) 1 rfl) rfl rfl rfl ?_
    refine Ak_getF 71 13 hO clX13 (by decide) rfl lkF_M_51 (d_M_piece 40 68 (.getfield 51) 3 rfl) rfl ?_
    refine Ak_aload_n 72 0 (d_M_piece 41 71 (.aload_n 0) 1 rfl) rfl rfl rfl ?_
    refine Ak_getI 75 30 hO clX13 (by decide) (Or.inl rfl) lkF_M_104 (d_M_piece 42 72 (.getfield 104) 3 rfl) rfl ?_
    obtain ⟨ha14, h⟩ := gd_some h
    refine Ak_iaload 76 ha14 (d_M_piece 43 75 (.iaload) 1 rfl) rfl ?_
    refine Ak_iconst 77 (d_M_piece 44 76 (.iconst 1) 1 rfl) rfl (rk rfl) ?_
    refine Ak_isub 78 (d_M_piece 45 77 (.isub) 1 rfl) rfl ?_
    obtain ⟨r15, V16, h17, h⟩ := bnd_some h
    refine Ak_cV1 81 4 (c_M_number h17) rfl hO clX13 rfl mok_M_number lkM_M_371 (d_M_piece 46 78 (.invokevirtual 371) 3 rfl) rfl (by decide) (Nat.le_of_ble_eq_true rfl) ?_
    obtain ⟨ha18, h⟩ := gd_some h
    refine Ak_iastore 82 ha18 (d_M_piece 47 81 (.iastore) 1 rfl) rfl (fun V19 hV19 => ?_)
    replace h := wV_some h V19 hV19
    refine Ak_aload_n 83 0 (d_M_piece 48 82 (.aload_n 0) 1 rfl) rfl rfl rfl ?_
    refine Ak_ldc2 86 28518 (d_M_piece 49 83 (.ldc2_w 289) 3 rfl) rfl lkJ_M_289 (rkL rfl) ?_
    obtain ⟨r20, V21, h22, h⟩ := bnd_some h
    refine Ak_cV0 89 4 (c_M_must_J h22) rfl hO clX13 rfl mok_M_must_J lkM_M_386 (d_M_piece 50 86 (.invokevirtual 386) 3 rfl) rfl (by decide) (Nat.le_of_ble_eq_true rfl) ?_
    refine Ak_aload_n 90 0 (d_M_piece 51 89 (.aload_n 0) 1 rfl) rfl rfl rfl ?_
    refine Ak_getF 93 17 hO clX13 (by decide) rfl lkF_M_64 (d_M_piece 52 90 (.getfield 64) 3 rfl) rfl ?_
    refine Ak_iload_n 94 1 (d_M_piece 53 93 (.iload_n 1) 1 rfl) rfl rfl rfl ?_
    refine Ak_aload_n 95 0 (d_M_piece 54 94 (.aload_n 0) 1 rfl) rfl rfl rfl ?_
    refine Ak_iconst 96 (d_M_piece 55 95 (.iconst 0) 1 rfl) rfl (rk rfl) ?_
    refine Ak_iconst 97 (d_M_piece 56 96 (.iconst 2) 1 rfl) rfl (rk rfl) ?_
    obtain ⟨r23, V24, h25, h⟩ := bnd_some h
    refine Ak_cV1 100 4 (c_M_number h25) rfl hO clX13 rfl mok_M_number lkM_M_371 (d_M_piece 57 97 (.invokevirtual 371) 3 rfl) rfl (by decide) (Nat.le_of_ble_eq_true rfl) ?_
    obtain ⟨ha26, h⟩ := gd_some h
    refine Ak_iastore 101 ha26 (d_M_piece 58 100 (.iastore) 1 rfl) rfl (fun V27 hV27 => ?_)
    replace h := wV_some h V27 hV27
    refine Ak_aload_n 102 0 (d_M_piece 59 101 (.aload_n 0) 1 rfl) rfl rfl rfl ?_
    refine Ak_getI 105 8 hO clX13 (by decide) (Or.inl rfl) lkF_M_36 (d_M_piece 60 102 (.getfield 36) 3 rfl) rfl ?_
    refine Ak_if_ne 121 108 (d_M_piece 61 105 (.ifCond .ne 16) 3 rfl) rfl rfl (fun hc => ?_) (fun hc => ?_)
    · replace h := it_f hc h
      cases h
      exact Ak_vret rfl (d_M_piece 71 121 (.return_) 1 rfl)
    · replace h := it_t hc h
      refine Ak_aload_n 109 0 (d_M_piece 62 108 (.aload_n 0) 1 rfl) rfl rfl rfl ?_
      refine Ak_getF 112 14 hO clX13 (by decide) rfl lkF_M_54 (d_M_piece 63 109 (.getfield 54) 3 rfl) rfl ?_
      refine Ak_aload_n 113 0 (d_M_piece 64 112 (.aload_n 0) 1 rfl) rfl rfl rfl ?_
      refine Ak_getI 116 30 hO clX13 (by decide) (Or.inl rfl) lkF_M_104 (d_M_piece 65 113 (.getfield 104) 3 rfl) rfl ?_
      refine Ak_dup2 117 (d_M_piece 66 116 (.dup2) 1 rfl) rfl rfl rfl ?_
      obtain ⟨ha28, h⟩ := gd_some h
      refine Ak_iaload 118 ha28 (d_M_piece 67 117 (.iaload) 1 rfl) rfl ?_
      refine Ak_iconst 119 (d_M_piece 68 118 (.iconst 1) 1 rfl) rfl (rk rfl) ?_
      refine Ak_iadd 120 (d_M_piece 69 119 (.iadd) 1 rfl) rfl ?_
      refine Ak_iastore 121 ha28 (d_M_piece 70 120 (.iastore) 1 rfl) rfl (fun V29 hV29 => ?_)
      replace h := wV_some h V29 hV29
      cases h
      exact Ak_vret rfl (d_M_piece 71 121 (.return_) 1 rfl)
  · replace h := it_t hc h
    cases h
    exact Ak_vret rfl (d_M_piece 13 25 (.return_) 1 rfl)
theorem c_M_piece {S : ASh} {V : ASt} {x0 : Int} {r : Int} {V' : ASt} (h : f_M_piece S V x0 = some (r, V')) : ACt m_M_piece 5 0 0 [(aR x0)] S V none S V' := by
  unfold f_M_piece at h
  obtain ⟨hO, h⟩ := gd_some h
  refine ACt_of (plainFor_of_name rfl) rfl (Nat.le_of_ble_eq_true rfl) ?_
  show AWk m_M_piece 5 0 0 0 0 0 [some (aR x0)] [] S V none S V'
  refine Ak_aload_n 1 0 (d_M_piece 0 0 (.aload_n 0) 1 rfl) rfl rfl rfl ?_
  refine Ak_aload_n 2 0 (d_M_piece 1 1 (.aload_n 0) 1 rfl) rfl rfl rfl ?_
  refine Ak_getF 5 14 hO clX13 (by decide) rfl lkF_M_54 (d_M_piece 2 2 (.getfield 54) 3 rfl) rfl ?_
  refine Ak_aload_n 6 0 (d_M_piece 3 5 (.aload_n 0) 1 rfl) rfl rfl rfl ?_
  refine Ak_getI 9 30 hO clX13 (by decide) (Or.inl rfl) lkF_M_104 (d_M_piece 4 6 (.getfield 104) 3 rfl) rfl ?_
  obtain ⟨ha30, h⟩ := gd_some h
  refine Ak_iaload 10 ha30 (d_M_piece 5 9 (.iaload) 1 rfl) rfl ?_
  refine Ak_iconst 11 (d_M_piece 6 10 (.iconst 2) 1 rfl) rfl (rk rfl) ?_
  refine Ak_icmp_ne 18 14 (d_M_piece 7 11 (.if_icmp .ne 7) 3 rfl) rfl rfl (fun hc => ?_) (fun hc => ?_)
  · replace h := it_f hc h
    refine Ak_iconst 19 (d_M_piece 10 18 (.iconst 0) 1 rfl) rfl (rk rfl) ?_
    refine Ak_keep [true] ?_
    exact t_M_piece_J19 hO h
  · replace h := it_t hc h
    refine Ak_iconst 15 (d_M_piece 8 14 (.iconst 1) 1 rfl) rfl (rk rfl) ?_
    refine Ak_goto 19 (d_M_piece 9 15 (.goto 4) 3 rfl) rfl ?_
    refine Ak_keep [true] ?_
    exact t_M_piece_J19 hO h
theorem t_M_stucks_J67 {S : ASh} {V : ASt} {x0 x1 : Int} {r : Int} {V' : ASt} (hO : isO S x0 13 = true) (h : b_M_stucks_J67 S  V x0 x1 = some (r, V')) : AWk m_M_stucks 5 0 0 0 0 67 [some (aR x0), some (aI x1)] [] S V none S V' := by
  unfold b_M_stucks_J67 at h
  refine Ak_aload_n 68 0 (d_M_stucks 33 67 (.aload_n 0) 1 rfl) rfl rfl rfl ?_
  refine Ak_getI 71 8 hO clX13 (by decide) (Or.inl rfl) lkF_M_36 (d_M_stucks 34 68 (.getfield 36) 3 rfl) rfl ?_
  refine Ak_if_le 75 74 (d_M_stucks 35 71 (.ifCond .le 4) 3 rfl) rfl rfl (fun hc => ?_) (fun hc => ?_)
  · replace h := it_t hc h
    refine Ak_aload_n 76 0 (d_M_stucks 37 75 (.aload_n 0) 1 rfl) rfl rfl rfl ?_
    obtain ⟨r1, V2, h3, h⟩ := bnd_some h
    refine Ak_cV0 79 3 (c_M_ahead h3) rfl hO clX13 rfl mok_M_ahead lkM_M_280 (d_M_stucks 38 76 (.invokevirtual 280) 3 rfl) rfl (by decide) (Nat.le_of_ble_eq_true rfl) ?_
    refine Ak_aload_n 80 0 (d_M_stucks 39 79 (.aload_n 0) 1 rfl) rfl rfl rfl ?_
    refine Ak_getF 83 18 hO clX13 (by decide) rfl lkF_M_67 (d_M_stucks 40 80 (.getfield 67) 3 rfl) rfl ?_
    refine Ak_aload_n 84 0 (d_M_stucks 41 83 (.aload_n 0) 1 rfl) rfl rfl rfl ?_
    refine Ak_getI 87 30 hO clX13 (by decide) (Or.inl rfl) lkF_M_104 (d_M_stucks 42 84 (.getfield 104) 3 rfl) rfl ?_
    refine Ak_iload_n 88 1 (d_M_stucks 43 87 (.iload_n 1) 1 rfl) rfl rfl rfl ?_
    obtain ⟨ha4, h⟩ := gd_some h
    refine Ak_iastore 89 ha4 (d_M_stucks 44 88 (.iastore) 1 rfl) rfl (fun V5 hV5 => ?_)
    replace h := wV_some h V5 hV5
    cases h
    exact Ak_vret rfl (d_M_stucks 45 89 (.return_) 1 rfl)
  · replace h := it_f hc h
    cases h
    exact Ak_vret rfl (d_M_stucks 36 74 (.return_) 1 rfl)
theorem t_M_stucks_J52 {S : ASh} {V : ASt} {x0 s0 : Int} {r : Int} {V' : ASt} (hO : isO S x0 13 = true) (h : b_M_stucks_J52 S  V x0 s0 = some (r, V')) : AWk m_M_stucks 5 0 0 0 0 52 [some (aR x0)] [(aI s0)] S V none S V' := by
  unfold b_M_stucks_J52 at h
  refine Ak_istore_n 53 1 (d_M_stucks 24 52 (.istore_n 1) 1 rfl) rfl rfl (by decide) ?_
  refine Ak_iload_n 54 1 (d_M_stucks 25 53 (.iload_n 1) 1 rfl) rfl rfl rfl ?_
  refine Ak_iconst 55 (d_M_stucks 26 54 (.iconst (-1)) 1 rfl) rfl (rk rfl) ?_
  refine Ak_icmp_ne 67 58 (d_M_stucks 27 55 (.if_icmp .ne 12) 3 rfl) rfl rfl (fun hc => ?_) (fun hc => ?_)
  · replace h := it_f hc h
    refine Ak_keep [true, true] ?_
    exact t_M_stucks_J67 hO h
  · replace h := it_t hc h
    refine Ak_aload_n 59 0 (d_M_stucks 28 58 (.aload_n 0) 1 rfl) rfl rfl rfl ?_
    refine Ak_iconst 60 (d_M_stucks 29 59 (.iconst 1) 1 rfl) rfl (rk rfl) ?_
    refine Ak_aload_n 61 0 (d_M_stucks 30 60 (.aload_n 0) 1 rfl) rfl rfl rfl ?_
    refine Ak_getI 64 4 hO clX13 (by decide) (Or.inl rfl) lkF_M_23 (d_M_stucks 31 61 (.getfield 23) 3 rfl) rfl ?_
    obtain ⟨r6, V7, h8, h⟩ := bnd_some h
    refine Ak_cV0 67 2 (c_M_blame h8) rfl hO clX13 rfl mok_M_blame lkM_M_273 (d_M_stucks 32 64 (.invokevirtual 273) 3 rfl) rfl (by decide) (Nat.le_of_ble_eq_true rfl) ?_
    refine Ak_keep [true, true] ?_
    exact t_M_stucks_J67 hO h
theorem c_M_stucks {S : ASh} {V : ASt} {x0 : Int} {r : Int} {V' : ASt} (h : f_M_stucks S V x0 = some (r, V')) : ACt m_M_stucks 5 0 0 [(aR x0)] S V none S V' := by
  unfold f_M_stucks at h
  obtain ⟨hO, h⟩ := gd_some h
  refine ACt_of (plainFor_of_name rfl) rfl (Nat.le_of_ble_eq_true rfl) ?_
  show AWk m_M_stucks 5 0 0 0 0 0 [some (aR x0)] [] S V none S V'
  refine Ak_aload_n 1 0 (d_M_stucks 0 0 (.aload_n 0) 1 rfl) rfl rfl rfl ?_
  refine Ak_iconst 2 (d_M_stucks 1 1 (.iconst 0) 1 rfl) rfl (rk rfl) ?_
  obtain ⟨r9, V10, h11, h⟩ := bnd_some h
  refine Ak_cV1 5 4 (c_M_counts h11) rfl hO clX13 rfl mok_M_counts lkM_M_378 (d_M_stucks 2 2 (.invokevirtual 378) 3 rfl) rfl (by decide) (Nat.le_of_ble_eq_true rfl) ?_
  refine Ak_if_ne 9 8 (d_M_stucks 3 5 (.ifCond .ne 4) 3 rfl) rfl rfl (fun hc => ?_) (fun hc => ?_)
  · replace h := it_f hc h
    refine Ak_aload_n 10 0 (d_M_stucks 5 9 (.aload_n 0) 1 rfl) rfl rfl rfl ?_
    refine Ak_ldc2 13 465726301555 (d_M_stucks 6 10 (.ldc2_w 295) 3 rfl) rfl lkJ_M_295 (rkL rfl) ?_
    obtain ⟨r12, V13, h14, h⟩ := bnd_some h
    refine Ak_cV1 16 2 (c_M_isWord h14) rfl hO clX13 rfl mok_M_isWord lkM_M_345 (d_M_stucks 7 13 (.invokevirtual 345) 3 rfl) rfl (by decide) (Nat.le_of_ble_eq_true rfl) ?_
    refine Ak_if_eq 23 19 (d_M_stucks 8 16 (.ifCond .eq 7) 3 rfl) rfl rfl (fun hc => ?_) (fun hc => ?_)
    · replace h := it_t hc h
      refine Ak_aload_n 24 0 (d_M_stucks 11 23 (.aload_n 0) 1 rfl) rfl rfl rfl ?_
      refine Ak_ldc2 27 431415719795 (d_M_stucks 12 24 (.ldc2_w 297) 3 rfl) rfl lkJ_M_297 (rkL rfl) ?_
      obtain ⟨r15, V16, h17, h⟩ := bnd_some h
      refine Ak_cV1 30 2 (c_M_isWord h17) rfl hO clX13 rfl mok_M_isWord lkM_M_345 (d_M_stucks 13 27 (.invokevirtual 345) 3 rfl) rfl (by decide) (Nat.le_of_ble_eq_true rfl) ?_
      refine Ak_if_eq 37 33 (d_M_stucks 14 30 (.ifCond .eq 7) 3 rfl) rfl rfl (fun hc => ?_) (fun hc => ?_)
      · replace h := it_t hc h
        refine Ak_aload_n 38 0 (d_M_stucks 17 37 (.aload_n 0) 1 rfl) rfl rfl rfl ?_
        refine Ak_ldc2 41 2003398259 (d_M_stucks 18 38 (.ldc2_w 299) 3 rfl) rfl lkJ_M_299 (rkL rfl) ?_
        obtain ⟨r18, V19, h20, h⟩ := bnd_some h
        refine Ak_cV1 44 2 (c_M_isWord h20) rfl hO clX13 rfl mok_M_isWord lkM_M_345 (d_M_stucks 19 41 (.invokevirtual 345) 3 rfl) rfl (by decide) (Nat.le_of_ble_eq_true rfl) ?_
        refine Ak_if_eq 51 47 (d_M_stucks 20 44 (.ifCond .eq 7) 3 rfl) rfl rfl (fun hc => ?_) (fun hc => ?_)
        · replace h := it_t hc h
          refine Ak_iconst 52 (d_M_stucks 23 51 (.iconst (-1)) 1 rfl) rfl (rk rfl) ?_
          refine Ak_keep [true] ?_
          exact t_M_stucks_J52 hO h
        · replace h := it_f hc h
          refine Ak_iconst 48 (d_M_stucks 21 47 (.iconst 2) 1 rfl) rfl (rk rfl) ?_
          refine Ak_goto 52 (d_M_stucks 22 48 (.goto 4) 3 rfl) rfl ?_
          refine Ak_keep [true] ?_
          exact t_M_stucks_J52 hO h
      · replace h := it_f hc h
        refine Ak_iconst 34 (d_M_stucks 15 33 (.iconst 1) 1 rfl) rfl (rk rfl) ?_
        refine Ak_goto 52 (d_M_stucks 16 34 (.goto 18) 3 rfl) rfl ?_
        refine Ak_keep [true] ?_
        exact t_M_stucks_J52 hO h
    · replace h := it_f hc h
      refine Ak_iconst 20 (d_M_stucks 9 19 (.iconst 0) 1 rfl) rfl (rk rfl) ?_
      refine Ak_goto 52 (d_M_stucks 10 20 (.goto 32) 3 rfl) rfl ?_
      refine Ak_keep [true] ?_
      exact t_M_stucks_J52 hO h
  · replace h := it_t hc h
    cases h
    exact Ak_vret rfl (d_M_stucks 4 8 (.return_) 1 rfl)
theorem c_M_kindHere {S : ASh} {V : ASt} {x0 : Int} {r : Int} {V' : ASt} (h : f_M_kindHere S V x0 = some (r, V')) : ACt m_M_kindHere 3 0 0 [(aR x0)] S V (some (aI r)) S V' := by
  unfold f_M_kindHere at h
  obtain ⟨hO, h⟩ := gd_some h
  refine ACt_of (plainFor_of_name rfl) rfl (Nat.le_of_ble_eq_true rfl) ?_
  show AWk m_M_kindHere 3 0 0 0 0 0 [some (aR x0)] [] S V (some (aI r)) S V'
  refine Ak_aload_n 1 0 (d_M_kindHere 0 0 (.aload_n 0) 1 rfl) rfl rfl rfl ?_
  refine Ak_ldc2 4 7168377 (d_M_kindHere 1 1 (.ldc2_w 301) 3 rfl) rfl lkJ_M_301 (rkL rfl) ?_
  obtain ⟨r1, V2, h3, h⟩ := bnd_some h
  refine Ak_cV1 7 2 (c_M_isWord h3) rfl hO clX13 rfl mok_M_isWord lkM_M_345 (d_M_kindHere 2 4 (.invokevirtual 345) 3 rfl) rfl (by decide) (Nat.le_of_ble_eq_true rfl) ?_
  refine Ak_if_eq 14 10 (d_M_kindHere 3 7 (.ifCond .eq 7) 3 rfl) rfl rfl (fun hc => ?_) (fun hc => ?_)
  · replace h := it_t hc h
    refine Ak_aload_n 15 0 (d_M_kindHere 6 14 (.aload_n 0) 1 rfl) rfl rfl rfl ?_
    refine Ak_ldc2 18 7237492 (d_M_kindHere 7 15 (.ldc2_w 303) 3 rfl) rfl lkJ_M_303 (rkL rfl) ?_
    obtain ⟨r4, V5, h6, h⟩ := bnd_some h
    refine Ak_cV1 21 2 (c_M_isWord h6) rfl hO clX13 rfl mok_M_isWord lkM_M_345 (d_M_kindHere 8 18 (.invokevirtual 345) 3 rfl) rfl (by decide) (Nat.le_of_ble_eq_true rfl) ?_
    refine Ak_if_eq 28 24 (d_M_kindHere 9 21 (.ifCond .eq 7) 3 rfl) rfl rfl (fun hc => ?_) (fun hc => ?_)
    · replace h := it_t hc h
      refine Ak_aload_n 29 0 (d_M_kindHere 12 28 (.aload_n 0) 1 rfl) rfl rfl rfl ?_
      refine Ak_ldc2 32 2003398259 (d_M_kindHere 13 29 (.ldc2_w 299) 3 rfl) rfl lkJ_M_299 (rkL rfl) ?_
      obtain ⟨r7, V8, h9, h⟩ := bnd_some h
      refine Ak_cV1 35 2 (c_M_isWord h9) rfl hO clX13 rfl mok_M_isWord lkM_M_345 (d_M_kindHere 14 32 (.invokevirtual 345) 3 rfl) rfl (by decide) (Nat.le_of_ble_eq_true rfl) ?_
      refine Ak_if_eq 42 38 (d_M_kindHere 15 35 (.ifCond .eq 7) 3 rfl) rfl rfl (fun hc => ?_) (fun hc => ?_)
      · replace h := it_t hc h
        refine Ak_aload_n 43 0 (d_M_kindHere 18 42 (.aload_n 0) 1 rfl) rfl rfl rfl ?_
        refine Ak_ldc2 46 465726301555 (d_M_kindHere 19 43 (.ldc2_w 295) 3 rfl) rfl lkJ_M_295 (rkL rfl) ?_
        obtain ⟨r10, V11, h12, h⟩ := bnd_some h
        refine Ak_cV1 49 2 (c_M_isWord h12) rfl hO clX13 rfl mok_M_isWord lkM_M_345 (d_M_kindHere 20 46 (.invokevirtual 345) 3 rfl) rfl (by decide) (Nat.le_of_ble_eq_true rfl) ?_
        refine Ak_if_eq 56 52 (d_M_kindHere 21 49 (.ifCond .eq 7) 3 rfl) rfl rfl (fun hc => ?_) (fun hc => ?_)
        · replace h := it_t hc h
          refine Ak_iconst 57 (d_M_kindHere 24 56 (.iconst (-1)) 1 rfl) rfl (rk rfl) ?_
          cases h
          exact Ak_iret rfl (d_M_kindHere 25 57 (.ireturn) 1 rfl)
        · replace h := it_f hc h
          refine Ak_iconst 53 (d_M_kindHere 22 52 (.iconst 3) 1 rfl) rfl (rk rfl) ?_
          refine Ak_goto 57 (d_M_kindHere 23 53 (.goto 4) 3 rfl) rfl ?_
          cases h
          exact Ak_iret rfl (d_M_kindHere 25 57 (.ireturn) 1 rfl)
      · replace h := it_f hc h
        refine Ak_iconst 39 (d_M_kindHere 16 38 (.iconst 2) 1 rfl) rfl (rk rfl) ?_
        refine Ak_goto 57 (d_M_kindHere 17 39 (.goto 18) 3 rfl) rfl ?_
        cases h
        exact Ak_iret rfl (d_M_kindHere 25 57 (.ireturn) 1 rfl)
    · replace h := it_f hc h
      refine Ak_iconst 25 (d_M_kindHere 10 24 (.iconst 1) 1 rfl) rfl (rk rfl) ?_
      refine Ak_goto 57 (d_M_kindHere 11 25 (.goto 32) 3 rfl) rfl ?_
      cases h
      exact Ak_iret rfl (d_M_kindHere 25 57 (.ireturn) 1 rfl)
  · replace h := it_f hc h
    refine Ak_iconst 11 (d_M_kindHere 4 10 (.iconst 0) 1 rfl) rfl (rk rfl) ?_
    refine Ak_goto 57 (d_M_kindHere 5 11 (.goto 46) 3 rfl) rfl ?_
    cases h
    exact Ak_iret rfl (d_M_kindHere 25 57 (.ireturn) 1 rfl)
theorem t_M_moves_J86 {S : ASh} {V : ASt} {x0 x1 : Int} {r : Int} {V' : ASt} (hO : isO S x0 13 = true) (h : b_M_moves_J86 S  V x0 x1 = some (r, V')) : AWk m_M_moves 5 0 0 0 0 86 [some (aR x0), some (aI x1)] [] S V none S V' := by
  unfold b_M_moves_J86 at h
  refine Ak_aload_n 87 0 (d_M_moves 44 86 (.aload_n 0) 1 rfl) rfl rfl rfl ?_
  refine Ak_getI 90 8 hO clX13 (by decide) (Or.inl rfl) lkF_M_36 (d_M_moves 45 87 (.getfield 36) 3 rfl) rfl ?_
  refine Ak_if_le 94 93 (d_M_moves 46 90 (.ifCond .le 4) 3 rfl) rfl rfl (fun hc => ?_) (fun hc => ?_)
  · replace h := it_t hc h
    refine Ak_aload_n 95 0 (d_M_moves 48 94 (.aload_n 0) 1 rfl) rfl rfl rfl ?_
    obtain ⟨r1, V2, h3, h⟩ := bnd_some h
    refine Ak_cV0 98 3 (c_M_ahead h3) rfl hO clX13 rfl mok_M_ahead lkM_M_280 (d_M_moves 49 95 (.invokevirtual 280) 3 rfl) rfl (by decide) (Nat.le_of_ble_eq_true rfl) ?_
    refine Ak_aload_n 99 0 (d_M_moves 50 98 (.aload_n 0) 1 rfl) rfl rfl rfl ?_
    refine Ak_getF 102 22 hO clX13 (by decide) rfl lkF_M_79 (d_M_moves 51 99 (.getfield 79) 3 rfl) rfl ?_
    refine Ak_iload_n 103 1 (d_M_moves 52 102 (.iload_n 1) 1 rfl) rfl rfl rfl ?_
    obtain ⟨ha4, h⟩ := gd_some h
    refine Ak_iaload 104 ha4 (d_M_moves 53 103 (.iaload) 1 rfl) rfl ?_
    refine Ak_iconst 105 (d_M_moves 54 104 (.iconst 2) 1 rfl) rfl (rk rfl) ?_
    refine Ak_icmp_eq 120 108 (d_M_moves 55 105 (.if_icmp .eq 15) 3 rfl) rfl rfl (fun hc => ?_) (fun hc => ?_)
    · replace h := it_t hc h
      cases h
      exact Ak_vret rfl (d_M_moves 64 120 (.return_) 1 rfl)
    · replace h := it_f hc h
      refine Ak_aload_n 109 0 (d_M_moves 56 108 (.aload_n 0) 1 rfl) rfl rfl rfl ?_
      refine Ak_getF 112 23 hO clX13 (by decide) rfl lkF_M_82 (d_M_moves 57 109 (.getfield 82) 3 rfl) rfl ?_
      refine Ak_iload_n 113 1 (d_M_moves 58 112 (.iload_n 1) 1 rfl) rfl rfl rfl ?_
      refine Ak_aload_n 114 0 (d_M_moves 59 113 (.aload_n 0) 1 rfl) rfl rfl rfl ?_
      refine Ak_iconst 115 (d_M_moves 60 114 (.iconst 1) 1 rfl) rfl (rk rfl) ?_
      refine Ak_iconst 116 (d_M_moves 61 115 (.iconst 3) 1 rfl) rfl (rk rfl) ?_
      obtain ⟨r5, V6, h7, h⟩ := bnd_some h
      refine Ak_cV1 119 4 (c_M_number h7) rfl hO clX13 rfl mok_M_number lkM_M_371 (d_M_moves 62 116 (.invokevirtual 371) 3 rfl) rfl (by decide) (Nat.le_of_ble_eq_true rfl) ?_
      obtain ⟨ha8, h⟩ := gd_some h
      refine Ak_iastore 120 ha8 (d_M_moves 63 119 (.iastore) 1 rfl) rfl (fun V9 hV9 => ?_)
      replace h := wV_some h V9 hV9
      cases h
      exact Ak_vret rfl (d_M_moves 64 120 (.return_) 1 rfl)
  · replace h := it_f hc h
    cases h
    exact Ak_vret rfl (d_M_moves 47 93 (.return_) 1 rfl)
theorem t_M_moves_J66 {S : ASh} {V : ASt} {x0 x1 s0 s1 s2 : Int} {r : Int} {V' : ASt} (hO : isO S x0 13 = true) (h : b_M_moves_J66 S  V x0 x1 s0 s1 s2 = some (r, V')) : AWk m_M_moves 5 0 0 0 0 66 [some (aR x0), some (aI x1)] [(aI s2), (aI s1), (aR s0)] S V none S V' := by
  unfold b_M_moves_J66 at h
  obtain ⟨ha10, h⟩ := gd_some h
  refine Ak_iastore 67 ha10 (d_M_moves 32 66 (.iastore) 1 rfl) rfl (fun V11 hV11 => ?_)
  replace h := wV_some h V11 hV11
  refine Ak_aload_n 68 0 (d_M_moves 33 67 (.aload_n 0) 1 rfl) rfl rfl rfl ?_
  refine Ak_getF 71 22 hO clX13 (by decide) rfl lkF_M_79 (d_M_moves 34 68 (.getfield 79) 3 rfl) rfl ?_
  refine Ak_iload_n 72 1 (d_M_moves 35 71 (.iload_n 1) 1 rfl) rfl rfl rfl ?_
  obtain ⟨ha12, h⟩ := gd_some h
  refine Ak_iaload 73 ha12 (d_M_moves 36 72 (.iaload) 1 rfl) rfl ?_
  refine Ak_iconst 74 (d_M_moves 37 73 (.iconst (-1)) 1 rfl) rfl (rk rfl) ?_
  refine Ak_icmp_ne 86 77 (d_M_moves 38 74 (.if_icmp .ne 12) 3 rfl) rfl rfl (fun hc => ?_) (fun hc => ?_)
  · replace h := it_f hc h
    refine Ak_keep [true, true] ?_
    exact t_M_moves_J86 hO h
  · replace h := it_t hc h
    refine Ak_aload_n 78 0 (d_M_moves 39 77 (.aload_n 0) 1 rfl) rfl rfl rfl ?_
    refine Ak_iconst 79 (d_M_moves 40 78 (.iconst 1) 1 rfl) rfl (rk rfl) ?_
    refine Ak_aload_n 80 0 (d_M_moves 41 79 (.aload_n 0) 1 rfl) rfl rfl rfl ?_
    refine Ak_getI 83 4 hO clX13 (by decide) (Or.inl rfl) lkF_M_23 (d_M_moves 42 80 (.getfield 23) 3 rfl) rfl ?_
    obtain ⟨r13, V14, h15, h⟩ := bnd_some h
    refine Ak_cV0 86 2 (c_M_blame h15) rfl hO clX13 rfl mok_M_blame lkM_M_273 (d_M_moves 43 83 (.invokevirtual 273) 3 rfl) rfl (by decide) (Nat.le_of_ble_eq_true rfl) ?_
    refine Ak_keep [true, true] ?_
    exact t_M_moves_J86 hO h
theorem c_M_moves {S : ASh} {V : ASt} {x0 x1 : Int} {r : Int} {V' : ASt} (h : f_M_moves S V x0 x1 = some (r, V')) : ACt m_M_moves 5 0 0 [(aR x0), (aI x1)] S V none S V' := by
  unfold f_M_moves at h
  obtain ⟨hO, h⟩ := gd_some h
  refine ACt_of (plainFor_of_name rfl) rfl (Nat.le_of_ble_eq_true rfl) ?_
  show AWk m_M_moves 5 0 0 0 0 0 [some (aR x0), some (aI x1)] [] S V none S V'
  refine Ak_aload_n 1 0 (d_M_moves 0 0 (.aload_n 0) 1 rfl) rfl rfl rfl ?_
  refine Ak_getF 4 21 hO clX13 (by decide) rfl lkF_M_76 (d_M_moves 1 1 (.getfield 76) 3 rfl) rfl ?_
  refine Ak_iload_n 5 1 (d_M_moves 2 4 (.iload_n 1) 1 rfl) rfl rfl rfl ?_
  refine Ak_aload_n 6 0 (d_M_moves 3 5 (.aload_n 0) 1 rfl) rfl rfl rfl ?_
  obtain ⟨r16, V17, h18, h⟩ := bnd_some h
  refine Ak_cV1 9 4 (c_M_asked h18) rfl hO clX13 rfl mok_M_asked lkM_M_400 (d_M_moves 4 6 (.invokevirtual 400) 3 rfl) rfl (by decide) (Nat.le_of_ble_eq_true rfl) ?_
  obtain ⟨ha19, h⟩ := gd_some h
  refine Ak_iastore 10 ha19 (d_M_moves 5 9 (.iastore) 1 rfl) rfl (fun V20 hV20 => ?_)
  replace h := wV_some h V20 hV20
  refine Ak_aload_n 11 0 (d_M_moves 6 10 (.aload_n 0) 1 rfl) rfl rfl rfl ?_
  refine Ak_getI 14 8 hO clX13 (by decide) (Or.inl rfl) lkF_M_36 (d_M_moves 7 11 (.getfield 36) 3 rfl) rfl ?_
  refine Ak_if_le 18 17 (d_M_moves 8 14 (.ifCond .le 4) 3 rfl) rfl rfl (fun hc => ?_) (fun hc => ?_)
  · replace h := it_t hc h
    refine Ak_aload_n 19 0 (d_M_moves 10 18 (.aload_n 0) 1 rfl) rfl rfl rfl ?_
    refine Ak_getF 22 22 hO clX13 (by decide) rfl lkF_M_79 (d_M_moves 11 19 (.getfield 79) 3 rfl) rfl ?_
    refine Ak_iload_n 23 1 (d_M_moves 12 22 (.iload_n 1) 1 rfl) rfl rfl rfl ?_
    refine Ak_aload_n 24 0 (d_M_moves 13 23 (.aload_n 0) 1 rfl) rfl rfl rfl ?_
    refine Ak_ldc2 27 30064 (d_M_moves 14 24 (.ldc2_w 305) 3 rfl) rfl lkJ_M_305 (rkL rfl) ?_
    obtain ⟨r21, V22, h23, h⟩ := bnd_some h
    refine Ak_cV1 30 2 (c_M_isWord h23) rfl hO clX13 rfl mok_M_isWord lkM_M_345 (d_M_moves 15 27 (.invokevirtual 345) 3 rfl) rfl (by decide) (Nat.le_of_ble_eq_true rfl) ?_
    refine Ak_if_eq 37 33 (d_M_moves 16 30 (.ifCond .eq 7) 3 rfl) rfl rfl (fun hc => ?_) (fun hc => ?_)
    · replace h := it_t hc h
      refine Ak_aload_n 38 0 (d_M_moves 19 37 (.aload_n 0) 1 rfl) rfl rfl rfl ?_
      refine Ak_ldc2 41 1685026670 (d_M_moves 20 38 (.ldc2_w 307) 3 rfl) rfl lkJ_M_307 (rkL rfl) ?_
      obtain ⟨r24, V25, h26, h⟩ := bnd_some h
      refine Ak_cV1 44 2 (c_M_isWord h26) rfl hO clX13 rfl mok_M_isWord lkM_M_345 (d_M_moves 21 41 (.invokevirtual 345) 3 rfl) rfl (by decide) (Nat.le_of_ble_eq_true rfl) ?_
      refine Ak_if_eq 51 47 (d_M_moves 22 44 (.ifCond .eq 7) 3 rfl) rfl rfl (fun hc => ?_) (fun hc => ?_)
      · replace h := it_t hc h
        refine Ak_aload_n 52 0 (d_M_moves 25 51 (.aload_n 0) 1 rfl) rfl rfl rfl ?_
        refine Ak_ldc2 55 7300710 (d_M_moves 26 52 (.ldc2_w 309) 3 rfl) rfl lkJ_M_309 (rkL rfl) ?_
        obtain ⟨r27, V28, h29, h⟩ := bnd_some h
        refine Ak_cV1 58 2 (c_M_isWord h29) rfl hO clX13 rfl mok_M_isWord lkM_M_345 (d_M_moves 27 55 (.invokevirtual 345) 3 rfl) rfl (by decide) (Nat.le_of_ble_eq_true rfl) ?_
        refine Ak_if_eq 65 61 (d_M_moves 28 58 (.ifCond .eq 7) 3 rfl) rfl rfl (fun hc => ?_) (fun hc => ?_)
        · replace h := it_t hc h
          refine Ak_iconst 66 (d_M_moves 31 65 (.iconst (-1)) 1 rfl) rfl (rk rfl) ?_
          refine Ak_keep [true, true] ?_
          exact t_M_moves_J66 hO h
        · replace h := it_f hc h
          refine Ak_iconst 62 (d_M_moves 29 61 (.iconst 2) 1 rfl) rfl (rk rfl) ?_
          refine Ak_goto 66 (d_M_moves 30 62 (.goto 4) 3 rfl) rfl ?_
          refine Ak_keep [true, true] ?_
          exact t_M_moves_J66 hO h
      · replace h := it_f hc h
        refine Ak_iconst 48 (d_M_moves 23 47 (.iconst 1) 1 rfl) rfl (rk rfl) ?_
        refine Ak_goto 66 (d_M_moves 24 48 (.goto 18) 3 rfl) rfl ?_
        refine Ak_keep [true, true] ?_
        exact t_M_moves_J66 hO h
    · replace h := it_f hc h
      refine Ak_iconst 34 (d_M_moves 17 33 (.iconst 0) 1 rfl) rfl (rk rfl) ?_
      refine Ak_goto 66 (d_M_moves 18 34 (.goto 32) 3 rfl) rfl ?_
      refine Ak_keep [true, true] ?_
      exact t_M_moves_J66 hO h
  · replace h := it_f hc h
    cases h
    exact Ak_vret rfl (d_M_moves 9 17 (.return_) 1 rfl)
theorem t_M_rule_0_J186 {S : ASh} {V : ASt} {x0 x1 : Int} {r : Int} {V' : ASt} (hO : isO S x0 13 = true) (h : b_M_rule_0_J186 S  V x0 x1 = some (r, V')) : AWk m_M_rule_0 7 0 0 0 0 186 [some (aR x0), some (aI x1)] [] S V none S V' := by
  unfold b_M_rule_0_J186 at h
  refine Ak_aload_n 187 0 (d_M_rule_0 104 186 (.aload_n 0) 1 rfl) rfl rfl rfl ?_
  refine Ak_getF 190 26 hO clX13 (by decide) rfl lkF_M_92 (d_M_rule_0 105 187 (.getfield 92) 3 rfl) rfl ?_
  refine Ak_iload_n 191 1 (d_M_rule_0 106 190 (.iload_n 1) 1 rfl) rfl rfl rfl ?_
  refine Ak_aload_n 192 0 (d_M_rule_0 107 191 (.aload_n 0) 1 rfl) rfl rfl rfl ?_
  refine Ak_getI 195 29 hO clX13 (by decide) (Or.inl rfl) lkF_M_101 (d_M_rule_0 108 192 (.getfield 101) 3 rfl) rfl ?_
  obtain ⟨ha1, h⟩ := gd_some h
  refine Ak_iastore 196 ha1 (d_M_rule_0 109 195 (.iastore) 1 rfl) rfl (fun V2 hV2 => ?_)
  replace h := wV_some h V2 hV2
  refine Ak_aload_n 197 0 (d_M_rule_0 110 196 (.aload_n 0) 1 rfl) rfl rfl rfl ?_
  refine Ak_getI 200 8 hO clX13 (by decide) (Or.inl rfl) lkF_M_36 (d_M_rule_0 111 197 (.getfield 36) 3 rfl) rfl ?_
  refine Ak_if_ne 216 203 (d_M_rule_0 112 200 (.ifCond .ne 16) 3 rfl) rfl rfl (fun hc => ?_) (fun hc => ?_)
  · replace h := it_f hc h
    cases h
    exact Ak_vret rfl (d_M_rule_0 122 216 (.return_) 1 rfl)
  · replace h := it_t hc h
    refine Ak_aload_n 204 0 (d_M_rule_0 113 203 (.aload_n 0) 1 rfl) rfl rfl rfl ?_
    refine Ak_getF 207 19 hO clX13 (by decide) rfl lkF_M_70 (d_M_rule_0 114 204 (.getfield 70) 3 rfl) rfl ?_
    refine Ak_aload_n 208 0 (d_M_rule_0 115 207 (.aload_n 0) 1 rfl) rfl rfl rfl ?_
    refine Ak_getI 211 30 hO clX13 (by decide) (Or.inl rfl) lkF_M_104 (d_M_rule_0 116 208 (.getfield 104) 3 rfl) rfl ?_
    refine Ak_dup2 212 (d_M_rule_0 117 211 (.dup2) 1 rfl) rfl rfl rfl ?_
    obtain ⟨ha3, h⟩ := gd_some h
    refine Ak_iaload 213 ha3 (d_M_rule_0 118 212 (.iaload) 1 rfl) rfl ?_
    refine Ak_iconst 214 (d_M_rule_0 119 213 (.iconst 1) 1 rfl) rfl (rk rfl) ?_
    refine Ak_iadd 215 (d_M_rule_0 120 214 (.iadd) 1 rfl) rfl ?_
    refine Ak_iastore 216 ha3 (d_M_rule_0 121 215 (.iastore) 1 rfl) rfl (fun V4 hV4 => ?_)
    replace h := wV_some h V4 hV4
    cases h
    exact Ak_vret rfl (d_M_rule_0 122 216 (.return_) 1 rfl)
theorem t_M_rule_0_J157 {S : ASh} {V : ASt} {x0 x1 : Int} {r : Int} {V' : ASt} (hO : isO S x0 13 = true) (h : b_M_rule_0_J157 S  V x0 x1 = some (r, V')) : AWk m_M_rule_0 7 0 0 0 0 157 [some (aR x0), some (aI x1)] [] S V none S V' := by
  unfold b_M_rule_0_J157 at h
  refine Ak_aload_n 158 0 (d_M_rule_0 89 157 (.aload_n 0) 1 rfl) rfl rfl rfl ?_
  refine Ak_ldc2 161 2003330414 (d_M_rule_0 90 158 (.ldc2_w 311) 3 rfl) rfl lkJ_M_311 (rkL rfl) ?_
  obtain ⟨r5, V6, h7, h⟩ := bnd_some h
  refine Ak_cV0 164 4 (c_M_must_J h7) rfl hO clX13 rfl mok_M_must_J lkM_M_386 (d_M_rule_0 91 161 (.invokevirtual 386) 3 rfl) rfl (by decide) (Nat.le_of_ble_eq_true rfl) ?_
  refine Ak_aload_n 165 0 (d_M_rule_0 92 164 (.aload_n 0) 1 rfl) rfl rfl rfl ?_
  refine Ak_getF 168 25 hO clX13 (by decide) rfl lkF_M_89 (d_M_rule_0 93 165 (.getfield 89) 3 rfl) rfl ?_
  refine Ak_iload_n 169 1 (d_M_rule_0 94 168 (.iload_n 1) 1 rfl) rfl rfl rfl ?_
  refine Ak_aload_n 170 0 (d_M_rule_0 95 169 (.aload_n 0) 1 rfl) rfl rfl rfl ?_
  refine Ak_getI 173 29 hO clX13 (by decide) (Or.inl rfl) lkF_M_101 (d_M_rule_0 96 170 (.getfield 101) 3 rfl) rfl ?_
  obtain ⟨ha8, h⟩ := gd_some h
  refine Ak_iastore 174 ha8 (d_M_rule_0 97 173 (.iastore) 1 rfl) rfl (fun V9 hV9 => ?_)
  replace h := wV_some h V9 hV9
  refine Ak_aload_n 175 0 (d_M_rule_0 98 174 (.aload_n 0) 1 rfl) rfl rfl rfl ?_
  refine Ak_getI 178 8 hO clX13 (by decide) (Or.inl rfl) lkF_M_36 (d_M_rule_0 99 175 (.getfield 36) 3 rfl) rfl ?_
  refine Ak_if_ne 186 181 (d_M_rule_0 100 178 (.ifCond .ne 8) 3 rfl) rfl rfl (fun hc => ?_) (fun hc => ?_)
  · replace h := it_f hc h
    refine Ak_keep [true, true] ?_
    exact t_M_rule_0_J186 hO h
  · replace h := it_t hc h
    refine Ak_aload_n 182 0 (d_M_rule_0 101 181 (.aload_n 0) 1 rfl) rfl rfl rfl ?_
    refine Ak_iconst 183 (d_M_rule_0 102 182 (.iconst 1) 1 rfl) rfl (rk rfl) ?_
    obtain ⟨r10, V11, h12, h⟩ := bnd_some h
    refine Ak_cV0 186 6 (c_M_reads h12) rfl hO clX13 rfl mok_M_reads lkM_M_396 (d_M_rule_0 103 183 (.invokevirtual 396) 3 rfl) rfl (by decide) (Nat.le_of_ble_eq_true rfl) ?_
    refine Ak_keep [true, true] ?_
    exact t_M_rule_0_J186 hO h
theorem t_M_rule_0_J99 {S : ASh} {V : ASt} {x0 x1 : Int} {r : Int} {V' : ASt} (hO : isO S x0 13 = true) (h : b_M_rule_0_J99 S  V x0 x1 = some (r, V')) : AWk m_M_rule_0 7 0 0 0 0 99 [some (aR x0), some (aI x1)] [] S V none S V' := by
  unfold b_M_rule_0_J99 at h
  refine Ak_aload_n 100 0 (d_M_rule_0 53 99 (.aload_n 0) 1 rfl) rfl rfl rfl ?_
  refine Ak_getI 103 8 hO clX13 (by decide) (Or.inl rfl) lkF_M_36 (d_M_rule_0 54 100 (.getfield 36) 3 rfl) rfl ?_
  refine Ak_if_le 107 106 (d_M_rule_0 55 103 (.ifCond .le 4) 3 rfl) rfl rfl (fun hc => ?_) (fun hc => ?_)
  · replace h := it_t hc h
    refine Ak_aload_n 108 0 (d_M_rule_0 57 107 (.aload_n 0) 1 rfl) rfl rfl rfl ?_
    refine Ak_getF 111 20 hO clX13 (by decide) rfl lkF_M_73 (d_M_rule_0 58 108 (.getfield 73) 3 rfl) rfl ?_
    refine Ak_iload_n 112 1 (d_M_rule_0 59 111 (.iload_n 1) 1 rfl) rfl rfl rfl ?_
    refine Ak_aload_n 113 0 (d_M_rule_0 60 112 (.aload_n 0) 1 rfl) rfl rfl rfl ?_
    obtain ⟨r13, V14, h15, h⟩ := bnd_some h
    refine Ak_cV1 116 3 (c_M_kindHere h15) rfl hO clX13 rfl mok_M_kindHere lkM_M_389 (d_M_rule_0 61 113 (.invokevirtual 389) 3 rfl) rfl (by decide) (Nat.le_of_ble_eq_true rfl) ?_
    obtain ⟨ha16, h⟩ := gd_some h
    refine Ak_iastore 117 ha16 (d_M_rule_0 62 116 (.iastore) 1 rfl) rfl (fun V17 hV17 => ?_)
    replace h := wV_some h V17 hV17
    refine Ak_aload_n 118 0 (d_M_rule_0 63 117 (.aload_n 0) 1 rfl) rfl rfl rfl ?_
    refine Ak_getF 121 21 hO clX13 (by decide) rfl lkF_M_76 (d_M_rule_0 64 118 (.getfield 76) 3 rfl) rfl ?_
    refine Ak_iload_n 122 1 (d_M_rule_0 65 121 (.iload_n 1) 1 rfl) rfl rfl rfl ?_
    refine Ak_iconst 123 (d_M_rule_0 66 122 (.iconst (-1)) 1 rfl) rfl (rk rfl) ?_
    obtain ⟨ha18, h⟩ := gd_some h
    refine Ak_iastore 124 ha18 (d_M_rule_0 67 123 (.iastore) 1 rfl) rfl (fun V19 hV19 => ?_)
    replace h := wV_some h V19 hV19
    refine Ak_aload_n 125 0 (d_M_rule_0 68 124 (.aload_n 0) 1 rfl) rfl rfl rfl ?_
    refine Ak_getF 128 22 hO clX13 (by decide) rfl lkF_M_79 (d_M_rule_0 69 125 (.getfield 79) 3 rfl) rfl ?_
    refine Ak_iload_n 129 1 (d_M_rule_0 70 128 (.iload_n 1) 1 rfl) rfl rfl rfl ?_
    refine Ak_iconst 130 (d_M_rule_0 71 129 (.iconst (-1)) 1 rfl) rfl (rk rfl) ?_
    obtain ⟨ha20, h⟩ := gd_some h
    refine Ak_iastore 131 ha20 (d_M_rule_0 72 130 (.iastore) 1 rfl) rfl (fun V21 hV21 => ?_)
    replace h := wV_some h V21 hV21
    refine Ak_aload_n 132 0 (d_M_rule_0 73 131 (.aload_n 0) 1 rfl) rfl rfl rfl ?_
    refine Ak_getF 135 23 hO clX13 (by decide) rfl lkF_M_82 (d_M_rule_0 74 132 (.getfield 82) 3 rfl) rfl ?_
    refine Ak_iload_n 136 1 (d_M_rule_0 75 135 (.iload_n 1) 1 rfl) rfl rfl rfl ?_
    refine Ak_iconst 137 (d_M_rule_0 76 136 (.iconst 0) 1 rfl) rfl (rk rfl) ?_
    obtain ⟨ha22, h⟩ := gd_some h
    refine Ak_iastore 138 ha22 (d_M_rule_0 77 137 (.iastore) 1 rfl) rfl (fun V23 hV23 => ?_)
    replace h := wV_some h V23 hV23
    refine Ak_aload_n 139 0 (d_M_rule_0 78 138 (.aload_n 0) 1 rfl) rfl rfl rfl ?_
    obtain ⟨r24, V25, h26, h⟩ := bnd_some h
    refine Ak_cV0 142 3 (c_M_ahead h26) rfl hO clX13 rfl mok_M_ahead lkM_M_280 (d_M_rule_0 79 139 (.invokevirtual 280) 3 rfl) rfl (by decide) (Nat.le_of_ble_eq_true rfl) ?_
    refine Ak_aload_n 143 0 (d_M_rule_0 80 142 (.aload_n 0) 1 rfl) rfl rfl rfl ?_
    refine Ak_getF 146 20 hO clX13 (by decide) rfl lkF_M_73 (d_M_rule_0 81 143 (.getfield 73) 3 rfl) rfl ?_
    refine Ak_iload_n 147 1 (d_M_rule_0 82 146 (.iload_n 1) 1 rfl) rfl rfl rfl ?_
    refine Ak_iaload 148 ha16 (d_M_rule_0 83 147 (.iaload) 1 rfl) rfl ?_
    refine Ak_iconst 149 (d_M_rule_0 84 148 (.iconst 2) 1 rfl) rfl (rk rfl) ?_
    refine Ak_icmp_ge 157 152 (d_M_rule_0 85 149 (.if_icmp .ge 8) 3 rfl) rfl rfl (fun hc => ?_) (fun hc => ?_)
    · replace h := it_t hc h
      refine Ak_keep [true, true] ?_
      exact t_M_rule_0_J157 hO h
    · replace h := it_f hc h
      refine Ak_aload_n 153 0 (d_M_rule_0 86 152 (.aload_n 0) 1 rfl) rfl rfl rfl ?_
      refine Ak_iload_n 154 1 (d_M_rule_0 87 153 (.iload_n 1) 1 rfl) rfl rfl rfl ?_
      obtain ⟨r27, V28, h29, h⟩ := bnd_some h
      refine Ak_cV0 157 5 (c_M_moves h29) rfl hO clX13 rfl mok_M_moves lkM_M_393 (d_M_rule_0 88 154 (.invokevirtual 393) 3 rfl) rfl (by decide) (Nat.le_of_ble_eq_true rfl) ?_
      refine Ak_keep [true, true] ?_
      exact t_M_rule_0_J157 hO h
  · replace h := it_f hc h
    cases h
    exact Ak_vret rfl (d_M_rule_0 56 106 (.return_) 1 rfl)
theorem t_M_rule_0_J75 {S : ASh} {V : ASt} {x0 x1 : Int} {r : Int} {V' : ASt} (hO : isO S x0 13 = true) (h : b_M_rule_0_J75 S  V x0 x1 = some (r, V')) : AWk m_M_rule_0 7 0 0 0 0 75 [some (aR x0), some (aI x1)] [] S V none S V' := by
  unfold b_M_rule_0_J75 at h
  refine Ak_aload_n 76 0 (d_M_rule_0 41 75 (.aload_n 0) 1 rfl) rfl rfl rfl ?_
  refine Ak_getI 79 8 hO clX13 (by decide) (Or.inl rfl) lkF_M_36 (d_M_rule_0 42 76 (.getfield 36) 3 rfl) rfl ?_
  refine Ak_if_ne 99 82 (d_M_rule_0 43 79 (.ifCond .ne 20) 3 rfl) rfl rfl (fun hc => ?_) (fun hc => ?_)
  · replace h := it_f hc h
    refine Ak_keep [true, true] ?_
    exact t_M_rule_0_J99 hO h
  · replace h := it_t hc h
    refine Ak_aload_n 83 0 (d_M_rule_0 44 82 (.aload_n 0) 1 rfl) rfl rfl rfl ?_
    obtain ⟨r30, V31, h32, h⟩ := bnd_some h
    refine Ak_cV1 86 3 (c_M_kindHere h32) rfl hO clX13 rfl mok_M_kindHere lkM_M_389 (d_M_rule_0 45 83 (.invokevirtual 389) 3 rfl) rfl (by decide) (Nat.le_of_ble_eq_true rfl) ?_
    refine Ak_iconst 87 (d_M_rule_0 46 86 (.iconst (-1)) 1 rfl) rfl (rk rfl) ?_
    refine Ak_icmp_ne 99 90 (d_M_rule_0 47 87 (.if_icmp .ne 12) 3 rfl) rfl rfl (fun hc => ?_) (fun hc => ?_)
    · replace h := it_f hc h
      refine Ak_keep [true, true] ?_
      exact t_M_rule_0_J99 hO h
    · replace h := it_t hc h
      refine Ak_aload_n 91 0 (d_M_rule_0 48 90 (.aload_n 0) 1 rfl) rfl rfl rfl ?_
      refine Ak_iconst 92 (d_M_rule_0 49 91 (.iconst 1) 1 rfl) rfl (rk rfl) ?_
      refine Ak_aload_n 93 0 (d_M_rule_0 50 92 (.aload_n 0) 1 rfl) rfl rfl rfl ?_
      refine Ak_getI 96 4 hO clX13 (by decide) (Or.inl rfl) lkF_M_23 (d_M_rule_0 51 93 (.getfield 23) 3 rfl) rfl ?_
      obtain ⟨r33, V34, h35, h⟩ := bnd_some h
      refine Ak_cV0 99 2 (c_M_blame h35) rfl hO clX13 rfl mok_M_blame lkM_M_273 (d_M_rule_0 52 96 (.invokevirtual 273) 3 rfl) rfl (by decide) (Nat.le_of_ble_eq_true rfl) ?_
      refine Ak_keep [true, true] ?_
      exact t_M_rule_0_J99 hO h
theorem t_M_rule_0_J23 {S : ASh} {V : ASt} {x0 : Int} {r : Int} {V' : ASt} (hO : isO S x0 13 = true) (h : b_M_rule_0_J23 S  V x0 = some (r, V')) : AWk m_M_rule_0 7 0 0 0 0 23 [some (aR x0)] [] S V none S V' := by
  unfold b_M_rule_0_J23 at h
  refine Ak_aload_n 24 0 (d_M_rule_0 12 23 (.aload_n 0) 1 rfl) rfl rfl rfl ?_
  refine Ak_getI 27 8 hO clX13 (by decide) (Or.inl rfl) lkF_M_36 (d_M_rule_0 13 24 (.getfield 36) 3 rfl) rfl ?_
  refine Ak_if_le 31 30 (d_M_rule_0 14 27 (.ifCond .le 4) 3 rfl) rfl rfl (fun hc => ?_) (fun hc => ?_)
  · replace h := it_t hc h
    refine Ak_bipush 33 (d_M_rule_0 16 31 (.bipush 12) 2 rfl) rfl (bp_ok rfl) (rk rfl) ?_
    refine Ak_aload_n 34 0 (d_M_rule_0 17 33 (.aload_n 0) 1 rfl) rfl rfl rfl ?_
    refine Ak_getI 37 30 hO clX13 (by decide) (Or.inl rfl) lkF_M_104 (d_M_rule_0 18 34 (.getfield 104) 3 rfl) rfl ?_
    refine Ak_imul 38 (d_M_rule_0 19 37 (.imul) 1 rfl) rfl ?_
    refine Ak_aload_n 39 0 (d_M_rule_0 20 38 (.aload_n 0) 1 rfl) rfl rfl rfl ?_
    refine Ak_getF 42 19 hO clX13 (by decide) rfl lkF_M_70 (d_M_rule_0 21 39 (.getfield 70) 3 rfl) rfl ?_
    refine Ak_aload_n 43 0 (d_M_rule_0 22 42 (.aload_n 0) 1 rfl) rfl rfl rfl ?_
    refine Ak_getI 46 30 hO clX13 (by decide) (Or.inl rfl) lkF_M_104 (d_M_rule_0 23 43 (.getfield 104) 3 rfl) rfl ?_
    obtain ⟨ha36, h⟩ := gd_some h
    refine Ak_iaload 47 ha36 (d_M_rule_0 24 46 (.iaload) 1 rfl) rfl ?_
    refine Ak_iadd 48 (d_M_rule_0 25 47 (.iadd) 1 rfl) rfl ?_
    refine Ak_istore_n 49 1 (d_M_rule_0 26 48 (.istore_n 1) 1 rfl) rfl rfl (by decide) ?_
    refine Ak_aload_n 50 0 (d_M_rule_0 27 49 (.aload_n 0) 1 rfl) rfl rfl rfl ?_
    refine Ak_getF 53 24 hO clX13 (by decide) rfl lkF_M_85 (d_M_rule_0 28 50 (.getfield 85) 3 rfl) rfl ?_
    refine Ak_iload_n 54 1 (d_M_rule_0 29 53 (.iload_n 1) 1 rfl) rfl rfl rfl ?_
    refine Ak_aload_n 55 0 (d_M_rule_0 30 54 (.aload_n 0) 1 rfl) rfl rfl rfl ?_
    refine Ak_ldc2 58 1702258034 (d_M_rule_0 31 55 (.ldc2_w 291) 3 rfl) rfl lkJ_M_291 (rkL rfl) ?_
    obtain ⟨r37, V38, h39, h⟩ := bnd_some h
    refine Ak_cV1 61 2 (c_M_isWord h39) rfl hO clX13 rfl mok_M_isWord lkM_M_345 (d_M_rule_0 32 58 (.invokevirtual 345) 3 rfl) rfl (by decide) (Nat.le_of_ble_eq_true rfl) ?_
    obtain ⟨ha40, h⟩ := gd_some h
    obtain ⟨hb41, h⟩ := gd_some h
    refine Ak_bastore 62 ha40 (dec_t hb41) (d_M_rule_0 33 61 (.bastore) 1 rfl) rfl (fun V42 hV42 => ?_)
    replace h := wV_some h V42 hV42
    refine Ak_aload_n 63 0 (d_M_rule_0 34 62 (.aload_n 0) 1 rfl) rfl rfl rfl ?_
    refine Ak_getF 66 24 hO clX13 (by decide) rfl lkF_M_85 (d_M_rule_0 35 63 (.getfield 85) 3 rfl) rfl ?_
    refine Ak_iload_n 67 1 (d_M_rule_0 36 66 (.iload_n 1) 1 rfl) rfl rfl rfl ?_
    refine Ak_baload 68 ha40 (d_M_rule_0 37 67 (.baload) 1 rfl) rfl ?_
    refine Ak_if_eq 75 71 (d_M_rule_0 38 68 (.ifCond .eq 7) 3 rfl) rfl rfl (fun hc => ?_) (fun hc => ?_)
    · replace h := it_t hc h
      refine Ak_keep [true, true] ?_
      exact t_M_rule_0_J75 hO h
    · replace h := it_f hc h
      refine Ak_aload_n 72 0 (d_M_rule_0 39 71 (.aload_n 0) 1 rfl) rfl rfl rfl ?_
      obtain ⟨r43, V44, h45, h⟩ := bnd_some h
      refine Ak_cV0 75 3 (c_M_ahead h45) rfl hO clX13 rfl mok_M_ahead lkM_M_280 (d_M_rule_0 40 72 (.invokevirtual 280) 3 rfl) rfl (by decide) (Nat.le_of_ble_eq_true rfl) ?_
      refine Ak_keep [true, true] ?_
      exact t_M_rule_0_J75 hO h
  · replace h := it_f hc h
    cases h
    exact Ak_vret rfl (d_M_rule_0 15 30 (.return_) 1 rfl)
theorem c_M_rule_0 {S : ASh} {V : ASt} {x0 : Int} {r : Int} {V' : ASt} (h : f_M_rule_0 S V x0 = some (r, V')) : ACt m_M_rule_0 7 0 0 [(aR x0)] S V none S V' := by
  unfold f_M_rule_0 at h
  obtain ⟨hO, h⟩ := gd_some h
  refine ACt_of (plainFor_of_name rfl) rfl (Nat.le_of_ble_eq_true rfl) ?_
  show AWk m_M_rule_0 7 0 0 0 0 0 [some (aR x0)] [] S V none S V'
  refine Ak_aload_n 1 0 (d_M_rule_0 0 0 (.aload_n 0) 1 rfl) rfl rfl rfl ?_
  refine Ak_getF 4 19 hO clX13 (by decide) rfl lkF_M_70 (d_M_rule_0 1 1 (.getfield 70) 3 rfl) rfl ?_
  refine Ak_aload_n 5 0 (d_M_rule_0 2 4 (.aload_n 0) 1 rfl) rfl rfl rfl ?_
  refine Ak_getI 8 30 hO clX13 (by decide) (Or.inl rfl) lkF_M_104 (d_M_rule_0 3 5 (.getfield 104) 3 rfl) rfl ?_
  obtain ⟨ha46, h⟩ := gd_some h
  refine Ak_iaload 9 ha46 (d_M_rule_0 4 8 (.iaload) 1 rfl) rfl ?_
  refine Ak_bipush 11 (d_M_rule_0 5 9 (.bipush 12) 2 rfl) rfl (bp_ok rfl) (rk rfl) ?_
  refine Ak_icmp_ne 23 14 (d_M_rule_0 6 11 (.if_icmp .ne 12) 3 rfl) rfl rfl (fun hc => ?_) (fun hc => ?_)
  · replace h := it_f hc h
    refine Ak_keep [true] ?_
    exact t_M_rule_0_J23 hO h
  · replace h := it_t hc h
    refine Ak_aload_n 15 0 (d_M_rule_0 7 14 (.aload_n 0) 1 rfl) rfl rfl rfl ?_
    refine Ak_iconst 16 (d_M_rule_0 8 15 (.iconst 5) 1 rfl) rfl (rk rfl) ?_
    refine Ak_aload_n 17 0 (d_M_rule_0 9 16 (.aload_n 0) 1 rfl) rfl rfl rfl ?_
    refine Ak_getI 20 4 hO clX13 (by decide) (Or.inl rfl) lkF_M_23 (d_M_rule_0 10 17 (.getfield 23) 3 rfl) rfl ?_
    obtain ⟨r47, V48, h49, h⟩ := bnd_some h
    refine Ak_cV0 23 2 (c_M_blame h49) rfl hO clX13 rfl mok_M_blame lkM_M_273 (d_M_rule_0 11 20 (.invokevirtual 273) 3 rfl) rfl (by decide) (Nat.le_of_ble_eq_true rfl) ?_
    refine Ak_keep [true] ?_
    exact t_M_rule_0_J23 hO h
theorem t_M_statement_J68 {S : ASh} {V : ASt} {x0 : Int} {r : Int} {V' : ASt} (hO : isO S x0 13 = true) (h : b_M_statement_J68 S  V x0 = some (r, V')) : AWk m_M_statement 8 0 0 0 0 68 [some (aR x0)] [] S V none S V' := by
  unfold b_M_statement_J68 at h
  refine Ak_aload_n 69 0 (d_M_statement 30 68 (.aload_n 0) 1 rfl) rfl rfl rfl ?_
  refine Ak_getI 72 8 hO clX13 (by decide) (Or.inl rfl) lkF_M_36 (d_M_statement 31 69 (.getfield 36) 3 rfl) rfl ?_
  refine Ak_if_ne 81 75 (d_M_statement 32 72 (.ifCond .ne 9) 3 rfl) rfl rfl (fun hc => ?_) (fun hc => ?_)
  · replace h := it_f hc h
    cases h
    exact Ak_vret rfl (d_M_statement 36 81 (.return_) 1 rfl)
  · replace h := it_t hc h
    refine Ak_aload_n 76 0 (d_M_statement 33 75 (.aload_n 0) 1 rfl) rfl rfl rfl ?_
    refine Ak_bipush 78 (d_M_statement 34 76 (.bipush 59) 2 rfl) rfl (bp_ok rfl) (rk rfl) ?_
    obtain ⟨r1, V2, h3, h⟩ := bnd_some h
    refine Ak_cV0 81 4 (c_M_must_I h3) rfl hO clX13 rfl mok_M_must_I lkM_M_375 (d_M_statement 35 78 (.invokevirtual 375) 3 rfl) rfl (by decide) (Nat.le_of_ble_eq_true rfl) ?_
    cases h
    exact Ak_vret rfl (d_M_statement 36 81 (.return_) 1 rfl)
theorem t_M_statement_J52 {S : ASh} {V : ASt} {x0 : Int} {r : Int} {V' : ASt} (hO : isO S x0 13 = true) (h : b_M_statement_J52 S  V x0 = some (r, V')) : AWk m_M_statement 8 0 0 0 0 52 [some (aR x0)] [] S V none S V' := by
  unfold b_M_statement_J52 at h
  refine Ak_aload_n 53 0 (d_M_statement 22 52 (.aload_n 0) 1 rfl) rfl rfl rfl ?_
  obtain ⟨r4, V5, h6, h⟩ := bnd_some h
  refine Ak_cV0 56 7 (c_M_rule_0 h6) rfl hO clX13 rfl mok_M_rule_0 lkM_M_409 (d_M_statement 23 53 (.invokevirtual 409) 3 rfl) rfl (by decide) (Nat.le_of_ble_eq_true rfl) ?_
  refine Ak_goto 68 (d_M_statement 24 56 (.goto 12) 3 rfl) rfl ?_
  refine Ak_keep [true] ?_
  exact t_M_statement_J68 hO h
theorem c_M_statement {S : ASh} {V : ASt} {x0 : Int} {r : Int} {V' : ASt} (h : f_M_statement S V x0 = some (r, V')) : ACt m_M_statement 8 0 0 [(aR x0)] S V none S V' := by
  unfold f_M_statement at h
  obtain ⟨hO, h⟩ := gd_some h
  refine ACt_of (plainFor_of_name rfl) rfl (Nat.le_of_ble_eq_true rfl) ?_
  show AWk m_M_statement 8 0 0 0 0 0 [some (aR x0)] [] S V none S V'
  refine Ak_aload_n 1 0 (d_M_statement 0 0 (.aload_n 0) 1 rfl) rfl rfl rfl ?_
  refine Ak_ldc2 4 482804589413 (d_M_statement 1 1 (.ldc2_w 285) 3 rfl) rfl lkJ_M_285 (rkL rfl) ?_
  obtain ⟨r7, V8, h9, h⟩ := bnd_some h
  refine Ak_cV1 7 2 (c_M_isWord h9) rfl hO clX13 rfl mok_M_isWord lkM_M_345 (d_M_statement 2 4 (.invokevirtual 345) 3 rfl) rfl (by decide) (Nat.le_of_ble_eq_true rfl) ?_
  refine Ak_if_eq 17 10 (d_M_statement 3 7 (.ifCond .eq 10) 3 rfl) rfl rfl (fun hc => ?_) (fun hc => ?_)
  · replace h := it_t hc h
    refine Ak_aload_n 18 0 (d_M_statement 7 17 (.aload_n 0) 1 rfl) rfl rfl rfl ?_
    refine Ak_ldc2 21 495875089259 (d_M_statement 8 18 (.ldc2_w 293) 3 rfl) rfl lkJ_M_293 (rkL rfl) ?_
    obtain ⟨r10, V11, h12, h⟩ := bnd_some h
    refine Ak_cV1 24 2 (c_M_isWord h12) rfl hO clX13 rfl mok_M_isWord lkM_M_345 (d_M_statement 9 21 (.invokevirtual 345) 3 rfl) rfl (by decide) (Nat.le_of_ble_eq_true rfl) ?_
    refine Ak_if_eq 34 27 (d_M_statement 10 24 (.ifCond .eq 10) 3 rfl) rfl rfl (fun hc => ?_) (fun hc => ?_)
    · replace h := it_t hc h
      refine Ak_aload_n 35 0 (d_M_statement 14 34 (.aload_n 0) 1 rfl) rfl rfl rfl ?_
      refine Ak_ldc2 38 1702258034 (d_M_statement 15 35 (.ldc2_w 291) 3 rfl) rfl lkJ_M_291 (rkL rfl) ?_
      obtain ⟨r13, V14, h15, h⟩ := bnd_some h
      refine Ak_cV1 41 2 (c_M_isWord h15) rfl hO clX13 rfl mok_M_isWord lkM_M_345 (d_M_statement 16 38 (.invokevirtual 345) 3 rfl) rfl (by decide) (Nat.le_of_ble_eq_true rfl) ?_
      refine Ak_if_ne 52 44 (d_M_statement 17 41 (.ifCond .ne 11) 3 rfl) rfl rfl (fun hc => ?_) (fun hc => ?_)
      · replace h := it_f hc h
        refine Ak_keep [true] ?_
        exact t_M_statement_J52 hO h
      · replace h := it_t hc h
        refine Ak_aload_n 45 0 (d_M_statement 18 44 (.aload_n 0) 1 rfl) rfl rfl rfl ?_
        obtain ⟨r16, V17, h18, h⟩ := bnd_some h
        refine Ak_cV1 48 3 (c_M_kindHere h18) rfl hO clX13 rfl mok_M_kindHere lkM_M_389 (d_M_statement 19 45 (.invokevirtual 389) 3 rfl) rfl (by decide) (Nat.le_of_ble_eq_true rfl) ?_
        refine Ak_iconst 49 (d_M_statement 20 48 (.iconst (-1)) 1 rfl) rfl (rk rfl) ?_
        refine Ak_icmp_eq 59 52 (d_M_statement 21 49 (.if_icmp .eq 10) 3 rfl) rfl rfl (fun hc => ?_) (fun hc => ?_)
        · replace h := it_t hc h
          refine Ak_aload_n 60 0 (d_M_statement 25 59 (.aload_n 0) 1 rfl) rfl rfl rfl ?_
          refine Ak_iconst 61 (d_M_statement 26 60 (.iconst 1) 1 rfl) rfl (rk rfl) ?_
          refine Ak_aload_n 62 0 (d_M_statement 27 61 (.aload_n 0) 1 rfl) rfl rfl rfl ?_
          refine Ak_getI 65 4 hO clX13 (by decide) (Or.inl rfl) lkF_M_23 (d_M_statement 28 62 (.getfield 23) 3 rfl) rfl ?_
          obtain ⟨r19, V20, h21, h⟩ := bnd_some h
          refine Ak_cV0 68 2 (c_M_blame h21) rfl hO clX13 rfl mok_M_blame lkM_M_273 (d_M_statement 29 65 (.invokevirtual 273) 3 rfl) rfl (by decide) (Nat.le_of_ble_eq_true rfl) ?_
          refine Ak_keep [true] ?_
          exact t_M_statement_J68 hO h
        · replace h := it_f hc h
          refine Ak_keep [true] ?_
          exact t_M_statement_J52 hO h
    · replace h := it_f hc h
      refine Ak_aload_n 28 0 (d_M_statement 11 27 (.aload_n 0) 1 rfl) rfl rfl rfl ?_
      obtain ⟨r22, V23, h24, h⟩ := bnd_some h
      refine Ak_cV0 31 5 (c_M_stucks h24) rfl hO clX13 rfl mok_M_stucks lkM_M_406 (d_M_statement 12 28 (.invokevirtual 406) 3 rfl) rfl (by decide) (Nat.le_of_ble_eq_true rfl) ?_
      refine Ak_goto 68 (d_M_statement 13 31 (.goto 37) 3 rfl) rfl ?_
      refine Ak_keep [true] ?_
      exact t_M_statement_J68 hO h
  · replace h := it_f hc h
    refine Ak_aload_n 11 0 (d_M_statement 4 10 (.aload_n 0) 1 rfl) rfl rfl rfl ?_
    obtain ⟨r25, V26, h27, h⟩ := bnd_some h
    refine Ak_cV0 14 5 (c_M_piece h27) rfl hO clX13 rfl mok_M_piece lkM_M_403 (d_M_statement 5 11 (.invokevirtual 403) 3 rfl) rfl (by decide) (Nat.le_of_ble_eq_true rfl) ?_
    refine Ak_goto 68 (d_M_statement 6 14 (.goto 54) 3 rfl) rfl ?_
    refine Ak_keep [true] ?_
    exact t_M_statement_J68 hO h
theorem c_M_rulesAll {S : ASh} {V : ASt} {x0 : Int} {r : Int} {V' : ASt} (h : f_M_rulesAll S V x0 = some (r, V')) : ACt m_M_rulesAll 2 0 0 [(aR x0)] S V (some (aI r)) S V' := by
  unfold f_M_rulesAll at h
  obtain ⟨hO, h⟩ := gd_some h
  refine ACt_of (plainFor_of_name rfl) rfl (Nat.le_of_ble_eq_true rfl) ?_
  show AWk m_M_rulesAll 2 0 0 0 0 0 [some (aR x0)] [] S V (some (aI r)) S V'
  refine Ak_aload_n 1 0 (d_M_rulesAll 0 0 (.aload_n 0) 1 rfl) rfl rfl rfl ?_
  refine Ak_getF 4 19 hO clX13 (by decide) rfl lkF_M_70 (d_M_rulesAll 1 1 (.getfield 70) 3 rfl) rfl ?_
  refine Ak_aload_n 5 0 (d_M_rulesAll 2 4 (.aload_n 0) 1 rfl) rfl rfl rfl ?_
  refine Ak_getI 8 12 hO clX13 (by decide) (Or.inl rfl) lkF_M_48 (d_M_rulesAll 3 5 (.getfield 48) 3 rfl) rfl ?_
  obtain ⟨ha1, h⟩ := gd_some h
  refine Ak_iaload 9 ha1 (d_M_rulesAll 4 8 (.iaload) 1 rfl) rfl ?_
  cases h
  exact Ak_iret rfl (d_M_rulesAll 5 9 (.ireturn) 1 rfl)
theorem c_M_told {S : ASh} {V : ASt} {x0 x1 : Int} {r : Int} {V' : ASt} (h : f_M_told S V x0 x1 = some (r, V')) : ACt m_M_told 2 0 0 [(aR x0), (aI x1)] S V (some (aI r)) S V' := by
  unfold f_M_told at h
  obtain ⟨hO, h⟩ := gd_some h
  refine ACt_of (plainFor_of_name rfl) rfl (Nat.le_of_ble_eq_true rfl) ?_
  show AWk m_M_told 2 0 0 0 0 0 [some (aR x0), some (aI x1)] [] S V (some (aI r)) S V'
  refine Ak_bipush 2 (d_M_told 0 0 (.bipush 12) 2 rfl) rfl (bp_ok rfl) (rk rfl) ?_
  refine Ak_aload_n 3 0 (d_M_told 1 2 (.aload_n 0) 1 rfl) rfl rfl rfl ?_
  refine Ak_getI 6 12 hO clX13 (by decide) (Or.inl rfl) lkF_M_48 (d_M_told 2 3 (.getfield 48) 3 rfl) rfl ?_
  refine Ak_imul 7 (d_M_told 3 6 (.imul) 1 rfl) rfl ?_
  refine Ak_iload_n 8 1 (d_M_told 4 7 (.iload_n 1) 1 rfl) rfl rfl rfl ?_
  refine Ak_iadd 9 (d_M_told 5 8 (.iadd) 1 rfl) rfl ?_
  cases h
  exact Ak_iret rfl (d_M_told 6 9 (.ireturn) 1 rfl)
theorem c_M_hasFields {S : ASh} {V : ASt} {x0 : Int} {r : Int} {V' : ASt} (h : f_M_hasFields S V x0 = some (r, V')) : ACt m_M_hasFields 2 0 0 [(aR x0)] S V (some (aI r)) S V' := by
  unfold f_M_hasFields at h
  obtain ⟨hO, h⟩ := gd_some h
  refine ACt_of (plainFor_of_name rfl) rfl (Nat.le_of_ble_eq_true rfl) ?_
  show AWk m_M_hasFields 2 0 0 0 0 0 [some (aR x0)] [] S V (some (aI r)) S V'
  refine Ak_aload_n 1 0 (d_M_hasFields 0 0 (.aload_n 0) 1 rfl) rfl rfl rfl ?_
  refine Ak_getF 4 13 hO clX13 (by decide) rfl lkF_M_51 (d_M_hasFields 1 1 (.getfield 51) 3 rfl) rfl ?_
  refine Ak_aload_n 5 0 (d_M_hasFields 2 4 (.aload_n 0) 1 rfl) rfl rfl rfl ?_
  refine Ak_getI 8 12 hO clX13 (by decide) (Or.inl rfl) lkF_M_48 (d_M_hasFields 3 5 (.getfield 48) 3 rfl) rfl ?_
  obtain ⟨ha1, h⟩ := gd_some h
  refine Ak_iaload 9 ha1 (d_M_hasFields 4 8 (.iaload) 1 rfl) rfl ?_
  refine Ak_if_le 16 12 (d_M_hasFields 5 9 (.ifCond .le 7) 3 rfl) rfl rfl (fun hc => ?_) (fun hc => ?_)
  · replace h := it_t hc h
    refine Ak_iconst 17 (d_M_hasFields 8 16 (.iconst 0) 1 rfl) rfl (rk rfl) ?_
    cases h
    exact Ak_zret (Or.inl rfl) rfl (d_M_hasFields 9 17 (.ireturn) 1 rfl)
  · replace h := it_f hc h
    refine Ak_iconst 13 (d_M_hasFields 6 12 (.iconst 1) 1 rfl) rfl (rk rfl) ?_
    refine Ak_goto 17 (d_M_hasFields 7 13 (.goto 4) 3 rfl) rfl ?_
    cases h
    exact Ak_zret (Or.inr rfl) rfl (d_M_hasFields 9 17 (.ireturn) 1 rfl)
theorem c_M_base {S : ASh} {V : ASt} {x0 : Int} {r : Int} {V' : ASt} (h : f_M_base S V x0 = some (r, V')) : ACt m_M_base 2 0 0 [(aR x0)] S V (some (aI r)) S V' := by
  unfold f_M_base at h
  obtain ⟨hO, h⟩ := gd_some h
  refine ACt_of (plainFor_of_name rfl) rfl (Nat.le_of_ble_eq_true rfl) ?_
  show AWk m_M_base 2 0 0 0 0 0 [some (aR x0)] [] S V (some (aI r)) S V'
  refine Ak_aload_n 1 0 (d_M_base 0 0 (.aload_n 0) 1 rfl) rfl rfl rfl ?_
  refine Ak_getF 4 13 hO clX13 (by decide) rfl lkF_M_51 (d_M_base 1 1 (.getfield 51) 3 rfl) rfl ?_
  refine Ak_aload_n 5 0 (d_M_base 2 4 (.aload_n 0) 1 rfl) rfl rfl rfl ?_
  refine Ak_getI 8 12 hO clX13 (by decide) (Or.inl rfl) lkF_M_48 (d_M_base 3 5 (.getfield 48) 3 rfl) rfl ?_
  obtain ⟨ha1, h⟩ := gd_some h
  refine Ak_iaload 9 ha1 (d_M_base 4 8 (.iaload) 1 rfl) rfl ?_
  refine Ak_iconst 10 (d_M_base 5 9 (.iconst 1) 1 rfl) rfl (rk rfl) ?_
  refine Ak_iadd 11 (d_M_base 6 10 (.iadd) 1 rfl) rfl ?_
  cases h
  exact Ak_iret rfl (d_M_base 7 11 (.ireturn) 1 rfl)
theorem t_M_beginning_L4 {S : ASh} {x0 x1 : Int} (hO : isO S x0 13 = true) : ∀ (n : Nat) (V : ASt) (x2 x3 : Int) (r : Int) (V' : ASt), b_M_beginning_L4 S x0 x1 n V x2 x3 = some (r, V') → AWk m_M_beginning 3 0 0 0 0 4 [some (aR x0), some (aI x1), some (aI x2), some (aI x3)] [] S V (some (aI r)) S V' := by
  intro n
  induction n with
  | zero => intro V x2 x3 r V' h; cases h
  | succ n ih =>
    intro V x2 x3 r V' h
    replace ih : ∀ {V : ASt} {x2 x3 : Int} {r : Int} {V' : ASt}, b_M_beginning_L4 S x0 x1 n V x2 x3 = some (r, V') → AWk m_M_beginning 3 0 0 0 0 4 [some (aR x0), some (aI x1), some (aI x2), some (aI x3)] [] S V (some (aI r)) S V' := fun h => ih _ _ _ _ _ h
    rw [b_M_beginning_L4] at h
    refine Ak_iload_n 5 3 (d_M_beginning 4 4 (.iload_n 3) 1 rfl) rfl rfl rfl ?_
    refine Ak_aload_n 6 0 (d_M_beginning 5 5 (.aload_n 0) 1 rfl) rfl rfl rfl ?_
    refine Ak_getF 9 14 hO clX13 (by decide) rfl lkF_M_54 (d_M_beginning 6 6 (.getfield 54) 3 rfl) rfl ?_
    refine Ak_aload_n 10 0 (d_M_beginning 7 9 (.aload_n 0) 1 rfl) rfl rfl rfl ?_
    refine Ak_getI 13 12 hO clX13 (by decide) (Or.inl rfl) lkF_M_48 (d_M_beginning 8 10 (.getfield 48) 3 rfl) rfl ?_
    obtain ⟨ha1, h⟩ := gd_some h
    refine Ak_iaload 14 ha1 (d_M_beginning 9 13 (.iaload) 1 rfl) rfl ?_
    refine Ak_icmp_ge 44 17 (d_M_beginning 10 14 (.if_icmp .ge 30) 3 rfl) rfl rfl (fun hc => ?_) (fun hc => ?_)
    · replace h := it_t hc h
      refine Ak_iconst 45 (d_M_beginning 28 44 (.iconst 2) 1 rfl) rfl (rk rfl) ?_
      refine Ak_iload_n 46 2 (d_M_beginning 29 45 (.iload_n 2) 1 rfl) rfl rfl rfl ?_
      refine Ak_imul 47 (d_M_beginning 30 46 (.imul) 1 rfl) rfl ?_
      refine Ak_iload_n 48 1 (d_M_beginning 31 47 (.iload_n 1) 1 rfl) rfl rfl rfl ?_
      refine Ak_iconst 49 (d_M_beginning 32 48 (.iconst 2) 1 rfl) rfl (rk rfl) ?_
      refine Ak_irem 50 (d_M_beginning 33 49 (.irem) 1 rfl) rfl (by decide) ?_
      refine Ak_iadd 51 (d_M_beginning 34 50 (.iadd) 1 rfl) rfl ?_
      cases h
      exact Ak_iret rfl (d_M_beginning 35 51 (.ireturn) 1 rfl)
    · replace h := it_f hc h
      refine Ak_aload_n 18 0 (d_M_beginning 11 17 (.aload_n 0) 1 rfl) rfl rfl rfl ?_
      obtain ⟨r2, V3, h4, h⟩ := bnd_some h
      refine Ak_cV1 21 2 (c_M_base h4) rfl hO clX13 rfl mok_M_base lkM_M_459 (d_M_beginning 12 18 (.invokevirtual 459) 3 rfl) rfl (by decide) (Nat.le_of_ble_eq_true rfl) ?_
      refine Ak_iload_n 22 2 (d_M_beginning 13 21 (.iload_n 2) 1 rfl) rfl rfl rfl ?_
      refine Ak_imul 23 (d_M_beginning 14 22 (.imul) 1 rfl) rfl ?_
      refine Ak_aload_n 24 0 (d_M_beginning 15 23 (.aload_n 0) 1 rfl) rfl rfl rfl ?_
      refine Ak_getF 27 16 hO clX13 (by decide) rfl lkF_M_61 (d_M_beginning 16 24 (.getfield 61) 3 rfl) rfl ?_
      refine Ak_iconst 28 (d_M_beginning 17 27 (.iconst 2) 1 rfl) rfl (rk rfl) ?_
      refine Ak_aload_n 29 0 (d_M_beginning 18 28 (.aload_n 0) 1 rfl) rfl rfl rfl ?_
      refine Ak_getI 32 12 hO clX13 (by decide) (Or.inl rfl) lkF_M_48 (d_M_beginning 19 29 (.getfield 48) 3 rfl) rfl ?_
      refine Ak_imul 33 (d_M_beginning 20 32 (.imul) 1 rfl) rfl ?_
      refine Ak_iload_n 34 3 (d_M_beginning 21 33 (.iload_n 3) 1 rfl) rfl rfl rfl ?_
      refine Ak_iadd 35 (d_M_beginning 22 34 (.iadd) 1 rfl) rfl ?_
      obtain ⟨ha5, h⟩ := gd_some h
      refine Ak_iaload 36 ha5 (d_M_beginning 23 35 (.iaload) 1 rfl) rfl ?_
      refine Ak_iadd 37 (d_M_beginning 24 36 (.iadd) 1 rfl) rfl ?_
      refine Ak_istore_n 38 2 (d_M_beginning 25 37 (.istore_n 2) 1 rfl) rfl rfl (by decide) ?_
      refine Ak_iinc 41 (d_M_beginning 26 38 (.iinc 3 1) 3 rfl) rfl rfl (by decide) ?_
      refine Ak_goto 4 (d_M_beginning 27 41 (.goto (-37)) 3 rfl) rfl ?_
      refine Ak_keep [true, true, true, true] ?_
      exact ih h
theorem c_M_beginning {S : ASh} {V : ASt} {x0 x1 : Int} {r : Int} {V' : ASt} (h : f_M_beginning S V x0 x1 = some (r, V')) : ACt m_M_beginning 3 0 0 [(aR x0), (aI x1)] S V (some (aI r)) S V' := by
  unfold f_M_beginning at h
  obtain ⟨hO, h⟩ := gd_some h
  refine ACt_of (plainFor_of_name rfl) rfl (Nat.le_of_ble_eq_true rfl) ?_
  show AWk m_M_beginning 3 0 0 0 0 0 [some (aR x0), some (aI x1)] [] S V (some (aI r)) S V'
  refine Ak_iconst 1 (d_M_beginning 0 0 (.iconst 0) 1 rfl) rfl (rk rfl) ?_
  refine Ak_istore_n 2 2 (d_M_beginning 1 1 (.istore_n 2) 1 rfl) rfl rfl (by decide) ?_
  refine Ak_iconst 3 (d_M_beginning 2 2 (.iconst 0) 1 rfl) rfl (rk rfl) ?_
  refine Ak_istore_n 4 3 (d_M_beginning 3 3 (.istore_n 3) 1 rfl) rfl rfl (by decide) ?_
  refine Ak_keep [true, true, true, true] ?_
  exact t_M_beginning_L4 hO FU _ _ _ _ _ h
theorem t_M_anews_J25 {S : ASh} {V : ASt} {x0 x1 s0 s1 : Int} {r : Int} {V' : ASt} (hO : isO S x0 13 = true) (h : b_M_anews_J25 S  V x0 x1 s0 s1 = some (r, V')) : AWk m_M_anews 4 0 0 0 0 25 [some (aR x0), some (aI x1)] [(aI s1), (aR s0)] S V (some (aI r)) S V' := by
  unfold b_M_anews_J25 at h
  obtain ⟨hg1, h⟩ := gd_some h
  refine Ak_putI 28 59 hg1 clX13 (by decide) rfl rfl rfl lkF_M_192 (d_M_anews 13 25 (.putfield 192) 3 rfl) rfl (fun V2 hV2 => ?_)
  replace h := wV_some h V2 hV2
  refine Ak_aload_n 29 0 (d_M_anews 14 28 (.aload_n 0) 1 rfl) rfl rfl rfl ?_
  refine Ak_iconst 30 (d_M_anews 15 29 (.iconst 0) 1 rfl) rfl (rk rfl) ?_
  refine Ak_putI 33 60 hO clX13 (by decide) rfl rfl rfl lkF_M_195 (d_M_anews 16 30 (.putfield 195) 3 rfl) rfl (fun V3 hV3 => ?_)
  replace h := wV_some h V3 hV3
  refine Ak_aload_n 34 0 (d_M_anews 17 33 (.aload_n 0) 1 rfl) rfl rfl rfl ?_
  refine Ak_iconst 35 (d_M_anews 18 34 (.iconst (-1)) 1 rfl) rfl (rk rfl) ?_
  refine Ak_putI 38 61 hO clX13 (by decide) rfl rfl rfl lkF_M_198 (d_M_anews 19 35 (.putfield 198) 3 rfl) rfl (fun V4 hV4 => ?_)
  replace h := wV_some h V4 hV4
  refine Ak_iload_n 39 1 (d_M_anews 20 38 (.iload_n 1) 1 rfl) rfl rfl rfl ?_
  cases h
  exact Ak_iret rfl (d_M_anews 21 39 (.ireturn) 1 rfl)
theorem c_M_anews {S : ASh} {V : ASt} {x0 : Int} {r : Int} {V' : ASt} (h : f_M_anews S V x0 = some (r, V')) : ACt m_M_anews 4 0 0 [(aR x0)] S V (some (aI r)) S V' := by
  unfold f_M_anews at h
  obtain ⟨hO, h⟩ := gd_some h
  refine ACt_of (plainFor_of_name rfl) rfl (Nat.le_of_ble_eq_true rfl) ?_
  show AWk m_M_anews 4 0 0 0 0 0 [some (aR x0)] [] S V (some (aI r)) S V'
  refine Ak_aload_n 1 0 (d_M_anews 0 0 (.aload_n 0) 1 rfl) rfl rfl rfl ?_
  refine Ak_getI 4 60 hO clX13 (by decide) (Or.inl rfl) lkF_M_195 (d_M_anews 1 1 (.getfield 195) 3 rfl) rfl ?_
  refine Ak_istore_n 5 1 (d_M_anews 2 4 (.istore_n 1) 1 rfl) rfl rfl (by decide) ?_
  refine Ak_aload_n 6 0 (d_M_anews 3 5 (.aload_n 0) 1 rfl) rfl rfl rfl ?_
  refine Ak_aload_n 7 0 (d_M_anews 4 6 (.aload_n 0) 1 rfl) rfl rfl rfl ?_
  obtain ⟨r5, V6, h7, h⟩ := bnd_some h
  refine Ak_cV1 10 2 (c_M_hasFields h7) rfl hO clX13 rfl mok_M_hasFields lkM_M_448 (d_M_anews 5 7 (.invokevirtual 448) 3 rfl) rfl (by decide) (Nat.le_of_ble_eq_true rfl) ?_
  refine Ak_if_eq 24 13 (d_M_anews 6 10 (.ifCond .eq 14) 3 rfl) rfl rfl (fun hc => ?_) (fun hc => ?_)
  · replace h := it_t hc h
    refine Ak_iconst 25 (d_M_anews 12 24 (.iconst 0) 1 rfl) rfl (rk rfl) ?_
    refine Ak_keep [true, true] ?_
    exact t_M_anews_J25 hO h
  · replace h := it_f hc h
    refine Ak_aload_n 14 0 (d_M_anews 7 13 (.aload_n 0) 1 rfl) rfl rfl rfl ?_
    refine Ak_aload_n 15 0 (d_M_anews 8 14 (.aload_n 0) 1 rfl) rfl rfl rfl ?_
    refine Ak_getI 18 48 hO clX13 (by decide) (Or.inl rfl) lkF_M_159 (d_M_anews 9 15 (.getfield 159) 3 rfl) rfl ?_
    obtain ⟨r8, V9, h10, h⟩ := bnd_some h
    refine Ak_cV1 21 3 (c_M_beginning h10) rfl hO clX13 rfl mok_M_beginning lkM_M_512 (d_M_anews 10 18 (.invokevirtual 512) 3 rfl) rfl (by decide) (Nat.le_of_ble_eq_true rfl) ?_
    refine Ak_goto 25 (d_M_anews 11 21 (.goto 4) 3 rfl) rfl ?_
    refine Ak_keep [true, true] ?_
    exact t_M_anews_J25 hO h
theorem t_M_begins_L60 {S : ASh} {x0 : Int} (hO : isO S x0 13 = true) : ∀ (n : Nat) (V : ASt) (x1 : Int) (r : Int) (V' : ASt), b_M_begins_L60 S x0 n V x1 = some (r, V') → AWk m_M_begins 5 0 0 0 0 60 [some (aR x0), some (aI x1)] [] S V none S V' := by
  intro n
  induction n with
  | zero => intro V x1 r V' h; cases h
  | succ n ih =>
    intro V x1 r V' h
    replace ih : ∀ {V : ASt} {x1 : Int} {r : Int} {V' : ASt}, b_M_begins_L60 S x0 n V x1 = some (r, V') → AWk m_M_begins 5 0 0 0 0 60 [some (aR x0), some (aI x1)] [] S V none S V' := fun h => ih _ _ _ _ h
    rw [b_M_begins_L60] at h
    refine Ak_iload_n 61 1 (d_M_begins 38 60 (.iload_n 1) 1 rfl) rfl rfl rfl ?_
    refine Ak_iconst 62 (d_M_begins 39 61 (.iconst 2) 1 rfl) rfl (rk rfl) ?_
    refine Ak_icmp_ge 85 65 (d_M_begins 40 62 (.if_icmp .ge 23) 3 rfl) rfl rfl (fun hc => ?_) (fun hc => ?_)
    · replace h := it_t hc h
      refine Ak_aload_n 86 0 (d_M_begins 53 85 (.aload_n 0) 1 rfl) rfl rfl rfl ?_
      refine Ak_iconst 87 (d_M_begins 54 86 (.iconst 0) 1 rfl) rfl (rk rfl) ?_
      refine Ak_putI 90 65 hO clX13 (by decide) rfl rfl rfl lkF_M_210 (d_M_begins 55 87 (.putfield 210) 3 rfl) rfl (fun V1 hV1 => ?_)
      replace h := wV_some h V1 hV1
      refine Ak_aload_n 91 0 (d_M_begins 56 90 (.aload_n 0) 1 rfl) rfl rfl rfl ?_
      refine Ak_iconst 92 (d_M_begins 57 91 (.iconst 0) 1 rfl) rfl (rk rfl) ?_
      refine Ak_putZ 95 72 (Or.inl rfl) hO clX13 (by decide) rfl rfl rfl lkF_M_231 (d_M_begins 58 92 (.putfield 231) 3 rfl) rfl (fun V2 hV2 => ?_)
      replace h := wV_some h V2 hV2
      refine Ak_aload_n 96 0 (d_M_begins 59 95 (.aload_n 0) 1 rfl) rfl rfl rfl ?_
      obtain ⟨r3, V4, h5, h⟩ := bnd_some h
      refine Ak_cV1 99 4 (c_M_anews h5) rfl hO clX13 rfl mok_M_anews lkM_M_442 (d_M_begins 60 96 (.invokevirtual 442) 3 rfl) rfl (by decide) (Nat.le_of_ble_eq_true rfl) ?_
      refine Ak_pop 100 (d_M_begins 61 99 (.pop) 1 rfl) rfl rfl ?_
      cases h
      exact Ak_vret rfl (d_M_begins 62 100 (.return_) 1 rfl)
    · replace h := it_f hc h
      refine Ak_aload_n 66 0 (d_M_begins 41 65 (.aload_n 0) 1 rfl) rfl rfl rfl ?_
      refine Ak_getF 69 49 hO clX13 (by decide) rfl lkF_M_162 (d_M_begins 42 66 (.getfield 162) 3 rfl) rfl ?_
      refine Ak_iload_n 70 1 (d_M_begins 43 69 (.iload_n 1) 1 rfl) rfl rfl rfl ?_
      refine Ak_iconst 71 (d_M_begins 44 70 (.iconst 0) 1 rfl) rfl (rk rfl) ?_
      obtain ⟨ha6, h⟩ := gd_some h
      refine Ak_iastore 72 ha6 (d_M_begins 45 71 (.iastore) 1 rfl) rfl (fun V7 hV7 => ?_)
      replace h := wV_some h V7 hV7
      refine Ak_aload_n 73 0 (d_M_begins 46 72 (.aload_n 0) 1 rfl) rfl rfl rfl ?_
      refine Ak_getF 76 50 hO clX13 (by decide) rfl lkF_M_165 (d_M_begins 47 73 (.getfield 165) 3 rfl) rfl ?_
      refine Ak_iload_n 77 1 (d_M_begins 48 76 (.iload_n 1) 1 rfl) rfl rfl rfl ?_
      refine Ak_iconst 78 (d_M_begins 49 77 (.iconst 0) 1 rfl) rfl (rk rfl) ?_
      obtain ⟨ha8, h⟩ := gd_some h
      refine Ak_iastore 79 ha8 (d_M_begins 50 78 (.iastore) 1 rfl) rfl (fun V9 hV9 => ?_)
      replace h := wV_some h V9 hV9
      refine Ak_iinc 82 (d_M_begins 51 79 (.iinc 1 1) 3 rfl) rfl rfl (by decide) ?_
      refine Ak_goto 60 (d_M_begins 52 82 (.goto (-22)) 3 rfl) rfl ?_
      refine Ak_keep [true, true] ?_
      exact ih h
theorem t_M_begins_L2 {S : ASh} {x0 : Int} (hO : isO S x0 13 = true) : ∀ (n : Nat) (V : ASt) (x1 : Int) (r : Int) (V' : ASt), b_M_begins_L2 S x0 n V x1 = some (r, V') → AWk m_M_begins 5 0 0 0 0 2 [some (aR x0), some (aI x1)] [] S V none S V' := by
  intro n
  induction n with
  | zero => intro V x1 r V' h; cases h
  | succ n ih =>
    intro V x1 r V' h
    replace ih : ∀ {V : ASt} {x1 : Int} {r : Int} {V' : ASt}, b_M_begins_L2 S x0 n V x1 = some (r, V') → AWk m_M_begins 5 0 0 0 0 2 [some (aR x0), some (aI x1)] [] S V none S V' := fun h => ih _ _ _ _ h
    rw [b_M_begins_L2] at h
    refine Ak_iload_n 3 1 (d_M_begins 2 2 (.iload_n 1) 1 rfl) rfl rfl rfl ?_
    refine Ak_aload_n 4 0 (d_M_begins 3 3 (.aload_n 0) 1 rfl) rfl rfl rfl ?_
    obtain ⟨r10, V11, h12, h⟩ := bnd_some h
    refine Ak_cV1 7 2 (c_M_rulesAll h12) rfl hO clX13 rfl mok_M_rulesAll lkM_M_436 (d_M_begins 4 4 (.invokevirtual 436) 3 rfl) rfl (by decide) (Nat.le_of_ble_eq_true rfl) ?_
    refine Ak_icmp_ge 53 10 (d_M_begins 5 7 (.if_icmp .ge 46) 3 rfl) rfl rfl (fun hc => ?_) (fun hc => ?_)
    · replace h := it_t hc h
      refine Ak_aload_n 54 0 (d_M_begins 33 53 (.aload_n 0) 1 rfl) rfl rfl rfl ?_
      refine Ak_iconst 55 (d_M_begins 34 54 (.iconst 0) 1 rfl) rfl (rk rfl) ?_
      refine Ak_putI 58 48 hO clX13 (by decide) rfl rfl rfl lkF_M_159 (d_M_begins 35 55 (.putfield 159) 3 rfl) rfl (fun V13 hV13 => ?_)
      replace h := wV_some h V13 hV13
      refine Ak_iconst 59 (d_M_begins 36 58 (.iconst 0) 1 rfl) rfl (rk rfl) ?_
      refine Ak_istore_n 60 1 (d_M_begins 37 59 (.istore_n 1) 1 rfl) rfl rfl (by decide) ?_
      refine Ak_keep [true, true] ?_
      exact t_M_begins_L60 hO FU _ _ _ _ h
    · replace h := it_f hc h
      refine Ak_aload_n 11 0 (d_M_begins 6 10 (.aload_n 0) 1 rfl) rfl rfl rfl ?_
      refine Ak_getF 14 44 hO clX13 (by decide) rfl lkF_M_147 (d_M_begins 7 11 (.getfield 147) 3 rfl) rfl ?_
      refine Ak_iload_n 15 1 (d_M_begins 8 14 (.iload_n 1) 1 rfl) rfl rfl rfl ?_
      refine Ak_iload_n 16 1 (d_M_begins 9 15 (.iload_n 1) 1 rfl) rfl rfl rfl ?_
      obtain ⟨ha14, h⟩ := gd_some h
      refine Ak_iastore 17 ha14 (d_M_begins 10 16 (.iastore) 1 rfl) rfl (fun V15 hV15 => ?_)
      replace h := wV_some h V15 hV15
      refine Ak_aload_n 18 0 (d_M_begins 11 17 (.aload_n 0) 1 rfl) rfl rfl rfl ?_
      refine Ak_getF 21 45 hO clX13 (by decide) rfl lkF_M_150 (d_M_begins 12 18 (.getfield 150) 3 rfl) rfl ?_
      refine Ak_iload_n 22 1 (d_M_begins 13 21 (.iload_n 1) 1 rfl) rfl rfl rfl ?_
      refine Ak_iconst 23 (d_M_begins 14 22 (.iconst 0) 1 rfl) rfl (rk rfl) ?_
      obtain ⟨ha16, h⟩ := gd_some h
      refine Ak_bastore 24 ha16 (Or.inl rfl) (d_M_begins 15 23 (.bastore) 1 rfl) rfl (fun V17 hV17 => ?_)
      replace h := wV_some h V17 hV17
      refine Ak_aload_n 25 0 (d_M_begins 16 24 (.aload_n 0) 1 rfl) rfl rfl rfl ?_
      refine Ak_getF 28 46 hO clX13 (by decide) rfl lkF_M_153 (d_M_begins 17 25 (.getfield 153) 3 rfl) rfl ?_
      refine Ak_iload_n 29 1 (d_M_begins 18 28 (.iload_n 1) 1 rfl) rfl rfl rfl ?_
      refine Ak_iconst 30 (d_M_begins 19 29 (.iconst 0) 1 rfl) rfl (rk rfl) ?_
      obtain ⟨ha18, h⟩ := gd_some h
      refine Ak_bastore 31 ha18 (Or.inl rfl) (d_M_begins 20 30 (.bastore) 1 rfl) rfl (fun V19 hV19 => ?_)
      replace h := wV_some h V19 hV19
      refine Ak_aload_n 32 0 (d_M_begins 21 31 (.aload_n 0) 1 rfl) rfl rfl rfl ?_
      refine Ak_getF 35 47 hO clX13 (by decide) rfl lkF_M_156 (d_M_begins 22 32 (.getfield 156) 3 rfl) rfl ?_
      refine Ak_iload_n 36 1 (d_M_begins 23 35 (.iload_n 1) 1 rfl) rfl rfl rfl ?_
      refine Ak_aload_n 37 0 (d_M_begins 24 36 (.aload_n 0) 1 rfl) rfl rfl rfl ?_
      refine Ak_getF 40 23 hO clX13 (by decide) rfl lkF_M_82 (d_M_begins 25 37 (.getfield 82) 3 rfl) rfl ?_
      refine Ak_aload_n 41 0 (d_M_begins 26 40 (.aload_n 0) 1 rfl) rfl rfl rfl ?_
      refine Ak_iload_n 42 1 (d_M_begins 27 41 (.iload_n 1) 1 rfl) rfl rfl rfl ?_
      obtain ⟨r20, V21, h22, h⟩ := bnd_some h
      refine Ak_cV1 45 2 (c_M_told h22) rfl hO clX13 rfl mok_M_told lkM_M_439 (d_M_begins 28 42 (.invokevirtual 439) 3 rfl) rfl (by decide) (Nat.le_of_ble_eq_true rfl) ?_
      obtain ⟨ha23, h⟩ := gd_some h
      refine Ak_iaload 46 ha23 (d_M_begins 29 45 (.iaload) 1 rfl) rfl ?_
      obtain ⟨ha24, h⟩ := gd_some h
      refine Ak_iastore 47 ha24 (d_M_begins 30 46 (.iastore) 1 rfl) rfl (fun V25 hV25 => ?_)
      replace h := wV_some h V25 hV25
      refine Ak_iinc 50 (d_M_begins 31 47 (.iinc 1 1) 3 rfl) rfl rfl (by decide) ?_
      refine Ak_goto 2 (d_M_begins 32 50 (.goto (-48)) 3 rfl) rfl ?_
      refine Ak_keep [true, true] ?_
      exact ih h
theorem c_M_begins {S : ASh} {V : ASt} {x0 : Int} {r : Int} {V' : ASt} (h : f_M_begins S V x0 = some (r, V')) : ACt m_M_begins 5 0 0 [(aR x0)] S V none S V' := by
  unfold f_M_begins at h
  obtain ⟨hO, h⟩ := gd_some h
  refine ACt_of (plainFor_of_name rfl) rfl (Nat.le_of_ble_eq_true rfl) ?_
  show AWk m_M_begins 5 0 0 0 0 0 [some (aR x0)] [] S V none S V'
  refine Ak_iconst 1 (d_M_begins 0 0 (.iconst 0) 1 rfl) rfl (rk rfl) ?_
  refine Ak_istore_n 2 1 (d_M_begins 1 1 (.istore_n 1) 1 rfl) rfl rfl (by decide) ?_
  refine Ak_keep [true, true] ?_
  exact t_M_begins_L2 hO FU _ _ _ _ h
theorem t_M_game_J107 {S : ASh} {V : ASt} {x0 x1 : Int} {r : Int} {V' : ASt} (hO : isO S x0 13 = true) (h : b_M_game_J107 S  V x0 x1 = some (r, V')) : AWk m_M_game 9 0 0 0 0 107 [some (aR x0), some (aI x1)] [] S V (some (aI r)) S V' := by
  unfold b_M_game_J107 at h
  refine Ak_aload_n 108 0 (d_M_game 59 107 (.aload_n 0) 1 rfl) rfl rfl rfl ?_
  refine Ak_aload_n 109 0 (d_M_game 60 108 (.aload_n 0) 1 rfl) rfl rfl rfl ?_
  refine Ak_getI 112 8 hO clX13 (by decide) (Or.inl rfl) lkF_M_36 (d_M_game 61 109 (.getfield 36) 3 rfl) rfl ?_
  refine Ak_putI 115 10 hO clX13 (by decide) rfl rfl rfl lkF_M_42 (d_M_game 62 112 (.putfield 42) 3 rfl) rfl (fun V1 hV1 => ?_)
  replace h := wV_some h V1 hV1
  refine Ak_aload_n 116 0 (d_M_game 63 115 (.aload_n 0) 1 rfl) rfl rfl rfl ?_
  refine Ak_aload_n 117 0 (d_M_game 64 116 (.aload_n 0) 1 rfl) rfl rfl rfl ?_
  refine Ak_getI 120 9 hO clX13 (by decide) (Or.inl rfl) lkF_M_39 (d_M_game 65 117 (.getfield 39) 3 rfl) rfl ?_
  refine Ak_putI 123 11 hO clX13 (by decide) rfl rfl rfl lkF_M_45 (d_M_game 66 120 (.putfield 45) 3 rfl) rfl (fun V2 hV2 => ?_)
  replace h := wV_some h V2 hV2
  refine Ak_aload_n 124 0 (d_M_game 67 123 (.aload_n 0) 1 rfl) rfl rfl rfl ?_
  refine Ak_getI 127 8 hO clX13 (by decide) (Or.inl rfl) lkF_M_36 (d_M_game 68 124 (.getfield 36) 3 rfl) rfl ?_
  refine Ak_if_le 136 130 (d_M_game 69 127 (.ifCond .le 9) 3 rfl) rfl rfl (fun hc => ?_) (fun hc => ?_)
  · replace h := it_t hc h
    refine Ak_aload_n 137 0 (d_M_game 74 136 (.aload_n 0) 1 rfl) rfl rfl rfl ?_
    refine Ak_aload_n 138 0 (d_M_game 75 137 (.aload_n 0) 1 rfl) rfl rfl rfl ?_
    refine Ak_getI 141 30 hO clX13 (by decide) (Or.inl rfl) lkF_M_104 (d_M_game 76 138 (.getfield 104) 3 rfl) rfl ?_
    refine Ak_putI 144 12 hO clX13 (by decide) rfl rfl rfl lkF_M_48 (d_M_game 77 141 (.putfield 48) 3 rfl) rfl (fun V3 hV3 => ?_)
    replace h := wV_some h V3 hV3
    refine Ak_aload_n 145 0 (d_M_game 78 144 (.aload_n 0) 1 rfl) rfl rfl rfl ?_
    obtain ⟨r4, V5, h6, h⟩ := bnd_some h
    refine Ak_cV0 148 5 (c_M_begins h6) rfl hO clX13 rfl mok_M_begins lkM_M_418 (d_M_game 79 145 (.invokevirtual 418) 3 rfl) rfl (by decide) (Nat.le_of_ble_eq_true rfl) ?_
    refine Ak_iload_n 149 1 (d_M_game 80 148 (.iload_n 1) 1 rfl) rfl rfl rfl ?_
    cases h
    exact Ak_iret rfl (d_M_game 81 149 (.ireturn) 1 rfl)
  · replace h := it_f hc h
    refine Ak_aload_n 131 0 (d_M_game 70 130 (.aload_n 0) 1 rfl) rfl rfl rfl ?_
    refine Ak_iconst 132 (d_M_game 71 131 (.iconst 1) 1 rfl) rfl (rk rfl) ?_
    obtain ⟨r7, V8, h9, h⟩ := bnd_some h
    refine Ak_cV1 135 2 (c_M_refuses h9) rfl hO clX13 rfl mok_M_refuses lkM_M_258 (d_M_game 72 132 (.invokevirtual 258) 3 rfl) rfl (by decide) (Nat.le_of_ble_eq_true rfl) ?_
    cases h
    exact Ak_iret rfl (d_M_game 73 135 (.ireturn) 1 rfl)
theorem t_M_game_L83 {S : ASh} {x0 : Int} (hO : isO S x0 13 = true) : ∀ (n : Nat) (V : ASt) (x1 : Int) (r : Int) (V' : ASt), b_M_game_L83 S x0 n V x1 = some (r, V') → AWk m_M_game 9 0 0 0 0 83 [some (aR x0), some (aI x1)] [] S V (some (aI r)) S V' := by
  intro n
  induction n with
  | zero => intro V x1 r V' h; cases h
  | succ n ih =>
    intro V x1 r V' h
    replace ih : ∀ {V : ASt} {x1 : Int} {r : Int} {V' : ASt}, b_M_game_L83 S x0 n V x1 = some (r, V') → AWk m_M_game 9 0 0 0 0 83 [some (aR x0), some (aI x1)] [] S V (some (aI r)) S V' := fun h => ih _ _ _ _ h
    rw [b_M_game_L83] at h
    refine Ak_aload_n 84 0 (d_M_game 49 83 (.aload_n 0) 1 rfl) rfl rfl rfl ?_
    refine Ak_getI 87 8 hO clX13 (by decide) (Or.inl rfl) lkF_M_36 (d_M_game 50 84 (.getfield 36) 3 rfl) rfl ?_
    refine Ak_if_ne 107 90 (d_M_game 51 87 (.ifCond .ne 20) 3 rfl) rfl rfl (fun hc => ?_) (fun hc => ?_)
    · replace h := it_f hc h
      refine Ak_keep [true, true] ?_
      exact t_M_game_J107 hO h
    · replace h := it_t hc h
      refine Ak_aload_n 91 0 (d_M_game 52 90 (.aload_n 0) 1 rfl) rfl rfl rfl ?_
      refine Ak_getI 94 3 hO clX13 (by decide) (Or.inl rfl) lkF_M_20 (d_M_game 53 91 (.getfield 20) 3 rfl) rfl ?_
      refine Ak_if_eq 107 97 (d_M_game 54 94 (.ifCond .eq 13) 3 rfl) rfl rfl (fun hc => ?_) (fun hc => ?_)
      · replace h := it_t hc h
        refine Ak_keep [true, true] ?_
        exact t_M_game_J107 hO h
      · replace h := it_f hc h
        refine Ak_aload_n 98 0 (d_M_game 55 97 (.aload_n 0) 1 rfl) rfl rfl rfl ?_
        obtain ⟨r10, V11, h12, h⟩ := bnd_some h
        refine Ak_cV0 101 8 (c_M_statement h12) rfl hO clX13 rfl mok_M_statement lkM_M_415 (d_M_game 56 98 (.invokevirtual 415) 3 rfl) rfl (by decide) (Nat.le_of_ble_eq_true rfl) ?_
        refine Ak_iinc 104 (d_M_game 57 101 (.iinc 1 1) 3 rfl) rfl rfl (by decide) ?_
        refine Ak_goto 83 (d_M_game 58 104 (.goto (-21)) 3 rfl) rfl ?_
        refine Ak_keep [true, true] ?_
        exact ih h
theorem c_M_game {S : ASh} {V : ASt} {x0 : Int} {r : Int} {V' : ASt} (h : f_M_game S V x0 = some (r, V')) : ACt m_M_game 9 0 0 [(aR x0)] S V (some (aI r)) S V' := by
  unfold f_M_game at h
  obtain ⟨hO, h⟩ := gd_some h
  refine ACt_of (plainFor_of_name rfl) rfl (Nat.le_of_ble_eq_true rfl) ?_
  show AWk m_M_game 9 0 0 0 0 0 [some (aR x0)] [] S V (some (aI r)) S V'
  refine Ak_aload_n 1 0 (d_M_game 0 0 (.aload_n 0) 1 rfl) rfl rfl rfl ?_
  refine Ak_aload_n 2 0 (d_M_game 1 1 (.aload_n 0) 1 rfl) rfl rfl rfl ?_
  refine Ak_getI 5 1 hO clX13 (by decide) (Or.inl rfl) lkF_M_13 (d_M_game 2 2 (.getfield 13) 3 rfl) rfl ?_
  refine Ak_putI 8 2 hO clX13 (by decide) rfl rfl rfl lkF_M_17 (d_M_game 3 5 (.putfield 17) 3 rfl) rfl (fun V13 hV13 => ?_)
  replace h := wV_some h V13 hV13
  refine Ak_aload_n 9 0 (d_M_game 4 8 (.aload_n 0) 1 rfl) rfl rfl rfl ?_
  refine Ak_iconst 10 (d_M_game 5 9 (.iconst 0) 1 rfl) rfl (rk rfl) ?_
  refine Ak_putI 13 1 hO clX13 (by decide) rfl rfl rfl lkF_M_13 (d_M_game 6 10 (.putfield 13) 3 rfl) rfl (fun V14 hV14 => ?_)
  replace h := wV_some h V14 hV14
  refine Ak_aload_n 14 0 (d_M_game 7 13 (.aload_n 0) 1 rfl) rfl rfl rfl ?_
  refine Ak_iconst 15 (d_M_game 8 14 (.iconst 0) 1 rfl) rfl (rk rfl) ?_
  refine Ak_putI 18 5 hO clX13 (by decide) rfl rfl rfl lkF_M_26 (d_M_game 9 15 (.putfield 26) 3 rfl) rfl (fun V15 hV15 => ?_)
  replace h := wV_some h V15 hV15
  refine Ak_aload_n 19 0 (d_M_game 10 18 (.aload_n 0) 1 rfl) rfl rfl rfl ?_
  refine Ak_iconst 20 (d_M_game 11 19 (.iconst 0) 1 rfl) rfl (rk rfl) ?_
  refine Ak_putI 23 8 hO clX13 (by decide) rfl rfl rfl lkF_M_36 (d_M_game 12 20 (.putfield 36) 3 rfl) rfl (fun V16 hV16 => ?_)
  replace h := wV_some h V16 hV16
  refine Ak_aload_n 24 0 (d_M_game 13 23 (.aload_n 0) 1 rfl) rfl rfl rfl ?_
  refine Ak_iconst 25 (d_M_game 14 24 (.iconst (-1)) 1 rfl) rfl (rk rfl) ?_
  refine Ak_putI 28 9 hO clX13 (by decide) rfl rfl rfl lkF_M_39 (d_M_game 15 25 (.putfield 39) 3 rfl) rfl (fun V17 hV17 => ?_)
  replace h := wV_some h V17 hV17
  refine Ak_aload_n 29 0 (d_M_game 16 28 (.aload_n 0) 1 rfl) rfl rfl rfl ?_
  refine Ak_iconst 30 (d_M_game 17 29 (.iconst 1) 1 rfl) rfl (rk rfl) ?_
  refine Ak_aload_n 31 0 (d_M_game 18 30 (.aload_n 0) 1 rfl) rfl rfl rfl ?_
  refine Ak_getI 34 12 hO clX13 (by decide) (Or.inl rfl) lkF_M_48 (d_M_game 19 31 (.getfield 48) 3 rfl) rfl ?_
  refine Ak_isub 35 (d_M_game 20 34 (.isub) 1 rfl) rfl ?_
  refine Ak_putI 38 30 hO clX13 (by decide) rfl rfl rfl lkF_M_104 (d_M_game 21 35 (.putfield 104) 3 rfl) rfl (fun V18 hV18 => ?_)
  replace h := wV_some h V18 hV18
  refine Ak_aload_n 39 0 (d_M_game 22 38 (.aload_n 0) 1 rfl) rfl rfl rfl ?_
  refine Ak_getF 42 14 hO clX13 (by decide) rfl lkF_M_54 (d_M_game 23 39 (.getfield 54) 3 rfl) rfl ?_
  refine Ak_aload_n 43 0 (d_M_game 24 42 (.aload_n 0) 1 rfl) rfl rfl rfl ?_
  refine Ak_getI 46 30 hO clX13 (by decide) (Or.inl rfl) lkF_M_104 (d_M_game 25 43 (.getfield 104) 3 rfl) rfl ?_
  refine Ak_iconst 47 (d_M_game 26 46 (.iconst 0) 1 rfl) rfl (rk rfl) ?_
  obtain ⟨ha19, h⟩ := gd_some h
  refine Ak_iastore 48 ha19 (d_M_game 27 47 (.iastore) 1 rfl) rfl (fun V20 hV20 => ?_)
  replace h := wV_some h V20 hV20
  refine Ak_aload_n 49 0 (d_M_game 28 48 (.aload_n 0) 1 rfl) rfl rfl rfl ?_
  refine Ak_getF 52 18 hO clX13 (by decide) rfl lkF_M_67 (d_M_game 29 49 (.getfield 67) 3 rfl) rfl ?_
  refine Ak_aload_n 53 0 (d_M_game 30 52 (.aload_n 0) 1 rfl) rfl rfl rfl ?_
  refine Ak_getI 56 30 hO clX13 (by decide) (Or.inl rfl) lkF_M_104 (d_M_game 31 53 (.getfield 104) 3 rfl) rfl ?_
  refine Ak_iconst 57 (d_M_game 32 56 (.iconst 0) 1 rfl) rfl (rk rfl) ?_
  obtain ⟨ha21, h⟩ := gd_some h
  refine Ak_iastore 58 ha21 (d_M_game 33 57 (.iastore) 1 rfl) rfl (fun V22 hV22 => ?_)
  replace h := wV_some h V22 hV22
  refine Ak_aload_n 59 0 (d_M_game 34 58 (.aload_n 0) 1 rfl) rfl rfl rfl ?_
  refine Ak_getF 62 19 hO clX13 (by decide) rfl lkF_M_70 (d_M_game 35 59 (.getfield 70) 3 rfl) rfl ?_
  refine Ak_aload_n 63 0 (d_M_game 36 62 (.aload_n 0) 1 rfl) rfl rfl rfl ?_
  refine Ak_getI 66 30 hO clX13 (by decide) (Or.inl rfl) lkF_M_104 (d_M_game 37 63 (.getfield 104) 3 rfl) rfl ?_
  refine Ak_iconst 67 (d_M_game 38 66 (.iconst 0) 1 rfl) rfl (rk rfl) ?_
  obtain ⟨ha23, h⟩ := gd_some h
  refine Ak_iastore 68 ha23 (d_M_game 39 67 (.iastore) 1 rfl) rfl (fun V24 hV24 => ?_)
  replace h := wV_some h V24 hV24
  refine Ak_aload_n 69 0 (d_M_game 40 68 (.aload_n 0) 1 rfl) rfl rfl rfl ?_
  refine Ak_iconst 70 (d_M_game 41 69 (.iconst 0) 1 rfl) rfl (rk rfl) ?_
  refine Ak_putI 73 29 hO clX13 (by decide) rfl rfl rfl lkF_M_101 (d_M_game 42 70 (.putfield 101) 3 rfl) rfl (fun V25 hV25 => ?_)
  replace h := wV_some h V25 hV25
  refine Ak_iconst 74 (d_M_game 43 73 (.iconst 1) 1 rfl) rfl (rk rfl) ?_
  refine Ak_istore_n 75 1 (d_M_game 44 74 (.istore_n 1) 1 rfl) rfl rfl (by decide) ?_
  refine Ak_aload_n 76 0 (d_M_game 45 75 (.aload_n 0) 1 rfl) rfl rfl rfl ?_
  obtain ⟨r26, V27, h28, h⟩ := bnd_some h
  refine Ak_cV0 79 3 (c_M_ahead h28) rfl hO clX13 rfl mok_M_ahead lkM_M_280 (d_M_game 46 76 (.invokevirtual 280) 3 rfl) rfl (by decide) (Nat.le_of_ble_eq_true rfl) ?_
  refine Ak_aload_n 80 0 (d_M_game 47 79 (.aload_n 0) 1 rfl) rfl rfl rfl ?_
  obtain ⟨r29, V30, h31, h⟩ := bnd_some h
  refine Ak_cV0 83 5 (c_M_board h31) rfl hO clX13 rfl mok_M_board lkM_M_412 (d_M_game 48 80 (.invokevirtual 412) 3 rfl) rfl (by decide) (Nat.le_of_ble_eq_true rfl) ?_
  refine Ak_keep [true, true] ?_
  exact t_M_game_L83 hO FU _ _ _ _ h
theorem c_M_fault {S : ASh} {V : ASt} {x0 x1 : Int} {r : Int} {V' : ASt} (h : f_M_fault S V x0 x1 = some (r, V')) : ACt m_M_fault 2 0 0 [(aR x0), (aI x1)] S V (some (aI r)) S V' := by
  unfold f_M_fault at h
  obtain ⟨hO, h⟩ := gd_some h
  refine ACt_of (plainFor_of_name rfl) rfl (Nat.le_of_ble_eq_true rfl) ?_
  show AWk m_M_fault 2 0 0 0 0 0 [some (aR x0), some (aI x1)] [] S V (some (aI r)) S V'
  refine Ak_iload_n 1 1 (d_M_fault 0 0 (.iload_n 1) 1 rfl) rfl rfl rfl ?_
  refine Ak_if_ne 11 4 (d_M_fault 1 1 (.ifCond .ne 10) 3 rfl) rfl rfl (fun hc => ?_) (fun hc => ?_)
  · replace h := it_f hc h
    refine Ak_iload_n 12 1 (d_M_fault 5 11 (.iload_n 1) 1 rfl) rfl rfl rfl ?_
    refine Ak_iconst 13 (d_M_fault 6 12 (.iconst 1) 1 rfl) rfl (rk rfl) ?_
    refine Ak_icmp_ne 23 16 (d_M_fault 7 13 (.if_icmp .ne 10) 3 rfl) rfl rfl (fun hc => ?_) (fun hc => ?_)
    · replace h := it_f hc h
      refine Ak_iconst 24 (d_M_fault 11 23 (.iconst (-1)) 1 rfl) rfl (rk rfl) ?_
      cases h
      exact Ak_iret rfl (d_M_fault 12 24 (.ireturn) 1 rfl)
    · replace h := it_t hc h
      refine Ak_aload_n 17 0 (d_M_fault 8 16 (.aload_n 0) 1 rfl) rfl rfl rfl ?_
      refine Ak_getI 20 11 hO clX13 (by decide) (Or.inl rfl) lkF_M_45 (d_M_fault 9 17 (.getfield 45) 3 rfl) rfl ?_
      refine Ak_goto 24 (d_M_fault 10 20 (.goto 4) 3 rfl) rfl ?_
      cases h
      exact Ak_iret rfl (d_M_fault 12 24 (.ireturn) 1 rfl)
  · replace h := it_t hc h
    refine Ak_aload_n 5 0 (d_M_fault 2 4 (.aload_n 0) 1 rfl) rfl rfl rfl ?_
    refine Ak_getI 8 10 hO clX13 (by decide) (Or.inl rfl) lkF_M_42 (d_M_fault 3 5 (.getfield 42) 3 rfl) rfl ?_
    refine Ak_goto 24 (d_M_fault 4 8 (.goto 16) 3 rfl) rfl ?_
    cases h
    exact Ak_iret rfl (d_M_fault 12 24 (.ireturn) 1 rfl)
theorem c_M_status {S : ASh} {V : ASt} {x0 x1 : Int} {r : Int} {V' : ASt} (h : f_M_status S V x0 x1 = some (r, V')) : ACt m_M_status 3 0 0 [(aR x0), (aI x1)] S V (some (aI r)) S V' := by
  unfold f_M_status at h
  obtain ⟨hO, h⟩ := gd_some h
  refine ACt_of (plainFor_of_name rfl) rfl (Nat.le_of_ble_eq_true rfl) ?_
  show AWk m_M_status 3 0 0 0 0 0 [some (aR x0), some (aI x1)] [] S V (some (aI r)) S V'
  refine Ak_iload_n 1 1 (d_M_status 0 0 (.iload_n 1) 1 rfl) rfl rfl rfl ?_
  refine Ak_iconst 2 (d_M_status 1 1 (.iconst 0) 1 rfl) rfl (rk rfl) ?_
  refine Ak_iconst 3 (d_M_status 2 2 (.iconst 5) 1 rfl) rfl (rk rfl) ?_
  obtain ⟨r1, V2, h3, h⟩ := bnd_some h
  refine Ak_cS1 6 2 (c_M_is h3) rfl mok_M_is lkM_M_329 (d_M_status 3 3 (.invokestatic 329) 3 rfl) rfl (by decide) (Nat.le_of_ble_eq_true rfl) ?_
  refine Ak_if_eq 18 9 (d_M_status 4 6 (.ifCond .eq 12) 3 rfl) rfl rfl (fun hc => ?_) (fun hc => ?_)
  · replace h := it_t hc h
    refine Ak_iconst 19 (d_M_status 10 18 (.iconst (-1)) 1 rfl) rfl (rk rfl) ?_
    cases h
    exact Ak_iret rfl (d_M_status 11 19 (.ireturn) 1 rfl)
  · replace h := it_f hc h
    refine Ak_aload_n 10 0 (d_M_status 5 9 (.aload_n 0) 1 rfl) rfl rfl rfl ?_
    refine Ak_getF 13 41 hO clX13 (by decide) rfl lkF_M_138 (d_M_status 6 10 (.getfield 138) 3 rfl) rfl ?_
    refine Ak_iload_n 14 1 (d_M_status 7 13 (.iload_n 1) 1 rfl) rfl rfl rfl ?_
    obtain ⟨ha4, h⟩ := gd_some h
    refine Ak_iaload 15 ha4 (d_M_status 8 14 (.iaload) 1 rfl) rfl ?_
    refine Ak_goto 19 (d_M_status 9 15 (.goto 4) 3 rfl) rfl ?_
    cases h
    exact Ak_iret rfl (d_M_status 11 19 (.ireturn) 1 rfl)
theorem c_M_bounded {S : ASh} {V : ASt} {x0 : Int} {r : Int} {V' : ASt} (h : f_M_bounded S V x0 = some (r, V')) : ACt m_M_bounded 2 0 0 [(aL x0)] S V (some (aL r)) S V' := by
  unfold f_M_bounded at h
  refine ACt_of (plainFor_of_name rfl) rfl (Nat.le_of_ble_eq_true rfl) ?_
  show AWk m_M_bounded 2 0 0 0 0 0 [some (aL x0), none] [] S V (some (aL r)) S V'
  refine Ak_lload_n 1 0 (d_M_bounded 0 0 (.lload_n 0) 1 rfl) rfl rfl rfl ?_
  refine Ak_ldc2 4 1000000 (d_M_bounded 1 1 (.ldc2_w 420) 3 rfl) rfl lkJ_M_420 (rkL rfl) ?_
  refine Ak_lcmp 5 (d_M_bounded 2 4 (.lcmp) 1 rfl) rfl ?_
  refine Ak_if_le 14 8 (d_M_bounded 3 5 (.ifCond .le 9) 3 rfl) rfl rfl (fun hc => ?_) (fun hc => ?_)
  · replace h := it_t hc h
    refine Ak_lload_n 15 0 (d_M_bounded 6 14 (.lload_n 0) 1 rfl) rfl rfl rfl ?_
    refine Ak_ldc2 18 (-1000000) (d_M_bounded 7 15 (.ldc2_w 422) 3 rfl) rfl lkJ_M_422 (rkL rfl) ?_
    refine Ak_lcmp 19 (d_M_bounded 8 18 (.lcmp) 1 rfl) rfl ?_
    refine Ak_if_ge 28 22 (d_M_bounded 9 19 (.ifCond .ge 9) 3 rfl) rfl rfl (fun hc => ?_) (fun hc => ?_)
    · replace h := it_t hc h
      refine Ak_lload_n 29 0 (d_M_bounded 12 28 (.lload_n 0) 1 rfl) rfl rfl rfl ?_
      cases h
      exact Ak_lret rfl (d_M_bounded 13 29 (.lreturn) 1 rfl)
    · replace h := it_f hc h
      refine Ak_ldc2 25 (-1000000) (d_M_bounded 10 22 (.ldc2_w 422) 3 rfl) rfl lkJ_M_422 (rkL rfl) ?_
      refine Ak_goto 29 (d_M_bounded 11 25 (.goto 4) 3 rfl) rfl ?_
      cases h
      exact Ak_lret rfl (d_M_bounded 13 29 (.lreturn) 1 rfl)
  · replace h := it_f hc h
    refine Ak_ldc2 11 1000000 (d_M_bounded 4 8 (.ldc2_w 420) 3 rfl) rfl lkJ_M_420 (rkL rfl) ?_
    refine Ak_goto 29 (d_M_bounded 5 11 (.goto 18) 3 rfl) rfl ?_
    cases h
    exact Ak_lret rfl (d_M_bounded 13 29 (.lreturn) 1 rfl)
theorem t_M_over_J43 {S : ASh} {V : ASt} {x4 s0 s1 : Int} {r : Int} {V' : ASt} (h : b_M_over_J43 S  V x4 s0 s1 = some (r, V')) : AWk m_M_over 2 0 0 0 0 43 [none, none, none, none, some (aL x4)] [(aI s1), (aI s0)] S V (some (aL r)) S V' := by
  unfold b_M_over_J43 at h
  refine Ak_icmp_eq 53 46 (d_M_over 30 43 (.if_icmp .eq 10) 3 rfl) rfl rfl (fun hc => ?_) (fun hc => ?_)
  · replace h := it_t hc h
    refine Ak_lload 55 (d_M_over 35 53 (.lload 4) 2 rfl) rfl rfl ?_
    cases h
    exact Ak_lret rfl (d_M_over 36 55 (.lreturn) 1 rfl)
  · replace h := it_f hc h
    refine Ak_lload 48 (d_M_over 31 46 (.lload 4) 2 rfl) rfl rfl ?_
    refine Ak_lconst 49 1 (d_M_over 32 48 (.lconst 1) 1 rfl) rfl rfl (rkL rfl) ?_
    refine Ak_lsub 50 (d_M_over 33 49 (.lsub) 1 rfl) rfl ?_
    refine Ak_goto 55 (d_M_over 34 50 (.goto 5) 3 rfl) rfl ?_
    cases h
    exact Ak_lret rfl (d_M_over 36 55 (.lreturn) 1 rfl)
theorem t_M_over_J32 {S : ASh} {V : ASt} {x2 x4 s0 : Int} {r : Int} {V' : ASt} (h : b_M_over_J32 S  V x2 x4 s0 = some (r, V')) : AWk m_M_over 2 0 0 0 0 32 [none, none, some (aL x2), none, some (aL x4)] [(aI s0)] S V (some (aL r)) S V' := by
  unfold b_M_over_J32 at h
  refine Ak_lload_n 33 2 (d_M_over 23 32 (.lload_n 2) 1 rfl) rfl rfl rfl ?_
  refine Ak_lconst 34 0 (d_M_over 24 33 (.lconst 0) 1 rfl) rfl rfl (rkL rfl) ?_
  refine Ak_lcmp 35 (d_M_over 25 34 (.lcmp) 1 rfl) rfl ?_
  refine Ak_if_ge 42 38 (d_M_over 26 35 (.ifCond .ge 7) 3 rfl) rfl rfl (fun hc => ?_) (fun hc => ?_)
  · replace h := it_t hc h
    refine Ak_iconst 43 (d_M_over 29 42 (.iconst 0) 1 rfl) rfl (rk rfl) ?_
    refine Ak_keep [false, false, false, false, true] ?_
    exact t_M_over_J43  h
  · replace h := it_f hc h
    refine Ak_iconst 39 (d_M_over 27 38 (.iconst 1) 1 rfl) rfl (rk rfl) ?_
    refine Ak_goto 43 (d_M_over 28 39 (.goto 4) 3 rfl) rfl ?_
    refine Ak_keep [false, false, false, false, true] ?_
    exact t_M_over_J43  h
theorem c_M_over {S : ASh} {V : ASt} {x0 x2 : Int} {r : Int} {V' : ASt} (h : f_M_over S V x0 x2 = some (r, V')) : ACt m_M_over 2 0 0 [(aL x0), (aL x2)] S V (some (aL r)) S V' := by
  unfold f_M_over at h
  refine ACt_of (plainFor_of_name rfl) rfl (Nat.le_of_ble_eq_true rfl) ?_
  show AWk m_M_over 2 0 0 0 0 0 [some (aL x0), none, some (aL x2), none] [] S V (some (aL r)) S V'
  refine Ak_lload_n 1 2 (d_M_over 0 0 (.lload_n 2) 1 rfl) rfl rfl rfl ?_
  refine Ak_lconst 2 0 (d_M_over 1 1 (.lconst 0) 1 rfl) rfl rfl (rkL rfl) ?_
  refine Ak_lcmp 3 (d_M_over 2 2 (.lcmp) 1 rfl) rfl ?_
  refine Ak_if_ne 8 6 (d_M_over 3 3 (.ifCond .ne 5) 3 rfl) rfl rfl (fun hc => ?_) (fun hc => ?_)
  · replace h := it_f hc h
    refine Ak_lload_n 9 0 (d_M_over 6 8 (.lload_n 0) 1 rfl) rfl rfl rfl ?_
    refine Ak_lload_n 10 2 (d_M_over 7 9 (.lload_n 2) 1 rfl) rfl rfl rfl ?_
    obtain ⟨hz1, h⟩ := gd_some h
    refine Ak_ldiv 11 (d_M_over 8 10 (.ldiv) 1 rfl) rfl (dec_t hz1) ?_
    refine Ak_lstore 13 (d_M_over 9 11 (.lstore 4) 2 rfl) rfl (by decide) ?_
    refine Ak_lload_n 14 0 (d_M_over 10 13 (.lload_n 0) 1 rfl) rfl rfl rfl ?_
    refine Ak_lload_n 15 2 (d_M_over 11 14 (.lload_n 2) 1 rfl) rfl rfl rfl ?_
    obtain ⟨hz2, h⟩ := gd_some h
    refine Ak_lrem 16 (d_M_over 12 15 (.lrem) 1 rfl) rfl (dec_t hz2) ?_
    refine Ak_lconst 17 0 (d_M_over 13 16 (.lconst 0) 1 rfl) rfl rfl (rkL rfl) ?_
    refine Ak_lcmp 18 (d_M_over 14 17 (.lcmp) 1 rfl) rfl ?_
    refine Ak_if_eq 53 21 (d_M_over 15 18 (.ifCond .eq 35) 3 rfl) rfl rfl (fun hc => ?_) (fun hc => ?_)
    · replace h := it_t hc h
      refine Ak_lload 55 (d_M_over 35 53 (.lload 4) 2 rfl) rfl rfl ?_
      cases h
      exact Ak_lret rfl (d_M_over 36 55 (.lreturn) 1 rfl)
    · replace h := it_f hc h
      refine Ak_lload_n 22 0 (d_M_over 16 21 (.lload_n 0) 1 rfl) rfl rfl rfl ?_
      refine Ak_lconst 23 0 (d_M_over 17 22 (.lconst 0) 1 rfl) rfl rfl (rkL rfl) ?_
      refine Ak_lcmp 24 (d_M_over 18 23 (.lcmp) 1 rfl) rfl ?_
      refine Ak_if_ge 31 27 (d_M_over 19 24 (.ifCond .ge 7) 3 rfl) rfl rfl (fun hc => ?_) (fun hc => ?_)
      · replace h := it_t hc h
        refine Ak_iconst 32 (d_M_over 22 31 (.iconst 0) 1 rfl) rfl (rk rfl) ?_
        refine Ak_keep [false, false, true, false, true] ?_
        exact t_M_over_J32  h
      · replace h := it_f hc h
        refine Ak_iconst 28 (d_M_over 20 27 (.iconst 1) 1 rfl) rfl (rk rfl) ?_
        refine Ak_goto 32 (d_M_over 21 28 (.goto 4) 3 rfl) rfl ?_
        refine Ak_keep [false, false, true, false, true] ?_
        exact t_M_over_J32  h
  · replace h := it_t hc h
    refine Ak_lconst 7 0 (d_M_over 4 6 (.lconst 0) 1 rfl) rfl rfl (rkL rfl) ?_
    cases h
    exact Ak_lret rfl (d_M_over 5 7 (.lreturn) 1 rfl)
theorem c_M_made {S : ASh} {V : ASt} {x0 x1 x3 : Int} {r : Int} {V' : ASt} (h : f_M_made S V x0 x1 x3 = some (r, V')) : ACt m_M_made 3 0 0 [(aI x0), (aL x1), (aL x3)] S V (some (aL r)) S V' := by
  unfold f_M_made at h
  refine ACt_of (plainFor_of_name rfl) rfl (Nat.le_of_ble_eq_true rfl) ?_
  show AWk m_M_made 3 0 0 0 0 0 [some (aI x0), some (aL x1), none, some (aL x3), none] [] S V (some (aL r)) S V'
  refine Ak_iload_n 1 0 (d_M_made 0 0 (.iload_n 0) 1 rfl) rfl rfl rfl ?_
  by_cases hc1 : x0 = 10
  · replace h := it_t hc1 h
    refine Ak_tableIn 60 10 hc1 (d_M_made 1 1 (.tableswitch 170 10 20 #[59, 66, 73, 80, 86, 106, 118, 130, 142, 154, 166]) 59 rfl) (by decide) (by decide) rfl rfl ?_
    refine Ak_lload_n 61 1 (d_M_made 2 60 (.lload_n 1) 1 rfl) rfl rfl rfl ?_
    refine Ak_lload_n 62 3 (d_M_made 3 61 (.lload_n 3) 1 rfl) rfl rfl rfl ?_
    refine Ak_ladd 63 (d_M_made 4 62 (.ladd) 1 rfl) rfl ?_
    obtain ⟨r2, V3, h4, h⟩ := bnd_some h
    refine Ak_cS1 66 2 (c_M_bounded h4) rfl mok_M_bounded lkM_M_424 (d_M_made 5 63 (.invokestatic 424) 3 rfl) rfl (by decide) (Nat.le_of_ble_eq_true rfl) ?_
    cases h
    exact Ak_lret rfl (d_M_made 6 66 (.lreturn) 1 rfl)
  · replace h := it_f hc1 h
    by_cases hc5 : x0 = 11
    · replace h := it_t hc5 h
      refine Ak_tableIn 67 11 hc5 (d_M_made 1 1 (.tableswitch 170 10 20 #[59, 66, 73, 80, 86, 106, 118, 130, 142, 154, 166]) 59 rfl) (by decide) (by decide) rfl rfl ?_
      refine Ak_lload_n 68 1 (d_M_made 7 67 (.lload_n 1) 1 rfl) rfl rfl rfl ?_
      refine Ak_lload_n 69 3 (d_M_made 8 68 (.lload_n 3) 1 rfl) rfl rfl rfl ?_
      refine Ak_lsub 70 (d_M_made 9 69 (.lsub) 1 rfl) rfl ?_
      obtain ⟨r6, V7, h8, h⟩ := bnd_some h
      refine Ak_cS1 73 2 (c_M_bounded h8) rfl mok_M_bounded lkM_M_424 (d_M_made 10 70 (.invokestatic 424) 3 rfl) rfl (by decide) (Nat.le_of_ble_eq_true rfl) ?_
      cases h
      exact Ak_lret rfl (d_M_made 11 73 (.lreturn) 1 rfl)
    · replace h := it_f hc5 h
      by_cases hc9 : x0 = 12
      · replace h := it_t hc9 h
        refine Ak_tableIn 74 12 hc9 (d_M_made 1 1 (.tableswitch 170 10 20 #[59, 66, 73, 80, 86, 106, 118, 130, 142, 154, 166]) 59 rfl) (by decide) (by decide) rfl rfl ?_
        refine Ak_lload_n 75 1 (d_M_made 12 74 (.lload_n 1) 1 rfl) rfl rfl rfl ?_
        refine Ak_lload_n 76 3 (d_M_made 13 75 (.lload_n 3) 1 rfl) rfl rfl rfl ?_
        refine Ak_lmul 77 (d_M_made 14 76 (.lmul) 1 rfl) rfl ?_
        obtain ⟨r10, V11, h12, h⟩ := bnd_some h
        refine Ak_cS1 80 2 (c_M_bounded h12) rfl mok_M_bounded lkM_M_424 (d_M_made 15 77 (.invokestatic 424) 3 rfl) rfl (by decide) (Nat.le_of_ble_eq_true rfl) ?_
        cases h
        exact Ak_lret rfl (d_M_made 16 80 (.lreturn) 1 rfl)
      · replace h := it_f hc9 h
        by_cases hc13 : x0 = 13
        · replace h := it_t hc13 h
          refine Ak_tableIn 81 13 hc13 (d_M_made 1 1 (.tableswitch 170 10 20 #[59, 66, 73, 80, 86, 106, 118, 130, 142, 154, 166]) 59 rfl) (by decide) (by decide) rfl rfl ?_
          refine Ak_lload_n 82 1 (d_M_made 17 81 (.lload_n 1) 1 rfl) rfl rfl rfl ?_
          refine Ak_lload_n 83 3 (d_M_made 18 82 (.lload_n 3) 1 rfl) rfl rfl rfl ?_
          obtain ⟨r14, V15, h16, h⟩ := bnd_some h
          refine Ak_cS1 86 2 (c_M_over h16) rfl mok_M_over lkM_M_428 (d_M_made 19 83 (.invokestatic 428) 3 rfl) rfl (by decide) (Nat.le_of_ble_eq_true rfl) ?_
          cases h
          exact Ak_lret rfl (d_M_made 20 86 (.lreturn) 1 rfl)
        · replace h := it_f hc13 h
          by_cases hc17 : x0 = 14
          · replace h := it_t hc17 h
            refine Ak_tableIn 87 14 hc17 (d_M_made 1 1 (.tableswitch 170 10 20 #[59, 66, 73, 80, 86, 106, 118, 130, 142, 154, 166]) 59 rfl) (by decide) (by decide) rfl rfl ?_
            refine Ak_lload_n 88 3 (d_M_made 21 87 (.lload_n 3) 1 rfl) rfl rfl rfl ?_
            refine Ak_lconst 89 0 (d_M_made 22 88 (.lconst 0) 1 rfl) rfl rfl (rkL rfl) ?_
            refine Ak_lcmp 90 (d_M_made 23 89 (.lcmp) 1 rfl) rfl ?_
            refine Ak_if_ne 97 93 (d_M_made 24 90 (.ifCond .ne 7) 3 rfl) rfl rfl (fun hc => ?_) (fun hc => ?_)
            · replace h := it_f hc h
              refine Ak_lload_n 98 1 (d_M_made 27 97 (.lload_n 1) 1 rfl) rfl rfl rfl ?_
              refine Ak_lload_n 99 3 (d_M_made 28 98 (.lload_n 3) 1 rfl) rfl rfl rfl ?_
              refine Ak_lload_n 100 1 (d_M_made 29 99 (.lload_n 1) 1 rfl) rfl rfl rfl ?_
              refine Ak_lload_n 101 3 (d_M_made 30 100 (.lload_n 3) 1 rfl) rfl rfl rfl ?_
              obtain ⟨r18, V19, h20, h⟩ := bnd_some h
              refine Ak_cS1 104 2 (c_M_over h20) rfl mok_M_over lkM_M_428 (d_M_made 31 101 (.invokestatic 428) 3 rfl) rfl (by decide) (Nat.le_of_ble_eq_true rfl) ?_
              refine Ak_lmul 105 (d_M_made 32 104 (.lmul) 1 rfl) rfl ?_
              refine Ak_lsub 106 (d_M_made 33 105 (.lsub) 1 rfl) rfl ?_
              cases h
              exact Ak_lret rfl (d_M_made 34 106 (.lreturn) 1 rfl)
            · replace h := it_t hc h
              refine Ak_lconst 94 0 (d_M_made 25 93 (.lconst 0) 1 rfl) rfl rfl (rkL rfl) ?_
              refine Ak_goto 106 (d_M_made 26 94 (.goto 12) 3 rfl) rfl ?_
              cases h
              exact Ak_lret rfl (d_M_made 34 106 (.lreturn) 1 rfl)
          · replace h := it_f hc17 h
            by_cases hc21 : x0 = 15
            · replace h := it_t hc21 h
              refine Ak_tableIn 107 15 hc21 (d_M_made 1 1 (.tableswitch 170 10 20 #[59, 66, 73, 80, 86, 106, 118, 130, 142, 154, 166]) 59 rfl) (by decide) (by decide) rfl rfl ?_
              refine Ak_lload_n 108 1 (d_M_made 35 107 (.lload_n 1) 1 rfl) rfl rfl rfl ?_
              refine Ak_lload_n 109 3 (d_M_made 36 108 (.lload_n 3) 1 rfl) rfl rfl rfl ?_
              refine Ak_lcmp 110 (d_M_made 37 109 (.lcmp) 1 rfl) rfl ?_
              refine Ak_if_ge 117 113 (d_M_made 38 110 (.ifCond .ge 7) 3 rfl) rfl rfl (fun hc => ?_) (fun hc => ?_)
              · replace h := it_t hc h
                refine Ak_lload_n 118 3 (d_M_made 41 117 (.lload_n 3) 1 rfl) rfl rfl rfl ?_
                cases h
                exact Ak_lret rfl (d_M_made 42 118 (.lreturn) 1 rfl)
              · replace h := it_f hc h
                refine Ak_lload_n 114 1 (d_M_made 39 113 (.lload_n 1) 1 rfl) rfl rfl rfl ?_
                refine Ak_goto 118 (d_M_made 40 114 (.goto 4) 3 rfl) rfl ?_
                cases h
                exact Ak_lret rfl (d_M_made 42 118 (.lreturn) 1 rfl)
            · replace h := it_f hc21 h
              by_cases hc22 : x0 = 16
              · replace h := it_t hc22 h
                refine Ak_tableIn 119 16 hc22 (d_M_made 1 1 (.tableswitch 170 10 20 #[59, 66, 73, 80, 86, 106, 118, 130, 142, 154, 166]) 59 rfl) (by decide) (by decide) rfl rfl ?_
                refine Ak_lload_n 120 1 (d_M_made 43 119 (.lload_n 1) 1 rfl) rfl rfl rfl ?_
                refine Ak_lload_n 121 3 (d_M_made 44 120 (.lload_n 3) 1 rfl) rfl rfl rfl ?_
                refine Ak_lcmp 122 (d_M_made 45 121 (.lcmp) 1 rfl) rfl ?_
                refine Ak_if_le 129 125 (d_M_made 46 122 (.ifCond .le 7) 3 rfl) rfl rfl (fun hc => ?_) (fun hc => ?_)
                · replace h := it_t hc h
                  refine Ak_lload_n 130 3 (d_M_made 49 129 (.lload_n 3) 1 rfl) rfl rfl rfl ?_
                  cases h
                  exact Ak_lret rfl (d_M_made 50 130 (.lreturn) 1 rfl)
                · replace h := it_f hc h
                  refine Ak_lload_n 126 1 (d_M_made 47 125 (.lload_n 1) 1 rfl) rfl rfl rfl ?_
                  refine Ak_goto 130 (d_M_made 48 126 (.goto 4) 3 rfl) rfl ?_
                  cases h
                  exact Ak_lret rfl (d_M_made 50 130 (.lreturn) 1 rfl)
              · replace h := it_f hc22 h
                by_cases hc23 : x0 = 17
                · replace h := it_t hc23 h
                  refine Ak_tableIn 131 17 hc23 (d_M_made 1 1 (.tableswitch 170 10 20 #[59, 66, 73, 80, 86, 106, 118, 130, 142, 154, 166]) 59 rfl) (by decide) (by decide) rfl rfl ?_
                  refine Ak_lload_n 132 1 (d_M_made 51 131 (.lload_n 1) 1 rfl) rfl rfl rfl ?_
                  refine Ak_lload_n 133 3 (d_M_made 52 132 (.lload_n 3) 1 rfl) rfl rfl rfl ?_
                  refine Ak_lcmp 134 (d_M_made 53 133 (.lcmp) 1 rfl) rfl ?_
                  refine Ak_if_ge 141 137 (d_M_made 54 134 (.ifCond .ge 7) 3 rfl) rfl rfl (fun hc => ?_) (fun hc => ?_)
                  · replace h := it_t hc h
                    refine Ak_lconst 142 0 (d_M_made 57 141 (.lconst 0) 1 rfl) rfl rfl (rkL rfl) ?_
                    cases h
                    exact Ak_lret rfl (d_M_made 58 142 (.lreturn) 1 rfl)
                  · replace h := it_f hc h
                    refine Ak_lconst 138 1 (d_M_made 55 137 (.lconst 1) 1 rfl) rfl rfl (rkL rfl) ?_
                    refine Ak_goto 142 (d_M_made 56 138 (.goto 4) 3 rfl) rfl ?_
                    cases h
                    exact Ak_lret rfl (d_M_made 58 142 (.lreturn) 1 rfl)
                · replace h := it_f hc23 h
                  by_cases hc24 : x0 = 18
                  · replace h := it_t hc24 h
                    refine Ak_tableIn 143 18 hc24 (d_M_made 1 1 (.tableswitch 170 10 20 #[59, 66, 73, 80, 86, 106, 118, 130, 142, 154, 166]) 59 rfl) (by decide) (by decide) rfl rfl ?_
                    refine Ak_lload_n 144 1 (d_M_made 59 143 (.lload_n 1) 1 rfl) rfl rfl rfl ?_
                    refine Ak_lload_n 145 3 (d_M_made 60 144 (.lload_n 3) 1 rfl) rfl rfl rfl ?_
                    refine Ak_lcmp 146 (d_M_made 61 145 (.lcmp) 1 rfl) rfl ?_
                    refine Ak_if_le 153 149 (d_M_made 62 146 (.ifCond .le 7) 3 rfl) rfl rfl (fun hc => ?_) (fun hc => ?_)
                    · replace h := it_t hc h
                      refine Ak_lconst 154 0 (d_M_made 65 153 (.lconst 0) 1 rfl) rfl rfl (rkL rfl) ?_
                      cases h
                      exact Ak_lret rfl (d_M_made 66 154 (.lreturn) 1 rfl)
                    · replace h := it_f hc h
                      refine Ak_lconst 150 1 (d_M_made 63 149 (.lconst 1) 1 rfl) rfl rfl (rkL rfl) ?_
                      refine Ak_goto 154 (d_M_made 64 150 (.goto 4) 3 rfl) rfl ?_
                      cases h
                      exact Ak_lret rfl (d_M_made 66 154 (.lreturn) 1 rfl)
                  · replace h := it_f hc24 h
                    by_cases hc25 : x0 = 19
                    · replace h := it_t hc25 h
                      refine Ak_tableIn 155 19 hc25 (d_M_made 1 1 (.tableswitch 170 10 20 #[59, 66, 73, 80, 86, 106, 118, 130, 142, 154, 166]) 59 rfl) (by decide) (by decide) rfl rfl ?_
                      refine Ak_lload_n 156 1 (d_M_made 67 155 (.lload_n 1) 1 rfl) rfl rfl rfl ?_
                      refine Ak_lload_n 157 3 (d_M_made 68 156 (.lload_n 3) 1 rfl) rfl rfl rfl ?_
                      refine Ak_lcmp 158 (d_M_made 69 157 (.lcmp) 1 rfl) rfl ?_
                      refine Ak_if_ne 165 161 (d_M_made 70 158 (.ifCond .ne 7) 3 rfl) rfl rfl (fun hc => ?_) (fun hc => ?_)
                      · replace h := it_f hc h
                        refine Ak_lconst 166 0 (d_M_made 73 165 (.lconst 0) 1 rfl) rfl rfl (rkL rfl) ?_
                        cases h
                        exact Ak_lret rfl (d_M_made 74 166 (.lreturn) 1 rfl)
                      · replace h := it_t hc h
                        refine Ak_lconst 162 1 (d_M_made 71 161 (.lconst 1) 1 rfl) rfl rfl (rkL rfl) ?_
                        refine Ak_goto 166 (d_M_made 72 162 (.goto 4) 3 rfl) rfl ?_
                        cases h
                        exact Ak_lret rfl (d_M_made 74 166 (.lreturn) 1 rfl)
                    · replace h := it_f hc25 h
                      by_cases hc26 : x0 = 20
                      · replace h := it_t hc26 h
                        refine Ak_tableIn 167 20 hc26 (d_M_made 1 1 (.tableswitch 170 10 20 #[59, 66, 73, 80, 86, 106, 118, 130, 142, 154, 166]) 59 rfl) (by decide) (by decide) rfl rfl ?_
                        refine Ak_lload_n 168 1 (d_M_made 75 167 (.lload_n 1) 1 rfl) rfl rfl rfl ?_
                        refine Ak_lload_n 169 3 (d_M_made 76 168 (.lload_n 3) 1 rfl) rfl rfl rfl ?_
                        refine Ak_lmul 170 (d_M_made 77 169 (.lmul) 1 rfl) rfl ?_
                        cases h
                        exact Ak_lret rfl (d_M_made 78 170 (.lreturn) 1 rfl)
                      · replace h := it_f hc26 h
                        refine Ak_tableOut 171 (by omega) (d_M_made 1 1 (.tableswitch 170 10 20 #[59, 66, 73, 80, 86, 106, 118, 130, 142, 154, 166]) 59 rfl) rfl ?_
                        refine Ak_lload_n 172 1 (d_M_made 79 171 (.lload_n 1) 1 rfl) rfl rfl rfl ?_
                        refine Ak_lload_n 173 3 (d_M_made 80 172 (.lload_n 3) 1 rfl) rfl rfl rfl ?_
                        refine Ak_ladd 174 (d_M_made 81 173 (.ladd) 1 rfl) rfl ?_
                        refine Ak_lconst 175 0 (d_M_made 82 174 (.lconst 0) 1 rfl) rfl rfl (rkL rfl) ?_
                        refine Ak_lcmp 176 (d_M_made 83 175 (.lcmp) 1 rfl) rfl ?_
                        refine Ak_if_le 183 179 (d_M_made 84 176 (.ifCond .le 7) 3 rfl) rfl rfl (fun hc => ?_) (fun hc => ?_)
                        · replace h := it_t hc h
                          refine Ak_lconst 184 0 (d_M_made 87 183 (.lconst 0) 1 rfl) rfl rfl (rkL rfl) ?_
                          cases h
                          exact Ak_lret rfl (d_M_made 88 184 (.lreturn) 1 rfl)
                        · replace h := it_f hc h
                          refine Ak_lconst 180 1 (d_M_made 85 179 (.lconst 1) 1 rfl) rfl rfl (rkL rfl) ?_
                          refine Ak_goto 184 (d_M_made 86 180 (.goto 4) 3 rfl) rfl ?_
                          cases h
                          exact Ak_lret rfl (d_M_made 88 184 (.lreturn) 1 rfl)
theorem t_M_works_J85 {S : ASh} {K14 : ASt → Int → Int → Option (Int × ASt)} {V : ASt} {x0 x2 x3 x4 s0 s1 s2 : Int} {r : Int} {V' : ASt} (hO : isO S x0 13 = true) (hK14 : ∀ {V : ASt} {y3 y4 : Int} {r : Int} {V' : ASt}, K14 V y3 y4 = some (r, V') → AWk m_M_works 4 0 0 0 0 14 [some (aR x0), none, some (aI x2), some (aI y3), some (aI y4)] [] S V (some (aL r)) S V') (h : b_M_works_J85 S K14 V x0 x2 x3 x4 s0 s1 s2 = some (r, V')) : AWk m_M_works 4 0 0 0 0 85 [some (aR x0), none, some (aI x2), some (aI x3), some (aI x4)] [(aL s2), (aI s1), (aR s0)] S V (some (aL r)) S V' := by
  unfold b_M_works_J85 at h
  obtain ⟨ha1, h⟩ := gd_some h
  refine Ak_lastore 86 ha1 (d_M_works 46 85 (.lastore) 1 rfl) rfl (fun V2 hV2 => ?_)
  replace h := wV_some h V2 hV2
  refine Ak_iinc 89 (d_M_works 47 86 (.iinc 3 1) 3 rfl) rfl rfl (by decide) ?_
  refine Ak_goto 150 (d_M_works 48 89 (.goto 61) 3 rfl) rfl ?_
  refine Ak_iinc 153 (d_M_works 86 150 (.iinc 4 1) 3 rfl) rfl rfl (by decide) ?_
  refine Ak_goto 14 (d_M_works 87 153 (.goto (-139)) 3 rfl) rfl ?_
  refine Ak_keep [true, false, true, true, true] ?_
  exact hK14 h
theorem t_M_works_L14 {S : ASh} {x0 x2 : Int} (hO : isO S x0 13 = true) : ∀ (n : Nat) (V : ASt) (x3 x4 : Int) (r : Int) (V' : ASt), b_M_works_L14 S x0 x2 n V x3 x4 = some (r, V') → AWk m_M_works 4 0 0 0 0 14 [some (aR x0), none, some (aI x2), some (aI x3), some (aI x4)] [] S V (some (aL r)) S V' := by
  intro n
  induction n with
  | zero => intro V x3 x4 r V' h; cases h
  | succ n ih =>
    intro V x3 x4 r V' h
    replace ih : ∀ {V : ASt} {x3 x4 : Int} {r : Int} {V' : ASt}, b_M_works_L14 S x0 x2 n V x3 x4 = some (r, V') → AWk m_M_works 4 0 0 0 0 14 [some (aR x0), none, some (aI x2), some (aI x3), some (aI x4)] [] S V (some (aL r)) S V' := fun h => ih _ _ _ _ _ h
    rw [b_M_works_L14] at h
    refine Ak_iload 16 (d_M_works 9 14 (.iload 4) 2 rfl) rfl rfl ?_
    refine Ak_sipush 19 (d_M_works 10 16 (.sipush 1800) 3 rfl) rfl (sp_ok rfl) (rk rfl) ?_
    refine Ak_aload_n 20 0 (d_M_works 11 19 (.aload_n 0) 1 rfl) rfl rfl rfl ?_
    refine Ak_getI 23 12 hO clX13 (by decide) (Or.inl rfl) lkF_M_48 (d_M_works 12 20 (.getfield 48) 3 rfl) rfl ?_
    refine Ak_imul 24 (d_M_works 13 23 (.imul) 1 rfl) rfl ?_
    refine Ak_iload_n 25 2 (d_M_works 14 24 (.iload_n 2) 1 rfl) rfl rfl rfl ?_
    refine Ak_iadd 26 (d_M_works 15 25 (.iadd) 1 rfl) rfl ?_
    refine Ak_icmp_ge 156 29 (d_M_works 16 26 (.if_icmp .ge 130) 3 rfl) rfl rfl (fun hc => ?_) (fun hc => ?_)
    · replace h := it_t hc h
      refine Ak_aload_n 157 0 (d_M_works 88 156 (.aload_n 0) 1 rfl) rfl rfl rfl ?_
      refine Ak_getF 160 42 hO clX13 (by decide) rfl lkF_M_141 (d_M_works 89 157 (.getfield 141) 3 rfl) rfl ?_
      refine Ak_iconst 161 (d_M_works 90 160 (.iconst 0) 1 rfl) rfl (rk rfl) ?_
      obtain ⟨ha3, h⟩ := gd_some h
      refine Ak_laload 162 ha3 (d_M_works 91 161 (.laload) 1 rfl) rfl ?_
      cases h
      exact Ak_lret rfl (d_M_works 92 162 (.lreturn) 1 rfl)
    · replace h := it_f hc h
      refine Ak_aload_n 30 0 (d_M_works 17 29 (.aload_n 0) 1 rfl) rfl rfl rfl ?_
      refine Ak_getF 33 27 hO clX13 (by decide) rfl lkF_M_95 (d_M_works 18 30 (.getfield 95) 3 rfl) rfl ?_
      refine Ak_iload 35 (d_M_works 19 33 (.iload 4) 2 rfl) rfl rfl ?_
      obtain ⟨ha4, h⟩ := gd_some h
      refine Ak_iaload 36 ha4 (d_M_works 20 35 (.iaload) 1 rfl) rfl ?_
      refine Ak_istore 38 (d_M_works 21 36 (.istore 5) 2 rfl) rfl (by decide) ?_
      refine Ak_iload 40 (d_M_works 22 38 (.iload 5) 2 rfl) rfl rfl ?_
      refine Ak_bipush 42 (d_M_works 23 40 (.bipush 9) 2 rfl) rfl (bp_ok rfl) (rk rfl) ?_
      refine Ak_icmp_gt 92 45 (d_M_works 24 42 (.if_icmp .gt 50) 3 rfl) rfl rfl (fun hc => ?_) (fun hc => ?_)
      · replace h := it_t hc h
        refine Ak_iload 94 (d_M_works 49 92 (.iload 5) 2 rfl) rfl rfl ?_
        refine Ak_bipush 96 (d_M_works 50 94 (.bipush 22) 2 rfl) rfl (bp_ok rfl) (rk rfl) ?_
        refine Ak_icmp_ne 120 99 (d_M_works 51 96 (.if_icmp .ne 24) 3 rfl) rfl rfl (fun hc => ?_) (fun hc => ?_)
        · replace h := it_f hc h
          refine Ak_iinc 123 (d_M_works 67 120 (.iinc 3 (-1)) 3 rfl) rfl rfl (by decide) ?_
          refine Ak_aload_n 124 0 (d_M_works 68 123 (.aload_n 0) 1 rfl) rfl rfl rfl ?_
          refine Ak_getF 127 42 hO clX13 (by decide) rfl lkF_M_141 (d_M_works 69 124 (.getfield 141) 3 rfl) rfl ?_
          refine Ak_iload_n 128 3 (d_M_works 70 127 (.iload_n 3) 1 rfl) rfl rfl rfl ?_
          refine Ak_iconst 129 (d_M_works 71 128 (.iconst 1) 1 rfl) rfl (rk rfl) ?_
          refine Ak_isub 130 (d_M_works 72 129 (.isub) 1 rfl) rfl ?_
          refine Ak_iload 132 (d_M_works 73 130 (.iload 5) 2 rfl) rfl rfl ?_
          refine Ak_aload_n 133 0 (d_M_works 74 132 (.aload_n 0) 1 rfl) rfl rfl rfl ?_
          refine Ak_getF 136 42 hO clX13 (by decide) rfl lkF_M_141 (d_M_works 75 133 (.getfield 141) 3 rfl) rfl ?_
          refine Ak_iload_n 137 3 (d_M_works 76 136 (.iload_n 3) 1 rfl) rfl rfl rfl ?_
          refine Ak_iconst 138 (d_M_works 77 137 (.iconst 1) 1 rfl) rfl (rk rfl) ?_
          refine Ak_isub 139 (d_M_works 78 138 (.isub) 1 rfl) rfl ?_
          obtain ⟨ha5, h⟩ := gd_some h
          refine Ak_laload 140 ha5 (d_M_works 79 139 (.laload) 1 rfl) rfl ?_
          refine Ak_aload_n 141 0 (d_M_works 80 140 (.aload_n 0) 1 rfl) rfl rfl rfl ?_
          refine Ak_getF 144 42 hO clX13 (by decide) rfl lkF_M_141 (d_M_works 81 141 (.getfield 141) 3 rfl) rfl ?_
          refine Ak_iload_n 145 3 (d_M_works 82 144 (.iload_n 3) 1 rfl) rfl rfl rfl ?_
          obtain ⟨ha6, h⟩ := gd_some h
          refine Ak_laload 146 ha6 (d_M_works 83 145 (.laload) 1 rfl) rfl ?_
          obtain ⟨r7, V8, h9, h⟩ := bnd_some h
          refine Ak_cS1 149 3 (c_M_made h9) rfl mok_M_made lkM_M_432 (d_M_works 84 146 (.invokestatic 432) 3 rfl) rfl (by decide) (Nat.le_of_ble_eq_true rfl) ?_
          refine Ak_lastore 150 ha5 (d_M_works 85 149 (.lastore) 1 rfl) rfl (fun V10 hV10 => ?_)
          replace h := wV_some h V10 hV10
          refine Ak_iinc 153 (d_M_works 86 150 (.iinc 4 1) 3 rfl) rfl rfl (by decide) ?_
          refine Ak_goto 14 (d_M_works 87 153 (.goto (-139)) 3 rfl) rfl ?_
          refine Ak_keep [true, false, true, true, true] ?_
          exact ih h
        · replace h := it_t hc h
          refine Ak_aload_n 100 0 (d_M_works 52 99 (.aload_n 0) 1 rfl) rfl rfl rfl ?_
          refine Ak_getF 103 42 hO clX13 (by decide) rfl lkF_M_141 (d_M_works 53 100 (.getfield 141) 3 rfl) rfl ?_
          refine Ak_iload_n 104 3 (d_M_works 54 103 (.iload_n 3) 1 rfl) rfl rfl rfl ?_
          refine Ak_iconst 105 (d_M_works 55 104 (.iconst 1) 1 rfl) rfl (rk rfl) ?_
          refine Ak_isub 106 (d_M_works 56 105 (.isub) 1 rfl) rfl ?_
          refine Ak_lconst 107 1 (d_M_works 57 106 (.lconst 1) 1 rfl) rfl rfl (rkL rfl) ?_
          refine Ak_aload_n 108 0 (d_M_works 58 107 (.aload_n 0) 1 rfl) rfl rfl rfl ?_
          refine Ak_getF 111 42 hO clX13 (by decide) rfl lkF_M_141 (d_M_works 59 108 (.getfield 141) 3 rfl) rfl ?_
          refine Ak_iload_n 112 3 (d_M_works 60 111 (.iload_n 3) 1 rfl) rfl rfl rfl ?_
          refine Ak_iconst 113 (d_M_works 61 112 (.iconst 1) 1 rfl) rfl (rk rfl) ?_
          refine Ak_isub 114 (d_M_works 62 113 (.isub) 1 rfl) rfl ?_
          obtain ⟨ha11, h⟩ := gd_some h
          refine Ak_laload 115 ha11 (d_M_works 63 114 (.laload) 1 rfl) rfl ?_
          refine Ak_lsub 116 (d_M_works 64 115 (.lsub) 1 rfl) rfl ?_
          refine Ak_lastore 117 ha11 (d_M_works 65 116 (.lastore) 1 rfl) rfl (fun V12 hV12 => ?_)
          replace h := wV_some h V12 hV12
          refine Ak_goto 150 (d_M_works 66 117 (.goto 33) 3 rfl) rfl ?_
          refine Ak_iinc 153 (d_M_works 86 150 (.iinc 4 1) 3 rfl) rfl rfl (by decide) ?_
          refine Ak_goto 14 (d_M_works 87 153 (.goto (-139)) 3 rfl) rfl ?_
          refine Ak_keep [true, false, true, true, true] ?_
          exact ih h
      · replace h := it_f hc h
        refine Ak_aload_n 46 0 (d_M_works 25 45 (.aload_n 0) 1 rfl) rfl rfl rfl ?_
        refine Ak_getF 49 42 hO clX13 (by decide) rfl lkF_M_141 (d_M_works 26 46 (.getfield 141) 3 rfl) rfl ?_
        refine Ak_iload_n 50 3 (d_M_works 27 49 (.iload_n 3) 1 rfl) rfl rfl rfl ?_
        refine Ak_iload 52 (d_M_works 28 50 (.iload 5) 2 rfl) rfl rfl ?_
        refine Ak_if_ne 66 55 (d_M_works 29 52 (.ifCond .ne 14) 3 rfl) rfl rfl (fun hc => ?_) (fun hc => ?_)
        · replace h := it_f hc h
          refine Ak_iload 68 (d_M_works 36 66 (.iload 5) 2 rfl) rfl rfl ?_
          refine Ak_bipush 70 (d_M_works 37 68 (.bipush 9) 2 rfl) rfl (bp_ok rfl) (rk rfl) ?_
          refine Ak_icmp_ne 77 73 (d_M_works 38 70 (.if_icmp .ne 7) 3 rfl) rfl rfl (fun hc => ?_) (fun hc => ?_)
          · replace h := it_f hc h
            refine Ak_aload_n 78 0 (d_M_works 41 77 (.aload_n 0) 1 rfl) rfl rfl rfl ?_
            refine Ak_getF 81 43 hO clX13 (by decide) rfl lkF_M_144 (d_M_works 42 78 (.getfield 144) 3 rfl) rfl ?_
            refine Ak_iload 83 (d_M_works 43 81 (.iload 5) 2 rfl) rfl rfl ?_
            obtain ⟨ha13, h⟩ := gd_some h
            refine Ak_iaload 84 ha13 (d_M_works 44 83 (.iaload) 1 rfl) rfl ?_
            refine Ak_i2l 85 (d_M_works 45 84 (.i2l) 1 rfl) rfl ?_
            refine Ak_keep [true, false, true, true, true] ?_
            exact t_M_works_J85 hO (fun h => ih h) h
          · replace h := it_t hc h
            refine Ak_lconst 74 1 (d_M_works 39 73 (.lconst 1) 1 rfl) rfl rfl (rkL rfl) ?_
            refine Ak_goto 85 (d_M_works 40 74 (.goto 11) 3 rfl) rfl ?_
            refine Ak_keep [true, false, true, true, true] ?_
            exact t_M_works_J85 hO (fun h => ih h) h
        · replace h := it_t hc h
          refine Ak_aload_n 56 0 (d_M_works 30 55 (.aload_n 0) 1 rfl) rfl rfl rfl ?_
          refine Ak_getF 59 28 hO clX13 (by decide) rfl lkF_M_98 (d_M_works 31 56 (.getfield 98) 3 rfl) rfl ?_
          refine Ak_iload 61 (d_M_works 32 59 (.iload 4) 2 rfl) rfl rfl ?_
          obtain ⟨ha14, h⟩ := gd_some h
          refine Ak_iaload 62 ha14 (d_M_works 33 61 (.iaload) 1 rfl) rfl ?_
          refine Ak_i2l 63 (d_M_works 34 62 (.i2l) 1 rfl) rfl ?_
          refine Ak_goto 85 (d_M_works 35 63 (.goto 22) 3 rfl) rfl ?_
          refine Ak_keep [true, false, true, true, true] ?_
          exact t_M_works_J85 hO (fun h => ih h) h
theorem c_M_works {S : ASh} {V : ASt} {x0 x1 x2 : Int} {r : Int} {V' : ASt} (h : f_M_works S V x0 x1 x2 = some (r, V')) : ACt m_M_works 4 0 0 [(aR x0), (aI x1), (aI x2)] S V (some (aL r)) S V' := by
  unfold f_M_works at h
  obtain ⟨hO, h⟩ := gd_some h
  refine ACt_of (plainFor_of_name rfl) rfl (Nat.le_of_ble_eq_true rfl) ?_
  show AWk m_M_works 4 0 0 0 0 0 [some (aR x0), some (aI x1), some (aI x2)] [] S V (some (aL r)) S V'
  refine Ak_iconst 1 (d_M_works 0 0 (.iconst 0) 1 rfl) rfl (rk rfl) ?_
  refine Ak_istore_n 2 3 (d_M_works 1 1 (.istore_n 3) 1 rfl) rfl rfl (by decide) ?_
  refine Ak_sipush 5 (d_M_works 2 2 (.sipush 1800) 3 rfl) rfl (sp_ok rfl) (rk rfl) ?_
  refine Ak_aload_n 6 0 (d_M_works 3 5 (.aload_n 0) 1 rfl) rfl rfl rfl ?_
  refine Ak_getI 9 12 hO clX13 (by decide) (Or.inl rfl) lkF_M_48 (d_M_works 4 6 (.getfield 48) 3 rfl) rfl ?_
  refine Ak_imul 10 (d_M_works 5 9 (.imul) 1 rfl) rfl ?_
  refine Ak_iload_n 11 1 (d_M_works 6 10 (.iload_n 1) 1 rfl) rfl rfl rfl ?_
  refine Ak_iadd 12 (d_M_works 7 11 (.iadd) 1 rfl) rfl ?_
  refine Ak_istore 14 (d_M_works 8 12 (.istore 4) 2 rfl) rfl (by decide) ?_
  refine Ak_keep [true, false, true, true, true] ?_
  exact t_M_works_L14 hO FU _ _ _ _ _ h
theorem c_M_kindNow {S : ASh} {V : ASt} {x0 x1 : Int} {r : Int} {V' : ASt} (h : f_M_kindNow S V x0 x1 = some (r, V')) : ACt m_M_kindNow 3 0 0 [(aR x0), (aI x1)] S V (some (aI r)) S V' := by
  unfold f_M_kindNow at h
  obtain ⟨hO, h⟩ := gd_some h
  refine ACt_of (plainFor_of_name rfl) rfl (Nat.le_of_ble_eq_true rfl) ?_
  show AWk m_M_kindNow 3 0 0 0 0 0 [some (aR x0), some (aI x1)] [] S V (some (aI r)) S V'
  refine Ak_aload_n 1 0 (d_M_kindNow 0 0 (.aload_n 0) 1 rfl) rfl rfl rfl ?_
  refine Ak_getF 4 20 hO clX13 (by decide) rfl lkF_M_73 (d_M_kindNow 1 1 (.getfield 73) 3 rfl) rfl ?_
  refine Ak_aload_n 5 0 (d_M_kindNow 2 4 (.aload_n 0) 1 rfl) rfl rfl rfl ?_
  refine Ak_iload_n 6 1 (d_M_kindNow 3 5 (.iload_n 1) 1 rfl) rfl rfl rfl ?_
  obtain ⟨r1, V2, h3, h⟩ := bnd_some h
  refine Ak_cV1 9 2 (c_M_told h3) rfl hO clX13 rfl mok_M_told lkM_M_439 (d_M_kindNow 4 6 (.invokevirtual 439) 3 rfl) rfl (by decide) (Nat.le_of_ble_eq_true rfl) ?_
  obtain ⟨ha4, h⟩ := gd_some h
  refine Ak_iaload 10 ha4 (d_M_kindNow 5 9 (.iaload) 1 rfl) rfl ?_
  refine Ak_istore_n 11 2 (d_M_kindNow 6 10 (.istore_n 2) 1 rfl) rfl rfl (by decide) ?_
  refine Ak_aload_n 12 0 (d_M_kindNow 7 11 (.aload_n 0) 1 rfl) rfl rfl rfl ?_
  refine Ak_getF 15 46 hO clX13 (by decide) rfl lkF_M_153 (d_M_kindNow 8 12 (.getfield 153) 3 rfl) rfl ?_
  refine Ak_iload_n 16 1 (d_M_kindNow 9 15 (.iload_n 1) 1 rfl) rfl rfl rfl ?_
  obtain ⟨ha5, h⟩ := gd_some h
  refine Ak_baload 17 ha5 (d_M_kindNow 10 16 (.baload) 1 rfl) rfl ?_
  refine Ak_if_ne 22 20 (d_M_kindNow 11 17 (.ifCond .ne 5) 3 rfl) rfl rfl (fun hc => ?_) (fun hc => ?_)
  · replace h := it_f hc h
    refine Ak_iload_n 23 2 (d_M_kindNow 14 22 (.iload_n 2) 1 rfl) rfl rfl rfl ?_
    refine Ak_if_ne 30 26 (d_M_kindNow 15 23 (.ifCond .ne 7) 3 rfl) rfl rfl (fun hc => ?_) (fun hc => ?_)
    · replace h := it_f hc h
      refine Ak_iload_n 31 2 (d_M_kindNow 18 30 (.iload_n 2) 1 rfl) rfl rfl rfl ?_
      refine Ak_iconst 32 (d_M_kindNow 19 31 (.iconst 1) 1 rfl) rfl (rk rfl) ?_
      refine Ak_icmp_ne 39 35 (d_M_kindNow 20 32 (.if_icmp .ne 7) 3 rfl) rfl rfl (fun hc => ?_) (fun hc => ?_)
      · replace h := it_f hc h
        refine Ak_iload_n 40 2 (d_M_kindNow 23 39 (.iload_n 2) 1 rfl) rfl rfl rfl ?_
        refine Ak_iconst 41 (d_M_kindNow 24 40 (.iconst 2) 1 rfl) rfl (rk rfl) ?_
        refine Ak_icmp_ne 48 44 (d_M_kindNow 25 41 (.if_icmp .ne 7) 3 rfl) rfl rfl (fun hc => ?_) (fun hc => ?_)
        · replace h := it_f hc h
          refine Ak_iconst 49 (d_M_kindNow 28 48 (.iconst 2) 1 rfl) rfl (rk rfl) ?_
          cases h
          exact Ak_iret rfl (d_M_kindNow 29 49 (.ireturn) 1 rfl)
        · replace h := it_t hc h
          refine Ak_iconst 45 (d_M_kindNow 26 44 (.iconst 3) 1 rfl) rfl (rk rfl) ?_
          refine Ak_goto 49 (d_M_kindNow 27 45 (.goto 4) 3 rfl) rfl ?_
          cases h
          exact Ak_iret rfl (d_M_kindNow 29 49 (.ireturn) 1 rfl)
      · replace h := it_t hc h
        refine Ak_iconst 36 (d_M_kindNow 21 35 (.iconst 0) 1 rfl) rfl (rk rfl) ?_
        refine Ak_goto 49 (d_M_kindNow 22 36 (.goto 13) 3 rfl) rfl ?_
        cases h
        exact Ak_iret rfl (d_M_kindNow 29 49 (.ireturn) 1 rfl)
    · replace h := it_t hc h
      refine Ak_iconst 27 (d_M_kindNow 16 26 (.iconst 1) 1 rfl) rfl (rk rfl) ?_
      refine Ak_goto 49 (d_M_kindNow 17 27 (.goto 22) 3 rfl) rfl ?_
      cases h
      exact Ak_iret rfl (d_M_kindNow 29 49 (.ireturn) 1 rfl)
  · replace h := it_t hc h
    refine Ak_iload_n 21 2 (d_M_kindNow 12 20 (.iload_n 2) 1 rfl) rfl rfl rfl ?_
    cases h
    exact Ak_iret rfl (d_M_kindNow 13 21 (.ireturn) 1 rfl)
theorem t_M_struckAll_L4 {S : ASh} {x0 : Int} (hO : isO S x0 13 = true) : ∀ (n : Nat) (V : ASt) (x1 x2 : Int) (r : Int) (V' : ASt), b_M_struckAll_L4 S x0 n V x1 x2 = some (r, V') → AWk m_M_struckAll 3 0 0 0 0 4 [some (aR x0), some (aI x1), some (aI x2)] [] S V (some (aI r)) S V' := by
  intro n
  induction n with
  | zero => intro V x1 x2 r V' h; cases h
  | succ n ih =>
    intro V x1 x2 r V' h
    replace ih : ∀ {V : ASt} {x1 x2 : Int} {r : Int} {V' : ASt}, b_M_struckAll_L4 S x0 n V x1 x2 = some (r, V') → AWk m_M_struckAll 3 0 0 0 0 4 [some (aR x0), some (aI x1), some (aI x2)] [] S V (some (aI r)) S V' := fun h => ih _ _ _ _ _ h
    rw [b_M_struckAll_L4] at h
    refine Ak_iload_n 5 2 (d_M_struckAll 4 4 (.iload_n 2) 1 rfl) rfl rfl rfl ?_
    refine Ak_aload_n 6 0 (d_M_struckAll 5 5 (.aload_n 0) 1 rfl) rfl rfl rfl ?_
    obtain ⟨r1, V2, h3, h⟩ := bnd_some h
    refine Ak_cV1 9 2 (c_M_rulesAll h3) rfl hO clX13 rfl mok_M_rulesAll lkM_M_436 (d_M_struckAll 6 6 (.invokevirtual 436) 3 rfl) rfl (by decide) (Nat.le_of_ble_eq_true rfl) ?_
    refine Ak_icmp_ge 35 12 (d_M_struckAll 7 9 (.if_icmp .ge 26) 3 rfl) rfl rfl (fun hc => ?_) (fun hc => ?_)
    · replace h := it_t hc h
      refine Ak_iload_n 36 1 (d_M_struckAll 21 35 (.iload_n 1) 1 rfl) rfl rfl rfl ?_
      cases h
      exact Ak_iret rfl (d_M_struckAll 22 36 (.ireturn) 1 rfl)
    · replace h := it_f hc h
      refine Ak_iload_n 13 1 (d_M_struckAll 8 12 (.iload_n 1) 1 rfl) rfl rfl rfl ?_
      refine Ak_aload_n 14 0 (d_M_struckAll 9 13 (.aload_n 0) 1 rfl) rfl rfl rfl ?_
      refine Ak_getF 17 45 hO clX13 (by decide) rfl lkF_M_150 (d_M_struckAll 10 14 (.getfield 150) 3 rfl) rfl ?_
      refine Ak_iload_n 18 2 (d_M_struckAll 11 17 (.iload_n 2) 1 rfl) rfl rfl rfl ?_
      obtain ⟨ha4, h⟩ := gd_some h
      refine Ak_baload 19 ha4 (d_M_struckAll 12 18 (.baload) 1 rfl) rfl ?_
      refine Ak_if_eq 26 22 (d_M_struckAll 13 19 (.ifCond .eq 7) 3 rfl) rfl rfl (fun hc => ?_) (fun hc => ?_)
      · replace h := it_t hc h
        refine Ak_iconst 27 (d_M_struckAll 16 26 (.iconst 0) 1 rfl) rfl (rk rfl) ?_
        refine Ak_iadd 28 (d_M_struckAll 17 27 (.iadd) 1 rfl) rfl ?_
        refine Ak_istore_n 29 1 (d_M_struckAll 18 28 (.istore_n 1) 1 rfl) rfl rfl (by decide) ?_
        refine Ak_iinc 32 (d_M_struckAll 19 29 (.iinc 2 1) 3 rfl) rfl rfl (by decide) ?_
        refine Ak_goto 4 (d_M_struckAll 20 32 (.goto (-28)) 3 rfl) rfl ?_
        refine Ak_keep [true, true, true] ?_
        exact ih h
      · replace h := it_f hc h
        refine Ak_iconst 23 (d_M_struckAll 14 22 (.iconst 1) 1 rfl) rfl (rk rfl) ?_
        refine Ak_goto 27 (d_M_struckAll 15 23 (.goto 4) 3 rfl) rfl ?_
        refine Ak_iadd 28 (d_M_struckAll 17 27 (.iadd) 1 rfl) rfl ?_
        refine Ak_istore_n 29 1 (d_M_struckAll 18 28 (.istore_n 1) 1 rfl) rfl rfl (by decide) ?_
        refine Ak_iinc 32 (d_M_struckAll 19 29 (.iinc 2 1) 3 rfl) rfl rfl (by decide) ?_
        refine Ak_goto 4 (d_M_struckAll 20 32 (.goto (-28)) 3 rfl) rfl ?_
        refine Ak_keep [true, true, true] ?_
        exact ih h
theorem c_M_struckAll {S : ASh} {V : ASt} {x0 : Int} {r : Int} {V' : ASt} (h : f_M_struckAll S V x0 = some (r, V')) : ACt m_M_struckAll 3 0 0 [(aR x0)] S V (some (aI r)) S V' := by
  unfold f_M_struckAll at h
  obtain ⟨hO, h⟩ := gd_some h
  refine ACt_of (plainFor_of_name rfl) rfl (Nat.le_of_ble_eq_true rfl) ?_
  show AWk m_M_struckAll 3 0 0 0 0 0 [some (aR x0)] [] S V (some (aI r)) S V'
  refine Ak_iconst 1 (d_M_struckAll 0 0 (.iconst 0) 1 rfl) rfl (rk rfl) ?_
  refine Ak_istore_n 2 1 (d_M_struckAll 1 1 (.istore_n 1) 1 rfl) rfl rfl (by decide) ?_
  refine Ak_iconst 3 (d_M_struckAll 2 2 (.iconst 0) 1 rfl) rfl (rk rfl) ?_
  refine Ak_istore_n 4 2 (d_M_struckAll 3 3 (.istore_n 2) 1 rfl) rfl rfl (by decide) ?_
  refine Ak_keep [true, true, true] ?_
  exact t_M_struckAll_L4 hO FU _ _ _ _ _ h
theorem t_M_positions_L4 {S : ASh} {x0 : Int} (hO : isO S x0 13 = true) : ∀ (n : Nat) (V : ASt) (x1 x2 : Int) (r : Int) (V' : ASt), b_M_positions_L4 S x0 n V x1 x2 = some (r, V') → AWk m_M_positions 3 0 0 0 0 4 [some (aR x0), some (aI x1), some (aI x2)] [] S V (some (aI r)) S V' := by
  intro n
  induction n with
  | zero => intro V x1 x2 r V' h; cases h
  | succ n ih =>
    intro V x1 x2 r V' h
    replace ih : ∀ {V : ASt} {x1 x2 : Int} {r : Int} {V' : ASt}, b_M_positions_L4 S x0 n V x1 x2 = some (r, V') → AWk m_M_positions 3 0 0 0 0 4 [some (aR x0), some (aI x1), some (aI x2)] [] S V (some (aI r)) S V' := fun h => ih _ _ _ _ _ h
    rw [b_M_positions_L4] at h
    refine Ak_iload_n 5 2 (d_M_positions 4 4 (.iload_n 2) 1 rfl) rfl rfl rfl ?_
    refine Ak_aload_n 6 0 (d_M_positions 5 5 (.aload_n 0) 1 rfl) rfl rfl rfl ?_
    refine Ak_getF 9 14 hO clX13 (by decide) rfl lkF_M_54 (d_M_positions 6 6 (.getfield 54) 3 rfl) rfl ?_
    refine Ak_aload_n 10 0 (d_M_positions 7 9 (.aload_n 0) 1 rfl) rfl rfl rfl ?_
    refine Ak_getI 13 12 hO clX13 (by decide) (Or.inl rfl) lkF_M_48 (d_M_positions 8 10 (.getfield 48) 3 rfl) rfl ?_
    obtain ⟨ha1, h⟩ := gd_some h
    refine Ak_iaload 14 ha1 (d_M_positions 9 13 (.iaload) 1 rfl) rfl ?_
    refine Ak_icmp_ge 30 17 (d_M_positions 10 14 (.if_icmp .ge 16) 3 rfl) rfl rfl (fun hc => ?_) (fun hc => ?_)
    · replace h := it_t hc h
      refine Ak_iload_n 31 1 (d_M_positions 18 30 (.iload_n 1) 1 rfl) rfl rfl rfl ?_
      cases h
      exact Ak_iret rfl (d_M_positions 19 31 (.ireturn) 1 rfl)
    · replace h := it_f hc h
      refine Ak_iload_n 18 1 (d_M_positions 11 17 (.iload_n 1) 1 rfl) rfl rfl rfl ?_
      refine Ak_aload_n 19 0 (d_M_positions 12 18 (.aload_n 0) 1 rfl) rfl rfl rfl ?_
      obtain ⟨r2, V3, h4, h⟩ := bnd_some h
      refine Ak_cV1 22 2 (c_M_base h4) rfl hO clX13 rfl mok_M_base lkM_M_459 (d_M_positions 13 19 (.invokevirtual 459) 3 rfl) rfl (by decide) (Nat.le_of_ble_eq_true rfl) ?_
      refine Ak_imul 23 (d_M_positions 14 22 (.imul) 1 rfl) rfl ?_
      refine Ak_istore_n 24 1 (d_M_positions 15 23 (.istore_n 1) 1 rfl) rfl rfl (by decide) ?_
      refine Ak_iinc 27 (d_M_positions 16 24 (.iinc 2 1) 3 rfl) rfl rfl (by decide) ?_
      refine Ak_goto 4 (d_M_positions 17 27 (.goto (-23)) 3 rfl) rfl ?_
      refine Ak_keep [true, true, true] ?_
      exact ih h
theorem c_M_positions {S : ASh} {V : ASt} {x0 : Int} {r : Int} {V' : ASt} (h : f_M_positions S V x0 = some (r, V')) : ACt m_M_positions 3 0 0 [(aR x0)] S V (some (aI r)) S V' := by
  unfold f_M_positions at h
  obtain ⟨hO, h⟩ := gd_some h
  refine ACt_of (plainFor_of_name rfl) rfl (Nat.le_of_ble_eq_true rfl) ?_
  show AWk m_M_positions 3 0 0 0 0 0 [some (aR x0)] [] S V (some (aI r)) S V'
  refine Ak_iconst 1 (d_M_positions 0 0 (.iconst 2) 1 rfl) rfl (rk rfl) ?_
  refine Ak_istore_n 2 1 (d_M_positions 1 1 (.istore_n 1) 1 rfl) rfl rfl (by decide) ?_
  refine Ak_iconst 3 (d_M_positions 2 2 (.iconst 0) 1 rfl) rfl (rk rfl) ?_
  refine Ak_istore_n 4 2 (d_M_positions 3 3 (.istore_n 2) 1 rfl) rfl rfl (by decide) ?_
  refine Ak_keep [true, true, true] ?_
  exact t_M_positions_L4 hO FU _ _ _ _ _ h
theorem c_M_has {S : ASh} {V : ASt} {x0 x1 : Int} {r : Int} {V' : ASt} (h : f_M_has S V x0 x1 = some (r, V')) : ACt m_M_has 4 0 0 [(aR x0), (aI x1)] S V (some (aI r)) S V' := by
  unfold f_M_has at h
  obtain ⟨hO, h⟩ := gd_some h
  refine ACt_of (plainFor_of_name rfl) rfl (Nat.le_of_ble_eq_true rfl) ?_
  show AWk m_M_has 4 0 0 0 0 0 [some (aR x0), some (aI x1)] [] S V (some (aI r)) S V'
  refine Ak_iload_n 1 1 (d_M_has 0 0 (.iload_n 1) 1 rfl) rfl rfl rfl ?_
  by_cases hc1 : x1 = 0
  · replace h := it_t hc1 h
    refine Ak_tableIn 48 0 hc1 (d_M_has 1 1 (.tableswitch 113 0 7 #[47, 57, 67, 72, 77, 93, 98, 103]) 47 rfl) (by decide) (by decide) rfl rfl ?_
    refine Ak_aload_n 49 0 (d_M_has 2 48 (.aload_n 0) 1 rfl) rfl rfl rfl ?_
    refine Ak_getF 52 13 hO clX13 (by decide) rfl lkF_M_51 (d_M_has 3 49 (.getfield 51) 3 rfl) rfl ?_
    refine Ak_aload_n 53 0 (d_M_has 4 52 (.aload_n 0) 1 rfl) rfl rfl rfl ?_
    refine Ak_getI 56 12 hO clX13 (by decide) (Or.inl rfl) lkF_M_48 (d_M_has 5 53 (.getfield 48) 3 rfl) rfl ?_
    obtain ⟨ha2, h⟩ := gd_some h
    refine Ak_iaload 57 ha2 (d_M_has 6 56 (.iaload) 1 rfl) rfl ?_
    cases h
    exact Ak_iret rfl (d_M_has 7 57 (.ireturn) 1 rfl)
  · replace h := it_f hc1 h
    by_cases hc3 : x1 = 1
    · replace h := it_t hc3 h
      refine Ak_tableIn 58 1 hc3 (d_M_has 1 1 (.tableswitch 113 0 7 #[47, 57, 67, 72, 77, 93, 98, 103]) 47 rfl) (by decide) (by decide) rfl rfl ?_
      refine Ak_aload_n 59 0 (d_M_has 8 58 (.aload_n 0) 1 rfl) rfl rfl rfl ?_
      refine Ak_getF 62 14 hO clX13 (by decide) rfl lkF_M_54 (d_M_has 9 59 (.getfield 54) 3 rfl) rfl ?_
      refine Ak_aload_n 63 0 (d_M_has 10 62 (.aload_n 0) 1 rfl) rfl rfl rfl ?_
      refine Ak_getI 66 12 hO clX13 (by decide) (Or.inl rfl) lkF_M_48 (d_M_has 11 63 (.getfield 48) 3 rfl) rfl ?_
      obtain ⟨ha4, h⟩ := gd_some h
      refine Ak_iaload 67 ha4 (d_M_has 12 66 (.iaload) 1 rfl) rfl ?_
      cases h
      exact Ak_iret rfl (d_M_has 13 67 (.ireturn) 1 rfl)
    · replace h := it_f hc3 h
      by_cases hc5 : x1 = 2
      · replace h := it_t hc5 h
        refine Ak_tableIn 68 2 hc5 (d_M_has 1 1 (.tableswitch 113 0 7 #[47, 57, 67, 72, 77, 93, 98, 103]) 47 rfl) (by decide) (by decide) rfl rfl ?_
        refine Ak_aload_n 69 0 (d_M_has 14 68 (.aload_n 0) 1 rfl) rfl rfl rfl ?_
        obtain ⟨r6, V7, h8, h⟩ := bnd_some h
        refine Ak_cV1 72 2 (c_M_rulesAll h8) rfl hO clX13 rfl mok_M_rulesAll lkM_M_436 (d_M_has 15 69 (.invokevirtual 436) 3 rfl) rfl (by decide) (Nat.le_of_ble_eq_true rfl) ?_
        cases h
        exact Ak_iret rfl (d_M_has 16 72 (.ireturn) 1 rfl)
      · replace h := it_f hc5 h
        by_cases hc9 : x1 = 3
        · replace h := it_t hc9 h
          refine Ak_tableIn 73 3 hc9 (d_M_has 1 1 (.tableswitch 113 0 7 #[47, 57, 67, 72, 77, 93, 98, 103]) 47 rfl) (by decide) (by decide) rfl rfl ?_
          refine Ak_aload_n 74 0 (d_M_has 17 73 (.aload_n 0) 1 rfl) rfl rfl rfl ?_
          obtain ⟨r10, V11, h12, h⟩ := bnd_some h
          refine Ak_cV1 77 3 (c_M_struckAll h12) rfl hO clX13 rfl mok_M_struckAll lkM_M_445 (d_M_has 18 74 (.invokevirtual 445) 3 rfl) rfl (by decide) (Nat.le_of_ble_eq_true rfl) ?_
          cases h
          exact Ak_iret rfl (d_M_has 19 77 (.ireturn) 1 rfl)
        · replace h := it_f hc9 h
          by_cases hc13 : x1 = 4
          · replace h := it_t hc13 h
            refine Ak_tableIn 78 4 hc13 (d_M_has 1 1 (.tableswitch 113 0 7 #[47, 57, 67, 72, 77, 93, 98, 103]) 47 rfl) (by decide) (by decide) rfl rfl ?_
            refine Ak_aload_n 79 0 (d_M_has 20 78 (.aload_n 0) 1 rfl) rfl rfl rfl ?_
            obtain ⟨r14, V15, h16, h⟩ := bnd_some h
            refine Ak_cV1 82 2 (c_M_hasFields h16) rfl hO clX13 rfl mok_M_hasFields lkM_M_448 (d_M_has 21 79 (.invokevirtual 448) 3 rfl) rfl (by decide) (Nat.le_of_ble_eq_true rfl) ?_
            refine Ak_if_eq 92 85 (d_M_has 22 82 (.ifCond .eq 10) 3 rfl) rfl rfl (fun hc => ?_) (fun hc => ?_)
            · replace h := it_t hc h
              refine Ak_iconst 93 (d_M_has 26 92 (.iconst 0) 1 rfl) rfl (rk rfl) ?_
              cases h
              exact Ak_iret rfl (d_M_has 27 93 (.ireturn) 1 rfl)
            · replace h := it_f hc h
              refine Ak_aload_n 86 0 (d_M_has 23 85 (.aload_n 0) 1 rfl) rfl rfl rfl ?_
              obtain ⟨r17, V18, h19, h⟩ := bnd_some h
              refine Ak_cV1 89 3 (c_M_positions h19) rfl hO clX13 rfl mok_M_positions lkM_M_451 (d_M_has 24 86 (.invokevirtual 451) 3 rfl) rfl (by decide) (Nat.le_of_ble_eq_true rfl) ?_
              refine Ak_goto 93 (d_M_has 25 89 (.goto 4) 3 rfl) rfl ?_
              cases h
              exact Ak_iret rfl (d_M_has 27 93 (.ireturn) 1 rfl)
          · replace h := it_f hc13 h
            by_cases hc20 : x1 = 5
            · replace h := it_t hc20 h
              refine Ak_tableIn 94 5 hc20 (d_M_has 1 1 (.tableswitch 113 0 7 #[47, 57, 67, 72, 77, 93, 98, 103]) 47 rfl) (by decide) (by decide) rfl rfl ?_
              refine Ak_aload_n 95 0 (d_M_has 28 94 (.aload_n 0) 1 rfl) rfl rfl rfl ?_
              refine Ak_getI 98 48 hO clX13 (by decide) (Or.inl rfl) lkF_M_159 (d_M_has 29 95 (.getfield 159) 3 rfl) rfl ?_
              cases h
              exact Ak_iret rfl (d_M_has 30 98 (.ireturn) 1 rfl)
            · replace h := it_f hc20 h
              by_cases hc21 : x1 = 6
              · replace h := it_t hc21 h
                refine Ak_tableIn 99 6 hc21 (d_M_has 1 1 (.tableswitch 113 0 7 #[47, 57, 67, 72, 77, 93, 98, 103]) 47 rfl) (by decide) (by decide) rfl rfl ?_
                refine Ak_aload_n 100 0 (d_M_has 31 99 (.aload_n 0) 1 rfl) rfl rfl rfl ?_
                refine Ak_getI 103 65 hO clX13 (by decide) (Or.inl rfl) lkF_M_210 (d_M_has 32 100 (.getfield 210) 3 rfl) rfl ?_
                cases h
                exact Ak_iret rfl (d_M_has 33 103 (.ireturn) 1 rfl)
              · replace h := it_f hc21 h
                by_cases hc22 : x1 = 7
                · replace h := it_t hc22 h
                  refine Ak_tableIn 104 7 hc22 (d_M_has 1 1 (.tableswitch 113 0 7 #[47, 57, 67, 72, 77, 93, 98, 103]) 47 rfl) (by decide) (by decide) rfl rfl ?_
                  refine Ak_aload_n 105 0 (d_M_has 34 104 (.aload_n 0) 1 rfl) rfl rfl rfl ?_
                  refine Ak_getF 108 18 hO clX13 (by decide) rfl lkF_M_67 (d_M_has 35 105 (.getfield 67) 3 rfl) rfl ?_
                  refine Ak_aload_n 109 0 (d_M_has 36 108 (.aload_n 0) 1 rfl) rfl rfl rfl ?_
                  refine Ak_getI 112 12 hO clX13 (by decide) (Or.inl rfl) lkF_M_48 (d_M_has 37 109 (.getfield 48) 3 rfl) rfl ?_
                  obtain ⟨ha23, h⟩ := gd_some h
                  refine Ak_iaload 113 ha23 (d_M_has 38 112 (.iaload) 1 rfl) rfl ?_
                  cases h
                  exact Ak_iret rfl (d_M_has 39 113 (.ireturn) 1 rfl)
                · replace h := it_f hc22 h
                  refine Ak_tableOut 114 (by omega) (d_M_has 1 1 (.tableswitch 113 0 7 #[47, 57, 67, 72, 77, 93, 98, 103]) 47 rfl) rfl ?_
                  refine Ak_iconst 115 (d_M_has 40 114 (.iconst (-1)) 1 rfl) rfl (rk rfl) ?_
                  cases h
                  exact Ak_iret rfl (d_M_has 41 115 (.ireturn) 1 rfl)
theorem t_M_letter_L41 {S : ASh} {x0 x2 x3 : Int} (hO : isO S x0 13 = true) : ∀ (n : Nat) (V : ASt) (x5 x6 : Int) (r : Int) (V' : ASt), b_M_letter_L41 S x0 x2 x3 n V x5 x6 = some (r, V') → AWk m_M_letter 3 0 0 0 0 41 [some (aR x0), none, some (aI x2), some (aL x3), none, some (aI x5), some (aL x6)] [] S V (some (aI r)) S V' := by
  intro n
  induction n with
  | zero => intro V x5 x6 r V' h; cases h
  | succ n ih =>
    intro V x5 x6 r V' h
    replace ih : ∀ {V : ASt} {x5 x6 : Int} {r : Int} {V' : ASt}, b_M_letter_L41 S x0 x2 x3 n V x5 x6 = some (r, V') → AWk m_M_letter 3 0 0 0 0 41 [some (aR x0), none, some (aI x2), some (aL x3), none, some (aI x5), some (aL x6)] [] S V (some (aI r)) S V' := fun h => ih _ _ _ _ _ h
    rw [b_M_letter_L41] at h
    refine Ak_lload 43 (d_M_letter 27 41 (.lload 6) 2 rfl) rfl rfl ?_
    refine Ak_lconst 44 0 (d_M_letter 28 43 (.lconst 0) 1 rfl) rfl rfl (rkL rfl) ?_
    refine Ak_lcmp 45 (d_M_letter 29 44 (.lcmp) 1 rfl) rfl ?_
    refine Ak_if_eq 61 48 (d_M_letter 30 45 (.ifCond .eq 16) 3 rfl) rfl rfl (fun hc => ?_) (fun hc => ?_)
    · replace h := it_t hc h
      refine Ak_iload_n 62 2 (d_M_letter 37 61 (.iload_n 2) 1 rfl) rfl rfl rfl ?_
      refine Ak_if_lt 71 65 (d_M_letter 38 62 (.ifCond .lt 9) 3 rfl) rfl rfl (fun hc => ?_) (fun hc => ?_)
      · replace h := it_t hc h
        refine Ak_iconst 72 (d_M_letter 42 71 (.iconst (-1)) 1 rfl) rfl (rk rfl) ?_
        refine Ak_goto 91 (d_M_letter 43 72 (.goto 19) 3 rfl) rfl ?_
        cases h
        exact Ak_iret rfl (d_M_letter 56 91 (.ireturn) 1 rfl)
      · replace h := it_f hc h
        refine Ak_iload_n 66 2 (d_M_letter 39 65 (.iload_n 2) 1 rfl) rfl rfl rfl ?_
        refine Ak_iload 68 (d_M_letter 40 66 (.iload 5) 2 rfl) rfl rfl ?_
        refine Ak_icmp_lt 75 71 (d_M_letter 41 68 (.if_icmp .lt 7) 3 rfl) rfl rfl (fun hc => ?_) (fun hc => ?_)
        · replace h := it_t hc h
          refine Ak_lload_n 76 3 (d_M_letter 44 75 (.lload_n 3) 1 rfl) rfl rfl rfl ?_
          refine Ak_bipush 78 (d_M_letter 45 76 (.bipush 8) 2 rfl) rfl (bp_ok rfl) (rk rfl) ?_
          refine Ak_iload 80 (d_M_letter 46 78 (.iload 5) 2 rfl) rfl rfl ?_
          refine Ak_iconst 81 (d_M_letter 47 80 (.iconst 1) 1 rfl) rfl (rk rfl) ?_
          refine Ak_isub 82 (d_M_letter 48 81 (.isub) 1 rfl) rfl ?_
          refine Ak_iload_n 83 2 (d_M_letter 49 82 (.iload_n 2) 1 rfl) rfl rfl rfl ?_
          refine Ak_isub 84 (d_M_letter 50 83 (.isub) 1 rfl) rfl ?_
          refine Ak_imul 85 (d_M_letter 51 84 (.imul) 1 rfl) rfl ?_
          refine Ak_lushr 86 (d_M_letter 52 85 (.lushr) 1 rfl) rfl ?_
          refine Ak_ldc2 89 255 (d_M_letter 53 86 (.ldc2_w 454) 3 rfl) rfl lkJ_M_454 (rkL rfl) ?_
          refine Ak_land 90 (d_M_letter 54 89 (.land) 1 rfl) rfl ?_
          refine Ak_l2i 91 (d_M_letter 55 90 (.l2i) 1 rfl) rfl ?_
          cases h
          exact Ak_iret rfl (d_M_letter 56 91 (.ireturn) 1 rfl)
        · replace h := it_f hc h
          refine Ak_iconst 72 (d_M_letter 42 71 (.iconst (-1)) 1 rfl) rfl (rk rfl) ?_
          refine Ak_goto 91 (d_M_letter 43 72 (.goto 19) 3 rfl) rfl ?_
          cases h
          exact Ak_iret rfl (d_M_letter 56 91 (.ireturn) 1 rfl)
    · replace h := it_f hc h
      refine Ak_iinc 51 (d_M_letter 31 48 (.iinc 5 1) 3 rfl) rfl rfl (by decide) ?_
      refine Ak_lload 53 (d_M_letter 32 51 (.lload 6) 2 rfl) rfl rfl ?_
      refine Ak_bipush 55 (d_M_letter 33 53 (.bipush 8) 2 rfl) rfl (bp_ok rfl) (rk rfl) ?_
      refine Ak_lushr 56 (d_M_letter 34 55 (.lushr) 1 rfl) rfl ?_
      refine Ak_lstore 58 (d_M_letter 35 56 (.lstore 6) 2 rfl) rfl (by decide) ?_
      refine Ak_goto 41 (d_M_letter 36 58 (.goto (-17)) 3 rfl) rfl ?_
      refine Ak_keep [true, false, true, true, false, true, true] ?_
      exact ih h
theorem c_M_letter {S : ASh} {V : ASt} {x0 x1 x2 : Int} {r : Int} {V' : ASt} (h : f_M_letter S V x0 x1 x2 = some (r, V')) : ACt m_M_letter 3 0 0 [(aR x0), (aI x1), (aI x2)] S V (some (aI r)) S V' := by
  unfold f_M_letter at h
  obtain ⟨hO, h⟩ := gd_some h
  refine ACt_of (plainFor_of_name rfl) rfl (Nat.le_of_ble_eq_true rfl) ?_
  show AWk m_M_letter 3 0 0 0 0 0 [some (aR x0), some (aI x1), some (aI x2)] [] S V (some (aI r)) S V'
  refine Ak_iload_n 1 1 (d_M_letter 0 0 (.iload_n 1) 1 rfl) rfl rfl rfl ?_
  refine Ak_iconst 2 (d_M_letter 1 1 (.iconst 0) 1 rfl) rfl (rk rfl) ?_
  refine Ak_aload_n 3 0 (d_M_letter 2 2 (.aload_n 0) 1 rfl) rfl rfl rfl ?_
  refine Ak_getF 6 14 hO clX13 (by decide) rfl lkF_M_54 (d_M_letter 3 3 (.getfield 54) 3 rfl) rfl ?_
  refine Ak_aload_n 7 0 (d_M_letter 4 6 (.aload_n 0) 1 rfl) rfl rfl rfl ?_
  refine Ak_getI 10 12 hO clX13 (by decide) (Or.inl rfl) lkF_M_48 (d_M_letter 5 7 (.getfield 48) 3 rfl) rfl ?_
  obtain ⟨ha1, h⟩ := gd_some h
  refine Ak_iaload 11 ha1 (d_M_letter 6 10 (.iaload) 1 rfl) rfl ?_
  refine Ak_iconst 12 (d_M_letter 7 11 (.iconst 1) 1 rfl) rfl (rk rfl) ?_
  refine Ak_isub 13 (d_M_letter 8 12 (.isub) 1 rfl) rfl ?_
  obtain ⟨r2, V3, h4, h⟩ := bnd_some h
  refine Ak_cS1 16 2 (c_M_is h4) rfl mok_M_is lkM_M_329 (d_M_letter 9 13 (.invokestatic 329) 3 rfl) rfl (by decide) (Nat.le_of_ble_eq_true rfl) ?_
  refine Ak_if_ne 21 19 (d_M_letter 10 16 (.ifCond .ne 5) 3 rfl) rfl rfl (fun hc => ?_) (fun hc => ?_)
  · replace h := it_f hc h
    refine Ak_aload_n 22 0 (d_M_letter 13 21 (.aload_n 0) 1 rfl) rfl rfl rfl ?_
    refine Ak_getF 25 15 hO clX13 (by decide) rfl lkF_M_57 (d_M_letter 14 22 (.getfield 57) 3 rfl) rfl ?_
    refine Ak_iconst 26 (d_M_letter 15 25 (.iconst 2) 1 rfl) rfl (rk rfl) ?_
    refine Ak_aload_n 27 0 (d_M_letter 16 26 (.aload_n 0) 1 rfl) rfl rfl rfl ?_
    refine Ak_getI 30 12 hO clX13 (by decide) (Or.inl rfl) lkF_M_48 (d_M_letter 17 27 (.getfield 48) 3 rfl) rfl ?_
    refine Ak_imul 31 (d_M_letter 18 30 (.imul) 1 rfl) rfl ?_
    refine Ak_iload_n 32 1 (d_M_letter 19 31 (.iload_n 1) 1 rfl) rfl rfl rfl ?_
    refine Ak_iadd 33 (d_M_letter 20 32 (.iadd) 1 rfl) rfl ?_
    obtain ⟨ha5, h⟩ := gd_some h
    refine Ak_laload 34 ha5 (d_M_letter 21 33 (.laload) 1 rfl) rfl ?_
    refine Ak_lstore_n 35 3 (d_M_letter 22 34 (.lstore_n 3) 1 rfl) rfl rfl (by decide) ?_
    refine Ak_iconst 36 (d_M_letter 23 35 (.iconst 0) 1 rfl) rfl (rk rfl) ?_
    refine Ak_istore 38 (d_M_letter 24 36 (.istore 5) 2 rfl) rfl (by decide) ?_
    refine Ak_lload_n 39 3 (d_M_letter 25 38 (.lload_n 3) 1 rfl) rfl rfl rfl ?_
    refine Ak_lstore 41 (d_M_letter 26 39 (.lstore 6) 2 rfl) rfl (by decide) ?_
    refine Ak_keep [true, false, true, true, false, true, true] ?_
    exact t_M_letter_L41 hO FU _ _ _ _ _ h
  · replace h := it_t hc h
    refine Ak_iconst 20 (d_M_letter 11 19 (.iconst (-1)) 1 rfl) rfl (rk rfl) ?_
    cases h
    exact Ak_iret rfl (d_M_letter 12 20 (.ireturn) 1 rfl)
theorem c_M_rule_II {S : ASh} {V : ASt} {x0 x1 x2 : Int} {r : Int} {V' : ASt} (h : f_M_rule_II S V x0 x1 x2 = some (r, V')) : ACt m_M_rule_II 4 0 0 [(aR x0), (aI x1), (aI x2)] S V (some (aI r)) S V' := by
  unfold f_M_rule_II at h
  obtain ⟨hO, h⟩ := gd_some h
  refine ACt_of (plainFor_of_name rfl) rfl (Nat.le_of_ble_eq_true rfl) ?_
  show AWk m_M_rule_II 4 0 0 0 0 0 [some (aR x0), some (aI x1), some (aI x2)] [] S V (some (aI r)) S V'
  refine Ak_iload_n 1 1 (d_M_rule_II 0 0 (.iload_n 1) 1 rfl) rfl rfl rfl ?_
  refine Ak_iconst 2 (d_M_rule_II 1 1 (.iconst 0) 1 rfl) rfl (rk rfl) ?_
  refine Ak_aload_n 3 0 (d_M_rule_II 2 2 (.aload_n 0) 1 rfl) rfl rfl rfl ?_
  obtain ⟨r1, V2, h3, h⟩ := bnd_some h
  refine Ak_cV1 6 2 (c_M_rulesAll h3) rfl hO clX13 rfl mok_M_rulesAll lkM_M_436 (d_M_rule_II 3 3 (.invokevirtual 436) 3 rfl) rfl (by decide) (Nat.le_of_ble_eq_true rfl) ?_
  refine Ak_iconst 7 (d_M_rule_II 4 6 (.iconst 1) 1 rfl) rfl (rk rfl) ?_
  refine Ak_isub 8 (d_M_rule_II 5 7 (.isub) 1 rfl) rfl ?_
  obtain ⟨r4, V5, h6, h⟩ := bnd_some h
  refine Ak_cS1 11 2 (c_M_is h6) rfl mok_M_is lkM_M_329 (d_M_rule_II 6 8 (.invokestatic 329) 3 rfl) rfl (by decide) (Nat.le_of_ble_eq_true rfl) ?_
  refine Ak_if_ne 16 14 (d_M_rule_II 7 11 (.ifCond .ne 5) 3 rfl) rfl rfl (fun hc => ?_) (fun hc => ?_)
  · replace h := it_f hc h
    refine Ak_aload_n 17 0 (d_M_rule_II 10 16 (.aload_n 0) 1 rfl) rfl rfl rfl ?_
    refine Ak_getF 20 44 hO clX13 (by decide) rfl lkF_M_147 (d_M_rule_II 11 17 (.getfield 147) 3 rfl) rfl ?_
    refine Ak_iload_n 21 1 (d_M_rule_II 12 20 (.iload_n 1) 1 rfl) rfl rfl rfl ?_
    obtain ⟨ha7, h⟩ := gd_some h
    refine Ak_iaload 22 ha7 (d_M_rule_II 13 21 (.iaload) 1 rfl) rfl ?_
    refine Ak_istore_n 23 3 (d_M_rule_II 14 22 (.istore_n 3) 1 rfl) rfl rfl (by decide) ?_
    refine Ak_iload_n 24 2 (d_M_rule_II 15 23 (.iload_n 2) 1 rfl) rfl rfl rfl ?_
    by_cases hc8 : x2 = 0
    · replace h := it_t hc8 h
      refine Ak_tableIn 68 0 hc8 (d_M_rule_II 16 24 (.tableswitch 115 0 6 #[44, 46, 52, 63, 74, 81, 96]) 44 rfl) (by decide) (by decide) rfl rfl ?_
      refine Ak_iload_n 69 3 (d_M_rule_II 17 68 (.iload_n 3) 1 rfl) rfl rfl rfl ?_
      cases h
      exact Ak_iret rfl (d_M_rule_II 18 69 (.ireturn) 1 rfl)
    · replace h := it_f hc8 h
      by_cases hc9 : x2 = 1
      · replace h := it_t hc9 h
        refine Ak_tableIn 70 1 hc9 (d_M_rule_II 16 24 (.tableswitch 115 0 6 #[44, 46, 52, 63, 74, 81, 96]) 44 rfl) (by decide) (by decide) rfl rfl ?_
        refine Ak_aload_n 71 0 (d_M_rule_II 19 70 (.aload_n 0) 1 rfl) rfl rfl rfl ?_
        refine Ak_iload_n 72 3 (d_M_rule_II 20 71 (.iload_n 3) 1 rfl) rfl rfl rfl ?_
        obtain ⟨r10, V11, h12, h⟩ := bnd_some h
        refine Ak_cV1 75 3 (c_M_kindNow h12) rfl hO clX13 rfl mok_M_kindNow lkM_M_456 (d_M_rule_II 21 72 (.invokevirtual 456) 3 rfl) rfl (by decide) (Nat.le_of_ble_eq_true rfl) ?_
        cases h
        exact Ak_iret rfl (d_M_rule_II 22 75 (.ireturn) 1 rfl)
      · replace h := it_f hc9 h
        by_cases hc13 : x2 = 2
        · replace h := it_t hc13 h
          refine Ak_tableIn 76 2 hc13 (d_M_rule_II 16 24 (.tableswitch 115 0 6 #[44, 46, 52, 63, 74, 81, 96]) 44 rfl) (by decide) (by decide) rfl rfl ?_
          refine Ak_aload_n 77 0 (d_M_rule_II 23 76 (.aload_n 0) 1 rfl) rfl rfl rfl ?_
          refine Ak_getF 80 21 hO clX13 (by decide) rfl lkF_M_76 (d_M_rule_II 24 77 (.getfield 76) 3 rfl) rfl ?_
          refine Ak_aload_n 81 0 (d_M_rule_II 25 80 (.aload_n 0) 1 rfl) rfl rfl rfl ?_
          refine Ak_iload_n 82 3 (d_M_rule_II 26 81 (.iload_n 3) 1 rfl) rfl rfl rfl ?_
          obtain ⟨r14, V15, h16, h⟩ := bnd_some h
          refine Ak_cV1 85 2 (c_M_told h16) rfl hO clX13 rfl mok_M_told lkM_M_439 (d_M_rule_II 27 82 (.invokevirtual 439) 3 rfl) rfl (by decide) (Nat.le_of_ble_eq_true rfl) ?_
          obtain ⟨ha17, h⟩ := gd_some h
          refine Ak_iaload 86 ha17 (d_M_rule_II 28 85 (.iaload) 1 rfl) rfl ?_
          cases h
          exact Ak_iret rfl (d_M_rule_II 29 86 (.ireturn) 1 rfl)
        · replace h := it_f hc13 h
          by_cases hc18 : x2 = 3
          · replace h := it_t hc18 h
            refine Ak_tableIn 87 3 hc18 (d_M_rule_II 16 24 (.tableswitch 115 0 6 #[44, 46, 52, 63, 74, 81, 96]) 44 rfl) (by decide) (by decide) rfl rfl ?_
            refine Ak_aload_n 88 0 (d_M_rule_II 30 87 (.aload_n 0) 1 rfl) rfl rfl rfl ?_
            refine Ak_getF 91 22 hO clX13 (by decide) rfl lkF_M_79 (d_M_rule_II 31 88 (.getfield 79) 3 rfl) rfl ?_
            refine Ak_aload_n 92 0 (d_M_rule_II 32 91 (.aload_n 0) 1 rfl) rfl rfl rfl ?_
            refine Ak_iload_n 93 3 (d_M_rule_II 33 92 (.iload_n 3) 1 rfl) rfl rfl rfl ?_
            obtain ⟨r19, V20, h21, h⟩ := bnd_some h
            refine Ak_cV1 96 2 (c_M_told h21) rfl hO clX13 rfl mok_M_told lkM_M_439 (d_M_rule_II 34 93 (.invokevirtual 439) 3 rfl) rfl (by decide) (Nat.le_of_ble_eq_true rfl) ?_
            obtain ⟨ha22, h⟩ := gd_some h
            refine Ak_iaload 97 ha22 (d_M_rule_II 35 96 (.iaload) 1 rfl) rfl ?_
            cases h
            exact Ak_iret rfl (d_M_rule_II 36 97 (.ireturn) 1 rfl)
          · replace h := it_f hc18 h
            by_cases hc23 : x2 = 4
            · replace h := it_t hc23 h
              refine Ak_tableIn 98 4 hc23 (d_M_rule_II 16 24 (.tableswitch 115 0 6 #[44, 46, 52, 63, 74, 81, 96]) 44 rfl) (by decide) (by decide) rfl rfl ?_
              refine Ak_aload_n 99 0 (d_M_rule_II 37 98 (.aload_n 0) 1 rfl) rfl rfl rfl ?_
              refine Ak_getF 102 47 hO clX13 (by decide) rfl lkF_M_156 (d_M_rule_II 38 99 (.getfield 156) 3 rfl) rfl ?_
              refine Ak_iload_n 103 3 (d_M_rule_II 39 102 (.iload_n 3) 1 rfl) rfl rfl rfl ?_
              obtain ⟨ha24, h⟩ := gd_some h
              refine Ak_iaload 104 ha24 (d_M_rule_II 40 103 (.iaload) 1 rfl) rfl ?_
              cases h
              exact Ak_iret rfl (d_M_rule_II 41 104 (.ireturn) 1 rfl)
            · replace h := it_f hc23 h
              by_cases hc25 : x2 = 5
              · replace h := it_t hc25 h
                refine Ak_tableIn 105 5 hc25 (d_M_rule_II 16 24 (.tableswitch 115 0 6 #[44, 46, 52, 63, 74, 81, 96]) 44 rfl) (by decide) (by decide) rfl rfl ?_
                refine Ak_aload_n 106 0 (d_M_rule_II 42 105 (.aload_n 0) 1 rfl) rfl rfl rfl ?_
                refine Ak_getF 109 45 hO clX13 (by decide) rfl lkF_M_150 (d_M_rule_II 43 106 (.getfield 150) 3 rfl) rfl ?_
                refine Ak_iload_n 110 3 (d_M_rule_II 44 109 (.iload_n 3) 1 rfl) rfl rfl rfl ?_
                obtain ⟨ha26, h⟩ := gd_some h
                refine Ak_baload 111 ha26 (d_M_rule_II 45 110 (.baload) 1 rfl) rfl ?_
                refine Ak_if_eq 118 114 (d_M_rule_II 46 111 (.ifCond .eq 7) 3 rfl) rfl rfl (fun hc => ?_) (fun hc => ?_)
                · replace h := it_t hc h
                  refine Ak_iconst 119 (d_M_rule_II 49 118 (.iconst 0) 1 rfl) rfl (rk rfl) ?_
                  cases h
                  exact Ak_iret rfl (d_M_rule_II 50 119 (.ireturn) 1 rfl)
                · replace h := it_f hc h
                  refine Ak_iconst 115 (d_M_rule_II 47 114 (.iconst 1) 1 rfl) rfl (rk rfl) ?_
                  refine Ak_goto 119 (d_M_rule_II 48 115 (.goto 4) 3 rfl) rfl ?_
                  cases h
                  exact Ak_iret rfl (d_M_rule_II 50 119 (.ireturn) 1 rfl)
              · replace h := it_f hc25 h
                by_cases hc27 : x2 = 6
                · replace h := it_t hc27 h
                  refine Ak_tableIn 120 6 hc27 (d_M_rule_II 16 24 (.tableswitch 115 0 6 #[44, 46, 52, 63, 74, 81, 96]) 44 rfl) (by decide) (by decide) rfl rfl ?_
                  refine Ak_aload_n 121 0 (d_M_rule_II 51 120 (.aload_n 0) 1 rfl) rfl rfl rfl ?_
                  refine Ak_getF 124 24 hO clX13 (by decide) rfl lkF_M_85 (d_M_rule_II 52 121 (.getfield 85) 3 rfl) rfl ?_
                  refine Ak_aload_n 125 0 (d_M_rule_II 53 124 (.aload_n 0) 1 rfl) rfl rfl rfl ?_
                  refine Ak_iload_n 126 3 (d_M_rule_II 54 125 (.iload_n 3) 1 rfl) rfl rfl rfl ?_
                  obtain ⟨r28, V29, h30, h⟩ := bnd_some h
                  refine Ak_cV1 129 2 (c_M_told h30) rfl hO clX13 rfl mok_M_told lkM_M_439 (d_M_rule_II 55 126 (.invokevirtual 439) 3 rfl) rfl (by decide) (Nat.le_of_ble_eq_true rfl) ?_
                  obtain ⟨ha31, h⟩ := gd_some h
                  refine Ak_baload 130 ha31 (d_M_rule_II 56 129 (.baload) 1 rfl) rfl ?_
                  refine Ak_if_eq 137 133 (d_M_rule_II 57 130 (.ifCond .eq 7) 3 rfl) rfl rfl (fun hc => ?_) (fun hc => ?_)
                  · replace h := it_t hc h
                    refine Ak_iconst 138 (d_M_rule_II 60 137 (.iconst 0) 1 rfl) rfl (rk rfl) ?_
                    cases h
                    exact Ak_iret rfl (d_M_rule_II 61 138 (.ireturn) 1 rfl)
                  · replace h := it_f hc h
                    refine Ak_iconst 134 (d_M_rule_II 58 133 (.iconst 1) 1 rfl) rfl (rk rfl) ?_
                    refine Ak_goto 138 (d_M_rule_II 59 134 (.goto 4) 3 rfl) rfl ?_
                    cases h
                    exact Ak_iret rfl (d_M_rule_II 61 138 (.ireturn) 1 rfl)
                · replace h := it_f hc27 h
                  refine Ak_tableOut 139 (by omega) (d_M_rule_II 16 24 (.tableswitch 115 0 6 #[44, 46, 52, 63, 74, 81, 96]) 44 rfl) rfl ?_
                  refine Ak_iconst 140 (d_M_rule_II 62 139 (.iconst (-1)) 1 rfl) rfl (rk rfl) ?_
                  cases h
                  exact Ak_iret rfl (d_M_rule_II 63 140 (.ireturn) 1 rfl)
  · replace h := it_t hc h
    refine Ak_iconst 15 (d_M_rule_II 8 14 (.iconst (-1)) 1 rfl) rfl (rk rfl) ?_
    cases h
    exact Ak_iret rfl (d_M_rule_II 9 15 (.ireturn) 1 rfl)
theorem t_M_spotOf_L17 {S : ASh} {x0 x2 : Int} (hO : isO S x0 13 = true) : ∀ (n : Nat) (V : ASt) (x3 x4 : Int) (r : Int) (V' : ASt), b_M_spotOf_L17 S x0 x2 n V x3 x4 = some (r, V') → AWk m_M_spotOf 3 0 0 0 0 17 [some (aR x0), none, some (aI x2), some (aI x3), some (aI x4)] [] S V (some (aI r)) S V' := by
  intro n
  induction n with
  | zero => intro V x3 x4 r V' h; cases h
  | succ n ih =>
    intro V x3 x4 r V' h
    replace ih : ∀ {V : ASt} {x3 x4 : Int} {r : Int} {V' : ASt}, b_M_spotOf_L17 S x0 x2 n V x3 x4 = some (r, V') → AWk m_M_spotOf 3 0 0 0 0 17 [some (aR x0), none, some (aI x2), some (aI x3), some (aI x4)] [] S V (some (aI r)) S V' := fun h => ih _ _ _ _ _ h
    rw [b_M_spotOf_L17] at h
    refine Ak_iload 19 (d_M_spotOf 12 17 (.iload 4) 2 rfl) rfl rfl ?_
    refine Ak_iload_n 20 2 (d_M_spotOf 13 19 (.iload_n 2) 1 rfl) rfl rfl rfl ?_
    refine Ak_icmp_le 36 23 (d_M_spotOf 14 20 (.if_icmp .le 16) 3 rfl) rfl rfl (fun hc => ?_) (fun hc => ?_)
    · replace h := it_t hc h
      refine Ak_iload_n 37 3 (d_M_spotOf 22 36 (.iload_n 3) 1 rfl) rfl rfl rfl ?_
      refine Ak_aload_n 38 0 (d_M_spotOf 23 37 (.aload_n 0) 1 rfl) rfl rfl rfl ?_
      obtain ⟨r1, V2, h3, h⟩ := bnd_some h
      refine Ak_cV1 41 2 (c_M_base h3) rfl hO clX13 rfl mok_M_base lkM_M_459 (d_M_spotOf 24 38 (.invokevirtual 459) 3 rfl) rfl (by decide) (Nat.le_of_ble_eq_true rfl) ?_
      obtain ⟨hz4, h⟩ := gd_some h
      refine Ak_irem 42 (d_M_spotOf 25 41 (.irem) 1 rfl) rfl (dec_t hz4) ?_
      cases h
      exact Ak_iret rfl (d_M_spotOf 26 42 (.ireturn) 1 rfl)
    · replace h := it_f hc h
      refine Ak_iload_n 24 3 (d_M_spotOf 15 23 (.iload_n 3) 1 rfl) rfl rfl rfl ?_
      refine Ak_aload_n 25 0 (d_M_spotOf 16 24 (.aload_n 0) 1 rfl) rfl rfl rfl ?_
      obtain ⟨r5, V6, h7, h⟩ := bnd_some h
      refine Ak_cV1 28 2 (c_M_base h7) rfl hO clX13 rfl mok_M_base lkM_M_459 (d_M_spotOf 17 25 (.invokevirtual 459) 3 rfl) rfl (by decide) (Nat.le_of_ble_eq_true rfl) ?_
      obtain ⟨hz8, h⟩ := gd_some h
      refine Ak_idiv 29 (d_M_spotOf 18 28 (.idiv) 1 rfl) rfl (dec_t hz8) ?_
      refine Ak_istore_n 30 3 (d_M_spotOf 19 29 (.istore_n 3) 1 rfl) rfl rfl (by decide) ?_
      refine Ak_iinc 33 (d_M_spotOf 20 30 (.iinc 4 (-1)) 3 rfl) rfl rfl (by decide) ?_
      refine Ak_goto 17 (d_M_spotOf 21 33 (.goto (-16)) 3 rfl) rfl ?_
      refine Ak_keep [true, false, true, true, true] ?_
      exact ih h
theorem c_M_spotOf {S : ASh} {V : ASt} {x0 x1 x2 : Int} {r : Int} {V' : ASt} (h : f_M_spotOf S V x0 x1 x2 = some (r, V')) : ACt m_M_spotOf 3 0 0 [(aR x0), (aI x1), (aI x2)] S V (some (aI r)) S V' := by
  unfold f_M_spotOf at h
  obtain ⟨hO, h⟩ := gd_some h
  refine ACt_of (plainFor_of_name rfl) rfl (Nat.le_of_ble_eq_true rfl) ?_
  show AWk m_M_spotOf 3 0 0 0 0 0 [some (aR x0), some (aI x1), some (aI x2)] [] S V (some (aI r)) S V'
  refine Ak_iload_n 1 1 (d_M_spotOf 0 0 (.iload_n 1) 1 rfl) rfl rfl rfl ?_
  refine Ak_iconst 2 (d_M_spotOf 1 1 (.iconst 2) 1 rfl) rfl (rk rfl) ?_
  refine Ak_idiv 3 (d_M_spotOf 2 2 (.idiv) 1 rfl) rfl (by decide) ?_
  refine Ak_istore_n 4 3 (d_M_spotOf 3 3 (.istore_n 3) 1 rfl) rfl rfl (by decide) ?_
  refine Ak_aload_n 5 0 (d_M_spotOf 4 4 (.aload_n 0) 1 rfl) rfl rfl rfl ?_
  refine Ak_getF 8 14 hO clX13 (by decide) rfl lkF_M_54 (d_M_spotOf 5 5 (.getfield 54) 3 rfl) rfl ?_
  refine Ak_aload_n 9 0 (d_M_spotOf 6 8 (.aload_n 0) 1 rfl) rfl rfl rfl ?_
  refine Ak_getI 12 12 hO clX13 (by decide) (Or.inl rfl) lkF_M_48 (d_M_spotOf 7 9 (.getfield 48) 3 rfl) rfl ?_
  obtain ⟨ha9, h⟩ := gd_some h
  refine Ak_iaload 13 ha9 (d_M_spotOf 8 12 (.iaload) 1 rfl) rfl ?_
  refine Ak_iconst 14 (d_M_spotOf 9 13 (.iconst 1) 1 rfl) rfl (rk rfl) ?_
  refine Ak_isub 15 (d_M_spotOf 10 14 (.isub) 1 rfl) rfl ?_
  refine Ak_istore 17 (d_M_spotOf 11 15 (.istore 4) 2 rfl) rfl (by decide) ?_
  refine Ak_keep [true, false, true, true, true] ?_
  exact t_M_spotOf_L17 hO FU _ _ _ _ _ h
theorem t_M_behind_L6 {S : ASh} {x0 x1 x2 x3 : Int} (hO : isO S x0 13 = true) : ∀ (n : Nat) (V : ASt) (x4 x5 : Int) (r : Int) (V' : ASt), b_M_behind_L6 S x0 x1 x2 x3 n V x4 x5 = some (r, V') → AWk m_M_behind 4 0 0 0 0 6 [some (aR x0), some (aI x1), some (aI x2), some (aI x3), some (aI x4), some (aI x5)] [] S V (some (aI r)) S V' := by
  intro n
  induction n with
  | zero => intro V x4 x5 r V' h; cases h
  | succ n ih =>
    intro V x4 x5 r V' h
    replace ih : ∀ {V : ASt} {x4 x5 : Int} {r : Int} {V' : ASt}, b_M_behind_L6 S x0 x1 x2 x3 n V x4 x5 = some (r, V') → AWk m_M_behind 4 0 0 0 0 6 [some (aR x0), some (aI x1), some (aI x2), some (aI x3), some (aI x4), some (aI x5)] [] S V (some (aI r)) S V' := fun h => ih _ _ _ _ _ h
    rw [b_M_behind_L6] at h
    refine Ak_iload 8 (d_M_behind 4 6 (.iload 5) 2 rfl) rfl rfl ?_
    refine Ak_aload_n 9 0 (d_M_behind 5 8 (.aload_n 0) 1 rfl) rfl rfl rfl ?_
    refine Ak_getF 12 14 hO clX13 (by decide) rfl lkF_M_54 (d_M_behind 6 9 (.getfield 54) 3 rfl) rfl ?_
    refine Ak_aload_n 13 0 (d_M_behind 7 12 (.aload_n 0) 1 rfl) rfl rfl rfl ?_
    refine Ak_getI 16 12 hO clX13 (by decide) (Or.inl rfl) lkF_M_48 (d_M_behind 8 13 (.getfield 48) 3 rfl) rfl ?_
    obtain ⟨ha1, h⟩ := gd_some h
    refine Ak_iaload 17 ha1 (d_M_behind 9 16 (.iaload) 1 rfl) rfl ?_
    refine Ak_icmp_ge 53 20 (d_M_behind 10 17 (.if_icmp .ge 36) 3 rfl) rfl rfl (fun hc => ?_) (fun hc => ?_)
    · replace h := it_t hc h
      refine Ak_iconst 54 (d_M_behind 28 53 (.iconst 2) 1 rfl) rfl (rk rfl) ?_
      refine Ak_iload 56 (d_M_behind 29 54 (.iload 4) 2 rfl) rfl rfl ?_
      refine Ak_imul 57 (d_M_behind 30 56 (.imul) 1 rfl) rfl ?_
      refine Ak_iconst 58 (d_M_behind 31 57 (.iconst 1) 1 rfl) rfl (rk rfl) ?_
      refine Ak_iadd 59 (d_M_behind 32 58 (.iadd) 1 rfl) rfl ?_
      refine Ak_iload_n 60 1 (d_M_behind 33 59 (.iload_n 1) 1 rfl) rfl rfl rfl ?_
      refine Ak_iconst 61 (d_M_behind 34 60 (.iconst 2) 1 rfl) rfl (rk rfl) ?_
      refine Ak_irem 62 (d_M_behind 35 61 (.irem) 1 rfl) rfl (by decide) ?_
      refine Ak_isub 63 (d_M_behind 36 62 (.isub) 1 rfl) rfl ?_
      cases h
      exact Ak_iret rfl (d_M_behind 37 63 (.ireturn) 1 rfl)
    · replace h := it_f hc h
      refine Ak_aload_n 21 0 (d_M_behind 11 20 (.aload_n 0) 1 rfl) rfl rfl rfl ?_
      obtain ⟨r2, V3, h4, h⟩ := bnd_some h
      refine Ak_cV1 24 2 (c_M_base h4) rfl hO clX13 rfl mok_M_base lkM_M_459 (d_M_behind 12 21 (.invokevirtual 459) 3 rfl) rfl (by decide) (Nat.le_of_ble_eq_true rfl) ?_
      refine Ak_iload 26 (d_M_behind 13 24 (.iload 4) 2 rfl) rfl rfl ?_
      refine Ak_imul 27 (d_M_behind 14 26 (.imul) 1 rfl) rfl ?_
      refine Ak_iload 29 (d_M_behind 15 27 (.iload 5) 2 rfl) rfl rfl ?_
      refine Ak_iload_n 30 2 (d_M_behind 16 29 (.iload_n 2) 1 rfl) rfl rfl rfl ?_
      refine Ak_icmp_ne 37 33 (d_M_behind 17 30 (.if_icmp .ne 7) 3 rfl) rfl rfl (fun hc => ?_) (fun hc => ?_)
      · replace h := it_f hc h
        refine Ak_aload_n 38 0 (d_M_behind 20 37 (.aload_n 0) 1 rfl) rfl rfl rfl ?_
        refine Ak_iload_n 39 1 (d_M_behind 21 38 (.iload_n 1) 1 rfl) rfl rfl rfl ?_
        refine Ak_iload 41 (d_M_behind 22 39 (.iload 5) 2 rfl) rfl rfl ?_
        obtain ⟨r5, V6, h7, h⟩ := bnd_some h
        refine Ak_cV1 44 3 (c_M_spotOf h7) rfl hO clX13 rfl mok_M_spotOf lkM_M_461 (d_M_behind 23 41 (.invokevirtual 461) 3 rfl) rfl (by decide) (Nat.le_of_ble_eq_true rfl) ?_
        refine Ak_iadd 45 (d_M_behind 24 44 (.iadd) 1 rfl) rfl ?_
        refine Ak_istore 47 (d_M_behind 25 45 (.istore 4) 2 rfl) rfl (by decide) ?_
        refine Ak_iinc 50 (d_M_behind 26 47 (.iinc 5 1) 3 rfl) rfl rfl (by decide) ?_
        refine Ak_goto 6 (d_M_behind 27 50 (.goto (-44)) 3 rfl) rfl ?_
        refine Ak_keep [true, true, true, true, true, true] ?_
        exact ih h
      · replace h := it_t hc h
        refine Ak_iload_n 34 3 (d_M_behind 18 33 (.iload_n 3) 1 rfl) rfl rfl rfl ?_
        refine Ak_goto 44 (d_M_behind 19 34 (.goto 10) 3 rfl) rfl ?_
        refine Ak_iadd 45 (d_M_behind 24 44 (.iadd) 1 rfl) rfl ?_
        refine Ak_istore 47 (d_M_behind 25 45 (.istore 4) 2 rfl) rfl (by decide) ?_
        refine Ak_iinc 50 (d_M_behind 26 47 (.iinc 5 1) 3 rfl) rfl rfl (by decide) ?_
        refine Ak_goto 6 (d_M_behind 27 50 (.goto (-44)) 3 rfl) rfl ?_
        refine Ak_keep [true, true, true, true, true, true] ?_
        exact ih h
theorem c_M_behind {S : ASh} {V : ASt} {x0 x1 x2 x3 : Int} {r : Int} {V' : ASt} (h : f_M_behind S V x0 x1 x2 x3 = some (r, V')) : ACt m_M_behind 4 0 0 [(aR x0), (aI x1), (aI x2), (aI x3)] S V (some (aI r)) S V' := by
  unfold f_M_behind at h
  obtain ⟨hO, h⟩ := gd_some h
  refine ACt_of (plainFor_of_name rfl) rfl (Nat.le_of_ble_eq_true rfl) ?_
  show AWk m_M_behind 4 0 0 0 0 0 [some (aR x0), some (aI x1), some (aI x2), some (aI x3)] [] S V (some (aI r)) S V'
  refine Ak_iconst 1 (d_M_behind 0 0 (.iconst 0) 1 rfl) rfl (rk rfl) ?_
  refine Ak_istore 3 (d_M_behind 1 1 (.istore 4) 2 rfl) rfl (by decide) ?_
  refine Ak_iconst 4 (d_M_behind 2 3 (.iconst 0) 1 rfl) rfl (rk rfl) ?_
  refine Ak_istore 6 (d_M_behind 3 4 (.istore 5) 2 rfl) rfl (by decide) ?_
  refine Ak_keep [true, true, true, true, true, true] ?_
  exact t_M_behind_L6 hO FU _ _ _ _ _ h
theorem t_M_names_L2 {S : ASh} {x0 x1 : Int} (hO : isO S x0 13 = true) : ∀ (n : Nat) (V : ASt) (x2 : Int) (r : Int) (V' : ASt), b_M_names_L2 S x0 x1 n V x2 = some (r, V') → AWk m_M_names 4 0 0 0 0 2 [some (aR x0), some (aI x1), some (aI x2)] [] S V none S V' := by
  intro n
  induction n with
  | zero => intro V x2 r V' h; cases h
  | succ n ih =>
    intro V x2 r V' h
    replace ih : ∀ {V : ASt} {x2 : Int} {r : Int} {V' : ASt}, b_M_names_L2 S x0 x1 n V x2 = some (r, V') → AWk m_M_names 4 0 0 0 0 2 [some (aR x0), some (aI x1), some (aI x2)] [] S V none S V' := fun h => ih _ _ _ _ h
    rw [b_M_names_L2] at h
    refine Ak_iload_n 3 2 (d_M_names 2 2 (.iload_n 2) 1 rfl) rfl rfl rfl ?_
    refine Ak_aload_n 4 0 (d_M_names 3 3 (.aload_n 0) 1 rfl) rfl rfl rfl ?_
    refine Ak_getF 7 14 hO clX13 (by decide) rfl lkF_M_54 (d_M_names 4 4 (.getfield 54) 3 rfl) rfl ?_
    refine Ak_aload_n 8 0 (d_M_names 5 7 (.aload_n 0) 1 rfl) rfl rfl rfl ?_
    refine Ak_getI 11 12 hO clX13 (by decide) (Or.inl rfl) lkF_M_48 (d_M_names 6 8 (.getfield 48) 3 rfl) rfl ?_
    obtain ⟨ha1, h⟩ := gd_some h
    refine Ak_iaload 12 ha1 (d_M_names 7 11 (.iaload) 1 rfl) rfl ?_
    refine Ak_icmp_ge 35 15 (d_M_names 8 12 (.if_icmp .ge 23) 3 rfl) rfl rfl (fun hc => ?_) (fun hc => ?_)
    · replace h := it_t hc h
      cases h
      exact Ak_vret rfl (d_M_names 21 35 (.return_) 1 rfl)
    · replace h := it_f hc h
      refine Ak_aload_n 16 0 (d_M_names 9 15 (.aload_n 0) 1 rfl) rfl rfl rfl ?_
      refine Ak_getF 19 43 hO clX13 (by decide) rfl lkF_M_144 (d_M_names 10 16 (.getfield 144) 3 rfl) rfl ?_
      refine Ak_iconst 20 (d_M_names 11 19 (.iconst 4) 1 rfl) rfl (rk rfl) ?_
      refine Ak_iload_n 21 2 (d_M_names 12 20 (.iload_n 2) 1 rfl) rfl rfl rfl ?_
      refine Ak_iadd 22 (d_M_names 13 21 (.iadd) 1 rfl) rfl ?_
      refine Ak_aload_n 23 0 (d_M_names 14 22 (.aload_n 0) 1 rfl) rfl rfl rfl ?_
      refine Ak_iload_n 24 1 (d_M_names 15 23 (.iload_n 1) 1 rfl) rfl rfl rfl ?_
      refine Ak_iload_n 25 2 (d_M_names 16 24 (.iload_n 2) 1 rfl) rfl rfl rfl ?_
      obtain ⟨r2, V3, h4, h⟩ := bnd_some h
      refine Ak_cV1 28 3 (c_M_spotOf h4) rfl hO clX13 rfl mok_M_spotOf lkM_M_461 (d_M_names 17 25 (.invokevirtual 461) 3 rfl) rfl (by decide) (Nat.le_of_ble_eq_true rfl) ?_
      obtain ⟨ha5, h⟩ := gd_some h
      refine Ak_iastore 29 ha5 (d_M_names 18 28 (.iastore) 1 rfl) rfl (fun V6 hV6 => ?_)
      replace h := wV_some h V6 hV6
      refine Ak_iinc 32 (d_M_names 19 29 (.iinc 2 1) 3 rfl) rfl rfl (by decide) ?_
      refine Ak_goto 2 (d_M_names 20 32 (.goto (-30)) 3 rfl) rfl ?_
      refine Ak_keep [true, true, true] ?_
      exact ih h
theorem c_M_names {S : ASh} {V : ASt} {x0 x1 : Int} {r : Int} {V' : ASt} (h : f_M_names S V x0 x1 = some (r, V')) : ACt m_M_names 4 0 0 [(aR x0), (aI x1)] S V none S V' := by
  unfold f_M_names at h
  obtain ⟨hO, h⟩ := gd_some h
  refine ACt_of (plainFor_of_name rfl) rfl (Nat.le_of_ble_eq_true rfl) ?_
  show AWk m_M_names 4 0 0 0 0 0 [some (aR x0), some (aI x1)] [] S V none S V'
  refine Ak_iconst 1 (d_M_names 0 0 (.iconst 0) 1 rfl) rfl (rk rfl) ?_
  refine Ak_istore_n 2 2 (d_M_names 1 1 (.istore_n 2) 1 rfl) rfl rfl (by decide) ?_
  refine Ak_keep [true, true, true] ?_
  exact t_M_names_L2 hO FU _ _ _ _ h
theorem c_M_holds {S : ASh} {V : ASt} {x0 x1 : Int} {r : Int} {V' : ASt} (h : f_M_holds S V x0 x1 = some (r, V')) : ACt m_M_holds 5 0 0 [(aR x0), (aI x1)] S V (some (aI r)) S V' := by
  unfold f_M_holds at h
  obtain ⟨hO, h⟩ := gd_some h
  refine ACt_of (plainFor_of_name rfl) rfl (Nat.le_of_ble_eq_true rfl) ?_
  show AWk m_M_holds 5 0 0 0 0 0 [some (aR x0), some (aI x1)] [] S V (some (aI r)) S V'
  refine Ak_aload_n 1 0 (d_M_holds 0 0 (.aload_n 0) 1 rfl) rfl rfl rfl ?_
  refine Ak_aload_n 2 0 (d_M_holds 1 1 (.aload_n 0) 1 rfl) rfl rfl rfl ?_
  refine Ak_getF 5 25 hO clX13 (by decide) rfl lkF_M_89 (d_M_holds 2 2 (.getfield 89) 3 rfl) rfl ?_
  refine Ak_aload_n 6 0 (d_M_holds 3 5 (.aload_n 0) 1 rfl) rfl rfl rfl ?_
  refine Ak_iload_n 7 1 (d_M_holds 4 6 (.iload_n 1) 1 rfl) rfl rfl rfl ?_
  obtain ⟨r1, V2, h3, h⟩ := bnd_some h
  refine Ak_cV1 10 2 (c_M_told h3) rfl hO clX13 rfl mok_M_told lkM_M_439 (d_M_holds 5 7 (.invokevirtual 439) 3 rfl) rfl (by decide) (Nat.le_of_ble_eq_true rfl) ?_
  obtain ⟨ha4, h⟩ := gd_some h
  refine Ak_iaload 11 ha4 (d_M_holds 6 10 (.iaload) 1 rfl) rfl ?_
  refine Ak_aload_n 12 0 (d_M_holds 7 11 (.aload_n 0) 1 rfl) rfl rfl rfl ?_
  refine Ak_getF 15 26 hO clX13 (by decide) rfl lkF_M_92 (d_M_holds 8 12 (.getfield 92) 3 rfl) rfl ?_
  refine Ak_aload_n 16 0 (d_M_holds 9 15 (.aload_n 0) 1 rfl) rfl rfl rfl ?_
  refine Ak_iload_n 17 1 (d_M_holds 10 16 (.iload_n 1) 1 rfl) rfl rfl rfl ?_
  obtain ⟨r5, V6, h7, h⟩ := bnd_some h
  refine Ak_cV1 20 2 (c_M_told h7) rfl hO clX13 rfl mok_M_told lkM_M_439 (d_M_holds 11 17 (.invokevirtual 439) 3 rfl) rfl (by decide) (Nat.le_of_ble_eq_true rfl) ?_
  obtain ⟨ha8, h⟩ := gd_some h
  refine Ak_iaload 21 ha8 (d_M_holds 12 20 (.iaload) 1 rfl) rfl ?_
  obtain ⟨r9, V10, h11, h⟩ := bnd_some h
  refine Ak_cV1 24 4 (c_M_works h11) rfl hO clX13 rfl mok_M_works lkM_M_464 (d_M_holds 13 21 (.invokevirtual 464) 3 rfl) rfl (by decide) (Nat.le_of_ble_eq_true rfl) ?_
  refine Ak_lconst 25 1 (d_M_holds 14 24 (.lconst 1) 1 rfl) rfl rfl (rkL rfl) ?_
  refine Ak_lcmp 26 (d_M_holds 15 25 (.lcmp) 1 rfl) rfl ?_
  refine Ak_if_ne 33 29 (d_M_holds 16 26 (.ifCond .ne 7) 3 rfl) rfl rfl (fun hc => ?_) (fun hc => ?_)
  · replace h := it_f hc h
    refine Ak_iconst 34 (d_M_holds 19 33 (.iconst 0) 1 rfl) rfl (rk rfl) ?_
    cases h
    exact Ak_zret (Or.inl rfl) rfl (d_M_holds 20 34 (.ireturn) 1 rfl)
  · replace h := it_t hc h
    refine Ak_iconst 30 (d_M_holds 17 29 (.iconst 1) 1 rfl) rfl (rk rfl) ?_
    refine Ak_goto 34 (d_M_holds 18 30 (.goto 4) 3 rfl) rfl ?_
    cases h
    exact Ak_zret (Or.inr rfl) rfl (d_M_holds 20 34 (.ireturn) 1 rfl)
theorem t_M_goalOf_J49 {S : ASh} {V : ASt} {x0 s0 : Int} {r : Int} {V' : ASt} (hO : isO S x0 13 = true) (h : b_M_goalOf_J49 S  V x0 s0 = some (r, V')) : AWk m_M_goalOf 3 0 0 0 0 49 [some (aR x0)] [(aI s0)] S V (some (aI r)) S V' := by
  unfold b_M_goalOf_J49 at h
  refine Ak_istore 51 (d_M_goalOf 31 49 (.istore 4) 2 rfl) rfl (by decide) ?_
  refine Ak_iload 53 (d_M_goalOf 32 51 (.iload 4) 2 rfl) rfl rfl ?_
  refine Ak_iconst 54 (d_M_goalOf 33 53 (.iconst 0) 1 rfl) rfl (rk rfl) ?_
  refine Ak_aload_n 55 0 (d_M_goalOf 34 54 (.aload_n 0) 1 rfl) rfl rfl rfl ?_
  refine Ak_getF 58 13 hO clX13 (by decide) rfl lkF_M_51 (d_M_goalOf 35 55 (.getfield 51) 3 rfl) rfl ?_
  refine Ak_aload_n 59 0 (d_M_goalOf 36 58 (.aload_n 0) 1 rfl) rfl rfl rfl ?_
  refine Ak_getI 62 12 hO clX13 (by decide) (Or.inl rfl) lkF_M_48 (d_M_goalOf 37 59 (.getfield 48) 3 rfl) rfl ?_
  obtain ⟨ha1, h⟩ := gd_some h
  refine Ak_iaload 63 ha1 (d_M_goalOf 38 62 (.iaload) 1 rfl) rfl ?_
  refine Ak_iconst 64 (d_M_goalOf 39 63 (.iconst 1) 1 rfl) rfl (rk rfl) ?_
  refine Ak_isub 65 (d_M_goalOf 40 64 (.isub) 1 rfl) rfl ?_
  obtain ⟨r2, V3, h4, h⟩ := bnd_some h
  refine Ak_cS1 68 2 (c_M_is h4) rfl mok_M_is lkM_M_329 (d_M_goalOf 41 65 (.invokestatic 329) 3 rfl) rfl (by decide) (Nat.le_of_ble_eq_true rfl) ?_
  refine Ak_if_eq 76 71 (d_M_goalOf 42 68 (.ifCond .eq 8) 3 rfl) rfl rfl (fun hc => ?_) (fun hc => ?_)
  · replace h := it_t hc h
    refine Ak_iconst 77 (d_M_goalOf 45 76 (.iconst (-1)) 1 rfl) rfl (rk rfl) ?_
    cases h
    exact Ak_iret rfl (d_M_goalOf 46 77 (.ireturn) 1 rfl)
  · replace h := it_f hc h
    refine Ak_iload 73 (d_M_goalOf 43 71 (.iload 4) 2 rfl) rfl rfl ?_
    refine Ak_goto 77 (d_M_goalOf 44 73 (.goto 4) 3 rfl) rfl ?_
    cases h
    exact Ak_iret rfl (d_M_goalOf 46 77 (.ireturn) 1 rfl)
theorem c_M_goalOf {S : ASh} {V : ASt} {x0 x1 x2 : Int} {r : Int} {V' : ASt} (h : f_M_goalOf S V x0 x1 x2 = some (r, V')) : ACt m_M_goalOf 3 0 0 [(aR x0), (aI x1), (aI x2)] S V (some (aI r)) S V' := by
  unfold f_M_goalOf at h
  obtain ⟨hO, h⟩ := gd_some h
  refine ACt_of (plainFor_of_name rfl) rfl (Nat.le_of_ble_eq_true rfl) ?_
  show AWk m_M_goalOf 3 0 0 0 0 0 [some (aR x0), some (aI x1), some (aI x2)] [] S V (some (aI r)) S V'
  refine Ak_aload_n 1 0 (d_M_goalOf 0 0 (.aload_n 0) 1 rfl) rfl rfl rfl ?_
  refine Ak_getF 4 22 hO clX13 (by decide) rfl lkF_M_79 (d_M_goalOf 1 1 (.getfield 79) 3 rfl) rfl ?_
  refine Ak_aload_n 5 0 (d_M_goalOf 2 4 (.aload_n 0) 1 rfl) rfl rfl rfl ?_
  refine Ak_iload_n 6 1 (d_M_goalOf 3 5 (.iload_n 1) 1 rfl) rfl rfl rfl ?_
  obtain ⟨r5, V6, h7, h⟩ := bnd_some h
  refine Ak_cV1 9 2 (c_M_told h7) rfl hO clX13 rfl mok_M_told lkM_M_439 (d_M_goalOf 4 6 (.invokevirtual 439) 3 rfl) rfl (by decide) (Nat.le_of_ble_eq_true rfl) ?_
  obtain ⟨ha8, h⟩ := gd_some h
  refine Ak_iaload 10 ha8 (d_M_goalOf 5 9 (.iaload) 1 rfl) rfl ?_
  refine Ak_istore_n 11 3 (d_M_goalOf 6 10 (.istore_n 3) 1 rfl) rfl rfl (by decide) ?_
  refine Ak_iload_n 12 3 (d_M_goalOf 7 11 (.iload_n 3) 1 rfl) rfl rfl rfl ?_
  refine Ak_iconst 13 (d_M_goalOf 8 12 (.iconst 2) 1 rfl) rfl (rk rfl) ?_
  refine Ak_icmp_ne 26 16 (d_M_goalOf 9 13 (.if_icmp .ne 13) 3 rfl) rfl rfl (fun hc => ?_) (fun hc => ?_)
  · replace h := it_f hc h
    refine Ak_iload_n 27 3 (d_M_goalOf 16 26 (.iload_n 3) 1 rfl) rfl rfl rfl ?_
    refine Ak_if_ne 41 30 (d_M_goalOf 17 27 (.ifCond .ne 14) 3 rfl) rfl rfl (fun hc => ?_) (fun hc => ?_)
    · replace h := it_f hc h
      refine Ak_iload_n 42 2 (d_M_goalOf 25 41 (.iload_n 2) 1 rfl) rfl rfl rfl ?_
      refine Ak_aload_n 43 0 (d_M_goalOf 26 42 (.aload_n 0) 1 rfl) rfl rfl rfl ?_
      refine Ak_getF 46 47 hO clX13 (by decide) rfl lkF_M_156 (d_M_goalOf 27 43 (.getfield 156) 3 rfl) rfl ?_
      refine Ak_iload_n 47 1 (d_M_goalOf 28 46 (.iload_n 1) 1 rfl) rfl rfl rfl ?_
      obtain ⟨ha9, h⟩ := gd_some h
      refine Ak_iaload 48 ha9 (d_M_goalOf 29 47 (.iaload) 1 rfl) rfl ?_
      refine Ak_isub 49 (d_M_goalOf 30 48 (.isub) 1 rfl) rfl ?_
      refine Ak_keep [true] ?_
      exact t_M_goalOf_J49 hO h
    · replace h := it_t hc h
      refine Ak_iload_n 31 2 (d_M_goalOf 18 30 (.iload_n 2) 1 rfl) rfl rfl rfl ?_
      refine Ak_aload_n 32 0 (d_M_goalOf 19 31 (.aload_n 0) 1 rfl) rfl rfl rfl ?_
      refine Ak_getF 35 47 hO clX13 (by decide) rfl lkF_M_156 (d_M_goalOf 20 32 (.getfield 156) 3 rfl) rfl ?_
      refine Ak_iload_n 36 1 (d_M_goalOf 21 35 (.iload_n 1) 1 rfl) rfl rfl rfl ?_
      obtain ⟨ha10, h⟩ := gd_some h
      refine Ak_iaload 37 ha10 (d_M_goalOf 22 36 (.iaload) 1 rfl) rfl ?_
      refine Ak_iadd 38 (d_M_goalOf 23 37 (.iadd) 1 rfl) rfl ?_
      refine Ak_goto 49 (d_M_goalOf 24 38 (.goto 11) 3 rfl) rfl ?_
      refine Ak_keep [true] ?_
      exact t_M_goalOf_J49 hO h
  · replace h := it_t hc h
    refine Ak_aload_n 17 0 (d_M_goalOf 10 16 (.aload_n 0) 1 rfl) rfl rfl rfl ?_
    refine Ak_getF 20 13 hO clX13 (by decide) rfl lkF_M_51 (d_M_goalOf 11 17 (.getfield 51) 3 rfl) rfl ?_
    refine Ak_aload_n 21 0 (d_M_goalOf 12 20 (.aload_n 0) 1 rfl) rfl rfl rfl ?_
    refine Ak_getI 24 12 hO clX13 (by decide) (Or.inl rfl) lkF_M_48 (d_M_goalOf 13 21 (.getfield 48) 3 rfl) rfl ?_
    obtain ⟨ha11, h⟩ := gd_some h
    refine Ak_iaload 25 ha11 (d_M_goalOf 14 24 (.iaload) 1 rfl) rfl ?_
    cases h
    exact Ak_iret rfl (d_M_goalOf 15 25 (.ireturn) 1 rfl)
theorem t_M_isLawful_L90 {S : ASh} {x0 x2 x3 x4 : Int} (hO : isO S x0 13 = true) : ∀ (n : Nat) (V : ASt) (x6 : Int) (r : Int) (V' : ASt), b_M_isLawful_L90 S x0 x2 x3 x4 n V x6 = some (r, V') → AWk m_M_isLawful 6 0 0 0 0 90 [some (aR x0), none, some (aI x2), some (aI x3), some (aI x4), none, some (aI x6)] [] S V (some (aI r)) S V' := by
  intro n
  induction n with
  | zero => intro V x6 r V' h; cases h
  | succ n ih =>
    intro V x6 r V' h
    replace ih : ∀ {V : ASt} {x6 : Int} {r : Int} {V' : ASt}, b_M_isLawful_L90 S x0 x2 x3 x4 n V x6 = some (r, V') → AWk m_M_isLawful 6 0 0 0 0 90 [some (aR x0), none, some (aI x2), some (aI x3), some (aI x4), none, some (aI x6)] [] S V (some (aI r)) S V' := fun h => ih _ _ _ _ h
    rw [b_M_isLawful_L90] at h
    refine Ak_iload 92 (d_M_isLawful 57 90 (.iload 6) 2 rfl) rfl rfl ?_
    refine Ak_if_lt 184 95 (d_M_isLawful 58 92 (.ifCond .lt 92) 3 rfl) rfl rfl (fun hc => ?_) (fun hc => ?_)
    · replace h := it_t hc h
      refine Ak_iconst 185 (d_M_isLawful 103 184 (.iconst 0) 1 rfl) rfl (rk rfl) ?_
      cases h
      exact Ak_zret (Or.inl rfl) rfl (d_M_isLawful 104 185 (.ireturn) 1 rfl)
    · replace h := it_f hc h
      refine Ak_aload_n 96 0 (d_M_isLawful 59 95 (.aload_n 0) 1 rfl) rfl rfl rfl ?_
      refine Ak_getF 99 44 hO clX13 (by decide) rfl lkF_M_147 (d_M_isLawful 60 96 (.getfield 147) 3 rfl) rfl ?_
      refine Ak_iload 101 (d_M_isLawful 61 99 (.iload 6) 2 rfl) rfl rfl ?_
      obtain ⟨ha1, h⟩ := gd_some h
      refine Ak_iaload 102 ha1 (d_M_isLawful 62 101 (.iaload) 1 rfl) rfl ?_
      refine Ak_istore 104 (d_M_isLawful 63 102 (.istore 7) 2 rfl) rfl (by decide) ?_
      refine Ak_aload_n 105 0 (d_M_isLawful 64 104 (.aload_n 0) 1 rfl) rfl rfl rfl ?_
      refine Ak_getF 108 45 hO clX13 (by decide) rfl lkF_M_150 (d_M_isLawful 65 105 (.getfield 150) 3 rfl) rfl ?_
      refine Ak_iload 110 (d_M_isLawful 66 108 (.iload 7) 2 rfl) rfl rfl ?_
      obtain ⟨ha2, h⟩ := gd_some h
      refine Ak_baload 111 ha2 (d_M_isLawful 67 110 (.baload) 1 rfl) rfl ?_
      refine Ak_if_ne 178 114 (d_M_isLawful 68 111 (.ifCond .ne 67) 3 rfl) rfl rfl (fun hc => ?_) (fun hc => ?_)
      · replace h := it_f hc h
        refine Ak_iinc 181 (d_M_isLawful 101 178 (.iinc 6 (-1)) 3 rfl) rfl rfl (by decide) ?_
        refine Ak_goto 90 (d_M_isLawful 102 181 (.goto (-91)) 3 rfl) rfl ?_
        refine Ak_keep [true, false, true, true, true, false, true] ?_
        exact ih h
      · replace h := it_t hc h
        refine Ak_aload_n 115 0 (d_M_isLawful 69 114 (.aload_n 0) 1 rfl) rfl rfl rfl ?_
        refine Ak_iload 117 (d_M_isLawful 70 115 (.iload 7) 2 rfl) rfl rfl ?_
        obtain ⟨r3, V4, h5, h⟩ := bnd_some h
        refine Ak_cV1 120 3 (c_M_kindNow h5) rfl hO clX13 rfl mok_M_kindNow lkM_M_456 (d_M_isLawful 71 117 (.invokevirtual 456) 3 rfl) rfl (by decide) (Nat.le_of_ble_eq_true rfl) ?_
        refine Ak_iconst 121 (d_M_isLawful 72 120 (.iconst 1) 1 rfl) rfl (rk rfl) ?_
        refine Ak_icmp_gt 178 124 (d_M_isLawful 73 121 (.if_icmp .gt 57) 3 rfl) rfl rfl (fun hc => ?_) (fun hc => ?_)
        · replace h := it_t hc h
          refine Ak_iinc 181 (d_M_isLawful 101 178 (.iinc 6 (-1)) 3 rfl) rfl rfl (by decide) ?_
          refine Ak_goto 90 (d_M_isLawful 102 181 (.goto (-91)) 3 rfl) rfl ?_
          refine Ak_keep [true, false, true, true, true, false, true] ?_
          exact ih h
        · replace h := it_f hc h
          refine Ak_aload_n 125 0 (d_M_isLawful 74 124 (.aload_n 0) 1 rfl) rfl rfl rfl ?_
          refine Ak_getF 128 21 hO clX13 (by decide) rfl lkF_M_76 (d_M_isLawful 75 125 (.getfield 76) 3 rfl) rfl ?_
          refine Ak_aload_n 129 0 (d_M_isLawful 76 128 (.aload_n 0) 1 rfl) rfl rfl rfl ?_
          refine Ak_iload 131 (d_M_isLawful 77 129 (.iload 7) 2 rfl) rfl rfl ?_
          obtain ⟨r6, V7, h8, h⟩ := bnd_some h
          refine Ak_cV1 134 2 (c_M_told h8) rfl hO clX13 rfl mok_M_told lkM_M_439 (d_M_isLawful 78 131 (.invokevirtual 439) 3 rfl) rfl (by decide) (Nat.le_of_ble_eq_true rfl) ?_
          obtain ⟨ha9, h⟩ := gd_some h
          refine Ak_iaload 135 ha9 (d_M_isLawful 79 134 (.iaload) 1 rfl) rfl ?_
          refine Ak_iload_n 136 2 (d_M_isLawful 80 135 (.iload_n 2) 1 rfl) rfl rfl rfl ?_
          refine Ak_icmp_ne 178 139 (d_M_isLawful 81 136 (.if_icmp .ne 42) 3 rfl) rfl rfl (fun hc => ?_) (fun hc => ?_)
          · replace h := it_f hc h
            refine Ak_iinc 181 (d_M_isLawful 101 178 (.iinc 6 (-1)) 3 rfl) rfl rfl (by decide) ?_
            refine Ak_goto 90 (d_M_isLawful 102 181 (.goto (-91)) 3 rfl) rfl ?_
            refine Ak_keep [true, false, true, true, true, false, true] ?_
            exact ih h
          · replace h := it_t hc h
            refine Ak_aload_n 140 0 (d_M_isLawful 82 139 (.aload_n 0) 1 rfl) rfl rfl rfl ?_
            refine Ak_iload 142 (d_M_isLawful 83 140 (.iload 7) 2 rfl) rfl rfl ?_
            refine Ak_iload 144 (d_M_isLawful 84 142 (.iload 4) 2 rfl) rfl rfl ?_
            obtain ⟨r10, V11, h12, h⟩ := bnd_some h
            refine Ak_cV1 147 3 (c_M_goalOf h12) rfl hO clX13 rfl mok_M_goalOf lkM_M_471 (d_M_isLawful 85 144 (.invokevirtual 471) 3 rfl) rfl (by decide) (Nat.le_of_ble_eq_true rfl) ?_
            refine Ak_iload_n 148 3 (d_M_isLawful 86 147 (.iload_n 3) 1 rfl) rfl rfl rfl ?_
            refine Ak_icmp_eq 154 151 (d_M_isLawful 87 148 (.if_icmp .eq 6) 3 rfl) rfl rfl (fun hc => ?_) (fun hc => ?_)
            · replace h := it_t hc h
              refine Ak_aload_n 155 0 (d_M_isLawful 89 154 (.aload_n 0) 1 rfl) rfl rfl rfl ?_
              refine Ak_iload 157 (d_M_isLawful 90 155 (.iload 7) 2 rfl) rfl rfl ?_
              obtain ⟨r13, V14, h15, h⟩ := bnd_some h
              refine Ak_cV1 160 5 (c_M_holds h15) rfl hO clX13 rfl mok_M_holds lkM_M_474 (d_M_isLawful 91 157 (.invokevirtual 474) 3 rfl) rfl (by decide) (Nat.le_of_ble_eq_true rfl) ?_
              refine Ak_if_eq 178 163 (d_M_isLawful 92 160 (.ifCond .eq 18) 3 rfl) rfl rfl (fun hc => ?_) (fun hc => ?_)
              · replace h := it_t hc h
                refine Ak_iinc 181 (d_M_isLawful 101 178 (.iinc 6 (-1)) 3 rfl) rfl rfl (by decide) ?_
                refine Ak_goto 90 (d_M_isLawful 102 181 (.goto (-91)) 3 rfl) rfl ?_
                refine Ak_keep [true, false, true, true, true, false, true] ?_
                exact ih h
              · replace h := it_f hc h
                refine Ak_aload_n 164 0 (d_M_isLawful 93 163 (.aload_n 0) 1 rfl) rfl rfl rfl ?_
                refine Ak_iload 166 (d_M_isLawful 94 164 (.iload 7) 2 rfl) rfl rfl ?_
                obtain ⟨r16, V17, h18, h⟩ := bnd_some h
                refine Ak_cV1 169 3 (c_M_kindNow h18) rfl hO clX13 rfl mok_M_kindNow lkM_M_456 (d_M_isLawful 95 166 (.invokevirtual 456) 3 rfl) rfl (by decide) (Nat.le_of_ble_eq_true rfl) ?_
                refine Ak_if_ne 176 172 (d_M_isLawful 96 169 (.ifCond .ne 7) 3 rfl) rfl rfl (fun hc => ?_) (fun hc => ?_)
                · replace h := it_f hc h
                  refine Ak_iconst 177 (d_M_isLawful 99 176 (.iconst 0) 1 rfl) rfl (rk rfl) ?_
                  cases h
                  exact Ak_zret (Or.inl rfl) rfl (d_M_isLawful 100 177 (.ireturn) 1 rfl)
                · replace h := it_t hc h
                  refine Ak_iconst 173 (d_M_isLawful 97 172 (.iconst 1) 1 rfl) rfl (rk rfl) ?_
                  refine Ak_goto 177 (d_M_isLawful 98 173 (.goto 4) 3 rfl) rfl ?_
                  cases h
                  exact Ak_zret (Or.inr rfl) rfl (d_M_isLawful 100 177 (.ireturn) 1 rfl)
            · replace h := it_f hc h
              refine Ak_goto 178 (d_M_isLawful 88 151 (.goto 27) 3 rfl) rfl ?_
              refine Ak_iinc 181 (d_M_isLawful 101 178 (.iinc 6 (-1)) 3 rfl) rfl rfl (by decide) ?_
              refine Ak_goto 90 (d_M_isLawful 102 181 (.goto (-91)) 3 rfl) rfl ?_
              refine Ak_keep [true, false, true, true, true, false, true] ?_
              exact ih h
theorem t_M_isLawful_J53 {S : ASh} {V : ASt} {x0 x1 x2 x3 x4 : Int} {r : Int} {V' : ASt} (hO : isO S x0 13 = true) (h : b_M_isLawful_J53 S  V x0 x1 x2 x3 x4 = some (r, V')) : AWk m_M_isLawful 6 0 0 0 0 53 [some (aR x0), some (aI x1), some (aI x2), some (aI x3), some (aI x4)] [] S V (some (aI r)) S V' := by
  unfold b_M_isLawful_J53 at h
  refine Ak_aload_n 54 0 (d_M_isLawful 32 53 (.aload_n 0) 1 rfl) rfl rfl rfl ?_
  refine Ak_getF 57 43 hO clX13 (by decide) rfl lkF_M_144 (d_M_isLawful 33 54 (.getfield 144) 3 rfl) rfl ?_
  refine Ak_iconst 58 (d_M_isLawful 34 57 (.iconst 1) 1 rfl) rfl (rk rfl) ?_
  refine Ak_iload 60 (d_M_isLawful 35 58 (.iload 4) 2 rfl) rfl rfl ?_
  obtain ⟨ha19, h⟩ := gd_some h
  refine Ak_iastore 61 ha19 (d_M_isLawful 36 60 (.iastore) 1 rfl) rfl (fun V20 hV20 => ?_)
  replace h := wV_some h V20 hV20
  refine Ak_aload_n 62 0 (d_M_isLawful 37 61 (.aload_n 0) 1 rfl) rfl rfl rfl ?_
  refine Ak_getF 65 43 hO clX13 (by decide) rfl lkF_M_144 (d_M_isLawful 38 62 (.getfield 144) 3 rfl) rfl ?_
  refine Ak_iconst 66 (d_M_isLawful 39 65 (.iconst 2) 1 rfl) rfl (rk rfl) ?_
  refine Ak_iload_n 67 3 (d_M_isLawful 40 66 (.iload_n 3) 1 rfl) rfl rfl rfl ?_
  obtain ⟨ha21, h⟩ := gd_some h
  refine Ak_iastore 68 ha21 (d_M_isLawful 41 67 (.iastore) 1 rfl) rfl (fun V22 hV22 => ?_)
  replace h := wV_some h V22 hV22
  refine Ak_aload_n 69 0 (d_M_isLawful 42 68 (.aload_n 0) 1 rfl) rfl rfl rfl ?_
  refine Ak_getF 72 43 hO clX13 (by decide) rfl lkF_M_144 (d_M_isLawful 43 69 (.getfield 144) 3 rfl) rfl ?_
  refine Ak_iconst 73 (d_M_isLawful 44 72 (.iconst 3) 1 rfl) rfl (rk rfl) ?_
  refine Ak_iload_n 74 1 (d_M_isLawful 45 73 (.iload_n 1) 1 rfl) rfl rfl rfl ?_
  refine Ak_iconst 75 (d_M_isLawful 46 74 (.iconst 2) 1 rfl) rfl (rk rfl) ?_
  refine Ak_irem 76 (d_M_isLawful 47 75 (.irem) 1 rfl) rfl (by decide) ?_
  obtain ⟨ha23, h⟩ := gd_some h
  refine Ak_iastore 77 ha23 (d_M_isLawful 48 76 (.iastore) 1 rfl) rfl (fun V24 hV24 => ?_)
  replace h := wV_some h V24 hV24
  refine Ak_aload_n 78 0 (d_M_isLawful 49 77 (.aload_n 0) 1 rfl) rfl rfl rfl ?_
  refine Ak_iload_n 79 1 (d_M_isLawful 50 78 (.iload_n 1) 1 rfl) rfl rfl rfl ?_
  obtain ⟨r25, V26, h27, h⟩ := bnd_some h
  refine Ak_cV0 82 4 (c_M_names h27) rfl hO clX13 rfl mok_M_names lkM_M_468 (d_M_isLawful 51 79 (.invokevirtual 468) 3 rfl) rfl (by decide) (Nat.le_of_ble_eq_true rfl) ?_
  refine Ak_aload_n 83 0 (d_M_isLawful 52 82 (.aload_n 0) 1 rfl) rfl rfl rfl ?_
  obtain ⟨r28, V29, h30, h⟩ := bnd_some h
  refine Ak_cV1 86 2 (c_M_rulesAll h30) rfl hO clX13 rfl mok_M_rulesAll lkM_M_436 (d_M_isLawful 53 83 (.invokevirtual 436) 3 rfl) rfl (by decide) (Nat.le_of_ble_eq_true rfl) ?_
  refine Ak_iconst 87 (d_M_isLawful 54 86 (.iconst 1) 1 rfl) rfl (rk rfl) ?_
  refine Ak_isub 88 (d_M_isLawful 55 87 (.isub) 1 rfl) rfl ?_
  refine Ak_istore 90 (d_M_isLawful 56 88 (.istore 6) 2 rfl) rfl (by decide) ?_
  refine Ak_keep [true, false, true, true, true, false, true] ?_
  exact t_M_isLawful_L90 hO FU _ _ _ _ h
theorem c_M_isLawful {S : ASh} {V : ASt} {x0 x1 x2 x3 : Int} {r : Int} {V' : ASt} (h : f_M_isLawful S V x0 x1 x2 x3 = some (r, V')) : ACt m_M_isLawful 6 0 0 [(aR x0), (aI x1), (aI x2), (aI x3)] S V (some (aI r)) S V' := by
  unfold f_M_isLawful at h
  obtain ⟨hO, h⟩ := gd_some h
  refine ACt_of (plainFor_of_name rfl) rfl (Nat.le_of_ble_eq_true rfl) ?_
  show AWk m_M_isLawful 6 0 0 0 0 0 [some (aR x0), some (aI x1), some (aI x2), some (aI x3)] [] S V (some (aI r)) S V'
  refine Ak_aload_n 1 0 (d_M_isLawful 0 0 (.aload_n 0) 1 rfl) rfl rfl rfl ?_
  refine Ak_iload_n 2 1 (d_M_isLawful 1 1 (.iload_n 1) 1 rfl) rfl rfl rfl ?_
  refine Ak_iload_n 3 2 (d_M_isLawful 2 2 (.iload_n 2) 1 rfl) rfl rfl rfl ?_
  obtain ⟨r31, V32, h33, h⟩ := bnd_some h
  refine Ak_cV1 6 3 (c_M_spotOf h33) rfl hO clX13 rfl mok_M_spotOf lkM_M_461 (d_M_isLawful 3 3 (.invokevirtual 461) 3 rfl) rfl (by decide) (Nat.le_of_ble_eq_true rfl) ?_
  refine Ak_istore 8 (d_M_isLawful 4 6 (.istore 4) 2 rfl) rfl (by decide) ?_
  refine Ak_aload_n 9 0 (d_M_isLawful 5 8 (.aload_n 0) 1 rfl) rfl rfl rfl ?_
  refine Ak_getF 12 17 hO clX13 (by decide) rfl lkF_M_64 (d_M_isLawful 6 9 (.getfield 64) 3 rfl) rfl ?_
  refine Ak_iconst 13 (d_M_isLawful 7 12 (.iconst 2) 1 rfl) rfl (rk rfl) ?_
  refine Ak_aload_n 14 0 (d_M_isLawful 8 13 (.aload_n 0) 1 rfl) rfl rfl rfl ?_
  refine Ak_getI 17 12 hO clX13 (by decide) (Or.inl rfl) lkF_M_48 (d_M_isLawful 9 14 (.getfield 48) 3 rfl) rfl ?_
  refine Ak_imul 18 (d_M_isLawful 10 17 (.imul) 1 rfl) rfl ?_
  refine Ak_iload_n 19 2 (d_M_isLawful 11 18 (.iload_n 2) 1 rfl) rfl rfl rfl ?_
  refine Ak_iadd 20 (d_M_isLawful 12 19 (.iadd) 1 rfl) rfl ?_
  obtain ⟨ha34, h⟩ := gd_some h
  refine Ak_iaload 21 ha34 (d_M_isLawful 13 20 (.iaload) 1 rfl) rfl ?_
  refine Ak_istore 23 (d_M_isLawful 14 21 (.istore 5) 2 rfl) rfl (by decide) ?_
  refine Ak_iload 25 (d_M_isLawful 15 23 (.iload 4) 2 rfl) rfl rfl ?_
  refine Ak_aload_n 26 0 (d_M_isLawful 16 25 (.aload_n 0) 1 rfl) rfl rfl rfl ?_
  refine Ak_getF 29 13 hO clX13 (by decide) rfl lkF_M_51 (d_M_isLawful 17 26 (.getfield 51) 3 rfl) rfl ?_
  refine Ak_aload_n 30 0 (d_M_isLawful 18 29 (.aload_n 0) 1 rfl) rfl rfl rfl ?_
  refine Ak_getI 33 12 hO clX13 (by decide) (Or.inl rfl) lkF_M_48 (d_M_isLawful 19 30 (.getfield 48) 3 rfl) rfl ?_
  obtain ⟨ha35, h⟩ := gd_some h
  refine Ak_iaload 34 ha35 (d_M_isLawful 20 33 (.iaload) 1 rfl) rfl ?_
  refine Ak_icmp_eq 51 37 (d_M_isLawful 21 34 (.if_icmp .eq 17) 3 rfl) rfl rfl (fun hc => ?_) (fun hc => ?_)
  · replace h := it_t hc h
    refine Ak_iconst 52 (d_M_isLawful 30 51 (.iconst 0) 1 rfl) rfl (rk rfl) ?_
    cases h
    exact Ak_zret (Or.inl rfl) rfl (d_M_isLawful 31 52 (.ireturn) 1 rfl)
  · replace h := it_f hc h
    refine Ak_iload 39 (d_M_isLawful 22 37 (.iload 5) 2 rfl) rfl rfl ?_
    refine Ak_iconst 40 (d_M_isLawful 23 39 (.iconst 2) 1 rfl) rfl (rk rfl) ?_
    refine Ak_icmp_eq 53 43 (d_M_isLawful 24 40 (.if_icmp .eq 13) 3 rfl) rfl rfl (fun hc => ?_) (fun hc => ?_)
    · replace h := it_t hc h
      refine Ak_keep [true, true, true, true, true] ?_
      exact t_M_isLawful_J53 hO h
    · replace h := it_f hc h
      refine Ak_iload 45 (d_M_isLawful 25 43 (.iload 5) 2 rfl) rfl rfl ?_
      refine Ak_iload_n 46 1 (d_M_isLawful 26 45 (.iload_n 1) 1 rfl) rfl rfl rfl ?_
      refine Ak_iconst 47 (d_M_isLawful 27 46 (.iconst 2) 1 rfl) rfl (rk rfl) ?_
      refine Ak_irem 48 (d_M_isLawful 28 47 (.irem) 1 rfl) rfl (by decide) ?_
      refine Ak_icmp_eq 53 51 (d_M_isLawful 29 48 (.if_icmp .eq 5) 3 rfl) rfl rfl (fun hc => ?_) (fun hc => ?_)
      · replace h := it_t hc h
        refine Ak_keep [true, true, true, true, true] ?_
        exact t_M_isLawful_J53 hO h
      · replace h := it_f hc h
        refine Ak_iconst 52 (d_M_isLawful 30 51 (.iconst 0) 1 rfl) rfl (rk rfl) ?_
        cases h
        exact Ak_zret (Or.inl rfl) rfl (d_M_isLawful 31 52 (.ireturn) 1 rfl)
theorem t_M_leads_L51 {S : ASh} {x0 x4 : Int} (hO : isO S x0 13 = true) : ∀ (n : Nat) (V : ASt) (x5 : Int) (r : Int) (V' : ASt), b_M_leads_L51 S x0 x4 n V x5 = some (r, V') → AWk m_M_leads 6 0 0 0 0 51 [some (aR x0), none, none, none, some (aI x4), some (aI x5)] [] S V (some (aI r)) S V' := by
  intro n
  induction n with
  | zero => intro V x5 r V' h; cases h
  | succ n ih =>
    intro V x5 r V' h
    replace ih : ∀ {V : ASt} {x5 : Int} {r : Int} {V' : ASt}, b_M_leads_L51 S x0 x4 n V x5 = some (r, V') → AWk m_M_leads 6 0 0 0 0 51 [some (aR x0), none, none, none, some (aI x4), some (aI x5)] [] S V (some (aI r)) S V' := fun h => ih _ _ _ _ h
    rw [b_M_leads_L51] at h
    refine Ak_iload 53 (d_M_leads 34 51 (.iload 5) 2 rfl) rfl rfl ?_
    refine Ak_if_lt 120 56 (d_M_leads 35 53 (.ifCond .lt 67) 3 rfl) rfl rfl (fun hc => ?_) (fun hc => ?_)
    · replace h := it_t hc h
      refine Ak_iload 122 (d_M_leads 67 120 (.iload 4) 2 rfl) rfl rfl ?_
      cases h
      exact Ak_iret rfl (d_M_leads 68 122 (.ireturn) 1 rfl)
    · replace h := it_f hc h
      refine Ak_aload_n 57 0 (d_M_leads 36 56 (.aload_n 0) 1 rfl) rfl rfl rfl ?_
      refine Ak_getF 60 44 hO clX13 (by decide) rfl lkF_M_147 (d_M_leads 37 57 (.getfield 147) 3 rfl) rfl ?_
      refine Ak_iload 62 (d_M_leads 38 60 (.iload 5) 2 rfl) rfl rfl ?_
      obtain ⟨ha1, h⟩ := gd_some h
      refine Ak_iaload 63 ha1 (d_M_leads 39 62 (.iaload) 1 rfl) rfl ?_
      refine Ak_istore 65 (d_M_leads 40 63 (.istore 6) 2 rfl) rfl (by decide) ?_
      refine Ak_aload_n 66 0 (d_M_leads 41 65 (.aload_n 0) 1 rfl) rfl rfl rfl ?_
      refine Ak_getF 69 45 hO clX13 (by decide) rfl lkF_M_150 (d_M_leads 42 66 (.getfield 150) 3 rfl) rfl ?_
      refine Ak_iload 71 (d_M_leads 43 69 (.iload 6) 2 rfl) rfl rfl ?_
      obtain ⟨ha2, h⟩ := gd_some h
      refine Ak_baload 72 ha2 (d_M_leads 44 71 (.baload) 1 rfl) rfl ?_
      refine Ak_if_ne 114 75 (d_M_leads 45 72 (.ifCond .ne 42) 3 rfl) rfl rfl (fun hc => ?_) (fun hc => ?_)
      · replace h := it_f hc h
        refine Ak_iinc 117 (d_M_leads 65 114 (.iinc 5 (-1)) 3 rfl) rfl rfl (by decide) ?_
        refine Ak_goto 51 (d_M_leads 66 117 (.goto (-66)) 3 rfl) rfl ?_
        refine Ak_keep [true, false, false, false, true, true] ?_
        exact ih h
      · replace h := it_t hc h
        refine Ak_aload_n 76 0 (d_M_leads 46 75 (.aload_n 0) 1 rfl) rfl rfl rfl ?_
        refine Ak_iload 78 (d_M_leads 47 76 (.iload 6) 2 rfl) rfl rfl ?_
        obtain ⟨r3, V4, h5, h⟩ := bnd_some h
        refine Ak_cV1 81 3 (c_M_kindNow h5) rfl hO clX13 rfl mok_M_kindNow lkM_M_456 (d_M_leads 48 78 (.invokevirtual 456) 3 rfl) rfl (by decide) (Nat.le_of_ble_eq_true rfl) ?_
        refine Ak_iconst 82 (d_M_leads 49 81 (.iconst 2) 1 rfl) rfl (rk rfl) ?_
        refine Ak_icmp_lt 114 85 (d_M_leads 50 82 (.if_icmp .lt 32) 3 rfl) rfl rfl (fun hc => ?_) (fun hc => ?_)
        · replace h := it_t hc h
          refine Ak_iinc 117 (d_M_leads 65 114 (.iinc 5 (-1)) 3 rfl) rfl rfl (by decide) ?_
          refine Ak_goto 51 (d_M_leads 66 117 (.goto (-66)) 3 rfl) rfl ?_
          refine Ak_keep [true, false, false, false, true, true] ?_
          exact ih h
        · replace h := it_f hc h
          refine Ak_aload_n 86 0 (d_M_leads 51 85 (.aload_n 0) 1 rfl) rfl rfl rfl ?_
          refine Ak_iload 88 (d_M_leads 52 86 (.iload 6) 2 rfl) rfl rfl ?_
          obtain ⟨r6, V7, h8, h⟩ := bnd_some h
          refine Ak_cV1 91 5 (c_M_holds h8) rfl hO clX13 rfl mok_M_holds lkM_M_474 (d_M_leads 53 88 (.invokevirtual 474) 3 rfl) rfl (by decide) (Nat.le_of_ble_eq_true rfl) ?_
          refine Ak_if_ne 97 94 (d_M_leads 54 91 (.ifCond .ne 6) 3 rfl) rfl rfl (fun hc => ?_) (fun hc => ?_)
          · replace h := it_f hc h
            refine Ak_aload_n 98 0 (d_M_leads 56 97 (.aload_n 0) 1 rfl) rfl rfl rfl ?_
            refine Ak_iload 100 (d_M_leads 57 98 (.iload 6) 2 rfl) rfl rfl ?_
            obtain ⟨r9, V10, h11, h⟩ := bnd_some h
            refine Ak_cV1 103 3 (c_M_kindNow h11) rfl hO clX13 rfl mok_M_kindNow lkM_M_456 (d_M_leads 58 100 (.invokevirtual 456) 3 rfl) rfl (by decide) (Nat.le_of_ble_eq_true rfl) ?_
            refine Ak_iconst 104 (d_M_leads 59 103 (.iconst 2) 1 rfl) rfl (rk rfl) ?_
            refine Ak_icmp_ne 111 107 (d_M_leads 60 104 (.if_icmp .ne 7) 3 rfl) rfl rfl (fun hc => ?_) (fun hc => ?_)
            · replace h := it_f hc h
              refine Ak_bipush 113 (d_M_leads 63 111 (.bipush (-2)) 2 rfl) rfl (bp_ok rfl) (rk rfl) ?_
              cases h
              exact Ak_iret rfl (d_M_leads 64 113 (.ireturn) 1 rfl)
            · replace h := it_t hc h
              refine Ak_iconst 108 (d_M_leads 61 107 (.iconst (-1)) 1 rfl) rfl (rk rfl) ?_
              refine Ak_goto 113 (d_M_leads 62 108 (.goto 5) 3 rfl) rfl ?_
              cases h
              exact Ak_iret rfl (d_M_leads 64 113 (.ireturn) 1 rfl)
          · replace h := it_t hc h
            refine Ak_goto 114 (d_M_leads 55 94 (.goto 20) 3 rfl) rfl ?_
            refine Ak_iinc 117 (d_M_leads 65 114 (.iinc 5 (-1)) 3 rfl) rfl rfl (by decide) ?_
            refine Ak_goto 51 (d_M_leads 66 117 (.goto (-66)) 3 rfl) rfl ?_
            refine Ak_keep [true, false, false, false, true, true] ?_
            exact ih h
theorem c_M_leads {S : ASh} {V : ASt} {x0 x1 x2 x3 : Int} {r : Int} {V' : ASt} (h : f_M_leads S V x0 x1 x2 x3 = some (r, V')) : ACt m_M_leads 6 0 0 [(aR x0), (aI x1), (aI x2), (aI x3)] S V (some (aI r)) S V' := by
  unfold f_M_leads at h
  obtain ⟨hO, h⟩ := gd_some h
  refine ACt_of (plainFor_of_name rfl) rfl (Nat.le_of_ble_eq_true rfl) ?_
  show AWk m_M_leads 6 0 0 0 0 0 [some (aR x0), some (aI x1), some (aI x2), some (aI x3)] [] S V (some (aI r)) S V'
  refine Ak_aload_n 1 0 (d_M_leads 0 0 (.aload_n 0) 1 rfl) rfl rfl rfl ?_
  refine Ak_iload_n 2 1 (d_M_leads 1 1 (.iload_n 1) 1 rfl) rfl rfl rfl ?_
  refine Ak_iload_n 3 2 (d_M_leads 2 2 (.iload_n 2) 1 rfl) rfl rfl rfl ?_
  refine Ak_iload_n 4 3 (d_M_leads 3 3 (.iload_n 3) 1 rfl) rfl rfl rfl ?_
  obtain ⟨r12, V13, h14, h⟩ := bnd_some h
  refine Ak_cV1 7 4 (c_M_behind h14) rfl hO clX13 rfl mok_M_behind lkM_M_477 (d_M_leads 4 4 (.invokevirtual 477) 3 rfl) rfl (by decide) (Nat.le_of_ble_eq_true rfl) ?_
  refine Ak_istore 9 (d_M_leads 5 7 (.istore 4) 2 rfl) rfl (by decide) ?_
  refine Ak_aload_n 10 0 (d_M_leads 6 9 (.aload_n 0) 1 rfl) rfl rfl rfl ?_
  refine Ak_getF 13 43 hO clX13 (by decide) rfl lkF_M_144 (d_M_leads 7 10 (.getfield 144) 3 rfl) rfl ?_
  refine Ak_iconst 14 (d_M_leads 8 13 (.iconst 1) 1 rfl) rfl (rk rfl) ?_
  refine Ak_aload_n 15 0 (d_M_leads 9 14 (.aload_n 0) 1 rfl) rfl rfl rfl ?_
  refine Ak_iload_n 16 1 (d_M_leads 10 15 (.iload_n 1) 1 rfl) rfl rfl rfl ?_
  refine Ak_iload_n 17 2 (d_M_leads 11 16 (.iload_n 2) 1 rfl) rfl rfl rfl ?_
  obtain ⟨r15, V16, h17, h⟩ := bnd_some h
  refine Ak_cV1 20 3 (c_M_spotOf h17) rfl hO clX13 rfl mok_M_spotOf lkM_M_461 (d_M_leads 12 17 (.invokevirtual 461) 3 rfl) rfl (by decide) (Nat.le_of_ble_eq_true rfl) ?_
  obtain ⟨ha18, h⟩ := gd_some h
  refine Ak_iastore 21 ha18 (d_M_leads 13 20 (.iastore) 1 rfl) rfl (fun V19 hV19 => ?_)
  replace h := wV_some h V19 hV19
  refine Ak_aload_n 22 0 (d_M_leads 14 21 (.aload_n 0) 1 rfl) rfl rfl rfl ?_
  refine Ak_getF 25 43 hO clX13 (by decide) rfl lkF_M_144 (d_M_leads 15 22 (.getfield 144) 3 rfl) rfl ?_
  refine Ak_iconst 26 (d_M_leads 16 25 (.iconst 2) 1 rfl) rfl (rk rfl) ?_
  refine Ak_iload_n 27 3 (d_M_leads 17 26 (.iload_n 3) 1 rfl) rfl rfl rfl ?_
  obtain ⟨ha20, h⟩ := gd_some h
  refine Ak_iastore 28 ha20 (d_M_leads 18 27 (.iastore) 1 rfl) rfl (fun V21 hV21 => ?_)
  replace h := wV_some h V21 hV21
  refine Ak_aload_n 29 0 (d_M_leads 19 28 (.aload_n 0) 1 rfl) rfl rfl rfl ?_
  refine Ak_getF 32 43 hO clX13 (by decide) rfl lkF_M_144 (d_M_leads 20 29 (.getfield 144) 3 rfl) rfl ?_
  refine Ak_iconst 33 (d_M_leads 21 32 (.iconst 3) 1 rfl) rfl (rk rfl) ?_
  refine Ak_iload_n 34 1 (d_M_leads 22 33 (.iload_n 1) 1 rfl) rfl rfl rfl ?_
  refine Ak_iconst 35 (d_M_leads 23 34 (.iconst 2) 1 rfl) rfl (rk rfl) ?_
  refine Ak_irem 36 (d_M_leads 24 35 (.irem) 1 rfl) rfl (by decide) ?_
  obtain ⟨ha22, h⟩ := gd_some h
  refine Ak_iastore 37 ha22 (d_M_leads 25 36 (.iastore) 1 rfl) rfl (fun V23 hV23 => ?_)
  replace h := wV_some h V23 hV23
  refine Ak_aload_n 38 0 (d_M_leads 26 37 (.aload_n 0) 1 rfl) rfl rfl rfl ?_
  refine Ak_iload 40 (d_M_leads 27 38 (.iload 4) 2 rfl) rfl rfl ?_
  obtain ⟨r24, V25, h26, h⟩ := bnd_some h
  refine Ak_cV0 43 4 (c_M_names h26) rfl hO clX13 rfl mok_M_names lkM_M_468 (d_M_leads 28 40 (.invokevirtual 468) 3 rfl) rfl (by decide) (Nat.le_of_ble_eq_true rfl) ?_
  refine Ak_aload_n 44 0 (d_M_leads 29 43 (.aload_n 0) 1 rfl) rfl rfl rfl ?_
  obtain ⟨r27, V28, h29, h⟩ := bnd_some h
  refine Ak_cV1 47 2 (c_M_rulesAll h29) rfl hO clX13 rfl mok_M_rulesAll lkM_M_436 (d_M_leads 30 44 (.invokevirtual 436) 3 rfl) rfl (by decide) (Nat.le_of_ble_eq_true rfl) ?_
  refine Ak_iconst 48 (d_M_leads 31 47 (.iconst 1) 1 rfl) rfl (rk rfl) ?_
  refine Ak_isub 49 (d_M_leads 32 48 (.isub) 1 rfl) rfl ?_
  refine Ak_istore 51 (d_M_leads 33 49 (.istore 5) 2 rfl) rfl (by decide) ?_
  refine Ak_keep [true, false, false, false, true, true] ?_
  exact t_M_leads_L51 hO FU _ _ _ _ h
theorem c_M_comes {S : ASh} {V : ASt} {x0 x1 : Int} {r : Int} {V' : ASt} (h : f_M_comes S V x0 x1 = some (r, V')) : ACt m_M_comes 2 0 0 [(aR x0), (aI x1)] S V none S V' := by
  unfold f_M_comes at h
  obtain ⟨hO, h⟩ := gd_some h
  refine ACt_of (plainFor_of_name rfl) rfl (Nat.le_of_ble_eq_true rfl) ?_
  show AWk m_M_comes 2 0 0 0 0 0 [some (aR x0), some (aI x1)] [] S V none S V'
  refine Ak_aload_n 1 0 (d_M_comes 0 0 (.aload_n 0) 1 rfl) rfl rfl rfl ?_
  refine Ak_getF 4 54 hO clX13 (by decide) rfl lkF_M_177 (d_M_comes 1 1 (.getfield 177) 3 rfl) rfl ?_
  refine Ak_iload_n 5 1 (d_M_comes 2 4 (.iload_n 1) 1 rfl) rfl rfl rfl ?_
  obtain ⟨ha1, h⟩ := gd_some h
  refine Ak_baload 6 ha1 (d_M_comes 3 5 (.baload) 1 rfl) rfl ?_
  refine Ak_if_eq 10 9 (d_M_comes 4 6 (.ifCond .eq 4) 3 rfl) rfl rfl (fun hc => ?_) (fun hc => ?_)
  · replace h := it_t hc h
    refine Ak_aload_n 11 0 (d_M_comes 6 10 (.aload_n 0) 1 rfl) rfl rfl rfl ?_
    refine Ak_getF 14 54 hO clX13 (by decide) rfl lkF_M_177 (d_M_comes 7 11 (.getfield 177) 3 rfl) rfl ?_
    refine Ak_iload_n 15 1 (d_M_comes 8 14 (.iload_n 1) 1 rfl) rfl rfl rfl ?_
    refine Ak_iconst 16 (d_M_comes 9 15 (.iconst 1) 1 rfl) rfl (rk rfl) ?_
    refine Ak_bastore 17 ha1 (Or.inr rfl) (d_M_comes 10 16 (.bastore) 1 rfl) rfl (fun V2 hV2 => ?_)
    replace h := wV_some h V2 hV2
    refine Ak_aload_n 18 0 (d_M_comes 11 17 (.aload_n 0) 1 rfl) rfl rfl rfl ?_
    refine Ak_getF 21 55 hO clX13 (by decide) rfl lkF_M_180 (d_M_comes 12 18 (.getfield 180) 3 rfl) rfl ?_
    refine Ak_aload_n 22 0 (d_M_comes 13 21 (.aload_n 0) 1 rfl) rfl rfl rfl ?_
    refine Ak_getI 25 56 hO clX13 (by decide) (Or.inl rfl) lkF_M_183 (d_M_comes 14 22 (.getfield 183) 3 rfl) rfl ?_
    refine Ak_iload_n 26 1 (d_M_comes 15 25 (.iload_n 1) 1 rfl) rfl rfl rfl ?_
    obtain ⟨ha3, h⟩ := gd_some h
    refine Ak_iastore 27 ha3 (d_M_comes 16 26 (.iastore) 1 rfl) rfl (fun V4 hV4 => ?_)
    replace h := wV_some h V4 hV4
    refine Ak_aload_n 28 0 (d_M_comes 17 27 (.aload_n 0) 1 rfl) rfl rfl rfl ?_
    refine Ak_dup 29 (d_M_comes 18 28 (.dup) 1 rfl) rfl rfl ?_
    refine Ak_getI 32 56 hO clX13 (by decide) (Or.inl rfl) lkF_M_183 (d_M_comes 19 29 (.getfield 183) 3 rfl) rfl ?_
    refine Ak_iconst 33 (d_M_comes 20 32 (.iconst 1) 1 rfl) rfl (rk rfl) ?_
    refine Ak_iadd 34 (d_M_comes 21 33 (.iadd) 1 rfl) rfl ?_
    refine Ak_putI 37 56 hO clX13 (by decide) rfl rfl rfl lkF_M_183 (d_M_comes 22 34 (.putfield 183) 3 rfl) rfl (fun V5 hV5 => ?_)
    replace h := wV_some h V5 hV5
    cases h
    exact Ak_vret rfl (d_M_comes 23 37 (.return_) 1 rfl)
  · replace h := it_f hc h
    cases h
    exact Ak_vret rfl (d_M_comes 5 9 (.return_) 1 rfl)
theorem t_M_movesOf_L24 {S : ASh} {K9 : ASt → Int → Option (Int × ASt)} {x0 x1 x2 : Int} (hO : isO S x0 13 = true) (hK9 : ∀ {V : ASt} {y2 : Int} {r : Int} {V' : ASt}, K9 V y2 = some (r, V') → AWk m_M_movesOf 7 0 0 0 0 9 [some (aR x0), some (aI x1), some (aI y2)] [] S V none S V') : ∀ (n : Nat) (V : ASt) (x3 : Int) (r : Int) (V' : ASt), b_M_movesOf_L24 S K9 x0 x1 x2 n V x3 = some (r, V') → AWk m_M_movesOf 7 0 0 0 0 24 [some (aR x0), some (aI x1), some (aI x2), some (aI x3)] [] S V none S V' := by
  intro n
  induction n with
  | zero => intro V x3 r V' h; cases h
  | succ n ih =>
    intro V x3 r V' h
    replace ih : ∀ {V : ASt} {x3 : Int} {r : Int} {V' : ASt}, b_M_movesOf_L24 S K9 x0 x1 x2 n V x3 = some (r, V') → AWk m_M_movesOf 7 0 0 0 0 24 [some (aR x0), some (aI x1), some (aI x2), some (aI x3)] [] S V none S V' := fun h => ih _ _ _ _ h
    rw [b_M_movesOf_L24] at h
    refine Ak_iload_n 25 3 (d_M_movesOf 16 24 (.iload_n 3) 1 rfl) rfl rfl rfl ?_
    refine Ak_aload_n 26 0 (d_M_movesOf 17 25 (.aload_n 0) 1 rfl) rfl rfl rfl ?_
    refine Ak_getF 29 13 hO clX13 (by decide) rfl lkF_M_51 (d_M_movesOf 18 26 (.getfield 51) 3 rfl) rfl ?_
    refine Ak_aload_n 30 0 (d_M_movesOf 19 29 (.aload_n 0) 1 rfl) rfl rfl rfl ?_
    refine Ak_getI 33 12 hO clX13 (by decide) (Or.inl rfl) lkF_M_48 (d_M_movesOf 20 30 (.getfield 48) 3 rfl) rfl ?_
    obtain ⟨ha1, h⟩ := gd_some h
    refine Ak_iaload 34 ha1 (d_M_movesOf 21 33 (.iaload) 1 rfl) rfl ?_
    refine Ak_icmp_gt 127 37 (d_M_movesOf 22 34 (.if_icmp .gt 93) 3 rfl) rfl rfl (fun hc => ?_) (fun hc => ?_)
    · replace h := it_t hc h
      refine Ak_iinc 130 (d_M_movesOf 78 127 (.iinc 2 1) 3 rfl) rfl rfl (by decide) ?_
      refine Ak_goto 9 (d_M_movesOf 79 130 (.goto (-121)) 3 rfl) rfl ?_
      refine Ak_keep [true, true, true] ?_
      exact hK9 h
    · replace h := it_f hc h
      refine Ak_aload_n 38 0 (d_M_movesOf 23 37 (.aload_n 0) 1 rfl) rfl rfl rfl ?_
      refine Ak_iload_n 39 1 (d_M_movesOf 24 38 (.iload_n 1) 1 rfl) rfl rfl rfl ?_
      refine Ak_iload_n 40 2 (d_M_movesOf 25 39 (.iload_n 2) 1 rfl) rfl rfl rfl ?_
      refine Ak_iload_n 41 3 (d_M_movesOf 26 40 (.iload_n 3) 1 rfl) rfl rfl rfl ?_
      obtain ⟨r2, V3, h4, h⟩ := bnd_some h
      refine Ak_cV1 44 6 (c_M_isLawful h4) rfl hO clX13 rfl mok_M_isLawful lkM_M_481 (d_M_movesOf 27 41 (.invokevirtual 481) 3 rfl) rfl (by decide) (Nat.le_of_ble_eq_true rfl) ?_
      refine Ak_if_ne 50 47 (d_M_movesOf 28 44 (.ifCond .ne 6) 3 rfl) rfl rfl (fun hc => ?_) (fun hc => ?_)
      · replace h := it_f hc h
        refine Ak_bipush 52 (d_M_movesOf 30 50 (.bipush 20) 2 rfl) rfl (bp_ok rfl) (rk rfl) ?_
        refine Ak_iload_n 53 1 (d_M_movesOf 31 52 (.iload_n 1) 1 rfl) rfl rfl rfl ?_
        refine Ak_imul 54 (d_M_movesOf 32 53 (.imul) 1 rfl) rfl ?_
        refine Ak_aload_n 55 0 (d_M_movesOf 33 54 (.aload_n 0) 1 rfl) rfl rfl rfl ?_
        refine Ak_getF 58 51 hO clX13 (by decide) rfl lkF_M_168 (d_M_movesOf 34 55 (.getfield 168) 3 rfl) rfl ?_
        refine Ak_iload_n 59 1 (d_M_movesOf 35 58 (.iload_n 1) 1 rfl) rfl rfl rfl ?_
        obtain ⟨ha5, h⟩ := gd_some h
        refine Ak_iaload 60 ha5 (d_M_movesOf 36 59 (.iaload) 1 rfl) rfl ?_
        refine Ak_iadd 61 (d_M_movesOf 37 60 (.iadd) 1 rfl) rfl ?_
        refine Ak_istore 63 (d_M_movesOf 38 61 (.istore 4) 2 rfl) rfl (by decide) ?_
        refine Ak_aload_n 64 0 (d_M_movesOf 39 63 (.aload_n 0) 1 rfl) rfl rfl rfl ?_
        refine Ak_getF 67 52 hO clX13 (by decide) rfl lkF_M_171 (d_M_movesOf 40 64 (.getfield 171) 3 rfl) rfl ?_
        refine Ak_iload 69 (d_M_movesOf 41 67 (.iload 4) 2 rfl) rfl rfl ?_
        refine Ak_bipush 71 (d_M_movesOf 42 69 (.bipush 10) 2 rfl) rfl (bp_ok rfl) (rk rfl) ?_
        refine Ak_iload_n 72 2 (d_M_movesOf 43 71 (.iload_n 2) 1 rfl) rfl rfl rfl ?_
        refine Ak_imul 73 (d_M_movesOf 44 72 (.imul) 1 rfl) rfl ?_
        refine Ak_iload_n 74 3 (d_M_movesOf 45 73 (.iload_n 3) 1 rfl) rfl rfl rfl ?_
        refine Ak_iadd 75 (d_M_movesOf 46 74 (.iadd) 1 rfl) rfl ?_
        obtain ⟨ha6, h⟩ := gd_some h
        refine Ak_iastore 76 ha6 (d_M_movesOf 47 75 (.iastore) 1 rfl) rfl (fun V7 hV7 => ?_)
        replace h := wV_some h V7 hV7
        refine Ak_aload_n 77 0 (d_M_movesOf 48 76 (.aload_n 0) 1 rfl) rfl rfl rfl ?_
        refine Ak_getF 80 53 hO clX13 (by decide) rfl lkF_M_174 (d_M_movesOf 49 77 (.getfield 174) 3 rfl) rfl ?_
        refine Ak_iload 82 (d_M_movesOf 50 80 (.iload 4) 2 rfl) rfl rfl ?_
        refine Ak_aload_n 83 0 (d_M_movesOf 51 82 (.aload_n 0) 1 rfl) rfl rfl rfl ?_
        refine Ak_iload_n 84 1 (d_M_movesOf 52 83 (.iload_n 1) 1 rfl) rfl rfl rfl ?_
        refine Ak_iload_n 85 2 (d_M_movesOf 53 84 (.iload_n 2) 1 rfl) rfl rfl rfl ?_
        refine Ak_iload_n 86 3 (d_M_movesOf 54 85 (.iload_n 3) 1 rfl) rfl rfl rfl ?_
        obtain ⟨r8, V9, h10, h⟩ := bnd_some h
        refine Ak_cV1 89 6 (c_M_leads h10) rfl hO clX13 rfl mok_M_leads lkM_M_484 (d_M_movesOf 55 86 (.invokevirtual 484) 3 rfl) rfl (by decide) (Nat.le_of_ble_eq_true rfl) ?_
        obtain ⟨ha11, h⟩ := gd_some h
        refine Ak_iastore 90 ha11 (d_M_movesOf 56 89 (.iastore) 1 rfl) rfl (fun V12 hV12 => ?_)
        replace h := wV_some h V12 hV12
        refine Ak_aload_n 91 0 (d_M_movesOf 57 90 (.aload_n 0) 1 rfl) rfl rfl rfl ?_
        refine Ak_getF 94 51 hO clX13 (by decide) rfl lkF_M_168 (d_M_movesOf 58 91 (.getfield 168) 3 rfl) rfl ?_
        refine Ak_iload_n 95 1 (d_M_movesOf 59 94 (.iload_n 1) 1 rfl) rfl rfl rfl ?_
        refine Ak_dup2 96 (d_M_movesOf 60 95 (.dup2) 1 rfl) rfl rfl rfl ?_
        refine Ak_iaload 97 ha5 (d_M_movesOf 61 96 (.iaload) 1 rfl) rfl ?_
        refine Ak_iconst 98 (d_M_movesOf 62 97 (.iconst 1) 1 rfl) rfl (rk rfl) ?_
        refine Ak_iadd 99 (d_M_movesOf 63 98 (.iadd) 1 rfl) rfl ?_
        refine Ak_iastore 100 ha5 (d_M_movesOf 64 99 (.iastore) 1 rfl) rfl (fun V13 hV13 => ?_)
        replace h := wV_some h V13 hV13
        refine Ak_aload_n 101 0 (d_M_movesOf 65 100 (.aload_n 0) 1 rfl) rfl rfl rfl ?_
        refine Ak_getF 104 53 hO clX13 (by decide) rfl lkF_M_174 (d_M_movesOf 66 101 (.getfield 174) 3 rfl) rfl ?_
        refine Ak_iload 106 (d_M_movesOf 67 104 (.iload 4) 2 rfl) rfl rfl ?_
        refine Ak_iaload 107 ha11 (d_M_movesOf 68 106 (.iaload) 1 rfl) rfl ?_
        refine Ak_if_lt 121 110 (d_M_movesOf 69 107 (.ifCond .lt 14) 3 rfl) rfl rfl (fun hc => ?_) (fun hc => ?_)
        · replace h := it_t hc h
          refine Ak_iinc 124 (d_M_movesOf 76 121 (.iinc 3 1) 3 rfl) rfl rfl (by decide) ?_
          refine Ak_goto 24 (d_M_movesOf 77 124 (.goto (-100)) 3 rfl) rfl ?_
          refine Ak_keep [true, true, true, true] ?_
          exact ih h
        · replace h := it_f hc h
          refine Ak_aload_n 111 0 (d_M_movesOf 70 110 (.aload_n 0) 1 rfl) rfl rfl rfl ?_
          refine Ak_aload_n 112 0 (d_M_movesOf 71 111 (.aload_n 0) 1 rfl) rfl rfl rfl ?_
          refine Ak_getF 115 53 hO clX13 (by decide) rfl lkF_M_174 (d_M_movesOf 72 112 (.getfield 174) 3 rfl) rfl ?_
          refine Ak_iload 117 (d_M_movesOf 73 115 (.iload 4) 2 rfl) rfl rfl ?_
          refine Ak_iaload 118 ha11 (d_M_movesOf 74 117 (.iaload) 1 rfl) rfl ?_
          obtain ⟨r14, V15, h16, h⟩ := bnd_some h
          refine Ak_cV0 121 2 (c_M_comes h16) rfl hO clX13 rfl mok_M_comes lkM_M_487 (d_M_movesOf 75 118 (.invokevirtual 487) 3 rfl) rfl (by decide) (Nat.le_of_ble_eq_true rfl) ?_
          refine Ak_iinc 124 (d_M_movesOf 76 121 (.iinc 3 1) 3 rfl) rfl rfl (by decide) ?_
          refine Ak_goto 24 (d_M_movesOf 77 124 (.goto (-100)) 3 rfl) rfl ?_
          refine Ak_keep [true, true, true, true] ?_
          exact ih h
      · replace h := it_t hc h
        refine Ak_goto 121 (d_M_movesOf 29 47 (.goto 74) 3 rfl) rfl ?_
        refine Ak_iinc 124 (d_M_movesOf 76 121 (.iinc 3 1) 3 rfl) rfl rfl (by decide) ?_
        refine Ak_goto 24 (d_M_movesOf 77 124 (.goto (-100)) 3 rfl) rfl ?_
        refine Ak_keep [true, true, true, true] ?_
        exact ih h
theorem t_M_movesOf_L9 {S : ASh} {x0 x1 : Int} (hO : isO S x0 13 = true) : ∀ (n : Nat) (V : ASt) (x2 : Int) (r : Int) (V' : ASt), b_M_movesOf_L9 S x0 x1 n V x2 = some (r, V') → AWk m_M_movesOf 7 0 0 0 0 9 [some (aR x0), some (aI x1), some (aI x2)] [] S V none S V' := by
  intro n
  induction n with
  | zero => intro V x2 r V' h; cases h
  | succ n ih =>
    intro V x2 r V' h
    replace ih : ∀ {V : ASt} {x2 : Int} {r : Int} {V' : ASt}, b_M_movesOf_L9 S x0 x1 n V x2 = some (r, V') → AWk m_M_movesOf 7 0 0 0 0 9 [some (aR x0), some (aI x1), some (aI x2)] [] S V none S V' := fun h => ih _ _ _ _ h
    rw [b_M_movesOf_L9] at h
    refine Ak_iload_n 10 2 (d_M_movesOf 7 9 (.iload_n 2) 1 rfl) rfl rfl rfl ?_
    refine Ak_aload_n 11 0 (d_M_movesOf 8 10 (.aload_n 0) 1 rfl) rfl rfl rfl ?_
    refine Ak_getF 14 14 hO clX13 (by decide) rfl lkF_M_54 (d_M_movesOf 9 11 (.getfield 54) 3 rfl) rfl ?_
    refine Ak_aload_n 15 0 (d_M_movesOf 10 14 (.aload_n 0) 1 rfl) rfl rfl rfl ?_
    refine Ak_getI 18 12 hO clX13 (by decide) (Or.inl rfl) lkF_M_48 (d_M_movesOf 11 15 (.getfield 48) 3 rfl) rfl ?_
    obtain ⟨ha17, h⟩ := gd_some h
    refine Ak_iaload 19 ha17 (d_M_movesOf 12 18 (.iaload) 1 rfl) rfl ?_
    refine Ak_icmp_ge 133 22 (d_M_movesOf 13 19 (.if_icmp .ge 114) 3 rfl) rfl rfl (fun hc => ?_) (fun hc => ?_)
    · replace h := it_t hc h
      cases h
      exact Ak_vret rfl (d_M_movesOf 80 133 (.return_) 1 rfl)
    · replace h := it_f hc h
      refine Ak_iconst 23 (d_M_movesOf 14 22 (.iconst 0) 1 rfl) rfl (rk rfl) ?_
      refine Ak_istore_n 24 3 (d_M_movesOf 15 23 (.istore_n 3) 1 rfl) rfl rfl (by decide) ?_
      refine Ak_keep [true, true, true, true] ?_
      exact t_M_movesOf_L24 hO (fun h => ih h) FU _ _ _ _ h
theorem c_M_movesOf {S : ASh} {V : ASt} {x0 x1 : Int} {r : Int} {V' : ASt} (h : f_M_movesOf S V x0 x1 = some (r, V')) : ACt m_M_movesOf 7 0 0 [(aR x0), (aI x1)] S V none S V' := by
  unfold f_M_movesOf at h
  obtain ⟨hO, h⟩ := gd_some h
  refine ACt_of (plainFor_of_name rfl) rfl (Nat.le_of_ble_eq_true rfl) ?_
  show AWk m_M_movesOf 7 0 0 0 0 0 [some (aR x0), some (aI x1)] [] S V none S V'
  refine Ak_aload_n 1 0 (d_M_movesOf 0 0 (.aload_n 0) 1 rfl) rfl rfl rfl ?_
  refine Ak_getF 4 51 hO clX13 (by decide) rfl lkF_M_168 (d_M_movesOf 1 1 (.getfield 168) 3 rfl) rfl ?_
  refine Ak_iload_n 5 1 (d_M_movesOf 2 4 (.iload_n 1) 1 rfl) rfl rfl rfl ?_
  refine Ak_iconst 6 (d_M_movesOf 3 5 (.iconst 0) 1 rfl) rfl (rk rfl) ?_
  obtain ⟨ha18, h⟩ := gd_some h
  refine Ak_iastore 7 ha18 (d_M_movesOf 4 6 (.iastore) 1 rfl) rfl (fun V19 hV19 => ?_)
  replace h := wV_some h V19 hV19
  refine Ak_iconst 8 (d_M_movesOf 5 7 (.iconst 0) 1 rfl) rfl (rk rfl) ?_
  refine Ak_istore_n 9 2 (d_M_movesOf 6 8 (.istore_n 2) 1 rfl) rfl rfl (by decide) ?_
  refine Ak_keep [true, true, true] ?_
  exact t_M_movesOf_L9 hO FU _ _ _ _ h
theorem t_M_lays_L65 {S : ASh} {x0 : Int} (hO : isO S x0 13 = true) : ∀ (n : Nat) (V : ASt) (x2 : Int) (r : Int) (V' : ASt), b_M_lays_L65 S x0 n V x2 = some (r, V') → AWk m_M_lays 8 0 0 0 0 65 [some (aR x0), none, some (aI x2)] [] S V none S V' := by
  intro n
  induction n with
  | zero => intro V x2 r V' h; cases h
  | succ n ih =>
    intro V x2 r V' h
    replace ih : ∀ {V : ASt} {x2 : Int} {r : Int} {V' : ASt}, b_M_lays_L65 S x0 n V x2 = some (r, V') → AWk m_M_lays 8 0 0 0 0 65 [some (aR x0), none, some (aI x2)] [] S V none S V' := fun h => ih _ _ _ _ h
    rw [b_M_lays_L65] at h
    refine Ak_iload_n 66 2 (d_M_lays 37 65 (.iload_n 2) 1 rfl) rfl rfl rfl ?_
    refine Ak_aload_n 67 0 (d_M_lays 38 66 (.aload_n 0) 1 rfl) rfl rfl rfl ?_
    refine Ak_getI 70 56 hO clX13 (by decide) (Or.inl rfl) lkF_M_183 (d_M_lays 39 67 (.getfield 183) 3 rfl) rfl ?_
    refine Ak_icmp_ge 89 73 (d_M_lays 40 70 (.if_icmp .ge 19) 3 rfl) rfl rfl (fun hc => ?_) (fun hc => ?_)
    · replace h := it_t hc h
      cases h
      exact Ak_vret rfl (d_M_lays 49 89 (.return_) 1 rfl)
    · replace h := it_f hc h
      refine Ak_aload_n 74 0 (d_M_lays 41 73 (.aload_n 0) 1 rfl) rfl rfl rfl ?_
      refine Ak_aload_n 75 0 (d_M_lays 42 74 (.aload_n 0) 1 rfl) rfl rfl rfl ?_
      refine Ak_getF 78 55 hO clX13 (by decide) rfl lkF_M_180 (d_M_lays 43 75 (.getfield 180) 3 rfl) rfl ?_
      refine Ak_iload_n 79 2 (d_M_lays 44 78 (.iload_n 2) 1 rfl) rfl rfl rfl ?_
      obtain ⟨ha1, h⟩ := gd_some h
      refine Ak_iaload 80 ha1 (d_M_lays 45 79 (.iaload) 1 rfl) rfl ?_
      obtain ⟨r2, V3, h4, h⟩ := bnd_some h
      refine Ak_cV0 83 7 (c_M_movesOf h4) rfl hO clX13 rfl mok_M_movesOf lkM_M_490 (d_M_lays 46 80 (.invokevirtual 490) 3 rfl) rfl (by decide) (Nat.le_of_ble_eq_true rfl) ?_
      refine Ak_iinc 86 (d_M_lays 47 83 (.iinc 2 1) 3 rfl) rfl rfl (by decide) ?_
      refine Ak_goto 65 (d_M_lays 48 86 (.goto (-21)) 3 rfl) rfl ?_
      refine Ak_keep [true, false, true] ?_
      exact ih h
theorem t_M_lays_L39 {S : ASh} {x0 x1 : Int} (hO : isO S x0 13 = true) : ∀ (n : Nat) (V : ASt) (x2 : Int) (r : Int) (V' : ASt), b_M_lays_L39 S x0 x1 n V x2 = some (r, V') → AWk m_M_lays 8 0 0 0 0 39 [some (aR x0), some (aI x1), some (aI x2)] [] S V none S V' := by
  intro n
  induction n with
  | zero => intro V x2 r V' h; cases h
  | succ n ih =>
    intro V x2 r V' h
    replace ih : ∀ {V : ASt} {x2 : Int} {r : Int} {V' : ASt}, b_M_lays_L39 S x0 x1 n V x2 = some (r, V') → AWk m_M_lays 8 0 0 0 0 39 [some (aR x0), some (aI x1), some (aI x2)] [] S V none S V' := fun h => ih _ _ _ _ h
    rw [b_M_lays_L39] at h
    refine Ak_iload_n 40 2 (d_M_lays 23 39 (.iload_n 2) 1 rfl) rfl rfl rfl ?_
    refine Ak_aload_n 41 0 (d_M_lays 24 40 (.aload_n 0) 1 rfl) rfl rfl rfl ?_
    obtain ⟨r5, V6, h7, h⟩ := bnd_some h
    refine Ak_cV1 44 3 (c_M_positions h7) rfl hO clX13 rfl mok_M_positions lkM_M_451 (d_M_lays 25 41 (.invokevirtual 451) 3 rfl) rfl (by decide) (Nat.le_of_ble_eq_true rfl) ?_
    refine Ak_icmp_ge 63 47 (d_M_lays 26 44 (.if_icmp .ge 19) 3 rfl) rfl rfl (fun hc => ?_) (fun hc => ?_)
    · replace h := it_t hc h
      refine Ak_iconst 64 (d_M_lays 35 63 (.iconst 0) 1 rfl) rfl (rk rfl) ?_
      refine Ak_istore_n 65 2 (d_M_lays 36 64 (.istore_n 2) 1 rfl) rfl rfl (by decide) ?_
      refine Ak_keep [true, false, true] ?_
      exact t_M_lays_L65 hO FU _ _ _ _ h
    · replace h := it_f hc h
      refine Ak_iload_n 48 1 (d_M_lays 27 47 (.iload_n 1) 1 rfl) rfl rfl rfl ?_
      refine Ak_iconst 49 (d_M_lays 28 48 (.iconst (-1)) 1 rfl) rfl (rk rfl) ?_
      refine Ak_icmp_ne 63 52 (d_M_lays 29 49 (.if_icmp .ne 14) 3 rfl) rfl rfl (fun hc => ?_) (fun hc => ?_)
      · replace h := it_f hc h
        refine Ak_iconst 64 (d_M_lays 35 63 (.iconst 0) 1 rfl) rfl (rk rfl) ?_
        refine Ak_istore_n 65 2 (d_M_lays 36 64 (.istore_n 2) 1 rfl) rfl rfl (by decide) ?_
        refine Ak_keep [true, false, true] ?_
        exact t_M_lays_L65 hO FU _ _ _ _ h
      · replace h := it_t hc h
        refine Ak_aload_n 53 0 (d_M_lays 30 52 (.aload_n 0) 1 rfl) rfl rfl rfl ?_
        refine Ak_iload_n 54 2 (d_M_lays 31 53 (.iload_n 2) 1 rfl) rfl rfl rfl ?_
        obtain ⟨r8, V9, h10, h⟩ := bnd_some h
        refine Ak_cV0 57 2 (c_M_comes h10) rfl hO clX13 rfl mok_M_comes lkM_M_487 (d_M_lays 32 54 (.invokevirtual 487) 3 rfl) rfl (by decide) (Nat.le_of_ble_eq_true rfl) ?_
        refine Ak_iinc 60 (d_M_lays 33 57 (.iinc 2 1) 3 rfl) rfl rfl (by decide) ?_
        refine Ak_goto 39 (d_M_lays 34 60 (.goto (-21)) 3 rfl) rfl ?_
        refine Ak_keep [true, true, true] ?_
        exact ih h
theorem t_M_lays_L2 {S : ASh} {x0 x1 : Int} (hO : isO S x0 13 = true) : ∀ (n : Nat) (V : ASt) (x2 : Int) (r : Int) (V' : ASt), b_M_lays_L2 S x0 x1 n V x2 = some (r, V') → AWk m_M_lays 8 0 0 0 0 2 [some (aR x0), some (aI x1), some (aI x2)] [] S V none S V' := by
  intro n
  induction n with
  | zero => intro V x2 r V' h; cases h
  | succ n ih =>
    intro V x2 r V' h
    replace ih : ∀ {V : ASt} {x2 : Int} {r : Int} {V' : ASt}, b_M_lays_L2 S x0 x1 n V x2 = some (r, V') → AWk m_M_lays 8 0 0 0 0 2 [some (aR x0), some (aI x1), some (aI x2)] [] S V none S V' := fun h => ih _ _ _ _ h
    rw [b_M_lays_L2] at h
    refine Ak_iload_n 3 2 (d_M_lays 2 2 (.iload_n 2) 1 rfl) rfl rfl rfl ?_
    refine Ak_sipush 6 (d_M_lays 3 3 (.sipush 200) 3 rfl) rfl (sp_ok rfl) (rk rfl) ?_
    refine Ak_icmp_ge 22 9 (d_M_lays 4 6 (.if_icmp .ge 16) 3 rfl) rfl rfl (fun hc => ?_) (fun hc => ?_)
    · replace h := it_t hc h
      refine Ak_aload_n 23 0 (d_M_lays 12 22 (.aload_n 0) 1 rfl) rfl rfl rfl ?_
      refine Ak_iconst 24 (d_M_lays 13 23 (.iconst 0) 1 rfl) rfl (rk rfl) ?_
      refine Ak_putI 27 56 hO clX13 (by decide) rfl rfl rfl lkF_M_183 (d_M_lays 14 24 (.putfield 183) 3 rfl) rfl (fun V11 hV11 => ?_)
      replace h := wV_some h V11 hV11
      refine Ak_iload_n 28 1 (d_M_lays 15 27 (.iload_n 1) 1 rfl) rfl rfl rfl ?_
      refine Ak_iconst 29 (d_M_lays 16 28 (.iconst (-1)) 1 rfl) rfl (rk rfl) ?_
      refine Ak_icmp_eq 37 32 (d_M_lays 17 29 (.if_icmp .eq 8) 3 rfl) rfl rfl (fun hc => ?_) (fun hc => ?_)
      · replace h := it_t hc h
        refine Ak_iconst 38 (d_M_lays 21 37 (.iconst 0) 1 rfl) rfl (rk rfl) ?_
        refine Ak_istore_n 39 2 (d_M_lays 22 38 (.istore_n 2) 1 rfl) rfl rfl (by decide) ?_
        refine Ak_keep [true, true, true] ?_
        exact t_M_lays_L39 hO FU _ _ _ _ h
      · replace h := it_f hc h
        refine Ak_aload_n 33 0 (d_M_lays 18 32 (.aload_n 0) 1 rfl) rfl rfl rfl ?_
        refine Ak_iload_n 34 1 (d_M_lays 19 33 (.iload_n 1) 1 rfl) rfl rfl rfl ?_
        obtain ⟨r12, V13, h14, h⟩ := bnd_some h
        refine Ak_cV0 37 2 (c_M_comes h14) rfl hO clX13 rfl mok_M_comes lkM_M_487 (d_M_lays 20 34 (.invokevirtual 487) 3 rfl) rfl (by decide) (Nat.le_of_ble_eq_true rfl) ?_
        refine Ak_iconst 38 (d_M_lays 21 37 (.iconst 0) 1 rfl) rfl (rk rfl) ?_
        refine Ak_istore_n 39 2 (d_M_lays 22 38 (.istore_n 2) 1 rfl) rfl rfl (by decide) ?_
        refine Ak_keep [true, true, true] ?_
        exact t_M_lays_L39 hO FU _ _ _ _ h
    · replace h := it_f hc h
      refine Ak_aload_n 10 0 (d_M_lays 5 9 (.aload_n 0) 1 rfl) rfl rfl rfl ?_
      refine Ak_getF 13 54 hO clX13 (by decide) rfl lkF_M_177 (d_M_lays 6 10 (.getfield 177) 3 rfl) rfl ?_
      refine Ak_iload_n 14 2 (d_M_lays 7 13 (.iload_n 2) 1 rfl) rfl rfl rfl ?_
      refine Ak_iconst 15 (d_M_lays 8 14 (.iconst 0) 1 rfl) rfl (rk rfl) ?_
      obtain ⟨ha15, h⟩ := gd_some h
      refine Ak_bastore 16 ha15 (Or.inl rfl) (d_M_lays 9 15 (.bastore) 1 rfl) rfl (fun V16 hV16 => ?_)
      replace h := wV_some h V16 hV16
      refine Ak_iinc 19 (d_M_lays 10 16 (.iinc 2 1) 3 rfl) rfl rfl (by decide) ?_
      refine Ak_goto 2 (d_M_lays 11 19 (.goto (-17)) 3 rfl) rfl ?_
      refine Ak_keep [true, true, true] ?_
      exact ih h
theorem c_M_lays {S : ASh} {V : ASt} {x0 x1 : Int} {r : Int} {V' : ASt} (h : f_M_lays S V x0 x1 = some (r, V')) : ACt m_M_lays 8 0 0 [(aR x0), (aI x1)] S V none S V' := by
  unfold f_M_lays at h
  obtain ⟨hO, h⟩ := gd_some h
  refine ACt_of (plainFor_of_name rfl) rfl (Nat.le_of_ble_eq_true rfl) ?_
  show AWk m_M_lays 8 0 0 0 0 0 [some (aR x0), some (aI x1)] [] S V none S V'
  refine Ak_iconst 1 (d_M_lays 0 0 (.iconst 0) 1 rfl) rfl (rk rfl) ?_
  refine Ak_istore_n 2 2 (d_M_lays 1 1 (.istore_n 2) 1 rfl) rfl rfl (by decide) ?_
  refine Ak_keep [true, true, true] ?_
  exact t_M_lays_L2 hO FU _ _ _ _ h
theorem c_M_isPosition {S : ASh} {V : ASt} {x0 x1 : Int} {r : Int} {V' : ASt} (h : f_M_isPosition S V x0 x1 = some (r, V')) : ACt m_M_isPosition 4 0 0 [(aR x0), (aI x1)] S V (some (aI r)) S V' := by
  unfold f_M_isPosition at h
  obtain ⟨hO, h⟩ := gd_some h
  refine ACt_of (plainFor_of_name rfl) rfl (Nat.le_of_ble_eq_true rfl) ?_
  show AWk m_M_isPosition 4 0 0 0 0 0 [some (aR x0), some (aI x1)] [] S V (some (aI r)) S V'
  refine Ak_aload_n 1 0 (d_M_isPosition 0 0 (.aload_n 0) 1 rfl) rfl rfl rfl ?_
  obtain ⟨r1, V2, h3, h⟩ := bnd_some h
  refine Ak_cV1 4 2 (c_M_hasFields h3) rfl hO clX13 rfl mok_M_hasFields lkM_M_448 (d_M_isPosition 1 1 (.invokevirtual 448) 3 rfl) rfl (by decide) (Nat.le_of_ble_eq_true rfl) ?_
  refine Ak_if_eq 25 7 (d_M_isPosition 2 4 (.ifCond .eq 21) 3 rfl) rfl rfl (fun hc => ?_) (fun hc => ?_)
  · replace h := it_t hc h
    refine Ak_iconst 26 (d_M_isPosition 13 25 (.iconst 0) 1 rfl) rfl (rk rfl) ?_
    cases h
    exact Ak_zret (Or.inl rfl) rfl (d_M_isPosition 14 26 (.ireturn) 1 rfl)
  · replace h := it_f hc h
    refine Ak_iload_n 8 1 (d_M_isPosition 3 7 (.iload_n 1) 1 rfl) rfl rfl rfl ?_
    refine Ak_iconst 9 (d_M_isPosition 4 8 (.iconst 0) 1 rfl) rfl (rk rfl) ?_
    refine Ak_aload_n 10 0 (d_M_isPosition 5 9 (.aload_n 0) 1 rfl) rfl rfl rfl ?_
    obtain ⟨r4, V5, h6, h⟩ := bnd_some h
    refine Ak_cV1 13 3 (c_M_positions h6) rfl hO clX13 rfl mok_M_positions lkM_M_451 (d_M_isPosition 6 10 (.invokevirtual 451) 3 rfl) rfl (by decide) (Nat.le_of_ble_eq_true rfl) ?_
    refine Ak_iconst 14 (d_M_isPosition 7 13 (.iconst 1) 1 rfl) rfl (rk rfl) ?_
    refine Ak_isub 15 (d_M_isPosition 8 14 (.isub) 1 rfl) rfl ?_
    obtain ⟨r7, V8, h9, h⟩ := bnd_some h
    refine Ak_cS1 18 2 (c_M_is h9) rfl mok_M_is lkM_M_329 (d_M_isPosition 9 15 (.invokestatic 329) 3 rfl) rfl (by decide) (Nat.le_of_ble_eq_true rfl) ?_
    refine Ak_if_eq 25 21 (d_M_isPosition 10 18 (.ifCond .eq 7) 3 rfl) rfl rfl (fun hc => ?_) (fun hc => ?_)
    · replace h := it_t hc h
      refine Ak_iconst 26 (d_M_isPosition 13 25 (.iconst 0) 1 rfl) rfl (rk rfl) ?_
      cases h
      exact Ak_zret (Or.inl rfl) rfl (d_M_isPosition 14 26 (.ireturn) 1 rfl)
    · replace h := it_f hc h
      refine Ak_iconst 22 (d_M_isPosition 11 21 (.iconst 1) 1 rfl) rfl (rk rfl) ?_
      refine Ak_goto 26 (d_M_isPosition 12 22 (.goto 4) 3 rfl) rfl ?_
      cases h
      exact Ak_zret (Or.inr rfl) rfl (d_M_isPosition 14 26 (.ireturn) 1 rfl)
theorem c_M_lawful {S : ASh} {V : ASt} {x0 x1 x2 : Int} {r : Int} {V' : ASt} (h : f_M_lawful S V x0 x1 x2 = some (r, V')) : ACt m_M_lawful 9 0 0 [(aR x0), (aI x1), (aI x2)] S V (some (aI r)) S V' := by
  unfold f_M_lawful at h
  obtain ⟨hO, h⟩ := gd_some h
  refine ACt_of (plainFor_of_name rfl) rfl (Nat.le_of_ble_eq_true rfl) ?_
  show AWk m_M_lawful 9 0 0 0 0 0 [some (aR x0), some (aI x1), some (aI x2)] [] S V (some (aI r)) S V'
  refine Ak_aload_n 1 0 (d_M_lawful 0 0 (.aload_n 0) 1 rfl) rfl rfl rfl ?_
  refine Ak_iload_n 2 1 (d_M_lawful 1 1 (.iload_n 1) 1 rfl) rfl rfl rfl ?_
  obtain ⟨r1, V2, h3, h⟩ := bnd_some h
  refine Ak_cV1 5 4 (c_M_isPosition h3) rfl hO clX13 rfl mok_M_isPosition lkM_M_493 (d_M_lawful 2 2 (.invokevirtual 493) 3 rfl) rfl (by decide) (Nat.le_of_ble_eq_true rfl) ?_
  refine Ak_if_ne 10 8 (d_M_lawful 3 5 (.ifCond .ne 5) 3 rfl) rfl rfl (fun hc => ?_) (fun hc => ?_)
  · replace h := it_f hc h
    refine Ak_aload_n 11 0 (d_M_lawful 6 10 (.aload_n 0) 1 rfl) rfl rfl rfl ?_
    refine Ak_iload_n 12 1 (d_M_lawful 7 11 (.iload_n 1) 1 rfl) rfl rfl rfl ?_
    obtain ⟨r4, V5, h6, h⟩ := bnd_some h
    refine Ak_cV0 15 8 (c_M_lays h6) rfl hO clX13 rfl mok_M_lays lkM_M_496 (d_M_lawful 8 12 (.invokevirtual 496) 3 rfl) rfl (by decide) (Nat.le_of_ble_eq_true rfl) ?_
    refine Ak_iload_n 16 2 (d_M_lawful 9 15 (.iload_n 2) 1 rfl) rfl rfl rfl ?_
    refine Ak_iconst 17 (d_M_lawful 10 16 (.iconst (-1)) 1 rfl) rfl (rk rfl) ?_
    refine Ak_icmp_ne 29 20 (d_M_lawful 11 17 (.if_icmp .ne 12) 3 rfl) rfl rfl (fun hc => ?_) (fun hc => ?_)
    · replace h := it_f hc h
      refine Ak_iload_n 30 2 (d_M_lawful 17 29 (.iload_n 2) 1 rfl) rfl rfl rfl ?_
      refine Ak_iconst 31 (d_M_lawful 18 30 (.iconst 0) 1 rfl) rfl (rk rfl) ?_
      refine Ak_aload_n 32 0 (d_M_lawful 19 31 (.aload_n 0) 1 rfl) rfl rfl rfl ?_
      refine Ak_getF 35 51 hO clX13 (by decide) rfl lkF_M_168 (d_M_lawful 20 32 (.getfield 168) 3 rfl) rfl ?_
      refine Ak_iload_n 36 1 (d_M_lawful 21 35 (.iload_n 1) 1 rfl) rfl rfl rfl ?_
      obtain ⟨ha7, h⟩ := gd_some h
      refine Ak_iaload 37 ha7 (d_M_lawful 22 36 (.iaload) 1 rfl) rfl ?_
      refine Ak_iconst 38 (d_M_lawful 23 37 (.iconst 1) 1 rfl) rfl (rk rfl) ?_
      refine Ak_isub 39 (d_M_lawful 24 38 (.isub) 1 rfl) rfl ?_
      obtain ⟨r8, V9, h10, h⟩ := bnd_some h
      refine Ak_cS1 42 2 (c_M_is h10) rfl mok_M_is lkM_M_329 (d_M_lawful 25 39 (.invokestatic 329) 3 rfl) rfl (by decide) (Nat.le_of_ble_eq_true rfl) ?_
      refine Ak_if_eq 59 45 (d_M_lawful 26 42 (.ifCond .eq 17) 3 rfl) rfl rfl (fun hc => ?_) (fun hc => ?_)
      · replace h := it_t hc h
        refine Ak_iconst 60 (d_M_lawful 36 59 (.iconst (-1)) 1 rfl) rfl (rk rfl) ?_
        cases h
        exact Ak_iret rfl (d_M_lawful 37 60 (.ireturn) 1 rfl)
      · replace h := it_f hc h
        refine Ak_aload_n 46 0 (d_M_lawful 27 45 (.aload_n 0) 1 rfl) rfl rfl rfl ?_
        refine Ak_getF 49 52 hO clX13 (by decide) rfl lkF_M_171 (d_M_lawful 28 46 (.getfield 171) 3 rfl) rfl ?_
        refine Ak_bipush 51 (d_M_lawful 29 49 (.bipush 20) 2 rfl) rfl (bp_ok rfl) (rk rfl) ?_
        refine Ak_iload_n 52 1 (d_M_lawful 30 51 (.iload_n 1) 1 rfl) rfl rfl rfl ?_
        refine Ak_imul 53 (d_M_lawful 31 52 (.imul) 1 rfl) rfl ?_
        refine Ak_iload_n 54 2 (d_M_lawful 32 53 (.iload_n 2) 1 rfl) rfl rfl rfl ?_
        refine Ak_iadd 55 (d_M_lawful 33 54 (.iadd) 1 rfl) rfl ?_
        obtain ⟨ha11, h⟩ := gd_some h
        refine Ak_iaload 56 ha11 (d_M_lawful 34 55 (.iaload) 1 rfl) rfl ?_
        refine Ak_goto 60 (d_M_lawful 35 56 (.goto 4) 3 rfl) rfl ?_
        cases h
        exact Ak_iret rfl (d_M_lawful 37 60 (.ireturn) 1 rfl)
    · replace h := it_t hc h
      refine Ak_aload_n 21 0 (d_M_lawful 12 20 (.aload_n 0) 1 rfl) rfl rfl rfl ?_
      refine Ak_getF 24 51 hO clX13 (by decide) rfl lkF_M_168 (d_M_lawful 13 21 (.getfield 168) 3 rfl) rfl ?_
      refine Ak_iload_n 25 1 (d_M_lawful 14 24 (.iload_n 1) 1 rfl) rfl rfl rfl ?_
      obtain ⟨ha12, h⟩ := gd_some h
      refine Ak_iaload 26 ha12 (d_M_lawful 15 25 (.iaload) 1 rfl) rfl ?_
      refine Ak_goto 60 (d_M_lawful 16 26 (.goto 34) 3 rfl) rfl ?_
      cases h
      exact Ak_iret rfl (d_M_lawful 37 60 (.ireturn) 1 rfl)
  · replace h := it_t hc h
    refine Ak_iconst 9 (d_M_lawful 4 8 (.iconst (-1)) 1 rfl) rfl (rk rfl) ?_
    cases h
    exact Ak_iret rfl (d_M_lawful 5 9 (.ireturn) 1 rfl)
theorem t_M_winsIn_J35 {S : ASh} {K5 : ASt → Int → Option (Int × ASt)} {V : ASt} {x0 x1 x2 x3 : Int} {r : Int} {V' : ASt} (hO : isO S x0 13 = true) (hK5 : ∀ {V : ASt} {y3 : Int} {r : Int} {V' : ASt}, K5 V y3 = some (r, V') → AWk m_M_winsIn 2 0 0 0 0 5 [some (aR x0), some (aI x1), some (aI x2), some (aI y3)] [] S V (some (aI r)) S V') (h : b_M_winsIn_J35 S K5 V x0 x1 x2 x3 = some (r, V')) : AWk m_M_winsIn 2 0 0 0 0 35 [some (aR x0), some (aI x1), some (aI x2), some (aI x3)] [] S V (some (aI r)) S V' := by
  unfold b_M_winsIn_J35 at h
  refine Ak_aload_n 36 0 (d_M_winsIn 23 35 (.aload_n 0) 1 rfl) rfl rfl rfl ?_
  refine Ak_getF 39 53 hO clX13 (by decide) rfl lkF_M_174 (d_M_winsIn 24 36 (.getfield 174) 3 rfl) rfl ?_
  refine Ak_iload_n 40 3 (d_M_winsIn 25 39 (.iload_n 3) 1 rfl) rfl rfl rfl ?_
  obtain ⟨ha1, h⟩ := gd_some h
  refine Ak_iaload 41 ha1 (d_M_winsIn 26 40 (.iaload) 1 rfl) rfl ?_
  refine Ak_if_lt 78 44 (d_M_winsIn 27 41 (.ifCond .lt 37) 3 rfl) rfl rfl (fun hc => ?_) (fun hc => ?_)
  · replace h := it_t hc h
    refine Ak_iinc 81 (d_M_winsIn 50 78 (.iinc 3 1) 3 rfl) rfl rfl (by decide) ?_
    refine Ak_goto 5 (d_M_winsIn 51 81 (.goto (-76)) 3 rfl) rfl ?_
    refine Ak_keep [true, true, true, true] ?_
    exact hK5 h
  · replace h := it_f hc h
    refine Ak_aload_n 45 0 (d_M_winsIn 28 44 (.aload_n 0) 1 rfl) rfl rfl rfl ?_
    refine Ak_getF 48 57 hO clX13 (by decide) rfl lkF_M_186 (d_M_winsIn 29 45 (.getfield 186) 3 rfl) rfl ?_
    refine Ak_aload_n 49 0 (d_M_winsIn 30 48 (.aload_n 0) 1 rfl) rfl rfl rfl ?_
    refine Ak_getF 52 53 hO clX13 (by decide) rfl lkF_M_174 (d_M_winsIn 31 49 (.getfield 174) 3 rfl) rfl ?_
    refine Ak_iload_n 53 3 (d_M_winsIn 32 52 (.iload_n 3) 1 rfl) rfl rfl rfl ?_
    refine Ak_iaload 54 ha1 (d_M_winsIn 33 53 (.iaload) 1 rfl) rfl ?_
    obtain ⟨ha2, h⟩ := gd_some h
    refine Ak_iaload 55 ha2 (d_M_winsIn 34 54 (.iaload) 1 rfl) rfl ?_
    refine Ak_iconst 56 (d_M_winsIn 35 55 (.iconst (-1)) 1 rfl) rfl (rk rfl) ?_
    refine Ak_icmp_ne 78 59 (d_M_winsIn 36 56 (.if_icmp .ne 22) 3 rfl) rfl rfl (fun hc => ?_) (fun hc => ?_)
    · replace h := it_f hc h
      refine Ak_iinc 81 (d_M_winsIn 50 78 (.iinc 3 1) 3 rfl) rfl rfl (by decide) ?_
      refine Ak_goto 5 (d_M_winsIn 51 81 (.goto (-76)) 3 rfl) rfl ?_
      refine Ak_keep [true, true, true, true] ?_
      exact hK5 h
    · replace h := it_t hc h
      refine Ak_aload_n 60 0 (d_M_winsIn 37 59 (.aload_n 0) 1 rfl) rfl rfl rfl ?_
      refine Ak_getF 63 58 hO clX13 (by decide) rfl lkF_M_189 (d_M_winsIn 38 60 (.getfield 189) 3 rfl) rfl ?_
      refine Ak_aload_n 64 0 (d_M_winsIn 39 63 (.aload_n 0) 1 rfl) rfl rfl rfl ?_
      refine Ak_getF 67 53 hO clX13 (by decide) rfl lkF_M_174 (d_M_winsIn 40 64 (.getfield 174) 3 rfl) rfl ?_
      refine Ak_iload_n 68 3 (d_M_winsIn 41 67 (.iload_n 3) 1 rfl) rfl rfl rfl ?_
      refine Ak_iaload 69 ha1 (d_M_winsIn 42 68 (.iaload) 1 rfl) rfl ?_
      obtain ⟨ha3, h⟩ := gd_some h
      refine Ak_iaload 70 ha3 (d_M_winsIn 43 69 (.iaload) 1 rfl) rfl ?_
      refine Ak_iload_n 71 2 (d_M_winsIn 44 70 (.iload_n 2) 1 rfl) rfl rfl rfl ?_
      refine Ak_iconst 72 (d_M_winsIn 45 71 (.iconst 1) 1 rfl) rfl (rk rfl) ?_
      refine Ak_isub 73 (d_M_winsIn 46 72 (.isub) 1 rfl) rfl ?_
      refine Ak_icmp_ne 78 76 (d_M_winsIn 47 73 (.if_icmp .ne 5) 3 rfl) rfl rfl (fun hc => ?_) (fun hc => ?_)
      · replace h := it_f hc h
        refine Ak_iinc 81 (d_M_winsIn 50 78 (.iinc 3 1) 3 rfl) rfl rfl (by decide) ?_
        refine Ak_goto 5 (d_M_winsIn 51 81 (.goto (-76)) 3 rfl) rfl ?_
        refine Ak_keep [true, true, true, true] ?_
        exact hK5 h
      · replace h := it_t hc h
        refine Ak_iconst 77 (d_M_winsIn 48 76 (.iconst 1) 1 rfl) rfl (rk rfl) ?_
        cases h
        exact Ak_zret (Or.inr rfl) rfl (d_M_winsIn 49 77 (.ireturn) 1 rfl)
theorem t_M_winsIn_L5 {S : ASh} {x0 x1 x2 : Int} (hO : isO S x0 13 = true) : ∀ (n : Nat) (V : ASt) (x3 : Int) (r : Int) (V' : ASt), b_M_winsIn_L5 S x0 x1 x2 n V x3 = some (r, V') → AWk m_M_winsIn 2 0 0 0 0 5 [some (aR x0), some (aI x1), some (aI x2), some (aI x3)] [] S V (some (aI r)) S V' := by
  intro n
  induction n with
  | zero => intro V x3 r V' h; cases h
  | succ n ih =>
    intro V x3 r V' h
    replace ih : ∀ {V : ASt} {x3 : Int} {r : Int} {V' : ASt}, b_M_winsIn_L5 S x0 x1 x2 n V x3 = some (r, V') → AWk m_M_winsIn 2 0 0 0 0 5 [some (aR x0), some (aI x1), some (aI x2), some (aI x3)] [] S V (some (aI r)) S V' := fun h => ih _ _ _ _ h
    rw [b_M_winsIn_L5] at h
    refine Ak_iload_n 6 3 (d_M_winsIn 4 5 (.iload_n 3) 1 rfl) rfl rfl rfl ?_
    refine Ak_bipush 8 (d_M_winsIn 5 6 (.bipush 20) 2 rfl) rfl (bp_ok rfl) (rk rfl) ?_
    refine Ak_iload_n 9 1 (d_M_winsIn 6 8 (.iload_n 1) 1 rfl) rfl rfl rfl ?_
    refine Ak_imul 10 (d_M_winsIn 7 9 (.imul) 1 rfl) rfl ?_
    refine Ak_aload_n 11 0 (d_M_winsIn 8 10 (.aload_n 0) 1 rfl) rfl rfl rfl ?_
    refine Ak_getF 14 51 hO clX13 (by decide) rfl lkF_M_168 (d_M_winsIn 9 11 (.getfield 168) 3 rfl) rfl ?_
    refine Ak_iload_n 15 1 (d_M_winsIn 10 14 (.iload_n 1) 1 rfl) rfl rfl rfl ?_
    obtain ⟨ha4, h⟩ := gd_some h
    refine Ak_iaload 16 ha4 (d_M_winsIn 11 15 (.iaload) 1 rfl) rfl ?_
    refine Ak_iadd 17 (d_M_winsIn 12 16 (.iadd) 1 rfl) rfl ?_
    refine Ak_icmp_ge 84 20 (d_M_winsIn 13 17 (.if_icmp .ge 67) 3 rfl) rfl rfl (fun hc => ?_) (fun hc => ?_)
    · replace h := it_t hc h
      refine Ak_iconst 85 (d_M_winsIn 52 84 (.iconst 0) 1 rfl) rfl (rk rfl) ?_
      cases h
      exact Ak_zret (Or.inl rfl) rfl (d_M_winsIn 53 85 (.ireturn) 1 rfl)
    · replace h := it_f hc h
      refine Ak_aload_n 21 0 (d_M_winsIn 14 20 (.aload_n 0) 1 rfl) rfl rfl rfl ?_
      refine Ak_getF 24 53 hO clX13 (by decide) rfl lkF_M_174 (d_M_winsIn 15 21 (.getfield 174) 3 rfl) rfl ?_
      refine Ak_iload_n 25 3 (d_M_winsIn 16 24 (.iload_n 3) 1 rfl) rfl rfl rfl ?_
      obtain ⟨ha5, h⟩ := gd_some h
      refine Ak_iaload 26 ha5 (d_M_winsIn 17 25 (.iaload) 1 rfl) rfl ?_
      refine Ak_iconst 27 (d_M_winsIn 18 26 (.iconst (-1)) 1 rfl) rfl (rk rfl) ?_
      refine Ak_icmp_ne 35 30 (d_M_winsIn 19 27 (.if_icmp .ne 8) 3 rfl) rfl rfl (fun hc => ?_) (fun hc => ?_)
      · replace h := it_f hc h
        refine Ak_keep [true, true, true, true] ?_
        exact t_M_winsIn_J35 hO (fun h => ih h) h
      · replace h := it_t hc h
        refine Ak_iload_n 31 2 (d_M_winsIn 20 30 (.iload_n 2) 1 rfl) rfl rfl rfl ?_
        refine Ak_iconst 32 (d_M_winsIn 21 31 (.iconst 1) 1 rfl) rfl (rk rfl) ?_
        refine Ak_icmp_eq 76 35 (d_M_winsIn 22 32 (.if_icmp .eq 44) 3 rfl) rfl rfl (fun hc => ?_) (fun hc => ?_)
        · replace h := it_t hc h
          refine Ak_iconst 77 (d_M_winsIn 48 76 (.iconst 1) 1 rfl) rfl (rk rfl) ?_
          cases h
          exact Ak_zret (Or.inr rfl) rfl (d_M_winsIn 49 77 (.ireturn) 1 rfl)
        · replace h := it_f hc h
          refine Ak_keep [true, true, true, true] ?_
          exact t_M_winsIn_J35 hO (fun h => ih h) h
theorem c_M_winsIn {S : ASh} {V : ASt} {x0 x1 x2 : Int} {r : Int} {V' : ASt} (h : f_M_winsIn S V x0 x1 x2 = some (r, V')) : ACt m_M_winsIn 2 0 0 [(aR x0), (aI x1), (aI x2)] S V (some (aI r)) S V' := by
  unfold f_M_winsIn at h
  obtain ⟨hO, h⟩ := gd_some h
  refine ACt_of (plainFor_of_name rfl) rfl (Nat.le_of_ble_eq_true rfl) ?_
  show AWk m_M_winsIn 2 0 0 0 0 0 [some (aR x0), some (aI x1), some (aI x2)] [] S V (some (aI r)) S V'
  refine Ak_bipush 2 (d_M_winsIn 0 0 (.bipush 20) 2 rfl) rfl (bp_ok rfl) (rk rfl) ?_
  refine Ak_iload_n 3 1 (d_M_winsIn 1 2 (.iload_n 1) 1 rfl) rfl rfl rfl ?_
  refine Ak_imul 4 (d_M_winsIn 2 3 (.imul) 1 rfl) rfl ?_
  refine Ak_istore_n 5 3 (d_M_winsIn 3 4 (.istore_n 3) 1 rfl) rfl rfl (by decide) ?_
  refine Ak_keep [true, true, true, true] ?_
  exact t_M_winsIn_L5 hO FU _ _ _ _ h
theorem t_M_losesIn_J91 {S : ASh} {K8 : ASt → Int → Int → Option (Int × ASt)} {V : ASt} {x0 x1 x2 x3 x4 s0 : Int} {r : Int} {V' : ASt} (hO : isO S x0 13 = true) (hK8 : ∀ {V : ASt} {y3 y4 : Int} {r : Int} {V' : ASt}, K8 V y3 y4 = some (r, V') → AWk m_M_losesIn 2 0 0 0 0 8 [some (aR x0), some (aI x1), some (aI x2), some (aI y3), some (aI y4)] [] S V (some (aI r)) S V') (h : b_M_losesIn_J91 S K8 V x0 x1 x2 x3 x4 s0 = some (r, V')) : AWk m_M_losesIn 2 0 0 0 0 91 [some (aR x0), some (aI x1), some (aI x2), some (aI x3), some (aI x4)] [(aI s0)] S V (some (aI r)) S V' := by
  unfold b_M_losesIn_J91 at h
  refine Ak_istore 93 (d_M_losesIn 54 91 (.istore 5) 2 rfl) rfl (by decide) ?_
  refine Ak_iload 95 (d_M_losesIn 55 93 (.iload 5) 2 rfl) rfl rfl ?_
  refine Ak_iload_n 96 3 (d_M_losesIn 56 95 (.iload_n 3) 1 rfl) rfl rfl rfl ?_
  refine Ak_icmp_le 104 99 (d_M_losesIn 57 96 (.if_icmp .le 8) 3 rfl) rfl rfl (fun hc => ?_) (fun hc => ?_)
  · replace h := it_t hc h
    refine Ak_iload_n 105 3 (d_M_losesIn 60 104 (.iload_n 3) 1 rfl) rfl rfl rfl ?_
    refine Ak_istore_n 106 3 (d_M_losesIn 61 105 (.istore_n 3) 1 rfl) rfl rfl (by decide) ?_
    refine Ak_iinc 109 (d_M_losesIn 62 106 (.iinc 4 1) 3 rfl) rfl rfl (by decide) ?_
    refine Ak_goto 8 (d_M_losesIn 63 109 (.goto (-101)) 3 rfl) rfl ?_
    refine Ak_keep [true, true, true, true, true] ?_
    exact hK8 h
  · replace h := it_f hc h
    refine Ak_iload 101 (d_M_losesIn 58 99 (.iload 5) 2 rfl) rfl rfl ?_
    refine Ak_goto 105 (d_M_losesIn 59 101 (.goto 4) 3 rfl) rfl ?_
    refine Ak_istore_n 106 3 (d_M_losesIn 61 105 (.istore_n 3) 1 rfl) rfl rfl (by decide) ?_
    refine Ak_iinc 109 (d_M_losesIn 62 106 (.iinc 4 1) 3 rfl) rfl rfl (by decide) ?_
    refine Ak_goto 8 (d_M_losesIn 63 109 (.goto (-101)) 3 rfl) rfl ?_
    refine Ak_keep [true, true, true, true, true] ?_
    exact hK8 h
theorem t_M_losesIn_J63 {S : ASh} {K8 : ASt → Int → Int → Option (Int × ASt)} {V : ASt} {x0 x1 x2 x3 x4 : Int} {r : Int} {V' : ASt} (hO : isO S x0 13 = true) (hK8 : ∀ {V : ASt} {y3 y4 : Int} {r : Int} {V' : ASt}, K8 V y3 y4 = some (r, V') → AWk m_M_losesIn 2 0 0 0 0 8 [some (aR x0), some (aI x1), some (aI x2), some (aI y3), some (aI y4)] [] S V (some (aI r)) S V') (h : b_M_losesIn_J63 S K8 V x0 x1 x2 x3 x4 = some (r, V')) : AWk m_M_losesIn 2 0 0 0 0 63 [some (aR x0), some (aI x1), some (aI x2), some (aI x3), some (aI x4)] [] S V (some (aI r)) S V' := by
  unfold b_M_losesIn_J63 at h
  refine Ak_aload_n 64 0 (d_M_losesIn 38 63 (.aload_n 0) 1 rfl) rfl rfl rfl ?_
  refine Ak_getF 67 53 hO clX13 (by decide) rfl lkF_M_174 (d_M_losesIn 39 64 (.getfield 174) 3 rfl) rfl ?_
  refine Ak_iload 69 (d_M_losesIn 40 67 (.iload 4) 2 rfl) rfl rfl ?_
  obtain ⟨ha1, h⟩ := gd_some h
  refine Ak_iaload 70 ha1 (d_M_losesIn 41 69 (.iaload) 1 rfl) rfl ?_
  refine Ak_if_lt 90 73 (d_M_losesIn 42 70 (.ifCond .lt 20) 3 rfl) rfl rfl (fun hc => ?_) (fun hc => ?_)
  · replace h := it_t hc h
    refine Ak_iconst 91 (d_M_losesIn 53 90 (.iconst 1) 1 rfl) rfl (rk rfl) ?_
    refine Ak_keep [true, true, true, true, true] ?_
    exact t_M_losesIn_J91 hO (fun h => hK8 h) h
  · replace h := it_f hc h
    refine Ak_aload_n 74 0 (d_M_losesIn 43 73 (.aload_n 0) 1 rfl) rfl rfl rfl ?_
    refine Ak_getF 77 58 hO clX13 (by decide) rfl lkF_M_189 (d_M_losesIn 44 74 (.getfield 189) 3 rfl) rfl ?_
    refine Ak_aload_n 78 0 (d_M_losesIn 45 77 (.aload_n 0) 1 rfl) rfl rfl rfl ?_
    refine Ak_getF 81 53 hO clX13 (by decide) rfl lkF_M_174 (d_M_losesIn 46 78 (.getfield 174) 3 rfl) rfl ?_
    refine Ak_iload 83 (d_M_losesIn 47 81 (.iload 4) 2 rfl) rfl rfl ?_
    refine Ak_iaload 84 ha1 (d_M_losesIn 48 83 (.iaload) 1 rfl) rfl ?_
    obtain ⟨ha2, h⟩ := gd_some h
    refine Ak_iaload 85 ha2 (d_M_losesIn 49 84 (.iaload) 1 rfl) rfl ?_
    refine Ak_iconst 86 (d_M_losesIn 50 85 (.iconst 1) 1 rfl) rfl (rk rfl) ?_
    refine Ak_iadd 87 (d_M_losesIn 51 86 (.iadd) 1 rfl) rfl ?_
    refine Ak_goto 91 (d_M_losesIn 52 87 (.goto 4) 3 rfl) rfl ?_
    refine Ak_keep [true, true, true, true, true] ?_
    exact t_M_losesIn_J91 hO (fun h => hK8 h) h
theorem t_M_losesIn_L8 {S : ASh} {x0 x1 x2 : Int} (hO : isO S x0 13 = true) : ∀ (n : Nat) (V : ASt) (x3 x4 : Int) (r : Int) (V' : ASt), b_M_losesIn_L8 S x0 x1 x2 n V x3 x4 = some (r, V') → AWk m_M_losesIn 2 0 0 0 0 8 [some (aR x0), some (aI x1), some (aI x2), some (aI x3), some (aI x4)] [] S V (some (aI r)) S V' := by
  intro n
  induction n with
  | zero => intro V x3 x4 r V' h; cases h
  | succ n ih =>
    intro V x3 x4 r V' h
    replace ih : ∀ {V : ASt} {x3 x4 : Int} {r : Int} {V' : ASt}, b_M_losesIn_L8 S x0 x1 x2 n V x3 x4 = some (r, V') → AWk m_M_losesIn 2 0 0 0 0 8 [some (aR x0), some (aI x1), some (aI x2), some (aI x3), some (aI x4)] [] S V (some (aI r)) S V' := fun h => ih _ _ _ _ _ h
    rw [b_M_losesIn_L8] at h
    refine Ak_iload 10 (d_M_losesIn 6 8 (.iload 4) 2 rfl) rfl rfl ?_
    refine Ak_bipush 12 (d_M_losesIn 7 10 (.bipush 20) 2 rfl) rfl (bp_ok rfl) (rk rfl) ?_
    refine Ak_iload_n 13 1 (d_M_losesIn 8 12 (.iload_n 1) 1 rfl) rfl rfl rfl ?_
    refine Ak_imul 14 (d_M_losesIn 9 13 (.imul) 1 rfl) rfl ?_
    refine Ak_aload_n 15 0 (d_M_losesIn 10 14 (.aload_n 0) 1 rfl) rfl rfl rfl ?_
    refine Ak_getF 18 51 hO clX13 (by decide) rfl lkF_M_168 (d_M_losesIn 11 15 (.getfield 168) 3 rfl) rfl ?_
    refine Ak_iload_n 19 1 (d_M_losesIn 12 18 (.iload_n 1) 1 rfl) rfl rfl rfl ?_
    obtain ⟨ha3, h⟩ := gd_some h
    refine Ak_iaload 20 ha3 (d_M_losesIn 13 19 (.iaload) 1 rfl) rfl ?_
    refine Ak_iadd 21 (d_M_losesIn 14 20 (.iadd) 1 rfl) rfl ?_
    refine Ak_icmp_ge 112 24 (d_M_losesIn 15 21 (.if_icmp .ge 91) 3 rfl) rfl rfl (fun hc => ?_) (fun hc => ?_)
    · replace h := it_t hc h
      refine Ak_aload_n 113 0 (d_M_losesIn 64 112 (.aload_n 0) 1 rfl) rfl rfl rfl ?_
      refine Ak_getF 116 51 hO clX13 (by decide) rfl lkF_M_168 (d_M_losesIn 65 113 (.getfield 168) 3 rfl) rfl ?_
      refine Ak_iload_n 117 1 (d_M_losesIn 66 116 (.iload_n 1) 1 rfl) rfl rfl rfl ?_
      refine Ak_iaload 118 ha3 (d_M_losesIn 67 117 (.iaload) 1 rfl) rfl ?_
      refine Ak_if_le 130 121 (d_M_losesIn 68 118 (.ifCond .le 12) 3 rfl) rfl rfl (fun hc => ?_) (fun hc => ?_)
      · replace h := it_t hc h
        refine Ak_iconst 131 (d_M_losesIn 74 130 (.iconst 0) 1 rfl) rfl (rk rfl) ?_
        cases h
        exact Ak_zret (Or.inl rfl) rfl (d_M_losesIn 75 131 (.ireturn) 1 rfl)
      · replace h := it_f hc h
        refine Ak_iload_n 122 3 (d_M_losesIn 69 121 (.iload_n 3) 1 rfl) rfl rfl rfl ?_
        refine Ak_iload_n 123 2 (d_M_losesIn 70 122 (.iload_n 2) 1 rfl) rfl rfl rfl ?_
        refine Ak_icmp_ne 130 126 (d_M_losesIn 71 123 (.if_icmp .ne 7) 3 rfl) rfl rfl (fun hc => ?_) (fun hc => ?_)
        · replace h := it_f hc h
          refine Ak_iconst 131 (d_M_losesIn 74 130 (.iconst 0) 1 rfl) rfl (rk rfl) ?_
          cases h
          exact Ak_zret (Or.inl rfl) rfl (d_M_losesIn 75 131 (.ireturn) 1 rfl)
        · replace h := it_t hc h
          refine Ak_iconst 127 (d_M_losesIn 72 126 (.iconst 1) 1 rfl) rfl (rk rfl) ?_
          refine Ak_goto 131 (d_M_losesIn 73 127 (.goto 4) 3 rfl) rfl ?_
          cases h
          exact Ak_zret (Or.inr rfl) rfl (d_M_losesIn 75 131 (.ireturn) 1 rfl)
    · replace h := it_f hc h
      refine Ak_aload_n 25 0 (d_M_losesIn 16 24 (.aload_n 0) 1 rfl) rfl rfl rfl ?_
      refine Ak_getF 28 53 hO clX13 (by decide) rfl lkF_M_174 (d_M_losesIn 17 25 (.getfield 174) 3 rfl) rfl ?_
      refine Ak_iload 30 (d_M_losesIn 18 28 (.iload 4) 2 rfl) rfl rfl ?_
      obtain ⟨ha4, h⟩ := gd_some h
      refine Ak_iaload 31 ha4 (d_M_losesIn 19 30 (.iaload) 1 rfl) rfl ?_
      refine Ak_iconst 32 (d_M_losesIn 20 31 (.iconst (-1)) 1 rfl) rfl (rk rfl) ?_
      refine Ak_icmp_eq 61 35 (d_M_losesIn 21 32 (.if_icmp .eq 29) 3 rfl) rfl rfl (fun hc => ?_) (fun hc => ?_)
      · replace h := it_t hc h
        refine Ak_iconst 62 (d_M_losesIn 36 61 (.iconst 0) 1 rfl) rfl (rk rfl) ?_
        cases h
        exact Ak_zret (Or.inl rfl) rfl (d_M_losesIn 37 62 (.ireturn) 1 rfl)
      · replace h := it_f hc h
        refine Ak_aload_n 36 0 (d_M_losesIn 22 35 (.aload_n 0) 1 rfl) rfl rfl rfl ?_
        refine Ak_getF 39 53 hO clX13 (by decide) rfl lkF_M_174 (d_M_losesIn 23 36 (.getfield 174) 3 rfl) rfl ?_
        refine Ak_iload 41 (d_M_losesIn 24 39 (.iload 4) 2 rfl) rfl rfl ?_
        refine Ak_iaload 42 ha4 (d_M_losesIn 25 41 (.iaload) 1 rfl) rfl ?_
        refine Ak_if_lt 63 45 (d_M_losesIn 26 42 (.ifCond .lt 21) 3 rfl) rfl rfl (fun hc => ?_) (fun hc => ?_)
        · replace h := it_t hc h
          refine Ak_keep [true, true, true, true, true] ?_
          exact t_M_losesIn_J63 hO (fun h => ih h) h
        · replace h := it_f hc h
          refine Ak_aload_n 46 0 (d_M_losesIn 27 45 (.aload_n 0) 1 rfl) rfl rfl rfl ?_
          refine Ak_getF 49 57 hO clX13 (by decide) rfl lkF_M_186 (d_M_losesIn 28 46 (.getfield 186) 3 rfl) rfl ?_
          refine Ak_aload_n 50 0 (d_M_losesIn 29 49 (.aload_n 0) 1 rfl) rfl rfl rfl ?_
          refine Ak_getF 53 53 hO clX13 (by decide) rfl lkF_M_174 (d_M_losesIn 30 50 (.getfield 174) 3 rfl) rfl ?_
          refine Ak_iload 55 (d_M_losesIn 31 53 (.iload 4) 2 rfl) rfl rfl ?_
          refine Ak_iaload 56 ha4 (d_M_losesIn 32 55 (.iaload) 1 rfl) rfl ?_
          obtain ⟨ha5, h⟩ := gd_some h
          refine Ak_iaload 57 ha5 (d_M_losesIn 33 56 (.iaload) 1 rfl) rfl ?_
          refine Ak_iconst 58 (d_M_losesIn 34 57 (.iconst 1) 1 rfl) rfl (rk rfl) ?_
          refine Ak_icmp_eq 63 61 (d_M_losesIn 35 58 (.if_icmp .eq 5) 3 rfl) rfl rfl (fun hc => ?_) (fun hc => ?_)
          · replace h := it_t hc h
            refine Ak_keep [true, true, true, true, true] ?_
            exact t_M_losesIn_J63 hO (fun h => ih h) h
          · replace h := it_f hc h
            refine Ak_iconst 62 (d_M_losesIn 36 61 (.iconst 0) 1 rfl) rfl (rk rfl) ?_
            cases h
            exact Ak_zret (Or.inl rfl) rfl (d_M_losesIn 37 62 (.ireturn) 1 rfl)
theorem c_M_losesIn {S : ASh} {V : ASt} {x0 x1 x2 : Int} {r : Int} {V' : ASt} (h : f_M_losesIn S V x0 x1 x2 = some (r, V')) : ACt m_M_losesIn 2 0 0 [(aR x0), (aI x1), (aI x2)] S V (some (aI r)) S V' := by
  unfold f_M_losesIn at h
  obtain ⟨hO, h⟩ := gd_some h
  refine ACt_of (plainFor_of_name rfl) rfl (Nat.le_of_ble_eq_true rfl) ?_
  show AWk m_M_losesIn 2 0 0 0 0 0 [some (aR x0), some (aI x1), some (aI x2)] [] S V (some (aI r)) S V'
  refine Ak_iconst 1 (d_M_losesIn 0 0 (.iconst 0) 1 rfl) rfl (rk rfl) ?_
  refine Ak_istore_n 2 3 (d_M_losesIn 1 1 (.istore_n 3) 1 rfl) rfl rfl (by decide) ?_
  refine Ak_bipush 4 (d_M_losesIn 2 2 (.bipush 20) 2 rfl) rfl (bp_ok rfl) (rk rfl) ?_
  refine Ak_iload_n 5 1 (d_M_losesIn 3 4 (.iload_n 1) 1 rfl) rfl rfl rfl ?_
  refine Ak_imul 6 (d_M_losesIn 4 5 (.imul) 1 rfl) rfl ?_
  refine Ak_istore 8 (d_M_losesIn 5 6 (.istore 4) 2 rfl) rfl (by decide) ?_
  refine Ak_keep [true, true, true, true, true] ?_
  exact t_M_losesIn_L8 hO FU _ _ _ _ _ h
theorem t_M_worths_J63 {S : ASh} {K2 : ASt → Int → Option (Int × ASt)} {V : ASt} {x0 x1 s0 s1 s2 : Int} {r : Int} {V' : ASt} (hO : isO S x0 13 = true) (hK2 : ∀ {V : ASt} {y1 : Int} {r : Int} {V' : ASt}, K2 V y1 = some (r, V') → AWk m_M_worths 3 0 0 0 0 2 [some (aR x0), some (aI y1)] [] S V none S V') (h : b_M_worths_J63 S K2 V x0 x1 s0 s1 s2 = some (r, V')) : AWk m_M_worths 3 0 0 0 0 63 [some (aR x0), some (aI x1)] [(aI s2), (aI s1), (aR s0)] S V none S V' := by
  unfold b_M_worths_J63 at h
  obtain ⟨ha1, h⟩ := gd_some h
  refine Ak_iastore 64 ha1 (d_M_worths 39 63 (.iastore) 1 rfl) rfl (fun V2 hV2 => ?_)
  replace h := wV_some h V2 hV2
  refine Ak_iinc 67 (d_M_worths 40 64 (.iinc 1 1) 3 rfl) rfl rfl (by decide) ?_
  refine Ak_goto 2 (d_M_worths 41 67 (.goto (-65)) 3 rfl) rfl ?_
  refine Ak_keep [true, true] ?_
  exact hK2 h
theorem t_M_worths_J41 {S : ASh} {K2 : ASt → Int → Option (Int × ASt)} {V : ASt} {x0 x1 x2 s0 : Int} {r : Int} {V' : ASt} (hO : isO S x0 13 = true) (hK2 : ∀ {V : ASt} {y1 : Int} {r : Int} {V' : ASt}, K2 V y1 = some (r, V') → AWk m_M_worths 3 0 0 0 0 2 [some (aR x0), some (aI y1)] [] S V none S V') (h : b_M_worths_J41 S K2 V x0 x1 x2 s0 = some (r, V')) : AWk m_M_worths 3 0 0 0 0 41 [some (aR x0), some (aI x1), some (aI x2)] [(aI s0)] S V none S V' := by
  unfold b_M_worths_J41 at h
  refine Ak_istore_n 42 3 (d_M_worths 25 41 (.istore_n 3) 1 rfl) rfl rfl (by decide) ?_
  refine Ak_aload_n 43 0 (d_M_worths 26 42 (.aload_n 0) 1 rfl) rfl rfl rfl ?_
  refine Ak_getF 46 57 hO clX13 (by decide) rfl lkF_M_186 (d_M_worths 27 43 (.getfield 186) 3 rfl) rfl ?_
  refine Ak_iload_n 47 2 (d_M_worths 28 46 (.iload_n 2) 1 rfl) rfl rfl rfl ?_
  refine Ak_iload_n 48 3 (d_M_worths 29 47 (.iload_n 3) 1 rfl) rfl rfl rfl ?_
  obtain ⟨ha3, h⟩ := gd_some h
  refine Ak_iastore 49 ha3 (d_M_worths 30 48 (.iastore) 1 rfl) rfl (fun V4 hV4 => ?_)
  replace h := wV_some h V4 hV4
  refine Ak_aload_n 50 0 (d_M_worths 31 49 (.aload_n 0) 1 rfl) rfl rfl rfl ?_
  refine Ak_getF 53 58 hO clX13 (by decide) rfl lkF_M_189 (d_M_worths 32 50 (.getfield 189) 3 rfl) rfl ?_
  refine Ak_iload_n 54 2 (d_M_worths 33 53 (.iload_n 2) 1 rfl) rfl rfl rfl ?_
  refine Ak_iload_n 55 3 (d_M_worths 34 54 (.iload_n 3) 1 rfl) rfl rfl rfl ?_
  refine Ak_if_ne 62 58 (d_M_worths 35 55 (.ifCond .ne 7) 3 rfl) rfl rfl (fun hc => ?_) (fun hc => ?_)
  · replace h := it_f hc h
    refine Ak_iconst 63 (d_M_worths 38 62 (.iconst 0) 1 rfl) rfl (rk rfl) ?_
    refine Ak_keep [true, true] ?_
    exact t_M_worths_J63 hO (fun h => hK2 h) h
  · replace h := it_t hc h
    refine Ak_iconst 59 (d_M_worths 36 58 (.iconst (-1)) 1 rfl) rfl (rk rfl) ?_
    refine Ak_goto 63 (d_M_worths 37 59 (.goto 4) 3 rfl) rfl ?_
    refine Ak_keep [true, true] ?_
    exact t_M_worths_J63 hO (fun h => hK2 h) h
theorem t_M_worths_J150 {S : ASh} {K74 : ASt → Int → Int → Option (Int × ASt)} {K82 : ASt → Int → Int → Option (Int × ASt)} {V : ASt} {x0 x1 x2 x3 x4 s0 : Int} {r : Int} {V' : ASt} (hO : isO S x0 13 = true) (hK74 : ∀ {V : ASt} {y1 y2 : Int} {r : Int} {V' : ASt}, K74 V y1 y2 = some (r, V') → AWk m_M_worths 3 0 0 0 0 74 [some (aR x0), some (aI y1), some (aI y2)] [] S V none S V') (hK82 : ∀ {V : ASt} {y1 y3 : Int} {r : Int} {V' : ASt}, K82 V y1 y3 = some (r, V') → AWk m_M_worths 3 0 0 0 0 82 [some (aR x0), some (aI y1), some (aI x2), some (aI y3)] [] S V none S V') (h : b_M_worths_J150 S K74 K82 V x0 x1 x2 x3 x4 s0 = some (r, V')) : AWk m_M_worths 3 0 0 0 0 150 [some (aR x0), some (aI x1), some (aI x2), some (aI x3), some (aI x4)] [(aI s0)] S V none S V' := by
  unfold b_M_worths_J150 at h
  refine Ak_istore 152 (d_M_worths 87 150 (.istore 5) 2 rfl) rfl (by decide) ?_
  refine Ak_iload 154 (d_M_worths 88 152 (.iload 5) 2 rfl) rfl rfl ?_
  refine Ak_if_ne 160 157 (d_M_worths 89 154 (.ifCond .ne 6) 3 rfl) rfl rfl (fun hc => ?_) (fun hc => ?_)
  · replace h := it_f hc h
    refine Ak_aload_n 161 0 (d_M_worths 91 160 (.aload_n 0) 1 rfl) rfl rfl rfl ?_
    refine Ak_getF 164 57 hO clX13 (by decide) rfl lkF_M_186 (d_M_worths 92 161 (.getfield 186) 3 rfl) rfl ?_
    refine Ak_iload 166 (d_M_worths 93 164 (.iload 4) 2 rfl) rfl rfl ?_
    refine Ak_iload 168 (d_M_worths 94 166 (.iload 5) 2 rfl) rfl rfl ?_
    obtain ⟨ha5, h⟩ := gd_some h
    refine Ak_iastore 169 ha5 (d_M_worths 95 168 (.iastore) 1 rfl) rfl (fun V6 hV6 => ?_)
    replace h := wV_some h V6 hV6
    refine Ak_aload_n 170 0 (d_M_worths 96 169 (.aload_n 0) 1 rfl) rfl rfl rfl ?_
    refine Ak_getF 173 58 hO clX13 (by decide) rfl lkF_M_189 (d_M_worths 97 170 (.getfield 189) 3 rfl) rfl ?_
    refine Ak_iload 175 (d_M_worths 98 173 (.iload 4) 2 rfl) rfl rfl ?_
    refine Ak_iload_n 176 2 (d_M_worths 99 175 (.iload_n 2) 1 rfl) rfl rfl rfl ?_
    obtain ⟨ha7, h⟩ := gd_some h
    refine Ak_iastore 177 ha7 (d_M_worths 100 176 (.iastore) 1 rfl) rfl (fun V8 hV8 => ?_)
    replace h := wV_some h V8 hV8
    refine Ak_iconst 178 (d_M_worths 101 177 (.iconst 1) 1 rfl) rfl (rk rfl) ?_
    refine Ak_istore_n 179 1 (d_M_worths 102 178 (.istore_n 1) 1 rfl) rfl rfl (by decide) ?_
    refine Ak_iinc 182 (d_M_worths 103 179 (.iinc 3 1) 3 rfl) rfl rfl (by decide) ?_
    refine Ak_goto 82 (d_M_worths 104 182 (.goto (-100)) 3 rfl) rfl ?_
    refine Ak_keep [true, true, true, true] ?_
    exact hK82 h
  · replace h := it_t hc h
    refine Ak_goto 179 (d_M_worths 90 157 (.goto 22) 3 rfl) rfl ?_
    refine Ak_iinc 182 (d_M_worths 103 179 (.iinc 3 1) 3 rfl) rfl rfl (by decide) ?_
    refine Ak_goto 82 (d_M_worths 104 182 (.goto (-100)) 3 rfl) rfl ?_
    refine Ak_keep [true, true, true, true] ?_
    exact hK82 h
theorem t_M_worths_L82 {S : ASh} {K74 : ASt → Int → Int → Option (Int × ASt)} {x0 x2 : Int} (hO : isO S x0 13 = true) (hK74 : ∀ {V : ASt} {y1 y2 : Int} {r : Int} {V' : ASt}, K74 V y1 y2 = some (r, V') → AWk m_M_worths 3 0 0 0 0 74 [some (aR x0), some (aI y1), some (aI y2)] [] S V none S V') : ∀ (n : Nat) (V : ASt) (x1 x3 : Int) (r : Int) (V' : ASt), b_M_worths_L82 S K74 x0 x2 n V x1 x3 = some (r, V') → AWk m_M_worths 3 0 0 0 0 82 [some (aR x0), some (aI x1), some (aI x2), some (aI x3)] [] S V none S V' := by
  intro n
  induction n with
  | zero => intro V x1 x3 r V' h; cases h
  | succ n ih =>
    intro V x1 x3 r V' h
    replace ih : ∀ {V : ASt} {x1 x3 : Int} {r : Int} {V' : ASt}, b_M_worths_L82 S K74 x0 x2 n V x1 x3 = some (r, V') → AWk m_M_worths 3 0 0 0 0 82 [some (aR x0), some (aI x1), some (aI x2), some (aI x3)] [] S V none S V' := fun h => ih _ _ _ _ _ h
    rw [b_M_worths_L82] at h
    refine Ak_iload_n 83 3 (d_M_worths 52 82 (.iload_n 3) 1 rfl) rfl rfl rfl ?_
    refine Ak_aload_n 84 0 (d_M_worths 53 83 (.aload_n 0) 1 rfl) rfl rfl rfl ?_
    refine Ak_getI 87 56 hO clX13 (by decide) (Or.inl rfl) lkF_M_183 (d_M_worths 54 84 (.getfield 183) 3 rfl) rfl ?_
    refine Ak_icmp_ge 185 90 (d_M_worths 55 87 (.if_icmp .ge 98) 3 rfl) rfl rfl (fun hc => ?_) (fun hc => ?_)
    · replace h := it_t hc h
      refine Ak_iinc 188 (d_M_worths 105 185 (.iinc 2 1) 3 rfl) rfl rfl (by decide) ?_
      refine Ak_goto 74 (d_M_worths 106 188 (.goto (-114)) 3 rfl) rfl ?_
      refine Ak_keep [true, true, true] ?_
      exact hK74 h
    · replace h := it_f hc h
      refine Ak_aload_n 91 0 (d_M_worths 56 90 (.aload_n 0) 1 rfl) rfl rfl rfl ?_
      refine Ak_getF 94 55 hO clX13 (by decide) rfl lkF_M_180 (d_M_worths 57 91 (.getfield 180) 3 rfl) rfl ?_
      refine Ak_iload_n 95 3 (d_M_worths 58 94 (.iload_n 3) 1 rfl) rfl rfl rfl ?_
      obtain ⟨ha9, h⟩ := gd_some h
      refine Ak_iaload 96 ha9 (d_M_worths 59 95 (.iaload) 1 rfl) rfl ?_
      refine Ak_istore 98 (d_M_worths 60 96 (.istore 4) 2 rfl) rfl (by decide) ?_
      refine Ak_aload_n 99 0 (d_M_worths 61 98 (.aload_n 0) 1 rfl) rfl rfl rfl ?_
      refine Ak_getF 102 57 hO clX13 (by decide) rfl lkF_M_186 (d_M_worths 62 99 (.getfield 186) 3 rfl) rfl ?_
      refine Ak_iload 104 (d_M_worths 63 102 (.iload 4) 2 rfl) rfl rfl ?_
      obtain ⟨ha10, h⟩ := gd_some h
      refine Ak_iaload 105 ha10 (d_M_worths 64 104 (.iaload) 1 rfl) rfl ?_
      refine Ak_if_ne 179 108 (d_M_worths 65 105 (.ifCond .ne 74) 3 rfl) rfl rfl (fun hc => ?_) (fun hc => ?_)
      · replace h := it_f hc h
        refine Ak_iinc 182 (d_M_worths 103 179 (.iinc 3 1) 3 rfl) rfl rfl (by decide) ?_
        refine Ak_goto 82 (d_M_worths 104 182 (.goto (-100)) 3 rfl) rfl ?_
        refine Ak_keep [true, true, true, true] ?_
        exact ih h
      · replace h := it_t hc h
        refine Ak_aload_n 109 0 (d_M_worths 66 108 (.aload_n 0) 1 rfl) rfl rfl rfl ?_
        refine Ak_getF 112 51 hO clX13 (by decide) rfl lkF_M_168 (d_M_worths 67 109 (.getfield 168) 3 rfl) rfl ?_
        refine Ak_iload 114 (d_M_worths 68 112 (.iload 4) 2 rfl) rfl rfl ?_
        obtain ⟨ha11, h⟩ := gd_some h
        refine Ak_iaload 115 ha11 (d_M_worths 69 114 (.iaload) 1 rfl) rfl ?_
        refine Ak_if_ne 121 118 (d_M_worths 70 115 (.ifCond .ne 6) 3 rfl) rfl rfl (fun hc => ?_) (fun hc => ?_)
        · replace h := it_f hc h
          refine Ak_aload_n 122 0 (d_M_worths 72 121 (.aload_n 0) 1 rfl) rfl rfl rfl ?_
          refine Ak_iload 124 (d_M_worths 73 122 (.iload 4) 2 rfl) rfl rfl ?_
          refine Ak_iload_n 125 2 (d_M_worths 74 124 (.iload_n 2) 1 rfl) rfl rfl rfl ?_
          obtain ⟨r12, V13, h14, h⟩ := bnd_some h
          refine Ak_cV1 128 2 (c_M_winsIn h14) rfl hO clX13 rfl mok_M_winsIn lkM_M_499 (d_M_worths 75 125 (.invokevirtual 499) 3 rfl) rfl (by decide) (Nat.le_of_ble_eq_true rfl) ?_
          refine Ak_if_eq 135 131 (d_M_worths 76 128 (.ifCond .eq 7) 3 rfl) rfl rfl (fun hc => ?_) (fun hc => ?_)
          · replace h := it_t hc h
            refine Ak_aload_n 136 0 (d_M_worths 79 135 (.aload_n 0) 1 rfl) rfl rfl rfl ?_
            refine Ak_iload 138 (d_M_worths 80 136 (.iload 4) 2 rfl) rfl rfl ?_
            refine Ak_iload_n 139 2 (d_M_worths 81 138 (.iload_n 2) 1 rfl) rfl rfl rfl ?_
            obtain ⟨r15, V16, h17, h⟩ := bnd_some h
            refine Ak_cV1 142 2 (c_M_losesIn h17) rfl hO clX13 rfl mok_M_losesIn lkM_M_503 (d_M_worths 82 139 (.invokevirtual 503) 3 rfl) rfl (by decide) (Nat.le_of_ble_eq_true rfl) ?_
            refine Ak_if_eq 149 145 (d_M_worths 83 142 (.ifCond .eq 7) 3 rfl) rfl rfl (fun hc => ?_) (fun hc => ?_)
            · replace h := it_t hc h
              refine Ak_iconst 150 (d_M_worths 86 149 (.iconst 0) 1 rfl) rfl (rk rfl) ?_
              refine Ak_keep [true, true, true, true, true] ?_
              exact t_M_worths_J150 hO (fun h => hK74 h) (fun h => ih h) h
            · replace h := it_f hc h
              refine Ak_iconst 146 (d_M_worths 84 145 (.iconst (-1)) 1 rfl) rfl (rk rfl) ?_
              refine Ak_goto 150 (d_M_worths 85 146 (.goto 4) 3 rfl) rfl ?_
              refine Ak_keep [true, true, true, true, true] ?_
              exact t_M_worths_J150 hO (fun h => hK74 h) (fun h => ih h) h
          · replace h := it_f hc h
            refine Ak_iconst 132 (d_M_worths 77 131 (.iconst 1) 1 rfl) rfl (rk rfl) ?_
            refine Ak_goto 150 (d_M_worths 78 132 (.goto 18) 3 rfl) rfl ?_
            refine Ak_keep [true, true, true, true, true] ?_
            exact t_M_worths_J150 hO (fun h => hK74 h) (fun h => ih h) h
        · replace h := it_t hc h
          refine Ak_goto 179 (d_M_worths 71 118 (.goto 61) 3 rfl) rfl ?_
          refine Ak_iinc 182 (d_M_worths 103 179 (.iinc 3 1) 3 rfl) rfl rfl (by decide) ?_
          refine Ak_goto 82 (d_M_worths 104 182 (.goto (-100)) 3 rfl) rfl ?_
          refine Ak_keep [true, true, true, true] ?_
          exact ih h
theorem t_M_worths_L74 {S : ASh} {x0 : Int} (hO : isO S x0 13 = true) : ∀ (n : Nat) (V : ASt) (x1 x2 : Int) (r : Int) (V' : ASt), b_M_worths_L74 S x0 n V x1 x2 = some (r, V') → AWk m_M_worths 3 0 0 0 0 74 [some (aR x0), some (aI x1), some (aI x2)] [] S V none S V' := by
  intro n
  induction n with
  | zero => intro V x1 x2 r V' h; cases h
  | succ n ih =>
    intro V x1 x2 r V' h
    replace ih : ∀ {V : ASt} {x1 x2 : Int} {r : Int} {V' : ASt}, b_M_worths_L74 S x0 n V x1 x2 = some (r, V') → AWk m_M_worths 3 0 0 0 0 74 [some (aR x0), some (aI x1), some (aI x2)] [] S V none S V' := fun h => ih _ _ _ _ _ h
    rw [b_M_worths_L74] at h
    refine Ak_iload_n 75 1 (d_M_worths 46 74 (.iload_n 1) 1 rfl) rfl rfl rfl ?_
    refine Ak_if_eq 191 78 (d_M_worths 47 75 (.ifCond .eq 116) 3 rfl) rfl rfl (fun hc => ?_) (fun hc => ?_)
    · replace h := it_t hc h
      cases h
      exact Ak_vret rfl (d_M_worths 107 191 (.return_) 1 rfl)
    · replace h := it_f hc h
      refine Ak_iconst 79 (d_M_worths 48 78 (.iconst 0) 1 rfl) rfl (rk rfl) ?_
      refine Ak_istore_n 80 1 (d_M_worths 49 79 (.istore_n 1) 1 rfl) rfl rfl (by decide) ?_
      refine Ak_iconst 81 (d_M_worths 50 80 (.iconst 0) 1 rfl) rfl (rk rfl) ?_
      refine Ak_istore_n 82 3 (d_M_worths 51 81 (.istore_n 3) 1 rfl) rfl rfl (by decide) ?_
      refine Ak_keep [true, true, true, true] ?_
      exact t_M_worths_L82 hO (fun h => ih h) FU _ _ _ _ _ h
theorem t_M_worths_L2 {S : ASh} {x0 : Int} (hO : isO S x0 13 = true) : ∀ (n : Nat) (V : ASt) (x1 : Int) (r : Int) (V' : ASt), b_M_worths_L2 S x0 n V x1 = some (r, V') → AWk m_M_worths 3 0 0 0 0 2 [some (aR x0), some (aI x1)] [] S V none S V' := by
  intro n
  induction n with
  | zero => intro V x1 r V' h; cases h
  | succ n ih =>
    intro V x1 r V' h
    replace ih : ∀ {V : ASt} {x1 : Int} {r : Int} {V' : ASt}, b_M_worths_L2 S x0 n V x1 = some (r, V') → AWk m_M_worths 3 0 0 0 0 2 [some (aR x0), some (aI x1)] [] S V none S V' := fun h => ih _ _ _ _ h
    rw [b_M_worths_L2] at h
    refine Ak_iload_n 3 1 (d_M_worths 2 2 (.iload_n 1) 1 rfl) rfl rfl rfl ?_
    refine Ak_aload_n 4 0 (d_M_worths 3 3 (.aload_n 0) 1 rfl) rfl rfl rfl ?_
    refine Ak_getI 7 56 hO clX13 (by decide) (Or.inl rfl) lkF_M_183 (d_M_worths 4 4 (.getfield 183) 3 rfl) rfl ?_
    refine Ak_icmp_ge 70 10 (d_M_worths 5 7 (.if_icmp .ge 63) 3 rfl) rfl rfl (fun hc => ?_) (fun hc => ?_)
    · replace h := it_t hc h
      refine Ak_iconst 71 (d_M_worths 42 70 (.iconst 1) 1 rfl) rfl (rk rfl) ?_
      refine Ak_istore_n 72 1 (d_M_worths 43 71 (.istore_n 1) 1 rfl) rfl rfl (by decide) ?_
      refine Ak_iconst 73 (d_M_worths 44 72 (.iconst 1) 1 rfl) rfl (rk rfl) ?_
      refine Ak_istore_n 74 2 (d_M_worths 45 73 (.istore_n 2) 1 rfl) rfl rfl (by decide) ?_
      refine Ak_keep [true, true, true] ?_
      exact t_M_worths_L74 hO FU _ _ _ _ _ h
    · replace h := it_f hc h
      refine Ak_aload_n 11 0 (d_M_worths 6 10 (.aload_n 0) 1 rfl) rfl rfl rfl ?_
      refine Ak_getF 14 55 hO clX13 (by decide) rfl lkF_M_180 (d_M_worths 7 11 (.getfield 180) 3 rfl) rfl ?_
      refine Ak_iload_n 15 1 (d_M_worths 8 14 (.iload_n 1) 1 rfl) rfl rfl rfl ?_
      obtain ⟨ha18, h⟩ := gd_some h
      refine Ak_iaload 16 ha18 (d_M_worths 9 15 (.iaload) 1 rfl) rfl ?_
      refine Ak_istore_n 17 2 (d_M_worths 10 16 (.istore_n 2) 1 rfl) rfl rfl (by decide) ?_
      refine Ak_aload_n 18 0 (d_M_worths 11 17 (.aload_n 0) 1 rfl) rfl rfl rfl ?_
      refine Ak_getF 21 51 hO clX13 (by decide) rfl lkF_M_168 (d_M_worths 12 18 (.getfield 168) 3 rfl) rfl ?_
      refine Ak_iload_n 22 2 (d_M_worths 13 21 (.iload_n 2) 1 rfl) rfl rfl rfl ?_
      obtain ⟨ha19, h⟩ := gd_some h
      refine Ak_iaload 23 ha19 (d_M_worths 14 22 (.iaload) 1 rfl) rfl ?_
      refine Ak_if_le 30 26 (d_M_worths 15 23 (.ifCond .le 7) 3 rfl) rfl rfl (fun hc => ?_) (fun hc => ?_)
      · replace h := it_t hc h
        refine Ak_aload_n 31 0 (d_M_worths 18 30 (.aload_n 0) 1 rfl) rfl rfl rfl ?_
        refine Ak_getF 34 18 hO clX13 (by decide) rfl lkF_M_67 (d_M_worths 19 31 (.getfield 67) 3 rfl) rfl ?_
        refine Ak_aload_n 35 0 (d_M_worths 20 34 (.aload_n 0) 1 rfl) rfl rfl rfl ?_
        refine Ak_getI 38 12 hO clX13 (by decide) (Or.inl rfl) lkF_M_48 (d_M_worths 21 35 (.getfield 48) 3 rfl) rfl ?_
        obtain ⟨ha20, h⟩ := gd_some h
        refine Ak_iaload 39 ha20 (d_M_worths 22 38 (.iaload) 1 rfl) rfl ?_
        refine Ak_iconst 40 (d_M_worths 23 39 (.iconst 1) 1 rfl) rfl (rk rfl) ?_
        refine Ak_isub 41 (d_M_worths 24 40 (.isub) 1 rfl) rfl ?_
        refine Ak_keep [true, true, true] ?_
        exact t_M_worths_J41 hO (fun h => ih h) h
      · replace h := it_f hc h
        refine Ak_iconst 27 (d_M_worths 16 26 (.iconst 0) 1 rfl) rfl (rk rfl) ?_
        refine Ak_goto 41 (d_M_worths 17 27 (.goto 14) 3 rfl) rfl ?_
        refine Ak_keep [true, true, true] ?_
        exact t_M_worths_J41 hO (fun h => ih h) h
theorem c_M_worths {S : ASh} {V : ASt} {x0 : Int} {r : Int} {V' : ASt} (h : f_M_worths S V x0 = some (r, V')) : ACt m_M_worths 3 0 0 [(aR x0)] S V none S V' := by
  unfold f_M_worths at h
  obtain ⟨hO, h⟩ := gd_some h
  refine ACt_of (plainFor_of_name rfl) rfl (Nat.le_of_ble_eq_true rfl) ?_
  show AWk m_M_worths 3 0 0 0 0 0 [some (aR x0)] [] S V none S V'
  refine Ak_iconst 1 (d_M_worths 0 0 (.iconst 0) 1 rfl) rfl (rk rfl) ?_
  refine Ak_istore_n 2 1 (d_M_worths 1 1 (.istore_n 1) 1 rfl) rfl rfl (by decide) ?_
  refine Ak_keep [true, true] ?_
  exact t_M_worths_L2 hO FU _ _ _ _ h
theorem t_M_bestOf_J123 {S : ASh} {K2 : ASt → Int → Option (Int × ASt)} {V : ASt} {x0 x1 x2 x3 : Int} {r : Int} {V' : ASt} (hO : isO S x0 13 = true) (hK2 : ∀ {V : ASt} {y2 : Int} {r : Int} {V' : ASt}, K2 V y2 = some (r, V') → AWk m_M_bestOf 2 0 0 0 0 2 [some (aR x0), some (aI x1), some (aI y2)] [] S V (some (aI r)) S V') (h : b_M_bestOf_J123 S K2 V x0 x1 x2 x3 = some (r, V')) : AWk m_M_bestOf 2 0 0 0 0 123 [some (aR x0), some (aI x1), some (aI x2), some (aI x3)] [] S V (some (aI r)) S V' := by
  unfold b_M_bestOf_J123 at h
  refine Ak_aload_n 124 0 (d_M_bestOf 76 123 (.aload_n 0) 1 rfl) rfl rfl rfl ?_
  refine Ak_getF 127 57 hO clX13 (by decide) rfl lkF_M_186 (d_M_bestOf 77 124 (.getfield 186) 3 rfl) rfl ?_
  refine Ak_iload_n 128 1 (d_M_bestOf 78 127 (.iload_n 1) 1 rfl) rfl rfl rfl ?_
  obtain ⟨ha1, h⟩ := gd_some h
  refine Ak_iaload 129 ha1 (d_M_bestOf 79 128 (.iaload) 1 rfl) rfl ?_
  refine Ak_if_ne 147 132 (d_M_bestOf 80 129 (.ifCond .ne 18) 3 rfl) rfl rfl (fun hc => ?_) (fun hc => ?_)
  · replace h := it_f hc h
    refine Ak_iinc 150 (d_M_bestOf 90 147 (.iinc 2 1) 3 rfl) rfl rfl (by decide) ?_
    refine Ak_goto 2 (d_M_bestOf 91 150 (.goto (-148)) 3 rfl) rfl ?_
    refine Ak_keep [true, true, true] ?_
    exact hK2 h
  · replace h := it_t hc h
    refine Ak_iload_n 133 3 (d_M_bestOf 81 132 (.iload_n 3) 1 rfl) rfl rfl rfl ?_
    refine Ak_if_lt 147 136 (d_M_bestOf 82 133 (.ifCond .lt 14) 3 rfl) rfl rfl (fun hc => ?_) (fun hc => ?_)
    · replace h := it_t hc h
      refine Ak_iinc 150 (d_M_bestOf 90 147 (.iinc 2 1) 3 rfl) rfl rfl (by decide) ?_
      refine Ak_goto 2 (d_M_bestOf 91 150 (.goto (-148)) 3 rfl) rfl ?_
      refine Ak_keep [true, true, true] ?_
      exact hK2 h
    · replace h := it_f hc h
      refine Ak_aload_n 137 0 (d_M_bestOf 83 136 (.aload_n 0) 1 rfl) rfl rfl rfl ?_
      refine Ak_getF 140 57 hO clX13 (by decide) rfl lkF_M_186 (d_M_bestOf 84 137 (.getfield 186) 3 rfl) rfl ?_
      refine Ak_iload_n 141 3 (d_M_bestOf 85 140 (.iload_n 3) 1 rfl) rfl rfl rfl ?_
      obtain ⟨ha2, h⟩ := gd_some h
      refine Ak_iaload 142 ha2 (d_M_bestOf 86 141 (.iaload) 1 rfl) rfl ?_
      refine Ak_if_ne 147 145 (d_M_bestOf 87 142 (.ifCond .ne 5) 3 rfl) rfl rfl (fun hc => ?_) (fun hc => ?_)
      · replace h := it_f hc h
        refine Ak_iinc 150 (d_M_bestOf 90 147 (.iinc 2 1) 3 rfl) rfl rfl (by decide) ?_
        refine Ak_goto 2 (d_M_bestOf 91 150 (.goto (-148)) 3 rfl) rfl ?_
        refine Ak_keep [true, true, true] ?_
        exact hK2 h
      · replace h := it_t hc h
        refine Ak_iload_n 146 2 (d_M_bestOf 88 145 (.iload_n 2) 1 rfl) rfl rfl rfl ?_
        cases h
        exact Ak_iret rfl (d_M_bestOf 89 146 (.ireturn) 1 rfl)
theorem t_M_bestOf_J104 {S : ASh} {K2 : ASt → Int → Option (Int × ASt)} {V : ASt} {x0 x1 x2 x3 x4 : Int} {r : Int} {V' : ASt} (hO : isO S x0 13 = true) (hK2 : ∀ {V : ASt} {y2 : Int} {r : Int} {V' : ASt}, K2 V y2 = some (r, V') → AWk m_M_bestOf 2 0 0 0 0 2 [some (aR x0), some (aI x1), some (aI y2)] [] S V (some (aI r)) S V') (h : b_M_bestOf_J104 S K2 V x0 x1 x2 x3 x4 = some (r, V')) : AWk m_M_bestOf 2 0 0 0 0 104 [some (aR x0), some (aI x1), some (aI x2), some (aI x3), some (aI x4)] [] S V (some (aI r)) S V' := by
  unfold b_M_bestOf_J104 at h
  refine Ak_iload_n 105 3 (d_M_bestOf 64 104 (.iload_n 3) 1 rfl) rfl rfl rfl ?_
  refine Ak_if_lt 123 108 (d_M_bestOf 65 105 (.ifCond .lt 18) 3 rfl) rfl rfl (fun hc => ?_) (fun hc => ?_)
  · replace h := it_t hc h
    refine Ak_keep [true, true, true, true] ?_
    exact t_M_bestOf_J123 hO (fun h => hK2 h) h
  · replace h := it_f hc h
    refine Ak_aload_n 109 0 (d_M_bestOf 66 108 (.aload_n 0) 1 rfl) rfl rfl rfl ?_
    refine Ak_getF 112 58 hO clX13 (by decide) rfl lkF_M_189 (d_M_bestOf 67 109 (.getfield 189) 3 rfl) rfl ?_
    refine Ak_iload_n 113 3 (d_M_bestOf 68 112 (.iload_n 3) 1 rfl) rfl rfl rfl ?_
    obtain ⟨ha3, h⟩ := gd_some h
    refine Ak_iaload 114 ha3 (d_M_bestOf 69 113 (.iaload) 1 rfl) rfl ?_
    refine Ak_iload 116 (d_M_bestOf 70 114 (.iload 4) 2 rfl) rfl rfl ?_
    refine Ak_iconst 117 (d_M_bestOf 71 116 (.iconst 1) 1 rfl) rfl (rk rfl) ?_
    refine Ak_isub 118 (d_M_bestOf 72 117 (.isub) 1 rfl) rfl ?_
    refine Ak_icmp_ne 123 121 (d_M_bestOf 73 118 (.if_icmp .ne 5) 3 rfl) rfl rfl (fun hc => ?_) (fun hc => ?_)
    · replace h := it_f hc h
      refine Ak_keep [true, true, true, true] ?_
      exact t_M_bestOf_J123 hO (fun h => hK2 h) h
    · replace h := it_t hc h
      refine Ak_iload_n 122 2 (d_M_bestOf 74 121 (.iload_n 2) 1 rfl) rfl rfl rfl ?_
      cases h
      exact Ak_iret rfl (d_M_bestOf 75 122 (.ireturn) 1 rfl)
theorem t_M_bestOf_J82 {S : ASh} {K2 : ASt → Int → Option (Int × ASt)} {V : ASt} {x0 x1 x2 x3 x4 : Int} {r : Int} {V' : ASt} (hO : isO S x0 13 = true) (hK2 : ∀ {V : ASt} {y2 : Int} {r : Int} {V' : ASt}, K2 V y2 = some (r, V') → AWk m_M_bestOf 2 0 0 0 0 2 [some (aR x0), some (aI x1), some (aI y2)] [] S V (some (aI r)) S V') (h : b_M_bestOf_J82 S K2 V x0 x1 x2 x3 x4 = some (r, V')) : AWk m_M_bestOf 2 0 0 0 0 82 [some (aR x0), some (aI x1), some (aI x2), some (aI x3), some (aI x4)] [] S V (some (aI r)) S V' := by
  unfold b_M_bestOf_J82 at h
  refine Ak_aload_n 83 0 (d_M_bestOf 52 82 (.aload_n 0) 1 rfl) rfl rfl rfl ?_
  refine Ak_getF 86 57 hO clX13 (by decide) rfl lkF_M_186 (d_M_bestOf 53 83 (.getfield 186) 3 rfl) rfl ?_
  refine Ak_iload_n 87 1 (d_M_bestOf 54 86 (.iload_n 1) 1 rfl) rfl rfl rfl ?_
  obtain ⟨ha4, h⟩ := gd_some h
  refine Ak_iaload 88 ha4 (d_M_bestOf 55 87 (.iaload) 1 rfl) rfl ?_
  refine Ak_iconst 89 (d_M_bestOf 56 88 (.iconst (-1)) 1 rfl) rfl (rk rfl) ?_
  refine Ak_icmp_ne 123 92 (d_M_bestOf 57 89 (.if_icmp .ne 34) 3 rfl) rfl rfl (fun hc => ?_) (fun hc => ?_)
  · replace h := it_f hc h
    refine Ak_keep [true, true, true, true] ?_
    exact t_M_bestOf_J123 hO (fun h => hK2 h) h
  · replace h := it_t hc h
    refine Ak_iload_n 93 3 (d_M_bestOf 58 92 (.iload_n 3) 1 rfl) rfl rfl rfl ?_
    refine Ak_bipush 95 (d_M_bestOf 59 93 (.bipush (-2)) 2 rfl) rfl (bp_ok rfl) (rk rfl) ?_
    refine Ak_icmp_ne 104 98 (d_M_bestOf 60 95 (.if_icmp .ne 9) 3 rfl) rfl rfl (fun hc => ?_) (fun hc => ?_)
    · replace h := it_f hc h
      refine Ak_keep [true, true, true, true, true] ?_
      exact t_M_bestOf_J104 hO (fun h => hK2 h) h
    · replace h := it_t hc h
      refine Ak_iload 100 (d_M_bestOf 61 98 (.iload 4) 2 rfl) rfl rfl ?_
      refine Ak_iconst 101 (d_M_bestOf 62 100 (.iconst 1) 1 rfl) rfl (rk rfl) ?_
      refine Ak_icmp_eq 121 104 (d_M_bestOf 63 101 (.if_icmp .eq 20) 3 rfl) rfl rfl (fun hc => ?_) (fun hc => ?_)
      · replace h := it_t hc h
        refine Ak_iload_n 122 2 (d_M_bestOf 74 121 (.iload_n 2) 1 rfl) rfl rfl rfl ?_
        cases h
        exact Ak_iret rfl (d_M_bestOf 75 122 (.ireturn) 1 rfl)
      · replace h := it_f hc h
        refine Ak_keep [true, true, true, true, true] ?_
        exact t_M_bestOf_J104 hO (fun h => hK2 h) h
theorem t_M_bestOf_J53 {S : ASh} {K2 : ASt → Int → Option (Int × ASt)} {V : ASt} {x0 x1 x2 x3 x4 : Int} {r : Int} {V' : ASt} (hO : isO S x0 13 = true) (hK2 : ∀ {V : ASt} {y2 : Int} {r : Int} {V' : ASt}, K2 V y2 = some (r, V') → AWk m_M_bestOf 2 0 0 0 0 2 [some (aR x0), some (aI x1), some (aI y2)] [] S V (some (aI r)) S V') (h : b_M_bestOf_J53 S K2 V x0 x1 x2 x3 x4 = some (r, V')) : AWk m_M_bestOf 2 0 0 0 0 53 [some (aR x0), some (aI x1), some (aI x2), some (aI x3), some (aI x4)] [] S V (some (aI r)) S V' := by
  unfold b_M_bestOf_J53 at h
  refine Ak_iload_n 54 3 (d_M_bestOf 34 53 (.iload_n 3) 1 rfl) rfl rfl rfl ?_
  refine Ak_if_lt 82 57 (d_M_bestOf 35 54 (.ifCond .lt 28) 3 rfl) rfl rfl (fun hc => ?_) (fun hc => ?_)
  · replace h := it_t hc h
    refine Ak_keep [true, true, true, true, true] ?_
    exact t_M_bestOf_J82 hO (fun h => hK2 h) h
  · replace h := it_f hc h
    refine Ak_aload_n 58 0 (d_M_bestOf 36 57 (.aload_n 0) 1 rfl) rfl rfl rfl ?_
    refine Ak_getF 61 57 hO clX13 (by decide) rfl lkF_M_186 (d_M_bestOf 37 58 (.getfield 186) 3 rfl) rfl ?_
    refine Ak_iload_n 62 3 (d_M_bestOf 38 61 (.iload_n 3) 1 rfl) rfl rfl rfl ?_
    obtain ⟨ha5, h⟩ := gd_some h
    refine Ak_iaload 63 ha5 (d_M_bestOf 39 62 (.iaload) 1 rfl) rfl ?_
    refine Ak_iconst 64 (d_M_bestOf 40 63 (.iconst (-1)) 1 rfl) rfl (rk rfl) ?_
    refine Ak_icmp_ne 82 67 (d_M_bestOf 41 64 (.if_icmp .ne 18) 3 rfl) rfl rfl (fun hc => ?_) (fun hc => ?_)
    · replace h := it_f hc h
      refine Ak_keep [true, true, true, true, true] ?_
      exact t_M_bestOf_J82 hO (fun h => hK2 h) h
    · replace h := it_t hc h
      refine Ak_aload_n 68 0 (d_M_bestOf 42 67 (.aload_n 0) 1 rfl) rfl rfl rfl ?_
      refine Ak_getF 71 58 hO clX13 (by decide) rfl lkF_M_189 (d_M_bestOf 43 68 (.getfield 189) 3 rfl) rfl ?_
      refine Ak_iload_n 72 3 (d_M_bestOf 44 71 (.iload_n 3) 1 rfl) rfl rfl rfl ?_
      obtain ⟨ha6, h⟩ := gd_some h
      refine Ak_iaload 73 ha6 (d_M_bestOf 45 72 (.iaload) 1 rfl) rfl ?_
      refine Ak_iload 75 (d_M_bestOf 46 73 (.iload 4) 2 rfl) rfl rfl ?_
      refine Ak_iconst 76 (d_M_bestOf 47 75 (.iconst 1) 1 rfl) rfl (rk rfl) ?_
      refine Ak_isub 77 (d_M_bestOf 48 76 (.isub) 1 rfl) rfl ?_
      refine Ak_icmp_ne 82 80 (d_M_bestOf 49 77 (.if_icmp .ne 5) 3 rfl) rfl rfl (fun hc => ?_) (fun hc => ?_)
      · replace h := it_f hc h
        refine Ak_keep [true, true, true, true, true] ?_
        exact t_M_bestOf_J82 hO (fun h => hK2 h) h
      · replace h := it_t hc h
        refine Ak_iload_n 81 2 (d_M_bestOf 50 80 (.iload_n 2) 1 rfl) rfl rfl rfl ?_
        cases h
        exact Ak_iret rfl (d_M_bestOf 51 81 (.ireturn) 1 rfl)
theorem t_M_bestOf_L2 {S : ASh} {x0 x1 : Int} (hO : isO S x0 13 = true) : ∀ (n : Nat) (V : ASt) (x2 : Int) (r : Int) (V' : ASt), b_M_bestOf_L2 S x0 x1 n V x2 = some (r, V') → AWk m_M_bestOf 2 0 0 0 0 2 [some (aR x0), some (aI x1), some (aI x2)] [] S V (some (aI r)) S V' := by
  intro n
  induction n with
  | zero => intro V x2 r V' h; cases h
  | succ n ih =>
    intro V x2 r V' h
    replace ih : ∀ {V : ASt} {x2 : Int} {r : Int} {V' : ASt}, b_M_bestOf_L2 S x0 x1 n V x2 = some (r, V') → AWk m_M_bestOf 2 0 0 0 0 2 [some (aR x0), some (aI x1), some (aI x2)] [] S V (some (aI r)) S V' := fun h => ih _ _ _ _ h
    rw [b_M_bestOf_L2] at h
    refine Ak_iload_n 3 2 (d_M_bestOf 2 2 (.iload_n 2) 1 rfl) rfl rfl rfl ?_
    refine Ak_aload_n 4 0 (d_M_bestOf 3 3 (.aload_n 0) 1 rfl) rfl rfl rfl ?_
    refine Ak_getF 7 51 hO clX13 (by decide) rfl lkF_M_168 (d_M_bestOf 4 4 (.getfield 168) 3 rfl) rfl ?_
    refine Ak_iload_n 8 1 (d_M_bestOf 5 7 (.iload_n 1) 1 rfl) rfl rfl rfl ?_
    obtain ⟨ha7, h⟩ := gd_some h
    refine Ak_iaload 9 ha7 (d_M_bestOf 6 8 (.iaload) 1 rfl) rfl ?_
    refine Ak_icmp_ge 153 12 (d_M_bestOf 7 9 (.if_icmp .ge 144) 3 rfl) rfl rfl (fun hc => ?_) (fun hc => ?_)
    · replace h := it_t hc h
      refine Ak_iconst 154 (d_M_bestOf 92 153 (.iconst (-1)) 1 rfl) rfl (rk rfl) ?_
      cases h
      exact Ak_iret rfl (d_M_bestOf 93 154 (.ireturn) 1 rfl)
    · replace h := it_f hc h
      refine Ak_aload_n 13 0 (d_M_bestOf 8 12 (.aload_n 0) 1 rfl) rfl rfl rfl ?_
      refine Ak_getF 16 53 hO clX13 (by decide) rfl lkF_M_174 (d_M_bestOf 9 13 (.getfield 174) 3 rfl) rfl ?_
      refine Ak_bipush 18 (d_M_bestOf 10 16 (.bipush 20) 2 rfl) rfl (bp_ok rfl) (rk rfl) ?_
      refine Ak_iload_n 19 1 (d_M_bestOf 11 18 (.iload_n 1) 1 rfl) rfl rfl rfl ?_
      refine Ak_imul 20 (d_M_bestOf 12 19 (.imul) 1 rfl) rfl ?_
      refine Ak_iload_n 21 2 (d_M_bestOf 13 20 (.iload_n 2) 1 rfl) rfl rfl rfl ?_
      refine Ak_iadd 22 (d_M_bestOf 14 21 (.iadd) 1 rfl) rfl ?_
      obtain ⟨ha8, h⟩ := gd_some h
      refine Ak_iaload 23 ha8 (d_M_bestOf 15 22 (.iaload) 1 rfl) rfl ?_
      refine Ak_istore_n 24 3 (d_M_bestOf 16 23 (.istore_n 3) 1 rfl) rfl rfl (by decide) ?_
      refine Ak_aload_n 25 0 (d_M_bestOf 17 24 (.aload_n 0) 1 rfl) rfl rfl rfl ?_
      refine Ak_getF 28 58 hO clX13 (by decide) rfl lkF_M_189 (d_M_bestOf 18 25 (.getfield 189) 3 rfl) rfl ?_
      refine Ak_iload_n 29 1 (d_M_bestOf 19 28 (.iload_n 1) 1 rfl) rfl rfl rfl ?_
      obtain ⟨ha9, h⟩ := gd_some h
      refine Ak_iaload 30 ha9 (d_M_bestOf 20 29 (.iaload) 1 rfl) rfl ?_
      refine Ak_istore 32 (d_M_bestOf 21 30 (.istore 4) 2 rfl) rfl (by decide) ?_
      refine Ak_aload_n 33 0 (d_M_bestOf 22 32 (.aload_n 0) 1 rfl) rfl rfl rfl ?_
      refine Ak_getF 36 57 hO clX13 (by decide) rfl lkF_M_186 (d_M_bestOf 23 33 (.getfield 186) 3 rfl) rfl ?_
      refine Ak_iload_n 37 1 (d_M_bestOf 24 36 (.iload_n 1) 1 rfl) rfl rfl rfl ?_
      obtain ⟨ha10, h⟩ := gd_some h
      refine Ak_iaload 38 ha10 (d_M_bestOf 25 37 (.iaload) 1 rfl) rfl ?_
      refine Ak_iconst 39 (d_M_bestOf 26 38 (.iconst 1) 1 rfl) rfl (rk rfl) ?_
      refine Ak_icmp_ne 82 42 (d_M_bestOf 27 39 (.if_icmp .ne 43) 3 rfl) rfl rfl (fun hc => ?_) (fun hc => ?_)
      · replace h := it_f hc h
        refine Ak_keep [true, true, true, true, true] ?_
        exact t_M_bestOf_J82 hO (fun h => ih h) h
      · replace h := it_t hc h
        refine Ak_iload_n 43 3 (d_M_bestOf 28 42 (.iload_n 3) 1 rfl) rfl rfl rfl ?_
        refine Ak_iconst 44 (d_M_bestOf 29 43 (.iconst (-1)) 1 rfl) rfl (rk rfl) ?_
        refine Ak_icmp_ne 53 47 (d_M_bestOf 30 44 (.if_icmp .ne 9) 3 rfl) rfl rfl (fun hc => ?_) (fun hc => ?_)
        · replace h := it_f hc h
          refine Ak_keep [true, true, true, true, true] ?_
          exact t_M_bestOf_J53 hO (fun h => ih h) h
        · replace h := it_t hc h
          refine Ak_iload 49 (d_M_bestOf 31 47 (.iload 4) 2 rfl) rfl rfl ?_
          refine Ak_iconst 50 (d_M_bestOf 32 49 (.iconst 1) 1 rfl) rfl (rk rfl) ?_
          refine Ak_icmp_eq 80 53 (d_M_bestOf 33 50 (.if_icmp .eq 30) 3 rfl) rfl rfl (fun hc => ?_) (fun hc => ?_)
          · replace h := it_t hc h
            refine Ak_iload_n 81 2 (d_M_bestOf 50 80 (.iload_n 2) 1 rfl) rfl rfl rfl ?_
            cases h
            exact Ak_iret rfl (d_M_bestOf 51 81 (.ireturn) 1 rfl)
          · replace h := it_f hc h
            refine Ak_keep [true, true, true, true, true] ?_
            exact t_M_bestOf_J53 hO (fun h => ih h) h
theorem c_M_bestOf {S : ASh} {V : ASt} {x0 x1 : Int} {r : Int} {V' : ASt} (h : f_M_bestOf S V x0 x1 = some (r, V')) : ACt m_M_bestOf 2 0 0 [(aR x0), (aI x1)] S V (some (aI r)) S V' := by
  unfold f_M_bestOf at h
  obtain ⟨hO, h⟩ := gd_some h
  refine ACt_of (plainFor_of_name rfl) rfl (Nat.le_of_ble_eq_true rfl) ?_
  show AWk m_M_bestOf 2 0 0 0 0 0 [some (aR x0), some (aI x1)] [] S V (some (aI r)) S V'
  refine Ak_iconst 1 (d_M_bestOf 0 0 (.iconst 0) 1 rfl) rfl (rk rfl) ?_
  refine Ak_istore_n 2 2 (d_M_bestOf 1 1 (.istore_n 2) 1 rfl) rfl rfl (by decide) ?_
  refine Ak_keep [true, true, true] ?_
  exact t_M_bestOf_L2 hO FU _ _ _ _ h
theorem c_M_value {S : ASh} {V : ASt} {x0 x1 x2 : Int} {r : Int} {V' : ASt} (h : f_M_value S V x0 x1 x2 = some (r, V')) : ACt m_M_value 9 0 0 [(aR x0), (aI x1), (aI x2)] S V (some (aI r)) S V' := by
  unfold f_M_value at h
  obtain ⟨hO, h⟩ := gd_some h
  refine ACt_of (plainFor_of_name rfl) rfl (Nat.le_of_ble_eq_true rfl) ?_
  show AWk m_M_value 9 0 0 0 0 0 [some (aR x0), some (aI x1), some (aI x2)] [] S V (some (aI r)) S V'
  refine Ak_aload_n 1 0 (d_M_value 0 0 (.aload_n 0) 1 rfl) rfl rfl rfl ?_
  refine Ak_iload_n 2 1 (d_M_value 1 1 (.iload_n 1) 1 rfl) rfl rfl rfl ?_
  obtain ⟨r1, V2, h3, h⟩ := bnd_some h
  refine Ak_cV1 5 4 (c_M_isPosition h3) rfl hO clX13 rfl mok_M_isPosition lkM_M_493 (d_M_value 2 2 (.invokevirtual 493) 3 rfl) rfl (by decide) (Nat.le_of_ble_eq_true rfl) ?_
  refine Ak_if_eq 17 8 (d_M_value 3 5 (.ifCond .eq 12) 3 rfl) rfl rfl (fun hc => ?_) (fun hc => ?_)
  · replace h := it_t hc h
    refine Ak_bipush 19 (d_M_value 9 17 (.bipush (-2)) 2 rfl) rfl (bp_ok rfl) (rk rfl) ?_
    cases h
    exact Ak_iret rfl (d_M_value 10 19 (.ireturn) 1 rfl)
  · replace h := it_f hc h
    refine Ak_iload_n 9 2 (d_M_value 4 8 (.iload_n 2) 1 rfl) rfl rfl rfl ?_
    refine Ak_iconst 10 (d_M_value 5 9 (.iconst 0) 1 rfl) rfl (rk rfl) ?_
    refine Ak_iconst 11 (d_M_value 6 10 (.iconst 2) 1 rfl) rfl (rk rfl) ?_
    obtain ⟨r4, V5, h6, h⟩ := bnd_some h
    refine Ak_cS1 14 2 (c_M_is h6) rfl mok_M_is lkM_M_329 (d_M_value 7 11 (.invokestatic 329) 3 rfl) rfl (by decide) (Nat.le_of_ble_eq_true rfl) ?_
    refine Ak_if_ne 20 17 (d_M_value 8 14 (.ifCond .ne 6) 3 rfl) rfl rfl (fun hc => ?_) (fun hc => ?_)
    · replace h := it_f hc h
      refine Ak_aload_n 21 0 (d_M_value 11 20 (.aload_n 0) 1 rfl) rfl rfl rfl ?_
      refine Ak_iload_n 22 1 (d_M_value 12 21 (.iload_n 1) 1 rfl) rfl rfl rfl ?_
      obtain ⟨r7, V8, h9, h⟩ := bnd_some h
      refine Ak_cV0 25 8 (c_M_lays h9) rfl hO clX13 rfl mok_M_lays lkM_M_496 (d_M_value 13 22 (.invokevirtual 496) 3 rfl) rfl (by decide) (Nat.le_of_ble_eq_true rfl) ?_
      refine Ak_aload_n 26 0 (d_M_value 14 25 (.aload_n 0) 1 rfl) rfl rfl rfl ?_
      obtain ⟨r10, V11, h12, h⟩ := bnd_some h
      refine Ak_cV0 29 3 (c_M_worths h12) rfl hO clX13 rfl mok_M_worths lkM_M_506 (d_M_value 15 26 (.invokevirtual 506) 3 rfl) rfl (by decide) (Nat.le_of_ble_eq_true rfl) ?_
      refine Ak_aload_n 30 0 (d_M_value 16 29 (.aload_n 0) 1 rfl) rfl rfl rfl ?_
      refine Ak_iload_n 31 1 (d_M_value 17 30 (.iload_n 1) 1 rfl) rfl rfl rfl ?_
      obtain ⟨r13, V14, h15, h⟩ := bnd_some h
      refine Ak_cV1 34 2 (c_M_bestOf h15) rfl hO clX13 rfl mok_M_bestOf lkM_M_509 (d_M_value 18 31 (.invokevirtual 509) 3 rfl) rfl (by decide) (Nat.le_of_ble_eq_true rfl) ?_
      refine Ak_istore_n 35 3 (d_M_value 19 34 (.istore_n 3) 1 rfl) rfl rfl (by decide) ?_
      refine Ak_iload_n 36 2 (d_M_value 20 35 (.iload_n 2) 1 rfl) rfl rfl rfl ?_
      refine Ak_if_ne 48 39 (d_M_value 21 36 (.ifCond .ne 12) 3 rfl) rfl rfl (fun hc => ?_) (fun hc => ?_)
      · replace h := it_f hc h
        refine Ak_iload_n 49 2 (d_M_value 27 48 (.iload_n 2) 1 rfl) rfl rfl rfl ?_
        refine Ak_iconst 50 (d_M_value 28 49 (.iconst 1) 1 rfl) rfl (rk rfl) ?_
        refine Ak_icmp_ne 62 53 (d_M_value 29 50 (.if_icmp .ne 12) 3 rfl) rfl rfl (fun hc => ?_) (fun hc => ?_)
        · replace h := it_f hc h
          refine Ak_iload_n 63 3 (d_M_value 35 62 (.iload_n 3) 1 rfl) rfl rfl rfl ?_
          refine Ak_iconst 64 (d_M_value 36 63 (.iconst (-1)) 1 rfl) rfl (rk rfl) ?_
          refine Ak_icmp_ne 71 67 (d_M_value 37 64 (.if_icmp .ne 7) 3 rfl) rfl rfl (fun hc => ?_) (fun hc => ?_)
          · replace h := it_f hc h
            refine Ak_aload_n 72 0 (d_M_value 40 71 (.aload_n 0) 1 rfl) rfl rfl rfl ?_
            refine Ak_getF 75 52 hO clX13 (by decide) rfl lkF_M_171 (d_M_value 41 72 (.getfield 171) 3 rfl) rfl ?_
            refine Ak_bipush 77 (d_M_value 42 75 (.bipush 20) 2 rfl) rfl (bp_ok rfl) (rk rfl) ?_
            refine Ak_iload_n 78 1 (d_M_value 43 77 (.iload_n 1) 1 rfl) rfl rfl rfl ?_
            refine Ak_imul 79 (d_M_value 44 78 (.imul) 1 rfl) rfl ?_
            refine Ak_iload_n 80 3 (d_M_value 45 79 (.iload_n 3) 1 rfl) rfl rfl rfl ?_
            refine Ak_iadd 81 (d_M_value 46 80 (.iadd) 1 rfl) rfl ?_
            obtain ⟨ha16, h⟩ := gd_some h
            refine Ak_iaload 82 ha16 (d_M_value 47 81 (.iaload) 1 rfl) rfl ?_
            cases h
            exact Ak_iret rfl (d_M_value 48 82 (.ireturn) 1 rfl)
          · replace h := it_t hc h
            refine Ak_iconst 68 (d_M_value 38 67 (.iconst (-1)) 1 rfl) rfl (rk rfl) ?_
            refine Ak_goto 82 (d_M_value 39 68 (.goto 14) 3 rfl) rfl ?_
            cases h
            exact Ak_iret rfl (d_M_value 48 82 (.ireturn) 1 rfl)
        · replace h := it_t hc h
          refine Ak_aload_n 54 0 (d_M_value 30 53 (.aload_n 0) 1 rfl) rfl rfl rfl ?_
          refine Ak_getF 57 58 hO clX13 (by decide) rfl lkF_M_189 (d_M_value 31 54 (.getfield 189) 3 rfl) rfl ?_
          refine Ak_iload_n 58 1 (d_M_value 32 57 (.iload_n 1) 1 rfl) rfl rfl rfl ?_
          obtain ⟨ha17, h⟩ := gd_some h
          refine Ak_iaload 59 ha17 (d_M_value 33 58 (.iaload) 1 rfl) rfl ?_
          refine Ak_goto 82 (d_M_value 34 59 (.goto 23) 3 rfl) rfl ?_
          cases h
          exact Ak_iret rfl (d_M_value 48 82 (.ireturn) 1 rfl)
      · replace h := it_t hc h
        refine Ak_aload_n 40 0 (d_M_value 22 39 (.aload_n 0) 1 rfl) rfl rfl rfl ?_
        refine Ak_getF 43 57 hO clX13 (by decide) rfl lkF_M_186 (d_M_value 23 40 (.getfield 186) 3 rfl) rfl ?_
        refine Ak_iload_n 44 1 (d_M_value 24 43 (.iload_n 1) 1 rfl) rfl rfl rfl ?_
        obtain ⟨ha18, h⟩ := gd_some h
        refine Ak_iaload 45 ha18 (d_M_value 25 44 (.iaload) 1 rfl) rfl ?_
        refine Ak_goto 82 (d_M_value 26 45 (.goto 37) 3 rfl) rfl ?_
        cases h
        exact Ak_iret rfl (d_M_value 48 82 (.ireturn) 1 rfl)
    · replace h := it_t hc h
      refine Ak_bipush 19 (d_M_value 9 17 (.bipush (-2)) 2 rfl) rfl (bp_ok rfl) (rk rfl) ?_
      cases h
      exact Ak_iret rfl (d_M_value 10 19 (.ireturn) 1 rfl)
theorem c_M_worthOn {S : ASh} {V : ASt} {x0 x1 : Int} {r : Int} {V' : ASt} (h : f_M_worthOn S V x0 x1 = some (r, V')) : ACt m_M_worthOn 9 0 0 [(aR x0), (aI x1)] S V (some (aI r)) S V' := by
  unfold f_M_worthOn at h
  obtain ⟨hO, h⟩ := gd_some h
  refine ACt_of (plainFor_of_name rfl) rfl (Nat.le_of_ble_eq_true rfl) ?_
  show AWk m_M_worthOn 9 0 0 0 0 0 [some (aR x0), some (aI x1)] [] S V (some (aI r)) S V'
  refine Ak_aload_n 1 0 (d_M_worthOn 0 0 (.aload_n 0) 1 rfl) rfl rfl rfl ?_
  refine Ak_aload_n 2 0 (d_M_worthOn 1 1 (.aload_n 0) 1 rfl) rfl rfl rfl ?_
  refine Ak_iload_n 3 1 (d_M_worthOn 2 2 (.iload_n 1) 1 rfl) rfl rfl rfl ?_
  obtain ⟨r1, V2, h3, h⟩ := bnd_some h
  refine Ak_cV1 6 3 (c_M_beginning h3) rfl hO clX13 rfl mok_M_beginning lkM_M_512 (d_M_worthOn 3 3 (.invokevirtual 512) 3 rfl) rfl (by decide) (Nat.le_of_ble_eq_true rfl) ?_
  obtain ⟨r4, V5, h6, h⟩ := bnd_some h
  refine Ak_cV0 9 8 (c_M_lays h6) rfl hO clX13 rfl mok_M_lays lkM_M_496 (d_M_worthOn 4 6 (.invokevirtual 496) 3 rfl) rfl (by decide) (Nat.le_of_ble_eq_true rfl) ?_
  refine Ak_aload_n 10 0 (d_M_worthOn 5 9 (.aload_n 0) 1 rfl) rfl rfl rfl ?_
  obtain ⟨r7, V8, h9, h⟩ := bnd_some h
  refine Ak_cV0 13 3 (c_M_worths h9) rfl hO clX13 rfl mok_M_worths lkM_M_506 (d_M_worthOn 6 10 (.invokevirtual 506) 3 rfl) rfl (by decide) (Nat.le_of_ble_eq_true rfl) ?_
  refine Ak_aload_n 14 0 (d_M_worthOn 7 13 (.aload_n 0) 1 rfl) rfl rfl rfl ?_
  refine Ak_getF 17 57 hO clX13 (by decide) rfl lkF_M_186 (d_M_worthOn 8 14 (.getfield 186) 3 rfl) rfl ?_
  refine Ak_aload_n 18 0 (d_M_worthOn 9 17 (.aload_n 0) 1 rfl) rfl rfl rfl ?_
  refine Ak_iload_n 19 1 (d_M_worthOn 10 18 (.iload_n 1) 1 rfl) rfl rfl rfl ?_
  obtain ⟨r10, V11, h12, h⟩ := bnd_some h
  refine Ak_cV1 22 3 (c_M_beginning h12) rfl hO clX13 rfl mok_M_beginning lkM_M_512 (d_M_worthOn 11 19 (.invokevirtual 512) 3 rfl) rfl (by decide) (Nat.le_of_ble_eq_true rfl) ?_
  obtain ⟨ha13, h⟩ := gd_some h
  refine Ak_iaload 23 ha13 (d_M_worthOn 12 22 (.iaload) 1 rfl) rfl ?_
  cases h
  exact Ak_iret rfl (d_M_worthOn 13 23 (.ireturn) 1 rfl)
theorem c_M_worth {S : ASh} {V : ASt} {x0 : Int} {r : Int} {V' : ASt} (h : f_M_worth S V x0 = some (r, V')) : ACt m_M_worth 10 0 0 [(aR x0)] S V (some (aI r)) S V' := by
  unfold f_M_worth at h
  obtain ⟨hO, h⟩ := gd_some h
  refine ACt_of (plainFor_of_name rfl) rfl (Nat.le_of_ble_eq_true rfl) ?_
  show AWk m_M_worth 10 0 0 0 0 0 [some (aR x0)] [] S V (some (aI r)) S V'
  refine Ak_aload_n 1 0 (d_M_worth 0 0 (.aload_n 0) 1 rfl) rfl rfl rfl ?_
  obtain ⟨r1, V2, h3, h⟩ := bnd_some h
  refine Ak_cV1 4 2 (c_M_hasFields h3) rfl hO clX13 rfl mok_M_hasFields lkM_M_448 (d_M_worth 1 1 (.invokevirtual 448) 3 rfl) rfl (by decide) (Nat.le_of_ble_eq_true rfl) ?_
  refine Ak_if_eq 18 7 (d_M_worth 2 4 (.ifCond .eq 14) 3 rfl) rfl rfl (fun hc => ?_) (fun hc => ?_)
  · replace h := it_t hc h
    refine Ak_bipush 20 (d_M_worth 8 18 (.bipush (-2)) 2 rfl) rfl (bp_ok rfl) (rk rfl) ?_
    cases h
    exact Ak_iret rfl (d_M_worth 9 20 (.ireturn) 1 rfl)
  · replace h := it_f hc h
    refine Ak_aload_n 8 0 (d_M_worth 3 7 (.aload_n 0) 1 rfl) rfl rfl rfl ?_
    refine Ak_aload_n 9 0 (d_M_worth 4 8 (.aload_n 0) 1 rfl) rfl rfl rfl ?_
    refine Ak_getI 12 48 hO clX13 (by decide) (Or.inl rfl) lkF_M_159 (d_M_worth 5 9 (.getfield 159) 3 rfl) rfl ?_
    obtain ⟨r4, V5, h6, h⟩ := bnd_some h
    refine Ak_cV1 15 9 (c_M_worthOn h6) rfl hO clX13 rfl mok_M_worthOn lkM_M_515 (d_M_worth 6 12 (.invokevirtual 515) 3 rfl) rfl (by decide) (Nat.le_of_ble_eq_true rfl) ?_
    refine Ak_goto 20 (d_M_worth 7 15 (.goto 5) 3 rfl) rfl ?_
    cases h
    exact Ak_iret rfl (d_M_worth 9 20 (.ireturn) 1 rfl)
theorem c_M_wonBy {S : ASh} {V : ASt} {x0 x1 : Int} {r : Int} {V' : ASt} (h : f_M_wonBy S V x0 x1 = some (r, V')) : ACt m_M_wonBy 9 0 0 [(aR x0), (aI x1)] S V (some (aI r)) S V' := by
  unfold f_M_wonBy at h
  obtain ⟨hO, h⟩ := gd_some h
  refine ACt_of (plainFor_of_name rfl) rfl (Nat.le_of_ble_eq_true rfl) ?_
  show AWk m_M_wonBy 9 0 0 0 0 0 [some (aR x0), some (aI x1)] [] S V (some (aI r)) S V'
  refine Ak_aload_n 1 0 (d_M_wonBy 0 0 (.aload_n 0) 1 rfl) rfl rfl rfl ?_
  refine Ak_getI 4 61 hO clX13 (by decide) (Or.inl rfl) lkF_M_198 (d_M_wonBy 1 1 (.getfield 198) 3 rfl) rfl ?_
  refine Ak_iconst 5 (d_M_wonBy 2 4 (.iconst (-1)) 1 rfl) rfl (rk rfl) ?_
  refine Ak_icmp_eq 13 8 (d_M_wonBy 3 5 (.if_icmp .eq 8) 3 rfl) rfl rfl (fun hc => ?_) (fun hc => ?_)
  · replace h := it_t hc h
    refine Ak_aload_n 14 0 (d_M_wonBy 7 13 (.aload_n 0) 1 rfl) rfl rfl rfl ?_
    refine Ak_iload_n 15 1 (d_M_wonBy 8 14 (.iload_n 1) 1 rfl) rfl rfl rfl ?_
    obtain ⟨r1, V2, h3, h⟩ := bnd_some h
    refine Ak_cV0 18 8 (c_M_lays h3) rfl hO clX13 rfl mok_M_lays lkM_M_496 (d_M_wonBy 9 15 (.invokevirtual 496) 3 rfl) rfl (by decide) (Nat.le_of_ble_eq_true rfl) ?_
    refine Ak_aload_n 19 0 (d_M_wonBy 10 18 (.aload_n 0) 1 rfl) rfl rfl rfl ?_
    refine Ak_getF 22 51 hO clX13 (by decide) rfl lkF_M_168 (d_M_wonBy 11 19 (.getfield 168) 3 rfl) rfl ?_
    refine Ak_iload_n 23 1 (d_M_wonBy 12 22 (.iload_n 1) 1 rfl) rfl rfl rfl ?_
    obtain ⟨ha4, h⟩ := gd_some h
    refine Ak_iaload 24 ha4 (d_M_wonBy 13 23 (.iaload) 1 rfl) rfl ?_
    refine Ak_if_le 29 27 (d_M_wonBy 14 24 (.ifCond .le 5) 3 rfl) rfl rfl (fun hc => ?_) (fun hc => ?_)
    · replace h := it_t hc h
      refine Ak_aload_n 30 0 (d_M_wonBy 17 29 (.aload_n 0) 1 rfl) rfl rfl rfl ?_
      refine Ak_getF 33 18 hO clX13 (by decide) rfl lkF_M_67 (d_M_wonBy 18 30 (.getfield 67) 3 rfl) rfl ?_
      refine Ak_aload_n 34 0 (d_M_wonBy 19 33 (.aload_n 0) 1 rfl) rfl rfl rfl ?_
      refine Ak_getI 37 12 hO clX13 (by decide) (Or.inl rfl) lkF_M_48 (d_M_wonBy 20 34 (.getfield 48) 3 rfl) rfl ?_
      obtain ⟨ha5, h⟩ := gd_some h
      refine Ak_iaload 38 ha5 (d_M_wonBy 21 37 (.iaload) 1 rfl) rfl ?_
      refine Ak_iconst 39 (d_M_wonBy 22 38 (.iconst 1) 1 rfl) rfl (rk rfl) ?_
      refine Ak_icmp_ne 46 42 (d_M_wonBy 23 39 (.if_icmp .ne 7) 3 rfl) rfl rfl (fun hc => ?_) (fun hc => ?_)
      · replace h := it_f hc h
        refine Ak_aload_n 47 0 (d_M_wonBy 26 46 (.aload_n 0) 1 rfl) rfl rfl rfl ?_
        refine Ak_getF 50 18 hO clX13 (by decide) rfl lkF_M_67 (d_M_wonBy 27 47 (.getfield 67) 3 rfl) rfl ?_
        refine Ak_aload_n 51 0 (d_M_wonBy 28 50 (.aload_n 0) 1 rfl) rfl rfl rfl ?_
        refine Ak_getI 54 12 hO clX13 (by decide) (Or.inl rfl) lkF_M_48 (d_M_wonBy 29 51 (.getfield 48) 3 rfl) rfl ?_
        refine Ak_iaload 55 ha5 (d_M_wonBy 30 54 (.iaload) 1 rfl) rfl ?_
        refine Ak_iconst 56 (d_M_wonBy 31 55 (.iconst 2) 1 rfl) rfl (rk rfl) ?_
        refine Ak_icmp_ne 65 59 (d_M_wonBy 32 56 (.if_icmp .ne 9) 3 rfl) rfl rfl (fun hc => ?_) (fun hc => ?_)
        · replace h := it_f hc h
          refine Ak_iconst 66 (d_M_wonBy 37 65 (.iconst 1) 1 rfl) rfl (rk rfl) ?_
          refine Ak_iload_n 67 1 (d_M_wonBy 38 66 (.iload_n 1) 1 rfl) rfl rfl rfl ?_
          refine Ak_iconst 68 (d_M_wonBy 39 67 (.iconst 2) 1 rfl) rfl (rk rfl) ?_
          refine Ak_irem 69 (d_M_wonBy 40 68 (.irem) 1 rfl) rfl (by decide) ?_
          refine Ak_isub 70 (d_M_wonBy 41 69 (.isub) 1 rfl) rfl ?_
          cases h
          exact Ak_iret rfl (d_M_wonBy 42 70 (.ireturn) 1 rfl)
        · replace h := it_t hc h
          refine Ak_iload_n 60 1 (d_M_wonBy 33 59 (.iload_n 1) 1 rfl) rfl rfl rfl ?_
          refine Ak_iconst 61 (d_M_wonBy 34 60 (.iconst 2) 1 rfl) rfl (rk rfl) ?_
          refine Ak_irem 62 (d_M_wonBy 35 61 (.irem) 1 rfl) rfl (by decide) ?_
          refine Ak_goto 70 (d_M_wonBy 36 62 (.goto 8) 3 rfl) rfl ?_
          cases h
          exact Ak_iret rfl (d_M_wonBy 42 70 (.ireturn) 1 rfl)
      · replace h := it_t hc h
        refine Ak_iconst 43 (d_M_wonBy 24 42 (.iconst 2) 1 rfl) rfl (rk rfl) ?_
        refine Ak_goto 70 (d_M_wonBy 25 43 (.goto 27) 3 rfl) rfl ?_
        cases h
        exact Ak_iret rfl (d_M_wonBy 42 70 (.ireturn) 1 rfl)
    · replace h := it_f hc h
      refine Ak_iconst 28 (d_M_wonBy 15 27 (.iconst (-1)) 1 rfl) rfl (rk rfl) ?_
      cases h
      exact Ak_iret rfl (d_M_wonBy 16 28 (.ireturn) 1 rfl)
  · replace h := it_f hc h
    refine Ak_aload_n 9 0 (d_M_wonBy 4 8 (.aload_n 0) 1 rfl) rfl rfl rfl ?_
    refine Ak_getI 12 61 hO clX13 (by decide) (Or.inl rfl) lkF_M_198 (d_M_wonBy 5 9 (.getfield 198) 3 rfl) rfl ?_
    cases h
    exact Ak_iret rfl (d_M_wonBy 6 12 (.ireturn) 1 rfl)
theorem c_M_played {S : ASh} {V : ASt} {x0 x1 : Int} {r : Int} {V' : ASt} (h : f_M_played S V x0 x1 = some (r, V')) : ACt m_M_played 10 0 0 [(aR x0), (aI x1)] S V (some (aI r)) S V' := by
  unfold f_M_played at h
  obtain ⟨hO, h⟩ := gd_some h
  refine ACt_of (plainFor_of_name rfl) rfl (Nat.le_of_ble_eq_true rfl) ?_
  show AWk m_M_played 10 0 0 0 0 0 [some (aR x0), some (aI x1)] [] S V (some (aI r)) S V'
  refine Ak_aload_n 1 0 (d_M_played 0 0 (.aload_n 0) 1 rfl) rfl rfl rfl ?_
  obtain ⟨r1, V2, h3, h⟩ := bnd_some h
  refine Ak_cV1 4 2 (c_M_hasFields h3) rfl hO clX13 rfl mok_M_hasFields lkM_M_448 (d_M_played 1 1 (.invokevirtual 448) 3 rfl) rfl (by decide) (Nat.le_of_ble_eq_true rfl) ?_
  refine Ak_if_ne 9 7 (d_M_played 2 4 (.ifCond .ne 5) 3 rfl) rfl rfl (fun hc => ?_) (fun hc => ?_)
  · replace h := it_f hc h
    refine Ak_iload_n 10 1 (d_M_played 5 9 (.iload_n 1) 1 rfl) rfl rfl rfl ?_
    by_cases hc4 : x1 = 0
    · replace h := it_t hc4 h
      refine Ak_tableIn 40 0 hc4 (d_M_played 6 10 (.tableswitch 56 0 3 #[30, 35, 42, 47]) 30 rfl) (by decide) (by decide) rfl rfl ?_
      refine Ak_aload_n 41 0 (d_M_played 7 40 (.aload_n 0) 1 rfl) rfl rfl rfl ?_
      refine Ak_getI 44 59 hO clX13 (by decide) (Or.inl rfl) lkF_M_192 (d_M_played 8 41 (.getfield 192) 3 rfl) rfl ?_
      cases h
      exact Ak_iret rfl (d_M_played 9 44 (.ireturn) 1 rfl)
    · replace h := it_f hc4 h
      by_cases hc5 : x1 = 1
      · replace h := it_t hc5 h
        refine Ak_tableIn 45 1 hc5 (d_M_played 6 10 (.tableswitch 56 0 3 #[30, 35, 42, 47]) 30 rfl) (by decide) (by decide) rfl rfl ?_
        refine Ak_aload_n 46 0 (d_M_played 10 45 (.aload_n 0) 1 rfl) rfl rfl rfl ?_
        refine Ak_getI 49 59 hO clX13 (by decide) (Or.inl rfl) lkF_M_192 (d_M_played 11 46 (.getfield 192) 3 rfl) rfl ?_
        refine Ak_iconst 50 (d_M_played 12 49 (.iconst 2) 1 rfl) rfl (rk rfl) ?_
        refine Ak_irem 51 (d_M_played 13 50 (.irem) 1 rfl) rfl (by decide) ?_
        cases h
        exact Ak_iret rfl (d_M_played 14 51 (.ireturn) 1 rfl)
      · replace h := it_f hc5 h
        by_cases hc6 : x1 = 2
        · replace h := it_t hc6 h
          refine Ak_tableIn 52 2 hc6 (d_M_played 6 10 (.tableswitch 56 0 3 #[30, 35, 42, 47]) 30 rfl) (by decide) (by decide) rfl rfl ?_
          refine Ak_aload_n 53 0 (d_M_played 15 52 (.aload_n 0) 1 rfl) rfl rfl rfl ?_
          refine Ak_getI 56 60 hO clX13 (by decide) (Or.inl rfl) lkF_M_195 (d_M_played 16 53 (.getfield 195) 3 rfl) rfl ?_
          cases h
          exact Ak_iret rfl (d_M_played 17 56 (.ireturn) 1 rfl)
        · replace h := it_f hc6 h
          by_cases hc7 : x1 = 3
          · replace h := it_t hc7 h
            refine Ak_tableIn 57 3 hc7 (d_M_played 6 10 (.tableswitch 56 0 3 #[30, 35, 42, 47]) 30 rfl) (by decide) (by decide) rfl rfl ?_
            refine Ak_aload_n 58 0 (d_M_played 18 57 (.aload_n 0) 1 rfl) rfl rfl rfl ?_
            refine Ak_aload_n 59 0 (d_M_played 19 58 (.aload_n 0) 1 rfl) rfl rfl rfl ?_
            refine Ak_getI 62 59 hO clX13 (by decide) (Or.inl rfl) lkF_M_192 (d_M_played 20 59 (.getfield 192) 3 rfl) rfl ?_
            obtain ⟨r8, V9, h10, h⟩ := bnd_some h
            refine Ak_cV1 65 9 (c_M_wonBy h10) rfl hO clX13 rfl mok_M_wonBy lkM_M_518 (d_M_played 21 62 (.invokevirtual 518) 3 rfl) rfl (by decide) (Nat.le_of_ble_eq_true rfl) ?_
            cases h
            exact Ak_iret rfl (d_M_played 22 65 (.ireturn) 1 rfl)
          · replace h := it_f hc7 h
            refine Ak_tableOut 66 (by omega) (d_M_played 6 10 (.tableswitch 56 0 3 #[30, 35, 42, 47]) 30 rfl) rfl ?_
            refine Ak_iconst 67 (d_M_played 23 66 (.iconst (-1)) 1 rfl) rfl (rk rfl) ?_
            cases h
            exact Ak_iret rfl (d_M_played 24 67 (.ireturn) 1 rfl)
  · replace h := it_t hc h
    refine Ak_iconst 8 (d_M_played 3 7 (.iconst (-1)) 1 rfl) rfl (rk rfl) ?_
    cases h
    exact Ak_iret rfl (d_M_played 4 8 (.ireturn) 1 rfl)
theorem t_M_move_J78 {S : ASh} {V : ASt} {x0 : Int} {r : Int} {V' : ASt} (hO : isO S x0 13 = true) (h : b_M_move_J78 S  V x0 = some (r, V')) : AWk m_M_move 10 0 0 0 0 78 [some (aR x0)] [] S V (some (aI r)) S V' := by
  unfold b_M_move_J78 at h
  refine Ak_aload_n 79 0 (d_M_move 42 78 (.aload_n 0) 1 rfl) rfl rfl rfl ?_
  refine Ak_iconst 80 (d_M_move 43 79 (.iconst 2) 1 rfl) rfl (rk rfl) ?_
  obtain ⟨r1, V2, h3, h⟩ := bnd_some h
  refine Ak_cV1 83 2 (c_M_refuses h3) rfl hO clX13 rfl mok_M_refuses lkM_M_258 (d_M_move 44 80 (.invokevirtual 258) 3 rfl) rfl (by decide) (Nat.le_of_ble_eq_true rfl) ?_
  refine Ak_if_lt 90 86 (d_M_move 45 83 (.ifCond .lt 7) 3 rfl) rfl rfl (fun hc => ?_) (fun hc => ?_)
  · replace h := it_t hc h
    refine Ak_iconst 91 (d_M_move 48 90 (.iconst 0) 1 rfl) rfl (rk rfl) ?_
    cases h
    exact Ak_zret (Or.inl rfl) rfl (d_M_move 49 91 (.ireturn) 1 rfl)
  · replace h := it_f hc h
    refine Ak_iconst 87 (d_M_move 46 86 (.iconst 1) 1 rfl) rfl (rk rfl) ?_
    refine Ak_goto 91 (d_M_move 47 87 (.goto 4) 3 rfl) rfl ?_
    cases h
    exact Ak_zret (Or.inr rfl) rfl (d_M_move 49 91 (.ireturn) 1 rfl)
theorem t_M_move_J139 {S : ASh} {V : ASt} {x0 x1 x2 s0 s1 : Int} {r : Int} {V' : ASt} (hO : isO S x0 13 = true) (h : b_M_move_J139 S  V x0 x1 x2 s0 s1 = some (r, V')) : AWk m_M_move 10 0 0 0 0 139 [some (aR x0), some (aI x1), some (aI x2)] [(aI s1), (aR s0)] S V (some (aI r)) S V' := by
  unfold b_M_move_J139 at h
  obtain ⟨hg4, h⟩ := gd_some h
  refine Ak_putI 142 61 hg4 clX13 (by decide) rfl rfl rfl lkF_M_198 (d_M_move 76 139 (.putfield 198) 3 rfl) rfl (fun V5 hV5 => ?_)
  replace h := wV_some h V5 hV5
  refine Ak_aload_n 143 0 (d_M_move 77 142 (.aload_n 0) 1 rfl) rfl rfl rfl ?_
  refine Ak_aload_n 144 0 (d_M_move 78 143 (.aload_n 0) 1 rfl) rfl rfl rfl ?_
  refine Ak_aload_n 145 0 (d_M_move 79 144 (.aload_n 0) 1 rfl) rfl rfl rfl ?_
  refine Ak_getI 148 59 hO clX13 (by decide) (Or.inl rfl) lkF_M_192 (d_M_move 80 145 (.getfield 192) 3 rfl) rfl ?_
  refine Ak_iload_n 149 1 (d_M_move 81 148 (.iload_n 1) 1 rfl) rfl rfl rfl ?_
  refine Ak_iload_n 150 2 (d_M_move 82 149 (.iload_n 2) 1 rfl) rfl rfl rfl ?_
  obtain ⟨r6, V7, h8, h⟩ := bnd_some h
  refine Ak_cV1 153 4 (c_M_behind h8) rfl hO clX13 rfl mok_M_behind lkM_M_477 (d_M_move 83 150 (.invokevirtual 477) 3 rfl) rfl (by decide) (Nat.le_of_ble_eq_true rfl) ?_
  refine Ak_putI 156 59 hO clX13 (by decide) rfl rfl rfl lkF_M_192 (d_M_move 84 153 (.putfield 192) 3 rfl) rfl (fun V9 hV9 => ?_)
  replace h := wV_some h V9 hV9
  refine Ak_aload_n 157 0 (d_M_move 85 156 (.aload_n 0) 1 rfl) rfl rfl rfl ?_
  refine Ak_dup 158 (d_M_move 86 157 (.dup) 1 rfl) rfl rfl ?_
  refine Ak_getI 161 60 hO clX13 (by decide) (Or.inl rfl) lkF_M_195 (d_M_move 87 158 (.getfield 195) 3 rfl) rfl ?_
  refine Ak_iconst 162 (d_M_move 88 161 (.iconst 1) 1 rfl) rfl (rk rfl) ?_
  refine Ak_iadd 163 (d_M_move 89 162 (.iadd) 1 rfl) rfl ?_
  refine Ak_putI 166 60 hO clX13 (by decide) rfl rfl rfl lkF_M_195 (d_M_move 90 163 (.putfield 195) 3 rfl) rfl (fun V10 hV10 => ?_)
  replace h := wV_some h V10 hV10
  refine Ak_iconst 167 (d_M_move 91 166 (.iconst 1) 1 rfl) rfl (rk rfl) ?_
  cases h
  exact Ak_zret (Or.inr rfl) rfl (d_M_move 92 167 (.ireturn) 1 rfl)
theorem t_M_move_J48 {S : ASh} {V : ASt} {x0 x1 x2 s0 : Int} {r : Int} {V' : ASt} (hO : isO S x0 13 = true) (h : b_M_move_J48 S  V x0 x1 x2 s0 = some (r, V')) : AWk m_M_move 10 0 0 0 0 48 [some (aR x0), some (aI x1), some (aI x2)] [(aI s0)] S V (some (aI r)) S V' := by
  unfold b_M_move_J48 at h
  refine Ak_istore_n 49 3 (d_M_move 26 48 (.istore_n 3) 1 rfl) rfl rfl (by decide) ?_
  refine Ak_iload_n 50 3 (d_M_move 27 49 (.iload_n 3) 1 rfl) rfl rfl rfl ?_
  refine Ak_if_eq 78 53 (d_M_move 28 50 (.ifCond .eq 28) 3 rfl) rfl rfl (fun hc => ?_) (fun hc => ?_)
  · replace h := it_t hc h
    refine Ak_keep [true] ?_
    exact t_M_move_J78 hO h
  · replace h := it_f hc h
    refine Ak_aload_n 54 0 (d_M_move 29 53 (.aload_n 0) 1 rfl) rfl rfl rfl ?_
    refine Ak_aload_n 55 0 (d_M_move 30 54 (.aload_n 0) 1 rfl) rfl rfl rfl ?_
    refine Ak_getI 58 59 hO clX13 (by decide) (Or.inl rfl) lkF_M_192 (d_M_move 31 55 (.getfield 192) 3 rfl) rfl ?_
    obtain ⟨r11, V12, h13, h⟩ := bnd_some h
    refine Ak_cV1 61 9 (c_M_wonBy h13) rfl hO clX13 rfl mok_M_wonBy lkM_M_518 (d_M_move 32 58 (.invokevirtual 518) 3 rfl) rfl (by decide) (Nat.le_of_ble_eq_true rfl) ?_
    refine Ak_iconst 62 (d_M_move 33 61 (.iconst (-1)) 1 rfl) rfl (rk rfl) ?_
    refine Ak_icmp_ne 78 65 (d_M_move 34 62 (.if_icmp .ne 16) 3 rfl) rfl rfl (fun hc => ?_) (fun hc => ?_)
    · replace h := it_f hc h
      refine Ak_keep [true] ?_
      exact t_M_move_J78 hO h
    · replace h := it_t hc h
      refine Ak_aload_n 66 0 (d_M_move 35 65 (.aload_n 0) 1 rfl) rfl rfl rfl ?_
      refine Ak_aload_n 67 0 (d_M_move 36 66 (.aload_n 0) 1 rfl) rfl rfl rfl ?_
      refine Ak_getI 70 59 hO clX13 (by decide) (Or.inl rfl) lkF_M_192 (d_M_move 37 67 (.getfield 192) 3 rfl) rfl ?_
      refine Ak_iload_n 71 1 (d_M_move 38 70 (.iload_n 1) 1 rfl) rfl rfl rfl ?_
      refine Ak_iload_n 72 2 (d_M_move 39 71 (.iload_n 2) 1 rfl) rfl rfl rfl ?_
      obtain ⟨r14, V15, h16, h⟩ := bnd_some h
      refine Ak_cV1 75 6 (c_M_isLawful h16) rfl hO clX13 rfl mok_M_isLawful lkM_M_481 (d_M_move 40 72 (.invokevirtual 481) 3 rfl) rfl (by decide) (Nat.le_of_ble_eq_true rfl) ?_
      refine Ak_if_ne 92 78 (d_M_move 41 75 (.ifCond .ne 17) 3 rfl) rfl rfl (fun hc => ?_) (fun hc => ?_)
      · replace h := it_f hc h
        refine Ak_aload_n 93 0 (d_M_move 50 92 (.aload_n 0) 1 rfl) rfl rfl rfl ?_
        refine Ak_aload_n 94 0 (d_M_move 51 93 (.aload_n 0) 1 rfl) rfl rfl rfl ?_
        refine Ak_getI 97 59 hO clX13 (by decide) (Or.inl rfl) lkF_M_192 (d_M_move 52 94 (.getfield 192) 3 rfl) rfl ?_
        refine Ak_iload_n 98 1 (d_M_move 53 97 (.iload_n 1) 1 rfl) rfl rfl rfl ?_
        refine Ak_iload_n 99 2 (d_M_move 54 98 (.iload_n 2) 1 rfl) rfl rfl rfl ?_
        obtain ⟨r17, V18, h19, h⟩ := bnd_some h
        refine Ak_cV1 102 6 (c_M_leads h19) rfl hO clX13 rfl mok_M_leads lkM_M_484 (d_M_move 55 99 (.invokevirtual 484) 3 rfl) rfl (by decide) (Nat.le_of_ble_eq_true rfl) ?_
        refine Ak_istore 104 (d_M_move 56 102 (.istore 4) 2 rfl) rfl (by decide) ?_
        refine Ak_aload_n 105 0 (d_M_move 57 104 (.aload_n 0) 1 rfl) rfl rfl rfl ?_
        refine Ak_getI 108 59 hO clX13 (by decide) (Or.inl rfl) lkF_M_192 (d_M_move 58 105 (.getfield 192) 3 rfl) rfl ?_
        refine Ak_iconst 109 (d_M_move 59 108 (.iconst 2) 1 rfl) rfl (rk rfl) ?_
        refine Ak_irem 110 (d_M_move 60 109 (.irem) 1 rfl) rfl (by decide) ?_
        refine Ak_istore 112 (d_M_move 61 110 (.istore 5) 2 rfl) rfl (by decide) ?_
        refine Ak_aload_n 113 0 (d_M_move 62 112 (.aload_n 0) 1 rfl) rfl rfl rfl ?_
        refine Ak_iload 115 (d_M_move 63 113 (.iload 4) 2 rfl) rfl rfl ?_
        refine Ak_iconst 116 (d_M_move 64 115 (.iconst (-1)) 1 rfl) rfl (rk rfl) ?_
        refine Ak_icmp_ne 124 119 (d_M_move 65 116 (.if_icmp .ne 8) 3 rfl) rfl rfl (fun hc => ?_) (fun hc => ?_)
        · replace h := it_f hc h
          refine Ak_iload 126 (d_M_move 68 124 (.iload 4) 2 rfl) rfl rfl ?_
          refine Ak_bipush 128 (d_M_move 69 126 (.bipush (-2)) 2 rfl) rfl (bp_ok rfl) (rk rfl) ?_
          refine Ak_icmp_ne 138 131 (d_M_move 70 128 (.if_icmp .ne 10) 3 rfl) rfl rfl (fun hc => ?_) (fun hc => ?_)
          · replace h := it_f hc h
            refine Ak_iconst 139 (d_M_move 75 138 (.iconst (-1)) 1 rfl) rfl (rk rfl) ?_
            refine Ak_keep [true, true, true] ?_
            exact t_M_move_J139 hO h
          · replace h := it_t hc h
            refine Ak_iconst 132 (d_M_move 71 131 (.iconst 1) 1 rfl) rfl (rk rfl) ?_
            refine Ak_iload 134 (d_M_move 72 132 (.iload 5) 2 rfl) rfl rfl ?_
            refine Ak_isub 135 (d_M_move 73 134 (.isub) 1 rfl) rfl ?_
            refine Ak_goto 139 (d_M_move 74 135 (.goto 4) 3 rfl) rfl ?_
            refine Ak_keep [true, true, true] ?_
            exact t_M_move_J139 hO h
        · replace h := it_t hc h
          refine Ak_iload 121 (d_M_move 66 119 (.iload 5) 2 rfl) rfl rfl ?_
          refine Ak_goto 139 (d_M_move 67 121 (.goto 18) 3 rfl) rfl ?_
          refine Ak_keep [true, true, true] ?_
          exact t_M_move_J139 hO h
      · replace h := it_t hc h
        refine Ak_keep [true] ?_
        exact t_M_move_J78 hO h
theorem c_M_move {S : ASh} {V : ASt} {x0 x1 x2 : Int} {r : Int} {V' : ASt} (h : f_M_move S V x0 x1 x2 = some (r, V')) : ACt m_M_move 10 0 0 [(aR x0), (aI x1), (aI x2)] S V (some (aI r)) S V' := by
  unfold f_M_move at h
  obtain ⟨hO, h⟩ := gd_some h
  refine ACt_of (plainFor_of_name rfl) rfl (Nat.le_of_ble_eq_true rfl) ?_
  show AWk m_M_move 10 0 0 0 0 0 [some (aR x0), some (aI x1), some (aI x2)] [] S V (some (aI r)) S V'
  refine Ak_aload_n 1 0 (d_M_move 0 0 (.aload_n 0) 1 rfl) rfl rfl rfl ?_
  obtain ⟨r20, V21, h22, h⟩ := bnd_some h
  refine Ak_cV1 4 2 (c_M_hasFields h22) rfl hO clX13 rfl mok_M_hasFields lkM_M_448 (d_M_move 1 1 (.invokevirtual 448) 3 rfl) rfl (by decide) (Nat.le_of_ble_eq_true rfl) ?_
  refine Ak_if_eq 47 7 (d_M_move 2 4 (.ifCond .eq 43) 3 rfl) rfl rfl (fun hc => ?_) (fun hc => ?_)
  · replace h := it_t hc h
    refine Ak_iconst 48 (d_M_move 25 47 (.iconst 0) 1 rfl) rfl (rk rfl) ?_
    refine Ak_keep [true, true, true] ?_
    exact t_M_move_J48 hO h
  · replace h := it_f hc h
    refine Ak_iload_n 8 1 (d_M_move 3 7 (.iload_n 1) 1 rfl) rfl rfl rfl ?_
    refine Ak_iconst 9 (d_M_move 4 8 (.iconst 0) 1 rfl) rfl (rk rfl) ?_
    refine Ak_aload_n 10 0 (d_M_move 5 9 (.aload_n 0) 1 rfl) rfl rfl rfl ?_
    refine Ak_getF 13 14 hO clX13 (by decide) rfl lkF_M_54 (d_M_move 6 10 (.getfield 54) 3 rfl) rfl ?_
    refine Ak_aload_n 14 0 (d_M_move 7 13 (.aload_n 0) 1 rfl) rfl rfl rfl ?_
    refine Ak_getI 17 12 hO clX13 (by decide) (Or.inl rfl) lkF_M_48 (d_M_move 8 14 (.getfield 48) 3 rfl) rfl ?_
    obtain ⟨ha23, h⟩ := gd_some h
    refine Ak_iaload 18 ha23 (d_M_move 9 17 (.iaload) 1 rfl) rfl ?_
    refine Ak_iconst 19 (d_M_move 10 18 (.iconst 1) 1 rfl) rfl (rk rfl) ?_
    refine Ak_isub 20 (d_M_move 11 19 (.isub) 1 rfl) rfl ?_
    obtain ⟨r24, V25, h26, h⟩ := bnd_some h
    refine Ak_cS1 23 2 (c_M_is h26) rfl mok_M_is lkM_M_329 (d_M_move 12 20 (.invokestatic 329) 3 rfl) rfl (by decide) (Nat.le_of_ble_eq_true rfl) ?_
    refine Ak_if_eq 47 26 (d_M_move 13 23 (.ifCond .eq 24) 3 rfl) rfl rfl (fun hc => ?_) (fun hc => ?_)
    · replace h := it_t hc h
      refine Ak_iconst 48 (d_M_move 25 47 (.iconst 0) 1 rfl) rfl (rk rfl) ?_
      refine Ak_keep [true, true, true] ?_
      exact t_M_move_J48 hO h
    · replace h := it_f hc h
      refine Ak_iload_n 27 2 (d_M_move 14 26 (.iload_n 2) 1 rfl) rfl rfl rfl ?_
      refine Ak_iconst 28 (d_M_move 15 27 (.iconst 0) 1 rfl) rfl (rk rfl) ?_
      refine Ak_aload_n 29 0 (d_M_move 16 28 (.aload_n 0) 1 rfl) rfl rfl rfl ?_
      refine Ak_getF 32 13 hO clX13 (by decide) rfl lkF_M_51 (d_M_move 17 29 (.getfield 51) 3 rfl) rfl ?_
      refine Ak_aload_n 33 0 (d_M_move 18 32 (.aload_n 0) 1 rfl) rfl rfl rfl ?_
      refine Ak_getI 36 12 hO clX13 (by decide) (Or.inl rfl) lkF_M_48 (d_M_move 19 33 (.getfield 48) 3 rfl) rfl ?_
      obtain ⟨ha27, h⟩ := gd_some h
      refine Ak_iaload 37 ha27 (d_M_move 20 36 (.iaload) 1 rfl) rfl ?_
      obtain ⟨r28, V29, h30, h⟩ := bnd_some h
      refine Ak_cS1 40 2 (c_M_is h30) rfl mok_M_is lkM_M_329 (d_M_move 21 37 (.invokestatic 329) 3 rfl) rfl (by decide) (Nat.le_of_ble_eq_true rfl) ?_
      refine Ak_if_eq 47 43 (d_M_move 22 40 (.ifCond .eq 7) 3 rfl) rfl rfl (fun hc => ?_) (fun hc => ?_)
      · replace h := it_t hc h
        refine Ak_iconst 48 (d_M_move 25 47 (.iconst 0) 1 rfl) rfl (rk rfl) ?_
        refine Ak_keep [true, true, true] ?_
        exact t_M_move_J48 hO h
      · replace h := it_f hc h
        refine Ak_iconst 44 (d_M_move 23 43 (.iconst 1) 1 rfl) rfl (rk rfl) ?_
        refine Ak_goto 48 (d_M_move 24 44 (.goto 4) 3 rfl) rfl ?_
        refine Ak_keep [true, true, true] ?_
        exact t_M_move_J48 hO h
theorem c_M_anew {S : ASh} {V : ASt} {x0 : Int} {r : Int} {V' : ASt} (h : f_M_anew S V x0 = some (r, V')) : ACt m_M_anew 5 0 0 [(aR x0)] S V (some (aI r)) S V' := by
  unfold f_M_anew at h
  obtain ⟨hO, h⟩ := gd_some h
  refine ACt_of (plainFor_of_name rfl) rfl (Nat.le_of_ble_eq_true rfl) ?_
  show AWk m_M_anew 5 0 0 0 0 0 [some (aR x0)] [] S V (some (aI r)) S V'
  refine Ak_aload_n 1 0 (d_M_anew 0 0 (.aload_n 0) 1 rfl) rfl rfl rfl ?_
  obtain ⟨r1, V2, h3, h⟩ := bnd_some h
  refine Ak_cV1 4 4 (c_M_anews h3) rfl hO clX13 rfl mok_M_anews lkM_M_442 (d_M_anew 1 1 (.invokevirtual 442) 3 rfl) rfl (by decide) (Nat.le_of_ble_eq_true rfl) ?_
  cases h
  exact Ak_iret rfl (d_M_anew 2 4 (.ireturn) 1 rfl)
theorem c_M_hat {S : ASh} {V : ASt} {x0 : Int} {r : Int} {V' : ASt} (h : f_M_hat S V x0 = some (r, V')) : ACt m_M_hat 10 0 0 [(aR x0)] S V (some (aI r)) S V' := by
  unfold f_M_hat at h
  obtain ⟨hO, h⟩ := gd_some h
  refine ACt_of (plainFor_of_name rfl) rfl (Nat.le_of_ble_eq_true rfl) ?_
  show AWk m_M_hat 10 0 0 0 0 0 [some (aR x0)] [] S V (some (aI r)) S V'
  refine Ak_aload_n 1 0 (d_M_hat 0 0 (.aload_n 0) 1 rfl) rfl rfl rfl ?_
  obtain ⟨r1, V2, h3, h⟩ := bnd_some h
  refine Ak_cV1 4 2 (c_M_hasFields h3) rfl hO clX13 rfl mok_M_hasFields lkM_M_448 (d_M_hat 1 1 (.invokevirtual 448) 3 rfl) rfl (by decide) (Nat.le_of_ble_eq_true rfl) ?_
  refine Ak_if_ne 9 7 (d_M_hat 2 4 (.ifCond .ne 5) 3 rfl) rfl rfl (fun hc => ?_) (fun hc => ?_)
  · replace h := it_f hc h
    refine Ak_aload_n 10 0 (d_M_hat 5 9 (.aload_n 0) 1 rfl) rfl rfl rfl ?_
    refine Ak_aload_n 11 0 (d_M_hat 6 10 (.aload_n 0) 1 rfl) rfl rfl rfl ?_
    refine Ak_getI 14 59 hO clX13 (by decide) (Or.inl rfl) lkF_M_192 (d_M_hat 7 11 (.getfield 192) 3 rfl) rfl ?_
    obtain ⟨r4, V5, h6, h⟩ := bnd_some h
    refine Ak_cV1 17 9 (c_M_wonBy h6) rfl hO clX13 rfl mok_M_wonBy lkM_M_518 (d_M_hat 8 14 (.invokevirtual 518) 3 rfl) rfl (by decide) (Nat.le_of_ble_eq_true rfl) ?_
    refine Ak_istore_n 18 1 (d_M_hat 9 17 (.istore_n 1) 1 rfl) rfl rfl (by decide) ?_
    refine Ak_iload_n 19 1 (d_M_hat 10 18 (.iload_n 1) 1 rfl) rfl rfl rfl ?_
    refine Ak_iconst 20 (d_M_hat 11 19 (.iconst (-1)) 1 rfl) rfl (rk rfl) ?_
    refine Ak_icmp_eq 34 23 (d_M_hat 12 20 (.if_icmp .eq 14) 3 rfl) rfl rfl (fun hc => ?_) (fun hc => ?_)
    · replace h := it_t hc h
      refine Ak_aload_n 35 0 (d_M_hat 20 34 (.aload_n 0) 1 rfl) rfl rfl rfl ?_
      refine Ak_aload_n 36 0 (d_M_hat 21 35 (.aload_n 0) 1 rfl) rfl rfl rfl ?_
      refine Ak_getI 39 59 hO clX13 (by decide) (Or.inl rfl) lkF_M_192 (d_M_hat 22 36 (.getfield 192) 3 rfl) rfl ?_
      obtain ⟨r7, V8, h9, h⟩ := bnd_some h
      refine Ak_cV0 42 8 (c_M_lays h9) rfl hO clX13 rfl mok_M_lays lkM_M_496 (d_M_hat 23 39 (.invokevirtual 496) 3 rfl) rfl (by decide) (Nat.le_of_ble_eq_true rfl) ?_
      refine Ak_aload_n 43 0 (d_M_hat 24 42 (.aload_n 0) 1 rfl) rfl rfl rfl ?_
      obtain ⟨r10, V11, h12, h⟩ := bnd_some h
      refine Ak_cV0 46 3 (c_M_worths h12) rfl hO clX13 rfl mok_M_worths lkM_M_506 (d_M_hat 25 43 (.invokevirtual 506) 3 rfl) rfl (by decide) (Nat.le_of_ble_eq_true rfl) ?_
      refine Ak_aload_n 47 0 (d_M_hat 26 46 (.aload_n 0) 1 rfl) rfl rfl rfl ?_
      refine Ak_getF 50 57 hO clX13 (by decide) rfl lkF_M_186 (d_M_hat 27 47 (.getfield 186) 3 rfl) rfl ?_
      refine Ak_aload_n 51 0 (d_M_hat 28 50 (.aload_n 0) 1 rfl) rfl rfl rfl ?_
      refine Ak_getI 54 59 hO clX13 (by decide) (Or.inl rfl) lkF_M_192 (d_M_hat 29 51 (.getfield 192) 3 rfl) rfl ?_
      obtain ⟨ha13, h⟩ := gd_some h
      refine Ak_iaload 55 ha13 (d_M_hat 30 54 (.iaload) 1 rfl) rfl ?_
      refine Ak_istore_n 56 2 (d_M_hat 31 55 (.istore_n 2) 1 rfl) rfl rfl (by decide) ?_
      refine Ak_iload_n 57 2 (d_M_hat 32 56 (.iload_n 2) 1 rfl) rfl rfl rfl ?_
      refine Ak_iconst 58 (d_M_hat 33 57 (.iconst 1) 1 rfl) rfl (rk rfl) ?_
      refine Ak_icmp_ne 70 61 (d_M_hat 34 58 (.if_icmp .ne 12) 3 rfl) rfl rfl (fun hc => ?_) (fun hc => ?_)
      · replace h := it_f hc h
        refine Ak_iload_n 71 2 (d_M_hat 40 70 (.iload_n 2) 1 rfl) rfl rfl rfl ?_
        refine Ak_iconst 72 (d_M_hat 41 71 (.iconst (-1)) 1 rfl) rfl (rk rfl) ?_
        refine Ak_icmp_ne 86 75 (d_M_hat 42 72 (.if_icmp .ne 14) 3 rfl) rfl rfl (fun hc => ?_) (fun hc => ?_)
        · replace h := it_f hc h
          refine Ak_iconst 87 (d_M_hat 50 86 (.iconst (-1)) 1 rfl) rfl (rk rfl) ?_
          cases h
          exact Ak_iret rfl (d_M_hat 51 87 (.ireturn) 1 rfl)
        · replace h := it_t hc h
          refine Ak_iconst 76 (d_M_hat 43 75 (.iconst 1) 1 rfl) rfl (rk rfl) ?_
          refine Ak_aload_n 77 0 (d_M_hat 44 76 (.aload_n 0) 1 rfl) rfl rfl rfl ?_
          refine Ak_getI 80 59 hO clX13 (by decide) (Or.inl rfl) lkF_M_192 (d_M_hat 45 77 (.getfield 192) 3 rfl) rfl ?_
          refine Ak_iconst 81 (d_M_hat 46 80 (.iconst 2) 1 rfl) rfl (rk rfl) ?_
          refine Ak_irem 82 (d_M_hat 47 81 (.irem) 1 rfl) rfl (by decide) ?_
          refine Ak_isub 83 (d_M_hat 48 82 (.isub) 1 rfl) rfl ?_
          refine Ak_goto 87 (d_M_hat 49 83 (.goto 4) 3 rfl) rfl ?_
          cases h
          exact Ak_iret rfl (d_M_hat 51 87 (.ireturn) 1 rfl)
      · replace h := it_t hc h
        refine Ak_aload_n 62 0 (d_M_hat 35 61 (.aload_n 0) 1 rfl) rfl rfl rfl ?_
        refine Ak_getI 65 59 hO clX13 (by decide) (Or.inl rfl) lkF_M_192 (d_M_hat 36 62 (.getfield 192) 3 rfl) rfl ?_
        refine Ak_iconst 66 (d_M_hat 37 65 (.iconst 2) 1 rfl) rfl (rk rfl) ?_
        refine Ak_irem 67 (d_M_hat 38 66 (.irem) 1 rfl) rfl (by decide) ?_
        refine Ak_goto 87 (d_M_hat 39 67 (.goto 20) 3 rfl) rfl ?_
        cases h
        exact Ak_iret rfl (d_M_hat 51 87 (.ireturn) 1 rfl)
    · replace h := it_f hc h
      refine Ak_iload_n 24 1 (d_M_hat 13 23 (.iload_n 1) 1 rfl) rfl rfl rfl ?_
      refine Ak_iconst 25 (d_M_hat 14 24 (.iconst 2) 1 rfl) rfl (rk rfl) ?_
      refine Ak_icmp_ne 32 28 (d_M_hat 15 25 (.if_icmp .ne 7) 3 rfl) rfl rfl (fun hc => ?_) (fun hc => ?_)
      · replace h := it_f hc h
        refine Ak_iload_n 33 1 (d_M_hat 18 32 (.iload_n 1) 1 rfl) rfl rfl rfl ?_
        cases h
        exact Ak_iret rfl (d_M_hat 19 33 (.ireturn) 1 rfl)
      · replace h := it_t hc h
        refine Ak_iconst 29 (d_M_hat 16 28 (.iconst (-1)) 1 rfl) rfl (rk rfl) ?_
        refine Ak_goto 33 (d_M_hat 17 29 (.goto 4) 3 rfl) rfl ?_
        cases h
        exact Ak_iret rfl (d_M_hat 19 33 (.ireturn) 1 rfl)
  · replace h := it_t hc h
    refine Ak_iconst 8 (d_M_hat 3 7 (.iconst (-1)) 1 rfl) rfl (rk rfl) ?_
    cases h
    exact Ak_iret rfl (d_M_hat 4 8 (.ireturn) 1 rfl)
theorem t_M_longest_J173 {S : ASh} {K53 : ASt → Int → Option (Int × ASt)} {K61 : ASt → Int → Int → Option (Int × ASt)} {K101 : ASt → Int → Int → Option (Int × ASt)} {V : ASt} {x0 x1 x2 x3 x4 x5 x6 s0 : Int} {r : Int} {V' : ASt} (hO : isO S x0 13 = true) (hK53 : ∀ {V : ASt} {y2 : Int} {r : Int} {V' : ASt}, K53 V y2 = some (r, V') → AWk m_M_longest 9 0 0 0 0 53 [some (aR x0), some (aI x1), some (aI y2)] [] S V (some (aI r)) S V') (hK61 : ∀ {V : ASt} {y2 y3 : Int} {r : Int} {V' : ASt}, K61 V y2 y3 = some (r, V') → AWk m_M_longest 9 0 0 0 0 61 [some (aR x0), some (aI x1), some (aI y2), some (aI y3)] [] S V (some (aI r)) S V') (hK101 : ∀ {V : ASt} {y5 y6 : Int} {r : Int} {V' : ASt}, K101 V y5 y6 = some (r, V') → AWk m_M_longest 9 0 0 0 0 101 [some (aR x0), some (aI x1), some (aI x2), some (aI x3), some (aI x4), some (aI y5), some (aI y6)] [] S V (some (aI r)) S V') (h : b_M_longest_J173 S K53 K61 K101 V x0 x1 x2 x3 x4 x5 x6 s0 = some (r, V')) : AWk m_M_longest 9 0 0 0 0 173 [some (aR x0), some (aI x1), some (aI x2), some (aI x3), some (aI x4), some (aI x5), some (aI x6)] [(aI s0)] S V (some (aI r)) S V' := by
  unfold b_M_longest_J173 at h
  refine Ak_istore 175 (d_M_longest 99 173 (.istore 7) 2 rfl) rfl (by decide) ?_
  refine Ak_iload 177 (d_M_longest 100 175 (.iload 7) 2 rfl) rfl rfl ?_
  refine Ak_iconst 178 (d_M_longest 101 177 (.iconst (-1)) 1 rfl) rfl (rk rfl) ?_
  refine Ak_icmp_ne 185 181 (d_M_longest 102 178 (.if_icmp .ne 7) 3 rfl) rfl rfl (fun hc => ?_) (fun hc => ?_)
  · replace h := it_f hc h
    refine Ak_iload 187 (d_M_longest 105 185 (.iload 7) 2 rfl) rfl rfl ?_
    refine Ak_iload 189 (d_M_longest 106 187 (.iload 5) 2 rfl) rfl rfl ?_
    refine Ak_icmp_le 197 192 (d_M_longest 107 189 (.if_icmp .le 8) 3 rfl) rfl rfl (fun hc => ?_) (fun hc => ?_)
    · replace h := it_t hc h
      refine Ak_iload 199 (d_M_longest 110 197 (.iload 5) 2 rfl) rfl rfl ?_
      refine Ak_istore 201 (d_M_longest 111 199 (.istore 5) 2 rfl) rfl (by decide) ?_
      refine Ak_iinc 204 (d_M_longest 112 201 (.iinc 6 1) 3 rfl) rfl rfl (by decide) ?_
      refine Ak_goto 101 (d_M_longest 113 204 (.goto (-103)) 3 rfl) rfl ?_
      refine Ak_keep [true, true, true, true, true, true, true] ?_
      exact hK101 h
    · replace h := it_f hc h
      refine Ak_iload 194 (d_M_longest 108 192 (.iload 7) 2 rfl) rfl rfl ?_
      refine Ak_goto 199 (d_M_longest 109 194 (.goto 5) 3 rfl) rfl ?_
      refine Ak_istore 201 (d_M_longest 111 199 (.istore 5) 2 rfl) rfl (by decide) ?_
      refine Ak_iinc 204 (d_M_longest 112 201 (.iinc 6 1) 3 rfl) rfl rfl (by decide) ?_
      refine Ak_goto 101 (d_M_longest 113 204 (.goto (-103)) 3 rfl) rfl ?_
      refine Ak_keep [true, true, true, true, true, true, true] ?_
      exact hK101 h
  · replace h := it_t hc h
    refine Ak_iconst 182 (d_M_longest 103 181 (.iconst (-1)) 1 rfl) rfl (rk rfl) ?_
    refine Ak_goto 199 (d_M_longest 104 182 (.goto 17) 3 rfl) rfl ?_
    refine Ak_istore 201 (d_M_longest 111 199 (.istore 5) 2 rfl) rfl (by decide) ?_
    refine Ak_iinc 204 (d_M_longest 112 201 (.iinc 6 1) 3 rfl) rfl rfl (by decide) ?_
    refine Ak_goto 101 (d_M_longest 113 204 (.goto (-103)) 3 rfl) rfl ?_
    refine Ak_keep [true, true, true, true, true, true, true] ?_
    exact hK101 h
theorem t_M_longest_J207 {S : ASh} {K53 : ASt → Int → Option (Int × ASt)} {K61 : ASt → Int → Int → Option (Int × ASt)} {V : ASt} {x0 x1 x2 x3 x4 x5 : Int} {r : Int} {V' : ASt} (hO : isO S x0 13 = true) (hK53 : ∀ {V : ASt} {y2 : Int} {r : Int} {V' : ASt}, K53 V y2 = some (r, V') → AWk m_M_longest 9 0 0 0 0 53 [some (aR x0), some (aI x1), some (aI y2)] [] S V (some (aI r)) S V') (hK61 : ∀ {V : ASt} {y2 y3 : Int} {r : Int} {V' : ASt}, K61 V y2 y3 = some (r, V') → AWk m_M_longest 9 0 0 0 0 61 [some (aR x0), some (aI x1), some (aI y2), some (aI y3)] [] S V (some (aI r)) S V') (h : b_M_longest_J207 S K53 K61 V x0 x1 x2 x3 x4 x5 = some (r, V')) : AWk m_M_longest 9 0 0 0 0 207 [some (aR x0), some (aI x1), some (aI x2), some (aI x3), some (aI x4), some (aI x5)] [] S V (some (aI r)) S V' := by
  unfold b_M_longest_J207 at h
  refine Ak_iload 209 (d_M_longest 114 207 (.iload 5) 2 rfl) rfl rfl ?_
  refine Ak_iconst 210 (d_M_longest 115 209 (.iconst (-1)) 1 rfl) rfl (rk rfl) ?_
  refine Ak_icmp_ne 216 213 (d_M_longest 116 210 (.if_icmp .ne 6) 3 rfl) rfl rfl (fun hc => ?_) (fun hc => ?_)
  · replace h := it_f hc h
    refine Ak_aload_n 217 0 (d_M_longest 118 216 (.aload_n 0) 1 rfl) rfl rfl rfl ?_
    refine Ak_getF 220 62 hO clX13 (by decide) rfl lkF_M_201 (d_M_longest 119 217 (.getfield 201) 3 rfl) rfl ?_
    refine Ak_iload 222 (d_M_longest 120 220 (.iload 4) 2 rfl) rfl rfl ?_
    refine Ak_iload 224 (d_M_longest 121 222 (.iload 5) 2 rfl) rfl rfl ?_
    obtain ⟨ha1, h⟩ := gd_some h
    refine Ak_iastore 225 ha1 (d_M_longest 122 224 (.iastore) 1 rfl) rfl (fun V2 hV2 => ?_)
    replace h := wV_some h V2 hV2
    refine Ak_iconst 226 (d_M_longest 123 225 (.iconst 1) 1 rfl) rfl (rk rfl) ?_
    refine Ak_istore_n 227 2 (d_M_longest 124 226 (.istore_n 2) 1 rfl) rfl rfl (by decide) ?_
    refine Ak_iinc 230 (d_M_longest 125 227 (.iinc 3 1) 3 rfl) rfl rfl (by decide) ?_
    refine Ak_goto 61 (d_M_longest 126 230 (.goto (-169)) 3 rfl) rfl ?_
    refine Ak_keep [true, true, true, true] ?_
    exact hK61 h
  · replace h := it_t hc h
    refine Ak_goto 227 (d_M_longest 117 213 (.goto 14) 3 rfl) rfl ?_
    refine Ak_iinc 230 (d_M_longest 125 227 (.iinc 3 1) 3 rfl) rfl rfl (by decide) ?_
    refine Ak_goto 61 (d_M_longest 126 230 (.goto (-169)) 3 rfl) rfl ?_
    refine Ak_keep [true, true, true, true] ?_
    exact hK61 h
theorem t_M_longest_L101 {S : ASh} {K53 : ASt → Int → Option (Int × ASt)} {K61 : ASt → Int → Int → Option (Int × ASt)} {x0 x1 x2 x3 x4 : Int} (hO : isO S x0 13 = true) (hK53 : ∀ {V : ASt} {y2 : Int} {r : Int} {V' : ASt}, K53 V y2 = some (r, V') → AWk m_M_longest 9 0 0 0 0 53 [some (aR x0), some (aI x1), some (aI y2)] [] S V (some (aI r)) S V') (hK61 : ∀ {V : ASt} {y2 y3 : Int} {r : Int} {V' : ASt}, K61 V y2 y3 = some (r, V') → AWk m_M_longest 9 0 0 0 0 61 [some (aR x0), some (aI x1), some (aI y2), some (aI y3)] [] S V (some (aI r)) S V') : ∀ (n : Nat) (V : ASt) (x5 x6 : Int) (r : Int) (V' : ASt), b_M_longest_L101 S K53 K61 x0 x1 x2 x3 x4 n V x5 x6 = some (r, V') → AWk m_M_longest 9 0 0 0 0 101 [some (aR x0), some (aI x1), some (aI x2), some (aI x3), some (aI x4), some (aI x5), some (aI x6)] [] S V (some (aI r)) S V' := by
  intro n
  induction n with
  | zero => intro V x5 x6 r V' h; cases h
  | succ n ih =>
    intro V x5 x6 r V' h
    replace ih : ∀ {V : ASt} {x5 x6 : Int} {r : Int} {V' : ASt}, b_M_longest_L101 S K53 K61 x0 x1 x2 x3 x4 n V x5 x6 = some (r, V') → AWk m_M_longest 9 0 0 0 0 101 [some (aR x0), some (aI x1), some (aI x2), some (aI x3), some (aI x4), some (aI x5), some (aI x6)] [] S V (some (aI r)) S V' := fun h => ih _ _ _ _ _ h
    rw [b_M_longest_L101] at h
    refine Ak_iload 103 (d_M_longest 59 101 (.iload 6) 2 rfl) rfl rfl ?_
    refine Ak_bipush 105 (d_M_longest 60 103 (.bipush 20) 2 rfl) rfl (bp_ok rfl) (rk rfl) ?_
    refine Ak_iload 107 (d_M_longest 61 105 (.iload 4) 2 rfl) rfl rfl ?_
    refine Ak_imul 108 (d_M_longest 62 107 (.imul) 1 rfl) rfl ?_
    refine Ak_aload_n 109 0 (d_M_longest 63 108 (.aload_n 0) 1 rfl) rfl rfl rfl ?_
    refine Ak_getF 112 51 hO clX13 (by decide) rfl lkF_M_168 (d_M_longest 64 109 (.getfield 168) 3 rfl) rfl ?_
    refine Ak_iload 114 (d_M_longest 65 112 (.iload 4) 2 rfl) rfl rfl ?_
    obtain ⟨ha3, h⟩ := gd_some h
    refine Ak_iaload 115 ha3 (d_M_longest 66 114 (.iaload) 1 rfl) rfl ?_
    refine Ak_iadd 116 (d_M_longest 67 115 (.iadd) 1 rfl) rfl ?_
    refine Ak_icmp_ge 207 119 (d_M_longest 68 116 (.if_icmp .ge 91) 3 rfl) rfl rfl (fun hc => ?_) (fun hc => ?_)
    · replace h := it_t hc h
      refine Ak_keep [true, true, true, true, true, true] ?_
      exact t_M_longest_J207 hO (fun h => hK53 h) (fun h => hK61 h) h
    · replace h := it_f hc h
      refine Ak_iload 121 (d_M_longest 69 119 (.iload 5) 2 rfl) rfl rfl ?_
      refine Ak_iconst 122 (d_M_longest 70 121 (.iconst (-1)) 1 rfl) rfl (rk rfl) ?_
      refine Ak_icmp_eq 207 125 (d_M_longest 71 122 (.if_icmp .eq 85) 3 rfl) rfl rfl (fun hc => ?_) (fun hc => ?_)
      · replace h := it_t hc h
        refine Ak_keep [true, true, true, true, true, true] ?_
        exact t_M_longest_J207 hO (fun h => hK53 h) (fun h => hK61 h) h
      · replace h := it_f hc h
        refine Ak_aload_n 126 0 (d_M_longest 72 125 (.aload_n 0) 1 rfl) rfl rfl rfl ?_
        refine Ak_getF 129 53 hO clX13 (by decide) rfl lkF_M_174 (d_M_longest 73 126 (.getfield 174) 3 rfl) rfl ?_
        refine Ak_iload 131 (d_M_longest 74 129 (.iload 6) 2 rfl) rfl rfl ?_
        obtain ⟨ha4, h⟩ := gd_some h
        refine Ak_iaload 132 ha4 (d_M_longest 75 131 (.iaload) 1 rfl) rfl ?_
        refine Ak_if_ge 139 135 (d_M_longest 76 132 (.ifCond .ge 7) 3 rfl) rfl rfl (fun hc => ?_) (fun hc => ?_)
        · replace h := it_t hc h
          refine Ak_aload_n 140 0 (d_M_longest 79 139 (.aload_n 0) 1 rfl) rfl rfl rfl ?_
          refine Ak_getF 143 62 hO clX13 (by decide) rfl lkF_M_201 (d_M_longest 80 140 (.getfield 201) 3 rfl) rfl ?_
          refine Ak_aload_n 144 0 (d_M_longest 81 143 (.aload_n 0) 1 rfl) rfl rfl rfl ?_
          refine Ak_getF 147 53 hO clX13 (by decide) rfl lkF_M_174 (d_M_longest 82 144 (.getfield 174) 3 rfl) rfl ?_
          refine Ak_iload 149 (d_M_longest 83 147 (.iload 6) 2 rfl) rfl rfl ?_
          refine Ak_iaload 150 ha4 (d_M_longest 84 149 (.iaload) 1 rfl) rfl ?_
          obtain ⟨ha5, h⟩ := gd_some h
          refine Ak_iaload 151 ha5 (d_M_longest 85 150 (.iaload) 1 rfl) rfl ?_
          refine Ak_iconst 152 (d_M_longest 86 151 (.iconst (-1)) 1 rfl) rfl (rk rfl) ?_
          refine Ak_icmp_ne 159 155 (d_M_longest 87 152 (.if_icmp .ne 7) 3 rfl) rfl rfl (fun hc => ?_) (fun hc => ?_)
          · replace h := it_f hc h
            refine Ak_aload_n 160 0 (d_M_longest 90 159 (.aload_n 0) 1 rfl) rfl rfl rfl ?_
            refine Ak_getF 163 62 hO clX13 (by decide) rfl lkF_M_201 (d_M_longest 91 160 (.getfield 201) 3 rfl) rfl ?_
            refine Ak_aload_n 164 0 (d_M_longest 92 163 (.aload_n 0) 1 rfl) rfl rfl rfl ?_
            refine Ak_getF 167 53 hO clX13 (by decide) rfl lkF_M_174 (d_M_longest 93 164 (.getfield 174) 3 rfl) rfl ?_
            refine Ak_iload 169 (d_M_longest 94 167 (.iload 6) 2 rfl) rfl rfl ?_
            refine Ak_iaload 170 ha4 (d_M_longest 95 169 (.iaload) 1 rfl) rfl ?_
            refine Ak_iaload 171 ha5 (d_M_longest 96 170 (.iaload) 1 rfl) rfl ?_
            refine Ak_iconst 172 (d_M_longest 97 171 (.iconst 1) 1 rfl) rfl (rk rfl) ?_
            refine Ak_iadd 173 (d_M_longest 98 172 (.iadd) 1 rfl) rfl ?_
            refine Ak_keep [true, true, true, true, true, true, true] ?_
            exact t_M_longest_J173 hO (fun h => hK53 h) (fun h => hK61 h) (fun h => ih h) h
          · replace h := it_t hc h
            refine Ak_iconst 156 (d_M_longest 88 155 (.iconst (-1)) 1 rfl) rfl (rk rfl) ?_
            refine Ak_goto 173 (d_M_longest 89 156 (.goto 17) 3 rfl) rfl ?_
            refine Ak_keep [true, true, true, true, true, true, true] ?_
            exact t_M_longest_J173 hO (fun h => hK53 h) (fun h => hK61 h) (fun h => ih h) h
        · replace h := it_f hc h
          refine Ak_iconst 136 (d_M_longest 77 135 (.iconst 1) 1 rfl) rfl (rk rfl) ?_
          refine Ak_goto 173 (d_M_longest 78 136 (.goto 37) 3 rfl) rfl ?_
          refine Ak_keep [true, true, true, true, true, true, true] ?_
          exact t_M_longest_J173 hO (fun h => hK53 h) (fun h => hK61 h) (fun h => ih h) h
theorem t_M_longest_L61 {S : ASh} {K53 : ASt → Int → Option (Int × ASt)} {x0 x1 : Int} (hO : isO S x0 13 = true) (hK53 : ∀ {V : ASt} {y2 : Int} {r : Int} {V' : ASt}, K53 V y2 = some (r, V') → AWk m_M_longest 9 0 0 0 0 53 [some (aR x0), some (aI x1), some (aI y2)] [] S V (some (aI r)) S V') : ∀ (n : Nat) (V : ASt) (x2 x3 : Int) (r : Int) (V' : ASt), b_M_longest_L61 S K53 x0 x1 n V x2 x3 = some (r, V') → AWk m_M_longest 9 0 0 0 0 61 [some (aR x0), some (aI x1), some (aI x2), some (aI x3)] [] S V (some (aI r)) S V' := by
  intro n
  induction n with
  | zero => intro V x2 x3 r V' h; cases h
  | succ n ih =>
    intro V x2 x3 r V' h
    replace ih : ∀ {V : ASt} {x2 x3 : Int} {r : Int} {V' : ASt}, b_M_longest_L61 S K53 x0 x1 n V x2 x3 = some (r, V') → AWk m_M_longest 9 0 0 0 0 61 [some (aR x0), some (aI x1), some (aI x2), some (aI x3)] [] S V (some (aI r)) S V' := fun h => ih _ _ _ _ _ h
    rw [b_M_longest_L61] at h
    refine Ak_iload_n 62 3 (d_M_longest 37 61 (.iload_n 3) 1 rfl) rfl rfl rfl ?_
    refine Ak_aload_n 63 0 (d_M_longest 38 62 (.aload_n 0) 1 rfl) rfl rfl rfl ?_
    refine Ak_getI 66 56 hO clX13 (by decide) (Or.inl rfl) lkF_M_183 (d_M_longest 39 63 (.getfield 183) 3 rfl) rfl ?_
    refine Ak_icmp_ge 233 69 (d_M_longest 40 66 (.if_icmp .ge 167) 3 rfl) rfl rfl (fun hc => ?_) (fun hc => ?_)
    · replace h := it_t hc h
      refine Ak_goto 53 (d_M_longest 127 233 (.goto (-180)) 3 rfl) rfl ?_
      refine Ak_keep [true, true, true] ?_
      exact hK53 h
    · replace h := it_f hc h
      refine Ak_aload_n 70 0 (d_M_longest 41 69 (.aload_n 0) 1 rfl) rfl rfl rfl ?_
      refine Ak_getF 73 55 hO clX13 (by decide) rfl lkF_M_180 (d_M_longest 42 70 (.getfield 180) 3 rfl) rfl ?_
      refine Ak_iload_n 74 3 (d_M_longest 43 73 (.iload_n 3) 1 rfl) rfl rfl rfl ?_
      obtain ⟨ha6, h⟩ := gd_some h
      refine Ak_iaload 75 ha6 (d_M_longest 44 74 (.iaload) 1 rfl) rfl ?_
      refine Ak_istore 77 (d_M_longest 45 75 (.istore 4) 2 rfl) rfl (by decide) ?_
      refine Ak_aload_n 78 0 (d_M_longest 46 77 (.aload_n 0) 1 rfl) rfl rfl rfl ?_
      refine Ak_getF 81 62 hO clX13 (by decide) rfl lkF_M_201 (d_M_longest 47 78 (.getfield 201) 3 rfl) rfl ?_
      refine Ak_iload 83 (d_M_longest 48 81 (.iload 4) 2 rfl) rfl rfl ?_
      obtain ⟨ha7, h⟩ := gd_some h
      refine Ak_iaload 84 ha7 (d_M_longest 49 83 (.iaload) 1 rfl) rfl ?_
      refine Ak_iconst 85 (d_M_longest 50 84 (.iconst (-1)) 1 rfl) rfl (rk rfl) ?_
      refine Ak_icmp_eq 91 88 (d_M_longest 51 85 (.if_icmp .eq 6) 3 rfl) rfl rfl (fun hc => ?_) (fun hc => ?_)
      · replace h := it_t hc h
        refine Ak_iconst 92 (d_M_longest 53 91 (.iconst 0) 1 rfl) rfl (rk rfl) ?_
        refine Ak_istore 94 (d_M_longest 54 92 (.istore 5) 2 rfl) rfl (by decide) ?_
        refine Ak_bipush 96 (d_M_longest 55 94 (.bipush 20) 2 rfl) rfl (bp_ok rfl) (rk rfl) ?_
        refine Ak_iload 98 (d_M_longest 56 96 (.iload 4) 2 rfl) rfl rfl ?_
        refine Ak_imul 99 (d_M_longest 57 98 (.imul) 1 rfl) rfl ?_
        refine Ak_istore 101 (d_M_longest 58 99 (.istore 6) 2 rfl) rfl (by decide) ?_
        refine Ak_keep [true, true, true, true, true, true, true] ?_
        exact t_M_longest_L101 hO (fun h => hK53 h) (fun h => ih h) FU _ _ _ _ _ h
      · replace h := it_f hc h
        refine Ak_goto 227 (d_M_longest 52 88 (.goto 139) 3 rfl) rfl ?_
        refine Ak_iinc 230 (d_M_longest 125 227 (.iinc 3 1) 3 rfl) rfl rfl (by decide) ?_
        refine Ak_goto 61 (d_M_longest 126 230 (.goto (-169)) 3 rfl) rfl ?_
        refine Ak_keep [true, true, true, true] ?_
        exact ih h
theorem t_M_longest_L53 {S : ASh} {x0 x1 : Int} (hO : isO S x0 13 = true) : ∀ (n : Nat) (V : ASt) (x2 : Int) (r : Int) (V' : ASt), b_M_longest_L53 S x0 x1 n V x2 = some (r, V') → AWk m_M_longest 9 0 0 0 0 53 [some (aR x0), some (aI x1), some (aI x2)] [] S V (some (aI r)) S V' := by
  intro n
  induction n with
  | zero => intro V x2 r V' h; cases h
  | succ n ih =>
    intro V x2 r V' h
    replace ih : ∀ {V : ASt} {x2 : Int} {r : Int} {V' : ASt}, b_M_longest_L53 S x0 x1 n V x2 = some (r, V') → AWk m_M_longest 9 0 0 0 0 53 [some (aR x0), some (aI x1), some (aI x2)] [] S V (some (aI r)) S V' := fun h => ih _ _ _ _ h
    rw [b_M_longest_L53] at h
    refine Ak_iload_n 54 2 (d_M_longest 31 53 (.iload_n 2) 1 rfl) rfl rfl rfl ?_
    refine Ak_if_eq 236 57 (d_M_longest 32 54 (.ifCond .eq 182) 3 rfl) rfl rfl (fun hc => ?_) (fun hc => ?_)
    · replace h := it_t hc h
      refine Ak_aload_n 237 0 (d_M_longest 128 236 (.aload_n 0) 1 rfl) rfl rfl rfl ?_
      refine Ak_getF 240 62 hO clX13 (by decide) rfl lkF_M_201 (d_M_longest 129 237 (.getfield 201) 3 rfl) rfl ?_
      refine Ak_iload_n 241 1 (d_M_longest 130 240 (.iload_n 1) 1 rfl) rfl rfl rfl ?_
      obtain ⟨ha8, h⟩ := gd_some h
      refine Ak_iaload 242 ha8 (d_M_longest 131 241 (.iaload) 1 rfl) rfl ?_
      cases h
      exact Ak_iret rfl (d_M_longest 132 242 (.ireturn) 1 rfl)
    · replace h := it_f hc h
      refine Ak_iconst 58 (d_M_longest 33 57 (.iconst 0) 1 rfl) rfl (rk rfl) ?_
      refine Ak_istore_n 59 2 (d_M_longest 34 58 (.istore_n 2) 1 rfl) rfl rfl (by decide) ?_
      refine Ak_iconst 60 (d_M_longest 35 59 (.iconst 0) 1 rfl) rfl (rk rfl) ?_
      refine Ak_istore_n 61 3 (d_M_longest 36 60 (.istore_n 3) 1 rfl) rfl rfl (by decide) ?_
      refine Ak_keep [true, true, true, true] ?_
      exact t_M_longest_L61 hO (fun h => ih h) FU _ _ _ _ _ h
theorem t_M_longest_L25 {S : ASh} {x0 x1 : Int} (hO : isO S x0 13 = true) : ∀ (n : Nat) (V : ASt) (x2 : Int) (r : Int) (V' : ASt), b_M_longest_L25 S x0 x1 n V x2 = some (r, V') → AWk m_M_longest 9 0 0 0 0 25 [some (aR x0), some (aI x1), some (aI x2)] [] S V (some (aI r)) S V' := by
  intro n
  induction n with
  | zero => intro V x2 r V' h; cases h
  | succ n ih =>
    intro V x2 r V' h
    replace ih : ∀ {V : ASt} {x2 : Int} {r : Int} {V' : ASt}, b_M_longest_L25 S x0 x1 n V x2 = some (r, V') → AWk m_M_longest 9 0 0 0 0 25 [some (aR x0), some (aI x1), some (aI x2)] [] S V (some (aI r)) S V' := fun h => ih _ _ _ _ h
    rw [b_M_longest_L25] at h
    refine Ak_iload_n 26 2 (d_M_longest 15 25 (.iload_n 2) 1 rfl) rfl rfl rfl ?_
    refine Ak_aload_n 27 0 (d_M_longest 16 26 (.aload_n 0) 1 rfl) rfl rfl rfl ?_
    refine Ak_getI 30 56 hO clX13 (by decide) (Or.inl rfl) lkF_M_183 (d_M_longest 17 27 (.getfield 183) 3 rfl) rfl ?_
    refine Ak_icmp_ge 51 33 (d_M_longest 18 30 (.if_icmp .ge 21) 3 rfl) rfl rfl (fun hc => ?_) (fun hc => ?_)
    · replace h := it_t hc h
      refine Ak_iconst 52 (d_M_longest 29 51 (.iconst 1) 1 rfl) rfl (rk rfl) ?_
      refine Ak_istore_n 53 2 (d_M_longest 30 52 (.istore_n 2) 1 rfl) rfl rfl (by decide) ?_
      refine Ak_keep [true, true, true] ?_
      exact t_M_longest_L53 hO FU _ _ _ _ h
    · replace h := it_f hc h
      refine Ak_aload_n 34 0 (d_M_longest 19 33 (.aload_n 0) 1 rfl) rfl rfl rfl ?_
      refine Ak_getF 37 62 hO clX13 (by decide) rfl lkF_M_201 (d_M_longest 20 34 (.getfield 201) 3 rfl) rfl ?_
      refine Ak_aload_n 38 0 (d_M_longest 21 37 (.aload_n 0) 1 rfl) rfl rfl rfl ?_
      refine Ak_getF 41 55 hO clX13 (by decide) rfl lkF_M_180 (d_M_longest 22 38 (.getfield 180) 3 rfl) rfl ?_
      refine Ak_iload_n 42 2 (d_M_longest 23 41 (.iload_n 2) 1 rfl) rfl rfl rfl ?_
      obtain ⟨ha9, h⟩ := gd_some h
      refine Ak_iaload 43 ha9 (d_M_longest 24 42 (.iaload) 1 rfl) rfl ?_
      refine Ak_iconst 44 (d_M_longest 25 43 (.iconst (-1)) 1 rfl) rfl (rk rfl) ?_
      obtain ⟨ha10, h⟩ := gd_some h
      refine Ak_iastore 45 ha10 (d_M_longest 26 44 (.iastore) 1 rfl) rfl (fun V11 hV11 => ?_)
      replace h := wV_some h V11 hV11
      refine Ak_iinc 48 (d_M_longest 27 45 (.iinc 2 1) 3 rfl) rfl rfl (by decide) ?_
      refine Ak_goto 25 (d_M_longest 28 48 (.goto (-23)) 3 rfl) rfl ?_
      refine Ak_keep [true, true, true] ?_
      exact ih h
theorem c_M_longest {S : ASh} {V : ASt} {x0 : Int} {r : Int} {V' : ASt} (h : f_M_longest S V x0 = some (r, V')) : ACt m_M_longest 9 0 0 [(aR x0)] S V (some (aI r)) S V' := by
  unfold f_M_longest at h
  obtain ⟨hO, h⟩ := gd_some h
  refine ACt_of (plainFor_of_name rfl) rfl (Nat.le_of_ble_eq_true rfl) ?_
  show AWk m_M_longest 9 0 0 0 0 0 [some (aR x0)] [] S V (some (aI r)) S V'
  refine Ak_aload_n 1 0 (d_M_longest 0 0 (.aload_n 0) 1 rfl) rfl rfl rfl ?_
  obtain ⟨r12, V13, h14, h⟩ := bnd_some h
  refine Ak_cV1 4 2 (c_M_hasFields h14) rfl hO clX13 rfl mok_M_hasFields lkM_M_448 (d_M_longest 1 1 (.invokevirtual 448) 3 rfl) rfl (by decide) (Nat.le_of_ble_eq_true rfl) ?_
  refine Ak_if_ne 9 7 (d_M_longest 2 4 (.ifCond .ne 5) 3 rfl) rfl rfl (fun hc => ?_) (fun hc => ?_)
  · replace h := it_f hc h
    refine Ak_aload_n 10 0 (d_M_longest 5 9 (.aload_n 0) 1 rfl) rfl rfl rfl ?_
    refine Ak_aload_n 11 0 (d_M_longest 6 10 (.aload_n 0) 1 rfl) rfl rfl rfl ?_
    refine Ak_getI 14 48 hO clX13 (by decide) (Or.inl rfl) lkF_M_159 (d_M_longest 7 11 (.getfield 159) 3 rfl) rfl ?_
    obtain ⟨r15, V16, h17, h⟩ := bnd_some h
    refine Ak_cV1 17 3 (c_M_beginning h17) rfl hO clX13 rfl mok_M_beginning lkM_M_512 (d_M_longest 8 14 (.invokevirtual 512) 3 rfl) rfl (by decide) (Nat.le_of_ble_eq_true rfl) ?_
    refine Ak_istore_n 18 1 (d_M_longest 9 17 (.istore_n 1) 1 rfl) rfl rfl (by decide) ?_
    refine Ak_aload_n 19 0 (d_M_longest 10 18 (.aload_n 0) 1 rfl) rfl rfl rfl ?_
    refine Ak_iload_n 20 1 (d_M_longest 11 19 (.iload_n 1) 1 rfl) rfl rfl rfl ?_
    obtain ⟨r18, V19, h20, h⟩ := bnd_some h
    refine Ak_cV0 23 8 (c_M_lays h20) rfl hO clX13 rfl mok_M_lays lkM_M_496 (d_M_longest 12 20 (.invokevirtual 496) 3 rfl) rfl (by decide) (Nat.le_of_ble_eq_true rfl) ?_
    refine Ak_iconst 24 (d_M_longest 13 23 (.iconst 0) 1 rfl) rfl (rk rfl) ?_
    refine Ak_istore_n 25 2 (d_M_longest 14 24 (.istore_n 2) 1 rfl) rfl rfl (by decide) ?_
    refine Ak_keep [true, true, true] ?_
    exact t_M_longest_L25 hO FU _ _ _ _ h
  · replace h := it_t hc h
    refine Ak_iconst 8 (d_M_longest 3 7 (.iconst (-1)) 1 rfl) rfl (rk rfl) ?_
    cases h
    exact Ak_iret rfl (d_M_longest 4 8 (.ireturn) 1 rfl)
theorem t_M_row_L38 {S : ASh} {x0 x1 : Int} (hO : isO S x0 13 = true) : ∀ (n : Nat) (V : ASt) (x2 x3 : Int) (r : Int) (V' : ASt), b_M_row_L38 S x0 x1 n V x2 x3 = some (r, V') → AWk m_M_row 7 0 0 0 0 38 [some (aR x0), some (aI x1), some (aI x2), some (aI x3)] [] S V (some (aI r)) S V' := by
  intro n
  induction n with
  | zero => intro V x2 x3 r V' h; cases h
  | succ n ih =>
    intro V x2 x3 r V' h
    replace ih : ∀ {V : ASt} {x2 x3 : Int} {r : Int} {V' : ASt}, b_M_row_L38 S x0 x1 n V x2 x3 = some (r, V') → AWk m_M_row 7 0 0 0 0 38 [some (aR x0), some (aI x1), some (aI x2), some (aI x3)] [] S V (some (aI r)) S V' := fun h => ih _ _ _ _ _ h
    rw [b_M_row_L38] at h
    refine Ak_iload_n 39 3 (d_M_row 22 38 (.iload_n 3) 1 rfl) rfl rfl rfl ?_
    refine Ak_iload_n 40 1 (d_M_row 23 39 (.iload_n 1) 1 rfl) rfl rfl rfl ?_
    refine Ak_icmp_ge 141 43 (d_M_row 24 40 (.if_icmp .ge 101) 3 rfl) rfl rfl (fun hc => ?_) (fun hc => ?_)
    · replace h := it_t hc h
      refine Ak_iconst 142 (d_M_row 78 141 (.iconst (-1)) 1 rfl) rfl (rk rfl) ?_
      cases h
      exact Ak_iret rfl (d_M_row 79 142 (.ireturn) 1 rfl)
    · replace h := it_f hc h
      refine Ak_aload_n 44 0 (d_M_row 25 43 (.aload_n 0) 1 rfl) rfl rfl rfl ?_
      refine Ak_getF 47 0 hO clX13 (by decide) rfl lkF_M_7 (d_M_row 26 44 (.getfield 7) 3 rfl) rfl ?_
      refine Ak_iload_n 48 3 (d_M_row 27 47 (.iload_n 3) 1 rfl) rfl rfl rfl ?_
      obtain ⟨ha1, h⟩ := gd_some h
      refine Ak_iaload 49 ha1 (d_M_row 28 48 (.iaload) 1 rfl) rfl ?_
      refine Ak_bipush 51 (d_M_row 29 49 (.bipush 10) 2 rfl) rfl (bp_ok rfl) (rk rfl) ?_
      refine Ak_idiv 52 (d_M_row 30 51 (.idiv) 1 rfl) rfl (by decide) ?_
      refine Ak_istore 54 (d_M_row 31 52 (.istore 4) 2 rfl) rfl (by decide) ?_
      refine Ak_aload_n 55 0 (d_M_row 32 54 (.aload_n 0) 1 rfl) rfl rfl rfl ?_
      refine Ak_getF 58 0 hO clX13 (by decide) rfl lkF_M_7 (d_M_row 33 55 (.getfield 7) 3 rfl) rfl ?_
      refine Ak_iload_n 59 3 (d_M_row 34 58 (.iload_n 3) 1 rfl) rfl rfl rfl ?_
      refine Ak_iaload 60 ha1 (d_M_row 35 59 (.iaload) 1 rfl) rfl ?_
      refine Ak_bipush 62 (d_M_row 36 60 (.bipush 10) 2 rfl) rfl (bp_ok rfl) (rk rfl) ?_
      refine Ak_irem 63 (d_M_row 37 62 (.irem) 1 rfl) rfl (by decide) ?_
      refine Ak_istore 65 (d_M_row 38 63 (.istore 5) 2 rfl) rfl (by decide) ?_
      refine Ak_iload_n 66 2 (d_M_row 39 65 (.iload_n 2) 1 rfl) rfl rfl rfl ?_
      refine Ak_iconst 67 (d_M_row 40 66 (.iconst (-1)) 1 rfl) rfl (rk rfl) ?_
      refine Ak_icmp_eq 110 70 (d_M_row 41 67 (.if_icmp .eq 43) 3 rfl) rfl rfl (fun hc => ?_) (fun hc => ?_)
      · replace h := it_t hc h
        refine Ak_iload_n 111 3 (d_M_row 62 110 (.iload_n 3) 1 rfl) rfl rfl rfl ?_
        cases h
        exact Ak_iret rfl (d_M_row 63 111 (.ireturn) 1 rfl)
      · replace h := it_f hc h
        refine Ak_iload 72 (d_M_row 42 70 (.iload 4) 2 rfl) rfl rfl ?_
        refine Ak_aload_n 73 0 (d_M_row 43 72 (.aload_n 0) 1 rfl) rfl rfl rfl ?_
        refine Ak_getF 76 14 hO clX13 (by decide) rfl lkF_M_54 (d_M_row 44 73 (.getfield 54) 3 rfl) rfl ?_
        refine Ak_aload_n 77 0 (d_M_row 45 76 (.aload_n 0) 1 rfl) rfl rfl rfl ?_
        refine Ak_getI 80 12 hO clX13 (by decide) (Or.inl rfl) lkF_M_48 (d_M_row 46 77 (.getfield 48) 3 rfl) rfl ?_
        obtain ⟨ha2, h⟩ := gd_some h
        refine Ak_iaload 81 ha2 (d_M_row 47 80 (.iaload) 1 rfl) rfl ?_
        refine Ak_icmp_ge 110 84 (d_M_row 48 81 (.if_icmp .ge 29) 3 rfl) rfl rfl (fun hc => ?_) (fun hc => ?_)
        · replace h := it_t hc h
          refine Ak_iload_n 111 3 (d_M_row 62 110 (.iload_n 3) 1 rfl) rfl rfl rfl ?_
          cases h
          exact Ak_iret rfl (d_M_row 63 111 (.ireturn) 1 rfl)
        · replace h := it_f hc h
          refine Ak_iload 86 (d_M_row 49 84 (.iload 5) 2 rfl) rfl rfl ?_
          refine Ak_aload_n 87 0 (d_M_row 50 86 (.aload_n 0) 1 rfl) rfl rfl rfl ?_
          refine Ak_getF 90 13 hO clX13 (by decide) rfl lkF_M_51 (d_M_row 51 87 (.getfield 51) 3 rfl) rfl ?_
          refine Ak_aload_n 91 0 (d_M_row 52 90 (.aload_n 0) 1 rfl) rfl rfl rfl ?_
          refine Ak_getI 94 12 hO clX13 (by decide) (Or.inl rfl) lkF_M_48 (d_M_row 53 91 (.getfield 48) 3 rfl) rfl ?_
          obtain ⟨ha3, h⟩ := gd_some h
          refine Ak_iaload 95 ha3 (d_M_row 54 94 (.iaload) 1 rfl) rfl ?_
          refine Ak_icmp_gt 110 98 (d_M_row 55 95 (.if_icmp .gt 15) 3 rfl) rfl rfl (fun hc => ?_) (fun hc => ?_)
          · replace h := it_t hc h
            refine Ak_iload_n 111 3 (d_M_row 62 110 (.iload_n 3) 1 rfl) rfl rfl rfl ?_
            cases h
            exact Ak_iret rfl (d_M_row 63 111 (.ireturn) 1 rfl)
          · replace h := it_f hc h
            refine Ak_aload_n 99 0 (d_M_row 56 98 (.aload_n 0) 1 rfl) rfl rfl rfl ?_
            refine Ak_iload_n 100 2 (d_M_row 57 99 (.iload_n 2) 1 rfl) rfl rfl rfl ?_
            refine Ak_iload 102 (d_M_row 58 100 (.iload 4) 2 rfl) rfl rfl ?_
            refine Ak_iload 104 (d_M_row 59 102 (.iload 5) 2 rfl) rfl rfl ?_
            obtain ⟨r4, V5, h6, h⟩ := bnd_some h
            refine Ak_cV1 107 6 (c_M_isLawful h6) rfl hO clX13 rfl mok_M_isLawful lkM_M_481 (d_M_row 60 104 (.invokevirtual 481) 3 rfl) rfl (by decide) (Nat.le_of_ble_eq_true rfl) ?_
            refine Ak_if_ne 112 110 (d_M_row 61 107 (.ifCond .ne 5) 3 rfl) rfl rfl (fun hc => ?_) (fun hc => ?_)
            · replace h := it_f hc h
              refine Ak_aload_n 113 0 (d_M_row 64 112 (.aload_n 0) 1 rfl) rfl rfl rfl ?_
              refine Ak_iload_n 114 2 (d_M_row 65 113 (.iload_n 2) 1 rfl) rfl rfl rfl ?_
              refine Ak_iload 116 (d_M_row 66 114 (.iload 4) 2 rfl) rfl rfl ?_
              refine Ak_iload 118 (d_M_row 67 116 (.iload 5) 2 rfl) rfl rfl ?_
              obtain ⟨r7, V8, h9, h⟩ := bnd_some h
              refine Ak_cV1 121 6 (c_M_leads h9) rfl hO clX13 rfl mok_M_leads lkM_M_484 (d_M_row 68 118 (.invokevirtual 484) 3 rfl) rfl (by decide) (Nat.le_of_ble_eq_true rfl) ?_
              refine Ak_istore 123 (d_M_row 69 121 (.istore 6) 2 rfl) rfl (by decide) ?_
              refine Ak_iload 125 (d_M_row 70 123 (.iload 6) 2 rfl) rfl rfl ?_
              refine Ak_if_ge 132 128 (d_M_row 71 125 (.ifCond .ge 7) 3 rfl) rfl rfl (fun hc => ?_) (fun hc => ?_)
              · replace h := it_t hc h
                refine Ak_iload 134 (d_M_row 74 132 (.iload 6) 2 rfl) rfl rfl ?_
                refine Ak_istore_n 135 2 (d_M_row 75 134 (.istore_n 2) 1 rfl) rfl rfl (by decide) ?_
                refine Ak_iinc 138 (d_M_row 76 135 (.iinc 3 1) 3 rfl) rfl rfl (by decide) ?_
                refine Ak_goto 38 (d_M_row 77 138 (.goto (-100)) 3 rfl) rfl ?_
                refine Ak_keep [true, true, true, true] ?_
                exact ih h
              · replace h := it_f hc h
                refine Ak_iconst 129 (d_M_row 72 128 (.iconst (-1)) 1 rfl) rfl (rk rfl) ?_
                refine Ak_goto 134 (d_M_row 73 129 (.goto 5) 3 rfl) rfl ?_
                refine Ak_istore_n 135 2 (d_M_row 75 134 (.istore_n 2) 1 rfl) rfl rfl (by decide) ?_
                refine Ak_iinc 138 (d_M_row 76 135 (.iinc 3 1) 3 rfl) rfl rfl (by decide) ?_
                refine Ak_goto 38 (d_M_row 77 138 (.goto (-100)) 3 rfl) rfl ?_
                refine Ak_keep [true, true, true, true] ?_
                exact ih h
            · replace h := it_t hc h
              refine Ak_iload_n 111 3 (d_M_row 62 110 (.iload_n 3) 1 rfl) rfl rfl rfl ?_
              cases h
              exact Ak_iret rfl (d_M_row 63 111 (.ireturn) 1 rfl)
theorem c_M_row {S : ASh} {V : ASt} {x0 : Int} {r : Int} {V' : ASt} (h : f_M_row S V x0 = some (r, V')) : ACt m_M_row 7 0 0 [(aR x0)] S V (some (aI r)) S V' := by
  unfold f_M_row at h
  obtain ⟨hO, h⟩ := gd_some h
  refine ACt_of (plainFor_of_name rfl) rfl (Nat.le_of_ble_eq_true rfl) ?_
  show AWk m_M_row 7 0 0 0 0 0 [some (aR x0)] [] S V (some (aI r)) S V'
  refine Ak_aload_n 1 0 (d_M_row 0 0 (.aload_n 0) 1 rfl) rfl rfl rfl ?_
  refine Ak_getI 4 1 hO clX13 (by decide) (Or.inl rfl) lkF_M_13 (d_M_row 1 1 (.getfield 13) 3 rfl) rfl ?_
  refine Ak_istore_n 5 1 (d_M_row 2 4 (.istore_n 1) 1 rfl) rfl rfl (by decide) ?_
  refine Ak_aload_n 6 0 (d_M_row 3 5 (.aload_n 0) 1 rfl) rfl rfl rfl ?_
  refine Ak_iconst 7 (d_M_row 4 6 (.iconst 0) 1 rfl) rfl (rk rfl) ?_
  refine Ak_putI 10 1 hO clX13 (by decide) rfl rfl rfl lkF_M_13 (d_M_row 5 7 (.putfield 13) 3 rfl) rfl (fun V10 hV10 => ?_)
  replace h := wV_some h V10 hV10
  refine Ak_aload_n 11 0 (d_M_row 6 10 (.aload_n 0) 1 rfl) rfl rfl rfl ?_
  obtain ⟨r11, V12, h13, h⟩ := bnd_some h
  refine Ak_cV1 14 2 (c_M_hasFields h13) rfl hO clX13 rfl mok_M_hasFields lkM_M_448 (d_M_row 7 11 (.invokevirtual 448) 3 rfl) rfl (by decide) (Nat.le_of_ble_eq_true rfl) ?_
  refine Ak_if_ne 27 17 (d_M_row 8 14 (.ifCond .ne 13) 3 rfl) rfl rfl (fun hc => ?_) (fun hc => ?_)
  · replace h := it_f hc h
    refine Ak_aload_n 28 0 (d_M_row 15 27 (.aload_n 0) 1 rfl) rfl rfl rfl ?_
    refine Ak_aload_n 29 0 (d_M_row 16 28 (.aload_n 0) 1 rfl) rfl rfl rfl ?_
    refine Ak_getI 32 48 hO clX13 (by decide) (Or.inl rfl) lkF_M_159 (d_M_row 17 29 (.getfield 159) 3 rfl) rfl ?_
    obtain ⟨r14, V15, h16, h⟩ := bnd_some h
    refine Ak_cV1 35 3 (c_M_beginning h16) rfl hO clX13 rfl mok_M_beginning lkM_M_512 (d_M_row 18 32 (.invokevirtual 512) 3 rfl) rfl (by decide) (Nat.le_of_ble_eq_true rfl) ?_
    refine Ak_istore_n 36 2 (d_M_row 19 35 (.istore_n 2) 1 rfl) rfl rfl (by decide) ?_
    refine Ak_iconst 37 (d_M_row 20 36 (.iconst 0) 1 rfl) rfl (rk rfl) ?_
    refine Ak_istore_n 38 3 (d_M_row 21 37 (.istore_n 3) 1 rfl) rfl rfl (by decide) ?_
    refine Ak_keep [true, true, true, true] ?_
    exact t_M_row_L38 hO FU _ _ _ _ _ h
  · replace h := it_t hc h
    refine Ak_iload_n 18 1 (d_M_row 9 17 (.iload_n 1) 1 rfl) rfl rfl rfl ?_
    refine Ak_if_le 25 21 (d_M_row 10 18 (.ifCond .le 7) 3 rfl) rfl rfl (fun hc => ?_) (fun hc => ?_)
    · replace h := it_t hc h
      refine Ak_iconst 26 (d_M_row 13 25 (.iconst (-1)) 1 rfl) rfl (rk rfl) ?_
      cases h
      exact Ak_iret rfl (d_M_row 14 26 (.ireturn) 1 rfl)
    · replace h := it_f hc h
      refine Ak_iconst 22 (d_M_row 11 21 (.iconst 0) 1 rfl) rfl (rk rfl) ?_
      refine Ak_goto 26 (d_M_row 12 22 (.goto 4) 3 rfl) rfl ?_
      cases h
      exact Ak_iret rfl (d_M_row 14 26 (.ireturn) 1 rfl)
theorem t_M_errs_J19 {S : ASh} {V : ASt} {x0 : Int} {r : Int} {V' : ASt} (hO : isO S x0 13 = true) (h : b_M_errs_J19 S  V x0 = some (r, V')) : AWk m_M_errs 3 0 0 0 0 19 [some (aR x0)] [] S V (some (aI r)) S V' := by
  unfold b_M_errs_J19 at h
  refine Ak_aload_n 20 0 (d_M_errs 10 19 (.aload_n 0) 1 rfl) rfl rfl rfl ?_
  refine Ak_iconst 21 (d_M_errs 11 20 (.iconst 4) 1 rfl) rfl (rk rfl) ?_
  obtain ⟨r1, V2, h3, h⟩ := bnd_some h
  refine Ak_cV1 24 2 (c_M_refuses h3) rfl hO clX13 rfl mok_M_refuses lkM_M_258 (d_M_errs 12 21 (.invokevirtual 258) 3 rfl) rfl (by decide) (Nat.le_of_ble_eq_true rfl) ?_
  cases h
  exact Ak_iret rfl (d_M_errs 13 24 (.ireturn) 1 rfl)
theorem c_M_errs {S : ASh} {V : ASt} {x0 x1 x2 : Int} {r : Int} {V' : ASt} (h : f_M_errs S V x0 x1 x2 = some (r, V')) : ACt m_M_errs 3 0 0 [(aR x0), (aI x1), (aI x2)] S V (some (aI r)) S V' := by
  unfold f_M_errs at h
  obtain ⟨hO, h⟩ := gd_some h
  refine ACt_of (plainFor_of_name rfl) rfl (Nat.le_of_ble_eq_true rfl) ?_
  show AWk m_M_errs 3 0 0 0 0 0 [some (aR x0), some (aI x1), some (aI x2)] [] S V (some (aI r)) S V'
  refine Ak_iload_n 1 1 (d_M_errs 0 0 (.iload_n 1) 1 rfl) rfl rfl rfl ?_
  refine Ak_iconst 2 (d_M_errs 1 1 (.iconst 0) 1 rfl) rfl (rk rfl) ?_
  refine Ak_iconst 3 (d_M_errs 2 2 (.iconst 1) 1 rfl) rfl (rk rfl) ?_
  obtain ⟨r4, V5, h6, h⟩ := bnd_some h
  refine Ak_cS1 6 2 (c_M_is h6) rfl mok_M_is lkM_M_329 (d_M_errs 3 3 (.invokestatic 329) 3 rfl) rfl (by decide) (Nat.le_of_ble_eq_true rfl) ?_
  refine Ak_if_eq 19 9 (d_M_errs 4 6 (.ifCond .eq 13) 3 rfl) rfl rfl (fun hc => ?_) (fun hc => ?_)
  · replace h := it_t hc h
    refine Ak_keep [true] ?_
    exact t_M_errs_J19 hO h
  · replace h := it_f hc h
    refine Ak_iload_n 10 2 (d_M_errs 5 9 (.iload_n 2) 1 rfl) rfl rfl rfl ?_
    refine Ak_iconst 11 (d_M_errs 6 10 (.iconst 0) 1 rfl) rfl (rk rfl) ?_
    refine Ak_bipush 13 (d_M_errs 7 11 (.bipush 100) 2 rfl) rfl (bp_ok rfl) (rk rfl) ?_
    obtain ⟨r7, V8, h9, h⟩ := bnd_some h
    refine Ak_cS1 16 2 (c_M_is h9) rfl mok_M_is lkM_M_329 (d_M_errs 8 13 (.invokestatic 329) 3 rfl) rfl (by decide) (Nat.le_of_ble_eq_true rfl) ?_
    refine Ak_if_ne 25 19 (d_M_errs 9 16 (.ifCond .ne 9) 3 rfl) rfl rfl (fun hc => ?_) (fun hc => ?_)
    · replace h := it_f hc h
      refine Ak_aload_n 26 0 (d_M_errs 14 25 (.aload_n 0) 1 rfl) rfl rfl rfl ?_
      refine Ak_getF 29 50 hO clX13 (by decide) rfl lkF_M_165 (d_M_errs 15 26 (.getfield 165) 3 rfl) rfl ?_
      refine Ak_iload_n 30 1 (d_M_errs 16 29 (.iload_n 1) 1 rfl) rfl rfl rfl ?_
      obtain ⟨ha10, h⟩ := gd_some h
      refine Ak_iaload 31 ha10 (d_M_errs 17 30 (.iaload) 1 rfl) rfl ?_
      refine Ak_istore_n 32 3 (d_M_errs 18 31 (.istore_n 3) 1 rfl) rfl rfl (by decide) ?_
      refine Ak_aload_n 33 0 (d_M_errs 19 32 (.aload_n 0) 1 rfl) rfl rfl rfl ?_
      refine Ak_getF 36 50 hO clX13 (by decide) rfl lkF_M_165 (d_M_errs 20 33 (.getfield 165) 3 rfl) rfl ?_
      refine Ak_iload_n 37 1 (d_M_errs 21 36 (.iload_n 1) 1 rfl) rfl rfl rfl ?_
      refine Ak_iload_n 38 2 (d_M_errs 22 37 (.iload_n 2) 1 rfl) rfl rfl rfl ?_
      refine Ak_iastore 39 ha10 (d_M_errs 23 38 (.iastore) 1 rfl) rfl (fun V11 hV11 => ?_)
      replace h := wV_some h V11 hV11
      refine Ak_iload_n 40 3 (d_M_errs 24 39 (.iload_n 3) 1 rfl) rfl rfl rfl ?_
      cases h
      exact Ak_iret rfl (d_M_errs 25 40 (.ireturn) 1 rfl)
    · replace h := it_t hc h
      refine Ak_keep [true] ?_
      exact t_M_errs_J19 hO h
theorem t_M_chanceBy_J44 {S : ASh} {V : ASt} {x0 s0 s1 : Int} {r : Int} {V' : ASt} (hO : isO S x0 13 = true) (h : b_M_chanceBy_J44 S  V x0 s0 s1 = some (r, V')) : AWk m_M_chanceBy 2 0 0 0 0 44 [some (aR x0)] [(aI s1), (aI s0)] S V (some (aL r)) S V' := by
  unfold b_M_chanceBy_J44 at h
  refine Ak_icmp_ne 53 47 (d_M_chanceBy 29 44 (.if_icmp .ne 9) 3 rfl) rfl rfl (fun hc => ?_) (fun hc => ?_)
  · replace h := it_f hc h
    refine Ak_lconst 54 0 (d_M_chanceBy 32 53 (.lconst 0) 1 rfl) rfl rfl (rkL rfl) ?_
    cases h
    exact Ak_lret rfl (d_M_chanceBy 33 54 (.lreturn) 1 rfl)
  · replace h := it_t hc h
    refine Ak_ldc2 50 1000000000 (d_M_chanceBy 30 47 (.ldc2_w 521) 3 rfl) rfl lkJ_M_521 (rkL rfl) ?_
    refine Ak_goto 54 (d_M_chanceBy 31 50 (.goto 4) 3 rfl) rfl ?_
    cases h
    exact Ak_lret rfl (d_M_chanceBy 33 54 (.lreturn) 1 rfl)
theorem t_M_chanceBy_J33 {S : ASh} {V : ASt} {x0 x1 s0 : Int} {r : Int} {V' : ASt} (hO : isO S x0 13 = true) (h : b_M_chanceBy_J33 S  V x0 x1 s0 = some (r, V')) : AWk m_M_chanceBy 2 0 0 0 0 33 [some (aR x0), some (aI x1)] [(aI s0)] S V (some (aL r)) S V' := by
  unfold b_M_chanceBy_J33 at h
  refine Ak_iload_n 34 1 (d_M_chanceBy 22 33 (.iload_n 1) 1 rfl) rfl rfl rfl ?_
  refine Ak_iconst 35 (d_M_chanceBy 23 34 (.iconst 2) 1 rfl) rfl (rk rfl) ?_
  refine Ak_irem 36 (d_M_chanceBy 24 35 (.irem) 1 rfl) rfl (by decide) ?_
  refine Ak_if_ne 43 39 (d_M_chanceBy 25 36 (.ifCond .ne 7) 3 rfl) rfl rfl (fun hc => ?_) (fun hc => ?_)
  · replace h := it_f hc h
    refine Ak_iconst 44 (d_M_chanceBy 28 43 (.iconst 0) 1 rfl) rfl (rk rfl) ?_
    refine Ak_keep [true] ?_
    exact t_M_chanceBy_J44 hO h
  · replace h := it_t hc h
    refine Ak_iconst 40 (d_M_chanceBy 26 39 (.iconst 1) 1 rfl) rfl (rk rfl) ?_
    refine Ak_goto 44 (d_M_chanceBy 27 40 (.goto 4) 3 rfl) rfl ?_
    refine Ak_keep [true] ?_
    exact t_M_chanceBy_J44 hO h
theorem c_M_chanceBy {S : ASh} {V : ASt} {x0 x1 x2 : Int} {r : Int} {V' : ASt} (h : f_M_chanceBy S V x0 x1 x2 = some (r, V')) : ACt m_M_chanceBy 2 0 0 [(aR x0), (aI x1), (aI x2)] S V (some (aL r)) S V' := by
  unfold f_M_chanceBy at h
  obtain ⟨hO, h⟩ := gd_some h
  refine ACt_of (plainFor_of_name rfl) rfl (Nat.le_of_ble_eq_true rfl) ?_
  show AWk m_M_chanceBy 2 0 0 0 0 0 [some (aR x0), some (aI x1), some (aI x2)] [] S V (some (aL r)) S V'
  refine Ak_aload_n 1 0 (d_M_chanceBy 0 0 (.aload_n 0) 1 rfl) rfl rfl rfl ?_
  refine Ak_getF 4 53 hO clX13 (by decide) rfl lkF_M_174 (d_M_chanceBy 1 1 (.getfield 174) 3 rfl) rfl ?_
  refine Ak_bipush 6 (d_M_chanceBy 2 4 (.bipush 20) 2 rfl) rfl (bp_ok rfl) (rk rfl) ?_
  refine Ak_iload_n 7 1 (d_M_chanceBy 3 6 (.iload_n 1) 1 rfl) rfl rfl rfl ?_
  refine Ak_imul 8 (d_M_chanceBy 4 7 (.imul) 1 rfl) rfl ?_
  refine Ak_iload_n 9 2 (d_M_chanceBy 5 8 (.iload_n 2) 1 rfl) rfl rfl rfl ?_
  refine Ak_iadd 10 (d_M_chanceBy 6 9 (.iadd) 1 rfl) rfl ?_
  obtain ⟨ha1, h⟩ := gd_some h
  refine Ak_iaload 11 ha1 (d_M_chanceBy 7 10 (.iaload) 1 rfl) rfl ?_
  refine Ak_istore_n 12 3 (d_M_chanceBy 8 11 (.istore_n 3) 1 rfl) rfl rfl (by decide) ?_
  refine Ak_iload_n 13 3 (d_M_chanceBy 9 12 (.iload_n 3) 1 rfl) rfl rfl rfl ?_
  refine Ak_if_lt 23 16 (d_M_chanceBy 10 13 (.ifCond .lt 10) 3 rfl) rfl rfl (fun hc => ?_) (fun hc => ?_)
  · replace h := it_t hc h
    refine Ak_iload_n 24 3 (d_M_chanceBy 16 23 (.iload_n 3) 1 rfl) rfl rfl rfl ?_
    refine Ak_iconst 25 (d_M_chanceBy 17 24 (.iconst (-1)) 1 rfl) rfl (rk rfl) ?_
    refine Ak_icmp_ne 32 28 (d_M_chanceBy 18 25 (.if_icmp .ne 7) 3 rfl) rfl rfl (fun hc => ?_) (fun hc => ?_)
    · replace h := it_f hc h
      refine Ak_iconst 33 (d_M_chanceBy 21 32 (.iconst 0) 1 rfl) rfl (rk rfl) ?_
      refine Ak_keep [true, true] ?_
      exact t_M_chanceBy_J33 hO h
    · replace h := it_t hc h
      refine Ak_iconst 29 (d_M_chanceBy 19 28 (.iconst 1) 1 rfl) rfl (rk rfl) ?_
      refine Ak_goto 33 (d_M_chanceBy 20 29 (.goto 4) 3 rfl) rfl ?_
      refine Ak_keep [true, true] ?_
      exact t_M_chanceBy_J33 hO h
  · replace h := it_f hc h
    refine Ak_aload_n 17 0 (d_M_chanceBy 11 16 (.aload_n 0) 1 rfl) rfl rfl rfl ?_
    refine Ak_getF 20 63 hO clX13 (by decide) rfl lkF_M_204 (d_M_chanceBy 12 17 (.getfield 204) 3 rfl) rfl ?_
    refine Ak_iload_n 21 3 (d_M_chanceBy 13 20 (.iload_n 3) 1 rfl) rfl rfl rfl ?_
    obtain ⟨ha2, h⟩ := gd_some h
    refine Ak_laload 22 ha2 (d_M_chanceBy 14 21 (.laload) 1 rfl) rfl ?_
    cases h
    exact Ak_lret rfl (d_M_chanceBy 15 22 (.lreturn) 1 rfl)
theorem t_M_likely_J130 {S : ASh} {K39 : ASt → Int → Option (Int × ASt)} {V : ASt} {x0 x1 x2 x3 s0 s1 s2 : Int} {r : Int} {V' : ASt} (hO : isO S x0 13 = true) (hK39 : ∀ {V : ASt} {y3 : Int} {r : Int} {V' : ASt}, K39 V y3 = some (r, V') → AWk m_M_likely 9 0 0 0 0 39 [some (aR x0), some (aI x1), some (aI x2), some (aI y3)] [] S V (some (aI r)) S V') (h : b_M_likely_J130 S K39 V x0 x1 x2 x3 s0 s1 s2 = some (r, V')) : AWk m_M_likely 9 0 0 0 0 130 [some (aR x0), some (aI x1), some (aI x2), some (aI x3)] [(aL s2), (aI s1), (aR s0)] S V (some (aI r)) S V' := by
  unfold b_M_likely_J130 at h
  obtain ⟨ha1, h⟩ := gd_some h
  refine Ak_lastore 131 ha1 (d_M_likely 70 130 (.lastore) 1 rfl) rfl (fun V2 hV2 => ?_)
  replace h := wV_some h V2 hV2
  refine Ak_iinc 134 (d_M_likely 71 131 (.iinc 3 1) 3 rfl) rfl rfl (by decide) ?_
  refine Ak_goto 39 (d_M_likely 72 134 (.goto (-95)) 3 rfl) rfl ?_
  refine Ak_keep [true, true, true, true] ?_
  exact hK39 h
theorem t_M_likely_J110 {S : ASh} {K39 : ASt → Int → Option (Int × ASt)} {V : ASt} {x0 x1 x2 x3 x4 s0 : Int} {r : Int} {V' : ASt} (hO : isO S x0 13 = true) (hK39 : ∀ {V : ASt} {y3 : Int} {r : Int} {V' : ASt}, K39 V y3 = some (r, V') → AWk m_M_likely 9 0 0 0 0 39 [some (aR x0), some (aI x1), some (aI x2), some (aI y3)] [] S V (some (aI r)) S V') (h : b_M_likely_J110 S K39 V x0 x1 x2 x3 x4 s0 = some (r, V')) : AWk m_M_likely 9 0 0 0 0 110 [some (aR x0), some (aI x1), some (aI x2), some (aI x3), some (aI x4)] [(aI s0)] S V (some (aI r)) S V' := by
  unfold b_M_likely_J110 at h
  refine Ak_istore 112 (d_M_likely 61 110 (.istore 5) 2 rfl) rfl (by decide) ?_
  refine Ak_aload_n 113 0 (d_M_likely 62 112 (.aload_n 0) 1 rfl) rfl rfl rfl ?_
  refine Ak_getF 116 63 hO clX13 (by decide) rfl lkF_M_204 (d_M_likely 63 113 (.getfield 204) 3 rfl) rfl ?_
  refine Ak_iload 118 (d_M_likely 64 116 (.iload 4) 2 rfl) rfl rfl ?_
  refine Ak_iload 120 (d_M_likely 65 118 (.iload 5) 2 rfl) rfl rfl ?_
  refine Ak_if_eq 129 123 (d_M_likely 66 120 (.ifCond .eq 9) 3 rfl) rfl rfl (fun hc => ?_) (fun hc => ?_)
  · replace h := it_t hc h
    refine Ak_lconst 130 0 (d_M_likely 69 129 (.lconst 0) 1 rfl) rfl rfl (rkL rfl) ?_
    refine Ak_keep [true, true, true, true] ?_
    exact t_M_likely_J130 hO (fun h => hK39 h) h
  · replace h := it_f hc h
    refine Ak_ldc2 126 1000000000 (d_M_likely 67 123 (.ldc2_w 521) 3 rfl) rfl lkJ_M_521 (rkL rfl) ?_
    refine Ak_goto 130 (d_M_likely 68 126 (.goto 4) 3 rfl) rfl ?_
    refine Ak_keep [true, true, true, true] ?_
    exact t_M_likely_J130 hO (fun h => hK39 h) h
theorem t_M_likely_J85 {S : ASh} {K39 : ASt → Int → Option (Int × ASt)} {V : ASt} {x0 x1 x2 x3 x4 : Int} {r : Int} {V' : ASt} (hO : isO S x0 13 = true) (hK39 : ∀ {V : ASt} {y3 : Int} {r : Int} {V' : ASt}, K39 V y3 = some (r, V') → AWk m_M_likely 9 0 0 0 0 39 [some (aR x0), some (aI x1), some (aI x2), some (aI y3)] [] S V (some (aI r)) S V') (h : b_M_likely_J85 S K39 V x0 x1 x2 x3 x4 = some (r, V')) : AWk m_M_likely 9 0 0 0 0 85 [some (aR x0), some (aI x1), some (aI x2), some (aI x3), some (aI x4)] [] S V (some (aI r)) S V' := by
  unfold b_M_likely_J85 at h
  refine Ak_aload_n 86 0 (d_M_likely 47 85 (.aload_n 0) 1 rfl) rfl rfl rfl ?_
  refine Ak_getF 89 18 hO clX13 (by decide) rfl lkF_M_67 (d_M_likely 48 86 (.getfield 67) 3 rfl) rfl ?_
  refine Ak_aload_n 90 0 (d_M_likely 49 89 (.aload_n 0) 1 rfl) rfl rfl rfl ?_
  refine Ak_getI 93 12 hO clX13 (by decide) (Or.inl rfl) lkF_M_48 (d_M_likely 50 90 (.getfield 48) 3 rfl) rfl ?_
  obtain ⟨ha3, h⟩ := gd_some h
  refine Ak_iaload 94 ha3 (d_M_likely 51 93 (.iaload) 1 rfl) rfl ?_
  refine Ak_if_ne 109 97 (d_M_likely 52 94 (.ifCond .ne 15) 3 rfl) rfl rfl (fun hc => ?_) (fun hc => ?_)
  · replace h := it_f hc h
    refine Ak_iconst 110 (d_M_likely 60 109 (.iconst 0) 1 rfl) rfl (rk rfl) ?_
    refine Ak_keep [true, true, true, true, true] ?_
    exact t_M_likely_J110 hO (fun h => hK39 h) h
  · replace h := it_t hc h
    refine Ak_iload 99 (d_M_likely 53 97 (.iload 4) 2 rfl) rfl rfl ?_
    refine Ak_iconst 100 (d_M_likely 54 99 (.iconst 2) 1 rfl) rfl (rk rfl) ?_
    refine Ak_irem 101 (d_M_likely 55 100 (.irem) 1 rfl) rfl (by decide) ?_
    refine Ak_iconst 102 (d_M_likely 56 101 (.iconst 1) 1 rfl) rfl (rk rfl) ?_
    refine Ak_icmp_ne 109 105 (d_M_likely 57 102 (.if_icmp .ne 7) 3 rfl) rfl rfl (fun hc => ?_) (fun hc => ?_)
    · replace h := it_f hc h
      refine Ak_iconst 110 (d_M_likely 60 109 (.iconst 0) 1 rfl) rfl (rk rfl) ?_
      refine Ak_keep [true, true, true, true, true] ?_
      exact t_M_likely_J110 hO (fun h => hK39 h) h
    · replace h := it_t hc h
      refine Ak_iconst 106 (d_M_likely 58 105 (.iconst 1) 1 rfl) rfl (rk rfl) ?_
      refine Ak_goto 110 (d_M_likely 59 106 (.goto 4) 3 rfl) rfl ?_
      refine Ak_keep [true, true, true, true, true] ?_
      exact t_M_likely_J110 hO (fun h => hK39 h) h
theorem t_M_likely_L198 {S : ASh} {K139 : ASt → Int → Option (Int × ASt)} {K147 : ASt → Int → Option (Int × ASt)} {x0 x1 x2 x3 x4 x5 : Int} (hO : isO S x0 13 = true) (hK139 : ∀ {V : ASt} {y3 : Int} {r : Int} {V' : ASt}, K139 V y3 = some (r, V') → AWk m_M_likely 9 0 0 0 0 139 [some (aR x0), some (aI x1), some (aI x2), some (aI y3)] [] S V (some (aI r)) S V') (hK147 : ∀ {V : ASt} {y4 : Int} {r : Int} {V' : ASt}, K147 V y4 = some (r, V') → AWk m_M_likely 9 0 0 0 0 147 [some (aR x0), some (aI x1), some (aI x2), some (aI x3), some (aI y4)] [] S V (some (aI r)) S V') : ∀ (n : Nat) (V : ASt) (x6 x8 : Int) (r : Int) (V' : ASt), b_M_likely_L198 S K139 K147 x0 x1 x2 x3 x4 x5 n V x6 x8 = some (r, V') → AWk m_M_likely 9 0 0 0 0 198 [some (aR x0), some (aI x1), some (aI x2), some (aI x3), some (aI x4), some (aI x5), some (aL x6), none, some (aI x8)] [] S V (some (aI r)) S V' := by
  intro n
  induction n with
  | zero => intro V x6 x8 r V' h; cases h
  | succ n ih =>
    intro V x6 x8 r V' h
    replace ih : ∀ {V : ASt} {x6 x8 : Int} {r : Int} {V' : ASt}, b_M_likely_L198 S K139 K147 x0 x1 x2 x3 x4 x5 n V x6 x8 = some (r, V') → AWk m_M_likely 9 0 0 0 0 198 [some (aR x0), some (aI x1), some (aI x2), some (aI x3), some (aI x4), some (aI x5), some (aL x6), none, some (aI x8)] [] S V (some (aI r)) S V' := fun h => ih _ _ _ _ _ h
    rw [b_M_likely_L198] at h
    refine Ak_iload 200 (d_M_likely 107 198 (.iload 8) 2 rfl) rfl rfl ?_
    refine Ak_aload_n 201 0 (d_M_likely 108 200 (.aload_n 0) 1 rfl) rfl rfl rfl ?_
    refine Ak_getF 204 51 hO clX13 (by decide) rfl lkF_M_168 (d_M_likely 109 201 (.getfield 168) 3 rfl) rfl ?_
    refine Ak_iload 206 (d_M_likely 110 204 (.iload 5) 2 rfl) rfl rfl ?_
    obtain ⟨ha4, h⟩ := gd_some h
    refine Ak_iaload 207 ha4 (d_M_likely 111 206 (.iaload) 1 rfl) rfl ?_
    refine Ak_icmp_ge 229 210 (d_M_likely 112 207 (.if_icmp .ge 22) 3 rfl) rfl rfl (fun hc => ?_) (fun hc => ?_)
    · replace h := it_t hc h
      refine Ak_aload_n 230 0 (d_M_likely 122 229 (.aload_n 0) 1 rfl) rfl rfl rfl ?_
      refine Ak_getF 233 50 hO clX13 (by decide) rfl lkF_M_165 (d_M_likely 123 230 (.getfield 165) 3 rfl) rfl ?_
      refine Ak_iload 235 (d_M_likely 124 233 (.iload 5) 2 rfl) rfl rfl ?_
      refine Ak_iconst 236 (d_M_likely 125 235 (.iconst 2) 1 rfl) rfl (rk rfl) ?_
      refine Ak_irem 237 (d_M_likely 126 236 (.irem) 1 rfl) rfl (by decide) ?_
      obtain ⟨ha5, h⟩ := gd_some h
      refine Ak_iaload 238 ha5 (d_M_likely 127 237 (.iaload) 1 rfl) rfl ?_
      refine Ak_istore 240 (d_M_likely 128 238 (.istore 8) 2 rfl) rfl (by decide) ?_
      refine Ak_aload_n 241 0 (d_M_likely 129 240 (.aload_n 0) 1 rfl) rfl rfl rfl ?_
      refine Ak_getF 244 64 hO clX13 (by decide) rfl lkF_M_207 (d_M_likely 130 241 (.getfield 207) 3 rfl) rfl ?_
      refine Ak_iload 246 (d_M_likely 131 244 (.iload 5) 2 rfl) rfl rfl ?_
      refine Ak_bipush 248 (d_M_likely 132 246 (.bipush 100) 2 rfl) rfl (bp_ok rfl) (rk rfl) ?_
      refine Ak_iload 250 (d_M_likely 133 248 (.iload 8) 2 rfl) rfl rfl ?_
      refine Ak_isub 251 (d_M_likely 134 250 (.isub) 1 rfl) rfl ?_
      refine Ak_i2l 252 (d_M_likely 135 251 (.i2l) 1 rfl) rfl ?_
      refine Ak_aload_n 253 0 (d_M_likely 136 252 (.aload_n 0) 1 rfl) rfl rfl rfl ?_
      refine Ak_iload 255 (d_M_likely 137 253 (.iload 5) 2 rfl) rfl rfl ?_
      refine Ak_aload_n 256 0 (d_M_likely 138 255 (.aload_n 0) 1 rfl) rfl rfl rfl ?_
      refine Ak_iload 258 (d_M_likely 139 256 (.iload 5) 2 rfl) rfl rfl ?_
      obtain ⟨r6, V7, h8, h⟩ := bnd_some h
      refine Ak_cV1 261 2 (c_M_bestOf h8) rfl hO clX13 rfl mok_M_bestOf lkM_M_509 (d_M_likely 140 258 (.invokevirtual 509) 3 rfl) rfl (by decide) (Nat.le_of_ble_eq_true rfl) ?_
      obtain ⟨r9, V10, h11, h⟩ := bnd_some h
      refine Ak_cV1 264 2 (c_M_chanceBy h11) rfl hO clX13 rfl mok_M_chanceBy lkM_M_523 (d_M_likely 141 261 (.invokevirtual 523) 3 rfl) rfl (by decide) (Nat.le_of_ble_eq_true rfl) ?_
      refine Ak_lmul 265 (d_M_likely 142 264 (.lmul) 1 rfl) rfl ?_
      refine Ak_iload 267 (d_M_likely 143 265 (.iload 8) 2 rfl) rfl rfl ?_
      refine Ak_i2l 268 (d_M_likely 144 267 (.i2l) 1 rfl) rfl ?_
      refine Ak_lload 270 (d_M_likely 145 268 (.lload 6) 2 rfl) rfl rfl ?_
      refine Ak_aload_n 271 0 (d_M_likely 146 270 (.aload_n 0) 1 rfl) rfl rfl rfl ?_
      refine Ak_getF 274 51 hO clX13 (by decide) rfl lkF_M_168 (d_M_likely 147 271 (.getfield 168) 3 rfl) rfl ?_
      refine Ak_iload 276 (d_M_likely 148 274 (.iload 5) 2 rfl) rfl rfl ?_
      refine Ak_iaload 277 ha4 (d_M_likely 149 276 (.iaload) 1 rfl) rfl ?_
      refine Ak_i2l 278 (d_M_likely 150 277 (.i2l) 1 rfl) rfl ?_
      obtain ⟨hz12, h⟩ := gd_some h
      refine Ak_ldiv 279 (d_M_likely 151 278 (.ldiv) 1 rfl) rfl (dec_t hz12) ?_
      refine Ak_lmul 280 (d_M_likely 152 279 (.lmul) 1 rfl) rfl ?_
      refine Ak_ladd 281 (d_M_likely 153 280 (.ladd) 1 rfl) rfl ?_
      refine Ak_ldc2 284 100 (d_M_likely 154 281 (.ldc2_w 526) 3 rfl) rfl lkJ_M_526 (rkL rfl) ?_
      refine Ak_ldiv 285 (d_M_likely 155 284 (.ldiv) 1 rfl) rfl (by decide) ?_
      obtain ⟨ha13, h⟩ := gd_some h
      refine Ak_lastore 286 ha13 (d_M_likely 156 285 (.lastore) 1 rfl) rfl (fun V14 hV14 => ?_)
      replace h := wV_some h V14 hV14
      refine Ak_iinc 289 (d_M_likely 157 286 (.iinc 4 1) 3 rfl) rfl rfl (by decide) ?_
      refine Ak_goto 147 (d_M_likely 158 289 (.goto (-142)) 3 rfl) rfl ?_
      refine Ak_keep [true, true, true, true, true] ?_
      exact hK147 h
    · replace h := it_f hc h
      refine Ak_lload 212 (d_M_likely 113 210 (.lload 6) 2 rfl) rfl rfl ?_
      refine Ak_aload_n 213 0 (d_M_likely 114 212 (.aload_n 0) 1 rfl) rfl rfl rfl ?_
      refine Ak_iload 215 (d_M_likely 115 213 (.iload 5) 2 rfl) rfl rfl ?_
      refine Ak_iload 217 (d_M_likely 116 215 (.iload 8) 2 rfl) rfl rfl ?_
      obtain ⟨r15, V16, h17, h⟩ := bnd_some h
      refine Ak_cV1 220 2 (c_M_chanceBy h17) rfl hO clX13 rfl mok_M_chanceBy lkM_M_523 (d_M_likely 117 217 (.invokevirtual 523) 3 rfl) rfl (by decide) (Nat.le_of_ble_eq_true rfl) ?_
      refine Ak_ladd 221 (d_M_likely 118 220 (.ladd) 1 rfl) rfl ?_
      refine Ak_lstore 223 (d_M_likely 119 221 (.lstore 6) 2 rfl) rfl (by decide) ?_
      refine Ak_iinc 226 (d_M_likely 120 223 (.iinc 8 1) 3 rfl) rfl rfl (by decide) ?_
      refine Ak_goto 198 (d_M_likely 121 226 (.goto (-28)) 3 rfl) rfl ?_
      refine Ak_keep [true, true, true, true, true, true, true, false, true] ?_
      exact ih h
theorem t_M_likely_L295 {S : ASh} {K139 : ASt → Int → Option (Int × ASt)} {x0 x1 x2 x3 : Int} (hO : isO S x0 13 = true) (hK139 : ∀ {V : ASt} {y3 : Int} {r : Int} {V' : ASt}, K139 V y3 = some (r, V') → AWk m_M_likely 9 0 0 0 0 139 [some (aR x0), some (aI x1), some (aI x2), some (aI y3)] [] S V (some (aI r)) S V') : ∀ (n : Nat) (V : ASt) (x4 : Int) (r : Int) (V' : ASt), b_M_likely_L295 S K139 x0 x1 x2 x3 n V x4 = some (r, V') → AWk m_M_likely 9 0 0 0 0 295 [some (aR x0), some (aI x1), some (aI x2), some (aI x3), some (aI x4)] [] S V (some (aI r)) S V' := by
  intro n
  induction n with
  | zero => intro V x4 r V' h; cases h
  | succ n ih =>
    intro V x4 r V' h
    replace ih : ∀ {V : ASt} {x4 : Int} {r : Int} {V' : ASt}, b_M_likely_L295 S K139 x0 x1 x2 x3 n V x4 = some (r, V') → AWk m_M_likely 9 0 0 0 0 295 [some (aR x0), some (aI x1), some (aI x2), some (aI x3), some (aI x4)] [] S V (some (aI r)) S V' := fun h => ih _ _ _ _ h
    rw [b_M_likely_L295] at h
    refine Ak_iload 297 (d_M_likely 161 295 (.iload 4) 2 rfl) rfl rfl ?_
    refine Ak_aload_n 298 0 (d_M_likely 162 297 (.aload_n 0) 1 rfl) rfl rfl rfl ?_
    refine Ak_getI 301 56 hO clX13 (by decide) (Or.inl rfl) lkF_M_183 (d_M_likely 163 298 (.getfield 183) 3 rfl) rfl ?_
    refine Ak_icmp_ge 334 304 (d_M_likely 164 301 (.if_icmp .ge 33) 3 rfl) rfl rfl (fun hc => ?_) (fun hc => ?_)
    · replace h := it_t hc h
      refine Ak_iinc 337 (d_M_likely 181 334 (.iinc 3 1) 3 rfl) rfl rfl (by decide) ?_
      refine Ak_goto 139 (d_M_likely 182 337 (.goto (-198)) 3 rfl) rfl ?_
      refine Ak_keep [true, true, true, true] ?_
      exact hK139 h
    · replace h := it_f hc h
      refine Ak_aload_n 305 0 (d_M_likely 165 304 (.aload_n 0) 1 rfl) rfl rfl rfl ?_
      refine Ak_getF 308 63 hO clX13 (by decide) rfl lkF_M_204 (d_M_likely 166 305 (.getfield 204) 3 rfl) rfl ?_
      refine Ak_aload_n 309 0 (d_M_likely 167 308 (.aload_n 0) 1 rfl) rfl rfl rfl ?_
      refine Ak_getF 312 55 hO clX13 (by decide) rfl lkF_M_180 (d_M_likely 168 309 (.getfield 180) 3 rfl) rfl ?_
      refine Ak_iload 314 (d_M_likely 169 312 (.iload 4) 2 rfl) rfl rfl ?_
      obtain ⟨ha18, h⟩ := gd_some h
      refine Ak_iaload 315 ha18 (d_M_likely 170 314 (.iaload) 1 rfl) rfl ?_
      refine Ak_aload_n 316 0 (d_M_likely 171 315 (.aload_n 0) 1 rfl) rfl rfl rfl ?_
      refine Ak_getF 319 64 hO clX13 (by decide) rfl lkF_M_207 (d_M_likely 172 316 (.getfield 207) 3 rfl) rfl ?_
      refine Ak_aload_n 320 0 (d_M_likely 173 319 (.aload_n 0) 1 rfl) rfl rfl rfl ?_
      refine Ak_getF 323 55 hO clX13 (by decide) rfl lkF_M_180 (d_M_likely 174 320 (.getfield 180) 3 rfl) rfl ?_
      refine Ak_iload 325 (d_M_likely 175 323 (.iload 4) 2 rfl) rfl rfl ?_
      refine Ak_iaload 326 ha18 (d_M_likely 176 325 (.iaload) 1 rfl) rfl ?_
      obtain ⟨ha19, h⟩ := gd_some h
      refine Ak_laload 327 ha19 (d_M_likely 177 326 (.laload) 1 rfl) rfl ?_
      obtain ⟨ha20, h⟩ := gd_some h
      refine Ak_lastore 328 ha20 (d_M_likely 178 327 (.lastore) 1 rfl) rfl (fun V21 hV21 => ?_)
      replace h := wV_some h V21 hV21
      refine Ak_iinc 331 (d_M_likely 179 328 (.iinc 4 1) 3 rfl) rfl rfl (by decide) ?_
      refine Ak_goto 295 (d_M_likely 180 331 (.goto (-36)) 3 rfl) rfl ?_
      refine Ak_keep [true, true, true, true, true] ?_
      exact ih h
theorem t_M_likely_L147 {S : ASh} {K139 : ASt → Int → Option (Int × ASt)} {x0 x1 x2 x3 : Int} (hO : isO S x0 13 = true) (hK139 : ∀ {V : ASt} {y3 : Int} {r : Int} {V' : ASt}, K139 V y3 = some (r, V') → AWk m_M_likely 9 0 0 0 0 139 [some (aR x0), some (aI x1), some (aI x2), some (aI y3)] [] S V (some (aI r)) S V') : ∀ (n : Nat) (V : ASt) (x4 : Int) (r : Int) (V' : ASt), b_M_likely_L147 S K139 x0 x1 x2 x3 n V x4 = some (r, V') → AWk m_M_likely 9 0 0 0 0 147 [some (aR x0), some (aI x1), some (aI x2), some (aI x3), some (aI x4)] [] S V (some (aI r)) S V' := by
  intro n
  induction n with
  | zero => intro V x4 r V' h; cases h
  | succ n ih =>
    intro V x4 r V' h
    replace ih : ∀ {V : ASt} {x4 : Int} {r : Int} {V' : ASt}, b_M_likely_L147 S K139 x0 x1 x2 x3 n V x4 = some (r, V') → AWk m_M_likely 9 0 0 0 0 147 [some (aR x0), some (aI x1), some (aI x2), some (aI x3), some (aI x4)] [] S V (some (aI r)) S V' := fun h => ih _ _ _ _ h
    rw [b_M_likely_L147] at h
    refine Ak_iload 149 (d_M_likely 80 147 (.iload 4) 2 rfl) rfl rfl ?_
    refine Ak_aload_n 150 0 (d_M_likely 81 149 (.aload_n 0) 1 rfl) rfl rfl rfl ?_
    refine Ak_getI 153 56 hO clX13 (by decide) (Or.inl rfl) lkF_M_183 (d_M_likely 82 150 (.getfield 183) 3 rfl) rfl ?_
    refine Ak_icmp_ge 292 156 (d_M_likely 83 153 (.if_icmp .ge 139) 3 rfl) rfl rfl (fun hc => ?_) (fun hc => ?_)
    · replace h := it_t hc h
      refine Ak_iconst 293 (d_M_likely 159 292 (.iconst 0) 1 rfl) rfl (rk rfl) ?_
      refine Ak_istore 295 (d_M_likely 160 293 (.istore 4) 2 rfl) rfl (by decide) ?_
      refine Ak_keep [true, true, true, true, true] ?_
      exact t_M_likely_L295 hO (fun h => hK139 h) FU _ _ _ _ h
    · replace h := it_f hc h
      refine Ak_aload_n 157 0 (d_M_likely 84 156 (.aload_n 0) 1 rfl) rfl rfl rfl ?_
      refine Ak_getF 160 55 hO clX13 (by decide) rfl lkF_M_180 (d_M_likely 85 157 (.getfield 180) 3 rfl) rfl ?_
      refine Ak_iload 162 (d_M_likely 86 160 (.iload 4) 2 rfl) rfl rfl ?_
      obtain ⟨ha22, h⟩ := gd_some h
      refine Ak_iaload 163 ha22 (d_M_likely 87 162 (.iaload) 1 rfl) rfl ?_
      refine Ak_istore 165 (d_M_likely 88 163 (.istore 5) 2 rfl) rfl (by decide) ?_
      refine Ak_aload_n 166 0 (d_M_likely 89 165 (.aload_n 0) 1 rfl) rfl rfl rfl ?_
      refine Ak_getF 169 64 hO clX13 (by decide) rfl lkF_M_207 (d_M_likely 90 166 (.getfield 207) 3 rfl) rfl ?_
      refine Ak_iload 171 (d_M_likely 91 169 (.iload 5) 2 rfl) rfl rfl ?_
      refine Ak_aload_n 172 0 (d_M_likely 92 171 (.aload_n 0) 1 rfl) rfl rfl rfl ?_
      refine Ak_getF 175 63 hO clX13 (by decide) rfl lkF_M_204 (d_M_likely 93 172 (.getfield 204) 3 rfl) rfl ?_
      refine Ak_iload 177 (d_M_likely 94 175 (.iload 5) 2 rfl) rfl rfl ?_
      obtain ⟨ha23, h⟩ := gd_some h
      refine Ak_laload 178 ha23 (d_M_likely 95 177 (.laload) 1 rfl) rfl ?_
      obtain ⟨ha24, h⟩ := gd_some h
      refine Ak_lastore 179 ha24 (d_M_likely 96 178 (.lastore) 1 rfl) rfl (fun V25 hV25 => ?_)
      replace h := wV_some h V25 hV25
      refine Ak_aload_n 180 0 (d_M_likely 97 179 (.aload_n 0) 1 rfl) rfl rfl rfl ?_
      refine Ak_getF 183 51 hO clX13 (by decide) rfl lkF_M_168 (d_M_likely 98 180 (.getfield 168) 3 rfl) rfl ?_
      refine Ak_iload 185 (d_M_likely 99 183 (.iload 5) 2 rfl) rfl rfl ?_
      obtain ⟨ha26, h⟩ := gd_some h
      refine Ak_iaload 186 ha26 (d_M_likely 100 185 (.iaload) 1 rfl) rfl ?_
      refine Ak_if_ne 192 189 (d_M_likely 101 186 (.ifCond .ne 6) 3 rfl) rfl rfl (fun hc => ?_) (fun hc => ?_)
      · replace h := it_f hc h
        refine Ak_lconst 193 0 (d_M_likely 103 192 (.lconst 0) 1 rfl) rfl rfl (rkL rfl) ?_
        refine Ak_lstore 195 (d_M_likely 104 193 (.lstore 6) 2 rfl) rfl (by decide) ?_
        refine Ak_iconst 196 (d_M_likely 105 195 (.iconst 0) 1 rfl) rfl (rk rfl) ?_
        refine Ak_istore 198 (d_M_likely 106 196 (.istore 8) 2 rfl) rfl (by decide) ?_
        refine Ak_keep [true, true, true, true, true, true, true, false, true] ?_
        exact t_M_likely_L198 hO (fun h => hK139 h) (fun h => ih h) FU _ _ _ _ _ h
      · replace h := it_t hc h
        refine Ak_goto 286 (d_M_likely 102 189 (.goto 97) 3 rfl) rfl ?_
        refine Ak_iinc 289 (d_M_likely 157 286 (.iinc 4 1) 3 rfl) rfl rfl (by decide) ?_
        refine Ak_goto 147 (d_M_likely 158 289 (.goto (-142)) 3 rfl) rfl ?_
        refine Ak_keep [true, true, true, true, true] ?_
        exact ih h
theorem t_M_likely_L139 {S : ASh} {x0 x1 x2 : Int} (hO : isO S x0 13 = true) : ∀ (n : Nat) (V : ASt) (x3 : Int) (r : Int) (V' : ASt), b_M_likely_L139 S x0 x1 x2 n V x3 = some (r, V') → AWk m_M_likely 9 0 0 0 0 139 [some (aR x0), some (aI x1), some (aI x2), some (aI x3)] [] S V (some (aI r)) S V' := by
  intro n
  induction n with
  | zero => intro V x3 r V' h; cases h
  | succ n ih =>
    intro V x3 r V' h
    replace ih : ∀ {V : ASt} {x3 : Int} {r : Int} {V' : ASt}, b_M_likely_L139 S x0 x1 x2 n V x3 = some (r, V') → AWk m_M_likely 9 0 0 0 0 139 [some (aR x0), some (aI x1), some (aI x2), some (aI x3)] [] S V (some (aI r)) S V' := fun h => ih _ _ _ _ h
    rw [b_M_likely_L139] at h
    refine Ak_iload_n 140 3 (d_M_likely 75 139 (.iload_n 3) 1 rfl) rfl rfl rfl ?_
    refine Ak_iload_n 141 1 (d_M_likely 76 140 (.iload_n 1) 1 rfl) rfl rfl rfl ?_
    refine Ak_icmp_ge 340 144 (d_M_likely 77 141 (.if_icmp .ge 199) 3 rfl) rfl rfl (fun hc => ?_) (fun hc => ?_)
    · replace h := it_t hc h
      refine Ak_aload_n 341 0 (d_M_likely 183 340 (.aload_n 0) 1 rfl) rfl rfl rfl ?_
      refine Ak_getF 344 63 hO clX13 (by decide) rfl lkF_M_204 (d_M_likely 184 341 (.getfield 204) 3 rfl) rfl ?_
      refine Ak_iload_n 345 2 (d_M_likely 185 344 (.iload_n 2) 1 rfl) rfl rfl rfl ?_
      obtain ⟨ha27, h⟩ := gd_some h
      refine Ak_laload 346 ha27 (d_M_likely 186 345 (.laload) 1 rfl) rfl ?_
      refine Ak_l2i 347 (d_M_likely 187 346 (.l2i) 1 rfl) rfl ?_
      cases h
      exact Ak_iret rfl (d_M_likely 188 347 (.ireturn) 1 rfl)
    · replace h := it_f hc h
      refine Ak_iconst 145 (d_M_likely 78 144 (.iconst 0) 1 rfl) rfl (rk rfl) ?_
      refine Ak_istore 147 (d_M_likely 79 145 (.istore 4) 2 rfl) rfl (by decide) ?_
      refine Ak_keep [true, true, true, true, true] ?_
      exact t_M_likely_L147 hO (fun h => ih h) FU _ _ _ _ h
theorem t_M_likely_L39 {S : ASh} {x0 x1 x2 : Int} (hO : isO S x0 13 = true) : ∀ (n : Nat) (V : ASt) (x3 : Int) (r : Int) (V' : ASt), b_M_likely_L39 S x0 x1 x2 n V x3 = some (r, V') → AWk m_M_likely 9 0 0 0 0 39 [some (aR x0), some (aI x1), some (aI x2), some (aI x3)] [] S V (some (aI r)) S V' := by
  intro n
  induction n with
  | zero => intro V x3 r V' h; cases h
  | succ n ih =>
    intro V x3 r V' h
    replace ih : ∀ {V : ASt} {x3 : Int} {r : Int} {V' : ASt}, b_M_likely_L39 S x0 x1 x2 n V x3 = some (r, V') → AWk m_M_likely 9 0 0 0 0 39 [some (aR x0), some (aI x1), some (aI x2), some (aI x3)] [] S V (some (aI r)) S V' := fun h => ih _ _ _ _ h
    rw [b_M_likely_L39] at h
    refine Ak_iload_n 40 3 (d_M_likely 22 39 (.iload_n 3) 1 rfl) rfl rfl rfl ?_
    refine Ak_aload_n 41 0 (d_M_likely 23 40 (.aload_n 0) 1 rfl) rfl rfl rfl ?_
    refine Ak_getI 44 56 hO clX13 (by decide) (Or.inl rfl) lkF_M_183 (d_M_likely 24 41 (.getfield 183) 3 rfl) rfl ?_
    refine Ak_icmp_ge 137 47 (d_M_likely 25 44 (.if_icmp .ge 93) 3 rfl) rfl rfl (fun hc => ?_) (fun hc => ?_)
    · replace h := it_t hc h
      refine Ak_iconst 138 (d_M_likely 73 137 (.iconst 0) 1 rfl) rfl (rk rfl) ?_
      refine Ak_istore_n 139 3 (d_M_likely 74 138 (.istore_n 3) 1 rfl) rfl rfl (by decide) ?_
      refine Ak_keep [true, true, true, true] ?_
      exact t_M_likely_L139 hO FU _ _ _ _ h
    · replace h := it_f hc h
      refine Ak_aload_n 48 0 (d_M_likely 26 47 (.aload_n 0) 1 rfl) rfl rfl rfl ?_
      refine Ak_getF 51 55 hO clX13 (by decide) rfl lkF_M_180 (d_M_likely 27 48 (.getfield 180) 3 rfl) rfl ?_
      refine Ak_iload_n 52 3 (d_M_likely 28 51 (.iload_n 3) 1 rfl) rfl rfl rfl ?_
      obtain ⟨ha28, h⟩ := gd_some h
      refine Ak_iaload 53 ha28 (d_M_likely 29 52 (.iaload) 1 rfl) rfl ?_
      refine Ak_istore 55 (d_M_likely 30 53 (.istore 4) 2 rfl) rfl (by decide) ?_
      refine Ak_aload_n 56 0 (d_M_likely 31 55 (.aload_n 0) 1 rfl) rfl rfl rfl ?_
      refine Ak_getF 59 51 hO clX13 (by decide) rfl lkF_M_168 (d_M_likely 32 56 (.getfield 168) 3 rfl) rfl ?_
      refine Ak_iload 61 (d_M_likely 33 59 (.iload 4) 2 rfl) rfl rfl ?_
      obtain ⟨ha29, h⟩ := gd_some h
      refine Ak_iaload 62 ha29 (d_M_likely 34 61 (.iaload) 1 rfl) rfl ?_
      refine Ak_if_ne 109 65 (d_M_likely 35 62 (.ifCond .ne 47) 3 rfl) rfl rfl (fun hc => ?_) (fun hc => ?_)
      · replace h := it_f hc h
        refine Ak_iconst 110 (d_M_likely 60 109 (.iconst 0) 1 rfl) rfl (rk rfl) ?_
        refine Ak_keep [true, true, true, true, true] ?_
        exact t_M_likely_J110 hO (fun h => ih h) h
      · replace h := it_t hc h
        refine Ak_aload_n 66 0 (d_M_likely 36 65 (.aload_n 0) 1 rfl) rfl rfl rfl ?_
        refine Ak_getF 69 18 hO clX13 (by decide) rfl lkF_M_67 (d_M_likely 37 66 (.getfield 67) 3 rfl) rfl ?_
        refine Ak_aload_n 70 0 (d_M_likely 38 69 (.aload_n 0) 1 rfl) rfl rfl rfl ?_
        refine Ak_getI 73 12 hO clX13 (by decide) (Or.inl rfl) lkF_M_48 (d_M_likely 39 70 (.getfield 48) 3 rfl) rfl ?_
        obtain ⟨ha30, h⟩ := gd_some h
        refine Ak_iaload 74 ha30 (d_M_likely 40 73 (.iaload) 1 rfl) rfl ?_
        refine Ak_iconst 75 (d_M_likely 41 74 (.iconst 2) 1 rfl) rfl (rk rfl) ?_
        refine Ak_icmp_ne 85 78 (d_M_likely 42 75 (.if_icmp .ne 10) 3 rfl) rfl rfl (fun hc => ?_) (fun hc => ?_)
        · replace h := it_f hc h
          refine Ak_keep [true, true, true, true, true] ?_
          exact t_M_likely_J85 hO (fun h => ih h) h
        · replace h := it_t hc h
          refine Ak_iload 80 (d_M_likely 43 78 (.iload 4) 2 rfl) rfl rfl ?_
          refine Ak_iconst 81 (d_M_likely 44 80 (.iconst 2) 1 rfl) rfl (rk rfl) ?_
          refine Ak_irem 82 (d_M_likely 45 81 (.irem) 1 rfl) rfl (by decide) ?_
          refine Ak_if_eq 105 85 (d_M_likely 46 82 (.ifCond .eq 23) 3 rfl) rfl rfl (fun hc => ?_) (fun hc => ?_)
          · replace h := it_t hc h
            refine Ak_iconst 106 (d_M_likely 58 105 (.iconst 1) 1 rfl) rfl (rk rfl) ?_
            refine Ak_goto 110 (d_M_likely 59 106 (.goto 4) 3 rfl) rfl ?_
            refine Ak_keep [true, true, true, true, true] ?_
            exact t_M_likely_J110 hO (fun h => ih h) h
          · replace h := it_f hc h
            refine Ak_keep [true, true, true, true, true] ?_
            exact t_M_likely_J85 hO (fun h => ih h) h
theorem c_M_likely {S : ASh} {V : ASt} {x0 x1 : Int} {r : Int} {V' : ASt} (h : f_M_likely S V x0 x1 = some (r, V')) : ACt m_M_likely 9 0 0 [(aR x0), (aI x1)] S V (some (aI r)) S V' := by
  unfold f_M_likely at h
  obtain ⟨hO, h⟩ := gd_some h
  refine ACt_of (plainFor_of_name rfl) rfl (Nat.le_of_ble_eq_true rfl) ?_
  show AWk m_M_likely 9 0 0 0 0 0 [some (aR x0), some (aI x1)] [] S V (some (aI r)) S V'
  refine Ak_aload_n 1 0 (d_M_likely 0 0 (.aload_n 0) 1 rfl) rfl rfl rfl ?_
  obtain ⟨r31, V32, h33, h⟩ := bnd_some h
  refine Ak_cV1 4 2 (c_M_hasFields h33) rfl hO clX13 rfl mok_M_hasFields lkM_M_448 (d_M_likely 1 1 (.invokevirtual 448) 3 rfl) rfl (by decide) (Nat.le_of_ble_eq_true rfl) ?_
  refine Ak_if_eq 17 7 (d_M_likely 2 4 (.ifCond .eq 13) 3 rfl) rfl rfl (fun hc => ?_) (fun hc => ?_)
  · replace h := it_t hc h
    refine Ak_iconst 18 (d_M_likely 8 17 (.iconst (-1)) 1 rfl) rfl (rk rfl) ?_
    cases h
    exact Ak_iret rfl (d_M_likely 9 18 (.ireturn) 1 rfl)
  · replace h := it_f hc h
    refine Ak_iload_n 8 1 (d_M_likely 3 7 (.iload_n 1) 1 rfl) rfl rfl rfl ?_
    refine Ak_iconst 9 (d_M_likely 4 8 (.iconst 0) 1 rfl) rfl (rk rfl) ?_
    refine Ak_bipush 11 (d_M_likely 5 9 (.bipush 40) 2 rfl) rfl (bp_ok rfl) (rk rfl) ?_
    obtain ⟨r34, V35, h36, h⟩ := bnd_some h
    refine Ak_cS1 14 2 (c_M_is h36) rfl mok_M_is lkM_M_329 (d_M_likely 6 11 (.invokestatic 329) 3 rfl) rfl (by decide) (Nat.le_of_ble_eq_true rfl) ?_
    refine Ak_if_ne 19 17 (d_M_likely 7 14 (.ifCond .ne 5) 3 rfl) rfl rfl (fun hc => ?_) (fun hc => ?_)
    · replace h := it_f hc h
      refine Ak_aload_n 20 0 (d_M_likely 10 19 (.aload_n 0) 1 rfl) rfl rfl rfl ?_
      refine Ak_aload_n 21 0 (d_M_likely 11 20 (.aload_n 0) 1 rfl) rfl rfl rfl ?_
      refine Ak_getI 24 48 hO clX13 (by decide) (Or.inl rfl) lkF_M_159 (d_M_likely 12 21 (.getfield 159) 3 rfl) rfl ?_
      obtain ⟨r37, V38, h39, h⟩ := bnd_some h
      refine Ak_cV1 27 3 (c_M_beginning h39) rfl hO clX13 rfl mok_M_beginning lkM_M_512 (d_M_likely 13 24 (.invokevirtual 512) 3 rfl) rfl (by decide) (Nat.le_of_ble_eq_true rfl) ?_
      refine Ak_istore_n 28 2 (d_M_likely 14 27 (.istore_n 2) 1 rfl) rfl rfl (by decide) ?_
      refine Ak_aload_n 29 0 (d_M_likely 15 28 (.aload_n 0) 1 rfl) rfl rfl rfl ?_
      refine Ak_iload_n 30 2 (d_M_likely 16 29 (.iload_n 2) 1 rfl) rfl rfl rfl ?_
      obtain ⟨r40, V41, h42, h⟩ := bnd_some h
      refine Ak_cV0 33 8 (c_M_lays h42) rfl hO clX13 rfl mok_M_lays lkM_M_496 (d_M_likely 17 30 (.invokevirtual 496) 3 rfl) rfl (by decide) (Nat.le_of_ble_eq_true rfl) ?_
      refine Ak_aload_n 34 0 (d_M_likely 18 33 (.aload_n 0) 1 rfl) rfl rfl rfl ?_
      obtain ⟨r43, V44, h45, h⟩ := bnd_some h
      refine Ak_cV0 37 3 (c_M_worths h45) rfl hO clX13 rfl mok_M_worths lkM_M_506 (d_M_likely 19 34 (.invokevirtual 506) 3 rfl) rfl (by decide) (Nat.le_of_ble_eq_true rfl) ?_
      refine Ak_iconst 38 (d_M_likely 20 37 (.iconst 0) 1 rfl) rfl (rk rfl) ?_
      refine Ak_istore_n 39 3 (d_M_likely 21 38 (.istore_n 3) 1 rfl) rfl rfl (by decide) ?_
      refine Ak_keep [true, true, true, true] ?_
      exact t_M_likely_L39 hO FU _ _ _ _ h
    · replace h := it_t hc h
      refine Ak_iconst 18 (d_M_likely 8 17 (.iconst (-1)) 1 rfl) rfl (rk rfl) ?_
      cases h
      exact Ak_iret rfl (d_M_likely 9 18 (.ireturn) 1 rfl)
theorem c_M_isChange {S : ASh} {V : ASt} {x0 x1 : Int} {r : Int} {V' : ASt} (h : f_M_isChange S V x0 x1 = some (r, V')) : ACt m_M_isChange 3 0 0 [(aR x0), (aI x1)] S V (some (aI r)) S V' := by
  unfold f_M_isChange at h
  obtain ⟨hO, h⟩ := gd_some h
  refine ACt_of (plainFor_of_name rfl) rfl (Nat.le_of_ble_eq_true rfl) ?_
  show AWk m_M_isChange 3 0 0 0 0 0 [some (aR x0), some (aI x1)] [] S V (some (aI r)) S V'
  refine Ak_aload_n 1 0 (d_M_isChange 0 0 (.aload_n 0) 1 rfl) rfl rfl rfl ?_
  obtain ⟨r1, V2, h3, h⟩ := bnd_some h
  refine Ak_cV1 4 2 (c_M_hasFields h3) rfl hO clX13 rfl mok_M_hasFields lkM_M_448 (d_M_isChange 1 1 (.invokevirtual 448) 3 rfl) rfl (by decide) (Nat.le_of_ble_eq_true rfl) ?_
  refine Ak_if_eq 24 7 (d_M_isChange 2 4 (.ifCond .eq 20) 3 rfl) rfl rfl (fun hc => ?_) (fun hc => ?_)
  · replace h := it_t hc h
    refine Ak_iconst 25 (d_M_isChange 13 24 (.iconst 0) 1 rfl) rfl (rk rfl) ?_
    cases h
    exact Ak_zret (Or.inl rfl) rfl (d_M_isChange 14 25 (.ireturn) 1 rfl)
  · replace h := it_f hc h
    refine Ak_iload_n 8 1 (d_M_isChange 3 7 (.iload_n 1) 1 rfl) rfl rfl rfl ?_
    refine Ak_iconst 9 (d_M_isChange 4 8 (.iconst 0) 1 rfl) rfl (rk rfl) ?_
    refine Ak_bipush 11 (d_M_isChange 5 9 (.bipush 6) 2 rfl) rfl (bp_ok rfl) (rk rfl) ?_
    refine Ak_aload_n 12 0 (d_M_isChange 6 11 (.aload_n 0) 1 rfl) rfl rfl rfl ?_
    obtain ⟨r4, V5, h6, h⟩ := bnd_some h
    refine Ak_cV1 15 2 (c_M_rulesAll h6) rfl hO clX13 rfl mok_M_rulesAll lkM_M_436 (d_M_isChange 7 12 (.invokevirtual 436) 3 rfl) rfl (by decide) (Nat.le_of_ble_eq_true rfl) ?_
    refine Ak_imul 16 (d_M_isChange 8 15 (.imul) 1 rfl) rfl ?_
    refine Ak_iconst 17 (d_M_isChange 9 16 (.iconst 1) 1 rfl) rfl (rk rfl) ?_
    refine Ak_isub 18 (d_M_isChange 10 17 (.isub) 1 rfl) rfl ?_
    obtain ⟨r7, V8, h9, h⟩ := bnd_some h
    refine Ak_cS1 21 2 (c_M_is h9) rfl mok_M_is lkM_M_329 (d_M_isChange 11 18 (.invokestatic 329) 3 rfl) rfl (by decide) (Nat.le_of_ble_eq_true rfl) ?_
    refine Ak_if_ne 26 24 (d_M_isChange 12 21 (.ifCond .ne 5) 3 rfl) rfl rfl (fun hc => ?_) (fun hc => ?_)
    · replace h := it_f hc h
      refine Ak_iload_n 27 1 (d_M_isChange 15 26 (.iload_n 1) 1 rfl) rfl rfl rfl ?_
      refine Ak_bipush 29 (d_M_isChange 16 27 (.bipush 6) 2 rfl) rfl (bp_ok rfl) (rk rfl) ?_
      refine Ak_idiv 30 (d_M_isChange 17 29 (.idiv) 1 rfl) rfl (by decide) ?_
      refine Ak_istore_n 31 2 (d_M_isChange 18 30 (.istore_n 2) 1 rfl) rfl rfl (by decide) ?_
      refine Ak_aload_n 32 0 (d_M_isChange 19 31 (.aload_n 0) 1 rfl) rfl rfl rfl ?_
      refine Ak_getF 35 44 hO clX13 (by decide) rfl lkF_M_147 (d_M_isChange 20 32 (.getfield 147) 3 rfl) rfl ?_
      refine Ak_iload_n 36 2 (d_M_isChange 21 35 (.iload_n 2) 1 rfl) rfl rfl rfl ?_
      obtain ⟨ha10, h⟩ := gd_some h
      refine Ak_iaload 37 ha10 (d_M_isChange 22 36 (.iaload) 1 rfl) rfl ?_
      refine Ak_istore_n 38 3 (d_M_isChange 23 37 (.istore_n 3) 1 rfl) rfl rfl (by decide) ?_
      refine Ak_iload_n 39 1 (d_M_isChange 24 38 (.iload_n 1) 1 rfl) rfl rfl rfl ?_
      refine Ak_bipush 41 (d_M_isChange 25 39 (.bipush 6) 2 rfl) rfl (bp_ok rfl) (rk rfl) ?_
      refine Ak_irem 42 (d_M_isChange 26 41 (.irem) 1 rfl) rfl (by decide) ?_
      refine Ak_istore 44 (d_M_isChange 27 42 (.istore 4) 2 rfl) rfl (by decide) ?_
      refine Ak_aload_n 45 0 (d_M_isChange 28 44 (.aload_n 0) 1 rfl) rfl rfl rfl ?_
      refine Ak_getF 48 24 hO clX13 (by decide) rfl lkF_M_85 (d_M_isChange 29 45 (.getfield 85) 3 rfl) rfl ?_
      refine Ak_aload_n 49 0 (d_M_isChange 30 48 (.aload_n 0) 1 rfl) rfl rfl rfl ?_
      refine Ak_iload_n 50 3 (d_M_isChange 31 49 (.iload_n 3) 1 rfl) rfl rfl rfl ?_
      obtain ⟨r11, V12, h13, h⟩ := bnd_some h
      refine Ak_cV1 53 2 (c_M_told h13) rfl hO clX13 rfl mok_M_told lkM_M_439 (d_M_isChange 32 50 (.invokevirtual 439) 3 rfl) rfl (by decide) (Nat.le_of_ble_eq_true rfl) ?_
      obtain ⟨ha14, h⟩ := gd_some h
      refine Ak_baload 54 ha14 (d_M_isChange 33 53 (.baload) 1 rfl) rfl ?_
      refine Ak_if_eq 59 57 (d_M_isChange 34 54 (.ifCond .eq 5) 3 rfl) rfl rfl (fun hc => ?_) (fun hc => ?_)
      · replace h := it_t hc h
        refine Ak_iload 61 (d_M_isChange 37 59 (.iload 4) 2 rfl) rfl rfl ?_
        refine Ak_iconst 62 (d_M_isChange 38 61 (.iconst 2) 1 rfl) rfl (rk rfl) ?_
        refine Ak_icmp_ge 67 65 (d_M_isChange 39 62 (.if_icmp .ge 5) 3 rfl) rfl rfl (fun hc => ?_) (fun hc => ?_)
        · replace h := it_t hc h
          refine Ak_iload 69 (d_M_isChange 42 67 (.iload 4) 2 rfl) rfl rfl ?_
          refine Ak_iconst 70 (d_M_isChange 43 69 (.iconst 5) 1 rfl) rfl (rk rfl) ?_
          refine Ak_icmp_ge 120 73 (d_M_isChange 44 70 (.if_icmp .ge 50) 3 rfl) rfl rfl (fun hc => ?_) (fun hc => ?_)
          · replace h := it_t hc h
            refine Ak_iload_n 121 2 (d_M_isChange 73 120 (.iload_n 2) 1 rfl) rfl rfl rfl ?_
            refine Ak_iconst 122 (d_M_isChange 74 121 (.iconst 1) 1 rfl) rfl (rk rfl) ?_
            refine Ak_iadd 123 (d_M_isChange 75 122 (.iadd) 1 rfl) rfl ?_
            refine Ak_aload_n 124 0 (d_M_isChange 76 123 (.aload_n 0) 1 rfl) rfl rfl rfl ?_
            obtain ⟨r15, V16, h17, h⟩ := bnd_some h
            refine Ak_cV1 127 2 (c_M_rulesAll h17) rfl hO clX13 rfl mok_M_rulesAll lkM_M_436 (d_M_isChange 77 124 (.invokevirtual 436) 3 rfl) rfl (by decide) (Nat.le_of_ble_eq_true rfl) ?_
            refine Ak_icmp_ge 154 130 (d_M_isChange 78 127 (.if_icmp .ge 27) 3 rfl) rfl rfl (fun hc => ?_) (fun hc => ?_)
            · replace h := it_t hc h
              refine Ak_iconst 155 (d_M_isChange 93 154 (.iconst 0) 1 rfl) rfl (rk rfl) ?_
              cases h
              exact Ak_zret (Or.inl rfl) rfl (d_M_isChange 94 155 (.ireturn) 1 rfl)
            · replace h := it_f hc h
              refine Ak_aload_n 131 0 (d_M_isChange 79 130 (.aload_n 0) 1 rfl) rfl rfl rfl ?_
              refine Ak_getF 134 24 hO clX13 (by decide) rfl lkF_M_85 (d_M_isChange 80 131 (.getfield 85) 3 rfl) rfl ?_
              refine Ak_aload_n 135 0 (d_M_isChange 81 134 (.aload_n 0) 1 rfl) rfl rfl rfl ?_
              refine Ak_aload_n 136 0 (d_M_isChange 82 135 (.aload_n 0) 1 rfl) rfl rfl rfl ?_
              refine Ak_getF 139 44 hO clX13 (by decide) rfl lkF_M_147 (d_M_isChange 83 136 (.getfield 147) 3 rfl) rfl ?_
              refine Ak_iload_n 140 2 (d_M_isChange 84 139 (.iload_n 2) 1 rfl) rfl rfl rfl ?_
              refine Ak_iconst 141 (d_M_isChange 85 140 (.iconst 1) 1 rfl) rfl (rk rfl) ?_
              refine Ak_iadd 142 (d_M_isChange 86 141 (.iadd) 1 rfl) rfl ?_
              obtain ⟨ha18, h⟩ := gd_some h
              refine Ak_iaload 143 ha18 (d_M_isChange 87 142 (.iaload) 1 rfl) rfl ?_
              obtain ⟨r19, V20, h21, h⟩ := bnd_some h
              refine Ak_cV1 146 2 (c_M_told h21) rfl hO clX13 rfl mok_M_told lkM_M_439 (d_M_isChange 88 143 (.invokevirtual 439) 3 rfl) rfl (by decide) (Nat.le_of_ble_eq_true rfl) ?_
              obtain ⟨ha22, h⟩ := gd_some h
              refine Ak_baload 147 ha22 (d_M_isChange 89 146 (.baload) 1 rfl) rfl ?_
              refine Ak_if_ne 154 150 (d_M_isChange 90 147 (.ifCond .ne 7) 3 rfl) rfl rfl (fun hc => ?_) (fun hc => ?_)
              · replace h := it_f hc h
                refine Ak_iconst 155 (d_M_isChange 93 154 (.iconst 0) 1 rfl) rfl (rk rfl) ?_
                cases h
                exact Ak_zret (Or.inl rfl) rfl (d_M_isChange 94 155 (.ireturn) 1 rfl)
              · replace h := it_t hc h
                refine Ak_iconst 151 (d_M_isChange 91 150 (.iconst 1) 1 rfl) rfl (rk rfl) ?_
                refine Ak_goto 155 (d_M_isChange 92 151 (.goto 4) 3 rfl) rfl ?_
                cases h
                exact Ak_zret (Or.inr rfl) rfl (d_M_isChange 94 155 (.ireturn) 1 rfl)
          · replace h := it_f hc h
            refine Ak_aload_n 74 0 (d_M_isChange 45 73 (.aload_n 0) 1 rfl) rfl rfl rfl ?_
            refine Ak_getF 77 20 hO clX13 (by decide) rfl lkF_M_73 (d_M_isChange 46 74 (.getfield 73) 3 rfl) rfl ?_
            refine Ak_aload_n 78 0 (d_M_isChange 47 77 (.aload_n 0) 1 rfl) rfl rfl rfl ?_
            refine Ak_iload_n 79 3 (d_M_isChange 48 78 (.iload_n 3) 1 rfl) rfl rfl rfl ?_
            obtain ⟨r23, V24, h25, h⟩ := bnd_some h
            refine Ak_cV1 82 2 (c_M_told h25) rfl hO clX13 rfl mok_M_told lkM_M_439 (d_M_isChange 49 79 (.invokevirtual 439) 3 rfl) rfl (by decide) (Nat.le_of_ble_eq_true rfl) ?_
            obtain ⟨ha26, h⟩ := gd_some h
            refine Ak_iaload 83 ha26 (d_M_isChange 50 82 (.iaload) 1 rfl) rfl ?_
            refine Ak_iconst 84 (d_M_isChange 51 83 (.iconst 2) 1 rfl) rfl (rk rfl) ?_
            refine Ak_icmp_ge 118 87 (d_M_isChange 52 84 (.if_icmp .ge 34) 3 rfl) rfl rfl (fun hc => ?_) (fun hc => ?_)
            · replace h := it_t hc h
              refine Ak_iconst 119 (d_M_isChange 71 118 (.iconst 0) 1 rfl) rfl (rk rfl) ?_
              cases h
              exact Ak_zret (Or.inl rfl) rfl (d_M_isChange 72 119 (.ireturn) 1 rfl)
            · replace h := it_f hc h
              refine Ak_aload_n 88 0 (d_M_isChange 53 87 (.aload_n 0) 1 rfl) rfl rfl rfl ?_
              refine Ak_getF 91 22 hO clX13 (by decide) rfl lkF_M_79 (d_M_isChange 54 88 (.getfield 79) 3 rfl) rfl ?_
              refine Ak_aload_n 92 0 (d_M_isChange 55 91 (.aload_n 0) 1 rfl) rfl rfl rfl ?_
              refine Ak_iload_n 93 3 (d_M_isChange 56 92 (.iload_n 3) 1 rfl) rfl rfl rfl ?_
              obtain ⟨r27, V28, h29, h⟩ := bnd_some h
              refine Ak_cV1 96 2 (c_M_told h29) rfl hO clX13 rfl mok_M_told lkM_M_439 (d_M_isChange 57 93 (.invokevirtual 439) 3 rfl) rfl (by decide) (Nat.le_of_ble_eq_true rfl) ?_
              obtain ⟨ha30, h⟩ := gd_some h
              refine Ak_iaload 97 ha30 (d_M_isChange 58 96 (.iaload) 1 rfl) rfl ?_
              refine Ak_iconst 98 (d_M_isChange 59 97 (.iconst 2) 1 rfl) rfl (rk rfl) ?_
              refine Ak_icmp_eq 118 101 (d_M_isChange 60 98 (.if_icmp .eq 20) 3 rfl) rfl rfl (fun hc => ?_) (fun hc => ?_)
              · replace h := it_t hc h
                refine Ak_iconst 119 (d_M_isChange 71 118 (.iconst 0) 1 rfl) rfl (rk rfl) ?_
                cases h
                exact Ak_zret (Or.inl rfl) rfl (d_M_isChange 72 119 (.ireturn) 1 rfl)
              · replace h := it_f hc h
                refine Ak_aload_n 102 0 (d_M_isChange 61 101 (.aload_n 0) 1 rfl) rfl rfl rfl ?_
                refine Ak_getF 105 47 hO clX13 (by decide) rfl lkF_M_156 (d_M_isChange 62 102 (.getfield 156) 3 rfl) rfl ?_
                refine Ak_iload_n 106 3 (d_M_isChange 63 105 (.iload_n 3) 1 rfl) rfl rfl rfl ?_
                obtain ⟨ha31, h⟩ := gd_some h
                refine Ak_iaload 107 ha31 (d_M_isChange 64 106 (.iaload) 1 rfl) rfl ?_
                refine Ak_iload 109 (d_M_isChange 65 107 (.iload 4) 2 rfl) rfl rfl ?_
                refine Ak_iconst 110 (d_M_isChange 66 109 (.iconst 1) 1 rfl) rfl (rk rfl) ?_
                refine Ak_isub 111 (d_M_isChange 67 110 (.isub) 1 rfl) rfl ?_
                refine Ak_icmp_eq 118 114 (d_M_isChange 68 111 (.if_icmp .eq 7) 3 rfl) rfl rfl (fun hc => ?_) (fun hc => ?_)
                · replace h := it_t hc h
                  refine Ak_iconst 119 (d_M_isChange 71 118 (.iconst 0) 1 rfl) rfl (rk rfl) ?_
                  cases h
                  exact Ak_zret (Or.inl rfl) rfl (d_M_isChange 72 119 (.ireturn) 1 rfl)
                · replace h := it_f hc h
                  refine Ak_iconst 115 (d_M_isChange 69 114 (.iconst 1) 1 rfl) rfl (rk rfl) ?_
                  refine Ak_goto 119 (d_M_isChange 70 115 (.goto 4) 3 rfl) rfl ?_
                  cases h
                  exact Ak_zret (Or.inr rfl) rfl (d_M_isChange 72 119 (.ireturn) 1 rfl)
        · replace h := it_f hc h
          refine Ak_iconst 66 (d_M_isChange 40 65 (.iconst 1) 1 rfl) rfl (rk rfl) ?_
          cases h
          exact Ak_zret (Or.inr rfl) rfl (d_M_isChange 41 66 (.ireturn) 1 rfl)
      · replace h := it_f hc h
        refine Ak_iconst 58 (d_M_isChange 35 57 (.iconst 0) 1 rfl) rfl (rk rfl) ?_
        cases h
        exact Ak_zret (Or.inl rfl) rfl (d_M_isChange 36 58 (.ireturn) 1 rfl)
    · replace h := it_t hc h
      refine Ak_iconst 25 (d_M_isChange 13 24 (.iconst 0) 1 rfl) rfl (rk rfl) ?_
      cases h
      exact Ak_zret (Or.inl rfl) rfl (d_M_isChange 14 25 (.ireturn) 1 rfl)
theorem t_M_change_L4 {S : ASh} {x0 x1 : Int} (hO : isO S x0 13 = true) : ∀ (n : Nat) (V : ASt) (x2 x3 : Int) (r : Int) (V' : ASt), b_M_change_L4 S x0 x1 n V x2 x3 = some (r, V') → AWk m_M_change 4 0 0 0 0 4 [some (aR x0), some (aI x1), some (aI x2), some (aI x3)] [] S V (some (aI r)) S V' := by
  intro n
  induction n with
  | zero => intro V x2 x3 r V' h; cases h
  | succ n ih =>
    intro V x2 x3 r V' h
    replace ih : ∀ {V : ASt} {x2 x3 : Int} {r : Int} {V' : ASt}, b_M_change_L4 S x0 x1 n V x2 x3 = some (r, V') → AWk m_M_change 4 0 0 0 0 4 [some (aR x0), some (aI x1), some (aI x2), some (aI x3)] [] S V (some (aI r)) S V' := fun h => ih _ _ _ _ _ h
    rw [b_M_change_L4] at h
    refine Ak_iload_n 5 3 (d_M_change 4 4 (.iload_n 3) 1 rfl) rfl rfl rfl ?_
    refine Ak_bipush 7 (d_M_change 5 5 (.bipush 6) 2 rfl) rfl (bp_ok rfl) (rk rfl) ?_
    refine Ak_aload_n 8 0 (d_M_change 6 7 (.aload_n 0) 1 rfl) rfl rfl rfl ?_
    obtain ⟨r1, V2, h3, h⟩ := bnd_some h
    refine Ak_cV1 11 2 (c_M_rulesAll h3) rfl hO clX13 rfl mok_M_rulesAll lkM_M_436 (d_M_change 7 8 (.invokevirtual 436) 3 rfl) rfl (by decide) (Nat.le_of_ble_eq_true rfl) ?_
    refine Ak_imul 12 (d_M_change 8 11 (.imul) 1 rfl) rfl ?_
    refine Ak_icmp_ge 42 15 (d_M_change 9 12 (.if_icmp .ge 30) 3 rfl) rfl rfl (fun hc => ?_) (fun hc => ?_)
    · replace h := it_t hc h
      refine Ak_iload_n 43 1 (d_M_change 23 42 (.iload_n 1) 1 rfl) rfl rfl rfl ?_
      refine Ak_iconst 44 (d_M_change 24 43 (.iconst (-1)) 1 rfl) rfl (rk rfl) ?_
      refine Ak_icmp_ne 51 47 (d_M_change 25 44 (.if_icmp .ne 7) 3 rfl) rfl rfl (fun hc => ?_) (fun hc => ?_)
      · replace h := it_f hc h
        refine Ak_iconst 52 (d_M_change 28 51 (.iconst (-1)) 1 rfl) rfl (rk rfl) ?_
        cases h
        exact Ak_iret rfl (d_M_change 29 52 (.ireturn) 1 rfl)
      · replace h := it_t hc h
        refine Ak_iload_n 48 2 (d_M_change 26 47 (.iload_n 2) 1 rfl) rfl rfl rfl ?_
        refine Ak_goto 52 (d_M_change 27 48 (.goto 4) 3 rfl) rfl ?_
        cases h
        exact Ak_iret rfl (d_M_change 29 52 (.ireturn) 1 rfl)
    · replace h := it_f hc h
      refine Ak_aload_n 16 0 (d_M_change 10 15 (.aload_n 0) 1 rfl) rfl rfl rfl ?_
      refine Ak_iload_n 17 3 (d_M_change 11 16 (.iload_n 3) 1 rfl) rfl rfl rfl ?_
      obtain ⟨r4, V5, h6, h⟩ := bnd_some h
      refine Ak_cV1 20 3 (c_M_isChange h6) rfl hO clX13 rfl mok_M_isChange lkM_M_528 (d_M_change 12 17 (.invokevirtual 528) 3 rfl) rfl (by decide) (Nat.le_of_ble_eq_true rfl) ?_
      refine Ak_if_ne 26 23 (d_M_change 13 20 (.ifCond .ne 6) 3 rfl) rfl rfl (fun hc => ?_) (fun hc => ?_)
      · replace h := it_f hc h
        refine Ak_iload_n 27 2 (d_M_change 15 26 (.iload_n 2) 1 rfl) rfl rfl rfl ?_
        refine Ak_iload_n 28 1 (d_M_change 16 27 (.iload_n 1) 1 rfl) rfl rfl rfl ?_
        refine Ak_icmp_ne 33 31 (d_M_change 17 28 (.if_icmp .ne 5) 3 rfl) rfl rfl (fun hc => ?_) (fun hc => ?_)
        · replace h := it_f hc h
          refine Ak_iinc 36 (d_M_change 20 33 (.iinc 2 1) 3 rfl) rfl rfl (by decide) ?_
          refine Ak_iinc 39 (d_M_change 21 36 (.iinc 3 1) 3 rfl) rfl rfl (by decide) ?_
          refine Ak_goto 4 (d_M_change 22 39 (.goto (-35)) 3 rfl) rfl ?_
          refine Ak_keep [true, true, true, true] ?_
          exact ih h
        · replace h := it_t hc h
          refine Ak_iload_n 32 3 (d_M_change 18 31 (.iload_n 3) 1 rfl) rfl rfl rfl ?_
          cases h
          exact Ak_iret rfl (d_M_change 19 32 (.ireturn) 1 rfl)
      · replace h := it_t hc h
        refine Ak_goto 36 (d_M_change 14 23 (.goto 13) 3 rfl) rfl ?_
        refine Ak_iinc 39 (d_M_change 21 36 (.iinc 3 1) 3 rfl) rfl rfl (by decide) ?_
        refine Ak_goto 4 (d_M_change 22 39 (.goto (-35)) 3 rfl) rfl ?_
        refine Ak_keep [true, true, true, true] ?_
        exact ih h
theorem c_M_change {S : ASh} {V : ASt} {x0 x1 : Int} {r : Int} {V' : ASt} (h : f_M_change S V x0 x1 = some (r, V')) : ACt m_M_change 4 0 0 [(aR x0), (aI x1)] S V (some (aI r)) S V' := by
  unfold f_M_change at h
  obtain ⟨hO, h⟩ := gd_some h
  refine ACt_of (plainFor_of_name rfl) rfl (Nat.le_of_ble_eq_true rfl) ?_
  show AWk m_M_change 4 0 0 0 0 0 [some (aR x0), some (aI x1)] [] S V (some (aI r)) S V'
  refine Ak_iconst 1 (d_M_change 0 0 (.iconst 0) 1 rfl) rfl (rk rfl) ?_
  refine Ak_istore_n 2 2 (d_M_change 1 1 (.istore_n 2) 1 rfl) rfl rfl (by decide) ?_
  refine Ak_iconst 3 (d_M_change 2 2 (.iconst 0) 1 rfl) rfl (rk rfl) ?_
  refine Ak_istore_n 4 3 (d_M_change 3 3 (.istore_n 3) 1 rfl) rfl rfl (by decide) ?_
  refine Ak_keep [true, true, true, true] ?_
  exact t_M_change_L4 hO FU _ _ _ _ _ h
theorem t_M_changes_J91 {S : ASh} {V : ASt} {x0 x2 x3 x4 : Int} {r : Int} {V' : ASt} (hO : isO S x0 13 = true) (h : b_M_changes_J91 S  V x0 x2 x3 x4 = some (r, V')) : AWk m_M_changes 2 0 0 0 0 91 [some (aR x0), none, some (aI x2), some (aI x3), some (aI x4)] [] S V none S V' := by
  unfold b_M_changes_J91 at h
  refine Ak_iload 93 (d_M_changes 55 91 (.iload 4) 2 rfl) rfl rfl ?_
  refine Ak_iconst 94 (d_M_changes 56 93 (.iconst 5) 1 rfl) rfl (rk rfl) ?_
  refine Ak_icmp_eq 98 97 (d_M_changes 57 94 (.if_icmp .eq 4) 3 rfl) rfl rfl (fun hc => ?_) (fun hc => ?_)
  · replace h := it_t hc h
    refine Ak_aload_n 99 0 (d_M_changes 59 98 (.aload_n 0) 1 rfl) rfl rfl rfl ?_
    refine Ak_getF 102 44 hO clX13 (by decide) rfl lkF_M_147 (d_M_changes 60 99 (.getfield 147) 3 rfl) rfl ?_
    refine Ak_iload_n 103 2 (d_M_changes 61 102 (.iload_n 2) 1 rfl) rfl rfl rfl ?_
    refine Ak_aload_n 104 0 (d_M_changes 62 103 (.aload_n 0) 1 rfl) rfl rfl rfl ?_
    refine Ak_getF 107 44 hO clX13 (by decide) rfl lkF_M_147 (d_M_changes 63 104 (.getfield 147) 3 rfl) rfl ?_
    refine Ak_iload_n 108 2 (d_M_changes 64 107 (.iload_n 2) 1 rfl) rfl rfl rfl ?_
    refine Ak_iconst 109 (d_M_changes 65 108 (.iconst 1) 1 rfl) rfl (rk rfl) ?_
    refine Ak_iadd 110 (d_M_changes 66 109 (.iadd) 1 rfl) rfl ?_
    obtain ⟨ha1, h⟩ := gd_some h
    refine Ak_iaload 111 ha1 (d_M_changes 67 110 (.iaload) 1 rfl) rfl ?_
    obtain ⟨ha2, h⟩ := gd_some h
    refine Ak_iastore 112 ha2 (d_M_changes 68 111 (.iastore) 1 rfl) rfl (fun V3 hV3 => ?_)
    replace h := wV_some h V3 hV3
    refine Ak_aload_n 113 0 (d_M_changes 69 112 (.aload_n 0) 1 rfl) rfl rfl rfl ?_
    refine Ak_getF 116 44 hO clX13 (by decide) rfl lkF_M_147 (d_M_changes 70 113 (.getfield 147) 3 rfl) rfl ?_
    refine Ak_iload_n 117 2 (d_M_changes 71 116 (.iload_n 2) 1 rfl) rfl rfl rfl ?_
    refine Ak_iconst 118 (d_M_changes 72 117 (.iconst 1) 1 rfl) rfl (rk rfl) ?_
    refine Ak_iadd 119 (d_M_changes 73 118 (.iadd) 1 rfl) rfl ?_
    refine Ak_iload_n 120 3 (d_M_changes 74 119 (.iload_n 3) 1 rfl) rfl rfl rfl ?_
    refine Ak_iastore 121 ha1 (d_M_changes 75 120 (.iastore) 1 rfl) rfl (fun V4 hV4 => ?_)
    replace h := wV_some h V4 hV4
    cases h
    exact Ak_vret rfl (d_M_changes 76 121 (.return_) 1 rfl)
  · replace h := it_f hc h
    cases h
    exact Ak_vret rfl (d_M_changes 58 97 (.return_) 1 rfl)
theorem t_M_changes_J69 {S : ASh} {V : ASt} {x0 x2 x3 x4 : Int} {r : Int} {V' : ASt} (hO : isO S x0 13 = true) (h : b_M_changes_J69 S  V x0 x2 x3 x4 = some (r, V')) : AWk m_M_changes 2 0 0 0 0 69 [some (aR x0), none, some (aI x2), some (aI x3), some (aI x4)] [] S V none S V' := by
  unfold b_M_changes_J69 at h
  refine Ak_iload 71 (d_M_changes 42 69 (.iload 4) 2 rfl) rfl rfl ?_
  refine Ak_iconst 72 (d_M_changes 43 71 (.iconst 1) 1 rfl) rfl (rk rfl) ?_
  refine Ak_icmp_le 91 75 (d_M_changes 44 72 (.if_icmp .le 19) 3 rfl) rfl rfl (fun hc => ?_) (fun hc => ?_)
  · replace h := it_t hc h
    refine Ak_keep [true, false, true, true, true] ?_
    exact t_M_changes_J91 hO h
  · replace h := it_f hc h
    refine Ak_iload 77 (d_M_changes 45 75 (.iload 4) 2 rfl) rfl rfl ?_
    refine Ak_iconst 78 (d_M_changes 46 77 (.iconst 5) 1 rfl) rfl (rk rfl) ?_
    refine Ak_icmp_ge 91 81 (d_M_changes 47 78 (.if_icmp .ge 13) 3 rfl) rfl rfl (fun hc => ?_) (fun hc => ?_)
    · replace h := it_t hc h
      refine Ak_keep [true, false, true, true, true] ?_
      exact t_M_changes_J91 hO h
    · replace h := it_f hc h
      refine Ak_aload_n 82 0 (d_M_changes 48 81 (.aload_n 0) 1 rfl) rfl rfl rfl ?_
      refine Ak_getF 85 47 hO clX13 (by decide) rfl lkF_M_156 (d_M_changes 49 82 (.getfield 156) 3 rfl) rfl ?_
      refine Ak_iload_n 86 3 (d_M_changes 50 85 (.iload_n 3) 1 rfl) rfl rfl rfl ?_
      refine Ak_iload 88 (d_M_changes 51 86 (.iload 4) 2 rfl) rfl rfl ?_
      refine Ak_iconst 89 (d_M_changes 52 88 (.iconst 1) 1 rfl) rfl (rk rfl) ?_
      refine Ak_isub 90 (d_M_changes 53 89 (.isub) 1 rfl) rfl ?_
      obtain ⟨ha5, h⟩ := gd_some h
      refine Ak_iastore 91 ha5 (d_M_changes 54 90 (.iastore) 1 rfl) rfl (fun V6 hV6 => ?_)
      replace h := wV_some h V6 hV6
      refine Ak_keep [true, false, true, true, true] ?_
      exact t_M_changes_J91 hO h
theorem t_M_changes_J68 {S : ASh} {V : ASt} {x0 x2 x3 x4 s0 s1 s2 : Int} {r : Int} {V' : ASt} (hO : isO S x0 13 = true) (h : b_M_changes_J68 S  V x0 x2 x3 x4 s0 s1 s2 = some (r, V')) : AWk m_M_changes 2 0 0 0 0 68 [some (aR x0), none, some (aI x2), some (aI x3), some (aI x4)] [(aI s2), (aI s1), (aR s0)] S V none S V' := by
  unfold b_M_changes_J68 at h
  obtain ⟨ha7, h⟩ := gd_some h
  obtain ⟨hb8, h⟩ := gd_some h
  refine Ak_bastore 69 ha7 (dec_t hb8) (d_M_changes 41 68 (.bastore) 1 rfl) rfl (fun V9 hV9 => ?_)
  replace h := wV_some h V9 hV9
  refine Ak_keep [true, false, true, true, true] ?_
  exact t_M_changes_J69 hO h
theorem t_M_changes_J43 {S : ASh} {V : ASt} {x0 x2 x3 x4 : Int} {r : Int} {V' : ASt} (hO : isO S x0 13 = true) (h : b_M_changes_J43 S  V x0 x2 x3 x4 = some (r, V')) : AWk m_M_changes 2 0 0 0 0 43 [some (aR x0), none, some (aI x2), some (aI x3), some (aI x4)] [] S V none S V' := by
  unfold b_M_changes_J43 at h
  refine Ak_iload 45 (d_M_changes 27 43 (.iload 4) 2 rfl) rfl rfl ?_
  refine Ak_iconst 46 (d_M_changes 28 45 (.iconst 1) 1 rfl) rfl (rk rfl) ?_
  refine Ak_icmp_ne 69 49 (d_M_changes 29 46 (.if_icmp .ne 23) 3 rfl) rfl rfl (fun hc => ?_) (fun hc => ?_)
  · replace h := it_f hc h
    refine Ak_keep [true, false, true, true, true] ?_
    exact t_M_changes_J69 hO h
  · replace h := it_t hc h
    refine Ak_aload_n 50 0 (d_M_changes 30 49 (.aload_n 0) 1 rfl) rfl rfl rfl ?_
    refine Ak_getF 53 46 hO clX13 (by decide) rfl lkF_M_153 (d_M_changes 31 50 (.getfield 153) 3 rfl) rfl ?_
    refine Ak_iload_n 54 3 (d_M_changes 32 53 (.iload_n 3) 1 rfl) rfl rfl rfl ?_
    refine Ak_aload_n 55 0 (d_M_changes 33 54 (.aload_n 0) 1 rfl) rfl rfl rfl ?_
    refine Ak_getF 58 46 hO clX13 (by decide) rfl lkF_M_153 (d_M_changes 34 55 (.getfield 153) 3 rfl) rfl ?_
    refine Ak_iload_n 59 3 (d_M_changes 35 58 (.iload_n 3) 1 rfl) rfl rfl rfl ?_
    obtain ⟨ha10, h⟩ := gd_some h
    refine Ak_baload 60 ha10 (d_M_changes 36 59 (.baload) 1 rfl) rfl ?_
    refine Ak_if_ne 67 63 (d_M_changes 37 60 (.ifCond .ne 7) 3 rfl) rfl rfl (fun hc => ?_) (fun hc => ?_)
    · replace h := it_f hc h
      refine Ak_iconst 68 (d_M_changes 40 67 (.iconst 0) 1 rfl) rfl (rk rfl) ?_
      refine Ak_keep [true, false, true, true, true] ?_
      exact t_M_changes_J68 hO h
    · replace h := it_t hc h
      refine Ak_iconst 64 (d_M_changes 38 63 (.iconst 1) 1 rfl) rfl (rk rfl) ?_
      refine Ak_goto 68 (d_M_changes 39 64 (.goto 4) 3 rfl) rfl ?_
      refine Ak_keep [true, false, true, true, true] ?_
      exact t_M_changes_J68 hO h
theorem t_M_changes_J42 {S : ASh} {V : ASt} {x0 x2 x3 x4 s0 s1 s2 : Int} {r : Int} {V' : ASt} (hO : isO S x0 13 = true) (h : b_M_changes_J42 S  V x0 x2 x3 x4 s0 s1 s2 = some (r, V')) : AWk m_M_changes 2 0 0 0 0 42 [some (aR x0), none, some (aI x2), some (aI x3), some (aI x4)] [(aI s2), (aI s1), (aR s0)] S V none S V' := by
  unfold b_M_changes_J42 at h
  obtain ⟨ha11, h⟩ := gd_some h
  obtain ⟨hb12, h⟩ := gd_some h
  refine Ak_bastore 43 ha11 (dec_t hb12) (d_M_changes 26 42 (.bastore) 1 rfl) rfl (fun V13 hV13 => ?_)
  replace h := wV_some h V13 hV13
  refine Ak_keep [true, false, true, true, true] ?_
  exact t_M_changes_J43 hO h
theorem c_M_changes {S : ASh} {V : ASt} {x0 x1 : Int} {r : Int} {V' : ASt} (h : f_M_changes S V x0 x1 = some (r, V')) : ACt m_M_changes 2 0 0 [(aR x0), (aI x1)] S V none S V' := by
  unfold f_M_changes at h
  obtain ⟨hO, h⟩ := gd_some h
  refine ACt_of (plainFor_of_name rfl) rfl (Nat.le_of_ble_eq_true rfl) ?_
  show AWk m_M_changes 2 0 0 0 0 0 [some (aR x0), some (aI x1)] [] S V none S V'
  refine Ak_iload_n 1 1 (d_M_changes 0 0 (.iload_n 1) 1 rfl) rfl rfl rfl ?_
  refine Ak_bipush 3 (d_M_changes 1 1 (.bipush 6) 2 rfl) rfl (bp_ok rfl) (rk rfl) ?_
  refine Ak_idiv 4 (d_M_changes 2 3 (.idiv) 1 rfl) rfl (by decide) ?_
  refine Ak_istore_n 5 2 (d_M_changes 3 4 (.istore_n 2) 1 rfl) rfl rfl (by decide) ?_
  refine Ak_aload_n 6 0 (d_M_changes 4 5 (.aload_n 0) 1 rfl) rfl rfl rfl ?_
  refine Ak_getF 9 44 hO clX13 (by decide) rfl lkF_M_147 (d_M_changes 5 6 (.getfield 147) 3 rfl) rfl ?_
  refine Ak_iload_n 10 2 (d_M_changes 6 9 (.iload_n 2) 1 rfl) rfl rfl rfl ?_
  obtain ⟨ha14, h⟩ := gd_some h
  refine Ak_iaload 11 ha14 (d_M_changes 7 10 (.iaload) 1 rfl) rfl ?_
  refine Ak_istore_n 12 3 (d_M_changes 8 11 (.istore_n 3) 1 rfl) rfl rfl (by decide) ?_
  refine Ak_iload_n 13 1 (d_M_changes 9 12 (.iload_n 1) 1 rfl) rfl rfl rfl ?_
  refine Ak_bipush 15 (d_M_changes 10 13 (.bipush 6) 2 rfl) rfl (bp_ok rfl) (rk rfl) ?_
  refine Ak_irem 16 (d_M_changes 11 15 (.irem) 1 rfl) rfl (by decide) ?_
  refine Ak_istore 18 (d_M_changes 12 16 (.istore 4) 2 rfl) rfl (by decide) ?_
  refine Ak_iload 20 (d_M_changes 13 18 (.iload 4) 2 rfl) rfl rfl ?_
  refine Ak_if_ne 43 23 (d_M_changes 14 20 (.ifCond .ne 23) 3 rfl) rfl rfl (fun hc => ?_) (fun hc => ?_)
  · replace h := it_f hc h
    refine Ak_keep [true, false, true, true, true] ?_
    exact t_M_changes_J43 hO h
  · replace h := it_t hc h
    refine Ak_aload_n 24 0 (d_M_changes 15 23 (.aload_n 0) 1 rfl) rfl rfl rfl ?_
    refine Ak_getF 27 45 hO clX13 (by decide) rfl lkF_M_150 (d_M_changes 16 24 (.getfield 150) 3 rfl) rfl ?_
    refine Ak_iload_n 28 3 (d_M_changes 17 27 (.iload_n 3) 1 rfl) rfl rfl rfl ?_
    refine Ak_aload_n 29 0 (d_M_changes 18 28 (.aload_n 0) 1 rfl) rfl rfl rfl ?_
    refine Ak_getF 32 45 hO clX13 (by decide) rfl lkF_M_150 (d_M_changes 19 29 (.getfield 150) 3 rfl) rfl ?_
    refine Ak_iload_n 33 3 (d_M_changes 20 32 (.iload_n 3) 1 rfl) rfl rfl rfl ?_
    obtain ⟨ha15, h⟩ := gd_some h
    refine Ak_baload 34 ha15 (d_M_changes 21 33 (.baload) 1 rfl) rfl ?_
    refine Ak_if_ne 41 37 (d_M_changes 22 34 (.ifCond .ne 7) 3 rfl) rfl rfl (fun hc => ?_) (fun hc => ?_)
    · replace h := it_f hc h
      refine Ak_iconst 42 (d_M_changes 25 41 (.iconst 0) 1 rfl) rfl (rk rfl) ?_
      refine Ak_keep [true, false, true, true, true] ?_
      exact t_M_changes_J42 hO h
    · replace h := it_t hc h
      refine Ak_iconst 38 (d_M_changes 23 37 (.iconst 1) 1 rfl) rfl (rk rfl) ?_
      refine Ak_goto 42 (d_M_changes 24 38 (.goto 4) 3 rfl) rfl ?_
      refine Ak_keep [true, false, true, true, true] ?_
      exact t_M_changes_J42 hO h
theorem t_M_worthWith_J59 {S : ASh} {V : ASt} {x0 x1 x5 : Int} {r : Int} {V' : ASt} (hO : isO S x0 13 = true) (h : b_M_worthWith_J59 S  V x0 x1 x5 = some (r, V')) : AWk m_M_worthWith 10 0 0 0 0 59 [some (aR x0), some (aI x1), none, none, none, some (aI x5)] [] S V (some (aI r)) S V' := by
  unfold b_M_worthWith_J59 at h
  refine Ak_aload_n 60 0 (d_M_worthWith 35 59 (.aload_n 0) 1 rfl) rfl rfl rfl ?_
  refine Ak_iload_n 61 1 (d_M_worthWith 36 60 (.iload_n 1) 1 rfl) rfl rfl rfl ?_
  obtain ⟨r1, V2, h3, h⟩ := bnd_some h
  refine Ak_cV0 64 2 (c_M_changes h3) rfl hO clX13 rfl mok_M_changes lkM_M_531 (d_M_worthWith 37 61 (.invokevirtual 531) 3 rfl) rfl (by decide) (Nat.le_of_ble_eq_true rfl) ?_
  refine Ak_iload 66 (d_M_worthWith 38 64 (.iload 5) 2 rfl) rfl rfl ?_
  cases h
  exact Ak_iret rfl (d_M_worthWith 39 66 (.ireturn) 1 rfl)
theorem c_M_worthWith {S : ASh} {V : ASt} {x0 x1 x2 : Int} {r : Int} {V' : ASt} (h : f_M_worthWith S V x0 x1 x2 = some (r, V')) : ACt m_M_worthWith 10 0 0 [(aR x0), (aI x1), (aI x2)] S V (some (aI r)) S V' := by
  unfold f_M_worthWith at h
  obtain ⟨hO, h⟩ := gd_some h
  refine ACt_of (plainFor_of_name rfl) rfl (Nat.le_of_ble_eq_true rfl) ?_
  show AWk m_M_worthWith 10 0 0 0 0 0 [some (aR x0), some (aI x1), some (aI x2)] [] S V (some (aI r)) S V'
  refine Ak_aload_n 1 0 (d_M_worthWith 0 0 (.aload_n 0) 1 rfl) rfl rfl rfl ?_
  refine Ak_getF 4 44 hO clX13 (by decide) rfl lkF_M_147 (d_M_worthWith 1 1 (.getfield 147) 3 rfl) rfl ?_
  refine Ak_iload_n 5 1 (d_M_worthWith 2 4 (.iload_n 1) 1 rfl) rfl rfl rfl ?_
  refine Ak_bipush 7 (d_M_worthWith 3 5 (.bipush 6) 2 rfl) rfl (bp_ok rfl) (rk rfl) ?_
  refine Ak_idiv 8 (d_M_worthWith 4 7 (.idiv) 1 rfl) rfl (by decide) ?_
  obtain ⟨ha4, h⟩ := gd_some h
  refine Ak_iaload 9 ha4 (d_M_worthWith 5 8 (.iaload) 1 rfl) rfl ?_
  refine Ak_istore_n 10 3 (d_M_worthWith 6 9 (.istore_n 3) 1 rfl) rfl rfl (by decide) ?_
  refine Ak_aload_n 11 0 (d_M_worthWith 7 10 (.aload_n 0) 1 rfl) rfl rfl rfl ?_
  refine Ak_getF 14 47 hO clX13 (by decide) rfl lkF_M_156 (d_M_worthWith 8 11 (.getfield 156) 3 rfl) rfl ?_
  refine Ak_iload_n 15 3 (d_M_worthWith 9 14 (.iload_n 3) 1 rfl) rfl rfl rfl ?_
  obtain ⟨ha5, h⟩ := gd_some h
  refine Ak_iaload 16 ha5 (d_M_worthWith 10 15 (.iaload) 1 rfl) rfl ?_
  refine Ak_istore 18 (d_M_worthWith 11 16 (.istore 4) 2 rfl) rfl (by decide) ?_
  refine Ak_aload_n 19 0 (d_M_worthWith 12 18 (.aload_n 0) 1 rfl) rfl rfl rfl ?_
  refine Ak_iload_n 20 1 (d_M_worthWith 13 19 (.iload_n 1) 1 rfl) rfl rfl rfl ?_
  obtain ⟨r6, V7, h8, h⟩ := bnd_some h
  refine Ak_cV0 23 2 (c_M_changes h8) rfl hO clX13 rfl mok_M_changes lkM_M_531 (d_M_worthWith 14 20 (.invokevirtual 531) 3 rfl) rfl (by decide) (Nat.le_of_ble_eq_true rfl) ?_
  refine Ak_aload_n 24 0 (d_M_worthWith 15 23 (.aload_n 0) 1 rfl) rfl rfl rfl ?_
  refine Ak_iload_n 25 2 (d_M_worthWith 16 24 (.iload_n 2) 1 rfl) rfl rfl rfl ?_
  obtain ⟨r9, V10, h11, h⟩ := bnd_some h
  refine Ak_cV1 28 9 (c_M_worthOn h11) rfl hO clX13 rfl mok_M_worthOn lkM_M_515 (d_M_worthWith 17 25 (.invokevirtual 515) 3 rfl) rfl (by decide) (Nat.le_of_ble_eq_true rfl) ?_
  refine Ak_istore 30 (d_M_worthWith 18 28 (.istore 5) 2 rfl) rfl (by decide) ?_
  refine Ak_iload_n 31 1 (d_M_worthWith 19 30 (.iload_n 1) 1 rfl) rfl rfl rfl ?_
  refine Ak_bipush 33 (d_M_worthWith 20 31 (.bipush 6) 2 rfl) rfl (bp_ok rfl) (rk rfl) ?_
  refine Ak_irem 34 (d_M_worthWith 21 33 (.irem) 1 rfl) rfl (by decide) ?_
  refine Ak_istore 36 (d_M_worthWith 22 34 (.istore 6) 2 rfl) rfl (by decide) ?_
  refine Ak_iload 38 (d_M_worthWith 23 36 (.iload 6) 2 rfl) rfl rfl ?_
  refine Ak_iconst 39 (d_M_worthWith 24 38 (.iconst 1) 1 rfl) rfl (rk rfl) ?_
  refine Ak_icmp_le 59 42 (d_M_worthWith 25 39 (.if_icmp .le 20) 3 rfl) rfl rfl (fun hc => ?_) (fun hc => ?_)
  · replace h := it_t hc h
    refine Ak_keep [true, true, false, false, false, true] ?_
    exact t_M_worthWith_J59 hO h
  · replace h := it_f hc h
    refine Ak_iload 44 (d_M_worthWith 26 42 (.iload 6) 2 rfl) rfl rfl ?_
    refine Ak_iconst 45 (d_M_worthWith 27 44 (.iconst 5) 1 rfl) rfl (rk rfl) ?_
    refine Ak_icmp_ge 59 48 (d_M_worthWith 28 45 (.if_icmp .ge 14) 3 rfl) rfl rfl (fun hc => ?_) (fun hc => ?_)
    · replace h := it_t hc h
      refine Ak_keep [true, true, false, false, false, true] ?_
      exact t_M_worthWith_J59 hO h
    · replace h := it_f hc h
      refine Ak_aload_n 49 0 (d_M_worthWith 29 48 (.aload_n 0) 1 rfl) rfl rfl rfl ?_
      refine Ak_getF 52 47 hO clX13 (by decide) rfl lkF_M_156 (d_M_worthWith 30 49 (.getfield 156) 3 rfl) rfl ?_
      refine Ak_iload_n 53 3 (d_M_worthWith 31 52 (.iload_n 3) 1 rfl) rfl rfl rfl ?_
      refine Ak_iload 55 (d_M_worthWith 32 53 (.iload 4) 2 rfl) rfl rfl ?_
      refine Ak_iastore 56 ha5 (d_M_worthWith 33 55 (.iastore) 1 rfl) rfl (fun V12 hV12 => ?_)
      replace h := wV_some h V12 hV12
      refine Ak_goto 64 (d_M_worthWith 34 56 (.goto 8) 3 rfl) rfl ?_
      refine Ak_iload 66 (d_M_worthWith 38 64 (.iload 5) 2 rfl) rfl rfl ?_
      cases h
      exact Ak_iret rfl (d_M_worthWith 39 66 (.ireturn) 1 rfl)
theorem c_M_outcome {S : ASh} {V : ASt} {x0 x1 : Int} {r : Int} {V' : ASt} (h : f_M_outcome S V x0 x1 = some (r, V')) : ACt m_M_outcome 11 0 0 [(aR x0), (aI x1)] S V (some (aI r)) S V' := by
  unfold f_M_outcome at h
  obtain ⟨hO, h⟩ := gd_some h
  refine ACt_of (plainFor_of_name rfl) rfl (Nat.le_of_ble_eq_true rfl) ?_
  show AWk m_M_outcome 11 0 0 0 0 0 [some (aR x0), some (aI x1)] [] S V (some (aI r)) S V'
  refine Ak_aload_n 1 0 (d_M_outcome 0 0 (.aload_n 0) 1 rfl) rfl rfl rfl ?_
  refine Ak_iload_n 2 1 (d_M_outcome 1 1 (.iload_n 1) 1 rfl) rfl rfl rfl ?_
  obtain ⟨r1, V2, h3, h⟩ := bnd_some h
  refine Ak_cV1 5 3 (c_M_isChange h3) rfl hO clX13 rfl mok_M_isChange lkM_M_528 (d_M_outcome 2 2 (.invokevirtual 528) 3 rfl) rfl (by decide) (Nat.le_of_ble_eq_true rfl) ?_
  refine Ak_if_eq 20 8 (d_M_outcome 3 5 (.ifCond .eq 15) 3 rfl) rfl rfl (fun hc => ?_) (fun hc => ?_)
  · replace h := it_t hc h
    refine Ak_bipush 22 (d_M_outcome 10 20 (.bipush (-2)) 2 rfl) rfl (bp_ok rfl) (rk rfl) ?_
    cases h
    exact Ak_iret rfl (d_M_outcome 11 22 (.ireturn) 1 rfl)
  · replace h := it_f hc h
    refine Ak_aload_n 9 0 (d_M_outcome 4 8 (.aload_n 0) 1 rfl) rfl rfl rfl ?_
    refine Ak_iload_n 10 1 (d_M_outcome 5 9 (.iload_n 1) 1 rfl) rfl rfl rfl ?_
    refine Ak_aload_n 11 0 (d_M_outcome 6 10 (.aload_n 0) 1 rfl) rfl rfl rfl ?_
    refine Ak_getI 14 48 hO clX13 (by decide) (Or.inl rfl) lkF_M_159 (d_M_outcome 7 11 (.getfield 159) 3 rfl) rfl ?_
    obtain ⟨r4, V5, h6, h⟩ := bnd_some h
    refine Ak_cV1 17 10 (c_M_worthWith h6) rfl hO clX13 rfl mok_M_worthWith lkM_M_534 (d_M_outcome 8 14 (.invokevirtual 534) 3 rfl) rfl (by decide) (Nat.le_of_ble_eq_true rfl) ?_
    refine Ak_goto 22 (d_M_outcome 9 17 (.goto 5) 3 rfl) rfl ?_
    cases h
    exact Ak_iret rfl (d_M_outcome 11 22 (.ireturn) 1 rfl)
theorem t_M_turning_J87 {S : ASh} {K38 : ASt → Int → Int → Int → Int → Option (Int × ASt)} {V : ASt} {x0 x1 x2 x3 x5 x6 x7 s0 s1 : Int} {r : Int} {V' : ASt} (hO : isO S x0 13 = true) (hK38 : ∀ {V : ASt} {y3 y4 y5 y6 : Int} {r : Int} {V' : ASt}, K38 V y3 y4 y5 y6 = some (r, V') → AWk m_M_turning 11 0 0 0 0 38 [some (aR x0), some (aI x1), some (aI x2), some (aI y3), some (aI y4), some (aI y5), some (aI y6)] [] S V (some (aI r)) S V') (h : b_M_turning_J87 S K38 V x0 x1 x2 x3 x5 x6 x7 s0 s1 = some (r, V')) : AWk m_M_turning 11 0 0 0 0 87 [some (aR x0), some (aI x1), some (aI x2), some (aI x3), none, some (aI x5), some (aI x6), some (aI x7)] [(aI s1), (aI s0)] S V (some (aI r)) S V' := by
  unfold b_M_turning_J87 at h
  refine Ak_iadd 88 (d_M_turning 47 87 (.iadd) 1 rfl) rfl ?_
  refine Ak_istore 90 (d_M_turning 48 88 (.istore 4) 2 rfl) rfl (by decide) ?_
  refine Ak_iload_n 91 2 (d_M_turning 49 90 (.iload_n 2) 1 rfl) rfl rfl rfl ?_
  refine Ak_if_eq 140 94 (d_M_turning 50 91 (.ifCond .eq 49) 3 rfl) rfl rfl (fun hc => ?_) (fun hc => ?_)
  · replace h := it_t hc h
    refine Ak_iinc 143 (d_M_turning 74 140 (.iinc 6 1) 3 rfl) rfl rfl (by decide) ?_
    refine Ak_goto 38 (d_M_turning 75 143 (.goto (-105)) 3 rfl) rfl ?_
    refine Ak_keep [true, true, true, true, true, true, true] ?_
    exact hK38 h
  · replace h := it_f hc h
    refine Ak_iload 96 (d_M_turning 51 94 (.iload 7) 2 rfl) rfl rfl ?_
    refine Ak_iload_n 97 2 (d_M_turning 52 96 (.iload_n 2) 1 rfl) rfl rfl rfl ?_
    refine Ak_ineg 98 (d_M_turning 53 97 (.ineg) 1 rfl) rfl ?_
    refine Ak_icmp_eq 104 101 (d_M_turning 54 98 (.if_icmp .eq 6) 3 rfl) rfl rfl (fun hc => ?_) (fun hc => ?_)
    · replace h := it_t hc h
      refine Ak_iinc 107 (d_M_turning 56 104 (.iinc 3 1) 3 rfl) rfl rfl (by decide) ?_
      refine Ak_iload 109 (d_M_turning 57 107 (.iload 5) 2 rfl) rfl rfl ?_
      refine Ak_iconst 110 (d_M_turning 58 109 (.iconst (-1)) 1 rfl) rfl (rk rfl) ?_
      refine Ak_icmp_eq 131 113 (d_M_turning 59 110 (.if_icmp .eq 21) 3 rfl) rfl rfl (fun hc => ?_) (fun hc => ?_)
      · replace h := it_t hc h
        refine Ak_iload 133 (d_M_turning 70 131 (.iload 6) 2 rfl) rfl rfl ?_
        refine Ak_goto 138 (d_M_turning 71 133 (.goto 5) 3 rfl) rfl ?_
        refine Ak_istore 140 (d_M_turning 73 138 (.istore 5) 2 rfl) rfl (by decide) ?_
        refine Ak_iinc 143 (d_M_turning 74 140 (.iinc 6 1) 3 rfl) rfl rfl (by decide) ?_
        refine Ak_goto 38 (d_M_turning 75 143 (.goto (-105)) 3 rfl) rfl ?_
        refine Ak_keep [true, true, true, true, true, true, true] ?_
        exact hK38 h
      · replace h := it_f hc h
        refine Ak_iload 115 (d_M_turning 60 113 (.iload 5) 2 rfl) rfl rfl ?_
        refine Ak_bipush 117 (d_M_turning 61 115 (.bipush 6) 2 rfl) rfl (bp_ok rfl) (rk rfl) ?_
        refine Ak_irem 118 (d_M_turning 62 117 (.irem) 1 rfl) rfl (by decide) ?_
        refine Ak_iconst 119 (d_M_turning 63 118 (.iconst 5) 1 rfl) rfl (rk rfl) ?_
        refine Ak_icmp_ne 136 122 (d_M_turning 64 119 (.if_icmp .ne 17) 3 rfl) rfl rfl (fun hc => ?_) (fun hc => ?_)
        · replace h := it_f hc h
          refine Ak_iload 138 (d_M_turning 72 136 (.iload 5) 2 rfl) rfl rfl ?_
          refine Ak_istore 140 (d_M_turning 73 138 (.istore 5) 2 rfl) rfl (by decide) ?_
          refine Ak_iinc 143 (d_M_turning 74 140 (.iinc 6 1) 3 rfl) rfl rfl (by decide) ?_
          refine Ak_goto 38 (d_M_turning 75 143 (.goto (-105)) 3 rfl) rfl ?_
          refine Ak_keep [true, true, true, true, true, true, true] ?_
          exact hK38 h
        · replace h := it_t hc h
          refine Ak_iload 124 (d_M_turning 65 122 (.iload 6) 2 rfl) rfl rfl ?_
          refine Ak_bipush 126 (d_M_turning 66 124 (.bipush 6) 2 rfl) rfl (bp_ok rfl) (rk rfl) ?_
          refine Ak_irem 127 (d_M_turning 67 126 (.irem) 1 rfl) rfl (by decide) ?_
          refine Ak_iconst 128 (d_M_turning 68 127 (.iconst 5) 1 rfl) rfl (rk rfl) ?_
          refine Ak_icmp_eq 136 131 (d_M_turning 69 128 (.if_icmp .eq 8) 3 rfl) rfl rfl (fun hc => ?_) (fun hc => ?_)
          · replace h := it_t hc h
            refine Ak_iload 138 (d_M_turning 72 136 (.iload 5) 2 rfl) rfl rfl ?_
            refine Ak_istore 140 (d_M_turning 73 138 (.istore 5) 2 rfl) rfl (by decide) ?_
            refine Ak_iinc 143 (d_M_turning 74 140 (.iinc 6 1) 3 rfl) rfl rfl (by decide) ?_
            refine Ak_goto 38 (d_M_turning 75 143 (.goto (-105)) 3 rfl) rfl ?_
            refine Ak_keep [true, true, true, true, true, true, true] ?_
            exact hK38 h
          · replace h := it_f hc h
            refine Ak_iload 133 (d_M_turning 70 131 (.iload 6) 2 rfl) rfl rfl ?_
            refine Ak_goto 138 (d_M_turning 71 133 (.goto 5) 3 rfl) rfl ?_
            refine Ak_istore 140 (d_M_turning 73 138 (.istore 5) 2 rfl) rfl (by decide) ?_
            refine Ak_iinc 143 (d_M_turning 74 140 (.iinc 6 1) 3 rfl) rfl rfl (by decide) ?_
            refine Ak_goto 38 (d_M_turning 75 143 (.goto (-105)) 3 rfl) rfl ?_
            refine Ak_keep [true, true, true, true, true, true, true] ?_
            exact hK38 h
    · replace h := it_f hc h
      refine Ak_goto 140 (d_M_turning 55 101 (.goto 39) 3 rfl) rfl ?_
      refine Ak_iinc 143 (d_M_turning 74 140 (.iinc 6 1) 3 rfl) rfl rfl (by decide) ?_
      refine Ak_goto 38 (d_M_turning 75 143 (.goto (-105)) 3 rfl) rfl ?_
      refine Ak_keep [true, true, true, true, true, true, true] ?_
      exact hK38 h
theorem t_M_turning_L38 {S : ASh} {x0 x1 x2 : Int} (hO : isO S x0 13 = true) : ∀ (n : Nat) (V : ASt) (x3 x4 x5 x6 : Int) (r : Int) (V' : ASt), b_M_turning_L38 S x0 x1 x2 n V x3 x4 x5 x6 = some (r, V') → AWk m_M_turning 11 0 0 0 0 38 [some (aR x0), some (aI x1), some (aI x2), some (aI x3), some (aI x4), some (aI x5), some (aI x6)] [] S V (some (aI r)) S V' := by
  intro n
  induction n with
  | zero => intro V x3 x4 x5 x6 r V' h; cases h
  | succ n ih =>
    intro V x3 x4 x5 x6 r V' h
    replace ih : ∀ {V : ASt} {x3 x4 x5 x6 : Int} {r : Int} {V' : ASt}, b_M_turning_L38 S x0 x1 x2 n V x3 x4 x5 x6 = some (r, V') → AWk m_M_turning 11 0 0 0 0 38 [some (aR x0), some (aI x1), some (aI x2), some (aI x3), some (aI x4), some (aI x5), some (aI x6)] [] S V (some (aI r)) S V' := fun h => ih _ _ _ _ _ _ _ h
    rw [b_M_turning_L38] at h
    refine Ak_iload 40 (d_M_turning 23 38 (.iload 6) 2 rfl) rfl rfl ?_
    refine Ak_bipush 42 (d_M_turning 24 40 (.bipush 6) 2 rfl) rfl (bp_ok rfl) (rk rfl) ?_
    refine Ak_aload_n 43 0 (d_M_turning 25 42 (.aload_n 0) 1 rfl) rfl rfl rfl ?_
    obtain ⟨r1, V2, h3, h⟩ := bnd_some h
    refine Ak_cV1 46 2 (c_M_rulesAll h3) rfl hO clX13 rfl mok_M_rulesAll lkM_M_436 (d_M_turning 26 43 (.invokevirtual 436) 3 rfl) rfl (by decide) (Nat.le_of_ble_eq_true rfl) ?_
    refine Ak_imul 47 (d_M_turning 27 46 (.imul) 1 rfl) rfl ?_
    refine Ak_icmp_ge 146 50 (d_M_turning 28 47 (.if_icmp .ge 99) 3 rfl) rfl rfl (fun hc => ?_) (fun hc => ?_)
    · replace h := it_t hc h
      refine Ak_iload_n 147 1 (d_M_turning 76 146 (.iload_n 1) 1 rfl) rfl rfl rfl ?_
      refine Ak_if_ne 154 150 (d_M_turning 77 147 (.ifCond .ne 7) 3 rfl) rfl rfl (fun hc => ?_) (fun hc => ?_)
      · replace h := it_f hc h
        refine Ak_iload_n 155 1 (d_M_turning 80 154 (.iload_n 1) 1 rfl) rfl rfl rfl ?_
        refine Ak_iconst 156 (d_M_turning 81 155 (.iconst 1) 1 rfl) rfl (rk rfl) ?_
        refine Ak_icmp_ne 164 159 (d_M_turning 82 156 (.if_icmp .ne 8) 3 rfl) rfl rfl (fun hc => ?_) (fun hc => ?_)
        · replace h := it_f hc h
          refine Ak_iload 166 (d_M_turning 85 164 (.iload 5) 2 rfl) rfl rfl ?_
          cases h
          exact Ak_iret rfl (d_M_turning 86 166 (.ireturn) 1 rfl)
        · replace h := it_t hc h
          refine Ak_iload 161 (d_M_turning 83 159 (.iload 4) 2 rfl) rfl rfl ?_
          refine Ak_goto 166 (d_M_turning 84 161 (.goto 5) 3 rfl) rfl ?_
          cases h
          exact Ak_iret rfl (d_M_turning 86 166 (.ireturn) 1 rfl)
      · replace h := it_t hc h
        refine Ak_iload_n 151 3 (d_M_turning 78 150 (.iload_n 3) 1 rfl) rfl rfl rfl ?_
        refine Ak_goto 166 (d_M_turning 79 151 (.goto 15) 3 rfl) rfl ?_
        cases h
        exact Ak_iret rfl (d_M_turning 86 166 (.ireturn) 1 rfl)
    · replace h := it_f hc h
      refine Ak_aload_n 51 0 (d_M_turning 29 50 (.aload_n 0) 1 rfl) rfl rfl rfl ?_
      refine Ak_iload 53 (d_M_turning 30 51 (.iload 6) 2 rfl) rfl rfl ?_
      obtain ⟨r4, V5, h6, h⟩ := bnd_some h
      refine Ak_cV1 56 3 (c_M_isChange h6) rfl hO clX13 rfl mok_M_isChange lkM_M_528 (d_M_turning 31 53 (.invokevirtual 528) 3 rfl) rfl (by decide) (Nat.le_of_ble_eq_true rfl) ?_
      refine Ak_if_ne 62 59 (d_M_turning 32 56 (.ifCond .ne 6) 3 rfl) rfl rfl (fun hc => ?_) (fun hc => ?_)
      · replace h := it_f hc h
        refine Ak_aload_n 63 0 (d_M_turning 34 62 (.aload_n 0) 1 rfl) rfl rfl rfl ?_
        refine Ak_iload 65 (d_M_turning 35 63 (.iload 6) 2 rfl) rfl rfl ?_
        refine Ak_aload_n 66 0 (d_M_turning 36 65 (.aload_n 0) 1 rfl) rfl rfl rfl ?_
        refine Ak_getI 69 48 hO clX13 (by decide) (Or.inl rfl) lkF_M_159 (d_M_turning 37 66 (.getfield 159) 3 rfl) rfl ?_
        obtain ⟨r7, V8, h9, h⟩ := bnd_some h
        refine Ak_cV1 72 10 (c_M_worthWith h9) rfl hO clX13 rfl mok_M_worthWith lkM_M_534 (d_M_turning 38 69 (.invokevirtual 534) 3 rfl) rfl (by decide) (Nat.le_of_ble_eq_true rfl) ?_
        refine Ak_istore 74 (d_M_turning 39 72 (.istore 7) 2 rfl) rfl (by decide) ?_
        refine Ak_iload 76 (d_M_turning 40 74 (.iload 4) 2 rfl) rfl rfl ?_
        refine Ak_iload 78 (d_M_turning 41 76 (.iload 7) 2 rfl) rfl rfl ?_
        refine Ak_iload_n 79 2 (d_M_turning 42 78 (.iload_n 2) 1 rfl) rfl rfl rfl ?_
        refine Ak_icmp_ne 86 82 (d_M_turning 43 79 (.if_icmp .ne 7) 3 rfl) rfl rfl (fun hc => ?_) (fun hc => ?_)
        · replace h := it_f hc h
          refine Ak_iconst 87 (d_M_turning 46 86 (.iconst 0) 1 rfl) rfl (rk rfl) ?_
          refine Ak_keep [true, true, true, true, false, true, true, true] ?_
          exact t_M_turning_J87 hO (fun h => ih h) h
        · replace h := it_t hc h
          refine Ak_iconst 83 (d_M_turning 44 82 (.iconst 1) 1 rfl) rfl (rk rfl) ?_
          refine Ak_goto 87 (d_M_turning 45 83 (.goto 4) 3 rfl) rfl ?_
          refine Ak_keep [true, true, true, true, false, true, true, true] ?_
          exact t_M_turning_J87 hO (fun h => ih h) h
      · replace h := it_t hc h
        refine Ak_goto 140 (d_M_turning 33 59 (.goto 81) 3 rfl) rfl ?_
        refine Ak_iinc 143 (d_M_turning 74 140 (.iinc 6 1) 3 rfl) rfl rfl (by decide) ?_
        refine Ak_goto 38 (d_M_turning 75 143 (.goto (-105)) 3 rfl) rfl ?_
        refine Ak_keep [true, true, true, true, true, true, true] ?_
        exact ih h
theorem c_M_turning {S : ASh} {V : ASt} {x0 x1 : Int} {r : Int} {V' : ASt} (h : f_M_turning S V x0 x1 = some (r, V')) : ACt m_M_turning 11 0 0 [(aR x0), (aI x1)] S V (some (aI r)) S V' := by
  unfold f_M_turning at h
  obtain ⟨hO, h⟩ := gd_some h
  refine ACt_of (plainFor_of_name rfl) rfl (Nat.le_of_ble_eq_true rfl) ?_
  show AWk m_M_turning 11 0 0 0 0 0 [some (aR x0), some (aI x1)] [] S V (some (aI r)) S V'
  refine Ak_aload_n 1 0 (d_M_turning 0 0 (.aload_n 0) 1 rfl) rfl rfl rfl ?_
  obtain ⟨r10, V11, h12, h⟩ := bnd_some h
  refine Ak_cV1 4 2 (c_M_hasFields h12) rfl hO clX13 rfl mok_M_hasFields lkM_M_448 (d_M_turning 1 1 (.invokevirtual 448) 3 rfl) rfl (by decide) (Nat.le_of_ble_eq_true rfl) ?_
  refine Ak_if_eq 16 7 (d_M_turning 2 4 (.ifCond .eq 12) 3 rfl) rfl rfl (fun hc => ?_) (fun hc => ?_)
  · replace h := it_t hc h
    refine Ak_iconst 17 (d_M_turning 8 16 (.iconst (-1)) 1 rfl) rfl (rk rfl) ?_
    cases h
    exact Ak_iret rfl (d_M_turning 9 17 (.ireturn) 1 rfl)
  · replace h := it_f hc h
    refine Ak_iload_n 8 1 (d_M_turning 3 7 (.iload_n 1) 1 rfl) rfl rfl rfl ?_
    refine Ak_iconst 9 (d_M_turning 4 8 (.iconst 0) 1 rfl) rfl (rk rfl) ?_
    refine Ak_iconst 10 (d_M_turning 5 9 (.iconst 2) 1 rfl) rfl (rk rfl) ?_
    obtain ⟨r13, V14, h15, h⟩ := bnd_some h
    refine Ak_cS1 13 2 (c_M_is h15) rfl mok_M_is lkM_M_329 (d_M_turning 6 10 (.invokestatic 329) 3 rfl) rfl (by decide) (Nat.le_of_ble_eq_true rfl) ?_
    refine Ak_if_ne 18 16 (d_M_turning 7 13 (.ifCond .ne 5) 3 rfl) rfl rfl (fun hc => ?_) (fun hc => ?_)
    · replace h := it_f hc h
      refine Ak_aload_n 19 0 (d_M_turning 10 18 (.aload_n 0) 1 rfl) rfl rfl rfl ?_
      refine Ak_aload_n 20 0 (d_M_turning 11 19 (.aload_n 0) 1 rfl) rfl rfl rfl ?_
      refine Ak_getI 23 48 hO clX13 (by decide) (Or.inl rfl) lkF_M_159 (d_M_turning 12 20 (.getfield 159) 3 rfl) rfl ?_
      obtain ⟨r16, V17, h18, h⟩ := bnd_some h
      refine Ak_cV1 26 9 (c_M_worthOn h18) rfl hO clX13 rfl mok_M_worthOn lkM_M_515 (d_M_turning 13 23 (.invokevirtual 515) 3 rfl) rfl (by decide) (Nat.le_of_ble_eq_true rfl) ?_
      refine Ak_istore_n 27 2 (d_M_turning 14 26 (.istore_n 2) 1 rfl) rfl rfl (by decide) ?_
      refine Ak_iconst 28 (d_M_turning 15 27 (.iconst 0) 1 rfl) rfl (rk rfl) ?_
      refine Ak_istore_n 29 3 (d_M_turning 16 28 (.istore_n 3) 1 rfl) rfl rfl (by decide) ?_
      refine Ak_iconst 30 (d_M_turning 17 29 (.iconst 0) 1 rfl) rfl (rk rfl) ?_
      refine Ak_istore 32 (d_M_turning 18 30 (.istore 4) 2 rfl) rfl (by decide) ?_
      refine Ak_iconst 33 (d_M_turning 19 32 (.iconst (-1)) 1 rfl) rfl (rk rfl) ?_
      refine Ak_istore 35 (d_M_turning 20 33 (.istore 5) 2 rfl) rfl (by decide) ?_
      refine Ak_iconst 36 (d_M_turning 21 35 (.iconst 0) 1 rfl) rfl (rk rfl) ?_
      refine Ak_istore 38 (d_M_turning 22 36 (.istore 6) 2 rfl) rfl (by decide) ?_
      refine Ak_keep [true, true, true, true, true, true, true] ?_
      exact t_M_turning_L38 hO FU _ _ _ _ _ _ _ h
    · replace h := it_t hc h
      refine Ak_iconst 17 (d_M_turning 8 16 (.iconst (-1)) 1 rfl) rfl (rk rfl) ?_
      cases h
      exact Ak_iret rfl (d_M_turning 9 17 (.ireturn) 1 rfl)
theorem t_M_keeps_L96 {S : ASh} {x0 : Int} (hO : isO S x0 13 = true) : ∀ (n : Nat) (V : ASt) (x1 : Int) (r : Int) (V' : ASt), b_M_keeps_L96 S x0 n V x1 = some (r, V') → AWk m_M_keeps 3 0 0 0 0 96 [some (aR x0), some (aI x1)] [] S V none S V' := by
  intro n
  induction n with
  | zero => intro V x1 r V' h; cases h
  | succ n ih =>
    intro V x1 r V' h
    replace ih : ∀ {V : ASt} {x1 : Int} {r : Int} {V' : ASt}, b_M_keeps_L96 S x0 n V x1 = some (r, V') → AWk m_M_keeps 3 0 0 0 0 96 [some (aR x0), some (aI x1)] [] S V none S V' := fun h => ih _ _ _ _ h
    rw [b_M_keeps_L96] at h
    refine Ak_iload_n 97 1 (d_M_keeps 59 96 (.iload_n 1) 1 rfl) rfl rfl rfl ?_
    refine Ak_aload_n 98 0 (d_M_keeps 60 97 (.aload_n 0) 1 rfl) rfl rfl rfl ?_
    obtain ⟨r1, V2, h3, h⟩ := bnd_some h
    refine Ak_cV1 101 2 (c_M_rulesAll h3) rfl hO clX13 rfl mok_M_rulesAll lkM_M_436 (d_M_keeps 61 98 (.invokevirtual 436) 3 rfl) rfl (by decide) (Nat.le_of_ble_eq_true rfl) ?_
    refine Ak_icmp_ge 190 104 (d_M_keeps 62 101 (.if_icmp .ge 89) 3 rfl) rfl rfl (fun hc => ?_) (fun hc => ?_)
    · replace h := it_t hc h
      refine Ak_aload_n 191 0 (d_M_keeps 117 190 (.aload_n 0) 1 rfl) rfl rfl rfl ?_
      refine Ak_dup 192 (d_M_keeps 118 191 (.dup) 1 rfl) rfl rfl ?_
      refine Ak_getI 195 65 hO clX13 (by decide) (Or.inl rfl) lkF_M_210 (d_M_keeps 119 192 (.getfield 210) 3 rfl) rfl ?_
      refine Ak_iconst 196 (d_M_keeps 120 195 (.iconst 1) 1 rfl) rfl (rk rfl) ?_
      refine Ak_iadd 197 (d_M_keeps 121 196 (.iadd) 1 rfl) rfl ?_
      refine Ak_putI 200 65 hO clX13 (by decide) rfl rfl rfl lkF_M_210 (d_M_keeps 122 197 (.putfield 210) 3 rfl) rfl (fun V4 hV4 => ?_)
      replace h := wV_some h V4 hV4
      cases h
      exact Ak_vret rfl (d_M_keeps 123 200 (.return_) 1 rfl)
    · replace h := it_f hc h
      refine Ak_aload_n 105 0 (d_M_keeps 63 104 (.aload_n 0) 1 rfl) rfl rfl rfl ?_
      refine Ak_getF 108 66 hO clX13 (by decide) rfl lkF_M_213 (d_M_keeps 64 105 (.getfield 213) 3 rfl) rfl ?_
      refine Ak_bipush 110 (d_M_keeps 65 108 (.bipush 12) 2 rfl) rfl (bp_ok rfl) (rk rfl) ?_
      refine Ak_aload_n 111 0 (d_M_keeps 66 110 (.aload_n 0) 1 rfl) rfl rfl rfl ?_
      refine Ak_getI 114 65 hO clX13 (by decide) (Or.inl rfl) lkF_M_210 (d_M_keeps 67 111 (.getfield 210) 3 rfl) rfl ?_
      refine Ak_imul 115 (d_M_keeps 68 114 (.imul) 1 rfl) rfl ?_
      refine Ak_iload_n 116 1 (d_M_keeps 69 115 (.iload_n 1) 1 rfl) rfl rfl rfl ?_
      refine Ak_iadd 117 (d_M_keeps 70 116 (.iadd) 1 rfl) rfl ?_
      refine Ak_aload_n 118 0 (d_M_keeps 71 117 (.aload_n 0) 1 rfl) rfl rfl rfl ?_
      refine Ak_getF 121 44 hO clX13 (by decide) rfl lkF_M_147 (d_M_keeps 72 118 (.getfield 147) 3 rfl) rfl ?_
      refine Ak_iload_n 122 1 (d_M_keeps 73 121 (.iload_n 1) 1 rfl) rfl rfl rfl ?_
      obtain ⟨ha5, h⟩ := gd_some h
      refine Ak_iaload 123 ha5 (d_M_keeps 74 122 (.iaload) 1 rfl) rfl ?_
      obtain ⟨ha6, h⟩ := gd_some h
      refine Ak_iastore 124 ha6 (d_M_keeps 75 123 (.iastore) 1 rfl) rfl (fun V7 hV7 => ?_)
      replace h := wV_some h V7 hV7
      refine Ak_aload_n 125 0 (d_M_keeps 76 124 (.aload_n 0) 1 rfl) rfl rfl rfl ?_
      refine Ak_getF 128 67 hO clX13 (by decide) rfl lkF_M_216 (d_M_keeps 77 125 (.getfield 216) 3 rfl) rfl ?_
      refine Ak_bipush 130 (d_M_keeps 78 128 (.bipush 12) 2 rfl) rfl (bp_ok rfl) (rk rfl) ?_
      refine Ak_aload_n 131 0 (d_M_keeps 79 130 (.aload_n 0) 1 rfl) rfl rfl rfl ?_
      refine Ak_getI 134 65 hO clX13 (by decide) (Or.inl rfl) lkF_M_210 (d_M_keeps 80 131 (.getfield 210) 3 rfl) rfl ?_
      refine Ak_imul 135 (d_M_keeps 81 134 (.imul) 1 rfl) rfl ?_
      refine Ak_iload_n 136 1 (d_M_keeps 82 135 (.iload_n 1) 1 rfl) rfl rfl rfl ?_
      refine Ak_iadd 137 (d_M_keeps 83 136 (.iadd) 1 rfl) rfl ?_
      refine Ak_aload_n 138 0 (d_M_keeps 84 137 (.aload_n 0) 1 rfl) rfl rfl rfl ?_
      refine Ak_getF 141 45 hO clX13 (by decide) rfl lkF_M_150 (d_M_keeps 85 138 (.getfield 150) 3 rfl) rfl ?_
      refine Ak_iload_n 142 1 (d_M_keeps 86 141 (.iload_n 1) 1 rfl) rfl rfl rfl ?_
      obtain ⟨ha8, h⟩ := gd_some h
      refine Ak_baload 143 ha8 (d_M_keeps 87 142 (.baload) 1 rfl) rfl ?_
      obtain ⟨ha9, h⟩ := gd_some h
      obtain ⟨hb10, h⟩ := gd_some h
      refine Ak_bastore 144 ha9 (dec_t hb10) (d_M_keeps 88 143 (.bastore) 1 rfl) rfl (fun V11 hV11 => ?_)
      replace h := wV_some h V11 hV11
      refine Ak_aload_n 145 0 (d_M_keeps 89 144 (.aload_n 0) 1 rfl) rfl rfl rfl ?_
      refine Ak_getF 148 68 hO clX13 (by decide) rfl lkF_M_219 (d_M_keeps 90 145 (.getfield 219) 3 rfl) rfl ?_
      refine Ak_bipush 150 (d_M_keeps 91 148 (.bipush 12) 2 rfl) rfl (bp_ok rfl) (rk rfl) ?_
      refine Ak_aload_n 151 0 (d_M_keeps 92 150 (.aload_n 0) 1 rfl) rfl rfl rfl ?_
      refine Ak_getI 154 65 hO clX13 (by decide) (Or.inl rfl) lkF_M_210 (d_M_keeps 93 151 (.getfield 210) 3 rfl) rfl ?_
      refine Ak_imul 155 (d_M_keeps 94 154 (.imul) 1 rfl) rfl ?_
      refine Ak_iload_n 156 1 (d_M_keeps 95 155 (.iload_n 1) 1 rfl) rfl rfl rfl ?_
      refine Ak_iadd 157 (d_M_keeps 96 156 (.iadd) 1 rfl) rfl ?_
      refine Ak_aload_n 158 0 (d_M_keeps 97 157 (.aload_n 0) 1 rfl) rfl rfl rfl ?_
      refine Ak_getF 161 46 hO clX13 (by decide) rfl lkF_M_153 (d_M_keeps 98 158 (.getfield 153) 3 rfl) rfl ?_
      refine Ak_iload_n 162 1 (d_M_keeps 99 161 (.iload_n 1) 1 rfl) rfl rfl rfl ?_
      obtain ⟨ha12, h⟩ := gd_some h
      refine Ak_baload 163 ha12 (d_M_keeps 100 162 (.baload) 1 rfl) rfl ?_
      obtain ⟨ha13, h⟩ := gd_some h
      obtain ⟨hb14, h⟩ := gd_some h
      refine Ak_bastore 164 ha13 (dec_t hb14) (d_M_keeps 101 163 (.bastore) 1 rfl) rfl (fun V15 hV15 => ?_)
      replace h := wV_some h V15 hV15
      refine Ak_aload_n 165 0 (d_M_keeps 102 164 (.aload_n 0) 1 rfl) rfl rfl rfl ?_
      refine Ak_getF 168 69 hO clX13 (by decide) rfl lkF_M_222 (d_M_keeps 103 165 (.getfield 222) 3 rfl) rfl ?_
      refine Ak_bipush 170 (d_M_keeps 104 168 (.bipush 12) 2 rfl) rfl (bp_ok rfl) (rk rfl) ?_
      refine Ak_aload_n 171 0 (d_M_keeps 105 170 (.aload_n 0) 1 rfl) rfl rfl rfl ?_
      refine Ak_getI 174 65 hO clX13 (by decide) (Or.inl rfl) lkF_M_210 (d_M_keeps 106 171 (.getfield 210) 3 rfl) rfl ?_
      refine Ak_imul 175 (d_M_keeps 107 174 (.imul) 1 rfl) rfl ?_
      refine Ak_iload_n 176 1 (d_M_keeps 108 175 (.iload_n 1) 1 rfl) rfl rfl rfl ?_
      refine Ak_iadd 177 (d_M_keeps 109 176 (.iadd) 1 rfl) rfl ?_
      refine Ak_aload_n 178 0 (d_M_keeps 110 177 (.aload_n 0) 1 rfl) rfl rfl rfl ?_
      refine Ak_getF 181 47 hO clX13 (by decide) rfl lkF_M_156 (d_M_keeps 111 178 (.getfield 156) 3 rfl) rfl ?_
      refine Ak_iload_n 182 1 (d_M_keeps 112 181 (.iload_n 1) 1 rfl) rfl rfl rfl ?_
      obtain ⟨ha16, h⟩ := gd_some h
      refine Ak_iaload 183 ha16 (d_M_keeps 113 182 (.iaload) 1 rfl) rfl ?_
      obtain ⟨ha17, h⟩ := gd_some h
      refine Ak_iastore 184 ha17 (d_M_keeps 114 183 (.iastore) 1 rfl) rfl (fun V18 hV18 => ?_)
      replace h := wV_some h V18 hV18
      refine Ak_iinc 187 (d_M_keeps 115 184 (.iinc 1 1) 3 rfl) rfl rfl (by decide) ?_
      refine Ak_goto 96 (d_M_keeps 116 187 (.goto (-91)) 3 rfl) rfl ?_
      refine Ak_keep [true, true] ?_
      exact ih h
theorem t_M_keeps_L11 {S : ASh} {x0 : Int} (hO : isO S x0 13 = true) : ∀ (n : Nat) (V : ASt) (x1 : Int) (r : Int) (V' : ASt), b_M_keeps_L11 S x0 n V x1 = some (r, V') → AWk m_M_keeps 3 0 0 0 0 11 [some (aR x0), some (aI x1)] [] S V none S V' := by
  intro n
  induction n with
  | zero => intro V x1 r V' h; cases h
  | succ n ih =>
    intro V x1 r V' h
    replace ih : ∀ {V : ASt} {x1 : Int} {r : Int} {V' : ASt}, b_M_keeps_L11 S x0 n V x1 = some (r, V') → AWk m_M_keeps 3 0 0 0 0 11 [some (aR x0), some (aI x1)] [] S V none S V' := fun h => ih _ _ _ _ h
    rw [b_M_keeps_L11] at h
    refine Ak_iload_n 12 1 (d_M_keeps 6 11 (.iload_n 1) 1 rfl) rfl rfl rfl ?_
    refine Ak_sipush 15 (d_M_keeps 7 12 (.sipush 468) 3 rfl) rfl (sp_ok rfl) (rk rfl) ?_
    refine Ak_icmp_ge 84 18 (d_M_keeps 8 15 (.if_icmp .ge 69) 3 rfl) rfl rfl (fun hc => ?_) (fun hc => ?_)
    · replace h := it_t hc h
      refine Ak_aload_n 85 0 (d_M_keeps 51 84 (.aload_n 0) 1 rfl) rfl rfl rfl ?_
      refine Ak_dup 86 (d_M_keeps 52 85 (.dup) 1 rfl) rfl rfl ?_
      refine Ak_getI 89 65 hO clX13 (by decide) (Or.inl rfl) lkF_M_210 (d_M_keeps 53 86 (.getfield 210) 3 rfl) rfl ?_
      refine Ak_iconst 90 (d_M_keeps 54 89 (.iconst 1) 1 rfl) rfl (rk rfl) ?_
      refine Ak_isub 91 (d_M_keeps 55 90 (.isub) 1 rfl) rfl ?_
      refine Ak_putI 94 65 hO clX13 (by decide) rfl rfl rfl lkF_M_210 (d_M_keeps 56 91 (.putfield 210) 3 rfl) rfl (fun V19 hV19 => ?_)
      replace h := wV_some h V19 hV19
      refine Ak_iconst 95 (d_M_keeps 57 94 (.iconst 0) 1 rfl) rfl (rk rfl) ?_
      refine Ak_istore_n 96 1 (d_M_keeps 58 95 (.istore_n 1) 1 rfl) rfl rfl (by decide) ?_
      refine Ak_keep [true, true] ?_
      exact t_M_keeps_L96 hO FU _ _ _ _ h
    · replace h := it_f hc h
      refine Ak_aload_n 19 0 (d_M_keeps 9 18 (.aload_n 0) 1 rfl) rfl rfl rfl ?_
      refine Ak_getF 22 66 hO clX13 (by decide) rfl lkF_M_213 (d_M_keeps 10 19 (.getfield 213) 3 rfl) rfl ?_
      refine Ak_iload_n 23 1 (d_M_keeps 11 22 (.iload_n 1) 1 rfl) rfl rfl rfl ?_
      refine Ak_aload_n 24 0 (d_M_keeps 12 23 (.aload_n 0) 1 rfl) rfl rfl rfl ?_
      refine Ak_getF 27 66 hO clX13 (by decide) rfl lkF_M_213 (d_M_keeps 13 24 (.getfield 213) 3 rfl) rfl ?_
      refine Ak_iload_n 28 1 (d_M_keeps 14 27 (.iload_n 1) 1 rfl) rfl rfl rfl ?_
      refine Ak_bipush 30 (d_M_keeps 15 28 (.bipush 12) 2 rfl) rfl (bp_ok rfl) (rk rfl) ?_
      refine Ak_iadd 31 (d_M_keeps 16 30 (.iadd) 1 rfl) rfl ?_
      obtain ⟨ha20, h⟩ := gd_some h
      refine Ak_iaload 32 ha20 (d_M_keeps 17 31 (.iaload) 1 rfl) rfl ?_
      obtain ⟨ha21, h⟩ := gd_some h
      refine Ak_iastore 33 ha21 (d_M_keeps 18 32 (.iastore) 1 rfl) rfl (fun V22 hV22 => ?_)
      replace h := wV_some h V22 hV22
      refine Ak_aload_n 34 0 (d_M_keeps 19 33 (.aload_n 0) 1 rfl) rfl rfl rfl ?_
      refine Ak_getF 37 67 hO clX13 (by decide) rfl lkF_M_216 (d_M_keeps 20 34 (.getfield 216) 3 rfl) rfl ?_
      refine Ak_iload_n 38 1 (d_M_keeps 21 37 (.iload_n 1) 1 rfl) rfl rfl rfl ?_
      refine Ak_aload_n 39 0 (d_M_keeps 22 38 (.aload_n 0) 1 rfl) rfl rfl rfl ?_
      refine Ak_getF 42 67 hO clX13 (by decide) rfl lkF_M_216 (d_M_keeps 23 39 (.getfield 216) 3 rfl) rfl ?_
      refine Ak_iload_n 43 1 (d_M_keeps 24 42 (.iload_n 1) 1 rfl) rfl rfl rfl ?_
      refine Ak_bipush 45 (d_M_keeps 25 43 (.bipush 12) 2 rfl) rfl (bp_ok rfl) (rk rfl) ?_
      refine Ak_iadd 46 (d_M_keeps 26 45 (.iadd) 1 rfl) rfl ?_
      obtain ⟨ha23, h⟩ := gd_some h
      refine Ak_baload 47 ha23 (d_M_keeps 27 46 (.baload) 1 rfl) rfl ?_
      obtain ⟨ha24, h⟩ := gd_some h
      obtain ⟨hb25, h⟩ := gd_some h
      refine Ak_bastore 48 ha24 (dec_t hb25) (d_M_keeps 28 47 (.bastore) 1 rfl) rfl (fun V26 hV26 => ?_)
      replace h := wV_some h V26 hV26
      refine Ak_aload_n 49 0 (d_M_keeps 29 48 (.aload_n 0) 1 rfl) rfl rfl rfl ?_
      refine Ak_getF 52 68 hO clX13 (by decide) rfl lkF_M_219 (d_M_keeps 30 49 (.getfield 219) 3 rfl) rfl ?_
      refine Ak_iload_n 53 1 (d_M_keeps 31 52 (.iload_n 1) 1 rfl) rfl rfl rfl ?_
      refine Ak_aload_n 54 0 (d_M_keeps 32 53 (.aload_n 0) 1 rfl) rfl rfl rfl ?_
      refine Ak_getF 57 68 hO clX13 (by decide) rfl lkF_M_219 (d_M_keeps 33 54 (.getfield 219) 3 rfl) rfl ?_
      refine Ak_iload_n 58 1 (d_M_keeps 34 57 (.iload_n 1) 1 rfl) rfl rfl rfl ?_
      refine Ak_bipush 60 (d_M_keeps 35 58 (.bipush 12) 2 rfl) rfl (bp_ok rfl) (rk rfl) ?_
      refine Ak_iadd 61 (d_M_keeps 36 60 (.iadd) 1 rfl) rfl ?_
      obtain ⟨ha27, h⟩ := gd_some h
      refine Ak_baload 62 ha27 (d_M_keeps 37 61 (.baload) 1 rfl) rfl ?_
      obtain ⟨ha28, h⟩ := gd_some h
      obtain ⟨hb29, h⟩ := gd_some h
      refine Ak_bastore 63 ha28 (dec_t hb29) (d_M_keeps 38 62 (.bastore) 1 rfl) rfl (fun V30 hV30 => ?_)
      replace h := wV_some h V30 hV30
      refine Ak_aload_n 64 0 (d_M_keeps 39 63 (.aload_n 0) 1 rfl) rfl rfl rfl ?_
      refine Ak_getF 67 69 hO clX13 (by decide) rfl lkF_M_222 (d_M_keeps 40 64 (.getfield 222) 3 rfl) rfl ?_
      refine Ak_iload_n 68 1 (d_M_keeps 41 67 (.iload_n 1) 1 rfl) rfl rfl rfl ?_
      refine Ak_aload_n 69 0 (d_M_keeps 42 68 (.aload_n 0) 1 rfl) rfl rfl rfl ?_
      refine Ak_getF 72 69 hO clX13 (by decide) rfl lkF_M_222 (d_M_keeps 43 69 (.getfield 222) 3 rfl) rfl ?_
      refine Ak_iload_n 73 1 (d_M_keeps 44 72 (.iload_n 1) 1 rfl) rfl rfl rfl ?_
      refine Ak_bipush 75 (d_M_keeps 45 73 (.bipush 12) 2 rfl) rfl (bp_ok rfl) (rk rfl) ?_
      refine Ak_iadd 76 (d_M_keeps 46 75 (.iadd) 1 rfl) rfl ?_
      obtain ⟨ha31, h⟩ := gd_some h
      refine Ak_iaload 77 ha31 (d_M_keeps 47 76 (.iaload) 1 rfl) rfl ?_
      obtain ⟨ha32, h⟩ := gd_some h
      refine Ak_iastore 78 ha32 (d_M_keeps 48 77 (.iastore) 1 rfl) rfl (fun V33 hV33 => ?_)
      replace h := wV_some h V33 hV33
      refine Ak_iinc 81 (d_M_keeps 49 78 (.iinc 1 1) 3 rfl) rfl rfl (by decide) ?_
      refine Ak_goto 11 (d_M_keeps 50 81 (.goto (-70)) 3 rfl) rfl ?_
      refine Ak_keep [true, true] ?_
      exact ih h
theorem c_M_keeps {S : ASh} {V : ASt} {x0 : Int} {r : Int} {V' : ASt} (h : f_M_keeps S V x0 = some (r, V')) : ACt m_M_keeps 3 0 0 [(aR x0)] S V none S V' := by
  unfold f_M_keeps at h
  obtain ⟨hO, h⟩ := gd_some h
  refine ACt_of (plainFor_of_name rfl) rfl (Nat.le_of_ble_eq_true rfl) ?_
  show AWk m_M_keeps 3 0 0 0 0 0 [some (aR x0)] [] S V none S V'
  refine Ak_aload_n 1 0 (d_M_keeps 0 0 (.aload_n 0) 1 rfl) rfl rfl rfl ?_
  refine Ak_getI 4 65 hO clX13 (by decide) (Or.inl rfl) lkF_M_210 (d_M_keeps 1 1 (.getfield 210) 3 rfl) rfl ?_
  refine Ak_bipush 6 (d_M_keeps 2 4 (.bipush 40) 2 rfl) rfl (bp_ok rfl) (rk rfl) ?_
  refine Ak_icmp_ne 94 9 (d_M_keeps 3 6 (.if_icmp .ne 88) 3 rfl) rfl rfl (fun hc => ?_) (fun hc => ?_)
  · replace h := it_f hc h
    refine Ak_iconst 95 (d_M_keeps 57 94 (.iconst 0) 1 rfl) rfl (rk rfl) ?_
    refine Ak_istore_n 96 1 (d_M_keeps 58 95 (.istore_n 1) 1 rfl) rfl rfl (by decide) ?_
    refine Ak_keep [true, true] ?_
    exact t_M_keeps_L96 hO FU _ _ _ _ h
  · replace h := it_t hc h
    refine Ak_iconst 10 (d_M_keeps 4 9 (.iconst 0) 1 rfl) rfl (rk rfl) ?_
    refine Ak_istore_n 11 1 (d_M_keeps 5 10 (.istore_n 1) 1 rfl) rfl rfl (by decide) ?_
    refine Ak_keep [true, true] ?_
    exact t_M_keeps_L11 hO FU _ _ _ _ h
theorem c_M_make {S : ASh} {V : ASt} {x0 x1 : Int} {r : Int} {V' : ASt} (h : f_M_make S V x0 x1 = some (r, V')) : ACt m_M_make 5 0 0 [(aR x0), (aI x1)] S V (some (aI r)) S V' := by
  unfold f_M_make at h
  obtain ⟨hO, h⟩ := gd_some h
  refine ACt_of (plainFor_of_name rfl) rfl (Nat.le_of_ble_eq_true rfl) ?_
  show AWk m_M_make 5 0 0 0 0 0 [some (aR x0), some (aI x1)] [] S V (some (aI r)) S V'
  refine Ak_aload_n 1 0 (d_M_make 0 0 (.aload_n 0) 1 rfl) rfl rfl rfl ?_
  refine Ak_iload_n 2 1 (d_M_make 1 1 (.iload_n 1) 1 rfl) rfl rfl rfl ?_
  obtain ⟨r1, V2, h3, h⟩ := bnd_some h
  refine Ak_cV1 5 3 (c_M_isChange h3) rfl hO clX13 rfl mok_M_isChange lkM_M_528 (d_M_make 2 2 (.invokevirtual 528) 3 rfl) rfl (by decide) (Nat.le_of_ble_eq_true rfl) ?_
  refine Ak_if_ne 22 8 (d_M_make 3 5 (.ifCond .ne 17) 3 rfl) rfl rfl (fun hc => ?_) (fun hc => ?_)
  · replace h := it_f hc h
    refine Ak_aload_n 23 0 (d_M_make 12 22 (.aload_n 0) 1 rfl) rfl rfl rfl ?_
    obtain ⟨r4, V5, h6, h⟩ := bnd_some h
    refine Ak_cV0 26 3 (c_M_keeps h6) rfl hO clX13 rfl mok_M_keeps lkM_M_537 (d_M_make 13 23 (.invokevirtual 537) 3 rfl) rfl (by decide) (Nat.le_of_ble_eq_true rfl) ?_
    refine Ak_aload_n 27 0 (d_M_make 14 26 (.aload_n 0) 1 rfl) rfl rfl rfl ?_
    refine Ak_iload_n 28 1 (d_M_make 15 27 (.iload_n 1) 1 rfl) rfl rfl rfl ?_
    obtain ⟨r7, V8, h9, h⟩ := bnd_some h
    refine Ak_cV0 31 2 (c_M_changes h9) rfl hO clX13 rfl mok_M_changes lkM_M_531 (d_M_make 16 28 (.invokevirtual 531) 3 rfl) rfl (by decide) (Nat.le_of_ble_eq_true rfl) ?_
    refine Ak_aload_n 32 0 (d_M_make 17 31 (.aload_n 0) 1 rfl) rfl rfl rfl ?_
    obtain ⟨r10, V11, h12, h⟩ := bnd_some h
    refine Ak_cV1 35 4 (c_M_anews h12) rfl hO clX13 rfl mok_M_anews lkM_M_442 (d_M_make 18 32 (.invokevirtual 442) 3 rfl) rfl (by decide) (Nat.le_of_ble_eq_true rfl) ?_
    refine Ak_istore_n 36 2 (d_M_make 19 35 (.istore_n 2) 1 rfl) rfl rfl (by decide) ?_
    refine Ak_iload_n 37 2 (d_M_make 20 36 (.iload_n 2) 1 rfl) rfl rfl rfl ?_
    refine Ak_if_lt 44 40 (d_M_make 21 37 (.ifCond .lt 7) 3 rfl) rfl rfl (fun hc => ?_) (fun hc => ?_)
    · replace h := it_t hc h
      refine Ak_iconst 45 (d_M_make 24 44 (.iconst 0) 1 rfl) rfl (rk rfl) ?_
      cases h
      exact Ak_zret (Or.inl rfl) rfl (d_M_make 25 45 (.ireturn) 1 rfl)
    · replace h := it_f hc h
      refine Ak_iconst 41 (d_M_make 22 40 (.iconst 1) 1 rfl) rfl (rk rfl) ?_
      refine Ak_goto 45 (d_M_make 23 41 (.goto 4) 3 rfl) rfl ?_
      cases h
      exact Ak_zret (Or.inr rfl) rfl (d_M_make 25 45 (.ireturn) 1 rfl)
  · replace h := it_t hc h
    refine Ak_aload_n 9 0 (d_M_make 4 8 (.aload_n 0) 1 rfl) rfl rfl rfl ?_
    refine Ak_iconst 10 (d_M_make 5 9 (.iconst 3) 1 rfl) rfl (rk rfl) ?_
    obtain ⟨r13, V14, h15, h⟩ := bnd_some h
    refine Ak_cV1 13 2 (c_M_refuses h15) rfl hO clX13 rfl mok_M_refuses lkM_M_258 (d_M_make 6 10 (.invokevirtual 258) 3 rfl) rfl (by decide) (Nat.le_of_ble_eq_true rfl) ?_
    refine Ak_if_lt 20 16 (d_M_make 7 13 (.ifCond .lt 7) 3 rfl) rfl rfl (fun hc => ?_) (fun hc => ?_)
    · replace h := it_t hc h
      refine Ak_iconst 21 (d_M_make 10 20 (.iconst 0) 1 rfl) rfl (rk rfl) ?_
      cases h
      exact Ak_zret (Or.inl rfl) rfl (d_M_make 11 21 (.ireturn) 1 rfl)
    · replace h := it_f hc h
      refine Ak_iconst 17 (d_M_make 8 16 (.iconst 1) 1 rfl) rfl (rk rfl) ?_
      refine Ak_goto 21 (d_M_make 9 17 (.goto 4) 3 rfl) rfl ?_
      cases h
      exact Ak_zret (Or.inr rfl) rfl (d_M_make 11 21 (.ireturn) 1 rfl)
theorem t_M_undo_L33 {S : ASh} {x0 : Int} (hO : isO S x0 13 = true) : ∀ (n : Nat) (V : ASt) (x1 : Int) (r : Int) (V' : ASt), b_M_undo_L33 S x0 n V x1 = some (r, V') → AWk m_M_undo 5 0 0 0 0 33 [some (aR x0), some (aI x1)] [] S V (some (aI r)) S V' := by
  intro n
  induction n with
  | zero => intro V x1 r V' h; cases h
  | succ n ih =>
    intro V x1 r V' h
    replace ih : ∀ {V : ASt} {x1 : Int} {r : Int} {V' : ASt}, b_M_undo_L33 S x0 n V x1 = some (r, V') → AWk m_M_undo 5 0 0 0 0 33 [some (aR x0), some (aI x1)] [] S V (some (aI r)) S V' := fun h => ih _ _ _ _ h
    rw [b_M_undo_L33] at h
    refine Ak_iload_n 34 1 (d_M_undo 19 33 (.iload_n 1) 1 rfl) rfl rfl rfl ?_
    refine Ak_aload_n 35 0 (d_M_undo 20 34 (.aload_n 0) 1 rfl) rfl rfl rfl ?_
    obtain ⟨r1, V2, h3, h⟩ := bnd_some h
    refine Ak_cV1 38 2 (c_M_rulesAll h3) rfl hO clX13 rfl mok_M_rulesAll lkM_M_436 (d_M_undo 21 35 (.invokevirtual 436) 3 rfl) rfl (by decide) (Nat.le_of_ble_eq_true rfl) ?_
    refine Ak_icmp_ge 127 41 (d_M_undo 22 38 (.if_icmp .ge 89) 3 rfl) rfl rfl (fun hc => ?_) (fun hc => ?_)
    · replace h := it_t hc h
      refine Ak_aload_n 128 0 (d_M_undo 77 127 (.aload_n 0) 1 rfl) rfl rfl rfl ?_
      obtain ⟨r4, V5, h6, h⟩ := bnd_some h
      refine Ak_cV1 131 4 (c_M_anews h6) rfl hO clX13 rfl mok_M_anews lkM_M_442 (d_M_undo 78 128 (.invokevirtual 442) 3 rfl) rfl (by decide) (Nat.le_of_ble_eq_true rfl) ?_
      refine Ak_istore_n 132 1 (d_M_undo 79 131 (.istore_n 1) 1 rfl) rfl rfl (by decide) ?_
      refine Ak_iload_n 133 1 (d_M_undo 80 132 (.iload_n 1) 1 rfl) rfl rfl rfl ?_
      refine Ak_if_lt 140 136 (d_M_undo 81 133 (.ifCond .lt 7) 3 rfl) rfl rfl (fun hc => ?_) (fun hc => ?_)
      · replace h := it_t hc h
        refine Ak_iconst 141 (d_M_undo 84 140 (.iconst 0) 1 rfl) rfl (rk rfl) ?_
        cases h
        exact Ak_zret (Or.inl rfl) rfl (d_M_undo 85 141 (.ireturn) 1 rfl)
      · replace h := it_f hc h
        refine Ak_iconst 137 (d_M_undo 82 136 (.iconst 1) 1 rfl) rfl (rk rfl) ?_
        refine Ak_goto 141 (d_M_undo 83 137 (.goto 4) 3 rfl) rfl ?_
        cases h
        exact Ak_zret (Or.inr rfl) rfl (d_M_undo 85 141 (.ireturn) 1 rfl)
    · replace h := it_f hc h
      refine Ak_aload_n 42 0 (d_M_undo 23 41 (.aload_n 0) 1 rfl) rfl rfl rfl ?_
      refine Ak_getF 45 44 hO clX13 (by decide) rfl lkF_M_147 (d_M_undo 24 42 (.getfield 147) 3 rfl) rfl ?_
      refine Ak_iload_n 46 1 (d_M_undo 25 45 (.iload_n 1) 1 rfl) rfl rfl rfl ?_
      refine Ak_aload_n 47 0 (d_M_undo 26 46 (.aload_n 0) 1 rfl) rfl rfl rfl ?_
      refine Ak_getF 50 66 hO clX13 (by decide) rfl lkF_M_213 (d_M_undo 27 47 (.getfield 213) 3 rfl) rfl ?_
      refine Ak_bipush 52 (d_M_undo 28 50 (.bipush 12) 2 rfl) rfl (bp_ok rfl) (rk rfl) ?_
      refine Ak_aload_n 53 0 (d_M_undo 29 52 (.aload_n 0) 1 rfl) rfl rfl rfl ?_
      refine Ak_getI 56 65 hO clX13 (by decide) (Or.inl rfl) lkF_M_210 (d_M_undo 30 53 (.getfield 210) 3 rfl) rfl ?_
      refine Ak_imul 57 (d_M_undo 31 56 (.imul) 1 rfl) rfl ?_
      refine Ak_iload_n 58 1 (d_M_undo 32 57 (.iload_n 1) 1 rfl) rfl rfl rfl ?_
      refine Ak_iadd 59 (d_M_undo 33 58 (.iadd) 1 rfl) rfl ?_
      obtain ⟨ha7, h⟩ := gd_some h
      refine Ak_iaload 60 ha7 (d_M_undo 34 59 (.iaload) 1 rfl) rfl ?_
      obtain ⟨ha8, h⟩ := gd_some h
      refine Ak_iastore 61 ha8 (d_M_undo 35 60 (.iastore) 1 rfl) rfl (fun V9 hV9 => ?_)
      replace h := wV_some h V9 hV9
      refine Ak_aload_n 62 0 (d_M_undo 36 61 (.aload_n 0) 1 rfl) rfl rfl rfl ?_
      refine Ak_getF 65 45 hO clX13 (by decide) rfl lkF_M_150 (d_M_undo 37 62 (.getfield 150) 3 rfl) rfl ?_
      refine Ak_iload_n 66 1 (d_M_undo 38 65 (.iload_n 1) 1 rfl) rfl rfl rfl ?_
      refine Ak_aload_n 67 0 (d_M_undo 39 66 (.aload_n 0) 1 rfl) rfl rfl rfl ?_
      refine Ak_getF 70 67 hO clX13 (by decide) rfl lkF_M_216 (d_M_undo 40 67 (.getfield 216) 3 rfl) rfl ?_
      refine Ak_bipush 72 (d_M_undo 41 70 (.bipush 12) 2 rfl) rfl (bp_ok rfl) (rk rfl) ?_
      refine Ak_aload_n 73 0 (d_M_undo 42 72 (.aload_n 0) 1 rfl) rfl rfl rfl ?_
      refine Ak_getI 76 65 hO clX13 (by decide) (Or.inl rfl) lkF_M_210 (d_M_undo 43 73 (.getfield 210) 3 rfl) rfl ?_
      refine Ak_imul 77 (d_M_undo 44 76 (.imul) 1 rfl) rfl ?_
      refine Ak_iload_n 78 1 (d_M_undo 45 77 (.iload_n 1) 1 rfl) rfl rfl rfl ?_
      refine Ak_iadd 79 (d_M_undo 46 78 (.iadd) 1 rfl) rfl ?_
      obtain ⟨ha10, h⟩ := gd_some h
      refine Ak_baload 80 ha10 (d_M_undo 47 79 (.baload) 1 rfl) rfl ?_
      obtain ⟨ha11, h⟩ := gd_some h
      obtain ⟨hb12, h⟩ := gd_some h
      refine Ak_bastore 81 ha11 (dec_t hb12) (d_M_undo 48 80 (.bastore) 1 rfl) rfl (fun V13 hV13 => ?_)
      replace h := wV_some h V13 hV13
      refine Ak_aload_n 82 0 (d_M_undo 49 81 (.aload_n 0) 1 rfl) rfl rfl rfl ?_
      refine Ak_getF 85 46 hO clX13 (by decide) rfl lkF_M_153 (d_M_undo 50 82 (.getfield 153) 3 rfl) rfl ?_
      refine Ak_iload_n 86 1 (d_M_undo 51 85 (.iload_n 1) 1 rfl) rfl rfl rfl ?_
      refine Ak_aload_n 87 0 (d_M_undo 52 86 (.aload_n 0) 1 rfl) rfl rfl rfl ?_
      refine Ak_getF 90 68 hO clX13 (by decide) rfl lkF_M_219 (d_M_undo 53 87 (.getfield 219) 3 rfl) rfl ?_
      refine Ak_bipush 92 (d_M_undo 54 90 (.bipush 12) 2 rfl) rfl (bp_ok rfl) (rk rfl) ?_
      refine Ak_aload_n 93 0 (d_M_undo 55 92 (.aload_n 0) 1 rfl) rfl rfl rfl ?_
      refine Ak_getI 96 65 hO clX13 (by decide) (Or.inl rfl) lkF_M_210 (d_M_undo 56 93 (.getfield 210) 3 rfl) rfl ?_
      refine Ak_imul 97 (d_M_undo 57 96 (.imul) 1 rfl) rfl ?_
      refine Ak_iload_n 98 1 (d_M_undo 58 97 (.iload_n 1) 1 rfl) rfl rfl rfl ?_
      refine Ak_iadd 99 (d_M_undo 59 98 (.iadd) 1 rfl) rfl ?_
      obtain ⟨ha14, h⟩ := gd_some h
      refine Ak_baload 100 ha14 (d_M_undo 60 99 (.baload) 1 rfl) rfl ?_
      obtain ⟨ha15, h⟩ := gd_some h
      obtain ⟨hb16, h⟩ := gd_some h
      refine Ak_bastore 101 ha15 (dec_t hb16) (d_M_undo 61 100 (.bastore) 1 rfl) rfl (fun V17 hV17 => ?_)
      replace h := wV_some h V17 hV17
      refine Ak_aload_n 102 0 (d_M_undo 62 101 (.aload_n 0) 1 rfl) rfl rfl rfl ?_
      refine Ak_getF 105 47 hO clX13 (by decide) rfl lkF_M_156 (d_M_undo 63 102 (.getfield 156) 3 rfl) rfl ?_
      refine Ak_iload_n 106 1 (d_M_undo 64 105 (.iload_n 1) 1 rfl) rfl rfl rfl ?_
      refine Ak_aload_n 107 0 (d_M_undo 65 106 (.aload_n 0) 1 rfl) rfl rfl rfl ?_
      refine Ak_getF 110 69 hO clX13 (by decide) rfl lkF_M_222 (d_M_undo 66 107 (.getfield 222) 3 rfl) rfl ?_
      refine Ak_bipush 112 (d_M_undo 67 110 (.bipush 12) 2 rfl) rfl (bp_ok rfl) (rk rfl) ?_
      refine Ak_aload_n 113 0 (d_M_undo 68 112 (.aload_n 0) 1 rfl) rfl rfl rfl ?_
      refine Ak_getI 116 65 hO clX13 (by decide) (Or.inl rfl) lkF_M_210 (d_M_undo 69 113 (.getfield 210) 3 rfl) rfl ?_
      refine Ak_imul 117 (d_M_undo 70 116 (.imul) 1 rfl) rfl ?_
      refine Ak_iload_n 118 1 (d_M_undo 71 117 (.iload_n 1) 1 rfl) rfl rfl rfl ?_
      refine Ak_iadd 119 (d_M_undo 72 118 (.iadd) 1 rfl) rfl ?_
      obtain ⟨ha18, h⟩ := gd_some h
      refine Ak_iaload 120 ha18 (d_M_undo 73 119 (.iaload) 1 rfl) rfl ?_
      obtain ⟨ha19, h⟩ := gd_some h
      refine Ak_iastore 121 ha19 (d_M_undo 74 120 (.iastore) 1 rfl) rfl (fun V20 hV20 => ?_)
      replace h := wV_some h V20 hV20
      refine Ak_iinc 124 (d_M_undo 75 121 (.iinc 1 1) 3 rfl) rfl rfl (by decide) ?_
      refine Ak_goto 33 (d_M_undo 76 124 (.goto (-91)) 3 rfl) rfl ?_
      refine Ak_keep [true, true] ?_
      exact ih h
theorem c_M_undo {S : ASh} {V : ASt} {x0 : Int} {r : Int} {V' : ASt} (h : f_M_undo S V x0 = some (r, V')) : ACt m_M_undo 5 0 0 [(aR x0)] S V (some (aI r)) S V' := by
  unfold f_M_undo at h
  obtain ⟨hO, h⟩ := gd_some h
  refine ACt_of (plainFor_of_name rfl) rfl (Nat.le_of_ble_eq_true rfl) ?_
  show AWk m_M_undo 5 0 0 0 0 0 [some (aR x0)] [] S V (some (aI r)) S V'
  refine Ak_aload_n 1 0 (d_M_undo 0 0 (.aload_n 0) 1 rfl) rfl rfl rfl ?_
  refine Ak_getI 4 65 hO clX13 (by decide) (Or.inl rfl) lkF_M_210 (d_M_undo 1 1 (.getfield 210) 3 rfl) rfl ?_
  refine Ak_if_ne 21 7 (d_M_undo 2 4 (.ifCond .ne 17) 3 rfl) rfl rfl (fun hc => ?_) (fun hc => ?_)
  · replace h := it_f hc h
    refine Ak_aload_n 22 0 (d_M_undo 11 21 (.aload_n 0) 1 rfl) rfl rfl rfl ?_
    refine Ak_dup 23 (d_M_undo 12 22 (.dup) 1 rfl) rfl rfl ?_
    refine Ak_getI 26 65 hO clX13 (by decide) (Or.inl rfl) lkF_M_210 (d_M_undo 13 23 (.getfield 210) 3 rfl) rfl ?_
    refine Ak_iconst 27 (d_M_undo 14 26 (.iconst 1) 1 rfl) rfl (rk rfl) ?_
    refine Ak_isub 28 (d_M_undo 15 27 (.isub) 1 rfl) rfl ?_
    refine Ak_putI 31 65 hO clX13 (by decide) rfl rfl rfl lkF_M_210 (d_M_undo 16 28 (.putfield 210) 3 rfl) rfl (fun V21 hV21 => ?_)
    replace h := wV_some h V21 hV21
    refine Ak_iconst 32 (d_M_undo 17 31 (.iconst 0) 1 rfl) rfl (rk rfl) ?_
    refine Ak_istore_n 33 1 (d_M_undo 18 32 (.istore_n 1) 1 rfl) rfl rfl (by decide) ?_
    refine Ak_keep [true, true] ?_
    exact t_M_undo_L33 hO FU _ _ _ _ h
  · replace h := it_t hc h
    refine Ak_aload_n 8 0 (d_M_undo 3 7 (.aload_n 0) 1 rfl) rfl rfl rfl ?_
    refine Ak_iconst 9 (d_M_undo 4 8 (.iconst 3) 1 rfl) rfl (rk rfl) ?_
    obtain ⟨r22, V23, h24, h⟩ := bnd_some h
    refine Ak_cV1 12 2 (c_M_refuses h24) rfl hO clX13 rfl mok_M_refuses lkM_M_258 (d_M_undo 5 9 (.invokevirtual 258) 3 rfl) rfl (by decide) (Nat.le_of_ble_eq_true rfl) ?_
    refine Ak_if_lt 19 15 (d_M_undo 6 12 (.ifCond .lt 7) 3 rfl) rfl rfl (fun hc => ?_) (fun hc => ?_)
    · replace h := it_t hc h
      refine Ak_iconst 20 (d_M_undo 9 19 (.iconst 0) 1 rfl) rfl (rk rfl) ?_
      cases h
      exact Ak_zret (Or.inl rfl) rfl (d_M_undo 10 20 (.ireturn) 1 rfl)
    · replace h := it_f hc h
      refine Ak_iconst 16 (d_M_undo 7 15 (.iconst 1) 1 rfl) rfl (rk rfl) ?_
      refine Ak_goto 20 (d_M_undo 8 16 (.goto 4) 3 rfl) rfl ?_
      cases h
      exact Ak_zret (Or.inr rfl) rfl (d_M_undo 10 20 (.ireturn) 1 rfl)
theorem t_M_kind_J18 {S : ASh} {V : ASt} {x0 : Int} {r : Int} {V' : ASt} (hO : isO S x0 13 = true) (h : b_M_kind_J18 S  V x0 = some (r, V')) : AWk m_M_kind 3 0 0 0 0 18 [some (aR x0)] [] S V (some (aI r)) S V' := by
  unfold b_M_kind_J18 at h
  refine Ak_aload_n 19 0 (d_M_kind 10 18 (.aload_n 0) 1 rfl) rfl rfl rfl ?_
  refine Ak_iconst 20 (d_M_kind 11 19 (.iconst 4) 1 rfl) rfl (rk rfl) ?_
  obtain ⟨r1, V2, h3, h⟩ := bnd_some h
  refine Ak_cV1 23 2 (c_M_refuses h3) rfl hO clX13 rfl mok_M_refuses lkM_M_258 (d_M_kind 12 20 (.invokevirtual 258) 3 rfl) rfl (by decide) (Nat.le_of_ble_eq_true rfl) ?_
  cases h
  exact Ak_iret rfl (d_M_kind 13 23 (.ireturn) 1 rfl)
theorem c_M_kind {S : ASh} {V : ASt} {x0 x1 x2 : Int} {r : Int} {V' : ASt} (h : f_M_kind S V x0 x1 x2 = some (r, V')) : ACt m_M_kind 3 0 0 [(aR x0), (aI x1), (aI x2)] S V (some (aI r)) S V' := by
  unfold f_M_kind at h
  obtain ⟨hO, h⟩ := gd_some h
  refine ACt_of (plainFor_of_name rfl) rfl (Nat.le_of_ble_eq_true rfl) ?_
  show AWk m_M_kind 3 0 0 0 0 0 [some (aR x0), some (aI x1), some (aI x2)] [] S V (some (aI r)) S V'
  refine Ak_iload_n 1 1 (d_M_kind 0 0 (.iload_n 1) 1 rfl) rfl rfl rfl ?_
  refine Ak_iconst 2 (d_M_kind 1 1 (.iconst 0) 1 rfl) rfl (rk rfl) ?_
  refine Ak_iconst 3 (d_M_kind 2 2 (.iconst 1) 1 rfl) rfl (rk rfl) ?_
  obtain ⟨r4, V5, h6, h⟩ := bnd_some h
  refine Ak_cS1 6 2 (c_M_is h6) rfl mok_M_is lkM_M_329 (d_M_kind 3 3 (.invokestatic 329) 3 rfl) rfl (by decide) (Nat.le_of_ble_eq_true rfl) ?_
  refine Ak_if_eq 18 9 (d_M_kind 4 6 (.ifCond .eq 12) 3 rfl) rfl rfl (fun hc => ?_) (fun hc => ?_)
  · replace h := it_t hc h
    refine Ak_keep [true] ?_
    exact t_M_kind_J18 hO h
  · replace h := it_f hc h
    refine Ak_iload_n 10 2 (d_M_kind 5 9 (.iload_n 2) 1 rfl) rfl rfl rfl ?_
    refine Ak_iconst 11 (d_M_kind 6 10 (.iconst 0) 1 rfl) rfl (rk rfl) ?_
    refine Ak_iconst 12 (d_M_kind 7 11 (.iconst 2) 1 rfl) rfl (rk rfl) ?_
    obtain ⟨r7, V8, h9, h⟩ := bnd_some h
    refine Ak_cS1 15 2 (c_M_is h9) rfl mok_M_is lkM_M_329 (d_M_kind 8 12 (.invokestatic 329) 3 rfl) rfl (by decide) (Nat.le_of_ble_eq_true rfl) ?_
    refine Ak_if_ne 24 18 (d_M_kind 9 15 (.ifCond .ne 9) 3 rfl) rfl rfl (fun hc => ?_) (fun hc => ?_)
    · replace h := it_f hc h
      refine Ak_aload_n 25 0 (d_M_kind 14 24 (.aload_n 0) 1 rfl) rfl rfl rfl ?_
      refine Ak_getF 28 49 hO clX13 (by decide) rfl lkF_M_162 (d_M_kind 15 25 (.getfield 162) 3 rfl) rfl ?_
      refine Ak_iload_n 29 1 (d_M_kind 16 28 (.iload_n 1) 1 rfl) rfl rfl rfl ?_
      obtain ⟨ha10, h⟩ := gd_some h
      refine Ak_iaload 30 ha10 (d_M_kind 17 29 (.iaload) 1 rfl) rfl ?_
      refine Ak_istore_n 31 3 (d_M_kind 18 30 (.istore_n 3) 1 rfl) rfl rfl (by decide) ?_
      refine Ak_aload_n 32 0 (d_M_kind 19 31 (.aload_n 0) 1 rfl) rfl rfl rfl ?_
      refine Ak_getF 35 49 hO clX13 (by decide) rfl lkF_M_162 (d_M_kind 20 32 (.getfield 162) 3 rfl) rfl ?_
      refine Ak_iload_n 36 1 (d_M_kind 21 35 (.iload_n 1) 1 rfl) rfl rfl rfl ?_
      refine Ak_iload_n 37 2 (d_M_kind 22 36 (.iload_n 2) 1 rfl) rfl rfl rfl ?_
      refine Ak_iastore 38 ha10 (d_M_kind 23 37 (.iastore) 1 rfl) rfl (fun V11 hV11 => ?_)
      replace h := wV_some h V11 hV11
      refine Ak_iload_n 39 3 (d_M_kind 24 38 (.iload_n 3) 1 rfl) rfl rfl rfl ?_
      cases h
      exact Ak_iret rfl (d_M_kind 25 39 (.ireturn) 1 rfl)
    · replace h := it_t hc h
      refine Ak_keep [true] ?_
      exact t_M_kind_J18 hO h
theorem c_M_forPlayer {S : ASh} {V : ASt} {x0 x1 x2 : Int} {r : Int} {V' : ASt} (h : f_M_forPlayer S V x0 x1 x2 = some (r, V')) : ACt m_M_forPlayer 2 0 0 [(aI x0), (aI x1), (aI x2)] S V (some (aI r)) S V' := by
  unfold f_M_forPlayer at h
  refine ACt_of (plainFor_of_name rfl) rfl (Nat.le_of_ble_eq_true rfl) ?_
  show AWk m_M_forPlayer 2 0 0 0 0 0 [some (aI x0), some (aI x1), some (aI x2)] [] S V (some (aI r)) S V'
  refine Ak_iload_n 1 1 (d_M_forPlayer 0 0 (.iload_n 1) 1 rfl) rfl rfl rfl ?_
  refine Ak_iconst 2 (d_M_forPlayer 1 1 (.iconst 2) 1 rfl) rfl (rk rfl) ?_
  refine Ak_irem 3 (d_M_forPlayer 2 2 (.irem) 1 rfl) rfl (by decide) ?_
  refine Ak_iload_n 4 0 (d_M_forPlayer 3 3 (.iload_n 0) 1 rfl) rfl rfl rfl ?_
  refine Ak_icmp_ne 11 7 (d_M_forPlayer 4 4 (.if_icmp .ne 7) 3 rfl) rfl rfl (fun hc => ?_) (fun hc => ?_)
  · replace h := it_f hc h
    refine Ak_iload_n 12 2 (d_M_forPlayer 7 11 (.iload_n 2) 1 rfl) rfl rfl rfl ?_
    refine Ak_ineg 13 (d_M_forPlayer 8 12 (.ineg) 1 rfl) rfl ?_
    cases h
    exact Ak_iret rfl (d_M_forPlayer 9 13 (.ireturn) 1 rfl)
  · replace h := it_t hc h
    refine Ak_iload_n 8 2 (d_M_forPlayer 5 7 (.iload_n 2) 1 rfl) rfl rfl rfl ?_
    refine Ak_goto 13 (d_M_forPlayer 6 8 (.goto 5) 3 rfl) rfl ?_
    cases h
    exact Ak_iret rfl (d_M_forPlayer 9 13 (.ireturn) 1 rfl)
theorem t_M_wouldOf_L56 {S : ASh} {x0 x1 : Int} (hO : isO S x0 13 = true) : ∀ (n : Nat) (V : ASt) (x3 x4 x5 : Int) (r : Int) (V' : ASt), b_M_wouldOf_L56 S x0 x1 n V x3 x4 x5 = some (r, V') → AWk m_M_wouldOf 11 0 0 0 0 56 [some (aR x0), some (aI x1), none, some (aI x3), some (aI x4), some (aI x5)] [] S V (some (aI r)) S V' := by
  intro n
  induction n with
  | zero => intro V x3 x4 x5 r V' h; cases h
  | succ n ih =>
    intro V x3 x4 x5 r V' h
    replace ih : ∀ {V : ASt} {x3 x4 x5 : Int} {r : Int} {V' : ASt}, b_M_wouldOf_L56 S x0 x1 n V x3 x4 x5 = some (r, V') → AWk m_M_wouldOf 11 0 0 0 0 56 [some (aR x0), some (aI x1), none, some (aI x3), some (aI x4), some (aI x5)] [] S V (some (aI r)) S V' := fun h => ih _ _ _ _ _ _ h
    rw [b_M_wouldOf_L56] at h
    refine Ak_iload 58 (d_M_wouldOf 36 56 (.iload 5) 2 rfl) rfl rfl ?_
    refine Ak_bipush 60 (d_M_wouldOf 37 58 (.bipush 6) 2 rfl) rfl (bp_ok rfl) (rk rfl) ?_
    refine Ak_aload_n 61 0 (d_M_wouldOf 38 60 (.aload_n 0) 1 rfl) rfl rfl rfl ?_
    obtain ⟨r1, V2, h3, h⟩ := bnd_some h
    refine Ak_cV1 64 2 (c_M_rulesAll h3) rfl hO clX13 rfl mok_M_rulesAll lkM_M_436 (d_M_wouldOf 39 61 (.invokevirtual 436) 3 rfl) rfl (by decide) (Nat.le_of_ble_eq_true rfl) ?_
    refine Ak_imul 65 (d_M_wouldOf 40 64 (.imul) 1 rfl) rfl ?_
    refine Ak_icmp_ge 152 68 (d_M_wouldOf 41 65 (.if_icmp .ge 87) 3 rfl) rfl rfl (fun hc => ?_) (fun hc => ?_)
    · replace h := it_t hc h
      refine Ak_iload_n 153 3 (d_M_wouldOf 86 152 (.iload_n 3) 1 rfl) rfl rfl rfl ?_
      cases h
      exact Ak_iret rfl (d_M_wouldOf 87 153 (.ireturn) 1 rfl)
    · replace h := it_f hc h
      refine Ak_aload_n 69 0 (d_M_wouldOf 42 68 (.aload_n 0) 1 rfl) rfl rfl rfl ?_
      refine Ak_iload 71 (d_M_wouldOf 43 69 (.iload 5) 2 rfl) rfl rfl ?_
      obtain ⟨r4, V5, h6, h⟩ := bnd_some h
      refine Ak_cV1 74 3 (c_M_isChange h6) rfl hO clX13 rfl mok_M_isChange lkM_M_528 (d_M_wouldOf 44 71 (.invokevirtual 528) 3 rfl) rfl (by decide) (Nat.le_of_ble_eq_true rfl) ?_
      refine Ak_if_ne 80 77 (d_M_wouldOf 45 74 (.ifCond .ne 6) 3 rfl) rfl rfl (fun hc => ?_) (fun hc => ?_)
      · replace h := it_f hc h
        refine Ak_aload_n 81 0 (d_M_wouldOf 47 80 (.aload_n 0) 1 rfl) rfl rfl rfl ?_
        refine Ak_iload 83 (d_M_wouldOf 48 81 (.iload 5) 2 rfl) rfl rfl ?_
        refine Ak_aload_n 84 0 (d_M_wouldOf 49 83 (.aload_n 0) 1 rfl) rfl rfl rfl ?_
        refine Ak_getI 87 48 hO clX13 (by decide) (Or.inl rfl) lkF_M_159 (d_M_wouldOf 50 84 (.getfield 159) 3 rfl) rfl ?_
        refine Ak_iconst 88 (d_M_wouldOf 51 87 (.iconst 1) 1 rfl) rfl (rk rfl) ?_
        refine Ak_iadd 89 (d_M_wouldOf 52 88 (.iadd) 1 rfl) rfl ?_
        obtain ⟨r7, V8, h9, h⟩ := bnd_some h
        refine Ak_cV1 92 10 (c_M_worthWith h9) rfl hO clX13 rfl mok_M_worthWith lkM_M_534 (d_M_wouldOf 53 89 (.invokevirtual 534) 3 rfl) rfl (by decide) (Nat.le_of_ble_eq_true rfl) ?_
        refine Ak_istore 94 (d_M_wouldOf 54 92 (.istore 6) 2 rfl) rfl (by decide) ?_
        refine Ak_aload_n 95 0 (d_M_wouldOf 55 94 (.aload_n 0) 1 rfl) rfl rfl rfl ?_
        refine Ak_getF 98 49 hO clX13 (by decide) rfl lkF_M_162 (d_M_wouldOf 56 95 (.getfield 162) 3 rfl) rfl ?_
        refine Ak_iload_n 99 1 (d_M_wouldOf 57 98 (.iload_n 1) 1 rfl) rfl rfl rfl ?_
        obtain ⟨ha10, h⟩ := gd_some h
        refine Ak_iaload 100 ha10 (d_M_wouldOf 58 99 (.iaload) 1 rfl) rfl ?_
        refine Ak_iconst 101 (d_M_wouldOf 59 100 (.iconst 2) 1 rfl) rfl (rk rfl) ?_
        refine Ak_icmp_ne 112 104 (d_M_wouldOf 60 101 (.if_icmp .ne 11) 3 rfl) rfl rfl (fun hc => ?_) (fun hc => ?_)
        · replace h := it_f hc h
          refine Ak_iload_n 113 1 (d_M_wouldOf 65 112 (.iload_n 1) 1 rfl) rfl rfl rfl ?_
          refine Ak_aload_n 114 0 (d_M_wouldOf 66 113 (.aload_n 0) 1 rfl) rfl rfl rfl ?_
          refine Ak_getI 117 48 hO clX13 (by decide) (Or.inl rfl) lkF_M_159 (d_M_wouldOf 67 114 (.getfield 159) 3 rfl) rfl ?_
          refine Ak_iconst 118 (d_M_wouldOf 68 117 (.iconst 1) 1 rfl) rfl (rk rfl) ?_
          refine Ak_iadd 119 (d_M_wouldOf 69 118 (.iadd) 1 rfl) rfl ?_
          refine Ak_iload 121 (d_M_wouldOf 70 119 (.iload 6) 2 rfl) rfl rfl ?_
          obtain ⟨r11, V12, h13, h⟩ := bnd_some h
          refine Ak_cS1 124 2 (c_M_forPlayer h13) rfl mok_M_forPlayer lkM_M_540 (d_M_wouldOf 71 121 (.invokestatic 540) 3 rfl) rfl (by decide) (Nat.le_of_ble_eq_true rfl) ?_
          refine Ak_iload 126 (d_M_wouldOf 72 124 (.iload 4) 2 rfl) rfl rfl ?_
          refine Ak_icmp_le 146 129 (d_M_wouldOf 73 126 (.if_icmp .le 20) 3 rfl) rfl rfl (fun hc => ?_) (fun hc => ?_)
          · replace h := it_t hc h
            refine Ak_iinc 149 (d_M_wouldOf 84 146 (.iinc 5 1) 3 rfl) rfl rfl (by decide) ?_
            refine Ak_goto 56 (d_M_wouldOf 85 149 (.goto (-93)) 3 rfl) rfl ?_
            refine Ak_keep [true, true, false, true, true, true] ?_
            exact ih h
          · replace h := it_f hc h
            refine Ak_iload_n 130 1 (d_M_wouldOf 74 129 (.iload_n 1) 1 rfl) rfl rfl rfl ?_
            refine Ak_aload_n 131 0 (d_M_wouldOf 75 130 (.aload_n 0) 1 rfl) rfl rfl rfl ?_
            refine Ak_getI 134 48 hO clX13 (by decide) (Or.inl rfl) lkF_M_159 (d_M_wouldOf 76 131 (.getfield 159) 3 rfl) rfl ?_
            refine Ak_iconst 135 (d_M_wouldOf 77 134 (.iconst 1) 1 rfl) rfl (rk rfl) ?_
            refine Ak_iadd 136 (d_M_wouldOf 78 135 (.iadd) 1 rfl) rfl ?_
            refine Ak_iload 138 (d_M_wouldOf 79 136 (.iload 6) 2 rfl) rfl rfl ?_
            obtain ⟨r14, V15, h16, h⟩ := bnd_some h
            refine Ak_cS1 141 2 (c_M_forPlayer h16) rfl mok_M_forPlayer lkM_M_540 (d_M_wouldOf 80 138 (.invokestatic 540) 3 rfl) rfl (by decide) (Nat.le_of_ble_eq_true rfl) ?_
            refine Ak_istore 143 (d_M_wouldOf 81 141 (.istore 4) 2 rfl) rfl (by decide) ?_
            refine Ak_iload 145 (d_M_wouldOf 82 143 (.iload 5) 2 rfl) rfl rfl ?_
            refine Ak_istore_n 146 3 (d_M_wouldOf 83 145 (.istore_n 3) 1 rfl) rfl rfl (by decide) ?_
            refine Ak_iinc 149 (d_M_wouldOf 84 146 (.iinc 5 1) 3 rfl) rfl rfl (by decide) ?_
            refine Ak_goto 56 (d_M_wouldOf 85 149 (.goto (-93)) 3 rfl) rfl ?_
            refine Ak_keep [true, true, false, true, true, true] ?_
            exact ih h
        · replace h := it_t hc h
          refine Ak_iload 106 (d_M_wouldOf 61 104 (.iload 6) 2 rfl) rfl rfl ?_
          refine Ak_if_ne 146 109 (d_M_wouldOf 62 106 (.ifCond .ne 40) 3 rfl) rfl rfl (fun hc => ?_) (fun hc => ?_)
          · replace h := it_f hc h
            refine Ak_iinc 149 (d_M_wouldOf 84 146 (.iinc 5 1) 3 rfl) rfl rfl (by decide) ?_
            refine Ak_goto 56 (d_M_wouldOf 85 149 (.goto (-93)) 3 rfl) rfl ?_
            refine Ak_keep [true, true, false, true, true, true] ?_
            exact ih h
          · replace h := it_t hc h
            refine Ak_iload 111 (d_M_wouldOf 63 109 (.iload 5) 2 rfl) rfl rfl ?_
            cases h
            exact Ak_iret rfl (d_M_wouldOf 64 111 (.ireturn) 1 rfl)
      · replace h := it_t hc h
        refine Ak_goto 146 (d_M_wouldOf 46 77 (.goto 69) 3 rfl) rfl ?_
        refine Ak_iinc 149 (d_M_wouldOf 84 146 (.iinc 5 1) 3 rfl) rfl rfl (by decide) ?_
        refine Ak_goto 56 (d_M_wouldOf 85 149 (.goto (-93)) 3 rfl) rfl ?_
        refine Ak_keep [true, true, false, true, true, true] ?_
        exact ih h
theorem t_M_wouldOf_J38 {S : ASh} {V : ASt} {x0 x1 x2 : Int} {r : Int} {V' : ASt} (hO : isO S x0 13 = true) (h : b_M_wouldOf_J38 S  V x0 x1 x2 = some (r, V')) : AWk m_M_wouldOf 11 0 0 0 0 38 [some (aR x0), some (aI x1), some (aI x2)] [] S V (some (aI r)) S V' := by
  unfold b_M_wouldOf_J38 at h
  refine Ak_iconst 39 (d_M_wouldOf 24 38 (.iconst (-1)) 1 rfl) rfl (rk rfl) ?_
  refine Ak_istore_n 40 3 (d_M_wouldOf 25 39 (.istore_n 3) 1 rfl) rfl rfl (by decide) ?_
  refine Ak_iload_n 41 1 (d_M_wouldOf 26 40 (.iload_n 1) 1 rfl) rfl rfl rfl ?_
  refine Ak_aload_n 42 0 (d_M_wouldOf 27 41 (.aload_n 0) 1 rfl) rfl rfl rfl ?_
  refine Ak_getI 45 48 hO clX13 (by decide) (Or.inl rfl) lkF_M_159 (d_M_wouldOf 28 42 (.getfield 159) 3 rfl) rfl ?_
  refine Ak_iconst 46 (d_M_wouldOf 29 45 (.iconst 1) 1 rfl) rfl (rk rfl) ?_
  refine Ak_iadd 47 (d_M_wouldOf 30 46 (.iadd) 1 rfl) rfl ?_
  refine Ak_iload_n 48 2 (d_M_wouldOf 31 47 (.iload_n 2) 1 rfl) rfl rfl rfl ?_
  obtain ⟨r17, V18, h19, h⟩ := bnd_some h
  refine Ak_cS1 51 2 (c_M_forPlayer h19) rfl mok_M_forPlayer lkM_M_540 (d_M_wouldOf 32 48 (.invokestatic 540) 3 rfl) rfl (by decide) (Nat.le_of_ble_eq_true rfl) ?_
  refine Ak_istore 53 (d_M_wouldOf 33 51 (.istore 4) 2 rfl) rfl (by decide) ?_
  refine Ak_iconst 54 (d_M_wouldOf 34 53 (.iconst 0) 1 rfl) rfl (rk rfl) ?_
  refine Ak_istore 56 (d_M_wouldOf 35 54 (.istore 5) 2 rfl) rfl (by decide) ?_
  refine Ak_keep [true, true, false, true, true, true] ?_
  exact t_M_wouldOf_L56 hO FU _ _ _ _ _ _ h
theorem c_M_wouldOf {S : ASh} {V : ASt} {x0 x1 : Int} {r : Int} {V' : ASt} (h : f_M_wouldOf S V x0 x1 = some (r, V')) : ACt m_M_wouldOf 11 0 0 [(aR x0), (aI x1)] S V (some (aI r)) S V' := by
  unfold f_M_wouldOf at h
  obtain ⟨hO, h⟩ := gd_some h
  refine ACt_of (plainFor_of_name rfl) rfl (Nat.le_of_ble_eq_true rfl) ?_
  show AWk m_M_wouldOf 11 0 0 0 0 0 [some (aR x0), some (aI x1)] [] S V (some (aI r)) S V'
  refine Ak_aload_n 1 0 (d_M_wouldOf 0 0 (.aload_n 0) 1 rfl) rfl rfl rfl ?_
  refine Ak_getF 4 49 hO clX13 (by decide) rfl lkF_M_162 (d_M_wouldOf 1 1 (.getfield 162) 3 rfl) rfl ?_
  refine Ak_iload_n 5 1 (d_M_wouldOf 2 4 (.iload_n 1) 1 rfl) rfl rfl rfl ?_
  obtain ⟨ha20, h⟩ := gd_some h
  refine Ak_iaload 6 ha20 (d_M_wouldOf 3 5 (.iaload) 1 rfl) rfl ?_
  refine Ak_if_ne 11 9 (d_M_wouldOf 4 6 (.ifCond .ne 5) 3 rfl) rfl rfl (fun hc => ?_) (fun hc => ?_)
  · replace h := it_f hc h
    refine Ak_aload_n 12 0 (d_M_wouldOf 7 11 (.aload_n 0) 1 rfl) rfl rfl rfl ?_
    refine Ak_aload_n 13 0 (d_M_wouldOf 8 12 (.aload_n 0) 1 rfl) rfl rfl rfl ?_
    refine Ak_getI 16 48 hO clX13 (by decide) (Or.inl rfl) lkF_M_159 (d_M_wouldOf 9 13 (.getfield 159) 3 rfl) rfl ?_
    refine Ak_iconst 17 (d_M_wouldOf 10 16 (.iconst 1) 1 rfl) rfl (rk rfl) ?_
    refine Ak_iadd 18 (d_M_wouldOf 11 17 (.iadd) 1 rfl) rfl ?_
    obtain ⟨r21, V22, h23, h⟩ := bnd_some h
    refine Ak_cV1 21 9 (c_M_worthOn h23) rfl hO clX13 rfl mok_M_worthOn lkM_M_515 (d_M_wouldOf 12 18 (.invokevirtual 515) 3 rfl) rfl (by decide) (Nat.le_of_ble_eq_true rfl) ?_
    refine Ak_istore_n 22 2 (d_M_wouldOf 13 21 (.istore_n 2) 1 rfl) rfl rfl (by decide) ?_
    refine Ak_aload_n 23 0 (d_M_wouldOf 14 22 (.aload_n 0) 1 rfl) rfl rfl rfl ?_
    refine Ak_getF 26 49 hO clX13 (by decide) rfl lkF_M_162 (d_M_wouldOf 15 23 (.getfield 162) 3 rfl) rfl ?_
    refine Ak_iload_n 27 1 (d_M_wouldOf 16 26 (.iload_n 1) 1 rfl) rfl rfl rfl ?_
    refine Ak_iaload 28 ha20 (d_M_wouldOf 17 27 (.iaload) 1 rfl) rfl ?_
    refine Ak_iconst 29 (d_M_wouldOf 18 28 (.iconst 2) 1 rfl) rfl (rk rfl) ?_
    refine Ak_icmp_ne 38 32 (d_M_wouldOf 19 29 (.if_icmp .ne 9) 3 rfl) rfl rfl (fun hc => ?_) (fun hc => ?_)
    · replace h := it_f hc h
      refine Ak_keep [true, true, true] ?_
      exact t_M_wouldOf_J38 hO h
    · replace h := it_t hc h
      refine Ak_iload_n 33 2 (d_M_wouldOf 20 32 (.iload_n 2) 1 rfl) rfl rfl rfl ?_
      refine Ak_if_ne 38 36 (d_M_wouldOf 21 33 (.ifCond .ne 5) 3 rfl) rfl rfl (fun hc => ?_) (fun hc => ?_)
      · replace h := it_f hc h
        refine Ak_keep [true, true, true] ?_
        exact t_M_wouldOf_J38 hO h
      · replace h := it_t hc h
        refine Ak_iconst 37 (d_M_wouldOf 22 36 (.iconst (-1)) 1 rfl) rfl (rk rfl) ?_
        cases h
        exact Ak_iret rfl (d_M_wouldOf 23 37 (.ireturn) 1 rfl)
  · replace h := it_t hc h
    refine Ak_iconst 10 (d_M_wouldOf 5 9 (.iconst (-1)) 1 rfl) rfl (rk rfl) ?_
    cases h
    exact Ak_iret rfl (d_M_wouldOf 6 10 (.ireturn) 1 rfl)
theorem t_M_changedBy_J40 {S : ASh} {V : ASt} {x0 s0 s1 : Int} {r : Int} {V' : ASt} (hO : isO S x0 13 = true) (h : b_M_changedBy_J40 S  V x0 s0 s1 = some (r, V')) : AWk m_M_changedBy 12 0 0 0 0 40 [some (aR x0)] [(aI s1), (aR s0)] S V (some (aI r)) S V' := by
  unfold b_M_changedBy_J40 at h
  obtain ⟨hg4, h⟩ := gd_some h
  obtain ⟨r1, V2, h3, h⟩ := bnd_some h
  refine Ak_cV1 43 11 (c_M_wouldOf h3) rfl hg4 clX13 rfl mok_M_wouldOf lkM_M_543 (d_M_changedBy 24 40 (.invokevirtual 543) 3 rfl) rfl (by decide) (Nat.le_of_ble_eq_true rfl) ?_
  cases h
  exact Ak_iret rfl (d_M_changedBy 25 43 (.ireturn) 1 rfl)
theorem c_M_changedBy {S : ASh} {V : ASt} {x0 : Int} {r : Int} {V' : ASt} (h : f_M_changedBy S V x0 = some (r, V')) : ACt m_M_changedBy 12 0 0 [(aR x0)] S V (some (aI r)) S V' := by
  unfold f_M_changedBy at h
  obtain ⟨hO, h⟩ := gd_some h
  refine ACt_of (plainFor_of_name rfl) rfl (Nat.le_of_ble_eq_true rfl) ?_
  show AWk m_M_changedBy 12 0 0 0 0 0 [some (aR x0)] [] S V (some (aI r)) S V'
  refine Ak_aload_n 1 0 (d_M_changedBy 0 0 (.aload_n 0) 1 rfl) rfl rfl rfl ?_
  refine Ak_aload_n 2 0 (d_M_changedBy 1 1 (.aload_n 0) 1 rfl) rfl rfl rfl ?_
  refine Ak_getI 5 48 hO clX13 (by decide) (Or.inl rfl) lkF_M_159 (d_M_changedBy 2 2 (.getfield 159) 3 rfl) rfl ?_
  obtain ⟨r5, V6, h7, h⟩ := bnd_some h
  refine Ak_cV1 8 9 (c_M_worthOn h7) rfl hO clX13 rfl mok_M_worthOn lkM_M_515 (d_M_changedBy 3 5 (.invokevirtual 515) 3 rfl) rfl (by decide) (Nat.le_of_ble_eq_true rfl) ?_
  refine Ak_istore_n 9 1 (d_M_changedBy 4 8 (.istore_n 1) 1 rfl) rfl rfl (by decide) ?_
  refine Ak_iload_n 10 1 (d_M_changedBy 5 9 (.iload_n 1) 1 rfl) rfl rfl rfl ?_
  refine Ak_if_ne 17 13 (d_M_changedBy 6 10 (.ifCond .ne 7) 3 rfl) rfl rfl (fun hc => ?_) (fun hc => ?_)
  · replace h := it_f hc h
    refine Ak_aload_n 18 0 (d_M_changedBy 9 17 (.aload_n 0) 1 rfl) rfl rfl rfl ?_
    refine Ak_iload_n 19 1 (d_M_changedBy 10 18 (.iload_n 1) 1 rfl) rfl rfl rfl ?_
    refine Ak_iconst 20 (d_M_changedBy 11 19 (.iconst 1) 1 rfl) rfl (rk rfl) ?_
    refine Ak_icmp_ne 34 23 (d_M_changedBy 12 20 (.if_icmp .ne 14) 3 rfl) rfl rfl (fun hc => ?_) (fun hc => ?_)
    · replace h := it_f hc h
      refine Ak_aload_n 35 0 (d_M_changedBy 20 34 (.aload_n 0) 1 rfl) rfl rfl rfl ?_
      refine Ak_getI 38 48 hO clX13 (by decide) (Or.inl rfl) lkF_M_159 (d_M_changedBy 21 35 (.getfield 159) 3 rfl) rfl ?_
      refine Ak_iconst 39 (d_M_changedBy 22 38 (.iconst 2) 1 rfl) rfl (rk rfl) ?_
      refine Ak_irem 40 (d_M_changedBy 23 39 (.irem) 1 rfl) rfl (by decide) ?_
      refine Ak_keep [true] ?_
      exact t_M_changedBy_J40 hO h
    · replace h := it_t hc h
      refine Ak_iconst 24 (d_M_changedBy 13 23 (.iconst 1) 1 rfl) rfl (rk rfl) ?_
      refine Ak_aload_n 25 0 (d_M_changedBy 14 24 (.aload_n 0) 1 rfl) rfl rfl rfl ?_
      refine Ak_getI 28 48 hO clX13 (by decide) (Or.inl rfl) lkF_M_159 (d_M_changedBy 15 25 (.getfield 159) 3 rfl) rfl ?_
      refine Ak_iconst 29 (d_M_changedBy 16 28 (.iconst 2) 1 rfl) rfl (rk rfl) ?_
      refine Ak_irem 30 (d_M_changedBy 17 29 (.irem) 1 rfl) rfl (by decide) ?_
      refine Ak_isub 31 (d_M_changedBy 18 30 (.isub) 1 rfl) rfl ?_
      refine Ak_goto 40 (d_M_changedBy 19 31 (.goto 9) 3 rfl) rfl ?_
      refine Ak_keep [true] ?_
      exact t_M_changedBy_J40 hO h
  · replace h := it_t hc h
    refine Ak_iconst 14 (d_M_changedBy 7 13 (.iconst (-1)) 1 rfl) rfl (rk rfl) ?_
    refine Ak_goto 43 (d_M_changedBy 8 14 (.goto 29) 3 rfl) rfl ?_
    cases h
    exact Ak_iret rfl (d_M_changedBy 25 43 (.ireturn) 1 rfl)
theorem t_M_sunday_J29 {S : ASh} {V : ASt} {x0 x1 : Int} {r : Int} {V' : ASt} (hO : isO S x0 13 = true) (h : b_M_sunday_J29 S  V x0 x1 = some (r, V')) : AWk m_M_sunday 13 0 0 0 0 29 [some (aR x0), some (aI x1)] [] S V (some (aI r)) S V' := by
  unfold b_M_sunday_J29 at h
  refine Ak_aload_n 30 0 (d_M_sunday 16 29 (.aload_n 0) 1 rfl) rfl rfl rfl ?_
  refine Ak_dup 31 (d_M_sunday 17 30 (.dup) 1 rfl) rfl rfl ?_
  refine Ak_getI 34 48 hO clX13 (by decide) (Or.inl rfl) lkF_M_159 (d_M_sunday 18 31 (.getfield 159) 3 rfl) rfl ?_
  refine Ak_iconst 35 (d_M_sunday 19 34 (.iconst 1) 1 rfl) rfl (rk rfl) ?_
  refine Ak_iadd 36 (d_M_sunday 20 35 (.iadd) 1 rfl) rfl ?_
  refine Ak_putI 39 48 hO clX13 (by decide) rfl rfl rfl lkF_M_159 (d_M_sunday 21 36 (.putfield 159) 3 rfl) rfl (fun V1 hV1 => ?_)
  replace h := wV_some h V1 hV1
  refine Ak_aload_n 40 0 (d_M_sunday 22 39 (.aload_n 0) 1 rfl) rfl rfl rfl ?_
  obtain ⟨r2, V3, h4, h⟩ := bnd_some h
  refine Ak_cV1 43 4 (c_M_anews h4) rfl hO clX13 rfl mok_M_anews lkM_M_442 (d_M_sunday 23 40 (.invokevirtual 442) 3 rfl) rfl (by decide) (Nat.le_of_ble_eq_true rfl) ?_
  refine Ak_istore_n 44 2 (d_M_sunday 24 43 (.istore_n 2) 1 rfl) rfl rfl (by decide) ?_
  refine Ak_iload_n 45 1 (d_M_sunday 25 44 (.iload_n 1) 1 rfl) rfl rfl rfl ?_
  cases h
  exact Ak_iret rfl (d_M_sunday 26 45 (.ireturn) 1 rfl)
theorem c_M_sunday {S : ASh} {V : ASt} {x0 : Int} {r : Int} {V' : ASt} (h : f_M_sunday S V x0 = some (r, V')) : ACt m_M_sunday 13 0 0 [(aR x0)] S V (some (aI r)) S V' := by
  unfold f_M_sunday at h
  obtain ⟨hO, h⟩ := gd_some h
  refine ACt_of (plainFor_of_name rfl) rfl (Nat.le_of_ble_eq_true rfl) ?_
  show AWk m_M_sunday 13 0 0 0 0 0 [some (aR x0)] [] S V (some (aI r)) S V'
  refine Ak_aload_n 1 0 (d_M_sunday 0 0 (.aload_n 0) 1 rfl) rfl rfl rfl ?_
  obtain ⟨r5, V6, h7, h⟩ := bnd_some h
  refine Ak_cV1 4 2 (c_M_hasFields h7) rfl hO clX13 rfl mok_M_hasFields lkM_M_448 (d_M_sunday 1 1 (.invokevirtual 448) 3 rfl) rfl (by decide) (Nat.le_of_ble_eq_true rfl) ?_
  refine Ak_if_ne 10 7 (d_M_sunday 2 4 (.ifCond .ne 6) 3 rfl) rfl rfl (fun hc => ?_) (fun hc => ?_)
  · replace h := it_f hc h
    refine Ak_aload_n 11 0 (d_M_sunday 5 10 (.aload_n 0) 1 rfl) rfl rfl rfl ?_
    obtain ⟨r8, V9, h10, h⟩ := bnd_some h
    refine Ak_cV1 14 12 (c_M_changedBy h10) rfl hO clX13 rfl mok_M_changedBy lkM_M_546 (d_M_sunday 6 11 (.invokevirtual 546) 3 rfl) rfl (by decide) (Nat.le_of_ble_eq_true rfl) ?_
    refine Ak_istore_n 15 1 (d_M_sunday 7 14 (.istore_n 1) 1 rfl) rfl rfl (by decide) ?_
    refine Ak_iload_n 16 1 (d_M_sunday 8 15 (.iload_n 1) 1 rfl) rfl rfl rfl ?_
    refine Ak_iconst 17 (d_M_sunday 9 16 (.iconst (-1)) 1 rfl) rfl (rk rfl) ?_
    refine Ak_icmp_eq 29 20 (d_M_sunday 10 17 (.if_icmp .eq 12) 3 rfl) rfl rfl (fun hc => ?_) (fun hc => ?_)
    · replace h := it_t hc h
      refine Ak_keep [true, true] ?_
      exact t_M_sunday_J29 hO h
    · replace h := it_f hc h
      refine Ak_aload_n 21 0 (d_M_sunday 11 20 (.aload_n 0) 1 rfl) rfl rfl rfl ?_
      obtain ⟨r11, V12, h13, h⟩ := bnd_some h
      refine Ak_cV0 24 3 (c_M_keeps h13) rfl hO clX13 rfl mok_M_keeps lkM_M_537 (d_M_sunday 12 21 (.invokevirtual 537) 3 rfl) rfl (by decide) (Nat.le_of_ble_eq_true rfl) ?_
      refine Ak_aload_n 25 0 (d_M_sunday 13 24 (.aload_n 0) 1 rfl) rfl rfl rfl ?_
      refine Ak_iload_n 26 1 (d_M_sunday 14 25 (.iload_n 1) 1 rfl) rfl rfl rfl ?_
      obtain ⟨r14, V15, h16, h⟩ := bnd_some h
      refine Ak_cV0 29 2 (c_M_changes h16) rfl hO clX13 rfl mok_M_changes lkM_M_531 (d_M_sunday 15 26 (.invokevirtual 531) 3 rfl) rfl (by decide) (Nat.le_of_ble_eq_true rfl) ?_
      refine Ak_keep [true, true] ?_
      exact t_M_sunday_J29 hO h
  · replace h := it_t hc h
    refine Ak_bipush 9 (d_M_sunday 3 7 (.bipush (-2)) 2 rfl) rfl (bp_ok rfl) (rk rfl) ?_
    cases h
    exact Ak_iret rfl (d_M_sunday 4 9 (.ireturn) 1 rfl)
theorem c_M_would {S : ASh} {V : ASt} {x0 x1 : Int} {r : Int} {V' : ASt} (h : f_M_would S V x0 x1 = some (r, V')) : ACt m_M_would 12 0 0 [(aR x0), (aI x1)] S V (some (aI r)) S V' := by
  unfold f_M_would at h
  obtain ⟨hO, h⟩ := gd_some h
  refine ACt_of (plainFor_of_name rfl) rfl (Nat.le_of_ble_eq_true rfl) ?_
  show AWk m_M_would 12 0 0 0 0 0 [some (aR x0), some (aI x1)] [] S V (some (aI r)) S V'
  refine Ak_aload_n 1 0 (d_M_would 0 0 (.aload_n 0) 1 rfl) rfl rfl rfl ?_
  obtain ⟨r1, V2, h3, h⟩ := bnd_some h
  refine Ak_cV1 4 2 (c_M_hasFields h3) rfl hO clX13 rfl mok_M_hasFields lkM_M_448 (d_M_would 1 1 (.invokevirtual 448) 3 rfl) rfl (by decide) (Nat.le_of_ble_eq_true rfl) ?_
  refine Ak_if_eq 16 7 (d_M_would 2 4 (.ifCond .eq 12) 3 rfl) rfl rfl (fun hc => ?_) (fun hc => ?_)
  · replace h := it_t hc h
    refine Ak_bipush 18 (d_M_would 8 16 (.bipush (-2)) 2 rfl) rfl (bp_ok rfl) (rk rfl) ?_
    refine Ak_goto 26 (d_M_would 9 18 (.goto 8) 3 rfl) rfl ?_
    cases h
    exact Ak_iret rfl (d_M_would 13 26 (.ireturn) 1 rfl)
  · replace h := it_f hc h
    refine Ak_iload_n 8 1 (d_M_would 3 7 (.iload_n 1) 1 rfl) rfl rfl rfl ?_
    refine Ak_iconst 9 (d_M_would 4 8 (.iconst 0) 1 rfl) rfl (rk rfl) ?_
    refine Ak_iconst 10 (d_M_would 5 9 (.iconst 1) 1 rfl) rfl (rk rfl) ?_
    obtain ⟨r4, V5, h6, h⟩ := bnd_some h
    refine Ak_cS1 13 2 (c_M_is h6) rfl mok_M_is lkM_M_329 (d_M_would 6 10 (.invokestatic 329) 3 rfl) rfl (by decide) (Nat.le_of_ble_eq_true rfl) ?_
    refine Ak_if_ne 21 16 (d_M_would 7 13 (.ifCond .ne 8) 3 rfl) rfl rfl (fun hc => ?_) (fun hc => ?_)
    · replace h := it_f hc h
      refine Ak_aload_n 22 0 (d_M_would 10 21 (.aload_n 0) 1 rfl) rfl rfl rfl ?_
      refine Ak_iload_n 23 1 (d_M_would 11 22 (.iload_n 1) 1 rfl) rfl rfl rfl ?_
      obtain ⟨r7, V8, h9, h⟩ := bnd_some h
      refine Ak_cV1 26 11 (c_M_wouldOf h9) rfl hO clX13 rfl mok_M_wouldOf lkM_M_543 (d_M_would 12 23 (.invokevirtual 543) 3 rfl) rfl (by decide) (Nat.le_of_ble_eq_true rfl) ?_
      cases h
      exact Ak_iret rfl (d_M_would 13 26 (.ireturn) 1 rfl)
    · replace h := it_t hc h
      refine Ak_bipush 18 (d_M_would 8 16 (.bipush (-2)) 2 rfl) rfl (bp_ok rfl) (rk rfl) ?_
      refine Ak_goto 26 (d_M_would 9 18 (.goto 8) 3 rfl) rfl ?_
      cases h
      exact Ak_iret rfl (d_M_would 13 26 (.ireturn) 1 rfl)
theorem t_M_behindOf_J35 {S : ASh} {V : ASt} {x0 x2 s0 : Int} {r : Int} {V' : ASt} (hO : isO S x0 13 = true) (h : b_M_behindOf_J35 S  V x0 x2 s0 = some (r, V')) : AWk m_M_behindOf 12 0 0 0 0 35 [some (aR x0), none, some (aI x2)] [(aI s0)] S V (some (aI r)) S V' := by
  unfold b_M_behindOf_J35 at h
  refine Ak_istore 37 (d_M_behindOf 21 35 (.istore 4) 2 rfl) rfl (by decide) ?_
  refine Ak_iload_n 38 2 (d_M_behindOf 22 37 (.iload_n 2) 1 rfl) rfl rfl rfl ?_
  refine Ak_aload_n 39 0 (d_M_behindOf 23 38 (.aload_n 0) 1 rfl) rfl rfl rfl ?_
  refine Ak_getI 42 48 hO clX13 (by decide) (Or.inl rfl) lkF_M_159 (d_M_behindOf 24 39 (.getfield 159) 3 rfl) rfl ?_
  refine Ak_iconst 43 (d_M_behindOf 25 42 (.iconst 1) 1 rfl) rfl (rk rfl) ?_
  refine Ak_iadd 44 (d_M_behindOf 26 43 (.iadd) 1 rfl) rfl ?_
  refine Ak_iload 46 (d_M_behindOf 27 44 (.iload 4) 2 rfl) rfl rfl ?_
  obtain ⟨r1, V2, h3, h⟩ := bnd_some h
  refine Ak_cS1 49 2 (c_M_forPlayer h3) rfl mok_M_forPlayer lkM_M_540 (d_M_behindOf 28 46 (.invokestatic 540) 3 rfl) rfl (by decide) (Nat.le_of_ble_eq_true rfl) ?_
  cases h
  exact Ak_iret rfl (d_M_behindOf 29 49 (.ireturn) 1 rfl)
theorem c_M_behindOf {S : ASh} {V : ASt} {x0 x1 x2 : Int} {r : Int} {V' : ASt} (h : f_M_behindOf S V x0 x1 x2 = some (r, V')) : ACt m_M_behindOf 12 0 0 [(aR x0), (aI x1), (aI x2)] S V (some (aI r)) S V' := by
  unfold f_M_behindOf at h
  obtain ⟨hO, h⟩ := gd_some h
  refine ACt_of (plainFor_of_name rfl) rfl (Nat.le_of_ble_eq_true rfl) ?_
  show AWk m_M_behindOf 12 0 0 0 0 0 [some (aR x0), some (aI x1), some (aI x2)] [] S V (some (aI r)) S V'
  refine Ak_aload_n 1 0 (d_M_behindOf 0 0 (.aload_n 0) 1 rfl) rfl rfl rfl ?_
  refine Ak_iload_n 2 1 (d_M_behindOf 1 1 (.iload_n 1) 1 rfl) rfl rfl rfl ?_
  obtain ⟨r4, V5, h6, h⟩ := bnd_some h
  refine Ak_cV1 5 11 (c_M_wouldOf h6) rfl hO clX13 rfl mok_M_wouldOf lkM_M_543 (d_M_behindOf 2 2 (.invokevirtual 543) 3 rfl) rfl (by decide) (Nat.le_of_ble_eq_true rfl) ?_
  refine Ak_istore_n 6 3 (d_M_behindOf 3 5 (.istore_n 3) 1 rfl) rfl rfl (by decide) ?_
  refine Ak_iload_n 7 3 (d_M_behindOf 4 6 (.iload_n 3) 1 rfl) rfl rfl rfl ?_
  refine Ak_iconst 8 (d_M_behindOf 5 7 (.iconst (-1)) 1 rfl) rfl (rk rfl) ?_
  refine Ak_icmp_ne 24 11 (d_M_behindOf 6 8 (.if_icmp .ne 16) 3 rfl) rfl rfl (fun hc => ?_) (fun hc => ?_)
  · replace h := it_f hc h
    refine Ak_aload_n 25 0 (d_M_behindOf 14 24 (.aload_n 0) 1 rfl) rfl rfl rfl ?_
    refine Ak_iload_n 26 3 (d_M_behindOf 15 25 (.iload_n 3) 1 rfl) rfl rfl rfl ?_
    refine Ak_aload_n 27 0 (d_M_behindOf 16 26 (.aload_n 0) 1 rfl) rfl rfl rfl ?_
    refine Ak_getI 30 48 hO clX13 (by decide) (Or.inl rfl) lkF_M_159 (d_M_behindOf 17 27 (.getfield 159) 3 rfl) rfl ?_
    refine Ak_iconst 31 (d_M_behindOf 18 30 (.iconst 1) 1 rfl) rfl (rk rfl) ?_
    refine Ak_iadd 32 (d_M_behindOf 19 31 (.iadd) 1 rfl) rfl ?_
    obtain ⟨r7, V8, h9, h⟩ := bnd_some h
    refine Ak_cV1 35 10 (c_M_worthWith h9) rfl hO clX13 rfl mok_M_worthWith lkM_M_534 (d_M_behindOf 20 32 (.invokevirtual 534) 3 rfl) rfl (by decide) (Nat.le_of_ble_eq_true rfl) ?_
    refine Ak_keep [true, false, true] ?_
    exact t_M_behindOf_J35 hO h
  · replace h := it_t hc h
    refine Ak_aload_n 12 0 (d_M_behindOf 7 11 (.aload_n 0) 1 rfl) rfl rfl rfl ?_
    refine Ak_aload_n 13 0 (d_M_behindOf 8 12 (.aload_n 0) 1 rfl) rfl rfl rfl ?_
    refine Ak_getI 16 48 hO clX13 (by decide) (Or.inl rfl) lkF_M_159 (d_M_behindOf 9 13 (.getfield 159) 3 rfl) rfl ?_
    refine Ak_iconst 17 (d_M_behindOf 10 16 (.iconst 1) 1 rfl) rfl (rk rfl) ?_
    refine Ak_iadd 18 (d_M_behindOf 11 17 (.iadd) 1 rfl) rfl ?_
    obtain ⟨r10, V11, h12, h⟩ := bnd_some h
    refine Ak_cV1 21 9 (c_M_worthOn h12) rfl hO clX13 rfl mok_M_worthOn lkM_M_515 (d_M_behindOf 12 18 (.invokevirtual 515) 3 rfl) rfl (by decide) (Nat.le_of_ble_eq_true rfl) ?_
    refine Ak_goto 35 (d_M_behindOf 13 21 (.goto 14) 3 rfl) rfl ?_
    refine Ak_keep [true, false, true] ?_
    exact t_M_behindOf_J35 hO h
theorem c_M_pays {S : ASh} {V : ASt} {x0 x1 : Int} {r : Int} {V' : ASt} (h : f_M_pays S V x0 x1 = some (r, V')) : ACt m_M_pays 13 0 0 [(aR x0), (aI x1)] S V (some (aI r)) S V' := by
  unfold f_M_pays at h
  obtain ⟨hO, h⟩ := gd_some h
  refine ACt_of (plainFor_of_name rfl) rfl (Nat.le_of_ble_eq_true rfl) ?_
  show AWk m_M_pays 13 0 0 0 0 0 [some (aR x0), some (aI x1)] [] S V (some (aI r)) S V'
  refine Ak_aload_n 1 0 (d_M_pays 0 0 (.aload_n 0) 1 rfl) rfl rfl rfl ?_
  obtain ⟨r1, V2, h3, h⟩ := bnd_some h
  refine Ak_cV1 4 2 (c_M_hasFields h3) rfl hO clX13 rfl mok_M_hasFields lkM_M_448 (d_M_pays 1 1 (.invokevirtual 448) 3 rfl) rfl (by decide) (Nat.le_of_ble_eq_true rfl) ?_
  refine Ak_if_eq 17 7 (d_M_pays 2 4 (.ifCond .eq 13) 3 rfl) rfl rfl (fun hc => ?_) (fun hc => ?_)
  · replace h := it_t hc h
    refine Ak_iconst 18 (d_M_pays 8 17 (.iconst (-1)) 1 rfl) rfl (rk rfl) ?_
    cases h
    exact Ak_iret rfl (d_M_pays 9 18 (.ireturn) 1 rfl)
  · replace h := it_f hc h
    refine Ak_iload_n 8 1 (d_M_pays 3 7 (.iload_n 1) 1 rfl) rfl rfl rfl ?_
    refine Ak_iconst 9 (d_M_pays 4 8 (.iconst 0) 1 rfl) rfl (rk rfl) ?_
    refine Ak_bipush 11 (d_M_pays 5 9 (.bipush 100) 2 rfl) rfl (bp_ok rfl) (rk rfl) ?_
    obtain ⟨r4, V5, h6, h⟩ := bnd_some h
    refine Ak_cS1 14 2 (c_M_is h6) rfl mok_M_is lkM_M_329 (d_M_pays 6 11 (.invokestatic 329) 3 rfl) rfl (by decide) (Nat.le_of_ble_eq_true rfl) ?_
    refine Ak_if_ne 19 17 (d_M_pays 7 14 (.ifCond .ne 5) 3 rfl) rfl rfl (fun hc => ?_) (fun hc => ?_)
    · replace h := it_f hc h
      refine Ak_aload_n 20 0 (d_M_pays 10 19 (.aload_n 0) 1 rfl) rfl rfl rfl ?_
      refine Ak_getI 23 48 hO clX13 (by decide) (Or.inl rfl) lkF_M_159 (d_M_pays 11 20 (.getfield 159) 3 rfl) rfl ?_
      refine Ak_iconst 24 (d_M_pays 12 23 (.iconst 2) 1 rfl) rfl (rk rfl) ?_
      refine Ak_irem 25 (d_M_pays 13 24 (.irem) 1 rfl) rfl (by decide) ?_
      refine Ak_istore_n 26 2 (d_M_pays 14 25 (.istore_n 2) 1 rfl) rfl rfl (by decide) ?_
      refine Ak_iload_n 27 1 (d_M_pays 15 26 (.iload_n 1) 1 rfl) rfl rfl rfl ?_
      refine Ak_aload_n 28 0 (d_M_pays 16 27 (.aload_n 0) 1 rfl) rfl rfl rfl ?_
      refine Ak_iconst 29 (d_M_pays 17 28 (.iconst 1) 1 rfl) rfl (rk rfl) ?_
      refine Ak_iload_n 30 2 (d_M_pays 18 29 (.iload_n 2) 1 rfl) rfl rfl rfl ?_
      refine Ak_isub 31 (d_M_pays 19 30 (.isub) 1 rfl) rfl ?_
      refine Ak_iload_n 32 2 (d_M_pays 20 31 (.iload_n 2) 1 rfl) rfl rfl rfl ?_
      obtain ⟨r7, V8, h9, h⟩ := bnd_some h
      refine Ak_cV1 35 12 (c_M_behindOf h9) rfl hO clX13 rfl mok_M_behindOf lkM_M_549 (d_M_pays 21 32 (.invokevirtual 549) 3 rfl) rfl (by decide) (Nat.le_of_ble_eq_true rfl) ?_
      refine Ak_iadd 36 (d_M_pays 22 35 (.iadd) 1 rfl) rfl ?_
      refine Ak_aload_n 37 0 (d_M_pays 23 36 (.aload_n 0) 1 rfl) rfl rfl rfl ?_
      refine Ak_iload_n 38 2 (d_M_pays 24 37 (.iload_n 2) 1 rfl) rfl rfl rfl ?_
      refine Ak_iload_n 39 2 (d_M_pays 25 38 (.iload_n 2) 1 rfl) rfl rfl rfl ?_
      obtain ⟨r10, V11, h12, h⟩ := bnd_some h
      refine Ak_cV1 42 12 (c_M_behindOf h12) rfl hO clX13 rfl mok_M_behindOf lkM_M_549 (d_M_pays 26 39 (.invokevirtual 549) 3 rfl) rfl (by decide) (Nat.le_of_ble_eq_true rfl) ?_
      refine Ak_iload_n 43 1 (d_M_pays 27 42 (.iload_n 1) 1 rfl) rfl rfl rfl ?_
      refine Ak_isub 44 (d_M_pays 28 43 (.isub) 1 rfl) rfl ?_
      refine Ak_icmp_ge 51 47 (d_M_pays 29 44 (.if_icmp .ge 7) 3 rfl) rfl rfl (fun hc => ?_) (fun hc => ?_)
      · replace h := it_t hc h
        refine Ak_iconst 52 (d_M_pays 32 51 (.iconst 0) 1 rfl) rfl (rk rfl) ?_
        cases h
        exact Ak_iret rfl (d_M_pays 33 52 (.ireturn) 1 rfl)
      · replace h := it_f hc h
        refine Ak_iconst 48 (d_M_pays 30 47 (.iconst 1) 1 rfl) rfl (rk rfl) ?_
        refine Ak_goto 52 (d_M_pays 31 48 (.goto 4) 3 rfl) rfl ?_
        cases h
        exact Ak_iret rfl (d_M_pays 33 52 (.ireturn) 1 rfl)
    · replace h := it_t hc h
      refine Ak_iconst 18 (d_M_pays 8 17 (.iconst (-1)) 1 rfl) rfl (rk rfl) ?_
      cases h
      exact Ak_iret rfl (d_M_pays 9 18 (.ireturn) 1 rfl)
theorem t_M_restOf_J23 {S : ASh} {V : ASt} {x0 x1 s0 s1 : Int} {r : Int} {V' : ASt} (hO : isO S x0 13 = true) (h : b_M_restOf_J23 S  V x0 x1 s0 s1 = some (r, V')) : AWk m_M_restOf 2 0 0 0 0 23 [some (aR x0), some (aI x1)] [(aI s1), (aI s0)] S V (some (aI r)) S V' := by
  unfold b_M_restOf_J23 at h
  refine Ak_iadd 24 (d_M_restOf 14 23 (.iadd) 1 rfl) rfl ?_
  refine Ak_aload_n 25 0 (d_M_restOf 15 24 (.aload_n 0) 1 rfl) rfl rfl rfl ?_
  refine Ak_getF 28 46 hO clX13 (by decide) rfl lkF_M_153 (d_M_restOf 16 25 (.getfield 153) 3 rfl) rfl ?_
  refine Ak_iload_n 29 1 (d_M_restOf 17 28 (.iload_n 1) 1 rfl) rfl rfl rfl ?_
  obtain ⟨ha1, h⟩ := gd_some h
  refine Ak_baload 30 ha1 (d_M_restOf 18 29 (.baload) 1 rfl) rfl ?_
  refine Ak_if_eq 37 33 (d_M_restOf 19 30 (.ifCond .eq 7) 3 rfl) rfl rfl (fun hc => ?_) (fun hc => ?_)
  · replace h := it_t hc h
    refine Ak_iconst 38 (d_M_restOf 22 37 (.iconst 0) 1 rfl) rfl (rk rfl) ?_
    refine Ak_iadd 39 (d_M_restOf 23 38 (.iadd) 1 rfl) rfl ?_
    cases h
    exact Ak_iret rfl (d_M_restOf 24 39 (.ireturn) 1 rfl)
  · replace h := it_f hc h
    refine Ak_iconst 34 (d_M_restOf 20 33 (.iconst 2) 1 rfl) rfl (rk rfl) ?_
    refine Ak_goto 38 (d_M_restOf 21 34 (.goto 4) 3 rfl) rfl ?_
    refine Ak_iadd 39 (d_M_restOf 23 38 (.iadd) 1 rfl) rfl ?_
    cases h
    exact Ak_iret rfl (d_M_restOf 24 39 (.ireturn) 1 rfl)
theorem c_M_restOf {S : ASh} {V : ASt} {x0 x1 : Int} {r : Int} {V' : ASt} (h : f_M_restOf S V x0 x1 = some (r, V')) : ACt m_M_restOf 2 0 0 [(aR x0), (aI x1)] S V (some (aI r)) S V' := by
  unfold f_M_restOf at h
  obtain ⟨hO, h⟩ := gd_some h
  refine ACt_of (plainFor_of_name rfl) rfl (Nat.le_of_ble_eq_true rfl) ?_
  show AWk m_M_restOf 2 0 0 0 0 0 [some (aR x0), some (aI x1)] [] S V (some (aI r)) S V'
  refine Ak_bipush 2 (d_M_restOf 0 0 (.bipush 8) 2 rfl) rfl (bp_ok rfl) (rk rfl) ?_
  refine Ak_aload_n 3 0 (d_M_restOf 1 2 (.aload_n 0) 1 rfl) rfl rfl rfl ?_
  refine Ak_getF 6 47 hO clX13 (by decide) rfl lkF_M_156 (d_M_restOf 2 3 (.getfield 156) 3 rfl) rfl ?_
  refine Ak_iload_n 7 1 (d_M_restOf 3 6 (.iload_n 1) 1 rfl) rfl rfl rfl ?_
  obtain ⟨ha2, h⟩ := gd_some h
  refine Ak_iaload 8 ha2 (d_M_restOf 4 7 (.iaload) 1 rfl) rfl ?_
  refine Ak_imul 9 (d_M_restOf 5 8 (.imul) 1 rfl) rfl ?_
  refine Ak_aload_n 10 0 (d_M_restOf 6 9 (.aload_n 0) 1 rfl) rfl rfl rfl ?_
  refine Ak_getF 13 45 hO clX13 (by decide) rfl lkF_M_150 (d_M_restOf 7 10 (.getfield 150) 3 rfl) rfl ?_
  refine Ak_iload_n 14 1 (d_M_restOf 8 13 (.iload_n 1) 1 rfl) rfl rfl rfl ?_
  obtain ⟨ha3, h⟩ := gd_some h
  refine Ak_baload 15 ha3 (d_M_restOf 9 14 (.baload) 1 rfl) rfl ?_
  refine Ak_if_eq 22 18 (d_M_restOf 10 15 (.ifCond .eq 7) 3 rfl) rfl rfl (fun hc => ?_) (fun hc => ?_)
  · replace h := it_t hc h
    refine Ak_iconst 23 (d_M_restOf 13 22 (.iconst 0) 1 rfl) rfl (rk rfl) ?_
    refine Ak_keep [true, true] ?_
    exact t_M_restOf_J23 hO h
  · replace h := it_f hc h
    refine Ak_iconst 19 (d_M_restOf 11 18 (.iconst 1) 1 rfl) rfl (rk rfl) ?_
    refine Ak_goto 23 (d_M_restOf 12 19 (.goto 4) 3 rfl) rfl ?_
    refine Ak_keep [true, true] ?_
    exact t_M_restOf_J23 hO h
theorem t_M_notes_L2 {S : ASh} {x0 x1 : Int} (hO : isO S x0 13 = true) : ∀ (n : Nat) (V : ASt) (x2 : Int) (r : Int) (V' : ASt), b_M_notes_L2 S x0 x1 n V x2 = some (r, V') → AWk m_M_notes 3 0 0 0 0 2 [some (aR x0), some (aI x1), some (aI x2)] [] S V none S V' := by
  intro n
  induction n with
  | zero => intro V x2 r V' h; cases h
  | succ n ih =>
    intro V x2 r V' h
    replace ih : ∀ {V : ASt} {x2 : Int} {r : Int} {V' : ASt}, b_M_notes_L2 S x0 x1 n V x2 = some (r, V') → AWk m_M_notes 3 0 0 0 0 2 [some (aR x0), some (aI x1), some (aI x2)] [] S V none S V' := fun h => ih _ _ _ _ h
    rw [b_M_notes_L2] at h
    refine Ak_iload_n 3 2 (d_M_notes 2 2 (.iload_n 2) 1 rfl) rfl rfl rfl ?_
    refine Ak_aload_n 4 0 (d_M_notes 3 3 (.aload_n 0) 1 rfl) rfl rfl rfl ?_
    obtain ⟨r1, V2, h3, h⟩ := bnd_some h
    refine Ak_cV1 7 2 (c_M_rulesAll h3) rfl hO clX13 rfl mok_M_rulesAll lkM_M_436 (d_M_notes 4 4 (.invokevirtual 436) 3 rfl) rfl (by decide) (Nat.le_of_ble_eq_true rfl) ?_
    refine Ak_icmp_ge 49 10 (d_M_notes 5 7 (.if_icmp .ge 42) 3 rfl) rfl rfl (fun hc => ?_) (fun hc => ?_)
    · replace h := it_t hc h
      cases h
      exact Ak_vret rfl (d_M_notes 31 49 (.return_) 1 rfl)
    · replace h := it_f hc h
      refine Ak_aload_n 11 0 (d_M_notes 6 10 (.aload_n 0) 1 rfl) rfl rfl rfl ?_
      refine Ak_getF 14 70 hO clX13 (by decide) rfl lkF_M_225 (d_M_notes 7 11 (.getfield 225) 3 rfl) rfl ?_
      refine Ak_bipush 16 (d_M_notes 8 14 (.bipush 12) 2 rfl) rfl (bp_ok rfl) (rk rfl) ?_
      refine Ak_iload_n 17 1 (d_M_notes 9 16 (.iload_n 1) 1 rfl) rfl rfl rfl ?_
      refine Ak_imul 18 (d_M_notes 10 17 (.imul) 1 rfl) rfl ?_
      refine Ak_iload_n 19 2 (d_M_notes 11 18 (.iload_n 2) 1 rfl) rfl rfl rfl ?_
      refine Ak_iadd 20 (d_M_notes 12 19 (.iadd) 1 rfl) rfl ?_
      refine Ak_aload_n 21 0 (d_M_notes 13 20 (.aload_n 0) 1 rfl) rfl rfl rfl ?_
      refine Ak_getF 24 44 hO clX13 (by decide) rfl lkF_M_147 (d_M_notes 14 21 (.getfield 147) 3 rfl) rfl ?_
      refine Ak_iload_n 25 2 (d_M_notes 15 24 (.iload_n 2) 1 rfl) rfl rfl rfl ?_
      obtain ⟨ha4, h⟩ := gd_some h
      refine Ak_iaload 26 ha4 (d_M_notes 16 25 (.iaload) 1 rfl) rfl ?_
      obtain ⟨ha5, h⟩ := gd_some h
      refine Ak_iastore 27 ha5 (d_M_notes 17 26 (.iastore) 1 rfl) rfl (fun V6 hV6 => ?_)
      replace h := wV_some h V6 hV6
      refine Ak_aload_n 28 0 (d_M_notes 18 27 (.aload_n 0) 1 rfl) rfl rfl rfl ?_
      refine Ak_getF 31 71 hO clX13 (by decide) rfl lkF_M_228 (d_M_notes 19 28 (.getfield 228) 3 rfl) rfl ?_
      refine Ak_bipush 33 (d_M_notes 20 31 (.bipush 12) 2 rfl) rfl (bp_ok rfl) (rk rfl) ?_
      refine Ak_iload_n 34 1 (d_M_notes 21 33 (.iload_n 1) 1 rfl) rfl rfl rfl ?_
      refine Ak_imul 35 (d_M_notes 22 34 (.imul) 1 rfl) rfl ?_
      refine Ak_iload_n 36 2 (d_M_notes 23 35 (.iload_n 2) 1 rfl) rfl rfl rfl ?_
      refine Ak_iadd 37 (d_M_notes 24 36 (.iadd) 1 rfl) rfl ?_
      refine Ak_aload_n 38 0 (d_M_notes 25 37 (.aload_n 0) 1 rfl) rfl rfl rfl ?_
      refine Ak_iload_n 39 2 (d_M_notes 26 38 (.iload_n 2) 1 rfl) rfl rfl rfl ?_
      obtain ⟨r7, V8, h9, h⟩ := bnd_some h
      refine Ak_cV1 42 2 (c_M_restOf h9) rfl hO clX13 rfl mok_M_restOf lkM_M_552 (d_M_notes 27 39 (.invokevirtual 552) 3 rfl) rfl (by decide) (Nat.le_of_ble_eq_true rfl) ?_
      obtain ⟨ha10, h⟩ := gd_some h
      refine Ak_iastore 43 ha10 (d_M_notes 28 42 (.iastore) 1 rfl) rfl (fun V11 hV11 => ?_)
      replace h := wV_some h V11 hV11
      refine Ak_iinc 46 (d_M_notes 29 43 (.iinc 2 1) 3 rfl) rfl rfl (by decide) ?_
      refine Ak_goto 2 (d_M_notes 30 46 (.goto (-44)) 3 rfl) rfl ?_
      refine Ak_keep [true, true, true] ?_
      exact ih h
theorem c_M_notes {S : ASh} {V : ASt} {x0 x1 : Int} {r : Int} {V' : ASt} (h : f_M_notes S V x0 x1 = some (r, V')) : ACt m_M_notes 3 0 0 [(aR x0), (aI x1)] S V none S V' := by
  unfold f_M_notes at h
  obtain ⟨hO, h⟩ := gd_some h
  refine ACt_of (plainFor_of_name rfl) rfl (Nat.le_of_ble_eq_true rfl) ?_
  show AWk m_M_notes 3 0 0 0 0 0 [some (aR x0), some (aI x1)] [] S V none S V'
  refine Ak_iconst 1 (d_M_notes 0 0 (.iconst 0) 1 rfl) rfl (rk rfl) ?_
  refine Ak_istore_n 2 2 (d_M_notes 1 1 (.istore_n 2) 1 rfl) rfl rfl (by decide) ?_
  refine Ak_keep [true, true, true] ?_
  exact t_M_notes_L2 hO FU _ _ _ _ h
theorem t_M_areAlike_L2 {S : ASh} {x0 x1 x2 : Int} (hO : isO S x0 13 = true) : ∀ (n : Nat) (V : ASt) (x3 : Int) (r : Int) (V' : ASt), b_M_areAlike_L2 S x0 x1 x2 n V x3 = some (r, V') → AWk m_M_areAlike 3 0 0 0 0 2 [some (aR x0), some (aI x1), some (aI x2), some (aI x3)] [] S V (some (aI r)) S V' := by
  intro n
  induction n with
  | zero => intro V x3 r V' h; cases h
  | succ n ih =>
    intro V x3 r V' h
    replace ih : ∀ {V : ASt} {x3 : Int} {r : Int} {V' : ASt}, b_M_areAlike_L2 S x0 x1 x2 n V x3 = some (r, V') → AWk m_M_areAlike 3 0 0 0 0 2 [some (aR x0), some (aI x1), some (aI x2), some (aI x3)] [] S V (some (aI r)) S V' := fun h => ih _ _ _ _ h
    rw [b_M_areAlike_L2] at h
    refine Ak_iload_n 3 3 (d_M_areAlike 2 2 (.iload_n 3) 1 rfl) rfl rfl rfl ?_
    refine Ak_aload_n 4 0 (d_M_areAlike 3 3 (.aload_n 0) 1 rfl) rfl rfl rfl ?_
    obtain ⟨r1, V2, h3, h⟩ := bnd_some h
    refine Ak_cV1 7 2 (c_M_rulesAll h3) rfl hO clX13 rfl mok_M_rulesAll lkM_M_436 (d_M_areAlike 4 4 (.invokevirtual 436) 3 rfl) rfl (by decide) (Nat.le_of_ble_eq_true rfl) ?_
    refine Ak_icmp_ge 68 10 (d_M_areAlike 5 7 (.if_icmp .ge 61) 3 rfl) rfl rfl (fun hc => ?_) (fun hc => ?_)
    · replace h := it_t hc h
      refine Ak_iload_n 69 1 (d_M_areAlike 44 68 (.iload_n 1) 1 rfl) rfl rfl rfl ?_
      refine Ak_iload_n 70 2 (d_M_areAlike 45 69 (.iload_n 2) 1 rfl) rfl rfl rfl ?_
      refine Ak_isub 71 (d_M_areAlike 46 70 (.isub) 1 rfl) rfl ?_
      refine Ak_iconst 72 (d_M_areAlike 47 71 (.iconst 2) 1 rfl) rfl (rk rfl) ?_
      refine Ak_irem 73 (d_M_areAlike 48 72 (.irem) 1 rfl) rfl (by decide) ?_
      refine Ak_if_ne 80 76 (d_M_areAlike 49 73 (.ifCond .ne 7) 3 rfl) rfl rfl (fun hc => ?_) (fun hc => ?_)
      · replace h := it_f hc h
        refine Ak_iconst 81 (d_M_areAlike 52 80 (.iconst 0) 1 rfl) rfl (rk rfl) ?_
        cases h
        exact Ak_zret (Or.inl rfl) rfl (d_M_areAlike 53 81 (.ireturn) 1 rfl)
      · replace h := it_t hc h
        refine Ak_iconst 77 (d_M_areAlike 50 76 (.iconst 1) 1 rfl) rfl (rk rfl) ?_
        refine Ak_goto 81 (d_M_areAlike 51 77 (.goto 4) 3 rfl) rfl ?_
        cases h
        exact Ak_zret (Or.inr rfl) rfl (d_M_areAlike 53 81 (.ireturn) 1 rfl)
    · replace h := it_f hc h
      refine Ak_aload_n 11 0 (d_M_areAlike 6 10 (.aload_n 0) 1 rfl) rfl rfl rfl ?_
      refine Ak_getF 14 70 hO clX13 (by decide) rfl lkF_M_225 (d_M_areAlike 7 11 (.getfield 225) 3 rfl) rfl ?_
      refine Ak_bipush 16 (d_M_areAlike 8 14 (.bipush 12) 2 rfl) rfl (bp_ok rfl) (rk rfl) ?_
      refine Ak_iload_n 17 1 (d_M_areAlike 9 16 (.iload_n 1) 1 rfl) rfl rfl rfl ?_
      refine Ak_imul 18 (d_M_areAlike 10 17 (.imul) 1 rfl) rfl ?_
      refine Ak_iload_n 19 3 (d_M_areAlike 11 18 (.iload_n 3) 1 rfl) rfl rfl rfl ?_
      refine Ak_iadd 20 (d_M_areAlike 12 19 (.iadd) 1 rfl) rfl ?_
      obtain ⟨ha4, h⟩ := gd_some h
      refine Ak_iaload 21 ha4 (d_M_areAlike 13 20 (.iaload) 1 rfl) rfl ?_
      refine Ak_aload_n 22 0 (d_M_areAlike 14 21 (.aload_n 0) 1 rfl) rfl rfl rfl ?_
      refine Ak_getF 25 70 hO clX13 (by decide) rfl lkF_M_225 (d_M_areAlike 15 22 (.getfield 225) 3 rfl) rfl ?_
      refine Ak_bipush 27 (d_M_areAlike 16 25 (.bipush 12) 2 rfl) rfl (bp_ok rfl) (rk rfl) ?_
      refine Ak_iload_n 28 2 (d_M_areAlike 17 27 (.iload_n 2) 1 rfl) rfl rfl rfl ?_
      refine Ak_imul 29 (d_M_areAlike 18 28 (.imul) 1 rfl) rfl ?_
      refine Ak_iload_n 30 3 (d_M_areAlike 19 29 (.iload_n 3) 1 rfl) rfl rfl rfl ?_
      refine Ak_iadd 31 (d_M_areAlike 20 30 (.iadd) 1 rfl) rfl ?_
      obtain ⟨ha5, h⟩ := gd_some h
      refine Ak_iaload 32 ha5 (d_M_areAlike 21 31 (.iaload) 1 rfl) rfl ?_
      refine Ak_icmp_ne 60 35 (d_M_areAlike 22 32 (.if_icmp .ne 28) 3 rfl) rfl rfl (fun hc => ?_) (fun hc => ?_)
      · replace h := it_f hc h
        refine Ak_iconst 61 (d_M_areAlike 40 60 (.iconst 0) 1 rfl) rfl (rk rfl) ?_
        cases h
        exact Ak_zret (Or.inl rfl) rfl (d_M_areAlike 41 61 (.ireturn) 1 rfl)
      · replace h := it_t hc h
        refine Ak_aload_n 36 0 (d_M_areAlike 23 35 (.aload_n 0) 1 rfl) rfl rfl rfl ?_
        refine Ak_getF 39 71 hO clX13 (by decide) rfl lkF_M_228 (d_M_areAlike 24 36 (.getfield 228) 3 rfl) rfl ?_
        refine Ak_bipush 41 (d_M_areAlike 25 39 (.bipush 12) 2 rfl) rfl (bp_ok rfl) (rk rfl) ?_
        refine Ak_iload_n 42 1 (d_M_areAlike 26 41 (.iload_n 1) 1 rfl) rfl rfl rfl ?_
        refine Ak_imul 43 (d_M_areAlike 27 42 (.imul) 1 rfl) rfl ?_
        refine Ak_iload_n 44 3 (d_M_areAlike 28 43 (.iload_n 3) 1 rfl) rfl rfl rfl ?_
        refine Ak_iadd 45 (d_M_areAlike 29 44 (.iadd) 1 rfl) rfl ?_
        obtain ⟨ha6, h⟩ := gd_some h
        refine Ak_iaload 46 ha6 (d_M_areAlike 30 45 (.iaload) 1 rfl) rfl ?_
        refine Ak_aload_n 47 0 (d_M_areAlike 31 46 (.aload_n 0) 1 rfl) rfl rfl rfl ?_
        refine Ak_getF 50 71 hO clX13 (by decide) rfl lkF_M_228 (d_M_areAlike 32 47 (.getfield 228) 3 rfl) rfl ?_
        refine Ak_bipush 52 (d_M_areAlike 33 50 (.bipush 12) 2 rfl) rfl (bp_ok rfl) (rk rfl) ?_
        refine Ak_iload_n 53 2 (d_M_areAlike 34 52 (.iload_n 2) 1 rfl) rfl rfl rfl ?_
        refine Ak_imul 54 (d_M_areAlike 35 53 (.imul) 1 rfl) rfl ?_
        refine Ak_iload_n 55 3 (d_M_areAlike 36 54 (.iload_n 3) 1 rfl) rfl rfl rfl ?_
        refine Ak_iadd 56 (d_M_areAlike 37 55 (.iadd) 1 rfl) rfl ?_
        obtain ⟨ha7, h⟩ := gd_some h
        refine Ak_iaload 57 ha7 (d_M_areAlike 38 56 (.iaload) 1 rfl) rfl ?_
        refine Ak_icmp_eq 62 60 (d_M_areAlike 39 57 (.if_icmp .eq 5) 3 rfl) rfl rfl (fun hc => ?_) (fun hc => ?_)
        · replace h := it_t hc h
          refine Ak_iinc 65 (d_M_areAlike 42 62 (.iinc 3 1) 3 rfl) rfl rfl (by decide) ?_
          refine Ak_goto 2 (d_M_areAlike 43 65 (.goto (-63)) 3 rfl) rfl ?_
          refine Ak_keep [true, true, true, true] ?_
          exact ih h
        · replace h := it_f hc h
          refine Ak_iconst 61 (d_M_areAlike 40 60 (.iconst 0) 1 rfl) rfl (rk rfl) ?_
          cases h
          exact Ak_zret (Or.inl rfl) rfl (d_M_areAlike 41 61 (.ireturn) 1 rfl)
theorem c_M_areAlike {S : ASh} {V : ASt} {x0 x1 x2 : Int} {r : Int} {V' : ASt} (h : f_M_areAlike S V x0 x1 x2 = some (r, V')) : ACt m_M_areAlike 3 0 0 [(aR x0), (aI x1), (aI x2)] S V (some (aI r)) S V' := by
  unfold f_M_areAlike at h
  obtain ⟨hO, h⟩ := gd_some h
  refine ACt_of (plainFor_of_name rfl) rfl (Nat.le_of_ble_eq_true rfl) ?_
  show AWk m_M_areAlike 3 0 0 0 0 0 [some (aR x0), some (aI x1), some (aI x2)] [] S V (some (aI r)) S V'
  refine Ak_iconst 1 (d_M_areAlike 0 0 (.iconst 0) 1 rfl) rfl (rk rfl) ?_
  refine Ak_istore_n 2 3 (d_M_areAlike 1 1 (.istore_n 3) 1 rfl) rfl rfl (by decide) ?_
  refine Ak_keep [true, true, true, true] ?_
  exact t_M_areAlike_L2 hO FU _ _ _ _ h
theorem t_M_back_J84 {S : ASh} {K2 : ASt → Int → Option (Int × ASt)} {V : ASt} {x0 x1 s0 s1 s2 : Int} {r : Int} {V' : ASt} (hO : isO S x0 13 = true) (hK2 : ∀ {V : ASt} {y1 : Int} {r : Int} {V' : ASt}, K2 V y1 = some (r, V') → AWk m_M_back 3 0 0 0 0 2 [some (aR x0), some (aI y1)] [] S V none S V') (h : b_M_back_J84 S K2 V x0 x1 s0 s1 s2 = some (r, V')) : AWk m_M_back 3 0 0 0 0 84 [some (aR x0), some (aI x1)] [(aI s2), (aI s1), (aR s0)] S V none S V' := by
  unfold b_M_back_J84 at h
  obtain ⟨ha1, h⟩ := gd_some h
  obtain ⟨hb2, h⟩ := gd_some h
  refine Ak_bastore 85 ha1 (dec_t hb2) (d_M_back 55 84 (.bastore) 1 rfl) rfl (fun V3 hV3 => ?_)
  replace h := wV_some h V3 hV3
  refine Ak_iinc 88 (d_M_back 56 85 (.iinc 1 1) 3 rfl) rfl rfl (by decide) ?_
  refine Ak_goto 2 (d_M_back 57 88 (.goto (-86)) 3 rfl) rfl ?_
  refine Ak_keep [true, true] ?_
  exact hK2 h
theorem t_M_back_J59 {S : ASh} {K2 : ASt → Int → Option (Int × ASt)} {V : ASt} {x0 x1 s0 s1 s2 : Int} {r : Int} {V' : ASt} (hO : isO S x0 13 = true) (hK2 : ∀ {V : ASt} {y1 : Int} {r : Int} {V' : ASt}, K2 V y1 = some (r, V') → AWk m_M_back 3 0 0 0 0 2 [some (aR x0), some (aI y1)] [] S V none S V') (h : b_M_back_J59 S K2 V x0 x1 s0 s1 s2 = some (r, V')) : AWk m_M_back 3 0 0 0 0 59 [some (aR x0), some (aI x1)] [(aI s2), (aI s1), (aR s0)] S V none S V' := by
  unfold b_M_back_J59 at h
  obtain ⟨ha4, h⟩ := gd_some h
  obtain ⟨hb5, h⟩ := gd_some h
  refine Ak_bastore 60 ha4 (dec_t hb5) (d_M_back 38 59 (.bastore) 1 rfl) rfl (fun V6 hV6 => ?_)
  replace h := wV_some h V6 hV6
  refine Ak_aload_n 61 0 (d_M_back 39 60 (.aload_n 0) 1 rfl) rfl rfl rfl ?_
  refine Ak_getF 64 46 hO clX13 (by decide) rfl lkF_M_153 (d_M_back 40 61 (.getfield 153) 3 rfl) rfl ?_
  refine Ak_iload_n 65 1 (d_M_back 41 64 (.iload_n 1) 1 rfl) rfl rfl rfl ?_
  refine Ak_aload_n 66 0 (d_M_back 42 65 (.aload_n 0) 1 rfl) rfl rfl rfl ?_
  refine Ak_getF 69 71 hO clX13 (by decide) rfl lkF_M_228 (d_M_back 43 66 (.getfield 228) 3 rfl) rfl ?_
  refine Ak_iload_n 70 1 (d_M_back 44 69 (.iload_n 1) 1 rfl) rfl rfl rfl ?_
  obtain ⟨ha7, h⟩ := gd_some h
  refine Ak_iaload 71 ha7 (d_M_back 45 70 (.iaload) 1 rfl) rfl ?_
  refine Ak_iconst 72 (d_M_back 46 71 (.iconst 2) 1 rfl) rfl (rk rfl) ?_
  refine Ak_idiv 73 (d_M_back 47 72 (.idiv) 1 rfl) rfl (by decide) ?_
  refine Ak_iconst 74 (d_M_back 48 73 (.iconst 2) 1 rfl) rfl (rk rfl) ?_
  refine Ak_irem 75 (d_M_back 49 74 (.irem) 1 rfl) rfl (by decide) ?_
  refine Ak_iconst 76 (d_M_back 50 75 (.iconst 1) 1 rfl) rfl (rk rfl) ?_
  refine Ak_icmp_ne 83 79 (d_M_back 51 76 (.if_icmp .ne 7) 3 rfl) rfl rfl (fun hc => ?_) (fun hc => ?_)
  · replace h := it_f hc h
    refine Ak_iconst 84 (d_M_back 54 83 (.iconst 0) 1 rfl) rfl (rk rfl) ?_
    refine Ak_keep [true, true] ?_
    exact t_M_back_J84 hO (fun h => hK2 h) h
  · replace h := it_t hc h
    refine Ak_iconst 80 (d_M_back 52 79 (.iconst 1) 1 rfl) rfl (rk rfl) ?_
    refine Ak_goto 84 (d_M_back 53 80 (.goto 4) 3 rfl) rfl ?_
    refine Ak_keep [true, true] ?_
    exact t_M_back_J84 hO (fun h => hK2 h) h
theorem t_M_back_L2 {S : ASh} {x0 : Int} (hO : isO S x0 13 = true) : ∀ (n : Nat) (V : ASt) (x1 : Int) (r : Int) (V' : ASt), b_M_back_L2 S x0 n V x1 = some (r, V') → AWk m_M_back 3 0 0 0 0 2 [some (aR x0), some (aI x1)] [] S V none S V' := by
  intro n
  induction n with
  | zero => intro V x1 r V' h; cases h
  | succ n ih =>
    intro V x1 r V' h
    replace ih : ∀ {V : ASt} {x1 : Int} {r : Int} {V' : ASt}, b_M_back_L2 S x0 n V x1 = some (r, V') → AWk m_M_back 3 0 0 0 0 2 [some (aR x0), some (aI x1)] [] S V none S V' := fun h => ih _ _ _ _ h
    rw [b_M_back_L2] at h
    refine Ak_iload_n 3 1 (d_M_back 2 2 (.iload_n 1) 1 rfl) rfl rfl rfl ?_
    refine Ak_aload_n 4 0 (d_M_back 3 3 (.aload_n 0) 1 rfl) rfl rfl rfl ?_
    obtain ⟨r8, V9, h10, h⟩ := bnd_some h
    refine Ak_cV1 7 2 (c_M_rulesAll h10) rfl hO clX13 rfl mok_M_rulesAll lkM_M_436 (d_M_back 4 4 (.invokevirtual 436) 3 rfl) rfl (by decide) (Nat.le_of_ble_eq_true rfl) ?_
    refine Ak_icmp_ge 91 10 (d_M_back 5 7 (.if_icmp .ge 84) 3 rfl) rfl rfl (fun hc => ?_) (fun hc => ?_)
    · replace h := it_t hc h
      cases h
      exact Ak_vret rfl (d_M_back 58 91 (.return_) 1 rfl)
    · replace h := it_f hc h
      refine Ak_aload_n 11 0 (d_M_back 6 10 (.aload_n 0) 1 rfl) rfl rfl rfl ?_
      refine Ak_getF 14 44 hO clX13 (by decide) rfl lkF_M_147 (d_M_back 7 11 (.getfield 147) 3 rfl) rfl ?_
      refine Ak_iload_n 15 1 (d_M_back 8 14 (.iload_n 1) 1 rfl) rfl rfl rfl ?_
      refine Ak_aload_n 16 0 (d_M_back 9 15 (.aload_n 0) 1 rfl) rfl rfl rfl ?_
      refine Ak_getF 19 70 hO clX13 (by decide) rfl lkF_M_225 (d_M_back 10 16 (.getfield 225) 3 rfl) rfl ?_
      refine Ak_iload_n 20 1 (d_M_back 11 19 (.iload_n 1) 1 rfl) rfl rfl rfl ?_
      obtain ⟨ha11, h⟩ := gd_some h
      refine Ak_iaload 21 ha11 (d_M_back 12 20 (.iaload) 1 rfl) rfl ?_
      obtain ⟨ha12, h⟩ := gd_some h
      refine Ak_iastore 22 ha12 (d_M_back 13 21 (.iastore) 1 rfl) rfl (fun V13 hV13 => ?_)
      replace h := wV_some h V13 hV13
      refine Ak_aload_n 23 0 (d_M_back 14 22 (.aload_n 0) 1 rfl) rfl rfl rfl ?_
      refine Ak_getF 26 47 hO clX13 (by decide) rfl lkF_M_156 (d_M_back 15 23 (.getfield 156) 3 rfl) rfl ?_
      refine Ak_iload_n 27 1 (d_M_back 16 26 (.iload_n 1) 1 rfl) rfl rfl rfl ?_
      refine Ak_aload_n 28 0 (d_M_back 17 27 (.aload_n 0) 1 rfl) rfl rfl rfl ?_
      refine Ak_getF 31 71 hO clX13 (by decide) rfl lkF_M_228 (d_M_back 18 28 (.getfield 228) 3 rfl) rfl ?_
      refine Ak_iload_n 32 1 (d_M_back 19 31 (.iload_n 1) 1 rfl) rfl rfl rfl ?_
      obtain ⟨ha14, h⟩ := gd_some h
      refine Ak_iaload 33 ha14 (d_M_back 20 32 (.iaload) 1 rfl) rfl ?_
      refine Ak_bipush 35 (d_M_back 21 33 (.bipush 8) 2 rfl) rfl (bp_ok rfl) (rk rfl) ?_
      refine Ak_idiv 36 (d_M_back 22 35 (.idiv) 1 rfl) rfl (by decide) ?_
      obtain ⟨ha15, h⟩ := gd_some h
      refine Ak_iastore 37 ha15 (d_M_back 23 36 (.iastore) 1 rfl) rfl (fun V16 hV16 => ?_)
      replace h := wV_some h V16 hV16
      refine Ak_aload_n 38 0 (d_M_back 24 37 (.aload_n 0) 1 rfl) rfl rfl rfl ?_
      refine Ak_getF 41 45 hO clX13 (by decide) rfl lkF_M_150 (d_M_back 25 38 (.getfield 150) 3 rfl) rfl ?_
      refine Ak_iload_n 42 1 (d_M_back 26 41 (.iload_n 1) 1 rfl) rfl rfl rfl ?_
      refine Ak_aload_n 43 0 (d_M_back 27 42 (.aload_n 0) 1 rfl) rfl rfl rfl ?_
      refine Ak_getF 46 71 hO clX13 (by decide) rfl lkF_M_228 (d_M_back 28 43 (.getfield 228) 3 rfl) rfl ?_
      refine Ak_iload_n 47 1 (d_M_back 29 46 (.iload_n 1) 1 rfl) rfl rfl rfl ?_
      refine Ak_iaload 48 ha14 (d_M_back 30 47 (.iaload) 1 rfl) rfl ?_
      refine Ak_iconst 49 (d_M_back 31 48 (.iconst 2) 1 rfl) rfl (rk rfl) ?_
      refine Ak_irem 50 (d_M_back 32 49 (.irem) 1 rfl) rfl (by decide) ?_
      refine Ak_iconst 51 (d_M_back 33 50 (.iconst 1) 1 rfl) rfl (rk rfl) ?_
      refine Ak_icmp_ne 58 54 (d_M_back 34 51 (.if_icmp .ne 7) 3 rfl) rfl rfl (fun hc => ?_) (fun hc => ?_)
      · replace h := it_f hc h
        refine Ak_iconst 59 (d_M_back 37 58 (.iconst 0) 1 rfl) rfl (rk rfl) ?_
        refine Ak_keep [true, true] ?_
        exact t_M_back_J59 hO (fun h => ih h) h
      · replace h := it_t hc h
        refine Ak_iconst 55 (d_M_back 35 54 (.iconst 1) 1 rfl) rfl (rk rfl) ?_
        refine Ak_goto 59 (d_M_back 36 55 (.goto 4) 3 rfl) rfl ?_
        refine Ak_keep [true, true] ?_
        exact t_M_back_J59 hO (fun h => ih h) h
theorem c_M_back {S : ASh} {V : ASt} {x0 : Int} {r : Int} {V' : ASt} (h : f_M_back S V x0 = some (r, V')) : ACt m_M_back 3 0 0 [(aR x0)] S V none S V' := by
  unfold f_M_back at h
  obtain ⟨hO, h⟩ := gd_some h
  refine ACt_of (plainFor_of_name rfl) rfl (Nat.le_of_ble_eq_true rfl) ?_
  show AWk m_M_back 3 0 0 0 0 0 [some (aR x0)] [] S V none S V'
  refine Ak_iconst 1 (d_M_back 0 0 (.iconst 0) 1 rfl) rfl (rk rfl) ?_
  refine Ak_istore_n 2 1 (d_M_back 1 1 (.istore_n 1) 1 rfl) rfl rfl (by decide) ?_
  refine Ak_keep [true, true] ?_
  exact t_M_back_L2 hO FU _ _ _ _ h
theorem t_M_ring_L93 {S : ASh} {K44 : ASt → Int → Int → Option (Int × ASt)} {x0 x1 x2 x3 x5 : Int} (hO : isO S x0 13 = true) (hK44 : ∀ {V : ASt} {y4 y5 : Int} {r : Int} {V' : ASt}, K44 V y4 y5 = some (r, V') → AWk m_M_ring 13 0 0 0 0 44 [some (aR x0), some (aI x1), some (aI x2), some (aI x3), some (aI y4), some (aI y5)] [] S V (some (aI r)) S V') : ∀ (n : Nat) (V : ASt) (x4 x7 : Int) (r : Int) (V' : ASt), b_M_ring_L93 S K44 x0 x1 x2 x3 x5 n V x4 x7 = some (r, V') → AWk m_M_ring 13 0 0 0 0 93 [some (aR x0), some (aI x1), some (aI x2), some (aI x3), some (aI x4), some (aI x5), none, some (aI x7)] [] S V (some (aI r)) S V' := by
  intro n
  induction n with
  | zero => intro V x4 x7 r V' h; cases h
  | succ n ih =>
    intro V x4 x7 r V' h
    replace ih : ∀ {V : ASt} {x4 x7 : Int} {r : Int} {V' : ASt}, b_M_ring_L93 S K44 x0 x1 x2 x3 x5 n V x4 x7 = some (r, V') → AWk m_M_ring 13 0 0 0 0 93 [some (aR x0), some (aI x1), some (aI x2), some (aI x3), some (aI x4), some (aI x5), none, some (aI x7)] [] S V (some (aI r)) S V' := fun h => ih _ _ _ _ _ h
    rw [b_M_ring_L93] at h
    refine Ak_iload 95 (d_M_ring 51 93 (.iload 7) 2 rfl) rfl rfl ?_
    refine Ak_iload 97 (d_M_ring 52 95 (.iload 5) 2 rfl) rfl rfl ?_
    refine Ak_icmp_ge 139 100 (d_M_ring 53 97 (.if_icmp .ge 42) 3 rfl) rfl rfl (fun hc => ?_) (fun hc => ?_)
    · replace h := it_t hc h
      refine Ak_iinc 142 (d_M_ring 72 139 (.iinc 5 1) 3 rfl) rfl rfl (by decide) ?_
      refine Ak_goto 44 (d_M_ring 73 142 (.goto (-98)) 3 rfl) rfl ?_
      refine Ak_keep [true, true, true, true, true, true] ?_
      exact hK44 h
    · replace h := it_f hc h
      refine Ak_iload 102 (d_M_ring 54 100 (.iload 4) 2 rfl) rfl rfl ?_
      refine Ak_iconst 103 (d_M_ring 55 102 (.iconst (-1)) 1 rfl) rfl (rk rfl) ?_
      refine Ak_icmp_ne 139 106 (d_M_ring 56 103 (.if_icmp .ne 36) 3 rfl) rfl rfl (fun hc => ?_) (fun hc => ?_)
      · replace h := it_f hc h
        refine Ak_iinc 142 (d_M_ring 72 139 (.iinc 5 1) 3 rfl) rfl rfl (by decide) ?_
        refine Ak_goto 44 (d_M_ring 73 142 (.goto (-98)) 3 rfl) rfl ?_
        refine Ak_keep [true, true, true, true, true, true] ?_
        exact hK44 h
      · replace h := it_t hc h
        refine Ak_aload_n 107 0 (d_M_ring 57 106 (.aload_n 0) 1 rfl) rfl rfl rfl ?_
        refine Ak_iload 109 (d_M_ring 58 107 (.iload 5) 2 rfl) rfl rfl ?_
        refine Ak_iload 111 (d_M_ring 59 109 (.iload 7) 2 rfl) rfl rfl ?_
        obtain ⟨r1, V2, h3, h⟩ := bnd_some h
        refine Ak_cV1 114 3 (c_M_areAlike h3) rfl hO clX13 rfl mok_M_areAlike lkM_M_558 (d_M_ring 60 111 (.invokevirtual 558) 3 rfl) rfl (by decide) (Nat.le_of_ble_eq_true rfl) ?_
        refine Ak_if_eq 133 117 (d_M_ring 61 114 (.ifCond .eq 19) 3 rfl) rfl rfl (fun hc => ?_) (fun hc => ?_)
        · replace h := it_t hc h
          refine Ak_iinc 136 (d_M_ring 70 133 (.iinc 7 1) 3 rfl) rfl rfl (by decide) ?_
          refine Ak_goto 93 (d_M_ring 71 136 (.goto (-43)) 3 rfl) rfl ?_
          refine Ak_keep [true, true, true, true, true, true, false, true] ?_
          exact ih h
        · replace h := it_f hc h
          refine Ak_iload_n 118 2 (d_M_ring 62 117 (.iload_n 2) 1 rfl) rfl rfl rfl ?_
          refine Ak_if_ne 129 121 (d_M_ring 63 118 (.ifCond .ne 11) 3 rfl) rfl rfl (fun hc => ?_) (fun hc => ?_)
          · replace h := it_f hc h
            refine Ak_iload 131 (d_M_ring 68 129 (.iload 7) 2 rfl) rfl rfl ?_
            refine Ak_istore 133 (d_M_ring 69 131 (.istore 4) 2 rfl) rfl (by decide) ?_
            refine Ak_iinc 136 (d_M_ring 70 133 (.iinc 7 1) 3 rfl) rfl rfl (by decide) ?_
            refine Ak_goto 93 (d_M_ring 71 136 (.goto (-43)) 3 rfl) rfl ?_
            refine Ak_keep [true, true, true, true, true, true, false, true] ?_
            exact ih h
          · replace h := it_t hc h
            refine Ak_iload 123 (d_M_ring 64 121 (.iload 5) 2 rfl) rfl rfl ?_
            refine Ak_iload 125 (d_M_ring 65 123 (.iload 7) 2 rfl) rfl rfl ?_
            refine Ak_isub 126 (d_M_ring 66 125 (.isub) 1 rfl) rfl ?_
            refine Ak_goto 131 (d_M_ring 67 126 (.goto 5) 3 rfl) rfl ?_
            refine Ak_istore 133 (d_M_ring 69 131 (.istore 4) 2 rfl) rfl (by decide) ?_
            refine Ak_iinc 136 (d_M_ring 70 133 (.iinc 7 1) 3 rfl) rfl rfl (by decide) ?_
            refine Ak_goto 93 (d_M_ring 71 136 (.goto (-43)) 3 rfl) rfl ?_
            refine Ak_keep [true, true, true, true, true, true, false, true] ?_
            exact ih h
theorem t_M_ring_J74 {S : ASh} {K44 : ASt → Int → Int → Option (Int × ASt)} {V : ASt} {x0 x1 x2 x3 x4 x5 : Int} {r : Int} {V' : ASt} (hO : isO S x0 13 = true) (hK44 : ∀ {V : ASt} {y4 y5 : Int} {r : Int} {V' : ASt}, K44 V y4 y5 = some (r, V') → AWk m_M_ring 13 0 0 0 0 44 [some (aR x0), some (aI x1), some (aI x2), some (aI x3), some (aI y4), some (aI y5)] [] S V (some (aI r)) S V') (h : b_M_ring_J74 S K44 V x0 x1 x2 x3 x4 x5 = some (r, V')) : AWk m_M_ring 13 0 0 0 0 74 [some (aR x0), some (aI x1), some (aI x2), some (aI x3), some (aI x4), some (aI x5)] [] S V (some (aI r)) S V' := by
  unfold b_M_ring_J74 at h
  refine Ak_aload_n 75 0 (d_M_ring 40 74 (.aload_n 0) 1 rfl) rfl rfl rfl ?_
  refine Ak_dup 76 (d_M_ring 41 75 (.dup) 1 rfl) rfl rfl ?_
  refine Ak_getI 79 48 hO clX13 (by decide) (Or.inl rfl) lkF_M_159 (d_M_ring 42 76 (.getfield 159) 3 rfl) rfl ?_
  refine Ak_iconst 80 (d_M_ring 43 79 (.iconst 1) 1 rfl) rfl (rk rfl) ?_
  refine Ak_iadd 81 (d_M_ring 44 80 (.iadd) 1 rfl) rfl ?_
  refine Ak_putI 84 48 hO clX13 (by decide) rfl rfl rfl lkF_M_159 (d_M_ring 45 81 (.putfield 159) 3 rfl) rfl (fun V4 hV4 => ?_)
  replace h := wV_some h V4 hV4
  refine Ak_aload_n 85 0 (d_M_ring 46 84 (.aload_n 0) 1 rfl) rfl rfl rfl ?_
  refine Ak_iload 87 (d_M_ring 47 85 (.iload 5) 2 rfl) rfl rfl ?_
  obtain ⟨r5, V6, h7, h⟩ := bnd_some h
  refine Ak_cV0 90 3 (c_M_notes h7) rfl hO clX13 rfl mok_M_notes lkM_M_555 (d_M_ring 48 87 (.invokevirtual 555) 3 rfl) rfl (by decide) (Nat.le_of_ble_eq_true rfl) ?_
  refine Ak_iconst 91 (d_M_ring 49 90 (.iconst 0) 1 rfl) rfl (rk rfl) ?_
  refine Ak_istore 93 (d_M_ring 50 91 (.istore 7) 2 rfl) rfl (by decide) ?_
  refine Ak_keep [true, true, true, true, true, true, false, true] ?_
  exact t_M_ring_L93 hO (fun h => hK44 h) FU _ _ _ _ _ h
theorem t_M_ring_J145 {S : ASh} {V : ASt} {x0 x3 x4 : Int} {r : Int} {V' : ASt} (hO : isO S x0 13 = true) (h : b_M_ring_J145 S  V x0 x3 x4 = some (r, V')) : AWk m_M_ring 13 0 0 0 0 145 [some (aR x0), none, none, some (aI x3), some (aI x4)] [] S V (some (aI r)) S V' := by
  unfold b_M_ring_J145 at h
  refine Ak_aload_n 146 0 (d_M_ring 74 145 (.aload_n 0) 1 rfl) rfl rfl rfl ?_
  obtain ⟨r8, V9, h10, h⟩ := bnd_some h
  refine Ak_cV0 149 3 (c_M_back h10) rfl hO clX13 rfl mok_M_back lkM_M_561 (d_M_ring 75 146 (.invokevirtual 561) 3 rfl) rfl (by decide) (Nat.le_of_ble_eq_true rfl) ?_
  refine Ak_aload_n 150 0 (d_M_ring 76 149 (.aload_n 0) 1 rfl) rfl rfl rfl ?_
  refine Ak_iload_n 151 3 (d_M_ring 77 150 (.iload_n 3) 1 rfl) rfl rfl rfl ?_
  refine Ak_putI 154 48 hO clX13 (by decide) rfl rfl rfl lkF_M_159 (d_M_ring 78 151 (.putfield 159) 3 rfl) rfl (fun V11 hV11 => ?_)
  replace h := wV_some h V11 hV11
  refine Ak_iload 156 (d_M_ring 79 154 (.iload 4) 2 rfl) rfl rfl ?_
  cases h
  exact Ak_iret rfl (d_M_ring 80 156 (.ireturn) 1 rfl)
theorem t_M_ring_L44 {S : ASh} {x0 x1 x2 x3 : Int} (hO : isO S x0 13 = true) : ∀ (n : Nat) (V : ASt) (x4 x5 : Int) (r : Int) (V' : ASt), b_M_ring_L44 S x0 x1 x2 x3 n V x4 x5 = some (r, V') → AWk m_M_ring 13 0 0 0 0 44 [some (aR x0), some (aI x1), some (aI x2), some (aI x3), some (aI x4), some (aI x5)] [] S V (some (aI r)) S V' := by
  intro n
  induction n with
  | zero => intro V x4 x5 r V' h; cases h
  | succ n ih =>
    intro V x4 x5 r V' h
    replace ih : ∀ {V : ASt} {x4 x5 : Int} {r : Int} {V' : ASt}, b_M_ring_L44 S x0 x1 x2 x3 n V x4 x5 = some (r, V') → AWk m_M_ring 13 0 0 0 0 44 [some (aR x0), some (aI x1), some (aI x2), some (aI x3), some (aI x4), some (aI x5)] [] S V (some (aI r)) S V' := fun h => ih _ _ _ _ _ h
    rw [b_M_ring_L44] at h
    refine Ak_iload 46 (d_M_ring 25 44 (.iload 5) 2 rfl) rfl rfl ?_
    refine Ak_iload_n 47 1 (d_M_ring 26 46 (.iload_n 1) 1 rfl) rfl rfl rfl ?_
    refine Ak_icmp_gt 145 50 (d_M_ring 27 47 (.if_icmp .gt 98) 3 rfl) rfl rfl (fun hc => ?_) (fun hc => ?_)
    · replace h := it_t hc h
      refine Ak_keep [true, false, false, true, true] ?_
      exact t_M_ring_J145 hO h
    · replace h := it_f hc h
      refine Ak_iload 52 (d_M_ring 28 50 (.iload 4) 2 rfl) rfl rfl ?_
      refine Ak_iconst 53 (d_M_ring 29 52 (.iconst (-1)) 1 rfl) rfl (rk rfl) ?_
      refine Ak_icmp_ne 145 56 (d_M_ring 30 53 (.if_icmp .ne 92) 3 rfl) rfl rfl (fun hc => ?_) (fun hc => ?_)
      · replace h := it_f hc h
        refine Ak_keep [true, false, false, true, true] ?_
        exact t_M_ring_J145 hO h
      · replace h := it_t hc h
        refine Ak_aload_n 57 0 (d_M_ring 31 56 (.aload_n 0) 1 rfl) rfl rfl rfl ?_
        obtain ⟨r12, V13, h14, h⟩ := bnd_some h
        refine Ak_cV1 60 12 (c_M_changedBy h14) rfl hO clX13 rfl mok_M_changedBy lkM_M_546 (d_M_ring 32 57 (.invokevirtual 546) 3 rfl) rfl (by decide) (Nat.le_of_ble_eq_true rfl) ?_
        refine Ak_istore 62 (d_M_ring 33 60 (.istore 6) 2 rfl) rfl (by decide) ?_
        refine Ak_iload 64 (d_M_ring 34 62 (.iload 6) 2 rfl) rfl rfl ?_
        refine Ak_iconst 65 (d_M_ring 35 64 (.iconst (-1)) 1 rfl) rfl (rk rfl) ?_
        refine Ak_icmp_eq 74 68 (d_M_ring 36 65 (.if_icmp .eq 9) 3 rfl) rfl rfl (fun hc => ?_) (fun hc => ?_)
        · replace h := it_t hc h
          refine Ak_keep [true, true, true, true, true, true] ?_
          exact t_M_ring_J74 hO (fun h => ih h) h
        · replace h := it_f hc h
          refine Ak_aload_n 69 0 (d_M_ring 37 68 (.aload_n 0) 1 rfl) rfl rfl rfl ?_
          refine Ak_iload 71 (d_M_ring 38 69 (.iload 6) 2 rfl) rfl rfl ?_
          obtain ⟨r15, V16, h17, h⟩ := bnd_some h
          refine Ak_cV0 74 2 (c_M_changes h17) rfl hO clX13 rfl mok_M_changes lkM_M_531 (d_M_ring 39 71 (.invokevirtual 531) 3 rfl) rfl (by decide) (Nat.le_of_ble_eq_true rfl) ?_
          refine Ak_keep [true, true, true, true, true, true] ?_
          exact t_M_ring_J74 hO (fun h => ih h) h
theorem c_M_ring {S : ASh} {V : ASt} {x0 x1 x2 : Int} {r : Int} {V' : ASt} (h : f_M_ring S V x0 x1 x2 = some (r, V')) : ACt m_M_ring 13 0 0 [(aR x0), (aI x1), (aI x2)] S V (some (aI r)) S V' := by
  unfold f_M_ring at h
  obtain ⟨hO, h⟩ := gd_some h
  refine ACt_of (plainFor_of_name rfl) rfl (Nat.le_of_ble_eq_true rfl) ?_
  show AWk m_M_ring 13 0 0 0 0 0 [some (aR x0), some (aI x1), some (aI x2)] [] S V (some (aI r)) S V'
  refine Ak_aload_n 1 0 (d_M_ring 0 0 (.aload_n 0) 1 rfl) rfl rfl rfl ?_
  obtain ⟨r18, V19, h20, h⟩ := bnd_some h
  refine Ak_cV1 4 2 (c_M_hasFields h20) rfl hO clX13 rfl mok_M_hasFields lkM_M_448 (d_M_ring 1 1 (.invokevirtual 448) 3 rfl) rfl (by decide) (Nat.le_of_ble_eq_true rfl) ?_
  refine Ak_if_eq 26 7 (d_M_ring 2 4 (.ifCond .eq 22) 3 rfl) rfl rfl (fun hc => ?_) (fun hc => ?_)
  · replace h := it_t hc h
    refine Ak_iconst 27 (d_M_ring 13 26 (.iconst (-1)) 1 rfl) rfl (rk rfl) ?_
    cases h
    exact Ak_iret rfl (d_M_ring 14 27 (.ireturn) 1 rfl)
  · replace h := it_f hc h
    refine Ak_iload_n 8 1 (d_M_ring 3 7 (.iload_n 1) 1 rfl) rfl rfl rfl ?_
    refine Ak_iconst 9 (d_M_ring 4 8 (.iconst 1) 1 rfl) rfl (rk rfl) ?_
    refine Ak_bipush 11 (d_M_ring 5 9 (.bipush 12) 2 rfl) rfl (bp_ok rfl) (rk rfl) ?_
    obtain ⟨r21, V22, h23, h⟩ := bnd_some h
    refine Ak_cS1 14 2 (c_M_is h23) rfl mok_M_is lkM_M_329 (d_M_ring 6 11 (.invokestatic 329) 3 rfl) rfl (by decide) (Nat.le_of_ble_eq_true rfl) ?_
    refine Ak_if_eq 26 17 (d_M_ring 7 14 (.ifCond .eq 12) 3 rfl) rfl rfl (fun hc => ?_) (fun hc => ?_)
    · replace h := it_t hc h
      refine Ak_iconst 27 (d_M_ring 13 26 (.iconst (-1)) 1 rfl) rfl (rk rfl) ?_
      cases h
      exact Ak_iret rfl (d_M_ring 14 27 (.ireturn) 1 rfl)
    · replace h := it_f hc h
      refine Ak_iload_n 18 2 (d_M_ring 8 17 (.iload_n 2) 1 rfl) rfl rfl rfl ?_
      refine Ak_iconst 19 (d_M_ring 9 18 (.iconst 0) 1 rfl) rfl (rk rfl) ?_
      refine Ak_iconst 20 (d_M_ring 10 19 (.iconst 1) 1 rfl) rfl (rk rfl) ?_
      obtain ⟨r24, V25, h26, h⟩ := bnd_some h
      refine Ak_cS1 23 2 (c_M_is h26) rfl mok_M_is lkM_M_329 (d_M_ring 11 20 (.invokestatic 329) 3 rfl) rfl (by decide) (Nat.le_of_ble_eq_true rfl) ?_
      refine Ak_if_ne 28 26 (d_M_ring 12 23 (.ifCond .ne 5) 3 rfl) rfl rfl (fun hc => ?_) (fun hc => ?_)
      · replace h := it_f hc h
        refine Ak_aload_n 29 0 (d_M_ring 15 28 (.aload_n 0) 1 rfl) rfl rfl rfl ?_
        refine Ak_getI 32 48 hO clX13 (by decide) (Or.inl rfl) lkF_M_159 (d_M_ring 16 29 (.getfield 159) 3 rfl) rfl ?_
        refine Ak_istore_n 33 3 (d_M_ring 17 32 (.istore_n 3) 1 rfl) rfl rfl (by decide) ?_
        refine Ak_iconst 34 (d_M_ring 18 33 (.iconst (-1)) 1 rfl) rfl (rk rfl) ?_
        refine Ak_istore 36 (d_M_ring 19 34 (.istore 4) 2 rfl) rfl (by decide) ?_
        refine Ak_aload_n 37 0 (d_M_ring 20 36 (.aload_n 0) 1 rfl) rfl rfl rfl ?_
        refine Ak_iconst 38 (d_M_ring 21 37 (.iconst 0) 1 rfl) rfl (rk rfl) ?_
        obtain ⟨r27, V28, h29, h⟩ := bnd_some h
        refine Ak_cV0 41 3 (c_M_notes h29) rfl hO clX13 rfl mok_M_notes lkM_M_555 (d_M_ring 22 38 (.invokevirtual 555) 3 rfl) rfl (by decide) (Nat.le_of_ble_eq_true rfl) ?_
        refine Ak_iconst 42 (d_M_ring 23 41 (.iconst 1) 1 rfl) rfl (rk rfl) ?_
        refine Ak_istore 44 (d_M_ring 24 42 (.istore 5) 2 rfl) rfl (by decide) ?_
        refine Ak_keep [true, true, true, true, true, true] ?_
        exact t_M_ring_L44 hO FU _ _ _ _ _ h
      · replace h := it_t hc h
        refine Ak_iconst 27 (d_M_ring 13 26 (.iconst (-1)) 1 rfl) rfl (rk rfl) ?_
        cases h
        exact Ak_iret rfl (d_M_ring 14 27 (.ireturn) 1 rfl)
theorem t_M_spring_L7 {S : ASh} {x0 : Int} (hO : isO S x0 13 = true) : ∀ (n : Nat) (V : ASt) (x1 : Int) (r : Int) (V' : ASt), b_M_spring_L7 S x0 n V x1 = some (r, V') → AWk m_M_spring 3 0 0 0 0 7 [some (aR x0), some (aI x1)] [] S V (some (aI r)) S V' := by
  intro n
  induction n with
  | zero => intro V x1 r V' h; cases h
  | succ n ih =>
    intro V x1 r V' h
    replace ih : ∀ {V : ASt} {x1 : Int} {r : Int} {V' : ASt}, b_M_spring_L7 S x0 n V x1 = some (r, V') → AWk m_M_spring 3 0 0 0 0 7 [some (aR x0), some (aI x1)] [] S V (some (aI r)) S V' := fun h => ih _ _ _ _ h
    rw [b_M_spring_L7] at h
    refine Ak_iload_n 8 1 (d_M_spring 5 7 (.iload_n 1) 1 rfl) rfl rfl rfl ?_
    refine Ak_aload_n 9 0 (d_M_spring 6 8 (.aload_n 0) 1 rfl) rfl rfl rfl ?_
    obtain ⟨r1, V2, h3, h⟩ := bnd_some h
    refine Ak_cV1 12 2 (c_M_rulesAll h3) rfl hO clX13 rfl mok_M_rulesAll lkM_M_436 (d_M_spring 7 9 (.invokevirtual 436) 3 rfl) rfl (by decide) (Nat.le_of_ble_eq_true rfl) ?_
    refine Ak_icmp_ge 44 15 (d_M_spring 8 12 (.if_icmp .ge 32) 3 rfl) rfl rfl (fun hc => ?_) (fun hc => ?_)
    · replace h := it_t hc h
      refine Ak_aload_n 45 0 (d_M_spring 26 44 (.aload_n 0) 1 rfl) rfl rfl rfl ?_
      obtain ⟨r4, V5, h6, h⟩ := bnd_some h
      refine Ak_cV1 48 2 (c_M_rulesAll h6) rfl hO clX13 rfl mok_M_rulesAll lkM_M_436 (d_M_spring 27 45 (.invokevirtual 436) 3 rfl) rfl (by decide) (Nat.le_of_ble_eq_true rfl) ?_
      cases h
      exact Ak_iret rfl (d_M_spring 28 48 (.ireturn) 1 rfl)
    · replace h := it_f hc h
      refine Ak_aload_n 16 0 (d_M_spring 9 15 (.aload_n 0) 1 rfl) rfl rfl rfl ?_
      refine Ak_getF 19 73 hO clX13 (by decide) rfl lkF_M_234 (d_M_spring 10 16 (.getfield 234) 3 rfl) rfl ?_
      refine Ak_iload_n 20 1 (d_M_spring 11 19 (.iload_n 1) 1 rfl) rfl rfl rfl ?_
      refine Ak_aload_n 21 0 (d_M_spring 12 20 (.aload_n 0) 1 rfl) rfl rfl rfl ?_
      refine Ak_getF 24 44 hO clX13 (by decide) rfl lkF_M_147 (d_M_spring 13 21 (.getfield 147) 3 rfl) rfl ?_
      refine Ak_iload_n 25 1 (d_M_spring 14 24 (.iload_n 1) 1 rfl) rfl rfl rfl ?_
      obtain ⟨ha7, h⟩ := gd_some h
      refine Ak_iaload 26 ha7 (d_M_spring 15 25 (.iaload) 1 rfl) rfl ?_
      obtain ⟨ha8, h⟩ := gd_some h
      refine Ak_iastore 27 ha8 (d_M_spring 16 26 (.iastore) 1 rfl) rfl (fun V9 hV9 => ?_)
      replace h := wV_some h V9 hV9
      refine Ak_aload_n 28 0 (d_M_spring 17 27 (.aload_n 0) 1 rfl) rfl rfl rfl ?_
      refine Ak_getF 31 74 hO clX13 (by decide) rfl lkF_M_237 (d_M_spring 18 28 (.getfield 237) 3 rfl) rfl ?_
      refine Ak_iload_n 32 1 (d_M_spring 19 31 (.iload_n 1) 1 rfl) rfl rfl rfl ?_
      refine Ak_aload_n 33 0 (d_M_spring 20 32 (.aload_n 0) 1 rfl) rfl rfl rfl ?_
      refine Ak_iload_n 34 1 (d_M_spring 21 33 (.iload_n 1) 1 rfl) rfl rfl rfl ?_
      obtain ⟨r10, V11, h12, h⟩ := bnd_some h
      refine Ak_cV1 37 2 (c_M_restOf h12) rfl hO clX13 rfl mok_M_restOf lkM_M_552 (d_M_spring 22 34 (.invokevirtual 552) 3 rfl) rfl (by decide) (Nat.le_of_ble_eq_true rfl) ?_
      obtain ⟨ha13, h⟩ := gd_some h
      refine Ak_iastore 38 ha13 (d_M_spring 23 37 (.iastore) 1 rfl) rfl (fun V14 hV14 => ?_)
      replace h := wV_some h V14 hV14
      refine Ak_iinc 41 (d_M_spring 24 38 (.iinc 1 1) 3 rfl) rfl rfl (by decide) ?_
      refine Ak_goto 7 (d_M_spring 25 41 (.goto (-34)) 3 rfl) rfl ?_
      refine Ak_keep [true, true] ?_
      exact ih h
theorem c_M_spring {S : ASh} {V : ASt} {x0 : Int} {r : Int} {V' : ASt} (h : f_M_spring S V x0 = some (r, V')) : ACt m_M_spring 3 0 0 [(aR x0)] S V (some (aI r)) S V' := by
  unfold f_M_spring at h
  obtain ⟨hO, h⟩ := gd_some h
  refine ACt_of (plainFor_of_name rfl) rfl (Nat.le_of_ble_eq_true rfl) ?_
  show AWk m_M_spring 3 0 0 0 0 0 [some (aR x0)] [] S V (some (aI r)) S V'
  refine Ak_aload_n 1 0 (d_M_spring 0 0 (.aload_n 0) 1 rfl) rfl rfl rfl ?_
  refine Ak_iconst 2 (d_M_spring 1 1 (.iconst 1) 1 rfl) rfl (rk rfl) ?_
  refine Ak_putZ 5 72 (Or.inr rfl) hO clX13 (by decide) rfl rfl rfl lkF_M_231 (d_M_spring 2 2 (.putfield 231) 3 rfl) rfl (fun V15 hV15 => ?_)
  replace h := wV_some h V15 hV15
  refine Ak_iconst 6 (d_M_spring 3 5 (.iconst 0) 1 rfl) rfl (rk rfl) ?_
  refine Ak_istore_n 7 1 (d_M_spring 4 6 (.istore_n 1) 1 rfl) rfl rfl (by decide) ?_
  refine Ak_keep [true, true] ?_
  exact t_M_spring_L7 hO FU _ _ _ _ h
theorem t_M_laysSpring_J89 {S : ASh} {K7 : ASt → Int → Option (Int × ASt)} {V : ASt} {x0 x1 s0 s1 s2 : Int} {r : Int} {V' : ASt} (hO : isO S x0 13 = true) (hK7 : ∀ {V : ASt} {y1 : Int} {r : Int} {V' : ASt}, K7 V y1 = some (r, V') → AWk m_M_laysSpring 9 0 0 0 0 7 [some (aR x0), some (aI y1)] [] S V none S V') (h : b_M_laysSpring_J89 S K7 V x0 x1 s0 s1 s2 = some (r, V')) : AWk m_M_laysSpring 9 0 0 0 0 89 [some (aR x0), some (aI x1)] [(aI s2), (aI s1), (aR s0)] S V none S V' := by
  unfold b_M_laysSpring_J89 at h
  obtain ⟨ha1, h⟩ := gd_some h
  obtain ⟨hb2, h⟩ := gd_some h
  refine Ak_bastore 90 ha1 (dec_t hb2) (d_M_laysSpring 58 89 (.bastore) 1 rfl) rfl (fun V3 hV3 => ?_)
  replace h := wV_some h V3 hV3
  refine Ak_iinc 93 (d_M_laysSpring 59 90 (.iinc 1 1) 3 rfl) rfl rfl (by decide) ?_
  refine Ak_goto 7 (d_M_laysSpring 60 93 (.goto (-86)) 3 rfl) rfl ?_
  refine Ak_keep [true, true] ?_
  exact hK7 h
theorem t_M_laysSpring_J64 {S : ASh} {K7 : ASt → Int → Option (Int × ASt)} {V : ASt} {x0 x1 s0 s1 s2 : Int} {r : Int} {V' : ASt} (hO : isO S x0 13 = true) (hK7 : ∀ {V : ASt} {y1 : Int} {r : Int} {V' : ASt}, K7 V y1 = some (r, V') → AWk m_M_laysSpring 9 0 0 0 0 7 [some (aR x0), some (aI y1)] [] S V none S V') (h : b_M_laysSpring_J64 S K7 V x0 x1 s0 s1 s2 = some (r, V')) : AWk m_M_laysSpring 9 0 0 0 0 64 [some (aR x0), some (aI x1)] [(aI s2), (aI s1), (aR s0)] S V none S V' := by
  unfold b_M_laysSpring_J64 at h
  obtain ⟨ha4, h⟩ := gd_some h
  obtain ⟨hb5, h⟩ := gd_some h
  refine Ak_bastore 65 ha4 (dec_t hb5) (d_M_laysSpring 41 64 (.bastore) 1 rfl) rfl (fun V6 hV6 => ?_)
  replace h := wV_some h V6 hV6
  refine Ak_aload_n 66 0 (d_M_laysSpring 42 65 (.aload_n 0) 1 rfl) rfl rfl rfl ?_
  refine Ak_getF 69 46 hO clX13 (by decide) rfl lkF_M_153 (d_M_laysSpring 43 66 (.getfield 153) 3 rfl) rfl ?_
  refine Ak_iload_n 70 1 (d_M_laysSpring 44 69 (.iload_n 1) 1 rfl) rfl rfl rfl ?_
  refine Ak_aload_n 71 0 (d_M_laysSpring 45 70 (.aload_n 0) 1 rfl) rfl rfl rfl ?_
  refine Ak_getF 74 74 hO clX13 (by decide) rfl lkF_M_237 (d_M_laysSpring 46 71 (.getfield 237) 3 rfl) rfl ?_
  refine Ak_iload_n 75 1 (d_M_laysSpring 47 74 (.iload_n 1) 1 rfl) rfl rfl rfl ?_
  obtain ⟨ha7, h⟩ := gd_some h
  refine Ak_iaload 76 ha7 (d_M_laysSpring 48 75 (.iaload) 1 rfl) rfl ?_
  refine Ak_iconst 77 (d_M_laysSpring 49 76 (.iconst 2) 1 rfl) rfl (rk rfl) ?_
  refine Ak_idiv 78 (d_M_laysSpring 50 77 (.idiv) 1 rfl) rfl (by decide) ?_
  refine Ak_iconst 79 (d_M_laysSpring 51 78 (.iconst 2) 1 rfl) rfl (rk rfl) ?_
  refine Ak_irem 80 (d_M_laysSpring 52 79 (.irem) 1 rfl) rfl (by decide) ?_
  refine Ak_iconst 81 (d_M_laysSpring 53 80 (.iconst 1) 1 rfl) rfl (rk rfl) ?_
  refine Ak_icmp_ne 88 84 (d_M_laysSpring 54 81 (.if_icmp .ne 7) 3 rfl) rfl rfl (fun hc => ?_) (fun hc => ?_)
  · replace h := it_f hc h
    refine Ak_iconst 89 (d_M_laysSpring 57 88 (.iconst 0) 1 rfl) rfl (rk rfl) ?_
    refine Ak_keep [true, true] ?_
    exact t_M_laysSpring_J89 hO (fun h => hK7 h) h
  · replace h := it_t hc h
    refine Ak_iconst 85 (d_M_laysSpring 55 84 (.iconst 1) 1 rfl) rfl (rk rfl) ?_
    refine Ak_goto 89 (d_M_laysSpring 56 85 (.goto 4) 3 rfl) rfl ?_
    refine Ak_keep [true, true] ?_
    exact t_M_laysSpring_J89 hO (fun h => hK7 h) h
theorem t_M_laysSpring_L130 {S : ASh} {x0 : Int} (hO : isO S x0 13 = true) : ∀ (n : Nat) (V : ASt) (x1 : Int) (r : Int) (V' : ASt), b_M_laysSpring_L130 S x0 n V x1 = some (r, V') → AWk m_M_laysSpring 9 0 0 0 0 130 [some (aR x0), some (aI x1)] [] S V none S V' := by
  intro n
  induction n with
  | zero => intro V x1 r V' h; cases h
  | succ n ih =>
    intro V x1 r V' h
    replace ih : ∀ {V : ASt} {x1 : Int} {r : Int} {V' : ASt}, b_M_laysSpring_L130 S x0 n V x1 = some (r, V') → AWk m_M_laysSpring 9 0 0 0 0 130 [some (aR x0), some (aI x1)] [] S V none S V' := fun h => ih _ _ _ _ h
    rw [b_M_laysSpring_L130] at h
    refine Ak_iload_n 131 1 (d_M_laysSpring 81 130 (.iload_n 1) 1 rfl) rfl rfl rfl ?_
    refine Ak_sipush 134 (d_M_laysSpring 82 131 (.sipush 4000) 3 rfl) rfl (sp_ok rfl) (rk rfl) ?_
    refine Ak_icmp_ge 167 137 (d_M_laysSpring 83 134 (.if_icmp .ge 33) 3 rfl) rfl rfl (fun hc => ?_) (fun hc => ?_)
    · replace h := it_t hc h
      refine Ak_aload_n 168 0 (d_M_laysSpring 102 167 (.aload_n 0) 1 rfl) rfl rfl rfl ?_
      obtain ⟨r8, V9, h10, h⟩ := bnd_some h
      refine Ak_cV0 171 3 (c_M_back h10) rfl hO clX13 rfl mok_M_back lkM_M_561 (d_M_laysSpring 103 168 (.invokevirtual 561) 3 rfl) rfl (by decide) (Nat.le_of_ble_eq_true rfl) ?_
      cases h
      exact Ak_vret rfl (d_M_laysSpring 104 171 (.return_) 1 rfl)
    · replace h := it_f hc h
      refine Ak_aload_n 138 0 (d_M_laysSpring 84 137 (.aload_n 0) 1 rfl) rfl rfl rfl ?_
      refine Ak_getF 141 76 hO clX13 (by decide) rfl lkF_M_243 (d_M_laysSpring 85 138 (.getfield 243) 3 rfl) rfl ?_
      refine Ak_iload_n 142 1 (d_M_laysSpring 86 141 (.iload_n 1) 1 rfl) rfl rfl rfl ?_
      refine Ak_aload_n 143 0 (d_M_laysSpring 87 142 (.aload_n 0) 1 rfl) rfl rfl rfl ?_
      refine Ak_getF 146 52 hO clX13 (by decide) rfl lkF_M_171 (d_M_laysSpring 88 143 (.getfield 171) 3 rfl) rfl ?_
      refine Ak_iload_n 147 1 (d_M_laysSpring 89 146 (.iload_n 1) 1 rfl) rfl rfl rfl ?_
      obtain ⟨ha11, h⟩ := gd_some h
      refine Ak_iaload 148 ha11 (d_M_laysSpring 90 147 (.iaload) 1 rfl) rfl ?_
      obtain ⟨ha12, h⟩ := gd_some h
      refine Ak_iastore 149 ha12 (d_M_laysSpring 91 148 (.iastore) 1 rfl) rfl (fun V13 hV13 => ?_)
      replace h := wV_some h V13 hV13
      refine Ak_aload_n 150 0 (d_M_laysSpring 92 149 (.aload_n 0) 1 rfl) rfl rfl rfl ?_
      refine Ak_getF 153 77 hO clX13 (by decide) rfl lkF_M_246 (d_M_laysSpring 93 150 (.getfield 246) 3 rfl) rfl ?_
      refine Ak_iload_n 154 1 (d_M_laysSpring 94 153 (.iload_n 1) 1 rfl) rfl rfl rfl ?_
      refine Ak_aload_n 155 0 (d_M_laysSpring 95 154 (.aload_n 0) 1 rfl) rfl rfl rfl ?_
      refine Ak_getF 158 53 hO clX13 (by decide) rfl lkF_M_174 (d_M_laysSpring 96 155 (.getfield 174) 3 rfl) rfl ?_
      refine Ak_iload_n 159 1 (d_M_laysSpring 97 158 (.iload_n 1) 1 rfl) rfl rfl rfl ?_
      obtain ⟨ha14, h⟩ := gd_some h
      refine Ak_iaload 160 ha14 (d_M_laysSpring 98 159 (.iaload) 1 rfl) rfl ?_
      obtain ⟨ha15, h⟩ := gd_some h
      refine Ak_iastore 161 ha15 (d_M_laysSpring 99 160 (.iastore) 1 rfl) rfl (fun V16 hV16 => ?_)
      replace h := wV_some h V16 hV16
      refine Ak_iinc 164 (d_M_laysSpring 100 161 (.iinc 1 1) 3 rfl) rfl rfl (by decide) ?_
      refine Ak_goto 130 (d_M_laysSpring 101 164 (.goto (-34)) 3 rfl) rfl ?_
      refine Ak_keep [true, true] ?_
      exact ih h
theorem t_M_laysSpring_L103 {S : ASh} {x0 : Int} (hO : isO S x0 13 = true) : ∀ (n : Nat) (V : ASt) (x1 : Int) (r : Int) (V' : ASt), b_M_laysSpring_L103 S x0 n V x1 = some (r, V') → AWk m_M_laysSpring 9 0 0 0 0 103 [some (aR x0), some (aI x1)] [] S V none S V' := by
  intro n
  induction n with
  | zero => intro V x1 r V' h; cases h
  | succ n ih =>
    intro V x1 r V' h
    replace ih : ∀ {V : ASt} {x1 : Int} {r : Int} {V' : ASt}, b_M_laysSpring_L103 S x0 n V x1 = some (r, V') → AWk m_M_laysSpring 9 0 0 0 0 103 [some (aR x0), some (aI x1)] [] S V none S V' := fun h => ih _ _ _ _ h
    rw [b_M_laysSpring_L103] at h
    refine Ak_iload_n 104 1 (d_M_laysSpring 66 103 (.iload_n 1) 1 rfl) rfl rfl rfl ?_
    refine Ak_sipush 107 (d_M_laysSpring 67 104 (.sipush 200) 3 rfl) rfl (sp_ok rfl) (rk rfl) ?_
    refine Ak_icmp_ge 128 110 (d_M_laysSpring 68 107 (.if_icmp .ge 21) 3 rfl) rfl rfl (fun hc => ?_) (fun hc => ?_)
    · replace h := it_t hc h
      refine Ak_iconst 129 (d_M_laysSpring 79 128 (.iconst 0) 1 rfl) rfl (rk rfl) ?_
      refine Ak_istore_n 130 1 (d_M_laysSpring 80 129 (.istore_n 1) 1 rfl) rfl rfl (by decide) ?_
      refine Ak_keep [true, true] ?_
      exact t_M_laysSpring_L130 hO FU _ _ _ _ h
    · replace h := it_f hc h
      refine Ak_aload_n 111 0 (d_M_laysSpring 69 110 (.aload_n 0) 1 rfl) rfl rfl rfl ?_
      refine Ak_getF 114 75 hO clX13 (by decide) rfl lkF_M_240 (d_M_laysSpring 70 111 (.getfield 240) 3 rfl) rfl ?_
      refine Ak_iload_n 115 1 (d_M_laysSpring 71 114 (.iload_n 1) 1 rfl) rfl rfl rfl ?_
      refine Ak_aload_n 116 0 (d_M_laysSpring 72 115 (.aload_n 0) 1 rfl) rfl rfl rfl ?_
      refine Ak_getF 119 51 hO clX13 (by decide) rfl lkF_M_168 (d_M_laysSpring 73 116 (.getfield 168) 3 rfl) rfl ?_
      refine Ak_iload_n 120 1 (d_M_laysSpring 74 119 (.iload_n 1) 1 rfl) rfl rfl rfl ?_
      obtain ⟨ha17, h⟩ := gd_some h
      refine Ak_iaload 121 ha17 (d_M_laysSpring 75 120 (.iaload) 1 rfl) rfl ?_
      obtain ⟨ha18, h⟩ := gd_some h
      refine Ak_iastore 122 ha18 (d_M_laysSpring 76 121 (.iastore) 1 rfl) rfl (fun V19 hV19 => ?_)
      replace h := wV_some h V19 hV19
      refine Ak_iinc 125 (d_M_laysSpring 77 122 (.iinc 1 1) 3 rfl) rfl rfl (by decide) ?_
      refine Ak_goto 103 (d_M_laysSpring 78 125 (.goto (-22)) 3 rfl) rfl ?_
      refine Ak_keep [true, true] ?_
      exact ih h
theorem t_M_laysSpring_L7 {S : ASh} {x0 : Int} (hO : isO S x0 13 = true) : ∀ (n : Nat) (V : ASt) (x1 : Int) (r : Int) (V' : ASt), b_M_laysSpring_L7 S x0 n V x1 = some (r, V') → AWk m_M_laysSpring 9 0 0 0 0 7 [some (aR x0), some (aI x1)] [] S V none S V' := by
  intro n
  induction n with
  | zero => intro V x1 r V' h; cases h
  | succ n ih =>
    intro V x1 r V' h
    replace ih : ∀ {V : ASt} {x1 : Int} {r : Int} {V' : ASt}, b_M_laysSpring_L7 S x0 n V x1 = some (r, V') → AWk m_M_laysSpring 9 0 0 0 0 7 [some (aR x0), some (aI x1)] [] S V none S V' := fun h => ih _ _ _ _ h
    rw [b_M_laysSpring_L7] at h
    refine Ak_iload_n 8 1 (d_M_laysSpring 5 7 (.iload_n 1) 1 rfl) rfl rfl rfl ?_
    refine Ak_aload_n 9 0 (d_M_laysSpring 6 8 (.aload_n 0) 1 rfl) rfl rfl rfl ?_
    obtain ⟨r20, V21, h22, h⟩ := bnd_some h
    refine Ak_cV1 12 2 (c_M_rulesAll h22) rfl hO clX13 rfl mok_M_rulesAll lkM_M_436 (d_M_laysSpring 7 9 (.invokevirtual 436) 3 rfl) rfl (by decide) (Nat.le_of_ble_eq_true rfl) ?_
    refine Ak_icmp_ge 96 15 (d_M_laysSpring 8 12 (.if_icmp .ge 84) 3 rfl) rfl rfl (fun hc => ?_) (fun hc => ?_)
    · replace h := it_t hc h
      refine Ak_aload_n 97 0 (d_M_laysSpring 61 96 (.aload_n 0) 1 rfl) rfl rfl rfl ?_
      refine Ak_iconst 98 (d_M_laysSpring 62 97 (.iconst (-1)) 1 rfl) rfl (rk rfl) ?_
      obtain ⟨r23, V24, h25, h⟩ := bnd_some h
      refine Ak_cV0 101 8 (c_M_lays h25) rfl hO clX13 rfl mok_M_lays lkM_M_496 (d_M_laysSpring 63 98 (.invokevirtual 496) 3 rfl) rfl (by decide) (Nat.le_of_ble_eq_true rfl) ?_
      refine Ak_iconst 102 (d_M_laysSpring 64 101 (.iconst 0) 1 rfl) rfl (rk rfl) ?_
      refine Ak_istore_n 103 1 (d_M_laysSpring 65 102 (.istore_n 1) 1 rfl) rfl rfl (by decide) ?_
      refine Ak_keep [true, true] ?_
      exact t_M_laysSpring_L103 hO FU _ _ _ _ h
    · replace h := it_f hc h
      refine Ak_aload_n 16 0 (d_M_laysSpring 9 15 (.aload_n 0) 1 rfl) rfl rfl rfl ?_
      refine Ak_getF 19 44 hO clX13 (by decide) rfl lkF_M_147 (d_M_laysSpring 10 16 (.getfield 147) 3 rfl) rfl ?_
      refine Ak_iload_n 20 1 (d_M_laysSpring 11 19 (.iload_n 1) 1 rfl) rfl rfl rfl ?_
      refine Ak_aload_n 21 0 (d_M_laysSpring 12 20 (.aload_n 0) 1 rfl) rfl rfl rfl ?_
      refine Ak_getF 24 73 hO clX13 (by decide) rfl lkF_M_234 (d_M_laysSpring 13 21 (.getfield 234) 3 rfl) rfl ?_
      refine Ak_iload_n 25 1 (d_M_laysSpring 14 24 (.iload_n 1) 1 rfl) rfl rfl rfl ?_
      obtain ⟨ha26, h⟩ := gd_some h
      refine Ak_iaload 26 ha26 (d_M_laysSpring 15 25 (.iaload) 1 rfl) rfl ?_
      obtain ⟨ha27, h⟩ := gd_some h
      refine Ak_iastore 27 ha27 (d_M_laysSpring 16 26 (.iastore) 1 rfl) rfl (fun V28 hV28 => ?_)
      replace h := wV_some h V28 hV28
      refine Ak_aload_n 28 0 (d_M_laysSpring 17 27 (.aload_n 0) 1 rfl) rfl rfl rfl ?_
      refine Ak_getF 31 47 hO clX13 (by decide) rfl lkF_M_156 (d_M_laysSpring 18 28 (.getfield 156) 3 rfl) rfl ?_
      refine Ak_iload_n 32 1 (d_M_laysSpring 19 31 (.iload_n 1) 1 rfl) rfl rfl rfl ?_
      refine Ak_aload_n 33 0 (d_M_laysSpring 20 32 (.aload_n 0) 1 rfl) rfl rfl rfl ?_
      refine Ak_getF 36 74 hO clX13 (by decide) rfl lkF_M_237 (d_M_laysSpring 21 33 (.getfield 237) 3 rfl) rfl ?_
      refine Ak_iload_n 37 1 (d_M_laysSpring 22 36 (.iload_n 1) 1 rfl) rfl rfl rfl ?_
      obtain ⟨ha29, h⟩ := gd_some h
      refine Ak_iaload 38 ha29 (d_M_laysSpring 23 37 (.iaload) 1 rfl) rfl ?_
      refine Ak_bipush 40 (d_M_laysSpring 24 38 (.bipush 8) 2 rfl) rfl (bp_ok rfl) (rk rfl) ?_
      refine Ak_idiv 41 (d_M_laysSpring 25 40 (.idiv) 1 rfl) rfl (by decide) ?_
      obtain ⟨ha30, h⟩ := gd_some h
      refine Ak_iastore 42 ha30 (d_M_laysSpring 26 41 (.iastore) 1 rfl) rfl (fun V31 hV31 => ?_)
      replace h := wV_some h V31 hV31
      refine Ak_aload_n 43 0 (d_M_laysSpring 27 42 (.aload_n 0) 1 rfl) rfl rfl rfl ?_
      refine Ak_getF 46 45 hO clX13 (by decide) rfl lkF_M_150 (d_M_laysSpring 28 43 (.getfield 150) 3 rfl) rfl ?_
      refine Ak_iload_n 47 1 (d_M_laysSpring 29 46 (.iload_n 1) 1 rfl) rfl rfl rfl ?_
      refine Ak_aload_n 48 0 (d_M_laysSpring 30 47 (.aload_n 0) 1 rfl) rfl rfl rfl ?_
      refine Ak_getF 51 74 hO clX13 (by decide) rfl lkF_M_237 (d_M_laysSpring 31 48 (.getfield 237) 3 rfl) rfl ?_
      refine Ak_iload_n 52 1 (d_M_laysSpring 32 51 (.iload_n 1) 1 rfl) rfl rfl rfl ?_
      refine Ak_iaload 53 ha29 (d_M_laysSpring 33 52 (.iaload) 1 rfl) rfl ?_
      refine Ak_iconst 54 (d_M_laysSpring 34 53 (.iconst 2) 1 rfl) rfl (rk rfl) ?_
      refine Ak_irem 55 (d_M_laysSpring 35 54 (.irem) 1 rfl) rfl (by decide) ?_
      refine Ak_iconst 56 (d_M_laysSpring 36 55 (.iconst 1) 1 rfl) rfl (rk rfl) ?_
      refine Ak_icmp_ne 63 59 (d_M_laysSpring 37 56 (.if_icmp .ne 7) 3 rfl) rfl rfl (fun hc => ?_) (fun hc => ?_)
      · replace h := it_f hc h
        refine Ak_iconst 64 (d_M_laysSpring 40 63 (.iconst 0) 1 rfl) rfl (rk rfl) ?_
        refine Ak_keep [true, true] ?_
        exact t_M_laysSpring_J64 hO (fun h => ih h) h
      · replace h := it_t hc h
        refine Ak_iconst 60 (d_M_laysSpring 38 59 (.iconst 1) 1 rfl) rfl (rk rfl) ?_
        refine Ak_goto 64 (d_M_laysSpring 39 60 (.goto 4) 3 rfl) rfl ?_
        refine Ak_keep [true, true] ?_
        exact t_M_laysSpring_J64 hO (fun h => ih h) h
theorem c_M_laysSpring {S : ASh} {V : ASt} {x0 : Int} {r : Int} {V' : ASt} (h : f_M_laysSpring S V x0 = some (r, V')) : ACt m_M_laysSpring 9 0 0 [(aR x0)] S V none S V' := by
  unfold f_M_laysSpring at h
  obtain ⟨hO, h⟩ := gd_some h
  refine ACt_of (plainFor_of_name rfl) rfl (Nat.le_of_ble_eq_true rfl) ?_
  show AWk m_M_laysSpring 9 0 0 0 0 0 [some (aR x0)] [] S V none S V'
  refine Ak_aload_n 1 0 (d_M_laysSpring 0 0 (.aload_n 0) 1 rfl) rfl rfl rfl ?_
  refine Ak_iconst 2 (d_M_laysSpring 1 1 (.iconst 0) 1 rfl) rfl (rk rfl) ?_
  obtain ⟨r32, V33, h34, h⟩ := bnd_some h
  refine Ak_cV0 5 3 (c_M_notes h34) rfl hO clX13 rfl mok_M_notes lkM_M_555 (d_M_laysSpring 2 2 (.invokevirtual 555) 3 rfl) rfl (by decide) (Nat.le_of_ble_eq_true rfl) ?_
  refine Ak_iconst 6 (d_M_laysSpring 3 5 (.iconst 0) 1 rfl) rfl (rk rfl) ?_
  refine Ak_istore_n 7 1 (d_M_laysSpring 4 6 (.istore_n 1) 1 rfl) rfl rfl (by decide) ?_
  refine Ak_keep [true, true] ?_
  exact t_M_laysSpring_L7 hO FU _ _ _ _ h
theorem t_M_differs_L22 {S : ASh} {x0 x1 : Int} (hO : isO S x0 13 = true) : ∀ (n : Nat) (V : ASt) (x2 : Int) (r : Int) (V' : ASt), b_M_differs_L22 S x0 x1 n V x2 = some (r, V') → AWk m_M_differs 2 0 0 0 0 22 [some (aR x0), some (aI x1), some (aI x2)] [] S V (some (aI r)) S V' := by
  intro n
  induction n with
  | zero => intro V x2 r V' h; cases h
  | succ n ih =>
    intro V x2 r V' h
    replace ih : ∀ {V : ASt} {x2 : Int} {r : Int} {V' : ASt}, b_M_differs_L22 S x0 x1 n V x2 = some (r, V') → AWk m_M_differs 2 0 0 0 0 22 [some (aR x0), some (aI x1), some (aI x2)] [] S V (some (aI r)) S V' := fun h => ih _ _ _ _ h
    rw [b_M_differs_L22] at h
    refine Ak_iload_n 23 2 (d_M_differs 15 22 (.iload_n 2) 1 rfl) rfl rfl rfl ?_
    refine Ak_bipush 25 (d_M_differs 16 23 (.bipush 20) 2 rfl) rfl (bp_ok rfl) (rk rfl) ?_
    refine Ak_iload_n 26 1 (d_M_differs 17 25 (.iload_n 1) 1 rfl) rfl rfl rfl ?_
    refine Ak_imul 27 (d_M_differs 18 26 (.imul) 1 rfl) rfl ?_
    refine Ak_aload_n 28 0 (d_M_differs 19 27 (.aload_n 0) 1 rfl) rfl rfl rfl ?_
    refine Ak_getF 31 51 hO clX13 (by decide) rfl lkF_M_168 (d_M_differs 20 28 (.getfield 168) 3 rfl) rfl ?_
    refine Ak_iload_n 32 1 (d_M_differs 21 31 (.iload_n 1) 1 rfl) rfl rfl rfl ?_
    obtain ⟨ha1, h⟩ := gd_some h
    refine Ak_iaload 33 ha1 (d_M_differs 22 32 (.iaload) 1 rfl) rfl ?_
    refine Ak_iadd 34 (d_M_differs 23 33 (.iadd) 1 rfl) rfl ?_
    refine Ak_icmp_ge 75 37 (d_M_differs 24 34 (.if_icmp .ge 41) 3 rfl) rfl rfl (fun hc => ?_) (fun hc => ?_)
    · replace h := it_t hc h
      refine Ak_iconst 76 (d_M_differs 47 75 (.iconst 0) 1 rfl) rfl (rk rfl) ?_
      cases h
      exact Ak_zret (Or.inl rfl) rfl (d_M_differs 48 76 (.ireturn) 1 rfl)
    · replace h := it_f hc h
      refine Ak_aload_n 38 0 (d_M_differs 25 37 (.aload_n 0) 1 rfl) rfl rfl rfl ?_
      refine Ak_getF 41 52 hO clX13 (by decide) rfl lkF_M_171 (d_M_differs 26 38 (.getfield 171) 3 rfl) rfl ?_
      refine Ak_iload_n 42 2 (d_M_differs 27 41 (.iload_n 2) 1 rfl) rfl rfl rfl ?_
      obtain ⟨ha2, h⟩ := gd_some h
      refine Ak_iaload 43 ha2 (d_M_differs 28 42 (.iaload) 1 rfl) rfl ?_
      refine Ak_aload_n 44 0 (d_M_differs 29 43 (.aload_n 0) 1 rfl) rfl rfl rfl ?_
      refine Ak_getF 47 76 hO clX13 (by decide) rfl lkF_M_243 (d_M_differs 30 44 (.getfield 243) 3 rfl) rfl ?_
      refine Ak_iload_n 48 2 (d_M_differs 31 47 (.iload_n 2) 1 rfl) rfl rfl rfl ?_
      obtain ⟨ha3, h⟩ := gd_some h
      refine Ak_iaload 49 ha3 (d_M_differs 32 48 (.iaload) 1 rfl) rfl ?_
      refine Ak_icmp_ne 67 52 (d_M_differs 33 49 (.if_icmp .ne 18) 3 rfl) rfl rfl (fun hc => ?_) (fun hc => ?_)
      · replace h := it_f hc h
        refine Ak_iconst 68 (d_M_differs 43 67 (.iconst 1) 1 rfl) rfl (rk rfl) ?_
        cases h
        exact Ak_zret (Or.inr rfl) rfl (d_M_differs 44 68 (.ireturn) 1 rfl)
      · replace h := it_t hc h
        refine Ak_aload_n 53 0 (d_M_differs 34 52 (.aload_n 0) 1 rfl) rfl rfl rfl ?_
        refine Ak_getF 56 53 hO clX13 (by decide) rfl lkF_M_174 (d_M_differs 35 53 (.getfield 174) 3 rfl) rfl ?_
        refine Ak_iload_n 57 2 (d_M_differs 36 56 (.iload_n 2) 1 rfl) rfl rfl rfl ?_
        obtain ⟨ha4, h⟩ := gd_some h
        refine Ak_iaload 58 ha4 (d_M_differs 37 57 (.iaload) 1 rfl) rfl ?_
        refine Ak_aload_n 59 0 (d_M_differs 38 58 (.aload_n 0) 1 rfl) rfl rfl rfl ?_
        refine Ak_getF 62 77 hO clX13 (by decide) rfl lkF_M_246 (d_M_differs 39 59 (.getfield 246) 3 rfl) rfl ?_
        refine Ak_iload_n 63 2 (d_M_differs 40 62 (.iload_n 2) 1 rfl) rfl rfl rfl ?_
        obtain ⟨ha5, h⟩ := gd_some h
        refine Ak_iaload 64 ha5 (d_M_differs 41 63 (.iaload) 1 rfl) rfl ?_
        refine Ak_icmp_eq 69 67 (d_M_differs 42 64 (.if_icmp .eq 5) 3 rfl) rfl rfl (fun hc => ?_) (fun hc => ?_)
        · replace h := it_t hc h
          refine Ak_iinc 72 (d_M_differs 45 69 (.iinc 2 1) 3 rfl) rfl rfl (by decide) ?_
          refine Ak_goto 22 (d_M_differs 46 72 (.goto (-50)) 3 rfl) rfl ?_
          refine Ak_keep [true, true, true] ?_
          exact ih h
        · replace h := it_f hc h
          refine Ak_iconst 68 (d_M_differs 43 67 (.iconst 1) 1 rfl) rfl (rk rfl) ?_
          cases h
          exact Ak_zret (Or.inr rfl) rfl (d_M_differs 44 68 (.ireturn) 1 rfl)
theorem c_M_differs {S : ASh} {V : ASt} {x0 x1 : Int} {r : Int} {V' : ASt} (h : f_M_differs S V x0 x1 = some (r, V')) : ACt m_M_differs 2 0 0 [(aR x0), (aI x1)] S V (some (aI r)) S V' := by
  unfold f_M_differs at h
  obtain ⟨hO, h⟩ := gd_some h
  refine ACt_of (plainFor_of_name rfl) rfl (Nat.le_of_ble_eq_true rfl) ?_
  show AWk m_M_differs 2 0 0 0 0 0 [some (aR x0), some (aI x1)] [] S V (some (aI r)) S V'
  refine Ak_aload_n 1 0 (d_M_differs 0 0 (.aload_n 0) 1 rfl) rfl rfl rfl ?_
  refine Ak_getF 4 51 hO clX13 (by decide) rfl lkF_M_168 (d_M_differs 1 1 (.getfield 168) 3 rfl) rfl ?_
  refine Ak_iload_n 5 1 (d_M_differs 2 4 (.iload_n 1) 1 rfl) rfl rfl rfl ?_
  obtain ⟨ha6, h⟩ := gd_some h
  refine Ak_iaload 6 ha6 (d_M_differs 3 5 (.iaload) 1 rfl) rfl ?_
  refine Ak_aload_n 7 0 (d_M_differs 4 6 (.aload_n 0) 1 rfl) rfl rfl rfl ?_
  refine Ak_getF 10 75 hO clX13 (by decide) rfl lkF_M_240 (d_M_differs 5 7 (.getfield 240) 3 rfl) rfl ?_
  refine Ak_iload_n 11 1 (d_M_differs 6 10 (.iload_n 1) 1 rfl) rfl rfl rfl ?_
  obtain ⟨ha7, h⟩ := gd_some h
  refine Ak_iaload 12 ha7 (d_M_differs 7 11 (.iaload) 1 rfl) rfl ?_
  refine Ak_icmp_eq 17 15 (d_M_differs 8 12 (.if_icmp .eq 5) 3 rfl) rfl rfl (fun hc => ?_) (fun hc => ?_)
  · replace h := it_t hc h
    refine Ak_bipush 19 (d_M_differs 11 17 (.bipush 20) 2 rfl) rfl (bp_ok rfl) (rk rfl) ?_
    refine Ak_iload_n 20 1 (d_M_differs 12 19 (.iload_n 1) 1 rfl) rfl rfl rfl ?_
    refine Ak_imul 21 (d_M_differs 13 20 (.imul) 1 rfl) rfl ?_
    refine Ak_istore_n 22 2 (d_M_differs 14 21 (.istore_n 2) 1 rfl) rfl rfl (by decide) ?_
    refine Ak_keep [true, true, true] ?_
    exact t_M_differs_L22 hO FU _ _ _ _ h
  · replace h := it_f hc h
    refine Ak_iconst 16 (d_M_differs 9 15 (.iconst 1) 1 rfl) rfl (rk rfl) ?_
    cases h
    exact Ak_zret (Or.inr rfl) rfl (d_M_differs 10 16 (.ireturn) 1 rfl)
theorem t_M_parts_L148 {S : ASh} {K74 : ASt → Int → Int → Option (Int × ASt)} {K132 : ASt → Int → Int → Option (Int × ASt)} {x0 x1 x3 x4 : Int} (hO : isO S x0 13 = true) (hK74 : ∀ {V : ASt} {y2 y3 : Int} {r : Int} {V' : ASt}, K74 V y2 y3 = some (r, V') → AWk m_M_parts 10 0 0 0 0 74 [some (aR x0), some (aI x1), some (aI y2), some (aI y3)] [] S V (some (aI r)) S V') (hK132 : ∀ {V : ASt} {y2 y4 : Int} {r : Int} {V' : ASt}, K132 V y2 y4 = some (r, V') → AWk m_M_parts 10 0 0 0 0 132 [some (aR x0), some (aI x1), some (aI y2), some (aI x3), some (aI y4)] [] S V (some (aI r)) S V') : ∀ (n : Nat) (V : ASt) (x2 x5 : Int) (r : Int) (V' : ASt), b_M_parts_L148 S K74 K132 x0 x1 x3 x4 n V x2 x5 = some (r, V') → AWk m_M_parts 10 0 0 0 0 148 [some (aR x0), some (aI x1), some (aI x2), some (aI x3), some (aI x4), some (aI x5)] [] S V (some (aI r)) S V' := by
  intro n
  induction n with
  | zero => intro V x2 x5 r V' h; cases h
  | succ n ih =>
    intro V x2 x5 r V' h
    replace ih : ∀ {V : ASt} {x2 x5 : Int} {r : Int} {V' : ASt}, b_M_parts_L148 S K74 K132 x0 x1 x3 x4 n V x2 x5 = some (r, V') → AWk m_M_parts 10 0 0 0 0 148 [some (aR x0), some (aI x1), some (aI x2), some (aI x3), some (aI x4), some (aI x5)] [] S V (some (aI r)) S V' := fun h => ih _ _ _ _ _ h
    rw [b_M_parts_L148] at h
    refine Ak_iload 150 (d_M_parts 80 148 (.iload 5) 2 rfl) rfl rfl ?_
    refine Ak_bipush 152 (d_M_parts 81 150 (.bipush 20) 2 rfl) rfl (bp_ok rfl) (rk rfl) ?_
    refine Ak_iload 154 (d_M_parts 82 152 (.iload 4) 2 rfl) rfl rfl ?_
    refine Ak_imul 155 (d_M_parts 83 154 (.imul) 1 rfl) rfl ?_
    refine Ak_aload_n 156 0 (d_M_parts 84 155 (.aload_n 0) 1 rfl) rfl rfl rfl ?_
    refine Ak_getF 159 51 hO clX13 (by decide) rfl lkF_M_168 (d_M_parts 85 156 (.getfield 168) 3 rfl) rfl ?_
    refine Ak_iload 161 (d_M_parts 86 159 (.iload 4) 2 rfl) rfl rfl ?_
    obtain ⟨ha1, h⟩ := gd_some h
    refine Ak_iaload 162 ha1 (d_M_parts 87 161 (.iaload) 1 rfl) rfl ?_
    refine Ak_iadd 163 (d_M_parts 88 162 (.iadd) 1 rfl) rfl ?_
    refine Ak_icmp_ge 229 166 (d_M_parts 89 163 (.if_icmp .ge 66) 3 rfl) rfl rfl (fun hc => ?_) (fun hc => ?_)
    · replace h := it_t hc h
      refine Ak_iinc 232 (d_M_parts 125 229 (.iinc 4 1) 3 rfl) rfl rfl (by decide) ?_
      refine Ak_goto 132 (d_M_parts 126 232 (.goto (-100)) 3 rfl) rfl ?_
      refine Ak_keep [true, true, true, true, true] ?_
      exact hK132 h
    · replace h := it_f hc h
      refine Ak_aload_n 167 0 (d_M_parts 90 166 (.aload_n 0) 1 rfl) rfl rfl rfl ?_
      refine Ak_getF 170 78 hO clX13 (by decide) rfl lkF_M_249 (d_M_parts 91 167 (.getfield 249) 3 rfl) rfl ?_
      refine Ak_iload 172 (d_M_parts 92 170 (.iload 4) 2 rfl) rfl rfl ?_
      obtain ⟨ha2, h⟩ := gd_some h
      refine Ak_iaload 173 ha2 (d_M_parts 93 172 (.iaload) 1 rfl) rfl ?_
      refine Ak_iload_n 174 3 (d_M_parts 94 173 (.iload_n 3) 1 rfl) rfl rfl rfl ?_
      refine Ak_icmp_ne 229 177 (d_M_parts 95 174 (.if_icmp .ne 55) 3 rfl) rfl rfl (fun hc => ?_) (fun hc => ?_)
      · replace h := it_f hc h
        refine Ak_iinc 232 (d_M_parts 125 229 (.iinc 4 1) 3 rfl) rfl rfl (by decide) ?_
        refine Ak_goto 132 (d_M_parts 126 232 (.goto (-100)) 3 rfl) rfl ?_
        refine Ak_keep [true, true, true, true, true] ?_
        exact hK132 h
      · replace h := it_t hc h
        refine Ak_aload_n 178 0 (d_M_parts 96 177 (.aload_n 0) 1 rfl) rfl rfl rfl ?_
        refine Ak_getF 181 53 hO clX13 (by decide) rfl lkF_M_174 (d_M_parts 97 178 (.getfield 174) 3 rfl) rfl ?_
        refine Ak_iload 183 (d_M_parts 98 181 (.iload 5) 2 rfl) rfl rfl ?_
        obtain ⟨ha3, h⟩ := gd_some h
        refine Ak_iaload 184 ha3 (d_M_parts 99 183 (.iaload) 1 rfl) rfl ?_
        refine Ak_if_lt 223 187 (d_M_parts 100 184 (.ifCond .lt 39) 3 rfl) rfl rfl (fun hc => ?_) (fun hc => ?_)
        · replace h := it_t hc h
          refine Ak_iinc 226 (d_M_parts 123 223 (.iinc 5 1) 3 rfl) rfl rfl (by decide) ?_
          refine Ak_goto 148 (d_M_parts 124 226 (.goto (-78)) 3 rfl) rfl ?_
          refine Ak_keep [true, true, true, true, true, true] ?_
          exact ih h
        · replace h := it_f hc h
          refine Ak_aload_n 188 0 (d_M_parts 101 187 (.aload_n 0) 1 rfl) rfl rfl rfl ?_
          refine Ak_getF 191 78 hO clX13 (by decide) rfl lkF_M_249 (d_M_parts 102 188 (.getfield 249) 3 rfl) rfl ?_
          refine Ak_aload_n 192 0 (d_M_parts 103 191 (.aload_n 0) 1 rfl) rfl rfl rfl ?_
          refine Ak_getF 195 53 hO clX13 (by decide) rfl lkF_M_174 (d_M_parts 104 192 (.getfield 174) 3 rfl) rfl ?_
          refine Ak_iload 197 (d_M_parts 105 195 (.iload 5) 2 rfl) rfl rfl ?_
          refine Ak_iaload 198 ha3 (d_M_parts 106 197 (.iaload) 1 rfl) rfl ?_
          obtain ⟨ha4, h⟩ := gd_some h
          refine Ak_iaload 199 ha4 (d_M_parts 107 198 (.iaload) 1 rfl) rfl ?_
          refine Ak_iconst 200 (d_M_parts 108 199 (.iconst (-1)) 1 rfl) rfl (rk rfl) ?_
          refine Ak_icmp_eq 206 203 (d_M_parts 109 200 (.if_icmp .eq 6) 3 rfl) rfl rfl (fun hc => ?_) (fun hc => ?_)
          · replace h := it_t hc h
            refine Ak_aload_n 207 0 (d_M_parts 111 206 (.aload_n 0) 1 rfl) rfl rfl rfl ?_
            refine Ak_getF 210 78 hO clX13 (by decide) rfl lkF_M_249 (d_M_parts 112 207 (.getfield 249) 3 rfl) rfl ?_
            refine Ak_aload_n 211 0 (d_M_parts 113 210 (.aload_n 0) 1 rfl) rfl rfl rfl ?_
            refine Ak_getF 214 53 hO clX13 (by decide) rfl lkF_M_174 (d_M_parts 114 211 (.getfield 174) 3 rfl) rfl ?_
            refine Ak_iload 216 (d_M_parts 115 214 (.iload 5) 2 rfl) rfl rfl ?_
            refine Ak_iaload 217 ha3 (d_M_parts 116 216 (.iaload) 1 rfl) rfl ?_
            refine Ak_iload_n 218 3 (d_M_parts 117 217 (.iload_n 3) 1 rfl) rfl rfl rfl ?_
            refine Ak_iconst 219 (d_M_parts 118 218 (.iconst 1) 1 rfl) rfl (rk rfl) ?_
            refine Ak_iadd 220 (d_M_parts 119 219 (.iadd) 1 rfl) rfl ?_
            refine Ak_iastore 221 ha4 (d_M_parts 120 220 (.iastore) 1 rfl) rfl (fun V5 hV5 => ?_)
            replace h := wV_some h V5 hV5
            refine Ak_iconst 222 (d_M_parts 121 221 (.iconst 1) 1 rfl) rfl (rk rfl) ?_
            refine Ak_istore_n 223 2 (d_M_parts 122 222 (.istore_n 2) 1 rfl) rfl rfl (by decide) ?_
            refine Ak_iinc 226 (d_M_parts 123 223 (.iinc 5 1) 3 rfl) rfl rfl (by decide) ?_
            refine Ak_goto 148 (d_M_parts 124 226 (.goto (-78)) 3 rfl) rfl ?_
            refine Ak_keep [true, true, true, true, true, true] ?_
            exact ih h
          · replace h := it_f hc h
            refine Ak_goto 223 (d_M_parts 110 203 (.goto 20) 3 rfl) rfl ?_
            refine Ak_iinc 226 (d_M_parts 123 223 (.iinc 5 1) 3 rfl) rfl rfl (by decide) ?_
            refine Ak_goto 148 (d_M_parts 124 226 (.goto (-78)) 3 rfl) rfl ?_
            refine Ak_keep [true, true, true, true, true, true] ?_
            exact ih h
theorem t_M_parts_L132 {S : ASh} {K74 : ASt → Int → Int → Option (Int × ASt)} {x0 x1 x3 : Int} (hO : isO S x0 13 = true) (hK74 : ∀ {V : ASt} {y2 y3 : Int} {r : Int} {V' : ASt}, K74 V y2 y3 = some (r, V') → AWk m_M_parts 10 0 0 0 0 74 [some (aR x0), some (aI x1), some (aI y2), some (aI y3)] [] S V (some (aI r)) S V') : ∀ (n : Nat) (V : ASt) (x2 x4 : Int) (r : Int) (V' : ASt), b_M_parts_L132 S K74 x0 x1 x3 n V x2 x4 = some (r, V') → AWk m_M_parts 10 0 0 0 0 132 [some (aR x0), some (aI x1), some (aI x2), some (aI x3), some (aI x4)] [] S V (some (aI r)) S V' := by
  intro n
  induction n with
  | zero => intro V x2 x4 r V' h; cases h
  | succ n ih =>
    intro V x2 x4 r V' h
    replace ih : ∀ {V : ASt} {x2 x4 : Int} {r : Int} {V' : ASt}, b_M_parts_L132 S K74 x0 x1 x3 n V x2 x4 = some (r, V') → AWk m_M_parts 10 0 0 0 0 132 [some (aR x0), some (aI x1), some (aI x2), some (aI x3), some (aI x4)] [] S V (some (aI r)) S V' := fun h => ih _ _ _ _ _ h
    rw [b_M_parts_L132] at h
    refine Ak_iload 134 (d_M_parts 72 132 (.iload 4) 2 rfl) rfl rfl ?_
    refine Ak_aload_n 135 0 (d_M_parts 73 134 (.aload_n 0) 1 rfl) rfl rfl rfl ?_
    obtain ⟨r6, V7, h8, h⟩ := bnd_some h
    refine Ak_cV1 138 3 (c_M_positions h8) rfl hO clX13 rfl mok_M_positions lkM_M_451 (d_M_parts 74 135 (.invokevirtual 451) 3 rfl) rfl (by decide) (Nat.le_of_ble_eq_true rfl) ?_
    refine Ak_icmp_ge 235 141 (d_M_parts 75 138 (.if_icmp .ge 97) 3 rfl) rfl rfl (fun hc => ?_) (fun hc => ?_)
    · replace h := it_t hc h
      refine Ak_iinc 238 (d_M_parts 127 235 (.iinc 3 1) 3 rfl) rfl rfl (by decide) ?_
      refine Ak_goto 74 (d_M_parts 128 238 (.goto (-164)) 3 rfl) rfl ?_
      refine Ak_keep [true, true, true, true] ?_
      exact hK74 h
    · replace h := it_f hc h
      refine Ak_bipush 143 (d_M_parts 76 141 (.bipush 20) 2 rfl) rfl (bp_ok rfl) (rk rfl) ?_
      refine Ak_iload 145 (d_M_parts 77 143 (.iload 4) 2 rfl) rfl rfl ?_
      refine Ak_imul 146 (d_M_parts 78 145 (.imul) 1 rfl) rfl ?_
      refine Ak_istore 148 (d_M_parts 79 146 (.istore 5) 2 rfl) rfl (by decide) ?_
      refine Ak_keep [true, true, true, true, true, true] ?_
      exact t_M_parts_L148 hO (fun h => hK74 h) (fun h => ih h) FU _ _ _ _ _ h
theorem t_M_parts_L83 {S : ASh} {K74 : ASt → Int → Int → Option (Int × ASt)} {x0 x1 x2 x3 : Int} (hO : isO S x0 13 = true) (hK74 : ∀ {V : ASt} {y2 y3 : Int} {r : Int} {V' : ASt}, K74 V y2 y3 = some (r, V') → AWk m_M_parts 10 0 0 0 0 74 [some (aR x0), some (aI x1), some (aI y2), some (aI y3)] [] S V (some (aI r)) S V') : ∀ (n : Nat) (V : ASt) (x4 : Int) (r : Int) (V' : ASt), b_M_parts_L83 S K74 x0 x1 x2 x3 n V x4 = some (r, V') → AWk m_M_parts 10 0 0 0 0 83 [some (aR x0), some (aI x1), some (aI x2), some (aI x3), some (aI x4)] [] S V (some (aI r)) S V' := by
  intro n
  induction n with
  | zero => intro V x4 r V' h; cases h
  | succ n ih =>
    intro V x4 r V' h
    replace ih : ∀ {V : ASt} {x4 : Int} {r : Int} {V' : ASt}, b_M_parts_L83 S K74 x0 x1 x2 x3 n V x4 = some (r, V') → AWk m_M_parts 10 0 0 0 0 83 [some (aR x0), some (aI x1), some (aI x2), some (aI x3), some (aI x4)] [] S V (some (aI r)) S V' := fun h => ih _ _ _ _ h
    rw [b_M_parts_L83] at h
    refine Ak_iload 85 (d_M_parts 48 83 (.iload 4) 2 rfl) rfl rfl ?_
    refine Ak_aload_n 86 0 (d_M_parts 49 85 (.aload_n 0) 1 rfl) rfl rfl rfl ?_
    obtain ⟨r9, V10, h11, h⟩ := bnd_some h
    refine Ak_cV1 89 3 (c_M_positions h11) rfl hO clX13 rfl mok_M_positions lkM_M_451 (d_M_parts 50 86 (.invokevirtual 451) 3 rfl) rfl (by decide) (Nat.le_of_ble_eq_true rfl) ?_
    refine Ak_icmp_ge 129 92 (d_M_parts 51 89 (.if_icmp .ge 40) 3 rfl) rfl rfl (fun hc => ?_) (fun hc => ?_)
    · replace h := it_t hc h
      refine Ak_iconst 130 (d_M_parts 70 129 (.iconst 0) 1 rfl) rfl (rk rfl) ?_
      refine Ak_istore 132 (d_M_parts 71 130 (.istore 4) 2 rfl) rfl (by decide) ?_
      refine Ak_keep [true, true, true, true, true] ?_
      exact t_M_parts_L132 hO (fun h => hK74 h) FU _ _ _ _ _ h
    · replace h := it_f hc h
      refine Ak_aload_n 93 0 (d_M_parts 52 92 (.aload_n 0) 1 rfl) rfl rfl rfl ?_
      refine Ak_getF 96 78 hO clX13 (by decide) rfl lkF_M_249 (d_M_parts 53 93 (.getfield 249) 3 rfl) rfl ?_
      refine Ak_iload 98 (d_M_parts 54 96 (.iload 4) 2 rfl) rfl rfl ?_
      obtain ⟨ha12, h⟩ := gd_some h
      refine Ak_iaload 99 ha12 (d_M_parts 55 98 (.iaload) 1 rfl) rfl ?_
      refine Ak_iload_n 100 3 (d_M_parts 56 99 (.iload_n 3) 1 rfl) rfl rfl rfl ?_
      refine Ak_icmp_ne 123 103 (d_M_parts 57 100 (.if_icmp .ne 23) 3 rfl) rfl rfl (fun hc => ?_) (fun hc => ?_)
      · replace h := it_f hc h
        refine Ak_iinc 126 (d_M_parts 68 123 (.iinc 4 1) 3 rfl) rfl rfl (by decide) ?_
        refine Ak_goto 83 (d_M_parts 69 126 (.goto (-43)) 3 rfl) rfl ?_
        refine Ak_keep [true, true, true, true, true] ?_
        exact ih h
      · replace h := it_t hc h
        refine Ak_aload_n 104 0 (d_M_parts 58 103 (.aload_n 0) 1 rfl) rfl rfl rfl ?_
        refine Ak_iload 106 (d_M_parts 59 104 (.iload 4) 2 rfl) rfl rfl ?_
        obtain ⟨r13, V14, h15, h⟩ := bnd_some h
        refine Ak_cV1 109 2 (c_M_differs h15) rfl hO clX13 rfl mok_M_differs lkM_M_567 (d_M_parts 60 106 (.invokevirtual 567) 3 rfl) rfl (by decide) (Nat.le_of_ble_eq_true rfl) ?_
        refine Ak_if_eq 123 112 (d_M_parts 61 109 (.ifCond .eq 14) 3 rfl) rfl rfl (fun hc => ?_) (fun hc => ?_)
        · replace h := it_t hc h
          refine Ak_iinc 126 (d_M_parts 68 123 (.iinc 4 1) 3 rfl) rfl rfl (by decide) ?_
          refine Ak_goto 83 (d_M_parts 69 126 (.goto (-43)) 3 rfl) rfl ?_
          refine Ak_keep [true, true, true, true, true] ?_
          exact ih h
        · replace h := it_f hc h
          refine Ak_iload_n 113 1 (d_M_parts 62 112 (.iload_n 1) 1 rfl) rfl rfl rfl ?_
          refine Ak_if_ne 120 116 (d_M_parts 63 113 (.ifCond .ne 7) 3 rfl) rfl rfl (fun hc => ?_) (fun hc => ?_)
          · replace h := it_f hc h
            refine Ak_iload 122 (d_M_parts 66 120 (.iload 4) 2 rfl) rfl rfl ?_
            cases h
            exact Ak_iret rfl (d_M_parts 67 122 (.ireturn) 1 rfl)
          · replace h := it_t hc h
            refine Ak_iload_n 117 3 (d_M_parts 64 116 (.iload_n 3) 1 rfl) rfl rfl rfl ?_
            refine Ak_goto 122 (d_M_parts 65 117 (.goto 5) 3 rfl) rfl ?_
            cases h
            exact Ak_iret rfl (d_M_parts 67 122 (.ireturn) 1 rfl)
theorem t_M_parts_L74 {S : ASh} {x0 x1 : Int} (hO : isO S x0 13 = true) : ∀ (n : Nat) (V : ASt) (x2 x3 : Int) (r : Int) (V' : ASt), b_M_parts_L74 S x0 x1 n V x2 x3 = some (r, V') → AWk m_M_parts 10 0 0 0 0 74 [some (aR x0), some (aI x1), some (aI x2), some (aI x3)] [] S V (some (aI r)) S V' := by
  intro n
  induction n with
  | zero => intro V x2 x3 r V' h; cases h
  | succ n ih =>
    intro V x2 x3 r V' h
    replace ih : ∀ {V : ASt} {x2 x3 : Int} {r : Int} {V' : ASt}, b_M_parts_L74 S x0 x1 n V x2 x3 = some (r, V') → AWk m_M_parts 10 0 0 0 0 74 [some (aR x0), some (aI x1), some (aI x2), some (aI x3)] [] S V (some (aI r)) S V' := fun h => ih _ _ _ _ _ h
    rw [b_M_parts_L74] at h
    refine Ak_iload_n 75 2 (d_M_parts 42 74 (.iload_n 2) 1 rfl) rfl rfl rfl ?_
    refine Ak_if_eq 241 78 (d_M_parts 43 75 (.ifCond .eq 166) 3 rfl) rfl rfl (fun hc => ?_) (fun hc => ?_)
    · replace h := it_t hc h
      refine Ak_iconst 242 (d_M_parts 129 241 (.iconst (-1)) 1 rfl) rfl (rk rfl) ?_
      cases h
      exact Ak_iret rfl (d_M_parts 130 242 (.ireturn) 1 rfl)
    · replace h := it_f hc h
      refine Ak_iconst 79 (d_M_parts 44 78 (.iconst 0) 1 rfl) rfl (rk rfl) ?_
      refine Ak_istore_n 80 2 (d_M_parts 45 79 (.istore_n 2) 1 rfl) rfl rfl (by decide) ?_
      refine Ak_iconst 81 (d_M_parts 46 80 (.iconst 0) 1 rfl) rfl (rk rfl) ?_
      refine Ak_istore 83 (d_M_parts 47 81 (.istore 4) 2 rfl) rfl (by decide) ?_
      refine Ak_keep [true, true, true, true, true] ?_
      exact t_M_parts_L83 hO (fun h => ih h) FU _ _ _ _ h
theorem t_M_parts_L36 {S : ASh} {x0 x1 : Int} (hO : isO S x0 13 = true) : ∀ (n : Nat) (V : ASt) (x2 : Int) (r : Int) (V' : ASt), b_M_parts_L36 S x0 x1 n V x2 = some (r, V') → AWk m_M_parts 10 0 0 0 0 36 [some (aR x0), some (aI x1), some (aI x2)] [] S V (some (aI r)) S V' := by
  intro n
  induction n with
  | zero => intro V x2 r V' h; cases h
  | succ n ih =>
    intro V x2 r V' h
    replace ih : ∀ {V : ASt} {x2 : Int} {r : Int} {V' : ASt}, b_M_parts_L36 S x0 x1 n V x2 = some (r, V') → AWk m_M_parts 10 0 0 0 0 36 [some (aR x0), some (aI x1), some (aI x2)] [] S V (some (aI r)) S V' := fun h => ih _ _ _ _ h
    rw [b_M_parts_L36] at h
    refine Ak_iload_n 37 2 (d_M_parts 20 36 (.iload_n 2) 1 rfl) rfl rfl rfl ?_
    refine Ak_sipush 40 (d_M_parts 21 37 (.sipush 200) 3 rfl) rfl (sp_ok rfl) (rk rfl) ?_
    refine Ak_icmp_ge 56 43 (d_M_parts 22 40 (.if_icmp .ge 16) 3 rfl) rfl rfl (fun hc => ?_) (fun hc => ?_)
    · replace h := it_t hc h
      refine Ak_aload_n 57 0 (d_M_parts 30 56 (.aload_n 0) 1 rfl) rfl rfl rfl ?_
      refine Ak_getF 60 78 hO clX13 (by decide) rfl lkF_M_249 (d_M_parts 31 57 (.getfield 249) 3 rfl) rfl ?_
      refine Ak_aload_n 61 0 (d_M_parts 32 60 (.aload_n 0) 1 rfl) rfl rfl rfl ?_
      refine Ak_aload_n 62 0 (d_M_parts 33 61 (.aload_n 0) 1 rfl) rfl rfl rfl ?_
      refine Ak_getI 65 48 hO clX13 (by decide) (Or.inl rfl) lkF_M_159 (d_M_parts 34 62 (.getfield 159) 3 rfl) rfl ?_
      obtain ⟨r16, V17, h18, h⟩ := bnd_some h
      refine Ak_cV1 68 3 (c_M_beginning h18) rfl hO clX13 rfl mok_M_beginning lkM_M_512 (d_M_parts 35 65 (.invokevirtual 512) 3 rfl) rfl (by decide) (Nat.le_of_ble_eq_true rfl) ?_
      refine Ak_iconst 69 (d_M_parts 36 68 (.iconst 0) 1 rfl) rfl (rk rfl) ?_
      obtain ⟨ha19, h⟩ := gd_some h
      refine Ak_iastore 70 ha19 (d_M_parts 37 69 (.iastore) 1 rfl) rfl (fun V20 hV20 => ?_)
      replace h := wV_some h V20 hV20
      refine Ak_iconst 71 (d_M_parts 38 70 (.iconst 1) 1 rfl) rfl (rk rfl) ?_
      refine Ak_istore_n 72 2 (d_M_parts 39 71 (.istore_n 2) 1 rfl) rfl rfl (by decide) ?_
      refine Ak_iconst 73 (d_M_parts 40 72 (.iconst 0) 1 rfl) rfl (rk rfl) ?_
      refine Ak_istore_n 74 3 (d_M_parts 41 73 (.istore_n 3) 1 rfl) rfl rfl (by decide) ?_
      refine Ak_keep [true, true, true, true] ?_
      exact t_M_parts_L74 hO FU _ _ _ _ _ h
    · replace h := it_f hc h
      refine Ak_aload_n 44 0 (d_M_parts 23 43 (.aload_n 0) 1 rfl) rfl rfl rfl ?_
      refine Ak_getF 47 78 hO clX13 (by decide) rfl lkF_M_249 (d_M_parts 24 44 (.getfield 249) 3 rfl) rfl ?_
      refine Ak_iload_n 48 2 (d_M_parts 25 47 (.iload_n 2) 1 rfl) rfl rfl rfl ?_
      refine Ak_iconst 49 (d_M_parts 26 48 (.iconst (-1)) 1 rfl) rfl (rk rfl) ?_
      obtain ⟨ha21, h⟩ := gd_some h
      refine Ak_iastore 50 ha21 (d_M_parts 27 49 (.iastore) 1 rfl) rfl (fun V22 hV22 => ?_)
      replace h := wV_some h V22 hV22
      refine Ak_iinc 53 (d_M_parts 28 50 (.iinc 2 1) 3 rfl) rfl rfl (by decide) ?_
      refine Ak_goto 36 (d_M_parts 29 53 (.goto (-17)) 3 rfl) rfl ?_
      refine Ak_keep [true, true, true] ?_
      exact ih h
theorem c_M_parts {S : ASh} {V : ASt} {x0 x1 : Int} {r : Int} {V' : ASt} (h : f_M_parts S V x0 x1 = some (r, V')) : ACt m_M_parts 10 0 0 [(aR x0), (aI x1)] S V (some (aI r)) S V' := by
  unfold f_M_parts at h
  obtain ⟨hO, h⟩ := gd_some h
  refine ACt_of (plainFor_of_name rfl) rfl (Nat.le_of_ble_eq_true rfl) ?_
  show AWk m_M_parts 10 0 0 0 0 0 [some (aR x0), some (aI x1)] [] S V (some (aI r)) S V'
  refine Ak_aload_n 1 0 (d_M_parts 0 0 (.aload_n 0) 1 rfl) rfl rfl rfl ?_
  obtain ⟨r23, V24, h25, h⟩ := bnd_some h
  refine Ak_cV1 4 2 (c_M_hasFields h25) rfl hO clX13 rfl mok_M_hasFields lkM_M_448 (d_M_parts 1 1 (.invokevirtual 448) 3 rfl) rfl (by decide) (Nat.le_of_ble_eq_true rfl) ?_
  refine Ak_if_eq 23 7 (d_M_parts 2 4 (.ifCond .eq 19) 3 rfl) rfl rfl (fun hc => ?_) (fun hc => ?_)
  · replace h := it_t hc h
    refine Ak_iconst 24 (d_M_parts 11 23 (.iconst (-1)) 1 rfl) rfl (rk rfl) ?_
    cases h
    exact Ak_iret rfl (d_M_parts 12 24 (.ireturn) 1 rfl)
  · replace h := it_f hc h
    refine Ak_aload_n 8 0 (d_M_parts 3 7 (.aload_n 0) 1 rfl) rfl rfl rfl ?_
    refine Ak_getI 11 72 hO clX13 (by decide) (Or.inr rfl) lkF_M_231 (d_M_parts 4 8 (.getfield 231) 3 rfl) rfl ?_
    refine Ak_if_eq 23 14 (d_M_parts 5 11 (.ifCond .eq 12) 3 rfl) rfl rfl (fun hc => ?_) (fun hc => ?_)
    · replace h := it_t hc h
      refine Ak_iconst 24 (d_M_parts 11 23 (.iconst (-1)) 1 rfl) rfl (rk rfl) ?_
      cases h
      exact Ak_iret rfl (d_M_parts 12 24 (.ireturn) 1 rfl)
    · replace h := it_f hc h
      refine Ak_iload_n 15 1 (d_M_parts 6 14 (.iload_n 1) 1 rfl) rfl rfl rfl ?_
      refine Ak_iconst 16 (d_M_parts 7 15 (.iconst 0) 1 rfl) rfl (rk rfl) ?_
      refine Ak_iconst 17 (d_M_parts 8 16 (.iconst 1) 1 rfl) rfl (rk rfl) ?_
      obtain ⟨r26, V27, h28, h⟩ := bnd_some h
      refine Ak_cS1 20 2 (c_M_is h28) rfl mok_M_is lkM_M_329 (d_M_parts 9 17 (.invokestatic 329) 3 rfl) rfl (by decide) (Nat.le_of_ble_eq_true rfl) ?_
      refine Ak_if_ne 25 23 (d_M_parts 10 20 (.ifCond .ne 5) 3 rfl) rfl rfl (fun hc => ?_) (fun hc => ?_)
      · replace h := it_f hc h
        refine Ak_aload_n 26 0 (d_M_parts 13 25 (.aload_n 0) 1 rfl) rfl rfl rfl ?_
        obtain ⟨r29, V30, h31, h⟩ := bnd_some h
        refine Ak_cV0 29 9 (c_M_laysSpring h31) rfl hO clX13 rfl mok_M_laysSpring lkM_M_564 (d_M_parts 14 26 (.invokevirtual 564) 3 rfl) rfl (by decide) (Nat.le_of_ble_eq_true rfl) ?_
        refine Ak_aload_n 30 0 (d_M_parts 15 29 (.aload_n 0) 1 rfl) rfl rfl rfl ?_
        refine Ak_iconst 31 (d_M_parts 16 30 (.iconst (-1)) 1 rfl) rfl (rk rfl) ?_
        obtain ⟨r32, V33, h34, h⟩ := bnd_some h
        refine Ak_cV0 34 8 (c_M_lays h34) rfl hO clX13 rfl mok_M_lays lkM_M_496 (d_M_parts 17 31 (.invokevirtual 496) 3 rfl) rfl (by decide) (Nat.le_of_ble_eq_true rfl) ?_
        refine Ak_iconst 35 (d_M_parts 18 34 (.iconst 0) 1 rfl) rfl (rk rfl) ?_
        refine Ak_istore_n 36 2 (d_M_parts 19 35 (.istore_n 2) 1 rfl) rfl rfl (by decide) ?_
        refine Ak_keep [true, true, true] ?_
        exact t_M_parts_L36 hO FU _ _ _ _ h
      · replace h := it_t hc h
        refine Ak_iconst 24 (d_M_parts 11 23 (.iconst (-1)) 1 rfl) rfl (rk rfl) ?_
        cases h
        exact Ak_iret rfl (d_M_parts 12 24 (.ireturn) 1 rfl)
theorem c_M_writes {S : ASh} {V : ASt} {x0 x1 : Int} {r : Int} {V' : ASt} (h : f_M_writes S V x0 x1 = some (r, V')) : ACt m_M_writes 2 0 0 [(aR x0), (aI x1)] S V none S V' := by
  unfold f_M_writes at h
  obtain ⟨hO, h⟩ := gd_some h
  refine ACt_of (plainFor_of_name rfl) rfl (Nat.le_of_ble_eq_true rfl) ?_
  show AWk m_M_writes 2 0 0 0 0 0 [some (aR x0), some (aI x1)] [] S V none S V'
  refine Ak_aload_n 1 0 (d_M_writes 0 0 (.aload_n 0) 1 rfl) rfl rfl rfl ?_
  refine Ak_getF 4 79 hO clX13 (by decide) rfl lkF_M_252 (d_M_writes 1 1 (.getfield 252) 3 rfl) rfl ?_
  refine Ak_aload_n 5 0 (d_M_writes 2 4 (.aload_n 0) 1 rfl) rfl rfl rfl ?_
  refine Ak_getI 8 80 hO clX13 (by decide) (Or.inl rfl) lkF_M_255 (d_M_writes 3 5 (.getfield 255) 3 rfl) rfl ?_
  refine Ak_iload_n 9 1 (d_M_writes 4 8 (.iload_n 1) 1 rfl) rfl rfl rfl ?_
  refine Ak_sipush 12 (d_M_writes 5 9 (.sipush 255) 3 rfl) rfl (sp_ok rfl) (rk rfl) ?_
  refine Ak_iand 13 (d_M_writes 6 12 (.iand) 1 rfl) rfl ?_
  obtain ⟨ha1, h⟩ := gd_some h
  refine Ak_iastore 14 ha1 (d_M_writes 7 13 (.iastore) 1 rfl) rfl (fun V2 hV2 => ?_)
  replace h := wV_some h V2 hV2
  refine Ak_aload_n 15 0 (d_M_writes 8 14 (.aload_n 0) 1 rfl) rfl rfl rfl ?_
  refine Ak_dup 16 (d_M_writes 9 15 (.dup) 1 rfl) rfl rfl ?_
  refine Ak_getI 19 80 hO clX13 (by decide) (Or.inl rfl) lkF_M_255 (d_M_writes 10 16 (.getfield 255) 3 rfl) rfl ?_
  refine Ak_iconst 20 (d_M_writes 11 19 (.iconst 1) 1 rfl) rfl (rk rfl) ?_
  refine Ak_iadd 21 (d_M_writes 12 20 (.iadd) 1 rfl) rfl ?_
  refine Ak_putI 24 80 hO clX13 (by decide) rfl rfl rfl lkF_M_255 (d_M_writes 13 21 (.putfield 255) 3 rfl) rfl (fun V3 hV3 => ?_)
  replace h := wV_some h V3 hV3
  cases h
  exact Ak_vret rfl (d_M_writes 14 24 (.return_) 1 rfl)
theorem t_M_image_J64 {S : ASh} {K15 : ASt → Int → Option (Int × ASt)} {V : ASt} {x0 x1 x2 s0 s1 s2 : Int} {r : Int} {V' : ASt} (hO : isO S x0 13 = true) (hK15 : ∀ {V : ASt} {y1 : Int} {r : Int} {V' : ASt}, K15 V y1 = some (r, V') → AWk m_M_image 3 0 0 0 0 15 [some (aR x0), some (aI y1)] [] S V (some (aI r)) S V') (h : b_M_image_J64 S K15 V x0 x1 x2 s0 s1 s2 = some (r, V')) : AWk m_M_image 3 0 0 0 0 64 [some (aR x0), some (aI x1), some (aI x2)] [(aI s2), (aI s1), (aR s0)] S V (some (aI r)) S V' := by
  unfold b_M_image_J64 at h
  refine Ak_iadd 65 (d_M_image 38 64 (.iadd) 1 rfl) rfl ?_
  obtain ⟨hg4, h⟩ := gd_some h
  obtain ⟨r1, V2, h3, h⟩ := bnd_some h
  refine Ak_cV0 68 2 (c_M_writes h3) rfl hg4 clX13 rfl mok_M_writes lkM_M_570 (d_M_image 39 65 (.invokevirtual 570) 3 rfl) rfl (by decide) (Nat.le_of_ble_eq_true rfl) ?_
  refine Ak_aload_n 69 0 (d_M_image 40 68 (.aload_n 0) 1 rfl) rfl rfl rfl ?_
  refine Ak_aload_n 70 0 (d_M_image 41 69 (.aload_n 0) 1 rfl) rfl rfl rfl ?_
  refine Ak_getF 73 47 hO clX13 (by decide) rfl lkF_M_156 (d_M_image 42 70 (.getfield 156) 3 rfl) rfl ?_
  refine Ak_iload_n 74 2 (d_M_image 43 73 (.iload_n 2) 1 rfl) rfl rfl rfl ?_
  obtain ⟨ha5, h⟩ := gd_some h
  refine Ak_iaload 75 ha5 (d_M_image 44 74 (.iaload) 1 rfl) rfl ?_
  obtain ⟨r6, V7, h8, h⟩ := bnd_some h
  refine Ak_cV0 78 2 (c_M_writes h8) rfl hO clX13 rfl mok_M_writes lkM_M_570 (d_M_image 45 75 (.invokevirtual 570) 3 rfl) rfl (by decide) (Nat.le_of_ble_eq_true rfl) ?_
  refine Ak_iinc 81 (d_M_image 46 78 (.iinc 1 1) 3 rfl) rfl rfl (by decide) ?_
  refine Ak_goto 15 (d_M_image 47 81 (.goto (-66)) 3 rfl) rfl ?_
  refine Ak_keep [true, true] ?_
  exact hK15 h
theorem t_M_image_J50 {S : ASh} {K15 : ASt → Int → Option (Int × ASt)} {V : ASt} {x0 x1 x2 s0 s1 : Int} {r : Int} {V' : ASt} (hO : isO S x0 13 = true) (hK15 : ∀ {V : ASt} {y1 : Int} {r : Int} {V' : ASt}, K15 V y1 = some (r, V') → AWk m_M_image 3 0 0 0 0 15 [some (aR x0), some (aI y1)] [] S V (some (aI r)) S V') (h : b_M_image_J50 S K15 V x0 x1 x2 s0 s1 = some (r, V')) : AWk m_M_image 3 0 0 0 0 50 [some (aR x0), some (aI x1), some (aI x2)] [(aI s1), (aR s0)] S V (some (aI r)) S V' := by
  unfold b_M_image_J50 at h
  refine Ak_aload_n 51 0 (d_M_image 30 50 (.aload_n 0) 1 rfl) rfl rfl rfl ?_
  refine Ak_getF 54 46 hO clX13 (by decide) rfl lkF_M_153 (d_M_image 31 51 (.getfield 153) 3 rfl) rfl ?_
  refine Ak_iload_n 55 2 (d_M_image 32 54 (.iload_n 2) 1 rfl) rfl rfl rfl ?_
  obtain ⟨ha9, h⟩ := gd_some h
  refine Ak_baload 56 ha9 (d_M_image 33 55 (.baload) 1 rfl) rfl ?_
  refine Ak_if_eq 63 59 (d_M_image 34 56 (.ifCond .eq 7) 3 rfl) rfl rfl (fun hc => ?_) (fun hc => ?_)
  · replace h := it_t hc h
    refine Ak_iconst 64 (d_M_image 37 63 (.iconst 0) 1 rfl) rfl (rk rfl) ?_
    refine Ak_keep [true, true, true] ?_
    exact t_M_image_J64 hO (fun h => hK15 h) h
  · replace h := it_f hc h
    refine Ak_iconst 60 (d_M_image 35 59 (.iconst 2) 1 rfl) rfl (rk rfl) ?_
    refine Ak_goto 64 (d_M_image 36 60 (.goto 4) 3 rfl) rfl ?_
    refine Ak_keep [true, true, true] ?_
    exact t_M_image_J64 hO (fun h => hK15 h) h
theorem t_M_image_L148 {S : ASh} {x0 : Int} (hO : isO S x0 13 = true) : ∀ (n : Nat) (V : ASt) (x1 x2 : Int) (r : Int) (V' : ASt), b_M_image_L148 S x0 n V x1 x2 = some (r, V') → AWk m_M_image 3 0 0 0 0 148 [some (aR x0), some (aI x1), some (aI x2)] [] S V (some (aI r)) S V' := by
  intro n
  induction n with
  | zero => intro V x1 x2 r V' h; cases h
  | succ n ih =>
    intro V x1 x2 r V' h
    replace ih : ∀ {V : ASt} {x1 x2 : Int} {r : Int} {V' : ASt}, b_M_image_L148 S x0 n V x1 x2 = some (r, V') → AWk m_M_image 3 0 0 0 0 148 [some (aR x0), some (aI x1), some (aI x2)] [] S V (some (aI r)) S V' := fun h => ih _ _ _ _ _ h
    rw [b_M_image_L148] at h
    refine Ak_iload_n 149 2 (d_M_image 86 148 (.iload_n 2) 1 rfl) rfl rfl rfl ?_
    refine Ak_aload_n 150 0 (d_M_image 87 149 (.aload_n 0) 1 rfl) rfl rfl rfl ?_
    refine Ak_getI 153 80 hO clX13 (by decide) (Or.inl rfl) lkF_M_255 (d_M_image 88 150 (.getfield 255) 3 rfl) rfl ?_
    refine Ak_icmp_ge 178 156 (d_M_image 89 153 (.if_icmp .ge 25) 3 rfl) rfl rfl (fun hc => ?_) (fun hc => ?_)
    · replace h := it_t hc h
      refine Ak_aload_n 179 0 (d_M_image 103 178 (.aload_n 0) 1 rfl) rfl rfl rfl ?_
      refine Ak_iload_n 180 1 (d_M_image 104 179 (.iload_n 1) 1 rfl) rfl rfl rfl ?_
      obtain ⟨r10, V11, h12, h⟩ := bnd_some h
      refine Ak_cV0 183 2 (c_M_writes h12) rfl hO clX13 rfl mok_M_writes lkM_M_570 (d_M_image 105 180 (.invokevirtual 570) 3 rfl) rfl (by decide) (Nat.le_of_ble_eq_true rfl) ?_
      refine Ak_aload_n 184 0 (d_M_image 106 183 (.aload_n 0) 1 rfl) rfl rfl rfl ?_
      refine Ak_getI 187 80 hO clX13 (by decide) (Or.inl rfl) lkF_M_255 (d_M_image 107 184 (.getfield 255) 3 rfl) rfl ?_
      cases h
      exact Ak_iret rfl (d_M_image 108 187 (.ireturn) 1 rfl)
    · replace h := it_f hc h
      refine Ak_bipush 158 (d_M_image 90 156 (.bipush 7) 2 rfl) rfl (bp_ok rfl) (rk rfl) ?_
      refine Ak_iload_n 159 1 (d_M_image 91 158 (.iload_n 1) 1 rfl) rfl rfl rfl ?_
      refine Ak_imul 160 (d_M_image 92 159 (.imul) 1 rfl) rfl ?_
      refine Ak_aload_n 161 0 (d_M_image 93 160 (.aload_n 0) 1 rfl) rfl rfl rfl ?_
      refine Ak_getF 164 79 hO clX13 (by decide) rfl lkF_M_252 (d_M_image 94 161 (.getfield 252) 3 rfl) rfl ?_
      refine Ak_iload_n 165 2 (d_M_image 95 164 (.iload_n 2) 1 rfl) rfl rfl rfl ?_
      obtain ⟨ha13, h⟩ := gd_some h
      refine Ak_iaload 166 ha13 (d_M_image 96 165 (.iaload) 1 rfl) rfl ?_
      refine Ak_iadd 167 (d_M_image 97 166 (.iadd) 1 rfl) rfl ?_
      refine Ak_sipush 170 (d_M_image 98 167 (.sipush 223) 3 rfl) rfl (sp_ok rfl) (rk rfl) ?_
      refine Ak_irem 171 (d_M_image 99 170 (.irem) 1 rfl) rfl (by decide) ?_
      refine Ak_istore_n 172 1 (d_M_image 100 171 (.istore_n 1) 1 rfl) rfl rfl (by decide) ?_
      refine Ak_iinc 175 (d_M_image 101 172 (.iinc 2 1) 3 rfl) rfl rfl (by decide) ?_
      refine Ak_goto 148 (d_M_image 102 175 (.goto (-27)) 3 rfl) rfl ?_
      refine Ak_keep [true, true, true] ?_
      exact ih h
theorem t_M_image_L15 {S : ASh} {x0 : Int} (hO : isO S x0 13 = true) : ∀ (n : Nat) (V : ASt) (x1 : Int) (r : Int) (V' : ASt), b_M_image_L15 S x0 n V x1 = some (r, V') → AWk m_M_image 3 0 0 0 0 15 [some (aR x0), some (aI x1)] [] S V (some (aI r)) S V' := by
  intro n
  induction n with
  | zero => intro V x1 r V' h; cases h
  | succ n ih =>
    intro V x1 r V' h
    replace ih : ∀ {V : ASt} {x1 : Int} {r : Int} {V' : ASt}, b_M_image_L15 S x0 n V x1 = some (r, V') → AWk m_M_image 3 0 0 0 0 15 [some (aR x0), some (aI x1)] [] S V (some (aI r)) S V' := fun h => ih _ _ _ _ h
    rw [b_M_image_L15] at h
    refine Ak_iload_n 16 1 (d_M_image 9 15 (.iload_n 1) 1 rfl) rfl rfl rfl ?_
    refine Ak_aload_n 17 0 (d_M_image 10 16 (.aload_n 0) 1 rfl) rfl rfl rfl ?_
    obtain ⟨r14, V15, h16, h⟩ := bnd_some h
    refine Ak_cV1 20 2 (c_M_rulesAll h16) rfl hO clX13 rfl mok_M_rulesAll lkM_M_436 (d_M_image 11 17 (.invokevirtual 436) 3 rfl) rfl (by decide) (Nat.le_of_ble_eq_true rfl) ?_
    refine Ak_icmp_ge 84 23 (d_M_image 12 20 (.if_icmp .ge 64) 3 rfl) rfl rfl (fun hc => ?_) (fun hc => ?_)
    · replace h := it_t hc h
      refine Ak_aload_n 85 0 (d_M_image 48 84 (.aload_n 0) 1 rfl) rfl rfl rfl ?_
      refine Ak_aload_n 86 0 (d_M_image 49 85 (.aload_n 0) 1 rfl) rfl rfl rfl ?_
      refine Ak_getI 89 48 hO clX13 (by decide) (Or.inl rfl) lkF_M_159 (d_M_image 50 86 (.getfield 159) 3 rfl) rfl ?_
      refine Ak_bipush 91 (d_M_image 51 89 (.bipush 8) 2 rfl) rfl (bp_ok rfl) (rk rfl) ?_
      refine Ak_ishr 92 (d_M_image 52 91 (.ishr) 1 rfl) rfl ?_
      obtain ⟨r17, V18, h19, h⟩ := bnd_some h
      refine Ak_cV0 95 2 (c_M_writes h19) rfl hO clX13 rfl mok_M_writes lkM_M_570 (d_M_image 53 92 (.invokevirtual 570) 3 rfl) rfl (by decide) (Nat.le_of_ble_eq_true rfl) ?_
      refine Ak_aload_n 96 0 (d_M_image 54 95 (.aload_n 0) 1 rfl) rfl rfl rfl ?_
      refine Ak_aload_n 97 0 (d_M_image 55 96 (.aload_n 0) 1 rfl) rfl rfl rfl ?_
      refine Ak_getI 100 48 hO clX13 (by decide) (Or.inl rfl) lkF_M_159 (d_M_image 56 97 (.getfield 159) 3 rfl) rfl ?_
      obtain ⟨r20, V21, h22, h⟩ := bnd_some h
      refine Ak_cV0 103 2 (c_M_writes h22) rfl hO clX13 rfl mok_M_writes lkM_M_570 (d_M_image 57 100 (.invokevirtual 570) 3 rfl) rfl (by decide) (Nat.le_of_ble_eq_true rfl) ?_
      refine Ak_aload_n 104 0 (d_M_image 58 103 (.aload_n 0) 1 rfl) rfl rfl rfl ?_
      refine Ak_aload_n 105 0 (d_M_image 59 104 (.aload_n 0) 1 rfl) rfl rfl rfl ?_
      refine Ak_getF 108 49 hO clX13 (by decide) rfl lkF_M_162 (d_M_image 60 105 (.getfield 162) 3 rfl) rfl ?_
      refine Ak_iconst 109 (d_M_image 61 108 (.iconst 0) 1 rfl) rfl (rk rfl) ?_
      obtain ⟨ha23, h⟩ := gd_some h
      refine Ak_iaload 110 ha23 (d_M_image 62 109 (.iaload) 1 rfl) rfl ?_
      obtain ⟨r24, V25, h26, h⟩ := bnd_some h
      refine Ak_cV0 113 2 (c_M_writes h26) rfl hO clX13 rfl mok_M_writes lkM_M_570 (d_M_image 63 110 (.invokevirtual 570) 3 rfl) rfl (by decide) (Nat.le_of_ble_eq_true rfl) ?_
      refine Ak_aload_n 114 0 (d_M_image 64 113 (.aload_n 0) 1 rfl) rfl rfl rfl ?_
      refine Ak_aload_n 115 0 (d_M_image 65 114 (.aload_n 0) 1 rfl) rfl rfl rfl ?_
      refine Ak_getF 118 49 hO clX13 (by decide) rfl lkF_M_162 (d_M_image 66 115 (.getfield 162) 3 rfl) rfl ?_
      refine Ak_iconst 119 (d_M_image 67 118 (.iconst 1) 1 rfl) rfl (rk rfl) ?_
      obtain ⟨ha27, h⟩ := gd_some h
      refine Ak_iaload 120 ha27 (d_M_image 68 119 (.iaload) 1 rfl) rfl ?_
      obtain ⟨r28, V29, h30, h⟩ := bnd_some h
      refine Ak_cV0 123 2 (c_M_writes h30) rfl hO clX13 rfl mok_M_writes lkM_M_570 (d_M_image 69 120 (.invokevirtual 570) 3 rfl) rfl (by decide) (Nat.le_of_ble_eq_true rfl) ?_
      refine Ak_aload_n 124 0 (d_M_image 70 123 (.aload_n 0) 1 rfl) rfl rfl rfl ?_
      refine Ak_aload_n 125 0 (d_M_image 71 124 (.aload_n 0) 1 rfl) rfl rfl rfl ?_
      refine Ak_getF 128 50 hO clX13 (by decide) rfl lkF_M_165 (d_M_image 72 125 (.getfield 165) 3 rfl) rfl ?_
      refine Ak_iconst 129 (d_M_image 73 128 (.iconst 0) 1 rfl) rfl (rk rfl) ?_
      obtain ⟨ha31, h⟩ := gd_some h
      refine Ak_iaload 130 ha31 (d_M_image 74 129 (.iaload) 1 rfl) rfl ?_
      obtain ⟨r32, V33, h34, h⟩ := bnd_some h
      refine Ak_cV0 133 2 (c_M_writes h34) rfl hO clX13 rfl mok_M_writes lkM_M_570 (d_M_image 75 130 (.invokevirtual 570) 3 rfl) rfl (by decide) (Nat.le_of_ble_eq_true rfl) ?_
      refine Ak_aload_n 134 0 (d_M_image 76 133 (.aload_n 0) 1 rfl) rfl rfl rfl ?_
      refine Ak_aload_n 135 0 (d_M_image 77 134 (.aload_n 0) 1 rfl) rfl rfl rfl ?_
      refine Ak_getF 138 50 hO clX13 (by decide) rfl lkF_M_165 (d_M_image 78 135 (.getfield 165) 3 rfl) rfl ?_
      refine Ak_iconst 139 (d_M_image 79 138 (.iconst 1) 1 rfl) rfl (rk rfl) ?_
      obtain ⟨ha35, h⟩ := gd_some h
      refine Ak_iaload 140 ha35 (d_M_image 80 139 (.iaload) 1 rfl) rfl ?_
      obtain ⟨r36, V37, h38, h⟩ := bnd_some h
      refine Ak_cV0 143 2 (c_M_writes h38) rfl hO clX13 rfl mok_M_writes lkM_M_570 (d_M_image 81 140 (.invokevirtual 570) 3 rfl) rfl (by decide) (Nat.le_of_ble_eq_true rfl) ?_
      refine Ak_bipush 145 (d_M_image 82 143 (.bipush 37) 2 rfl) rfl (bp_ok rfl) (rk rfl) ?_
      refine Ak_istore_n 146 1 (d_M_image 83 145 (.istore_n 1) 1 rfl) rfl rfl (by decide) ?_
      refine Ak_iconst 147 (d_M_image 84 146 (.iconst 0) 1 rfl) rfl (rk rfl) ?_
      refine Ak_istore_n 148 2 (d_M_image 85 147 (.istore_n 2) 1 rfl) rfl rfl (by decide) ?_
      refine Ak_keep [true, true, true] ?_
      exact t_M_image_L148 hO FU _ _ _ _ _ h
    · replace h := it_f hc h
      refine Ak_aload_n 24 0 (d_M_image 13 23 (.aload_n 0) 1 rfl) rfl rfl rfl ?_
      refine Ak_getF 27 44 hO clX13 (by decide) rfl lkF_M_147 (d_M_image 14 24 (.getfield 147) 3 rfl) rfl ?_
      refine Ak_iload_n 28 1 (d_M_image 15 27 (.iload_n 1) 1 rfl) rfl rfl rfl ?_
      obtain ⟨ha39, h⟩ := gd_some h
      refine Ak_iaload 29 ha39 (d_M_image 16 28 (.iaload) 1 rfl) rfl ?_
      refine Ak_istore_n 30 2 (d_M_image 17 29 (.istore_n 2) 1 rfl) rfl rfl (by decide) ?_
      refine Ak_aload_n 31 0 (d_M_image 18 30 (.aload_n 0) 1 rfl) rfl rfl rfl ?_
      refine Ak_iload_n 32 2 (d_M_image 19 31 (.iload_n 2) 1 rfl) rfl rfl rfl ?_
      obtain ⟨r40, V41, h42, h⟩ := bnd_some h
      refine Ak_cV0 35 2 (c_M_writes h42) rfl hO clX13 rfl mok_M_writes lkM_M_570 (d_M_image 20 32 (.invokevirtual 570) 3 rfl) rfl (by decide) (Nat.le_of_ble_eq_true rfl) ?_
      refine Ak_aload_n 36 0 (d_M_image 21 35 (.aload_n 0) 1 rfl) rfl rfl rfl ?_
      refine Ak_aload_n 37 0 (d_M_image 22 36 (.aload_n 0) 1 rfl) rfl rfl rfl ?_
      refine Ak_getF 40 45 hO clX13 (by decide) rfl lkF_M_150 (d_M_image 23 37 (.getfield 150) 3 rfl) rfl ?_
      refine Ak_iload_n 41 2 (d_M_image 24 40 (.iload_n 2) 1 rfl) rfl rfl rfl ?_
      obtain ⟨ha43, h⟩ := gd_some h
      refine Ak_baload 42 ha43 (d_M_image 25 41 (.baload) 1 rfl) rfl ?_
      refine Ak_if_eq 49 45 (d_M_image 26 42 (.ifCond .eq 7) 3 rfl) rfl rfl (fun hc => ?_) (fun hc => ?_)
      · replace h := it_t hc h
        refine Ak_iconst 50 (d_M_image 29 49 (.iconst 0) 1 rfl) rfl (rk rfl) ?_
        refine Ak_keep [true, true, true] ?_
        exact t_M_image_J50 hO (fun h => ih h) h
      · replace h := it_f hc h
        refine Ak_iconst 46 (d_M_image 27 45 (.iconst 1) 1 rfl) rfl (rk rfl) ?_
        refine Ak_goto 50 (d_M_image 28 46 (.goto 4) 3 rfl) rfl ?_
        refine Ak_keep [true, true, true] ?_
        exact t_M_image_J50 hO (fun h => ih h) h
theorem c_M_image {S : ASh} {V : ASt} {x0 : Int} {r : Int} {V' : ASt} (h : f_M_image S V x0 = some (r, V')) : ACt m_M_image 3 0 0 [(aR x0)] S V (some (aI r)) S V' := by
  unfold f_M_image at h
  obtain ⟨hO, h⟩ := gd_some h
  refine ACt_of (plainFor_of_name rfl) rfl (Nat.le_of_ble_eq_true rfl) ?_
  show AWk m_M_image 3 0 0 0 0 0 [some (aR x0)] [] S V (some (aI r)) S V'
  refine Ak_aload_n 1 0 (d_M_image 0 0 (.aload_n 0) 1 rfl) rfl rfl rfl ?_
  refine Ak_iconst 2 (d_M_image 1 1 (.iconst 0) 1 rfl) rfl (rk rfl) ?_
  refine Ak_putI 5 80 hO clX13 (by decide) rfl rfl rfl lkF_M_255 (d_M_image 2 2 (.putfield 255) 3 rfl) rfl (fun V44 hV44 => ?_)
  replace h := wV_some h V44 hV44
  refine Ak_aload_n 6 0 (d_M_image 3 5 (.aload_n 0) 1 rfl) rfl rfl rfl ?_
  refine Ak_aload_n 7 0 (d_M_image 4 6 (.aload_n 0) 1 rfl) rfl rfl rfl ?_
  obtain ⟨r45, V46, h47, h⟩ := bnd_some h
  refine Ak_cV1 10 2 (c_M_rulesAll h47) rfl hO clX13 rfl mok_M_rulesAll lkM_M_436 (d_M_image 5 7 (.invokevirtual 436) 3 rfl) rfl (by decide) (Nat.le_of_ble_eq_true rfl) ?_
  obtain ⟨r48, V49, h50, h⟩ := bnd_some h
  refine Ak_cV0 13 2 (c_M_writes h50) rfl hO clX13 rfl mok_M_writes lkM_M_570 (d_M_image 6 10 (.invokevirtual 570) 3 rfl) rfl (by decide) (Nat.le_of_ble_eq_true rfl) ?_
  refine Ak_iconst 14 (d_M_image 7 13 (.iconst 0) 1 rfl) rfl (rk rfl) ?_
  refine Ak_istore_n 15 1 (d_M_image 8 14 (.istore_n 1) 1 rfl) rfl rfl (by decide) ?_
  refine Ak_keep [true, true] ?_
  exact t_M_image_L15 hO FU _ _ _ _ h
theorem c_M_octet {S : ASh} {V : ASt} {x0 x1 : Int} {r : Int} {V' : ASt} (h : f_M_octet S V x0 x1 = some (r, V')) : ACt m_M_octet 2 0 0 [(aR x0), (aI x1)] S V (some (aI r)) S V' := by
  unfold f_M_octet at h
  obtain ⟨hO, h⟩ := gd_some h
  refine ACt_of (plainFor_of_name rfl) rfl (Nat.le_of_ble_eq_true rfl) ?_
  show AWk m_M_octet 2 0 0 0 0 0 [some (aR x0), some (aI x1)] [] S V (some (aI r)) S V'
  refine Ak_iload_n 1 1 (d_M_octet 0 0 (.iload_n 1) 1 rfl) rfl rfl rfl ?_
  refine Ak_if_lt 21 4 (d_M_octet 1 1 (.ifCond .lt 20) 3 rfl) rfl rfl (fun hc => ?_) (fun hc => ?_)
  · replace h := it_t hc h
    refine Ak_iconst 22 (d_M_octet 11 21 (.iconst (-1)) 1 rfl) rfl (rk rfl) ?_
    cases h
    exact Ak_iret rfl (d_M_octet 12 22 (.ireturn) 1 rfl)
  · replace h := it_f hc h
    refine Ak_iload_n 5 1 (d_M_octet 2 4 (.iload_n 1) 1 rfl) rfl rfl rfl ?_
    refine Ak_aload_n 6 0 (d_M_octet 3 5 (.aload_n 0) 1 rfl) rfl rfl rfl ?_
    refine Ak_getI 9 80 hO clX13 (by decide) (Or.inl rfl) lkF_M_255 (d_M_octet 4 6 (.getfield 255) 3 rfl) rfl ?_
    refine Ak_icmp_ge 21 12 (d_M_octet 5 9 (.if_icmp .ge 12) 3 rfl) rfl rfl (fun hc => ?_) (fun hc => ?_)
    · replace h := it_t hc h
      refine Ak_iconst 22 (d_M_octet 11 21 (.iconst (-1)) 1 rfl) rfl (rk rfl) ?_
      cases h
      exact Ak_iret rfl (d_M_octet 12 22 (.ireturn) 1 rfl)
    · replace h := it_f hc h
      refine Ak_aload_n 13 0 (d_M_octet 6 12 (.aload_n 0) 1 rfl) rfl rfl rfl ?_
      refine Ak_getF 16 79 hO clX13 (by decide) rfl lkF_M_252 (d_M_octet 7 13 (.getfield 252) 3 rfl) rfl ?_
      refine Ak_iload_n 17 1 (d_M_octet 8 16 (.iload_n 1) 1 rfl) rfl rfl rfl ?_
      obtain ⟨ha1, h⟩ := gd_some h
      refine Ak_iaload 18 ha1 (d_M_octet 9 17 (.iaload) 1 rfl) rfl ?_
      refine Ak_goto 22 (d_M_octet 10 18 (.goto 4) 3 rfl) rfl ?_
      cases h
      exact Ak_iret rfl (d_M_octet 12 22 (.ireturn) 1 rfl)
theorem t_M_isRuleAt_J115 {S : ASh} {V : ASt} {x0 x1 x2 x4 : Int} {r : Int} {V' : ASt} (hO : isO S x0 13 = true) (h : b_M_isRuleAt_J115 S  V x0 x1 x2 x4 = some (r, V')) : AWk m_M_isRuleAt 3 0 0 0 0 115 [some (aR x0), some (aI x1), some (aI x2), none, some (aI x4)] [] S V (some (aI r)) S V' := by
  unfold b_M_isRuleAt_J115 at h
  refine Ak_aload_n 116 0 (d_M_isRuleAt 68 115 (.aload_n 0) 1 rfl) rfl rfl rfl ?_
  refine Ak_getF 119 24 hO clX13 (by decide) rfl lkF_M_85 (d_M_isRuleAt 69 116 (.getfield 85) 3 rfl) rfl ?_
  refine Ak_aload_n 120 0 (d_M_isRuleAt 70 119 (.aload_n 0) 1 rfl) rfl rfl rfl ?_
  refine Ak_iload 122 (d_M_isRuleAt 71 120 (.iload 4) 2 rfl) rfl rfl ?_
  obtain ⟨r1, V2, h3, h⟩ := bnd_some h
  refine Ak_cV1 125 2 (c_M_told h3) rfl hO clX13 rfl mok_M_told lkM_M_439 (d_M_isRuleAt 72 122 (.invokevirtual 439) 3 rfl) rfl (by decide) (Nat.le_of_ble_eq_true rfl) ?_
  obtain ⟨ha4, h⟩ := gd_some h
  refine Ak_baload 126 ha4 (d_M_isRuleAt 73 125 (.baload) 1 rfl) rfl ?_
  refine Ak_if_eq 168 129 (d_M_isRuleAt 74 126 (.ifCond .eq 42) 3 rfl) rfl rfl (fun hc => ?_) (fun hc => ?_)
  · replace h := it_t hc h
    refine Ak_iconst 169 (d_M_isRuleAt 98 168 (.iconst 1) 1 rfl) rfl (rk rfl) ?_
    refine Ak_goto 173 (d_M_isRuleAt 99 169 (.goto 4) 3 rfl) rfl ?_
    cases h
    exact Ak_zret (Or.inr rfl) rfl (d_M_isRuleAt 101 173 (.ireturn) 1 rfl)
  · replace h := it_f hc h
    refine Ak_iload 131 (d_M_isRuleAt 75 129 (.iload 4) 2 rfl) rfl rfl ?_
    refine Ak_iload_n 132 1 (d_M_isRuleAt 76 131 (.iload_n 1) 1 rfl) rfl rfl rfl ?_
    refine Ak_icmp_ne 172 135 (d_M_isRuleAt 77 132 (.if_icmp .ne 40) 3 rfl) rfl rfl (fun hc => ?_) (fun hc => ?_)
    · replace h := it_f hc h
      refine Ak_iconst 173 (d_M_isRuleAt 100 172 (.iconst 0) 1 rfl) rfl (rk rfl) ?_
      cases h
      exact Ak_zret (Or.inl rfl) rfl (d_M_isRuleAt 101 173 (.ireturn) 1 rfl)
    · replace h := it_t hc h
      refine Ak_aload_n 136 0 (d_M_isRuleAt 78 135 (.aload_n 0) 1 rfl) rfl rfl rfl ?_
      refine Ak_getF 139 0 hO clX13 (by decide) rfl lkF_M_7 (d_M_isRuleAt 79 136 (.getfield 7) 3 rfl) rfl ?_
      refine Ak_iload_n 140 2 (d_M_isRuleAt 80 139 (.iload_n 2) 1 rfl) rfl rfl rfl ?_
      refine Ak_iconst 141 (d_M_isRuleAt 81 140 (.iconst 1) 1 rfl) rfl (rk rfl) ?_
      refine Ak_iadd 142 (d_M_isRuleAt 82 141 (.iadd) 1 rfl) rfl ?_
      obtain ⟨ha5, h⟩ := gd_some h
      refine Ak_iaload 143 ha5 (d_M_isRuleAt 83 142 (.iaload) 1 rfl) rfl ?_
      refine Ak_if_ne 172 146 (d_M_isRuleAt 84 143 (.ifCond .ne 29) 3 rfl) rfl rfl (fun hc => ?_) (fun hc => ?_)
      · replace h := it_f hc h
        refine Ak_iconst 173 (d_M_isRuleAt 100 172 (.iconst 0) 1 rfl) rfl (rk rfl) ?_
        cases h
        exact Ak_zret (Or.inl rfl) rfl (d_M_isRuleAt 101 173 (.ireturn) 1 rfl)
      · replace h := it_t hc h
        refine Ak_aload_n 147 0 (d_M_isRuleAt 85 146 (.aload_n 0) 1 rfl) rfl rfl rfl ?_
        refine Ak_getF 150 0 hO clX13 (by decide) rfl lkF_M_7 (d_M_isRuleAt 86 147 (.getfield 7) 3 rfl) rfl ?_
        refine Ak_iload_n 151 2 (d_M_isRuleAt 87 150 (.iload_n 2) 1 rfl) rfl rfl rfl ?_
        refine Ak_iconst 152 (d_M_isRuleAt 88 151 (.iconst 2) 1 rfl) rfl (rk rfl) ?_
        refine Ak_iadd 153 (d_M_isRuleAt 89 152 (.iadd) 1 rfl) rfl ?_
        obtain ⟨ha6, h⟩ := gd_some h
        refine Ak_iaload 154 ha6 (d_M_isRuleAt 90 153 (.iaload) 1 rfl) rfl ?_
        refine Ak_aload_n 155 0 (d_M_isRuleAt 91 154 (.aload_n 0) 1 rfl) rfl rfl rfl ?_
        refine Ak_getF 158 23 hO clX13 (by decide) rfl lkF_M_82 (d_M_isRuleAt 92 155 (.getfield 82) 3 rfl) rfl ?_
        refine Ak_aload_n 159 0 (d_M_isRuleAt 93 158 (.aload_n 0) 1 rfl) rfl rfl rfl ?_
        refine Ak_iload 161 (d_M_isRuleAt 94 159 (.iload 4) 2 rfl) rfl rfl ?_
        obtain ⟨r7, V8, h9, h⟩ := bnd_some h
        refine Ak_cV1 164 2 (c_M_told h9) rfl hO clX13 rfl mok_M_told lkM_M_439 (d_M_isRuleAt 95 161 (.invokevirtual 439) 3 rfl) rfl (by decide) (Nat.le_of_ble_eq_true rfl) ?_
        obtain ⟨ha10, h⟩ := gd_some h
        refine Ak_iaload 165 ha10 (d_M_isRuleAt 96 164 (.iaload) 1 rfl) rfl ?_
        refine Ak_icmp_ne 172 168 (d_M_isRuleAt 97 165 (.if_icmp .ne 7) 3 rfl) rfl rfl (fun hc => ?_) (fun hc => ?_)
        · replace h := it_f hc h
          refine Ak_iconst 173 (d_M_isRuleAt 100 172 (.iconst 0) 1 rfl) rfl (rk rfl) ?_
          cases h
          exact Ak_zret (Or.inl rfl) rfl (d_M_isRuleAt 101 173 (.ireturn) 1 rfl)
        · replace h := it_t hc h
          refine Ak_iconst 169 (d_M_isRuleAt 98 168 (.iconst 1) 1 rfl) rfl (rk rfl) ?_
          refine Ak_goto 173 (d_M_isRuleAt 99 169 (.goto 4) 3 rfl) rfl ?_
          cases h
          exact Ak_zret (Or.inr rfl) rfl (d_M_isRuleAt 101 173 (.ireturn) 1 rfl)
theorem t_M_isRuleAt_J76 {S : ASh} {V : ASt} {x0 x1 x2 x4 s0 : Int} {r : Int} {V' : ASt} (hO : isO S x0 13 = true) (h : b_M_isRuleAt_J76 S  V x0 x1 x2 x4 s0 = some (r, V')) : AWk m_M_isRuleAt 3 0 0 0 0 76 [some (aR x0), some (aI x1), some (aI x2), none, some (aI x4)] [(aI s0)] S V (some (aI r)) S V' := by
  unfold b_M_isRuleAt_J76 at h
  refine Ak_istore 78 (d_M_isRuleAt 45 76 (.istore 5) 2 rfl) rfl (by decide) ?_
  refine Ak_iload 80 (d_M_isRuleAt 46 78 (.iload 5) 2 rfl) rfl rfl ?_
  refine Ak_if_eq 102 83 (d_M_isRuleAt 47 80 (.ifCond .eq 22) 3 rfl) rfl rfl (fun hc => ?_) (fun hc => ?_)
  · replace h := it_t hc h
    refine Ak_aload_n 103 0 (d_M_isRuleAt 59 102 (.aload_n 0) 1 rfl) rfl rfl rfl ?_
    refine Ak_getF 106 0 hO clX13 (by decide) rfl lkF_M_7 (d_M_isRuleAt 60 103 (.getfield 7) 3 rfl) rfl ?_
    refine Ak_iload_n 107 2 (d_M_isRuleAt 61 106 (.iload_n 2) 1 rfl) rfl rfl rfl ?_
    refine Ak_iconst 108 (d_M_isRuleAt 62 107 (.iconst 2) 1 rfl) rfl (rk rfl) ?_
    refine Ak_iadd 109 (d_M_isRuleAt 63 108 (.iadd) 1 rfl) rfl ?_
    obtain ⟨ha11, h⟩ := gd_some h
    refine Ak_iaload 110 ha11 (d_M_isRuleAt 64 109 (.iaload) 1 rfl) rfl ?_
    refine Ak_if_eq 115 113 (d_M_isRuleAt 65 110 (.ifCond .eq 5) 3 rfl) rfl rfl (fun hc => ?_) (fun hc => ?_)
    · replace h := it_t hc h
      refine Ak_keep [true, true, true, false, true] ?_
      exact t_M_isRuleAt_J115 hO h
    · replace h := it_f hc h
      refine Ak_iconst 114 (d_M_isRuleAt 66 113 (.iconst 0) 1 rfl) rfl (rk rfl) ?_
      cases h
      exact Ak_zret (Or.inl rfl) rfl (d_M_isRuleAt 67 114 (.ireturn) 1 rfl)
  · replace h := it_f hc h
    refine Ak_aload_n 84 0 (d_M_isRuleAt 48 83 (.aload_n 0) 1 rfl) rfl rfl rfl ?_
    refine Ak_getF 87 0 hO clX13 (by decide) rfl lkF_M_7 (d_M_isRuleAt 49 84 (.getfield 7) 3 rfl) rfl ?_
    refine Ak_iload_n 88 2 (d_M_isRuleAt 50 87 (.iload_n 2) 1 rfl) rfl rfl rfl ?_
    refine Ak_iconst 89 (d_M_isRuleAt 51 88 (.iconst 2) 1 rfl) rfl (rk rfl) ?_
    refine Ak_iadd 90 (d_M_isRuleAt 52 89 (.iadd) 1 rfl) rfl ?_
    obtain ⟨ha12, h⟩ := gd_some h
    refine Ak_iaload 91 ha12 (d_M_isRuleAt 53 90 (.iaload) 1 rfl) rfl ?_
    refine Ak_iconst 92 (d_M_isRuleAt 54 91 (.iconst 1) 1 rfl) rfl (rk rfl) ?_
    refine Ak_iconst 93 (d_M_isRuleAt 55 92 (.iconst 3) 1 rfl) rfl (rk rfl) ?_
    obtain ⟨r13, V14, h15, h⟩ := bnd_some h
    refine Ak_cS1 96 2 (c_M_is h15) rfl mok_M_is lkM_M_329 (d_M_isRuleAt 56 93 (.invokestatic 329) 3 rfl) rfl (by decide) (Nat.le_of_ble_eq_true rfl) ?_
    refine Ak_if_ne 115 99 (d_M_isRuleAt 57 96 (.ifCond .ne 19) 3 rfl) rfl rfl (fun hc => ?_) (fun hc => ?_)
    · replace h := it_f hc h
      refine Ak_keep [true, true, true, false, true] ?_
      exact t_M_isRuleAt_J115 hO h
    · replace h := it_t hc h
      refine Ak_goto 113 (d_M_isRuleAt 58 99 (.goto 14) 3 rfl) rfl ?_
      refine Ak_iconst 114 (d_M_isRuleAt 66 113 (.iconst 0) 1 rfl) rfl (rk rfl) ?_
      cases h
      exact Ak_zret (Or.inl rfl) rfl (d_M_isRuleAt 67 114 (.ireturn) 1 rfl)
theorem c_M_isRuleAt {S : ASh} {V : ASt} {x0 x1 x2 x3 : Int} {r : Int} {V' : ASt} (h : f_M_isRuleAt S V x0 x1 x2 x3 = some (r, V')) : ACt m_M_isRuleAt 3 0 0 [(aR x0), (aI x1), (aI x2), (aI x3)] S V (some (aI r)) S V' := by
  unfold f_M_isRuleAt at h
  obtain ⟨hO, h⟩ := gd_some h
  refine ACt_of (plainFor_of_name rfl) rfl (Nat.le_of_ble_eq_true rfl) ?_
  show AWk m_M_isRuleAt 3 0 0 0 0 0 [some (aR x0), some (aI x1), some (aI x2), some (aI x3)] [] S V (some (aI r)) S V'
  refine Ak_aload_n 1 0 (d_M_isRuleAt 0 0 (.aload_n 0) 1 rfl) rfl rfl rfl ?_
  refine Ak_getF 4 0 hO clX13 (by decide) rfl lkF_M_7 (d_M_isRuleAt 1 1 (.getfield 7) 3 rfl) rfl ?_
  refine Ak_iload_n 5 2 (d_M_isRuleAt 2 4 (.iload_n 2) 1 rfl) rfl rfl rfl ?_
  obtain ⟨ha16, h⟩ := gd_some h
  refine Ak_iaload 6 ha16 (d_M_isRuleAt 3 5 (.iaload) 1 rfl) rfl ?_
  refine Ak_istore 8 (d_M_isRuleAt 4 6 (.istore 4) 2 rfl) rfl (by decide) ?_
  refine Ak_iload 10 (d_M_isRuleAt 5 8 (.iload 4) 2 rfl) rfl rfl ?_
  refine Ak_aload_n 11 0 (d_M_isRuleAt 6 10 (.aload_n 0) 1 rfl) rfl rfl rfl ?_
  obtain ⟨r17, V18, h19, h⟩ := bnd_some h
  refine Ak_cV1 14 2 (c_M_rulesAll h19) rfl hO clX13 rfl mok_M_rulesAll lkM_M_436 (d_M_isRuleAt 7 11 (.invokevirtual 436) 3 rfl) rfl (by decide) (Nat.le_of_ble_eq_true rfl) ?_
  refine Ak_icmp_ge 39 17 (d_M_isRuleAt 8 14 (.if_icmp .ge 25) 3 rfl) rfl rfl (fun hc => ?_) (fun hc => ?_)
  · replace h := it_t hc h
    refine Ak_iconst 40 (d_M_isRuleAt 24 39 (.iconst 0) 1 rfl) rfl (rk rfl) ?_
    cases h
    exact Ak_zret (Or.inl rfl) rfl (d_M_isRuleAt 25 40 (.ireturn) 1 rfl)
  · replace h := it_f hc h
    refine Ak_iload_n 18 3 (d_M_isRuleAt 9 17 (.iload_n 3) 1 rfl) rfl rfl rfl ?_
    refine Ak_iload 20 (d_M_isRuleAt 10 18 (.iload 4) 2 rfl) rfl rfl ?_
    refine Ak_ishr 21 (d_M_isRuleAt 11 20 (.ishr) 1 rfl) rfl ?_
    refine Ak_iconst 22 (d_M_isRuleAt 12 21 (.iconst 1) 1 rfl) rfl (rk rfl) ?_
    refine Ak_iand 23 (d_M_isRuleAt 13 22 (.iand) 1 rfl) rfl ?_
    refine Ak_iconst 24 (d_M_isRuleAt 14 23 (.iconst 1) 1 rfl) rfl (rk rfl) ?_
    refine Ak_icmp_eq 39 27 (d_M_isRuleAt 15 24 (.if_icmp .eq 15) 3 rfl) rfl rfl (fun hc => ?_) (fun hc => ?_)
    · replace h := it_t hc h
      refine Ak_iconst 40 (d_M_isRuleAt 24 39 (.iconst 0) 1 rfl) rfl (rk rfl) ?_
      cases h
      exact Ak_zret (Or.inl rfl) rfl (d_M_isRuleAt 25 40 (.ireturn) 1 rfl)
    · replace h := it_f hc h
      refine Ak_aload_n 28 0 (d_M_isRuleAt 16 27 (.aload_n 0) 1 rfl) rfl rfl rfl ?_
      refine Ak_getF 31 0 hO clX13 (by decide) rfl lkF_M_7 (d_M_isRuleAt 17 28 (.getfield 7) 3 rfl) rfl ?_
      refine Ak_iload_n 32 2 (d_M_isRuleAt 18 31 (.iload_n 2) 1 rfl) rfl rfl rfl ?_
      refine Ak_iconst 33 (d_M_isRuleAt 19 32 (.iconst 1) 1 rfl) rfl (rk rfl) ?_
      refine Ak_iadd 34 (d_M_isRuleAt 20 33 (.iadd) 1 rfl) rfl ?_
      obtain ⟨ha20, h⟩ := gd_some h
      refine Ak_iaload 35 ha20 (d_M_isRuleAt 21 34 (.iaload) 1 rfl) rfl ?_
      refine Ak_iconst 36 (d_M_isRuleAt 22 35 (.iconst 3) 1 rfl) rfl (rk rfl) ?_
      refine Ak_icmp_le 41 39 (d_M_isRuleAt 23 36 (.if_icmp .le 5) 3 rfl) rfl rfl (fun hc => ?_) (fun hc => ?_)
      · replace h := it_t hc h
        refine Ak_aload_n 42 0 (d_M_isRuleAt 26 41 (.aload_n 0) 1 rfl) rfl rfl rfl ?_
        refine Ak_getF 45 20 hO clX13 (by decide) rfl lkF_M_73 (d_M_isRuleAt 27 42 (.getfield 73) 3 rfl) rfl ?_
        refine Ak_aload_n 46 0 (d_M_isRuleAt 28 45 (.aload_n 0) 1 rfl) rfl rfl rfl ?_
        refine Ak_iload 48 (d_M_isRuleAt 29 46 (.iload 4) 2 rfl) rfl rfl ?_
        obtain ⟨r21, V22, h23, h⟩ := bnd_some h
        refine Ak_cV1 51 2 (c_M_told h23) rfl hO clX13 rfl mok_M_told lkM_M_439 (d_M_isRuleAt 30 48 (.invokevirtual 439) 3 rfl) rfl (by decide) (Nat.le_of_ble_eq_true rfl) ?_
        obtain ⟨ha24, h⟩ := gd_some h
        refine Ak_iaload 52 ha24 (d_M_isRuleAt 31 51 (.iaload) 1 rfl) rfl ?_
        refine Ak_iconst 53 (d_M_isRuleAt 32 52 (.iconst 2) 1 rfl) rfl (rk rfl) ?_
        refine Ak_icmp_ge 75 56 (d_M_isRuleAt 33 53 (.if_icmp .ge 22) 3 rfl) rfl rfl (fun hc => ?_) (fun hc => ?_)
        · replace h := it_t hc h
          refine Ak_iconst 76 (d_M_isRuleAt 44 75 (.iconst 0) 1 rfl) rfl (rk rfl) ?_
          refine Ak_keep [true, true, true, false, true] ?_
          exact t_M_isRuleAt_J76 hO h
        · replace h := it_f hc h
          refine Ak_aload_n 57 0 (d_M_isRuleAt 34 56 (.aload_n 0) 1 rfl) rfl rfl rfl ?_
          refine Ak_getF 60 22 hO clX13 (by decide) rfl lkF_M_79 (d_M_isRuleAt 35 57 (.getfield 79) 3 rfl) rfl ?_
          refine Ak_aload_n 61 0 (d_M_isRuleAt 36 60 (.aload_n 0) 1 rfl) rfl rfl rfl ?_
          refine Ak_iload 63 (d_M_isRuleAt 37 61 (.iload 4) 2 rfl) rfl rfl ?_
          obtain ⟨r25, V26, h27, h⟩ := bnd_some h
          refine Ak_cV1 66 2 (c_M_told h27) rfl hO clX13 rfl mok_M_told lkM_M_439 (d_M_isRuleAt 38 63 (.invokevirtual 439) 3 rfl) rfl (by decide) (Nat.le_of_ble_eq_true rfl) ?_
          obtain ⟨ha28, h⟩ := gd_some h
          refine Ak_iaload 67 ha28 (d_M_isRuleAt 39 66 (.iaload) 1 rfl) rfl ?_
          refine Ak_iconst 68 (d_M_isRuleAt 40 67 (.iconst 2) 1 rfl) rfl (rk rfl) ?_
          refine Ak_icmp_eq 75 71 (d_M_isRuleAt 41 68 (.if_icmp .eq 7) 3 rfl) rfl rfl (fun hc => ?_) (fun hc => ?_)
          · replace h := it_t hc h
            refine Ak_iconst 76 (d_M_isRuleAt 44 75 (.iconst 0) 1 rfl) rfl (rk rfl) ?_
            refine Ak_keep [true, true, true, false, true] ?_
            exact t_M_isRuleAt_J76 hO h
          · replace h := it_f hc h
            refine Ak_iconst 72 (d_M_isRuleAt 42 71 (.iconst 1) 1 rfl) rfl (rk rfl) ?_
            refine Ak_goto 76 (d_M_isRuleAt 43 72 (.goto 4) 3 rfl) rfl ?_
            refine Ak_keep [true, true, true, false, true] ?_
            exact t_M_isRuleAt_J76 hO h
      · replace h := it_f hc h
        refine Ak_iconst 40 (d_M_isRuleAt 24 39 (.iconst 0) 1 rfl) rfl (rk rfl) ?_
        cases h
        exact Ak_zret (Or.inl rfl) rfl (d_M_isRuleAt 25 40 (.ireturn) 1 rfl)
theorem t_M_isWhole_L96 {S : ASh} {x0 x2 : Int} (hO : isO S x0 13 = true) : ∀ (n : Nat) (V : ASt) (x4 x5 : Int) (r : Int) (V' : ASt), b_M_isWhole_L96 S x0 x2 n V x4 x5 = some (r, V') → AWk m_M_isWhole 4 0 0 0 0 96 [some (aR x0), none, some (aI x2), none, some (aI x4), some (aI x5)] [] S V (some (aI r)) S V' := by
  intro n
  induction n with
  | zero => intro V x4 x5 r V' h; cases h
  | succ n ih =>
    intro V x4 x5 r V' h
    replace ih : ∀ {V : ASt} {x4 x5 : Int} {r : Int} {V' : ASt}, b_M_isWhole_L96 S x0 x2 n V x4 x5 = some (r, V') → AWk m_M_isWhole 4 0 0 0 0 96 [some (aR x0), none, some (aI x2), none, some (aI x4), some (aI x5)] [] S V (some (aI r)) S V' := fun h => ih _ _ _ _ _ h
    rw [b_M_isWhole_L96] at h
    refine Ak_iload 98 (d_M_isWhole 60 96 (.iload 5) 2 rfl) rfl rfl ?_
    refine Ak_aload_n 99 0 (d_M_isWhole 61 98 (.aload_n 0) 1 rfl) rfl rfl rfl ?_
    obtain ⟨r1, V2, h3, h⟩ := bnd_some h
    refine Ak_cV1 102 2 (c_M_rulesAll h3) rfl hO clX13 rfl mok_M_rulesAll lkM_M_436 (d_M_isWhole 62 99 (.invokevirtual 436) 3 rfl) rfl (by decide) (Nat.le_of_ble_eq_true rfl) ?_
    refine Ak_icmp_ge 148 105 (d_M_isWhole 63 102 (.if_icmp .ge 46) 3 rfl) rfl rfl (fun hc => ?_) (fun hc => ?_)
    · replace h := it_t hc h
      refine Ak_aload_n 149 0 (d_M_isWhole 91 148 (.aload_n 0) 1 rfl) rfl rfl rfl ?_
      refine Ak_getF 152 0 hO clX13 (by decide) rfl lkF_M_7 (d_M_isWhole 92 149 (.getfield 7) 3 rfl) rfl ?_
      refine Ak_iload_n 153 2 (d_M_isWhole 93 152 (.iload_n 2) 1 rfl) rfl rfl rfl ?_
      refine Ak_iconst 154 (d_M_isWhole 94 153 (.iconst 2) 1 rfl) rfl (rk rfl) ?_
      refine Ak_iadd 155 (d_M_isWhole 95 154 (.iadd) 1 rfl) rfl ?_
      obtain ⟨ha4, h⟩ := gd_some h
      refine Ak_iaload 156 ha4 (d_M_isWhole 96 155 (.iaload) 1 rfl) rfl ?_
      refine Ak_iconst 157 (d_M_isWhole 97 156 (.iconst 2) 1 rfl) rfl (rk rfl) ?_
      refine Ak_icmp_gt 202 160 (d_M_isWhole 98 157 (.if_icmp .gt 45) 3 rfl) rfl rfl (fun hc => ?_) (fun hc => ?_)
      · replace h := it_t hc h
        refine Ak_iconst 203 (d_M_isWhole 125 202 (.iconst 0) 1 rfl) rfl (rk rfl) ?_
        cases h
        exact Ak_zret (Or.inl rfl) rfl (d_M_isWhole 126 203 (.ireturn) 1 rfl)
      · replace h := it_f hc h
        refine Ak_aload_n 161 0 (d_M_isWhole 99 160 (.aload_n 0) 1 rfl) rfl rfl rfl ?_
        refine Ak_getF 164 0 hO clX13 (by decide) rfl lkF_M_7 (d_M_isWhole 100 161 (.getfield 7) 3 rfl) rfl ?_
        refine Ak_iload_n 165 2 (d_M_isWhole 101 164 (.iload_n 2) 1 rfl) rfl rfl rfl ?_
        refine Ak_iconst 166 (d_M_isWhole 102 165 (.iconst 3) 1 rfl) rfl (rk rfl) ?_
        refine Ak_iadd 167 (d_M_isWhole 103 166 (.iadd) 1 rfl) rfl ?_
        obtain ⟨ha5, h⟩ := gd_some h
        refine Ak_iaload 168 ha5 (d_M_isWhole 104 167 (.iaload) 1 rfl) rfl ?_
        refine Ak_iconst 169 (d_M_isWhole 105 168 (.iconst 2) 1 rfl) rfl (rk rfl) ?_
        refine Ak_icmp_gt 202 172 (d_M_isWhole 106 169 (.if_icmp .gt 33) 3 rfl) rfl rfl (fun hc => ?_) (fun hc => ?_)
        · replace h := it_t hc h
          refine Ak_iconst 203 (d_M_isWhole 125 202 (.iconst 0) 1 rfl) rfl (rk rfl) ?_
          cases h
          exact Ak_zret (Or.inl rfl) rfl (d_M_isWhole 126 203 (.ireturn) 1 rfl)
        · replace h := it_f hc h
          refine Ak_aload_n 173 0 (d_M_isWhole 107 172 (.aload_n 0) 1 rfl) rfl rfl rfl ?_
          refine Ak_getF 176 0 hO clX13 (by decide) rfl lkF_M_7 (d_M_isWhole 108 173 (.getfield 7) 3 rfl) rfl ?_
          refine Ak_iload_n 177 2 (d_M_isWhole 109 176 (.iload_n 2) 1 rfl) rfl rfl rfl ?_
          refine Ak_iconst 178 (d_M_isWhole 110 177 (.iconst 4) 1 rfl) rfl (rk rfl) ?_
          refine Ak_iadd 179 (d_M_isWhole 111 178 (.iadd) 1 rfl) rfl ?_
          obtain ⟨ha6, h⟩ := gd_some h
          refine Ak_iaload 180 ha6 (d_M_isWhole 112 179 (.iaload) 1 rfl) rfl ?_
          refine Ak_bipush 182 (d_M_isWhole 113 180 (.bipush 100) 2 rfl) rfl (bp_ok rfl) (rk rfl) ?_
          refine Ak_icmp_gt 202 185 (d_M_isWhole 114 182 (.if_icmp .gt 20) 3 rfl) rfl rfl (fun hc => ?_) (fun hc => ?_)
          · replace h := it_t hc h
            refine Ak_iconst 203 (d_M_isWhole 125 202 (.iconst 0) 1 rfl) rfl (rk rfl) ?_
            cases h
            exact Ak_zret (Or.inl rfl) rfl (d_M_isWhole 126 203 (.ireturn) 1 rfl)
          · replace h := it_f hc h
            refine Ak_aload_n 186 0 (d_M_isWhole 115 185 (.aload_n 0) 1 rfl) rfl rfl rfl ?_
            refine Ak_getF 189 0 hO clX13 (by decide) rfl lkF_M_7 (d_M_isWhole 116 186 (.getfield 7) 3 rfl) rfl ?_
            refine Ak_iload_n 190 2 (d_M_isWhole 117 189 (.iload_n 2) 1 rfl) rfl rfl rfl ?_
            refine Ak_iconst 191 (d_M_isWhole 118 190 (.iconst 5) 1 rfl) rfl (rk rfl) ?_
            refine Ak_iadd 192 (d_M_isWhole 119 191 (.iadd) 1 rfl) rfl ?_
            obtain ⟨ha7, h⟩ := gd_some h
            refine Ak_iaload 193 ha7 (d_M_isWhole 120 192 (.iaload) 1 rfl) rfl ?_
            refine Ak_bipush 195 (d_M_isWhole 121 193 (.bipush 100) 2 rfl) rfl (bp_ok rfl) (rk rfl) ?_
            refine Ak_icmp_gt 202 198 (d_M_isWhole 122 195 (.if_icmp .gt 7) 3 rfl) rfl rfl (fun hc => ?_) (fun hc => ?_)
            · replace h := it_t hc h
              refine Ak_iconst 203 (d_M_isWhole 125 202 (.iconst 0) 1 rfl) rfl (rk rfl) ?_
              cases h
              exact Ak_zret (Or.inl rfl) rfl (d_M_isWhole 126 203 (.ireturn) 1 rfl)
            · replace h := it_f hc h
              refine Ak_iconst 199 (d_M_isWhole 123 198 (.iconst 1) 1 rfl) rfl (rk rfl) ?_
              refine Ak_goto 203 (d_M_isWhole 124 199 (.goto 4) 3 rfl) rfl ?_
              cases h
              exact Ak_zret (Or.inr rfl) rfl (d_M_isWhole 126 203 (.ireturn) 1 rfl)
    · replace h := it_f hc h
      refine Ak_aload_n 106 0 (d_M_isWhole 64 105 (.aload_n 0) 1 rfl) rfl rfl rfl ?_
      refine Ak_iload 108 (d_M_isWhole 65 106 (.iload 5) 2 rfl) rfl rfl ?_
      refine Ak_iconst 109 (d_M_isWhole 66 108 (.iconst 1) 1 rfl) rfl (rk rfl) ?_
      refine Ak_iconst 110 (d_M_isWhole 67 109 (.iconst 3) 1 rfl) rfl (rk rfl) ?_
      refine Ak_iload 112 (d_M_isWhole 68 110 (.iload 5) 2 rfl) rfl rfl ?_
      refine Ak_imul 113 (d_M_isWhole 69 112 (.imul) 1 rfl) rfl ?_
      refine Ak_iadd 114 (d_M_isWhole 70 113 (.iadd) 1 rfl) rfl ?_
      refine Ak_iload 116 (d_M_isWhole 71 114 (.iload 4) 2 rfl) rfl rfl ?_
      obtain ⟨r8, V9, h10, h⟩ := bnd_some h
      refine Ak_cV1 119 3 (c_M_isRuleAt h10) rfl hO clX13 rfl mok_M_isRuleAt lkM_M_573 (d_M_isWhole 72 116 (.invokevirtual 573) 3 rfl) rfl (by decide) (Nat.le_of_ble_eq_true rfl) ?_
      refine Ak_if_ne 124 122 (d_M_isWhole 73 119 (.ifCond .ne 5) 3 rfl) rfl rfl (fun hc => ?_) (fun hc => ?_)
      · replace h := it_f hc h
        refine Ak_iload 126 (d_M_isWhole 76 124 (.iload 4) 2 rfl) rfl rfl ?_
        refine Ak_iconst 127 (d_M_isWhole 77 126 (.iconst 1) 1 rfl) rfl (rk rfl) ?_
        refine Ak_aload_n 128 0 (d_M_isWhole 78 127 (.aload_n 0) 1 rfl) rfl rfl rfl ?_
        refine Ak_getF 131 0 hO clX13 (by decide) rfl lkF_M_7 (d_M_isWhole 79 128 (.getfield 7) 3 rfl) rfl ?_
        refine Ak_iconst 132 (d_M_isWhole 80 131 (.iconst 1) 1 rfl) rfl (rk rfl) ?_
        refine Ak_iconst 133 (d_M_isWhole 81 132 (.iconst 3) 1 rfl) rfl (rk rfl) ?_
        refine Ak_iload 135 (d_M_isWhole 82 133 (.iload 5) 2 rfl) rfl rfl ?_
        refine Ak_imul 136 (d_M_isWhole 83 135 (.imul) 1 rfl) rfl ?_
        refine Ak_iadd 137 (d_M_isWhole 84 136 (.iadd) 1 rfl) rfl ?_
        obtain ⟨ha11, h⟩ := gd_some h
        refine Ak_iaload 138 ha11 (d_M_isWhole 85 137 (.iaload) 1 rfl) rfl ?_
        refine Ak_ishl 139 (d_M_isWhole 86 138 (.ishl) 1 rfl) rfl ?_
        refine Ak_ior 140 (d_M_isWhole 87 139 (.ior) 1 rfl) rfl ?_
        refine Ak_istore 142 (d_M_isWhole 88 140 (.istore 4) 2 rfl) rfl (by decide) ?_
        refine Ak_iinc 145 (d_M_isWhole 89 142 (.iinc 5 1) 3 rfl) rfl rfl (by decide) ?_
        refine Ak_goto 96 (d_M_isWhole 90 145 (.goto (-49)) 3 rfl) rfl ?_
        refine Ak_keep [true, false, true, false, true, true] ?_
        exact ih h
      · replace h := it_t hc h
        refine Ak_iconst 123 (d_M_isWhole 74 122 (.iconst 0) 1 rfl) rfl (rk rfl) ?_
        cases h
        exact Ak_zret (Or.inl rfl) rfl (d_M_isWhole 75 123 (.ireturn) 1 rfl)
theorem t_M_isWhole_L45 {S : ASh} {x0 x1 x2 : Int} (hO : isO S x0 13 = true) : ∀ (n : Nat) (V : ASt) (x3 x4 : Int) (r : Int) (V' : ASt), b_M_isWhole_L45 S x0 x1 x2 n V x3 x4 = some (r, V') → AWk m_M_isWhole 4 0 0 0 0 45 [some (aR x0), some (aI x1), some (aI x2), some (aI x3), some (aI x4)] [] S V (some (aI r)) S V' := by
  intro n
  induction n with
  | zero => intro V x3 x4 r V' h; cases h
  | succ n ih =>
    intro V x3 x4 r V' h
    replace ih : ∀ {V : ASt} {x3 x4 : Int} {r : Int} {V' : ASt}, b_M_isWhole_L45 S x0 x1 x2 n V x3 x4 = some (r, V') → AWk m_M_isWhole 4 0 0 0 0 45 [some (aR x0), some (aI x1), some (aI x2), some (aI x3), some (aI x4)] [] S V (some (aI r)) S V' := fun h => ih _ _ _ _ _ h
    rw [b_M_isWhole_L45] at h
    refine Ak_iload 47 (d_M_isWhole 28 45 (.iload 4) 2 rfl) rfl rfl ?_
    refine Ak_iload_n 48 1 (d_M_isWhole 29 47 (.iload_n 1) 1 rfl) rfl rfl rfl ?_
    refine Ak_iconst 49 (d_M_isWhole 30 48 (.iconst 1) 1 rfl) rfl (rk rfl) ?_
    refine Ak_isub 50 (d_M_isWhole 31 49 (.isub) 1 rfl) rfl ?_
    refine Ak_icmp_ge 76 53 (d_M_isWhole 32 50 (.if_icmp .ge 26) 3 rfl) rfl rfl (fun hc => ?_) (fun hc => ?_)
    · replace h := it_t hc h
      refine Ak_aload_n 77 0 (d_M_isWhole 46 76 (.aload_n 0) 1 rfl) rfl rfl rfl ?_
      refine Ak_getF 80 0 hO clX13 (by decide) rfl lkF_M_7 (d_M_isWhole 47 77 (.getfield 7) 3 rfl) rfl ?_
      refine Ak_iload_n 81 1 (d_M_isWhole 48 80 (.iload_n 1) 1 rfl) rfl rfl rfl ?_
      refine Ak_iconst 82 (d_M_isWhole 49 81 (.iconst 1) 1 rfl) rfl (rk rfl) ?_
      refine Ak_isub 83 (d_M_isWhole 50 82 (.isub) 1 rfl) rfl ?_
      obtain ⟨ha12, h⟩ := gd_some h
      refine Ak_iaload 84 ha12 (d_M_isWhole 51 83 (.iaload) 1 rfl) rfl ?_
      refine Ak_iload_n 85 3 (d_M_isWhole 52 84 (.iload_n 3) 1 rfl) rfl rfl rfl ?_
      refine Ak_icmp_eq 90 88 (d_M_isWhole 53 85 (.if_icmp .eq 5) 3 rfl) rfl rfl (fun hc => ?_) (fun hc => ?_)
      · replace h := it_t hc h
        refine Ak_iconst 91 (d_M_isWhole 56 90 (.iconst 0) 1 rfl) rfl (rk rfl) ?_
        refine Ak_istore 93 (d_M_isWhole 57 91 (.istore 4) 2 rfl) rfl (by decide) ?_
        refine Ak_iconst 94 (d_M_isWhole 58 93 (.iconst 0) 1 rfl) rfl (rk rfl) ?_
        refine Ak_istore 96 (d_M_isWhole 59 94 (.istore 5) 2 rfl) rfl (by decide) ?_
        refine Ak_keep [true, false, true, false, true, true] ?_
        exact t_M_isWhole_L96 hO FU _ _ _ _ _ h
      · replace h := it_f hc h
        refine Ak_iconst 89 (d_M_isWhole 54 88 (.iconst 0) 1 rfl) rfl (rk rfl) ?_
        cases h
        exact Ak_zret (Or.inl rfl) rfl (d_M_isWhole 55 89 (.ireturn) 1 rfl)
    · replace h := it_f hc h
      refine Ak_bipush 55 (d_M_isWhole 33 53 (.bipush 7) 2 rfl) rfl (bp_ok rfl) (rk rfl) ?_
      refine Ak_iload_n 56 3 (d_M_isWhole 34 55 (.iload_n 3) 1 rfl) rfl rfl rfl ?_
      refine Ak_imul 57 (d_M_isWhole 35 56 (.imul) 1 rfl) rfl ?_
      refine Ak_aload_n 58 0 (d_M_isWhole 36 57 (.aload_n 0) 1 rfl) rfl rfl rfl ?_
      refine Ak_getF 61 0 hO clX13 (by decide) rfl lkF_M_7 (d_M_isWhole 37 58 (.getfield 7) 3 rfl) rfl ?_
      refine Ak_iload 63 (d_M_isWhole 38 61 (.iload 4) 2 rfl) rfl rfl ?_
      obtain ⟨ha13, h⟩ := gd_some h
      refine Ak_iaload 64 ha13 (d_M_isWhole 39 63 (.iaload) 1 rfl) rfl ?_
      refine Ak_iadd 65 (d_M_isWhole 40 64 (.iadd) 1 rfl) rfl ?_
      refine Ak_sipush 68 (d_M_isWhole 41 65 (.sipush 223) 3 rfl) rfl (sp_ok rfl) (rk rfl) ?_
      refine Ak_irem 69 (d_M_isWhole 42 68 (.irem) 1 rfl) rfl (by decide) ?_
      refine Ak_istore_n 70 3 (d_M_isWhole 43 69 (.istore_n 3) 1 rfl) rfl rfl (by decide) ?_
      refine Ak_iinc 73 (d_M_isWhole 44 70 (.iinc 4 1) 3 rfl) rfl rfl (by decide) ?_
      refine Ak_goto 45 (d_M_isWhole 45 73 (.goto (-28)) 3 rfl) rfl ?_
      refine Ak_keep [true, true, true, true, true] ?_
      exact ih h
theorem c_M_isWhole {S : ASh} {V : ASt} {x0 x1 : Int} {r : Int} {V' : ASt} (h : f_M_isWhole S V x0 x1 = some (r, V')) : ACt m_M_isWhole 4 0 0 [(aR x0), (aI x1)] S V (some (aI r)) S V' := by
  unfold f_M_isWhole at h
  obtain ⟨hO, h⟩ := gd_some h
  refine ACt_of (plainFor_of_name rfl) rfl (Nat.le_of_ble_eq_true rfl) ?_
  show AWk m_M_isWhole 4 0 0 0 0 0 [some (aR x0), some (aI x1)] [] S V (some (aI r)) S V'
  refine Ak_iconst 1 (d_M_isWhole 0 0 (.iconst 1) 1 rfl) rfl (rk rfl) ?_
  refine Ak_iconst 2 (d_M_isWhole 1 1 (.iconst 3) 1 rfl) rfl (rk rfl) ?_
  refine Ak_aload_n 3 0 (d_M_isWhole 2 2 (.aload_n 0) 1 rfl) rfl rfl rfl ?_
  obtain ⟨r14, V15, h16, h⟩ := bnd_some h
  refine Ak_cV1 6 2 (c_M_rulesAll h16) rfl hO clX13 rfl mok_M_rulesAll lkM_M_436 (d_M_isWhole 3 3 (.invokevirtual 436) 3 rfl) rfl (by decide) (Nat.le_of_ble_eq_true rfl) ?_
  refine Ak_imul 7 (d_M_isWhole 4 6 (.imul) 1 rfl) rfl ?_
  refine Ak_iadd 8 (d_M_isWhole 5 7 (.iadd) 1 rfl) rfl ?_
  refine Ak_istore_n 9 2 (d_M_isWhole 6 8 (.istore_n 2) 1 rfl) rfl rfl (by decide) ?_
  refine Ak_aload_n 10 0 (d_M_isWhole 7 9 (.aload_n 0) 1 rfl) rfl rfl rfl ?_
  obtain ⟨r17, V18, h19, h⟩ := bnd_some h
  refine Ak_cV1 13 2 (c_M_hasFields h19) rfl hO clX13 rfl mok_M_hasFields lkM_M_448 (d_M_isWhole 8 10 (.invokevirtual 448) 3 rfl) rfl (by decide) (Nat.le_of_ble_eq_true rfl) ?_
  refine Ak_if_eq 37 16 (d_M_isWhole 9 13 (.ifCond .eq 24) 3 rfl) rfl rfl (fun hc => ?_) (fun hc => ?_)
  · replace h := it_t hc h
    refine Ak_iconst 38 (d_M_isWhole 22 37 (.iconst 0) 1 rfl) rfl (rk rfl) ?_
    cases h
    exact Ak_zret (Or.inl rfl) rfl (d_M_isWhole 23 38 (.ireturn) 1 rfl)
  · replace h := it_f hc h
    refine Ak_iload_n 17 1 (d_M_isWhole 10 16 (.iload_n 1) 1 rfl) rfl rfl rfl ?_
    refine Ak_iload_n 18 2 (d_M_isWhole 11 17 (.iload_n 2) 1 rfl) rfl rfl rfl ?_
    refine Ak_bipush 20 (d_M_isWhole 12 18 (.bipush 7) 2 rfl) rfl (bp_ok rfl) (rk rfl) ?_
    refine Ak_iadd 21 (d_M_isWhole 13 20 (.iadd) 1 rfl) rfl ?_
    refine Ak_icmp_ne 37 24 (d_M_isWhole 14 21 (.if_icmp .ne 16) 3 rfl) rfl rfl (fun hc => ?_) (fun hc => ?_)
    · replace h := it_f hc h
      refine Ak_iconst 38 (d_M_isWhole 22 37 (.iconst 0) 1 rfl) rfl (rk rfl) ?_
      cases h
      exact Ak_zret (Or.inl rfl) rfl (d_M_isWhole 23 38 (.ireturn) 1 rfl)
    · replace h := it_t hc h
      refine Ak_aload_n 25 0 (d_M_isWhole 15 24 (.aload_n 0) 1 rfl) rfl rfl rfl ?_
      refine Ak_getF 28 0 hO clX13 (by decide) rfl lkF_M_7 (d_M_isWhole 16 25 (.getfield 7) 3 rfl) rfl ?_
      refine Ak_iconst 29 (d_M_isWhole 17 28 (.iconst 0) 1 rfl) rfl (rk rfl) ?_
      obtain ⟨ha20, h⟩ := gd_some h
      refine Ak_iaload 30 ha20 (d_M_isWhole 18 29 (.iaload) 1 rfl) rfl ?_
      refine Ak_aload_n 31 0 (d_M_isWhole 19 30 (.aload_n 0) 1 rfl) rfl rfl rfl ?_
      obtain ⟨r21, V22, h23, h⟩ := bnd_some h
      refine Ak_cV1 34 2 (c_M_rulesAll h23) rfl hO clX13 rfl mok_M_rulesAll lkM_M_436 (d_M_isWhole 20 31 (.invokevirtual 436) 3 rfl) rfl (by decide) (Nat.le_of_ble_eq_true rfl) ?_
      refine Ak_icmp_eq 39 37 (d_M_isWhole 21 34 (.if_icmp .eq 5) 3 rfl) rfl rfl (fun hc => ?_) (fun hc => ?_)
      · replace h := it_t hc h
        refine Ak_bipush 41 (d_M_isWhole 24 39 (.bipush 37) 2 rfl) rfl (bp_ok rfl) (rk rfl) ?_
        refine Ak_istore_n 42 3 (d_M_isWhole 25 41 (.istore_n 3) 1 rfl) rfl rfl (by decide) ?_
        refine Ak_iconst 43 (d_M_isWhole 26 42 (.iconst 0) 1 rfl) rfl (rk rfl) ?_
        refine Ak_istore 45 (d_M_isWhole 27 43 (.istore 4) 2 rfl) rfl (by decide) ?_
        refine Ak_keep [true, true, true, true, true] ?_
        exact t_M_isWhole_L45 hO FU _ _ _ _ _ h
      · replace h := it_f hc h
        refine Ak_iconst 38 (d_M_isWhole 22 37 (.iconst 0) 1 rfl) rfl (rk rfl) ?_
        cases h
        exact Ak_zret (Or.inl rfl) rfl (d_M_isWhole 23 38 (.ireturn) 1 rfl)
theorem t_M_on_J111 {S : ASh} {K34 : ASt → Int → Option (Int × ASt)} {V : ASt} {x0 x2 x3 s0 s1 s2 : Int} {r : Int} {V' : ASt} (hO : isO S x0 13 = true) (hK34 : ∀ {V : ASt} {y2 : Int} {r : Int} {V' : ASt}, K34 V y2 = some (r, V') → AWk m_M_on 5 0 0 0 0 34 [some (aR x0), none, some (aI y2)] [] S V (some (aI r)) S V') (h : b_M_on_J111 S K34 V x0 x2 x3 s0 s1 s2 = some (r, V')) : AWk m_M_on 5 0 0 0 0 111 [some (aR x0), none, some (aI x2), some (aI x3)] [(aI s2), (aI s1), (aR s0)] S V (some (aI r)) S V' := by
  unfold b_M_on_J111 at h
  obtain ⟨ha1, h⟩ := gd_some h
  obtain ⟨hb2, h⟩ := gd_some h
  refine Ak_bastore 112 ha1 (dec_t hb2) (d_M_on 73 111 (.bastore) 1 rfl) rfl (fun V3 hV3 => ?_)
  replace h := wV_some h V3 hV3
  refine Ak_aload_n 113 0 (d_M_on 74 112 (.aload_n 0) 1 rfl) rfl rfl rfl ?_
  refine Ak_getF 116 47 hO clX13 (by decide) rfl lkF_M_156 (d_M_on 75 113 (.getfield 156) 3 rfl) rfl ?_
  refine Ak_iload_n 117 3 (d_M_on 76 116 (.iload_n 3) 1 rfl) rfl rfl rfl ?_
  refine Ak_aload_n 118 0 (d_M_on 77 117 (.aload_n 0) 1 rfl) rfl rfl rfl ?_
  refine Ak_getF 121 0 hO clX13 (by decide) rfl lkF_M_7 (d_M_on 78 118 (.getfield 7) 3 rfl) rfl ?_
  refine Ak_iconst 122 (d_M_on 79 121 (.iconst 3) 1 rfl) rfl (rk rfl) ?_
  refine Ak_iconst 123 (d_M_on 80 122 (.iconst 3) 1 rfl) rfl (rk rfl) ?_
  refine Ak_iload_n 124 2 (d_M_on 81 123 (.iload_n 2) 1 rfl) rfl rfl rfl ?_
  refine Ak_imul 125 (d_M_on 82 124 (.imul) 1 rfl) rfl ?_
  refine Ak_iadd 126 (d_M_on 83 125 (.iadd) 1 rfl) rfl ?_
  obtain ⟨ha4, h⟩ := gd_some h
  refine Ak_iaload 127 ha4 (d_M_on 84 126 (.iaload) 1 rfl) rfl ?_
  obtain ⟨ha5, h⟩ := gd_some h
  refine Ak_iastore 128 ha5 (d_M_on 85 127 (.iastore) 1 rfl) rfl (fun V6 hV6 => ?_)
  replace h := wV_some h V6 hV6
  refine Ak_iinc 131 (d_M_on 86 128 (.iinc 2 1) 3 rfl) rfl rfl (by decide) ?_
  refine Ak_goto 34 (d_M_on 87 131 (.goto (-97)) 3 rfl) rfl ?_
  refine Ak_keep [true, false, true] ?_
  exact hK34 h
theorem t_M_on_J86 {S : ASh} {K34 : ASt → Int → Option (Int × ASt)} {V : ASt} {x0 x2 x3 s0 s1 s2 : Int} {r : Int} {V' : ASt} (hO : isO S x0 13 = true) (hK34 : ∀ {V : ASt} {y2 : Int} {r : Int} {V' : ASt}, K34 V y2 = some (r, V') → AWk m_M_on 5 0 0 0 0 34 [some (aR x0), none, some (aI y2)] [] S V (some (aI r)) S V') (h : b_M_on_J86 S K34 V x0 x2 x3 s0 s1 s2 = some (r, V')) : AWk m_M_on 5 0 0 0 0 86 [some (aR x0), none, some (aI x2), some (aI x3)] [(aI s2), (aI s1), (aR s0)] S V (some (aI r)) S V' := by
  unfold b_M_on_J86 at h
  obtain ⟨ha7, h⟩ := gd_some h
  obtain ⟨hb8, h⟩ := gd_some h
  refine Ak_bastore 87 ha7 (dec_t hb8) (d_M_on 56 86 (.bastore) 1 rfl) rfl (fun V9 hV9 => ?_)
  replace h := wV_some h V9 hV9
  refine Ak_aload_n 88 0 (d_M_on 57 87 (.aload_n 0) 1 rfl) rfl rfl rfl ?_
  refine Ak_getF 91 46 hO clX13 (by decide) rfl lkF_M_153 (d_M_on 58 88 (.getfield 153) 3 rfl) rfl ?_
  refine Ak_iload_n 92 3 (d_M_on 59 91 (.iload_n 3) 1 rfl) rfl rfl rfl ?_
  refine Ak_aload_n 93 0 (d_M_on 60 92 (.aload_n 0) 1 rfl) rfl rfl rfl ?_
  refine Ak_getF 96 0 hO clX13 (by decide) rfl lkF_M_7 (d_M_on 61 93 (.getfield 7) 3 rfl) rfl ?_
  refine Ak_iconst 97 (d_M_on 62 96 (.iconst 2) 1 rfl) rfl (rk rfl) ?_
  refine Ak_iconst 98 (d_M_on 63 97 (.iconst 3) 1 rfl) rfl (rk rfl) ?_
  refine Ak_iload_n 99 2 (d_M_on 64 98 (.iload_n 2) 1 rfl) rfl rfl rfl ?_
  refine Ak_imul 100 (d_M_on 65 99 (.imul) 1 rfl) rfl ?_
  refine Ak_iadd 101 (d_M_on 66 100 (.iadd) 1 rfl) rfl ?_
  obtain ⟨ha10, h⟩ := gd_some h
  refine Ak_iaload 102 ha10 (d_M_on 67 101 (.iaload) 1 rfl) rfl ?_
  refine Ak_iconst 103 (d_M_on 68 102 (.iconst 1) 1 rfl) rfl (rk rfl) ?_
  refine Ak_icmp_le 110 106 (d_M_on 69 103 (.if_icmp .le 7) 3 rfl) rfl rfl (fun hc => ?_) (fun hc => ?_)
  · replace h := it_t hc h
    refine Ak_iconst 111 (d_M_on 72 110 (.iconst 0) 1 rfl) rfl (rk rfl) ?_
    refine Ak_keep [true, false, true, true] ?_
    exact t_M_on_J111 hO (fun h => hK34 h) h
  · replace h := it_f hc h
    refine Ak_iconst 107 (d_M_on 70 106 (.iconst 1) 1 rfl) rfl (rk rfl) ?_
    refine Ak_goto 111 (d_M_on 71 107 (.goto 4) 3 rfl) rfl ?_
    refine Ak_keep [true, false, true, true] ?_
    exact t_M_on_J111 hO (fun h => hK34 h) h
theorem t_M_on_L34 {S : ASh} {x0 : Int} (hO : isO S x0 13 = true) : ∀ (n : Nat) (V : ASt) (x2 : Int) (r : Int) (V' : ASt), b_M_on_L34 S x0 n V x2 = some (r, V') → AWk m_M_on 5 0 0 0 0 34 [some (aR x0), none, some (aI x2)] [] S V (some (aI r)) S V' := by
  intro n
  induction n with
  | zero => intro V x2 r V' h; cases h
  | succ n ih =>
    intro V x2 r V' h
    replace ih : ∀ {V : ASt} {x2 : Int} {r : Int} {V' : ASt}, b_M_on_L34 S x0 n V x2 = some (r, V') → AWk m_M_on 5 0 0 0 0 34 [some (aR x0), none, some (aI x2)] [] S V (some (aI r)) S V' := fun h => ih _ _ _ _ h
    rw [b_M_on_L34] at h
    refine Ak_iload_n 35 2 (d_M_on 20 34 (.iload_n 2) 1 rfl) rfl rfl rfl ?_
    refine Ak_aload_n 36 0 (d_M_on 21 35 (.aload_n 0) 1 rfl) rfl rfl rfl ?_
    obtain ⟨r11, V12, h13, h⟩ := bnd_some h
    refine Ak_cV1 39 2 (c_M_rulesAll h13) rfl hO clX13 rfl mok_M_rulesAll lkM_M_436 (d_M_on 22 36 (.invokevirtual 436) 3 rfl) rfl (by decide) (Nat.le_of_ble_eq_true rfl) ?_
    refine Ak_icmp_ge 134 42 (d_M_on 23 39 (.if_icmp .ge 95) 3 rfl) rfl rfl (fun hc => ?_) (fun hc => ?_)
    · replace h := it_t hc h
      refine Ak_iconst 135 (d_M_on 88 134 (.iconst 1) 1 rfl) rfl (rk rfl) ?_
      refine Ak_iconst 136 (d_M_on 89 135 (.iconst 3) 1 rfl) rfl (rk rfl) ?_
      refine Ak_aload_n 137 0 (d_M_on 90 136 (.aload_n 0) 1 rfl) rfl rfl rfl ?_
      obtain ⟨r14, V15, h16, h⟩ := bnd_some h
      refine Ak_cV1 140 2 (c_M_rulesAll h16) rfl hO clX13 rfl mok_M_rulesAll lkM_M_436 (d_M_on 91 137 (.invokevirtual 436) 3 rfl) rfl (by decide) (Nat.le_of_ble_eq_true rfl) ?_
      refine Ak_imul 141 (d_M_on 92 140 (.imul) 1 rfl) rfl ?_
      refine Ak_iadd 142 (d_M_on 93 141 (.iadd) 1 rfl) rfl ?_
      refine Ak_istore_n 143 2 (d_M_on 94 142 (.istore_n 2) 1 rfl) rfl rfl (by decide) ?_
      refine Ak_aload_n 144 0 (d_M_on 95 143 (.aload_n 0) 1 rfl) rfl rfl rfl ?_
      refine Ak_sipush 147 (d_M_on 96 144 (.sipush 256) 3 rfl) rfl (sp_ok rfl) (rk rfl) ?_
      refine Ak_aload_n 148 0 (d_M_on 97 147 (.aload_n 0) 1 rfl) rfl rfl rfl ?_
      refine Ak_getF 151 0 hO clX13 (by decide) rfl lkF_M_7 (d_M_on 98 148 (.getfield 7) 3 rfl) rfl ?_
      refine Ak_iload_n 152 2 (d_M_on 99 151 (.iload_n 2) 1 rfl) rfl rfl rfl ?_
      obtain ⟨ha17, h⟩ := gd_some h
      refine Ak_iaload 153 ha17 (d_M_on 100 152 (.iaload) 1 rfl) rfl ?_
      refine Ak_imul 154 (d_M_on 101 153 (.imul) 1 rfl) rfl ?_
      refine Ak_aload_n 155 0 (d_M_on 102 154 (.aload_n 0) 1 rfl) rfl rfl rfl ?_
      refine Ak_getF 158 0 hO clX13 (by decide) rfl lkF_M_7 (d_M_on 103 155 (.getfield 7) 3 rfl) rfl ?_
      refine Ak_iload_n 159 2 (d_M_on 104 158 (.iload_n 2) 1 rfl) rfl rfl rfl ?_
      refine Ak_iconst 160 (d_M_on 105 159 (.iconst 1) 1 rfl) rfl (rk rfl) ?_
      refine Ak_iadd 161 (d_M_on 106 160 (.iadd) 1 rfl) rfl ?_
      obtain ⟨ha18, h⟩ := gd_some h
      refine Ak_iaload 162 ha18 (d_M_on 107 161 (.iaload) 1 rfl) rfl ?_
      refine Ak_iadd 163 (d_M_on 108 162 (.iadd) 1 rfl) rfl ?_
      refine Ak_putI 166 48 hO clX13 (by decide) rfl rfl rfl lkF_M_159 (d_M_on 109 163 (.putfield 159) 3 rfl) rfl (fun V19 hV19 => ?_)
      replace h := wV_some h V19 hV19
      refine Ak_aload_n 167 0 (d_M_on 110 166 (.aload_n 0) 1 rfl) rfl rfl rfl ?_
      refine Ak_getF 170 49 hO clX13 (by decide) rfl lkF_M_162 (d_M_on 111 167 (.getfield 162) 3 rfl) rfl ?_
      refine Ak_iconst 171 (d_M_on 112 170 (.iconst 0) 1 rfl) rfl (rk rfl) ?_
      refine Ak_aload_n 172 0 (d_M_on 113 171 (.aload_n 0) 1 rfl) rfl rfl rfl ?_
      refine Ak_getF 175 0 hO clX13 (by decide) rfl lkF_M_7 (d_M_on 114 172 (.getfield 7) 3 rfl) rfl ?_
      refine Ak_iload_n 176 2 (d_M_on 115 175 (.iload_n 2) 1 rfl) rfl rfl rfl ?_
      refine Ak_iconst 177 (d_M_on 116 176 (.iconst 2) 1 rfl) rfl (rk rfl) ?_
      refine Ak_iadd 178 (d_M_on 117 177 (.iadd) 1 rfl) rfl ?_
      obtain ⟨ha20, h⟩ := gd_some h
      refine Ak_iaload 179 ha20 (d_M_on 118 178 (.iaload) 1 rfl) rfl ?_
      obtain ⟨ha21, h⟩ := gd_some h
      refine Ak_iastore 180 ha21 (d_M_on 119 179 (.iastore) 1 rfl) rfl (fun V22 hV22 => ?_)
      replace h := wV_some h V22 hV22
      refine Ak_aload_n 181 0 (d_M_on 120 180 (.aload_n 0) 1 rfl) rfl rfl rfl ?_
      refine Ak_getF 184 49 hO clX13 (by decide) rfl lkF_M_162 (d_M_on 121 181 (.getfield 162) 3 rfl) rfl ?_
      refine Ak_iconst 185 (d_M_on 122 184 (.iconst 1) 1 rfl) rfl (rk rfl) ?_
      refine Ak_aload_n 186 0 (d_M_on 123 185 (.aload_n 0) 1 rfl) rfl rfl rfl ?_
      refine Ak_getF 189 0 hO clX13 (by decide) rfl lkF_M_7 (d_M_on 124 186 (.getfield 7) 3 rfl) rfl ?_
      refine Ak_iload_n 190 2 (d_M_on 125 189 (.iload_n 2) 1 rfl) rfl rfl rfl ?_
      refine Ak_iconst 191 (d_M_on 126 190 (.iconst 3) 1 rfl) rfl (rk rfl) ?_
      refine Ak_iadd 192 (d_M_on 127 191 (.iadd) 1 rfl) rfl ?_
      obtain ⟨ha23, h⟩ := gd_some h
      refine Ak_iaload 193 ha23 (d_M_on 128 192 (.iaload) 1 rfl) rfl ?_
      obtain ⟨ha24, h⟩ := gd_some h
      refine Ak_iastore 194 ha24 (d_M_on 129 193 (.iastore) 1 rfl) rfl (fun V25 hV25 => ?_)
      replace h := wV_some h V25 hV25
      refine Ak_aload_n 195 0 (d_M_on 130 194 (.aload_n 0) 1 rfl) rfl rfl rfl ?_
      refine Ak_getF 198 50 hO clX13 (by decide) rfl lkF_M_165 (d_M_on 131 195 (.getfield 165) 3 rfl) rfl ?_
      refine Ak_iconst 199 (d_M_on 132 198 (.iconst 0) 1 rfl) rfl (rk rfl) ?_
      refine Ak_aload_n 200 0 (d_M_on 133 199 (.aload_n 0) 1 rfl) rfl rfl rfl ?_
      refine Ak_getF 203 0 hO clX13 (by decide) rfl lkF_M_7 (d_M_on 134 200 (.getfield 7) 3 rfl) rfl ?_
      refine Ak_iload_n 204 2 (d_M_on 135 203 (.iload_n 2) 1 rfl) rfl rfl rfl ?_
      refine Ak_iconst 205 (d_M_on 136 204 (.iconst 4) 1 rfl) rfl (rk rfl) ?_
      refine Ak_iadd 206 (d_M_on 137 205 (.iadd) 1 rfl) rfl ?_
      obtain ⟨ha26, h⟩ := gd_some h
      refine Ak_iaload 207 ha26 (d_M_on 138 206 (.iaload) 1 rfl) rfl ?_
      obtain ⟨ha27, h⟩ := gd_some h
      refine Ak_iastore 208 ha27 (d_M_on 139 207 (.iastore) 1 rfl) rfl (fun V28 hV28 => ?_)
      replace h := wV_some h V28 hV28
      refine Ak_aload_n 209 0 (d_M_on 140 208 (.aload_n 0) 1 rfl) rfl rfl rfl ?_
      refine Ak_getF 212 50 hO clX13 (by decide) rfl lkF_M_165 (d_M_on 141 209 (.getfield 165) 3 rfl) rfl ?_
      refine Ak_iconst 213 (d_M_on 142 212 (.iconst 1) 1 rfl) rfl (rk rfl) ?_
      refine Ak_aload_n 214 0 (d_M_on 143 213 (.aload_n 0) 1 rfl) rfl rfl rfl ?_
      refine Ak_getF 217 0 hO clX13 (by decide) rfl lkF_M_7 (d_M_on 144 214 (.getfield 7) 3 rfl) rfl ?_
      refine Ak_iload_n 218 2 (d_M_on 145 217 (.iload_n 2) 1 rfl) rfl rfl rfl ?_
      refine Ak_iconst 219 (d_M_on 146 218 (.iconst 5) 1 rfl) rfl (rk rfl) ?_
      refine Ak_iadd 220 (d_M_on 147 219 (.iadd) 1 rfl) rfl ?_
      obtain ⟨ha29, h⟩ := gd_some h
      refine Ak_iaload 221 ha29 (d_M_on 148 220 (.iaload) 1 rfl) rfl ?_
      obtain ⟨ha30, h⟩ := gd_some h
      refine Ak_iastore 222 ha30 (d_M_on 149 221 (.iastore) 1 rfl) rfl (fun V31 hV31 => ?_)
      replace h := wV_some h V31 hV31
      refine Ak_aload_n 223 0 (d_M_on 150 222 (.aload_n 0) 1 rfl) rfl rfl rfl ?_
      refine Ak_iconst 224 (d_M_on 151 223 (.iconst 0) 1 rfl) rfl (rk rfl) ?_
      refine Ak_putI 227 65 hO clX13 (by decide) rfl rfl rfl lkF_M_210 (d_M_on 152 224 (.putfield 210) 3 rfl) rfl (fun V32 hV32 => ?_)
      replace h := wV_some h V32 hV32
      refine Ak_aload_n 228 0 (d_M_on 153 227 (.aload_n 0) 1 rfl) rfl rfl rfl ?_
      obtain ⟨r33, V34, h35, h⟩ := bnd_some h
      refine Ak_cV1 231 4 (c_M_anews h35) rfl hO clX13 rfl mok_M_anews lkM_M_442 (d_M_on 154 228 (.invokevirtual 442) 3 rfl) rfl (by decide) (Nat.le_of_ble_eq_true rfl) ?_
      refine Ak_istore_n 232 3 (d_M_on 155 231 (.istore_n 3) 1 rfl) rfl rfl (by decide) ?_
      refine Ak_iload_n 233 3 (d_M_on 156 232 (.iload_n 3) 1 rfl) rfl rfl rfl ?_
      refine Ak_if_lt 240 236 (d_M_on 157 233 (.ifCond .lt 7) 3 rfl) rfl rfl (fun hc => ?_) (fun hc => ?_)
      · replace h := it_t hc h
        refine Ak_iconst 241 (d_M_on 160 240 (.iconst 0) 1 rfl) rfl (rk rfl) ?_
        cases h
        exact Ak_zret (Or.inl rfl) rfl (d_M_on 161 241 (.ireturn) 1 rfl)
      · replace h := it_f hc h
        refine Ak_iconst 237 (d_M_on 158 236 (.iconst 1) 1 rfl) rfl (rk rfl) ?_
        refine Ak_goto 241 (d_M_on 159 237 (.goto 4) 3 rfl) rfl ?_
        cases h
        exact Ak_zret (Or.inr rfl) rfl (d_M_on 161 241 (.ireturn) 1 rfl)
    · replace h := it_f hc h
      refine Ak_aload_n 43 0 (d_M_on 24 42 (.aload_n 0) 1 rfl) rfl rfl rfl ?_
      refine Ak_getF 46 0 hO clX13 (by decide) rfl lkF_M_7 (d_M_on 25 43 (.getfield 7) 3 rfl) rfl ?_
      refine Ak_iconst 47 (d_M_on 26 46 (.iconst 1) 1 rfl) rfl (rk rfl) ?_
      refine Ak_iconst 48 (d_M_on 27 47 (.iconst 3) 1 rfl) rfl (rk rfl) ?_
      refine Ak_iload_n 49 2 (d_M_on 28 48 (.iload_n 2) 1 rfl) rfl rfl rfl ?_
      refine Ak_imul 50 (d_M_on 29 49 (.imul) 1 rfl) rfl ?_
      refine Ak_iadd 51 (d_M_on 30 50 (.iadd) 1 rfl) rfl ?_
      obtain ⟨ha36, h⟩ := gd_some h
      refine Ak_iaload 52 ha36 (d_M_on 31 51 (.iaload) 1 rfl) rfl ?_
      refine Ak_istore_n 53 3 (d_M_on 32 52 (.istore_n 3) 1 rfl) rfl rfl (by decide) ?_
      refine Ak_aload_n 54 0 (d_M_on 33 53 (.aload_n 0) 1 rfl) rfl rfl rfl ?_
      refine Ak_getF 57 44 hO clX13 (by decide) rfl lkF_M_147 (d_M_on 34 54 (.getfield 147) 3 rfl) rfl ?_
      refine Ak_iload_n 58 2 (d_M_on 35 57 (.iload_n 2) 1 rfl) rfl rfl rfl ?_
      refine Ak_iload_n 59 3 (d_M_on 36 58 (.iload_n 3) 1 rfl) rfl rfl rfl ?_
      obtain ⟨ha37, h⟩ := gd_some h
      refine Ak_iastore 60 ha37 (d_M_on 37 59 (.iastore) 1 rfl) rfl (fun V38 hV38 => ?_)
      replace h := wV_some h V38 hV38
      refine Ak_aload_n 61 0 (d_M_on 38 60 (.aload_n 0) 1 rfl) rfl rfl rfl ?_
      refine Ak_getF 64 45 hO clX13 (by decide) rfl lkF_M_150 (d_M_on 39 61 (.getfield 150) 3 rfl) rfl ?_
      refine Ak_iload_n 65 3 (d_M_on 40 64 (.iload_n 3) 1 rfl) rfl rfl rfl ?_
      refine Ak_aload_n 66 0 (d_M_on 41 65 (.aload_n 0) 1 rfl) rfl rfl rfl ?_
      refine Ak_getF 69 0 hO clX13 (by decide) rfl lkF_M_7 (d_M_on 42 66 (.getfield 7) 3 rfl) rfl ?_
      refine Ak_iconst 70 (d_M_on 43 69 (.iconst 2) 1 rfl) rfl (rk rfl) ?_
      refine Ak_iconst 71 (d_M_on 44 70 (.iconst 3) 1 rfl) rfl (rk rfl) ?_
      refine Ak_iload_n 72 2 (d_M_on 45 71 (.iload_n 2) 1 rfl) rfl rfl rfl ?_
      refine Ak_imul 73 (d_M_on 46 72 (.imul) 1 rfl) rfl ?_
      refine Ak_iadd 74 (d_M_on 47 73 (.iadd) 1 rfl) rfl ?_
      obtain ⟨ha39, h⟩ := gd_some h
      refine Ak_iaload 75 ha39 (d_M_on 48 74 (.iaload) 1 rfl) rfl ?_
      refine Ak_iconst 76 (d_M_on 49 75 (.iconst 2) 1 rfl) rfl (rk rfl) ?_
      refine Ak_irem 77 (d_M_on 50 76 (.irem) 1 rfl) rfl (by decide) ?_
      refine Ak_iconst 78 (d_M_on 51 77 (.iconst 1) 1 rfl) rfl (rk rfl) ?_
      refine Ak_icmp_ne 85 81 (d_M_on 52 78 (.if_icmp .ne 7) 3 rfl) rfl rfl (fun hc => ?_) (fun hc => ?_)
      · replace h := it_f hc h
        refine Ak_iconst 86 (d_M_on 55 85 (.iconst 0) 1 rfl) rfl (rk rfl) ?_
        refine Ak_keep [true, false, true, true] ?_
        exact t_M_on_J86 hO (fun h => ih h) h
      · replace h := it_t hc h
        refine Ak_iconst 82 (d_M_on 53 81 (.iconst 1) 1 rfl) rfl (rk rfl) ?_
        refine Ak_goto 86 (d_M_on 54 82 (.goto 4) 3 rfl) rfl ?_
        refine Ak_keep [true, false, true, true] ?_
        exact t_M_on_J86 hO (fun h => ih h) h
theorem c_M_on {S : ASh} {V : ASt} {x0 : Int} {r : Int} {V' : ASt} (h : f_M_on S V x0 = some (r, V')) : ACt m_M_on 5 0 0 [(aR x0)] S V (some (aI r)) S V' := by
  unfold f_M_on at h
  obtain ⟨hO, h⟩ := gd_some h
  refine ACt_of (plainFor_of_name rfl) rfl (Nat.le_of_ble_eq_true rfl) ?_
  show AWk m_M_on 5 0 0 0 0 0 [some (aR x0)] [] S V (some (aI r)) S V'
  refine Ak_aload_n 1 0 (d_M_on 0 0 (.aload_n 0) 1 rfl) rfl rfl rfl ?_
  refine Ak_getI 4 1 hO clX13 (by decide) (Or.inl rfl) lkF_M_13 (d_M_on 1 1 (.getfield 13) 3 rfl) rfl ?_
  refine Ak_istore_n 5 1 (d_M_on 2 4 (.istore_n 1) 1 rfl) rfl rfl (by decide) ?_
  refine Ak_aload_n 6 0 (d_M_on 3 5 (.aload_n 0) 1 rfl) rfl rfl rfl ?_
  refine Ak_iconst 7 (d_M_on 4 6 (.iconst 0) 1 rfl) rfl (rk rfl) ?_
  refine Ak_putI 10 1 hO clX13 (by decide) rfl rfl rfl lkF_M_13 (d_M_on 5 7 (.putfield 13) 3 rfl) rfl (fun V40 hV40 => ?_)
  replace h := wV_some h V40 hV40
  refine Ak_aload_n 11 0 (d_M_on 6 10 (.aload_n 0) 1 rfl) rfl rfl rfl ?_
  refine Ak_iload_n 12 1 (d_M_on 7 11 (.iload_n 1) 1 rfl) rfl rfl rfl ?_
  obtain ⟨r41, V42, h43, h⟩ := bnd_some h
  refine Ak_cV1 15 4 (c_M_isWhole h43) rfl hO clX13 rfl mok_M_isWhole lkM_M_576 (d_M_on 8 12 (.invokevirtual 576) 3 rfl) rfl (by decide) (Nat.le_of_ble_eq_true rfl) ?_
  refine Ak_if_ne 32 18 (d_M_on 9 15 (.ifCond .ne 17) 3 rfl) rfl rfl (fun hc => ?_) (fun hc => ?_)
  · replace h := it_f hc h
    refine Ak_iconst 33 (d_M_on 18 32 (.iconst 0) 1 rfl) rfl (rk rfl) ?_
    refine Ak_istore_n 34 2 (d_M_on 19 33 (.istore_n 2) 1 rfl) rfl rfl (by decide) ?_
    refine Ak_keep [true, false, true] ?_
    exact t_M_on_L34 hO FU _ _ _ _ h
  · replace h := it_t hc h
    refine Ak_aload_n 19 0 (d_M_on 10 18 (.aload_n 0) 1 rfl) rfl rfl rfl ?_
    refine Ak_iconst 20 (d_M_on 11 19 (.iconst 5) 1 rfl) rfl (rk rfl) ?_
    obtain ⟨r44, V45, h46, h⟩ := bnd_some h
    refine Ak_cV1 23 2 (c_M_refuses h46) rfl hO clX13 rfl mok_M_refuses lkM_M_258 (d_M_on 12 20 (.invokevirtual 258) 3 rfl) rfl (by decide) (Nat.le_of_ble_eq_true rfl) ?_
    refine Ak_if_lt 30 26 (d_M_on 13 23 (.ifCond .lt 7) 3 rfl) rfl rfl (fun hc => ?_) (fun hc => ?_)
    · replace h := it_t hc h
      refine Ak_iconst 31 (d_M_on 16 30 (.iconst 0) 1 rfl) rfl (rk rfl) ?_
      cases h
      exact Ak_zret (Or.inl rfl) rfl (d_M_on 17 31 (.ireturn) 1 rfl)
    · replace h := it_f hc h
      refine Ak_iconst 27 (d_M_on 14 26 (.iconst 1) 1 rfl) rfl (rk rfl) ?_
      refine Ak_goto 31 (d_M_on 15 27 (.goto 4) 3 rfl) rfl ?_
      cases h
      exact Ak_zret (Or.inr rfl) rfl (d_M_on 17 31 (.ireturn) 1 rfl)
