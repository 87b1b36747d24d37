/-! printed by wip/gen/gen_all.py: contracts of SundayGame -/
theorem c_SG_refuse {S : ASh} {V : ASt} {x0 x1 : Int} {r : Int} {V' : ASt} (h : f_SG_refuse S V x0 x1 = some (r, V')) : ACt m_SG_refuse 2 0 0 [(aR x0), (aI x1)] S V none S V' := by
  unfold f_SG_refuse at h
  obtain ⟨hO, h⟩ := gd_some h
  refine ACt_of (plainFor_of_name rfl) rfl (Nat.le_of_ble_eq_true rfl) ?_
  show AWk m_SG_refuse 2 0 0 0 0 0 [some (aR x0), some (aI x1)] [] S V none S V'
  refine Ak_iload_n 1 1 (d_SG_refuse 0 0 (.iload_n 1) 1 rfl) rfl rfl rfl ?_
  refine Ak_if_lt 20 4 (d_SG_refuse 1 1 (.ifCond .lt 19) 3 rfl) rfl rfl (fun hc => ?_) (fun hc => ?_)
  · replace h := it_t hc h
    cases h
    exact Ak_vret rfl (d_SG_refuse 13 20 (.return_) 1 rfl)
  · replace h := it_f hc h
    refine Ak_iload_n 5 1 (d_SG_refuse 2 4 (.iload_n 1) 1 rfl) rfl rfl rfl ?_
    refine Ak_bipush 7 (d_SG_refuse 3 5 (.bipush 6) 2 rfl) rfl (bp_ok rfl) (rk rfl) ?_
    refine Ak_icmp_ge 20 10 (d_SG_refuse 4 7 (.if_icmp .ge 13) 3 rfl) rfl rfl (fun hc => ?_) (fun hc => ?_)
    · replace h := it_t hc h
      cases h
      exact Ak_vret rfl (d_SG_refuse 13 20 (.return_) 1 rfl)
    · replace h := it_f hc h
      refine Ak_aload_n 11 0 (d_SG_refuse 5 10 (.aload_n 0) 1 rfl) rfl rfl rfl ?_
      refine Ak_getF 14 19 hO clX12 (by decide) rfl lkF_SG_117 (d_SG_refuse 6 11 (.getfield 117) 3 rfl) rfl ?_
      refine Ak_iload_n 15 1 (d_SG_refuse 7 14 (.iload_n 1) 1 rfl) rfl rfl rfl ?_
      refine Ak_dup2 16 (d_SG_refuse 8 15 (.dup2) 1 rfl) rfl rfl rfl ?_
      obtain ⟨ha1, h⟩ := gd_some h
      refine Ak_iaload 17 ha1 (d_SG_refuse 9 16 (.iaload) 1 rfl) rfl ?_
      refine Ak_iconst 18 (d_SG_refuse 10 17 (.iconst 1) 1 rfl) rfl (rk rfl) ?_
      refine Ak_iadd 19 (d_SG_refuse 11 18 (.iadd) 1 rfl) rfl ?_
      refine Ak_iastore 20 ha1 (d_SG_refuse 12 19 (.iastore) 1 rfl) rfl (fun V2 hV2 => ?_)
      replace h := wV_some h V2 hV2
      cases h
      exact Ak_vret rfl (d_SG_refuse 13 20 (.return_) 1 rfl)
theorem c_SG_feed {S : ASh} {V : ASt} {x0 x1 x2 x3 x4 x5 : Int} {r : Int} {V' : ASt} (h : f_SG_feed S V x0 x1 x2 x3 x4 x5 = some (r, V')) : ACt m_SG_feed 4 0 0 [(aR x0), (aI x1), (aI x2), (aI x3), (aI x4), (aI x5)] S V (some (aI r)) S V' := by
  unfold f_SG_feed at h
  obtain ⟨hO, h⟩ := gd_some h
  refine ACt_of (plainFor_of_name rfl) rfl (Nat.le_of_ble_eq_true rfl) ?_
  show AWk m_SG_feed 4 0 0 0 0 0 [some (aR x0), some (aI x1), some (aI x2), some (aI x3), some (aI x4), some (aI x5)] [] S V (some (aI r)) S V'
  refine Ak_aload_n 1 0 (d_SG_feed 0 0 (.aload_n 0) 1 rfl) rfl rfl rfl ?_
  refine Ak_getF 4 0 hO clX12 (by decide) rfl lkF_SG_14 (d_SG_feed 1 1 (.getfield 14) 3 rfl) rfl ?_
  obtain ⟨hg1, h⟩ := gd_some h
  refine Ak_getI 7 0 hg1 clX0 (by decide) (Or.inl rfl) lkF_SG_123 (d_SG_feed 2 4 (.getfield 123) 3 rfl) rfl ?_
  refine Ak_bipush 9 (d_SG_feed 3 7 (.bipush 20) 2 rfl) rfl (bp_ok rfl) (rk rfl) ?_
  refine Ak_iadd 10 (d_SG_feed 4 9 (.iadd) 1 rfl) rfl ?_
  refine Ak_sipush 13 (d_SG_feed 5 10 (.sipush 1800) 3 rfl) rfl (sp_ok rfl) (rk rfl) ?_
  refine Ak_icmp_le 23 16 (d_SG_feed 6 13 (.if_icmp .le 10) 3 rfl) rfl rfl (fun hc => ?_) (fun hc => ?_)
  · replace h := it_t hc h
    refine Ak_aload_n 24 0 (d_SG_feed 12 23 (.aload_n 0) 1 rfl) rfl rfl rfl ?_
    refine Ak_getF 27 0 hO clX12 (by decide) rfl lkF_SG_14 (d_SG_feed 13 24 (.getfield 14) 3 rfl) rfl ?_
    refine Ak_iload_n 28 1 (d_SG_feed 14 27 (.iload_n 1) 1 rfl) rfl rfl rfl ?_
    obtain ⟨r2, V3, h4, h⟩ := bnd_some h
    refine Ak_cV0 31 3 (c_Bytes_putFour h4) rfl hg1 clX0 rfl mok_Bytes_putFour lkM_SG_129 (d_SG_feed 15 28 (.invokevirtual 129) 3 rfl) rfl (by decide) (Nat.le_of_ble_eq_true rfl) ?_
    refine Ak_aload_n 32 0 (d_SG_feed 16 31 (.aload_n 0) 1 rfl) rfl rfl rfl ?_
    refine Ak_getF 35 0 hO clX12 (by decide) rfl lkF_SG_14 (d_SG_feed 17 32 (.getfield 14) 3 rfl) rfl ?_
    refine Ak_iload_n 36 2 (d_SG_feed 18 35 (.iload_n 2) 1 rfl) rfl rfl rfl ?_
    obtain ⟨r5, V6, h7, h⟩ := bnd_some h
    refine Ak_cV0 39 3 (c_Bytes_putFour h7) rfl hg1 clX0 rfl mok_Bytes_putFour lkM_SG_129 (d_SG_feed 19 36 (.invokevirtual 129) 3 rfl) rfl (by decide) (Nat.le_of_ble_eq_true rfl) ?_
    refine Ak_aload_n 40 0 (d_SG_feed 20 39 (.aload_n 0) 1 rfl) rfl rfl rfl ?_
    refine Ak_getF 43 0 hO clX12 (by decide) rfl lkF_SG_14 (d_SG_feed 21 40 (.getfield 14) 3 rfl) rfl ?_
    refine Ak_iload_n 44 3 (d_SG_feed 22 43 (.iload_n 3) 1 rfl) rfl rfl rfl ?_
    obtain ⟨r8, V9, h10, h⟩ := bnd_some h
    refine Ak_cV0 47 3 (c_Bytes_putFour h10) rfl hg1 clX0 rfl mok_Bytes_putFour lkM_SG_129 (d_SG_feed 23 44 (.invokevirtual 129) 3 rfl) rfl (by decide) (Nat.le_of_ble_eq_true rfl) ?_
    refine Ak_aload_n 48 0 (d_SG_feed 24 47 (.aload_n 0) 1 rfl) rfl rfl rfl ?_
    refine Ak_getF 51 0 hO clX12 (by decide) rfl lkF_SG_14 (d_SG_feed 25 48 (.getfield 14) 3 rfl) rfl ?_
    refine Ak_iload 53 (d_SG_feed 26 51 (.iload 4) 2 rfl) rfl rfl ?_
    obtain ⟨r11, V12, h13, h⟩ := bnd_some h
    refine Ak_cV0 56 3 (c_Bytes_putFour h13) rfl hg1 clX0 rfl mok_Bytes_putFour lkM_SG_129 (d_SG_feed 27 53 (.invokevirtual 129) 3 rfl) rfl (by decide) (Nat.le_of_ble_eq_true rfl) ?_
    refine Ak_aload_n 57 0 (d_SG_feed 28 56 (.aload_n 0) 1 rfl) rfl rfl rfl ?_
    refine Ak_getF 60 0 hO clX12 (by decide) rfl lkF_SG_14 (d_SG_feed 29 57 (.getfield 14) 3 rfl) rfl ?_
    refine Ak_iload 62 (d_SG_feed 30 60 (.iload 5) 2 rfl) rfl rfl ?_
    obtain ⟨r14, V15, h16, h⟩ := bnd_some h
    refine Ak_cV0 65 3 (c_Bytes_putFour h16) rfl hg1 clX0 rfl mok_Bytes_putFour lkM_SG_129 (d_SG_feed 31 62 (.invokevirtual 129) 3 rfl) rfl (by decide) (Nat.le_of_ble_eq_true rfl) ?_
    refine Ak_aload_n 66 0 (d_SG_feed 32 65 (.aload_n 0) 1 rfl) rfl rfl rfl ?_
    refine Ak_getF 69 0 hO clX12 (by decide) rfl lkF_SG_14 (d_SG_feed 33 66 (.getfield 14) 3 rfl) rfl ?_
    refine Ak_getI 72 0 hg1 clX0 (by decide) (Or.inl rfl) lkF_SG_123 (d_SG_feed 34 69 (.getfield 123) 3 rfl) rfl ?_
    cases h
    exact Ak_iret rfl (d_SG_feed 35 72 (.ireturn) 1 rfl)
  · replace h := it_f hc h
    refine Ak_aload_n 17 0 (d_SG_feed 7 16 (.aload_n 0) 1 rfl) rfl rfl rfl ?_
    refine Ak_iconst 18 (d_SG_feed 8 17 (.iconst 0) 1 rfl) rfl (rk rfl) ?_
    obtain ⟨r17, V18, h19, h⟩ := bnd_some h
    refine Ak_cV0 21 2 (c_SG_refuse h19) rfl hO clX12 rfl mok_SG_refuse lkM_SG_126 (d_SG_feed 9 18 (.invokevirtual 126) 3 rfl) rfl (by decide) (Nat.le_of_ble_eq_true rfl) ?_
    refine Ak_iconst 22 (d_SG_feed 10 21 (.iconst (-1)) 1 rfl) rfl (rk rfl) ?_
    cases h
    exact Ak_iret rfl (d_SG_feed 11 22 (.ireturn) 1 rfl)
theorem t_SG_end_J15 {S : ASh} {V : ASt} {x0 : Int} {r : Int} {V' : ASt} (hO : isO S x0 12 = true) (h : b_SG_end_J15 S  V x0 = some (r, V')) : AWk m_SG_end 3 0 0 0 0 15 [some (aR x0)] [] S V (some (aI r)) S V' := by
  unfold b_SG_end_J15 at h
  refine Ak_aload_n 16 0 (d_SG_end 7 15 (.aload_n 0) 1 rfl) rfl rfl rfl ?_
  refine Ak_iconst 17 (d_SG_end 8 16 (.iconst 0) 1 rfl) rfl (rk rfl) ?_
  obtain ⟨r1, V2, h3, h⟩ := bnd_some h
  refine Ak_cV0 20 2 (c_SG_refuse h3) rfl hO clX12 rfl mok_SG_refuse lkM_SG_126 (d_SG_end 9 17 (.invokevirtual 126) 3 rfl) rfl (by decide) (Nat.le_of_ble_eq_true rfl) ?_
  refine Ak_iconst 21 (d_SG_end 10 20 (.iconst 0) 1 rfl) rfl (rk rfl) ?_
  cases h
  exact Ak_zret (Or.inl rfl) rfl (d_SG_end 11 21 (.ireturn) 1 rfl)
theorem c_SG_end {S : ASh} {V : ASt} {x0 x1 : Int} {r : Int} {V' : ASt} (h : f_SG_end S V x0 x1 = some (r, V')) : ACt m_SG_end 3 0 0 [(aR x0), (aI x1)] S V (some (aI r)) S V' := by
  unfold f_SG_end at h
  obtain ⟨hO, h⟩ := gd_some h
  refine ACt_of (plainFor_of_name rfl) rfl (Nat.le_of_ble_eq_true rfl) ?_
  show AWk m_SG_end 3 0 0 0 0 0 [some (aR x0), some (aI x1)] [] S V (some (aI r)) S V'
  refine Ak_iload_n 1 1 (d_SG_end 0 0 (.iload_n 1) 1 rfl) rfl rfl rfl ?_
  refine Ak_if_lt 15 4 (d_SG_end 1 1 (.ifCond .lt 14) 3 rfl) rfl rfl (fun hc => ?_) (fun hc => ?_)
  · replace h := it_t hc h
    refine Ak_keep [true] ?_
    exact t_SG_end_J15 hO h
  · replace h := it_f hc h
    refine Ak_iload_n 5 1 (d_SG_end 2 4 (.iload_n 1) 1 rfl) rfl rfl rfl ?_
    refine Ak_aload_n 6 0 (d_SG_end 3 5 (.aload_n 0) 1 rfl) rfl rfl rfl ?_
    refine Ak_getF 9 0 hO clX12 (by decide) rfl lkF_SG_14 (d_SG_end 4 6 (.getfield 14) 3 rfl) rfl ?_
    obtain ⟨hg4, h⟩ := gd_some h
    refine Ak_getI 12 0 hg4 clX0 (by decide) (Or.inl rfl) lkF_SG_123 (d_SG_end 5 9 (.getfield 123) 3 rfl) rfl ?_
    refine Ak_icmp_le 22 15 (d_SG_end 6 12 (.if_icmp .le 10) 3 rfl) rfl rfl (fun hc => ?_) (fun hc => ?_)
    · replace h := it_t hc h
      refine Ak_aload_n 23 0 (d_SG_end 12 22 (.aload_n 0) 1 rfl) rfl rfl rfl ?_
      refine Ak_getF 26 0 hO clX12 (by decide) rfl lkF_SG_14 (d_SG_end 13 23 (.getfield 14) 3 rfl) rfl ?_
      refine Ak_iload_n 27 1 (d_SG_end 14 26 (.iload_n 1) 1 rfl) rfl rfl rfl ?_
      refine Ak_putI 30 0 hg4 clX0 (by decide) rfl rfl rfl lkF_SG_123 (d_SG_end 15 27 (.putfield 123) 3 rfl) rfl (fun V5 hV5 => ?_)
      replace h := wV_some h V5 hV5
      refine Ak_iconst 31 (d_SG_end 16 30 (.iconst 1) 1 rfl) rfl (rk rfl) ?_
      cases h
      exact Ak_zret (Or.inr rfl) rfl (d_SG_end 17 31 (.ireturn) 1 rfl)
    · replace h := it_f hc h
      refine Ak_keep [true] ?_
      exact t_SG_end_J15 hO h
theorem c_SG_starterNow {S : ASh} {V : ASt} {x0 : Int} {r : Int} {V' : ASt} (h : f_SG_starterNow S V x0 = some (r, V')) : ACt m_SG_starterNow 2 0 0 [(aR x0)] S V (some (aI r)) S V' := by
  unfold f_SG_starterNow at h
  obtain ⟨hO, h⟩ := gd_some h
  refine ACt_of (plainFor_of_name rfl) rfl (Nat.le_of_ble_eq_true rfl) ?_
  show AWk m_SG_starterNow 2 0 0 0 0 0 [some (aR x0)] [] S V (some (aI r)) S V'
  refine Ak_aload_n 1 0 (d_SG_starterNow 0 0 (.aload_n 0) 1 rfl) rfl rfl rfl ?_
  refine Ak_getI 4 17 hO clX12 (by decide) (Or.inl rfl) lkF_SG_110 (d_SG_starterNow 1 1 (.getfield 110) 3 rfl) rfl ?_
  refine Ak_iconst 5 (d_SG_starterNow 2 4 (.iconst 1) 1 rfl) rfl (rk rfl) ?_
  refine Ak_iand 6 (d_SG_starterNow 3 5 (.iand) 1 rfl) rfl ?_
  cases h
  exact Ak_iret rfl (d_SG_starterNow 4 6 (.ireturn) 1 rfl)
theorem c_SG_beginningNow {S : ASh} {V : ASt} {x0 : Int} {r : Int} {V' : ASt} (h : f_SG_beginningNow S V x0 = some (r, V')) : ACt m_SG_beginningNow 3 0 0 [(aR x0)] S V (some (aI r)) S V' := by
  unfold f_SG_beginningNow at h
  obtain ⟨hO, h⟩ := gd_some h
  refine ACt_of (plainFor_of_name rfl) rfl (Nat.le_of_ble_eq_true rfl) ?_
  show AWk m_SG_beginningNow 3 0 0 0 0 0 [some (aR x0)] [] S V (some (aI r)) S V'
  refine Ak_aload_n 1 0 (d_SG_beginningNow 0 0 (.aload_n 0) 1 rfl) rfl rfl rfl ?_
  refine Ak_getR 4 1 hO clX12 (by decide) rfl lkF_SG_21 (d_SG_beginningNow 1 1 (.getfield 21) 3 rfl) rfl ?_
  refine Ak_aload_n 5 0 (d_SG_beginningNow 2 4 (.aload_n 0) 1 rfl) rfl rfl rfl ?_
  obtain ⟨r1, V2, h3, h⟩ := bnd_some h
  refine Ak_cV1 8 2 (c_SG_starterNow h3) rfl hO clX12 rfl mok_SG_starterNow lkM_SG_264 (d_SG_beginningNow 3 5 (.invokevirtual 264) 3 rfl) rfl (by decide) (Nat.le_of_ble_eq_true rfl) ?_
  obtain ⟨hg7, h⟩ := gd_some h
  obtain ⟨r4, V5, h6, h⟩ := bnd_some h
  refine Ak_cV1 11 2 (c_Game_beginningOf h6) rfl hg7 clX1 rfl mok_Game_beginningOf lkM_SG_360 (d_SG_beginningNow 4 8 (.invokevirtual 360) 3 rfl) rfl (by decide) (Nat.le_of_ble_eq_true rfl) ?_
  cases h
  exact Ak_iret rfl (d_SG_beginningNow 5 11 (.ireturn) 1 rfl)
theorem c_SG_startAnew {S : ASh} {V : ASt} {x0 : Int} {r : Int} {V' : ASt} (h : f_SG_startAnew S V x0 = some (r, V')) : ACt m_SG_startAnew 6 0 0 [(aR x0)] S V none S V' := by
  unfold f_SG_startAnew at h
  obtain ⟨hO, h⟩ := gd_some h
  refine ACt_of (plainFor_of_name rfl) rfl (Nat.le_of_ble_eq_true rfl) ?_
  show AWk m_SG_startAnew 6 0 0 0 0 0 [some (aR x0)] [] S V none S V'
  refine Ak_aload_n 1 0 (d_SG_startAnew 0 0 (.aload_n 0) 1 rfl) rfl rfl rfl ?_
  refine Ak_getF 4 7 hO clX12 (by decide) rfl lkF_SG_61 (d_SG_startAnew 1 1 (.getfield 61) 3 rfl) rfl ?_
  refine Ak_aload_n 5 0 (d_SG_startAnew 2 4 (.aload_n 0) 1 rfl) rfl rfl rfl ?_
  refine Ak_getR 8 1 hO clX12 (by decide) rfl lkF_SG_21 (d_SG_startAnew 3 5 (.getfield 21) 3 rfl) rfl ?_
  refine Ak_aload_n 9 0 (d_SG_startAnew 4 8 (.aload_n 0) 1 rfl) rfl rfl rfl ?_
  refine Ak_getF 12 4 hO clX12 (by decide) rfl lkF_SG_40 (d_SG_startAnew 5 9 (.getfield 40) 3 rfl) rfl ?_
  obtain ⟨hg4, h⟩ := gd_some h
  obtain ⟨r1, V2, h3, h⟩ := bnd_some h
  refine Ak_cV0 15 5 (c_Moves_prepare h3) rfl hg4 clX4 rfl mok_Moves_prepare lkM_SG_326 (d_SG_startAnew 6 12 (.invokevirtual 326) 3 rfl) rfl (by decide) (Nat.le_of_ble_eq_true rfl) ?_
  refine Ak_aload_n 16 0 (d_SG_startAnew 7 15 (.aload_n 0) 1 rfl) rfl rfl rfl ?_
  refine Ak_getF 19 8 hO clX12 (by decide) rfl lkF_SG_70 (d_SG_startAnew 8 16 (.getfield 70) 3 rfl) rfl ?_
  refine Ak_iconst 20 (d_SG_startAnew 9 19 (.iconst 0) 1 rfl) rfl (rk rfl) ?_
  obtain ⟨hg5, h⟩ := gd_some h
  refine Ak_putZ 23 0 (Or.inl rfl) hg5 clX10 (by decide) rfl rfl rfl lkF_SG_363 (d_SG_startAnew 10 20 (.putfield 363) 3 rfl) rfl (fun V6 hV6 => ?_)
  replace h := wV_some h V6 hV6
  refine Ak_aload_n 24 0 (d_SG_startAnew 11 23 (.aload_n 0) 1 rfl) rfl rfl rfl ?_
  refine Ak_getF 27 13 hO clX12 (by decide) rfl lkF_SG_96 (d_SG_startAnew 12 24 (.getfield 96) 3 rfl) rfl ?_
  refine Ak_aload_n 28 0 (d_SG_startAnew 13 27 (.aload_n 0) 1 rfl) rfl rfl rfl ?_
  obtain ⟨r7, V8, h9, h⟩ := bnd_some h
  refine Ak_cV1 31 3 (c_SG_beginningNow h9) rfl hO clX12 rfl mok_SG_beginningNow lkM_SG_241 (d_SG_startAnew 14 28 (.invokevirtual 241) 3 rfl) rfl (by decide) (Nat.le_of_ble_eq_true rfl) ?_
  obtain ⟨hg13, h⟩ := gd_some h
  obtain ⟨r10, V11, h12, h⟩ := bnd_some h
  refine Ak_cV0 34 2 (c_Match_begin h12) rfl hg13 clX3 rfl mok_Match_begin lkM_SG_244 (d_SG_startAnew 15 31 (.invokevirtual 244) 3 rfl) rfl (by decide) (Nat.le_of_ble_eq_true rfl) ?_
  cases h
  exact Ak_vret rfl (d_SG_startAnew 16 34 (.return_) 1 rfl)
theorem c_SG_game {S : ASh} {V : ASt} {x0 : Int} {r : Int} {V' : ASt} (h : f_SG_game S V x0 = some (r, V')) : ACt m_SG_game 124 0 0 [(aR x0)] S V (some (aI r)) S V' := by
  unfold f_SG_game at h
  obtain ⟨hO, h⟩ := gd_some h
  refine ACt_of (plainFor_of_name rfl) rfl (Nat.le_of_ble_eq_true rfl) ?_
  show AWk m_SG_game 124 0 0 0 0 0 [some (aR x0)] [] S V (some (aI r)) S V'
  refine Ak_aload_n 1 0 (d_SG_game 0 0 (.aload_n 0) 1 rfl) rfl rfl rfl ?_
  refine Ak_getF 4 3 hO clX12 (by decide) rfl lkF_SG_33 (d_SG_game 1 1 (.getfield 33) 3 rfl) rfl ?_
  refine Ak_aload_n 5 0 (d_SG_game 2 4 (.aload_n 0) 1 rfl) rfl rfl rfl ?_
  refine Ak_getF 8 0 hO clX12 (by decide) rfl lkF_SG_14 (d_SG_game 3 5 (.getfield 14) 3 rfl) rfl ?_
  refine Ak_aload_n 9 0 (d_SG_game 4 8 (.aload_n 0) 1 rfl) rfl rfl rfl ?_
  refine Ak_getR 12 2 hO clX12 (by decide) rfl lkF_SG_25 (d_SG_game 5 9 (.getfield 25) 3 rfl) rfl ?_
  obtain ⟨hg4, h⟩ := gd_some h
  obtain ⟨r1, V2, h3, h⟩ := bnd_some h
  refine Ak_cV1 15 123 (c_Reader_readGame h3) rfl hg4 clX5 rfl mok_Reader_readGame lkM_SG_132 (d_SG_game 6 12 (.invokevirtual 132) 3 rfl) rfl (by decide) (Nat.le_of_ble_eq_true rfl) ?_
  refine Ak_istore_n 16 1 (d_SG_game 7 15 (.istore_n 1) 1 rfl) rfl rfl (by decide) ?_
  refine Ak_aload_n 17 0 (d_SG_game 8 16 (.aload_n 0) 1 rfl) rfl rfl rfl ?_
  refine Ak_getF 20 0 hO clX12 (by decide) rfl lkF_SG_14 (d_SG_game 9 17 (.getfield 14) 3 rfl) rfl ?_
  refine Ak_iconst 21 (d_SG_game 10 20 (.iconst 0) 1 rfl) rfl (rk rfl) ?_
  obtain ⟨hg5, h⟩ := gd_some h
  refine Ak_putI 24 0 hg5 clX0 (by decide) rfl rfl rfl lkF_SG_123 (d_SG_game 11 21 (.putfield 123) 3 rfl) rfl (fun V6 hV6 => ?_)
  replace h := wV_some h V6 hV6
  refine Ak_iload_n 25 1 (d_SG_game 12 24 (.iload_n 1) 1 rfl) rfl rfl rfl ?_
  refine Ak_iconst 26 (d_SG_game 13 25 (.iconst (-1)) 1 rfl) rfl (rk rfl) ?_
  refine Ak_icmp_ne 36 29 (d_SG_game 14 26 (.if_icmp .ne 10) 3 rfl) rfl rfl (fun hc => ?_) (fun hc => ?_)
  · replace h := it_f hc h
    refine Ak_aload_n 37 0 (d_SG_game 20 36 (.aload_n 0) 1 rfl) rfl rfl rfl ?_
    refine Ak_getR 40 1 hO clX12 (by decide) rfl lkF_SG_21 (d_SG_game 21 37 (.getfield 21) 3 rfl) rfl ?_
    obtain ⟨hn7, h⟩ := gd_some h
    refine Ak_astore_n 41 2 (dec_t hn7) (d_SG_game 22 40 (.astore_n 2) 1 rfl) rfl rfl (by decide) ?_
    refine Ak_aload_n 42 0 (d_SG_game 23 41 (.aload_n 0) 1 rfl) rfl rfl rfl ?_
    refine Ak_aload_n 43 0 (d_SG_game 24 42 (.aload_n 0) 1 rfl) rfl rfl rfl ?_
    refine Ak_getR 46 2 hO clX12 (by decide) rfl lkF_SG_25 (d_SG_game 25 43 (.getfield 25) 3 rfl) rfl ?_
    refine Ak_putR 49 1 hO clX12 (by decide) rfl rfl (fun o => by cases o <;> exact ⟨rfl, rfl⟩) lkF_SG_21 (d_SG_game 26 46 (.putfield 21) 3 rfl) rfl (fun V8 hV8 => ?_)
    replace h := wV_some h V8 hV8
    refine Ak_aload_n 50 0 (d_SG_game 27 49 (.aload_n 0) 1 rfl) rfl rfl rfl ?_
    refine Ak_aload_n 51 2 (d_SG_game 28 50 (.aload_n 2) 1 rfl) rfl rfl rfl ?_
    refine Ak_putR 54 2 hO clX12 (by decide) rfl rfl (fun o => by cases o <;> exact ⟨rfl, rfl⟩) lkF_SG_25 (d_SG_game 29 51 (.putfield 25) 3 rfl) rfl (fun V9 hV9 => ?_)
    replace h := wV_some h V9 hV9
    refine Ak_aload_n 55 0 (d_SG_game 30 54 (.aload_n 0) 1 rfl) rfl rfl rfl ?_
    refine Ak_getR 58 1 hO clX12 (by decide) rfl lkF_SG_21 (d_SG_game 31 55 (.getfield 21) 3 rfl) rfl ?_
    obtain ⟨hg13, h⟩ := gd_some h
    obtain ⟨r10, V11, h12, h⟩ := bnd_some h
    refine Ak_cV0 61 3 (c_Game_numberPositions h12) rfl hg13 clX1 rfl mok_Game_numberPositions lkM_SG_136 (d_SG_game 32 58 (.invokevirtual 136) 3 rfl) rfl (by decide) (Nat.le_of_ble_eq_true rfl) ?_
    refine Ak_aload_n 62 0 (d_SG_game 33 61 (.aload_n 0) 1 rfl) rfl rfl rfl ?_
    refine Ak_getF 65 4 hO clX12 (by decide) rfl lkF_SG_40 (d_SG_game 34 62 (.getfield 40) 3 rfl) rfl ?_
    refine Ak_aload_n 66 0 (d_SG_game 35 65 (.aload_n 0) 1 rfl) rfl rfl rfl ?_
    refine Ak_getR 69 1 hO clX12 (by decide) rfl lkF_SG_21 (d_SG_game 36 66 (.getfield 21) 3 rfl) rfl ?_
    obtain ⟨hg17, h⟩ := gd_some h
    obtain ⟨r14, V15, h16, h⟩ := bnd_some h
    refine Ak_cV0 72 5 (c_Slate_takeAsTold h16) rfl hg17 clX6 rfl mok_Slate_takeAsTold lkM_SG_139 (d_SG_game 37 69 (.invokevirtual 139) 3 rfl) rfl (by decide) (Nat.le_of_ble_eq_true rfl) ?_
    refine Ak_aload_n 73 0 (d_SG_game 38 72 (.aload_n 0) 1 rfl) rfl rfl rfl ?_
    refine Ak_iconst 74 (d_SG_game 39 73 (.iconst 0) 1 rfl) rfl (rk rfl) ?_
    refine Ak_putI 77 17 hO clX12 (by decide) rfl rfl rfl lkF_SG_110 (d_SG_game 40 74 (.putfield 110) 3 rfl) rfl (fun V18 hV18 => ?_)
    replace h := wV_some h V18 hV18
    refine Ak_aload_n 78 0 (d_SG_game 41 77 (.aload_n 0) 1 rfl) rfl rfl rfl ?_
    refine Ak_getF 81 15 hO clX12 (by decide) rfl lkF_SG_103 (d_SG_game 42 78 (.getfield 103) 3 rfl) rfl ?_
    refine Ak_iconst 82 (d_SG_game 43 81 (.iconst 0) 1 rfl) rfl (rk rfl) ?_
    obtain ⟨r19, V20, h21, h⟩ := bnd_some h
    refine Ak_cS0 85 2 (c_Arrays_fill h21) rfl mok_Arrays_fill lkM_SG_142 (d_SG_game 44 82 (.invokestatic 142) 3 rfl) rfl (by decide) (Nat.le_of_ble_eq_true rfl) ?_
    refine Ak_aload_n 86 0 (d_SG_game 45 85 (.aload_n 0) 1 rfl) rfl rfl rfl ?_
    refine Ak_getF 89 16 hO clX12 (by decide) rfl lkF_SG_107 (d_SG_game 46 86 (.getfield 107) 3 rfl) rfl ?_
    refine Ak_iconst 90 (d_SG_game 47 89 (.iconst 0) 1 rfl) rfl (rk rfl) ?_
    obtain ⟨r22, V23, h24, h⟩ := bnd_some h
    refine Ak_cS0 93 2 (c_Arrays_fill h24) rfl mok_Arrays_fill lkM_SG_142 (d_SG_game 48 90 (.invokestatic 142) 3 rfl) rfl (by decide) (Nat.le_of_ble_eq_true rfl) ?_
    refine Ak_aload_n 94 0 (d_SG_game 49 93 (.aload_n 0) 1 rfl) rfl rfl rfl ?_
    refine Ak_getF 97 6 hO clX12 (by decide) rfl lkF_SG_54 (d_SG_game 50 94 (.getfield 54) 3 rfl) rfl ?_
    refine Ak_iconst 98 (d_SG_game 51 97 (.iconst 0) 1 rfl) rfl (rk rfl) ?_
    obtain ⟨hg25, h⟩ := gd_some h
    refine Ak_putI 101 0 hg25 clX2 (by decide) rfl rfl rfl lkF_SG_148 (d_SG_game 52 98 (.putfield 148) 3 rfl) rfl (fun V26 hV26 => ?_)
    replace h := wV_some h V26 hV26
    refine Ak_aload_n 102 0 (d_SG_game 53 101 (.aload_n 0) 1 rfl) rfl rfl rfl ?_
    refine Ak_getF 105 5 hO clX12 (by decide) rfl lkF_SG_47 (d_SG_game 54 102 (.getfield 47) 3 rfl) rfl ?_
    refine Ak_iconst 106 (d_SG_game 55 105 (.iconst 0) 1 rfl) rfl (rk rfl) ?_
    obtain ⟨hg27, h⟩ := gd_some h
    refine Ak_putZ 109 0 (Or.inl rfl) hg27 clX7 (by decide) rfl rfl rfl lkF_SG_151 (d_SG_game 56 106 (.putfield 151) 3 rfl) rfl (fun V28 hV28 => ?_)
    replace h := wV_some h V28 hV28
    refine Ak_aload_n 110 0 (d_SG_game 57 109 (.aload_n 0) 1 rfl) rfl rfl rfl ?_
    refine Ak_getF 113 10 hO clX12 (by decide) rfl lkF_SG_82 (d_SG_game 58 110 (.getfield 82) 3 rfl) rfl ?_
    obtain ⟨hg32, h⟩ := gd_some h
    obtain ⟨r29, V30, h31, h⟩ := bnd_some h
    refine Ak_cV0 116 2 (c_Worths_forget h31) rfl hg32 clX11 rfl mok_Worths_forget lkM_SG_155 (d_SG_game 59 113 (.invokevirtual 155) 3 rfl) rfl (by decide) (Nat.le_of_ble_eq_true rfl) ?_
    refine Ak_aload_n 117 0 (d_SG_game 60 116 (.aload_n 0) 1 rfl) rfl rfl rfl ?_
    refine Ak_getF 120 11 hO clX12 (by decide) rfl lkF_SG_86 (d_SG_game 61 117 (.getfield 86) 3 rfl) rfl ?_
    obtain ⟨hg36, h⟩ := gd_some h
    obtain ⟨r33, V34, h35, h⟩ := bnd_some h
    refine Ak_cV0 123 2 (c_Worths_forget h35) rfl hg36 clX11 rfl mok_Worths_forget lkM_SG_155 (d_SG_game 62 120 (.invokevirtual 155) 3 rfl) rfl (by decide) (Nat.le_of_ble_eq_true rfl) ?_
    refine Ak_aload_n 124 0 (d_SG_game 63 123 (.aload_n 0) 1 rfl) rfl rfl rfl ?_
    obtain ⟨r37, V38, h39, h⟩ := bnd_some h
    refine Ak_cV0 127 6 (c_SG_startAnew h39) rfl hO clX12 rfl mok_SG_startAnew lkM_SG_120 (d_SG_game 64 124 (.invokevirtual 120) 3 rfl) rfl (by decide) (Nat.le_of_ble_eq_true rfl) ?_
    refine Ak_iload_n 128 1 (d_SG_game 65 127 (.iload_n 1) 1 rfl) rfl rfl rfl ?_
    cases h
    exact Ak_iret rfl (d_SG_game 66 128 (.ireturn) 1 rfl)
  · replace h := it_t hc h
    refine Ak_aload_n 30 0 (d_SG_game 15 29 (.aload_n 0) 1 rfl) rfl rfl rfl ?_
    refine Ak_iconst 31 (d_SG_game 16 30 (.iconst 1) 1 rfl) rfl (rk rfl) ?_
    obtain ⟨r40, V41, h42, h⟩ := bnd_some h
    refine Ak_cV0 34 2 (c_SG_refuse h42) rfl hO clX12 rfl mok_SG_refuse lkM_SG_126 (d_SG_game 17 31 (.invokevirtual 126) 3 rfl) rfl (by decide) (Nat.le_of_ble_eq_true rfl) ?_
    refine Ak_iconst 35 (d_SG_game 18 34 (.iconst (-1)) 1 rfl) rfl (rk rfl) ?_
    cases h
    exact Ak_iret rfl (d_SG_game 19 35 (.ireturn) 1 rfl)
theorem c_SG_fault {S : ASh} {V : ASt} {x0 x1 : Int} {r : Int} {V' : ASt} (h : f_SG_fault S V x0 x1 = some (r, V')) : ACt m_SG_fault 2 0 0 [(aR x0), (aI x1)] S V (some (aI r)) S V' := by
  unfold f_SG_fault at h
  obtain ⟨hO, h⟩ := gd_some h
  refine ACt_of (plainFor_of_name rfl) rfl (Nat.le_of_ble_eq_true rfl) ?_
  show AWk m_SG_fault 2 0 0 0 0 0 [some (aR x0), some (aI x1)] [] S V (some (aI r)) S V'
  refine Ak_iload_n 1 1 (d_SG_fault 0 0 (.iload_n 1) 1 rfl) rfl rfl rfl ?_
  refine Ak_if_ne 12 4 (d_SG_fault 1 1 (.ifCond .ne 11) 3 rfl) rfl rfl (fun hc => ?_) (fun hc => ?_)
  · replace h := it_f hc h
    refine Ak_iload_n 13 1 (d_SG_fault 6 12 (.iload_n 1) 1 rfl) rfl rfl rfl ?_
    refine Ak_iconst 14 (d_SG_fault 7 13 (.iconst 1) 1 rfl) rfl (rk rfl) ?_
    refine Ak_icmp_ne 27 17 (d_SG_fault 8 14 (.if_icmp .ne 13) 3 rfl) rfl rfl (fun hc => ?_) (fun hc => ?_)
    · replace h := it_f hc h
      refine Ak_iconst 28 (d_SG_fault 13 27 (.iconst (-1)) 1 rfl) rfl (rk rfl) ?_
      cases h
      exact Ak_iret rfl (d_SG_fault 14 28 (.ireturn) 1 rfl)
    · replace h := it_t hc h
      refine Ak_aload_n 18 0 (d_SG_fault 9 17 (.aload_n 0) 1 rfl) rfl rfl rfl ?_
      refine Ak_getF 21 3 hO clX12 (by decide) rfl lkF_SG_33 (d_SG_fault 10 18 (.getfield 33) 3 rfl) rfl ?_
      obtain ⟨hg1, h⟩ := gd_some h
      refine Ak_getI 24 1 hg1 clX5 (by decide) (Or.inl rfl) lkF_SG_161 (d_SG_fault 11 21 (.getfield 161) 3 rfl) rfl ?_
      refine Ak_goto 28 (d_SG_fault 12 24 (.goto 4) 3 rfl) rfl ?_
      cases h
      exact Ak_iret rfl (d_SG_fault 14 28 (.ireturn) 1 rfl)
  · replace h := it_t hc h
    refine Ak_aload_n 5 0 (d_SG_fault 2 4 (.aload_n 0) 1 rfl) rfl rfl rfl ?_
    refine Ak_getF 8 3 hO clX12 (by decide) rfl lkF_SG_33 (d_SG_fault 3 5 (.getfield 33) 3 rfl) rfl ?_
    obtain ⟨hg2, h⟩ := gd_some h
    refine Ak_getI 11 0 hg2 clX5 (by decide) (Or.inl rfl) lkF_SG_158 (d_SG_fault 4 8 (.getfield 158) 3 rfl) rfl ?_
    cases h
    exact Ak_iret rfl (d_SG_fault 5 11 (.ireturn) 1 rfl)
theorem c_SG_has {S : ASh} {V : ASt} {x0 x1 : Int} {r : Int} {V' : ASt} (h : f_SG_has S V x0 x1 = some (r, V')) : ACt m_SG_has 6 0 0 [(aR x0), (aI x1)] S V (some (aI r)) S V' := by
  unfold f_SG_has at h
  obtain ⟨hO, h⟩ := gd_some h
  refine ACt_of (plainFor_of_name rfl) rfl (Nat.le_of_ble_eq_true rfl) ?_
  show AWk m_SG_has 6 0 0 0 0 0 [some (aR x0), some (aI x1)] [] S V (some (aI r)) S V'
  refine Ak_iload_n 1 1 (d_SG_has 0 0 (.iload_n 1) 1 rfl) rfl rfl rfl ?_
  by_cases hc1 : x1 = 0
  · replace h := it_t hc1 h
    refine Ak_tableIn 48 0 hc1 (d_SG_has 1 1 (.tableswitch 108 0 7 #[47, 55, 63, 71, 79, 87, 92, 100]) 47 rfl) (by decide) (by decide) rfl rfl ?_
    refine Ak_aload_n 49 0 (d_SG_has 2 48 (.aload_n 0) 1 rfl) rfl rfl rfl ?_
    refine Ak_getR 52 1 hO clX12 (by decide) rfl lkF_SG_21 (d_SG_has 3 49 (.getfield 21) 3 rfl) rfl ?_
    obtain ⟨hg2, h⟩ := gd_some h
    refine Ak_getI 55 0 hg2 clX1 (by decide) (Or.inl rfl) lkF_SG_164 (d_SG_has 4 52 (.getfield 164) 3 rfl) rfl ?_
    cases h
    exact Ak_iret rfl (d_SG_has 5 55 (.ireturn) 1 rfl)
  · replace h := it_f hc1 h
    by_cases hc3 : x1 = 1
    · replace h := it_t hc3 h
      refine Ak_tableIn 56 1 hc3 (d_SG_has 1 1 (.tableswitch 108 0 7 #[47, 55, 63, 71, 79, 87, 92, 100]) 47 rfl) (by decide) (by decide) rfl rfl ?_
      refine Ak_aload_n 57 0 (d_SG_has 6 56 (.aload_n 0) 1 rfl) rfl rfl rfl ?_
      refine Ak_getR 60 1 hO clX12 (by decide) rfl lkF_SG_21 (d_SG_has 7 57 (.getfield 21) 3 rfl) rfl ?_
      obtain ⟨hg4, h⟩ := gd_some h
      refine Ak_getI 63 1 hg4 clX1 (by decide) (Or.inl rfl) lkF_SG_167 (d_SG_has 8 60 (.getfield 167) 3 rfl) rfl ?_
      cases h
      exact Ak_iret rfl (d_SG_has 9 63 (.ireturn) 1 rfl)
    · replace h := it_f hc3 h
      by_cases hc5 : x1 = 2
      · replace h := it_t hc5 h
        refine Ak_tableIn 64 2 hc5 (d_SG_has 1 1 (.tableswitch 108 0 7 #[47, 55, 63, 71, 79, 87, 92, 100]) 47 rfl) (by decide) (by decide) rfl rfl ?_
        refine Ak_aload_n 65 0 (d_SG_has 10 64 (.aload_n 0) 1 rfl) rfl rfl rfl ?_
        refine Ak_getR 68 1 hO clX12 (by decide) rfl lkF_SG_21 (d_SG_has 11 65 (.getfield 21) 3 rfl) rfl ?_
        obtain ⟨hg6, h⟩ := gd_some h
        refine Ak_getI 71 2 hg6 clX1 (by decide) (Or.inl rfl) lkF_SG_170 (d_SG_has 12 68 (.getfield 170) 3 rfl) rfl ?_
        cases h
        exact Ak_iret rfl (d_SG_has 13 71 (.ireturn) 1 rfl)
      · replace h := it_f hc5 h
        by_cases hc7 : x1 = 3
        · replace h := it_t hc7 h
          refine Ak_tableIn 72 3 hc7 (d_SG_has 1 1 (.tableswitch 108 0 7 #[47, 55, 63, 71, 79, 87, 92, 100]) 47 rfl) (by decide) (by decide) rfl rfl ?_
          refine Ak_aload_n 73 0 (d_SG_has 14 72 (.aload_n 0) 1 rfl) rfl rfl rfl ?_
          refine Ak_getF 76 4 hO clX12 (by decide) rfl lkF_SG_40 (d_SG_has 15 73 (.getfield 40) 3 rfl) rfl ?_
          obtain ⟨hg11, h⟩ := gd_some h
          obtain ⟨r8, V9, h10, h⟩ := bnd_some h
          refine Ak_cV1 79 5 (c_Slate_countStruck h10) rfl hg11 clX6 rfl mok_Slate_countStruck lkM_SG_173 (d_SG_has 16 76 (.invokevirtual 173) 3 rfl) rfl (by decide) (Nat.le_of_ble_eq_true rfl) ?_
          cases h
          exact Ak_iret rfl (d_SG_has 17 79 (.ireturn) 1 rfl)
        · replace h := it_f hc7 h
          by_cases hc12 : x1 = 4
          · replace h := it_t hc12 h
            refine Ak_tableIn 80 4 hc12 (d_SG_has 1 1 (.tableswitch 108 0 7 #[47, 55, 63, 71, 79, 87, 92, 100]) 47 rfl) (by decide) (by decide) rfl rfl ?_
            refine Ak_aload_n 81 0 (d_SG_has 18 80 (.aload_n 0) 1 rfl) rfl rfl rfl ?_
            refine Ak_getR 84 1 hO clX12 (by decide) rfl lkF_SG_21 (d_SG_has 19 81 (.getfield 21) 3 rfl) rfl ?_
            obtain ⟨hg13, h⟩ := gd_some h
            refine Ak_getI 87 3 hg13 clX1 (by decide) (Or.inl rfl) lkF_SG_177 (d_SG_has 20 84 (.getfield 177) 3 rfl) rfl ?_
            cases h
            exact Ak_iret rfl (d_SG_has 21 87 (.ireturn) 1 rfl)
          · replace h := it_f hc12 h
            by_cases hc14 : x1 = 5
            · replace h := it_t hc14 h
              refine Ak_tableIn 88 5 hc14 (d_SG_has 1 1 (.tableswitch 108 0 7 #[47, 55, 63, 71, 79, 87, 92, 100]) 47 rfl) (by decide) (by decide) rfl rfl ?_
              refine Ak_aload_n 89 0 (d_SG_has 22 88 (.aload_n 0) 1 rfl) rfl rfl rfl ?_
              refine Ak_getI 92 17 hO clX12 (by decide) (Or.inl rfl) lkF_SG_110 (d_SG_has 23 89 (.getfield 110) 3 rfl) rfl ?_
              cases h
              exact Ak_iret rfl (d_SG_has 24 92 (.ireturn) 1 rfl)
            · replace h := it_f hc14 h
              by_cases hc15 : x1 = 6
              · replace h := it_t hc15 h
                refine Ak_tableIn 93 6 hc15 (d_SG_has 1 1 (.tableswitch 108 0 7 #[47, 55, 63, 71, 79, 87, 92, 100]) 47 rfl) (by decide) (by decide) rfl rfl ?_
                refine Ak_aload_n 94 0 (d_SG_has 25 93 (.aload_n 0) 1 rfl) rfl rfl rfl ?_
                refine Ak_getF 97 6 hO clX12 (by decide) rfl lkF_SG_54 (d_SG_has 26 94 (.getfield 54) 3 rfl) rfl ?_
                obtain ⟨hg16, h⟩ := gd_some h
                refine Ak_getI 100 0 hg16 clX2 (by decide) (Or.inl rfl) lkF_SG_148 (d_SG_has 27 97 (.getfield 148) 3 rfl) rfl ?_
                cases h
                exact Ak_iret rfl (d_SG_has 28 100 (.ireturn) 1 rfl)
              · replace h := it_f hc15 h
                by_cases hc17 : x1 = 7
                · replace h := it_t hc17 h
                  refine Ak_tableIn 101 7 hc17 (d_SG_has 1 1 (.tableswitch 108 0 7 #[47, 55, 63, 71, 79, 87, 92, 100]) 47 rfl) (by decide) (by decide) rfl rfl ?_
                  refine Ak_aload_n 102 0 (d_SG_has 29 101 (.aload_n 0) 1 rfl) rfl rfl rfl ?_
                  refine Ak_getR 105 1 hO clX12 (by decide) rfl lkF_SG_21 (d_SG_has 30 102 (.getfield 21) 3 rfl) rfl ?_
                  obtain ⟨hg18, h⟩ := gd_some h
                  refine Ak_getI 108 4 hg18 clX1 (by decide) (Or.inl rfl) lkF_SG_180 (d_SG_has 31 105 (.getfield 180) 3 rfl) rfl ?_
                  cases h
                  exact Ak_iret rfl (d_SG_has 32 108 (.ireturn) 1 rfl)
                · replace h := it_f hc17 h
                  refine Ak_tableOut 109 (by omega) (d_SG_has 1 1 (.tableswitch 108 0 7 #[47, 55, 63, 71, 79, 87, 92, 100]) 47 rfl) rfl ?_
                  refine Ak_iconst 110 (d_SG_has 33 109 (.iconst (-1)) 1 rfl) rfl (rk rfl) ?_
                  cases h
                  exact Ak_iret rfl (d_SG_has 34 110 (.ireturn) 1 rfl)
theorem c_SG_letter {S : ASh} {V : ASt} {x0 x1 x2 : Int} {r : Int} {V' : ASt} (h : f_SG_letter S V x0 x1 x2 = some (r, V')) : ACt m_SG_letter 4 0 0 [(aR x0), (aI x1), (aI x2)] S V (some (aI r)) S V' := by
  unfold f_SG_letter at h
  obtain ⟨hO, h⟩ := gd_some h
  refine ACt_of (plainFor_of_name rfl) rfl (Nat.le_of_ble_eq_true rfl) ?_
  show AWk m_SG_letter 4 0 0 0 0 0 [some (aR x0), some (aI x1), some (aI x2)] [] S V (some (aI r)) S V'
  refine Ak_aload_n 1 0 (d_SG_letter 0 0 (.aload_n 0) 1 rfl) rfl rfl rfl ?_
  refine Ak_getR 4 1 hO clX12 (by decide) rfl lkF_SG_21 (d_SG_letter 1 1 (.getfield 21) 3 rfl) rfl ?_
  refine Ak_iload_n 5 1 (d_SG_letter 2 4 (.iload_n 1) 1 rfl) rfl rfl rfl ?_
  refine Ak_iload_n 6 2 (d_SG_letter 3 5 (.iload_n 2) 1 rfl) rfl rfl rfl ?_
  obtain ⟨hg4, h⟩ := gd_some h
  obtain ⟨r1, V2, h3, h⟩ := bnd_some h
  refine Ak_cV1 9 3 (c_Game_letterOf h3) rfl hg4 clX1 rfl mok_Game_letterOf lkM_SG_183 (d_SG_letter 4 6 (.invokevirtual 183) 3 rfl) rfl (by decide) (Nat.le_of_ble_eq_true rfl) ?_
  cases h
  exact Ak_iret rfl (d_SG_letter 5 9 (.ireturn) 1 rfl)
theorem c_SG_rule {S : ASh} {V : ASt} {x0 x1 x2 : Int} {r : Int} {V' : ASt} (h : f_SG_rule S V x0 x1 x2 = some (r, V')) : ACt m_SG_rule 5 0 0 [(aR x0), (aI x1), (aI x2)] S V (some (aI r)) S V' := by
  unfold f_SG_rule at h
  obtain ⟨hO, h⟩ := gd_some h
  refine ACt_of (plainFor_of_name rfl) rfl (Nat.le_of_ble_eq_true rfl) ?_
  show AWk m_SG_rule 5 0 0 0 0 0 [some (aR x0), some (aI x1), some (aI x2)] [] S V (some (aI r)) S V'
  refine Ak_aload_n 1 0 (d_SG_rule 0 0 (.aload_n 0) 1 rfl) rfl rfl rfl ?_
  refine Ak_getF 4 4 hO clX12 (by decide) rfl lkF_SG_40 (d_SG_rule 1 1 (.getfield 40) 3 rfl) rfl ?_
  refine Ak_iload_n 5 1 (d_SG_rule 2 4 (.iload_n 1) 1 rfl) rfl rfl rfl ?_
  obtain ⟨hg4, h⟩ := gd_some h
  obtain ⟨r1, V2, h3, h⟩ := bnd_some h
  refine Ak_cV1 8 2 (c_Slate_isPlace h3) rfl hg4 clX6 rfl mok_Slate_isPlace lkM_SG_187 (d_SG_rule 3 5 (.invokevirtual 187) 3 rfl) rfl (by decide) (Nat.le_of_ble_eq_true rfl) ?_
  refine Ak_if_ne 13 11 (d_SG_rule 4 8 (.ifCond .ne 5) 3 rfl) rfl rfl (fun hc => ?_) (fun hc => ?_)
  · replace h := it_f hc h
    refine Ak_aload_n 14 0 (d_SG_rule 7 13 (.aload_n 0) 1 rfl) rfl rfl rfl ?_
    refine Ak_getF 17 4 hO clX12 (by decide) rfl lkF_SG_40 (d_SG_rule 8 14 (.getfield 40) 3 rfl) rfl ?_
    refine Ak_iload_n 18 1 (d_SG_rule 9 17 (.iload_n 1) 1 rfl) rfl rfl rfl ?_
    obtain ⟨r5, V6, h7, h⟩ := bnd_some h
    refine Ak_cV1 21 4 (c_Slate_ruleAt h7) rfl hg4 clX6 rfl mok_Slate_ruleAt lkM_SG_191 (d_SG_rule 10 18 (.invokevirtual 191) 3 rfl) rfl (by decide) (Nat.le_of_ble_eq_true rfl) ?_
    refine Ak_istore_n 22 3 (d_SG_rule 11 21 (.istore_n 3) 1 rfl) rfl rfl (by decide) ?_
    refine Ak_iload_n 23 2 (d_SG_rule 12 22 (.iload_n 2) 1 rfl) rfl rfl rfl ?_
    by_cases hc8 : x2 = 0
    · replace h := it_t hc8 h
      refine Ak_tableIn 64 0 hc8 (d_SG_rule 13 23 (.tableswitch 117 0 6 #[41, 43, 56, 65, 74, 83, 100]) 41 rfl) (by decide) (by decide) rfl rfl ?_
      refine Ak_iload_n 65 3 (d_SG_rule 14 64 (.iload_n 3) 1 rfl) rfl rfl rfl ?_
      cases h
      exact Ak_iret rfl (d_SG_rule 15 65 (.ireturn) 1 rfl)
    · replace h := it_f hc8 h
      by_cases hc9 : x2 = 1
      · replace h := it_t hc9 h
        refine Ak_tableIn 66 1 hc9 (d_SG_rule 13 23 (.tableswitch 117 0 6 #[41, 43, 56, 65, 74, 83, 100]) 41 rfl) (by decide) (by decide) rfl rfl ?_
        refine Ak_aload_n 67 0 (d_SG_rule 16 66 (.aload_n 0) 1 rfl) rfl rfl rfl ?_
        refine Ak_getF 70 4 hO clX12 (by decide) rfl lkF_SG_40 (d_SG_rule 17 67 (.getfield 40) 3 rfl) rfl ?_
        refine Ak_iload_n 71 1 (d_SG_rule 18 70 (.iload_n 1) 1 rfl) rfl rfl rfl ?_
        refine Ak_aload_n 72 0 (d_SG_rule 19 71 (.aload_n 0) 1 rfl) rfl rfl rfl ?_
        refine Ak_getR 75 1 hO clX12 (by decide) rfl lkF_SG_21 (d_SG_rule 20 72 (.getfield 21) 3 rfl) rfl ?_
        obtain ⟨r10, V11, h12, h⟩ := bnd_some h
        refine Ak_cV1 78 4 (c_Slate_kindAt h12) rfl hg4 clX6 rfl mok_Slate_kindAt lkM_SG_195 (d_SG_rule 21 75 (.invokevirtual 195) 3 rfl) rfl (by decide) (Nat.le_of_ble_eq_true rfl) ?_
        cases h
        exact Ak_iret rfl (d_SG_rule 22 78 (.ireturn) 1 rfl)
      · replace h := it_f hc9 h
        by_cases hc13 : x2 = 2
        · replace h := it_t hc13 h
          refine Ak_tableIn 79 2 hc13 (d_SG_rule 13 23 (.tableswitch 117 0 6 #[41, 43, 56, 65, 74, 83, 100]) 41 rfl) (by decide) (by decide) rfl rfl ?_
          refine Ak_aload_n 80 0 (d_SG_rule 23 79 (.aload_n 0) 1 rfl) rfl rfl rfl ?_
          refine Ak_getR 83 1 hO clX12 (by decide) rfl lkF_SG_21 (d_SG_rule 24 80 (.getfield 21) 3 rfl) rfl ?_
          refine Ak_iload_n 84 3 (d_SG_rule 25 83 (.iload_n 3) 1 rfl) rfl rfl rfl ?_
          obtain ⟨hg17, h⟩ := gd_some h
          obtain ⟨r14, V15, h16, h⟩ := bnd_some h
          refine Ak_cV1 87 3 (c_Game_pieceOf h16) rfl hg17 clX1 rfl mok_Game_pieceOf lkM_SG_199 (d_SG_rule 26 84 (.invokevirtual 199) 3 rfl) rfl (by decide) (Nat.le_of_ble_eq_true rfl) ?_
          cases h
          exact Ak_iret rfl (d_SG_rule 27 87 (.ireturn) 1 rfl)
        · replace h := it_f hc13 h
          by_cases hc18 : x2 = 3
          · replace h := it_t hc18 h
            refine Ak_tableIn 88 3 hc18 (d_SG_rule 13 23 (.tableswitch 117 0 6 #[41, 43, 56, 65, 74, 83, 100]) 41 rfl) (by decide) (by decide) rfl rfl ?_
            refine Ak_aload_n 89 0 (d_SG_rule 28 88 (.aload_n 0) 1 rfl) rfl rfl rfl ?_
            refine Ak_getR 92 1 hO clX12 (by decide) rfl lkF_SG_21 (d_SG_rule 29 89 (.getfield 21) 3 rfl) rfl ?_
            refine Ak_iload_n 93 3 (d_SG_rule 30 92 (.iload_n 3) 1 rfl) rfl rfl rfl ?_
            obtain ⟨hg22, h⟩ := gd_some h
            obtain ⟨r19, V20, h21, h⟩ := bnd_some h
            refine Ak_cV1 96 3 (c_Game_wayOf h21) rfl hg22 clX1 rfl mok_Game_wayOf lkM_SG_202 (d_SG_rule 31 93 (.invokevirtual 202) 3 rfl) rfl (by decide) (Nat.le_of_ble_eq_true rfl) ?_
            cases h
            exact Ak_iret rfl (d_SG_rule 32 96 (.ireturn) 1 rfl)
          · replace h := it_f hc18 h
            by_cases hc23 : x2 = 4
            · replace h := it_t hc23 h
              refine Ak_tableIn 97 4 hc23 (d_SG_rule 13 23 (.tableswitch 117 0 6 #[41, 43, 56, 65, 74, 83, 100]) 41 rfl) (by decide) (by decide) rfl rfl ?_
              refine Ak_aload_n 98 0 (d_SG_rule 33 97 (.aload_n 0) 1 rfl) rfl rfl rfl ?_
              refine Ak_getF 101 4 hO clX12 (by decide) rfl lkF_SG_40 (d_SG_rule 34 98 (.getfield 40) 3 rfl) rfl ?_
              refine Ak_iload_n 102 1 (d_SG_rule 35 101 (.iload_n 1) 1 rfl) rfl rfl rfl ?_
              obtain ⟨r24, V25, h26, h⟩ := bnd_some h
              refine Ak_cV1 105 4 (c_Slate_stepAt h26) rfl hg4 clX6 rfl mok_Slate_stepAt lkM_SG_205 (d_SG_rule 36 102 (.invokevirtual 205) 3 rfl) rfl (by decide) (Nat.le_of_ble_eq_true rfl) ?_
              cases h
              exact Ak_iret rfl (d_SG_rule 37 105 (.ireturn) 1 rfl)
            · replace h := it_f hc23 h
              by_cases hc27 : x2 = 5
              · replace h := it_t hc27 h
                refine Ak_tableIn 106 5 hc27 (d_SG_rule 13 23 (.tableswitch 117 0 6 #[41, 43, 56, 65, 74, 83, 100]) 41 rfl) (by decide) (by decide) rfl rfl ?_
                refine Ak_aload_n 107 0 (d_SG_rule 38 106 (.aload_n 0) 1 rfl) rfl rfl rfl ?_
                refine Ak_getF 110 4 hO clX12 (by decide) rfl lkF_SG_40 (d_SG_rule 39 107 (.getfield 40) 3 rfl) rfl ?_
                refine Ak_iload_n 111 1 (d_SG_rule 40 110 (.iload_n 1) 1 rfl) rfl rfl rfl ?_
                obtain ⟨r28, V29, h30, h⟩ := bnd_some h
                refine Ak_cV1 114 4 (c_Slate_isStruck h30) rfl hg4 clX6 rfl mok_Slate_isStruck lkM_SG_208 (d_SG_rule 41 111 (.invokevirtual 208) 3 rfl) rfl (by decide) (Nat.le_of_ble_eq_true rfl) ?_
                refine Ak_if_eq 121 117 (d_SG_rule 42 114 (.ifCond .eq 7) 3 rfl) rfl rfl (fun hc => ?_) (fun hc => ?_)
                · replace h := it_t hc h
                  refine Ak_iconst 122 (d_SG_rule 45 121 (.iconst 0) 1 rfl) rfl (rk rfl) ?_
                  cases h
                  exact Ak_iret rfl (d_SG_rule 46 122 (.ireturn) 1 rfl)
                · replace h := it_f hc h
                  refine Ak_iconst 118 (d_SG_rule 43 117 (.iconst 1) 1 rfl) rfl (rk rfl) ?_
                  refine Ak_goto 122 (d_SG_rule 44 118 (.goto 4) 3 rfl) rfl ?_
                  cases h
                  exact Ak_iret rfl (d_SG_rule 46 122 (.ireturn) 1 rfl)
              · replace h := it_f hc27 h
                by_cases hc31 : x2 = 6
                · replace h := it_t hc31 h
                  refine Ak_tableIn 123 6 hc31 (d_SG_rule 13 23 (.tableswitch 117 0 6 #[41, 43, 56, 65, 74, 83, 100]) 41 rfl) (by decide) (by decide) rfl rfl ?_
                  refine Ak_aload_n 124 0 (d_SG_rule 47 123 (.aload_n 0) 1 rfl) rfl rfl rfl ?_
                  refine Ak_getR 127 1 hO clX12 (by decide) rfl lkF_SG_21 (d_SG_rule 48 124 (.getfield 21) 3 rfl) rfl ?_
                  refine Ak_iload_n 128 3 (d_SG_rule 49 127 (.iload_n 3) 1 rfl) rfl rfl rfl ?_
                  obtain ⟨hg35, h⟩ := gd_some h
                  obtain ⟨r32, V33, h34, h⟩ := bnd_some h
                  refine Ak_cV1 131 3 (c_Game_isEver h34) rfl hg35 clX1 rfl mok_Game_isEver lkM_SG_211 (d_SG_rule 50 128 (.invokevirtual 211) 3 rfl) rfl (by decide) (Nat.le_of_ble_eq_true rfl) ?_
                  refine Ak_if_eq 138 134 (d_SG_rule 51 131 (.ifCond .eq 7) 3 rfl) rfl rfl (fun hc => ?_) (fun hc => ?_)
                  · replace h := it_t hc h
                    refine Ak_iconst 139 (d_SG_rule 54 138 (.iconst 0) 1 rfl) rfl (rk rfl) ?_
                    cases h
                    exact Ak_iret rfl (d_SG_rule 55 139 (.ireturn) 1 rfl)
                  · replace h := it_f hc h
                    refine Ak_iconst 135 (d_SG_rule 52 134 (.iconst 1) 1 rfl) rfl (rk rfl) ?_
                    refine Ak_goto 139 (d_SG_rule 53 135 (.goto 4) 3 rfl) rfl ?_
                    cases h
                    exact Ak_iret rfl (d_SG_rule 55 139 (.ireturn) 1 rfl)
                · replace h := it_f hc31 h
                  refine Ak_tableOut 140 (by omega) (d_SG_rule 13 23 (.tableswitch 117 0 6 #[41, 43, 56, 65, 74, 83, 100]) 41 rfl) rfl ?_
                  refine Ak_iconst 141 (d_SG_rule 56 140 (.iconst (-1)) 1 rfl) rfl (rk rfl) ?_
                  cases h
                  exact Ak_iret rfl (d_SG_rule 57 141 (.ireturn) 1 rfl)
  · replace h := it_t hc h
    refine Ak_iconst 12 (d_SG_rule 5 11 (.iconst (-1)) 1 rfl) rfl (rk rfl) ?_
    cases h
    exact Ak_iret rfl (d_SG_rule 6 12 (.ireturn) 1 rfl)
theorem c_SG_movesNow {S : ASh} {V : ASt} {x0 : Int} {r : Int} {V' : ASt} (h : f_SG_movesNow S V x0 = some (r, V')) : ACt m_SG_movesNow 8 0 0 [(aR x0)] S V (some (aR r)) S V' := by
  unfold f_SG_movesNow at h
  obtain ⟨hO, h⟩ := gd_some h
  refine ACt_of (plainFor_of_name rfl) rfl (Nat.le_of_ble_eq_true rfl) ?_
  show AWk m_SG_movesNow 8 0 0 0 0 0 [some (aR x0)] [] S V (some (aR r)) S V'
  refine Ak_aload_n 1 0 (d_SG_movesNow 0 0 (.aload_n 0) 1 rfl) rfl rfl rfl ?_
  refine Ak_getF 4 7 hO clX12 (by decide) rfl lkF_SG_61 (d_SG_movesNow 1 1 (.getfield 61) 3 rfl) rfl ?_
  obtain ⟨hg1, h⟩ := gd_some h
  refine Ak_getI 7 0 hg1 clX4 (by decide) (Or.inr rfl) lkF_SG_366 (d_SG_movesNow 2 4 (.getfield 366) 3 rfl) rfl ?_
  refine Ak_if_ne 18 10 (d_SG_movesNow 3 7 (.ifCond .ne 11) 3 rfl) rfl rfl (fun hc => ?_) (fun hc => ?_)
  · replace h := it_f hc h
    refine Ak_aload_n 19 0 (d_SG_movesNow 8 18 (.aload_n 0) 1 rfl) rfl rfl rfl ?_
    refine Ak_getF 22 7 hO clX12 (by decide) rfl lkF_SG_61 (d_SG_movesNow 9 19 (.getfield 61) 3 rfl) rfl ?_
    cases h
    exact Ak_aret rfl (d_SG_movesNow 10 22 (.areturn) 1 rfl)
  · replace h := it_t hc h
    refine Ak_aload_n 11 0 (d_SG_movesNow 4 10 (.aload_n 0) 1 rfl) rfl rfl rfl ?_
    refine Ak_getF 14 7 hO clX12 (by decide) rfl lkF_SG_61 (d_SG_movesNow 5 11 (.getfield 61) 3 rfl) rfl ?_
    refine Ak_iconst 15 (d_SG_movesNow 6 14 (.iconst 1) 1 rfl) rfl (rk rfl) ?_
    obtain ⟨r2, V3, h4, h⟩ := bnd_some h
    refine Ak_cV0 18 7 (c_Moves_layOut h4) rfl hg1 clX4 rfl mok_Moves_layOut lkM_SG_330 (d_SG_movesNow 7 15 (.invokevirtual 330) 3 rfl) rfl (by decide) (Nat.le_of_ble_eq_true rfl) ?_
    refine Ak_aload_n 19 0 (d_SG_movesNow 8 18 (.aload_n 0) 1 rfl) rfl rfl rfl ?_
    refine Ak_getF 22 7 hO clX12 (by decide) rfl lkF_SG_61 (d_SG_movesNow 9 19 (.getfield 61) 3 rfl) rfl ?_
    cases h
    exact Ak_aret rfl (d_SG_movesNow 10 22 (.areturn) 1 rfl)
theorem c_SG_lawful {S : ASh} {V : ASt} {x0 x1 x2 : Int} {r : Int} {V' : ASt} (h : f_SG_lawful S V x0 x1 x2 = some (r, V')) : ACt m_SG_lawful 9 0 0 [(aR x0), (aI x1), (aI x2)] S V (some (aI r)) S V' := by
  unfold f_SG_lawful at h
  obtain ⟨hO, h⟩ := gd_some h
  refine ACt_of (plainFor_of_name rfl) rfl (Nat.le_of_ble_eq_true rfl) ?_
  show AWk m_SG_lawful 9 0 0 0 0 0 [some (aR x0), some (aI x1), some (aI x2)] [] S V (some (aI r)) S V'
  refine Ak_aload_n 1 0 (d_SG_lawful 0 0 (.aload_n 0) 1 rfl) rfl rfl rfl ?_
  refine Ak_getR 4 1 hO clX12 (by decide) rfl lkF_SG_21 (d_SG_lawful 1 1 (.getfield 21) 3 rfl) rfl ?_
  refine Ak_iload_n 5 1 (d_SG_lawful 2 4 (.iload_n 1) 1 rfl) rfl rfl rfl ?_
  obtain ⟨hg4, h⟩ := gd_some h
  obtain ⟨r1, V2, h3, h⟩ := bnd_some h
  refine Ak_cV1 8 2 (c_Game_isPosition h3) rfl hg4 clX1 rfl mok_Game_isPosition lkM_SG_214 (d_SG_lawful 3 5 (.invokevirtual 214) 3 rfl) rfl (by decide) (Nat.le_of_ble_eq_true rfl) ?_
  refine Ak_if_ne 13 11 (d_SG_lawful 4 8 (.ifCond .ne 5) 3 rfl) rfl rfl (fun hc => ?_) (fun hc => ?_)
  · replace h := it_f hc h
    refine Ak_aload_n 14 0 (d_SG_lawful 7 13 (.aload_n 0) 1 rfl) rfl rfl rfl ?_
    obtain ⟨r5, V6, h7, h⟩ := bnd_some h
    refine Ak_cV1 17 8 (c_SG_movesNow h7) rfl hO clX12 rfl mok_SG_movesNow lkM_SG_217 (d_SG_lawful 8 14 (.invokevirtual 217) 3 rfl) rfl (by decide) (Nat.le_of_ble_eq_true rfl) ?_
    obtain ⟨hn8, h⟩ := gd_some h
    refine Ak_astore_n 18 3 (dec_t hn8) (d_SG_lawful 9 17 (.astore_n 3) 1 rfl) rfl rfl (by decide) ?_
    refine Ak_iload_n 19 2 (d_SG_lawful 10 18 (.iload_n 2) 1 rfl) rfl rfl rfl ?_
    refine Ak_iconst 20 (d_SG_lawful 11 19 (.iconst (-1)) 1 rfl) rfl (rk rfl) ?_
    refine Ak_icmp_ne 31 23 (d_SG_lawful 12 20 (.if_icmp .ne 11) 3 rfl) rfl rfl (fun hc => ?_) (fun hc => ?_)
    · replace h := it_f hc h
      refine Ak_aload_n 32 3 (d_SG_lawful 17 31 (.aload_n 3) 1 rfl) rfl rfl rfl ?_
      refine Ak_iload_n 33 1 (d_SG_lawful 18 32 (.iload_n 1) 1 rfl) rfl rfl rfl ?_
      refine Ak_iload_n 34 2 (d_SG_lawful 19 33 (.iload_n 2) 1 rfl) rfl rfl rfl ?_
      obtain ⟨hg12, h⟩ := gd_some h
      obtain ⟨r9, V10, h11, h⟩ := bnd_some h
      refine Ak_cV1 37 3 (c_Moves_codeOf h11) rfl hg12 clX4 rfl mok_Moves_codeOf lkM_SG_224 (d_SG_lawful 20 34 (.invokevirtual 224) 3 rfl) rfl (by decide) (Nat.le_of_ble_eq_true rfl) ?_
      cases h
      exact Ak_iret rfl (d_SG_lawful 21 37 (.ireturn) 1 rfl)
    · replace h := it_t hc h
      refine Ak_aload_n 24 3 (d_SG_lawful 13 23 (.aload_n 3) 1 rfl) rfl rfl rfl ?_
      refine Ak_iload_n 25 1 (d_SG_lawful 14 24 (.iload_n 1) 1 rfl) rfl rfl rfl ?_
      obtain ⟨hg16, h⟩ := gd_some h
      obtain ⟨r13, V14, h15, h⟩ := bnd_some h
      refine Ak_cV1 28 2 (c_Moves_countOf h15) rfl hg16 clX4 rfl mok_Moves_countOf lkM_SG_221 (d_SG_lawful 15 25 (.invokevirtual 221) 3 rfl) rfl (by decide) (Nat.le_of_ble_eq_true rfl) ?_
      refine Ak_goto 37 (d_SG_lawful 16 28 (.goto 9) 3 rfl) rfl ?_
      cases h
      exact Ak_iret rfl (d_SG_lawful 21 37 (.ireturn) 1 rfl)
  · replace h := it_t hc h
    refine Ak_iconst 12 (d_SG_lawful 5 11 (.iconst (-1)) 1 rfl) rfl (rk rfl) ?_
    cases h
    exact Ak_iret rfl (d_SG_lawful 6 12 (.ireturn) 1 rfl)
theorem c_SG_played {S : ASh} {V : ASt} {x0 x1 : Int} {r : Int} {V' : ASt} (h : f_SG_played S V x0 x1 = some (r, V')) : ACt m_SG_played 9 0 0 [(aR x0), (aI x1)] S V (some (aI r)) S V' := by
  unfold f_SG_played at h
  obtain ⟨hO, h⟩ := gd_some h
  refine ACt_of (plainFor_of_name rfl) rfl (Nat.le_of_ble_eq_true rfl) ?_
  show AWk m_SG_played 9 0 0 0 0 0 [some (aR x0), some (aI x1)] [] S V (some (aI r)) S V'
  refine Ak_aload_n 1 0 (d_SG_played 0 0 (.aload_n 0) 1 rfl) rfl rfl rfl ?_
  refine Ak_getR 4 1 hO clX12 (by decide) rfl lkF_SG_21 (d_SG_played 1 1 (.getfield 21) 3 rfl) rfl ?_
  obtain ⟨hg1, h⟩ := gd_some h
  refine Ak_getI 7 0 hg1 clX1 (by decide) (Or.inl rfl) lkF_SG_164 (d_SG_played 2 4 (.getfield 164) 3 rfl) rfl ?_
  refine Ak_if_ne 12 10 (d_SG_played 3 7 (.ifCond .ne 5) 3 rfl) rfl rfl (fun hc => ?_) (fun hc => ?_)
  · replace h := it_f hc h
    refine Ak_iload_n 13 1 (d_SG_played 6 12 (.iload_n 1) 1 rfl) rfl rfl rfl ?_
    by_cases hc2 : x1 = 0
    · replace h := it_t hc2 h
      refine Ak_tableIn 44 0 hc2 (d_SG_played 7 13 (.tableswitch 69 0 3 #[31, 39, 49, 57]) 31 rfl) (by decide) (by decide) rfl rfl ?_
      refine Ak_aload_n 45 0 (d_SG_played 8 44 (.aload_n 0) 1 rfl) rfl rfl rfl ?_
      refine Ak_getF 48 13 hO clX12 (by decide) rfl lkF_SG_96 (d_SG_played 9 45 (.getfield 96) 3 rfl) rfl ?_
      obtain ⟨hg3, h⟩ := gd_some h
      refine Ak_getI 51 0 hg3 clX3 (by decide) (Or.inl rfl) lkF_SG_227 (d_SG_played 10 48 (.getfield 227) 3 rfl) rfl ?_
      cases h
      exact Ak_iret rfl (d_SG_played 11 51 (.ireturn) 1 rfl)
    · replace h := it_f hc2 h
      by_cases hc4 : x1 = 1
      · replace h := it_t hc4 h
        refine Ak_tableIn 52 1 hc4 (d_SG_played 7 13 (.tableswitch 69 0 3 #[31, 39, 49, 57]) 31 rfl) (by decide) (by decide) rfl rfl ?_
        refine Ak_aload_n 53 0 (d_SG_played 12 52 (.aload_n 0) 1 rfl) rfl rfl rfl ?_
        refine Ak_getF 56 13 hO clX12 (by decide) rfl lkF_SG_96 (d_SG_played 13 53 (.getfield 96) 3 rfl) rfl ?_
        obtain ⟨hg5, h⟩ := gd_some h
        refine Ak_getI 59 0 hg5 clX3 (by decide) (Or.inl rfl) lkF_SG_227 (d_SG_played 14 56 (.getfield 227) 3 rfl) rfl ?_
        refine Ak_iconst 60 (d_SG_played 15 59 (.iconst 1) 1 rfl) rfl (rk rfl) ?_
        refine Ak_iand 61 (d_SG_played 16 60 (.iand) 1 rfl) rfl ?_
        cases h
        exact Ak_iret rfl (d_SG_played 17 61 (.ireturn) 1 rfl)
      · replace h := it_f hc4 h
        by_cases hc6 : x1 = 2
        · replace h := it_t hc6 h
          refine Ak_tableIn 62 2 hc6 (d_SG_played 7 13 (.tableswitch 69 0 3 #[31, 39, 49, 57]) 31 rfl) (by decide) (by decide) rfl rfl ?_
          refine Ak_aload_n 63 0 (d_SG_played 18 62 (.aload_n 0) 1 rfl) rfl rfl rfl ?_
          refine Ak_getF 66 13 hO clX12 (by decide) rfl lkF_SG_96 (d_SG_played 19 63 (.getfield 96) 3 rfl) rfl ?_
          obtain ⟨hg7, h⟩ := gd_some h
          refine Ak_getI 69 1 hg7 clX3 (by decide) (Or.inl rfl) lkF_SG_230 (d_SG_played 20 66 (.getfield 230) 3 rfl) rfl ?_
          cases h
          exact Ak_iret rfl (d_SG_played 21 69 (.ireturn) 1 rfl)
        · replace h := it_f hc6 h
          by_cases hc8 : x1 = 3
          · replace h := it_t hc8 h
            refine Ak_tableIn 70 3 hc8 (d_SG_played 7 13 (.tableswitch 69 0 3 #[31, 39, 49, 57]) 31 rfl) (by decide) (by decide) rfl rfl ?_
            refine Ak_aload_n 71 0 (d_SG_played 22 70 (.aload_n 0) 1 rfl) rfl rfl rfl ?_
            refine Ak_getF 74 13 hO clX12 (by decide) rfl lkF_SG_96 (d_SG_played 23 71 (.getfield 96) 3 rfl) rfl ?_
            refine Ak_aload_n 75 0 (d_SG_played 24 74 (.aload_n 0) 1 rfl) rfl rfl rfl ?_
            obtain ⟨r9, V10, h11, h⟩ := bnd_some h
            refine Ak_cV1 78 8 (c_SG_movesNow h11) rfl hO clX12 rfl mok_SG_movesNow lkM_SG_217 (d_SG_played 25 75 (.invokevirtual 217) 3 rfl) rfl (by decide) (Nat.le_of_ble_eq_true rfl) ?_
            obtain ⟨hg15, h⟩ := gd_some h
            obtain ⟨r12, V13, h14, h⟩ := bnd_some h
            refine Ak_cV1 81 4 (c_Match_winner h14) rfl hg15 clX3 rfl mok_Match_winner lkM_SG_233 (d_SG_played 26 78 (.invokevirtual 233) 3 rfl) rfl (by decide) (Nat.le_of_ble_eq_true rfl) ?_
            cases h
            exact Ak_iret rfl (d_SG_played 27 81 (.ireturn) 1 rfl)
          · replace h := it_f hc8 h
            refine Ak_tableOut 82 (by omega) (d_SG_played 7 13 (.tableswitch 69 0 3 #[31, 39, 49, 57]) 31 rfl) rfl ?_
            refine Ak_iconst 83 (d_SG_played 28 82 (.iconst (-1)) 1 rfl) rfl (rk rfl) ?_
            cases h
            exact Ak_iret rfl (d_SG_played 29 83 (.ireturn) 1 rfl)
  · replace h := it_t hc h
    refine Ak_iconst 11 (d_SG_played 4 10 (.iconst (-1)) 1 rfl) rfl (rk rfl) ?_
    cases h
    exact Ak_iret rfl (d_SG_played 5 11 (.ireturn) 1 rfl)
theorem t_SG_move_J53 {S : ASh} {V : ASt} {x0 : Int} {r : Int} {V' : ASt} (hO : isO S x0 12 = true) (h : b_SG_move_J53 S  V x0 = some (r, V')) : AWk m_SG_move 9 0 0 0 0 53 [some (aR x0)] [] S V (some (aI r)) S V' := by
  unfold b_SG_move_J53 at h
  refine Ak_aload_n 54 0 (d_SG_move 29 53 (.aload_n 0) 1 rfl) rfl rfl rfl ?_
  refine Ak_iconst 55 (d_SG_move 30 54 (.iconst 2) 1 rfl) rfl (rk rfl) ?_
  obtain ⟨r1, V2, h3, h⟩ := bnd_some h
  refine Ak_cV0 58 2 (c_SG_refuse h3) rfl hO clX12 rfl mok_SG_refuse lkM_SG_126 (d_SG_move 31 55 (.invokevirtual 126) 3 rfl) rfl (by decide) (Nat.le_of_ble_eq_true rfl) ?_
  refine Ak_iconst 59 (d_SG_move 32 58 (.iconst 0) 1 rfl) rfl (rk rfl) ?_
  cases h
  exact Ak_zret (Or.inl rfl) rfl (d_SG_move 33 59 (.ireturn) 1 rfl)
theorem t_SG_move_J24 {S : ASh} {V : ASt} {x0 x1 x2 s0 : Int} {r : Int} {V' : ASt} (hO : isO S x0 12 = true) (h : b_SG_move_J24 S  V x0 x1 x2 s0 = some (r, V')) : AWk m_SG_move 9 0 0 0 0 24 [some (aR x0), some (aI x1), some (aI x2)] [(aI s0)] S V (some (aI r)) S V' := by
  unfold b_SG_move_J24 at h
  refine Ak_istore_n 25 3 (d_SG_move 13 24 (.istore_n 3) 1 rfl) rfl rfl (by decide) ?_
  refine Ak_iload_n 26 3 (d_SG_move 14 25 (.iload_n 3) 1 rfl) rfl rfl rfl ?_
  refine Ak_if_eq 53 29 (d_SG_move 15 26 (.ifCond .eq 27) 3 rfl) rfl rfl (fun hc => ?_) (fun hc => ?_)
  · replace h := it_t hc h
    refine Ak_keep [true] ?_
    exact t_SG_move_J53 hO h
  · replace h := it_f hc h
    refine Ak_aload_n 30 0 (d_SG_move 16 29 (.aload_n 0) 1 rfl) rfl rfl rfl ?_
    refine Ak_getF 33 13 hO clX12 (by decide) rfl lkF_SG_96 (d_SG_move 17 30 (.getfield 96) 3 rfl) rfl ?_
    refine Ak_aload_n 34 0 (d_SG_move 18 33 (.aload_n 0) 1 rfl) rfl rfl rfl ?_
    obtain ⟨r4, V5, h6, h⟩ := bnd_some h
    refine Ak_cV1 37 8 (c_SG_movesNow h6) rfl hO clX12 rfl mok_SG_movesNow lkM_SG_217 (d_SG_move 19 34 (.invokevirtual 217) 3 rfl) rfl (by decide) (Nat.le_of_ble_eq_true rfl) ?_
    refine Ak_aload_n 38 0 (d_SG_move 20 37 (.aload_n 0) 1 rfl) rfl rfl rfl ?_
    refine Ak_getR 41 1 hO clX12 (by decide) rfl lkF_SG_21 (d_SG_move 21 38 (.getfield 21) 3 rfl) rfl ?_
    refine Ak_iload_n 42 1 (d_SG_move 22 41 (.iload_n 1) 1 rfl) rfl rfl rfl ?_
    refine Ak_bipush 44 (d_SG_move 23 42 (.bipush 10) 2 rfl) rfl (bp_ok rfl) (rk rfl) ?_
    refine Ak_imul 45 (d_SG_move 24 44 (.imul) 1 rfl) rfl ?_
    refine Ak_iload_n 46 2 (d_SG_move 25 45 (.iload_n 2) 1 rfl) rfl rfl rfl ?_
    refine Ak_iadd 47 (d_SG_move 26 46 (.iadd) 1 rfl) rfl ?_
    obtain ⟨hg10, h⟩ := gd_some h
    obtain ⟨r7, V8, h9, h⟩ := bnd_some h
    refine Ak_cV1 50 4 (c_Match_step h9) rfl hg10 clX3 rfl mok_Match_step lkM_SG_237 (d_SG_move 27 47 (.invokevirtual 237) 3 rfl) rfl (by decide) (Nat.le_of_ble_eq_true rfl) ?_
    refine Ak_if_ne 60 53 (d_SG_move 28 50 (.ifCond .ne 10) 3 rfl) rfl rfl (fun hc => ?_) (fun hc => ?_)
    · replace h := it_f hc h
      refine Ak_iconst 61 (d_SG_move 34 60 (.iconst 1) 1 rfl) rfl (rk rfl) ?_
      cases h
      exact Ak_zret (Or.inr rfl) rfl (d_SG_move 35 61 (.ireturn) 1 rfl)
    · replace h := it_t hc h
      refine Ak_keep [true] ?_
      exact t_SG_move_J53 hO h
theorem c_SG_move {S : ASh} {V : ASt} {x0 x1 x2 : Int} {r : Int} {V' : ASt} (h : f_SG_move S V x0 x1 x2 = some (r, V')) : ACt m_SG_move 9 0 0 [(aR x0), (aI x1), (aI x2)] S V (some (aI r)) S V' := by
  unfold f_SG_move at h
  obtain ⟨hO, h⟩ := gd_some h
  refine ACt_of (plainFor_of_name rfl) rfl (Nat.le_of_ble_eq_true rfl) ?_
  show AWk m_SG_move 9 0 0 0 0 0 [some (aR x0), some (aI x1), some (aI x2)] [] S V (some (aI r)) S V'
  refine Ak_iload_n 1 1 (d_SG_move 0 0 (.iload_n 1) 1 rfl) rfl rfl rfl ?_
  refine Ak_if_lt 23 4 (d_SG_move 1 1 (.ifCond .lt 22) 3 rfl) rfl rfl (fun hc => ?_) (fun hc => ?_)
  · replace h := it_t hc h
    refine Ak_iconst 24 (d_SG_move 12 23 (.iconst 0) 1 rfl) rfl (rk rfl) ?_
    refine Ak_keep [true, true, true] ?_
    exact t_SG_move_J24 hO h
  · replace h := it_f hc h
    refine Ak_iload_n 5 1 (d_SG_move 2 4 (.iload_n 1) 1 rfl) rfl rfl rfl ?_
    refine Ak_iconst 6 (d_SG_move 3 5 (.iconst 2) 1 rfl) rfl (rk rfl) ?_
    refine Ak_icmp_ge 23 9 (d_SG_move 4 6 (.if_icmp .ge 17) 3 rfl) rfl rfl (fun hc => ?_) (fun hc => ?_)
    · replace h := it_t hc h
      refine Ak_iconst 24 (d_SG_move 12 23 (.iconst 0) 1 rfl) rfl (rk rfl) ?_
      refine Ak_keep [true, true, true] ?_
      exact t_SG_move_J24 hO h
    · replace h := it_f hc h
      refine Ak_iload_n 10 2 (d_SG_move 5 9 (.iload_n 2) 1 rfl) rfl rfl rfl ?_
      refine Ak_if_lt 23 13 (d_SG_move 6 10 (.ifCond .lt 13) 3 rfl) rfl rfl (fun hc => ?_) (fun hc => ?_)
      · replace h := it_t hc h
        refine Ak_iconst 24 (d_SG_move 12 23 (.iconst 0) 1 rfl) rfl (rk rfl) ?_
        refine Ak_keep [true, true, true] ?_
        exact t_SG_move_J24 hO h
      · replace h := it_f hc h
        refine Ak_iload_n 14 2 (d_SG_move 7 13 (.iload_n 2) 1 rfl) rfl rfl rfl ?_
        refine Ak_bipush 16 (d_SG_move 8 14 (.bipush 10) 2 rfl) rfl (bp_ok rfl) (rk rfl) ?_
        refine Ak_icmp_ge 23 19 (d_SG_move 9 16 (.if_icmp .ge 7) 3 rfl) rfl rfl (fun hc => ?_) (fun hc => ?_)
        · replace h := it_t hc h
          refine Ak_iconst 24 (d_SG_move 12 23 (.iconst 0) 1 rfl) rfl (rk rfl) ?_
          refine Ak_keep [true, true, true] ?_
          exact t_SG_move_J24 hO h
        · replace h := it_f hc h
          refine Ak_iconst 20 (d_SG_move 10 19 (.iconst 1) 1 rfl) rfl (rk rfl) ?_
          refine Ak_goto 24 (d_SG_move 11 20 (.goto 4) 3 rfl) rfl ?_
          refine Ak_keep [true, true, true] ?_
          exact t_SG_move_J24 hO h
theorem c_SG_anew {S : ASh} {V : ASt} {x0 : Int} {r : Int} {V' : ASt} (h : f_SG_anew S V x0 = some (r, V')) : ACt m_SG_anew 4 0 0 [(aR x0)] S V (some (aI r)) S V' := by
  unfold f_SG_anew at h
  obtain ⟨hO, h⟩ := gd_some h
  refine ACt_of (plainFor_of_name rfl) rfl (Nat.le_of_ble_eq_true rfl) ?_
  show AWk m_SG_anew 4 0 0 0 0 0 [some (aR x0)] [] S V (some (aI r)) S V'
  refine Ak_aload_n 1 0 (d_SG_anew 0 0 (.aload_n 0) 1 rfl) rfl rfl rfl ?_
  refine Ak_getF 4 13 hO clX12 (by decide) rfl lkF_SG_96 (d_SG_anew 1 1 (.getfield 96) 3 rfl) rfl ?_
  obtain ⟨hg1, h⟩ := gd_some h
  refine Ak_getI 7 1 hg1 clX3 (by decide) (Or.inl rfl) lkF_SG_230 (d_SG_anew 2 4 (.getfield 230) 3 rfl) rfl ?_
  refine Ak_istore_n 8 1 (d_SG_anew 3 7 (.istore_n 1) 1 rfl) rfl rfl (by decide) ?_
  refine Ak_aload_n 9 0 (d_SG_anew 4 8 (.aload_n 0) 1 rfl) rfl rfl rfl ?_
  refine Ak_getF 12 13 hO clX12 (by decide) rfl lkF_SG_96 (d_SG_anew 5 9 (.getfield 96) 3 rfl) rfl ?_
  refine Ak_aload_n 13 0 (d_SG_anew 6 12 (.aload_n 0) 1 rfl) rfl rfl rfl ?_
  obtain ⟨r2, V3, h4, h⟩ := bnd_some h
  refine Ak_cV1 16 3 (c_SG_beginningNow h4) rfl hO clX12 rfl mok_SG_beginningNow lkM_SG_241 (d_SG_anew 7 13 (.invokevirtual 241) 3 rfl) rfl (by decide) (Nat.le_of_ble_eq_true rfl) ?_
  obtain ⟨r5, V6, h7, h⟩ := bnd_some h
  refine Ak_cV0 19 2 (c_Match_begin h7) rfl hg1 clX3 rfl mok_Match_begin lkM_SG_244 (d_SG_anew 8 16 (.invokevirtual 244) 3 rfl) rfl (by decide) (Nat.le_of_ble_eq_true rfl) ?_
  refine Ak_iload_n 20 1 (d_SG_anew 9 19 (.iload_n 1) 1 rfl) rfl rfl rfl ?_
  cases h
  exact Ak_iret rfl (d_SG_anew 10 20 (.ireturn) 1 rfl)
theorem c_SG_valuesNow {S : ASh} {V : ASt} {x0 : Int} {r : Int} {V' : ASt} (h : f_SG_valuesNow S V x0 = some (r, V')) : ACt m_SG_valuesNow 9 0 0 [(aR x0)] S V (some (aR r)) S V' := by
  unfold f_SG_valuesNow at h
  obtain ⟨hO, h⟩ := gd_some h
  refine ACt_of (plainFor_of_name rfl) rfl (Nat.le_of_ble_eq_true rfl) ?_
  show AWk m_SG_valuesNow 9 0 0 0 0 0 [some (aR x0)] [] S V (some (aR r)) S V'
  refine Ak_aload_n 1 0 (d_SG_valuesNow 0 0 (.aload_n 0) 1 rfl) rfl rfl rfl ?_
  refine Ak_getF 4 8 hO clX12 (by decide) rfl lkF_SG_70 (d_SG_valuesNow 1 1 (.getfield 70) 3 rfl) rfl ?_
  obtain ⟨hg1, h⟩ := gd_some h
  refine Ak_getI 7 0 hg1 clX10 (by decide) (Or.inr rfl) lkF_SG_363 (d_SG_valuesNow 2 4 (.getfield 363) 3 rfl) rfl ?_
  refine Ak_if_ne 24 10 (d_SG_valuesNow 3 7 (.ifCond .ne 17) 3 rfl) rfl rfl (fun hc => ?_) (fun hc => ?_)
  · replace h := it_f hc h
    refine Ak_aload_n 25 0 (d_SG_valuesNow 10 24 (.aload_n 0) 1 rfl) rfl rfl rfl ?_
    refine Ak_getF 28 8 hO clX12 (by decide) rfl lkF_SG_70 (d_SG_valuesNow 11 25 (.getfield 70) 3 rfl) rfl ?_
    cases h
    exact Ak_aret rfl (d_SG_valuesNow 12 28 (.areturn) 1 rfl)
  · replace h := it_t hc h
    refine Ak_aload_n 11 0 (d_SG_valuesNow 4 10 (.aload_n 0) 1 rfl) rfl rfl rfl ?_
    obtain ⟨r2, V3, h4, h⟩ := bnd_some h
    refine Ak_cV1 14 8 (c_SG_movesNow h4) rfl hO clX12 rfl mok_SG_movesNow lkM_SG_217 (d_SG_valuesNow 5 11 (.invokevirtual 217) 3 rfl) rfl (by decide) (Nat.le_of_ble_eq_true rfl) ?_
    obtain ⟨hg8, h⟩ := gd_some h
    obtain ⟨r5, V6, h7, h⟩ := bnd_some h
    refine Ak_cV0 17 4 (c_Moves_listAll h7) rfl hg8 clX4 rfl mok_Moves_listAll lkM_SG_369 (d_SG_valuesNow 6 14 (.invokevirtual 369) 3 rfl) rfl (by decide) (Nat.le_of_ble_eq_true rfl) ?_
    refine Ak_aload_n 18 0 (d_SG_valuesNow 7 17 (.aload_n 0) 1 rfl) rfl rfl rfl ?_
    refine Ak_getF 21 8 hO clX12 (by decide) rfl lkF_SG_70 (d_SG_valuesNow 8 18 (.getfield 70) 3 rfl) rfl ?_
    obtain ⟨r9, V10, h11, h⟩ := bnd_some h
    refine Ak_cV0 24 6 (c_Values_solve h11) rfl hg1 clX10 rfl mok_Values_solve lkM_SG_372 (d_SG_valuesNow 9 21 (.invokevirtual 372) 3 rfl) rfl (by decide) (Nat.le_of_ble_eq_true rfl) ?_
    refine Ak_aload_n 25 0 (d_SG_valuesNow 10 24 (.aload_n 0) 1 rfl) rfl rfl rfl ?_
    refine Ak_getF 28 8 hO clX12 (by decide) rfl lkF_SG_70 (d_SG_valuesNow 11 25 (.getfield 70) 3 rfl) rfl ?_
    cases h
    exact Ak_aret rfl (d_SG_valuesNow 12 28 (.areturn) 1 rfl)
theorem c_SG_value {S : ASh} {V : ASt} {x0 x1 x2 : Int} {r : Int} {V' : ASt} (h : f_SG_value S V x0 x1 x2 = some (r, V')) : ACt m_SG_value 10 0 0 [(aR x0), (aI x1), (aI x2)] S V (some (aI r)) S V' := by
  unfold f_SG_value at h
  obtain ⟨hO, h⟩ := gd_some h
  refine ACt_of (plainFor_of_name rfl) rfl (Nat.le_of_ble_eq_true rfl) ?_
  show AWk m_SG_value 10 0 0 0 0 0 [some (aR x0), some (aI x1), some (aI x2)] [] S V (some (aI r)) S V'
  refine Ak_aload_n 1 0 (d_SG_value 0 0 (.aload_n 0) 1 rfl) rfl rfl rfl ?_
  refine Ak_getR 4 1 hO clX12 (by decide) rfl lkF_SG_21 (d_SG_value 1 1 (.getfield 21) 3 rfl) rfl ?_
  refine Ak_iload_n 5 1 (d_SG_value 2 4 (.iload_n 1) 1 rfl) rfl rfl rfl ?_
  obtain ⟨hg4, h⟩ := gd_some h
  obtain ⟨r1, V2, h3, h⟩ := bnd_some h
  refine Ak_cV1 8 2 (c_Game_isPosition h3) rfl hg4 clX1 rfl mok_Game_isPosition lkM_SG_214 (d_SG_value 3 5 (.invokevirtual 214) 3 rfl) rfl (by decide) (Nat.le_of_ble_eq_true rfl) ?_
  refine Ak_if_ne 14 11 (d_SG_value 4 8 (.ifCond .ne 6) 3 rfl) rfl rfl (fun hc => ?_) (fun hc => ?_)
  · replace h := it_f hc h
    refine Ak_aload_n 15 0 (d_SG_value 7 14 (.aload_n 0) 1 rfl) rfl rfl rfl ?_
    obtain ⟨r5, V6, h7, h⟩ := bnd_some h
    refine Ak_cV1 18 9 (c_SG_valuesNow h7) rfl hO clX12 rfl mok_SG_valuesNow lkM_SG_247 (d_SG_value 8 15 (.invokevirtual 247) 3 rfl) rfl (by decide) (Nat.le_of_ble_eq_true rfl) ?_
    obtain ⟨hn8, h⟩ := gd_some h
    refine Ak_astore_n 19 3 (dec_t hn8) (d_SG_value 9 18 (.astore_n 3) 1 rfl) rfl rfl (by decide) ?_
    refine Ak_iload_n 20 2 (d_SG_value 10 19 (.iload_n 2) 1 rfl) rfl rfl rfl ?_
    by_cases hc9 : x2 = 0
    · replace h := it_t hc9 h
      refine Ak_tableIn 48 0 hc9 (d_SG_value 11 20 (.tableswitch 54 0 2 #[28, 34, 40]) 28 rfl) (by decide) (by decide) rfl rfl ?_
      refine Ak_aload_n 49 3 (d_SG_value 12 48 (.aload_n 3) 1 rfl) rfl rfl rfl ?_
      refine Ak_iload_n 50 1 (d_SG_value 13 49 (.iload_n 1) 1 rfl) rfl rfl rfl ?_
      obtain ⟨hg13, h⟩ := gd_some h
      obtain ⟨r10, V11, h12, h⟩ := bnd_some h
      refine Ak_cV1 53 2 (c_Values_worthOf h12) rfl hg13 clX10 rfl mok_Values_worthOf lkM_SG_251 (d_SG_value 14 50 (.invokevirtual 251) 3 rfl) rfl (by decide) (Nat.le_of_ble_eq_true rfl) ?_
      cases h
      exact Ak_iret rfl (d_SG_value 15 53 (.ireturn) 1 rfl)
    · replace h := it_f hc9 h
      by_cases hc14 : x2 = 1
      · replace h := it_t hc14 h
        refine Ak_tableIn 54 1 hc14 (d_SG_value 11 20 (.tableswitch 54 0 2 #[28, 34, 40]) 28 rfl) (by decide) (by decide) rfl rfl ?_
        refine Ak_aload_n 55 3 (d_SG_value 16 54 (.aload_n 3) 1 rfl) rfl rfl rfl ?_
        refine Ak_iload_n 56 1 (d_SG_value 17 55 (.iload_n 1) 1 rfl) rfl rfl rfl ?_
        obtain ⟨hg18, h⟩ := gd_some h
        obtain ⟨r15, V16, h17, h⟩ := bnd_some h
        refine Ak_cV1 59 3 (c_Values_stepsOf h17) rfl hg18 clX10 rfl mok_Values_stepsOf lkM_SG_254 (d_SG_value 18 56 (.invokevirtual 254) 3 rfl) rfl (by decide) (Nat.le_of_ble_eq_true rfl) ?_
        cases h
        exact Ak_iret rfl (d_SG_value 19 59 (.ireturn) 1 rfl)
      · replace h := it_f hc14 h
        by_cases hc19 : x2 = 2
        · replace h := it_t hc19 h
          refine Ak_tableIn 60 2 hc19 (d_SG_value 11 20 (.tableswitch 54 0 2 #[28, 34, 40]) 28 rfl) (by decide) (by decide) rfl rfl ?_
          refine Ak_aload_n 61 0 (d_SG_value 20 60 (.aload_n 0) 1 rfl) rfl rfl rfl ?_
          refine Ak_getF 64 7 hO clX12 (by decide) rfl lkF_SG_61 (d_SG_value 21 61 (.getfield 61) 3 rfl) rfl ?_
          refine Ak_iload_n 65 1 (d_SG_value 22 64 (.iload_n 1) 1 rfl) rfl rfl rfl ?_
          refine Ak_aload_n 66 3 (d_SG_value 23 65 (.aload_n 3) 1 rfl) rfl rfl rfl ?_
          refine Ak_iload_n 67 1 (d_SG_value 24 66 (.iload_n 1) 1 rfl) rfl rfl rfl ?_
          obtain ⟨hg23, h⟩ := gd_some h
          obtain ⟨r20, V21, h22, h⟩ := bnd_some h
          refine Ak_cV1 70 4 (c_Values_bestMoveOf h22) rfl hg23 clX10 rfl mok_Values_bestMoveOf lkM_SG_257 (d_SG_value 25 67 (.invokevirtual 257) 3 rfl) rfl (by decide) (Nat.le_of_ble_eq_true rfl) ?_
          obtain ⟨hg27, h⟩ := gd_some h
          obtain ⟨r24, V25, h26, h⟩ := bnd_some h
          refine Ak_cV1 73 3 (c_Moves_codeOf h26) rfl hg27 clX4 rfl mok_Moves_codeOf lkM_SG_224 (d_SG_value 26 70 (.invokevirtual 224) 3 rfl) rfl (by decide) (Nat.le_of_ble_eq_true rfl) ?_
          cases h
          exact Ak_iret rfl (d_SG_value 27 73 (.ireturn) 1 rfl)
        · replace h := it_f hc19 h
          refine Ak_tableOut 74 (by omega) (d_SG_value 11 20 (.tableswitch 54 0 2 #[28, 34, 40]) 28 rfl) rfl ?_
          refine Ak_bipush 76 (d_SG_value 28 74 (.bipush (-2)) 2 rfl) rfl (bp_ok rfl) (rk rfl) ?_
          cases h
          exact Ak_iret rfl (d_SG_value 29 76 (.ireturn) 1 rfl)
  · replace h := it_t hc h
    refine Ak_bipush 13 (d_SG_value 5 11 (.bipush (-2)) 2 rfl) rfl (bp_ok rfl) (rk rfl) ?_
    cases h
    exact Ak_iret rfl (d_SG_value 6 13 (.ireturn) 1 rfl)
theorem t_SG_worthsOf_J22 {S : ASh} {V : ASt} {x0 x1 s0 : Int} {r : Int} {V' : ASt} (hO : isO S x0 12 = true) (h : b_SG_worthsOf_J22 S  V x0 x1 s0 = some (r, V')) : AWk m_SG_worthsOf 4 0 0 0 0 22 [some (aR x0), some (aR x1)] [(aR s0)] S V (some (aR r)) S V' := by
  unfold b_SG_worthsOf_J22 at h
  obtain ⟨hn1, h⟩ := gd_some h
  refine Ak_astore_n 23 2 (dec_t hn1) (d_SG_worthsOf 10 22 (.astore_n 2) 1 rfl) rfl rfl (by decide) ?_
  refine Ak_aload_n 24 2 (d_SG_worthsOf 11 23 (.aload_n 2) 1 rfl) rfl rfl rfl ?_
  refine Ak_aload_n 25 0 (d_SG_worthsOf 12 24 (.aload_n 0) 1 rfl) rfl rfl rfl ?_
  refine Ak_getR 28 1 hO clX12 (by decide) rfl lkF_SG_21 (d_SG_worthsOf 13 25 (.getfield 21) 3 rfl) rfl ?_
  refine Ak_aload_n 29 1 (d_SG_worthsOf 14 28 (.aload_n 1) 1 rfl) rfl rfl rfl ?_
  obtain ⟨hg5, h⟩ := gd_some h
  obtain ⟨r2, V3, h4, h⟩ := bnd_some h
  refine Ak_cV0 32 3 (c_Worths_referTo h4) rfl hg5 clX11 rfl mok_Worths_referTo lkM_SG_375 (d_SG_worthsOf 15 29 (.invokevirtual 375) 3 rfl) rfl (by decide) (Nat.le_of_ble_eq_true rfl) ?_
  refine Ak_aload_n 33 2 (d_SG_worthsOf 16 32 (.aload_n 2) 1 rfl) rfl rfl rfl ?_
  cases h
  exact Ak_aret rfl (d_SG_worthsOf 17 33 (.areturn) 1 rfl)
theorem c_SG_worthsOf {S : ASh} {V : ASt} {x0 x1 : Int} {r : Int} {V' : ASt} (h : f_SG_worthsOf S V x0 x1 = some (r, V')) : ACt m_SG_worthsOf 4 0 0 [(aR x0), (aR x1)] S V (some (aR r)) S V' := by
  unfold f_SG_worthsOf at h
  obtain ⟨hO, h⟩ := gd_some h
  refine ACt_of (plainFor_of_name rfl) rfl (Nat.le_of_ble_eq_true rfl) ?_
  show AWk m_SG_worthsOf 4 0 0 0 0 0 [some (aR x0), some (aR x1)] [] S V (some (aR r)) S V'
  refine Ak_aload_n 1 1 (d_SG_worthsOf 0 0 (.aload_n 1) 1 rfl) rfl rfl rfl ?_
  refine Ak_aload_n 2 0 (d_SG_worthsOf 1 1 (.aload_n 0) 1 rfl) rfl rfl rfl ?_
  refine Ak_getF 5 4 hO clX12 (by decide) rfl lkF_SG_40 (d_SG_worthsOf 2 2 (.getfield 40) 3 rfl) rfl ?_
  obtain ⟨hg9, h⟩ := gd_some h
  obtain ⟨r6, V7, h8, h⟩ := bnd_some h
  refine Ak_cV1 8 2 (c_Slate_isLike h8) rfl hg9 clX6 rfl mok_Slate_isLike lkM_SG_317 (d_SG_worthsOf 3 5 (.invokevirtual 317) 3 rfl) rfl (by decide) (Nat.le_of_ble_eq_true rfl) ?_
  refine Ak_if_eq 18 11 (d_SG_worthsOf 4 8 (.ifCond .eq 10) 3 rfl) rfl rfl (fun hc => ?_) (fun hc => ?_)
  · replace h := it_t hc h
    refine Ak_aload_n 19 0 (d_SG_worthsOf 8 18 (.aload_n 0) 1 rfl) rfl rfl rfl ?_
    refine Ak_getF 22 11 hO clX12 (by decide) rfl lkF_SG_86 (d_SG_worthsOf 9 19 (.getfield 86) 3 rfl) rfl ?_
    refine Ak_keep [true, true] ?_
    exact t_SG_worthsOf_J22 hO h
  · replace h := it_f hc h
    refine Ak_aload_n 12 0 (d_SG_worthsOf 5 11 (.aload_n 0) 1 rfl) rfl rfl rfl ?_
    refine Ak_getF 15 10 hO clX12 (by decide) rfl lkF_SG_82 (d_SG_worthsOf 6 12 (.getfield 82) 3 rfl) rfl ?_
    refine Ak_goto 22 (d_SG_worthsOf 7 15 (.goto 7) 3 rfl) rfl ?_
    refine Ak_keep [true, true] ?_
    exact t_SG_worthsOf_J22 hO h
theorem c_SG_worth {S : ASh} {V : ASt} {x0 : Int} {r : Int} {V' : ASt} (h : f_SG_worth S V x0 = some (r, V')) : ACt m_SG_worth 10 0 0 [(aR x0)] S V (some (aI r)) S V' := by
  unfold f_SG_worth at h
  obtain ⟨hO, h⟩ := gd_some h
  refine ACt_of (plainFor_of_name rfl) rfl (Nat.le_of_ble_eq_true rfl) ?_
  show AWk m_SG_worth 10 0 0 0 0 0 [some (aR x0)] [] S V (some (aI r)) S V'
  refine Ak_aload_n 1 0 (d_SG_worth 0 0 (.aload_n 0) 1 rfl) rfl rfl rfl ?_
  refine Ak_getR 4 1 hO clX12 (by decide) rfl lkF_SG_21 (d_SG_worth 1 1 (.getfield 21) 3 rfl) rfl ?_
  obtain ⟨hg1, h⟩ := gd_some h
  refine Ak_getI 7 0 hg1 clX1 (by decide) (Or.inl rfl) lkF_SG_164 (d_SG_worth 2 4 (.getfield 164) 3 rfl) rfl ?_
  refine Ak_if_ne 15 10 (d_SG_worth 3 7 (.ifCond .ne 8) 3 rfl) rfl rfl (fun hc => ?_) (fun hc => ?_)
  · replace h := it_f hc h
    refine Ak_aload_n 16 0 (d_SG_worth 6 15 (.aload_n 0) 1 rfl) rfl rfl rfl ?_
    refine Ak_aload_n 17 0 (d_SG_worth 7 16 (.aload_n 0) 1 rfl) rfl rfl rfl ?_
    refine Ak_getF 20 4 hO clX12 (by decide) rfl lkF_SG_40 (d_SG_worth 8 17 (.getfield 40) 3 rfl) rfl ?_
    obtain ⟨r2, V3, h4, h⟩ := bnd_some h
    refine Ak_cV1 23 4 (c_SG_worthsOf h4) rfl hO clX12 rfl mok_SG_worthsOf lkM_SG_260 (d_SG_worth 9 20 (.invokevirtual 260) 3 rfl) rfl (by decide) (Nat.le_of_ble_eq_true rfl) ?_
    refine Ak_iconst 24 (d_SG_worth 10 23 (.iconst (-1)) 1 rfl) rfl (rk rfl) ?_
    refine Ak_aload_n 25 0 (d_SG_worth 11 24 (.aload_n 0) 1 rfl) rfl rfl rfl ?_
    obtain ⟨r5, V6, h7, h⟩ := bnd_some h
    refine Ak_cV1 28 2 (c_SG_starterNow h7) rfl hO clX12 rfl mok_SG_starterNow lkM_SG_264 (d_SG_worth 12 25 (.invokevirtual 264) 3 rfl) rfl (by decide) (Nat.le_of_ble_eq_true rfl) ?_
    obtain ⟨hg11, h⟩ := gd_some h
    obtain ⟨r8, V9, h10, h⟩ := bnd_some h
    refine Ak_cV1 31 9 (c_Worths_worthBy h10) rfl hg11 clX11 rfl mok_Worths_worthBy lkM_SG_267 (d_SG_worth 13 28 (.invokevirtual 267) 3 rfl) rfl (by decide) (Nat.le_of_ble_eq_true rfl) ?_
    cases h
    exact Ak_iret rfl (d_SG_worth 14 31 (.ireturn) 1 rfl)
  · replace h := it_t hc h
    refine Ak_bipush 12 (d_SG_worth 4 10 (.bipush (-2)) 2 rfl) rfl (bp_ok rfl) (rk rfl) ?_
    refine Ak_goto 31 (d_SG_worth 5 12 (.goto 19) 3 rfl) rfl ?_
    cases h
    exact Ak_iret rfl (d_SG_worth 14 31 (.ireturn) 1 rfl)
theorem c_SG_hat {S : ASh} {V : ASt} {x0 : Int} {r : Int} {V' : ASt} (h : f_SG_hat S V x0 = some (r, V')) : ACt m_SG_hat 10 0 0 [(aR x0)] S V (some (aI r)) S V' := by
  unfold f_SG_hat at h
  obtain ⟨hO, h⟩ := gd_some h
  refine ACt_of (plainFor_of_name rfl) rfl (Nat.le_of_ble_eq_true rfl) ?_
  show AWk m_SG_hat 10 0 0 0 0 0 [some (aR x0)] [] S V (some (aI r)) S V'
  refine Ak_aload_n 1 0 (d_SG_hat 0 0 (.aload_n 0) 1 rfl) rfl rfl rfl ?_
  refine Ak_getR 4 1 hO clX12 (by decide) rfl lkF_SG_21 (d_SG_hat 1 1 (.getfield 21) 3 rfl) rfl ?_
  obtain ⟨hg1, h⟩ := gd_some h
  refine Ak_getI 7 0 hg1 clX1 (by decide) (Or.inl rfl) lkF_SG_164 (d_SG_hat 2 4 (.getfield 164) 3 rfl) rfl ?_
  refine Ak_if_ne 12 10 (d_SG_hat 3 7 (.ifCond .ne 5) 3 rfl) rfl rfl (fun hc => ?_) (fun hc => ?_)
  · replace h := it_f hc h
    refine Ak_aload_n 13 0 (d_SG_hat 6 12 (.aload_n 0) 1 rfl) rfl rfl rfl ?_
    refine Ak_getF 16 13 hO clX12 (by decide) rfl lkF_SG_96 (d_SG_hat 7 13 (.getfield 96) 3 rfl) rfl ?_
    refine Ak_aload_n 17 0 (d_SG_hat 8 16 (.aload_n 0) 1 rfl) rfl rfl rfl ?_
    obtain ⟨r2, V3, h4, h⟩ := bnd_some h
    refine Ak_cV1 20 8 (c_SG_movesNow h4) rfl hO clX12 rfl mok_SG_movesNow lkM_SG_217 (d_SG_hat 9 17 (.invokevirtual 217) 3 rfl) rfl (by decide) (Nat.le_of_ble_eq_true rfl) ?_
    obtain ⟨hg8, h⟩ := gd_some h
    obtain ⟨r5, V6, h7, h⟩ := bnd_some h
    refine Ak_cV1 23 4 (c_Match_winner h7) rfl hg8 clX3 rfl mok_Match_winner lkM_SG_233 (d_SG_hat 10 20 (.invokevirtual 233) 3 rfl) rfl (by decide) (Nat.le_of_ble_eq_true rfl) ?_
    refine Ak_istore_n 24 1 (d_SG_hat 11 23 (.istore_n 1) 1 rfl) rfl rfl (by decide) ?_
    refine Ak_iload_n 25 1 (d_SG_hat 12 24 (.iload_n 1) 1 rfl) rfl rfl rfl ?_
    refine Ak_iconst 26 (d_SG_hat 13 25 (.iconst (-1)) 1 rfl) rfl (rk rfl) ?_
    refine Ak_icmp_eq 40 29 (d_SG_hat 14 26 (.if_icmp .eq 14) 3 rfl) rfl rfl (fun hc => ?_) (fun hc => ?_)
    · replace h := it_t hc h
      refine Ak_aload_n 41 0 (d_SG_hat 22 40 (.aload_n 0) 1 rfl) rfl rfl rfl ?_
      obtain ⟨r9, V10, h11, h⟩ := bnd_some h
      refine Ak_cV1 44 9 (c_SG_valuesNow h11) rfl hO clX12 rfl mok_SG_valuesNow lkM_SG_247 (d_SG_hat 23 41 (.invokevirtual 247) 3 rfl) rfl (by decide) (Nat.le_of_ble_eq_true rfl) ?_
      refine Ak_aload_n 45 0 (d_SG_hat 24 44 (.aload_n 0) 1 rfl) rfl rfl rfl ?_
      refine Ak_getF 48 13 hO clX12 (by decide) rfl lkF_SG_96 (d_SG_hat 25 45 (.getfield 96) 3 rfl) rfl ?_
      refine Ak_getI 51 0 hg8 clX3 (by decide) (Or.inl rfl) lkF_SG_227 (d_SG_hat 26 48 (.getfield 227) 3 rfl) rfl ?_
      obtain ⟨hg15, h⟩ := gd_some h
      obtain ⟨r12, V13, h14, h⟩ := bnd_some h
      refine Ak_cV1 54 2 (c_Values_worthOf h14) rfl hg15 clX10 rfl mok_Values_worthOf lkM_SG_251 (d_SG_hat 27 51 (.invokevirtual 251) 3 rfl) rfl (by decide) (Nat.le_of_ble_eq_true rfl) ?_
      refine Ak_istore_n 55 2 (d_SG_hat 28 54 (.istore_n 2) 1 rfl) rfl rfl (by decide) ?_
      refine Ak_aload_n 56 0 (d_SG_hat 29 55 (.aload_n 0) 1 rfl) rfl rfl rfl ?_
      refine Ak_getF 59 13 hO clX12 (by decide) rfl lkF_SG_96 (d_SG_hat 30 56 (.getfield 96) 3 rfl) rfl ?_
      refine Ak_getI 62 0 hg8 clX3 (by decide) (Or.inl rfl) lkF_SG_227 (d_SG_hat 31 59 (.getfield 227) 3 rfl) rfl ?_
      refine Ak_iconst 63 (d_SG_hat 32 62 (.iconst 1) 1 rfl) rfl (rk rfl) ?_
      refine Ak_iand 64 (d_SG_hat 33 63 (.iand) 1 rfl) rfl ?_
      refine Ak_istore_n 65 3 (d_SG_hat 34 64 (.istore_n 3) 1 rfl) rfl rfl (by decide) ?_
      refine Ak_iload_n 66 2 (d_SG_hat 35 65 (.iload_n 2) 1 rfl) rfl rfl rfl ?_
      refine Ak_if_ne 71 69 (d_SG_hat 36 66 (.ifCond .ne 5) 3 rfl) rfl rfl (fun hc => ?_) (fun hc => ?_)
      · replace h := it_f hc h
        refine Ak_iload_n 72 2 (d_SG_hat 39 71 (.iload_n 2) 1 rfl) rfl rfl rfl ?_
        refine Ak_if_le 79 75 (d_SG_hat 40 72 (.ifCond .le 7) 3 rfl) rfl rfl (fun hc => ?_) (fun hc => ?_)
        · replace h := it_t hc h
          refine Ak_iconst 80 (d_SG_hat 43 79 (.iconst 1) 1 rfl) rfl (rk rfl) ?_
          refine Ak_iload_n 81 3 (d_SG_hat 44 80 (.iload_n 3) 1 rfl) rfl rfl rfl ?_
          refine Ak_isub 82 (d_SG_hat 45 81 (.isub) 1 rfl) rfl ?_
          cases h
          exact Ak_iret rfl (d_SG_hat 46 82 (.ireturn) 1 rfl)
        · replace h := it_f hc h
          refine Ak_iload_n 76 3 (d_SG_hat 41 75 (.iload_n 3) 1 rfl) rfl rfl rfl ?_
          refine Ak_goto 82 (d_SG_hat 42 76 (.goto 6) 3 rfl) rfl ?_
          cases h
          exact Ak_iret rfl (d_SG_hat 46 82 (.ireturn) 1 rfl)
      · replace h := it_t hc h
        refine Ak_iconst 70 (d_SG_hat 37 69 (.iconst (-1)) 1 rfl) rfl (rk rfl) ?_
        cases h
        exact Ak_iret rfl (d_SG_hat 38 70 (.ireturn) 1 rfl)
    · replace h := it_f hc h
      refine Ak_iload_n 30 1 (d_SG_hat 15 29 (.iload_n 1) 1 rfl) rfl rfl rfl ?_
      refine Ak_iconst 31 (d_SG_hat 16 30 (.iconst 2) 1 rfl) rfl (rk rfl) ?_
      refine Ak_icmp_ne 38 34 (d_SG_hat 17 31 (.if_icmp .ne 7) 3 rfl) rfl rfl (fun hc => ?_) (fun hc => ?_)
      · replace h := it_f hc h
        refine Ak_iload_n 39 1 (d_SG_hat 20 38 (.iload_n 1) 1 rfl) rfl rfl rfl ?_
        cases h
        exact Ak_iret rfl (d_SG_hat 21 39 (.ireturn) 1 rfl)
      · replace h := it_t hc h
        refine Ak_iconst 35 (d_SG_hat 18 34 (.iconst (-1)) 1 rfl) rfl (rk rfl) ?_
        refine Ak_goto 39 (d_SG_hat 19 35 (.goto 4) 3 rfl) rfl ?_
        cases h
        exact Ak_iret rfl (d_SG_hat 21 39 (.ireturn) 1 rfl)
  · replace h := it_t hc h
    refine Ak_iconst 11 (d_SG_hat 4 10 (.iconst (-1)) 1 rfl) rfl (rk rfl) ?_
    cases h
    exact Ak_iret rfl (d_SG_hat 5 11 (.ireturn) 1 rfl)
theorem c_SG_longest {S : ASh} {V : ASt} {x0 : Int} {r : Int} {V' : ASt} (h : f_SG_longest S V x0 = some (r, V')) : ACt m_SG_longest 9 0 0 [(aR x0)] S V (some (aI r)) S V' := by
  unfold f_SG_longest at h
  obtain ⟨hO, h⟩ := gd_some h
  refine ACt_of (plainFor_of_name rfl) rfl (Nat.le_of_ble_eq_true rfl) ?_
  show AWk m_SG_longest 9 0 0 0 0 0 [some (aR x0)] [] S V (some (aI r)) S V'
  refine Ak_aload_n 1 0 (d_SG_longest 0 0 (.aload_n 0) 1 rfl) rfl rfl rfl ?_
  refine Ak_getR 4 1 hO clX12 (by decide) rfl lkF_SG_21 (d_SG_longest 1 1 (.getfield 21) 3 rfl) rfl ?_
  obtain ⟨hg1, h⟩ := gd_some h
  refine Ak_getI 7 0 hg1 clX1 (by decide) (Or.inl rfl) lkF_SG_164 (d_SG_longest 2 4 (.getfield 164) 3 rfl) rfl ?_
  refine Ak_if_ne 12 10 (d_SG_longest 3 7 (.ifCond .ne 5) 3 rfl) rfl rfl (fun hc => ?_) (fun hc => ?_)
  · replace h := it_f hc h
    refine Ak_aload_n 13 0 (d_SG_longest 6 12 (.aload_n 0) 1 rfl) rfl rfl rfl ?_
    obtain ⟨r2, V3, h4, h⟩ := bnd_some h
    refine Ak_cV1 16 8 (c_SG_movesNow h4) rfl hO clX12 rfl mok_SG_movesNow lkM_SG_217 (d_SG_longest 7 13 (.invokevirtual 217) 3 rfl) rfl (by decide) (Nat.le_of_ble_eq_true rfl) ?_
    refine Ak_aload_n 17 0 (d_SG_longest 8 16 (.aload_n 0) 1 rfl) rfl rfl rfl ?_
    obtain ⟨r5, V6, h7, h⟩ := bnd_some h
    refine Ak_cV1 20 3 (c_SG_beginningNow h7) rfl hO clX12 rfl mok_SG_beginningNow lkM_SG_241 (d_SG_longest 9 17 (.invokevirtual 241) 3 rfl) rfl (by decide) (Nat.le_of_ble_eq_true rfl) ?_
    obtain ⟨hg11, h⟩ := gd_some h
    obtain ⟨r8, V9, h10, h⟩ := bnd_some h
    refine Ak_cV0 23 4 (c_Moves_listFrom h10) rfl hg11 clX4 rfl mok_Moves_listFrom lkM_SG_270 (d_SG_longest 10 20 (.invokevirtual 270) 3 rfl) rfl (by decide) (Nat.le_of_ble_eq_true rfl) ?_
    refine Ak_aload_n 24 0 (d_SG_longest 11 23 (.aload_n 0) 1 rfl) rfl rfl rfl ?_
    refine Ak_getF 27 8 hO clX12 (by decide) rfl lkF_SG_70 (d_SG_longest 12 24 (.getfield 70) 3 rfl) rfl ?_
    refine Ak_aload_n 28 0 (d_SG_longest 13 27 (.aload_n 0) 1 rfl) rfl rfl rfl ?_
    obtain ⟨r12, V13, h14, h⟩ := bnd_some h
    refine Ak_cV1 31 3 (c_SG_beginningNow h14) rfl hO clX12 rfl mok_SG_beginningNow lkM_SG_241 (d_SG_longest 14 28 (.invokevirtual 241) 3 rfl) rfl (by decide) (Nat.le_of_ble_eq_true rfl) ?_
    obtain ⟨hg18, h⟩ := gd_some h
    obtain ⟨r15, V16, h17, h⟩ := bnd_some h
    refine Ak_cV1 34 5 (c_Values_longestFrom h17) rfl hg18 clX10 rfl mok_Values_longestFrom lkM_SG_273 (d_SG_longest 15 31 (.invokevirtual 273) 3 rfl) rfl (by decide) (Nat.le_of_ble_eq_true rfl) ?_
    cases h
    exact Ak_iret rfl (d_SG_longest 16 34 (.ireturn) 1 rfl)
  · replace h := it_t hc h
    refine Ak_iconst 11 (d_SG_longest 4 10 (.iconst (-1)) 1 rfl) rfl (rk rfl) ?_
    cases h
    exact Ak_iret rfl (d_SG_longest 5 11 (.ireturn) 1 rfl)
theorem t_SG_row_J67 {S : ASh} {V : ASt} {x0 x2 : Int} {r : Int} {V' : ASt} (hO : isO S x0 12 = true) (h : b_SG_row_J67 S  V x0 x2 = some (r, V')) : AWk m_SG_row 9 0 0 0 0 67 [some (aR x0), none, some (aI x2)] [] S V (some (aI r)) S V' := by
  unfold b_SG_row_J67 at h
  refine Ak_aload_n 68 0 (d_SG_row 35 67 (.aload_n 0) 1 rfl) rfl rfl rfl ?_
  refine Ak_getF 71 0 hO clX12 (by decide) rfl lkF_SG_14 (d_SG_row 36 68 (.getfield 14) 3 rfl) rfl ?_
  refine Ak_iconst 72 (d_SG_row 37 71 (.iconst 0) 1 rfl) rfl (rk rfl) ?_
  obtain ⟨hg1, h⟩ := gd_some h
  refine Ak_putI 75 0 hg1 clX0 (by decide) rfl rfl rfl lkF_SG_123 (d_SG_row 38 72 (.putfield 123) 3 rfl) rfl (fun V2 hV2 => ?_)
  replace h := wV_some h V2 hV2
  refine Ak_iload_n 76 2 (d_SG_row 39 75 (.iload_n 2) 1 rfl) rfl rfl rfl ?_
  cases h
  exact Ak_iret rfl (d_SG_row 40 76 (.ireturn) 1 rfl)
theorem t_SG_row_L20 {S : ASh} {x0 x1 : Int} (hO : isO S x0 12 = true) : ∀ (n : Nat) (V : ASt) (x2 x3 : Int) (r : Int) (V' : ASt), b_SG_row_L20 S x0 x1 n V x2 x3 = some (r, V') → AWk m_SG_row 9 0 0 0 0 20 [some (aR x0), some (aR x1), some (aI x2), some (aI x3)] [] S V (some (aI r)) S V' := by
  intro n
  induction n with
  | zero => intro V x2 x3 r V' h; cases h
  | succ n ih =>
    intro V x2 x3 r V' h
    replace ih : ∀ {V : ASt} {x2 x3 : Int} {r : Int} {V' : ASt}, b_SG_row_L20 S x0 x1 n V x2 x3 = some (r, V') → AWk m_SG_row 9 0 0 0 0 20 [some (aR x0), some (aR x1), some (aI x2), some (aI x3)] [] S V (some (aI r)) S V' := fun h => ih _ _ _ _ _ h
    rw [b_SG_row_L20] at h
    refine Ak_iload_n 21 3 (d_SG_row 12 20 (.iload_n 3) 1 rfl) rfl rfl rfl ?_
    refine Ak_aload_n 22 0 (d_SG_row 13 21 (.aload_n 0) 1 rfl) rfl rfl rfl ?_
    refine Ak_getF 25 0 hO clX12 (by decide) rfl lkF_SG_14 (d_SG_row 14 22 (.getfield 14) 3 rfl) rfl ?_
    obtain ⟨hg3, h⟩ := gd_some h
    refine Ak_getI 28 0 hg3 clX0 (by decide) (Or.inl rfl) lkF_SG_123 (d_SG_row 15 25 (.getfield 123) 3 rfl) rfl ?_
    refine Ak_icmp_ge 67 31 (d_SG_row 16 28 (.if_icmp .ge 39) 3 rfl) rfl rfl (fun hc => ?_) (fun hc => ?_)
    · replace h := it_t hc h
      refine Ak_keep [true, false, true] ?_
      exact t_SG_row_J67 hO h
    · replace h := it_f hc h
      refine Ak_iload_n 32 2 (d_SG_row 17 31 (.iload_n 2) 1 rfl) rfl rfl rfl ?_
      refine Ak_iconst 33 (d_SG_row 18 32 (.iconst (-1)) 1 rfl) rfl (rk rfl) ?_
      refine Ak_icmp_ne 67 36 (d_SG_row 19 33 (.if_icmp .ne 34) 3 rfl) rfl rfl (fun hc => ?_) (fun hc => ?_)
      · replace h := it_f hc h
        refine Ak_keep [true, false, true] ?_
        exact t_SG_row_J67 hO h
      · replace h := it_t hc h
        refine Ak_aload_n 37 0 (d_SG_row 20 36 (.aload_n 0) 1 rfl) rfl rfl rfl ?_
        refine Ak_getF 40 14 hO clX12 (by decide) rfl lkF_SG_100 (d_SG_row 21 37 (.getfield 100) 3 rfl) rfl ?_
        refine Ak_aload_n 41 1 (d_SG_row 22 40 (.aload_n 1) 1 rfl) rfl rfl rfl ?_
        refine Ak_aload_n 42 0 (d_SG_row 23 41 (.aload_n 0) 1 rfl) rfl rfl rfl ?_
        refine Ak_getR 45 1 hO clX12 (by decide) rfl lkF_SG_21 (d_SG_row 24 42 (.getfield 21) 3 rfl) rfl ?_
        refine Ak_aload_n 46 0 (d_SG_row 25 45 (.aload_n 0) 1 rfl) rfl rfl rfl ?_
        refine Ak_getF 49 0 hO clX12 (by decide) rfl lkF_SG_14 (d_SG_row 26 46 (.getfield 14) 3 rfl) rfl ?_
        refine Ak_iload_n 50 3 (d_SG_row 27 49 (.iload_n 3) 1 rfl) rfl rfl rfl ?_
        obtain ⟨r4, V5, h6, h⟩ := bnd_some h
        refine Ak_cV1 53 2 (c_Bytes_at h6) rfl hg3 clX0 rfl mok_Bytes_at lkM_SG_276 (d_SG_row 28 50 (.invokevirtual 276) 3 rfl) rfl (by decide) (Nat.le_of_ble_eq_true rfl) ?_
        obtain ⟨hg10, h⟩ := gd_some h
        obtain ⟨r7, V8, h9, h⟩ := bnd_some h
        refine Ak_cV1 56 4 (c_Match_step h9) rfl hg10 clX3 rfl mok_Match_step lkM_SG_237 (d_SG_row 29 53 (.invokevirtual 237) 3 rfl) rfl (by decide) (Nat.le_of_ble_eq_true rfl) ?_
        refine Ak_if_ne 61 59 (d_SG_row 30 56 (.ifCond .ne 5) 3 rfl) rfl rfl (fun hc => ?_) (fun hc => ?_)
        · replace h := it_f hc h
          refine Ak_iinc 64 (d_SG_row 33 61 (.iinc 3 1) 3 rfl) rfl rfl (by decide) ?_
          refine Ak_goto 20 (d_SG_row 34 64 (.goto (-44)) 3 rfl) rfl ?_
          refine Ak_keep [true, true, true, true] ?_
          exact ih h
        · replace h := it_t hc h
          refine Ak_iload_n 60 3 (d_SG_row 31 59 (.iload_n 3) 1 rfl) rfl rfl rfl ?_
          refine Ak_istore_n 61 2 (d_SG_row 32 60 (.istore_n 2) 1 rfl) rfl rfl (by decide) ?_
          refine Ak_iinc 64 (d_SG_row 33 61 (.iinc 3 1) 3 rfl) rfl rfl (by decide) ?_
          refine Ak_goto 20 (d_SG_row 34 64 (.goto (-44)) 3 rfl) rfl ?_
          refine Ak_keep [true, true, true, true] ?_
          exact ih h
theorem c_SG_row {S : ASh} {V : ASt} {x0 : Int} {r : Int} {V' : ASt} (h : f_SG_row S V x0 = some (r, V')) : ACt m_SG_row 9 0 0 [(aR x0)] S V (some (aI r)) S V' := by
  unfold f_SG_row at h
  obtain ⟨hO, h⟩ := gd_some h
  refine ACt_of (plainFor_of_name rfl) rfl (Nat.le_of_ble_eq_true rfl) ?_
  show AWk m_SG_row 9 0 0 0 0 0 [some (aR x0)] [] S V (some (aI r)) S V'
  refine Ak_aload_n 1 0 (d_SG_row 0 0 (.aload_n 0) 1 rfl) rfl rfl rfl ?_
  obtain ⟨r11, V12, h13, h⟩ := bnd_some h
  refine Ak_cV1 4 8 (c_SG_movesNow h13) rfl hO clX12 rfl mok_SG_movesNow lkM_SG_217 (d_SG_row 1 1 (.invokevirtual 217) 3 rfl) rfl (by decide) (Nat.le_of_ble_eq_true rfl) ?_
  obtain ⟨hn14, h⟩ := gd_some h
  refine Ak_astore_n 5 1 (dec_t hn14) (d_SG_row 2 4 (.astore_n 1) 1 rfl) rfl rfl (by decide) ?_
  refine Ak_iconst 6 (d_SG_row 3 5 (.iconst (-1)) 1 rfl) rfl (rk rfl) ?_
  refine Ak_istore_n 7 2 (d_SG_row 4 6 (.istore_n 2) 1 rfl) rfl rfl (by decide) ?_
  refine Ak_aload_n 8 0 (d_SG_row 5 7 (.aload_n 0) 1 rfl) rfl rfl rfl ?_
  refine Ak_getF 11 14 hO clX12 (by decide) rfl lkF_SG_100 (d_SG_row 6 8 (.getfield 100) 3 rfl) rfl ?_
  refine Ak_aload_n 12 0 (d_SG_row 7 11 (.aload_n 0) 1 rfl) rfl rfl rfl ?_
  obtain ⟨r15, V16, h17, h⟩ := bnd_some h
  refine Ak_cV1 15 3 (c_SG_beginningNow h17) rfl hO clX12 rfl mok_SG_beginningNow lkM_SG_241 (d_SG_row 8 12 (.invokevirtual 241) 3 rfl) rfl (by decide) (Nat.le_of_ble_eq_true rfl) ?_
  obtain ⟨hg21, h⟩ := gd_some h
  obtain ⟨r18, V19, h20, h⟩ := bnd_some h
  refine Ak_cV0 18 2 (c_Match_begin h20) rfl hg21 clX3 rfl mok_Match_begin lkM_SG_244 (d_SG_row 9 15 (.invokevirtual 244) 3 rfl) rfl (by decide) (Nat.le_of_ble_eq_true rfl) ?_
  refine Ak_iconst 19 (d_SG_row 10 18 (.iconst 0) 1 rfl) rfl (rk rfl) ?_
  refine Ak_istore_n 20 3 (d_SG_row 11 19 (.istore_n 3) 1 rfl) rfl rfl (by decide) ?_
  refine Ak_keep [true, true, true, true] ?_
  exact t_SG_row_L20 hO FU _ _ _ _ _ h
theorem c_SG_isPlayer {S : ASh} {V : ASt} {x0 : Int} {r : Int} {V' : ASt} (h : f_SG_isPlayer S V x0 = some (r, V')) : ACt m_SG_isPlayer 2 0 0 [(aI x0)] S V (some (aI r)) S V' := by
  unfold f_SG_isPlayer at h
  refine ACt_of (plainFor_of_name rfl) rfl (Nat.le_of_ble_eq_true rfl) ?_
  show AWk m_SG_isPlayer 2 0 0 0 0 0 [some (aI x0)] [] S V (some (aI r)) S V'
  refine Ak_iload_n 1 0 (d_SG_isPlayer 0 0 (.iload_n 0) 1 rfl) rfl rfl rfl ?_
  refine Ak_if_eq 9 4 (d_SG_isPlayer 1 1 (.ifCond .eq 8) 3 rfl) rfl rfl (fun hc => ?_) (fun hc => ?_)
  · replace h := it_t hc h
    refine Ak_iconst 10 (d_SG_isPlayer 5 9 (.iconst 1) 1 rfl) rfl (rk rfl) ?_
    refine Ak_goto 14 (d_SG_isPlayer 6 10 (.goto 4) 3 rfl) rfl ?_
    cases h
    exact Ak_zret (Or.inr rfl) rfl (d_SG_isPlayer 8 14 (.ireturn) 1 rfl)
  · replace h := it_f hc h
    refine Ak_iload_n 5 0 (d_SG_isPlayer 2 4 (.iload_n 0) 1 rfl) rfl rfl rfl ?_
    refine Ak_iconst 6 (d_SG_isPlayer 3 5 (.iconst 1) 1 rfl) rfl (rk rfl) ?_
    refine Ak_icmp_ne 13 9 (d_SG_isPlayer 4 6 (.if_icmp .ne 7) 3 rfl) rfl rfl (fun hc => ?_) (fun hc => ?_)
    · replace h := it_f hc h
      refine Ak_iconst 14 (d_SG_isPlayer 7 13 (.iconst 0) 1 rfl) rfl (rk rfl) ?_
      cases h
      exact Ak_zret (Or.inl rfl) rfl (d_SG_isPlayer 8 14 (.ireturn) 1 rfl)
    · replace h := it_t hc h
      refine Ak_iconst 10 (d_SG_isPlayer 5 9 (.iconst 1) 1 rfl) rfl (rk rfl) ?_
      refine Ak_goto 14 (d_SG_isPlayer 6 10 (.goto 4) 3 rfl) rfl ?_
      cases h
      exact Ak_zret (Or.inr rfl) rfl (d_SG_isPlayer 8 14 (.ireturn) 1 rfl)
theorem t_SG_errs_J17 {S : ASh} {V : ASt} {x0 : Int} {r : Int} {V' : ASt} (hO : isO S x0 12 = true) (h : b_SG_errs_J17 S  V x0 = some (r, V')) : AWk m_SG_errs 3 0 0 0 0 17 [some (aR x0)] [] S V (some (aI r)) S V' := by
  unfold b_SG_errs_J17 at h
  refine Ak_aload_n 18 0 (d_SG_errs 8 17 (.aload_n 0) 1 rfl) rfl rfl rfl ?_
  refine Ak_iconst 19 (d_SG_errs 9 18 (.iconst 4) 1 rfl) rfl (rk rfl) ?_
  obtain ⟨r1, V2, h3, h⟩ := bnd_some h
  refine Ak_cV0 22 2 (c_SG_refuse h3) rfl hO clX12 rfl mok_SG_refuse lkM_SG_126 (d_SG_errs 10 19 (.invokevirtual 126) 3 rfl) rfl (by decide) (Nat.le_of_ble_eq_true rfl) ?_
  refine Ak_iconst 23 (d_SG_errs 11 22 (.iconst (-1)) 1 rfl) rfl (rk rfl) ?_
  cases h
  exact Ak_iret rfl (d_SG_errs 12 23 (.ireturn) 1 rfl)
theorem c_SG_errs {S : ASh} {V : ASt} {x0 x1 x2 : Int} {r : Int} {V' : ASt} (h : f_SG_errs S V x0 x1 x2 = some (r, V')) : ACt m_SG_errs 3 0 0 [(aR x0), (aI x1), (aI x2)] S V (some (aI r)) S V' := by
  unfold f_SG_errs at h
  obtain ⟨hO, h⟩ := gd_some h
  refine ACt_of (plainFor_of_name rfl) rfl (Nat.le_of_ble_eq_true rfl) ?_
  show AWk m_SG_errs 3 0 0 0 0 0 [some (aR x0), some (aI x1), some (aI x2)] [] S V (some (aI r)) S V'
  refine Ak_iload_n 1 1 (d_SG_errs 0 0 (.iload_n 1) 1 rfl) rfl rfl rfl ?_
  obtain ⟨r4, V5, h6, h⟩ := bnd_some h
  refine Ak_cS1 4 2 (c_SG_isPlayer h6) rfl mok_SG_isPlayer lkM_SG_279 (d_SG_errs 1 1 (.invokestatic 279) 3 rfl) rfl (by decide) (Nat.le_of_ble_eq_true rfl) ?_
  refine Ak_if_eq 17 7 (d_SG_errs 2 4 (.ifCond .eq 13) 3 rfl) rfl rfl (fun hc => ?_) (fun hc => ?_)
  · replace h := it_t hc h
    refine Ak_keep [true] ?_
    exact t_SG_errs_J17 hO h
  · replace h := it_f hc h
    refine Ak_iload_n 8 2 (d_SG_errs 3 7 (.iload_n 2) 1 rfl) rfl rfl rfl ?_
    refine Ak_if_lt 17 11 (d_SG_errs 4 8 (.ifCond .lt 9) 3 rfl) rfl rfl (fun hc => ?_) (fun hc => ?_)
    · replace h := it_t hc h
      refine Ak_keep [true] ?_
      exact t_SG_errs_J17 hO h
    · replace h := it_f hc h
      refine Ak_iload_n 12 2 (d_SG_errs 5 11 (.iload_n 2) 1 rfl) rfl rfl rfl ?_
      refine Ak_bipush 14 (d_SG_errs 6 12 (.bipush 100) 2 rfl) rfl (bp_ok rfl) (rk rfl) ?_
      refine Ak_icmp_le 24 17 (d_SG_errs 7 14 (.if_icmp .le 10) 3 rfl) rfl rfl (fun hc => ?_) (fun hc => ?_)
      · replace h := it_t hc h
        refine Ak_aload_n 25 0 (d_SG_errs 13 24 (.aload_n 0) 1 rfl) rfl rfl rfl ?_
        refine Ak_getF 28 15 hO clX12 (by decide) rfl lkF_SG_103 (d_SG_errs 14 25 (.getfield 103) 3 rfl) rfl ?_
        refine Ak_iload_n 29 1 (d_SG_errs 15 28 (.iload_n 1) 1 rfl) rfl rfl rfl ?_
        obtain ⟨ha7, h⟩ := gd_some h
        refine Ak_iaload 30 ha7 (d_SG_errs 16 29 (.iaload) 1 rfl) rfl ?_
        refine Ak_istore_n 31 3 (d_SG_errs 17 30 (.istore_n 3) 1 rfl) rfl rfl (by decide) ?_
        refine Ak_aload_n 32 0 (d_SG_errs 18 31 (.aload_n 0) 1 rfl) rfl rfl rfl ?_
        refine Ak_getF 35 15 hO clX12 (by decide) rfl lkF_SG_103 (d_SG_errs 19 32 (.getfield 103) 3 rfl) rfl ?_
        refine Ak_iload_n 36 1 (d_SG_errs 20 35 (.iload_n 1) 1 rfl) rfl rfl rfl ?_
        refine Ak_iload_n 37 2 (d_SG_errs 21 36 (.iload_n 2) 1 rfl) rfl rfl rfl ?_
        refine Ak_iastore 38 ha7 (d_SG_errs 22 37 (.iastore) 1 rfl) rfl (fun V8 hV8 => ?_)
        replace h := wV_some h V8 hV8
        refine Ak_iload_n 39 3 (d_SG_errs 23 38 (.iload_n 3) 1 rfl) rfl rfl rfl ?_
        cases h
        exact Ak_iret rfl (d_SG_errs 24 39 (.ireturn) 1 rfl)
      · replace h := it_f hc h
        refine Ak_keep [true] ?_
        exact t_SG_errs_J17 hO h
theorem c_SG_likely {S : ASh} {V : ASt} {x0 x1 : Int} {r : Int} {V' : ASt} (h : f_SG_likely S V x0 x1 = some (r, V')) : ACt m_SG_likely 10 0 0 [(aR x0), (aI x1)] S V (some (aI r)) S V' := by
  unfold f_SG_likely at h
  obtain ⟨hO, h⟩ := gd_some h
  refine ACt_of (plainFor_of_name rfl) rfl (Nat.le_of_ble_eq_true rfl) ?_
  show AWk m_SG_likely 10 0 0 0 0 0 [some (aR x0), some (aI x1)] [] S V (some (aI r)) S V'
  refine Ak_aload_n 1 0 (d_SG_likely 0 0 (.aload_n 0) 1 rfl) rfl rfl rfl ?_
  refine Ak_getR 4 1 hO clX12 (by decide) rfl lkF_SG_21 (d_SG_likely 1 1 (.getfield 21) 3 rfl) rfl ?_
  obtain ⟨hg1, h⟩ := gd_some h
  refine Ak_getI 7 0 hg1 clX1 (by decide) (Or.inl rfl) lkF_SG_164 (d_SG_likely 2 4 (.getfield 164) 3 rfl) rfl ?_
  refine Ak_if_eq 20 10 (d_SG_likely 3 7 (.ifCond .eq 13) 3 rfl) rfl rfl (fun hc => ?_) (fun hc => ?_)
  · replace h := it_t hc h
    refine Ak_iconst 21 (d_SG_likely 9 20 (.iconst (-1)) 1 rfl) rfl (rk rfl) ?_
    cases h
    exact Ak_iret rfl (d_SG_likely 10 21 (.ireturn) 1 rfl)
  · replace h := it_f hc h
    refine Ak_iload_n 11 1 (d_SG_likely 4 10 (.iload_n 1) 1 rfl) rfl rfl rfl ?_
    refine Ak_if_lt 20 14 (d_SG_likely 5 11 (.ifCond .lt 9) 3 rfl) rfl rfl (fun hc => ?_) (fun hc => ?_)
    · replace h := it_t hc h
      refine Ak_iconst 21 (d_SG_likely 9 20 (.iconst (-1)) 1 rfl) rfl (rk rfl) ?_
      cases h
      exact Ak_iret rfl (d_SG_likely 10 21 (.ireturn) 1 rfl)
    · replace h := it_f hc h
      refine Ak_iload_n 15 1 (d_SG_likely 6 14 (.iload_n 1) 1 rfl) rfl rfl rfl ?_
      refine Ak_bipush 17 (d_SG_likely 7 15 (.bipush 40) 2 rfl) rfl (bp_ok rfl) (rk rfl) ?_
      refine Ak_icmp_le 22 20 (d_SG_likely 8 17 (.if_icmp .le 5) 3 rfl) rfl rfl (fun hc => ?_) (fun hc => ?_)
      · replace h := it_t hc h
        refine Ak_aload_n 23 0 (d_SG_likely 11 22 (.aload_n 0) 1 rfl) rfl rfl rfl ?_
        obtain ⟨r2, V3, h4, h⟩ := bnd_some h
        refine Ak_cV1 26 9 (c_SG_valuesNow h4) rfl hO clX12 rfl mok_SG_valuesNow lkM_SG_247 (d_SG_likely 12 23 (.invokevirtual 247) 3 rfl) rfl (by decide) (Nat.le_of_ble_eq_true rfl) ?_
        obtain ⟨hn5, h⟩ := gd_some h
        refine Ak_astore_n 27 2 (dec_t hn5) (d_SG_likely 13 26 (.astore_n 2) 1 rfl) rfl rfl (by decide) ?_
        refine Ak_aload_n 28 0 (d_SG_likely 14 27 (.aload_n 0) 1 rfl) rfl rfl rfl ?_
        refine Ak_getF 31 7 hO clX12 (by decide) rfl lkF_SG_61 (d_SG_likely 15 28 (.getfield 61) 3 rfl) rfl ?_
        refine Ak_aload_n 32 0 (d_SG_likely 16 31 (.aload_n 0) 1 rfl) rfl rfl rfl ?_
        obtain ⟨r6, V7, h8, h⟩ := bnd_some h
        refine Ak_cV1 35 3 (c_SG_beginningNow h8) rfl hO clX12 rfl mok_SG_beginningNow lkM_SG_241 (d_SG_likely 17 32 (.invokevirtual 241) 3 rfl) rfl (by decide) (Nat.le_of_ble_eq_true rfl) ?_
        obtain ⟨hg12, h⟩ := gd_some h
        obtain ⟨r9, V10, h11, h⟩ := bnd_some h
        refine Ak_cV0 38 4 (c_Moves_listFrom h11) rfl hg12 clX4 rfl mok_Moves_listFrom lkM_SG_270 (d_SG_likely 18 35 (.invokevirtual 270) 3 rfl) rfl (by decide) (Nat.le_of_ble_eq_true rfl) ?_
        refine Ak_aload_n 39 2 (d_SG_likely 19 38 (.aload_n 2) 1 rfl) rfl rfl rfl ?_
        refine Ak_aload_n 40 0 (d_SG_likely 20 39 (.aload_n 0) 1 rfl) rfl rfl rfl ?_
        obtain ⟨r13, V14, h15, h⟩ := bnd_some h
        refine Ak_cV1 43 3 (c_SG_beginningNow h15) rfl hO clX12 rfl mok_SG_beginningNow lkM_SG_241 (d_SG_likely 21 40 (.invokevirtual 241) 3 rfl) rfl (by decide) (Nat.le_of_ble_eq_true rfl) ?_
        refine Ak_iload_n 44 1 (d_SG_likely 22 43 (.iload_n 1) 1 rfl) rfl rfl rfl ?_
        refine Ak_aload_n 45 0 (d_SG_likely 23 44 (.aload_n 0) 1 rfl) rfl rfl rfl ?_
        refine Ak_getF 48 15 hO clX12 (by decide) rfl lkF_SG_103 (d_SG_likely 24 45 (.getfield 103) 3 rfl) rfl ?_
        obtain ⟨hg19, h⟩ := gd_some h
        obtain ⟨r16, V17, h18, h⟩ := bnd_some h
        refine Ak_cV1 51 5 (c_Values_chanceFrom h18) rfl hg19 clX10 rfl mok_Values_chanceFrom lkM_SG_282 (d_SG_likely 25 48 (.invokevirtual 282) 3 rfl) rfl (by decide) (Nat.le_of_ble_eq_true rfl) ?_
        cases h
        exact Ak_iret rfl (d_SG_likely 26 51 (.ireturn) 1 rfl)
      · replace h := it_f hc h
        refine Ak_iconst 21 (d_SG_likely 9 20 (.iconst (-1)) 1 rfl) rfl (rk rfl) ?_
        cases h
        exact Ak_iret rfl (d_SG_likely 10 21 (.ireturn) 1 rfl)
theorem t_SG_change_L4 {S : ASh} {x0 x1 : Int} (hO : isO S x0 12 = true) : ∀ (n : Nat) (V : ASt) (x2 x3 : Int) (r : Int) (V' : ASt), b_SG_change_L4 S x0 x1 n V x2 x3 = some (r, V') → AWk m_SG_change 6 0 0 0 0 4 [some (aR x0), some (aI x1), some (aI x2), some (aI x3)] [] S V (some (aI r)) S V' := by
  intro n
  induction n with
  | zero => intro V x2 x3 r V' h; cases h
  | succ n ih =>
    intro V x2 x3 r V' h
    replace ih : ∀ {V : ASt} {x2 x3 : Int} {r : Int} {V' : ASt}, b_SG_change_L4 S x0 x1 n V x2 x3 = some (r, V') → AWk m_SG_change 6 0 0 0 0 4 [some (aR x0), some (aI x1), some (aI x2), some (aI x3)] [] S V (some (aI r)) S V' := fun h => ih _ _ _ _ _ h
    rw [b_SG_change_L4] at h
    refine Ak_iload_n 5 3 (d_SG_change 4 4 (.iload_n 3) 1 rfl) rfl rfl rfl ?_
    refine Ak_aload_n 6 0 (d_SG_change 5 5 (.aload_n 0) 1 rfl) rfl rfl rfl ?_
    refine Ak_getF 9 4 hO clX12 (by decide) rfl lkF_SG_40 (d_SG_change 6 6 (.getfield 40) 3 rfl) rfl ?_
    obtain ⟨hg4, h⟩ := gd_some h
    obtain ⟨r1, V2, h3, h⟩ := bnd_some h
    refine Ak_cV1 12 2 (c_Slate_codeCount h3) rfl hg4 clX6 rfl mok_Slate_codeCount lkM_SG_286 (d_SG_change 7 9 (.invokevirtual 286) 3 rfl) rfl (by decide) (Nat.le_of_ble_eq_true rfl) ?_
    refine Ak_icmp_ge 46 15 (d_SG_change 8 12 (.if_icmp .ge 34) 3 rfl) rfl rfl (fun hc => ?_) (fun hc => ?_)
    · replace h := it_t hc h
      refine Ak_iload_n 47 1 (d_SG_change 24 46 (.iload_n 1) 1 rfl) rfl rfl rfl ?_
      refine Ak_iconst 48 (d_SG_change 25 47 (.iconst (-1)) 1 rfl) rfl (rk rfl) ?_
      refine Ak_icmp_ne 55 51 (d_SG_change 26 48 (.if_icmp .ne 7) 3 rfl) rfl rfl (fun hc => ?_) (fun hc => ?_)
      · replace h := it_f hc h
        refine Ak_iconst 56 (d_SG_change 29 55 (.iconst (-1)) 1 rfl) rfl (rk rfl) ?_
        cases h
        exact Ak_iret rfl (d_SG_change 30 56 (.ireturn) 1 rfl)
      · replace h := it_t hc h
        refine Ak_iload_n 52 2 (d_SG_change 27 51 (.iload_n 2) 1 rfl) rfl rfl rfl ?_
        refine Ak_goto 56 (d_SG_change 28 52 (.goto 4) 3 rfl) rfl ?_
        cases h
        exact Ak_iret rfl (d_SG_change 30 56 (.ireturn) 1 rfl)
    · replace h := it_f hc h
      refine Ak_aload_n 16 0 (d_SG_change 9 15 (.aload_n 0) 1 rfl) rfl rfl rfl ?_
      refine Ak_getF 19 4 hO clX12 (by decide) rfl lkF_SG_40 (d_SG_change 10 16 (.getfield 40) 3 rfl) rfl ?_
      refine Ak_aload_n 20 0 (d_SG_change 11 19 (.aload_n 0) 1 rfl) rfl rfl rfl ?_
      refine Ak_getR 23 1 hO clX12 (by decide) rfl lkF_SG_21 (d_SG_change 12 20 (.getfield 21) 3 rfl) rfl ?_
      refine Ak_iload_n 24 3 (d_SG_change 13 23 (.iload_n 3) 1 rfl) rfl rfl rfl ?_
      obtain ⟨r5, V6, h7, h⟩ := bnd_some h
      refine Ak_cV1 27 5 (c_Slate_allows h7) rfl hg4 clX6 rfl mok_Slate_allows lkM_SG_289 (d_SG_change 14 24 (.invokevirtual 289) 3 rfl) rfl (by decide) (Nat.le_of_ble_eq_true rfl) ?_
      refine Ak_if_eq 40 30 (d_SG_change 15 27 (.ifCond .eq 13) 3 rfl) rfl rfl (fun hc => ?_) (fun hc => ?_)
      · replace h := it_t hc h
        refine Ak_iinc 43 (d_SG_change 22 40 (.iinc 3 1) 3 rfl) rfl rfl (by decide) ?_
        refine Ak_goto 4 (d_SG_change 23 43 (.goto (-39)) 3 rfl) rfl ?_
        refine Ak_keep [true, true, true, true] ?_
        exact ih h
      · replace h := it_f hc h
        refine Ak_iload_n 31 2 (d_SG_change 16 30 (.iload_n 2) 1 rfl) rfl rfl rfl ?_
        refine Ak_iload_n 32 1 (d_SG_change 17 31 (.iload_n 1) 1 rfl) rfl rfl rfl ?_
        refine Ak_icmp_ne 37 35 (d_SG_change 18 32 (.if_icmp .ne 5) 3 rfl) rfl rfl (fun hc => ?_) (fun hc => ?_)
        · replace h := it_f hc h
          refine Ak_iinc 40 (d_SG_change 21 37 (.iinc 2 1) 3 rfl) rfl rfl (by decide) ?_
          refine Ak_iinc 43 (d_SG_change 22 40 (.iinc 3 1) 3 rfl) rfl rfl (by decide) ?_
          refine Ak_goto 4 (d_SG_change 23 43 (.goto (-39)) 3 rfl) rfl ?_
          refine Ak_keep [true, true, true, true] ?_
          exact ih h
        · replace h := it_t hc h
          refine Ak_iload_n 36 3 (d_SG_change 19 35 (.iload_n 3) 1 rfl) rfl rfl rfl ?_
          cases h
          exact Ak_iret rfl (d_SG_change 20 36 (.ireturn) 1 rfl)
theorem c_SG_change {S : ASh} {V : ASt} {x0 x1 : Int} {r : Int} {V' : ASt} (h : f_SG_change S V x0 x1 = some (r, V')) : ACt m_SG_change 6 0 0 [(aR x0), (aI x1)] S V (some (aI r)) S V' := by
  unfold f_SG_change at h
  obtain ⟨hO, h⟩ := gd_some h
  refine ACt_of (plainFor_of_name rfl) rfl (Nat.le_of_ble_eq_true rfl) ?_
  show AWk m_SG_change 6 0 0 0 0 0 [some (aR x0), some (aI x1)] [] S V (some (aI r)) S V'
  refine Ak_iconst 1 (d_SG_change 0 0 (.iconst 0) 1 rfl) rfl (rk rfl) ?_
  refine Ak_istore_n 2 2 (d_SG_change 1 1 (.istore_n 2) 1 rfl) rfl rfl (by decide) ?_
  refine Ak_iconst 3 (d_SG_change 2 2 (.iconst 0) 1 rfl) rfl (rk rfl) ?_
  refine Ak_istore_n 4 3 (d_SG_change 3 3 (.istore_n 3) 1 rfl) rfl rfl (by decide) ?_
  refine Ak_keep [true, true, true, true] ?_
  exact t_SG_change_L4 hO FU _ _ _ _ _ h
theorem c_SG_outcome {S : ASh} {V : ASt} {x0 x1 : Int} {r : Int} {V' : ASt} (h : f_SG_outcome S V x0 x1 = some (r, V')) : ACt m_SG_outcome 10 0 0 [(aR x0), (aI x1)] S V (some (aI r)) S V' := by
  unfold f_SG_outcome at h
  obtain ⟨hO, h⟩ := gd_some h
  refine ACt_of (plainFor_of_name rfl) rfl (Nat.le_of_ble_eq_true rfl) ?_
  show AWk m_SG_outcome 10 0 0 0 0 0 [some (aR x0), some (aI x1)] [] S V (some (aI r)) S V'
  refine Ak_aload_n 1 0 (d_SG_outcome 0 0 (.aload_n 0) 1 rfl) rfl rfl rfl ?_
  refine Ak_getR 4 1 hO clX12 (by decide) rfl lkF_SG_21 (d_SG_outcome 1 1 (.getfield 21) 3 rfl) rfl ?_
  obtain ⟨hg1, h⟩ := gd_some h
  refine Ak_getI 7 0 hg1 clX1 (by decide) (Or.inl rfl) lkF_SG_164 (d_SG_outcome 2 4 (.getfield 164) 3 rfl) rfl ?_
  refine Ak_if_eq 25 10 (d_SG_outcome 3 7 (.ifCond .eq 18) 3 rfl) rfl rfl (fun hc => ?_) (fun hc => ?_)
  · replace h := it_t hc h
    refine Ak_bipush 27 (d_SG_outcome 11 25 (.bipush (-2)) 2 rfl) rfl (bp_ok rfl) (rk rfl) ?_
    cases h
    exact Ak_iret rfl (d_SG_outcome 12 27 (.ireturn) 1 rfl)
  · replace h := it_f hc h
    refine Ak_aload_n 11 0 (d_SG_outcome 4 10 (.aload_n 0) 1 rfl) rfl rfl rfl ?_
    refine Ak_getF 14 4 hO clX12 (by decide) rfl lkF_SG_40 (d_SG_outcome 5 11 (.getfield 40) 3 rfl) rfl ?_
    refine Ak_aload_n 15 0 (d_SG_outcome 6 14 (.aload_n 0) 1 rfl) rfl rfl rfl ?_
    refine Ak_getR 18 1 hO clX12 (by decide) rfl lkF_SG_21 (d_SG_outcome 7 15 (.getfield 21) 3 rfl) rfl ?_
    refine Ak_iload_n 19 1 (d_SG_outcome 8 18 (.iload_n 1) 1 rfl) rfl rfl rfl ?_
    obtain ⟨hg5, h⟩ := gd_some h
    obtain ⟨r2, V3, h4, h⟩ := bnd_some h
    refine Ak_cV1 22 5 (c_Slate_allows h4) rfl hg5 clX6 rfl mok_Slate_allows lkM_SG_289 (d_SG_outcome 9 19 (.invokevirtual 289) 3 rfl) rfl (by decide) (Nat.le_of_ble_eq_true rfl) ?_
    refine Ak_if_ne 28 25 (d_SG_outcome 10 22 (.ifCond .ne 6) 3 rfl) rfl rfl (fun hc => ?_) (fun hc => ?_)
    · replace h := it_f hc h
      refine Ak_aload_n 29 0 (d_SG_outcome 13 28 (.aload_n 0) 1 rfl) rfl rfl rfl ?_
      refine Ak_aload_n 30 0 (d_SG_outcome 14 29 (.aload_n 0) 1 rfl) rfl rfl rfl ?_
      refine Ak_getF 33 4 hO clX12 (by decide) rfl lkF_SG_40 (d_SG_outcome 15 30 (.getfield 40) 3 rfl) rfl ?_
      obtain ⟨r6, V7, h8, h⟩ := bnd_some h
      refine Ak_cV1 36 4 (c_SG_worthsOf h8) rfl hO clX12 rfl mok_SG_worthsOf lkM_SG_260 (d_SG_outcome 16 33 (.invokevirtual 260) 3 rfl) rfl (by decide) (Nat.le_of_ble_eq_true rfl) ?_
      refine Ak_iload_n 37 1 (d_SG_outcome 17 36 (.iload_n 1) 1 rfl) rfl rfl rfl ?_
      refine Ak_aload_n 38 0 (d_SG_outcome 18 37 (.aload_n 0) 1 rfl) rfl rfl rfl ?_
      obtain ⟨r9, V10, h11, h⟩ := bnd_some h
      refine Ak_cV1 41 2 (c_SG_starterNow h11) rfl hO clX12 rfl mok_SG_starterNow lkM_SG_264 (d_SG_outcome 19 38 (.invokevirtual 264) 3 rfl) rfl (by decide) (Nat.le_of_ble_eq_true rfl) ?_
      obtain ⟨hg15, h⟩ := gd_some h
      obtain ⟨r12, V13, h14, h⟩ := bnd_some h
      refine Ak_cV1 44 9 (c_Worths_worthBy h14) rfl hg15 clX11 rfl mok_Worths_worthBy lkM_SG_267 (d_SG_outcome 20 41 (.invokevirtual 267) 3 rfl) rfl (by decide) (Nat.le_of_ble_eq_true rfl) ?_
      cases h
      exact Ak_iret rfl (d_SG_outcome 21 44 (.ireturn) 1 rfl)
    · replace h := it_t hc h
      refine Ak_bipush 27 (d_SG_outcome 11 25 (.bipush (-2)) 2 rfl) rfl (bp_ok rfl) (rk rfl) ?_
      cases h
      exact Ak_iret rfl (d_SG_outcome 12 27 (.ireturn) 1 rfl)
theorem c_SG_wordsOf {S : ASh} {V : ASt} {x0 : Int} {r : Int} {V' : ASt} (h : f_SG_wordsOf S V x0 = some (r, V')) : ACt m_SG_wordsOf 2 0 0 [(aI x0)] S V (some (aI r)) S V' := by
  unfold f_SG_wordsOf at h
  refine ACt_of (plainFor_of_name rfl) rfl (Nat.le_of_ble_eq_true rfl) ?_
  show AWk m_SG_wordsOf 2 0 0 0 0 0 [some (aI x0)] [] S V (some (aI r)) S V'
  refine Ak_iload_n 1 0 (d_SG_wordsOf 0 0 (.iload_n 0) 1 rfl) rfl rfl rfl ?_
  refine Ak_bipush 3 (d_SG_wordsOf 1 1 (.bipush 6) 2 rfl) rfl (bp_ok rfl) (rk rfl) ?_
  refine Ak_irem 4 (d_SG_wordsOf 2 3 (.irem) 1 rfl) rfl (by decide) ?_
  refine Ak_iconst 5 (d_SG_wordsOf 3 4 (.iconst 5) 1 rfl) rfl (rk rfl) ?_
  refine Ak_icmp_ne 12 8 (d_SG_wordsOf 4 5 (.if_icmp .ne 7) 3 rfl) rfl rfl (fun hc => ?_) (fun hc => ?_)
  · replace h := it_f hc h
    refine Ak_iconst 13 (d_SG_wordsOf 7 12 (.iconst 1) 1 rfl) rfl (rk rfl) ?_
    cases h
    exact Ak_iret rfl (d_SG_wordsOf 8 13 (.ireturn) 1 rfl)
  · replace h := it_t hc h
    refine Ak_iconst 9 (d_SG_wordsOf 5 8 (.iconst 2) 1 rfl) rfl (rk rfl) ?_
    refine Ak_goto 13 (d_SG_wordsOf 6 9 (.goto 4) 3 rfl) rfl ?_
    cases h
    exact Ak_iret rfl (d_SG_wordsOf 8 13 (.ireturn) 1 rfl)
theorem t_SG_turning_J95 {S : ASh} {K52 : ASt → Int → Int → Int → Int → Option (Int × ASt)} {V : ASt} {x0 x1 x2 x3 x4 x5 x6 x7 s0 : Int} {r : Int} {V' : ASt} (hO : isO S x0 12 = true) (hK52 : ∀ {V : ASt} {y4 y5 y6 y7 : Int} {r : Int} {V' : ASt}, K52 V y4 y5 y6 y7 = some (r, V') → AWk m_SG_turning 10 0 0 0 0 52 [some (aR x0), some (aI x1), some (aR x2), some (aI x3), some (aI y4), some (aI y5), some (aI y6), some (aI y7)] [] S V (some (aI r)) S V') (h : b_SG_turning_J95 S K52 V x0 x1 x2 x3 x4 x5 x6 x7 s0 = some (r, V')) : AWk m_SG_turning 10 0 0 0 0 95 [some (aR x0), some (aI x1), some (aR x2), some (aI x3), some (aI x4), some (aI x5), some (aI x6), some (aI x7)] [(aI s0)] S V (some (aI r)) S V' := by
  unfold b_SG_turning_J95 at h
  refine Ak_istore 97 (d_SG_turning 49 95 (.istore 8) 2 rfl) rfl (by decide) ?_
  refine Ak_iload 99 (d_SG_turning 50 97 (.iload 8) 2 rfl) rfl rfl ?_
  refine Ak_iload_n 100 3 (d_SG_turning 51 99 (.iload_n 3) 1 rfl) rfl rfl rfl ?_
  refine Ak_icmp_ne 109 103 (d_SG_turning 52 100 (.if_icmp .ne 9) 3 rfl) rfl rfl (fun hc => ?_) (fun hc => ?_)
  · replace h := it_f hc h
    refine Ak_iload 111 (d_SG_turning 55 109 (.iload 8) 2 rfl) rfl rfl ?_
    refine Ak_iload_n 112 3 (d_SG_turning 56 111 (.iload_n 3) 1 rfl) rfl rfl rfl ?_
    refine Ak_ineg 113 (d_SG_turning 57 112 (.ineg) 1 rfl) rfl ?_
    refine Ak_icmp_ne 147 116 (d_SG_turning 58 113 (.if_icmp .ne 34) 3 rfl) rfl rfl (fun hc => ?_) (fun hc => ?_)
    · replace h := it_f hc h
      refine Ak_iinc 150 (d_SG_turning 72 147 (.iinc 7 1) 3 rfl) rfl rfl (by decide) ?_
      refine Ak_goto 52 (d_SG_turning 73 150 (.goto (-98)) 3 rfl) rfl ?_
      refine Ak_keep [true, true, true, true, true, true, true, true] ?_
      exact hK52 h
    · replace h := it_t hc h
      refine Ak_iinc 119 (d_SG_turning 59 116 (.iinc 4 1) 3 rfl) rfl rfl (by decide) ?_
      refine Ak_iload 121 (d_SG_turning 60 119 (.iload 6) 2 rfl) rfl rfl ?_
      refine Ak_iconst 122 (d_SG_turning 61 121 (.iconst (-1)) 1 rfl) rfl (rk rfl) ?_
      refine Ak_icmp_eq 138 125 (d_SG_turning 62 122 (.if_icmp .eq 16) 3 rfl) rfl rfl (fun hc => ?_) (fun hc => ?_)
      · replace h := it_t hc h
        refine Ak_iload 140 (d_SG_turning 68 138 (.iload 7) 2 rfl) rfl rfl ?_
        refine Ak_goto 145 (d_SG_turning 69 140 (.goto 5) 3 rfl) rfl ?_
        refine Ak_istore 147 (d_SG_turning 71 145 (.istore 6) 2 rfl) rfl (by decide) ?_
        refine Ak_iinc 150 (d_SG_turning 72 147 (.iinc 7 1) 3 rfl) rfl rfl (by decide) ?_
        refine Ak_goto 52 (d_SG_turning 73 150 (.goto (-98)) 3 rfl) rfl ?_
        refine Ak_keep [true, true, true, true, true, true, true, true] ?_
        exact hK52 h
      · replace h := it_f hc h
        refine Ak_iload 127 (d_SG_turning 63 125 (.iload 7) 2 rfl) rfl rfl ?_
        obtain ⟨r1, V2, h3, h⟩ := bnd_some h
        refine Ak_cS1 130 2 (c_SG_wordsOf h3) rfl mok_SG_wordsOf lkM_SG_293 (d_SG_turning 64 127 (.invokestatic 293) 3 rfl) rfl (by decide) (Nat.le_of_ble_eq_true rfl) ?_
        refine Ak_iload 132 (d_SG_turning 65 130 (.iload 6) 2 rfl) rfl rfl ?_
        obtain ⟨r4, V5, h6, h⟩ := bnd_some h
        refine Ak_cS1 135 2 (c_SG_wordsOf h6) rfl mok_SG_wordsOf lkM_SG_293 (d_SG_turning 66 132 (.invokestatic 293) 3 rfl) rfl (by decide) (Nat.le_of_ble_eq_true rfl) ?_
        refine Ak_icmp_ge 143 138 (d_SG_turning 67 135 (.if_icmp .ge 8) 3 rfl) rfl rfl (fun hc => ?_) (fun hc => ?_)
        · replace h := it_t hc h
          refine Ak_iload 145 (d_SG_turning 70 143 (.iload 6) 2 rfl) rfl rfl ?_
          refine Ak_istore 147 (d_SG_turning 71 145 (.istore 6) 2 rfl) rfl (by decide) ?_
          refine Ak_iinc 150 (d_SG_turning 72 147 (.iinc 7 1) 3 rfl) rfl rfl (by decide) ?_
          refine Ak_goto 52 (d_SG_turning 73 150 (.goto (-98)) 3 rfl) rfl ?_
          refine Ak_keep [true, true, true, true, true, true, true, true] ?_
          exact hK52 h
        · replace h := it_f hc h
          refine Ak_iload 140 (d_SG_turning 68 138 (.iload 7) 2 rfl) rfl rfl ?_
          refine Ak_goto 145 (d_SG_turning 69 140 (.goto 5) 3 rfl) rfl ?_
          refine Ak_istore 147 (d_SG_turning 71 145 (.istore 6) 2 rfl) rfl (by decide) ?_
          refine Ak_iinc 150 (d_SG_turning 72 147 (.iinc 7 1) 3 rfl) rfl rfl (by decide) ?_
          refine Ak_goto 52 (d_SG_turning 73 150 (.goto (-98)) 3 rfl) rfl ?_
          refine Ak_keep [true, true, true, true, true, true, true, true] ?_
          exact hK52 h
  · replace h := it_t hc h
    refine Ak_iinc 106 (d_SG_turning 53 103 (.iinc 5 1) 3 rfl) rfl rfl (by decide) ?_
    refine Ak_goto 147 (d_SG_turning 54 106 (.goto 41) 3 rfl) rfl ?_
    refine Ak_iinc 150 (d_SG_turning 72 147 (.iinc 7 1) 3 rfl) rfl rfl (by decide) ?_
    refine Ak_goto 52 (d_SG_turning 73 150 (.goto (-98)) 3 rfl) rfl ?_
    refine Ak_keep [true, true, true, true, true, true, true, true] ?_
    exact hK52 h
theorem t_SG_turning_L52 {S : ASh} {x0 x1 x2 x3 : Int} (hO : isO S x0 12 = true) : ∀ (n : Nat) (V : ASt) (x4 x5 x6 x7 : Int) (r : Int) (V' : ASt), b_SG_turning_L52 S x0 x1 x2 x3 n V x4 x5 x6 x7 = some (r, V') → AWk m_SG_turning 10 0 0 0 0 52 [some (aR x0), some (aI x1), some (aR x2), some (aI x3), some (aI x4), some (aI x5), some (aI x6), some (aI x7)] [] S V (some (aI r)) S V' := by
  intro n
  induction n with
  | zero => intro V x4 x5 x6 x7 r V' h; cases h
  | succ n ih =>
    intro V x4 x5 x6 x7 r V' h
    replace ih : ∀ {V : ASt} {x4 x5 x6 x7 : Int} {r : Int} {V' : ASt}, b_SG_turning_L52 S x0 x1 x2 x3 n V x4 x5 x6 x7 = some (r, V') → AWk m_SG_turning 10 0 0 0 0 52 [some (aR x0), some (aI x1), some (aR x2), some (aI x3), some (aI x4), some (aI x5), some (aI x6), some (aI x7)] [] S V (some (aI r)) S V' := fun h => ih _ _ _ _ _ _ _ h
    rw [b_SG_turning_L52] at h
    refine Ak_iload 54 (d_SG_turning 30 52 (.iload 7) 2 rfl) rfl rfl ?_
    refine Ak_aload_n 55 0 (d_SG_turning 31 54 (.aload_n 0) 1 rfl) rfl rfl rfl ?_
    refine Ak_getF 58 4 hO clX12 (by decide) rfl lkF_SG_40 (d_SG_turning 32 55 (.getfield 40) 3 rfl) rfl ?_
    obtain ⟨hg10, h⟩ := gd_some h
    obtain ⟨r7, V8, h9, h⟩ := bnd_some h
    refine Ak_cV1 61 2 (c_Slate_codeCount h9) rfl hg10 clX6 rfl mok_Slate_codeCount lkM_SG_286 (d_SG_turning 33 58 (.invokevirtual 286) 3 rfl) rfl (by decide) (Nat.le_of_ble_eq_true rfl) ?_
    refine Ak_icmp_ge 153 64 (d_SG_turning 34 61 (.if_icmp .ge 92) 3 rfl) rfl rfl (fun hc => ?_) (fun hc => ?_)
    · replace h := it_t hc h
      refine Ak_iload_n 154 1 (d_SG_turning 74 153 (.iload_n 1) 1 rfl) rfl rfl rfl ?_
      refine Ak_if_ne 160 157 (d_SG_turning 75 154 (.ifCond .ne 6) 3 rfl) rfl rfl (fun hc => ?_) (fun hc => ?_)
      · replace h := it_f hc h
        refine Ak_iload_n 161 1 (d_SG_turning 78 160 (.iload_n 1) 1 rfl) rfl rfl rfl ?_
        refine Ak_iconst 162 (d_SG_turning 79 161 (.iconst 1) 1 rfl) rfl (rk rfl) ?_
        refine Ak_icmp_ne 170 165 (d_SG_turning 80 162 (.if_icmp .ne 8) 3 rfl) rfl rfl (fun hc => ?_) (fun hc => ?_)
        · replace h := it_f hc h
          refine Ak_iload 172 (d_SG_turning 83 170 (.iload 6) 2 rfl) rfl rfl ?_
          cases h
          exact Ak_iret rfl (d_SG_turning 84 172 (.ireturn) 1 rfl)
        · replace h := it_t hc h
          refine Ak_iload 167 (d_SG_turning 81 165 (.iload 5) 2 rfl) rfl rfl ?_
          refine Ak_goto 172 (d_SG_turning 82 167 (.goto 5) 3 rfl) rfl ?_
          cases h
          exact Ak_iret rfl (d_SG_turning 84 172 (.ireturn) 1 rfl)
      · replace h := it_t hc h
        refine Ak_iload 159 (d_SG_turning 76 157 (.iload 4) 2 rfl) rfl rfl ?_
        cases h
        exact Ak_iret rfl (d_SG_turning 77 159 (.ireturn) 1 rfl)
    · replace h := it_f hc h
      refine Ak_aload_n 65 0 (d_SG_turning 35 64 (.aload_n 0) 1 rfl) rfl rfl rfl ?_
      refine Ak_getF 68 4 hO clX12 (by decide) rfl lkF_SG_40 (d_SG_turning 36 65 (.getfield 40) 3 rfl) rfl ?_
      refine Ak_aload_n 69 0 (d_SG_turning 37 68 (.aload_n 0) 1 rfl) rfl rfl rfl ?_
      refine Ak_getR 72 1 hO clX12 (by decide) rfl lkF_SG_21 (d_SG_turning 38 69 (.getfield 21) 3 rfl) rfl ?_
      refine Ak_iload 74 (d_SG_turning 39 72 (.iload 7) 2 rfl) rfl rfl ?_
      obtain ⟨r11, V12, h13, h⟩ := bnd_some h
      refine Ak_cV1 77 5 (c_Slate_allows h13) rfl hg10 clX6 rfl mok_Slate_allows lkM_SG_289 (d_SG_turning 40 74 (.invokevirtual 289) 3 rfl) rfl (by decide) (Nat.le_of_ble_eq_true rfl) ?_
      refine Ak_if_eq 93 80 (d_SG_turning 41 77 (.ifCond .eq 16) 3 rfl) rfl rfl (fun hc => ?_) (fun hc => ?_)
      · replace h := it_t hc h
        refine Ak_bipush 95 (d_SG_turning 48 93 (.bipush (-2)) 2 rfl) rfl (bp_ok rfl) (rk rfl) ?_
        refine Ak_keep [true, true, true, true, true, true, true, true] ?_
        exact t_SG_turning_J95 hO (fun h => ih h) h
      · replace h := it_f hc h
        refine Ak_aload_n 81 2 (d_SG_turning 42 80 (.aload_n 2) 1 rfl) rfl rfl rfl ?_
        refine Ak_iload 83 (d_SG_turning 43 81 (.iload 7) 2 rfl) rfl rfl ?_
        refine Ak_aload_n 84 0 (d_SG_turning 44 83 (.aload_n 0) 1 rfl) rfl rfl rfl ?_
        obtain ⟨r14, V15, h16, h⟩ := bnd_some h
        refine Ak_cV1 87 2 (c_SG_starterNow h16) rfl hO clX12 rfl mok_SG_starterNow lkM_SG_264 (d_SG_turning 45 84 (.invokevirtual 264) 3 rfl) rfl (by decide) (Nat.le_of_ble_eq_true rfl) ?_
        obtain ⟨hg20, h⟩ := gd_some h
        obtain ⟨r17, V18, h19, h⟩ := bnd_some h
        refine Ak_cV1 90 9 (c_Worths_worthBy h19) rfl hg20 clX11 rfl mok_Worths_worthBy lkM_SG_267 (d_SG_turning 46 87 (.invokevirtual 267) 3 rfl) rfl (by decide) (Nat.le_of_ble_eq_true rfl) ?_
        refine Ak_goto 95 (d_SG_turning 47 90 (.goto 5) 3 rfl) rfl ?_
        refine Ak_keep [true, true, true, true, true, true, true, true] ?_
        exact t_SG_turning_J95 hO (fun h => ih h) h
theorem c_SG_turning {S : ASh} {V : ASt} {x0 x1 : Int} {r : Int} {V' : ASt} (h : f_SG_turning S V x0 x1 = some (r, V')) : ACt m_SG_turning 10 0 0 [(aR x0), (aI x1)] S V (some (aI r)) S V' := by
  unfold f_SG_turning at h
  obtain ⟨hO, h⟩ := gd_some h
  refine ACt_of (plainFor_of_name rfl) rfl (Nat.le_of_ble_eq_true rfl) ?_
  show AWk m_SG_turning 10 0 0 0 0 0 [some (aR x0), some (aI x1)] [] S V (some (aI r)) S V'
  refine Ak_aload_n 1 0 (d_SG_turning 0 0 (.aload_n 0) 1 rfl) rfl rfl rfl ?_
  refine Ak_getR 4 1 hO clX12 (by decide) rfl lkF_SG_21 (d_SG_turning 1 1 (.getfield 21) 3 rfl) rfl ?_
  obtain ⟨hg21, h⟩ := gd_some h
  refine Ak_getI 7 0 hg21 clX1 (by decide) (Or.inl rfl) lkF_SG_164 (d_SG_turning 2 4 (.getfield 164) 3 rfl) rfl ?_
  refine Ak_if_eq 19 10 (d_SG_turning 3 7 (.ifCond .eq 12) 3 rfl) rfl rfl (fun hc => ?_) (fun hc => ?_)
  · replace h := it_t hc h
    refine Ak_iconst 20 (d_SG_turning 9 19 (.iconst (-1)) 1 rfl) rfl (rk rfl) ?_
    cases h
    exact Ak_iret rfl (d_SG_turning 10 20 (.ireturn) 1 rfl)
  · replace h := it_f hc h
    refine Ak_iload_n 11 1 (d_SG_turning 4 10 (.iload_n 1) 1 rfl) rfl rfl rfl ?_
    refine Ak_if_lt 19 14 (d_SG_turning 5 11 (.ifCond .lt 8) 3 rfl) rfl rfl (fun hc => ?_) (fun hc => ?_)
    · replace h := it_t hc h
      refine Ak_iconst 20 (d_SG_turning 9 19 (.iconst (-1)) 1 rfl) rfl (rk rfl) ?_
      cases h
      exact Ak_iret rfl (d_SG_turning 10 20 (.ireturn) 1 rfl)
    · replace h := it_f hc h
      refine Ak_iload_n 15 1 (d_SG_turning 6 14 (.iload_n 1) 1 rfl) rfl rfl rfl ?_
      refine Ak_iconst 16 (d_SG_turning 7 15 (.iconst 2) 1 rfl) rfl (rk rfl) ?_
      refine Ak_icmp_le 21 19 (d_SG_turning 8 16 (.if_icmp .le 5) 3 rfl) rfl rfl (fun hc => ?_) (fun hc => ?_)
      · replace h := it_t hc h
        refine Ak_aload_n 22 0 (d_SG_turning 11 21 (.aload_n 0) 1 rfl) rfl rfl rfl ?_
        refine Ak_aload_n 23 0 (d_SG_turning 12 22 (.aload_n 0) 1 rfl) rfl rfl rfl ?_
        refine Ak_getF 26 4 hO clX12 (by decide) rfl lkF_SG_40 (d_SG_turning 13 23 (.getfield 40) 3 rfl) rfl ?_
        obtain ⟨r22, V23, h24, h⟩ := bnd_some h
        refine Ak_cV1 29 4 (c_SG_worthsOf h24) rfl hO clX12 rfl mok_SG_worthsOf lkM_SG_260 (d_SG_turning 14 26 (.invokevirtual 260) 3 rfl) rfl (by decide) (Nat.le_of_ble_eq_true rfl) ?_
        obtain ⟨hn25, h⟩ := gd_some h
        refine Ak_astore_n 30 2 (dec_t hn25) (d_SG_turning 15 29 (.astore_n 2) 1 rfl) rfl rfl (by decide) ?_
        refine Ak_aload_n 31 2 (d_SG_turning 16 30 (.aload_n 2) 1 rfl) rfl rfl rfl ?_
        refine Ak_iconst 32 (d_SG_turning 17 31 (.iconst (-1)) 1 rfl) rfl (rk rfl) ?_
        refine Ak_aload_n 33 0 (d_SG_turning 18 32 (.aload_n 0) 1 rfl) rfl rfl rfl ?_
        obtain ⟨r26, V27, h28, h⟩ := bnd_some h
        refine Ak_cV1 36 2 (c_SG_starterNow h28) rfl hO clX12 rfl mok_SG_starterNow lkM_SG_264 (d_SG_turning 19 33 (.invokevirtual 264) 3 rfl) rfl (by decide) (Nat.le_of_ble_eq_true rfl) ?_
        obtain ⟨hg32, h⟩ := gd_some h
        obtain ⟨r29, V30, h31, h⟩ := bnd_some h
        refine Ak_cV1 39 9 (c_Worths_worthBy h31) rfl hg32 clX11 rfl mok_Worths_worthBy lkM_SG_267 (d_SG_turning 20 36 (.invokevirtual 267) 3 rfl) rfl (by decide) (Nat.le_of_ble_eq_true rfl) ?_
        refine Ak_istore_n 40 3 (d_SG_turning 21 39 (.istore_n 3) 1 rfl) rfl rfl (by decide) ?_
        refine Ak_iconst 41 (d_SG_turning 22 40 (.iconst 0) 1 rfl) rfl (rk rfl) ?_
        refine Ak_istore 43 (d_SG_turning 23 41 (.istore 4) 2 rfl) rfl (by decide) ?_
        refine Ak_iconst 44 (d_SG_turning 24 43 (.iconst 0) 1 rfl) rfl (rk rfl) ?_
        refine Ak_istore 46 (d_SG_turning 25 44 (.istore 5) 2 rfl) rfl (by decide) ?_
        refine Ak_iconst 47 (d_SG_turning 26 46 (.iconst (-1)) 1 rfl) rfl (rk rfl) ?_
        refine Ak_istore 49 (d_SG_turning 27 47 (.istore 6) 2 rfl) rfl (by decide) ?_
        refine Ak_iconst 50 (d_SG_turning 28 49 (.iconst 0) 1 rfl) rfl (rk rfl) ?_
        refine Ak_istore 52 (d_SG_turning 29 50 (.istore 7) 2 rfl) rfl (by decide) ?_
        refine Ak_keep [true, true, true, true, true, true, true, true] ?_
        exact t_SG_turning_L52 hO FU _ _ _ _ _ _ _ h
      · replace h := it_f hc h
        refine Ak_iconst 20 (d_SG_turning 9 19 (.iconst (-1)) 1 rfl) rfl (rk rfl) ?_
        cases h
        exact Ak_iret rfl (d_SG_turning 10 20 (.ireturn) 1 rfl)
theorem c_SG_make {S : ASh} {V : ASt} {x0 x1 : Int} {r : Int} {V' : ASt} (h : f_SG_make S V x0 x1 = some (r, V')) : ACt m_SG_make 7 0 0 [(aR x0), (aI x1)] S V (some (aI r)) S V' := by
  unfold f_SG_make at h
  obtain ⟨hO, h⟩ := gd_some h
  refine ACt_of (plainFor_of_name rfl) rfl (Nat.le_of_ble_eq_true rfl) ?_
  show AWk m_SG_make 7 0 0 0 0 0 [some (aR x0), some (aI x1)] [] S V (some (aI r)) S V'
  refine Ak_aload_n 1 0 (d_SG_make 0 0 (.aload_n 0) 1 rfl) rfl rfl rfl ?_
  refine Ak_getF 4 4 hO clX12 (by decide) rfl lkF_SG_40 (d_SG_make 1 1 (.getfield 40) 3 rfl) rfl ?_
  refine Ak_aload_n 5 0 (d_SG_make 2 4 (.aload_n 0) 1 rfl) rfl rfl rfl ?_
  refine Ak_getR 8 1 hO clX12 (by decide) rfl lkF_SG_21 (d_SG_make 3 5 (.getfield 21) 3 rfl) rfl ?_
  refine Ak_iload_n 9 1 (d_SG_make 4 8 (.iload_n 1) 1 rfl) rfl rfl rfl ?_
  obtain ⟨hg4, h⟩ := gd_some h
  obtain ⟨r1, V2, h3, h⟩ := bnd_some h
  refine Ak_cV1 12 5 (c_Slate_allows h3) rfl hg4 clX6 rfl mok_Slate_allows lkM_SG_289 (d_SG_make 5 9 (.invokevirtual 289) 3 rfl) rfl (by decide) (Nat.le_of_ble_eq_true rfl) ?_
  refine Ak_if_ne 22 15 (d_SG_make 6 12 (.ifCond .ne 10) 3 rfl) rfl rfl (fun hc => ?_) (fun hc => ?_)
  · replace h := it_f hc h
    refine Ak_aload_n 23 0 (d_SG_make 12 22 (.aload_n 0) 1 rfl) rfl rfl rfl ?_
    refine Ak_getF 26 6 hO clX12 (by decide) rfl lkF_SG_54 (d_SG_make 13 23 (.getfield 54) 3 rfl) rfl ?_
    refine Ak_aload_n 27 0 (d_SG_make 14 26 (.aload_n 0) 1 rfl) rfl rfl rfl ?_
    refine Ak_getF 30 4 hO clX12 (by decide) rfl lkF_SG_40 (d_SG_make 15 27 (.getfield 40) 3 rfl) rfl ?_
    refine Ak_iload_n 31 1 (d_SG_make 16 30 (.iload_n 1) 1 rfl) rfl rfl rfl ?_
    obtain ⟨hg8, h⟩ := gd_some h
    obtain ⟨r5, V6, h7, h⟩ := bnd_some h
    refine Ak_cV0 34 6 (c_History_applyTo h7) rfl hg8 clX2 rfl mok_History_applyTo lkM_SG_296 (d_SG_make 17 31 (.invokevirtual 296) 3 rfl) rfl (by decide) (Nat.le_of_ble_eq_true rfl) ?_
    refine Ak_aload_n 35 0 (d_SG_make 18 34 (.aload_n 0) 1 rfl) rfl rfl rfl ?_
    obtain ⟨r9, V10, h11, h⟩ := bnd_some h
    refine Ak_cV0 38 6 (c_SG_startAnew h11) rfl hO clX12 rfl mok_SG_startAnew lkM_SG_120 (d_SG_make 19 35 (.invokevirtual 120) 3 rfl) rfl (by decide) (Nat.le_of_ble_eq_true rfl) ?_
    refine Ak_iconst 39 (d_SG_make 20 38 (.iconst 1) 1 rfl) rfl (rk rfl) ?_
    cases h
    exact Ak_zret (Or.inr rfl) rfl (d_SG_make 21 39 (.ireturn) 1 rfl)
  · replace h := it_t hc h
    refine Ak_aload_n 16 0 (d_SG_make 7 15 (.aload_n 0) 1 rfl) rfl rfl rfl ?_
    refine Ak_iconst 17 (d_SG_make 8 16 (.iconst 3) 1 rfl) rfl (rk rfl) ?_
    obtain ⟨r12, V13, h14, h⟩ := bnd_some h
    refine Ak_cV0 20 2 (c_SG_refuse h14) rfl hO clX12 rfl mok_SG_refuse lkM_SG_126 (d_SG_make 9 17 (.invokevirtual 126) 3 rfl) rfl (by decide) (Nat.le_of_ble_eq_true rfl) ?_
    refine Ak_iconst 21 (d_SG_make 10 20 (.iconst 0) 1 rfl) rfl (rk rfl) ?_
    cases h
    exact Ak_zret (Or.inl rfl) rfl (d_SG_make 11 21 (.ireturn) 1 rfl)
theorem c_SG_undo {S : ASh} {V : ASt} {x0 : Int} {r : Int} {V' : ASt} (h : f_SG_undo S V x0 = some (r, V')) : ACt m_SG_undo 7 0 0 [(aR x0)] S V (some (aI r)) S V' := by
  unfold f_SG_undo at h
  obtain ⟨hO, h⟩ := gd_some h
  refine ACt_of (plainFor_of_name rfl) rfl (Nat.le_of_ble_eq_true rfl) ?_
  show AWk m_SG_undo 7 0 0 0 0 0 [some (aR x0)] [] S V (some (aI r)) S V'
  refine Ak_aload_n 1 0 (d_SG_undo 0 0 (.aload_n 0) 1 rfl) rfl rfl rfl ?_
  refine Ak_getF 4 6 hO clX12 (by decide) rfl lkF_SG_54 (d_SG_undo 1 1 (.getfield 54) 3 rfl) rfl ?_
  obtain ⟨hg1, h⟩ := gd_some h
  refine Ak_getI 7 0 hg1 clX2 (by decide) (Or.inl rfl) lkF_SG_148 (d_SG_undo 2 4 (.getfield 148) 3 rfl) rfl ?_
  refine Ak_if_ne 17 10 (d_SG_undo 3 7 (.ifCond .ne 10) 3 rfl) rfl rfl (fun hc => ?_) (fun hc => ?_)
  · replace h := it_f hc h
    refine Ak_aload_n 18 0 (d_SG_undo 9 17 (.aload_n 0) 1 rfl) rfl rfl rfl ?_
    refine Ak_getF 21 6 hO clX12 (by decide) rfl lkF_SG_54 (d_SG_undo 10 18 (.getfield 54) 3 rfl) rfl ?_
    refine Ak_aload_n 22 0 (d_SG_undo 11 21 (.aload_n 0) 1 rfl) rfl rfl rfl ?_
    refine Ak_getF 25 4 hO clX12 (by decide) rfl lkF_SG_40 (d_SG_undo 12 22 (.getfield 40) 3 rfl) rfl ?_
    obtain ⟨r2, V3, h4, h⟩ := bnd_some h
    refine Ak_cV0 28 6 (c_History_takeBackFrom h4) rfl hg1 clX2 rfl mok_History_takeBackFrom lkM_SG_300 (d_SG_undo 13 25 (.invokevirtual 300) 3 rfl) rfl (by decide) (Nat.le_of_ble_eq_true rfl) ?_
    refine Ak_aload_n 29 0 (d_SG_undo 14 28 (.aload_n 0) 1 rfl) rfl rfl rfl ?_
    obtain ⟨r5, V6, h7, h⟩ := bnd_some h
    refine Ak_cV0 32 6 (c_SG_startAnew h7) rfl hO clX12 rfl mok_SG_startAnew lkM_SG_120 (d_SG_undo 15 29 (.invokevirtual 120) 3 rfl) rfl (by decide) (Nat.le_of_ble_eq_true rfl) ?_
    refine Ak_iconst 33 (d_SG_undo 16 32 (.iconst 1) 1 rfl) rfl (rk rfl) ?_
    cases h
    exact Ak_zret (Or.inr rfl) rfl (d_SG_undo 17 33 (.ireturn) 1 rfl)
  · replace h := it_t hc h
    refine Ak_aload_n 11 0 (d_SG_undo 4 10 (.aload_n 0) 1 rfl) rfl rfl rfl ?_
    refine Ak_iconst 12 (d_SG_undo 5 11 (.iconst 3) 1 rfl) rfl (rk rfl) ?_
    obtain ⟨r8, V9, h10, h⟩ := bnd_some h
    refine Ak_cV0 15 2 (c_SG_refuse h10) rfl hO clX12 rfl mok_SG_refuse lkM_SG_126 (d_SG_undo 6 12 (.invokevirtual 126) 3 rfl) rfl (by decide) (Nat.le_of_ble_eq_true rfl) ?_
    refine Ak_iconst 16 (d_SG_undo 7 15 (.iconst 0) 1 rfl) rfl (rk rfl) ?_
    cases h
    exact Ak_zret (Or.inl rfl) rfl (d_SG_undo 8 16 (.ireturn) 1 rfl)
theorem t_SG_kind_J16 {S : ASh} {V : ASt} {x0 : Int} {r : Int} {V' : ASt} (hO : isO S x0 12 = true) (h : b_SG_kind_J16 S  V x0 = some (r, V')) : AWk m_SG_kind 3 0 0 0 0 16 [some (aR x0)] [] S V (some (aI r)) S V' := by
  unfold b_SG_kind_J16 at h
  refine Ak_aload_n 17 0 (d_SG_kind 8 16 (.aload_n 0) 1 rfl) rfl rfl rfl ?_
  refine Ak_iconst 18 (d_SG_kind 9 17 (.iconst 4) 1 rfl) rfl (rk rfl) ?_
  obtain ⟨r1, V2, h3, h⟩ := bnd_some h
  refine Ak_cV0 21 2 (c_SG_refuse h3) rfl hO clX12 rfl mok_SG_refuse lkM_SG_126 (d_SG_kind 10 18 (.invokevirtual 126) 3 rfl) rfl (by decide) (Nat.le_of_ble_eq_true rfl) ?_
  refine Ak_iconst 22 (d_SG_kind 11 21 (.iconst (-1)) 1 rfl) rfl (rk rfl) ?_
  cases h
  exact Ak_iret rfl (d_SG_kind 12 22 (.ireturn) 1 rfl)
theorem c_SG_kind {S : ASh} {V : ASt} {x0 x1 x2 : Int} {r : Int} {V' : ASt} (h : f_SG_kind S V x0 x1 x2 = some (r, V')) : ACt m_SG_kind 3 0 0 [(aR x0), (aI x1), (aI x2)] S V (some (aI r)) S V' := by
  unfold f_SG_kind at h
  obtain ⟨hO, h⟩ := gd_some h
  refine ACt_of (plainFor_of_name rfl) rfl (Nat.le_of_ble_eq_true rfl) ?_
  show AWk m_SG_kind 3 0 0 0 0 0 [some (aR x0), some (aI x1), some (aI x2)] [] S V (some (aI r)) S V'
  refine Ak_iload_n 1 1 (d_SG_kind 0 0 (.iload_n 1) 1 rfl) rfl rfl rfl ?_
  obtain ⟨r4, V5, h6, h⟩ := bnd_some h
  refine Ak_cS1 4 2 (c_SG_isPlayer h6) rfl mok_SG_isPlayer lkM_SG_279 (d_SG_kind 1 1 (.invokestatic 279) 3 rfl) rfl (by decide) (Nat.le_of_ble_eq_true rfl) ?_
  refine Ak_if_eq 16 7 (d_SG_kind 2 4 (.ifCond .eq 12) 3 rfl) rfl rfl (fun hc => ?_) (fun hc => ?_)
  · replace h := it_t hc h
    refine Ak_keep [true] ?_
    exact t_SG_kind_J16 hO h
  · replace h := it_f hc h
    refine Ak_iload_n 8 2 (d_SG_kind 3 7 (.iload_n 2) 1 rfl) rfl rfl rfl ?_
    refine Ak_if_lt 16 11 (d_SG_kind 4 8 (.ifCond .lt 8) 3 rfl) rfl rfl (fun hc => ?_) (fun hc => ?_)
    · replace h := it_t hc h
      refine Ak_keep [true] ?_
      exact t_SG_kind_J16 hO h
    · replace h := it_f hc h
      refine Ak_iload_n 12 2 (d_SG_kind 5 11 (.iload_n 2) 1 rfl) rfl rfl rfl ?_
      refine Ak_iconst 13 (d_SG_kind 6 12 (.iconst 2) 1 rfl) rfl (rk rfl) ?_
      refine Ak_icmp_le 23 16 (d_SG_kind 7 13 (.if_icmp .le 10) 3 rfl) rfl rfl (fun hc => ?_) (fun hc => ?_)
      · replace h := it_t hc h
        refine Ak_aload_n 24 0 (d_SG_kind 13 23 (.aload_n 0) 1 rfl) rfl rfl rfl ?_
        refine Ak_getF 27 16 hO clX12 (by decide) rfl lkF_SG_107 (d_SG_kind 14 24 (.getfield 107) 3 rfl) rfl ?_
        refine Ak_iload_n 28 1 (d_SG_kind 15 27 (.iload_n 1) 1 rfl) rfl rfl rfl ?_
        obtain ⟨ha7, h⟩ := gd_some h
        refine Ak_iaload 29 ha7 (d_SG_kind 16 28 (.iaload) 1 rfl) rfl ?_
        refine Ak_istore_n 30 3 (d_SG_kind 17 29 (.istore_n 3) 1 rfl) rfl rfl (by decide) ?_
        refine Ak_aload_n 31 0 (d_SG_kind 18 30 (.aload_n 0) 1 rfl) rfl rfl rfl ?_
        refine Ak_getF 34 16 hO clX12 (by decide) rfl lkF_SG_107 (d_SG_kind 19 31 (.getfield 107) 3 rfl) rfl ?_
        refine Ak_iload_n 35 1 (d_SG_kind 20 34 (.iload_n 1) 1 rfl) rfl rfl rfl ?_
        refine Ak_iload_n 36 2 (d_SG_kind 21 35 (.iload_n 2) 1 rfl) rfl rfl rfl ?_
        refine Ak_iastore 37 ha7 (d_SG_kind 22 36 (.iastore) 1 rfl) rfl (fun V8 hV8 => ?_)
        replace h := wV_some h V8 hV8
        refine Ak_iload_n 38 3 (d_SG_kind 23 37 (.iload_n 3) 1 rfl) rfl rfl rfl ?_
        cases h
        exact Ak_iret rfl (d_SG_kind 24 38 (.ireturn) 1 rfl)
      · replace h := it_f hc h
        refine Ak_keep [true] ?_
        exact t_SG_kind_J16 hO h
theorem t_SG_sunday_J62 {S : ASh} {V : ASt} {x0 x2 : Int} {r : Int} {V' : ASt} (hO : isO S x0 12 = true) (h : b_SG_sunday_J62 S  V x0 x2 = some (r, V')) : AWk m_SG_sunday 10 0 0 0 0 62 [some (aR x0), none, some (aI x2)] [] S V (some (aI r)) S V' := by
  unfold b_SG_sunday_J62 at h
  refine Ak_aload_n 63 0 (d_SG_sunday 33 62 (.aload_n 0) 1 rfl) rfl rfl rfl ?_
  refine Ak_dup 64 (d_SG_sunday 34 63 (.dup) 1 rfl) rfl rfl ?_
  refine Ak_getI 67 17 hO clX12 (by decide) (Or.inl rfl) lkF_SG_110 (d_SG_sunday 35 64 (.getfield 110) 3 rfl) rfl ?_
  refine Ak_iconst 68 (d_SG_sunday 36 67 (.iconst 1) 1 rfl) rfl (rk rfl) ?_
  refine Ak_iadd 69 (d_SG_sunday 37 68 (.iadd) 1 rfl) rfl ?_
  refine Ak_putI 72 17 hO clX12 (by decide) rfl rfl rfl lkF_SG_110 (d_SG_sunday 38 69 (.putfield 110) 3 rfl) rfl (fun V1 hV1 => ?_)
  replace h := wV_some h V1 hV1
  refine Ak_aload_n 73 0 (d_SG_sunday 39 72 (.aload_n 0) 1 rfl) rfl rfl rfl ?_
  obtain ⟨r2, V3, h4, h⟩ := bnd_some h
  refine Ak_cV0 76 6 (c_SG_startAnew h4) rfl hO clX12 rfl mok_SG_startAnew lkM_SG_120 (d_SG_sunday 40 73 (.invokevirtual 120) 3 rfl) rfl (by decide) (Nat.le_of_ble_eq_true rfl) ?_
  refine Ak_iload_n 77 2 (d_SG_sunday 41 76 (.iload_n 2) 1 rfl) rfl rfl rfl ?_
  cases h
  exact Ak_iret rfl (d_SG_sunday 42 77 (.ireturn) 1 rfl)
theorem c_SG_sunday {S : ASh} {V : ASt} {x0 : Int} {r : Int} {V' : ASt} (h : f_SG_sunday S V x0 = some (r, V')) : ACt m_SG_sunday 10 0 0 [(aR x0)] S V (some (aI r)) S V' := by
  unfold f_SG_sunday at h
  obtain ⟨hO, h⟩ := gd_some h
  refine ACt_of (plainFor_of_name rfl) rfl (Nat.le_of_ble_eq_true rfl) ?_
  show AWk m_SG_sunday 10 0 0 0 0 0 [some (aR x0)] [] S V (some (aI r)) S V'
  refine Ak_aload_n 1 0 (d_SG_sunday 0 0 (.aload_n 0) 1 rfl) rfl rfl rfl ?_
  refine Ak_getR 4 1 hO clX12 (by decide) rfl lkF_SG_21 (d_SG_sunday 1 1 (.getfield 21) 3 rfl) rfl ?_
  obtain ⟨hg5, h⟩ := gd_some h
  refine Ak_getI 7 0 hg5 clX1 (by decide) (Or.inl rfl) lkF_SG_164 (d_SG_sunday 2 4 (.getfield 164) 3 rfl) rfl ?_
  refine Ak_if_ne 13 10 (d_SG_sunday 3 7 (.ifCond .ne 6) 3 rfl) rfl rfl (fun hc => ?_) (fun hc => ?_)
  · replace h := it_f hc h
    refine Ak_aload_n 14 0 (d_SG_sunday 6 13 (.aload_n 0) 1 rfl) rfl rfl rfl ?_
    refine Ak_aload_n 15 0 (d_SG_sunday 7 14 (.aload_n 0) 1 rfl) rfl rfl rfl ?_
    refine Ak_getF 18 4 hO clX12 (by decide) rfl lkF_SG_40 (d_SG_sunday 8 15 (.getfield 40) 3 rfl) rfl ?_
    obtain ⟨r6, V7, h8, h⟩ := bnd_some h
    refine Ak_cV1 21 4 (c_SG_worthsOf h8) rfl hO clX12 rfl mok_SG_worthsOf lkM_SG_260 (d_SG_sunday 9 18 (.invokevirtual 260) 3 rfl) rfl (by decide) (Nat.le_of_ble_eq_true rfl) ?_
    obtain ⟨hn9, h⟩ := gd_some h
    refine Ak_astore_n 22 1 (dec_t hn9) (d_SG_sunday 10 21 (.astore_n 1) 1 rfl) rfl rfl (by decide) ?_
    refine Ak_aload_n 23 1 (d_SG_sunday 11 22 (.aload_n 1) 1 rfl) rfl rfl rfl ?_
    refine Ak_aload_n 24 1 (d_SG_sunday 12 23 (.aload_n 1) 1 rfl) rfl rfl rfl ?_
    refine Ak_aload_n 25 0 (d_SG_sunday 13 24 (.aload_n 0) 1 rfl) rfl rfl rfl ?_
    obtain ⟨r10, V11, h12, h⟩ := bnd_some h
    refine Ak_cV1 28 2 (c_SG_starterNow h12) rfl hO clX12 rfl mok_SG_starterNow lkM_SG_264 (d_SG_sunday 14 25 (.invokevirtual 264) 3 rfl) rfl (by decide) (Nat.le_of_ble_eq_true rfl) ?_
    obtain ⟨hg16, h⟩ := gd_some h
    obtain ⟨r13, V14, h15, h⟩ := bnd_some h
    refine Ak_cV1 31 9 (c_Worths_loserOf h15) rfl hg16 clX11 rfl mok_Worths_loserOf lkM_SG_304 (d_SG_sunday 15 28 (.invokevirtual 304) 3 rfl) rfl (by decide) (Nat.le_of_ble_eq_true rfl) ?_
    refine Ak_aload_n 32 0 (d_SG_sunday 16 31 (.aload_n 0) 1 rfl) rfl rfl rfl ?_
    refine Ak_getF 35 16 hO clX12 (by decide) rfl lkF_SG_107 (d_SG_sunday 17 32 (.getfield 107) 3 rfl) rfl ?_
    refine Ak_iconst 36 (d_SG_sunday 18 35 (.iconst 1) 1 rfl) rfl (rk rfl) ?_
    refine Ak_aload_n 37 0 (d_SG_sunday 19 36 (.aload_n 0) 1 rfl) rfl rfl rfl ?_
    obtain ⟨r17, V18, h19, h⟩ := bnd_some h
    refine Ak_cV1 40 2 (c_SG_starterNow h19) rfl hO clX12 rfl mok_SG_starterNow lkM_SG_264 (d_SG_sunday 20 37 (.invokevirtual 264) 3 rfl) rfl (by decide) (Nat.le_of_ble_eq_true rfl) ?_
    refine Ak_isub 41 (d_SG_sunday 21 40 (.isub) 1 rfl) rfl ?_
    obtain ⟨r20, V21, h22, h⟩ := bnd_some h
    refine Ak_cV1 44 9 (c_Worths_choiceOf h22) rfl hg16 clX11 rfl mok_Worths_choiceOf lkM_SG_307 (d_SG_sunday 22 41 (.invokevirtual 307) 3 rfl) rfl (by decide) (Nat.le_of_ble_eq_true rfl) ?_
    refine Ak_istore_n 45 2 (d_SG_sunday 23 44 (.istore_n 2) 1 rfl) rfl rfl (by decide) ?_
    refine Ak_iload_n 46 2 (d_SG_sunday 24 45 (.iload_n 2) 1 rfl) rfl rfl rfl ?_
    refine Ak_iconst 47 (d_SG_sunday 25 46 (.iconst (-1)) 1 rfl) rfl (rk rfl) ?_
    refine Ak_icmp_eq 62 50 (d_SG_sunday 26 47 (.if_icmp .eq 15) 3 rfl) rfl rfl (fun hc => ?_) (fun hc => ?_)
    · replace h := it_t hc h
      refine Ak_keep [true, false, true] ?_
      exact t_SG_sunday_J62 hO h
    · replace h := it_f hc h
      refine Ak_aload_n 51 0 (d_SG_sunday 27 50 (.aload_n 0) 1 rfl) rfl rfl rfl ?_
      refine Ak_getF 54 6 hO clX12 (by decide) rfl lkF_SG_54 (d_SG_sunday 28 51 (.getfield 54) 3 rfl) rfl ?_
      refine Ak_aload_n 55 0 (d_SG_sunday 29 54 (.aload_n 0) 1 rfl) rfl rfl rfl ?_
      refine Ak_getF 58 4 hO clX12 (by decide) rfl lkF_SG_40 (d_SG_sunday 30 55 (.getfield 40) 3 rfl) rfl ?_
      refine Ak_iload_n 59 2 (d_SG_sunday 31 58 (.iload_n 2) 1 rfl) rfl rfl rfl ?_
      obtain ⟨hg26, h⟩ := gd_some h
      obtain ⟨r23, V24, h25, h⟩ := bnd_some h
      refine Ak_cV0 62 6 (c_History_applyTo h25) rfl hg26 clX2 rfl mok_History_applyTo lkM_SG_296 (d_SG_sunday 32 59 (.invokevirtual 296) 3 rfl) rfl (by decide) (Nat.le_of_ble_eq_true rfl) ?_
      refine Ak_keep [true, false, true] ?_
      exact t_SG_sunday_J62 hO h
  · replace h := it_t hc h
    refine Ak_bipush 12 (d_SG_sunday 4 10 (.bipush (-2)) 2 rfl) rfl (bp_ok rfl) (rk rfl) ?_
    cases h
    exact Ak_iret rfl (d_SG_sunday 5 12 (.ireturn) 1 rfl)
theorem c_SG_would {S : ASh} {V : ASt} {x0 x1 : Int} {r : Int} {V' : ASt} (h : f_SG_would S V x0 x1 = some (r, V')) : ACt m_SG_would 10 0 0 [(aR x0), (aI x1)] S V (some (aI r)) S V' := by
  unfold f_SG_would at h
  obtain ⟨hO, h⟩ := gd_some h
  refine ACt_of (plainFor_of_name rfl) rfl (Nat.le_of_ble_eq_true rfl) ?_
  show AWk m_SG_would 10 0 0 0 0 0 [some (aR x0), some (aI x1)] [] S V (some (aI r)) S V'
  refine Ak_aload_n 1 0 (d_SG_would 0 0 (.aload_n 0) 1 rfl) rfl rfl rfl ?_
  refine Ak_getR 4 1 hO clX12 (by decide) rfl lkF_SG_21 (d_SG_would 1 1 (.getfield 21) 3 rfl) rfl ?_
  obtain ⟨hg1, h⟩ := gd_some h
  refine Ak_getI 7 0 hg1 clX1 (by decide) (Or.inl rfl) lkF_SG_164 (d_SG_would 2 4 (.getfield 164) 3 rfl) rfl ?_
  refine Ak_if_eq 17 10 (d_SG_would 3 7 (.ifCond .eq 10) 3 rfl) rfl rfl (fun hc => ?_) (fun hc => ?_)
  · replace h := it_t hc h
    refine Ak_bipush 19 (d_SG_would 7 17 (.bipush (-2)) 2 rfl) rfl (bp_ok rfl) (rk rfl) ?_
    cases h
    exact Ak_iret rfl (d_SG_would 8 19 (.ireturn) 1 rfl)
  · replace h := it_f hc h
    refine Ak_iload_n 11 1 (d_SG_would 4 10 (.iload_n 1) 1 rfl) rfl rfl rfl ?_
    obtain ⟨r2, V3, h4, h⟩ := bnd_some h
    refine Ak_cS1 14 2 (c_SG_isPlayer h4) rfl mok_SG_isPlayer lkM_SG_279 (d_SG_would 5 11 (.invokestatic 279) 3 rfl) rfl (by decide) (Nat.le_of_ble_eq_true rfl) ?_
    refine Ak_if_ne 20 17 (d_SG_would 6 14 (.ifCond .ne 6) 3 rfl) rfl rfl (fun hc => ?_) (fun hc => ?_)
    · replace h := it_f hc h
      refine Ak_aload_n 21 0 (d_SG_would 9 20 (.aload_n 0) 1 rfl) rfl rfl rfl ?_
      refine Ak_aload_n 22 0 (d_SG_would 10 21 (.aload_n 0) 1 rfl) rfl rfl rfl ?_
      refine Ak_getF 25 4 hO clX12 (by decide) rfl lkF_SG_40 (d_SG_would 11 22 (.getfield 40) 3 rfl) rfl ?_
      obtain ⟨r5, V6, h7, h⟩ := bnd_some h
      refine Ak_cV1 28 4 (c_SG_worthsOf h7) rfl hO clX12 rfl mok_SG_worthsOf lkM_SG_260 (d_SG_would 12 25 (.invokevirtual 260) 3 rfl) rfl (by decide) (Nat.le_of_ble_eq_true rfl) ?_
      refine Ak_iload_n 29 1 (d_SG_would 13 28 (.iload_n 1) 1 rfl) rfl rfl rfl ?_
      refine Ak_aload_n 30 0 (d_SG_would 14 29 (.aload_n 0) 1 rfl) rfl rfl rfl ?_
      refine Ak_getF 33 16 hO clX12 (by decide) rfl lkF_SG_107 (d_SG_would 15 30 (.getfield 107) 3 rfl) rfl ?_
      refine Ak_iconst 34 (d_SG_would 16 33 (.iconst 1) 1 rfl) rfl (rk rfl) ?_
      refine Ak_aload_n 35 0 (d_SG_would 17 34 (.aload_n 0) 1 rfl) rfl rfl rfl ?_
      obtain ⟨r8, V9, h10, h⟩ := bnd_some h
      refine Ak_cV1 38 2 (c_SG_starterNow h10) rfl hO clX12 rfl mok_SG_starterNow lkM_SG_264 (d_SG_would 18 35 (.invokevirtual 264) 3 rfl) rfl (by decide) (Nat.le_of_ble_eq_true rfl) ?_
      refine Ak_isub 39 (d_SG_would 19 38 (.isub) 1 rfl) rfl ?_
      obtain ⟨hg14, h⟩ := gd_some h
      obtain ⟨r11, V12, h13, h⟩ := bnd_some h
      refine Ak_cV1 42 9 (c_Worths_choiceOf h13) rfl hg14 clX11 rfl mok_Worths_choiceOf lkM_SG_307 (d_SG_would 20 39 (.invokevirtual 307) 3 rfl) rfl (by decide) (Nat.le_of_ble_eq_true rfl) ?_
      cases h
      exact Ak_iret rfl (d_SG_would 21 42 (.ireturn) 1 rfl)
    · replace h := it_t hc h
      refine Ak_bipush 19 (d_SG_would 7 17 (.bipush (-2)) 2 rfl) rfl (bp_ok rfl) (rk rfl) ?_
      cases h
      exact Ak_iret rfl (d_SG_would 8 19 (.ireturn) 1 rfl)
theorem c_SG_pays {S : ASh} {V : ASt} {x0 x1 : Int} {r : Int} {V' : ASt} (h : f_SG_pays S V x0 x1 = some (r, V')) : ACt m_SG_pays 10 0 0 [(aR x0), (aI x1)] S V (some (aI r)) S V' := by
  unfold f_SG_pays at h
  obtain ⟨hO, h⟩ := gd_some h
  refine ACt_of (plainFor_of_name rfl) rfl (Nat.le_of_ble_eq_true rfl) ?_
  show AWk m_SG_pays 10 0 0 0 0 0 [some (aR x0), some (aI x1)] [] S V (some (aI r)) S V'
  refine Ak_aload_n 1 0 (d_SG_pays 0 0 (.aload_n 0) 1 rfl) rfl rfl rfl ?_
  refine Ak_getR 4 1 hO clX12 (by decide) rfl lkF_SG_21 (d_SG_pays 1 1 (.getfield 21) 3 rfl) rfl ?_
  obtain ⟨hg1, h⟩ := gd_some h
  refine Ak_getI 7 0 hg1 clX1 (by decide) (Or.inl rfl) lkF_SG_164 (d_SG_pays 2 4 (.getfield 164) 3 rfl) rfl ?_
  refine Ak_if_eq 20 10 (d_SG_pays 3 7 (.ifCond .eq 13) 3 rfl) rfl rfl (fun hc => ?_) (fun hc => ?_)
  · replace h := it_t hc h
    refine Ak_iconst 21 (d_SG_pays 9 20 (.iconst (-1)) 1 rfl) rfl (rk rfl) ?_
    cases h
    exact Ak_iret rfl (d_SG_pays 10 21 (.ireturn) 1 rfl)
  · replace h := it_f hc h
    refine Ak_iload_n 11 1 (d_SG_pays 4 10 (.iload_n 1) 1 rfl) rfl rfl rfl ?_
    refine Ak_if_lt 20 14 (d_SG_pays 5 11 (.ifCond .lt 9) 3 rfl) rfl rfl (fun hc => ?_) (fun hc => ?_)
    · replace h := it_t hc h
      refine Ak_iconst 21 (d_SG_pays 9 20 (.iconst (-1)) 1 rfl) rfl (rk rfl) ?_
      cases h
      exact Ak_iret rfl (d_SG_pays 10 21 (.ireturn) 1 rfl)
    · replace h := it_f hc h
      refine Ak_iload_n 15 1 (d_SG_pays 6 14 (.iload_n 1) 1 rfl) rfl rfl rfl ?_
      refine Ak_bipush 17 (d_SG_pays 7 15 (.bipush 100) 2 rfl) rfl (bp_ok rfl) (rk rfl) ?_
      refine Ak_icmp_le 22 20 (d_SG_pays 8 17 (.if_icmp .le 5) 3 rfl) rfl rfl (fun hc => ?_) (fun hc => ?_)
      · replace h := it_t hc h
        refine Ak_aload_n 23 0 (d_SG_pays 11 22 (.aload_n 0) 1 rfl) rfl rfl rfl ?_
        obtain ⟨r2, V3, h4, h⟩ := bnd_some h
        refine Ak_cV1 26 2 (c_SG_starterNow h4) rfl hO clX12 rfl mok_SG_starterNow lkM_SG_264 (d_SG_pays 12 23 (.invokevirtual 264) 3 rfl) rfl (by decide) (Nat.le_of_ble_eq_true rfl) ?_
        refine Ak_istore_n 27 2 (d_SG_pays 13 26 (.istore_n 2) 1 rfl) rfl rfl (by decide) ?_
        refine Ak_iconst 28 (d_SG_pays 14 27 (.iconst 1) 1 rfl) rfl (rk rfl) ?_
        refine Ak_iload_n 29 2 (d_SG_pays 15 28 (.iload_n 2) 1 rfl) rfl rfl rfl ?_
        refine Ak_isub 30 (d_SG_pays 16 29 (.isub) 1 rfl) rfl ?_
        refine Ak_istore_n 31 3 (d_SG_pays 17 30 (.istore_n 3) 1 rfl) rfl rfl (by decide) ?_
        refine Ak_aload_n 32 0 (d_SG_pays 18 31 (.aload_n 0) 1 rfl) rfl rfl rfl ?_
        refine Ak_aload_n 33 0 (d_SG_pays 19 32 (.aload_n 0) 1 rfl) rfl rfl rfl ?_
        refine Ak_getF 36 4 hO clX12 (by decide) rfl lkF_SG_40 (d_SG_pays 20 33 (.getfield 40) 3 rfl) rfl ?_
        obtain ⟨r5, V6, h7, h⟩ := bnd_some h
        refine Ak_cV1 39 4 (c_SG_worthsOf h7) rfl hO clX12 rfl mok_SG_worthsOf lkM_SG_260 (d_SG_pays 21 36 (.invokevirtual 260) 3 rfl) rfl (by decide) (Nat.le_of_ble_eq_true rfl) ?_
        obtain ⟨hn8, h⟩ := gd_some h
        refine Ak_astore 41 (dec_t hn8) (d_SG_pays 22 39 (.astore 4) 2 rfl) rfl (by decide) ?_
        refine Ak_aload 43 (d_SG_pays 23 41 (.aload 4) 2 rfl) rfl rfl ?_
        refine Ak_iload_n 44 3 (d_SG_pays 24 43 (.iload_n 3) 1 rfl) rfl rfl rfl ?_
        refine Ak_aload_n 45 0 (d_SG_pays 25 44 (.aload_n 0) 1 rfl) rfl rfl rfl ?_
        refine Ak_getF 48 16 hO clX12 (by decide) rfl lkF_SG_107 (d_SG_pays 26 45 (.getfield 107) 3 rfl) rfl ?_
        refine Ak_iload_n 49 3 (d_SG_pays 27 48 (.iload_n 3) 1 rfl) rfl rfl rfl ?_
        obtain ⟨hg12, h⟩ := gd_some h
        obtain ⟨r9, V10, h11, h⟩ := bnd_some h
        refine Ak_cV1 52 9 (c_Worths_choiceOf h11) rfl hg12 clX11 rfl mok_Worths_choiceOf lkM_SG_307 (d_SG_pays 28 49 (.invokevirtual 307) 3 rfl) rfl (by decide) (Nat.le_of_ble_eq_true rfl) ?_
        refine Ak_istore 54 (d_SG_pays 29 52 (.istore 5) 2 rfl) rfl (by decide) ?_
        refine Ak_aload 56 (d_SG_pays 30 54 (.aload 4) 2 rfl) rfl rfl ?_
        refine Ak_iload_n 57 2 (d_SG_pays 31 56 (.iload_n 2) 1 rfl) rfl rfl rfl ?_
        refine Ak_aload_n 58 0 (d_SG_pays 32 57 (.aload_n 0) 1 rfl) rfl rfl rfl ?_
        refine Ak_getF 61 16 hO clX12 (by decide) rfl lkF_SG_107 (d_SG_pays 33 58 (.getfield 107) 3 rfl) rfl ?_
        refine Ak_iload_n 62 3 (d_SG_pays 34 61 (.iload_n 3) 1 rfl) rfl rfl rfl ?_
        obtain ⟨r13, V14, h15, h⟩ := bnd_some h
        refine Ak_cV1 65 9 (c_Worths_choiceOf h15) rfl hg12 clX11 rfl mok_Worths_choiceOf lkM_SG_307 (d_SG_pays 35 62 (.invokevirtual 307) 3 rfl) rfl (by decide) (Nat.le_of_ble_eq_true rfl) ?_
        refine Ak_istore 67 (d_SG_pays 36 65 (.istore 6) 2 rfl) rfl (by decide) ?_
        refine Ak_aload 69 (d_SG_pays 37 67 (.aload 4) 2 rfl) rfl rfl ?_
        refine Ak_iload 71 (d_SG_pays 38 69 (.iload 5) 2 rfl) rfl rfl ?_
        refine Ak_iload_n 72 3 (d_SG_pays 39 71 (.iload_n 3) 1 rfl) rfl rfl rfl ?_
        obtain ⟨r16, V17, h18, h⟩ := bnd_some h
        refine Ak_cV1 75 9 (c_Worths_worthBy h18) rfl hg12 clX11 rfl mok_Worths_worthBy lkM_SG_267 (d_SG_pays 40 72 (.invokevirtual 267) 3 rfl) rfl (by decide) (Nat.le_of_ble_eq_true rfl) ?_
        refine Ak_ineg 76 (d_SG_pays 41 75 (.ineg) 1 rfl) rfl ?_
        refine Ak_istore 78 (d_SG_pays 42 76 (.istore 7) 2 rfl) rfl (by decide) ?_
        refine Ak_aload 80 (d_SG_pays 43 78 (.aload 4) 2 rfl) rfl rfl ?_
        refine Ak_iload 82 (d_SG_pays 44 80 (.iload 6) 2 rfl) rfl rfl ?_
        refine Ak_iload_n 83 3 (d_SG_pays 45 82 (.iload_n 3) 1 rfl) rfl rfl rfl ?_
        obtain ⟨r19, V20, h21, h⟩ := bnd_some h
        refine Ak_cV1 86 9 (c_Worths_worthBy h21) rfl hg12 clX11 rfl mok_Worths_worthBy lkM_SG_267 (d_SG_pays 46 83 (.invokevirtual 267) 3 rfl) rfl (by decide) (Nat.le_of_ble_eq_true rfl) ?_
        refine Ak_ineg 87 (d_SG_pays 47 86 (.ineg) 1 rfl) rfl ?_
        refine Ak_istore 89 (d_SG_pays 48 87 (.istore 8) 2 rfl) rfl (by decide) ?_
        refine Ak_iload_n 90 1 (d_SG_pays 49 89 (.iload_n 1) 1 rfl) rfl rfl rfl ?_
        refine Ak_iload 92 (d_SG_pays 50 90 (.iload 7) 2 rfl) rfl rfl ?_
        refine Ak_iadd 93 (d_SG_pays 51 92 (.iadd) 1 rfl) rfl ?_
        refine Ak_iload 95 (d_SG_pays 52 93 (.iload 8) 2 rfl) rfl rfl ?_
        refine Ak_iload_n 96 1 (d_SG_pays 53 95 (.iload_n 1) 1 rfl) rfl rfl rfl ?_
        refine Ak_isub 97 (d_SG_pays 54 96 (.isub) 1 rfl) rfl ?_
        refine Ak_icmp_ge 104 100 (d_SG_pays 55 97 (.if_icmp .ge 7) 3 rfl) rfl rfl (fun hc => ?_) (fun hc => ?_)
        · replace h := it_t hc h
          refine Ak_iconst 105 (d_SG_pays 58 104 (.iconst 0) 1 rfl) rfl (rk rfl) ?_
          cases h
          exact Ak_iret rfl (d_SG_pays 59 105 (.ireturn) 1 rfl)
        · replace h := it_f hc h
          refine Ak_iconst 101 (d_SG_pays 56 100 (.iconst 1) 1 rfl) rfl (rk rfl) ?_
          refine Ak_goto 105 (d_SG_pays 57 101 (.goto 4) 3 rfl) rfl ?_
          cases h
          exact Ak_iret rfl (d_SG_pays 59 105 (.ireturn) 1 rfl)
      · replace h := it_f hc h
        refine Ak_iconst 21 (d_SG_pays 9 20 (.iconst (-1)) 1 rfl) rfl (rk rfl) ?_
        cases h
        exact Ak_iret rfl (d_SG_pays 10 21 (.ireturn) 1 rfl)
theorem t_SG_ring_L139 {S : ASh} {K47 : ASt → Int → Option (Int × ASt)} {x0 x1 x2 x3 : Int} (hO : isO S x0 12 = true) (hK47 : ∀ {V : ASt} {y3 : Int} {r : Int} {V' : ASt}, K47 V y3 = some (r, V') → AWk m_SG_ring 10 0 0 0 0 47 [some (aR x0), some (aI x1), some (aI x2), some (aI y3)] [] S V (some (aI r)) S V') : ∀ (n : Nat) (V : ASt) (x7 : Int) (r : Int) (V' : ASt), b_SG_ring_L139 S K47 x0 x1 x2 x3 n V x7 = some (r, V') → AWk m_SG_ring 10 0 0 0 0 139 [some (aR x0), some (aI x1), some (aI x2), some (aI x3), none, none, none, some (aI x7)] [] S V (some (aI r)) S V' := by
  intro n
  induction n with
  | zero => intro V x7 r V' h; cases h
  | succ n ih =>
    intro V x7 r V' h
    replace ih : ∀ {V : ASt} {x7 : Int} {r : Int} {V' : ASt}, b_SG_ring_L139 S K47 x0 x1 x2 x3 n V x7 = some (r, V') → AWk m_SG_ring 10 0 0 0 0 139 [some (aR x0), some (aI x1), some (aI x2), some (aI x3), none, none, none, some (aI x7)] [] S V (some (aI r)) S V' := fun h => ih _ _ _ _ h
    rw [b_SG_ring_L139] at h
    refine Ak_iload 141 (d_SG_ring 82 139 (.iload 7) 2 rfl) rfl rfl ?_
    refine Ak_if_lt 183 144 (d_SG_ring 83 141 (.ifCond .lt 42) 3 rfl) rfl rfl (fun hc => ?_) (fun hc => ?_)
    · replace h := it_t hc h
      refine Ak_iinc 186 (d_SG_ring 104 183 (.iinc 3 1) 3 rfl) rfl rfl (by decide) ?_
      refine Ak_goto 47 (d_SG_ring 105 186 (.goto (-139)) 3 rfl) rfl ?_
      refine Ak_keep [true, true, true, true] ?_
      exact hK47 h
    · replace h := it_f hc h
      refine Ak_aload_n 145 0 (d_SG_ring 84 144 (.aload_n 0) 1 rfl) rfl rfl rfl ?_
      refine Ak_getF 148 12 hO clX12 (by decide) rfl lkF_SG_89 (d_SG_ring 85 145 (.getfield 89) 3 rfl) rfl ?_
      refine Ak_iload 150 (d_SG_ring 86 148 (.iload 7) 2 rfl) rfl rfl ?_
      obtain ⟨ha1, h⟩ := gd_some h
      refine Ak_aaload 151 ha1 (d_SG_ring 87 150 (.aaload) 1 rfl) rfl ?_
      refine Ak_aload_n 152 0 (d_SG_ring 88 151 (.aload_n 0) 1 rfl) rfl rfl rfl ?_
      refine Ak_getF 155 12 hO clX12 (by decide) rfl lkF_SG_89 (d_SG_ring 89 152 (.getfield 89) 3 rfl) rfl ?_
      refine Ak_iload_n 156 3 (d_SG_ring 90 155 (.iload_n 3) 1 rfl) rfl rfl rfl ?_
      obtain ⟨ha2, h⟩ := gd_some h
      refine Ak_aaload 157 ha2 (d_SG_ring 91 156 (.aaload) 1 rfl) rfl ?_
      obtain ⟨hg6, h⟩ := gd_some h
      obtain ⟨r3, V4, h5, h⟩ := bnd_some h
      refine Ak_cV1 160 2 (c_Slate_isLike h5) rfl hg6 clX6 rfl mok_Slate_isLike lkM_SG_317 (d_SG_ring 92 157 (.invokevirtual 317) 3 rfl) rfl (by decide) (Nat.le_of_ble_eq_true rfl) ?_
      refine Ak_if_eq 177 163 (d_SG_ring 93 160 (.ifCond .eq 17) 3 rfl) rfl rfl (fun hc => ?_) (fun hc => ?_)
      · replace h := it_t hc h
        refine Ak_iinc 180 (d_SG_ring 102 177 (.iinc 7 (-2)) 3 rfl) rfl rfl (by decide) ?_
        refine Ak_goto 139 (d_SG_ring 103 180 (.goto (-41)) 3 rfl) rfl ?_
        refine Ak_keep [true, true, true, true, false, false, false, true] ?_
        exact ih h
      · replace h := it_f hc h
        refine Ak_iload_n 164 2 (d_SG_ring 94 163 (.iload_n 2) 1 rfl) rfl rfl rfl ?_
        refine Ak_if_ne 174 167 (d_SG_ring 95 164 (.ifCond .ne 10) 3 rfl) rfl rfl (fun hc => ?_) (fun hc => ?_)
        · replace h := it_f hc h
          refine Ak_iload 176 (d_SG_ring 100 174 (.iload 7) 2 rfl) rfl rfl ?_
          cases h
          exact Ak_iret rfl (d_SG_ring 101 176 (.ireturn) 1 rfl)
        · replace h := it_t hc h
          refine Ak_iload_n 168 3 (d_SG_ring 96 167 (.iload_n 3) 1 rfl) rfl rfl rfl ?_
          refine Ak_iload 170 (d_SG_ring 97 168 (.iload 7) 2 rfl) rfl rfl ?_
          refine Ak_isub 171 (d_SG_ring 98 170 (.isub) 1 rfl) rfl ?_
          refine Ak_goto 176 (d_SG_ring 99 171 (.goto 5) 3 rfl) rfl ?_
          cases h
          exact Ak_iret rfl (d_SG_ring 101 176 (.ireturn) 1 rfl)
theorem t_SG_ring_L47 {S : ASh} {x0 x1 x2 : Int} (hO : isO S x0 12 = true) : ∀ (n : Nat) (V : ASt) (x3 : Int) (r : Int) (V' : ASt), b_SG_ring_L47 S x0 x1 x2 n V x3 = some (r, V') → AWk m_SG_ring 10 0 0 0 0 47 [some (aR x0), some (aI x1), some (aI x2), some (aI x3)] [] S V (some (aI r)) S V' := by
  intro n
  induction n with
  | zero => intro V x3 r V' h; cases h
  | succ n ih =>
    intro V x3 r V' h
    replace ih : ∀ {V : ASt} {x3 : Int} {r : Int} {V' : ASt}, b_SG_ring_L47 S x0 x1 x2 n V x3 = some (r, V') → AWk m_SG_ring 10 0 0 0 0 47 [some (aR x0), some (aI x1), some (aI x2), some (aI x3)] [] S V (some (aI r)) S V' := fun h => ih _ _ _ _ h
    rw [b_SG_ring_L47] at h
    refine Ak_iload_n 48 3 (d_SG_ring 26 47 (.iload_n 3) 1 rfl) rfl rfl rfl ?_
    refine Ak_iload_n 49 1 (d_SG_ring 27 48 (.iload_n 1) 1 rfl) rfl rfl rfl ?_
    refine Ak_icmp_gt 189 52 (d_SG_ring 28 49 (.if_icmp .gt 140) 3 rfl) rfl rfl (fun hc => ?_) (fun hc => ?_)
    · replace h := it_t hc h
      refine Ak_iconst 190 (d_SG_ring 106 189 (.iconst (-1)) 1 rfl) rfl (rk rfl) ?_
      cases h
      exact Ak_iret rfl (d_SG_ring 107 190 (.ireturn) 1 rfl)
    · replace h := it_f hc h
      refine Ak_aload_n 53 0 (d_SG_ring 29 52 (.aload_n 0) 1 rfl) rfl rfl rfl ?_
      refine Ak_getI 56 17 hO clX12 (by decide) (Or.inl rfl) lkF_SG_110 (d_SG_ring 30 53 (.getfield 110) 3 rfl) rfl ?_
      refine Ak_iload_n 57 3 (d_SG_ring 31 56 (.iload_n 3) 1 rfl) rfl rfl rfl ?_
      refine Ak_iadd 58 (d_SG_ring 32 57 (.iadd) 1 rfl) rfl ?_
      refine Ak_iconst 59 (d_SG_ring 33 58 (.iconst 1) 1 rfl) rfl (rk rfl) ?_
      refine Ak_isub 60 (d_SG_ring 34 59 (.isub) 1 rfl) rfl ?_
      refine Ak_iconst 61 (d_SG_ring 35 60 (.iconst 1) 1 rfl) rfl (rk rfl) ?_
      refine Ak_iand 62 (d_SG_ring 36 61 (.iand) 1 rfl) rfl ?_
      refine Ak_istore 64 (d_SG_ring 37 62 (.istore 4) 2 rfl) rfl (by decide) ?_
      refine Ak_aload_n 65 0 (d_SG_ring 38 64 (.aload_n 0) 1 rfl) rfl rfl rfl ?_
      refine Ak_aload_n 66 0 (d_SG_ring 39 65 (.aload_n 0) 1 rfl) rfl rfl rfl ?_
      refine Ak_getF 69 12 hO clX12 (by decide) rfl lkF_SG_89 (d_SG_ring 40 66 (.getfield 89) 3 rfl) rfl ?_
      refine Ak_iload_n 70 3 (d_SG_ring 41 69 (.iload_n 3) 1 rfl) rfl rfl rfl ?_
      refine Ak_iconst 71 (d_SG_ring 42 70 (.iconst 1) 1 rfl) rfl (rk rfl) ?_
      refine Ak_isub 72 (d_SG_ring 43 71 (.isub) 1 rfl) rfl ?_
      obtain ⟨ha7, h⟩ := gd_some h
      refine Ak_aaload 73 ha7 (d_SG_ring 44 72 (.aaload) 1 rfl) rfl ?_
      obtain ⟨r8, V9, h10, h⟩ := bnd_some h
      refine Ak_cV1 76 4 (c_SG_worthsOf h10) rfl hO clX12 rfl mok_SG_worthsOf lkM_SG_260 (d_SG_ring 45 73 (.invokevirtual 260) 3 rfl) rfl (by decide) (Nat.le_of_ble_eq_true rfl) ?_
      obtain ⟨hn11, h⟩ := gd_some h
      refine Ak_astore 78 (dec_t hn11) (d_SG_ring 46 76 (.astore 5) 2 rfl) rfl (by decide) ?_
      refine Ak_aload 80 (d_SG_ring 47 78 (.aload 5) 2 rfl) rfl rfl ?_
      refine Ak_aload 82 (d_SG_ring 48 80 (.aload 5) 2 rfl) rfl rfl ?_
      refine Ak_iload 84 (d_SG_ring 49 82 (.iload 4) 2 rfl) rfl rfl ?_
      obtain ⟨hg15, h⟩ := gd_some h
      obtain ⟨r12, V13, h14, h⟩ := bnd_some h
      refine Ak_cV1 87 9 (c_Worths_loserOf h14) rfl hg15 clX11 rfl mok_Worths_loserOf lkM_SG_304 (d_SG_ring 50 84 (.invokevirtual 304) 3 rfl) rfl (by decide) (Nat.le_of_ble_eq_true rfl) ?_
      refine Ak_aload_n 88 0 (d_SG_ring 51 87 (.aload_n 0) 1 rfl) rfl rfl rfl ?_
      refine Ak_getF 91 16 hO clX12 (by decide) rfl lkF_SG_107 (d_SG_ring 52 88 (.getfield 107) 3 rfl) rfl ?_
      refine Ak_iconst 92 (d_SG_ring 53 91 (.iconst 1) 1 rfl) rfl (rk rfl) ?_
      refine Ak_iload 94 (d_SG_ring 54 92 (.iload 4) 2 rfl) rfl rfl ?_
      refine Ak_isub 95 (d_SG_ring 55 94 (.isub) 1 rfl) rfl ?_
      obtain ⟨r16, V17, h18, h⟩ := bnd_some h
      refine Ak_cV1 98 9 (c_Worths_choiceOf h18) rfl hg15 clX11 rfl mok_Worths_choiceOf lkM_SG_307 (d_SG_ring 56 95 (.invokevirtual 307) 3 rfl) rfl (by decide) (Nat.le_of_ble_eq_true rfl) ?_
      refine Ak_istore 100 (d_SG_ring 57 98 (.istore 6) 2 rfl) rfl (by decide) ?_
      refine Ak_aload_n 101 0 (d_SG_ring 58 100 (.aload_n 0) 1 rfl) rfl rfl rfl ?_
      refine Ak_getF 104 12 hO clX12 (by decide) rfl lkF_SG_89 (d_SG_ring 59 101 (.getfield 89) 3 rfl) rfl ?_
      refine Ak_iload_n 105 3 (d_SG_ring 60 104 (.iload_n 3) 1 rfl) rfl rfl rfl ?_
      obtain ⟨ha19, h⟩ := gd_some h
      refine Ak_aaload 106 ha19 (d_SG_ring 61 105 (.aaload) 1 rfl) rfl ?_
      refine Ak_aload_n 107 0 (d_SG_ring 62 106 (.aload_n 0) 1 rfl) rfl rfl rfl ?_
      refine Ak_getF 110 12 hO clX12 (by decide) rfl lkF_SG_89 (d_SG_ring 63 107 (.getfield 89) 3 rfl) rfl ?_
      refine Ak_iload_n 111 3 (d_SG_ring 64 110 (.iload_n 3) 1 rfl) rfl rfl rfl ?_
      refine Ak_iconst 112 (d_SG_ring 65 111 (.iconst 1) 1 rfl) rfl (rk rfl) ?_
      refine Ak_isub 113 (d_SG_ring 66 112 (.isub) 1 rfl) rfl ?_
      refine Ak_aaload 114 ha7 (d_SG_ring 67 113 (.aaload) 1 rfl) rfl ?_
      obtain ⟨hg23, h⟩ := gd_some h
      obtain ⟨r20, V21, h22, h⟩ := bnd_some h
      refine Ak_cV0 117 2 (c_Slate_copyFrom h22) rfl hg23 clX6 rfl mok_Slate_copyFrom lkM_SG_311 (d_SG_ring 68 114 (.invokevirtual 311) 3 rfl) rfl (by decide) (Nat.le_of_ble_eq_true rfl) ?_
      refine Ak_iload 119 (d_SG_ring 69 117 (.iload 6) 2 rfl) rfl rfl ?_
      refine Ak_iconst 120 (d_SG_ring 70 119 (.iconst (-1)) 1 rfl) rfl (rk rfl) ?_
      refine Ak_icmp_eq 134 123 (d_SG_ring 71 120 (.if_icmp .eq 14) 3 rfl) rfl rfl (fun hc => ?_) (fun hc => ?_)
      · replace h := it_t hc h
        refine Ak_iload_n 135 3 (d_SG_ring 78 134 (.iload_n 3) 1 rfl) rfl rfl rfl ?_
        refine Ak_iconst 136 (d_SG_ring 79 135 (.iconst 2) 1 rfl) rfl (rk rfl) ?_
        refine Ak_isub 137 (d_SG_ring 80 136 (.isub) 1 rfl) rfl ?_
        refine Ak_istore 139 (d_SG_ring 81 137 (.istore 7) 2 rfl) rfl (by decide) ?_
        refine Ak_keep [true, true, true, true, false, false, false, true] ?_
        exact t_SG_ring_L139 hO (fun h => ih h) FU _ _ _ _ h
      · replace h := it_f hc h
        refine Ak_aload_n 124 0 (d_SG_ring 72 123 (.aload_n 0) 1 rfl) rfl rfl rfl ?_
        refine Ak_getF 127 12 hO clX12 (by decide) rfl lkF_SG_89 (d_SG_ring 73 124 (.getfield 89) 3 rfl) rfl ?_
        refine Ak_iload_n 128 3 (d_SG_ring 74 127 (.iload_n 3) 1 rfl) rfl rfl rfl ?_
        refine Ak_aaload 129 ha19 (d_SG_ring 75 128 (.aaload) 1 rfl) rfl ?_
        refine Ak_iload 131 (d_SG_ring 76 129 (.iload 6) 2 rfl) rfl rfl ?_
        obtain ⟨hg27, h⟩ := gd_some h
        obtain ⟨r24, V25, h26, h⟩ := bnd_some h
        refine Ak_cV0 134 5 (c_Slate_apply h26) rfl hg27 clX6 rfl mok_Slate_apply lkM_SG_314 (d_SG_ring 77 131 (.invokevirtual 314) 3 rfl) rfl (by decide) (Nat.le_of_ble_eq_true rfl) ?_
        refine Ak_iload_n 135 3 (d_SG_ring 78 134 (.iload_n 3) 1 rfl) rfl rfl rfl ?_
        refine Ak_iconst 136 (d_SG_ring 79 135 (.iconst 2) 1 rfl) rfl (rk rfl) ?_
        refine Ak_isub 137 (d_SG_ring 80 136 (.isub) 1 rfl) rfl ?_
        refine Ak_istore 139 (d_SG_ring 81 137 (.istore 7) 2 rfl) rfl (by decide) ?_
        refine Ak_keep [true, true, true, true, false, false, false, true] ?_
        exact t_SG_ring_L139 hO (fun h => ih h) FU _ _ _ _ h
theorem c_SG_ring {S : ASh} {V : ASt} {x0 x1 x2 : Int} {r : Int} {V' : ASt} (h : f_SG_ring S V x0 x1 x2 = some (r, V')) : ACt m_SG_ring 10 0 0 [(aR x0), (aI x1), (aI x2)] S V (some (aI r)) S V' := by
  unfold f_SG_ring at h
  obtain ⟨hO, h⟩ := gd_some h
  refine ACt_of (plainFor_of_name rfl) rfl (Nat.le_of_ble_eq_true rfl) ?_
  show AWk m_SG_ring 10 0 0 0 0 0 [some (aR x0), some (aI x1), some (aI x2)] [] S V (some (aI r)) S V'
  refine Ak_aload_n 1 0 (d_SG_ring 0 0 (.aload_n 0) 1 rfl) rfl rfl rfl ?_
  refine Ak_getR 4 1 hO clX12 (by decide) rfl lkF_SG_21 (d_SG_ring 1 1 (.getfield 21) 3 rfl) rfl ?_
  obtain ⟨hg28, h⟩ := gd_some h
  refine Ak_getI 7 0 hg28 clX1 (by decide) (Or.inl rfl) lkF_SG_164 (d_SG_ring 2 4 (.getfield 164) 3 rfl) rfl ?_
  refine Ak_if_eq 30 10 (d_SG_ring 3 7 (.ifCond .eq 23) 3 rfl) rfl rfl (fun hc => ?_) (fun hc => ?_)
  · replace h := it_t hc h
    refine Ak_iconst 31 (d_SG_ring 15 30 (.iconst (-1)) 1 rfl) rfl (rk rfl) ?_
    cases h
    exact Ak_iret rfl (d_SG_ring 16 31 (.ireturn) 1 rfl)
  · replace h := it_f hc h
    refine Ak_iload_n 11 1 (d_SG_ring 4 10 (.iload_n 1) 1 rfl) rfl rfl rfl ?_
    refine Ak_iconst 12 (d_SG_ring 5 11 (.iconst 1) 1 rfl) rfl (rk rfl) ?_
    refine Ak_icmp_lt 30 15 (d_SG_ring 6 12 (.if_icmp .lt 18) 3 rfl) rfl rfl (fun hc => ?_) (fun hc => ?_)
    · replace h := it_t hc h
      refine Ak_iconst 31 (d_SG_ring 15 30 (.iconst (-1)) 1 rfl) rfl (rk rfl) ?_
      cases h
      exact Ak_iret rfl (d_SG_ring 16 31 (.ireturn) 1 rfl)
    · replace h := it_f hc h
      refine Ak_iload_n 16 1 (d_SG_ring 7 15 (.iload_n 1) 1 rfl) rfl rfl rfl ?_
      refine Ak_bipush 18 (d_SG_ring 8 16 (.bipush 12) 2 rfl) rfl (bp_ok rfl) (rk rfl) ?_
      refine Ak_icmp_gt 30 21 (d_SG_ring 9 18 (.if_icmp .gt 12) 3 rfl) rfl rfl (fun hc => ?_) (fun hc => ?_)
      · replace h := it_t hc h
        refine Ak_iconst 31 (d_SG_ring 15 30 (.iconst (-1)) 1 rfl) rfl (rk rfl) ?_
        cases h
        exact Ak_iret rfl (d_SG_ring 16 31 (.ireturn) 1 rfl)
      · replace h := it_f hc h
        refine Ak_iload_n 22 2 (d_SG_ring 10 21 (.iload_n 2) 1 rfl) rfl rfl rfl ?_
        refine Ak_if_lt 30 25 (d_SG_ring 11 22 (.ifCond .lt 8) 3 rfl) rfl rfl (fun hc => ?_) (fun hc => ?_)
        · replace h := it_t hc h
          refine Ak_iconst 31 (d_SG_ring 15 30 (.iconst (-1)) 1 rfl) rfl (rk rfl) ?_
          cases h
          exact Ak_iret rfl (d_SG_ring 16 31 (.ireturn) 1 rfl)
        · replace h := it_f hc h
          refine Ak_iload_n 26 2 (d_SG_ring 12 25 (.iload_n 2) 1 rfl) rfl rfl rfl ?_
          refine Ak_iconst 27 (d_SG_ring 13 26 (.iconst 1) 1 rfl) rfl (rk rfl) ?_
          refine Ak_icmp_le 32 30 (d_SG_ring 14 27 (.if_icmp .le 5) 3 rfl) rfl rfl (fun hc => ?_) (fun hc => ?_)
          · replace h := it_t hc h
            refine Ak_aload_n 33 0 (d_SG_ring 17 32 (.aload_n 0) 1 rfl) rfl rfl rfl ?_
            refine Ak_getF 36 12 hO clX12 (by decide) rfl lkF_SG_89 (d_SG_ring 18 33 (.getfield 89) 3 rfl) rfl ?_
            refine Ak_iconst 37 (d_SG_ring 19 36 (.iconst 0) 1 rfl) rfl (rk rfl) ?_
            obtain ⟨ha29, h⟩ := gd_some h
            refine Ak_aaload 38 ha29 (d_SG_ring 20 37 (.aaload) 1 rfl) rfl ?_
            refine Ak_aload_n 39 0 (d_SG_ring 21 38 (.aload_n 0) 1 rfl) rfl rfl rfl ?_
            refine Ak_getF 42 4 hO clX12 (by decide) rfl lkF_SG_40 (d_SG_ring 22 39 (.getfield 40) 3 rfl) rfl ?_
            obtain ⟨hg33, h⟩ := gd_some h
            obtain ⟨r30, V31, h32, h⟩ := bnd_some h
            refine Ak_cV0 45 2 (c_Slate_copyFrom h32) rfl hg33 clX6 rfl mok_Slate_copyFrom lkM_SG_311 (d_SG_ring 23 42 (.invokevirtual 311) 3 rfl) rfl (by decide) (Nat.le_of_ble_eq_true rfl) ?_
            refine Ak_iconst 46 (d_SG_ring 24 45 (.iconst 1) 1 rfl) rfl (rk rfl) ?_
            refine Ak_istore_n 47 3 (d_SG_ring 25 46 (.istore_n 3) 1 rfl) rfl rfl (by decide) ?_
            refine Ak_keep [true, true, true, true] ?_
            exact t_SG_ring_L47 hO FU _ _ _ _ h
          · replace h := it_f hc h
            refine Ak_iconst 31 (d_SG_ring 15 30 (.iconst (-1)) 1 rfl) rfl (rk rfl) ?_
            cases h
            exact Ak_iret rfl (d_SG_ring 16 31 (.ireturn) 1 rfl)
theorem c_SG_spring {S : ASh} {V : ASt} {x0 : Int} {r : Int} {V' : ASt} (h : f_SG_spring S V x0 = some (r, V')) : ACt m_SG_spring 3 0 0 [(aR x0)] S V (some (aI r)) S V' := by
  unfold f_SG_spring at h
  obtain ⟨hO, h⟩ := gd_some h
  refine ACt_of (plainFor_of_name rfl) rfl (Nat.le_of_ble_eq_true rfl) ?_
  show AWk m_SG_spring 3 0 0 0 0 0 [some (aR x0)] [] S V (some (aI r)) S V'
  refine Ak_aload_n 1 0 (d_SG_spring 0 0 (.aload_n 0) 1 rfl) rfl rfl rfl ?_
  refine Ak_getF 4 5 hO clX12 (by decide) rfl lkF_SG_47 (d_SG_spring 1 1 (.getfield 47) 3 rfl) rfl ?_
  refine Ak_iconst 5 (d_SG_spring 2 4 (.iconst 1) 1 rfl) rfl (rk rfl) ?_
  obtain ⟨hg1, h⟩ := gd_some h
  refine Ak_putZ 8 0 (Or.inr rfl) hg1 clX7 (by decide) rfl rfl rfl lkF_SG_151 (d_SG_spring 3 5 (.putfield 151) 3 rfl) rfl (fun V2 hV2 => ?_)
  replace h := wV_some h V2 hV2
  refine Ak_aload_n 9 0 (d_SG_spring 4 8 (.aload_n 0) 1 rfl) rfl rfl rfl ?_
  refine Ak_getF 12 5 hO clX12 (by decide) rfl lkF_SG_47 (d_SG_spring 5 9 (.getfield 47) 3 rfl) rfl ?_
  refine Ak_getF 15 1 hg1 clX7 (by decide) rfl lkF_SG_321 (d_SG_spring 6 12 (.getfield 321) 3 rfl) rfl ?_
  refine Ak_aload_n 16 0 (d_SG_spring 7 15 (.aload_n 0) 1 rfl) rfl rfl rfl ?_
  refine Ak_getF 19 4 hO clX12 (by decide) rfl lkF_SG_40 (d_SG_spring 8 16 (.getfield 40) 3 rfl) rfl ?_
  obtain ⟨hg6, h⟩ := gd_some h
  obtain ⟨r3, V4, h5, h⟩ := bnd_some h
  refine Ak_cV0 22 2 (c_Slate_copyFrom h5) rfl hg6 clX6 rfl mok_Slate_copyFrom lkM_SG_311 (d_SG_spring 9 19 (.invokevirtual 311) 3 rfl) rfl (by decide) (Nat.le_of_ble_eq_true rfl) ?_
  refine Ak_aload_n 23 0 (d_SG_spring 10 22 (.aload_n 0) 1 rfl) rfl rfl rfl ?_
  refine Ak_getF 26 4 hO clX12 (by decide) rfl lkF_SG_40 (d_SG_spring 11 23 (.getfield 40) 3 rfl) rfl ?_
  obtain ⟨hg7, h⟩ := gd_some h
  refine Ak_getI 29 0 hg7 clX6 (by decide) (Or.inl rfl) lkF_SG_322 (d_SG_spring 12 26 (.getfield 322) 3 rfl) rfl ?_
  cases h
  exact Ak_iret rfl (d_SG_spring 13 29 (.ireturn) 1 rfl)
theorem c_SG_parts {S : ASh} {V : ASt} {x0 x1 : Int} {r : Int} {V' : ASt} (h : f_SG_parts S V x0 x1 = some (r, V')) : ACt m_SG_parts 9 0 0 [(aR x0), (aI x1)] S V (some (aI r)) S V' := by
  unfold f_SG_parts at h
  obtain ⟨hO, h⟩ := gd_some h
  refine ACt_of (plainFor_of_name rfl) rfl (Nat.le_of_ble_eq_true rfl) ?_
  show AWk m_SG_parts 9 0 0 0 0 0 [some (aR x0), some (aI x1)] [] S V (some (aI r)) S V'
  refine Ak_aload_n 1 0 (d_SG_parts 0 0 (.aload_n 0) 1 rfl) rfl rfl rfl ?_
  refine Ak_getR 4 1 hO clX12 (by decide) rfl lkF_SG_21 (d_SG_parts 1 1 (.getfield 21) 3 rfl) rfl ?_
  obtain ⟨hg1, h⟩ := gd_some h
  refine Ak_getI 7 0 hg1 clX1 (by decide) (Or.inl rfl) lkF_SG_164 (d_SG_parts 2 4 (.getfield 164) 3 rfl) rfl ?_
  refine Ak_if_eq 29 10 (d_SG_parts 3 7 (.ifCond .eq 22) 3 rfl) rfl rfl (fun hc => ?_) (fun hc => ?_)
  · replace h := it_t hc h
    refine Ak_iconst 30 (d_SG_parts 13 29 (.iconst (-1)) 1 rfl) rfl (rk rfl) ?_
    cases h
    exact Ak_iret rfl (d_SG_parts 14 30 (.ireturn) 1 rfl)
  · replace h := it_f hc h
    refine Ak_aload_n 11 0 (d_SG_parts 4 10 (.aload_n 0) 1 rfl) rfl rfl rfl ?_
    refine Ak_getF 14 5 hO clX12 (by decide) rfl lkF_SG_47 (d_SG_parts 5 11 (.getfield 47) 3 rfl) rfl ?_
    obtain ⟨hg2, h⟩ := gd_some h
    refine Ak_getI 17 0 hg2 clX7 (by decide) (Or.inr rfl) lkF_SG_151 (d_SG_parts 6 14 (.getfield 151) 3 rfl) rfl ?_
    refine Ak_if_eq 29 20 (d_SG_parts 7 17 (.ifCond .eq 12) 3 rfl) rfl rfl (fun hc => ?_) (fun hc => ?_)
    · replace h := it_t hc h
      refine Ak_iconst 30 (d_SG_parts 13 29 (.iconst (-1)) 1 rfl) rfl (rk rfl) ?_
      cases h
      exact Ak_iret rfl (d_SG_parts 14 30 (.ireturn) 1 rfl)
    · replace h := it_f hc h
      refine Ak_iload_n 21 1 (d_SG_parts 8 20 (.iload_n 1) 1 rfl) rfl rfl rfl ?_
      refine Ak_if_lt 29 24 (d_SG_parts 9 21 (.ifCond .lt 8) 3 rfl) rfl rfl (fun hc => ?_) (fun hc => ?_)
      · replace h := it_t hc h
        refine Ak_iconst 30 (d_SG_parts 13 29 (.iconst (-1)) 1 rfl) rfl (rk rfl) ?_
        cases h
        exact Ak_iret rfl (d_SG_parts 14 30 (.ireturn) 1 rfl)
      · replace h := it_f hc h
        refine Ak_iload_n 25 1 (d_SG_parts 10 24 (.iload_n 1) 1 rfl) rfl rfl rfl ?_
        refine Ak_iconst 26 (d_SG_parts 11 25 (.iconst 1) 1 rfl) rfl (rk rfl) ?_
        refine Ak_icmp_le 31 29 (d_SG_parts 12 26 (.if_icmp .le 5) 3 rfl) rfl rfl (fun hc => ?_) (fun hc => ?_)
        · replace h := it_t hc h
          refine Ak_aload_n 32 0 (d_SG_parts 15 31 (.aload_n 0) 1 rfl) rfl rfl rfl ?_
          refine Ak_getF 35 9 hO clX12 (by decide) rfl lkF_SG_74 (d_SG_parts 16 32 (.getfield 74) 3 rfl) rfl ?_
          obtain ⟨hg3, h⟩ := gd_some h
          refine Ak_getF 38 1 hg3 clX10 (by decide) rfl lkF_SG_325 (d_SG_parts 17 35 (.getfield 325) 3 rfl) rfl ?_
          refine Ak_aload_n 39 0 (d_SG_parts 18 38 (.aload_n 0) 1 rfl) rfl rfl rfl ?_
          refine Ak_getR 42 1 hO clX12 (by decide) rfl lkF_SG_21 (d_SG_parts 19 39 (.getfield 21) 3 rfl) rfl ?_
          refine Ak_aload_n 43 0 (d_SG_parts 20 42 (.aload_n 0) 1 rfl) rfl rfl rfl ?_
          refine Ak_getF 46 5 hO clX12 (by decide) rfl lkF_SG_47 (d_SG_parts 21 43 (.getfield 47) 3 rfl) rfl ?_
          refine Ak_getF 49 1 hg2 clX7 (by decide) rfl lkF_SG_321 (d_SG_parts 22 46 (.getfield 321) 3 rfl) rfl ?_
          obtain ⟨hg7, h⟩ := gd_some h
          obtain ⟨r4, V5, h6, h⟩ := bnd_some h
          refine Ak_cV0 52 5 (c_Moves_prepare h6) rfl hg7 clX4 rfl mok_Moves_prepare lkM_SG_326 (d_SG_parts 23 49 (.invokevirtual 326) 3 rfl) rfl (by decide) (Nat.le_of_ble_eq_true rfl) ?_
          refine Ak_aload_n 53 0 (d_SG_parts 24 52 (.aload_n 0) 1 rfl) rfl rfl rfl ?_
          refine Ak_getF 56 9 hO clX12 (by decide) rfl lkF_SG_74 (d_SG_parts 25 53 (.getfield 74) 3 rfl) rfl ?_
          refine Ak_getF 59 1 hg3 clX10 (by decide) rfl lkF_SG_325 (d_SG_parts 26 56 (.getfield 325) 3 rfl) rfl ?_
          refine Ak_iconst 60 (d_SG_parts 27 59 (.iconst 0) 1 rfl) rfl (rk rfl) ?_
          obtain ⟨r8, V9, h10, h⟩ := bnd_some h
          refine Ak_cV0 63 7 (c_Moves_layOut h10) rfl hg7 clX4 rfl mok_Moves_layOut lkM_SG_330 (d_SG_parts 28 60 (.invokevirtual 330) 3 rfl) rfl (by decide) (Nat.le_of_ble_eq_true rfl) ?_
          refine Ak_aload_n 64 0 (d_SG_parts 29 63 (.aload_n 0) 1 rfl) rfl rfl rfl ?_
          refine Ak_getF 67 5 hO clX12 (by decide) rfl lkF_SG_47 (d_SG_parts 30 64 (.getfield 47) 3 rfl) rfl ?_
          refine Ak_aload_n 68 0 (d_SG_parts 31 67 (.aload_n 0) 1 rfl) rfl rfl rfl ?_
          obtain ⟨r11, V12, h13, h⟩ := bnd_some h
          refine Ak_cV1 71 8 (c_SG_movesNow h13) rfl hO clX12 rfl mok_SG_movesNow lkM_SG_217 (d_SG_parts 32 68 (.invokevirtual 217) 3 rfl) rfl (by decide) (Nat.le_of_ble_eq_true rfl) ?_
          refine Ak_aload_n 72 0 (d_SG_parts 33 71 (.aload_n 0) 1 rfl) rfl rfl rfl ?_
          refine Ak_getF 75 9 hO clX12 (by decide) rfl lkF_SG_74 (d_SG_parts 34 72 (.getfield 74) 3 rfl) rfl ?_
          refine Ak_getF 78 1 hg3 clX10 (by decide) rfl lkF_SG_325 (d_SG_parts 35 75 (.getfield 325) 3 rfl) rfl ?_
          refine Ak_aload_n 79 0 (d_SG_parts 36 78 (.aload_n 0) 1 rfl) rfl rfl rfl ?_
          obtain ⟨r14, V15, h16, h⟩ := bnd_some h
          refine Ak_cV1 82 3 (c_SG_beginningNow h16) rfl hO clX12 rfl mok_SG_beginningNow lkM_SG_241 (d_SG_parts 37 79 (.invokevirtual 241) 3 rfl) rfl (by decide) (Nat.le_of_ble_eq_true rfl) ?_
          obtain ⟨r17, V18, h19, h⟩ := bnd_some h
          refine Ak_cV0 85 6 (c_Spring_compare h19) rfl hg2 clX7 rfl mok_Spring_compare lkM_SG_334 (d_SG_parts 38 82 (.invokevirtual 334) 3 rfl) rfl (by decide) (Nat.le_of_ble_eq_true rfl) ?_
          refine Ak_iload_n 86 1 (d_SG_parts 39 85 (.iload_n 1) 1 rfl) rfl rfl rfl ?_
          refine Ak_if_ne 99 89 (d_SG_parts 40 86 (.ifCond .ne 13) 3 rfl) rfl rfl (fun hc => ?_) (fun hc => ?_)
          · replace h := it_f hc h
            refine Ak_aload_n 100 0 (d_SG_parts 45 99 (.aload_n 0) 1 rfl) rfl rfl rfl ?_
            refine Ak_getF 103 5 hO clX12 (by decide) rfl lkF_SG_47 (d_SG_parts 46 100 (.getfield 47) 3 rfl) rfl ?_
            refine Ak_getI 106 3 hg2 clX7 (by decide) (Or.inl rfl) lkF_SG_341 (d_SG_parts 47 103 (.getfield 341) 3 rfl) rfl ?_
            cases h
            exact Ak_iret rfl (d_SG_parts 48 106 (.ireturn) 1 rfl)
          · replace h := it_t hc h
            refine Ak_aload_n 90 0 (d_SG_parts 41 89 (.aload_n 0) 1 rfl) rfl rfl rfl ?_
            refine Ak_getF 93 5 hO clX12 (by decide) rfl lkF_SG_47 (d_SG_parts 42 90 (.getfield 47) 3 rfl) rfl ?_
            refine Ak_getI 96 2 hg2 clX7 (by decide) (Or.inl rfl) lkF_SG_338 (d_SG_parts 43 93 (.getfield 338) 3 rfl) rfl ?_
            refine Ak_goto 106 (d_SG_parts 44 96 (.goto 10) 3 rfl) rfl ?_
            cases h
            exact Ak_iret rfl (d_SG_parts 48 106 (.ireturn) 1 rfl)
        · replace h := it_f hc h
          refine Ak_iconst 30 (d_SG_parts 13 29 (.iconst (-1)) 1 rfl) rfl (rk rfl) ?_
          cases h
          exact Ak_iret rfl (d_SG_parts 14 30 (.ireturn) 1 rfl)
theorem t_SG_image_L24 {S : ASh} {x0 : Int} (hO : isO S x0 12 = true) : ∀ (n : Nat) (V : ASt) (x1 : Int) (r : Int) (V' : ASt), b_SG_image_L24 S x0 n V x1 = some (r, V') → AWk m_SG_image 5 0 0 0 0 24 [some (aR x0), some (aI x1)] [] S V (some (aI r)) S V' := by
  intro n
  induction n with
  | zero => intro V x1 r V' h; cases h
  | succ n ih =>
    intro V x1 r V' h
    replace ih : ∀ {V : ASt} {x1 : Int} {r : Int} {V' : ASt}, b_SG_image_L24 S x0 n V x1 = some (r, V') → AWk m_SG_image 5 0 0 0 0 24 [some (aR x0), some (aI x1)] [] S V (some (aI r)) S V' := fun h => ih _ _ _ _ h
    rw [b_SG_image_L24] at h
    refine Ak_iload_n 25 1 (d_SG_image 12 24 (.iload_n 1) 1 rfl) rfl rfl rfl ?_
    refine Ak_aload_n 26 0 (d_SG_image 13 25 (.aload_n 0) 1 rfl) rfl rfl rfl ?_
    refine Ak_getF 29 4 hO clX12 (by decide) rfl lkF_SG_40 (d_SG_image 14 26 (.getfield 40) 3 rfl) rfl ?_
    obtain ⟨hg1, h⟩ := gd_some h
    refine Ak_getI 32 0 hg1 clX6 (by decide) (Or.inl rfl) lkF_SG_322 (d_SG_image 15 29 (.getfield 322) 3 rfl) rfl ?_
    refine Ak_icmp_ge 86 35 (d_SG_image 16 32 (.if_icmp .ge 54) 3 rfl) rfl rfl (fun hc => ?_) (fun hc => ?_)
    · replace h := it_t hc h
      refine Ak_aload_n 87 0 (d_SG_image 40 86 (.aload_n 0) 1 rfl) rfl rfl rfl ?_
      refine Ak_getF 90 18 hO clX12 (by decide) rfl lkF_SG_114 (d_SG_image 41 87 (.getfield 114) 3 rfl) rfl ?_
      refine Ak_aload_n 91 0 (d_SG_image 42 90 (.aload_n 0) 1 rfl) rfl rfl rfl ?_
      refine Ak_getI 94 17 hO clX12 (by decide) (Or.inl rfl) lkF_SG_110 (d_SG_image 43 91 (.getfield 110) 3 rfl) rfl ?_
      refine Ak_bipush 96 (d_SG_image 44 94 (.bipush 8) 2 rfl) rfl (bp_ok rfl) (rk rfl) ?_
      refine Ak_ishr 97 (d_SG_image 45 96 (.ishr) 1 rfl) rfl ?_
      obtain ⟨hg5, h⟩ := gd_some h
      obtain ⟨r2, V3, h4, h⟩ := bnd_some h
      refine Ak_cV0 100 2 (c_Bytes_put h4) rfl hg5 clX0 rfl mok_Bytes_put lkM_SG_344 (d_SG_image 46 97 (.invokevirtual 344) 3 rfl) rfl (by decide) (Nat.le_of_ble_eq_true rfl) ?_
      refine Ak_aload_n 101 0 (d_SG_image 47 100 (.aload_n 0) 1 rfl) rfl rfl rfl ?_
      refine Ak_getF 104 18 hO clX12 (by decide) rfl lkF_SG_114 (d_SG_image 48 101 (.getfield 114) 3 rfl) rfl ?_
      refine Ak_aload_n 105 0 (d_SG_image 49 104 (.aload_n 0) 1 rfl) rfl rfl rfl ?_
      refine Ak_getI 108 17 hO clX12 (by decide) (Or.inl rfl) lkF_SG_110 (d_SG_image 50 105 (.getfield 110) 3 rfl) rfl ?_
      obtain ⟨r6, V7, h8, h⟩ := bnd_some h
      refine Ak_cV0 111 2 (c_Bytes_put h8) rfl hg5 clX0 rfl mok_Bytes_put lkM_SG_344 (d_SG_image 51 108 (.invokevirtual 344) 3 rfl) rfl (by decide) (Nat.le_of_ble_eq_true rfl) ?_
      refine Ak_aload_n 112 0 (d_SG_image 52 111 (.aload_n 0) 1 rfl) rfl rfl rfl ?_
      refine Ak_getF 115 18 hO clX12 (by decide) rfl lkF_SG_114 (d_SG_image 53 112 (.getfield 114) 3 rfl) rfl ?_
      refine Ak_aload_n 116 0 (d_SG_image 54 115 (.aload_n 0) 1 rfl) rfl rfl rfl ?_
      refine Ak_getF 119 16 hO clX12 (by decide) rfl lkF_SG_107 (d_SG_image 55 116 (.getfield 107) 3 rfl) rfl ?_
      refine Ak_iconst 120 (d_SG_image 56 119 (.iconst 0) 1 rfl) rfl (rk rfl) ?_
      obtain ⟨ha9, h⟩ := gd_some h
      refine Ak_iaload 121 ha9 (d_SG_image 57 120 (.iaload) 1 rfl) rfl ?_
      obtain ⟨r10, V11, h12, h⟩ := bnd_some h
      refine Ak_cV0 124 2 (c_Bytes_put h12) rfl hg5 clX0 rfl mok_Bytes_put lkM_SG_344 (d_SG_image 58 121 (.invokevirtual 344) 3 rfl) rfl (by decide) (Nat.le_of_ble_eq_true rfl) ?_
      refine Ak_aload_n 125 0 (d_SG_image 59 124 (.aload_n 0) 1 rfl) rfl rfl rfl ?_
      refine Ak_getF 128 18 hO clX12 (by decide) rfl lkF_SG_114 (d_SG_image 60 125 (.getfield 114) 3 rfl) rfl ?_
      refine Ak_aload_n 129 0 (d_SG_image 61 128 (.aload_n 0) 1 rfl) rfl rfl rfl ?_
      refine Ak_getF 132 16 hO clX12 (by decide) rfl lkF_SG_107 (d_SG_image 62 129 (.getfield 107) 3 rfl) rfl ?_
      refine Ak_iconst 133 (d_SG_image 63 132 (.iconst 1) 1 rfl) rfl (rk rfl) ?_
      obtain ⟨ha13, h⟩ := gd_some h
      refine Ak_iaload 134 ha13 (d_SG_image 64 133 (.iaload) 1 rfl) rfl ?_
      obtain ⟨r14, V15, h16, h⟩ := bnd_some h
      refine Ak_cV0 137 2 (c_Bytes_put h16) rfl hg5 clX0 rfl mok_Bytes_put lkM_SG_344 (d_SG_image 65 134 (.invokevirtual 344) 3 rfl) rfl (by decide) (Nat.le_of_ble_eq_true rfl) ?_
      refine Ak_aload_n 138 0 (d_SG_image 66 137 (.aload_n 0) 1 rfl) rfl rfl rfl ?_
      refine Ak_getF 141 18 hO clX12 (by decide) rfl lkF_SG_114 (d_SG_image 67 138 (.getfield 114) 3 rfl) rfl ?_
      refine Ak_aload_n 142 0 (d_SG_image 68 141 (.aload_n 0) 1 rfl) rfl rfl rfl ?_
      refine Ak_getF 145 15 hO clX12 (by decide) rfl lkF_SG_103 (d_SG_image 69 142 (.getfield 103) 3 rfl) rfl ?_
      refine Ak_iconst 146 (d_SG_image 70 145 (.iconst 0) 1 rfl) rfl (rk rfl) ?_
      obtain ⟨ha17, h⟩ := gd_some h
      refine Ak_iaload 147 ha17 (d_SG_image 71 146 (.iaload) 1 rfl) rfl ?_
      obtain ⟨r18, V19, h20, h⟩ := bnd_some h
      refine Ak_cV0 150 2 (c_Bytes_put h20) rfl hg5 clX0 rfl mok_Bytes_put lkM_SG_344 (d_SG_image 72 147 (.invokevirtual 344) 3 rfl) rfl (by decide) (Nat.le_of_ble_eq_true rfl) ?_
      refine Ak_aload_n 151 0 (d_SG_image 73 150 (.aload_n 0) 1 rfl) rfl rfl rfl ?_
      refine Ak_getF 154 18 hO clX12 (by decide) rfl lkF_SG_114 (d_SG_image 74 151 (.getfield 114) 3 rfl) rfl ?_
      refine Ak_aload_n 155 0 (d_SG_image 75 154 (.aload_n 0) 1 rfl) rfl rfl rfl ?_
      refine Ak_getF 158 15 hO clX12 (by decide) rfl lkF_SG_103 (d_SG_image 76 155 (.getfield 103) 3 rfl) rfl ?_
      refine Ak_iconst 159 (d_SG_image 77 158 (.iconst 1) 1 rfl) rfl (rk rfl) ?_
      obtain ⟨ha21, h⟩ := gd_some h
      refine Ak_iaload 160 ha21 (d_SG_image 78 159 (.iaload) 1 rfl) rfl ?_
      obtain ⟨r22, V23, h24, h⟩ := bnd_some h
      refine Ak_cV0 163 2 (c_Bytes_put h24) rfl hg5 clX0 rfl mok_Bytes_put lkM_SG_344 (d_SG_image 79 160 (.invokevirtual 344) 3 rfl) rfl (by decide) (Nat.le_of_ble_eq_true rfl) ?_
      refine Ak_aload_n 164 0 (d_SG_image 80 163 (.aload_n 0) 1 rfl) rfl rfl rfl ?_
      refine Ak_getF 167 18 hO clX12 (by decide) rfl lkF_SG_114 (d_SG_image 81 164 (.getfield 114) 3 rfl) rfl ?_
      refine Ak_aload_n 168 0 (d_SG_image 82 167 (.aload_n 0) 1 rfl) rfl rfl rfl ?_
      refine Ak_getF 171 18 hO clX12 (by decide) rfl lkF_SG_114 (d_SG_image 83 168 (.getfield 114) 3 rfl) rfl ?_
      refine Ak_aload_n 172 0 (d_SG_image 84 171 (.aload_n 0) 1 rfl) rfl rfl rfl ?_
      refine Ak_getF 175 18 hO clX12 (by decide) rfl lkF_SG_114 (d_SG_image 85 172 (.getfield 114) 3 rfl) rfl ?_
      refine Ak_getI 178 0 hg5 clX0 (by decide) (Or.inl rfl) lkF_SG_123 (d_SG_image 86 175 (.getfield 123) 3 rfl) rfl ?_
      obtain ⟨r25, V26, h27, h⟩ := bnd_some h
      refine Ak_cV1 181 2 (c_Bytes_checkOfFirst h27) rfl hg5 clX0 rfl mok_Bytes_checkOfFirst lkM_SG_350 (d_SG_image 87 178 (.invokevirtual 350) 3 rfl) rfl (by decide) (Nat.le_of_ble_eq_true rfl) ?_
      obtain ⟨r28, V29, h30, h⟩ := bnd_some h
      refine Ak_cV0 184 2 (c_Bytes_put h30) rfl hg5 clX0 rfl mok_Bytes_put lkM_SG_344 (d_SG_image 88 181 (.invokevirtual 344) 3 rfl) rfl (by decide) (Nat.le_of_ble_eq_true rfl) ?_
      refine Ak_aload_n 185 0 (d_SG_image 89 184 (.aload_n 0) 1 rfl) rfl rfl rfl ?_
      refine Ak_getF 188 18 hO clX12 (by decide) rfl lkF_SG_114 (d_SG_image 90 185 (.getfield 114) 3 rfl) rfl ?_
      refine Ak_getI 191 0 hg5 clX0 (by decide) (Or.inl rfl) lkF_SG_123 (d_SG_image 91 188 (.getfield 123) 3 rfl) rfl ?_
      cases h
      exact Ak_iret rfl (d_SG_image 92 191 (.ireturn) 1 rfl)
    · replace h := it_f hc h
      refine Ak_aload_n 36 0 (d_SG_image 17 35 (.aload_n 0) 1 rfl) rfl rfl rfl ?_
      refine Ak_getF 39 18 hO clX12 (by decide) rfl lkF_SG_114 (d_SG_image 18 36 (.getfield 114) 3 rfl) rfl ?_
      refine Ak_aload_n 40 0 (d_SG_image 19 39 (.aload_n 0) 1 rfl) rfl rfl rfl ?_
      refine Ak_getF 43 4 hO clX12 (by decide) rfl lkF_SG_40 (d_SG_image 20 40 (.getfield 40) 3 rfl) rfl ?_
      refine Ak_iload_n 44 1 (d_SG_image 21 43 (.iload_n 1) 1 rfl) rfl rfl rfl ?_
      obtain ⟨r31, V32, h33, h⟩ := bnd_some h
      refine Ak_cV1 47 4 (c_Slate_ruleAt h33) rfl hg1 clX6 rfl mok_Slate_ruleAt lkM_SG_191 (d_SG_image 22 44 (.invokevirtual 191) 3 rfl) rfl (by decide) (Nat.le_of_ble_eq_true rfl) ?_
      obtain ⟨hg37, h⟩ := gd_some h
      obtain ⟨r34, V35, h36, h⟩ := bnd_some h
      refine Ak_cV0 50 2 (c_Bytes_put h36) rfl hg37 clX0 rfl mok_Bytes_put lkM_SG_344 (d_SG_image 23 47 (.invokevirtual 344) 3 rfl) rfl (by decide) (Nat.le_of_ble_eq_true rfl) ?_
      refine Ak_aload_n 51 0 (d_SG_image 24 50 (.aload_n 0) 1 rfl) rfl rfl rfl ?_
      refine Ak_getF 54 18 hO clX12 (by decide) rfl lkF_SG_114 (d_SG_image 25 51 (.getfield 114) 3 rfl) rfl ?_
      refine Ak_aload_n 55 0 (d_SG_image 26 54 (.aload_n 0) 1 rfl) rfl rfl rfl ?_
      refine Ak_getF 58 4 hO clX12 (by decide) rfl lkF_SG_40 (d_SG_image 27 55 (.getfield 40) 3 rfl) rfl ?_
      refine Ak_iload_n 59 1 (d_SG_image 28 58 (.iload_n 1) 1 rfl) rfl rfl rfl ?_
      obtain ⟨r38, V39, h40, h⟩ := bnd_some h
      refine Ak_cV1 62 4 (c_Slate_flagsAt h40) rfl hg1 clX6 rfl mok_Slate_flagsAt lkM_SG_347 (d_SG_image 29 59 (.invokevirtual 347) 3 rfl) rfl (by decide) (Nat.le_of_ble_eq_true rfl) ?_
      obtain ⟨r41, V42, h43, h⟩ := bnd_some h
      refine Ak_cV0 65 2 (c_Bytes_put h43) rfl hg37 clX0 rfl mok_Bytes_put lkM_SG_344 (d_SG_image 30 62 (.invokevirtual 344) 3 rfl) rfl (by decide) (Nat.le_of_ble_eq_true rfl) ?_
      refine Ak_aload_n 66 0 (d_SG_image 31 65 (.aload_n 0) 1 rfl) rfl rfl rfl ?_
      refine Ak_getF 69 18 hO clX12 (by decide) rfl lkF_SG_114 (d_SG_image 32 66 (.getfield 114) 3 rfl) rfl ?_
      refine Ak_aload_n 70 0 (d_SG_image 33 69 (.aload_n 0) 1 rfl) rfl rfl rfl ?_
      refine Ak_getF 73 4 hO clX12 (by decide) rfl lkF_SG_40 (d_SG_image 34 70 (.getfield 40) 3 rfl) rfl ?_
      refine Ak_iload_n 74 1 (d_SG_image 35 73 (.iload_n 1) 1 rfl) rfl rfl rfl ?_
      obtain ⟨r44, V45, h46, h⟩ := bnd_some h
      refine Ak_cV1 77 4 (c_Slate_stepAt h46) rfl hg1 clX6 rfl mok_Slate_stepAt lkM_SG_205 (d_SG_image 36 74 (.invokevirtual 205) 3 rfl) rfl (by decide) (Nat.le_of_ble_eq_true rfl) ?_
      obtain ⟨r47, V48, h49, h⟩ := bnd_some h
      refine Ak_cV0 80 2 (c_Bytes_put h49) rfl hg37 clX0 rfl mok_Bytes_put lkM_SG_344 (d_SG_image 37 77 (.invokevirtual 344) 3 rfl) rfl (by decide) (Nat.le_of_ble_eq_true rfl) ?_
      refine Ak_iinc 83 (d_SG_image 38 80 (.iinc 1 1) 3 rfl) rfl rfl (by decide) ?_
      refine Ak_goto 24 (d_SG_image 39 83 (.goto (-59)) 3 rfl) rfl ?_
      refine Ak_keep [true, true] ?_
      exact ih h
theorem c_SG_image {S : ASh} {V : ASt} {x0 : Int} {r : Int} {V' : ASt} (h : f_SG_image S V x0 = some (r, V')) : ACt m_SG_image 5 0 0 [(aR x0)] S V (some (aI r)) S V' := by
  unfold f_SG_image at h
  obtain ⟨hO, h⟩ := gd_some h
  refine ACt_of (plainFor_of_name rfl) rfl (Nat.le_of_ble_eq_true rfl) ?_
  show AWk m_SG_image 5 0 0 0 0 0 [some (aR x0)] [] S V (some (aI r)) S V'
  refine Ak_aload_n 1 0 (d_SG_image 0 0 (.aload_n 0) 1 rfl) rfl rfl rfl ?_
  refine Ak_getF 4 18 hO clX12 (by decide) rfl lkF_SG_114 (d_SG_image 1 1 (.getfield 114) 3 rfl) rfl ?_
  refine Ak_iconst 5 (d_SG_image 2 4 (.iconst 0) 1 rfl) rfl (rk rfl) ?_
  obtain ⟨hg50, h⟩ := gd_some h
  refine Ak_putI 8 0 hg50 clX0 (by decide) rfl rfl rfl lkF_SG_123 (d_SG_image 3 5 (.putfield 123) 3 rfl) rfl (fun V51 hV51 => ?_)
  replace h := wV_some h V51 hV51
  refine Ak_aload_n 9 0 (d_SG_image 4 8 (.aload_n 0) 1 rfl) rfl rfl rfl ?_
  refine Ak_getF 12 18 hO clX12 (by decide) rfl lkF_SG_114 (d_SG_image 5 9 (.getfield 114) 3 rfl) rfl ?_
  refine Ak_aload_n 13 0 (d_SG_image 6 12 (.aload_n 0) 1 rfl) rfl rfl rfl ?_
  refine Ak_getF 16 4 hO clX12 (by decide) rfl lkF_SG_40 (d_SG_image 7 13 (.getfield 40) 3 rfl) rfl ?_
  obtain ⟨hg52, h⟩ := gd_some h
  refine Ak_getI 19 0 hg52 clX6 (by decide) (Or.inl rfl) lkF_SG_322 (d_SG_image 8 16 (.getfield 322) 3 rfl) rfl ?_
  obtain ⟨r53, V54, h55, h⟩ := bnd_some h
  refine Ak_cV0 22 2 (c_Bytes_put h55) rfl hg50 clX0 rfl mok_Bytes_put lkM_SG_344 (d_SG_image 9 19 (.invokevirtual 344) 3 rfl) rfl (by decide) (Nat.le_of_ble_eq_true rfl) ?_
  refine Ak_iconst 23 (d_SG_image 10 22 (.iconst 0) 1 rfl) rfl (rk rfl) ?_
  refine Ak_istore_n 24 1 (d_SG_image 11 23 (.istore_n 1) 1 rfl) rfl rfl (by decide) ?_
  refine Ak_keep [true, true] ?_
  exact t_SG_image_L24 hO FU _ _ _ _ h
theorem c_SG_octet {S : ASh} {V : ASt} {x0 x1 : Int} {r : Int} {V' : ASt} (h : f_SG_octet S V x0 x1 = some (r, V')) : ACt m_SG_octet 3 0 0 [(aR x0), (aI x1)] S V (some (aI r)) S V' := by
  unfold f_SG_octet at h
  obtain ⟨hO, h⟩ := gd_some h
  refine ACt_of (plainFor_of_name rfl) rfl (Nat.le_of_ble_eq_true rfl) ?_
  show AWk m_SG_octet 3 0 0 0 0 0 [some (aR x0), some (aI x1)] [] S V (some (aI r)) S V'
  refine Ak_aload_n 1 0 (d_SG_octet 0 0 (.aload_n 0) 1 rfl) rfl rfl rfl ?_
  refine Ak_getF 4 18 hO clX12 (by decide) rfl lkF_SG_114 (d_SG_octet 1 1 (.getfield 114) 3 rfl) rfl ?_
  refine Ak_iload_n 5 1 (d_SG_octet 2 4 (.iload_n 1) 1 rfl) rfl rfl rfl ?_
  obtain ⟨hg4, h⟩ := gd_some h
  obtain ⟨r1, V2, h3, h⟩ := bnd_some h
  refine Ak_cV1 8 2 (c_Bytes_at h3) rfl hg4 clX0 rfl mok_Bytes_at lkM_SG_276 (d_SG_octet 3 5 (.invokevirtual 276) 3 rfl) rfl (by decide) (Nat.le_of_ble_eq_true rfl) ?_
  cases h
  exact Ak_iret rfl (d_SG_octet 4 8 (.ireturn) 1 rfl)
theorem c_SG_tapeHasPlace {S : ASh} {V : ASt} {x0 x1 x2 : Int} {r : Int} {V' : ASt} (h : f_SG_tapeHasPlace S V x0 x1 x2 = some (r, V')) : ACt m_SG_tapeHasPlace 4 0 0 [(aR x0), (aI x1), (aI x2)] S V (some (aI r)) S V' := by
  unfold f_SG_tapeHasPlace at h
  obtain ⟨hO, h⟩ := gd_some h
  refine ACt_of (plainFor_of_name rfl) rfl (Nat.le_of_ble_eq_true rfl) ?_
  show AWk m_SG_tapeHasPlace 4 0 0 0 0 0 [some (aR x0), some (aI x1), some (aI x2)] [] S V (some (aI r)) S V'
  refine Ak_aload_n 1 0 (d_SG_tapeHasPlace 0 0 (.aload_n 0) 1 rfl) rfl rfl rfl ?_
  refine Ak_getF 4 0 hO clX12 (by decide) rfl lkF_SG_14 (d_SG_tapeHasPlace 1 1 (.getfield 14) 3 rfl) rfl ?_
  refine Ak_iconst 5 (d_SG_tapeHasPlace 2 4 (.iconst 2) 1 rfl) rfl (rk rfl) ?_
  refine Ak_iconst 6 (d_SG_tapeHasPlace 3 5 (.iconst 3) 1 rfl) rfl (rk rfl) ?_
  refine Ak_iload_n 7 1 (d_SG_tapeHasPlace 4 6 (.iload_n 1) 1 rfl) rfl rfl rfl ?_
  refine Ak_imul 8 (d_SG_tapeHasPlace 5 7 (.imul) 1 rfl) rfl ?_
  refine Ak_iadd 9 (d_SG_tapeHasPlace 6 8 (.iadd) 1 rfl) rfl ?_
  obtain ⟨hg4, h⟩ := gd_some h
  obtain ⟨r1, V2, h3, h⟩ := bnd_some h
  refine Ak_cV1 12 2 (c_Bytes_at h3) rfl hg4 clX0 rfl mok_Bytes_at lkM_SG_276 (d_SG_tapeHasPlace 7 9 (.invokevirtual 276) 3 rfl) rfl (by decide) (Nat.le_of_ble_eq_true rfl) ?_
  refine Ak_istore_n 13 3 (d_SG_tapeHasPlace 8 12 (.istore_n 3) 1 rfl) rfl rfl (by decide) ?_
  refine Ak_aload_n 14 0 (d_SG_tapeHasPlace 9 13 (.aload_n 0) 1 rfl) rfl rfl rfl ?_
  refine Ak_getF 17 0 hO clX12 (by decide) rfl lkF_SG_14 (d_SG_tapeHasPlace 10 14 (.getfield 14) 3 rfl) rfl ?_
  refine Ak_iconst 18 (d_SG_tapeHasPlace 11 17 (.iconst 3) 1 rfl) rfl (rk rfl) ?_
  refine Ak_iconst 19 (d_SG_tapeHasPlace 12 18 (.iconst 3) 1 rfl) rfl (rk rfl) ?_
  refine Ak_iload_n 20 1 (d_SG_tapeHasPlace 13 19 (.iload_n 1) 1 rfl) rfl rfl rfl ?_
  refine Ak_imul 21 (d_SG_tapeHasPlace 14 20 (.imul) 1 rfl) rfl ?_
  refine Ak_iadd 22 (d_SG_tapeHasPlace 15 21 (.iadd) 1 rfl) rfl ?_
  obtain ⟨r5, V6, h7, h⟩ := bnd_some h
  refine Ak_cV1 25 2 (c_Bytes_at h7) rfl hg4 clX0 rfl mok_Bytes_at lkM_SG_276 (d_SG_tapeHasPlace 16 22 (.invokevirtual 276) 3 rfl) rfl (by decide) (Nat.le_of_ble_eq_true rfl) ?_
  refine Ak_istore 27 (d_SG_tapeHasPlace 17 25 (.istore 4) 2 rfl) rfl (by decide) ?_
  refine Ak_aload_n 28 0 (d_SG_tapeHasPlace 18 27 (.aload_n 0) 1 rfl) rfl rfl rfl ?_
  refine Ak_getR 31 1 hO clX12 (by decide) rfl lkF_SG_21 (d_SG_tapeHasPlace 19 28 (.getfield 21) 3 rfl) rfl ?_
  refine Ak_iload_n 32 2 (d_SG_tapeHasPlace 20 31 (.iload_n 2) 1 rfl) rfl rfl rfl ?_
  obtain ⟨hg11, h⟩ := gd_some h
  obtain ⟨r8, V9, h10, h⟩ := bnd_some h
  refine Ak_cV1 35 3 (c_Game_stepOf h10) rfl hg11 clX1 rfl mok_Game_stepOf lkM_SG_388 (d_SG_tapeHasPlace 21 32 (.invokevirtual 388) 3 rfl) rfl (by decide) (Nat.le_of_ble_eq_true rfl) ?_
  refine Ak_istore 37 (d_SG_tapeHasPlace 22 35 (.istore 5) 2 rfl) rfl (by decide) ?_
  refine Ak_aload_n 38 0 (d_SG_tapeHasPlace 23 37 (.aload_n 0) 1 rfl) rfl rfl rfl ?_
  refine Ak_getR 41 1 hO clX12 (by decide) rfl lkF_SG_21 (d_SG_tapeHasPlace 24 38 (.getfield 21) 3 rfl) rfl ?_
  refine Ak_iload_n 42 2 (d_SG_tapeHasPlace 25 41 (.iload_n 2) 1 rfl) rfl rfl rfl ?_
  obtain ⟨hg15, h⟩ := gd_some h
  obtain ⟨r12, V13, h14, h⟩ := bnd_some h
  refine Ak_cV1 45 3 (c_Game_isEver h14) rfl hg15 clX1 rfl mok_Game_isEver lkM_SG_211 (d_SG_tapeHasPlace 26 42 (.invokevirtual 211) 3 rfl) rfl (by decide) (Nat.le_of_ble_eq_true rfl) ?_
  refine Ak_if_eq 70 48 (d_SG_tapeHasPlace 27 45 (.ifCond .eq 25) 3 rfl) rfl rfl (fun hc => ?_) (fun hc => ?_)
  · replace h := it_t hc h
    refine Ak_iload_n 71 3 (d_SG_tapeHasPlace 40 70 (.iload_n 3) 1 rfl) rfl rfl rfl ?_
    refine Ak_iconst 72 (d_SG_tapeHasPlace 41 71 (.iconst 3) 1 rfl) rfl (rk rfl) ?_
    refine Ak_icmp_gt 104 75 (d_SG_tapeHasPlace 42 72 (.if_icmp .gt 32) 3 rfl) rfl rfl (fun hc => ?_) (fun hc => ?_)
    · replace h := it_t hc h
      refine Ak_iconst 105 (d_SG_tapeHasPlace 56 104 (.iconst 0) 1 rfl) rfl (rk rfl) ?_
      cases h
      exact Ak_zret (Or.inl rfl) rfl (d_SG_tapeHasPlace 57 105 (.ireturn) 1 rfl)
    · replace h := it_f hc h
      refine Ak_iload 77 (d_SG_tapeHasPlace 43 75 (.iload 5) 2 rfl) rfl rfl ?_
      refine Ak_if_ne 88 80 (d_SG_tapeHasPlace 44 77 (.ifCond .ne 11) 3 rfl) rfl rfl (fun hc => ?_) (fun hc => ?_)
      · replace h := it_f hc h
        refine Ak_iload 90 (d_SG_tapeHasPlace 48 88 (.iload 4) 2 rfl) rfl rfl ?_
        refine Ak_iconst 91 (d_SG_tapeHasPlace 49 90 (.iconst 1) 1 rfl) rfl (rk rfl) ?_
        refine Ak_icmp_lt 104 94 (d_SG_tapeHasPlace 50 91 (.if_icmp .lt 13) 3 rfl) rfl rfl (fun hc => ?_) (fun hc => ?_)
        · replace h := it_t hc h
          refine Ak_iconst 105 (d_SG_tapeHasPlace 56 104 (.iconst 0) 1 rfl) rfl (rk rfl) ?_
          cases h
          exact Ak_zret (Or.inl rfl) rfl (d_SG_tapeHasPlace 57 105 (.ireturn) 1 rfl)
        · replace h := it_f hc h
          refine Ak_iload 96 (d_SG_tapeHasPlace 51 94 (.iload 4) 2 rfl) rfl rfl ?_
          refine Ak_iconst 97 (d_SG_tapeHasPlace 52 96 (.iconst 3) 1 rfl) rfl (rk rfl) ?_
          refine Ak_icmp_gt 104 100 (d_SG_tapeHasPlace 53 97 (.if_icmp .gt 7) 3 rfl) rfl rfl (fun hc => ?_) (fun hc => ?_)
          · replace h := it_t hc h
            refine Ak_iconst 105 (d_SG_tapeHasPlace 56 104 (.iconst 0) 1 rfl) rfl (rk rfl) ?_
            cases h
            exact Ak_zret (Or.inl rfl) rfl (d_SG_tapeHasPlace 57 105 (.ireturn) 1 rfl)
          · replace h := it_f hc h
            refine Ak_iconst 101 (d_SG_tapeHasPlace 54 100 (.iconst 1) 1 rfl) rfl (rk rfl) ?_
            refine Ak_goto 105 (d_SG_tapeHasPlace 55 101 (.goto 4) 3 rfl) rfl ?_
            cases h
            exact Ak_zret (Or.inr rfl) rfl (d_SG_tapeHasPlace 57 105 (.ireturn) 1 rfl)
      · replace h := it_t hc h
        refine Ak_iload 82 (d_SG_tapeHasPlace 45 80 (.iload 4) 2 rfl) rfl rfl ?_
        refine Ak_if_ne 104 85 (d_SG_tapeHasPlace 46 82 (.ifCond .ne 22) 3 rfl) rfl rfl (fun hc => ?_) (fun hc => ?_)
        · replace h := it_f hc h
          refine Ak_iconst 105 (d_SG_tapeHasPlace 56 104 (.iconst 0) 1 rfl) rfl (rk rfl) ?_
          cases h
          exact Ak_zret (Or.inl rfl) rfl (d_SG_tapeHasPlace 57 105 (.ireturn) 1 rfl)
        · replace h := it_t hc h
          refine Ak_goto 100 (d_SG_tapeHasPlace 47 85 (.goto 15) 3 rfl) rfl ?_
          refine Ak_iconst 101 (d_SG_tapeHasPlace 54 100 (.iconst 1) 1 rfl) rfl (rk rfl) ?_
          refine Ak_goto 105 (d_SG_tapeHasPlace 55 101 (.goto 4) 3 rfl) rfl ?_
          cases h
          exact Ak_zret (Or.inr rfl) rfl (d_SG_tapeHasPlace 57 105 (.ireturn) 1 rfl)
  · replace h := it_f hc h
    refine Ak_iload_n 49 2 (d_SG_tapeHasPlace 28 48 (.iload_n 2) 1 rfl) rfl rfl rfl ?_
    refine Ak_iload_n 50 1 (d_SG_tapeHasPlace 29 49 (.iload_n 1) 1 rfl) rfl rfl rfl ?_
    refine Ak_icmp_ne 68 53 (d_SG_tapeHasPlace 30 50 (.if_icmp .ne 18) 3 rfl) rfl rfl (fun hc => ?_) (fun hc => ?_)
    · replace h := it_f hc h
      refine Ak_iconst 69 (d_SG_tapeHasPlace 38 68 (.iconst 0) 1 rfl) rfl (rk rfl) ?_
      cases h
      exact Ak_zret (Or.inl rfl) rfl (d_SG_tapeHasPlace 39 69 (.ireturn) 1 rfl)
    · replace h := it_t hc h
      refine Ak_iload_n 54 3 (d_SG_tapeHasPlace 31 53 (.iload_n 3) 1 rfl) rfl rfl rfl ?_
      refine Ak_if_ne 68 57 (d_SG_tapeHasPlace 32 54 (.ifCond .ne 14) 3 rfl) rfl rfl (fun hc => ?_) (fun hc => ?_)
      · replace h := it_f hc h
        refine Ak_iconst 69 (d_SG_tapeHasPlace 38 68 (.iconst 0) 1 rfl) rfl (rk rfl) ?_
        cases h
        exact Ak_zret (Or.inl rfl) rfl (d_SG_tapeHasPlace 39 69 (.ireturn) 1 rfl)
      · replace h := it_t hc h
        refine Ak_iload 59 (d_SG_tapeHasPlace 33 57 (.iload 4) 2 rfl) rfl rfl ?_
        refine Ak_iload 61 (d_SG_tapeHasPlace 34 59 (.iload 5) 2 rfl) rfl rfl ?_
        refine Ak_icmp_ne 68 64 (d_SG_tapeHasPlace 35 61 (.if_icmp .ne 7) 3 rfl) rfl rfl (fun hc => ?_) (fun hc => ?_)
        · replace h := it_f hc h
          refine Ak_iconst 69 (d_SG_tapeHasPlace 38 68 (.iconst 0) 1 rfl) rfl (rk rfl) ?_
          cases h
          exact Ak_zret (Or.inl rfl) rfl (d_SG_tapeHasPlace 39 69 (.ireturn) 1 rfl)
        · replace h := it_t hc h
          refine Ak_iconst 65 (d_SG_tapeHasPlace 36 64 (.iconst 1) 1 rfl) rfl (rk rfl) ?_
          refine Ak_goto 69 (d_SG_tapeHasPlace 37 65 (.goto 4) 3 rfl) rfl ?_
          cases h
          exact Ak_zret (Or.inr rfl) rfl (d_SG_tapeHasPlace 39 69 (.ireturn) 1 rfl)
theorem t_SG_tapeHasRules_L4 {S : ASh} {x0 : Int} (hO : isO S x0 12 = true) : ∀ (n : Nat) (V : ASt) (x1 x2 : Int) (r : Int) (V' : ASt), b_SG_tapeHasRules_L4 S x0 n V x1 x2 = some (r, V') → AWk m_SG_tapeHasRules 5 0 0 0 0 4 [some (aR x0), some (aI x1), some (aI x2)] [] S V (some (aI r)) S V' := by
  intro n
  induction n with
  | zero => intro V x1 x2 r V' h; cases h
  | succ n ih =>
    intro V x1 x2 r V' h
    replace ih : ∀ {V : ASt} {x1 x2 : Int} {r : Int} {V' : ASt}, b_SG_tapeHasRules_L4 S x0 n V x1 x2 = some (r, V') → AWk m_SG_tapeHasRules 5 0 0 0 0 4 [some (aR x0), some (aI x1), some (aI x2)] [] S V (some (aI r)) S V' := fun h => ih _ _ _ _ _ h
    rw [b_SG_tapeHasRules_L4] at h
    refine Ak_iload_n 5 2 (d_SG_tapeHasRules 4 4 (.iload_n 2) 1 rfl) rfl rfl rfl ?_
    refine Ak_aload_n 6 0 (d_SG_tapeHasRules 5 5 (.aload_n 0) 1 rfl) rfl rfl rfl ?_
    refine Ak_getR 9 1 hO clX12 (by decide) rfl lkF_SG_21 (d_SG_tapeHasRules 6 6 (.getfield 21) 3 rfl) rfl ?_
    obtain ⟨hg1, h⟩ := gd_some h
    refine Ak_getI 12 2 hg1 clX1 (by decide) (Or.inl rfl) lkF_SG_170 (d_SG_tapeHasRules 7 9 (.getfield 170) 3 rfl) rfl ?_
    refine Ak_icmp_ge 70 15 (d_SG_tapeHasRules 8 12 (.if_icmp .ge 58) 3 rfl) rfl rfl (fun hc => ?_) (fun hc => ?_)
    · replace h := it_t hc h
      refine Ak_iconst 71 (d_SG_tapeHasRules 44 70 (.iconst 1) 1 rfl) rfl (rk rfl) ?_
      cases h
      exact Ak_zret (Or.inr rfl) rfl (d_SG_tapeHasRules 45 71 (.ireturn) 1 rfl)
    · replace h := it_f hc h
      refine Ak_aload_n 16 0 (d_SG_tapeHasRules 9 15 (.aload_n 0) 1 rfl) rfl rfl rfl ?_
      refine Ak_getF 19 0 hO clX12 (by decide) rfl lkF_SG_14 (d_SG_tapeHasRules 10 16 (.getfield 14) 3 rfl) rfl ?_
      refine Ak_iconst 20 (d_SG_tapeHasRules 11 19 (.iconst 1) 1 rfl) rfl (rk rfl) ?_
      refine Ak_iconst 21 (d_SG_tapeHasRules 12 20 (.iconst 3) 1 rfl) rfl (rk rfl) ?_
      refine Ak_iload_n 22 2 (d_SG_tapeHasRules 13 21 (.iload_n 2) 1 rfl) rfl rfl rfl ?_
      refine Ak_imul 23 (d_SG_tapeHasRules 14 22 (.imul) 1 rfl) rfl ?_
      refine Ak_iadd 24 (d_SG_tapeHasRules 15 23 (.iadd) 1 rfl) rfl ?_
      obtain ⟨hg5, h⟩ := gd_some h
      obtain ⟨r2, V3, h4, h⟩ := bnd_some h
      refine Ak_cV1 27 2 (c_Bytes_at h4) rfl hg5 clX0 rfl mok_Bytes_at lkM_SG_276 (d_SG_tapeHasRules 16 24 (.invokevirtual 276) 3 rfl) rfl (by decide) (Nat.le_of_ble_eq_true rfl) ?_
      refine Ak_istore_n 28 3 (d_SG_tapeHasRules 17 27 (.istore_n 3) 1 rfl) rfl rfl (by decide) ?_
      refine Ak_iload_n 29 3 (d_SG_tapeHasRules 18 28 (.iload_n 3) 1 rfl) rfl rfl rfl ?_
      refine Ak_aload_n 30 0 (d_SG_tapeHasRules 19 29 (.aload_n 0) 1 rfl) rfl rfl rfl ?_
      refine Ak_getR 33 1 hO clX12 (by decide) rfl lkF_SG_21 (d_SG_tapeHasRules 20 30 (.getfield 21) 3 rfl) rfl ?_
      obtain ⟨hg6, h⟩ := gd_some h
      refine Ak_getI 36 2 hg6 clX1 (by decide) (Or.inl rfl) lkF_SG_170 (d_SG_tapeHasRules 21 33 (.getfield 170) 3 rfl) rfl ?_
      refine Ak_icmp_ge 56 39 (d_SG_tapeHasRules 22 36 (.if_icmp .ge 20) 3 rfl) rfl rfl (fun hc => ?_) (fun hc => ?_)
      · replace h := it_t hc h
        refine Ak_iconst 57 (d_SG_tapeHasRules 34 56 (.iconst 0) 1 rfl) rfl (rk rfl) ?_
        cases h
        exact Ak_zret (Or.inl rfl) rfl (d_SG_tapeHasRules 35 57 (.ireturn) 1 rfl)
      · replace h := it_f hc h
        refine Ak_iload_n 40 1 (d_SG_tapeHasRules 23 39 (.iload_n 1) 1 rfl) rfl rfl rfl ?_
        refine Ak_iload_n 41 3 (d_SG_tapeHasRules 24 40 (.iload_n 3) 1 rfl) rfl rfl rfl ?_
        refine Ak_ishr 42 (d_SG_tapeHasRules 25 41 (.ishr) 1 rfl) rfl ?_
        refine Ak_iconst 43 (d_SG_tapeHasRules 26 42 (.iconst 1) 1 rfl) rfl (rk rfl) ?_
        refine Ak_iand 44 (d_SG_tapeHasRules 27 43 (.iand) 1 rfl) rfl ?_
        refine Ak_if_ne 56 47 (d_SG_tapeHasRules 28 44 (.ifCond .ne 12) 3 rfl) rfl rfl (fun hc => ?_) (fun hc => ?_)
        · replace h := it_f hc h
          refine Ak_iconst 57 (d_SG_tapeHasRules 34 56 (.iconst 0) 1 rfl) rfl (rk rfl) ?_
          cases h
          exact Ak_zret (Or.inl rfl) rfl (d_SG_tapeHasRules 35 57 (.ireturn) 1 rfl)
        · replace h := it_t hc h
          refine Ak_aload_n 48 0 (d_SG_tapeHasRules 29 47 (.aload_n 0) 1 rfl) rfl rfl rfl ?_
          refine Ak_iload_n 49 2 (d_SG_tapeHasRules 30 48 (.iload_n 2) 1 rfl) rfl rfl rfl ?_
          refine Ak_iload_n 50 3 (d_SG_tapeHasRules 31 49 (.iload_n 3) 1 rfl) rfl rfl rfl ?_
          obtain ⟨r7, V8, h9, h⟩ := bnd_some h
          refine Ak_cV1 53 4 (c_SG_tapeHasPlace h9) rfl hO clX12 rfl mok_SG_tapeHasPlace lkM_SG_384 (d_SG_tapeHasRules 32 50 (.invokevirtual 384) 3 rfl) rfl (by decide) (Nat.le_of_ble_eq_true rfl) ?_
          refine Ak_if_ne 58 56 (d_SG_tapeHasRules 33 53 (.ifCond .ne 5) 3 rfl) rfl rfl (fun hc => ?_) (fun hc => ?_)
          · replace h := it_f hc h
            refine Ak_iload_n 59 1 (d_SG_tapeHasRules 36 58 (.iload_n 1) 1 rfl) rfl rfl rfl ?_
            refine Ak_iconst 60 (d_SG_tapeHasRules 37 59 (.iconst 1) 1 rfl) rfl (rk rfl) ?_
            refine Ak_iload_n 61 3 (d_SG_tapeHasRules 38 60 (.iload_n 3) 1 rfl) rfl rfl rfl ?_
            refine Ak_ishl 62 (d_SG_tapeHasRules 39 61 (.ishl) 1 rfl) rfl ?_
            refine Ak_ior 63 (d_SG_tapeHasRules 40 62 (.ior) 1 rfl) rfl ?_
            refine Ak_istore_n 64 1 (d_SG_tapeHasRules 41 63 (.istore_n 1) 1 rfl) rfl rfl (by decide) ?_
            refine Ak_iinc 67 (d_SG_tapeHasRules 42 64 (.iinc 2 1) 3 rfl) rfl rfl (by decide) ?_
            refine Ak_goto 4 (d_SG_tapeHasRules 43 67 (.goto (-63)) 3 rfl) rfl ?_
            refine Ak_keep [true, true, true] ?_
            exact ih h
          · replace h := it_t hc h
            refine Ak_iconst 57 (d_SG_tapeHasRules 34 56 (.iconst 0) 1 rfl) rfl (rk rfl) ?_
            cases h
            exact Ak_zret (Or.inl rfl) rfl (d_SG_tapeHasRules 35 57 (.ireturn) 1 rfl)
theorem c_SG_tapeHasRules {S : ASh} {V : ASt} {x0 : Int} {r : Int} {V' : ASt} (h : f_SG_tapeHasRules S V x0 = some (r, V')) : ACt m_SG_tapeHasRules 5 0 0 [(aR x0)] S V (some (aI r)) S V' := by
  unfold f_SG_tapeHasRules at h
  obtain ⟨hO, h⟩ := gd_some h
  refine ACt_of (plainFor_of_name rfl) rfl (Nat.le_of_ble_eq_true rfl) ?_
  show AWk m_SG_tapeHasRules 5 0 0 0 0 0 [some (aR x0)] [] S V (some (aI r)) S V'
  refine Ak_iconst 1 (d_SG_tapeHasRules 0 0 (.iconst 0) 1 rfl) rfl (rk rfl) ?_
  refine Ak_istore_n 2 1 (d_SG_tapeHasRules 1 1 (.istore_n 1) 1 rfl) rfl rfl (by decide) ?_
  refine Ak_iconst 3 (d_SG_tapeHasRules 2 2 (.iconst 0) 1 rfl) rfl (rk rfl) ?_
  refine Ak_istore_n 4 2 (d_SG_tapeHasRules 3 3 (.istore_n 2) 1 rfl) rfl rfl (by decide) ?_
  refine Ak_keep [true, true, true] ?_
  exact t_SG_tapeHasRules_L4 hO FU _ _ _ _ _ h
theorem c_SG_tapeHasPlayers {S : ASh} {V : ASt} {x0 : Int} {r : Int} {V' : ASt} (h : f_SG_tapeHasPlayers S V x0 = some (r, V')) : ACt m_SG_tapeHasPlayers 3 0 0 [(aR x0)] S V (some (aI r)) S V' := by
  unfold f_SG_tapeHasPlayers at h
  obtain ⟨hO, h⟩ := gd_some h
  refine ACt_of (plainFor_of_name rfl) rfl (Nat.le_of_ble_eq_true rfl) ?_
  show AWk m_SG_tapeHasPlayers 3 0 0 0 0 0 [some (aR x0)] [] S V (some (aI r)) S V'
  refine Ak_iconst 1 (d_SG_tapeHasPlayers 0 0 (.iconst 3) 1 rfl) rfl (rk rfl) ?_
  refine Ak_iconst 2 (d_SG_tapeHasPlayers 1 1 (.iconst 3) 1 rfl) rfl (rk rfl) ?_
  refine Ak_aload_n 3 0 (d_SG_tapeHasPlayers 2 2 (.aload_n 0) 1 rfl) rfl rfl rfl ?_
  refine Ak_getR 6 1 hO clX12 (by decide) rfl lkF_SG_21 (d_SG_tapeHasPlayers 3 3 (.getfield 21) 3 rfl) rfl ?_
  obtain ⟨hg1, h⟩ := gd_some h
  refine Ak_getI 9 2 hg1 clX1 (by decide) (Or.inl rfl) lkF_SG_170 (d_SG_tapeHasPlayers 4 6 (.getfield 170) 3 rfl) rfl ?_
  refine Ak_imul 10 (d_SG_tapeHasPlayers 5 9 (.imul) 1 rfl) rfl ?_
  refine Ak_iadd 11 (d_SG_tapeHasPlayers 6 10 (.iadd) 1 rfl) rfl ?_
  refine Ak_istore_n 12 1 (d_SG_tapeHasPlayers 7 11 (.istore_n 1) 1 rfl) rfl rfl (by decide) ?_
  refine Ak_aload_n 13 0 (d_SG_tapeHasPlayers 8 12 (.aload_n 0) 1 rfl) rfl rfl rfl ?_
  refine Ak_getF 16 0 hO clX12 (by decide) rfl lkF_SG_14 (d_SG_tapeHasPlayers 9 13 (.getfield 14) 3 rfl) rfl ?_
  refine Ak_iload_n 17 1 (d_SG_tapeHasPlayers 10 16 (.iload_n 1) 1 rfl) rfl rfl rfl ?_
  obtain ⟨hg5, h⟩ := gd_some h
  obtain ⟨r2, V3, h4, h⟩ := bnd_some h
  refine Ak_cV1 20 2 (c_Bytes_at h4) rfl hg5 clX0 rfl mok_Bytes_at lkM_SG_276 (d_SG_tapeHasPlayers 11 17 (.invokevirtual 276) 3 rfl) rfl (by decide) (Nat.le_of_ble_eq_true rfl) ?_
  refine Ak_iconst 21 (d_SG_tapeHasPlayers 12 20 (.iconst 2) 1 rfl) rfl (rk rfl) ?_
  refine Ak_icmp_gt 72 24 (d_SG_tapeHasPlayers 13 21 (.if_icmp .gt 51) 3 rfl) rfl rfl (fun hc => ?_) (fun hc => ?_)
  · replace h := it_t hc h
    refine Ak_iconst 73 (d_SG_tapeHasPlayers 40 72 (.iconst 0) 1 rfl) rfl (rk rfl) ?_
    cases h
    exact Ak_zret (Or.inl rfl) rfl (d_SG_tapeHasPlayers 41 73 (.ireturn) 1 rfl)
  · replace h := it_f hc h
    refine Ak_aload_n 25 0 (d_SG_tapeHasPlayers 14 24 (.aload_n 0) 1 rfl) rfl rfl rfl ?_
    refine Ak_getF 28 0 hO clX12 (by decide) rfl lkF_SG_14 (d_SG_tapeHasPlayers 15 25 (.getfield 14) 3 rfl) rfl ?_
    refine Ak_iload_n 29 1 (d_SG_tapeHasPlayers 16 28 (.iload_n 1) 1 rfl) rfl rfl rfl ?_
    refine Ak_iconst 30 (d_SG_tapeHasPlayers 17 29 (.iconst 1) 1 rfl) rfl (rk rfl) ?_
    refine Ak_iadd 31 (d_SG_tapeHasPlayers 18 30 (.iadd) 1 rfl) rfl ?_
    obtain ⟨r6, V7, h8, h⟩ := bnd_some h
    refine Ak_cV1 34 2 (c_Bytes_at h8) rfl hg5 clX0 rfl mok_Bytes_at lkM_SG_276 (d_SG_tapeHasPlayers 19 31 (.invokevirtual 276) 3 rfl) rfl (by decide) (Nat.le_of_ble_eq_true rfl) ?_
    refine Ak_iconst 35 (d_SG_tapeHasPlayers 20 34 (.iconst 2) 1 rfl) rfl (rk rfl) ?_
    refine Ak_icmp_gt 72 38 (d_SG_tapeHasPlayers 21 35 (.if_icmp .gt 37) 3 rfl) rfl rfl (fun hc => ?_) (fun hc => ?_)
    · replace h := it_t hc h
      refine Ak_iconst 73 (d_SG_tapeHasPlayers 40 72 (.iconst 0) 1 rfl) rfl (rk rfl) ?_
      cases h
      exact Ak_zret (Or.inl rfl) rfl (d_SG_tapeHasPlayers 41 73 (.ireturn) 1 rfl)
    · replace h := it_f hc h
      refine Ak_aload_n 39 0 (d_SG_tapeHasPlayers 22 38 (.aload_n 0) 1 rfl) rfl rfl rfl ?_
      refine Ak_getF 42 0 hO clX12 (by decide) rfl lkF_SG_14 (d_SG_tapeHasPlayers 23 39 (.getfield 14) 3 rfl) rfl ?_
      refine Ak_iload_n 43 1 (d_SG_tapeHasPlayers 24 42 (.iload_n 1) 1 rfl) rfl rfl rfl ?_
      refine Ak_iconst 44 (d_SG_tapeHasPlayers 25 43 (.iconst 2) 1 rfl) rfl (rk rfl) ?_
      refine Ak_iadd 45 (d_SG_tapeHasPlayers 26 44 (.iadd) 1 rfl) rfl ?_
      obtain ⟨r9, V10, h11, h⟩ := bnd_some h
      refine Ak_cV1 48 2 (c_Bytes_at h11) rfl hg5 clX0 rfl mok_Bytes_at lkM_SG_276 (d_SG_tapeHasPlayers 27 45 (.invokevirtual 276) 3 rfl) rfl (by decide) (Nat.le_of_ble_eq_true rfl) ?_
      refine Ak_bipush 50 (d_SG_tapeHasPlayers 28 48 (.bipush 100) 2 rfl) rfl (bp_ok rfl) (rk rfl) ?_
      refine Ak_icmp_gt 72 53 (d_SG_tapeHasPlayers 29 50 (.if_icmp .gt 22) 3 rfl) rfl rfl (fun hc => ?_) (fun hc => ?_)
      · replace h := it_t hc h
        refine Ak_iconst 73 (d_SG_tapeHasPlayers 40 72 (.iconst 0) 1 rfl) rfl (rk rfl) ?_
        cases h
        exact Ak_zret (Or.inl rfl) rfl (d_SG_tapeHasPlayers 41 73 (.ireturn) 1 rfl)
      · replace h := it_f hc h
        refine Ak_aload_n 54 0 (d_SG_tapeHasPlayers 30 53 (.aload_n 0) 1 rfl) rfl rfl rfl ?_
        refine Ak_getF 57 0 hO clX12 (by decide) rfl lkF_SG_14 (d_SG_tapeHasPlayers 31 54 (.getfield 14) 3 rfl) rfl ?_
        refine Ak_iload_n 58 1 (d_SG_tapeHasPlayers 32 57 (.iload_n 1) 1 rfl) rfl rfl rfl ?_
        refine Ak_iconst 59 (d_SG_tapeHasPlayers 33 58 (.iconst 3) 1 rfl) rfl (rk rfl) ?_
        refine Ak_iadd 60 (d_SG_tapeHasPlayers 34 59 (.iadd) 1 rfl) rfl ?_
        obtain ⟨r12, V13, h14, h⟩ := bnd_some h
        refine Ak_cV1 63 2 (c_Bytes_at h14) rfl hg5 clX0 rfl mok_Bytes_at lkM_SG_276 (d_SG_tapeHasPlayers 35 60 (.invokevirtual 276) 3 rfl) rfl (by decide) (Nat.le_of_ble_eq_true rfl) ?_
        refine Ak_bipush 65 (d_SG_tapeHasPlayers 36 63 (.bipush 100) 2 rfl) rfl (bp_ok rfl) (rk rfl) ?_
        refine Ak_icmp_gt 72 68 (d_SG_tapeHasPlayers 37 65 (.if_icmp .gt 7) 3 rfl) rfl rfl (fun hc => ?_) (fun hc => ?_)
        · replace h := it_t hc h
          refine Ak_iconst 73 (d_SG_tapeHasPlayers 40 72 (.iconst 0) 1 rfl) rfl (rk rfl) ?_
          cases h
          exact Ak_zret (Or.inl rfl) rfl (d_SG_tapeHasPlayers 41 73 (.ireturn) 1 rfl)
        · replace h := it_f hc h
          refine Ak_iconst 69 (d_SG_tapeHasPlayers 38 68 (.iconst 1) 1 rfl) rfl (rk rfl) ?_
          refine Ak_goto 73 (d_SG_tapeHasPlayers 39 69 (.goto 4) 3 rfl) rfl ?_
          cases h
          exact Ak_zret (Or.inr rfl) rfl (d_SG_tapeHasPlayers 41 73 (.ireturn) 1 rfl)
theorem c_SG_tapeIsImage {S : ASh} {V : ASt} {x0 : Int} {r : Int} {V' : ASt} (h : f_SG_tapeIsImage S V x0 = some (r, V')) : ACt m_SG_tapeIsImage 6 0 0 [(aR x0)] S V (some (aI r)) S V' := by
  unfold f_SG_tapeIsImage at h
  obtain ⟨hO, h⟩ := gd_some h
  refine ACt_of (plainFor_of_name rfl) rfl (Nat.le_of_ble_eq_true rfl) ?_
  show AWk m_SG_tapeIsImage 6 0 0 0 0 0 [some (aR x0)] [] S V (some (aI r)) S V'
  refine Ak_bipush 2 (d_SG_tapeIsImage 0 0 (.bipush 8) 2 rfl) rfl (bp_ok rfl) (rk rfl) ?_
  refine Ak_iconst 3 (d_SG_tapeIsImage 1 2 (.iconst 3) 1 rfl) rfl (rk rfl) ?_
  refine Ak_aload_n 4 0 (d_SG_tapeIsImage 2 3 (.aload_n 0) 1 rfl) rfl rfl rfl ?_
  refine Ak_getR 7 1 hO clX12 (by decide) rfl lkF_SG_21 (d_SG_tapeIsImage 3 4 (.getfield 21) 3 rfl) rfl ?_
  obtain ⟨hg1, h⟩ := gd_some h
  refine Ak_getI 10 2 hg1 clX1 (by decide) (Or.inl rfl) lkF_SG_170 (d_SG_tapeIsImage 4 7 (.getfield 170) 3 rfl) rfl ?_
  refine Ak_imul 11 (d_SG_tapeIsImage 5 10 (.imul) 1 rfl) rfl ?_
  refine Ak_iadd 12 (d_SG_tapeIsImage 6 11 (.iadd) 1 rfl) rfl ?_
  refine Ak_istore_n 13 1 (d_SG_tapeIsImage 7 12 (.istore_n 1) 1 rfl) rfl rfl (by decide) ?_
  refine Ak_aload_n 14 0 (d_SG_tapeIsImage 8 13 (.aload_n 0) 1 rfl) rfl rfl rfl ?_
  refine Ak_getR 17 1 hO clX12 (by decide) rfl lkF_SG_21 (d_SG_tapeIsImage 9 14 (.getfield 21) 3 rfl) rfl ?_
  refine Ak_getI 20 0 hg1 clX1 (by decide) (Or.inl rfl) lkF_SG_164 (d_SG_tapeIsImage 10 17 (.getfield 164) 3 rfl) rfl ?_
  refine Ak_if_eq 52 23 (d_SG_tapeIsImage 11 20 (.ifCond .eq 32) 3 rfl) rfl rfl (fun hc => ?_) (fun hc => ?_)
  · replace h := it_t hc h
    refine Ak_iconst 53 (d_SG_tapeIsImage 25 52 (.iconst 0) 1 rfl) rfl (rk rfl) ?_
    cases h
    exact Ak_zret (Or.inl rfl) rfl (d_SG_tapeIsImage 26 53 (.ireturn) 1 rfl)
  · replace h := it_f hc h
    refine Ak_aload_n 24 0 (d_SG_tapeIsImage 12 23 (.aload_n 0) 1 rfl) rfl rfl rfl ?_
    refine Ak_getF 27 0 hO clX12 (by decide) rfl lkF_SG_14 (d_SG_tapeIsImage 13 24 (.getfield 14) 3 rfl) rfl ?_
    obtain ⟨hg2, h⟩ := gd_some h
    refine Ak_getI 30 0 hg2 clX0 (by decide) (Or.inl rfl) lkF_SG_123 (d_SG_tapeIsImage 14 27 (.getfield 123) 3 rfl) rfl ?_
    refine Ak_iload_n 31 1 (d_SG_tapeIsImage 15 30 (.iload_n 1) 1 rfl) rfl rfl rfl ?_
    refine Ak_icmp_ne 52 34 (d_SG_tapeIsImage 16 31 (.if_icmp .ne 21) 3 rfl) rfl rfl (fun hc => ?_) (fun hc => ?_)
    · replace h := it_f hc h
      refine Ak_iconst 53 (d_SG_tapeIsImage 25 52 (.iconst 0) 1 rfl) rfl (rk rfl) ?_
      cases h
      exact Ak_zret (Or.inl rfl) rfl (d_SG_tapeIsImage 26 53 (.ireturn) 1 rfl)
    · replace h := it_t hc h
      refine Ak_aload_n 35 0 (d_SG_tapeIsImage 17 34 (.aload_n 0) 1 rfl) rfl rfl rfl ?_
      refine Ak_getF 38 0 hO clX12 (by decide) rfl lkF_SG_14 (d_SG_tapeIsImage 18 35 (.getfield 14) 3 rfl) rfl ?_
      refine Ak_iconst 39 (d_SG_tapeIsImage 19 38 (.iconst 0) 1 rfl) rfl (rk rfl) ?_
      obtain ⟨r3, V4, h5, h⟩ := bnd_some h
      refine Ak_cV1 42 2 (c_Bytes_at h5) rfl hg2 clX0 rfl mok_Bytes_at lkM_SG_276 (d_SG_tapeIsImage 20 39 (.invokevirtual 276) 3 rfl) rfl (by decide) (Nat.le_of_ble_eq_true rfl) ?_
      refine Ak_aload_n 43 0 (d_SG_tapeIsImage 21 42 (.aload_n 0) 1 rfl) rfl rfl rfl ?_
      refine Ak_getR 46 1 hO clX12 (by decide) rfl lkF_SG_21 (d_SG_tapeIsImage 22 43 (.getfield 21) 3 rfl) rfl ?_
      obtain ⟨hg6, h⟩ := gd_some h
      refine Ak_getI 49 2 hg6 clX1 (by decide) (Or.inl rfl) lkF_SG_170 (d_SG_tapeIsImage 23 46 (.getfield 170) 3 rfl) rfl ?_
      refine Ak_icmp_eq 54 52 (d_SG_tapeIsImage 24 49 (.if_icmp .eq 5) 3 rfl) rfl rfl (fun hc => ?_) (fun hc => ?_)
      · replace h := it_t hc h
        refine Ak_aload_n 55 0 (d_SG_tapeIsImage 27 54 (.aload_n 0) 1 rfl) rfl rfl rfl ?_
        refine Ak_getF 58 0 hO clX12 (by decide) rfl lkF_SG_14 (d_SG_tapeIsImage 28 55 (.getfield 14) 3 rfl) rfl ?_
        refine Ak_iload_n 59 1 (d_SG_tapeIsImage 29 58 (.iload_n 1) 1 rfl) rfl rfl rfl ?_
        refine Ak_iconst 60 (d_SG_tapeIsImage 30 59 (.iconst 1) 1 rfl) rfl (rk rfl) ?_
        refine Ak_isub 61 (d_SG_tapeIsImage 31 60 (.isub) 1 rfl) rfl ?_
        obtain ⟨r7, V8, h9, h⟩ := bnd_some h
        refine Ak_cV1 64 2 (c_Bytes_at h9) rfl hg2 clX0 rfl mok_Bytes_at lkM_SG_276 (d_SG_tapeIsImage 32 61 (.invokevirtual 276) 3 rfl) rfl (by decide) (Nat.le_of_ble_eq_true rfl) ?_
        refine Ak_aload_n 65 0 (d_SG_tapeIsImage 33 64 (.aload_n 0) 1 rfl) rfl rfl rfl ?_
        refine Ak_getF 68 0 hO clX12 (by decide) rfl lkF_SG_14 (d_SG_tapeIsImage 34 65 (.getfield 14) 3 rfl) rfl ?_
        refine Ak_iload_n 69 1 (d_SG_tapeIsImage 35 68 (.iload_n 1) 1 rfl) rfl rfl rfl ?_
        refine Ak_iconst 70 (d_SG_tapeIsImage 36 69 (.iconst 1) 1 rfl) rfl (rk rfl) ?_
        refine Ak_isub 71 (d_SG_tapeIsImage 37 70 (.isub) 1 rfl) rfl ?_
        obtain ⟨r10, V11, h12, h⟩ := bnd_some h
        refine Ak_cV1 74 2 (c_Bytes_checkOfFirst h12) rfl hg2 clX0 rfl mok_Bytes_checkOfFirst lkM_SG_350 (d_SG_tapeIsImage 38 71 (.invokevirtual 350) 3 rfl) rfl (by decide) (Nat.le_of_ble_eq_true rfl) ?_
        refine Ak_icmp_ne 95 77 (d_SG_tapeIsImage 39 74 (.if_icmp .ne 21) 3 rfl) rfl rfl (fun hc => ?_) (fun hc => ?_)
        · replace h := it_f hc h
          refine Ak_iconst 96 (d_SG_tapeIsImage 48 95 (.iconst 0) 1 rfl) rfl (rk rfl) ?_
          cases h
          exact Ak_zret (Or.inl rfl) rfl (d_SG_tapeIsImage 49 96 (.ireturn) 1 rfl)
        · replace h := it_t hc h
          refine Ak_aload_n 78 0 (d_SG_tapeIsImage 40 77 (.aload_n 0) 1 rfl) rfl rfl rfl ?_
          obtain ⟨r13, V14, h15, h⟩ := bnd_some h
          refine Ak_cV1 81 5 (c_SG_tapeHasRules h15) rfl hO clX12 rfl mok_SG_tapeHasRules lkM_SG_378 (d_SG_tapeIsImage 41 78 (.invokevirtual 378) 3 rfl) rfl (by decide) (Nat.le_of_ble_eq_true rfl) ?_
          refine Ak_if_eq 95 84 (d_SG_tapeIsImage 42 81 (.ifCond .eq 14) 3 rfl) rfl rfl (fun hc => ?_) (fun hc => ?_)
          · replace h := it_t hc h
            refine Ak_iconst 96 (d_SG_tapeIsImage 48 95 (.iconst 0) 1 rfl) rfl (rk rfl) ?_
            cases h
            exact Ak_zret (Or.inl rfl) rfl (d_SG_tapeIsImage 49 96 (.ireturn) 1 rfl)
          · replace h := it_f hc h
            refine Ak_aload_n 85 0 (d_SG_tapeIsImage 43 84 (.aload_n 0) 1 rfl) rfl rfl rfl ?_
            obtain ⟨r16, V17, h18, h⟩ := bnd_some h
            refine Ak_cV1 88 3 (c_SG_tapeHasPlayers h18) rfl hO clX12 rfl mok_SG_tapeHasPlayers lkM_SG_381 (d_SG_tapeIsImage 44 85 (.invokevirtual 381) 3 rfl) rfl (by decide) (Nat.le_of_ble_eq_true rfl) ?_
            refine Ak_if_eq 95 91 (d_SG_tapeIsImage 45 88 (.ifCond .eq 7) 3 rfl) rfl rfl (fun hc => ?_) (fun hc => ?_)
            · replace h := it_t hc h
              refine Ak_iconst 96 (d_SG_tapeIsImage 48 95 (.iconst 0) 1 rfl) rfl (rk rfl) ?_
              cases h
              exact Ak_zret (Or.inl rfl) rfl (d_SG_tapeIsImage 49 96 (.ireturn) 1 rfl)
            · replace h := it_f hc h
              refine Ak_iconst 92 (d_SG_tapeIsImage 46 91 (.iconst 1) 1 rfl) rfl (rk rfl) ?_
              refine Ak_goto 96 (d_SG_tapeIsImage 47 92 (.goto 4) 3 rfl) rfl ?_
              cases h
              exact Ak_zret (Or.inr rfl) rfl (d_SG_tapeIsImage 49 96 (.ireturn) 1 rfl)
      · replace h := it_f hc h
        refine Ak_iconst 53 (d_SG_tapeIsImage 25 52 (.iconst 0) 1 rfl) rfl (rk rfl) ?_
        cases h
        exact Ak_zret (Or.inl rfl) rfl (d_SG_tapeIsImage 26 53 (.ireturn) 1 rfl)
theorem t_SG_takeImage_L2 {S : ASh} {x0 : Int} (hO : isO S x0 12 = true) : ∀ (n : Nat) (V : ASt) (x1 : Int) (r : Int) (V' : ASt), b_SG_takeImage_L2 S x0 n V x1 = some (r, V') → AWk m_SG_takeImage 7 0 0 0 0 2 [some (aR x0), some (aI x1)] [] S V none S V' := by
  intro n
  induction n with
  | zero => intro V x1 r V' h; cases h
  | succ n ih =>
    intro V x1 r V' h
    replace ih : ∀ {V : ASt} {x1 : Int} {r : Int} {V' : ASt}, b_SG_takeImage_L2 S x0 n V x1 = some (r, V') → AWk m_SG_takeImage 7 0 0 0 0 2 [some (aR x0), some (aI x1)] [] S V none S V' := fun h => ih _ _ _ _ h
    rw [b_SG_takeImage_L2] at h
    refine Ak_iload_n 3 1 (d_SG_takeImage 2 2 (.iload_n 1) 1 rfl) rfl rfl rfl ?_
    refine Ak_aload_n 4 0 (d_SG_takeImage 3 3 (.aload_n 0) 1 rfl) rfl rfl rfl ?_
    refine Ak_getR 7 1 hO clX12 (by decide) rfl lkF_SG_21 (d_SG_takeImage 4 4 (.getfield 21) 3 rfl) rfl ?_
    obtain ⟨hg1, h⟩ := gd_some h
    refine Ak_getI 10 2 hg1 clX1 (by decide) (Or.inl rfl) lkF_SG_170 (d_SG_takeImage 5 7 (.getfield 170) 3 rfl) rfl ?_
    refine Ak_icmp_ge 63 13 (d_SG_takeImage 6 10 (.if_icmp .ge 53) 3 rfl) rfl rfl (fun hc => ?_) (fun hc => ?_)
    · replace h := it_t hc h
      refine Ak_iconst 64 (d_SG_takeImage 37 63 (.iconst 1) 1 rfl) rfl (rk rfl) ?_
      refine Ak_iconst 65 (d_SG_takeImage 38 64 (.iconst 3) 1 rfl) rfl (rk rfl) ?_
      refine Ak_aload_n 66 0 (d_SG_takeImage 39 65 (.aload_n 0) 1 rfl) rfl rfl rfl ?_
      refine Ak_getR 69 1 hO clX12 (by decide) rfl lkF_SG_21 (d_SG_takeImage 40 66 (.getfield 21) 3 rfl) rfl ?_
      refine Ak_getI 72 2 hg1 clX1 (by decide) (Or.inl rfl) lkF_SG_170 (d_SG_takeImage 41 69 (.getfield 170) 3 rfl) rfl ?_
      refine Ak_imul 73 (d_SG_takeImage 42 72 (.imul) 1 rfl) rfl ?_
      refine Ak_iadd 74 (d_SG_takeImage 43 73 (.iadd) 1 rfl) rfl ?_
      refine Ak_istore_n 75 1 (d_SG_takeImage 44 74 (.istore_n 1) 1 rfl) rfl rfl (by decide) ?_
      refine Ak_aload_n 76 0 (d_SG_takeImage 45 75 (.aload_n 0) 1 rfl) rfl rfl rfl ?_
      refine Ak_aload_n 77 0 (d_SG_takeImage 46 76 (.aload_n 0) 1 rfl) rfl rfl rfl ?_
      refine Ak_getF 80 0 hO clX12 (by decide) rfl lkF_SG_14 (d_SG_takeImage 47 77 (.getfield 14) 3 rfl) rfl ?_
      refine Ak_iload_n 81 1 (d_SG_takeImage 48 80 (.iload_n 1) 1 rfl) rfl rfl rfl ?_
      obtain ⟨hg5, h⟩ := gd_some h
      obtain ⟨r2, V3, h4, h⟩ := bnd_some h
      refine Ak_cV1 84 2 (c_Bytes_at h4) rfl hg5 clX0 rfl mok_Bytes_at lkM_SG_276 (d_SG_takeImage 49 81 (.invokevirtual 276) 3 rfl) rfl (by decide) (Nat.le_of_ble_eq_true rfl) ?_
      refine Ak_sipush 87 (d_SG_takeImage 50 84 (.sipush 256) 3 rfl) rfl (sp_ok rfl) (rk rfl) ?_
      refine Ak_imul 88 (d_SG_takeImage 51 87 (.imul) 1 rfl) rfl ?_
      refine Ak_aload_n 89 0 (d_SG_takeImage 52 88 (.aload_n 0) 1 rfl) rfl rfl rfl ?_
      refine Ak_getF 92 0 hO clX12 (by decide) rfl lkF_SG_14 (d_SG_takeImage 53 89 (.getfield 14) 3 rfl) rfl ?_
      refine Ak_iload_n 93 1 (d_SG_takeImage 54 92 (.iload_n 1) 1 rfl) rfl rfl rfl ?_
      refine Ak_iconst 94 (d_SG_takeImage 55 93 (.iconst 1) 1 rfl) rfl (rk rfl) ?_
      refine Ak_iadd 95 (d_SG_takeImage 56 94 (.iadd) 1 rfl) rfl ?_
      obtain ⟨r6, V7, h8, h⟩ := bnd_some h
      refine Ak_cV1 98 2 (c_Bytes_at h8) rfl hg5 clX0 rfl mok_Bytes_at lkM_SG_276 (d_SG_takeImage 57 95 (.invokevirtual 276) 3 rfl) rfl (by decide) (Nat.le_of_ble_eq_true rfl) ?_
      refine Ak_iadd 99 (d_SG_takeImage 58 98 (.iadd) 1 rfl) rfl ?_
      refine Ak_putI 102 17 hO clX12 (by decide) rfl rfl rfl lkF_SG_110 (d_SG_takeImage 59 99 (.putfield 110) 3 rfl) rfl (fun V9 hV9 => ?_)
      replace h := wV_some h V9 hV9
      refine Ak_aload_n 103 0 (d_SG_takeImage 60 102 (.aload_n 0) 1 rfl) rfl rfl rfl ?_
      refine Ak_getF 106 16 hO clX12 (by decide) rfl lkF_SG_107 (d_SG_takeImage 61 103 (.getfield 107) 3 rfl) rfl ?_
      refine Ak_iconst 107 (d_SG_takeImage 62 106 (.iconst 0) 1 rfl) rfl (rk rfl) ?_
      refine Ak_aload_n 108 0 (d_SG_takeImage 63 107 (.aload_n 0) 1 rfl) rfl rfl rfl ?_
      refine Ak_getF 111 0 hO clX12 (by decide) rfl lkF_SG_14 (d_SG_takeImage 64 108 (.getfield 14) 3 rfl) rfl ?_
      refine Ak_iload_n 112 1 (d_SG_takeImage 65 111 (.iload_n 1) 1 rfl) rfl rfl rfl ?_
      refine Ak_iconst 113 (d_SG_takeImage 66 112 (.iconst 2) 1 rfl) rfl (rk rfl) ?_
      refine Ak_iadd 114 (d_SG_takeImage 67 113 (.iadd) 1 rfl) rfl ?_
      obtain ⟨r10, V11, h12, h⟩ := bnd_some h
      refine Ak_cV1 117 2 (c_Bytes_at h12) rfl hg5 clX0 rfl mok_Bytes_at lkM_SG_276 (d_SG_takeImage 68 114 (.invokevirtual 276) 3 rfl) rfl (by decide) (Nat.le_of_ble_eq_true rfl) ?_
      obtain ⟨ha13, h⟩ := gd_some h
      refine Ak_iastore 118 ha13 (d_SG_takeImage 69 117 (.iastore) 1 rfl) rfl (fun V14 hV14 => ?_)
      replace h := wV_some h V14 hV14
      refine Ak_aload_n 119 0 (d_SG_takeImage 70 118 (.aload_n 0) 1 rfl) rfl rfl rfl ?_
      refine Ak_getF 122 16 hO clX12 (by decide) rfl lkF_SG_107 (d_SG_takeImage 71 119 (.getfield 107) 3 rfl) rfl ?_
      refine Ak_iconst 123 (d_SG_takeImage 72 122 (.iconst 1) 1 rfl) rfl (rk rfl) ?_
      refine Ak_aload_n 124 0 (d_SG_takeImage 73 123 (.aload_n 0) 1 rfl) rfl rfl rfl ?_
      refine Ak_getF 127 0 hO clX12 (by decide) rfl lkF_SG_14 (d_SG_takeImage 74 124 (.getfield 14) 3 rfl) rfl ?_
      refine Ak_iload_n 128 1 (d_SG_takeImage 75 127 (.iload_n 1) 1 rfl) rfl rfl rfl ?_
      refine Ak_iconst 129 (d_SG_takeImage 76 128 (.iconst 3) 1 rfl) rfl (rk rfl) ?_
      refine Ak_iadd 130 (d_SG_takeImage 77 129 (.iadd) 1 rfl) rfl ?_
      obtain ⟨r15, V16, h17, h⟩ := bnd_some h
      refine Ak_cV1 133 2 (c_Bytes_at h17) rfl hg5 clX0 rfl mok_Bytes_at lkM_SG_276 (d_SG_takeImage 78 130 (.invokevirtual 276) 3 rfl) rfl (by decide) (Nat.le_of_ble_eq_true rfl) ?_
      obtain ⟨ha18, h⟩ := gd_some h
      refine Ak_iastore 134 ha18 (d_SG_takeImage 79 133 (.iastore) 1 rfl) rfl (fun V19 hV19 => ?_)
      replace h := wV_some h V19 hV19
      refine Ak_aload_n 135 0 (d_SG_takeImage 80 134 (.aload_n 0) 1 rfl) rfl rfl rfl ?_
      refine Ak_getF 138 15 hO clX12 (by decide) rfl lkF_SG_103 (d_SG_takeImage 81 135 (.getfield 103) 3 rfl) rfl ?_
      refine Ak_iconst 139 (d_SG_takeImage 82 138 (.iconst 0) 1 rfl) rfl (rk rfl) ?_
      refine Ak_aload_n 140 0 (d_SG_takeImage 83 139 (.aload_n 0) 1 rfl) rfl rfl rfl ?_
      refine Ak_getF 143 0 hO clX12 (by decide) rfl lkF_SG_14 (d_SG_takeImage 84 140 (.getfield 14) 3 rfl) rfl ?_
      refine Ak_iload_n 144 1 (d_SG_takeImage 85 143 (.iload_n 1) 1 rfl) rfl rfl rfl ?_
      refine Ak_iconst 145 (d_SG_takeImage 86 144 (.iconst 4) 1 rfl) rfl (rk rfl) ?_
      refine Ak_iadd 146 (d_SG_takeImage 87 145 (.iadd) 1 rfl) rfl ?_
      obtain ⟨r20, V21, h22, h⟩ := bnd_some h
      refine Ak_cV1 149 2 (c_Bytes_at h22) rfl hg5 clX0 rfl mok_Bytes_at lkM_SG_276 (d_SG_takeImage 88 146 (.invokevirtual 276) 3 rfl) rfl (by decide) (Nat.le_of_ble_eq_true rfl) ?_
      obtain ⟨ha23, h⟩ := gd_some h
      refine Ak_iastore 150 ha23 (d_SG_takeImage 89 149 (.iastore) 1 rfl) rfl (fun V24 hV24 => ?_)
      replace h := wV_some h V24 hV24
      refine Ak_aload_n 151 0 (d_SG_takeImage 90 150 (.aload_n 0) 1 rfl) rfl rfl rfl ?_
      refine Ak_getF 154 15 hO clX12 (by decide) rfl lkF_SG_103 (d_SG_takeImage 91 151 (.getfield 103) 3 rfl) rfl ?_
      refine Ak_iconst 155 (d_SG_takeImage 92 154 (.iconst 1) 1 rfl) rfl (rk rfl) ?_
      refine Ak_aload_n 156 0 (d_SG_takeImage 93 155 (.aload_n 0) 1 rfl) rfl rfl rfl ?_
      refine Ak_getF 159 0 hO clX12 (by decide) rfl lkF_SG_14 (d_SG_takeImage 94 156 (.getfield 14) 3 rfl) rfl ?_
      refine Ak_iload_n 160 1 (d_SG_takeImage 95 159 (.iload_n 1) 1 rfl) rfl rfl rfl ?_
      refine Ak_iconst 161 (d_SG_takeImage 96 160 (.iconst 5) 1 rfl) rfl (rk rfl) ?_
      refine Ak_iadd 162 (d_SG_takeImage 97 161 (.iadd) 1 rfl) rfl ?_
      obtain ⟨r25, V26, h27, h⟩ := bnd_some h
      refine Ak_cV1 165 2 (c_Bytes_at h27) rfl hg5 clX0 rfl mok_Bytes_at lkM_SG_276 (d_SG_takeImage 98 162 (.invokevirtual 276) 3 rfl) rfl (by decide) (Nat.le_of_ble_eq_true rfl) ?_
      obtain ⟨ha28, h⟩ := gd_some h
      refine Ak_iastore 166 ha28 (d_SG_takeImage 99 165 (.iastore) 1 rfl) rfl (fun V29 hV29 => ?_)
      replace h := wV_some h V29 hV29
      refine Ak_aload_n 167 0 (d_SG_takeImage 100 166 (.aload_n 0) 1 rfl) rfl rfl rfl ?_
      refine Ak_getF 170 6 hO clX12 (by decide) rfl lkF_SG_54 (d_SG_takeImage 101 167 (.getfield 54) 3 rfl) rfl ?_
      refine Ak_iconst 171 (d_SG_takeImage 102 170 (.iconst 0) 1 rfl) rfl (rk rfl) ?_
      obtain ⟨hg30, h⟩ := gd_some h
      refine Ak_putI 174 0 hg30 clX2 (by decide) rfl rfl rfl lkF_SG_148 (d_SG_takeImage 103 171 (.putfield 148) 3 rfl) rfl (fun V31 hV31 => ?_)
      replace h := wV_some h V31 hV31
      refine Ak_aload_n 175 0 (d_SG_takeImage 104 174 (.aload_n 0) 1 rfl) rfl rfl rfl ?_
      obtain ⟨r32, V33, h34, h⟩ := bnd_some h
      refine Ak_cV0 178 6 (c_SG_startAnew h34) rfl hO clX12 rfl mok_SG_startAnew lkM_SG_120 (d_SG_takeImage 105 175 (.invokevirtual 120) 3 rfl) rfl (by decide) (Nat.le_of_ble_eq_true rfl) ?_
      cases h
      exact Ak_vret rfl (d_SG_takeImage 106 178 (.return_) 1 rfl)
    · replace h := it_f hc h
      refine Ak_aload_n 14 0 (d_SG_takeImage 7 13 (.aload_n 0) 1 rfl) rfl rfl rfl ?_
      refine Ak_getF 17 4 hO clX12 (by decide) rfl lkF_SG_40 (d_SG_takeImage 8 14 (.getfield 40) 3 rfl) rfl ?_
      refine Ak_iload_n 18 1 (d_SG_takeImage 9 17 (.iload_n 1) 1 rfl) rfl rfl rfl ?_
      refine Ak_aload_n 19 0 (d_SG_takeImage 10 18 (.aload_n 0) 1 rfl) rfl rfl rfl ?_
      refine Ak_getF 22 0 hO clX12 (by decide) rfl lkF_SG_14 (d_SG_takeImage 11 19 (.getfield 14) 3 rfl) rfl ?_
      refine Ak_iconst 23 (d_SG_takeImage 12 22 (.iconst 1) 1 rfl) rfl (rk rfl) ?_
      refine Ak_iconst 24 (d_SG_takeImage 13 23 (.iconst 3) 1 rfl) rfl (rk rfl) ?_
      refine Ak_iload_n 25 1 (d_SG_takeImage 14 24 (.iload_n 1) 1 rfl) rfl rfl rfl ?_
      refine Ak_imul 26 (d_SG_takeImage 15 25 (.imul) 1 rfl) rfl ?_
      refine Ak_iadd 27 (d_SG_takeImage 16 26 (.iadd) 1 rfl) rfl ?_
      obtain ⟨hg38, h⟩ := gd_some h
      obtain ⟨r35, V36, h37, h⟩ := bnd_some h
      refine Ak_cV1 30 2 (c_Bytes_at h37) rfl hg38 clX0 rfl mok_Bytes_at lkM_SG_276 (d_SG_takeImage 17 27 (.invokevirtual 276) 3 rfl) rfl (by decide) (Nat.le_of_ble_eq_true rfl) ?_
      refine Ak_aload_n 31 0 (d_SG_takeImage 18 30 (.aload_n 0) 1 rfl) rfl rfl rfl ?_
      refine Ak_getF 34 0 hO clX12 (by decide) rfl lkF_SG_14 (d_SG_takeImage 19 31 (.getfield 14) 3 rfl) rfl ?_
      refine Ak_iconst 35 (d_SG_takeImage 20 34 (.iconst 2) 1 rfl) rfl (rk rfl) ?_
      refine Ak_iconst 36 (d_SG_takeImage 21 35 (.iconst 3) 1 rfl) rfl (rk rfl) ?_
      refine Ak_iload_n 37 1 (d_SG_takeImage 22 36 (.iload_n 1) 1 rfl) rfl rfl rfl ?_
      refine Ak_imul 38 (d_SG_takeImage 23 37 (.imul) 1 rfl) rfl ?_
      refine Ak_iadd 39 (d_SG_takeImage 24 38 (.iadd) 1 rfl) rfl ?_
      obtain ⟨r39, V40, h41, h⟩ := bnd_some h
      refine Ak_cV1 42 2 (c_Bytes_at h41) rfl hg38 clX0 rfl mok_Bytes_at lkM_SG_276 (d_SG_takeImage 25 39 (.invokevirtual 276) 3 rfl) rfl (by decide) (Nat.le_of_ble_eq_true rfl) ?_
      refine Ak_aload_n 43 0 (d_SG_takeImage 26 42 (.aload_n 0) 1 rfl) rfl rfl rfl ?_
      refine Ak_getF 46 0 hO clX12 (by decide) rfl lkF_SG_14 (d_SG_takeImage 27 43 (.getfield 14) 3 rfl) rfl ?_
      refine Ak_iconst 47 (d_SG_takeImage 28 46 (.iconst 3) 1 rfl) rfl (rk rfl) ?_
      refine Ak_iconst 48 (d_SG_takeImage 29 47 (.iconst 3) 1 rfl) rfl (rk rfl) ?_
      refine Ak_iload_n 49 1 (d_SG_takeImage 30 48 (.iload_n 1) 1 rfl) rfl rfl rfl ?_
      refine Ak_imul 50 (d_SG_takeImage 31 49 (.imul) 1 rfl) rfl ?_
      refine Ak_iadd 51 (d_SG_takeImage 32 50 (.iadd) 1 rfl) rfl ?_
      obtain ⟨r42, V43, h44, h⟩ := bnd_some h
      refine Ak_cV1 54 2 (c_Bytes_at h44) rfl hg38 clX0 rfl mok_Bytes_at lkM_SG_276 (d_SG_takeImage 33 51 (.invokevirtual 276) 3 rfl) rfl (by decide) (Nat.le_of_ble_eq_true rfl) ?_
      obtain ⟨hg48, h⟩ := gd_some h
      obtain ⟨r45, V46, h47, h⟩ := bnd_some h
      refine Ak_cV0 57 4 (c_Slate_setPlace h47) rfl hg48 clX6 rfl mok_Slate_setPlace lkM_SG_391 (d_SG_takeImage 34 54 (.invokevirtual 391) 3 rfl) rfl (by decide) (Nat.le_of_ble_eq_true rfl) ?_
      refine Ak_iinc 60 (d_SG_takeImage 35 57 (.iinc 1 1) 3 rfl) rfl rfl (by decide) ?_
      refine Ak_goto 2 (d_SG_takeImage 36 60 (.goto (-58)) 3 rfl) rfl ?_
      refine Ak_keep [true, true] ?_
      exact ih h
theorem c_SG_takeImage {S : ASh} {V : ASt} {x0 : Int} {r : Int} {V' : ASt} (h : f_SG_takeImage S V x0 = some (r, V')) : ACt m_SG_takeImage 7 0 0 [(aR x0)] S V none S V' := by
  unfold f_SG_takeImage at h
  obtain ⟨hO, h⟩ := gd_some h
  refine ACt_of (plainFor_of_name rfl) rfl (Nat.le_of_ble_eq_true rfl) ?_
  show AWk m_SG_takeImage 7 0 0 0 0 0 [some (aR x0)] [] S V none S V'
  refine Ak_iconst 1 (d_SG_takeImage 0 0 (.iconst 0) 1 rfl) rfl (rk rfl) ?_
  refine Ak_istore_n 2 1 (d_SG_takeImage 1 1 (.istore_n 1) 1 rfl) rfl rfl (by decide) ?_
  refine Ak_keep [true, true] ?_
  exact t_SG_takeImage_L2 hO FU _ _ _ _ h
theorem t_SG_on_J21 {S : ASh} {V : ASt} {x0 x1 : Int} {r : Int} {V' : ASt} (hO : isO S x0 12 = true) (h : b_SG_on_J21 S  V x0 x1 = some (r, V')) : AWk m_SG_on 8 0 0 0 0 21 [some (aR x0), some (aI x1)] [] S V (some (aI r)) S V' := by
  unfold b_SG_on_J21 at h
  refine Ak_aload_n 22 0 (d_SG_on 11 21 (.aload_n 0) 1 rfl) rfl rfl rfl ?_
  refine Ak_getF 25 0 hO clX12 (by decide) rfl lkF_SG_14 (d_SG_on 12 22 (.getfield 14) 3 rfl) rfl ?_
  refine Ak_iconst 26 (d_SG_on 13 25 (.iconst 0) 1 rfl) rfl (rk rfl) ?_
  obtain ⟨hg1, h⟩ := gd_some h
  refine Ak_putI 29 0 hg1 clX0 (by decide) rfl rfl rfl lkF_SG_123 (d_SG_on 14 26 (.putfield 123) 3 rfl) rfl (fun V2 hV2 => ?_)
  replace h := wV_some h V2 hV2
  refine Ak_iload_n 30 1 (d_SG_on 15 29 (.iload_n 1) 1 rfl) rfl rfl rfl ?_
  obtain ⟨hb3, h⟩ := gd_some h
  cases h
  exact Ak_zret (dec_t hb3) rfl (d_SG_on 16 30 (.ireturn) 1 rfl)
theorem c_SG_on {S : ASh} {V : ASt} {x0 : Int} {r : Int} {V' : ASt} (h : f_SG_on S V x0 = some (r, V')) : ACt m_SG_on 8 0 0 [(aR x0)] S V (some (aI r)) S V' := by
  unfold f_SG_on at h
  obtain ⟨hO, h⟩ := gd_some h
  refine ACt_of (plainFor_of_name rfl) rfl (Nat.le_of_ble_eq_true rfl) ?_
  show AWk m_SG_on 8 0 0 0 0 0 [some (aR x0)] [] S V (some (aI r)) S V'
  refine Ak_aload_n 1 0 (d_SG_on 0 0 (.aload_n 0) 1 rfl) rfl rfl rfl ?_
  obtain ⟨r4, V5, h6, h⟩ := bnd_some h
  refine Ak_cV1 4 6 (c_SG_tapeIsImage h6) rfl hO clX12 rfl mok_SG_tapeIsImage lkM_SG_353 (d_SG_on 1 1 (.invokevirtual 353) 3 rfl) rfl (by decide) (Nat.le_of_ble_eq_true rfl) ?_
  refine Ak_istore_n 5 1 (d_SG_on 2 4 (.istore_n 1) 1 rfl) rfl rfl (by decide) ?_
  refine Ak_iload_n 6 1 (d_SG_on 3 5 (.iload_n 1) 1 rfl) rfl rfl rfl ?_
  refine Ak_if_eq 16 9 (d_SG_on 4 6 (.ifCond .eq 10) 3 rfl) rfl rfl (fun hc => ?_) (fun hc => ?_)
  · replace h := it_t hc h
    refine Ak_aload_n 17 0 (d_SG_on 8 16 (.aload_n 0) 1 rfl) rfl rfl rfl ?_
    refine Ak_iconst 18 (d_SG_on 9 17 (.iconst 5) 1 rfl) rfl (rk rfl) ?_
    obtain ⟨r7, V8, h9, h⟩ := bnd_some h
    refine Ak_cV0 21 2 (c_SG_refuse h9) rfl hO clX12 rfl mok_SG_refuse lkM_SG_126 (d_SG_on 10 18 (.invokevirtual 126) 3 rfl) rfl (by decide) (Nat.le_of_ble_eq_true rfl) ?_
    refine Ak_keep [true, true] ?_
    exact t_SG_on_J21 hO h
  · replace h := it_f hc h
    refine Ak_aload_n 10 0 (d_SG_on 5 9 (.aload_n 0) 1 rfl) rfl rfl rfl ?_
    obtain ⟨r10, V11, h12, h⟩ := bnd_some h
    refine Ak_cV0 13 7 (c_SG_takeImage h12) rfl hO clX12 rfl mok_SG_takeImage lkM_SG_357 (d_SG_on 6 10 (.invokevirtual 357) 3 rfl) rfl (by decide) (Nat.le_of_ble_eq_true rfl) ?_
    refine Ak_goto 21 (d_SG_on 7 13 (.goto 8) 3 rfl) rfl ?_
    refine Ak_keep [true, true] ?_
    exact t_SG_on_J21 hO h
theorem c_SG_status {S : ASh} {V : ASt} {x0 x1 : Int} {r : Int} {V' : ASt} (h : f_SG_status S V x0 x1 = some (r, V')) : ACt m_SG_status 2 0 0 [(aR x0), (aI x1)] S V (some (aI r)) S V' := by
  unfold f_SG_status at h
  obtain ⟨hO, h⟩ := gd_some h
  refine ACt_of (plainFor_of_name rfl) rfl (Nat.le_of_ble_eq_true rfl) ?_
  show AWk m_SG_status 2 0 0 0 0 0 [some (aR x0), some (aI x1)] [] S V (some (aI r)) S V'
  refine Ak_iload_n 1 1 (d_SG_status 0 0 (.iload_n 1) 1 rfl) rfl rfl rfl ?_
  refine Ak_if_lt 19 4 (d_SG_status 1 1 (.ifCond .lt 18) 3 rfl) rfl rfl (fun hc => ?_) (fun hc => ?_)
  · replace h := it_t hc h
    refine Ak_iconst 20 (d_SG_status 10 19 (.iconst (-1)) 1 rfl) rfl (rk rfl) ?_
    cases h
    exact Ak_iret rfl (d_SG_status 11 20 (.ireturn) 1 rfl)
  · replace h := it_f hc h
    refine Ak_iload_n 5 1 (d_SG_status 2 4 (.iload_n 1) 1 rfl) rfl rfl rfl ?_
    refine Ak_bipush 7 (d_SG_status 3 5 (.bipush 6) 2 rfl) rfl (bp_ok rfl) (rk rfl) ?_
    refine Ak_icmp_ge 19 10 (d_SG_status 4 7 (.if_icmp .ge 12) 3 rfl) rfl rfl (fun hc => ?_) (fun hc => ?_)
    · replace h := it_t hc h
      refine Ak_iconst 20 (d_SG_status 10 19 (.iconst (-1)) 1 rfl) rfl (rk rfl) ?_
      cases h
      exact Ak_iret rfl (d_SG_status 11 20 (.ireturn) 1 rfl)
    · replace h := it_f hc h
      refine Ak_aload_n 11 0 (d_SG_status 5 10 (.aload_n 0) 1 rfl) rfl rfl rfl ?_
      refine Ak_getF 14 19 hO clX12 (by decide) rfl lkF_SG_117 (d_SG_status 6 11 (.getfield 117) 3 rfl) rfl ?_
      refine Ak_iload_n 15 1 (d_SG_status 7 14 (.iload_n 1) 1 rfl) rfl rfl rfl ?_
      obtain ⟨ha1, h⟩ := gd_some h
      refine Ak_iaload 16 ha1 (d_SG_status 8 15 (.iaload) 1 rfl) rfl ?_
      refine Ak_goto 20 (d_SG_status 9 16 (.goto 4) 3 rfl) rfl ?_
      cases h
      exact Ak_iret rfl (d_SG_status 11 20 (.ireturn) 1 rfl)
