theorem ci_Bytes_init1800 {S : ASh} {V : ASt} {x0 : Int} {S' : ASh} {V' : ASt} (h : g_Bytes_init1800 S V x0 = some (S', V')) : ACt m_Bytes_init 3 1 1800 [(aR x0), (aI 1800)] S V none S' V' := by
  unfold g_Bytes_init1800 at h
  refine ACt_of (plainFor_of_name rfl) rfl (Nat.le_of_ble_eq_true rfl) ?_
  show AWk m_Bytes_init 3 1 1800 0 0 0 [some (aR x0), some (aI 1800)] [] S V none S' V'
  refine Ak_aload_n 1 0 (d_Bytes_init 0 0 (.aload_n 0) 1 rfl) rfl rfl rfl ?_
  obtain ⟨hg1, h⟩ := gd_some h
  refine Ak_objInit 4 (isO_nn hg1) lkM_Bytes_3 lk_oi (d_Bytes_init 1 1 (.invokespecial 3) 3 rfl) rfl (by decide) (Nat.le_of_ble_eq_true rfl) ?_
  refine Ak_aload_n 5 0 (d_Bytes_init 2 4 (.aload_n 0) 1 rfl) rfl rfl rfl ?_
  refine Ak_iconst 6 (d_Bytes_init 3 5 (.iconst 0) 1 rfl) rfl (rk rfl) ?_
  refine Ak_putI 9 0 hg1 clX0 (by decide) rfl rfl rfl lkF_Bytes_9 (d_Bytes_init 4 6 (.putfield 9) 3 rfl) rfl (fun V2 hV2 => ?_)
  replace h := wV_some h V2 hV2
  refine Ak_aload_n 10 0 (d_Bytes_init 5 9 (.aload_n 0) 1 rfl) rfl rfl rfl ?_
  refine Ak_iload_n 11 1 (d_Bytes_init 6 10 (.iload_n 1) 1 rfl) rfl rfl rfl ?_
  refine Ak_iconst 12 (d_Bytes_init 7 11 (.iconst 0) 1 rfl) rfl (rk rfl) ?_
  refine Ak_gS1 15 2 (c_Math_max_II (V' := V2) (r := 1800) (show f_Math_max_II S V2 1800 0 = some (1800, V2) from rfl)) rfl mok_Math_max_II lkM_Bytes_15 (d_Bytes_init 8 12 (.invokestatic 15) 3 rfl) rfl (by decide) (by decide) (Nat.le_of_ble_eq_true rfl) ?_
  refine Ak_newaI 17 lk_arr0 (by decide) (by decide) (d_Bytes_init 9 15 (.newarray .int) 2 rfl) rfl (by decide) (by decide) (fun S3 V4 hS3 hV4 => ?_)
  replace h := wV_some (wS_some h S3 hS3) V4 hV4
  obtain ⟨hg5, h⟩ := gd_some h
  refine Ak_putF 20 1 hg5 clX0 (by decide) rfl rfl (fun o => by cases o <;> exact ⟨rfl, rfl⟩) rfl rfl lkF_Bytes_21 (d_Bytes_init 10 17 (.putfield 21) 3 rfl) rfl (fun S6 hS6 => ?_)
  replace h := wS_some h S6 hS6
  cases h
  exact Ak_vret rfl (d_Bytes_init 11 20 (.return_) 1 rfl)
theorem ci_Bytes_init44 {S : ASh} {V : ASt} {x0 : Int} {S' : ASh} {V' : ASt} (h : g_Bytes_init44 S V x0 = some (S', V')) : ACt m_Bytes_init 3 1 44 [(aR x0), (aI 44)] S V none S' V' := by
  unfold g_Bytes_init44 at h
  refine ACt_of (plainFor_of_name rfl) rfl (Nat.le_of_ble_eq_true rfl) ?_
  show AWk m_Bytes_init 3 1 44 0 0 0 [some (aR x0), some (aI 44)] [] S V none S' V'
  refine Ak_aload_n 1 0 (d_Bytes_init 0 0 (.aload_n 0) 1 rfl) rfl rfl rfl ?_
  obtain ⟨hg1, h⟩ := gd_some h
  refine Ak_objInit 4 (isO_nn hg1) lkM_Bytes_3 lk_oi (d_Bytes_init 1 1 (.invokespecial 3) 3 rfl) rfl (by decide) (Nat.le_of_ble_eq_true rfl) ?_
  refine Ak_aload_n 5 0 (d_Bytes_init 2 4 (.aload_n 0) 1 rfl) rfl rfl rfl ?_
  refine Ak_iconst 6 (d_Bytes_init 3 5 (.iconst 0) 1 rfl) rfl (rk rfl) ?_
  refine Ak_putI 9 0 hg1 clX0 (by decide) rfl rfl rfl lkF_Bytes_9 (d_Bytes_init 4 6 (.putfield 9) 3 rfl) rfl (fun V2 hV2 => ?_)
  replace h := wV_some h V2 hV2
  refine Ak_aload_n 10 0 (d_Bytes_init 5 9 (.aload_n 0) 1 rfl) rfl rfl rfl ?_
  refine Ak_iload_n 11 1 (d_Bytes_init 6 10 (.iload_n 1) 1 rfl) rfl rfl rfl ?_
  refine Ak_iconst 12 (d_Bytes_init 7 11 (.iconst 0) 1 rfl) rfl (rk rfl) ?_
  refine Ak_gS1 15 2 (c_Math_max_II (V' := V2) (r := 44) (show f_Math_max_II S V2 44 0 = some (44, V2) from rfl)) rfl mok_Math_max_II lkM_Bytes_15 (d_Bytes_init 8 12 (.invokestatic 15) 3 rfl) rfl (by decide) (by decide) (Nat.le_of_ble_eq_true rfl) ?_
  refine Ak_newaI 17 lk_arr0 (by decide) (by decide) (d_Bytes_init 9 15 (.newarray .int) 2 rfl) rfl (by decide) (by decide) (fun S3 V4 hS3 hV4 => ?_)
  replace h := wV_some (wS_some h S3 hS3) V4 hV4
  obtain ⟨hg5, h⟩ := gd_some h
  refine Ak_putF 20 1 hg5 clX0 (by decide) rfl rfl (fun o => by cases o <;> exact ⟨rfl, rfl⟩) rfl rfl lkF_Bytes_21 (d_Bytes_init 10 17 (.putfield 21) 3 rfl) rfl (fun S6 hS6 => ?_)
  replace h := wS_some h S6 hS6
  cases h
  exact Ak_vret rfl (d_Bytes_init 11 20 (.return_) 1 rfl)
theorem ci_Tests_init {S : ASh} {V : ASt} {x0 : Int} {S' : ASh} {V' : ASt} (h : g_Tests_init S V x0 = some (S', V')) : ACt m_Tests_init 2 3 1877 [(aR x0)] S V none S' V' := by
  unfold g_Tests_init at h
  refine ACt_of (plainFor_of_name rfl) rfl (Nat.le_of_ble_eq_true rfl) ?_
  show AWk m_Tests_init 2 3 1877 0 0 0 [some (aR x0)] [] S V none S' V'
  refine Ak_aload_n 1 0 (d_Tests_init 0 0 (.aload_n 0) 1 rfl) rfl rfl rfl ?_
  obtain ⟨hg1, h⟩ := gd_some h
  refine Ak_objInit 4 (isO_nn hg1) lkM_Tests_3 lk_oi (d_Tests_init 1 1 (.invokespecial 3) 3 rfl) rfl (by decide) (Nat.le_of_ble_eq_true rfl) ?_
  refine Ak_aload_n 5 0 (d_Tests_init 2 4 (.aload_n 0) 1 rfl) rfl rfl rfl ?_
  refine Ak_sipush 8 (d_Tests_init 3 5 (.sipush 1800) 3 rfl) rfl (sp_ok rfl) (rk rfl) ?_
  refine Ak_newaI 10 lk_arr0 (by decide) (by decide) (d_Tests_init 4 8 (.newarray .int) 2 rfl) rfl (by decide) (by decide) (fun S2 V3 hS2 hV3 => ?_)
  replace h := wV_some (wS_some h S2 hS2) V3 hV3
  obtain ⟨hg4, h⟩ := gd_some h
  refine Ak_putF 13 0 hg4 clX8 (by decide) rfl rfl (fun o => by cases o <;> exact ⟨rfl, rfl⟩) rfl rfl lkF_Tests_9 (d_Tests_init 5 10 (.putfield 9) 3 rfl) rfl (fun S5 hS5 => ?_)
  replace h := wS_some h S5 hS5
  refine Ak_aload_n 14 0 (d_Tests_init 6 13 (.aload_n 0) 1 rfl) rfl rfl rfl ?_
  refine Ak_bipush 16 (d_Tests_init 7 14 (.bipush 13) 2 rfl) rfl (bp_ok rfl) (rk rfl) ?_
  refine Ak_newaI 18 lk_arr0 (by decide) (by decide) (d_Tests_init 8 16 (.newarray .int) 2 rfl) rfl (by decide) (by decide) (fun S6 V7 hS6 hV7 => ?_)
  replace h := wV_some (wS_some h S6 hS6) V7 hV7
  obtain ⟨hg8, h⟩ := gd_some h
  refine Ak_putF 21 1 hg8 clX8 (by decide) rfl rfl (fun o => by cases o <;> exact ⟨rfl, rfl⟩) rfl rfl lkF_Tests_15 (d_Tests_init 9 18 (.putfield 15) 3 rfl) rfl (fun S9 hS9 => ?_)
  replace h := wS_some h S9 hS9
  refine Ak_aload_n 22 0 (d_Tests_init 10 21 (.aload_n 0) 1 rfl) rfl rfl rfl ?_
  refine Ak_iconst 23 (d_Tests_init 11 22 (.iconst 0) 1 rfl) rfl (rk rfl) ?_
  obtain ⟨hg10, h⟩ := gd_some h
  refine Ak_putI 26 2 hg10 clX8 (by decide) rfl rfl rfl lkF_Tests_18 (d_Tests_init 12 23 (.putfield 18) 3 rfl) rfl (fun V11 hV11 => ?_)
  replace h := wV_some h V11 hV11
  refine Ak_aload_n 27 0 (d_Tests_init 13 26 (.aload_n 0) 1 rfl) rfl rfl rfl ?_
  refine Ak_iconst 28 (d_Tests_init 14 27 (.iconst 0) 1 rfl) rfl (rk rfl) ?_
  refine Ak_putI 31 3 hg10 clX8 (by decide) rfl rfl rfl lkF_Tests_22 (d_Tests_init 15 28 (.putfield 22) 3 rfl) rfl (fun V12 hV12 => ?_)
  replace h := wV_some h V12 hV12
  refine Ak_aload_n 32 0 (d_Tests_init 16 31 (.aload_n 0) 1 rfl) rfl rfl rfl ?_
  refine Ak_bipush 34 (d_Tests_init 17 32 (.bipush 64) 2 rfl) rfl (bp_ok rfl) (rk rfl) ?_
  refine Ak_newaI 36 lk_arr0 (by decide) (by decide) (d_Tests_init 18 34 (.newarray .int) 2 rfl) rfl (by decide) (by decide) (fun S13 V14 hS13 hV14 => ?_)
  replace h := wV_some (wS_some h S13 hS13) V14 hV14
  obtain ⟨hg15, h⟩ := gd_some h
  refine Ak_putF 39 4 hg15 clX8 (by decide) rfl rfl (fun o => by cases o <;> exact ⟨rfl, rfl⟩) rfl rfl lkF_Tests_25 (d_Tests_init 19 36 (.putfield 25) 3 rfl) rfl (fun S16 hS16 => ?_)
  replace h := wS_some h S16 hS16
  cases h
  exact Ak_vret rfl (d_Tests_init 20 39 (.return_) 1 rfl)
set_option maxRecDepth 100000 in
set_option maxHeartbeats 20000000 in
theorem ci_Game_init {S : ASh} {V : ASt} {x0 : Int} {S' : ASh} {V' : ASt} (h : g_Game_init S V x0 = some (S', V')) : ACt m_Game_init 3 15 6350 [(aR x0)] S V none S' V' := by
  unfold g_Game_init at h
  refine ACt_of (plainFor_of_name rfl) rfl (Nat.le_of_ble_eq_true rfl) ?_
  show AWk m_Game_init 3 15 6350 0 0 0 [some (aR x0)] [] S V none S' V'
  refine Ak_aload_n 1 0 (d_Game_init 0 0 (.aload_n 0) 1 rfl) rfl rfl rfl ?_
  obtain ⟨hg1, h⟩ := gd_some h
  refine Ak_objInit 4 (isO_nn hg1) lkM_Game_3 lk_oi (d_Game_init 1 1 (.invokespecial 3) 3 rfl) rfl (by decide) (Nat.le_of_ble_eq_true rfl) ?_
  refine Ak_aload_n 5 0 (d_Game_init 2 4 (.aload_n 0) 1 rfl) rfl rfl rfl ?_
  refine Ak_iconst 6 (d_Game_init 3 5 (.iconst 0) 1 rfl) rfl (rk rfl) ?_
  refine Ak_putI 9 0 hg1 clX1 (by decide) rfl rfl rfl lkF_Game_9 (d_Game_init 4 6 (.putfield 9) 3 rfl) rfl (fun V2 hV2 => ?_)
  replace h := wV_some h V2 hV2
  refine Ak_aload_n 10 0 (d_Game_init 5 9 (.aload_n 0) 1 rfl) rfl rfl rfl ?_
  refine Ak_iconst 11 (d_Game_init 6 10 (.iconst 0) 1 rfl) rfl (rk rfl) ?_
  refine Ak_putI 14 1 hg1 clX1 (by decide) rfl rfl rfl lkF_Game_15 (d_Game_init 7 11 (.putfield 15) 3 rfl) rfl (fun V3 hV3 => ?_)
  replace h := wV_some h V3 hV3
  refine Ak_aload_n 15 0 (d_Game_init 8 14 (.aload_n 0) 1 rfl) rfl rfl rfl ?_
  refine Ak_iconst 16 (d_Game_init 9 15 (.iconst 0) 1 rfl) rfl (rk rfl) ?_
  refine Ak_putI 19 2 hg1 clX1 (by decide) rfl rfl rfl lkF_Game_18 (d_Game_init 10 16 (.putfield 18) 3 rfl) rfl (fun V4 hV4 => ?_)
  replace h := wV_some h V4 hV4
  refine Ak_aload_n 20 0 (d_Game_init 11 19 (.aload_n 0) 1 rfl) rfl rfl rfl ?_
  refine Ak_iconst 21 (d_Game_init 12 20 (.iconst 0) 1 rfl) rfl (rk rfl) ?_
  refine Ak_putI 24 3 hg1 clX1 (by decide) rfl rfl rfl lkF_Game_21 (d_Game_init 13 21 (.putfield 21) 3 rfl) rfl (fun V5 hV5 => ?_)
  replace h := wV_some h V5 hV5
  refine Ak_aload_n 25 0 (d_Game_init 14 24 (.aload_n 0) 1 rfl) rfl rfl rfl ?_
  refine Ak_iconst 26 (d_Game_init 15 25 (.iconst 0) 1 rfl) rfl (rk rfl) ?_
  refine Ak_putI 29 4 hg1 clX1 (by decide) rfl rfl rfl lkF_Game_24 (d_Game_init 16 26 (.putfield 24) 3 rfl) rfl (fun V6 hV6 => ?_)
  replace h := wV_some h V6 hV6
  refine Ak_aload_n 30 0 (d_Game_init 17 29 (.aload_n 0) 1 rfl) rfl rfl rfl ?_
  refine Ak_new 33 clX8 lkC_Game_27 lkI_8 lkN_8 (d_Game_init 18 30 (.new 27) 3 rfl) rfl (by decide) (by decide) (fun S7 V8 hS7 hV8 => ?_)
  replace h := wV_some (wS_some h S7 hS7) V8 hV8
  refine Ak_dup 34 (d_Game_init 19 33 (.dup) 1 rfl) rfl rfl ?_
  obtain ⟨S9, V10, h11, h⟩ := bndC_some h
  obtain ⟨hn12, h⟩ := gd_some h
  refine Ak_callIN 37 2 _ (ci_Tests_init h11) rfl (Int.natCast_nonneg _) mok_Tests_init (by decide) rfl (d_Game_init 20 34 (.invokespecial 29) 3 rfl) rfl (by decide) ⟨by decide, by decide⟩ (dec_t hn12) (Nat.le_of_ble_eq_true rfl) ?_
  obtain ⟨hg13, h⟩ := gd_some h
  refine Ak_putF 40 5 hg13 clX1 (by decide) rfl rfl (fun o => by cases o <;> exact ⟨rfl, rfl⟩) rfl rfl lkF_Game_30 (d_Game_init 21 37 (.putfield 30) 3 rfl) rfl (fun S14 hS14 => ?_)
  replace h := wS_some h S14 hS14
  refine Ak_aload_n 41 0 (d_Game_init 22 40 (.aload_n 0) 1 rfl) rfl rfl rfl ?_
  refine Ak_iconst 42 (d_Game_init 23 41 (.iconst 2) 1 rfl) rfl (rk rfl) ?_
  refine Ak_newaI 44 lk_arr0 (by decide) (by decide) (d_Game_init 24 42 (.newarray .int) 2 rfl) rfl (by decide) (by decide) (fun S15 V16 hS15 hV16 => ?_)
  replace h := wV_some (wS_some h S15 hS15) V16 hV16
  obtain ⟨hg17, h⟩ := gd_some h
  refine Ak_putF 47 6 hg17 clX1 (by decide) rfl rfl (fun o => by cases o <;> exact ⟨rfl, rfl⟩) rfl rfl lkF_Game_34 (d_Game_init 25 44 (.putfield 34) 3 rfl) rfl (fun S18 hS18 => ?_)
  replace h := wS_some h S18 hS18
  refine Ak_aload_n 48 0 (d_Game_init 26 47 (.aload_n 0) 1 rfl) rfl rfl rfl ?_
  refine Ak_iconst 49 (d_Game_init 27 48 (.iconst 2) 1 rfl) rfl (rk rfl) ?_
  refine Ak_newaI 51 lk_arr0 (by decide) (by decide) (d_Game_init 28 49 (.newarray .int) 2 rfl) rfl (by decide) (by decide) (fun S19 V20 hS19 hV20 => ?_)
  replace h := wV_some (wS_some h S19 hS19) V20 hV20
  obtain ⟨hg21, h⟩ := gd_some h
  refine Ak_putF 54 7 hg21 clX1 (by decide) rfl rfl (fun o => by cases o <;> exact ⟨rfl, rfl⟩) rfl rfl lkF_Game_38 (d_Game_init 29 51 (.putfield 38) 3 rfl) rfl (fun S22 hS22 => ?_)
  replace h := wS_some h S22 hS22
  refine Ak_aload_n 55 0 (d_Game_init 30 54 (.aload_n 0) 1 rfl) rfl rfl rfl ?_
  refine Ak_iconst 56 (d_Game_init 31 55 (.iconst 2) 1 rfl) rfl (rk rfl) ?_
  refine Ak_newaI 58 lk_arr0 (by decide) (by decide) (d_Game_init 32 56 (.newarray .int) 2 rfl) rfl (by decide) (by decide) (fun S23 V24 hS23 hV24 => ?_)
  replace h := wV_some (wS_some h S23 hS23) V24 hV24
  obtain ⟨hg25, h⟩ := gd_some h
  refine Ak_putF 61 8 hg25 clX1 (by decide) rfl rfl (fun o => by cases o <;> exact ⟨rfl, rfl⟩) rfl rfl lkF_Game_41 (d_Game_init 33 58 (.putfield 41) 3 rfl) rfl (fun S26 hS26 => ?_)
  replace h := wS_some h S26 hS26
  refine Ak_aload_n 62 0 (d_Game_init 34 61 (.aload_n 0) 1 rfl) rfl rfl rfl ?_
  refine Ak_bipush 64 (d_Game_init 35 62 (.bipush 12) 2 rfl) rfl (bp_ok rfl) (rk rfl) ?_
  refine Ak_newaI 66 lk_arr0 (by decide) (by decide) (d_Game_init 36 64 (.newarray .int) 2 rfl) rfl (by decide) (by decide) (fun S27 V28 hS27 hV28 => ?_)
  replace h := wV_some (wS_some h S27 hS27) V28 hV28
  obtain ⟨hg29, h⟩ := gd_some h
  refine Ak_putF 69 9 hg29 clX1 (by decide) rfl rfl (fun o => by cases o <;> exact ⟨rfl, rfl⟩) rfl rfl lkF_Game_44 (d_Game_init 37 66 (.putfield 44) 3 rfl) rfl (fun S30 hS30 => ?_)
  replace h := wS_some h S30 hS30
  refine Ak_aload_n 70 0 (d_Game_init 38 69 (.aload_n 0) 1 rfl) rfl rfl rfl ?_
  refine Ak_bipush 72 (d_Game_init 39 70 (.bipush 12) 2 rfl) rfl (bp_ok rfl) (rk rfl) ?_
  refine Ak_newaI 74 lk_arr0 (by decide) (by decide) (d_Game_init 40 72 (.newarray .int) 2 rfl) rfl (by decide) (by decide) (fun S31 V32 hS31 hV32 => ?_)
  replace h := wV_some (wS_some h S31 hS31) V32 hV32
  obtain ⟨hg33, h⟩ := gd_some h
  refine Ak_putF 77 10 hg33 clX1 (by decide) rfl rfl (fun o => by cases o <;> exact ⟨rfl, rfl⟩) rfl rfl lkF_Game_47 (d_Game_init 41 74 (.putfield 47) 3 rfl) rfl (fun S34 hS34 => ?_)
  replace h := wS_some h S34 hS34
  refine Ak_aload_n 78 0 (d_Game_init 42 77 (.aload_n 0) 1 rfl) rfl rfl rfl ?_
  refine Ak_bipush 80 (d_Game_init 43 78 (.bipush 12) 2 rfl) rfl (bp_ok rfl) (rk rfl) ?_
  refine Ak_newaI 82 lk_arr0 (by decide) (by decide) (d_Game_init 44 80 (.newarray .int) 2 rfl) rfl (by decide) (by decide) (fun S35 V36 hS35 hV36 => ?_)
  replace h := wV_some (wS_some h S35 hS35) V36 hV36
  obtain ⟨hg37, h⟩ := gd_some h
  refine Ak_putF 85 11 hg37 clX1 (by decide) rfl rfl (fun o => by cases o <;> exact ⟨rfl, rfl⟩) rfl rfl lkF_Game_50 (d_Game_init 45 82 (.putfield 50) 3 rfl) rfl (fun S38 hS38 => ?_)
  replace h := wS_some h S38 hS38
  refine Ak_aload_n 86 0 (d_Game_init 46 85 (.aload_n 0) 1 rfl) rfl rfl rfl ?_
  refine Ak_bipush 88 (d_Game_init 47 86 (.bipush 12) 2 rfl) rfl (bp_ok rfl) (rk rfl) ?_
  refine Ak_newaI 90 lk_arr0 (by decide) (by decide) (d_Game_init 48 88 (.newarray .int) 2 rfl) rfl (by decide) (by decide) (fun S39 V40 hS39 hV40 => ?_)
  replace h := wV_some (wS_some h S39 hS39) V40 hV40
  obtain ⟨hg41, h⟩ := gd_some h
  refine Ak_putF 93 12 hg41 clX1 (by decide) rfl rfl (fun o => by cases o <;> exact ⟨rfl, rfl⟩) rfl rfl lkF_Game_53 (d_Game_init 49 90 (.putfield 53) 3 rfl) rfl (fun S42 hS42 => ?_)
  replace h := wS_some h S42 hS42
  refine Ak_aload_n 94 0 (d_Game_init 50 93 (.aload_n 0) 1 rfl) rfl rfl rfl ?_
  refine Ak_bipush 96 (d_Game_init 51 94 (.bipush 12) 2 rfl) rfl (bp_ok rfl) (rk rfl) ?_
  refine Ak_newaZ 98 lk_arr2 (by decide) (by decide) (d_Game_init 52 96 (.newarray .boolean) 2 rfl) rfl (by decide) (by decide) (fun S43 V44 hS43 hV44 => ?_)
  replace h := wV_some (wS_some h S43 hS43) V44 hV44
  obtain ⟨hg45, h⟩ := gd_some h
  refine Ak_putF 101 13 hg45 clX1 (by decide) rfl rfl (fun o => by cases o <;> exact ⟨rfl, rfl⟩) rfl rfl lkF_Game_56 (d_Game_init 53 98 (.putfield 56) 3 rfl) rfl (fun S46 hS46 => ?_)
  replace h := wS_some h S46 hS46
  refine Ak_aload_n 102 0 (d_Game_init 54 101 (.aload_n 0) 1 rfl) rfl rfl rfl ?_
  refine Ak_iconst 103 (d_Game_init 55 102 (.iconst 2) 1 rfl) rfl (rk rfl) ?_
  refine Ak_newaI 105 lk_arr0 (by decide) (by decide) (d_Game_init 56 103 (.newarray .int) 2 rfl) rfl (by decide) (by decide) (fun S47 V48 hS47 hV48 => ?_)
  replace h := wV_some (wS_some h S47 hS47) V48 hV48
  obtain ⟨hg49, h⟩ := gd_some h
  refine Ak_putF 108 14 hg49 clX1 (by decide) rfl rfl (fun o => by cases o <;> exact ⟨rfl, rfl⟩) rfl rfl lkF_Game_60 (d_Game_init 57 105 (.putfield 60) 3 rfl) rfl (fun S50 hS50 => ?_)
  replace h := wS_some h S50 hS50
  refine Ak_aload_n 109 0 (d_Game_init 58 108 (.aload_n 0) 1 rfl) rfl rfl rfl ?_
  refine Ak_sipush 112 (d_Game_init 59 109 (.sipush 400) 3 rfl) rfl (sp_ok rfl) (rk rfl) ?_
  refine Ak_newaI 114 lk_arr0 (by decide) (by decide) (d_Game_init 60 112 (.newarray .int) 2 rfl) rfl (by decide) (by decide) (fun S51 V52 hS51 hV52 => ?_)
  replace h := wV_some (wS_some h S51 hS51) V52 hV52
  obtain ⟨hg53, h⟩ := gd_some h
  refine Ak_putF 117 15 hg53 clX1 (by decide) rfl rfl (fun o => by cases o <;> exact ⟨rfl, rfl⟩) rfl rfl lkF_Game_63 (d_Game_init 61 114 (.putfield 63) 3 rfl) rfl (fun S54 hS54 => ?_)
  replace h := wS_some h S54 hS54
  refine Ak_aload_n 118 0 (d_Game_init 62 117 (.aload_n 0) 1 rfl) rfl rfl rfl ?_
  refine Ak_sipush 121 (d_Game_init 63 118 (.sipush 4000) 3 rfl) rfl (sp_ok rfl) (rk rfl) ?_
  refine Ak_newaI 123 lk_arr0 (by decide) (by decide) (d_Game_init 64 121 (.newarray .int) 2 rfl) rfl (by decide) (by decide) (fun S55 V56 hS55 hV56 => ?_)
  replace h := wV_some (wS_some h S55 hS55) V56 hV56
  obtain ⟨hg57, h⟩ := gd_some h
  refine Ak_putF 126 16 hg57 clX1 (by decide) rfl rfl (fun o => by cases o <;> exact ⟨rfl, rfl⟩) rfl rfl lkF_Game_66 (d_Game_init 65 123 (.putfield 66) 3 rfl) rfl (fun S58 hS58 => ?_)
  replace h := wS_some h S58 hS58
  cases h
  exact Ak_vret rfl (d_Game_init 66 126 (.return_) 1 rfl)
theorem t_Tokens_init_L55 {S : ASh} {x0 : Int} (hO : isO S x0 9 = true) : ∀ (n : Nat) (V : ASt) (x1 x2 x3 : Int) (r : Int) (V' : ASt), b_Tokens_init_L55 S x0 n V x1 x2 x3 = some (r, V') → AWk m_Tokens_init 20 4 5426 4 5426 55 [some (aR x0), some (aI x1), some (aI x2), some (aI x3)] [] S V none S V' := by
  intro n
  induction n with
  | zero => intro V x1 x2 x3 r V' h; cases h
  | succ n ih =>
    intro V x1 x2 x3 r V' h
    replace ih : ∀ {V : ASt} {x1 x2 x3 : Int} {r : Int} {V' : ASt}, b_Tokens_init_L55 S x0 n V x1 x2 x3 = some (r, V') → AWk m_Tokens_init 20 4 5426 4 5426 55 [some (aR x0), some (aI x1), some (aI x2), some (aI x3)] [] S V none S V' := fun h => ih _ _ _ _ _ _ h
    rw [b_Tokens_init_L55] at h
    refine Ak_iload_n 56 3 (d_Tokens_init 30 55 (.iload_n 3) 1 rfl) rfl rfl rfl ?_
    refine Ak_ldcS0 58 (d_Tokens_init 31 56 (.ldc 31) 2 rfl) rfl ?_
    obtain ⟨hs27, h⟩ := gd_some h
    obtain ⟨r24, V25, h26, h⟩ := bnd_some h
    refine Ak_cT 61 3 (c_Str_length h26) rfl hs27 rfl mok_Str_length lkM_Tokens_33 (d_Tokens_init 32 58 (.invokevirtual 33) 3 rfl) rfl (by decide) (by decide) (Nat.le_of_ble_eq_true rfl) ?_
    refine Ak_icmp_ge 120 64 (d_Tokens_init 33 61 (.if_icmp .ge 59) 3 rfl) rfl rfl (fun hc => ?_) (fun hc => ?_)
    · replace h := it_t hc h
      cases h
      exact Ak_vret rfl (d_Tokens_init 62 120 (.return_) 1 rfl)
    · replace h := it_f hc h
      refine Ak_iload_n 65 1 (d_Tokens_init 34 64 (.iload_n 1) 1 rfl) rfl rfl rfl ?_
      refine Ak_bipush 67 (d_Tokens_init 35 65 (.bipush 23) 2 rfl) rfl (bp_ok rfl) (rk rfl) ?_
      refine Ak_icmp_ge 120 70 (d_Tokens_init 36 67 (.if_icmp .ge 53) 3 rfl) rfl rfl (fun hc => ?_) (fun hc => ?_)
      · replace h := it_t hc h
        cases h
        exact Ak_vret rfl (d_Tokens_init 62 120 (.return_) 1 rfl)
      · replace h := it_f hc h
        refine Ak_ldcS0 72 (d_Tokens_init 37 70 (.ldc 31) 2 rfl) rfl ?_
        refine Ak_iload_n 73 3 (d_Tokens_init 38 72 (.iload_n 3) 1 rfl) rfl rfl rfl ?_
        obtain ⟨r28, V29, h30, h⟩ := bnd_some h
        refine Ak_cT 76 5 (c_Str_charAt h30) rfl hs27 rfl mok_Str_charAt lkM_Tokens_39 (d_Tokens_init 39 73 (.invokevirtual 39) 3 rfl) rfl (by decide) (by decide) (Nat.le_of_ble_eq_true rfl) ?_
        refine Ak_istore 78 (d_Tokens_init 40 76 (.istore 4) 2 rfl) rfl (by decide) ?_
        refine Ak_iload 80 (d_Tokens_init 41 78 (.iload 4) 2 rfl) rfl rfl ?_
        refine Ak_bipush 82 (d_Tokens_init 42 80 (.bipush 32) 2 rfl) rfl (bp_ok rfl) (rk rfl) ?_
        refine Ak_icmp_ne 93 85 (d_Tokens_init 43 82 (.if_icmp .ne 11) 3 rfl) rfl rfl (fun hc => ?_) (fun hc => ?_)
        · replace h := it_f hc h
          refine Ak_aload_n 94 0 (d_Tokens_init 48 93 (.aload_n 0) 1 rfl) rfl rfl rfl ?_
          refine Ak_getF 97 0 hO clX9 (by decide) rfl lkF_Tokens_11 (d_Tokens_init 49 94 (.getfield 11) 3 rfl) rfl ?_
          refine Ak_iload_n 98 1 (d_Tokens_init 50 97 (.iload_n 1) 1 rfl) rfl rfl rfl ?_
          refine Ak_aload_n 99 0 (d_Tokens_init 51 98 (.aload_n 0) 1 rfl) rfl rfl rfl ?_
          refine Ak_getF 102 0 hO clX9 (by decide) rfl lkF_Tokens_11 (d_Tokens_init 52 99 (.getfield 11) 3 rfl) rfl ?_
          refine Ak_iload_n 103 1 (d_Tokens_init 53 102 (.iload_n 1) 1 rfl) rfl rfl rfl ?_
          obtain ⟨ha31, h⟩ := gd_some h
          refine Ak_iaload 104 ha31 (d_Tokens_init 54 103 (.iaload) 1 rfl) rfl ?_
          refine Ak_iload_n 105 2 (d_Tokens_init 55 104 (.iload_n 2) 1 rfl) rfl rfl rfl ?_
          refine Ak_iload 107 (d_Tokens_init 56 105 (.iload 4) 2 rfl) rfl rfl ?_
          obtain ⟨r32, V33, h34, h⟩ := bnd_some h
          refine Ak_gS1 110 2 (c_Tokens_withLetter h34) rfl mok_Tokens_withLetter lkM_Tokens_43 (d_Tokens_init 57 107 (.invokestatic 43) 3 rfl) rfl (by decide) (by decide) (Nat.le_of_ble_eq_true rfl) ?_
          refine Ak_iastore 111 ha31 (d_Tokens_init 58 110 (.iastore) 1 rfl) rfl (fun V35 hV35 => ?_)
          replace h := wV_some h V35 hV35
          refine Ak_iinc 114 (d_Tokens_init 59 111 (.iinc 2 1) 3 rfl) rfl rfl (by decide) ?_
          refine Ak_iinc 117 (d_Tokens_init 60 114 (.iinc 3 1) 3 rfl) rfl rfl (by decide) ?_
          refine Ak_goto 55 (d_Tokens_init 61 117 (.goto (-62)) 3 rfl) rfl ?_
          refine Ak_keep [true, true, true, true] ?_
          exact ih h
        · replace h := it_t hc h
          refine Ak_iinc 88 (d_Tokens_init 44 85 (.iinc 1 1) 3 rfl) rfl rfl (by decide) ?_
          refine Ak_iconst 89 (d_Tokens_init 45 88 (.iconst 0) 1 rfl) rfl (rk rfl) ?_
          refine Ak_istore_n 90 2 (d_Tokens_init 46 89 (.istore_n 2) 1 rfl) rfl rfl (by decide) ?_
          refine Ak_goto 114 (d_Tokens_init 47 90 (.goto 24) 3 rfl) rfl ?_
          refine Ak_iinc 117 (d_Tokens_init 60 114 (.iinc 3 1) 3 rfl) rfl rfl (by decide) ?_
          refine Ak_goto 55 (d_Tokens_init 61 117 (.goto (-62)) 3 rfl) rfl ?_
          refine Ak_keep [true, true, true, true] ?_
          exact ih h
theorem ci_Tokens_init {S : ASh} {V : ASt} {x0 : Int} {S' : ASh} {V' : ASt} (h : g_Tokens_init S V x0 = some (S', V')) : ACt m_Tokens_init 20 4 5426 [(aR x0)] S V none S' V' := by
  unfold g_Tokens_init at h
  refine ACt_of (plainFor_of_name rfl) rfl (Nat.le_of_ble_eq_true rfl) ?_
  show AWk m_Tokens_init 20 4 5426 0 0 0 [some (aR x0)] [] S V none S' V'
  refine Ak_aload_n 1 0 (d_Tokens_init 0 0 (.aload_n 0) 1 rfl) rfl rfl rfl ?_
  obtain ⟨hg1, h⟩ := gd_some h
  refine Ak_objInit 4 (isO_nn hg1) lkM_Tokens_3 lk_oi (d_Tokens_init 1 1 (.invokespecial 3) 3 rfl) rfl (by decide) (Nat.le_of_ble_eq_true rfl) ?_
  refine Ak_aload_n 5 0 (d_Tokens_init 2 4 (.aload_n 0) 1 rfl) rfl rfl rfl ?_
  refine Ak_bipush 7 (d_Tokens_init 3 5 (.bipush 23) 2 rfl) rfl (bp_ok rfl) (rk rfl) ?_
  refine Ak_newaI 9 lk_arr0 (by decide) (by decide) (d_Tokens_init 4 7 (.newarray .int) 2 rfl) rfl (by decide) (by decide) (fun S2 V3 hS2 hV3 => ?_)
  replace h := wV_some (wS_some h S2 hS2) V3 hV3
  obtain ⟨hg4, h⟩ := gd_some h
  refine Ak_putF 12 0 hg4 clX9 (by decide) rfl rfl (fun o => by cases o <;> exact ⟨rfl, rfl⟩) rfl rfl lkF_Tokens_11 (d_Tokens_init 5 9 (.putfield 11) 3 rfl) rfl (fun S5 hS5 => ?_)
  replace h := wS_some h S5 hS5
  refine Ak_aload_n 13 0 (d_Tokens_init 6 12 (.aload_n 0) 1 rfl) rfl rfl rfl ?_
  refine Ak_sipush 16 (d_Tokens_init 7 13 (.sipush 1801) 3 rfl) rfl (sp_ok rfl) (rk rfl) ?_
  refine Ak_newaI 18 lk_arr0 (by decide) (by decide) (d_Tokens_init 8 16 (.newarray .int) 2 rfl) rfl (by decide) (by decide) (fun S6 V7 hS6 hV7 => ?_)
  replace h := wV_some (wS_some h S6 hS6) V7 hV7
  obtain ⟨hg8, h⟩ := gd_some h
  refine Ak_putF 21 1 hg8 clX9 (by decide) rfl rfl (fun o => by cases o <;> exact ⟨rfl, rfl⟩) rfl rfl lkF_Tokens_15 (d_Tokens_init 9 18 (.putfield 15) 3 rfl) rfl (fun S9 hS9 => ?_)
  replace h := wS_some h S9 hS9
  refine Ak_aload_n 22 0 (d_Tokens_init 10 21 (.aload_n 0) 1 rfl) rfl rfl rfl ?_
  refine Ak_sipush 25 (d_Tokens_init 11 22 (.sipush 1801) 3 rfl) rfl (sp_ok rfl) (rk rfl) ?_
  refine Ak_newaI 27 lk_arr0 (by decide) (by decide) (d_Tokens_init 12 25 (.newarray .int) 2 rfl) rfl (by decide) (by decide) (fun S10 V11 hS10 hV11 => ?_)
  replace h := wV_some (wS_some h S10 hS10) V11 hV11
  obtain ⟨hg12, h⟩ := gd_some h
  refine Ak_putF 30 2 hg12 clX9 (by decide) rfl rfl (fun o => by cases o <;> exact ⟨rfl, rfl⟩) rfl rfl lkF_Tokens_18 (d_Tokens_init 13 27 (.putfield 18) 3 rfl) rfl (fun S13 hS13 => ?_)
  replace h := wS_some h S13 hS13
  refine Ak_aload_n 31 0 (d_Tokens_init 14 30 (.aload_n 0) 1 rfl) rfl rfl rfl ?_
  refine Ak_sipush 34 (d_Tokens_init 15 31 (.sipush 1801) 3 rfl) rfl (sp_ok rfl) (rk rfl) ?_
  refine Ak_newaI 36 lk_arr0 (by decide) (by decide) (d_Tokens_init 16 34 (.newarray .int) 2 rfl) rfl (by decide) (by decide) (fun S14 V15 hS14 hV15 => ?_)
  replace h := wV_some (wS_some h S14 hS14) V15 hV15
  obtain ⟨hg16, h⟩ := gd_some h
  refine Ak_putF 39 3 hg16 clX9 (by decide) rfl rfl (fun o => by cases o <;> exact ⟨rfl, rfl⟩) rfl rfl lkF_Tokens_21 (d_Tokens_init 17 36 (.putfield 21) 3 rfl) rfl (fun S17 hS17 => ?_)
  replace h := wS_some h S17 hS17
  refine Ak_aload_n 40 0 (d_Tokens_init 18 39 (.aload_n 0) 1 rfl) rfl rfl rfl ?_
  refine Ak_iconst 41 (d_Tokens_init 19 40 (.iconst 0) 1 rfl) rfl (rk rfl) ?_
  obtain ⟨hg18, h⟩ := gd_some h
  refine Ak_putI 44 4 hg18 clX9 (by decide) rfl rfl rfl lkF_Tokens_24 (d_Tokens_init 20 41 (.putfield 24) 3 rfl) rfl (fun V19 hV19 => ?_)
  replace h := wV_some h V19 hV19
  refine Ak_aload_n 45 0 (d_Tokens_init 21 44 (.aload_n 0) 1 rfl) rfl rfl rfl ?_
  refine Ak_iconst 46 (d_Tokens_init 22 45 (.iconst 0) 1 rfl) rfl (rk rfl) ?_
  refine Ak_putI 49 5 hg18 clX9 (by decide) rfl rfl rfl lkF_Tokens_28 (d_Tokens_init 23 46 (.putfield 28) 3 rfl) rfl (fun V20 hV20 => ?_)
  replace h := wV_some h V20 hV20
  refine Ak_iconst 50 (d_Tokens_init 24 49 (.iconst 0) 1 rfl) rfl (rk rfl) ?_
  refine Ak_istore_n 51 1 (d_Tokens_init 25 50 (.istore_n 1) 1 rfl) rfl rfl (by decide) ?_
  refine Ak_iconst 52 (d_Tokens_init 26 51 (.iconst 0) 1 rfl) rfl (rk rfl) ?_
  refine Ak_istore_n 53 2 (d_Tokens_init 27 52 (.istore_n 2) 1 rfl) rfl rfl (by decide) ?_
  refine Ak_iconst 54 (d_Tokens_init 28 53 (.iconst 0) 1 rfl) rfl (rk rfl) ?_
  refine Ak_istore_n 55 3 (d_Tokens_init 29 54 (.istore_n 3) 1 rfl) rfl rfl (by decide) ?_
  obtain ⟨r21, V22, h23, h⟩ := bnd_some h
  cases h
  refine Ak_keep [true, true, true, true] ?_
  exact t_Tokens_init_L55 hg18 FU _ _ _ _ _ _ h23
theorem ci_Reader_init {S : ASh} {V : ASt} {x0 x1 : Int} {S' : ASh} {V' : ASt} (h : g_Reader_init S V x0 x1 = some (S', V')) : ACt m_Reader_init 21 5 5432 [(aR x0), (aR x1)] S V none S' V' := by
  unfold g_Reader_init at h
  refine ACt_of (plainFor_of_name rfl) rfl (Nat.le_of_ble_eq_true rfl) ?_
  show AWk m_Reader_init 21 5 5432 0 0 0 [some (aR x0), some (aR x1)] [] S V none S' V'
  refine Ak_aload_n 1 0 (d_Reader_init 0 0 (.aload_n 0) 1 rfl) rfl rfl rfl ?_
  obtain ⟨hg1, h⟩ := gd_some h
  refine Ak_objInit 4 (isO_nn hg1) lkM_Reader_3 lk_oi (d_Reader_init 1 1 (.invokespecial 3) 3 rfl) rfl (by decide) (Nat.le_of_ble_eq_true rfl) ?_
  refine Ak_aload_n 5 0 (d_Reader_init 2 4 (.aload_n 0) 1 rfl) rfl rfl rfl ?_
  refine Ak_iconst 6 (d_Reader_init 3 5 (.iconst 0) 1 rfl) rfl (rk rfl) ?_
  refine Ak_putI 9 0 hg1 clX5 (by decide) rfl rfl rfl lkF_Reader_9 (d_Reader_init 4 6 (.putfield 9) 3 rfl) rfl (fun V2 hV2 => ?_)
  replace h := wV_some h V2 hV2
  refine Ak_aload_n 10 0 (d_Reader_init 5 9 (.aload_n 0) 1 rfl) rfl rfl rfl ?_
  refine Ak_iconst 11 (d_Reader_init 6 10 (.iconst (-1)) 1 rfl) rfl (rk rfl) ?_
  refine Ak_putI 14 1 hg1 clX5 (by decide) rfl rfl rfl lkF_Reader_15 (d_Reader_init 7 11 (.putfield 15) 3 rfl) rfl (fun V3 hV3 => ?_)
  replace h := wV_some h V3 hV3
  refine Ak_aload_n 15 0 (d_Reader_init 8 14 (.aload_n 0) 1 rfl) rfl rfl rfl ?_
  refine Ak_new 18 clX9 lkC_Reader_18 lkI_9 lkN_9 (d_Reader_init 9 15 (.new 18) 3 rfl) rfl (by decide) (by decide) (fun S4 V5 hS4 hV5 => ?_)
  replace h := wV_some (wS_some h S4 hS4) V5 hV5
  refine Ak_dup 19 (d_Reader_init 10 18 (.dup) 1 rfl) rfl rfl ?_
  obtain ⟨S6, V7, h8, h⟩ := bndC_some h
  obtain ⟨hn9, h⟩ := gd_some h
  refine Ak_callI 22 20 _ (ci_Tokens_init h8) rfl (Int.natCast_nonneg _) mok_Tokens_init lkM_Reader_20 (d_Reader_init 11 19 (.invokespecial 20) 3 rfl) rfl (by decide) ⟨by decide, by decide⟩ (dec_t hn9) (Nat.le_of_ble_eq_true rfl) ?_
  obtain ⟨hg10, h⟩ := gd_some h
  refine Ak_putF 25 2 hg10 clX5 (by decide) rfl rfl (fun o => by cases o <;> exact ⟨rfl, rfl⟩) rfl rfl lkF_Reader_21 (d_Reader_init 12 22 (.putfield 21) 3 rfl) rfl (fun S11 hS11 => ?_)
  replace h := wS_some h S11 hS11
  refine Ak_aload_n 26 0 (d_Reader_init 13 25 (.aload_n 0) 1 rfl) rfl rfl rfl ?_
  refine Ak_iconst 27 (d_Reader_init 14 26 (.iconst 0) 1 rfl) rfl (rk rfl) ?_
  obtain ⟨hg12, h⟩ := gd_some h
  refine Ak_putI 30 3 hg12 clX5 (by decide) rfl rfl rfl lkF_Reader_25 (d_Reader_init 15 27 (.putfield 25) 3 rfl) rfl (fun V13 hV13 => ?_)
  replace h := wV_some h V13 hV13
  refine Ak_aload_n 31 0 (d_Reader_init 16 30 (.aload_n 0) 1 rfl) rfl rfl rfl ?_
  refine Ak_iconst 32 (d_Reader_init 17 31 (.iconst 0) 1 rfl) rfl (rk rfl) ?_
  refine Ak_putI 35 5 hg12 clX5 (by decide) rfl rfl rfl lkF_Reader_28 (d_Reader_init 18 32 (.putfield 28) 3 rfl) rfl (fun V14 hV14 => ?_)
  replace h := wV_some h V14 hV14
  refine Ak_aload_n 36 0 (d_Reader_init 19 35 (.aload_n 0) 1 rfl) rfl rfl rfl ?_
  refine Ak_aload_n 37 1 (d_Reader_init 20 36 (.aload_n 1) 1 rfl) rfl rfl rfl ?_
  refine Ak_putR 40 4 hg12 clX5 (by decide) rfl rfl (fun o => by cases o <;> exact ⟨rfl, rfl⟩) lkF_Reader_31 (d_Reader_init 21 37 (.putfield 31) 3 rfl) rfl (fun V15 hV15 => ?_)
  replace h := wV_some h V15 hV15
  cases h
  exact Ak_vret rfl (d_Reader_init 22 40 (.return_) 1 rfl)
theorem ci_Slate_init {S : ASh} {V : ASt} {x0 : Int} {S' : ASh} {V' : ASt} (h : g_Slate_init S V x0 = some (S', V')) : ACt m_Slate_init 2 1 12 [(aR x0)] S V none S' V' := by
  unfold g_Slate_init at h
  refine ACt_of (plainFor_of_name rfl) rfl (Nat.le_of_ble_eq_true rfl) ?_
  show AWk m_Slate_init 2 1 12 0 0 0 [some (aR x0)] [] S V none S' V'
  refine Ak_aload_n 1 0 (d_Slate_init 0 0 (.aload_n 0) 1 rfl) rfl rfl rfl ?_
  obtain ⟨hg1, h⟩ := gd_some h
  refine Ak_objInit 4 (isO_nn hg1) lkM_Slate_3 lk_oi (d_Slate_init 1 1 (.invokespecial 3) 3 rfl) rfl (by decide) (Nat.le_of_ble_eq_true rfl) ?_
  refine Ak_aload_n 5 0 (d_Slate_init 2 4 (.aload_n 0) 1 rfl) rfl rfl rfl ?_
  refine Ak_iconst 6 (d_Slate_init 3 5 (.iconst 0) 1 rfl) rfl (rk rfl) ?_
  refine Ak_putI 9 0 hg1 clX6 (by decide) rfl rfl rfl lkF_Slate_9 (d_Slate_init 4 6 (.putfield 9) 3 rfl) rfl (fun V2 hV2 => ?_)
  replace h := wV_some h V2 hV2
  refine Ak_aload_n 10 0 (d_Slate_init 5 9 (.aload_n 0) 1 rfl) rfl rfl rfl ?_
  refine Ak_bipush 12 (d_Slate_init 6 10 (.bipush 12) 2 rfl) rfl (bp_ok rfl) (rk rfl) ?_
  refine Ak_newaI 14 lk_arr0 (by decide) (by decide) (d_Slate_init 7 12 (.newarray .int) 2 rfl) rfl (by decide) (by decide) (fun S3 V4 hS3 hV4 => ?_)
  replace h := wV_some (wS_some h S3 hS3) V4 hV4
  obtain ⟨hg5, h⟩ := gd_some h
  refine Ak_putF 17 1 hg5 clX6 (by decide) rfl rfl (fun o => by cases o <;> exact ⟨rfl, rfl⟩) rfl rfl lkF_Slate_15 (d_Slate_init 8 14 (.putfield 15) 3 rfl) rfl (fun S6 hS6 => ?_)
  replace h := wS_some h S6 hS6
  cases h
  exact Ak_vret rfl (d_Slate_init 9 17 (.return_) 1 rfl)
theorem ci_Spring_init {S : ASh} {V : ASt} {x0 : Int} {S' : ASh} {V' : ASt} (h : g_Spring_init S V x0 = some (S', V')) : ACt m_Spring_init 3 3 214 [(aR x0)] S V none S' V' := by
  unfold g_Spring_init at h
  refine ACt_of (plainFor_of_name rfl) rfl (Nat.le_of_ble_eq_true rfl) ?_
  show AWk m_Spring_init 3 3 214 0 0 0 [some (aR x0)] [] S V none S' V'
  refine Ak_aload_n 1 0 (d_Spring_init 0 0 (.aload_n 0) 1 rfl) rfl rfl rfl ?_
  obtain ⟨hg1, h⟩ := gd_some h
  refine Ak_objInit 4 (isO_nn hg1) lkM_Spring_3 lk_oi (d_Spring_init 1 1 (.invokespecial 3) 3 rfl) rfl (by decide) (Nat.le_of_ble_eq_true rfl) ?_
  refine Ak_aload_n 5 0 (d_Spring_init 2 4 (.aload_n 0) 1 rfl) rfl rfl rfl ?_
  refine Ak_iconst 6 (d_Spring_init 3 5 (.iconst 0) 1 rfl) rfl (rk rfl) ?_
  refine Ak_putZ 9 0 (Or.inl rfl) hg1 clX7 (by decide) rfl rfl rfl lkF_Spring_9 (d_Spring_init 4 6 (.putfield 9) 3 rfl) rfl (fun V2 hV2 => ?_)
  replace h := wV_some h V2 hV2
  refine Ak_aload_n 10 0 (d_Spring_init 5 9 (.aload_n 0) 1 rfl) rfl rfl rfl ?_
  refine Ak_new 13 clX6 lkC_Spring_15 lkI_6 lkN_6 (d_Spring_init 6 10 (.new 15) 3 rfl) rfl (by decide) (by decide) (fun S3 V4 hS3 hV4 => ?_)
  replace h := wV_some (wS_some h S3 hS3) V4 hV4
  refine Ak_dup 14 (d_Spring_init 7 13 (.dup) 1 rfl) rfl rfl ?_
  obtain ⟨S5, V6, h7, h⟩ := bndC_some h
  obtain ⟨hn8, h⟩ := gd_some h
  refine Ak_callIN 17 2 _ (ci_Slate_init h7) rfl (Int.natCast_nonneg _) mok_Slate_init (by decide) rfl (d_Spring_init 8 14 (.invokespecial 17) 3 rfl) rfl (by decide) ⟨by decide, by decide⟩ (dec_t hn8) (Nat.le_of_ble_eq_true rfl) ?_
  obtain ⟨hg9, h⟩ := gd_some h
  refine Ak_putF 20 1 hg9 clX7 (by decide) rfl rfl (fun o => by cases o <;> exact ⟨rfl, rfl⟩) rfl rfl lkF_Spring_18 (d_Spring_init 9 17 (.putfield 18) 3 rfl) rfl (fun S10 hS10 => ?_)
  replace h := wS_some h S10 hS10
  refine Ak_aload_n 21 0 (d_Spring_init 10 20 (.aload_n 0) 1 rfl) rfl rfl rfl ?_
  refine Ak_iconst 22 (d_Spring_init 11 21 (.iconst (-1)) 1 rfl) rfl (rk rfl) ?_
  obtain ⟨hg11, h⟩ := gd_some h
  refine Ak_putI 25 2 hg11 clX7 (by decide) rfl rfl rfl lkF_Spring_22 (d_Spring_init 12 22 (.putfield 22) 3 rfl) rfl (fun V12 hV12 => ?_)
  replace h := wV_some h V12 hV12
  refine Ak_aload_n 26 0 (d_Spring_init 13 25 (.aload_n 0) 1 rfl) rfl rfl rfl ?_
  refine Ak_iconst 27 (d_Spring_init 14 26 (.iconst (-1)) 1 rfl) rfl (rk rfl) ?_
  refine Ak_putI 30 3 hg11 clX7 (by decide) rfl rfl rfl lkF_Spring_26 (d_Spring_init 15 27 (.putfield 26) 3 rfl) rfl (fun V13 hV13 => ?_)
  replace h := wV_some h V13 hV13
  refine Ak_aload_n 31 0 (d_Spring_init 16 30 (.aload_n 0) 1 rfl) rfl rfl rfl ?_
  refine Ak_sipush 34 (d_Spring_init 17 31 (.sipush 200) 3 rfl) rfl (sp_ok rfl) (rk rfl) ?_
  refine Ak_newaI 36 lk_arr0 (by decide) (by decide) (d_Spring_init 18 34 (.newarray .int) 2 rfl) rfl (by decide) (by decide) (fun S14 V15 hS14 hV15 => ?_)
  replace h := wV_some (wS_some h S14 hS14) V15 hV15
  obtain ⟨hg16, h⟩ := gd_some h
  refine Ak_putF 39 4 hg16 clX7 (by decide) rfl rfl (fun o => by cases o <;> exact ⟨rfl, rfl⟩) rfl rfl lkF_Spring_29 (d_Spring_init 19 36 (.putfield 29) 3 rfl) rfl (fun S17 hS17 => ?_)
  replace h := wS_some h S17 hS17
  cases h
  exact Ak_vret rfl (d_Spring_init 20 39 (.return_) 1 rfl)
theorem ci_History_init {S : ASh} {V : ASt} {x0 : Int} {S' : ASh} {V' : ASt} (h : g_History_init S V x0 = some (S', V')) : ACt m_History_init 2 2 80 [(aR x0)] S V none S' V' := by
  unfold g_History_init at h
  refine ACt_of (plainFor_of_name rfl) rfl (Nat.le_of_ble_eq_true rfl) ?_
  show AWk m_History_init 2 2 80 0 0 0 [some (aR x0)] [] S V none S' V'
  refine Ak_aload_n 1 0 (d_History_init 0 0 (.aload_n 0) 1 rfl) rfl rfl rfl ?_
  obtain ⟨hg1, h⟩ := gd_some h
  refine Ak_objInit 4 (isO_nn hg1) lkM_History_3 lk_oi (d_History_init 1 1 (.invokespecial 3) 3 rfl) rfl (by decide) (Nat.le_of_ble_eq_true rfl) ?_
  refine Ak_aload_n 5 0 (d_History_init 2 4 (.aload_n 0) 1 rfl) rfl rfl rfl ?_
  refine Ak_iconst 6 (d_History_init 3 5 (.iconst 0) 1 rfl) rfl (rk rfl) ?_
  refine Ak_putI 9 0 hg1 clX2 (by decide) rfl rfl rfl lkF_History_9 (d_History_init 4 6 (.putfield 9) 3 rfl) rfl (fun V2 hV2 => ?_)
  replace h := wV_some h V2 hV2
  refine Ak_aload_n 10 0 (d_History_init 5 9 (.aload_n 0) 1 rfl) rfl rfl rfl ?_
  refine Ak_bipush 12 (d_History_init 6 10 (.bipush 40) 2 rfl) rfl (bp_ok rfl) (rk rfl) ?_
  refine Ak_newaI 14 lk_arr0 (by decide) (by decide) (d_History_init 7 12 (.newarray .int) 2 rfl) rfl (by decide) (by decide) (fun S3 V4 hS3 hV4 => ?_)
  replace h := wV_some (wS_some h S3 hS3) V4 hV4
  obtain ⟨hg5, h⟩ := gd_some h
  refine Ak_putF 17 1 hg5 clX2 (by decide) rfl rfl (fun o => by cases o <;> exact ⟨rfl, rfl⟩) rfl rfl lkF_History_15 (d_History_init 8 14 (.putfield 15) 3 rfl) rfl (fun S6 hS6 => ?_)
  replace h := wS_some h S6 hS6
  refine Ak_aload_n 18 0 (d_History_init 9 17 (.aload_n 0) 1 rfl) rfl rfl rfl ?_
  refine Ak_bipush 20 (d_History_init 10 18 (.bipush 40) 2 rfl) rfl (bp_ok rfl) (rk rfl) ?_
  refine Ak_newaI 22 lk_arr0 (by decide) (by decide) (d_History_init 11 20 (.newarray .int) 2 rfl) rfl (by decide) (by decide) (fun S7 V8 hS7 hV8 => ?_)
  replace h := wV_some (wS_some h S7 hS7) V8 hV8
  obtain ⟨hg9, h⟩ := gd_some h
  refine Ak_putF 25 2 hg9 clX2 (by decide) rfl rfl (fun o => by cases o <;> exact ⟨rfl, rfl⟩) rfl rfl lkF_History_19 (d_History_init 12 22 (.putfield 19) 3 rfl) rfl (fun S10 hS10 => ?_)
  replace h := wS_some h S10 hS10
  cases h
  exact Ak_vret rfl (d_History_init 13 25 (.return_) 1 rfl)
set_option maxRecDepth 100000 in
set_option maxHeartbeats 20000000 in
theorem ci_Moves_init {S : ASh} {V : ASt} {x0 x1 : Int} {S' : ASh} {V' : ASt} (h : g_Moves_init S V x0 x1 = some (S', V')) : ACt m_Moves_init 2 11 5498 [(aR x0), (aR x1)] S V none S' V' := by
  unfold g_Moves_init at h
  refine ACt_of (plainFor_of_name rfl) rfl (Nat.le_of_ble_eq_true rfl) ?_
  show AWk m_Moves_init 2 11 5498 0 0 0 [some (aR x0), some (aR x1)] [] S V none S' V'
  refine Ak_aload_n 1 0 (d_Moves_init 0 0 (.aload_n 0) 1 rfl) rfl rfl rfl ?_
  obtain ⟨hg1, h⟩ := gd_some h
  refine Ak_objInit 4 (isO_nn hg1) lkM_Moves_3 lk_oi (d_Moves_init 1 1 (.invokespecial 3) 3 rfl) rfl (by decide) (Nat.le_of_ble_eq_true rfl) ?_
  refine Ak_aload_n 5 0 (d_Moves_init 2 4 (.aload_n 0) 1 rfl) rfl rfl rfl ?_
  refine Ak_iconst 6 (d_Moves_init 3 5 (.iconst 0) 1 rfl) rfl (rk rfl) ?_
  refine Ak_putZ 9 0 (Or.inl rfl) hg1 clX4 (by decide) rfl rfl rfl lkF_Moves_9 (d_Moves_init 4 6 (.putfield 9) 3 rfl) rfl (fun V2 hV2 => ?_)
  replace h := wV_some h V2 hV2
  refine Ak_aload_n 10 0 (d_Moves_init 5 9 (.aload_n 0) 1 rfl) rfl rfl rfl ?_
  refine Ak_iconst 11 (d_Moves_init 6 10 (.iconst 0) 1 rfl) rfl (rk rfl) ?_
  refine Ak_putI 14 1 hg1 clX4 (by decide) rfl rfl rfl lkF_Moves_15 (d_Moves_init 7 11 (.putfield 15) 3 rfl) rfl (fun V3 hV3 => ?_)
  replace h := wV_some h V3 hV3
  refine Ak_aload_n 15 0 (d_Moves_init 8 14 (.aload_n 0) 1 rfl) rfl rfl rfl ?_
  refine Ak_sipush 18 (d_Moves_init 9 15 (.sipush 200) 3 rfl) rfl (sp_ok rfl) (rk rfl) ?_
  refine Ak_newaI 20 lk_arr0 (by decide) (by decide) (d_Moves_init 10 18 (.newarray .int) 2 rfl) rfl (by decide) (by decide) (fun S4 V5 hS4 hV5 => ?_)
  replace h := wV_some (wS_some h S4 hS4) V5 hV5
  obtain ⟨hg6, h⟩ := gd_some h
  refine Ak_putF 23 3 hg6 clX4 (by decide) rfl rfl (fun o => by cases o <;> exact ⟨rfl, rfl⟩) rfl rfl lkF_Moves_19 (d_Moves_init 11 20 (.putfield 19) 3 rfl) rfl (fun S7 hS7 => ?_)
  replace h := wS_some h S7 hS7
  refine Ak_aload_n 24 0 (d_Moves_init 12 23 (.aload_n 0) 1 rfl) rfl rfl rfl ?_
  refine Ak_sipush 27 (d_Moves_init 13 24 (.sipush 200) 3 rfl) rfl (sp_ok rfl) (rk rfl) ?_
  refine Ak_newaI 29 lk_arr0 (by decide) (by decide) (d_Moves_init 14 27 (.newarray .int) 2 rfl) rfl (by decide) (by decide) (fun S8 V9 hS8 hV9 => ?_)
  replace h := wV_some (wS_some h S8 hS8) V9 hV9
  obtain ⟨hg10, h⟩ := gd_some h
  refine Ak_putF 32 4 hg10 clX4 (by decide) rfl rfl (fun o => by cases o <;> exact ⟨rfl, rfl⟩) rfl rfl lkF_Moves_23 (d_Moves_init 15 29 (.putfield 23) 3 rfl) rfl (fun S11 hS11 => ?_)
  replace h := wS_some h S11 hS11
  refine Ak_aload_n 33 0 (d_Moves_init 16 32 (.aload_n 0) 1 rfl) rfl rfl rfl ?_
  refine Ak_sipush 36 (d_Moves_init 17 33 (.sipush 200) 3 rfl) rfl (sp_ok rfl) (rk rfl) ?_
  refine Ak_newaI 38 lk_arr0 (by decide) (by decide) (d_Moves_init 18 36 (.newarray .int) 2 rfl) rfl (by decide) (by decide) (fun S12 V13 hS12 hV13 => ?_)
  replace h := wV_some (wS_some h S12 hS12) V13 hV13
  obtain ⟨hg14, h⟩ := gd_some h
  refine Ak_putF 41 5 hg14 clX4 (by decide) rfl rfl (fun o => by cases o <;> exact ⟨rfl, rfl⟩) rfl rfl lkF_Moves_26 (d_Moves_init 19 38 (.putfield 26) 3 rfl) rfl (fun S15 hS15 => ?_)
  replace h := wS_some h S15 hS15
  refine Ak_aload_n 42 0 (d_Moves_init 20 41 (.aload_n 0) 1 rfl) rfl rfl rfl ?_
  refine Ak_sipush 45 (d_Moves_init 21 42 (.sipush 2400) 3 rfl) rfl (sp_ok rfl) (rk rfl) ?_
  refine Ak_newaI 47 lk_arr0 (by decide) (by decide) (d_Moves_init 22 45 (.newarray .int) 2 rfl) rfl (by decide) (by decide) (fun S16 V17 hS16 hV17 => ?_)
  replace h := wV_some (wS_some h S16 hS16) V17 hV17
  obtain ⟨hg18, h⟩ := gd_some h
  refine Ak_putF 50 6 hg18 clX4 (by decide) rfl rfl (fun o => by cases o <;> exact ⟨rfl, rfl⟩) rfl rfl lkF_Moves_29 (d_Moves_init 23 47 (.putfield 29) 3 rfl) rfl (fun S19 hS19 => ?_)
  replace h := wS_some h S19 hS19
  refine Ak_aload_n 51 0 (d_Moves_init 24 50 (.aload_n 0) 1 rfl) rfl rfl rfl ?_
  refine Ak_sipush 54 (d_Moves_init 25 51 (.sipush 2400) 3 rfl) rfl (sp_ok rfl) (rk rfl) ?_
  refine Ak_newaI 56 lk_arr0 (by decide) (by decide) (d_Moves_init 26 54 (.newarray .int) 2 rfl) rfl (by decide) (by decide) (fun S20 V21 hS20 hV21 => ?_)
  replace h := wV_some (wS_some h S20 hS20) V21 hV21
  obtain ⟨hg22, h⟩ := gd_some h
  refine Ak_putF 59 7 hg22 clX4 (by decide) rfl rfl (fun o => by cases o <;> exact ⟨rfl, rfl⟩) rfl rfl lkF_Moves_32 (d_Moves_init 27 56 (.putfield 32) 3 rfl) rfl (fun S23 hS23 => ?_)
  replace h := wS_some h S23 hS23
  refine Ak_aload_n 60 0 (d_Moves_init 28 59 (.aload_n 0) 1 rfl) rfl rfl rfl ?_
  refine Ak_bipush 62 (d_Moves_init 29 60 (.bipush 24) 2 rfl) rfl (bp_ok rfl) (rk rfl) ?_
  refine Ak_newaI 64 lk_arr0 (by decide) (by decide) (d_Moves_init 30 62 (.newarray .int) 2 rfl) rfl (by decide) (by decide) (fun S24 V25 hS24 hV25 => ?_)
  replace h := wV_some (wS_some h S24 hS24) V25 hV25
  obtain ⟨hg26, h⟩ := gd_some h
  refine Ak_putF 67 8 hg26 clX4 (by decide) rfl rfl (fun o => by cases o <;> exact ⟨rfl, rfl⟩) rfl rfl lkF_Moves_35 (d_Moves_init 31 64 (.putfield 35) 3 rfl) rfl (fun S27 hS27 => ?_)
  replace h := wS_some h S27 hS27
  refine Ak_aload_n 68 0 (d_Moves_init 32 67 (.aload_n 0) 1 rfl) rfl rfl rfl ?_
  refine Ak_bipush 70 (d_Moves_init 33 68 (.bipush 24) 2 rfl) rfl (bp_ok rfl) (rk rfl) ?_
  refine Ak_newaI 72 lk_arr0 (by decide) (by decide) (d_Moves_init 34 70 (.newarray .int) 2 rfl) rfl (by decide) (by decide) (fun S28 V29 hS28 hV29 => ?_)
  replace h := wV_some (wS_some h S28 hS28) V29 hV29
  obtain ⟨hg30, h⟩ := gd_some h
  refine Ak_putF 75 9 hg30 clX4 (by decide) rfl rfl (fun o => by cases o <;> exact ⟨rfl, rfl⟩) rfl rfl lkF_Moves_38 (d_Moves_init 35 72 (.putfield 38) 3 rfl) rfl (fun S31 hS31 => ?_)
  replace h := wS_some h S31 hS31
  refine Ak_aload_n 76 0 (d_Moves_init 36 75 (.aload_n 0) 1 rfl) rfl rfl rfl ?_
  refine Ak_bipush 78 (d_Moves_init 37 76 (.bipush 24) 2 rfl) rfl (bp_ok rfl) (rk rfl) ?_
  refine Ak_newaZ 80 lk_arr2 (by decide) (by decide) (d_Moves_init 38 78 (.newarray .boolean) 2 rfl) rfl (by decide) (by decide) (fun S32 V33 hS32 hV33 => ?_)
  replace h := wV_some (wS_some h S32 hS32) V33 hV33
  obtain ⟨hg34, h⟩ := gd_some h
  refine Ak_putF 83 10 hg34 clX4 (by decide) rfl rfl (fun o => by cases o <;> exact ⟨rfl, rfl⟩) rfl rfl lkF_Moves_41 (d_Moves_init 39 80 (.putfield 41) 3 rfl) rfl (fun S35 hS35 => ?_)
  replace h := wS_some h S35 hS35
  refine Ak_aload_n 84 0 (d_Moves_init 40 83 (.aload_n 0) 1 rfl) rfl rfl rfl ?_
  refine Ak_iconst 85 (d_Moves_init 41 84 (.iconst 2) 1 rfl) rfl (rk rfl) ?_
  refine Ak_newaI 87 lk_arr0 (by decide) (by decide) (d_Moves_init 42 85 (.newarray .int) 2 rfl) rfl (by decide) (by decide) (fun S36 V37 hS36 hV37 => ?_)
  replace h := wV_some (wS_some h S36 hS36) V37 hV37
  obtain ⟨hg38, h⟩ := gd_some h
  refine Ak_putF 90 11 hg38 clX4 (by decide) rfl rfl (fun o => by cases o <;> exact ⟨rfl, rfl⟩) rfl rfl lkF_Moves_45 (d_Moves_init 43 87 (.putfield 45) 3 rfl) rfl (fun S39 hS39 => ?_)
  replace h := wS_some h S39 hS39
  refine Ak_aload_n 91 0 (d_Moves_init 44 90 (.aload_n 0) 1 rfl) rfl rfl rfl ?_
  refine Ak_bipush 93 (d_Moves_init 45 91 (.bipush 12) 2 rfl) rfl (bp_ok rfl) (rk rfl) ?_
  refine Ak_newaI 95 lk_arr0 (by decide) (by decide) (d_Moves_init 46 93 (.newarray .int) 2 rfl) rfl (by decide) (by decide) (fun S40 V41 hS40 hV41 => ?_)
  replace h := wV_some (wS_some h S40 hS40) V41 hV41
  obtain ⟨hg42, h⟩ := gd_some h
  refine Ak_putF 98 12 hg42 clX4 (by decide) rfl rfl (fun o => by cases o <;> exact ⟨rfl, rfl⟩) rfl rfl lkF_Moves_48 (d_Moves_init 47 95 (.putfield 48) 3 rfl) rfl (fun S43 hS43 => ?_)
  replace h := wS_some h S43 hS43
  refine Ak_aload_n 99 0 (d_Moves_init 48 98 (.aload_n 0) 1 rfl) rfl rfl rfl ?_
  refine Ak_bipush 101 (d_Moves_init 49 99 (.bipush 12) 2 rfl) rfl (bp_ok rfl) (rk rfl) ?_
  refine Ak_newaI 103 lk_arr0 (by decide) (by decide) (d_Moves_init 50 101 (.newarray .int) 2 rfl) rfl (by decide) (by decide) (fun S44 V45 hS44 hV45 => ?_)
  replace h := wV_some (wS_some h S44 hS44) V45 hV45
  obtain ⟨hg46, h⟩ := gd_some h
  refine Ak_putF 106 13 hg46 clX4 (by decide) rfl rfl (fun o => by cases o <;> exact ⟨rfl, rfl⟩) rfl rfl lkF_Moves_51 (d_Moves_init 51 103 (.putfield 51) 3 rfl) rfl (fun S47 hS47 => ?_)
  replace h := wS_some h S47 hS47
  refine Ak_aload_n 107 0 (d_Moves_init 52 106 (.aload_n 0) 1 rfl) rfl rfl rfl ?_
  refine Ak_iconst 108 (d_Moves_init 53 107 (.iconst 0) 1 rfl) rfl (rk rfl) ?_
  obtain ⟨hg48, h⟩ := gd_some h
  refine Ak_putI 111 14 hg48 clX4 (by decide) rfl rfl rfl lkF_Moves_54 (d_Moves_init 54 108 (.putfield 54) 3 rfl) rfl (fun V49 hV49 => ?_)
  replace h := wV_some h V49 hV49
  refine Ak_aload_n 112 0 (d_Moves_init 55 111 (.aload_n 0) 1 rfl) rfl rfl rfl ?_
  refine Ak_aload_n 113 1 (d_Moves_init 56 112 (.aload_n 1) 1 rfl) rfl rfl rfl ?_
  refine Ak_putR 116 2 hg48 clX4 (by decide) rfl rfl (fun o => by cases o <;> exact ⟨rfl, rfl⟩) lkF_Moves_57 (d_Moves_init 57 113 (.putfield 57) 3 rfl) rfl (fun V50 hV50 => ?_)
  replace h := wV_some h V50 hV50
  cases h
  exact Ak_vret rfl (d_Moves_init 58 116 (.return_) 1 rfl)
set_option maxRecDepth 100000 in
set_option maxHeartbeats 20000000 in
theorem ci_Values_init {S : ASh} {V : ASt} {x0 x1 : Int} {S' : ASh} {V' : ASt} (h : g_Values_init S V x0 x1 = some (S', V')) : ACt m_Values_init 2 10 4201 [(aR x0), (aR x1)] S V none S' V' := by
  unfold g_Values_init at h
  refine ACt_of (plainFor_of_name rfl) rfl (Nat.le_of_ble_eq_true rfl) ?_
  show AWk m_Values_init 2 10 4201 0 0 0 [some (aR x0), some (aR x1)] [] S V none S' V'
  refine Ak_aload_n 1 0 (d_Values_init 0 0 (.aload_n 0) 1 rfl) rfl rfl rfl ?_
  obtain ⟨hg1, h⟩ := gd_some h
  refine Ak_objInit 4 (isO_nn hg1) lkM_Values_3 lk_oi (d_Values_init 1 1 (.invokespecial 3) 3 rfl) rfl (by decide) (Nat.le_of_ble_eq_true rfl) ?_
  refine Ak_aload_n 5 0 (d_Values_init 2 4 (.aload_n 0) 1 rfl) rfl rfl rfl ?_
  refine Ak_iconst 6 (d_Values_init 3 5 (.iconst 0) 1 rfl) rfl (rk rfl) ?_
  refine Ak_putZ 9 0 (Or.inl rfl) hg1 clX10 (by decide) rfl rfl rfl lkF_Values_9 (d_Values_init 4 6 (.putfield 9) 3 rfl) rfl (fun V2 hV2 => ?_)
  replace h := wV_some h V2 hV2
  refine Ak_aload_n 10 0 (d_Values_init 5 9 (.aload_n 0) 1 rfl) rfl rfl rfl ?_
  refine Ak_sipush 13 (d_Values_init 6 10 (.sipush 200) 3 rfl) rfl (sp_ok rfl) (rk rfl) ?_
  refine Ak_newaI 15 lk_arr0 (by decide) (by decide) (d_Values_init 7 13 (.newarray .int) 2 rfl) rfl (by decide) (by decide) (fun S3 V4 hS3 hV4 => ?_)
  replace h := wV_some (wS_some h S3 hS3) V4 hV4
  obtain ⟨hg5, h⟩ := gd_some h
  refine Ak_putF 18 2 hg5 clX10 (by decide) rfl rfl (fun o => by cases o <;> exact ⟨rfl, rfl⟩) rfl rfl lkF_Values_15 (d_Values_init 8 15 (.putfield 15) 3 rfl) rfl (fun S6 hS6 => ?_)
  replace h := wS_some h S6 hS6
  refine Ak_aload_n 19 0 (d_Values_init 9 18 (.aload_n 0) 1 rfl) rfl rfl rfl ?_
  refine Ak_sipush 22 (d_Values_init 10 19 (.sipush 200) 3 rfl) rfl (sp_ok rfl) (rk rfl) ?_
  refine Ak_newaI 24 lk_arr0 (by decide) (by decide) (d_Values_init 11 22 (.newarray .int) 2 rfl) rfl (by decide) (by decide) (fun S7 V8 hS7 hV8 => ?_)
  replace h := wV_some (wS_some h S7 hS7) V8 hV8
  obtain ⟨hg9, h⟩ := gd_some h
  refine Ak_putF 27 3 hg9 clX10 (by decide) rfl rfl (fun o => by cases o <;> exact ⟨rfl, rfl⟩) rfl rfl lkF_Values_19 (d_Values_init 12 24 (.putfield 19) 3 rfl) rfl (fun S10 hS10 => ?_)
  replace h := wS_some h S10 hS10
  refine Ak_aload_n 28 0 (d_Values_init 13 27 (.aload_n 0) 1 rfl) rfl rfl rfl ?_
  refine Ak_sipush 31 (d_Values_init 14 28 (.sipush 200) 3 rfl) rfl (sp_ok rfl) (rk rfl) ?_
  refine Ak_newaI 33 lk_arr0 (by decide) (by decide) (d_Values_init 15 31 (.newarray .int) 2 rfl) rfl (by decide) (by decide) (fun S11 V12 hS11 hV12 => ?_)
  replace h := wV_some (wS_some h S11 hS11) V12 hV12
  obtain ⟨hg13, h⟩ := gd_some h
  refine Ak_putF 36 4 hg13 clX10 (by decide) rfl rfl (fun o => by cases o <;> exact ⟨rfl, rfl⟩) rfl rfl lkF_Values_22 (d_Values_init 16 33 (.putfield 22) 3 rfl) rfl (fun S14 hS14 => ?_)
  replace h := wS_some h S14 hS14
  refine Ak_aload_n 37 0 (d_Values_init 17 36 (.aload_n 0) 1 rfl) rfl rfl rfl ?_
  refine Ak_sipush 40 (d_Values_init 18 37 (.sipush 201) 3 rfl) rfl (sp_ok rfl) (rk rfl) ?_
  refine Ak_newaI 42 lk_arr0 (by decide) (by decide) (d_Values_init 19 40 (.newarray .int) 2 rfl) rfl (by decide) (by decide) (fun S15 V16 hS15 hV16 => ?_)
  replace h := wV_some (wS_some h S15 hS15) V16 hV16
  obtain ⟨hg17, h⟩ := gd_some h
  refine Ak_putF 45 5 hg17 clX10 (by decide) rfl rfl (fun o => by cases o <;> exact ⟨rfl, rfl⟩) rfl rfl lkF_Values_25 (d_Values_init 20 42 (.putfield 25) 3 rfl) rfl (fun S18 hS18 => ?_)
  replace h := wS_some h S18 hS18
  refine Ak_aload_n 46 0 (d_Values_init 21 45 (.aload_n 0) 1 rfl) rfl rfl rfl ?_
  refine Ak_sipush 49 (d_Values_init 22 46 (.sipush 2400) 3 rfl) rfl (sp_ok rfl) (rk rfl) ?_
  refine Ak_newaI 51 lk_arr0 (by decide) (by decide) (d_Values_init 23 49 (.newarray .int) 2 rfl) rfl (by decide) (by decide) (fun S19 V20 hS19 hV20 => ?_)
  replace h := wV_some (wS_some h S19 hS19) V20 hV20
  obtain ⟨hg21, h⟩ := gd_some h
  refine Ak_putF 54 6 hg21 clX10 (by decide) rfl rfl (fun o => by cases o <;> exact ⟨rfl, rfl⟩) rfl rfl lkF_Values_28 (d_Values_init 24 51 (.putfield 28) 3 rfl) rfl (fun S22 hS22 => ?_)
  replace h := wS_some h S22 hS22
  refine Ak_aload_n 55 0 (d_Values_init 25 54 (.aload_n 0) 1 rfl) rfl rfl rfl ?_
  refine Ak_sipush 58 (d_Values_init 26 55 (.sipush 200) 3 rfl) rfl (sp_ok rfl) (rk rfl) ?_
  refine Ak_newaI 60 lk_arr0 (by decide) (by decide) (d_Values_init 27 58 (.newarray .int) 2 rfl) rfl (by decide) (by decide) (fun S23 V24 hS23 hV24 => ?_)
  replace h := wV_some (wS_some h S23 hS23) V24 hV24
  obtain ⟨hg25, h⟩ := gd_some h
  refine Ak_putF 63 7 hg25 clX10 (by decide) rfl rfl (fun o => by cases o <;> exact ⟨rfl, rfl⟩) rfl rfl lkF_Values_31 (d_Values_init 28 60 (.putfield 31) 3 rfl) rfl (fun S26 hS26 => ?_)
  replace h := wS_some h S26 hS26
  refine Ak_aload_n 64 0 (d_Values_init 29 63 (.aload_n 0) 1 rfl) rfl rfl rfl ?_
  refine Ak_iconst 65 (d_Values_init 30 64 (.iconst 0) 1 rfl) rfl (rk rfl) ?_
  obtain ⟨hg27, h⟩ := gd_some h
  refine Ak_putI 68 8 hg27 clX10 (by decide) rfl rfl rfl lkF_Values_34 (d_Values_init 31 65 (.putfield 34) 3 rfl) rfl (fun V28 hV28 => ?_)
  replace h := wV_some h V28 hV28
  refine Ak_aload_n 69 0 (d_Values_init 32 68 (.aload_n 0) 1 rfl) rfl rfl rfl ?_
  refine Ak_sipush 72 (d_Values_init 33 69 (.sipush 200) 3 rfl) rfl (sp_ok rfl) (rk rfl) ?_
  refine Ak_newaI 74 lk_arr0 (by decide) (by decide) (d_Values_init 34 72 (.newarray .int) 2 rfl) rfl (by decide) (by decide) (fun S29 V30 hS29 hV30 => ?_)
  replace h := wV_some (wS_some h S29 hS29) V30 hV30
  obtain ⟨hg31, h⟩ := gd_some h
  refine Ak_putF 77 9 hg31 clX10 (by decide) rfl rfl (fun o => by cases o <;> exact ⟨rfl, rfl⟩) rfl rfl lkF_Values_38 (d_Values_init 35 74 (.putfield 38) 3 rfl) rfl (fun S32 hS32 => ?_)
  replace h := wS_some h S32 hS32
  refine Ak_aload_n 78 0 (d_Values_init 36 77 (.aload_n 0) 1 rfl) rfl rfl rfl ?_
  refine Ak_sipush 81 (d_Values_init 37 78 (.sipush 200) 3 rfl) rfl (sp_ok rfl) (rk rfl) ?_
  refine Ak_newaI 83 lk_arr0 (by decide) (by decide) (d_Values_init 38 81 (.newarray .int) 2 rfl) rfl (by decide) (by decide) (fun S33 V34 hS33 hV34 => ?_)
  replace h := wV_some (wS_some h S33 hS33) V34 hV34
  obtain ⟨hg35, h⟩ := gd_some h
  refine Ak_putF 86 10 hg35 clX10 (by decide) rfl rfl (fun o => by cases o <;> exact ⟨rfl, rfl⟩) rfl rfl lkF_Values_41 (d_Values_init 39 83 (.putfield 41) 3 rfl) rfl (fun S36 hS36 => ?_)
  replace h := wS_some h S36 hS36
  refine Ak_aload_n 87 0 (d_Values_init 40 86 (.aload_n 0) 1 rfl) rfl rfl rfl ?_
  refine Ak_sipush 90 (d_Values_init 41 87 (.sipush 200) 3 rfl) rfl (sp_ok rfl) (rk rfl) ?_
  refine Ak_newaJ 92 lk_arr1 (by decide) (by decide) (d_Values_init 42 90 (.newarray .long) 2 rfl) rfl (by decide) (by decide) (fun S37 V38 hS37 hV38 => ?_)
  replace h := wV_some (wS_some h S37 hS37) V38 hV38
  obtain ⟨hg39, h⟩ := gd_some h
  refine Ak_putR 95 11 hg39 clX10 (by decide) rfl rfl (fun o => by cases o <;> exact ⟨rfl, rfl⟩) lkF_Values_44 (d_Values_init 43 92 (.putfield 44) 3 rfl) rfl (fun V40 hV40 => ?_)
  replace h := wV_some h V40 hV40
  refine Ak_aload_n 96 0 (d_Values_init 44 95 (.aload_n 0) 1 rfl) rfl rfl rfl ?_
  refine Ak_sipush 99 (d_Values_init 45 96 (.sipush 200) 3 rfl) rfl (sp_ok rfl) (rk rfl) ?_
  refine Ak_newaJ 101 lk_arr1 (by decide) (by decide) (d_Values_init 46 99 (.newarray .long) 2 rfl) rfl (by decide) (by decide) (fun S41 V42 hS41 hV42 => ?_)
  replace h := wV_some (wS_some h S41 hS41) V42 hV42
  obtain ⟨hg43, h⟩ := gd_some h
  refine Ak_putR 104 12 hg43 clX10 (by decide) rfl rfl (fun o => by cases o <;> exact ⟨rfl, rfl⟩) lkF_Values_48 (d_Values_init 47 101 (.putfield 48) 3 rfl) rfl (fun V44 hV44 => ?_)
  replace h := wV_some h V44 hV44
  refine Ak_aload_n 105 0 (d_Values_init 48 104 (.aload_n 0) 1 rfl) rfl rfl rfl ?_
  refine Ak_aload_n 106 1 (d_Values_init 49 105 (.aload_n 1) 1 rfl) rfl rfl rfl ?_
  refine Ak_putF 109 1 hg43 clX10 (by decide) rfl rfl (fun o => by cases o <;> exact ⟨rfl, rfl⟩) rfl rfl lkF_Values_51 (d_Values_init 50 106 (.putfield 51) 3 rfl) rfl (fun S45 hS45 => ?_)
  replace h := wS_some h S45 hS45
  cases h
  exact Ak_vret rfl (d_Values_init 51 109 (.return_) 1 rfl)
theorem ci_Worths_init {S : ASh} {V : ASt} {x0 x1 x2 : Int} {S' : ASh} {V' : ASt} (h : g_Worths_init S V x0 x1 x2 = some (S', V')) : ACt m_Worths_init 3 5 174 [(aR x0), (aR x1), (aR x2)] S V none S' V' := by
  unfold g_Worths_init at h
  refine ACt_of (plainFor_of_name rfl) rfl (Nat.le_of_ble_eq_true rfl) ?_
  show AWk m_Worths_init 3 5 174 0 0 0 [some (aR x0), some (aR x1), some (aR x2)] [] S V none S' V'
  refine Ak_aload_n 1 0 (d_Worths_init 0 0 (.aload_n 0) 1 rfl) rfl rfl rfl ?_
  obtain ⟨hg1, h⟩ := gd_some h
  refine Ak_objInit 4 (isO_nn hg1) lkM_Worths_3 lk_oi (d_Worths_init 1 1 (.invokespecial 3) 3 rfl) rfl (by decide) (Nat.le_of_ble_eq_true rfl) ?_
  refine Ak_aload_n 5 0 (d_Worths_init 2 4 (.aload_n 0) 1 rfl) rfl rfl rfl ?_
  refine Ak_iconst 6 (d_Worths_init 3 5 (.iconst 0) 1 rfl) rfl (rk rfl) ?_
  refine Ak_putZ 9 2 (Or.inl rfl) hg1 clX11 (by decide) rfl rfl rfl lkF_Worths_9 (d_Worths_init 4 6 (.putfield 9) 3 rfl) rfl (fun V2 hV2 => ?_)
  replace h := wV_some h V2 hV2
  refine Ak_aload_n 10 0 (d_Worths_init 5 9 (.aload_n 0) 1 rfl) rfl rfl rfl ?_
  refine Ak_new 13 clX6 lkC_Worths_15 lkI_6 lkN_6 (d_Worths_init 6 10 (.new 15) 3 rfl) rfl (by decide) (by decide) (fun S3 V4 hS3 hV4 => ?_)
  replace h := wV_some (wS_some h S3 hS3) V4 hV4
  refine Ak_dup 14 (d_Worths_init 7 13 (.dup) 1 rfl) rfl rfl ?_
  obtain ⟨S5, V6, h7, h⟩ := bndC_some h
  obtain ⟨hn8, h⟩ := gd_some h
  refine Ak_callIN 17 2 _ (ci_Slate_init h7) rfl (Int.natCast_nonneg _) mok_Slate_init (by decide) rfl (d_Worths_init 8 14 (.invokespecial 17) 3 rfl) rfl (by decide) ⟨by decide, by decide⟩ (dec_t hn8) (Nat.le_of_ble_eq_true rfl) ?_
  obtain ⟨hg9, h⟩ := gd_some h
  refine Ak_putF 20 3 hg9 clX11 (by decide) rfl rfl (fun o => by cases o <;> exact ⟨rfl, rfl⟩) rfl rfl lkF_Worths_18 (d_Worths_init 9 17 (.putfield 18) 3 rfl) rfl (fun S10 hS10 => ?_)
  replace h := wS_some h S10 hS10
  refine Ak_aload_n 21 0 (d_Worths_init 10 20 (.aload_n 0) 1 rfl) rfl rfl rfl ?_
  refine Ak_new 24 clX6 lkC_Worths_15 lkI_6 lkN_6 (d_Worths_init 11 21 (.new 15) 3 rfl) rfl (by decide) (by decide) (fun S11 V12 hS11 hV12 => ?_)
  replace h := wV_some (wS_some h S11 hS11) V12 hV12
  refine Ak_dup 25 (d_Worths_init 12 24 (.dup) 1 rfl) rfl rfl ?_
  obtain ⟨S13, V14, h15, h⟩ := bndC_some h
  obtain ⟨hn16, h⟩ := gd_some h
  refine Ak_callIN 28 2 _ (ci_Slate_init h15) rfl (Int.natCast_nonneg _) mok_Slate_init (by decide) rfl (d_Worths_init 13 25 (.invokespecial 17) 3 rfl) rfl (by decide) ⟨by decide, by decide⟩ (dec_t hn16) (Nat.le_of_ble_eq_true rfl) ?_
  obtain ⟨hg17, h⟩ := gd_some h
  refine Ak_putF 31 4 hg17 clX11 (by decide) rfl rfl (fun o => by cases o <;> exact ⟨rfl, rfl⟩) rfl rfl lkF_Worths_22 (d_Worths_init 14 28 (.putfield 22) 3 rfl) rfl (fun S18 hS18 => ?_)
  replace h := wS_some h S18 hS18
  refine Ak_aload_n 32 0 (d_Worths_init 15 31 (.aload_n 0) 1 rfl) rfl rfl rfl ?_
  refine Ak_sipush 35 (d_Worths_init 16 32 (.sipush 146) 3 rfl) rfl (sp_ok rfl) (rk rfl) ?_
  refine Ak_newaI 37 lk_arr0 (by decide) (by decide) (d_Worths_init 17 35 (.newarray .int) 2 rfl) rfl (by decide) (by decide) (fun S19 V20 hS19 hV20 => ?_)
  replace h := wV_some (wS_some h S19 hS19) V20 hV20
  obtain ⟨hg21, h⟩ := gd_some h
  refine Ak_putF 40 5 hg21 clX11 (by decide) rfl rfl (fun o => by cases o <;> exact ⟨rfl, rfl⟩) rfl rfl lkF_Worths_25 (d_Worths_init 18 37 (.putfield 25) 3 rfl) rfl (fun S22 hS22 => ?_)
  replace h := wS_some h S22 hS22
  refine Ak_aload_n 41 0 (d_Worths_init 19 40 (.aload_n 0) 1 rfl) rfl rfl rfl ?_
  refine Ak_aload_n 42 1 (d_Worths_init 20 41 (.aload_n 1) 1 rfl) rfl rfl rfl ?_
  obtain ⟨hg23, h⟩ := gd_some h
  refine Ak_putR 45 1 hg23 clX11 (by decide) rfl rfl (fun o => by cases o <;> exact ⟨rfl, rfl⟩) lkF_Worths_29 (d_Worths_init 21 42 (.putfield 29) 3 rfl) rfl (fun V24 hV24 => ?_)
  replace h := wV_some h V24 hV24
  refine Ak_aload_n 46 0 (d_Worths_init 22 45 (.aload_n 0) 1 rfl) rfl rfl rfl ?_
  refine Ak_aload_n 47 2 (d_Worths_init 23 46 (.aload_n 2) 1 rfl) rfl rfl rfl ?_
  refine Ak_putF 50 0 hg23 clX11 (by decide) rfl rfl (fun o => by cases o <;> exact ⟨rfl, rfl⟩) rfl rfl lkF_Worths_33 (d_Worths_init 24 47 (.putfield 33) 3 rfl) rfl (fun S25 hS25 => ?_)
  replace h := wS_some h S25 hS25
  cases h
  exact Ak_vret rfl (d_Worths_init 25 50 (.return_) 1 rfl)
theorem ci_Match_init {S : ASh} {V : ASt} {x0 : Int} {S' : ASh} {V' : ASt} (h : g_Match_init S V x0 = some (S', V')) : ACt m_Match_init 2 0 0 [(aR x0)] S V none S' V' := by
  unfold g_Match_init at h
  refine ACt_of (plainFor_of_name rfl) rfl (Nat.le_of_ble_eq_true rfl) ?_
  show AWk m_Match_init 2 0 0 0 0 0 [some (aR x0)] [] S V none S' V'
  refine Ak_aload_n 1 0 (d_Match_init 0 0 (.aload_n 0) 1 rfl) rfl rfl rfl ?_
  obtain ⟨hg1, h⟩ := gd_some h
  refine Ak_objInit 4 (isO_nn hg1) lkM_Match_3 lk_oi (d_Match_init 1 1 (.invokespecial 3) 3 rfl) rfl (by decide) (Nat.le_of_ble_eq_true rfl) ?_
  refine Ak_aload_n 5 0 (d_Match_init 2 4 (.aload_n 0) 1 rfl) rfl rfl rfl ?_
  refine Ak_iconst 6 (d_Match_init 3 5 (.iconst 0) 1 rfl) rfl (rk rfl) ?_
  refine Ak_putI 9 0 hg1 clX3 (by decide) rfl rfl rfl lkF_Match_9 (d_Match_init 4 6 (.putfield 9) 3 rfl) rfl (fun V2 hV2 => ?_)
  replace h := wV_some h V2 hV2
  refine Ak_aload_n 10 0 (d_Match_init 5 9 (.aload_n 0) 1 rfl) rfl rfl rfl ?_
  refine Ak_iconst 11 (d_Match_init 6 10 (.iconst 0) 1 rfl) rfl (rk rfl) ?_
  refine Ak_putI 14 1 hg1 clX3 (by decide) rfl rfl rfl lkF_Match_15 (d_Match_init 7 11 (.putfield 15) 3 rfl) rfl (fun V3 hV3 => ?_)
  replace h := wV_some h V3 hV3
  refine Ak_aload_n 15 0 (d_Match_init 8 14 (.aload_n 0) 1 rfl) rfl rfl rfl ?_
  refine Ak_iconst 16 (d_Match_init 9 15 (.iconst (-1)) 1 rfl) rfl (rk rfl) ?_
  refine Ak_putI 19 2 hg1 clX3 (by decide) rfl rfl rfl lkF_Match_18 (d_Match_init 10 16 (.putfield 18) 3 rfl) rfl (fun V4 hV4 => ?_)
  replace h := wV_some h V4 hV4
  cases h
  exact Ak_vret rfl (d_Match_init 11 19 (.return_) 1 rfl)
set_option maxRecDepth 100000 in
set_option maxHeartbeats 20000000 in
theorem ci_SG_init {S : ASh} {V : ASt} {x0 : Int} {S' : ASh} {V' : ASt} (h : g_SG_init S V x0 = some (S', V')) : ACt m_SG_init 22 141 40361 [(aR x0)] S V none S' V' := by
  unfold g_SG_init at h
  refine ACt_of (plainFor_of_name rfl) rfl (Nat.le_of_ble_eq_true rfl) ?_
  show AWk m_SG_init 22 141 40361 0 0 0 [some (aR x0)] [] S V none S' V'
  refine Ak_aload_n 1 0 (d_SG_init 0 0 (.aload_n 0) 1 rfl) rfl rfl rfl ?_
  obtain ⟨hg1, h⟩ := gd_some h
  refine Ak_objInit 4 (isO_nn hg1) lkM_SG_3 lk_oi (d_SG_init 1 1 (.invokespecial 3) 3 rfl) rfl (by decide) (Nat.le_of_ble_eq_true rfl) ?_
  refine Ak_aload_n 5 0 (d_SG_init 2 4 (.aload_n 0) 1 rfl) rfl rfl rfl ?_
  refine Ak_new 8 clX0 lkC_SG_9 lkI_0 lkN_0 (d_SG_init 3 5 (.new 9) 3 rfl) rfl (by decide) (by decide) (fun S2 V3 hS2 hV3 => ?_)
  replace h := wV_some (wS_some h S2 hS2) V3 hV3
  refine Ak_dup 9 (d_SG_init 4 8 (.dup) 1 rfl) rfl rfl ?_
  refine Ak_sipush 12 (d_SG_init 5 9 (.sipush 1800) 3 rfl) rfl (sp_ok rfl) (rk rfl) ?_
  obtain ⟨S4, V5, h6, h⟩ := bndC_some h
  obtain ⟨hn7, h⟩ := gd_some h
  refine Ak_callI 15 3 _ (ci_Bytes_init1800 h6) rfl (Int.natCast_nonneg _) mok_Bytes_init lkM_SG_11 (d_SG_init 6 12 (.invokespecial 11) 3 rfl) rfl (by decide) ⟨by decide, by decide⟩ (dec_t hn7) (Nat.le_of_ble_eq_true rfl) ?_
  obtain ⟨hg8, h⟩ := gd_some h
  refine Ak_putF 18 0 hg8 clX12 (by decide) rfl rfl (fun o => by cases o <;> exact ⟨rfl, rfl⟩) rfl rfl lkF_SG_14 (d_SG_init 7 15 (.putfield 14) 3 rfl) rfl (fun S9 hS9 => ?_)
  replace h := wS_some h S9 hS9
  refine Ak_aload_n 19 0 (d_SG_init 8 18 (.aload_n 0) 1 rfl) rfl rfl rfl ?_
  refine Ak_new 22 clX1 lkC_SG_18 lkI_1 lkN_1 (d_SG_init 9 19 (.new 18) 3 rfl) rfl (by decide) (by decide) (fun S10 V11 hS10 hV11 => ?_)
  replace h := wV_some (wS_some h S10 hS10) V11 hV11
  refine Ak_dup 23 (d_SG_init 10 22 (.dup) 1 rfl) rfl rfl ?_
  obtain ⟨S12, V13, h14, h⟩ := bndC_some h
  obtain ⟨hn15, h⟩ := gd_some h
  refine Ak_callIN 26 3 _ (ci_Game_init h14) rfl (Int.natCast_nonneg _) mok_Game_init (by decide) rfl (d_SG_init 11 23 (.invokespecial 20) 3 rfl) rfl (by decide) ⟨by decide, by decide⟩ (dec_t hn15) (Nat.le_of_ble_eq_true rfl) ?_
  obtain ⟨hg16, h⟩ := gd_some h
  refine Ak_putR 29 1 hg16 clX12 (by decide) rfl rfl (fun o => by cases o <;> exact ⟨rfl, rfl⟩) lkF_SG_21 (d_SG_init 12 26 (.putfield 21) 3 rfl) rfl (fun V17 hV17 => ?_)
  replace h := wV_some h V17 hV17
  refine Ak_aload_n 30 0 (d_SG_init 13 29 (.aload_n 0) 1 rfl) rfl rfl rfl ?_
  refine Ak_new 33 clX1 lkC_SG_18 lkI_1 lkN_1 (d_SG_init 14 30 (.new 18) 3 rfl) rfl (by decide) (by decide) (fun S18 V19 hS18 hV19 => ?_)
  replace h := wV_some (wS_some h S18 hS18) V19 hV19
  refine Ak_dup 34 (d_SG_init 15 33 (.dup) 1 rfl) rfl rfl ?_
  obtain ⟨S20, V21, h22, h⟩ := bndC_some h
  obtain ⟨hn23, h⟩ := gd_some h
  refine Ak_callIN 37 3 _ (ci_Game_init h22) rfl (Int.natCast_nonneg _) mok_Game_init (by decide) rfl (d_SG_init 16 34 (.invokespecial 20) 3 rfl) rfl (by decide) ⟨by decide, by decide⟩ (dec_t hn23) (Nat.le_of_ble_eq_true rfl) ?_
  obtain ⟨hg24, h⟩ := gd_some h
  refine Ak_putR 40 2 hg24 clX12 (by decide) rfl rfl (fun o => by cases o <;> exact ⟨rfl, rfl⟩) lkF_SG_25 (d_SG_init 17 37 (.putfield 25) 3 rfl) rfl (fun V25 hV25 => ?_)
  replace h := wV_some h V25 hV25
  refine Ak_aload_n 41 0 (d_SG_init 18 40 (.aload_n 0) 1 rfl) rfl rfl rfl ?_
  refine Ak_new 44 clX5 lkC_SG_28 lkI_5 lkN_5 (d_SG_init 19 41 (.new 28) 3 rfl) rfl (by decide) (by decide) (fun S26 V27 hS26 hV27 => ?_)
  replace h := wV_some (wS_some h S26 hS26) V27 hV27
  refine Ak_dup 45 (d_SG_init 20 44 (.dup) 1 rfl) rfl rfl ?_
  refine Ak_aload_n 46 0 (d_SG_init 21 45 (.aload_n 0) 1 rfl) rfl rfl rfl ?_
  obtain ⟨hg28, h⟩ := gd_some h
  refine Ak_getR 49 2 hg28 clX12 (by decide) rfl lkF_SG_25 (d_SG_init 22 46 (.getfield 25) 3 rfl) rfl ?_
  obtain ⟨S29, V30, h31, h⟩ := bndC_some h
  obtain ⟨hn32, h⟩ := gd_some h
  refine Ak_callI 52 21 _ (ci_Reader_init h31) rfl (Int.natCast_nonneg _) mok_Reader_init lkM_SG_30 (d_SG_init 23 49 (.invokespecial 30) 3 rfl) rfl (by decide) ⟨by decide, by decide⟩ (dec_t hn32) (Nat.le_of_ble_eq_true rfl) ?_
  obtain ⟨hg33, h⟩ := gd_some h
  refine Ak_putF 55 3 hg33 clX12 (by decide) rfl rfl (fun o => by cases o <;> exact ⟨rfl, rfl⟩) rfl rfl lkF_SG_33 (d_SG_init 24 52 (.putfield 33) 3 rfl) rfl (fun S34 hS34 => ?_)
  replace h := wS_some h S34 hS34
  refine Ak_aload_n 56 0 (d_SG_init 25 55 (.aload_n 0) 1 rfl) rfl rfl rfl ?_
  refine Ak_new 59 clX6 lkC_SG_37 lkI_6 lkN_6 (d_SG_init 26 56 (.new 37) 3 rfl) rfl (by decide) (by decide) (fun S35 V36 hS35 hV36 => ?_)
  replace h := wV_some (wS_some h S35 hS35) V36 hV36
  refine Ak_dup 60 (d_SG_init 27 59 (.dup) 1 rfl) rfl rfl ?_
  obtain ⟨S37, V38, h39, h⟩ := bndC_some h
  obtain ⟨hn40, h⟩ := gd_some h
  refine Ak_callIN 63 2 _ (ci_Slate_init h39) rfl (Int.natCast_nonneg _) mok_Slate_init (by decide) rfl (d_SG_init 28 60 (.invokespecial 39) 3 rfl) rfl (by decide) ⟨by decide, by decide⟩ (dec_t hn40) (Nat.le_of_ble_eq_true rfl) ?_
  obtain ⟨hg41, h⟩ := gd_some h
  refine Ak_putF 66 4 hg41 clX12 (by decide) rfl rfl (fun o => by cases o <;> exact ⟨rfl, rfl⟩) rfl rfl lkF_SG_40 (d_SG_init 29 63 (.putfield 40) 3 rfl) rfl (fun S42 hS42 => ?_)
  replace h := wS_some h S42 hS42
  refine Ak_aload_n 67 0 (d_SG_init 30 66 (.aload_n 0) 1 rfl) rfl rfl rfl ?_
  refine Ak_new 70 clX7 lkC_SG_44 lkI_7 lkN_7 (d_SG_init 31 67 (.new 44) 3 rfl) rfl (by decide) (by decide) (fun S43 V44 hS43 hV44 => ?_)
  replace h := wV_some (wS_some h S43 hS43) V44 hV44
  refine Ak_dup 71 (d_SG_init 32 70 (.dup) 1 rfl) rfl rfl ?_
  obtain ⟨S45, V46, h47, h⟩ := bndC_some h
  obtain ⟨hn48, h⟩ := gd_some h
  refine Ak_callIN 74 3 _ (ci_Spring_init h47) rfl (Int.natCast_nonneg _) mok_Spring_init (by decide) rfl (d_SG_init 33 71 (.invokespecial 46) 3 rfl) rfl (by decide) ⟨by decide, by decide⟩ (dec_t hn48) (Nat.le_of_ble_eq_true rfl) ?_
  obtain ⟨hg49, h⟩ := gd_some h
  refine Ak_putF 77 5 hg49 clX12 (by decide) rfl rfl (fun o => by cases o <;> exact ⟨rfl, rfl⟩) rfl rfl lkF_SG_47 (d_SG_init 34 74 (.putfield 47) 3 rfl) rfl (fun S50 hS50 => ?_)
  replace h := wS_some h S50 hS50
  refine Ak_aload_n 78 0 (d_SG_init 35 77 (.aload_n 0) 1 rfl) rfl rfl rfl ?_
  refine Ak_new 81 clX2 lkC_SG_51 lkI_2 lkN_2 (d_SG_init 36 78 (.new 51) 3 rfl) rfl (by decide) (by decide) (fun S51 V52 hS51 hV52 => ?_)
  replace h := wV_some (wS_some h S51 hS51) V52 hV52
  refine Ak_dup 82 (d_SG_init 37 81 (.dup) 1 rfl) rfl rfl ?_
  obtain ⟨S53, V54, h55, h⟩ := bndC_some h
  obtain ⟨hn56, h⟩ := gd_some h
  refine Ak_callIN 85 2 _ (ci_History_init h55) rfl (Int.natCast_nonneg _) mok_History_init (by decide) rfl (d_SG_init 38 82 (.invokespecial 53) 3 rfl) rfl (by decide) ⟨by decide, by decide⟩ (dec_t hn56) (Nat.le_of_ble_eq_true rfl) ?_
  obtain ⟨hg57, h⟩ := gd_some h
  refine Ak_putF 88 6 hg57 clX12 (by decide) rfl rfl (fun o => by cases o <;> exact ⟨rfl, rfl⟩) rfl rfl lkF_SG_54 (d_SG_init 39 85 (.putfield 54) 3 rfl) rfl (fun S58 hS58 => ?_)
  replace h := wS_some h S58 hS58
  refine Ak_aload_n 89 0 (d_SG_init 40 88 (.aload_n 0) 1 rfl) rfl rfl rfl ?_
  refine Ak_new 92 clX4 lkC_SG_58 lkI_4 lkN_4 (d_SG_init 41 89 (.new 58) 3 rfl) rfl (by decide) (by decide) (fun S59 V60 hS59 hV60 => ?_)
  replace h := wV_some (wS_some h S59 hS59) V60 hV60
  refine Ak_dup 93 (d_SG_init 42 92 (.dup) 1 rfl) rfl rfl ?_
  refine Ak_aload_n 94 0 (d_SG_init 43 93 (.aload_n 0) 1 rfl) rfl rfl rfl ?_
  obtain ⟨hg61, h⟩ := gd_some h
  refine Ak_getR 97 1 hg61 clX12 (by decide) rfl lkF_SG_21 (d_SG_init 44 94 (.getfield 21) 3 rfl) rfl ?_
  obtain ⟨S62, V63, h64, h⟩ := bndC_some h
  obtain ⟨hn65, h⟩ := gd_some h
  refine Ak_callI 100 2 _ (ci_Moves_init h64) rfl (Int.natCast_nonneg _) mok_Moves_init lkM_SG_60 (d_SG_init 45 97 (.invokespecial 60) 3 rfl) rfl (by decide) ⟨by decide, by decide⟩ (dec_t hn65) (Nat.le_of_ble_eq_true rfl) ?_
  obtain ⟨hg66, h⟩ := gd_some h
  refine Ak_putF 103 7 hg66 clX12 (by decide) rfl rfl (fun o => by cases o <;> exact ⟨rfl, rfl⟩) rfl rfl lkF_SG_61 (d_SG_init 46 100 (.putfield 61) 3 rfl) rfl (fun S67 hS67 => ?_)
  replace h := wS_some h S67 hS67
  refine Ak_aload_n 104 0 (d_SG_init 47 103 (.aload_n 0) 1 rfl) rfl rfl rfl ?_
  refine Ak_new 107 clX10 lkC_SG_65 lkI_10 lkN_10 (d_SG_init 48 104 (.new 65) 3 rfl) rfl (by decide) (by decide) (fun S68 V69 hS68 hV69 => ?_)
  replace h := wV_some (wS_some h S68 hS68) V69 hV69
  refine Ak_dup 108 (d_SG_init 49 107 (.dup) 1 rfl) rfl rfl ?_
  refine Ak_aload_n 109 0 (d_SG_init 50 108 (.aload_n 0) 1 rfl) rfl rfl rfl ?_
  obtain ⟨hg70, h⟩ := gd_some h
  refine Ak_getF 112 7 hg70 clX12 (by decide) rfl lkF_SG_61 (d_SG_init 51 109 (.getfield 61) 3 rfl) rfl ?_
  obtain ⟨S71, V72, h73, h⟩ := bndC_some h
  obtain ⟨hn74, h⟩ := gd_some h
  refine Ak_callI 115 2 _ (ci_Values_init h73) rfl (Int.natCast_nonneg _) mok_Values_init lkM_SG_67 (d_SG_init 52 112 (.invokespecial 67) 3 rfl) rfl (by decide) ⟨by decide, by decide⟩ (dec_t hn74) (Nat.le_of_ble_eq_true rfl) ?_
  obtain ⟨hg75, h⟩ := gd_some h
  refine Ak_putF 118 8 hg75 clX12 (by decide) rfl rfl (fun o => by cases o <;> exact ⟨rfl, rfl⟩) rfl rfl lkF_SG_70 (d_SG_init 53 115 (.putfield 70) 3 rfl) rfl (fun S76 hS76 => ?_)
  replace h := wS_some h S76 hS76
  refine Ak_aload_n 119 0 (d_SG_init 54 118 (.aload_n 0) 1 rfl) rfl rfl rfl ?_
  refine Ak_new 122 clX10 lkC_SG_65 lkI_10 lkN_10 (d_SG_init 55 119 (.new 65) 3 rfl) rfl (by decide) (by decide) (fun S77 V78 hS77 hV78 => ?_)
  replace h := wV_some (wS_some h S77 hS77) V78 hV78
  refine Ak_dup 123 (d_SG_init 56 122 (.dup) 1 rfl) rfl rfl ?_
  refine Ak_new 126 clX4 lkC_SG_58 lkI_4 lkN_4 (d_SG_init 57 123 (.new 58) 3 rfl) rfl (by decide) (by decide) (fun S79 V80 hS79 hV80 => ?_)
  replace h := wV_some (wS_some h S79 hS79) V80 hV80
  refine Ak_dup 127 (d_SG_init 58 126 (.dup) 1 rfl) rfl rfl ?_
  refine Ak_aload_n 128 0 (d_SG_init 59 127 (.aload_n 0) 1 rfl) rfl rfl rfl ?_
  obtain ⟨hg81, h⟩ := gd_some h
  refine Ak_getR 131 1 hg81 clX12 (by decide) rfl lkF_SG_21 (d_SG_init 60 128 (.getfield 21) 3 rfl) rfl ?_
  obtain ⟨S82, V83, h84, h⟩ := bndC_some h
  obtain ⟨hn85, h⟩ := gd_some h
  refine Ak_callI 134 2 _ (ci_Moves_init h84) rfl (Int.natCast_nonneg _) mok_Moves_init lkM_SG_60 (d_SG_init 61 131 (.invokespecial 60) 3 rfl) rfl (by decide) ⟨by decide, by decide⟩ (dec_t hn85) (Nat.le_of_ble_eq_true rfl) ?_
  obtain ⟨S86, V87, h88, h⟩ := bndC_some h
  obtain ⟨hn89, h⟩ := gd_some h
  refine Ak_callI 137 2 _ (ci_Values_init h88) rfl (Int.natCast_nonneg _) mok_Values_init lkM_SG_67 (d_SG_init 62 134 (.invokespecial 67) 3 rfl) rfl (by decide) ⟨by decide, by decide⟩ (dec_t hn89) (Nat.le_of_ble_eq_true rfl) ?_
  obtain ⟨hg90, h⟩ := gd_some h
  refine Ak_putF 140 9 hg90 clX12 (by decide) rfl rfl (fun o => by cases o <;> exact ⟨rfl, rfl⟩) rfl rfl lkF_SG_74 (d_SG_init 63 137 (.putfield 74) 3 rfl) rfl (fun S91 hS91 => ?_)
  replace h := wS_some h S91 hS91
  refine Ak_aload_n 141 0 (d_SG_init 64 140 (.aload_n 0) 1 rfl) rfl rfl rfl ?_
  refine Ak_new 144 clX11 lkC_SG_77 lkI_11 lkN_11 (d_SG_init 65 141 (.new 77) 3 rfl) rfl (by decide) (by decide) (fun S92 V93 hS92 hV93 => ?_)
  replace h := wV_some (wS_some h S92 hS92) V93 hV93
  refine Ak_dup 145 (d_SG_init 66 144 (.dup) 1 rfl) rfl rfl ?_
  refine Ak_aload_n 146 0 (d_SG_init 67 145 (.aload_n 0) 1 rfl) rfl rfl rfl ?_
  obtain ⟨hg94, h⟩ := gd_some h
  refine Ak_getR 149 1 hg94 clX12 (by decide) rfl lkF_SG_21 (d_SG_init 68 146 (.getfield 21) 3 rfl) rfl ?_
  refine Ak_aload_n 150 0 (d_SG_init 69 149 (.aload_n 0) 1 rfl) rfl rfl rfl ?_
  refine Ak_getF 153 9 hg94 clX12 (by decide) rfl lkF_SG_74 (d_SG_init 70 150 (.getfield 74) 3 rfl) rfl ?_
  obtain ⟨S95, V96, h97, h⟩ := bndC_some h
  obtain ⟨hn98, h⟩ := gd_some h
  refine Ak_callI 156 3 _ (ci_Worths_init h97) rfl (Int.natCast_nonneg _) mok_Worths_init lkM_SG_79 (d_SG_init 71 153 (.invokespecial 79) 3 rfl) rfl (by decide) ⟨by decide, by decide⟩ (dec_t hn98) (Nat.le_of_ble_eq_true rfl) ?_
  obtain ⟨hg99, h⟩ := gd_some h
  refine Ak_putF 159 10 hg99 clX12 (by decide) rfl rfl (fun o => by cases o <;> exact ⟨rfl, rfl⟩) rfl rfl lkF_SG_82 (d_SG_init 72 156 (.putfield 82) 3 rfl) rfl (fun S100 hS100 => ?_)
  replace h := wS_some h S100 hS100
  refine Ak_aload_n 160 0 (d_SG_init 73 159 (.aload_n 0) 1 rfl) rfl rfl rfl ?_
  refine Ak_new 163 clX11 lkC_SG_77 lkI_11 lkN_11 (d_SG_init 74 160 (.new 77) 3 rfl) rfl (by decide) (by decide) (fun S101 V102 hS101 hV102 => ?_)
  replace h := wV_some (wS_some h S101 hS101) V102 hV102
  refine Ak_dup 164 (d_SG_init 75 163 (.dup) 1 rfl) rfl rfl ?_
  refine Ak_aload_n 165 0 (d_SG_init 76 164 (.aload_n 0) 1 rfl) rfl rfl rfl ?_
  obtain ⟨hg103, h⟩ := gd_some h
  refine Ak_getR 168 1 hg103 clX12 (by decide) rfl lkF_SG_21 (d_SG_init 77 165 (.getfield 21) 3 rfl) rfl ?_
  refine Ak_aload_n 169 0 (d_SG_init 78 168 (.aload_n 0) 1 rfl) rfl rfl rfl ?_
  refine Ak_getF 172 9 hg103 clX12 (by decide) rfl lkF_SG_74 (d_SG_init 79 169 (.getfield 74) 3 rfl) rfl ?_
  obtain ⟨S104, V105, h106, h⟩ := bndC_some h
  obtain ⟨hn107, h⟩ := gd_some h
  refine Ak_callI 175 3 _ (ci_Worths_init h106) rfl (Int.natCast_nonneg _) mok_Worths_init lkM_SG_79 (d_SG_init 80 172 (.invokespecial 79) 3 rfl) rfl (by decide) ⟨by decide, by decide⟩ (dec_t hn107) (Nat.le_of_ble_eq_true rfl) ?_
  obtain ⟨hg108, h⟩ := gd_some h
  refine Ak_putF 178 11 hg108 clX12 (by decide) rfl rfl (fun o => by cases o <;> exact ⟨rfl, rfl⟩) rfl rfl lkF_SG_86 (d_SG_init 81 175 (.putfield 86) 3 rfl) rfl (fun S109 hS109 => ?_)
  replace h := wS_some h S109 hS109
  refine Ak_aload_n 179 0 (d_SG_init 82 178 (.aload_n 0) 1 rfl) rfl rfl rfl ?_
  refine Ak_bipush 181 (d_SG_init 83 179 (.bipush 13) 2 rfl) rfl (bp_ok rfl) (rk rfl) ?_
  refine Ak_anew 184 lkC_SG_37 (by decide) (by decide) (d_SG_init 84 181 (.anewarray 37) 3 rfl) rfl (by decide) (by decide) (fun S110 V111 hS110 hV111 => ?_)
  replace h := wV_some (wS_some h S110 hS110) V111 hV111
  obtain ⟨hg112, h⟩ := gd_some h
  refine Ak_putF 187 12 hg112 clX12 (by decide) rfl rfl (fun o => by cases o <;> exact ⟨rfl, rfl⟩) rfl rfl lkF_SG_89 (d_SG_init 85 184 (.putfield 89) 3 rfl) rfl (fun S113 hS113 => ?_)
  replace h := wS_some h S113 hS113
  refine Ak_aload_n 188 0 (d_SG_init 86 187 (.aload_n 0) 1 rfl) rfl rfl rfl ?_
  refine Ak_new 191 clX3 lkC_SG_93 lkI_3 lkN_3 (d_SG_init 87 188 (.new 93) 3 rfl) rfl (by decide) (by decide) (fun S114 V115 hS114 hV115 => ?_)
  replace h := wV_some (wS_some h S114 hS114) V115 hV115
  refine Ak_dup 192 (d_SG_init 88 191 (.dup) 1 rfl) rfl rfl ?_
  obtain ⟨S116, V117, h118, h⟩ := bndC_some h
  obtain ⟨hn119, h⟩ := gd_some h
  refine Ak_callIN 195 2 _ (ci_Match_init h118) rfl (Int.natCast_nonneg _) mok_Match_init (by decide) rfl (d_SG_init 89 192 (.invokespecial 95) 3 rfl) rfl (by decide) ⟨by decide, by decide⟩ (dec_t hn119) (Nat.le_of_ble_eq_true rfl) ?_
  obtain ⟨hg120, h⟩ := gd_some h
  refine Ak_putF 198 13 hg120 clX12 (by decide) rfl rfl (fun o => by cases o <;> exact ⟨rfl, rfl⟩) rfl rfl lkF_SG_96 (d_SG_init 90 195 (.putfield 96) 3 rfl) rfl (fun S121 hS121 => ?_)
  replace h := wS_some h S121 hS121
  refine Ak_aload_n 199 0 (d_SG_init 91 198 (.aload_n 0) 1 rfl) rfl rfl rfl ?_
  refine Ak_new 202 clX3 lkC_SG_93 lkI_3 lkN_3 (d_SG_init 92 199 (.new 93) 3 rfl) rfl (by decide) (by decide) (fun S122 V123 hS122 hV123 => ?_)
  replace h := wV_some (wS_some h S122 hS122) V123 hV123
  refine Ak_dup 203 (d_SG_init 93 202 (.dup) 1 rfl) rfl rfl ?_
  obtain ⟨S124, V125, h126, h⟩ := bndC_some h
  obtain ⟨hn127, h⟩ := gd_some h
  refine Ak_callIN 206 2 _ (ci_Match_init h126) rfl (Int.natCast_nonneg _) mok_Match_init (by decide) rfl (d_SG_init 94 203 (.invokespecial 95) 3 rfl) rfl (by decide) ⟨by decide, by decide⟩ (dec_t hn127) (Nat.le_of_ble_eq_true rfl) ?_
  obtain ⟨hg128, h⟩ := gd_some h
  refine Ak_putF 209 14 hg128 clX12 (by decide) rfl rfl (fun o => by cases o <;> exact ⟨rfl, rfl⟩) rfl rfl lkF_SG_100 (d_SG_init 95 206 (.putfield 100) 3 rfl) rfl (fun S129 hS129 => ?_)
  replace h := wS_some h S129 hS129
  refine Ak_aload_n 210 0 (d_SG_init 96 209 (.aload_n 0) 1 rfl) rfl rfl rfl ?_
  refine Ak_iconst 211 (d_SG_init 97 210 (.iconst 2) 1 rfl) rfl (rk rfl) ?_
  refine Ak_newaI 213 lk_arr0 (by decide) (by decide) (d_SG_init 98 211 (.newarray .int) 2 rfl) rfl (by decide) (by decide) (fun S130 V131 hS130 hV131 => ?_)
  replace h := wV_some (wS_some h S130 hS130) V131 hV131
  obtain ⟨hg132, h⟩ := gd_some h
  refine Ak_putF 216 15 hg132 clX12 (by decide) rfl rfl (fun o => by cases o <;> exact ⟨rfl, rfl⟩) rfl rfl lkF_SG_103 (d_SG_init 99 213 (.putfield 103) 3 rfl) rfl (fun S133 hS133 => ?_)
  replace h := wS_some h S133 hS133
  refine Ak_aload_n 217 0 (d_SG_init 100 216 (.aload_n 0) 1 rfl) rfl rfl rfl ?_
  refine Ak_iconst 218 (d_SG_init 101 217 (.iconst 2) 1 rfl) rfl (rk rfl) ?_
  refine Ak_newaI 220 lk_arr0 (by decide) (by decide) (d_SG_init 102 218 (.newarray .int) 2 rfl) rfl (by decide) (by decide) (fun S134 V135 hS134 hV135 => ?_)
  replace h := wV_some (wS_some h S134 hS134) V135 hV135
  obtain ⟨hg136, h⟩ := gd_some h
  refine Ak_putF 223 16 hg136 clX12 (by decide) rfl rfl (fun o => by cases o <;> exact ⟨rfl, rfl⟩) rfl rfl lkF_SG_107 (d_SG_init 103 220 (.putfield 107) 3 rfl) rfl (fun S137 hS137 => ?_)
  replace h := wS_some h S137 hS137
  refine Ak_aload_n 224 0 (d_SG_init 104 223 (.aload_n 0) 1 rfl) rfl rfl rfl ?_
  refine Ak_iconst 225 (d_SG_init 105 224 (.iconst 0) 1 rfl) rfl (rk rfl) ?_
  obtain ⟨hg138, h⟩ := gd_some h
  refine Ak_putI 228 17 hg138 clX12 (by decide) rfl rfl rfl lkF_SG_110 (d_SG_init 106 225 (.putfield 110) 3 rfl) rfl (fun V139 hV139 => ?_)
  replace h := wV_some h V139 hV139
  refine Ak_aload_n 229 0 (d_SG_init 107 228 (.aload_n 0) 1 rfl) rfl rfl rfl ?_
  refine Ak_new 232 clX0 lkC_SG_9 lkI_0 lkN_0 (d_SG_init 108 229 (.new 9) 3 rfl) rfl (by decide) (by decide) (fun S140 V141 hS140 hV141 => ?_)
  replace h := wV_some (wS_some h S140 hS140) V141 hV141
  refine Ak_dup 233 (d_SG_init 109 232 (.dup) 1 rfl) rfl rfl ?_
  refine Ak_bipush 235 (d_SG_init 110 233 (.bipush 44) 2 rfl) rfl (bp_ok rfl) (rk rfl) ?_
  obtain ⟨S142, V143, h144, h⟩ := bndC_some h
  obtain ⟨hn145, h⟩ := gd_some h
  refine Ak_callI 238 3 _ (ci_Bytes_init44 h144) rfl (Int.natCast_nonneg _) mok_Bytes_init lkM_SG_11 (d_SG_init 111 235 (.invokespecial 11) 3 rfl) rfl (by decide) ⟨by decide, by decide⟩ (dec_t hn145) (Nat.le_of_ble_eq_true rfl) ?_
  obtain ⟨hg146, h⟩ := gd_some h
  refine Ak_putF 241 18 hg146 clX12 (by decide) rfl rfl (fun o => by cases o <;> exact ⟨rfl, rfl⟩) rfl rfl lkF_SG_114 (d_SG_init 112 238 (.putfield 114) 3 rfl) rfl (fun S147 hS147 => ?_)
  replace h := wS_some h S147 hS147
  refine Ak_aload_n 242 0 (d_SG_init 113 241 (.aload_n 0) 1 rfl) rfl rfl rfl ?_
  refine Ak_bipush 244 (d_SG_init 114 242 (.bipush 6) 2 rfl) rfl (bp_ok rfl) (rk rfl) ?_
  refine Ak_newaI 246 lk_arr0 (by decide) (by decide) (d_SG_init 115 244 (.newarray .int) 2 rfl) rfl (by decide) (by decide) (fun S148 V149 hS148 hV149 => ?_)
  replace h := wV_some (wS_some h S148 hS148) V149 hV149
  obtain ⟨hg150, h⟩ := gd_some h
  refine Ak_putF 249 19 hg150 clX12 (by decide) rfl rfl (fun o => by cases o <;> exact ⟨rfl, rfl⟩) rfl rfl lkF_SG_117 (d_SG_init 116 246 (.putfield 117) 3 rfl) rfl (fun S151 hS151 => ?_)
  replace h := wS_some h S151 hS151
  refine Ak_iconst 250 (d_SG_init 117 249 (.iconst 0) 1 rfl) rfl (rk rfl) ?_
  refine Ak_istore_n 251 1 (d_SG_init 118 250 (.istore_n 1) 1 rfl) rfl rfl (by decide) ?_
  refine Ak_iload_n 252 1 (d_SG_init 119 251 (.iload_n 1) 1 rfl) rfl rfl rfl ?_
  refine Ak_bipush 254 (d_SG_init 120 252 (.bipush 12) 2 rfl) rfl (bp_ok rfl) (rk rfl) ?_
  refine Ak_icmp_gt 276 257 (d_SG_init 121 254 (.if_icmp .gt 22) 3 rfl) rfl rfl (fun hc => absurd hc (by decide)) (fun hc => ?_)
  refine Ak_aload_n 258 0 (d_SG_init 122 257 (.aload_n 0) 1 rfl) rfl rfl rfl ?_
  obtain ⟨hg152, h⟩ := gd_some h
  refine Ak_getF 261 12 hg152 clX12 (by decide) rfl lkF_SG_89 (d_SG_init 123 258 (.getfield 89) 3 rfl) rfl ?_
  refine Ak_iload_n 262 1 (d_SG_init 124 261 (.iload_n 1) 1 rfl) rfl rfl rfl ?_
  refine Ak_new 265 clX6 lkC_SG_37 lkI_6 lkN_6 (d_SG_init 125 262 (.new 37) 3 rfl) rfl (by decide) (by decide) (fun S153 V154 hS153 hV154 => ?_)
  replace h := wV_some (wS_some h S153 hS153) V154 hV154
  refine Ak_dup 266 (d_SG_init 126 265 (.dup) 1 rfl) rfl rfl ?_
  obtain ⟨S155, V156, h157, h⟩ := bndC_some h
  obtain ⟨hn158, h⟩ := gd_some h
  refine Ak_callIN 269 2 _ (ci_Slate_init h157) rfl (Int.natCast_nonneg _) mok_Slate_init (by decide) rfl (d_SG_init 127 266 (.invokespecial 39) 3 rfl) rfl (by decide) ⟨by decide, by decide⟩ (dec_t hn158) (Nat.le_of_ble_eq_true rfl) ?_
  obtain ⟨ha159, h⟩ := gd_some h
  obtain ⟨hg160, h⟩ := gd_some h
  refine Ak_aastore 270 ha159 hg160 (d_SG_init 128 269 (.aastore) 1 rfl) rfl (fun V161 hV161 => ?_)
  replace h := wV_some h V161 hV161
  refine Ak_iinc 273 (d_SG_init 129 270 (.iinc 1 1) 3 rfl) rfl rfl (by decide) ?_
  refine Ak_ls (ls' := [some (aR x0), some (aI (w32 (0 + 1)))]) rfl ?_
  refine Ak_goto 251 (d_SG_init 130 273 (.goto (-22)) 3 rfl) rfl ?_
  refine Ak_iload_n 252 1 (d_SG_init 119 251 (.iload_n 1) 1 rfl) rfl rfl rfl ?_
  refine Ak_bipush 254 (d_SG_init 120 252 (.bipush 12) 2 rfl) rfl (bp_ok rfl) (rk rfl) ?_
  refine Ak_icmp_gt 276 257 (d_SG_init 121 254 (.if_icmp .gt 22) 3 rfl) rfl rfl (fun hc => absurd hc (by decide)) (fun hc => ?_)
  refine Ak_aload_n 258 0 (d_SG_init 122 257 (.aload_n 0) 1 rfl) rfl rfl rfl ?_
  obtain ⟨hg162, h⟩ := gd_some h
  refine Ak_getF 261 12 hg162 clX12 (by decide) rfl lkF_SG_89 (d_SG_init 123 258 (.getfield 89) 3 rfl) rfl ?_
  refine Ak_iload_n 262 1 (d_SG_init 124 261 (.iload_n 1) 1 rfl) rfl rfl rfl ?_
  refine Ak_new 265 clX6 lkC_SG_37 lkI_6 lkN_6 (d_SG_init 125 262 (.new 37) 3 rfl) rfl (by decide) (by decide) (fun S163 V164 hS163 hV164 => ?_)
  replace h := wV_some (wS_some h S163 hS163) V164 hV164
  refine Ak_dup 266 (d_SG_init 126 265 (.dup) 1 rfl) rfl rfl ?_
  obtain ⟨S165, V166, h167, h⟩ := bndC_some h
  obtain ⟨hn168, h⟩ := gd_some h
  refine Ak_callIN 269 2 _ (ci_Slate_init h167) rfl (Int.natCast_nonneg _) mok_Slate_init (by decide) rfl (d_SG_init 127 266 (.invokespecial 39) 3 rfl) rfl (by decide) ⟨by decide, by decide⟩ (dec_t hn168) (Nat.le_of_ble_eq_true rfl) ?_
  obtain ⟨ha169, h⟩ := gd_some h
  obtain ⟨hg170, h⟩ := gd_some h
  refine Ak_aastore 270 ha169 hg170 (d_SG_init 128 269 (.aastore) 1 rfl) rfl (fun V171 hV171 => ?_)
  replace h := wV_some h V171 hV171
  refine Ak_iinc 273 (d_SG_init 129 270 (.iinc 1 1) 3 rfl) rfl rfl (by decide) ?_
  refine Ak_ls (ls' := [some (aR x0), some (aI (w32 ((w32 (0 + 1)) + 1)))]) rfl ?_
  refine Ak_goto 251 (d_SG_init 130 273 (.goto (-22)) 3 rfl) rfl ?_
  refine Ak_iload_n 252 1 (d_SG_init 119 251 (.iload_n 1) 1 rfl) rfl rfl rfl ?_
  refine Ak_bipush 254 (d_SG_init 120 252 (.bipush 12) 2 rfl) rfl (bp_ok rfl) (rk rfl) ?_
  refine Ak_icmp_gt 276 257 (d_SG_init 121 254 (.if_icmp .gt 22) 3 rfl) rfl rfl (fun hc => absurd hc (by decide)) (fun hc => ?_)
  refine Ak_aload_n 258 0 (d_SG_init 122 257 (.aload_n 0) 1 rfl) rfl rfl rfl ?_
  obtain ⟨hg172, h⟩ := gd_some h
  refine Ak_getF 261 12 hg172 clX12 (by decide) rfl lkF_SG_89 (d_SG_init 123 258 (.getfield 89) 3 rfl) rfl ?_
  refine Ak_iload_n 262 1 (d_SG_init 124 261 (.iload_n 1) 1 rfl) rfl rfl rfl ?_
  refine Ak_new 265 clX6 lkC_SG_37 lkI_6 lkN_6 (d_SG_init 125 262 (.new 37) 3 rfl) rfl (by decide) (by decide) (fun S173 V174 hS173 hV174 => ?_)
  replace h := wV_some (wS_some h S173 hS173) V174 hV174
  refine Ak_dup 266 (d_SG_init 126 265 (.dup) 1 rfl) rfl rfl ?_
  obtain ⟨S175, V176, h177, h⟩ := bndC_some h
  obtain ⟨hn178, h⟩ := gd_some h
  refine Ak_callIN 269 2 _ (ci_Slate_init h177) rfl (Int.natCast_nonneg _) mok_Slate_init (by decide) rfl (d_SG_init 127 266 (.invokespecial 39) 3 rfl) rfl (by decide) ⟨by decide, by decide⟩ (dec_t hn178) (Nat.le_of_ble_eq_true rfl) ?_
  obtain ⟨ha179, h⟩ := gd_some h
  obtain ⟨hg180, h⟩ := gd_some h
  refine Ak_aastore 270 ha179 hg180 (d_SG_init 128 269 (.aastore) 1 rfl) rfl (fun V181 hV181 => ?_)
  replace h := wV_some h V181 hV181
  refine Ak_iinc 273 (d_SG_init 129 270 (.iinc 1 1) 3 rfl) rfl rfl (by decide) ?_
  refine Ak_ls (ls' := [some (aR x0), some (aI (w32 ((w32 ((w32 (0 + 1)) + 1)) + 1)))]) rfl ?_
  refine Ak_goto 251 (d_SG_init 130 273 (.goto (-22)) 3 rfl) rfl ?_
  refine Ak_iload_n 252 1 (d_SG_init 119 251 (.iload_n 1) 1 rfl) rfl rfl rfl ?_
  refine Ak_bipush 254 (d_SG_init 120 252 (.bipush 12) 2 rfl) rfl (bp_ok rfl) (rk rfl) ?_
  refine Ak_icmp_gt 276 257 (d_SG_init 121 254 (.if_icmp .gt 22) 3 rfl) rfl rfl (fun hc => absurd hc (by decide)) (fun hc => ?_)
  refine Ak_aload_n 258 0 (d_SG_init 122 257 (.aload_n 0) 1 rfl) rfl rfl rfl ?_
  obtain ⟨hg182, h⟩ := gd_some h
  refine Ak_getF 261 12 hg182 clX12 (by decide) rfl lkF_SG_89 (d_SG_init 123 258 (.getfield 89) 3 rfl) rfl ?_
  refine Ak_iload_n 262 1 (d_SG_init 124 261 (.iload_n 1) 1 rfl) rfl rfl rfl ?_
  refine Ak_new 265 clX6 lkC_SG_37 lkI_6 lkN_6 (d_SG_init 125 262 (.new 37) 3 rfl) rfl (by decide) (by decide) (fun S183 V184 hS183 hV184 => ?_)
  replace h := wV_some (wS_some h S183 hS183) V184 hV184
  refine Ak_dup 266 (d_SG_init 126 265 (.dup) 1 rfl) rfl rfl ?_
  obtain ⟨S185, V186, h187, h⟩ := bndC_some h
  obtain ⟨hn188, h⟩ := gd_some h
  refine Ak_callIN 269 2 _ (ci_Slate_init h187) rfl (Int.natCast_nonneg _) mok_Slate_init (by decide) rfl (d_SG_init 127 266 (.invokespecial 39) 3 rfl) rfl (by decide) ⟨by decide, by decide⟩ (dec_t hn188) (Nat.le_of_ble_eq_true rfl) ?_
  obtain ⟨ha189, h⟩ := gd_some h
  obtain ⟨hg190, h⟩ := gd_some h
  refine Ak_aastore 270 ha189 hg190 (d_SG_init 128 269 (.aastore) 1 rfl) rfl (fun V191 hV191 => ?_)
  replace h := wV_some h V191 hV191
  refine Ak_iinc 273 (d_SG_init 129 270 (.iinc 1 1) 3 rfl) rfl rfl (by decide) ?_
  refine Ak_ls (ls' := [some (aR x0), some (aI (w32 ((w32 ((w32 ((w32 (0 + 1)) + 1)) + 1)) + 1)))]) rfl ?_
  refine Ak_goto 251 (d_SG_init 130 273 (.goto (-22)) 3 rfl) rfl ?_
  refine Ak_iload_n 252 1 (d_SG_init 119 251 (.iload_n 1) 1 rfl) rfl rfl rfl ?_
  refine Ak_bipush 254 (d_SG_init 120 252 (.bipush 12) 2 rfl) rfl (bp_ok rfl) (rk rfl) ?_
  refine Ak_icmp_gt 276 257 (d_SG_init 121 254 (.if_icmp .gt 22) 3 rfl) rfl rfl (fun hc => absurd hc (by decide)) (fun hc => ?_)
  refine Ak_aload_n 258 0 (d_SG_init 122 257 (.aload_n 0) 1 rfl) rfl rfl rfl ?_
  obtain ⟨hg192, h⟩ := gd_some h
  refine Ak_getF 261 12 hg192 clX12 (by decide) rfl lkF_SG_89 (d_SG_init 123 258 (.getfield 89) 3 rfl) rfl ?_
  refine Ak_iload_n 262 1 (d_SG_init 124 261 (.iload_n 1) 1 rfl) rfl rfl rfl ?_
  refine Ak_new 265 clX6 lkC_SG_37 lkI_6 lkN_6 (d_SG_init 125 262 (.new 37) 3 rfl) rfl (by decide) (by decide) (fun S193 V194 hS193 hV194 => ?_)
  replace h := wV_some (wS_some h S193 hS193) V194 hV194
  refine Ak_dup 266 (d_SG_init 126 265 (.dup) 1 rfl) rfl rfl ?_
  obtain ⟨S195, V196, h197, h⟩ := bndC_some h
  obtain ⟨hn198, h⟩ := gd_some h
  refine Ak_callIN 269 2 _ (ci_Slate_init h197) rfl (Int.natCast_nonneg _) mok_Slate_init (by decide) rfl (d_SG_init 127 266 (.invokespecial 39) 3 rfl) rfl (by decide) ⟨by decide, by decide⟩ (dec_t hn198) (Nat.le_of_ble_eq_true rfl) ?_
  obtain ⟨ha199, h⟩ := gd_some h
  obtain ⟨hg200, h⟩ := gd_some h
  refine Ak_aastore 270 ha199 hg200 (d_SG_init 128 269 (.aastore) 1 rfl) rfl (fun V201 hV201 => ?_)
  replace h := wV_some h V201 hV201
  refine Ak_iinc 273 (d_SG_init 129 270 (.iinc 1 1) 3 rfl) rfl rfl (by decide) ?_
  refine Ak_ls (ls' := [some (aR x0), some (aI (w32 ((w32 ((w32 ((w32 ((w32 (0 + 1)) + 1)) + 1)) + 1)) + 1)))]) rfl ?_
  refine Ak_goto 251 (d_SG_init 130 273 (.goto (-22)) 3 rfl) rfl ?_
  refine Ak_iload_n 252 1 (d_SG_init 119 251 (.iload_n 1) 1 rfl) rfl rfl rfl ?_
  refine Ak_bipush 254 (d_SG_init 120 252 (.bipush 12) 2 rfl) rfl (bp_ok rfl) (rk rfl) ?_
  refine Ak_icmp_gt 276 257 (d_SG_init 121 254 (.if_icmp .gt 22) 3 rfl) rfl rfl (fun hc => absurd hc (by decide)) (fun hc => ?_)
  refine Ak_aload_n 258 0 (d_SG_init 122 257 (.aload_n 0) 1 rfl) rfl rfl rfl ?_
  obtain ⟨hg202, h⟩ := gd_some h
  refine Ak_getF 261 12 hg202 clX12 (by decide) rfl lkF_SG_89 (d_SG_init 123 258 (.getfield 89) 3 rfl) rfl ?_
  refine Ak_iload_n 262 1 (d_SG_init 124 261 (.iload_n 1) 1 rfl) rfl rfl rfl ?_
  refine Ak_new 265 clX6 lkC_SG_37 lkI_6 lkN_6 (d_SG_init 125 262 (.new 37) 3 rfl) rfl (by decide) (by decide) (fun S203 V204 hS203 hV204 => ?_)
  replace h := wV_some (wS_some h S203 hS203) V204 hV204
  refine Ak_dup 266 (d_SG_init 126 265 (.dup) 1 rfl) rfl rfl ?_
  obtain ⟨S205, V206, h207, h⟩ := bndC_some h
  obtain ⟨hn208, h⟩ := gd_some h
  refine Ak_callIN 269 2 _ (ci_Slate_init h207) rfl (Int.natCast_nonneg _) mok_Slate_init (by decide) rfl (d_SG_init 127 266 (.invokespecial 39) 3 rfl) rfl (by decide) ⟨by decide, by decide⟩ (dec_t hn208) (Nat.le_of_ble_eq_true rfl) ?_
  obtain ⟨ha209, h⟩ := gd_some h
  obtain ⟨hg210, h⟩ := gd_some h
  refine Ak_aastore 270 ha209 hg210 (d_SG_init 128 269 (.aastore) 1 rfl) rfl (fun V211 hV211 => ?_)
  replace h := wV_some h V211 hV211
  refine Ak_iinc 273 (d_SG_init 129 270 (.iinc 1 1) 3 rfl) rfl rfl (by decide) ?_
  refine Ak_ls (ls' := [some (aR x0), some (aI (w32 ((w32 ((w32 ((w32 ((w32 ((w32 (0 + 1)) + 1)) + 1)) + 1)) + 1)) + 1)))]) rfl ?_
  refine Ak_goto 251 (d_SG_init 130 273 (.goto (-22)) 3 rfl) rfl ?_
  refine Ak_iload_n 252 1 (d_SG_init 119 251 (.iload_n 1) 1 rfl) rfl rfl rfl ?_
  refine Ak_bipush 254 (d_SG_init 120 252 (.bipush 12) 2 rfl) rfl (bp_ok rfl) (rk rfl) ?_
  refine Ak_icmp_gt 276 257 (d_SG_init 121 254 (.if_icmp .gt 22) 3 rfl) rfl rfl (fun hc => absurd hc (by decide)) (fun hc => ?_)
  refine Ak_aload_n 258 0 (d_SG_init 122 257 (.aload_n 0) 1 rfl) rfl rfl rfl ?_
  obtain ⟨hg212, h⟩ := gd_some h
  refine Ak_getF 261 12 hg212 clX12 (by decide) rfl lkF_SG_89 (d_SG_init 123 258 (.getfield 89) 3 rfl) rfl ?_
  refine Ak_iload_n 262 1 (d_SG_init 124 261 (.iload_n 1) 1 rfl) rfl rfl rfl ?_
  refine Ak_new 265 clX6 lkC_SG_37 lkI_6 lkN_6 (d_SG_init 125 262 (.new 37) 3 rfl) rfl (by decide) (by decide) (fun S213 V214 hS213 hV214 => ?_)
  replace h := wV_some (wS_some h S213 hS213) V214 hV214
  refine Ak_dup 266 (d_SG_init 126 265 (.dup) 1 rfl) rfl rfl ?_
  obtain ⟨S215, V216, h217, h⟩ := bndC_some h
  obtain ⟨hn218, h⟩ := gd_some h
  refine Ak_callIN 269 2 _ (ci_Slate_init h217) rfl (Int.natCast_nonneg _) mok_Slate_init (by decide) rfl (d_SG_init 127 266 (.invokespecial 39) 3 rfl) rfl (by decide) ⟨by decide, by decide⟩ (dec_t hn218) (Nat.le_of_ble_eq_true rfl) ?_
  obtain ⟨ha219, h⟩ := gd_some h
  obtain ⟨hg220, h⟩ := gd_some h
  refine Ak_aastore 270 ha219 hg220 (d_SG_init 128 269 (.aastore) 1 rfl) rfl (fun V221 hV221 => ?_)
  replace h := wV_some h V221 hV221
  refine Ak_iinc 273 (d_SG_init 129 270 (.iinc 1 1) 3 rfl) rfl rfl (by decide) ?_
  refine Ak_ls (ls' := [some (aR x0), some (aI (w32 ((w32 ((w32 ((w32 ((w32 ((w32 ((w32 (0 + 1)) + 1)) + 1)) + 1)) + 1)) + 1)) + 1)))]) rfl ?_
  refine Ak_goto 251 (d_SG_init 130 273 (.goto (-22)) 3 rfl) rfl ?_
  refine Ak_iload_n 252 1 (d_SG_init 119 251 (.iload_n 1) 1 rfl) rfl rfl rfl ?_
  refine Ak_bipush 254 (d_SG_init 120 252 (.bipush 12) 2 rfl) rfl (bp_ok rfl) (rk rfl) ?_
  refine Ak_icmp_gt 276 257 (d_SG_init 121 254 (.if_icmp .gt 22) 3 rfl) rfl rfl (fun hc => absurd hc (by decide)) (fun hc => ?_)
  refine Ak_aload_n 258 0 (d_SG_init 122 257 (.aload_n 0) 1 rfl) rfl rfl rfl ?_
  obtain ⟨hg222, h⟩ := gd_some h
  refine Ak_getF 261 12 hg222 clX12 (by decide) rfl lkF_SG_89 (d_SG_init 123 258 (.getfield 89) 3 rfl) rfl ?_
  refine Ak_iload_n 262 1 (d_SG_init 124 261 (.iload_n 1) 1 rfl) rfl rfl rfl ?_
  refine Ak_new 265 clX6 lkC_SG_37 lkI_6 lkN_6 (d_SG_init 125 262 (.new 37) 3 rfl) rfl (by decide) (by decide) (fun S223 V224 hS223 hV224 => ?_)
  replace h := wV_some (wS_some h S223 hS223) V224 hV224
  refine Ak_dup 266 (d_SG_init 126 265 (.dup) 1 rfl) rfl rfl ?_
  obtain ⟨S225, V226, h227, h⟩ := bndC_some h
  obtain ⟨hn228, h⟩ := gd_some h
  refine Ak_callIN 269 2 _ (ci_Slate_init h227) rfl (Int.natCast_nonneg _) mok_Slate_init (by decide) rfl (d_SG_init 127 266 (.invokespecial 39) 3 rfl) rfl (by decide) ⟨by decide, by decide⟩ (dec_t hn228) (Nat.le_of_ble_eq_true rfl) ?_
  obtain ⟨ha229, h⟩ := gd_some h
  obtain ⟨hg230, h⟩ := gd_some h
  refine Ak_aastore 270 ha229 hg230 (d_SG_init 128 269 (.aastore) 1 rfl) rfl (fun V231 hV231 => ?_)
  replace h := wV_some h V231 hV231
  refine Ak_iinc 273 (d_SG_init 129 270 (.iinc 1 1) 3 rfl) rfl rfl (by decide) ?_
  refine Ak_ls (ls' := [some (aR x0), some (aI (w32 ((w32 ((w32 ((w32 ((w32 ((w32 ((w32 ((w32 (0 + 1)) + 1)) + 1)) + 1)) + 1)) + 1)) + 1)) + 1)))]) rfl ?_
  refine Ak_goto 251 (d_SG_init 130 273 (.goto (-22)) 3 rfl) rfl ?_
  refine Ak_iload_n 252 1 (d_SG_init 119 251 (.iload_n 1) 1 rfl) rfl rfl rfl ?_
  refine Ak_bipush 254 (d_SG_init 120 252 (.bipush 12) 2 rfl) rfl (bp_ok rfl) (rk rfl) ?_
  refine Ak_icmp_gt 276 257 (d_SG_init 121 254 (.if_icmp .gt 22) 3 rfl) rfl rfl (fun hc => absurd hc (by decide)) (fun hc => ?_)
  refine Ak_aload_n 258 0 (d_SG_init 122 257 (.aload_n 0) 1 rfl) rfl rfl rfl ?_
  obtain ⟨hg232, h⟩ := gd_some h
  refine Ak_getF 261 12 hg232 clX12 (by decide) rfl lkF_SG_89 (d_SG_init 123 258 (.getfield 89) 3 rfl) rfl ?_
  refine Ak_iload_n 262 1 (d_SG_init 124 261 (.iload_n 1) 1 rfl) rfl rfl rfl ?_
  refine Ak_new 265 clX6 lkC_SG_37 lkI_6 lkN_6 (d_SG_init 125 262 (.new 37) 3 rfl) rfl (by decide) (by decide) (fun S233 V234 hS233 hV234 => ?_)
  replace h := wV_some (wS_some h S233 hS233) V234 hV234
  refine Ak_dup 266 (d_SG_init 126 265 (.dup) 1 rfl) rfl rfl ?_
  obtain ⟨S235, V236, h237, h⟩ := bndC_some h
  obtain ⟨hn238, h⟩ := gd_some h
  refine Ak_callIN 269 2 _ (ci_Slate_init h237) rfl (Int.natCast_nonneg _) mok_Slate_init (by decide) rfl (d_SG_init 127 266 (.invokespecial 39) 3 rfl) rfl (by decide) ⟨by decide, by decide⟩ (dec_t hn238) (Nat.le_of_ble_eq_true rfl) ?_
  obtain ⟨ha239, h⟩ := gd_some h
  obtain ⟨hg240, h⟩ := gd_some h
  refine Ak_aastore 270 ha239 hg240 (d_SG_init 128 269 (.aastore) 1 rfl) rfl (fun V241 hV241 => ?_)
  replace h := wV_some h V241 hV241
  refine Ak_iinc 273 (d_SG_init 129 270 (.iinc 1 1) 3 rfl) rfl rfl (by decide) ?_
  refine Ak_ls (ls' := [some (aR x0), some (aI (w32 ((w32 ((w32 ((w32 ((w32 ((w32 ((w32 ((w32 ((w32 (0 + 1)) + 1)) + 1)) + 1)) + 1)) + 1)) + 1)) + 1)) + 1)))]) rfl ?_
  refine Ak_goto 251 (d_SG_init 130 273 (.goto (-22)) 3 rfl) rfl ?_
  refine Ak_iload_n 252 1 (d_SG_init 119 251 (.iload_n 1) 1 rfl) rfl rfl rfl ?_
  refine Ak_bipush 254 (d_SG_init 120 252 (.bipush 12) 2 rfl) rfl (bp_ok rfl) (rk rfl) ?_
  refine Ak_icmp_gt 276 257 (d_SG_init 121 254 (.if_icmp .gt 22) 3 rfl) rfl rfl (fun hc => absurd hc (by decide)) (fun hc => ?_)
  refine Ak_aload_n 258 0 (d_SG_init 122 257 (.aload_n 0) 1 rfl) rfl rfl rfl ?_
  obtain ⟨hg242, h⟩ := gd_some h
  refine Ak_getF 261 12 hg242 clX12 (by decide) rfl lkF_SG_89 (d_SG_init 123 258 (.getfield 89) 3 rfl) rfl ?_
  refine Ak_iload_n 262 1 (d_SG_init 124 261 (.iload_n 1) 1 rfl) rfl rfl rfl ?_
  refine Ak_new 265 clX6 lkC_SG_37 lkI_6 lkN_6 (d_SG_init 125 262 (.new 37) 3 rfl) rfl (by decide) (by decide) (fun S243 V244 hS243 hV244 => ?_)
  replace h := wV_some (wS_some h S243 hS243) V244 hV244
  refine Ak_dup 266 (d_SG_init 126 265 (.dup) 1 rfl) rfl rfl ?_
  obtain ⟨S245, V246, h247, h⟩ := bndC_some h
  obtain ⟨hn248, h⟩ := gd_some h
  refine Ak_callIN 269 2 _ (ci_Slate_init h247) rfl (Int.natCast_nonneg _) mok_Slate_init (by decide) rfl (d_SG_init 127 266 (.invokespecial 39) 3 rfl) rfl (by decide) ⟨by decide, by decide⟩ (dec_t hn248) (Nat.le_of_ble_eq_true rfl) ?_
  obtain ⟨ha249, h⟩ := gd_some h
  obtain ⟨hg250, h⟩ := gd_some h
  refine Ak_aastore 270 ha249 hg250 (d_SG_init 128 269 (.aastore) 1 rfl) rfl (fun V251 hV251 => ?_)
  replace h := wV_some h V251 hV251
  refine Ak_iinc 273 (d_SG_init 129 270 (.iinc 1 1) 3 rfl) rfl rfl (by decide) ?_
  refine Ak_ls (ls' := [some (aR x0), some (aI (w32 ((w32 ((w32 ((w32 ((w32 ((w32 ((w32 ((w32 ((w32 ((w32 (0 + 1)) + 1)) + 1)) + 1)) + 1)) + 1)) + 1)) + 1)) + 1)) + 1)))]) rfl ?_
  refine Ak_goto 251 (d_SG_init 130 273 (.goto (-22)) 3 rfl) rfl ?_
  refine Ak_iload_n 252 1 (d_SG_init 119 251 (.iload_n 1) 1 rfl) rfl rfl rfl ?_
  refine Ak_bipush 254 (d_SG_init 120 252 (.bipush 12) 2 rfl) rfl (bp_ok rfl) (rk rfl) ?_
  refine Ak_icmp_gt 276 257 (d_SG_init 121 254 (.if_icmp .gt 22) 3 rfl) rfl rfl (fun hc => absurd hc (by decide)) (fun hc => ?_)
  refine Ak_aload_n 258 0 (d_SG_init 122 257 (.aload_n 0) 1 rfl) rfl rfl rfl ?_
  obtain ⟨hg252, h⟩ := gd_some h
  refine Ak_getF 261 12 hg252 clX12 (by decide) rfl lkF_SG_89 (d_SG_init 123 258 (.getfield 89) 3 rfl) rfl ?_
  refine Ak_iload_n 262 1 (d_SG_init 124 261 (.iload_n 1) 1 rfl) rfl rfl rfl ?_
  refine Ak_new 265 clX6 lkC_SG_37 lkI_6 lkN_6 (d_SG_init 125 262 (.new 37) 3 rfl) rfl (by decide) (by decide) (fun S253 V254 hS253 hV254 => ?_)
  replace h := wV_some (wS_some h S253 hS253) V254 hV254
  refine Ak_dup 266 (d_SG_init 126 265 (.dup) 1 rfl) rfl rfl ?_
  obtain ⟨S255, V256, h257, h⟩ := bndC_some h
  obtain ⟨hn258, h⟩ := gd_some h
  refine Ak_callIN 269 2 _ (ci_Slate_init h257) rfl (Int.natCast_nonneg _) mok_Slate_init (by decide) rfl (d_SG_init 127 266 (.invokespecial 39) 3 rfl) rfl (by decide) ⟨by decide, by decide⟩ (dec_t hn258) (Nat.le_of_ble_eq_true rfl) ?_
  obtain ⟨ha259, h⟩ := gd_some h
  obtain ⟨hg260, h⟩ := gd_some h
  refine Ak_aastore 270 ha259 hg260 (d_SG_init 128 269 (.aastore) 1 rfl) rfl (fun V261 hV261 => ?_)
  replace h := wV_some h V261 hV261
  refine Ak_iinc 273 (d_SG_init 129 270 (.iinc 1 1) 3 rfl) rfl rfl (by decide) ?_
  refine Ak_ls (ls' := [some (aR x0), some (aI (w32 ((w32 ((w32 ((w32 ((w32 ((w32 ((w32 ((w32 ((w32 ((w32 ((w32 (0 + 1)) + 1)) + 1)) + 1)) + 1)) + 1)) + 1)) + 1)) + 1)) + 1)) + 1)))]) rfl ?_
  refine Ak_goto 251 (d_SG_init 130 273 (.goto (-22)) 3 rfl) rfl ?_
  refine Ak_iload_n 252 1 (d_SG_init 119 251 (.iload_n 1) 1 rfl) rfl rfl rfl ?_
  refine Ak_bipush 254 (d_SG_init 120 252 (.bipush 12) 2 rfl) rfl (bp_ok rfl) (rk rfl) ?_
  refine Ak_icmp_gt 276 257 (d_SG_init 121 254 (.if_icmp .gt 22) 3 rfl) rfl rfl (fun hc => absurd hc (by decide)) (fun hc => ?_)
  refine Ak_aload_n 258 0 (d_SG_init 122 257 (.aload_n 0) 1 rfl) rfl rfl rfl ?_
  obtain ⟨hg262, h⟩ := gd_some h
  refine Ak_getF 261 12 hg262 clX12 (by decide) rfl lkF_SG_89 (d_SG_init 123 258 (.getfield 89) 3 rfl) rfl ?_
  refine Ak_iload_n 262 1 (d_SG_init 124 261 (.iload_n 1) 1 rfl) rfl rfl rfl ?_
  refine Ak_new 265 clX6 lkC_SG_37 lkI_6 lkN_6 (d_SG_init 125 262 (.new 37) 3 rfl) rfl (by decide) (by decide) (fun S263 V264 hS263 hV264 => ?_)
  replace h := wV_some (wS_some h S263 hS263) V264 hV264
  refine Ak_dup 266 (d_SG_init 126 265 (.dup) 1 rfl) rfl rfl ?_
  obtain ⟨S265, V266, h267, h⟩ := bndC_some h
  obtain ⟨hn268, h⟩ := gd_some h
  refine Ak_callIN 269 2 _ (ci_Slate_init h267) rfl (Int.natCast_nonneg _) mok_Slate_init (by decide) rfl (d_SG_init 127 266 (.invokespecial 39) 3 rfl) rfl (by decide) ⟨by decide, by decide⟩ (dec_t hn268) (Nat.le_of_ble_eq_true rfl) ?_
  obtain ⟨ha269, h⟩ := gd_some h
  obtain ⟨hg270, h⟩ := gd_some h
  refine Ak_aastore 270 ha269 hg270 (d_SG_init 128 269 (.aastore) 1 rfl) rfl (fun V271 hV271 => ?_)
  replace h := wV_some h V271 hV271
  refine Ak_iinc 273 (d_SG_init 129 270 (.iinc 1 1) 3 rfl) rfl rfl (by decide) ?_
  refine Ak_ls (ls' := [some (aR x0), some (aI (w32 ((w32 ((w32 ((w32 ((w32 ((w32 ((w32 ((w32 ((w32 ((w32 ((w32 ((w32 (0 + 1)) + 1)) + 1)) + 1)) + 1)) + 1)) + 1)) + 1)) + 1)) + 1)) + 1)) + 1)))]) rfl ?_
  refine Ak_goto 251 (d_SG_init 130 273 (.goto (-22)) 3 rfl) rfl ?_
  refine Ak_iload_n 252 1 (d_SG_init 119 251 (.iload_n 1) 1 rfl) rfl rfl rfl ?_
  refine Ak_bipush 254 (d_SG_init 120 252 (.bipush 12) 2 rfl) rfl (bp_ok rfl) (rk rfl) ?_
  refine Ak_icmp_gt 276 257 (d_SG_init 121 254 (.if_icmp .gt 22) 3 rfl) rfl rfl (fun hc => absurd hc (by decide)) (fun hc => ?_)
  refine Ak_aload_n 258 0 (d_SG_init 122 257 (.aload_n 0) 1 rfl) rfl rfl rfl ?_
  obtain ⟨hg272, h⟩ := gd_some h
  refine Ak_getF 261 12 hg272 clX12 (by decide) rfl lkF_SG_89 (d_SG_init 123 258 (.getfield 89) 3 rfl) rfl ?_
  refine Ak_iload_n 262 1 (d_SG_init 124 261 (.iload_n 1) 1 rfl) rfl rfl rfl ?_
  refine Ak_new 265 clX6 lkC_SG_37 lkI_6 lkN_6 (d_SG_init 125 262 (.new 37) 3 rfl) rfl (by decide) (by decide) (fun S273 V274 hS273 hV274 => ?_)
  replace h := wV_some (wS_some h S273 hS273) V274 hV274
  refine Ak_dup 266 (d_SG_init 126 265 (.dup) 1 rfl) rfl rfl ?_
  obtain ⟨S275, V276, h277, h⟩ := bndC_some h
  obtain ⟨hn278, h⟩ := gd_some h
  refine Ak_callIN 269 2 _ (ci_Slate_init h277) rfl (Int.natCast_nonneg _) mok_Slate_init (by decide) rfl (d_SG_init 127 266 (.invokespecial 39) 3 rfl) rfl (by decide) ⟨by decide, by decide⟩ (dec_t hn278) (Nat.le_of_ble_eq_true rfl) ?_
  obtain ⟨ha279, h⟩ := gd_some h
  obtain ⟨hg280, h⟩ := gd_some h
  refine Ak_aastore 270 ha279 hg280 (d_SG_init 128 269 (.aastore) 1 rfl) rfl (fun V281 hV281 => ?_)
  replace h := wV_some h V281 hV281
  refine Ak_iinc 273 (d_SG_init 129 270 (.iinc 1 1) 3 rfl) rfl rfl (by decide) ?_
  refine Ak_ls (ls' := [some (aR x0), some (aI (w32 ((w32 ((w32 ((w32 ((w32 ((w32 ((w32 ((w32 ((w32 ((w32 ((w32 ((w32 ((w32 (0 + 1)) + 1)) + 1)) + 1)) + 1)) + 1)) + 1)) + 1)) + 1)) + 1)) + 1)) + 1)) + 1)))]) rfl ?_
  refine Ak_goto 251 (d_SG_init 130 273 (.goto (-22)) 3 rfl) rfl ?_
  refine Ak_iload_n 252 1 (d_SG_init 119 251 (.iload_n 1) 1 rfl) rfl rfl rfl ?_
  refine Ak_bipush 254 (d_SG_init 120 252 (.bipush 12) 2 rfl) rfl (bp_ok rfl) (rk rfl) ?_
  refine Ak_icmp_gt 276 257 (d_SG_init 121 254 (.if_icmp .gt 22) 3 rfl) rfl rfl (fun hc => ?_) (fun hc => absurd (by decide) hc)
  refine Ak_aload_n 277 0 (d_SG_init 131 276 (.aload_n 0) 1 rfl) rfl rfl rfl ?_
  obtain ⟨hg282, h⟩ := gd_some h
  obtain ⟨r283, V284, h285, h⟩ := bnd_some h
  refine Ak_gV0 280 6 (c_SG_startAnew h285) rfl hg282 clX12 rfl mok_SG_startAnew lkM_SG_120 (d_SG_init 132 277 (.invokevirtual 120) 3 rfl) rfl (by decide) (by decide) (Nat.le_of_ble_eq_true rfl) ?_
  cases h
  exact Ak_vret rfl (d_SG_init 133 280 (.return_) 1 rfl)
set_option maxRecDepth 100000 in
set_option maxHeartbeats 20000000 in
theorem ci_M_init {S : ASh} {V : ASt} {x0 : Int} {S' : ASh} {V' : ASt} (h : g_M_init S V x0 = some (S', V')) : ACt m_M_init 2 55 32442 [(aR x0)] S V none S' V' := by
  unfold g_M_init at h
  refine ACt_of (plainFor_of_name rfl) rfl (Nat.le_of_ble_eq_true rfl) ?_
  show AWk m_M_init 2 55 32442 0 0 0 [some (aR x0)] [] S V none S' V'
  refine Ak_aload_n 1 0 (d_M_init 0 0 (.aload_n 0) 1 rfl) rfl rfl rfl ?_
  obtain ⟨hg1, h⟩ := gd_some h
  refine Ak_objInit 4 (isO_nn hg1) lkM_M_1 lk_oi (d_M_init 1 1 (.invokespecial 1) 3 rfl) rfl (by decide) (Nat.le_of_ble_eq_true rfl) ?_
  refine Ak_aload_n 5 0 (d_M_init 2 4 (.aload_n 0) 1 rfl) rfl rfl rfl ?_
  refine Ak_sipush 8 (d_M_init 3 5 (.sipush 1800) 3 rfl) rfl (sp_ok rfl) (rk rfl) ?_
  refine Ak_newaI 10 lk_arr0 (by decide) (by decide) (d_M_init 4 8 (.newarray .int) 2 rfl) rfl (by decide) (by decide) (fun S2 V3 hS2 hV3 => ?_)
  replace h := wV_some (wS_some h S2 hS2) V3 hV3
  obtain ⟨hg4, h⟩ := gd_some h
  refine Ak_putF 13 0 hg4 clX13 (by decide) rfl rfl (fun o => by cases o <;> exact ⟨rfl, rfl⟩) rfl rfl lkF_M_7 (d_M_init 5 10 (.putfield 7) 3 rfl) rfl (fun S5 hS5 => ?_)
  replace h := wS_some h S5 hS5
  refine Ak_aload_n 14 0 (d_M_init 6 13 (.aload_n 0) 1 rfl) rfl rfl rfl ?_
  refine Ak_iconst 15 (d_M_init 7 14 (.iconst 0) 1 rfl) rfl (rk rfl) ?_
  obtain ⟨hg6, h⟩ := gd_some h
  refine Ak_putI 18 1 hg6 clX13 (by decide) rfl rfl rfl lkF_M_13 (d_M_init 8 15 (.putfield 13) 3 rfl) rfl (fun V7 hV7 => ?_)
  replace h := wV_some h V7 hV7
  refine Ak_aload_n 19 0 (d_M_init 9 18 (.aload_n 0) 1 rfl) rfl rfl rfl ?_
  refine Ak_iconst 20 (d_M_init 10 19 (.iconst 0) 1 rfl) rfl (rk rfl) ?_
  refine Ak_putI 23 2 hg6 clX13 (by decide) rfl rfl rfl lkF_M_17 (d_M_init 11 20 (.putfield 17) 3 rfl) rfl (fun V8 hV8 => ?_)
  replace h := wV_some h V8 hV8
  refine Ak_aload_n 24 0 (d_M_init 12 23 (.aload_n 0) 1 rfl) rfl rfl rfl ?_
  refine Ak_iconst 25 (d_M_init 13 24 (.iconst 0) 1 rfl) rfl (rk rfl) ?_
  refine Ak_putI 28 3 hg6 clX13 (by decide) rfl rfl rfl lkF_M_20 (d_M_init 14 25 (.putfield 20) 3 rfl) rfl (fun V9 hV9 => ?_)
  replace h := wV_some h V9 hV9
  refine Ak_aload_n 29 0 (d_M_init 15 28 (.aload_n 0) 1 rfl) rfl rfl rfl ?_
  refine Ak_iconst 30 (d_M_init 16 29 (.iconst 0) 1 rfl) rfl (rk rfl) ?_
  refine Ak_putI 33 4 hg6 clX13 (by decide) rfl rfl rfl lkF_M_23 (d_M_init 17 30 (.putfield 23) 3 rfl) rfl (fun V10 hV10 => ?_)
  replace h := wV_some h V10 hV10
  refine Ak_aload_n 34 0 (d_M_init 18 33 (.aload_n 0) 1 rfl) rfl rfl rfl ?_
  refine Ak_iconst 35 (d_M_init 19 34 (.iconst 0) 1 rfl) rfl (rk rfl) ?_
  refine Ak_putI 38 5 hg6 clX13 (by decide) rfl rfl rfl lkF_M_26 (d_M_init 20 35 (.putfield 26) 3 rfl) rfl (fun V11 hV11 => ?_)
  replace h := wV_some h V11 hV11
  refine Ak_aload_n 39 0 (d_M_init 21 38 (.aload_n 0) 1 rfl) rfl rfl rfl ?_
  refine Ak_iconst 40 (d_M_init 22 39 (.iconst 0) 1 rfl) rfl (rk rfl) ?_
  refine Ak_putI 43 6 hg6 clX13 (by decide) rfl rfl rfl lkF_M_29 (d_M_init 23 40 (.putfield 29) 3 rfl) rfl (fun V12 hV12 => ?_)
  replace h := wV_some h V12 hV12
  refine Ak_aload_n 44 0 (d_M_init 24 43 (.aload_n 0) 1 rfl) rfl rfl rfl ?_
  refine Ak_lconst 45 0 (d_M_init 25 44 (.lconst 0) 1 rfl) rfl rfl (rkL rfl) ?_
  refine Ak_putL 48 7 hg6 clX13 (by decide) rfl rfl rfl lkF_M_32 (d_M_init 26 45 (.putfield 32) 3 rfl) rfl (fun V13 hV13 => ?_)
  replace h := wV_some h V13 hV13
  refine Ak_aload_n 49 0 (d_M_init 27 48 (.aload_n 0) 1 rfl) rfl rfl rfl ?_
  refine Ak_iconst 50 (d_M_init 28 49 (.iconst 0) 1 rfl) rfl (rk rfl) ?_
  refine Ak_putI 53 8 hg6 clX13 (by decide) rfl rfl rfl lkF_M_36 (d_M_init 29 50 (.putfield 36) 3 rfl) rfl (fun V14 hV14 => ?_)
  replace h := wV_some h V14 hV14
  refine Ak_aload_n 54 0 (d_M_init 30 53 (.aload_n 0) 1 rfl) rfl rfl rfl ?_
  refine Ak_iconst 55 (d_M_init 31 54 (.iconst (-1)) 1 rfl) rfl (rk rfl) ?_
  refine Ak_putI 58 9 hg6 clX13 (by decide) rfl rfl rfl lkF_M_39 (d_M_init 32 55 (.putfield 39) 3 rfl) rfl (fun V15 hV15 => ?_)
  replace h := wV_some h V15 hV15
  refine Ak_aload_n 59 0 (d_M_init 33 58 (.aload_n 0) 1 rfl) rfl rfl rfl ?_
  refine Ak_iconst 60 (d_M_init 34 59 (.iconst 0) 1 rfl) rfl (rk rfl) ?_
  refine Ak_putI 63 10 hg6 clX13 (by decide) rfl rfl rfl lkF_M_42 (d_M_init 35 60 (.putfield 42) 3 rfl) rfl (fun V16 hV16 => ?_)
  replace h := wV_some h V16 hV16
  refine Ak_aload_n 64 0 (d_M_init 36 63 (.aload_n 0) 1 rfl) rfl rfl rfl ?_
  refine Ak_iconst 65 (d_M_init 37 64 (.iconst (-1)) 1 rfl) rfl (rk rfl) ?_
  refine Ak_putI 68 11 hg6 clX13 (by decide) rfl rfl rfl lkF_M_45 (d_M_init 38 65 (.putfield 45) 3 rfl) rfl (fun V17 hV17 => ?_)
  replace h := wV_some h V17 hV17
  refine Ak_aload_n 69 0 (d_M_init 39 68 (.aload_n 0) 1 rfl) rfl rfl rfl ?_
  refine Ak_iconst 70 (d_M_init 40 69 (.iconst 0) 1 rfl) rfl (rk rfl) ?_
  refine Ak_putI 73 12 hg6 clX13 (by decide) rfl rfl rfl lkF_M_48 (d_M_init 41 70 (.putfield 48) 3 rfl) rfl (fun V18 hV18 => ?_)
  replace h := wV_some h V18 hV18
  refine Ak_aload_n 74 0 (d_M_init 42 73 (.aload_n 0) 1 rfl) rfl rfl rfl ?_
  refine Ak_iconst 75 (d_M_init 43 74 (.iconst 2) 1 rfl) rfl (rk rfl) ?_
  refine Ak_newaI 77 lk_arr0 (by decide) (by decide) (d_M_init 44 75 (.newarray .int) 2 rfl) rfl (by decide) (by decide) (fun S19 V20 hS19 hV20 => ?_)
  replace h := wV_some (wS_some h S19 hS19) V20 hV20
  obtain ⟨hg21, h⟩ := gd_some h
  refine Ak_putF 80 13 hg21 clX13 (by decide) rfl rfl (fun o => by cases o <;> exact ⟨rfl, rfl⟩) rfl rfl lkF_M_51 (d_M_init 45 77 (.putfield 51) 3 rfl) rfl (fun S22 hS22 => ?_)
  replace h := wS_some h S22 hS22
  refine Ak_aload_n 81 0 (d_M_init 46 80 (.aload_n 0) 1 rfl) rfl rfl rfl ?_
  refine Ak_iconst 82 (d_M_init 47 81 (.iconst 2) 1 rfl) rfl (rk rfl) ?_
  refine Ak_newaI 84 lk_arr0 (by decide) (by decide) (d_M_init 48 82 (.newarray .int) 2 rfl) rfl (by decide) (by decide) (fun S23 V24 hS23 hV24 => ?_)
  replace h := wV_some (wS_some h S23 hS23) V24 hV24
  obtain ⟨hg25, h⟩ := gd_some h
  refine Ak_putF 87 14 hg25 clX13 (by decide) rfl rfl (fun o => by cases o <;> exact ⟨rfl, rfl⟩) rfl rfl lkF_M_54 (d_M_init 49 84 (.putfield 54) 3 rfl) rfl (fun S26 hS26 => ?_)
  replace h := wS_some h S26 hS26
  refine Ak_aload_n 88 0 (d_M_init 50 87 (.aload_n 0) 1 rfl) rfl rfl rfl ?_
  refine Ak_iconst 89 (d_M_init 51 88 (.iconst 4) 1 rfl) rfl (rk rfl) ?_
  refine Ak_newaJ 91 lk_arr1 (by decide) (by decide) (d_M_init 52 89 (.newarray .long) 2 rfl) rfl (by decide) (by decide) (fun S27 V28 hS27 hV28 => ?_)
  replace h := wV_some (wS_some h S27 hS27) V28 hV28
  obtain ⟨hg29, h⟩ := gd_some h
  refine Ak_putF 94 15 hg29 clX13 (by decide) rfl rfl (fun o => by cases o <;> exact ⟨rfl, rfl⟩) rfl rfl lkF_M_57 (d_M_init 53 91 (.putfield 57) 3 rfl) rfl (fun S30 hS30 => ?_)
  replace h := wS_some h S30 hS30
  refine Ak_aload_n 95 0 (d_M_init 54 94 (.aload_n 0) 1 rfl) rfl rfl rfl ?_
  refine Ak_iconst 96 (d_M_init 55 95 (.iconst 4) 1 rfl) rfl (rk rfl) ?_
  refine Ak_newaI 98 lk_arr0 (by decide) (by decide) (d_M_init 56 96 (.newarray .int) 2 rfl) rfl (by decide) (by decide) (fun S31 V32 hS31 hV32 => ?_)
  replace h := wV_some (wS_some h S31 hS31) V32 hV32
  obtain ⟨hg33, h⟩ := gd_some h
  refine Ak_putF 101 16 hg33 clX13 (by decide) rfl rfl (fun o => by cases o <;> exact ⟨rfl, rfl⟩) rfl rfl lkF_M_61 (d_M_init 57 98 (.putfield 61) 3 rfl) rfl (fun S34 hS34 => ?_)
  replace h := wS_some h S34 hS34
  refine Ak_aload_n 102 0 (d_M_init 58 101 (.aload_n 0) 1 rfl) rfl rfl rfl ?_
  refine Ak_iconst 103 (d_M_init 59 102 (.iconst 4) 1 rfl) rfl (rk rfl) ?_
  refine Ak_newaI 105 lk_arr0 (by decide) (by decide) (d_M_init 60 103 (.newarray .int) 2 rfl) rfl (by decide) (by decide) (fun S35 V36 hS35 hV36 => ?_)
  replace h := wV_some (wS_some h S35 hS35) V36 hV36
  obtain ⟨hg37, h⟩ := gd_some h
  refine Ak_putF 108 17 hg37 clX13 (by decide) rfl rfl (fun o => by cases o <;> exact ⟨rfl, rfl⟩) rfl rfl lkF_M_64 (d_M_init 61 105 (.putfield 64) 3 rfl) rfl (fun S38 hS38 => ?_)
  replace h := wS_some h S38 hS38
  refine Ak_aload_n 109 0 (d_M_init 62 108 (.aload_n 0) 1 rfl) rfl rfl rfl ?_
  refine Ak_iconst 110 (d_M_init 63 109 (.iconst 2) 1 rfl) rfl (rk rfl) ?_
  refine Ak_newaI 112 lk_arr0 (by decide) (by decide) (d_M_init 64 110 (.newarray .int) 2 rfl) rfl (by decide) (by decide) (fun S39 V40 hS39 hV40 => ?_)
  replace h := wV_some (wS_some h S39 hS39) V40 hV40
  obtain ⟨hg41, h⟩ := gd_some h
  refine Ak_putF 115 18 hg41 clX13 (by decide) rfl rfl (fun o => by cases o <;> exact ⟨rfl, rfl⟩) rfl rfl lkF_M_67 (d_M_init 65 112 (.putfield 67) 3 rfl) rfl (fun S42 hS42 => ?_)
  replace h := wS_some h S42 hS42
  refine Ak_aload_n 116 0 (d_M_init 66 115 (.aload_n 0) 1 rfl) rfl rfl rfl ?_
  refine Ak_iconst 117 (d_M_init 67 116 (.iconst 2) 1 rfl) rfl (rk rfl) ?_
  refine Ak_newaI 119 lk_arr0 (by decide) (by decide) (d_M_init 68 117 (.newarray .int) 2 rfl) rfl (by decide) (by decide) (fun S43 V44 hS43 hV44 => ?_)
  replace h := wV_some (wS_some h S43 hS43) V44 hV44
  obtain ⟨hg45, h⟩ := gd_some h
  refine Ak_putF 122 19 hg45 clX13 (by decide) rfl rfl (fun o => by cases o <;> exact ⟨rfl, rfl⟩) rfl rfl lkF_M_70 (d_M_init 69 119 (.putfield 70) 3 rfl) rfl (fun S46 hS46 => ?_)
  replace h := wS_some h S46 hS46
  refine Ak_aload_n 123 0 (d_M_init 70 122 (.aload_n 0) 1 rfl) rfl rfl rfl ?_
  refine Ak_bipush 125 (d_M_init 71 123 (.bipush 24) 2 rfl) rfl (bp_ok rfl) (rk rfl) ?_
  refine Ak_newaI 127 lk_arr0 (by decide) (by decide) (d_M_init 72 125 (.newarray .int) 2 rfl) rfl (by decide) (by decide) (fun S47 V48 hS47 hV48 => ?_)
  replace h := wV_some (wS_some h S47 hS47) V48 hV48
  obtain ⟨hg49, h⟩ := gd_some h
  refine Ak_putF 130 20 hg49 clX13 (by decide) rfl rfl (fun o => by cases o <;> exact ⟨rfl, rfl⟩) rfl rfl lkF_M_73 (d_M_init 73 127 (.putfield 73) 3 rfl) rfl (fun S50 hS50 => ?_)
  replace h := wS_some h S50 hS50
  refine Ak_aload_n 131 0 (d_M_init 74 130 (.aload_n 0) 1 rfl) rfl rfl rfl ?_
  refine Ak_bipush 133 (d_M_init 75 131 (.bipush 24) 2 rfl) rfl (bp_ok rfl) (rk rfl) ?_
  refine Ak_newaI 135 lk_arr0 (by decide) (by decide) (d_M_init 76 133 (.newarray .int) 2 rfl) rfl (by decide) (by decide) (fun S51 V52 hS51 hV52 => ?_)
  replace h := wV_some (wS_some h S51 hS51) V52 hV52
  obtain ⟨hg53, h⟩ := gd_some h
  refine Ak_putF 138 21 hg53 clX13 (by decide) rfl rfl (fun o => by cases o <;> exact ⟨rfl, rfl⟩) rfl rfl lkF_M_76 (d_M_init 77 135 (.putfield 76) 3 rfl) rfl (fun S54 hS54 => ?_)
  replace h := wS_some h S54 hS54
  refine Ak_aload_n 139 0 (d_M_init 78 138 (.aload_n 0) 1 rfl) rfl rfl rfl ?_
  refine Ak_bipush 141 (d_M_init 79 139 (.bipush 24) 2 rfl) rfl (bp_ok rfl) (rk rfl) ?_
  refine Ak_newaI 143 lk_arr0 (by decide) (by decide) (d_M_init 80 141 (.newarray .int) 2 rfl) rfl (by decide) (by decide) (fun S55 V56 hS55 hV56 => ?_)
  replace h := wV_some (wS_some h S55 hS55) V56 hV56
  obtain ⟨hg57, h⟩ := gd_some h
  refine Ak_putF 146 22 hg57 clX13 (by decide) rfl rfl (fun o => by cases o <;> exact ⟨rfl, rfl⟩) rfl rfl lkF_M_79 (d_M_init 81 143 (.putfield 79) 3 rfl) rfl (fun S58 hS58 => ?_)
  replace h := wS_some h S58 hS58
  refine Ak_aload_n 147 0 (d_M_init 82 146 (.aload_n 0) 1 rfl) rfl rfl rfl ?_
  refine Ak_bipush 149 (d_M_init 83 147 (.bipush 24) 2 rfl) rfl (bp_ok rfl) (rk rfl) ?_
  refine Ak_newaI 151 lk_arr0 (by decide) (by decide) (d_M_init 84 149 (.newarray .int) 2 rfl) rfl (by decide) (by decide) (fun S59 V60 hS59 hV60 => ?_)
  replace h := wV_some (wS_some h S59 hS59) V60 hV60
  obtain ⟨hg61, h⟩ := gd_some h
  refine Ak_putF 154 23 hg61 clX13 (by decide) rfl rfl (fun o => by cases o <;> exact ⟨rfl, rfl⟩) rfl rfl lkF_M_82 (d_M_init 85 151 (.putfield 82) 3 rfl) rfl (fun S62 hS62 => ?_)
  replace h := wS_some h S62 hS62
  refine Ak_aload_n 155 0 (d_M_init 86 154 (.aload_n 0) 1 rfl) rfl rfl rfl ?_
  refine Ak_bipush 157 (d_M_init 87 155 (.bipush 24) 2 rfl) rfl (bp_ok rfl) (rk rfl) ?_
  refine Ak_newaZ 159 lk_arr2 (by decide) (by decide) (d_M_init 88 157 (.newarray .boolean) 2 rfl) rfl (by decide) (by decide) (fun S63 V64 hS63 hV64 => ?_)
  replace h := wV_some (wS_some h S63 hS63) V64 hV64
  obtain ⟨hg65, h⟩ := gd_some h
  refine Ak_putF 162 24 hg65 clX13 (by decide) rfl rfl (fun o => by cases o <;> exact ⟨rfl, rfl⟩) rfl rfl lkF_M_85 (d_M_init 89 159 (.putfield 85) 3 rfl) rfl (fun S66 hS66 => ?_)
  replace h := wS_some h S66 hS66
  refine Ak_aload_n 163 0 (d_M_init 90 162 (.aload_n 0) 1 rfl) rfl rfl rfl ?_
  refine Ak_bipush 165 (d_M_init 91 163 (.bipush 24) 2 rfl) rfl (bp_ok rfl) (rk rfl) ?_
  refine Ak_newaI 167 lk_arr0 (by decide) (by decide) (d_M_init 92 165 (.newarray .int) 2 rfl) rfl (by decide) (by decide) (fun S67 V68 hS67 hV68 => ?_)
  replace h := wV_some (wS_some h S67 hS67) V68 hV68
  obtain ⟨hg69, h⟩ := gd_some h
  refine Ak_putF 170 25 hg69 clX13 (by decide) rfl rfl (fun o => by cases o <;> exact ⟨rfl, rfl⟩) rfl rfl lkF_M_89 (d_M_init 93 167 (.putfield 89) 3 rfl) rfl (fun S70 hS70 => ?_)
  replace h := wS_some h S70 hS70
  refine Ak_aload_n 171 0 (d_M_init 94 170 (.aload_n 0) 1 rfl) rfl rfl rfl ?_
  refine Ak_bipush 173 (d_M_init 95 171 (.bipush 24) 2 rfl) rfl (bp_ok rfl) (rk rfl) ?_
  refine Ak_newaI 175 lk_arr0 (by decide) (by decide) (d_M_init 96 173 (.newarray .int) 2 rfl) rfl (by decide) (by decide) (fun S71 V72 hS71 hV72 => ?_)
  replace h := wV_some (wS_some h S71 hS71) V72 hV72
  obtain ⟨hg73, h⟩ := gd_some h
  refine Ak_putF 178 26 hg73 clX13 (by decide) rfl rfl (fun o => by cases o <;> exact ⟨rfl, rfl⟩) rfl rfl lkF_M_92 (d_M_init 97 175 (.putfield 92) 3 rfl) rfl (fun S74 hS74 => ?_)
  replace h := wS_some h S74 hS74
  refine Ak_aload_n 179 0 (d_M_init 98 178 (.aload_n 0) 1 rfl) rfl rfl rfl ?_
  refine Ak_sipush 182 (d_M_init 99 179 (.sipush 3600) 3 rfl) rfl (sp_ok rfl) (rk rfl) ?_
  refine Ak_newaI 184 lk_arr0 (by decide) (by decide) (d_M_init 100 182 (.newarray .int) 2 rfl) rfl (by decide) (by decide) (fun S75 V76 hS75 hV76 => ?_)
  replace h := wV_some (wS_some h S75 hS75) V76 hV76
  obtain ⟨hg77, h⟩ := gd_some h
  refine Ak_putF 187 27 hg77 clX13 (by decide) rfl rfl (fun o => by cases o <;> exact ⟨rfl, rfl⟩) rfl rfl lkF_M_95 (d_M_init 101 184 (.putfield 95) 3 rfl) rfl (fun S78 hS78 => ?_)
  replace h := wS_some h S78 hS78
  refine Ak_aload_n 188 0 (d_M_init 102 187 (.aload_n 0) 1 rfl) rfl rfl rfl ?_
  refine Ak_sipush 191 (d_M_init 103 188 (.sipush 3600) 3 rfl) rfl (sp_ok rfl) (rk rfl) ?_
  refine Ak_newaI 193 lk_arr0 (by decide) (by decide) (d_M_init 104 191 (.newarray .int) 2 rfl) rfl (by decide) (by decide) (fun S79 V80 hS79 hV80 => ?_)
  replace h := wV_some (wS_some h S79 hS79) V80 hV80
  obtain ⟨hg81, h⟩ := gd_some h
  refine Ak_putF 196 28 hg81 clX13 (by decide) rfl rfl (fun o => by cases o <;> exact ⟨rfl, rfl⟩) rfl rfl lkF_M_98 (d_M_init 105 193 (.putfield 98) 3 rfl) rfl (fun S82 hS82 => ?_)
  replace h := wS_some h S82 hS82
  refine Ak_aload_n 197 0 (d_M_init 106 196 (.aload_n 0) 1 rfl) rfl rfl rfl ?_
  refine Ak_iconst 198 (d_M_init 107 197 (.iconst 0) 1 rfl) rfl (rk rfl) ?_
  obtain ⟨hg83, h⟩ := gd_some h
  refine Ak_putI 201 29 hg83 clX13 (by decide) rfl rfl rfl lkF_M_101 (d_M_init 108 198 (.putfield 101) 3 rfl) rfl (fun V84 hV84 => ?_)
  replace h := wV_some h V84 hV84
  refine Ak_aload_n 202 0 (d_M_init 109 201 (.aload_n 0) 1 rfl) rfl rfl rfl ?_
  refine Ak_iconst 203 (d_M_init 110 202 (.iconst 1) 1 rfl) rfl (rk rfl) ?_
  refine Ak_putI 206 30 hg83 clX13 (by decide) rfl rfl rfl lkF_M_104 (d_M_init 111 203 (.putfield 104) 3 rfl) rfl (fun V85 hV85 => ?_)
  replace h := wV_some h V85 hV85
  refine Ak_aload_n 207 0 (d_M_init 112 206 (.aload_n 0) 1 rfl) rfl rfl rfl ?_
  refine Ak_bipush 209 (d_M_init 113 207 (.bipush 20) 2 rfl) rfl (bp_ok rfl) (rk rfl) ?_
  refine Ak_newaI 211 lk_arr0 (by decide) (by decide) (d_M_init 114 209 (.newarray .int) 2 rfl) rfl (by decide) (by decide) (fun S86 V87 hS86 hV87 => ?_)
  replace h := wV_some (wS_some h S86 hS86) V87 hV87
  obtain ⟨hg88, h⟩ := gd_some h
  refine Ak_putF 214 31 hg88 clX13 (by decide) rfl rfl (fun o => by cases o <;> exact ⟨rfl, rfl⟩) rfl rfl lkF_M_107 (d_M_init 115 211 (.putfield 107) 3 rfl) rfl (fun S89 hS89 => ?_)
  replace h := wS_some h S89 hS89
  refine Ak_aload_n 215 0 (d_M_init 116 214 (.aload_n 0) 1 rfl) rfl rfl rfl ?_
  refine Ak_bipush 217 (d_M_init 117 215 (.bipush 20) 2 rfl) rfl (bp_ok rfl) (rk rfl) ?_
  refine Ak_newaI 219 lk_arr0 (by decide) (by decide) (d_M_init 118 217 (.newarray .int) 2 rfl) rfl (by decide) (by decide) (fun S90 V91 hS90 hV91 => ?_)
  replace h := wV_some (wS_some h S90 hS90) V91 hV91
  obtain ⟨hg92, h⟩ := gd_some h
  refine Ak_putF 222 32 hg92 clX13 (by decide) rfl rfl (fun o => by cases o <;> exact ⟨rfl, rfl⟩) rfl rfl lkF_M_110 (d_M_init 119 219 (.putfield 110) 3 rfl) rfl (fun S93 hS93 => ?_)
  replace h := wS_some h S93 hS93
  refine Ak_aload_n 223 0 (d_M_init 120 222 (.aload_n 0) 1 rfl) rfl rfl rfl ?_
  refine Ak_bipush 225 (d_M_init 121 223 (.bipush 20) 2 rfl) rfl (bp_ok rfl) (rk rfl) ?_
  refine Ak_newaZ 227 lk_arr2 (by decide) (by decide) (d_M_init 122 225 (.newarray .boolean) 2 rfl) rfl (by decide) (by decide) (fun S94 V95 hS94 hV95 => ?_)
  replace h := wV_some (wS_some h S94 hS94) V95 hV95
  obtain ⟨hg96, h⟩ := gd_some h
  refine Ak_putF 230 33 hg96 clX13 (by decide) rfl rfl (fun o => by cases o <;> exact ⟨rfl, rfl⟩) rfl rfl lkF_M_113 (d_M_init 123 227 (.putfield 113) 3 rfl) rfl (fun S97 hS97 => ?_)
  replace h := wS_some h S97 hS97
  refine Ak_aload_n 231 0 (d_M_init 124 230 (.aload_n 0) 1 rfl) rfl rfl rfl ?_
  refine Ak_bipush 233 (d_M_init 125 231 (.bipush 20) 2 rfl) rfl (bp_ok rfl) (rk rfl) ?_
  refine Ak_newaI 235 lk_arr0 (by decide) (by decide) (d_M_init 126 233 (.newarray .int) 2 rfl) rfl (by decide) (by decide) (fun S98 V99 hS98 hV99 => ?_)
  replace h := wV_some (wS_some h S98 hS98) V99 hV99
  obtain ⟨hg100, h⟩ := gd_some h
  refine Ak_putF 238 34 hg100 clX13 (by decide) rfl rfl (fun o => by cases o <;> exact ⟨rfl, rfl⟩) rfl rfl lkF_M_116 (d_M_init 127 235 (.putfield 116) 3 rfl) rfl (fun S101 hS101 => ?_)
  replace h := wS_some h S101 hS101
  refine Ak_aload_n 239 0 (d_M_init 128 238 (.aload_n 0) 1 rfl) rfl rfl rfl ?_
  refine Ak_bipush 241 (d_M_init 129 239 (.bipush 20) 2 rfl) rfl (bp_ok rfl) (rk rfl) ?_
  refine Ak_newaI 243 lk_arr0 (by decide) (by decide) (d_M_init 130 241 (.newarray .int) 2 rfl) rfl (by decide) (by decide) (fun S102 V103 hS102 hV103 => ?_)
  replace h := wV_some (wS_some h S102 hS102) V103 hV103
  obtain ⟨hg104, h⟩ := gd_some h
  refine Ak_putF 246 35 hg104 clX13 (by decide) rfl rfl (fun o => by cases o <;> exact ⟨rfl, rfl⟩) rfl rfl lkF_M_119 (d_M_init 131 243 (.putfield 119) 3 rfl) rfl (fun S105 hS105 => ?_)
  replace h := wS_some h S105 hS105
  refine Ak_aload_n 247 0 (d_M_init 132 246 (.aload_n 0) 1 rfl) rfl rfl rfl ?_
  refine Ak_iconst 248 (d_M_init 133 247 (.iconst 0) 1 rfl) rfl (rk rfl) ?_
  obtain ⟨hg106, h⟩ := gd_some h
  refine Ak_putI 251 36 hg106 clX13 (by decide) rfl rfl rfl lkF_M_122 (d_M_init 134 248 (.putfield 122) 3 rfl) rfl (fun V107 hV107 => ?_)
  replace h := wV_some h V107 hV107
  refine Ak_aload_n 252 0 (d_M_init 135 251 (.aload_n 0) 1 rfl) rfl rfl rfl ?_
  refine Ak_iconst 253 (d_M_init 136 252 (.iconst 0) 1 rfl) rfl (rk rfl) ?_
  refine Ak_putI 256 37 hg106 clX13 (by decide) rfl rfl rfl lkF_M_125 (d_M_init 137 253 (.putfield 125) 3 rfl) rfl (fun V108 hV108 => ?_)
  replace h := wV_some h V108 hV108
  refine Ak_aload_n 257 0 (d_M_init 138 256 (.aload_n 0) 1 rfl) rfl rfl rfl ?_
  refine Ak_sipush 260 (d_M_init 139 257 (.sipush 500) 3 rfl) rfl (sp_ok rfl) (rk rfl) ?_
  refine Ak_newaI 262 lk_arr0 (by decide) (by decide) (d_M_init 140 260 (.newarray .int) 2 rfl) rfl (by decide) (by decide) (fun S109 V110 hS109 hV110 => ?_)
  replace h := wV_some (wS_some h S109 hS109) V110 hV110
  obtain ⟨hg111, h⟩ := gd_some h
  refine Ak_putF 265 38 hg111 clX13 (by decide) rfl rfl (fun o => by cases o <;> exact ⟨rfl, rfl⟩) rfl rfl lkF_M_128 (d_M_init 141 262 (.putfield 128) 3 rfl) rfl (fun S112 hS112 => ?_)
  replace h := wS_some h S112 hS112
  refine Ak_aload_n 266 0 (d_M_init 142 265 (.aload_n 0) 1 rfl) rfl rfl rfl ?_
  refine Ak_iconst 267 (d_M_init 143 266 (.iconst 0) 1 rfl) rfl (rk rfl) ?_
  obtain ⟨hg113, h⟩ := gd_some h
  refine Ak_putI 270 39 hg113 clX13 (by decide) rfl rfl rfl lkF_M_131 (d_M_init 144 267 (.putfield 131) 3 rfl) rfl (fun V114 hV114 => ?_)
  replace h := wV_some h V114 hV114
  refine Ak_aload_n 271 0 (d_M_init 145 270 (.aload_n 0) 1 rfl) rfl rfl rfl ?_
  refine Ak_iconst 272 (d_M_init 146 271 (.iconst 0) 1 rfl) rfl (rk rfl) ?_
  refine Ak_putZ 275 40 (Or.inl rfl) hg113 clX13 (by decide) rfl rfl rfl lkF_M_134 (d_M_init 147 272 (.putfield 134) 3 rfl) rfl (fun V115 hV115 => ?_)
  replace h := wV_some h V115 hV115
  refine Ak_aload_n 276 0 (d_M_init 148 275 (.aload_n 0) 1 rfl) rfl rfl rfl ?_
  refine Ak_bipush 278 (d_M_init 149 276 (.bipush 6) 2 rfl) rfl (bp_ok rfl) (rk rfl) ?_
  refine Ak_newaI 280 lk_arr0 (by decide) (by decide) (d_M_init 150 278 (.newarray .int) 2 rfl) rfl (by decide) (by decide) (fun S116 V117 hS116 hV117 => ?_)
  replace h := wV_some (wS_some h S116 hS116) V117 hV117
  obtain ⟨hg118, h⟩ := gd_some h
  refine Ak_putF 283 41 hg118 clX13 (by decide) rfl rfl (fun o => by cases o <;> exact ⟨rfl, rfl⟩) rfl rfl lkF_M_138 (d_M_init 151 280 (.putfield 138) 3 rfl) rfl (fun S119 hS119 => ?_)
  replace h := wS_some h S119 hS119
  refine Ak_aload_n 284 0 (d_M_init 152 283 (.aload_n 0) 1 rfl) rfl rfl rfl ?_
  refine Ak_sipush 287 (d_M_init 153 284 (.sipush 1850) 3 rfl) rfl (sp_ok rfl) (rk rfl) ?_
  refine Ak_newaJ 289 lk_arr1 (by decide) (by decide) (d_M_init 154 287 (.newarray .long) 2 rfl) rfl (by decide) (by decide) (fun S120 V121 hS120 hV121 => ?_)
  replace h := wV_some (wS_some h S120 hS120) V121 hV121
  obtain ⟨hg122, h⟩ := gd_some h
  refine Ak_putF 292 42 hg122 clX13 (by decide) rfl rfl (fun o => by cases o <;> exact ⟨rfl, rfl⟩) rfl rfl lkF_M_141 (d_M_init 155 289 (.putfield 141) 3 rfl) rfl (fun S123 hS123 => ?_)
  replace h := wS_some h S123 hS123
  refine Ak_aload_n 293 0 (d_M_init 156 292 (.aload_n 0) 1 rfl) rfl rfl rfl ?_
  refine Ak_bipush 295 (d_M_init 157 293 (.bipush 10) 2 rfl) rfl (bp_ok rfl) (rk rfl) ?_
  refine Ak_newaI 297 lk_arr0 (by decide) (by decide) (d_M_init 158 295 (.newarray .int) 2 rfl) rfl (by decide) (by decide) (fun S124 V125 hS124 hV125 => ?_)
  replace h := wV_some (wS_some h S124 hS124) V125 hV125
  obtain ⟨hg126, h⟩ := gd_some h
  refine Ak_putF 300 43 hg126 clX13 (by decide) rfl rfl (fun o => by cases o <;> exact ⟨rfl, rfl⟩) rfl rfl lkF_M_144 (d_M_init 159 297 (.putfield 144) 3 rfl) rfl (fun S127 hS127 => ?_)
  replace h := wS_some h S127 hS127
  refine Ak_aload_n 301 0 (d_M_init 160 300 (.aload_n 0) 1 rfl) rfl rfl rfl ?_
  refine Ak_bipush 303 (d_M_init 161 301 (.bipush 12) 2 rfl) rfl (bp_ok rfl) (rk rfl) ?_
  refine Ak_newaI 305 lk_arr0 (by decide) (by decide) (d_M_init 162 303 (.newarray .int) 2 rfl) rfl (by decide) (by decide) (fun S128 V129 hS128 hV129 => ?_)
  replace h := wV_some (wS_some h S128 hS128) V129 hV129
  obtain ⟨hg130, h⟩ := gd_some h
  refine Ak_putF 308 44 hg130 clX13 (by decide) rfl rfl (fun o => by cases o <;> exact ⟨rfl, rfl⟩) rfl rfl lkF_M_147 (d_M_init 163 305 (.putfield 147) 3 rfl) rfl (fun S131 hS131 => ?_)
  replace h := wS_some h S131 hS131
  refine Ak_aload_n 309 0 (d_M_init 164 308 (.aload_n 0) 1 rfl) rfl rfl rfl ?_
  refine Ak_bipush 311 (d_M_init 165 309 (.bipush 12) 2 rfl) rfl (bp_ok rfl) (rk rfl) ?_
  refine Ak_newaZ 313 lk_arr2 (by decide) (by decide) (d_M_init 166 311 (.newarray .boolean) 2 rfl) rfl (by decide) (by decide) (fun S132 V133 hS132 hV133 => ?_)
  replace h := wV_some (wS_some h S132 hS132) V133 hV133
  obtain ⟨hg134, h⟩ := gd_some h
  refine Ak_putF 316 45 hg134 clX13 (by decide) rfl rfl (fun o => by cases o <;> exact ⟨rfl, rfl⟩) rfl rfl lkF_M_150 (d_M_init 167 313 (.putfield 150) 3 rfl) rfl (fun S135 hS135 => ?_)
  replace h := wS_some h S135 hS135
  refine Ak_aload_n 317 0 (d_M_init 168 316 (.aload_n 0) 1 rfl) rfl rfl rfl ?_
  refine Ak_bipush 319 (d_M_init 169 317 (.bipush 12) 2 rfl) rfl (bp_ok rfl) (rk rfl) ?_
  refine Ak_newaZ 321 lk_arr2 (by decide) (by decide) (d_M_init 170 319 (.newarray .boolean) 2 rfl) rfl (by decide) (by decide) (fun S136 V137 hS136 hV137 => ?_)
  replace h := wV_some (wS_some h S136 hS136) V137 hV137
  obtain ⟨hg138, h⟩ := gd_some h
  refine Ak_putF 324 46 hg138 clX13 (by decide) rfl rfl (fun o => by cases o <;> exact ⟨rfl, rfl⟩) rfl rfl lkF_M_153 (d_M_init 171 321 (.putfield 153) 3 rfl) rfl (fun S139 hS139 => ?_)
  replace h := wS_some h S139 hS139
  refine Ak_aload_n 325 0 (d_M_init 172 324 (.aload_n 0) 1 rfl) rfl rfl rfl ?_
  refine Ak_bipush 327 (d_M_init 173 325 (.bipush 12) 2 rfl) rfl (bp_ok rfl) (rk rfl) ?_
  refine Ak_newaI 329 lk_arr0 (by decide) (by decide) (d_M_init 174 327 (.newarray .int) 2 rfl) rfl (by decide) (by decide) (fun S140 V141 hS140 hV141 => ?_)
  replace h := wV_some (wS_some h S140 hS140) V141 hV141
  obtain ⟨hg142, h⟩ := gd_some h
  refine Ak_putF 332 47 hg142 clX13 (by decide) rfl rfl (fun o => by cases o <;> exact ⟨rfl, rfl⟩) rfl rfl lkF_M_156 (d_M_init 175 329 (.putfield 156) 3 rfl) rfl (fun S143 hS143 => ?_)
  replace h := wS_some h S143 hS143
  refine Ak_aload_n 333 0 (d_M_init 176 332 (.aload_n 0) 1 rfl) rfl rfl rfl ?_
  refine Ak_iconst 334 (d_M_init 177 333 (.iconst 0) 1 rfl) rfl (rk rfl) ?_
  obtain ⟨hg144, h⟩ := gd_some h
  refine Ak_putI 337 48 hg144 clX13 (by decide) rfl rfl rfl lkF_M_159 (d_M_init 178 334 (.putfield 159) 3 rfl) rfl (fun V145 hV145 => ?_)
  replace h := wV_some h V145 hV145
  refine Ak_aload_n 338 0 (d_M_init 179 337 (.aload_n 0) 1 rfl) rfl rfl rfl ?_
  refine Ak_iconst 339 (d_M_init 180 338 (.iconst 2) 1 rfl) rfl (rk rfl) ?_
  refine Ak_newaI 341 lk_arr0 (by decide) (by decide) (d_M_init 181 339 (.newarray .int) 2 rfl) rfl (by decide) (by decide) (fun S146 V147 hS146 hV147 => ?_)
  replace h := wV_some (wS_some h S146 hS146) V147 hV147
  obtain ⟨hg148, h⟩ := gd_some h
  refine Ak_putF 344 49 hg148 clX13 (by decide) rfl rfl (fun o => by cases o <;> exact ⟨rfl, rfl⟩) rfl rfl lkF_M_162 (d_M_init 182 341 (.putfield 162) 3 rfl) rfl (fun S149 hS149 => ?_)
  replace h := wS_some h S149 hS149
  refine Ak_aload_n 345 0 (d_M_init 183 344 (.aload_n 0) 1 rfl) rfl rfl rfl ?_
  refine Ak_iconst 346 (d_M_init 184 345 (.iconst 2) 1 rfl) rfl (rk rfl) ?_
  refine Ak_newaI 348 lk_arr0 (by decide) (by decide) (d_M_init 185 346 (.newarray .int) 2 rfl) rfl (by decide) (by decide) (fun S150 V151 hS150 hV151 => ?_)
  replace h := wV_some (wS_some h S150 hS150) V151 hV151
  obtain ⟨hg152, h⟩ := gd_some h
  refine Ak_putF 351 50 hg152 clX13 (by decide) rfl rfl (fun o => by cases o <;> exact ⟨rfl, rfl⟩) rfl rfl lkF_M_165 (d_M_init 186 348 (.putfield 165) 3 rfl) rfl (fun S153 hS153 => ?_)
  replace h := wS_some h S153 hS153
  refine Ak_aload_n 352 0 (d_M_init 187 351 (.aload_n 0) 1 rfl) rfl rfl rfl ?_
  refine Ak_sipush 355 (d_M_init 188 352 (.sipush 200) 3 rfl) rfl (sp_ok rfl) (rk rfl) ?_
  refine Ak_newaI 357 lk_arr0 (by decide) (by decide) (d_M_init 189 355 (.newarray .int) 2 rfl) rfl (by decide) (by decide) (fun S154 V155 hS154 hV155 => ?_)
  replace h := wV_some (wS_some h S154 hS154) V155 hV155
  obtain ⟨hg156, h⟩ := gd_some h
  refine Ak_putF 360 51 hg156 clX13 (by decide) rfl rfl (fun o => by cases o <;> exact ⟨rfl, rfl⟩) rfl rfl lkF_M_168 (d_M_init 190 357 (.putfield 168) 3 rfl) rfl (fun S157 hS157 => ?_)
  replace h := wS_some h S157 hS157
  refine Ak_aload_n 361 0 (d_M_init 191 360 (.aload_n 0) 1 rfl) rfl rfl rfl ?_
  refine Ak_sipush 364 (d_M_init 192 361 (.sipush 4000) 3 rfl) rfl (sp_ok rfl) (rk rfl) ?_
  refine Ak_newaI 366 lk_arr0 (by decide) (by decide) (d_M_init 193 364 (.newarray .int) 2 rfl) rfl (by decide) (by decide) (fun S158 V159 hS158 hV159 => ?_)
  replace h := wV_some (wS_some h S158 hS158) V159 hV159
  obtain ⟨hg160, h⟩ := gd_some h
  refine Ak_putF 369 52 hg160 clX13 (by decide) rfl rfl (fun o => by cases o <;> exact ⟨rfl, rfl⟩) rfl rfl lkF_M_171 (d_M_init 194 366 (.putfield 171) 3 rfl) rfl (fun S161 hS161 => ?_)
  replace h := wS_some h S161 hS161
  refine Ak_aload_n 370 0 (d_M_init 195 369 (.aload_n 0) 1 rfl) rfl rfl rfl ?_
  refine Ak_sipush 373 (d_M_init 196 370 (.sipush 4000) 3 rfl) rfl (sp_ok rfl) (rk rfl) ?_
  refine Ak_newaI 375 lk_arr0 (by decide) (by decide) (d_M_init 197 373 (.newarray .int) 2 rfl) rfl (by decide) (by decide) (fun S162 V163 hS162 hV163 => ?_)
  replace h := wV_some (wS_some h S162 hS162) V163 hV163
  obtain ⟨hg164, h⟩ := gd_some h
  refine Ak_putF 378 53 hg164 clX13 (by decide) rfl rfl (fun o => by cases o <;> exact ⟨rfl, rfl⟩) rfl rfl lkF_M_174 (d_M_init 198 375 (.putfield 174) 3 rfl) rfl (fun S165 hS165 => ?_)
  replace h := wS_some h S165 hS165
  refine Ak_aload_n 379 0 (d_M_init 199 378 (.aload_n 0) 1 rfl) rfl rfl rfl ?_
  refine Ak_sipush 382 (d_M_init 200 379 (.sipush 200) 3 rfl) rfl (sp_ok rfl) (rk rfl) ?_
  refine Ak_newaZ 384 lk_arr2 (by decide) (by decide) (d_M_init 201 382 (.newarray .boolean) 2 rfl) rfl (by decide) (by decide) (fun S166 V167 hS166 hV167 => ?_)
  replace h := wV_some (wS_some h S166 hS166) V167 hV167
  obtain ⟨hg168, h⟩ := gd_some h
  refine Ak_putF 387 54 hg168 clX13 (by decide) rfl rfl (fun o => by cases o <;> exact ⟨rfl, rfl⟩) rfl rfl lkF_M_177 (d_M_init 202 384 (.putfield 177) 3 rfl) rfl (fun S169 hS169 => ?_)
  replace h := wS_some h S169 hS169
  refine Ak_aload_n 388 0 (d_M_init 203 387 (.aload_n 0) 1 rfl) rfl rfl rfl ?_
  refine Ak_sipush 391 (d_M_init 204 388 (.sipush 200) 3 rfl) rfl (sp_ok rfl) (rk rfl) ?_
  refine Ak_newaI 393 lk_arr0 (by decide) (by decide) (d_M_init 205 391 (.newarray .int) 2 rfl) rfl (by decide) (by decide) (fun S170 V171 hS170 hV171 => ?_)
  replace h := wV_some (wS_some h S170 hS170) V171 hV171
  obtain ⟨hg172, h⟩ := gd_some h
  refine Ak_putF 396 55 hg172 clX13 (by decide) rfl rfl (fun o => by cases o <;> exact ⟨rfl, rfl⟩) rfl rfl lkF_M_180 (d_M_init 206 393 (.putfield 180) 3 rfl) rfl (fun S173 hS173 => ?_)
  replace h := wS_some h S173 hS173
  refine Ak_aload_n 397 0 (d_M_init 207 396 (.aload_n 0) 1 rfl) rfl rfl rfl ?_
  refine Ak_iconst 398 (d_M_init 208 397 (.iconst 0) 1 rfl) rfl (rk rfl) ?_
  obtain ⟨hg174, h⟩ := gd_some h
  refine Ak_putI 401 56 hg174 clX13 (by decide) rfl rfl rfl lkF_M_183 (d_M_init 209 398 (.putfield 183) 3 rfl) rfl (fun V175 hV175 => ?_)
  replace h := wV_some h V175 hV175
  refine Ak_aload_n 402 0 (d_M_init 210 401 (.aload_n 0) 1 rfl) rfl rfl rfl ?_
  refine Ak_sipush 405 (d_M_init 211 402 (.sipush 200) 3 rfl) rfl (sp_ok rfl) (rk rfl) ?_
  refine Ak_newaI 407 lk_arr0 (by decide) (by decide) (d_M_init 212 405 (.newarray .int) 2 rfl) rfl (by decide) (by decide) (fun S176 V177 hS176 hV177 => ?_)
  replace h := wV_some (wS_some h S176 hS176) V177 hV177
  obtain ⟨hg178, h⟩ := gd_some h
  refine Ak_putF 410 57 hg178 clX13 (by decide) rfl rfl (fun o => by cases o <;> exact ⟨rfl, rfl⟩) rfl rfl lkF_M_186 (d_M_init 213 407 (.putfield 186) 3 rfl) rfl (fun S179 hS179 => ?_)
  replace h := wS_some h S179 hS179
  refine Ak_aload_n 411 0 (d_M_init 214 410 (.aload_n 0) 1 rfl) rfl rfl rfl ?_
  refine Ak_sipush 414 (d_M_init 215 411 (.sipush 200) 3 rfl) rfl (sp_ok rfl) (rk rfl) ?_
  refine Ak_newaI 416 lk_arr0 (by decide) (by decide) (d_M_init 216 414 (.newarray .int) 2 rfl) rfl (by decide) (by decide) (fun S180 V181 hS180 hV181 => ?_)
  replace h := wV_some (wS_some h S180 hS180) V181 hV181
  obtain ⟨hg182, h⟩ := gd_some h
  refine Ak_putF 419 58 hg182 clX13 (by decide) rfl rfl (fun o => by cases o <;> exact ⟨rfl, rfl⟩) rfl rfl lkF_M_189 (d_M_init 217 416 (.putfield 189) 3 rfl) rfl (fun S183 hS183 => ?_)
  replace h := wS_some h S183 hS183
  refine Ak_aload_n 420 0 (d_M_init 218 419 (.aload_n 0) 1 rfl) rfl rfl rfl ?_
  refine Ak_iconst 421 (d_M_init 219 420 (.iconst 0) 1 rfl) rfl (rk rfl) ?_
  obtain ⟨hg184, h⟩ := gd_some h
  refine Ak_putI 424 59 hg184 clX13 (by decide) rfl rfl rfl lkF_M_192 (d_M_init 220 421 (.putfield 192) 3 rfl) rfl (fun V185 hV185 => ?_)
  replace h := wV_some h V185 hV185
  refine Ak_aload_n 425 0 (d_M_init 221 424 (.aload_n 0) 1 rfl) rfl rfl rfl ?_
  refine Ak_iconst 426 (d_M_init 222 425 (.iconst 0) 1 rfl) rfl (rk rfl) ?_
  refine Ak_putI 429 60 hg184 clX13 (by decide) rfl rfl rfl lkF_M_195 (d_M_init 223 426 (.putfield 195) 3 rfl) rfl (fun V186 hV186 => ?_)
  replace h := wV_some h V186 hV186
  refine Ak_aload_n 430 0 (d_M_init 224 429 (.aload_n 0) 1 rfl) rfl rfl rfl ?_
  refine Ak_iconst 431 (d_M_init 225 430 (.iconst (-1)) 1 rfl) rfl (rk rfl) ?_
  refine Ak_putI 434 61 hg184 clX13 (by decide) rfl rfl rfl lkF_M_198 (d_M_init 226 431 (.putfield 198) 3 rfl) rfl (fun V187 hV187 => ?_)
  replace h := wV_some h V187 hV187
  refine Ak_aload_n 435 0 (d_M_init 227 434 (.aload_n 0) 1 rfl) rfl rfl rfl ?_
  refine Ak_sipush 438 (d_M_init 228 435 (.sipush 200) 3 rfl) rfl (sp_ok rfl) (rk rfl) ?_
  refine Ak_newaI 440 lk_arr0 (by decide) (by decide) (d_M_init 229 438 (.newarray .int) 2 rfl) rfl (by decide) (by decide) (fun S188 V189 hS188 hV189 => ?_)
  replace h := wV_some (wS_some h S188 hS188) V189 hV189
  obtain ⟨hg190, h⟩ := gd_some h
  refine Ak_putF 443 62 hg190 clX13 (by decide) rfl rfl (fun o => by cases o <;> exact ⟨rfl, rfl⟩) rfl rfl lkF_M_201 (d_M_init 230 440 (.putfield 201) 3 rfl) rfl (fun S191 hS191 => ?_)
  replace h := wS_some h S191 hS191
  refine Ak_aload_n 444 0 (d_M_init 231 443 (.aload_n 0) 1 rfl) rfl rfl rfl ?_
  refine Ak_sipush 447 (d_M_init 232 444 (.sipush 200) 3 rfl) rfl (sp_ok rfl) (rk rfl) ?_
  refine Ak_newaJ 449 lk_arr1 (by decide) (by decide) (d_M_init 233 447 (.newarray .long) 2 rfl) rfl (by decide) (by decide) (fun S192 V193 hS192 hV193 => ?_)
  replace h := wV_some (wS_some h S192 hS192) V193 hV193
  obtain ⟨hg194, h⟩ := gd_some h
  refine Ak_putF 452 63 hg194 clX13 (by decide) rfl rfl (fun o => by cases o <;> exact ⟨rfl, rfl⟩) rfl rfl lkF_M_204 (d_M_init 234 449 (.putfield 204) 3 rfl) rfl (fun S195 hS195 => ?_)
  replace h := wS_some h S195 hS195
  refine Ak_aload_n 453 0 (d_M_init 235 452 (.aload_n 0) 1 rfl) rfl rfl rfl ?_
  refine Ak_sipush 456 (d_M_init 236 453 (.sipush 200) 3 rfl) rfl (sp_ok rfl) (rk rfl) ?_
  refine Ak_newaJ 458 lk_arr1 (by decide) (by decide) (d_M_init 237 456 (.newarray .long) 2 rfl) rfl (by decide) (by decide) (fun S196 V197 hS196 hV197 => ?_)
  replace h := wV_some (wS_some h S196 hS196) V197 hV197
  obtain ⟨hg198, h⟩ := gd_some h
  refine Ak_putF 461 64 hg198 clX13 (by decide) rfl rfl (fun o => by cases o <;> exact ⟨rfl, rfl⟩) rfl rfl lkF_M_207 (d_M_init 238 458 (.putfield 207) 3 rfl) rfl (fun S199 hS199 => ?_)
  replace h := wS_some h S199 hS199
  refine Ak_aload_n 462 0 (d_M_init 239 461 (.aload_n 0) 1 rfl) rfl rfl rfl ?_
  refine Ak_iconst 463 (d_M_init 240 462 (.iconst 0) 1 rfl) rfl (rk rfl) ?_
  obtain ⟨hg200, h⟩ := gd_some h
  refine Ak_putI 466 65 hg200 clX13 (by decide) rfl rfl rfl lkF_M_210 (d_M_init 241 463 (.putfield 210) 3 rfl) rfl (fun V201 hV201 => ?_)
  replace h := wV_some h V201 hV201
  refine Ak_aload_n 467 0 (d_M_init 242 466 (.aload_n 0) 1 rfl) rfl rfl rfl ?_
  refine Ak_sipush 470 (d_M_init 243 467 (.sipush 480) 3 rfl) rfl (sp_ok rfl) (rk rfl) ?_
  refine Ak_newaI 472 lk_arr0 (by decide) (by decide) (d_M_init 244 470 (.newarray .int) 2 rfl) rfl (by decide) (by decide) (fun S202 V203 hS202 hV203 => ?_)
  replace h := wV_some (wS_some h S202 hS202) V203 hV203
  obtain ⟨hg204, h⟩ := gd_some h
  refine Ak_putF 475 66 hg204 clX13 (by decide) rfl rfl (fun o => by cases o <;> exact ⟨rfl, rfl⟩) rfl rfl lkF_M_213 (d_M_init 245 472 (.putfield 213) 3 rfl) rfl (fun S205 hS205 => ?_)
  replace h := wS_some h S205 hS205
  refine Ak_aload_n 476 0 (d_M_init 246 475 (.aload_n 0) 1 rfl) rfl rfl rfl ?_
  refine Ak_sipush 479 (d_M_init 247 476 (.sipush 480) 3 rfl) rfl (sp_ok rfl) (rk rfl) ?_
  refine Ak_newaZ 481 lk_arr2 (by decide) (by decide) (d_M_init 248 479 (.newarray .boolean) 2 rfl) rfl (by decide) (by decide) (fun S206 V207 hS206 hV207 => ?_)
  replace h := wV_some (wS_some h S206 hS206) V207 hV207
  obtain ⟨hg208, h⟩ := gd_some h
  refine Ak_putF 484 67 hg208 clX13 (by decide) rfl rfl (fun o => by cases o <;> exact ⟨rfl, rfl⟩) rfl rfl lkF_M_216 (d_M_init 249 481 (.putfield 216) 3 rfl) rfl (fun S209 hS209 => ?_)
  replace h := wS_some h S209 hS209
  refine Ak_aload_n 485 0 (d_M_init 250 484 (.aload_n 0) 1 rfl) rfl rfl rfl ?_
  refine Ak_sipush 488 (d_M_init 251 485 (.sipush 480) 3 rfl) rfl (sp_ok rfl) (rk rfl) ?_
  refine Ak_newaZ 490 lk_arr2 (by decide) (by decide) (d_M_init 252 488 (.newarray .boolean) 2 rfl) rfl (by decide) (by decide) (fun S210 V211 hS210 hV211 => ?_)
  replace h := wV_some (wS_some h S210 hS210) V211 hV211
  obtain ⟨hg212, h⟩ := gd_some h
  refine Ak_putF 493 68 hg212 clX13 (by decide) rfl rfl (fun o => by cases o <;> exact ⟨rfl, rfl⟩) rfl rfl lkF_M_219 (d_M_init 253 490 (.putfield 219) 3 rfl) rfl (fun S213 hS213 => ?_)
  replace h := wS_some h S213 hS213
  refine Ak_aload_n 494 0 (d_M_init 254 493 (.aload_n 0) 1 rfl) rfl rfl rfl ?_
  refine Ak_sipush 497 (d_M_init 255 494 (.sipush 480) 3 rfl) rfl (sp_ok rfl) (rk rfl) ?_
  refine Ak_newaI 499 lk_arr0 (by decide) (by decide) (d_M_init 256 497 (.newarray .int) 2 rfl) rfl (by decide) (by decide) (fun S214 V215 hS214 hV215 => ?_)
  replace h := wV_some (wS_some h S214 hS214) V215 hV215
  obtain ⟨hg216, h⟩ := gd_some h
  refine Ak_putF 502 69 hg216 clX13 (by decide) rfl rfl (fun o => by cases o <;> exact ⟨rfl, rfl⟩) rfl rfl lkF_M_222 (d_M_init 257 499 (.putfield 222) 3 rfl) rfl (fun S217 hS217 => ?_)
  replace h := wS_some h S217 hS217
  refine Ak_aload_n 503 0 (d_M_init 258 502 (.aload_n 0) 1 rfl) rfl rfl rfl ?_
  refine Ak_sipush 506 (d_M_init 259 503 (.sipush 372) 3 rfl) rfl (sp_ok rfl) (rk rfl) ?_
  refine Ak_newaI 508 lk_arr0 (by decide) (by decide) (d_M_init 260 506 (.newarray .int) 2 rfl) rfl (by decide) (by decide) (fun S218 V219 hS218 hV219 => ?_)
  replace h := wV_some (wS_some h S218 hS218) V219 hV219
  obtain ⟨hg220, h⟩ := gd_some h
  refine Ak_putF 511 70 hg220 clX13 (by decide) rfl rfl (fun o => by cases o <;> exact ⟨rfl, rfl⟩) rfl rfl lkF_M_225 (d_M_init 261 508 (.putfield 225) 3 rfl) rfl (fun S221 hS221 => ?_)
  replace h := wS_some h S221 hS221
  refine Ak_aload_n 512 0 (d_M_init 262 511 (.aload_n 0) 1 rfl) rfl rfl rfl ?_
  refine Ak_sipush 515 (d_M_init 263 512 (.sipush 372) 3 rfl) rfl (sp_ok rfl) (rk rfl) ?_
  refine Ak_newaI 517 lk_arr0 (by decide) (by decide) (d_M_init 264 515 (.newarray .int) 2 rfl) rfl (by decide) (by decide) (fun S222 V223 hS222 hV223 => ?_)
  replace h := wV_some (wS_some h S222 hS222) V223 hV223
  obtain ⟨hg224, h⟩ := gd_some h
  refine Ak_putF 520 71 hg224 clX13 (by decide) rfl rfl (fun o => by cases o <;> exact ⟨rfl, rfl⟩) rfl rfl lkF_M_228 (d_M_init 265 517 (.putfield 228) 3 rfl) rfl (fun S225 hS225 => ?_)
  replace h := wS_some h S225 hS225
  refine Ak_aload_n 521 0 (d_M_init 266 520 (.aload_n 0) 1 rfl) rfl rfl rfl ?_
  refine Ak_iconst 522 (d_M_init 267 521 (.iconst 0) 1 rfl) rfl (rk rfl) ?_
  obtain ⟨hg226, h⟩ := gd_some h
  refine Ak_putZ 525 72 (Or.inl rfl) hg226 clX13 (by decide) rfl rfl rfl lkF_M_231 (d_M_init 268 522 (.putfield 231) 3 rfl) rfl (fun V227 hV227 => ?_)
  replace h := wV_some h V227 hV227
  refine Ak_aload_n 526 0 (d_M_init 269 525 (.aload_n 0) 1 rfl) rfl rfl rfl ?_
  refine Ak_bipush 528 (d_M_init 270 526 (.bipush 12) 2 rfl) rfl (bp_ok rfl) (rk rfl) ?_
  refine Ak_newaI 530 lk_arr0 (by decide) (by decide) (d_M_init 271 528 (.newarray .int) 2 rfl) rfl (by decide) (by decide) (fun S228 V229 hS228 hV229 => ?_)
  replace h := wV_some (wS_some h S228 hS228) V229 hV229
  obtain ⟨hg230, h⟩ := gd_some h
  refine Ak_putF 533 73 hg230 clX13 (by decide) rfl rfl (fun o => by cases o <;> exact ⟨rfl, rfl⟩) rfl rfl lkF_M_234 (d_M_init 272 530 (.putfield 234) 3 rfl) rfl (fun S231 hS231 => ?_)
  replace h := wS_some h S231 hS231
  refine Ak_aload_n 534 0 (d_M_init 273 533 (.aload_n 0) 1 rfl) rfl rfl rfl ?_
  refine Ak_bipush 536 (d_M_init 274 534 (.bipush 12) 2 rfl) rfl (bp_ok rfl) (rk rfl) ?_
  refine Ak_newaI 538 lk_arr0 (by decide) (by decide) (d_M_init 275 536 (.newarray .int) 2 rfl) rfl (by decide) (by decide) (fun S232 V233 hS232 hV233 => ?_)
  replace h := wV_some (wS_some h S232 hS232) V233 hV233
  obtain ⟨hg234, h⟩ := gd_some h
  refine Ak_putF 541 74 hg234 clX13 (by decide) rfl rfl (fun o => by cases o <;> exact ⟨rfl, rfl⟩) rfl rfl lkF_M_237 (d_M_init 276 538 (.putfield 237) 3 rfl) rfl (fun S235 hS235 => ?_)
  replace h := wS_some h S235 hS235
  refine Ak_aload_n 542 0 (d_M_init 277 541 (.aload_n 0) 1 rfl) rfl rfl rfl ?_
  refine Ak_sipush 545 (d_M_init 278 542 (.sipush 200) 3 rfl) rfl (sp_ok rfl) (rk rfl) ?_
  refine Ak_newaI 547 lk_arr0 (by decide) (by decide) (d_M_init 279 545 (.newarray .int) 2 rfl) rfl (by decide) (by decide) (fun S236 V237 hS236 hV237 => ?_)
  replace h := wV_some (wS_some h S236 hS236) V237 hV237
  obtain ⟨hg238, h⟩ := gd_some h
  refine Ak_putF 550 75 hg238 clX13 (by decide) rfl rfl (fun o => by cases o <;> exact ⟨rfl, rfl⟩) rfl rfl lkF_M_240 (d_M_init 280 547 (.putfield 240) 3 rfl) rfl (fun S239 hS239 => ?_)
  replace h := wS_some h S239 hS239
  refine Ak_aload_n 551 0 (d_M_init 281 550 (.aload_n 0) 1 rfl) rfl rfl rfl ?_
  refine Ak_sipush 554 (d_M_init 282 551 (.sipush 4000) 3 rfl) rfl (sp_ok rfl) (rk rfl) ?_
  refine Ak_newaI 556 lk_arr0 (by decide) (by decide) (d_M_init 283 554 (.newarray .int) 2 rfl) rfl (by decide) (by decide) (fun S240 V241 hS240 hV241 => ?_)
  replace h := wV_some (wS_some h S240 hS240) V241 hV241
  obtain ⟨hg242, h⟩ := gd_some h
  refine Ak_putF 559 76 hg242 clX13 (by decide) rfl rfl (fun o => by cases o <;> exact ⟨rfl, rfl⟩) rfl rfl lkF_M_243 (d_M_init 284 556 (.putfield 243) 3 rfl) rfl (fun S243 hS243 => ?_)
  replace h := wS_some h S243 hS243
  refine Ak_aload_n 560 0 (d_M_init 285 559 (.aload_n 0) 1 rfl) rfl rfl rfl ?_
  refine Ak_sipush 563 (d_M_init 286 560 (.sipush 4000) 3 rfl) rfl (sp_ok rfl) (rk rfl) ?_
  refine Ak_newaI 565 lk_arr0 (by decide) (by decide) (d_M_init 287 563 (.newarray .int) 2 rfl) rfl (by decide) (by decide) (fun S244 V245 hS244 hV245 => ?_)
  replace h := wV_some (wS_some h S244 hS244) V245 hV245
  obtain ⟨hg246, h⟩ := gd_some h
  refine Ak_putF 568 77 hg246 clX13 (by decide) rfl rfl (fun o => by cases o <;> exact ⟨rfl, rfl⟩) rfl rfl lkF_M_246 (d_M_init 288 565 (.putfield 246) 3 rfl) rfl (fun S247 hS247 => ?_)
  replace h := wS_some h S247 hS247
  refine Ak_aload_n 569 0 (d_M_init 289 568 (.aload_n 0) 1 rfl) rfl rfl rfl ?_
  refine Ak_sipush 572 (d_M_init 290 569 (.sipush 200) 3 rfl) rfl (sp_ok rfl) (rk rfl) ?_
  refine Ak_newaI 574 lk_arr0 (by decide) (by decide) (d_M_init 291 572 (.newarray .int) 2 rfl) rfl (by decide) (by decide) (fun S248 V249 hS248 hV249 => ?_)
  replace h := wV_some (wS_some h S248 hS248) V249 hV249
  obtain ⟨hg250, h⟩ := gd_some h
  refine Ak_putF 577 78 hg250 clX13 (by decide) rfl rfl (fun o => by cases o <;> exact ⟨rfl, rfl⟩) rfl rfl lkF_M_249 (d_M_init 292 574 (.putfield 249) 3 rfl) rfl (fun S251 hS251 => ?_)
  replace h := wS_some h S251 hS251
  refine Ak_aload_n 578 0 (d_M_init 293 577 (.aload_n 0) 1 rfl) rfl rfl rfl ?_
  refine Ak_bipush 580 (d_M_init 294 578 (.bipush 48) 2 rfl) rfl (bp_ok rfl) (rk rfl) ?_
  refine Ak_newaI 582 lk_arr0 (by decide) (by decide) (d_M_init 295 580 (.newarray .int) 2 rfl) rfl (by decide) (by decide) (fun S252 V253 hS252 hV253 => ?_)
  replace h := wV_some (wS_some h S252 hS252) V253 hV253
  obtain ⟨hg254, h⟩ := gd_some h
  refine Ak_putF 585 79 hg254 clX13 (by decide) rfl rfl (fun o => by cases o <;> exact ⟨rfl, rfl⟩) rfl rfl lkF_M_252 (d_M_init 296 582 (.putfield 252) 3 rfl) rfl (fun S255 hS255 => ?_)
  replace h := wS_some h S255 hS255
  refine Ak_aload_n 586 0 (d_M_init 297 585 (.aload_n 0) 1 rfl) rfl rfl rfl ?_
  refine Ak_iconst 587 (d_M_init 298 586 (.iconst 0) 1 rfl) rfl (rk rfl) ?_
  obtain ⟨hg256, h⟩ := gd_some h
  refine Ak_putI 590 80 hg256 clX13 (by decide) rfl rfl rfl lkF_M_255 (d_M_init 299 587 (.putfield 255) 3 rfl) rfl (fun V257 hV257 => ?_)
  replace h := wV_some h V257 hV257
  cases h
  exact Ak_vret rfl (d_M_init 300 590 (.return_) 1 rfl)
