/-! printed by wip/gen/gen_all.py: contracts of the reader, moves, values, worths -/
theorem t_Reader_takeNumber_J31 {S : ASh} {V : ASt} {x0 x3 : Int} {r : Int} {V' : ASt} (hO : isO S x0 5 = true) (h : b_Reader_takeNumber_J31 S  V x0 x3 = some (r, V')) : AWk m_Reader_takeNumber 3 0 0 0 0 31 [some (aR x0), none, none, some (aI x3)] [] S V (some (aI r)) S V' := by
  unfold b_Reader_takeNumber_J31 at h
  refine Ak_aload_n 32 0 (d_Reader_takeNumber 17 31 (.aload_n 0) 1 rfl) rfl rfl rfl ?_
  refine Ak_iconst 33 (d_Reader_takeNumber 18 32 (.iconst 4) 1 rfl) rfl (rk rfl) ?_
  obtain ⟨r1, V2, h3, h⟩ := bnd_some h
  refine Ak_cV0 36 2 (c_Reader_fail h3) rfl hO clX5 rfl mok_Reader_fail lkM_Reader_74 (d_Reader_takeNumber 19 33 (.invokevirtual 74) 3 rfl) rfl (by decide) (Nat.le_of_ble_eq_true rfl) ?_
  refine Ak_goto 43 (d_Reader_takeNumber 20 36 (.goto 7) 3 rfl) rfl ?_
  refine Ak_iload_n 44 3 (d_Reader_takeNumber 23 43 (.iload_n 3) 1 rfl) rfl rfl rfl ?_
  cases h
  exact Ak_iret rfl (d_Reader_takeNumber 24 44 (.ireturn) 1 rfl)
theorem c_Reader_takeNumber {S : ASh} {V : ASt} {x0 x1 x2 : Int} {r : Int} {V' : ASt} (h : f_Reader_takeNumber S V x0 x1 x2 = some (r, V')) : ACt m_Reader_takeNumber 3 0 0 [(aR x0), (aI x1), (aI x2)] S V (some (aI r)) S V' := by
  unfold f_Reader_takeNumber at h
  obtain ⟨hO, h⟩ := gd_some h
  refine ACt_of (plainFor_of_name rfl) rfl (Nat.le_of_ble_eq_true rfl) ?_
  show AWk m_Reader_takeNumber 3 0 0 0 0 0 [some (aR x0), some (aI x1), some (aI x2)] [] S V (some (aI r)) S V'
  refine Ak_aload_n 1 0 (d_Reader_takeNumber 0 0 (.aload_n 0) 1 rfl) rfl rfl rfl ?_
  obtain ⟨r4, V5, h6, h⟩ := bnd_some h
  refine Ak_cV1 4 2 (c_Reader_content h6) rfl hO clX5 rfl mok_Reader_content lkM_Reader_77 (d_Reader_takeNumber 1 1 (.invokevirtual 77) 3 rfl) rfl (by decide) (Nat.le_of_ble_eq_true rfl) ?_
  refine Ak_istore_n 5 3 (d_Reader_takeNumber 2 4 (.istore_n 3) 1 rfl) rfl rfl (by decide) ?_
  refine Ak_aload_n 6 0 (d_Reader_takeNumber 3 5 (.aload_n 0) 1 rfl) rfl rfl rfl ?_
  obtain ⟨r7, V8, h9, h⟩ := bnd_some h
  refine Ak_cV1 9 2 (c_Reader_type h9) rfl hO clX5 rfl mok_Reader_type lkM_Reader_51 (d_Reader_takeNumber 4 6 (.invokevirtual 51) 3 rfl) rfl (by decide) (Nat.le_of_ble_eq_true rfl) ?_
  refine Ak_iconst 10 (d_Reader_takeNumber 5 9 (.iconst 3) 1 rfl) rfl (rk rfl) ?_
  refine Ak_icmp_eq 21 13 (d_Reader_takeNumber 6 10 (.if_icmp .eq 11) 3 rfl) rfl rfl (fun hc => ?_) (fun hc => ?_)
  · replace h := it_t hc h
    refine Ak_iload_n 22 3 (d_Reader_takeNumber 11 21 (.iload_n 3) 1 rfl) rfl rfl rfl ?_
    refine Ak_iload_n 23 1 (d_Reader_takeNumber 12 22 (.iload_n 1) 1 rfl) rfl rfl rfl ?_
    refine Ak_icmp_lt 31 26 (d_Reader_takeNumber 13 23 (.if_icmp .lt 8) 3 rfl) rfl rfl (fun hc => ?_) (fun hc => ?_)
    · replace h := it_t hc h
      refine Ak_keep [true, false, false, true] ?_
      exact t_Reader_takeNumber_J31 hO h
    · replace h := it_f hc h
      refine Ak_iload_n 27 3 (d_Reader_takeNumber 14 26 (.iload_n 3) 1 rfl) rfl rfl rfl ?_
      refine Ak_iload_n 28 2 (d_Reader_takeNumber 15 27 (.iload_n 2) 1 rfl) rfl rfl rfl ?_
      refine Ak_icmp_le 39 31 (d_Reader_takeNumber 16 28 (.if_icmp .le 11) 3 rfl) rfl rfl (fun hc => ?_) (fun hc => ?_)
      · replace h := it_t hc h
        refine Ak_aload_n 40 0 (d_Reader_takeNumber 21 39 (.aload_n 0) 1 rfl) rfl rfl rfl ?_
        obtain ⟨r10, V11, h12, h⟩ := bnd_some h
        refine Ak_cV0 43 2 (c_Reader_step h12) rfl hO clX5 rfl mok_Reader_step lkM_Reader_71 (d_Reader_takeNumber 22 40 (.invokevirtual 71) 3 rfl) rfl (by decide) (Nat.le_of_ble_eq_true rfl) ?_
        refine Ak_iload_n 44 3 (d_Reader_takeNumber 23 43 (.iload_n 3) 1 rfl) rfl rfl rfl ?_
        cases h
        exact Ak_iret rfl (d_Reader_takeNumber 24 44 (.ireturn) 1 rfl)
      · replace h := it_f hc h
        refine Ak_keep [true, false, false, true] ?_
        exact t_Reader_takeNumber_J31 hO h
  · replace h := it_f hc h
    refine Ak_aload_n 14 0 (d_Reader_takeNumber 7 13 (.aload_n 0) 1 rfl) rfl rfl rfl ?_
    refine Ak_iconst 15 (d_Reader_takeNumber 8 14 (.iconst 1) 1 rfl) rfl (rk rfl) ?_
    obtain ⟨r13, V14, h15, h⟩ := bnd_some h
    refine Ak_cV0 18 2 (c_Reader_fail h15) rfl hO clX5 rfl mok_Reader_fail lkM_Reader_74 (d_Reader_takeNumber 9 15 (.invokevirtual 74) 3 rfl) rfl (by decide) (Nat.le_of_ble_eq_true rfl) ?_
    refine Ak_goto 43 (d_Reader_takeNumber 10 18 (.goto 25) 3 rfl) rfl ?_
    refine Ak_iload_n 44 3 (d_Reader_takeNumber 23 43 (.iload_n 3) 1 rfl) rfl rfl rfl ?_
    cases h
    exact Ak_iret rfl (d_Reader_takeNumber 24 44 (.ireturn) 1 rfl)
theorem c_Reader_readBoard {S : ASh} {V : ASt} {x0 : Int} {r : Int} {V' : ASt} (h : f_Reader_readBoard S V x0 = some (r, V')) : ACt m_Reader_readBoard 4 0 0 [(aR x0)] S V none S V' := by
  unfold f_Reader_readBoard at h
  obtain ⟨hO, h⟩ := gd_some h
  refine ACt_of (plainFor_of_name rfl) rfl (Nat.le_of_ble_eq_true rfl) ?_
  show AWk m_Reader_readBoard 4 0 0 0 0 0 [some (aR x0)] [] S V none S V'
  refine Ak_aload_n 1 0 (d_Reader_readBoard 0 0 (.aload_n 0) 1 rfl) rfl rfl rfl ?_
  refine Ak_sipush 4 (d_Reader_readBoard 1 1 (.sipush 256) 3 rfl) rfl (sp_ok rfl) (rk rfl) ?_
  obtain ⟨r1, V2, h3, h⟩ := bnd_some h
  refine Ak_cV0 7 3 (c_Reader_take h3) rfl hO clX5 rfl mok_Reader_take lkM_Reader_47 (d_Reader_readBoard 2 4 (.invokevirtual 47) 3 rfl) rfl (by decide) (Nat.le_of_ble_eq_true rfl) ?_
  refine Ak_aload_n 8 0 (d_Reader_readBoard 3 7 (.aload_n 0) 1 rfl) rfl rfl rfl ?_
  refine Ak_getR 11 4 hO clX5 (by decide) rfl lkF_Reader_31 (d_Reader_readBoard 4 8 (.getfield 31) 3 rfl) rfl ?_
  refine Ak_aload_n 12 0 (d_Reader_readBoard 5 11 (.aload_n 0) 1 rfl) rfl rfl rfl ?_
  refine Ak_iconst 13 (d_Reader_readBoard 6 12 (.iconst 2) 1 rfl) rfl (rk rfl) ?_
  refine Ak_bipush 15 (d_Reader_readBoard 7 13 (.bipush 9) 2 rfl) rfl (bp_ok rfl) (rk rfl) ?_
  obtain ⟨r4, V5, h6, h⟩ := bnd_some h
  refine Ak_cV1 18 3 (c_Reader_takeNumber h6) rfl hO clX5 rfl mok_Reader_takeNumber lkM_Reader_80 (d_Reader_readBoard 8 15 (.invokevirtual 80) 3 rfl) rfl (by decide) (Nat.le_of_ble_eq_true rfl) ?_
  obtain ⟨hg7, h⟩ := gd_some h
  refine Ak_putI 21 0 hg7 clX1 (by decide) rfl rfl rfl lkF_Reader_84 (d_Reader_readBoard 9 18 (.putfield 84) 3 rfl) rfl (fun V8 hV8 => ?_)
  replace h := wV_some h V8 hV8
  cases h
  exact Ak_vret rfl (d_Reader_readBoard 10 21 (.return_) 1 rfl)
theorem t_Reader_readPiece_J53 {S : ASh} {V : ASt} {x0 x1 : Int} {r : Int} {V' : ASt} (hO : isO S x0 5 = true) (h : b_Reader_readPiece_J53 S  V x0 x1 = some (r, V')) : AWk m_Reader_readPiece 4 0 0 0 0 53 [some (aR x0), some (aI x1)] [] S V none S V' := by
  unfold b_Reader_readPiece_J53 at h
  refine Ak_aload_n 54 0 (d_Reader_readPiece 27 53 (.aload_n 0) 1 rfl) rfl rfl rfl ?_
  refine Ak_iconst 55 (d_Reader_readPiece 28 54 (.iconst 2) 1 rfl) rfl (rk rfl) ?_
  obtain ⟨r1, V2, h3, h⟩ := bnd_some h
  refine Ak_cV0 58 3 (c_Reader_take h3) rfl hO clX5 rfl mok_Reader_take lkM_Reader_47 (d_Reader_readPiece 29 55 (.invokevirtual 47) 3 rfl) rfl (by decide) (Nat.le_of_ble_eq_true rfl) ?_
  refine Ak_aload_n 59 0 (d_Reader_readPiece 30 58 (.aload_n 0) 1 rfl) rfl rfl rfl ?_
  refine Ak_sipush 62 (d_Reader_readPiece 31 59 (.sipush 258) 3 rfl) rfl (sp_ok rfl) (rk rfl) ?_
  obtain ⟨r4, V5, h6, h⟩ := bnd_some h
  refine Ak_cV0 65 3 (c_Reader_take h6) rfl hO clX5 rfl mok_Reader_take lkM_Reader_47 (d_Reader_readPiece 32 62 (.invokevirtual 47) 3 rfl) rfl (by decide) (Nat.le_of_ble_eq_true rfl) ?_
  refine Ak_aload_n 66 0 (d_Reader_readPiece 33 65 (.aload_n 0) 1 rfl) rfl rfl rfl ?_
  refine Ak_iconst 67 (d_Reader_readPiece 34 66 (.iconst 0) 1 rfl) rfl (rk rfl) ?_
  refine Ak_aload_n 68 0 (d_Reader_readPiece 35 67 (.aload_n 0) 1 rfl) rfl rfl rfl ?_
  refine Ak_getR 71 4 hO clX5 (by decide) rfl lkF_Reader_31 (d_Reader_readPiece 36 68 (.getfield 31) 3 rfl) rfl ?_
  obtain ⟨hg7, h⟩ := gd_some h
  refine Ak_getI 74 0 hg7 clX1 (by decide) (Or.inl rfl) lkF_Reader_84 (d_Reader_readPiece 37 71 (.getfield 84) 3 rfl) rfl ?_
  refine Ak_iconst 75 (d_Reader_readPiece 38 74 (.iconst 1) 1 rfl) rfl (rk rfl) ?_
  refine Ak_isub 76 (d_Reader_readPiece 39 75 (.isub) 1 rfl) rfl ?_
  obtain ⟨r8, V9, h10, h⟩ := bnd_some h
  refine Ak_cV1 79 3 (c_Reader_takeNumber h10) rfl hO clX5 rfl mok_Reader_takeNumber lkM_Reader_80 (d_Reader_readPiece 40 76 (.invokevirtual 80) 3 rfl) rfl (by decide) (Nat.le_of_ble_eq_true rfl) ?_
  refine Ak_istore_n 80 2 (d_Reader_readPiece 41 79 (.istore_n 2) 1 rfl) rfl rfl (by decide) ?_
  refine Ak_aload_n 81 0 (d_Reader_readPiece 42 80 (.aload_n 0) 1 rfl) rfl rfl rfl ?_
  refine Ak_sipush 84 (d_Reader_readPiece 43 81 (.sipush 259) 3 rfl) rfl (sp_ok rfl) (rk rfl) ?_
  obtain ⟨r11, V12, h13, h⟩ := bnd_some h
  refine Ak_cV0 87 3 (c_Reader_take h13) rfl hO clX5 rfl mok_Reader_take lkM_Reader_47 (d_Reader_readPiece 44 84 (.invokevirtual 47) 3 rfl) rfl (by decide) (Nat.le_of_ble_eq_true rfl) ?_
  refine Ak_aload_n 88 0 (d_Reader_readPiece 45 87 (.aload_n 0) 1 rfl) rfl rfl rfl ?_
  refine Ak_iconst 89 (d_Reader_readPiece 46 88 (.iconst 0) 1 rfl) rfl (rk rfl) ?_
  refine Ak_iconst 90 (d_Reader_readPiece 47 89 (.iconst 2) 1 rfl) rfl (rk rfl) ?_
  obtain ⟨r14, V15, h16, h⟩ := bnd_some h
  refine Ak_cV1 93 3 (c_Reader_takeNumber h16) rfl hO clX5 rfl mok_Reader_takeNumber lkM_Reader_80 (d_Reader_readPiece 48 90 (.invokevirtual 80) 3 rfl) rfl (by decide) (Nat.le_of_ble_eq_true rfl) ?_
  refine Ak_istore_n 94 3 (d_Reader_readPiece 49 93 (.istore_n 3) 1 rfl) rfl rfl (by decide) ?_
  refine Ak_aload_n 95 0 (d_Reader_readPiece 50 94 (.aload_n 0) 1 rfl) rfl rfl rfl ?_
  refine Ak_getI 98 0 hO clX5 (by decide) (Or.inl rfl) lkF_Reader_9 (d_Reader_readPiece 51 95 (.getfield 9) 3 rfl) rfl ?_
  refine Ak_if_ne 111 101 (d_Reader_readPiece 52 98 (.ifCond .ne 13) 3 rfl) rfl rfl (fun hc => ?_) (fun hc => ?_)
  · replace h := it_f hc h
    cases h
    exact Ak_vret rfl (d_Reader_readPiece 59 111 (.return_) 1 rfl)
  · replace h := it_t hc h
    refine Ak_aload_n 102 0 (d_Reader_readPiece 53 101 (.aload_n 0) 1 rfl) rfl rfl rfl ?_
    refine Ak_getR 105 4 hO clX5 (by decide) rfl lkF_Reader_31 (d_Reader_readPiece 54 102 (.getfield 31) 3 rfl) rfl ?_
    refine Ak_iload_n 106 1 (d_Reader_readPiece 55 105 (.iload_n 1) 1 rfl) rfl rfl rfl ?_
    refine Ak_iload_n 107 2 (d_Reader_readPiece 56 106 (.iload_n 2) 1 rfl) rfl rfl rfl ?_
    refine Ak_iload_n 108 3 (d_Reader_readPiece 57 107 (.iload_n 3) 1 rfl) rfl rfl rfl ?_
    obtain ⟨hg20, h⟩ := gd_some h
    obtain ⟨r17, V18, h19, h⟩ := bnd_some h
    refine Ak_cV0 111 2 (c_Game_addPiece h19) rfl hg20 clX1 rfl mok_Game_addPiece lkM_Reader_106 (d_Reader_readPiece 58 108 (.invokevirtual 106) 3 rfl) rfl (by decide) (Nat.le_of_ble_eq_true rfl) ?_
    cases h
    exact Ak_vret rfl (d_Reader_readPiece 59 111 (.return_) 1 rfl)
theorem t_Reader_readPiece_J16 {S : ASh} {V : ASt} {x0 : Int} {r : Int} {V' : ASt} (hO : isO S x0 5 = true) (h : b_Reader_readPiece_J16 S  V x0 = some (r, V')) : AWk m_Reader_readPiece 4 0 0 0 0 16 [some (aR x0)] [] S V none S V' := by
  unfold b_Reader_readPiece_J16 at h
  refine Ak_aload_n 17 0 (d_Reader_readPiece 8 16 (.aload_n 0) 1 rfl) rfl rfl rfl ?_
  refine Ak_sipush 20 (d_Reader_readPiece 9 17 (.sipush 257) 3 rfl) rfl (sp_ok rfl) (rk rfl) ?_
  obtain ⟨r21, V22, h23, h⟩ := bnd_some h
  refine Ak_cV0 23 3 (c_Reader_take h23) rfl hO clX5 rfl mok_Reader_take lkM_Reader_47 (d_Reader_readPiece 10 20 (.invokevirtual 47) 3 rfl) rfl (by decide) (Nat.le_of_ble_eq_true rfl) ?_
  refine Ak_aload_n 24 0 (d_Reader_readPiece 11 23 (.aload_n 0) 1 rfl) rfl rfl rfl ?_
  obtain ⟨r24, V25, h26, h⟩ := bnd_some h
  refine Ak_cV1 27 2 (c_Reader_content h26) rfl hO clX5 rfl mok_Reader_content lkM_Reader_77 (d_Reader_readPiece 12 24 (.invokevirtual 77) 3 rfl) rfl (by decide) (Nat.le_of_ble_eq_true rfl) ?_
  refine Ak_istore_n 28 1 (d_Reader_readPiece 13 27 (.istore_n 1) 1 rfl) rfl rfl (by decide) ?_
  refine Ak_aload_n 29 0 (d_Reader_readPiece 14 28 (.aload_n 0) 1 rfl) rfl rfl rfl ?_
  obtain ⟨r27, V28, h29, h⟩ := bnd_some h
  refine Ak_cV1 32 2 (c_Reader_type h29) rfl hO clX5 rfl mok_Reader_type lkM_Reader_51 (d_Reader_readPiece 15 29 (.invokevirtual 51) 3 rfl) rfl (by decide) (Nat.le_of_ble_eq_true rfl) ?_
  refine Ak_iconst 33 (d_Reader_readPiece 16 32 (.iconst 2) 1 rfl) rfl (rk rfl) ?_
  refine Ak_icmp_ne 53 36 (d_Reader_readPiece 17 33 (.if_icmp .ne 20) 3 rfl) rfl rfl (fun hc => ?_) (fun hc => ?_)
  · replace h := it_f hc h
    refine Ak_keep [true, true] ?_
    exact t_Reader_readPiece_J53 hO h
  · replace h := it_t hc h
    refine Ak_aload_n 37 0 (d_Reader_readPiece 18 36 (.aload_n 0) 1 rfl) rfl rfl rfl ?_
    refine Ak_getR 40 4 hO clX5 (by decide) rfl lkF_Reader_31 (d_Reader_readPiece 19 37 (.getfield 31) 3 rfl) rfl ?_
    refine Ak_iload_n 41 1 (d_Reader_readPiece 20 40 (.iload_n 1) 1 rfl) rfl rfl rfl ?_
    obtain ⟨hg33, h⟩ := gd_some h
    obtain ⟨r30, V31, h32, h⟩ := bnd_some h
    refine Ak_cV1 44 2 (c_Game_pieceNamed h32) rfl hg33 clX1 rfl mok_Game_pieceNamed lkM_Reader_102 (d_Reader_readPiece 21 41 (.invokevirtual 102) 3 rfl) rfl (by decide) (Nat.le_of_ble_eq_true rfl) ?_
    refine Ak_iconst 45 (d_Reader_readPiece 22 44 (.iconst (-1)) 1 rfl) rfl (rk rfl) ?_
    refine Ak_icmp_eq 53 48 (d_Reader_readPiece 23 45 (.if_icmp .eq 8) 3 rfl) rfl rfl (fun hc => ?_) (fun hc => ?_)
    · replace h := it_t hc h
      refine Ak_keep [true, true] ?_
      exact t_Reader_readPiece_J53 hO h
    · replace h := it_f hc h
      refine Ak_aload_n 49 0 (d_Reader_readPiece 24 48 (.aload_n 0) 1 rfl) rfl rfl rfl ?_
      refine Ak_iconst 50 (d_Reader_readPiece 25 49 (.iconst 2) 1 rfl) rfl (rk rfl) ?_
      obtain ⟨r34, V35, h36, h⟩ := bnd_some h
      refine Ak_cV0 53 2 (c_Reader_fail h36) rfl hO clX5 rfl mok_Reader_fail lkM_Reader_74 (d_Reader_readPiece 26 50 (.invokevirtual 74) 3 rfl) rfl (by decide) (Nat.le_of_ble_eq_true rfl) ?_
      refine Ak_keep [true, true] ?_
      exact t_Reader_readPiece_J53 hO h
theorem c_Reader_readPiece {S : ASh} {V : ASt} {x0 : Int} {r : Int} {V' : ASt} (h : f_Reader_readPiece S V x0 = some (r, V')) : ACt m_Reader_readPiece 4 0 0 [(aR x0)] S V none S V' := by
  unfold f_Reader_readPiece at h
  obtain ⟨hO, h⟩ := gd_some h
  refine ACt_of (plainFor_of_name rfl) rfl (Nat.le_of_ble_eq_true rfl) ?_
  show AWk m_Reader_readPiece 4 0 0 0 0 0 [some (aR x0)] [] S V none S V'
  refine Ak_aload_n 1 0 (d_Reader_readPiece 0 0 (.aload_n 0) 1 rfl) rfl rfl rfl ?_
  refine Ak_getR 4 4 hO clX5 (by decide) rfl lkF_Reader_31 (d_Reader_readPiece 1 1 (.getfield 31) 3 rfl) rfl ?_
  obtain ⟨hg37, h⟩ := gd_some h
  refine Ak_getI 7 1 hg37 clX1 (by decide) (Or.inl rfl) lkF_Reader_99 (d_Reader_readPiece 2 4 (.getfield 99) 3 rfl) rfl ?_
  refine Ak_iconst 8 (d_Reader_readPiece 3 7 (.iconst 2) 1 rfl) rfl (rk rfl) ?_
  refine Ak_icmp_ne 16 11 (d_Reader_readPiece 4 8 (.if_icmp .ne 8) 3 rfl) rfl rfl (fun hc => ?_) (fun hc => ?_)
  · replace h := it_f hc h
    refine Ak_keep [true] ?_
    exact t_Reader_readPiece_J16 hO h
  · replace h := it_t hc h
    refine Ak_aload_n 12 0 (d_Reader_readPiece 5 11 (.aload_n 0) 1 rfl) rfl rfl rfl ?_
    refine Ak_iconst 13 (d_Reader_readPiece 6 12 (.iconst 5) 1 rfl) rfl (rk rfl) ?_
    obtain ⟨r38, V39, h40, h⟩ := bnd_some h
    refine Ak_cV0 16 2 (c_Reader_fail h40) rfl hO clX5 rfl mok_Reader_fail lkM_Reader_74 (d_Reader_readPiece 7 13 (.invokevirtual 74) 3 rfl) rfl (by decide) (Nat.le_of_ble_eq_true rfl) ?_
    refine Ak_keep [true] ?_
    exact t_Reader_readPiece_J16 hO h
theorem t_Reader_readStuck_J75 {S : ASh} {V : ASt} {x0 : Int} {r : Int} {V' : ASt} (hO : isO S x0 5 = true) (h : b_Reader_readStuck_J75 S  V x0 = some (r, V')) : AWk m_Reader_readStuck 4 0 0 0 0 75 [some (aR x0)] [] S V none S V' := by
  unfold b_Reader_readStuck_J75 at h
  refine Ak_aload_n 76 0 (d_Reader_readStuck 33 75 (.aload_n 0) 1 rfl) rfl rfl rfl ?_
  obtain ⟨r1, V2, h3, h⟩ := bnd_some h
  refine Ak_cV0 79 2 (c_Reader_step h3) rfl hO clX5 rfl mok_Reader_step lkM_Reader_71 (d_Reader_readStuck 34 76 (.invokevirtual 71) 3 rfl) rfl (by decide) (Nat.le_of_ble_eq_true rfl) ?_
  cases h
  exact Ak_vret rfl (d_Reader_readStuck 35 79 (.return_) 1 rfl)
theorem c_Reader_readStuck {S : ASh} {V : ASt} {x0 : Int} {r : Int} {V' : ASt} (h : f_Reader_readStuck S V x0 = some (r, V')) : ACt m_Reader_readStuck 4 0 0 [(aR x0)] S V none S V' := by
  unfold f_Reader_readStuck at h
  obtain ⟨hO, h⟩ := gd_some h
  refine ACt_of (plainFor_of_name rfl) rfl (Nat.le_of_ble_eq_true rfl) ?_
  show AWk m_Reader_readStuck 4 0 0 0 0 0 [some (aR x0)] [] S V none S V'
  refine Ak_aload_n 1 0 (d_Reader_readStuck 0 0 (.aload_n 0) 1 rfl) rfl rfl rfl ?_
  refine Ak_sipush 4 (d_Reader_readStuck 1 1 (.sipush 261) 3 rfl) rfl (sp_ok rfl) (rk rfl) ?_
  obtain ⟨r4, V5, h6, h⟩ := bnd_some h
  refine Ak_cV0 7 3 (c_Reader_take h6) rfl hO clX5 rfl mok_Reader_take lkM_Reader_47 (d_Reader_readStuck 2 4 (.invokevirtual 47) 3 rfl) rfl (by decide) (Nat.le_of_ble_eq_true rfl) ?_
  refine Ak_aload_n 8 0 (d_Reader_readStuck 3 7 (.aload_n 0) 1 rfl) rfl rfl rfl ?_
  obtain ⟨r7, V8, h9, h⟩ := bnd_some h
  refine Ak_cV1 11 2 (c_Reader_type h9) rfl hO clX5 rfl mok_Reader_type lkM_Reader_51 (d_Reader_readStuck 4 8 (.invokevirtual 51) 3 rfl) rfl (by decide) (Nat.le_of_ble_eq_true rfl) ?_
  refine Ak_sipush 14 (d_Reader_readStuck 5 11 (.sipush 262) 3 rfl) rfl (sp_ok rfl) (rk rfl) ?_
  refine Ak_icmp_ne 28 17 (d_Reader_readStuck 6 14 (.if_icmp .ne 14) 3 rfl) rfl rfl (fun hc => ?_) (fun hc => ?_)
  · replace h := it_f hc h
    refine Ak_aload_n 29 0 (d_Reader_readStuck 12 28 (.aload_n 0) 1 rfl) rfl rfl rfl ?_
    obtain ⟨r10, V11, h12, h⟩ := bnd_some h
    refine Ak_cV1 32 2 (c_Reader_type h12) rfl hO clX5 rfl mok_Reader_type lkM_Reader_51 (d_Reader_readStuck 13 29 (.invokevirtual 51) 3 rfl) rfl (by decide) (Nat.le_of_ble_eq_true rfl) ?_
    refine Ak_sipush 35 (d_Reader_readStuck 14 32 (.sipush 263) 3 rfl) rfl (sp_ok rfl) (rk rfl) ?_
    refine Ak_icmp_ne 49 38 (d_Reader_readStuck 15 35 (.if_icmp .ne 14) 3 rfl) rfl rfl (fun hc => ?_) (fun hc => ?_)
    · replace h := it_f hc h
      refine Ak_aload_n 50 0 (d_Reader_readStuck 21 49 (.aload_n 0) 1 rfl) rfl rfl rfl ?_
      obtain ⟨r13, V14, h15, h⟩ := bnd_some h
      refine Ak_cV1 53 2 (c_Reader_type h15) rfl hO clX5 rfl mok_Reader_type lkM_Reader_51 (d_Reader_readStuck 22 50 (.invokevirtual 51) 3 rfl) rfl (by decide) (Nat.le_of_ble_eq_true rfl) ?_
      refine Ak_sipush 56 (d_Reader_readStuck 23 53 (.sipush 264) 3 rfl) rfl (sp_ok rfl) (rk rfl) ?_
      refine Ak_icmp_ne 70 59 (d_Reader_readStuck 24 56 (.if_icmp .ne 14) 3 rfl) rfl rfl (fun hc => ?_) (fun hc => ?_)
      · replace h := it_f hc h
        refine Ak_aload_n 71 0 (d_Reader_readStuck 30 70 (.aload_n 0) 1 rfl) rfl rfl rfl ?_
        refine Ak_iconst 72 (d_Reader_readStuck 31 71 (.iconst 1) 1 rfl) rfl (rk rfl) ?_
        obtain ⟨r16, V17, h18, h⟩ := bnd_some h
        refine Ak_cV0 75 2 (c_Reader_fail h18) rfl hO clX5 rfl mok_Reader_fail lkM_Reader_74 (d_Reader_readStuck 32 72 (.invokevirtual 74) 3 rfl) rfl (by decide) (Nat.le_of_ble_eq_true rfl) ?_
        refine Ak_keep [true] ?_
        exact t_Reader_readStuck_J75 hO h
      · replace h := it_t hc h
        refine Ak_aload_n 60 0 (d_Reader_readStuck 25 59 (.aload_n 0) 1 rfl) rfl rfl rfl ?_
        refine Ak_getR 63 4 hO clX5 (by decide) rfl lkF_Reader_31 (d_Reader_readStuck 26 60 (.getfield 31) 3 rfl) rfl ?_
        refine Ak_iconst 64 (d_Reader_readStuck 27 63 (.iconst 2) 1 rfl) rfl (rk rfl) ?_
        obtain ⟨hg19, h⟩ := gd_some h
        refine Ak_putI 67 4 hg19 clX1 (by decide) rfl rfl rfl lkF_Reader_110 (d_Reader_readStuck 28 64 (.putfield 110) 3 rfl) rfl (fun V20 hV20 => ?_)
        replace h := wV_some h V20 hV20
        refine Ak_goto 75 (d_Reader_readStuck 29 67 (.goto 8) 3 rfl) rfl ?_
        refine Ak_keep [true] ?_
        exact t_Reader_readStuck_J75 hO h
    · replace h := it_t hc h
      refine Ak_aload_n 39 0 (d_Reader_readStuck 16 38 (.aload_n 0) 1 rfl) rfl rfl rfl ?_
      refine Ak_getR 42 4 hO clX5 (by decide) rfl lkF_Reader_31 (d_Reader_readStuck 17 39 (.getfield 31) 3 rfl) rfl ?_
      refine Ak_iconst 43 (d_Reader_readStuck 18 42 (.iconst 1) 1 rfl) rfl (rk rfl) ?_
      obtain ⟨hg21, h⟩ := gd_some h
      refine Ak_putI 46 4 hg21 clX1 (by decide) rfl rfl rfl lkF_Reader_110 (d_Reader_readStuck 19 43 (.putfield 110) 3 rfl) rfl (fun V22 hV22 => ?_)
      replace h := wV_some h V22 hV22
      refine Ak_goto 75 (d_Reader_readStuck 20 46 (.goto 29) 3 rfl) rfl ?_
      refine Ak_keep [true] ?_
      exact t_Reader_readStuck_J75 hO h
  · replace h := it_t hc h
    refine Ak_aload_n 18 0 (d_Reader_readStuck 7 17 (.aload_n 0) 1 rfl) rfl rfl rfl ?_
    refine Ak_getR 21 4 hO clX5 (by decide) rfl lkF_Reader_31 (d_Reader_readStuck 8 18 (.getfield 31) 3 rfl) rfl ?_
    refine Ak_iconst 22 (d_Reader_readStuck 9 21 (.iconst 0) 1 rfl) rfl (rk rfl) ?_
    obtain ⟨hg23, h⟩ := gd_some h
    refine Ak_putI 25 4 hg23 clX1 (by decide) rfl rfl rfl lkF_Reader_110 (d_Reader_readStuck 10 22 (.putfield 110) 3 rfl) rfl (fun V24 hV24 => ?_)
    replace h := wV_some h V24 hV24
    refine Ak_goto 75 (d_Reader_readStuck 11 25 (.goto 50) 3 rfl) rfl ?_
    refine Ak_keep [true] ?_
    exact t_Reader_readStuck_J75 hO h
theorem c_Reader_kindTold {S : ASh} {V : ASt} {x0 : Int} {r : Int} {V' : ASt} (h : f_Reader_kindTold S V x0 = some (r, V')) : ACt m_Reader_kindTold 3 0 0 [(aR x0)] S V (some (aI r)) S V' := by
  unfold f_Reader_kindTold at h
  obtain ⟨hO, h⟩ := gd_some h
  refine ACt_of (plainFor_of_name rfl) rfl (Nat.le_of_ble_eq_true rfl) ?_
  show AWk m_Reader_kindTold 3 0 0 0 0 0 [some (aR x0)] [] S V (some (aI r)) S V'
  refine Ak_aload_n 1 0 (d_Reader_kindTold 0 0 (.aload_n 0) 1 rfl) rfl rfl rfl ?_
  obtain ⟨r1, V2, h3, h⟩ := bnd_some h
  refine Ak_cV1 4 2 (c_Reader_type h3) rfl hO clX5 rfl mok_Reader_type lkM_Reader_51 (d_Reader_kindTold 1 1 (.invokevirtual 51) 3 rfl) rfl (by decide) (Nat.le_of_ble_eq_true rfl) ?_
  by_cases hc4 : r1 = 262
  · replace h := it_t hc4 h
    refine Ak_tableIn 46 262 hc4 (d_Reader_kindTold 2 4 (.tableswitch 44 262 266 #[42, 44, 40, 36, 38]) 36 rfl) (by decide) (by decide) rfl rfl ?_
    refine Ak_iconst 47 (d_Reader_kindTold 9 46 (.iconst 3) 1 rfl) rfl (rk rfl) ?_
    cases h
    exact Ak_iret rfl (d_Reader_kindTold 10 47 (.ireturn) 1 rfl)
  · replace h := it_f hc4 h
    by_cases hc5 : r1 = 263
    · replace h := it_t hc5 h
      refine Ak_tableIn 48 263 hc5 (d_Reader_kindTold 2 4 (.tableswitch 44 262 266 #[42, 44, 40, 36, 38]) 36 rfl) (by decide) (by decide) rfl rfl ?_
      refine Ak_iconst 49 (d_Reader_kindTold 11 48 (.iconst (-1)) 1 rfl) rfl (rk rfl) ?_
      cases h
      exact Ak_iret rfl (d_Reader_kindTold 12 49 (.ireturn) 1 rfl)
    · replace h := it_f hc5 h
      by_cases hc6 : r1 = 264
      · replace h := it_t hc6 h
        refine Ak_tableIn 44 264 hc6 (d_Reader_kindTold 2 4 (.tableswitch 44 262 266 #[42, 44, 40, 36, 38]) 36 rfl) (by decide) (by decide) rfl rfl ?_
        refine Ak_iconst 45 (d_Reader_kindTold 7 44 (.iconst 2) 1 rfl) rfl (rk rfl) ?_
        cases h
        exact Ak_iret rfl (d_Reader_kindTold 8 45 (.ireturn) 1 rfl)
      · replace h := it_f hc6 h
        by_cases hc7 : r1 = 265
        · replace h := it_t hc7 h
          refine Ak_tableIn 40 265 hc7 (d_Reader_kindTold 2 4 (.tableswitch 44 262 266 #[42, 44, 40, 36, 38]) 36 rfl) (by decide) (by decide) rfl rfl ?_
          refine Ak_iconst 41 (d_Reader_kindTold 3 40 (.iconst 0) 1 rfl) rfl (rk rfl) ?_
          cases h
          exact Ak_iret rfl (d_Reader_kindTold 4 41 (.ireturn) 1 rfl)
        · replace h := it_f hc7 h
          by_cases hc8 : r1 = 266
          · replace h := it_t hc8 h
            refine Ak_tableIn 42 266 hc8 (d_Reader_kindTold 2 4 (.tableswitch 44 262 266 #[42, 44, 40, 36, 38]) 36 rfl) (by decide) (by decide) rfl rfl ?_
            refine Ak_iconst 43 (d_Reader_kindTold 5 42 (.iconst 1) 1 rfl) rfl (rk rfl) ?_
            cases h
            exact Ak_iret rfl (d_Reader_kindTold 6 43 (.ireturn) 1 rfl)
          · replace h := it_f hc8 h
            refine Ak_tableOut 48 (by omega) (d_Reader_kindTold 2 4 (.tableswitch 44 262 266 #[42, 44, 40, 36, 38]) 36 rfl) rfl ?_
            refine Ak_iconst 49 (d_Reader_kindTold 11 48 (.iconst (-1)) 1 rfl) rfl (rk rfl) ?_
            cases h
            exact Ak_iret rfl (d_Reader_kindTold 12 49 (.ireturn) 1 rfl)
theorem c_Reader_wayTold {S : ASh} {V : ASt} {x0 : Int} {r : Int} {V' : ASt} (h : f_Reader_wayTold S V x0 = some (r, V')) : ACt m_Reader_wayTold 3 0 0 [(aR x0)] S V (some (aI r)) S V' := by
  unfold f_Reader_wayTold at h
  obtain ⟨hO, h⟩ := gd_some h
  refine ACt_of (plainFor_of_name rfl) rfl (Nat.le_of_ble_eq_true rfl) ?_
  show AWk m_Reader_wayTold 3 0 0 0 0 0 [some (aR x0)] [] S V (some (aI r)) S V'
  refine Ak_aload_n 1 0 (d_Reader_wayTold 0 0 (.aload_n 0) 1 rfl) rfl rfl rfl ?_
  obtain ⟨r1, V2, h3, h⟩ := bnd_some h
  refine Ak_cV1 4 2 (c_Reader_type h3) rfl hO clX5 rfl mok_Reader_type lkM_Reader_51 (d_Reader_wayTold 1 1 (.invokevirtual 51) 3 rfl) rfl (by decide) (Nat.le_of_ble_eq_true rfl) ?_
  by_cases hc4 : r1 = 267
  · replace h := it_t hc4 h
    refine Ak_tableIn 32 267 hc4 (d_Reader_wayTold 2 4 (.tableswitch 34 267 269 #[28, 30, 32]) 28 rfl) (by decide) (by decide) rfl rfl ?_
    refine Ak_iconst 33 (d_Reader_wayTold 3 32 (.iconst 0) 1 rfl) rfl (rk rfl) ?_
    cases h
    exact Ak_iret rfl (d_Reader_wayTold 4 33 (.ireturn) 1 rfl)
  · replace h := it_f hc4 h
    by_cases hc5 : r1 = 268
    · replace h := it_t hc5 h
      refine Ak_tableIn 34 268 hc5 (d_Reader_wayTold 2 4 (.tableswitch 34 267 269 #[28, 30, 32]) 28 rfl) (by decide) (by decide) rfl rfl ?_
      refine Ak_iconst 35 (d_Reader_wayTold 5 34 (.iconst 1) 1 rfl) rfl (rk rfl) ?_
      cases h
      exact Ak_iret rfl (d_Reader_wayTold 6 35 (.ireturn) 1 rfl)
    · replace h := it_f hc5 h
      by_cases hc6 : r1 = 269
      · replace h := it_t hc6 h
        refine Ak_tableIn 36 269 hc6 (d_Reader_wayTold 2 4 (.tableswitch 34 267 269 #[28, 30, 32]) 28 rfl) (by decide) (by decide) rfl rfl ?_
        refine Ak_iconst 37 (d_Reader_wayTold 7 36 (.iconst 2) 1 rfl) rfl (rk rfl) ?_
        cases h
        exact Ak_iret rfl (d_Reader_wayTold 8 37 (.ireturn) 1 rfl)
      · replace h := it_f hc6 h
        refine Ak_tableOut 38 (by omega) (d_Reader_wayTold 2 4 (.tableswitch 34 267 269 #[28, 30, 32]) 28 rfl) rfl ?_
        refine Ak_iconst 39 (d_Reader_wayTold 9 38 (.iconst (-1)) 1 rfl) rfl (rk rfl) ?_
        cases h
        exact Ak_iret rfl (d_Reader_wayTold 10 39 (.ireturn) 1 rfl)
theorem t_Reader_readMove_J46 {S : ASh} {V : ASt} {x0 s0 s1 s2 s3 : Int} {r : Int} {V' : ASt} (hO : isO S x0 5 = true) (h : b_Reader_readMove_J46 S  V x0 s0 s1 s2 s3 = some (r, V')) : AWk m_Reader_readMove 4 0 0 0 0 46 [some (aR x0)] [(aI s3), (aI s2), (aI s1), (aR s0)] S V none S V' := by
  unfold b_Reader_readMove_J46 at h
  obtain ⟨hg4, h⟩ := gd_some h
  obtain ⟨r1, V2, h3, h⟩ := bnd_some h
  refine Ak_cV0 49 2 (c_Game_setMoveOfLatest h3) rfl hg4 clX1 rfl mok_Game_setMoveOfLatest lkM_Reader_141 (d_Reader_readMove 28 46 (.invokevirtual 141) 3 rfl) rfl (by decide) (Nat.le_of_ble_eq_true rfl) ?_
  cases h
  exact Ak_vret rfl (d_Reader_readMove 29 49 (.return_) 1 rfl)
theorem c_Reader_readMove {S : ASh} {V : ASt} {x0 : Int} {r : Int} {V' : ASt} (h : f_Reader_readMove S V x0 = some (r, V')) : ACt m_Reader_readMove 4 0 0 [(aR x0)] S V none S V' := by
  unfold f_Reader_readMove at h
  obtain ⟨hO, h⟩ := gd_some h
  refine ACt_of (plainFor_of_name rfl) rfl (Nat.le_of_ble_eq_true rfl) ?_
  show AWk m_Reader_readMove 4 0 0 0 0 0 [some (aR x0)] [] S V none S V'
  refine Ak_aload_n 1 0 (d_Reader_readMove 0 0 (.aload_n 0) 1 rfl) rfl rfl rfl ?_
  obtain ⟨r5, V6, h7, h⟩ := bnd_some h
  refine Ak_cV1 4 3 (c_Reader_takeNameOfPiece h7) rfl hO clX5 rfl mok_Reader_takeNameOfPiece lkM_Reader_135 (d_Reader_readMove 1 1 (.invokevirtual 135) 3 rfl) rfl (by decide) (Nat.le_of_ble_eq_true rfl) ?_
  refine Ak_istore_n 5 1 (d_Reader_readMove 2 4 (.istore_n 1) 1 rfl) rfl rfl (by decide) ?_
  refine Ak_aload_n 6 0 (d_Reader_readMove 3 5 (.aload_n 0) 1 rfl) rfl rfl rfl ?_
  obtain ⟨r8, V9, h10, h⟩ := bnd_some h
  refine Ak_cV1 9 3 (c_Reader_wayTold h10) rfl hO clX5 rfl mok_Reader_wayTold lkM_Reader_138 (d_Reader_readMove 4 6 (.invokevirtual 138) 3 rfl) rfl (by decide) (Nat.le_of_ble_eq_true rfl) ?_
  refine Ak_istore_n 10 2 (d_Reader_readMove 5 9 (.istore_n 2) 1 rfl) rfl rfl (by decide) ?_
  refine Ak_iload_n 11 2 (d_Reader_readMove 6 10 (.iload_n 2) 1 rfl) rfl rfl rfl ?_
  refine Ak_iconst 12 (d_Reader_readMove 7 11 (.iconst (-1)) 1 rfl) rfl (rk rfl) ?_
  refine Ak_icmp_ne 21 15 (d_Reader_readMove 8 12 (.if_icmp .ne 9) 3 rfl) rfl rfl (fun hc => ?_) (fun hc => ?_)
  · replace h := it_f hc h
    refine Ak_aload_n 22 0 (d_Reader_readMove 13 21 (.aload_n 0) 1 rfl) rfl rfl rfl ?_
    obtain ⟨r11, V12, h13, h⟩ := bnd_some h
    refine Ak_cV0 25 2 (c_Reader_step h13) rfl hO clX5 rfl mok_Reader_step lkM_Reader_71 (d_Reader_readMove 14 22 (.invokevirtual 71) 3 rfl) rfl (by decide) (Nat.le_of_ble_eq_true rfl) ?_
    refine Ak_aload_n 26 0 (d_Reader_readMove 15 25 (.aload_n 0) 1 rfl) rfl rfl rfl ?_
    refine Ak_getR 29 4 hO clX5 (by decide) rfl lkF_Reader_31 (d_Reader_readMove 16 26 (.getfield 31) 3 rfl) rfl ?_
    refine Ak_iload_n 30 1 (d_Reader_readMove 17 29 (.iload_n 1) 1 rfl) rfl rfl rfl ?_
    refine Ak_iload_n 31 2 (d_Reader_readMove 18 30 (.iload_n 2) 1 rfl) rfl rfl rfl ?_
    refine Ak_iload_n 32 2 (d_Reader_readMove 19 31 (.iload_n 2) 1 rfl) rfl rfl rfl ?_
    refine Ak_iconst 33 (d_Reader_readMove 20 32 (.iconst 2) 1 rfl) rfl (rk rfl) ?_
    refine Ak_icmp_ne 40 36 (d_Reader_readMove 21 33 (.if_icmp .ne 7) 3 rfl) rfl rfl (fun hc => ?_) (fun hc => ?_)
    · replace h := it_f hc h
      refine Ak_aload_n 41 0 (d_Reader_readMove 24 40 (.aload_n 0) 1 rfl) rfl rfl rfl ?_
      refine Ak_iconst 42 (d_Reader_readMove 25 41 (.iconst 1) 1 rfl) rfl (rk rfl) ?_
      refine Ak_iconst 43 (d_Reader_readMove 26 42 (.iconst 3) 1 rfl) rfl (rk rfl) ?_
      obtain ⟨r14, V15, h16, h⟩ := bnd_some h
      refine Ak_cV1 46 3 (c_Reader_takeNumber h16) rfl hO clX5 rfl mok_Reader_takeNumber lkM_Reader_80 (d_Reader_readMove 27 43 (.invokevirtual 80) 3 rfl) rfl (by decide) (Nat.le_of_ble_eq_true rfl) ?_
      refine Ak_keep [true] ?_
      exact t_Reader_readMove_J46 hO h
    · replace h := it_t hc h
      refine Ak_iconst 37 (d_Reader_readMove 22 36 (.iconst 0) 1 rfl) rfl (rk rfl) ?_
      refine Ak_goto 46 (d_Reader_readMove 23 37 (.goto 9) 3 rfl) rfl ?_
      refine Ak_keep [true] ?_
      exact t_Reader_readMove_J46 hO h
  · replace h := it_t hc h
    refine Ak_aload_n 16 0 (d_Reader_readMove 9 15 (.aload_n 0) 1 rfl) rfl rfl rfl ?_
    refine Ak_iconst 17 (d_Reader_readMove 10 16 (.iconst 1) 1 rfl) rfl (rk rfl) ?_
    obtain ⟨r17, V18, h19, h⟩ := bnd_some h
    refine Ak_cV0 20 2 (c_Reader_fail h19) rfl hO clX5 rfl mok_Reader_fail lkM_Reader_74 (d_Reader_readMove 11 17 (.invokevirtual 74) 3 rfl) rfl (by decide) (Nat.le_of_ble_eq_true rfl) ?_
    cases h
    exact Ak_vret rfl (d_Reader_readMove 12 20 (.return_) 1 rfl)
theorem t_Reader_readRule_J83 {S : ASh} {V : ASt} {x0 : Int} {r : Int} {V' : ASt} (hO : isO S x0 5 = true) (h : b_Reader_readRule_J83 S  V x0 = some (r, V')) : AWk m_Reader_readRule 121 0 0 0 0 83 [some (aR x0)] [] S V none S V' := by
  unfold b_Reader_readRule_J83 at h
  refine Ak_aload_n 84 0 (d_Reader_readRule 44 83 (.aload_n 0) 1 rfl) rfl rfl rfl ?_
  refine Ak_sipush 87 (d_Reader_readRule 45 84 (.sipush 270) 3 rfl) rfl (sp_ok rfl) (rk rfl) ?_
  obtain ⟨r1, V2, h3, h⟩ := bnd_some h
  refine Ak_cV0 90 3 (c_Reader_take h3) rfl hO clX5 rfl mok_Reader_take lkM_Reader_47 (d_Reader_readRule 46 87 (.invokevirtual 47) 3 rfl) rfl (by decide) (Nat.le_of_ble_eq_true rfl) ?_
  refine Ak_aload_n 91 0 (d_Reader_readRule 47 90 (.aload_n 0) 1 rfl) rfl rfl rfl ?_
  obtain ⟨r4, V5, h6, h⟩ := bnd_some h
  refine Ak_cV0 94 120 ((c_RD S RF).1 h6) rfl hO clX5 rfl mok_Reader_readTest lkM_Reader_123 (d_Reader_readRule 48 91 (.invokevirtual 123) 3 rfl) rfl (by decide) (Nat.le_of_ble_eq_true rfl) ?_
  refine Ak_aload_n 95 0 (d_Reader_readRule 49 94 (.aload_n 0) 1 rfl) rfl rfl rfl ?_
  refine Ak_getR 98 4 hO clX5 (by decide) rfl lkF_Reader_31 (d_Reader_readRule 50 95 (.getfield 31) 3 rfl) rfl ?_
  obtain ⟨hg7, h⟩ := gd_some h
  refine Ak_getF 101 5 hg7 clX1 (by decide) rfl lkF_Reader_126 (d_Reader_readRule 51 98 (.getfield 126) 3 rfl) rfl ?_
  obtain ⟨hg11, h⟩ := gd_some h
  obtain ⟨r8, V9, h10, h⟩ := bnd_some h
  refine Ak_cV0 104 2 (c_Tests_close h10) rfl hg11 clX8 rfl mok_Tests_close lkM_Reader_130 (d_Reader_readRule 52 101 (.invokevirtual 130) 3 rfl) rfl (by decide) (Nat.le_of_ble_eq_true rfl) ?_
  cases h
  exact Ak_vret rfl (d_Reader_readRule 53 104 (.return_) 1 rfl)
theorem t_Reader_readRule_J79 {S : ASh} {V : ASt} {x0 : Int} {r : Int} {V' : ASt} (hO : isO S x0 5 = true) (h : b_Reader_readRule_J79 S  V x0 = some (r, V')) : AWk m_Reader_readRule 121 0 0 0 0 79 [some (aR x0)] [] S V none S V' := by
  unfold b_Reader_readRule_J79 at h
  refine Ak_aload_n 80 0 (d_Reader_readRule 42 79 (.aload_n 0) 1 rfl) rfl rfl rfl ?_
  obtain ⟨r12, V13, h14, h⟩ := bnd_some h
  refine Ak_cV0 83 4 (c_Reader_readMove h14) rfl hO clX5 rfl mok_Reader_readMove lkM_Reader_120 (d_Reader_readRule 43 80 (.invokevirtual 120) 3 rfl) rfl (by decide) (Nat.le_of_ble_eq_true rfl) ?_
  refine Ak_keep [true] ?_
  exact t_Reader_readRule_J83 hO h
theorem t_Reader_readRule_J41 {S : ASh} {V : ASt} {x0 x1 : Int} {r : Int} {V' : ASt} (hO : isO S x0 5 = true) (h : b_Reader_readRule_J41 S  V x0 x1 = some (r, V')) : AWk m_Reader_readRule 121 0 0 0 0 41 [some (aR x0), some (aI x1)] [] S V none S V' := by
  unfold b_Reader_readRule_J41 at h
  refine Ak_aload_n 42 0 (d_Reader_readRule 20 41 (.aload_n 0) 1 rfl) rfl rfl rfl ?_
  obtain ⟨r15, V16, h17, h⟩ := bnd_some h
  refine Ak_cV1 45 3 (c_Reader_kindTold h17) rfl hO clX5 rfl mok_Reader_kindTold lkM_Reader_93 (d_Reader_readRule 21 42 (.invokevirtual 93) 3 rfl) rfl (by decide) (Nat.le_of_ble_eq_true rfl) ?_
  refine Ak_istore_n 46 2 (d_Reader_readRule 22 45 (.istore_n 2) 1 rfl) rfl rfl (by decide) ?_
  refine Ak_iload_n 47 2 (d_Reader_readRule 23 46 (.iload_n 2) 1 rfl) rfl rfl rfl ?_
  refine Ak_iconst 48 (d_Reader_readRule 24 47 (.iconst (-1)) 1 rfl) rfl (rk rfl) ?_
  refine Ak_icmp_ne 57 51 (d_Reader_readRule 25 48 (.if_icmp .ne 9) 3 rfl) rfl rfl (fun hc => ?_) (fun hc => ?_)
  · replace h := it_f hc h
    refine Ak_aload_n 58 0 (d_Reader_readRule 30 57 (.aload_n 0) 1 rfl) rfl rfl rfl ?_
    obtain ⟨r18, V19, h20, h⟩ := bnd_some h
    refine Ak_cV0 61 2 (c_Reader_step h20) rfl hO clX5 rfl mok_Reader_step lkM_Reader_71 (d_Reader_readRule 31 58 (.invokevirtual 71) 3 rfl) rfl (by decide) (Nat.le_of_ble_eq_true rfl) ?_
    refine Ak_aload_n 62 0 (d_Reader_readRule 32 61 (.aload_n 0) 1 rfl) rfl rfl rfl ?_
    refine Ak_getR 65 4 hO clX5 (by decide) rfl lkF_Reader_31 (d_Reader_readRule 33 62 (.getfield 31) 3 rfl) rfl ?_
    refine Ak_iload_n 66 2 (d_Reader_readRule 34 65 (.iload_n 2) 1 rfl) rfl rfl rfl ?_
    refine Ak_iload_n 67 1 (d_Reader_readRule 35 66 (.iload_n 1) 1 rfl) rfl rfl rfl ?_
    obtain ⟨hg24, h⟩ := gd_some h
    obtain ⟨r21, V22, h23, h⟩ := bnd_some h
    refine Ak_cV0 70 2 (c_Game_addRule h23) rfl hg24 clX1 rfl mok_Game_addRule lkM_Reader_116 (d_Reader_readRule 36 67 (.invokevirtual 116) 3 rfl) rfl (by decide) (Nat.le_of_ble_eq_true rfl) ?_
    refine Ak_iload_n 71 2 (d_Reader_readRule 37 70 (.iload_n 2) 1 rfl) rfl rfl rfl ?_
    refine Ak_if_eq 79 74 (d_Reader_readRule 38 71 (.ifCond .eq 8) 3 rfl) rfl rfl (fun hc => ?_) (fun hc => ?_)
    · replace h := it_t hc h
      refine Ak_keep [true] ?_
      exact t_Reader_readRule_J79 hO h
    · replace h := it_f hc h
      refine Ak_iload_n 75 2 (d_Reader_readRule 39 74 (.iload_n 2) 1 rfl) rfl rfl rfl ?_
      refine Ak_iconst 76 (d_Reader_readRule 40 75 (.iconst 1) 1 rfl) rfl (rk rfl) ?_
      refine Ak_icmp_ne 83 79 (d_Reader_readRule 41 76 (.if_icmp .ne 7) 3 rfl) rfl rfl (fun hc => ?_) (fun hc => ?_)
      · replace h := it_f hc h
        refine Ak_keep [true] ?_
        exact t_Reader_readRule_J83 hO h
      · replace h := it_t hc h
        refine Ak_keep [true] ?_
        exact t_Reader_readRule_J79 hO h
  · replace h := it_t hc h
    refine Ak_aload_n 52 0 (d_Reader_readRule 26 51 (.aload_n 0) 1 rfl) rfl rfl rfl ?_
    refine Ak_iconst 53 (d_Reader_readRule 27 52 (.iconst 1) 1 rfl) rfl (rk rfl) ?_
    obtain ⟨r25, V26, h27, h⟩ := bnd_some h
    refine Ak_cV0 56 2 (c_Reader_fail h27) rfl hO clX5 rfl mok_Reader_fail lkM_Reader_74 (d_Reader_readRule 28 53 (.invokevirtual 74) 3 rfl) rfl (by decide) (Nat.le_of_ble_eq_true rfl) ?_
    cases h
    exact Ak_vret rfl (d_Reader_readRule 29 56 (.return_) 1 rfl)
theorem t_Reader_readRule_J32 {S : ASh} {V : ASt} {x0 s0 : Int} {r : Int} {V' : ASt} (hO : isO S x0 5 = true) (h : b_Reader_readRule_J32 S  V x0 s0 = some (r, V')) : AWk m_Reader_readRule 121 0 0 0 0 32 [some (aR x0)] [(aI s0)] S V none S V' := by
  unfold b_Reader_readRule_J32 at h
  refine Ak_istore_n 33 1 (d_Reader_readRule 15 32 (.istore_n 1) 1 rfl) rfl rfl (by decide) ?_
  refine Ak_iload_n 34 1 (d_Reader_readRule 16 33 (.iload_n 1) 1 rfl) rfl rfl rfl ?_
  refine Ak_if_eq 41 37 (d_Reader_readRule 17 34 (.ifCond .eq 7) 3 rfl) rfl rfl (fun hc => ?_) (fun hc => ?_)
  · replace h := it_t hc h
    refine Ak_keep [true, true] ?_
    exact t_Reader_readRule_J41 hO h
  · replace h := it_f hc h
    refine Ak_aload_n 38 0 (d_Reader_readRule 18 37 (.aload_n 0) 1 rfl) rfl rfl rfl ?_
    obtain ⟨r28, V29, h30, h⟩ := bnd_some h
    refine Ak_cV0 41 2 (c_Reader_step h30) rfl hO clX5 rfl mok_Reader_step lkM_Reader_71 (d_Reader_readRule 19 38 (.invokevirtual 71) 3 rfl) rfl (by decide) (Nat.le_of_ble_eq_true rfl) ?_
    refine Ak_keep [true, true] ?_
    exact t_Reader_readRule_J41 hO h
theorem t_Reader_readRule_J17 {S : ASh} {V : ASt} {x0 : Int} {r : Int} {V' : ASt} (hO : isO S x0 5 = true) (h : b_Reader_readRule_J17 S  V x0 = some (r, V')) : AWk m_Reader_readRule 121 0 0 0 0 17 [some (aR x0)] [] S V none S V' := by
  unfold b_Reader_readRule_J17 at h
  refine Ak_aload_n 18 0 (d_Reader_readRule 8 17 (.aload_n 0) 1 rfl) rfl rfl rfl ?_
  obtain ⟨r31, V32, h33, h⟩ := bnd_some h
  refine Ak_cV1 21 2 (c_Reader_type h33) rfl hO clX5 rfl mok_Reader_type lkM_Reader_51 (d_Reader_readRule 9 18 (.invokevirtual 51) 3 rfl) rfl (by decide) (Nat.le_of_ble_eq_true rfl) ?_
  refine Ak_sipush 24 (d_Reader_readRule 10 21 (.sipush 260) 3 rfl) rfl (sp_ok rfl) (rk rfl) ?_
  refine Ak_icmp_ne 31 27 (d_Reader_readRule 11 24 (.if_icmp .ne 7) 3 rfl) rfl rfl (fun hc => ?_) (fun hc => ?_)
  · replace h := it_f hc h
    refine Ak_iconst 32 (d_Reader_readRule 14 31 (.iconst 0) 1 rfl) rfl (rk rfl) ?_
    refine Ak_keep [true] ?_
    exact t_Reader_readRule_J32 hO h
  · replace h := it_t hc h
    refine Ak_iconst 28 (d_Reader_readRule 12 27 (.iconst 1) 1 rfl) rfl (rk rfl) ?_
    refine Ak_goto 32 (d_Reader_readRule 13 28 (.goto 4) 3 rfl) rfl ?_
    refine Ak_keep [true] ?_
    exact t_Reader_readRule_J32 hO h
theorem c_Reader_readRule {S : ASh} {V : ASt} {x0 : Int} {r : Int} {V' : ASt} (h : f_Reader_readRule S V x0 = some (r, V')) : ACt m_Reader_readRule 121 0 0 [(aR x0)] S V none S V' := by
  unfold f_Reader_readRule at h
  obtain ⟨hO, h⟩ := gd_some h
  refine ACt_of (plainFor_of_name rfl) rfl (Nat.le_of_ble_eq_true rfl) ?_
  show AWk m_Reader_readRule 121 0 0 0 0 0 [some (aR x0)] [] S V none S V'
  refine Ak_aload_n 1 0 (d_Reader_readRule 0 0 (.aload_n 0) 1 rfl) rfl rfl rfl ?_
  refine Ak_getR 4 4 hO clX5 (by decide) rfl lkF_Reader_31 (d_Reader_readRule 1 1 (.getfield 31) 3 rfl) rfl ?_
  obtain ⟨hg34, h⟩ := gd_some h
  refine Ak_getI 7 2 hg34 clX1 (by decide) (Or.inl rfl) lkF_Reader_113 (d_Reader_readRule 2 4 (.getfield 113) 3 rfl) rfl ?_
  refine Ak_bipush 9 (d_Reader_readRule 3 7 (.bipush 12) 2 rfl) rfl (bp_ok rfl) (rk rfl) ?_
  refine Ak_icmp_ne 17 12 (d_Reader_readRule 4 9 (.if_icmp .ne 8) 3 rfl) rfl rfl (fun hc => ?_) (fun hc => ?_)
  · replace h := it_f hc h
    refine Ak_keep [true] ?_
    exact t_Reader_readRule_J17 hO h
  · replace h := it_t hc h
    refine Ak_aload_n 13 0 (d_Reader_readRule 5 12 (.aload_n 0) 1 rfl) rfl rfl rfl ?_
    refine Ak_iconst 14 (d_Reader_readRule 6 13 (.iconst 5) 1 rfl) rfl (rk rfl) ?_
    obtain ⟨r35, V36, h37, h⟩ := bnd_some h
    refine Ak_cV0 17 2 (c_Reader_fail h37) rfl hO clX5 rfl mok_Reader_fail lkM_Reader_74 (d_Reader_readRule 7 14 (.invokevirtual 74) 3 rfl) rfl (by decide) (Nat.le_of_ble_eq_true rfl) ?_
    refine Ak_keep [true] ?_
    exact t_Reader_readRule_J17 hO h
theorem t_Reader_readStatement_J52 {S : ASh} {V : ASt} {x0 : Int} {r : Int} {V' : ASt} (hO : isO S x0 5 = true) (h : b_Reader_readStatement_J52 S  V x0 = some (r, V')) : AWk m_Reader_readStatement 122 0 0 0 0 52 [some (aR x0)] [] S V none S V' := by
  unfold b_Reader_readStatement_J52 at h
  refine Ak_aload_n 53 0 (d_Reader_readStatement 22 52 (.aload_n 0) 1 rfl) rfl rfl rfl ?_
  obtain ⟨r1, V2, h3, h⟩ := bnd_some h
  refine Ak_cV0 56 121 (c_Reader_readRule h3) rfl hO clX5 rfl mok_Reader_readRule lkM_Reader_96 (d_Reader_readStatement 23 53 (.invokevirtual 96) 3 rfl) rfl (by decide) (Nat.le_of_ble_eq_true rfl) ?_
  refine Ak_goto 64 (d_Reader_readStatement 24 56 (.goto 8) 3 rfl) rfl ?_
  cases h
  exact Ak_vret rfl (d_Reader_readStatement 28 64 (.return_) 1 rfl)
theorem c_Reader_readStatement {S : ASh} {V : ASt} {x0 : Int} {r : Int} {V' : ASt} (h : f_Reader_readStatement S V x0 = some (r, V')) : ACt m_Reader_readStatement 122 0 0 [(aR x0)] S V none S V' := by
  unfold f_Reader_readStatement at h
  obtain ⟨hO, h⟩ := gd_some h
  refine ACt_of (plainFor_of_name rfl) rfl (Nat.le_of_ble_eq_true rfl) ?_
  show AWk m_Reader_readStatement 122 0 0 0 0 0 [some (aR x0)] [] S V none S V'
  refine Ak_aload_n 1 0 (d_Reader_readStatement 0 0 (.aload_n 0) 1 rfl) rfl rfl rfl ?_
  obtain ⟨r4, V5, h6, h⟩ := bnd_some h
  refine Ak_cV1 4 2 (c_Reader_type h6) rfl hO clX5 rfl mok_Reader_type lkM_Reader_51 (d_Reader_readStatement 1 1 (.invokevirtual 51) 3 rfl) rfl (by decide) (Nat.le_of_ble_eq_true rfl) ?_
  refine Ak_sipush 7 (d_Reader_readStatement 2 4 (.sipush 257) 3 rfl) rfl (sp_ok rfl) (rk rfl) ?_
  refine Ak_icmp_ne 17 10 (d_Reader_readStatement 3 7 (.if_icmp .ne 10) 3 rfl) rfl rfl (fun hc => ?_) (fun hc => ?_)
  · replace h := it_f hc h
    refine Ak_aload_n 18 0 (d_Reader_readStatement 7 17 (.aload_n 0) 1 rfl) rfl rfl rfl ?_
    obtain ⟨r7, V8, h9, h⟩ := bnd_some h
    refine Ak_cV1 21 2 (c_Reader_type h9) rfl hO clX5 rfl mok_Reader_type lkM_Reader_51 (d_Reader_readStatement 8 18 (.invokevirtual 51) 3 rfl) rfl (by decide) (Nat.le_of_ble_eq_true rfl) ?_
    refine Ak_sipush 24 (d_Reader_readStatement 9 21 (.sipush 261) 3 rfl) rfl (sp_ok rfl) (rk rfl) ?_
    refine Ak_icmp_ne 34 27 (d_Reader_readStatement 10 24 (.if_icmp .ne 10) 3 rfl) rfl rfl (fun hc => ?_) (fun hc => ?_)
    · replace h := it_f hc h
      refine Ak_aload_n 35 0 (d_Reader_readStatement 14 34 (.aload_n 0) 1 rfl) rfl rfl rfl ?_
      obtain ⟨r10, V11, h12, h⟩ := bnd_some h
      refine Ak_cV1 38 2 (c_Reader_type h12) rfl hO clX5 rfl mok_Reader_type lkM_Reader_51 (d_Reader_readStatement 15 35 (.invokevirtual 51) 3 rfl) rfl (by decide) (Nat.le_of_ble_eq_true rfl) ?_
      refine Ak_sipush 41 (d_Reader_readStatement 16 38 (.sipush 260) 3 rfl) rfl (sp_ok rfl) (rk rfl) ?_
      refine Ak_icmp_eq 52 44 (d_Reader_readStatement 17 41 (.if_icmp .eq 11) 3 rfl) rfl rfl (fun hc => ?_) (fun hc => ?_)
      · replace h := it_t hc h
        refine Ak_keep [true] ?_
        exact t_Reader_readStatement_J52 hO h
      · replace h := it_f hc h
        refine Ak_aload_n 45 0 (d_Reader_readStatement 18 44 (.aload_n 0) 1 rfl) rfl rfl rfl ?_
        obtain ⟨r13, V14, h15, h⟩ := bnd_some h
        refine Ak_cV1 48 3 (c_Reader_kindTold h15) rfl hO clX5 rfl mok_Reader_kindTold lkM_Reader_93 (d_Reader_readStatement 19 45 (.invokevirtual 93) 3 rfl) rfl (by decide) (Nat.le_of_ble_eq_true rfl) ?_
        refine Ak_iconst 49 (d_Reader_readStatement 20 48 (.iconst (-1)) 1 rfl) rfl (rk rfl) ?_
        refine Ak_icmp_eq 59 52 (d_Reader_readStatement 21 49 (.if_icmp .eq 10) 3 rfl) rfl rfl (fun hc => ?_) (fun hc => ?_)
        · replace h := it_t hc h
          refine Ak_aload_n 60 0 (d_Reader_readStatement 25 59 (.aload_n 0) 1 rfl) rfl rfl rfl ?_
          refine Ak_iconst 61 (d_Reader_readStatement 26 60 (.iconst 1) 1 rfl) rfl (rk rfl) ?_
          obtain ⟨r16, V17, h18, h⟩ := bnd_some h
          refine Ak_cV0 64 2 (c_Reader_fail h18) rfl hO clX5 rfl mok_Reader_fail lkM_Reader_74 (d_Reader_readStatement 27 61 (.invokevirtual 74) 3 rfl) rfl (by decide) (Nat.le_of_ble_eq_true rfl) ?_
          cases h
          exact Ak_vret rfl (d_Reader_readStatement 28 64 (.return_) 1 rfl)
        · replace h := it_f hc h
          refine Ak_keep [true] ?_
          exact t_Reader_readStatement_J52 hO h
    · replace h := it_t hc h
      refine Ak_aload_n 28 0 (d_Reader_readStatement 11 27 (.aload_n 0) 1 rfl) rfl rfl rfl ?_
      obtain ⟨r19, V20, h21, h⟩ := bnd_some h
      refine Ak_cV0 31 4 (c_Reader_readStuck h21) rfl hO clX5 rfl mok_Reader_readStuck lkM_Reader_90 (d_Reader_readStatement 12 28 (.invokevirtual 90) 3 rfl) rfl (by decide) (Nat.le_of_ble_eq_true rfl) ?_
      refine Ak_goto 64 (d_Reader_readStatement 13 31 (.goto 33) 3 rfl) rfl ?_
      cases h
      exact Ak_vret rfl (d_Reader_readStatement 28 64 (.return_) 1 rfl)
  · replace h := it_t hc h
    refine Ak_aload_n 11 0 (d_Reader_readStatement 4 10 (.aload_n 0) 1 rfl) rfl rfl rfl ?_
    obtain ⟨r22, V23, h24, h⟩ := bnd_some h
    refine Ak_cV0 14 4 (c_Reader_readPiece h24) rfl hO clX5 rfl mok_Reader_readPiece lkM_Reader_87 (d_Reader_readStatement 5 11 (.invokevirtual 87) 3 rfl) rfl (by decide) (Nat.le_of_ble_eq_true rfl) ?_
    refine Ak_goto 64 (d_Reader_readStatement 6 14 (.goto 50) 3 rfl) rfl ?_
    cases h
    exact Ak_vret rfl (d_Reader_readStatement 28 64 (.return_) 1 rfl)
theorem t_Reader_readGame_J96 {S : ASh} {V : ASt} {x0 x3 : Int} {r : Int} {V' : ASt} (hO : isO S x0 5 = true) (h : b_Reader_readGame_J96 S  V x0 x3 = some (r, V')) : AWk m_Reader_readGame 123 0 0 0 0 96 [some (aR x0), none, none, some (aI x3)] [] S V (some (aI r)) S V' := by
  unfold b_Reader_readGame_J96 at h
  refine Ak_aload_n 97 0 (d_Reader_readGame 48 96 (.aload_n 0) 1 rfl) rfl rfl rfl ?_
  refine Ak_getI 100 0 hO clX5 (by decide) (Or.inl rfl) lkF_Reader_9 (d_Reader_readGame 49 97 (.getfield 9) 3 rfl) rfl ?_
  refine Ak_if_ne 107 103 (d_Reader_readGame 50 100 (.ifCond .ne 7) 3 rfl) rfl rfl (fun hc => ?_) (fun hc => ?_)
  · replace h := it_f hc h
    refine Ak_iconst 108 (d_Reader_readGame 53 107 (.iconst (-1)) 1 rfl) rfl (rk rfl) ?_
    cases h
    exact Ak_iret rfl (d_Reader_readGame 54 108 (.ireturn) 1 rfl)
  · replace h := it_t hc h
    refine Ak_iload_n 104 3 (d_Reader_readGame 51 103 (.iload_n 3) 1 rfl) rfl rfl rfl ?_
    refine Ak_goto 108 (d_Reader_readGame 52 104 (.goto 4) 3 rfl) rfl ?_
    cases h
    exact Ak_iret rfl (d_Reader_readGame 54 108 (.ireturn) 1 rfl)
theorem t_Reader_readGame_L55 {S : ASh} {x0 : Int} (hO : isO S x0 5 = true) : ∀ (n : Nat) (V : ASt) (x3 x4 : Int) (r : Int) (V' : ASt), b_Reader_readGame_L55 S x0 n V x3 x4 = some (r, V') → AWk m_Reader_readGame 123 0 0 0 0 55 [some (aR x0), none, none, some (aI x3), some (aI x4)] [] S V (some (aI r)) S V' := by
  intro n
  induction n with
  | zero => intro V x3 x4 r V' h; cases h
  | succ n ih =>
    intro V x3 x4 r V' h
    replace ih : ∀ {V : ASt} {x3 x4 : Int} {r : Int} {V' : ASt}, b_Reader_readGame_L55 S x0 n V x3 x4 = some (r, V') → AWk m_Reader_readGame 123 0 0 0 0 55 [some (aR x0), none, none, some (aI x3), some (aI x4)] [] S V (some (aI r)) S V' := fun h => ih _ _ _ _ _ h
    rw [b_Reader_readGame_L55] at h
    refine Ak_iload 57 (d_Reader_readGame 31 55 (.iload 4) 2 rfl) rfl rfl ?_
    refine Ak_sipush 60 (d_Reader_readGame 32 57 (.sipush 1800) 3 rfl) rfl (sp_ok rfl) (rk rfl) ?_
    refine Ak_icmp_ge 96 63 (d_Reader_readGame 33 60 (.if_icmp .ge 36) 3 rfl) rfl rfl (fun hc => ?_) (fun hc => ?_)
    · replace h := it_t hc h
      refine Ak_keep [true, false, false, true] ?_
      exact t_Reader_readGame_J96 hO h
    · replace h := it_f hc h
      refine Ak_aload_n 64 0 (d_Reader_readGame 34 63 (.aload_n 0) 1 rfl) rfl rfl rfl ?_
      refine Ak_getI 67 0 hO clX5 (by decide) (Or.inl rfl) lkF_Reader_9 (d_Reader_readGame 35 64 (.getfield 9) 3 rfl) rfl ?_
      refine Ak_if_ne 96 70 (d_Reader_readGame 36 67 (.ifCond .ne 29) 3 rfl) rfl rfl (fun hc => ?_) (fun hc => ?_)
      · replace h := it_f hc h
        refine Ak_keep [true, false, false, true] ?_
        exact t_Reader_readGame_J96 hO h
      · replace h := it_t hc h
        refine Ak_aload_n 71 0 (d_Reader_readGame 37 70 (.aload_n 0) 1 rfl) rfl rfl rfl ?_
        obtain ⟨r1, V2, h3, h⟩ := bnd_some h
        refine Ak_cV1 74 2 (c_Reader_type h3) rfl hO clX5 rfl mok_Reader_type lkM_Reader_51 (d_Reader_readGame 38 71 (.invokevirtual 51) 3 rfl) rfl (by decide) (Nat.le_of_ble_eq_true rfl) ?_
        refine Ak_if_eq 96 77 (d_Reader_readGame 39 74 (.ifCond .eq 22) 3 rfl) rfl rfl (fun hc => ?_) (fun hc => ?_)
        · replace h := it_t hc h
          refine Ak_keep [true, false, false, true] ?_
          exact t_Reader_readGame_J96 hO h
        · replace h := it_f hc h
          refine Ak_aload_n 78 0 (d_Reader_readGame 40 77 (.aload_n 0) 1 rfl) rfl rfl rfl ?_
          obtain ⟨r4, V5, h6, h⟩ := bnd_some h
          refine Ak_cV0 81 122 (c_Reader_readStatement h6) rfl hO clX5 rfl mok_Reader_readStatement lkM_Reader_55 (d_Reader_readGame 41 78 (.invokevirtual 55) 3 rfl) rfl (by decide) (Nat.le_of_ble_eq_true rfl) ?_
          refine Ak_aload_n 82 0 (d_Reader_readGame 42 81 (.aload_n 0) 1 rfl) rfl rfl rfl ?_
          refine Ak_bipush 84 (d_Reader_readGame 43 82 (.bipush 59) 2 rfl) rfl (bp_ok rfl) (rk rfl) ?_
          obtain ⟨r7, V8, h9, h⟩ := bnd_some h
          refine Ak_cV0 87 3 (c_Reader_take h9) rfl hO clX5 rfl mok_Reader_take lkM_Reader_47 (d_Reader_readGame 44 84 (.invokevirtual 47) 3 rfl) rfl (by decide) (Nat.le_of_ble_eq_true rfl) ?_
          refine Ak_iinc 90 (d_Reader_readGame 45 87 (.iinc 3 1) 3 rfl) rfl rfl (by decide) ?_
          refine Ak_iinc 93 (d_Reader_readGame 46 90 (.iinc 4 1) 3 rfl) rfl rfl (by decide) ?_
          refine Ak_goto 55 (d_Reader_readGame 47 93 (.goto (-38)) 3 rfl) rfl ?_
          refine Ak_keep [true, false, false, true, true] ?_
          exact ih h
theorem c_Reader_readGame {S : ASh} {V : ASt} {x0 x1 x2 : Int} {r : Int} {V' : ASt} (h : f_Reader_readGame S V x0 x1 x2 = some (r, V')) : ACt m_Reader_readGame 123 0 0 [(aR x0), (aR x1), (aR x2)] S V (some (aI r)) S V' := by
  unfold f_Reader_readGame at h
  obtain ⟨hO, h⟩ := gd_some h
  refine ACt_of (plainFor_of_name rfl) rfl (Nat.le_of_ble_eq_true rfl) ?_
  show AWk m_Reader_readGame 123 0 0 0 0 0 [some (aR x0), some (aR x1), some (aR x2)] [] S V (some (aI r)) S V'
  refine Ak_aload_n 1 0 (d_Reader_readGame 0 0 (.aload_n 0) 1 rfl) rfl rfl rfl ?_
  refine Ak_aload_n 2 2 (d_Reader_readGame 1 1 (.aload_n 2) 1 rfl) rfl rfl rfl ?_
  refine Ak_putR 5 4 hO clX5 (by decide) rfl rfl (fun o => by cases o <;> exact ⟨rfl, rfl⟩) lkF_Reader_31 (d_Reader_readGame 2 2 (.putfield 31) 3 rfl) rfl (fun V10 hV10 => ?_)
  replace h := wV_some h V10 hV10
  refine Ak_aload_n 6 0 (d_Reader_readGame 3 5 (.aload_n 0) 1 rfl) rfl rfl rfl ?_
  refine Ak_getR 9 4 hO clX5 (by decide) rfl lkF_Reader_31 (d_Reader_readGame 4 6 (.getfield 31) 3 rfl) rfl ?_
  obtain ⟨hg14, h⟩ := gd_some h
  obtain ⟨r11, V12, h13, h⟩ := bnd_some h
  refine Ak_cV0 12 3 (c_Game_clear h13) rfl hg14 clX1 rfl mok_Game_clear lkM_Reader_35 (d_Reader_readGame 5 9 (.invokevirtual 35) 3 rfl) rfl (by decide) (Nat.le_of_ble_eq_true rfl) ?_
  refine Ak_aload_n 13 0 (d_Reader_readGame 6 12 (.aload_n 0) 1 rfl) rfl rfl rfl ?_
  refine Ak_iconst 14 (d_Reader_readGame 7 13 (.iconst 0) 1 rfl) rfl (rk rfl) ?_
  refine Ak_putI 17 0 hO clX5 (by decide) rfl rfl rfl lkF_Reader_9 (d_Reader_readGame 8 14 (.putfield 9) 3 rfl) rfl (fun V15 hV15 => ?_)
  replace h := wV_some h V15 hV15
  refine Ak_aload_n 18 0 (d_Reader_readGame 9 17 (.aload_n 0) 1 rfl) rfl rfl rfl ?_
  refine Ak_iconst 19 (d_Reader_readGame 10 18 (.iconst (-1)) 1 rfl) rfl (rk rfl) ?_
  refine Ak_putI 22 1 hO clX5 (by decide) rfl rfl rfl lkF_Reader_15 (d_Reader_readGame 11 19 (.putfield 15) 3 rfl) rfl (fun V16 hV16 => ?_)
  replace h := wV_some h V16 hV16
  refine Ak_aload_n 23 0 (d_Reader_readGame 12 22 (.aload_n 0) 1 rfl) rfl rfl rfl ?_
  refine Ak_iconst 24 (d_Reader_readGame 13 23 (.iconst 0) 1 rfl) rfl (rk rfl) ?_
  refine Ak_putI 27 5 hO clX5 (by decide) rfl rfl rfl lkF_Reader_28 (d_Reader_readGame 14 24 (.putfield 28) 3 rfl) rfl (fun V17 hV17 => ?_)
  replace h := wV_some h V17 hV17
  refine Ak_aload_n 28 0 (d_Reader_readGame 15 27 (.aload_n 0) 1 rfl) rfl rfl rfl ?_
  refine Ak_iconst 29 (d_Reader_readGame 16 28 (.iconst 0) 1 rfl) rfl (rk rfl) ?_
  refine Ak_putI 32 3 hO clX5 (by decide) rfl rfl rfl lkF_Reader_25 (d_Reader_readGame 17 29 (.putfield 25) 3 rfl) rfl (fun V18 hV18 => ?_)
  replace h := wV_some h V18 hV18
  refine Ak_aload_n 33 0 (d_Reader_readGame 18 32 (.aload_n 0) 1 rfl) rfl rfl rfl ?_
  refine Ak_getF 36 2 hO clX5 (by decide) rfl lkF_Reader_21 (d_Reader_readGame 19 33 (.getfield 21) 3 rfl) rfl ?_
  refine Ak_aload_n 37 1 (d_Reader_readGame 20 36 (.aload_n 1) 1 rfl) rfl rfl rfl ?_
  obtain ⟨hg22, h⟩ := gd_some h
  obtain ⟨r19, V20, h21, h⟩ := bnd_some h
  refine Ak_cV0 40 7 (c_Tokens_cut h21) rfl hg22 clX9 rfl mok_Tokens_cut lkM_Reader_40 (d_Reader_readGame 21 37 (.invokevirtual 40) 3 rfl) rfl (by decide) (Nat.le_of_ble_eq_true rfl) ?_
  refine Ak_aload_n 41 0 (d_Reader_readGame 22 40 (.aload_n 0) 1 rfl) rfl rfl rfl ?_
  obtain ⟨r23, V24, h25, h⟩ := bnd_some h
  refine Ak_cV0 44 4 (c_Reader_readBoard h25) rfl hO clX5 rfl mok_Reader_readBoard lkM_Reader_44 (d_Reader_readGame 23 41 (.invokevirtual 44) 3 rfl) rfl (by decide) (Nat.le_of_ble_eq_true rfl) ?_
  refine Ak_aload_n 45 0 (d_Reader_readGame 24 44 (.aload_n 0) 1 rfl) rfl rfl rfl ?_
  refine Ak_bipush 47 (d_Reader_readGame 25 45 (.bipush 59) 2 rfl) rfl (bp_ok rfl) (rk rfl) ?_
  obtain ⟨r26, V27, h28, h⟩ := bnd_some h
  refine Ak_cV0 50 3 (c_Reader_take h28) rfl hO clX5 rfl mok_Reader_take lkM_Reader_47 (d_Reader_readGame 26 47 (.invokevirtual 47) 3 rfl) rfl (by decide) (Nat.le_of_ble_eq_true rfl) ?_
  refine Ak_iconst 51 (d_Reader_readGame 27 50 (.iconst 1) 1 rfl) rfl (rk rfl) ?_
  refine Ak_istore_n 52 3 (d_Reader_readGame 28 51 (.istore_n 3) 1 rfl) rfl rfl (by decide) ?_
  refine Ak_iconst 53 (d_Reader_readGame 29 52 (.iconst 0) 1 rfl) rfl (rk rfl) ?_
  refine Ak_istore 55 (d_Reader_readGame 30 53 (.istore 4) 2 rfl) rfl (by decide) ?_
  refine Ak_keep [true, false, false, true, true] ?_
  exact t_Reader_readGame_L55 hO FU _ _ _ _ _ h
theorem c_Match_begin {S : ASh} {V : ASt} {x0 x1 : Int} {r : Int} {V' : ASt} (h : f_Match_begin S V x0 x1 = some (r, V')) : ACt m_Match_begin 2 0 0 [(aR x0), (aI x1)] S V none S V' := by
  unfold f_Match_begin at h
  obtain ⟨hO, h⟩ := gd_some h
  refine ACt_of (plainFor_of_name rfl) rfl (Nat.le_of_ble_eq_true rfl) ?_
  show AWk m_Match_begin 2 0 0 0 0 0 [some (aR x0), some (aI x1)] [] S V none S V'
  refine Ak_aload_n 1 0 (d_Match_begin 0 0 (.aload_n 0) 1 rfl) rfl rfl rfl ?_
  refine Ak_iload_n 2 1 (d_Match_begin 1 1 (.iload_n 1) 1 rfl) rfl rfl rfl ?_
  refine Ak_putI 5 0 hO clX3 (by decide) rfl rfl rfl lkF_Match_9 (d_Match_begin 2 2 (.putfield 9) 3 rfl) rfl (fun V1 hV1 => ?_)
  replace h := wV_some h V1 hV1
  refine Ak_aload_n 6 0 (d_Match_begin 3 5 (.aload_n 0) 1 rfl) rfl rfl rfl ?_
  refine Ak_iconst 7 (d_Match_begin 4 6 (.iconst 0) 1 rfl) rfl (rk rfl) ?_
  refine Ak_putI 10 1 hO clX3 (by decide) rfl rfl rfl lkF_Match_15 (d_Match_begin 5 7 (.putfield 15) 3 rfl) rfl (fun V2 hV2 => ?_)
  replace h := wV_some h V2 hV2
  refine Ak_aload_n 11 0 (d_Match_begin 6 10 (.aload_n 0) 1 rfl) rfl rfl rfl ?_
  refine Ak_iconst 12 (d_Match_begin 7 11 (.iconst (-1)) 1 rfl) rfl (rk rfl) ?_
  refine Ak_putI 15 2 hO clX3 (by decide) rfl rfl rfl lkF_Match_18 (d_Match_begin 8 12 (.putfield 18) 3 rfl) rfl (fun V3 hV3 => ?_)
  replace h := wV_some h V3 hV3
  cases h
  exact Ak_vret rfl (d_Match_begin 9 15 (.return_) 1 rfl)
theorem c_Moves_countOf {S : ASh} {V : ASt} {x0 x1 : Int} {r : Int} {V' : ASt} (h : f_Moves_countOf S V x0 x1 = some (r, V')) : ACt m_Moves_countOf 2 0 0 [(aR x0), (aI x1)] S V (some (aI r)) S V' := by
  unfold f_Moves_countOf at h
  obtain ⟨hO, h⟩ := gd_some h
  refine ACt_of (plainFor_of_name rfl) rfl (Nat.le_of_ble_eq_true rfl) ?_
  show AWk m_Moves_countOf 2 0 0 0 0 0 [some (aR x0), some (aI x1)] [] S V (some (aI r)) S V'
  refine Ak_iload_n 1 1 (d_Moves_countOf 0 0 (.iload_n 1) 1 rfl) rfl rfl rfl ?_
  refine Ak_if_lt 20 4 (d_Moves_countOf 1 1 (.ifCond .lt 19) 3 rfl) rfl rfl (fun hc => ?_) (fun hc => ?_)
  · replace h := it_t hc h
    refine Ak_iconst 21 (d_Moves_countOf 10 20 (.iconst 0) 1 rfl) rfl (rk rfl) ?_
    cases h
    exact Ak_iret rfl (d_Moves_countOf 11 21 (.ireturn) 1 rfl)
  · replace h := it_f hc h
    refine Ak_iload_n 5 1 (d_Moves_countOf 2 4 (.iload_n 1) 1 rfl) rfl rfl rfl ?_
    refine Ak_sipush 8 (d_Moves_countOf 3 5 (.sipush 200) 3 rfl) rfl (sp_ok rfl) (rk rfl) ?_
    refine Ak_icmp_ge 20 11 (d_Moves_countOf 4 8 (.if_icmp .ge 12) 3 rfl) rfl rfl (fun hc => ?_) (fun hc => ?_)
    · replace h := it_t hc h
      refine Ak_iconst 21 (d_Moves_countOf 10 20 (.iconst 0) 1 rfl) rfl (rk rfl) ?_
      cases h
      exact Ak_iret rfl (d_Moves_countOf 11 21 (.ireturn) 1 rfl)
    · replace h := it_f hc h
      refine Ak_aload_n 12 0 (d_Moves_countOf 5 11 (.aload_n 0) 1 rfl) rfl rfl rfl ?_
      refine Ak_getF 15 5 hO clX4 (by decide) rfl lkF_Moves_26 (d_Moves_countOf 6 12 (.getfield 26) 3 rfl) rfl ?_
      refine Ak_iload_n 16 1 (d_Moves_countOf 7 15 (.iload_n 1) 1 rfl) rfl rfl rfl ?_
      obtain ⟨ha1, h⟩ := gd_some h
      refine Ak_iaload 17 ha1 (d_Moves_countOf 8 16 (.iaload) 1 rfl) rfl ?_
      refine Ak_goto 21 (d_Moves_countOf 9 17 (.goto 4) 3 rfl) rfl ?_
      cases h
      exact Ak_iret rfl (d_Moves_countOf 11 21 (.ireturn) 1 rfl)
theorem c_Moves_winnerWhenStuck {S : ASh} {V : ASt} {x0 x1 : Int} {r : Int} {V' : ASt} (h : f_Moves_winnerWhenStuck S V x0 x1 = some (r, V')) : ACt m_Moves_winnerWhenStuck 3 0 0 [(aR x0), (aI x1)] S V (some (aI r)) S V' := by
  unfold f_Moves_winnerWhenStuck at h
  obtain ⟨hO, h⟩ := gd_some h
  refine ACt_of (plainFor_of_name rfl) rfl (Nat.le_of_ble_eq_true rfl) ?_
  show AWk m_Moves_winnerWhenStuck 3 0 0 0 0 0 [some (aR x0), some (aI x1)] [] S V (some (aI r)) S V'
  refine Ak_aload_n 1 0 (d_Moves_winnerWhenStuck 0 0 (.aload_n 0) 1 rfl) rfl rfl rfl ?_
  refine Ak_getR 4 2 hO clX4 (by decide) rfl lkF_Moves_57 (d_Moves_winnerWhenStuck 1 1 (.getfield 57) 3 rfl) rfl ?_
  refine Ak_iload_n 5 1 (d_Moves_winnerWhenStuck 2 4 (.iload_n 1) 1 rfl) rfl rfl rfl ?_
  refine Ak_iconst 6 (d_Moves_winnerWhenStuck 3 5 (.iconst 1) 1 rfl) rfl (rk rfl) ?_
  refine Ak_iand 7 (d_Moves_winnerWhenStuck 4 6 (.iand) 1 rfl) rfl ?_
  obtain ⟨hg4, h⟩ := gd_some h
  obtain ⟨r1, V2, h3, h⟩ := bnd_some h
  refine Ak_cV1 10 2 (c_Game_winnerWhenStuck h3) rfl hg4 clX1 rfl mok_Game_winnerWhenStuck lkM_Moves_103 (d_Moves_winnerWhenStuck 5 7 (.invokevirtual 103) 3 rfl) rfl (by decide) (Nat.le_of_ble_eq_true rfl) ?_
  cases h
  exact Ak_iret rfl (d_Moves_winnerWhenStuck 6 10 (.ireturn) 1 rfl)
theorem c_Match_winner {S : ASh} {V : ASt} {x0 x1 : Int} {r : Int} {V' : ASt} (h : f_Match_winner S V x0 x1 = some (r, V')) : ACt m_Match_winner 4 0 0 [(aR x0), (aR x1)] S V (some (aI r)) S V' := by
  unfold f_Match_winner at h
  obtain ⟨hO, h⟩ := gd_some h
  refine ACt_of (plainFor_of_name rfl) rfl (Nat.le_of_ble_eq_true rfl) ?_
  show AWk m_Match_winner 4 0 0 0 0 0 [some (aR x0), some (aR x1)] [] S V (some (aI r)) S V'
  refine Ak_aload_n 1 0 (d_Match_winner 0 0 (.aload_n 0) 1 rfl) rfl rfl rfl ?_
  refine Ak_getI 4 2 hO clX3 (by decide) (Or.inl rfl) lkF_Match_18 (d_Match_winner 1 1 (.getfield 18) 3 rfl) rfl ?_
  refine Ak_iconst 5 (d_Match_winner 2 4 (.iconst (-1)) 1 rfl) rfl (rk rfl) ?_
  refine Ak_icmp_eq 13 8 (d_Match_winner 3 5 (.if_icmp .eq 8) 3 rfl) rfl rfl (fun hc => ?_) (fun hc => ?_)
  · replace h := it_t hc h
    refine Ak_aload_n 14 1 (d_Match_winner 7 13 (.aload_n 1) 1 rfl) rfl rfl rfl ?_
    refine Ak_aload_n 15 0 (d_Match_winner 8 14 (.aload_n 0) 1 rfl) rfl rfl rfl ?_
    refine Ak_getI 18 0 hO clX3 (by decide) (Or.inl rfl) lkF_Match_9 (d_Match_winner 9 15 (.getfield 9) 3 rfl) rfl ?_
    obtain ⟨hg4, h⟩ := gd_some h
    obtain ⟨r1, V2, h3, h⟩ := bnd_some h
    refine Ak_cV1 21 2 (c_Moves_countOf h3) rfl hg4 clX4 rfl mok_Moves_countOf lkM_Match_21 (d_Match_winner 10 18 (.invokevirtual 21) 3 rfl) rfl (by decide) (Nat.le_of_ble_eq_true rfl) ?_
    refine Ak_if_ne 35 24 (d_Match_winner 11 21 (.ifCond .ne 14) 3 rfl) rfl rfl (fun hc => ?_) (fun hc => ?_)
    · replace h := it_f hc h
      refine Ak_iconst 36 (d_Match_winner 17 35 (.iconst (-1)) 1 rfl) rfl (rk rfl) ?_
      cases h
      exact Ak_iret rfl (d_Match_winner 18 36 (.ireturn) 1 rfl)
    · replace h := it_t hc h
      refine Ak_aload_n 25 1 (d_Match_winner 12 24 (.aload_n 1) 1 rfl) rfl rfl rfl ?_
      refine Ak_aload_n 26 0 (d_Match_winner 13 25 (.aload_n 0) 1 rfl) rfl rfl rfl ?_
      refine Ak_getI 29 0 hO clX3 (by decide) (Or.inl rfl) lkF_Match_9 (d_Match_winner 14 26 (.getfield 9) 3 rfl) rfl ?_
      obtain ⟨r5, V6, h7, h⟩ := bnd_some h
      refine Ak_cV1 32 3 (c_Moves_winnerWhenStuck h7) rfl hg4 clX4 rfl mok_Moves_winnerWhenStuck lkM_Match_27 (d_Match_winner 15 29 (.invokevirtual 27) 3 rfl) rfl (by decide) (Nat.le_of_ble_eq_true rfl) ?_
      refine Ak_goto 36 (d_Match_winner 16 32 (.goto 4) 3 rfl) rfl ?_
      cases h
      exact Ak_iret rfl (d_Match_winner 18 36 (.ireturn) 1 rfl)
  · replace h := it_f hc h
    refine Ak_aload_n 9 0 (d_Match_winner 4 8 (.aload_n 0) 1 rfl) rfl rfl rfl ?_
    refine Ak_getI 12 2 hO clX3 (by decide) (Or.inl rfl) lkF_Match_18 (d_Match_winner 5 9 (.getfield 18) 3 rfl) rfl ?_
    cases h
    exact Ak_iret rfl (d_Match_winner 6 12 (.ireturn) 1 rfl)
theorem c_Moves_isMove {S : ASh} {V : ASt} {x0 x1 x2 : Int} {r : Int} {V' : ASt} (h : f_Moves_isMove S V x0 x1 x2 = some (r, V')) : ACt m_Moves_isMove 2 0 0 [(aR x0), (aI x1), (aI x2)] S V (some (aI r)) S V' := by
  unfold f_Moves_isMove at h
  obtain ⟨hO, h⟩ := gd_some h
  refine ACt_of (plainFor_of_name rfl) rfl (Nat.le_of_ble_eq_true rfl) ?_
  show AWk m_Moves_isMove 2 0 0 0 0 0 [some (aR x0), some (aI x1), some (aI x2)] [] S V (some (aI r)) S V'
  refine Ak_iload_n 1 1 (d_Moves_isMove 0 0 (.iload_n 1) 1 rfl) rfl rfl rfl ?_
  refine Ak_if_lt 29 4 (d_Moves_isMove 1 1 (.ifCond .lt 28) 3 rfl) rfl rfl (fun hc => ?_) (fun hc => ?_)
  · replace h := it_t hc h
    refine Ak_iconst 30 (d_Moves_isMove 15 29 (.iconst 0) 1 rfl) rfl (rk rfl) ?_
    cases h
    exact Ak_zret (Or.inl rfl) rfl (d_Moves_isMove 16 30 (.ireturn) 1 rfl)
  · replace h := it_f hc h
    refine Ak_iload_n 5 1 (d_Moves_isMove 2 4 (.iload_n 1) 1 rfl) rfl rfl rfl ?_
    refine Ak_sipush 8 (d_Moves_isMove 3 5 (.sipush 200) 3 rfl) rfl (sp_ok rfl) (rk rfl) ?_
    refine Ak_icmp_ge 29 11 (d_Moves_isMove 4 8 (.if_icmp .ge 21) 3 rfl) rfl rfl (fun hc => ?_) (fun hc => ?_)
    · replace h := it_t hc h
      refine Ak_iconst 30 (d_Moves_isMove 15 29 (.iconst 0) 1 rfl) rfl (rk rfl) ?_
      cases h
      exact Ak_zret (Or.inl rfl) rfl (d_Moves_isMove 16 30 (.ireturn) 1 rfl)
    · replace h := it_f hc h
      refine Ak_iload_n 12 2 (d_Moves_isMove 5 11 (.iload_n 2) 1 rfl) rfl rfl rfl ?_
      refine Ak_if_lt 29 15 (d_Moves_isMove 6 12 (.ifCond .lt 17) 3 rfl) rfl rfl (fun hc => ?_) (fun hc => ?_)
      · replace h := it_t hc h
        refine Ak_iconst 30 (d_Moves_isMove 15 29 (.iconst 0) 1 rfl) rfl (rk rfl) ?_
        cases h
        exact Ak_zret (Or.inl rfl) rfl (d_Moves_isMove 16 30 (.ireturn) 1 rfl)
      · replace h := it_f hc h
        refine Ak_iload_n 16 2 (d_Moves_isMove 7 15 (.iload_n 2) 1 rfl) rfl rfl rfl ?_
        refine Ak_aload_n 17 0 (d_Moves_isMove 8 16 (.aload_n 0) 1 rfl) rfl rfl rfl ?_
        refine Ak_getF 20 5 hO clX4 (by decide) rfl lkF_Moves_26 (d_Moves_isMove 9 17 (.getfield 26) 3 rfl) rfl ?_
        refine Ak_iload_n 21 1 (d_Moves_isMove 10 20 (.iload_n 1) 1 rfl) rfl rfl rfl ?_
        obtain ⟨ha1, h⟩ := gd_some h
        refine Ak_iaload 22 ha1 (d_Moves_isMove 11 21 (.iaload) 1 rfl) rfl ?_
        refine Ak_icmp_ge 29 25 (d_Moves_isMove 12 22 (.if_icmp .ge 7) 3 rfl) rfl rfl (fun hc => ?_) (fun hc => ?_)
        · replace h := it_t hc h
          refine Ak_iconst 30 (d_Moves_isMove 15 29 (.iconst 0) 1 rfl) rfl (rk rfl) ?_
          cases h
          exact Ak_zret (Or.inl rfl) rfl (d_Moves_isMove 16 30 (.ireturn) 1 rfl)
        · replace h := it_f hc h
          refine Ak_iconst 26 (d_Moves_isMove 13 25 (.iconst 1) 1 rfl) rfl (rk rfl) ?_
          refine Ak_goto 30 (d_Moves_isMove 14 26 (.goto 4) 3 rfl) rfl ?_
          cases h
          exact Ak_zret (Or.inr rfl) rfl (d_Moves_isMove 16 30 (.ireturn) 1 rfl)
theorem c_Moves_codeOf {S : ASh} {V : ASt} {x0 x1 x2 : Int} {r : Int} {V' : ASt} (h : f_Moves_codeOf S V x0 x1 x2 = some (r, V')) : ACt m_Moves_codeOf 3 0 0 [(aR x0), (aI x1), (aI x2)] S V (some (aI r)) S V' := by
  unfold f_Moves_codeOf at h
  obtain ⟨hO, h⟩ := gd_some h
  refine ACt_of (plainFor_of_name rfl) rfl (Nat.le_of_ble_eq_true rfl) ?_
  show AWk m_Moves_codeOf 3 0 0 0 0 0 [some (aR x0), some (aI x1), some (aI x2)] [] S V (some (aI r)) S V'
  refine Ak_aload_n 1 0 (d_Moves_codeOf 0 0 (.aload_n 0) 1 rfl) rfl rfl rfl ?_
  refine Ak_iload_n 2 1 (d_Moves_codeOf 1 1 (.iload_n 1) 1 rfl) rfl rfl rfl ?_
  refine Ak_iload_n 3 2 (d_Moves_codeOf 2 2 (.iload_n 2) 1 rfl) rfl rfl rfl ?_
  obtain ⟨r1, V2, h3, h⟩ := bnd_some h
  refine Ak_cV1 6 2 (c_Moves_isMove h3) rfl hO clX4 rfl mok_Moves_isMove lkM_Moves_99 (d_Moves_codeOf 3 3 (.invokevirtual 99) 3 rfl) rfl (by decide) (Nat.le_of_ble_eq_true rfl) ?_
  refine Ak_if_eq 23 9 (d_Moves_codeOf 4 6 (.ifCond .eq 17) 3 rfl) rfl rfl (fun hc => ?_) (fun hc => ?_)
  · replace h := it_t hc h
    refine Ak_iconst 24 (d_Moves_codeOf 14 23 (.iconst (-1)) 1 rfl) rfl (rk rfl) ?_
    cases h
    exact Ak_iret rfl (d_Moves_codeOf 15 24 (.ireturn) 1 rfl)
  · replace h := it_f hc h
    refine Ak_aload_n 10 0 (d_Moves_codeOf 5 9 (.aload_n 0) 1 rfl) rfl rfl rfl ?_
    refine Ak_getF 13 6 hO clX4 (by decide) rfl lkF_Moves_29 (d_Moves_codeOf 6 10 (.getfield 29) 3 rfl) rfl ?_
    refine Ak_iload_n 14 1 (d_Moves_codeOf 7 13 (.iload_n 1) 1 rfl) rfl rfl rfl ?_
    refine Ak_bipush 16 (d_Moves_codeOf 8 14 (.bipush 12) 2 rfl) rfl (bp_ok rfl) (rk rfl) ?_
    refine Ak_imul 17 (d_Moves_codeOf 9 16 (.imul) 1 rfl) rfl ?_
    refine Ak_iload_n 18 2 (d_Moves_codeOf 10 17 (.iload_n 2) 1 rfl) rfl rfl rfl ?_
    refine Ak_iadd 19 (d_Moves_codeOf 11 18 (.iadd) 1 rfl) rfl ?_
    obtain ⟨ha4, h⟩ := gd_some h
    refine Ak_iaload 20 ha4 (d_Moves_codeOf 12 19 (.iaload) 1 rfl) rfl ?_
    refine Ak_goto 24 (d_Moves_codeOf 13 20 (.goto 4) 3 rfl) rfl ?_
    cases h
    exact Ak_iret rfl (d_Moves_codeOf 15 24 (.ireturn) 1 rfl)
theorem c_Moves_nextOf {S : ASh} {V : ASt} {x0 x1 x2 : Int} {r : Int} {V' : ASt} (h : f_Moves_nextOf S V x0 x1 x2 = some (r, V')) : ACt m_Moves_nextOf 3 0 0 [(aR x0), (aI x1), (aI x2)] S V (some (aI r)) S V' := by
  unfold f_Moves_nextOf at h
  obtain ⟨hO, h⟩ := gd_some h
  refine ACt_of (plainFor_of_name rfl) rfl (Nat.le_of_ble_eq_true rfl) ?_
  show AWk m_Moves_nextOf 3 0 0 0 0 0 [some (aR x0), some (aI x1), some (aI x2)] [] S V (some (aI r)) S V'
  refine Ak_aload_n 1 0 (d_Moves_nextOf 0 0 (.aload_n 0) 1 rfl) rfl rfl rfl ?_
  refine Ak_iload_n 2 1 (d_Moves_nextOf 1 1 (.iload_n 1) 1 rfl) rfl rfl rfl ?_
  refine Ak_iload_n 3 2 (d_Moves_nextOf 2 2 (.iload_n 2) 1 rfl) rfl rfl rfl ?_
  obtain ⟨r1, V2, h3, h⟩ := bnd_some h
  refine Ak_cV1 6 2 (c_Moves_isMove h3) rfl hO clX4 rfl mok_Moves_isMove lkM_Moves_99 (d_Moves_nextOf 3 3 (.invokevirtual 99) 3 rfl) rfl (by decide) (Nat.le_of_ble_eq_true rfl) ?_
  refine Ak_if_eq 23 9 (d_Moves_nextOf 4 6 (.ifCond .eq 17) 3 rfl) rfl rfl (fun hc => ?_) (fun hc => ?_)
  · replace h := it_t hc h
    refine Ak_bipush 25 (d_Moves_nextOf 14 23 (.bipush (-2)) 2 rfl) rfl (bp_ok rfl) (rk rfl) ?_
    cases h
    exact Ak_iret rfl (d_Moves_nextOf 15 25 (.ireturn) 1 rfl)
  · replace h := it_f hc h
    refine Ak_aload_n 10 0 (d_Moves_nextOf 5 9 (.aload_n 0) 1 rfl) rfl rfl rfl ?_
    refine Ak_getF 13 7 hO clX4 (by decide) rfl lkF_Moves_32 (d_Moves_nextOf 6 10 (.getfield 32) 3 rfl) rfl ?_
    refine Ak_iload_n 14 1 (d_Moves_nextOf 7 13 (.iload_n 1) 1 rfl) rfl rfl rfl ?_
    refine Ak_bipush 16 (d_Moves_nextOf 8 14 (.bipush 12) 2 rfl) rfl (bp_ok rfl) (rk rfl) ?_
    refine Ak_imul 17 (d_Moves_nextOf 9 16 (.imul) 1 rfl) rfl ?_
    refine Ak_iload_n 18 2 (d_Moves_nextOf 10 17 (.iload_n 2) 1 rfl) rfl rfl rfl ?_
    refine Ak_iadd 19 (d_Moves_nextOf 11 18 (.iadd) 1 rfl) rfl ?_
    obtain ⟨ha4, h⟩ := gd_some h
    refine Ak_iaload 20 ha4 (d_Moves_nextOf 12 19 (.iaload) 1 rfl) rfl ?_
    refine Ak_goto 25 (d_Moves_nextOf 13 20 (.goto 5) 3 rfl) rfl ?_
    cases h
    exact Ak_iret rfl (d_Moves_nextOf 15 25 (.ireturn) 1 rfl)
theorem t_Match_step_J90 {S : ASh} {V : ASt} {x0 x2 x3 : Int} {r : Int} {V' : ASt} (hO : isO S x0 3 = true) (h : b_Match_step_J90 S  V x0 x2 x3 = some (r, V')) : AWk m_Match_step 4 0 0 0 0 90 [some (aR x0), none, some (aR x2), some (aI x3)] [] S V (some (aI r)) S V' := by
  unfold b_Match_step_J90 at h
  refine Ak_aload_n 91 0 (d_Match_step 46 90 (.aload_n 0) 1 rfl) rfl rfl rfl ?_
  refine Ak_aload_n 92 2 (d_Match_step 47 91 (.aload_n 2) 1 rfl) rfl rfl rfl ?_
  refine Ak_aload_n 93 0 (d_Match_step 48 92 (.aload_n 0) 1 rfl) rfl rfl rfl ?_
  refine Ak_getI 96 0 hO clX3 (by decide) (Or.inl rfl) lkF_Match_9 (d_Match_step 49 93 (.getfield 9) 3 rfl) rfl ?_
  refine Ak_iload_n 97 3 (d_Match_step 50 96 (.iload_n 3) 1 rfl) rfl rfl rfl ?_
  refine Ak_bipush 99 (d_Match_step 51 97 (.bipush 10) 2 rfl) rfl (bp_ok rfl) (rk rfl) ?_
  refine Ak_idiv 100 (d_Match_step 52 99 (.idiv) 1 rfl) rfl (by decide) ?_
  refine Ak_iload_n 101 3 (d_Match_step 53 100 (.iload_n 3) 1 rfl) rfl rfl rfl ?_
  refine Ak_bipush 103 (d_Match_step 54 101 (.bipush 10) 2 rfl) rfl (bp_ok rfl) (rk rfl) ?_
  refine Ak_irem 104 (d_Match_step 55 103 (.irem) 1 rfl) rfl (by decide) ?_
  obtain ⟨hg4, h⟩ := gd_some h
  obtain ⟨r1, V2, h3, h⟩ := bnd_some h
  refine Ak_cV1 107 3 (c_Game_positionBehind h3) rfl hg4 clX1 rfl mok_Game_positionBehind lkM_Match_37 (d_Match_step 56 104 (.invokevirtual 37) 3 rfl) rfl (by decide) (Nat.le_of_ble_eq_true rfl) ?_
  refine Ak_putI 110 0 hO clX3 (by decide) rfl rfl rfl lkF_Match_9 (d_Match_step 57 107 (.putfield 9) 3 rfl) rfl (fun V5 hV5 => ?_)
  replace h := wV_some h V5 hV5
  refine Ak_aload_n 111 0 (d_Match_step 58 110 (.aload_n 0) 1 rfl) rfl rfl rfl ?_
  refine Ak_dup 112 (d_Match_step 59 111 (.dup) 1 rfl) rfl rfl ?_
  refine Ak_getI 115 1 hO clX3 (by decide) (Or.inl rfl) lkF_Match_15 (d_Match_step 60 112 (.getfield 15) 3 rfl) rfl ?_
  refine Ak_iconst 116 (d_Match_step 61 115 (.iconst 1) 1 rfl) rfl (rk rfl) ?_
  refine Ak_iadd 117 (d_Match_step 62 116 (.iadd) 1 rfl) rfl ?_
  refine Ak_putI 120 1 hO clX3 (by decide) rfl rfl rfl lkF_Match_15 (d_Match_step 63 117 (.putfield 15) 3 rfl) rfl (fun V6 hV6 => ?_)
  replace h := wV_some h V6 hV6
  refine Ak_iconst 121 (d_Match_step 64 120 (.iconst 1) 1 rfl) rfl (rk rfl) ?_
  cases h
  exact Ak_zret (Or.inr rfl) rfl (d_Match_step 65 121 (.ireturn) 1 rfl)
theorem t_Match_step_J87 {S : ASh} {V : ASt} {x0 x2 x3 s0 s1 : Int} {r : Int} {V' : ASt} (hO : isO S x0 3 = true) (h : b_Match_step_J87 S  V x0 x2 x3 s0 s1 = some (r, V')) : AWk m_Match_step 4 0 0 0 0 87 [some (aR x0), none, some (aR x2), some (aI x3)] [(aI s1), (aR s0)] S V (some (aI r)) S V' := by
  unfold b_Match_step_J87 at h
  obtain ⟨hg7, h⟩ := gd_some h
  refine Ak_putI 90 2 hg7 clX3 (by decide) rfl rfl rfl lkF_Match_18 (d_Match_step 45 87 (.putfield 18) 3 rfl) rfl (fun V8 hV8 => ?_)
  replace h := wV_some h V8 hV8
  refine Ak_keep [true, false, true, true] ?_
  exact t_Match_step_J90 hO h
theorem t_Match_step_L25 {S : ASh} {x0 x1 x2 x3 x4 : Int} (hO : isO S x0 3 = true) : ∀ (n : Nat) (V : ASt) (x5 : Int) (r : Int) (V' : ASt), b_Match_step_L25 S x0 x1 x2 x3 x4 n V x5 = some (r, V') → AWk m_Match_step 4 0 0 0 0 25 [some (aR x0), some (aR x1), some (aR x2), some (aI x3), some (aI x4), some (aI x5)] [] S V (some (aI r)) S V' := by
  intro n
  induction n with
  | zero => intro V x5 r V' h; cases h
  | succ n ih =>
    intro V x5 r V' h
    replace ih : ∀ {V : ASt} {x5 : Int} {r : Int} {V' : ASt}, b_Match_step_L25 S x0 x1 x2 x3 x4 n V x5 = some (r, V') → AWk m_Match_step 4 0 0 0 0 25 [some (aR x0), some (aR x1), some (aR x2), some (aI x3), some (aI x4), some (aI x5)] [] S V (some (aI r)) S V' := fun h => ih _ _ _ _ h
    rw [b_Match_step_L25] at h
    refine Ak_iload 27 (d_Match_step 13 25 (.iload 5) 2 rfl) rfl rfl ?_
    refine Ak_iload 29 (d_Match_step 14 27 (.iload 4) 2 rfl) rfl rfl ?_
    refine Ak_icmp_ge 128 32 (d_Match_step 15 29 (.if_icmp .ge 99) 3 rfl) rfl rfl (fun hc => ?_) (fun hc => ?_)
    · replace h := it_t hc h
      refine Ak_iconst 129 (d_Match_step 68 128 (.iconst 0) 1 rfl) rfl (rk rfl) ?_
      cases h
      exact Ak_zret (Or.inl rfl) rfl (d_Match_step 69 129 (.ireturn) 1 rfl)
    · replace h := it_f hc h
      refine Ak_aload_n 33 1 (d_Match_step 16 32 (.aload_n 1) 1 rfl) rfl rfl rfl ?_
      refine Ak_aload_n 34 0 (d_Match_step 17 33 (.aload_n 0) 1 rfl) rfl rfl rfl ?_
      refine Ak_getI 37 0 hO clX3 (by decide) (Or.inl rfl) lkF_Match_9 (d_Match_step 18 34 (.getfield 9) 3 rfl) rfl ?_
      refine Ak_iload 39 (d_Match_step 19 37 (.iload 5) 2 rfl) rfl rfl ?_
      obtain ⟨hg12, h⟩ := gd_some h
      obtain ⟨r9, V10, h11, h⟩ := bnd_some h
      refine Ak_cV1 42 3 (c_Moves_codeOf h11) rfl hg12 clX4 rfl mok_Moves_codeOf lkM_Match_30 (d_Match_step 20 39 (.invokevirtual 30) 3 rfl) rfl (by decide) (Nat.le_of_ble_eq_true rfl) ?_
      refine Ak_iload_n 43 3 (d_Match_step 21 42 (.iload_n 3) 1 rfl) rfl rfl rfl ?_
      refine Ak_icmp_ne 122 46 (d_Match_step 22 43 (.if_icmp .ne 79) 3 rfl) rfl rfl (fun hc => ?_) (fun hc => ?_)
      · replace h := it_f hc h
        refine Ak_iinc 125 (d_Match_step 66 122 (.iinc 5 1) 3 rfl) rfl rfl (by decide) ?_
        refine Ak_goto 25 (d_Match_step 67 125 (.goto (-100)) 3 rfl) rfl ?_
        refine Ak_keep [true, true, true, true, true, true] ?_
        exact ih h
      · replace h := it_t hc h
        refine Ak_aload_n 47 0 (d_Match_step 23 46 (.aload_n 0) 1 rfl) rfl rfl rfl ?_
        refine Ak_getI 50 0 hO clX3 (by decide) (Or.inl rfl) lkF_Match_9 (d_Match_step 24 47 (.getfield 9) 3 rfl) rfl ?_
        refine Ak_iconst 51 (d_Match_step 25 50 (.iconst 1) 1 rfl) rfl (rk rfl) ?_
        refine Ak_iand 52 (d_Match_step 26 51 (.iand) 1 rfl) rfl ?_
        refine Ak_istore 54 (d_Match_step 27 52 (.istore 6) 2 rfl) rfl (by decide) ?_
        refine Ak_aload_n 55 1 (d_Match_step 28 54 (.aload_n 1) 1 rfl) rfl rfl rfl ?_
        refine Ak_aload_n 56 0 (d_Match_step 29 55 (.aload_n 0) 1 rfl) rfl rfl rfl ?_
        refine Ak_getI 59 0 hO clX3 (by decide) (Or.inl rfl) lkF_Match_9 (d_Match_step 30 56 (.getfield 9) 3 rfl) rfl ?_
        refine Ak_iload 61 (d_Match_step 31 59 (.iload 5) 2 rfl) rfl rfl ?_
        obtain ⟨r13, V14, h15, h⟩ := bnd_some h
        refine Ak_cV1 64 3 (c_Moves_nextOf h15) rfl hg12 clX4 rfl mok_Moves_nextOf lkM_Match_34 (d_Match_step 32 61 (.invokevirtual 34) 3 rfl) rfl (by decide) (Nat.le_of_ble_eq_true rfl) ?_
        refine Ak_istore 66 (d_Match_step 33 64 (.istore 7) 2 rfl) rfl (by decide) ?_
        refine Ak_iload 68 (d_Match_step 34 66 (.iload 7) 2 rfl) rfl rfl ?_
        refine Ak_if_ge 90 71 (d_Match_step 35 68 (.ifCond .ge 22) 3 rfl) rfl rfl (fun hc => ?_) (fun hc => ?_)
        · replace h := it_t hc h
          refine Ak_keep [true, false, true, true] ?_
          exact t_Match_step_J90 hO h
        · replace h := it_f hc h
          refine Ak_aload_n 72 0 (d_Match_step 36 71 (.aload_n 0) 1 rfl) rfl rfl rfl ?_
          refine Ak_iload 74 (d_Match_step 37 72 (.iload 7) 2 rfl) rfl rfl ?_
          refine Ak_iconst 75 (d_Match_step 38 74 (.iconst (-1)) 1 rfl) rfl (rk rfl) ?_
          refine Ak_icmp_ne 83 78 (d_Match_step 39 75 (.if_icmp .ne 8) 3 rfl) rfl rfl (fun hc => ?_) (fun hc => ?_)
          · replace h := it_f hc h
            refine Ak_iconst 84 (d_Match_step 42 83 (.iconst 1) 1 rfl) rfl (rk rfl) ?_
            refine Ak_iload 86 (d_Match_step 43 84 (.iload 6) 2 rfl) rfl rfl ?_
            refine Ak_isub 87 (d_Match_step 44 86 (.isub) 1 rfl) rfl ?_
            refine Ak_keep [true, false, true, true] ?_
            exact t_Match_step_J87 hO h
          · replace h := it_t hc h
            refine Ak_iload 80 (d_Match_step 40 78 (.iload 6) 2 rfl) rfl rfl ?_
            refine Ak_goto 87 (d_Match_step 41 80 (.goto 7) 3 rfl) rfl ?_
            refine Ak_keep [true, false, true, true] ?_
            exact t_Match_step_J87 hO h
theorem c_Match_step {S : ASh} {V : ASt} {x0 x1 x2 x3 : Int} {r : Int} {V' : ASt} (h : f_Match_step S V x0 x1 x2 x3 = some (r, V')) : ACt m_Match_step 4 0 0 [(aR x0), (aR x1), (aR x2), (aI x3)] S V (some (aI r)) S V' := by
  unfold f_Match_step at h
  obtain ⟨hO, h⟩ := gd_some h
  refine ACt_of (plainFor_of_name rfl) rfl (Nat.le_of_ble_eq_true rfl) ?_
  show AWk m_Match_step 4 0 0 0 0 0 [some (aR x0), some (aR x1), some (aR x2), some (aI x3)] [] S V (some (aI r)) S V'
  refine Ak_aload_n 1 0 (d_Match_step 0 0 (.aload_n 0) 1 rfl) rfl rfl rfl ?_
  refine Ak_getI 4 2 hO clX3 (by decide) (Or.inl rfl) lkF_Match_18 (d_Match_step 1 1 (.getfield 18) 3 rfl) rfl ?_
  refine Ak_iconst 5 (d_Match_step 2 4 (.iconst (-1)) 1 rfl) rfl (rk rfl) ?_
  refine Ak_icmp_ne 19 8 (d_Match_step 3 5 (.if_icmp .ne 14) 3 rfl) rfl rfl (fun hc => ?_) (fun hc => ?_)
  · replace h := it_f hc h
    refine Ak_iconst 20 (d_Match_step 9 19 (.iconst 0) 1 rfl) rfl (rk rfl) ?_
    refine Ak_istore 22 (d_Match_step 10 20 (.istore 4) 2 rfl) rfl (by decide) ?_
    refine Ak_iconst 23 (d_Match_step 11 22 (.iconst 0) 1 rfl) rfl (rk rfl) ?_
    refine Ak_istore 25 (d_Match_step 12 23 (.istore 5) 2 rfl) rfl (by decide) ?_
    refine Ak_keep [true, true, true, true, true, true] ?_
    exact t_Match_step_L25 hO FU _ _ _ _ h
  · replace h := it_t hc h
    refine Ak_aload_n 9 1 (d_Match_step 4 8 (.aload_n 1) 1 rfl) rfl rfl rfl ?_
    refine Ak_aload_n 10 0 (d_Match_step 5 9 (.aload_n 0) 1 rfl) rfl rfl rfl ?_
    refine Ak_getI 13 0 hO clX3 (by decide) (Or.inl rfl) lkF_Match_9 (d_Match_step 6 10 (.getfield 9) 3 rfl) rfl ?_
    obtain ⟨hg19, h⟩ := gd_some h
    obtain ⟨r16, V17, h18, h⟩ := bnd_some h
    refine Ak_cV1 16 2 (c_Moves_countOf h18) rfl hg19 clX4 rfl mok_Moves_countOf lkM_Match_21 (d_Match_step 7 13 (.invokevirtual 21) 3 rfl) rfl (by decide) (Nat.le_of_ble_eq_true rfl) ?_
    refine Ak_goto 20 (d_Match_step 8 16 (.goto 4) 3 rfl) rfl ?_
    refine Ak_istore 22 (d_Match_step 10 20 (.istore 4) 2 rfl) rfl (by decide) ?_
    refine Ak_iconst 23 (d_Match_step 11 22 (.iconst 0) 1 rfl) rfl (rk rfl) ?_
    refine Ak_istore 25 (d_Match_step 12 23 (.istore 5) 2 rfl) rfl (by decide) ?_
    refine Ak_keep [true, true, true, true, true, true] ?_
    exact t_Match_step_L25 hO FU _ _ _ _ h
theorem t_Moves_addRule_J59 {S : ASh} {V : ASt} {x0 s0 s1 s2 : Int} {r : Int} {V' : ASt} (hO : isO S x0 4 = true) (h : b_Moves_addRule_J59 S  V x0 s0 s1 s2 = some (r, V')) : AWk m_Moves_addRule 4 0 0 0 0 59 [some (aR x0)] [(aI s2), (aI s1), (aR s0)] S V none S V' := by
  unfold b_Moves_addRule_J59 at h
  obtain ⟨ha1, h⟩ := gd_some h
  refine Ak_iastore 60 ha1 (d_Moves_addRule 30 59 (.iastore) 1 rfl) rfl (fun V2 hV2 => ?_)
  replace h := wV_some h V2 hV2
  refine Ak_aload_n 61 0 (d_Moves_addRule 31 60 (.aload_n 0) 1 rfl) rfl rfl rfl ?_
  refine Ak_dup 62 (d_Moves_addRule 32 61 (.dup) 1 rfl) rfl rfl ?_
  refine Ak_getI 65 14 hO clX4 (by decide) (Or.inl rfl) lkF_Moves_54 (d_Moves_addRule 33 62 (.getfield 54) 3 rfl) rfl ?_
  refine Ak_iconst 66 (d_Moves_addRule 34 65 (.iconst 1) 1 rfl) rfl (rk rfl) ?_
  refine Ak_iadd 67 (d_Moves_addRule 35 66 (.iadd) 1 rfl) rfl ?_
  refine Ak_putI 70 14 hO clX4 (by decide) rfl rfl rfl lkF_Moves_54 (d_Moves_addRule 36 67 (.putfield 54) 3 rfl) rfl (fun V3 hV3 => ?_)
  replace h := wV_some h V3 hV3
  refine Ak_goto 160 (d_Moves_addRule 37 70 (.goto 90) 3 rfl) rfl ?_
  cases h
  exact Ak_vret rfl (d_Moves_addRule 89 160 (.return_) 1 rfl)
theorem t_Moves_addRule_J21 {S : ASh} {V : ASt} {x0 x1 x2 : Int} {r : Int} {V' : ASt} (hO : isO S x0 4 = true) (h : b_Moves_addRule_J21 S  V x0 x1 x2 = some (r, V')) : AWk m_Moves_addRule 4 0 0 0 0 21 [some (aR x0), some (aI x1), some (aI x2)] [] S V none S V' := by
  unfold b_Moves_addRule_J21 at h
  refine Ak_aload_n 22 0 (d_Moves_addRule 10 21 (.aload_n 0) 1 rfl) rfl rfl rfl ?_
  refine Ak_getI 25 14 hO clX4 (by decide) (Or.inl rfl) lkF_Moves_54 (d_Moves_addRule 11 22 (.getfield 54) 3 rfl) rfl ?_
  refine Ak_bipush 27 (d_Moves_addRule 12 25 (.bipush 12) 2 rfl) rfl (bp_ok rfl) (rk rfl) ?_
  refine Ak_icmp_ge 160 30 (d_Moves_addRule 13 27 (.if_icmp .ge 133) 3 rfl) rfl rfl (fun hc => ?_) (fun hc => ?_)
  · replace h := it_t hc h
    cases h
    exact Ak_vret rfl (d_Moves_addRule 89 160 (.return_) 1 rfl)
  · replace h := it_f hc h
    refine Ak_aload_n 31 0 (d_Moves_addRule 14 30 (.aload_n 0) 1 rfl) rfl rfl rfl ?_
    refine Ak_getF 34 12 hO clX4 (by decide) rfl lkF_Moves_48 (d_Moves_addRule 15 31 (.getfield 48) 3 rfl) rfl ?_
    refine Ak_aload_n 35 0 (d_Moves_addRule 16 34 (.aload_n 0) 1 rfl) rfl rfl rfl ?_
    refine Ak_getI 38 14 hO clX4 (by decide) (Or.inl rfl) lkF_Moves_54 (d_Moves_addRule 17 35 (.getfield 54) 3 rfl) rfl ?_
    refine Ak_iload_n 39 1 (d_Moves_addRule 18 38 (.iload_n 1) 1 rfl) rfl rfl rfl ?_
    obtain ⟨ha4, h⟩ := gd_some h
    refine Ak_iastore 40 ha4 (d_Moves_addRule 19 39 (.iastore) 1 rfl) rfl (fun V5 hV5 => ?_)
    replace h := wV_some h V5 hV5
    refine Ak_aload_n 41 0 (d_Moves_addRule 20 40 (.aload_n 0) 1 rfl) rfl rfl rfl ?_
    refine Ak_getF 44 13 hO clX4 (by decide) rfl lkF_Moves_51 (d_Moves_addRule 21 41 (.getfield 51) 3 rfl) rfl ?_
    refine Ak_aload_n 45 0 (d_Moves_addRule 22 44 (.aload_n 0) 1 rfl) rfl rfl rfl ?_
    refine Ak_getI 48 14 hO clX4 (by decide) (Or.inl rfl) lkF_Moves_54 (d_Moves_addRule 23 45 (.getfield 54) 3 rfl) rfl ?_
    refine Ak_iload_n 49 2 (d_Moves_addRule 24 48 (.iload_n 2) 1 rfl) rfl rfl rfl ?_
    refine Ak_iconst 50 (d_Moves_addRule 25 49 (.iconst 2) 1 rfl) rfl (rk rfl) ?_
    refine Ak_icmp_ne 57 53 (d_Moves_addRule 26 50 (.if_icmp .ne 7) 3 rfl) rfl rfl (fun hc => ?_) (fun hc => ?_)
    · replace h := it_f hc h
      refine Ak_bipush 59 (d_Moves_addRule 29 57 (.bipush (-2)) 2 rfl) rfl (bp_ok rfl) (rk rfl) ?_
      refine Ak_keep [true] ?_
      exact t_Moves_addRule_J59 hO h
    · replace h := it_t hc h
      refine Ak_iconst 54 (d_Moves_addRule 27 53 (.iconst (-1)) 1 rfl) rfl (rk rfl) ?_
      refine Ak_goto 59 (d_Moves_addRule 28 54 (.goto 5) 3 rfl) rfl ?_
      refine Ak_keep [true] ?_
      exact t_Moves_addRule_J59 hO h
theorem t_Moves_addRule_J148 {S : ASh} {V : ASt} {x0 x4 s0 s1 s2 : Int} {r : Int} {V' : ASt} (hO : isO S x0 4 = true) (h : b_Moves_addRule_J148 S  V x0 x4 s0 s1 s2 = some (r, V')) : AWk m_Moves_addRule 4 0 0 0 0 148 [some (aR x0), none, none, none, some (aI x4)] [(aI s2), (aI s1), (aR s0)] S V none S V' := by
  unfold b_Moves_addRule_J148 at h
  obtain ⟨ha6, h⟩ := gd_some h
  obtain ⟨hb7, h⟩ := gd_some h
  refine Ak_bastore 149 ha6 (dec_t hb7) (d_Moves_addRule 80 148 (.bastore) 1 rfl) rfl (fun V8 hV8 => ?_)
  replace h := wV_some h V8 hV8
  refine Ak_aload_n 150 0 (d_Moves_addRule 81 149 (.aload_n 0) 1 rfl) rfl rfl rfl ?_
  refine Ak_getF 153 11 hO clX4 (by decide) rfl lkF_Moves_45 (d_Moves_addRule 82 150 (.getfield 45) 3 rfl) rfl ?_
  refine Ak_iload 155 (d_Moves_addRule 83 153 (.iload 4) 2 rfl) rfl rfl ?_
  refine Ak_dup2 156 (d_Moves_addRule 84 155 (.dup2) 1 rfl) rfl rfl rfl ?_
  obtain ⟨ha9, h⟩ := gd_some h
  refine Ak_iaload 157 ha9 (d_Moves_addRule 85 156 (.iaload) 1 rfl) rfl ?_
  refine Ak_iconst 158 (d_Moves_addRule 86 157 (.iconst 1) 1 rfl) rfl (rk rfl) ?_
  refine Ak_iadd 159 (d_Moves_addRule 87 158 (.iadd) 1 rfl) rfl ?_
  refine Ak_iastore 160 ha9 (d_Moves_addRule 88 159 (.iastore) 1 rfl) rfl (fun V10 hV10 => ?_)
  replace h := wV_some h V10 hV10
  cases h
  exact Ak_vret rfl (d_Moves_addRule 89 160 (.return_) 1 rfl)
theorem t_Moves_addRule_J132 {S : ASh} {V : ASt} {x0 x2 x4 x5 s0 s1 s2 : Int} {r : Int} {V' : ASt} (hO : isO S x0 4 = true) (h : b_Moves_addRule_J132 S  V x0 x2 x4 x5 s0 s1 s2 = some (r, V')) : AWk m_Moves_addRule 4 0 0 0 0 132 [some (aR x0), none, some (aI x2), none, some (aI x4), some (aI x5)] [(aI s2), (aI s1), (aR s0)] S V none S V' := by
  unfold b_Moves_addRule_J132 at h
  obtain ⟨ha11, h⟩ := gd_some h
  refine Ak_iastore 133 ha11 (d_Moves_addRule 71 132 (.iastore) 1 rfl) rfl (fun V12 hV12 => ?_)
  replace h := wV_some h V12 hV12
  refine Ak_aload_n 134 0 (d_Moves_addRule 72 133 (.aload_n 0) 1 rfl) rfl rfl rfl ?_
  refine Ak_getF 137 10 hO clX4 (by decide) rfl lkF_Moves_41 (d_Moves_addRule 73 134 (.getfield 41) 3 rfl) rfl ?_
  refine Ak_iload 139 (d_Moves_addRule 74 137 (.iload 5) 2 rfl) rfl rfl ?_
  refine Ak_iload_n 140 2 (d_Moves_addRule 75 139 (.iload_n 2) 1 rfl) rfl rfl rfl ?_
  refine Ak_if_ne 147 143 (d_Moves_addRule 76 140 (.ifCond .ne 7) 3 rfl) rfl rfl (fun hc => ?_) (fun hc => ?_)
  · replace h := it_f hc h
    refine Ak_iconst 148 (d_Moves_addRule 79 147 (.iconst 0) 1 rfl) rfl (rk rfl) ?_
    refine Ak_keep [true, false, false, false, true] ?_
    exact t_Moves_addRule_J148 hO h
  · replace h := it_t hc h
    refine Ak_iconst 144 (d_Moves_addRule 77 143 (.iconst 1) 1 rfl) rfl (rk rfl) ?_
    refine Ak_goto 148 (d_Moves_addRule 78 144 (.goto 4) 3 rfl) rfl ?_
    refine Ak_keep [true, false, false, false, true] ?_
    exact t_Moves_addRule_J148 hO h
theorem c_Moves_addRule {S : ASh} {V : ASt} {x0 x1 x2 x3 : Int} {r : Int} {V' : ASt} (h : f_Moves_addRule S V x0 x1 x2 x3 = some (r, V')) : ACt m_Moves_addRule 4 0 0 [(aR x0), (aI x1), (aI x2), (aI x3)] S V none S V' := by
  unfold f_Moves_addRule at h
  obtain ⟨hO, h⟩ := gd_some h
  refine ACt_of (plainFor_of_name rfl) rfl (Nat.le_of_ble_eq_true rfl) ?_
  show AWk m_Moves_addRule 4 0 0 0 0 0 [some (aR x0), some (aI x1), some (aI x2), some (aI x3)] [] S V none S V'
  refine Ak_aload_n 1 0 (d_Moves_addRule 0 0 (.aload_n 0) 1 rfl) rfl rfl rfl ?_
  refine Ak_getR 4 2 hO clX4 (by decide) rfl lkF_Moves_57 (d_Moves_addRule 1 1 (.getfield 57) 3 rfl) rfl ?_
  refine Ak_iload_n 5 1 (d_Moves_addRule 2 4 (.iload_n 1) 1 rfl) rfl rfl rfl ?_
  obtain ⟨hg16, h⟩ := gd_some h
  obtain ⟨r13, V14, h15, h⟩ := bnd_some h
  refine Ak_cV1 8 3 (c_Game_pieceOf h15) rfl hg16 clX1 rfl mok_Game_pieceOf lkM_Moves_91 (d_Moves_addRule 3 5 (.invokevirtual 91) 3 rfl) rfl (by decide) (Nat.le_of_ble_eq_true rfl) ?_
  refine Ak_istore 10 (d_Moves_addRule 4 8 (.istore 4) 2 rfl) rfl (by decide) ?_
  refine Ak_iload 12 (d_Moves_addRule 5 10 (.iload 4) 2 rfl) rfl rfl ?_
  refine Ak_if_lt 21 15 (d_Moves_addRule 6 12 (.ifCond .lt 9) 3 rfl) rfl rfl (fun hc => ?_) (fun hc => ?_)
  · replace h := it_t hc h
    refine Ak_keep [true, true, true] ?_
    exact t_Moves_addRule_J21 hO h
  · replace h := it_f hc h
    refine Ak_iload 17 (d_Moves_addRule 7 15 (.iload 4) 2 rfl) rfl rfl ?_
    refine Ak_iconst 18 (d_Moves_addRule 8 17 (.iconst 2) 1 rfl) rfl (rk rfl) ?_
    refine Ak_icmp_lt 73 21 (d_Moves_addRule 9 18 (.if_icmp .lt 55) 3 rfl) rfl rfl (fun hc => ?_) (fun hc => ?_)
    · replace h := it_t hc h
      refine Ak_aload_n 74 0 (d_Moves_addRule 38 73 (.aload_n 0) 1 rfl) rfl rfl rfl ?_
      refine Ak_getF 77 11 hO clX4 (by decide) rfl lkF_Moves_45 (d_Moves_addRule 39 74 (.getfield 45) 3 rfl) rfl ?_
      refine Ak_iload 79 (d_Moves_addRule 40 77 (.iload 4) 2 rfl) rfl rfl ?_
      obtain ⟨ha17, h⟩ := gd_some h
      refine Ak_iaload 80 ha17 (d_Moves_addRule 41 79 (.iaload) 1 rfl) rfl ?_
      refine Ak_bipush 82 (d_Moves_addRule 42 80 (.bipush 12) 2 rfl) rfl (bp_ok rfl) (rk rfl) ?_
      refine Ak_icmp_ge 160 85 (d_Moves_addRule 43 82 (.if_icmp .ge 78) 3 rfl) rfl rfl (fun hc => ?_) (fun hc => ?_)
      · replace h := it_t hc h
        cases h
        exact Ak_vret rfl (d_Moves_addRule 89 160 (.return_) 1 rfl)
      · replace h := it_f hc h
        refine Ak_iload 87 (d_Moves_addRule 44 85 (.iload 4) 2 rfl) rfl rfl ?_
        refine Ak_bipush 89 (d_Moves_addRule 45 87 (.bipush 12) 2 rfl) rfl (bp_ok rfl) (rk rfl) ?_
        refine Ak_imul 90 (d_Moves_addRule 46 89 (.imul) 1 rfl) rfl ?_
        refine Ak_aload_n 91 0 (d_Moves_addRule 47 90 (.aload_n 0) 1 rfl) rfl rfl rfl ?_
        refine Ak_getF 94 11 hO clX4 (by decide) rfl lkF_Moves_45 (d_Moves_addRule 48 91 (.getfield 45) 3 rfl) rfl ?_
        refine Ak_iload 96 (d_Moves_addRule 49 94 (.iload 4) 2 rfl) rfl rfl ?_
        refine Ak_iaload 97 ha17 (d_Moves_addRule 50 96 (.iaload) 1 rfl) rfl ?_
        refine Ak_iadd 98 (d_Moves_addRule 51 97 (.iadd) 1 rfl) rfl ?_
        refine Ak_istore 100 (d_Moves_addRule 52 98 (.istore 5) 2 rfl) rfl (by decide) ?_
        refine Ak_aload_n 101 0 (d_Moves_addRule 53 100 (.aload_n 0) 1 rfl) rfl rfl rfl ?_
        refine Ak_getF 104 8 hO clX4 (by decide) rfl lkF_Moves_35 (d_Moves_addRule 54 101 (.getfield 35) 3 rfl) rfl ?_
        refine Ak_iload 106 (d_Moves_addRule 55 104 (.iload 5) 2 rfl) rfl rfl ?_
        refine Ak_iload_n 107 1 (d_Moves_addRule 56 106 (.iload_n 1) 1 rfl) rfl rfl rfl ?_
        obtain ⟨ha18, h⟩ := gd_some h
        refine Ak_iastore 108 ha18 (d_Moves_addRule 57 107 (.iastore) 1 rfl) rfl (fun V19 hV19 => ?_)
        replace h := wV_some h V19 hV19
        refine Ak_aload_n 109 0 (d_Moves_addRule 58 108 (.aload_n 0) 1 rfl) rfl rfl rfl ?_
        refine Ak_getF 112 9 hO clX4 (by decide) rfl lkF_Moves_38 (d_Moves_addRule 59 109 (.getfield 38) 3 rfl) rfl ?_
        refine Ak_iload 114 (d_Moves_addRule 60 112 (.iload 5) 2 rfl) rfl rfl ?_
        refine Ak_aload_n 115 0 (d_Moves_addRule 61 114 (.aload_n 0) 1 rfl) rfl rfl rfl ?_
        refine Ak_getR 118 2 hO clX4 (by decide) rfl lkF_Moves_57 (d_Moves_addRule 62 115 (.getfield 57) 3 rfl) rfl ?_
        refine Ak_iload_n 119 1 (d_Moves_addRule 63 118 (.iload_n 1) 1 rfl) rfl rfl rfl ?_
        obtain ⟨hg23, h⟩ := gd_some h
        obtain ⟨r20, V21, h22, h⟩ := bnd_some h
        refine Ak_cV1 122 3 (c_Game_wayOf h22) rfl hg23 clX1 rfl mok_Game_wayOf lkM_Moves_96 (d_Moves_addRule 64 119 (.invokevirtual 96) 3 rfl) rfl (by decide) (Nat.le_of_ble_eq_true rfl) ?_
        refine Ak_iconst 123 (d_Moves_addRule 65 122 (.iconst 1) 1 rfl) rfl (rk rfl) ?_
        refine Ak_icmp_ne 131 126 (d_Moves_addRule 66 123 (.if_icmp .ne 8) 3 rfl) rfl rfl (fun hc => ?_) (fun hc => ?_)
        · replace h := it_f hc h
          refine Ak_iload_n 132 3 (d_Moves_addRule 70 131 (.iload_n 3) 1 rfl) rfl rfl rfl ?_
          refine Ak_keep [true, false, true, false, true, true] ?_
          exact t_Moves_addRule_J132 hO h
        · replace h := it_t hc h
          refine Ak_iload_n 127 3 (d_Moves_addRule 67 126 (.iload_n 3) 1 rfl) rfl rfl rfl ?_
          refine Ak_ineg 128 (d_Moves_addRule 68 127 (.ineg) 1 rfl) rfl ?_
          refine Ak_goto 132 (d_Moves_addRule 69 128 (.goto 4) 3 rfl) rfl ?_
          refine Ak_keep [true, false, true, false, true, true] ?_
          exact t_Moves_addRule_J132 hO h
    · replace h := it_f hc h
      refine Ak_keep [true, true, true] ?_
      exact t_Moves_addRule_J21 hO h
theorem t_Moves_prepare_L43 {S : ASh} {x0 x2 : Int} (hO : isO S x0 4 = true) : ∀ (n : Nat) (V : ASt) (x3 : Int) (r : Int) (V' : ASt), b_Moves_prepare_L43 S x0 x2 n V x3 = some (r, V') → AWk m_Moves_prepare 5 0 0 0 0 43 [some (aR x0), none, some (aR x2), some (aI x3)] [] S V none S V' := by
  intro n
  induction n with
  | zero => intro V x3 r V' h; cases h
  | succ n ih =>
    intro V x3 r V' h
    replace ih : ∀ {V : ASt} {x3 : Int} {r : Int} {V' : ASt}, b_Moves_prepare_L43 S x0 x2 n V x3 = some (r, V') → AWk m_Moves_prepare 5 0 0 0 0 43 [some (aR x0), none, some (aR x2), some (aI x3)] [] S V none S V' := fun h => ih _ _ _ _ h
    rw [b_Moves_prepare_L43] at h
    refine Ak_iload_n 44 3 (d_Moves_prepare 25 43 (.iload_n 3) 1 rfl) rfl rfl rfl ?_
    refine Ak_if_lt 84 47 (d_Moves_prepare 26 44 (.ifCond .lt 40) 3 rfl) rfl rfl (fun hc => ?_) (fun hc => ?_)
    · replace h := it_t hc h
      cases h
      exact Ak_vret rfl (d_Moves_prepare 46 84 (.return_) 1 rfl)
    · replace h := it_f hc h
      refine Ak_aload_n 48 2 (d_Moves_prepare 27 47 (.aload_n 2) 1 rfl) rfl rfl rfl ?_
      refine Ak_iload_n 49 3 (d_Moves_prepare 28 48 (.iload_n 3) 1 rfl) rfl rfl rfl ?_
      obtain ⟨hg4, h⟩ := gd_some h
      obtain ⟨r1, V2, h3, h⟩ := bnd_some h
      refine Ak_cV1 52 4 (c_Slate_isStruck h3) rfl hg4 clX6 rfl mok_Slate_isStruck lkM_Moves_72 (d_Moves_prepare 29 49 (.invokevirtual 72) 3 rfl) rfl (by decide) (Nat.le_of_ble_eq_true rfl) ?_
      refine Ak_if_ne 78 55 (d_Moves_prepare 30 52 (.ifCond .ne 26) 3 rfl) rfl rfl (fun hc => ?_) (fun hc => ?_)
      · replace h := it_f hc h
        refine Ak_iinc 81 (d_Moves_prepare 44 78 (.iinc 3 (-1)) 3 rfl) rfl rfl (by decide) ?_
        refine Ak_goto 43 (d_Moves_prepare 45 81 (.goto (-38)) 3 rfl) rfl ?_
        refine Ak_keep [true, false, true, true] ?_
        exact ih h
      · replace h := it_t hc h
        refine Ak_aload_n 56 0 (d_Moves_prepare 31 55 (.aload_n 0) 1 rfl) rfl rfl rfl ?_
        refine Ak_aload_n 57 2 (d_Moves_prepare 32 56 (.aload_n 2) 1 rfl) rfl rfl rfl ?_
        refine Ak_iload_n 58 3 (d_Moves_prepare 33 57 (.iload_n 3) 1 rfl) rfl rfl rfl ?_
        obtain ⟨r5, V6, h7, h⟩ := bnd_some h
        refine Ak_cV1 61 4 (c_Slate_ruleAt h7) rfl hg4 clX6 rfl mok_Slate_ruleAt lkM_Moves_76 (d_Moves_prepare 34 58 (.invokevirtual 76) 3 rfl) rfl (by decide) (Nat.le_of_ble_eq_true rfl) ?_
        refine Ak_aload_n 62 2 (d_Moves_prepare 35 61 (.aload_n 2) 1 rfl) rfl rfl rfl ?_
        refine Ak_iload_n 63 3 (d_Moves_prepare 36 62 (.iload_n 3) 1 rfl) rfl rfl rfl ?_
        refine Ak_aload_n 64 0 (d_Moves_prepare 37 63 (.aload_n 0) 1 rfl) rfl rfl rfl ?_
        refine Ak_getR 67 2 hO clX4 (by decide) rfl lkF_Moves_57 (d_Moves_prepare 38 64 (.getfield 57) 3 rfl) rfl ?_
        obtain ⟨r8, V9, h10, h⟩ := bnd_some h
        refine Ak_cV1 70 4 (c_Slate_kindAt h10) rfl hg4 clX6 rfl mok_Slate_kindAt lkM_Moves_80 (d_Moves_prepare 39 67 (.invokevirtual 80) 3 rfl) rfl (by decide) (Nat.le_of_ble_eq_true rfl) ?_
        refine Ak_aload_n 71 2 (d_Moves_prepare 40 70 (.aload_n 2) 1 rfl) rfl rfl rfl ?_
        refine Ak_iload_n 72 3 (d_Moves_prepare 41 71 (.iload_n 3) 1 rfl) rfl rfl rfl ?_
        obtain ⟨r11, V12, h13, h⟩ := bnd_some h
        refine Ak_cV1 75 4 (c_Slate_stepAt h13) rfl hg4 clX6 rfl mok_Slate_stepAt lkM_Moves_84 (d_Moves_prepare 42 72 (.invokevirtual 84) 3 rfl) rfl (by decide) (Nat.le_of_ble_eq_true rfl) ?_
        obtain ⟨r14, V15, h16, h⟩ := bnd_some h
        refine Ak_cV0 78 4 (c_Moves_addRule h16) rfl hO clX4 rfl mok_Moves_addRule lkM_Moves_87 (d_Moves_prepare 43 75 (.invokevirtual 87) 3 rfl) rfl (by decide) (Nat.le_of_ble_eq_true rfl) ?_
        refine Ak_iinc 81 (d_Moves_prepare 44 78 (.iinc 3 (-1)) 3 rfl) rfl rfl (by decide) ?_
        refine Ak_goto 43 (d_Moves_prepare 45 81 (.goto (-38)) 3 rfl) rfl ?_
        refine Ak_keep [true, false, true, true] ?_
        exact ih h
theorem c_Moves_prepare {S : ASh} {V : ASt} {x0 x1 x2 : Int} {r : Int} {V' : ASt} (h : f_Moves_prepare S V x0 x1 x2 = some (r, V')) : ACt m_Moves_prepare 5 0 0 [(aR x0), (aR x1), (aR x2)] S V none S V' := by
  unfold f_Moves_prepare at h
  obtain ⟨hO, h⟩ := gd_some h
  refine ACt_of (plainFor_of_name rfl) rfl (Nat.le_of_ble_eq_true rfl) ?_
  show AWk m_Moves_prepare 5 0 0 0 0 0 [some (aR x0), some (aR x1), some (aR x2)] [] S V none S V'
  refine Ak_aload_n 1 0 (d_Moves_prepare 0 0 (.aload_n 0) 1 rfl) rfl rfl rfl ?_
  refine Ak_aload_n 2 1 (d_Moves_prepare 1 1 (.aload_n 1) 1 rfl) rfl rfl rfl ?_
  refine Ak_putR 5 2 hO clX4 (by decide) rfl rfl (fun o => by cases o <;> exact ⟨rfl, rfl⟩) lkF_Moves_57 (d_Moves_prepare 2 2 (.putfield 57) 3 rfl) rfl (fun V17 hV17 => ?_)
  replace h := wV_some h V17 hV17
  refine Ak_aload_n 6 0 (d_Moves_prepare 3 5 (.aload_n 0) 1 rfl) rfl rfl rfl ?_
  refine Ak_iconst 7 (d_Moves_prepare 4 6 (.iconst 0) 1 rfl) rfl (rk rfl) ?_
  refine Ak_putZ 10 0 (Or.inl rfl) hO clX4 (by decide) rfl rfl rfl lkF_Moves_9 (d_Moves_prepare 5 7 (.putfield 9) 3 rfl) rfl (fun V18 hV18 => ?_)
  replace h := wV_some h V18 hV18
  refine Ak_aload_n 11 0 (d_Moves_prepare 6 10 (.aload_n 0) 1 rfl) rfl rfl rfl ?_
  refine Ak_iconst 12 (d_Moves_prepare 7 11 (.iconst 0) 1 rfl) rfl (rk rfl) ?_
  refine Ak_putI 15 1 hO clX4 (by decide) rfl rfl rfl lkF_Moves_15 (d_Moves_prepare 8 12 (.putfield 15) 3 rfl) rfl (fun V19 hV19 => ?_)
  replace h := wV_some h V19 hV19
  refine Ak_aload_n 16 0 (d_Moves_prepare 9 15 (.aload_n 0) 1 rfl) rfl rfl rfl ?_
  refine Ak_getF 19 5 hO clX4 (by decide) rfl lkF_Moves_26 (d_Moves_prepare 10 16 (.getfield 26) 3 rfl) rfl ?_
  refine Ak_iconst 20 (d_Moves_prepare 11 19 (.iconst 0) 1 rfl) rfl (rk rfl) ?_
  obtain ⟨r20, V21, h22, h⟩ := bnd_some h
  refine Ak_cS0 23 2 (c_Arrays_fill h22) rfl mok_Arrays_fill lkM_Moves_61 (d_Moves_prepare 12 20 (.invokestatic 61) 3 rfl) rfl (by decide) (Nat.le_of_ble_eq_true rfl) ?_
  refine Ak_aload_n 24 0 (d_Moves_prepare 13 23 (.aload_n 0) 1 rfl) rfl rfl rfl ?_
  refine Ak_getF 27 11 hO clX4 (by decide) rfl lkF_Moves_45 (d_Moves_prepare 14 24 (.getfield 45) 3 rfl) rfl ?_
  refine Ak_iconst 28 (d_Moves_prepare 15 27 (.iconst 0) 1 rfl) rfl (rk rfl) ?_
  obtain ⟨r23, V24, h25, h⟩ := bnd_some h
  refine Ak_cS0 31 2 (c_Arrays_fill h25) rfl mok_Arrays_fill lkM_Moves_61 (d_Moves_prepare 16 28 (.invokestatic 61) 3 rfl) rfl (by decide) (Nat.le_of_ble_eq_true rfl) ?_
  refine Ak_aload_n 32 0 (d_Moves_prepare 17 31 (.aload_n 0) 1 rfl) rfl rfl rfl ?_
  refine Ak_iconst 33 (d_Moves_prepare 18 32 (.iconst 0) 1 rfl) rfl (rk rfl) ?_
  refine Ak_putI 36 14 hO clX4 (by decide) rfl rfl rfl lkF_Moves_54 (d_Moves_prepare 19 33 (.putfield 54) 3 rfl) rfl (fun V26 hV26 => ?_)
  replace h := wV_some h V26 hV26
  refine Ak_aload_n 37 2 (d_Moves_prepare 20 36 (.aload_n 2) 1 rfl) rfl rfl rfl ?_
  obtain ⟨hg27, h⟩ := gd_some h
  refine Ak_getI 40 0 hg27 clX6 (by decide) (Or.inl rfl) lkF_Moves_67 (d_Moves_prepare 21 37 (.getfield 67) 3 rfl) rfl ?_
  refine Ak_iconst 41 (d_Moves_prepare 22 40 (.iconst 1) 1 rfl) rfl (rk rfl) ?_
  refine Ak_isub 42 (d_Moves_prepare 23 41 (.isub) 1 rfl) rfl ?_
  refine Ak_istore_n 43 3 (d_Moves_prepare 24 42 (.istore_n 3) 1 rfl) rfl rfl (by decide) ?_
  refine Ak_keep [true, false, true, true] ?_
  exact t_Moves_prepare_L43 hO FU _ _ _ _ h
theorem c_Moves_listedAt {S : ASh} {V : ASt} {x0 x1 : Int} {r : Int} {V' : ASt} (h : f_Moves_listedAt S V x0 x1 = some (r, V')) : ACt m_Moves_listedAt 2 0 0 [(aR x0), (aI x1)] S V (some (aI r)) S V' := by
  unfold f_Moves_listedAt at h
  obtain ⟨hO, h⟩ := gd_some h
  refine ACt_of (plainFor_of_name rfl) rfl (Nat.le_of_ble_eq_true rfl) ?_
  show AWk m_Moves_listedAt 2 0 0 0 0 0 [some (aR x0), some (aI x1)] [] S V (some (aI r)) S V'
  refine Ak_iload_n 1 1 (d_Moves_listedAt 0 0 (.iload_n 1) 1 rfl) rfl rfl rfl ?_
  refine Ak_if_lt 21 4 (d_Moves_listedAt 1 1 (.ifCond .lt 20) 3 rfl) rfl rfl (fun hc => ?_) (fun hc => ?_)
  · replace h := it_t hc h
    refine Ak_iconst 22 (d_Moves_listedAt 11 21 (.iconst 0) 1 rfl) rfl (rk rfl) ?_
    cases h
    exact Ak_iret rfl (d_Moves_listedAt 12 22 (.ireturn) 1 rfl)
  · replace h := it_f hc h
    refine Ak_iload_n 5 1 (d_Moves_listedAt 2 4 (.iload_n 1) 1 rfl) rfl rfl rfl ?_
    refine Ak_aload_n 6 0 (d_Moves_listedAt 3 5 (.aload_n 0) 1 rfl) rfl rfl rfl ?_
    refine Ak_getI 9 1 hO clX4 (by decide) (Or.inl rfl) lkF_Moves_15 (d_Moves_listedAt 4 6 (.getfield 15) 3 rfl) rfl ?_
    refine Ak_icmp_ge 21 12 (d_Moves_listedAt 5 9 (.if_icmp .ge 12) 3 rfl) rfl rfl (fun hc => ?_) (fun hc => ?_)
    · replace h := it_t hc h
      refine Ak_iconst 22 (d_Moves_listedAt 11 21 (.iconst 0) 1 rfl) rfl (rk rfl) ?_
      cases h
      exact Ak_iret rfl (d_Moves_listedAt 12 22 (.ireturn) 1 rfl)
    · replace h := it_f hc h
      refine Ak_aload_n 13 0 (d_Moves_listedAt 6 12 (.aload_n 0) 1 rfl) rfl rfl rfl ?_
      refine Ak_getF 16 3 hO clX4 (by decide) rfl lkF_Moves_19 (d_Moves_listedAt 7 13 (.getfield 19) 3 rfl) rfl ?_
      refine Ak_iload_n 17 1 (d_Moves_listedAt 8 16 (.iload_n 1) 1 rfl) rfl rfl rfl ?_
      obtain ⟨ha1, h⟩ := gd_some h
      refine Ak_iaload 18 ha1 (d_Moves_listedAt 9 17 (.iaload) 1 rfl) rfl ?_
      refine Ak_goto 22 (d_Moves_listedAt 10 18 (.goto 4) 3 rfl) rfl ?_
      cases h
      exact Ak_iret rfl (d_Moves_listedAt 12 22 (.ireturn) 1 rfl)
theorem c_Moves_clearList {S : ASh} {V : ASt} {x0 : Int} {r : Int} {V' : ASt} (h : f_Moves_clearList S V x0 = some (r, V')) : ACt m_Moves_clearList 3 0 0 [(aR x0)] S V none S V' := by
  unfold f_Moves_clearList at h
  obtain ⟨hO, h⟩ := gd_some h
  refine ACt_of (plainFor_of_name rfl) rfl (Nat.le_of_ble_eq_true rfl) ?_
  show AWk m_Moves_clearList 3 0 0 0 0 0 [some (aR x0)] [] S V none S V'
  refine Ak_aload_n 1 0 (d_Moves_clearList 0 0 (.aload_n 0) 1 rfl) rfl rfl rfl ?_
  refine Ak_iconst 2 (d_Moves_clearList 1 1 (.iconst 0) 1 rfl) rfl (rk rfl) ?_
  refine Ak_putI 5 1 hO clX4 (by decide) rfl rfl rfl lkF_Moves_15 (d_Moves_clearList 2 2 (.putfield 15) 3 rfl) rfl (fun V1 hV1 => ?_)
  replace h := wV_some h V1 hV1
  refine Ak_aload_n 6 0 (d_Moves_clearList 3 5 (.aload_n 0) 1 rfl) rfl rfl rfl ?_
  refine Ak_getF 9 4 hO clX4 (by decide) rfl lkF_Moves_23 (d_Moves_clearList 4 6 (.getfield 23) 3 rfl) rfl ?_
  refine Ak_iconst 10 (d_Moves_clearList 5 9 (.iconst 0) 1 rfl) rfl (rk rfl) ?_
  obtain ⟨r2, V3, h4, h⟩ := bnd_some h
  refine Ak_cS0 13 2 (c_Arrays_fill h4) rfl mok_Arrays_fill lkM_Moves_61 (d_Moves_clearList 6 10 (.invokestatic 61) 3 rfl) rfl (by decide) (Nat.le_of_ble_eq_true rfl) ?_
  cases h
  exact Ak_vret rfl (d_Moves_clearList 7 13 (.return_) 1 rfl)
theorem c_Moves_enlist {S : ASh} {V : ASt} {x0 x1 : Int} {r : Int} {V' : ASt} (h : f_Moves_enlist S V x0 x1 = some (r, V')) : ACt m_Moves_enlist 2 0 0 [(aR x0), (aI x1)] S V none S V' := by
  unfold f_Moves_enlist at h
  obtain ⟨hO, h⟩ := gd_some h
  refine ACt_of (plainFor_of_name rfl) rfl (Nat.le_of_ble_eq_true rfl) ?_
  show AWk m_Moves_enlist 2 0 0 0 0 0 [some (aR x0), some (aI x1)] [] S V none S V'
  refine Ak_iload_n 1 1 (d_Moves_enlist 0 0 (.iload_n 1) 1 rfl) rfl rfl rfl ?_
  refine Ak_if_lt 47 4 (d_Moves_enlist 1 1 (.ifCond .lt 46) 3 rfl) rfl rfl (fun hc => ?_) (fun hc => ?_)
  · replace h := it_t hc h
    cases h
    exact Ak_vret rfl (d_Moves_enlist 27 47 (.return_) 1 rfl)
  · replace h := it_f hc h
    refine Ak_iload_n 5 1 (d_Moves_enlist 2 4 (.iload_n 1) 1 rfl) rfl rfl rfl ?_
    refine Ak_sipush 8 (d_Moves_enlist 3 5 (.sipush 200) 3 rfl) rfl (sp_ok rfl) (rk rfl) ?_
    refine Ak_icmp_ge 47 11 (d_Moves_enlist 4 8 (.if_icmp .ge 39) 3 rfl) rfl rfl (fun hc => ?_) (fun hc => ?_)
    · replace h := it_t hc h
      cases h
      exact Ak_vret rfl (d_Moves_enlist 27 47 (.return_) 1 rfl)
    · replace h := it_f hc h
      refine Ak_aload_n 12 0 (d_Moves_enlist 5 11 (.aload_n 0) 1 rfl) rfl rfl rfl ?_
      refine Ak_getF 15 4 hO clX4 (by decide) rfl lkF_Moves_23 (d_Moves_enlist 6 12 (.getfield 23) 3 rfl) rfl ?_
      refine Ak_iload_n 16 1 (d_Moves_enlist 7 15 (.iload_n 1) 1 rfl) rfl rfl rfl ?_
      obtain ⟨ha1, h⟩ := gd_some h
      refine Ak_iaload 17 ha1 (d_Moves_enlist 8 16 (.iaload) 1 rfl) rfl ?_
      refine Ak_if_ne 47 20 (d_Moves_enlist 9 17 (.ifCond .ne 30) 3 rfl) rfl rfl (fun hc => ?_) (fun hc => ?_)
      · replace h := it_f hc h
        cases h
        exact Ak_vret rfl (d_Moves_enlist 27 47 (.return_) 1 rfl)
      · replace h := it_t hc h
        refine Ak_aload_n 21 0 (d_Moves_enlist 10 20 (.aload_n 0) 1 rfl) rfl rfl rfl ?_
        refine Ak_getF 24 4 hO clX4 (by decide) rfl lkF_Moves_23 (d_Moves_enlist 11 21 (.getfield 23) 3 rfl) rfl ?_
        refine Ak_iload_n 25 1 (d_Moves_enlist 12 24 (.iload_n 1) 1 rfl) rfl rfl rfl ?_
        refine Ak_iconst 26 (d_Moves_enlist 13 25 (.iconst 1) 1 rfl) rfl (rk rfl) ?_
        refine Ak_iastore 27 ha1 (d_Moves_enlist 14 26 (.iastore) 1 rfl) rfl (fun V2 hV2 => ?_)
        replace h := wV_some h V2 hV2
        refine Ak_aload_n 28 0 (d_Moves_enlist 15 27 (.aload_n 0) 1 rfl) rfl rfl rfl ?_
        refine Ak_getF 31 3 hO clX4 (by decide) rfl lkF_Moves_19 (d_Moves_enlist 16 28 (.getfield 19) 3 rfl) rfl ?_
        refine Ak_aload_n 32 0 (d_Moves_enlist 17 31 (.aload_n 0) 1 rfl) rfl rfl rfl ?_
        refine Ak_getI 35 1 hO clX4 (by decide) (Or.inl rfl) lkF_Moves_15 (d_Moves_enlist 18 32 (.getfield 15) 3 rfl) rfl ?_
        refine Ak_iload_n 36 1 (d_Moves_enlist 19 35 (.iload_n 1) 1 rfl) rfl rfl rfl ?_
        obtain ⟨ha3, h⟩ := gd_some h
        refine Ak_iastore 37 ha3 (d_Moves_enlist 20 36 (.iastore) 1 rfl) rfl (fun V4 hV4 => ?_)
        replace h := wV_some h V4 hV4
        refine Ak_aload_n 38 0 (d_Moves_enlist 21 37 (.aload_n 0) 1 rfl) rfl rfl rfl ?_
        refine Ak_dup 39 (d_Moves_enlist 22 38 (.dup) 1 rfl) rfl rfl ?_
        refine Ak_getI 42 1 hO clX4 (by decide) (Or.inl rfl) lkF_Moves_15 (d_Moves_enlist 23 39 (.getfield 15) 3 rfl) rfl ?_
        refine Ak_iconst 43 (d_Moves_enlist 24 42 (.iconst 1) 1 rfl) rfl (rk rfl) ?_
        refine Ak_iadd 44 (d_Moves_enlist 25 43 (.iadd) 1 rfl) rfl ?_
        refine Ak_putI 47 1 hO clX4 (by decide) rfl rfl rfl lkF_Moves_15 (d_Moves_enlist 26 44 (.putfield 15) 3 rfl) rfl (fun V5 hV5 => ?_)
        replace h := wV_some h V5 hV5
        cases h
        exact Ak_vret rfl (d_Moves_enlist 27 47 (.return_) 1 rfl)
theorem t_Moves_listAll_L6 {S : ASh} {x0 : Int} (hO : isO S x0 4 = true) : ∀ (n : Nat) (V : ASt) (x1 : Int) (r : Int) (V' : ASt), b_Moves_listAll_L6 S x0 n V x1 = some (r, V') → AWk m_Moves_listAll 4 0 0 0 0 6 [some (aR x0), some (aI x1)] [] S V none S V' := by
  intro n
  induction n with
  | zero => intro V x1 r V' h; cases h
  | succ n ih =>
    intro V x1 r V' h
    replace ih : ∀ {V : ASt} {x1 : Int} {r : Int} {V' : ASt}, b_Moves_listAll_L6 S x0 n V x1 = some (r, V') → AWk m_Moves_listAll 4 0 0 0 0 6 [some (aR x0), some (aI x1)] [] S V none S V' := fun h => ih _ _ _ _ h
    rw [b_Moves_listAll_L6] at h
    refine Ak_iload_n 7 1 (d_Moves_listAll 4 6 (.iload_n 1) 1 rfl) rfl rfl rfl ?_
    refine Ak_aload_n 8 0 (d_Moves_listAll 5 7 (.aload_n 0) 1 rfl) rfl rfl rfl ?_
    refine Ak_getR 11 2 hO clX4 (by decide) rfl lkF_Moves_57 (d_Moves_listAll 6 8 (.getfield 57) 3 rfl) rfl ?_
    obtain ⟨hg1, h⟩ := gd_some h
    refine Ak_getI 14 3 hg1 clX1 (by decide) (Or.inl rfl) lkF_Moves_109 (d_Moves_listAll 7 11 (.getfield 109) 3 rfl) rfl ?_
    refine Ak_icmp_ge 28 17 (d_Moves_listAll 8 14 (.if_icmp .ge 14) 3 rfl) rfl rfl (fun hc => ?_) (fun hc => ?_)
    · replace h := it_t hc h
      cases h
      exact Ak_vret rfl (d_Moves_listAll 14 28 (.return_) 1 rfl)
    · replace h := it_f hc h
      refine Ak_aload_n 18 0 (d_Moves_listAll 9 17 (.aload_n 0) 1 rfl) rfl rfl rfl ?_
      refine Ak_iload_n 19 1 (d_Moves_listAll 10 18 (.iload_n 1) 1 rfl) rfl rfl rfl ?_
      obtain ⟨r2, V3, h4, h⟩ := bnd_some h
      refine Ak_cV0 22 2 (c_Moves_enlist h4) rfl hO clX4 rfl mok_Moves_enlist lkM_Moves_112 (d_Moves_listAll 11 19 (.invokevirtual 112) 3 rfl) rfl (by decide) (Nat.le_of_ble_eq_true rfl) ?_
      refine Ak_iinc 25 (d_Moves_listAll 12 22 (.iinc 1 1) 3 rfl) rfl rfl (by decide) ?_
      refine Ak_goto 6 (d_Moves_listAll 13 25 (.goto (-19)) 3 rfl) rfl ?_
      refine Ak_keep [true, true] ?_
      exact ih h
theorem c_Moves_listAll {S : ASh} {V : ASt} {x0 : Int} {r : Int} {V' : ASt} (h : f_Moves_listAll S V x0 = some (r, V')) : ACt m_Moves_listAll 4 0 0 [(aR x0)] S V none S V' := by
  unfold f_Moves_listAll at h
  obtain ⟨hO, h⟩ := gd_some h
  refine ACt_of (plainFor_of_name rfl) rfl (Nat.le_of_ble_eq_true rfl) ?_
  show AWk m_Moves_listAll 4 0 0 0 0 0 [some (aR x0)] [] S V none S V'
  refine Ak_aload_n 1 0 (d_Moves_listAll 0 0 (.aload_n 0) 1 rfl) rfl rfl rfl ?_
  obtain ⟨r5, V6, h7, h⟩ := bnd_some h
  refine Ak_cV0 4 3 (c_Moves_clearList h7) rfl hO clX4 rfl mok_Moves_clearList lkM_Moves_106 (d_Moves_listAll 1 1 (.invokevirtual 106) 3 rfl) rfl (by decide) (Nat.le_of_ble_eq_true rfl) ?_
  refine Ak_iconst 5 (d_Moves_listAll 2 4 (.iconst 0) 1 rfl) rfl (rk rfl) ?_
  refine Ak_istore_n 6 1 (d_Moves_listAll 3 5 (.istore_n 1) 1 rfl) rfl rfl (by decide) ?_
  refine Ak_keep [true, true] ?_
  exact t_Moves_listAll_L6 hO FU _ _ _ _ h
theorem t_Moves_enlistNextsOf_L2 {S : ASh} {x0 x1 : Int} (hO : isO S x0 4 = true) : ∀ (n : Nat) (V : ASt) (x2 : Int) (r : Int) (V' : ASt), b_Moves_enlistNextsOf_L2 S x0 x1 n V x2 = some (r, V') → AWk m_Moves_enlistNextsOf 3 0 0 0 0 2 [some (aR x0), some (aI x1), some (aI x2)] [] S V none S V' := by
  intro n
  induction n with
  | zero => intro V x2 r V' h; cases h
  | succ n ih =>
    intro V x2 r V' h
    replace ih : ∀ {V : ASt} {x2 : Int} {r : Int} {V' : ASt}, b_Moves_enlistNextsOf_L2 S x0 x1 n V x2 = some (r, V') → AWk m_Moves_enlistNextsOf 3 0 0 0 0 2 [some (aR x0), some (aI x1), some (aI x2)] [] S V none S V' := fun h => ih _ _ _ _ h
    rw [b_Moves_enlistNextsOf_L2] at h
    refine Ak_iload_n 3 2 (d_Moves_enlistNextsOf 2 2 (.iload_n 2) 1 rfl) rfl rfl rfl ?_
    refine Ak_aload_n 4 0 (d_Moves_enlistNextsOf 3 3 (.aload_n 0) 1 rfl) rfl rfl rfl ?_
    refine Ak_getF 7 5 hO clX4 (by decide) rfl lkF_Moves_26 (d_Moves_enlistNextsOf 4 4 (.getfield 26) 3 rfl) rfl ?_
    refine Ak_iload_n 8 1 (d_Moves_enlistNextsOf 5 7 (.iload_n 1) 1 rfl) rfl rfl rfl ?_
    obtain ⟨ha1, h⟩ := gd_some h
    refine Ak_iaload 9 ha1 (d_Moves_enlistNextsOf 6 8 (.iaload) 1 rfl) rfl ?_
    refine Ak_icmp_ge 33 12 (d_Moves_enlistNextsOf 7 9 (.if_icmp .ge 24) 3 rfl) rfl rfl (fun hc => ?_) (fun hc => ?_)
    · replace h := it_t hc h
      cases h
      exact Ak_vret rfl (d_Moves_enlistNextsOf 20 33 (.return_) 1 rfl)
    · replace h := it_f hc h
      refine Ak_aload_n 13 0 (d_Moves_enlistNextsOf 8 12 (.aload_n 0) 1 rfl) rfl rfl rfl ?_
      refine Ak_aload_n 14 0 (d_Moves_enlistNextsOf 9 13 (.aload_n 0) 1 rfl) rfl rfl rfl ?_
      refine Ak_getF 17 7 hO clX4 (by decide) rfl lkF_Moves_32 (d_Moves_enlistNextsOf 10 14 (.getfield 32) 3 rfl) rfl ?_
      refine Ak_iload_n 18 1 (d_Moves_enlistNextsOf 11 17 (.iload_n 1) 1 rfl) rfl rfl rfl ?_
      refine Ak_bipush 20 (d_Moves_enlistNextsOf 12 18 (.bipush 12) 2 rfl) rfl (bp_ok rfl) (rk rfl) ?_
      refine Ak_imul 21 (d_Moves_enlistNextsOf 13 20 (.imul) 1 rfl) rfl ?_
      refine Ak_iload_n 22 2 (d_Moves_enlistNextsOf 14 21 (.iload_n 2) 1 rfl) rfl rfl rfl ?_
      refine Ak_iadd 23 (d_Moves_enlistNextsOf 15 22 (.iadd) 1 rfl) rfl ?_
      obtain ⟨ha2, h⟩ := gd_some h
      refine Ak_iaload 24 ha2 (d_Moves_enlistNextsOf 16 23 (.iaload) 1 rfl) rfl ?_
      obtain ⟨r3, V4, h5, h⟩ := bnd_some h
      refine Ak_cV0 27 2 (c_Moves_enlist h5) rfl hO clX4 rfl mok_Moves_enlist lkM_Moves_112 (d_Moves_enlistNextsOf 17 24 (.invokevirtual 112) 3 rfl) rfl (by decide) (Nat.le_of_ble_eq_true rfl) ?_
      refine Ak_iinc 30 (d_Moves_enlistNextsOf 18 27 (.iinc 2 1) 3 rfl) rfl rfl (by decide) ?_
      refine Ak_goto 2 (d_Moves_enlistNextsOf 19 30 (.goto (-28)) 3 rfl) rfl ?_
      refine Ak_keep [true, true, true] ?_
      exact ih h
theorem c_Moves_enlistNextsOf {S : ASh} {V : ASt} {x0 x1 : Int} {r : Int} {V' : ASt} (h : f_Moves_enlistNextsOf S V x0 x1 = some (r, V')) : ACt m_Moves_enlistNextsOf 3 0 0 [(aR x0), (aI x1)] S V none S V' := by
  unfold f_Moves_enlistNextsOf at h
  obtain ⟨hO, h⟩ := gd_some h
  refine ACt_of (plainFor_of_name rfl) rfl (Nat.le_of_ble_eq_true rfl) ?_
  show AWk m_Moves_enlistNextsOf 3 0 0 0 0 0 [some (aR x0), some (aI x1)] [] S V none S V'
  refine Ak_iconst 1 (d_Moves_enlistNextsOf 0 0 (.iconst 0) 1 rfl) rfl (rk rfl) ?_
  refine Ak_istore_n 2 2 (d_Moves_enlistNextsOf 1 1 (.istore_n 2) 1 rfl) rfl rfl (by decide) ?_
  refine Ak_keep [true, true, true] ?_
  exact t_Moves_enlistNextsOf_L2 hO FU _ _ _ _ h
theorem t_Moves_listFrom_L11 {S : ASh} {x0 : Int} (hO : isO S x0 4 = true) : ∀ (n : Nat) (V : ASt) (x2 : Int) (r : Int) (V' : ASt), b_Moves_listFrom_L11 S x0 n V x2 = some (r, V') → AWk m_Moves_listFrom 4 0 0 0 0 11 [some (aR x0), none, some (aI x2)] [] S V none S V' := by
  intro n
  induction n with
  | zero => intro V x2 r V' h; cases h
  | succ n ih =>
    intro V x2 r V' h
    replace ih : ∀ {V : ASt} {x2 : Int} {r : Int} {V' : ASt}, b_Moves_listFrom_L11 S x0 n V x2 = some (r, V') → AWk m_Moves_listFrom 4 0 0 0 0 11 [some (aR x0), none, some (aI x2)] [] S V none S V' := fun h => ih _ _ _ _ h
    rw [b_Moves_listFrom_L11] at h
    refine Ak_iload_n 12 2 (d_Moves_listFrom 7 11 (.iload_n 2) 1 rfl) rfl rfl rfl ?_
    refine Ak_aload_n 13 0 (d_Moves_listFrom 8 12 (.aload_n 0) 1 rfl) rfl rfl rfl ?_
    refine Ak_getI 16 1 hO clX4 (by decide) (Or.inl rfl) lkF_Moves_15 (d_Moves_listFrom 9 13 (.getfield 15) 3 rfl) rfl ?_
    refine Ak_icmp_ge 42 19 (d_Moves_listFrom 10 16 (.if_icmp .ge 26) 3 rfl) rfl rfl (fun hc => ?_) (fun hc => ?_)
    · replace h := it_t hc h
      cases h
      exact Ak_vret rfl (d_Moves_listFrom 22 42 (.return_) 1 rfl)
    · replace h := it_f hc h
      refine Ak_iload_n 20 2 (d_Moves_listFrom 11 19 (.iload_n 2) 1 rfl) rfl rfl rfl ?_
      refine Ak_sipush 23 (d_Moves_listFrom 12 20 (.sipush 200) 3 rfl) rfl (sp_ok rfl) (rk rfl) ?_
      refine Ak_icmp_ge 42 26 (d_Moves_listFrom 13 23 (.if_icmp .ge 19) 3 rfl) rfl rfl (fun hc => ?_) (fun hc => ?_)
      · replace h := it_t hc h
        cases h
        exact Ak_vret rfl (d_Moves_listFrom 22 42 (.return_) 1 rfl)
      · replace h := it_f hc h
        refine Ak_aload_n 27 0 (d_Moves_listFrom 14 26 (.aload_n 0) 1 rfl) rfl rfl rfl ?_
        refine Ak_aload_n 28 0 (d_Moves_listFrom 15 27 (.aload_n 0) 1 rfl) rfl rfl rfl ?_
        refine Ak_getF 31 3 hO clX4 (by decide) rfl lkF_Moves_19 (d_Moves_listFrom 16 28 (.getfield 19) 3 rfl) rfl ?_
        refine Ak_iload_n 32 2 (d_Moves_listFrom 17 31 (.iload_n 2) 1 rfl) rfl rfl rfl ?_
        obtain ⟨ha1, h⟩ := gd_some h
        refine Ak_iaload 33 ha1 (d_Moves_listFrom 18 32 (.iaload) 1 rfl) rfl ?_
        obtain ⟨r2, V3, h4, h⟩ := bnd_some h
        refine Ak_cV0 36 3 (c_Moves_enlistNextsOf h4) rfl hO clX4 rfl mok_Moves_enlistNextsOf lkM_Moves_116 (d_Moves_listFrom 19 33 (.invokevirtual 116) 3 rfl) rfl (by decide) (Nat.le_of_ble_eq_true rfl) ?_
        refine Ak_iinc 39 (d_Moves_listFrom 20 36 (.iinc 2 1) 3 rfl) rfl rfl (by decide) ?_
        refine Ak_goto 11 (d_Moves_listFrom 21 39 (.goto (-28)) 3 rfl) rfl ?_
        refine Ak_keep [true, false, true] ?_
        exact ih h
theorem c_Moves_listFrom {S : ASh} {V : ASt} {x0 x1 : Int} {r : Int} {V' : ASt} (h : f_Moves_listFrom S V x0 x1 = some (r, V')) : ACt m_Moves_listFrom 4 0 0 [(aR x0), (aI x1)] S V none S V' := by
  unfold f_Moves_listFrom at h
  obtain ⟨hO, h⟩ := gd_some h
  refine ACt_of (plainFor_of_name rfl) rfl (Nat.le_of_ble_eq_true rfl) ?_
  show AWk m_Moves_listFrom 4 0 0 0 0 0 [some (aR x0), some (aI x1)] [] S V none S V'
  refine Ak_aload_n 1 0 (d_Moves_listFrom 0 0 (.aload_n 0) 1 rfl) rfl rfl rfl ?_
  obtain ⟨r5, V6, h7, h⟩ := bnd_some h
  refine Ak_cV0 4 3 (c_Moves_clearList h7) rfl hO clX4 rfl mok_Moves_clearList lkM_Moves_106 (d_Moves_listFrom 1 1 (.invokevirtual 106) 3 rfl) rfl (by decide) (Nat.le_of_ble_eq_true rfl) ?_
  refine Ak_aload_n 5 0 (d_Moves_listFrom 2 4 (.aload_n 0) 1 rfl) rfl rfl rfl ?_
  refine Ak_iload_n 6 1 (d_Moves_listFrom 3 5 (.iload_n 1) 1 rfl) rfl rfl rfl ?_
  obtain ⟨r8, V9, h10, h⟩ := bnd_some h
  refine Ak_cV0 9 2 (c_Moves_enlist h10) rfl hO clX4 rfl mok_Moves_enlist lkM_Moves_112 (d_Moves_listFrom 4 6 (.invokevirtual 112) 3 rfl) rfl (by decide) (Nat.le_of_ble_eq_true rfl) ?_
  refine Ak_iconst 10 (d_Moves_listFrom 5 9 (.iconst 0) 1 rfl) rfl (rk rfl) ?_
  refine Ak_istore_n 11 2 (d_Moves_listFrom 6 10 (.istore_n 2) 1 rfl) rfl rfl (by decide) ?_
  refine Ak_keep [true, false, true] ?_
  exact t_Moves_listFrom_L11 hO FU _ _ _ _ h
theorem t_Moves_layPiece_J103 {S : ASh} {K28 : ASt → Int → Int → Int → Option (Int × ASt)} {V : ASt} {x0 x1 x2 x3 x4 x5 x6 x7 s0 : Int} {r : Int} {V' : ASt} (hO : isO S x0 4 = true) (hK28 : ∀ {V : ASt} {y4 y5 y6 : Int} {r : Int} {V' : ASt}, K28 V y4 y5 y6 = some (r, V') → AWk m_Moves_layPiece 6 0 0 0 0 28 [some (aR x0), some (aI x1), some (aI x2), some (aI x3), some (aI y4), some (aI y5), some (aI y6)] [] S V none S V') (h : b_Moves_layPiece_J103 S K28 V x0 x1 x2 x3 x4 x5 x6 x7 s0 = some (r, V')) : AWk m_Moves_layPiece 6 0 0 0 0 103 [some (aR x0), some (aI x1), some (aI x2), some (aI x3), some (aI x4), some (aI x5), some (aI x6), some (aI x7)] [(aI s0)] S V none S V' := by
  unfold b_Moves_layPiece_J103 at h
  refine Ak_istore 105 (d_Moves_layPiece 59 103 (.istore 8) 2 rfl) rfl (by decide) ?_
  refine Ak_iload 107 (d_Moves_layPiece 60 105 (.iload 8) 2 rfl) rfl rfl ?_
  refine Ak_if_eq 163 110 (d_Moves_layPiece 61 107 (.ifCond .eq 56) 3 rfl) rfl rfl (fun hc => ?_) (fun hc => ?_)
  · replace h := it_t hc h
    refine Ak_iinc 166 (d_Moves_layPiece 92 163 (.iinc 6 1) 3 rfl) rfl rfl (by decide) ?_
    refine Ak_goto 28 (d_Moves_layPiece 93 166 (.goto (-138)) 3 rfl) rfl ?_
    refine Ak_keep [true, true, true, true, true, true, true] ?_
    exact hK28 h
  · replace h := it_f hc h
    refine Ak_aload_n 111 0 (d_Moves_layPiece 62 110 (.aload_n 0) 1 rfl) rfl rfl rfl ?_
    refine Ak_getR 114 2 hO clX4 (by decide) rfl lkF_Moves_57 (d_Moves_layPiece 63 111 (.getfield 57) 3 rfl) rfl ?_
    refine Ak_aload_n 115 0 (d_Moves_layPiece 64 114 (.aload_n 0) 1 rfl) rfl rfl rfl ?_
    refine Ak_getF 118 8 hO clX4 (by decide) rfl lkF_Moves_35 (d_Moves_layPiece 65 115 (.getfield 35) 3 rfl) rfl ?_
    refine Ak_iload 120 (d_Moves_layPiece 66 118 (.iload 6) 2 rfl) rfl rfl ?_
    obtain ⟨ha1, h⟩ := gd_some h
    refine Ak_iaload 121 ha1 (d_Moves_layPiece 67 120 (.iaload) 1 rfl) rfl ?_
    refine Ak_iload_n 122 1 (d_Moves_layPiece 68 121 (.iload_n 1) 1 rfl) rfl rfl rfl ?_
    refine Ak_iload_n 123 2 (d_Moves_layPiece 69 122 (.iload_n 2) 1 rfl) rfl rfl rfl ?_
    refine Ak_iload 125 (d_Moves_layPiece 70 123 (.iload 7) 2 rfl) rfl rfl ?_
    obtain ⟨hg5, h⟩ := gd_some h
    obtain ⟨r2, V3, h4, h⟩ := bnd_some h
    refine Ak_cV1 128 5 (c_Game_holds h4) rfl hg5 clX1 rfl mok_Game_holds lkM_Moves_142 (d_Moves_layPiece 71 125 (.invokevirtual 142) 3 rfl) rfl (by decide) (Nat.le_of_ble_eq_true rfl) ?_
    refine Ak_if_eq 163 131 (d_Moves_layPiece 72 128 (.ifCond .eq 35) 3 rfl) rfl rfl (fun hc => ?_) (fun hc => ?_)
    · replace h := it_t hc h
      refine Ak_iinc 166 (d_Moves_layPiece 92 163 (.iinc 6 1) 3 rfl) rfl rfl (by decide) ?_
      refine Ak_goto 28 (d_Moves_layPiece 93 166 (.goto (-138)) 3 rfl) rfl ?_
      refine Ak_keep [true, true, true, true, true, true, true] ?_
      exact hK28 h
    · replace h := it_f hc h
      refine Ak_iload 133 (d_Moves_layPiece 73 131 (.iload 4) 2 rfl) rfl rfl ?_
      refine Ak_iconst 134 (d_Moves_layPiece 74 133 (.iconst 1) 1 rfl) rfl (rk rfl) ?_
      refine Ak_iload 136 (d_Moves_layPiece 75 134 (.iload 7) 2 rfl) rfl rfl ?_
      refine Ak_ishl 137 (d_Moves_layPiece 76 136 (.ishl) 1 rfl) rfl ?_
      refine Ak_ior 138 (d_Moves_layPiece 77 137 (.ior) 1 rfl) rfl ?_
      refine Ak_istore 140 (d_Moves_layPiece 78 138 (.istore 4) 2 rfl) rfl (by decide) ?_
      refine Ak_iload 142 (d_Moves_layPiece 79 140 (.iload 5) 2 rfl) rfl rfl ?_
      refine Ak_aload_n 143 0 (d_Moves_layPiece 80 142 (.aload_n 0) 1 rfl) rfl rfl rfl ?_
      refine Ak_getF 146 10 hO clX4 (by decide) rfl lkF_Moves_41 (d_Moves_layPiece 81 143 (.getfield 41) 3 rfl) rfl ?_
      refine Ak_iload 148 (d_Moves_layPiece 82 146 (.iload 6) 2 rfl) rfl rfl ?_
      obtain ⟨ha6, h⟩ := gd_some h
      refine Ak_baload 149 ha6 (d_Moves_layPiece 83 148 (.baload) 1 rfl) rfl ?_
      refine Ak_if_eq 159 152 (d_Moves_layPiece 84 149 (.ifCond .eq 10) 3 rfl) rfl rfl (fun hc => ?_) (fun hc => ?_)
      · replace h := it_t hc h
        refine Ak_iconst 160 (d_Moves_layPiece 89 159 (.iconst 0) 1 rfl) rfl (rk rfl) ?_
        refine Ak_ior 161 (d_Moves_layPiece 90 160 (.ior) 1 rfl) rfl ?_
        refine Ak_istore 163 (d_Moves_layPiece 91 161 (.istore 5) 2 rfl) rfl (by decide) ?_
        refine Ak_iinc 166 (d_Moves_layPiece 92 163 (.iinc 6 1) 3 rfl) rfl rfl (by decide) ?_
        refine Ak_goto 28 (d_Moves_layPiece 93 166 (.goto (-138)) 3 rfl) rfl ?_
        refine Ak_keep [true, true, true, true, true, true, true] ?_
        exact hK28 h
      · replace h := it_f hc h
        refine Ak_iconst 153 (d_Moves_layPiece 85 152 (.iconst 1) 1 rfl) rfl (rk rfl) ?_
        refine Ak_iload 155 (d_Moves_layPiece 86 153 (.iload 7) 2 rfl) rfl rfl ?_
        refine Ak_ishl 156 (d_Moves_layPiece 87 155 (.ishl) 1 rfl) rfl ?_
        refine Ak_goto 160 (d_Moves_layPiece 88 156 (.goto 4) 3 rfl) rfl ?_
        refine Ak_ior 161 (d_Moves_layPiece 90 160 (.ior) 1 rfl) rfl ?_
        refine Ak_istore 163 (d_Moves_layPiece 91 161 (.istore 5) 2 rfl) rfl (by decide) ?_
        refine Ak_iinc 166 (d_Moves_layPiece 92 163 (.iinc 6 1) 3 rfl) rfl rfl (by decide) ?_
        refine Ak_goto 28 (d_Moves_layPiece 93 166 (.goto (-138)) 3 rfl) rfl ?_
        refine Ak_keep [true, true, true, true, true, true, true] ?_
        exact hK28 h
theorem t_Moves_layPiece_J80 {S : ASh} {K28 : ASt → Int → Int → Int → Option (Int × ASt)} {V : ASt} {x0 x1 x2 x3 x4 x5 x6 s0 : Int} {r : Int} {V' : ASt} (hO : isO S x0 4 = true) (hK28 : ∀ {V : ASt} {y4 y5 y6 : Int} {r : Int} {V' : ASt}, K28 V y4 y5 y6 = some (r, V') → AWk m_Moves_layPiece 6 0 0 0 0 28 [some (aR x0), some (aI x1), some (aI x2), some (aI x3), some (aI y4), some (aI y5), some (aI y6)] [] S V none S V') (h : b_Moves_layPiece_J80 S K28 V x0 x1 x2 x3 x4 x5 x6 s0 = some (r, V')) : AWk m_Moves_layPiece 6 0 0 0 0 80 [some (aR x0), some (aI x1), some (aI x2), some (aI x3), some (aI x4), some (aI x5), some (aI x6)] [(aI s0)] S V none S V' := by
  unfold b_Moves_layPiece_J80 at h
  refine Ak_istore 82 (d_Moves_layPiece 46 80 (.istore 7) 2 rfl) rfl (by decide) ?_
  refine Ak_iload 84 (d_Moves_layPiece 47 82 (.iload 7) 2 rfl) rfl rfl ?_
  refine Ak_iconst 85 (d_Moves_layPiece 48 84 (.iconst (-1)) 1 rfl) rfl (rk rfl) ?_
  refine Ak_icmp_eq 102 88 (d_Moves_layPiece 49 85 (.if_icmp .eq 17) 3 rfl) rfl rfl (fun hc => ?_) (fun hc => ?_)
  · replace h := it_t hc h
    refine Ak_iconst 103 (d_Moves_layPiece 58 102 (.iconst 0) 1 rfl) rfl (rk rfl) ?_
    refine Ak_keep [true, true, true, true, true, true, true, true] ?_
    exact t_Moves_layPiece_J103 hO (fun h => hK28 h) h
  · replace h := it_f hc h
    refine Ak_iload 90 (d_Moves_layPiece 50 88 (.iload 4) 2 rfl) rfl rfl ?_
    refine Ak_iload 92 (d_Moves_layPiece 51 90 (.iload 7) 2 rfl) rfl rfl ?_
    refine Ak_ishr 93 (d_Moves_layPiece 52 92 (.ishr) 1 rfl) rfl ?_
    refine Ak_iconst 94 (d_Moves_layPiece 53 93 (.iconst 1) 1 rfl) rfl (rk rfl) ?_
    refine Ak_iand 95 (d_Moves_layPiece 54 94 (.iand) 1 rfl) rfl ?_
    refine Ak_if_ne 102 98 (d_Moves_layPiece 55 95 (.ifCond .ne 7) 3 rfl) rfl rfl (fun hc => ?_) (fun hc => ?_)
    · replace h := it_f hc h
      refine Ak_iconst 103 (d_Moves_layPiece 58 102 (.iconst 0) 1 rfl) rfl (rk rfl) ?_
      refine Ak_keep [true, true, true, true, true, true, true, true] ?_
      exact t_Moves_layPiece_J103 hO (fun h => hK28 h) h
    · replace h := it_t hc h
      refine Ak_iconst 99 (d_Moves_layPiece 56 98 (.iconst 1) 1 rfl) rfl (rk rfl) ?_
      refine Ak_goto 103 (d_Moves_layPiece 57 99 (.goto 4) 3 rfl) rfl ?_
      refine Ak_keep [true, true, true, true, true, true, true, true] ?_
      exact t_Moves_layPiece_J103 hO (fun h => hK28 h) h
theorem t_Moves_layPiece_L172 {S : ASh} {x0 x1 x2 x5 : Int} (hO : isO S x0 4 = true) : ∀ (n : Nat) (V : ASt) (x6 : Int) (r : Int) (V' : ASt), b_Moves_layPiece_L172 S x0 x1 x2 x5 n V x6 = some (r, V') → AWk m_Moves_layPiece 6 0 0 0 0 172 [some (aR x0), some (aI x1), some (aI x2), none, none, some (aI x5), some (aI x6)] [] S V none S V' := by
  intro n
  induction n with
  | zero => intro V x6 r V' h; cases h
  | succ n ih =>
    intro V x6 r V' h
    replace ih : ∀ {V : ASt} {x6 : Int} {r : Int} {V' : ASt}, b_Moves_layPiece_L172 S x0 x1 x2 x5 n V x6 = some (r, V') → AWk m_Moves_layPiece 6 0 0 0 0 172 [some (aR x0), some (aI x1), some (aI x2), none, none, some (aI x5), some (aI x6)] [] S V none S V' := fun h => ih _ _ _ _ h
    rw [b_Moves_layPiece_L172] at h
    refine Ak_iload 174 (d_Moves_layPiece 96 172 (.iload 6) 2 rfl) rfl rfl ?_
    refine Ak_bipush 176 (d_Moves_layPiece 97 174 (.bipush 10) 2 rfl) rfl (bp_ok rfl) (rk rfl) ?_
    refine Ak_icmp_ge 247 179 (d_Moves_layPiece 98 176 (.if_icmp .ge 71) 3 rfl) rfl rfl (fun hc => ?_) (fun hc => ?_)
    · replace h := it_t hc h
      cases h
      exact Ak_vret rfl (d_Moves_layPiece 141 247 (.return_) 1 rfl)
    · replace h := it_f hc h
      refine Ak_iload 181 (d_Moves_layPiece 99 179 (.iload 5) 2 rfl) rfl rfl ?_
      refine Ak_iload 183 (d_Moves_layPiece 100 181 (.iload 6) 2 rfl) rfl rfl ?_
      refine Ak_ishr 184 (d_Moves_layPiece 101 183 (.ishr) 1 rfl) rfl ?_
      refine Ak_if_eq 247 187 (d_Moves_layPiece 102 184 (.ifCond .eq 63) 3 rfl) rfl rfl (fun hc => ?_) (fun hc => ?_)
      · replace h := it_t hc h
        cases h
        exact Ak_vret rfl (d_Moves_layPiece 141 247 (.return_) 1 rfl)
      · replace h := it_f hc h
        refine Ak_iload 189 (d_Moves_layPiece 103 187 (.iload 5) 2 rfl) rfl rfl ?_
        refine Ak_iload 191 (d_Moves_layPiece 104 189 (.iload 6) 2 rfl) rfl rfl ?_
        refine Ak_ishr 192 (d_Moves_layPiece 105 191 (.ishr) 1 rfl) rfl ?_
        refine Ak_iconst 193 (d_Moves_layPiece 106 192 (.iconst 1) 1 rfl) rfl (rk rfl) ?_
        refine Ak_iand 194 (d_Moves_layPiece 107 193 (.iand) 1 rfl) rfl ?_
        refine Ak_if_eq 241 197 (d_Moves_layPiece 108 194 (.ifCond .eq 47) 3 rfl) rfl rfl (fun hc => ?_) (fun hc => ?_)
        · replace h := it_t hc h
          refine Ak_iinc 244 (d_Moves_layPiece 139 241 (.iinc 6 1) 3 rfl) rfl rfl (by decide) ?_
          refine Ak_goto 172 (d_Moves_layPiece 140 244 (.goto (-72)) 3 rfl) rfl ?_
          refine Ak_keep [true, true, true, false, false, true, true] ?_
          exact ih h
        · replace h := it_f hc h
          refine Ak_aload_n 198 0 (d_Moves_layPiece 109 197 (.aload_n 0) 1 rfl) rfl rfl rfl ?_
          refine Ak_getF 201 5 hO clX4 (by decide) rfl lkF_Moves_26 (d_Moves_layPiece 110 198 (.getfield 26) 3 rfl) rfl ?_
          refine Ak_iload_n 202 1 (d_Moves_layPiece 111 201 (.iload_n 1) 1 rfl) rfl rfl rfl ?_
          obtain ⟨ha7, h⟩ := gd_some h
          refine Ak_iaload 203 ha7 (d_Moves_layPiece 112 202 (.iaload) 1 rfl) rfl ?_
          refine Ak_bipush 205 (d_Moves_layPiece 113 203 (.bipush 12) 2 rfl) rfl (bp_ok rfl) (rk rfl) ?_
          refine Ak_icmp_ge 241 208 (d_Moves_layPiece 114 205 (.if_icmp .ge 36) 3 rfl) rfl rfl (fun hc => ?_) (fun hc => ?_)
          · replace h := it_t hc h
            refine Ak_iinc 244 (d_Moves_layPiece 139 241 (.iinc 6 1) 3 rfl) rfl rfl (by decide) ?_
            refine Ak_goto 172 (d_Moves_layPiece 140 244 (.goto (-72)) 3 rfl) rfl ?_
            refine Ak_keep [true, true, true, false, false, true, true] ?_
            exact ih h
          · replace h := it_f hc h
            refine Ak_aload_n 209 0 (d_Moves_layPiece 115 208 (.aload_n 0) 1 rfl) rfl rfl rfl ?_
            refine Ak_getF 212 6 hO clX4 (by decide) rfl lkF_Moves_29 (d_Moves_layPiece 116 209 (.getfield 29) 3 rfl) rfl ?_
            refine Ak_iload_n 213 1 (d_Moves_layPiece 117 212 (.iload_n 1) 1 rfl) rfl rfl rfl ?_
            refine Ak_bipush 215 (d_Moves_layPiece 118 213 (.bipush 12) 2 rfl) rfl (bp_ok rfl) (rk rfl) ?_
            refine Ak_imul 216 (d_Moves_layPiece 119 215 (.imul) 1 rfl) rfl ?_
            refine Ak_aload_n 217 0 (d_Moves_layPiece 120 216 (.aload_n 0) 1 rfl) rfl rfl rfl ?_
            refine Ak_getF 220 5 hO clX4 (by decide) rfl lkF_Moves_26 (d_Moves_layPiece 121 217 (.getfield 26) 3 rfl) rfl ?_
            refine Ak_iload_n 221 1 (d_Moves_layPiece 122 220 (.iload_n 1) 1 rfl) rfl rfl rfl ?_
            refine Ak_iaload 222 ha7 (d_Moves_layPiece 123 221 (.iaload) 1 rfl) rfl ?_
            refine Ak_iadd 223 (d_Moves_layPiece 124 222 (.iadd) 1 rfl) rfl ?_
            refine Ak_iload_n 224 2 (d_Moves_layPiece 125 223 (.iload_n 2) 1 rfl) rfl rfl rfl ?_
            refine Ak_bipush 226 (d_Moves_layPiece 126 224 (.bipush 10) 2 rfl) rfl (bp_ok rfl) (rk rfl) ?_
            refine Ak_imul 227 (d_Moves_layPiece 127 226 (.imul) 1 rfl) rfl ?_
            refine Ak_iload 229 (d_Moves_layPiece 128 227 (.iload 6) 2 rfl) rfl rfl ?_
            refine Ak_iadd 230 (d_Moves_layPiece 129 229 (.iadd) 1 rfl) rfl ?_
            obtain ⟨ha8, h⟩ := gd_some h
            refine Ak_iastore 231 ha8 (d_Moves_layPiece 130 230 (.iastore) 1 rfl) rfl (fun V9 hV9 => ?_)
            replace h := wV_some h V9 hV9
            refine Ak_aload_n 232 0 (d_Moves_layPiece 131 231 (.aload_n 0) 1 rfl) rfl rfl rfl ?_
            refine Ak_getF 235 5 hO clX4 (by decide) rfl lkF_Moves_26 (d_Moves_layPiece 132 232 (.getfield 26) 3 rfl) rfl ?_
            refine Ak_iload_n 236 1 (d_Moves_layPiece 133 235 (.iload_n 1) 1 rfl) rfl rfl rfl ?_
            refine Ak_dup2 237 (d_Moves_layPiece 134 236 (.dup2) 1 rfl) rfl rfl rfl ?_
            refine Ak_iaload 238 ha7 (d_Moves_layPiece 135 237 (.iaload) 1 rfl) rfl ?_
            refine Ak_iconst 239 (d_Moves_layPiece 136 238 (.iconst 1) 1 rfl) rfl (rk rfl) ?_
            refine Ak_iadd 240 (d_Moves_layPiece 137 239 (.iadd) 1 rfl) rfl ?_
            refine Ak_iastore 241 ha7 (d_Moves_layPiece 138 240 (.iastore) 1 rfl) rfl (fun V10 hV10 => ?_)
            replace h := wV_some h V10 hV10
            refine Ak_iinc 244 (d_Moves_layPiece 139 241 (.iinc 6 1) 3 rfl) rfl rfl (by decide) ?_
            refine Ak_goto 172 (d_Moves_layPiece 140 244 (.goto (-72)) 3 rfl) rfl ?_
            refine Ak_keep [true, true, true, false, false, true, true] ?_
            exact ih h
theorem t_Moves_layPiece_L28 {S : ASh} {x0 x1 x2 x3 : Int} (hO : isO S x0 4 = true) : ∀ (n : Nat) (V : ASt) (x4 x5 x6 : Int) (r : Int) (V' : ASt), b_Moves_layPiece_L28 S x0 x1 x2 x3 n V x4 x5 x6 = some (r, V') → AWk m_Moves_layPiece 6 0 0 0 0 28 [some (aR x0), some (aI x1), some (aI x2), some (aI x3), some (aI x4), some (aI x5), some (aI x6)] [] S V none S V' := by
  intro n
  induction n with
  | zero => intro V x4 x5 x6 r V' h; cases h
  | succ n ih =>
    intro V x4 x5 x6 r V' h
    replace ih : ∀ {V : ASt} {x4 x5 x6 : Int} {r : Int} {V' : ASt}, b_Moves_layPiece_L28 S x0 x1 x2 x3 n V x4 x5 x6 = some (r, V') → AWk m_Moves_layPiece 6 0 0 0 0 28 [some (aR x0), some (aI x1), some (aI x2), some (aI x3), some (aI x4), some (aI x5), some (aI x6)] [] S V none S V' := fun h => ih _ _ _ _ _ _ h
    rw [b_Moves_layPiece_L28] at h
    refine Ak_iload 30 (d_Moves_layPiece 18 28 (.iload 6) 2 rfl) rfl rfl ?_
    refine Ak_iload_n 31 2 (d_Moves_layPiece 19 30 (.iload_n 2) 1 rfl) rfl rfl rfl ?_
    refine Ak_bipush 33 (d_Moves_layPiece 20 31 (.bipush 12) 2 rfl) rfl (bp_ok rfl) (rk rfl) ?_
    refine Ak_imul 34 (d_Moves_layPiece 21 33 (.imul) 1 rfl) rfl ?_
    refine Ak_aload_n 35 0 (d_Moves_layPiece 22 34 (.aload_n 0) 1 rfl) rfl rfl rfl ?_
    refine Ak_getF 38 11 hO clX4 (by decide) rfl lkF_Moves_45 (d_Moves_layPiece 23 35 (.getfield 45) 3 rfl) rfl ?_
    refine Ak_iload_n 39 2 (d_Moves_layPiece 24 38 (.iload_n 2) 1 rfl) rfl rfl rfl ?_
    obtain ⟨ha11, h⟩ := gd_some h
    refine Ak_iaload 40 ha11 (d_Moves_layPiece 25 39 (.iaload) 1 rfl) rfl ?_
    refine Ak_iadd 41 (d_Moves_layPiece 26 40 (.iadd) 1 rfl) rfl ?_
    refine Ak_icmp_ge 169 44 (d_Moves_layPiece 27 41 (.if_icmp .ge 128) 3 rfl) rfl rfl (fun hc => ?_) (fun hc => ?_)
    · replace h := it_t hc h
      refine Ak_iconst 170 (d_Moves_layPiece 94 169 (.iconst 0) 1 rfl) rfl (rk rfl) ?_
      refine Ak_istore 172 (d_Moves_layPiece 95 170 (.istore 6) 2 rfl) rfl (by decide) ?_
      refine Ak_keep [true, true, true, false, false, true, true] ?_
      exact t_Moves_layPiece_L172 hO FU _ _ _ _ h
    · replace h := it_f hc h
      refine Ak_aload_n 45 0 (d_Moves_layPiece 28 44 (.aload_n 0) 1 rfl) rfl rfl rfl ?_
      refine Ak_getF 48 9 hO clX4 (by decide) rfl lkF_Moves_38 (d_Moves_layPiece 29 45 (.getfield 38) 3 rfl) rfl ?_
      refine Ak_iload 50 (d_Moves_layPiece 30 48 (.iload 6) 2 rfl) rfl rfl ?_
      obtain ⟨ha12, h⟩ := gd_some h
      refine Ak_iaload 51 ha12 (d_Moves_layPiece 31 50 (.iaload) 1 rfl) rfl ?_
      refine Ak_if_ne 64 54 (d_Moves_layPiece 32 51 (.ifCond .ne 13) 3 rfl) rfl rfl (fun hc => ?_) (fun hc => ?_)
      · replace h := it_f hc h
        refine Ak_aload_n 65 0 (d_Moves_layPiece 37 64 (.aload_n 0) 1 rfl) rfl rfl rfl ?_
        refine Ak_getR 68 2 hO clX4 (by decide) rfl lkF_Moves_57 (d_Moves_layPiece 38 65 (.getfield 57) 3 rfl) rfl ?_
        refine Ak_iload_n 69 3 (d_Moves_layPiece 39 68 (.iload_n 3) 1 rfl) rfl rfl rfl ?_
        refine Ak_aload_n 70 0 (d_Moves_layPiece 40 69 (.aload_n 0) 1 rfl) rfl rfl rfl ?_
        refine Ak_getF 73 9 hO clX4 (by decide) rfl lkF_Moves_38 (d_Moves_layPiece 41 70 (.getfield 38) 3 rfl) rfl ?_
        refine Ak_iload 75 (d_Moves_layPiece 42 73 (.iload 6) 2 rfl) rfl rfl ?_
        refine Ak_iaload 76 ha12 (d_Moves_layPiece 43 75 (.iaload) 1 rfl) rfl ?_
        refine Ak_iadd 77 (d_Moves_layPiece 44 76 (.iadd) 1 rfl) rfl ?_
        obtain ⟨hg16, h⟩ := gd_some h
        obtain ⟨r13, V14, h15, h⟩ := bnd_some h
        refine Ak_cV1 80 2 (c_Game_fieldOrNone h15) rfl hg16 clX1 rfl mok_Game_fieldOrNone lkM_Moves_139 (d_Moves_layPiece 45 77 (.invokevirtual 139) 3 rfl) rfl (by decide) (Nat.le_of_ble_eq_true rfl) ?_
        refine Ak_keep [true, true, true, true, true, true, true] ?_
        exact t_Moves_layPiece_J80 hO (fun h => ih h) h
      · replace h := it_t hc h
        refine Ak_aload_n 55 0 (d_Moves_layPiece 33 54 (.aload_n 0) 1 rfl) rfl rfl rfl ?_
        refine Ak_getR 58 2 hO clX4 (by decide) rfl lkF_Moves_57 (d_Moves_layPiece 34 55 (.getfield 57) 3 rfl) rfl ?_
        obtain ⟨hg17, h⟩ := gd_some h
        refine Ak_getI 61 0 hg17 clX1 (by decide) (Or.inl rfl) lkF_Moves_119 (d_Moves_layPiece 35 58 (.getfield 119) 3 rfl) rfl ?_
        refine Ak_goto 80 (d_Moves_layPiece 36 61 (.goto 19) 3 rfl) rfl ?_
        refine Ak_keep [true, true, true, true, true, true, true] ?_
        exact t_Moves_layPiece_J80 hO (fun h => ih h) h
theorem c_Moves_layPiece {S : ASh} {V : ASt} {x0 x1 x2 : Int} {r : Int} {V' : ASt} (h : f_Moves_layPiece S V x0 x1 x2 = some (r, V')) : ACt m_Moves_layPiece 6 0 0 [(aR x0), (aI x1), (aI x2)] S V none S V' := by
  unfold f_Moves_layPiece at h
  obtain ⟨hO, h⟩ := gd_some h
  refine ACt_of (plainFor_of_name rfl) rfl (Nat.le_of_ble_eq_true rfl) ?_
  show AWk m_Moves_layPiece 6 0 0 0 0 0 [some (aR x0), some (aI x1), some (aI x2)] [] S V none S V'
  refine Ak_aload_n 1 0 (d_Moves_layPiece 0 0 (.aload_n 0) 1 rfl) rfl rfl rfl ?_
  refine Ak_getR 4 2 hO clX4 (by decide) rfl lkF_Moves_57 (d_Moves_layPiece 1 1 (.getfield 57) 3 rfl) rfl ?_
  refine Ak_iload_n 5 1 (d_Moves_layPiece 2 4 (.iload_n 1) 1 rfl) rfl rfl rfl ?_
  refine Ak_iload_n 6 2 (d_Moves_layPiece 3 5 (.iload_n 2) 1 rfl) rfl rfl rfl ?_
  obtain ⟨hg21, h⟩ := gd_some h
  obtain ⟨r18, V19, h20, h⟩ := bnd_some h
  refine Ak_cV1 9 3 (c_Game_spotToLeave h20) rfl hg21 clX1 rfl mok_Game_spotToLeave lkM_Moves_135 (d_Moves_layPiece 4 6 (.invokevirtual 135) 3 rfl) rfl (by decide) (Nat.le_of_ble_eq_true rfl) ?_
  refine Ak_istore_n 10 3 (d_Moves_layPiece 5 9 (.istore_n 3) 1 rfl) rfl rfl (by decide) ?_
  refine Ak_iload_n 11 3 (d_Moves_layPiece 6 10 (.iload_n 3) 1 rfl) rfl rfl rfl ?_
  refine Ak_iconst 12 (d_Moves_layPiece 7 11 (.iconst (-1)) 1 rfl) rfl (rk rfl) ?_
  refine Ak_icmp_ne 16 15 (d_Moves_layPiece 8 12 (.if_icmp .ne 4) 3 rfl) rfl rfl (fun hc => ?_) (fun hc => ?_)
  · replace h := it_f hc h
    refine Ak_iconst 17 (d_Moves_layPiece 10 16 (.iconst 0) 1 rfl) rfl (rk rfl) ?_
    refine Ak_istore 19 (d_Moves_layPiece 11 17 (.istore 4) 2 rfl) rfl (by decide) ?_
    refine Ak_iconst 20 (d_Moves_layPiece 12 19 (.iconst 0) 1 rfl) rfl (rk rfl) ?_
    refine Ak_istore 22 (d_Moves_layPiece 13 20 (.istore 5) 2 rfl) rfl (by decide) ?_
    refine Ak_iload_n 23 2 (d_Moves_layPiece 14 22 (.iload_n 2) 1 rfl) rfl rfl rfl ?_
    refine Ak_bipush 25 (d_Moves_layPiece 15 23 (.bipush 12) 2 rfl) rfl (bp_ok rfl) (rk rfl) ?_
    refine Ak_imul 26 (d_Moves_layPiece 16 25 (.imul) 1 rfl) rfl ?_
    refine Ak_istore 28 (d_Moves_layPiece 17 26 (.istore 6) 2 rfl) rfl (by decide) ?_
    refine Ak_keep [true, true, true, true, true, true, true] ?_
    exact t_Moves_layPiece_L28 hO FU _ _ _ _ _ _ h
  · replace h := it_t hc h
    cases h
    exact Ak_vret rfl (d_Moves_layPiece 9 15 (.return_) 1 rfl)
theorem t_Moves_layNexts_J104 {S : ASh} {K2 : ASt → Int → Option (Int × ASt)} {V : ASt} {x0 x1 x2 x6 : Int} {r : Int} {V' : ASt} (hO : isO S x0 4 = true) (hK2 : ∀ {V : ASt} {y2 : Int} {r : Int} {V' : ASt}, K2 V y2 = some (r, V') → AWk m_Moves_layNexts 6 0 0 0 0 2 [some (aR x0), some (aI x1), some (aI y2)] [] S V none S V') (h : b_Moves_layNexts_J104 S K2 V x0 x1 x2 x6 = some (r, V')) : AWk m_Moves_layNexts 6 0 0 0 0 104 [some (aR x0), some (aI x1), some (aI x2), none, none, none, some (aI x6)] [] S V none S V' := by
  unfold b_Moves_layNexts_J104 at h
  refine Ak_aload_n 105 0 (d_Moves_layNexts 58 104 (.aload_n 0) 1 rfl) rfl rfl rfl ?_
  refine Ak_getF 108 7 hO clX4 (by decide) rfl lkF_Moves_32 (d_Moves_layNexts 59 105 (.getfield 32) 3 rfl) rfl ?_
  refine Ak_iload_n 109 1 (d_Moves_layNexts 60 108 (.iload_n 1) 1 rfl) rfl rfl rfl ?_
  refine Ak_bipush 111 (d_Moves_layNexts 61 109 (.bipush 12) 2 rfl) rfl (bp_ok rfl) (rk rfl) ?_
  refine Ak_imul 112 (d_Moves_layNexts 62 111 (.imul) 1 rfl) rfl ?_
  refine Ak_iload_n 113 2 (d_Moves_layNexts 63 112 (.iload_n 2) 1 rfl) rfl rfl rfl ?_
  refine Ak_iadd 114 (d_Moves_layNexts 64 113 (.iadd) 1 rfl) rfl ?_
  refine Ak_iload 116 (d_Moves_layNexts 65 114 (.iload 6) 2 rfl) rfl rfl ?_
  obtain ⟨ha1, h⟩ := gd_some h
  refine Ak_iastore 117 ha1 (d_Moves_layNexts 66 116 (.iastore) 1 rfl) rfl (fun V2 hV2 => ?_)
  replace h := wV_some h V2 hV2
  refine Ak_iinc 120 (d_Moves_layNexts 67 117 (.iinc 2 1) 3 rfl) rfl rfl (by decide) ?_
  refine Ak_goto 2 (d_Moves_layNexts 68 120 (.goto (-118)) 3 rfl) rfl ?_
  refine Ak_keep [true, true, true] ?_
  exact hK2 h
theorem t_Moves_layNexts_L53 {S : ASh} {K2 : ASt → Int → Option (Int × ASt)} {x0 x1 x2 x4 x5 : Int} (hO : isO S x0 4 = true) (hK2 : ∀ {V : ASt} {y2 : Int} {r : Int} {V' : ASt}, K2 V y2 = some (r, V') → AWk m_Moves_layNexts 6 0 0 0 0 2 [some (aR x0), some (aI x1), some (aI y2)] [] S V none S V') : ∀ (n : Nat) (V : ASt) (x6 x7 : Int) (r : Int) (V' : ASt), b_Moves_layNexts_L53 S K2 x0 x1 x2 x4 x5 n V x6 x7 = some (r, V') → AWk m_Moves_layNexts 6 0 0 0 0 53 [some (aR x0), some (aI x1), some (aI x2), none, some (aI x4), some (aI x5), some (aI x6), some (aI x7)] [] S V none S V' := by
  intro n
  induction n with
  | zero => intro V x6 x7 r V' h; cases h
  | succ n ih =>
    intro V x6 x7 r V' h
    replace ih : ∀ {V : ASt} {x6 x7 : Int} {r : Int} {V' : ASt}, b_Moves_layNexts_L53 S K2 x0 x1 x2 x4 x5 n V x6 x7 = some (r, V') → AWk m_Moves_layNexts 6 0 0 0 0 53 [some (aR x0), some (aI x1), some (aI x2), none, some (aI x4), some (aI x5), some (aI x6), some (aI x7)] [] S V none S V' := fun h => ih _ _ _ _ _ h
    rw [b_Moves_layNexts_L53] at h
    refine Ak_iload 55 (d_Moves_layNexts 34 53 (.iload 7) 2 rfl) rfl rfl ?_
    refine Ak_aload_n 56 0 (d_Moves_layNexts 35 55 (.aload_n 0) 1 rfl) rfl rfl rfl ?_
    refine Ak_getI 59 14 hO clX4 (by decide) (Or.inl rfl) lkF_Moves_54 (d_Moves_layNexts 36 56 (.getfield 54) 3 rfl) rfl ?_
    refine Ak_icmp_ge 104 62 (d_Moves_layNexts 37 59 (.if_icmp .ge 45) 3 rfl) rfl rfl (fun hc => ?_) (fun hc => ?_)
    · replace h := it_t hc h
      refine Ak_keep [true, true, true, false, false, false, true] ?_
      exact t_Moves_layNexts_J104 hO (fun h => hK2 h) h
    · replace h := it_f hc h
      refine Ak_iload 64 (d_Moves_layNexts 38 62 (.iload 6) 2 rfl) rfl rfl ?_
      refine Ak_if_lt 104 67 (d_Moves_layNexts 39 64 (.ifCond .lt 40) 3 rfl) rfl rfl (fun hc => ?_) (fun hc => ?_)
      · replace h := it_t hc h
        refine Ak_keep [true, true, true, false, false, false, true] ?_
        exact t_Moves_layNexts_J104 hO (fun h => hK2 h) h
      · replace h := it_f hc h
        refine Ak_aload_n 68 0 (d_Moves_layNexts 40 67 (.aload_n 0) 1 rfl) rfl rfl rfl ?_
        refine Ak_getR 71 2 hO clX4 (by decide) rfl lkF_Moves_57 (d_Moves_layNexts 41 68 (.getfield 57) 3 rfl) rfl ?_
        refine Ak_aload_n 72 0 (d_Moves_layNexts 42 71 (.aload_n 0) 1 rfl) rfl rfl rfl ?_
        refine Ak_getF 75 12 hO clX4 (by decide) rfl lkF_Moves_48 (d_Moves_layNexts 43 72 (.getfield 48) 3 rfl) rfl ?_
        refine Ak_iload 77 (d_Moves_layNexts 44 75 (.iload 7) 2 rfl) rfl rfl ?_
        obtain ⟨ha3, h⟩ := gd_some h
        refine Ak_iaload 78 ha3 (d_Moves_layNexts 45 77 (.iaload) 1 rfl) rfl ?_
        refine Ak_iload_n 79 1 (d_Moves_layNexts 46 78 (.iload_n 1) 1 rfl) rfl rfl rfl ?_
        refine Ak_iload 81 (d_Moves_layNexts 47 79 (.iload 4) 2 rfl) rfl rfl ?_
        refine Ak_iload 83 (d_Moves_layNexts 48 81 (.iload 5) 2 rfl) rfl rfl ?_
        obtain ⟨hg7, h⟩ := gd_some h
        obtain ⟨r4, V5, h6, h⟩ := bnd_some h
        refine Ak_cV1 86 5 (c_Game_holds h6) rfl hg7 clX1 rfl mok_Game_holds lkM_Moves_142 (d_Moves_layNexts 49 83 (.invokevirtual 142) 3 rfl) rfl (by decide) (Nat.le_of_ble_eq_true rfl) ?_
        refine Ak_if_eq 98 89 (d_Moves_layNexts 50 86 (.ifCond .eq 12) 3 rfl) rfl rfl (fun hc => ?_) (fun hc => ?_)
        · replace h := it_t hc h
          refine Ak_iinc 101 (d_Moves_layNexts 56 98 (.iinc 7 1) 3 rfl) rfl rfl (by decide) ?_
          refine Ak_goto 53 (d_Moves_layNexts 57 101 (.goto (-48)) 3 rfl) rfl ?_
          refine Ak_keep [true, true, true, false, true, true, true, true] ?_
          exact ih h
        · replace h := it_f hc h
          refine Ak_aload_n 90 0 (d_Moves_layNexts 51 89 (.aload_n 0) 1 rfl) rfl rfl rfl ?_
          refine Ak_getF 93 13 hO clX4 (by decide) rfl lkF_Moves_51 (d_Moves_layNexts 52 90 (.getfield 51) 3 rfl) rfl ?_
          refine Ak_iload 95 (d_Moves_layNexts 53 93 (.iload 7) 2 rfl) rfl rfl ?_
          obtain ⟨ha8, h⟩ := gd_some h
          refine Ak_iaload 96 ha8 (d_Moves_layNexts 54 95 (.iaload) 1 rfl) rfl ?_
          refine Ak_istore 98 (d_Moves_layNexts 55 96 (.istore 6) 2 rfl) rfl (by decide) ?_
          refine Ak_iinc 101 (d_Moves_layNexts 56 98 (.iinc 7 1) 3 rfl) rfl rfl (by decide) ?_
          refine Ak_goto 53 (d_Moves_layNexts 57 101 (.goto (-48)) 3 rfl) rfl ?_
          refine Ak_keep [true, true, true, false, true, true, true, true] ?_
          exact ih h
theorem t_Moves_layNexts_L2 {S : ASh} {x0 x1 : Int} (hO : isO S x0 4 = true) : ∀ (n : Nat) (V : ASt) (x2 : Int) (r : Int) (V' : ASt), b_Moves_layNexts_L2 S x0 x1 n V x2 = some (r, V') → AWk m_Moves_layNexts 6 0 0 0 0 2 [some (aR x0), some (aI x1), some (aI x2)] [] S V none S V' := by
  intro n
  induction n with
  | zero => intro V x2 r V' h; cases h
  | succ n ih =>
    intro V x2 r V' h
    replace ih : ∀ {V : ASt} {x2 : Int} {r : Int} {V' : ASt}, b_Moves_layNexts_L2 S x0 x1 n V x2 = some (r, V') → AWk m_Moves_layNexts 6 0 0 0 0 2 [some (aR x0), some (aI x1), some (aI x2)] [] S V none S V' := fun h => ih _ _ _ _ h
    rw [b_Moves_layNexts_L2] at h
    refine Ak_iload_n 3 2 (d_Moves_layNexts 2 2 (.iload_n 2) 1 rfl) rfl rfl rfl ?_
    refine Ak_aload_n 4 0 (d_Moves_layNexts 3 3 (.aload_n 0) 1 rfl) rfl rfl rfl ?_
    refine Ak_getF 7 5 hO clX4 (by decide) rfl lkF_Moves_26 (d_Moves_layNexts 4 4 (.getfield 26) 3 rfl) rfl ?_
    refine Ak_iload_n 8 1 (d_Moves_layNexts 5 7 (.iload_n 1) 1 rfl) rfl rfl rfl ?_
    obtain ⟨ha9, h⟩ := gd_some h
    refine Ak_iaload 9 ha9 (d_Moves_layNexts 6 8 (.iaload) 1 rfl) rfl ?_
    refine Ak_icmp_ge 123 12 (d_Moves_layNexts 7 9 (.if_icmp .ge 114) 3 rfl) rfl rfl (fun hc => ?_) (fun hc => ?_)
    · replace h := it_t hc h
      cases h
      exact Ak_vret rfl (d_Moves_layNexts 69 123 (.return_) 1 rfl)
    · replace h := it_f hc h
      refine Ak_aload_n 13 0 (d_Moves_layNexts 8 12 (.aload_n 0) 1 rfl) rfl rfl rfl ?_
      refine Ak_getF 16 6 hO clX4 (by decide) rfl lkF_Moves_29 (d_Moves_layNexts 9 13 (.getfield 29) 3 rfl) rfl ?_
      refine Ak_iload_n 17 1 (d_Moves_layNexts 10 16 (.iload_n 1) 1 rfl) rfl rfl rfl ?_
      refine Ak_bipush 19 (d_Moves_layNexts 11 17 (.bipush 12) 2 rfl) rfl (bp_ok rfl) (rk rfl) ?_
      refine Ak_imul 20 (d_Moves_layNexts 12 19 (.imul) 1 rfl) rfl ?_
      refine Ak_iload_n 21 2 (d_Moves_layNexts 13 20 (.iload_n 2) 1 rfl) rfl rfl rfl ?_
      refine Ak_iadd 22 (d_Moves_layNexts 14 21 (.iadd) 1 rfl) rfl ?_
      obtain ⟨ha10, h⟩ := gd_some h
      refine Ak_iaload 23 ha10 (d_Moves_layNexts 15 22 (.iaload) 1 rfl) rfl ?_
      refine Ak_istore_n 24 3 (d_Moves_layNexts 16 23 (.istore_n 3) 1 rfl) rfl rfl (by decide) ?_
      refine Ak_iload_n 25 3 (d_Moves_layNexts 17 24 (.iload_n 3) 1 rfl) rfl rfl rfl ?_
      refine Ak_bipush 27 (d_Moves_layNexts 18 25 (.bipush 10) 2 rfl) rfl (bp_ok rfl) (rk rfl) ?_
      refine Ak_idiv 28 (d_Moves_layNexts 19 27 (.idiv) 1 rfl) rfl (by decide) ?_
      refine Ak_istore 30 (d_Moves_layNexts 20 28 (.istore 4) 2 rfl) rfl (by decide) ?_
      refine Ak_iload_n 31 3 (d_Moves_layNexts 21 30 (.iload_n 3) 1 rfl) rfl rfl rfl ?_
      refine Ak_bipush 33 (d_Moves_layNexts 22 31 (.bipush 10) 2 rfl) rfl (bp_ok rfl) (rk rfl) ?_
      refine Ak_irem 34 (d_Moves_layNexts 23 33 (.irem) 1 rfl) rfl (by decide) ?_
      refine Ak_istore 36 (d_Moves_layNexts 24 34 (.istore 5) 2 rfl) rfl (by decide) ?_
      refine Ak_aload_n 37 0 (d_Moves_layNexts 25 36 (.aload_n 0) 1 rfl) rfl rfl rfl ?_
      refine Ak_getR 40 2 hO clX4 (by decide) rfl lkF_Moves_57 (d_Moves_layNexts 26 37 (.getfield 57) 3 rfl) rfl ?_
      refine Ak_iload_n 41 1 (d_Moves_layNexts 27 40 (.iload_n 1) 1 rfl) rfl rfl rfl ?_
      refine Ak_iload 43 (d_Moves_layNexts 28 41 (.iload 4) 2 rfl) rfl rfl ?_
      refine Ak_iload 45 (d_Moves_layNexts 29 43 (.iload 5) 2 rfl) rfl rfl ?_
      obtain ⟨hg14, h⟩ := gd_some h
      obtain ⟨r11, V12, h13, h⟩ := bnd_some h
      refine Ak_cV1 48 3 (c_Game_positionBehind h13) rfl hg14 clX1 rfl mok_Game_positionBehind lkM_Moves_146 (d_Moves_layNexts 30 45 (.invokevirtual 146) 3 rfl) rfl (by decide) (Nat.le_of_ble_eq_true rfl) ?_
      refine Ak_istore 50 (d_Moves_layNexts 31 48 (.istore 6) 2 rfl) rfl (by decide) ?_
      refine Ak_iconst 51 (d_Moves_layNexts 32 50 (.iconst 0) 1 rfl) rfl (rk rfl) ?_
      refine Ak_istore 53 (d_Moves_layNexts 33 51 (.istore 7) 2 rfl) rfl (by decide) ?_
      refine Ak_keep [true, true, true, false, true, true, true, true] ?_
      exact t_Moves_layNexts_L53 hO (fun h => ih h) FU _ _ _ _ _ h
theorem c_Moves_layNexts {S : ASh} {V : ASt} {x0 x1 : Int} {r : Int} {V' : ASt} (h : f_Moves_layNexts S V x0 x1 = some (r, V')) : ACt m_Moves_layNexts 6 0 0 [(aR x0), (aI x1)] S V none S V' := by
  unfold f_Moves_layNexts at h
  obtain ⟨hO, h⟩ := gd_some h
  refine ACt_of (plainFor_of_name rfl) rfl (Nat.le_of_ble_eq_true rfl) ?_
  show AWk m_Moves_layNexts 6 0 0 0 0 0 [some (aR x0), some (aI x1)] [] S V none S V'
  refine Ak_iconst 1 (d_Moves_layNexts 0 0 (.iconst 0) 1 rfl) rfl (rk rfl) ?_
  refine Ak_istore_n 2 2 (d_Moves_layNexts 1 1 (.istore_n 2) 1 rfl) rfl rfl (by decide) ?_
  refine Ak_keep [true, true, true] ?_
  exact t_Moves_layNexts_L2 hO FU _ _ _ _ h
theorem t_Moves_layOut_L84 {S : ASh} {K52 : ASt → Int → Option (Int × ASt)} {x0 x1 x2 x3 : Int} (hO : isO S x0 4 = true) (hK52 : ∀ {V : ASt} {y2 : Int} {r : Int} {V' : ASt}, K52 V y2 = some (r, V') → AWk m_Moves_layOut 7 0 0 0 0 52 [some (aR x0), some (aI x1), some (aI y2)] [] S V none S V') : ∀ (n : Nat) (V : ASt) (x4 : Int) (r : Int) (V' : ASt), b_Moves_layOut_L84 S K52 x0 x1 x2 x3 n V x4 = some (r, V') → AWk m_Moves_layOut 7 0 0 0 0 84 [some (aR x0), some (aI x1), some (aI x2), some (aI x3), some (aI x4)] [] S V none S V' := by
  intro n
  induction n with
  | zero => intro V x4 r V' h; cases h
  | succ n ih =>
    intro V x4 r V' h
    replace ih : ∀ {V : ASt} {x4 : Int} {r : Int} {V' : ASt}, b_Moves_layOut_L84 S K52 x0 x1 x2 x3 n V x4 = some (r, V') → AWk m_Moves_layOut 7 0 0 0 0 84 [some (aR x0), some (aI x1), some (aI x2), some (aI x3), some (aI x4)] [] S V none S V' := fun h => ih _ _ _ _ h
    rw [b_Moves_layOut_L84] at h
    refine Ak_iload 86 (d_Moves_layOut 45 84 (.iload 4) 2 rfl) rfl rfl ?_
    refine Ak_iconst 87 (d_Moves_layOut 46 86 (.iconst 2) 1 rfl) rfl (rk rfl) ?_
    refine Ak_icmp_ge 103 90 (d_Moves_layOut 47 87 (.if_icmp .ge 16) 3 rfl) rfl rfl (fun hc => ?_) (fun hc => ?_)
    · replace h := it_t hc h
      refine Ak_aload_n 104 0 (d_Moves_layOut 54 103 (.aload_n 0) 1 rfl) rfl rfl rfl ?_
      refine Ak_iload_n 105 3 (d_Moves_layOut 55 104 (.iload_n 3) 1 rfl) rfl rfl rfl ?_
      obtain ⟨r1, V2, h3, h⟩ := bnd_some h
      refine Ak_cV0 108 6 (c_Moves_layNexts h3) rfl hO clX4 rfl mok_Moves_layNexts lkM_Moves_132 (d_Moves_layOut 56 105 (.invokevirtual 132) 3 rfl) rfl (by decide) (Nat.le_of_ble_eq_true rfl) ?_
      refine Ak_aload_n 109 0 (d_Moves_layOut 57 108 (.aload_n 0) 1 rfl) rfl rfl rfl ?_
      refine Ak_iload_n 110 3 (d_Moves_layOut 58 109 (.iload_n 3) 1 rfl) rfl rfl rfl ?_
      obtain ⟨r4, V5, h6, h⟩ := bnd_some h
      refine Ak_cV0 113 3 (c_Moves_enlistNextsOf h6) rfl hO clX4 rfl mok_Moves_enlistNextsOf lkM_Moves_116 (d_Moves_layOut 59 110 (.invokevirtual 116) 3 rfl) rfl (by decide) (Nat.le_of_ble_eq_true rfl) ?_
      refine Ak_iinc 116 (d_Moves_layOut 60 113 (.iinc 2 1) 3 rfl) rfl rfl (by decide) ?_
      refine Ak_goto 52 (d_Moves_layOut 61 116 (.goto (-64)) 3 rfl) rfl ?_
      refine Ak_keep [true, true, true] ?_
      exact hK52 h
    · replace h := it_f hc h
      refine Ak_aload_n 91 0 (d_Moves_layOut 48 90 (.aload_n 0) 1 rfl) rfl rfl rfl ?_
      refine Ak_iload_n 92 3 (d_Moves_layOut 49 91 (.iload_n 3) 1 rfl) rfl rfl rfl ?_
      refine Ak_iload 94 (d_Moves_layOut 50 92 (.iload 4) 2 rfl) rfl rfl ?_
      obtain ⟨r7, V8, h9, h⟩ := bnd_some h
      refine Ak_cV0 97 6 (c_Moves_layPiece h9) rfl hO clX4 rfl mok_Moves_layPiece lkM_Moves_128 (d_Moves_layOut 51 94 (.invokevirtual 128) 3 rfl) rfl (by decide) (Nat.le_of_ble_eq_true rfl) ?_
      refine Ak_iinc 100 (d_Moves_layOut 52 97 (.iinc 4 1) 3 rfl) rfl rfl (by decide) ?_
      refine Ak_goto 84 (d_Moves_layOut 53 100 (.goto (-16)) 3 rfl) rfl ?_
      refine Ak_keep [true, true, true, true, true] ?_
      exact ih h
theorem t_Moves_layOut_J119 {S : ASh} {V : ASt} {x0 x1 : Int} {r : Int} {V' : ASt} (hO : isO S x0 4 = true) (h : b_Moves_layOut_J119 S  V x0 x1 = some (r, V')) : AWk m_Moves_layOut 7 0 0 0 0 119 [some (aR x0), some (aI x1)] [] S V none S V' := by
  unfold b_Moves_layOut_J119 at h
  refine Ak_aload_n 120 0 (d_Moves_layOut 62 119 (.aload_n 0) 1 rfl) rfl rfl rfl ?_
  refine Ak_iload_n 121 1 (d_Moves_layOut 63 120 (.iload_n 1) 1 rfl) rfl rfl rfl ?_
  obtain ⟨hb11, h⟩ := gd_some h
  refine Ak_putZ 124 0 (dec_t hb11) hO clX4 (by decide) rfl rfl rfl lkF_Moves_9 (d_Moves_layOut 64 121 (.putfield 9) 3 rfl) rfl (fun V10 hV10 => ?_)
  replace h := wV_some h V10 hV10
  cases h
  exact Ak_vret rfl (d_Moves_layOut 65 124 (.return_) 1 rfl)
theorem t_Moves_layOut_L52 {S : ASh} {x0 x1 : Int} (hO : isO S x0 4 = true) : ∀ (n : Nat) (V : ASt) (x2 : Int) (r : Int) (V' : ASt), b_Moves_layOut_L52 S x0 x1 n V x2 = some (r, V') → AWk m_Moves_layOut 7 0 0 0 0 52 [some (aR x0), some (aI x1), some (aI x2)] [] S V none S V' := by
  intro n
  induction n with
  | zero => intro V x2 r V' h; cases h
  | succ n ih =>
    intro V x2 r V' h
    replace ih : ∀ {V : ASt} {x2 : Int} {r : Int} {V' : ASt}, b_Moves_layOut_L52 S x0 x1 n V x2 = some (r, V') → AWk m_Moves_layOut 7 0 0 0 0 52 [some (aR x0), some (aI x1), some (aI x2)] [] S V none S V' := fun h => ih _ _ _ _ h
    rw [b_Moves_layOut_L52] at h
    refine Ak_iload_n 53 2 (d_Moves_layOut 26 52 (.iload_n 2) 1 rfl) rfl rfl rfl ?_
    refine Ak_aload_n 54 0 (d_Moves_layOut 27 53 (.aload_n 0) 1 rfl) rfl rfl rfl ?_
    refine Ak_getI 57 1 hO clX4 (by decide) (Or.inl rfl) lkF_Moves_15 (d_Moves_layOut 28 54 (.getfield 15) 3 rfl) rfl ?_
    refine Ak_icmp_ge 119 60 (d_Moves_layOut 29 57 (.if_icmp .ge 62) 3 rfl) rfl rfl (fun hc => ?_) (fun hc => ?_)
    · replace h := it_t hc h
      refine Ak_keep [true, true] ?_
      exact t_Moves_layOut_J119 hO h
    · replace h := it_f hc h
      refine Ak_iload_n 61 2 (d_Moves_layOut 30 60 (.iload_n 2) 1 rfl) rfl rfl rfl ?_
      refine Ak_sipush 64 (d_Moves_layOut 31 61 (.sipush 200) 3 rfl) rfl (sp_ok rfl) (rk rfl) ?_
      refine Ak_icmp_ge 119 67 (d_Moves_layOut 32 64 (.if_icmp .ge 55) 3 rfl) rfl rfl (fun hc => ?_) (fun hc => ?_)
      · replace h := it_t hc h
        refine Ak_keep [true, true] ?_
        exact t_Moves_layOut_J119 hO h
      · replace h := it_f hc h
        refine Ak_aload_n 68 0 (d_Moves_layOut 33 67 (.aload_n 0) 1 rfl) rfl rfl rfl ?_
        refine Ak_getF 71 3 hO clX4 (by decide) rfl lkF_Moves_19 (d_Moves_layOut 34 68 (.getfield 19) 3 rfl) rfl ?_
        refine Ak_iload_n 72 2 (d_Moves_layOut 35 71 (.iload_n 2) 1 rfl) rfl rfl rfl ?_
        obtain ⟨ha12, h⟩ := gd_some h
        refine Ak_iaload 73 ha12 (d_Moves_layOut 36 72 (.iaload) 1 rfl) rfl ?_
        refine Ak_istore_n 74 3 (d_Moves_layOut 37 73 (.istore_n 3) 1 rfl) rfl rfl (by decide) ?_
        refine Ak_aload_n 75 0 (d_Moves_layOut 38 74 (.aload_n 0) 1 rfl) rfl rfl rfl ?_
        refine Ak_getF 78 5 hO clX4 (by decide) rfl lkF_Moves_26 (d_Moves_layOut 39 75 (.getfield 26) 3 rfl) rfl ?_
        refine Ak_iload_n 79 3 (d_Moves_layOut 40 78 (.iload_n 3) 1 rfl) rfl rfl rfl ?_
        refine Ak_iconst 80 (d_Moves_layOut 41 79 (.iconst 0) 1 rfl) rfl (rk rfl) ?_
        obtain ⟨ha13, h⟩ := gd_some h
        refine Ak_iastore 81 ha13 (d_Moves_layOut 42 80 (.iastore) 1 rfl) rfl (fun V14 hV14 => ?_)
        replace h := wV_some h V14 hV14
        refine Ak_iconst 82 (d_Moves_layOut 43 81 (.iconst 0) 1 rfl) rfl (rk rfl) ?_
        refine Ak_istore 84 (d_Moves_layOut 44 82 (.istore 4) 2 rfl) rfl (by decide) ?_
        refine Ak_keep [true, true, true, true, true] ?_
        exact t_Moves_layOut_L84 hO (fun h => ih h) FU _ _ _ _ h
theorem c_Moves_layOut {S : ASh} {V : ASt} {x0 x1 : Int} {r : Int} {V' : ASt} (h : f_Moves_layOut S V x0 x1 = some (r, V')) : ACt m_Moves_layOut 7 0 0 [(aR x0), (aI x1)] S V none S V' := by
  unfold f_Moves_layOut at h
  obtain ⟨hO, h⟩ := gd_some h
  refine ACt_of (plainFor_of_name rfl) rfl (Nat.le_of_ble_eq_true rfl) ?_
  show AWk m_Moves_layOut 7 0 0 0 0 0 [some (aR x0), some (aI x1)] [] S V none S V'
  refine Ak_aload_n 1 0 (d_Moves_layOut 0 0 (.aload_n 0) 1 rfl) rfl rfl rfl ?_
  refine Ak_getR 4 2 hO clX4 (by decide) rfl lkF_Moves_57 (d_Moves_layOut 1 1 (.getfield 57) 3 rfl) rfl ?_
  obtain ⟨hg15, h⟩ := gd_some h
  refine Ak_getI 7 0 hg15 clX1 (by decide) (Or.inl rfl) lkF_Moves_119 (d_Moves_layOut 2 4 (.getfield 119) 3 rfl) rfl ?_
  refine Ak_if_ne 11 10 (d_Moves_layOut 3 7 (.ifCond .ne 4) 3 rfl) rfl rfl (fun hc => ?_) (fun hc => ?_)
  · replace h := it_f hc h
    refine Ak_aload_n 12 0 (d_Moves_layOut 5 11 (.aload_n 0) 1 rfl) rfl rfl rfl ?_
    obtain ⟨r16, V17, h18, h⟩ := bnd_some h
    refine Ak_cV0 15 3 (c_Moves_clearList h18) rfl hO clX4 rfl mok_Moves_clearList lkM_Moves_106 (d_Moves_layOut 6 12 (.invokevirtual 106) 3 rfl) rfl (by decide) (Nat.le_of_ble_eq_true rfl) ?_
    refine Ak_iload_n 16 1 (d_Moves_layOut 7 15 (.iload_n 1) 1 rfl) rfl rfl rfl ?_
    refine Ak_if_eq 26 19 (d_Moves_layOut 8 16 (.ifCond .eq 10) 3 rfl) rfl rfl (fun hc => ?_) (fun hc => ?_)
    · replace h := it_t hc h
      refine Ak_aload_n 27 0 (d_Moves_layOut 12 26 (.aload_n 0) 1 rfl) rfl rfl rfl ?_
      refine Ak_aload_n 28 0 (d_Moves_layOut 13 27 (.aload_n 0) 1 rfl) rfl rfl rfl ?_
      refine Ak_getR 31 2 hO clX4 (by decide) rfl lkF_Moves_57 (d_Moves_layOut 14 28 (.getfield 57) 3 rfl) rfl ?_
      refine Ak_iconst 32 (d_Moves_layOut 15 31 (.iconst 0) 1 rfl) rfl (rk rfl) ?_
      obtain ⟨hg22, h⟩ := gd_some h
      obtain ⟨r19, V20, h21, h⟩ := bnd_some h
      refine Ak_cV1 35 2 (c_Game_beginningOf h21) rfl hg22 clX1 rfl mok_Game_beginningOf lkM_Moves_125 (d_Moves_layOut 16 32 (.invokevirtual 125) 3 rfl) rfl (by decide) (Nat.le_of_ble_eq_true rfl) ?_
      obtain ⟨r23, V24, h25, h⟩ := bnd_some h
      refine Ak_cV0 38 2 (c_Moves_enlist h25) rfl hO clX4 rfl mok_Moves_enlist lkM_Moves_112 (d_Moves_layOut 17 35 (.invokevirtual 112) 3 rfl) rfl (by decide) (Nat.le_of_ble_eq_true rfl) ?_
      refine Ak_aload_n 39 0 (d_Moves_layOut 18 38 (.aload_n 0) 1 rfl) rfl rfl rfl ?_
      refine Ak_aload_n 40 0 (d_Moves_layOut 19 39 (.aload_n 0) 1 rfl) rfl rfl rfl ?_
      refine Ak_getR 43 2 hO clX4 (by decide) rfl lkF_Moves_57 (d_Moves_layOut 20 40 (.getfield 57) 3 rfl) rfl ?_
      refine Ak_iconst 44 (d_Moves_layOut 21 43 (.iconst 1) 1 rfl) rfl (rk rfl) ?_
      obtain ⟨hg29, h⟩ := gd_some h
      obtain ⟨r26, V27, h28, h⟩ := bnd_some h
      refine Ak_cV1 47 2 (c_Game_beginningOf h28) rfl hg29 clX1 rfl mok_Game_beginningOf lkM_Moves_125 (d_Moves_layOut 22 44 (.invokevirtual 125) 3 rfl) rfl (by decide) (Nat.le_of_ble_eq_true rfl) ?_
      obtain ⟨r30, V31, h32, h⟩ := bnd_some h
      refine Ak_cV0 50 2 (c_Moves_enlist h32) rfl hO clX4 rfl mok_Moves_enlist lkM_Moves_112 (d_Moves_layOut 23 47 (.invokevirtual 112) 3 rfl) rfl (by decide) (Nat.le_of_ble_eq_true rfl) ?_
      refine Ak_iconst 51 (d_Moves_layOut 24 50 (.iconst 0) 1 rfl) rfl (rk rfl) ?_
      refine Ak_istore_n 52 2 (d_Moves_layOut 25 51 (.istore_n 2) 1 rfl) rfl rfl (by decide) ?_
      refine Ak_keep [true, true, true] ?_
      exact t_Moves_layOut_L52 hO FU _ _ _ _ h
    · replace h := it_f hc h
      refine Ak_aload_n 20 0 (d_Moves_layOut 9 19 (.aload_n 0) 1 rfl) rfl rfl rfl ?_
      obtain ⟨r33, V34, h35, h⟩ := bnd_some h
      refine Ak_cV0 23 4 (c_Moves_listAll h35) rfl hO clX4 rfl mok_Moves_listAll lkM_Moves_122 (d_Moves_layOut 10 20 (.invokevirtual 122) 3 rfl) rfl (by decide) (Nat.le_of_ble_eq_true rfl) ?_
      refine Ak_goto 50 (d_Moves_layOut 11 23 (.goto 27) 3 rfl) rfl ?_
      refine Ak_iconst 51 (d_Moves_layOut 24 50 (.iconst 0) 1 rfl) rfl (rk rfl) ?_
      refine Ak_istore_n 52 2 (d_Moves_layOut 25 51 (.istore_n 2) 1 rfl) rfl rfl (by decide) ?_
      refine Ak_keep [true, true, true] ?_
      exact t_Moves_layOut_L52 hO FU _ _ _ _ h
  · replace h := it_t hc h
    cases h
    exact Ak_vret rfl (d_Moves_layOut 4 10 (.return_) 1 rfl)
theorem t_Spring_isLike_L22 {S : ASh} {x0 x1 x2 : Int} : ∀ (n : Nat) (V : ASt) (x3 x4 : Int) (r : Int) (V' : ASt), b_Spring_isLike_L22 S x0 x1 x2 n V x3 x4 = some (r, V') → AWk m_Spring_isLike 4 0 0 0 0 22 [some (aI x0), some (aR x1), some (aR x2), some (aI x3), some (aI x4)] [] S V (some (aI r)) S V' := by
  intro n
  induction n with
  | zero => intro V x3 x4 r V' h; cases h
  | succ n ih =>
    intro V x3 x4 r V' h
    replace ih : ∀ {V : ASt} {x3 x4 : Int} {r : Int} {V' : ASt}, b_Spring_isLike_L22 S x0 x1 x2 n V x3 x4 = some (r, V') → AWk m_Spring_isLike 4 0 0 0 0 22 [some (aI x0), some (aR x1), some (aR x2), some (aI x3), some (aI x4)] [] S V (some (aI r)) S V' := fun h => ih _ _ _ _ _ h
    rw [b_Spring_isLike_L22] at h
    refine Ak_iload 24 (d_Spring_isLike 13 22 (.iload 4) 2 rfl) rfl rfl ?_
    refine Ak_aload_n 25 1 (d_Spring_isLike 14 24 (.aload_n 1) 1 rfl) rfl rfl rfl ?_
    refine Ak_iload_n 26 0 (d_Spring_isLike 15 25 (.iload_n 0) 1 rfl) rfl rfl rfl ?_
    obtain ⟨hg4, h⟩ := gd_some h
    obtain ⟨r1, V2, h3, h⟩ := bnd_some h
    refine Ak_cV1 29 2 (c_Moves_countOf h3) rfl hg4 clX4 rfl mok_Moves_countOf lkM_Spring_46 (d_Spring_isLike 16 26 (.invokevirtual 46) 3 rfl) rfl (by decide) (Nat.le_of_ble_eq_true rfl) ?_
    refine Ak_icmp_ge 82 32 (d_Spring_isLike 17 29 (.if_icmp .ge 53) 3 rfl) rfl rfl (fun hc => ?_) (fun hc => ?_)
    · replace h := it_t hc h
      refine Ak_iload_n 83 3 (d_Spring_isLike 44 82 (.iload_n 3) 1 rfl) rfl rfl rfl ?_
      obtain ⟨hb5, h⟩ := gd_some h
      cases h
      exact Ak_zret (dec_t hb5) rfl (d_Spring_isLike 45 83 (.ireturn) 1 rfl)
    · replace h := it_f hc h
      refine Ak_iload_n 33 3 (d_Spring_isLike 18 32 (.iload_n 3) 1 rfl) rfl rfl rfl ?_
      refine Ak_if_eq 82 36 (d_Spring_isLike 19 33 (.ifCond .eq 49) 3 rfl) rfl rfl (fun hc => ?_) (fun hc => ?_)
      · replace h := it_t hc h
        refine Ak_iload_n 83 3 (d_Spring_isLike 44 82 (.iload_n 3) 1 rfl) rfl rfl rfl ?_
        obtain ⟨hb6, h⟩ := gd_some h
        cases h
        exact Ak_zret (dec_t hb6) rfl (d_Spring_isLike 45 83 (.ireturn) 1 rfl)
      · replace h := it_f hc h
        refine Ak_aload_n 37 1 (d_Spring_isLike 20 36 (.aload_n 1) 1 rfl) rfl rfl rfl ?_
        refine Ak_iload_n 38 0 (d_Spring_isLike 21 37 (.iload_n 0) 1 rfl) rfl rfl rfl ?_
        refine Ak_iload 40 (d_Spring_isLike 22 38 (.iload 4) 2 rfl) rfl rfl ?_
        obtain ⟨r7, V8, h9, h⟩ := bnd_some h
        refine Ak_cV1 43 3 (c_Moves_codeOf h9) rfl hg4 clX4 rfl mok_Moves_codeOf lkM_Spring_56 (d_Spring_isLike 23 40 (.invokevirtual 56) 3 rfl) rfl (by decide) (Nat.le_of_ble_eq_true rfl) ?_
        refine Ak_aload_n 44 2 (d_Spring_isLike 24 43 (.aload_n 2) 1 rfl) rfl rfl rfl ?_
        refine Ak_iload_n 45 0 (d_Spring_isLike 25 44 (.iload_n 0) 1 rfl) rfl rfl rfl ?_
        refine Ak_iload 47 (d_Spring_isLike 26 45 (.iload 4) 2 rfl) rfl rfl ?_
        obtain ⟨hg13, h⟩ := gd_some h
        obtain ⟨r10, V11, h12, h⟩ := bnd_some h
        refine Ak_cV1 50 3 (c_Moves_codeOf h12) rfl hg13 clX4 rfl mok_Moves_codeOf lkM_Spring_56 (d_Spring_isLike 27 47 (.invokevirtual 56) 3 rfl) rfl (by decide) (Nat.le_of_ble_eq_true rfl) ?_
        refine Ak_icmp_ne 74 53 (d_Spring_isLike 28 50 (.if_icmp .ne 24) 3 rfl) rfl rfl (fun hc => ?_) (fun hc => ?_)
        · replace h := it_f hc h
          refine Ak_iconst 75 (d_Spring_isLike 40 74 (.iconst 0) 1 rfl) rfl (rk rfl) ?_
          refine Ak_istore_n 76 3 (d_Spring_isLike 41 75 (.istore_n 3) 1 rfl) rfl rfl (by decide) ?_
          refine Ak_iinc 79 (d_Spring_isLike 42 76 (.iinc 4 1) 3 rfl) rfl rfl (by decide) ?_
          refine Ak_goto 22 (d_Spring_isLike 43 79 (.goto (-57)) 3 rfl) rfl ?_
          refine Ak_keep [true, true, true, true, true] ?_
          exact ih h
        · replace h := it_t hc h
          refine Ak_aload_n 54 1 (d_Spring_isLike 29 53 (.aload_n 1) 1 rfl) rfl rfl rfl ?_
          refine Ak_iload_n 55 0 (d_Spring_isLike 30 54 (.iload_n 0) 1 rfl) rfl rfl rfl ?_
          refine Ak_iload 57 (d_Spring_isLike 31 55 (.iload 4) 2 rfl) rfl rfl ?_
          obtain ⟨r14, V15, h16, h⟩ := bnd_some h
          refine Ak_cV1 60 3 (c_Moves_nextOf h16) rfl hg4 clX4 rfl mok_Moves_nextOf lkM_Spring_52 (d_Spring_isLike 32 57 (.invokevirtual 52) 3 rfl) rfl (by decide) (Nat.le_of_ble_eq_true rfl) ?_
          refine Ak_aload_n 61 2 (d_Spring_isLike 33 60 (.aload_n 2) 1 rfl) rfl rfl rfl ?_
          refine Ak_iload_n 62 0 (d_Spring_isLike 34 61 (.iload_n 0) 1 rfl) rfl rfl rfl ?_
          refine Ak_iload 64 (d_Spring_isLike 35 62 (.iload 4) 2 rfl) rfl rfl ?_
          obtain ⟨r17, V18, h19, h⟩ := bnd_some h
          refine Ak_cV1 67 3 (c_Moves_nextOf h19) rfl hg13 clX4 rfl mok_Moves_nextOf lkM_Spring_52 (d_Spring_isLike 36 64 (.invokevirtual 52) 3 rfl) rfl (by decide) (Nat.le_of_ble_eq_true rfl) ?_
          refine Ak_icmp_ne 74 70 (d_Spring_isLike 37 67 (.if_icmp .ne 7) 3 rfl) rfl rfl (fun hc => ?_) (fun hc => ?_)
          · replace h := it_f hc h
            refine Ak_iconst 75 (d_Spring_isLike 40 74 (.iconst 0) 1 rfl) rfl (rk rfl) ?_
            refine Ak_istore_n 76 3 (d_Spring_isLike 41 75 (.istore_n 3) 1 rfl) rfl rfl (by decide) ?_
            refine Ak_iinc 79 (d_Spring_isLike 42 76 (.iinc 4 1) 3 rfl) rfl rfl (by decide) ?_
            refine Ak_goto 22 (d_Spring_isLike 43 79 (.goto (-57)) 3 rfl) rfl ?_
            refine Ak_keep [true, true, true, true, true] ?_
            exact ih h
          · replace h := it_t hc h
            refine Ak_iconst 71 (d_Spring_isLike 38 70 (.iconst 1) 1 rfl) rfl (rk rfl) ?_
            refine Ak_goto 75 (d_Spring_isLike 39 71 (.goto 4) 3 rfl) rfl ?_
            refine Ak_istore_n 76 3 (d_Spring_isLike 41 75 (.istore_n 3) 1 rfl) rfl rfl (by decide) ?_
            refine Ak_iinc 79 (d_Spring_isLike 42 76 (.iinc 4 1) 3 rfl) rfl rfl (by decide) ?_
            refine Ak_goto 22 (d_Spring_isLike 43 79 (.goto (-57)) 3 rfl) rfl ?_
            refine Ak_keep [true, true, true, true, true] ?_
            exact ih h
theorem c_Spring_isLike {S : ASh} {V : ASt} {x0 x1 x2 : Int} {r : Int} {V' : ASt} (h : f_Spring_isLike S V x0 x1 x2 = some (r, V')) : ACt m_Spring_isLike 4 0 0 [(aI x0), (aR x1), (aR x2)] S V (some (aI r)) S V' := by
  unfold f_Spring_isLike at h
  refine ACt_of (plainFor_of_name rfl) rfl (Nat.le_of_ble_eq_true rfl) ?_
  show AWk m_Spring_isLike 4 0 0 0 0 0 [some (aI x0), some (aR x1), some (aR x2)] [] S V (some (aI r)) S V'
  refine Ak_aload_n 1 1 (d_Spring_isLike 0 0 (.aload_n 1) 1 rfl) rfl rfl rfl ?_
  refine Ak_iload_n 2 0 (d_Spring_isLike 1 1 (.iload_n 0) 1 rfl) rfl rfl rfl ?_
  obtain ⟨hg23, h⟩ := gd_some h
  obtain ⟨r20, V21, h22, h⟩ := bnd_some h
  refine Ak_cV1 5 2 (c_Moves_countOf h22) rfl hg23 clX4 rfl mok_Moves_countOf lkM_Spring_46 (d_Spring_isLike 2 2 (.invokevirtual 46) 3 rfl) rfl (by decide) (Nat.le_of_ble_eq_true rfl) ?_
  refine Ak_aload_n 6 2 (d_Spring_isLike 3 5 (.aload_n 2) 1 rfl) rfl rfl rfl ?_
  refine Ak_iload_n 7 0 (d_Spring_isLike 4 6 (.iload_n 0) 1 rfl) rfl rfl rfl ?_
  obtain ⟨hg27, h⟩ := gd_some h
  obtain ⟨r24, V25, h26, h⟩ := bnd_some h
  refine Ak_cV1 10 2 (c_Moves_countOf h26) rfl hg27 clX4 rfl mok_Moves_countOf lkM_Spring_46 (d_Spring_isLike 5 7 (.invokevirtual 46) 3 rfl) rfl (by decide) (Nat.le_of_ble_eq_true rfl) ?_
  refine Ak_icmp_ne 17 13 (d_Spring_isLike 6 10 (.if_icmp .ne 7) 3 rfl) rfl rfl (fun hc => ?_) (fun hc => ?_)
  · replace h := it_f hc h
    refine Ak_iconst 18 (d_Spring_isLike 9 17 (.iconst 0) 1 rfl) rfl (rk rfl) ?_
    refine Ak_istore_n 19 3 (d_Spring_isLike 10 18 (.istore_n 3) 1 rfl) rfl rfl (by decide) ?_
    refine Ak_iconst 20 (d_Spring_isLike 11 19 (.iconst 0) 1 rfl) rfl (rk rfl) ?_
    refine Ak_istore 22 (d_Spring_isLike 12 20 (.istore 4) 2 rfl) rfl (by decide) ?_
    refine Ak_keep [true, true, true, true, true] ?_
    exact t_Spring_isLike_L22  FU _ _ _ _ _ h
  · replace h := it_t hc h
    refine Ak_iconst 14 (d_Spring_isLike 7 13 (.iconst 1) 1 rfl) rfl (rk rfl) ?_
    refine Ak_goto 18 (d_Spring_isLike 8 14 (.goto 4) 3 rfl) rfl ?_
    refine Ak_istore_n 19 3 (d_Spring_isLike 10 18 (.istore_n 3) 1 rfl) rfl rfl (by decide) ?_
    refine Ak_iconst 20 (d_Spring_isLike 11 19 (.iconst 0) 1 rfl) rfl (rk rfl) ?_
    refine Ak_istore 22 (d_Spring_isLike 12 20 (.istore 4) 2 rfl) rfl (by decide) ?_
    refine Ak_keep [true, true, true, true, true] ?_
    exact t_Spring_isLike_L22  FU _ _ _ _ _ h
theorem t_Spring_compareAt_L54 {S : ASh} {K6 : ASt → Int → Int → Option (Int × ASt)} {x0 x1 x2 x3 x5 : Int} (hO : isO S x0 7 = true) (hK6 : ∀ {V : ASt} {y4 y5 : Int} {r : Int} {V' : ASt}, K6 V y4 y5 = some (r, V') → AWk m_Spring_compareAt 5 0 0 0 0 6 [some (aR x0), some (aI x1), some (aR x2), some (aR x3), some (aI y4), some (aI y5)] [] S V (some (aI r)) S V') : ∀ (n : Nat) (V : ASt) (x4 x6 : Int) (r : Int) (V' : ASt), b_Spring_compareAt_L54 S K6 x0 x1 x2 x3 x5 n V x4 x6 = some (r, V') → AWk m_Spring_compareAt 5 0 0 0 0 54 [some (aR x0), some (aI x1), some (aR x2), some (aR x3), some (aI x4), some (aI x5), some (aI x6)] [] S V (some (aI r)) S V' := by
  intro n
  induction n with
  | zero => intro V x4 x6 r V' h; cases h
  | succ n ih =>
    intro V x4 x6 r V' h
    replace ih : ∀ {V : ASt} {x4 x6 : Int} {r : Int} {V' : ASt}, b_Spring_compareAt_L54 S K6 x0 x1 x2 x3 x5 n V x4 x6 = some (r, V') → AWk m_Spring_compareAt 5 0 0 0 0 54 [some (aR x0), some (aI x1), some (aR x2), some (aR x3), some (aI x4), some (aI x5), some (aI x6)] [] S V (some (aI r)) S V' := fun h => ih _ _ _ _ _ h
    rw [b_Spring_compareAt_L54] at h
    refine Ak_iload 56 (d_Spring_compareAt 29 54 (.iload 6) 2 rfl) rfl rfl ?_
    refine Ak_aload_n 57 2 (d_Spring_compareAt 30 56 (.aload_n 2) 1 rfl) rfl rfl rfl ?_
    refine Ak_iload 59 (d_Spring_compareAt 31 57 (.iload 5) 2 rfl) rfl rfl ?_
    obtain ⟨hg4, h⟩ := gd_some h
    obtain ⟨r1, V2, h3, h⟩ := bnd_some h
    refine Ak_cV1 62 2 (c_Moves_countOf h3) rfl hg4 clX4 rfl mok_Moves_countOf lkM_Spring_46 (d_Spring_compareAt 32 59 (.invokevirtual 46) 3 rfl) rfl (by decide) (Nat.le_of_ble_eq_true rfl) ?_
    refine Ak_icmp_ge 118 65 (d_Spring_compareAt 33 62 (.if_icmp .ge 56) 3 rfl) rfl rfl (fun hc => ?_) (fun hc => ?_)
    · replace h := it_t hc h
      refine Ak_iinc 121 (d_Spring_compareAt 61 118 (.iinc 5 1) 3 rfl) rfl rfl (by decide) ?_
      refine Ak_goto 6 (d_Spring_compareAt 62 121 (.goto (-115)) 3 rfl) rfl ?_
      refine Ak_keep [true, true, true, true, true, true] ?_
      exact hK6 h
    · replace h := it_f hc h
      refine Ak_aload_n 66 2 (d_Spring_compareAt 34 65 (.aload_n 2) 1 rfl) rfl rfl rfl ?_
      refine Ak_iload 68 (d_Spring_compareAt 35 66 (.iload 5) 2 rfl) rfl rfl ?_
      refine Ak_iload 70 (d_Spring_compareAt 36 68 (.iload 6) 2 rfl) rfl rfl ?_
      obtain ⟨r5, V6, h7, h⟩ := bnd_some h
      refine Ak_cV1 73 3 (c_Moves_nextOf h7) rfl hg4 clX4 rfl mok_Moves_nextOf lkM_Spring_52 (d_Spring_compareAt 37 70 (.invokevirtual 52) 3 rfl) rfl (by decide) (Nat.le_of_ble_eq_true rfl) ?_
      refine Ak_istore 75 (d_Spring_compareAt 38 73 (.istore 7) 2 rfl) rfl (by decide) ?_
      refine Ak_iload 77 (d_Spring_compareAt 39 75 (.iload 7) 2 rfl) rfl rfl ?_
      refine Ak_if_lt 112 80 (d_Spring_compareAt 40 77 (.ifCond .lt 35) 3 rfl) rfl rfl (fun hc => ?_) (fun hc => ?_)
      · replace h := it_t hc h
        refine Ak_iinc 115 (d_Spring_compareAt 59 112 (.iinc 6 1) 3 rfl) rfl rfl (by decide) ?_
        refine Ak_goto 54 (d_Spring_compareAt 60 115 (.goto (-61)) 3 rfl) rfl ?_
        refine Ak_keep [true, true, true, true, true, true, true] ?_
        exact ih h
      · replace h := it_f hc h
        refine Ak_iload 82 (d_Spring_compareAt 41 80 (.iload 7) 2 rfl) rfl rfl ?_
        refine Ak_sipush 85 (d_Spring_compareAt 42 82 (.sipush 200) 3 rfl) rfl (sp_ok rfl) (rk rfl) ?_
        refine Ak_icmp_ge 112 88 (d_Spring_compareAt 43 85 (.if_icmp .ge 27) 3 rfl) rfl rfl (fun hc => ?_) (fun hc => ?_)
        · replace h := it_t hc h
          refine Ak_iinc 115 (d_Spring_compareAt 59 112 (.iinc 6 1) 3 rfl) rfl rfl (by decide) ?_
          refine Ak_goto 54 (d_Spring_compareAt 60 115 (.goto (-61)) 3 rfl) rfl ?_
          refine Ak_keep [true, true, true, true, true, true, true] ?_
          exact ih h
        · replace h := it_f hc h
          refine Ak_aload_n 89 0 (d_Spring_compareAt 44 88 (.aload_n 0) 1 rfl) rfl rfl rfl ?_
          refine Ak_getF 92 4 hO clX7 (by decide) rfl lkF_Spring_29 (d_Spring_compareAt 45 89 (.getfield 29) 3 rfl) rfl ?_
          refine Ak_iload 94 (d_Spring_compareAt 46 92 (.iload 7) 2 rfl) rfl rfl ?_
          obtain ⟨ha8, h⟩ := gd_some h
          refine Ak_iaload 95 ha8 (d_Spring_compareAt 47 94 (.iaload) 1 rfl) rfl ?_
          refine Ak_iconst 96 (d_Spring_compareAt 48 95 (.iconst (-1)) 1 rfl) rfl (rk rfl) ?_
          refine Ak_icmp_ne 112 99 (d_Spring_compareAt 49 96 (.if_icmp .ne 16) 3 rfl) rfl rfl (fun hc => ?_) (fun hc => ?_)
          · replace h := it_f hc h
            refine Ak_iinc 115 (d_Spring_compareAt 59 112 (.iinc 6 1) 3 rfl) rfl rfl (by decide) ?_
            refine Ak_goto 54 (d_Spring_compareAt 60 115 (.goto (-61)) 3 rfl) rfl ?_
            refine Ak_keep [true, true, true, true, true, true, true] ?_
            exact ih h
          · replace h := it_t hc h
            refine Ak_aload_n 100 0 (d_Spring_compareAt 50 99 (.aload_n 0) 1 rfl) rfl rfl rfl ?_
            refine Ak_getF 103 4 hO clX7 (by decide) rfl lkF_Spring_29 (d_Spring_compareAt 51 100 (.getfield 29) 3 rfl) rfl ?_
            refine Ak_iload 105 (d_Spring_compareAt 52 103 (.iload 7) 2 rfl) rfl rfl ?_
            refine Ak_iload_n 106 1 (d_Spring_compareAt 53 105 (.iload_n 1) 1 rfl) rfl rfl rfl ?_
            refine Ak_iconst 107 (d_Spring_compareAt 54 106 (.iconst 1) 1 rfl) rfl (rk rfl) ?_
            refine Ak_iadd 108 (d_Spring_compareAt 55 107 (.iadd) 1 rfl) rfl ?_
            refine Ak_iastore 109 ha8 (d_Spring_compareAt 56 108 (.iastore) 1 rfl) rfl (fun V9 hV9 => ?_)
            replace h := wV_some h V9 hV9
            refine Ak_iconst 110 (d_Spring_compareAt 57 109 (.iconst 1) 1 rfl) rfl (rk rfl) ?_
            refine Ak_istore 112 (d_Spring_compareAt 58 110 (.istore 4) 2 rfl) rfl (by decide) ?_
            refine Ak_iinc 115 (d_Spring_compareAt 59 112 (.iinc 6 1) 3 rfl) rfl rfl (by decide) ?_
            refine Ak_goto 54 (d_Spring_compareAt 60 115 (.goto (-61)) 3 rfl) rfl ?_
            refine Ak_keep [true, true, true, true, true, true, true] ?_
            exact ih h
theorem t_Spring_compareAt_L6 {S : ASh} {x0 x1 x2 x3 : Int} (hO : isO S x0 7 = true) : ∀ (n : Nat) (V : ASt) (x4 x5 : Int) (r : Int) (V' : ASt), b_Spring_compareAt_L6 S x0 x1 x2 x3 n V x4 x5 = some (r, V') → AWk m_Spring_compareAt 5 0 0 0 0 6 [some (aR x0), some (aI x1), some (aR x2), some (aR x3), some (aI x4), some (aI x5)] [] S V (some (aI r)) S V' := by
  intro n
  induction n with
  | zero => intro V x4 x5 r V' h; cases h
  | succ n ih =>
    intro V x4 x5 r V' h
    replace ih : ∀ {V : ASt} {x4 x5 : Int} {r : Int} {V' : ASt}, b_Spring_compareAt_L6 S x0 x1 x2 x3 n V x4 x5 = some (r, V') → AWk m_Spring_compareAt 5 0 0 0 0 6 [some (aR x0), some (aI x1), some (aR x2), some (aR x3), some (aI x4), some (aI x5)] [] S V (some (aI r)) S V' := fun h => ih _ _ _ _ _ h
    rw [b_Spring_compareAt_L6] at h
    refine Ak_iload 8 (d_Spring_compareAt 4 6 (.iload 5) 2 rfl) rfl rfl ?_
    refine Ak_sipush 11 (d_Spring_compareAt 5 8 (.sipush 200) 3 rfl) rfl (sp_ok rfl) (rk rfl) ?_
    refine Ak_icmp_ge 124 14 (d_Spring_compareAt 6 11 (.if_icmp .ge 113) 3 rfl) rfl rfl (fun hc => ?_) (fun hc => ?_)
    · replace h := it_t hc h
      refine Ak_iload 126 (d_Spring_compareAt 63 124 (.iload 4) 2 rfl) rfl rfl ?_
      obtain ⟨hb10, h⟩ := gd_some h
      cases h
      exact Ak_zret (dec_t hb10) rfl (d_Spring_compareAt 64 126 (.ireturn) 1 rfl)
    · replace h := it_f hc h
      refine Ak_aload_n 15 0 (d_Spring_compareAt 7 14 (.aload_n 0) 1 rfl) rfl rfl rfl ?_
      refine Ak_getF 18 4 hO clX7 (by decide) rfl lkF_Spring_29 (d_Spring_compareAt 8 15 (.getfield 29) 3 rfl) rfl ?_
      refine Ak_iload 20 (d_Spring_compareAt 9 18 (.iload 5) 2 rfl) rfl rfl ?_
      obtain ⟨ha11, h⟩ := gd_some h
      refine Ak_iaload 21 ha11 (d_Spring_compareAt 10 20 (.iaload) 1 rfl) rfl ?_
      refine Ak_iload_n 22 1 (d_Spring_compareAt 11 21 (.iload_n 1) 1 rfl) rfl rfl rfl ?_
      refine Ak_icmp_eq 28 25 (d_Spring_compareAt 12 22 (.if_icmp .eq 6) 3 rfl) rfl rfl (fun hc => ?_) (fun hc => ?_)
      · replace h := it_t hc h
        refine Ak_iload 30 (d_Spring_compareAt 14 28 (.iload 5) 2 rfl) rfl rfl ?_
        refine Ak_aload_n 31 2 (d_Spring_compareAt 15 30 (.aload_n 2) 1 rfl) rfl rfl rfl ?_
        refine Ak_aload_n 32 3 (d_Spring_compareAt 16 31 (.aload_n 3) 1 rfl) rfl rfl rfl ?_
        obtain ⟨r12, V13, h14, h⟩ := bnd_some h
        refine Ak_cS1 35 4 (c_Spring_isLike h14) rfl mok_Spring_isLike lkM_Spring_43 (d_Spring_compareAt 17 32 (.invokestatic 43) 3 rfl) rfl (by decide) (Nat.le_of_ble_eq_true rfl) ?_
        refine Ak_if_ne 51 38 (d_Spring_compareAt 18 35 (.ifCond .ne 16) 3 rfl) rfl rfl (fun hc => ?_) (fun hc => ?_)
        · replace h := it_f hc h
          refine Ak_iconst 52 (d_Spring_compareAt 27 51 (.iconst 0) 1 rfl) rfl (rk rfl) ?_
          refine Ak_istore 54 (d_Spring_compareAt 28 52 (.istore 6) 2 rfl) rfl (by decide) ?_
          refine Ak_keep [true, true, true, true, true, true, true] ?_
          exact t_Spring_compareAt_L54 hO (fun h => ih h) FU _ _ _ _ _ h
        · replace h := it_t hc h
          refine Ak_aload_n 39 0 (d_Spring_compareAt 19 38 (.aload_n 0) 1 rfl) rfl rfl rfl ?_
          refine Ak_iload_n 40 1 (d_Spring_compareAt 20 39 (.iload_n 1) 1 rfl) rfl rfl rfl ?_
          refine Ak_putI 43 2 hO clX7 (by decide) rfl rfl rfl lkF_Spring_22 (d_Spring_compareAt 21 40 (.putfield 22) 3 rfl) rfl (fun V15 hV15 => ?_)
          replace h := wV_some h V15 hV15
          refine Ak_aload_n 44 0 (d_Spring_compareAt 22 43 (.aload_n 0) 1 rfl) rfl rfl rfl ?_
          refine Ak_iload 46 (d_Spring_compareAt 23 44 (.iload 5) 2 rfl) rfl rfl ?_
          refine Ak_putI 49 3 hO clX7 (by decide) rfl rfl rfl lkF_Spring_26 (d_Spring_compareAt 24 46 (.putfield 26) 3 rfl) rfl (fun V16 hV16 => ?_)
          replace h := wV_some h V16 hV16
          refine Ak_iconst 50 (d_Spring_compareAt 25 49 (.iconst 0) 1 rfl) rfl (rk rfl) ?_
          cases h
          exact Ak_zret (Or.inl rfl) rfl (d_Spring_compareAt 26 50 (.ireturn) 1 rfl)
      · replace h := it_f hc h
        refine Ak_goto 118 (d_Spring_compareAt 13 25 (.goto 93) 3 rfl) rfl ?_
        refine Ak_iinc 121 (d_Spring_compareAt 61 118 (.iinc 5 1) 3 rfl) rfl rfl (by decide) ?_
        refine Ak_goto 6 (d_Spring_compareAt 62 121 (.goto (-115)) 3 rfl) rfl ?_
        refine Ak_keep [true, true, true, true, true, true] ?_
        exact ih h
theorem c_Spring_compareAt {S : ASh} {V : ASt} {x0 x1 x2 x3 : Int} {r : Int} {V' : ASt} (h : f_Spring_compareAt S V x0 x1 x2 x3 = some (r, V')) : ACt m_Spring_compareAt 5 0 0 [(aR x0), (aI x1), (aR x2), (aR x3)] S V (some (aI r)) S V' := by
  unfold f_Spring_compareAt at h
  obtain ⟨hO, h⟩ := gd_some h
  refine ACt_of (plainFor_of_name rfl) rfl (Nat.le_of_ble_eq_true rfl) ?_
  show AWk m_Spring_compareAt 5 0 0 0 0 0 [some (aR x0), some (aI x1), some (aR x2), some (aR x3)] [] S V (some (aI r)) S V'
  refine Ak_iconst 1 (d_Spring_compareAt 0 0 (.iconst 0) 1 rfl) rfl (rk rfl) ?_
  refine Ak_istore 3 (d_Spring_compareAt 1 1 (.istore 4) 2 rfl) rfl (by decide) ?_
  refine Ak_iconst 4 (d_Spring_compareAt 2 3 (.iconst 0) 1 rfl) rfl (rk rfl) ?_
  refine Ak_istore 6 (d_Spring_compareAt 3 4 (.istore 5) 2 rfl) rfl (by decide) ?_
  refine Ak_keep [true, true, true, true, true, true] ?_
  exact t_Spring_compareAt_L6 hO FU _ _ _ _ _ h
theorem t_Spring_compare_L42 {S : ASh} {x0 x1 x2 : Int} (hO : isO S x0 7 = true) : ∀ (n : Nat) (V : ASt) (x4 x5 : Int) (r : Int) (V' : ASt), b_Spring_compare_L42 S x0 x1 x2 n V x4 x5 = some (r, V') → AWk m_Spring_compare 6 0 0 0 0 42 [some (aR x0), some (aR x1), some (aR x2), none, some (aI x4), some (aI x5)] [] S V none S V' := by
  intro n
  induction n with
  | zero => intro V x4 x5 r V' h; cases h
  | succ n ih =>
    intro V x4 x5 r V' h
    replace ih : ∀ {V : ASt} {x4 x5 : Int} {r : Int} {V' : ASt}, b_Spring_compare_L42 S x0 x1 x2 n V x4 x5 = some (r, V') → AWk m_Spring_compare 6 0 0 0 0 42 [some (aR x0), some (aR x1), some (aR x2), none, some (aI x4), some (aI x5)] [] S V none S V' := fun h => ih _ _ _ _ _ h
    rw [b_Spring_compare_L42] at h
    refine Ak_iload 44 (d_Spring_compare 24 42 (.iload 5) 2 rfl) rfl rfl ?_
    refine Ak_sipush 47 (d_Spring_compare 25 44 (.sipush 200) 3 rfl) rfl (sp_ok rfl) (rk rfl) ?_
    refine Ak_icmp_ge 79 50 (d_Spring_compare 26 47 (.if_icmp .ge 32) 3 rfl) rfl rfl (fun hc => ?_) (fun hc => ?_)
    · replace h := it_t hc h
      cases h
      exact Ak_vret rfl (d_Spring_compare 41 79 (.return_) 1 rfl)
    · replace h := it_f hc h
      refine Ak_iload 52 (d_Spring_compare 27 50 (.iload 4) 2 rfl) rfl rfl ?_
      refine Ak_if_eq 79 55 (d_Spring_compare 28 52 (.ifCond .eq 27) 3 rfl) rfl rfl (fun hc => ?_) (fun hc => ?_)
      · replace h := it_t hc h
        cases h
        exact Ak_vret rfl (d_Spring_compare 41 79 (.return_) 1 rfl)
      · replace h := it_f hc h
        refine Ak_aload_n 56 0 (d_Spring_compare 29 55 (.aload_n 0) 1 rfl) rfl rfl rfl ?_
        refine Ak_getI 59 3 hO clX7 (by decide) (Or.inl rfl) lkF_Spring_26 (d_Spring_compare 30 56 (.getfield 26) 3 rfl) rfl ?_
        refine Ak_iconst 60 (d_Spring_compare 31 59 (.iconst (-1)) 1 rfl) rfl (rk rfl) ?_
        refine Ak_icmp_ne 79 63 (d_Spring_compare 32 60 (.if_icmp .ne 19) 3 rfl) rfl rfl (fun hc => ?_) (fun hc => ?_)
        · replace h := it_f hc h
          cases h
          exact Ak_vret rfl (d_Spring_compare 41 79 (.return_) 1 rfl)
        · replace h := it_t hc h
          refine Ak_aload_n 64 0 (d_Spring_compare 33 63 (.aload_n 0) 1 rfl) rfl rfl rfl ?_
          refine Ak_iload 66 (d_Spring_compare 34 64 (.iload 5) 2 rfl) rfl rfl ?_
          refine Ak_aload_n 67 1 (d_Spring_compare 35 66 (.aload_n 1) 1 rfl) rfl rfl rfl ?_
          refine Ak_aload_n 68 2 (d_Spring_compare 36 67 (.aload_n 2) 1 rfl) rfl rfl rfl ?_
          obtain ⟨r1, V2, h3, h⟩ := bnd_some h
          refine Ak_cV1 71 5 (c_Spring_compareAt h3) rfl hO clX7 rfl mok_Spring_compareAt lkM_Spring_39 (d_Spring_compare 37 68 (.invokevirtual 39) 3 rfl) rfl (by decide) (Nat.le_of_ble_eq_true rfl) ?_
          refine Ak_istore 73 (d_Spring_compare 38 71 (.istore 4) 2 rfl) rfl (by decide) ?_
          refine Ak_iinc 76 (d_Spring_compare 39 73 (.iinc 5 1) 3 rfl) rfl rfl (by decide) ?_
          refine Ak_goto 42 (d_Spring_compare 40 76 (.goto (-34)) 3 rfl) rfl ?_
          refine Ak_keep [true, true, true, false, true, true] ?_
          exact ih h
theorem c_Spring_compare {S : ASh} {V : ASt} {x0 x1 x2 x3 : Int} {r : Int} {V' : ASt} (h : f_Spring_compare S V x0 x1 x2 x3 = some (r, V')) : ACt m_Spring_compare 6 0 0 [(aR x0), (aR x1), (aR x2), (aI x3)] S V none S V' := by
  unfold f_Spring_compare at h
  obtain ⟨hO, h⟩ := gd_some h
  refine ACt_of (plainFor_of_name rfl) rfl (Nat.le_of_ble_eq_true rfl) ?_
  show AWk m_Spring_compare 6 0 0 0 0 0 [some (aR x0), some (aR x1), some (aR x2), some (aI x3)] [] S V none S V'
  refine Ak_aload_n 1 0 (d_Spring_compare 0 0 (.aload_n 0) 1 rfl) rfl rfl rfl ?_
  refine Ak_iconst 2 (d_Spring_compare 1 1 (.iconst (-1)) 1 rfl) rfl (rk rfl) ?_
  refine Ak_putI 5 2 hO clX7 (by decide) rfl rfl rfl lkF_Spring_22 (d_Spring_compare 2 2 (.putfield 22) 3 rfl) rfl (fun V4 hV4 => ?_)
  replace h := wV_some h V4 hV4
  refine Ak_aload_n 6 0 (d_Spring_compare 3 5 (.aload_n 0) 1 rfl) rfl rfl rfl ?_
  refine Ak_iconst 7 (d_Spring_compare 4 6 (.iconst (-1)) 1 rfl) rfl (rk rfl) ?_
  refine Ak_putI 10 3 hO clX7 (by decide) rfl rfl rfl lkF_Spring_26 (d_Spring_compare 5 7 (.putfield 26) 3 rfl) rfl (fun V5 hV5 => ?_)
  replace h := wV_some h V5 hV5
  refine Ak_aload_n 11 0 (d_Spring_compare 6 10 (.aload_n 0) 1 rfl) rfl rfl rfl ?_
  refine Ak_getF 14 4 hO clX7 (by decide) rfl lkF_Spring_29 (d_Spring_compare 7 11 (.getfield 29) 3 rfl) rfl ?_
  refine Ak_iconst 15 (d_Spring_compare 8 14 (.iconst (-1)) 1 rfl) rfl (rk rfl) ?_
  obtain ⟨r6, V7, h8, h⟩ := bnd_some h
  refine Ak_cS0 18 2 (c_Arrays_fill h8) rfl mok_Arrays_fill lkM_Spring_33 (d_Spring_compare 9 15 (.invokestatic 33) 3 rfl) rfl (by decide) (Nat.le_of_ble_eq_true rfl) ?_
  refine Ak_iload_n 19 3 (d_Spring_compare 10 18 (.iload_n 3) 1 rfl) rfl rfl rfl ?_
  refine Ak_if_lt 36 22 (d_Spring_compare 11 19 (.ifCond .lt 17) 3 rfl) rfl rfl (fun hc => ?_) (fun hc => ?_)
  · replace h := it_t hc h
    refine Ak_iconst 37 (d_Spring_compare 20 36 (.iconst 1) 1 rfl) rfl (rk rfl) ?_
    refine Ak_istore 39 (d_Spring_compare 21 37 (.istore 4) 2 rfl) rfl (by decide) ?_
    refine Ak_iconst 40 (d_Spring_compare 22 39 (.iconst 0) 1 rfl) rfl (rk rfl) ?_
    refine Ak_istore 42 (d_Spring_compare 23 40 (.istore 5) 2 rfl) rfl (by decide) ?_
    refine Ak_keep [true, true, true, false, true, true] ?_
    exact t_Spring_compare_L42 hO FU _ _ _ _ _ h
  · replace h := it_f hc h
    refine Ak_iload_n 23 3 (d_Spring_compare 12 22 (.iload_n 3) 1 rfl) rfl rfl rfl ?_
    refine Ak_sipush 26 (d_Spring_compare 13 23 (.sipush 200) 3 rfl) rfl (sp_ok rfl) (rk rfl) ?_
    refine Ak_icmp_ge 36 29 (d_Spring_compare 14 26 (.if_icmp .ge 10) 3 rfl) rfl rfl (fun hc => ?_) (fun hc => ?_)
    · replace h := it_t hc h
      refine Ak_iconst 37 (d_Spring_compare 20 36 (.iconst 1) 1 rfl) rfl (rk rfl) ?_
      refine Ak_istore 39 (d_Spring_compare 21 37 (.istore 4) 2 rfl) rfl (by decide) ?_
      refine Ak_iconst 40 (d_Spring_compare 22 39 (.iconst 0) 1 rfl) rfl (rk rfl) ?_
      refine Ak_istore 42 (d_Spring_compare 23 40 (.istore 5) 2 rfl) rfl (by decide) ?_
      refine Ak_keep [true, true, true, false, true, true] ?_
      exact t_Spring_compare_L42 hO FU _ _ _ _ _ h
    · replace h := it_f hc h
      refine Ak_aload_n 30 0 (d_Spring_compare 15 29 (.aload_n 0) 1 rfl) rfl rfl rfl ?_
      refine Ak_getF 33 4 hO clX7 (by decide) rfl lkF_Spring_29 (d_Spring_compare 16 30 (.getfield 29) 3 rfl) rfl ?_
      refine Ak_iload_n 34 3 (d_Spring_compare 17 33 (.iload_n 3) 1 rfl) rfl rfl rfl ?_
      refine Ak_iconst 35 (d_Spring_compare 18 34 (.iconst 0) 1 rfl) rfl (rk rfl) ?_
      obtain ⟨ha9, h⟩ := gd_some h
      refine Ak_iastore 36 ha9 (d_Spring_compare 19 35 (.iastore) 1 rfl) rfl (fun V10 hV10 => ?_)
      replace h := wV_some h V10 hV10
      refine Ak_iconst 37 (d_Spring_compare 20 36 (.iconst 1) 1 rfl) rfl (rk rfl) ?_
      refine Ak_istore 39 (d_Spring_compare 21 37 (.istore 4) 2 rfl) rfl (by decide) ?_
      refine Ak_iconst 40 (d_Spring_compare 22 39 (.iconst 0) 1 rfl) rfl (rk rfl) ?_
      refine Ak_istore 42 (d_Spring_compare 23 40 (.istore 5) 2 rfl) rfl (by decide) ?_
      refine Ak_keep [true, true, true, false, true, true] ?_
      exact t_Spring_compare_L42 hO FU _ _ _ _ _ h
theorem c_Values_worthOf {S : ASh} {V : ASt} {x0 x1 : Int} {r : Int} {V' : ASt} (h : f_Values_worthOf S V x0 x1 = some (r, V')) : ACt m_Values_worthOf 2 0 0 [(aR x0), (aI x1)] S V (some (aI r)) S V' := by
  unfold f_Values_worthOf at h
  obtain ⟨hO, h⟩ := gd_some h
  refine ACt_of (plainFor_of_name rfl) rfl (Nat.le_of_ble_eq_true rfl) ?_
  show AWk m_Values_worthOf 2 0 0 0 0 0 [some (aR x0), some (aI x1)] [] S V (some (aI r)) S V'
  refine Ak_iload_n 1 1 (d_Values_worthOf 0 0 (.iload_n 1) 1 rfl) rfl rfl rfl ?_
  refine Ak_if_lt 20 4 (d_Values_worthOf 1 1 (.ifCond .lt 19) 3 rfl) rfl rfl (fun hc => ?_) (fun hc => ?_)
  · replace h := it_t hc h
    refine Ak_iconst 21 (d_Values_worthOf 10 20 (.iconst 0) 1 rfl) rfl (rk rfl) ?_
    cases h
    exact Ak_iret rfl (d_Values_worthOf 11 21 (.ireturn) 1 rfl)
  · replace h := it_f hc h
    refine Ak_iload_n 5 1 (d_Values_worthOf 2 4 (.iload_n 1) 1 rfl) rfl rfl rfl ?_
    refine Ak_sipush 8 (d_Values_worthOf 3 5 (.sipush 200) 3 rfl) rfl (sp_ok rfl) (rk rfl) ?_
    refine Ak_icmp_ge 20 11 (d_Values_worthOf 4 8 (.if_icmp .ge 12) 3 rfl) rfl rfl (fun hc => ?_) (fun hc => ?_)
    · replace h := it_t hc h
      refine Ak_iconst 21 (d_Values_worthOf 10 20 (.iconst 0) 1 rfl) rfl (rk rfl) ?_
      cases h
      exact Ak_iret rfl (d_Values_worthOf 11 21 (.ireturn) 1 rfl)
    · replace h := it_f hc h
      refine Ak_aload_n 12 0 (d_Values_worthOf 5 11 (.aload_n 0) 1 rfl) rfl rfl rfl ?_
      refine Ak_getF 15 2 hO clX10 (by decide) rfl lkF_Values_15 (d_Values_worthOf 6 12 (.getfield 15) 3 rfl) rfl ?_
      refine Ak_iload_n 16 1 (d_Values_worthOf 7 15 (.iload_n 1) 1 rfl) rfl rfl rfl ?_
      obtain ⟨ha1, h⟩ := gd_some h
      refine Ak_iaload 17 ha1 (d_Values_worthOf 8 16 (.iaload) 1 rfl) rfl ?_
      refine Ak_goto 21 (d_Values_worthOf 9 17 (.goto 4) 3 rfl) rfl ?_
      cases h
      exact Ak_iret rfl (d_Values_worthOf 11 21 (.ireturn) 1 rfl)
theorem c_Values_stepsOf {S : ASh} {V : ASt} {x0 x1 : Int} {r : Int} {V' : ASt} (h : f_Values_stepsOf S V x0 x1 = some (r, V')) : ACt m_Values_stepsOf 3 0 0 [(aR x0), (aI x1)] S V (some (aI r)) S V' := by
  unfold f_Values_stepsOf at h
  obtain ⟨hO, h⟩ := gd_some h
  refine ACt_of (plainFor_of_name rfl) rfl (Nat.le_of_ble_eq_true rfl) ?_
  show AWk m_Values_stepsOf 3 0 0 0 0 0 [some (aR x0), some (aI x1)] [] S V (some (aI r)) S V'
  refine Ak_aload_n 1 0 (d_Values_stepsOf 0 0 (.aload_n 0) 1 rfl) rfl rfl rfl ?_
  refine Ak_iload_n 2 1 (d_Values_stepsOf 1 1 (.iload_n 1) 1 rfl) rfl rfl rfl ?_
  obtain ⟨r1, V2, h3, h⟩ := bnd_some h
  refine Ak_cV1 5 2 (c_Values_worthOf h3) rfl hO clX10 rfl mok_Values_worthOf lkM_Values_55 (d_Values_stepsOf 2 2 (.invokevirtual 55) 3 rfl) rfl (by decide) (Nat.le_of_ble_eq_true rfl) ?_
  refine Ak_if_eq 17 8 (d_Values_stepsOf 3 5 (.ifCond .eq 12) 3 rfl) rfl rfl (fun hc => ?_) (fun hc => ?_)
  · replace h := it_t hc h
    refine Ak_iconst 18 (d_Values_stepsOf 9 17 (.iconst (-1)) 1 rfl) rfl (rk rfl) ?_
    cases h
    exact Ak_iret rfl (d_Values_stepsOf 10 18 (.ireturn) 1 rfl)
  · replace h := it_f hc h
    refine Ak_aload_n 9 0 (d_Values_stepsOf 4 8 (.aload_n 0) 1 rfl) rfl rfl rfl ?_
    refine Ak_getF 12 3 hO clX10 (by decide) rfl lkF_Values_19 (d_Values_stepsOf 5 9 (.getfield 19) 3 rfl) rfl ?_
    refine Ak_iload_n 13 1 (d_Values_stepsOf 6 12 (.iload_n 1) 1 rfl) rfl rfl rfl ?_
    obtain ⟨ha4, h⟩ := gd_some h
    refine Ak_iaload 14 ha4 (d_Values_stepsOf 7 13 (.iaload) 1 rfl) rfl ?_
    refine Ak_goto 18 (d_Values_stepsOf 8 14 (.goto 4) 3 rfl) rfl ?_
    cases h
    exact Ak_iret rfl (d_Values_stepsOf 10 18 (.ireturn) 1 rfl)
theorem t_Values_bestMoveOf_J76 {S : ASh} {K8 : ASt → Int → Option (Int × ASt)} {V : ASt} {x0 x1 x2 x3 x5 s0 : Int} {r : Int} {V' : ASt} (hO : isO S x0 10 = true) (hK8 : ∀ {V : ASt} {y3 : Int} {r : Int} {V' : ASt}, K8 V y3 = some (r, V') → AWk m_Values_bestMoveOf 4 0 0 0 0 8 [some (aR x0), some (aI x1), some (aI x2), some (aI y3)] [] S V (some (aI r)) S V') (h : b_Values_bestMoveOf_J76 S K8 V x0 x1 x2 x3 x5 s0 = some (r, V')) : AWk m_Values_bestMoveOf 4 0 0 0 0 76 [some (aR x0), some (aI x1), some (aI x2), some (aI x3), none, some (aI x5)] [(aI s0)] S V (some (aI r)) S V' := by
  unfold b_Values_bestMoveOf_J76 at h
  refine Ak_istore 78 (d_Values_bestMoveOf 41 76 (.istore 6) 2 rfl) rfl (by decide) ?_
  refine Ak_iload 80 (d_Values_bestMoveOf 42 78 (.iload 5) 2 rfl) rfl rfl ?_
  refine Ak_iload_n 81 2 (d_Values_bestMoveOf 43 80 (.iload_n 2) 1 rfl) rfl rfl rfl ?_
  refine Ak_icmp_ne 100 84 (d_Values_bestMoveOf 44 81 (.if_icmp .ne 19) 3 rfl) rfl rfl (fun hc => ?_) (fun hc => ?_)
  · replace h := it_f hc h
    refine Ak_iinc 103 (d_Values_bestMoveOf 54 100 (.iinc 3 1) 3 rfl) rfl rfl (by decide) ?_
    refine Ak_goto 8 (d_Values_bestMoveOf 55 103 (.goto (-95)) 3 rfl) rfl ?_
    refine Ak_keep [true, true, true, true] ?_
    exact hK8 h
  · replace h := it_t hc h
    refine Ak_iload_n 85 2 (d_Values_bestMoveOf 45 84 (.iload_n 2) 1 rfl) rfl rfl rfl ?_
    refine Ak_if_eq 98 88 (d_Values_bestMoveOf 46 85 (.ifCond .eq 13) 3 rfl) rfl rfl (fun hc => ?_) (fun hc => ?_)
    · replace h := it_t hc h
      refine Ak_iload_n 99 3 (d_Values_bestMoveOf 52 98 (.iload_n 3) 1 rfl) rfl rfl rfl ?_
      cases h
      exact Ak_iret rfl (d_Values_bestMoveOf 53 99 (.ireturn) 1 rfl)
    · replace h := it_f hc h
      refine Ak_iload 90 (d_Values_bestMoveOf 47 88 (.iload 6) 2 rfl) rfl rfl ?_
      refine Ak_aload_n 91 0 (d_Values_bestMoveOf 48 90 (.aload_n 0) 1 rfl) rfl rfl rfl ?_
      refine Ak_iload_n 92 1 (d_Values_bestMoveOf 49 91 (.iload_n 1) 1 rfl) rfl rfl rfl ?_
      obtain ⟨r1, V2, h3, h⟩ := bnd_some h
      refine Ak_cV1 95 3 (c_Values_stepsOf h3) rfl hO clX10 rfl mok_Values_stepsOf lkM_Values_68 (d_Values_bestMoveOf 50 92 (.invokevirtual 68) 3 rfl) rfl (by decide) (Nat.le_of_ble_eq_true rfl) ?_
      refine Ak_icmp_ne 100 98 (d_Values_bestMoveOf 51 95 (.if_icmp .ne 5) 3 rfl) rfl rfl (fun hc => ?_) (fun hc => ?_)
      · replace h := it_f hc h
        refine Ak_iinc 103 (d_Values_bestMoveOf 54 100 (.iinc 3 1) 3 rfl) rfl rfl (by decide) ?_
        refine Ak_goto 8 (d_Values_bestMoveOf 55 103 (.goto (-95)) 3 rfl) rfl ?_
        refine Ak_keep [true, true, true, true] ?_
        exact hK8 h
      · replace h := it_t hc h
        refine Ak_iload_n 99 3 (d_Values_bestMoveOf 52 98 (.iload_n 3) 1 rfl) rfl rfl rfl ?_
        cases h
        exact Ak_iret rfl (d_Values_bestMoveOf 53 99 (.ireturn) 1 rfl)
theorem t_Values_bestMoveOf_J57 {S : ASh} {K8 : ASt → Int → Option (Int × ASt)} {V : ASt} {x0 x1 x2 x3 x4 s0 : Int} {r : Int} {V' : ASt} (hO : isO S x0 10 = true) (hK8 : ∀ {V : ASt} {y3 : Int} {r : Int} {V' : ASt}, K8 V y3 = some (r, V') → AWk m_Values_bestMoveOf 4 0 0 0 0 8 [some (aR x0), some (aI x1), some (aI x2), some (aI y3)] [] S V (some (aI r)) S V') (h : b_Values_bestMoveOf_J57 S K8 V x0 x1 x2 x3 x4 s0 = some (r, V')) : AWk m_Values_bestMoveOf 4 0 0 0 0 57 [some (aR x0), some (aI x1), some (aI x2), some (aI x3), some (aI x4)] [(aI s0)] S V (some (aI r)) S V' := by
  unfold b_Values_bestMoveOf_J57 at h
  refine Ak_istore 59 (d_Values_bestMoveOf 31 57 (.istore 5) 2 rfl) rfl (by decide) ?_
  refine Ak_iload 61 (d_Values_bestMoveOf 32 59 (.iload 4) 2 rfl) rfl rfl ?_
  refine Ak_if_lt 75 64 (d_Values_bestMoveOf 33 61 (.ifCond .lt 14) 3 rfl) rfl rfl (fun hc => ?_) (fun hc => ?_)
  · replace h := it_t hc h
    refine Ak_iconst 76 (d_Values_bestMoveOf 40 75 (.iconst 1) 1 rfl) rfl (rk rfl) ?_
    refine Ak_keep [true, true, true, true, false, true] ?_
    exact t_Values_bestMoveOf_J76 hO (fun h => hK8 h) h
  · replace h := it_f hc h
    refine Ak_aload_n 65 0 (d_Values_bestMoveOf 34 64 (.aload_n 0) 1 rfl) rfl rfl rfl ?_
    refine Ak_iload 67 (d_Values_bestMoveOf 35 65 (.iload 4) 2 rfl) rfl rfl ?_
    obtain ⟨r4, V5, h6, h⟩ := bnd_some h
    refine Ak_cV1 70 3 (c_Values_stepsOf h6) rfl hO clX10 rfl mok_Values_stepsOf lkM_Values_68 (d_Values_bestMoveOf 36 67 (.invokevirtual 68) 3 rfl) rfl (by decide) (Nat.le_of_ble_eq_true rfl) ?_
    refine Ak_iconst 71 (d_Values_bestMoveOf 37 70 (.iconst 1) 1 rfl) rfl (rk rfl) ?_
    refine Ak_iadd 72 (d_Values_bestMoveOf 38 71 (.iadd) 1 rfl) rfl ?_
    refine Ak_goto 76 (d_Values_bestMoveOf 39 72 (.goto 4) 3 rfl) rfl ?_
    refine Ak_keep [true, true, true, true, false, true] ?_
    exact t_Values_bestMoveOf_J76 hO (fun h => hK8 h) h
theorem t_Values_bestMoveOf_L8 {S : ASh} {x0 x1 x2 : Int} (hO : isO S x0 10 = true) : ∀ (n : Nat) (V : ASt) (x3 : Int) (r : Int) (V' : ASt), b_Values_bestMoveOf_L8 S x0 x1 x2 n V x3 = some (r, V') → AWk m_Values_bestMoveOf 4 0 0 0 0 8 [some (aR x0), some (aI x1), some (aI x2), some (aI x3)] [] S V (some (aI r)) S V' := by
  intro n
  induction n with
  | zero => intro V x3 r V' h; cases h
  | succ n ih =>
    intro V x3 r V' h
    replace ih : ∀ {V : ASt} {x3 : Int} {r : Int} {V' : ASt}, b_Values_bestMoveOf_L8 S x0 x1 x2 n V x3 = some (r, V') → AWk m_Values_bestMoveOf 4 0 0 0 0 8 [some (aR x0), some (aI x1), some (aI x2), some (aI x3)] [] S V (some (aI r)) S V' := fun h => ih _ _ _ _ h
    rw [b_Values_bestMoveOf_L8] at h
    refine Ak_iload_n 9 3 (d_Values_bestMoveOf 6 8 (.iload_n 3) 1 rfl) rfl rfl rfl ?_
    refine Ak_aload_n 10 0 (d_Values_bestMoveOf 7 9 (.aload_n 0) 1 rfl) rfl rfl rfl ?_
    refine Ak_getF 13 1 hO clX10 (by decide) rfl lkF_Values_51 (d_Values_bestMoveOf 8 10 (.getfield 51) 3 rfl) rfl ?_
    refine Ak_iload_n 14 1 (d_Values_bestMoveOf 9 13 (.iload_n 1) 1 rfl) rfl rfl rfl ?_
    obtain ⟨hg10, h⟩ := gd_some h
    obtain ⟨r7, V8, h9, h⟩ := bnd_some h
    refine Ak_cV1 17 2 (c_Moves_countOf h9) rfl hg10 clX4 rfl mok_Moves_countOf lkM_Values_59 (d_Values_bestMoveOf 10 14 (.invokevirtual 59) 3 rfl) rfl (by decide) (Nat.le_of_ble_eq_true rfl) ?_
    refine Ak_icmp_ge 106 20 (d_Values_bestMoveOf 11 17 (.if_icmp .ge 89) 3 rfl) rfl rfl (fun hc => ?_) (fun hc => ?_)
    · replace h := it_t hc h
      refine Ak_iconst 107 (d_Values_bestMoveOf 56 106 (.iconst (-1)) 1 rfl) rfl (rk rfl) ?_
      cases h
      exact Ak_iret rfl (d_Values_bestMoveOf 57 107 (.ireturn) 1 rfl)
    · replace h := it_f hc h
      refine Ak_aload_n 21 0 (d_Values_bestMoveOf 12 20 (.aload_n 0) 1 rfl) rfl rfl rfl ?_
      refine Ak_getF 24 1 hO clX10 (by decide) rfl lkF_Values_51 (d_Values_bestMoveOf 13 21 (.getfield 51) 3 rfl) rfl ?_
      refine Ak_iload_n 25 1 (d_Values_bestMoveOf 14 24 (.iload_n 1) 1 rfl) rfl rfl rfl ?_
      refine Ak_iload_n 26 3 (d_Values_bestMoveOf 15 25 (.iload_n 3) 1 rfl) rfl rfl rfl ?_
      obtain ⟨r11, V12, h13, h⟩ := bnd_some h
      refine Ak_cV1 29 3 (c_Moves_nextOf h13) rfl hg10 clX4 rfl mok_Moves_nextOf lkM_Values_64 (d_Values_bestMoveOf 16 26 (.invokevirtual 64) 3 rfl) rfl (by decide) (Nat.le_of_ble_eq_true rfl) ?_
      refine Ak_istore 31 (d_Values_bestMoveOf 17 29 (.istore 4) 2 rfl) rfl (by decide) ?_
      refine Ak_iload 33 (d_Values_bestMoveOf 18 31 (.iload 4) 2 rfl) rfl rfl ?_
      refine Ak_if_lt 46 36 (d_Values_bestMoveOf 19 33 (.ifCond .lt 13) 3 rfl) rfl rfl (fun hc => ?_) (fun hc => ?_)
      · replace h := it_t hc h
        refine Ak_iload 48 (d_Values_bestMoveOf 25 46 (.iload 4) 2 rfl) rfl rfl ?_
        refine Ak_iconst 49 (d_Values_bestMoveOf 26 48 (.iconst (-1)) 1 rfl) rfl (rk rfl) ?_
        refine Ak_icmp_ne 56 52 (d_Values_bestMoveOf 27 49 (.if_icmp .ne 7) 3 rfl) rfl rfl (fun hc => ?_) (fun hc => ?_)
        · replace h := it_f hc h
          refine Ak_iconst 57 (d_Values_bestMoveOf 30 56 (.iconst (-1)) 1 rfl) rfl (rk rfl) ?_
          refine Ak_keep [true, true, true, true, true] ?_
          exact t_Values_bestMoveOf_J57 hO (fun h => ih h) h
        · replace h := it_t hc h
          refine Ak_iconst 53 (d_Values_bestMoveOf 28 52 (.iconst 1) 1 rfl) rfl (rk rfl) ?_
          refine Ak_goto 57 (d_Values_bestMoveOf 29 53 (.goto 4) 3 rfl) rfl ?_
          refine Ak_keep [true, true, true, true, true] ?_
          exact t_Values_bestMoveOf_J57 hO (fun h => ih h) h
      · replace h := it_f hc h
        refine Ak_aload_n 37 0 (d_Values_bestMoveOf 20 36 (.aload_n 0) 1 rfl) rfl rfl rfl ?_
        refine Ak_iload 39 (d_Values_bestMoveOf 21 37 (.iload 4) 2 rfl) rfl rfl ?_
        obtain ⟨r14, V15, h16, h⟩ := bnd_some h
        refine Ak_cV1 42 2 (c_Values_worthOf h16) rfl hO clX10 rfl mok_Values_worthOf lkM_Values_55 (d_Values_bestMoveOf 22 39 (.invokevirtual 55) 3 rfl) rfl (by decide) (Nat.le_of_ble_eq_true rfl) ?_
        refine Ak_ineg 43 (d_Values_bestMoveOf 23 42 (.ineg) 1 rfl) rfl ?_
        refine Ak_goto 57 (d_Values_bestMoveOf 24 43 (.goto 14) 3 rfl) rfl ?_
        refine Ak_keep [true, true, true, true, true] ?_
        exact t_Values_bestMoveOf_J57 hO (fun h => ih h) h
theorem c_Values_bestMoveOf {S : ASh} {V : ASt} {x0 x1 : Int} {r : Int} {V' : ASt} (h : f_Values_bestMoveOf S V x0 x1 = some (r, V')) : ACt m_Values_bestMoveOf 4 0 0 [(aR x0), (aI x1)] S V (some (aI r)) S V' := by
  unfold f_Values_bestMoveOf at h
  obtain ⟨hO, h⟩ := gd_some h
  refine ACt_of (plainFor_of_name rfl) rfl (Nat.le_of_ble_eq_true rfl) ?_
  show AWk m_Values_bestMoveOf 4 0 0 0 0 0 [some (aR x0), some (aI x1)] [] S V (some (aI r)) S V'
  refine Ak_aload_n 1 0 (d_Values_bestMoveOf 0 0 (.aload_n 0) 1 rfl) rfl rfl rfl ?_
  refine Ak_iload_n 2 1 (d_Values_bestMoveOf 1 1 (.iload_n 1) 1 rfl) rfl rfl rfl ?_
  obtain ⟨r17, V18, h19, h⟩ := bnd_some h
  refine Ak_cV1 5 2 (c_Values_worthOf h19) rfl hO clX10 rfl mok_Values_worthOf lkM_Values_55 (d_Values_bestMoveOf 2 2 (.invokevirtual 55) 3 rfl) rfl (by decide) (Nat.le_of_ble_eq_true rfl) ?_
  refine Ak_istore_n 6 2 (d_Values_bestMoveOf 3 5 (.istore_n 2) 1 rfl) rfl rfl (by decide) ?_
  refine Ak_iconst 7 (d_Values_bestMoveOf 4 6 (.iconst 0) 1 rfl) rfl (rk rfl) ?_
  refine Ak_istore_n 8 3 (d_Values_bestMoveOf 5 7 (.istore_n 3) 1 rfl) rfl rfl (by decide) ?_
  refine Ak_keep [true, true, true, true] ?_
  exact t_Values_bestMoveOf_L8 hO FU _ _ _ _ h
theorem t_Values_findSources_L32 {S : ASh} {K10 : ASt → Int → Option (Int × ASt)} {x0 x1 x2 : Int} (hO : isO S x0 10 = true) (hK10 : ∀ {V : ASt} {y1 : Int} {r : Int} {V' : ASt}, K10 V y1 = some (r, V') → AWk m_Values_findSources 4 0 0 0 0 10 [some (aR x0), some (aI y1)] [] S V none S V') : ∀ (n : Nat) (V : ASt) (x3 : Int) (r : Int) (V' : ASt), b_Values_findSources_L32 S K10 x0 x1 x2 n V x3 = some (r, V') → AWk m_Values_findSources 4 0 0 0 0 32 [some (aR x0), some (aI x1), some (aI x2), some (aI x3)] [] S V none S V' := by
  intro n
  induction n with
  | zero => intro V x3 r V' h; cases h
  | succ n ih =>
    intro V x3 r V' h
    replace ih : ∀ {V : ASt} {x3 : Int} {r : Int} {V' : ASt}, b_Values_findSources_L32 S K10 x0 x1 x2 n V x3 = some (r, V') → AWk m_Values_findSources 4 0 0 0 0 32 [some (aR x0), some (aI x1), some (aI x2), some (aI x3)] [] S V none S V' := fun h => ih _ _ _ _ h
    rw [b_Values_findSources_L32] at h
    refine Ak_iload_n 33 3 (d_Values_findSources 18 32 (.iload_n 3) 1 rfl) rfl rfl rfl ?_
    refine Ak_aload_n 34 0 (d_Values_findSources 19 33 (.aload_n 0) 1 rfl) rfl rfl rfl ?_
    refine Ak_getF 37 1 hO clX10 (by decide) rfl lkF_Values_51 (d_Values_findSources 20 34 (.getfield 51) 3 rfl) rfl ?_
    refine Ak_iload_n 38 2 (d_Values_findSources 21 37 (.iload_n 2) 1 rfl) rfl rfl rfl ?_
    obtain ⟨hg4, h⟩ := gd_some h
    obtain ⟨r1, V2, h3, h⟩ := bnd_some h
    refine Ak_cV1 41 2 (c_Moves_countOf h3) rfl hg4 clX4 rfl mok_Moves_countOf lkM_Values_59 (d_Values_findSources 22 38 (.invokevirtual 59) 3 rfl) rfl (by decide) (Nat.le_of_ble_eq_true rfl) ?_
    refine Ak_icmp_ge 85 44 (d_Values_findSources 23 41 (.if_icmp .ge 44) 3 rfl) rfl rfl (fun hc => ?_) (fun hc => ?_)
    · replace h := it_t hc h
      refine Ak_iinc 88 (d_Values_findSources 45 85 (.iinc 1 1) 3 rfl) rfl rfl (by decide) ?_
      refine Ak_goto 10 (d_Values_findSources 46 88 (.goto (-78)) 3 rfl) rfl ?_
      refine Ak_keep [true, true] ?_
      exact hK10 h
    · replace h := it_f hc h
      refine Ak_aload_n 45 0 (d_Values_findSources 24 44 (.aload_n 0) 1 rfl) rfl rfl rfl ?_
      refine Ak_getF 48 1 hO clX10 (by decide) rfl lkF_Values_51 (d_Values_findSources 25 45 (.getfield 51) 3 rfl) rfl ?_
      refine Ak_iload_n 49 2 (d_Values_findSources 26 48 (.iload_n 2) 1 rfl) rfl rfl rfl ?_
      refine Ak_iload_n 50 3 (d_Values_findSources 27 49 (.iload_n 3) 1 rfl) rfl rfl rfl ?_
      obtain ⟨r5, V6, h7, h⟩ := bnd_some h
      refine Ak_cV1 53 3 (c_Moves_nextOf h7) rfl hg4 clX4 rfl mok_Moves_nextOf lkM_Values_64 (d_Values_findSources 28 50 (.invokevirtual 64) 3 rfl) rfl (by decide) (Nat.le_of_ble_eq_true rfl) ?_
      refine Ak_istore 55 (d_Values_findSources 29 53 (.istore 4) 2 rfl) rfl (by decide) ?_
      refine Ak_iload 57 (d_Values_findSources 30 55 (.iload 4) 2 rfl) rfl rfl ?_
      refine Ak_if_lt 79 60 (d_Values_findSources 31 57 (.ifCond .lt 22) 3 rfl) rfl rfl (fun hc => ?_) (fun hc => ?_)
      · replace h := it_t hc h
        refine Ak_iinc 82 (d_Values_findSources 43 79 (.iinc 3 1) 3 rfl) rfl rfl (by decide) ?_
        refine Ak_goto 32 (d_Values_findSources 44 82 (.goto (-50)) 3 rfl) rfl ?_
        refine Ak_keep [true, true, true, true] ?_
        exact ih h
      · replace h := it_f hc h
        refine Ak_iload 62 (d_Values_findSources 32 60 (.iload 4) 2 rfl) rfl rfl ?_
        refine Ak_sipush 65 (d_Values_findSources 33 62 (.sipush 200) 3 rfl) rfl (sp_ok rfl) (rk rfl) ?_
        refine Ak_icmp_ge 79 68 (d_Values_findSources 34 65 (.if_icmp .ge 14) 3 rfl) rfl rfl (fun hc => ?_) (fun hc => ?_)
        · replace h := it_t hc h
          refine Ak_iinc 82 (d_Values_findSources 43 79 (.iinc 3 1) 3 rfl) rfl rfl (by decide) ?_
          refine Ak_goto 32 (d_Values_findSources 44 82 (.goto (-50)) 3 rfl) rfl ?_
          refine Ak_keep [true, true, true, true] ?_
          exact ih h
        · replace h := it_f hc h
          refine Ak_aload_n 69 0 (d_Values_findSources 35 68 (.aload_n 0) 1 rfl) rfl rfl rfl ?_
          refine Ak_getF 72 5 hO clX10 (by decide) rfl lkF_Values_25 (d_Values_findSources 36 69 (.getfield 25) 3 rfl) rfl ?_
          refine Ak_iload 74 (d_Values_findSources 37 72 (.iload 4) 2 rfl) rfl rfl ?_
          refine Ak_dup2 75 (d_Values_findSources 38 74 (.dup2) 1 rfl) rfl rfl rfl ?_
          obtain ⟨ha8, h⟩ := gd_some h
          refine Ak_iaload 76 ha8 (d_Values_findSources 39 75 (.iaload) 1 rfl) rfl ?_
          refine Ak_iconst 77 (d_Values_findSources 40 76 (.iconst 1) 1 rfl) rfl (rk rfl) ?_
          refine Ak_iadd 78 (d_Values_findSources 41 77 (.iadd) 1 rfl) rfl ?_
          refine Ak_iastore 79 ha8 (d_Values_findSources 42 78 (.iastore) 1 rfl) rfl (fun V9 hV9 => ?_)
          replace h := wV_some h V9 hV9
          refine Ak_iinc 82 (d_Values_findSources 43 79 (.iinc 3 1) 3 rfl) rfl rfl (by decide) ?_
          refine Ak_goto 32 (d_Values_findSources 44 82 (.goto (-50)) 3 rfl) rfl ?_
          refine Ak_keep [true, true, true, true] ?_
          exact ih h
theorem t_Values_findSources_L147 {S : ASh} {K125 : ASt → Int → Option (Int × ASt)} {x0 x1 x2 : Int} (hO : isO S x0 10 = true) (hK125 : ∀ {V : ASt} {y1 : Int} {r : Int} {V' : ASt}, K125 V y1 = some (r, V') → AWk m_Values_findSources 4 0 0 0 0 125 [some (aR x0), some (aI y1)] [] S V none S V') : ∀ (n : Nat) (V : ASt) (x3 : Int) (r : Int) (V' : ASt), b_Values_findSources_L147 S K125 x0 x1 x2 n V x3 = some (r, V') → AWk m_Values_findSources 4 0 0 0 0 147 [some (aR x0), some (aI x1), some (aI x2), some (aI x3)] [] S V none S V' := by
  intro n
  induction n with
  | zero => intro V x3 r V' h; cases h
  | succ n ih =>
    intro V x3 r V' h
    replace ih : ∀ {V : ASt} {x3 : Int} {r : Int} {V' : ASt}, b_Values_findSources_L147 S K125 x0 x1 x2 n V x3 = some (r, V') → AWk m_Values_findSources 4 0 0 0 0 147 [some (aR x0), some (aI x1), some (aI x2), some (aI x3)] [] S V none S V' := fun h => ih _ _ _ _ h
    rw [b_Values_findSources_L147] at h
    refine Ak_iload_n 148 3 (d_Values_findSources 81 147 (.iload_n 3) 1 rfl) rfl rfl rfl ?_
    refine Ak_aload_n 149 0 (d_Values_findSources 82 148 (.aload_n 0) 1 rfl) rfl rfl rfl ?_
    refine Ak_getF 152 1 hO clX10 (by decide) rfl lkF_Values_51 (d_Values_findSources 83 149 (.getfield 51) 3 rfl) rfl ?_
    refine Ak_iload_n 153 2 (d_Values_findSources 84 152 (.iload_n 2) 1 rfl) rfl rfl rfl ?_
    obtain ⟨hg13, h⟩ := gd_some h
    obtain ⟨r10, V11, h12, h⟩ := bnd_some h
    refine Ak_cV1 156 2 (c_Moves_countOf h12) rfl hg13 clX4 rfl mok_Moves_countOf lkM_Values_59 (d_Values_findSources 85 153 (.invokevirtual 59) 3 rfl) rfl (by decide) (Nat.le_of_ble_eq_true rfl) ?_
    refine Ak_icmp_ge 213 159 (d_Values_findSources 86 156 (.if_icmp .ge 57) 3 rfl) rfl rfl (fun hc => ?_) (fun hc => ?_)
    · replace h := it_t hc h
      refine Ak_iinc 216 (d_Values_findSources 116 213 (.iinc 1 1) 3 rfl) rfl rfl (by decide) ?_
      refine Ak_goto 125 (d_Values_findSources 117 216 (.goto (-91)) 3 rfl) rfl ?_
      refine Ak_keep [true, true] ?_
      exact hK125 h
    · replace h := it_f hc h
      refine Ak_aload_n 160 0 (d_Values_findSources 87 159 (.aload_n 0) 1 rfl) rfl rfl rfl ?_
      refine Ak_getF 163 1 hO clX10 (by decide) rfl lkF_Values_51 (d_Values_findSources 88 160 (.getfield 51) 3 rfl) rfl ?_
      refine Ak_iload_n 164 2 (d_Values_findSources 89 163 (.iload_n 2) 1 rfl) rfl rfl rfl ?_
      refine Ak_iload_n 165 3 (d_Values_findSources 90 164 (.iload_n 3) 1 rfl) rfl rfl rfl ?_
      obtain ⟨r14, V15, h16, h⟩ := bnd_some h
      refine Ak_cV1 168 3 (c_Moves_nextOf h16) rfl hg13 clX4 rfl mok_Moves_nextOf lkM_Values_64 (d_Values_findSources 91 165 (.invokevirtual 64) 3 rfl) rfl (by decide) (Nat.le_of_ble_eq_true rfl) ?_
      refine Ak_istore 170 (d_Values_findSources 92 168 (.istore 4) 2 rfl) rfl (by decide) ?_
      refine Ak_iload 172 (d_Values_findSources 93 170 (.iload 4) 2 rfl) rfl rfl ?_
      refine Ak_if_lt 207 175 (d_Values_findSources 94 172 (.ifCond .lt 35) 3 rfl) rfl rfl (fun hc => ?_) (fun hc => ?_)
      · replace h := it_t hc h
        refine Ak_iinc 210 (d_Values_findSources 114 207 (.iinc 3 1) 3 rfl) rfl rfl (by decide) ?_
        refine Ak_goto 147 (d_Values_findSources 115 210 (.goto (-63)) 3 rfl) rfl ?_
        refine Ak_keep [true, true, true, true] ?_
        exact ih h
      · replace h := it_f hc h
        refine Ak_iload 177 (d_Values_findSources 95 175 (.iload 4) 2 rfl) rfl rfl ?_
        refine Ak_sipush 180 (d_Values_findSources 96 177 (.sipush 200) 3 rfl) rfl (sp_ok rfl) (rk rfl) ?_
        refine Ak_icmp_ge 207 183 (d_Values_findSources 97 180 (.if_icmp .ge 27) 3 rfl) rfl rfl (fun hc => ?_) (fun hc => ?_)
        · replace h := it_t hc h
          refine Ak_iinc 210 (d_Values_findSources 114 207 (.iinc 3 1) 3 rfl) rfl rfl (by decide) ?_
          refine Ak_goto 147 (d_Values_findSources 115 210 (.goto (-63)) 3 rfl) rfl ?_
          refine Ak_keep [true, true, true, true] ?_
          exact ih h
        · replace h := it_f hc h
          refine Ak_aload_n 184 0 (d_Values_findSources 98 183 (.aload_n 0) 1 rfl) rfl rfl rfl ?_
          refine Ak_getF 187 5 hO clX10 (by decide) rfl lkF_Values_25 (d_Values_findSources 99 184 (.getfield 25) 3 rfl) rfl ?_
          refine Ak_iload 189 (d_Values_findSources 100 187 (.iload 4) 2 rfl) rfl rfl ?_
          refine Ak_dup2 190 (d_Values_findSources 101 189 (.dup2) 1 rfl) rfl rfl rfl ?_
          obtain ⟨ha17, h⟩ := gd_some h
          refine Ak_iaload 191 ha17 (d_Values_findSources 102 190 (.iaload) 1 rfl) rfl ?_
          refine Ak_iconst 192 (d_Values_findSources 103 191 (.iconst 1) 1 rfl) rfl (rk rfl) ?_
          refine Ak_isub 193 (d_Values_findSources 104 192 (.isub) 1 rfl) rfl ?_
          refine Ak_iastore 194 ha17 (d_Values_findSources 105 193 (.iastore) 1 rfl) rfl (fun V18 hV18 => ?_)
          replace h := wV_some h V18 hV18
          refine Ak_aload_n 195 0 (d_Values_findSources 106 194 (.aload_n 0) 1 rfl) rfl rfl rfl ?_
          refine Ak_getF 198 6 hO clX10 (by decide) rfl lkF_Values_28 (d_Values_findSources 107 195 (.getfield 28) 3 rfl) rfl ?_
          refine Ak_aload_n 199 0 (d_Values_findSources 108 198 (.aload_n 0) 1 rfl) rfl rfl rfl ?_
          refine Ak_getF 202 5 hO clX10 (by decide) rfl lkF_Values_25 (d_Values_findSources 109 199 (.getfield 25) 3 rfl) rfl ?_
          refine Ak_iload 204 (d_Values_findSources 110 202 (.iload 4) 2 rfl) rfl rfl ?_
          refine Ak_iaload 205 ha17 (d_Values_findSources 111 204 (.iaload) 1 rfl) rfl ?_
          refine Ak_iload_n 206 2 (d_Values_findSources 112 205 (.iload_n 2) 1 rfl) rfl rfl rfl ?_
          obtain ⟨ha19, h⟩ := gd_some h
          refine Ak_iastore 207 ha19 (d_Values_findSources 113 206 (.iastore) 1 rfl) rfl (fun V20 hV20 => ?_)
          replace h := wV_some h V20 hV20
          refine Ak_iinc 210 (d_Values_findSources 114 207 (.iinc 3 1) 3 rfl) rfl rfl (by decide) ?_
          refine Ak_goto 147 (d_Values_findSources 115 210 (.goto (-63)) 3 rfl) rfl ?_
          refine Ak_keep [true, true, true, true] ?_
          exact ih h
theorem t_Values_findSources_L125 {S : ASh} {x0 : Int} (hO : isO S x0 10 = true) : ∀ (n : Nat) (V : ASt) (x1 : Int) (r : Int) (V' : ASt), b_Values_findSources_L125 S x0 n V x1 = some (r, V') → AWk m_Values_findSources 4 0 0 0 0 125 [some (aR x0), some (aI x1)] [] S V none S V' := by
  intro n
  induction n with
  | zero => intro V x1 r V' h; cases h
  | succ n ih =>
    intro V x1 r V' h
    replace ih : ∀ {V : ASt} {x1 : Int} {r : Int} {V' : ASt}, b_Values_findSources_L125 S x0 n V x1 = some (r, V') → AWk m_Values_findSources 4 0 0 0 0 125 [some (aR x0), some (aI x1)] [] S V none S V' := fun h => ih _ _ _ _ h
    rw [b_Values_findSources_L125] at h
    refine Ak_iload_n 126 1 (d_Values_findSources 69 125 (.iload_n 1) 1 rfl) rfl rfl rfl ?_
    refine Ak_aload_n 127 0 (d_Values_findSources 70 126 (.aload_n 0) 1 rfl) rfl rfl rfl ?_
    refine Ak_getF 130 1 hO clX10 (by decide) rfl lkF_Values_51 (d_Values_findSources 71 127 (.getfield 51) 3 rfl) rfl ?_
    obtain ⟨hg21, h⟩ := gd_some h
    refine Ak_getI 133 1 hg21 clX4 (by decide) (Or.inl rfl) lkF_Values_74 (d_Values_findSources 72 130 (.getfield 74) 3 rfl) rfl ?_
    refine Ak_icmp_ge 219 136 (d_Values_findSources 73 133 (.if_icmp .ge 86) 3 rfl) rfl rfl (fun hc => ?_) (fun hc => ?_)
    · replace h := it_t hc h
      cases h
      exact Ak_vret rfl (d_Values_findSources 118 219 (.return_) 1 rfl)
    · replace h := it_f hc h
      refine Ak_aload_n 137 0 (d_Values_findSources 74 136 (.aload_n 0) 1 rfl) rfl rfl rfl ?_
      refine Ak_getF 140 1 hO clX10 (by decide) rfl lkF_Values_51 (d_Values_findSources 75 137 (.getfield 51) 3 rfl) rfl ?_
      refine Ak_iload_n 141 1 (d_Values_findSources 76 140 (.iload_n 1) 1 rfl) rfl rfl rfl ?_
      obtain ⟨r22, V23, h24, h⟩ := bnd_some h
      refine Ak_cV1 144 2 (c_Moves_listedAt h24) rfl hg21 clX4 rfl mok_Moves_listedAt lkM_Values_77 (d_Values_findSources 77 141 (.invokevirtual 77) 3 rfl) rfl (by decide) (Nat.le_of_ble_eq_true rfl) ?_
      refine Ak_istore_n 145 2 (d_Values_findSources 78 144 (.istore_n 2) 1 rfl) rfl rfl (by decide) ?_
      refine Ak_iconst 146 (d_Values_findSources 79 145 (.iconst 0) 1 rfl) rfl (rk rfl) ?_
      refine Ak_istore_n 147 3 (d_Values_findSources 80 146 (.istore_n 3) 1 rfl) rfl rfl (by decide) ?_
      refine Ak_keep [true, true, true, true] ?_
      exact t_Values_findSources_L147 hO (fun h => ih h) FU _ _ _ _ h
theorem t_Values_findSources_L93 {S : ASh} {x0 : Int} (hO : isO S x0 10 = true) : ∀ (n : Nat) (V : ASt) (x1 : Int) (r : Int) (V' : ASt), b_Values_findSources_L93 S x0 n V x1 = some (r, V') → AWk m_Values_findSources 4 0 0 0 0 93 [some (aR x0), some (aI x1)] [] S V none S V' := by
  intro n
  induction n with
  | zero => intro V x1 r V' h; cases h
  | succ n ih =>
    intro V x1 r V' h
    replace ih : ∀ {V : ASt} {x1 : Int} {r : Int} {V' : ASt}, b_Values_findSources_L93 S x0 n V x1 = some (r, V') → AWk m_Values_findSources 4 0 0 0 0 93 [some (aR x0), some (aI x1)] [] S V none S V' := fun h => ih _ _ _ _ h
    rw [b_Values_findSources_L93] at h
    refine Ak_iload_n 94 1 (d_Values_findSources 49 93 (.iload_n 1) 1 rfl) rfl rfl rfl ?_
    refine Ak_sipush 97 (d_Values_findSources 50 94 (.sipush 200) 3 rfl) rfl (sp_ok rfl) (rk rfl) ?_
    refine Ak_icmp_gt 123 100 (d_Values_findSources 51 97 (.if_icmp .gt 26) 3 rfl) rfl rfl (fun hc => ?_) (fun hc => ?_)
    · replace h := it_t hc h
      refine Ak_iconst 124 (d_Values_findSources 67 123 (.iconst 0) 1 rfl) rfl (rk rfl) ?_
      refine Ak_istore_n 125 1 (d_Values_findSources 68 124 (.istore_n 1) 1 rfl) rfl rfl (by decide) ?_
      refine Ak_keep [true, true] ?_
      exact t_Values_findSources_L125 hO FU _ _ _ _ h
    · replace h := it_f hc h
      refine Ak_aload_n 101 0 (d_Values_findSources 52 100 (.aload_n 0) 1 rfl) rfl rfl rfl ?_
      refine Ak_getF 104 5 hO clX10 (by decide) rfl lkF_Values_25 (d_Values_findSources 53 101 (.getfield 25) 3 rfl) rfl ?_
      refine Ak_iload_n 105 1 (d_Values_findSources 54 104 (.iload_n 1) 1 rfl) rfl rfl rfl ?_
      refine Ak_dup2 106 (d_Values_findSources 55 105 (.dup2) 1 rfl) rfl rfl rfl ?_
      obtain ⟨ha25, h⟩ := gd_some h
      refine Ak_iaload 107 ha25 (d_Values_findSources 56 106 (.iaload) 1 rfl) rfl ?_
      refine Ak_aload_n 108 0 (d_Values_findSources 57 107 (.aload_n 0) 1 rfl) rfl rfl rfl ?_
      refine Ak_getF 111 5 hO clX10 (by decide) rfl lkF_Values_25 (d_Values_findSources 58 108 (.getfield 25) 3 rfl) rfl ?_
      refine Ak_iload_n 112 1 (d_Values_findSources 59 111 (.iload_n 1) 1 rfl) rfl rfl rfl ?_
      refine Ak_iconst 113 (d_Values_findSources 60 112 (.iconst 1) 1 rfl) rfl (rk rfl) ?_
      refine Ak_isub 114 (d_Values_findSources 61 113 (.isub) 1 rfl) rfl ?_
      obtain ⟨ha26, h⟩ := gd_some h
      refine Ak_iaload 115 ha26 (d_Values_findSources 62 114 (.iaload) 1 rfl) rfl ?_
      refine Ak_iadd 116 (d_Values_findSources 63 115 (.iadd) 1 rfl) rfl ?_
      refine Ak_iastore 117 ha25 (d_Values_findSources 64 116 (.iastore) 1 rfl) rfl (fun V27 hV27 => ?_)
      replace h := wV_some h V27 hV27
      refine Ak_iinc 120 (d_Values_findSources 65 117 (.iinc 1 1) 3 rfl) rfl rfl (by decide) ?_
      refine Ak_goto 93 (d_Values_findSources 66 120 (.goto (-27)) 3 rfl) rfl ?_
      refine Ak_keep [true, true] ?_
      exact ih h
theorem t_Values_findSources_L10 {S : ASh} {x0 : Int} (hO : isO S x0 10 = true) : ∀ (n : Nat) (V : ASt) (x1 : Int) (r : Int) (V' : ASt), b_Values_findSources_L10 S x0 n V x1 = some (r, V') → AWk m_Values_findSources 4 0 0 0 0 10 [some (aR x0), some (aI x1)] [] S V none S V' := by
  intro n
  induction n with
  | zero => intro V x1 r V' h; cases h
  | succ n ih =>
    intro V x1 r V' h
    replace ih : ∀ {V : ASt} {x1 : Int} {r : Int} {V' : ASt}, b_Values_findSources_L10 S x0 n V x1 = some (r, V') → AWk m_Values_findSources 4 0 0 0 0 10 [some (aR x0), some (aI x1)] [] S V none S V' := fun h => ih _ _ _ _ h
    rw [b_Values_findSources_L10] at h
    refine Ak_iload_n 11 1 (d_Values_findSources 6 10 (.iload_n 1) 1 rfl) rfl rfl rfl ?_
    refine Ak_aload_n 12 0 (d_Values_findSources 7 11 (.aload_n 0) 1 rfl) rfl rfl rfl ?_
    refine Ak_getF 15 1 hO clX10 (by decide) rfl lkF_Values_51 (d_Values_findSources 8 12 (.getfield 51) 3 rfl) rfl ?_
    obtain ⟨hg28, h⟩ := gd_some h
    refine Ak_getI 18 1 hg28 clX4 (by decide) (Or.inl rfl) lkF_Values_74 (d_Values_findSources 9 15 (.getfield 74) 3 rfl) rfl ?_
    refine Ak_icmp_ge 91 21 (d_Values_findSources 10 18 (.if_icmp .ge 73) 3 rfl) rfl rfl (fun hc => ?_) (fun hc => ?_)
    · replace h := it_t hc h
      refine Ak_iconst 92 (d_Values_findSources 47 91 (.iconst 1) 1 rfl) rfl (rk rfl) ?_
      refine Ak_istore_n 93 1 (d_Values_findSources 48 92 (.istore_n 1) 1 rfl) rfl rfl (by decide) ?_
      refine Ak_keep [true, true] ?_
      exact t_Values_findSources_L93 hO FU _ _ _ _ h
    · replace h := it_f hc h
      refine Ak_aload_n 22 0 (d_Values_findSources 11 21 (.aload_n 0) 1 rfl) rfl rfl rfl ?_
      refine Ak_getF 25 1 hO clX10 (by decide) rfl lkF_Values_51 (d_Values_findSources 12 22 (.getfield 51) 3 rfl) rfl ?_
      refine Ak_iload_n 26 1 (d_Values_findSources 13 25 (.iload_n 1) 1 rfl) rfl rfl rfl ?_
      obtain ⟨r29, V30, h31, h⟩ := bnd_some h
      refine Ak_cV1 29 2 (c_Moves_listedAt h31) rfl hg28 clX4 rfl mok_Moves_listedAt lkM_Values_77 (d_Values_findSources 14 26 (.invokevirtual 77) 3 rfl) rfl (by decide) (Nat.le_of_ble_eq_true rfl) ?_
      refine Ak_istore_n 30 2 (d_Values_findSources 15 29 (.istore_n 2) 1 rfl) rfl rfl (by decide) ?_
      refine Ak_iconst 31 (d_Values_findSources 16 30 (.iconst 0) 1 rfl) rfl (rk rfl) ?_
      refine Ak_istore_n 32 3 (d_Values_findSources 17 31 (.istore_n 3) 1 rfl) rfl rfl (by decide) ?_
      refine Ak_keep [true, true, true, true] ?_
      exact t_Values_findSources_L32 hO (fun h => ih h) FU _ _ _ _ h
theorem c_Values_findSources {S : ASh} {V : ASt} {x0 : Int} {r : Int} {V' : ASt} (h : f_Values_findSources S V x0 = some (r, V')) : ACt m_Values_findSources 4 0 0 [(aR x0)] S V none S V' := by
  unfold f_Values_findSources at h
  obtain ⟨hO, h⟩ := gd_some h
  refine ACt_of (plainFor_of_name rfl) rfl (Nat.le_of_ble_eq_true rfl) ?_
  show AWk m_Values_findSources 4 0 0 0 0 0 [some (aR x0)] [] S V none S V'
  refine Ak_aload_n 1 0 (d_Values_findSources 0 0 (.aload_n 0) 1 rfl) rfl rfl rfl ?_
  refine Ak_getF 4 5 hO clX10 (by decide) rfl lkF_Values_25 (d_Values_findSources 1 1 (.getfield 25) 3 rfl) rfl ?_
  refine Ak_iconst 5 (d_Values_findSources 2 4 (.iconst 0) 1 rfl) rfl (rk rfl) ?_
  obtain ⟨r32, V33, h34, h⟩ := bnd_some h
  refine Ak_cS0 8 2 (c_Arrays_fill h34) rfl mok_Arrays_fill lkM_Values_90 (d_Values_findSources 3 5 (.invokestatic 90) 3 rfl) rfl (by decide) (Nat.le_of_ble_eq_true rfl) ?_
  refine Ak_iconst 9 (d_Values_findSources 4 8 (.iconst 0) 1 rfl) rfl (rk rfl) ?_
  refine Ak_istore_n 10 1 (d_Values_findSources 5 9 (.istore_n 1) 1 rfl) rfl rfl (by decide) ?_
  refine Ak_keep [true, true] ?_
  exact t_Values_findSources_L10 hO FU _ _ _ _ h
theorem c_Values_enqueue {S : ASh} {V : ASt} {x0 x1 : Int} {r : Int} {V' : ASt} (h : f_Values_enqueue S V x0 x1 = some (r, V')) : ACt m_Values_enqueue 2 0 0 [(aR x0), (aI x1)] S V none S V' := by
  unfold f_Values_enqueue at h
  obtain ⟨hO, h⟩ := gd_some h
  refine ACt_of (plainFor_of_name rfl) rfl (Nat.le_of_ble_eq_true rfl) ?_
  show AWk m_Values_enqueue 2 0 0 0 0 0 [some (aR x0), some (aI x1)] [] S V none S V'
  refine Ak_aload_n 1 0 (d_Values_enqueue 0 0 (.aload_n 0) 1 rfl) rfl rfl rfl ?_
  refine Ak_getI 4 8 hO clX10 (by decide) (Or.inl rfl) lkF_Values_34 (d_Values_enqueue 1 1 (.getfield 34) 3 rfl) rfl ?_
  refine Ak_sipush 7 (d_Values_enqueue 2 4 (.sipush 200) 3 rfl) rfl (sp_ok rfl) (rk rfl) ?_
  refine Ak_icmp_ge 30 10 (d_Values_enqueue 3 7 (.if_icmp .ge 23) 3 rfl) rfl rfl (fun hc => ?_) (fun hc => ?_)
  · replace h := it_t hc h
    cases h
    exact Ak_vret rfl (d_Values_enqueue 16 30 (.return_) 1 rfl)
  · replace h := it_f hc h
    refine Ak_aload_n 11 0 (d_Values_enqueue 4 10 (.aload_n 0) 1 rfl) rfl rfl rfl ?_
    refine Ak_getF 14 7 hO clX10 (by decide) rfl lkF_Values_31 (d_Values_enqueue 5 11 (.getfield 31) 3 rfl) rfl ?_
    refine Ak_aload_n 15 0 (d_Values_enqueue 6 14 (.aload_n 0) 1 rfl) rfl rfl rfl ?_
    refine Ak_getI 18 8 hO clX10 (by decide) (Or.inl rfl) lkF_Values_34 (d_Values_enqueue 7 15 (.getfield 34) 3 rfl) rfl ?_
    refine Ak_iload_n 19 1 (d_Values_enqueue 8 18 (.iload_n 1) 1 rfl) rfl rfl rfl ?_
    obtain ⟨ha1, h⟩ := gd_some h
    refine Ak_iastore 20 ha1 (d_Values_enqueue 9 19 (.iastore) 1 rfl) rfl (fun V2 hV2 => ?_)
    replace h := wV_some h V2 hV2
    refine Ak_aload_n 21 0 (d_Values_enqueue 10 20 (.aload_n 0) 1 rfl) rfl rfl rfl ?_
    refine Ak_dup 22 (d_Values_enqueue 11 21 (.dup) 1 rfl) rfl rfl ?_
    refine Ak_getI 25 8 hO clX10 (by decide) (Or.inl rfl) lkF_Values_34 (d_Values_enqueue 12 22 (.getfield 34) 3 rfl) rfl ?_
    refine Ak_iconst 26 (d_Values_enqueue 13 25 (.iconst 1) 1 rfl) rfl (rk rfl) ?_
    refine Ak_iadd 27 (d_Values_enqueue 14 26 (.iadd) 1 rfl) rfl ?_
    refine Ak_putI 30 8 hO clX10 (by decide) rfl rfl rfl lkF_Values_34 (d_Values_enqueue 15 27 (.putfield 34) 3 rfl) rfl (fun V3 hV3 => ?_)
    replace h := wV_some h V3 hV3
    cases h
    exact Ak_vret rfl (d_Values_enqueue 16 30 (.return_) 1 rfl)
theorem c_Values_settle {S : ASh} {V : ASt} {x0 x1 x2 x3 : Int} {r : Int} {V' : ASt} (h : f_Values_settle S V x0 x1 x2 x3 = some (r, V')) : ACt m_Values_settle 3 0 0 [(aR x0), (aI x1), (aI x2), (aI x3)] S V none S V' := by
  unfold f_Values_settle at h
  obtain ⟨hO, h⟩ := gd_some h
  refine ACt_of (plainFor_of_name rfl) rfl (Nat.le_of_ble_eq_true rfl) ?_
  show AWk m_Values_settle 3 0 0 0 0 0 [some (aR x0), some (aI x1), some (aI x2), some (aI x3)] [] S V none S V'
  refine Ak_aload_n 1 0 (d_Values_settle 0 0 (.aload_n 0) 1 rfl) rfl rfl rfl ?_
  refine Ak_getF 4 2 hO clX10 (by decide) rfl lkF_Values_15 (d_Values_settle 1 1 (.getfield 15) 3 rfl) rfl ?_
  refine Ak_iload_n 5 1 (d_Values_settle 2 4 (.iload_n 1) 1 rfl) rfl rfl rfl ?_
  refine Ak_iload_n 6 2 (d_Values_settle 3 5 (.iload_n 2) 1 rfl) rfl rfl rfl ?_
  obtain ⟨ha1, h⟩ := gd_some h
  refine Ak_iastore 7 ha1 (d_Values_settle 4 6 (.iastore) 1 rfl) rfl (fun V2 hV2 => ?_)
  replace h := wV_some h V2 hV2
  refine Ak_aload_n 8 0 (d_Values_settle 5 7 (.aload_n 0) 1 rfl) rfl rfl rfl ?_
  refine Ak_getF 11 3 hO clX10 (by decide) rfl lkF_Values_19 (d_Values_settle 6 8 (.getfield 19) 3 rfl) rfl ?_
  refine Ak_iload_n 12 1 (d_Values_settle 7 11 (.iload_n 1) 1 rfl) rfl rfl rfl ?_
  refine Ak_iload_n 13 3 (d_Values_settle 8 12 (.iload_n 3) 1 rfl) rfl rfl rfl ?_
  obtain ⟨ha3, h⟩ := gd_some h
  refine Ak_iastore 14 ha3 (d_Values_settle 9 13 (.iastore) 1 rfl) rfl (fun V4 hV4 => ?_)
  replace h := wV_some h V4 hV4
  refine Ak_aload_n 15 0 (d_Values_settle 10 14 (.aload_n 0) 1 rfl) rfl rfl rfl ?_
  refine Ak_iload_n 16 1 (d_Values_settle 11 15 (.iload_n 1) 1 rfl) rfl rfl rfl ?_
  obtain ⟨r5, V6, h7, h⟩ := bnd_some h
  refine Ak_cV0 19 2 (c_Values_enqueue h7) rfl hO clX10 rfl mok_Values_enqueue lkM_Values_96 (d_Values_settle 12 16 (.invokevirtual 96) 3 rfl) rfl (by decide) (Nat.le_of_ble_eq_true rfl) ?_
  cases h
  exact Ak_vret rfl (d_Values_settle 13 19 (.return_) 1 rfl)
theorem t_Values_settleIfStuck_J46 {S : ASh} {V : ASt} {x0 s0 s1 s2 : Int} {r : Int} {V' : ASt} (hO : isO S x0 10 = true) (h : b_Values_settleIfStuck_J46 S  V x0 s0 s1 s2 = some (r, V')) : AWk m_Values_settleIfStuck 4 0 0 0 0 46 [some (aR x0)] [(aI s2), (aI s1), (aR s0)] S V none S V' := by
  unfold b_Values_settleIfStuck_J46 at h
  refine Ak_iconst 47 (d_Values_settleIfStuck 28 46 (.iconst 0) 1 rfl) rfl (rk rfl) ?_
  obtain ⟨hg4, h⟩ := gd_some h
  obtain ⟨r1, V2, h3, h⟩ := bnd_some h
  refine Ak_cV0 50 3 (c_Values_settle h3) rfl hg4 clX10 rfl mok_Values_settle lkM_Values_102 (d_Values_settleIfStuck 29 47 (.invokevirtual 102) 3 rfl) rfl (by decide) (Nat.le_of_ble_eq_true rfl) ?_
  cases h
  exact Ak_vret rfl (d_Values_settleIfStuck 30 50 (.return_) 1 rfl)
theorem c_Values_settleIfStuck {S : ASh} {V : ASt} {x0 x1 : Int} {r : Int} {V' : ASt} (h : f_Values_settleIfStuck S V x0 x1 = some (r, V')) : ACt m_Values_settleIfStuck 4 0 0 [(aR x0), (aI x1)] S V none S V' := by
  unfold f_Values_settleIfStuck at h
  obtain ⟨hO, h⟩ := gd_some h
  refine ACt_of (plainFor_of_name rfl) rfl (Nat.le_of_ble_eq_true rfl) ?_
  show AWk m_Values_settleIfStuck 4 0 0 0 0 0 [some (aR x0), some (aI x1)] [] S V none S V'
  refine Ak_aload_n 1 0 (d_Values_settleIfStuck 0 0 (.aload_n 0) 1 rfl) rfl rfl rfl ?_
  refine Ak_getF 4 2 hO clX10 (by decide) rfl lkF_Values_15 (d_Values_settleIfStuck 1 1 (.getfield 15) 3 rfl) rfl ?_
  refine Ak_iload_n 5 1 (d_Values_settleIfStuck 2 4 (.iload_n 1) 1 rfl) rfl rfl rfl ?_
  refine Ak_iconst 6 (d_Values_settleIfStuck 3 5 (.iconst 0) 1 rfl) rfl (rk rfl) ?_
  obtain ⟨ha5, h⟩ := gd_some h
  refine Ak_iastore 7 ha5 (d_Values_settleIfStuck 4 6 (.iastore) 1 rfl) rfl (fun V6 hV6 => ?_)
  replace h := wV_some h V6 hV6
  refine Ak_aload_n 8 0 (d_Values_settleIfStuck 5 7 (.aload_n 0) 1 rfl) rfl rfl rfl ?_
  refine Ak_getF 11 1 hO clX10 (by decide) rfl lkF_Values_51 (d_Values_settleIfStuck 6 8 (.getfield 51) 3 rfl) rfl ?_
  refine Ak_iload_n 12 1 (d_Values_settleIfStuck 7 11 (.iload_n 1) 1 rfl) rfl rfl rfl ?_
  obtain ⟨hg10, h⟩ := gd_some h
  obtain ⟨r7, V8, h9, h⟩ := bnd_some h
  refine Ak_cV1 15 2 (c_Moves_countOf h9) rfl hg10 clX4 rfl mok_Moves_countOf lkM_Values_59 (d_Values_settleIfStuck 8 12 (.invokevirtual 59) 3 rfl) rfl (by decide) (Nat.le_of_ble_eq_true rfl) ?_
  refine Ak_if_ne 50 18 (d_Values_settleIfStuck 9 15 (.ifCond .ne 35) 3 rfl) rfl rfl (fun hc => ?_) (fun hc => ?_)
  · replace h := it_f hc h
    cases h
    exact Ak_vret rfl (d_Values_settleIfStuck 30 50 (.return_) 1 rfl)
  · replace h := it_t hc h
    refine Ak_aload_n 19 0 (d_Values_settleIfStuck 10 18 (.aload_n 0) 1 rfl) rfl rfl rfl ?_
    refine Ak_getF 22 1 hO clX10 (by decide) rfl lkF_Values_51 (d_Values_settleIfStuck 11 19 (.getfield 51) 3 rfl) rfl ?_
    refine Ak_iload_n 23 1 (d_Values_settleIfStuck 12 22 (.iload_n 1) 1 rfl) rfl rfl rfl ?_
    obtain ⟨r11, V12, h13, h⟩ := bnd_some h
    refine Ak_cV1 26 3 (c_Moves_winnerWhenStuck h13) rfl hg10 clX4 rfl mok_Moves_winnerWhenStuck lkM_Values_99 (d_Values_settleIfStuck 13 23 (.invokevirtual 99) 3 rfl) rfl (by decide) (Nat.le_of_ble_eq_true rfl) ?_
    refine Ak_istore_n 27 2 (d_Values_settleIfStuck 14 26 (.istore_n 2) 1 rfl) rfl rfl (by decide) ?_
    refine Ak_iload_n 28 2 (d_Values_settleIfStuck 15 27 (.iload_n 2) 1 rfl) rfl rfl rfl ?_
    refine Ak_iconst 29 (d_Values_settleIfStuck 16 28 (.iconst 2) 1 rfl) rfl (rk rfl) ?_
    refine Ak_icmp_eq 50 32 (d_Values_settleIfStuck 17 29 (.if_icmp .eq 21) 3 rfl) rfl rfl (fun hc => ?_) (fun hc => ?_)
    · replace h := it_t hc h
      cases h
      exact Ak_vret rfl (d_Values_settleIfStuck 30 50 (.return_) 1 rfl)
    · replace h := it_f hc h
      refine Ak_aload_n 33 0 (d_Values_settleIfStuck 18 32 (.aload_n 0) 1 rfl) rfl rfl rfl ?_
      refine Ak_iload_n 34 1 (d_Values_settleIfStuck 19 33 (.iload_n 1) 1 rfl) rfl rfl rfl ?_
      refine Ak_iload_n 35 2 (d_Values_settleIfStuck 20 34 (.iload_n 2) 1 rfl) rfl rfl rfl ?_
      refine Ak_iload_n 36 1 (d_Values_settleIfStuck 21 35 (.iload_n 1) 1 rfl) rfl rfl rfl ?_
      refine Ak_iconst 37 (d_Values_settleIfStuck 22 36 (.iconst 1) 1 rfl) rfl (rk rfl) ?_
      refine Ak_iand 38 (d_Values_settleIfStuck 23 37 (.iand) 1 rfl) rfl ?_
      refine Ak_icmp_ne 45 41 (d_Values_settleIfStuck 24 38 (.if_icmp .ne 7) 3 rfl) rfl rfl (fun hc => ?_) (fun hc => ?_)
      · replace h := it_f hc h
        refine Ak_iconst 46 (d_Values_settleIfStuck 27 45 (.iconst (-1)) 1 rfl) rfl (rk rfl) ?_
        refine Ak_keep [true] ?_
        exact t_Values_settleIfStuck_J46 hO h
      · replace h := it_t hc h
        refine Ak_iconst 42 (d_Values_settleIfStuck 25 41 (.iconst 1) 1 rfl) rfl (rk rfl) ?_
        refine Ak_goto 46 (d_Values_settleIfStuck 26 42 (.goto 4) 3 rfl) rfl ?_
        refine Ak_keep [true] ?_
        exact t_Values_settleIfStuck_J46 hO h
theorem t_Values_countLeadingOn_L4 {S : ASh} {x0 x1 : Int} (hO : isO S x0 10 = true) : ∀ (n : Nat) (V : ASt) (x2 x3 : Int) (r : Int) (V' : ASt), b_Values_countLeadingOn_L4 S x0 x1 n V x2 x3 = some (r, V') → AWk m_Values_countLeadingOn 4 0 0 0 0 4 [some (aR x0), some (aI x1), some (aI x2), some (aI x3)] [] S V (some (aI r)) S V' := by
  intro n
  induction n with
  | zero => intro V x2 x3 r V' h; cases h
  | succ n ih =>
    intro V x2 x3 r V' h
    replace ih : ∀ {V : ASt} {x2 x3 : Int} {r : Int} {V' : ASt}, b_Values_countLeadingOn_L4 S x0 x1 n V x2 x3 = some (r, V') → AWk m_Values_countLeadingOn 4 0 0 0 0 4 [some (aR x0), some (aI x1), some (aI x2), some (aI x3)] [] S V (some (aI r)) S V' := fun h => ih _ _ _ _ _ h
    rw [b_Values_countLeadingOn_L4] at h
    refine Ak_iload_n 5 3 (d_Values_countLeadingOn 4 4 (.iload_n 3) 1 rfl) rfl rfl rfl ?_
    refine Ak_aload_n 6 0 (d_Values_countLeadingOn 5 5 (.aload_n 0) 1 rfl) rfl rfl rfl ?_
    refine Ak_getF 9 1 hO clX10 (by decide) rfl lkF_Values_51 (d_Values_countLeadingOn 6 6 (.getfield 51) 3 rfl) rfl ?_
    refine Ak_iload_n 10 1 (d_Values_countLeadingOn 7 9 (.iload_n 1) 1 rfl) rfl rfl rfl ?_
    obtain ⟨hg4, h⟩ := gd_some h
    obtain ⟨r1, V2, h3, h⟩ := bnd_some h
    refine Ak_cV1 13 2 (c_Moves_countOf h3) rfl hg4 clX4 rfl mok_Moves_countOf lkM_Values_59 (d_Values_countLeadingOn 8 10 (.invokevirtual 59) 3 rfl) rfl (by decide) (Nat.le_of_ble_eq_true rfl) ?_
    refine Ak_icmp_ge 42 16 (d_Values_countLeadingOn 9 13 (.if_icmp .ge 29) 3 rfl) rfl rfl (fun hc => ?_) (fun hc => ?_)
    · replace h := it_t hc h
      refine Ak_iload_n 43 2 (d_Values_countLeadingOn 24 42 (.iload_n 2) 1 rfl) rfl rfl rfl ?_
      cases h
      exact Ak_iret rfl (d_Values_countLeadingOn 25 43 (.ireturn) 1 rfl)
    · replace h := it_f hc h
      refine Ak_iload_n 17 2 (d_Values_countLeadingOn 10 16 (.iload_n 2) 1 rfl) rfl rfl rfl ?_
      refine Ak_aload_n 18 0 (d_Values_countLeadingOn 11 17 (.aload_n 0) 1 rfl) rfl rfl rfl ?_
      refine Ak_getF 21 1 hO clX10 (by decide) rfl lkF_Values_51 (d_Values_countLeadingOn 12 18 (.getfield 51) 3 rfl) rfl ?_
      refine Ak_iload_n 22 1 (d_Values_countLeadingOn 13 21 (.iload_n 1) 1 rfl) rfl rfl rfl ?_
      refine Ak_iload_n 23 3 (d_Values_countLeadingOn 14 22 (.iload_n 3) 1 rfl) rfl rfl rfl ?_
      obtain ⟨r5, V6, h7, h⟩ := bnd_some h
      refine Ak_cV1 26 3 (c_Moves_nextOf h7) rfl hg4 clX4 rfl mok_Moves_nextOf lkM_Values_64 (d_Values_countLeadingOn 15 23 (.invokevirtual 64) 3 rfl) rfl (by decide) (Nat.le_of_ble_eq_true rfl) ?_
      refine Ak_if_lt 33 29 (d_Values_countLeadingOn 16 26 (.ifCond .lt 7) 3 rfl) rfl rfl (fun hc => ?_) (fun hc => ?_)
      · replace h := it_t hc h
        refine Ak_iconst 34 (d_Values_countLeadingOn 19 33 (.iconst 0) 1 rfl) rfl (rk rfl) ?_
        refine Ak_iadd 35 (d_Values_countLeadingOn 20 34 (.iadd) 1 rfl) rfl ?_
        refine Ak_istore_n 36 2 (d_Values_countLeadingOn 21 35 (.istore_n 2) 1 rfl) rfl rfl (by decide) ?_
        refine Ak_iinc 39 (d_Values_countLeadingOn 22 36 (.iinc 3 1) 3 rfl) rfl rfl (by decide) ?_
        refine Ak_goto 4 (d_Values_countLeadingOn 23 39 (.goto (-35)) 3 rfl) rfl ?_
        refine Ak_keep [true, true, true, true] ?_
        exact ih h
      · replace h := it_f hc h
        refine Ak_iconst 30 (d_Values_countLeadingOn 17 29 (.iconst 1) 1 rfl) rfl (rk rfl) ?_
        refine Ak_goto 34 (d_Values_countLeadingOn 18 30 (.goto 4) 3 rfl) rfl ?_
        refine Ak_iadd 35 (d_Values_countLeadingOn 20 34 (.iadd) 1 rfl) rfl ?_
        refine Ak_istore_n 36 2 (d_Values_countLeadingOn 21 35 (.istore_n 2) 1 rfl) rfl rfl (by decide) ?_
        refine Ak_iinc 39 (d_Values_countLeadingOn 22 36 (.iinc 3 1) 3 rfl) rfl rfl (by decide) ?_
        refine Ak_goto 4 (d_Values_countLeadingOn 23 39 (.goto (-35)) 3 rfl) rfl ?_
        refine Ak_keep [true, true, true, true] ?_
        exact ih h
theorem c_Values_countLeadingOn {S : ASh} {V : ASt} {x0 x1 : Int} {r : Int} {V' : ASt} (h : f_Values_countLeadingOn S V x0 x1 = some (r, V')) : ACt m_Values_countLeadingOn 4 0 0 [(aR x0), (aI x1)] S V (some (aI r)) S V' := by
  unfold f_Values_countLeadingOn at h
  obtain ⟨hO, h⟩ := gd_some h
  refine ACt_of (plainFor_of_name rfl) rfl (Nat.le_of_ble_eq_true rfl) ?_
  show AWk m_Values_countLeadingOn 4 0 0 0 0 0 [some (aR x0), some (aI x1)] [] S V (some (aI r)) S V'
  refine Ak_iconst 1 (d_Values_countLeadingOn 0 0 (.iconst 0) 1 rfl) rfl (rk rfl) ?_
  refine Ak_istore_n 2 2 (d_Values_countLeadingOn 1 1 (.istore_n 2) 1 rfl) rfl rfl (by decide) ?_
  refine Ak_iconst 3 (d_Values_countLeadingOn 2 2 (.iconst 0) 1 rfl) rfl (rk rfl) ?_
  refine Ak_istore_n 4 3 (d_Values_countLeadingOn 3 3 (.istore_n 3) 1 rfl) rfl rfl (by decide) ?_
  refine Ak_keep [true, true, true, true] ?_
  exact t_Values_countLeadingOn_L4 hO FU _ _ _ _ _ h
theorem t_Values_settleIfEnding_L15 {S : ASh} {x0 x1 : Int} (hO : isO S x0 10 = true) : ∀ (n : Nat) (V : ASt) (x2 x3 : Int) (r : Int) (V' : ASt), b_Values_settleIfEnding_L15 S x0 x1 n V x2 x3 = some (r, V') → AWk m_Values_settleIfEnding 5 0 0 0 0 15 [some (aR x0), some (aI x1), some (aI x2), some (aI x3)] [] S V none S V' := by
  intro n
  induction n with
  | zero => intro V x2 x3 r V' h; cases h
  | succ n ih =>
    intro V x2 x3 r V' h
    replace ih : ∀ {V : ASt} {x2 x3 : Int} {r : Int} {V' : ASt}, b_Values_settleIfEnding_L15 S x0 x1 n V x2 x3 = some (r, V') → AWk m_Values_settleIfEnding 5 0 0 0 0 15 [some (aR x0), some (aI x1), some (aI x2), some (aI x3)] [] S V none S V' := fun h => ih _ _ _ _ _ h
    rw [b_Values_settleIfEnding_L15] at h
    refine Ak_iload_n 16 3 (d_Values_settleIfEnding 11 15 (.iload_n 3) 1 rfl) rfl rfl rfl ?_
    refine Ak_aload_n 17 0 (d_Values_settleIfEnding 12 16 (.aload_n 0) 1 rfl) rfl rfl rfl ?_
    refine Ak_getF 20 1 hO clX10 (by decide) rfl lkF_Values_51 (d_Values_settleIfEnding 13 17 (.getfield 51) 3 rfl) rfl ?_
    refine Ak_iload_n 21 1 (d_Values_settleIfEnding 14 20 (.iload_n 1) 1 rfl) rfl rfl rfl ?_
    obtain ⟨hg4, h⟩ := gd_some h
    obtain ⟨r1, V2, h3, h⟩ := bnd_some h
    refine Ak_cV1 24 2 (c_Moves_countOf h3) rfl hg4 clX4 rfl mok_Moves_countOf lkM_Values_59 (d_Values_settleIfEnding 15 21 (.invokevirtual 59) 3 rfl) rfl (by decide) (Nat.le_of_ble_eq_true rfl) ?_
    refine Ak_icmp_ge 54 27 (d_Values_settleIfEnding 16 24 (.if_icmp .ge 30) 3 rfl) rfl rfl (fun hc => ?_) (fun hc => ?_)
    · replace h := it_t hc h
      refine Ak_iload_n 55 2 (d_Values_settleIfEnding 32 54 (.iload_n 2) 1 rfl) rfl rfl rfl ?_
      refine Ak_if_eq 68 58 (d_Values_settleIfEnding 33 55 (.ifCond .eq 13) 3 rfl) rfl rfl (fun hc => ?_) (fun hc => ?_)
      · replace h := it_t hc h
        refine Ak_aload_n 69 0 (d_Values_settleIfEnding 40 68 (.aload_n 0) 1 rfl) rfl rfl rfl ?_
        refine Ak_getF 72 4 hO clX10 (by decide) rfl lkF_Values_22 (d_Values_settleIfEnding 41 69 (.getfield 22) 3 rfl) rfl ?_
        refine Ak_iload_n 73 1 (d_Values_settleIfEnding 42 72 (.iload_n 1) 1 rfl) rfl rfl rfl ?_
        obtain ⟨ha5, h⟩ := gd_some h
        refine Ak_iaload 74 ha5 (d_Values_settleIfEnding 43 73 (.iaload) 1 rfl) rfl ?_
        refine Ak_if_ne 95 77 (d_Values_settleIfEnding 44 74 (.ifCond .ne 21) 3 rfl) rfl rfl (fun hc => ?_) (fun hc => ?_)
        · replace h := it_f hc h
          cases h
          exact Ak_vret rfl (d_Values_settleIfEnding 55 95 (.return_) 1 rfl)
        · replace h := it_t hc h
          refine Ak_aload_n 78 0 (d_Values_settleIfEnding 45 77 (.aload_n 0) 1 rfl) rfl rfl rfl ?_
          refine Ak_getF 81 1 hO clX10 (by decide) rfl lkF_Values_51 (d_Values_settleIfEnding 46 78 (.getfield 51) 3 rfl) rfl ?_
          refine Ak_iload_n 82 1 (d_Values_settleIfEnding 47 81 (.iload_n 1) 1 rfl) rfl rfl rfl ?_
          obtain ⟨r6, V7, h8, h⟩ := bnd_some h
          refine Ak_cV1 85 2 (c_Moves_countOf h8) rfl hg4 clX4 rfl mok_Moves_countOf lkM_Values_59 (d_Values_settleIfEnding 48 82 (.invokevirtual 59) 3 rfl) rfl (by decide) (Nat.le_of_ble_eq_true rfl) ?_
          refine Ak_if_le 95 88 (d_Values_settleIfEnding 49 85 (.ifCond .le 10) 3 rfl) rfl rfl (fun hc => ?_) (fun hc => ?_)
          · replace h := it_t hc h
            cases h
            exact Ak_vret rfl (d_Values_settleIfEnding 55 95 (.return_) 1 rfl)
          · replace h := it_f hc h
            refine Ak_aload_n 89 0 (d_Values_settleIfEnding 50 88 (.aload_n 0) 1 rfl) rfl rfl rfl ?_
            refine Ak_iload_n 90 1 (d_Values_settleIfEnding 51 89 (.iload_n 1) 1 rfl) rfl rfl rfl ?_
            refine Ak_iconst 91 (d_Values_settleIfEnding 52 90 (.iconst (-1)) 1 rfl) rfl (rk rfl) ?_
            refine Ak_iconst 92 (d_Values_settleIfEnding 53 91 (.iconst 1) 1 rfl) rfl (rk rfl) ?_
            obtain ⟨r9, V10, h11, h⟩ := bnd_some h
            refine Ak_cV0 95 3 (c_Values_settle h11) rfl hO clX10 rfl mok_Values_settle lkM_Values_102 (d_Values_settleIfEnding 54 92 (.invokevirtual 102) 3 rfl) rfl (by decide) (Nat.le_of_ble_eq_true rfl) ?_
            cases h
            exact Ak_vret rfl (d_Values_settleIfEnding 55 95 (.return_) 1 rfl)
      · replace h := it_f hc h
        refine Ak_aload_n 59 0 (d_Values_settleIfEnding 34 58 (.aload_n 0) 1 rfl) rfl rfl rfl ?_
        refine Ak_iload_n 60 1 (d_Values_settleIfEnding 35 59 (.iload_n 1) 1 rfl) rfl rfl rfl ?_
        refine Ak_iconst 61 (d_Values_settleIfEnding 36 60 (.iconst 1) 1 rfl) rfl (rk rfl) ?_
        refine Ak_iconst 62 (d_Values_settleIfEnding 37 61 (.iconst 1) 1 rfl) rfl (rk rfl) ?_
        obtain ⟨r12, V13, h14, h⟩ := bnd_some h
        refine Ak_cV0 65 3 (c_Values_settle h14) rfl hO clX10 rfl mok_Values_settle lkM_Values_102 (d_Values_settleIfEnding 38 62 (.invokevirtual 102) 3 rfl) rfl (by decide) (Nat.le_of_ble_eq_true rfl) ?_
        refine Ak_goto 95 (d_Values_settleIfEnding 39 65 (.goto 30) 3 rfl) rfl ?_
        cases h
        exact Ak_vret rfl (d_Values_settleIfEnding 55 95 (.return_) 1 rfl)
    · replace h := it_f hc h
      refine Ak_iload_n 28 2 (d_Values_settleIfEnding 17 27 (.iload_n 2) 1 rfl) rfl rfl rfl ?_
      refine Ak_aload_n 29 0 (d_Values_settleIfEnding 18 28 (.aload_n 0) 1 rfl) rfl rfl rfl ?_
      refine Ak_getF 32 1 hO clX10 (by decide) rfl lkF_Values_51 (d_Values_settleIfEnding 19 29 (.getfield 51) 3 rfl) rfl ?_
      refine Ak_iload_n 33 1 (d_Values_settleIfEnding 20 32 (.iload_n 1) 1 rfl) rfl rfl rfl ?_
      refine Ak_iload_n 34 3 (d_Values_settleIfEnding 21 33 (.iload_n 3) 1 rfl) rfl rfl rfl ?_
      obtain ⟨r15, V16, h17, h⟩ := bnd_some h
      refine Ak_cV1 37 3 (c_Moves_nextOf h17) rfl hg4 clX4 rfl mok_Moves_nextOf lkM_Values_64 (d_Values_settleIfEnding 22 34 (.invokevirtual 64) 3 rfl) rfl (by decide) (Nat.le_of_ble_eq_true rfl) ?_
      refine Ak_iconst 38 (d_Values_settleIfEnding 23 37 (.iconst (-1)) 1 rfl) rfl (rk rfl) ?_
      refine Ak_icmp_ne 45 41 (d_Values_settleIfEnding 24 38 (.if_icmp .ne 7) 3 rfl) rfl rfl (fun hc => ?_) (fun hc => ?_)
      · replace h := it_f hc h
        refine Ak_iconst 46 (d_Values_settleIfEnding 27 45 (.iconst 0) 1 rfl) rfl (rk rfl) ?_
        refine Ak_ior 47 (d_Values_settleIfEnding 28 46 (.ior) 1 rfl) rfl ?_
        refine Ak_istore_n 48 2 (d_Values_settleIfEnding 29 47 (.istore_n 2) 1 rfl) rfl rfl (by decide) ?_
        refine Ak_iinc 51 (d_Values_settleIfEnding 30 48 (.iinc 3 1) 3 rfl) rfl rfl (by decide) ?_
        refine Ak_goto 15 (d_Values_settleIfEnding 31 51 (.goto (-36)) 3 rfl) rfl ?_
        refine Ak_keep [true, true, true, true] ?_
        exact ih h
      · replace h := it_t hc h
        refine Ak_iconst 42 (d_Values_settleIfEnding 25 41 (.iconst 1) 1 rfl) rfl (rk rfl) ?_
        refine Ak_goto 46 (d_Values_settleIfEnding 26 42 (.goto 4) 3 rfl) rfl ?_
        refine Ak_ior 47 (d_Values_settleIfEnding 28 46 (.ior) 1 rfl) rfl ?_
        refine Ak_istore_n 48 2 (d_Values_settleIfEnding 29 47 (.istore_n 2) 1 rfl) rfl rfl (by decide) ?_
        refine Ak_iinc 51 (d_Values_settleIfEnding 30 48 (.iinc 3 1) 3 rfl) rfl rfl (by decide) ?_
        refine Ak_goto 15 (d_Values_settleIfEnding 31 51 (.goto (-36)) 3 rfl) rfl ?_
        refine Ak_keep [true, true, true, true] ?_
        exact ih h
theorem c_Values_settleIfEnding {S : ASh} {V : ASt} {x0 x1 : Int} {r : Int} {V' : ASt} (h : f_Values_settleIfEnding S V x0 x1 = some (r, V')) : ACt m_Values_settleIfEnding 5 0 0 [(aR x0), (aI x1)] S V none S V' := by
  unfold f_Values_settleIfEnding at h
  obtain ⟨hO, h⟩ := gd_some h
  refine ACt_of (plainFor_of_name rfl) rfl (Nat.le_of_ble_eq_true rfl) ?_
  show AWk m_Values_settleIfEnding 5 0 0 0 0 0 [some (aR x0), some (aI x1)] [] S V none S V'
  refine Ak_aload_n 1 0 (d_Values_settleIfEnding 0 0 (.aload_n 0) 1 rfl) rfl rfl rfl ?_
  refine Ak_getF 4 4 hO clX10 (by decide) rfl lkF_Values_22 (d_Values_settleIfEnding 1 1 (.getfield 22) 3 rfl) rfl ?_
  refine Ak_iload_n 5 1 (d_Values_settleIfEnding 2 4 (.iload_n 1) 1 rfl) rfl rfl rfl ?_
  refine Ak_aload_n 6 0 (d_Values_settleIfEnding 3 5 (.aload_n 0) 1 rfl) rfl rfl rfl ?_
  refine Ak_iload_n 7 1 (d_Values_settleIfEnding 4 6 (.iload_n 1) 1 rfl) rfl rfl rfl ?_
  obtain ⟨r18, V19, h20, h⟩ := bnd_some h
  refine Ak_cV1 10 4 (c_Values_countLeadingOn h20) rfl hO clX10 rfl mok_Values_countLeadingOn lkM_Values_106 (d_Values_settleIfEnding 5 7 (.invokevirtual 106) 3 rfl) rfl (by decide) (Nat.le_of_ble_eq_true rfl) ?_
  obtain ⟨ha21, h⟩ := gd_some h
  refine Ak_iastore 11 ha21 (d_Values_settleIfEnding 6 10 (.iastore) 1 rfl) rfl (fun V22 hV22 => ?_)
  replace h := wV_some h V22 hV22
  refine Ak_iconst 12 (d_Values_settleIfEnding 7 11 (.iconst 0) 1 rfl) rfl (rk rfl) ?_
  refine Ak_istore_n 13 2 (d_Values_settleIfEnding 8 12 (.istore_n 2) 1 rfl) rfl rfl (by decide) ?_
  refine Ak_iconst 14 (d_Values_settleIfEnding 9 13 (.iconst 0) 1 rfl) rfl (rk rfl) ?_
  refine Ak_istore_n 15 3 (d_Values_settleIfEnding 10 14 (.istore_n 3) 1 rfl) rfl rfl (by decide) ?_
  refine Ak_keep [true, true, true, true] ?_
  exact t_Values_settleIfEnding_L15 hO FU _ _ _ _ _ h
theorem t_Values_settleSourcesOf_L7 {S : ASh} {x0 x1 : Int} (hO : isO S x0 10 = true) : ∀ (n : Nat) (V : ASt) (x2 : Int) (r : Int) (V' : ASt), b_Values_settleSourcesOf_L7 S x0 x1 n V x2 = some (r, V') → AWk m_Values_settleSourcesOf 4 0 0 0 0 7 [some (aR x0), some (aI x1), some (aI x2)] [] S V none S V' := by
  intro n
  induction n with
  | zero => intro V x2 r V' h; cases h
  | succ n ih =>
    intro V x2 r V' h
    replace ih : ∀ {V : ASt} {x2 : Int} {r : Int} {V' : ASt}, b_Values_settleSourcesOf_L7 S x0 x1 n V x2 = some (r, V') → AWk m_Values_settleSourcesOf 4 0 0 0 0 7 [some (aR x0), some (aI x1), some (aI x2)] [] S V none S V' := fun h => ih _ _ _ _ h
    rw [b_Values_settleSourcesOf_L7] at h
    refine Ak_iload_n 8 2 (d_Values_settleSourcesOf 5 7 (.iload_n 2) 1 rfl) rfl rfl rfl ?_
    refine Ak_aload_n 9 0 (d_Values_settleSourcesOf 6 8 (.aload_n 0) 1 rfl) rfl rfl rfl ?_
    refine Ak_getF 12 5 hO clX10 (by decide) rfl lkF_Values_25 (d_Values_settleSourcesOf 7 9 (.getfield 25) 3 rfl) rfl ?_
    refine Ak_iload_n 13 1 (d_Values_settleSourcesOf 8 12 (.iload_n 1) 1 rfl) rfl rfl rfl ?_
    refine Ak_iconst 14 (d_Values_settleSourcesOf 9 13 (.iconst 1) 1 rfl) rfl (rk rfl) ?_
    refine Ak_iadd 15 (d_Values_settleSourcesOf 10 14 (.iadd) 1 rfl) rfl ?_
    obtain ⟨ha1, h⟩ := gd_some h
    refine Ak_iaload 16 ha1 (d_Values_settleSourcesOf 11 15 (.iaload) 1 rfl) rfl ?_
    refine Ak_icmp_ge 103 19 (d_Values_settleSourcesOf 12 16 (.if_icmp .ge 87) 3 rfl) rfl rfl (fun hc => ?_) (fun hc => ?_)
    · replace h := it_t hc h
      cases h
      exact Ak_vret rfl (d_Values_settleSourcesOf 65 103 (.return_) 1 rfl)
    · replace h := it_f hc h
      refine Ak_aload_n 20 0 (d_Values_settleSourcesOf 13 19 (.aload_n 0) 1 rfl) rfl rfl rfl ?_
      refine Ak_getF 23 6 hO clX10 (by decide) rfl lkF_Values_28 (d_Values_settleSourcesOf 14 20 (.getfield 28) 3 rfl) rfl ?_
      refine Ak_iload_n 24 2 (d_Values_settleSourcesOf 15 23 (.iload_n 2) 1 rfl) rfl rfl rfl ?_
      obtain ⟨ha2, h⟩ := gd_some h
      refine Ak_iaload 25 ha2 (d_Values_settleSourcesOf 16 24 (.iaload) 1 rfl) rfl ?_
      refine Ak_istore_n 26 3 (d_Values_settleSourcesOf 17 25 (.istore_n 3) 1 rfl) rfl rfl (by decide) ?_
      refine Ak_aload_n 27 0 (d_Values_settleSourcesOf 18 26 (.aload_n 0) 1 rfl) rfl rfl rfl ?_
      refine Ak_getF 30 4 hO clX10 (by decide) rfl lkF_Values_22 (d_Values_settleSourcesOf 19 27 (.getfield 22) 3 rfl) rfl ?_
      refine Ak_iload_n 31 3 (d_Values_settleSourcesOf 20 30 (.iload_n 3) 1 rfl) rfl rfl rfl ?_
      refine Ak_dup2 32 (d_Values_settleSourcesOf 21 31 (.dup2) 1 rfl) rfl rfl rfl ?_
      obtain ⟨ha3, h⟩ := gd_some h
      refine Ak_iaload 33 ha3 (d_Values_settleSourcesOf 22 32 (.iaload) 1 rfl) rfl ?_
      refine Ak_iconst 34 (d_Values_settleSourcesOf 23 33 (.iconst 1) 1 rfl) rfl (rk rfl) ?_
      refine Ak_isub 35 (d_Values_settleSourcesOf 24 34 (.isub) 1 rfl) rfl ?_
      refine Ak_iastore 36 ha3 (d_Values_settleSourcesOf 25 35 (.iastore) 1 rfl) rfl (fun V4 hV4 => ?_)
      replace h := wV_some h V4 hV4
      refine Ak_aload_n 37 0 (d_Values_settleSourcesOf 26 36 (.aload_n 0) 1 rfl) rfl rfl rfl ?_
      refine Ak_getF 40 2 hO clX10 (by decide) rfl lkF_Values_15 (d_Values_settleSourcesOf 27 37 (.getfield 15) 3 rfl) rfl ?_
      refine Ak_iload_n 41 3 (d_Values_settleSourcesOf 28 40 (.iload_n 3) 1 rfl) rfl rfl rfl ?_
      obtain ⟨ha5, h⟩ := gd_some h
      refine Ak_iaload 42 ha5 (d_Values_settleSourcesOf 29 41 (.iaload) 1 rfl) rfl ?_
      refine Ak_if_eq 48 45 (d_Values_settleSourcesOf 30 42 (.ifCond .eq 6) 3 rfl) rfl rfl (fun hc => ?_) (fun hc => ?_)
      · replace h := it_t hc h
        refine Ak_aload_n 49 0 (d_Values_settleSourcesOf 32 48 (.aload_n 0) 1 rfl) rfl rfl rfl ?_
        refine Ak_getF 52 2 hO clX10 (by decide) rfl lkF_Values_15 (d_Values_settleSourcesOf 33 49 (.getfield 15) 3 rfl) rfl ?_
        refine Ak_iload_n 53 1 (d_Values_settleSourcesOf 34 52 (.iload_n 1) 1 rfl) rfl rfl rfl ?_
        obtain ⟨ha6, h⟩ := gd_some h
        refine Ak_iaload 54 ha6 (d_Values_settleSourcesOf 35 53 (.iaload) 1 rfl) rfl ?_
        refine Ak_if_ge 74 57 (d_Values_settleSourcesOf 36 54 (.ifCond .ge 20) 3 rfl) rfl rfl (fun hc => ?_) (fun hc => ?_)
        · replace h := it_t hc h
          refine Ak_aload_n 75 0 (d_Values_settleSourcesOf 48 74 (.aload_n 0) 1 rfl) rfl rfl rfl ?_
          refine Ak_getF 78 4 hO clX10 (by decide) rfl lkF_Values_22 (d_Values_settleSourcesOf 49 75 (.getfield 22) 3 rfl) rfl ?_
          refine Ak_iload_n 79 3 (d_Values_settleSourcesOf 50 78 (.iload_n 3) 1 rfl) rfl rfl rfl ?_
          refine Ak_iaload 80 ha3 (d_Values_settleSourcesOf 51 79 (.iaload) 1 rfl) rfl ?_
          refine Ak_if_ne 97 83 (d_Values_settleSourcesOf 52 80 (.ifCond .ne 17) 3 rfl) rfl rfl (fun hc => ?_) (fun hc => ?_)
          · replace h := it_f hc h
            refine Ak_iinc 100 (d_Values_settleSourcesOf 63 97 (.iinc 2 1) 3 rfl) rfl rfl (by decide) ?_
            refine Ak_goto 7 (d_Values_settleSourcesOf 64 100 (.goto (-93)) 3 rfl) rfl ?_
            refine Ak_keep [true, true, true] ?_
            exact ih h
          · replace h := it_t hc h
            refine Ak_aload_n 84 0 (d_Values_settleSourcesOf 53 83 (.aload_n 0) 1 rfl) rfl rfl rfl ?_
            refine Ak_iload_n 85 3 (d_Values_settleSourcesOf 54 84 (.iload_n 3) 1 rfl) rfl rfl rfl ?_
            refine Ak_iconst 86 (d_Values_settleSourcesOf 55 85 (.iconst (-1)) 1 rfl) rfl (rk rfl) ?_
            refine Ak_aload_n 87 0 (d_Values_settleSourcesOf 56 86 (.aload_n 0) 1 rfl) rfl rfl rfl ?_
            refine Ak_getF 90 3 hO clX10 (by decide) rfl lkF_Values_19 (d_Values_settleSourcesOf 57 87 (.getfield 19) 3 rfl) rfl ?_
            refine Ak_iload_n 91 1 (d_Values_settleSourcesOf 58 90 (.iload_n 1) 1 rfl) rfl rfl rfl ?_
            obtain ⟨ha7, h⟩ := gd_some h
            refine Ak_iaload 92 ha7 (d_Values_settleSourcesOf 59 91 (.iaload) 1 rfl) rfl ?_
            refine Ak_iconst 93 (d_Values_settleSourcesOf 60 92 (.iconst 1) 1 rfl) rfl (rk rfl) ?_
            refine Ak_iadd 94 (d_Values_settleSourcesOf 61 93 (.iadd) 1 rfl) rfl ?_
            obtain ⟨r8, V9, h10, h⟩ := bnd_some h
            refine Ak_cV0 97 3 (c_Values_settle h10) rfl hO clX10 rfl mok_Values_settle lkM_Values_102 (d_Values_settleSourcesOf 62 94 (.invokevirtual 102) 3 rfl) rfl (by decide) (Nat.le_of_ble_eq_true rfl) ?_
            refine Ak_iinc 100 (d_Values_settleSourcesOf 63 97 (.iinc 2 1) 3 rfl) rfl rfl (by decide) ?_
            refine Ak_goto 7 (d_Values_settleSourcesOf 64 100 (.goto (-93)) 3 rfl) rfl ?_
            refine Ak_keep [true, true, true] ?_
            exact ih h
        · replace h := it_f hc h
          refine Ak_aload_n 58 0 (d_Values_settleSourcesOf 37 57 (.aload_n 0) 1 rfl) rfl rfl rfl ?_
          refine Ak_iload_n 59 3 (d_Values_settleSourcesOf 38 58 (.iload_n 3) 1 rfl) rfl rfl rfl ?_
          refine Ak_iconst 60 (d_Values_settleSourcesOf 39 59 (.iconst 1) 1 rfl) rfl (rk rfl) ?_
          refine Ak_aload_n 61 0 (d_Values_settleSourcesOf 40 60 (.aload_n 0) 1 rfl) rfl rfl rfl ?_
          refine Ak_getF 64 3 hO clX10 (by decide) rfl lkF_Values_19 (d_Values_settleSourcesOf 41 61 (.getfield 19) 3 rfl) rfl ?_
          refine Ak_iload_n 65 1 (d_Values_settleSourcesOf 42 64 (.iload_n 1) 1 rfl) rfl rfl rfl ?_
          obtain ⟨ha11, h⟩ := gd_some h
          refine Ak_iaload 66 ha11 (d_Values_settleSourcesOf 43 65 (.iaload) 1 rfl) rfl ?_
          refine Ak_iconst 67 (d_Values_settleSourcesOf 44 66 (.iconst 1) 1 rfl) rfl (rk rfl) ?_
          refine Ak_iadd 68 (d_Values_settleSourcesOf 45 67 (.iadd) 1 rfl) rfl ?_
          obtain ⟨r12, V13, h14, h⟩ := bnd_some h
          refine Ak_cV0 71 3 (c_Values_settle h14) rfl hO clX10 rfl mok_Values_settle lkM_Values_102 (d_Values_settleSourcesOf 46 68 (.invokevirtual 102) 3 rfl) rfl (by decide) (Nat.le_of_ble_eq_true rfl) ?_
          refine Ak_goto 97 (d_Values_settleSourcesOf 47 71 (.goto 26) 3 rfl) rfl ?_
          refine Ak_iinc 100 (d_Values_settleSourcesOf 63 97 (.iinc 2 1) 3 rfl) rfl rfl (by decide) ?_
          refine Ak_goto 7 (d_Values_settleSourcesOf 64 100 (.goto (-93)) 3 rfl) rfl ?_
          refine Ak_keep [true, true, true] ?_
          exact ih h
      · replace h := it_f hc h
        refine Ak_goto 97 (d_Values_settleSourcesOf 31 45 (.goto 52) 3 rfl) rfl ?_
        refine Ak_iinc 100 (d_Values_settleSourcesOf 63 97 (.iinc 2 1) 3 rfl) rfl rfl (by decide) ?_
        refine Ak_goto 7 (d_Values_settleSourcesOf 64 100 (.goto (-93)) 3 rfl) rfl ?_
        refine Ak_keep [true, true, true] ?_
        exact ih h
theorem c_Values_settleSourcesOf {S : ASh} {V : ASt} {x0 x1 : Int} {r : Int} {V' : ASt} (h : f_Values_settleSourcesOf S V x0 x1 = some (r, V')) : ACt m_Values_settleSourcesOf 4 0 0 [(aR x0), (aI x1)] S V none S V' := by
  unfold f_Values_settleSourcesOf at h
  obtain ⟨hO, h⟩ := gd_some h
  refine ACt_of (plainFor_of_name rfl) rfl (Nat.le_of_ble_eq_true rfl) ?_
  show AWk m_Values_settleSourcesOf 4 0 0 0 0 0 [some (aR x0), some (aI x1)] [] S V none S V'
  refine Ak_aload_n 1 0 (d_Values_settleSourcesOf 0 0 (.aload_n 0) 1 rfl) rfl rfl rfl ?_
  refine Ak_getF 4 5 hO clX10 (by decide) rfl lkF_Values_25 (d_Values_settleSourcesOf 1 1 (.getfield 25) 3 rfl) rfl ?_
  refine Ak_iload_n 5 1 (d_Values_settleSourcesOf 2 4 (.iload_n 1) 1 rfl) rfl rfl rfl ?_
  obtain ⟨ha15, h⟩ := gd_some h
  refine Ak_iaload 6 ha15 (d_Values_settleSourcesOf 3 5 (.iaload) 1 rfl) rfl ?_
  refine Ak_istore_n 7 2 (d_Values_settleSourcesOf 4 6 (.istore_n 2) 1 rfl) rfl rfl (by decide) ?_
  refine Ak_keep [true, true, true] ?_
  exact t_Values_settleSourcesOf_L7 hO FU _ _ _ _ h
theorem t_Values_solve_J104 {S : ASh} {V : ASt} {x0 : Int} {r : Int} {V' : ASt} (hO : isO S x0 10 = true) (h : b_Values_solve_J104 S  V x0 = some (r, V')) : AWk m_Values_solve 6 0 0 0 0 104 [some (aR x0)] [] S V none S V' := by
  unfold b_Values_solve_J104 at h
  refine Ak_aload_n 105 0 (d_Values_solve 52 104 (.aload_n 0) 1 rfl) rfl rfl rfl ?_
  refine Ak_iconst 106 (d_Values_solve 53 105 (.iconst 1) 1 rfl) rfl (rk rfl) ?_
  refine Ak_putZ 109 0 (Or.inr rfl) hO clX10 (by decide) rfl rfl rfl lkF_Values_9 (d_Values_solve 54 106 (.putfield 9) 3 rfl) rfl (fun V1 hV1 => ?_)
  replace h := wV_some h V1 hV1
  cases h
  exact Ak_vret rfl (d_Values_solve 55 109 (.return_) 1 rfl)
theorem t_Values_solve_L73 {S : ASh} {x0 : Int} (hO : isO S x0 10 = true) : ∀ (n : Nat) (V : ASt) (x1 : Int) (r : Int) (V' : ASt), b_Values_solve_L73 S x0 n V x1 = some (r, V') → AWk m_Values_solve 6 0 0 0 0 73 [some (aR x0), some (aI x1)] [] S V none S V' := by
  intro n
  induction n with
  | zero => intro V x1 r V' h; cases h
  | succ n ih =>
    intro V x1 r V' h
    replace ih : ∀ {V : ASt} {x1 : Int} {r : Int} {V' : ASt}, b_Values_solve_L73 S x0 n V x1 = some (r, V') → AWk m_Values_solve 6 0 0 0 0 73 [some (aR x0), some (aI x1)] [] S V none S V' := fun h => ih _ _ _ _ h
    rw [b_Values_solve_L73] at h
    refine Ak_iload_n 74 1 (d_Values_solve 37 73 (.iload_n 1) 1 rfl) rfl rfl rfl ?_
    refine Ak_aload_n 75 0 (d_Values_solve 38 74 (.aload_n 0) 1 rfl) rfl rfl rfl ?_
    refine Ak_getI 78 8 hO clX10 (by decide) (Or.inl rfl) lkF_Values_34 (d_Values_solve 39 75 (.getfield 34) 3 rfl) rfl ?_
    refine Ak_icmp_ge 104 81 (d_Values_solve 40 78 (.if_icmp .ge 26) 3 rfl) rfl rfl (fun hc => ?_) (fun hc => ?_)
    · replace h := it_t hc h
      refine Ak_keep [true] ?_
      exact t_Values_solve_J104 hO h
    · replace h := it_f hc h
      refine Ak_iload_n 82 1 (d_Values_solve 41 81 (.iload_n 1) 1 rfl) rfl rfl rfl ?_
      refine Ak_sipush 85 (d_Values_solve 42 82 (.sipush 200) 3 rfl) rfl (sp_ok rfl) (rk rfl) ?_
      refine Ak_icmp_ge 104 88 (d_Values_solve 43 85 (.if_icmp .ge 19) 3 rfl) rfl rfl (fun hc => ?_) (fun hc => ?_)
      · replace h := it_t hc h
        refine Ak_keep [true] ?_
        exact t_Values_solve_J104 hO h
      · replace h := it_f hc h
        refine Ak_aload_n 89 0 (d_Values_solve 44 88 (.aload_n 0) 1 rfl) rfl rfl rfl ?_
        refine Ak_aload_n 90 0 (d_Values_solve 45 89 (.aload_n 0) 1 rfl) rfl rfl rfl ?_
        refine Ak_getF 93 7 hO clX10 (by decide) rfl lkF_Values_31 (d_Values_solve 46 90 (.getfield 31) 3 rfl) rfl ?_
        refine Ak_iload_n 94 1 (d_Values_solve 47 93 (.iload_n 1) 1 rfl) rfl rfl rfl ?_
        obtain ⟨ha2, h⟩ := gd_some h
        refine Ak_iaload 95 ha2 (d_Values_solve 48 94 (.iaload) 1 rfl) rfl ?_
        obtain ⟨r3, V4, h5, h⟩ := bnd_some h
        refine Ak_cV0 98 4 (c_Values_settleSourcesOf h5) rfl hO clX10 rfl mok_Values_settleSourcesOf lkM_Values_87 (d_Values_solve 49 95 (.invokevirtual 87) 3 rfl) rfl (by decide) (Nat.le_of_ble_eq_true rfl) ?_
        refine Ak_iinc 101 (d_Values_solve 50 98 (.iinc 1 1) 3 rfl) rfl rfl (by decide) ?_
        refine Ak_goto 73 (d_Values_solve 51 101 (.goto (-28)) 3 rfl) rfl ?_
        refine Ak_keep [true, true] ?_
        exact ih h
theorem t_Values_solve_L42 {S : ASh} {x0 : Int} (hO : isO S x0 10 = true) : ∀ (n : Nat) (V : ASt) (x1 : Int) (r : Int) (V' : ASt), b_Values_solve_L42 S x0 n V x1 = some (r, V') → AWk m_Values_solve 6 0 0 0 0 42 [some (aR x0), some (aI x1)] [] S V none S V' := by
  intro n
  induction n with
  | zero => intro V x1 r V' h; cases h
  | succ n ih =>
    intro V x1 r V' h
    replace ih : ∀ {V : ASt} {x1 : Int} {r : Int} {V' : ASt}, b_Values_solve_L42 S x0 n V x1 = some (r, V') → AWk m_Values_solve 6 0 0 0 0 42 [some (aR x0), some (aI x1)] [] S V none S V' := fun h => ih _ _ _ _ h
    rw [b_Values_solve_L42] at h
    refine Ak_iload_n 43 1 (d_Values_solve 22 42 (.iload_n 1) 1 rfl) rfl rfl rfl ?_
    refine Ak_aload_n 44 0 (d_Values_solve 23 43 (.aload_n 0) 1 rfl) rfl rfl rfl ?_
    refine Ak_getF 47 1 hO clX10 (by decide) rfl lkF_Values_51 (d_Values_solve 24 44 (.getfield 51) 3 rfl) rfl ?_
    obtain ⟨hg6, h⟩ := gd_some h
    refine Ak_getI 50 1 hg6 clX4 (by decide) (Or.inl rfl) lkF_Values_74 (d_Values_solve 25 47 (.getfield 74) 3 rfl) rfl ?_
    refine Ak_icmp_ge 71 53 (d_Values_solve 26 50 (.if_icmp .ge 21) 3 rfl) rfl rfl (fun hc => ?_) (fun hc => ?_)
    · replace h := it_t hc h
      refine Ak_iconst 72 (d_Values_solve 35 71 (.iconst 0) 1 rfl) rfl (rk rfl) ?_
      refine Ak_istore_n 73 1 (d_Values_solve 36 72 (.istore_n 1) 1 rfl) rfl rfl (by decide) ?_
      refine Ak_keep [true, true] ?_
      exact t_Values_solve_L73 hO FU _ _ _ _ h
    · replace h := it_f hc h
      refine Ak_aload_n 54 0 (d_Values_solve 27 53 (.aload_n 0) 1 rfl) rfl rfl rfl ?_
      refine Ak_aload_n 55 0 (d_Values_solve 28 54 (.aload_n 0) 1 rfl) rfl rfl rfl ?_
      refine Ak_getF 58 1 hO clX10 (by decide) rfl lkF_Values_51 (d_Values_solve 29 55 (.getfield 51) 3 rfl) rfl ?_
      refine Ak_iload_n 59 1 (d_Values_solve 30 58 (.iload_n 1) 1 rfl) rfl rfl rfl ?_
      obtain ⟨r7, V8, h9, h⟩ := bnd_some h
      refine Ak_cV1 62 2 (c_Moves_listedAt h9) rfl hg6 clX4 rfl mok_Moves_listedAt lkM_Values_77 (d_Values_solve 31 59 (.invokevirtual 77) 3 rfl) rfl (by decide) (Nat.le_of_ble_eq_true rfl) ?_
      obtain ⟨r10, V11, h12, h⟩ := bnd_some h
      refine Ak_cV0 65 5 (c_Values_settleIfEnding h12) rfl hO clX10 rfl mok_Values_settleIfEnding lkM_Values_84 (d_Values_solve 32 62 (.invokevirtual 84) 3 rfl) rfl (by decide) (Nat.le_of_ble_eq_true rfl) ?_
      refine Ak_iinc 68 (d_Values_solve 33 65 (.iinc 1 1) 3 rfl) rfl rfl (by decide) ?_
      refine Ak_goto 42 (d_Values_solve 34 68 (.goto (-26)) 3 rfl) rfl ?_
      refine Ak_keep [true, true] ?_
      exact ih h
theorem t_Values_solve_L11 {S : ASh} {x0 : Int} (hO : isO S x0 10 = true) : ∀ (n : Nat) (V : ASt) (x1 : Int) (r : Int) (V' : ASt), b_Values_solve_L11 S x0 n V x1 = some (r, V') → AWk m_Values_solve 6 0 0 0 0 11 [some (aR x0), some (aI x1)] [] S V none S V' := by
  intro n
  induction n with
  | zero => intro V x1 r V' h; cases h
  | succ n ih =>
    intro V x1 r V' h
    replace ih : ∀ {V : ASt} {x1 : Int} {r : Int} {V' : ASt}, b_Values_solve_L11 S x0 n V x1 = some (r, V') → AWk m_Values_solve 6 0 0 0 0 11 [some (aR x0), some (aI x1)] [] S V none S V' := fun h => ih _ _ _ _ h
    rw [b_Values_solve_L11] at h
    refine Ak_iload_n 12 1 (d_Values_solve 7 11 (.iload_n 1) 1 rfl) rfl rfl rfl ?_
    refine Ak_aload_n 13 0 (d_Values_solve 8 12 (.aload_n 0) 1 rfl) rfl rfl rfl ?_
    refine Ak_getF 16 1 hO clX10 (by decide) rfl lkF_Values_51 (d_Values_solve 9 13 (.getfield 51) 3 rfl) rfl ?_
    obtain ⟨hg13, h⟩ := gd_some h
    refine Ak_getI 19 1 hg13 clX4 (by decide) (Or.inl rfl) lkF_Values_74 (d_Values_solve 10 16 (.getfield 74) 3 rfl) rfl ?_
    refine Ak_icmp_ge 40 22 (d_Values_solve 11 19 (.if_icmp .ge 21) 3 rfl) rfl rfl (fun hc => ?_) (fun hc => ?_)
    · replace h := it_t hc h
      refine Ak_iconst 41 (d_Values_solve 20 40 (.iconst 0) 1 rfl) rfl (rk rfl) ?_
      refine Ak_istore_n 42 1 (d_Values_solve 21 41 (.istore_n 1) 1 rfl) rfl rfl (by decide) ?_
      refine Ak_keep [true, true] ?_
      exact t_Values_solve_L42 hO FU _ _ _ _ h
    · replace h := it_f hc h
      refine Ak_aload_n 23 0 (d_Values_solve 12 22 (.aload_n 0) 1 rfl) rfl rfl rfl ?_
      refine Ak_aload_n 24 0 (d_Values_solve 13 23 (.aload_n 0) 1 rfl) rfl rfl rfl ?_
      refine Ak_getF 27 1 hO clX10 (by decide) rfl lkF_Values_51 (d_Values_solve 14 24 (.getfield 51) 3 rfl) rfl ?_
      refine Ak_iload_n 28 1 (d_Values_solve 15 27 (.iload_n 1) 1 rfl) rfl rfl rfl ?_
      obtain ⟨r14, V15, h16, h⟩ := bnd_some h
      refine Ak_cV1 31 2 (c_Moves_listedAt h16) rfl hg13 clX4 rfl mok_Moves_listedAt lkM_Values_77 (d_Values_solve 16 28 (.invokevirtual 77) 3 rfl) rfl (by decide) (Nat.le_of_ble_eq_true rfl) ?_
      obtain ⟨r17, V18, h19, h⟩ := bnd_some h
      refine Ak_cV0 34 4 (c_Values_settleIfStuck h19) rfl hO clX10 rfl mok_Values_settleIfStuck lkM_Values_80 (d_Values_solve 17 31 (.invokevirtual 80) 3 rfl) rfl (by decide) (Nat.le_of_ble_eq_true rfl) ?_
      refine Ak_iinc 37 (d_Values_solve 18 34 (.iinc 1 1) 3 rfl) rfl rfl (by decide) ?_
      refine Ak_goto 11 (d_Values_solve 19 37 (.goto (-26)) 3 rfl) rfl ?_
      refine Ak_keep [true, true] ?_
      exact ih h
theorem c_Values_solve {S : ASh} {V : ASt} {x0 : Int} {r : Int} {V' : ASt} (h : f_Values_solve S V x0 = some (r, V')) : ACt m_Values_solve 6 0 0 [(aR x0)] S V none S V' := by
  unfold f_Values_solve at h
  obtain ⟨hO, h⟩ := gd_some h
  refine ACt_of (plainFor_of_name rfl) rfl (Nat.le_of_ble_eq_true rfl) ?_
  show AWk m_Values_solve 6 0 0 0 0 0 [some (aR x0)] [] S V none S V'
  refine Ak_aload_n 1 0 (d_Values_solve 0 0 (.aload_n 0) 1 rfl) rfl rfl rfl ?_
  obtain ⟨r20, V21, h22, h⟩ := bnd_some h
  refine Ak_cV0 4 4 (c_Values_findSources h22) rfl hO clX10 rfl mok_Values_findSources lkM_Values_71 (d_Values_solve 1 1 (.invokevirtual 71) 3 rfl) rfl (by decide) (Nat.le_of_ble_eq_true rfl) ?_
  refine Ak_aload_n 5 0 (d_Values_solve 2 4 (.aload_n 0) 1 rfl) rfl rfl rfl ?_
  refine Ak_iconst 6 (d_Values_solve 3 5 (.iconst 0) 1 rfl) rfl (rk rfl) ?_
  refine Ak_putI 9 8 hO clX10 (by decide) rfl rfl rfl lkF_Values_34 (d_Values_solve 4 6 (.putfield 34) 3 rfl) rfl (fun V23 hV23 => ?_)
  replace h := wV_some h V23 hV23
  refine Ak_iconst 10 (d_Values_solve 5 9 (.iconst 0) 1 rfl) rfl (rk rfl) ?_
  refine Ak_istore_n 11 1 (d_Values_solve 6 10 (.istore_n 1) 1 rfl) rfl rfl (by decide) ?_
  refine Ak_keep [true, true] ?_
  exact t_Values_solve_L11 hO FU _ _ _ _ h
theorem t_Values_lengthenSourcesOf_L7 {S : ASh} {x0 x1 : Int} (hO : isO S x0 10 = true) : ∀ (n : Nat) (V : ASt) (x2 : Int) (r : Int) (V' : ASt), b_Values_lengthenSourcesOf_L7 S x0 x1 n V x2 = some (r, V') → AWk m_Values_lengthenSourcesOf 3 0 0 0 0 7 [some (aR x0), some (aI x1), some (aI x2)] [] S V none S V' := by
  intro n
  induction n with
  | zero => intro V x2 r V' h; cases h
  | succ n ih =>
    intro V x2 r V' h
    replace ih : ∀ {V : ASt} {x2 : Int} {r : Int} {V' : ASt}, b_Values_lengthenSourcesOf_L7 S x0 x1 n V x2 = some (r, V') → AWk m_Values_lengthenSourcesOf 3 0 0 0 0 7 [some (aR x0), some (aI x1), some (aI x2)] [] S V none S V' := fun h => ih _ _ _ _ h
    rw [b_Values_lengthenSourcesOf_L7] at h
    refine Ak_iload_n 8 2 (d_Values_lengthenSourcesOf 5 7 (.iload_n 2) 1 rfl) rfl rfl rfl ?_
    refine Ak_aload_n 9 0 (d_Values_lengthenSourcesOf 6 8 (.aload_n 0) 1 rfl) rfl rfl rfl ?_
    refine Ak_getF 12 5 hO clX10 (by decide) rfl lkF_Values_25 (d_Values_lengthenSourcesOf 7 9 (.getfield 25) 3 rfl) rfl ?_
    refine Ak_iload_n 13 1 (d_Values_lengthenSourcesOf 8 12 (.iload_n 1) 1 rfl) rfl rfl rfl ?_
    refine Ak_iconst 14 (d_Values_lengthenSourcesOf 9 13 (.iconst 1) 1 rfl) rfl (rk rfl) ?_
    refine Ak_iadd 15 (d_Values_lengthenSourcesOf 10 14 (.iadd) 1 rfl) rfl ?_
    obtain ⟨ha1, h⟩ := gd_some h
    refine Ak_iaload 16 ha1 (d_Values_lengthenSourcesOf 11 15 (.iaload) 1 rfl) rfl ?_
    refine Ak_icmp_ge 79 19 (d_Values_lengthenSourcesOf 12 16 (.if_icmp .ge 63) 3 rfl) rfl rfl (fun hc => ?_) (fun hc => ?_)
    · replace h := it_t hc h
      cases h
      exact Ak_vret rfl (d_Values_lengthenSourcesOf 51 79 (.return_) 1 rfl)
    · replace h := it_f hc h
      refine Ak_aload_n 20 0 (d_Values_lengthenSourcesOf 13 19 (.aload_n 0) 1 rfl) rfl rfl rfl ?_
      refine Ak_getF 23 6 hO clX10 (by decide) rfl lkF_Values_28 (d_Values_lengthenSourcesOf 14 20 (.getfield 28) 3 rfl) rfl ?_
      refine Ak_iload_n 24 2 (d_Values_lengthenSourcesOf 15 23 (.iload_n 2) 1 rfl) rfl rfl rfl ?_
      obtain ⟨ha2, h⟩ := gd_some h
      refine Ak_iaload 25 ha2 (d_Values_lengthenSourcesOf 16 24 (.iaload) 1 rfl) rfl ?_
      refine Ak_istore_n 26 3 (d_Values_lengthenSourcesOf 17 25 (.istore_n 3) 1 rfl) rfl rfl (by decide) ?_
      refine Ak_aload_n 27 0 (d_Values_lengthenSourcesOf 18 26 (.aload_n 0) 1 rfl) rfl rfl rfl ?_
      refine Ak_getF 30 9 hO clX10 (by decide) rfl lkF_Values_38 (d_Values_lengthenSourcesOf 19 27 (.getfield 38) 3 rfl) rfl ?_
      refine Ak_iload_n 31 3 (d_Values_lengthenSourcesOf 20 30 (.iload_n 3) 1 rfl) rfl rfl rfl ?_
      refine Ak_aload_n 32 0 (d_Values_lengthenSourcesOf 21 31 (.aload_n 0) 1 rfl) rfl rfl rfl ?_
      refine Ak_getF 35 9 hO clX10 (by decide) rfl lkF_Values_38 (d_Values_lengthenSourcesOf 22 32 (.getfield 38) 3 rfl) rfl ?_
      refine Ak_iload_n 36 3 (d_Values_lengthenSourcesOf 23 35 (.iload_n 3) 1 rfl) rfl rfl rfl ?_
      obtain ⟨ha3, h⟩ := gd_some h
      refine Ak_iaload 37 ha3 (d_Values_lengthenSourcesOf 24 36 (.iaload) 1 rfl) rfl ?_
      refine Ak_aload_n 38 0 (d_Values_lengthenSourcesOf 25 37 (.aload_n 0) 1 rfl) rfl rfl rfl ?_
      refine Ak_getF 41 9 hO clX10 (by decide) rfl lkF_Values_38 (d_Values_lengthenSourcesOf 26 38 (.getfield 38) 3 rfl) rfl ?_
      refine Ak_iload_n 42 1 (d_Values_lengthenSourcesOf 27 41 (.iload_n 1) 1 rfl) rfl rfl rfl ?_
      obtain ⟨ha4, h⟩ := gd_some h
      refine Ak_iaload 43 ha4 (d_Values_lengthenSourcesOf 28 42 (.iaload) 1 rfl) rfl ?_
      refine Ak_iconst 44 (d_Values_lengthenSourcesOf 29 43 (.iconst 1) 1 rfl) rfl (rk rfl) ?_
      refine Ak_iadd 45 (d_Values_lengthenSourcesOf 30 44 (.iadd) 1 rfl) rfl ?_
      obtain ⟨r5, V6, h7, h⟩ := bnd_some h
      refine Ak_cS1 48 2 (c_Math_max_II h7) rfl mok_Math_max_II lkM_Values_112 (d_Values_lengthenSourcesOf 31 45 (.invokestatic 112) 3 rfl) rfl (by decide) (Nat.le_of_ble_eq_true rfl) ?_
      refine Ak_iastore 49 ha3 (d_Values_lengthenSourcesOf 32 48 (.iastore) 1 rfl) rfl (fun V8 hV8 => ?_)
      replace h := wV_some h V8 hV8
      refine Ak_aload_n 50 0 (d_Values_lengthenSourcesOf 33 49 (.aload_n 0) 1 rfl) rfl rfl rfl ?_
      refine Ak_getF 53 4 hO clX10 (by decide) rfl lkF_Values_22 (d_Values_lengthenSourcesOf 34 50 (.getfield 22) 3 rfl) rfl ?_
      refine Ak_iload_n 54 3 (d_Values_lengthenSourcesOf 35 53 (.iload_n 3) 1 rfl) rfl rfl rfl ?_
      refine Ak_dup2 55 (d_Values_lengthenSourcesOf 36 54 (.dup2) 1 rfl) rfl rfl rfl ?_
      obtain ⟨ha9, h⟩ := gd_some h
      refine Ak_iaload 56 ha9 (d_Values_lengthenSourcesOf 37 55 (.iaload) 1 rfl) rfl ?_
      refine Ak_iconst 57 (d_Values_lengthenSourcesOf 38 56 (.iconst 1) 1 rfl) rfl (rk rfl) ?_
      refine Ak_isub 58 (d_Values_lengthenSourcesOf 39 57 (.isub) 1 rfl) rfl ?_
      refine Ak_iastore 59 ha9 (d_Values_lengthenSourcesOf 40 58 (.iastore) 1 rfl) rfl (fun V10 hV10 => ?_)
      replace h := wV_some h V10 hV10
      refine Ak_aload_n 60 0 (d_Values_lengthenSourcesOf 41 59 (.aload_n 0) 1 rfl) rfl rfl rfl ?_
      refine Ak_getF 63 4 hO clX10 (by decide) rfl lkF_Values_22 (d_Values_lengthenSourcesOf 42 60 (.getfield 22) 3 rfl) rfl ?_
      refine Ak_iload_n 64 3 (d_Values_lengthenSourcesOf 43 63 (.iload_n 3) 1 rfl) rfl rfl rfl ?_
      refine Ak_iaload 65 ha9 (d_Values_lengthenSourcesOf 44 64 (.iaload) 1 rfl) rfl ?_
      refine Ak_if_ne 73 68 (d_Values_lengthenSourcesOf 45 65 (.ifCond .ne 8) 3 rfl) rfl rfl (fun hc => ?_) (fun hc => ?_)
      · replace h := it_f hc h
        refine Ak_iinc 76 (d_Values_lengthenSourcesOf 49 73 (.iinc 2 1) 3 rfl) rfl rfl (by decide) ?_
        refine Ak_goto 7 (d_Values_lengthenSourcesOf 50 76 (.goto (-69)) 3 rfl) rfl ?_
        refine Ak_keep [true, true, true] ?_
        exact ih h
      · replace h := it_t hc h
        refine Ak_aload_n 69 0 (d_Values_lengthenSourcesOf 46 68 (.aload_n 0) 1 rfl) rfl rfl rfl ?_
        refine Ak_iload_n 70 3 (d_Values_lengthenSourcesOf 47 69 (.iload_n 3) 1 rfl) rfl rfl rfl ?_
        obtain ⟨r11, V12, h13, h⟩ := bnd_some h
        refine Ak_cV0 73 2 (c_Values_enqueue h13) rfl hO clX10 rfl mok_Values_enqueue lkM_Values_96 (d_Values_lengthenSourcesOf 48 70 (.invokevirtual 96) 3 rfl) rfl (by decide) (Nat.le_of_ble_eq_true rfl) ?_
        refine Ak_iinc 76 (d_Values_lengthenSourcesOf 49 73 (.iinc 2 1) 3 rfl) rfl rfl (by decide) ?_
        refine Ak_goto 7 (d_Values_lengthenSourcesOf 50 76 (.goto (-69)) 3 rfl) rfl ?_
        refine Ak_keep [true, true, true] ?_
        exact ih h
theorem c_Values_lengthenSourcesOf {S : ASh} {V : ASt} {x0 x1 : Int} {r : Int} {V' : ASt} (h : f_Values_lengthenSourcesOf S V x0 x1 = some (r, V')) : ACt m_Values_lengthenSourcesOf 3 0 0 [(aR x0), (aI x1)] S V none S V' := by
  unfold f_Values_lengthenSourcesOf at h
  obtain ⟨hO, h⟩ := gd_some h
  refine ACt_of (plainFor_of_name rfl) rfl (Nat.le_of_ble_eq_true rfl) ?_
  show AWk m_Values_lengthenSourcesOf 3 0 0 0 0 0 [some (aR x0), some (aI x1)] [] S V none S V'
  refine Ak_aload_n 1 0 (d_Values_lengthenSourcesOf 0 0 (.aload_n 0) 1 rfl) rfl rfl rfl ?_
  refine Ak_getF 4 5 hO clX10 (by decide) rfl lkF_Values_25 (d_Values_lengthenSourcesOf 1 1 (.getfield 25) 3 rfl) rfl ?_
  refine Ak_iload_n 5 1 (d_Values_lengthenSourcesOf 2 4 (.iload_n 1) 1 rfl) rfl rfl rfl ?_
  obtain ⟨ha14, h⟩ := gd_some h
  refine Ak_iaload 6 ha14 (d_Values_lengthenSourcesOf 3 5 (.iaload) 1 rfl) rfl ?_
  refine Ak_istore_n 7 2 (d_Values_lengthenSourcesOf 4 6 (.istore_n 2) 1 rfl) rfl rfl (by decide) ?_
  refine Ak_keep [true, true, true] ?_
  exact t_Values_lengthenSourcesOf_L7 hO FU _ _ _ _ h
theorem t_Values_longestFrom_J52 {S : ASh} {K11 : ASt → Int → Option (Int × ASt)} {V : ASt} {x0 x1 x2 x3 s0 s1 s2 : Int} {r : Int} {V' : ASt} (hO : isO S x0 10 = true) (hK11 : ∀ {V : ASt} {y2 : Int} {r : Int} {V' : ASt}, K11 V y2 = some (r, V') → AWk m_Values_longestFrom 5 0 0 0 0 11 [some (aR x0), some (aI x1), some (aI y2)] [] S V (some (aI r)) S V') (h : b_Values_longestFrom_J52 S K11 V x0 x1 x2 x3 s0 s1 s2 = some (r, V')) : AWk m_Values_longestFrom 5 0 0 0 0 52 [some (aR x0), some (aI x1), some (aI x2), some (aI x3)] [(aI s2), (aI s1), (aR s0)] S V (some (aI r)) S V' := by
  unfold b_Values_longestFrom_J52 at h
  obtain ⟨ha1, h⟩ := gd_some h
  refine Ak_iastore 53 ha1 (d_Values_longestFrom 28 52 (.iastore) 1 rfl) rfl (fun V2 hV2 => ?_)
  replace h := wV_some h V2 hV2
  refine Ak_aload_n 54 0 (d_Values_longestFrom 29 53 (.aload_n 0) 1 rfl) rfl rfl rfl ?_
  refine Ak_getF 57 4 hO clX10 (by decide) rfl lkF_Values_22 (d_Values_longestFrom 30 54 (.getfield 22) 3 rfl) rfl ?_
  refine Ak_iload_n 58 3 (d_Values_longestFrom 31 57 (.iload_n 3) 1 rfl) rfl rfl rfl ?_
  refine Ak_aload_n 59 0 (d_Values_longestFrom 32 58 (.aload_n 0) 1 rfl) rfl rfl rfl ?_
  refine Ak_iload_n 60 3 (d_Values_longestFrom 33 59 (.iload_n 3) 1 rfl) rfl rfl rfl ?_
  obtain ⟨r3, V4, h5, h⟩ := bnd_some h
  refine Ak_cV1 63 4 (c_Values_countLeadingOn h5) rfl hO clX10 rfl mok_Values_countLeadingOn lkM_Values_106 (d_Values_longestFrom 34 60 (.invokevirtual 106) 3 rfl) rfl (by decide) (Nat.le_of_ble_eq_true rfl) ?_
  obtain ⟨ha6, h⟩ := gd_some h
  refine Ak_iastore 64 ha6 (d_Values_longestFrom 35 63 (.iastore) 1 rfl) rfl (fun V7 hV7 => ?_)
  replace h := wV_some h V7 hV7
  refine Ak_aload_n 65 0 (d_Values_longestFrom 36 64 (.aload_n 0) 1 rfl) rfl rfl rfl ?_
  refine Ak_getF 68 4 hO clX10 (by decide) rfl lkF_Values_22 (d_Values_longestFrom 37 65 (.getfield 22) 3 rfl) rfl ?_
  refine Ak_iload_n 69 3 (d_Values_longestFrom 38 68 (.iload_n 3) 1 rfl) rfl rfl rfl ?_
  refine Ak_iaload 70 ha6 (d_Values_longestFrom 39 69 (.iaload) 1 rfl) rfl ?_
  refine Ak_if_ne 78 73 (d_Values_longestFrom 40 70 (.ifCond .ne 8) 3 rfl) rfl rfl (fun hc => ?_) (fun hc => ?_)
  · replace h := it_f hc h
    refine Ak_iinc 81 (d_Values_longestFrom 44 78 (.iinc 2 1) 3 rfl) rfl rfl (by decide) ?_
    refine Ak_goto 11 (d_Values_longestFrom 45 81 (.goto (-70)) 3 rfl) rfl ?_
    refine Ak_keep [true, true, true] ?_
    exact hK11 h
  · replace h := it_t hc h
    refine Ak_aload_n 74 0 (d_Values_longestFrom 41 73 (.aload_n 0) 1 rfl) rfl rfl rfl ?_
    refine Ak_iload_n 75 3 (d_Values_longestFrom 42 74 (.iload_n 3) 1 rfl) rfl rfl rfl ?_
    obtain ⟨r8, V9, h10, h⟩ := bnd_some h
    refine Ak_cV0 78 2 (c_Values_enqueue h10) rfl hO clX10 rfl mok_Values_enqueue lkM_Values_96 (d_Values_longestFrom 43 75 (.invokevirtual 96) 3 rfl) rfl (by decide) (Nat.le_of_ble_eq_true rfl) ?_
    refine Ak_iinc 81 (d_Values_longestFrom 44 78 (.iinc 2 1) 3 rfl) rfl rfl (by decide) ?_
    refine Ak_goto 11 (d_Values_longestFrom 45 81 (.goto (-70)) 3 rfl) rfl ?_
    refine Ak_keep [true, true, true] ?_
    exact hK11 h
theorem t_Values_longestFrom_J147 {S : ASh} {V : ASt} {x0 x1 s0 : Int} {r : Int} {V' : ASt} (hO : isO S x0 10 = true) (h : b_Values_longestFrom_J147 S  V x0 x1 s0 = some (r, V')) : AWk m_Values_longestFrom 5 0 0 0 0 147 [some (aR x0), some (aI x1)] [(aI s0)] S V (some (aI r)) S V' := by
  unfold b_Values_longestFrom_J147 at h
  refine Ak_istore_n 148 2 (d_Values_longestFrom 77 147 (.istore_n 2) 1 rfl) rfl rfl (by decide) ?_
  refine Ak_iload_n 149 2 (d_Values_longestFrom 78 148 (.iload_n 2) 1 rfl) rfl rfl rfl ?_
  refine Ak_if_eq 161 152 (d_Values_longestFrom 79 149 (.ifCond .eq 12) 3 rfl) rfl rfl (fun hc => ?_) (fun hc => ?_)
  · replace h := it_t hc h
    refine Ak_iconst 162 (d_Values_longestFrom 85 161 (.iconst (-1)) 1 rfl) rfl (rk rfl) ?_
    cases h
    exact Ak_iret rfl (d_Values_longestFrom 86 162 (.ireturn) 1 rfl)
  · replace h := it_f hc h
    refine Ak_aload_n 153 0 (d_Values_longestFrom 80 152 (.aload_n 0) 1 rfl) rfl rfl rfl ?_
    refine Ak_getF 156 9 hO clX10 (by decide) rfl lkF_Values_38 (d_Values_longestFrom 81 153 (.getfield 38) 3 rfl) rfl ?_
    refine Ak_iload_n 157 1 (d_Values_longestFrom 82 156 (.iload_n 1) 1 rfl) rfl rfl rfl ?_
    obtain ⟨ha11, h⟩ := gd_some h
    refine Ak_iaload 158 ha11 (d_Values_longestFrom 83 157 (.iaload) 1 rfl) rfl ?_
    refine Ak_goto 162 (d_Values_longestFrom 84 158 (.goto 4) 3 rfl) rfl ?_
    cases h
    exact Ak_iret rfl (d_Values_longestFrom 86 162 (.ireturn) 1 rfl)
theorem t_Values_longestFrom_J117 {S : ASh} {V : ASt} {x0 x1 : Int} {r : Int} {V' : ASt} (hO : isO S x0 10 = true) (h : b_Values_longestFrom_J117 S  V x0 x1 = some (r, V')) : AWk m_Values_longestFrom 5 0 0 0 0 117 [some (aR x0), some (aI x1)] [] S V (some (aI r)) S V' := by
  unfold b_Values_longestFrom_J117 at h
  refine Ak_aload_n 118 0 (d_Values_longestFrom 63 117 (.aload_n 0) 1 rfl) rfl rfl rfl ?_
  refine Ak_getI 121 8 hO clX10 (by decide) (Or.inl rfl) lkF_Values_34 (d_Values_longestFrom 64 118 (.getfield 34) 3 rfl) rfl ?_
  refine Ak_aload_n 122 0 (d_Values_longestFrom 65 121 (.aload_n 0) 1 rfl) rfl rfl rfl ?_
  refine Ak_getF 125 1 hO clX10 (by decide) rfl lkF_Values_51 (d_Values_longestFrom 66 122 (.getfield 51) 3 rfl) rfl ?_
  obtain ⟨hg12, h⟩ := gd_some h
  refine Ak_getI 128 1 hg12 clX4 (by decide) (Or.inl rfl) lkF_Values_74 (d_Values_longestFrom 67 125 (.getfield 74) 3 rfl) rfl ?_
  refine Ak_icmp_ne 146 131 (d_Values_longestFrom 68 128 (.if_icmp .ne 18) 3 rfl) rfl rfl (fun hc => ?_) (fun hc => ?_)
  · replace h := it_f hc h
    refine Ak_iconst 147 (d_Values_longestFrom 76 146 (.iconst 0) 1 rfl) rfl (rk rfl) ?_
    refine Ak_keep [true, true] ?_
    exact t_Values_longestFrom_J147 hO h
  · replace h := it_t hc h
    refine Ak_iload_n 132 1 (d_Values_longestFrom 69 131 (.iload_n 1) 1 rfl) rfl rfl rfl ?_
    refine Ak_if_lt 146 135 (d_Values_longestFrom 70 132 (.ifCond .lt 14) 3 rfl) rfl rfl (fun hc => ?_) (fun hc => ?_)
    · replace h := it_t hc h
      refine Ak_iconst 147 (d_Values_longestFrom 76 146 (.iconst 0) 1 rfl) rfl (rk rfl) ?_
      refine Ak_keep [true, true] ?_
      exact t_Values_longestFrom_J147 hO h
    · replace h := it_f hc h
      refine Ak_iload_n 136 1 (d_Values_longestFrom 71 135 (.iload_n 1) 1 rfl) rfl rfl rfl ?_
      refine Ak_sipush 139 (d_Values_longestFrom 72 136 (.sipush 200) 3 rfl) rfl (sp_ok rfl) (rk rfl) ?_
      refine Ak_icmp_ge 146 142 (d_Values_longestFrom 73 139 (.if_icmp .ge 7) 3 rfl) rfl rfl (fun hc => ?_) (fun hc => ?_)
      · replace h := it_t hc h
        refine Ak_iconst 147 (d_Values_longestFrom 76 146 (.iconst 0) 1 rfl) rfl (rk rfl) ?_
        refine Ak_keep [true, true] ?_
        exact t_Values_longestFrom_J147 hO h
      · replace h := it_f hc h
        refine Ak_iconst 143 (d_Values_longestFrom 74 142 (.iconst 1) 1 rfl) rfl (rk rfl) ?_
        refine Ak_goto 147 (d_Values_longestFrom 75 143 (.goto 4) 3 rfl) rfl ?_
        refine Ak_keep [true, true] ?_
        exact t_Values_longestFrom_J147 hO h
theorem t_Values_longestFrom_L86 {S : ASh} {x0 x1 : Int} (hO : isO S x0 10 = true) : ∀ (n : Nat) (V : ASt) (x2 : Int) (r : Int) (V' : ASt), b_Values_longestFrom_L86 S x0 x1 n V x2 = some (r, V') → AWk m_Values_longestFrom 5 0 0 0 0 86 [some (aR x0), some (aI x1), some (aI x2)] [] S V (some (aI r)) S V' := by
  intro n
  induction n with
  | zero => intro V x2 r V' h; cases h
  | succ n ih =>
    intro V x2 r V' h
    replace ih : ∀ {V : ASt} {x2 : Int} {r : Int} {V' : ASt}, b_Values_longestFrom_L86 S x0 x1 n V x2 = some (r, V') → AWk m_Values_longestFrom 5 0 0 0 0 86 [some (aR x0), some (aI x1), some (aI x2)] [] S V (some (aI r)) S V' := fun h => ih _ _ _ _ h
    rw [b_Values_longestFrom_L86] at h
    refine Ak_iload_n 87 2 (d_Values_longestFrom 48 86 (.iload_n 2) 1 rfl) rfl rfl rfl ?_
    refine Ak_aload_n 88 0 (d_Values_longestFrom 49 87 (.aload_n 0) 1 rfl) rfl rfl rfl ?_
    refine Ak_getI 91 8 hO clX10 (by decide) (Or.inl rfl) lkF_Values_34 (d_Values_longestFrom 50 88 (.getfield 34) 3 rfl) rfl ?_
    refine Ak_icmp_ge 117 94 (d_Values_longestFrom 51 91 (.if_icmp .ge 26) 3 rfl) rfl rfl (fun hc => ?_) (fun hc => ?_)
    · replace h := it_t hc h
      refine Ak_keep [true, true] ?_
      exact t_Values_longestFrom_J117 hO h
    · replace h := it_f hc h
      refine Ak_iload_n 95 2 (d_Values_longestFrom 52 94 (.iload_n 2) 1 rfl) rfl rfl rfl ?_
      refine Ak_sipush 98 (d_Values_longestFrom 53 95 (.sipush 200) 3 rfl) rfl (sp_ok rfl) (rk rfl) ?_
      refine Ak_icmp_ge 117 101 (d_Values_longestFrom 54 98 (.if_icmp .ge 19) 3 rfl) rfl rfl (fun hc => ?_) (fun hc => ?_)
      · replace h := it_t hc h
        refine Ak_keep [true, true] ?_
        exact t_Values_longestFrom_J117 hO h
      · replace h := it_f hc h
        refine Ak_aload_n 102 0 (d_Values_longestFrom 55 101 (.aload_n 0) 1 rfl) rfl rfl rfl ?_
        refine Ak_aload_n 103 0 (d_Values_longestFrom 56 102 (.aload_n 0) 1 rfl) rfl rfl rfl ?_
        refine Ak_getF 106 7 hO clX10 (by decide) rfl lkF_Values_31 (d_Values_longestFrom 57 103 (.getfield 31) 3 rfl) rfl ?_
        refine Ak_iload_n 107 2 (d_Values_longestFrom 58 106 (.iload_n 2) 1 rfl) rfl rfl rfl ?_
        obtain ⟨ha13, h⟩ := gd_some h
        refine Ak_iaload 108 ha13 (d_Values_longestFrom 59 107 (.iaload) 1 rfl) rfl ?_
        obtain ⟨r14, V15, h16, h⟩ := bnd_some h
        refine Ak_cV0 111 3 (c_Values_lengthenSourcesOf h16) rfl hO clX10 rfl mok_Values_lengthenSourcesOf lkM_Values_109 (d_Values_longestFrom 60 108 (.invokevirtual 109) 3 rfl) rfl (by decide) (Nat.le_of_ble_eq_true rfl) ?_
        refine Ak_iinc 114 (d_Values_longestFrom 61 111 (.iinc 2 1) 3 rfl) rfl rfl (by decide) ?_
        refine Ak_goto 86 (d_Values_longestFrom 62 114 (.goto (-28)) 3 rfl) rfl ?_
        refine Ak_keep [true, true, true] ?_
        exact ih h
theorem t_Values_longestFrom_L11 {S : ASh} {x0 x1 : Int} (hO : isO S x0 10 = true) : ∀ (n : Nat) (V : ASt) (x2 : Int) (r : Int) (V' : ASt), b_Values_longestFrom_L11 S x0 x1 n V x2 = some (r, V') → AWk m_Values_longestFrom 5 0 0 0 0 11 [some (aR x0), some (aI x1), some (aI x2)] [] S V (some (aI r)) S V' := by
  intro n
  induction n with
  | zero => intro V x2 r V' h; cases h
  | succ n ih =>
    intro V x2 r V' h
    replace ih : ∀ {V : ASt} {x2 : Int} {r : Int} {V' : ASt}, b_Values_longestFrom_L11 S x0 x1 n V x2 = some (r, V') → AWk m_Values_longestFrom 5 0 0 0 0 11 [some (aR x0), some (aI x1), some (aI x2)] [] S V (some (aI r)) S V' := fun h => ih _ _ _ _ h
    rw [b_Values_longestFrom_L11] at h
    refine Ak_iload_n 12 2 (d_Values_longestFrom 7 11 (.iload_n 2) 1 rfl) rfl rfl rfl ?_
    refine Ak_aload_n 13 0 (d_Values_longestFrom 8 12 (.aload_n 0) 1 rfl) rfl rfl rfl ?_
    refine Ak_getF 16 1 hO clX10 (by decide) rfl lkF_Values_51 (d_Values_longestFrom 9 13 (.getfield 51) 3 rfl) rfl ?_
    obtain ⟨hg17, h⟩ := gd_some h
    refine Ak_getI 19 1 hg17 clX4 (by decide) (Or.inl rfl) lkF_Values_74 (d_Values_longestFrom 10 16 (.getfield 74) 3 rfl) rfl ?_
    refine Ak_icmp_ge 84 22 (d_Values_longestFrom 11 19 (.if_icmp .ge 65) 3 rfl) rfl rfl (fun hc => ?_) (fun hc => ?_)
    · replace h := it_t hc h
      refine Ak_iconst 85 (d_Values_longestFrom 46 84 (.iconst 0) 1 rfl) rfl (rk rfl) ?_
      refine Ak_istore_n 86 2 (d_Values_longestFrom 47 85 (.istore_n 2) 1 rfl) rfl rfl (by decide) ?_
      refine Ak_keep [true, true, true] ?_
      exact t_Values_longestFrom_L86 hO FU _ _ _ _ h
    · replace h := it_f hc h
      refine Ak_aload_n 23 0 (d_Values_longestFrom 12 22 (.aload_n 0) 1 rfl) rfl rfl rfl ?_
      refine Ak_getF 26 1 hO clX10 (by decide) rfl lkF_Values_51 (d_Values_longestFrom 13 23 (.getfield 51) 3 rfl) rfl ?_
      refine Ak_iload_n 27 2 (d_Values_longestFrom 14 26 (.iload_n 2) 1 rfl) rfl rfl rfl ?_
      obtain ⟨r18, V19, h20, h⟩ := bnd_some h
      refine Ak_cV1 30 2 (c_Moves_listedAt h20) rfl hg17 clX4 rfl mok_Moves_listedAt lkM_Values_77 (d_Values_longestFrom 15 27 (.invokevirtual 77) 3 rfl) rfl (by decide) (Nat.le_of_ble_eq_true rfl) ?_
      refine Ak_istore_n 31 3 (d_Values_longestFrom 16 30 (.istore_n 3) 1 rfl) rfl rfl (by decide) ?_
      refine Ak_aload_n 32 0 (d_Values_longestFrom 17 31 (.aload_n 0) 1 rfl) rfl rfl rfl ?_
      refine Ak_getF 35 9 hO clX10 (by decide) rfl lkF_Values_38 (d_Values_longestFrom 18 32 (.getfield 38) 3 rfl) rfl ?_
      refine Ak_iload_n 36 3 (d_Values_longestFrom 19 35 (.iload_n 3) 1 rfl) rfl rfl rfl ?_
      refine Ak_aload_n 37 0 (d_Values_longestFrom 20 36 (.aload_n 0) 1 rfl) rfl rfl rfl ?_
      refine Ak_getF 40 1 hO clX10 (by decide) rfl lkF_Values_51 (d_Values_longestFrom 21 37 (.getfield 51) 3 rfl) rfl ?_
      refine Ak_iload_n 41 3 (d_Values_longestFrom 22 40 (.iload_n 3) 1 rfl) rfl rfl rfl ?_
      obtain ⟨r21, V22, h23, h⟩ := bnd_some h
      refine Ak_cV1 44 2 (c_Moves_countOf h23) rfl hg17 clX4 rfl mok_Moves_countOf lkM_Values_59 (d_Values_longestFrom 23 41 (.invokevirtual 59) 3 rfl) rfl (by decide) (Nat.le_of_ble_eq_true rfl) ?_
      refine Ak_if_le 51 47 (d_Values_longestFrom 24 44 (.ifCond .le 7) 3 rfl) rfl rfl (fun hc => ?_) (fun hc => ?_)
      · replace h := it_t hc h
        refine Ak_iconst 52 (d_Values_longestFrom 27 51 (.iconst 0) 1 rfl) rfl (rk rfl) ?_
        refine Ak_keep [true, true, true, true] ?_
        exact t_Values_longestFrom_J52 hO (fun h => ih h) h
      · replace h := it_f hc h
        refine Ak_iconst 48 (d_Values_longestFrom 25 47 (.iconst 1) 1 rfl) rfl (rk rfl) ?_
        refine Ak_goto 52 (d_Values_longestFrom 26 48 (.goto 4) 3 rfl) rfl ?_
        refine Ak_keep [true, true, true, true] ?_
        exact t_Values_longestFrom_J52 hO (fun h => ih h) h
theorem c_Values_longestFrom {S : ASh} {V : ASt} {x0 x1 : Int} {r : Int} {V' : ASt} (h : f_Values_longestFrom S V x0 x1 = some (r, V')) : ACt m_Values_longestFrom 5 0 0 [(aR x0), (aI x1)] S V (some (aI r)) S V' := by
  unfold f_Values_longestFrom at h
  obtain ⟨hO, h⟩ := gd_some h
  refine ACt_of (plainFor_of_name rfl) rfl (Nat.le_of_ble_eq_true rfl) ?_
  show AWk m_Values_longestFrom 5 0 0 0 0 0 [some (aR x0), some (aI x1)] [] S V (some (aI r)) S V'
  refine Ak_aload_n 1 0 (d_Values_longestFrom 0 0 (.aload_n 0) 1 rfl) rfl rfl rfl ?_
  obtain ⟨r24, V25, h26, h⟩ := bnd_some h
  refine Ak_cV0 4 4 (c_Values_findSources h26) rfl hO clX10 rfl mok_Values_findSources lkM_Values_71 (d_Values_longestFrom 1 1 (.invokevirtual 71) 3 rfl) rfl (by decide) (Nat.le_of_ble_eq_true rfl) ?_
  refine Ak_aload_n 5 0 (d_Values_longestFrom 2 4 (.aload_n 0) 1 rfl) rfl rfl rfl ?_
  refine Ak_iconst 6 (d_Values_longestFrom 3 5 (.iconst 0) 1 rfl) rfl (rk rfl) ?_
  refine Ak_putI 9 8 hO clX10 (by decide) rfl rfl rfl lkF_Values_34 (d_Values_longestFrom 4 6 (.putfield 34) 3 rfl) rfl (fun V27 hV27 => ?_)
  replace h := wV_some h V27 hV27
  refine Ak_iconst 10 (d_Values_longestFrom 5 9 (.iconst 0) 1 rfl) rfl (rk rfl) ?_
  refine Ak_istore_n 11 2 (d_Values_longestFrom 6 10 (.istore_n 2) 1 rfl) rfl rfl (by decide) ?_
  refine Ak_keep [true, true, true] ?_
  exact t_Values_longestFrom_L11 hO FU _ _ _ _ h
theorem c_Values_chanceOfWinner {S : ASh} {V : ASt} {x0 : Int} {r : Int} {V' : ASt} (h : f_Values_chanceOfWinner S V x0 = some (r, V')) : ACt m_Values_chanceOfWinner 2 0 0 [(aI x0)] S V (some (aL r)) S V' := by
  unfold f_Values_chanceOfWinner at h
  refine ACt_of (plainFor_of_name rfl) rfl (Nat.le_of_ble_eq_true rfl) ?_
  show AWk m_Values_chanceOfWinner 2 0 0 0 0 0 [some (aI x0)] [] S V (some (aL r)) S V'
  refine Ak_iload_n 1 0 (d_Values_chanceOfWinner 0 0 (.iload_n 0) 1 rfl) rfl rfl rfl ?_
  refine Ak_if_ne 10 4 (d_Values_chanceOfWinner 1 1 (.ifCond .ne 9) 3 rfl) rfl rfl (fun hc => ?_) (fun hc => ?_)
  · replace h := it_f hc h
    refine Ak_lconst 11 0 (d_Values_chanceOfWinner 4 10 (.lconst 0) 1 rfl) rfl rfl (rkL rfl) ?_
    cases h
    exact Ak_lret rfl (d_Values_chanceOfWinner 5 11 (.lreturn) 1 rfl)
  · replace h := it_t hc h
    refine Ak_ldc2 7 1000000000 (d_Values_chanceOfWinner 2 4 (.ldc2_w 128) 3 rfl) rfl lkJ_Values_128 (rkL rfl) ?_
    refine Ak_goto 11 (d_Values_chanceOfWinner 3 7 (.goto 4) 3 rfl) rfl ?_
    cases h
    exact Ak_lret rfl (d_Values_chanceOfWinner 5 11 (.lreturn) 1 rfl)
theorem t_Values_chanceOneMoveOn_J85 {S : ASh} {K34 : ASt → Int → Int → Int → Option (Int × ASt)} {V : ASt} {x0 x1 x2 x3 x4 x5 x7 x9 s0 : Int} {r : Int} {V' : ASt} (hO : isO S x0 10 = true) (hK34 : ∀ {V : ASt} {y5 y7 y9 : Int} {r : Int} {V' : ASt}, K34 V y5 y7 y9 = some (r, V') → AWk m_Values_chanceOneMoveOn 4 0 0 0 0 34 [some (aR x0), some (aI x1), some (aR x2), some (aI x3), some (aI x4), some (aL y5), none, some (aL y7), none, some (aI y9)] [] S V (some (aL r)) S V') (h : b_Values_chanceOneMoveOn_J85 S K34 V x0 x1 x2 x3 x4 x5 x7 x9 s0 = some (r, V')) : AWk m_Values_chanceOneMoveOn 4 0 0 0 0 85 [some (aR x0), some (aI x1), some (aR x2), some (aI x3), some (aI x4), some (aL x5), none, some (aL x7), none, some (aI x9)] [(aL s0)] S V (some (aL r)) S V' := by
  unfold b_Values_chanceOneMoveOn_J85 at h
  refine Ak_lstore 87 (d_Values_chanceOneMoveOn 47 85 (.lstore 11) 2 rfl) rfl (by decide) ?_
  refine Ak_lload 89 (d_Values_chanceOneMoveOn 48 87 (.lload 5) 2 rfl) rfl rfl ?_
  refine Ak_lload 91 (d_Values_chanceOneMoveOn 49 89 (.lload 11) 2 rfl) rfl rfl ?_
  refine Ak_ladd 92 (d_Values_chanceOneMoveOn 50 91 (.ladd) 1 rfl) rfl ?_
  refine Ak_lstore 94 (d_Values_chanceOneMoveOn 51 92 (.lstore 5) 2 rfl) rfl (by decide) ?_
  refine Ak_iload 96 (d_Values_chanceOneMoveOn 52 94 (.iload 9) 2 rfl) rfl rfl ?_
  refine Ak_aload_n 97 0 (d_Values_chanceOneMoveOn 53 96 (.aload_n 0) 1 rfl) rfl rfl rfl ?_
  refine Ak_getF 100 10 hO clX10 (by decide) rfl lkF_Values_41 (d_Values_chanceOneMoveOn 54 97 (.getfield 41) 3 rfl) rfl ?_
  refine Ak_iload_n 101 1 (d_Values_chanceOneMoveOn 55 100 (.iload_n 1) 1 rfl) rfl rfl rfl ?_
  obtain ⟨ha1, h⟩ := gd_some h
  refine Ak_iaload 102 ha1 (d_Values_chanceOneMoveOn 56 101 (.iaload) 1 rfl) rfl ?_
  refine Ak_icmp_ne 110 105 (d_Values_chanceOneMoveOn 57 102 (.if_icmp .ne 8) 3 rfl) rfl rfl (fun hc => ?_) (fun hc => ?_)
  · replace h := it_f hc h
    refine Ak_lload 112 (d_Values_chanceOneMoveOn 60 110 (.lload 7) 2 rfl) rfl rfl ?_
    refine Ak_lstore 114 (d_Values_chanceOneMoveOn 61 112 (.lstore 7) 2 rfl) rfl (by decide) ?_
    refine Ak_iinc 117 (d_Values_chanceOneMoveOn 62 114 (.iinc 9 1) 3 rfl) rfl rfl (by decide) ?_
    refine Ak_goto 34 (d_Values_chanceOneMoveOn 63 117 (.goto (-83)) 3 rfl) rfl ?_
    refine Ak_keep [true, true, true, true, true, true, false, true, false, true] ?_
    exact hK34 h
  · replace h := it_t hc h
    refine Ak_lload 107 (d_Values_chanceOneMoveOn 58 105 (.lload 11) 2 rfl) rfl rfl ?_
    refine Ak_goto 112 (d_Values_chanceOneMoveOn 59 107 (.goto 5) 3 rfl) rfl ?_
    refine Ak_lstore 114 (d_Values_chanceOneMoveOn 61 112 (.lstore 7) 2 rfl) rfl (by decide) ?_
    refine Ak_iinc 117 (d_Values_chanceOneMoveOn 62 114 (.iinc 9 1) 3 rfl) rfl rfl (by decide) ?_
    refine Ak_goto 34 (d_Values_chanceOneMoveOn 63 117 (.goto (-83)) 3 rfl) rfl ?_
    refine Ak_keep [true, true, true, true, true, true, false, true, false, true] ?_
    exact hK34 h
theorem t_Values_chanceOneMoveOn_J82 {S : ASh} {K34 : ASt → Int → Int → Int → Option (Int × ASt)} {V : ASt} {x0 x1 x2 x3 x4 x5 x7 x9 s0 : Int} {r : Int} {V' : ASt} (hO : isO S x0 10 = true) (hK34 : ∀ {V : ASt} {y5 y7 y9 : Int} {r : Int} {V' : ASt}, K34 V y5 y7 y9 = some (r, V') → AWk m_Values_chanceOneMoveOn 4 0 0 0 0 34 [some (aR x0), some (aI x1), some (aR x2), some (aI x3), some (aI x4), some (aL y5), none, some (aL y7), none, some (aI y9)] [] S V (some (aL r)) S V') (h : b_Values_chanceOneMoveOn_J82 S K34 V x0 x1 x2 x3 x4 x5 x7 x9 s0 = some (r, V')) : AWk m_Values_chanceOneMoveOn 4 0 0 0 0 82 [some (aR x0), some (aI x1), some (aR x2), some (aI x3), some (aI x4), some (aL x5), none, some (aL x7), none, some (aI x9)] [(aI s0)] S V (some (aL r)) S V' := by
  unfold b_Values_chanceOneMoveOn_J82 at h
  obtain ⟨r2, V3, h4, h⟩ := bnd_some h
  refine Ak_cS1 85 2 (c_Values_chanceOfWinner h4) rfl mok_Values_chanceOfWinner lkM_Values_120 (d_Values_chanceOneMoveOn 46 82 (.invokestatic 120) 3 rfl) rfl (by decide) (Nat.le_of_ble_eq_true rfl) ?_
  refine Ak_keep [true, true, true, true, true, true, false, true, false, true] ?_
  exact t_Values_chanceOneMoveOn_J85 hO (fun h => hK34 h) h
theorem t_Values_chanceOneMoveOn_J135 {S : ASh} {V : ASt} {x0 x3 x5 x7 s0 : Int} {r : Int} {V' : ASt} (hO : isO S x0 10 = true) (h : b_Values_chanceOneMoveOn_J135 S  V x0 x3 x5 x7 s0 = some (r, V')) : AWk m_Values_chanceOneMoveOn 4 0 0 0 0 135 [some (aR x0), none, none, some (aI x3), none, some (aL x5), none, some (aL x7)] [(aI s0)] S V (some (aL r)) S V' := by
  unfold b_Values_chanceOneMoveOn_J135 at h
  refine Ak_istore 137 (d_Values_chanceOneMoveOn 73 135 (.istore 9) 2 rfl) rfl (by decide) ?_
  refine Ak_bipush 139 (d_Values_chanceOneMoveOn 74 137 (.bipush 100) 2 rfl) rfl (bp_ok rfl) (rk rfl) ?_
  refine Ak_iload 141 (d_Values_chanceOneMoveOn 75 139 (.iload 9) 2 rfl) rfl rfl ?_
  refine Ak_isub 142 (d_Values_chanceOneMoveOn 76 141 (.isub) 1 rfl) rfl ?_
  refine Ak_i2l 143 (d_Values_chanceOneMoveOn 77 142 (.i2l) 1 rfl) rfl ?_
  refine Ak_lload 145 (d_Values_chanceOneMoveOn 78 143 (.lload 7) 2 rfl) rfl rfl ?_
  refine Ak_lmul 146 (d_Values_chanceOneMoveOn 79 145 (.lmul) 1 rfl) rfl ?_
  refine Ak_iload 148 (d_Values_chanceOneMoveOn 80 146 (.iload 9) 2 rfl) rfl rfl ?_
  refine Ak_i2l 149 (d_Values_chanceOneMoveOn 81 148 (.i2l) 1 rfl) rfl ?_
  refine Ak_lload 151 (d_Values_chanceOneMoveOn 82 149 (.lload 5) 2 rfl) rfl rfl ?_
  refine Ak_iload_n 152 3 (d_Values_chanceOneMoveOn 83 151 (.iload_n 3) 1 rfl) rfl rfl rfl ?_
  refine Ak_i2l 153 (d_Values_chanceOneMoveOn 84 152 (.i2l) 1 rfl) rfl ?_
  obtain ⟨hz5, h⟩ := gd_some h
  refine Ak_ldiv 154 (d_Values_chanceOneMoveOn 85 153 (.ldiv) 1 rfl) rfl (dec_t hz5) ?_
  refine Ak_lmul 155 (d_Values_chanceOneMoveOn 86 154 (.lmul) 1 rfl) rfl ?_
  refine Ak_ladd 156 (d_Values_chanceOneMoveOn 87 155 (.ladd) 1 rfl) rfl ?_
  refine Ak_ldc2 159 100 (d_Values_chanceOneMoveOn 88 156 (.ldc2_w 130) 3 rfl) rfl lkJ_Values_130 (rkL rfl) ?_
  refine Ak_ldiv 160 (d_Values_chanceOneMoveOn 89 159 (.ldiv) 1 rfl) rfl (by decide) ?_
  cases h
  exact Ak_lret rfl (d_Values_chanceOneMoveOn 90 160 (.lreturn) 1 rfl)
theorem t_Values_chanceOneMoveOn_L34 {S : ASh} {x0 x1 x2 x3 x4 : Int} (hO : isO S x0 10 = true) : ∀ (n : Nat) (V : ASt) (x5 x7 x9 : Int) (r : Int) (V' : ASt), b_Values_chanceOneMoveOn_L34 S x0 x1 x2 x3 x4 n V x5 x7 x9 = some (r, V') → AWk m_Values_chanceOneMoveOn 4 0 0 0 0 34 [some (aR x0), some (aI x1), some (aR x2), some (aI x3), some (aI x4), some (aL x5), none, some (aL x7), none, some (aI x9)] [] S V (some (aL r)) S V' := by
  intro n
  induction n with
  | zero => intro V x5 x7 x9 r V' h; cases h
  | succ n ih =>
    intro V x5 x7 x9 r V' h
    replace ih : ∀ {V : ASt} {x5 x7 x9 : Int} {r : Int} {V' : ASt}, b_Values_chanceOneMoveOn_L34 S x0 x1 x2 x3 x4 n V x5 x7 x9 = some (r, V') → AWk m_Values_chanceOneMoveOn 4 0 0 0 0 34 [some (aR x0), some (aI x1), some (aR x2), some (aI x3), some (aI x4), some (aL x5), none, some (aL x7), none, some (aI x9)] [] S V (some (aL r)) S V' := fun h => ih _ _ _ _ _ _ h
    rw [b_Values_chanceOneMoveOn_L34] at h
    refine Ak_iload 36 (d_Values_chanceOneMoveOn 22 34 (.iload 9) 2 rfl) rfl rfl ?_
    refine Ak_iload_n 37 3 (d_Values_chanceOneMoveOn 23 36 (.iload_n 3) 1 rfl) rfl rfl rfl ?_
    refine Ak_icmp_ge 120 40 (d_Values_chanceOneMoveOn 24 37 (.if_icmp .ge 83) 3 rfl) rfl rfl (fun hc => ?_) (fun hc => ?_)
    · replace h := it_t hc h
      refine Ak_iload 122 (d_Values_chanceOneMoveOn 64 120 (.iload 4) 2 rfl) rfl rfl ?_
      refine Ak_aload_n 123 2 (d_Values_chanceOneMoveOn 65 122 (.aload_n 2) 1 rfl) rfl rfl rfl ?_
      obtain ⟨hg6, h⟩ := gd_some h
      refine Ak_alen (c := 0) 124 hg6 (by decide) (d_Values_chanceOneMoveOn 66 123 (.arraylength) 1 rfl) rfl ?_
      refine Ak_icmp_ge 134 127 (d_Values_chanceOneMoveOn 67 124 (.if_icmp .ge 10) 3 rfl) rfl rfl (fun hc => ?_) (fun hc => ?_)
      · replace h := it_t hc h
        refine Ak_iconst 135 (d_Values_chanceOneMoveOn 72 134 (.iconst 0) 1 rfl) rfl (rk rfl) ?_
        refine Ak_keep [true, false, false, true, false, true, false, true] ?_
        exact t_Values_chanceOneMoveOn_J135 hO h
      · replace h := it_f hc h
        refine Ak_aload_n 128 2 (d_Values_chanceOneMoveOn 68 127 (.aload_n 2) 1 rfl) rfl rfl rfl ?_
        refine Ak_iload 130 (d_Values_chanceOneMoveOn 69 128 (.iload 4) 2 rfl) rfl rfl ?_
        obtain ⟨ha7, h⟩ := gd_some h
        refine Ak_iaload 131 ha7 (d_Values_chanceOneMoveOn 70 130 (.iaload) 1 rfl) rfl ?_
        refine Ak_goto 135 (d_Values_chanceOneMoveOn 71 131 (.goto 4) 3 rfl) rfl ?_
        refine Ak_keep [true, false, false, true, false, true, false, true] ?_
        exact t_Values_chanceOneMoveOn_J135 hO h
    · replace h := it_f hc h
      refine Ak_aload_n 41 0 (d_Values_chanceOneMoveOn 25 40 (.aload_n 0) 1 rfl) rfl rfl rfl ?_
      refine Ak_getF 44 1 hO clX10 (by decide) rfl lkF_Values_51 (d_Values_chanceOneMoveOn 26 41 (.getfield 51) 3 rfl) rfl ?_
      refine Ak_iload_n 45 1 (d_Values_chanceOneMoveOn 27 44 (.iload_n 1) 1 rfl) rfl rfl rfl ?_
      refine Ak_iload 47 (d_Values_chanceOneMoveOn 28 45 (.iload 9) 2 rfl) rfl rfl ?_
      obtain ⟨hg11, h⟩ := gd_some h
      obtain ⟨r8, V9, h10, h⟩ := bnd_some h
      refine Ak_cV1 50 3 (c_Moves_nextOf h10) rfl hg11 clX4 rfl mok_Moves_nextOf lkM_Values_64 (d_Values_chanceOneMoveOn 29 47 (.invokevirtual 64) 3 rfl) rfl (by decide) (Nat.le_of_ble_eq_true rfl) ?_
      refine Ak_istore 52 (d_Values_chanceOneMoveOn 30 50 (.istore 10) 2 rfl) rfl (by decide) ?_
      refine Ak_iload 54 (d_Values_chanceOneMoveOn 31 52 (.iload 10) 2 rfl) rfl rfl ?_
      refine Ak_if_lt 67 57 (d_Values_chanceOneMoveOn 32 54 (.ifCond .lt 13) 3 rfl) rfl rfl (fun hc => ?_) (fun hc => ?_)
      · replace h := it_t hc h
        refine Ak_iload 69 (d_Values_chanceOneMoveOn 38 67 (.iload 10) 2 rfl) rfl rfl ?_
        refine Ak_iconst 70 (d_Values_chanceOneMoveOn 39 69 (.iconst (-1)) 1 rfl) rfl (rk rfl) ?_
        refine Ak_icmp_ne 78 73 (d_Values_chanceOneMoveOn 40 70 (.if_icmp .ne 8) 3 rfl) rfl rfl (fun hc => ?_) (fun hc => ?_)
        · replace h := it_f hc h
          refine Ak_iconst 79 (d_Values_chanceOneMoveOn 43 78 (.iconst 1) 1 rfl) rfl (rk rfl) ?_
          refine Ak_iload 81 (d_Values_chanceOneMoveOn 44 79 (.iload 4) 2 rfl) rfl rfl ?_
          refine Ak_isub 82 (d_Values_chanceOneMoveOn 45 81 (.isub) 1 rfl) rfl ?_
          refine Ak_keep [true, true, true, true, true, true, false, true, false, true] ?_
          exact t_Values_chanceOneMoveOn_J82 hO (fun h => ih h) h
        · replace h := it_t hc h
          refine Ak_iload 75 (d_Values_chanceOneMoveOn 41 73 (.iload 4) 2 rfl) rfl rfl ?_
          refine Ak_goto 82 (d_Values_chanceOneMoveOn 42 75 (.goto 7) 3 rfl) rfl ?_
          refine Ak_keep [true, true, true, true, true, true, false, true, false, true] ?_
          exact t_Values_chanceOneMoveOn_J82 hO (fun h => ih h) h
      · replace h := it_f hc h
        refine Ak_aload_n 58 0 (d_Values_chanceOneMoveOn 33 57 (.aload_n 0) 1 rfl) rfl rfl rfl ?_
        refine Ak_getR 61 12 hO clX10 (by decide) rfl lkF_Values_48 (d_Values_chanceOneMoveOn 34 58 (.getfield 48) 3 rfl) rfl ?_
        refine Ak_iload 63 (d_Values_chanceOneMoveOn 35 61 (.iload 10) 2 rfl) rfl rfl ?_
        obtain ⟨ha12, h⟩ := gd_some h
        refine Ak_laload 64 ha12 (d_Values_chanceOneMoveOn 36 63 (.laload) 1 rfl) rfl ?_
        refine Ak_goto 85 (d_Values_chanceOneMoveOn 37 64 (.goto 21) 3 rfl) rfl ?_
        refine Ak_keep [true, true, true, true, true, true, false, true, false, true] ?_
        exact t_Values_chanceOneMoveOn_J85 hO (fun h => ih h) h
theorem c_Values_chanceOneMoveOn {S : ASh} {V : ASt} {x0 x1 x2 : Int} {r : Int} {V' : ASt} (h : f_Values_chanceOneMoveOn S V x0 x1 x2 = some (r, V')) : ACt m_Values_chanceOneMoveOn 4 0 0 [(aR x0), (aI x1), (aR x2)] S V (some (aL r)) S V' := by
  unfold f_Values_chanceOneMoveOn at h
  obtain ⟨hO, h⟩ := gd_some h
  refine ACt_of (plainFor_of_name rfl) rfl (Nat.le_of_ble_eq_true rfl) ?_
  show AWk m_Values_chanceOneMoveOn 4 0 0 0 0 0 [some (aR x0), some (aI x1), some (aR x2)] [] S V (some (aL r)) S V'
  refine Ak_aload_n 1 0 (d_Values_chanceOneMoveOn 0 0 (.aload_n 0) 1 rfl) rfl rfl rfl ?_
  refine Ak_getF 4 1 hO clX10 (by decide) rfl lkF_Values_51 (d_Values_chanceOneMoveOn 1 1 (.getfield 51) 3 rfl) rfl ?_
  refine Ak_iload_n 5 1 (d_Values_chanceOneMoveOn 2 4 (.iload_n 1) 1 rfl) rfl rfl rfl ?_
  obtain ⟨hg16, h⟩ := gd_some h
  obtain ⟨r13, V14, h15, h⟩ := bnd_some h
  refine Ak_cV1 8 2 (c_Moves_countOf h15) rfl hg16 clX4 rfl mok_Moves_countOf lkM_Values_59 (d_Values_chanceOneMoveOn 3 5 (.invokevirtual 59) 3 rfl) rfl (by decide) (Nat.le_of_ble_eq_true rfl) ?_
  refine Ak_istore_n 9 3 (d_Values_chanceOneMoveOn 4 8 (.istore_n 3) 1 rfl) rfl rfl (by decide) ?_
  refine Ak_iload_n 10 3 (d_Values_chanceOneMoveOn 5 9 (.iload_n 3) 1 rfl) rfl rfl rfl ?_
  refine Ak_if_ne 20 13 (d_Values_chanceOneMoveOn 6 10 (.ifCond .ne 10) 3 rfl) rfl rfl (fun hc => ?_) (fun hc => ?_)
  · replace h := it_f hc h
    refine Ak_iload_n 21 1 (d_Values_chanceOneMoveOn 12 20 (.iload_n 1) 1 rfl) rfl rfl rfl ?_
    refine Ak_iconst 22 (d_Values_chanceOneMoveOn 13 21 (.iconst 1) 1 rfl) rfl (rk rfl) ?_
    refine Ak_iand 23 (d_Values_chanceOneMoveOn 14 22 (.iand) 1 rfl) rfl ?_
    refine Ak_istore 25 (d_Values_chanceOneMoveOn 15 23 (.istore 4) 2 rfl) rfl (by decide) ?_
    refine Ak_lconst 26 0 (d_Values_chanceOneMoveOn 16 25 (.lconst 0) 1 rfl) rfl rfl (rkL rfl) ?_
    refine Ak_lstore 28 (d_Values_chanceOneMoveOn 17 26 (.lstore 5) 2 rfl) rfl (by decide) ?_
    refine Ak_lconst 29 0 (d_Values_chanceOneMoveOn 18 28 (.lconst 0) 1 rfl) rfl rfl (rkL rfl) ?_
    refine Ak_lstore 31 (d_Values_chanceOneMoveOn 19 29 (.lstore 7) 2 rfl) rfl (by decide) ?_
    refine Ak_iconst 32 (d_Values_chanceOneMoveOn 20 31 (.iconst 0) 1 rfl) rfl (rk rfl) ?_
    refine Ak_istore 34 (d_Values_chanceOneMoveOn 21 32 (.istore 9) 2 rfl) rfl (by decide) ?_
    refine Ak_keep [true, true, true, true, true, true, false, true, false, true] ?_
    exact t_Values_chanceOneMoveOn_L34 hO FU _ _ _ _ _ _ h
  · replace h := it_t hc h
    refine Ak_aload_n 14 0 (d_Values_chanceOneMoveOn 7 13 (.aload_n 0) 1 rfl) rfl rfl rfl ?_
    refine Ak_getR 17 12 hO clX10 (by decide) rfl lkF_Values_48 (d_Values_chanceOneMoveOn 8 14 (.getfield 48) 3 rfl) rfl ?_
    refine Ak_iload_n 18 1 (d_Values_chanceOneMoveOn 9 17 (.iload_n 1) 1 rfl) rfl rfl rfl ?_
    obtain ⟨ha17, h⟩ := gd_some h
    refine Ak_laload 19 ha17 (d_Values_chanceOneMoveOn 10 18 (.laload) 1 rfl) rfl ?_
    cases h
    exact Ak_lret rfl (d_Values_chanceOneMoveOn 11 19 (.lreturn) 1 rfl)
theorem t_Values_chanceFrom_J73 {S : ASh} {K3 : ASt → Int → Option (Int × ASt)} {V : ASt} {x0 x1 x2 x3 x4 s0 s1 s2 : Int} {r : Int} {V' : ASt} (hO : isO S x0 10 = true) (hK3 : ∀ {V : ASt} {y4 : Int} {r : Int} {V' : ASt}, K3 V y4 = some (r, V') → AWk m_Values_chanceFrom 5 0 0 0 0 3 [some (aR x0), some (aI x1), some (aI x2), some (aR x3), some (aI y4)] [] S V (some (aI r)) S V') (h : b_Values_chanceFrom_J73 S K3 V x0 x1 x2 x3 x4 s0 s1 s2 = some (r, V')) : AWk m_Values_chanceFrom 5 0 0 0 0 73 [some (aR x0), some (aI x1), some (aI x2), some (aR x3), some (aI x4)] [(aL s2), (aI s1), (aR s0)] S V (some (aI r)) S V' := by
  unfold b_Values_chanceFrom_J73 at h
  obtain ⟨ha1, h⟩ := gd_some h
  refine Ak_lastore 74 ha1 (d_Values_chanceFrom 34 73 (.lastore) 1 rfl) rfl (fun V2 hV2 => ?_)
  replace h := wV_some h V2 hV2
  refine Ak_iinc 77 (d_Values_chanceFrom 35 74 (.iinc 4 1) 3 rfl) rfl rfl (by decide) ?_
  refine Ak_goto 3 (d_Values_chanceFrom 36 77 (.goto (-74)) 3 rfl) rfl ?_
  refine Ak_keep [true, true, true, true, true] ?_
  exact hK3 h
theorem t_Values_chanceFrom_L112 {S : ASh} {K83 : ASt → Int → Option (Int × ASt)} {x0 x1 x2 x3 x4 : Int} (hO : isO S x0 10 = true) (hK83 : ∀ {V : ASt} {y4 : Int} {r : Int} {V' : ASt}, K83 V y4 = some (r, V') → AWk m_Values_chanceFrom 5 0 0 0 0 83 [some (aR x0), some (aI x1), some (aI x2), some (aR x3), some (aI y4)] [] S V (some (aI r)) S V') : ∀ (n : Nat) (V : ASt) (x6 : Int) (r : Int) (V' : ASt), b_Values_chanceFrom_L112 S K83 x0 x1 x2 x3 x4 n V x6 = some (r, V') → AWk m_Values_chanceFrom 5 0 0 0 0 112 [some (aR x0), some (aI x1), some (aI x2), some (aR x3), some (aI x4), none, some (aI x6)] [] S V (some (aI r)) S V' := by
  intro n
  induction n with
  | zero => intro V x6 r V' h; cases h
  | succ n ih =>
    intro V x6 r V' h
    replace ih : ∀ {V : ASt} {x6 : Int} {r : Int} {V' : ASt}, b_Values_chanceFrom_L112 S K83 x0 x1 x2 x3 x4 n V x6 = some (r, V') → AWk m_Values_chanceFrom 5 0 0 0 0 112 [some (aR x0), some (aI x1), some (aI x2), some (aR x3), some (aI x4), none, some (aI x6)] [] S V (some (aI r)) S V' := fun h => ih _ _ _ _ h
    rw [b_Values_chanceFrom_L112] at h
    refine Ak_iload 114 (d_Values_chanceFrom 54 112 (.iload 6) 2 rfl) rfl rfl ?_
    refine Ak_aload_n 115 0 (d_Values_chanceFrom 55 114 (.aload_n 0) 1 rfl) rfl rfl rfl ?_
    refine Ak_getF 118 1 hO clX10 (by decide) rfl lkF_Values_51 (d_Values_chanceFrom 56 115 (.getfield 51) 3 rfl) rfl ?_
    obtain ⟨hg3, h⟩ := gd_some h
    refine Ak_getI 121 1 hg3 clX4 (by decide) (Or.inl rfl) lkF_Values_74 (d_Values_chanceFrom 57 118 (.getfield 74) 3 rfl) rfl ?_
    refine Ak_icmp_ge 155 124 (d_Values_chanceFrom 58 121 (.if_icmp .ge 34) 3 rfl) rfl rfl (fun hc => ?_) (fun hc => ?_)
    · replace h := it_t hc h
      refine Ak_iinc 158 (d_Values_chanceFrom 74 155 (.iinc 4 1) 3 rfl) rfl rfl (by decide) ?_
      refine Ak_goto 83 (d_Values_chanceFrom 75 158 (.goto (-75)) 3 rfl) rfl ?_
      refine Ak_keep [true, true, true, true, true] ?_
      exact hK83 h
    · replace h := it_f hc h
      refine Ak_aload_n 125 0 (d_Values_chanceFrom 59 124 (.aload_n 0) 1 rfl) rfl rfl rfl ?_
      refine Ak_getF 128 1 hO clX10 (by decide) rfl lkF_Values_51 (d_Values_chanceFrom 60 125 (.getfield 51) 3 rfl) rfl ?_
      refine Ak_iload 130 (d_Values_chanceFrom 61 128 (.iload 6) 2 rfl) rfl rfl ?_
      obtain ⟨r4, V5, h6, h⟩ := bnd_some h
      refine Ak_cV1 133 2 (c_Moves_listedAt h6) rfl hg3 clX4 rfl mok_Moves_listedAt lkM_Values_77 (d_Values_chanceFrom 62 130 (.invokevirtual 77) 3 rfl) rfl (by decide) (Nat.le_of_ble_eq_true rfl) ?_
      refine Ak_istore 135 (d_Values_chanceFrom 63 133 (.istore 7) 2 rfl) rfl (by decide) ?_
      refine Ak_aload_n 136 0 (d_Values_chanceFrom 64 135 (.aload_n 0) 1 rfl) rfl rfl rfl ?_
      refine Ak_getR 139 11 hO clX10 (by decide) rfl lkF_Values_44 (d_Values_chanceFrom 65 136 (.getfield 44) 3 rfl) rfl ?_
      refine Ak_iload 141 (d_Values_chanceFrom 66 139 (.iload 7) 2 rfl) rfl rfl ?_
      refine Ak_aload_n 142 0 (d_Values_chanceFrom 67 141 (.aload_n 0) 1 rfl) rfl rfl rfl ?_
      refine Ak_iload 144 (d_Values_chanceFrom 68 142 (.iload 7) 2 rfl) rfl rfl ?_
      refine Ak_aload_n 145 3 (d_Values_chanceFrom 69 144 (.aload_n 3) 1 rfl) rfl rfl rfl ?_
      obtain ⟨r7, V8, h9, h⟩ := bnd_some h
      refine Ak_cV1 148 4 (c_Values_chanceOneMoveOn h9) rfl hO clX10 rfl mok_Values_chanceOneMoveOn lkM_Values_124 (d_Values_chanceFrom 70 145 (.invokevirtual 124) 3 rfl) rfl (by decide) (Nat.le_of_ble_eq_true rfl) ?_
      obtain ⟨ha10, h⟩ := gd_some h
      refine Ak_lastore 149 ha10 (d_Values_chanceFrom 71 148 (.lastore) 1 rfl) rfl (fun V11 hV11 => ?_)
      replace h := wV_some h V11 hV11
      refine Ak_iinc 152 (d_Values_chanceFrom 72 149 (.iinc 6 1) 3 rfl) rfl rfl (by decide) ?_
      refine Ak_goto 112 (d_Values_chanceFrom 73 152 (.goto (-40)) 3 rfl) rfl ?_
      refine Ak_keep [true, true, true, true, true, false, true] ?_
      exact ih h
theorem t_Values_chanceFrom_L83 {S : ASh} {x0 x1 x2 x3 : Int} (hO : isO S x0 10 = true) : ∀ (n : Nat) (V : ASt) (x4 : Int) (r : Int) (V' : ASt), b_Values_chanceFrom_L83 S x0 x1 x2 x3 n V x4 = some (r, V') → AWk m_Values_chanceFrom 5 0 0 0 0 83 [some (aR x0), some (aI x1), some (aI x2), some (aR x3), some (aI x4)] [] S V (some (aI r)) S V' := by
  intro n
  induction n with
  | zero => intro V x4 r V' h; cases h
  | succ n ih =>
    intro V x4 r V' h
    replace ih : ∀ {V : ASt} {x4 : Int} {r : Int} {V' : ASt}, b_Values_chanceFrom_L83 S x0 x1 x2 x3 n V x4 = some (r, V') → AWk m_Values_chanceFrom 5 0 0 0 0 83 [some (aR x0), some (aI x1), some (aI x2), some (aR x3), some (aI x4)] [] S V (some (aI r)) S V' := fun h => ih _ _ _ _ h
    rw [b_Values_chanceFrom_L83] at h
    refine Ak_iload 85 (d_Values_chanceFrom 39 83 (.iload 4) 2 rfl) rfl rfl ?_
    refine Ak_iload_n 86 2 (d_Values_chanceFrom 40 85 (.iload_n 2) 1 rfl) rfl rfl rfl ?_
    refine Ak_icmp_ge 161 89 (d_Values_chanceFrom 41 86 (.if_icmp .ge 75) 3 rfl) rfl rfl (fun hc => ?_) (fun hc => ?_)
    · replace h := it_t hc h
      refine Ak_iload_n 162 1 (d_Values_chanceFrom 76 161 (.iload_n 1) 1 rfl) rfl rfl rfl ?_
      refine Ak_if_lt 182 165 (d_Values_chanceFrom 77 162 (.ifCond .lt 20) 3 rfl) rfl rfl (fun hc => ?_) (fun hc => ?_)
      · replace h := it_t hc h
        refine Ak_iconst 183 (d_Values_chanceFrom 87 182 (.iconst 0) 1 rfl) rfl (rk rfl) ?_
        cases h
        exact Ak_iret rfl (d_Values_chanceFrom 88 183 (.ireturn) 1 rfl)
      · replace h := it_f hc h
        refine Ak_iload_n 166 1 (d_Values_chanceFrom 78 165 (.iload_n 1) 1 rfl) rfl rfl rfl ?_
        refine Ak_sipush 169 (d_Values_chanceFrom 79 166 (.sipush 200) 3 rfl) rfl (sp_ok rfl) (rk rfl) ?_
        refine Ak_icmp_ge 182 172 (d_Values_chanceFrom 80 169 (.if_icmp .ge 13) 3 rfl) rfl rfl (fun hc => ?_) (fun hc => ?_)
        · replace h := it_t hc h
          refine Ak_iconst 183 (d_Values_chanceFrom 87 182 (.iconst 0) 1 rfl) rfl (rk rfl) ?_
          cases h
          exact Ak_iret rfl (d_Values_chanceFrom 88 183 (.ireturn) 1 rfl)
        · replace h := it_f hc h
          refine Ak_aload_n 173 0 (d_Values_chanceFrom 81 172 (.aload_n 0) 1 rfl) rfl rfl rfl ?_
          refine Ak_getR 176 11 hO clX10 (by decide) rfl lkF_Values_44 (d_Values_chanceFrom 82 173 (.getfield 44) 3 rfl) rfl ?_
          refine Ak_iload_n 177 1 (d_Values_chanceFrom 83 176 (.iload_n 1) 1 rfl) rfl rfl rfl ?_
          obtain ⟨ha12, h⟩ := gd_some h
          refine Ak_laload 178 ha12 (d_Values_chanceFrom 84 177 (.laload) 1 rfl) rfl ?_
          refine Ak_l2i 179 (d_Values_chanceFrom 85 178 (.l2i) 1 rfl) rfl ?_
          refine Ak_goto 183 (d_Values_chanceFrom 86 179 (.goto 4) 3 rfl) rfl ?_
          cases h
          exact Ak_iret rfl (d_Values_chanceFrom 88 183 (.ireturn) 1 rfl)
    · replace h := it_f hc h
      refine Ak_aload_n 90 0 (d_Values_chanceFrom 42 89 (.aload_n 0) 1 rfl) rfl rfl rfl ?_
      refine Ak_getR 93 12 hO clX10 (by decide) rfl lkF_Values_48 (d_Values_chanceFrom 43 90 (.getfield 48) 3 rfl) rfl ?_
      obtain ⟨hn13, h⟩ := gd_some h
      refine Ak_astore 95 (dec_t hn13) (d_Values_chanceFrom 44 93 (.astore 5) 2 rfl) rfl (by decide) ?_
      refine Ak_aload_n 96 0 (d_Values_chanceFrom 45 95 (.aload_n 0) 1 rfl) rfl rfl rfl ?_
      refine Ak_aload_n 97 0 (d_Values_chanceFrom 46 96 (.aload_n 0) 1 rfl) rfl rfl rfl ?_
      refine Ak_getR 100 11 hO clX10 (by decide) rfl lkF_Values_44 (d_Values_chanceFrom 47 97 (.getfield 44) 3 rfl) rfl ?_
      refine Ak_putR 103 12 hO clX10 (by decide) rfl rfl (fun o => by cases o <;> exact ⟨rfl, rfl⟩) lkF_Values_48 (d_Values_chanceFrom 48 100 (.putfield 48) 3 rfl) rfl (fun V14 hV14 => ?_)
      replace h := wV_some h V14 hV14
      refine Ak_aload_n 104 0 (d_Values_chanceFrom 49 103 (.aload_n 0) 1 rfl) rfl rfl rfl ?_
      refine Ak_aload 106 (d_Values_chanceFrom 50 104 (.aload 5) 2 rfl) rfl rfl ?_
      refine Ak_putR 109 11 hO clX10 (by decide) rfl rfl (fun o => by cases o <;> exact ⟨rfl, rfl⟩) lkF_Values_44 (d_Values_chanceFrom 51 106 (.putfield 44) 3 rfl) rfl (fun V15 hV15 => ?_)
      replace h := wV_some h V15 hV15
      refine Ak_iconst 110 (d_Values_chanceFrom 52 109 (.iconst 0) 1 rfl) rfl (rk rfl) ?_
      refine Ak_istore 112 (d_Values_chanceFrom 53 110 (.istore 6) 2 rfl) rfl (by decide) ?_
      refine Ak_keep [true, true, true, true, true, false, true] ?_
      exact t_Values_chanceFrom_L112 hO (fun h => ih h) FU _ _ _ _ h
theorem t_Values_chanceFrom_L3 {S : ASh} {x0 x1 x2 x3 : Int} (hO : isO S x0 10 = true) : ∀ (n : Nat) (V : ASt) (x4 : Int) (r : Int) (V' : ASt), b_Values_chanceFrom_L3 S x0 x1 x2 x3 n V x4 = some (r, V') → AWk m_Values_chanceFrom 5 0 0 0 0 3 [some (aR x0), some (aI x1), some (aI x2), some (aR x3), some (aI x4)] [] S V (some (aI r)) S V' := by
  intro n
  induction n with
  | zero => intro V x4 r V' h; cases h
  | succ n ih =>
    intro V x4 r V' h
    replace ih : ∀ {V : ASt} {x4 : Int} {r : Int} {V' : ASt}, b_Values_chanceFrom_L3 S x0 x1 x2 x3 n V x4 = some (r, V') → AWk m_Values_chanceFrom 5 0 0 0 0 3 [some (aR x0), some (aI x1), some (aI x2), some (aR x3), some (aI x4)] [] S V (some (aI r)) S V' := fun h => ih _ _ _ _ h
    rw [b_Values_chanceFrom_L3] at h
    refine Ak_iload 5 (d_Values_chanceFrom 2 3 (.iload 4) 2 rfl) rfl rfl ?_
    refine Ak_aload_n 6 0 (d_Values_chanceFrom 3 5 (.aload_n 0) 1 rfl) rfl rfl rfl ?_
    refine Ak_getF 9 1 hO clX10 (by decide) rfl lkF_Values_51 (d_Values_chanceFrom 4 6 (.getfield 51) 3 rfl) rfl ?_
    obtain ⟨hg16, h⟩ := gd_some h
    refine Ak_getI 12 1 hg16 clX4 (by decide) (Or.inl rfl) lkF_Values_74 (d_Values_chanceFrom 5 9 (.getfield 74) 3 rfl) rfl ?_
    refine Ak_icmp_ge 80 15 (d_Values_chanceFrom 6 12 (.if_icmp .ge 68) 3 rfl) rfl rfl (fun hc => ?_) (fun hc => ?_)
    · replace h := it_t hc h
      refine Ak_iconst 81 (d_Values_chanceFrom 37 80 (.iconst 0) 1 rfl) rfl (rk rfl) ?_
      refine Ak_istore 83 (d_Values_chanceFrom 38 81 (.istore 4) 2 rfl) rfl (by decide) ?_
      refine Ak_keep [true, true, true, true, true] ?_
      exact t_Values_chanceFrom_L83 hO FU _ _ _ _ h
    · replace h := it_f hc h
      refine Ak_aload_n 16 0 (d_Values_chanceFrom 7 15 (.aload_n 0) 1 rfl) rfl rfl rfl ?_
      refine Ak_getF 19 1 hO clX10 (by decide) rfl lkF_Values_51 (d_Values_chanceFrom 8 16 (.getfield 51) 3 rfl) rfl ?_
      refine Ak_iload 21 (d_Values_chanceFrom 9 19 (.iload 4) 2 rfl) rfl rfl ?_
      obtain ⟨r17, V18, h19, h⟩ := bnd_some h
      refine Ak_cV1 24 2 (c_Moves_listedAt h19) rfl hg16 clX4 rfl mok_Moves_listedAt lkM_Values_77 (d_Values_chanceFrom 10 21 (.invokevirtual 77) 3 rfl) rfl (by decide) (Nat.le_of_ble_eq_true rfl) ?_
      refine Ak_istore 26 (d_Values_chanceFrom 11 24 (.istore 5) 2 rfl) rfl (by decide) ?_
      refine Ak_aload_n 27 0 (d_Values_chanceFrom 12 26 (.aload_n 0) 1 rfl) rfl rfl rfl ?_
      refine Ak_getF 30 10 hO clX10 (by decide) rfl lkF_Values_41 (d_Values_chanceFrom 13 27 (.getfield 41) 3 rfl) rfl ?_
      refine Ak_iload 32 (d_Values_chanceFrom 14 30 (.iload 5) 2 rfl) rfl rfl ?_
      refine Ak_aload_n 33 0 (d_Values_chanceFrom 15 32 (.aload_n 0) 1 rfl) rfl rfl rfl ?_
      refine Ak_iload 35 (d_Values_chanceFrom 16 33 (.iload 5) 2 rfl) rfl rfl ?_
      obtain ⟨r20, V21, h22, h⟩ := bnd_some h
      refine Ak_cV1 38 4 (c_Values_bestMoveOf h22) rfl hO clX10 rfl mok_Values_bestMoveOf lkM_Values_117 (d_Values_chanceFrom 17 35 (.invokevirtual 117) 3 rfl) rfl (by decide) (Nat.le_of_ble_eq_true rfl) ?_
      obtain ⟨ha23, h⟩ := gd_some h
      refine Ak_iastore 39 ha23 (d_Values_chanceFrom 18 38 (.iastore) 1 rfl) rfl (fun V24 hV24 => ?_)
      replace h := wV_some h V24 hV24
      refine Ak_aload_n 40 0 (d_Values_chanceFrom 19 39 (.aload_n 0) 1 rfl) rfl rfl rfl ?_
      refine Ak_getR 43 11 hO clX10 (by decide) rfl lkF_Values_44 (d_Values_chanceFrom 20 40 (.getfield 44) 3 rfl) rfl ?_
      refine Ak_iload 45 (d_Values_chanceFrom 21 43 (.iload 5) 2 rfl) rfl rfl ?_
      refine Ak_aload_n 46 0 (d_Values_chanceFrom 22 45 (.aload_n 0) 1 rfl) rfl rfl rfl ?_
      refine Ak_getF 49 1 hO clX10 (by decide) rfl lkF_Values_51 (d_Values_chanceFrom 23 46 (.getfield 51) 3 rfl) rfl ?_
      refine Ak_iload 51 (d_Values_chanceFrom 24 49 (.iload 5) 2 rfl) rfl rfl ?_
      obtain ⟨r25, V26, h27, h⟩ := bnd_some h
      refine Ak_cV1 54 2 (c_Moves_countOf h27) rfl hg16 clX4 rfl mok_Moves_countOf lkM_Values_59 (d_Values_chanceFrom 25 51 (.invokevirtual 59) 3 rfl) rfl (by decide) (Nat.le_of_ble_eq_true rfl) ?_
      refine Ak_if_ne 72 57 (d_Values_chanceFrom 26 54 (.ifCond .ne 18) 3 rfl) rfl rfl (fun hc => ?_) (fun hc => ?_)
      · replace h := it_f hc h
        refine Ak_lconst 73 0 (d_Values_chanceFrom 33 72 (.lconst 0) 1 rfl) rfl rfl (rkL rfl) ?_
        refine Ak_keep [true, true, true, true, true] ?_
        exact t_Values_chanceFrom_J73 hO (fun h => ih h) h
      · replace h := it_t hc h
        refine Ak_aload_n 58 0 (d_Values_chanceFrom 27 57 (.aload_n 0) 1 rfl) rfl rfl rfl ?_
        refine Ak_getF 61 1 hO clX10 (by decide) rfl lkF_Values_51 (d_Values_chanceFrom 28 58 (.getfield 51) 3 rfl) rfl ?_
        refine Ak_iload 63 (d_Values_chanceFrom 29 61 (.iload 5) 2 rfl) rfl rfl ?_
        obtain ⟨r28, V29, h30, h⟩ := bnd_some h
        refine Ak_cV1 66 3 (c_Moves_winnerWhenStuck h30) rfl hg16 clX4 rfl mok_Moves_winnerWhenStuck lkM_Values_99 (d_Values_chanceFrom 30 63 (.invokevirtual 99) 3 rfl) rfl (by decide) (Nat.le_of_ble_eq_true rfl) ?_
        obtain ⟨r31, V32, h33, h⟩ := bnd_some h
        refine Ak_cS1 69 2 (c_Values_chanceOfWinner h33) rfl mok_Values_chanceOfWinner lkM_Values_120 (d_Values_chanceFrom 31 66 (.invokestatic 120) 3 rfl) rfl (by decide) (Nat.le_of_ble_eq_true rfl) ?_
        refine Ak_goto 73 (d_Values_chanceFrom 32 69 (.goto 4) 3 rfl) rfl ?_
        refine Ak_keep [true, true, true, true, true] ?_
        exact t_Values_chanceFrom_J73 hO (fun h => ih h) h
theorem c_Values_chanceFrom {S : ASh} {V : ASt} {x0 x1 x2 x3 : Int} {r : Int} {V' : ASt} (h : f_Values_chanceFrom S V x0 x1 x2 x3 = some (r, V')) : ACt m_Values_chanceFrom 5 0 0 [(aR x0), (aI x1), (aI x2), (aR x3)] S V (some (aI r)) S V' := by
  unfold f_Values_chanceFrom at h
  obtain ⟨hO, h⟩ := gd_some h
  refine ACt_of (plainFor_of_name rfl) rfl (Nat.le_of_ble_eq_true rfl) ?_
  show AWk m_Values_chanceFrom 5 0 0 0 0 0 [some (aR x0), some (aI x1), some (aI x2), some (aR x3)] [] S V (some (aI r)) S V'
  refine Ak_iconst 1 (d_Values_chanceFrom 0 0 (.iconst 0) 1 rfl) rfl (rk rfl) ?_
  refine Ak_istore 3 (d_Values_chanceFrom 1 1 (.istore 4) 2 rfl) rfl (by decide) ?_
  refine Ak_keep [true, true, true, true, true] ?_
  exact t_Values_chanceFrom_L3 hO FU _ _ _ _ h
theorem c_Worths_forget {S : ASh} {V : ASt} {x0 : Int} {r : Int} {V' : ASt} (h : f_Worths_forget S V x0 = some (r, V')) : ACt m_Worths_forget 2 0 0 [(aR x0)] S V none S V' := by
  unfold f_Worths_forget at h
  obtain ⟨hO, h⟩ := gd_some h
  refine ACt_of (plainFor_of_name rfl) rfl (Nat.le_of_ble_eq_true rfl) ?_
  show AWk m_Worths_forget 2 0 0 0 0 0 [some (aR x0)] [] S V none S V'
  refine Ak_aload_n 1 0 (d_Worths_forget 0 0 (.aload_n 0) 1 rfl) rfl rfl rfl ?_
  refine Ak_iconst 2 (d_Worths_forget 1 1 (.iconst 0) 1 rfl) rfl (rk rfl) ?_
  refine Ak_putZ 5 2 (Or.inl rfl) hO clX11 (by decide) rfl rfl rfl lkF_Worths_9 (d_Worths_forget 2 2 (.putfield 9) 3 rfl) rfl (fun V1 hV1 => ?_)
  replace h := wV_some h V1 hV1
  cases h
  exact Ak_vret rfl (d_Worths_forget 3 5 (.return_) 1 rfl)
theorem t_Worths_referTo_J18 {S : ASh} {V : ASt} {x0 x1 x2 : Int} {r : Int} {V' : ASt} (hO : isO S x0 11 = true) (h : b_Worths_referTo_J18 S  V x0 x1 x2 = some (r, V')) : AWk m_Worths_referTo 3 0 0 0 0 18 [some (aR x0), some (aR x1), some (aR x2)] [] S V none S V' := by
  unfold b_Worths_referTo_J18 at h
  refine Ak_aload_n 19 0 (d_Worths_referTo 8 18 (.aload_n 0) 1 rfl) rfl rfl rfl ?_
  refine Ak_iconst 20 (d_Worths_referTo 9 19 (.iconst 1) 1 rfl) rfl (rk rfl) ?_
  refine Ak_putZ 23 2 (Or.inr rfl) hO clX11 (by decide) rfl rfl rfl lkF_Worths_9 (d_Worths_referTo 10 20 (.putfield 9) 3 rfl) rfl (fun V1 hV1 => ?_)
  replace h := wV_some h V1 hV1
  refine Ak_aload_n 24 0 (d_Worths_referTo 11 23 (.aload_n 0) 1 rfl) rfl rfl rfl ?_
  refine Ak_aload_n 25 1 (d_Worths_referTo 12 24 (.aload_n 1) 1 rfl) rfl rfl rfl ?_
  refine Ak_putR 28 1 hO clX11 (by decide) rfl rfl (fun o => by cases o <;> exact ⟨rfl, rfl⟩) lkF_Worths_29 (d_Worths_referTo 13 25 (.putfield 29) 3 rfl) rfl (fun V2 hV2 => ?_)
  replace h := wV_some h V2 hV2
  refine Ak_aload_n 29 0 (d_Worths_referTo 14 28 (.aload_n 0) 1 rfl) rfl rfl rfl ?_
  refine Ak_getF 32 3 hO clX11 (by decide) rfl lkF_Worths_18 (d_Worths_referTo 15 29 (.getfield 18) 3 rfl) rfl ?_
  refine Ak_aload_n 33 2 (d_Worths_referTo 16 32 (.aload_n 2) 1 rfl) rfl rfl rfl ?_
  obtain ⟨hg6, h⟩ := gd_some h
  obtain ⟨r3, V4, h5, h⟩ := bnd_some h
  refine Ak_cV0 36 2 (c_Slate_copyFrom h5) rfl hg6 clX6 rfl mok_Slate_copyFrom lkM_Worths_41 (d_Worths_referTo 17 33 (.invokevirtual 41) 3 rfl) rfl (by decide) (Nat.le_of_ble_eq_true rfl) ?_
  refine Ak_aload_n 37 0 (d_Worths_referTo 18 36 (.aload_n 0) 1 rfl) rfl rfl rfl ?_
  refine Ak_getF 40 5 hO clX11 (by decide) rfl lkF_Worths_25 (d_Worths_referTo 19 37 (.getfield 25) 3 rfl) rfl ?_
  refine Ak_bipush 42 (d_Worths_referTo 20 40 (.bipush 9) 2 rfl) rfl (bp_ok rfl) (rk rfl) ?_
  obtain ⟨r7, V8, h9, h⟩ := bnd_some h
  refine Ak_cS0 45 2 (c_Arrays_fill h9) rfl mok_Arrays_fill lkM_Worths_45 (d_Worths_referTo 21 42 (.invokestatic 45) 3 rfl) rfl (by decide) (Nat.le_of_ble_eq_true rfl) ?_
  cases h
  exact Ak_vret rfl (d_Worths_referTo 22 45 (.return_) 1 rfl)
theorem c_Worths_referTo {S : ASh} {V : ASt} {x0 x1 x2 : Int} {r : Int} {V' : ASt} (h : f_Worths_referTo S V x0 x1 x2 = some (r, V')) : ACt m_Worths_referTo 3 0 0 [(aR x0), (aR x1), (aR x2)] S V none S V' := by
  unfold f_Worths_referTo at h
  obtain ⟨hO, h⟩ := gd_some h
  refine ACt_of (plainFor_of_name rfl) rfl (Nat.le_of_ble_eq_true rfl) ?_
  show AWk m_Worths_referTo 3 0 0 0 0 0 [some (aR x0), some (aR x1), some (aR x2)] [] S V none S V'
  refine Ak_aload_n 1 0 (d_Worths_referTo 0 0 (.aload_n 0) 1 rfl) rfl rfl rfl ?_
  refine Ak_getI 4 2 hO clX11 (by decide) (Or.inr rfl) lkF_Worths_9 (d_Worths_referTo 1 1 (.getfield 9) 3 rfl) rfl ?_
  refine Ak_if_eq 18 7 (d_Worths_referTo 2 4 (.ifCond .eq 14) 3 rfl) rfl rfl (fun hc => ?_) (fun hc => ?_)
  · replace h := it_t hc h
    refine Ak_keep [true, true, true] ?_
    exact t_Worths_referTo_J18 hO h
  · replace h := it_f hc h
    refine Ak_aload_n 8 0 (d_Worths_referTo 3 7 (.aload_n 0) 1 rfl) rfl rfl rfl ?_
    refine Ak_getF 11 3 hO clX11 (by decide) rfl lkF_Worths_18 (d_Worths_referTo 4 8 (.getfield 18) 3 rfl) rfl ?_
    refine Ak_aload_n 12 2 (d_Worths_referTo 5 11 (.aload_n 2) 1 rfl) rfl rfl rfl ?_
    obtain ⟨hg13, h⟩ := gd_some h
    obtain ⟨r10, V11, h12, h⟩ := bnd_some h
    refine Ak_cV1 15 2 (c_Slate_isLike h12) rfl hg13 clX6 rfl mok_Slate_isLike lkM_Worths_37 (d_Worths_referTo 6 12 (.invokevirtual 37) 3 rfl) rfl (by decide) (Nat.le_of_ble_eq_true rfl) ?_
    refine Ak_if_ne 45 18 (d_Worths_referTo 7 15 (.ifCond .ne 30) 3 rfl) rfl rfl (fun hc => ?_) (fun hc => ?_)
    · replace h := it_f hc h
      cases h
      exact Ak_vret rfl (d_Worths_referTo 22 45 (.return_) 1 rfl)
    · replace h := it_t hc h
      refine Ak_keep [true, true, true] ?_
      exact t_Worths_referTo_J18 hO h
theorem c_Worths_slotOf {S : ASh} {V : ASt} {x0 x1 : Int} {r : Int} {V' : ASt} (h : f_Worths_slotOf S V x0 x1 = some (r, V')) : ACt m_Worths_slotOf 2 0 0 [(aI x0), (aI x1)] S V (some (aI r)) S V' := by
  unfold f_Worths_slotOf at h
  refine ACt_of (plainFor_of_name rfl) rfl (Nat.le_of_ble_eq_true rfl) ?_
  show AWk m_Worths_slotOf 2 0 0 0 0 0 [some (aI x0), some (aI x1)] [] S V (some (aI r)) S V'
  refine Ak_iconst 1 (d_Worths_slotOf 0 0 (.iconst 2) 1 rfl) rfl (rk rfl) ?_
  refine Ak_iload_n 2 0 (d_Worths_slotOf 1 1 (.iload_n 0) 1 rfl) rfl rfl rfl ?_
  refine Ak_if_lt 15 5 (d_Worths_slotOf 2 2 (.ifCond .lt 13) 3 rfl) rfl rfl (fun hc => ?_) (fun hc => ?_)
  · replace h := it_t hc h
    refine Ak_bipush 17 (d_Worths_slotOf 8 15 (.bipush 72) 2 rfl) rfl (bp_ok rfl) (rk rfl) ?_
    refine Ak_imul 18 (d_Worths_slotOf 9 17 (.imul) 1 rfl) rfl ?_
    refine Ak_iload_n 19 1 (d_Worths_slotOf 10 18 (.iload_n 1) 1 rfl) rfl rfl rfl ?_
    refine Ak_iconst 20 (d_Worths_slotOf 11 19 (.iconst 1) 1 rfl) rfl (rk rfl) ?_
    refine Ak_iand 21 (d_Worths_slotOf 12 20 (.iand) 1 rfl) rfl ?_
    refine Ak_iadd 22 (d_Worths_slotOf 13 21 (.iadd) 1 rfl) rfl ?_
    cases h
    exact Ak_iret rfl (d_Worths_slotOf 14 22 (.ireturn) 1 rfl)
  · replace h := it_f hc h
    refine Ak_iload_n 6 0 (d_Worths_slotOf 3 5 (.iload_n 0) 1 rfl) rfl rfl rfl ?_
    refine Ak_bipush 8 (d_Worths_slotOf 4 6 (.bipush 72) 2 rfl) rfl (bp_ok rfl) (rk rfl) ?_
    refine Ak_icmp_ge 15 11 (d_Worths_slotOf 5 8 (.if_icmp .ge 7) 3 rfl) rfl rfl (fun hc => ?_) (fun hc => ?_)
    · replace h := it_t hc h
      refine Ak_bipush 17 (d_Worths_slotOf 8 15 (.bipush 72) 2 rfl) rfl (bp_ok rfl) (rk rfl) ?_
      refine Ak_imul 18 (d_Worths_slotOf 9 17 (.imul) 1 rfl) rfl ?_
      refine Ak_iload_n 19 1 (d_Worths_slotOf 10 18 (.iload_n 1) 1 rfl) rfl rfl rfl ?_
      refine Ak_iconst 20 (d_Worths_slotOf 11 19 (.iconst 1) 1 rfl) rfl (rk rfl) ?_
      refine Ak_iand 21 (d_Worths_slotOf 12 20 (.iand) 1 rfl) rfl ?_
      refine Ak_iadd 22 (d_Worths_slotOf 13 21 (.iadd) 1 rfl) rfl ?_
      cases h
      exact Ak_iret rfl (d_Worths_slotOf 14 22 (.ireturn) 1 rfl)
    · replace h := it_f hc h
      refine Ak_iload_n 12 0 (d_Worths_slotOf 6 11 (.iload_n 0) 1 rfl) rfl rfl rfl ?_
      refine Ak_goto 17 (d_Worths_slotOf 7 12 (.goto 5) 3 rfl) rfl ?_
      refine Ak_imul 18 (d_Worths_slotOf 9 17 (.imul) 1 rfl) rfl ?_
      refine Ak_iload_n 19 1 (d_Worths_slotOf 10 18 (.iload_n 1) 1 rfl) rfl rfl rfl ?_
      refine Ak_iconst 20 (d_Worths_slotOf 11 19 (.iconst 1) 1 rfl) rfl (rk rfl) ?_
      refine Ak_iand 21 (d_Worths_slotOf 12 20 (.iand) 1 rfl) rfl ?_
      refine Ak_iadd 22 (d_Worths_slotOf 13 21 (.iadd) 1 rfl) rfl ?_
      cases h
      exact Ak_iret rfl (d_Worths_slotOf 14 22 (.ireturn) 1 rfl)
theorem t_Worths_reckon_J40 {S : ASh} {V : ASt} {x0 x1 : Int} {r : Int} {V' : ASt} (hO : isO S x0 11 = true) (h : b_Worths_reckon_J40 S  V x0 x1 = some (r, V')) : AWk m_Worths_reckon 8 0 0 0 0 40 [some (aR x0), some (aI x1)] [] S V none S V' := by
  unfold b_Worths_reckon_J40 at h
  refine Ak_aload_n 41 0 (d_Worths_reckon 21 40 (.aload_n 0) 1 rfl) rfl rfl rfl ?_
  refine Ak_getF 44 0 hO clX11 (by decide) rfl lkF_Worths_33 (d_Worths_reckon 22 41 (.getfield 33) 3 rfl) rfl ?_
  obtain ⟨hg1, h⟩ := gd_some h
  refine Ak_getF 47 1 hg1 clX10 (by decide) rfl lkF_Worths_59 (d_Worths_reckon 23 44 (.getfield 59) 3 rfl) rfl ?_
  refine Ak_aload_n 48 0 (d_Worths_reckon 24 47 (.aload_n 0) 1 rfl) rfl rfl rfl ?_
  refine Ak_getR 51 1 hO clX11 (by decide) rfl lkF_Worths_29 (d_Worths_reckon 25 48 (.getfield 29) 3 rfl) rfl ?_
  refine Ak_aload_n 52 0 (d_Worths_reckon 26 51 (.aload_n 0) 1 rfl) rfl rfl rfl ?_
  refine Ak_getF 55 4 hO clX11 (by decide) rfl lkF_Worths_22 (d_Worths_reckon 27 52 (.getfield 22) 3 rfl) rfl ?_
  obtain ⟨hg5, h⟩ := gd_some h
  obtain ⟨r2, V3, h4, h⟩ := bnd_some h
  refine Ak_cV0 58 5 (c_Moves_prepare h4) rfl hg5 clX4 rfl mok_Moves_prepare lkM_Worths_65 (d_Worths_reckon 28 55 (.invokevirtual 65) 3 rfl) rfl (by decide) (Nat.le_of_ble_eq_true rfl) ?_
  refine Ak_aload_n 59 0 (d_Worths_reckon 29 58 (.aload_n 0) 1 rfl) rfl rfl rfl ?_
  refine Ak_getF 62 0 hO clX11 (by decide) rfl lkF_Worths_33 (d_Worths_reckon 30 59 (.getfield 33) 3 rfl) rfl ?_
  refine Ak_getF 65 1 hg1 clX10 (by decide) rfl lkF_Worths_59 (d_Worths_reckon 31 62 (.getfield 59) 3 rfl) rfl ?_
  refine Ak_iconst 66 (d_Worths_reckon 32 65 (.iconst 0) 1 rfl) rfl (rk rfl) ?_
  obtain ⟨r6, V7, h8, h⟩ := bnd_some h
  refine Ak_cV0 69 7 (c_Moves_layOut h8) rfl hg5 clX4 rfl mok_Moves_layOut lkM_Worths_71 (d_Worths_reckon 33 66 (.invokevirtual 71) 3 rfl) rfl (by decide) (Nat.le_of_ble_eq_true rfl) ?_
  refine Ak_aload_n 70 0 (d_Worths_reckon 34 69 (.aload_n 0) 1 rfl) rfl rfl rfl ?_
  refine Ak_getF 73 0 hO clX11 (by decide) rfl lkF_Worths_33 (d_Worths_reckon 35 70 (.getfield 33) 3 rfl) rfl ?_
  obtain ⟨r9, V10, h11, h⟩ := bnd_some h
  refine Ak_cV0 76 6 (c_Values_solve h11) rfl hg1 clX10 rfl mok_Values_solve lkM_Worths_75 (d_Worths_reckon 36 73 (.invokevirtual 75) 3 rfl) rfl (by decide) (Nat.le_of_ble_eq_true rfl) ?_
  refine Ak_aload_n 77 0 (d_Worths_reckon 37 76 (.aload_n 0) 1 rfl) rfl rfl rfl ?_
  refine Ak_getF 80 5 hO clX11 (by decide) rfl lkF_Worths_25 (d_Worths_reckon 38 77 (.getfield 25) 3 rfl) rfl ?_
  refine Ak_iload_n 81 1 (d_Worths_reckon 39 80 (.iload_n 1) 1 rfl) rfl rfl rfl ?_
  refine Ak_iconst 82 (d_Worths_reckon 40 81 (.iconst 0) 1 rfl) rfl (rk rfl) ?_
  obtain ⟨r12, V13, h14, h⟩ := bnd_some h
  refine Ak_cS1 85 2 (c_Worths_slotOf h14) rfl mok_Worths_slotOf lkM_Worths_51 (d_Worths_reckon 41 82 (.invokestatic 51) 3 rfl) rfl (by decide) (Nat.le_of_ble_eq_true rfl) ?_
  refine Ak_aload_n 86 0 (d_Worths_reckon 42 85 (.aload_n 0) 1 rfl) rfl rfl rfl ?_
  refine Ak_getF 89 0 hO clX11 (by decide) rfl lkF_Worths_33 (d_Worths_reckon 43 86 (.getfield 33) 3 rfl) rfl ?_
  refine Ak_aload_n 90 0 (d_Worths_reckon 44 89 (.aload_n 0) 1 rfl) rfl rfl rfl ?_
  refine Ak_getR 93 1 hO clX11 (by decide) rfl lkF_Worths_29 (d_Worths_reckon 45 90 (.getfield 29) 3 rfl) rfl ?_
  refine Ak_iconst 94 (d_Worths_reckon 46 93 (.iconst 0) 1 rfl) rfl (rk rfl) ?_
  obtain ⟨hg18, h⟩ := gd_some h
  obtain ⟨r15, V16, h17, h⟩ := bnd_some h
  refine Ak_cV1 97 2 (c_Game_beginningOf h17) rfl hg18 clX1 rfl mok_Game_beginningOf lkM_Worths_78 (d_Worths_reckon 47 94 (.invokevirtual 78) 3 rfl) rfl (by decide) (Nat.le_of_ble_eq_true rfl) ?_
  obtain ⟨r19, V20, h21, h⟩ := bnd_some h
  refine Ak_cV1 100 2 (c_Values_worthOf h21) rfl hg1 clX10 rfl mok_Values_worthOf lkM_Worths_84 (d_Worths_reckon 48 97 (.invokevirtual 84) 3 rfl) rfl (by decide) (Nat.le_of_ble_eq_true rfl) ?_
  obtain ⟨ha22, h⟩ := gd_some h
  refine Ak_iastore 101 ha22 (d_Worths_reckon 49 100 (.iastore) 1 rfl) rfl (fun V23 hV23 => ?_)
  replace h := wV_some h V23 hV23
  refine Ak_aload_n 102 0 (d_Worths_reckon 50 101 (.aload_n 0) 1 rfl) rfl rfl rfl ?_
  refine Ak_getF 105 5 hO clX11 (by decide) rfl lkF_Worths_25 (d_Worths_reckon 51 102 (.getfield 25) 3 rfl) rfl ?_
  refine Ak_iload_n 106 1 (d_Worths_reckon 52 105 (.iload_n 1) 1 rfl) rfl rfl rfl ?_
  refine Ak_iconst 107 (d_Worths_reckon 53 106 (.iconst 1) 1 rfl) rfl (rk rfl) ?_
  obtain ⟨r24, V25, h26, h⟩ := bnd_some h
  refine Ak_cS1 110 2 (c_Worths_slotOf h26) rfl mok_Worths_slotOf lkM_Worths_51 (d_Worths_reckon 54 107 (.invokestatic 51) 3 rfl) rfl (by decide) (Nat.le_of_ble_eq_true rfl) ?_
  refine Ak_aload_n 111 0 (d_Worths_reckon 55 110 (.aload_n 0) 1 rfl) rfl rfl rfl ?_
  refine Ak_getF 114 0 hO clX11 (by decide) rfl lkF_Worths_33 (d_Worths_reckon 56 111 (.getfield 33) 3 rfl) rfl ?_
  refine Ak_aload_n 115 0 (d_Worths_reckon 57 114 (.aload_n 0) 1 rfl) rfl rfl rfl ?_
  refine Ak_getR 118 1 hO clX11 (by decide) rfl lkF_Worths_29 (d_Worths_reckon 58 115 (.getfield 29) 3 rfl) rfl ?_
  refine Ak_iconst 119 (d_Worths_reckon 59 118 (.iconst 1) 1 rfl) rfl (rk rfl) ?_
  obtain ⟨hg30, h⟩ := gd_some h
  obtain ⟨r27, V28, h29, h⟩ := bnd_some h
  refine Ak_cV1 122 2 (c_Game_beginningOf h29) rfl hg30 clX1 rfl mok_Game_beginningOf lkM_Worths_78 (d_Worths_reckon 60 119 (.invokevirtual 78) 3 rfl) rfl (by decide) (Nat.le_of_ble_eq_true rfl) ?_
  obtain ⟨r31, V32, h33, h⟩ := bnd_some h
  refine Ak_cV1 125 2 (c_Values_worthOf h33) rfl hg1 clX10 rfl mok_Values_worthOf lkM_Worths_84 (d_Worths_reckon 61 122 (.invokevirtual 84) 3 rfl) rfl (by decide) (Nat.le_of_ble_eq_true rfl) ?_
  obtain ⟨ha34, h⟩ := gd_some h
  refine Ak_iastore 126 ha34 (d_Worths_reckon 62 125 (.iastore) 1 rfl) rfl (fun V35 hV35 => ?_)
  replace h := wV_some h V35 hV35
  cases h
  exact Ak_vret rfl (d_Worths_reckon 63 126 (.return_) 1 rfl)
theorem c_Worths_reckon {S : ASh} {V : ASt} {x0 x1 : Int} {r : Int} {V' : ASt} (h : f_Worths_reckon S V x0 x1 = some (r, V')) : ACt m_Worths_reckon 8 0 0 [(aR x0), (aI x1)] S V none S V' := by
  unfold f_Worths_reckon at h
  obtain ⟨hO, h⟩ := gd_some h
  refine ACt_of (plainFor_of_name rfl) rfl (Nat.le_of_ble_eq_true rfl) ?_
  show AWk m_Worths_reckon 8 0 0 0 0 0 [some (aR x0), some (aI x1)] [] S V none S V'
  refine Ak_aload_n 1 0 (d_Worths_reckon 0 0 (.aload_n 0) 1 rfl) rfl rfl rfl ?_
  refine Ak_getF 4 5 hO clX11 (by decide) rfl lkF_Worths_25 (d_Worths_reckon 1 1 (.getfield 25) 3 rfl) rfl ?_
  refine Ak_iload_n 5 1 (d_Worths_reckon 2 4 (.iload_n 1) 1 rfl) rfl rfl rfl ?_
  refine Ak_iconst 6 (d_Worths_reckon 3 5 (.iconst 0) 1 rfl) rfl (rk rfl) ?_
  obtain ⟨r36, V37, h38, h⟩ := bnd_some h
  refine Ak_cS1 9 2 (c_Worths_slotOf h38) rfl mok_Worths_slotOf lkM_Worths_51 (d_Worths_reckon 4 6 (.invokestatic 51) 3 rfl) rfl (by decide) (Nat.le_of_ble_eq_true rfl) ?_
  obtain ⟨ha39, h⟩ := gd_some h
  refine Ak_iaload 10 ha39 (d_Worths_reckon 5 9 (.iaload) 1 rfl) rfl ?_
  refine Ak_bipush 12 (d_Worths_reckon 6 10 (.bipush 9) 2 rfl) rfl (bp_ok rfl) (rk rfl) ?_
  refine Ak_icmp_eq 16 15 (d_Worths_reckon 7 12 (.if_icmp .eq 4) 3 rfl) rfl rfl (fun hc => ?_) (fun hc => ?_)
  · replace h := it_t hc h
    refine Ak_aload_n 17 0 (d_Worths_reckon 9 16 (.aload_n 0) 1 rfl) rfl rfl rfl ?_
    refine Ak_getF 20 4 hO clX11 (by decide) rfl lkF_Worths_22 (d_Worths_reckon 10 17 (.getfield 22) 3 rfl) rfl ?_
    refine Ak_aload_n 21 0 (d_Worths_reckon 11 20 (.aload_n 0) 1 rfl) rfl rfl rfl ?_
    refine Ak_getF 24 3 hO clX11 (by decide) rfl lkF_Worths_18 (d_Worths_reckon 12 21 (.getfield 18) 3 rfl) rfl ?_
    obtain ⟨hg43, h⟩ := gd_some h
    obtain ⟨r40, V41, h42, h⟩ := bnd_some h
    refine Ak_cV0 27 2 (c_Slate_copyFrom h42) rfl hg43 clX6 rfl mok_Slate_copyFrom lkM_Worths_41 (d_Worths_reckon 13 24 (.invokevirtual 41) 3 rfl) rfl (by decide) (Nat.le_of_ble_eq_true rfl) ?_
    refine Ak_iload_n 28 1 (d_Worths_reckon 14 27 (.iload_n 1) 1 rfl) rfl rfl rfl ?_
    refine Ak_iconst 29 (d_Worths_reckon 15 28 (.iconst (-1)) 1 rfl) rfl (rk rfl) ?_
    refine Ak_icmp_eq 40 32 (d_Worths_reckon 16 29 (.if_icmp .eq 11) 3 rfl) rfl rfl (fun hc => ?_) (fun hc => ?_)
    · replace h := it_t hc h
      refine Ak_keep [true, true] ?_
      exact t_Worths_reckon_J40 hO h
    · replace h := it_f hc h
      refine Ak_aload_n 33 0 (d_Worths_reckon 17 32 (.aload_n 0) 1 rfl) rfl rfl rfl ?_
      refine Ak_getF 36 4 hO clX11 (by decide) rfl lkF_Worths_22 (d_Worths_reckon 18 33 (.getfield 22) 3 rfl) rfl ?_
      refine Ak_iload_n 37 1 (d_Worths_reckon 19 36 (.iload_n 1) 1 rfl) rfl rfl rfl ?_
      obtain ⟨r44, V45, h46, h⟩ := bnd_some h
      refine Ak_cV0 40 5 (c_Slate_apply h46) rfl hg43 clX6 rfl mok_Slate_apply lkM_Worths_55 (d_Worths_reckon 20 37 (.invokevirtual 55) 3 rfl) rfl (by decide) (Nat.le_of_ble_eq_true rfl) ?_
      refine Ak_keep [true, true] ?_
      exact t_Worths_reckon_J40 hO h
  · replace h := it_f hc h
    cases h
    exact Ak_vret rfl (d_Worths_reckon 8 15 (.return_) 1 rfl)
theorem c_Worths_worthBy {S : ASh} {V : ASt} {x0 x1 x2 : Int} {r : Int} {V' : ASt} (h : f_Worths_worthBy S V x0 x1 x2 = some (r, V')) : ACt m_Worths_worthBy 9 0 0 [(aR x0), (aI x1), (aI x2)] S V (some (aI r)) S V' := by
  unfold f_Worths_worthBy at h
  obtain ⟨hO, h⟩ := gd_some h
  refine ACt_of (plainFor_of_name rfl) rfl (Nat.le_of_ble_eq_true rfl) ?_
  show AWk m_Worths_worthBy 9 0 0 0 0 0 [some (aR x0), some (aI x1), some (aI x2)] [] S V (some (aI r)) S V'
  refine Ak_aload_n 1 0 (d_Worths_worthBy 0 0 (.aload_n 0) 1 rfl) rfl rfl rfl ?_
  refine Ak_iload_n 2 1 (d_Worths_worthBy 1 1 (.iload_n 1) 1 rfl) rfl rfl rfl ?_
  obtain ⟨r1, V2, h3, h⟩ := bnd_some h
  refine Ak_cV0 5 8 (c_Worths_reckon h3) rfl hO clX11 rfl mok_Worths_reckon lkM_Worths_87 (d_Worths_worthBy 2 2 (.invokevirtual 87) 3 rfl) rfl (by decide) (Nat.le_of_ble_eq_true rfl) ?_
  refine Ak_aload_n 6 0 (d_Worths_worthBy 3 5 (.aload_n 0) 1 rfl) rfl rfl rfl ?_
  refine Ak_getF 9 5 hO clX11 (by decide) rfl lkF_Worths_25 (d_Worths_worthBy 4 6 (.getfield 25) 3 rfl) rfl ?_
  refine Ak_iload_n 10 1 (d_Worths_worthBy 5 9 (.iload_n 1) 1 rfl) rfl rfl rfl ?_
  refine Ak_iload_n 11 2 (d_Worths_worthBy 6 10 (.iload_n 2) 1 rfl) rfl rfl rfl ?_
  obtain ⟨r4, V5, h6, h⟩ := bnd_some h
  refine Ak_cS1 14 2 (c_Worths_slotOf h6) rfl mok_Worths_slotOf lkM_Worths_51 (d_Worths_worthBy 7 11 (.invokestatic 51) 3 rfl) rfl (by decide) (Nat.le_of_ble_eq_true rfl) ?_
  obtain ⟨ha7, h⟩ := gd_some h
  refine Ak_iaload 15 ha7 (d_Worths_worthBy 8 14 (.iaload) 1 rfl) rfl ?_
  cases h
  exact Ak_iret rfl (d_Worths_worthBy 9 15 (.ireturn) 1 rfl)
theorem c_Worths_loserOf {S : ASh} {V : ASt} {x0 x1 : Int} {r : Int} {V' : ASt} (h : f_Worths_loserOf S V x0 x1 = some (r, V')) : ACt m_Worths_loserOf 9 0 0 [(aR x0), (aI x1)] S V (some (aI r)) S V' := by
  unfold f_Worths_loserOf at h
  obtain ⟨hO, h⟩ := gd_some h
  refine ACt_of (plainFor_of_name rfl) rfl (Nat.le_of_ble_eq_true rfl) ?_
  show AWk m_Worths_loserOf 9 0 0 0 0 0 [some (aR x0), some (aI x1)] [] S V (some (aI r)) S V'
  refine Ak_aload_n 1 0 (d_Worths_loserOf 0 0 (.aload_n 0) 1 rfl) rfl rfl rfl ?_
  refine Ak_iconst 2 (d_Worths_loserOf 1 1 (.iconst (-1)) 1 rfl) rfl (rk rfl) ?_
  obtain ⟨r1, V2, h3, h⟩ := bnd_some h
  refine Ak_cV0 5 8 (c_Worths_reckon h3) rfl hO clX11 rfl mok_Worths_reckon lkM_Worths_87 (d_Worths_loserOf 2 2 (.invokevirtual 87) 3 rfl) rfl (by decide) (Nat.le_of_ble_eq_true rfl) ?_
  refine Ak_aload_n 6 0 (d_Worths_loserOf 3 5 (.aload_n 0) 1 rfl) rfl rfl rfl ?_
  refine Ak_getF 9 5 hO clX11 (by decide) rfl lkF_Worths_25 (d_Worths_loserOf 4 6 (.getfield 25) 3 rfl) rfl ?_
  refine Ak_iconst 10 (d_Worths_loserOf 5 9 (.iconst (-1)) 1 rfl) rfl (rk rfl) ?_
  refine Ak_iload_n 11 1 (d_Worths_loserOf 6 10 (.iload_n 1) 1 rfl) rfl rfl rfl ?_
  obtain ⟨r4, V5, h6, h⟩ := bnd_some h
  refine Ak_cS1 14 2 (c_Worths_slotOf h6) rfl mok_Worths_slotOf lkM_Worths_51 (d_Worths_loserOf 7 11 (.invokestatic 51) 3 rfl) rfl (by decide) (Nat.le_of_ble_eq_true rfl) ?_
  obtain ⟨ha7, h⟩ := gd_some h
  refine Ak_iaload 15 ha7 (d_Worths_loserOf 8 14 (.iaload) 1 rfl) rfl ?_
  refine Ak_istore_n 16 2 (d_Worths_loserOf 9 15 (.istore_n 2) 1 rfl) rfl rfl (by decide) ?_
  refine Ak_iload_n 17 2 (d_Worths_loserOf 10 16 (.iload_n 2) 1 rfl) rfl rfl rfl ?_
  refine Ak_if_ne 22 20 (d_Worths_loserOf 11 17 (.ifCond .ne 5) 3 rfl) rfl rfl (fun hc => ?_) (fun hc => ?_)
  · replace h := it_f hc h
    refine Ak_iload_n 23 2 (d_Worths_loserOf 14 22 (.iload_n 2) 1 rfl) rfl rfl rfl ?_
    refine Ak_if_ge 30 26 (d_Worths_loserOf 15 23 (.ifCond .ge 7) 3 rfl) rfl rfl (fun hc => ?_) (fun hc => ?_)
    · replace h := it_t hc h
      refine Ak_iconst 31 (d_Worths_loserOf 18 30 (.iconst 1) 1 rfl) rfl (rk rfl) ?_
      refine Ak_iload_n 32 1 (d_Worths_loserOf 19 31 (.iload_n 1) 1 rfl) rfl rfl rfl ?_
      refine Ak_isub 33 (d_Worths_loserOf 20 32 (.isub) 1 rfl) rfl ?_
      cases h
      exact Ak_iret rfl (d_Worths_loserOf 21 33 (.ireturn) 1 rfl)
    · replace h := it_f hc h
      refine Ak_iload_n 27 1 (d_Worths_loserOf 16 26 (.iload_n 1) 1 rfl) rfl rfl rfl ?_
      refine Ak_goto 33 (d_Worths_loserOf 17 27 (.goto 6) 3 rfl) rfl ?_
      cases h
      exact Ak_iret rfl (d_Worths_loserOf 21 33 (.ireturn) 1 rfl)
  · replace h := it_t hc h
    refine Ak_iconst 21 (d_Worths_loserOf 12 20 (.iconst (-1)) 1 rfl) rfl (rk rfl) ?_
    cases h
    exact Ak_iret rfl (d_Worths_loserOf 13 21 (.ireturn) 1 rfl)
theorem c_Worths_likingOf {S : ASh} {V : ASt} {x0 x1 x2 : Int} {r : Int} {V' : ASt} (h : f_Worths_likingOf S V x0 x1 x2 = some (r, V')) : ACt m_Worths_likingOf 2 0 0 [(aI x0), (aI x1), (aI x2)] S V (some (aI r)) S V' := by
  unfold f_Worths_likingOf at h
  refine ACt_of (plainFor_of_name rfl) rfl (Nat.le_of_ble_eq_true rfl) ?_
  show AWk m_Worths_likingOf 2 0 0 0 0 0 [some (aI x0), some (aI x1), some (aI x2)] [] S V (some (aI r)) S V'
  refine Ak_iload_n 1 1 (d_Worths_likingOf 0 0 (.iload_n 1) 1 rfl) rfl rfl rfl ?_
  refine Ak_iconst 2 (d_Worths_likingOf 1 1 (.iconst 2) 1 rfl) rfl (rk rfl) ?_
  refine Ak_icmp_ne 15 5 (d_Worths_likingOf 2 2 (.if_icmp .ne 13) 3 rfl) rfl rfl (fun hc => ?_) (fun hc => ?_)
  · replace h := it_f hc h
    refine Ak_iload_n 16 2 (d_Worths_likingOf 9 15 (.iload_n 2) 1 rfl) rfl rfl rfl ?_
    refine Ak_if_eq 23 19 (d_Worths_likingOf 10 16 (.ifCond .eq 7) 3 rfl) rfl rfl (fun hc => ?_) (fun hc => ?_)
    · replace h := it_t hc h
      refine Ak_iload_n 24 0 (d_Worths_likingOf 13 23 (.iload_n 0) 1 rfl) rfl rfl rfl ?_
      refine Ak_ineg 25 (d_Worths_likingOf 14 24 (.ineg) 1 rfl) rfl ?_
      cases h
      exact Ak_iret rfl (d_Worths_likingOf 15 25 (.ireturn) 1 rfl)
    · replace h := it_f hc h
      refine Ak_iload_n 20 0 (d_Worths_likingOf 11 19 (.iload_n 0) 1 rfl) rfl rfl rfl ?_
      refine Ak_goto 25 (d_Worths_likingOf 12 20 (.goto 5) 3 rfl) rfl ?_
      cases h
      exact Ak_iret rfl (d_Worths_likingOf 15 25 (.ireturn) 1 rfl)
  · replace h := it_t hc h
    refine Ak_iload_n 6 0 (d_Worths_likingOf 3 5 (.iload_n 0) 1 rfl) rfl rfl rfl ?_
    refine Ak_if_ne 13 9 (d_Worths_likingOf 4 6 (.ifCond .ne 7) 3 rfl) rfl rfl (fun hc => ?_) (fun hc => ?_)
    · replace h := it_f hc h
      refine Ak_iconst 14 (d_Worths_likingOf 7 13 (.iconst 0) 1 rfl) rfl (rk rfl) ?_
      cases h
      exact Ak_iret rfl (d_Worths_likingOf 8 14 (.ireturn) 1 rfl)
    · replace h := it_t hc h
      refine Ak_iconst 10 (d_Worths_likingOf 5 9 (.iconst 1) 1 rfl) rfl (rk rfl) ?_
      refine Ak_goto 14 (d_Worths_likingOf 6 10 (.goto 4) 3 rfl) rfl ?_
      cases h
      exact Ak_iret rfl (d_Worths_likingOf 8 14 (.ireturn) 1 rfl)
theorem t_Worths_choiceOf_J146 {S : ASh} {K64 : ASt → Int → Int → Int → Option (Int × ASt)} {V : ASt} {x0 x1 x3 x4 x5 x7 x8 s0 : Int} {r : Int} {V' : ASt} (hO : isO S x0 11 = true) (hK64 : ∀ {V : ASt} {y5 y6 y7 : Int} {r : Int} {V' : ASt}, K64 V y5 y6 y7 = some (r, V') → AWk m_Worths_choiceOf 9 0 0 0 0 64 [some (aR x0), some (aI x1), none, some (aI x3), some (aI x4), some (aI y5), some (aI y6), some (aI y7)] [] S V (some (aI r)) S V') (h : b_Worths_choiceOf_J146 S K64 V x0 x1 x3 x4 x5 x7 x8 s0 = some (r, V')) : AWk m_Worths_choiceOf 9 0 0 0 0 146 [some (aR x0), some (aI x1), none, some (aI x3), some (aI x4), some (aI x5), none, some (aI x7), some (aI x8)] [(aI s0)] S V (some (aI r)) S V' := by
  unfold b_Worths_choiceOf_J146 at h
  refine Ak_istore 148 (d_Worths_choiceOf 77 146 (.istore 6) 2 rfl) rfl (by decide) ?_
  refine Ak_iload 150 (d_Worths_choiceOf 78 148 (.iload 5) 2 rfl) rfl rfl ?_
  refine Ak_iload 152 (d_Worths_choiceOf 79 150 (.iload 8) 2 rfl) rfl rfl ?_
  obtain ⟨r1, V2, h3, h⟩ := bnd_some h
  refine Ak_cS1 155 2 (c_Math_max_II h3) rfl mok_Math_max_II lkM_Worths_102 (d_Worths_choiceOf 80 152 (.invokestatic 102) 3 rfl) rfl (by decide) (Nat.le_of_ble_eq_true rfl) ?_
  refine Ak_istore 157 (d_Worths_choiceOf 81 155 (.istore 5) 2 rfl) rfl (by decide) ?_
  refine Ak_iinc 160 (d_Worths_choiceOf 82 157 (.iinc 7 1) 3 rfl) rfl rfl (by decide) ?_
  refine Ak_goto 64 (d_Worths_choiceOf 83 160 (.goto (-96)) 3 rfl) rfl ?_
  refine Ak_keep [true, true, false, true, true, true, true, true] ?_
  exact hK64 h
theorem t_Worths_choiceOf_J127 {S : ASh} {K64 : ASt → Int → Int → Int → Option (Int × ASt)} {V : ASt} {x0 x1 x3 x4 x5 x6 x7 s0 s1 s2 : Int} {r : Int} {V' : ASt} (hO : isO S x0 11 = true) (hK64 : ∀ {V : ASt} {y5 y6 y7 : Int} {r : Int} {V' : ASt}, K64 V y5 y6 y7 = some (r, V') → AWk m_Worths_choiceOf 9 0 0 0 0 64 [some (aR x0), some (aI x1), none, some (aI x3), some (aI x4), some (aI y5), some (aI y6), some (aI y7)] [] S V (some (aI r)) S V') (h : b_Worths_choiceOf_J127 S K64 V x0 x1 x3 x4 x5 x6 x7 s0 s1 s2 = some (r, V')) : AWk m_Worths_choiceOf 9 0 0 0 0 127 [some (aR x0), some (aI x1), none, some (aI x3), some (aI x4), some (aI x5), some (aI x6), some (aI x7)] [(aI s2), (aI s1), (aI s0)] S V (some (aI r)) S V' := by
  unfold b_Worths_choiceOf_J127 at h
  obtain ⟨r4, V5, h6, h⟩ := bnd_some h
  refine Ak_cS1 130 2 (c_Worths_likingOf h6) rfl mok_Worths_likingOf lkM_Worths_90 (d_Worths_choiceOf 69 127 (.invokestatic 90) 3 rfl) rfl (by decide) (Nat.le_of_ble_eq_true rfl) ?_
  refine Ak_istore 132 (d_Worths_choiceOf 70 130 (.istore 8) 2 rfl) rfl (by decide) ?_
  refine Ak_iload 134 (d_Worths_choiceOf 71 132 (.iload 8) 2 rfl) rfl rfl ?_
  refine Ak_iload 136 (d_Worths_choiceOf 72 134 (.iload 5) 2 rfl) rfl rfl ?_
  refine Ak_icmp_le 144 139 (d_Worths_choiceOf 73 136 (.if_icmp .le 8) 3 rfl) rfl rfl (fun hc => ?_) (fun hc => ?_)
  · replace h := it_t hc h
    refine Ak_iload 146 (d_Worths_choiceOf 76 144 (.iload 6) 2 rfl) rfl rfl ?_
    refine Ak_keep [true, true, false, true, true, true, false, true, true] ?_
    exact t_Worths_choiceOf_J146 hO (fun h => hK64 h) h
  · replace h := it_f hc h
    refine Ak_iload 141 (d_Worths_choiceOf 74 139 (.iload 7) 2 rfl) rfl rfl ?_
    refine Ak_goto 146 (d_Worths_choiceOf 75 141 (.goto 5) 3 rfl) rfl ?_
    refine Ak_keep [true, true, false, true, true, true, false, true, true] ?_
    exact t_Worths_choiceOf_J146 hO (fun h => hK64 h) h
theorem t_Worths_choiceOf_L64 {S : ASh} {x0 x1 x3 x4 : Int} (hO : isO S x0 11 = true) : ∀ (n : Nat) (V : ASt) (x5 x6 x7 : Int) (r : Int) (V' : ASt), b_Worths_choiceOf_L64 S x0 x1 x3 x4 n V x5 x6 x7 = some (r, V') → AWk m_Worths_choiceOf 9 0 0 0 0 64 [some (aR x0), some (aI x1), none, some (aI x3), some (aI x4), some (aI x5), some (aI x6), some (aI x7)] [] S V (some (aI r)) S V' := by
  intro n
  induction n with
  | zero => intro V x5 x6 x7 r V' h; cases h
  | succ n ih =>
    intro V x5 x6 x7 r V' h
    replace ih : ∀ {V : ASt} {x5 x6 x7 : Int} {r : Int} {V' : ASt}, b_Worths_choiceOf_L64 S x0 x1 x3 x4 n V x5 x6 x7 = some (r, V') → AWk m_Worths_choiceOf 9 0 0 0 0 64 [some (aR x0), some (aI x1), none, some (aI x3), some (aI x4), some (aI x5), some (aI x6), some (aI x7)] [] S V (some (aI r)) S V' := fun h => ih _ _ _ _ _ _ h
    rw [b_Worths_choiceOf_L64] at h
    refine Ak_iload 66 (d_Worths_choiceOf 38 64 (.iload 7) 2 rfl) rfl rfl ?_
    refine Ak_aload_n 67 0 (d_Worths_choiceOf 39 66 (.aload_n 0) 1 rfl) rfl rfl rfl ?_
    refine Ak_getF 70 3 hO clX11 (by decide) rfl lkF_Worths_18 (d_Worths_choiceOf 40 67 (.getfield 18) 3 rfl) rfl ?_
    obtain ⟨hg10, h⟩ := gd_some h
    obtain ⟨r7, V8, h9, h⟩ := bnd_some h
    refine Ak_cV1 73 2 (c_Slate_codeCount h9) rfl hg10 clX6 rfl mok_Slate_codeCount lkM_Worths_94 (d_Worths_choiceOf 41 70 (.invokevirtual 94) 3 rfl) rfl (by decide) (Nat.le_of_ble_eq_true rfl) ?_
    refine Ak_icmp_ge 163 76 (d_Worths_choiceOf 42 73 (.if_icmp .ge 90) 3 rfl) rfl rfl (fun hc => ?_) (fun hc => ?_)
    · replace h := it_t hc h
      refine Ak_iload 165 (d_Worths_choiceOf 84 163 (.iload 6) 2 rfl) rfl rfl ?_
      cases h
      exact Ak_iret rfl (d_Worths_choiceOf 85 165 (.ireturn) 1 rfl)
    · replace h := it_f hc h
      refine Ak_iload 78 (d_Worths_choiceOf 43 76 (.iload 5) 2 rfl) rfl rfl ?_
      refine Ak_iconst 79 (d_Worths_choiceOf 44 78 (.iconst 1) 1 rfl) rfl (rk rfl) ?_
      refine Ak_icmp_ge 163 82 (d_Worths_choiceOf 45 79 (.if_icmp .ge 84) 3 rfl) rfl rfl (fun hc => ?_) (fun hc => ?_)
      · replace h := it_t hc h
        refine Ak_iload 165 (d_Worths_choiceOf 84 163 (.iload 6) 2 rfl) rfl rfl ?_
        cases h
        exact Ak_iret rfl (d_Worths_choiceOf 85 165 (.ireturn) 1 rfl)
      · replace h := it_f hc h
        refine Ak_aload_n 83 0 (d_Worths_choiceOf 46 82 (.aload_n 0) 1 rfl) rfl rfl rfl ?_
        refine Ak_getF 86 3 hO clX11 (by decide) rfl lkF_Worths_18 (d_Worths_choiceOf 47 83 (.getfield 18) 3 rfl) rfl ?_
        refine Ak_aload_n 87 0 (d_Worths_choiceOf 48 86 (.aload_n 0) 1 rfl) rfl rfl rfl ?_
        refine Ak_getR 90 1 hO clX11 (by decide) rfl lkF_Worths_29 (d_Worths_choiceOf 49 87 (.getfield 29) 3 rfl) rfl ?_
        refine Ak_iload 92 (d_Worths_choiceOf 50 90 (.iload 7) 2 rfl) rfl rfl ?_
        obtain ⟨r11, V12, h13, h⟩ := bnd_some h
        refine Ak_cV1 95 5 (c_Slate_allows h13) rfl hg10 clX6 rfl mok_Slate_allows lkM_Worths_98 (d_Worths_choiceOf 51 92 (.invokevirtual 98) 3 rfl) rfl (by decide) (Nat.le_of_ble_eq_true rfl) ?_
        refine Ak_if_eq 157 98 (d_Worths_choiceOf 52 95 (.ifCond .eq 62) 3 rfl) rfl rfl (fun hc => ?_) (fun hc => ?_)
        · replace h := it_t hc h
          refine Ak_iinc 160 (d_Worths_choiceOf 82 157 (.iinc 7 1) 3 rfl) rfl rfl (by decide) ?_
          refine Ak_goto 64 (d_Worths_choiceOf 83 160 (.goto (-96)) 3 rfl) rfl ?_
          refine Ak_keep [true, true, false, true, true, true, true, true] ?_
          exact ih h
        · replace h := it_f hc h
          refine Ak_aload_n 99 0 (d_Worths_choiceOf 53 98 (.aload_n 0) 1 rfl) rfl rfl rfl ?_
          refine Ak_iload 101 (d_Worths_choiceOf 54 99 (.iload 7) 2 rfl) rfl rfl ?_
          obtain ⟨r14, V15, h16, h⟩ := bnd_some h
          refine Ak_cV0 104 8 (c_Worths_reckon h16) rfl hO clX11 rfl mok_Worths_reckon lkM_Worths_87 (d_Worths_choiceOf 55 101 (.invokevirtual 87) 3 rfl) rfl (by decide) (Nat.le_of_ble_eq_true rfl) ?_
          refine Ak_aload_n 105 0 (d_Worths_choiceOf 56 104 (.aload_n 0) 1 rfl) rfl rfl rfl ?_
          refine Ak_getF 108 5 hO clX11 (by decide) rfl lkF_Worths_25 (d_Worths_choiceOf 57 105 (.getfield 25) 3 rfl) rfl ?_
          refine Ak_iload 110 (d_Worths_choiceOf 58 108 (.iload 7) 2 rfl) rfl rfl ?_
          refine Ak_iload_n 111 3 (d_Worths_choiceOf 59 110 (.iload_n 3) 1 rfl) rfl rfl rfl ?_
          obtain ⟨r17, V18, h19, h⟩ := bnd_some h
          refine Ak_cS1 114 2 (c_Worths_slotOf h19) rfl mok_Worths_slotOf lkM_Worths_51 (d_Worths_choiceOf 60 111 (.invokestatic 51) 3 rfl) rfl (by decide) (Nat.le_of_ble_eq_true rfl) ?_
          obtain ⟨ha20, h⟩ := gd_some h
          refine Ak_iaload 115 ha20 (d_Worths_choiceOf 61 114 (.iaload) 1 rfl) rfl ?_
          refine Ak_iload 117 (d_Worths_choiceOf 62 115 (.iload 4) 2 rfl) rfl rfl ?_
          refine Ak_iload_n 118 1 (d_Worths_choiceOf 63 117 (.iload_n 1) 1 rfl) rfl rfl rfl ?_
          refine Ak_iload_n 119 3 (d_Worths_choiceOf 64 118 (.iload_n 3) 1 rfl) rfl rfl rfl ?_
          refine Ak_icmp_ne 126 122 (d_Worths_choiceOf 65 119 (.if_icmp .ne 7) 3 rfl) rfl rfl (fun hc => ?_) (fun hc => ?_)
          · replace h := it_f hc h
            refine Ak_iconst 127 (d_Worths_choiceOf 68 126 (.iconst 0) 1 rfl) rfl (rk rfl) ?_
            refine Ak_keep [true, true, false, true, true, true, true, true] ?_
            exact t_Worths_choiceOf_J127 hO (fun h => ih h) h
          · replace h := it_t hc h
            refine Ak_iconst 123 (d_Worths_choiceOf 66 122 (.iconst 1) 1 rfl) rfl (rk rfl) ?_
            refine Ak_goto 127 (d_Worths_choiceOf 67 123 (.goto 4) 3 rfl) rfl ?_
            refine Ak_keep [true, true, false, true, true, true, true, true] ?_
            exact t_Worths_choiceOf_J127 hO (fun h => ih h) h
theorem t_Worths_choiceOf_J53 {S : ASh} {V : ASt} {x0 x1 x3 x4 s0 s1 s2 : Int} {r : Int} {V' : ASt} (hO : isO S x0 11 = true) (h : b_Worths_choiceOf_J53 S  V x0 x1 x3 x4 s0 s1 s2 = some (r, V')) : AWk m_Worths_choiceOf 9 0 0 0 0 53 [some (aR x0), some (aI x1), none, some (aI x3), some (aI x4)] [(aI s2), (aI s1), (aI s0)] S V (some (aI r)) S V' := by
  unfold b_Worths_choiceOf_J53 at h
  obtain ⟨r21, V22, h23, h⟩ := bnd_some h
  refine Ak_cS1 56 2 (c_Worths_likingOf h23) rfl mok_Worths_likingOf lkM_Worths_90 (d_Worths_choiceOf 32 53 (.invokestatic 90) 3 rfl) rfl (by decide) (Nat.le_of_ble_eq_true rfl) ?_
  refine Ak_istore 58 (d_Worths_choiceOf 33 56 (.istore 5) 2 rfl) rfl (by decide) ?_
  refine Ak_iconst 59 (d_Worths_choiceOf 34 58 (.iconst (-1)) 1 rfl) rfl (rk rfl) ?_
  refine Ak_istore 61 (d_Worths_choiceOf 35 59 (.istore 6) 2 rfl) rfl (by decide) ?_
  refine Ak_iconst 62 (d_Worths_choiceOf 36 61 (.iconst 0) 1 rfl) rfl (rk rfl) ?_
  refine Ak_istore 64 (d_Worths_choiceOf 37 62 (.istore 7) 2 rfl) rfl (by decide) ?_
  refine Ak_keep [true, true, false, true, true, true, true, true] ?_
  exact t_Worths_choiceOf_L64 hO FU _ _ _ _ _ _ h
theorem t_Worths_choiceOf_J17 {S : ASh} {V : ASt} {x0 x1 x3 s0 : Int} {r : Int} {V' : ASt} (hO : isO S x0 11 = true) (h : b_Worths_choiceOf_J17 S  V x0 x1 x3 s0 = some (r, V')) : AWk m_Worths_choiceOf 9 0 0 0 0 17 [some (aR x0), some (aI x1), none, some (aI x3)] [(aI s0)] S V (some (aI r)) S V' := by
  unfold b_Worths_choiceOf_J17 at h
  refine Ak_istore 19 (d_Worths_choiceOf 11 17 (.istore 4) 2 rfl) rfl (by decide) ?_
  refine Ak_iload 21 (d_Worths_choiceOf 12 19 (.iload 4) 2 rfl) rfl rfl ?_
  refine Ak_if_ne 26 24 (d_Worths_choiceOf 13 21 (.ifCond .ne 5) 3 rfl) rfl rfl (fun hc => ?_) (fun hc => ?_)
  · replace h := it_f hc h
    refine Ak_aload_n 27 0 (d_Worths_choiceOf 16 26 (.aload_n 0) 1 rfl) rfl rfl rfl ?_
    refine Ak_iconst 28 (d_Worths_choiceOf 17 27 (.iconst (-1)) 1 rfl) rfl (rk rfl) ?_
    obtain ⟨r24, V25, h26, h⟩ := bnd_some h
    refine Ak_cV0 31 8 (c_Worths_reckon h26) rfl hO clX11 rfl mok_Worths_reckon lkM_Worths_87 (d_Worths_choiceOf 18 28 (.invokevirtual 87) 3 rfl) rfl (by decide) (Nat.le_of_ble_eq_true rfl) ?_
    refine Ak_aload_n 32 0 (d_Worths_choiceOf 19 31 (.aload_n 0) 1 rfl) rfl rfl rfl ?_
    refine Ak_getF 35 5 hO clX11 (by decide) rfl lkF_Worths_25 (d_Worths_choiceOf 20 32 (.getfield 25) 3 rfl) rfl ?_
    refine Ak_iconst 36 (d_Worths_choiceOf 21 35 (.iconst (-1)) 1 rfl) rfl (rk rfl) ?_
    refine Ak_iload_n 37 3 (d_Worths_choiceOf 22 36 (.iload_n 3) 1 rfl) rfl rfl rfl ?_
    obtain ⟨r27, V28, h29, h⟩ := bnd_some h
    refine Ak_cS1 40 2 (c_Worths_slotOf h29) rfl mok_Worths_slotOf lkM_Worths_51 (d_Worths_choiceOf 23 37 (.invokestatic 51) 3 rfl) rfl (by decide) (Nat.le_of_ble_eq_true rfl) ?_
    obtain ⟨ha30, h⟩ := gd_some h
    refine Ak_iaload 41 ha30 (d_Worths_choiceOf 24 40 (.iaload) 1 rfl) rfl ?_
    refine Ak_iload 43 (d_Worths_choiceOf 25 41 (.iload 4) 2 rfl) rfl rfl ?_
    refine Ak_iload_n 44 1 (d_Worths_choiceOf 26 43 (.iload_n 1) 1 rfl) rfl rfl rfl ?_
    refine Ak_iload_n 45 3 (d_Worths_choiceOf 27 44 (.iload_n 3) 1 rfl) rfl rfl rfl ?_
    refine Ak_icmp_ne 52 48 (d_Worths_choiceOf 28 45 (.if_icmp .ne 7) 3 rfl) rfl rfl (fun hc => ?_) (fun hc => ?_)
    · replace h := it_f hc h
      refine Ak_iconst 53 (d_Worths_choiceOf 31 52 (.iconst 0) 1 rfl) rfl (rk rfl) ?_
      refine Ak_keep [true, true, false, true, true] ?_
      exact t_Worths_choiceOf_J53 hO h
    · replace h := it_t hc h
      refine Ak_iconst 49 (d_Worths_choiceOf 29 48 (.iconst 1) 1 rfl) rfl (rk rfl) ?_
      refine Ak_goto 53 (d_Worths_choiceOf 30 49 (.goto 4) 3 rfl) rfl ?_
      refine Ak_keep [true, true, false, true, true] ?_
      exact t_Worths_choiceOf_J53 hO h
  · replace h := it_t hc h
    refine Ak_iconst 25 (d_Worths_choiceOf 14 24 (.iconst (-1)) 1 rfl) rfl (rk rfl) ?_
    cases h
    exact Ak_iret rfl (d_Worths_choiceOf 15 25 (.ireturn) 1 rfl)
theorem c_Worths_choiceOf {S : ASh} {V : ASt} {x0 x1 x2 x3 : Int} {r : Int} {V' : ASt} (h : f_Worths_choiceOf S V x0 x1 x2 x3 = some (r, V')) : ACt m_Worths_choiceOf 9 0 0 [(aR x0), (aI x1), (aR x2), (aI x3)] S V (some (aI r)) S V' := by
  unfold f_Worths_choiceOf at h
  obtain ⟨hO, h⟩ := gd_some h
  refine ACt_of (plainFor_of_name rfl) rfl (Nat.le_of_ble_eq_true rfl) ?_
  show AWk m_Worths_choiceOf 9 0 0 0 0 0 [some (aR x0), some (aI x1), some (aR x2), some (aI x3)] [] S V (some (aI r)) S V'
  refine Ak_iload_n 1 1 (d_Worths_choiceOf 0 0 (.iload_n 1) 1 rfl) rfl rfl rfl ?_
  refine Ak_if_lt 16 4 (d_Worths_choiceOf 1 1 (.ifCond .lt 15) 3 rfl) rfl rfl (fun hc => ?_) (fun hc => ?_)
  · replace h := it_t hc h
    refine Ak_iconst 17 (d_Worths_choiceOf 10 16 (.iconst 0) 1 rfl) rfl (rk rfl) ?_
    refine Ak_keep [true, true, false, true] ?_
    exact t_Worths_choiceOf_J17 hO h
  · replace h := it_f hc h
    refine Ak_iload_n 5 1 (d_Worths_choiceOf 2 4 (.iload_n 1) 1 rfl) rfl rfl rfl ?_
    refine Ak_aload_n 6 2 (d_Worths_choiceOf 3 5 (.aload_n 2) 1 rfl) rfl rfl rfl ?_
    obtain ⟨hg31, h⟩ := gd_some h
    refine Ak_alen (c := 0) 7 hg31 (by decide) (d_Worths_choiceOf 4 6 (.arraylength) 1 rfl) rfl ?_
    refine Ak_icmp_ge 16 10 (d_Worths_choiceOf 5 7 (.if_icmp .ge 9) 3 rfl) rfl rfl (fun hc => ?_) (fun hc => ?_)
    · replace h := it_t hc h
      refine Ak_iconst 17 (d_Worths_choiceOf 10 16 (.iconst 0) 1 rfl) rfl (rk rfl) ?_
      refine Ak_keep [true, true, false, true] ?_
      exact t_Worths_choiceOf_J17 hO h
    · replace h := it_f hc h
      refine Ak_aload_n 11 2 (d_Worths_choiceOf 6 10 (.aload_n 2) 1 rfl) rfl rfl rfl ?_
      refine Ak_iload_n 12 1 (d_Worths_choiceOf 7 11 (.iload_n 1) 1 rfl) rfl rfl rfl ?_
      obtain ⟨ha32, h⟩ := gd_some h
      refine Ak_iaload 13 ha32 (d_Worths_choiceOf 8 12 (.iaload) 1 rfl) rfl ?_
      refine Ak_goto 17 (d_Worths_choiceOf 9 13 (.goto 4) 3 rfl) rfl ?_
      refine Ak_keep [true, true, false, true] ?_
      exact t_Worths_choiceOf_J17 hO h
