/-! printed by wip/gen/gen_all.py: contracts of the reader's group -/
theorem c_Reader_readPair {S : ASh} {V : ASt} {x0 x1 : Int} {r : Int} {V' : ASt} {R : Nat → ASt → Int → Int → Option (Int × ASt)} {dd : Nat} (hdd : 20 ≤ dd) (hR : RdOK S R dd) (h : f_Reader_readPair S R V x0 x1 = some (r, V')) : ACt m_Reader_readPair (dd + 1) 0 0 [(aR x0), (aI x1)] S V none S V' := by
  unfold f_Reader_readPair at h
  obtain ⟨hO, h⟩ := gd_some h
  refine ACt_of (plainFor_of_name rfl) rfl (Nat.le_of_ble_eq_true rfl) ?_
  show AWk m_Reader_readPair (dd + 1) 0 0 0 0 0 [some (aR x0), some (aI x1)] [] S V none S V'
  refine Ak_aload_n 1 0 (d_Reader_readPair 0 0 (.aload_n 0) 1 rfl) rfl rfl rfl ?_
  obtain ⟨r1, V2, h3, h⟩ := bnd_some h
  refine Ak_cV0 4 3 (c_Reader_step h3) rfl hO clX5 rfl mok_Reader_step lkM_Reader_68 (d_Reader_readPair 1 1 (.invokevirtual 68) 3 rfl) rfl (by omega) (Nat.le_of_ble_eq_true rfl) ?_
  refine Ak_aload_n 5 0 (d_Reader_readPair 2 4 (.aload_n 0) 1 rfl) rfl rfl rfl ?_
  refine Ak_bipush 7 (d_Reader_readPair 3 5 (.bipush 40) 2 rfl) rfl (bp_ok rfl) (rk rfl) ?_
  obtain ⟨r4, V5, h6, h⟩ := bnd_some h
  refine Ak_cV0 10 5 (c_Reader_openBracket h6) rfl hO clX5 rfl mok_Reader_openBracket lkM_Reader_149 (d_Reader_readPair 4 7 (.invokevirtual 149) 3 rfl) rfl (by omega) (Nat.le_of_ble_eq_true rfl) ?_
  refine Ak_aload_n 11 0 (d_Reader_readPair 5 10 (.aload_n 0) 1 rfl) rfl rfl rfl ?_
  obtain ⟨r7, V8, h9, h⟩ := bnd_some h
  refine Ak_cV0 14 dd (hR.2.2.2.2.1 h9) rfl hO clX5 rfl mok_Reader_readSum lkM_Reader_158 (d_Reader_readPair 6 11 (.invokevirtual 158) 3 rfl) rfl (by omega) (Nat.le_of_ble_eq_true rfl) ?_
  refine Ak_aload_n 15 0 (d_Reader_readPair 7 14 (.aload_n 0) 1 rfl) rfl rfl rfl ?_
  refine Ak_bipush 17 (d_Reader_readPair 8 15 (.bipush 44) 2 rfl) rfl (bp_ok rfl) (rk rfl) ?_
  obtain ⟨r10, V11, h12, h⟩ := bnd_some h
  refine Ak_cV0 20 4 (c_Reader_take h12) rfl hO clX5 rfl mok_Reader_take lkM_Reader_47 (d_Reader_readPair 9 17 (.invokevirtual 47) 3 rfl) rfl (by omega) (Nat.le_of_ble_eq_true rfl) ?_
  refine Ak_aload_n 21 0 (d_Reader_readPair 10 20 (.aload_n 0) 1 rfl) rfl rfl rfl ?_
  obtain ⟨r13, V14, h15, h⟩ := bnd_some h
  refine Ak_cV0 24 dd (hR.2.2.2.2.1 h15) rfl hO clX5 rfl mok_Reader_readSum lkM_Reader_158 (d_Reader_readPair 11 21 (.invokevirtual 158) 3 rfl) rfl (by omega) (Nat.le_of_ble_eq_true rfl) ?_
  refine Ak_aload_n 25 0 (d_Reader_readPair 12 24 (.aload_n 0) 1 rfl) rfl rfl rfl ?_
  refine Ak_bipush 27 (d_Reader_readPair 13 25 (.bipush 41) 2 rfl) rfl (bp_ok rfl) (rk rfl) ?_
  obtain ⟨r16, V17, h18, h⟩ := bnd_some h
  refine Ak_cV0 30 5 (c_Reader_closeBracket h18) rfl hO clX5 rfl mok_Reader_closeBracket lkM_Reader_152 (d_Reader_readPair 14 27 (.invokevirtual 152) 3 rfl) rfl (by omega) (Nat.le_of_ble_eq_true rfl) ?_
  refine Ak_aload_n 31 0 (d_Reader_readPair 15 30 (.aload_n 0) 1 rfl) rfl rfl rfl ?_
  refine Ak_getR 34 4 hO clX5 (by decide) rfl lkF_Reader_31 (d_Reader_readPair 16 31 (.getfield 31) 3 rfl) rfl ?_
  obtain ⟨hg19, h⟩ := gd_some h
  refine Ak_getF 37 5 hg19 clX1 (by decide) rfl lkF_Reader_122 (d_Reader_readPair 17 34 (.getfield 122) 3 rfl) rfl ?_
  refine Ak_iload_n 38 1 (d_Reader_readPair 18 37 (.iload_n 1) 1 rfl) rfl rfl rfl ?_
  obtain ⟨hg23, h⟩ := gd_some h
  obtain ⟨r20, V21, h22, h⟩ := bnd_some h
  refine Ak_cV0 41 2 (c_Tests_emit h22) rfl hg23 clX8 rfl mok_Tests_emit lkM_Reader_143 (d_Reader_readPair 19 38 (.invokevirtual 143) 3 rfl) rfl (by omega) (Nat.le_of_ble_eq_true rfl) ?_
  cases h
  exact Ak_vret rfl (d_Reader_readPair 20 41 (.return_) 1 rfl)
theorem t_Reader_readPart_J223 {S : ASh} {R : Nat → ASt → Int → Int → Option (Int × ASt)} {V : ASt} {x0 s0 s1 : Int} {r : Int} {V' : ASt} (hO : isO S x0 5 = true) {dd : Nat} (hdd : 20 ≤ dd) (hR : RdOK S R dd) (h : b_Reader_readPart_J223 S R V x0 s0 s1 = some (r, V')) : AWk m_Reader_readPart (dd + 1) 0 0 0 0 223 [some (aR x0)] [(aI s1), (aR s0)] S V none S V' := by
  unfold b_Reader_readPart_J223 at h
  obtain ⟨hg4, h⟩ := gd_some h
  obtain ⟨r1, V2, h3, h⟩ := bnd_some h
  refine Ak_cV0 226 2 (c_Tests_emit h3) rfl hg4 clX8 rfl mok_Tests_emit lkM_Reader_143 (d_Reader_readPart 65 223 (.invokevirtual 143) 3 rfl) rfl (by omega) (Nat.le_of_ble_eq_true rfl) ?_
  refine Ak_goto 234 (d_Reader_readPart 66 226 (.goto 8) 3 rfl) rfl ?_
  cases h
  exact Ak_vret rfl (d_Reader_readPart 70 234 (.return_) 1 rfl)
theorem c_Reader_readPart {S : ASh} {V : ASt} {x0 : Int} {r : Int} {V' : ASt} {R : Nat → ASt → Int → Int → Option (Int × ASt)} {dd : Nat} (hdd : 20 ≤ dd) (hR : RdOK S R dd) (h : f_Reader_readPart S R V x0 = some (r, V')) : ACt m_Reader_readPart (dd + 1) 0 0 [(aR x0)] S V none S V' := by
  unfold f_Reader_readPart at h
  obtain ⟨hO, h⟩ := gd_some h
  refine ACt_of (plainFor_of_name rfl) rfl (Nat.le_of_ble_eq_true rfl) ?_
  show AWk m_Reader_readPart (dd + 1) 0 0 0 0 0 [some (aR x0)] [] S V none S V'
  refine Ak_aload_n 1 0 (d_Reader_readPart 0 0 (.aload_n 0) 1 rfl) rfl rfl rfl ?_
  obtain ⟨r5, V6, h7, h⟩ := bnd_some h
  refine Ak_cV1 4 3 (c_Reader_type h7) rfl hO clX5 rfl mok_Reader_type lkM_Reader_51 (d_Reader_readPart 1 1 (.invokevirtual 51) 3 rfl) rfl (by omega) (Nat.le_of_ble_eq_true rfl) ?_
  by_cases hc8 : r5 = 2
  · replace h := it_t hc8 h
    refine Ak_lookup 202 (d_Reader_readPart 2 4 (.lookupswitch 225 #[(2, 198), (3, 95), (40, 76), (274, 123), (275, 142), (276, 161), (277, 180), (278, 189)]) 76 rfl) rfl (by rw [hc8]) rfl ?_
    refine Ak_aload_n 203 0 (d_Reader_readPart 56 202 (.aload_n 0) 1 rfl) rfl rfl rfl ?_
    refine Ak_getR 206 4 hO clX5 (by decide) rfl lkF_Reader_31 (d_Reader_readPart 57 203 (.getfield 31) 3 rfl) rfl ?_
    obtain ⟨hg9, h⟩ := gd_some h
    refine Ak_getF 209 5 hg9 clX1 (by decide) rfl lkF_Reader_122 (d_Reader_readPart 58 206 (.getfield 122) 3 rfl) rfl ?_
    refine Ak_aload_n 210 0 (d_Reader_readPart 59 209 (.aload_n 0) 1 rfl) rfl rfl rfl ?_
    obtain ⟨r10, V11, h12, h⟩ := bnd_some h
    refine Ak_cV1 213 5 (c_Reader_takeNameOfPiece h12) rfl hO clX5 rfl mok_Reader_takeNameOfPiece lkM_Reader_131 (d_Reader_readPart 60 210 (.invokevirtual 131) 3 rfl) rfl (by omega) (Nat.le_of_ble_eq_true rfl) ?_
    refine Ak_if_ne 221 216 (d_Reader_readPart 61 213 (.ifCond .ne 8) 3 rfl) rfl rfl (fun hc => ?_) (fun hc => ?_)
    · replace h := it_f hc h
      refine Ak_bipush 223 (d_Reader_readPart 64 221 (.bipush (-19)) 2 rfl) rfl (bp_ok rfl) (rk rfl) ?_
      refine Ak_keep [true] ?_
      exact t_Reader_readPart_J223 hO hdd hR h
    · replace h := it_t hc h
      refine Ak_bipush 218 (d_Reader_readPart 62 216 (.bipush (-18)) 2 rfl) rfl (bp_ok rfl) (rk rfl) ?_
      refine Ak_goto 223 (d_Reader_readPart 63 218 (.goto 5) 3 rfl) rfl ?_
      refine Ak_keep [true] ?_
      exact t_Reader_readPart_J223 hO hdd hR h
  · replace h := it_f hc8 h
    by_cases hc13 : r5 = 3
    · replace h := it_t hc13 h
      refine Ak_lookup 99 (d_Reader_readPart 2 4 (.lookupswitch 225 #[(2, 198), (3, 95), (40, 76), (274, 123), (275, 142), (276, 161), (277, 180), (278, 189)]) 76 rfl) rfl (by rw [hc13]) rfl ?_
      refine Ak_aload_n 100 0 (d_Reader_readPart 12 99 (.aload_n 0) 1 rfl) rfl rfl rfl ?_
      refine Ak_getR 103 4 hO clX5 (by decide) rfl lkF_Reader_31 (d_Reader_readPart 13 100 (.getfield 31) 3 rfl) rfl ?_
      obtain ⟨hg14, h⟩ := gd_some h
      refine Ak_getF 106 5 hg14 clX1 (by decide) rfl lkF_Reader_122 (d_Reader_readPart 14 103 (.getfield 122) 3 rfl) rfl ?_
      refine Ak_aload_n 107 0 (d_Reader_readPart 15 106 (.aload_n 0) 1 rfl) rfl rfl rfl ?_
      refine Ak_getF 110 2 hO clX5 (by decide) rfl lkF_Reader_21 (d_Reader_readPart 16 107 (.getfield 21) 3 rfl) rfl ?_
      refine Ak_aload_n 111 0 (d_Reader_readPart 17 110 (.aload_n 0) 1 rfl) rfl rfl rfl ?_
      refine Ak_getI 114 3 hO clX5 (by decide) (Or.inl rfl) lkF_Reader_25 (d_Reader_readPart 18 111 (.getfield 25) 3 rfl) rfl ?_
      obtain ⟨hg18, h⟩ := gd_some h
      obtain ⟨r15, V16, h17, h⟩ := bnd_some h
      refine Ak_cV1 117 2 (c_Tokens_contentOf h17) rfl hg18 clX9 rfl mok_Tokens_contentOf lkM_Reader_74 (d_Reader_readPart 19 114 (.invokevirtual 74) 3 rfl) rfl (by omega) (Nat.le_of_ble_eq_true rfl) ?_
      obtain ⟨hg22, h⟩ := gd_some h
      obtain ⟨r19, V20, h21, h⟩ := bnd_some h
      refine Ak_cV0 120 2 (c_Tests_emit h21) rfl hg22 clX8 rfl mok_Tests_emit lkM_Reader_143 (d_Reader_readPart 20 117 (.invokevirtual 143) 3 rfl) rfl (by omega) (Nat.le_of_ble_eq_true rfl) ?_
      refine Ak_aload_n 121 0 (d_Reader_readPart 21 120 (.aload_n 0) 1 rfl) rfl rfl rfl ?_
      obtain ⟨r23, V24, h25, h⟩ := bnd_some h
      refine Ak_cV0 124 3 (c_Reader_step h25) rfl hO clX5 rfl mok_Reader_step lkM_Reader_68 (d_Reader_readPart 22 121 (.invokevirtual 68) 3 rfl) rfl (by omega) (Nat.le_of_ble_eq_true rfl) ?_
      refine Ak_goto 234 (d_Reader_readPart 23 124 (.goto 110) 3 rfl) rfl ?_
      cases h
      exact Ak_vret rfl (d_Reader_readPart 70 234 (.return_) 1 rfl)
    · replace h := it_f hc13 h
      by_cases hc26 : r5 = 40
      · replace h := it_t hc26 h
        refine Ak_lookup 80 (d_Reader_readPart 2 4 (.lookupswitch 225 #[(2, 198), (3, 95), (40, 76), (274, 123), (275, 142), (276, 161), (277, 180), (278, 189)]) 76 rfl) rfl (by rw [hc26]) rfl ?_
        refine Ak_aload_n 81 0 (d_Reader_readPart 3 80 (.aload_n 0) 1 rfl) rfl rfl rfl ?_
        refine Ak_bipush 83 (d_Reader_readPart 4 81 (.bipush 40) 2 rfl) rfl (bp_ok rfl) (rk rfl) ?_
        obtain ⟨r27, V28, h29, h⟩ := bnd_some h
        refine Ak_cV0 86 5 (c_Reader_openBracket h29) rfl hO clX5 rfl mok_Reader_openBracket lkM_Reader_149 (d_Reader_readPart 5 83 (.invokevirtual 149) 3 rfl) rfl (by omega) (Nat.le_of_ble_eq_true rfl) ?_
        refine Ak_aload_n 87 0 (d_Reader_readPart 6 86 (.aload_n 0) 1 rfl) rfl rfl rfl ?_
        obtain ⟨r30, V31, h32, h⟩ := bnd_some h
        refine Ak_cV0 90 dd (hR.2.2.2.2.1 h32) rfl hO clX5 rfl mok_Reader_readSum lkM_Reader_158 (d_Reader_readPart 7 87 (.invokevirtual 158) 3 rfl) rfl (by omega) (Nat.le_of_ble_eq_true rfl) ?_
        refine Ak_aload_n 91 0 (d_Reader_readPart 8 90 (.aload_n 0) 1 rfl) rfl rfl rfl ?_
        refine Ak_bipush 93 (d_Reader_readPart 9 91 (.bipush 41) 2 rfl) rfl (bp_ok rfl) (rk rfl) ?_
        obtain ⟨r33, V34, h35, h⟩ := bnd_some h
        refine Ak_cV0 96 5 (c_Reader_closeBracket h35) rfl hO clX5 rfl mok_Reader_closeBracket lkM_Reader_152 (d_Reader_readPart 10 93 (.invokevirtual 152) 3 rfl) rfl (by omega) (Nat.le_of_ble_eq_true rfl) ?_
        refine Ak_goto 234 (d_Reader_readPart 11 96 (.goto 138) 3 rfl) rfl ?_
        cases h
        exact Ak_vret rfl (d_Reader_readPart 70 234 (.return_) 1 rfl)
      · replace h := it_f hc26 h
        by_cases hc36 : r5 = 274
        · replace h := it_t hc36 h
          refine Ak_lookup 127 (d_Reader_readPart 2 4 (.lookupswitch 225 #[(2, 198), (3, 95), (40, 76), (274, 123), (275, 142), (276, 161), (277, 180), (278, 189)]) 76 rfl) rfl (by rw [hc36]) rfl ?_
          refine Ak_aload_n 128 0 (d_Reader_readPart 24 127 (.aload_n 0) 1 rfl) rfl rfl rfl ?_
          refine Ak_getR 131 4 hO clX5 (by decide) rfl lkF_Reader_31 (d_Reader_readPart 25 128 (.getfield 31) 3 rfl) rfl ?_
          obtain ⟨hg37, h⟩ := gd_some h
          refine Ak_getF 134 5 hg37 clX1 (by decide) rfl lkF_Reader_122 (d_Reader_readPart 26 131 (.getfield 122) 3 rfl) rfl ?_
          refine Ak_bipush 136 (d_Reader_readPart 27 134 (.bipush (-15)) 2 rfl) rfl (bp_ok rfl) (rk rfl) ?_
          obtain ⟨hg41, h⟩ := gd_some h
          obtain ⟨r38, V39, h40, h⟩ := bnd_some h
          refine Ak_cV0 139 2 (c_Tests_emit h40) rfl hg41 clX8 rfl mok_Tests_emit lkM_Reader_143 (d_Reader_readPart 28 136 (.invokevirtual 143) 3 rfl) rfl (by omega) (Nat.le_of_ble_eq_true rfl) ?_
          refine Ak_aload_n 140 0 (d_Reader_readPart 29 139 (.aload_n 0) 1 rfl) rfl rfl rfl ?_
          obtain ⟨r42, V43, h44, h⟩ := bnd_some h
          refine Ak_cV0 143 3 (c_Reader_step h44) rfl hO clX5 rfl mok_Reader_step lkM_Reader_68 (d_Reader_readPart 30 140 (.invokevirtual 68) 3 rfl) rfl (by omega) (Nat.le_of_ble_eq_true rfl) ?_
          refine Ak_goto 234 (d_Reader_readPart 31 143 (.goto 91) 3 rfl) rfl ?_
          cases h
          exact Ak_vret rfl (d_Reader_readPart 70 234 (.return_) 1 rfl)
        · replace h := it_f hc36 h
          by_cases hc45 : r5 = 275
          · replace h := it_t hc45 h
            refine Ak_lookup 146 (d_Reader_readPart 2 4 (.lookupswitch 225 #[(2, 198), (3, 95), (40, 76), (274, 123), (275, 142), (276, 161), (277, 180), (278, 189)]) 76 rfl) rfl (by rw [hc45]) rfl ?_
            refine Ak_aload_n 147 0 (d_Reader_readPart 32 146 (.aload_n 0) 1 rfl) rfl rfl rfl ?_
            refine Ak_getR 150 4 hO clX5 (by decide) rfl lkF_Reader_31 (d_Reader_readPart 33 147 (.getfield 31) 3 rfl) rfl ?_
            obtain ⟨hg46, h⟩ := gd_some h
            refine Ak_getF 153 5 hg46 clX1 (by decide) rfl lkF_Reader_122 (d_Reader_readPart 34 150 (.getfield 122) 3 rfl) rfl ?_
            refine Ak_bipush 155 (d_Reader_readPart 35 153 (.bipush (-16)) 2 rfl) rfl (bp_ok rfl) (rk rfl) ?_
            obtain ⟨hg50, h⟩ := gd_some h
            obtain ⟨r47, V48, h49, h⟩ := bnd_some h
            refine Ak_cV0 158 2 (c_Tests_emit h49) rfl hg50 clX8 rfl mok_Tests_emit lkM_Reader_143 (d_Reader_readPart 36 155 (.invokevirtual 143) 3 rfl) rfl (by omega) (Nat.le_of_ble_eq_true rfl) ?_
            refine Ak_aload_n 159 0 (d_Reader_readPart 37 158 (.aload_n 0) 1 rfl) rfl rfl rfl ?_
            obtain ⟨r51, V52, h53, h⟩ := bnd_some h
            refine Ak_cV0 162 3 (c_Reader_step h53) rfl hO clX5 rfl mok_Reader_step lkM_Reader_68 (d_Reader_readPart 38 159 (.invokevirtual 68) 3 rfl) rfl (by omega) (Nat.le_of_ble_eq_true rfl) ?_
            refine Ak_goto 234 (d_Reader_readPart 39 162 (.goto 72) 3 rfl) rfl ?_
            cases h
            exact Ak_vret rfl (d_Reader_readPart 70 234 (.return_) 1 rfl)
          · replace h := it_f hc45 h
            by_cases hc54 : r5 = 276
            · replace h := it_t hc54 h
              refine Ak_lookup 165 (d_Reader_readPart 2 4 (.lookupswitch 225 #[(2, 198), (3, 95), (40, 76), (274, 123), (275, 142), (276, 161), (277, 180), (278, 189)]) 76 rfl) rfl (by rw [hc54]) rfl ?_
              refine Ak_aload_n 166 0 (d_Reader_readPart 40 165 (.aload_n 0) 1 rfl) rfl rfl rfl ?_
              refine Ak_getR 169 4 hO clX5 (by decide) rfl lkF_Reader_31 (d_Reader_readPart 41 166 (.getfield 31) 3 rfl) rfl ?_
              obtain ⟨hg55, h⟩ := gd_some h
              refine Ak_getF 172 5 hg55 clX1 (by decide) rfl lkF_Reader_122 (d_Reader_readPart 42 169 (.getfield 122) 3 rfl) rfl ?_
              refine Ak_bipush 174 (d_Reader_readPart 43 172 (.bipush (-17)) 2 rfl) rfl (bp_ok rfl) (rk rfl) ?_
              obtain ⟨hg59, h⟩ := gd_some h
              obtain ⟨r56, V57, h58, h⟩ := bnd_some h
              refine Ak_cV0 177 2 (c_Tests_emit h58) rfl hg59 clX8 rfl mok_Tests_emit lkM_Reader_143 (d_Reader_readPart 44 174 (.invokevirtual 143) 3 rfl) rfl (by omega) (Nat.le_of_ble_eq_true rfl) ?_
              refine Ak_aload_n 178 0 (d_Reader_readPart 45 177 (.aload_n 0) 1 rfl) rfl rfl rfl ?_
              obtain ⟨r60, V61, h62, h⟩ := bnd_some h
              refine Ak_cV0 181 3 (c_Reader_step h62) rfl hO clX5 rfl mok_Reader_step lkM_Reader_68 (d_Reader_readPart 46 178 (.invokevirtual 68) 3 rfl) rfl (by omega) (Nat.le_of_ble_eq_true rfl) ?_
              refine Ak_goto 234 (d_Reader_readPart 47 181 (.goto 53) 3 rfl) rfl ?_
              cases h
              exact Ak_vret rfl (d_Reader_readPart 70 234 (.return_) 1 rfl)
            · replace h := it_f hc54 h
              by_cases hc63 : r5 = 277
              · replace h := it_t hc63 h
                refine Ak_lookup 184 (d_Reader_readPart 2 4 (.lookupswitch 225 #[(2, 198), (3, 95), (40, 76), (274, 123), (275, 142), (276, 161), (277, 180), (278, 189)]) 76 rfl) rfl (by rw [hc63]) rfl ?_
                refine Ak_aload_n 185 0 (d_Reader_readPart 48 184 (.aload_n 0) 1 rfl) rfl rfl rfl ?_
                refine Ak_bipush 187 (d_Reader_readPart 49 185 (.bipush (-7)) 2 rfl) rfl (bp_ok rfl) (rk rfl) ?_
                obtain ⟨r64, V65, h66, h⟩ := bnd_some h
                refine Ak_cV0 190 dd (hR.2.2.2.2.2.2.2 h66) rfl hO clX5 rfl mok_Reader_readPair lkM_Reader_173 (d_Reader_readPart 50 187 (.invokevirtual 173) 3 rfl) rfl (by omega) (Nat.le_of_ble_eq_true rfl) ?_
                refine Ak_goto 234 (d_Reader_readPart 51 190 (.goto 44) 3 rfl) rfl ?_
                cases h
                exact Ak_vret rfl (d_Reader_readPart 70 234 (.return_) 1 rfl)
              · replace h := it_f hc63 h
                by_cases hc67 : r5 = 278
                · replace h := it_t hc67 h
                  refine Ak_lookup 193 (d_Reader_readPart 2 4 (.lookupswitch 225 #[(2, 198), (3, 95), (40, 76), (274, 123), (275, 142), (276, 161), (277, 180), (278, 189)]) 76 rfl) rfl (by rw [hc67]) rfl ?_
                  refine Ak_aload_n 194 0 (d_Reader_readPart 52 193 (.aload_n 0) 1 rfl) rfl rfl rfl ?_
                  refine Ak_bipush 196 (d_Reader_readPart 53 194 (.bipush (-8)) 2 rfl) rfl (bp_ok rfl) (rk rfl) ?_
                  obtain ⟨r68, V69, h70, h⟩ := bnd_some h
                  refine Ak_cV0 199 dd (hR.2.2.2.2.2.2.2 h70) rfl hO clX5 rfl mok_Reader_readPair lkM_Reader_173 (d_Reader_readPart 54 196 (.invokevirtual 173) 3 rfl) rfl (by omega) (Nat.le_of_ble_eq_true rfl) ?_
                  refine Ak_goto 234 (d_Reader_readPart 55 199 (.goto 35) 3 rfl) rfl ?_
                  cases h
                  exact Ak_vret rfl (d_Reader_readPart 70 234 (.return_) 1 rfl)
                · replace h := it_f hc67 h
                  refine Ak_lookup 229 (d_Reader_readPart 2 4 (.lookupswitch 225 #[(2, 198), (3, 95), (40, 76), (274, 123), (275, 142), (276, 161), (277, 180), (278, 189)]) 76 rfl) rfl (by rw [Op.lookupswitch.offset_cons, if_neg (fun e => hc8 e.symm), Op.lookupswitch.offset_cons, if_neg (fun e => hc13 e.symm), Op.lookupswitch.offset_cons, if_neg (fun e => hc26 e.symm), Op.lookupswitch.offset_cons, if_neg (fun e => hc36 e.symm), Op.lookupswitch.offset_cons, if_neg (fun e => hc45 e.symm), Op.lookupswitch.offset_cons, if_neg (fun e => hc54 e.symm), Op.lookupswitch.offset_cons, if_neg (fun e => hc63 e.symm), Op.lookupswitch.offset_cons, if_neg (fun e => hc67 e.symm), Op.lookupswitch.offset_nil]) rfl ?_
                  refine Ak_aload_n 230 0 (d_Reader_readPart 67 229 (.aload_n 0) 1 rfl) rfl rfl rfl ?_
                  refine Ak_iconst 231 (d_Reader_readPart 68 230 (.iconst 1) 1 rfl) rfl (rk rfl) ?_
                  obtain ⟨r71, V72, h73, h⟩ := bnd_some h
                  refine Ak_cV0 234 3 (c_Reader_fail h73) rfl hO clX5 rfl mok_Reader_fail lkM_Reader_71 (d_Reader_readPart 69 231 (.invokevirtual 71) 3 rfl) rfl (by omega) (Nat.le_of_ble_eq_true rfl) ?_
                  cases h
                  exact Ak_vret rfl (d_Reader_readPart 70 234 (.return_) 1 rfl)
theorem t_Reader_readProduct_L6 {S : ASh} {R : Nat → ASt → Int → Int → Option (Int × ASt)} {x0 : Int} (hO : isO S x0 5 = true) {dd : Nat} (hdd : 20 ≤ dd) (hR : RdOK S R dd) : ∀ (n : Nat) (V : ASt) (x1 : Int) (r : Int) (V' : ASt), b_Reader_readProduct_L6 S R x0 n V x1 = some (r, V') → AWk m_Reader_readProduct (dd + 1) 0 0 0 0 6 [some (aR x0), some (aI x1)] [] S V none S V' := by
  intro n
  induction n with
  | zero => intro V x1 r V' h; cases h
  | succ n ih =>
    intro V x1 r V' h
    replace ih : ∀ {V : ASt} {x1 : Int} {r : Int} {V' : ASt}, b_Reader_readProduct_L6 S R x0 n V x1 = some (r, V') → AWk m_Reader_readProduct (dd + 1) 0 0 0 0 6 [some (aR x0), some (aI x1)] [] S V none S V' := fun h => ih _ _ _ _ h
    rw [b_Reader_readProduct_L6] at h
    refine Ak_iload_n 7 1 (d_Reader_readProduct 4 6 (.iload_n 1) 1 rfl) rfl rfl rfl ?_
    refine Ak_sipush 10 (d_Reader_readProduct 5 7 (.sipush 1800) 3 rfl) rfl (sp_ok rfl) (rk rfl) ?_
    refine Ak_icmp_ge 51 13 (d_Reader_readProduct 6 10 (.if_icmp .ge 41) 3 rfl) rfl rfl (fun hc => ?_) (fun hc => ?_)
    · replace h := it_t hc h
      cases h
      exact Ak_vret rfl (d_Reader_readProduct 25 51 (.return_) 1 rfl)
    · replace h := it_f hc h
      refine Ak_aload_n 14 0 (d_Reader_readProduct 7 13 (.aload_n 0) 1 rfl) rfl rfl rfl ?_
      obtain ⟨r1, V2, h3, h⟩ := bnd_some h
      refine Ak_cV1 17 4 (c_Reader_factorTold h3) rfl hO clX5 rfl mok_Reader_factorTold lkM_Reader_170 (d_Reader_readProduct 8 14 (.invokevirtual 170) 3 rfl) rfl (by omega) (Nat.le_of_ble_eq_true rfl) ?_
      refine Ak_iconst 18 (d_Reader_readProduct 9 17 (.iconst (-1)) 1 rfl) rfl (rk rfl) ?_
      refine Ak_icmp_eq 51 21 (d_Reader_readProduct 10 18 (.if_icmp .eq 33) 3 rfl) rfl rfl (fun hc => ?_) (fun hc => ?_)
      · replace h := it_t hc h
        cases h
        exact Ak_vret rfl (d_Reader_readProduct 25 51 (.return_) 1 rfl)
      · replace h := it_f hc h
        refine Ak_aload_n 22 0 (d_Reader_readProduct 11 21 (.aload_n 0) 1 rfl) rfl rfl rfl ?_
        obtain ⟨r4, V5, h6, h⟩ := bnd_some h
        refine Ak_cV1 25 4 (c_Reader_factorTold h6) rfl hO clX5 rfl mok_Reader_factorTold lkM_Reader_170 (d_Reader_readProduct 12 22 (.invokevirtual 170) 3 rfl) rfl (by omega) (Nat.le_of_ble_eq_true rfl) ?_
        refine Ak_istore_n 26 2 (d_Reader_readProduct 13 25 (.istore_n 2) 1 rfl) rfl rfl (by decide) ?_
        refine Ak_aload_n 27 0 (d_Reader_readProduct 14 26 (.aload_n 0) 1 rfl) rfl rfl rfl ?_
        obtain ⟨r7, V8, h9, h⟩ := bnd_some h
        refine Ak_cV0 30 3 (c_Reader_step h9) rfl hO clX5 rfl mok_Reader_step lkM_Reader_68 (d_Reader_readProduct 15 27 (.invokevirtual 68) 3 rfl) rfl (by omega) (Nat.le_of_ble_eq_true rfl) ?_
        refine Ak_aload_n 31 0 (d_Reader_readProduct 16 30 (.aload_n 0) 1 rfl) rfl rfl rfl ?_
        obtain ⟨r10, V11, h12, h⟩ := bnd_some h
        refine Ak_cV0 34 dd (hR.2.2.2.2.2.2.1 h12) rfl hO clX5 rfl mok_Reader_readPart lkM_Reader_167 (d_Reader_readProduct 17 31 (.invokevirtual 167) 3 rfl) rfl (by omega) (Nat.le_of_ble_eq_true rfl) ?_
        refine Ak_aload_n 35 0 (d_Reader_readProduct 18 34 (.aload_n 0) 1 rfl) rfl rfl rfl ?_
        refine Ak_getR 38 4 hO clX5 (by decide) rfl lkF_Reader_31 (d_Reader_readProduct 19 35 (.getfield 31) 3 rfl) rfl ?_
        obtain ⟨hg13, h⟩ := gd_some h
        refine Ak_getF 41 5 hg13 clX1 (by decide) rfl lkF_Reader_122 (d_Reader_readProduct 20 38 (.getfield 122) 3 rfl) rfl ?_
        refine Ak_iload_n 42 2 (d_Reader_readProduct 21 41 (.iload_n 2) 1 rfl) rfl rfl rfl ?_
        obtain ⟨hg17, h⟩ := gd_some h
        obtain ⟨r14, V15, h16, h⟩ := bnd_some h
        refine Ak_cV0 45 2 (c_Tests_emit h16) rfl hg17 clX8 rfl mok_Tests_emit lkM_Reader_143 (d_Reader_readProduct 22 42 (.invokevirtual 143) 3 rfl) rfl (by omega) (Nat.le_of_ble_eq_true rfl) ?_
        refine Ak_iinc 48 (d_Reader_readProduct 23 45 (.iinc 1 1) 3 rfl) rfl rfl (by decide) ?_
        refine Ak_goto 6 (d_Reader_readProduct 24 48 (.goto (-42)) 3 rfl) rfl ?_
        refine Ak_keep [true, true] ?_
        exact ih h
theorem c_Reader_readProduct {S : ASh} {V : ASt} {x0 : Int} {r : Int} {V' : ASt} {R : Nat → ASt → Int → Int → Option (Int × ASt)} {dd : Nat} (hdd : 20 ≤ dd) (hR : RdOK S R dd) (h : f_Reader_readProduct S R V x0 = some (r, V')) : ACt m_Reader_readProduct (dd + 1) 0 0 [(aR x0)] S V none S V' := by
  unfold f_Reader_readProduct at h
  obtain ⟨hO, h⟩ := gd_some h
  refine ACt_of (plainFor_of_name rfl) rfl (Nat.le_of_ble_eq_true rfl) ?_
  show AWk m_Reader_readProduct (dd + 1) 0 0 0 0 0 [some (aR x0)] [] S V none S V'
  refine Ak_aload_n 1 0 (d_Reader_readProduct 0 0 (.aload_n 0) 1 rfl) rfl rfl rfl ?_
  obtain ⟨r18, V19, h20, h⟩ := bnd_some h
  refine Ak_cV0 4 dd (hR.2.2.2.2.2.2.1 h20) rfl hO clX5 rfl mok_Reader_readPart lkM_Reader_167 (d_Reader_readProduct 1 1 (.invokevirtual 167) 3 rfl) rfl (by omega) (Nat.le_of_ble_eq_true rfl) ?_
  refine Ak_iconst 5 (d_Reader_readProduct 2 4 (.iconst 0) 1 rfl) rfl (rk rfl) ?_
  refine Ak_istore_n 6 1 (d_Reader_readProduct 3 5 (.istore_n 1) 1 rfl) rfl rfl (by decide) ?_
  refine Ak_keep [true, true] ?_
  exact t_Reader_readProduct_L6 hO hdd hR FU _ _ _ _ h
theorem t_Reader_readSum_J47 {S : ASh} {R : Nat → ASt → Int → Int → Option (Int × ASt)} {K6 : ASt → Int → Option (Int × ASt)} {V : ASt} {x0 x1 s0 : Int} {r : Int} {V' : ASt} (hO : isO S x0 5 = true) {dd : Nat} (hdd : 20 ≤ dd) (hR : RdOK S R dd) (hK6 : ∀ {V : ASt} {y1 : Int} {r : Int} {V' : ASt}, K6 V y1 = some (r, V') → AWk m_Reader_readSum (dd + 1) 0 0 0 0 6 [some (aR x0), some (aI y1)] [] S V none S V') (h : b_Reader_readSum_J47 S R K6 V x0 x1 s0 = some (r, V')) : AWk m_Reader_readSum (dd + 1) 0 0 0 0 47 [some (aR x0), some (aI x1)] [(aI s0)] S V none S V' := by
  unfold b_Reader_readSum_J47 at h
  refine Ak_istore_n 48 2 (d_Reader_readSum 22 47 (.istore_n 2) 1 rfl) rfl rfl (by decide) ?_
  refine Ak_aload_n 49 0 (d_Reader_readSum 23 48 (.aload_n 0) 1 rfl) rfl rfl rfl ?_
  obtain ⟨r1, V2, h3, h⟩ := bnd_some h
  refine Ak_cV0 52 3 (c_Reader_step h3) rfl hO clX5 rfl mok_Reader_step lkM_Reader_68 (d_Reader_readSum 24 49 (.invokevirtual 68) 3 rfl) rfl (by omega) (Nat.le_of_ble_eq_true rfl) ?_
  refine Ak_aload_n 53 0 (d_Reader_readSum 25 52 (.aload_n 0) 1 rfl) rfl rfl rfl ?_
  obtain ⟨r4, V5, h6, h⟩ := bnd_some h
  refine Ak_cV0 56 dd (hR.2.2.2.2.2.1 h6) rfl hO clX5 rfl mok_Reader_readProduct lkM_Reader_164 (d_Reader_readSum 26 53 (.invokevirtual 164) 3 rfl) rfl (by omega) (Nat.le_of_ble_eq_true rfl) ?_
  refine Ak_aload_n 57 0 (d_Reader_readSum 27 56 (.aload_n 0) 1 rfl) rfl rfl rfl ?_
  refine Ak_getR 60 4 hO clX5 (by decide) rfl lkF_Reader_31 (d_Reader_readSum 28 57 (.getfield 31) 3 rfl) rfl ?_
  obtain ⟨hg7, h⟩ := gd_some h
  refine Ak_getF 63 5 hg7 clX1 (by decide) rfl lkF_Reader_122 (d_Reader_readSum 29 60 (.getfield 122) 3 rfl) rfl ?_
  refine Ak_iload_n 64 2 (d_Reader_readSum 30 63 (.iload_n 2) 1 rfl) rfl rfl rfl ?_
  obtain ⟨hg11, h⟩ := gd_some h
  obtain ⟨r8, V9, h10, h⟩ := bnd_some h
  refine Ak_cV0 67 2 (c_Tests_emit h10) rfl hg11 clX8 rfl mok_Tests_emit lkM_Reader_143 (d_Reader_readSum 31 64 (.invokevirtual 143) 3 rfl) rfl (by omega) (Nat.le_of_ble_eq_true rfl) ?_
  refine Ak_iinc 70 (d_Reader_readSum 32 67 (.iinc 1 1) 3 rfl) rfl rfl (by decide) ?_
  refine Ak_goto 6 (d_Reader_readSum 33 70 (.goto (-64)) 3 rfl) rfl ?_
  refine Ak_keep [true, true] ?_
  exact hK6 h
theorem t_Reader_readSum_J31 {S : ASh} {R : Nat → ASt → Int → Int → Option (Int × ASt)} {K6 : ASt → Int → Option (Int × ASt)} {V : ASt} {x0 x1 : Int} {r : Int} {V' : ASt} (hO : isO S x0 5 = true) {dd : Nat} (hdd : 20 ≤ dd) (hR : RdOK S R dd) (hK6 : ∀ {V : ASt} {y1 : Int} {r : Int} {V' : ASt}, K6 V y1 = some (r, V') → AWk m_Reader_readSum (dd + 1) 0 0 0 0 6 [some (aR x0), some (aI y1)] [] S V none S V') (h : b_Reader_readSum_J31 S R K6 V x0 x1 = some (r, V')) : AWk m_Reader_readSum (dd + 1) 0 0 0 0 31 [some (aR x0), some (aI x1)] [] S V none S V' := by
  unfold b_Reader_readSum_J31 at h
  refine Ak_aload_n 32 0 (d_Reader_readSum 15 31 (.aload_n 0) 1 rfl) rfl rfl rfl ?_
  obtain ⟨r12, V13, h14, h⟩ := bnd_some h
  refine Ak_cV1 35 3 (c_Reader_type h14) rfl hO clX5 rfl mok_Reader_type lkM_Reader_51 (d_Reader_readSum 16 32 (.invokevirtual 51) 3 rfl) rfl (by omega) (Nat.le_of_ble_eq_true rfl) ?_
  refine Ak_bipush 37 (d_Reader_readSum 17 35 (.bipush 43) 2 rfl) rfl (bp_ok rfl) (rk rfl) ?_
  refine Ak_icmp_ne 45 40 (d_Reader_readSum 18 37 (.if_icmp .ne 8) 3 rfl) rfl rfl (fun hc => ?_) (fun hc => ?_)
  · replace h := it_f hc h
    refine Ak_bipush 47 (d_Reader_readSum 21 45 (.bipush (-3)) 2 rfl) rfl (bp_ok rfl) (rk rfl) ?_
    refine Ak_keep [true, true] ?_
    exact t_Reader_readSum_J47 hO hdd hR (fun h => hK6 h) h
  · replace h := it_t hc h
    refine Ak_bipush 42 (d_Reader_readSum 19 40 (.bipush (-2)) 2 rfl) rfl (bp_ok rfl) (rk rfl) ?_
    refine Ak_goto 47 (d_Reader_readSum 20 42 (.goto 5) 3 rfl) rfl ?_
    refine Ak_keep [true, true] ?_
    exact t_Reader_readSum_J47 hO hdd hR (fun h => hK6 h) h
theorem t_Reader_readSum_L6 {S : ASh} {R : Nat → ASt → Int → Int → Option (Int × ASt)} {x0 : Int} (hO : isO S x0 5 = true) {dd : Nat} (hdd : 20 ≤ dd) (hR : RdOK S R dd) : ∀ (n : Nat) (V : ASt) (x1 : Int) (r : Int) (V' : ASt), b_Reader_readSum_L6 S R x0 n V x1 = some (r, V') → AWk m_Reader_readSum (dd + 1) 0 0 0 0 6 [some (aR x0), some (aI x1)] [] S V none S V' := by
  intro n
  induction n with
  | zero => intro V x1 r V' h; cases h
  | succ n ih =>
    intro V x1 r V' h
    replace ih : ∀ {V : ASt} {x1 : Int} {r : Int} {V' : ASt}, b_Reader_readSum_L6 S R x0 n V x1 = some (r, V') → AWk m_Reader_readSum (dd + 1) 0 0 0 0 6 [some (aR x0), some (aI x1)] [] S V none S V' := fun h => ih _ _ _ _ h
    rw [b_Reader_readSum_L6] at h
    refine Ak_iload_n 7 1 (d_Reader_readSum 4 6 (.iload_n 1) 1 rfl) rfl rfl rfl ?_
    refine Ak_sipush 10 (d_Reader_readSum 5 7 (.sipush 1800) 3 rfl) rfl (sp_ok rfl) (rk rfl) ?_
    refine Ak_icmp_ge 73 13 (d_Reader_readSum 6 10 (.if_icmp .ge 63) 3 rfl) rfl rfl (fun hc => ?_) (fun hc => ?_)
    · replace h := it_t hc h
      cases h
      exact Ak_vret rfl (d_Reader_readSum 34 73 (.return_) 1 rfl)
    · replace h := it_f hc h
      refine Ak_aload_n 14 0 (d_Reader_readSum 7 13 (.aload_n 0) 1 rfl) rfl rfl rfl ?_
      obtain ⟨r15, V16, h17, h⟩ := bnd_some h
      refine Ak_cV1 17 3 (c_Reader_type h17) rfl hO clX5 rfl mok_Reader_type lkM_Reader_51 (d_Reader_readSum 8 14 (.invokevirtual 51) 3 rfl) rfl (by omega) (Nat.le_of_ble_eq_true rfl) ?_
      refine Ak_bipush 19 (d_Reader_readSum 9 17 (.bipush 43) 2 rfl) rfl (bp_ok rfl) (rk rfl) ?_
      refine Ak_icmp_eq 31 22 (d_Reader_readSum 10 19 (.if_icmp .eq 12) 3 rfl) rfl rfl (fun hc => ?_) (fun hc => ?_)
      · replace h := it_t hc h
        refine Ak_keep [true, true] ?_
        exact t_Reader_readSum_J31 hO hdd hR (fun h => ih h) h
      · replace h := it_f hc h
        refine Ak_aload_n 23 0 (d_Reader_readSum 11 22 (.aload_n 0) 1 rfl) rfl rfl rfl ?_
        obtain ⟨r18, V19, h20, h⟩ := bnd_some h
        refine Ak_cV1 26 3 (c_Reader_type h20) rfl hO clX5 rfl mok_Reader_type lkM_Reader_51 (d_Reader_readSum 12 23 (.invokevirtual 51) 3 rfl) rfl (by omega) (Nat.le_of_ble_eq_true rfl) ?_
        refine Ak_bipush 28 (d_Reader_readSum 13 26 (.bipush 45) 2 rfl) rfl (bp_ok rfl) (rk rfl) ?_
        refine Ak_icmp_ne 73 31 (d_Reader_readSum 14 28 (.if_icmp .ne 45) 3 rfl) rfl rfl (fun hc => ?_) (fun hc => ?_)
        · replace h := it_f hc h
          cases h
          exact Ak_vret rfl (d_Reader_readSum 34 73 (.return_) 1 rfl)
        · replace h := it_t hc h
          refine Ak_keep [true, true] ?_
          exact t_Reader_readSum_J31 hO hdd hR (fun h => ih h) h
theorem c_Reader_readSum {S : ASh} {V : ASt} {x0 : Int} {r : Int} {V' : ASt} {R : Nat → ASt → Int → Int → Option (Int × ASt)} {dd : Nat} (hdd : 20 ≤ dd) (hR : RdOK S R dd) (h : f_Reader_readSum S R V x0 = some (r, V')) : ACt m_Reader_readSum (dd + 1) 0 0 [(aR x0)] S V none S V' := by
  unfold f_Reader_readSum at h
  obtain ⟨hO, h⟩ := gd_some h
  refine ACt_of (plainFor_of_name rfl) rfl (Nat.le_of_ble_eq_true rfl) ?_
  show AWk m_Reader_readSum (dd + 1) 0 0 0 0 0 [some (aR x0)] [] S V none S V'
  refine Ak_aload_n 1 0 (d_Reader_readSum 0 0 (.aload_n 0) 1 rfl) rfl rfl rfl ?_
  obtain ⟨r21, V22, h23, h⟩ := bnd_some h
  refine Ak_cV0 4 dd (hR.2.2.2.2.2.1 h23) rfl hO clX5 rfl mok_Reader_readProduct lkM_Reader_164 (d_Reader_readSum 1 1 (.invokevirtual 164) 3 rfl) rfl (by omega) (Nat.le_of_ble_eq_true rfl) ?_
  refine Ak_iconst 5 (d_Reader_readSum 2 4 (.iconst 0) 1 rfl) rfl (rk rfl) ?_
  refine Ak_istore_n 6 1 (d_Reader_readSum 3 5 (.istore_n 1) 1 rfl) rfl rfl (by decide) ?_
  refine Ak_keep [true, true] ?_
  exact t_Reader_readSum_L6 hO hdd hR FU _ _ _ _ h
theorem c_Reader_readComparison {S : ASh} {V : ASt} {x0 : Int} {r : Int} {V' : ASt} {R : Nat → ASt → Int → Int → Option (Int × ASt)} {dd : Nat} (hdd : 20 ≤ dd) (hR : RdOK S R dd) (h : f_Reader_readComparison S R V x0 = some (r, V')) : ACt m_Reader_readComparison (dd + 1) 0 0 [(aR x0)] S V none S V' := by
  unfold f_Reader_readComparison at h
  obtain ⟨hO, h⟩ := gd_some h
  refine ACt_of (plainFor_of_name rfl) rfl (Nat.le_of_ble_eq_true rfl) ?_
  show AWk m_Reader_readComparison (dd + 1) 0 0 0 0 0 [some (aR x0)] [] S V none S V'
  refine Ak_aload_n 1 0 (d_Reader_readComparison 0 0 (.aload_n 0) 1 rfl) rfl rfl rfl ?_
  obtain ⟨r1, V2, h3, h⟩ := bnd_some h
  refine Ak_cV0 4 dd (hR.2.2.2.2.1 h3) rfl hO clX5 rfl mok_Reader_readSum lkM_Reader_158 (d_Reader_readComparison 1 1 (.invokevirtual 158) 3 rfl) rfl (by omega) (Nat.le_of_ble_eq_true rfl) ?_
  refine Ak_aload_n 5 0 (d_Reader_readComparison 2 4 (.aload_n 0) 1 rfl) rfl rfl rfl ?_
  obtain ⟨r4, V5, h6, h⟩ := bnd_some h
  refine Ak_cV1 8 4 (c_Reader_comparisonTold h6) rfl hO clX5 rfl mok_Reader_comparisonTold lkM_Reader_161 (d_Reader_readComparison 3 5 (.invokevirtual 161) 3 rfl) rfl (by omega) (Nat.le_of_ble_eq_true rfl) ?_
  refine Ak_istore_n 9 1 (d_Reader_readComparison 4 8 (.istore_n 1) 1 rfl) rfl rfl (by decide) ?_
  refine Ak_iload_n 10 1 (d_Reader_readComparison 5 9 (.iload_n 1) 1 rfl) rfl rfl rfl ?_
  refine Ak_iconst 11 (d_Reader_readComparison 6 10 (.iconst (-1)) 1 rfl) rfl (rk rfl) ?_
  refine Ak_icmp_ne 20 14 (d_Reader_readComparison 7 11 (.if_icmp .ne 9) 3 rfl) rfl rfl (fun hc => ?_) (fun hc => ?_)
  · replace h := it_f hc h
    refine Ak_aload_n 21 0 (d_Reader_readComparison 12 20 (.aload_n 0) 1 rfl) rfl rfl rfl ?_
    obtain ⟨r7, V8, h9, h⟩ := bnd_some h
    refine Ak_cV0 24 3 (c_Reader_step h9) rfl hO clX5 rfl mok_Reader_step lkM_Reader_68 (d_Reader_readComparison 13 21 (.invokevirtual 68) 3 rfl) rfl (by omega) (Nat.le_of_ble_eq_true rfl) ?_
    refine Ak_aload_n 25 0 (d_Reader_readComparison 14 24 (.aload_n 0) 1 rfl) rfl rfl rfl ?_
    obtain ⟨r10, V11, h12, h⟩ := bnd_some h
    refine Ak_cV0 28 dd (hR.2.2.2.2.1 h12) rfl hO clX5 rfl mok_Reader_readSum lkM_Reader_158 (d_Reader_readComparison 15 25 (.invokevirtual 158) 3 rfl) rfl (by omega) (Nat.le_of_ble_eq_true rfl) ?_
    refine Ak_aload_n 29 0 (d_Reader_readComparison 16 28 (.aload_n 0) 1 rfl) rfl rfl rfl ?_
    refine Ak_getR 32 4 hO clX5 (by decide) rfl lkF_Reader_31 (d_Reader_readComparison 17 29 (.getfield 31) 3 rfl) rfl ?_
    obtain ⟨hg13, h⟩ := gd_some h
    refine Ak_getF 35 5 hg13 clX1 (by decide) rfl lkF_Reader_122 (d_Reader_readComparison 18 32 (.getfield 122) 3 rfl) rfl ?_
    refine Ak_iload_n 36 1 (d_Reader_readComparison 19 35 (.iload_n 1) 1 rfl) rfl rfl rfl ?_
    obtain ⟨hg17, h⟩ := gd_some h
    obtain ⟨r14, V15, h16, h⟩ := bnd_some h
    refine Ak_cV0 39 2 (c_Tests_emit h16) rfl hg17 clX8 rfl mok_Tests_emit lkM_Reader_143 (d_Reader_readComparison 20 36 (.invokevirtual 143) 3 rfl) rfl (by omega) (Nat.le_of_ble_eq_true rfl) ?_
    cases h
    exact Ak_vret rfl (d_Reader_readComparison 21 39 (.return_) 1 rfl)
  · replace h := it_t hc h
    refine Ak_aload_n 15 0 (d_Reader_readComparison 8 14 (.aload_n 0) 1 rfl) rfl rfl rfl ?_
    refine Ak_iconst 16 (d_Reader_readComparison 9 15 (.iconst 1) 1 rfl) rfl (rk rfl) ?_
    obtain ⟨r18, V19, h20, h⟩ := bnd_some h
    refine Ak_cV0 19 3 (c_Reader_fail h20) rfl hO clX5 rfl mok_Reader_fail lkM_Reader_71 (d_Reader_readComparison 10 16 (.invokevirtual 71) 3 rfl) rfl (by omega) (Nat.le_of_ble_eq_true rfl) ?_
    cases h
    exact Ak_vret rfl (d_Reader_readComparison 11 19 (.return_) 1 rfl)
theorem t_Reader_readFact_J101 {S : ASh} {R : Nat → ASt → Int → Int → Option (Int × ASt)} {V : ASt} {x0 x1 : Int} {r : Int} {V' : ASt} (hO : isO S x0 5 = true) {dd : Nat} (hdd : 20 ≤ dd) (hR : RdOK S R dd) (h : b_Reader_readFact_J101 S R V x0 x1 = some (r, V')) : AWk m_Reader_readFact (dd + 1) 0 0 0 0 101 [some (aR x0), some (aI x1)] [] S V none S V' := by
  unfold b_Reader_readFact_J101 at h
  refine Ak_iload_n 102 1 (d_Reader_readFact 48 101 (.iload_n 1) 1 rfl) rfl rfl rfl ?_
  refine Ak_if_eq 117 105 (d_Reader_readFact 49 102 (.ifCond .eq 15) 3 rfl) rfl rfl (fun hc => ?_) (fun hc => ?_)
  · replace h := it_t hc h
    cases h
    exact Ak_vret rfl (d_Reader_readFact 55 117 (.return_) 1 rfl)
  · replace h := it_f hc h
    refine Ak_aload_n 106 0 (d_Reader_readFact 50 105 (.aload_n 0) 1 rfl) rfl rfl rfl ?_
    refine Ak_getR 109 4 hO clX5 (by decide) rfl lkF_Reader_31 (d_Reader_readFact 51 106 (.getfield 31) 3 rfl) rfl ?_
    obtain ⟨hg1, h⟩ := gd_some h
    refine Ak_getF 112 5 hg1 clX1 (by decide) rfl lkF_Reader_122 (d_Reader_readFact 52 109 (.getfield 122) 3 rfl) rfl ?_
    refine Ak_bipush 114 (d_Reader_readFact 53 112 (.bipush (-14)) 2 rfl) rfl (bp_ok rfl) (rk rfl) ?_
    obtain ⟨hg5, h⟩ := gd_some h
    obtain ⟨r2, V3, h4, h⟩ := bnd_some h
    refine Ak_cV0 117 2 (c_Tests_emit h4) rfl hg5 clX8 rfl mok_Tests_emit lkM_Reader_143 (d_Reader_readFact 54 114 (.invokevirtual 143) 3 rfl) rfl (by omega) (Nat.le_of_ble_eq_true rfl) ?_
    cases h
    exact Ak_vret rfl (d_Reader_readFact 55 117 (.return_) 1 rfl)
theorem t_Reader_readFact_J41 {S : ASh} {R : Nat → ASt → Int → Int → Option (Int × ASt)} {V : ASt} {x0 x1 : Int} {r : Int} {V' : ASt} (hO : isO S x0 5 = true) {dd : Nat} (hdd : 20 ≤ dd) (hR : RdOK S R dd) (h : b_Reader_readFact_J41 S R V x0 x1 = some (r, V')) : AWk m_Reader_readFact (dd + 1) 0 0 0 0 41 [some (aR x0), some (aI x1)] [] S V none S V' := by
  unfold b_Reader_readFact_J41 at h
  refine Ak_aload_n 42 0 (d_Reader_readFact 21 41 (.aload_n 0) 1 rfl) rfl rfl rfl ?_
  obtain ⟨r6, V7, h8, h⟩ := bnd_some h
  refine Ak_cV1 45 3 (c_Reader_type h8) rfl hO clX5 rfl mok_Reader_type lkM_Reader_51 (d_Reader_readFact 22 42 (.invokevirtual 51) 3 rfl) rfl (by omega) (Nat.le_of_ble_eq_true rfl) ?_
  refine Ak_bipush 47 (d_Reader_readFact 23 45 (.bipush 91) 2 rfl) rfl (bp_ok rfl) (rk rfl) ?_
  refine Ak_icmp_ne 69 50 (d_Reader_readFact 24 47 (.if_icmp .ne 22) 3 rfl) rfl rfl (fun hc => ?_) (fun hc => ?_)
  · replace h := it_f hc h
    refine Ak_aload_n 70 0 (d_Reader_readFact 34 69 (.aload_n 0) 1 rfl) rfl rfl rfl ?_
    obtain ⟨r9, V10, h11, h⟩ := bnd_some h
    refine Ak_cV1 73 3 (c_Reader_type h11) rfl hO clX5 rfl mok_Reader_type lkM_Reader_51 (d_Reader_readFact 35 70 (.invokevirtual 51) 3 rfl) rfl (by omega) (Nat.le_of_ble_eq_true rfl) ?_
    refine Ak_sipush 76 (d_Reader_readFact 36 73 (.sipush 273) 3 rfl) rfl (sp_ok rfl) (rk rfl) ?_
    refine Ak_icmp_ne 97 79 (d_Reader_readFact 37 76 (.if_icmp .ne 21) 3 rfl) rfl rfl (fun hc => ?_) (fun hc => ?_)
    · replace h := it_f hc h
      refine Ak_aload_n 98 0 (d_Reader_readFact 46 97 (.aload_n 0) 1 rfl) rfl rfl rfl ?_
      obtain ⟨r12, V13, h14, h⟩ := bnd_some h
      refine Ak_cV0 101 dd (hR.2.2.2.1 h14) rfl hO clX5 rfl mok_Reader_readComparison lkM_Reader_155 (d_Reader_readFact 47 98 (.invokevirtual 155) 3 rfl) rfl (by omega) (Nat.le_of_ble_eq_true rfl) ?_
      refine Ak_keep [true, true] ?_
      exact t_Reader_readFact_J101 hO hdd hR h
    · replace h := it_t hc h
      refine Ak_aload_n 80 0 (d_Reader_readFact 38 79 (.aload_n 0) 1 rfl) rfl rfl rfl ?_
      obtain ⟨r15, V16, h17, h⟩ := bnd_some h
      refine Ak_cV0 83 3 (c_Reader_step h17) rfl hO clX5 rfl mok_Reader_step lkM_Reader_68 (d_Reader_readFact 39 80 (.invokevirtual 68) 3 rfl) rfl (by omega) (Nat.le_of_ble_eq_true rfl) ?_
      refine Ak_aload_n 84 0 (d_Reader_readFact 40 83 (.aload_n 0) 1 rfl) rfl rfl rfl ?_
      refine Ak_getR 87 4 hO clX5 (by decide) rfl lkF_Reader_31 (d_Reader_readFact 41 84 (.getfield 31) 3 rfl) rfl ?_
      obtain ⟨hg18, h⟩ := gd_some h
      refine Ak_getF 90 5 hg18 clX1 (by decide) rfl lkF_Reader_122 (d_Reader_readFact 42 87 (.getfield 122) 3 rfl) rfl ?_
      refine Ak_iconst 91 (d_Reader_readFact 43 90 (.iconst 1) 1 rfl) rfl (rk rfl) ?_
      obtain ⟨hg22, h⟩ := gd_some h
      obtain ⟨r19, V20, h21, h⟩ := bnd_some h
      refine Ak_cV0 94 2 (c_Tests_emit h21) rfl hg22 clX8 rfl mok_Tests_emit lkM_Reader_143 (d_Reader_readFact 44 91 (.invokevirtual 143) 3 rfl) rfl (by omega) (Nat.le_of_ble_eq_true rfl) ?_
      refine Ak_goto 101 (d_Reader_readFact 45 94 (.goto 7) 3 rfl) rfl ?_
      refine Ak_keep [true, true] ?_
      exact t_Reader_readFact_J101 hO hdd hR h
  · replace h := it_t hc h
    refine Ak_aload_n 51 0 (d_Reader_readFact 25 50 (.aload_n 0) 1 rfl) rfl rfl rfl ?_
    refine Ak_bipush 53 (d_Reader_readFact 26 51 (.bipush 91) 2 rfl) rfl (bp_ok rfl) (rk rfl) ?_
    obtain ⟨r23, V24, h25, h⟩ := bnd_some h
    refine Ak_cV0 56 5 (c_Reader_openBracket h25) rfl hO clX5 rfl mok_Reader_openBracket lkM_Reader_149 (d_Reader_readFact 27 53 (.invokevirtual 149) 3 rfl) rfl (by omega) (Nat.le_of_ble_eq_true rfl) ?_
    refine Ak_aload_n 57 0 (d_Reader_readFact 28 56 (.aload_n 0) 1 rfl) rfl rfl rfl ?_
    obtain ⟨r26, V27, h28, h⟩ := bnd_some h
    refine Ak_cV0 60 dd (hR.1 h28) rfl hO clX5 rfl mok_Reader_readTest lkM_Reader_119 (d_Reader_readFact 29 57 (.invokevirtual 119) 3 rfl) rfl (by omega) (Nat.le_of_ble_eq_true rfl) ?_
    refine Ak_aload_n 61 0 (d_Reader_readFact 30 60 (.aload_n 0) 1 rfl) rfl rfl rfl ?_
    refine Ak_bipush 63 (d_Reader_readFact 31 61 (.bipush 93) 2 rfl) rfl (bp_ok rfl) (rk rfl) ?_
    obtain ⟨r29, V30, h31, h⟩ := bnd_some h
    refine Ak_cV0 66 5 (c_Reader_closeBracket h31) rfl hO clX5 rfl mok_Reader_closeBracket lkM_Reader_152 (d_Reader_readFact 32 63 (.invokevirtual 152) 3 rfl) rfl (by omega) (Nat.le_of_ble_eq_true rfl) ?_
    refine Ak_goto 101 (d_Reader_readFact 33 66 (.goto 35) 3 rfl) rfl ?_
    refine Ak_keep [true, true] ?_
    exact t_Reader_readFact_J101 hO hdd hR h
theorem t_Reader_readFact_L4 {S : ASh} {R : Nat → ASt → Int → Int → Option (Int × ASt)} {x0 : Int} (hO : isO S x0 5 = true) {dd : Nat} (hdd : 20 ≤ dd) (hR : RdOK S R dd) : ∀ (n : Nat) (V : ASt) (x1 x2 : Int) (r : Int) (V' : ASt), b_Reader_readFact_L4 S R x0 n V x1 x2 = some (r, V') → AWk m_Reader_readFact (dd + 1) 0 0 0 0 4 [some (aR x0), some (aI x1), some (aI x2)] [] S V none S V' := by
  intro n
  induction n with
  | zero => intro V x1 x2 r V' h; cases h
  | succ n ih =>
    intro V x1 x2 r V' h
    replace ih : ∀ {V : ASt} {x1 x2 : Int} {r : Int} {V' : ASt}, b_Reader_readFact_L4 S R x0 n V x1 x2 = some (r, V') → AWk m_Reader_readFact (dd + 1) 0 0 0 0 4 [some (aR x0), some (aI x1), some (aI x2)] [] S V none S V' := fun h => ih _ _ _ _ _ h
    rw [b_Reader_readFact_L4] at h
    refine Ak_iload_n 5 2 (d_Reader_readFact 4 4 (.iload_n 2) 1 rfl) rfl rfl rfl ?_
    refine Ak_sipush 8 (d_Reader_readFact 5 5 (.sipush 1800) 3 rfl) rfl (sp_ok rfl) (rk rfl) ?_
    refine Ak_icmp_ge 41 11 (d_Reader_readFact 6 8 (.if_icmp .ge 33) 3 rfl) rfl rfl (fun hc => ?_) (fun hc => ?_)
    · replace h := it_t hc h
      refine Ak_keep [true, true] ?_
      exact t_Reader_readFact_J41 hO hdd hR h
    · replace h := it_f hc h
      refine Ak_aload_n 12 0 (d_Reader_readFact 7 11 (.aload_n 0) 1 rfl) rfl rfl rfl ?_
      obtain ⟨r32, V33, h34, h⟩ := bnd_some h
      refine Ak_cV1 15 3 (c_Reader_type h34) rfl hO clX5 rfl mok_Reader_type lkM_Reader_51 (d_Reader_readFact 8 12 (.invokevirtual 51) 3 rfl) rfl (by omega) (Nat.le_of_ble_eq_true rfl) ?_
      refine Ak_sipush 18 (d_Reader_readFact 9 15 (.sipush 266) 3 rfl) rfl (sp_ok rfl) (rk rfl) ?_
      refine Ak_icmp_ne 41 21 (d_Reader_readFact 10 18 (.if_icmp .ne 23) 3 rfl) rfl rfl (fun hc => ?_) (fun hc => ?_)
      · replace h := it_f hc h
        refine Ak_keep [true, true] ?_
        exact t_Reader_readFact_J41 hO hdd hR h
      · replace h := it_t hc h
        refine Ak_aload_n 22 0 (d_Reader_readFact 11 21 (.aload_n 0) 1 rfl) rfl rfl rfl ?_
        obtain ⟨r35, V36, h37, h⟩ := bnd_some h
        refine Ak_cV0 25 3 (c_Reader_step h37) rfl hO clX5 rfl mok_Reader_step lkM_Reader_68 (d_Reader_readFact 12 22 (.invokevirtual 68) 3 rfl) rfl (by omega) (Nat.le_of_ble_eq_true rfl) ?_
        refine Ak_iload_n 26 1 (d_Reader_readFact 13 25 (.iload_n 1) 1 rfl) rfl rfl rfl ?_
        refine Ak_if_ne 33 29 (d_Reader_readFact 14 26 (.ifCond .ne 7) 3 rfl) rfl rfl (fun hc => ?_) (fun hc => ?_)
        · replace h := it_f hc h
          refine Ak_iconst 34 (d_Reader_readFact 17 33 (.iconst 0) 1 rfl) rfl (rk rfl) ?_
          refine Ak_istore_n 35 1 (d_Reader_readFact 18 34 (.istore_n 1) 1 rfl) rfl rfl (by decide) ?_
          refine Ak_iinc 38 (d_Reader_readFact 19 35 (.iinc 2 1) 3 rfl) rfl rfl (by decide) ?_
          refine Ak_goto 4 (d_Reader_readFact 20 38 (.goto (-34)) 3 rfl) rfl ?_
          refine Ak_keep [true, true, true] ?_
          exact ih h
        · replace h := it_t hc h
          refine Ak_iconst 30 (d_Reader_readFact 15 29 (.iconst 1) 1 rfl) rfl (rk rfl) ?_
          refine Ak_goto 34 (d_Reader_readFact 16 30 (.goto 4) 3 rfl) rfl ?_
          refine Ak_istore_n 35 1 (d_Reader_readFact 18 34 (.istore_n 1) 1 rfl) rfl rfl (by decide) ?_
          refine Ak_iinc 38 (d_Reader_readFact 19 35 (.iinc 2 1) 3 rfl) rfl rfl (by decide) ?_
          refine Ak_goto 4 (d_Reader_readFact 20 38 (.goto (-34)) 3 rfl) rfl ?_
          refine Ak_keep [true, true, true] ?_
          exact ih h
theorem c_Reader_readFact {S : ASh} {V : ASt} {x0 : Int} {r : Int} {V' : ASt} {R : Nat → ASt → Int → Int → Option (Int × ASt)} {dd : Nat} (hdd : 20 ≤ dd) (hR : RdOK S R dd) (h : f_Reader_readFact S R V x0 = some (r, V')) : ACt m_Reader_readFact (dd + 1) 0 0 [(aR x0)] S V none S V' := by
  unfold f_Reader_readFact at h
  obtain ⟨hO, h⟩ := gd_some h
  refine ACt_of (plainFor_of_name rfl) rfl (Nat.le_of_ble_eq_true rfl) ?_
  show AWk m_Reader_readFact (dd + 1) 0 0 0 0 0 [some (aR x0)] [] S V none S V'
  refine Ak_iconst 1 (d_Reader_readFact 0 0 (.iconst 0) 1 rfl) rfl (rk rfl) ?_
  refine Ak_istore_n 2 1 (d_Reader_readFact 1 1 (.istore_n 1) 1 rfl) rfl rfl (by decide) ?_
  refine Ak_iconst 3 (d_Reader_readFact 2 2 (.iconst 0) 1 rfl) rfl (rk rfl) ?_
  refine Ak_istore_n 4 2 (d_Reader_readFact 3 3 (.istore_n 2) 1 rfl) rfl rfl (by decide) ?_
  refine Ak_keep [true, true, true] ?_
  exact t_Reader_readFact_L4 hO hdd hR FU _ _ _ _ _ h
theorem t_Reader_readBoth_L6 {S : ASh} {R : Nat → ASt → Int → Int → Option (Int × ASt)} {x0 : Int} (hO : isO S x0 5 = true) {dd : Nat} (hdd : 20 ≤ dd) (hR : RdOK S R dd) : ∀ (n : Nat) (V : ASt) (x1 : Int) (r : Int) (V' : ASt), b_Reader_readBoth_L6 S R x0 n V x1 = some (r, V') → AWk m_Reader_readBoth (dd + 1) 0 0 0 0 6 [some (aR x0), some (aI x1)] [] S V none S V' := by
  intro n
  induction n with
  | zero => intro V x1 r V' h; cases h
  | succ n ih =>
    intro V x1 r V' h
    replace ih : ∀ {V : ASt} {x1 : Int} {r : Int} {V' : ASt}, b_Reader_readBoth_L6 S R x0 n V x1 = some (r, V') → AWk m_Reader_readBoth (dd + 1) 0 0 0 0 6 [some (aR x0), some (aI x1)] [] S V none S V' := fun h => ih _ _ _ _ h
    rw [b_Reader_readBoth_L6] at h
    refine Ak_iload_n 7 1 (d_Reader_readBoth 4 6 (.iload_n 1) 1 rfl) rfl rfl rfl ?_
    refine Ak_sipush 10 (d_Reader_readBoth 5 7 (.sipush 1800) 3 rfl) rfl (sp_ok rfl) (rk rfl) ?_
    refine Ak_icmp_ge 49 13 (d_Reader_readBoth 6 10 (.if_icmp .ge 39) 3 rfl) rfl rfl (fun hc => ?_) (fun hc => ?_)
    · replace h := it_t hc h
      cases h
      exact Ak_vret rfl (d_Reader_readBoth 22 49 (.return_) 1 rfl)
    · replace h := it_f hc h
      refine Ak_aload_n 14 0 (d_Reader_readBoth 7 13 (.aload_n 0) 1 rfl) rfl rfl rfl ?_
      obtain ⟨r1, V2, h3, h⟩ := bnd_some h
      refine Ak_cV1 17 3 (c_Reader_type h3) rfl hO clX5 rfl mok_Reader_type lkM_Reader_51 (d_Reader_readBoth 8 14 (.invokevirtual 51) 3 rfl) rfl (by omega) (Nat.le_of_ble_eq_true rfl) ?_
      refine Ak_sipush 20 (d_Reader_readBoth 9 17 (.sipush 272) 3 rfl) rfl (sp_ok rfl) (rk rfl) ?_
      refine Ak_icmp_ne 49 23 (d_Reader_readBoth 10 20 (.if_icmp .ne 29) 3 rfl) rfl rfl (fun hc => ?_) (fun hc => ?_)
      · replace h := it_f hc h
        cases h
        exact Ak_vret rfl (d_Reader_readBoth 22 49 (.return_) 1 rfl)
      · replace h := it_t hc h
        refine Ak_aload_n 24 0 (d_Reader_readBoth 11 23 (.aload_n 0) 1 rfl) rfl rfl rfl ?_
        obtain ⟨r4, V5, h6, h⟩ := bnd_some h
        refine Ak_cV0 27 3 (c_Reader_step h6) rfl hO clX5 rfl mok_Reader_step lkM_Reader_68 (d_Reader_readBoth 12 24 (.invokevirtual 68) 3 rfl) rfl (by omega) (Nat.le_of_ble_eq_true rfl) ?_
        refine Ak_aload_n 28 0 (d_Reader_readBoth 13 27 (.aload_n 0) 1 rfl) rfl rfl rfl ?_
        obtain ⟨r7, V8, h9, h⟩ := bnd_some h
        refine Ak_cV0 31 dd (hR.2.2.1 h9) rfl hO clX5 rfl mok_Reader_readFact lkM_Reader_146 (d_Reader_readBoth 14 28 (.invokevirtual 146) 3 rfl) rfl (by omega) (Nat.le_of_ble_eq_true rfl) ?_
        refine Ak_aload_n 32 0 (d_Reader_readBoth 15 31 (.aload_n 0) 1 rfl) rfl rfl rfl ?_
        refine Ak_getR 35 4 hO clX5 (by decide) rfl lkF_Reader_31 (d_Reader_readBoth 16 32 (.getfield 31) 3 rfl) rfl ?_
        obtain ⟨hg10, h⟩ := gd_some h
        refine Ak_getF 38 5 hg10 clX1 (by decide) rfl lkF_Reader_122 (d_Reader_readBoth 17 35 (.getfield 122) 3 rfl) rfl ?_
        refine Ak_bipush 40 (d_Reader_readBoth 18 38 (.bipush (-12)) 2 rfl) rfl (bp_ok rfl) (rk rfl) ?_
        obtain ⟨hg14, h⟩ := gd_some h
        obtain ⟨r11, V12, h13, h⟩ := bnd_some h
        refine Ak_cV0 43 2 (c_Tests_emit h13) rfl hg14 clX8 rfl mok_Tests_emit lkM_Reader_143 (d_Reader_readBoth 19 40 (.invokevirtual 143) 3 rfl) rfl (by omega) (Nat.le_of_ble_eq_true rfl) ?_
        refine Ak_iinc 46 (d_Reader_readBoth 20 43 (.iinc 1 1) 3 rfl) rfl rfl (by decide) ?_
        refine Ak_goto 6 (d_Reader_readBoth 21 46 (.goto (-40)) 3 rfl) rfl ?_
        refine Ak_keep [true, true] ?_
        exact ih h
theorem c_Reader_readBoth {S : ASh} {V : ASt} {x0 : Int} {r : Int} {V' : ASt} {R : Nat → ASt → Int → Int → Option (Int × ASt)} {dd : Nat} (hdd : 20 ≤ dd) (hR : RdOK S R dd) (h : f_Reader_readBoth S R V x0 = some (r, V')) : ACt m_Reader_readBoth (dd + 1) 0 0 [(aR x0)] S V none S V' := by
  unfold f_Reader_readBoth at h
  obtain ⟨hO, h⟩ := gd_some h
  refine ACt_of (plainFor_of_name rfl) rfl (Nat.le_of_ble_eq_true rfl) ?_
  show AWk m_Reader_readBoth (dd + 1) 0 0 0 0 0 [some (aR x0)] [] S V none S V'
  refine Ak_aload_n 1 0 (d_Reader_readBoth 0 0 (.aload_n 0) 1 rfl) rfl rfl rfl ?_
  obtain ⟨r15, V16, h17, h⟩ := bnd_some h
  refine Ak_cV0 4 dd (hR.2.2.1 h17) rfl hO clX5 rfl mok_Reader_readFact lkM_Reader_146 (d_Reader_readBoth 1 1 (.invokevirtual 146) 3 rfl) rfl (by omega) (Nat.le_of_ble_eq_true rfl) ?_
  refine Ak_iconst 5 (d_Reader_readBoth 2 4 (.iconst 0) 1 rfl) rfl (rk rfl) ?_
  refine Ak_istore_n 6 1 (d_Reader_readBoth 3 5 (.istore_n 1) 1 rfl) rfl rfl (by decide) ?_
  refine Ak_keep [true, true] ?_
  exact t_Reader_readBoth_L6 hO hdd hR FU _ _ _ _ h
theorem t_Reader_readTest_L6 {S : ASh} {R : Nat → ASt → Int → Int → Option (Int × ASt)} {x0 : Int} (hO : isO S x0 5 = true) {dd : Nat} (hdd : 20 ≤ dd) (hR : RdOK S R dd) : ∀ (n : Nat) (V : ASt) (x1 : Int) (r : Int) (V' : ASt), b_Reader_readTest_L6 S R x0 n V x1 = some (r, V') → AWk m_Reader_readTest (dd + 1) 0 0 0 0 6 [some (aR x0), some (aI x1)] [] S V none S V' := by
  intro n
  induction n with
  | zero => intro V x1 r V' h; cases h
  | succ n ih =>
    intro V x1 r V' h
    replace ih : ∀ {V : ASt} {x1 : Int} {r : Int} {V' : ASt}, b_Reader_readTest_L6 S R x0 n V x1 = some (r, V') → AWk m_Reader_readTest (dd + 1) 0 0 0 0 6 [some (aR x0), some (aI x1)] [] S V none S V' := fun h => ih _ _ _ _ h
    rw [b_Reader_readTest_L6] at h
    refine Ak_iload_n 7 1 (d_Reader_readTest 4 6 (.iload_n 1) 1 rfl) rfl rfl rfl ?_
    refine Ak_sipush 10 (d_Reader_readTest 5 7 (.sipush 1800) 3 rfl) rfl (sp_ok rfl) (rk rfl) ?_
    refine Ak_icmp_ge 49 13 (d_Reader_readTest 6 10 (.if_icmp .ge 39) 3 rfl) rfl rfl (fun hc => ?_) (fun hc => ?_)
    · replace h := it_t hc h
      cases h
      exact Ak_vret rfl (d_Reader_readTest 22 49 (.return_) 1 rfl)
    · replace h := it_f hc h
      refine Ak_aload_n 14 0 (d_Reader_readTest 7 13 (.aload_n 0) 1 rfl) rfl rfl rfl ?_
      obtain ⟨r1, V2, h3, h⟩ := bnd_some h
      refine Ak_cV1 17 3 (c_Reader_type h3) rfl hO clX5 rfl mok_Reader_type lkM_Reader_51 (d_Reader_readTest 8 14 (.invokevirtual 51) 3 rfl) rfl (by omega) (Nat.le_of_ble_eq_true rfl) ?_
      refine Ak_sipush 20 (d_Reader_readTest 9 17 (.sipush 271) 3 rfl) rfl (sp_ok rfl) (rk rfl) ?_
      refine Ak_icmp_ne 49 23 (d_Reader_readTest 10 20 (.if_icmp .ne 29) 3 rfl) rfl rfl (fun hc => ?_) (fun hc => ?_)
      · replace h := it_f hc h
        cases h
        exact Ak_vret rfl (d_Reader_readTest 22 49 (.return_) 1 rfl)
      · replace h := it_t hc h
        refine Ak_aload_n 24 0 (d_Reader_readTest 11 23 (.aload_n 0) 1 rfl) rfl rfl rfl ?_
        obtain ⟨r4, V5, h6, h⟩ := bnd_some h
        refine Ak_cV0 27 3 (c_Reader_step h6) rfl hO clX5 rfl mok_Reader_step lkM_Reader_68 (d_Reader_readTest 12 24 (.invokevirtual 68) 3 rfl) rfl (by omega) (Nat.le_of_ble_eq_true rfl) ?_
        refine Ak_aload_n 28 0 (d_Reader_readTest 13 27 (.aload_n 0) 1 rfl) rfl rfl rfl ?_
        obtain ⟨r7, V8, h9, h⟩ := bnd_some h
        refine Ak_cV0 31 dd (hR.2.1 h9) rfl hO clX5 rfl mok_Reader_readBoth lkM_Reader_140 (d_Reader_readTest 14 28 (.invokevirtual 140) 3 rfl) rfl (by omega) (Nat.le_of_ble_eq_true rfl) ?_
        refine Ak_aload_n 32 0 (d_Reader_readTest 15 31 (.aload_n 0) 1 rfl) rfl rfl rfl ?_
        refine Ak_getR 35 4 hO clX5 (by decide) rfl lkF_Reader_31 (d_Reader_readTest 16 32 (.getfield 31) 3 rfl) rfl ?_
        obtain ⟨hg10, h⟩ := gd_some h
        refine Ak_getF 38 5 hg10 clX1 (by decide) rfl lkF_Reader_122 (d_Reader_readTest 17 35 (.getfield 122) 3 rfl) rfl ?_
        refine Ak_bipush 40 (d_Reader_readTest 18 38 (.bipush (-13)) 2 rfl) rfl (bp_ok rfl) (rk rfl) ?_
        obtain ⟨hg14, h⟩ := gd_some h
        obtain ⟨r11, V12, h13, h⟩ := bnd_some h
        refine Ak_cV0 43 2 (c_Tests_emit h13) rfl hg14 clX8 rfl mok_Tests_emit lkM_Reader_143 (d_Reader_readTest 19 40 (.invokevirtual 143) 3 rfl) rfl (by omega) (Nat.le_of_ble_eq_true rfl) ?_
        refine Ak_iinc 46 (d_Reader_readTest 20 43 (.iinc 1 1) 3 rfl) rfl rfl (by decide) ?_
        refine Ak_goto 6 (d_Reader_readTest 21 46 (.goto (-40)) 3 rfl) rfl ?_
        refine Ak_keep [true, true] ?_
        exact ih h
theorem c_Reader_readTest {S : ASh} {V : ASt} {x0 : Int} {r : Int} {V' : ASt} {R : Nat → ASt → Int → Int → Option (Int × ASt)} {dd : Nat} (hdd : 20 ≤ dd) (hR : RdOK S R dd) (h : f_Reader_readTest S R V x0 = some (r, V')) : ACt m_Reader_readTest (dd + 1) 0 0 [(aR x0)] S V none S V' := by
  unfold f_Reader_readTest at h
  obtain ⟨hO, h⟩ := gd_some h
  refine ACt_of (plainFor_of_name rfl) rfl (Nat.le_of_ble_eq_true rfl) ?_
  show AWk m_Reader_readTest (dd + 1) 0 0 0 0 0 [some (aR x0)] [] S V none S V'
  refine Ak_aload_n 1 0 (d_Reader_readTest 0 0 (.aload_n 0) 1 rfl) rfl rfl rfl ?_
  obtain ⟨r15, V16, h17, h⟩ := bnd_some h
  refine Ak_cV0 4 dd (hR.2.1 h17) rfl hO clX5 rfl mok_Reader_readBoth lkM_Reader_140 (d_Reader_readTest 1 1 (.invokevirtual 140) 3 rfl) rfl (by omega) (Nat.le_of_ble_eq_true rfl) ?_
  refine Ak_iconst 5 (d_Reader_readTest 2 4 (.iconst 0) 1 rfl) rfl (rk rfl) ?_
  refine Ak_istore_n 6 1 (d_Reader_readTest 3 5 (.istore_n 1) 1 rfl) rfl rfl (by decide) ?_
  refine Ak_keep [true, true] ?_
  exact t_Reader_readTest_L6 hO hdd hR FU _ _ _ _ h
theorem c_RDn (S : ASh) : ∀ n : Nat, RdOK S (f_RD S n) (20 + n)
  | 0 => by
    refine ⟨?_, ?_, ?_, ?_, ?_, ?_, ?_, ?_⟩ <;> (intros; rename_i h; cases h)
  | n + 1 => by
    have ih := c_RDn S n
    refine ⟨?_, ?_, ?_, ?_, ?_, ?_, ?_, ?_⟩
    · intros; rename_i h; exact c_Reader_readTest (dd := 20 + n) (Nat.le_add_right 20 n) ih h
    · intros; rename_i h; exact c_Reader_readBoth (dd := 20 + n) (Nat.le_add_right 20 n) ih h
    · intros; rename_i h; exact c_Reader_readFact (dd := 20 + n) (Nat.le_add_right 20 n) ih h
    · intros; rename_i h; exact c_Reader_readComparison (dd := 20 + n) (Nat.le_add_right 20 n) ih h
    · intros; rename_i h; exact c_Reader_readSum (dd := 20 + n) (Nat.le_add_right 20 n) ih h
    · intros; rename_i h; exact c_Reader_readProduct (dd := 20 + n) (Nat.le_add_right 20 n) ih h
    · intros; rename_i h; exact c_Reader_readPart (dd := 20 + n) (Nat.le_add_right 20 n) ih h
    · intros; rename_i h; exact c_Reader_readPair (dd := 20 + n) (Nat.le_add_right 20 n) ih h
theorem c_RD (S : ASh) (n : Nat) (hn : n = 100 := by rfl) : RdOK S (f_RD S n) 120 := by subst hn; exact c_RDn S 100
