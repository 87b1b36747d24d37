/-! printed by wip/gen/gen_all.py: contracts of the reader's group -/
theorem c_Reader_readPair {S : ASh} {V : ASt} {x0 x1 : Int} {r : Int} {V' : ASt} {R : Nat → ASt → Int → Int → Option (Int × ASt)} {dd : Nat} (hdd : 20 ≤ dd) (hR : RdOK S R dd) (h : f_Reader_readPair S R V x0 x1 = some (r, V')) : ACt m_Reader_readPair (dd + 1) 0 0 [(aR x0), (aI x1)] S V none S V' := by
  unfold f_Reader_readPair at h
  obtain ⟨hO, h⟩ := gd_some h
  refine ACt_of (plainFor_of_name rfl) rfl (Nat.le_of_ble_eq_true rfl) ?_
  show AWk m_Reader_readPair (dd + 1) 0 0 0 0 0 [some (aR x0), some (aI x1)] [] S V none S V'
  refine Ak_aload_n 1 0 (d_Reader_readPair 0 0 (.aload_n 0) 1 rfl) rfl rfl rfl ?_
  obtain ⟨r1, V2, h3, h⟩ := bnd_some h
  refine Ak_cV0 4 2 (c_Reader_step h3) rfl hO clX5 rfl mok_Reader_step lkM_Reader_71 (d_Reader_readPair 1 1 (.invokevirtual 71) 3 rfl) rfl (by omega) (Nat.le_of_ble_eq_true rfl) ?_
  refine Ak_aload_n 5 0 (d_Reader_readPair 2 4 (.aload_n 0) 1 rfl) rfl rfl rfl ?_
  refine Ak_bipush 7 (d_Reader_readPair 3 5 (.bipush 40) 2 rfl) rfl (bp_ok rfl) (rk rfl) ?_
  obtain ⟨r4, V5, h6, h⟩ := bnd_some h
  refine Ak_cV0 10 3 (c_Reader_openBracket h6) rfl hO clX5 rfl mok_Reader_openBracket lkM_Reader_153 (d_Reader_readPair 4 7 (.invokevirtual 153) 3 rfl) rfl (by omega) (Nat.le_of_ble_eq_true rfl) ?_
  refine Ak_aload_n 11 0 (d_Reader_readPair 5 10 (.aload_n 0) 1 rfl) rfl rfl rfl ?_
  obtain ⟨r7, V8, h9, h⟩ := bnd_some h
  refine Ak_cV0 14 dd (hR.2.2.2.2.1 h9) rfl hO clX5 rfl mok_Reader_readSum lkM_Reader_156 (d_Reader_readPair 6 11 (.invokevirtual 156) 3 rfl) rfl (by omega) (Nat.le_of_ble_eq_true rfl) ?_
  refine Ak_aload_n 15 0 (d_Reader_readPair 7 14 (.aload_n 0) 1 rfl) rfl rfl rfl ?_
  refine Ak_bipush 17 (d_Reader_readPair 8 15 (.bipush 44) 2 rfl) rfl (bp_ok rfl) (rk rfl) ?_
  obtain ⟨r10, V11, h12, h⟩ := bnd_some h
  refine Ak_cV0 20 3 (c_Reader_take h12) rfl hO clX5 rfl mok_Reader_take lkM_Reader_47 (d_Reader_readPair 9 17 (.invokevirtual 47) 3 rfl) rfl (by omega) (Nat.le_of_ble_eq_true rfl) ?_
  refine Ak_aload_n 21 0 (d_Reader_readPair 10 20 (.aload_n 0) 1 rfl) rfl rfl rfl ?_
  obtain ⟨r13, V14, h15, h⟩ := bnd_some h
  refine Ak_cV0 24 dd (hR.2.2.2.2.1 h15) rfl hO clX5 rfl mok_Reader_readSum lkM_Reader_156 (d_Reader_readPair 11 21 (.invokevirtual 156) 3 rfl) rfl (by omega) (Nat.le_of_ble_eq_true rfl) ?_
  refine Ak_aload_n 25 0 (d_Reader_readPair 12 24 (.aload_n 0) 1 rfl) rfl rfl rfl ?_
  refine Ak_bipush 27 (d_Reader_readPair 13 25 (.bipush 41) 2 rfl) rfl (bp_ok rfl) (rk rfl) ?_
  obtain ⟨r16, V17, h18, h⟩ := bnd_some h
  refine Ak_cV0 30 3 (c_Reader_take h18) rfl hO clX5 rfl mok_Reader_take lkM_Reader_47 (d_Reader_readPair 14 27 (.invokevirtual 47) 3 rfl) rfl (by omega) (Nat.le_of_ble_eq_true rfl) ?_
  refine Ak_aload_n 31 0 (d_Reader_readPair 15 30 (.aload_n 0) 1 rfl) rfl rfl rfl ?_
  refine Ak_dup 32 (d_Reader_readPair 16 31 (.dup) 1 rfl) rfl rfl ?_
  refine Ak_getI 35 5 hO clX5 (by decide) (Or.inl rfl) lkF_Reader_28 (d_Reader_readPair 17 32 (.getfield 28) 3 rfl) rfl ?_
  refine Ak_iconst 36 (d_Reader_readPair 18 35 (.iconst 1) 1 rfl) rfl (rk rfl) ?_
  refine Ak_isub 37 (d_Reader_readPair 19 36 (.isub) 1 rfl) rfl ?_
  refine Ak_putI 40 5 hO clX5 (by decide) rfl rfl rfl lkF_Reader_28 (d_Reader_readPair 20 37 (.putfield 28) 3 rfl) rfl (fun V19 hV19 => ?_)
  replace h := wV_some h V19 hV19
  refine Ak_aload_n 41 0 (d_Reader_readPair 21 40 (.aload_n 0) 1 rfl) rfl rfl rfl ?_
  refine Ak_getR 44 4 hO clX5 (by decide) rfl lkF_Reader_31 (d_Reader_readPair 22 41 (.getfield 31) 3 rfl) rfl ?_
  obtain ⟨hg20, h⟩ := gd_some h
  refine Ak_getF 47 5 hg20 clX1 (by decide) rfl lkF_Reader_126 (d_Reader_readPair 23 44 (.getfield 126) 3 rfl) rfl ?_
  refine Ak_iload_n 48 1 (d_Reader_readPair 24 47 (.iload_n 1) 1 rfl) rfl rfl rfl ?_
  obtain ⟨hg24, h⟩ := gd_some h
  obtain ⟨r21, V22, h23, h⟩ := bnd_some h
  refine Ak_cV0 51 2 (c_Tests_emit h23) rfl hg24 clX8 rfl mok_Tests_emit lkM_Reader_147 (d_Reader_readPair 25 48 (.invokevirtual 147) 3 rfl) rfl (by omega) (Nat.le_of_ble_eq_true rfl) ?_
  cases h
  exact Ak_vret rfl (d_Reader_readPair 26 51 (.return_) 1 rfl)
theorem t_Reader_readPart_J226 {S : ASh} {R : Nat → ASt → Int → Int → Option (Int × ASt)} {V : ASt} {x0 s0 s1 : Int} {r : Int} {V' : ASt} (hO : isO S x0 5 = true) {dd : Nat} (hdd : 20 ≤ dd) (hR : RdOK S R dd) (h : b_Reader_readPart_J226 S R V x0 s0 s1 = some (r, V')) : AWk m_Reader_readPart (dd + 1) 0 0 0 0 226 [some (aR x0)] [(aI s1), (aR s0)] S V none S V' := by
  unfold b_Reader_readPart_J226 at h
  obtain ⟨hg4, h⟩ := gd_some h
  obtain ⟨r1, V2, h3, h⟩ := bnd_some h
  refine Ak_cV0 229 2 (c_Tests_emit h3) rfl hg4 clX8 rfl mok_Tests_emit lkM_Reader_147 (d_Reader_readPart 68 226 (.invokevirtual 147) 3 rfl) rfl (by omega) (Nat.le_of_ble_eq_true rfl) ?_
  refine Ak_goto 237 (d_Reader_readPart 69 229 (.goto 8) 3 rfl) rfl ?_
  cases h
  exact Ak_vret rfl (d_Reader_readPart 73 237 (.return_) 1 rfl)
theorem c_Reader_readPart {S : ASh} {V : ASt} {x0 : Int} {r : Int} {V' : ASt} {R : Nat → ASt → Int → Int → Option (Int × ASt)} {dd : Nat} (hdd : 20 ≤ dd) (hR : RdOK S R dd) (h : f_Reader_readPart S R V x0 = some (r, V')) : ACt m_Reader_readPart (dd + 1) 0 0 [(aR x0)] S V none S V' := by
  unfold f_Reader_readPart at h
  obtain ⟨hO, h⟩ := gd_some h
  refine ACt_of (plainFor_of_name rfl) rfl (Nat.le_of_ble_eq_true rfl) ?_
  show AWk m_Reader_readPart (dd + 1) 0 0 0 0 0 [some (aR x0)] [] S V none S V'
  refine Ak_aload_n 1 0 (d_Reader_readPart 0 0 (.aload_n 0) 1 rfl) rfl rfl rfl ?_
  obtain ⟨r5, V6, h7, h⟩ := bnd_some h
  refine Ak_cV1 4 2 (c_Reader_type h7) rfl hO clX5 rfl mok_Reader_type lkM_Reader_51 (d_Reader_readPart 1 1 (.invokevirtual 51) 3 rfl) rfl (by omega) (Nat.le_of_ble_eq_true rfl) ?_
  by_cases hc8 : r5 = 2
  · replace h := it_t hc8 h
    refine Ak_lookup 205 (d_Reader_readPart 2 4 (.lookupswitch 228 #[(2, 201), (3, 105), (40, 76), (274, 126), (275, 145), (276, 164), (277, 183), (278, 192)]) 76 rfl) rfl (by rw [hc8]) rfl ?_
    refine Ak_aload_n 206 0 (d_Reader_readPart 59 205 (.aload_n 0) 1 rfl) rfl rfl rfl ?_
    refine Ak_getR 209 4 hO clX5 (by decide) rfl lkF_Reader_31 (d_Reader_readPart 60 206 (.getfield 31) 3 rfl) rfl ?_
    obtain ⟨hg9, h⟩ := gd_some h
    refine Ak_getF 212 5 hg9 clX1 (by decide) rfl lkF_Reader_126 (d_Reader_readPart 61 209 (.getfield 126) 3 rfl) rfl ?_
    refine Ak_aload_n 213 0 (d_Reader_readPart 62 212 (.aload_n 0) 1 rfl) rfl rfl rfl ?_
    obtain ⟨r10, V11, h12, h⟩ := bnd_some h
    refine Ak_cV1 216 3 (c_Reader_takeNameOfPiece h12) rfl hO clX5 rfl mok_Reader_takeNameOfPiece lkM_Reader_135 (d_Reader_readPart 63 213 (.invokevirtual 135) 3 rfl) rfl (by omega) (Nat.le_of_ble_eq_true rfl) ?_
    refine Ak_if_ne 224 219 (d_Reader_readPart 64 216 (.ifCond .ne 8) 3 rfl) rfl rfl (fun hc => ?_) (fun hc => ?_)
    · replace h := it_f hc h
      refine Ak_bipush 226 (d_Reader_readPart 67 224 (.bipush (-19)) 2 rfl) rfl (bp_ok rfl) (rk rfl) ?_
      refine Ak_keep [true] ?_
      exact t_Reader_readPart_J226 hO hdd hR h
    · replace h := it_t hc h
      refine Ak_bipush 221 (d_Reader_readPart 65 219 (.bipush (-18)) 2 rfl) rfl (bp_ok rfl) (rk rfl) ?_
      refine Ak_goto 226 (d_Reader_readPart 66 221 (.goto 5) 3 rfl) rfl ?_
      refine Ak_keep [true] ?_
      exact t_Reader_readPart_J226 hO hdd hR h
  · replace h := it_f hc8 h
    by_cases hc13 : r5 = 3
    · replace h := it_t hc13 h
      refine Ak_lookup 109 (d_Reader_readPart 2 4 (.lookupswitch 228 #[(2, 201), (3, 105), (40, 76), (274, 126), (275, 145), (276, 164), (277, 183), (278, 192)]) 76 rfl) rfl (by rw [hc13]) rfl ?_
      refine Ak_aload_n 110 0 (d_Reader_readPart 18 109 (.aload_n 0) 1 rfl) rfl rfl rfl ?_
      refine Ak_getR 113 4 hO clX5 (by decide) rfl lkF_Reader_31 (d_Reader_readPart 19 110 (.getfield 31) 3 rfl) rfl ?_
      obtain ⟨hg14, h⟩ := gd_some h
      refine Ak_getF 116 5 hg14 clX1 (by decide) rfl lkF_Reader_126 (d_Reader_readPart 20 113 (.getfield 126) 3 rfl) rfl ?_
      refine Ak_aload_n 117 0 (d_Reader_readPart 21 116 (.aload_n 0) 1 rfl) rfl rfl rfl ?_
      obtain ⟨r15, V16, h17, h⟩ := bnd_some h
      refine Ak_cV1 120 2 (c_Reader_content h17) rfl hO clX5 rfl mok_Reader_content lkM_Reader_77 (d_Reader_readPart 22 117 (.invokevirtual 77) 3 rfl) rfl (by omega) (Nat.le_of_ble_eq_true rfl) ?_
      obtain ⟨hg21, h⟩ := gd_some h
      obtain ⟨r18, V19, h20, h⟩ := bnd_some h
      refine Ak_cV0 123 2 (c_Tests_emit h20) rfl hg21 clX8 rfl mok_Tests_emit lkM_Reader_147 (d_Reader_readPart 23 120 (.invokevirtual 147) 3 rfl) rfl (by omega) (Nat.le_of_ble_eq_true rfl) ?_
      refine Ak_aload_n 124 0 (d_Reader_readPart 24 123 (.aload_n 0) 1 rfl) rfl rfl rfl ?_
      obtain ⟨r22, V23, h24, h⟩ := bnd_some h
      refine Ak_cV0 127 2 (c_Reader_step h24) rfl hO clX5 rfl mok_Reader_step lkM_Reader_71 (d_Reader_readPart 25 124 (.invokevirtual 71) 3 rfl) rfl (by omega) (Nat.le_of_ble_eq_true rfl) ?_
      refine Ak_goto 237 (d_Reader_readPart 26 127 (.goto 110) 3 rfl) rfl ?_
      cases h
      exact Ak_vret rfl (d_Reader_readPart 73 237 (.return_) 1 rfl)
    · replace h := it_f hc13 h
      by_cases hc25 : r5 = 40
      · replace h := it_t hc25 h
        refine Ak_lookup 80 (d_Reader_readPart 2 4 (.lookupswitch 228 #[(2, 201), (3, 105), (40, 76), (274, 126), (275, 145), (276, 164), (277, 183), (278, 192)]) 76 rfl) rfl (by rw [hc25]) rfl ?_
        refine Ak_aload_n 81 0 (d_Reader_readPart 3 80 (.aload_n 0) 1 rfl) rfl rfl rfl ?_
        refine Ak_bipush 83 (d_Reader_readPart 4 81 (.bipush 40) 2 rfl) rfl (bp_ok rfl) (rk rfl) ?_
        obtain ⟨r26, V27, h28, h⟩ := bnd_some h
        refine Ak_cV0 86 3 (c_Reader_openBracket h28) rfl hO clX5 rfl mok_Reader_openBracket lkM_Reader_153 (d_Reader_readPart 5 83 (.invokevirtual 153) 3 rfl) rfl (by omega) (Nat.le_of_ble_eq_true rfl) ?_
        refine Ak_aload_n 87 0 (d_Reader_readPart 6 86 (.aload_n 0) 1 rfl) rfl rfl rfl ?_
        obtain ⟨r29, V30, h31, h⟩ := bnd_some h
        refine Ak_cV0 90 dd (hR.2.2.2.2.1 h31) rfl hO clX5 rfl mok_Reader_readSum lkM_Reader_156 (d_Reader_readPart 7 87 (.invokevirtual 156) 3 rfl) rfl (by omega) (Nat.le_of_ble_eq_true rfl) ?_
        refine Ak_aload_n 91 0 (d_Reader_readPart 8 90 (.aload_n 0) 1 rfl) rfl rfl rfl ?_
        refine Ak_bipush 93 (d_Reader_readPart 9 91 (.bipush 41) 2 rfl) rfl (bp_ok rfl) (rk rfl) ?_
        obtain ⟨r32, V33, h34, h⟩ := bnd_some h
        refine Ak_cV0 96 3 (c_Reader_take h34) rfl hO clX5 rfl mok_Reader_take lkM_Reader_47 (d_Reader_readPart 10 93 (.invokevirtual 47) 3 rfl) rfl (by omega) (Nat.le_of_ble_eq_true rfl) ?_
        refine Ak_aload_n 97 0 (d_Reader_readPart 11 96 (.aload_n 0) 1 rfl) rfl rfl rfl ?_
        refine Ak_dup 98 (d_Reader_readPart 12 97 (.dup) 1 rfl) rfl rfl ?_
        refine Ak_getI 101 5 hO clX5 (by decide) (Or.inl rfl) lkF_Reader_28 (d_Reader_readPart 13 98 (.getfield 28) 3 rfl) rfl ?_
        refine Ak_iconst 102 (d_Reader_readPart 14 101 (.iconst 1) 1 rfl) rfl (rk rfl) ?_
        refine Ak_isub 103 (d_Reader_readPart 15 102 (.isub) 1 rfl) rfl ?_
        refine Ak_putI 106 5 hO clX5 (by decide) rfl rfl rfl lkF_Reader_28 (d_Reader_readPart 16 103 (.putfield 28) 3 rfl) rfl (fun V35 hV35 => ?_)
        replace h := wV_some h V35 hV35
        refine Ak_goto 237 (d_Reader_readPart 17 106 (.goto 131) 3 rfl) rfl ?_
        cases h
        exact Ak_vret rfl (d_Reader_readPart 73 237 (.return_) 1 rfl)
      · replace h := it_f hc25 h
        by_cases hc36 : r5 = 274
        · replace h := it_t hc36 h
          refine Ak_lookup 130 (d_Reader_readPart 2 4 (.lookupswitch 228 #[(2, 201), (3, 105), (40, 76), (274, 126), (275, 145), (276, 164), (277, 183), (278, 192)]) 76 rfl) rfl (by rw [hc36]) rfl ?_
          refine Ak_aload_n 131 0 (d_Reader_readPart 27 130 (.aload_n 0) 1 rfl) rfl rfl rfl ?_
          refine Ak_getR 134 4 hO clX5 (by decide) rfl lkF_Reader_31 (d_Reader_readPart 28 131 (.getfield 31) 3 rfl) rfl ?_
          obtain ⟨hg37, h⟩ := gd_some h
          refine Ak_getF 137 5 hg37 clX1 (by decide) rfl lkF_Reader_126 (d_Reader_readPart 29 134 (.getfield 126) 3 rfl) rfl ?_
          refine Ak_bipush 139 (d_Reader_readPart 30 137 (.bipush (-15)) 2 rfl) rfl (bp_ok rfl) (rk rfl) ?_
          obtain ⟨hg41, h⟩ := gd_some h
          obtain ⟨r38, V39, h40, h⟩ := bnd_some h
          refine Ak_cV0 142 2 (c_Tests_emit h40) rfl hg41 clX8 rfl mok_Tests_emit lkM_Reader_147 (d_Reader_readPart 31 139 (.invokevirtual 147) 3 rfl) rfl (by omega) (Nat.le_of_ble_eq_true rfl) ?_
          refine Ak_aload_n 143 0 (d_Reader_readPart 32 142 (.aload_n 0) 1 rfl) rfl rfl rfl ?_
          obtain ⟨r42, V43, h44, h⟩ := bnd_some h
          refine Ak_cV0 146 2 (c_Reader_step h44) rfl hO clX5 rfl mok_Reader_step lkM_Reader_71 (d_Reader_readPart 33 143 (.invokevirtual 71) 3 rfl) rfl (by omega) (Nat.le_of_ble_eq_true rfl) ?_
          refine Ak_goto 237 (d_Reader_readPart 34 146 (.goto 91) 3 rfl) rfl ?_
          cases h
          exact Ak_vret rfl (d_Reader_readPart 73 237 (.return_) 1 rfl)
        · replace h := it_f hc36 h
          by_cases hc45 : r5 = 275
          · replace h := it_t hc45 h
            refine Ak_lookup 149 (d_Reader_readPart 2 4 (.lookupswitch 228 #[(2, 201), (3, 105), (40, 76), (274, 126), (275, 145), (276, 164), (277, 183), (278, 192)]) 76 rfl) rfl (by rw [hc45]) rfl ?_
            refine Ak_aload_n 150 0 (d_Reader_readPart 35 149 (.aload_n 0) 1 rfl) rfl rfl rfl ?_
            refine Ak_getR 153 4 hO clX5 (by decide) rfl lkF_Reader_31 (d_Reader_readPart 36 150 (.getfield 31) 3 rfl) rfl ?_
            obtain ⟨hg46, h⟩ := gd_some h
            refine Ak_getF 156 5 hg46 clX1 (by decide) rfl lkF_Reader_126 (d_Reader_readPart 37 153 (.getfield 126) 3 rfl) rfl ?_
            refine Ak_bipush 158 (d_Reader_readPart 38 156 (.bipush (-16)) 2 rfl) rfl (bp_ok rfl) (rk rfl) ?_
            obtain ⟨hg50, h⟩ := gd_some h
            obtain ⟨r47, V48, h49, h⟩ := bnd_some h
            refine Ak_cV0 161 2 (c_Tests_emit h49) rfl hg50 clX8 rfl mok_Tests_emit lkM_Reader_147 (d_Reader_readPart 39 158 (.invokevirtual 147) 3 rfl) rfl (by omega) (Nat.le_of_ble_eq_true rfl) ?_
            refine Ak_aload_n 162 0 (d_Reader_readPart 40 161 (.aload_n 0) 1 rfl) rfl rfl rfl ?_
            obtain ⟨r51, V52, h53, h⟩ := bnd_some h
            refine Ak_cV0 165 2 (c_Reader_step h53) rfl hO clX5 rfl mok_Reader_step lkM_Reader_71 (d_Reader_readPart 41 162 (.invokevirtual 71) 3 rfl) rfl (by omega) (Nat.le_of_ble_eq_true rfl) ?_
            refine Ak_goto 237 (d_Reader_readPart 42 165 (.goto 72) 3 rfl) rfl ?_
            cases h
            exact Ak_vret rfl (d_Reader_readPart 73 237 (.return_) 1 rfl)
          · replace h := it_f hc45 h
            by_cases hc54 : r5 = 276
            · replace h := it_t hc54 h
              refine Ak_lookup 168 (d_Reader_readPart 2 4 (.lookupswitch 228 #[(2, 201), (3, 105), (40, 76), (274, 126), (275, 145), (276, 164), (277, 183), (278, 192)]) 76 rfl) rfl (by rw [hc54]) rfl ?_
              refine Ak_aload_n 169 0 (d_Reader_readPart 43 168 (.aload_n 0) 1 rfl) rfl rfl rfl ?_
              refine Ak_getR 172 4 hO clX5 (by decide) rfl lkF_Reader_31 (d_Reader_readPart 44 169 (.getfield 31) 3 rfl) rfl ?_
              obtain ⟨hg55, h⟩ := gd_some h
              refine Ak_getF 175 5 hg55 clX1 (by decide) rfl lkF_Reader_126 (d_Reader_readPart 45 172 (.getfield 126) 3 rfl) rfl ?_
              refine Ak_bipush 177 (d_Reader_readPart 46 175 (.bipush (-17)) 2 rfl) rfl (bp_ok rfl) (rk rfl) ?_
              obtain ⟨hg59, h⟩ := gd_some h
              obtain ⟨r56, V57, h58, h⟩ := bnd_some h
              refine Ak_cV0 180 2 (c_Tests_emit h58) rfl hg59 clX8 rfl mok_Tests_emit lkM_Reader_147 (d_Reader_readPart 47 177 (.invokevirtual 147) 3 rfl) rfl (by omega) (Nat.le_of_ble_eq_true rfl) ?_
              refine Ak_aload_n 181 0 (d_Reader_readPart 48 180 (.aload_n 0) 1 rfl) rfl rfl rfl ?_
              obtain ⟨r60, V61, h62, h⟩ := bnd_some h
              refine Ak_cV0 184 2 (c_Reader_step h62) rfl hO clX5 rfl mok_Reader_step lkM_Reader_71 (d_Reader_readPart 49 181 (.invokevirtual 71) 3 rfl) rfl (by omega) (Nat.le_of_ble_eq_true rfl) ?_
              refine Ak_goto 237 (d_Reader_readPart 50 184 (.goto 53) 3 rfl) rfl ?_
              cases h
              exact Ak_vret rfl (d_Reader_readPart 73 237 (.return_) 1 rfl)
            · replace h := it_f hc54 h
              by_cases hc63 : r5 = 277
              · replace h := it_t hc63 h
                refine Ak_lookup 187 (d_Reader_readPart 2 4 (.lookupswitch 228 #[(2, 201), (3, 105), (40, 76), (274, 126), (275, 145), (276, 164), (277, 183), (278, 192)]) 76 rfl) rfl (by rw [hc63]) rfl ?_
                refine Ak_aload_n 188 0 (d_Reader_readPart 51 187 (.aload_n 0) 1 rfl) rfl rfl rfl ?_
                refine Ak_bipush 190 (d_Reader_readPart 52 188 (.bipush (-7)) 2 rfl) rfl (bp_ok rfl) (rk rfl) ?_
                obtain ⟨r64, V65, h66, h⟩ := bnd_some h
                refine Ak_cV0 193 dd (hR.2.2.2.1 h66) rfl hO clX5 rfl mok_Reader_readPair lkM_Reader_171 (d_Reader_readPart 53 190 (.invokevirtual 171) 3 rfl) rfl (by omega) (Nat.le_of_ble_eq_true rfl) ?_
                refine Ak_goto 237 (d_Reader_readPart 54 193 (.goto 44) 3 rfl) rfl ?_
                cases h
                exact Ak_vret rfl (d_Reader_readPart 73 237 (.return_) 1 rfl)
              · replace h := it_f hc63 h
                by_cases hc67 : r5 = 278
                · replace h := it_t hc67 h
                  refine Ak_lookup 196 (d_Reader_readPart 2 4 (.lookupswitch 228 #[(2, 201), (3, 105), (40, 76), (274, 126), (275, 145), (276, 164), (277, 183), (278, 192)]) 76 rfl) rfl (by rw [hc67]) rfl ?_
                  refine Ak_aload_n 197 0 (d_Reader_readPart 55 196 (.aload_n 0) 1 rfl) rfl rfl rfl ?_
                  refine Ak_bipush 199 (d_Reader_readPart 56 197 (.bipush (-8)) 2 rfl) rfl (bp_ok rfl) (rk rfl) ?_
                  obtain ⟨r68, V69, h70, h⟩ := bnd_some h
                  refine Ak_cV0 202 dd (hR.2.2.2.1 h70) rfl hO clX5 rfl mok_Reader_readPair lkM_Reader_171 (d_Reader_readPart 57 199 (.invokevirtual 171) 3 rfl) rfl (by omega) (Nat.le_of_ble_eq_true rfl) ?_
                  refine Ak_goto 237 (d_Reader_readPart 58 202 (.goto 35) 3 rfl) rfl ?_
                  cases h
                  exact Ak_vret rfl (d_Reader_readPart 73 237 (.return_) 1 rfl)
                · replace h := it_f hc67 h
                  refine Ak_lookup 232 (d_Reader_readPart 2 4 (.lookupswitch 228 #[(2, 201), (3, 105), (40, 76), (274, 126), (275, 145), (276, 164), (277, 183), (278, 192)]) 76 rfl) rfl (by rw [Op.lookupswitch.offset_cons, if_neg (fun e => hc8 e.symm), Op.lookupswitch.offset_cons, if_neg (fun e => hc13 e.symm), Op.lookupswitch.offset_cons, if_neg (fun e => hc25 e.symm), Op.lookupswitch.offset_cons, if_neg (fun e => hc36 e.symm), Op.lookupswitch.offset_cons, if_neg (fun e => hc45 e.symm), Op.lookupswitch.offset_cons, if_neg (fun e => hc54 e.symm), Op.lookupswitch.offset_cons, if_neg (fun e => hc63 e.symm), Op.lookupswitch.offset_cons, if_neg (fun e => hc67 e.symm), Op.lookupswitch.offset_nil]) rfl ?_
                  refine Ak_aload_n 233 0 (d_Reader_readPart 70 232 (.aload_n 0) 1 rfl) rfl rfl rfl ?_
                  refine Ak_iconst 234 (d_Reader_readPart 71 233 (.iconst 1) 1 rfl) rfl (rk rfl) ?_
                  obtain ⟨r71, V72, h73, h⟩ := bnd_some h
                  refine Ak_cV0 237 2 (c_Reader_fail h73) rfl hO clX5 rfl mok_Reader_fail lkM_Reader_74 (d_Reader_readPart 72 234 (.invokevirtual 74) 3 rfl) rfl (by omega) (Nat.le_of_ble_eq_true rfl) ?_
                  cases h
                  exact Ak_vret rfl (d_Reader_readPart 73 237 (.return_) 1 rfl)
theorem t_Reader_readProduct_L6 {S : ASh} {R : Nat → ASt → Int → Int → Option (Int × ASt)} {x0 : Int} (hO : isO S x0 5 = true) {dd : Nat} (hdd : 20 ≤ dd) (hR : RdOK S R dd) : ∀ (n : Nat) (V : ASt) (x1 : Int) (r : Int) (V' : ASt), b_Reader_readProduct_L6 S R x0 n V x1 = some (r, V') → AWk m_Reader_readProduct (dd + 1) 0 0 0 0 6 [some (aR x0), some (aI x1)] [] S V none S V' := by
  intro n
  induction n with
  | zero => intro V x1 r V' h; cases h
  | succ n ih =>
    intro V x1 r V' h
    replace ih : ∀ {V : ASt} {x1 : Int} {r : Int} {V' : ASt}, b_Reader_readProduct_L6 S R x0 n V x1 = some (r, V') → AWk m_Reader_readProduct (dd + 1) 0 0 0 0 6 [some (aR x0), some (aI x1)] [] S V none S V' := fun h => ih _ _ _ _ h
    rw [b_Reader_readProduct_L6] at h
    refine Ak_iload_n 7 1 (d_Reader_readProduct 4 6 (.iload_n 1) 1 rfl) rfl rfl rfl ?_
    refine Ak_sipush 10 (d_Reader_readProduct 5 7 (.sipush 1800) 3 rfl) rfl (sp_ok rfl) (rk rfl) ?_
    refine Ak_icmp_ge 51 13 (d_Reader_readProduct 6 10 (.if_icmp .ge 41) 3 rfl) rfl rfl (fun hc => ?_) (fun hc => ?_)
    · replace h := it_t hc h
      cases h
      exact Ak_vret rfl (d_Reader_readProduct 25 51 (.return_) 1 rfl)
    · replace h := it_f hc h
      refine Ak_aload_n 14 0 (d_Reader_readProduct 7 13 (.aload_n 0) 1 rfl) rfl rfl rfl ?_
      obtain ⟨r1, V2, h3, h⟩ := bnd_some h
      refine Ak_cV1 17 3 (c_Reader_factorTold h3) rfl hO clX5 rfl mok_Reader_factorTold lkM_Reader_168 (d_Reader_readProduct 8 14 (.invokevirtual 168) 3 rfl) rfl (by omega) (Nat.le_of_ble_eq_true rfl) ?_
      refine Ak_iconst 18 (d_Reader_readProduct 9 17 (.iconst (-1)) 1 rfl) rfl (rk rfl) ?_
      refine Ak_icmp_eq 51 21 (d_Reader_readProduct 10 18 (.if_icmp .eq 33) 3 rfl) rfl rfl (fun hc => ?_) (fun hc => ?_)
      · replace h := it_t hc h
        cases h
        exact Ak_vret rfl (d_Reader_readProduct 25 51 (.return_) 1 rfl)
      · replace h := it_f hc h
        refine Ak_aload_n 22 0 (d_Reader_readProduct 11 21 (.aload_n 0) 1 rfl) rfl rfl rfl ?_
        obtain ⟨r4, V5, h6, h⟩ := bnd_some h
        refine Ak_cV1 25 3 (c_Reader_factorTold h6) rfl hO clX5 rfl mok_Reader_factorTold lkM_Reader_168 (d_Reader_readProduct 12 22 (.invokevirtual 168) 3 rfl) rfl (by omega) (Nat.le_of_ble_eq_true rfl) ?_
        refine Ak_istore_n 26 2 (d_Reader_readProduct 13 25 (.istore_n 2) 1 rfl) rfl rfl (by decide) ?_
        refine Ak_aload_n 27 0 (d_Reader_readProduct 14 26 (.aload_n 0) 1 rfl) rfl rfl rfl ?_
        obtain ⟨r7, V8, h9, h⟩ := bnd_some h
        refine Ak_cV0 30 2 (c_Reader_step h9) rfl hO clX5 rfl mok_Reader_step lkM_Reader_71 (d_Reader_readProduct 15 27 (.invokevirtual 71) 3 rfl) rfl (by omega) (Nat.le_of_ble_eq_true rfl) ?_
        refine Ak_aload_n 31 0 (d_Reader_readProduct 16 30 (.aload_n 0) 1 rfl) rfl rfl rfl ?_
        obtain ⟨r10, V11, h12, h⟩ := bnd_some h
        refine Ak_cV0 34 dd (hR.2.2.2.2.2.2 h12) rfl hO clX5 rfl mok_Reader_readPart lkM_Reader_165 (d_Reader_readProduct 17 31 (.invokevirtual 165) 3 rfl) rfl (by omega) (Nat.le_of_ble_eq_true rfl) ?_
        refine Ak_aload_n 35 0 (d_Reader_readProduct 18 34 (.aload_n 0) 1 rfl) rfl rfl rfl ?_
        refine Ak_getR 38 4 hO clX5 (by decide) rfl lkF_Reader_31 (d_Reader_readProduct 19 35 (.getfield 31) 3 rfl) rfl ?_
        obtain ⟨hg13, h⟩ := gd_some h
        refine Ak_getF 41 5 hg13 clX1 (by decide) rfl lkF_Reader_126 (d_Reader_readProduct 20 38 (.getfield 126) 3 rfl) rfl ?_
        refine Ak_iload_n 42 2 (d_Reader_readProduct 21 41 (.iload_n 2) 1 rfl) rfl rfl rfl ?_
        obtain ⟨hg17, h⟩ := gd_some h
        obtain ⟨r14, V15, h16, h⟩ := bnd_some h
        refine Ak_cV0 45 2 (c_Tests_emit h16) rfl hg17 clX8 rfl mok_Tests_emit lkM_Reader_147 (d_Reader_readProduct 22 42 (.invokevirtual 147) 3 rfl) rfl (by omega) (Nat.le_of_ble_eq_true rfl) ?_
        refine Ak_iinc 48 (d_Reader_readProduct 23 45 (.iinc 1 1) 3 rfl) rfl rfl (by decide) ?_
        refine Ak_goto 6 (d_Reader_readProduct 24 48 (.goto (-42)) 3 rfl) rfl ?_
        refine Ak_keep [true, true] ?_
        exact ih h
theorem c_Reader_readProduct {S : ASh} {V : ASt} {x0 : Int} {r : Int} {V' : ASt} {R : Nat → ASt → Int → Int → Option (Int × ASt)} {dd : Nat} (hdd : 20 ≤ dd) (hR : RdOK S R dd) (h : f_Reader_readProduct S R V x0 = some (r, V')) : ACt m_Reader_readProduct (dd + 1) 0 0 [(aR x0)] S V none S V' := by
  unfold f_Reader_readProduct at h
  obtain ⟨hO, h⟩ := gd_some h
  refine ACt_of (plainFor_of_name rfl) rfl (Nat.le_of_ble_eq_true rfl) ?_
  show AWk m_Reader_readProduct (dd + 1) 0 0 0 0 0 [some (aR x0)] [] S V none S V'
  refine Ak_aload_n 1 0 (d_Reader_readProduct 0 0 (.aload_n 0) 1 rfl) rfl rfl rfl ?_
  obtain ⟨r18, V19, h20, h⟩ := bnd_some h
  refine Ak_cV0 4 dd (hR.2.2.2.2.2.2 h20) rfl hO clX5 rfl mok_Reader_readPart lkM_Reader_165 (d_Reader_readProduct 1 1 (.invokevirtual 165) 3 rfl) rfl (by omega) (Nat.le_of_ble_eq_true rfl) ?_
  refine Ak_iconst 5 (d_Reader_readProduct 2 4 (.iconst 0) 1 rfl) rfl (rk rfl) ?_
  refine Ak_istore_n 6 1 (d_Reader_readProduct 3 5 (.istore_n 1) 1 rfl) rfl rfl (by decide) ?_
  refine Ak_keep [true, true] ?_
  exact t_Reader_readProduct_L6 hO hdd hR FU _ _ _ _ h
theorem t_Reader_readSum_J47 {S : ASh} {R : Nat → ASt → Int → Int → Option (Int × ASt)} {K6 : ASt → Int → Option (Int × ASt)} {V : ASt} {x0 x1 s0 : Int} {r : Int} {V' : ASt} (hO : isO S x0 5 = true) {dd : Nat} (hdd : 20 ≤ dd) (hR : RdOK S R dd) (hK6 : ∀ {V : ASt} {y1 : Int} {r : Int} {V' : ASt}, K6 V y1 = some (r, V') → AWk m_Reader_readSum (dd + 1) 0 0 0 0 6 [some (aR x0), some (aI y1)] [] S V none S V') (h : b_Reader_readSum_J47 S R K6 V x0 x1 s0 = some (r, V')) : AWk m_Reader_readSum (dd + 1) 0 0 0 0 47 [some (aR x0), some (aI x1)] [(aI s0)] S V none S V' := by
  unfold b_Reader_readSum_J47 at h
  refine Ak_istore_n 48 2 (d_Reader_readSum 22 47 (.istore_n 2) 1 rfl) rfl rfl (by decide) ?_
  refine Ak_aload_n 49 0 (d_Reader_readSum 23 48 (.aload_n 0) 1 rfl) rfl rfl rfl ?_
  obtain ⟨r1, V2, h3, h⟩ := bnd_some h
  refine Ak_cV0 52 2 (c_Reader_step h3) rfl hO clX5 rfl mok_Reader_step lkM_Reader_71 (d_Reader_readSum 24 49 (.invokevirtual 71) 3 rfl) rfl (by omega) (Nat.le_of_ble_eq_true rfl) ?_
  refine Ak_aload_n 53 0 (d_Reader_readSum 25 52 (.aload_n 0) 1 rfl) rfl rfl rfl ?_
  obtain ⟨r4, V5, h6, h⟩ := bnd_some h
  refine Ak_cV0 56 dd (hR.2.2.2.2.2.1 h6) rfl hO clX5 rfl mok_Reader_readProduct lkM_Reader_162 (d_Reader_readSum 26 53 (.invokevirtual 162) 3 rfl) rfl (by omega) (Nat.le_of_ble_eq_true rfl) ?_
  refine Ak_aload_n 57 0 (d_Reader_readSum 27 56 (.aload_n 0) 1 rfl) rfl rfl rfl ?_
  refine Ak_getR 60 4 hO clX5 (by decide) rfl lkF_Reader_31 (d_Reader_readSum 28 57 (.getfield 31) 3 rfl) rfl ?_
  obtain ⟨hg7, h⟩ := gd_some h
  refine Ak_getF 63 5 hg7 clX1 (by decide) rfl lkF_Reader_126 (d_Reader_readSum 29 60 (.getfield 126) 3 rfl) rfl ?_
  refine Ak_iload_n 64 2 (d_Reader_readSum 30 63 (.iload_n 2) 1 rfl) rfl rfl rfl ?_
  obtain ⟨hg11, h⟩ := gd_some h
  obtain ⟨r8, V9, h10, h⟩ := bnd_some h
  refine Ak_cV0 67 2 (c_Tests_emit h10) rfl hg11 clX8 rfl mok_Tests_emit lkM_Reader_147 (d_Reader_readSum 31 64 (.invokevirtual 147) 3 rfl) rfl (by omega) (Nat.le_of_ble_eq_true rfl) ?_
  refine Ak_iinc 70 (d_Reader_readSum 32 67 (.iinc 1 1) 3 rfl) rfl rfl (by decide) ?_
  refine Ak_goto 6 (d_Reader_readSum 33 70 (.goto (-64)) 3 rfl) rfl ?_
  refine Ak_keep [true, true] ?_
  exact hK6 h
theorem t_Reader_readSum_J31 {S : ASh} {R : Nat → ASt → Int → Int → Option (Int × ASt)} {K6 : ASt → Int → Option (Int × ASt)} {V : ASt} {x0 x1 : Int} {r : Int} {V' : ASt} (hO : isO S x0 5 = true) {dd : Nat} (hdd : 20 ≤ dd) (hR : RdOK S R dd) (hK6 : ∀ {V : ASt} {y1 : Int} {r : Int} {V' : ASt}, K6 V y1 = some (r, V') → AWk m_Reader_readSum (dd + 1) 0 0 0 0 6 [some (aR x0), some (aI y1)] [] S V none S V') (h : b_Reader_readSum_J31 S R K6 V x0 x1 = some (r, V')) : AWk m_Reader_readSum (dd + 1) 0 0 0 0 31 [some (aR x0), some (aI x1)] [] S V none S V' := by
  unfold b_Reader_readSum_J31 at h
  refine Ak_aload_n 32 0 (d_Reader_readSum 15 31 (.aload_n 0) 1 rfl) rfl rfl rfl ?_
  obtain ⟨r12, V13, h14, h⟩ := bnd_some h
  refine Ak_cV1 35 2 (c_Reader_type h14) rfl hO clX5 rfl mok_Reader_type lkM_Reader_51 (d_Reader_readSum 16 32 (.invokevirtual 51) 3 rfl) rfl (by omega) (Nat.le_of_ble_eq_true rfl) ?_
  refine Ak_bipush 37 (d_Reader_readSum 17 35 (.bipush 43) 2 rfl) rfl (bp_ok rfl) (rk rfl) ?_
  refine Ak_icmp_ne 45 40 (d_Reader_readSum 18 37 (.if_icmp .ne 8) 3 rfl) rfl rfl (fun hc => ?_) (fun hc => ?_)
  · replace h := it_f hc h
    refine Ak_bipush 47 (d_Reader_readSum 21 45 (.bipush (-3)) 2 rfl) rfl (bp_ok rfl) (rk rfl) ?_
    refine Ak_keep [true, true] ?_
    exact t_Reader_readSum_J47 hO hdd hR (fun h => hK6 h) h
  · replace h := it_t hc h
    refine Ak_bipush 42 (d_Reader_readSum 19 40 (.bipush (-2)) 2 rfl) rfl (bp_ok rfl) (rk rfl) ?_
    refine Ak_goto 47 (d_Reader_readSum 20 42 (.goto 5) 3 rfl) rfl ?_
    refine Ak_keep [true, true] ?_
    exact t_Reader_readSum_J47 hO hdd hR (fun h => hK6 h) h
theorem t_Reader_readSum_L6 {S : ASh} {R : Nat → ASt → Int → Int → Option (Int × ASt)} {x0 : Int} (hO : isO S x0 5 = true) {dd : Nat} (hdd : 20 ≤ dd) (hR : RdOK S R dd) : ∀ (n : Nat) (V : ASt) (x1 : Int) (r : Int) (V' : ASt), b_Reader_readSum_L6 S R x0 n V x1 = some (r, V') → AWk m_Reader_readSum (dd + 1) 0 0 0 0 6 [some (aR x0), some (aI x1)] [] S V none S V' := by
  intro n
  induction n with
  | zero => intro V x1 r V' h; cases h
  | succ n ih =>
    intro V x1 r V' h
    replace ih : ∀ {V : ASt} {x1 : Int} {r : Int} {V' : ASt}, b_Reader_readSum_L6 S R x0 n V x1 = some (r, V') → AWk m_Reader_readSum (dd + 1) 0 0 0 0 6 [some (aR x0), some (aI x1)] [] S V none S V' := fun h => ih _ _ _ _ h
    rw [b_Reader_readSum_L6] at h
    refine Ak_iload_n 7 1 (d_Reader_readSum 4 6 (.iload_n 1) 1 rfl) rfl rfl rfl ?_
    refine Ak_sipush 10 (d_Reader_readSum 5 7 (.sipush 1800) 3 rfl) rfl (sp_ok rfl) (rk rfl) ?_
    refine Ak_icmp_ge 73 13 (d_Reader_readSum 6 10 (.if_icmp .ge 63) 3 rfl) rfl rfl (fun hc => ?_) (fun hc => ?_)
    · replace h := it_t hc h
      cases h
      exact Ak_vret rfl (d_Reader_readSum 34 73 (.return_) 1 rfl)
    · replace h := it_f hc h
      refine Ak_aload_n 14 0 (d_Reader_readSum 7 13 (.aload_n 0) 1 rfl) rfl rfl rfl ?_
      obtain ⟨r15, V16, h17, h⟩ := bnd_some h
      refine Ak_cV1 17 2 (c_Reader_type h17) rfl hO clX5 rfl mok_Reader_type lkM_Reader_51 (d_Reader_readSum 8 14 (.invokevirtual 51) 3 rfl) rfl (by omega) (Nat.le_of_ble_eq_true rfl) ?_
      refine Ak_bipush 19 (d_Reader_readSum 9 17 (.bipush 43) 2 rfl) rfl (bp_ok rfl) (rk rfl) ?_
      refine Ak_icmp_eq 31 22 (d_Reader_readSum 10 19 (.if_icmp .eq 12) 3 rfl) rfl rfl (fun hc => ?_) (fun hc => ?_)
      · replace h := it_t hc h
        refine Ak_keep [true, true] ?_
        exact t_Reader_readSum_J31 hO hdd hR (fun h => ih h) h
      · replace h := it_f hc h
        refine Ak_aload_n 23 0 (d_Reader_readSum 11 22 (.aload_n 0) 1 rfl) rfl rfl rfl ?_
        obtain ⟨r18, V19, h20, h⟩ := bnd_some h
        refine Ak_cV1 26 2 (c_Reader_type h20) rfl hO clX5 rfl mok_Reader_type lkM_Reader_51 (d_Reader_readSum 12 23 (.invokevirtual 51) 3 rfl) rfl (by omega) (Nat.le_of_ble_eq_true rfl) ?_
        refine Ak_bipush 28 (d_Reader_readSum 13 26 (.bipush 45) 2 rfl) rfl (bp_ok rfl) (rk rfl) ?_
        refine Ak_icmp_ne 73 31 (d_Reader_readSum 14 28 (.if_icmp .ne 45) 3 rfl) rfl rfl (fun hc => ?_) (fun hc => ?_)
        · replace h := it_f hc h
          cases h
          exact Ak_vret rfl (d_Reader_readSum 34 73 (.return_) 1 rfl)
        · replace h := it_t hc h
          refine Ak_keep [true, true] ?_
          exact t_Reader_readSum_J31 hO hdd hR (fun h => ih h) h
theorem c_Reader_readSum {S : ASh} {V : ASt} {x0 : Int} {r : Int} {V' : ASt} {R : Nat → ASt → Int → Int → Option (Int × ASt)} {dd : Nat} (hdd : 20 ≤ dd) (hR : RdOK S R dd) (h : f_Reader_readSum S R V x0 = some (r, V')) : ACt m_Reader_readSum (dd + 1) 0 0 [(aR x0)] S V none S V' := by
  unfold f_Reader_readSum at h
  obtain ⟨hO, h⟩ := gd_some h
  refine ACt_of (plainFor_of_name rfl) rfl (Nat.le_of_ble_eq_true rfl) ?_
  show AWk m_Reader_readSum (dd + 1) 0 0 0 0 0 [some (aR x0)] [] S V none S V'
  refine Ak_aload_n 1 0 (d_Reader_readSum 0 0 (.aload_n 0) 1 rfl) rfl rfl rfl ?_
  obtain ⟨r21, V22, h23, h⟩ := bnd_some h
  refine Ak_cV0 4 dd (hR.2.2.2.2.2.1 h23) rfl hO clX5 rfl mok_Reader_readProduct lkM_Reader_162 (d_Reader_readSum 1 1 (.invokevirtual 162) 3 rfl) rfl (by omega) (Nat.le_of_ble_eq_true rfl) ?_
  refine Ak_iconst 5 (d_Reader_readSum 2 4 (.iconst 0) 1 rfl) rfl (rk rfl) ?_
  refine Ak_istore_n 6 1 (d_Reader_readSum 3 5 (.istore_n 1) 1 rfl) rfl rfl (by decide) ?_
  refine Ak_keep [true, true] ?_
  exact t_Reader_readSum_L6 hO hdd hR FU _ _ _ _ h
theorem t_Reader_readFact_J148 {S : ASh} {R : Nat → ASt → Int → Int → Option (Int × ASt)} {V : ASt} {x0 x1 : Int} {r : Int} {V' : ASt} (hO : isO S x0 5 = true) {dd : Nat} (hdd : 20 ≤ dd) (hR : RdOK S R dd) (h : b_Reader_readFact_J148 S R V x0 x1 = some (r, V')) : AWk m_Reader_readFact (dd + 1) 0 0 0 0 148 [some (aR x0), some (aI x1)] [] S V none S V' := by
  unfold b_Reader_readFact_J148 at h
  refine Ak_iload_n 149 1 (d_Reader_readFact 73 148 (.iload_n 1) 1 rfl) rfl rfl rfl ?_
  refine Ak_if_eq 164 152 (d_Reader_readFact 74 149 (.ifCond .eq 15) 3 rfl) rfl rfl (fun hc => ?_) (fun hc => ?_)
  · replace h := it_t hc h
    cases h
    exact Ak_vret rfl (d_Reader_readFact 80 164 (.return_) 1 rfl)
  · replace h := it_f hc h
    refine Ak_aload_n 153 0 (d_Reader_readFact 75 152 (.aload_n 0) 1 rfl) rfl rfl rfl ?_
    refine Ak_getR 156 4 hO clX5 (by decide) rfl lkF_Reader_31 (d_Reader_readFact 76 153 (.getfield 31) 3 rfl) rfl ?_
    obtain ⟨hg1, h⟩ := gd_some h
    refine Ak_getF 159 5 hg1 clX1 (by decide) rfl lkF_Reader_126 (d_Reader_readFact 77 156 (.getfield 126) 3 rfl) rfl ?_
    refine Ak_bipush 161 (d_Reader_readFact 78 159 (.bipush (-14)) 2 rfl) rfl (bp_ok rfl) (rk rfl) ?_
    obtain ⟨hg5, h⟩ := gd_some h
    obtain ⟨r2, V3, h4, h⟩ := bnd_some h
    refine Ak_cV0 164 2 (c_Tests_emit h4) rfl hg5 clX8 rfl mok_Tests_emit lkM_Reader_147 (d_Reader_readFact 79 161 (.invokevirtual 147) 3 rfl) rfl (by omega) (Nat.le_of_ble_eq_true rfl) ?_
    cases h
    exact Ak_vret rfl (d_Reader_readFact 80 164 (.return_) 1 rfl)
theorem t_Reader_readFact_J41 {S : ASh} {R : Nat → ASt → Int → Int → Option (Int × ASt)} {V : ASt} {x0 x1 : Int} {r : Int} {V' : ASt} (hO : isO S x0 5 = true) {dd : Nat} (hdd : 20 ≤ dd) (hR : RdOK S R dd) (h : b_Reader_readFact_J41 S R V x0 x1 = some (r, V')) : AWk m_Reader_readFact (dd + 1) 0 0 0 0 41 [some (aR x0), some (aI x1)] [] S V none S V' := by
  unfold b_Reader_readFact_J41 at h
  refine Ak_aload_n 42 0 (d_Reader_readFact 21 41 (.aload_n 0) 1 rfl) rfl rfl rfl ?_
  obtain ⟨r6, V7, h8, h⟩ := bnd_some h
  refine Ak_cV1 45 2 (c_Reader_type h8) rfl hO clX5 rfl mok_Reader_type lkM_Reader_51 (d_Reader_readFact 22 42 (.invokevirtual 51) 3 rfl) rfl (by omega) (Nat.le_of_ble_eq_true rfl) ?_
  refine Ak_bipush 47 (d_Reader_readFact 23 45 (.bipush 91) 2 rfl) rfl (bp_ok rfl) (rk rfl) ?_
  refine Ak_icmp_ne 79 50 (d_Reader_readFact 24 47 (.if_icmp .ne 32) 3 rfl) rfl rfl (fun hc => ?_) (fun hc => ?_)
  · replace h := it_f hc h
    refine Ak_aload_n 80 0 (d_Reader_readFact 40 79 (.aload_n 0) 1 rfl) rfl rfl rfl ?_
    obtain ⟨r9, V10, h11, h⟩ := bnd_some h
    refine Ak_cV1 83 2 (c_Reader_type h11) rfl hO clX5 rfl mok_Reader_type lkM_Reader_51 (d_Reader_readFact 41 80 (.invokevirtual 51) 3 rfl) rfl (by omega) (Nat.le_of_ble_eq_true rfl) ?_
    refine Ak_sipush 86 (d_Reader_readFact 42 83 (.sipush 273) 3 rfl) rfl (sp_ok rfl) (rk rfl) ?_
    refine Ak_icmp_ne 107 89 (d_Reader_readFact 43 86 (.if_icmp .ne 21) 3 rfl) rfl rfl (fun hc => ?_) (fun hc => ?_)
    · replace h := it_f hc h
      refine Ak_aload_n 108 0 (d_Reader_readFact 52 107 (.aload_n 0) 1 rfl) rfl rfl rfl ?_
      obtain ⟨r12, V13, h14, h⟩ := bnd_some h
      refine Ak_cV0 111 dd (hR.2.2.2.2.1 h14) rfl hO clX5 rfl mok_Reader_readSum lkM_Reader_156 (d_Reader_readFact 53 108 (.invokevirtual 156) 3 rfl) rfl (by omega) (Nat.le_of_ble_eq_true rfl) ?_
      refine Ak_aload_n 112 0 (d_Reader_readFact 54 111 (.aload_n 0) 1 rfl) rfl rfl rfl ?_
      obtain ⟨r15, V16, h17, h⟩ := bnd_some h
      refine Ak_cV1 115 3 (c_Reader_comparisonTold h17) rfl hO clX5 rfl mok_Reader_comparisonTold lkM_Reader_159 (d_Reader_readFact 55 112 (.invokevirtual 159) 3 rfl) rfl (by omega) (Nat.le_of_ble_eq_true rfl) ?_
      refine Ak_istore_n 116 2 (d_Reader_readFact 56 115 (.istore_n 2) 1 rfl) rfl rfl (by decide) ?_
      refine Ak_iload_n 117 2 (d_Reader_readFact 57 116 (.iload_n 2) 1 rfl) rfl rfl rfl ?_
      refine Ak_iconst 118 (d_Reader_readFact 58 117 (.iconst (-1)) 1 rfl) rfl (rk rfl) ?_
      refine Ak_icmp_ne 129 121 (d_Reader_readFact 59 118 (.if_icmp .ne 11) 3 rfl) rfl rfl (fun hc => ?_) (fun hc => ?_)
      · replace h := it_f hc h
        refine Ak_aload_n 130 0 (d_Reader_readFact 64 129 (.aload_n 0) 1 rfl) rfl rfl rfl ?_
        obtain ⟨r18, V19, h20, h⟩ := bnd_some h
        refine Ak_cV0 133 2 (c_Reader_step h20) rfl hO clX5 rfl mok_Reader_step lkM_Reader_71 (d_Reader_readFact 65 130 (.invokevirtual 71) 3 rfl) rfl (by omega) (Nat.le_of_ble_eq_true rfl) ?_
        refine Ak_aload_n 134 0 (d_Reader_readFact 66 133 (.aload_n 0) 1 rfl) rfl rfl rfl ?_
        obtain ⟨r21, V22, h23, h⟩ := bnd_some h
        refine Ak_cV0 137 dd (hR.2.2.2.2.1 h23) rfl hO clX5 rfl mok_Reader_readSum lkM_Reader_156 (d_Reader_readFact 67 134 (.invokevirtual 156) 3 rfl) rfl (by omega) (Nat.le_of_ble_eq_true rfl) ?_
        refine Ak_aload_n 138 0 (d_Reader_readFact 68 137 (.aload_n 0) 1 rfl) rfl rfl rfl ?_
        refine Ak_getR 141 4 hO clX5 (by decide) rfl lkF_Reader_31 (d_Reader_readFact 69 138 (.getfield 31) 3 rfl) rfl ?_
        obtain ⟨hg24, h⟩ := gd_some h
        refine Ak_getF 144 5 hg24 clX1 (by decide) rfl lkF_Reader_126 (d_Reader_readFact 70 141 (.getfield 126) 3 rfl) rfl ?_
        refine Ak_iload_n 145 2 (d_Reader_readFact 71 144 (.iload_n 2) 1 rfl) rfl rfl rfl ?_
        obtain ⟨hg28, h⟩ := gd_some h
        obtain ⟨r25, V26, h27, h⟩ := bnd_some h
        refine Ak_cV0 148 2 (c_Tests_emit h27) rfl hg28 clX8 rfl mok_Tests_emit lkM_Reader_147 (d_Reader_readFact 72 145 (.invokevirtual 147) 3 rfl) rfl (by omega) (Nat.le_of_ble_eq_true rfl) ?_
        refine Ak_keep [true, true] ?_
        exact t_Reader_readFact_J148 hO hdd hR h
      · replace h := it_t hc h
        refine Ak_aload_n 122 0 (d_Reader_readFact 60 121 (.aload_n 0) 1 rfl) rfl rfl rfl ?_
        refine Ak_iconst 123 (d_Reader_readFact 61 122 (.iconst 1) 1 rfl) rfl (rk rfl) ?_
        obtain ⟨r29, V30, h31, h⟩ := bnd_some h
        refine Ak_cV0 126 2 (c_Reader_fail h31) rfl hO clX5 rfl mok_Reader_fail lkM_Reader_74 (d_Reader_readFact 62 123 (.invokevirtual 74) 3 rfl) rfl (by omega) (Nat.le_of_ble_eq_true rfl) ?_
        refine Ak_goto 148 (d_Reader_readFact 63 126 (.goto 22) 3 rfl) rfl ?_
        refine Ak_keep [true, true] ?_
        exact t_Reader_readFact_J148 hO hdd hR h
    · replace h := it_t hc h
      refine Ak_aload_n 90 0 (d_Reader_readFact 44 89 (.aload_n 0) 1 rfl) rfl rfl rfl ?_
      obtain ⟨r32, V33, h34, h⟩ := bnd_some h
      refine Ak_cV0 93 2 (c_Reader_step h34) rfl hO clX5 rfl mok_Reader_step lkM_Reader_71 (d_Reader_readFact 45 90 (.invokevirtual 71) 3 rfl) rfl (by omega) (Nat.le_of_ble_eq_true rfl) ?_
      refine Ak_aload_n 94 0 (d_Reader_readFact 46 93 (.aload_n 0) 1 rfl) rfl rfl rfl ?_
      refine Ak_getR 97 4 hO clX5 (by decide) rfl lkF_Reader_31 (d_Reader_readFact 47 94 (.getfield 31) 3 rfl) rfl ?_
      obtain ⟨hg35, h⟩ := gd_some h
      refine Ak_getF 100 5 hg35 clX1 (by decide) rfl lkF_Reader_126 (d_Reader_readFact 48 97 (.getfield 126) 3 rfl) rfl ?_
      refine Ak_iconst 101 (d_Reader_readFact 49 100 (.iconst 1) 1 rfl) rfl (rk rfl) ?_
      obtain ⟨hg39, h⟩ := gd_some h
      obtain ⟨r36, V37, h38, h⟩ := bnd_some h
      refine Ak_cV0 104 2 (c_Tests_emit h38) rfl hg39 clX8 rfl mok_Tests_emit lkM_Reader_147 (d_Reader_readFact 50 101 (.invokevirtual 147) 3 rfl) rfl (by omega) (Nat.le_of_ble_eq_true rfl) ?_
      refine Ak_goto 148 (d_Reader_readFact 51 104 (.goto 44) 3 rfl) rfl ?_
      refine Ak_keep [true, true] ?_
      exact t_Reader_readFact_J148 hO hdd hR h
  · replace h := it_t hc h
    refine Ak_aload_n 51 0 (d_Reader_readFact 25 50 (.aload_n 0) 1 rfl) rfl rfl rfl ?_
    refine Ak_bipush 53 (d_Reader_readFact 26 51 (.bipush 91) 2 rfl) rfl (bp_ok rfl) (rk rfl) ?_
    obtain ⟨r40, V41, h42, h⟩ := bnd_some h
    refine Ak_cV0 56 3 (c_Reader_openBracket h42) rfl hO clX5 rfl mok_Reader_openBracket lkM_Reader_153 (d_Reader_readFact 27 53 (.invokevirtual 153) 3 rfl) rfl (by omega) (Nat.le_of_ble_eq_true rfl) ?_
    refine Ak_aload_n 57 0 (d_Reader_readFact 28 56 (.aload_n 0) 1 rfl) rfl rfl rfl ?_
    obtain ⟨r43, V44, h45, h⟩ := bnd_some h
    refine Ak_cV0 60 dd (hR.1 h45) rfl hO clX5 rfl mok_Reader_readTest lkM_Reader_123 (d_Reader_readFact 29 57 (.invokevirtual 123) 3 rfl) rfl (by omega) (Nat.le_of_ble_eq_true rfl) ?_
    refine Ak_aload_n 61 0 (d_Reader_readFact 30 60 (.aload_n 0) 1 rfl) rfl rfl rfl ?_
    refine Ak_bipush 63 (d_Reader_readFact 31 61 (.bipush 93) 2 rfl) rfl (bp_ok rfl) (rk rfl) ?_
    obtain ⟨r46, V47, h48, h⟩ := bnd_some h
    refine Ak_cV0 66 3 (c_Reader_take h48) rfl hO clX5 rfl mok_Reader_take lkM_Reader_47 (d_Reader_readFact 32 63 (.invokevirtual 47) 3 rfl) rfl (by omega) (Nat.le_of_ble_eq_true rfl) ?_
    refine Ak_aload_n 67 0 (d_Reader_readFact 33 66 (.aload_n 0) 1 rfl) rfl rfl rfl ?_
    refine Ak_dup 68 (d_Reader_readFact 34 67 (.dup) 1 rfl) rfl rfl ?_
    refine Ak_getI 71 5 hO clX5 (by decide) (Or.inl rfl) lkF_Reader_28 (d_Reader_readFact 35 68 (.getfield 28) 3 rfl) rfl ?_
    refine Ak_iconst 72 (d_Reader_readFact 36 71 (.iconst 1) 1 rfl) rfl (rk rfl) ?_
    refine Ak_isub 73 (d_Reader_readFact 37 72 (.isub) 1 rfl) rfl ?_
    refine Ak_putI 76 5 hO clX5 (by decide) rfl rfl rfl lkF_Reader_28 (d_Reader_readFact 38 73 (.putfield 28) 3 rfl) rfl (fun V49 hV49 => ?_)
    replace h := wV_some h V49 hV49
    refine Ak_goto 148 (d_Reader_readFact 39 76 (.goto 72) 3 rfl) rfl ?_
    refine Ak_keep [true, true] ?_
    exact t_Reader_readFact_J148 hO hdd hR h
theorem t_Reader_readFact_L4 {S : ASh} {R : Nat → ASt → Int → Int → Option (Int × ASt)} {x0 : Int} (hO : isO S x0 5 = true) {dd : Nat} (hdd : 20 ≤ dd) (hR : RdOK S R dd) : ∀ (n : Nat) (V : ASt) (x1 x2 : Int) (r : Int) (V' : ASt), b_Reader_readFact_L4 S R x0 n V x1 x2 = some (r, V') → AWk m_Reader_readFact (dd + 1) 0 0 0 0 4 [some (aR x0), some (aI x1), some (aI x2)] [] S V none S V' := by
  intro n
  induction n with
  | zero => intro V x1 x2 r V' h; cases h
  | succ n ih =>
    intro V x1 x2 r V' h
    replace ih : ∀ {V : ASt} {x1 x2 : Int} {r : Int} {V' : ASt}, b_Reader_readFact_L4 S R x0 n V x1 x2 = some (r, V') → AWk m_Reader_readFact (dd + 1) 0 0 0 0 4 [some (aR x0), some (aI x1), some (aI x2)] [] S V none S V' := fun h => ih _ _ _ _ _ h
    rw [b_Reader_readFact_L4] at h
    refine Ak_iload_n 5 2 (d_Reader_readFact 4 4 (.iload_n 2) 1 rfl) rfl rfl rfl ?_
    refine Ak_sipush 8 (d_Reader_readFact 5 5 (.sipush 1800) 3 rfl) rfl (sp_ok rfl) (rk rfl) ?_
    refine Ak_icmp_ge 41 11 (d_Reader_readFact 6 8 (.if_icmp .ge 33) 3 rfl) rfl rfl (fun hc => ?_) (fun hc => ?_)
    · replace h := it_t hc h
      refine Ak_keep [true, true] ?_
      exact t_Reader_readFact_J41 hO hdd hR h
    · replace h := it_f hc h
      refine Ak_aload_n 12 0 (d_Reader_readFact 7 11 (.aload_n 0) 1 rfl) rfl rfl rfl ?_
      obtain ⟨r50, V51, h52, h⟩ := bnd_some h
      refine Ak_cV1 15 2 (c_Reader_type h52) rfl hO clX5 rfl mok_Reader_type lkM_Reader_51 (d_Reader_readFact 8 12 (.invokevirtual 51) 3 rfl) rfl (by omega) (Nat.le_of_ble_eq_true rfl) ?_
      refine Ak_sipush 18 (d_Reader_readFact 9 15 (.sipush 266) 3 rfl) rfl (sp_ok rfl) (rk rfl) ?_
      refine Ak_icmp_ne 41 21 (d_Reader_readFact 10 18 (.if_icmp .ne 23) 3 rfl) rfl rfl (fun hc => ?_) (fun hc => ?_)
      · replace h := it_f hc h
        refine Ak_keep [true, true] ?_
        exact t_Reader_readFact_J41 hO hdd hR h
      · replace h := it_t hc h
        refine Ak_aload_n 22 0 (d_Reader_readFact 11 21 (.aload_n 0) 1 rfl) rfl rfl rfl ?_
        obtain ⟨r53, V54, h55, h⟩ := bnd_some h
        refine Ak_cV0 25 2 (c_Reader_step h55) rfl hO clX5 rfl mok_Reader_step lkM_Reader_71 (d_Reader_readFact 12 22 (.invokevirtual 71) 3 rfl) rfl (by omega) (Nat.le_of_ble_eq_true rfl) ?_
        refine Ak_iload_n 26 1 (d_Reader_readFact 13 25 (.iload_n 1) 1 rfl) rfl rfl rfl ?_
        refine Ak_if_ne 33 29 (d_Reader_readFact 14 26 (.ifCond .ne 7) 3 rfl) rfl rfl (fun hc => ?_) (fun hc => ?_)
        · replace h := it_f hc h
          refine Ak_iconst 34 (d_Reader_readFact 17 33 (.iconst 0) 1 rfl) rfl (rk rfl) ?_
          refine Ak_istore_n 35 1 (d_Reader_readFact 18 34 (.istore_n 1) 1 rfl) rfl rfl (by decide) ?_
          refine Ak_iinc 38 (d_Reader_readFact 19 35 (.iinc 2 1) 3 rfl) rfl rfl (by decide) ?_
          refine Ak_goto 4 (d_Reader_readFact 20 38 (.goto (-34)) 3 rfl) rfl ?_
          refine Ak_keep [true, true, true] ?_
          exact ih h
        · replace h := it_t hc h
          refine Ak_iconst 30 (d_Reader_readFact 15 29 (.iconst 1) 1 rfl) rfl (rk rfl) ?_
          refine Ak_goto 34 (d_Reader_readFact 16 30 (.goto 4) 3 rfl) rfl ?_
          refine Ak_istore_n 35 1 (d_Reader_readFact 18 34 (.istore_n 1) 1 rfl) rfl rfl (by decide) ?_
          refine Ak_iinc 38 (d_Reader_readFact 19 35 (.iinc 2 1) 3 rfl) rfl rfl (by decide) ?_
          refine Ak_goto 4 (d_Reader_readFact 20 38 (.goto (-34)) 3 rfl) rfl ?_
          refine Ak_keep [true, true, true] ?_
          exact ih h
theorem c_Reader_readFact {S : ASh} {V : ASt} {x0 : Int} {r : Int} {V' : ASt} {R : Nat → ASt → Int → Int → Option (Int × ASt)} {dd : Nat} (hdd : 20 ≤ dd) (hR : RdOK S R dd) (h : f_Reader_readFact S R V x0 = some (r, V')) : ACt m_Reader_readFact (dd + 1) 0 0 [(aR x0)] S V none S V' := by
  unfold f_Reader_readFact at h
  obtain ⟨hO, h⟩ := gd_some h
  refine ACt_of (plainFor_of_name rfl) rfl (Nat.le_of_ble_eq_true rfl) ?_
  show AWk m_Reader_readFact (dd + 1) 0 0 0 0 0 [some (aR x0)] [] S V none S V'
  refine Ak_iconst 1 (d_Reader_readFact 0 0 (.iconst 0) 1 rfl) rfl (rk rfl) ?_
  refine Ak_istore_n 2 1 (d_Reader_readFact 1 1 (.istore_n 1) 1 rfl) rfl rfl (by decide) ?_
  refine Ak_iconst 3 (d_Reader_readFact 2 2 (.iconst 0) 1 rfl) rfl (rk rfl) ?_
  refine Ak_istore_n 4 2 (d_Reader_readFact 3 3 (.istore_n 2) 1 rfl) rfl rfl (by decide) ?_
  refine Ak_keep [true, true, true] ?_
  exact t_Reader_readFact_L4 hO hdd hR FU _ _ _ _ _ h
theorem t_Reader_readBoth_L6 {S : ASh} {R : Nat → ASt → Int → Int → Option (Int × ASt)} {x0 : Int} (hO : isO S x0 5 = true) {dd : Nat} (hdd : 20 ≤ dd) (hR : RdOK S R dd) : ∀ (n : Nat) (V : ASt) (x1 : Int) (r : Int) (V' : ASt), b_Reader_readBoth_L6 S R x0 n V x1 = some (r, V') → AWk m_Reader_readBoth (dd + 1) 0 0 0 0 6 [some (aR x0), some (aI x1)] [] S V none S V' := by
  intro n
  induction n with
  | zero => intro V x1 r V' h; cases h
  | succ n ih =>
    intro V x1 r V' h
    replace ih : ∀ {V : ASt} {x1 : Int} {r : Int} {V' : ASt}, b_Reader_readBoth_L6 S R x0 n V x1 = some (r, V') → AWk m_Reader_readBoth (dd + 1) 0 0 0 0 6 [some (aR x0), some (aI x1)] [] S V none S V' := fun h => ih _ _ _ _ h
    rw [b_Reader_readBoth_L6] at h
    refine Ak_iload_n 7 1 (d_Reader_readBoth 4 6 (.iload_n 1) 1 rfl) rfl rfl rfl ?_
    refine Ak_sipush 10 (d_Reader_readBoth 5 7 (.sipush 1800) 3 rfl) rfl (sp_ok rfl) (rk rfl) ?_
    refine Ak_icmp_ge 49 13 (d_Reader_readBoth 6 10 (.if_icmp .ge 39) 3 rfl) rfl rfl (fun hc => ?_) (fun hc => ?_)
    · replace h := it_t hc h
      cases h
      exact Ak_vret rfl (d_Reader_readBoth 22 49 (.return_) 1 rfl)
    · replace h := it_f hc h
      refine Ak_aload_n 14 0 (d_Reader_readBoth 7 13 (.aload_n 0) 1 rfl) rfl rfl rfl ?_
      obtain ⟨r1, V2, h3, h⟩ := bnd_some h
      refine Ak_cV1 17 2 (c_Reader_type h3) rfl hO clX5 rfl mok_Reader_type lkM_Reader_51 (d_Reader_readBoth 8 14 (.invokevirtual 51) 3 rfl) rfl (by omega) (Nat.le_of_ble_eq_true rfl) ?_
      refine Ak_sipush 20 (d_Reader_readBoth 9 17 (.sipush 272) 3 rfl) rfl (sp_ok rfl) (rk rfl) ?_
      refine Ak_icmp_ne 49 23 (d_Reader_readBoth 10 20 (.if_icmp .ne 29) 3 rfl) rfl rfl (fun hc => ?_) (fun hc => ?_)
      · replace h := it_f hc h
        cases h
        exact Ak_vret rfl (d_Reader_readBoth 22 49 (.return_) 1 rfl)
      · replace h := it_t hc h
        refine Ak_aload_n 24 0 (d_Reader_readBoth 11 23 (.aload_n 0) 1 rfl) rfl rfl rfl ?_
        obtain ⟨r4, V5, h6, h⟩ := bnd_some h
        refine Ak_cV0 27 2 (c_Reader_step h6) rfl hO clX5 rfl mok_Reader_step lkM_Reader_71 (d_Reader_readBoth 12 24 (.invokevirtual 71) 3 rfl) rfl (by omega) (Nat.le_of_ble_eq_true rfl) ?_
        refine Ak_aload_n 28 0 (d_Reader_readBoth 13 27 (.aload_n 0) 1 rfl) rfl rfl rfl ?_
        obtain ⟨r7, V8, h9, h⟩ := bnd_some h
        refine Ak_cV0 31 dd (hR.2.2.1 h9) rfl hO clX5 rfl mok_Reader_readFact lkM_Reader_150 (d_Reader_readBoth 14 28 (.invokevirtual 150) 3 rfl) rfl (by omega) (Nat.le_of_ble_eq_true rfl) ?_
        refine Ak_aload_n 32 0 (d_Reader_readBoth 15 31 (.aload_n 0) 1 rfl) rfl rfl rfl ?_
        refine Ak_getR 35 4 hO clX5 (by decide) rfl lkF_Reader_31 (d_Reader_readBoth 16 32 (.getfield 31) 3 rfl) rfl ?_
        obtain ⟨hg10, h⟩ := gd_some h
        refine Ak_getF 38 5 hg10 clX1 (by decide) rfl lkF_Reader_126 (d_Reader_readBoth 17 35 (.getfield 126) 3 rfl) rfl ?_
        refine Ak_bipush 40 (d_Reader_readBoth 18 38 (.bipush (-12)) 2 rfl) rfl (bp_ok rfl) (rk rfl) ?_
        obtain ⟨hg14, h⟩ := gd_some h
        obtain ⟨r11, V12, h13, h⟩ := bnd_some h
        refine Ak_cV0 43 2 (c_Tests_emit h13) rfl hg14 clX8 rfl mok_Tests_emit lkM_Reader_147 (d_Reader_readBoth 19 40 (.invokevirtual 147) 3 rfl) rfl (by omega) (Nat.le_of_ble_eq_true rfl) ?_
        refine Ak_iinc 46 (d_Reader_readBoth 20 43 (.iinc 1 1) 3 rfl) rfl rfl (by decide) ?_
        refine Ak_goto 6 (d_Reader_readBoth 21 46 (.goto (-40)) 3 rfl) rfl ?_
        refine Ak_keep [true, true] ?_
        exact ih h
theorem c_Reader_readBoth {S : ASh} {V : ASt} {x0 : Int} {r : Int} {V' : ASt} {R : Nat → ASt → Int → Int → Option (Int × ASt)} {dd : Nat} (hdd : 20 ≤ dd) (hR : RdOK S R dd) (h : f_Reader_readBoth S R V x0 = some (r, V')) : ACt m_Reader_readBoth (dd + 1) 0 0 [(aR x0)] S V none S V' := by
  unfold f_Reader_readBoth at h
  obtain ⟨hO, h⟩ := gd_some h
  refine ACt_of (plainFor_of_name rfl) rfl (Nat.le_of_ble_eq_true rfl) ?_
  show AWk m_Reader_readBoth (dd + 1) 0 0 0 0 0 [some (aR x0)] [] S V none S V'
  refine Ak_aload_n 1 0 (d_Reader_readBoth 0 0 (.aload_n 0) 1 rfl) rfl rfl rfl ?_
  obtain ⟨r15, V16, h17, h⟩ := bnd_some h
  refine Ak_cV0 4 dd (hR.2.2.1 h17) rfl hO clX5 rfl mok_Reader_readFact lkM_Reader_150 (d_Reader_readBoth 1 1 (.invokevirtual 150) 3 rfl) rfl (by omega) (Nat.le_of_ble_eq_true rfl) ?_
  refine Ak_iconst 5 (d_Reader_readBoth 2 4 (.iconst 0) 1 rfl) rfl (rk rfl) ?_
  refine Ak_istore_n 6 1 (d_Reader_readBoth 3 5 (.istore_n 1) 1 rfl) rfl rfl (by decide) ?_
  refine Ak_keep [true, true] ?_
  exact t_Reader_readBoth_L6 hO hdd hR FU _ _ _ _ h
theorem t_Reader_readTest_L6 {S : ASh} {R : Nat → ASt → Int → Int → Option (Int × ASt)} {x0 : Int} (hO : isO S x0 5 = true) {dd : Nat} (hdd : 20 ≤ dd) (hR : RdOK S R dd) : ∀ (n : Nat) (V : ASt) (x1 : Int) (r : Int) (V' : ASt), b_Reader_readTest_L6 S R x0 n V x1 = some (r, V') → AWk m_Reader_readTest (dd + 1) 0 0 0 0 6 [some (aR x0), some (aI x1)] [] S V none S V' := by
  intro n
  induction n with
  | zero => intro V x1 r V' h; cases h
  | succ n ih =>
    intro V x1 r V' h
    replace ih : ∀ {V : ASt} {x1 : Int} {r : Int} {V' : ASt}, b_Reader_readTest_L6 S R x0 n V x1 = some (r, V') → AWk m_Reader_readTest (dd + 1) 0 0 0 0 6 [some (aR x0), some (aI x1)] [] S V none S V' := fun h => ih _ _ _ _ h
    rw [b_Reader_readTest_L6] at h
    refine Ak_iload_n 7 1 (d_Reader_readTest 4 6 (.iload_n 1) 1 rfl) rfl rfl rfl ?_
    refine Ak_sipush 10 (d_Reader_readTest 5 7 (.sipush 1800) 3 rfl) rfl (sp_ok rfl) (rk rfl) ?_
    refine Ak_icmp_ge 49 13 (d_Reader_readTest 6 10 (.if_icmp .ge 39) 3 rfl) rfl rfl (fun hc => ?_) (fun hc => ?_)
    · replace h := it_t hc h
      cases h
      exact Ak_vret rfl (d_Reader_readTest 22 49 (.return_) 1 rfl)
    · replace h := it_f hc h
      refine Ak_aload_n 14 0 (d_Reader_readTest 7 13 (.aload_n 0) 1 rfl) rfl rfl rfl ?_
      obtain ⟨r1, V2, h3, h⟩ := bnd_some h
      refine Ak_cV1 17 2 (c_Reader_type h3) rfl hO clX5 rfl mok_Reader_type lkM_Reader_51 (d_Reader_readTest 8 14 (.invokevirtual 51) 3 rfl) rfl (by omega) (Nat.le_of_ble_eq_true rfl) ?_
      refine Ak_sipush 20 (d_Reader_readTest 9 17 (.sipush 271) 3 rfl) rfl (sp_ok rfl) (rk rfl) ?_
      refine Ak_icmp_ne 49 23 (d_Reader_readTest 10 20 (.if_icmp .ne 29) 3 rfl) rfl rfl (fun hc => ?_) (fun hc => ?_)
      · replace h := it_f hc h
        cases h
        exact Ak_vret rfl (d_Reader_readTest 22 49 (.return_) 1 rfl)
      · replace h := it_t hc h
        refine Ak_aload_n 24 0 (d_Reader_readTest 11 23 (.aload_n 0) 1 rfl) rfl rfl rfl ?_
        obtain ⟨r4, V5, h6, h⟩ := bnd_some h
        refine Ak_cV0 27 2 (c_Reader_step h6) rfl hO clX5 rfl mok_Reader_step lkM_Reader_71 (d_Reader_readTest 12 24 (.invokevirtual 71) 3 rfl) rfl (by omega) (Nat.le_of_ble_eq_true rfl) ?_
        refine Ak_aload_n 28 0 (d_Reader_readTest 13 27 (.aload_n 0) 1 rfl) rfl rfl rfl ?_
        obtain ⟨r7, V8, h9, h⟩ := bnd_some h
        refine Ak_cV0 31 dd (hR.2.1 h9) rfl hO clX5 rfl mok_Reader_readBoth lkM_Reader_144 (d_Reader_readTest 14 28 (.invokevirtual 144) 3 rfl) rfl (by omega) (Nat.le_of_ble_eq_true rfl) ?_
        refine Ak_aload_n 32 0 (d_Reader_readTest 15 31 (.aload_n 0) 1 rfl) rfl rfl rfl ?_
        refine Ak_getR 35 4 hO clX5 (by decide) rfl lkF_Reader_31 (d_Reader_readTest 16 32 (.getfield 31) 3 rfl) rfl ?_
        obtain ⟨hg10, h⟩ := gd_some h
        refine Ak_getF 38 5 hg10 clX1 (by decide) rfl lkF_Reader_126 (d_Reader_readTest 17 35 (.getfield 126) 3 rfl) rfl ?_
        refine Ak_bipush 40 (d_Reader_readTest 18 38 (.bipush (-13)) 2 rfl) rfl (bp_ok rfl) (rk rfl) ?_
        obtain ⟨hg14, h⟩ := gd_some h
        obtain ⟨r11, V12, h13, h⟩ := bnd_some h
        refine Ak_cV0 43 2 (c_Tests_emit h13) rfl hg14 clX8 rfl mok_Tests_emit lkM_Reader_147 (d_Reader_readTest 19 40 (.invokevirtual 147) 3 rfl) rfl (by omega) (Nat.le_of_ble_eq_true rfl) ?_
        refine Ak_iinc 46 (d_Reader_readTest 20 43 (.iinc 1 1) 3 rfl) rfl rfl (by decide) ?_
        refine Ak_goto 6 (d_Reader_readTest 21 46 (.goto (-40)) 3 rfl) rfl ?_
        refine Ak_keep [true, true] ?_
        exact ih h
theorem c_Reader_readTest {S : ASh} {V : ASt} {x0 : Int} {r : Int} {V' : ASt} {R : Nat → ASt → Int → Int → Option (Int × ASt)} {dd : Nat} (hdd : 20 ≤ dd) (hR : RdOK S R dd) (h : f_Reader_readTest S R V x0 = some (r, V')) : ACt m_Reader_readTest (dd + 1) 0 0 [(aR x0)] S V none S V' := by
  unfold f_Reader_readTest at h
  obtain ⟨hO, h⟩ := gd_some h
  refine ACt_of (plainFor_of_name rfl) rfl (Nat.le_of_ble_eq_true rfl) ?_
  show AWk m_Reader_readTest (dd + 1) 0 0 0 0 0 [some (aR x0)] [] S V none S V'
  refine Ak_aload_n 1 0 (d_Reader_readTest 0 0 (.aload_n 0) 1 rfl) rfl rfl rfl ?_
  obtain ⟨r15, V16, h17, h⟩ := bnd_some h
  refine Ak_cV0 4 dd (hR.2.1 h17) rfl hO clX5 rfl mok_Reader_readBoth lkM_Reader_144 (d_Reader_readTest 1 1 (.invokevirtual 144) 3 rfl) rfl (by omega) (Nat.le_of_ble_eq_true rfl) ?_
  refine Ak_iconst 5 (d_Reader_readTest 2 4 (.iconst 0) 1 rfl) rfl (rk rfl) ?_
  refine Ak_istore_n 6 1 (d_Reader_readTest 3 5 (.istore_n 1) 1 rfl) rfl rfl (by decide) ?_
  refine Ak_keep [true, true] ?_
  exact t_Reader_readTest_L6 hO hdd hR FU _ _ _ _ h
theorem c_RDn (S : ASh) : ∀ n : Nat, RdOK S (f_RD S n) (20 + n)
  | 0 => by
    refine ⟨?_, ?_, ?_, ?_, ?_, ?_, ?_⟩ <;> (intros; rename_i h; cases h)
  | n + 1 => by
    have ih := c_RDn S n
    refine ⟨?_, ?_, ?_, ?_, ?_, ?_, ?_⟩
    · intros; rename_i h; exact c_Reader_readTest (dd := 20 + n) (Nat.le_add_right 20 n) ih h
    · intros; rename_i h; exact c_Reader_readBoth (dd := 20 + n) (Nat.le_add_right 20 n) ih h
    · intros; rename_i h; exact c_Reader_readFact (dd := 20 + n) (Nat.le_add_right 20 n) ih h
    · intros; rename_i h; exact c_Reader_readPair (dd := 20 + n) (Nat.le_add_right 20 n) ih h
    · intros; rename_i h; exact c_Reader_readSum (dd := 20 + n) (Nat.le_add_right 20 n) ih h
    · intros; rename_i h; exact c_Reader_readProduct (dd := 20 + n) (Nat.le_add_right 20 n) ih h
    · intros; rename_i h; exact c_Reader_readPart (dd := 20 + n) (Nat.le_add_right 20 n) ih h
theorem c_RD (S : ASh) (n : Nat) (hn : n = 100 := by rfl) : RdOK S (f_RD S n) 120 := by subst hn; exact c_RDn S 100
