set_option maxRecDepth 100000 in
set_option maxHeartbeats 20000000 in
theorem t_Law_law_L18 {S : ASh} {L : Int} {X : Int → Int} {x1 x2 : Int} : ∀ (n : Nat) (V : ASt) (x3 r : Int) (V' : ASt), b_Law_law_L18 S L X x1 x2 n V x3 = some (r, V') → AWz (zL L X) m_Law_law 125 198 72904 198 72904 18 [some (aR (-4)), some (aR x1), some (aR x2), some (aI x3)] [] S V (some (aI r)) S V' := by
  intro n
  induction n with
  | zero => intro V x3 r V' h; cases h
  | succ n ih =>
    intro V x3 r V' h
    replace ih : ∀ {V : ASt} {x3 r : Int} {V' : ASt}, b_Law_law_L18 S L X x1 x2 n V x3 = some (r, V') → AWz (zL L X) m_Law_law 125 198 72904 198 72904 18 [some (aR (-4)), some (aR x1), some (aR x2), some (aI x3)] [] S V (some (aI r)) S V' := fun h => ih _ _ _ _ h
    rw [b_Law_law_L18] at h
    refine Ak_iload_n 19 3 (d_Law_law 10 18 (.iload_n 3) 1 rfl) rfl rfl rfl ?_
    refine Ak_aload_n 20 0 (d_Law_law 11 19 (.aload_n 0) 1 rfl) rfl rfl rfl ?_
    refine Ak_slen 21 (d_Law_law 12 20 (.arraylength) 1 rfl) rfl ?_
    refine Ak_bipush 23 (d_Law_law 13 21 (.bipush 6) 2 rfl) rfl (bp_ok rfl) (rk rfl) ?_
    refine Ak_isub 24 (d_Law_law 14 23 (.isub) 1 rfl) rfl ?_
    refine Ak_icmp_gt 982 27 (d_Law_law 15 24 (.if_icmp .gt 958) 3 rfl) rfl rfl (fun hc => ?_) (fun hc => ?_)
    · replace h := it_t hc h
      refine Ak_iconst 983 (d_Law_law 612 982 (.iconst 1) 1 rfl) rfl (rk rfl) ?_
      cases h
      exact Ak_zret (Or.inr rfl) rfl (d_Law_law 613 983 (.ireturn) 1 rfl)
    · replace h := it_f hc h
      refine Ak_aload_n 28 0 (d_Law_law 16 27 (.aload_n 0) 1 rfl) rfl rfl rfl ?_
      refine Ak_iload_n 29 3 (d_Law_law 17 28 (.iload_n 3) 1 rfl) rfl rfl rfl ?_
      obtain ⟨hs1, h⟩ := gd_some h
      refine Ak_sld 30 hs1 (d_Law_law 18 29 (.iaload) 1 rfl) rfl ?_
      refine Ak_bipush 32 (d_Law_law 19 30 (.bipush 63) 2 rfl) rfl (bp_ok rfl) (rk rfl) ?_
      refine Ak_iand 33 (d_Law_law 20 32 (.iand) 1 rfl) rfl ?_
      by_cases hc2 : (and32 (X x3) 63) = 0
      · replace h := it_t hc2 h
        refine Ak_tableIn 184 0 hc2 (d_Law_law 21 33 (.tableswitch 943 0 33 #[151, 214, 237, 250, 273, 296, 329, 362, 395, 418, 451, 464, 497, 510, 523, 536, 549, 582, 605, 628, 651, 674, 697, 710, 743, 756, 779, 802, 835, 848, 871, 884, 907, 920]) 151 rfl) (by decide) (by decide) rfl rfl ?_
        refine Ak_aload_n 185 1 (d_Law_law 22 184 (.aload_n 1) 1 rfl) rfl rfl rfl ?_
        refine Ak_aload_n 186 0 (d_Law_law 23 185 (.aload_n 0) 1 rfl) rfl rfl rfl ?_
        refine Ak_iload_n 187 3 (d_Law_law 24 186 (.iload_n 3) 1 rfl) rfl rfl rfl ?_
        refine Ak_iconst 188 (d_Law_law 25 187 (.iconst 1) 1 rfl) rfl (rk rfl) ?_
        refine Ak_iadd 189 (d_Law_law 26 188 (.iadd) 1 rfl) rfl ?_
        obtain ⟨hs3, h⟩ := gd_some h
        refine Ak_sld 190 hs3 (d_Law_law 27 189 (.iaload) 1 rfl) rfl ?_
        refine Ak_aload_n 191 0 (d_Law_law 28 190 (.aload_n 0) 1 rfl) rfl rfl rfl ?_
        refine Ak_iload_n 192 3 (d_Law_law 29 191 (.iload_n 3) 1 rfl) rfl rfl rfl ?_
        refine Ak_iconst 193 (d_Law_law 30 192 (.iconst 2) 1 rfl) rfl (rk rfl) ?_
        refine Ak_iadd 194 (d_Law_law 31 193 (.iadd) 1 rfl) rfl ?_
        obtain ⟨hs4, h⟩ := gd_some h
        refine Ak_sld 195 hs4 (d_Law_law 32 194 (.iaload) 1 rfl) rfl ?_
        refine Ak_aload_n 196 0 (d_Law_law 33 195 (.aload_n 0) 1 rfl) rfl rfl rfl ?_
        refine Ak_iload_n 197 3 (d_Law_law 34 196 (.iload_n 3) 1 rfl) rfl rfl rfl ?_
        refine Ak_iconst 198 (d_Law_law 35 197 (.iconst 3) 1 rfl) rfl (rk rfl) ?_
        refine Ak_iadd 199 (d_Law_law 36 198 (.iadd) 1 rfl) rfl ?_
        obtain ⟨hs5, h⟩ := gd_some h
        refine Ak_sld 200 hs5 (d_Law_law 37 199 (.iaload) 1 rfl) rfl ?_
        refine Ak_aload_n 201 0 (d_Law_law 38 200 (.aload_n 0) 1 rfl) rfl rfl rfl ?_
        refine Ak_iload_n 202 3 (d_Law_law 39 201 (.iload_n 3) 1 rfl) rfl rfl rfl ?_
        refine Ak_iconst 203 (d_Law_law 40 202 (.iconst 4) 1 rfl) rfl (rk rfl) ?_
        refine Ak_iadd 204 (d_Law_law 41 203 (.iadd) 1 rfl) rfl ?_
        obtain ⟨hs6, h⟩ := gd_some h
        refine Ak_sld 205 hs6 (d_Law_law 42 204 (.iaload) 1 rfl) rfl ?_
        refine Ak_aload_n 206 0 (d_Law_law 43 205 (.aload_n 0) 1 rfl) rfl rfl rfl ?_
        refine Ak_iload_n 207 3 (d_Law_law 44 206 (.iload_n 3) 1 rfl) rfl rfl rfl ?_
        refine Ak_iconst 208 (d_Law_law 45 207 (.iconst 5) 1 rfl) rfl (rk rfl) ?_
        refine Ak_iadd 209 (d_Law_law 46 208 (.iadd) 1 rfl) rfl ?_
        obtain ⟨hs7, h⟩ := gd_some h
        refine Ak_sld 210 hs7 (d_Law_law 47 209 (.iaload) 1 rfl) rfl ?_
        obtain ⟨hg11, h⟩ := gd_some h
        obtain ⟨r8, V9, h10, h⟩ := bnd_some h
        refine Ak_gV1 213 4 (c_SG_feed h10) rfl hg11 clX12 rfl mok_SG_feed lkM_Law_13 (d_Law_law 48 210 (.invokevirtual 13) 3 rfl) rfl (by decide) (by decide) (Nat.le_of_ble_eq_true rfl) ?_
        refine Ak_aload_n 214 2 (d_Law_law 49 213 (.aload_n 2) 1 rfl) rfl rfl rfl ?_
        refine Ak_aload_n 215 0 (d_Law_law 50 214 (.aload_n 0) 1 rfl) rfl rfl rfl ?_
        refine Ak_iload_n 216 3 (d_Law_law 51 215 (.iload_n 3) 1 rfl) rfl rfl rfl ?_
        refine Ak_iconst 217 (d_Law_law 52 216 (.iconst 1) 1 rfl) rfl (rk rfl) ?_
        refine Ak_iadd 218 (d_Law_law 53 217 (.iadd) 1 rfl) rfl ?_
        obtain ⟨hs12, h⟩ := gd_some h
        refine Ak_sld 219 hs12 (d_Law_law 54 218 (.iaload) 1 rfl) rfl ?_
        refine Ak_aload_n 220 0 (d_Law_law 55 219 (.aload_n 0) 1 rfl) rfl rfl rfl ?_
        refine Ak_iload_n 221 3 (d_Law_law 56 220 (.iload_n 3) 1 rfl) rfl rfl rfl ?_
        refine Ak_iconst 222 (d_Law_law 57 221 (.iconst 2) 1 rfl) rfl (rk rfl) ?_
        refine Ak_iadd 223 (d_Law_law 58 222 (.iadd) 1 rfl) rfl ?_
        obtain ⟨hs13, h⟩ := gd_some h
        refine Ak_sld 224 hs13 (d_Law_law 59 223 (.iaload) 1 rfl) rfl ?_
        refine Ak_aload_n 225 0 (d_Law_law 60 224 (.aload_n 0) 1 rfl) rfl rfl rfl ?_
        refine Ak_iload_n 226 3 (d_Law_law 61 225 (.iload_n 3) 1 rfl) rfl rfl rfl ?_
        refine Ak_iconst 227 (d_Law_law 62 226 (.iconst 3) 1 rfl) rfl (rk rfl) ?_
        refine Ak_iadd 228 (d_Law_law 63 227 (.iadd) 1 rfl) rfl ?_
        obtain ⟨hs14, h⟩ := gd_some h
        refine Ak_sld 229 hs14 (d_Law_law 64 228 (.iaload) 1 rfl) rfl ?_
        refine Ak_aload_n 230 0 (d_Law_law 65 229 (.aload_n 0) 1 rfl) rfl rfl rfl ?_
        refine Ak_iload_n 231 3 (d_Law_law 66 230 (.iload_n 3) 1 rfl) rfl rfl rfl ?_
        refine Ak_iconst 232 (d_Law_law 67 231 (.iconst 4) 1 rfl) rfl (rk rfl) ?_
        refine Ak_iadd 233 (d_Law_law 68 232 (.iadd) 1 rfl) rfl ?_
        obtain ⟨hs15, h⟩ := gd_some h
        refine Ak_sld 234 hs15 (d_Law_law 69 233 (.iaload) 1 rfl) rfl ?_
        refine Ak_aload_n 235 0 (d_Law_law 70 234 (.aload_n 0) 1 rfl) rfl rfl rfl ?_
        refine Ak_iload_n 236 3 (d_Law_law 71 235 (.iload_n 3) 1 rfl) rfl rfl rfl ?_
        refine Ak_iconst 237 (d_Law_law 72 236 (.iconst 5) 1 rfl) rfl (rk rfl) ?_
        refine Ak_iadd 238 (d_Law_law 73 237 (.iadd) 1 rfl) rfl ?_
        obtain ⟨hs16, h⟩ := gd_some h
        refine Ak_sld 239 hs16 (d_Law_law 74 238 (.iaload) 1 rfl) rfl ?_
        obtain ⟨hg20, h⟩ := gd_some h
        obtain ⟨r17, V18, h19, h⟩ := bnd_some h
        refine Ak_gV1 242 3 (c_M_feed h19) rfl hg20 clX13 rfl mok_M_feed lkM_Law_17 (d_Law_law 75 239 (.invokevirtual 17) 3 rfl) rfl (by decide) (by decide) (Nat.le_of_ble_eq_true rfl) ?_
        refine Ak_icmp_eq 976 245 (d_Law_law 76 242 (.if_icmp .eq 734) 3 rfl) rfl rfl (fun hc => ?_) (fun hc => ?_)
        · replace h := it_t hc h
          refine Ak_iinc 979 (d_Law_law 610 976 (.iinc 3 6) 3 rfl) rfl rfl (by decide) ?_
          refine Ak_goto 18 (d_Law_law 611 979 (.goto (-961)) 3 rfl) rfl ?_
          refine Ak_keep [true, true, true, true] ?_
          exact ih h
        · replace h := it_f hc h
          refine Ak_iconst 246 (d_Law_law 77 245 (.iconst 0) 1 rfl) rfl (rk rfl) ?_
          cases h
          exact Ak_zret (Or.inl rfl) rfl (d_Law_law 78 246 (.ireturn) 1 rfl)
      · replace h := it_f hc2 h
        by_cases hc21 : (and32 (X x3) 63) = 1
        · replace h := it_t hc21 h
          refine Ak_tableIn 247 1 hc21 (d_Law_law 21 33 (.tableswitch 943 0 33 #[151, 214, 237, 250, 273, 296, 329, 362, 395, 418, 451, 464, 497, 510, 523, 536, 549, 582, 605, 628, 651, 674, 697, 710, 743, 756, 779, 802, 835, 848, 871, 884, 907, 920]) 151 rfl) (by decide) (by decide) rfl rfl ?_
          refine Ak_aload_n 248 1 (d_Law_law 79 247 (.aload_n 1) 1 rfl) rfl rfl rfl ?_
          refine Ak_aload_n 249 0 (d_Law_law 80 248 (.aload_n 0) 1 rfl) rfl rfl rfl ?_
          refine Ak_iload_n 250 3 (d_Law_law 81 249 (.iload_n 3) 1 rfl) rfl rfl rfl ?_
          refine Ak_iconst 251 (d_Law_law 82 250 (.iconst 1) 1 rfl) rfl (rk rfl) ?_
          refine Ak_iadd 252 (d_Law_law 83 251 (.iadd) 1 rfl) rfl ?_
          obtain ⟨hs22, h⟩ := gd_some h
          refine Ak_sld 253 hs22 (d_Law_law 84 252 (.iaload) 1 rfl) rfl ?_
          obtain ⟨hg26, h⟩ := gd_some h
          obtain ⟨r23, V24, h25, h⟩ := bnd_some h
          refine Ak_gV1 256 3 (c_SG_end h25) rfl hg26 clX12 rfl mok_SG_end lkM_Law_18 (d_Law_law 85 253 (.invokevirtual 18) 3 rfl) rfl (by decide) (by decide) (Nat.le_of_ble_eq_true rfl) ?_
          refine Ak_aload_n 257 2 (d_Law_law 86 256 (.aload_n 2) 1 rfl) rfl rfl rfl ?_
          refine Ak_aload_n 258 0 (d_Law_law 87 257 (.aload_n 0) 1 rfl) rfl rfl rfl ?_
          refine Ak_iload_n 259 3 (d_Law_law 88 258 (.iload_n 3) 1 rfl) rfl rfl rfl ?_
          refine Ak_iconst 260 (d_Law_law 89 259 (.iconst 1) 1 rfl) rfl (rk rfl) ?_
          refine Ak_iadd 261 (d_Law_law 90 260 (.iadd) 1 rfl) rfl ?_
          obtain ⟨hs27, h⟩ := gd_some h
          refine Ak_sld 262 hs27 (d_Law_law 91 261 (.iaload) 1 rfl) rfl ?_
          obtain ⟨hg31, h⟩ := gd_some h
          obtain ⟨r28, V29, h30, h⟩ := bnd_some h
          refine Ak_gV1 265 3 (c_M_end h30) rfl hg31 clX13 rfl mok_M_end lkM_Law_22 (d_Law_law 92 262 (.invokevirtual 22) 3 rfl) rfl (by decide) (by decide) (Nat.le_of_ble_eq_true rfl) ?_
          refine Ak_icmp_eq 976 268 (d_Law_law 93 265 (.if_icmp .eq 711) 3 rfl) rfl rfl (fun hc => ?_) (fun hc => ?_)
          · replace h := it_t hc h
            refine Ak_iinc 979 (d_Law_law 610 976 (.iinc 3 6) 3 rfl) rfl rfl (by decide) ?_
            refine Ak_goto 18 (d_Law_law 611 979 (.goto (-961)) 3 rfl) rfl ?_
            refine Ak_keep [true, true, true, true] ?_
            exact ih h
          · replace h := it_f hc h
            refine Ak_iconst 269 (d_Law_law 94 268 (.iconst 0) 1 rfl) rfl (rk rfl) ?_
            cases h
            exact Ak_zret (Or.inl rfl) rfl (d_Law_law 95 269 (.ireturn) 1 rfl)
        · replace h := it_f hc21 h
          by_cases hc32 : (and32 (X x3) 63) = 2
          · replace h := it_t hc32 h
            refine Ak_tableIn 270 2 hc32 (d_Law_law 21 33 (.tableswitch 943 0 33 #[151, 214, 237, 250, 273, 296, 329, 362, 395, 418, 451, 464, 497, 510, 523, 536, 549, 582, 605, 628, 651, 674, 697, 710, 743, 756, 779, 802, 835, 848, 871, 884, 907, 920]) 151 rfl) (by decide) (by decide) rfl rfl ?_
            refine Ak_aload_n 271 1 (d_Law_law 96 270 (.aload_n 1) 1 rfl) rfl rfl rfl ?_
            obtain ⟨hg36, h⟩ := gd_some h
            obtain ⟨r33, V34, h35, h⟩ := bnd_some h
            refine Ak_gV1 274 124 (c_SG_game h35) rfl hg36 clX12 rfl mok_SG_game lkM_Law_23 (d_Law_law 97 271 (.invokevirtual 23) 3 rfl) rfl (by decide) (by decide) (Nat.le_of_ble_eq_true rfl) ?_
            refine Ak_aload_n 275 2 (d_Law_law 98 274 (.aload_n 2) 1 rfl) rfl rfl rfl ?_
            obtain ⟨hg40, h⟩ := gd_some h
            obtain ⟨r37, V38, h39, h⟩ := bnd_some h
            refine Ak_gV1 278 9 (c_M_game h39) rfl hg40 clX13 rfl mok_M_game lkM_Law_27 (d_Law_law 99 275 (.invokevirtual 27) 3 rfl) rfl (by decide) (by decide) (Nat.le_of_ble_eq_true rfl) ?_
            refine Ak_icmp_eq 976 281 (d_Law_law 100 278 (.if_icmp .eq 698) 3 rfl) rfl rfl (fun hc => ?_) (fun hc => ?_)
            · replace h := it_t hc h
              refine Ak_iinc 979 (d_Law_law 610 976 (.iinc 3 6) 3 rfl) rfl rfl (by decide) ?_
              refine Ak_goto 18 (d_Law_law 611 979 (.goto (-961)) 3 rfl) rfl ?_
              refine Ak_keep [true, true, true, true] ?_
              exact ih h
            · replace h := it_f hc h
              refine Ak_iconst 282 (d_Law_law 101 281 (.iconst 0) 1 rfl) rfl (rk rfl) ?_
              cases h
              exact Ak_zret (Or.inl rfl) rfl (d_Law_law 102 282 (.ireturn) 1 rfl)
          · replace h := it_f hc32 h
            by_cases hc41 : (and32 (X x3) 63) = 3
            · replace h := it_t hc41 h
              refine Ak_tableIn 283 3 hc41 (d_Law_law 21 33 (.tableswitch 943 0 33 #[151, 214, 237, 250, 273, 296, 329, 362, 395, 418, 451, 464, 497, 510, 523, 536, 549, 582, 605, 628, 651, 674, 697, 710, 743, 756, 779, 802, 835, 848, 871, 884, 907, 920]) 151 rfl) (by decide) (by decide) rfl rfl ?_
              refine Ak_aload_n 284 1 (d_Law_law 103 283 (.aload_n 1) 1 rfl) rfl rfl rfl ?_
              refine Ak_aload_n 285 0 (d_Law_law 104 284 (.aload_n 0) 1 rfl) rfl rfl rfl ?_
              refine Ak_iload_n 286 3 (d_Law_law 105 285 (.iload_n 3) 1 rfl) rfl rfl rfl ?_
              refine Ak_iconst 287 (d_Law_law 106 286 (.iconst 1) 1 rfl) rfl (rk rfl) ?_
              refine Ak_iadd 288 (d_Law_law 107 287 (.iadd) 1 rfl) rfl ?_
              obtain ⟨hs42, h⟩ := gd_some h
              refine Ak_sld 289 hs42 (d_Law_law 108 288 (.iaload) 1 rfl) rfl ?_
              obtain ⟨hg46, h⟩ := gd_some h
              obtain ⟨r43, V44, h45, h⟩ := bnd_some h
              refine Ak_gV1 292 2 (c_SG_fault h45) rfl hg46 clX12 rfl mok_SG_fault lkM_Law_28 (d_Law_law 109 289 (.invokevirtual 28) 3 rfl) rfl (by decide) (by decide) (Nat.le_of_ble_eq_true rfl) ?_
              refine Ak_aload_n 293 2 (d_Law_law 110 292 (.aload_n 2) 1 rfl) rfl rfl rfl ?_
              refine Ak_aload_n 294 0 (d_Law_law 111 293 (.aload_n 0) 1 rfl) rfl rfl rfl ?_
              refine Ak_iload_n 295 3 (d_Law_law 112 294 (.iload_n 3) 1 rfl) rfl rfl rfl ?_
              refine Ak_iconst 296 (d_Law_law 113 295 (.iconst 1) 1 rfl) rfl (rk rfl) ?_
              refine Ak_iadd 297 (d_Law_law 114 296 (.iadd) 1 rfl) rfl ?_
              obtain ⟨hs47, h⟩ := gd_some h
              refine Ak_sld 298 hs47 (d_Law_law 115 297 (.iaload) 1 rfl) rfl ?_
              obtain ⟨hg51, h⟩ := gd_some h
              obtain ⟨r48, V49, h50, h⟩ := bnd_some h
              refine Ak_gV1 301 2 (c_M_fault h50) rfl hg51 clX13 rfl mok_M_fault lkM_Law_32 (d_Law_law 116 298 (.invokevirtual 32) 3 rfl) rfl (by decide) (by decide) (Nat.le_of_ble_eq_true rfl) ?_
              refine Ak_icmp_eq 976 304 (d_Law_law 117 301 (.if_icmp .eq 675) 3 rfl) rfl rfl (fun hc => ?_) (fun hc => ?_)
              · replace h := it_t hc h
                refine Ak_iinc 979 (d_Law_law 610 976 (.iinc 3 6) 3 rfl) rfl rfl (by decide) ?_
                refine Ak_goto 18 (d_Law_law 611 979 (.goto (-961)) 3 rfl) rfl ?_
                refine Ak_keep [true, true, true, true] ?_
                exact ih h
              · replace h := it_f hc h
                refine Ak_iconst 305 (d_Law_law 118 304 (.iconst 0) 1 rfl) rfl (rk rfl) ?_
                cases h
                exact Ak_zret (Or.inl rfl) rfl (d_Law_law 119 305 (.ireturn) 1 rfl)
            · replace h := it_f hc41 h
              by_cases hc52 : (and32 (X x3) 63) = 4
              · replace h := it_t hc52 h
                refine Ak_tableIn 306 4 hc52 (d_Law_law 21 33 (.tableswitch 943 0 33 #[151, 214, 237, 250, 273, 296, 329, 362, 395, 418, 451, 464, 497, 510, 523, 536, 549, 582, 605, 628, 651, 674, 697, 710, 743, 756, 779, 802, 835, 848, 871, 884, 907, 920]) 151 rfl) (by decide) (by decide) rfl rfl ?_
                refine Ak_aload_n 307 1 (d_Law_law 120 306 (.aload_n 1) 1 rfl) rfl rfl rfl ?_
                refine Ak_aload_n 308 0 (d_Law_law 121 307 (.aload_n 0) 1 rfl) rfl rfl rfl ?_
                refine Ak_iload_n 309 3 (d_Law_law 122 308 (.iload_n 3) 1 rfl) rfl rfl rfl ?_
                refine Ak_iconst 310 (d_Law_law 123 309 (.iconst 1) 1 rfl) rfl (rk rfl) ?_
                refine Ak_iadd 311 (d_Law_law 124 310 (.iadd) 1 rfl) rfl ?_
                obtain ⟨hs53, h⟩ := gd_some h
                refine Ak_sld 312 hs53 (d_Law_law 125 311 (.iaload) 1 rfl) rfl ?_
                obtain ⟨hg57, h⟩ := gd_some h
                obtain ⟨r54, V55, h56, h⟩ := bnd_some h
                refine Ak_gV1 315 6 (c_SG_has h56) rfl hg57 clX12 rfl mok_SG_has lkM_Law_33 (d_Law_law 126 312 (.invokevirtual 33) 3 rfl) rfl (by decide) (by decide) (Nat.le_of_ble_eq_true rfl) ?_
                refine Ak_aload_n 316 2 (d_Law_law 127 315 (.aload_n 2) 1 rfl) rfl rfl rfl ?_
                refine Ak_aload_n 317 0 (d_Law_law 128 316 (.aload_n 0) 1 rfl) rfl rfl rfl ?_
                refine Ak_iload_n 318 3 (d_Law_law 129 317 (.iload_n 3) 1 rfl) rfl rfl rfl ?_
                refine Ak_iconst 319 (d_Law_law 130 318 (.iconst 1) 1 rfl) rfl (rk rfl) ?_
                refine Ak_iadd 320 (d_Law_law 131 319 (.iadd) 1 rfl) rfl ?_
                obtain ⟨hs58, h⟩ := gd_some h
                refine Ak_sld 321 hs58 (d_Law_law 132 320 (.iaload) 1 rfl) rfl ?_
                obtain ⟨hg62, h⟩ := gd_some h
                obtain ⟨r59, V60, h61, h⟩ := bnd_some h
                refine Ak_gV1 324 4 (c_M_has h61) rfl hg62 clX13 rfl mok_M_has lkM_Law_36 (d_Law_law 133 321 (.invokevirtual 36) 3 rfl) rfl (by decide) (by decide) (Nat.le_of_ble_eq_true rfl) ?_
                refine Ak_icmp_eq 976 327 (d_Law_law 134 324 (.if_icmp .eq 652) 3 rfl) rfl rfl (fun hc => ?_) (fun hc => ?_)
                · replace h := it_t hc h
                  refine Ak_iinc 979 (d_Law_law 610 976 (.iinc 3 6) 3 rfl) rfl rfl (by decide) ?_
                  refine Ak_goto 18 (d_Law_law 611 979 (.goto (-961)) 3 rfl) rfl ?_
                  refine Ak_keep [true, true, true, true] ?_
                  exact ih h
                · replace h := it_f hc h
                  refine Ak_iconst 328 (d_Law_law 135 327 (.iconst 0) 1 rfl) rfl (rk rfl) ?_
                  cases h
                  exact Ak_zret (Or.inl rfl) rfl (d_Law_law 136 328 (.ireturn) 1 rfl)
              · replace h := it_f hc52 h
                by_cases hc63 : (and32 (X x3) 63) = 5
                · replace h := it_t hc63 h
                  refine Ak_tableIn 329 5 hc63 (d_Law_law 21 33 (.tableswitch 943 0 33 #[151, 214, 237, 250, 273, 296, 329, 362, 395, 418, 451, 464, 497, 510, 523, 536, 549, 582, 605, 628, 651, 674, 697, 710, 743, 756, 779, 802, 835, 848, 871, 884, 907, 920]) 151 rfl) (by decide) (by decide) rfl rfl ?_
                  refine Ak_aload_n 330 1 (d_Law_law 137 329 (.aload_n 1) 1 rfl) rfl rfl rfl ?_
                  refine Ak_aload_n 331 0 (d_Law_law 138 330 (.aload_n 0) 1 rfl) rfl rfl rfl ?_
                  refine Ak_iload_n 332 3 (d_Law_law 139 331 (.iload_n 3) 1 rfl) rfl rfl rfl ?_
                  refine Ak_iconst 333 (d_Law_law 140 332 (.iconst 1) 1 rfl) rfl (rk rfl) ?_
                  refine Ak_iadd 334 (d_Law_law 141 333 (.iadd) 1 rfl) rfl ?_
                  obtain ⟨hs64, h⟩ := gd_some h
                  refine Ak_sld 335 hs64 (d_Law_law 142 334 (.iaload) 1 rfl) rfl ?_
                  refine Ak_aload_n 336 0 (d_Law_law 143 335 (.aload_n 0) 1 rfl) rfl rfl rfl ?_
                  refine Ak_iload_n 337 3 (d_Law_law 144 336 (.iload_n 3) 1 rfl) rfl rfl rfl ?_
                  refine Ak_iconst 338 (d_Law_law 145 337 (.iconst 2) 1 rfl) rfl (rk rfl) ?_
                  refine Ak_iadd 339 (d_Law_law 146 338 (.iadd) 1 rfl) rfl ?_
                  obtain ⟨hs65, h⟩ := gd_some h
                  refine Ak_sld 340 hs65 (d_Law_law 147 339 (.iaload) 1 rfl) rfl ?_
                  obtain ⟨hg69, h⟩ := gd_some h
                  obtain ⟨r66, V67, h68, h⟩ := bnd_some h
                  refine Ak_gV1 343 4 (c_SG_letter h68) rfl hg69 clX12 rfl mok_SG_letter lkM_Law_37 (d_Law_law 148 340 (.invokevirtual 37) 3 rfl) rfl (by decide) (by decide) (Nat.le_of_ble_eq_true rfl) ?_
                  refine Ak_aload_n 344 2 (d_Law_law 149 343 (.aload_n 2) 1 rfl) rfl rfl rfl ?_
                  refine Ak_aload_n 345 0 (d_Law_law 150 344 (.aload_n 0) 1 rfl) rfl rfl rfl ?_
                  refine Ak_iload_n 346 3 (d_Law_law 151 345 (.iload_n 3) 1 rfl) rfl rfl rfl ?_
                  refine Ak_iconst 347 (d_Law_law 152 346 (.iconst 1) 1 rfl) rfl (rk rfl) ?_
                  refine Ak_iadd 348 (d_Law_law 153 347 (.iadd) 1 rfl) rfl ?_
                  obtain ⟨hs70, h⟩ := gd_some h
                  refine Ak_sld 349 hs70 (d_Law_law 154 348 (.iaload) 1 rfl) rfl ?_
                  refine Ak_aload_n 350 0 (d_Law_law 155 349 (.aload_n 0) 1 rfl) rfl rfl rfl ?_
                  refine Ak_iload_n 351 3 (d_Law_law 156 350 (.iload_n 3) 1 rfl) rfl rfl rfl ?_
                  refine Ak_iconst 352 (d_Law_law 157 351 (.iconst 2) 1 rfl) rfl (rk rfl) ?_
                  refine Ak_iadd 353 (d_Law_law 158 352 (.iadd) 1 rfl) rfl ?_
                  obtain ⟨hs71, h⟩ := gd_some h
                  refine Ak_sld 354 hs71 (d_Law_law 159 353 (.iaload) 1 rfl) rfl ?_
                  obtain ⟨hg75, h⟩ := gd_some h
                  obtain ⟨r72, V73, h74, h⟩ := bnd_some h
                  refine Ak_gV1 357 3 (c_M_letter h74) rfl hg75 clX13 rfl mok_M_letter lkM_Law_41 (d_Law_law 160 354 (.invokevirtual 41) 3 rfl) rfl (by decide) (by decide) (Nat.le_of_ble_eq_true rfl) ?_
                  refine Ak_icmp_eq 976 360 (d_Law_law 161 357 (.if_icmp .eq 619) 3 rfl) rfl rfl (fun hc => ?_) (fun hc => ?_)
                  · replace h := it_t hc h
                    refine Ak_iinc 979 (d_Law_law 610 976 (.iinc 3 6) 3 rfl) rfl rfl (by decide) ?_
                    refine Ak_goto 18 (d_Law_law 611 979 (.goto (-961)) 3 rfl) rfl ?_
                    refine Ak_keep [true, true, true, true] ?_
                    exact ih h
                  · replace h := it_f hc h
                    refine Ak_iconst 361 (d_Law_law 162 360 (.iconst 0) 1 rfl) rfl (rk rfl) ?_
                    cases h
                    exact Ak_zret (Or.inl rfl) rfl (d_Law_law 163 361 (.ireturn) 1 rfl)
                · replace h := it_f hc63 h
                  by_cases hc76 : (and32 (X x3) 63) = 6
                  · replace h := it_t hc76 h
                    refine Ak_tableIn 362 6 hc76 (d_Law_law 21 33 (.tableswitch 943 0 33 #[151, 214, 237, 250, 273, 296, 329, 362, 395, 418, 451, 464, 497, 510, 523, 536, 549, 582, 605, 628, 651, 674, 697, 710, 743, 756, 779, 802, 835, 848, 871, 884, 907, 920]) 151 rfl) (by decide) (by decide) rfl rfl ?_
                    refine Ak_aload_n 363 1 (d_Law_law 164 362 (.aload_n 1) 1 rfl) rfl rfl rfl ?_
                    refine Ak_aload_n 364 0 (d_Law_law 165 363 (.aload_n 0) 1 rfl) rfl rfl rfl ?_
                    refine Ak_iload_n 365 3 (d_Law_law 166 364 (.iload_n 3) 1 rfl) rfl rfl rfl ?_
                    refine Ak_iconst 366 (d_Law_law 167 365 (.iconst 1) 1 rfl) rfl (rk rfl) ?_
                    refine Ak_iadd 367 (d_Law_law 168 366 (.iadd) 1 rfl) rfl ?_
                    obtain ⟨hs77, h⟩ := gd_some h
                    refine Ak_sld 368 hs77 (d_Law_law 169 367 (.iaload) 1 rfl) rfl ?_
                    refine Ak_aload_n 369 0 (d_Law_law 170 368 (.aload_n 0) 1 rfl) rfl rfl rfl ?_
                    refine Ak_iload_n 370 3 (d_Law_law 171 369 (.iload_n 3) 1 rfl) rfl rfl rfl ?_
                    refine Ak_iconst 371 (d_Law_law 172 370 (.iconst 2) 1 rfl) rfl (rk rfl) ?_
                    refine Ak_iadd 372 (d_Law_law 173 371 (.iadd) 1 rfl) rfl ?_
                    obtain ⟨hs78, h⟩ := gd_some h
                    refine Ak_sld 373 hs78 (d_Law_law 174 372 (.iaload) 1 rfl) rfl ?_
                    obtain ⟨hg82, h⟩ := gd_some h
                    obtain ⟨r79, V80, h81, h⟩ := bnd_some h
                    refine Ak_gV1 376 5 (c_SG_rule h81) rfl hg82 clX12 rfl mok_SG_rule lkM_Law_42 (d_Law_law 175 373 (.invokevirtual 42) 3 rfl) rfl (by decide) (by decide) (Nat.le_of_ble_eq_true rfl) ?_
                    refine Ak_aload_n 377 2 (d_Law_law 176 376 (.aload_n 2) 1 rfl) rfl rfl rfl ?_
                    refine Ak_aload_n 378 0 (d_Law_law 177 377 (.aload_n 0) 1 rfl) rfl rfl rfl ?_
                    refine Ak_iload_n 379 3 (d_Law_law 178 378 (.iload_n 3) 1 rfl) rfl rfl rfl ?_
                    refine Ak_iconst 380 (d_Law_law 179 379 (.iconst 1) 1 rfl) rfl (rk rfl) ?_
                    refine Ak_iadd 381 (d_Law_law 180 380 (.iadd) 1 rfl) rfl ?_
                    obtain ⟨hs83, h⟩ := gd_some h
                    refine Ak_sld 382 hs83 (d_Law_law 181 381 (.iaload) 1 rfl) rfl ?_
                    refine Ak_aload_n 383 0 (d_Law_law 182 382 (.aload_n 0) 1 rfl) rfl rfl rfl ?_
                    refine Ak_iload_n 384 3 (d_Law_law 183 383 (.iload_n 3) 1 rfl) rfl rfl rfl ?_
                    refine Ak_iconst 385 (d_Law_law 184 384 (.iconst 2) 1 rfl) rfl (rk rfl) ?_
                    refine Ak_iadd 386 (d_Law_law 185 385 (.iadd) 1 rfl) rfl ?_
                    obtain ⟨hs84, h⟩ := gd_some h
                    refine Ak_sld 387 hs84 (d_Law_law 186 386 (.iaload) 1 rfl) rfl ?_
                    obtain ⟨hg88, h⟩ := gd_some h
                    obtain ⟨r85, V86, h87, h⟩ := bnd_some h
                    refine Ak_gV1 390 4 (c_M_rule_II h87) rfl hg88 clX13 rfl mok_M_rule_II lkM_Law_45 (d_Law_law 187 387 (.invokevirtual 45) 3 rfl) rfl (by decide) (by decide) (Nat.le_of_ble_eq_true rfl) ?_
                    refine Ak_icmp_eq 976 393 (d_Law_law 188 390 (.if_icmp .eq 586) 3 rfl) rfl rfl (fun hc => ?_) (fun hc => ?_)
                    · replace h := it_t hc h
                      refine Ak_iinc 979 (d_Law_law 610 976 (.iinc 3 6) 3 rfl) rfl rfl (by decide) ?_
                      refine Ak_goto 18 (d_Law_law 611 979 (.goto (-961)) 3 rfl) rfl ?_
                      refine Ak_keep [true, true, true, true] ?_
                      exact ih h
                    · replace h := it_f hc h
                      refine Ak_iconst 394 (d_Law_law 189 393 (.iconst 0) 1 rfl) rfl (rk rfl) ?_
                      cases h
                      exact Ak_zret (Or.inl rfl) rfl (d_Law_law 190 394 (.ireturn) 1 rfl)
                  · replace h := it_f hc76 h
                    by_cases hc89 : (and32 (X x3) 63) = 7
                    · replace h := it_t hc89 h
                      refine Ak_tableIn 395 7 hc89 (d_Law_law 21 33 (.tableswitch 943 0 33 #[151, 214, 237, 250, 273, 296, 329, 362, 395, 418, 451, 464, 497, 510, 523, 536, 549, 582, 605, 628, 651, 674, 697, 710, 743, 756, 779, 802, 835, 848, 871, 884, 907, 920]) 151 rfl) (by decide) (by decide) rfl rfl ?_
                      refine Ak_aload_n 396 1 (d_Law_law 191 395 (.aload_n 1) 1 rfl) rfl rfl rfl ?_
                      refine Ak_aload_n 397 0 (d_Law_law 192 396 (.aload_n 0) 1 rfl) rfl rfl rfl ?_
                      refine Ak_iload_n 398 3 (d_Law_law 193 397 (.iload_n 3) 1 rfl) rfl rfl rfl ?_
                      refine Ak_iconst 399 (d_Law_law 194 398 (.iconst 1) 1 rfl) rfl (rk rfl) ?_
                      refine Ak_iadd 400 (d_Law_law 195 399 (.iadd) 1 rfl) rfl ?_
                      obtain ⟨hs90, h⟩ := gd_some h
                      refine Ak_sld 401 hs90 (d_Law_law 196 400 (.iaload) 1 rfl) rfl ?_
                      refine Ak_aload_n 402 0 (d_Law_law 197 401 (.aload_n 0) 1 rfl) rfl rfl rfl ?_
                      refine Ak_iload_n 403 3 (d_Law_law 198 402 (.iload_n 3) 1 rfl) rfl rfl rfl ?_
                      refine Ak_iconst 404 (d_Law_law 199 403 (.iconst 2) 1 rfl) rfl (rk rfl) ?_
                      refine Ak_iadd 405 (d_Law_law 200 404 (.iadd) 1 rfl) rfl ?_
                      obtain ⟨hs91, h⟩ := gd_some h
                      refine Ak_sld 406 hs91 (d_Law_law 201 405 (.iaload) 1 rfl) rfl ?_
                      obtain ⟨hg95, h⟩ := gd_some h
                      obtain ⟨r92, V93, h94, h⟩ := bnd_some h
                      refine Ak_gV1 409 9 (c_SG_lawful h94) rfl hg95 clX12 rfl mok_SG_lawful lkM_Law_46 (d_Law_law 202 406 (.invokevirtual 46) 3 rfl) rfl (by decide) (by decide) (Nat.le_of_ble_eq_true rfl) ?_
                      refine Ak_aload_n 410 2 (d_Law_law 203 409 (.aload_n 2) 1 rfl) rfl rfl rfl ?_
                      refine Ak_aload_n 411 0 (d_Law_law 204 410 (.aload_n 0) 1 rfl) rfl rfl rfl ?_
                      refine Ak_iload_n 412 3 (d_Law_law 205 411 (.iload_n 3) 1 rfl) rfl rfl rfl ?_
                      refine Ak_iconst 413 (d_Law_law 206 412 (.iconst 1) 1 rfl) rfl (rk rfl) ?_
                      refine Ak_iadd 414 (d_Law_law 207 413 (.iadd) 1 rfl) rfl ?_
                      obtain ⟨hs96, h⟩ := gd_some h
                      refine Ak_sld 415 hs96 (d_Law_law 208 414 (.iaload) 1 rfl) rfl ?_
                      refine Ak_aload_n 416 0 (d_Law_law 209 415 (.aload_n 0) 1 rfl) rfl rfl rfl ?_
                      refine Ak_iload_n 417 3 (d_Law_law 210 416 (.iload_n 3) 1 rfl) rfl rfl rfl ?_
                      refine Ak_iconst 418 (d_Law_law 211 417 (.iconst 2) 1 rfl) rfl (rk rfl) ?_
                      refine Ak_iadd 419 (d_Law_law 212 418 (.iadd) 1 rfl) rfl ?_
                      obtain ⟨hs97, h⟩ := gd_some h
                      refine Ak_sld 420 hs97 (d_Law_law 213 419 (.iaload) 1 rfl) rfl ?_
                      obtain ⟨hg101, h⟩ := gd_some h
                      obtain ⟨r98, V99, h100, h⟩ := bnd_some h
                      refine Ak_gV1 423 9 (c_M_lawful h100) rfl hg101 clX13 rfl mok_M_lawful lkM_Law_49 (d_Law_law 214 420 (.invokevirtual 49) 3 rfl) rfl (by decide) (by decide) (Nat.le_of_ble_eq_true rfl) ?_
                      refine Ak_icmp_eq 976 426 (d_Law_law 215 423 (.if_icmp .eq 553) 3 rfl) rfl rfl (fun hc => ?_) (fun hc => ?_)
                      · replace h := it_t hc h
                        refine Ak_iinc 979 (d_Law_law 610 976 (.iinc 3 6) 3 rfl) rfl rfl (by decide) ?_
                        refine Ak_goto 18 (d_Law_law 611 979 (.goto (-961)) 3 rfl) rfl ?_
                        refine Ak_keep [true, true, true, true] ?_
                        exact ih h
                      · replace h := it_f hc h
                        refine Ak_iconst 427 (d_Law_law 216 426 (.iconst 0) 1 rfl) rfl (rk rfl) ?_
                        cases h
                        exact Ak_zret (Or.inl rfl) rfl (d_Law_law 217 427 (.ireturn) 1 rfl)
                    · replace h := it_f hc89 h
                      by_cases hc102 : (and32 (X x3) 63) = 8
                      · replace h := it_t hc102 h
                        refine Ak_tableIn 428 8 hc102 (d_Law_law 21 33 (.tableswitch 943 0 33 #[151, 214, 237, 250, 273, 296, 329, 362, 395, 418, 451, 464, 497, 510, 523, 536, 549, 582, 605, 628, 651, 674, 697, 710, 743, 756, 779, 802, 835, 848, 871, 884, 907, 920]) 151 rfl) (by decide) (by decide) rfl rfl ?_
                        refine Ak_aload_n 429 1 (d_Law_law 218 428 (.aload_n 1) 1 rfl) rfl rfl rfl ?_
                        refine Ak_aload_n 430 0 (d_Law_law 219 429 (.aload_n 0) 1 rfl) rfl rfl rfl ?_
                        refine Ak_iload_n 431 3 (d_Law_law 220 430 (.iload_n 3) 1 rfl) rfl rfl rfl ?_
                        refine Ak_iconst 432 (d_Law_law 221 431 (.iconst 1) 1 rfl) rfl (rk rfl) ?_
                        refine Ak_iadd 433 (d_Law_law 222 432 (.iadd) 1 rfl) rfl ?_
                        obtain ⟨hs103, h⟩ := gd_some h
                        refine Ak_sld 434 hs103 (d_Law_law 223 433 (.iaload) 1 rfl) rfl ?_
                        obtain ⟨hg107, h⟩ := gd_some h
                        obtain ⟨r104, V105, h106, h⟩ := bnd_some h
                        refine Ak_gV1 437 9 (c_SG_played h106) rfl hg107 clX12 rfl mok_SG_played lkM_Law_50 (d_Law_law 224 434 (.invokevirtual 50) 3 rfl) rfl (by decide) (by decide) (Nat.le_of_ble_eq_true rfl) ?_
                        refine Ak_aload_n 438 2 (d_Law_law 225 437 (.aload_n 2) 1 rfl) rfl rfl rfl ?_
                        refine Ak_aload_n 439 0 (d_Law_law 226 438 (.aload_n 0) 1 rfl) rfl rfl rfl ?_
                        refine Ak_iload_n 440 3 (d_Law_law 227 439 (.iload_n 3) 1 rfl) rfl rfl rfl ?_
                        refine Ak_iconst 441 (d_Law_law 228 440 (.iconst 1) 1 rfl) rfl (rk rfl) ?_
                        refine Ak_iadd 442 (d_Law_law 229 441 (.iadd) 1 rfl) rfl ?_
                        obtain ⟨hs108, h⟩ := gd_some h
                        refine Ak_sld 443 hs108 (d_Law_law 230 442 (.iaload) 1 rfl) rfl ?_
                        obtain ⟨hg112, h⟩ := gd_some h
                        obtain ⟨r109, V110, h111, h⟩ := bnd_some h
                        refine Ak_gV1 446 10 (c_M_played h111) rfl hg112 clX13 rfl mok_M_played lkM_Law_53 (d_Law_law 231 443 (.invokevirtual 53) 3 rfl) rfl (by decide) (by decide) (Nat.le_of_ble_eq_true rfl) ?_
                        refine Ak_icmp_eq 976 449 (d_Law_law 232 446 (.if_icmp .eq 530) 3 rfl) rfl rfl (fun hc => ?_) (fun hc => ?_)
                        · replace h := it_t hc h
                          refine Ak_iinc 979 (d_Law_law 610 976 (.iinc 3 6) 3 rfl) rfl rfl (by decide) ?_
                          refine Ak_goto 18 (d_Law_law 611 979 (.goto (-961)) 3 rfl) rfl ?_
                          refine Ak_keep [true, true, true, true] ?_
                          exact ih h
                        · replace h := it_f hc h
                          refine Ak_iconst 450 (d_Law_law 233 449 (.iconst 0) 1 rfl) rfl (rk rfl) ?_
                          cases h
                          exact Ak_zret (Or.inl rfl) rfl (d_Law_law 234 450 (.ireturn) 1 rfl)
                      · replace h := it_f hc102 h
                        by_cases hc113 : (and32 (X x3) 63) = 9
                        · replace h := it_t hc113 h
                          refine Ak_tableIn 451 9 hc113 (d_Law_law 21 33 (.tableswitch 943 0 33 #[151, 214, 237, 250, 273, 296, 329, 362, 395, 418, 451, 464, 497, 510, 523, 536, 549, 582, 605, 628, 651, 674, 697, 710, 743, 756, 779, 802, 835, 848, 871, 884, 907, 920]) 151 rfl) (by decide) (by decide) rfl rfl ?_
                          refine Ak_aload_n 452 1 (d_Law_law 235 451 (.aload_n 1) 1 rfl) rfl rfl rfl ?_
                          refine Ak_aload_n 453 0 (d_Law_law 236 452 (.aload_n 0) 1 rfl) rfl rfl rfl ?_
                          refine Ak_iload_n 454 3 (d_Law_law 237 453 (.iload_n 3) 1 rfl) rfl rfl rfl ?_
                          refine Ak_iconst 455 (d_Law_law 238 454 (.iconst 1) 1 rfl) rfl (rk rfl) ?_
                          refine Ak_iadd 456 (d_Law_law 239 455 (.iadd) 1 rfl) rfl ?_
                          obtain ⟨hs114, h⟩ := gd_some h
                          refine Ak_sld 457 hs114 (d_Law_law 240 456 (.iaload) 1 rfl) rfl ?_
                          refine Ak_aload_n 458 0 (d_Law_law 241 457 (.aload_n 0) 1 rfl) rfl rfl rfl ?_
                          refine Ak_iload_n 459 3 (d_Law_law 242 458 (.iload_n 3) 1 rfl) rfl rfl rfl ?_
                          refine Ak_iconst 460 (d_Law_law 243 459 (.iconst 2) 1 rfl) rfl (rk rfl) ?_
                          refine Ak_iadd 461 (d_Law_law 244 460 (.iadd) 1 rfl) rfl ?_
                          obtain ⟨hs115, h⟩ := gd_some h
                          refine Ak_sld 462 hs115 (d_Law_law 245 461 (.iaload) 1 rfl) rfl ?_
                          obtain ⟨hg119, h⟩ := gd_some h
                          obtain ⟨r116, V117, h118, h⟩ := bnd_some h
                          refine Ak_gV1 465 9 (c_SG_move h118) rfl hg119 clX12 rfl mok_SG_move lkM_Law_54 (d_Law_law 246 462 (.invokevirtual 54) 3 rfl) rfl (by decide) (by decide) (Nat.le_of_ble_eq_true rfl) ?_
                          refine Ak_aload_n 466 2 (d_Law_law 247 465 (.aload_n 2) 1 rfl) rfl rfl rfl ?_
                          refine Ak_aload_n 467 0 (d_Law_law 248 466 (.aload_n 0) 1 rfl) rfl rfl rfl ?_
                          refine Ak_iload_n 468 3 (d_Law_law 249 467 (.iload_n 3) 1 rfl) rfl rfl rfl ?_
                          refine Ak_iconst 469 (d_Law_law 250 468 (.iconst 1) 1 rfl) rfl (rk rfl) ?_
                          refine Ak_iadd 470 (d_Law_law 251 469 (.iadd) 1 rfl) rfl ?_
                          obtain ⟨hs120, h⟩ := gd_some h
                          refine Ak_sld 471 hs120 (d_Law_law 252 470 (.iaload) 1 rfl) rfl ?_
                          refine Ak_aload_n 472 0 (d_Law_law 253 471 (.aload_n 0) 1 rfl) rfl rfl rfl ?_
                          refine Ak_iload_n 473 3 (d_Law_law 254 472 (.iload_n 3) 1 rfl) rfl rfl rfl ?_
                          refine Ak_iconst 474 (d_Law_law 255 473 (.iconst 2) 1 rfl) rfl (rk rfl) ?_
                          refine Ak_iadd 475 (d_Law_law 256 474 (.iadd) 1 rfl) rfl ?_
                          obtain ⟨hs121, h⟩ := gd_some h
                          refine Ak_sld 476 hs121 (d_Law_law 257 475 (.iaload) 1 rfl) rfl ?_
                          obtain ⟨hg125, h⟩ := gd_some h
                          obtain ⟨r122, V123, h124, h⟩ := bnd_some h
                          refine Ak_gV1 479 10 (c_M_move h124) rfl hg125 clX13 rfl mok_M_move lkM_Law_58 (d_Law_law 258 476 (.invokevirtual 58) 3 rfl) rfl (by decide) (by decide) (Nat.le_of_ble_eq_true rfl) ?_
                          refine Ak_icmp_eq 976 482 (d_Law_law 259 479 (.if_icmp .eq 497) 3 rfl) rfl rfl (fun hc => ?_) (fun hc => ?_)
                          · replace h := it_t hc h
                            refine Ak_iinc 979 (d_Law_law 610 976 (.iinc 3 6) 3 rfl) rfl rfl (by decide) ?_
                            refine Ak_goto 18 (d_Law_law 611 979 (.goto (-961)) 3 rfl) rfl ?_
                            refine Ak_keep [true, true, true, true] ?_
                            exact ih h
                          · replace h := it_f hc h
                            refine Ak_iconst 483 (d_Law_law 260 482 (.iconst 0) 1 rfl) rfl (rk rfl) ?_
                            cases h
                            exact Ak_zret (Or.inl rfl) rfl (d_Law_law 261 483 (.ireturn) 1 rfl)
                        · replace h := it_f hc113 h
                          by_cases hc126 : (and32 (X x3) 63) = 10
                          · replace h := it_t hc126 h
                            refine Ak_tableIn 484 10 hc126 (d_Law_law 21 33 (.tableswitch 943 0 33 #[151, 214, 237, 250, 273, 296, 329, 362, 395, 418, 451, 464, 497, 510, 523, 536, 549, 582, 605, 628, 651, 674, 697, 710, 743, 756, 779, 802, 835, 848, 871, 884, 907, 920]) 151 rfl) (by decide) (by decide) rfl rfl ?_
                            refine Ak_aload_n 485 1 (d_Law_law 262 484 (.aload_n 1) 1 rfl) rfl rfl rfl ?_
                            obtain ⟨hg130, h⟩ := gd_some h
                            obtain ⟨r127, V128, h129, h⟩ := bnd_some h
                            refine Ak_gV1 488 4 (c_SG_anew h129) rfl hg130 clX12 rfl mok_SG_anew lkM_Law_59 (d_Law_law 263 485 (.invokevirtual 59) 3 rfl) rfl (by decide) (by decide) (Nat.le_of_ble_eq_true rfl) ?_
                            refine Ak_aload_n 489 2 (d_Law_law 264 488 (.aload_n 2) 1 rfl) rfl rfl rfl ?_
                            obtain ⟨hg134, h⟩ := gd_some h
                            obtain ⟨r131, V132, h133, h⟩ := bnd_some h
                            refine Ak_gV1 492 5 (c_M_anew h133) rfl hg134 clX13 rfl mok_M_anew lkM_Law_62 (d_Law_law 265 489 (.invokevirtual 62) 3 rfl) rfl (by decide) (by decide) (Nat.le_of_ble_eq_true rfl) ?_
                            refine Ak_icmp_eq 976 495 (d_Law_law 266 492 (.if_icmp .eq 484) 3 rfl) rfl rfl (fun hc => ?_) (fun hc => ?_)
                            · replace h := it_t hc h
                              refine Ak_iinc 979 (d_Law_law 610 976 (.iinc 3 6) 3 rfl) rfl rfl (by decide) ?_
                              refine Ak_goto 18 (d_Law_law 611 979 (.goto (-961)) 3 rfl) rfl ?_
                              refine Ak_keep [true, true, true, true] ?_
                              exact ih h
                            · replace h := it_f hc h
                              refine Ak_iconst 496 (d_Law_law 267 495 (.iconst 0) 1 rfl) rfl (rk rfl) ?_
                              cases h
                              exact Ak_zret (Or.inl rfl) rfl (d_Law_law 268 496 (.ireturn) 1 rfl)
                          · replace h := it_f hc126 h
                            by_cases hc135 : (and32 (X x3) 63) = 11
                            · replace h := it_t hc135 h
                              refine Ak_tableIn 497 11 hc135 (d_Law_law 21 33 (.tableswitch 943 0 33 #[151, 214, 237, 250, 273, 296, 329, 362, 395, 418, 451, 464, 497, 510, 523, 536, 549, 582, 605, 628, 651, 674, 697, 710, 743, 756, 779, 802, 835, 848, 871, 884, 907, 920]) 151 rfl) (by decide) (by decide) rfl rfl ?_
                              refine Ak_aload_n 498 1 (d_Law_law 269 497 (.aload_n 1) 1 rfl) rfl rfl rfl ?_
                              refine Ak_aload_n 499 0 (d_Law_law 270 498 (.aload_n 0) 1 rfl) rfl rfl rfl ?_
                              refine Ak_iload_n 500 3 (d_Law_law 271 499 (.iload_n 3) 1 rfl) rfl rfl rfl ?_
                              refine Ak_iconst 501 (d_Law_law 272 500 (.iconst 1) 1 rfl) rfl (rk rfl) ?_
                              refine Ak_iadd 502 (d_Law_law 273 501 (.iadd) 1 rfl) rfl ?_
                              obtain ⟨hs136, h⟩ := gd_some h
                              refine Ak_sld 503 hs136 (d_Law_law 274 502 (.iaload) 1 rfl) rfl ?_
                              refine Ak_aload_n 504 0 (d_Law_law 275 503 (.aload_n 0) 1 rfl) rfl rfl rfl ?_
                              refine Ak_iload_n 505 3 (d_Law_law 276 504 (.iload_n 3) 1 rfl) rfl rfl rfl ?_
                              refine Ak_iconst 506 (d_Law_law 277 505 (.iconst 2) 1 rfl) rfl (rk rfl) ?_
                              refine Ak_iadd 507 (d_Law_law 278 506 (.iadd) 1 rfl) rfl ?_
                              obtain ⟨hs137, h⟩ := gd_some h
                              refine Ak_sld 508 hs137 (d_Law_law 279 507 (.iaload) 1 rfl) rfl ?_
                              obtain ⟨hg141, h⟩ := gd_some h
                              obtain ⟨r138, V139, h140, h⟩ := bnd_some h
                              refine Ak_gV1 511 10 (c_SG_value h140) rfl hg141 clX12 rfl mok_SG_value lkM_Law_63 (d_Law_law 280 508 (.invokevirtual 63) 3 rfl) rfl (by decide) (by decide) (Nat.le_of_ble_eq_true rfl) ?_
                              refine Ak_aload_n 512 2 (d_Law_law 281 511 (.aload_n 2) 1 rfl) rfl rfl rfl ?_
                              refine Ak_aload_n 513 0 (d_Law_law 282 512 (.aload_n 0) 1 rfl) rfl rfl rfl ?_
                              refine Ak_iload_n 514 3 (d_Law_law 283 513 (.iload_n 3) 1 rfl) rfl rfl rfl ?_
                              refine Ak_iconst 515 (d_Law_law 284 514 (.iconst 1) 1 rfl) rfl (rk rfl) ?_
                              refine Ak_iadd 516 (d_Law_law 285 515 (.iadd) 1 rfl) rfl ?_
                              obtain ⟨hs142, h⟩ := gd_some h
                              refine Ak_sld 517 hs142 (d_Law_law 286 516 (.iaload) 1 rfl) rfl ?_
                              refine Ak_aload_n 518 0 (d_Law_law 287 517 (.aload_n 0) 1 rfl) rfl rfl rfl ?_
                              refine Ak_iload_n 519 3 (d_Law_law 288 518 (.iload_n 3) 1 rfl) rfl rfl rfl ?_
                              refine Ak_iconst 520 (d_Law_law 289 519 (.iconst 2) 1 rfl) rfl (rk rfl) ?_
                              refine Ak_iadd 521 (d_Law_law 290 520 (.iadd) 1 rfl) rfl ?_
                              obtain ⟨hs143, h⟩ := gd_some h
                              refine Ak_sld 522 hs143 (d_Law_law 291 521 (.iaload) 1 rfl) rfl ?_
                              obtain ⟨hg147, h⟩ := gd_some h
                              obtain ⟨r144, V145, h146, h⟩ := bnd_some h
                              refine Ak_gV1 525 9 (c_M_value h146) rfl hg147 clX13 rfl mok_M_value lkM_Law_66 (d_Law_law 292 522 (.invokevirtual 66) 3 rfl) rfl (by decide) (by decide) (Nat.le_of_ble_eq_true rfl) ?_
                              refine Ak_icmp_eq 976 528 (d_Law_law 293 525 (.if_icmp .eq 451) 3 rfl) rfl rfl (fun hc => ?_) (fun hc => ?_)
                              · replace h := it_t hc h
                                refine Ak_iinc 979 (d_Law_law 610 976 (.iinc 3 6) 3 rfl) rfl rfl (by decide) ?_
                                refine Ak_goto 18 (d_Law_law 611 979 (.goto (-961)) 3 rfl) rfl ?_
                                refine Ak_keep [true, true, true, true] ?_
                                exact ih h
                              · replace h := it_f hc h
                                refine Ak_iconst 529 (d_Law_law 294 528 (.iconst 0) 1 rfl) rfl (rk rfl) ?_
                                cases h
                                exact Ak_zret (Or.inl rfl) rfl (d_Law_law 295 529 (.ireturn) 1 rfl)
                            · replace h := it_f hc135 h
                              by_cases hc148 : (and32 (X x3) 63) = 12
                              · replace h := it_t hc148 h
                                refine Ak_tableIn 530 12 hc148 (d_Law_law 21 33 (.tableswitch 943 0 33 #[151, 214, 237, 250, 273, 296, 329, 362, 395, 418, 451, 464, 497, 510, 523, 536, 549, 582, 605, 628, 651, 674, 697, 710, 743, 756, 779, 802, 835, 848, 871, 884, 907, 920]) 151 rfl) (by decide) (by decide) rfl rfl ?_
                                refine Ak_aload_n 531 1 (d_Law_law 296 530 (.aload_n 1) 1 rfl) rfl rfl rfl ?_
                                obtain ⟨hg152, h⟩ := gd_some h
                                obtain ⟨r149, V150, h151, h⟩ := bnd_some h
                                refine Ak_gV1 534 10 (c_SG_worth h151) rfl hg152 clX12 rfl mok_SG_worth lkM_Law_67 (d_Law_law 297 531 (.invokevirtual 67) 3 rfl) rfl (by decide) (by decide) (Nat.le_of_ble_eq_true rfl) ?_
                                refine Ak_aload_n 535 2 (d_Law_law 298 534 (.aload_n 2) 1 rfl) rfl rfl rfl ?_
                                obtain ⟨hg156, h⟩ := gd_some h
                                obtain ⟨r153, V154, h155, h⟩ := bnd_some h
                                refine Ak_gV1 538 10 (c_M_worth h155) rfl hg156 clX13 rfl mok_M_worth lkM_Law_70 (d_Law_law 299 535 (.invokevirtual 70) 3 rfl) rfl (by decide) (by decide) (Nat.le_of_ble_eq_true rfl) ?_
                                refine Ak_icmp_eq 976 541 (d_Law_law 300 538 (.if_icmp .eq 438) 3 rfl) rfl rfl (fun hc => ?_) (fun hc => ?_)
                                · replace h := it_t hc h
                                  refine Ak_iinc 979 (d_Law_law 610 976 (.iinc 3 6) 3 rfl) rfl rfl (by decide) ?_
                                  refine Ak_goto 18 (d_Law_law 611 979 (.goto (-961)) 3 rfl) rfl ?_
                                  refine Ak_keep [true, true, true, true] ?_
                                  exact ih h
                                · replace h := it_f hc h
                                  refine Ak_iconst 542 (d_Law_law 301 541 (.iconst 0) 1 rfl) rfl (rk rfl) ?_
                                  cases h
                                  exact Ak_zret (Or.inl rfl) rfl (d_Law_law 302 542 (.ireturn) 1 rfl)
                              · replace h := it_f hc148 h
                                by_cases hc157 : (and32 (X x3) 63) = 13
                                · replace h := it_t hc157 h
                                  refine Ak_tableIn 543 13 hc157 (d_Law_law 21 33 (.tableswitch 943 0 33 #[151, 214, 237, 250, 273, 296, 329, 362, 395, 418, 451, 464, 497, 510, 523, 536, 549, 582, 605, 628, 651, 674, 697, 710, 743, 756, 779, 802, 835, 848, 871, 884, 907, 920]) 151 rfl) (by decide) (by decide) rfl rfl ?_
                                  refine Ak_aload_n 544 1 (d_Law_law 303 543 (.aload_n 1) 1 rfl) rfl rfl rfl ?_
                                  obtain ⟨hg161, h⟩ := gd_some h
                                  obtain ⟨r158, V159, h160, h⟩ := bnd_some h
                                  refine Ak_gV1 547 10 (c_SG_hat h160) rfl hg161 clX12 rfl mok_SG_hat lkM_Law_71 (d_Law_law 304 544 (.invokevirtual 71) 3 rfl) rfl (by decide) (by decide) (Nat.le_of_ble_eq_true rfl) ?_
                                  refine Ak_aload_n 548 2 (d_Law_law 305 547 (.aload_n 2) 1 rfl) rfl rfl rfl ?_
                                  obtain ⟨hg165, h⟩ := gd_some h
                                  obtain ⟨r162, V163, h164, h⟩ := bnd_some h
                                  refine Ak_gV1 551 10 (c_M_hat h164) rfl hg165 clX13 rfl mok_M_hat lkM_Law_74 (d_Law_law 306 548 (.invokevirtual 74) 3 rfl) rfl (by decide) (by decide) (Nat.le_of_ble_eq_true rfl) ?_
                                  refine Ak_icmp_eq 976 554 (d_Law_law 307 551 (.if_icmp .eq 425) 3 rfl) rfl rfl (fun hc => ?_) (fun hc => ?_)
                                  · replace h := it_t hc h
                                    refine Ak_iinc 979 (d_Law_law 610 976 (.iinc 3 6) 3 rfl) rfl rfl (by decide) ?_
                                    refine Ak_goto 18 (d_Law_law 611 979 (.goto (-961)) 3 rfl) rfl ?_
                                    refine Ak_keep [true, true, true, true] ?_
                                    exact ih h
                                  · replace h := it_f hc h
                                    refine Ak_iconst 555 (d_Law_law 308 554 (.iconst 0) 1 rfl) rfl (rk rfl) ?_
                                    cases h
                                    exact Ak_zret (Or.inl rfl) rfl (d_Law_law 309 555 (.ireturn) 1 rfl)
                                · replace h := it_f hc157 h
                                  by_cases hc166 : (and32 (X x3) 63) = 14
                                  · replace h := it_t hc166 h
                                    refine Ak_tableIn 556 14 hc166 (d_Law_law 21 33 (.tableswitch 943 0 33 #[151, 214, 237, 250, 273, 296, 329, 362, 395, 418, 451, 464, 497, 510, 523, 536, 549, 582, 605, 628, 651, 674, 697, 710, 743, 756, 779, 802, 835, 848, 871, 884, 907, 920]) 151 rfl) (by decide) (by decide) rfl rfl ?_
                                    refine Ak_aload_n 557 1 (d_Law_law 310 556 (.aload_n 1) 1 rfl) rfl rfl rfl ?_
                                    obtain ⟨hg170, h⟩ := gd_some h
                                    obtain ⟨r167, V168, h169, h⟩ := bnd_some h
                                    refine Ak_gV1 560 9 (c_SG_longest h169) rfl hg170 clX12 rfl mok_SG_longest lkM_Law_75 (d_Law_law 311 557 (.invokevirtual 75) 3 rfl) rfl (by decide) (by decide) (Nat.le_of_ble_eq_true rfl) ?_
                                    refine Ak_aload_n 561 2 (d_Law_law 312 560 (.aload_n 2) 1 rfl) rfl rfl rfl ?_
                                    obtain ⟨hg174, h⟩ := gd_some h
                                    obtain ⟨r171, V172, h173, h⟩ := bnd_some h
                                    refine Ak_gV1 564 9 (c_M_longest h173) rfl hg174 clX13 rfl mok_M_longest lkM_Law_78 (d_Law_law 313 561 (.invokevirtual 78) 3 rfl) rfl (by decide) (by decide) (Nat.le_of_ble_eq_true rfl) ?_
                                    refine Ak_icmp_eq 976 567 (d_Law_law 314 564 (.if_icmp .eq 412) 3 rfl) rfl rfl (fun hc => ?_) (fun hc => ?_)
                                    · replace h := it_t hc h
                                      refine Ak_iinc 979 (d_Law_law 610 976 (.iinc 3 6) 3 rfl) rfl rfl (by decide) ?_
                                      refine Ak_goto 18 (d_Law_law 611 979 (.goto (-961)) 3 rfl) rfl ?_
                                      refine Ak_keep [true, true, true, true] ?_
                                      exact ih h
                                    · replace h := it_f hc h
                                      refine Ak_iconst 568 (d_Law_law 315 567 (.iconst 0) 1 rfl) rfl (rk rfl) ?_
                                      cases h
                                      exact Ak_zret (Or.inl rfl) rfl (d_Law_law 316 568 (.ireturn) 1 rfl)
                                  · replace h := it_f hc166 h
                                    by_cases hc175 : (and32 (X x3) 63) = 15
                                    · replace h := it_t hc175 h
                                      refine Ak_tableIn 569 15 hc175 (d_Law_law 21 33 (.tableswitch 943 0 33 #[151, 214, 237, 250, 273, 296, 329, 362, 395, 418, 451, 464, 497, 510, 523, 536, 549, 582, 605, 628, 651, 674, 697, 710, 743, 756, 779, 802, 835, 848, 871, 884, 907, 920]) 151 rfl) (by decide) (by decide) rfl rfl ?_
                                      refine Ak_aload_n 570 1 (d_Law_law 317 569 (.aload_n 1) 1 rfl) rfl rfl rfl ?_
                                      obtain ⟨hg179, h⟩ := gd_some h
                                      obtain ⟨r176, V177, h178, h⟩ := bnd_some h
                                      refine Ak_gV1 573 9 (c_SG_row h178) rfl hg179 clX12 rfl mok_SG_row lkM_Law_79 (d_Law_law 318 570 (.invokevirtual 79) 3 rfl) rfl (by decide) (by decide) (Nat.le_of_ble_eq_true rfl) ?_
                                      refine Ak_aload_n 574 2 (d_Law_law 319 573 (.aload_n 2) 1 rfl) rfl rfl rfl ?_
                                      obtain ⟨hg183, h⟩ := gd_some h
                                      obtain ⟨r180, V181, h182, h⟩ := bnd_some h
                                      refine Ak_gV1 577 7 (c_M_row h182) rfl hg183 clX13 rfl mok_M_row lkM_Law_82 (d_Law_law 320 574 (.invokevirtual 82) 3 rfl) rfl (by decide) (by decide) (Nat.le_of_ble_eq_true rfl) ?_
                                      refine Ak_icmp_eq 976 580 (d_Law_law 321 577 (.if_icmp .eq 399) 3 rfl) rfl rfl (fun hc => ?_) (fun hc => ?_)
                                      · replace h := it_t hc h
                                        refine Ak_iinc 979 (d_Law_law 610 976 (.iinc 3 6) 3 rfl) rfl rfl (by decide) ?_
                                        refine Ak_goto 18 (d_Law_law 611 979 (.goto (-961)) 3 rfl) rfl ?_
                                        refine Ak_keep [true, true, true, true] ?_
                                        exact ih h
                                      · replace h := it_f hc h
                                        refine Ak_iconst 581 (d_Law_law 322 580 (.iconst 0) 1 rfl) rfl (rk rfl) ?_
                                        cases h
                                        exact Ak_zret (Or.inl rfl) rfl (d_Law_law 323 581 (.ireturn) 1 rfl)
                                    · replace h := it_f hc175 h
                                      by_cases hc184 : (and32 (X x3) 63) = 16
                                      · replace h := it_t hc184 h
                                        refine Ak_tableIn 582 16 hc184 (d_Law_law 21 33 (.tableswitch 943 0 33 #[151, 214, 237, 250, 273, 296, 329, 362, 395, 418, 451, 464, 497, 510, 523, 536, 549, 582, 605, 628, 651, 674, 697, 710, 743, 756, 779, 802, 835, 848, 871, 884, 907, 920]) 151 rfl) (by decide) (by decide) rfl rfl ?_
                                        refine Ak_aload_n 583 1 (d_Law_law 324 582 (.aload_n 1) 1 rfl) rfl rfl rfl ?_
                                        refine Ak_aload_n 584 0 (d_Law_law 325 583 (.aload_n 0) 1 rfl) rfl rfl rfl ?_
                                        refine Ak_iload_n 585 3 (d_Law_law 326 584 (.iload_n 3) 1 rfl) rfl rfl rfl ?_
                                        refine Ak_iconst 586 (d_Law_law 327 585 (.iconst 1) 1 rfl) rfl (rk rfl) ?_
                                        refine Ak_iadd 587 (d_Law_law 328 586 (.iadd) 1 rfl) rfl ?_
                                        obtain ⟨hs185, h⟩ := gd_some h
                                        refine Ak_sld 588 hs185 (d_Law_law 329 587 (.iaload) 1 rfl) rfl ?_
                                        refine Ak_aload_n 589 0 (d_Law_law 330 588 (.aload_n 0) 1 rfl) rfl rfl rfl ?_
                                        refine Ak_iload_n 590 3 (d_Law_law 331 589 (.iload_n 3) 1 rfl) rfl rfl rfl ?_
                                        refine Ak_iconst 591 (d_Law_law 332 590 (.iconst 2) 1 rfl) rfl (rk rfl) ?_
                                        refine Ak_iadd 592 (d_Law_law 333 591 (.iadd) 1 rfl) rfl ?_
                                        obtain ⟨hs186, h⟩ := gd_some h
                                        refine Ak_sld 593 hs186 (d_Law_law 334 592 (.iaload) 1 rfl) rfl ?_
                                        obtain ⟨hg190, h⟩ := gd_some h
                                        obtain ⟨r187, V188, h189, h⟩ := bnd_some h
                                        refine Ak_gV1 596 3 (c_SG_errs h189) rfl hg190 clX12 rfl mok_SG_errs lkM_Law_83 (d_Law_law 335 593 (.invokevirtual 83) 3 rfl) rfl (by decide) (by decide) (Nat.le_of_ble_eq_true rfl) ?_
                                        refine Ak_aload_n 597 2 (d_Law_law 336 596 (.aload_n 2) 1 rfl) rfl rfl rfl ?_
                                        refine Ak_aload_n 598 0 (d_Law_law 337 597 (.aload_n 0) 1 rfl) rfl rfl rfl ?_
                                        refine Ak_iload_n 599 3 (d_Law_law 338 598 (.iload_n 3) 1 rfl) rfl rfl rfl ?_
                                        refine Ak_iconst 600 (d_Law_law 339 599 (.iconst 1) 1 rfl) rfl (rk rfl) ?_
                                        refine Ak_iadd 601 (d_Law_law 340 600 (.iadd) 1 rfl) rfl ?_
                                        obtain ⟨hs191, h⟩ := gd_some h
                                        refine Ak_sld 602 hs191 (d_Law_law 341 601 (.iaload) 1 rfl) rfl ?_
                                        refine Ak_aload_n 603 0 (d_Law_law 342 602 (.aload_n 0) 1 rfl) rfl rfl rfl ?_
                                        refine Ak_iload_n 604 3 (d_Law_law 343 603 (.iload_n 3) 1 rfl) rfl rfl rfl ?_
                                        refine Ak_iconst 605 (d_Law_law 344 604 (.iconst 2) 1 rfl) rfl (rk rfl) ?_
                                        refine Ak_iadd 606 (d_Law_law 345 605 (.iadd) 1 rfl) rfl ?_
                                        obtain ⟨hs192, h⟩ := gd_some h
                                        refine Ak_sld 607 hs192 (d_Law_law 346 606 (.iaload) 1 rfl) rfl ?_
                                        obtain ⟨hg196, h⟩ := gd_some h
                                        obtain ⟨r193, V194, h195, h⟩ := bnd_some h
                                        refine Ak_gV1 610 3 (c_M_errs h195) rfl hg196 clX13 rfl mok_M_errs lkM_Law_86 (d_Law_law 347 607 (.invokevirtual 86) 3 rfl) rfl (by decide) (by decide) (Nat.le_of_ble_eq_true rfl) ?_
                                        refine Ak_icmp_eq 976 613 (d_Law_law 348 610 (.if_icmp .eq 366) 3 rfl) rfl rfl (fun hc => ?_) (fun hc => ?_)
                                        · replace h := it_t hc h
                                          refine Ak_iinc 979 (d_Law_law 610 976 (.iinc 3 6) 3 rfl) rfl rfl (by decide) ?_
                                          refine Ak_goto 18 (d_Law_law 611 979 (.goto (-961)) 3 rfl) rfl ?_
                                          refine Ak_keep [true, true, true, true] ?_
                                          exact ih h
                                        · replace h := it_f hc h
                                          refine Ak_iconst 614 (d_Law_law 349 613 (.iconst 0) 1 rfl) rfl (rk rfl) ?_
                                          cases h
                                          exact Ak_zret (Or.inl rfl) rfl (d_Law_law 350 614 (.ireturn) 1 rfl)
                                      · replace h := it_f hc184 h
                                        by_cases hc197 : (and32 (X x3) 63) = 17
                                        · replace h := it_t hc197 h
                                          refine Ak_tableIn 615 17 hc197 (d_Law_law 21 33 (.tableswitch 943 0 33 #[151, 214, 237, 250, 273, 296, 329, 362, 395, 418, 451, 464, 497, 510, 523, 536, 549, 582, 605, 628, 651, 674, 697, 710, 743, 756, 779, 802, 835, 848, 871, 884, 907, 920]) 151 rfl) (by decide) (by decide) rfl rfl ?_
                                          refine Ak_aload_n 616 1 (d_Law_law 351 615 (.aload_n 1) 1 rfl) rfl rfl rfl ?_
                                          refine Ak_aload_n 617 0 (d_Law_law 352 616 (.aload_n 0) 1 rfl) rfl rfl rfl ?_
                                          refine Ak_iload_n 618 3 (d_Law_law 353 617 (.iload_n 3) 1 rfl) rfl rfl rfl ?_
                                          refine Ak_iconst 619 (d_Law_law 354 618 (.iconst 1) 1 rfl) rfl (rk rfl) ?_
                                          refine Ak_iadd 620 (d_Law_law 355 619 (.iadd) 1 rfl) rfl ?_
                                          obtain ⟨hs198, h⟩ := gd_some h
                                          refine Ak_sld 621 hs198 (d_Law_law 356 620 (.iaload) 1 rfl) rfl ?_
                                          obtain ⟨hg202, h⟩ := gd_some h
                                          obtain ⟨r199, V200, h201, h⟩ := bnd_some h
                                          refine Ak_gV1 624 10 (c_SG_likely h201) rfl hg202 clX12 rfl mok_SG_likely lkM_Law_87 (d_Law_law 357 621 (.invokevirtual 87) 3 rfl) rfl (by decide) (by decide) (Nat.le_of_ble_eq_true rfl) ?_
                                          refine Ak_aload_n 625 2 (d_Law_law 358 624 (.aload_n 2) 1 rfl) rfl rfl rfl ?_
                                          refine Ak_aload_n 626 0 (d_Law_law 359 625 (.aload_n 0) 1 rfl) rfl rfl rfl ?_
                                          refine Ak_iload_n 627 3 (d_Law_law 360 626 (.iload_n 3) 1 rfl) rfl rfl rfl ?_
                                          refine Ak_iconst 628 (d_Law_law 361 627 (.iconst 1) 1 rfl) rfl (rk rfl) ?_
                                          refine Ak_iadd 629 (d_Law_law 362 628 (.iadd) 1 rfl) rfl ?_
                                          obtain ⟨hs203, h⟩ := gd_some h
                                          refine Ak_sld 630 hs203 (d_Law_law 363 629 (.iaload) 1 rfl) rfl ?_
                                          obtain ⟨hg207, h⟩ := gd_some h
                                          obtain ⟨r204, V205, h206, h⟩ := bnd_some h
                                          refine Ak_gV1 633 9 (c_M_likely h206) rfl hg207 clX13 rfl mok_M_likely lkM_Law_90 (d_Law_law 364 630 (.invokevirtual 90) 3 rfl) rfl (by decide) (by decide) (Nat.le_of_ble_eq_true rfl) ?_
                                          refine Ak_icmp_eq 976 636 (d_Law_law 365 633 (.if_icmp .eq 343) 3 rfl) rfl rfl (fun hc => ?_) (fun hc => ?_)
                                          · replace h := it_t hc h
                                            refine Ak_iinc 979 (d_Law_law 610 976 (.iinc 3 6) 3 rfl) rfl rfl (by decide) ?_
                                            refine Ak_goto 18 (d_Law_law 611 979 (.goto (-961)) 3 rfl) rfl ?_
                                            refine Ak_keep [true, true, true, true] ?_
                                            exact ih h
                                          · replace h := it_f hc h
                                            refine Ak_iconst 637 (d_Law_law 366 636 (.iconst 0) 1 rfl) rfl (rk rfl) ?_
                                            cases h
                                            exact Ak_zret (Or.inl rfl) rfl (d_Law_law 367 637 (.ireturn) 1 rfl)
                                        · replace h := it_f hc197 h
                                          by_cases hc208 : (and32 (X x3) 63) = 18
                                          · replace h := it_t hc208 h
                                            refine Ak_tableIn 638 18 hc208 (d_Law_law 21 33 (.tableswitch 943 0 33 #[151, 214, 237, 250, 273, 296, 329, 362, 395, 418, 451, 464, 497, 510, 523, 536, 549, 582, 605, 628, 651, 674, 697, 710, 743, 756, 779, 802, 835, 848, 871, 884, 907, 920]) 151 rfl) (by decide) (by decide) rfl rfl ?_
                                            refine Ak_aload_n 639 1 (d_Law_law 368 638 (.aload_n 1) 1 rfl) rfl rfl rfl ?_
                                            refine Ak_aload_n 640 0 (d_Law_law 369 639 (.aload_n 0) 1 rfl) rfl rfl rfl ?_
                                            refine Ak_iload_n 641 3 (d_Law_law 370 640 (.iload_n 3) 1 rfl) rfl rfl rfl ?_
                                            refine Ak_iconst 642 (d_Law_law 371 641 (.iconst 1) 1 rfl) rfl (rk rfl) ?_
                                            refine Ak_iadd 643 (d_Law_law 372 642 (.iadd) 1 rfl) rfl ?_
                                            obtain ⟨hs209, h⟩ := gd_some h
                                            refine Ak_sld 644 hs209 (d_Law_law 373 643 (.iaload) 1 rfl) rfl ?_
                                            obtain ⟨hg213, h⟩ := gd_some h
                                            obtain ⟨r210, V211, h212, h⟩ := bnd_some h
                                            refine Ak_gV1 647 6 (c_SG_change h212) rfl hg213 clX12 rfl mok_SG_change lkM_Law_91 (d_Law_law 374 644 (.invokevirtual 91) 3 rfl) rfl (by decide) (by decide) (Nat.le_of_ble_eq_true rfl) ?_
                                            refine Ak_aload_n 648 2 (d_Law_law 375 647 (.aload_n 2) 1 rfl) rfl rfl rfl ?_
                                            refine Ak_aload_n 649 0 (d_Law_law 376 648 (.aload_n 0) 1 rfl) rfl rfl rfl ?_
                                            refine Ak_iload_n 650 3 (d_Law_law 377 649 (.iload_n 3) 1 rfl) rfl rfl rfl ?_
                                            refine Ak_iconst 651 (d_Law_law 378 650 (.iconst 1) 1 rfl) rfl (rk rfl) ?_
                                            refine Ak_iadd 652 (d_Law_law 379 651 (.iadd) 1 rfl) rfl ?_
                                            obtain ⟨hs214, h⟩ := gd_some h
                                            refine Ak_sld 653 hs214 (d_Law_law 380 652 (.iaload) 1 rfl) rfl ?_
                                            obtain ⟨hg218, h⟩ := gd_some h
                                            obtain ⟨r215, V216, h217, h⟩ := bnd_some h
                                            refine Ak_gV1 656 4 (c_M_change h217) rfl hg218 clX13 rfl mok_M_change lkM_Law_94 (d_Law_law 381 653 (.invokevirtual 94) 3 rfl) rfl (by decide) (by decide) (Nat.le_of_ble_eq_true rfl) ?_
                                            refine Ak_icmp_eq 976 659 (d_Law_law 382 656 (.if_icmp .eq 320) 3 rfl) rfl rfl (fun hc => ?_) (fun hc => ?_)
                                            · replace h := it_t hc h
                                              refine Ak_iinc 979 (d_Law_law 610 976 (.iinc 3 6) 3 rfl) rfl rfl (by decide) ?_
                                              refine Ak_goto 18 (d_Law_law 611 979 (.goto (-961)) 3 rfl) rfl ?_
                                              refine Ak_keep [true, true, true, true] ?_
                                              exact ih h
                                            · replace h := it_f hc h
                                              refine Ak_iconst 660 (d_Law_law 383 659 (.iconst 0) 1 rfl) rfl (rk rfl) ?_
                                              cases h
                                              exact Ak_zret (Or.inl rfl) rfl (d_Law_law 384 660 (.ireturn) 1 rfl)
                                          · replace h := it_f hc208 h
                                            by_cases hc219 : (and32 (X x3) 63) = 19
                                            · replace h := it_t hc219 h
                                              refine Ak_tableIn 661 19 hc219 (d_Law_law 21 33 (.tableswitch 943 0 33 #[151, 214, 237, 250, 273, 296, 329, 362, 395, 418, 451, 464, 497, 510, 523, 536, 549, 582, 605, 628, 651, 674, 697, 710, 743, 756, 779, 802, 835, 848, 871, 884, 907, 920]) 151 rfl) (by decide) (by decide) rfl rfl ?_
                                              refine Ak_aload_n 662 1 (d_Law_law 385 661 (.aload_n 1) 1 rfl) rfl rfl rfl ?_
                                              refine Ak_aload_n 663 0 (d_Law_law 386 662 (.aload_n 0) 1 rfl) rfl rfl rfl ?_
                                              refine Ak_iload_n 664 3 (d_Law_law 387 663 (.iload_n 3) 1 rfl) rfl rfl rfl ?_
                                              refine Ak_iconst 665 (d_Law_law 388 664 (.iconst 1) 1 rfl) rfl (rk rfl) ?_
                                              refine Ak_iadd 666 (d_Law_law 389 665 (.iadd) 1 rfl) rfl ?_
                                              obtain ⟨hs220, h⟩ := gd_some h
                                              refine Ak_sld 667 hs220 (d_Law_law 390 666 (.iaload) 1 rfl) rfl ?_
                                              obtain ⟨hg224, h⟩ := gd_some h
                                              obtain ⟨r221, V222, h223, h⟩ := bnd_some h
                                              refine Ak_gV1 670 10 (c_SG_outcome h223) rfl hg224 clX12 rfl mok_SG_outcome lkM_Law_95 (d_Law_law 391 667 (.invokevirtual 95) 3 rfl) rfl (by decide) (by decide) (Nat.le_of_ble_eq_true rfl) ?_
                                              refine Ak_aload_n 671 2 (d_Law_law 392 670 (.aload_n 2) 1 rfl) rfl rfl rfl ?_
                                              refine Ak_aload_n 672 0 (d_Law_law 393 671 (.aload_n 0) 1 rfl) rfl rfl rfl ?_
                                              refine Ak_iload_n 673 3 (d_Law_law 394 672 (.iload_n 3) 1 rfl) rfl rfl rfl ?_
                                              refine Ak_iconst 674 (d_Law_law 395 673 (.iconst 1) 1 rfl) rfl (rk rfl) ?_
                                              refine Ak_iadd 675 (d_Law_law 396 674 (.iadd) 1 rfl) rfl ?_
                                              obtain ⟨hs225, h⟩ := gd_some h
                                              refine Ak_sld 676 hs225 (d_Law_law 397 675 (.iaload) 1 rfl) rfl ?_
                                              obtain ⟨hg229, h⟩ := gd_some h
                                              obtain ⟨r226, V227, h228, h⟩ := bnd_some h
                                              refine Ak_gV1 679 11 (c_M_outcome h228) rfl hg229 clX13 rfl mok_M_outcome lkM_Law_98 (d_Law_law 398 676 (.invokevirtual 98) 3 rfl) rfl (by decide) (by decide) (Nat.le_of_ble_eq_true rfl) ?_
                                              refine Ak_icmp_eq 976 682 (d_Law_law 399 679 (.if_icmp .eq 297) 3 rfl) rfl rfl (fun hc => ?_) (fun hc => ?_)
                                              · replace h := it_t hc h
                                                refine Ak_iinc 979 (d_Law_law 610 976 (.iinc 3 6) 3 rfl) rfl rfl (by decide) ?_
                                                refine Ak_goto 18 (d_Law_law 611 979 (.goto (-961)) 3 rfl) rfl ?_
                                                refine Ak_keep [true, true, true, true] ?_
                                                exact ih h
                                              · replace h := it_f hc h
                                                refine Ak_iconst 683 (d_Law_law 400 682 (.iconst 0) 1 rfl) rfl (rk rfl) ?_
                                                cases h
                                                exact Ak_zret (Or.inl rfl) rfl (d_Law_law 401 683 (.ireturn) 1 rfl)
                                            · replace h := it_f hc219 h
                                              by_cases hc230 : (and32 (X x3) 63) = 20
                                              · replace h := it_t hc230 h
                                                refine Ak_tableIn 684 20 hc230 (d_Law_law 21 33 (.tableswitch 943 0 33 #[151, 214, 237, 250, 273, 296, 329, 362, 395, 418, 451, 464, 497, 510, 523, 536, 549, 582, 605, 628, 651, 674, 697, 710, 743, 756, 779, 802, 835, 848, 871, 884, 907, 920]) 151 rfl) (by decide) (by decide) rfl rfl ?_
                                                refine Ak_aload_n 685 1 (d_Law_law 402 684 (.aload_n 1) 1 rfl) rfl rfl rfl ?_
                                                refine Ak_aload_n 686 0 (d_Law_law 403 685 (.aload_n 0) 1 rfl) rfl rfl rfl ?_
                                                refine Ak_iload_n 687 3 (d_Law_law 404 686 (.iload_n 3) 1 rfl) rfl rfl rfl ?_
                                                refine Ak_iconst 688 (d_Law_law 405 687 (.iconst 1) 1 rfl) rfl (rk rfl) ?_
                                                refine Ak_iadd 689 (d_Law_law 406 688 (.iadd) 1 rfl) rfl ?_
                                                obtain ⟨hs231, h⟩ := gd_some h
                                                refine Ak_sld 690 hs231 (d_Law_law 407 689 (.iaload) 1 rfl) rfl ?_
                                                obtain ⟨hg235, h⟩ := gd_some h
                                                obtain ⟨r232, V233, h234, h⟩ := bnd_some h
                                                refine Ak_gV1 693 10 (c_SG_turning h234) rfl hg235 clX12 rfl mok_SG_turning lkM_Law_99 (d_Law_law 408 690 (.invokevirtual 99) 3 rfl) rfl (by decide) (by decide) (Nat.le_of_ble_eq_true rfl) ?_
                                                refine Ak_aload_n 694 2 (d_Law_law 409 693 (.aload_n 2) 1 rfl) rfl rfl rfl ?_
                                                refine Ak_aload_n 695 0 (d_Law_law 410 694 (.aload_n 0) 1 rfl) rfl rfl rfl ?_
                                                refine Ak_iload_n 696 3 (d_Law_law 411 695 (.iload_n 3) 1 rfl) rfl rfl rfl ?_
                                                refine Ak_iconst 697 (d_Law_law 412 696 (.iconst 1) 1 rfl) rfl (rk rfl) ?_
                                                refine Ak_iadd 698 (d_Law_law 413 697 (.iadd) 1 rfl) rfl ?_
                                                obtain ⟨hs236, h⟩ := gd_some h
                                                refine Ak_sld 699 hs236 (d_Law_law 414 698 (.iaload) 1 rfl) rfl ?_
                                                obtain ⟨hg240, h⟩ := gd_some h
                                                obtain ⟨r237, V238, h239, h⟩ := bnd_some h
                                                refine Ak_gV1 702 11 (c_M_turning h239) rfl hg240 clX13 rfl mok_M_turning lkM_Law_102 (d_Law_law 415 699 (.invokevirtual 102) 3 rfl) rfl (by decide) (by decide) (Nat.le_of_ble_eq_true rfl) ?_
                                                refine Ak_icmp_eq 976 705 (d_Law_law 416 702 (.if_icmp .eq 274) 3 rfl) rfl rfl (fun hc => ?_) (fun hc => ?_)
                                                · replace h := it_t hc h
                                                  refine Ak_iinc 979 (d_Law_law 610 976 (.iinc 3 6) 3 rfl) rfl rfl (by decide) ?_
                                                  refine Ak_goto 18 (d_Law_law 611 979 (.goto (-961)) 3 rfl) rfl ?_
                                                  refine Ak_keep [true, true, true, true] ?_
                                                  exact ih h
                                                · replace h := it_f hc h
                                                  refine Ak_iconst 706 (d_Law_law 417 705 (.iconst 0) 1 rfl) rfl (rk rfl) ?_
                                                  cases h
                                                  exact Ak_zret (Or.inl rfl) rfl (d_Law_law 418 706 (.ireturn) 1 rfl)
                                              · replace h := it_f hc230 h
                                                by_cases hc241 : (and32 (X x3) 63) = 21
                                                · replace h := it_t hc241 h
                                                  refine Ak_tableIn 707 21 hc241 (d_Law_law 21 33 (.tableswitch 943 0 33 #[151, 214, 237, 250, 273, 296, 329, 362, 395, 418, 451, 464, 497, 510, 523, 536, 549, 582, 605, 628, 651, 674, 697, 710, 743, 756, 779, 802, 835, 848, 871, 884, 907, 920]) 151 rfl) (by decide) (by decide) rfl rfl ?_
                                                  refine Ak_aload_n 708 1 (d_Law_law 419 707 (.aload_n 1) 1 rfl) rfl rfl rfl ?_
                                                  refine Ak_aload_n 709 0 (d_Law_law 420 708 (.aload_n 0) 1 rfl) rfl rfl rfl ?_
                                                  refine Ak_iload_n 710 3 (d_Law_law 421 709 (.iload_n 3) 1 rfl) rfl rfl rfl ?_
                                                  refine Ak_iconst 711 (d_Law_law 422 710 (.iconst 1) 1 rfl) rfl (rk rfl) ?_
                                                  refine Ak_iadd 712 (d_Law_law 423 711 (.iadd) 1 rfl) rfl ?_
                                                  obtain ⟨hs242, h⟩ := gd_some h
                                                  refine Ak_sld 713 hs242 (d_Law_law 424 712 (.iaload) 1 rfl) rfl ?_
                                                  obtain ⟨hg246, h⟩ := gd_some h
                                                  obtain ⟨r243, V244, h245, h⟩ := bnd_some h
                                                  refine Ak_gV1 716 7 (c_SG_make h245) rfl hg246 clX12 rfl mok_SG_make lkM_Law_103 (d_Law_law 425 713 (.invokevirtual 103) 3 rfl) rfl (by decide) (by decide) (Nat.le_of_ble_eq_true rfl) ?_
                                                  refine Ak_aload_n 717 2 (d_Law_law 426 716 (.aload_n 2) 1 rfl) rfl rfl rfl ?_
                                                  refine Ak_aload_n 718 0 (d_Law_law 427 717 (.aload_n 0) 1 rfl) rfl rfl rfl ?_
                                                  refine Ak_iload_n 719 3 (d_Law_law 428 718 (.iload_n 3) 1 rfl) rfl rfl rfl ?_
                                                  refine Ak_iconst 720 (d_Law_law 429 719 (.iconst 1) 1 rfl) rfl (rk rfl) ?_
                                                  refine Ak_iadd 721 (d_Law_law 430 720 (.iadd) 1 rfl) rfl ?_
                                                  obtain ⟨hs247, h⟩ := gd_some h
                                                  refine Ak_sld 722 hs247 (d_Law_law 431 721 (.iaload) 1 rfl) rfl ?_
                                                  obtain ⟨hg251, h⟩ := gd_some h
                                                  obtain ⟨r248, V249, h250, h⟩ := bnd_some h
                                                  refine Ak_gV1 725 5 (c_M_make h250) rfl hg251 clX13 rfl mok_M_make lkM_Law_106 (d_Law_law 432 722 (.invokevirtual 106) 3 rfl) rfl (by decide) (by decide) (Nat.le_of_ble_eq_true rfl) ?_
                                                  refine Ak_icmp_eq 976 728 (d_Law_law 433 725 (.if_icmp .eq 251) 3 rfl) rfl rfl (fun hc => ?_) (fun hc => ?_)
                                                  · replace h := it_t hc h
                                                    refine Ak_iinc 979 (d_Law_law 610 976 (.iinc 3 6) 3 rfl) rfl rfl (by decide) ?_
                                                    refine Ak_goto 18 (d_Law_law 611 979 (.goto (-961)) 3 rfl) rfl ?_
                                                    refine Ak_keep [true, true, true, true] ?_
                                                    exact ih h
                                                  · replace h := it_f hc h
                                                    refine Ak_iconst 729 (d_Law_law 434 728 (.iconst 0) 1 rfl) rfl (rk rfl) ?_
                                                    cases h
                                                    exact Ak_zret (Or.inl rfl) rfl (d_Law_law 435 729 (.ireturn) 1 rfl)
                                                · replace h := it_f hc241 h
                                                  by_cases hc252 : (and32 (X x3) 63) = 22
                                                  · replace h := it_t hc252 h
                                                    refine Ak_tableIn 730 22 hc252 (d_Law_law 21 33 (.tableswitch 943 0 33 #[151, 214, 237, 250, 273, 296, 329, 362, 395, 418, 451, 464, 497, 510, 523, 536, 549, 582, 605, 628, 651, 674, 697, 710, 743, 756, 779, 802, 835, 848, 871, 884, 907, 920]) 151 rfl) (by decide) (by decide) rfl rfl ?_
                                                    refine Ak_aload_n 731 1 (d_Law_law 436 730 (.aload_n 1) 1 rfl) rfl rfl rfl ?_
                                                    obtain ⟨hg256, h⟩ := gd_some h
                                                    obtain ⟨r253, V254, h255, h⟩ := bnd_some h
                                                    refine Ak_gV1 734 7 (c_SG_undo h255) rfl hg256 clX12 rfl mok_SG_undo lkM_Law_107 (d_Law_law 437 731 (.invokevirtual 107) 3 rfl) rfl (by decide) (by decide) (Nat.le_of_ble_eq_true rfl) ?_
                                                    refine Ak_aload_n 735 2 (d_Law_law 438 734 (.aload_n 2) 1 rfl) rfl rfl rfl ?_
                                                    obtain ⟨hg260, h⟩ := gd_some h
                                                    obtain ⟨r257, V258, h259, h⟩ := bnd_some h
                                                    refine Ak_gV1 738 5 (c_M_undo h259) rfl hg260 clX13 rfl mok_M_undo lkM_Law_111 (d_Law_law 439 735 (.invokevirtual 111) 3 rfl) rfl (by decide) (by decide) (Nat.le_of_ble_eq_true rfl) ?_
                                                    refine Ak_icmp_eq 976 741 (d_Law_law 440 738 (.if_icmp .eq 238) 3 rfl) rfl rfl (fun hc => ?_) (fun hc => ?_)
                                                    · replace h := it_t hc h
                                                      refine Ak_iinc 979 (d_Law_law 610 976 (.iinc 3 6) 3 rfl) rfl rfl (by decide) ?_
                                                      refine Ak_goto 18 (d_Law_law 611 979 (.goto (-961)) 3 rfl) rfl ?_
                                                      refine Ak_keep [true, true, true, true] ?_
                                                      exact ih h
                                                    · replace h := it_f hc h
                                                      refine Ak_iconst 742 (d_Law_law 441 741 (.iconst 0) 1 rfl) rfl (rk rfl) ?_
                                                      cases h
                                                      exact Ak_zret (Or.inl rfl) rfl (d_Law_law 442 742 (.ireturn) 1 rfl)
                                                  · replace h := it_f hc252 h
                                                    by_cases hc261 : (and32 (X x3) 63) = 23
                                                    · replace h := it_t hc261 h
                                                      refine Ak_tableIn 743 23 hc261 (d_Law_law 21 33 (.tableswitch 943 0 33 #[151, 214, 237, 250, 273, 296, 329, 362, 395, 418, 451, 464, 497, 510, 523, 536, 549, 582, 605, 628, 651, 674, 697, 710, 743, 756, 779, 802, 835, 848, 871, 884, 907, 920]) 151 rfl) (by decide) (by decide) rfl rfl ?_
                                                      refine Ak_aload_n 744 1 (d_Law_law 443 743 (.aload_n 1) 1 rfl) rfl rfl rfl ?_
                                                      refine Ak_aload_n 745 0 (d_Law_law 444 744 (.aload_n 0) 1 rfl) rfl rfl rfl ?_
                                                      refine Ak_iload_n 746 3 (d_Law_law 445 745 (.iload_n 3) 1 rfl) rfl rfl rfl ?_
                                                      refine Ak_iconst 747 (d_Law_law 446 746 (.iconst 1) 1 rfl) rfl (rk rfl) ?_
                                                      refine Ak_iadd 748 (d_Law_law 447 747 (.iadd) 1 rfl) rfl ?_
                                                      obtain ⟨hs262, h⟩ := gd_some h
                                                      refine Ak_sld 749 hs262 (d_Law_law 448 748 (.iaload) 1 rfl) rfl ?_
                                                      refine Ak_aload_n 750 0 (d_Law_law 449 749 (.aload_n 0) 1 rfl) rfl rfl rfl ?_
                                                      refine Ak_iload_n 751 3 (d_Law_law 450 750 (.iload_n 3) 1 rfl) rfl rfl rfl ?_
                                                      refine Ak_iconst 752 (d_Law_law 451 751 (.iconst 2) 1 rfl) rfl (rk rfl) ?_
                                                      refine Ak_iadd 753 (d_Law_law 452 752 (.iadd) 1 rfl) rfl ?_
                                                      obtain ⟨hs263, h⟩ := gd_some h
                                                      refine Ak_sld 754 hs263 (d_Law_law 453 753 (.iaload) 1 rfl) rfl ?_
                                                      obtain ⟨hg267, h⟩ := gd_some h
                                                      obtain ⟨r264, V265, h266, h⟩ := bnd_some h
                                                      refine Ak_gV1 757 3 (c_SG_kind h266) rfl hg267 clX12 rfl mok_SG_kind lkM_Law_112 (d_Law_law 454 754 (.invokevirtual 112) 3 rfl) rfl (by decide) (by decide) (Nat.le_of_ble_eq_true rfl) ?_
                                                      refine Ak_aload_n 758 2 (d_Law_law 455 757 (.aload_n 2) 1 rfl) rfl rfl rfl ?_
                                                      refine Ak_aload_n 759 0 (d_Law_law 456 758 (.aload_n 0) 1 rfl) rfl rfl rfl ?_
                                                      refine Ak_iload_n 760 3 (d_Law_law 457 759 (.iload_n 3) 1 rfl) rfl rfl rfl ?_
                                                      refine Ak_iconst 761 (d_Law_law 458 760 (.iconst 1) 1 rfl) rfl (rk rfl) ?_
                                                      refine Ak_iadd 762 (d_Law_law 459 761 (.iadd) 1 rfl) rfl ?_
                                                      obtain ⟨hs268, h⟩ := gd_some h
                                                      refine Ak_sld 763 hs268 (d_Law_law 460 762 (.iaload) 1 rfl) rfl ?_
                                                      refine Ak_aload_n 764 0 (d_Law_law 461 763 (.aload_n 0) 1 rfl) rfl rfl rfl ?_
                                                      refine Ak_iload_n 765 3 (d_Law_law 462 764 (.iload_n 3) 1 rfl) rfl rfl rfl ?_
                                                      refine Ak_iconst 766 (d_Law_law 463 765 (.iconst 2) 1 rfl) rfl (rk rfl) ?_
                                                      refine Ak_iadd 767 (d_Law_law 464 766 (.iadd) 1 rfl) rfl ?_
                                                      obtain ⟨hs269, h⟩ := gd_some h
                                                      refine Ak_sld 768 hs269 (d_Law_law 465 767 (.iaload) 1 rfl) rfl ?_
                                                      obtain ⟨hg273, h⟩ := gd_some h
                                                      obtain ⟨r270, V271, h272, h⟩ := bnd_some h
                                                      refine Ak_gV1 771 3 (c_M_kind h272) rfl hg273 clX13 rfl mok_M_kind lkM_Law_115 (d_Law_law 466 768 (.invokevirtual 115) 3 rfl) rfl (by decide) (by decide) (Nat.le_of_ble_eq_true rfl) ?_
                                                      refine Ak_icmp_eq 976 774 (d_Law_law 467 771 (.if_icmp .eq 205) 3 rfl) rfl rfl (fun hc => ?_) (fun hc => ?_)
                                                      · replace h := it_t hc h
                                                        refine Ak_iinc 979 (d_Law_law 610 976 (.iinc 3 6) 3 rfl) rfl rfl (by decide) ?_
                                                        refine Ak_goto 18 (d_Law_law 611 979 (.goto (-961)) 3 rfl) rfl ?_
                                                        refine Ak_keep [true, true, true, true] ?_
                                                        exact ih h
                                                      · replace h := it_f hc h
                                                        refine Ak_iconst 775 (d_Law_law 468 774 (.iconst 0) 1 rfl) rfl (rk rfl) ?_
                                                        cases h
                                                        exact Ak_zret (Or.inl rfl) rfl (d_Law_law 469 775 (.ireturn) 1 rfl)
                                                    · replace h := it_f hc261 h
                                                      by_cases hc274 : (and32 (X x3) 63) = 24
                                                      · replace h := it_t hc274 h
                                                        refine Ak_tableIn 776 24 hc274 (d_Law_law 21 33 (.tableswitch 943 0 33 #[151, 214, 237, 250, 273, 296, 329, 362, 395, 418, 451, 464, 497, 510, 523, 536, 549, 582, 605, 628, 651, 674, 697, 710, 743, 756, 779, 802, 835, 848, 871, 884, 907, 920]) 151 rfl) (by decide) (by decide) rfl rfl ?_
                                                        refine Ak_aload_n 777 1 (d_Law_law 470 776 (.aload_n 1) 1 rfl) rfl rfl rfl ?_
                                                        obtain ⟨hg278, h⟩ := gd_some h
                                                        obtain ⟨r275, V276, h277, h⟩ := bnd_some h
                                                        refine Ak_gV1 780 10 (c_SG_sunday h277) rfl hg278 clX12 rfl mok_SG_sunday lkM_Law_116 (d_Law_law 471 777 (.invokevirtual 116) 3 rfl) rfl (by decide) (by decide) (Nat.le_of_ble_eq_true rfl) ?_
                                                        refine Ak_aload_n 781 2 (d_Law_law 472 780 (.aload_n 2) 1 rfl) rfl rfl rfl ?_
                                                        obtain ⟨hg282, h⟩ := gd_some h
                                                        obtain ⟨r279, V280, h281, h⟩ := bnd_some h
                                                        refine Ak_gV1 784 13 (c_M_sunday h281) rfl hg282 clX13 rfl mok_M_sunday lkM_Law_119 (d_Law_law 473 781 (.invokevirtual 119) 3 rfl) rfl (by decide) (by decide) (Nat.le_of_ble_eq_true rfl) ?_
                                                        refine Ak_icmp_eq 976 787 (d_Law_law 474 784 (.if_icmp .eq 192) 3 rfl) rfl rfl (fun hc => ?_) (fun hc => ?_)
                                                        · replace h := it_t hc h
                                                          refine Ak_iinc 979 (d_Law_law 610 976 (.iinc 3 6) 3 rfl) rfl rfl (by decide) ?_
                                                          refine Ak_goto 18 (d_Law_law 611 979 (.goto (-961)) 3 rfl) rfl ?_
                                                          refine Ak_keep [true, true, true, true] ?_
                                                          exact ih h
                                                        · replace h := it_f hc h
                                                          refine Ak_iconst 788 (d_Law_law 475 787 (.iconst 0) 1 rfl) rfl (rk rfl) ?_
                                                          cases h
                                                          exact Ak_zret (Or.inl rfl) rfl (d_Law_law 476 788 (.ireturn) 1 rfl)
                                                      · replace h := it_f hc274 h
                                                        by_cases hc283 : (and32 (X x3) 63) = 25
                                                        · replace h := it_t hc283 h
                                                          refine Ak_tableIn 789 25 hc283 (d_Law_law 21 33 (.tableswitch 943 0 33 #[151, 214, 237, 250, 273, 296, 329, 362, 395, 418, 451, 464, 497, 510, 523, 536, 549, 582, 605, 628, 651, 674, 697, 710, 743, 756, 779, 802, 835, 848, 871, 884, 907, 920]) 151 rfl) (by decide) (by decide) rfl rfl ?_
                                                          refine Ak_aload_n 790 1 (d_Law_law 477 789 (.aload_n 1) 1 rfl) rfl rfl rfl ?_
                                                          refine Ak_aload_n 791 0 (d_Law_law 478 790 (.aload_n 0) 1 rfl) rfl rfl rfl ?_
                                                          refine Ak_iload_n 792 3 (d_Law_law 479 791 (.iload_n 3) 1 rfl) rfl rfl rfl ?_
                                                          refine Ak_iconst 793 (d_Law_law 480 792 (.iconst 1) 1 rfl) rfl (rk rfl) ?_
                                                          refine Ak_iadd 794 (d_Law_law 481 793 (.iadd) 1 rfl) rfl ?_
                                                          obtain ⟨hs284, h⟩ := gd_some h
                                                          refine Ak_sld 795 hs284 (d_Law_law 482 794 (.iaload) 1 rfl) rfl ?_
                                                          obtain ⟨hg288, h⟩ := gd_some h
                                                          obtain ⟨r285, V286, h287, h⟩ := bnd_some h
                                                          refine Ak_gV1 798 10 (c_SG_would h287) rfl hg288 clX12 rfl mok_SG_would lkM_Law_120 (d_Law_law 483 795 (.invokevirtual 120) 3 rfl) rfl (by decide) (by decide) (Nat.le_of_ble_eq_true rfl) ?_
                                                          refine Ak_aload_n 799 2 (d_Law_law 484 798 (.aload_n 2) 1 rfl) rfl rfl rfl ?_
                                                          refine Ak_aload_n 800 0 (d_Law_law 485 799 (.aload_n 0) 1 rfl) rfl rfl rfl ?_
                                                          refine Ak_iload_n 801 3 (d_Law_law 486 800 (.iload_n 3) 1 rfl) rfl rfl rfl ?_
                                                          refine Ak_iconst 802 (d_Law_law 487 801 (.iconst 1) 1 rfl) rfl (rk rfl) ?_
                                                          refine Ak_iadd 803 (d_Law_law 488 802 (.iadd) 1 rfl) rfl ?_
                                                          obtain ⟨hs289, h⟩ := gd_some h
                                                          refine Ak_sld 804 hs289 (d_Law_law 489 803 (.iaload) 1 rfl) rfl ?_
                                                          obtain ⟨hg293, h⟩ := gd_some h
                                                          obtain ⟨r290, V291, h292, h⟩ := bnd_some h
                                                          refine Ak_gV1 807 12 (c_M_would h292) rfl hg293 clX13 rfl mok_M_would lkM_Law_123 (d_Law_law 490 804 (.invokevirtual 123) 3 rfl) rfl (by decide) (by decide) (Nat.le_of_ble_eq_true rfl) ?_
                                                          refine Ak_icmp_eq 976 810 (d_Law_law 491 807 (.if_icmp .eq 169) 3 rfl) rfl rfl (fun hc => ?_) (fun hc => ?_)
                                                          · replace h := it_t hc h
                                                            refine Ak_iinc 979 (d_Law_law 610 976 (.iinc 3 6) 3 rfl) rfl rfl (by decide) ?_
                                                            refine Ak_goto 18 (d_Law_law 611 979 (.goto (-961)) 3 rfl) rfl ?_
                                                            refine Ak_keep [true, true, true, true] ?_
                                                            exact ih h
                                                          · replace h := it_f hc h
                                                            refine Ak_iconst 811 (d_Law_law 492 810 (.iconst 0) 1 rfl) rfl (rk rfl) ?_
                                                            cases h
                                                            exact Ak_zret (Or.inl rfl) rfl (d_Law_law 493 811 (.ireturn) 1 rfl)
                                                        · replace h := it_f hc283 h
                                                          by_cases hc294 : (and32 (X x3) 63) = 26
                                                          · replace h := it_t hc294 h
                                                            refine Ak_tableIn 812 26 hc294 (d_Law_law 21 33 (.tableswitch 943 0 33 #[151, 214, 237, 250, 273, 296, 329, 362, 395, 418, 451, 464, 497, 510, 523, 536, 549, 582, 605, 628, 651, 674, 697, 710, 743, 756, 779, 802, 835, 848, 871, 884, 907, 920]) 151 rfl) (by decide) (by decide) rfl rfl ?_
                                                            refine Ak_aload_n 813 1 (d_Law_law 494 812 (.aload_n 1) 1 rfl) rfl rfl rfl ?_
                                                            refine Ak_aload_n 814 0 (d_Law_law 495 813 (.aload_n 0) 1 rfl) rfl rfl rfl ?_
                                                            refine Ak_iload_n 815 3 (d_Law_law 496 814 (.iload_n 3) 1 rfl) rfl rfl rfl ?_
                                                            refine Ak_iconst 816 (d_Law_law 497 815 (.iconst 1) 1 rfl) rfl (rk rfl) ?_
                                                            refine Ak_iadd 817 (d_Law_law 498 816 (.iadd) 1 rfl) rfl ?_
                                                            obtain ⟨hs295, h⟩ := gd_some h
                                                            refine Ak_sld 818 hs295 (d_Law_law 499 817 (.iaload) 1 rfl) rfl ?_
                                                            obtain ⟨hg299, h⟩ := gd_some h
                                                            obtain ⟨r296, V297, h298, h⟩ := bnd_some h
                                                            refine Ak_gV1 821 10 (c_SG_pays h298) rfl hg299 clX12 rfl mok_SG_pays lkM_Law_124 (d_Law_law 500 818 (.invokevirtual 124) 3 rfl) rfl (by decide) (by decide) (Nat.le_of_ble_eq_true rfl) ?_
                                                            refine Ak_aload_n 822 2 (d_Law_law 501 821 (.aload_n 2) 1 rfl) rfl rfl rfl ?_
                                                            refine Ak_aload_n 823 0 (d_Law_law 502 822 (.aload_n 0) 1 rfl) rfl rfl rfl ?_
                                                            refine Ak_iload_n 824 3 (d_Law_law 503 823 (.iload_n 3) 1 rfl) rfl rfl rfl ?_
                                                            refine Ak_iconst 825 (d_Law_law 504 824 (.iconst 1) 1 rfl) rfl (rk rfl) ?_
                                                            refine Ak_iadd 826 (d_Law_law 505 825 (.iadd) 1 rfl) rfl ?_
                                                            obtain ⟨hs300, h⟩ := gd_some h
                                                            refine Ak_sld 827 hs300 (d_Law_law 506 826 (.iaload) 1 rfl) rfl ?_
                                                            obtain ⟨hg304, h⟩ := gd_some h
                                                            obtain ⟨r301, V302, h303, h⟩ := bnd_some h
                                                            refine Ak_gV1 830 13 (c_M_pays h303) rfl hg304 clX13 rfl mok_M_pays lkM_Law_127 (d_Law_law 507 827 (.invokevirtual 127) 3 rfl) rfl (by decide) (by decide) (Nat.le_of_ble_eq_true rfl) ?_
                                                            refine Ak_icmp_eq 976 833 (d_Law_law 508 830 (.if_icmp .eq 146) 3 rfl) rfl rfl (fun hc => ?_) (fun hc => ?_)
                                                            · replace h := it_t hc h
                                                              refine Ak_iinc 979 (d_Law_law 610 976 (.iinc 3 6) 3 rfl) rfl rfl (by decide) ?_
                                                              refine Ak_goto 18 (d_Law_law 611 979 (.goto (-961)) 3 rfl) rfl ?_
                                                              refine Ak_keep [true, true, true, true] ?_
                                                              exact ih h
                                                            · replace h := it_f hc h
                                                              refine Ak_iconst 834 (d_Law_law 509 833 (.iconst 0) 1 rfl) rfl (rk rfl) ?_
                                                              cases h
                                                              exact Ak_zret (Or.inl rfl) rfl (d_Law_law 510 834 (.ireturn) 1 rfl)
                                                          · replace h := it_f hc294 h
                                                            by_cases hc305 : (and32 (X x3) 63) = 27
                                                            · replace h := it_t hc305 h
                                                              refine Ak_tableIn 835 27 hc305 (d_Law_law 21 33 (.tableswitch 943 0 33 #[151, 214, 237, 250, 273, 296, 329, 362, 395, 418, 451, 464, 497, 510, 523, 536, 549, 582, 605, 628, 651, 674, 697, 710, 743, 756, 779, 802, 835, 848, 871, 884, 907, 920]) 151 rfl) (by decide) (by decide) rfl rfl ?_
                                                              refine Ak_aload_n 836 1 (d_Law_law 511 835 (.aload_n 1) 1 rfl) rfl rfl rfl ?_
                                                              refine Ak_aload_n 837 0 (d_Law_law 512 836 (.aload_n 0) 1 rfl) rfl rfl rfl ?_
                                                              refine Ak_iload_n 838 3 (d_Law_law 513 837 (.iload_n 3) 1 rfl) rfl rfl rfl ?_
                                                              refine Ak_iconst 839 (d_Law_law 514 838 (.iconst 1) 1 rfl) rfl (rk rfl) ?_
                                                              refine Ak_iadd 840 (d_Law_law 515 839 (.iadd) 1 rfl) rfl ?_
                                                              obtain ⟨hs306, h⟩ := gd_some h
                                                              refine Ak_sld 841 hs306 (d_Law_law 516 840 (.iaload) 1 rfl) rfl ?_
                                                              refine Ak_aload_n 842 0 (d_Law_law 517 841 (.aload_n 0) 1 rfl) rfl rfl rfl ?_
                                                              refine Ak_iload_n 843 3 (d_Law_law 518 842 (.iload_n 3) 1 rfl) rfl rfl rfl ?_
                                                              refine Ak_iconst 844 (d_Law_law 519 843 (.iconst 2) 1 rfl) rfl (rk rfl) ?_
                                                              refine Ak_iadd 845 (d_Law_law 520 844 (.iadd) 1 rfl) rfl ?_
                                                              obtain ⟨hs307, h⟩ := gd_some h
                                                              refine Ak_sld 846 hs307 (d_Law_law 521 845 (.iaload) 1 rfl) rfl ?_
                                                              obtain ⟨hg311, h⟩ := gd_some h
                                                              obtain ⟨r308, V309, h310, h⟩ := bnd_some h
                                                              refine Ak_gV1 849 10 (c_SG_ring h310) rfl hg311 clX12 rfl mok_SG_ring lkM_Law_128 (d_Law_law 522 846 (.invokevirtual 128) 3 rfl) rfl (by decide) (by decide) (Nat.le_of_ble_eq_true rfl) ?_
                                                              refine Ak_aload_n 850 2 (d_Law_law 523 849 (.aload_n 2) 1 rfl) rfl rfl rfl ?_
                                                              refine Ak_aload_n 851 0 (d_Law_law 524 850 (.aload_n 0) 1 rfl) rfl rfl rfl ?_
                                                              refine Ak_iload_n 852 3 (d_Law_law 525 851 (.iload_n 3) 1 rfl) rfl rfl rfl ?_
                                                              refine Ak_iconst 853 (d_Law_law 526 852 (.iconst 1) 1 rfl) rfl (rk rfl) ?_
                                                              refine Ak_iadd 854 (d_Law_law 527 853 (.iadd) 1 rfl) rfl ?_
                                                              obtain ⟨hs312, h⟩ := gd_some h
                                                              refine Ak_sld 855 hs312 (d_Law_law 528 854 (.iaload) 1 rfl) rfl ?_
                                                              refine Ak_aload_n 856 0 (d_Law_law 529 855 (.aload_n 0) 1 rfl) rfl rfl rfl ?_
                                                              refine Ak_iload_n 857 3 (d_Law_law 530 856 (.iload_n 3) 1 rfl) rfl rfl rfl ?_
                                                              refine Ak_iconst 858 (d_Law_law 531 857 (.iconst 2) 1 rfl) rfl (rk rfl) ?_
                                                              refine Ak_iadd 859 (d_Law_law 532 858 (.iadd) 1 rfl) rfl ?_
                                                              obtain ⟨hs313, h⟩ := gd_some h
                                                              refine Ak_sld 860 hs313 (d_Law_law 533 859 (.iaload) 1 rfl) rfl ?_
                                                              obtain ⟨hg317, h⟩ := gd_some h
                                                              obtain ⟨r314, V315, h316, h⟩ := bnd_some h
                                                              refine Ak_gV1 863 13 (c_M_ring h316) rfl hg317 clX13 rfl mok_M_ring lkM_Law_131 (d_Law_law 534 860 (.invokevirtual 131) 3 rfl) rfl (by decide) (by decide) (Nat.le_of_ble_eq_true rfl) ?_
                                                              refine Ak_icmp_eq 976 866 (d_Law_law 535 863 (.if_icmp .eq 113) 3 rfl) rfl rfl (fun hc => ?_) (fun hc => ?_)
                                                              · replace h := it_t hc h
                                                                refine Ak_iinc 979 (d_Law_law 610 976 (.iinc 3 6) 3 rfl) rfl rfl (by decide) ?_
                                                                refine Ak_goto 18 (d_Law_law 611 979 (.goto (-961)) 3 rfl) rfl ?_
                                                                refine Ak_keep [true, true, true, true] ?_
                                                                exact ih h
                                                              · replace h := it_f hc h
                                                                refine Ak_iconst 867 (d_Law_law 536 866 (.iconst 0) 1 rfl) rfl (rk rfl) ?_
                                                                cases h
                                                                exact Ak_zret (Or.inl rfl) rfl (d_Law_law 537 867 (.ireturn) 1 rfl)
                                                            · replace h := it_f hc305 h
                                                              by_cases hc318 : (and32 (X x3) 63) = 28
                                                              · replace h := it_t hc318 h
                                                                refine Ak_tableIn 868 28 hc318 (d_Law_law 21 33 (.tableswitch 943 0 33 #[151, 214, 237, 250, 273, 296, 329, 362, 395, 418, 451, 464, 497, 510, 523, 536, 549, 582, 605, 628, 651, 674, 697, 710, 743, 756, 779, 802, 835, 848, 871, 884, 907, 920]) 151 rfl) (by decide) (by decide) rfl rfl ?_
                                                                refine Ak_aload_n 869 1 (d_Law_law 538 868 (.aload_n 1) 1 rfl) rfl rfl rfl ?_
                                                                obtain ⟨hg322, h⟩ := gd_some h
                                                                obtain ⟨r319, V320, h321, h⟩ := bnd_some h
                                                                refine Ak_gV1 872 3 (c_SG_spring h321) rfl hg322 clX12 rfl mok_SG_spring lkM_Law_132 (d_Law_law 539 869 (.invokevirtual 132) 3 rfl) rfl (by decide) (by decide) (Nat.le_of_ble_eq_true rfl) ?_
                                                                refine Ak_aload_n 873 2 (d_Law_law 540 872 (.aload_n 2) 1 rfl) rfl rfl rfl ?_
                                                                obtain ⟨hg326, h⟩ := gd_some h
                                                                obtain ⟨r323, V324, h325, h⟩ := bnd_some h
                                                                refine Ak_gV1 876 3 (c_M_spring h325) rfl hg326 clX13 rfl mok_M_spring lkM_Law_135 (d_Law_law 541 873 (.invokevirtual 135) 3 rfl) rfl (by decide) (by decide) (Nat.le_of_ble_eq_true rfl) ?_
                                                                refine Ak_icmp_eq 976 879 (d_Law_law 542 876 (.if_icmp .eq 100) 3 rfl) rfl rfl (fun hc => ?_) (fun hc => ?_)
                                                                · replace h := it_t hc h
                                                                  refine Ak_iinc 979 (d_Law_law 610 976 (.iinc 3 6) 3 rfl) rfl rfl (by decide) ?_
                                                                  refine Ak_goto 18 (d_Law_law 611 979 (.goto (-961)) 3 rfl) rfl ?_
                                                                  refine Ak_keep [true, true, true, true] ?_
                                                                  exact ih h
                                                                · replace h := it_f hc h
                                                                  refine Ak_iconst 880 (d_Law_law 543 879 (.iconst 0) 1 rfl) rfl (rk rfl) ?_
                                                                  cases h
                                                                  exact Ak_zret (Or.inl rfl) rfl (d_Law_law 544 880 (.ireturn) 1 rfl)
                                                              · replace h := it_f hc318 h
                                                                by_cases hc327 : (and32 (X x3) 63) = 29
                                                                · replace h := it_t hc327 h
                                                                  refine Ak_tableIn 881 29 hc327 (d_Law_law 21 33 (.tableswitch 943 0 33 #[151, 214, 237, 250, 273, 296, 329, 362, 395, 418, 451, 464, 497, 510, 523, 536, 549, 582, 605, 628, 651, 674, 697, 710, 743, 756, 779, 802, 835, 848, 871, 884, 907, 920]) 151 rfl) (by decide) (by decide) rfl rfl ?_
                                                                  refine Ak_aload_n 882 1 (d_Law_law 545 881 (.aload_n 1) 1 rfl) rfl rfl rfl ?_
                                                                  refine Ak_aload_n 883 0 (d_Law_law 546 882 (.aload_n 0) 1 rfl) rfl rfl rfl ?_
                                                                  refine Ak_iload_n 884 3 (d_Law_law 547 883 (.iload_n 3) 1 rfl) rfl rfl rfl ?_
                                                                  refine Ak_iconst 885 (d_Law_law 548 884 (.iconst 1) 1 rfl) rfl (rk rfl) ?_
                                                                  refine Ak_iadd 886 (d_Law_law 549 885 (.iadd) 1 rfl) rfl ?_
                                                                  obtain ⟨hs328, h⟩ := gd_some h
                                                                  refine Ak_sld 887 hs328 (d_Law_law 550 886 (.iaload) 1 rfl) rfl ?_
                                                                  obtain ⟨hg332, h⟩ := gd_some h
                                                                  obtain ⟨r329, V330, h331, h⟩ := bnd_some h
                                                                  refine Ak_gV1 890 9 (c_SG_parts h331) rfl hg332 clX12 rfl mok_SG_parts lkM_Law_136 (d_Law_law 551 887 (.invokevirtual 136) 3 rfl) rfl (by decide) (by decide) (Nat.le_of_ble_eq_true rfl) ?_
                                                                  refine Ak_aload_n 891 2 (d_Law_law 552 890 (.aload_n 2) 1 rfl) rfl rfl rfl ?_
                                                                  refine Ak_aload_n 892 0 (d_Law_law 553 891 (.aload_n 0) 1 rfl) rfl rfl rfl ?_
                                                                  refine Ak_iload_n 893 3 (d_Law_law 554 892 (.iload_n 3) 1 rfl) rfl rfl rfl ?_
                                                                  refine Ak_iconst 894 (d_Law_law 555 893 (.iconst 1) 1 rfl) rfl (rk rfl) ?_
                                                                  refine Ak_iadd 895 (d_Law_law 556 894 (.iadd) 1 rfl) rfl ?_
                                                                  obtain ⟨hs333, h⟩ := gd_some h
                                                                  refine Ak_sld 896 hs333 (d_Law_law 557 895 (.iaload) 1 rfl) rfl ?_
                                                                  obtain ⟨hg337, h⟩ := gd_some h
                                                                  obtain ⟨r334, V335, h336, h⟩ := bnd_some h
                                                                  refine Ak_gV1 899 10 (c_M_parts h336) rfl hg337 clX13 rfl mok_M_parts lkM_Law_139 (d_Law_law 558 896 (.invokevirtual 139) 3 rfl) rfl (by decide) (by decide) (Nat.le_of_ble_eq_true rfl) ?_
                                                                  refine Ak_icmp_eq 976 902 (d_Law_law 559 899 (.if_icmp .eq 77) 3 rfl) rfl rfl (fun hc => ?_) (fun hc => ?_)
                                                                  · replace h := it_t hc h
                                                                    refine Ak_iinc 979 (d_Law_law 610 976 (.iinc 3 6) 3 rfl) rfl rfl (by decide) ?_
                                                                    refine Ak_goto 18 (d_Law_law 611 979 (.goto (-961)) 3 rfl) rfl ?_
                                                                    refine Ak_keep [true, true, true, true] ?_
                                                                    exact ih h
                                                                  · replace h := it_f hc h
                                                                    refine Ak_iconst 903 (d_Law_law 560 902 (.iconst 0) 1 rfl) rfl (rk rfl) ?_
                                                                    cases h
                                                                    exact Ak_zret (Or.inl rfl) rfl (d_Law_law 561 903 (.ireturn) 1 rfl)
                                                                · replace h := it_f hc327 h
                                                                  by_cases hc338 : (and32 (X x3) 63) = 30
                                                                  · replace h := it_t hc338 h
                                                                    refine Ak_tableIn 904 30 hc338 (d_Law_law 21 33 (.tableswitch 943 0 33 #[151, 214, 237, 250, 273, 296, 329, 362, 395, 418, 451, 464, 497, 510, 523, 536, 549, 582, 605, 628, 651, 674, 697, 710, 743, 756, 779, 802, 835, 848, 871, 884, 907, 920]) 151 rfl) (by decide) (by decide) rfl rfl ?_
                                                                    refine Ak_aload_n 905 1 (d_Law_law 562 904 (.aload_n 1) 1 rfl) rfl rfl rfl ?_
                                                                    obtain ⟨hg342, h⟩ := gd_some h
                                                                    obtain ⟨r339, V340, h341, h⟩ := bnd_some h
                                                                    refine Ak_gV1 908 5 (c_SG_image h341) rfl hg342 clX12 rfl mok_SG_image lkM_Law_140 (d_Law_law 563 905 (.invokevirtual 140) 3 rfl) rfl (by decide) (by decide) (Nat.le_of_ble_eq_true rfl) ?_
                                                                    refine Ak_aload_n 909 2 (d_Law_law 564 908 (.aload_n 2) 1 rfl) rfl rfl rfl ?_
                                                                    obtain ⟨hg346, h⟩ := gd_some h
                                                                    obtain ⟨r343, V344, h345, h⟩ := bnd_some h
                                                                    refine Ak_gV1 912 3 (c_M_image h345) rfl hg346 clX13 rfl mok_M_image lkM_Law_143 (d_Law_law 565 909 (.invokevirtual 143) 3 rfl) rfl (by decide) (by decide) (Nat.le_of_ble_eq_true rfl) ?_
                                                                    refine Ak_icmp_eq 976 915 (d_Law_law 566 912 (.if_icmp .eq 64) 3 rfl) rfl rfl (fun hc => ?_) (fun hc => ?_)
                                                                    · replace h := it_t hc h
                                                                      refine Ak_iinc 979 (d_Law_law 610 976 (.iinc 3 6) 3 rfl) rfl rfl (by decide) ?_
                                                                      refine Ak_goto 18 (d_Law_law 611 979 (.goto (-961)) 3 rfl) rfl ?_
                                                                      refine Ak_keep [true, true, true, true] ?_
                                                                      exact ih h
                                                                    · replace h := it_f hc h
                                                                      refine Ak_iconst 916 (d_Law_law 567 915 (.iconst 0) 1 rfl) rfl (rk rfl) ?_
                                                                      cases h
                                                                      exact Ak_zret (Or.inl rfl) rfl (d_Law_law 568 916 (.ireturn) 1 rfl)
                                                                  · replace h := it_f hc338 h
                                                                    by_cases hc347 : (and32 (X x3) 63) = 31
                                                                    · replace h := it_t hc347 h
                                                                      refine Ak_tableIn 917 31 hc347 (d_Law_law 21 33 (.tableswitch 943 0 33 #[151, 214, 237, 250, 273, 296, 329, 362, 395, 418, 451, 464, 497, 510, 523, 536, 549, 582, 605, 628, 651, 674, 697, 710, 743, 756, 779, 802, 835, 848, 871, 884, 907, 920]) 151 rfl) (by decide) (by decide) rfl rfl ?_
                                                                      refine Ak_aload_n 918 1 (d_Law_law 569 917 (.aload_n 1) 1 rfl) rfl rfl rfl ?_
                                                                      refine Ak_aload_n 919 0 (d_Law_law 570 918 (.aload_n 0) 1 rfl) rfl rfl rfl ?_
                                                                      refine Ak_iload_n 920 3 (d_Law_law 571 919 (.iload_n 3) 1 rfl) rfl rfl rfl ?_
                                                                      refine Ak_iconst 921 (d_Law_law 572 920 (.iconst 1) 1 rfl) rfl (rk rfl) ?_
                                                                      refine Ak_iadd 922 (d_Law_law 573 921 (.iadd) 1 rfl) rfl ?_
                                                                      obtain ⟨hs348, h⟩ := gd_some h
                                                                      refine Ak_sld 923 hs348 (d_Law_law 574 922 (.iaload) 1 rfl) rfl ?_
                                                                      obtain ⟨hg352, h⟩ := gd_some h
                                                                      obtain ⟨r349, V350, h351, h⟩ := bnd_some h
                                                                      refine Ak_gV1 926 3 (c_SG_octet h351) rfl hg352 clX12 rfl mok_SG_octet lkM_Law_144 (d_Law_law 575 923 (.invokevirtual 144) 3 rfl) rfl (by decide) (by decide) (Nat.le_of_ble_eq_true rfl) ?_
                                                                      refine Ak_aload_n 927 2 (d_Law_law 576 926 (.aload_n 2) 1 rfl) rfl rfl rfl ?_
                                                                      refine Ak_aload_n 928 0 (d_Law_law 577 927 (.aload_n 0) 1 rfl) rfl rfl rfl ?_
                                                                      refine Ak_iload_n 929 3 (d_Law_law 578 928 (.iload_n 3) 1 rfl) rfl rfl rfl ?_
                                                                      refine Ak_iconst 930 (d_Law_law 579 929 (.iconst 1) 1 rfl) rfl (rk rfl) ?_
                                                                      refine Ak_iadd 931 (d_Law_law 580 930 (.iadd) 1 rfl) rfl ?_
                                                                      obtain ⟨hs353, h⟩ := gd_some h
                                                                      refine Ak_sld 932 hs353 (d_Law_law 581 931 (.iaload) 1 rfl) rfl ?_
                                                                      obtain ⟨hg357, h⟩ := gd_some h
                                                                      obtain ⟨r354, V355, h356, h⟩ := bnd_some h
                                                                      refine Ak_gV1 935 2 (c_M_octet h356) rfl hg357 clX13 rfl mok_M_octet lkM_Law_147 (d_Law_law 582 932 (.invokevirtual 147) 3 rfl) rfl (by decide) (by decide) (Nat.le_of_ble_eq_true rfl) ?_
                                                                      refine Ak_icmp_eq 976 938 (d_Law_law 583 935 (.if_icmp .eq 41) 3 rfl) rfl rfl (fun hc => ?_) (fun hc => ?_)
                                                                      · replace h := it_t hc h
                                                                        refine Ak_iinc 979 (d_Law_law 610 976 (.iinc 3 6) 3 rfl) rfl rfl (by decide) ?_
                                                                        refine Ak_goto 18 (d_Law_law 611 979 (.goto (-961)) 3 rfl) rfl ?_
                                                                        refine Ak_keep [true, true, true, true] ?_
                                                                        exact ih h
                                                                      · replace h := it_f hc h
                                                                        refine Ak_iconst 939 (d_Law_law 584 938 (.iconst 0) 1 rfl) rfl (rk rfl) ?_
                                                                        cases h
                                                                        exact Ak_zret (Or.inl rfl) rfl (d_Law_law 585 939 (.ireturn) 1 rfl)
                                                                    · replace h := it_f hc347 h
                                                                      by_cases hc358 : (and32 (X x3) 63) = 32
                                                                      · replace h := it_t hc358 h
                                                                        refine Ak_tableIn 940 32 hc358 (d_Law_law 21 33 (.tableswitch 943 0 33 #[151, 214, 237, 250, 273, 296, 329, 362, 395, 418, 451, 464, 497, 510, 523, 536, 549, 582, 605, 628, 651, 674, 697, 710, 743, 756, 779, 802, 835, 848, 871, 884, 907, 920]) 151 rfl) (by decide) (by decide) rfl rfl ?_
                                                                        refine Ak_aload_n 941 1 (d_Law_law 586 940 (.aload_n 1) 1 rfl) rfl rfl rfl ?_
                                                                        obtain ⟨hg362, h⟩ := gd_some h
                                                                        obtain ⟨r359, V360, h361, h⟩ := bnd_some h
                                                                        refine Ak_gV1 944 8 (c_SG_on h361) rfl hg362 clX12 rfl mok_SG_on lkM_Law_148 (d_Law_law 587 941 (.invokevirtual 148) 3 rfl) rfl (by decide) (by decide) (Nat.le_of_ble_eq_true rfl) ?_
                                                                        refine Ak_aload_n 945 2 (d_Law_law 588 944 (.aload_n 2) 1 rfl) rfl rfl rfl ?_
                                                                        obtain ⟨hg366, h⟩ := gd_some h
                                                                        obtain ⟨r363, V364, h365, h⟩ := bnd_some h
                                                                        refine Ak_gV1 948 5 (c_M_on h365) rfl hg366 clX13 rfl mok_M_on lkM_Law_151 (d_Law_law 589 945 (.invokevirtual 151) 3 rfl) rfl (by decide) (by decide) (Nat.le_of_ble_eq_true rfl) ?_
                                                                        refine Ak_icmp_eq 976 951 (d_Law_law 590 948 (.if_icmp .eq 28) 3 rfl) rfl rfl (fun hc => ?_) (fun hc => ?_)
                                                                        · replace h := it_t hc h
                                                                          refine Ak_iinc 979 (d_Law_law 610 976 (.iinc 3 6) 3 rfl) rfl rfl (by decide) ?_
                                                                          refine Ak_goto 18 (d_Law_law 611 979 (.goto (-961)) 3 rfl) rfl ?_
                                                                          refine Ak_keep [true, true, true, true] ?_
                                                                          exact ih h
                                                                        · replace h := it_f hc h
                                                                          refine Ak_iconst 952 (d_Law_law 591 951 (.iconst 0) 1 rfl) rfl (rk rfl) ?_
                                                                          cases h
                                                                          exact Ak_zret (Or.inl rfl) rfl (d_Law_law 592 952 (.ireturn) 1 rfl)
                                                                      · replace h := it_f hc358 h
                                                                        by_cases hc367 : (and32 (X x3) 63) = 33
                                                                        · replace h := it_t hc367 h
                                                                          refine Ak_tableIn 953 33 hc367 (d_Law_law 21 33 (.tableswitch 943 0 33 #[151, 214, 237, 250, 273, 296, 329, 362, 395, 418, 451, 464, 497, 510, 523, 536, 549, 582, 605, 628, 651, 674, 697, 710, 743, 756, 779, 802, 835, 848, 871, 884, 907, 920]) 151 rfl) (by decide) (by decide) rfl rfl ?_
                                                                          refine Ak_aload_n 954 1 (d_Law_law 593 953 (.aload_n 1) 1 rfl) rfl rfl rfl ?_
                                                                          refine Ak_aload_n 955 0 (d_Law_law 594 954 (.aload_n 0) 1 rfl) rfl rfl rfl ?_
                                                                          refine Ak_iload_n 956 3 (d_Law_law 595 955 (.iload_n 3) 1 rfl) rfl rfl rfl ?_
                                                                          refine Ak_iconst 957 (d_Law_law 596 956 (.iconst 1) 1 rfl) rfl (rk rfl) ?_
                                                                          refine Ak_iadd 958 (d_Law_law 597 957 (.iadd) 1 rfl) rfl ?_
                                                                          obtain ⟨hs368, h⟩ := gd_some h
                                                                          refine Ak_sld 959 hs368 (d_Law_law 598 958 (.iaload) 1 rfl) rfl ?_
                                                                          obtain ⟨hg372, h⟩ := gd_some h
                                                                          obtain ⟨r369, V370, h371, h⟩ := bnd_some h
                                                                          refine Ak_gV1 962 2 (c_SG_status h371) rfl hg372 clX12 rfl mok_SG_status lkM_Law_152 (d_Law_law 599 959 (.invokevirtual 152) 3 rfl) rfl (by decide) (by decide) (Nat.le_of_ble_eq_true rfl) ?_
                                                                          refine Ak_aload_n 963 2 (d_Law_law 600 962 (.aload_n 2) 1 rfl) rfl rfl rfl ?_
                                                                          refine Ak_aload_n 964 0 (d_Law_law 601 963 (.aload_n 0) 1 rfl) rfl rfl rfl ?_
                                                                          refine Ak_iload_n 965 3 (d_Law_law 602 964 (.iload_n 3) 1 rfl) rfl rfl rfl ?_
                                                                          refine Ak_iconst 966 (d_Law_law 603 965 (.iconst 1) 1 rfl) rfl (rk rfl) ?_
                                                                          refine Ak_iadd 967 (d_Law_law 604 966 (.iadd) 1 rfl) rfl ?_
                                                                          obtain ⟨hs373, h⟩ := gd_some h
                                                                          refine Ak_sld 968 hs373 (d_Law_law 605 967 (.iaload) 1 rfl) rfl ?_
                                                                          obtain ⟨hg377, h⟩ := gd_some h
                                                                          obtain ⟨r374, V375, h376, h⟩ := bnd_some h
                                                                          refine Ak_gV1 971 3 (c_M_status h376) rfl hg377 clX13 rfl mok_M_status lkM_Law_155 (d_Law_law 606 968 (.invokevirtual 155) 3 rfl) rfl (by decide) (by decide) (Nat.le_of_ble_eq_true rfl) ?_
                                                                          refine Ak_icmp_eq 976 974 (d_Law_law 607 971 (.if_icmp .eq 5) 3 rfl) rfl rfl (fun hc => ?_) (fun hc => ?_)
                                                                          · replace h := it_t hc h
                                                                            refine Ak_iinc 979 (d_Law_law 610 976 (.iinc 3 6) 3 rfl) rfl rfl (by decide) ?_
                                                                            refine Ak_goto 18 (d_Law_law 611 979 (.goto (-961)) 3 rfl) rfl ?_
                                                                            refine Ak_keep [true, true, true, true] ?_
                                                                            exact ih h
                                                                          · replace h := it_f hc h
                                                                            refine Ak_iconst 975 (d_Law_law 608 974 (.iconst 0) 1 rfl) rfl (rk rfl) ?_
                                                                            cases h
                                                                            exact Ak_zret (Or.inl rfl) rfl (d_Law_law 609 975 (.ireturn) 1 rfl)
                                                                        · replace h := it_f hc367 h
                                                                          refine Ak_tableOut 976 (by omega) (d_Law_law 21 33 (.tableswitch 943 0 33 #[151, 214, 237, 250, 273, 296, 329, 362, 395, 418, 451, 464, 497, 510, 523, 536, 549, 582, 605, 628, 651, 674, 697, 710, 743, 756, 779, 802, 835, 848, 871, 884, 907, 920]) 151 rfl) rfl ?_
                                                                          refine Ak_iinc 979 (d_Law_law 610 976 (.iinc 3 6) 3 rfl) rfl rfl (by decide) ?_
                                                                          refine Ak_goto 18 (d_Law_law 611 979 (.goto (-961)) 3 rfl) rfl ?_
                                                                          refine Ak_keep [true, true, true, true] ?_
                                                                          exact ih h
