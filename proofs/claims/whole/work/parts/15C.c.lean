set_option maxRecDepth 100000 in
set_option maxHeartbeats 20000000 in
theorem t_Law_law_L18 {S : ASh} {L : Int} {X : Int → Int} {x1 x2 : Int} : ∀ (n : Nat) (V : ASt) (x3 r : Int) (V' : ASt), b_Law_law_L18 S L X x1 x2 n V x3 = some (r, V') → AWz (zL L X) m_Law_law 125 198 72904 198 72904 18 [some (aR (-4)), some (aR x1), some (aR x2), some (aI x3)] [] S V (some (aI r)) S V' := by
  intro n
  induction n with
  | zero => intro V x3 r V' h; cases h
  | succ n ih =>
    intro V x3 r V' h
    replace ih : ∀ {V : ASt} {x3 r : Int} {V' : ASt}, b_Law_law_L18 S L X x1 x2 n V x3 = some (r, V') → AWz (zL L X) m_Law_law 125 198 72904 198 72904 18 [some (aR (-4)), some (aR x1), some (aR x2), some (aI x3)] [] S V (some (aI r)) S V' := fun h => ih _ _ _ _ h
    rw [b_Law_law_L18] at h
    refine Ak_iload_n 19 3 (d_Law_p0 10 18 (.iload_n 3) 1 rfl) rfl rfl rfl ?_
    refine Ak_aload_n 20 0 (d_Law_p0 11 19 (.aload_n 0) 1 rfl) rfl rfl rfl ?_
    refine Ak_slen 21 (d_Law_p0 12 20 (.arraylength) 1 rfl) rfl ?_
    refine Ak_bipush 23 (d_Law_p0 13 21 (.bipush 6) 2 rfl) rfl (bp_ok rfl) (rk rfl) ?_
    refine Ak_isub 24 (d_Law_p0 14 23 (.isub) 1 rfl) rfl ?_
    refine Ak_icmp_gt 982 27 (d_Law_p0 15 24 (.if_icmp .gt 958) 3 rfl) rfl rfl (fun hc => ?_) (fun hc => ?_)
    · replace h := it_t hc h
      refine Ak_iconst 983 (d_Law_p20 12 982 (.iconst 1) 1 rfl) rfl (rk rfl) ?_
      cases h
      exact Ak_zret (Or.inr rfl) rfl (d_Law_p20 13 983 (.ireturn) 1 rfl)
    · replace h := it_f hc h
      refine Ak_aload_n 28 0 (d_Law_p0 16 27 (.aload_n 0) 1 rfl) rfl rfl rfl ?_
      refine Ak_iload_n 29 3 (d_Law_p0 17 28 (.iload_n 3) 1 rfl) rfl rfl rfl ?_
      obtain ⟨hs1, h⟩ := gd_some h
      refine Ak_sld 30 hs1 (d_Law_p0 18 29 (.iaload) 1 rfl) rfl ?_
      refine Ak_bipush 32 (d_Law_p0 19 30 (.bipush 63) 2 rfl) rfl (bp_ok rfl) (rk rfl) ?_
      refine Ak_iand 33 (d_Law_p0 20 32 (.iand) 1 rfl) rfl ?_
      by_cases hc2 : (and32 (X x3) 63) = 0
      · replace h := it_t hc2 h
        refine Ak_tableIn 184 0 hc2 (d_Law_p0 21 33 (.tableswitch 943 0 33 #[151, 214, 237, 250, 273, 296, 329, 362, 395, 418, 451, 464, 497, 510, 523, 536, 549, 582, 605, 628, 651, 674, 697, 710, 743, 756, 779, 802, 835, 848, 871, 884, 907, 920]) 151 rfl) (by decide) (by decide) rfl rfl ?_
        refine Ak_aload_n 185 1 (d_Law_p0 22 184 (.aload_n 1) 1 rfl) rfl rfl rfl ?_
        refine Ak_aload_n 186 0 (d_Law_p0 23 185 (.aload_n 0) 1 rfl) rfl rfl rfl ?_
        refine Ak_iload_n 187 3 (d_Law_p0 24 186 (.iload_n 3) 1 rfl) rfl rfl rfl ?_
        refine Ak_iconst 188 (d_Law_p0 25 187 (.iconst 1) 1 rfl) rfl (rk rfl) ?_
        refine Ak_iadd 189 (d_Law_p0 26 188 (.iadd) 1 rfl) rfl ?_
        obtain ⟨hs3, h⟩ := gd_some h
        refine Ak_sld 190 hs3 (d_Law_p0 27 189 (.iaload) 1 rfl) rfl ?_
        refine Ak_aload_n 191 0 (d_Law_p0 28 190 (.aload_n 0) 1 rfl) rfl rfl rfl ?_
        refine Ak_iload_n 192 3 (d_Law_p0 29 191 (.iload_n 3) 1 rfl) rfl rfl rfl ?_
        refine Ak_iconst 193 (d_Law_p1 0 192 (.iconst 2) 1 rfl) rfl (rk rfl) ?_
        refine Ak_iadd 194 (d_Law_p1 1 193 (.iadd) 1 rfl) rfl ?_
        obtain ⟨hs4, h⟩ := gd_some h
        refine Ak_sld 195 hs4 (d_Law_p1 2 194 (.iaload) 1 rfl) rfl ?_
        refine Ak_aload_n 196 0 (d_Law_p1 3 195 (.aload_n 0) 1 rfl) rfl rfl rfl ?_
        refine Ak_iload_n 197 3 (d_Law_p1 4 196 (.iload_n 3) 1 rfl) rfl rfl rfl ?_
        refine Ak_iconst 198 (d_Law_p1 5 197 (.iconst 3) 1 rfl) rfl (rk rfl) ?_
        refine Ak_iadd 199 (d_Law_p1 6 198 (.iadd) 1 rfl) rfl ?_
        obtain ⟨hs5, h⟩ := gd_some h
        refine Ak_sld 200 hs5 (d_Law_p1 7 199 (.iaload) 1 rfl) rfl ?_
        refine Ak_aload_n 201 0 (d_Law_p1 8 200 (.aload_n 0) 1 rfl) rfl rfl rfl ?_
        refine Ak_iload_n 202 3 (d_Law_p1 9 201 (.iload_n 3) 1 rfl) rfl rfl rfl ?_
        refine Ak_iconst 203 (d_Law_p1 10 202 (.iconst 4) 1 rfl) rfl (rk rfl) ?_
        refine Ak_iadd 204 (d_Law_p1 11 203 (.iadd) 1 rfl) rfl ?_
        obtain ⟨hs6, h⟩ := gd_some h
        refine Ak_sld 205 hs6 (d_Law_p1 12 204 (.iaload) 1 rfl) rfl ?_
        refine Ak_aload_n 206 0 (d_Law_p1 13 205 (.aload_n 0) 1 rfl) rfl rfl rfl ?_
        refine Ak_iload_n 207 3 (d_Law_p1 14 206 (.iload_n 3) 1 rfl) rfl rfl rfl ?_
        refine Ak_iconst 208 (d_Law_p1 15 207 (.iconst 5) 1 rfl) rfl (rk rfl) ?_
        refine Ak_iadd 209 (d_Law_p1 16 208 (.iadd) 1 rfl) rfl ?_
        obtain ⟨hs7, h⟩ := gd_some h
        refine Ak_sld 210 hs7 (d_Law_p1 17 209 (.iaload) 1 rfl) rfl ?_
        obtain ⟨hg11, h⟩ := gd_some h
        obtain ⟨r8, V9, h10, h⟩ := bnd_some h
        refine Ak_gV1 213 4 (c_SG_feed h10) rfl hg11 clX12 rfl mok_SG_feed lkM_Law_13 (d_Law_p1 18 210 (.invokevirtual 13) 3 rfl) rfl (by decide) (by decide) (Nat.le_of_ble_eq_true rfl) ?_
        refine Ak_aload_n 214 2 (d_Law_p1 19 213 (.aload_n 2) 1 rfl) rfl rfl rfl ?_
        refine Ak_aload_n 215 0 (d_Law_p1 20 214 (.aload_n 0) 1 rfl) rfl rfl rfl ?_
        refine Ak_iload_n 216 3 (d_Law_p1 21 215 (.iload_n 3) 1 rfl) rfl rfl rfl ?_
        refine Ak_iconst 217 (d_Law_p1 22 216 (.iconst 1) 1 rfl) rfl (rk rfl) ?_
        refine Ak_iadd 218 (d_Law_p1 23 217 (.iadd) 1 rfl) rfl ?_
        obtain ⟨hs12, h⟩ := gd_some h
        refine Ak_sld 219 hs12 (d_Law_p1 24 218 (.iaload) 1 rfl) rfl ?_
        refine Ak_aload_n 220 0 (d_Law_p1 25 219 (.aload_n 0) 1 rfl) rfl rfl rfl ?_
        refine Ak_iload_n 221 3 (d_Law_p1 26 220 (.iload_n 3) 1 rfl) rfl rfl rfl ?_
        refine Ak_iconst 222 (d_Law_p1 27 221 (.iconst 2) 1 rfl) rfl (rk rfl) ?_
        refine Ak_iadd 223 (d_Law_p1 28 222 (.iadd) 1 rfl) rfl ?_
        obtain ⟨hs13, h⟩ := gd_some h
        refine Ak_sld 224 hs13 (d_Law_p1 29 223 (.iaload) 1 rfl) rfl ?_
        refine Ak_aload_n 225 0 (d_Law_p2 0 224 (.aload_n 0) 1 rfl) rfl rfl rfl ?_
        refine Ak_iload_n 226 3 (d_Law_p2 1 225 (.iload_n 3) 1 rfl) rfl rfl rfl ?_
        refine Ak_iconst 227 (d_Law_p2 2 226 (.iconst 3) 1 rfl) rfl (rk rfl) ?_
        refine Ak_iadd 228 (d_Law_p2 3 227 (.iadd) 1 rfl) rfl ?_
        obtain ⟨hs14, h⟩ := gd_some h
        refine Ak_sld 229 hs14 (d_Law_p2 4 228 (.iaload) 1 rfl) rfl ?_
        refine Ak_aload_n 230 0 (d_Law_p2 5 229 (.aload_n 0) 1 rfl) rfl rfl rfl ?_
        refine Ak_iload_n 231 3 (d_Law_p2 6 230 (.iload_n 3) 1 rfl) rfl rfl rfl ?_
        refine Ak_iconst 232 (d_Law_p2 7 231 (.iconst 4) 1 rfl) rfl (rk rfl) ?_
        refine Ak_iadd 233 (d_Law_p2 8 232 (.iadd) 1 rfl) rfl ?_
        obtain ⟨hs15, h⟩ := gd_some h
        refine Ak_sld 234 hs15 (d_Law_p2 9 233 (.iaload) 1 rfl) rfl ?_
        refine Ak_aload_n 235 0 (d_Law_p2 10 234 (.aload_n 0) 1 rfl) rfl rfl rfl ?_
        refine Ak_iload_n 236 3 (d_Law_p2 11 235 (.iload_n 3) 1 rfl) rfl rfl rfl ?_
        refine Ak_iconst 237 (d_Law_p2 12 236 (.iconst 5) 1 rfl) rfl (rk rfl) ?_
        refine Ak_iadd 238 (d_Law_p2 13 237 (.iadd) 1 rfl) rfl ?_
        obtain ⟨hs16, h⟩ := gd_some h
        refine Ak_sld 239 hs16 (d_Law_p2 14 238 (.iaload) 1 rfl) rfl ?_
        obtain ⟨hg20, h⟩ := gd_some h
        obtain ⟨r17, V18, h19, h⟩ := bnd_some h
        refine Ak_gV1 242 3 (c_M_feed h19) rfl hg20 clX13 rfl mok_M_feed lkM_Law_17 (d_Law_p2 15 239 (.invokevirtual 17) 3 rfl) rfl (by decide) (by decide) (Nat.le_of_ble_eq_true rfl) ?_
        refine Ak_icmp_eq 976 245 (d_Law_p2 16 242 (.if_icmp .eq 734) 3 rfl) rfl rfl (fun hc => ?_) (fun hc => ?_)
        · replace h := it_t hc h
          refine Ak_iinc 979 (d_Law_p20 10 976 (.iinc 3 6) 3 rfl) rfl rfl (by decide) ?_
          refine Ak_goto 18 (d_Law_p20 11 979 (.goto (-961)) 3 rfl) rfl ?_
          refine Ak_keep [true, true, true, true] ?_
          exact ih h
        · replace h := it_f hc h
          refine Ak_iconst 246 (d_Law_p2 17 245 (.iconst 0) 1 rfl) rfl (rk rfl) ?_
          cases h
          exact Ak_zret (Or.inl rfl) rfl (d_Law_p2 18 246 (.ireturn) 1 rfl)
      · replace h := it_f hc2 h
        by_cases hc21 : (and32 (X x3) 63) = 1
        · replace h := it_t hc21 h
          refine Ak_tableIn 247 1 hc21 (d_Law_p0 21 33 (.tableswitch 943 0 33 #[151, 214, 237, 250, 273, 296, 329, 362, 395, 418, 451, 464, 497, 510, 523, 536, 549, 582, 605, 628, 651, 674, 697, 710, 743, 756, 779, 802, 835, 848, 871, 884, 907, 920]) 151 rfl) (by decide) (by decide) rfl rfl ?_
          refine Ak_aload_n 248 1 (d_Law_p2 19 247 (.aload_n 1) 1 rfl) rfl rfl rfl ?_
          refine Ak_aload_n 249 0 (d_Law_p2 20 248 (.aload_n 0) 1 rfl) rfl rfl rfl ?_
          refine Ak_iload_n 250 3 (d_Law_p2 21 249 (.iload_n 3) 1 rfl) rfl rfl rfl ?_
          refine Ak_iconst 251 (d_Law_p2 22 250 (.iconst 1) 1 rfl) rfl (rk rfl) ?_
          refine Ak_iadd 252 (d_Law_p2 23 251 (.iadd) 1 rfl) rfl ?_
          obtain ⟨hs22, h⟩ := gd_some h
          refine Ak_sld 253 hs22 (d_Law_p2 24 252 (.iaload) 1 rfl) rfl ?_
          obtain ⟨hg26, h⟩ := gd_some h
          obtain ⟨r23, V24, h25, h⟩ := bnd_some h
          refine Ak_gV1 256 3 (c_SG_end h25) rfl hg26 clX12 rfl mok_SG_end lkM_Law_18 (d_Law_p2 25 253 (.invokevirtual 18) 3 rfl) rfl (by decide) (by decide) (Nat.le_of_ble_eq_true rfl) ?_
          refine Ak_aload_n 257 2 (d_Law_p2 26 256 (.aload_n 2) 1 rfl) rfl rfl rfl ?_
          refine Ak_aload_n 258 0 (d_Law_p2 27 257 (.aload_n 0) 1 rfl) rfl rfl rfl ?_
          refine Ak_iload_n 259 3 (d_Law_p2 28 258 (.iload_n 3) 1 rfl) rfl rfl rfl ?_
          refine Ak_iconst 260 (d_Law_p2 29 259 (.iconst 1) 1 rfl) rfl (rk rfl) ?_
          refine Ak_iadd 261 (d_Law_p3 0 260 (.iadd) 1 rfl) rfl ?_
          obtain ⟨hs27, h⟩ := gd_some h
          refine Ak_sld 262 hs27 (d_Law_p3 1 261 (.iaload) 1 rfl) rfl ?_
          obtain ⟨hg31, h⟩ := gd_some h
          obtain ⟨r28, V29, h30, h⟩ := bnd_some h
          refine Ak_gV1 265 3 (c_M_end h30) rfl hg31 clX13 rfl mok_M_end lkM_Law_22 (d_Law_p3 2 262 (.invokevirtual 22) 3 rfl) rfl (by decide) (by decide) (Nat.le_of_ble_eq_true rfl) ?_
          refine Ak_icmp_eq 976 268 (d_Law_p3 3 265 (.if_icmp .eq 711) 3 rfl) rfl rfl (fun hc => ?_) (fun hc => ?_)
          · replace h := it_t hc h
            refine Ak_iinc 979 (d_Law_p20 10 976 (.iinc 3 6) 3 rfl) rfl rfl (by decide) ?_
            refine Ak_goto 18 (d_Law_p20 11 979 (.goto (-961)) 3 rfl) rfl ?_
            refine Ak_keep [true, true, true, true] ?_
            exact ih h
          · replace h := it_f hc h
            refine Ak_iconst 269 (d_Law_p3 4 268 (.iconst 0) 1 rfl) rfl (rk rfl) ?_
            cases h
            exact Ak_zret (Or.inl rfl) rfl (d_Law_p3 5 269 (.ireturn) 1 rfl)
        · replace h := it_f hc21 h
          by_cases hc32 : (and32 (X x3) 63) = 2
          · replace h := it_t hc32 h
            refine Ak_tableIn 270 2 hc32 (d_Law_p0 21 33 (.tableswitch 943 0 33 #[151, 214, 237, 250, 273, 296, 329, 362, 395, 418, 451, 464, 497, 510, 523, 536, 549, 582, 605, 628, 651, 674, 697, 710, 743, 756, 779, 802, 835, 848, 871, 884, 907, 920]) 151 rfl) (by decide) (by decide) rfl rfl ?_
            refine Ak_aload_n 271 1 (d_Law_p3 6 270 (.aload_n 1) 1 rfl) rfl rfl rfl ?_
            obtain ⟨hg36, h⟩ := gd_some h
            obtain ⟨r33, V34, h35, h⟩ := bnd_some h
            refine Ak_gV1 274 124 (c_SG_game h35) rfl hg36 clX12 rfl mok_SG_game lkM_Law_23 (d_Law_p3 7 271 (.invokevirtual 23) 3 rfl) rfl (by decide) (by decide) (Nat.le_of_ble_eq_true rfl) ?_
            refine Ak_aload_n 275 2 (d_Law_p3 8 274 (.aload_n 2) 1 rfl) rfl rfl rfl ?_
            obtain ⟨hg40, h⟩ := gd_some h
            obtain ⟨r37, V38, h39, h⟩ := bnd_some h
            refine Ak_gV1 278 9 (c_M_game h39) rfl hg40 clX13 rfl mok_M_game lkM_Law_27 (d_Law_p3 9 275 (.invokevirtual 27) 3 rfl) rfl (by decide) (by decide) (Nat.le_of_ble_eq_true rfl) ?_
            refine Ak_icmp_eq 976 281 (d_Law_p3 10 278 (.if_icmp .eq 698) 3 rfl) rfl rfl (fun hc => ?_) (fun hc => ?_)
            · replace h := it_t hc h
              refine Ak_iinc 979 (d_Law_p20 10 976 (.iinc 3 6) 3 rfl) rfl rfl (by decide) ?_
              refine Ak_goto 18 (d_Law_p20 11 979 (.goto (-961)) 3 rfl) rfl ?_
              refine Ak_keep [true, true, true, true] ?_
              exact ih h
            · replace h := it_f hc h
              refine Ak_iconst 282 (d_Law_p3 11 281 (.iconst 0) 1 rfl) rfl (rk rfl) ?_
              cases h
              exact Ak_zret (Or.inl rfl) rfl (d_Law_p3 12 282 (.ireturn) 1 rfl)
          · replace h := it_f hc32 h
            by_cases hc41 : (and32 (X x3) 63) = 3
            · replace h := it_t hc41 h
              refine Ak_tableIn 283 3 hc41 (d_Law_p0 21 33 (.tableswitch 943 0 33 #[151, 214, 237, 250, 273, 296, 329, 362, 395, 418, 451, 464, 497, 510, 523, 536, 549, 582, 605, 628, 651, 674, 697, 710, 743, 756, 779, 802, 835, 848, 871, 884, 907, 920]) 151 rfl) (by decide) (by decide) rfl rfl ?_
              refine Ak_aload_n 284 1 (d_Law_p3 13 283 (.aload_n 1) 1 rfl) rfl rfl rfl ?_
              refine Ak_aload_n 285 0 (d_Law_p3 14 284 (.aload_n 0) 1 rfl) rfl rfl rfl ?_
              refine Ak_iload_n 286 3 (d_Law_p3 15 285 (.iload_n 3) 1 rfl) rfl rfl rfl ?_
              refine Ak_iconst 287 (d_Law_p3 16 286 (.iconst 1) 1 rfl) rfl (rk rfl) ?_
              refine Ak_iadd 288 (d_Law_p3 17 287 (.iadd) 1 rfl) rfl ?_
              obtain ⟨hs42, h⟩ := gd_some h
              refine Ak_sld 289 hs42 (d_Law_p3 18 288 (.iaload) 1 rfl) rfl ?_
              obtain ⟨hg46, h⟩ := gd_some h
              obtain ⟨r43, V44, h45, h⟩ := bnd_some h
              refine Ak_gV1 292 2 (c_SG_fault h45) rfl hg46 clX12 rfl mok_SG_fault lkM_Law_28 (d_Law_p3 19 289 (.invokevirtual 28) 3 rfl) rfl (by decide) (by decide) (Nat.le_of_ble_eq_true rfl) ?_
              refine Ak_aload_n 293 2 (d_Law_p3 20 292 (.aload_n 2) 1 rfl) rfl rfl rfl ?_
              refine Ak_aload_n 294 0 (d_Law_p3 21 293 (.aload_n 0) 1 rfl) rfl rfl rfl ?_
              refine Ak_iload_n 295 3 (d_Law_p3 22 294 (.iload_n 3) 1 rfl) rfl rfl rfl ?_
              refine Ak_iconst 296 (d_Law_p3 23 295 (.iconst 1) 1 rfl) rfl (rk rfl) ?_
              refine Ak_iadd 297 (d_Law_p3 24 296 (.iadd) 1 rfl) rfl ?_
              obtain ⟨hs47, h⟩ := gd_some h
              refine Ak_sld 298 hs47 (d_Law_p3 25 297 (.iaload) 1 rfl) rfl ?_
              obtain ⟨hg51, h⟩ := gd_some h
              obtain ⟨r48, V49, h50, h⟩ := bnd_some h
              refine Ak_gV1 301 2 (c_M_fault h50) rfl hg51 clX13 rfl mok_M_fault lkM_Law_32 (d_Law_p3 26 298 (.invokevirtual 32) 3 rfl) rfl (by decide) (by decide) (Nat.le_of_ble_eq_true rfl) ?_
              refine Ak_icmp_eq 976 304 (d_Law_p3 27 301 (.if_icmp .eq 675) 3 rfl) rfl rfl (fun hc => ?_) (fun hc => ?_)
              · replace h := it_t hc h
                refine Ak_iinc 979 (d_Law_p20 10 976 (.iinc 3 6) 3 rfl) rfl rfl (by decide) ?_
                refine Ak_goto 18 (d_Law_p20 11 979 (.goto (-961)) 3 rfl) rfl ?_
                refine Ak_keep [true, true, true, true] ?_
                exact ih h
              · replace h := it_f hc h
                refine Ak_iconst 305 (d_Law_p3 28 304 (.iconst 0) 1 rfl) rfl (rk rfl) ?_
                cases h
                exact Ak_zret (Or.inl rfl) rfl (d_Law_p3 29 305 (.ireturn) 1 rfl)
            · replace h := it_f hc41 h
              by_cases hc52 : (and32 (X x3) 63) = 4
              · replace h := it_t hc52 h
                refine Ak_tableIn 306 4 hc52 (d_Law_p0 21 33 (.tableswitch 943 0 33 #[151, 214, 237, 250, 273, 296, 329, 362, 395, 418, 451, 464, 497, 510, 523, 536, 549, 582, 605, 628, 651, 674, 697, 710, 743, 756, 779, 802, 835, 848, 871, 884, 907, 920]) 151 rfl) (by decide) (by decide) rfl rfl ?_
                refine Ak_aload_n 307 1 (d_Law_p4 0 306 (.aload_n 1) 1 rfl) rfl rfl rfl ?_
                refine Ak_aload_n 308 0 (d_Law_p4 1 307 (.aload_n 0) 1 rfl) rfl rfl rfl ?_
                refine Ak_iload_n 309 3 (d_Law_p4 2 308 (.iload_n 3) 1 rfl) rfl rfl rfl ?_
                refine Ak_iconst 310 (d_Law_p4 3 309 (.iconst 1) 1 rfl) rfl (rk rfl) ?_
                refine Ak_iadd 311 (d_Law_p4 4 310 (.iadd) 1 rfl) rfl ?_
                obtain ⟨hs53, h⟩ := gd_some h
                refine Ak_sld 312 hs53 (d_Law_p4 5 311 (.iaload) 1 rfl) rfl ?_
                obtain ⟨hg57, h⟩ := gd_some h
                obtain ⟨r54, V55, h56, h⟩ := bnd_some h
                refine Ak_gV1 315 6 (c_SG_has h56) rfl hg57 clX12 rfl mok_SG_has lkM_Law_33 (d_Law_p4 6 312 (.invokevirtual 33) 3 rfl) rfl (by decide) (by decide) (Nat.le_of_ble_eq_true rfl) ?_
                refine Ak_aload_n 316 2 (d_Law_p4 7 315 (.aload_n 2) 1 rfl) rfl rfl rfl ?_
                refine Ak_aload_n 317 0 (d_Law_p4 8 316 (.aload_n 0) 1 rfl) rfl rfl rfl ?_
                refine Ak_iload_n 318 3 (d_Law_p4 9 317 (.iload_n 3) 1 rfl) rfl rfl rfl ?_
                refine Ak_iconst 319 (d_Law_p4 10 318 (.iconst 1) 1 rfl) rfl (rk rfl) ?_
                refine Ak_iadd 320 (d_Law_p4 11 319 (.iadd) 1 rfl) rfl ?_
                obtain ⟨hs58, h⟩ := gd_some h
                refine Ak_sld 321 hs58 (d_Law_p4 12 320 (.iaload) 1 rfl) rfl ?_
                obtain ⟨hg62, h⟩ := gd_some h
                obtain ⟨r59, V60, h61, h⟩ := bnd_some h
                refine Ak_gV1 324 4 (c_M_has h61) rfl hg62 clX13 rfl mok_M_has lkM_Law_36 (d_Law_p4 13 321 (.invokevirtual 36) 3 rfl) rfl (by decide) (by decide) (Nat.le_of_ble_eq_true rfl) ?_
                refine Ak_icmp_eq 976 327 (d_Law_p4 14 324 (.if_icmp .eq 652) 3 rfl) rfl rfl (fun hc => ?_) (fun hc => ?_)
                · replace h := it_t hc h
                  refine Ak_iinc 979 (d_Law_p20 10 976 (.iinc 3 6) 3 rfl) rfl rfl (by decide) ?_
                  refine Ak_goto 18 (d_Law_p20 11 979 (.goto (-961)) 3 rfl) rfl ?_
                  refine Ak_keep [true, true, true, true] ?_
                  exact ih h
                · replace h := it_f hc h
                  refine Ak_iconst 328 (d_Law_p4 15 327 (.iconst 0) 1 rfl) rfl (rk rfl) ?_
                  cases h
                  exact Ak_zret (Or.inl rfl) rfl (d_Law_p4 16 328 (.ireturn) 1 rfl)
              · replace h := it_f hc52 h
                by_cases hc63 : (and32 (X x3) 63) = 5
                · replace h := it_t hc63 h
                  refine Ak_tableIn 329 5 hc63 (d_Law_p0 21 33 (.tableswitch 943 0 33 #[151, 214, 237, 250, 273, 296, 329, 362, 395, 418, 451, 464, 497, 510, 523, 536, 549, 582, 605, 628, 651, 674, 697, 710, 743, 756, 779, 802, 835, 848, 871, 884, 907, 920]) 151 rfl) (by decide) (by decide) rfl rfl ?_
                  refine Ak_aload_n 330 1 (d_Law_p4 17 329 (.aload_n 1) 1 rfl) rfl rfl rfl ?_
                  refine Ak_aload_n 331 0 (d_Law_p4 18 330 (.aload_n 0) 1 rfl) rfl rfl rfl ?_
                  refine Ak_iload_n 332 3 (d_Law_p4 19 331 (.iload_n 3) 1 rfl) rfl rfl rfl ?_
                  refine Ak_iconst 333 (d_Law_p4 20 332 (.iconst 1) 1 rfl) rfl (rk rfl) ?_
                  refine Ak_iadd 334 (d_Law_p4 21 333 (.iadd) 1 rfl) rfl ?_
                  obtain ⟨hs64, h⟩ := gd_some h
                  refine Ak_sld 335 hs64 (d_Law_p4 22 334 (.iaload) 1 rfl) rfl ?_
                  refine Ak_aload_n 336 0 (d_Law_p4 23 335 (.aload_n 0) 1 rfl) rfl rfl rfl ?_
                  refine Ak_iload_n 337 3 (d_Law_p4 24 336 (.iload_n 3) 1 rfl) rfl rfl rfl ?_
                  refine Ak_iconst 338 (d_Law_p4 25 337 (.iconst 2) 1 rfl) rfl (rk rfl) ?_
                  refine Ak_iadd 339 (d_Law_p4 26 338 (.iadd) 1 rfl) rfl ?_
                  obtain ⟨hs65, h⟩ := gd_some h
                  refine Ak_sld 340 hs65 (d_Law_p4 27 339 (.iaload) 1 rfl) rfl ?_
                  obtain ⟨hg69, h⟩ := gd_some h
                  obtain ⟨r66, V67, h68, h⟩ := bnd_some h
                  refine Ak_gV1 343 4 (c_SG_letter h68) rfl hg69 clX12 rfl mok_SG_letter lkM_Law_37 (d_Law_p4 28 340 (.invokevirtual 37) 3 rfl) rfl (by decide) (by decide) (Nat.le_of_ble_eq_true rfl) ?_
                  refine Ak_aload_n 344 2 (d_Law_p4 29 343 (.aload_n 2) 1 rfl) rfl rfl rfl ?_
                  refine Ak_aload_n 345 0 (d_Law_p5 0 344 (.aload_n 0) 1 rfl) rfl rfl rfl ?_
                  refine Ak_iload_n 346 3 (d_Law_p5 1 345 (.iload_n 3) 1 rfl) rfl rfl rfl ?_
                  refine Ak_iconst 347 (d_Law_p5 2 346 (.iconst 1) 1 rfl) rfl (rk rfl) ?_
                  refine Ak_iadd 348 (d_Law_p5 3 347 (.iadd) 1 rfl) rfl ?_
                  obtain ⟨hs70, h⟩ := gd_some h
                  refine Ak_sld 349 hs70 (d_Law_p5 4 348 (.iaload) 1 rfl) rfl ?_
                  refine Ak_aload_n 350 0 (d_Law_p5 5 349 (.aload_n 0) 1 rfl) rfl rfl rfl ?_
                  refine Ak_iload_n 351 3 (d_Law_p5 6 350 (.iload_n 3) 1 rfl) rfl rfl rfl ?_
                  refine Ak_iconst 352 (d_Law_p5 7 351 (.iconst 2) 1 rfl) rfl (rk rfl) ?_
                  refine Ak_iadd 353 (d_Law_p5 8 352 (.iadd) 1 rfl) rfl ?_
                  obtain ⟨hs71, h⟩ := gd_some h
                  refine Ak_sld 354 hs71 (d_Law_p5 9 353 (.iaload) 1 rfl) rfl ?_
                  obtain ⟨hg75, h⟩ := gd_some h
                  obtain ⟨r72, V73, h74, h⟩ := bnd_some h
                  refine Ak_gV1 357 3 (c_M_letter h74) rfl hg75 clX13 rfl mok_M_letter lkM_Law_41 (d_Law_p5 10 354 (.invokevirtual 41) 3 rfl) rfl (by decide) (by decide) (Nat.le_of_ble_eq_true rfl) ?_
                  refine Ak_icmp_eq 976 360 (d_Law_p5 11 357 (.if_icmp .eq 619) 3 rfl) rfl rfl (fun hc => ?_) (fun hc => ?_)
                  · replace h := it_t hc h
                    refine Ak_iinc 979 (d_Law_p20 10 976 (.iinc 3 6) 3 rfl) rfl rfl (by decide) ?_
                    refine Ak_goto 18 (d_Law_p20 11 979 (.goto (-961)) 3 rfl) rfl ?_
                    refine Ak_keep [true, true, true, true] ?_
                    exact ih h
                  · replace h := it_f hc h
                    refine Ak_iconst 361 (d_Law_p5 12 360 (.iconst 0) 1 rfl) rfl (rk rfl) ?_
                    cases h
                    exact Ak_zret (Or.inl rfl) rfl (d_Law_p5 13 361 (.ireturn) 1 rfl)
                · replace h := it_f hc63 h
                  by_cases hc76 : (and32 (X x3) 63) = 6
                  · replace h := it_t hc76 h
                    refine Ak_tableIn 362 6 hc76 (d_Law_p0 21 33 (.tableswitch 943 0 33 #[151, 214, 237, 250, 273, 296, 329, 362, 395, 418, 451, 464, 497, 510, 523, 536, 549, 582, 605, 628, 651, 674, 697, 710, 743, 756, 779, 802, 835, 848, 871, 884, 907, 920]) 151 rfl) (by decide) (by decide) rfl rfl ?_
                    refine Ak_aload_n 363 1 (d_Law_p5 14 362 (.aload_n 1) 1 rfl) rfl rfl rfl ?_
                    refine Ak_aload_n 364 0 (d_Law_p5 15 363 (.aload_n 0) 1 rfl) rfl rfl rfl ?_
                    refine Ak_iload_n 365 3 (d_Law_p5 16 364 (.iload_n 3) 1 rfl) rfl rfl rfl ?_
                    refine Ak_iconst 366 (d_Law_p5 17 365 (.iconst 1) 1 rfl) rfl (rk rfl) ?_
                    refine Ak_iadd 367 (d_Law_p5 18 366 (.iadd) 1 rfl) rfl ?_
                    obtain ⟨hs77, h⟩ := gd_some h
                    refine Ak_sld 368 hs77 (d_Law_p5 19 367 (.iaload) 1 rfl) rfl ?_
                    refine Ak_aload_n 369 0 (d_Law_p5 20 368 (.aload_n 0) 1 rfl) rfl rfl rfl ?_
                    refine Ak_iload_n 370 3 (d_Law_p5 21 369 (.iload_n 3) 1 rfl) rfl rfl rfl ?_
                    refine Ak_iconst 371 (d_Law_p5 22 370 (.iconst 2) 1 rfl) rfl (rk rfl) ?_
                    refine Ak_iadd 372 (d_Law_p5 23 371 (.iadd) 1 rfl) rfl ?_
                    obtain ⟨hs78, h⟩ := gd_some h
                    refine Ak_sld 373 hs78 (d_Law_p5 24 372 (.iaload) 1 rfl) rfl ?_
                    obtain ⟨hg82, h⟩ := gd_some h
                    obtain ⟨r79, V80, h81, h⟩ := bnd_some h
                    refine Ak_gV1 376 5 (c_SG_rule h81) rfl hg82 clX12 rfl mok_SG_rule lkM_Law_42 (d_Law_p5 25 373 (.invokevirtual 42) 3 rfl) rfl (by decide) (by decide) (Nat.le_of_ble_eq_true rfl) ?_
                    refine Ak_aload_n 377 2 (d_Law_p5 26 376 (.aload_n 2) 1 rfl) rfl rfl rfl ?_
                    refine Ak_aload_n 378 0 (d_Law_p5 27 377 (.aload_n 0) 1 rfl) rfl rfl rfl ?_
                    refine Ak_iload_n 379 3 (d_Law_p5 28 378 (.iload_n 3) 1 rfl) rfl rfl rfl ?_
                    refine Ak_iconst 380 (d_Law_p5 29 379 (.iconst 1) 1 rfl) rfl (rk rfl) ?_
                    refine Ak_iadd 381 (d_Law_p6 0 380 (.iadd) 1 rfl) rfl ?_
                    obtain ⟨hs83, h⟩ := gd_some h
                    refine Ak_sld 382 hs83 (d_Law_p6 1 381 (.iaload) 1 rfl) rfl ?_
                    refine Ak_aload_n 383 0 (d_Law_p6 2 382 (.aload_n 0) 1 rfl) rfl rfl rfl ?_
                    refine Ak_iload_n 384 3 (d_Law_p6 3 383 (.iload_n 3) 1 rfl) rfl rfl rfl ?_
                    refine Ak_iconst 385 (d_Law_p6 4 384 (.iconst 2) 1 rfl) rfl (rk rfl) ?_
                    refine Ak_iadd 386 (d_Law_p6 5 385 (.iadd) 1 rfl) rfl ?_
                    obtain ⟨hs84, h⟩ := gd_some h
                    refine Ak_sld 387 hs84 (d_Law_p6 6 386 (.iaload) 1 rfl) rfl ?_
                    obtain ⟨hg88, h⟩ := gd_some h
                    obtain ⟨r85, V86, h87, h⟩ := bnd_some h
                    refine Ak_gV1 390 4 (c_M_rule_II h87) rfl hg88 clX13 rfl mok_M_rule_II lkM_Law_45 (d_Law_p6 7 387 (.invokevirtual 45) 3 rfl) rfl (by decide) (by decide) (Nat.le_of_ble_eq_true rfl) ?_
                    refine Ak_icmp_eq 976 393 (d_Law_p6 8 390 (.if_icmp .eq 586) 3 rfl) rfl rfl (fun hc => ?_) (fun hc => ?_)
                    · replace h := it_t hc h
                      refine Ak_iinc 979 (d_Law_p20 10 976 (.iinc 3 6) 3 rfl) rfl rfl (by decide) ?_
                      refine Ak_goto 18 (d_Law_p20 11 979 (.goto (-961)) 3 rfl) rfl ?_
                      refine Ak_keep [true, true, true, true] ?_
                      exact ih h
                    · replace h := it_f hc h
                      refine Ak_iconst 394 (d_Law_p6 9 393 (.iconst 0) 1 rfl) rfl (rk rfl) ?_
                      cases h
                      exact Ak_zret (Or.inl rfl) rfl (d_Law_p6 10 394 (.ireturn) 1 rfl)
                  · replace h := it_f hc76 h
                    by_cases hc89 : (and32 (X x3) 63) = 7
                    · replace h := it_t hc89 h
                      refine Ak_tableIn 395 7 hc89 (d_Law_p0 21 33 (.tableswitch 943 0 33 #[151, 214, 237, 250, 273, 296, 329, 362, 395, 418, 451, 464, 497, 510, 523, 536, 549, 582, 605, 628, 651, 674, 697, 710, 743, 756, 779, 802, 835, 848, 871, 884, 907, 920]) 151 rfl) (by decide) (by decide) rfl rfl ?_
                      refine Ak_aload_n 396 1 (d_Law_p6 11 395 (.aload_n 1) 1 rfl) rfl rfl rfl ?_
                      refine Ak_aload_n 397 0 (d_Law_p6 12 396 (.aload_n 0) 1 rfl) rfl rfl rfl ?_
                      refine Ak_iload_n 398 3 (d_Law_p6 13 397 (.iload_n 3) 1 rfl) rfl rfl rfl ?_
                      refine Ak_iconst 399 (d_Law_p6 14 398 (.iconst 1) 1 rfl) rfl (rk rfl) ?_
                      refine Ak_iadd 400 (d_Law_p6 15 399 (.iadd) 1 rfl) rfl ?_
                      obtain ⟨hs90, h⟩ := gd_some h
                      refine Ak_sld 401 hs90 (d_Law_p6 16 400 (.iaload) 1 rfl) rfl ?_
                      refine Ak_aload_n 402 0 (d_Law_p6 17 401 (.aload_n 0) 1 rfl) rfl rfl rfl ?_
                      refine Ak_iload_n 403 3 (d_Law_p6 18 402 (.iload_n 3) 1 rfl) rfl rfl rfl ?_
                      refine Ak_iconst 404 (d_Law_p6 19 403 (.iconst 2) 1 rfl) rfl (rk rfl) ?_
                      refine Ak_iadd 405 (d_Law_p6 20 404 (.iadd) 1 rfl) rfl ?_
                      obtain ⟨hs91, h⟩ := gd_some h
                      refine Ak_sld 406 hs91 (d_Law_p6 21 405 (.iaload) 1 rfl) rfl ?_
                      obtain ⟨hg95, h⟩ := gd_some h
                      obtain ⟨r92, V93, h94, h⟩ := bnd_some h
                      refine Ak_gV1 409 9 (c_SG_lawful h94) rfl hg95 clX12 rfl mok_SG_lawful lkM_Law_46 (d_Law_p6 22 406 (.invokevirtual 46) 3 rfl) rfl (by decide) (by decide) (Nat.le_of_ble_eq_true rfl) ?_
                      refine Ak_aload_n 410 2 (d_Law_p6 23 409 (.aload_n 2) 1 rfl) rfl rfl rfl ?_
                      refine Ak_aload_n 411 0 (d_Law_p6 24 410 (.aload_n 0) 1 rfl) rfl rfl rfl ?_
                      refine Ak_iload_n 412 3 (d_Law_p6 25 411 (.iload_n 3) 1 rfl) rfl rfl rfl ?_
                      refine Ak_iconst 413 (d_Law_p6 26 412 (.iconst 1) 1 rfl) rfl (rk rfl) ?_
                      refine Ak_iadd 414 (d_Law_p6 27 413 (.iadd) 1 rfl) rfl ?_
                      obtain ⟨hs96, h⟩ := gd_some h
                      refine Ak_sld 415 hs96 (d_Law_p6 28 414 (.iaload) 1 rfl) rfl ?_
                      refine Ak_aload_n 416 0 (d_Law_p6 29 415 (.aload_n 0) 1 rfl) rfl rfl rfl ?_
                      refine Ak_iload_n 417 3 (d_Law_p7 0 416 (.iload_n 3) 1 rfl) rfl rfl rfl ?_
                      refine Ak_iconst 418 (d_Law_p7 1 417 (.iconst 2) 1 rfl) rfl (rk rfl) ?_
                      refine Ak_iadd 419 (d_Law_p7 2 418 (.iadd) 1 rfl) rfl ?_
                      obtain ⟨hs97, h⟩ := gd_some h
                      refine Ak_sld 420 hs97 (d_Law_p7 3 419 (.iaload) 1 rfl) rfl ?_
                      obtain ⟨hg101, h⟩ := gd_some h
                      obtain ⟨r98, V99, h100, h⟩ := bnd_some h
                      refine Ak_gV1 423 9 (c_M_lawful h100) rfl hg101 clX13 rfl mok_M_lawful lkM_Law_49 (d_Law_p7 4 420 (.invokevirtual 49) 3 rfl) rfl (by decide) (by decide) (Nat.le_of_ble_eq_true rfl) ?_
                      refine Ak_icmp_eq 976 426 (d_Law_p7 5 423 (.if_icmp .eq 553) 3 rfl) rfl rfl (fun hc => ?_) (fun hc => ?_)
                      · replace h := it_t hc h
                        refine Ak_iinc 979 (d_Law_p20 10 976 (.iinc 3 6) 3 rfl) rfl rfl (by decide) ?_
                        refine Ak_goto 18 (d_Law_p20 11 979 (.goto (-961)) 3 rfl) rfl ?_
                        refine Ak_keep [true, true, true, true] ?_
                        exact ih h
                      · replace h := it_f hc h
                        refine Ak_iconst 427 (d_Law_p7 6 426 (.iconst 0) 1 rfl) rfl (rk rfl) ?_
                        cases h
                        exact Ak_zret (Or.inl rfl) rfl (d_Law_p7 7 427 (.ireturn) 1 rfl)
                    · replace h := it_f hc89 h
                      by_cases hc102 : (and32 (X x3) 63) = 8
                      · replace h := it_t hc102 h
                        refine Ak_tableIn 428 8 hc102 (d_Law_p0 21 33 (.tableswitch 943 0 33 #[151, 214, 237, 250, 273, 296, 329, 362, 395, 418, 451, 464, 497, 510, 523, 536, 549, 582, 605, 628, 651, 674, 697, 710, 743, 756, 779, 802, 835, 848, 871, 884, 907, 920]) 151 rfl) (by decide) (by decide) rfl rfl ?_
                        refine Ak_aload_n 429 1 (d_Law_p7 8 428 (.aload_n 1) 1 rfl) rfl rfl rfl ?_
                        refine Ak_aload_n 430 0 (d_Law_p7 9 429 (.aload_n 0) 1 rfl) rfl rfl rfl ?_
                        refine Ak_iload_n 431 3 (d_Law_p7 10 430 (.iload_n 3) 1 rfl) rfl rfl rfl ?_
                        refine Ak_iconst 432 (d_Law_p7 11 431 (.iconst 1) 1 rfl) rfl (rk rfl) ?_
                        refine Ak_iadd 433 (d_Law_p7 12 432 (.iadd) 1 rfl) rfl ?_
                        obtain ⟨hs103, h⟩ := gd_some h
                        refine Ak_sld 434 hs103 (d_Law_p7 13 433 (.iaload) 1 rfl) rfl ?_
                        obtain ⟨hg107, h⟩ := gd_some h
                        obtain ⟨r104, V105, h106, h⟩ := bnd_some h
                        refine Ak_gV1 437 9 (c_SG_played h106) rfl hg107 clX12 rfl mok_SG_played lkM_Law_50 (d_Law_p7 14 434 (.invokevirtual 50) 3 rfl) rfl (by decide) (by decide) (Nat.le_of_ble_eq_true rfl) ?_
                        refine Ak_aload_n 438 2 (d_Law_p7 15 437 (.aload_n 2) 1 rfl) rfl rfl rfl ?_
                        refine Ak_aload_n 439 0 (d_Law_p7 16 438 (.aload_n 0) 1 rfl) rfl rfl rfl ?_
                        refine Ak_iload_n 440 3 (d_Law_p7 17 439 (.iload_n 3) 1 rfl) rfl rfl rfl ?_
                        refine Ak_iconst 441 (d_Law_p7 18 440 (.iconst 1) 1 rfl) rfl (rk rfl) ?_
                        refine Ak_iadd 442 (d_Law_p7 19 441 (.iadd) 1 rfl) rfl ?_
                        obtain ⟨hs108, h⟩ := gd_some h
                        refine Ak_sld 443 hs108 (d_Law_p7 20 442 (.iaload) 1 rfl) rfl ?_
                        obtain ⟨hg112, h⟩ := gd_some h
                        obtain ⟨r109, V110, h111, h⟩ := bnd_some h
                        refine Ak_gV1 446 10 (c_M_played h111) rfl hg112 clX13 rfl mok_M_played lkM_Law_53 (d_Law_p7 21 443 (.invokevirtual 53) 3 rfl) rfl (by decide) (by decide) (Nat.le_of_ble_eq_true rfl) ?_
                        refine Ak_icmp_eq 976 449 (d_Law_p7 22 446 (.if_icmp .eq 530) 3 rfl) rfl rfl (fun hc => ?_) (fun hc => ?_)
                        · replace h := it_t hc h
                          refine Ak_iinc 979 (d_Law_p20 10 976 (.iinc 3 6) 3 rfl) rfl rfl (by decide) ?_
                          refine Ak_goto 18 (d_Law_p20 11 979 (.goto (-961)) 3 rfl) rfl ?_
                          refine Ak_keep [true, true, true, true] ?_
                          exact ih h
                        · replace h := it_f hc h
                          refine Ak_iconst 450 (d_Law_p7 23 449 (.iconst 0) 1 rfl) rfl (rk rfl) ?_
                          cases h
                          exact Ak_zret (Or.inl rfl) rfl (d_Law_p7 24 450 (.ireturn) 1 rfl)
                      · replace h := it_f hc102 h
                        by_cases hc113 : (and32 (X x3) 63) = 9
                        · replace h := it_t hc113 h
                          refine Ak_tableIn 451 9 hc113 (d_Law_p0 21 33 (.tableswitch 943 0 33 #[151, 214, 237, 250, 273, 296, 329, 362, 395, 418, 451, 464, 497, 510, 523, 536, 549, 582, 605, 628, 651, 674, 697, 710, 743, 756, 779, 802, 835, 848, 871, 884, 907, 920]) 151 rfl) (by decide) (by decide) rfl rfl ?_
                          refine Ak_aload_n 452 1 (d_Law_p7 25 451 (.aload_n 1) 1 rfl) rfl rfl rfl ?_
                          refine Ak_aload_n 453 0 (d_Law_p7 26 452 (.aload_n 0) 1 rfl) rfl rfl rfl ?_
                          refine Ak_iload_n 454 3 (d_Law_p7 27 453 (.iload_n 3) 1 rfl) rfl rfl rfl ?_
                          refine Ak_iconst 455 (d_Law_p7 28 454 (.iconst 1) 1 rfl) rfl (rk rfl) ?_
                          refine Ak_iadd 456 (d_Law_p7 29 455 (.iadd) 1 rfl) rfl ?_
                          obtain ⟨hs114, h⟩ := gd_some h
                          refine Ak_sld 457 hs114 (d_Law_p8 0 456 (.iaload) 1 rfl) rfl ?_
                          refine Ak_aload_n 458 0 (d_Law_p8 1 457 (.aload_n 0) 1 rfl) rfl rfl rfl ?_
                          refine Ak_iload_n 459 3 (d_Law_p8 2 458 (.iload_n 3) 1 rfl) rfl rfl rfl ?_
                          refine Ak_iconst 460 (d_Law_p8 3 459 (.iconst 2) 1 rfl) rfl (rk rfl) ?_
                          refine Ak_iadd 461 (d_Law_p8 4 460 (.iadd) 1 rfl) rfl ?_
                          obtain ⟨hs115, h⟩ := gd_some h
                          refine Ak_sld 462 hs115 (d_Law_p8 5 461 (.iaload) 1 rfl) rfl ?_
                          obtain ⟨hg119, h⟩ := gd_some h
                          obtain ⟨r116, V117, h118, h⟩ := bnd_some h
                          refine Ak_gV1 465 9 (c_SG_move h118) rfl hg119 clX12 rfl mok_SG_move lkM_Law_54 (d_Law_p8 6 462 (.invokevirtual 54) 3 rfl) rfl (by decide) (by decide) (Nat.le_of_ble_eq_true rfl) ?_
                          refine Ak_aload_n 466 2 (d_Law_p8 7 465 (.aload_n 2) 1 rfl) rfl rfl rfl ?_
                          refine Ak_aload_n 467 0 (d_Law_p8 8 466 (.aload_n 0) 1 rfl) rfl rfl rfl ?_
                          refine Ak_iload_n 468 3 (d_Law_p8 9 467 (.iload_n 3) 1 rfl) rfl rfl rfl ?_
                          refine Ak_iconst 469 (d_Law_p8 10 468 (.iconst 1) 1 rfl) rfl (rk rfl) ?_
                          refine Ak_iadd 470 (d_Law_p8 11 469 (.iadd) 1 rfl) rfl ?_
                          obtain ⟨hs120, h⟩ := gd_some h
                          refine Ak_sld 471 hs120 (d_Law_p8 12 470 (.iaload) 1 rfl) rfl ?_
                          refine Ak_aload_n 472 0 (d_Law_p8 13 471 (.aload_n 0) 1 rfl) rfl rfl rfl ?_
                          refine Ak_iload_n 473 3 (d_Law_p8 14 472 (.iload_n 3) 1 rfl) rfl rfl rfl ?_
                          refine Ak_iconst 474 (d_Law_p8 15 473 (.iconst 2) 1 rfl) rfl (rk rfl) ?_
                          refine Ak_iadd 475 (d_Law_p8 16 474 (.iadd) 1 rfl) rfl ?_
                          obtain ⟨hs121, h⟩ := gd_some h
                          refine Ak_sld 476 hs121 (d_Law_p8 17 475 (.iaload) 1 rfl) rfl ?_
                          obtain ⟨hg125, h⟩ := gd_some h
                          obtain ⟨r122, V123, h124, h⟩ := bnd_some h
                          refine Ak_gV1 479 10 (c_M_move h124) rfl hg125 clX13 rfl mok_M_move lkM_Law_58 (d_Law_p8 18 476 (.invokevirtual 58) 3 rfl) rfl (by decide) (by decide) (Nat.le_of_ble_eq_true rfl) ?_
                          refine Ak_icmp_eq 976 482 (d_Law_p8 19 479 (.if_icmp .eq 497) 3 rfl) rfl rfl (fun hc => ?_) (fun hc => ?_)
                          · replace h := it_t hc h
                            refine Ak_iinc 979 (d_Law_p20 10 976 (.iinc 3 6) 3 rfl) rfl rfl (by decide) ?_
                            refine Ak_goto 18 (d_Law_p20 11 979 (.goto (-961)) 3 rfl) rfl ?_
                            refine Ak_keep [true, true, true, true] ?_
                            exact ih h
                          · replace h := it_f hc h
                            refine Ak_iconst 483 (d_Law_p8 20 482 (.iconst 0) 1 rfl) rfl (rk rfl) ?_
                            cases h
                            exact Ak_zret (Or.inl rfl) rfl (d_Law_p8 21 483 (.ireturn) 1 rfl)
                        · replace h := it_f hc113 h
                          by_cases hc126 : (and32 (X x3) 63) = 10
                          · replace h := it_t hc126 h
                            refine Ak_tableIn 484 10 hc126 (d_Law_p0 21 33 (.tableswitch 943 0 33 #[151, 214, 237, 250, 273, 296, 329, 362, 395, 418, 451, 464, 497, 510, 523, 536, 549, 582, 605, 628, 651, 674, 697, 710, 743, 756, 779, 802, 835, 848, 871, 884, 907, 920]) 151 rfl) (by decide) (by decide) rfl rfl ?_
                            refine Ak_aload_n 485 1 (d_Law_p8 22 484 (.aload_n 1) 1 rfl) rfl rfl rfl ?_
                            obtain ⟨hg130, h⟩ := gd_some h
                            obtain ⟨r127, V128, h129, h⟩ := bnd_some h
                            refine Ak_gV1 488 4 (c_SG_anew h129) rfl hg130 clX12 rfl mok_SG_anew lkM_Law_59 (d_Law_p8 23 485 (.invokevirtual 59) 3 rfl) rfl (by decide) (by decide) (Nat.le_of_ble_eq_true rfl) ?_
                            refine Ak_aload_n 489 2 (d_Law_p8 24 488 (.aload_n 2) 1 rfl) rfl rfl rfl ?_
                            obtain ⟨hg134, h⟩ := gd_some h
                            obtain ⟨r131, V132, h133, h⟩ := bnd_some h
                            refine Ak_gV1 492 5 (c_M_anew h133) rfl hg134 clX13 rfl mok_M_anew lkM_Law_62 (d_Law_p8 25 489 (.invokevirtual 62) 3 rfl) rfl (by decide) (by decide) (Nat.le_of_ble_eq_true rfl) ?_
                            refine Ak_icmp_eq 976 495 (d_Law_p8 26 492 (.if_icmp .eq 484) 3 rfl) rfl rfl (fun hc => ?_) (fun hc => ?_)
                            · replace h := it_t hc h
                              refine Ak_iinc 979 (d_Law_p20 10 976 (.iinc 3 6) 3 rfl) rfl rfl (by decide) ?_
                              refine Ak_goto 18 (d_Law_p20 11 979 (.goto (-961)) 3 rfl) rfl ?_
                              refine Ak_keep [true, true, true, true] ?_
                              exact ih h
                            · replace h := it_f hc h
                              refine Ak_iconst 496 (d_Law_p8 27 495 (.iconst 0) 1 rfl) rfl (rk rfl) ?_
                              cases h
                              exact Ak_zret (Or.inl rfl) rfl (d_Law_p8 28 496 (.ireturn) 1 rfl)
                          · replace h := it_f hc126 h
                            by_cases hc135 : (and32 (X x3) 63) = 11
                            · replace h := it_t hc135 h
                              refine Ak_tableIn 497 11 hc135 (d_Law_p0 21 33 (.tableswitch 943 0 33 #[151, 214, 237, 250, 273, 296, 329, 362, 395, 418, 451, 464, 497, 510, 523, 536, 549, 582, 605, 628, 651, 674, 697, 710, 743, 756, 779, 802, 835, 848, 871, 884, 907, 920]) 151 rfl) (by decide) (by decide) rfl rfl ?_
                              refine Ak_aload_n 498 1 (d_Law_p8 29 497 (.aload_n 1) 1 rfl) rfl rfl rfl ?_
                              refine Ak_aload_n 499 0 (d_Law_p9 0 498 (.aload_n 0) 1 rfl) rfl rfl rfl ?_
                              refine Ak_iload_n 500 3 (d_Law_p9 1 499 (.iload_n 3) 1 rfl) rfl rfl rfl ?_
                              refine Ak_iconst 501 (d_Law_p9 2 500 (.iconst 1) 1 rfl) rfl (rk rfl) ?_
                              refine Ak_iadd 502 (d_Law_p9 3 501 (.iadd) 1 rfl) rfl ?_
                              obtain ⟨hs136, h⟩ := gd_some h
                              refine Ak_sld 503 hs136 (d_Law_p9 4 502 (.iaload) 1 rfl) rfl ?_
                              refine Ak_aload_n 504 0 (d_Law_p9 5 503 (.aload_n 0) 1 rfl) rfl rfl rfl ?_
                              refine Ak_iload_n 505 3 (d_Law_p9 6 504 (.iload_n 3) 1 rfl) rfl rfl rfl ?_
                              refine Ak_iconst 506 (d_Law_p9 7 505 (.iconst 2) 1 rfl) rfl (rk rfl) ?_
                              refine Ak_iadd 507 (d_Law_p9 8 506 (.iadd) 1 rfl) rfl ?_
                              obtain ⟨hs137, h⟩ := gd_some h
                              refine Ak_sld 508 hs137 (d_Law_p9 9 507 (.iaload) 1 rfl) rfl ?_
                              obtain ⟨hg141, h⟩ := gd_some h
                              obtain ⟨r138, V139, h140, h⟩ := bnd_some h
                              refine Ak_gV1 511 10 (c_SG_value h140) rfl hg141 clX12 rfl mok_SG_value lkM_Law_63 (d_Law_p9 10 508 (.invokevirtual 63) 3 rfl) rfl (by decide) (by decide) (Nat.le_of_ble_eq_true rfl) ?_
                              refine Ak_aload_n 512 2 (d_Law_p9 11 511 (.aload_n 2) 1 rfl) rfl rfl rfl ?_
                              refine Ak_aload_n 513 0 (d_Law_p9 12 512 (.aload_n 0) 1 rfl) rfl rfl rfl ?_
                              refine Ak_iload_n 514 3 (d_Law_p9 13 513 (.iload_n 3) 1 rfl) rfl rfl rfl ?_
                              refine Ak_iconst 515 (d_Law_p9 14 514 (.iconst 1) 1 rfl) rfl (rk rfl) ?_
                              refine Ak_iadd 516 (d_Law_p9 15 515 (.iadd) 1 rfl) rfl ?_
                              obtain ⟨hs142, h⟩ := gd_some h
                              refine Ak_sld 517 hs142 (d_Law_p9 16 516 (.iaload) 1 rfl) rfl ?_
                              refine Ak_aload_n 518 0 (d_Law_p9 17 517 (.aload_n 0) 1 rfl) rfl rfl rfl ?_
                              refine Ak_iload_n 519 3 (d_Law_p9 18 518 (.iload_n 3) 1 rfl) rfl rfl rfl ?_
                              refine Ak_iconst 520 (d_Law_p9 19 519 (.iconst 2) 1 rfl) rfl (rk rfl) ?_
                              refine Ak_iadd 521 (d_Law_p9 20 520 (.iadd) 1 rfl) rfl ?_
                              obtain ⟨hs143, h⟩ := gd_some h
                              refine Ak_sld 522 hs143 (d_Law_p9 21 521 (.iaload) 1 rfl) rfl ?_
                              obtain ⟨hg147, h⟩ := gd_some h
                              obtain ⟨r144, V145, h146, h⟩ := bnd_some h
                              refine Ak_gV1 525 9 (c_M_value h146) rfl hg147 clX13 rfl mok_M_value lkM_Law_66 (d_Law_p9 22 522 (.invokevirtual 66) 3 rfl) rfl (by decide) (by decide) (Nat.le_of_ble_eq_true rfl) ?_
                              refine Ak_icmp_eq 976 528 (d_Law_p9 23 525 (.if_icmp .eq 451) 3 rfl) rfl rfl (fun hc => ?_) (fun hc => ?_)
                              · replace h := it_t hc h
                                refine Ak_iinc 979 (d_Law_p20 10 976 (.iinc 3 6) 3 rfl) rfl rfl (by decide) ?_
                                refine Ak_goto 18 (d_Law_p20 11 979 (.goto (-961)) 3 rfl) rfl ?_
                                refine Ak_keep [true, true, true, true] ?_
                                exact ih h
                              · replace h := it_f hc h
                                refine Ak_iconst 529 (d_Law_p9 24 528 (.iconst 0) 1 rfl) rfl (rk rfl) ?_
                                cases h
                                exact Ak_zret (Or.inl rfl) rfl (d_Law_p9 25 529 (.ireturn) 1 rfl)
                            · replace h := it_f hc135 h
                              by_cases hc148 : (and32 (X x3) 63) = 12
                              · replace h := it_t hc148 h
                                refine Ak_tableIn 530 12 hc148 (d_Law_p0 21 33 (.tableswitch 943 0 33 #[151, 214, 237, 250, 273, 296, 329, 362, 395, 418, 451, 464, 497, 510, 523, 536, 549, 582, 605, 628, 651, 674, 697, 710, 743, 756, 779, 802, 835, 848, 871, 884, 907, 920]) 151 rfl) (by decide) (by decide) rfl rfl ?_
                                refine Ak_aload_n 531 1 (d_Law_p9 26 530 (.aload_n 1) 1 rfl) rfl rfl rfl ?_
                                obtain ⟨hg152, h⟩ := gd_some h
                                obtain ⟨r149, V150, h151, h⟩ := bnd_some h
                                refine Ak_gV1 534 10 (c_SG_worth h151) rfl hg152 clX12 rfl mok_SG_worth lkM_Law_67 (d_Law_p9 27 531 (.invokevirtual 67) 3 rfl) rfl (by decide) (by decide) (Nat.le_of_ble_eq_true rfl) ?_
                                refine Ak_aload_n 535 2 (d_Law_p9 28 534 (.aload_n 2) 1 rfl) rfl rfl rfl ?_
                                obtain ⟨hg156, h⟩ := gd_some h
                                obtain ⟨r153, V154, h155, h⟩ := bnd_some h
                                refine Ak_gV1 538 10 (c_M_worth h155) rfl hg156 clX13 rfl mok_M_worth lkM_Law_70 (d_Law_p9 29 535 (.invokevirtual 70) 3 rfl) rfl (by decide) (by decide) (Nat.le_of_ble_eq_true rfl) ?_
                                refine Ak_icmp_eq 976 541 (d_Law_p10 0 538 (.if_icmp .eq 438) 3 rfl) rfl rfl (fun hc => ?_) (fun hc => ?_)
                                · replace h := it_t hc h
                                  refine Ak_iinc 979 (d_Law_p20 10 976 (.iinc 3 6) 3 rfl) rfl rfl (by decide) ?_
                                  refine Ak_goto 18 (d_Law_p20 11 979 (.goto (-961)) 3 rfl) rfl ?_
                                  refine Ak_keep [true, true, true, true] ?_
                                  exact ih h
                                · replace h := it_f hc h
                                  refine Ak_iconst 542 (d_Law_p10 1 541 (.iconst 0) 1 rfl) rfl (rk rfl) ?_
                                  cases h
                                  exact Ak_zret (Or.inl rfl) rfl (d_Law_p10 2 542 (.ireturn) 1 rfl)
                              · replace h := it_f hc148 h
                                by_cases hc157 : (and32 (X x3) 63) = 13
                                · replace h := it_t hc157 h
                                  refine Ak_tableIn 543 13 hc157 (d_Law_p0 21 33 (.tableswitch 943 0 33 #[151, 214, 237, 250, 273, 296, 329, 362, 395, 418, 451, 464, 497, 510, 523, 536, 549, 582, 605, 628, 651, 674, 697, 710, 743, 756, 779, 802, 835, 848, 871, 884, 907, 920]) 151 rfl) (by decide) (by decide) rfl rfl ?_
                                  refine Ak_aload_n 544 1 (d_Law_p10 3 543 (.aload_n 1) 1 rfl) rfl rfl rfl ?_
                                  obtain ⟨hg161, h⟩ := gd_some h
                                  obtain ⟨r158, V159, h160, h⟩ := bnd_some h
                                  refine Ak_gV1 547 10 (c_SG_hat h160) rfl hg161 clX12 rfl mok_SG_hat lkM_Law_71 (d_Law_p10 4 544 (.invokevirtual 71) 3 rfl) rfl (by decide) (by decide) (Nat.le_of_ble_eq_true rfl) ?_
                                  refine Ak_aload_n 548 2 (d_Law_p10 5 547 (.aload_n 2) 1 rfl) rfl rfl rfl ?_
                                  obtain ⟨hg165, h⟩ := gd_some h
                                  obtain ⟨r162, V163, h164, h⟩ := bnd_some h
                                  refine Ak_gV1 551 10 (c_M_hat h164) rfl hg165 clX13 rfl mok_M_hat lkM_Law_74 (d_Law_p10 6 548 (.invokevirtual 74) 3 rfl) rfl (by decide) (by decide) (Nat.le_of_ble_eq_true rfl) ?_
                                  refine Ak_icmp_eq 976 554 (d_Law_p10 7 551 (.if_icmp .eq 425) 3 rfl) rfl rfl (fun hc => ?_) (fun hc => ?_)
                                  · replace h := it_t hc h
                                    refine Ak_iinc 979 (d_Law_p20 10 976 (.iinc 3 6) 3 rfl) rfl rfl (by decide) ?_
                                    refine Ak_goto 18 (d_Law_p20 11 979 (.goto (-961)) 3 rfl) rfl ?_
                                    refine Ak_keep [true, true, true, true] ?_
                                    exact ih h
                                  · replace h := it_f hc h
                                    refine Ak_iconst 555 (d_Law_p10 8 554 (.iconst 0) 1 rfl) rfl (rk rfl) ?_
                                    cases h
                                    exact Ak_zret (Or.inl rfl) rfl (d_Law_p10 9 555 (.ireturn) 1 rfl)
                                · replace h := it_f hc157 h
                                  by_cases hc166 : (and32 (X x3) 63) = 14
                                  · replace h := it_t hc166 h
                                    refine Ak_tableIn 556 14 hc166 (d_Law_p0 21 33 (.tableswitch 943 0 33 #[151, 214, 237, 250, 273, 296, 329, 362, 395, 418, 451, 464, 497, 510, 523, 536, 549, 582, 605, 628, 651, 674, 697, 710, 743, 756, 779, 802, 835, 848, 871, 884, 907, 920]) 151 rfl) (by decide) (by decide) rfl rfl ?_
                                    refine Ak_aload_n 557 1 (d_Law_p10 10 556 (.aload_n 1) 1 rfl) rfl rfl rfl ?_
                                    obtain ⟨hg170, h⟩ := gd_some h
                                    obtain ⟨r167, V168, h169, h⟩ := bnd_some h
                                    refine Ak_gV1 560 9 (c_SG_longest h169) rfl hg170 clX12 rfl mok_SG_longest lkM_Law_75 (d_Law_p10 11 557 (.invokevirtual 75) 3 rfl) rfl (by decide) (by decide) (Nat.le_of_ble_eq_true rfl) ?_
                                    refine Ak_aload_n 561 2 (d_Law_p10 12 560 (.aload_n 2) 1 rfl) rfl rfl rfl ?_
                                    obtain ⟨hg174, h⟩ := gd_some h
                                    obtain ⟨r171, V172, h173, h⟩ := bnd_some h
                                    refine Ak_gV1 564 9 (c_M_longest h173) rfl hg174 clX13 rfl mok_M_longest lkM_Law_78 (d_Law_p10 13 561 (.invokevirtual 78) 3 rfl) rfl (by decide) (by decide) (Nat.le_of_ble_eq_true rfl) ?_
                                    refine Ak_icmp_eq 976 567 (d_Law_p10 14 564 (.if_icmp .eq 412) 3 rfl) rfl rfl (fun hc => ?_) (fun hc => ?_)
                                    · replace h := it_t hc h
                                      refine Ak_iinc 979 (d_Law_p20 10 976 (.iinc 3 6) 3 rfl) rfl rfl (by decide) ?_
                                      refine Ak_goto 18 (d_Law_p20 11 979 (.goto (-961)) 3 rfl) rfl ?_
                                      refine Ak_keep [true, true, true, true] ?_
                                      exact ih h
                                    · replace h := it_f hc h
                                      refine Ak_iconst 568 (d_Law_p10 15 567 (.iconst 0) 1 rfl) rfl (rk rfl) ?_
                                      cases h
                                      exact Ak_zret (Or.inl rfl) rfl (d_Law_p10 16 568 (.ireturn) 1 rfl)
                                  · replace h := it_f hc166 h
                                    by_cases hc175 : (and32 (X x3) 63) = 15
                                    · replace h := it_t hc175 h
                                      refine Ak_tableIn 569 15 hc175 (d_Law_p0 21 33 (.tableswitch 943 0 33 #[151, 214, 237, 250, 273, 296, 329, 362, 395, 418, 451, 464, 497, 510, 523, 536, 549, 582, 605, 628, 651, 674, 697, 710, 743, 756, 779, 802, 835, 848, 871, 884, 907, 920]) 151 rfl) (by decide) (by decide) rfl rfl ?_
                                      refine Ak_aload_n 570 1 (d_Law_p10 17 569 (.aload_n 1) 1 rfl) rfl rfl rfl ?_
                                      obtain ⟨hg179, h⟩ := gd_some h
                                      obtain ⟨r176, V177, h178, h⟩ := bnd_some h
                                      refine Ak_gV1 573 9 (c_SG_row h178) rfl hg179 clX12 rfl mok_SG_row lkM_Law_79 (d_Law_p10 18 570 (.invokevirtual 79) 3 rfl) rfl (by decide) (by decide) (Nat.le_of_ble_eq_true rfl) ?_
                                      refine Ak_aload_n 574 2 (d_Law_p10 19 573 (.aload_n 2) 1 rfl) rfl rfl rfl ?_
                                      obtain ⟨hg183, h⟩ := gd_some h
                                      obtain ⟨r180, V181, h182, h⟩ := bnd_some h
                                      refine Ak_gV1 577 7 (c_M_row h182) rfl hg183 clX13 rfl mok_M_row lkM_Law_82 (d_Law_p10 20 574 (.invokevirtual 82) 3 rfl) rfl (by decide) (by decide) (Nat.le_of_ble_eq_true rfl) ?_
                                      refine Ak_icmp_eq 976 580 (d_Law_p10 21 577 (.if_icmp .eq 399) 3 rfl) rfl rfl (fun hc => ?_) (fun hc => ?_)
                                      · replace h := it_t hc h
                                        refine Ak_iinc 979 (d_Law_p20 10 976 (.iinc 3 6) 3 rfl) rfl rfl (by decide) ?_
                                        refine Ak_goto 18 (d_Law_p20 11 979 (.goto (-961)) 3 rfl) rfl ?_
                                        refine Ak_keep [true, true, true, true] ?_
                                        exact ih h
                                      · replace h := it_f hc h
                                        refine Ak_iconst 581 (d_Law_p10 22 580 (.iconst 0) 1 rfl) rfl (rk rfl) ?_
                                        cases h
                                        exact Ak_zret (Or.inl rfl) rfl (d_Law_p10 23 581 (.ireturn) 1 rfl)
                                    · replace h := it_f hc175 h
                                      by_cases hc184 : (and32 (X x3) 63) = 16
                                      · replace h := it_t hc184 h
                                        refine Ak_tableIn 582 16 hc184 (d_Law_p0 21 33 (.tableswitch 943 0 33 #[151, 214, 237, 250, 273, 296, 329, 362, 395, 418, 451, 464, 497, 510, 523, 536, 549, 582, 605, 628, 651, 674, 697, 710, 743, 756, 779, 802, 835, 848, 871, 884, 907, 920]) 151 rfl) (by decide) (by decide) rfl rfl ?_
                                        refine Ak_aload_n 583 1 (d_Law_p10 24 582 (.aload_n 1) 1 rfl) rfl rfl rfl ?_
                                        refine Ak_aload_n 584 0 (d_Law_p10 25 583 (.aload_n 0) 1 rfl) rfl rfl rfl ?_
                                        refine Ak_iload_n 585 3 (d_Law_p10 26 584 (.iload_n 3) 1 rfl) rfl rfl rfl ?_
                                        refine Ak_iconst 586 (d_Law_p10 27 585 (.iconst 1) 1 rfl) rfl (rk rfl) ?_
                                        refine Ak_iadd 587 (d_Law_p10 28 586 (.iadd) 1 rfl) rfl ?_
                                        obtain ⟨hs185, h⟩ := gd_some h
                                        refine Ak_sld 588 hs185 (d_Law_p10 29 587 (.iaload) 1 rfl) rfl ?_
                                        refine Ak_aload_n 589 0 (d_Law_p11 0 588 (.aload_n 0) 1 rfl) rfl rfl rfl ?_
                                        refine Ak_iload_n 590 3 (d_Law_p11 1 589 (.iload_n 3) 1 rfl) rfl rfl rfl ?_
                                        refine Ak_iconst 591 (d_Law_p11 2 590 (.iconst 2) 1 rfl) rfl (rk rfl) ?_
                                        refine Ak_iadd 592 (d_Law_p11 3 591 (.iadd) 1 rfl) rfl ?_
                                        obtain ⟨hs186, h⟩ := gd_some h
                                        refine Ak_sld 593 hs186 (d_Law_p11 4 592 (.iaload) 1 rfl) rfl ?_
                                        obtain ⟨hg190, h⟩ := gd_some h
                                        obtain ⟨r187, V188, h189, h⟩ := bnd_some h
                                        refine Ak_gV1 596 3 (c_SG_errs h189) rfl hg190 clX12 rfl mok_SG_errs lkM_Law_83 (d_Law_p11 5 593 (.invokevirtual 83) 3 rfl) rfl (by decide) (by decide) (Nat.le_of_ble_eq_true rfl) ?_
                                        refine Ak_aload_n 597 2 (d_Law_p11 6 596 (.aload_n 2) 1 rfl) rfl rfl rfl ?_
                                        refine Ak_aload_n 598 0 (d_Law_p11 7 597 (.aload_n 0) 1 rfl) rfl rfl rfl ?_
                                        refine Ak_iload_n 599 3 (d_Law_p11 8 598 (.iload_n 3) 1 rfl) rfl rfl rfl ?_
                                        refine Ak_iconst 600 (d_Law_p11 9 599 (.iconst 1) 1 rfl) rfl (rk rfl) ?_
                                        refine Ak_iadd 601 (d_Law_p11 10 600 (.iadd) 1 rfl) rfl ?_
                                        obtain ⟨hs191, h⟩ := gd_some h
                                        refine Ak_sld 602 hs191 (d_Law_p11 11 601 (.iaload) 1 rfl) rfl ?_
                                        refine Ak_aload_n 603 0 (d_Law_p11 12 602 (.aload_n 0) 1 rfl) rfl rfl rfl ?_
                                        refine Ak_iload_n 604 3 (d_Law_p11 13 603 (.iload_n 3) 1 rfl) rfl rfl rfl ?_
                                        refine Ak_iconst 605 (d_Law_p11 14 604 (.iconst 2) 1 rfl) rfl (rk rfl) ?_
                                        refine Ak_iadd 606 (d_Law_p11 15 605 (.iadd) 1 rfl) rfl ?_
                                        obtain ⟨hs192, h⟩ := gd_some h
                                        refine Ak_sld 607 hs192 (d_Law_p11 16 606 (.iaload) 1 rfl) rfl ?_
                                        obtain ⟨hg196, h⟩ := gd_some h
                                        obtain ⟨r193, V194, h195, h⟩ := bnd_some h
                                        refine Ak_gV1 610 3 (c_M_errs h195) rfl hg196 clX13 rfl mok_M_errs lkM_Law_86 (d_Law_p11 17 607 (.invokevirtual 86) 3 rfl) rfl (by decide) (by decide) (Nat.le_of_ble_eq_true rfl) ?_
                                        refine Ak_icmp_eq 976 613 (d_Law_p11 18 610 (.if_icmp .eq 366) 3 rfl) rfl rfl (fun hc => ?_) (fun hc => ?_)
                                        · replace h := it_t hc h
                                          refine Ak_iinc 979 (d_Law_p20 10 976 (.iinc 3 6) 3 rfl) rfl rfl (by decide) ?_
                                          refine Ak_goto 18 (d_Law_p20 11 979 (.goto (-961)) 3 rfl) rfl ?_
                                          refine Ak_keep [true, true, true, true] ?_
                                          exact ih h
                                        · replace h := it_f hc h
                                          refine Ak_iconst 614 (d_Law_p11 19 613 (.iconst 0) 1 rfl) rfl (rk rfl) ?_
                                          cases h
                                          exact Ak_zret (Or.inl rfl) rfl (d_Law_p11 20 614 (.ireturn) 1 rfl)
                                      · replace h := it_f hc184 h
                                        by_cases hc197 : (and32 (X x3) 63) = 17
                                        · replace h := it_t hc197 h
                                          refine Ak_tableIn 615 17 hc197 (d_Law_p0 21 33 (.tableswitch 943 0 33 #[151, 214, 237, 250, 273, 296, 329, 362, 395, 418, 451, 464, 497, 510, 523, 536, 549, 582, 605, 628, 651, 674, 697, 710, 743, 756, 779, 802, 835, 848, 871, 884, 907, 920]) 151 rfl) (by decide) (by decide) rfl rfl ?_
                                          refine Ak_aload_n 616 1 (d_Law_p11 21 615 (.aload_n 1) 1 rfl) rfl rfl rfl ?_
                                          refine Ak_aload_n 617 0 (d_Law_p11 22 616 (.aload_n 0) 1 rfl) rfl rfl rfl ?_
                                          refine Ak_iload_n 618 3 (d_Law_p11 23 617 (.iload_n 3) 1 rfl) rfl rfl rfl ?_
                                          refine Ak_iconst 619 (d_Law_p11 24 618 (.iconst 1) 1 rfl) rfl (rk rfl) ?_
                                          refine Ak_iadd 620 (d_Law_p11 25 619 (.iadd) 1 rfl) rfl ?_
                                          obtain ⟨hs198, h⟩ := gd_some h
                                          refine Ak_sld 621 hs198 (d_Law_p11 26 620 (.iaload) 1 rfl) rfl ?_
                                          obtain ⟨hg202, h⟩ := gd_some h
                                          obtain ⟨r199, V200, h201, h⟩ := bnd_some h
                                          refine Ak_gV1 624 10 (c_SG_likely h201) rfl hg202 clX12 rfl mok_SG_likely lkM_Law_87 (d_Law_p11 27 621 (.invokevirtual 87) 3 rfl) rfl (by decide) (by decide) (Nat.le_of_ble_eq_true rfl) ?_
                                          refine Ak_aload_n 625 2 (d_Law_p11 28 624 (.aload_n 2) 1 rfl) rfl rfl rfl ?_
                                          refine Ak_aload_n 626 0 (d_Law_p11 29 625 (.aload_n 0) 1 rfl) rfl rfl rfl ?_
                                          refine Ak_iload_n 627 3 (d_Law_p12 0 626 (.iload_n 3) 1 rfl) rfl rfl rfl ?_
                                          refine Ak_iconst 628 (d_Law_p12 1 627 (.iconst 1) 1 rfl) rfl (rk rfl) ?_
                                          refine Ak_iadd 629 (d_Law_p12 2 628 (.iadd) 1 rfl) rfl ?_
                                          obtain ⟨hs203, h⟩ := gd_some h
                                          refine Ak_sld 630 hs203 (d_Law_p12 3 629 (.iaload) 1 rfl) rfl ?_
                                          obtain ⟨hg207, h⟩ := gd_some h
                                          obtain ⟨r204, V205, h206, h⟩ := bnd_some h
                                          refine Ak_gV1 633 9 (c_M_likely h206) rfl hg207 clX13 rfl mok_M_likely lkM_Law_90 (d_Law_p12 4 630 (.invokevirtual 90) 3 rfl) rfl (by decide) (by decide) (Nat.le_of_ble_eq_true rfl) ?_
                                          refine Ak_icmp_eq 976 636 (d_Law_p12 5 633 (.if_icmp .eq 343) 3 rfl) rfl rfl (fun hc => ?_) (fun hc => ?_)
                                          · replace h := it_t hc h
                                            refine Ak_iinc 979 (d_Law_p20 10 976 (.iinc 3 6) 3 rfl) rfl rfl (by decide) ?_
                                            refine Ak_goto 18 (d_Law_p20 11 979 (.goto (-961)) 3 rfl) rfl ?_
                                            refine Ak_keep [true, true, true, true] ?_
                                            exact ih h
                                          · replace h := it_f hc h
                                            refine Ak_iconst 637 (d_Law_p12 6 636 (.iconst 0) 1 rfl) rfl (rk rfl) ?_
                                            cases h
                                            exact Ak_zret (Or.inl rfl) rfl (d_Law_p12 7 637 (.ireturn) 1 rfl)
                                        · replace h := it_f hc197 h
                                          by_cases hc208 : (and32 (X x3) 63) = 18
                                          · replace h := it_t hc208 h
                                            refine Ak_tableIn 638 18 hc208 (d_Law_p0 21 33 (.tableswitch 943 0 33 #[151, 214, 237, 250, 273, 296, 329, 362, 395, 418, 451, 464, 497, 510, 523, 536, 549, 582, 605, 628, 651, 674, 697, 710, 743, 756, 779, 802, 835, 848, 871, 884, 907, 920]) 151 rfl) (by decide) (by decide) rfl rfl ?_
                                            refine Ak_aload_n 639 1 (d_Law_p12 8 638 (.aload_n 1) 1 rfl) rfl rfl rfl ?_
                                            refine Ak_aload_n 640 0 (d_Law_p12 9 639 (.aload_n 0) 1 rfl) rfl rfl rfl ?_
                                            refine Ak_iload_n 641 3 (d_Law_p12 10 640 (.iload_n 3) 1 rfl) rfl rfl rfl ?_
                                            refine Ak_iconst 642 (d_Law_p12 11 641 (.iconst 1) 1 rfl) rfl (rk rfl) ?_
                                            refine Ak_iadd 643 (d_Law_p12 12 642 (.iadd) 1 rfl) rfl ?_
                                            obtain ⟨hs209, h⟩ := gd_some h
                                            refine Ak_sld 644 hs209 (d_Law_p12 13 643 (.iaload) 1 rfl) rfl ?_
                                            obtain ⟨hg213, h⟩ := gd_some h
                                            obtain ⟨r210, V211, h212, h⟩ := bnd_some h
                                            refine Ak_gV1 647 6 (c_SG_change h212) rfl hg213 clX12 rfl mok_SG_change lkM_Law_91 (d_Law_p12 14 644 (.invokevirtual 91) 3 rfl) rfl (by decide) (by decide) (Nat.le_of_ble_eq_true rfl) ?_
                                            refine Ak_aload_n 648 2 (d_Law_p12 15 647 (.aload_n 2) 1 rfl) rfl rfl rfl ?_
                                            refine Ak_aload_n 649 0 (d_Law_p12 16 648 (.aload_n 0) 1 rfl) rfl rfl rfl ?_
                                            refine Ak_iload_n 650 3 (d_Law_p12 17 649 (.iload_n 3) 1 rfl) rfl rfl rfl ?_
                                            refine Ak_iconst 651 (d_Law_p12 18 650 (.iconst 1) 1 rfl) rfl (rk rfl) ?_
                                            refine Ak_iadd 652 (d_Law_p12 19 651 (.iadd) 1 rfl) rfl ?_
                                            obtain ⟨hs214, h⟩ := gd_some h
                                            refine Ak_sld 653 hs214 (d_Law_p12 20 652 (.iaload) 1 rfl) rfl ?_
                                            obtain ⟨hg218, h⟩ := gd_some h
                                            obtain ⟨r215, V216, h217, h⟩ := bnd_some h
                                            refine Ak_gV1 656 4 (c_M_change h217) rfl hg218 clX13 rfl mok_M_change lkM_Law_94 (d_Law_p12 21 653 (.invokevirtual 94) 3 rfl) rfl (by decide) (by decide) (Nat.le_of_ble_eq_true rfl) ?_
                                            refine Ak_icmp_eq 976 659 (d_Law_p12 22 656 (.if_icmp .eq 320) 3 rfl) rfl rfl (fun hc => ?_) (fun hc => ?_)
                                            · replace h := it_t hc h
                                              refine Ak_iinc 979 (d_Law_p20 10 976 (.iinc 3 6) 3 rfl) rfl rfl (by decide) ?_
                                              refine Ak_goto 18 (d_Law_p20 11 979 (.goto (-961)) 3 rfl) rfl ?_
                                              refine Ak_keep [true, true, true, true] ?_
                                              exact ih h
                                            · replace h := it_f hc h
                                              refine Ak_iconst 660 (d_Law_p12 23 659 (.iconst 0) 1 rfl) rfl (rk rfl) ?_
                                              cases h
                                              exact Ak_zret (Or.inl rfl) rfl (d_Law_p12 24 660 (.ireturn) 1 rfl)
                                          · replace h := it_f hc208 h
                                            by_cases hc219 : (and32 (X x3) 63) = 19
                                            · replace h := it_t hc219 h
                                              refine Ak_tableIn 661 19 hc219 (d_Law_p0 21 33 (.tableswitch 943 0 33 #[151, 214, 237, 250, 273, 296, 329, 362, 395, 418, 451, 464, 497, 510, 523, 536, 549, 582, 605, 628, 651, 674, 697, 710, 743, 756, 779, 802, 835, 848, 871, 884, 907, 920]) 151 rfl) (by decide) (by decide) rfl rfl ?_
                                              refine Ak_aload_n 662 1 (d_Law_p12 25 661 (.aload_n 1) 1 rfl) rfl rfl rfl ?_
                                              refine Ak_aload_n 663 0 (d_Law_p12 26 662 (.aload_n 0) 1 rfl) rfl rfl rfl ?_
                                              refine Ak_iload_n 664 3 (d_Law_p12 27 663 (.iload_n 3) 1 rfl) rfl rfl rfl ?_
                                              refine Ak_iconst 665 (d_Law_p12 28 664 (.iconst 1) 1 rfl) rfl (rk rfl) ?_
                                              refine Ak_iadd 666 (d_Law_p12 29 665 (.iadd) 1 rfl) rfl ?_
                                              obtain ⟨hs220, h⟩ := gd_some h
                                              refine Ak_sld 667 hs220 (d_Law_p13 0 666 (.iaload) 1 rfl) rfl ?_
                                              obtain ⟨hg224, h⟩ := gd_some h
                                              obtain ⟨r221, V222, h223, h⟩ := bnd_some h
                                              refine Ak_gV1 670 10 (c_SG_outcome h223) rfl hg224 clX12 rfl mok_SG_outcome lkM_Law_95 (d_Law_p13 1 667 (.invokevirtual 95) 3 rfl) rfl (by decide) (by decide) (Nat.le_of_ble_eq_true rfl) ?_
                                              refine Ak_aload_n 671 2 (d_Law_p13 2 670 (.aload_n 2) 1 rfl) rfl rfl rfl ?_
                                              refine Ak_aload_n 672 0 (d_Law_p13 3 671 (.aload_n 0) 1 rfl) rfl rfl rfl ?_
                                              refine Ak_iload_n 673 3 (d_Law_p13 4 672 (.iload_n 3) 1 rfl) rfl rfl rfl ?_
                                              refine Ak_iconst 674 (d_Law_p13 5 673 (.iconst 1) 1 rfl) rfl (rk rfl) ?_
                                              refine Ak_iadd 675 (d_Law_p13 6 674 (.iadd) 1 rfl) rfl ?_
                                              obtain ⟨hs225, h⟩ := gd_some h
                                              refine Ak_sld 676 hs225 (d_Law_p13 7 675 (.iaload) 1 rfl) rfl ?_
                                              obtain ⟨hg229, h⟩ := gd_some h
                                              obtain ⟨r226, V227, h228, h⟩ := bnd_some h
                                              refine Ak_gV1 679 11 (c_M_outcome h228) rfl hg229 clX13 rfl mok_M_outcome lkM_Law_98 (d_Law_p13 8 676 (.invokevirtual 98) 3 rfl) rfl (by decide) (by decide) (Nat.le_of_ble_eq_true rfl) ?_
                                              refine Ak_icmp_eq 976 682 (d_Law_p13 9 679 (.if_icmp .eq 297) 3 rfl) rfl rfl (fun hc => ?_) (fun hc => ?_)
                                              · replace h := it_t hc h
                                                refine Ak_iinc 979 (d_Law_p20 10 976 (.iinc 3 6) 3 rfl) rfl rfl (by decide) ?_
                                                refine Ak_goto 18 (d_Law_p20 11 979 (.goto (-961)) 3 rfl) rfl ?_
                                                refine Ak_keep [true, true, true, true] ?_
                                                exact ih h
                                              · replace h := it_f hc h
                                                refine Ak_iconst 683 (d_Law_p13 10 682 (.iconst 0) 1 rfl) rfl (rk rfl) ?_
                                                cases h
                                                exact Ak_zret (Or.inl rfl) rfl (d_Law_p13 11 683 (.ireturn) 1 rfl)
                                            · replace h := it_f hc219 h
                                              by_cases hc230 : (and32 (X x3) 63) = 20
                                              · replace h := it_t hc230 h
                                                refine Ak_tableIn 684 20 hc230 (d_Law_p0 21 33 (.tableswitch 943 0 33 #[151, 214, 237, 250, 273, 296, 329, 362, 395, 418, 451, 464, 497, 510, 523, 536, 549, 582, 605, 628, 651, 674, 697, 710, 743, 756, 779, 802, 835, 848, 871, 884, 907, 920]) 151 rfl) (by decide) (by decide) rfl rfl ?_
                                                refine Ak_aload_n 685 1 (d_Law_p13 12 684 (.aload_n 1) 1 rfl) rfl rfl rfl ?_
                                                refine Ak_aload_n 686 0 (d_Law_p13 13 685 (.aload_n 0) 1 rfl) rfl rfl rfl ?_
                                                refine Ak_iload_n 687 3 (d_Law_p13 14 686 (.iload_n 3) 1 rfl) rfl rfl rfl ?_
                                                refine Ak_iconst 688 (d_Law_p13 15 687 (.iconst 1) 1 rfl) rfl (rk rfl) ?_
                                                refine Ak_iadd 689 (d_Law_p13 16 688 (.iadd) 1 rfl) rfl ?_
                                                obtain ⟨hs231, h⟩ := gd_some h
                                                refine Ak_sld 690 hs231 (d_Law_p13 17 689 (.iaload) 1 rfl) rfl ?_
                                                obtain ⟨hg235, h⟩ := gd_some h
                                                obtain ⟨r232, V233, h234, h⟩ := bnd_some h
                                                refine Ak_gV1 693 10 (c_SG_turning h234) rfl hg235 clX12 rfl mok_SG_turning lkM_Law_99 (d_Law_p13 18 690 (.invokevirtual 99) 3 rfl) rfl (by decide) (by decide) (Nat.le_of_ble_eq_true rfl) ?_
                                                refine Ak_aload_n 694 2 (d_Law_p13 19 693 (.aload_n 2) 1 rfl) rfl rfl rfl ?_
                                                refine Ak_aload_n 695 0 (d_Law_p13 20 694 (.aload_n 0) 1 rfl) rfl rfl rfl ?_
                                                refine Ak_iload_n 696 3 (d_Law_p13 21 695 (.iload_n 3) 1 rfl) rfl rfl rfl ?_
                                                refine Ak_iconst 697 (d_Law_p13 22 696 (.iconst 1) 1 rfl) rfl (rk rfl) ?_
                                                refine Ak_iadd 698 (d_Law_p13 23 697 (.iadd) 1 rfl) rfl ?_
                                                obtain ⟨hs236, h⟩ := gd_some h
                                                refine Ak_sld 699 hs236 (d_Law_p13 24 698 (.iaload) 1 rfl) rfl ?_
                                                obtain ⟨hg240, h⟩ := gd_some h
                                                obtain ⟨r237, V238, h239, h⟩ := bnd_some h
                                                refine Ak_gV1 702 11 (c_M_turning h239) rfl hg240 clX13 rfl mok_M_turning lkM_Law_102 (d_Law_p13 25 699 (.invokevirtual 102) 3 rfl) rfl (by decide) (by decide) (Nat.le_of_ble_eq_true rfl) ?_
                                                refine Ak_icmp_eq 976 705 (d_Law_p13 26 702 (.if_icmp .eq 274) 3 rfl) rfl rfl (fun hc => ?_) (fun hc => ?_)
                                                · replace h := it_t hc h
                                                  refine Ak_iinc 979 (d_Law_p20 10 976 (.iinc 3 6) 3 rfl) rfl rfl (by decide) ?_
                                                  refine Ak_goto 18 (d_Law_p20 11 979 (.goto (-961)) 3 rfl) rfl ?_
                                                  refine Ak_keep [true, true, true, true] ?_
                                                  exact ih h
                                                · replace h := it_f hc h
                                                  refine Ak_iconst 706 (d_Law_p13 27 705 (.iconst 0) 1 rfl) rfl (rk rfl) ?_
                                                  cases h
                                                  exact Ak_zret (Or.inl rfl) rfl (d_Law_p13 28 706 (.ireturn) 1 rfl)
                                              · replace h := it_f hc230 h
                                                by_cases hc241 : (and32 (X x3) 63) = 21
                                                · replace h := it_t hc241 h
                                                  refine Ak_tableIn 707 21 hc241 (d_Law_p0 21 33 (.tableswitch 943 0 33 #[151, 214, 237, 250, 273, 296, 329, 362, 395, 418, 451, 464, 497, 510, 523, 536, 549, 582, 605, 628, 651, 674, 697, 710, 743, 756, 779, 802, 835, 848, 871, 884, 907, 920]) 151 rfl) (by decide) (by decide) rfl rfl ?_
                                                  refine Ak_aload_n 708 1 (d_Law_p13 29 707 (.aload_n 1) 1 rfl) rfl rfl rfl ?_
                                                  refine Ak_aload_n 709 0 (d_Law_p14 0 708 (.aload_n 0) 1 rfl) rfl rfl rfl ?_
                                                  refine Ak_iload_n 710 3 (d_Law_p14 1 709 (.iload_n 3) 1 rfl) rfl rfl rfl ?_
                                                  refine Ak_iconst 711 (d_Law_p14 2 710 (.iconst 1) 1 rfl) rfl (rk rfl) ?_
                                                  refine Ak_iadd 712 (d_Law_p14 3 711 (.iadd) 1 rfl) rfl ?_
                                                  obtain ⟨hs242, h⟩ := gd_some h
                                                  refine Ak_sld 713 hs242 (d_Law_p14 4 712 (.iaload) 1 rfl) rfl ?_
                                                  obtain ⟨hg246, h⟩ := gd_some h
                                                  obtain ⟨r243, V244, h245, h⟩ := bnd_some h
                                                  refine Ak_gV1 716 7 (c_SG_make h245) rfl hg246 clX12 rfl mok_SG_make lkM_Law_103 (d_Law_p14 5 713 (.invokevirtual 103) 3 rfl) rfl (by decide) (by decide) (Nat.le_of_ble_eq_true rfl) ?_
                                                  refine Ak_aload_n 717 2 (d_Law_p14 6 716 (.aload_n 2) 1 rfl) rfl rfl rfl ?_
                                                  refine Ak_aload_n 718 0 (d_Law_p14 7 717 (.aload_n 0) 1 rfl) rfl rfl rfl ?_
                                                  refine Ak_iload_n 719 3 (d_Law_p14 8 718 (.iload_n 3) 1 rfl) rfl rfl rfl ?_
                                                  refine Ak_iconst 720 (d_Law_p14 9 719 (.iconst 1) 1 rfl) rfl (rk rfl) ?_
                                                  refine Ak_iadd 721 (d_Law_p14 10 720 (.iadd) 1 rfl) rfl ?_
                                                  obtain ⟨hs247, h⟩ := gd_some h
                                                  refine Ak_sld 722 hs247 (d_Law_p14 11 721 (.iaload) 1 rfl) rfl ?_
                                                  obtain ⟨hg251, h⟩ := gd_some h
                                                  obtain ⟨r248, V249, h250, h⟩ := bnd_some h
                                                  refine Ak_gV1 725 5 (c_M_make h250) rfl hg251 clX13 rfl mok_M_make lkM_Law_106 (d_Law_p14 12 722 (.invokevirtual 106) 3 rfl) rfl (by decide) (by decide) (Nat.le_of_ble_eq_true rfl) ?_
                                                  refine Ak_icmp_eq 976 728 (d_Law_p14 13 725 (.if_icmp .eq 251) 3 rfl) rfl rfl (fun hc => ?_) (fun hc => ?_)
                                                  · replace h := it_t hc h
                                                    refine Ak_iinc 979 (d_Law_p20 10 976 (.iinc 3 6) 3 rfl) rfl rfl (by decide) ?_
                                                    refine Ak_goto 18 (d_Law_p20 11 979 (.goto (-961)) 3 rfl) rfl ?_
                                                    refine Ak_keep [true, true, true, true] ?_
                                                    exact ih h
                                                  · replace h := it_f hc h
                                                    refine Ak_iconst 729 (d_Law_p14 14 728 (.iconst 0) 1 rfl) rfl (rk rfl) ?_
                                                    cases h
                                                    exact Ak_zret (Or.inl rfl) rfl (d_Law_p14 15 729 (.ireturn) 1 rfl)
                                                · replace h := it_f hc241 h
                                                  by_cases hc252 : (and32 (X x3) 63) = 22
                                                  · replace h := it_t hc252 h
                                                    refine Ak_tableIn 730 22 hc252 (d_Law_p0 21 33 (.tableswitch 943 0 33 #[151, 214, 237, 250, 273, 296, 329, 362, 395, 418, 451, 464, 497, 510, 523, 536, 549, 582, 605, 628, 651, 674, 697, 710, 743, 756, 779, 802, 835, 848, 871, 884, 907, 920]) 151 rfl) (by decide) (by decide) rfl rfl ?_
                                                    refine Ak_aload_n 731 1 (d_Law_p14 16 730 (.aload_n 1) 1 rfl) rfl rfl rfl ?_
                                                    obtain ⟨hg256, h⟩ := gd_some h
                                                    obtain ⟨r253, V254, h255, h⟩ := bnd_some h
                                                    refine Ak_gV1 734 7 (c_SG_undo h255) rfl hg256 clX12 rfl mok_SG_undo lkM_Law_107 (d_Law_p14 17 731 (.invokevirtual 107) 3 rfl) rfl (by decide) (by decide) (Nat.le_of_ble_eq_true rfl) ?_
                                                    refine Ak_aload_n 735 2 (d_Law_p14 18 734 (.aload_n 2) 1 rfl) rfl rfl rfl ?_
                                                    obtain ⟨hg260, h⟩ := gd_some h
                                                    obtain ⟨r257, V258, h259, h⟩ := bnd_some h
                                                    refine Ak_gV1 738 5 (c_M_undo h259) rfl hg260 clX13 rfl mok_M_undo lkM_Law_111 (d_Law_p14 19 735 (.invokevirtual 111) 3 rfl) rfl (by decide) (by decide) (Nat.le_of_ble_eq_true rfl) ?_
                                                    refine Ak_icmp_eq 976 741 (d_Law_p14 20 738 (.if_icmp .eq 238) 3 rfl) rfl rfl (fun hc => ?_) (fun hc => ?_)
                                                    · replace h := it_t hc h
                                                      refine Ak_iinc 979 (d_Law_p20 10 976 (.iinc 3 6) 3 rfl) rfl rfl (by decide) ?_
                                                      refine Ak_goto 18 (d_Law_p20 11 979 (.goto (-961)) 3 rfl) rfl ?_
                                                      refine Ak_keep [true, true, true, true] ?_
                                                      exact ih h
                                                    · replace h := it_f hc h
                                                      refine Ak_iconst 742 (d_Law_p14 21 741 (.iconst 0) 1 rfl) rfl (rk rfl) ?_
                                                      cases h
                                                      exact Ak_zret (Or.inl rfl) rfl (d_Law_p14 22 742 (.ireturn) 1 rfl)
                                                  · replace h := it_f hc252 h
                                                    by_cases hc261 : (and32 (X x3) 63) = 23
                                                    · replace h := it_t hc261 h
                                                      refine Ak_tableIn 743 23 hc261 (d_Law_p0 21 33 (.tableswitch 943 0 33 #[151, 214, 237, 250, 273, 296, 329, 362, 395, 418, 451, 464, 497, 510, 523, 536, 549, 582, 605, 628, 651, 674, 697, 710, 743, 756, 779, 802, 835, 848, 871, 884, 907, 920]) 151 rfl) (by decide) (by decide) rfl rfl ?_
                                                      refine Ak_aload_n 744 1 (d_Law_p14 23 743 (.aload_n 1) 1 rfl) rfl rfl rfl ?_
                                                      refine Ak_aload_n 745 0 (d_Law_p14 24 744 (.aload_n 0) 1 rfl) rfl rfl rfl ?_
                                                      refine Ak_iload_n 746 3 (d_Law_p14 25 745 (.iload_n 3) 1 rfl) rfl rfl rfl ?_
                                                      refine Ak_iconst 747 (d_Law_p14 26 746 (.iconst 1) 1 rfl) rfl (rk rfl) ?_
                                                      refine Ak_iadd 748 (d_Law_p14 27 747 (.iadd) 1 rfl) rfl ?_
                                                      obtain ⟨hs262, h⟩ := gd_some h
                                                      refine Ak_sld 749 hs262 (d_Law_p14 28 748 (.iaload) 1 rfl) rfl ?_
                                                      refine Ak_aload_n 750 0 (d_Law_p14 29 749 (.aload_n 0) 1 rfl) rfl rfl rfl ?_
                                                      refine Ak_iload_n 751 3 (d_Law_p15 0 750 (.iload_n 3) 1 rfl) rfl rfl rfl ?_
                                                      refine Ak_iconst 752 (d_Law_p15 1 751 (.iconst 2) 1 rfl) rfl (rk rfl) ?_
                                                      refine Ak_iadd 753 (d_Law_p15 2 752 (.iadd) 1 rfl) rfl ?_
                                                      obtain ⟨hs263, h⟩ := gd_some h
                                                      refine Ak_sld 754 hs263 (d_Law_p15 3 753 (.iaload) 1 rfl) rfl ?_
                                                      obtain ⟨hg267, h⟩ := gd_some h
                                                      obtain ⟨r264, V265, h266, h⟩ := bnd_some h
                                                      refine Ak_gV1 757 3 (c_SG_kind h266) rfl hg267 clX12 rfl mok_SG_kind lkM_Law_112 (d_Law_p15 4 754 (.invokevirtual 112) 3 rfl) rfl (by decide) (by decide) (Nat.le_of_ble_eq_true rfl) ?_
                                                      refine Ak_aload_n 758 2 (d_Law_p15 5 757 (.aload_n 2) 1 rfl) rfl rfl rfl ?_
                                                      refine Ak_aload_n 759 0 (d_Law_p15 6 758 (.aload_n 0) 1 rfl) rfl rfl rfl ?_
                                                      refine Ak_iload_n 760 3 (d_Law_p15 7 759 (.iload_n 3) 1 rfl) rfl rfl rfl ?_
                                                      refine Ak_iconst 761 (d_Law_p15 8 760 (.iconst 1) 1 rfl) rfl (rk rfl) ?_
                                                      refine Ak_iadd 762 (d_Law_p15 9 761 (.iadd) 1 rfl) rfl ?_
                                                      obtain ⟨hs268, h⟩ := gd_some h
                                                      refine Ak_sld 763 hs268 (d_Law_p15 10 762 (.iaload) 1 rfl) rfl ?_
                                                      refine Ak_aload_n 764 0 (d_Law_p15 11 763 (.aload_n 0) 1 rfl) rfl rfl rfl ?_
                                                      refine Ak_iload_n 765 3 (d_Law_p15 12 764 (.iload_n 3) 1 rfl) rfl rfl rfl ?_
                                                      refine Ak_iconst 766 (d_Law_p15 13 765 (.iconst 2) 1 rfl) rfl (rk rfl) ?_
                                                      refine Ak_iadd 767 (d_Law_p15 14 766 (.iadd) 1 rfl) rfl ?_
                                                      obtain ⟨hs269, h⟩ := gd_some h
                                                      refine Ak_sld 768 hs269 (d_Law_p15 15 767 (.iaload) 1 rfl) rfl ?_
                                                      obtain ⟨hg273, h⟩ := gd_some h
                                                      obtain ⟨r270, V271, h272, h⟩ := bnd_some h
                                                      refine Ak_gV1 771 3 (c_M_kind h272) rfl hg273 clX13 rfl mok_M_kind lkM_Law_115 (d_Law_p15 16 768 (.invokevirtual 115) 3 rfl) rfl (by decide) (by decide) (Nat.le_of_ble_eq_true rfl) ?_
                                                      refine Ak_icmp_eq 976 774 (d_Law_p15 17 771 (.if_icmp .eq 205) 3 rfl) rfl rfl (fun hc => ?_) (fun hc => ?_)
                                                      · replace h := it_t hc h
                                                        refine Ak_iinc 979 (d_Law_p20 10 976 (.iinc 3 6) 3 rfl) rfl rfl (by decide) ?_
                                                        refine Ak_goto 18 (d_Law_p20 11 979 (.goto (-961)) 3 rfl) rfl ?_
                                                        refine Ak_keep [true, true, true, true] ?_
                                                        exact ih h
                                                      · replace h := it_f hc h
                                                        refine Ak_iconst 775 (d_Law_p15 18 774 (.iconst 0) 1 rfl) rfl (rk rfl) ?_
                                                        cases h
                                                        exact Ak_zret (Or.inl rfl) rfl (d_Law_p15 19 775 (.ireturn) 1 rfl)
                                                    · replace h := it_f hc261 h
                                                      by_cases hc274 : (and32 (X x3) 63) = 24
                                                      · replace h := it_t hc274 h
                                                        refine Ak_tableIn 776 24 hc274 (d_Law_p0 21 33 (.tableswitch 943 0 33 #[151, 214, 237, 250, 273, 296, 329, 362, 395, 418, 451, 464, 497, 510, 523, 536, 549, 582, 605, 628, 651, 674, 697, 710, 743, 756, 779, 802, 835, 848, 871, 884, 907, 920]) 151 rfl) (by decide) (by decide) rfl rfl ?_
                                                        refine Ak_aload_n 777 1 (d_Law_p15 20 776 (.aload_n 1) 1 rfl) rfl rfl rfl ?_
                                                        obtain ⟨hg278, h⟩ := gd_some h
                                                        obtain ⟨r275, V276, h277, h⟩ := bnd_some h
                                                        refine Ak_gV1 780 10 (c_SG_sunday h277) rfl hg278 clX12 rfl mok_SG_sunday lkM_Law_116 (d_Law_p15 21 777 (.invokevirtual 116) 3 rfl) rfl (by decide) (by decide) (Nat.le_of_ble_eq_true rfl) ?_
                                                        refine Ak_aload_n 781 2 (d_Law_p15 22 780 (.aload_n 2) 1 rfl) rfl rfl rfl ?_
                                                        obtain ⟨hg282, h⟩ := gd_some h
                                                        obtain ⟨r279, V280, h281, h⟩ := bnd_some h
                                                        refine Ak_gV1 784 13 (c_M_sunday h281) rfl hg282 clX13 rfl mok_M_sunday lkM_Law_119 (d_Law_p15 23 781 (.invokevirtual 119) 3 rfl) rfl (by decide) (by decide) (Nat.le_of_ble_eq_true rfl) ?_
                                                        refine Ak_icmp_eq 976 787 (d_Law_p15 24 784 (.if_icmp .eq 192) 3 rfl) rfl rfl (fun hc => ?_) (fun hc => ?_)
                                                        · replace h := it_t hc h
                                                          refine Ak_iinc 979 (d_Law_p20 10 976 (.iinc 3 6) 3 rfl) rfl rfl (by decide) ?_
                                                          refine Ak_goto 18 (d_Law_p20 11 979 (.goto (-961)) 3 rfl) rfl ?_
                                                          refine Ak_keep [true, true, true, true] ?_
                                                          exact ih h
                                                        · replace h := it_f hc h
                                                          refine Ak_iconst 788 (d_Law_p15 25 787 (.iconst 0) 1 rfl) rfl (rk rfl) ?_
                                                          cases h
                                                          exact Ak_zret (Or.inl rfl) rfl (d_Law_p15 26 788 (.ireturn) 1 rfl)
                                                      · replace h := it_f hc274 h
                                                        by_cases hc283 : (and32 (X x3) 63) = 25
                                                        · replace h := it_t hc283 h
                                                          refine Ak_tableIn 789 25 hc283 (d_Law_p0 21 33 (.tableswitch 943 0 33 #[151, 214, 237, 250, 273, 296, 329, 362, 395, 418, 451, 464, 497, 510, 523, 536, 549, 582, 605, 628, 651, 674, 697, 710, 743, 756, 779, 802, 835, 848, 871, 884, 907, 920]) 151 rfl) (by decide) (by decide) rfl rfl ?_
                                                          refine Ak_aload_n 790 1 (d_Law_p15 27 789 (.aload_n 1) 1 rfl) rfl rfl rfl ?_
                                                          refine Ak_aload_n 791 0 (d_Law_p15 28 790 (.aload_n 0) 1 rfl) rfl rfl rfl ?_
                                                          refine Ak_iload_n 792 3 (d_Law_p15 29 791 (.iload_n 3) 1 rfl) rfl rfl rfl ?_
                                                          refine Ak_iconst 793 (d_Law_p16 0 792 (.iconst 1) 1 rfl) rfl (rk rfl) ?_
                                                          refine Ak_iadd 794 (d_Law_p16 1 793 (.iadd) 1 rfl) rfl ?_
                                                          obtain ⟨hs284, h⟩ := gd_some h
                                                          refine Ak_sld 795 hs284 (d_Law_p16 2 794 (.iaload) 1 rfl) rfl ?_
                                                          obtain ⟨hg288, h⟩ := gd_some h
                                                          obtain ⟨r285, V286, h287, h⟩ := bnd_some h
                                                          refine Ak_gV1 798 10 (c_SG_would h287) rfl hg288 clX12 rfl mok_SG_would lkM_Law_120 (d_Law_p16 3 795 (.invokevirtual 120) 3 rfl) rfl (by decide) (by decide) (Nat.le_of_ble_eq_true rfl) ?_
                                                          refine Ak_aload_n 799 2 (d_Law_p16 4 798 (.aload_n 2) 1 rfl) rfl rfl rfl ?_
                                                          refine Ak_aload_n 800 0 (d_Law_p16 5 799 (.aload_n 0) 1 rfl) rfl rfl rfl ?_
                                                          refine Ak_iload_n 801 3 (d_Law_p16 6 800 (.iload_n 3) 1 rfl) rfl rfl rfl ?_
                                                          refine Ak_iconst 802 (d_Law_p16 7 801 (.iconst 1) 1 rfl) rfl (rk rfl) ?_
                                                          refine Ak_iadd 803 (d_Law_p16 8 802 (.iadd) 1 rfl) rfl ?_
                                                          obtain ⟨hs289, h⟩ := gd_some h
                                                          refine Ak_sld 804 hs289 (d_Law_p16 9 803 (.iaload) 1 rfl) rfl ?_
                                                          obtain ⟨hg293, h⟩ := gd_some h
                                                          obtain ⟨r290, V291, h292, h⟩ := bnd_some h
                                                          refine Ak_gV1 807 12 (c_M_would h292) rfl hg293 clX13 rfl mok_M_would lkM_Law_123 (d_Law_p16 10 804 (.invokevirtual 123) 3 rfl) rfl (by decide) (by decide) (Nat.le_of_ble_eq_true rfl) ?_
                                                          refine Ak_icmp_eq 976 810 (d_Law_p16 11 807 (.if_icmp .eq 169) 3 rfl) rfl rfl (fun hc => ?_) (fun hc => ?_)
                                                          · replace h := it_t hc h
                                                            refine Ak_iinc 979 (d_Law_p20 10 976 (.iinc 3 6) 3 rfl) rfl rfl (by decide) ?_
                                                            refine Ak_goto 18 (d_Law_p20 11 979 (.goto (-961)) 3 rfl) rfl ?_
                                                            refine Ak_keep [true, true, true, true] ?_
                                                            exact ih h
                                                          · replace h := it_f hc h
                                                            refine Ak_iconst 811 (d_Law_p16 12 810 (.iconst 0) 1 rfl) rfl (rk rfl) ?_
                                                            cases h
                                                            exact Ak_zret (Or.inl rfl) rfl (d_Law_p16 13 811 (.ireturn) 1 rfl)
                                                        · replace h := it_f hc283 h
                                                          by_cases hc294 : (and32 (X x3) 63) = 26
                                                          · replace h := it_t hc294 h
                                                            refine Ak_tableIn 812 26 hc294 (d_Law_p0 21 33 (.tableswitch 943 0 33 #[151, 214, 237, 250, 273, 296, 329, 362, 395, 418, 451, 464, 497, 510, 523, 536, 549, 582, 605, 628, 651, 674, 697, 710, 743, 756, 779, 802, 835, 848, 871, 884, 907, 920]) 151 rfl) (by decide) (by decide) rfl rfl ?_
                                                            refine Ak_aload_n 813 1 (d_Law_p16 14 812 (.aload_n 1) 1 rfl) rfl rfl rfl ?_
                                                            refine Ak_aload_n 814 0 (d_Law_p16 15 813 (.aload_n 0) 1 rfl) rfl rfl rfl ?_
                                                            refine Ak_iload_n 815 3 (d_Law_p16 16 814 (.iload_n 3) 1 rfl) rfl rfl rfl ?_
                                                            refine Ak_iconst 816 (d_Law_p16 17 815 (.iconst 1) 1 rfl) rfl (rk rfl) ?_
                                                            refine Ak_iadd 817 (d_Law_p16 18 816 (.iadd) 1 rfl) rfl ?_
                                                            obtain ⟨hs295, h⟩ := gd_some h
                                                            refine Ak_sld 818 hs295 (d_Law_p16 19 817 (.iaload) 1 rfl) rfl ?_
                                                            obtain ⟨hg299, h⟩ := gd_some h
                                                            obtain ⟨r296, V297, h298, h⟩ := bnd_some h
                                                            refine Ak_gV1 821 10 (c_SG_pays h298) rfl hg299 clX12 rfl mok_SG_pays lkM_Law_124 (d_Law_p16 20 818 (.invokevirtual 124) 3 rfl) rfl (by decide) (by decide) (Nat.le_of_ble_eq_true rfl) ?_
                                                            refine Ak_aload_n 822 2 (d_Law_p16 21 821 (.aload_n 2) 1 rfl) rfl rfl rfl ?_
                                                            refine Ak_aload_n 823 0 (d_Law_p16 22 822 (.aload_n 0) 1 rfl) rfl rfl rfl ?_
                                                            refine Ak_iload_n 824 3 (d_Law_p16 23 823 (.iload_n 3) 1 rfl) rfl rfl rfl ?_
                                                            refine Ak_iconst 825 (d_Law_p16 24 824 (.iconst 1) 1 rfl) rfl (rk rfl) ?_
                                                            refine Ak_iadd 826 (d_Law_p16 25 825 (.iadd) 1 rfl) rfl ?_
                                                            obtain ⟨hs300, h⟩ := gd_some h
                                                            refine Ak_sld 827 hs300 (d_Law_p16 26 826 (.iaload) 1 rfl) rfl ?_
                                                            obtain ⟨hg304, h⟩ := gd_some h
                                                            obtain ⟨r301, V302, h303, h⟩ := bnd_some h
                                                            refine Ak_gV1 830 13 (c_M_pays h303) rfl hg304 clX13 rfl mok_M_pays lkM_Law_127 (d_Law_p16 27 827 (.invokevirtual 127) 3 rfl) rfl (by decide) (by decide) (Nat.le_of_ble_eq_true rfl) ?_
                                                            refine Ak_icmp_eq 976 833 (d_Law_p16 28 830 (.if_icmp .eq 146) 3 rfl) rfl rfl (fun hc => ?_) (fun hc => ?_)
                                                            · replace h := it_t hc h
                                                              refine Ak_iinc 979 (d_Law_p20 10 976 (.iinc 3 6) 3 rfl) rfl rfl (by decide) ?_
                                                              refine Ak_goto 18 (d_Law_p20 11 979 (.goto (-961)) 3 rfl) rfl ?_
                                                              refine Ak_keep [true, true, true, true] ?_
                                                              exact ih h
                                                            · replace h := it_f hc h
                                                              refine Ak_iconst 834 (d_Law_p16 29 833 (.iconst 0) 1 rfl) rfl (rk rfl) ?_
                                                              cases h
                                                              exact Ak_zret (Or.inl rfl) rfl (d_Law_p17 0 834 (.ireturn) 1 rfl)
                                                          · replace h := it_f hc294 h
                                                            by_cases hc305 : (and32 (X x3) 63) = 27
                                                            · replace h := it_t hc305 h
                                                              refine Ak_tableIn 835 27 hc305 (d_Law_p0 21 33 (.tableswitch 943 0 33 #[151, 214, 237, 250, 273, 296, 329, 362, 395, 418, 451, 464, 497, 510, 523, 536, 549, 582, 605, 628, 651, 674, 697, 710, 743, 756, 779, 802, 835, 848, 871, 884, 907, 920]) 151 rfl) (by decide) (by decide) rfl rfl ?_
                                                              refine Ak_aload_n 836 1 (d_Law_p17 1 835 (.aload_n 1) 1 rfl) rfl rfl rfl ?_
                                                              refine Ak_aload_n 837 0 (d_Law_p17 2 836 (.aload_n 0) 1 rfl) rfl rfl rfl ?_
                                                              refine Ak_iload_n 838 3 (d_Law_p17 3 837 (.iload_n 3) 1 rfl) rfl rfl rfl ?_
                                                              refine Ak_iconst 839 (d_Law_p17 4 838 (.iconst 1) 1 rfl) rfl (rk rfl) ?_
                                                              refine Ak_iadd 840 (d_Law_p17 5 839 (.iadd) 1 rfl) rfl ?_
                                                              obtain ⟨hs306, h⟩ := gd_some h
                                                              refine Ak_sld 841 hs306 (d_Law_p17 6 840 (.iaload) 1 rfl) rfl ?_
                                                              refine Ak_aload_n 842 0 (d_Law_p17 7 841 (.aload_n 0) 1 rfl) rfl rfl rfl ?_
                                                              refine Ak_iload_n 843 3 (d_Law_p17 8 842 (.iload_n 3) 1 rfl) rfl rfl rfl ?_
                                                              refine Ak_iconst 844 (d_Law_p17 9 843 (.iconst 2) 1 rfl) rfl (rk rfl) ?_
                                                              refine Ak_iadd 845 (d_Law_p17 10 844 (.iadd) 1 rfl) rfl ?_
                                                              obtain ⟨hs307, h⟩ := gd_some h
                                                              refine Ak_sld 846 hs307 (d_Law_p17 11 845 (.iaload) 1 rfl) rfl ?_
                                                              obtain ⟨hg311, h⟩ := gd_some h
                                                              obtain ⟨r308, V309, h310, h⟩ := bnd_some h
                                                              refine Ak_gV1 849 10 (c_SG_ring h310) rfl hg311 clX12 rfl mok_SG_ring lkM_Law_128 (d_Law_p17 12 846 (.invokevirtual 128) 3 rfl) rfl (by decide) (by decide) (Nat.le_of_ble_eq_true rfl) ?_
                                                              refine Ak_aload_n 850 2 (d_Law_p17 13 849 (.aload_n 2) 1 rfl) rfl rfl rfl ?_
                                                              refine Ak_aload_n 851 0 (d_Law_p17 14 850 (.aload_n 0) 1 rfl) rfl rfl rfl ?_
                                                              refine Ak_iload_n 852 3 (d_Law_p17 15 851 (.iload_n 3) 1 rfl) rfl rfl rfl ?_
                                                              refine Ak_iconst 853 (d_Law_p17 16 852 (.iconst 1) 1 rfl) rfl (rk rfl) ?_
                                                              refine Ak_iadd 854 (d_Law_p17 17 853 (.iadd) 1 rfl) rfl ?_
                                                              obtain ⟨hs312, h⟩ := gd_some h
                                                              refine Ak_sld 855 hs312 (d_Law_p17 18 854 (.iaload) 1 rfl) rfl ?_
                                                              refine Ak_aload_n 856 0 (d_Law_p17 19 855 (.aload_n 0) 1 rfl) rfl rfl rfl ?_
                                                              refine Ak_iload_n 857 3 (d_Law_p17 20 856 (.iload_n 3) 1 rfl) rfl rfl rfl ?_
                                                              refine Ak_iconst 858 (d_Law_p17 21 857 (.iconst 2) 1 rfl) rfl (rk rfl) ?_
                                                              refine Ak_iadd 859 (d_Law_p17 22 858 (.iadd) 1 rfl) rfl ?_
                                                              obtain ⟨hs313, h⟩ := gd_some h
                                                              refine Ak_sld 860 hs313 (d_Law_p17 23 859 (.iaload) 1 rfl) rfl ?_
                                                              obtain ⟨hg317, h⟩ := gd_some h
                                                              obtain ⟨r314, V315, h316, h⟩ := bnd_some h
                                                              refine Ak_gV1 863 13 (c_M_ring h316) rfl hg317 clX13 rfl mok_M_ring lkM_Law_131 (d_Law_p17 24 860 (.invokevirtual 131) 3 rfl) rfl (by decide) (by decide) (Nat.le_of_ble_eq_true rfl) ?_
                                                              refine Ak_icmp_eq 976 866 (d_Law_p17 25 863 (.if_icmp .eq 113) 3 rfl) rfl rfl (fun hc => ?_) (fun hc => ?_)
                                                              · replace h := it_t hc h
                                                                refine Ak_iinc 979 (d_Law_p20 10 976 (.iinc 3 6) 3 rfl) rfl rfl (by decide) ?_
                                                                refine Ak_goto 18 (d_Law_p20 11 979 (.goto (-961)) 3 rfl) rfl ?_
                                                                refine Ak_keep [true, true, true, true] ?_
                                                                exact ih h
                                                              · replace h := it_f hc h
                                                                refine Ak_iconst 867 (d_Law_p17 26 866 (.iconst 0) 1 rfl) rfl (rk rfl) ?_
                                                                cases h
                                                                exact Ak_zret (Or.inl rfl) rfl (d_Law_p17 27 867 (.ireturn) 1 rfl)
                                                            · replace h := it_f hc305 h
                                                              by_cases hc318 : (and32 (X x3) 63) = 28
                                                              · replace h := it_t hc318 h
                                                                refine Ak_tableIn 868 28 hc318 (d_Law_p0 21 33 (.tableswitch 943 0 33 #[151, 214, 237, 250, 273, 296, 329, 362, 395, 418, 451, 464, 497, 510, 523, 536, 549, 582, 605, 628, 651, 674, 697, 710, 743, 756, 779, 802, 835, 848, 871, 884, 907, 920]) 151 rfl) (by decide) (by decide) rfl rfl ?_
                                                                refine Ak_aload_n 869 1 (d_Law_p17 28 868 (.aload_n 1) 1 rfl) rfl rfl rfl ?_
                                                                obtain ⟨hg322, h⟩ := gd_some h
                                                                obtain ⟨r319, V320, h321, h⟩ := bnd_some h
                                                                refine Ak_gV1 872 3 (c_SG_spring h321) rfl hg322 clX12 rfl mok_SG_spring lkM_Law_132 (d_Law_p17 29 869 (.invokevirtual 132) 3 rfl) rfl (by decide) (by decide) (Nat.le_of_ble_eq_true rfl) ?_
                                                                refine Ak_aload_n 873 2 (d_Law_p18 0 872 (.aload_n 2) 1 rfl) rfl rfl rfl ?_
                                                                obtain ⟨hg326, h⟩ := gd_some h
                                                                obtain ⟨r323, V324, h325, h⟩ := bnd_some h
                                                                refine Ak_gV1 876 3 (c_M_spring h325) rfl hg326 clX13 rfl mok_M_spring lkM_Law_135 (d_Law_p18 1 873 (.invokevirtual 135) 3 rfl) rfl (by decide) (by decide) (Nat.le_of_ble_eq_true rfl) ?_
                                                                refine Ak_icmp_eq 976 879 (d_Law_p18 2 876 (.if_icmp .eq 100) 3 rfl) rfl rfl (fun hc => ?_) (fun hc => ?_)
                                                                · replace h := it_t hc h
                                                                  refine Ak_iinc 979 (d_Law_p20 10 976 (.iinc 3 6) 3 rfl) rfl rfl (by decide) ?_
                                                                  refine Ak_goto 18 (d_Law_p20 11 979 (.goto (-961)) 3 rfl) rfl ?_
                                                                  refine Ak_keep [true, true, true, true] ?_
                                                                  exact ih h
                                                                · replace h := it_f hc h
                                                                  refine Ak_iconst 880 (d_Law_p18 3 879 (.iconst 0) 1 rfl) rfl (rk rfl) ?_
                                                                  cases h
                                                                  exact Ak_zret (Or.inl rfl) rfl (d_Law_p18 4 880 (.ireturn) 1 rfl)
                                                              · replace h := it_f hc318 h
                                                                by_cases hc327 : (and32 (X x3) 63) = 29
                                                                · replace h := it_t hc327 h
                                                                  refine Ak_tableIn 881 29 hc327 (d_Law_p0 21 33 (.tableswitch 943 0 33 #[151, 214, 237, 250, 273, 296, 329, 362, 395, 418, 451, 464, 497, 510, 523, 536, 549, 582, 605, 628, 651, 674, 697, 710, 743, 756, 779, 802, 835, 848, 871, 884, 907, 920]) 151 rfl) (by decide) (by decide) rfl rfl ?_
                                                                  refine Ak_aload_n 882 1 (d_Law_p18 5 881 (.aload_n 1) 1 rfl) rfl rfl rfl ?_
                                                                  refine Ak_aload_n 883 0 (d_Law_p18 6 882 (.aload_n 0) 1 rfl) rfl rfl rfl ?_
                                                                  refine Ak_iload_n 884 3 (d_Law_p18 7 883 (.iload_n 3) 1 rfl) rfl rfl rfl ?_
                                                                  refine Ak_iconst 885 (d_Law_p18 8 884 (.iconst 1) 1 rfl) rfl (rk rfl) ?_
                                                                  refine Ak_iadd 886 (d_Law_p18 9 885 (.iadd) 1 rfl) rfl ?_
                                                                  obtain ⟨hs328, h⟩ := gd_some h
                                                                  refine Ak_sld 887 hs328 (d_Law_p18 10 886 (.iaload) 1 rfl) rfl ?_
                                                                  obtain ⟨hg332, h⟩ := gd_some h
                                                                  obtain ⟨r329, V330, h331, h⟩ := bnd_some h
                                                                  refine Ak_gV1 890 9 (c_SG_parts h331) rfl hg332 clX12 rfl mok_SG_parts lkM_Law_136 (d_Law_p18 11 887 (.invokevirtual 136) 3 rfl) rfl (by decide) (by decide) (Nat.le_of_ble_eq_true rfl) ?_
                                                                  refine Ak_aload_n 891 2 (d_Law_p18 12 890 (.aload_n 2) 1 rfl) rfl rfl rfl ?_
                                                                  refine Ak_aload_n 892 0 (d_Law_p18 13 891 (.aload_n 0) 1 rfl) rfl rfl rfl ?_
                                                                  refine Ak_iload_n 893 3 (d_Law_p18 14 892 (.iload_n 3) 1 rfl) rfl rfl rfl ?_
                                                                  refine Ak_iconst 894 (d_Law_p18 15 893 (.iconst 1) 1 rfl) rfl (rk rfl) ?_
                                                                  refine Ak_iadd 895 (d_Law_p18 16 894 (.iadd) 1 rfl) rfl ?_
                                                                  obtain ⟨hs333, h⟩ := gd_some h
                                                                  refine Ak_sld 896 hs333 (d_Law_p18 17 895 (.iaload) 1 rfl) rfl ?_
                                                                  obtain ⟨hg337, h⟩ := gd_some h
                                                                  obtain ⟨r334, V335, h336, h⟩ := bnd_some h
                                                                  refine Ak_gV1 899 10 (c_M_parts h336) rfl hg337 clX13 rfl mok_M_parts lkM_Law_139 (d_Law_p18 18 896 (.invokevirtual 139) 3 rfl) rfl (by decide) (by decide) (Nat.le_of_ble_eq_true rfl) ?_
                                                                  refine Ak_icmp_eq 976 902 (d_Law_p18 19 899 (.if_icmp .eq 77) 3 rfl) rfl rfl (fun hc => ?_) (fun hc => ?_)
                                                                  · replace h := it_t hc h
                                                                    refine Ak_iinc 979 (d_Law_p20 10 976 (.iinc 3 6) 3 rfl) rfl rfl (by decide) ?_
                                                                    refine Ak_goto 18 (d_Law_p20 11 979 (.goto (-961)) 3 rfl) rfl ?_
                                                                    refine Ak_keep [true, true, true, true] ?_
                                                                    exact ih h
                                                                  · replace h := it_f hc h
                                                                    refine Ak_iconst 903 (d_Law_p18 20 902 (.iconst 0) 1 rfl) rfl (rk rfl) ?_
                                                                    cases h
                                                                    exact Ak_zret (Or.inl rfl) rfl (d_Law_p18 21 903 (.ireturn) 1 rfl)
                                                                · replace h := it_f hc327 h
                                                                  by_cases hc338 : (and32 (X x3) 63) = 30
                                                                  · replace h := it_t hc338 h
                                                                    refine Ak_tableIn 904 30 hc338 (d_Law_p0 21 33 (.tableswitch 943 0 33 #[151, 214, 237, 250, 273, 296, 329, 362, 395, 418, 451, 464, 497, 510, 523, 536, 549, 582, 605, 628, 651, 674, 697, 710, 743, 756, 779, 802, 835, 848, 871, 884, 907, 920]) 151 rfl) (by decide) (by decide) rfl rfl ?_
                                                                    refine Ak_aload_n 905 1 (d_Law_p18 22 904 (.aload_n 1) 1 rfl) rfl rfl rfl ?_
                                                                    obtain ⟨hg342, h⟩ := gd_some h
                                                                    obtain ⟨r339, V340, h341, h⟩ := bnd_some h
                                                                    refine Ak_gV1 908 5 (c_SG_image h341) rfl hg342 clX12 rfl mok_SG_image lkM_Law_140 (d_Law_p18 23 905 (.invokevirtual 140) 3 rfl) rfl (by decide) (by decide) (Nat.le_of_ble_eq_true rfl) ?_
                                                                    refine Ak_aload_n 909 2 (d_Law_p18 24 908 (.aload_n 2) 1 rfl) rfl rfl rfl ?_
                                                                    obtain ⟨hg346, h⟩ := gd_some h
                                                                    obtain ⟨r343, V344, h345, h⟩ := bnd_some h
                                                                    refine Ak_gV1 912 3 (c_M_image h345) rfl hg346 clX13 rfl mok_M_image lkM_Law_143 (d_Law_p18 25 909 (.invokevirtual 143) 3 rfl) rfl (by decide) (by decide) (Nat.le_of_ble_eq_true rfl) ?_
                                                                    refine Ak_icmp_eq 976 915 (d_Law_p18 26 912 (.if_icmp .eq 64) 3 rfl) rfl rfl (fun hc => ?_) (fun hc => ?_)
                                                                    · replace h := it_t hc h
                                                                      refine Ak_iinc 979 (d_Law_p20 10 976 (.iinc 3 6) 3 rfl) rfl rfl (by decide) ?_
                                                                      refine Ak_goto 18 (d_Law_p20 11 979 (.goto (-961)) 3 rfl) rfl ?_
                                                                      refine Ak_keep [true, true, true, true] ?_
                                                                      exact ih h
                                                                    · replace h := it_f hc h
                                                                      refine Ak_iconst 916 (d_Law_p18 27 915 (.iconst 0) 1 rfl) rfl (rk rfl) ?_
                                                                      cases h
                                                                      exact Ak_zret (Or.inl rfl) rfl (d_Law_p18 28 916 (.ireturn) 1 rfl)
                                                                  · replace h := it_f hc338 h
                                                                    by_cases hc347 : (and32 (X x3) 63) = 31
                                                                    · replace h := it_t hc347 h
                                                                      refine Ak_tableIn 917 31 hc347 (d_Law_p0 21 33 (.tableswitch 943 0 33 #[151, 214, 237, 250, 273, 296, 329, 362, 395, 418, 451, 464, 497, 510, 523, 536, 549, 582, 605, 628, 651, 674, 697, 710, 743, 756, 779, 802, 835, 848, 871, 884, 907, 920]) 151 rfl) (by decide) (by decide) rfl rfl ?_
                                                                      refine Ak_aload_n 918 1 (d_Law_p18 29 917 (.aload_n 1) 1 rfl) rfl rfl rfl ?_
                                                                      refine Ak_aload_n 919 0 (d_Law_p19 0 918 (.aload_n 0) 1 rfl) rfl rfl rfl ?_
                                                                      refine Ak_iload_n 920 3 (d_Law_p19 1 919 (.iload_n 3) 1 rfl) rfl rfl rfl ?_
                                                                      refine Ak_iconst 921 (d_Law_p19 2 920 (.iconst 1) 1 rfl) rfl (rk rfl) ?_
                                                                      refine Ak_iadd 922 (d_Law_p19 3 921 (.iadd) 1 rfl) rfl ?_
                                                                      obtain ⟨hs348, h⟩ := gd_some h
                                                                      refine Ak_sld 923 hs348 (d_Law_p19 4 922 (.iaload) 1 rfl) rfl ?_
                                                                      obtain ⟨hg352, h⟩ := gd_some h
                                                                      obtain ⟨r349, V350, h351, h⟩ := bnd_some h
                                                                      refine Ak_gV1 926 3 (c_SG_octet h351) rfl hg352 clX12 rfl mok_SG_octet lkM_Law_144 (d_Law_p19 5 923 (.invokevirtual 144) 3 rfl) rfl (by decide) (by decide) (Nat.le_of_ble_eq_true rfl) ?_
                                                                      refine Ak_aload_n 927 2 (d_Law_p19 6 926 (.aload_n 2) 1 rfl) rfl rfl rfl ?_
                                                                      refine Ak_aload_n 928 0 (d_Law_p19 7 927 (.aload_n 0) 1 rfl) rfl rfl rfl ?_
                                                                      refine Ak_iload_n 929 3 (d_Law_p19 8 928 (.iload_n 3) 1 rfl) rfl rfl rfl ?_
                                                                      refine Ak_iconst 930 (d_Law_p19 9 929 (.iconst 1) 1 rfl) rfl (rk rfl) ?_
                                                                      refine Ak_iadd 931 (d_Law_p19 10 930 (.iadd) 1 rfl) rfl ?_
                                                                      obtain ⟨hs353, h⟩ := gd_some h
                                                                      refine Ak_sld 932 hs353 (d_Law_p19 11 931 (.iaload) 1 rfl) rfl ?_
                                                                      obtain ⟨hg357, h⟩ := gd_some h
                                                                      obtain ⟨r354, V355, h356, h⟩ := bnd_some h
                                                                      refine Ak_gV1 935 2 (c_M_octet h356) rfl hg357 clX13 rfl mok_M_octet lkM_Law_147 (d_Law_p19 12 932 (.invokevirtual 147) 3 rfl) rfl (by decide) (by decide) (Nat.le_of_ble_eq_true rfl) ?_
                                                                      refine Ak_icmp_eq 976 938 (d_Law_p19 13 935 (.if_icmp .eq 41) 3 rfl) rfl rfl (fun hc => ?_) (fun hc => ?_)
                                                                      · replace h := it_t hc h
                                                                        refine Ak_iinc 979 (d_Law_p20 10 976 (.iinc 3 6) 3 rfl) rfl rfl (by decide) ?_
                                                                        refine Ak_goto 18 (d_Law_p20 11 979 (.goto (-961)) 3 rfl) rfl ?_
                                                                        refine Ak_keep [true, true, true, true] ?_
                                                                        exact ih h
                                                                      · replace h := it_f hc h
                                                                        refine Ak_iconst 939 (d_Law_p19 14 938 (.iconst 0) 1 rfl) rfl (rk rfl) ?_
                                                                        cases h
                                                                        exact Ak_zret (Or.inl rfl) rfl (d_Law_p19 15 939 (.ireturn) 1 rfl)
                                                                    · replace h := it_f hc347 h
                                                                      by_cases hc358 : (and32 (X x3) 63) = 32
                                                                      · replace h := it_t hc358 h
                                                                        refine Ak_tableIn 940 32 hc358 (d_Law_p0 21 33 (.tableswitch 943 0 33 #[151, 214, 237, 250, 273, 296, 329, 362, 395, 418, 451, 464, 497, 510, 523, 536, 549, 582, 605, 628, 651, 674, 697, 710, 743, 756, 779, 802, 835, 848, 871, 884, 907, 920]) 151 rfl) (by decide) (by decide) rfl rfl ?_
                                                                        refine Ak_aload_n 941 1 (d_Law_p19 16 940 (.aload_n 1) 1 rfl) rfl rfl rfl ?_
                                                                        obtain ⟨hg362, h⟩ := gd_some h
                                                                        obtain ⟨r359, V360, h361, h⟩ := bnd_some h
                                                                        refine Ak_gV1 944 8 (c_SG_on h361) rfl hg362 clX12 rfl mok_SG_on lkM_Law_148 (d_Law_p19 17 941 (.invokevirtual 148) 3 rfl) rfl (by decide) (by decide) (Nat.le_of_ble_eq_true rfl) ?_
                                                                        refine Ak_aload_n 945 2 (d_Law_p19 18 944 (.aload_n 2) 1 rfl) rfl rfl rfl ?_
                                                                        obtain ⟨hg366, h⟩ := gd_some h
                                                                        obtain ⟨r363, V364, h365, h⟩ := bnd_some h
                                                                        refine Ak_gV1 948 5 (c_M_on h365) rfl hg366 clX13 rfl mok_M_on lkM_Law_151 (d_Law_p19 19 945 (.invokevirtual 151) 3 rfl) rfl (by decide) (by decide) (Nat.le_of_ble_eq_true rfl) ?_
                                                                        refine Ak_icmp_eq 976 951 (d_Law_p19 20 948 (.if_icmp .eq 28) 3 rfl) rfl rfl (fun hc => ?_) (fun hc => ?_)
                                                                        · replace h := it_t hc h
                                                                          refine Ak_iinc 979 (d_Law_p20 10 976 (.iinc 3 6) 3 rfl) rfl rfl (by decide) ?_
                                                                          refine Ak_goto 18 (d_Law_p20 11 979 (.goto (-961)) 3 rfl) rfl ?_
                                                                          refine Ak_keep [true, true, true, true] ?_
                                                                          exact ih h
                                                                        · replace h := it_f hc h
                                                                          refine Ak_iconst 952 (d_Law_p19 21 951 (.iconst 0) 1 rfl) rfl (rk rfl) ?_
                                                                          cases h
                                                                          exact Ak_zret (Or.inl rfl) rfl (d_Law_p19 22 952 (.ireturn) 1 rfl)
                                                                      · replace h := it_f hc358 h
                                                                        by_cases hc367 : (and32 (X x3) 63) = 33
                                                                        · replace h := it_t hc367 h
                                                                          refine Ak_tableIn 953 33 hc367 (d_Law_p0 21 33 (.tableswitch 943 0 33 #[151, 214, 237, 250, 273, 296, 329, 362, 395, 418, 451, 464, 497, 510, 523, 536, 549, 582, 605, 628, 651, 674, 697, 710, 743, 756, 779, 802, 835, 848, 871, 884, 907, 920]) 151 rfl) (by decide) (by decide) rfl rfl ?_
                                                                          refine Ak_aload_n 954 1 (d_Law_p19 23 953 (.aload_n 1) 1 rfl) rfl rfl rfl ?_
                                                                          refine Ak_aload_n 955 0 (d_Law_p19 24 954 (.aload_n 0) 1 rfl) rfl rfl rfl ?_
                                                                          refine Ak_iload_n 956 3 (d_Law_p19 25 955 (.iload_n 3) 1 rfl) rfl rfl rfl ?_
                                                                          refine Ak_iconst 957 (d_Law_p19 26 956 (.iconst 1) 1 rfl) rfl (rk rfl) ?_
                                                                          refine Ak_iadd 958 (d_Law_p19 27 957 (.iadd) 1 rfl) rfl ?_
                                                                          obtain ⟨hs368, h⟩ := gd_some h
                                                                          refine Ak_sld 959 hs368 (d_Law_p19 28 958 (.iaload) 1 rfl) rfl ?_
                                                                          obtain ⟨hg372, h⟩ := gd_some h
                                                                          obtain ⟨r369, V370, h371, h⟩ := bnd_some h
                                                                          refine Ak_gV1 962 2 (c_SG_status h371) rfl hg372 clX12 rfl mok_SG_status lkM_Law_152 (d_Law_p19 29 959 (.invokevirtual 152) 3 rfl) rfl (by decide) (by decide) (Nat.le_of_ble_eq_true rfl) ?_
                                                                          refine Ak_aload_n 963 2 (d_Law_p20 0 962 (.aload_n 2) 1 rfl) rfl rfl rfl ?_
                                                                          refine Ak_aload_n 964 0 (d_Law_p20 1 963 (.aload_n 0) 1 rfl) rfl rfl rfl ?_
                                                                          refine Ak_iload_n 965 3 (d_Law_p20 2 964 (.iload_n 3) 1 rfl) rfl rfl rfl ?_
                                                                          refine Ak_iconst 966 (d_Law_p20 3 965 (.iconst 1) 1 rfl) rfl (rk rfl) ?_
                                                                          refine Ak_iadd 967 (d_Law_p20 4 966 (.iadd) 1 rfl) rfl ?_
                                                                          obtain ⟨hs373, h⟩ := gd_some h
                                                                          refine Ak_sld 968 hs373 (d_Law_p20 5 967 (.iaload) 1 rfl) rfl ?_
                                                                          obtain ⟨hg377, h⟩ := gd_some h
                                                                          obtain ⟨r374, V375, h376, h⟩ := bnd_some h
                                                                          refine Ak_gV1 971 3 (c_M_status h376) rfl hg377 clX13 rfl mok_M_status lkM_Law_155 (d_Law_p20 6 968 (.invokevirtual 155) 3 rfl) rfl (by decide) (by decide) (Nat.le_of_ble_eq_true rfl) ?_
                                                                          refine Ak_icmp_eq 976 974 (d_Law_p20 7 971 (.if_icmp .eq 5) 3 rfl) rfl rfl (fun hc => ?_) (fun hc => ?_)
                                                                          · replace h := it_t hc h
                                                                            refine Ak_iinc 979 (d_Law_p20 10 976 (.iinc 3 6) 3 rfl) rfl rfl (by decide) ?_
                                                                            refine Ak_goto 18 (d_Law_p20 11 979 (.goto (-961)) 3 rfl) rfl ?_
                                                                            refine Ak_keep [true, true, true, true] ?_
                                                                            exact ih h
                                                                          · replace h := it_f hc h
                                                                            refine Ak_iconst 975 (d_Law_p20 8 974 (.iconst 0) 1 rfl) rfl (rk rfl) ?_
                                                                            cases h
                                                                            exact Ak_zret (Or.inl rfl) rfl (d_Law_p20 9 975 (.ireturn) 1 rfl)
                                                                        · replace h := it_f hc367 h
                                                                          refine Ak_tableOut 976 (by omega) (d_Law_p0 21 33 (.tableswitch 943 0 33 #[151, 214, 237, 250, 273, 296, 329, 362, 395, 418, 451, 464, 497, 510, 523, 536, 549, 582, 605, 628, 651, 674, 697, 710, 743, 756, 779, 802, 835, 848, 871, 884, 907, 920]) 151 rfl) rfl ?_
                                                                          refine Ak_iinc 979 (d_Law_p20 10 976 (.iinc 3 6) 3 rfl) rfl rfl (by decide) ?_
                                                                          refine Ak_goto 18 (d_Law_p20 11 979 (.goto (-961)) 3 rfl) rfl ?_
                                                                          refine Ak_keep [true, true, true, true] ?_
                                                                          exact ih h
