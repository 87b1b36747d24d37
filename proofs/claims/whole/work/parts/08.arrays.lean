/-! rows of arrays, and of what is made -/
/-- row g with n places from dp on taken of f from sp on -/
def cpI (f g : Int → Int) (sp dp n : Int) : Int → Int := fun j => if dp ≤ j ∧ j < dp + n then f (sp + (j - dp)) else g j
section A8
variable {Z : AG → Prop} {mi : AM} {d mc ms cs sl pc : Nat} {ls : List (Option AV)} {st : List AV} {S : ASh} {V : ASt} {r : Option AV} {S' : ASh} {V' : ASt}
theorem Ak_iaload (q : Nat) {a i : Int} (hA : isA S a 0 i = true) (hd : decode mi.2.2.1 pc = .ok (.iaload, 1)) (hq : pc + 1 = q) (kk : AWz Z mi d mc ms cs sl q ls (aI (V a i) :: st) S V r S' V') : AWz Z mi d mc ms cs sl pc ls (aI i :: aR a :: st) S V r S' V' := by
  subst hq
  intro p l ee s m args below meth cc g H locs la C hz hS hR hL hs
  obtain ⟨hi, hs1⟩ := ok_c hs
  obtain ⟨-, hs2⟩ := ok_c hs1
  obtain ⟨hO, h0, h1⟩ := isA_d hA
  obtain ⟨n, rfl, hn, hT⟩ := isO_d hO
  have he := aws_at g S V hn
  rw [acell_a g V hT] at he
  obtain ⟨-, -, -, hav⟩ := (acok_a hT).mp (hR.2 n hn)
  rw [List.map_cons, List.map_cons, acv_Rn g (by omega), Int.toNat_natCast]
  refine va_iald C.1 C.2.1 C.2.2.2.2.2.2.2.2.1 hR.1 n 0 he rfl (vp_in_i hi h0 h1) hd ?_
  rw [clamp_i hi]
  have e : ((i.toNat : Nat) : Int) = i := by omega
  rw [e]
  have hav := hav i.toNat
  rw [e] at hav
  exact kk p l ee s m args below meth cc g H locs la C hz hS hR hL (ok_m hav hs2)
theorem Ak_baload (q : Nat) {a i : Int} (hA : isA S a 2 i = true) (hd : decode mi.2.2.1 pc = .ok (.baload, 1)) (hq : pc + 1 = q) (kk : AWz Z mi d mc ms cs sl q ls (aI (V a i) :: st) S V r S' V') : AWz Z mi d mc ms cs sl pc ls (aI i :: aR a :: st) S V r S' V' := by
  subst hq
  intro p l ee s m args below meth cc g H locs la C hz hS hR hL hs
  obtain ⟨hi, hs1⟩ := ok_c hs
  obtain ⟨-, hs2⟩ := ok_c hs1
  obtain ⟨hO, h0, h1⟩ := isA_d hA
  obtain ⟨n, rfl, hn, hT⟩ := isO_d hO
  have he := aws_at g S V hn
  rw [acell_a g V hT] at he
  obtain ⟨-, -, -, hav⟩ := (acok_a hT).mp (hR.2 n hn)
  rw [List.map_cons, List.map_cons, acv_Rn g (by omega), Int.toNat_natCast]
  refine va_zald C.1 C.2.1 C.2.2.2.2.2.2.2.2.1 hR.1 n 2 he rfl (vp_in_i hi h0 h1) hd ?_
  rw [clamp_i hi]
  have e : ((i.toNat : Nat) : Int) = i := by omega
  rw [e]
  have hav := hav i.toNat
  rw [e] at hav
  refine kk p l ee s m args below meth cc g H locs la C hz hS hR hL (ok_m ?_ hs2)
  have h2 : V n i = 0 ∨ V n i = 1 := hav
  show r32 (V n i)
  rcases h2 with z | z <;> rw [z] <;> exact ⟨by decide, by decide⟩
theorem Ak_laload (q : Nat) {a i : Int} (hA : isA S a 1 i = true) (hd : decode mi.2.2.1 pc = .ok (.laload, 1)) (hq : pc + 1 = q) (kk : AWz Z mi d mc ms cs sl q ls (aL (V a i) :: st) S V r S' V') : AWz Z mi d mc ms cs sl pc ls (aI i :: aR a :: st) S V r S' V' := by
  subst hq
  intro p l ee s m args below meth cc g H locs la C hz hS hR hL hs
  obtain ⟨hi, hs1⟩ := ok_c hs
  obtain ⟨-, hs2⟩ := ok_c hs1
  obtain ⟨hO, h0, h1⟩ := isA_d hA
  obtain ⟨n, rfl, hn, hT⟩ := isO_d hO
  have he := aws_at g S V hn
  rw [acell_a g V hT] at he
  obtain ⟨-, -, -, hav⟩ := (acok_a hT).mp (hR.2 n hn)
  rw [List.map_cons, List.map_cons, acv_Rn g (by omega), Int.toNat_natCast]
  refine va_lald C.1 C.2.1 C.2.2.2.2.2.2.2.2.1 hR.1 n 1 he rfl (vp_in_i hi h0 h1) hd ?_
  rw [clamp_i hi]
  have e : ((i.toNat : Nat) : Int) = i := by omega
  rw [e]
  have hav := hav i.toNat
  rw [e] at hav
  exact kk p l ee s m args below meth cc g H locs la C hz hS hR hL (ok_m hav hs2)
theorem Ak_aaload (q : Nat) {a i : Int} (hA : isA S a 3 i = true) (hd : decode mi.2.2.1 pc = .ok (.aaload, 1)) (hq : pc + 1 = q) (kk : AWz Z mi d mc ms cs sl q ls (aR (V a i) :: st) S V r S' V') : AWz Z mi d mc ms cs sl pc ls (aI i :: aR a :: st) S V r S' V' := by
  subst hq
  intro p l ee s m args below meth cc g H locs la C hz hS hR hL hs
  obtain ⟨hi, hs1⟩ := ok_c hs
  obtain ⟨-, hs2⟩ := ok_c hs1
  obtain ⟨hO, h0, h1⟩ := isA_d hA
  obtain ⟨n, rfl, hn, hT⟩ := isO_d hO
  have he := aws_at g S V hn
  rw [acell_a g V hT] at he
  rw [List.map_cons, List.map_cons, acv_Rn g (by omega), Int.toNat_natCast]
  refine va_aldq C.1 C.2.1 C.2.2.2.2.2.2.2.2.1 hR.1 n 3 he rfl (vp_in_i hi h0 h1) hd ?_
  rw [clamp_i hi]
  have e : ((i.toNat : Nat) : Int) = i := by omega
  rw [e]
  exact kk p l ee s m args below meth cc g H locs la C hz hS hR hL (ok_m trivial hs2)
theorem Ak_alen (q : Nat) {a : Int} {c : Nat} (hO : isO S a (100 + c) = true) (hc : c < 4) (hd : decode mi.2.2.1 pc = .ok (.arraylength, 1)) (hq : pc + 1 = q) (kk : AWz Z mi d mc ms cs sl q ls (aI (aLn S a) :: st) S V r S' V') : AWz Z mi d mc ms cs sl pc ls (aR a :: st) S V r S' V' := by
  subst hq
  intro p l e s m args below meth cc g H locs la C hz hS hR hL hs
  obtain ⟨-, hs1⟩ := ok_c hs
  obtain ⟨n, rfl, hn, hT⟩ := isO_d hO
  have he := aws_at g S V hn
  rw [acell_a g V hT] at he
  obtain ⟨-, hl0, hl1, -⟩ := (acok_a hT).mp (hR.2 n hn)
  rw [List.map_cons, acv_Rn g (by omega), Int.toNat_natCast]
  have hty : ∃ ty, (tyG g)[c]? = some (gA g c, ty) := by
    rcases (show c = 0 ∨ c = 1 ∨ c = 2 ∨ c = 3 by omega) with z | z | z | z <;> subst z <;> exact ⟨_, rfl⟩
  obtain ⟨ty, hty⟩ := hty
  refine va_alen C.1 C.2.1 C.2.2.2.2.2.2.2.2.1 hR.1 n c he hty (v := Int32.ofInt (aLn S n)) ?_ hd ?_
  · show Int32.ofNat (aLn S n).toNat = _
    rw [← Int32.ofInt_eq_ofNat]
    congr 1
    omega
  · exact kk p l e s m args below meth cc g H locs la C hz hS hR hL (ok_m (v := aI (aLn S n)) ⟨by omega, by omega⟩ hs1)
theorem Ak_iastore (q : Nat) {a i x : Int} (hA : isA S a 0 i = true) (hd : decode mi.2.2.1 pc = .ok (.iastore, 1)) (hq : pc + 1 = q) (kk : ∀ V1, V1 = aset V a i x → AWz Z mi d mc ms cs sl q ls st S V1 r S' V') : AWz Z mi d mc ms cs sl pc ls (aI x :: aI i :: aR a :: st) S V r S' V' := by
  subst hq
  intro p l e s m args below meth cc g H locs la C hz hS hR hL hs
  obtain ⟨hx, hs0⟩ := ok_c hs
  obtain ⟨hi, hs1⟩ := ok_c hs0
  obtain ⟨-, hs2⟩ := ok_c hs1
  obtain ⟨hO, h0, h1⟩ := isA_d hA
  obtain ⟨n, rfl, hn, hT⟩ := isO_d hO
  have he := aws_at g S V hn
  rw [acell_a g V hT] at he
  obtain ⟨b1, b2, b3, hav⟩ := (acok_a hT).mp (hR.2 n hn)
  rw [List.map_cons, List.map_cons, List.map_cons, acv_Rn g (by omega), Int.toNat_natCast]
  refine va_iast C.1 C.2.1 C.2.2.2.2.2.2.2.2.1 hR.1 (aws_D g S V) hS n 0 he rfl (vp_in_i hi h0 h1) hd fun H1 locs1 hP1 hD1 hS1 => ?_
  refine kk _ rfl p l e s m args below meth cc g H1 locs1 la C hz hS1 (AHp_set hn hR.2 ?_ ?_) hL hs2
  · refine (acok_a hT).mpr ⟨b1, b2, b3, fun j => ?_⟩
    rw [arow_s]
    by_cases z : (j : Int) = i
    · rw [z, upI_s]; exact hx
    · rw [upI_n _ _ z]; exact hav j
  · rw [acell_a g _ hT, arow_s]
    rw [clamp_i hi] at hP1
    have ef : aarr g 0 (upI (V n) i x) = .inl (upd (fun j : Nat => Int32.ofInt (V n j)) i.toNat (Int32.ofInt x)) := by
      show Sum.inl _ = Sum.inl _
      congr 1
      funext j
      unfold upd upI
      by_cases z : j = i.toNat
      · rw [if_pos z, if_pos (by omega)]
      · rw [if_neg z, if_neg (by omega)]
    rw [ef]
    exact hP1
theorem Ak_lastore (q : Nat) {a i x : Int} (hA : isA S a 1 i = true) (hd : decode mi.2.2.1 pc = .ok (.lastore, 1)) (hq : pc + 1 = q) (kk : ∀ V1, V1 = aset V a i x → AWz Z mi d mc ms cs sl q ls st S V1 r S' V') : AWz Z mi d mc ms cs sl pc ls (aL x :: aI i :: aR a :: st) S V r S' V' := by
  subst hq
  intro p l e s m args below meth cc g H locs la C hz hS hR hL hs
  obtain ⟨hx, hs0⟩ := ok_c hs
  obtain ⟨hi, hs1⟩ := ok_c hs0
  obtain ⟨-, hs2⟩ := ok_c hs1
  obtain ⟨hO, h0, h1⟩ := isA_d hA
  obtain ⟨n, rfl, hn, hT⟩ := isO_d hO
  have he := aws_at g S V hn
  rw [acell_a g V hT] at he
  obtain ⟨b1, b2, b3, hav⟩ := (acok_a hT).mp (hR.2 n hn)
  rw [List.map_cons, List.map_cons, List.map_cons, acv_Rn g (by omega), Int.toNat_natCast]
  refine va_last C.1 C.2.1 C.2.2.2.2.2.2.2.2.1 hR.1 (aws_D g S V) hS n 1 he rfl (vp_in_i hi h0 h1) hd fun H1 locs1 hP1 hD1 hS1 => ?_
  refine kk _ rfl p l e s m args below meth cc g H1 locs1 la C hz hS1 (AHp_set hn hR.2 ?_ ?_) hL hs2
  · refine (acok_a hT).mpr ⟨b1, b2, b3, fun j => ?_⟩
    rw [arow_s]
    by_cases z : (j : Int) = i
    · rw [z, upI_s]; exact hx
    · rw [upI_n _ _ z]; exact hav j
  · rw [acell_a g _ hT, arow_s]
    rw [clamp_i hi] at hP1
    have ef : aarr g 1 (upI (V n) i x) = .inr (.inl (vp_updL (fun j : Nat => Int64.ofInt (V n j)) i.toNat (Int64.ofInt x))) := by
      show Sum.inr (Sum.inl _) = Sum.inr (Sum.inl _)
      congr 2
      funext j
      unfold vp_updL upI
      by_cases z : j = i.toNat
      · rw [if_pos z, if_pos (by omega)]
      · rw [if_neg z, if_neg (by omega)]
    rw [ef]
    exact hP1
theorem Ak_bastore (q : Nat) {a i x : Int} (hA : isA S a 2 i = true) (hx : x = 0 ∨ x = 1) (hd : decode mi.2.2.1 pc = .ok (.bastore, 1)) (hq : pc + 1 = q) (kk : ∀ V1, V1 = aset V a i x → AWz Z mi d mc ms cs sl q ls st S V1 r S' V') : AWz Z mi d mc ms cs sl pc ls (aI x :: aI i :: aR a :: st) S V r S' V' := by
  subst hq
  intro p l e s m args below meth cc g H locs la C hz hS hR hL hs
  obtain ⟨-, hs0⟩ := ok_c hs
  obtain ⟨hi, hs1⟩ := ok_c hs0
  obtain ⟨-, hs2⟩ := ok_c hs1
  obtain ⟨hO, h0, h1⟩ := isA_d hA
  obtain ⟨n, rfl, hn, hT⟩ := isO_d hO
  have he := aws_at g S V hn
  rw [acell_a g V hT] at he
  obtain ⟨b1, b2, b3, hav⟩ := (acok_a hT).mp (hR.2 n hn)
  rw [List.map_cons, List.map_cons, List.map_cons, acv_Rn g (by omega), Int.toNat_natCast]
  refine va_zast C.1 C.2.1 C.2.2.2.2.2.2.2.2.1 hR.1 (aws_D g S V) hS n 2 he rfl (vp_in_i hi h0 h1) hd fun H1 locs1 hP1 hD1 hS1 => ?_
  refine kk _ rfl p l e s m args below meth cc g H1 locs1 la C hz hS1 (AHp_set hn hR.2 ?_ ?_) hL hs2
  · refine (acok_a hT).mpr ⟨b1, b2, b3, fun j => ?_⟩
    rw [arow_s]
    by_cases z : (j : Int) = i
    · rw [z, upI_s]; exact hx
    · rw [upI_n _ _ z]; exact hav j
  · rw [acell_a g _ hT, arow_s]
    rw [clamp_i hi] at hP1
    have ex : vp_nar .boolean (Int32.ofInt x) = Int32.ofInt x := by
      rcases hx with z | z <;> rw [z] <;> decide
    rw [ex] at hP1
    have ef : aarr g 2 (upI (V n) i x) = .inl (upd (fun j : Nat => Int32.ofInt (V n j)) i.toNat (Int32.ofInt x)) := by
      show Sum.inl _ = Sum.inl _
      congr 1
      funext j
      unfold upd upI
      by_cases z : j = i.toNat
      · rw [if_pos z, if_pos (by omega)]
      · rw [if_neg z, if_neg (by omega)]
    rw [ef]
    exact hP1
theorem Ak_copy (q : Nat) {a0 a sp dp n : Int} {ix : Nat} (h0 : isO S a0 100 = true) (h1 : isO S a 100 = true) (g0 : 0 ≤ sp ∧ 0 ≤ dp ∧ 0 ≤ n ∧ sp + n ≤ aLn S a0 ∧ dp + n ≤ aLn S a) (hd : decode mi.2.2.1 pc = .ok (.invokestatic ix, 3)) (hq : pc + 3 = q) (hw : Cond.methodLink mi.1 ix arraycopyName ∈ tG) (hw1 : Cond.native arraycopyName ∈ tG) (hw2 : Cond.static arraycopyName ∈ tG) (hw3 : Cond.initialized "java/lang/System" ∈ tG) (hdp : 2 ≤ d) (hst : (st.map acat).sum ≤ 8)
    (kk : ∀ V1, V1 = arow V a (cpI (V a0) (V a) sp dp n) → AWz Z mi d mc ms cs sl q ls st S V1 r S' V') : AWz Z mi d mc ms cs sl pc ls (aI n :: aI dp :: aR a :: aI sp :: aR a0 :: st) S V r S' V' := by
  subst hq
  intro p l e s m args below meth cc g H locs la C hz hS hR hL hs
  obtain ⟨hrn, hs0⟩ := ok_c hs
  obtain ⟨hrd, hs1⟩ := ok_c hs0
  obtain ⟨-, hs2⟩ := ok_c hs1
  obtain ⟨hrs, hs3⟩ := ok_c hs2
  obtain ⟨-, hs4⟩ := ok_c hs3
  obtain ⟨n0, rfl, hn0, hT0⟩ := isO_d h0
  obtain ⟨n1, rfl, hn1, hT1⟩ := isO_d h1
  have he0 := aws_at g S V hn0
  rw [acell_a (c := 0) g V hT0] at he0
  have he1 := aws_at g S V hn1
  rw [acell_a (c := 0) g V hT1] at he1
  obtain ⟨b1, b2, b3, hav⟩ := (acok_a (c := 0) hT1).mp (hR.2 n1 hn1)
  obtain ⟨-, -, -, hav0⟩ := (acok_a (c := 0) hT0).mp (hR.2 n0 hn0)
  have W : ∀ w ∈ tG, w.before args s = true := C.2.2.2.2.2.1
  obtain ⟨q1, q2, q3, q4, q5⟩ := g0
  simp only [List.map_cons]
  rw [acv_Rn g (show (0 : Int) ≤ (n1 : Int) by omega), acv_Rn g (show (0 : Int) ≤ (n0 : Int) by omega), Int.toNat_natCast, Int.toNat_natCast]
  refine va_copyi C.1 C.2.1 (by rw [C.2.2.1, hL.1]) C.2.2.2.2.1 (W _ hw) (W _ hw1) (W _ hw2) (W _ hw3) C.2.2.2.2.2.2.2.2.1 hR.1 (aws_D g S V) hS n0 n1 0 0 he0 he1 rfl rfl rfl (fun z => ?_) (fun z => ?_) (fun z => ?_) ?_ ?_ (fun i _ => rfl) (by show 1 ≤ d; omega) ?_ hd fun H1 locs1 hP1 hD1 hS1 => ?_
  · have := (i32_lt hrs r32_0).mp z; omega
  · have := (i32_lt hrd r32_0).mp z; omega
  · have := (i32_lt hrn r32_0).mp z; omega
  · rw [clamp_i hrs, clamp_i hrn]; omega
  · rw [clamp_i hrd, clamp_i hrn]; omega
  · have e1 : ((st.map (acv g)).map fun v => v.category).sum = (st.map acat).sum := by
      rw [List.map_map]
      congr 1
      exact List.map_congr_left (fun v _ => acat_v g v)
    rw [e1]
    have e2 : nativeFrameWords "java/lang/System" "arraycopy" 5 + 11 ≤ 100 := by decide
    show _ ≤ 64 * d
    omega
  · refine kk _ rfl p l e s m args below meth cc g H1 locs1 la C hz hS1 (AHp_set hn1 hR.2 ?_ ?_) hL hs4
    · refine (acok_a (c := 0) hT1).mpr ⟨b1, b2, b3, fun j => ?_⟩
      rw [arow_s]
      unfold cpI
      by_cases z : dp ≤ (j : Int) ∧ (j : Int) < dp + n
      · rw [if_pos z]
        have := hav0 (sp + (j - dp)).toNat
        rw [Int.toNat_of_nonneg (by omega)] at this
        exact this
      · rw [if_neg z]; exact hav j
    · rw [acell_a (c := 0) g _ hT1, arow_s]
      rw [clamp_i hrs, clamp_i hrd, clamp_i hrn] at hP1
      have ef : aarr g 0 (cpI (V n0) (V n1) sp dp n) = .inl (va_cpy (fun j : Nat => Int32.ofInt (V n0 j)) (fun j : Nat => Int32.ofInt (V n1 j)) sp.toNat dp.toNat n.toNat) := by
        show Sum.inl _ = Sum.inl _
        congr 1
        funext j
        unfold va_cpy cpI
        by_cases z : dp.toNat ≤ j ∧ j < dp.toNat + n.toNat
        · rw [if_pos z, if_pos (by omega)]
          congr 2
          omega
        · rw [if_neg z, if_neg (by omega)]
      rw [ef]
      exact hP1
end A8
