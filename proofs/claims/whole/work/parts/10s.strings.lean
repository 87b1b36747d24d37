/-! the two String constants: their loading, String's own methods on them -/
/-- the bytes of a text's array (cell -5, -6) -/
def sTx (a : Int) : List Int := if a = -5 then tx0.toList.map (fun c => (c.toNat : Int)) else tx1.toList.map (fun c => (c.toNat : Int))
def sB (a i : Int) : Int := (sTx a).getD i.toNat 0
def sLn (a : Int) : Int := (sTx a).length
def isS (a : Int) : Bool := decide (a = -2) || decide (a = -3)
def isB (a : Int) : Bool := decide (a = -5) || decide (a = -6)
def isBi (a i : Int) : Bool := isB a && decide (0 ≤ i) && decide (i < sLn a)
def byt8 (x : Int) : Int := (Int32.ofInt x).toInt8.toInt32.toInt
def chOK (x : Int) : Bool := decide (0 ≤ x) && decide (x < 65536)
def byOK (x : Int) : Bool := decide (-128 ≤ x) && decide (x < 128)
theorem isS_d {a : Int} (h : isS a = true) : ∃ i : Nat, i < 2 ∧ a = -2 - (i : Int) := by
  simp only [isS, Bool.or_eq_true, decide_eq_true_eq] at h
  rcases h with h | h
  · exact ⟨0, by decide, by omega⟩
  · exact ⟨1, by decide, by omega⟩
theorem isB_d {a : Int} (h : isB a = true) : ∃ i : Nat, i < 2 ∧ a = -5 - (i : Int) := by
  simp only [isB, Bool.or_eq_true, decide_eq_true_eq] at h
  rcases h with h | h
  · exact ⟨0, by decide, by omega⟩
  · exact ⟨1, by decide, by omega⟩
theorem acv_S (g : AG) (i : Nat) : acv g (aR (-2 - (i : Int))) = .ref (gK g i) := by
  rw [acv_R]
  unfold aref
  rw [if_neg (by omega), if_neg (by omega), show (-2 - (-2 - (i : Int))).toNat = i by omega]
  rfl
theorem sLn_l : ∀ i : Nat, i < 2 → sLn (-5 - (i : Int)) = (lenT.getD i 0 : Nat) := by decide +kernel
theorem sB_b : ∀ i : Nat, i < 2 → ∀ j : Nat, j < lenT.getD i 0 → (bytT.getD i []).getD j 0 = Int32.ofInt (sB (-5 - (i : Int)) j) ∧ r32 (sB (-5 - (i : Int)) j) := by
  have h : ∀ i : Nat, i < 2 → ∀ j : Nat, j < lenT.getD i 0 → (bytT.getD i []).getD j 0 = Int32.ofInt (sB (-5 - (i : Int)) j) ∧ (decide (-2147483648 ≤ sB (-5 - (i : Int)) j) && decide (sB (-5 - (i : Int)) j < 2147483648)) = true := by decide +kernel
  exact fun i hi j hj => ⟨(h i hi j hj).1, rk (h i hi j hj).2⟩
section A10S
variable {Z : AG → Prop} {mi : AM} {d mc ms cs sl pc : Nat} {ls : List (Option AV)} {st : List AV} {S : ASh} {V : ASt} {r : Option AV} {S' : ASh} {V' : ASt}
theorem Ak_ldcS0 (q : Nat) (hd : decode mi.2.2.1 pc = .ok (.ldc 31, 2)) (hq : pc + 2 = q) (k : AWz Z mi d mc ms cs sl q ls (aR (-2) :: st) S V r S' V') (hm : mi.1 = "SundayGame$Tokens" := by rfl) : AWz Z mi d mc ms cs sl pc ls st S V r S' V' := by
  subst hq
  exact AWz.pure (fun p l e s m args below meth c g H locs la C hL hs => ⟨ok_m (v := aR (-2)) trivial hs, fun Q kk => va_ldcS C.1 C.2.1 C.2.2.2.2.1 (by rw [hm]; exact C.2.2.2.2.2.2.2.2.2.2.2.1) hd kk⟩) k
theorem Ak_ldcS1 (q : Nat) (hd : decode mi.2.2.1 pc = .ok (.ldc 79, 2)) (hq : pc + 2 = q) (k : AWz Z mi d mc ms cs sl q ls (aR (-3) :: st) S V r S' V') (hm : mi.1 = "SundayGame$Tokens" := by rfl) : AWz Z mi d mc ms cs sl pc ls st S V r S' V' := by
  subst hq
  exact AWz.pure (fun p l e s m args below meth c g H locs la C hL hs => ⟨ok_m (v := aR (-3)) trivial hs, fun Q kk => va_ldcS C.1 C.2.1 C.2.2.2.2.1 (by rw [hm]; exact C.2.2.2.2.2.2.2.2.2.2.2.2.1) hd kk⟩) k
theorem Ak_getsC (q : Nat) {ix : Nat} (hw : Cond.fieldLink mi.1 ix "java/lang/String" "COMPACT_STRINGS" "Z" ∈ tG) (hd : decode mi.2.2.1 pc = .ok (.getstatic ix, 3)) (hq : pc + 3 = q) (kk : AWz Z mi d mc ms cs sl q ls (aI 1 :: st) S V r S' V') : AWz Z mi d mc ms cs sl pc ls st S V r S' V' := by
  subst hq
  intro p l e s m args below meth c g H locs la C hz hS hR hL hs
  exact va_gets C.1 C.2.1 C.2.2.2.2.2.2.2.2.2.2.2.2.2.2.1 hS C.2.2.2.2.1 (C.2.2.2.2.2.1 _ hw) (fun x h => h) hd (kk p l e s m args below meth c g H locs la C hz hS hR hL (ok_m (v := aI 1) ⟨by decide, by decide⟩ hs))
theorem Ak_getsF (q : Nat) {ix : Nat} (hw : Cond.fieldLink mi.1 ix "jdk/internal/util/Preconditions" "SIOOBE_FORMATTER" "Ljava/util/function/BiFunction;" ∈ tG) (hd : decode mi.2.2.1 pc = .ok (.getstatic ix, 3)) (hq : pc + 3 = q) (kk : ∀ y, AWz Z mi d mc ms cs sl q ls (aR y :: st) S V r S' V') : AWz Z mi d mc ms cs sl pc ls st S V r S' V' := by
  subst hq
  intro p l e s m args below meth c g H locs la C hz hS hR hL hs
  rcases C.2.2.2.2.2.2.2.2.2.2.2.2.2.2.2.1 with h | h
  · exact va_gets C.1 C.2.1 h hS C.2.2.2.2.1 (C.2.2.2.2.2.1 _ hw) (fun x h => h) hd (kk (-1) p l e s m args below meth c g H locs la C hz hS hR hL (ok_m (v := aR (-1)) trivial hs))
  · exact va_gets C.1 C.2.1 h hS C.2.2.2.2.1 (C.2.2.2.2.2.1 _ hw) (fun x h => h) hd (kk (-9) p l e s m args below meth c g H locs la C hz hS hR hL (ok_m (v := aR (-9)) trivial hs))
theorem Ak_sval (q : Nat) {a : Int} {ix : Nat} (hO : isS a = true) (hw : Cond.fieldLink mi.1 ix "java/lang/String" "value" "[B" ∈ tG) (hd : decode mi.2.2.1 pc = .ok (.getfield ix, 3)) (hq : pc + 3 = q) (kk : AWz Z mi d mc ms cs sl q ls (aR (a - 3) :: st) S V r S' V') : AWz Z mi d mc ms cs sl pc ls (aR a :: st) S V r S' V' := by
  subst hq
  intro p l e s m args below meth c g H locs la C hz hS hR hL hs
  obtain ⟨i, hi, rfl⟩ := isS_d hO
  rw [List.map_cons, acv_S]
  have hE := (C.2.2.2.2.2.2.2.2.2.2.2.2.2.1.1 i hi).2.2.1
  refine vk_getf C.1 C.2.1 hE hS C.2.2.2.2.1 (C.2.2.2.2.2.1 _ hw) (fun x h => h) hd ?_
  have := kk p l e s m args below meth c g H locs la C hz hS hR hL (ok_m (v := aR (-2 - (i : Int) - 3)) trivial (ok_c hs).2)
  rw [List.map_cons, show -2 - (i : Int) - 3 = -2 - ((3 + i : Nat) : Int) by omega, acv_S] at this
  exact this
theorem Ak_scod (q : Nat) {a : Int} {ix : Nat} (hO : isS a = true) (hw : Cond.fieldLink mi.1 ix "java/lang/String" "coder" "B" ∈ tG) (hd : decode mi.2.2.1 pc = .ok (.getfield ix, 3)) (hq : pc + 3 = q) (kk : AWz Z mi d mc ms cs sl q ls (aI 0 :: st) S V r S' V') : AWz Z mi d mc ms cs sl pc ls (aR a :: st) S V r S' V' := by
  subst hq
  intro p l e s m args below meth c g H locs la C hz hS hR hL hs
  obtain ⟨i, hi, rfl⟩ := isS_d hO
  rw [List.map_cons, acv_S]
  have hE := (C.2.2.2.2.2.2.2.2.2.2.2.2.2.1.1 i hi).2.1
  exact vk_getf C.1 C.2.1 hE hS C.2.2.2.2.1 (C.2.2.2.2.2.1 _ hw) (fun x h => h) hd (kk p l e s m args below meth c g H locs la C hz hS hR hL (ok_m (v := aI 0) r32_0 (ok_c hs).2))
theorem acv_B (g : AG) (i : Nat) : acv g (aR (-5 - (i : Int))) = .ref (gK g (3 + i)) := by
  rw [show -5 - (i : Int) = -2 - ((3 + i : Nat) : Int) by omega, acv_S]
theorem Ak_blen (q : Nat) {a : Int} (hO : isB a = true) (hd : decode mi.2.2.1 pc = .ok (.arraylength, 1)) (hq : pc + 1 = q) (kk : AWz Z mi d mc ms cs sl q ls (aI (sLn a) :: st) S V r S' V') : AWz Z mi d mc ms cs sl pc ls (aR a :: st) S V r S' V' := by
  subst hq
  intro p l e s m args below meth c g H locs la C hz hS hR hL hs
  obtain ⟨i, hi, rfl⟩ := isB_d hO
  rw [List.map_cons, acv_B]
  have hE := (C.2.2.2.2.2.2.2.2.2.2.2.2.2.1.1 i hi).2.2.2
  have hl : lenT.getD i 0 ≤ 104 := by
    rcases (show i = 0 ∨ i = 1 by omega) with h | h <;> subst h <;> decide
  refine va_tlen C.1 C.2.1 hE hS (v := Int32.ofInt (sLn (-5 - (i : Int)))) (by rw [sLn_l i hi, Int32.ofInt_eq_ofNat]) hd (kk p l e s m args below meth c g H locs la C hz hS hR hL (ok_m (v := aI (sLn (-5 - (i : Int)))) ?_ (ok_c hs).2))
  rw [sLn_l i hi]
  exact ⟨by omega, by omega⟩
theorem Ak_bald (q : Nat) {a j : Int} (hO : isBi a j = true) (hd : decode mi.2.2.1 pc = .ok (.baload, 1)) (hq : pc + 1 = q) (kk : AWz Z mi d mc ms cs sl q ls (aI (sB a j) :: st) S V r S' V') : AWz Z mi d mc ms cs sl pc ls (aI j :: aR a :: st) S V r S' V' := by
  subst hq
  intro p l e s m args below meth c g H locs la C hz hS hR hL hs
  simp only [isBi, Bool.and_eq_true, decide_eq_true_eq] at hO
  obtain ⟨⟨hB, h0⟩, h1⟩ := hO
  obtain ⟨i, hi, rfl⟩ := isB_d hB
  obtain ⟨hrj, hs1⟩ := ok_c hs
  rw [List.map_cons, List.map_cons, acv_B]
  have hE := (C.2.2.2.2.2.2.2.2.2.2.2.2.2.1.1 i hi).2.2.2
  rw [sLn_l i hi] at h1
  have e0 : ((j.toNat : Nat) : Int) = j := by omega
  obtain ⟨b1, b2⟩ := sB_b i hi j.toNat (by omega)
  rw [e0] at b1 b2
  refine va_tb C.1 C.2.1 hE hS (by rw [vp_in_iff, i32_id hrj]; omega) (v := .int (Int32.ofInt (sB (-5 - (i : Int)) j))) (by rw [clamp_i hrj, b1]) hd (kk p l e s m args below meth c g H locs la C hz hS hR hL (ok_m (v := aI (sB (-5 - (i : Int)) j)) b2 (ok_c hs1).2))
theorem Ak_i2b (q : Nat) {x : Int} (hd : decode mi.2.2.1 pc = .ok (.i2b, 1)) (hq : pc + 1 = q) (k : AWz Z mi d mc ms cs sl q ls (aI (byt8 x) :: st) S V r S' V') : AWz Z mi d mc ms cs sl pc ls (aI x :: st) S V r S' V' := by
  subst hq
  refine AWz.pure (fun p l e s m args below meth c g H locs la C hL hs => ?_) k
  refine ⟨ok_m (v := aI (byt8 x)) (r32_toInt _) (ok_c hs).2, fun Q kk => ?_⟩
  rw [List.map_cons, acv_I] at kk
  unfold byt8 at kk
  rw [Int32.ofInt_toInt] at kk
  exact lv_i2b C.1 C.2.1 hd rfl kk
theorem Ak_cret {x : Int} (hx : chOK x = true) (hr : mi.2.2.2.2 = some .char) (hd : decode mi.2.2.1 pc = .ok (.ireturn, 1)) : AWz Z mi d mc ms mc ms pc ls [aI x] S V (some (aI x)) S V := by
  refine AWz.sized fun p l e s m args below meth c g H locs la hsz C hz hS hR hL hs => ?_
  simp only [chOK, Bool.and_eq_true, decide_eq_true_eq] at hx
  refine W.zret C.1 C.2.1 (by rw [C.2.2.2.1, hr]) ?_ (fun t ht hW => ⟨rfl, fun v hv => by cases hv; exact (ok_c hs).1, ⟨by rw [ht]; exact hsz, by rw [ht]; exact hR⟩, hS.F ht⟩) (fun q hq => hS.2.2 q hq) hd C.2.2.2.2.2.2.1
  have e : Int32.ofInt x = nI x.toNat := by
    unfold nI
    rw [← Int32.ofInt_eq_ofNat]
    congr 1
    omega
  rw [e]
  exact (pk_charN (by omega)).1
theorem Ak_bret {x : Int} (hx : byOK x = true) (hr : mi.2.2.2.2 = some .byte) (hd : decode mi.2.2.1 pc = .ok (.ireturn, 1)) : AWz Z mi d mc ms mc ms pc ls [aI x] S V (some (aI x)) S V := by
  refine AWz.sized fun p l e s m args below meth c g H locs la hsz C hz hS hR hL hs => ?_
  simp only [byOK, Bool.and_eq_true, decide_eq_true_eq] at hx
  refine W.zret C.1 C.2.1 (by rw [C.2.2.2.1, hr]) ?_ (fun t ht hW => ⟨rfl, fun v hv => by cases hv; exact (ok_c hs).1, ⟨by rw [ht]; exact hsz, by rw [ht]; exact hR⟩, hS.F ht⟩) (fun q hq => hS.2.2 q hq) hd C.2.2.2.2.2.2.1
  have e : Int32.ofInt x = (Int32.ofInt x).toInt8.toInt32 := by
    rw [show (Int32.ofInt x).toInt8 = Int8.ofInt x from Int32.toInt8_ofInt, bp_ok (by simp; omega)]
  rw [e]
  exact pk_nb _
/-- a call on a text -/
theorem Ak_cT (q : Nat) {ix : Nat} {mj : AM} (d' : Nat) {as : List AV} {b : Int} {stk : List AV} {V1 : ASt} {v : AV} (hct : ACt mj d' 0 0 (aR b :: as) S V (some v) S V1) (hstk : stk = as.reverse ++ aR b :: st) (hO : isS b = true) (hR0 : mj.1 = "java/lang/String") (hm : mokV mj as.length) (hw : Cond.methodLink mi.1 ix mj.2.1 ∈ tG) (hd : decode mi.2.2.1 pc = .ok (.invokevirtual ix, 3)) (hq : pc + 3 = q) (hdd : d' + 1 ≤ d) (hcs : cs ≤ mc ∧ sl ≤ ms) (hst : (st.map acat).sum ≤ 8)
    (kk : AWz Z mi d mc ms cs sl q ls (v :: st) S V1 r S' V') : AWz Z mi d mc ms cs sl pc ls stk S V r S' V' := by
  subst hq
  subst hstk
  refine AWz.sized fun p l e s m args below meth cc g H locs la hsz C hz hS hR hL hs => ?_
  have hs2 : ∀ v ∈ st, aok v := fun v hv => hs v (by simp [hv])
  have hsa : ∀ v ∈ aR b :: as, aok v := fun v hv => by
    rcases List.mem_cons.mp hv with h | h
    · subst h; trivial
    · exact hs v (by simp [h])
  obtain ⟨i, hi, rfl⟩ := isS_d hO
  obtain ⟨m1, m2, m3, m4, m5, m6, m7⟩ := hm
  have hT2 : GoodIn tG (wsV mi.1 ix mj.1 mj.2.1 (aw mj)) := by
    intro w hw2
    unfold wsV at hw2
    rcases List.mem_append.mp hw2 with h | h
    · rcases List.mem_cons.mp h with h | h
      · subst h; exact tG_in hw
      rcases List.mem_cons.mp h with h | h
      · subst h; exact tG_in m3
      rcases List.mem_cons.mp h with h | h
      · subst h; exact tG_in m4
      · rw [List.mem_singleton.mp h]; exact tG_in m5
    · exact aw_good mj m2 w h
  have e1 : (as.reverse ++ aR (-2 - (i : Int)) :: st).map (acv g) = (as.map (acv g)).reverse ++ .ref (gK g i) :: st.map (acv g) := by
    rw [List.map_append, List.map_cons, acv_S, List.map_reverse]
  have e0 : ((aR (-2 - (i : Int)) :: as).map (acv g)).toArray = (Value.ref (gK g i) :: as.map (acv g)).toArray := by
    rw [List.map_cons, acv_S]
  rw [e1]
  refine Ak_run (r1 := some v) (va_runV (C := mj.1) (b := gK g i) (As := as.map (acv g)) (rest := st.map (acv g)) ⟨C.1, C.2.1, rfl, C.2.2.2.2.1, C.2.2.2.2.2.1⟩ (hct l g) (cwV as.length C.2.2.2.2.2.1 hT2 rfl rfl rfl ⟨m1, by rw [m1]; exact m6⟩ ⟨hdd, by show 8 + (mj.2.2.2.1 + 11) + 64 * d' ≤ 64 * d; omega⟩) ⟨ACt_blind g _ S V, ?_, fun U hU hW => ⟨e0.symm, hsa, ⟨by rw [hU]; exact hsz, by rw [hU]; exact hR⟩, AKK_moved hW hS hU C.2.2.2.2.2.2.2.2⟩⟩ rfl (by simp) (by show la.size = _; rw [hL.1, C.2.2.1]) rfl (lv_room (by rw [acat_sum]; exact hst)) hd hcs) rfl C hz hS hL hs2 kk
  rw [hR0]
  exact vk_recv C.2.2.2.2.2.2.2.2.2.2.2.2.2.1 hi hS
end A10S
