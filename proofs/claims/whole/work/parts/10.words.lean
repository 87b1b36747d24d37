/-! the words in which the printed functions are written, and rows that go with them -/
def FU : Nat := 100000
def gd {α : Type} (b : Bool) (a : Option α) : Option α := if b = true then a else none
def bnd {α : Type} (o : Option (Int × ASt)) (k : Int → ASt → Option α) : Option α := match o with
  | none => none
  | some (r, V) => k r V
def wV {α : Type} (V : ASt) (k : ASt → Option α) : Option α := k V
def nz (x : Int) : Bool := decide (x ≠ 0)
def zb (x : Int) : Bool := decide (x = 0 ∨ x = 1)
def nn (x : Int) : Bool := decide (0 ≤ x)
def cpG (S : ASh) (a0 sp a dp n : Int) : Bool := isO S a0 100 && isO S a 100 && decide (0 ≤ sp) && decide (0 ≤ dp) && decide (0 ≤ n) && decide (sp + n ≤ aLn S a0) && decide (dp + n ≤ aLn S a)
theorem gd_some {α : Type} {b : Bool} {a : Option α} {x : α} (h : gd b a = some x) : b = true ∧ a = some x := by
  unfold gd at h
  by_cases hb : b = true
  · rw [if_pos hb] at h; exact ⟨hb, h⟩
  · rw [if_neg hb] at h; cases h
theorem gd_t {α : Type} {b : Bool} {a : Option α} (h : b = true) : gd b a = a := if_pos h
theorem bnd_some {α : Type} {o : Option (Int × ASt)} {k : Int → ASt → Option α} {x : α} (h : bnd o k = some x) : ∃ r V, o = some (r, V) ∧ k r V = some x := by
  cases o with
  | none => cases h
  | some q => exact ⟨q.1, q.2, rfl, h⟩
theorem bnd_s {α : Type} {o : Option (Int × ASt)} {k : Int → ASt → Option α} {r : Int} {V : ASt} (h : o = some (r, V)) : bnd o k = k r V := by rw [h]; rfl
theorem wV_some {α : Type} {e : ASt} {k : ASt → Option α} {x : Option α} (h : wV e k = x) (V1 : ASt) (hV : V1 = e) : k V1 = x := by subst hV; exact h
theorem it_t {α : Type} {c : Prop} [Decidable c] {a b x : Option α} (hc : c) (h : (if c then a else b) = x) : a = x := by rwa [if_pos hc] at h
theorem it_f {α : Type} {c : Prop} [Decidable c] {a b x : Option α} (hc : ¬ c) (h : (if c then a else b) = x) : b = x := by rwa [if_neg hc] at h
theorem rk {n : Int} (h : (decide (-2147483648 ≤ n) && decide (n < 2147483648)) = true) : r32 n := by
  simp only [Bool.and_eq_true, decide_eq_true_eq] at h
  exact h
theorem rkL {n : Int} (h : (decide (-9223372036854775808 ≤ n) && decide (n < 9223372036854775808)) = true) : r64 n := by
  simp only [Bool.and_eq_true, decide_eq_true_eq] at h
  exact h
theorem bp_ok {n : Int} (h : (decide (-128 ≤ n) && decide (n < 128)) = true) : (Int8.ofInt n).toInt32 = Int32.ofInt n := by
  simp only [Bool.and_eq_true, decide_eq_true_eq] at h
  rw [← Int32.ofInt_int8ToInt, Int8.toInt_ofInt_of_le (by omega) (by omega)]
theorem sp_ok {n : Int} (h : (decide (-32768 ≤ n) && decide (n < 32768)) = true) : (Int16.ofInt n).toInt32 = Int32.ofInt n := by
  simp only [Bool.and_eq_true, decide_eq_true_eq] at h
  rw [← Int32.ofInt_int16ToInt, Int16.toInt_ofInt_of_le (by omega) (by omega)]
def xor64 (x y : Int) : Int := (Int64.ofInt x ^^^ Int64.ofInt y).toInt
def aDec (b : ByteArray) (rows : List (Nat × Instr × Nat)) : Prop := ∀ (k pc : Nat) (i : Instr) (n : Nat), rows[k]? = some (pc, i, n) → decode b pc = .ok (i, n)
theorem aDec_of {b : ByteArray} {rows : List (Nat × Instr × Nat)} (h : ∀ r ∈ rows, decode b r.1 = .ok r.2) : aDec b rows := by
  intro k pc i n hk
  have h1 := h (pc, i, n) (List.mem_of_getElem? hk)
  generalize hr : (pc, i, n) = r at h1
  rw [show pc = r.1 by rw [← hr], show (i, n) = r.2 by rw [← hr]]
  exact h1
theorem dec_t {c : Prop} [Decidable c] (h : decide c = true) : c := of_decide_eq_true h
section A10
variable {Z : AG → Prop} {mi : AM} {d cs sl pc : Nat} {ls : List (Option AV)} {st : List AV} {S : ASh} {V : ASt} {r : Option AV} {V' : ASt}
theorem Ak_lxor (q : Nat) {x y : Int} (hd : decode mi.2.2.1 pc = .ok (.lxor, 1)) (hq : pc + 1 = q) (k : AWz Z mi d 0 0 cs sl q ls (aL (xor64 x y) :: st) S V r S V') : AWz Z mi d 0 0 cs sl pc ls (aL y :: aL x :: st) S V r S V' := by
  subst hq
  refine AWz.pure (fun p l e s m args below meth c g H locs la C hL hs => ?_) k
  obtain ⟨hy, hs1⟩ := ok_c hs
  obtain ⟨hx, hs2⟩ := ok_c hs1
  refine ⟨ok_m (v := aL (xor64 x y)) (r64_toInt _) hs2, fun Q kk => ?_⟩
  rw [List.map_cons, acv_L] at kk
  unfold xor64 at kk
  rw [Int64.ofInt_toInt] at kk
  exact lv_lxor C.1 C.2.1 hd kk
/-- a call that makes nothing: of a method with an answer, of one without -/
theorem Ak_cV1 (q : Nat) {ix : Nat} {mj : AM} (d' : Nat) {c : Nat} {as : List AV} {b : Int} {R : String} {T : u_T} {N : Nat} {ty : Nat → FieldType} {stk : List AV} {V1 : ASt} {v : AV} (hct : ACt mj d' 0 0 (aR b :: as) S V (some v) S V1) (hstk : stk = as.reverse ++ aR b :: st) (hO : isO S b c = true) (hcl : clsOK c R T N ty) (hR0 : mj.1 = R) (hm : mokV mj as.length) (hw : Cond.methodLink mi.1 ix mj.2.1 ∈ tG) (hd : decode mi.2.2.1 pc = .ok (.invokevirtual ix, 3)) (hq : pc + 3 = q) (hdd : d' + 1 ≤ d) (hst : (st.map acat).sum ≤ 8)
    (kk : AWz Z mi d 0 0 0 0 q ls (v :: st) S V1 r S V') : AWz Z mi d 0 0 0 0 pc ls stk S V r S V' :=
  Ak_callV q d' as hct hstk hO hcl hR0 hm hw hd hq hdd ⟨Nat.le_refl _, Nat.le_refl _⟩ rfl hst kk
theorem Ak_cV0 (q : Nat) {ix : Nat} {mj : AM} (d' : Nat) {c : Nat} {as : List AV} {b : Int} {R : String} {T : u_T} {N : Nat} {ty : Nat → FieldType} {stk : List AV} {V1 : ASt} (hct : ACt mj d' 0 0 (aR b :: as) S V none S V1) (hstk : stk = as.reverse ++ aR b :: st) (hO : isO S b c = true) (hcl : clsOK c R T N ty) (hR0 : mj.1 = R) (hm : mokV mj as.length) (hw : Cond.methodLink mi.1 ix mj.2.1 ∈ tG) (hd : decode mi.2.2.1 pc = .ok (.invokevirtual ix, 3)) (hq : pc + 3 = q) (hdd : d' + 1 ≤ d) (hst : (st.map acat).sum ≤ 8)
    (kk : AWz Z mi d 0 0 0 0 q ls st S V1 r S V') : AWz Z mi d 0 0 0 0 pc ls stk S V r S V' :=
  Ak_callV q d' as hct hstk hO hcl hR0 hm hw hd hq hdd ⟨Nat.le_refl _, Nat.le_refl _⟩ rfl hst kk
theorem Ak_cS1 (q : Nat) {ix : Nat} {mj : AM} (d' : Nat) {as : List AV} {stk : List AV} {V1 : ASt} {v : AV} (hct : ACt mj d' 0 0 as S V (some v) S V1) (hstk : stk = as.reverse ++ st) (hm : mokS mj as.length) (hw : Cond.methodLink mi.1 ix mj.2.1 ∈ tG) (hd : decode mi.2.2.1 pc = .ok (.invokestatic ix, 3)) (hq : pc + 3 = q) (hdd : d' + 1 ≤ d) (hst : (st.map acat).sum ≤ 8)
    (kk : AWz Z mi d 0 0 0 0 q ls (v :: st) S V1 r S V') : AWz Z mi d 0 0 0 0 pc ls stk S V r S V' :=
  Ak_callS q d' as hct hstk hm hw hd hq hdd ⟨Nat.le_refl _, Nat.le_refl _⟩ rfl hst kk
theorem Ak_cS0 (q : Nat) {ix : Nat} {mj : AM} (d' : Nat) {as : List AV} {stk : List AV} {V1 : ASt} (hct : ACt mj d' 0 0 as S V none S V1) (hstk : stk = as.reverse ++ st) (hm : mokS mj as.length) (hw : Cond.methodLink mi.1 ix mj.2.1 ∈ tG) (hd : decode mi.2.2.1 pc = .ok (.invokestatic ix, 3)) (hq : pc + 3 = q) (hdd : d' + 1 ≤ d) (hst : (st.map acat).sum ≤ 8)
    (kk : AWz Z mi d 0 0 0 0 q ls st S V1 r S V') : AWz Z mi d 0 0 0 0 pc ls stk S V r S V' :=
  Ak_callS q d' as hct hstk hm hw hd hq hdd ⟨Nat.le_refl _, Nat.le_refl _⟩ rfl hst kk
theorem Ak_cpy (q : Nat) {a0 a sp dp n : Int} {ix : Nat} (hg : cpG S a0 sp a dp n = true) (hd : decode mi.2.2.1 pc = .ok (.invokestatic ix, 3)) (hq : pc + 3 = q) (hw : Cond.methodLink mi.1 ix arraycopyName ∈ tG) (hw1 : Cond.native arraycopyName ∈ tG ∧ Cond.static arraycopyName ∈ tG ∧ Cond.initialized "java/lang/System" ∈ tG) (hdp : 2 ≤ d) (hst : (st.map acat).sum ≤ 8)
    (kk : ∀ V1, V1 = arow V a (cpI (V a0) (V a) sp dp n) → AWz Z mi d 0 0 cs sl q ls st S V1 r S V') : AWz Z mi d 0 0 cs sl pc ls (aI n :: aI dp :: aR a :: aI sp :: aR a0 :: st) S V r S V' := by
  simp only [cpG, Bool.and_eq_true, decide_eq_true_eq] at hg
  obtain ⟨⟨⟨⟨⟨⟨h1, h2⟩, h3⟩, h4⟩, h5⟩, h6⟩, h7⟩ := hg
  exact Ak_copy q h1 h2 ⟨h3, h4, h5, h6, h7⟩ hd hq hw hw1.1 hw1.2.1 hw1.2.2 hdp hst kk
end A10
def wS {α : Type} (S : ASh) (k : ASh → Option α) : Option α := k S
theorem wS_some {α : Type} {e : ASh} {k : ASh → Option α} {x : Option α} (h : wS e k = x) (S1 : ASh) (hS : S1 = e) : k S1 = x := by subst hS; exact h
def bndC {α : Type} (o : Option (ASh × ASt)) (k : ASh → ASt → Option α) : Option α := match o with
  | none => none
  | some (S, V) => k S V
theorem bndC_some {α : Type} {o : Option (ASh × ASt)} {k : ASh → ASt → Option α} {x : α} (h : bndC o k = some x) : ∃ S V, o = some (S, V) ∧ k S V = some x := by
  cases o with
  | none => cases h
  | some q => exact ⟨q.1, q.2, rfl, h⟩
theorem isO_nn {S : ASh} {a : Int} {c : Nat} (h : isO S a c = true) : 0 ≤ a := by
  obtain ⟨n, e, -⟩ := isO_d h
  omega
section A10G
variable {Z : AG → Prop} {mi : AM} {d mc ms cs sl pc : Nat} {ls : List (Option AV)} {st : List AV} {S : ASh} {V : ASt} {r : Option AV} {S' : ASh} {V' : ASt}
theorem Ak_gV1 (q : Nat) {ix : Nat} {mj : AM} (d' : Nat) {c : Nat} {as : List AV} {b : Int} {R : String} {T : u_T} {N : Nat} {ty : Nat → FieldType} {stk : List AV} {V1 : ASt} {v : AV} (hct : ACt mj d' 0 0 (aR b :: as) S V (some v) S V1) (hstk : stk = as.reverse ++ aR b :: st) (hO : isO S b c = true) (hcl : clsOK c R T N ty) (hR0 : mj.1 = R) (hm : mokV mj as.length) (hw : Cond.methodLink mi.1 ix mj.2.1 ∈ tG) (hd : decode mi.2.2.1 pc = .ok (.invokevirtual ix, 3)) (hq : pc + 3 = q) (hdd : d' + 1 ≤ d) (hcs : cs ≤ mc ∧ sl ≤ ms) (hst : (st.map acat).sum ≤ 8)
    (kk : AWz Z mi d mc ms cs sl q ls (v :: st) S V1 r S' V') : AWz Z mi d mc ms cs sl pc ls stk S V r S' V' :=
  Ak_callV q d' as hct hstk hO hcl hR0 hm hw hd hq hdd hcs rfl hst kk
theorem Ak_gV0 (q : Nat) {ix : Nat} {mj : AM} (d' : Nat) {c : Nat} {as : List AV} {b : Int} {R : String} {T : u_T} {N : Nat} {ty : Nat → FieldType} {stk : List AV} {V1 : ASt} (hct : ACt mj d' 0 0 (aR b :: as) S V none S V1) (hstk : stk = as.reverse ++ aR b :: st) (hO : isO S b c = true) (hcl : clsOK c R T N ty) (hR0 : mj.1 = R) (hm : mokV mj as.length) (hw : Cond.methodLink mi.1 ix mj.2.1 ∈ tG) (hd : decode mi.2.2.1 pc = .ok (.invokevirtual ix, 3)) (hq : pc + 3 = q) (hdd : d' + 1 ≤ d) (hcs : cs ≤ mc ∧ sl ≤ ms) (hst : (st.map acat).sum ≤ 8)
    (kk : AWz Z mi d mc ms cs sl q ls st S V1 r S' V') : AWz Z mi d mc ms cs sl pc ls stk S V r S' V' :=
  Ak_callV q d' as hct hstk hO hcl hR0 hm hw hd hq hdd hcs rfl hst kk
theorem Ak_gS1 (q : Nat) {ix : Nat} {mj : AM} (d' : Nat) {as : List AV} {stk : List AV} {V1 : ASt} {v : AV} (hct : ACt mj d' 0 0 as S V (some v) S V1) (hstk : stk = as.reverse ++ st) (hm : mokS mj as.length) (hw : Cond.methodLink mi.1 ix mj.2.1 ∈ tG) (hd : decode mi.2.2.1 pc = .ok (.invokestatic ix, 3)) (hq : pc + 3 = q) (hdd : d' + 1 ≤ d) (hcs : cs ≤ mc ∧ sl ≤ ms) (hst : (st.map acat).sum ≤ 8)
    (kk : AWz Z mi d mc ms cs sl q ls (v :: st) S V1 r S' V') : AWz Z mi d mc ms cs sl pc ls stk S V r S' V' :=
  Ak_callS q d' as hct hstk hm hw hd hq hdd hcs rfl hst kk
/-- a place of the script -/
def inS (L i : Int) : Bool := decide (0 ≤ i) && decide (i < L)
def zL (L : Int) (X : Int → Int) : AG → Prop := fun g => (gL g : Int) = L ∧ L ≤ 3072 ∧ ∀ j : Nat, (gX g j).toInt = X j
theorem Ak_sld {L i : Int} {X : Int → Int} (q : Nat) (hi : inS L i = true) (hd : decode mi.2.2.1 pc = .ok (.iaload, 1)) (hq : pc + 1 = q) (kk : AWz (zL L X) mi d mc ms cs sl q ls (aI (X i) :: st) S V r S' V') : AWz (zL L X) mi d mc ms cs sl pc ls (aI i :: aR (-4) :: st) S V r S' V' := by
  subst hq
  intro p l e s m args below meth cc g H locs la C hz hS hR hL hs
  obtain ⟨hri, hs1⟩ := ok_c hs
  obtain ⟨-, hs2⟩ := ok_c hs1
  simp only [inS, Bool.and_eq_true, decide_eq_true_eq] at hi
  obtain ⟨-, -, z1, z2, z3⟩ := id hz
  obtain ⟨-, -, -, -, -, -, -, -, -, -, -, -, -, -, -, -, k1, k2, k3⟩ := id C
  rw [List.map_cons, List.map_cons]
  have e1 : acv g (aR (-4)) = .ref (gK g 2) := rfl
  rw [e1]
  refine va_sld C.1 C.2.1 k1 k3 k2 hS ?_ hd ?_
  · rw [vp_in_iff, i32_id hri]
    omega
  · rw [clamp_i hri]
    have e2 : (Int32.ofInt (X i)) = gX g i.toNat := by
      have := z3 i.toNat
      rw [Int.toNat_of_nonneg hi.1] at this
      rw [← this, Int32.ofInt_toInt]
    rw [← e2]
    have hok : aok (aI (X i)) := by
      have := z3 i.toNat
      rw [Int.toNat_of_nonneg hi.1] at this
      show r32 (X i)
      rw [← this]
      exact r32_toInt _
    exact kk p l e s m args below meth cc g H locs la C hz hS hR hL (ok_m hok hs2)
theorem Ak_slen {L : Int} {X : Int → Int} (q : Nat) (hd : decode mi.2.2.1 pc = .ok (.arraylength, 1)) (hq : pc + 1 = q) (kk : AWz (zL L X) mi d mc ms cs sl q ls (aI L :: st) S V r S' V') : AWz (zL L X) mi d mc ms cs sl pc ls (aR (-4) :: st) S V r S' V' := by
  subst hq
  intro p l e s m args below meth cc g H locs la C hz hS hR hL hs
  obtain ⟨-, hs1⟩ := ok_c hs
  obtain ⟨-, -, z1, z2, z3⟩ := id hz
  obtain ⟨-, -, -, -, -, -, -, -, -, -, -, -, -, -, -, -, k1, k2, k3⟩ := id C
  rw [List.map_cons]
  have e1 : acv g (aR (-4)) = .ref (gK g 2) := rfl
  rw [e1]
  refine va_slen C.1 C.2.1 k1 k3 k2 hS hd ?_
  have e2 : Int32.ofNat (gL g) = Int32.ofInt L := by rw [← Int32.ofInt_eq_ofNat, z1]
  rw [e2]
  exact kk p l e s m args below meth cc g H locs la C hz hS hR hL (ok_m (v := aI L) ⟨by omega, by omega⟩ hs1)
end A10G
theorem clX0 : clsOK 0 RX0 TX0 2 tyX0 := ⟨by decide, rfl, rfl, inX0, tyX0_ok, nmX0, by decide +kernel, by decide +kernel⟩
theorem clX1 : clsOK 1 RX1 TX1 17 tyX1 := ⟨by decide, rfl, rfl, inX1, tyX1_ok, nmX1, by decide +kernel, by decide +kernel⟩
theorem clX2 : clsOK 2 RX2 TX2 3 tyX2 := ⟨by decide, rfl, rfl, inX2, tyX2_ok, nmX2, by decide +kernel, by decide +kernel⟩
theorem clX3 : clsOK 3 RX3 TX3 3 tyX3 := ⟨by decide, rfl, rfl, inX3, tyX3_ok, nmX3, by decide +kernel, by decide +kernel⟩
theorem clX4 : clsOK 4 RX4 TX4 15 tyX4 := ⟨by decide, rfl, rfl, inX4, tyX4_ok, nmX4, by decide +kernel, by decide +kernel⟩
theorem clX5 : clsOK 5 RX5 TX5 6 tyX5 := ⟨by decide, rfl, rfl, inX5, tyX5_ok, nmX5, by decide +kernel, by decide +kernel⟩
theorem clX6 : clsOK 6 RX6 TX6 2 tyX6 := ⟨by decide, rfl, rfl, inX6, tyX6_ok, nmX6, by decide +kernel, by decide +kernel⟩
theorem clX7 : clsOK 7 RX7 TX7 5 tyX7 := ⟨by decide, rfl, rfl, inX7, tyX7_ok, nmX7, by decide +kernel, by decide +kernel⟩
theorem clX8 : clsOK 8 RX8 TX8 5 tyX8 := ⟨by decide, rfl, rfl, inX8, tyX8_ok, nmX8, by decide +kernel, by decide +kernel⟩
theorem clX9 : clsOK 9 RX9 TX9 6 tyX9 := ⟨by decide, rfl, rfl, inX9, tyX9_ok, nmX9, by decide +kernel, by decide +kernel⟩
theorem clX10 : clsOK 10 RX10 TX10 13 tyX10 := ⟨by decide, rfl, rfl, inX10, tyX10_ok, nmX10, by decide +kernel, by decide +kernel⟩
theorem clX11 : clsOK 11 RX11 TX11 6 tyX11 := ⟨by decide, rfl, rfl, inX11, tyX11_ok, nmX11, by decide +kernel, by decide +kernel⟩
theorem clX12 : clsOK 12 RX12 TX12 20 tyX12 := ⟨by decide, rfl, rfl, inX12, tyX12_ok, nmX12, by decide +kernel, by decide +kernel⟩
theorem clX13 : clsOK 13 RX13 TX13 81 tyX13 := ⟨by decide, rfl, rfl, inX13, tyX13_ok, nmX13, by decide +kernel, by decide +kernel⟩
theorem tk1 (i : Nat) {w : Cond} (h : tables_1_1[i]? = some w) (hg : goodWord w = true) : w ∈ tG := tG_of (List.mem_append_right _ (List.mem_append_left _ (List.mem_of_getElem? h))) hg
theorem tk2 (i : Nat) {w : Cond} (h : tables_1_2[i]? = some w) (hg : goodWord w = true) : w ∈ tG := tG_of (List.mem_append_right _ (List.mem_append_right _ (List.mem_append_left _ (List.mem_of_getElem? h)))) hg
theorem tk3 (i : Nat) {w : Cond} (h : tables_1_3[i]? = some w) (hg : goodWord w = true) : w ∈ tG := tG_of (List.mem_append_right _ (List.mem_append_right _ (List.mem_append_right _ (List.mem_append_left _ (List.mem_of_getElem? h))))) hg
theorem tk4 (i : Nat) {w : Cond} (h : tables_1_4[i]? = some w) (hg : goodWord w = true) : w ∈ tG := tG_of (List.mem_append_right _ (List.mem_append_right _ (List.mem_append_right _ (List.mem_append_right _ (List.mem_append_left _ (List.mem_of_getElem? h)))))) hg
theorem tk5 (i : Nat) {w : Cond} (h : tables_1_5[i]? = some w) (hg : goodWord w = true) : w ∈ tG := tG_of (List.mem_append_right _ (List.mem_append_right _ (List.mem_append_right _ (List.mem_append_right _ (List.mem_append_right _ (List.mem_append_left _ (List.mem_of_getElem? h))))))) hg
theorem tk6 (i : Nat) {w : Cond} (h : tables_1_6[i]? = some w) (hg : goodWord w = true) : w ∈ tG := tG_of (List.mem_append_right _ (List.mem_append_right _ (List.mem_append_right _ (List.mem_append_right _ (List.mem_append_right _ (List.mem_append_right _ (List.mem_append_left _ (List.mem_of_getElem? h)))))))) hg
theorem tk7 (i : Nat) {w : Cond} (h : tables_1_7[i]? = some w) (hg : goodWord w = true) : w ∈ tG := tG_of (List.mem_append_right _ (List.mem_append_right _ (List.mem_append_right _ (List.mem_append_right _ (List.mem_append_right _ (List.mem_append_right _ (List.mem_append_right _ (List.mem_append_left _ (List.mem_of_getElem? h))))))))) hg
theorem tk8 (i : Nat) {w : Cond} (h : tables_1_8[i]? = some w) (hg : goodWord w = true) : w ∈ tG := tG_of (List.mem_append_right _ (List.mem_append_right _ (List.mem_append_right _ (List.mem_append_right _ (List.mem_append_right _ (List.mem_append_right _ (List.mem_append_right _ (List.mem_append_right _ (List.mem_append_left _ (List.mem_of_getElem? h)))))))))) hg
theorem tk9 (i : Nat) {w : Cond} (h : tables_1_9[i]? = some w) (hg : goodWord w = true) : w ∈ tG := tG_of (List.mem_append_right _ (List.mem_append_right _ (List.mem_append_right _ (List.mem_append_right _ (List.mem_append_right _ (List.mem_append_right _ (List.mem_append_right _ (List.mem_append_right _ (List.mem_append_right _ (List.mem_of_getElem? h)))))))))) hg
theorem ts1 (i : Nat) (q : MethodName × Nat) (h : lw_privs_1[i]? = some q) (hg : goodWord (Cond.selects q.1.cls q.1 q.1) = true) : Cond.selects q.1.cls q.1 q.1 ∈ tG := tG_of (List.mem_append_left _ (List.mem_map.mpr ⟨q, List.mem_append_left _ (List.mem_of_getElem? h), rfl⟩)) hg
theorem ts2 (i : Nat) (q : MethodName × Nat) (h : lw_privs_2[i]? = some q) (hg : goodWord (Cond.selects q.1.cls q.1 q.1) = true) : Cond.selects q.1.cls q.1 q.1 ∈ tG := tG_of (List.mem_append_left _ (List.mem_map.mpr ⟨q, List.mem_append_right _ (List.mem_append_left _ (List.mem_of_getElem? h)), rfl⟩)) hg
theorem ts3 (i : Nat) (q : MethodName × Nat) (h : lw_privs_3[i]? = some q) (hg : goodWord (Cond.selects q.1.cls q.1 q.1) = true) : Cond.selects q.1.cls q.1 q.1 ∈ tG := tG_of (List.mem_append_left _ (List.mem_map.mpr ⟨q, List.mem_append_right _ (List.mem_append_right _ (List.mem_append_left _ (List.mem_of_getElem? h))), rfl⟩)) hg
theorem ts4 (i : Nat) (q : MethodName × Nat) (h : lw_privs_4[i]? = some q) (hg : goodWord (Cond.selects q.1.cls q.1 q.1) = true) : Cond.selects q.1.cls q.1 q.1 ∈ tG := tG_of (List.mem_append_left _ (List.mem_map.mpr ⟨q, List.mem_append_right _ (List.mem_append_right _ (List.mem_append_right _ (List.mem_append_left _ (List.mem_of_getElem? h)))), rfl⟩)) hg
theorem ts5 (i : Nat) (q : MethodName × Nat) (h : lw_privs_5[i]? = some q) (hg : goodWord (Cond.selects q.1.cls q.1 q.1) = true) : Cond.selects q.1.cls q.1 q.1 ∈ tG := tG_of (List.mem_append_left _ (List.mem_map.mpr ⟨q, List.mem_append_right _ (List.mem_append_right _ (List.mem_append_right _ (List.mem_append_right _ (List.mem_append_left _ (List.mem_of_getElem? h))))), rfl⟩)) hg
theorem ts6 (i : Nat) (q : MethodName × Nat) (h : lw_privs_6[i]? = some q) (hg : goodWord (Cond.selects q.1.cls q.1 q.1) = true) : Cond.selects q.1.cls q.1 q.1 ∈ tG := tG_of (List.mem_append_left _ (List.mem_map.mpr ⟨q, List.mem_append_right _ (List.mem_append_right _ (List.mem_append_right _ (List.mem_append_right _ (List.mem_append_right _ (List.mem_append_left _ (List.mem_of_getElem? h)))))), rfl⟩)) hg
theorem ts7 (i : Nat) (q : MethodName × Nat) (h : lw_privs_7[i]? = some q) (hg : goodWord (Cond.selects q.1.cls q.1 q.1) = true) : Cond.selects q.1.cls q.1 q.1 ∈ tG := tG_of (List.mem_append_left _ (List.mem_map.mpr ⟨q, List.mem_append_right _ (List.mem_append_right _ (List.mem_append_right _ (List.mem_append_right _ (List.mem_append_right _ (List.mem_append_right _ (List.mem_append_left _ (List.mem_of_getElem? h))))))), rfl⟩)) hg
theorem ts8 (i : Nat) (q : MethodName × Nat) (h : lw_privs_8[i]? = some q) (hg : goodWord (Cond.selects q.1.cls q.1 q.1) = true) : Cond.selects q.1.cls q.1 q.1 ∈ tG := tG_of (List.mem_append_left _ (List.mem_map.mpr ⟨q, List.mem_append_right _ (List.mem_append_right _ (List.mem_append_right _ (List.mem_append_right _ (List.mem_append_right _ (List.mem_append_right _ (List.mem_append_right _ (List.mem_append_left _ (List.mem_of_getElem? h)))))))), rfl⟩)) hg
theorem ts9 (i : Nat) (q : MethodName × Nat) (h : lw_privs_9[i]? = some q) (hg : goodWord (Cond.selects q.1.cls q.1 q.1) = true) : Cond.selects q.1.cls q.1 q.1 ∈ tG := tG_of (List.mem_append_left _ (List.mem_map.mpr ⟨q, List.mem_append_right _ (List.mem_append_right _ (List.mem_append_right _ (List.mem_append_right _ (List.mem_append_right _ (List.mem_append_right _ (List.mem_append_right _ (List.mem_append_right _ (List.mem_of_getElem? h)))))))), rfl⟩)) hg
theorem lk_copy : Cond.native arraycopyName ∈ tG ∧ Cond.static arraycopyName ∈ tG ∧ Cond.initialized "java/lang/System" ∈ tG := ⟨tk5 163 rfl rfl, tk5 162 rfl rfl, tk1 22 rfl rfl⟩
