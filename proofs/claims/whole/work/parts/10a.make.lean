/-! rows of what is made: objects, arrays, final fields, constructors -/
def nSo (S : ASh) (c : Nat) : ASh := (aN S + 1, (fun a => if a = aN S then c else aT S a), aLn S, arow (aF S) (aN S) (fun _ => -1))
def nVo (S : ASh) (V : ASt) (c : Nat) : ASt := arow V (aN S) (fun k => if cty c k.toNat = 3 then -1 else 0)
def nSa (S : ASh) (c : Nat) (n : Int) : ASh := (aN S + 1, (fun a => if a = aN S then 100 + c else aT S a), (fun a => if a = aN S then n else aLn S a), aF S)
def nVa (S : ASh) (V : ASt) (c : Nat) : ASt := arow V (aN S) (fun _ => if c = 3 then -1 else 0)
def nSf (S : ASh) (a k x : Int) : ASh := (aN S, aT S, aLn S, aset (aF S) a k x)
theorem aws_push {g : AG} {S S1 : ASh} {V V1 : ASt} (hN : aN S1 = aN S + 1) (h : ∀ i : Nat, i < aN S → acell g S1 V1 i = acell g S V i) : aws g S1 V1 = aws g S V ++ [(gB g + aN S, acell g S1 V1 (aN S))] := by
  unfold aws
  rw [hN, List.range_succ, List.map_append]
  congr 1
  exact List.map_congr_left (fun i hi => by rw [h i (List.mem_range.mp hi)])
theorem acell_eq {g : AG} {S S1 : ASh} {V V1 : ASt} {i : Int} (h1 : aT S1 i = aT S i) (h2 : aLn S1 i = aLn S i) (h3 : aF S1 i = aF S i) (h4 : V1 i = V i) : acell g S1 V1 i = acell g S V i := by
  unfold acell afs afd
  rw [h1, h2, h3, h4]
theorem acok_eq {S S1 : ASh} {V V1 : ASt} {i : Int} (h1 : aT S1 i = aT S i) (h2 : aLn S1 i = aLn S i) (h4 : V1 i = V i) : acok S1 V1 i ↔ acok S V i := by
  unfold acok
  rw [h1, h2, h4]
section A10A
variable {Z : AG → Prop} {mi : AM} {d mc ms cs sl pc : Nat} {ls : List (Option AV)} {st : List AV} {S : ASh} {V : ASt} {r : Option AV} {S' : ASh} {V' : ASt}
theorem Ak_new (q : Nat) {c ix : Nat} {R : String} {T : u_T} {N : Nat} {ty : Nat → FieldType} (hcl : clsOK c R T N ty) (hw : Cond.classLink mi.1 ix R ∈ tG) (hw1 : Cond.instantiable R N ∈ tG) (hw2 : Cond.initialized R ∈ tG) (hd : decode mi.2.2.1 pc = .ok (.new ix, 3)) (hq : pc + 3 = q) (hc : cs + 1 ≤ mc) (hsl : sl + N ≤ ms)
    (kk : ∀ S1 V1, S1 = nSo S c → V1 = nVo S V c → AWz Z mi d mc ms (cs + 1) (sl + N) q ls (aR (aN S) :: st) S1 V1 r S' V') : AWz Z mi d mc ms cs sl pc ls st S V r S' V' := by
  subst hq
  refine AWz.sized fun p l e s m args below meth cc g H locs la hsz C hz hS hR hL hs => ?_
  obtain ⟨c1, c2, c3, c4, c5, c6, c7, c8⟩ := hcl
  have hts := C.2.2.2.2.2.1
  have W1 : ∀ w ∈ tG, w.before args s = true := hts
  have hKn := C.2.2.2.2.2.2.2.2.1.1 c _ c2
  refine W.newcK C.1 C.2.1 C.2.2.2.2.1 (W1 _ hw) (W1 _ hw1) (W1 _ hw2) rfl hd hc hsl hKn.2.1 rfl fun H1 kC hkC e1 z1 o1 => ?_
  have hk : ∀ (k : Nat) (x : Nat × va_E), (aws g S V)[k]? = some x → H1[x.1]? = H[x.1]? := fun k x hx => o1 x.1 ((hR.1 k x hx).lt)
  have eT : ∀ i : Nat, i < aN S → aT (nSo S c) i = aT S i := fun i hi => if_neg (by omega)
  have eF : ∀ i : Nat, i < aN S → aF (nSo S c) i = aF S i := fun i hi => arow_n _ _ (by omega)
  have eV : ∀ i : Nat, i < aN S → nVo S V c i = V i := fun i hi => arow_n _ _ (by omega)
  have tN : aT (nSo S c) (aN S) = c := if_pos rfl
  have hS1 : va_S (gM g) s.heap H1 locs := ⟨Nat.le_trans hS.1 (by omega), fun x h1 h2 => (o1 x (Nat.lt_of_lt_of_le h1 hS.1)).trans (hS.2.1 x h1 h2), hS.2.2⟩
  have hR1 : AHp g (nSo S c) (nVo S V c) H1 := by
    refine ⟨?_, fun i hi => ?_⟩
    · rw [aws_push rfl (fun i hi => acell_eq (eT i hi) rfl (eF i hi) (eV i hi))]
      refine (hR.1.kept hk).app (fun k x hx => ?_)
      have hz0 : k < 1 := (List.getElem?_eq_some_iff.mp hx).1
      rw [show k = 0 by omega] at hx
      cases hx
      rw [acell_o g _ tN (by omega)]
      rw [hsz] at e1
      refine ⟨_, c2, (u_born ty hts c4 hKn hkC e1 c5).to (fun j hj => ?_)⟩
      have e2 : vp_V (afs g (nSo S c) (nVo S V c) (aN S) c) j = afv g (cty c j) (afd (nSo S c) (nVo S V c) c (aN S) j) := by
        unfold vp_V
        rw [List.getD_eq_getElem?_getD, afs_at g _ _ _ c (by omega)]
        rfl
      rw [e2, c8 j hj]
      unfold dfv afv afd nVo
      rw [arow_s]
      have e3 : aF (nSo S c) (aN S) = fun _ => -1 := arow_s _ _ _
      rw [e3, Int.toNat_natCast]
      by_cases t1 : cty c j = 1
      · rw [t1]; rfl
      · rw [if_neg t1, if_neg t1]
        by_cases t3 : 3 ≤ cty c j
        · rw [if_pos t3, if_pos t3]
          by_cases t4 : cty c j = 4
          · rw [if_pos t4]; rfl
          · rw [if_neg t4]
            have t5 : cty c j < 5 ∨ 5 ≤ cty c j := by omega
            by_cases t6 : cty c j = 3
            · rw [if_pos t6]; rfl
            · exfalso
              have hlt : ∀ a ∈ ctyT, ∀ b ∈ a, b < 5 := by decide
              have h5 : cty c j < 5 := by
                unfold cty
                rw [List.getD_eq_getElem?_getD, List.getD_eq_getElem?_getD]
                cases h1 : ctyT[c]? with
                | none => simp
                | some a =>
                  simp only [Option.getD_some]
                  cases h2 : a[j]? with
                  | none => simp
                  | some b => exact hlt a (List.mem_of_getElem? h1) b (List.mem_of_getElem? h2)
              omega
        · rw [if_neg t3, if_neg t3, if_neg (by omega), if_neg (by omega)]; rfl
    · by_cases h : i < aN S
      · exact (acok_eq (eT i h) rfl (eV i h)).mpr (hR.2 i h)
      · have hi2 : i = aN S := by
          have : i < aN S + 1 := hi
          omega
        subst hi2
        refine (acok_o tN (by omega)).mpr ⟨c1, fun k hk => ?_⟩
        unfold nVo
        rw [arow_s, Int.toNat_natCast]
        unfold arg
        by_cases t3 : cty c k = 3
        · rw [if_pos t3, t3]; trivial
        · rw [if_neg t3]
          by_cases t0 : cty c k = 0
          · rw [if_pos t0]; exact r32_0
          · rw [if_neg t0]
            by_cases t1 : cty c k = 1
            · rw [if_pos t1]; exact ⟨by decide, by decide⟩
            · rw [if_neg t1]
              by_cases t2 : cty c k = 2
              · rw [if_pos t2]; exact Or.inl rfl
              · rw [if_neg t2]; trivial
  have := kk _ _ rfl rfl p l e s m args below meth cc g H1 locs la C ⟨hz.1, by show _ = gB g + (aN S + 1); omega, hz.2.2⟩ hS1 hR1 hL (ok_m (v := aR (aN S)) trivial hs)
  rw [List.map_cons, acv_Rn g (by omega), Int.toNat_natCast] at this
  show W p l e (arm d mc ms) s m args below meth cc H1 locs (cs + 1) (sl + N) _ (F0 m (pc + 3) la (.ref H.size :: st.map (acv g)))
  rw [hsz]
  exact this
theorem Ak_newa (q : Nat) {c : Nat} {n : Int} {at' : ArrayType} {ty : FieldType} (hty : newarray.typeOf at' = ty) (hg : ∀ g : AG, (tyG g)[c]? = some (gA g c, ty)) (hco : c < 3) (hpt : ∀ (U : State) (cA : ClassId), va_RA U cA ty = (U.vm.findClass ("[" ++ ty.toString) = some cA)) (hdv : ∀ (g : AG) (cA : ClassId) (k : Nat), vp_cell cA (k, aarr g c (fun _ => 0)) = arrV cA k (fun _ => defaultValue ty)) (hcb : componentBytes ty ≤ 8) (hw : Cond.arrayClass ty ∈ tG) (hn : 0 ≤ n) (hn2 : n ≤ 10000) (hd : decode mi.2.2.1 pc = .ok (.newarray at', 2)) (hq : pc + 2 = q) (hc : cs + 1 ≤ mc) (hsl : sl + n.toNat ≤ ms)
    (kk : ∀ S1 V1, S1 = nSa S c n → V1 = nVa S V c → AWz Z mi d mc ms (cs + 1) (sl + n.toNat) q ls (aR (aN S) :: st) S1 V1 r S' V') : AWz Z mi d mc ms cs sl pc ls (aI n :: st) S V r S' V' := by
  subst hq
  subst hty
  refine AWz.sized fun p l e s m args below meth cc g H locs la hsz C hz hS hR hL hs => ?_
  have hts := C.2.2.2.2.2.1
  have hrn : r32 n := ⟨by omega, by omega⟩
  refine va_newaK C.1 C.2.1 (hts _ hw) rfl hd rfl (fun z => by have := (i32_lt hrn r32_0).mp z; omega) (clamp_i hrn) (by
      have : n.toNat * componentBytes (newarray.typeOf at') ≤ 10000 * 8 := Nat.mul_le_mul (by omega) hcb
      omega) hc hsl rfl fun H1 cA e1 z1 o1 hAr hNm => ?_
  have hcA : cA = gA g c := by
    have h2 := (C.2.2.2.2.2.2.2.2.1.2 c _ (hg g)).2
    rw [hpt] at h2
    exact Option.some.inj (hNm.symm.trans h2)
  subst hcA
  have hk : ∀ (k : Nat) (x : Nat × va_E), (aws g S V)[k]? = some x → H1[x.1]? = H[x.1]? := fun k x hx => o1 x.1 ((hR.1 k x hx).lt)
  have eT : ∀ i : Nat, i < aN S → aT (nSa S c n) i = aT S i := fun i hi => if_neg (by omega)
  have eL : ∀ i : Nat, i < aN S → aLn (nSa S c n) i = aLn S i := fun i hi => if_neg (by omega)
  have eV : ∀ i : Nat, i < aN S → nVa S V c i = V i := fun i hi => arow_n _ _ (by omega)
  have tN : aT (nSa S c n) (aN S) = 100 + c := if_pos rfl
  have lN' : aLn (nSa S c n) (aN S) = n := if_pos rfl
  have rV : nVa S V c (aN S) = fun _ => 0 := by unfold nVa; rw [arow_s, if_neg (by omega)]
  have hS1 : va_S (gM g) s.heap H1 locs := ⟨Nat.le_trans hS.1 (by omega), fun x h1 h2 => (o1 x (Nat.lt_of_lt_of_le h1 hS.1)).trans (hS.2.1 x h1 h2), hS.2.2⟩
  have hR1 : AHp g (nSa S c n) (nVa S V c) H1 := by
    refine ⟨?_, fun i hi => ?_⟩
    · rw [aws_push rfl (fun i hi => acell_eq (eT i hi) (eL i hi) rfl (eV i hi))]
      refine (hR.1.kept hk).app (fun k x hx => ?_)
      have hz0 : k < 1 := (List.getElem?_eq_some_iff.mp hx).1
      rw [show k = 0 by omega] at hx
      cases hx
      rw [acell_a g _ tN, lN', rV]
      show H1[gB g + aN S]? = some (vp_cell _ _)
      rw [hdv, ← hsz]
      exact e1
    · by_cases h : i < aN S
      · exact (acok_eq (eT i h) (eL i h) (eV i h)).mpr (hR.2 i h)
      · have hi2 : i = aN S := by
          have : i < aN S + 1 := hi
          omega
        subst hi2
        refine (acok_a tN).mpr ⟨by omega, by omega, by omega, fun j => ?_⟩
        rw [rV]
        rcases (show c = 0 ∨ c = 1 ∨ c = 2 by omega) with h0 | h0 | h0 <;> subst h0
        · exact r32_0
        · exact (⟨by decide, by decide⟩ : r64 0)
        · exact (Or.inl rfl : (0 : Int) = 0 ∨ (0 : Int) = 1)
  have := kk _ _ rfl rfl p l e s m args below meth cc g H1 locs la C ⟨hz.1, by show _ = gB g + (aN S + 1); omega, hz.2.2⟩ hS1 hR1 hL (ok_m (v := aR (aN S)) trivial (ok_c hs).2)
  rw [List.map_cons, acv_Rn g (by omega), Int.toNat_natCast] at this
  show W p l e (arm d mc ms) s m args below meth cc H1 locs (cs + 1) (sl + n.toNat) _ (F0 m (pc + 2) la (.ref H.size :: st.map (acv g)))
  rw [hsz]
  exact this
theorem Ak_newaI (q : Nat) {n : Int} (hw : Cond.arrayClass .int ∈ tG) (hn : 0 ≤ n) (hn2 : n ≤ 10000) (hd : decode mi.2.2.1 pc = .ok (.newarray .int, 2)) (hq : pc + 2 = q) (hc : cs + 1 ≤ mc) (hsl : sl + n.toNat ≤ ms)
    (kk : ∀ S1 V1, S1 = nSa S 0 n → V1 = nVa S V 0 → AWz Z mi d mc ms (cs + 1) (sl + n.toNat) q ls (aR (aN S) :: st) S1 V1 r S' V') : AWz Z mi d mc ms cs sl pc ls (aI n :: st) S V r S' V' :=
  Ak_newa (c := 0) (at' := .int) (ty := .int) q rfl (fun g => rfl) (by decide) (fun U cA => rfl) (fun g cA k => by rw [show aarr g 0 (fun _ => 0) = .inl (fun _ => 0) from rfl, vp_cell_i]; rfl) (by decide) hw hn hn2 hd hq hc hsl kk
theorem Ak_newaJ (q : Nat) {n : Int} (hw : Cond.arrayClass .long ∈ tG) (hn : 0 ≤ n) (hn2 : n ≤ 10000) (hd : decode mi.2.2.1 pc = .ok (.newarray .long, 2)) (hq : pc + 2 = q) (hc : cs + 1 ≤ mc) (hsl : sl + n.toNat ≤ ms)
    (kk : ∀ S1 V1, S1 = nSa S 1 n → V1 = nVa S V 1 → AWz Z mi d mc ms (cs + 1) (sl + n.toNat) q ls (aR (aN S) :: st) S1 V1 r S' V') : AWz Z mi d mc ms cs sl pc ls (aI n :: st) S V r S' V' :=
  Ak_newa (c := 1) (at' := .long) (ty := .long) q rfl (fun g => rfl) (by decide) (fun U cA => rfl) (fun g cA k => by rw [show aarr g 1 (fun _ => 0) = .inr (.inl (fun _ => 0)) from rfl, vp_cell_l]; rfl) (by decide) hw hn hn2 hd hq hc hsl kk
theorem Ak_newaZ (q : Nat) {n : Int} (hw : Cond.arrayClass .boolean ∈ tG) (hn : 0 ≤ n) (hn2 : n ≤ 10000) (hd : decode mi.2.2.1 pc = .ok (.newarray .boolean, 2)) (hq : pc + 2 = q) (hc : cs + 1 ≤ mc) (hsl : sl + n.toNat ≤ ms)
    (kk : ∀ S1 V1, S1 = nSa S 2 n → V1 = nVa S V 2 → AWz Z mi d mc ms (cs + 1) (sl + n.toNat) q ls (aR (aN S) :: st) S1 V1 r S' V') : AWz Z mi d mc ms cs sl pc ls (aI n :: st) S V r S' V' :=
  Ak_newa (c := 2) (at' := .boolean) (ty := .boolean) q rfl (fun g => rfl) (by decide) (fun U cA => rfl) (fun g cA k => by rw [show aarr g 2 (fun _ => 0) = .inl (fun _ => 0) from rfl, vp_cell_i]; rfl) (by decide) hw hn hn2 hd hq hc hsl kk
theorem Ak_anew (q : Nat) {n : Int} {ix : Nat} (hw : Cond.classLink mi.1 ix "SundayGame$Slate" ∈ tG) (hn : 0 ≤ n) (hn2 : n ≤ 10000) (hd : decode mi.2.2.1 pc = .ok (.anewarray ix, 3)) (hq : pc + 3 = q) (hc : cs + 1 ≤ mc) (hsl : sl + n.toNat ≤ ms)
    (kk : ∀ S1 V1, S1 = nSa S 3 n → V1 = nVa S V 3 → AWz Z mi d mc ms (cs + 1) (sl + n.toNat) q ls (aR (aN S) :: st) S1 V1 r S' V') : AWz Z mi d mc ms cs sl pc ls (aI n :: st) S V r S' V' := by
  subst hq
  refine AWz.sized fun p l e s m args below meth cc g H locs la hsz C hz hS hR hL hs => ?_
  have hts := C.2.2.2.2.2.1
  have hrn : r32 n := ⟨by omega, by omega⟩
  refine W.anew C.1 C.2.1 C.2.2.2.2.1 (hts _ hw) (va_AO.use C.2.2.2.2.2.2.2.2.2.2.1) rfl hd rfl (fun z => by have := (i32_lt hrn r32_0).mp z; omega) (by rw [clamp_i hrn]; omega) hc (by rw [clamp_i hrn]; exact hsl) fun cA kA comp f1 f2 f3 f4 => ?_
  rw [clamp_i hrn]
  generalize hH1 : H.push ({ cls := cA, slots := Array.replicate n.toNat .null, vm := .none } : Cell) = H1
  have z1 : H1.size = H.size + 1 := by rw [← hH1, Array.size_push]
  have e1 : H1[H.size]? = some (arrV cA n.toNat (fun _ => .null)) := by rw [← hH1, Array.getElem?_push_size, ← arrV_new]
  have o1 : ∀ q : Nat, q < H.size → H1[q]? = H[q]? := fun q hq => by rw [← hH1, Array.getElem?_push, if_neg (Nat.ne_of_lt hq)]
  have hcA : cA = gA g 3 := by
    obtain ⟨kA', comp', k1, k2, k3, k4⟩ := (C.2.2.2.2.2.2.2.2.1.2 3 _ rfl).2
    exact Option.some.inj (f1.symm.trans k4)
  subst hcA
  have hk : ∀ (k : Nat) (x : Nat × va_E), (aws g S V)[k]? = some x → H1[x.1]? = H[x.1]? := fun k x hx => o1 x.1 ((hR.1 k x hx).lt)
  have eT : ∀ i : Nat, i < aN S → aT (nSa S 3 n) i = aT S i := fun i hi => if_neg (by omega)
  have eL : ∀ i : Nat, i < aN S → aLn (nSa S 3 n) i = aLn S i := fun i hi => if_neg (by omega)
  have eV : ∀ i : Nat, i < aN S → nVa S V 3 i = V i := fun i hi => arow_n _ _ (by omega)
  have tN : aT (nSa S 3 n) (aN S) = 100 + 3 := if_pos rfl
  have lN' : aLn (nSa S 3 n) (aN S) = n := if_pos rfl
  have rV : nVa S V 3 (aN S) = fun _ => -1 := by unfold nVa; rw [arow_s]; rfl
  have hS1 : va_S (gM g) s.heap H1 locs := ⟨Nat.le_trans hS.1 (by omega), fun x h1 h2 => (o1 x (Nat.lt_of_lt_of_le h1 hS.1)).trans (hS.2.1 x h1 h2), hS.2.2⟩
  have hR1 : AHp g (nSa S 3 n) (nVa S V 3) H1 := by
    refine ⟨?_, fun i hi => ?_⟩
    · rw [aws_push rfl (fun i hi => acell_eq (eT i hi) (eL i hi) rfl (eV i hi))]
      refine (hR.1.kept hk).app (fun k x hx => ?_)
      have hz0 : k < 1 := (List.getElem?_eq_some_iff.mp hx).1
      rw [show k = 0 by omega] at hx
      cases hx
      rw [acell_a g _ tN, lN', rV]
      show H1[gB g + aN S]? = some (vp_cell _ _)
      rw [show aarr g 3 (fun _ => -1) = .inr (.inr (.inr (.inr (fun _ => none)))) from rfl, vp_cell_q, ← hsz]
      exact e1
    · by_cases h : i < aN S
      · exact (acok_eq (eT i h) (eL i h) (eV i h)).mpr (hR.2 i h)
      · have hi2 : i = aN S := by
          have : i < aN S + 1 := hi
          omega
        subst hi2
        refine (acok_a tN).mpr ⟨by omega, by omega, by omega, fun j => ?_⟩
        trivial
  have := kk _ _ rfl rfl p l e s m args below meth cc g H1 locs la C ⟨hz.1, by show _ = gB g + (aN S + 1); omega, hz.2.2⟩ hS1 hR1 hL (ok_m (v := aR (aN S)) trivial (ok_c hs).2)
  rw [List.map_cons, acv_Rn g (by omega), Int.toNat_natCast] at this
  show W p l e (arm d mc ms) s m args below meth cc H1 locs (cs + 1) (sl + n.toNat) _ (F0 m (pc + 3) la (.ref H.size :: st.map (acv g)))
  rw [hsz]
  exact this
theorem Ak_aastore (q : Nat) {a i x : Int} (hA : isA S a 3 i = true) (hx : isO S x 6 = true) (hd : decode mi.2.2.1 pc = .ok (.aastore, 1)) (hq : pc + 1 = q) (kk : ∀ V1, V1 = aset V a i x → AWz Z mi d mc ms cs sl q ls st S V1 r S' V') : AWz Z mi d mc ms cs sl pc ls (aR x :: aI i :: aR a :: st) S V r S' V' := by
  subst hq
  intro p l e s m args below meth cc g H locs la C hz hS hR hL hs
  obtain ⟨-, hs0⟩ := ok_c hs
  obtain ⟨hi, hs1⟩ := ok_c hs0
  obtain ⟨-, hs2⟩ := ok_c hs1
  obtain ⟨hO, h0, h1⟩ := isA_d hA
  obtain ⟨n, rfl, hn, hT⟩ := isO_d hO
  obtain ⟨nx, rfl, hnx, hTx⟩ := isO_d hx
  have he := aws_at g S V hn
  rw [acell_a g V hT] at he
  have hex := aws_at g S V hnx
  rw [acell_o g V hTx (by decide)] at hex
  obtain ⟨b1, b2, b3, hav⟩ := (acok_a hT).mp (hR.2 n hn)
  rw [List.map_cons, List.map_cons, List.map_cons, acv_Rn g (show (0 : Int) ≤ (n : Int) by omega), acv_Rn g (show (0 : Int) ≤ (nx : Int) by omega), Int.toNat_natCast, Int.toNat_natCast]
  refine va_astq C.1 C.2.1 C.2.2.2.2.2.2.2.2.1 hR.1 (aws_D g S V) hS n 3 nx 6 he rfl hex rfl (vp_in_i hi h0 h1) hd fun H1 locs1 hP1 hD1 hS1 => ?_
  refine kk _ rfl p l e s m args below meth cc g H1 locs1 la C hz hS1 (AHp_set hn hR.2 ?_ ?_) hL hs2
  · refine (acok_a hT).mpr ⟨b1, b2, b3, fun j => ?_⟩
    trivial
  · rw [acell_a g _ hT, arow_s]
    rw [clamp_i hi] at hP1
    have ef : aarr g 3 (upI (V n) i nx) = .inr (.inr (.inr (.inr (va_up (fun j : Nat => aref g (V n j)) i.toNat (some (gB g + nx)))))) := by
      show Sum.inr (Sum.inr (Sum.inr (Sum.inr _))) = Sum.inr (Sum.inr (Sum.inr (Sum.inr _)))
      congr 4
      funext j
      unfold va_up upI
      by_cases z : j = i.toNat
      · rw [if_pos z, if_pos (by omega), aref_nn g (by omega), Int.toNat_natCast]
      · rw [if_neg z, if_neg (by omega)]
    rw [ef]
    exact hP1
theorem Ak_putF (q : Nat) {a : Int} {c : Nat} (k : Nat) {ix : Nat} {R : String} {T : u_T} {N : Nat} {ty : Nat → FieldType} {x : Int} (hO : isO S a c = true) (hcl : clsOK c R T N ty) (hk : k < N) (hfin : (T k).2.2.2 = true) (ht : cty c k = 4) (hty : ∀ o, narrow (ty k) (va_rf o) = va_rf o ∧ fits (ty k) (va_rf o) = true) (hm : mi.1 = R) (hmn : mi.2.1.name = "<init>") (hw : Cond.fieldLink mi.1 ix (T k).1 (T k).2.1 (T k).2.2.1 ∈ tG) (hd : decode mi.2.2.1 pc = .ok (.putfield ix, 3)) (hq : pc + 3 = q)
    (kk : ∀ S1, S1 = nSf S a k x → AWz Z mi d mc ms cs sl q ls st S1 V r S' V') : AWz Z mi d mc ms cs sl pc ls (aR x :: aR a :: st) S V r S' V' := by
  subst hq
  intro p l e s m args below meth cc g H locs la C hz hS hR hL hs
  obtain ⟨hv1, hs1⟩ := ok_c hs
  obtain ⟨-, hs2⟩ := ok_c hs1
  obtain ⟨n, rfl, hn, hT⟩ := isO_d hO
  obtain ⟨c1, c2, c3, c4, c5, c6, c7, c8⟩ := hcl
  have he := aws_at g S V hn
  rw [acell_o g V hT (by omega)] at he
  rw [List.map_cons, List.map_cons, acv_Rn g (show (0 : Int) ≤ (n : Int) by omega), Int.toNat_natCast]
  refine va_putF C.1 C.2.1 (Ts := tG) C.2.2.2.2.2.1 c4 ty c5 c6 C.2.2.2.2.1 C.2.2.2.2.2.2.2.2.1 hR.1 (aws_D g S V) hS n he c2 k hk (C.2.2.2.2.2.1 _ hw) (fun x h => h) hfin (C.2.2.2.2.2.2.2.1 hmn) (by rw [c7 k hk, hm]) (c5 k hk) (hty _).1 (hty _).2 (by rw [afs_len]; omega) hd fun H1 locs1 hP1 hD1 hS1 => ?_
  refine kk _ rfl p l e s m args below meth cc g H1 locs1 la C hz hS1 ⟨?_, fun i hi => (acok_eq rfl rfl rfl).mpr (hR.2 i hi)⟩ hL hs2
  have e1 : (aws g S V).set n (gB g + n, .inr (c, (afs g S V n c).set k (va_rf (aref g x)))) = aws g (nSf S n k x) V := by
    apply List.ext_getElem?
    intro j
    by_cases hj : j < aN S
    · rw [aws_at g (nSf S n k x) V hj]
      by_cases hij : n = j
      · subst hij
        rw [List.getElem?_set_self (by rw [aws_len]; exact hj), acell_o g V (show aT (nSf S n k x) n = c from hT) (by omega)]
        congr 4
        apply List.ext_getElem?
        intro i
        by_cases hi : i < nfX c
        · rw [afs_at g _ V _ c hi]
          by_cases e : k = i
          · subst e
            rw [List.getElem?_set_self (by rw [afs_len]; omega)]
            unfold afd nSf aF aset
            simp only
            rw [if_pos ht, arow_s, upI_s, ht]
            rfl
          · rw [List.getElem?_set_ne e, afs_at g S V _ c hi]
            unfold afd nSf aF aset
            simp only
            rw [arow_s, upI_n _ _ (by omega)]
        · rw [List.getElem?_eq_none (by rw [List.length_set, afs_len]; omega), List.getElem?_eq_none (by rw [afs_len]; omega)]
      · rw [List.getElem?_set_ne hij, aws_at g S V hj]
        rw [acell_eq (S := S) (V := V) (S1 := nSf S n k x) (V1 := V) rfl rfl (arow_n _ _ (by omega)) rfl]
    · rw [List.getElem?_eq_none (by rw [List.length_set, aws_len]; omega), List.getElem?_eq_none (by rw [aws_len]; show aN S ≤ j; omega)]
  rw [← e1]
  exact hP1
theorem Ak_objInit (q : Nat) {a : Int} {ix : Nat} (ha : 0 ≤ a) (hw : Cond.methodLink mi.1 ix Lib.objectInit ∈ tG) (hw1 : Cond.instanceMethod Lib.objectInit ∈ tG ∧ Cond.code Lib.objectInit ⟨#[0xb1]⟩ 1 none ∈ tG) (hd : decode mi.2.2.1 pc = .ok (.invokespecial ix, 3)) (hq : pc + 3 = q) (hdd : 1 ≤ d) (hst : (st.map acat).sum ≤ 8)
    (kk : AWz Z mi d mc ms cs sl q ls st S V r S' V') : AWz Z mi d mc ms cs sl pc ls (aR a :: st) S V r S' V' := by
  subst hq
  intro p l e s m args below meth cc g H locs la C hz hS hR hL hs
  have W1 : ∀ w ∈ tG, w.before args s = true := C.2.2.2.2.2.1
  rw [List.map_cons, acv_Rn g ha]
  refine W.objInit C.1 C.2.1 C.2.2.2.2.1 (W1 _ hw) (W1 _ hw1.1) (W1 _ hw1.2) rfl (by show la.size = _; rw [hL.1, C.2.2.1]) rfl hd hdd ?_ (kk p l e s m args below meth cc g H locs la C hz hS hR hL (ok_c hs).2)
  have h1 := lv_room (m := m) (pc := pc) (ls := la) (rest := .ref (gB g + a.toNat) :: st.map (acv g)) (st := st.map (acv g)) (by rw [acat_sum]; exact hst)
  show _ + 12 ≤ 64 * d
  omega
def mokI (mj : AM) (n : Nat) : Prop := mj.2.1.cls = mj.1 ∧ Cond.code mj.2.1 mj.2.2.1 mj.2.2.2.1 none ∈ tG ∧ Cond.instanceMethod mj.2.1 ∈ tG ∧ Cond.initialized mj.1 ∈ tG ∧ (mj.1 ≠ "java/lang/invoke/MethodHandle" ∧ mj.1 ≠ "java/lang/invoke/VarHandle" ∧ (parseMethodDescriptor mj.2.1.desc).map (fun d => d.parameters.length) = some n) ∧ mj.2.2.2.1 ≤ 45 ∧ mj.2.1.name = "<init>" ∧ mj.2.2.2.2 = none
theorem Ak_callI (q : Nat) {ix : Nat} {mj : AM} (d' : Nat) {mc' ms' : Nat} (as : List AV) {b : Int} {stk : List AV} {S1 : ASh} {V1 : ASt} (hct : ACt mj d' mc' ms' (aR b :: as) S V none S1 V1) (hstk : stk = as.reverse ++ aR b :: st) (hb : 0 ≤ b) (hm : mokI mj as.length) (hw : Cond.methodLink mi.1 ix mj.2.1 ∈ tG) (hd : decode mi.2.2.1 pc = .ok (.invokespecial ix, 3)) (hq : pc + 3 = q) (hdd : d' + 1 ≤ d) (hroom : cs + mc' ≤ mc ∧ sl + ms' ≤ ms) (hN : aN S1 = aN S + mc') (hst : (st.map acat).sum ≤ 8)
    (kk : AWz Z mi d mc ms (cs + mc') (sl + ms') q ls st S1 V1 r S' V') : AWz Z mi d mc ms cs sl pc ls stk S V r S' V' := by
  subst hq
  subst hstk
  refine AWz.sized fun p l e s m args below meth cc g H locs la hsz C hz hS hR hL hs => ?_
  have hs2 : ∀ v ∈ st, aok v := fun v hv => hs v (by simp [hv])
  have hsa : ∀ v ∈ aR b :: as, aok v := fun v hv => by
    rcases List.mem_cons.mp hv with h | h
    · subst h; trivial
    · exact hs v (by simp [h])
  obtain ⟨m1, m2, m3, m5, m6, m7, m8, m9⟩ := hm
  have W1 : ∀ w ∈ tG, w.before args s = true := C.2.2.2.2.2.1
  have e1 : (as.reverse ++ aR b :: st).map (acv g) = (as.map (acv g)).reverse ++ .ref (gB g + b.toNat) :: st.map (acv g) := by
    rw [List.map_append, List.map_cons, acv_Rn g hb, List.map_reverse]
  have e0 : ((aR b :: as).map (acv g)).toArray = (Value.ref (gB g + b.toNat) :: as.map (acv g)).toArray := by
    rw [List.map_cons, acv_Rn g hb]
  have hgood := aw_good mj (by rw [m9]; exact m2)
  rw [e1]
  exact Ak_run (va_runI (b := gB g + b.toNat) (As := as.map (acv g)) (rest := st.map (acv g)) ⟨C.1, C.2.1, rfl, C.2.2.2.2.1, C.2.2.2.2.2.1⟩ (hct l g) (cwI as.length C.2.2.2.2.2.1 hgood (by unfold aw; rw [m9]) rfl rfl (by rw [m1]; exact W1 _ m5) (W1 _ hw) (W1 _ m3) m8 (by rw [m1]; exact m6) ⟨hdd, by show 8 + (mj.2.2.2.1 + 11) + 64 * d' ≤ 64 * d; omega⟩) ⟨ACt_blind g _ S V, fun U hU hW => ⟨e0.symm, hsa, ⟨by rw [hU]; exact hsz, by rw [hU]; exact hR⟩, AKK_moved hW hS hU C.2.2.2.2.2.2.2.2⟩⟩ rfl (by simp) (by show la.size = _; rw [hL.1, C.2.2.1]) rfl (lv_room (by rw [acat_sum]; exact hst)) hd hroom) hN C hz hS hL hs2 kk
theorem Ak_callIN (q : Nat) {ix : Nat} {mj : AM} (d' : Nat) {mc' ms' : Nat} (as : List AV) {b : Int} {stk : List AV} {S1 : ASh} {V1 : ASt} (hct : ACt mj d' mc' ms' (aR b :: as) S V none S1 V1) (hstk : stk = as.reverse ++ aR b :: st) (hb : 0 ≤ b) (hm : mokI mj as.length) (hw : (mi.1, ix, mj.1) ∈ nestW) (hy : mj.2.1 = ⟨mj.1, "<init>", "()V"⟩) (hd : decode mi.2.2.1 pc = .ok (.invokespecial ix, 3)) (hq : pc + 3 = q) (hdd : d' + 1 ≤ d) (hroom : cs + mc' ≤ mc ∧ sl + ms' ≤ ms) (hN : aN S1 = aN S + mc') (hst : (st.map acat).sum ≤ 8)
    (kk : AWz Z mi d mc ms (cs + mc') (sl + ms') q ls st S1 V1 r S' V') : AWz Z mi d mc ms cs sl pc ls stk S V r S' V' := by
  subst hq
  subst hstk
  refine AWz.sized fun p l e s m args below meth cc g H locs la hsz C hz hS hR hL hs => ?_
  have hs2 : ∀ v ∈ st, aok v := fun v hv => hs v (by simp [hv])
  have hsa : ∀ v ∈ aR b :: as, aok v := fun v hv => by
    rcases List.mem_cons.mp hv with h | h
    · subst h; trivial
    · exact hs v (by simp [h])
  obtain ⟨m1, m2, m3, m5, m6, m7, m8, m9⟩ := hm
  have W1 : ∀ w ∈ tG, w.before args s = true := C.2.2.2.2.2.1
  have e1 : (as.reverse ++ aR b :: st).map (acv g) = (as.map (acv g)).reverse ++ .ref (gB g + b.toNat) :: st.map (acv g) := by
    rw [List.map_append, List.map_cons, acv_Rn g hb, List.map_reverse]
  have e0 : ((aR b :: as).map (acv g)).toArray = (Value.ref (gB g + b.toNat) :: as.map (acv g)).toArray := by
    rw [List.map_cons, acv_Rn g hb]
  have hgood := aw_good mj (by rw [m9]; exact m2)
  have hnw : va_Nw (.methodLinkNest mi.1 ix mj.2.1 "SundayGame") s := by
    have := C.2.2.2.2.2.2.2.2.2.1 _ hw
    rw [hy]
    exact this
  rw [e1]
  exact Ak_run (va_runIN (b := gB g + b.toNat) (As := as.map (acv g)) (rest := st.map (acv g)) ⟨C.1, C.2.1, rfl, C.2.2.2.2.1, C.2.2.2.2.2.1⟩ (hct l g) ⟨va_cnB as.length C.2.2.2.2.2.1 hgood (by unfold aw; rw [m9]) rfl rfl hnw (by rw [m1]; exact W1 _ m5) (by rw [m1]; exact m6) ⟨hdd, by show 8 + (mj.2.2.2.1 + 11) + 64 * d' ≤ 64 * d; omega⟩, m8, W1 _ m3⟩ ⟨ACt_blind g _ S V, fun U hU hW => ⟨e0.symm, hsa, ⟨by rw [hU]; exact hsz, by rw [hU]; exact hR⟩, AKK_moved hW hS hU C.2.2.2.2.2.2.2.2⟩⟩ rfl (by simp) (by show la.size = _; rw [hL.1, C.2.2.1]) rfl (lv_room (by rw [acat_sum]; exact hst)) hd hroom) hN C hz hS hL hs2 kk
end A10A
