/-! rows of fields and arrays -/
/-- f with x at k -/
def upI (f : Int → Int) (k x : Int) : Int → Int := fun j => if j = k then x else f j
/-- V with the row f at cell a -/
def arow (V : ASt) (a : Int) (f : Int → Int) : ASt := fun b => if b = a then f else V b
def aset (V : ASt) (a k x : Int) : ASt := arow V a (upI (V a) k x)
theorem arow_s (V : ASt) (a : Int) (f : Int → Int) : arow V a f a = f := if_pos rfl
theorem arow_n (V : ASt) {a b : Int} (f : Int → Int) (h : b ≠ a) : arow V a f b = V b := if_neg h
theorem upI_s (f : Int → Int) (k x : Int) : upI f k x k = x := if_pos rfl
theorem upI_n (f : Int → Int) {k j : Int} (x : Int) (h : j ≠ k) : upI f k x j = f j := if_neg h
/-- a cell of class (or array kind) c -/
def isO (S : ASh) (a : Int) (c : Nat) : Bool := decide (0 ≤ a) && decide (a < aN S) && decide (aT S a = c)
/-- a place of an array of a kind -/
def isA (S : ASh) (a : Int) (c : Nat) (i : Int) : Bool := isO S a (100 + c) && decide (0 ≤ i) && decide (i < aLn S a)
theorem isO_d {S : ASh} {a : Int} {c : Nat} (h : isO S a c = true) : ∃ n : Nat, a = n ∧ n < aN S ∧ aT S a = c := by
  simp only [isO, Bool.and_eq_true, decide_eq_true_eq] at h
  exact ⟨a.toNat, by omega, by omega, h.2⟩
theorem isA_d {S : ASh} {a i : Int} {c : Nat} (h : isA S a c i = true) : isO S a (100 + c) = true ∧ 0 ≤ i ∧ i < aLn S a := by
  simp only [isA, Bool.and_eq_true, decide_eq_true_eq] at h
  exact ⟨h.1.1, h.1.2, h.2⟩
/-- what a new field holds -/
def dfv (t : Nat) : Value := if t = 1 then .long 0 else if 3 ≤ t then .null else .int 0
/-- the rows on a class: its number, name, fields, how many, their types -/
def clsOK (c : Nat) (R : String) (T : u_T) (N : Nat) (ty : Nat → FieldType) : Prop :=
  c < 14 ∧ vwCl[c]? = some (R, T, N) ∧ nfX c = N ∧ (∀ w ∈ u_ws R T N, w ∈ tG) ∧ (∀ k, k < N → parseFieldDescriptor (T k).2.2.1 = some (ty k)) ∧ (∀ a, a < N → ∀ b, b < N → a ≠ b → (T a).2.1 ≠ (T b).2.1) ∧ (∀ k, k < N → (T k).1 = R) ∧ ∀ k, k < N → defaultValue (ty k) = dfv (cty c k)
theorem acell_o (g : AG) {S : ASh} (V : ASt) {a : Int} {c : Nat} (h : aT S a = c) (hc : c < 100) : acell g S V a = .inr (c, afs g S V a c) := by
  unfold acell
  rw [h, if_pos hc]
theorem acell_a (g : AG) {S : ASh} (V : ASt) {a : Int} {c : Nat} (h : aT S a = 100 + c) : acell g S V a = .inl (gA g c, (aLn S a).toNat, aarr g c (V a)) := by
  unfold acell
  rw [h, if_neg (by omega), show 100 + c - 100 = c by omega]
theorem afs_at (g : AG) (S : ASh) (V : ASt) (a : Int) (c : Nat) {k : Nat} (h : k < nfX c) : (afs g S V a c)[k]? = some (afv g (cty c k) (afd S V c a k)) := by
  unfold afs
  rw [List.getElem?_map, List.getElem?_range h]
  rfl
theorem afs_len (g : AG) (S : ASh) (V : ASt) (a : Int) (c : Nat) : (afs g S V a c).length = nfX c := by simp [afs]
theorem acok_o {S : ASh} {V : ASt} {a : Int} {c : Nat} (h : aT S a = c) (hc : c < 100) : acok S V a ↔ c < 14 ∧ ∀ k : Nat, k < nfX c → arg (cty c k) (V a k) := by
  unfold acok
  rw [h, if_pos hc]
theorem acok_a {S : ASh} {V : ASt} {a : Int} {c : Nat} (h : aT S a = 100 + c) : acok S V a ↔ 100 + c < 104 ∧ 0 ≤ aLn S a ∧ aLn S a < 2147483648 ∧ ∀ j : Nat, arg c (V a j) := by
  unfold acok
  rw [h, if_neg (by omega), show 100 + c - 100 = c by omega]
theorem afs_set {g : AG} {S : ASh} {V : ASt} {n c k : Nat} (x : Int) (hk : k < nfX c) (h4 : cty c k ≠ 4) : (afs g S V (n : Int) c).set k (afv g (cty c k) x) = afs g S (aset V n k x) n c := by
  apply List.ext_getElem?
  intro j
  by_cases hj : j < nfX c
  · rw [afs_at g S _ _ c hj]
    by_cases e : k = j
    · subst e
      rw [List.getElem?_set_self (by rw [afs_len]; exact hk)]
      unfold afd aset
      rw [if_neg h4, arow_s, upI_s]
    · rw [List.getElem?_set_ne e, afs_at g S V _ c hj]
      unfold afd aset
      rw [arow_s, upI_n _ _ (by omega)]
  · rw [List.getElem?_eq_none (by rw [List.length_set, afs_len]; omega), List.getElem?_eq_none (by rw [afs_len]; omega)]
theorem AHp_set {g : AG} {S : ASh} {V : ASt} {n : Nat} {f : Int → Int} {H1 : Heap} (hn : n < aN S) (h0 : ∀ i : Nat, i < aN S → acok S V i) (hok : acok S (arow V n f) n) (hP : va_P (gD g) vwCl ((aws g S V).set n (gB g + n, acell g S (arow V n f) n)) H1) : AHp g S (arow V n f) H1 := by
  rw [aws_set g S hn (fun j hj => arow_n V f hj)] at hP
  refine ⟨hP, fun i hi => ?_⟩
  by_cases e : i = n
  · subst e; exact hok
  · exact (acok_row (arow_n V f (by omega))).mpr (h0 i hi)
section A7
variable {Z : AG → Prop} {mi : AM} {d mc ms cs sl pc : Nat} {ls : List (Option AV)} {st : List AV} {S : ASh} {V : ASt} {r : Option AV} {S' : ASh} {V' : ASt}
theorem Ak_get (q : Nat) {a : Int} {c k ix : Nat} {R : String} {T : u_T} {N : Nat} {ty : Nat → FieldType} (v : AV) (hO : isO S a c = true) (hcl : clsOK c R T N ty) (hk : k < N) (hw : Cond.fieldLink mi.1 ix (T k).1 (T k).2.1 (T k).2.2.1 ∈ tG) (hd : decode mi.2.2.1 pc = .ok (.getfield ix, 3)) (hq : pc + 3 = q) (hv : ∀ g, afv g (cty c k) (afd S V c a k) = acv g v) (hok : arg (cty c k) (V a k) → aok v)
    (kk : AWz Z mi d mc ms cs sl q ls (v :: st) S V r S' V') : AWz Z mi d mc ms cs sl pc ls (aR a :: st) S V r S' V' := by
  subst hq
  intro p l e s m args below meth cc g H locs la C hz hS hR hL hs
  obtain ⟨n, rfl, hn, hT⟩ := isO_d hO
  obtain ⟨c1, c2, c3, c4, c5, c6, c7, c8⟩ := hcl
  have he := aws_at g S V hn
  rw [acell_o g V hT (by omega)] at he
  have hav : arg (cty c k) (V n k) := ((acok_o hT (by omega)).mp (hR.2 n hn)).2 k (by omega)
  rw [List.map_cons, acv_Rn g (by omega), Int.toNat_natCast]
  refine va_get C.1 C.2.1 (Ts := tG) C.2.2.2.2.2.1 c4 C.2.2.2.2.1 C.2.2.2.2.2.2.2.2.1 hR.1 n he c2 k hk (C.2.2.2.2.2.1 _ hw) (fun x h => h) (v := acv g v) (by rw [afs_at g S V _ c (by omega), hv g]) hd ?_
  exact kk p l e s m args below meth cc g H locs la C hz hS hR hL (ok_m (hok hav) (ok_c hs).2)
theorem Ak_put (q : Nat) {a : Int} {c k ix : Nat} {R : String} {T : u_T} {N : Nat} {ty : Nat → FieldType} {v : AV} (x : Int) (hO : isO S a c = true) (hcl : clsOK c R T N ty) (hk : k < N) (hfin : (T k).2.2.2 = false) (h4 : cty c k ≠ 4) (hw : Cond.fieldLink mi.1 ix (T k).1 (T k).2.1 (T k).2.2.1 ∈ tG) (hd : decode mi.2.2.1 pc = .ok (.putfield ix, 3)) (hq : pc + 3 = q) (hv : ∀ g, afv g (cty c k) x = acv g v) (hok : aok v → arg (cty c k) x) (hnar : ∀ g, aok v → narrow (ty k) (acv g v) = acv g v ∧ fits (ty k) (acv g v) = true)
    (kk : ∀ V1, V1 = aset V a k x → AWz Z mi d mc ms cs sl q ls st S V1 r S' V') : AWz Z mi d mc ms cs sl pc ls (v :: aR a :: st) S V r S' V' := by
  subst hq
  intro p l e s m args below meth cc g H locs la C hz hS hR hL hs
  obtain ⟨hv1, hs1⟩ := ok_c hs
  obtain ⟨-, hs2⟩ := ok_c hs1
  obtain ⟨n, rfl, hn, hT⟩ := isO_d hO
  obtain ⟨c1, c2, c3, c4, c5, c6, c7, c8⟩ := hcl
  have he := aws_at g S V hn
  rw [acell_o g V hT (by omega)] at he
  rw [List.map_cons, List.map_cons, acv_Rn g (by omega), Int.toNat_natCast]
  refine va_put C.1 C.2.1 (Ts := tG) C.2.2.2.2.2.1 c4 ty c5 c6 C.2.2.2.2.1 C.2.2.2.2.2.2.2.2.1 hR.1 (aws_D g S V) hS n he c2 k hk (C.2.2.2.2.2.1 _ hw) (fun x h => h) hfin (c5 k hk) (hnar g hv1).1 (hnar g hv1).2 (by rw [afs_len]; omega) hd fun H1 locs1 hP1 hD1 hS1 => ?_
  refine kk _ rfl p l e s m args below meth cc g H1 locs1 la C hz hS1 (AHp_set hn hR.2 ?_ ?_) hL hs2
  · refine (acok_o hT (by omega)).mpr ⟨c1, fun j hj => ?_⟩
    rw [arow_s]
    by_cases e : j = k
    · subst e; rw [upI_s]; exact hok hv1
    · rw [upI_n _ _ (by omega)]; exact ((acok_o hT (by omega)).mp (hR.2 n hn)).2 j hj
  · rw [← hv g, afs_set x (by omega) h4] at hP1
    rw [acell_o g _ hT (by omega)]
    exact hP1
theorem Ak_getI (q : Nat) {a : Int} {c : Nat} (k : Nat) {ix : Nat} {R : String} {T : u_T} {N : Nat} {ty : Nat → FieldType} (hO : isO S a c = true) (hcl : clsOK c R T N ty) (hk : k < N) (ht : cty c k = 0 ∨ cty c k = 2) (hw : Cond.fieldLink mi.1 ix (T k).1 (T k).2.1 (T k).2.2.1 ∈ tG) (hd : decode mi.2.2.1 pc = .ok (.getfield ix, 3)) (hq : pc + 3 = q)
    (kk : AWz Z mi d mc ms cs sl q ls (aI (V a k) :: st) S V r S' V') : AWz Z mi d mc ms cs sl pc ls (aR a :: st) S V r S' V' := by
  refine Ak_get q (aI (V a k)) hO hcl hk hw hd hq (fun g => ?_) (fun h => ?_) kk
  · unfold afv afd
    rcases ht with h | h <;> rw [h] <;> rfl
  · rcases ht with t | t
    · rw [t] at h; exact h
    · rw [t] at h
      rcases h with e | e <;> (show r32 _; rw [e]; exact ⟨by decide, by decide⟩)
theorem Ak_getL (q : Nat) {a : Int} {c : Nat} (k : Nat) {ix : Nat} {R : String} {T : u_T} {N : Nat} {ty : Nat → FieldType} (hO : isO S a c = true) (hcl : clsOK c R T N ty) (hk : k < N) (ht : cty c k = 1) (hw : Cond.fieldLink mi.1 ix (T k).1 (T k).2.1 (T k).2.2.1 ∈ tG) (hd : decode mi.2.2.1 pc = .ok (.getfield ix, 3)) (hq : pc + 3 = q)
    (kk : AWz Z mi d mc ms cs sl q ls (aL (V a k) :: st) S V r S' V') : AWz Z mi d mc ms cs sl pc ls (aR a :: st) S V r S' V' := by
  refine Ak_get q (aL (V a k)) hO hcl hk hw hd hq (fun g => ?_) (fun h => ?_) kk
  · unfold afv afd
    rw [ht]; rfl
  · rw [ht] at h; exact h
theorem Ak_getR (q : Nat) {a : Int} {c : Nat} (k : Nat) {ix : Nat} {R : String} {T : u_T} {N : Nat} {ty : Nat → FieldType} (hO : isO S a c = true) (hcl : clsOK c R T N ty) (hk : k < N) (ht : cty c k = 3) (hw : Cond.fieldLink mi.1 ix (T k).1 (T k).2.1 (T k).2.2.1 ∈ tG) (hd : decode mi.2.2.1 pc = .ok (.getfield ix, 3)) (hq : pc + 3 = q)
    (kk : AWz Z mi d mc ms cs sl q ls (aR (V a k) :: st) S V r S' V') : AWz Z mi d mc ms cs sl pc ls (aR a :: st) S V r S' V' := by
  refine Ak_get q (aR (V a k)) hO hcl hk hw hd hq (fun g => ?_) (fun h => trivial) kk
  unfold afv afd
  rw [ht]; rfl
theorem Ak_getF (q : Nat) {a : Int} {c : Nat} (k : Nat) {ix : Nat} {R : String} {T : u_T} {N : Nat} {ty : Nat → FieldType} (hO : isO S a c = true) (hcl : clsOK c R T N ty) (hk : k < N) (ht : cty c k = 4) (hw : Cond.fieldLink mi.1 ix (T k).1 (T k).2.1 (T k).2.2.1 ∈ tG) (hd : decode mi.2.2.1 pc = .ok (.getfield ix, 3)) (hq : pc + 3 = q)
    (kk : AWz Z mi d mc ms cs sl q ls (aR (aF S a k) :: st) S V r S' V') : AWz Z mi d mc ms cs sl pc ls (aR a :: st) S V r S' V' := by
  refine Ak_get q (aR (aF S a k)) hO hcl hk hw hd hq (fun g => ?_) (fun h => trivial) kk
  unfold afv afd
  rw [ht]; rfl
theorem Ak_putI (q : Nat) {a : Int} {c : Nat} (k : Nat) {ix : Nat} {R : String} {T : u_T} {N : Nat} {ty : Nat → FieldType} {x : Int} (hO : isO S a c = true) (hcl : clsOK c R T N ty) (hk : k < N) (hfin : (T k).2.2.2 = false) (ht : cty c k = 0) (hty : ty k = .int) (hw : Cond.fieldLink mi.1 ix (T k).1 (T k).2.1 (T k).2.2.1 ∈ tG) (hd : decode mi.2.2.1 pc = .ok (.putfield ix, 3)) (hq : pc + 3 = q)
    (kk : ∀ V1, V1 = aset V a k x → AWz Z mi d mc ms cs sl q ls st S V1 r S' V') : AWz Z mi d mc ms cs sl pc ls (aI x :: aR a :: st) S V r S' V' :=
  Ak_put q x hO hcl hk hfin (by rw [ht]; decide) hw hd hq (fun g => by unfold afv; rw [ht]; rfl) (fun h => by rw [ht]; exact h) (fun g _ => by rw [hty]; exact ⟨rfl, rfl⟩) kk
theorem Ak_putL (q : Nat) {a : Int} {c : Nat} (k : Nat) {ix : Nat} {R : String} {T : u_T} {N : Nat} {ty : Nat → FieldType} {x : Int} (hO : isO S a c = true) (hcl : clsOK c R T N ty) (hk : k < N) (hfin : (T k).2.2.2 = false) (ht : cty c k = 1) (hty : ty k = .long) (hw : Cond.fieldLink mi.1 ix (T k).1 (T k).2.1 (T k).2.2.1 ∈ tG) (hd : decode mi.2.2.1 pc = .ok (.putfield ix, 3)) (hq : pc + 3 = q)
    (kk : ∀ V1, V1 = aset V a k x → AWz Z mi d mc ms cs sl q ls st S V1 r S' V') : AWz Z mi d mc ms cs sl pc ls (aL x :: aR a :: st) S V r S' V' :=
  Ak_put q x hO hcl hk hfin (by rw [ht]; decide) hw hd hq (fun g => by unfold afv; rw [ht]; rfl) (fun h => by rw [ht]; exact h) (fun g _ => by rw [hty]; exact ⟨rfl, rfl⟩) kk
theorem nar_z {x : Int} (h : x = 0 ∨ x = 1) : narrow .boolean (.int (Int32.ofInt x)) = .int (Int32.ofInt x) ∧ fits .boolean (.int (Int32.ofInt x)) = true := by
  rcases h with e | e <;> rw [e] <;> exact ⟨by decide, by decide⟩
theorem Ak_putZ (q : Nat) {a : Int} {c : Nat} (k : Nat) {ix : Nat} {R : String} {T : u_T} {N : Nat} {ty : Nat → FieldType} {x : Int} (hx : x = 0 ∨ x = 1) (hO : isO S a c = true) (hcl : clsOK c R T N ty) (hk : k < N) (hfin : (T k).2.2.2 = false) (ht : cty c k = 2) (hty : ty k = .boolean) (hw : Cond.fieldLink mi.1 ix (T k).1 (T k).2.1 (T k).2.2.1 ∈ tG) (hd : decode mi.2.2.1 pc = .ok (.putfield ix, 3)) (hq : pc + 3 = q)
    (kk : ∀ V1, V1 = aset V a k x → AWz Z mi d mc ms cs sl q ls st S V1 r S' V') : AWz Z mi d mc ms cs sl pc ls (aI x :: aR a :: st) S V r S' V' :=
  Ak_put q x hO hcl hk hfin (by rw [ht]; decide) hw hd hq (fun g => by unfold afv; rw [ht]; rfl) (fun h => by rw [ht]; exact hx) (fun g _ => by rw [hty]; exact nar_z hx) kk
theorem Ak_putR (q : Nat) {a : Int} {c : Nat} (k : Nat) {ix : Nat} {R : String} {T : u_T} {N : Nat} {ty : Nat → FieldType} {x : Int} (hO : isO S a c = true) (hcl : clsOK c R T N ty) (hk : k < N) (hfin : (T k).2.2.2 = false) (ht : cty c k = 3) (hty : ∀ o, narrow (ty k) (va_rf o) = va_rf o ∧ fits (ty k) (va_rf o) = true) (hw : Cond.fieldLink mi.1 ix (T k).1 (T k).2.1 (T k).2.2.1 ∈ tG) (hd : decode mi.2.2.1 pc = .ok (.putfield ix, 3)) (hq : pc + 3 = q)
    (kk : ∀ V1, V1 = aset V a k x → AWz Z mi d mc ms cs sl q ls st S V1 r S' V') : AWz Z mi d mc ms cs sl pc ls (aR x :: aR a :: st) S V r S' V' :=
  Ak_put q x hO hcl hk hfin (by rw [ht]; decide) hw hd hq (fun g => by unfold afv; rw [ht]; rfl) (fun h => by rw [ht]; trivial) (fun g _ => hty _) kk
end A7
