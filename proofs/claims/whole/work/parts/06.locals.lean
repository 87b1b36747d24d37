/-! rows that store into locals; fewer known locals; the entry's locals -/
def lset : List (Option AV) → Nat → Option AV → List (Option AV)
  | [], 0, x => [x]
  | [], i + 1, x => none :: lset [] i x
  | _ :: t, 0, x => x :: t
  | h :: t, i + 1, x => h :: lset t i x
theorem lset_get : ∀ (l : List (Option AV)) (i : Nat) (x : Option AV) (j : Nat) (v : AV), (lset l i x)[j]? = some (some v) → (j = i ∧ x = some v) ∨ (j ≠ i ∧ l[j]? = some (some v))
  | [], 0, x, 0, v, h => by simp [lset] at h; exact Or.inl ⟨rfl, h⟩
  | [], 0, x, j + 1, v, h => by simp [lset] at h
  | [], i + 1, x, 0, v, h => by simp [lset] at h
  | [], i + 1, x, j + 1, v, h => by
    simp only [lset, List.getElem?_cons_succ] at h
    rcases lset_get [] i x j v h with ⟨a, b⟩ | ⟨a, b⟩
    · exact Or.inl ⟨by omega, b⟩
    · simp at b
  | y :: t, 0, x, 0, v, h => by simp [lset] at h; exact Or.inl ⟨rfl, h⟩
  | y :: t, 0, x, j + 1, v, h => by simp [lset] at h; exact Or.inr ⟨by omega, by simpa using h⟩
  | y :: t, i + 1, x, 0, v, h => by simp [lset] at h; exact Or.inr ⟨by omega, by simpa using h⟩
  | y :: t, i + 1, x, j + 1, v, h => by
    simp only [lset, List.getElem?_cons_succ] at h
    rcases lset_get t i x j v h with ⟨a, b⟩ | ⟨a, b⟩
    · exact Or.inl ⟨by omega, b⟩
    · exact Or.inr ⟨by omega, by simpa using b⟩
def isL : Option AV → Bool
  | some (.inr (.inl _)) => true
  | _ => false
/-- storing a value of one slot: a long that ends there is gone -/
def lput (ls : List (Option AV)) : Nat → AV → List (Option AV)
  | 0, w => lset ls 0 (some w)
  | j + 1, w => if isL (ls.getD j none) = true then lset (lset ls (j + 1) (some w)) j none else lset ls (j + 1) (some w)
def lputL (ls : List (Option AV)) (i : Nat) (w : AV) : List (Option AV) := lset (lput ls i w) (i + 1) none
theorem isL_cat (g : AG) (v : AV) : ((acv g v).category == 2) = isL (some v) := by
  rcases v with x | x | a
  · rfl
  · rfl
  · rw [acv_R]
    cases aref g a <;> rfl
theorem lput_get (ls : List (Option AV)) (i : Nat) (w : AV) (j : Nat) (v : AV) (h : (lput ls i w)[j]? = some (some v)) : (j = i ∧ w = v) ∨ (j ≠ i ∧ ls[j]? = some (some v) ∧ ¬ (j + 1 = i ∧ isL (some v) = true)) := by
  cases i with
  | zero =>
    rcases lset_get _ _ _ _ _ h with ⟨a, b⟩ | ⟨a, b⟩
    · exact Or.inl ⟨a, Option.some.inj b⟩
    · exact Or.inr ⟨a, b, fun z => by omega⟩
  | succ k =>
    rw [lput] at h
    by_cases hl : isL (ls.getD k none) = true
    · rw [if_pos hl] at h
      rcases lset_get _ _ _ _ _ h with ⟨a, b⟩ | ⟨a, b⟩
      · cases b
      · rcases lset_get _ _ _ _ _ b with ⟨a2, b2⟩ | ⟨a2, b2⟩
        · exact Or.inl ⟨a2, Option.some.inj b2⟩
        · exact Or.inr ⟨a2, b2, fun z => a (by omega)⟩
    · rw [if_neg hl] at h
      rcases lset_get _ _ _ _ _ h with ⟨a, b⟩ | ⟨a, b⟩
      · exact Or.inl ⟨a, Option.some.inj b⟩
      · refine Or.inr ⟨a, b, fun z => ?_⟩
        have e : j = k := by omega
        subst e
        rw [List.getD_eq_getElem?_getD, b] at hl
        exact hl z.2
def lvOf (g : AG) (ls : List (Option AV)) : List (Nat × Value) := (List.range ls.length).filterMap fun i => (ls[i]?.join).map fun v => (i, acv g v)
theorem lvOf_mem {g : AG} {ls : List (Option AV)} {j : Nat} {v : AV} (h : ls[j]? = some (some v)) : (j, acv g v) ∈ lvOf g ls := by
  unfold lvOf
  refine List.mem_filterMap.mpr ⟨j, List.mem_range.mpr (List.getElem?_eq_some_iff.mp h).1, ?_⟩
  rw [h]
  rfl
theorem lvOf_has {g : AG} {la : Array Slot} {n : Nat} {ls : List (Option AV)} (h : ALv g la n ls) : lv_has la n (lvOf g ls) := by
  refine ⟨h.1, h.2.1, fun q hq => ?_⟩
  obtain ⟨i, -, hi⟩ := List.mem_filterMap.mp hq
  cases hl : ls[i]? with
  | none => rw [hl] at hi; cases hi
  | some o =>
    rw [hl] at hi
    cases o with
    | none => cases hi
    | some v =>
      cases hi
      exact (h.2.2 i v hl).1
theorem ALv_put {g : AG} {la la' : Array Slot} {n i : Nat} {ls : List (Option AV)} {w : AV} (h : ALv g la n ls) (hw : aok w) (h' : lv_has la' n ((i, acv g w) :: (lvOf g ls).filter (fun q => !(q.1 == i) && !(q.1 + 1 == i && q.2.category == 2)))) : ALv g la' n (lput ls i w) := by
  refine ⟨h'.1, h'.2.1, fun j v hj => ?_⟩
  rcases lput_get _ _ _ _ _ hj with ⟨a, b⟩ | ⟨a, b, c⟩
  · subst a; subst b
    exact ⟨h'.2.2 _ List.mem_cons_self, hw⟩
  · refine ⟨h'.2.2 (j, acv g v) (List.mem_cons_of_mem _ (List.mem_filter.mpr ⟨lvOf_mem b, ?_⟩)), (h.2.2 j v b).2⟩
    simp only [isL_cat]
    by_cases e : j + 1 = i
    · have : isL (some v) = false := by
        cases hh : isL (some v) with
        | false => rfl
        | true => exact absurd ⟨e, hh⟩ c
      simp [a, this]
    · simp [a, e]
theorem ALv_putL {g : AG} {la la' : Array Slot} {n i : Nat} {ls : List (Option AV)} {w : AV} (h : ALv g la n ls) (hw : aok w) (h' : lv_has la' n ((i, acv g w) :: (lvOf g ls).filter (fun q => !(q.1 == i) && (!(q.1 == i + 1) && !(q.1 + 1 == i && q.2.category == 2))))) : ALv g la' n (lputL ls i w) := by
  refine ⟨h'.1, h'.2.1, fun j v hj => ?_⟩
  rcases lset_get _ _ _ _ _ hj with ⟨-, b⟩ | ⟨a0, b0⟩
  · cases b
  rcases lput_get _ _ _ _ _ b0 with ⟨a, b⟩ | ⟨a, b, c⟩
  · subst a; subst b
    exact ⟨h'.2.2 _ List.mem_cons_self, hw⟩
  · refine ⟨h'.2.2 (j, acv g v) (List.mem_cons_of_mem _ (List.mem_filter.mpr ⟨lvOf_mem b, ?_⟩)), (h.2.2 j v b).2⟩
    simp only [isL_cat]
    by_cases e : j + 1 = i
    · have : isL (some v) = false := by
        cases hh : isL (some v) with
        | false => rfl
        | true => exact absurd ⟨e, hh⟩ c
      simp [a, a0, this]
    · simp [a, a0, e]
/-- forget locals -/
def lkeep : List Bool → List (Option AV) → List (Option AV)
  | true :: m, x :: l => x :: lkeep m l
  | false :: m, _ :: l => none :: lkeep m l
  | _, _ => []
theorem lkeep_get : ∀ (m : List Bool) (l : List (Option AV)) (j : Nat) (v : AV), (lkeep m l)[j]? = some (some v) → l[j]? = some (some v)
  | true :: m, x :: l, 0, v, h => by simpa [lkeep] using h
  | true :: m, x :: l, j + 1, v, h => by simp only [lkeep, List.getElem?_cons_succ] at h ⊢; exact lkeep_get m l j v h
  | false :: m, x :: l, 0, v, h => by simp [lkeep] at h
  | false :: m, x :: l, j + 1, v, h => by simp only [lkeep, List.getElem?_cons_succ] at h ⊢; exact lkeep_get m l j v h
  | [], l, j, v, h => by simp [lkeep] at h
  | true :: m, [], j, v, h => by simp [lkeep] at h
  | false :: m, [], j, v, h => by simp [lkeep] at h
section A6
variable {Z : AG → Prop} {mi : AM} {d mc ms cs sl pc : Nat} {ls : List (Option AV)} {st : List AV} {S : ASh} {V : ASt} {r : Option AV} {S' : ASh} {V' : ASt}
theorem Ak_keep (m : List Bool) (k : AWz Z mi d mc ms cs sl pc (lkeep m ls) st S V r S' V') : AWz Z mi d mc ms cs sl pc ls st S V r S' V' := by
  intro p l e s m' args below meth c g H locs la C hz hS hR hL hs
  exact k p l e s m' args below meth c g H locs la C hz hS hR ⟨hL.1, hL.2.1, fun j v hj => hL.2.2 j v (lkeep_get m ls j v hj)⟩ hs
theorem Ak_istore_n (q : Nat) {j : Fin 4} (i : Nat) {x : Int} (hd : decode mi.2.2.1 pc = .ok (.istore_n j, 1)) (hq : pc + 1 = q) (hi : (j : Nat) = i) (hn : i < mi.2.2.2.1) (k : AWz Z mi d mc ms cs sl q (lput ls i (aI x)) st S V r S' V') : AWz Z mi d mc ms cs sl pc ls (aI x :: st) S V r S' V' := by
  subst hq
  intro p l e s m args below meth c g H locs la C hz hS hR hL hs
  exact lv_istore_n C.1 C.2.1 hd hi (lvOf_has hL) hn rfl (fun la' h' => k p l e s m args below meth c g H locs la' C hz hS hR (ALv_put hL (ok_c hs).1 h') (ok_c hs).2)
theorem Ak_istore (q : Nat) {i : Nat} {x : Int} (hd : decode mi.2.2.1 pc = .ok (.istore i, 2)) (hq : pc + 2 = q) (hn : i < mi.2.2.2.1) (k : AWz Z mi d mc ms cs sl q (lput ls i (aI x)) st S V r S' V') : AWz Z mi d mc ms cs sl pc ls (aI x :: st) S V r S' V' := by
  subst hq
  intro p l e s m args below meth c g H locs la C hz hS hR hL hs
  exact lv_istore C.1 C.2.1 hd (lvOf_has hL) hn rfl (fun la' h' => k p l e s m args below meth c g H locs la' C hz hS hR (ALv_put hL (ok_c hs).1 h') (ok_c hs).2)
theorem Ak_lstore_n (q : Nat) {j : Fin 4} (i : Nat) {x : Int} (hd : decode mi.2.2.1 pc = .ok (.lstore_n j, 1)) (hq : pc + 1 = q) (hi : (j : Nat) = i) (hn : i + 1 < mi.2.2.2.1) (k : AWz Z mi d mc ms cs sl q (lputL ls i (aL x)) st S V r S' V') : AWz Z mi d mc ms cs sl pc ls (aL x :: st) S V r S' V' := by
  subst hq
  intro p l e s m args below meth c g H locs la C hz hS hR hL hs
  exact lv_lstore_n C.1 C.2.1 hd hi (lvOf_has hL) hn rfl (fun la' h' => k p l e s m args below meth c g H locs la' C hz hS hR (ALv_putL hL (ok_c hs).1 h') (ok_c hs).2)
theorem Ak_lstore (q : Nat) {i : Nat} {x : Int} (hd : decode mi.2.2.1 pc = .ok (.lstore i, 2)) (hq : pc + 2 = q) (hn : i + 1 < mi.2.2.2.1) (k : AWz Z mi d mc ms cs sl q (lputL ls i (aL x)) st S V r S' V') : AWz Z mi d mc ms cs sl pc ls (aL x :: st) S V r S' V' := by
  subst hq
  intro p l e s m args below meth c g H locs la C hz hS hR hL hs
  exact lv_lstore C.1 C.2.1 hd (lvOf_has hL) hn rfl (fun la' h' => k p l e s m args below meth c g H locs la' C hz hS hR (ALv_putL hL (ok_c hs).1 h') (ok_c hs).2)
theorem Ak_astore_n (q : Nat) {j : Fin 4} (i : Nat) {x : Int} (hx : 0 ≤ x) (hd : decode mi.2.2.1 pc = .ok (.astore_n j, 1)) (hq : pc + 1 = q) (hi : (j : Nat) = i) (hn : i < mi.2.2.2.1) (k : AWz Z mi d mc ms cs sl q (lput ls i (aR x)) st S V r S' V') : AWz Z mi d mc ms cs sl pc ls (aR x :: st) S V r S' V' := by
  subst hq
  intro p l e s m args below meth c g H locs la C hz hS hR hL hs
  rw [List.map_cons, acv_Rn g hx]
  exact lv_astore_n C.1 C.2.1 hd hi (lvOf_has hL) hn rfl (fun la' h' => k p l e s m args below meth c g H locs la' C hz hS hR (ALv_put hL (ok_c hs).1 (by rw [acv_Rn g hx]; exact h')) (ok_c hs).2)
theorem Ak_astore (q : Nat) {i : Nat} {x : Int} (hx : 0 ≤ x) (hd : decode mi.2.2.1 pc = .ok (.astore i, 2)) (hq : pc + 2 = q) (hn : i < mi.2.2.2.1) (k : AWz Z mi d mc ms cs sl q (lput ls i (aR x)) st S V r S' V') : AWz Z mi d mc ms cs sl pc ls (aR x :: st) S V r S' V' := by
  subst hq
  intro p l e s m args below meth c g H locs la C hz hS hR hL hs
  rw [List.map_cons, acv_Rn g hx]
  exact lv_astore C.1 C.2.1 hd (lvOf_has hL) hn rfl (fun la' h' => k p l e s m args below meth c g H locs la' C hz hS hR (ALv_put hL (ok_c hs).1 (by rw [acv_Rn g hx]; exact h')) (ok_c hs).2)
theorem Ak_iinc (q : Nat) {i : Nat} {n x : Int} (hd : decode mi.2.2.1 pc = .ok (.iinc i n, 3)) (hq : pc + 3 = q) (hl : ls[i]? = some (some (aI x))) (hn : i < mi.2.2.2.1) (k : AWz Z mi d mc ms cs sl q (lput ls i (aI (w32 (x + n)))) st S V r S' V') : AWz Z mi d mc ms cs sl pc ls st S V r S' V' := by
  subst hq
  intro p l e s m args below meth c g H locs la C hz hS hR hL hs
  obtain ⟨kk, hk⟩ := List.getElem?_of_mem (lvOf_mem (g := g) hl)
  exact lv_iinc C.1 C.2.1 hd (lvOf_has hL) hk (v := Int32.ofInt (w32 (x + n))) (by rw [i32_w, Int32.ofInt_add]) hn rfl (fun la' h' => k p l e s m args below meth c g H locs la' C hz hS hR (ALv_put hL (w := aI (w32 (x + n))) (w32_ok _) h') hs)
end A6
/-- the locals at a method's entry -/
def aent : List AV → List (Option AV)
  | [] => []
  | .inr (.inl x) :: vs => some (aL x) :: none :: aent vs
  | v :: vs => some v :: aent vs
theorem aent_args (g : AG) : ∀ (vs : List AV) (o j : Nat) (v : AV), (aent vs)[j]? = some (some v) → (o + j, acv g v) ∈ lv_args o (vs.map (acv g)) ∧ v ∈ vs
  | [], o, j, v, h => by simp [aent] at h
  | .inr (.inl x) :: vs, o, 0, v, h => by
    simp [aent] at h
    subst h
    exact ⟨by simp [lv_args], by simp⟩
  | .inr (.inl x) :: vs, o, 1, v, h => by simp [aent] at h
  | .inr (.inl x) :: vs, o, j + 2, v, h => by
    simp only [aent, List.getElem?_cons_succ] at h
    have h1 := aent_args g vs (o + 2) j v h
    refine ⟨?_, List.mem_cons_of_mem _ h1.2⟩
    rw [List.map_cons, lv_args, if_pos (show (acv g (.inr (.inl x))).category = 2 from rfl)]
    exact List.mem_cons_of_mem _ (by rw [show o + (j + 2) = o + 2 + j by omega]; exact h1.1)
  | .inl x :: vs, o, 0, v, h => by
    simp [aent] at h
    subst h
    exact ⟨by simp [lv_args], by simp⟩
  | .inl x :: vs, o, j + 1, v, h => by
    simp only [aent, List.getElem?_cons_succ] at h
    have h1 := aent_args g vs (o + 1) j v h
    refine ⟨?_, List.mem_cons_of_mem _ h1.2⟩
    rw [List.map_cons, lv_args, if_neg (show ¬ (acv g (.inl x)).category = 2 from by rw [acat_v]; show ¬ 1 = 2; omega)]
    exact List.mem_cons_of_mem _ (by rw [show o + (j + 1) = o + 1 + j by omega]; exact h1.1)
  | .inr (.inr x) :: vs, o, 0, v, h => by
    simp [aent] at h
    subst h
    exact ⟨by simp [lv_args], by simp⟩
  | .inr (.inr x) :: vs, o, j + 1, v, h => by
    simp only [aent, List.getElem?_cons_succ] at h
    have h1 := aent_args g vs (o + 1) j v h
    refine ⟨?_, List.mem_cons_of_mem _ h1.2⟩
    rw [List.map_cons, lv_args, if_neg (show ¬ (acv g (.inr (.inr x))).category = 2 from by rw [acat_v]; show ¬ 1 = 2; omega)]
    exact List.mem_cons_of_mem _ (by rw [show o + (j + 1) = o + 1 + j by omega]; exact h1.1)
theorem aent_sl (g : AG) : ∀ vs : List AV, (lg_sl (vs.map (acv g))).length = (aent vs).length
  | [] => rfl
  | .inr (.inl x) :: vs => by
    have := aent_sl g vs
    simp only [lg_sl, List.map_cons, List.flatMap_cons, aent, List.length_append, List.length_cons] at this ⊢
    rw [if_pos (show (acv g (.inr (.inl x))).category = 2 from rfl)]
    simp only [List.length_cons, List.length_nil]
    omega
  | .inl x :: vs => by
    have := aent_sl g vs
    simp only [lg_sl, List.map_cons, List.flatMap_cons, aent, List.length_append, List.length_cons] at this ⊢
    rw [if_neg (show ¬ (acv g (.inl x)).category = 2 from by rw [acat_v]; show ¬ 1 = 2; omega)]
    simp only [List.length_cons, List.length_nil]
    omega
  | .inr (.inr x) :: vs => by
    have := aent_sl g vs
    simp only [lg_sl, List.map_cons, List.flatMap_cons, aent, List.length_append, List.length_cons] at this ⊢
    rw [if_neg (show ¬ (acv g (.inr (.inr x))).category = 2 from by rw [acat_v]; show ¬ 1 = 2; omega)]
    simp only [List.length_cons, List.length_nil]
    omega
