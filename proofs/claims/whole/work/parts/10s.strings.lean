/-! the two String constants: their loading, and String's own methods on them -/
/-- where a char stands in ;,()[]<>=+-*/% -/
def sIx (c : Int) : Int := if c = 59 then 0 else if c = 44 then 1 else if c = 40 then 2 else if c = 41 then 3 else if c = 91 then 4 else if c = 93 then 5 else if c = 60 then 6 else if c = 62 then 7 else if c = 61 then 8 else if c = 43 then 9 else if c = 45 then 10 else if c = 42 then 11 else if c = 47 then 12 else if c = 37 then 13 else -1
def f_Str_indexOf (S : ASh) (V : ASt) (x0 x1 : Int) : Option (Int × ASt) := if x0 = -3 then some (sIx x1, V) else none
/-- the chars of the own words -/
def sCh (k : Int) : Int := (tx0.toList.map (fun c => (c.toNat : Int))).getD k.toNat 0
def f_Str_length (S : ASh) (V : ASt) (x0 : Int) : Option (Int × ASt) := if x0 = -2 then some (104, V) else none
def f_Str_charAt (S : ASh) (V : ASt) (x0 x1 : Int) : Option (Int × ASt) := if x0 = -2 ∧ 0 ≤ x1 ∧ x1 < 104 then some (sCh x1, V) else none
section A10S
variable {Z : AG → Prop} {mi : AM} {d cs sl pc : Nat} {ls : List (Option AV)} {st : List AV} {S : ASh} {V : ASt} {r : Option AV} {V' : ASt}
theorem Ak_ldcS0 {mc ms : Nat} {S' : ASh} (q : Nat) (hd : decode mi.2.2.1 pc = .ok (.ldc 31, 2)) (hq : pc + 2 = q) (k : AWz Z mi d mc ms cs sl q ls (aR (-2) :: st) S V r S' V') (hm : mi.1 = "SundayGame$Tokens" := by rfl) : AWz Z mi d mc ms cs sl pc ls st S V r S' V' := by
  subst hq
  exact AWz.pure (fun p l e s m args below meth c g H locs la C hL hs => ⟨ok_m (v := aR (-2)) trivial hs, fun Q kk => va_ldcS C.1 C.2.1 C.2.2.2.2.1 (by rw [hm]; exact C.2.2.2.2.2.2.2.2.2.2.2.1) hd kk⟩) k
theorem Ak_ldcS1 {mc ms : Nat} {S' : ASh} (q : Nat) (hd : decode mi.2.2.1 pc = .ok (.ldc 79, 2)) (hq : pc + 2 = q) (k : AWz Z mi d mc ms cs sl q ls (aR (-3) :: st) S V r S' V') (hm : mi.1 = "SundayGame$Tokens" := by rfl) : AWz Z mi d mc ms cs sl pc ls st S V r S' V' := by
  subst hq
  exact AWz.pure (fun p l e s m args below meth c g H locs la C hL hs => ⟨ok_m (v := aR (-3)) trivial hs, fun Q kk => va_ldcS C.1 C.2.1 C.2.2.2.2.1 (by rw [hm]; exact C.2.2.2.2.2.2.2.2.2.2.2.2.1) hd kk⟩) k
theorem Ak_cStr_length {mc ms : Nat} {S' : ASh} (q : Nat) {r1 : Int} {V1 : ASt} (h : f_Str_length S V (-2) = some (r1, V1)) (hd : decode mi.2.2.1 pc = .ok (.invokevirtual 33, 3)) (hq : pc + 3 = q) (hcs : cs ≤ mc ∧ sl ≤ ms) (kk : AWz Z mi d mc ms cs sl q ls (aI r1 :: st) S V1 r S' V') (hm : mi.1 = "SundayGame$Tokens" := by rfl) : AWz Z mi d mc ms cs sl pc ls (aR (-2) :: st) S V r S' V' := by
  sorry
theorem Ak_cStr_charAt {mc ms : Nat} {S' : ASh} (q : Nat) {x r1 : Int} {V1 : ASt} (h : f_Str_charAt S V (-2) x = some (r1, V1)) (hd : decode mi.2.2.1 pc = .ok (.invokevirtual 39, 3)) (hq : pc + 3 = q) (hcs : cs ≤ mc ∧ sl ≤ ms) (kk : AWz Z mi d mc ms cs sl q ls (aI r1 :: st) S V1 r S' V') (hm : mi.1 = "SundayGame$Tokens" := by rfl) : AWz Z mi d mc ms cs sl pc ls (aI x :: aR (-2) :: st) S V r S' V' := by
  sorry
theorem Ak_cStr_indexOf (q : Nat) {x r1 : Int} {V1 : ASt} (h : f_Str_indexOf S V (-3) x = some (r1, V1)) (hd : decode mi.2.2.1 pc = .ok (.invokevirtual 81, 3)) (hq : pc + 3 = q) (kk : AWz Z mi d 0 0 0 0 q ls (aI r1 :: st) S V1 r S V') (hm : mi.1 = "SundayGame$Tokens" := by rfl) : AWz Z mi d 0 0 0 0 pc ls (aI x :: aR (-3) :: st) S V r S V' := by
  sorry
end A10S
