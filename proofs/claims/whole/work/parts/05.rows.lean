/-! rows of instructions over stack and locals -/
section A5
variable {Z : AG → Prop} {mi : AM} {d mc ms cs sl pc : Nat} {ls : List (Option AV)} {st : List AV} {S : ASh} {V : ASt} {r : Option AV} {S' : ASh} {V' : ASt}
theorem AWz.pure {pc2 : Nat} {st1 st2 : List AV} (h : ∀ (p : Program) (l : Launch) (e : Env) (s : State) (m : MethodId) (args : Array Value) (below : List Frame) (meth : Method) (c : Code) (g : AG) (H : Heap) (locs : List Loc) (la : Array Slot), ACx mi p s m args meth c g → ALv g la mi.2.2.2.1 ls → (∀ v ∈ st1, aok v) → (∀ v ∈ st2, aok v) ∧ ∀ Q : State → Prop, W p l e (arm d mc ms) s m args below meth c H locs cs sl Q (F0 m pc2 la (st2.map (acv g))) → W p l e (arm d mc ms) s m args below meth c H locs cs sl Q (F0 m pc la (st1.map (acv g))))
    (k : AWz Z mi d mc ms cs sl pc2 ls st2 S V r S' V') : AWz Z mi d mc ms cs sl pc ls st1 S V r S' V' := by
  intro p l e s m args below meth c g H locs la C hz hS hR hL hs
  obtain ⟨h1, h2⟩ := h p l e s m args below meth c g H locs la C hL hs
  exact h2 _ (k p l e s m args below meth c g H locs la C hz hS hR hL h1)
theorem ok_c {v : AV} {st : List AV} (h : ∀ x ∈ v :: st, aok x) : aok v ∧ ∀ x ∈ st, aok x := ⟨h v List.mem_cons_self, fun x hx => h x (List.mem_cons_of_mem _ hx)⟩
theorem ok_m {v : AV} {st : List AV} (h1 : aok v) (h : ∀ x ∈ st, aok x) : ∀ x ∈ v :: st, aok x := fun x hx => (List.mem_cons.mp hx).elim (fun e => e ▸ h1) (h x)
theorem Ak_iconst (q : Nat) {n : Int} (hd : decode mi.2.2.1 pc = .ok (.iconst n, 1)) (hq : pc + 1 = q) (hn : r32 n) (k : AWz Z mi d mc ms cs sl q ls (aI n :: st) S V r S' V') : AWz Z mi d mc ms cs sl pc ls st S V r S' V' := by
  subst hq
  exact AWz.pure (fun p l e s m args below meth c g H locs la C hL hs => ⟨ok_m (v := aI n) hn hs, fun Q kk => lv_iconst C.1 C.2.1 hd rfl kk⟩) k
theorem Ak_bipush (q : Nat) {n : Int} (hd : decode mi.2.2.1 pc = .ok (.bipush n, 2)) (hq : pc + 2 = q) (hn : (Int8.ofInt n).toInt32 = Int32.ofInt n) (hr : r32 n) (k : AWz Z mi d mc ms cs sl q ls (aI n :: st) S V r S' V') : AWz Z mi d mc ms cs sl pc ls st S V r S' V' := by
  subst hq
  exact AWz.pure (fun p l e s m args below meth c g H locs la C hL hs => ⟨ok_m (v := aI n) hr hs, fun Q kk => lv_bipush C.1 C.2.1 hd hn kk⟩) k
theorem Ak_sipush (q : Nat) {n : Int} (hd : decode mi.2.2.1 pc = .ok (.sipush n, 3)) (hq : pc + 3 = q) (hn : (Int16.ofInt n).toInt32 = Int32.ofInt n) (hr : r32 n) (k : AWz Z mi d mc ms cs sl q ls (aI n :: st) S V r S' V') : AWz Z mi d mc ms cs sl pc ls st S V r S' V' := by
  subst hq
  exact AWz.pure (fun p l e s m args below meth c g H locs la C hL hs => ⟨ok_m (v := aI n) hr hs, fun Q kk => lv_sipush C.1 C.2.1 hd hn kk⟩) k
theorem Ak_lconst (q : Nat) {n : Fin 2} (x : Int) (hd : decode mi.2.2.1 pc = .ok (.lconst n, 1)) (hq : pc + 1 = q) (hn : Int64.ofNat (n : Nat) = Int64.ofInt x) (hr : r64 x) (k : AWz Z mi d mc ms cs sl q ls (aL x :: st) S V r S' V') : AWz Z mi d mc ms cs sl pc ls st S V r S' V' := by
  subst hq
  exact AWz.pure (fun p l e s m args below meth c g H locs la C hL hs => ⟨ok_m (v := aL x) hr hs, fun Q kk => lv_lconst C.1 C.2.1 hd hn kk⟩) k
theorem Ak_ldc (q : Nat) {ix : Nat} (x : Int) (hd : decode mi.2.2.1 pc = .ok (.ldc ix, 2)) (hq : pc + 2 = q) (hw : Cond.constant mi.1 ix (Int32.ofInt x) ∈ tG) (hr : r32 x) (k : AWz Z mi d mc ms cs sl q ls (aI x :: st) S V r S' V') : AWz Z mi d mc ms cs sl pc ls st S V r S' V' := by
  subst hq
  exact AWz.pure (fun p l e s m args below meth c g H locs la C hL hs => ⟨ok_m (v := aI x) hr hs, fun Q kk => lv_ldc C.1 C.2.1 C.2.2.2.2.1 (C.2.2.2.2.2.1 _ hw) hd kk⟩) k
theorem Ak_ldc2 (q : Nat) {ix : Nat} (x : Int) (hd : decode mi.2.2.1 pc = .ok (.ldc2_w ix, 3)) (hq : pc + 3 = q) (hw : Cond.constantLong mi.1 ix (Int64.ofInt x) ∈ tG) (hr : r64 x) (k : AWz Z mi d mc ms cs sl q ls (aL x :: st) S V r S' V') : AWz Z mi d mc ms cs sl pc ls st S V r S' V' := by
  subst hq
  exact AWz.pure (fun p l e s m args below meth c g H locs la C hL hs => ⟨ok_m (v := aL x) hr hs, fun Q kk => lv_ldc2 C.1 C.2.1 C.2.2.2.2.1 (C.2.2.2.2.2.1 _ hw) hd kk⟩) k
theorem Ak_iload_n (q : Nat) {j : Fin 4} (i : Nat) {x : Int} (hd : decode mi.2.2.1 pc = .ok (.iload_n j, 1)) (hq : pc + 1 = q) (hi : (j : Nat) = i) (hl : ls[i]? = some (some (aI x))) (k : AWz Z mi d mc ms cs sl q ls (aI x :: st) S V r S' V') : AWz Z mi d mc ms cs sl pc ls st S V r S' V' := by
  subst hq
  exact AWz.pure (fun p l e s m args below meth c g H locs la C hL hs => ⟨ok_m (hL.2.2 i _ hl).2 hs, fun Q kk => lv_iload_n C.1 C.2.1 hd hi (hL.2.2 i _ hl).1 kk⟩) k
theorem Ak_iload (q : Nat) {i : Nat} {x : Int} (hd : decode mi.2.2.1 pc = .ok (.iload i, 2)) (hq : pc + 2 = q) (hl : ls[i]? = some (some (aI x))) (k : AWz Z mi d mc ms cs sl q ls (aI x :: st) S V r S' V') : AWz Z mi d mc ms cs sl pc ls st S V r S' V' := by
  subst hq
  exact AWz.pure (fun p l e s m args below meth c g H locs la C hL hs => ⟨ok_m (hL.2.2 i _ hl).2 hs, fun Q kk => lv_iload C.1 C.2.1 hd (hL.2.2 i _ hl).1 kk⟩) k
theorem Ak_lload_n (q : Nat) {j : Fin 4} (i : Nat) {x : Int} (hd : decode mi.2.2.1 pc = .ok (.lload_n j, 1)) (hq : pc + 1 = q) (hi : (j : Nat) = i) (hl : ls[i]? = some (some (aL x))) (k : AWz Z mi d mc ms cs sl q ls (aL x :: st) S V r S' V') : AWz Z mi d mc ms cs sl pc ls st S V r S' V' := by
  subst hq
  exact AWz.pure (fun p l e s m args below meth c g H locs la C hL hs => ⟨ok_m (hL.2.2 i _ hl).2 hs, fun Q kk => lv_lload_n C.1 C.2.1 hd hi (hL.2.2 i _ hl).1 kk⟩) k
theorem Ak_lload (q : Nat) {i : Nat} {x : Int} (hd : decode mi.2.2.1 pc = .ok (.lload i, 2)) (hq : pc + 2 = q) (hl : ls[i]? = some (some (aL x))) (k : AWz Z mi d mc ms cs sl q ls (aL x :: st) S V r S' V') : AWz Z mi d mc ms cs sl pc ls st S V r S' V' := by
  subst hq
  exact AWz.pure (fun p l e s m args below meth c g H locs la C hL hs => ⟨ok_m (hL.2.2 i _ hl).2 hs, fun Q kk => lv_lload C.1 C.2.1 hd (hL.2.2 i _ hl).1 kk⟩) k
theorem Ak_aload_n (q : Nat) {j : Fin 4} (i : Nat) {x : Int} (hd : decode mi.2.2.1 pc = .ok (.aload_n j, 1)) (hq : pc + 1 = q) (hi : (j : Nat) = i) (hl : ls[i]? = some (some (aR x))) (k : AWz Z mi d mc ms cs sl q ls (aR x :: st) S V r S' V') : AWz Z mi d mc ms cs sl pc ls st S V r S' V' := by
  subst hq
  refine AWz.pure (fun p l e s m args below meth c g H locs la C hL hs => ⟨ok_m (hL.2.2 i _ hl).2 hs, fun Q kk => ?_⟩) k
  have h1 := (hL.2.2 i _ hl).1
  rw [List.map_cons] at kk
  rw [acv_R] at h1 kk
  cases ha : aref g x with
  | none => rw [ha] at h1 kk; exact lv_aload_nN C.1 C.2.1 hd hi h1 kk
  | some y => rw [ha] at h1 kk; exact lv_aload_n C.1 C.2.1 hd hi h1 kk
theorem Ak_aload (q : Nat) {i : Nat} {x : Int} (hd : decode mi.2.2.1 pc = .ok (.aload i, 2)) (hq : pc + 2 = q) (hl : ls[i]? = some (some (aR x))) (k : AWz Z mi d mc ms cs sl q ls (aR x :: st) S V r S' V') : AWz Z mi d mc ms cs sl pc ls st S V r S' V' := by
  subst hq
  refine AWz.pure (fun p l e s m args below meth c g H locs la C hL hs => ⟨ok_m (hL.2.2 i _ hl).2 hs, fun Q kk => ?_⟩) k
  have h1 := (hL.2.2 i _ hl).1
  rw [List.map_cons] at kk
  rw [acv_R] at h1 kk
  cases ha : aref g x with
  | none => rw [ha] at h1 kk; exact lv_aloadN C.1 C.2.1 hd h1 kk
  | some y => rw [ha] at h1 kk; exact lv_aload C.1 C.2.1 hd h1 kk
theorem Ak_iadd (q : Nat) {x y : Int} (hd : decode mi.2.2.1 pc = .ok (.iadd, 1)) (hq : pc + 1 = q) (k : AWz Z mi d mc ms cs sl q ls (aI (w32 (x + y)) :: st) S V r S' V') : AWz Z mi d mc ms cs sl pc ls (aI y :: aI x :: st) S V r S' V' := by
  subst hq
  refine AWz.pure (fun p l e s m args below meth c g H locs la C hL hs => ?_) k
  obtain ⟨hy, hs1⟩ := ok_c hs
  obtain ⟨hx, hs2⟩ := ok_c hs1
  refine ⟨ok_m (v := aI (w32 (x + y))) (w32_ok _) hs2, fun Q kk => ?_⟩
  rw [List.map_cons, acv_I] at kk
  rw [i32_w, Int32.ofInt_add] at kk
  exact lv_iadd C.1 C.2.1 hd kk
theorem Ak_isub (q : Nat) {x y : Int} (hd : decode mi.2.2.1 pc = .ok (.isub, 1)) (hq : pc + 1 = q) (k : AWz Z mi d mc ms cs sl q ls (aI (w32 (x - y)) :: st) S V r S' V') : AWz Z mi d mc ms cs sl pc ls (aI y :: aI x :: st) S V r S' V' := by
  subst hq
  refine AWz.pure (fun p l e s m args below meth c g H locs la C hL hs => ?_) k
  obtain ⟨hy, hs1⟩ := ok_c hs
  obtain ⟨hx, hs2⟩ := ok_c hs1
  refine ⟨ok_m (v := aI (w32 (x - y))) (w32_ok _) hs2, fun Q kk => ?_⟩
  rw [List.map_cons, acv_I] at kk
  rw [i32_w, Int32.ofInt_sub] at kk
  exact lv_isub C.1 C.2.1 hd kk
theorem Ak_imul (q : Nat) {x y : Int} (hd : decode mi.2.2.1 pc = .ok (.imul, 1)) (hq : pc + 1 = q) (k : AWz Z mi d mc ms cs sl q ls (aI (w32 (x * y)) :: st) S V r S' V') : AWz Z mi d mc ms cs sl pc ls (aI y :: aI x :: st) S V r S' V' := by
  subst hq
  refine AWz.pure (fun p l e s m args below meth c g H locs la C hL hs => ?_) k
  obtain ⟨hy, hs1⟩ := ok_c hs
  obtain ⟨hx, hs2⟩ := ok_c hs1
  refine ⟨ok_m (v := aI (w32 (x * y))) (w32_ok _) hs2, fun Q kk => ?_⟩
  rw [List.map_cons, acv_I] at kk
  rw [i32_w, Int32.ofInt_mul] at kk
  exact lv_imul C.1 C.2.1 hd kk
theorem Ak_ladd (q : Nat) {x y : Int} (hd : decode mi.2.2.1 pc = .ok (.ladd, 1)) (hq : pc + 1 = q) (k : AWz Z mi d mc ms cs sl q ls (aL (w64 (x + y)) :: st) S V r S' V') : AWz Z mi d mc ms cs sl pc ls (aL y :: aL x :: st) S V r S' V' := by
  subst hq
  refine AWz.pure (fun p l e s m args below meth c g H locs la C hL hs => ?_) k
  obtain ⟨hy, hs1⟩ := ok_c hs
  obtain ⟨hx, hs2⟩ := ok_c hs1
  refine ⟨ok_m (v := aL (w64 (x + y))) (w64_ok _) hs2, fun Q kk => ?_⟩
  rw [List.map_cons, acv_L] at kk
  rw [i64_w, Int64.ofInt_add] at kk
  exact lv_ladd C.1 C.2.1 hd kk
theorem Ak_lsub (q : Nat) {x y : Int} (hd : decode mi.2.2.1 pc = .ok (.lsub, 1)) (hq : pc + 1 = q) (k : AWz Z mi d mc ms cs sl q ls (aL (w64 (x - y)) :: st) S V r S' V') : AWz Z mi d mc ms cs sl pc ls (aL y :: aL x :: st) S V r S' V' := by
  subst hq
  refine AWz.pure (fun p l e s m args below meth c g H locs la C hL hs => ?_) k
  obtain ⟨hy, hs1⟩ := ok_c hs
  obtain ⟨hx, hs2⟩ := ok_c hs1
  refine ⟨ok_m (v := aL (w64 (x - y))) (w64_ok _) hs2, fun Q kk => ?_⟩
  rw [List.map_cons, acv_L] at kk
  rw [i64_w, Int64.ofInt_sub] at kk
  exact lv_lsub C.1 C.2.1 hd kk
theorem Ak_lmul (q : Nat) {x y : Int} (hd : decode mi.2.2.1 pc = .ok (.lmul, 1)) (hq : pc + 1 = q) (k : AWz Z mi d mc ms cs sl q ls (aL (w64 (x * y)) :: st) S V r S' V') : AWz Z mi d mc ms cs sl pc ls (aL y :: aL x :: st) S V r S' V' := by
  subst hq
  refine AWz.pure (fun p l e s m args below meth c g H locs la C hL hs => ?_) k
  obtain ⟨hy, hs1⟩ := ok_c hs
  obtain ⟨hx, hs2⟩ := ok_c hs1
  refine ⟨ok_m (v := aL (w64 (x * y))) (w64_ok _) hs2, fun Q kk => ?_⟩
  rw [List.map_cons, acv_L] at kk
  rw [i64_w, Int64.ofInt_mul] at kk
  exact lv_lmul C.1 C.2.1 hd kk
theorem Ak_iand (q : Nat) {x y : Int} (hd : decode mi.2.2.1 pc = .ok (.iand, 1)) (hq : pc + 1 = q) (k : AWz Z mi d mc ms cs sl q ls (aI (and32 x y) :: st) S V r S' V') : AWz Z mi d mc ms cs sl pc ls (aI y :: aI x :: st) S V r S' V' := by
  subst hq
  refine AWz.pure (fun p l e s m args below meth c g H locs la C hL hs => ?_) k
  obtain ⟨hy, hs1⟩ := ok_c hs
  obtain ⟨hx, hs2⟩ := ok_c hs1
  refine ⟨ok_m (v := aI (and32 x y)) (r32_toInt _) hs2, fun Q kk => ?_⟩
  rw [List.map_cons, acv_I] at kk
  unfold and32 at kk
  rw [Int32.ofInt_toInt] at kk
  exact lv_iand C.1 C.2.1 hd kk
theorem Ak_ior (q : Nat) {x y : Int} (hd : decode mi.2.2.1 pc = .ok (.ior, 1)) (hq : pc + 1 = q) (k : AWz Z mi d mc ms cs sl q ls (aI (or32 x y) :: st) S V r S' V') : AWz Z mi d mc ms cs sl pc ls (aI y :: aI x :: st) S V r S' V' := by
  subst hq
  refine AWz.pure (fun p l e s m args below meth c g H locs la C hL hs => ?_) k
  obtain ⟨hy, hs1⟩ := ok_c hs
  obtain ⟨hx, hs2⟩ := ok_c hs1
  refine ⟨ok_m (v := aI (or32 x y)) (r32_toInt _) hs2, fun Q kk => ?_⟩
  rw [List.map_cons, acv_I] at kk
  unfold or32 at kk
  rw [Int32.ofInt_toInt] at kk
  exact lv_ior C.1 C.2.1 hd kk
theorem Ak_ixor (q : Nat) {x y : Int} (hd : decode mi.2.2.1 pc = .ok (.ixor, 1)) (hq : pc + 1 = q) (k : AWz Z mi d mc ms cs sl q ls (aI (xor32 x y) :: st) S V r S' V') : AWz Z mi d mc ms cs sl pc ls (aI y :: aI x :: st) S V r S' V' := by
  subst hq
  refine AWz.pure (fun p l e s m args below meth c g H locs la C hL hs => ?_) k
  obtain ⟨hy, hs1⟩ := ok_c hs
  obtain ⟨hx, hs2⟩ := ok_c hs1
  refine ⟨ok_m (v := aI (xor32 x y)) (r32_toInt _) hs2, fun Q kk => ?_⟩
  rw [List.map_cons, acv_I] at kk
  unfold xor32 at kk
  rw [Int32.ofInt_toInt] at kk
  exact lv_ixor C.1 C.2.1 hd kk
theorem Ak_ishl (q : Nat) {x y : Int} (hd : decode mi.2.2.1 pc = .ok (.ishl, 1)) (hq : pc + 1 = q) (k : AWz Z mi d mc ms cs sl q ls (aI (shl32 x y) :: st) S V r S' V') : AWz Z mi d mc ms cs sl pc ls (aI y :: aI x :: st) S V r S' V' := by
  subst hq
  refine AWz.pure (fun p l e s m args below meth c g H locs la C hL hs => ?_) k
  obtain ⟨hy, hs1⟩ := ok_c hs
  obtain ⟨hx, hs2⟩ := ok_c hs1
  refine ⟨ok_m (v := aI (shl32 x y)) (r32_toInt _) hs2, fun Q kk => ?_⟩
  rw [List.map_cons, acv_I] at kk
  unfold shl32 at kk
  rw [Int32.ofInt_toInt] at kk
  exact lv_ishl C.1 C.2.1 hd kk
theorem Ak_ishr (q : Nat) {x y : Int} (hd : decode mi.2.2.1 pc = .ok (.ishr, 1)) (hq : pc + 1 = q) (k : AWz Z mi d mc ms cs sl q ls (aI (shr32 x y) :: st) S V r S' V') : AWz Z mi d mc ms cs sl pc ls (aI y :: aI x :: st) S V r S' V' := by
  subst hq
  refine AWz.pure (fun p l e s m args below meth c g H locs la C hL hs => ?_) k
  obtain ⟨hy, hs1⟩ := ok_c hs
  obtain ⟨hx, hs2⟩ := ok_c hs1
  refine ⟨ok_m (v := aI (shr32 x y)) (r32_toInt _) hs2, fun Q kk => ?_⟩
  rw [List.map_cons, acv_I] at kk
  unfold shr32 at kk
  rw [Int32.ofInt_toInt] at kk
  exact lv_ishr C.1 C.2.1 hd kk
theorem Ak_iushr (q : Nat) {x y : Int} (hd : decode mi.2.2.1 pc = .ok (.iushr, 1)) (hq : pc + 1 = q) (k : AWz Z mi d mc ms cs sl q ls (aI (ushr32 x y) :: st) S V r S' V') : AWz Z mi d mc ms cs sl pc ls (aI y :: aI x :: st) S V r S' V' := by
  subst hq
  refine AWz.pure (fun p l e s m args below meth c g H locs la C hL hs => ?_) k
  obtain ⟨hy, hs1⟩ := ok_c hs
  obtain ⟨hx, hs2⟩ := ok_c hs1
  refine ⟨ok_m (v := aI (ushr32 x y)) (r32_toInt _) hs2, fun Q kk => ?_⟩
  rw [List.map_cons, acv_I] at kk
  unfold ushr32 at kk
  rw [Int32.ofInt_toInt] at kk
  exact lv_iushr C.1 C.2.1 hd rfl kk
theorem Ak_land (q : Nat) {x y : Int} (hd : decode mi.2.2.1 pc = .ok (.land, 1)) (hq : pc + 1 = q) (k : AWz Z mi d mc ms cs sl q ls (aL (and64 x y) :: st) S V r S' V') : AWz Z mi d mc ms cs sl pc ls (aL y :: aL x :: st) S V r S' V' := by
  subst hq
  refine AWz.pure (fun p l e s m args below meth c g H locs la C hL hs => ?_) k
  obtain ⟨hy, hs1⟩ := ok_c hs
  obtain ⟨hx, hs2⟩ := ok_c hs1
  refine ⟨ok_m (v := aL (and64 x y)) (r64_toInt _) hs2, fun Q kk => ?_⟩
  rw [List.map_cons, acv_L] at kk
  unfold and64 at kk
  rw [Int64.ofInt_toInt] at kk
  exact lv_land C.1 C.2.1 hd kk
theorem Ak_lor (q : Nat) {x y : Int} (hd : decode mi.2.2.1 pc = .ok (.lor, 1)) (hq : pc + 1 = q) (k : AWz Z mi d mc ms cs sl q ls (aL (or64 x y) :: st) S V r S' V') : AWz Z mi d mc ms cs sl pc ls (aL y :: aL x :: st) S V r S' V' := by
  subst hq
  refine AWz.pure (fun p l e s m args below meth c g H locs la C hL hs => ?_) k
  obtain ⟨hy, hs1⟩ := ok_c hs
  obtain ⟨hx, hs2⟩ := ok_c hs1
  refine ⟨ok_m (v := aL (or64 x y)) (r64_toInt _) hs2, fun Q kk => ?_⟩
  rw [List.map_cons, acv_L] at kk
  unfold or64 at kk
  rw [Int64.ofInt_toInt] at kk
  exact lv_lor C.1 C.2.1 hd kk
theorem Ak_lshl (q : Nat) {x y : Int} (hd : decode mi.2.2.1 pc = .ok (.lshl, 1)) (hq : pc + 1 = q) (k : AWz Z mi d mc ms cs sl q ls (aL (shl64 x y) :: st) S V r S' V') : AWz Z mi d mc ms cs sl pc ls (aI y :: aL x :: st) S V r S' V' := by
  subst hq
  refine AWz.pure (fun p l e s m args below meth c g H locs la C hL hs => ?_) k
  obtain ⟨hy, hs1⟩ := ok_c hs
  obtain ⟨hx, hs2⟩ := ok_c hs1
  refine ⟨ok_m (v := aL (shl64 x y)) (r64_toInt _) hs2, fun Q kk => ?_⟩
  rw [List.map_cons, acv_L] at kk
  unfold shl64 at kk
  rw [Int64.ofInt_toInt] at kk
  exact lv_lshl C.1 C.2.1 hd rfl kk
theorem Ak_lushr (q : Nat) {x y : Int} (hd : decode mi.2.2.1 pc = .ok (.lushr, 1)) (hq : pc + 1 = q) (k : AWz Z mi d mc ms cs sl q ls (aL (ushr64 x y) :: st) S V r S' V') : AWz Z mi d mc ms cs sl pc ls (aI y :: aL x :: st) S V r S' V' := by
  subst hq
  refine AWz.pure (fun p l e s m args below meth c g H locs la C hL hs => ?_) k
  obtain ⟨hy, hs1⟩ := ok_c hs
  obtain ⟨hx, hs2⟩ := ok_c hs1
  refine ⟨ok_m (v := aL (ushr64 x y)) (r64_toInt _) hs2, fun Q kk => ?_⟩
  rw [List.map_cons, acv_L] at kk
  unfold ushr64 at kk
  rw [Int64.ofInt_toInt] at kk
  exact lv_lushr C.1 C.2.1 hd rfl kk
theorem Ak_idiv (q : Nat) {x y : Int} (hd : decode mi.2.2.1 pc = .ok (.idiv, 1)) (hq : pc + 1 = q) (hne : y ≠ 0) (k : AWz Z mi d mc ms cs sl q ls (aI (w32 (Int.tdiv x y)) :: st) S V r S' V') : AWz Z mi d mc ms cs sl pc ls (aI y :: aI x :: st) S V r S' V' := by
  subst hq
  refine AWz.pure (fun p l e s m args below meth c g H locs la C hL hs => ?_) k
  obtain ⟨hy, hs1⟩ := ok_c hs
  obtain ⟨hx, hs2⟩ := ok_c hs1
  refine ⟨ok_m (v := aI (w32 (Int.tdiv x y))) (w32_ok _) hs2, fun Q kk => ?_⟩
  rw [List.map_cons, acv_I] at kk
  rw [i32_w, ← i32_div hx hy] at kk
  exact lv_idiv C.1 C.2.1 hd (fun z => hne ((i32_eq hy r32_0).mp z)) kk
theorem Ak_irem (q : Nat) {x y : Int} (hd : decode mi.2.2.1 pc = .ok (.irem, 1)) (hq : pc + 1 = q) (hne : y ≠ 0) (k : AWz Z mi d mc ms cs sl q ls (aI (Int.tmod x y) :: st) S V r S' V') : AWz Z mi d mc ms cs sl pc ls (aI y :: aI x :: st) S V r S' V' := by
  subst hq
  refine AWz.pure (fun p l e s m args below meth c g H locs la C hL hs => ?_) k
  obtain ⟨hy, hs1⟩ := ok_c hs
  obtain ⟨hx, hs2⟩ := ok_c hs1
  refine ⟨ok_m (v := aI (Int.tmod x y)) (tmod_ok hx hne) hs2, fun Q kk => ?_⟩
  rw [List.map_cons, acv_I] at kk
  rw [← i32_rem hx hy] at kk
  exact lv_irem C.1 C.2.1 hd (fun z => hne ((i32_eq hy r32_0).mp z)) kk
theorem Ak_ldiv (q : Nat) {x y : Int} (hd : decode mi.2.2.1 pc = .ok (.ldiv, 1)) (hq : pc + 1 = q) (hne : y ≠ 0) (k : AWz Z mi d mc ms cs sl q ls (aL (w64 (Int.tdiv x y)) :: st) S V r S' V') : AWz Z mi d mc ms cs sl pc ls (aL y :: aL x :: st) S V r S' V' := by
  subst hq
  refine AWz.pure (fun p l e s m args below meth c g H locs la C hL hs => ?_) k
  obtain ⟨hy, hs1⟩ := ok_c hs
  obtain ⟨hx, hs2⟩ := ok_c hs1
  refine ⟨ok_m (v := aL (w64 (Int.tdiv x y))) (w64_ok _) hs2, fun Q kk => ?_⟩
  rw [List.map_cons, acv_L] at kk
  rw [i64_w, ← i64_div hx hy] at kk
  exact lv_ldiv C.1 C.2.1 hd (fun z => hne ((i64_eq hy ⟨by decide, by decide⟩).mp z)) kk
theorem Ak_lrem (q : Nat) {x y : Int} (hd : decode mi.2.2.1 pc = .ok (.lrem, 1)) (hq : pc + 1 = q) (hne : y ≠ 0) (k : AWz Z mi d mc ms cs sl q ls (aL (Int.tmod x y) :: st) S V r S' V') : AWz Z mi d mc ms cs sl pc ls (aL y :: aL x :: st) S V r S' V' := by
  subst hq
  refine AWz.pure (fun p l e s m args below meth c g H locs la C hL hs => ?_) k
  obtain ⟨hy, hs1⟩ := ok_c hs
  obtain ⟨hx, hs2⟩ := ok_c hs1
  refine ⟨ok_m (v := aL (Int.tmod x y)) (tmodL_ok hx hne) hs2, fun Q kk => ?_⟩
  rw [List.map_cons, acv_L] at kk
  rw [← i64_rem hx hy] at kk
  exact lv_lrem C.1 C.2.1 hd (fun z => hne ((i64_eq hy ⟨by decide, by decide⟩).mp z)) kk
theorem Ak_lcmp (q : Nat) {x y : Int} (hd : decode mi.2.2.1 pc = .ok (.lcmp, 1)) (hq : pc + 1 = q) (k : AWz Z mi d mc ms cs sl q ls (aI (cmp64 x y) :: st) S V r S' V') : AWz Z mi d mc ms cs sl pc ls (aL y :: aL x :: st) S V r S' V' := by
  subst hq
  refine AWz.pure (fun p l e s m args below meth c g H locs la C hL hs => ?_) k
  obtain ⟨hy, hs1⟩ := ok_c hs
  obtain ⟨hx, hs2⟩ := ok_c hs1
  refine ⟨ok_m (v := aI (cmp64 x y)) (cmp64_ok x y) hs2, fun Q kk => ?_⟩
  rw [List.map_cons, acv_I] at kk
  rw [← i64_cmp hx hy] at kk
  exact W.lcmp C.1 C.2.1 hd kk
theorem Ak_ineg (q : Nat) {x : Int} (hd : decode mi.2.2.1 pc = .ok (.ineg, 1)) (hq : pc + 1 = q) (k : AWz Z mi d mc ms cs sl q ls (aI (w32 (-x)) :: st) S V r S' V') : AWz Z mi d mc ms cs sl pc ls (aI x :: st) S V r S' V' := by
  subst hq
  refine AWz.pure (fun p l e s m args below meth c g H locs la C hL hs => ?_) k
  obtain ⟨hx, hs1⟩ := ok_c hs
  refine ⟨ok_m (v := aI (w32 (-x))) (w32_ok _) hs1, fun Q kk => ?_⟩
  rw [List.map_cons, acv_I] at kk
  rw [i32_w, Int32.ofInt_neg] at kk
  exact lv_ineg C.1 C.2.1 hd kk
theorem Ak_i2l (q : Nat) {x : Int} (hd : decode mi.2.2.1 pc = .ok (.i2l, 1)) (hq : pc + 1 = q) (k : AWz Z mi d mc ms cs sl q ls (aL (x) :: st) S V r S' V') : AWz Z mi d mc ms cs sl pc ls (aI x :: st) S V r S' V' := by
  subst hq
  refine AWz.pure (fun p l e s m args below meth c g H locs la C hL hs => ?_) k
  obtain ⟨hx, hs1⟩ := ok_c hs
  refine ⟨ok_m (v := aL (x)) (r32_64 hx) hs1, fun Q kk => ?_⟩
  rw [List.map_cons, acv_L] at kk
  exact lv_i2l C.1 C.2.1 hd (i32_64 hx) kk
theorem Ak_l2i (q : Nat) {x : Int} (hd : decode mi.2.2.1 pc = .ok (.l2i, 1)) (hq : pc + 1 = q) (k : AWz Z mi d mc ms cs sl q ls (aI (w32 x) :: st) S V r S' V') : AWz Z mi d mc ms cs sl pc ls (aL x :: st) S V r S' V' := by
  subst hq
  refine AWz.pure (fun p l e s m args below meth c g H locs la C hL hs => ?_) k
  obtain ⟨hx, hs1⟩ := ok_c hs
  refine ⟨ok_m (v := aI (w32 x)) (w32_ok _) hs1, fun Q kk => ?_⟩
  rw [List.map_cons, acv_I] at kk
  rw [i32_w] at kk
  exact lv_l2i C.1 C.2.1 hd Int64.toInt32_ofInt kk
theorem Ak_i2c (q : Nat) {x : Int} (hd : decode mi.2.2.1 pc = .ok (.i2c, 1)) (hq : pc + 1 = q) (k : AWz Z mi d mc ms cs sl q ls (aI (chr16 x) :: st) S V r S' V') : AWz Z mi d mc ms cs sl pc ls (aI x :: st) S V r S' V' := by
  subst hq
  refine AWz.pure (fun p l e s m args below meth c g H locs la C hL hs => ?_) k
  obtain ⟨hx, hs1⟩ := ok_c hs
  refine ⟨ok_m (v := aI (chr16 x)) (r32_toInt _) hs1, fun Q kk => ?_⟩
  rw [List.map_cons, acv_I] at kk
  unfold chr16 at kk
  rw [Int32.ofInt_toInt] at kk
  exact lv_i2c C.1 C.2.1 hd rfl kk
def acat : AV → Nat
  | .inr (.inl _) => 2
  | _ => 1
theorem acat_v (g : AG) (v : AV) : (acv g v).category = acat v := by
  rcases v with x | x | a
  · rfl
  · rfl
  · rw [acv_R]
    cases aref g a <;> rfl
theorem Ak_dup (q : Nat) {v : AV} (hd : decode mi.2.2.1 pc = .ok (.dup, 1)) (hq : pc + 1 = q) (hc : acat v = 1) (k : AWz Z mi d mc ms cs sl q ls (v :: v :: st) S V r S' V') : AWz Z mi d mc ms cs sl pc ls (v :: st) S V r S' V' := by
  subst hq
  exact AWz.pure (fun p l e s m args below meth c g H locs la C hL hs => ⟨ok_m (ok_c hs).1 hs, fun Q kk => lv_dup C.1 C.2.1 hd (by rw [acat_v]; exact hc) kk⟩) k
theorem Ak_pop (q : Nat) {v : AV} (hd : decode mi.2.2.1 pc = .ok (.pop, 1)) (hq : pc + 1 = q) (hc : acat v = 1) (k : AWz Z mi d mc ms cs sl q ls st S V r S' V') : AWz Z mi d mc ms cs sl pc ls (v :: st) S V r S' V' := by
  subst hq
  exact AWz.pure (fun p l e s m args below meth c g H locs la C hL hs => ⟨(ok_c hs).2, fun Q kk => lv_pop C.1 C.2.1 hd (by rw [acat_v]; exact hc) kk⟩) k
theorem Ak_dup2 (q : Nat) {v w : AV} (hd : decode mi.2.2.1 pc = .ok (.dup2, 1)) (hq : pc + 1 = q) (hc : acat v = 1) (hc2 : acat w = 1) (k : AWz Z mi d mc ms cs sl q ls (v :: w :: v :: w :: st) S V r S' V') : AWz Z mi d mc ms cs sl pc ls (v :: w :: st) S V r S' V' := by
  subst hq
  exact AWz.pure (fun p l e s m args below meth c g H locs la C hL hs => ⟨ok_m (ok_c hs).1 (ok_m (ok_c (ok_c hs).2).1 hs), fun Q kk => lv_dup2_11 C.1 C.2.1 hd (by rw [acat_v]; exact hc) (by rw [acat_v]; exact hc2) kk⟩) k
theorem Ak_goto (q : Nat) {off : Int} (hd : decode mi.2.2.1 pc = .ok (.goto off, 3)) (hq : (pc : Int) + off = (q : Int)) (k : AWz Z mi d mc ms cs sl q ls st S V r S' V') : AWz Z mi d mc ms cs sl pc ls st S V r S' V' :=
  AWz.pure (fun p l e s m args below meth c g H locs la C hL hs => ⟨hs, fun Q kk => lv_goto C.1 C.2.1 hd hq kk⟩) k
theorem Ak_icmp_eq (t q : Nat) {x y : Int} {off : Int} (hd : decode mi.2.2.1 pc = .ok (.if_icmp .eq off, 3)) (ht : (pc : Int) + off = (t : Int)) (hq : pc + 3 = q) (kt : x = y → AWz Z mi d mc ms cs sl t ls st S V r S' V') (kf : ¬ (x = y) → AWz Z mi d mc ms cs sl q ls st S V r S' V') : AWz Z mi d mc ms cs sl pc ls (aI y :: aI x :: st) S V r S' V' := by
  subst hq
  intro p l e s m args below meth c g H locs la C hz hS hR hL hs
  obtain ⟨hy, hs1⟩ := ok_c hs
  obtain ⟨hx, hs2⟩ := ok_c hs1
  exact lv_icmp_eq C.1 C.2.1 hd ht (fun z => kt ((i32_eq hx hy).mp z) p l e s m args below meth c g H locs la C hz hS hR hL hs2) (fun z => kf (fun y => z ((i32_eq hx hy).mpr y)) p l e s m args below meth c g H locs la C hz hS hR hL hs2)
theorem Ak_if_eq (t q : Nat) {x : Int} {off : Int} (hd : decode mi.2.2.1 pc = .ok (.ifCond .eq off, 3)) (ht : (pc : Int) + off = (t : Int)) (hq : pc + 3 = q) (kt : x = 0 → AWz Z mi d mc ms cs sl t ls st S V r S' V') (kf : ¬ (x = 0) → AWz Z mi d mc ms cs sl q ls st S V r S' V') : AWz Z mi d mc ms cs sl pc ls (aI x :: st) S V r S' V' := by
  subst hq
  intro p l e s m args below meth c g H locs la C hz hS hR hL hs
  obtain ⟨hx, hs2⟩ := ok_c hs
  exact lv_if_eq C.1 C.2.1 hd ht (fun z => kt ((i32_eq hx r32_0).mp z) p l e s m args below meth c g H locs la C hz hS hR hL hs2) (fun z => kf (fun y => z ((i32_eq hx r32_0).mpr y)) p l e s m args below meth c g H locs la C hz hS hR hL hs2)
theorem Ak_icmp_ne (t q : Nat) {x y : Int} {off : Int} (hd : decode mi.2.2.1 pc = .ok (.if_icmp .ne off, 3)) (ht : (pc : Int) + off = (t : Int)) (hq : pc + 3 = q) (kt : ¬ x = y → AWz Z mi d mc ms cs sl t ls st S V r S' V') (kf : x = y → AWz Z mi d mc ms cs sl q ls st S V r S' V') : AWz Z mi d mc ms cs sl pc ls (aI y :: aI x :: st) S V r S' V' := by
  subst hq
  intro p l e s m args below meth c g H locs la C hz hS hR hL hs
  obtain ⟨hy, hs1⟩ := ok_c hs
  obtain ⟨hx, hs2⟩ := ok_c hs1
  exact lv_icmp_ne C.1 C.2.1 hd ht (fun z => kt (fun y => z ((i32_eq hx hy).mpr y)) p l e s m args below meth c g H locs la C hz hS hR hL hs2) (fun z => kf ((i32_eq hx hy).mp z) p l e s m args below meth c g H locs la C hz hS hR hL hs2)
theorem Ak_if_ne (t q : Nat) {x : Int} {off : Int} (hd : decode mi.2.2.1 pc = .ok (.ifCond .ne off, 3)) (ht : (pc : Int) + off = (t : Int)) (hq : pc + 3 = q) (kt : ¬ x = 0 → AWz Z mi d mc ms cs sl t ls st S V r S' V') (kf : x = 0 → AWz Z mi d mc ms cs sl q ls st S V r S' V') : AWz Z mi d mc ms cs sl pc ls (aI x :: st) S V r S' V' := by
  subst hq
  intro p l e s m args below meth c g H locs la C hz hS hR hL hs
  obtain ⟨hx, hs2⟩ := ok_c hs
  exact lv_if_ne C.1 C.2.1 hd ht (fun z => kt (fun y => z ((i32_eq hx r32_0).mpr y)) p l e s m args below meth c g H locs la C hz hS hR hL hs2) (fun z => kf ((i32_eq hx r32_0).mp z) p l e s m args below meth c g H locs la C hz hS hR hL hs2)
theorem Ak_icmp_lt (t q : Nat) {x y : Int} {off : Int} (hd : decode mi.2.2.1 pc = .ok (.if_icmp .lt off, 3)) (ht : (pc : Int) + off = (t : Int)) (hq : pc + 3 = q) (kt : x < y → AWz Z mi d mc ms cs sl t ls st S V r S' V') (kf : ¬ (x < y) → AWz Z mi d mc ms cs sl q ls st S V r S' V') : AWz Z mi d mc ms cs sl pc ls (aI y :: aI x :: st) S V r S' V' := by
  subst hq
  intro p l e s m args below meth c g H locs la C hz hS hR hL hs
  obtain ⟨hy, hs1⟩ := ok_c hs
  obtain ⟨hx, hs2⟩ := ok_c hs1
  exact lv_icmp_lt C.1 C.2.1 hd ht (fun z => kt ((i32_lt hx hy).mp z) p l e s m args below meth c g H locs la C hz hS hR hL hs2) (fun z => kf (fun y => z ((i32_lt hx hy).mpr y)) p l e s m args below meth c g H locs la C hz hS hR hL hs2)
theorem Ak_if_lt (t q : Nat) {x : Int} {off : Int} (hd : decode mi.2.2.1 pc = .ok (.ifCond .lt off, 3)) (ht : (pc : Int) + off = (t : Int)) (hq : pc + 3 = q) (kt : x < 0 → AWz Z mi d mc ms cs sl t ls st S V r S' V') (kf : ¬ (x < 0) → AWz Z mi d mc ms cs sl q ls st S V r S' V') : AWz Z mi d mc ms cs sl pc ls (aI x :: st) S V r S' V' := by
  subst hq
  intro p l e s m args below meth c g H locs la C hz hS hR hL hs
  obtain ⟨hx, hs2⟩ := ok_c hs
  exact lv_if_lt C.1 C.2.1 hd ht (fun z => kt ((i32_lt hx r32_0).mp z) p l e s m args below meth c g H locs la C hz hS hR hL hs2) (fun z => kf (fun y => z ((i32_lt hx r32_0).mpr y)) p l e s m args below meth c g H locs la C hz hS hR hL hs2)
theorem Ak_icmp_ge (t q : Nat) {x y : Int} {off : Int} (hd : decode mi.2.2.1 pc = .ok (.if_icmp .ge off, 3)) (ht : (pc : Int) + off = (t : Int)) (hq : pc + 3 = q) (kt : y ≤ x → AWz Z mi d mc ms cs sl t ls st S V r S' V') (kf : ¬ (y ≤ x) → AWz Z mi d mc ms cs sl q ls st S V r S' V') : AWz Z mi d mc ms cs sl pc ls (aI y :: aI x :: st) S V r S' V' := by
  subst hq
  intro p l e s m args below meth c g H locs la C hz hS hR hL hs
  obtain ⟨hy, hs1⟩ := ok_c hs
  obtain ⟨hx, hs2⟩ := ok_c hs1
  exact lv_icmp_ge C.1 C.2.1 hd ht (fun z => kt ((i32_le hy hx).mp z) p l e s m args below meth c g H locs la C hz hS hR hL hs2) (fun z => kf (fun y => z ((i32_le hy hx).mpr y)) p l e s m args below meth c g H locs la C hz hS hR hL hs2)
theorem Ak_if_ge (t q : Nat) {x : Int} {off : Int} (hd : decode mi.2.2.1 pc = .ok (.ifCond .ge off, 3)) (ht : (pc : Int) + off = (t : Int)) (hq : pc + 3 = q) (kt : 0 ≤ x → AWz Z mi d mc ms cs sl t ls st S V r S' V') (kf : ¬ (0 ≤ x) → AWz Z mi d mc ms cs sl q ls st S V r S' V') : AWz Z mi d mc ms cs sl pc ls (aI x :: st) S V r S' V' := by
  subst hq
  intro p l e s m args below meth c g H locs la C hz hS hR hL hs
  obtain ⟨hx, hs2⟩ := ok_c hs
  exact lv_if_ge C.1 C.2.1 hd ht (fun z => kt ((i32_le r32_0 hx).mp z) p l e s m args below meth c g H locs la C hz hS hR hL hs2) (fun z => kf (fun y => z ((i32_le r32_0 hx).mpr y)) p l e s m args below meth c g H locs la C hz hS hR hL hs2)
theorem Ak_icmp_gt (t q : Nat) {x y : Int} {off : Int} (hd : decode mi.2.2.1 pc = .ok (.if_icmp .gt off, 3)) (ht : (pc : Int) + off = (t : Int)) (hq : pc + 3 = q) (kt : y < x → AWz Z mi d mc ms cs sl t ls st S V r S' V') (kf : ¬ (y < x) → AWz Z mi d mc ms cs sl q ls st S V r S' V') : AWz Z mi d mc ms cs sl pc ls (aI y :: aI x :: st) S V r S' V' := by
  subst hq
  intro p l e s m args below meth c g H locs la C hz hS hR hL hs
  obtain ⟨hy, hs1⟩ := ok_c hs
  obtain ⟨hx, hs2⟩ := ok_c hs1
  exact lv_icmp_gt C.1 C.2.1 hd ht (fun z => kt ((i32_lt hy hx).mp z) p l e s m args below meth c g H locs la C hz hS hR hL hs2) (fun z => kf (fun y => z ((i32_lt hy hx).mpr y)) p l e s m args below meth c g H locs la C hz hS hR hL hs2)
theorem Ak_if_gt (t q : Nat) {x : Int} {off : Int} (hd : decode mi.2.2.1 pc = .ok (.ifCond .gt off, 3)) (ht : (pc : Int) + off = (t : Int)) (hq : pc + 3 = q) (kt : 0 < x → AWz Z mi d mc ms cs sl t ls st S V r S' V') (kf : ¬ (0 < x) → AWz Z mi d mc ms cs sl q ls st S V r S' V') : AWz Z mi d mc ms cs sl pc ls (aI x :: st) S V r S' V' := by
  subst hq
  intro p l e s m args below meth c g H locs la C hz hS hR hL hs
  obtain ⟨hx, hs2⟩ := ok_c hs
  exact lv_if_gt C.1 C.2.1 hd ht (fun z => kt ((i32_lt r32_0 hx).mp z) p l e s m args below meth c g H locs la C hz hS hR hL hs2) (fun z => kf (fun y => z ((i32_lt r32_0 hx).mpr y)) p l e s m args below meth c g H locs la C hz hS hR hL hs2)
theorem Ak_icmp_le (t q : Nat) {x y : Int} {off : Int} (hd : decode mi.2.2.1 pc = .ok (.if_icmp .le off, 3)) (ht : (pc : Int) + off = (t : Int)) (hq : pc + 3 = q) (kt : x ≤ y → AWz Z mi d mc ms cs sl t ls st S V r S' V') (kf : ¬ (x ≤ y) → AWz Z mi d mc ms cs sl q ls st S V r S' V') : AWz Z mi d mc ms cs sl pc ls (aI y :: aI x :: st) S V r S' V' := by
  subst hq
  intro p l e s m args below meth c g H locs la C hz hS hR hL hs
  obtain ⟨hy, hs1⟩ := ok_c hs
  obtain ⟨hx, hs2⟩ := ok_c hs1
  exact lv_icmp_le C.1 C.2.1 hd ht (fun z => kt ((i32_le hx hy).mp z) p l e s m args below meth c g H locs la C hz hS hR hL hs2) (fun z => kf (fun y => z ((i32_le hx hy).mpr y)) p l e s m args below meth c g H locs la C hz hS hR hL hs2)
theorem Ak_if_le (t q : Nat) {x : Int} {off : Int} (hd : decode mi.2.2.1 pc = .ok (.ifCond .le off, 3)) (ht : (pc : Int) + off = (t : Int)) (hq : pc + 3 = q) (kt : x ≤ 0 → AWz Z mi d mc ms cs sl t ls st S V r S' V') (kf : ¬ (x ≤ 0) → AWz Z mi d mc ms cs sl q ls st S V r S' V') : AWz Z mi d mc ms cs sl pc ls (aI x :: st) S V r S' V' := by
  subst hq
  intro p l e s m args below meth c g H locs la C hz hS hR hL hs
  obtain ⟨hx, hs2⟩ := ok_c hs
  exact lv_if_le C.1 C.2.1 hd ht (fun z => kt ((i32_le hx r32_0).mp z) p l e s m args below meth c g H locs la C hz hS hR hL hs2) (fun z => kf (fun y => z ((i32_le hx r32_0).mpr y)) p l e s m args below meth c g H locs la C hz hS hR hL hs2)
theorem Ak_tableIn (t : Nat) {x : Int} {dflt lo hi : Int} {offs : Array Int} {len : Nat} {off : Int} (v : Int) (hx : x = v) (hd : decode mi.2.2.1 pc = .ok (.tableswitch dflt lo hi offs, len)) (h1 : ¬ v < lo) (h2 : ¬ hi < v) (ho : offs[(v - lo).toNat]? = some off) (ht : (pc : Int) + off = (t : Int)) (k : AWz Z mi d mc ms cs sl t ls st S V r S' V') : AWz Z mi d mc ms cs sl pc ls (aI x :: st) S V r S' V' := by
  subst hx
  refine AWz.pure (fun p l e s m args below meth c g H locs la C hL hs => ?_) k
  obtain ⟨hx, hs2⟩ := ok_c hs
  exact ⟨hs2, fun Q kk => lv_tableIn C.1 C.2.1 hd (by rw [i32_id hx]; exact h1) (by rw [i32_id hx]; exact h2) (by rw [i32_id hx]; exact ho) ht kk⟩
theorem Ak_tableOut (t : Nat) {x : Int} {dflt lo hi : Int} {offs : Array Int} {len : Nat} (hx : x < lo ∨ hi < x) (hd : decode mi.2.2.1 pc = .ok (.tableswitch dflt lo hi offs, len)) (ht : (pc : Int) + dflt = (t : Int)) (k : AWz Z mi d mc ms cs sl t ls st S V r S' V') : AWz Z mi d mc ms cs sl pc ls (aI x :: st) S V r S' V' := by
  refine AWz.pure (fun p l e s m args below meth c g H locs la C hL hs => ?_) k
  obtain ⟨hx1, hs2⟩ := ok_c hs
  exact ⟨hs2, fun Q kk => lv_tableOut C.1 C.2.1 hd (by rw [i32_id hx1]; exact hx) ht kk⟩
theorem Ak_lookup (t : Nat) {x : Int} {dflt : Int} {ps : Array (Int × Int)} {len : Nat} {off : Int} (hd : decode mi.2.2.1 pc = .ok (.lookupswitch dflt ps, len)) (hp : (ps.toList.zip (ps.toList.drop 1)).all (fun (a, next) => a.1 < next.1) = true) (ho : Op.lookupswitch.offset ps.toList dflt x = off) (ht : (pc : Int) + off = (t : Int)) (k : AWz Z mi d mc ms cs sl t ls st S V r S' V') : AWz Z mi d mc ms cs sl pc ls (aI x :: st) S V r S' V' := by
  refine AWz.pure (fun p l e s m args below meth c g H locs la C hL hs => ?_) k
  obtain ⟨hx1, hs2⟩ := ok_c hs
  exact ⟨hs2, fun Q kk => lv_lookup C.1 C.2.1 hd hp (by rw [i32_id hx1]; exact ho) ht kk⟩
end A5
