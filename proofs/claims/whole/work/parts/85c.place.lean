/-! where no fault is found, none is placed -/
def J9 (V : ASt) : Prop := V 142 8 = 0 → V 142 9 = -1
def KP (o : Option (Int × ASt)) : Prop := ∀ r U, o = some (r, U) → J9 U
theorem KP_gd {b : Bool} {o : Option (Int × ASt)} (h : KP o) : KP (gd b o) := by
  intro r U e
  unfold gd at e
  by_cases c : b = true
  · rw [if_pos c] at e; exact h r U e
  · rw [if_neg c] at e; cases e
theorem KP_if {c : Prop} [Decidable c] {a b : Option (Int × ASt)} (h : KP a) (h2 : KP b) : KP (if c then a else b) := by
  by_cases z : c
  · rw [if_pos z]; exact h
  · rw [if_neg z]; exact h2
theorem KP_bnd {o : Option (Int × ASt)} {k : Int → ASt → Option (Int × ASt)} (h : KP o) (hk : ∀ r U, J9 U → KP (k r U)) : KP (bnd o k) := by
  cases o with
  | none => intro r U e; cases e
  | some q =>
    obtain ⟨r0, U0⟩ := q
    have e0 : bnd (some (r0, U0)) k = k r0 U0 := bnd_s rfl
    rw [e0]
    exact hk r0 U0 (h r0 U0 rfl)
theorem KP_ret {r : Int} {V : ASt} (h : J9 V) : KP (some (r, V)) := by
  intro r' U e
  have := Option.some.inj e
  have e2 : V = U := congrArg Prod.snd this
  rw [← e2]; exact h
theorem J9_s {V : ASt} {k x : Int} (h : J9 V) (h8 : k ≠ 8) (h9 : k ≠ 9) : J9 (aset V 142 k x) := by
  unfold J9 at *
  rw [aset_sn V 142 x (Ne.symm h8), aset_sn V 142 x (Ne.symm h9)]; exact h
theorem KP_set {V : ASt} {k x : Int} {f : ASt → Option (Int × ASt)} (h : J9 V) (h8 : k ≠ 8) (h9 : k ≠ 9) (hf : ∀ U, J9 U → KP (f U)) : KP (wV (aset V 142 k x) f) := hf _ (J9_s h h8 h9)
theorem KP_blame {V : ASt} {p : Int} (h : J9 V) : KP (f_M_blame S0 V 142 1 p) := by
  unfold f_M_blame
  refine KP_gd (KP_if ?_ (KP_ret h))
  show KP (some (0, aset (aset V 142 8 1) 142 9 p))
  refine KP_ret (fun e => ?_)
  rw [aset_sn _ 142 p (show (8 : Int) ≠ 9 by decide), aset_ss] at e
  exact absurd e (by decide)
theorem KP_letter {V : ASt} {c : Int} (h : J9 V) : KP (f_M_isLetter S0 V c) := by
  unfold f_M_isLetter
  exact KP_if (KP_ret h) (KP_if (KP_ret h) (KP_ret h))
theorem KP_digit {V : ASt} {c : Int} (h : J9 V) : KP (f_M_isDigit S0 V c) := by
  unfold f_M_isDigit
  exact KP_if (KP_ret h) (KP_if (KP_ret h) (KP_ret h))
theorem KP_282 {K : ASt → Int → Int → Option (Int × ASt)} (hK : ∀ V a b, J9 V → KP (K V a b)) {V : ASt} {a b c d e : Int} (h : J9 V) : KP (b_M_ahead_J282 S0 K V 142 a b c d e) := by
  unfold b_M_ahead_J282
  exact KP_if (hK _ _ _ h) (KP_if (hK _ _ _ h) (KP_gd (KP_set h (by decide) (by decide) (fun U hU => hK _ _ _ hU))))
theorem KP_252 {K : ASt → Int → Int → Option (Int × ASt)} (hK : ∀ V a b, J9 V → KP (K V a b)) {V : ASt} {a b c d e : Int} (h : J9 V) : KP (b_M_ahead_J252 S0 K V 142 a b c d e) := by
  unfold b_M_ahead_J252
  exact KP_if (KP_282 hK h) (KP_if (KP_282 hK h) (KP_gd (KP_set h (by decide) (by decide) (fun U hU => KP_282 hK hU))))
theorem KP_239 {K : ASt → Int → Int → Option (Int × ASt)} (hK : ∀ V a b, J9 V → KP (K V a b)) {V : ASt} {a b c d e : Int} (h : J9 V) : KP (b_M_ahead_J239 S0 K V 142 a b c d e) := by
  unfold b_M_ahead_J239
  exact KP_if (KP_bnd (KP_blame h) (fun _ U hU => KP_252 hK hU)) (KP_252 hK h)
theorem KP_323 {V : ASt} {a : Int} (h : J9 V) : KP (b_M_ahead_J323 S0 V 142 a) := by
  unfold b_M_ahead_J323
  exact KP_set h (by decide) (by decide) (fun U hU => KP_ret hU)
theorem KP_200 {x2 x3 x4 : Int} : ∀ (f : Nat) (V : ASt) (a b : Int), J9 V → KP (b_M_ahead_L200 S0 142 x2 x3 x4 f V a b) := by
  intro f
  induction f with
  | zero => intro V a b _ r U e; cases e
  | succ f ih =>
    intro V a b h
    rw [b_M_ahead_L200]
    exact KP_if (KP_323 h) (KP_if (KP_gd (KP_bnd (KP_digit h) (fun _ U hU => KP_if (KP_323 hU) (KP_239 ih hU)))) (KP_gd (KP_bnd (KP_letter h) (fun _ U hU => KP_if (KP_323 hU) (KP_239 ih hU)))))
theorem KP_182 {V : ASt} {a b c e : Int} (h : J9 V) : KP (b_M_ahead_J182 S0 V 142 a b c 142 e) := by
  unfold b_M_ahead_J182
  exact KP_gd (KP_set h (by decide) (by decide) (fun U hU => KP_if (KP_200 _ _ _ _ hU) (KP_200 _ _ _ _ hU)))
theorem KP_172 {V : ASt} {a b c : Int} (h : J9 V) : KP (b_M_ahead_J172 S0 V 142 a b c) := by
  unfold b_M_ahead_J172
  exact KP_if (KP_182 h) (KP_182 h)
theorem KP_131 {V : ASt} {a b c : Int} (h : J9 V) : KP (b_M_ahead_J131 S0 V 142 a b c) := by
  unfold b_M_ahead_J131
  exact KP_set h (by decide) (by decide) (fun _ h1 => KP_set h1 (by decide) (by decide) (fun _ h2 => KP_set h2 (by decide) (by decide) (fun _ h3 => KP_set h3 (by decide) (by decide) (fun _ h4 => KP_if (KP_if (KP_gd (KP_set h4 (by decide) (by decide) (fun _ h5 => KP_ret h5))) (KP_172 h4)) (KP_172 h4)))))
theorem KP_125 {V : ASt} {a b c : Int} (h : J9 V) : KP (b_M_ahead_J125 S0 V 142 a b c) := by
  unfold b_M_ahead_J125
  exact KP_bnd (KP_blame h) (fun _ _ hU => KP_131 hU)
theorem KP_93 {V : ASt} {a b c : Int} (h : J9 V) : KP (b_M_ahead_J93 S0 V 142 a b c) := by
  unfold b_M_ahead_J93
  exact KP_if (KP_131 h) (KP_gd (KP_bnd (KP_letter h) (fun _ _ h1 => KP_if (KP_bnd (KP_digit h1) (fun _ _ h2 => KP_if (KP_131 h2) (KP_125 h2))) (KP_125 h1))))
theorem KP_41 {V : ASt} {a : Int} (h : J9 V) : KP (b_M_ahead_J41 S0 V 142 a) := by
  unfold b_M_ahead_J41
  exact KP_set h (by decide) (by decide) (fun _ h1 => KP_set h1 (by decide) (by decide) (fun _ h2 => KP_set h2 (by decide) (by decide) (fun _ h3 => KP_if (KP_gd (KP_bnd (KP_letter h3) (fun _ _ h4 => KP_bnd (KP_digit h4) (fun _ _ h5 => KP_if (KP_if (KP_131 h5) (KP_93 h5)) (KP_93 h5))))) (KP_ret h3))))
theorem KP_5 : ∀ (f : Nat) (V : ASt) (a : Int), J9 V → KP (b_M_ahead_L5 S0 142 f V a) := by
  intro f
  induction f with
  | zero => intro V a _ r U e; cases e
  | succ f ih =>
    intro V a h
    rw [b_M_ahead_L5]
    exact KP_if (KP_41 h) (KP_gd (KP_if (ih _ _ h) (KP_if (ih _ _ h) (KP_41 h))))
theorem KP_ahead {V : ASt} (h : J9 V) : KP (f_M_ahead S0 V 142) := by
  unfold f_M_ahead
  exact KP_gd (KP_5 _ _ _ h)
theorem Tr_KP {o : Option (Int × ASt)} {Q : Int → ASt → Prop} (h : Tr o Q) (k : KP o) : Tr o (fun r U => Q r U ∧ J9 U) := by
  obtain ⟨r, U, e, q⟩ := h
  exact ⟨r, U, e, q, k r U e⟩
