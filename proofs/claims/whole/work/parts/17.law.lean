/-! the law from its entry: the two objects are made, the loop goes, the claim's own words are met -/
def Se : ASh := (0, fun _ => 0, fun _ => 0, fun _ _ => 0)
def Ve : ASt := fun _ _ => 0
/-- what the two constructors make -/
def runC : Option (ASh × ASt) := wS (nSo Se 12) (fun S1 => wV (nVo Se Ve 12) (fun V1 => bndC (g_SG_init S1 V1 (aN Se)) (fun S2 V2 => gd (decide (aN S2 = aN S1 + 141)) (wS (nSo S2 13) (fun S3 => wV (nVo S2 V2 13) (fun V3 => bndC (g_M_init S3 V3 (aN S2)) (fun S4 V4 => gd (decide (aN S4 = aN S3 + 55)) (some (S4, V4)))))))))
set_option maxRecDepth 100000 in
set_option maxHeartbeats 20000000 in
theorem law_walk {L : Int} {X : Int → Int} {S : ASh} {V V' : ASt} (h1 : runC = some (S, V)) (h2 : b_Law_law_L18 S L X 0 142 FU V 0 = some (1, V')) : AWz (zL L X) m_Law_law 125 198 72904 0 0 0 [some (aR (-4))] [] Se Ve (some (aI 1)) S V' := by
  unfold runC at h1
  refine Ak_new 3 clX12 lkC_Law_7 lkI_12 lkN_12 (d_Law_p0 0 0 (.new 7) 3 rfl) rfl (by decide) (by decide) (fun S1 V1 hS1 hV1 => ?_)
  replace h1 := wV_some (wS_some h1 S1 hS1) V1 hV1
  refine Ak_dup 4 (d_Law_p0 1 3 (.dup) 1 rfl) rfl rfl ?_
  obtain ⟨S2, V2, hg, h1⟩ := bndC_some h1
  obtain ⟨hn, h1⟩ := gd_some h1
  refine Ak_callI 7 22 _ (ci_SG_init hg) rfl (Int.natCast_nonneg _) mok_SG_init lkM_Law_9 (d_Law_p0 2 4 (.invokespecial 9) 3 rfl) rfl (by decide) ⟨by decide, by decide⟩ (dec_t hn) (Nat.le_of_ble_eq_true rfl) ?_
  refine Ak_astore_n 8 1 (Int.natCast_nonneg _) (d_Law_p0 3 7 (.astore_n 1) 1 rfl) rfl rfl (by decide) ?_
  refine Ak_new 11 clX13 lkC_Law_10 lkI_13 lkN_13 (d_Law_p0 4 8 (.new 10) 3 rfl) rfl (by decide) (by decide) (fun S3 V3 hS3 hV3 => ?_)
  replace h1 := wV_some (wS_some h1 S3 hS3) V3 hV3
  refine Ak_dup 12 (d_Law_p0 5 11 (.dup) 1 rfl) rfl rfl ?_
  obtain ⟨S4, V4, hg4, h1⟩ := bndC_some h1
  obtain ⟨hn4, h1⟩ := gd_some h1
  refine Ak_callI 15 2 _ (ci_M_init hg4) rfl (Int.natCast_nonneg _) mok_M_init lkM_Law_12 (d_Law_p0 6 12 (.invokespecial 12) 3 rfl) rfl (by decide) ⟨by decide, by decide⟩ (dec_t hn4) (Nat.le_of_ble_eq_true rfl) ?_
  refine Ak_astore_n 16 2 (Int.natCast_nonneg _) (d_Law_p0 7 15 (.astore_n 2) 1 rfl) rfl rfl (by decide) ?_
  cases h1
  have e0 : ((aN Se : Nat) : Int) = 0 := rfl
  have e2 : ((aN S2 : Nat) : Int) = 142 := by
    have h3 : aN S2 = aN S1 + 141 := dec_t hn
    rw [h3, hS1]
    rfl
  rw [e0, e2]
  refine Ak_iconst 17 (d_Law_p0 8 16 (.iconst 0) 1 rfl) rfl (rk rfl) ?_
  refine Ak_istore_n 18 3 (d_Law_p0 9 17 (.istore_n 3) 1 rfl) rfl rfl (by decide) ?_
  refine Ak_keep [true, true, true, true] ?_
  exact t_Law_law_L18 FU _ _ _ _ h2
theorem W_mono {p : Program} {l : Launch} {e : Env} {R R' : Room} {s : State} {m : MethodId} {args : Array Value} {below : List Frame} {meth : Method} {c : Code} {H : Heap} {locs : List Loc} {cells slots : Nat} {Q Q' : State → Prop} {g : JFrame} (hR : R.frames ≤ R'.frames ∧ R.cells ≤ R'.cells ∧ R.slots ≤ R'.slots ∧ R.locals ≤ R'.locals) (hQ : ∀ t, Q t → Q' t) (k : W p l e R s m args below meth c H locs cells slots Q g) : W p l e R' s m args below meth c H locs cells slots Q' g := by
  intro T hT X
  have hr : s.hasRoom e.platform R = true := by
    have h := X.room
    simp only [State.hasRoom, Bool.and_eq_true, decide_eq_true_eq] at h ⊢
    obtain ⟨⟨⟨⟨h1, h2, h3, h4, h5, h6⟩, h7⟩, h8⟩, h9⟩ := h
    obtain ⟨r1, r2, r3, r4⟩ := hR
    exact ⟨⟨⟨⟨by omega, by omega, by omega, by omega, by omega, h6⟩, by omega⟩, by omega⟩, h9⟩
  obtain ⟨t, a, b⟩ := k T hT ⟨X.admits, X.cas, X.clock, X.frames, hr, X.hears, X.method, X.code, X.here, X.tail, X.warmed, X.limits, X.bytes, X.same⟩
  exact ⟨t, a, hQ t b⟩
/-- the pure claim: after the constructors the law's loop goes on to its end with 1, whatever the script -/
def PureOK : Prop := ∀ (L : Int) (X : Int → Int), 0 ≤ L → L ≤ 3072 → (∀ j, r32 (X j)) → ∃ S V V', runC = some (S, V) ∧ b_Law_law_L18 S L X 0 142 FU V 0 = some (1, V')
def tmT (i : Nat) : Term := if i = 0 then .string "SundayGame$Tokens" 31 else .string "SundayGame$Tokens" 79
theorem kn_c {args : Array Value} {s : State} (hts : ∀ w ∈ tG, w.before args s = true) {c : Nat} {R : String} {T : u_T} {N : Nat} {ty : Nat → FieldType} (hcl : clsOK c R T N ty) (hi : Cond.instantiable R N ∈ tG) : ∃ (cc : ClassId) (iS : Nat → Nat), u_Kn s R T N cc iS := by
  obtain ⟨c0, iS0, h⟩ := u_known (C := R) (T := T) (N := N) (n := N) hts hcl.2.2.2.1 (hts _ hi)
  exact ⟨c0, iS0, h⟩
set_option maxRecDepth 100000 in
set_option maxHeartbeats 20000000 in
theorem whole_of_pure (hpure : PureOK) {p : Program} {e : Env} {s : State} {m : MethodId} {below : List Frame} {meth : Method} {c : Code} (l : Launch) {b L : Nat} {xs : Nat → Int32} (hL : L ≤ 3072) (C0 : lw_At p s m meth c b L xs) : W p l e room_1 s m #[Value.ref b] below meth c s.heap [] 0 0 (lw_Z below #[Value.ref b] s) (entryFrame m ([Value.ref b] : List Value).toArray 4) := by
  obtain ⟨hx, hb, hr, hml, hown, hts, hX, hbl, hlocks, hgv⟩ := id C0
  have htG : ∀ w ∈ tG, w.before #[Value.ref b] s = true := fun w h => hts w (tG_good h).1
  have hgs := flat_of_before _ hgv
  -- classes
  obtain ⟨c0, i0, k0⟩ := kn_c htG clX0 lkI_0
  obtain ⟨c1, i1, k1⟩ := kn_c htG clX1 lkI_1
  obtain ⟨c2, i2, k2⟩ := kn_c htG clX2 lkI_2
  obtain ⟨c3, i3, k3⟩ := kn_c htG clX3 lkI_3
  obtain ⟨c4, i4, k4⟩ := kn_c htG clX4 lkI_4
  obtain ⟨c5, i5, k5⟩ := kn_c htG clX5 lkI_5
  obtain ⟨c6, i6, k6⟩ := kn_c htG clX6 lkI_6
  obtain ⟨c7, i7, k7⟩ := kn_c htG clX7 lkI_7
  obtain ⟨c8, i8, k8⟩ := kn_c htG clX8 lkI_8
  obtain ⟨c9, i9, k9⟩ := kn_c htG clX9 lkI_9
  obtain ⟨c10, i10, k10⟩ := kn_c htG clX10 lkI_10
  obtain ⟨c11, i11, k11⟩ := kn_c htG clX11 lkI_11
  obtain ⟨c12, i12, k12⟩ := kn_c htG clX12 lkI_12
  obtain ⟨c13, i13, k13⟩ := kn_c htG clX13 lkI_13
  -- array classes
  obtain ⟨aI0, kI, cI, fI, gI, hI⟩ := Cond.arrayClass_spec (htG _ lk_arr0)
  obtain ⟨aJ0, kJ, cJ, fJ, gJ, hJ⟩ := Cond.arrayClass_spec (htG _ lk_arr1)
  obtain ⟨aZ0, kZ, cZ, fZ, gZ, hZ⟩ := Cond.arrayClass_spec (htG _ lk_arr2)
  have hAO : (Cond.arrayOver (.object "SundayGame$Slate")).before #[Value.ref b] s = true := hts _ (by decide +kernel)
  obtain ⟨cS, aS0, kS, hS3, -, hS1, hS2, hS4⟩ := Cond.arrayOver_spec hAO
  -- texts
  have hA : ∀ a : Nat, a < s.heap.size → ¬ (fun q : Nat => s.heap.size ≤ q) a := fun a h => Nat.not_le.mpr h
  have hel : ∀ i, i < 2 → ∀ j, j < lenT.getD i 0 → (Cond.eq (.elem (.field (tmT i) "java/lang/String" "value" "[B") (.int (Int32.ofNat j))) (.int ((bytT.getD i []).getD j 0))) ∈ flatC (Jvm.Cond.and given_1 narrow_1) := by decide +kernel
  obtain ⟨adK, adV, hvS, hvE⟩ := vk_Sof (args := #[Value.ref b]) (s := s) (N := 2) (tm := tmT) (len := lenT) (byt := bytT) (A := fun q : Nat => s.heap.size ≤ q) (by decide)
    (fun i hi => by rcases (show i = 0 ∨ i = 1 by omega) with h | h <;> subst h <;> exact hgs _ (by decide +kernel))
    (fun i hi => by rcases (show i = 0 ∨ i = 1 by omega) with h | h <;> subst h <;> exact hgs _ (by decide +kernel))
    (fun i hi => by rcases (show i = 0 ∨ i = 1 by omega) with h | h <;> subst h <;> exact hgs _ (by decide +kernel))
    (fun i hi => by rcases (show i = 0 ∨ i = 1 by omega) with h | h <;> subst h <;> exact hgs _ (by decide +kernel))
    (fun i hi j hj => hgs _ (hel i hi j hj))
    (fun i j hi hj hij => by
      rcases (show (i = 0 ∧ j = 1) ∨ (i = 1 ∧ j = 0) by omega) with h | h
      · obtain ⟨h1, h2⟩ := h; subst h1; subst h2; exact Or.inl (hgs _ (by decide +kernel))
      · obtain ⟨h1, h2⟩ := h; subst h1; subst h2; exact Or.inr (hgs _ (by decide +kernel))) hA
  have hZC : va_Z "java/lang/String" "COMPACT_STRINGS" "Z" (.int 1) (fun q : Nat => s.heap.size ≤ q) s s.heap := va_Zof (args := #[Value.ref b]) (hts _ (by decide +kernel)) (hts _ (by decide +kernel)) (va_eqt (hgs _ (by decide +kernel))) hA
  have hZF : va_Zq "jdk/internal/util/Preconditions" "SIOOBE_FORMATTER" "Ljava/util/function/BiFunction;" (fun q : Nat => s.heap.size ≤ q) s s.heap := va_Zqof (args := #[Value.ref b]) (hts _ (by decide +kernel)) (hts _ (by decide +kernel)) (hgs _ (by decide +kernel)) hA
  obtain ⟨tF, hZF2⟩ : ∃ t : Nat, va_Z "jdk/internal/util/Preconditions" "SIOOBE_FORMATTER" "Ljava/util/function/BiFunction;" .null (fun q : Nat => s.heap.size ≤ q) s s.heap ∨ va_Z "jdk/internal/util/Preconditions" "SIOOBE_FORMATTER" "Ljava/util/function/BiFunction;" (.ref t) (fun q : Nat => s.heap.size ≤ q) s s.heap := by
    rcases hZF with h | ⟨t, h⟩
    · exact ⟨0, Or.inl h⟩
    · exact ⟨t, Or.inr h⟩
  -- what the launch decides
  obtain ⟨g, hgB, hgM, hgK, hgL, hgX, hgKc, hgTy⟩ : ∃ g : AG, gB g = s.heap.size ∧ gM g = (fun q : Nat => s.heap.size ≤ q) ∧ (gK g 0 = adK 0 ∧ gK g 1 = adK 1 ∧ gK g 2 = b ∧ gK g 3 = adV 0 ∧ gK g 4 = adV 1 ∧ gK g 7 = tF) ∧ gL g = L ∧ gX g = xs ∧ (∀ (k : Nat) (q : vw_C), vwCl[k]? = some q → u_Kn s q.1 q.2.1 q.2.2 ((gD g).1 k) ((gD g).2 k)) ∧ (gA g 0 = aI0 ∧ gA g 1 = aJ0 ∧ gA g 2 = aZ0 ∧ gA g 3 = aS0) := by
    refine ⟨(s.heap.size, (fun k => [c0, c1, c2, c3, c4, c5, c6, c7, c8, c9, c10, c11, c12, c13].getD k 0), (fun k => [i0, i1, i2, i3, i4, i5, i6, i7, i8, i9, i10, i11, i12, i13].getD k i0), (fun k => [aI0, aJ0, aZ0, aS0].getD k 0), (fun k => [adK 0, adK 1, b, adV 0, adV 1, 0, 0, tF].getD k 0), (fun _ => 0), L, xs), rfl, rfl, ⟨rfl, rfl, rfl, rfl, rfl, rfl⟩, rfl, rfl, fun k q hq => ?_, ⟨rfl, rfl, rfl, rfl⟩⟩
    match k, hq with
    | 0, hq => cases hq; exact k0
    | 1, hq => cases hq; exact k1
    | 2, hq => cases hq; exact k2
    | 3, hq => cases hq; exact k3
    | 4, hq => cases hq; exact k4
    | 5, hq => cases hq; exact k5
    | 6, hq => cases hq; exact k6
    | 7, hq => cases hq; exact k7
    | 8, hq => cases hq; exact k8
    | 9, hq => cases hq; exact k9
    | 10, hq => cases hq; exact k10
    | 11, hq => cases hq; exact k11
    | 12, hq => cases hq; exact k12
    | 13, hq => cases hq; exact k13
    | k + 14, hq => simp [vwCl] at hq
  have hAr : ∀ {cA : ClassId} {kA : Class} {comp : ClassId} {ty : FieldType}, s.vm.classes[cA]? = some kA → kA.kind = .array comp ty → ArrOfT s cA ty := fun h2 h3 n z => ⟨fun k h => (by cases h), _, h2, _, h3⟩
  have hK : AKK g s := by
    refine ⟨⟨hgKc, fun k q hk => ?_⟩, fun q hq => ?_, hAO, ?_⟩
    · match k, hk with
      | 0, hk => cases hk; rw [hgTy.1]; exact ⟨hAr gI hI, fI⟩
      | 1, hk => cases hk; rw [hgTy.2.1]; exact ⟨hAr gJ hJ, fJ⟩
      | 2, hk => cases hk; rw [hgTy.2.2.1]; exact ⟨hAr gZ hZ, fZ⟩
      | 3, hk => cases hk; rw [hgTy.2.2.2]; exact ⟨hAr hS1 hS2, kS, cS, hS1, hS2, hS3, hS4⟩
      | k + 4, hk => simp at hk
    · refine va_Nw.of (A := #[Value.ref b]) rfl (hts _ ?_)
      have hall : ∀ q ∈ nestW, nestC q ∈ lw_tbl := by decide +kernel
      exact hall q hq
    · have hv : vk_S 2 lenT bytT (gK g) (fun i => gK g (3 + i)) (gM g) s s.heap := by
        rw [hgM]
        refine ⟨fun i hi => ?_, fun i j hi hj hij => ?_⟩
        · have h1 := hvS.1 i hi
          rcases (show i = 0 ∨ i = 1 by omega) with h | h <;> subst h
          · have e3 : gK g (3 + 0) = adV 0 := hgK.2.2.2.1
            show _ ∧ _ ∧ va_OF _ _ _ (Value.ref (gK g (3 + 0))) _ _ _ _ ∧ va_T _ (gK g (3 + 0)) _ _ _ _ _
            rw [hgK.1, e3]; exact h1
          · have e3 : gK g (3 + 1) = adV 1 := hgK.2.2.2.2.1
            show _ ∧ _ ∧ va_OF _ _ _ (Value.ref (gK g (3 + 1))) _ _ _ _ ∧ va_T _ (gK g (3 + 1)) _ _ _ _ _
            rw [hgK.2.1, e3]; exact h1
        · refine hvS.2 i j hi hj ?_
          rcases (show i = 0 ∨ i = 1 by omega) with h | h <;> subst h <;> rcases (show j = 0 ∨ j = 1 by omega) with h | h <;> subst h
          · rfl
          · rw [← hgK.1, ← hgK.2.1]; exact hij
          · rw [← hgK.1, ← hgK.2.1]; exact hij
          · rfl
      refine ⟨?_, ?_, hv, by rw [hgM]; exact hZC, ?_, ?_, ?_, ?_⟩
      · rw [hgK.1]
        exact vk_R.of (A := #[Value.ref b]) (hts _ (by decide +kernel)) (hvE 0 (by decide))
      · rw [hgK.2.1]
        exact vk_R.of (A := #[Value.ref b]) (hts _ (by decide +kernel)) (hvE 1 (by decide))
      · rw [hgM, hgK.2.2.2.2.2]; exact hZF2
      · rw [hgK.2.2.1, hgL, hgX]; exact hX
      · rw [hgM, hgK.2.2.1]; exact Nat.not_le.mpr hbl
      · rw [hgK.2.2.1]; exact hbl
  obtain ⟨S, V, V', hr1, hr2⟩ := hpure L (fun j => (xs j.toNat).toInt) (by omega) (by omega) (fun j => r32_toInt _)
  have hw := law_walk hr1 hr2
  have hl := lv_entry ([.ref b] : List Value) (n := 4) (Nat.le_of_ble_eq_true rfl)
  rw [lg_entry_eq]
  refine W_mono (R := arm 125 198 72904) ⟨by decide, by decide, by decide, by decide⟩ (fun t ht => ?_) (hw p l e s m #[Value.ref b] below meth c g s.heap [] _ ⟨hx, hb, hml, hr, hown, htG, hlocks, fun h => absurd h (by decide), hK⟩ ⟨by rw [hgB]; exact Nat.le_refl _, by rw [hgB]; rfl, by rw [hgL], by omega, fun j => by rw [hgX]; show _ = (xs (Int.toNat (j : Int))).toInt; rw [Int.toNat_natCast]⟩ va_S.rf ⟨fun k q h => ?_, fun i hi => absurd hi (Nat.not_lt_zero i)⟩ ⟨hl.1, hl.2.1, fun i v hi => ?_⟩ (fun v hv => by cases hv))
  · obtain ⟨o, h1, h2, ⟨ho, -, -, -⟩, Lc, hF, hfree⟩ := ht
    subst ho
    refine ⟨_, h1, h2, rfl, hF.1, hF.2.1, hF.2.2.weaken (fun y hy hlt => ?_) (by decide) (by decide)⟩
    have := hfree y hy
    rw [hgM] at this
    exact absurd hlt (Nat.not_lt.mpr this)
  · rw [show aws g Se Ve = [] from rfl] at h; simp at h
  · have hi0 : i = 0 := by
      rcases Nat.eq_zero_or_pos i with h | h
      · exact h
      · rw [List.getElem?_eq_none (by simp; omega)] at hi; cases hi
    subst hi0
    cases hi
    refine ⟨?_, trivial⟩
    have := hl.2.2 (0, .ref b) (by simp [lv_args])
    rw [show acv g (aR (-4)) = .ref (gK g 2) from rfl, hgK.2.2.1]
    exact this
