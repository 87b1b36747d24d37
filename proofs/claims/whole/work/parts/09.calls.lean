/-! returns, calls, a contract out of a walk -/
theorem W_sz {p : Program} {l : Launch} {e : Env} {R : Room} {s : State} {m : MethodId} {args : Array Value} {below : List Frame} {meth : Method} {c : Code} {H : Heap} {locs : List Loc} {cells slots : Nat} {Q : State → Prop} {g : JFrame} (N : Nat) (h1 : N ≤ H.size) (h2 : s.heap.size + cells ≤ N) (k : H.size = N → W p l e R s m args below meth c H locs cells slots Q g) : W p l e R s m args below meth c H locs cells slots Q g := by
  intro T hT X
  have h3 := X.heapSize
  rw [hT] at h3
  exact k (by omega) T hT X
theorem AHp_size {g : AG} {S : ASh} {V : ASt} {H : Heap} (h : AHp g S V H) (h0 : gB g ≤ H.size) : gB g + aN S ≤ H.size := by
  rcases Nat.eq_zero_or_pos (aN S) with z | z
  · omega
  · have := (h.1 (aN S - 1) _ (aws_at g S V (by omega))).lt
    show _ ≤ _
    have e : (gB g + (aN S - 1), acell g S V ((aN S - 1 : Nat) : Int)).1 = gB g + (aN S - 1) := rfl
    rw [e] at this
    omega
section A9
variable {Z : AG → Prop} {mi : AM} {d mc ms cs sl pc : Nat} {ls : List (Option AV)} {st : List AV} {S : ASh} {V : ASt} {r : Option AV} {S' : ASh} {V' : ASt}
/-- the walk, its heap's size being known -/
theorem AWz.sized (k : ∀ (p : Program) (l : Launch) (e : Env) (s : State) (m : MethodId) (args : Array Value) (below : List Frame) (meth : Method) (c : Code) (g : AG) (H : Heap) (locs : List Loc) (la : Array Slot), H.size = gB g + aN S → ACx mi p s m args meth c g → (gB g ≤ s.heap.size ∧ s.heap.size + cs = gB g + aN S ∧ Z g) → va_S (gM g) s.heap H locs → AHp g S V H → ALv g la mi.2.2.2.1 ls → (∀ v ∈ st, aok v) →
    W p l e (arm d mc ms) s m args below meth c H locs cs sl (MQ below (AQ g r S' V') args s mc ms (gM g)) (F0 m pc la (st.map (acv g)))) : AWz Z mi d mc ms cs sl pc ls st S V r S' V' := by
  intro p l e s m args below meth c g H locs la C hz hS hR hL hs
  exact W_sz (gB g + aN S) (AHp_size hR (Nat.le_trans hz.1 hS.1)) (by omega) (fun h => k p l e s m args below meth c g H locs la h C hz hS hR hL hs)
theorem Ak_iret {x : Int} (hr : mi.2.2.2.2 = some .int) (hd : decode mi.2.2.1 pc = .ok (.ireturn, 1)) : AWz Z mi d mc ms mc ms pc ls [aI x] S V (some (aI x)) S V := by
  refine AWz.sized fun p l e s m args below meth c g H locs la hsz C hz hS hR hL hs => ?_
  exact W.iret C.1 C.2.1 (by rw [C.2.2.2.1, hr]) (fun t ht hW => ⟨rfl, fun v hv => by cases hv; exact (ok_c hs).1, ⟨by rw [ht]; exact hsz, by rw [ht]; exact hR⟩, hS.F ht⟩) (fun q hq => hS.2.2 q hq) hd C.2.2.2.2.2.2.1
theorem Ak_zret {x : Int} (hx : x = 0 ∨ x = 1) (hr : mi.2.2.2.2 = some .boolean) (hd : decode mi.2.2.1 pc = .ok (.ireturn, 1)) : AWz Z mi d mc ms mc ms pc ls [aI x] S V (some (aI x)) S V := by
  refine AWz.sized fun p l e s m args below meth c g H locs la hsz C hz hS hR hL hs => ?_
  exact W.zret C.1 C.2.1 (by rw [C.2.2.2.1, hr]) (nar_z hx).1 (fun t ht hW => ⟨rfl, fun v hv => by cases hv; exact (ok_c hs).1, ⟨by rw [ht]; exact hsz, by rw [ht]; exact hR⟩, hS.F ht⟩) (fun q hq => hS.2.2 q hq) hd C.2.2.2.2.2.2.1
theorem Ak_lret {x : Int} (hr : mi.2.2.2.2 = some .long) (hd : decode mi.2.2.1 pc = .ok (.lreturn, 1)) : AWz Z mi d mc ms mc ms pc ls [aL x] S V (some (aL x)) S V := by
  refine AWz.sized fun p l e s m args below meth c g H locs la hsz C hz hS hR hL hs => ?_
  exact W.lret C.1 C.2.1 (by rw [C.2.2.2.1, hr]) (fun t ht hW => ⟨rfl, fun v hv => by cases hv; exact (ok_c hs).1, ⟨by rw [ht]; exact hsz, by rw [ht]; exact hR⟩, hS.F ht⟩) (fun q hq => hS.2.2 q hq) hd C.2.2.2.2.2.2.1
theorem Ak_aret {x : Int} {nm : String} (hr : mi.2.2.2.2 = some (.object nm)) (hd : decode mi.2.2.1 pc = .ok (.areturn, 1)) : AWz Z mi d mc ms mc ms pc ls [aR x] S V (some (aR x)) S V := by
  refine AWz.sized fun p l e s m args below meth c g H locs la hsz C hz hS hR hL hs => ?_
  exact W.aret C.1 C.2.1 (by rw [C.2.2.2.1, hr]) (Or.inl ⟨nm, rfl⟩) (by rw [acv_R]; cases aref g x with | none => exact Or.inl rfl | some y => exact Or.inr ⟨y, rfl⟩) (fun t ht hW => ⟨rfl, fun v hv => by cases hv; exact (ok_c hs).1, ⟨by rw [ht]; exact hsz, by rw [ht]; exact hR⟩, hS.F ht⟩) (fun q hq => hS.2.2 q hq) hd C.2.2.2.2.2.2.1
theorem Ak_vret (hr : mi.2.2.2.2 = none) (hd : decode mi.2.2.1 pc = .ok (.return_, 1)) : AWz Z mi d mc ms mc ms pc ls [] S V none S V := by
  refine AWz.sized fun p l e s m args below meth c g H locs la hsz C hz hS hR hL hs => ?_
  exact W.vret C.1 C.2.1 (by rw [C.2.2.2.1, hr]) (fun t ht hW => ⟨rfl, (fun v hv => by cases hv), ⟨by rw [ht]; exact hsz, by rw [ht]; exact hR⟩, hS.F ht⟩) (fun q hq => hS.2.2 q hq) hd C.2.2.2.2.2.2.1
/-- more room than was used -/
theorem Ak_widen {cs' sl' : Nat} (h1 : cs ≤ cs') (h2 : sl ≤ sl') (hN : ∀ p l e s m args below meth c g H locs la, ACx mi p s m args meth c g → (gB g ≤ s.heap.size ∧ s.heap.size + cs = gB g + aN S ∧ Z g) → va_S (gM g) s.heap H locs → AHp g S V H → ALv g la mi.2.2.2.1 ls → (∀ v ∈ st, aok v) → W p l e (arm d mc ms) s m args below meth c H locs cs' sl' (MQ below (AQ g r S' V') args s mc ms (gM g)) (F0 m pc la (st.map (acv g)))) : AWz Z mi d mc ms cs sl pc ls st S V r S' V' := by
  intro p l e s m args below meth c g H locs la C hz hS hR hL hs
  exact W.widen h1 h2 (hN p l e s m args below meth c g H locs la C hz hS hR hL hs)
theorem aw_good (mj : AM) (h : Cond.code mj.2.1 mj.2.2.1 mj.2.2.2.1 mj.2.2.2.2 ∈ tG) : GoodIn tG (aw mj) := by
  intro w hw
  rcases List.mem_cons.mp hw with e | e
  · subst e; exact ⟨h, good_of_word (tG_good h).2⟩
  · exact ⟨e, good_of_word (tG_good e).2⟩
theorem tG_in {w : Cond} (h : w ∈ tG) : w ∈ tG ∧ ((w.onTables && w.keeps) = true ∨ ∃ ty, w = .arrayClass ty) := ⟨h, good_of_word (tG_good h).2⟩
theorem AKK_same {g : AG} {U U' : State} (hv : U'.vm = U.vm) (hh : U'.heap = U.heap) (h : AKK g U) : AKK g U' := by
  obtain ⟨h1, h2, h3, h4, h5, h6, h7, h8, h9, h10, h11⟩ := h
  have hA : U.vm.Alike U'.vm := by rw [hv]; exact Vm.Alike.refl _
  refine ⟨va_K.moved hA h1, fun q hq => (h2 q hq).same rfl hv.symm, h3.moved hA, h4.same hv, h5.same hv, ?_, ?_, ?_, ?_, h10, ?_⟩
  · rw [hh]; exact h6.moved hA
  · rw [hh]; exact h7.moved hA
  · rw [hh]; exact h8.elim (fun h => Or.inl (h.moved hA)) (fun h => Or.inr (h.moved hA))
  · rw [hh]; exact h9.moved hA
  · rw [hh]; exact h11
theorem ACt_blind (g : AG) (as : List AV) (S : ASh) (V : ASt) : FrameBlind (fun v U => v = (as.map (acv g)).toArray ∧ (∀ x ∈ as, aok x) ∧ ARep g S V U.heap ∧ AKK g U) := by
  intro a U gf mk h
  exact ⟨h.1, h.2.1, h.2.2.1, AKK_same rfl rfl h.2.2.2⟩
theorem acat_sum (g : AG) (st : List AV) : ((st.map (acv g)).map fun v => v.category).sum = (st.map acat).sum := by
  rw [List.map_map]
  congr 1
  exact List.map_congr_left (fun v _ => acat_v g v)
/-- behind a call -/
theorem Ak_run {p : Program} {l : Launch} {e : Env} {s : State} {m : MethodId} {args : Array Value} {below : List Frame} {meth : Method} {c : Code} {g : AG} {H : Heap} {locs : List Loc} {la : Array Slot} {mc' ms' : Nat} {S1 : ASh} {V1 : ASt} {r1 : Option AV} {stk : List Value} {a : Array Value}
    (hr : va_Run p l e (arm d mc ms) s m args below meth c H locs cs sl mc' ms' (F0 m pc la stk) (st.map (acv g)) (AQ g r1 S1 V1 a) (gM g)) (hN : aN S1 = aN S + mc') (C : ACx mi p s m args meth c g) (hz : gB g ≤ s.heap.size ∧ s.heap.size + cs = gB g + aN S ∧ Z g) (hS : va_S (gM g) s.heap H locs) (hL : ALv g la mi.2.2.2.1 ls) (hs : ∀ v ∈ st, aok v)
    (kk : AWz Z mi d mc ms (cs + mc') (sl + ms') (pc + 3) ls (r1.toList ++ st) S1 V1 r S' V') : W p l e (arm d mc ms) s m args below meth c H locs cs sl (MQ below (AQ g r S' V') args s mc ms (gM g)) (F0 m pc la stk) := by
  intro T hT X
  obtain ⟨v, st₀, t, T', L, h0, X', hL2, e1, e2, ⟨hv, hok, ⟨hsz, hR1⟩, hz2, hk⟩, stp⟩ := hr T hT X
  have hv2 : v = r1.map (acv g) := by cases hv; rfl
  subst hv2
  rw [h0] at hz2 hk
  have hS1 : va_S (gM g) s.heap T'.heap (locs ++ L) := ⟨Nat.le_trans hS.1 (by rw [e1]; exact hz2), fun q h1 h2 => by rw [e1, hk q (Nat.lt_of_lt_of_le h1 hS.1) h2]; exact hS.2.1 q h1 h2, fun q hq => by
      rcases List.mem_append.mp hq with h | h
      · exact hS.2.2 q h
      · exact hL2 q h⟩
  have hs1 : ∀ v ∈ r1.toList ++ st, aok v := fun v hv => by
    rcases List.mem_append.mp hv with h | h
    · exact hok v (Option.mem_toList.mp h)
    · exact hs v h
  obtain ⟨t2, a1, b1⟩ := kk p l e s m args below meth c g T'.heap (locs ++ L) la C ⟨hz.1, by omega, hz.2.2⟩ hS1 (by rw [e1]; exact hR1) hL hs1 T' rfl X'
  refine ⟨t2, stp t2 ?_, b1⟩
  have e3 : (r1.toList ++ st).map (acv g) = (r1.map (acv g)).toList ++ st.map (acv g) := by
    cases r1 <;> simp
  rw [e3] at a1
  exact a1
/-- the words of a method that is called on an object -/
def mokV (mj : AM) (n : Nat) : Prop := mj.2.1.cls = mj.1 ∧ Cond.code mj.2.1 mj.2.2.1 mj.2.2.2.1 mj.2.2.2.2 ∈ tG ∧ Cond.instanceMethod mj.2.1 ∈ tG ∧ Cond.selects mj.1 mj.2.1 mj.2.1 ∈ tG ∧ Cond.initialized mj.1 ∈ tG ∧ (mj.1 ≠ "java/lang/invoke/MethodHandle" ∧ mj.1 ≠ "java/lang/invoke/VarHandle" ∧ (parseMethodDescriptor mj.2.1.desc).map (fun d => d.parameters.length) = some n) ∧ mj.2.2.2.1 ≤ 45
def mokS (mj : AM) (n : Nat) : Prop := mj.2.1.cls = mj.1 ∧ Cond.code mj.2.1 mj.2.2.1 mj.2.2.2.1 mj.2.2.2.2 ∈ tG ∧ Cond.static mj.2.1 ∈ tG ∧ Cond.initialized mj.1 ∈ tG ∧ (mj.1 ≠ "java/lang/invoke/MethodHandle" ∧ mj.1 ≠ "java/lang/invoke/VarHandle" ∧ (parseMethodDescriptor mj.2.1.desc).map (fun d => d.parameters.length) = some n) ∧ mj.2.2.2.1 ≤ 45
theorem Ak_callV (q : Nat) {ix : Nat} {mj : AM} (d' : Nat) {mc' ms' c : Nat} (as : List AV) {b : Int} {R : String} {T : u_T} {N : Nat} {ty : Nat → FieldType} {stk : List AV} {S1 : ASh} {V1 : ASt} {r1 : Option AV} (hct : ACt mj d' mc' ms' (aR b :: as) S V r1 S1 V1) (hstk : stk = as.reverse ++ aR b :: st) (hO : isO S b c = true) (hcl : clsOK c R T N ty) (hR0 : mj.1 = R) (hm : mokV mj as.length) (hw : Cond.methodLink mi.1 ix mj.2.1 ∈ tG) (hd : decode mi.2.2.1 pc = .ok (.invokevirtual ix, 3)) (hq : pc + 3 = q) (hdd : d' + 1 ≤ d) (hroom : cs + mc' ≤ mc ∧ sl + ms' ≤ ms) (hN : aN S1 = aN S + mc') (hst : (st.map acat).sum ≤ 8)
    (kk : AWz Z mi d mc ms (cs + mc') (sl + ms') q ls (r1.toList ++ st) S1 V1 r S' V') : AWz Z mi d mc ms cs sl pc ls stk S V r S' V' := by
  subst hq
  subst hstk
  refine AWz.sized fun p l e s m args below meth cc g H locs la hsz C hz hS hR hL hs => ?_
  have hs2 : ∀ v ∈ st, aok v := fun v hv => hs v (by simp [hv])
  have hsa : ∀ v ∈ aR b :: as, aok v := fun v hv => by
    rcases List.mem_cons.mp hv with h | h
    · subst h; trivial
    · exact hs v (by simp [h])
  obtain ⟨n, rfl, hn, hT⟩ := isO_d hO
  obtain ⟨c1, c2, c3, c4, c5, c6, c7, c8⟩ := hcl
  obtain ⟨m1, m2, m3, m4, m5, m6, m7⟩ := hm
  have he := aws_at g S V hn
  rw [acell_o g V hT (by omega)] at he
  have hT2 : GoodIn tG (wsV mi.1 ix mj.1 mj.2.1 (aw mj)) := by
    intro w hw2
    unfold wsV at hw2
    rcases List.mem_append.mp hw2 with h | h
    · rcases List.mem_cons.mp h with h | h
      · subst h; exact tG_in hw
      rcases List.mem_cons.mp h with h | h
      · subst h; exact tG_in m3
      rcases List.mem_cons.mp h with h | h
      · subst h; exact tG_in m4
      · rw [List.mem_singleton.mp h]; exact tG_in m5
    · exact aw_good mj m2 w h
  have e1 : (as.reverse ++ aR (n : Int) :: st).map (acv g) = (as.map (acv g)).reverse ++ .ref (gB g + n) :: st.map (acv g) := by
    rw [List.map_append, List.map_cons, acv_Rn g (by omega), Int.toNat_natCast, List.map_reverse]
  have e0 : ((aR (n : Int) :: as).map (acv g)).toArray = (Value.ref (gB g + n) :: as.map (acv g)).toArray := by
    rw [List.map_cons, acv_Rn g (by omega), Int.toNat_natCast]
  rw [e1]
  refine Ak_run (va_runV (C := mj.1) (b := gB g + n) (As := as.map (acv g)) (rest := st.map (acv g)) ⟨C.1, C.2.1, rfl, C.2.2.2.2.1, C.2.2.2.2.2.1⟩ (hct l g) (cwV as.length C.2.2.2.2.2.1 hT2 rfl rfl rfl ⟨m1, by rw [m1]; exact m6⟩ ⟨hdd, by show 8 + (mj.2.2.2.1 + 11) + 64 * d' ≤ 64 * d; omega⟩) ⟨ACt_blind g _ S V, ?_, fun U hU hW => ⟨e0.symm, hsa, ⟨by rw [hU]; exact hsz, by rw [hU]; exact hR⟩, AKK_moved hW hS hU C.2.2.2.2.2.2.2.2⟩⟩ rfl (by simp) (by show la.size = _; rw [hL.1, C.2.2.1]) rfl (lv_room (by rw [acat_sum]; exact hst)) hd hroom) hN C hz hS hL hs2 kk
  have := va_recv C.2.2.2.2.2.2.2.2.1 hR.1 c2 he
  rw [hR0]
  exact this
theorem Ak_callS (q : Nat) {ix : Nat} {mj : AM} (d' : Nat) {mc' ms' : Nat} (as : List AV) {stk : List AV} {S1 : ASh} {V1 : ASt} {r1 : Option AV} (hct : ACt mj d' mc' ms' as S V r1 S1 V1) (hstk : stk = as.reverse ++ st) (hm : mokS mj as.length) (hw : Cond.methodLink mi.1 ix mj.2.1 ∈ tG) (hd : decode mi.2.2.1 pc = .ok (.invokestatic ix, 3)) (hq : pc + 3 = q) (hdd : d' + 1 ≤ d) (hroom : cs + mc' ≤ mc ∧ sl + ms' ≤ ms) (hN : aN S1 = aN S + mc') (hst : (st.map acat).sum ≤ 8)
    (kk : AWz Z mi d mc ms (cs + mc') (sl + ms') q ls (r1.toList ++ st) S1 V1 r S' V') : AWz Z mi d mc ms cs sl pc ls stk S V r S' V' := by
  subst hq
  subst hstk
  refine AWz.sized fun p l e s m args below meth cc g H locs la hsz C hz hS hR hL hs => ?_
  have hs2 : ∀ v ∈ st, aok v := fun v hv => hs v (by simp [hv])
  have hsa : ∀ v ∈ as, aok v := fun v hv => hs v (by simp [hv])
  obtain ⟨m1, m2, m3, m5, m6, m7⟩ := hm
  have hT2 : GoodIn tG (va_wsS mi.1 ix mj.2.1 (aw mj)) := by
    intro w hw2
    unfold va_wsS at hw2
    rcases List.mem_append.mp hw2 with h | h
    · rcases List.mem_cons.mp h with h | h
      · subst h; exact tG_in hw
      rcases List.mem_cons.mp h with h | h
      · subst h; exact tG_in m3
      · rw [List.mem_singleton.mp h, m1]; exact tG_in m5
    · exact aw_good mj m2 w h
  have e1 : (as.reverse ++ st).map (acv g) = (as.map (acv g)).reverse ++ st.map (acv g) := by
    rw [List.map_append, List.map_reverse]
  rw [e1]
  exact Ak_run (va_runS (As := as.map (acv g)) (rest := st.map (acv g)) ⟨C.1, C.2.1, rfl, C.2.2.2.2.1, C.2.2.2.2.2.1⟩ (hct l g) (va_cwS as.length C.2.2.2.2.2.1 hT2 rfl rfl rfl (by rw [m1]; exact m6) ⟨hdd, by show 8 + (mj.2.2.2.1 + 11) + 64 * d' ≤ 64 * d; omega⟩) ⟨ACt_blind g _ S V, fun U hU hW => ⟨rfl, hsa, ⟨by rw [hU]; exact hsz, by rw [hU]; exact hR⟩, AKK_moved hW hS hU C.2.2.2.2.2.2.2.2⟩⟩ rfl (by simp) (by show la.size = _; rw [hL.1, C.2.2.1]) rfl (lv_room (by rw [acat_sum]; exact hst)) hd hroom) hN C hz hS hL hs2 kk
end A9
section A9L
variable {Z : AG → Prop} {mi : AM} {d mc ms cs sl pc : Nat} {ls : List (Option AV)} {st : List AV} {S : ASh} {V : ASt} {r : Option AV} {S' : ASh} {V' : ASt}
theorem Ak_ls {ls' : List (Option AV)} (h : ls = ls') (k : AWz Z mi d mc ms cs sl pc ls' st S V r S' V') : AWz Z mi d mc ms cs sl pc ls st S V r S' V' := h ▸ k
end A9L
theorem ACt_of {mi : AM} {d mc ms : Nat} {as : List AV} {S : ASh} {V : ASt} {r : Option AV} {S' : ASh} {V' : ASt} (hp : plainFor mi.2.1 = true) (hc : mi.2.1.cls = mi.1) (hn : (aent as).length ≤ mi.2.2.2.1) (h : AWk mi d mc ms 0 0 0 (aent as) [] S V r S' V') : ACt mi d mc ms as S V r S' V' := by
  intro l g
  refine va_MetF (cc := mi.2.2.1) (maxL := mi.2.2.2.1) (ret := mi.2.2.2.2) hp rfl ?_
  intro p e s m args below meth c s₁ B hml hv
  obtain ⟨rfl, hok, ⟨hsz, hR⟩, hK⟩ := hv
  have hts := atoms_spec (ws := aw mi) B.pre
  have hown : s.vm.findClass mi.1 = some m.cls := by rw [← hc]; exact findClass_of_methodNamed B.named
  have hl := lv_entry (as.map (acv g)) (n := mi.2.2.2.1) (by rw [aent_sl]; exact hn)
  rw [lg_entry_eq]
  exact h p l e s m _ below meth c g s.heap [] _ ⟨B.exec, B.bytes, hml, B.returns, hown, fun w h => hts w (List.mem_cons_of_mem _ h), B.notSynchronized, (fun h => by rw [(name_of_methodNamed B.named B.method).1, h]), hK⟩ ⟨by omega, by omega, trivial⟩ va_S.rf hR ⟨hl.1, hl.2.1, fun i v hi => ⟨hl.2.2 (i, acv g v) (by have := (aent_args g as 0 i v hi).1; rwa [Nat.zero_add] at this), hok v (aent_args g as 0 i v hi).2⟩⟩ (fun v hv => by cases hv)
