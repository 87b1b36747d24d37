/-! statements, as a function -/
/-- a rule: kind, ever, piece, way, steps, the words of its test on both sides -/
abbrev RU : Type := Int × Int × Int × Int × Int × CDs × CDs
/-- a game that is being told: fields, pieces (name, start, owner), stuck, rules -/
abbrev GS : Type := Int × List (List Int × Int × Int) × Int × List RU
/-- a fault (kind, place), or the next token and what is told -/
abbrev PR : Type := (Int × Int) ⊕ (Int × GS)
def nsG (s : GS) : List (List Int) := s.2.1.map (fun p => p.1)
def tkw (K : TKs) (t k : Int) (f : Int → PR) : PR := if K.1 k = t then f (k + 1) else Sum.inl (1, K.2.1 k)
def nmb (K : TKs) (lo hi k : Int) (f : Int → Int → PR) : PR := if K.1 k = 3 then (if lo ≤ K.2.2.2 k ∧ K.2.2.2 k ≤ hi then f (k + 1) (K.2.2.2 k) else Sum.inl (4, K.2.1 k)) else Sum.inl (1, K.2.1 k)
def frs (K : TKs) (ns : List (List Int)) (k : Int) (f : Int → List Int → PR) : PR := if K.1 k = 2 then (if pixF (K.2.2.1 k) ns 0 = -1 then f (k + 1) (K.2.2.1 k) else Sum.inl (2, K.2.1 k)) else Sum.inl (1, K.2.1 k)
def ask (K : TKs) (ns : List (List Int)) (k : Int) (f : Int → Int → PR) : PR := if K.1 k = 2 then (if pixF (K.2.2.1 k) ns 0 = -1 then Sum.inl (3, K.2.1 k) else f (k + 1) (pixF (K.2.2.1 k) ns 0)) else Sum.inl (1, K.2.1 k)
def kndT (t : Int) : Int := if t = 262 then 3 else if t = 264 then 2 else if t = 265 then 0 else if t = 266 then 1 else -1
def wayT (t : Int) : Int := if t = 267 then 0 else if t = 268 then 1 else if t = 269 then 2 else -1
def stkT (t : Int) : Int := if t = 262 then 0 else if t = 263 then 1 else if t = 264 then 2 else -1
def addP (s : GS) (p : List Int × Int × Int) : GS := (s.1, s.2.1 ++ [p], s.2.2)
def addS (s : GS) (v : Int) : GS := (s.1, s.2.1, v, s.2.2.2)
def addR (s : GS) (r : RU) : GS := (s.1, s.2.1, s.2.2.1, s.2.2.2 ++ [r])
def pcS (K : TKs) (s : GS) (k : Int) : PR := if s.2.1.length = 2 then Sum.inl (5, K.2.1 k) else frs K (nsG s) (k + 1) (fun k1 ls => tkw K 258 k1 (fun k2 => nmb K 0 (s.1 - 1) k2 (fun k3 v => tkw K 259 k3 (fun k4 => nmb K 0 2 k4 (fun k5 w => Sum.inr (k5, addP s (ls, v, w)))))))
def stS (K : TKs) (s : GS) (k : Int) : PR := if stkT (K.1 (k + 1)) = -1 then Sum.inl (1, K.2.1 (k + 1)) else Sum.inr (k + 1 + 1, addS s (stkT (K.1 (k + 1))))
def tsS (K : TKs) (ns : List (List Int)) (k : Int) (f : Int → CDs → CDs → PR) : PR := if (ps K ns 30000 0 k 0).1 = 0 then f (ps K ns 30000 0 k 0).2.1 (ps K ns 30000 0 k 0).2.2.1 (ps K ns 30000 0 k 0).2.2.2 else Sum.inl ((ps K ns 30000 0 k 0).1, (ps K ns 30000 0 k 0).2.1)
def ruE (K : TKs) (s : GS) (kd ev k : Int) (pc wy st : Int) : PR := tkw K 270 k (fun k3 => tsS K (nsG s) k3 (fun k4 w c => Sum.inr (k4, addR s (kd, ev, pc, wy, st, w, c))))
def mvE (K : TKs) (k pc : Int) (f : Int → Int → Int → Int → PR) : PR := if wayT (K.1 k) = -1 then Sum.inl (1, K.2.1 k) else if wayT (K.1 k) = 2 then f (k + 1) pc 2 0 else nmb K 1 3 (k + 1) (fun k3 v => f k3 pc (wayT (K.1 k)) v)
def ruK (K : TKs) (s : GS) (ev k : Int) : PR := if kndT (K.1 k) = -1 then Sum.inl (1, K.2.1 k) else if kndT (K.1 k) < 2 then ask K (nsG s) (k + 1) (fun k2 pc => mvE K k2 pc (fun k3 pc wy st => ruE K s (kndT (K.1 k)) ev k3 pc wy st)) else ruE K s (kndT (K.1 k)) ev (k + 1) (-1) (-1) 0
def ruS (K : TKs) (s : GS) (k : Int) : PR := if s.2.2.2.length = 12 then Sum.inl (5, K.2.1 k) else if K.1 k = 260 then ruK K s 1 (k + 1) else ruK K s 0 k
def stb (K : TKs) (s : GS) (k : Int) : PR := if K.1 k = 257 then pcS K s k else if K.1 k = 261 then stS K s k else if K.1 k = 260 ∨ kndT (K.1 k) ≠ -1 then ruS K s k else Sum.inl (1, K.2.1 k)
def pbd (r : PR) (f : Int → GS → PR) : PR :=
  match r with
  | Sum.inl e => Sum.inl e
  | Sum.inr q => f q.1 q.2
def smt (K : TKs) (s : GS) (k : Int) : PR := pbd (stb K s k) (fun k2 s2 => tkw K 59 k2 (fun k3 => Sum.inr (k3, s2)))
def gml (K : TKs) : Nat → Int → Int → GS → PR
  | 0, _, _, _ => Sum.inl (9, 0)
  | f + 1, c, k, s => if K.1 k = 0 then Sum.inr (c, s) else pbd (smt K s k) (fun k2 s2 => gml K f (c + 1) k2 s2)
def bdS (K : TKs) : PR := tkw K 256 0 (fun k => nmb K 2 9 k (fun k2 v => tkw K 59 k2 (fun k3 => Sum.inr (k3, (v, [], 0, [])))))
def gmS (K : TKs) : PR := pbd (bdS K) (fun k s => gml K 2000 1 k s)
-- ---- what is told is good
def cwR (rs : List RU) : CDs := rs.flatMap (fun r => r.2.2.2.2.2.1)
def cwC (rs : List RU) : CDs := rs.flatMap (fun r => r.2.2.2.2.2.2)
def rlO (ns : List (List Int)) (r : RU) : Prop := (0 ≤ r.1 ∧ r.1 ≤ 3) ∧ (r.2.1 = 0 ∨ r.2.1 = 1) ∧ (r.1 < 2 → (0 ≤ r.2.2.1 ∧ r.2.2.1 < ns.length) ∧ (0 ≤ r.2.2.2.1 ∧ r.2.2.2.1 ≤ 2) ∧ (r.2.2.2.1 ≠ 2 → 1 ≤ r.2.2.2.2.1 ∧ r.2.2.2.2.1 ≤ 3) ∧ (r.2.2.2.1 = 2 → r.2.2.2.2.1 = 0)) ∧ (2 ≤ r.1 → r.2.2.1 = -1 ∧ r.2.2.2.1 = -1 ∧ r.2.2.2.2.1 = 0) ∧ ∃ v, tsW ns r.2.2.2.2.2.1 r.2.2.2.2.2.2 v
def gsO (s : GS) (k : Int) : Prop := (2 ≤ s.1 ∧ s.1 ≤ 9) ∧ s.2.1.length ≤ 2 ∧ (∀ p, p ∈ s.2.1 → nmL p.1 ∧ (0 ≤ p.2.1 ∧ p.2.1 < s.1) ∧ 0 ≤ p.2.2 ∧ p.2.2 ≤ 2) ∧ (0 ≤ s.2.2.1 ∧ s.2.2.1 ≤ 2) ∧ s.2.2.2.length ≤ 12 ∧ (∀ r, r ∈ s.2.2.2 → rlO (nsG s) r) ∧ ((cwR s.2.2.2).length : Int) ≤ k ∧ ((cwC s.2.2.2).length : Int) ≤ k
theorem cOK_m {ns ns' : List (List Int)} {c : Int × Int} (h : cOK ns c) (hl : ns.length ≤ ns'.length) : cOK ns' c := by unfold cOK at *; omega
theorem rlO_m {ns ns' : List (List Int)} {r : RU} (h : rlO ns r) (hl : ns.length ≤ ns'.length) : rlO ns' r := by
  obtain ⟨h1, h2, h3, h4, v, h5, h6, h7⟩ := h
  exact ⟨h1, h2, fun z => by have := h3 z; exact ⟨⟨this.1.1, by omega⟩, this.2⟩, h4, v, h5, fun x hx => cOK_m (h6 x hx) hl, fun x hx => cOK_m (h7 x hx) hl⟩
theorem nsG_l (s : GS) : (nsG s).length = s.2.1.length := by unfold nsG; rw [List.length_map]
theorem gsO_m {s : GS} {k j : Int} (h : gsO s k) (hk : k ≤ j) : gsO s j := ⟨h.1, h.2.1, h.2.2.1, h.2.2.2.1, h.2.2.2.2.1, h.2.2.2.2.2.1, by have := h.2.2.2.2.2.2.1; omega, by have := h.2.2.2.2.2.2.2; omega⟩
/-- a result goes on within the tokens, and what is told then is good -/
def okS (N k : Int) (r : PR) : Prop := ∀ j s, r = Sum.inr (j, s) → k < j ∧ j ≤ N ∧ gsO s j
theorem okS_l {N k : Int} {e : Int × Int} : okS N k (Sum.inl e) := fun j s h => by cases h
theorem okS_tkw {K : TKs} {N k k0 t : Int} {f : Int → PR} (hN : lsT K N) (hk : k ≤ N) (ht : t ≠ 0 ∧ t ≠ 1) (h : k < N → okS N k0 (f (k + 1))) : okS N k0 (tkw K t k f) := by
  unfold tkw
  by_cases c : K.1 k = t
  · rw [if_pos c]; exact h (lt_of_t hN hk (by omega) (by omega))
  · rw [if_neg c]; exact okS_l
theorem okS_nmb {K : TKs} {N k k0 lo hi : Int} {f : Int → Int → PR} (hN : lsT K N) (hk : k ≤ N) (h : k < N → ∀ v, lo ≤ v → v ≤ hi → okS N k0 (f (k + 1) v)) : okS N k0 (nmb K lo hi k f) := by
  unfold nmb
  by_cases c : K.1 k = 3
  · rw [if_pos c]
    by_cases d : lo ≤ K.2.2.2 k ∧ K.2.2.2 k ≤ hi
    · rw [if_pos d]; exact h (lt_of_t hN hk (by omega) (by omega)) _ d.1 d.2
    · rw [if_neg d]; exact okS_l
  · rw [if_neg c]; exact okS_l
theorem okS_frs {K : TKs} {N k k0 : Int} {ns : List (List Int)} {f : Int → List Int → PR} (hN : lsT K N) (hk : k ≤ N) (h : k < N → K.1 k = 2 → okS N k0 (f (k + 1) (K.2.2.1 k))) : okS N k0 (frs K ns k f) := by
  unfold frs
  by_cases c : K.1 k = 2
  · rw [if_pos c]
    by_cases d : pixF (K.2.2.1 k) ns 0 = -1
    · rw [if_pos d]; exact h (lt_of_t hN hk (by omega) (by omega)) c
    · rw [if_neg d]; exact okS_l
  · rw [if_neg c]; exact okS_l
theorem okS_ask {K : TKs} {N k k0 : Int} {ns : List (List Int)} {f : Int → Int → PR} (hN : lsT K N) (hk : k ≤ N) (h : k < N → ∀ p : Int, 0 ≤ p → p < ns.length → okS N k0 (f (k + 1) p)) : okS N k0 (ask K ns k f) := by
  unfold ask
  by_cases c : K.1 k = 2
  · rw [if_pos c]
    by_cases d : pixF (K.2.2.1 k) ns 0 = -1
    · rw [if_pos d]; exact okS_l
    · rw [if_neg d]
      have := pixF_r (K.2.2.1 k) ns 0
      exact h (lt_of_t hN hk (by omega) (by omega)) _ (by omega) (by omega)
  · rw [if_neg c]; exact okS_l
theorem cwR_a (rs : List RU) (r : RU) : cwR (rs ++ [r]) = cwR rs ++ r.2.2.2.2.2.1 := by unfold cwR; rw [List.flatMap_append, List.flatMap_cons, List.flatMap_nil, List.append_nil]
theorem cwC_a (rs : List RU) (r : RU) : cwC (rs ++ [r]) = cwC rs ++ r.2.2.2.2.2.2 := by unfold cwC; rw [List.flatMap_append, List.flatMap_cons, List.flatMap_nil, List.append_nil]
theorem okS_ruE {K : TKs} {N k k0 kd ev pc wy st : Int} {s : GS} (hN : lsT K N) (hnu : ∀ k, K.1 k = 3 → 0 ≤ K.2.2.2 k ∧ K.2.2.2 k ≤ 9999) (hk : k ≤ N) (h0 : k0 < k) (hs : gsO s k0) (hl : s.2.2.2.length ≠ 12) (hr : ∀ w c, (∃ v, tsW (nsG s) w c v) → rlO (nsG s) (kd, ev, pc, wy, st, w, c)) : okS N k0 (ruE K s kd ev k pc wy st) := by
  unfold ruE
  refine okS_tkw hN hk (by decide) (fun hk1 => ?_)
  unfold tsS
  by_cases c : (ps K (nsG s) 30000 0 (k + 1) 0).1 = 0
  · rw [if_pos c]
    intro j t e
    have hv := ps_adv (ns := nsG s) hN 30000 0 (k + 1) 0 (by omega) c
    rw [show lpN 0 = 1 from rfl] at hv
    have ht := tsW_of (ns := nsG s) hN hnu (by rw [nsG_l]; exact hs.2.1) (show k + 1 ≤ N by omega) c
    generalize ps K (nsG s) 30000 0 (k + 1) 0 = A at *
    have e' := Sum.inr.inj e
    have e1 : A.2.1 = j := congrArg Prod.fst e'
    have e2 : addR s (kd, ev, pc, wy, st, A.2.2.1, A.2.2.2) = t := congrArg Prod.snd e'
    subst e1 e2
    obtain ⟨g1, g2, g3, g4, g5, g6, g7, g8⟩ := hs
    refine ⟨by omega, hv.2.1, g1, g2, g3, g4, ?_, fun r hr' => ?_, ?_, ?_⟩
    · show (s.2.2.2 ++ [(kd, ev, pc, wy, st, A.2.2.1, A.2.2.2)]).length ≤ 12
      simp only [List.length_append, List.length_cons, List.length_nil]
      omega
    · rcases List.mem_append.mp hr' with z | z
      · exact g6 r z
      · rw [List.mem_singleton.mp z]; exact hr _ _ ht
    · show ((cwR (s.2.2.2 ++ [(kd, ev, pc, wy, st, A.2.2.1, A.2.2.2)])).length : Int) ≤ A.2.1
      rw [cwR_a]
      simp only [List.length_append]
      omega
    · show ((cwC (s.2.2.2 ++ [(kd, ev, pc, wy, st, A.2.2.1, A.2.2.2)])).length : Int) ≤ A.2.1
      rw [cwC_a]
      simp only [List.length_append]
      omega
  · rw [if_neg c]; exact okS_l
theorem kndT_r (t : Int) : kndT t = -1 ∨ (0 ≤ kndT t ∧ kndT t ≤ 3 ∧ t ≠ 0 ∧ t ≠ 1) := by
  unfold kndT
  repeat' split
  all_goals omega
theorem wayT_r (t : Int) : wayT t = -1 ∨ (0 ≤ wayT t ∧ wayT t ≤ 2 ∧ t ≠ 0 ∧ t ≠ 1) := by
  unfold wayT
  repeat' split
  all_goals omega
theorem stkT_r (t : Int) : stkT t = -1 ∨ (0 ≤ stkT t ∧ stkT t ≤ 2 ∧ t ≠ 0 ∧ t ≠ 1) := by
  unfold stkT
  repeat' split
  all_goals omega
theorem okS_ruK {K : TKs} {N k k0 ev : Int} {s : GS} (hN : lsT K N) (hnu : ∀ k, K.1 k = 3 → 0 ≤ K.2.2.2 k ∧ K.2.2.2 k ≤ 9999) (hk : k ≤ N) (h0 : k0 ≤ k) (hs : gsO s k0) (hl : s.2.2.2.length ≠ 12) (hev : ev = 0 ∨ ev = 1) : okS N k0 (ruK K s ev k) := by
  unfold ruK
  have hkr := kndT_r (K.1 k)
  by_cases c : kndT (K.1 k) = -1
  · rw [if_pos c]; exact okS_l
  rw [if_neg c]
  have hkN : k < N := lt_of_t hN hk (by omega) (by omega)
  by_cases d : kndT (K.1 k) < 2
  · rw [if_pos d]
    refine okS_ask hN (by omega) (fun hk1 p p0 p1 => ?_)
    unfold mvE
    have hwr := wayT_r (K.1 (k + 1 + 1))
    by_cases e : wayT (K.1 (k + 1 + 1)) = -1
    · rw [if_pos e]; exact okS_l
    rw [if_neg e]
    have hkN2 : k + 1 + 1 < N := lt_of_t hN (by omega) (by omega) (by omega)
    by_cases f : wayT (K.1 (k + 1 + 1)) = 2
    · rw [if_pos f]
      refine okS_ruE hN hnu (by omega) (by omega) hs hl (fun w c hv => ⟨⟨by show 0 ≤ kndT (K.1 k); omega, by show kndT (K.1 k) ≤ 3; omega⟩, hev, fun _ => ⟨⟨p0, p1⟩, ⟨by show (0 : Int) ≤ 2; decide, by show (2 : Int) ≤ 2; decide⟩, fun z => absurd rfl z, fun _ => rfl⟩, fun z => ?_, hv⟩)
      have z' : 2 ≤ kndT (K.1 k) := z
      omega
    · rw [if_neg f]
      refine okS_nmb hN (by omega) (fun hk3 v v0 v1 => okS_ruE hN hnu (by omega) (by omega) hs hl (fun w c hv => ⟨⟨by show 0 ≤ kndT (K.1 k); omega, by show kndT (K.1 k) ≤ 3; omega⟩, hev, fun _ => ⟨⟨p0, p1⟩, ⟨by show 0 ≤ wayT (K.1 (k + 1 + 1)); omega, by show wayT (K.1 (k + 1 + 1)) ≤ 2; omega⟩, fun _ => ⟨v0, v1⟩, fun z => absurd z f⟩, fun z => ?_, hv⟩))
      have z' : 2 ≤ kndT (K.1 k) := z
      omega
  · rw [if_neg d]
    refine okS_ruE hN hnu (by omega) (by omega) hs hl (fun w c hv => ⟨⟨by show 0 ≤ kndT (K.1 k); omega, by show kndT (K.1 k) ≤ 3; omega⟩, hev, fun z => absurd z d, fun _ => ⟨rfl, rfl, rfl⟩, hv⟩)
theorem okS_smt {K : TKs} {N k : Int} {s : GS} (hN : lsT K N) (hnu : ∀ k, K.1 k = 3 → 0 ≤ K.2.2.2 k ∧ K.2.2.2 k ≤ 9999) (hnm : ∀ k, k ≤ N → K.1 k = 2 → 0 ≤ k → nmL (K.2.2.1 k)) (h0 : 0 ≤ k) (hk : k ≤ N) (hs : gsO s k) : okS N k (stb K s k) ∧ okS N k (smt K s k) := by
  have h1 : okS N k (stb K s k) := by
    unfold stb
    by_cases c1 : K.1 k = 257
    · rw [if_pos c1]
      have hkN : k < N := lt_of_t hN hk (by omega) (by omega)
      unfold pcS
      by_cases d : s.2.1.length = 2
      · rw [if_pos d]; exact okS_l
      rw [if_neg d]
      refine okS_frs hN (by omega) (fun h1 e1 => okS_tkw hN (by omega) (by decide) (fun h2 => okS_nmb hN (by omega) (fun h3 v v0 v1 => okS_tkw hN (by omega) (by decide) (fun h4 => okS_nmb hN (by omega) (fun h5 w w0 w1 => ?_)))))
      intro j t e
      have e' := Sum.inr.inj e
      have q1 : k + 1 + 1 + 1 + 1 + 1 + 1 = j := congrArg Prod.fst e'
      have q2 : addP s (K.2.2.1 (k + 1), v, w) = t := congrArg Prod.snd e'
      subst q1 q2
      obtain ⟨g1, g2, g3, g4, g5, g6, g7, g8⟩ := hs
      refine ⟨by omega, by omega, g1, ?_, fun p hp => ?_, g4, g5, fun r hr => rlO_m (g6 r hr) ?_, by show ((cwR s.2.2.2).length : Int) ≤ _; omega, by show ((cwC s.2.2.2).length : Int) ≤ _; omega⟩
      · show (s.2.1 ++ [(K.2.2.1 (k + 1), v, w)]).length ≤ 2
        simp only [List.length_append, List.length_cons, List.length_nil]
        omega
      · rcases List.mem_append.mp hp with z | z
        · exact g3 p z
        · rw [List.mem_singleton.mp z]
          exact ⟨hnm _ (by omega) e1 (by omega), ⟨v0, by show v < s.1; omega⟩, w0, w1⟩
      · rw [nsG_l, nsG_l]
        show s.2.1.length ≤ (s.2.1 ++ [(K.2.2.1 (k + 1), v, w)]).length
        simp only [List.length_append]
        omega
    rw [if_neg c1]
    by_cases c2 : K.1 k = 261
    · rw [if_pos c2]
      have hkN : k < N := lt_of_t hN hk (by omega) (by omega)
      unfold stS
      have hsr := stkT_r (K.1 (k + 1))
      by_cases d : stkT (K.1 (k + 1)) = -1
      · rw [if_pos d]; exact okS_l
      rw [if_neg d]
      have hkN2 : k + 1 < N := lt_of_t hN (by omega) (by omega) (by omega)
      intro j t e
      have e' := Sum.inr.inj e
      have q1 : k + 1 + 1 = j := congrArg Prod.fst e'
      have q2 : addS s (stkT (K.1 (k + 1))) = t := congrArg Prod.snd e'
      subst q1 q2
      obtain ⟨g1, g2, g3, g4, g5, g6, g7, g8⟩ := hs
      exact ⟨by omega, by omega, g1, g2, g3, ⟨by show 0 ≤ stkT (K.1 (k + 1)); omega, by show stkT (K.1 (k + 1)) ≤ 2; omega⟩, g5, g6, by show ((cwR s.2.2.2).length : Int) ≤ _; omega, by show ((cwC s.2.2.2).length : Int) ≤ _; omega⟩
    rw [if_neg c2]
    by_cases c3 : K.1 k = 260 ∨ kndT (K.1 k) ≠ -1
    · rw [if_pos c3]
      unfold ruS
      by_cases d : s.2.2.2.length = 12
      · rw [if_pos d]; exact okS_l
      rw [if_neg d]
      by_cases e : K.1 k = 260
      · rw [if_pos e]
        have hkN : k < N := lt_of_t hN hk (by omega) (by omega)
        exact okS_ruK hN hnu (by omega) (by omega) hs d (Or.inr rfl)
      · rw [if_neg e]
        exact okS_ruK hN hnu hk (by omega) hs d (Or.inl rfl)
    · rw [if_neg c3]; exact okS_l
  refine ⟨h1, ?_⟩
  unfold smt
  cases hr : stb K s k with
  | inl e => exact okS_l
  | inr q =>
    obtain ⟨j, t⟩ := q
    have h2 := h1 j t hr
    show okS N k (tkw K 59 j (fun k3 => Sum.inr (k3, t)))
    refine okS_tkw hN h2.2.1 (by decide) (fun h3 => ?_)
    intro i u e
    have e' := Sum.inr.inj e
    have q1 : j + 1 = i := congrArg Prod.fst e'
    have q2 : t = u := congrArg Prod.snd e'
    subst q1 q2
    exact ⟨by omega, by omega, gsO_m h2.2.2 (by omega)⟩
theorem okS_bdS {K : TKs} {N : Int} (hN : lsT K N) (h0 : 0 ≤ N) : okS N 0 (bdS K) := by
  unfold bdS
  refine okS_tkw hN h0 (by decide) (fun h1 => okS_nmb hN (by omega) (fun h2 v v0 v1 => okS_tkw hN (by omega) (by decide) (fun h3 => ?_)))
  intro j t e
  have e' := Sum.inr.inj e
  have q1 : (0 : Int) + 1 + 1 + 1 = j := congrArg Prod.fst e'
  have q2 : (v, [], 0, []) = t := congrArg Prod.snd e'
  subst q1 q2
  exact ⟨by omega, by omega, ⟨v0, v1⟩, by show 0 ≤ 2; decide, (fun p hp => by cases hp), ⟨by show (0 : Int) ≤ 0; decide, by show (0 : Int) ≤ 2; decide⟩, by show 0 ≤ 12; decide, (fun r hr => by cases hr), by show ((0 : Nat) : Int) ≤ _; decide, by show ((0 : Nat) : Int) ≤ _; decide⟩
