/-! where this game parts from the spring's -/
def dfI (G : GM) (s s' : SL) (p : Int) : Int := if cds G s p = cds G s' p ∧ nx G s p = nx G s' p then 0 else 1
def scF (D df : Int → Int) (k : Int) : Nat → Int → Int
  | 0, _ => -1
  | n + 1, p => if D p = k ∧ df p = 1 then p else scF D df k n (p + 1)
def hit (k e : Int) (a : (Int → Int) × Int) : (Int → Int) × Int := if 0 ≤ e ∧ a.1 e = -1 then (upI a.1 e (k + 1), 1) else a
def hitL (k : Int) : List Int → (Int → Int) × Int → (Int → Int) × Int
  | [], a => a
  | e :: l, a => hitL k l (hit k e a)
def exF (N : Int → List Int) (k : Int) : Nat → Int → (Int → Int) × Int → (Int → Int) × Int
  | 0, _, a => a
  | n + 1, p, a => exF N k n (p + 1) (if a.1 p = k then hitL k (N p) a else a)
def ptF (N : Int → List Int) (df : Int → Int) (P : Nat) : Nat → Int → (Int → Int) → Int × Int
  | 0, _, _ => (-1, -1)
  | n + 1, k, D => if scF D df k P 0 = -1 then (if (exF N k P 0 (D, 0)).2 = 0 then (-1, -1) else ptF N df P n (k + 1) (exF N k P 0 (D, 0)).1) else (k, scF D df k P 0)
def ptx (k : Int) (a b : (Int → Int) × Int) : Prop := (∀ q, a.1 q ≠ -1 → b.1 q = a.1 q) ∧ (∀ q, a.1 q = -1 → b.1 q = -1 ∨ b.1 q = k + 1) ∧ (b.2 = a.2 ∨ (b.2 = 1 ∧ ∃ q, 0 ≤ q ∧ q < 200 ∧ b.1 q = k + 1))
theorem ptx_rfl (k : Int) (a : (Int → Int) × Int) : ptx k a a := ⟨fun _ _ => rfl, fun q h => Or.inl h, Or.inl rfl⟩
theorem ptx_tr {k : Int} {a b c : (Int → Int) × Int} (hk : 0 ≤ k) (h : ptx k a b) (h2 : ptx k b c) : ptx k a c := by
  obtain ⟨a1, a2, a3⟩ := h
  obtain ⟨b1, b2, b3⟩ := h2
  refine ⟨fun q hq => by rw [b1 q (by rw [a1 q hq]; exact hq), a1 q hq], fun q hq => ?_, ?_⟩
  · rcases a2 q hq with z | z
    · exact b2 q z
    · exact Or.inr (by rw [b1 q (by omega), z])
  · rcases b3 with z | z
    · rcases a3 with y | ⟨y1, q, q0, q1, q2⟩
      · exact Or.inl (by rw [z, y])
      · exact Or.inr ⟨by rw [z, y1], q, q0, q1, by rw [b1 q (by omega), q2]⟩
    · exact Or.inr z
theorem ptx_hit {k e : Int} {a : (Int → Int) × Int} (he : e < 200) : ptx k a (hit k e a) := by
  unfold hit
  by_cases c : 0 ≤ e ∧ a.1 e = -1
  · rw [if_pos c]
    refine ⟨fun q hq => ?_, fun q hq => ?_, Or.inr ⟨rfl, e, c.1, he, upI_s _ _ _⟩⟩
    · exact upI_n _ _ (fun z => hq (by rw [z]; exact c.2))
    · by_cases z : q = e
      · rw [z]; exact Or.inr (upI_s _ _ _)
      · exact Or.inl ((upI_n _ _ z).trans hq)
  · rw [if_neg c]; exact ptx_rfl k a
theorem ptx_hitL {k : Int} (hk : 0 ≤ k) : ∀ (l : List Int) (a : (Int → Int) × Int), (∀ e, e ∈ l → e < 200) → ptx k a (hitL k l a) := by
  intro l
  induction l with
  | nil => intro a _; exact ptx_rfl k a
  | cons e l ih =>
    intro a hl
    rw [hitL]
    exact ptx_tr hk (ptx_hit (hl e (List.mem_cons_self ..))) (ih _ (fun e' he' => hl e' (List.mem_cons_of_mem _ he')))
theorem ptx_ex {N : Int → List Int} {k : Int} (hk : 0 ≤ k) (hN : ∀ p, 0 ≤ p → ∀ e, e ∈ N p → e < 200) : ∀ (n : Nat) (p : Int) (a : (Int → Int) × Int), 0 ≤ p → ptx k a (exF N k n p a) := by
  intro n
  induction n with
  | zero => intro p a _; exact ptx_rfl k a
  | succ n ih =>
    intro p a hp
    rw [exF]
    by_cases c : a.1 p = k
    · rw [if_pos c]; exact ptx_tr hk (ptx_hitL hk _ a (hN p hp)) (ih (p + 1) _ (by omega))
    · rw [if_neg c]; exact ih (p + 1) _ (by omega)
theorem ptx_k {k : Int} (hk : 0 ≤ k) {a b : (Int → Int) × Int} (h : ptx k a b) (q : Int) : b.1 q = k ↔ a.1 q = k := by
  by_cases z : a.1 q = -1
  · rcases h.2.1 q z with y | y <;> omega
  · rw [h.1 q z]
theorem scF_c {D D' df : Int → Int} {k : Int} (h : ∀ q, D' q = k ↔ D q = k) : ∀ (n : Nat) (p : Int), scF D' df k n p = scF D df k n p := by
  intro n
  induction n with
  | zero => intro p; rfl
  | succ n ih =>
    intro p
    rw [scF, scF, ih]
    by_cases c : D p = k ∧ df p = 1
    · rw [if_pos c, if_pos ⟨(h p).mpr c.1, c.2⟩]
    · rw [if_neg c, if_neg (fun z => c ⟨(h p).mp z.1, z.2⟩)]
theorem hitL_d (k : Int) {l : List Int} {i : Nat} (hi : i < l.length) (a : (Int → Int) × Int) : hitL k (l.drop i) a = hitL k (l.drop (i + 1)) (hit k (l.getD i 0) a) := by
  rw [List.drop_eq_getElem_cons hi, hitL, getD_e hi]
theorem hitL_e (k : Int) {l : List Int} {i : Nat} (hi : l.length ≤ i) (a : (Int → Int) × Int) : hitL k (l.drop i) a = a := by
  rw [List.drop_eq_nil_of_le hi]; rfl
/-- levels up to k are all there -/
def lvI (k : Int) (D : Int → Int) : Prop := 0 ≤ k ∧ ∀ j, 0 ≤ j → j ≤ k → ∃ p, 0 ≤ p ∧ p < 200 ∧ D p = j
theorem lvI_le {k : Int} {D : Int → Int} (h : lvI k D) : k ≤ 199 := by
  have hs : ∀ j, 0 ≤ j → j < k + 1 → 0 ≤ Classical.epsilon (fun p => 0 ≤ p ∧ p < 200 ∧ D p = j) ∧ Classical.epsilon (fun p => 0 ≤ p ∧ p < 200 ∧ D p = j) < 200 ∧ D (Classical.epsilon (fun p => 0 ≤ p ∧ p < 200 ∧ D p = j)) = j := fun j j0 j1 => Classical.epsilon_spec (h.2 j j0 (by omega))
  have := pigeonI (m := 200) (n := k + 1) (f := fun j => Classical.epsilon (fun p => 0 ≤ p ∧ p < 200 ∧ D p = j)) (by have := h.1; omega) (by decide) (fun i a b => ⟨(hs i a b).1, (hs i a b).2.1⟩) (fun i j a b a' b' e => by
    have e' : Classical.epsilon (fun p => 0 ≤ p ∧ p < 200 ∧ D p = i) = Classical.epsilon (fun p => 0 ≤ p ∧ p < 200 ∧ D p = j) := e
    have q1 := (hs i a b).2.2
    have q2 := (hs j a' b').2.2
    rw [e'] at q1
    omega)
  omega
theorem lvI_s {k : Int} {D : Int → Int} {b : (Int → Int) × Int} (h : lvI k D) (hp : ptx k (D, 0) b) (hb : b.2 ≠ 0) : lvI (k + 1) b.1 := by
  refine ⟨by have := h.1; omega, fun j j0 j1 => ?_⟩
  by_cases z : j = k + 1
  · rcases hp.2.2 with y | ⟨-, q, q0, q1, q2⟩
    · exact absurd y hb
    · exact ⟨q, q0, q1, by omega⟩
  · obtain ⟨p, p0, p1, p2⟩ := h.2 j j0 (by omega)
    have : b.1 p = D p := hp.1 p (show D p ≠ -1 by omega)
    exact ⟨p, p0, p1, by omega⟩
noncomputable def ptS (x : ST) : Int × Int := ptF (nx (xG x) (xS x)) (dfI (xG x) (xS x) (xH x 40)) (qPos (xG x)).toNat 201 0 (upI (fun _ => -1) (beg (xG x) (xN x 0)) 0)
noncomputable def sParts (x : ST) (w : Int) : Int := if qF (xG x) = 0 ∨ xN x 2 = 0 ∨ ¬ (0 ≤ w ∧ w ≤ 1) then -1 else if w = 0 then (ptS x).1 else (ptS x).2
def agr (W : ASt) (a : Int) (D : Int → Int) : Prop := ∀ j, 0 ≤ j → j < 200 → W a j = D j
theorem agr_s {W U : ASt} {a e v : Int} {D : Int → Int} (h : agr W a D) (e1 : U a = upI (W a) e v) : agr U a (upI D e v) := fun j j0 j1 => by
  rw [e1]
  by_cases z : j = e
  · rw [z, upI_s, upI_s]
  · rw [upI_n _ _ z, upI_n _ _ z]; exact h j j0 j1
theorem l_ext {l l' : List Int} (hl : l.length = l'.length) (h : ∀ j : Nat, j < l.length → l.getD j 0 = l'.getD j 0) : l = l' := by
  refine List.ext_getElem hl (fun j h1 h2 => ?_)
  have := h j h1
  rw [getD_e h1, getD_e h2] at this
  exact this
-- ---- the reference
/-- what was laid for the spring -/
def RM2 (G : GM) (s : SL) (V : ASt) : Prop := ∀ p, 0 ≤ p → p < qPos G → V 193 p = (nx G s p).length ∧ (∀ j : Nat, j < (nx G s p).length → V 194 (20 * p + j) = (cds G s p).getD j 0 ∧ V 195 (20 * p + j) = (nx G s p).getD j 0)
def RM1 (G : GM) (s : SL) (V : ASt) : Prop := ∀ p, 0 ≤ p → p < qPos G → V 175 p = (nx G s p).length ∧ (∀ j : Nat, j < (nx G s p).length → V 176 (20 * p + j) = (cds G s p).getD j 0 ∧ V 177 (20 * p + j) = (nx G s p).getD j 0)
theorem RM1_of {G : GM} (hG : GOK G) {s : SL} {V : ASt} (h : RM G s V) (ha : ∀ q, 0 ≤ q → q < qPos G → wPos V q) : RM1 G s V := fun p p0 p1 => by
  have hq := qPos_le hG
  have := h p p0 (by omega) (ha p p0 p1).2.2
  exact ⟨this.2.1, this.2.2.2.1⟩
theorem nx_20 (G : GM) (s : SL) (p : Int) : (nx G s p).length ≤ 20 := by rw [nx_len]; exact cds_le G s p
theorem M_differs {G : GM} {s s' : SL} {p : Int} {V : ASt} (hG : GOK G) (h1 : RM1 G s V) (h2 : RM2 G s' V) (p0 : 0 ≤ p) (p1 : p < qPos G) : f_M_differs S0 V 142 p = some (dfI G s s' p, V) := by
  have hq := qPos_le hG
  have a := h1 p p0 p1
  have b := h2 p p0 p1
  have l20 := nx_20 G s p
  have l20' := nx_20 G s' p
  have c1 := nx_len G s p
  have c2 := nx_len G s' p
  unfold f_M_differs
  rw [gd_t O_142, F_142_51, A_175, gd_in (by omega) (by omega), F_142_75, A_193, gd_in (by omega) (by omega), a.1, b.1]
  by_cases c : ((nx G s p).length : Int) = (nx G s' p).length
  · rw [if_pos c, w32_id (x := 20 * p) (by omega) (by omega)]
    have hl : ∀ (n : Nat) (i : Nat), i ≤ (nx G s p).length → (nx G s p).length - i < n → (∀ j : Nat, j < i → (cds G s p).getD j 0 = (cds G s' p).getD j 0 ∧ (nx G s p).getD j 0 = (nx G s' p).getD j 0) → b_M_differs_L22 S0 142 p n V (20 * p + i) = some (dfI G s s' p, V) := by
      intro n
      induction n with
      | zero => intro i h1 h2; omega
      | succ n ih =>
        intro i i1 hn hj
        rw [b_M_differs_L22, F_142_51, A_175, gd_in (by omega) (by omega), a.1, w32_id (x := 20 * p) (by omega) (by omega), w32_id (x := 20 * p + ((nx G s p).length : Int)) (by omega) (by omega)]
        by_cases d : 20 * p + ((nx G s p).length : Int) ≤ 20 * p + i
        · rw [if_pos d]
          have e1 : cds G s p = cds G s' p := l_ext (by omega) (fun j hj' => (hj j (by omega)).1)
          have e2 : nx G s p = nx G s' p := l_ext (by omega) (fun j hj' => (hj j (by omega)).2)
          unfold dfI
          rw [if_pos ⟨e1, e2⟩]
        · have ai := a.2 i (by omega)
          have bi := b.2 i (by omega)
          rw [if_neg d, F_142_52, A_176, gd_in (by omega) (by omega), F_142_76, A_194, gd_in (by omega) (by omega), ai.1, bi.1]
          by_cases e : (cds G s p).getD i 0 = (cds G s' p).getD i 0
          · rw [if_pos e, F_142_53, A_177, gd_in (by omega) (by omega), F_142_77, A_195, gd_in (by omega) (by omega), ai.2, bi.2]
            by_cases f : (nx G s p).getD i 0 = (nx G s' p).getD i 0
            · rw [if_pos f, w32_id (x := 20 * p + i + 1) (by omega) (by omega), show 20 * p + (i : Int) + 1 = 20 * p + ((i + 1 : Nat) : Int) by omega]
              refine ih (i + 1) (by omega) (by omega) (fun j hj' => ?_)
              by_cases z : j = i
              · rw [z]; exact ⟨e, f⟩
              · exact hj j (by omega)
            · rw [if_neg f]
              unfold dfI
              rw [if_neg (fun z => f (by rw [z.2]))]
          · rw [if_neg e]
            unfold dfI
            rw [if_neg (fun z => e (by rw [z.1]))]
    have := hl FU 0 (by omega) (by rw [FU_v]; omega) (fun j hj => by omega)
    rw [show 20 * p + ((0 : Nat) : Int) = 20 * p by omega] at this
    exact this
  · rw [if_neg c]
    unfold dfI
    rw [if_neg (fun z => c (by rw [z.2]))]
theorem pt_83 {G : GM} {b : Int} {s s' : SL} {D : Int → Int} {k w : Int} {V : ASt} {K : ASt → Int → Int → Option (Int × ASt)} {Q : Int → ASt → Prop} (hG : GOK G) (g1 : rG G b V) (h1 : RM1 G s V) (h2 : RM2 G s' V) (hD : agr V 196 D)
    (hA : scF D (dfI G s s') k (qPos G).toNat 0 ≠ -1 → Q (if w = 0 then k else scF D (dfI G s s') k (qPos G).toNat 0) V) (hB : scF D (dfI G s s') k (qPos G).toNat 0 = -1 → Tr (b_M_parts_L132 S0 K 142 w k FU V 0 0) Q) :
    ∀ (n : Nat) (p : Int), 0 ≤ p → p ≤ qPos G → qPos G - p < n → scF D (dfI G s s') k (qPos G).toNat 0 = scF D (dfI G s s') k (qPos G - p).toNat p → Tr (b_M_parts_L83 S0 K 142 w 0 k n V p) Q := by
  have hq := qPos_le hG
  intro n
  induction n with
  | zero => intro p h1 h2 h3; omega
  | succ n ih =>
    intro p p0 p1 hn he
    rw [b_M_parts_L83]
    refine Tr_bq (M_positions hG g1) ?_
    refine Tr_if (fun c => ?_) (fun c => ?_)
    · rw [show (qPos G - p).toNat = 0 by omega, scF] at he
      exact hB he
    · rw [show (qPos G - p).toNat = (qPos G - (p + 1)).toNat + 1 by omega, scF] at he
      rw [F_142_78, A_196, gd_in (by omega) (by omega), hD p p0 (by omega), w32_id (x := p + 1) (by omega) (by omega)]
      refine Tr_if (fun d => ?_) (fun d => ?_)
      · refine Tr_bq (M_differs hG h1 h2 p0 (by omega)) ?_
        refine Tr_if (fun e => ?_) (fun e => ?_)
        · rw [if_neg (fun z => by have := z.2; omega)] at he
          exact ih (p + 1) (by omega) (by omega) (by omega) he
        · have hd1 : dfI G s s' p = 1 := by
            unfold dfI at *
            by_cases z : cds G s p = cds G s' p ∧ nx G s p = nx G s' p
            · rw [if_pos z] at e; exact absurd rfl e
            · rw [if_neg z]
          rw [if_pos ⟨d, hd1⟩] at he
          have := hA (by omega)
          rw [he] at this
          refine Tr_if (fun f => ?_) (fun f => ?_)
          · rw [if_pos f] at this; exact Tr_ret this
          · rw [if_neg f] at this; exact Tr_ret this
      · rw [if_neg (fun z => d z.1)] at he
        exact ih (p + 1) (by omega) (by omega) (by omega) he
theorem pt_148 {G : GM} {s : SL} {k w p : Int} {V : ASt} {K K2 : ASt → Int → Int → Option (Int × ASt)} {Q : Int → ASt → Prop} (hG : GOK G) (hk : 0 ≤ k ∧ k ≤ 300) (h1 : RM1 G s V) (p0 : 0 ≤ p) (p1 : p < qPos G) :
    ∀ (n : Nat) (i : Nat) (W : ASt) (a : (Int → Int) × Int), i ≤ (nx G s p).length → (nx G s p).length - i < n → (∀ c, c ≠ 196 → W c = V c) → agr W 196 a.1 →
      (∀ W' : ASt, (∀ c, c ≠ 196 → W' c = V c) → agr W' 196 (if a.1 p = k then hitL k ((nx G s p).drop i) a else a).1 → Tr (K2 W' (if a.1 p = k then hitL k ((nx G s p).drop i) a else a).2 (p + 1)) Q) →
      Tr (b_M_parts_L148 S0 K K2 142 w k p n W a.2 (20 * p + i)) Q := by
  have hq := qPos_le hG
  have l20 := nx_20 G s p
  have hp := h1 p p0 p1
  intro n
  induction n with
  | zero => intro i W a h1 h2; omega
  | succ n ih =>
    intro i W a i1 hn fW hA hK
    rw [b_M_parts_L148, F_142_51, A_175, gd_in (by omega) (by omega), fW 175 (by decide), hp.1, w32_id (x := 20 * p) (by omega) (by omega), w32_id (x := 20 * p + ((nx G s p).length : Int)) (by omega) (by omega), w32_id (x := p + 1) (by omega) (by omega)]
    refine Tr_if (fun c => ?_) (fun c => ?_)
    · have := hK W fW
      rw [hitL_e k (show (nx G s p).length ≤ i by omega), ite_self] at this
      exact this hA
    · rw [F_142_78, A_196, gd_in (by omega) (by omega), hA p p0 (by omega)]
      refine Tr_if (fun d => ?_) (fun d => ?_)
      · have hi := (hp.2 i (by omega)).2
        have hmem : (nx G s p).getD i 0 ∈ nx G s p := by rw [getD_e (show i < (nx G s p).length by omega)]; exact List.getElem_mem _
        have hr := nx_r hG p0 hmem
        rw [if_pos d, hitL_d k (show i < (nx G s p).length by omega)] at hK
        rw [F_142_53, A_177, gd_in (by omega) (by omega), fW 177 (by decide), hi, w32_id (x := 20 * p + i + 1) (by omega) (by omega), show 20 * p + (i : Int) + 1 = 20 * p + ((i + 1 : Nat) : Int) by omega]
        have dk : (hit k ((nx G s p).getD i 0) a).1 p = k := by
          have := ptx_hit (k := k) (a := a) (show (nx G s p).getD i 0 < 200 by omega)
          rw [this.1 p (by omega)]; exact d
        refine Tr_if (fun e => ?_) (fun e => ?_)
        · have eh : hit k ((nx G s p).getD i 0) a = a := by unfold hit; rw [if_neg (by omega)]
          rw [eh] at hK
          exact ih (i + 1) W a (by omega) (by omega) fW hA (by rw [if_pos d]; exact hK)
        · rw [A_196, gd_in (by omega) (by omega), hA _ (by omega) (by omega)]
          refine Tr_if (fun f => ?_) (fun f => ?_)
          · have eh : hit k ((nx G s p).getD i 0) a = (upI a.1 ((nx G s p).getD i 0) (k + 1), 1) := by unfold hit; rw [if_pos ⟨by omega, f⟩]
            rw [w32_id (x := k + 1) (by omega) (by omega)]
            refine Tr_set (fun V1 e1 n1 => ?_)
            rw [eh] at hK dk
            exact ih (i + 1) V1 (upI a.1 ((nx G s p).getD i 0) (k + 1), 1) (by omega) (by omega) (fun c hc => by rw [n1 c hc, fW c hc]) (agr_s hA e1) (by rw [if_pos dk]; exact hK)
          · have eh : hit k ((nx G s p).getD i 0) a = a := by unfold hit; rw [if_neg (fun z => f z.2)]
            rw [eh] at hK
            exact ih (i + 1) W a (by omega) (by omega) fW hA (by rw [if_pos d]; exact hK)
      · rw [if_neg d] at hK
        exact hK W fW hA
theorem pt_132 {G : GM} {b : Int} {s : SL} {k w : Int} {V : ASt} {K : ASt → Int → Int → Option (Int × ASt)} {Q : Int → ASt → Prop} (hG : GOK G) (hk : 0 ≤ k ∧ k ≤ 300) (g1 : rG G b V) (h1 : RM1 G s V) :
    ∀ (n : Nat) (p : Int) (W : ASt) (a : (Int → Int) × Int), 0 ≤ p → p ≤ qPos G → qPos G - p < n → (∀ c, c ≠ 196 → W c = V c) → agr W 196 a.1 →
      (∀ W' : ASt, (∀ c, c ≠ 196 → W' c = V c) → agr W' 196 (exF (nx G s) k (qPos G - p).toNat p a).1 → Tr (K W' (exF (nx G s) k (qPos G - p).toNat p a).2 (k + 1)) Q) →
      Tr (b_M_parts_L132 S0 K 142 w k n W a.2 p) Q := by
  have hq := qPos_le hG
  intro n
  induction n with
  | zero => intro p W a h1 h2 h3; omega
  | succ n ih =>
    intro p W a p0 p1 hn fW hA hK
    have gW : rG G b W := rG_fr (fun c c1 c2 => fW c (by omega)) g1
    rw [b_M_parts_L132]
    refine Tr_bq (M_positions hG gW) ?_
    refine Tr_if (fun c => ?_) (fun c => ?_)
    · rw [show (qPos G - p).toNat = 0 by omega, exF] at hK
      rw [w32_id (x := k + 1) (by omega) (by omega)]
      exact hK W fW hA
    · rw [show (qPos G - p).toNat = (qPos G - (p + 1)).toNat + 1 by omega, exF] at hK
      rw [w32_id (x := 20 * p) (by omega) (by omega)]
      have h1W : RM1 G s W := by
        unfold RM1 at *
        rw [fW 175 (by decide), fW 176 (by decide), fW 177 (by decide)]; exact h1
      have := pt_148 (K := K) (w := w) (Q := Q) (K2 := b_M_parts_L132 S0 K 142 w k n) hG hk h1W p0 (show p < qPos G by omega) FU 0 W a (by omega) (by have := nx_20 G s p; rw [FU_v]; omega) (fun _ _ => rfl) hA (fun W' fW' hA' => ?_)
      · rw [show 20 * p + ((0 : Nat) : Int) = 20 * p by omega] at this
        exact this
      · rw [List.drop_zero] at hA' ⊢
        exact ih (p + 1) W' _ (by omega) (by omega) (by omega) (fun c hc => by rw [fW' c hc, fW c hc]) hA' hK
theorem pt_74 {G : GM} {b : Int} {s s' : SL} {w : Int} {V : ASt} (hG : GOK G) (g1 : rG G b V) (h1 : RM1 G s V) (h2 : RM2 G s' V) :
    ∀ (n m : Nat) (k : Int) (W : ASt) (D : Int → Int), lvI k D → 201 - k < n → 200 - k < m → (∀ c, c ≠ 196 → W c = V c) → agr W 196 D → Tr (b_M_parts_L74 S0 142 w n W 1 k) (fun r U => r = (if w = 0 then (ptF (nx G s) (dfI G s s') (qPos G).toNat m k D).1 else (ptF (nx G s) (dfI G s s') (qPos G).toNat m k D).2) ∧ ∀ c, c ≠ 196 → U c = V c) := by
  have hq := qPos_le hG
  intro n
  induction n with
  | zero => intro m k W D h hn; have := lvI_le h; omega
  | succ n ih =>
    intro m k W D hI hn hm fW hA
    have hle := lvI_le hI
    have hk0 := hI.1
    have gW : rG G b W := rG_fr (fun c c1 c2 => fW c (by omega)) g1
    have h1W : RM1 G s W := by unfold RM1 at *; rw [fW 175 (by decide), fW 176 (by decide), fW 177 (by decide)]; exact h1
    have h2W : RM2 G s' W := by unfold RM2 at *; rw [fW 193 (by decide), fW 194 (by decide), fW 195 (by decide)]; exact h2
    rw [b_M_parts_L74]
    refine Tr_f (by decide) ?_
    obtain ⟨m', em⟩ : ∃ m', m = m' + 1 := ⟨m - 1, by omega⟩
    subst em
    rw [ptF]
    refine pt_83 hG gW h1W h2W hA (fun hz => ?_) (fun hz => ?_) FU 0 (by omega) (by omega) (by rw [FU_v]; omega) (by rw [show qPos G - 0 = qPos G by omega])
    · rw [if_neg hz]
      exact ⟨rfl, fW⟩
    · rw [if_pos hz]
      refine pt_132 (a := (D, 0)) hG ⟨hk0, by omega⟩ gW h1W FU 0 W (by omega) (by omega) (by rw [FU_v]; omega) (fun _ _ => rfl) hA (fun W' fW' hA' => ?_)
      rw [show qPos G - 0 = qPos G by omega] at hA' ⊢
      have hpx := ptx_ex (N := nx G s) hk0 (fun p p0 e he => by rcases nx_r hG p0 he with z | z | z <;> omega) (qPos G).toNat 0 (D, 0) (by omega)
      have fV : ∀ c, c ≠ 196 → W' c = V c := fun c hc => by rw [fW' c hc, fW c hc]
      by_cases z : (exF (nx G s) k (qPos G).toNat 0 (D, 0)).2 = 0
      · rw [if_pos z, z, show n = (n - 1) + 1 by omega, b_M_parts_L74, ite_self]
        exact Tr_t rfl (Tr_ret ⟨rfl, fV⟩)
      · have h1' : (exF (nx G s) k (qPos G).toNat 0 (D, 0)).2 = 1 := by
          rcases hpx.2.2 with y | y
          · exact absurd y z
          · exact y.1
        have hI' := lvI_s hI hpx z
        rw [if_neg z, h1']
        exact ih m' (k + 1) W' _ hI' (by omega) (by omega) fV hA'
theorem M_fromSp {x : ST} {s : SL} {V : ASt} {Q : Int → ASt → Prop} (hG : GOK (xG x)) (hs : SOK (xG x) s) (h : rI x V) (hsp : ∀ k, 0 ≤ k → k < qR (xG x) → V 191 k = sA s k ∧ V 192 k = rst s k)
    (hQ : ∀ U : ASt, rI (uS x s) U → (∀ a, a ≠ 169 → a ≠ 170 → a ≠ 171 → a ≠ 172 → U a = V a) → Tr (bnd (f_M_lays S0 U 142 (-1)) (fun _ V24 => b_M_laysSpring_L103 S0 142 FU V24 0)) Q) : Tr (b_M_laysSpring_L7 S0 142 FU V 0) Q := by
  have hR := hG.2.2.1
  have h' := h
  obtain ⟨b, g1, -⟩ := h
  have hl : ∀ (n : Nat) (p : Int) (W : ASt), 0 ≤ p → p ≤ qR (xG x) → qR (xG x) - p < n → (∀ a, a ≠ 169 → a ≠ 170 → a ≠ 171 → a ≠ 172 → W a = V a) → (∀ k, 0 ≤ k → k < p → W 169 k = sA s k ∧ W 170 k = sX s k ∧ W 171 k = sT s k ∧ W 172 k = sN s k) →
      Tr (b_M_laysSpring_L7 S0 142 n W p) Q := by
    intro n
    induction n with
    | zero => intro p W h1 h2 h3; omega
    | succ n ih =>
      intro p W p0 p1 hn fW kW
      have gW : rG (xG x) b W := rG_fr (fun a a1 a2 => fW a (by omega) (by omega) (by omega) (by omega)) g1
      rw [b_M_laysSpring_L7]
      refine Tr_bq (M_rulesAll gW) ?_
      refine Tr_if (fun c => ?_) (fun c => ?_)
      · exact hQ W (rI_uS h' fW (fun k k0 k1 => kW k k0 (by omega))) fW
      · have hr := hsp p p0 (by omega)
        have hd := rst_d hs p0 (show p < qR (xG x) by omega)
        have hss := hs.2.2 p p0 (by omega)
        have v9 : W 191 p = sA s p := by rw [fW 191 (by decide) (by decide) (by decide) (by decide)]; exact hr.1
        have v0 : W 192 p = rst s p := by rw [fW 192 (by decide) (by decide) (by decide) (by decide)]; exact hr.2
        rw [F_142_73, A_191, gd_in (by omega) (by omega), F_142_44, A_169, gd_in (by omega) (by omega), v9]
        refine Tr_set (fun V1 e1 n1 => ?_)
        rw [F_142_74, A_192, gd_in (by omega) (by omega), F_142_47, A_172, gd_in (by omega) (by omega), n1 192 (by decide), v0, tdiv_e hd.1, hd.2.2.1, w32_id (x := sN s p) (by omega) (by omega)]
        refine Tr_set (fun V2 e2 n2 => ?_)
        have w0 : V2 192 p = rst s p := by rw [n2 192 (by decide), n1 192 (by decide), v0]
        rw [w0, tmod_e hd.1, hd.2.2.2.1]
        have hJ : Tr (b_M_laysSpring_J64 S0 (b_M_laysSpring_L7 S0 142 n) V2 142 p (aF S0 142 45) p (sX s p)) Q := by
          unfold b_M_laysSpring_J64
          rw [F_142_45, A_170, gd_in (by omega) (by omega), zb_t hss.1]
          refine Tr_set (fun V3 e3 n3 => ?_)
          have w1 : V3 192 p = rst s p := by rw [n3 192 (by decide), w0]
          rw [F_142_74, A_192, gd_in (by omega) (by omega), w1, tdiv_e hd.1, w32_id (x := rst s p / 2) (by omega) (by omega), tmod_e (show 0 ≤ rst s p / 2 by omega), hd.2.2.2.2]
          have hJ2 : Tr (b_M_laysSpring_J89 S0 (b_M_laysSpring_L7 S0 142 n) V3 142 p (aF S0 142 46) p (sT s p)) Q := by
            unfold b_M_laysSpring_J89
            rw [F_142_46, A_171, gd_in (by omega) (by omega), zb_t hss.2.1]
            refine Tr_set (fun V4 e4 n4 => ?_)
            rw [w32_id (x := p + 1) (by omega) (by omega)]
            refine ih (p + 1) V4 (by omega) (by omega) (by omega) (fun a a1 a2 a3 a4 => by rw [n4 a a3, n3 a a2, n2 a a4, n1 a a1, fW a a1 a2 a3 a4]) (fun k k0 k1 => ?_)
            have q1 : V4 169 = upI (W 169) p (sA s p) := by rw [n4 169 (by decide), n3 169 (by decide), n2 169 (by decide), e1]
            have q2 : V4 170 = upI (W 170) p (sX s p) := by rw [n4 170 (by decide), e3, n2 170 (by decide), n1 170 (by decide)]
            have q3 : V4 171 = upI (W 171) p (sT s p) := by rw [e4, n3 171 (by decide), n2 171 (by decide), n1 171 (by decide)]
            have q4 : V4 172 = upI (W 172) p (sN s p) := by rw [n4 172 (by decide), n3 172 (by decide), e2, n1 172 (by decide)]
            rw [q1, q2, q3, q4]
            by_cases z : k = p
            · rw [z, upI_s, upI_s, upI_s, upI_s]; exact ⟨rfl, rfl, rfl, rfl⟩
            · rw [upI_n _ _ z, upI_n _ _ z, upI_n _ _ z, upI_n _ _ z]; exact kW k k0 (by omega)
          rcases hss.2.1 with e | e
          · rw [e] at hJ2 ⊢; exact Tr_f (by decide) hJ2
          · rw [e] at hJ2 ⊢; exact Tr_t rfl hJ2
        rcases hss.1 with e | e
        · rw [e] at hJ ⊢; exact Tr_f (by decide) hJ
        · rw [e] at hJ ⊢; exact Tr_t rfl hJ
  exact hl FU 0 V (by omega) (by omega) (by rw [FU_v]; omega) (fun _ _ _ _ _ => rfl) (fun k k0 k1 => by omega)
theorem sp_130 {V : ASt} {Q : Int → ASt → Prop} (hQ : ∀ U : ASt, (∀ a, a ≠ 194 → a ≠ 195 → U a = V a) → (∀ j, 0 ≤ j → j < 4000 → U 194 j = V 176 j ∧ U 195 j = V 177 j) → Tr (bnd (f_M_back S0 U 142) (fun _ V9 => some (0, V9))) Q) : Tr (b_M_laysSpring_L130 S0 142 FU V 0) Q := by
  have hl : ∀ (n : Nat) (p : Int) (W : ASt), 0 ≤ p → p ≤ 4000 → 4000 - p < n → (∀ a, a ≠ 194 → a ≠ 195 → W a = V a) → (∀ j, 0 ≤ j → j < p → W 194 j = V 176 j ∧ W 195 j = V 177 j) → Tr (b_M_laysSpring_L130 S0 142 n W p) Q := by
    intro n
    induction n with
    | zero => intro p W h1 h2 h3; omega
    | succ n ih =>
      intro p W p0 p1 hn fW kW
      rw [b_M_laysSpring_L130]
      refine Tr_if (fun c => ?_) (fun c => ?_)
      · exact hQ W fW (fun j j0 j1 => kW j j0 (by omega))
      · rw [F_142_52, A_176, gd_in (by omega) (by omega), F_142_76, A_194, gd_in (by omega) (by omega), fW 176 (by decide) (by decide)]
        refine Tr_set (fun V1 e1 n1 => ?_)
        rw [F_142_53, A_177, gd_in (by omega) (by omega), F_142_77, A_195, gd_in (by omega) (by omega), n1 177 (by decide), fW 177 (by decide) (by decide)]
        refine Tr_set (fun V2 e2 n2 => ?_)
        rw [w32_id (x := p + 1) (by omega) (by omega)]
        refine ih (p + 1) V2 (by omega) (by omega) (by omega) (fun a a1 a2 => by rw [n2 a a2, n1 a a1, fW a a1 a2]) (fun j j0 j1 => ?_)
        rw [n2 194 (by decide), e1, e2, n1 195 (by decide)]
        by_cases z : j = p
        · rw [z, upI_s, upI_s]; exact ⟨rfl, rfl⟩
        · rw [upI_n _ _ z, upI_n _ _ z]; exact kW j j0 (by omega)
  exact hl FU 0 V (by omega) (by omega) (by rw [FU_v]; omega) (fun _ _ _ => rfl) (fun j j0 j1 => by omega)
theorem sp_103 {V : ASt} {Q : Int → ASt → Prop} (hQ : ∀ U : ASt, (∀ a, a ≠ 193 → U a = V a) → (∀ j, 0 ≤ j → j < 200 → U 193 j = V 175 j) → Tr (b_M_laysSpring_L130 S0 142 FU U 0) Q) : Tr (b_M_laysSpring_L103 S0 142 FU V 0) Q := by
  have hl : ∀ (n : Nat) (p : Int) (W : ASt), 0 ≤ p → p ≤ 200 → 200 - p < n → (∀ a, a ≠ 193 → W a = V a) → (∀ j, 0 ≤ j → j < p → W 193 j = V 175 j) → Tr (b_M_laysSpring_L103 S0 142 n W p) Q := by
    intro n
    induction n with
    | zero => intro p W h1 h2 h3; omega
    | succ n ih =>
      intro p W p0 p1 hn fW kW
      rw [b_M_laysSpring_L103]
      refine Tr_if (fun c => ?_) (fun c => ?_)
      · exact hQ W fW (fun j j0 j1 => kW j j0 (by omega))
      · rw [F_142_51, A_175, gd_in (by omega) (by omega), F_142_75, A_193, gd_in (by omega) (by omega), fW 175 (by decide)]
        refine Tr_set (fun V1 e1 n1 => ?_)
        rw [w32_id (x := p + 1) (by omega) (by omega)]
        refine ih (p + 1) V1 (by omega) (by omega) (by omega) (fun a a1 => by rw [n1 a a1, fW a a1]) (fun j j0 j1 => ?_)
        rw [e1]
        by_cases z : j = p
        · rw [z, upI_s]
        · rw [upI_n _ _ z]; exact kW j j0 (by omega)
  exact hl FU 0 V (by omega) (by omega) (by rw [FU_v]; omega) (fun _ _ => rfl) (fun j j0 j1 => by omega)
theorem R_laysSp {x : ST} {s : SL} {V : ASt} (hG : GOK (xG x)) (hs : SOK (xG x) (xS x)) (hs' : SOK (xG x) s) (h : rI x V) (hsp : ∀ k, 0 ≤ k → k < qR (xG x) → V 191 k = sA s k ∧ V 192 k = rst s k) :
    Tr (f_M_laysSpring S0 V 142) (fun _ U => rI x U ∧ RM2 (xG x) s U ∧ ∀ a, a < 142 → U a = V a) := by
  have hq := qPos_le hG
  have h' := h
  obtain ⟨b, g1, g2, g3, g4, -⟩ := h
  unfold f_M_laysSpring
  rw [gd_t O_142]
  refine Tr_bnd (M_notes hG hs g1 g4 (i := 0) (by decide)) ?_
  rintro _ V0 ⟨m1, m2, -⟩
  have r0 : rI x V0 := rI_fr (fun a ha => m1 a (by unfold rK at ha; omega) (by unfold rK at ha; omega)) (fun k _ => by rw [m1 142 (by decide) (by decide)]) h'
  refine M_fromSp hG hs' r0 (fun k k0 k1 => by rw [m1 191 (by decide) (by decide), m1 192 (by decide) (by decide)]; exact hsp k k0 k1) (fun U1 hU1 fU1 => ?_)
  refine Tr_bnd (R_lays (x := uS x s) hG hs' hU1 (Or.inl rfl)) ?_
  rintro _ U2 ⟨u1, u2, u3, u4, u5, u6⟩
  have hm1 : RM1 (xG x) s U2 := RM1_of (G := xG x) (s := s) hG u3 (u6 rfl)
  refine sp_103 (fun U3 f3 k3 => sp_130 (fun U4 f4 k4 => ?_))
  have r4 : rI (uS x s) U4 := rI_fr (fun a ha => by rw [f4 a (by unfold rK at ha; omega) (by unfold rK at ha; omega), f3 a (by unfold rK at ha; omega)]) (fun k _ => by rw [f4 142 (by decide) (by decide), f3 142 (by decide)]) u1
  have n4 : nt (xG x) (xS x) 0 U4 := fun p p0 p1 => by
    rw [f4 189 (by decide) (by decide), f3 189 (by decide), u2.1 189 (by omega), fU1 189 (by decide) (by decide) (by decide) (by decide), f4 190 (by decide) (by decide), f3 190 (by decide), u2.1 190 (by omega), fU1 190 (by decide) (by decide) (by decide) (by decide)]
    exact m2 p p0 p1
  refine Tr_bnd (M_back (x := uS x s) (s := xS x) hG hs r4 n4) ?_
  rintro _ U5 ⟨v1, v2⟩
  refine Tr_ret ⟨v1, fun p p0 p1 => ?_, fun a ha => ?_⟩
  · have hp := hm1 p p0 p1
    have l20 := nx_20 (xG x) s p
    rw [v2 193 (by decide) (by decide) (by decide) (by decide), v2 194 (by decide) (by decide) (by decide) (by decide), v2 195 (by decide) (by decide) (by decide) (by decide), f4 193 (by decide) (by decide), k3 p p0 (by omega)]
    refine ⟨hp.1, fun j hj => ?_⟩
    have := k4 (20 * p + j) (by omega) (by omega)
    rw [this.1, this.2, f3 176 (by decide), f3 177 (by decide)]
    exact hp.2 j hj
  · rw [v2 a (by omega) (by omega) (by omega) (by omega), f4 a (by omega) (by omega), f3 a (by omega), u2.1 a (by omega), fU1 a (by omega) (by omega) (by omega) (by omega), m1 a (by omega) (by omega)]
theorem pt_36 {V : ASt} {w d : Int} {Q : Int → ASt → Prop} {G : GM} {b : Int} (hG : GOK G) (g1 : rG G b V) (h48 : V 142 48 = d) (hd : 0 ≤ d)
    (hQ : ∀ U : ASt, (∀ a, a ≠ 196 → U a = V a) → agr U 196 (upI (fun _ => -1) (beg G d) 0) → Tr (b_M_parts_L74 S0 142 w FU U 1 0) Q) : Tr (b_M_parts_L36 S0 142 w FU V 0) Q := by
  have hq := qPos_le hG
  have hbr := beg_r hG (d := d)
  have hl : ∀ (n : Nat) (p : Int) (W : ASt), 0 ≤ p → p ≤ 200 → 200 - p < n → (∀ a, a ≠ 196 → W a = V a) → (∀ j, 0 ≤ j → j < p → W 196 j = -1) → Tr (b_M_parts_L36 S0 142 w n W p) Q := by
    intro n
    induction n with
    | zero => intro p W h1 h2 h3; omega
    | succ n ih =>
      intro p W p0 p1 hn fW kW
      rw [b_M_parts_L36]
      refine Tr_if (fun c => ?_) (fun c => ?_)
      · have gW : rG G b W := rG_fr (fun c c1 c2 => fW c (by omega)) g1
        rw [fW 142 (by decide), h48]
        refine Tr_bq (M_beginning hG gW hd) ?_
        rw [F_142_78, A_196, gd_in (by omega) (by omega)]
        refine Tr_set (fun V1 e1 n1 => hQ V1 (fun a ha => by rw [n1 a ha, fW a ha]) (fun j j0 j1 => ?_))
        rw [e1]
        by_cases z : j = beg G d
        · rw [z, upI_s, upI_s]
        · rw [upI_n _ _ z, upI_n _ _ z]; exact kW j j0 (by omega)
      · rw [F_142_78, A_196, gd_in (by omega) (by omega)]
        refine Tr_set (fun V1 e1 n1 => ?_)
        rw [w32_id (x := p + 1) (by omega) (by omega)]
        refine ih (p + 1) V1 (by omega) (by omega) (by omega) (fun a a1 => by rw [n1 a a1, fW a a1]) (fun j j0 j1 => ?_)
        rw [e1]
        by_cases z : j = p
        · rw [z, upI_s]
        · rw [upI_n _ _ z]; exact kW j j0 (by omega)
  exact hl FU 0 V (by omega) (by omega) (by rw [FU_v]; omega) (fun _ _ => rfl) (fun j j0 j1 => by omega)
theorem lvI_0 {st : Int} (h : 0 ≤ st ∧ st < 200) : lvI 0 (upI (fun _ => -1) st 0) := ⟨by omega, fun j j0 j1 => ⟨st, h.1, h.2, by rw [upI_s]; omega⟩⟩
theorem R_parts {x : ST} {V : ASt} (hG : GOK (xG x)) (hs : SOK (xG x) (xS x)) (h : rI x V) (h0 : 0 ≤ xN x 0) (h2 : xN x 2 = 0 ∨ xN x 2 = 1) (hsp : xN x 2 = 1 → SOK (xG x) (xH x 40)) (w : Int) : Tr (f_M_parts S0 V 142 w) (fun r U => r = sParts x w ∧ rI x U ∧ ∀ a, a < 142 → U a = V a) := by
  have hq := qPos_le hG
  have hbr := beg_r hG (d := xN x 0)
  have h' := h
  obtain ⟨b, g1, g2, g3, g4, g5, g6, g7, g8, g9, g10, g11⟩ := h
  unfold f_M_parts sParts
  rw [gd_t O_142]
  refine Tr_bq (M_hasFields hG g1) ?_
  by_cases c : qF (xG x) = 0
  · rw [if_pos c, if_pos (Or.inl c)]
    exact Tr_t rfl (Tr_ret ⟨rfl, h', fun _ _ => rfl⟩)
  rw [if_neg c]
  refine Tr_f (by decide) ?_
  rw [g5.2.2.1]
  refine Tr_if (fun d => ?_) (fun d => ?_)
  · rw [if_pos (Or.inr (Or.inl d))]; exact Tr_ret ⟨rfl, h', fun _ _ => rfl⟩
  refine Tr_bq (M_is V w 0 1) ?_
  by_cases c2 : 0 ≤ w ∧ w ≤ 1
  case neg =>
    rw [if_neg c2, if_pos (Or.inr (Or.inr c2))]
    exact Tr_t rfl (Tr_ret ⟨rfl, h', fun _ _ => rfl⟩)
  rw [if_pos c2, if_neg (show ¬ (qF (xG x) = 0 ∨ xN x 2 = 0 ∨ ¬ (0 ≤ w ∧ w ≤ 1)) from fun z => z.elim c (fun y => y.elim d (fun u => u c2)))]
  refine Tr_f (by decide) ?_
  have h21 : xN x 2 = 1 := by omega
  refine Tr_bnd (R_laysSp hG hs (hsp h21) h' (g11.1 h21)) ?_
  rintro _ U ⟨u1, u2, u3⟩
  refine Tr_bnd (R_lays hG hs u1 (Or.inl rfl)) ?_
  rintro _ W ⟨w1, w2, w3, w4, w5, w6⟩
  have hm1 : RM1 (xG x) (xS x) W := RM1_of hG w3 (w6 rfl)
  have hm2 : RM2 (xG x) (xH x 40) W := by unfold RM2 at *; rw [w2.1 193 (by omega), w2.1 194 (by omega), w2.1 195 (by omega)]; exact u2
  have w1' := w1
  obtain ⟨b', k1, -⟩ := w1
  refine pt_36 hG k1 (r48 w1') h0 (fun Z fZ hA => ?_)
  refine Tr_mono (pt_74 (w := w) hG k1 hm1 hm2 FU 201 0 Z _ (lvI_0 (by omega)) (by rw [FU_v]; omega) (by omega) fZ hA) ?_
  rintro r Y ⟨y1, y2⟩
  exact ⟨y1, rI_fr (fun a ha => y2 a (by unfold rK at ha; omega)) (fun k _ => by rw [y2 142 (by decide)]) w1', fun a ha => by rw [y2 a (by omega), w2.1 a (by omega), u3 a ha]⟩
