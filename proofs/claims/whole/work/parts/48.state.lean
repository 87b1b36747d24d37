/-! the state that both sides hold -/
/-- game, slate, numbers, slates kept (40: the spring's), tape, image -/
abbrev ST : Type := GM × SL × (Int → Int) × (Int → SL) × (Int → Int) × (Int → Int)
def xG (x : ST) : GM := x.1
def xS (x : ST) : SL := x.2.1
def xN (x : ST) (k : Int) : Int := x.2.2.1 k
def xH (x : ST) (i : Int) : SL := x.2.2.2.1 i
def xT (x : ST) (i : Int) : Int := x.2.2.2.2.1 i
def xI (x : ST) (i : Int) : Int := x.2.2.2.2.2 i
/-- numbers: 0 sunday 1 undos 2 spring 3 position 4 moved 5 ended 6 taped 7 8 fault 9 outs 10 11 kinds 12 13 errs 20.. refusals -/
def IV (B : Int) (x : ST) : Prop :=
  GOK (xG x) ∧ SOK (xG x) (xS x) ∧ SNM (xG x) (xS x) ∧ (0 ≤ xN x 0 ∧ xN x 0 ≤ 65535 + B ∧ (qF (xG x) = 0 → xN x 0 = 0)) ∧ (0 ≤ xN x 1 ∧ xN x 1 ≤ 40) ∧ (xN x 2 = 0 ∨ xN x 2 = 1) ∧ (0 ≤ xN x 3 ∧ xN x 3 < qPos (xG x) ∧ (qF (xG x) = 0 → xN x 3 = 0)) ∧ (0 ≤ xN x 4 ∧ xN x 4 ≤ B) ∧ (-1 ≤ xN x 5 ∧ xN x 5 ≤ 1) ∧ (0 ≤ xN x 6 ∧ xN x 6 ≤ 1800) ∧ (0 ≤ xN x 9 ∧ xN x 9 ≤ 44) ∧
  (0 ≤ xN x 10 ∧ xN x 10 ≤ 2) ∧ (0 ≤ xN x 11 ∧ xN x 11 ≤ 2) ∧ (0 ≤ xN x 12 ∧ xN x 12 ≤ 100) ∧ (0 ≤ xN x 13 ∧ xN x 13 ≤ 100) ∧ (∀ k, 20 ≤ k → k ≤ 25 → 0 ≤ xN x k ∧ xN x k ≤ B) ∧
  (∀ i, 0 ≤ i → i < xN x 1 → SOK (xG x) (xH x i) ∧ SNM (xG x) (xH x i)) ∧ (xN x 2 = 1 → SOK (xG x) (xH x 40) ∧ SNM (xG x) (xH x 40)) ∧ (∀ i, 0 ≤ i → i < xN x 6 → 0 ≤ xT x i ∧ xT x i ≤ 255)
/-- names by their letters -/
def nmL (ls : List Int) : Prop := 1 ≤ ls.length ∧ ls.length ≤ 6 ∧ ∀ c, c ∈ ls → 97 ≤ c ∧ c ≤ 122
def nmQ (G : GM) (k : Int) (ls : List Int) : Prop := ∀ j, qL G k j = if 0 ≤ j ∧ j < ls.length then ls.getD j.toNat 0 else -1
def nm256 : List Int → Int → Int
  | [], a => a
  | c :: l, a => nm256 l (256 * a + c)
def nm32 : List Int → Int → Int
  | [], _ => 0
  | c :: l, m => (c - 96) * m + nm32 l (m / 32)
def rL (G : GM) (b : Int) (V : ASt) : Prop := ∀ k, 0 ≤ k → k < qP G → ∃ ls, nmL ls ∧ nmQ G k ls ∧ V 146 (2 * b + k) = nm256 ls 0
def dL (G : GM) (t : Int) (V : ASt) : Prop := ∀ k, 0 ≤ k → k < qP G → ∃ ls, nmL ls ∧ nmQ G k ls ∧ V (t + 5) k = nm32 ls 33554432
/-- what a rule has become, in one number, as the reference keeps it -/
def rst (s : SL) (r : Int) : Int := 8 * sN s r + sX s r + 2 * sT s r
def rI (x : ST) (V : ASt) : Prop := ∃ b, rG (xG x) b V ∧ rT (xG x) b V ∧ rL (xG x) b V ∧ rS (xG x) (xS x) V ∧
  (V 142 48 = xN x 0 ∧ V 142 65 = xN x 1 ∧ V 142 72 = xN x 2 ∧ V 142 59 = xN x 3 ∧ V 142 60 = xN x 4 ∧ V 142 61 = xN x 5 ∧ V 142 1 = xN x 6 ∧ V 142 10 = xN x 7 ∧ V 142 11 = xN x 8 ∧ V 142 80 = xN x 9) ∧
  (V 173 0 = xN x 10 ∧ V 173 1 = xN x 11 ∧ V 174 0 = xN x 12 ∧ V 174 1 = xN x 13) ∧ (∀ k, 0 ≤ k → k ≤ 5 → V 166 k = xN x (20 + k)) ∧
  (∀ i, 0 ≤ i → i < xN x 6 → V 143 i = xT x i) ∧ (∀ i, 0 ≤ i → i < xN x 9 → V 197 i = xI x i) ∧
  (∀ i, 0 ≤ i → i < xN x 1 → ∀ k, 0 ≤ k → k < qR (xG x) → V 185 (12 * i + k) = sA (xH x i) k ∧ V 186 (12 * i + k) = sX (xH x i) k ∧ V 187 (12 * i + k) = sT (xH x i) k ∧ V 188 (12 * i + k) = sN (xH x i) k) ∧
  (xN x 2 = 1 → ∀ k, 0 ≤ k → k < qR (xG x) → V 191 k = sA (xH x 40) k ∧ V 192 k = rst (xH x 40) k) ∧
  (∀ j, 0 ≤ j → j < 480 → (V 186 j = 0 ∨ V 186 j = 1) ∧ (V 187 j = 0 ∨ V 187 j = 1))
/-- cells of the reference that are not for scratch -/
def rK (a : Int) : Prop := (143 ≤ a ∧ a ≤ 159) ∨ a = 166 ∨ (169 ≤ a ∧ a ≤ 174) ∨ (185 ≤ a ∧ a ≤ 188) ∨ a = 191 ∨ a = 192 ∨ a = 197
def rKn (k : Int) : Prop := k = 1 ∨ k = 10 ∨ k = 11 ∨ k = 12 ∨ k = 48 ∨ k = 59 ∨ k = 60 ∨ k = 61 ∨ k = 65 ∨ k = 72 ∨ k = 80
theorem rI_fr {x : ST} {V U : ASt} (h : ∀ a, rK a → U a = V a) (h2 : ∀ k, rKn k → U 142 k = V 142 k) (g : rI x V) : rI x U := by
  obtain ⟨b, g1, g2, g3, g4, g5, g6, g7, g8, g9, g10, g11⟩ := g
  refine ⟨b, rG_fr2 (h2 12 (by unfold rKn; omega)) (fun a a1 a2 => h a (Or.inl ⟨a1, a2⟩)) g1, rT_fr (fun a a1 a2 => h a (Or.inl ⟨by omega, a2⟩)) g2, ?_, rS_fr (fun a a1 a2 => h a (by unfold rK; omega)) g4, ?_, ?_, ?_, ?_, ?_, ?_, ?_⟩
  · unfold rL at *; rw [h 146 (by unfold rK; omega)]; exact g3
  · rw [h2 48 (by unfold rKn; omega), h2 65 (by unfold rKn; omega), h2 72 (by unfold rKn; omega), h2 59 (by unfold rKn; omega), h2 60 (by unfold rKn; omega), h2 61 (by unfold rKn; omega), h2 1 (by unfold rKn; omega), h2 10 (by unfold rKn; omega), h2 11 (by unfold rKn; omega), h2 80 (by unfold rKn; omega)]; exact g5
  · rw [h 173 (by unfold rK; omega), h 174 (by unfold rK; omega)]; exact g6
  · rw [h 166 (by unfold rK; omega)]; exact g7
  · rw [h 143 (by unfold rK; omega)]; exact g8
  · rw [h 197 (by unfold rK; omega)]; exact g9
  · rw [h 185 (by unfold rK; omega), h 186 (by unfold rK; omega), h 187 (by unfold rK; omega), h 188 (by unfold rK; omega)]; exact g10
  · rw [h 191 (by unfold rK; omega), h 192 (by unfold rK; omega), h 186 (by unfold rK; omega), h 187 (by unfold rK; omega)]; exact g11
/-- only the reference's cells are changed -/
def frM (V U : ASt) : Prop := ∀ a, (a < 142 ∨ a = 189 ∨ a = 190) → U a = V a
theorem frM_tr {V U W : ASt} (h : frM V U) (h2 : frM U W) : frM V W := fun a ha => by rw [h2 a ha, h a ha]
-- ---- the class's side
/-- the values of all positions -/
def VA (G : GM) (s : SL) (z : Int) (V : ASt) : Prop := Sol (nx G s) (qU G - 1) (fun p => 0 ≤ p ∧ p < qPos G) (V z) (fun q => if V z q = 0 then -1 else V (z + 1) q) ∧ (∀ q, 0 ≤ q → q < qPos G → V z q ≠ 0 → 0 ≤ V (z + 1) q ∧ V (z + 1) q ≤ 200)
def dA (x : ST) (t : Int) (V : ASt) : Prop := V 0 1 = t ∧ V 0 2 = 22 - t ∧ V 0 17 = xN x 0
def dM (x : ST) (t : Int) (V : ASt) : Prop := dP (xG x) (xS x) 50 t V ∧ (V 50 0 = 0 ∨ V 50 0 = 1) ∧ (V 50 0 = 1 → qF (xG x) ≠ 0 ∧ MA (xG x) (xS x) 50 V) ∧ (V 50 0 = 0 → ∀ p, 0 ≤ p → p < 200 → V 53 p = 0)
def dV (x : ST) (V : ASt) : Prop := (V 62 0 = 0 ∨ V 62 0 = 1) ∧ (V 62 0 = 1 → VA (xG x) (xS x) 63 V ∧ V 50 0 = 1) ∧ chR 62 63 V
def dH (x : ST) (V : ASt) : Prop := V 47 0 = xN x 1 ∧ ∀ i, 0 ≤ i → i < xN x 1 → 0 ≤ V 48 i ∧ V 48 i < 6 * qR (xG x) ∧ (V 48 i % 6 = 5 → V 48 i / 6 + 1 < qR (xG x)) ∧
  ∀ p, 0 ≤ p → p < qR (xG x) → pk (xH x i) p = (if V 48 i % 6 = 5 then (if p = V 48 i / 6 then pk (if i + 1 < xN x 1 then xH x (i + 1) else xS x) (V 48 i / 6 + 1) else if p = V 48 i / 6 + 1 then pk (if i + 1 < xN x 1 then xH x (i + 1) else xS x) (V 48 i / 6) else pk (if i + 1 < xN x 1 then xH x (i + 1) else xS x) p) else (if p = V 48 i / 6 then V 49 i else pk (if i + 1 < xN x 1 then xH x (i + 1) else xS x) p))
def dSp (x : ST) (V : ASt) : Prop := V 43 0 = xN x 2 ∧ (xN x 2 = 1 → dS (xG x) (xH x 40) 44 V)
def dMa (x : ST) (V : ASt) : Prop := V 109 0 = xN x 3 ∧ V 109 1 = xN x 4 ∧ V 109 2 = xN x 5
def dTp (x : ST) (V : ASt) : Prop := V 1 0 = xN x 6 ∧ ∀ i, 0 ≤ i → i < xN x 6 → V 2 i = xT x i
def dIm (x : ST) (V : ASt) : Prop := V 113 0 = xN x 9 ∧ ∀ i, 0 ≤ i → i < xN x 9 → V 114 i = xI x i
/-- the own words as the reader of the class keeps them -/
def ocd (i : Int) : Int := ([82888832, 546475168, 54525952, 509607936, 191023104, 659197280, 419010144, 153149024, 781667328, 438075392, 486146048, 721420288, 150714368, 509804544, 780318720, 522190848, 48365568, 46530560, 654823424, 250654720, 780632064, 446103552, 438042624] : List Int).getD i.toNat 0
def dMi (x : ST) (V : ASt) : Prop := V 35 0 = xN x 7 ∧ V 35 1 = xN x 8 ∧ V 112 0 = xN x 10 ∧ V 112 1 = xN x 11 ∧ V 111 0 = xN x 12 ∧ V 111 1 = xN x 13 ∧ (∀ k, 0 ≤ k → k ≤ 5 → V 115 k = xN x (20 + k)) ∧ (∀ i, 0 ≤ i → i ≤ 12 → V 108 i = 116 + 2 * i) ∧ (∀ i, 0 ≤ i → i < 23 → V 37 i = ocd i) ∧ V 6 0 = 0 ∧ V 22 0 = 0
def dIt (x : ST) (t : Int) (V : ASt) : Prop := isGm t ∧ dA x t V ∧ gI (xG x) t V ∧ dL (xG x) t V ∧ dS (xG x) (xS x) 41 V ∧ dM x t V ∧ dV x V ∧ dWW (xG x) t 96 V ∧ dWW (xG x) t 102 V ∧ dH x V ∧ dSp x V ∧ dMa x V ∧ dTp x V ∧ dIm x V ∧ dMi x V
def dI (x : ST) (V : ASt) : Prop := ∃ t, dIt x t V
theorem dA_k {x : ST} {t : Int} {V U : ASt} (h : U 0 = V 0) (g : dA x t V) : dA x t U := by unfold dA at *; rw [h]; exact g
theorem gI_k {G : GM} {t : Int} {V U : ASt} (h : ∀ o, 0 ≤ o → o ≤ 15 → U (t + o) = V (t + o)) (g : gI G t V) : gI G t U := by
  have h0 := h 0 (by decide) (by decide)
  rw [Int.add_zero] at h0
  exact ⟨dG_fr h0 (fun o a b => h o (by omega) (by omega)) g.1, dN_fr h0 (fun o a b => h o (by omega) (by omega)) g.2.1, dX_fr (h 15 (by decide) (by decide)) g.2.2.1, dT_fr (fun o a b => h o (by omega) (by omega)) g.2.2.2⟩
theorem dL_k {G : GM} {t : Int} {V U : ASt} (h : U (t + 5) = V (t + 5)) (g : dL G t V) : dL G t U := by unfold dL at *; rw [h]; exact g
theorem MA_k {G : GM} {s : SL} {m : Int} {V U : ASt} (h : ∀ o, 3 ≤ o → o ≤ 5 → U (m + o) = V (m + o)) (g : MA G s m V) : MA G s m U := by
  unfold MA mvH cdH at *
  rw [h 3 (by decide) (by decide), h 4 (by decide) (by decide), h 5 (by decide) (by decide)]; exact g
theorem dM_k {x : ST} {t : Int} {V U : ASt} (h : ∀ c, 50 ≤ c → c ≤ 61 → U c = V c) (g : dM x t V) : dM x t U := by
  have h0 := h 50 (by decide) (by decide)
  have h3 := h 53 (by decide) (by decide)
  obtain ⟨g1, g2, g3, g4⟩ := g
  refine ⟨dP_fr (by rw [h0]) (by rw [h0]) (fun o a b => h _ (by omega) (by omega)) g1, by rw [h0]; exact g2, fun e => ?_, fun e => ?_⟩
  · rw [h0] at e
    exact ⟨(g3 e).1, MA_k (fun o a b => h _ (by omega) (by omega)) (g3 e).2⟩
  · rw [h0] at e
    rw [h3]; exact g4 e
theorem dV_k {x : ST} {V U : ASt} (h0 : ∀ k, k = 0 ∨ k = 11 ∨ k = 12 → U 62 k = V 62 k) (h1 : U 63 = V 63) (h2 : U 64 = V 64) (h3 : V 50 0 = 1 → U 50 0 = 1) (g : dV x V) : dV x U := by
  unfold dV VA chR at *
  refine ⟨?_, fun e => ⟨?_, h3 (g.2.1 (by rw [← h0 0 (by omega)]; exact e)).2⟩, ?_⟩
  · rw [h0 0 (by omega)]; exact g.1
  · rw [h1, show (63 : Int) + 1 = 64 from rfl, h2]; exact (g.2.1 (by rw [← h0 0 (by omega)]; exact e)).1
  · rw [h0 11 (by omega), h0 12 (by omega)]; exact g.2.2
theorem dW_k {G : GM} {sb : SL} {t w : Int} {V U : ASt} (h : U w = V w) (h1 : U (w + 1) = V (w + 1)) (h2 : U (w + 1 + 1) = V (w + 1 + 1)) (h5 : U (w + 5) = V (w + 5)) (g : dW G sb t w V) : dW G sb t w U := by
  unfold dW dS at *; rw [h, h1, h2, h5]; exact g
theorem dWW_k {G : GM} {t w : Int} {V U : ASt} (h : U w = V w) (h1 : U (w + 1) = V (w + 1)) (h2 : U (w + 2) = V (w + 2)) (h5 : U (w + 5) = V (w + 5)) (g : dWW G t w V) : dWW G t w U := by
  rcases g with g | ⟨sb, g⟩
  · exact Or.inl (by rw [h]; exact g)
  · exact Or.inr ⟨sb, dW_k h h1 (by rw [show w + 1 + 1 = w + 2 by omega]; exact h2) h5 g⟩
theorem dH_k {x : ST} {V U : ASt} (h : U 47 = V 47) (h1 : U 48 = V 48) (h2 : U 49 = V 49) (g : dH x V) : dH x U := by unfold dH at *; rw [h, h1, h2]; exact g
theorem dSp_k {x : ST} {V U : ASt} (h : U 43 0 = V 43 0) (h1 : U 44 = V 44) (h2 : U 45 = V 45) (g : dSp x V) : dSp x U := ⟨by rw [h]; exact g.1, fun e => dS_fr h1 h2 (g.2 e)⟩
theorem dMa_k {x : ST} {V U : ASt} (h : U 109 = V 109) (g : dMa x V) : dMa x U := by unfold dMa at *; rw [h]; exact g
theorem dTp_k {x : ST} {V U : ASt} (h : U 1 0 = V 1 0) (h2 : U 2 = V 2) (g : dTp x V) : dTp x U := by unfold dTp at *; rw [h, h2]; exact g
theorem dIm_k {x : ST} {V U : ASt} (h : U 113 0 = V 113 0) (h2 : U 114 = V 114) (g : dIm x V) : dIm x U := by unfold dIm at *; rw [h, h2]; exact g
theorem dMi_k {x : ST} {V U : ASt} (h : U 35 = V 35) (h1 : U 108 = V 108) (h5 : U 37 = V 37) (h6 : U 6 = V 6) (h7 : U 22 = V 22) (h2 : U 111 = V 111) (h3 : U 112 = V 112) (h4 : U 115 = V 115) (g : dMi x V) : dMi x U := by unfold dMi at *; rw [h, h1, h5, h6, h7, h2, h3, h4]; exact g
/-- only the class's cells are changed -/
def frX (V U : ASt) : Prop := ∀ a, 142 ≤ a → U a = V a
theorem frX_tr {V U W : ASt} (h : frX V U) (h2 : frX U W) : frX V W := fun a ha => by rw [h2 a ha, h a ha]
