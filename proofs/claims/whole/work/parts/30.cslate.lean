/-! the class's slates -/
def pk (s : SL) (p : Int) : Int := 16 * sA s p + 4 * sN s (sA s p) + 2 * sT s (sA s p) + sX s (sA s p)
def SNM (G : GM) (s : SL) : Prop := ∀ i, (i < 0 ∨ qR G ≤ i) → sA s i = 0 ∧ sX s i = 0 ∧ sT s i = 0 ∧ sN s i = 0
/-- the slate at a holds s -/
def dS (G : GM) (s : SL) (a : Int) (V : ASt) : Prop := V a 0 = qR G ∧ ∀ p, 0 ≤ p → p < qR G → V (a + 1) p = pk s p
theorem dS_fr {G : GM} {s : SL} {a : Int} {V W : ASt} (h : W a = V a) (h2 : W (a + 1) = V (a + 1)) (g : dS G s a V) : dS G s a W := by
  unfold dS at *
  rw [h, h2]; exact g
theorem sN_r {G : GM} {s : SL} (hs : SOK G s) {r : Int} (h0 : 0 ≤ r) (hr : r < qR G) : 0 ≤ sN s r ∧ sN s r ≤ 3 := by
  have n := hs.2.2 r h0 hr
  by_cases hh : hasN G r
  · have := n.2.2.1 hh; omega
  · have := n.2.2.2 hh; omega
theorem pk_f {G : GM} {s : SL} (hG : GOK G) (hs : SOK G s) {p : Int} (h0 : 0 ≤ p) (hp : p < qR G) :
    (0 ≤ pk s p ∧ pk s p < 192) ∧ pk s p / 16 = sA s p ∧ pk s p / 4 % 4 = sN s (sA s p) ∧ pk s p / 2 % 2 = sT s (sA s p) ∧ pk s p % 2 = sX s (sA s p) ∧ pk s p % 4 = 2 * sT s (sA s p) + sX s (sA s p) := by
  have ra := hs.1 p h0 hp
  have n := hs.2.2 (sA s p) ra.1 ra.2
  have m := sN_r hs ra.1 ra.2
  have hR := hG.2.2.1
  unfold pk
  omega
theorem SL_ext {G : GM} {s s' : SL} (hG : GOK G) (hs : SOK G s) (hs' : SOK G s') (hn : SNM G s) (hn' : SNM G s') (h : ∀ p, 0 ≤ p → p < qR G → pk s p = pk s' p) : s = s' := by
  have hA : ∀ p, 0 ≤ p → p < qR G → sA s p = sA s' p := fun p a b => by
    have := (pk_f hG hs a b).2.1
    have := (pk_f hG hs' a b).2.1
    rw [h p a b] at *
    omega
  have hsur : ∀ r, 0 ≤ r → r < qR G → ∃ p, 0 ≤ p ∧ p < qR G ∧ sA s p = r := by
    intro r a b
    refine Classical.byContradiction fun hno => ?_
    have := pigeonX (m := qR G) (n := qR G) (p := r) (f := sA s) (by omega) ⟨a, b⟩ (fun i x y => hs.1 i x y) (fun i j x y x' y' => hs.2.1 i j x y x' y') (fun i x y e => hno ⟨i, x, y, e⟩)
    omega
  have hX : ∀ r, 0 ≤ r → r < qR G → sX s r = sX s' r ∧ sT s r = sT s' r ∧ sN s r = sN s' r := by
    intro r a b
    obtain ⟨p, p0, p1, p2⟩ := hsur r a b
    have q := pk_f hG hs p0 p1
    have q' := pk_f hG hs' p0 p1
    rw [h p p0 p1] at q
    rw [← hA p p0 p1, p2] at q'
    rw [p2] at q
    omega
  obtain ⟨a1, a2, a3, a4⟩ := s
  obtain ⟨b1, b2, b3, b4⟩ := s'
  have e1 : a1 = b1 := funext fun i => by
    by_cases c : 0 ≤ i ∧ i < qR G
    · exact hA i c.1 c.2
    · have x := (hn i (by omega)).1
      have y := (hn' i (by omega)).1
      exact x.trans y.symm
  have e2 : a2 = b2 := funext fun i => by
    by_cases c : 0 ≤ i ∧ i < qR G
    · exact (hX i c.1 c.2).1
    · have x := (hn i (by omega)).2.1
      have y := (hn' i (by omega)).2.1
      exact x.trans y.symm
  have e3 : a3 = b3 := funext fun i => by
    by_cases c : 0 ≤ i ∧ i < qR G
    · exact (hX i c.1 c.2).2.1
    · have x := (hn i (by omega)).2.2.1
      have y := (hn' i (by omega)).2.2.1
      exact x.trans y.symm
  have e4 : a4 = b4 := funext fun i => by
    by_cases c : 0 ≤ i ∧ i < qR G
    · exact (hX i c.1 c.2).2.2
    · have x := (hn i (by omega)).2.2.2
      have y := (hn' i (by omega)).2.2.2
      exact x.trans y.symm
  rw [e1, e2, e3, e4]
theorem S_isPlace {a : Int} (ha : isSl a) (V : ASt) (p : Int) (h : V a 0 ≤ 12) : f_Slate_isPlace S0 V a p = some (if 0 ≤ p ∧ p < V a 0 then 1 else 0, V) := by
  unfold f_Slate_isPlace
  rw [gd_t (OS ha)]
  by_cases h1 : p < 0
  · rw [if_pos h1, if_neg (by omega)]
  · rw [if_neg h1]
    by_cases h2 : V a 0 ≤ p
    · rw [if_pos h2, if_neg (by omega)]
    · rw [if_neg h2, if_neg (by omega), if_pos (by omega)]
theorem S_packedAt {G : GM} {s : SL} {a : Int} {V : ASt} (hG : GOK G) (ha : isSl a) (h : dS G s a V) (p : Int) : f_Slate_packedAt S0 V a p = some (if 0 ≤ p ∧ p < qR G then pk s p else 0, V) := by
  have hR := hG.2.2.1
  unfold f_Slate_packedAt
  rw [gd_t (OS ha), S_isPlace ha V p (by rw [h.1]; omega), bnd_e, h.1]
  by_cases c : 0 ≤ p ∧ p < qR G
  · rw [if_pos c, if_neg (by decide), FS_1 ha, AS1 ha, gd_in (by omega) (by omega), h.2 p c.1 c.2, if_pos c]
  · rw [if_neg c, if_pos rfl, if_neg c]
theorem S_ruleAt {G : GM} {s : SL} {a : Int} {V : ASt} (hG : GOK G) (hs : SOK G s) (ha : isSl a) (h : dS G s a V) {p : Int} (h0 : 0 ≤ p) (hp : p < qR G) : f_Slate_ruleAt S0 V a p = some (sA s p, V) := by
  have q := pk_f hG hs h0 hp
  unfold f_Slate_ruleAt
  rw [gd_t (OS ha), S_packedAt hG ha h, bnd_e, if_pos ⟨h0, hp⟩, show (4 : Int) = ((4 : Nat) : Int) from rfl, shr32_e _ ⟨by omega, by omega⟩ 4 (by decide), show ((2 : Int) ^ 4) = 16 from rfl, q.2.1]
theorem S_stepAt {G : GM} {s : SL} {a : Int} {V : ASt} (hG : GOK G) (hs : SOK G s) (ha : isSl a) (h : dS G s a V) {p : Int} (h0 : 0 ≤ p) (hp : p < qR G) : f_Slate_stepAt S0 V a p = some (sN s (sA s p), V) := by
  have q := pk_f hG hs h0 hp
  unfold f_Slate_stepAt
  rw [gd_t (OS ha), S_packedAt hG ha h, bnd_e, if_pos ⟨h0, hp⟩, show shr32 (pk s p) 2 = shr32 (pk s p) ((2 : Nat) : Int) from rfl, shr32_e _ ⟨by omega, by omega⟩ 2 (by decide), show ((2 : Int) ^ 2) = 4 from rfl, and32_3, q.2.2.1]
theorem S_flagsAt {G : GM} {s : SL} {a : Int} {V : ASt} (hG : GOK G) (hs : SOK G s) (ha : isSl a) (h : dS G s a V) {p : Int} (h0 : 0 ≤ p) (hp : p < qR G) : f_Slate_flagsAt S0 V a p = some (2 * sT s (sA s p) + sX s (sA s p), V) := by
  have q := pk_f hG hs h0 hp
  unfold f_Slate_flagsAt
  rw [gd_t (OS ha), S_packedAt hG ha h, bnd_e, if_pos ⟨h0, hp⟩, and32_3, q.2.2.2.2.2]
theorem S_isStruck {G : GM} {s : SL} {a : Int} {V : ASt} (hG : GOK G) (hs : SOK G s) (ha : isSl a) (h : dS G s a V) {p : Int} (h0 : 0 ≤ p) (hp : p < qR G) : f_Slate_isStruck S0 V a p = some (sX s (sA s p), V) := by
  have q := pk_f hG hs h0 hp
  have ra := hs.1 p h0 hp
  have n := (hs.2.2 (sA s p) ra.1 ra.2).1
  unfold f_Slate_isStruck
  rw [gd_t (OS ha), S_packedAt hG ha h, bnd_e, if_pos (show 0 ≤ p ∧ p < qR G from ⟨h0, hp⟩), and32_1, q.2.2.2.2.1]
  rcases n with n | n <;> rw [n] <;> rfl
theorem and2_t : ∀ n : Nat, n < 256 → and32 n 2 = if n / 2 % 2 = 0 then 0 else 2 := by decide +kernel
theorem and2_e {x : Int} (h : 0 ≤ x) (h2 : x < 256) : and32 x 2 = if x / 2 % 2 = 0 then 0 else 2 := by
  have := and2_t x.toNat (by omega)
  rw [cast_t h] at this
  rw [this]
  by_cases c : x / 2 % 2 = 0
  · rw [if_pos (by omega), if_pos c]
  · rw [if_neg (by omega), if_neg c]
theorem S_kindAt {G : GM} {s : SL} {a t : Int} {V : ASt} (hG : GOK G) (hs : SOK G s) (ha : isSl a) (h : dS G s a V) (ht : isGm t) (hg : dG G t V) {p : Int} (h0 : 0 ≤ p) (hp : p < qR G) : f_Slate_kindAt S0 V a p t = some (kNow G s (sA s p), V) := by
  have q := pk_f hG hs h0 hp
  have ra := hs.1 p h0 hp
  have n := (hs.2.2 (sA s p) ra.1 ra.2)
  have kk := hG.2.2.2.2.2.2.1 (sA s p) ra.1 ra.2
  unfold f_Slate_kindAt
  rw [gd_t (OS ha), S_packedAt hG ha h, bnd_e, if_pos ⟨h0, hp⟩, gd_t (OG ht), show shr32 (pk s p) 4 = shr32 (pk s p) ((4 : Nat) : Int) from rfl, shr32_e _ ⟨by omega, by omega⟩ 4 (by decide), show ((2 : Int) ^ 4) = 16 from rfl, q.2.1, G_kindOf hG ht hg ra.1 ra.2, bnd_e, and2_e (by omega) (by omega), q.2.2.2.1]
  unfold kNow
  by_cases c : sT s (sA s p) = 0
  · rw [if_pos c, if_pos c, if_pos rfl]
  · rw [if_neg c, if_neg c, if_neg (by decide), xor1_e (by omega) (by omega)]
    refine congrArg (fun x => some (x, V)) ?_
    have : qK G (sA s p) = 0 ∨ qK G (sA s p) = 1 ∨ qK G (sA s p) = 2 ∨ qK G (sA s p) = 3 := by omega
    rcases this with e | e | e | e <;> rw [e] <;> rfl
theorem S_codeCount {G : GM} {s : SL} {a : Int} {V : ASt} (hG : GOK G) (ha : isSl a) (h : dS G s a V) : f_Slate_codeCount S0 V a = some (6 * qR G, V) := by
  have hR := hG.2.2.1
  unfold f_Slate_codeCount
  rw [gd_t (OS ha), h.1, w32_id (by omega) (by omega), Int.mul_comm]
-- ---- changes
def chg (G : GM) (s : SL) (c : Int) : Int :=
  if 0 ≤ c ∧ c < 6 * qR G then (if qE G (sA s (c / 6)) = 1 then 0 else if c % 6 < 2 then 1 else if c % 6 < 5 then (if qK G (sA s (c / 6)) < 2 ∧ qW G (sA s (c / 6)) ≠ 2 ∧ sN s (sA s (c / 6)) ≠ c % 6 - 1 then 1 else 0) else (if c / 6 + 1 < qR G ∧ qE G (sA s (c / 6 + 1)) = 0 then 1 else 0)) else 0
def app (s : SL) (c : Int) : SL :=
  if c % 6 = 0 then (s.1, upI s.2.1 (sA s (c / 6)) (1 - sX s (sA s (c / 6))), s.2.2.1, s.2.2.2)
  else if c % 6 = 1 then (s.1, s.2.1, upI s.2.2.1 (sA s (c / 6)) (1 - sT s (sA s (c / 6))), s.2.2.2)
  else if c % 6 = 5 then (upI (upI s.1 (c / 6) (sA s (c / 6 + 1))) (c / 6 + 1) (sA s (c / 6)), s.2.1, s.2.2.1, s.2.2.2)
  else (s.1, s.2.1, s.2.2.1, upI s.2.2.2 (sA s (c / 6)) (c % 6 - 1))
theorem S_allows {G : GM} {s : SL} {a t : Int} {V : ASt} (hG : GOK G) (hs : SOK G s) (ha : isSl a) (h : dS G s a V) (ht : isGm t) (hg : dG G t V) (c : Int) : f_Slate_allows S0 V a t c = some (chg G s c, V) := by
  have hR := hG.2.2.1
  unfold f_Slate_allows chg
  rw [gd_t (OS ha)]
  by_cases c0 : c < 0
  · rw [if_pos c0, if_neg (by omega)]
  rw [if_neg c0, S_codeCount hG ha h, bnd_e]
  by_cases c1 : c < 6 * qR G
  · rw [if_pos c1, if_pos ⟨by omega, c1⟩, tdiv_e (by omega), tmod_e (by omega), w32_id (x := c / 6) (by omega) (by omega), S_ruleAt hG hs ha h (by omega) (by omega), bnd_e, gd_t (OG ht)]
    have ra := hs.1 (c / 6) (by omega) (by omega)
    have kk := hG.2.2.2.2.2.2.1 (sA s (c / 6)) ra.1 ra.2
    have nn := hs.2.2 (sA s (c / 6)) ra.1 ra.2
    rw [G_isEver hG ht hg ra.1 ra.2, bnd_e, w32_id (x := c / 6 + 1) (by omega) (by omega), w32_id (x := c % 6 - 1) (by omega) (by omega)]
    by_cases e0 : qE G (sA s (c / 6)) = 0
    · rw [if_pos e0, if_neg (show ¬ (qE G (sA s (c / 6)) = 1) by omega)]
      by_cases d5 : c % 6 = 5
      · rw [if_pos d5, h.1, if_neg (show ¬ (c % 6 < 2) by omega), if_neg (show ¬ (c % 6 < 5) by omega)]
        by_cases d6 : qR G ≤ c / 6 + 1
        · rw [if_pos d6, if_neg (by omega)]
        · rw [if_neg d6, S_ruleAt hG hs ha h (by omega) (by omega), bnd_e]
          have rb := hs.1 (c / 6 + 1) (by omega) (by omega)
          have kb := hG.2.2.2.2.2.2.1 (sA s (c / 6 + 1)) rb.1 rb.2
          rw [G_isEver hG ht hg rb.1 rb.2, bnd_e]
          by_cases e1 : qE G (sA s (c / 6 + 1)) = 0
          · rw [if_pos e1, if_pos ⟨by omega, e1⟩]
          · rw [if_neg e1, if_neg (fun z => e1 z.2)]
      · rw [if_neg d5, S_stepAt hG hs ha h (by omega) (by omega), bnd_e]
        by_cases d0 : c % 6 = 0
        · rw [if_pos d0, if_pos (by omega)]
        · rw [if_neg d0]
          by_cases d1 : c % 6 = 1
          · rw [if_pos d1, if_pos (by omega)]
          · rw [if_neg d1, if_neg (show ¬ (c % 6 < 2) by omega), if_pos (show c % 6 < 5 by omega)]
            by_cases hN : hasN G (sA s (c / 6))
            · have n1 := nn.2.2.1 hN
              rw [if_neg (show ¬ (sN s (sA s (c / 6)) = 0) by omega)]
              by_cases d2 : sN s (sA s (c / 6)) = c % 6 - 1
              · rw [if_pos d2, if_neg (fun z => z.2.2 d2)]
              · rw [if_neg d2, if_pos ⟨hN.1, hN.2, d2⟩]
            · have n1 := nn.2.2.2 hN
              rw [if_pos n1, if_neg (fun z => hN ⟨z.1, z.2.1⟩)]
    · rw [if_neg e0, if_pos (by omega)]
  · rw [if_neg c1, if_neg (by omega)]
theorem app_ok {G : GM} {s : SL} (hG : GOK G) (hs : SOK G s) {c : Int} (hc : chg G s c = 1) : SOK G (app s c) := by
  have hR := hG.2.2.1
  unfold chg at hc
  by_cases c1 : 0 ≤ c ∧ c < 6 * qR G
  · rw [if_pos c1] at hc
    obtain ⟨s1, s2, s3⟩ := hs
    have ra := s1 (c / 6) (by omega) (by omega)
    have nn := s3 (sA s (c / 6)) ra.1 ra.2
    unfold app
    by_cases d0 : c % 6 = 0
    · rw [if_pos d0]
      refine ⟨s1, s2, fun r r0 r1 => ?_⟩
      have n := s3 r r0 r1
      by_cases e : r = sA s (c / 6)
      · refine ⟨?_, n.2⟩
        show upI s.2.1 _ _ r = 0 ∨ upI s.2.1 _ _ r = 1
        rw [e, upI_s]; omega
      · refine ⟨?_, n.2⟩
        show upI s.2.1 _ _ r = 0 ∨ upI s.2.1 _ _ r = 1
        rw [upI_n _ _ e]; exact n.1
    · rw [if_neg d0]
      by_cases d1 : c % 6 = 1
      · rw [if_pos d1]
        refine ⟨s1, s2, fun r r0 r1 => ?_⟩
        have n := s3 r r0 r1
        by_cases e : r = sA s (c / 6)
        · refine ⟨n.1, ?_, n.2.2⟩
          show upI s.2.2.1 _ _ r = 0 ∨ upI s.2.2.1 _ _ r = 1
          rw [e, upI_s]; omega
        · refine ⟨n.1, ?_, n.2.2⟩
          show upI s.2.2.1 _ _ r = 0 ∨ upI s.2.2.1 _ _ r = 1
          rw [upI_n _ _ e]; exact n.2.1
      · rw [if_neg d1]
        by_cases e1 : qE G (sA s (c / 6)) = 1
        · rw [if_pos e1] at hc; omega
        rw [if_neg e1, if_neg (by omega)] at hc
        by_cases d5 : c % 6 = 5
        · rw [if_pos d5]
          rw [if_neg (by omega)] at hc
          have hc' : c / 6 + 1 < qR G ∧ qE G (sA s (c / 6 + 1)) = 0 := Classical.byContradiction fun z => by rw [if_neg z] at hc; omega
          have rb := s1 (c / 6 + 1) (by omega) (by omega)
          have hv : ∀ p, sA (upI (upI s.1 (c / 6) (sA s (c / 6 + 1))) (c / 6 + 1) (sA s (c / 6)), s.2.1, s.2.2.1, s.2.2.2) p = if p = c / 6 + 1 then sA s (c / 6) else if p = c / 6 then sA s (c / 6 + 1) else sA s p := fun p => rfl
          refine ⟨fun p p0 p1 => ?_, fun p q p0 p1 q0 q1 e => ?_, s3⟩
          · rw [hv]
            by_cases x : p = c / 6 + 1
            · rw [if_pos x]; exact ra
            · rw [if_neg x]
              by_cases y : p = c / 6
              · rw [if_pos y]; exact rb
              · rw [if_neg y]; exact s1 p p0 p1
          · rw [hv, hv] at e
            have i1 := fun x y a b a' b' => s2 x y a b a' b'
            by_cases x : p = c / 6 + 1
            · rw [if_pos x] at e
              by_cases x' : q = c / 6 + 1
              · omega
              · rw [if_neg x'] at e
                by_cases y' : q = c / 6
                · rw [if_pos y'] at e
                  have := s2 _ _ (by omega) (by omega) (by omega) (by omega) e
                  omega
                · rw [if_neg y'] at e
                  have := s2 _ _ (by omega) (by omega) q0 q1 e
                  omega
            · rw [if_neg x] at e
              by_cases y : p = c / 6
              · rw [if_pos y] at e
                by_cases x' : q = c / 6 + 1
                · rw [if_pos x'] at e
                  have := s2 _ _ (by omega) (by omega) (by omega) (by omega) e
                  omega
                · rw [if_neg x'] at e
                  by_cases y' : q = c / 6
                  · omega
                  · rw [if_neg y'] at e
                    have := s2 _ _ (by omega) (by omega) q0 q1 e
                    omega
              · rw [if_neg y] at e
                by_cases x' : q = c / 6 + 1
                · rw [if_pos x'] at e
                  have := s2 _ _ p0 p1 (by omega) (by omega) e
                  omega
                · rw [if_neg x'] at e
                  by_cases y' : q = c / 6
                  · rw [if_pos y'] at e
                    have := s2 _ _ p0 p1 (by omega) (by omega) e
                    omega
                  · rw [if_neg y'] at e
                    exact s2 _ _ p0 p1 q0 q1 e
        · rw [if_neg d5]
          rw [if_pos (by omega)] at hc
          have hc' : qK G (sA s (c / 6)) < 2 ∧ qW G (sA s (c / 6)) ≠ 2 ∧ sN s (sA s (c / 6)) ≠ c % 6 - 1 := Classical.byContradiction fun z => by rw [if_neg z] at hc; omega
          refine ⟨s1, s2, fun r r0 r1 => ?_⟩
          have n := s3 r r0 r1
          refine ⟨n.1, n.2.1, ?_⟩
          show (hasN G r → 1 ≤ upI s.2.2.2 _ _ r ∧ upI s.2.2.2 _ _ r ≤ 3) ∧ (¬ hasN G r → upI s.2.2.2 _ _ r = 0)
          by_cases e : r = sA s (c / 6)
          · rw [e, upI_s]
            exact ⟨fun _ => by omega, fun z => absurd ⟨hc'.1, hc'.2.1⟩ z⟩
          · rw [upI_n _ _ e]; exact n.2.2
  · rw [if_neg c1] at hc; omega
