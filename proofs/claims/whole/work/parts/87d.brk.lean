/-! the machine follows the grammar: brackets -/
theorem OUT_cls {K : TKs} {ns : List (List Int)} {H : Int → Int} {N rr pl kb j c phx kq ph1 pq bq kd : Int} {tl : Int × Int} {R0 r : List FR} {os0 os : List Int} {cs0 csw e : CDs} {PH : Int → Int → Prop} (hg : gdS j ((kq, ph1, 0, pq, bq) :: R0) os0 cs0) (hH : H j = 1 → K.1 j = 1) (hc : c ≠ 1) (hjN : j ≤ N) (hpl : 0 ≤ pl) (hkb : nk K kb ≤ nk K (j + 1)) (hp : PH phx (j + 1))
    (hG : stG K j kq ph1 0 pq bq R0 os0 cs0 = if K.1 j = c then some (Sum.inl (j + 1, 1, (kd, phx, 0, tl) :: r, os, csw ++ e)) else some (Sum.inr (1, K.2.1 j, cs0))) :
    OUT K ns H N rr pl kb j (j, 1, (kq, ph1, 0, pq, bq) :: R0, os0, cs0) kd tl r os csw [] PH (if K.1 j = c then okR (j + 1) e else flR K 1 j) := by
  by_cases h : K.1 j = c
  · rw [if_pos h] at hG ⊢
    have hst : stp K ns H (j, 1, (kq, ph1, 0, pq, bq) :: R0, os0, cs0) = some (Sum.inl (j + 1, 1, (kd, phx, 0, tl) :: r, os, csw ++ e)) := by rw [st_G hg (fun z => by have := hH z; omega), hG]
    refine ⟨fun _ => ⟨1, e, [], phx, ?_, fun f => mR_l hst f, ?_, (fun q hq => by cases hq), ?_, hp⟩, fun z => absurd rfl z⟩
    · show ((1 : Nat) : Int) ≤ j + 1 - j
      omega
    · show e ++ [] = [] ++ e
      rw [List.append_nil, List.nil_append]
    · show (([] : List Int).length : Int) ≤ nk K (j + 1) - nk K kb + pl
      simp only [List.length_nil]
      omega
  · rw [if_neg h] at hG ⊢
    exact OUT_fl (by decide) hjN (st_fG hg hG)
theorem OUT_k {K : TKs} {ns : List (List Int)} {H : Int → Int} {N rr pl kb k k' : Int} {s : MS} {kd : Int} {tl : Int × Int} {r : List FR} {os : List Int} {cs pre : CDs} {PH : Int → Int → Prop} {R : R3}
    (h : OUT K ns H N rr pl kb k' s kd tl r os cs pre PH R) (hk : k ≤ k') : OUT K ns H N rr pl kb k s kd tl r os cs pre PH R :=
  ⟨fun a => by
    obtain ⟨j, x, p, ph, h1, h2, h3, h4, h5, h6⟩ := h.1 a
    exact ⟨j, x, p, ph, by omega, h2, h3, h4, h5, h6⟩, fun a => by
    obtain ⟨j, c, h1, h2⟩ := h.2 a
    exact ⟨j, c, by omega, h2⟩⟩
theorem lowO_1 {os : List Int} {l : Int} : lowO (os.length : Int) l os := lowO_b rfl
theorem jnO_1 {os : List Int} (p : List Int) (cs : CDs) : jnO (os.length : Int) 1 (p ++ os) cs = (os, cs ++ p.map zO) := jnO_all (Int.le_refl _) lowO_1 p cs (fun q _ => rkO_1 q)
theorem stG_cl {K : TKs} {k kq ph pq : Int} {r : List FR} {os p : List Int} {cs : CDs} (hkq : kq = 2 ∨ kq = 4) (hf : fS K k) (hr : (r.length : Int) ≠ 0) :
    stG K k kq ph 0 pq (os.length : Int) r (p ++ os) cs = if K.1 k = 41 then some (Sum.inl (k + 1, 1, r, os, (cs ++ p.map zO) ++ (if kq = 4 then [(pq, 0)] else []))) else some (Sum.inr (1, K.2.1 k, cs)) := by
  unfold fS at hf
  unfold stG
  rw [if_neg (fun z => by omega), if_neg (fun z => by omega), if_neg (fun z => by omega), if_neg (fun z => by omega), if_neg (by omega), if_neg (by omega), if_neg hr, jnO_1 p cs, show (if kq = 5 then (93 : Int) else 41) = 41 from if_neg (by omega), show clS kq r = r by unfold clS; rw [if_neg (by omega)]]
  by_cases c : kq = 4
  · rw [if_pos c, if_pos c]
  · rw [if_neg c, if_neg c, List.append_nil]
theorem stG_c5 {K : TKs} {k ph pq kd ph0 pr bs : Int} {r : List FR} {os p : List Int} {cs : CDs} (hf : okP K ph k) (h1 : K.1 k ≠ 272 ∧ K.1 k ≠ 271) :
    stG K k 5 ph 0 pq (os.length : Int) ((kd, ph0, 0, pr, bs) :: r) (p ++ os) cs = if K.1 k = 93 then some (Sum.inl (k + 1, 1, (kd, 2, 0, pr, bs) :: r, os, (cs ++ p.map zO) ++ [])) else some (Sum.inr (1, K.2.1 k, cs)) := by
  unfold okP fS at hf
  unfold stG
  rw [if_neg (fun z => by omega), if_neg (fun z => by omega), if_neg (fun z => by omega), if_neg (fun z => by omega), if_neg (by decide), if_neg (by decide), if_neg (by simp only [List.length_cons]; omega), jnO_1 p cs, List.append_nil]
  rfl
theorem stG_c3 {K : TKs} {k ph pq : Int} {r : List FR} {os p : List Int} {cs : CDs} (hf : fS K k) :
    stG K k 3 ph 0 pq (os.length : Int) r (p ++ os) cs = if K.1 k = 44 then some (Sum.inl (k + 1, 0, (4, ph, 0, pq, (os.length : Int)) :: r, os, cs ++ p.map zO)) else some (Sum.inr (1, K.2.1 k, cs)) := by
  unfold fS at hf
  unfold stG
  rw [if_neg (fun z => by omega), if_neg (fun z => by omega), if_neg (fun z => by omega), if_neg (fun z => by omega), if_neg (by decide), if_pos rfl, jnO_1 p cs]
theorem PRm_b {K : TKs} {N pl k j o bs rr rr' pl' : Int} {r : List FR} {F : FR} {os : List Int} (hP : PRm K N rr pl k k o bs r os) (ho : o ≠ 8) (hk : k ≤ j) (hj : j ≤ N) (h0 : 0 ≤ pl) (h5 : pl' ≤ 5) : PRm K N rr' pl' j j (o + 1) (os.length : Int) (F :: r) os := by
  obtain ⟨a, b, c, d, e, f, g⟩ := hP
  have := nk_m (K := K) hk
  exact ⟨by simp only [List.length_cons]; omega, by omega, ⟨by omega, by omega⟩, hj, lowO_1, Int.le_refl _, by omega⟩
def mP (K : TKs) (ns : List (List Int)) (H : Int → Int) (N : Int) (m nt : Nat) (wd : Int) : Prop := ∀ (k o kd ph bg pr bs : Int) (r : List FR) (os : List Int) (cs : CDs), PRm K N 7 0 k k o bs r os → (cs.length : Int) + (os.length : Int) + o ≤ k → K.1 k = wd → (ps K ns m nt (k + 1) o).1 ≠ 9 → OUT K ns H N 7 0 k k (k, 0, (kd, ph, bg, pr, bs) :: r, os, cs) kd (pr, bs) r os cs [] (fun p j => p = ph ∧ True) (ps K ns m nt (k + 1) o)
theorem ap_w {cs x w : CDs} {p : List Int} (hx : x ++ p.map zO = [] ++ w) : (cs ++ x) ++ p.map zO = cs ++ w := by rw [List.append_assoc, hx]; rfl
theorem mP_all {K : TKs} {ns : List (List Int)} {H : Int → Int} {N : Int} {m nt : Nat} {wd cc : Int} (hC : mCX K H N) (h6 : mA K ns H N m 6 5 2 (fS K)) (hw : wd = 277 ∧ cc = 15 ∨ wd = 278 ∧ cc = 16)
    (e : ∀ k o, ps K ns (m + 1) nt k o = if K.1 k = 40 then (if o = 8 then flR K 5 k else sqR (ps K ns m 6 (k + 1) (o + 1)) (fun k => if K.1 k = 44 then sqR (ps K ns m 6 (k + 1) (o + 1)) (fun k => if K.1 k = 41 then okR (k + 1) [(cc, 0)] else flR K 1 k) else flR K 1 k)) else flR K 1 k) : mP K ns H N (m + 1) nt wd := by
  intro k o kd ph bg pr bs r os cs hP hc hk h9
  have hg : gdS k ((kd, ph, bg, pr, bs) :: r) os cs := gd_s hC hP (by decide) hc
  have hkN : k < N := lt_of_t hC.1 hP.2.2.2.1 (by omega) (by omega)
  have hk0 := hP.2.2.1.1
  have ho : (r.length : Int) = o := hP.1
  have hO : stp K ns H (k, 0, (kd, ph, bg, pr, bs) :: r, os, cs) = if K.1 (k + 1) = 40 then opnS K (k + 1) 3 cc kd ph pr bs r os cs else some (Sum.inr (1, K.2.1 (k + 1), cs)) := by
    rw [st_O hg (fun z => by have := hC.2.1 k z; omega)]
    unfold stO
    rw [if_neg (fun z => by omega), if_neg (fun z => by omega), if_neg (fun z => by omega), if_neg (by omega), if_pos (by omega)]
    have hcc : (if K.1 k = 277 then (15 : Int) else 16) = cc := by
      by_cases z : K.1 k = 277
      · rw [if_pos z]; omega
      · rw [if_neg z]; omega
    rw [hcc]
  rw [e] at h9 ⊢
  by_cases c : K.1 (k + 1) = 40
  · rw [if_pos c] at hO h9 ⊢
    have hk1 : k + 1 < N := lt_of_t hC.1 (by omega) (by omega) (by omega)
    unfold opnS at hO
    by_cases d : o = 8
    · rw [if_pos (show (r.length : Int) = 8 by omega)] at hO
      rw [if_pos d]
      exact OUT_fl (by decide) (by omega) hO
    · rw [if_neg (show ¬ (r.length : Int) = 8 by omega)] at hO
      rw [if_neg d] at h9 ⊢
      obtain ⟨n1, n2⟩ := sqR_9 h9
      refine OUT_k (k' := k + 1) ?_ (by omega)
      have hsub := h6 (k + 1 + 1) (o + 1) 3 0 1 cc (os.length : Int) ((kd, ph, 0, pr, bs) :: r) os cs (PRm_b hP d (by omega) (by omega) (by decide) (by decide)) (by omega) (by decide) (fun z => by omega) n1
      refine OUT_f1 (fun f => mR_l hO f) hsub (fun a j ph1 x p hj hm hx hr hl hp => OUT_sqb a hj hm ?_)
      have hv := ps_adv (ns := ns) hC.1 m 6 (k + 1 + 1) (o + 1) (by omega) a
      rw [show lpN 6 = 1 from rfl] at hv
      generalize (ps K ns m 6 (k + 1 + 1) (o + 1)) = A at *
      obtain ⟨hp1, hp2⟩ := hp
      subst hp1
      have hln := ln_x hx
      have hPj : PRm K N 5 2 (k + 1 + 1) A.2.1 (o + 1) (os.length : Int) ((kd, 0, 0, pr, bs) :: r) os := PRm_k (PRm_b hP d (by omega) (by omega) (by decide) (by decide)) (by omega) hv.2.1
      have hPj' : PRm K N 5 2 (k + 1 + 1) A.2.1 (o + 1) (os.length : Int) ((kd, ph, 0, pr, bs) :: r) os := PRm_k (PRm_b hP d (by omega) (by omega) (by decide) (by decide)) (by omega) hv.2.1
      have hgj : gdS A.2.1 ((3, 0, 0, cc, (os.length : Int)) :: (kd, ph, 0, pr, bs) :: r) (p ++ os) (cs ++ x) := gd_l hC hPj' hl (by simp only [List.length_append]; omega)
      have h3 := stG_c3 (K := K) (k := A.2.1) (ph := 0) (pq := cc) (r := (kd, ph, 0, pr, bs) :: r) (os := os) (p := p) (cs := cs ++ x) hp2
      rw [ap_w hx] at h3
      have n2' := n2 a
      by_cases c4 : K.1 A.2.1 = 44
      · rw [if_pos c4] at n2' h3 ⊢
        have hjN : A.2.1 < N := lt_of_t hC.1 hv.2.1 (by omega) (by omega)
        obtain ⟨n3, -⟩ := sqR_9 n2'
        have hst2 : stp K ns H (A.2.1, 1, (3, 0, 0, cc, (os.length : Int)) :: (kd, ph, 0, pr, bs) :: r, p ++ os, cs ++ x) = some (Sum.inl (A.2.1 + 1, 0, (4, 0, 0, cc, (os.length : Int)) :: (kd, ph, 0, pr, bs) :: r, os, cs ++ A.2.2.1)) := by rw [st_G hgj (fun z => by have := hC.2.1 _ z; omega), h3]
        have hsub2 := h6 (A.2.1 + 1) (o + 1) 4 0 0 cc (os.length : Int) ((kd, ph, 0, pr, bs) :: r) os (cs ++ A.2.2.1) (PRm_b hP d (by omega) (by omega) (by decide) (by decide)) (by simp only [List.length_append]; omega) (by decide) (fun z => by omega) n3
        refine OUT_f1 (fun f => mR_l hst2 f) hsub2 (fun a2 j2 ph2 x2 p2 hj2 hm2 hx2 hr2 hl2 hp2' => OUT_sqb a2 hj2 hm2 ?_)
        have hv2 := ps_adv (ns := ns) hC.1 m 6 (A.2.1 + 1) (o + 1) (by omega) a2
        rw [show lpN 6 = 1 from rfl] at hv2
        generalize (ps K ns m 6 (A.2.1 + 1) (o + 1)) = B at *
        obtain ⟨hq1, hq2⟩ := hp2'
        subst hq1
        have hln2 := ln_x hx2
        have hPi : PRm K N 5 2 (A.2.1 + 1) B.2.1 (o + 1) (os.length : Int) ((kd, ph, 0, pr, bs) :: r) os := PRm_k (PRm_b hP d (by omega) (by omega) (by decide) (by decide)) (by omega) hv2.2.1
        have hgi : gdS B.2.1 ((4, 0, 0, cc, (os.length : Int)) :: (kd, ph, 0, pr, bs) :: r) (p2 ++ os) (cs ++ A.2.2.1 ++ x2) := gd_l hC hPi hl2 (by simp only [List.length_append]; omega)
        have h4 := stG_cl (K := K) (k := B.2.1) (kq := 4) (ph := 0) (pq := cc) (r := (kd, ph, 0, pr, bs) :: r) (os := os) (p := p2) (cs := cs ++ A.2.2.1 ++ x2) (Or.inr rfl) hq2 (by simp only [List.length_cons]; omega)
        rw [ap_w hx2, if_pos (show (4 : Int) = 4 from rfl)] at h4
        exact OUT_cls (phx := ph) hgi (hC.2.1 _) (by decide) hv2.2.1 (by decide) (nk_m (by omega)) ⟨rfl, trivial⟩ h4
      · rw [if_neg c4] at h3 ⊢
        exact OUT_fl (by decide) hv.2.1 (st_fG hgj h3)
  · rw [if_neg c] at hO ⊢
    exact OUT_fl (by decide) (by omega) hO
theorem mA_10 {K : TKs} {ns : List (List Int)} {H : Int → Int} {N : Int} {m : Nat} (hC : mCX K H N) (h6 : mA K ns H N m 6 5 2 (fS K)) (h12 : mP K ns H N m 12 277) (h13 : mP K ns H N m 13 278) : mA K ns H N (m + 1) 10 7 0 (fun _ => True) := by
  intro k o kd ph bg pr bs r os cs hP hc hph hbg h9
  have hg : gdS k ((kd, ph, bg, pr, bs) :: r) os cs := gd_s hC hP (by decide) hc
  have hkN := hP.2.2.2.1
  have hk0 := hP.2.2.1.1
  have ho : (r.length : Int) = o := hP.1
  have hO3 : stO K ns k kd ph bg pr bs r os cs = if K.1 k = 40 then opnS K k 2 0 kd ph pr bs r os cs
      else if K.1 k = 277 ∨ K.1 k = 278 then (if K.1 (k + 1) = 40 then opnS K (k + 1) 3 (if K.1 k = 277 then 15 else 16) kd ph pr bs r os cs else some (Sum.inr (1, K.2.1 (k + 1), cs)))
      else if K.1 k = 2 ∧ pixF (K.2.2.1 k) ns 0 = -1 then some (Sum.inr (3, K.2.1 k, cs))
      else if K.1 k = 3 ∨ K.1 k = 274 ∨ K.1 k = 275 ∨ K.1 k = 276 ∨ K.1 k = 2 then some (Sum.inl (k + 1, 1, (kd, ph, 0, pr, bs) :: r, os, cs ++ [leS K ns k]))
      else some (Sum.inr (1, K.2.1 k, cs)) := by
    unfold stO
    rw [if_neg (fun z => (hbg z.1 z.2.1).1 z.2.2), if_neg (fun z => (hbg z.1 z.2.1).2.1 z.2.2), if_neg (fun z => (hbg z.1 z.2.1).2.2 z.2.2)]
  have hst : K.1 k ≠ 1 → stp K ns H (k, 0, (kd, ph, bg, pr, bs) :: r, os, cs) = stO K ns k kd ph bg pr bs r os cs := fun h1 => st_O hg (fun z => h1 (hC.2.1 k z))
  have leaf : ∀ c : Int × Int, (K.1 k = 3 ∨ K.1 k = 274 ∨ K.1 k = 275 ∨ K.1 k = 276 ∨ K.1 k = 2) → ¬ (K.1 k = 2 ∧ pixF (K.2.2.1 k) ns 0 = -1) → leS K ns k = c → OUT K ns H N 7 0 k k (k, 0, (kd, ph, bg, pr, bs) :: r, os, cs) kd (pr, bs) r os cs [] (fun p _ => p = ph ∧ True) (okR (k + 1) [c]) := by
    intro c h1 h2 h3
    refine OUT_leaf (ph := ph) ?_ (by decide) ⟨rfl, trivial⟩
    rw [hst (by omega), hO3, if_neg (by omega), if_neg (by omega), if_neg h2, if_pos h1, h3]
  show OUT K ns H N 7 0 k k _ kd (pr, bs) r os cs [] _ (if K.1 k = 40 then _ else if K.1 k = 3 then _ else if K.1 k = 274 then _ else if K.1 k = 275 then _ else if K.1 k = 276 then _ else if K.1 k = 277 then _ else if K.1 k = 278 then _ else if K.1 k = 2 then _ else _)
  have h9' : (if K.1 k = 40 then (if o = 8 then flR K 5 k else sqR (ps K ns m 6 (k + 1) (o + 1)) (fun k => if K.1 k = 41 then okR (k + 1) [] else flR K 1 k))
      else if K.1 k = 3 then okR (k + 1) [(0, K.2.2.2 k)] else if K.1 k = 274 then okR (k + 1) [(1, 0)] else if K.1 k = 275 then okR (k + 1) [(2, 0)] else if K.1 k = 276 then okR (k + 1) [(3, 0)]
      else if K.1 k = 277 then ps K ns m 12 (k + 1) o else if K.1 k = 278 then ps K ns m 13 (k + 1) o
      else if K.1 k = 2 then (if pixF (K.2.2.1 k) ns 0 = -1 then flR K 3 k else okR (k + 1) [(4 + pixF (K.2.2.1 k) ns 0, 0)]) else flR K 1 k).1 ≠ 9 := h9
  clear h9
  by_cases c : K.1 k = 40
  · rw [if_pos c] at h9' ⊢
    have hs0 := hst (by omega)
    rw [hO3, if_pos c] at hs0
    unfold opnS at hs0
    by_cases d : o = 8
    · rw [if_pos (show (r.length : Int) = 8 by omega)] at hs0
      rw [if_pos d]
      exact OUT_fl (by decide) hkN hs0
    · rw [if_neg (show ¬ (r.length : Int) = 8 by omega)] at hs0
      rw [if_neg d] at h9' ⊢
      have hk1 : k < N := lt_of_t hC.1 hkN (by omega) (by omega)
      obtain ⟨n1, -⟩ := sqR_9 h9'
      have hsub := h6 (k + 1) (o + 1) 2 0 1 0 (os.length : Int) ((kd, ph, 0, pr, bs) :: r) os cs (PRm_b hP d (by omega) (by omega) (by decide) (by decide)) (by omega) (by decide) (fun z => by omega) n1
      refine OUT_f1 (fun f => mR_l hs0 f) hsub (fun a j ph1 x p hj hm hx hr hl hp => OUT_sqb a hj hm ?_)
      have hv := ps_adv (ns := ns) hC.1 m 6 (k + 1) (o + 1) (by omega) a
      rw [show lpN 6 = 1 from rfl] at hv
      generalize (ps K ns m 6 (k + 1) (o + 1)) = A at *
      obtain ⟨hp1, hp2⟩ := hp
      subst hp1
      have hln := ln_x hx
      have hPj : PRm K N 5 2 (k + 1) A.2.1 (o + 1) (os.length : Int) ((kd, ph, 0, pr, bs) :: r) os := PRm_k (PRm_b hP d (by omega) (by omega) (by decide) (by decide)) (by omega) hv.2.1
      have hgj : gdS A.2.1 ((2, 0, 0, 0, (os.length : Int)) :: (kd, ph, 0, pr, bs) :: r) (p ++ os) (cs ++ x) := gd_l hC hPj hl (by simp only [List.length_append]; omega)
      have h4 := stG_cl (K := K) (k := A.2.1) (kq := 2) (ph := 0) (pq := 0) (r := (kd, ph, 0, pr, bs) :: r) (os := os) (p := p) (cs := cs ++ x) (Or.inl rfl) hp2 (by simp only [List.length_cons]; omega)
      rw [ap_w hx, if_neg (show ¬ (2 : Int) = 4 by decide)] at h4
      exact OUT_cls (phx := ph) hgj (hC.2.1 _) (by decide) hv.2.1 (by decide) (nk_m (by omega)) ⟨rfl, trivial⟩ h4
  rw [if_neg c] at h9' ⊢
  by_cases c1 : K.1 k = 3
  · rw [if_pos c1]; exact leaf _ (by omega) (fun z => by omega) (by unfold leS; rw [if_pos c1])
  rw [if_neg c1] at h9' ⊢
  by_cases c2 : K.1 k = 274
  · rw [if_pos c2]; exact leaf _ (by omega) (fun z => by omega) (by unfold leS; rw [if_neg c1, if_pos c2])
  rw [if_neg c2] at h9' ⊢
  by_cases c3 : K.1 k = 275
  · rw [if_pos c3]; exact leaf _ (by omega) (fun z => by omega) (by unfold leS; rw [if_neg c1, if_neg c2, if_pos c3])
  rw [if_neg c3] at h9' ⊢
  by_cases c4 : K.1 k = 276
  · rw [if_pos c4]; exact leaf _ (by omega) (fun z => by omega) (by unfold leS; rw [if_neg c1, if_neg c2, if_neg c3, if_pos c4])
  rw [if_neg c4] at h9' ⊢
  by_cases c5 : K.1 k = 277
  · rw [if_pos c5] at h9' ⊢; exact h12 k o kd ph bg pr bs r os cs hP hc c5 h9'
  rw [if_neg c5] at h9' ⊢
  by_cases c6 : K.1 k = 278
  · rw [if_pos c6] at h9' ⊢; exact h13 k o kd ph bg pr bs r os cs hP hc c6 h9'
  rw [if_neg c6] at h9' ⊢
  by_cases c7 : K.1 k = 2
  · rw [if_pos c7] at h9' ⊢
    by_cases d : pixF (K.2.2.1 k) ns 0 = -1
    · rw [if_pos d]
      refine OUT_fl (c := cs) (by decide) hkN ?_
      rw [hst (by omega), hO3, if_neg c, if_neg (by omega), if_pos ⟨c7, d⟩]
    · rw [if_neg d]; exact leaf _ (by omega) (fun z => d z.2) (by unfold leS; rw [if_neg c1, if_neg c2, if_neg c3, if_neg c4])
  · rw [if_neg c7]
    refine OUT_fl (c := cs) (by decide) hkN (st_fO hg ?_)
    rw [hO3, if_neg c, if_neg (by omega), if_neg (fun z => c7 z.1), if_neg (by omega)]
