/-! the reference's way of reading tests, as a machine on lists -/
abbrev FR : Type := Int × Int × Int × Int × Int
abbrev MS : Type := Int × Int × List FR × List Int × CDs
abbrev RS : Type := Int × Int × CDs
def rkO (op : Int) : Int := if op = 21 then 1 else if op = 20 then 2 else if op = 22 then 3 else if op = 17 then 4 else if op = 18 then 4 else if op = 19 then 4 else if op = 10 then 5 else if op = 11 then 5 else 6
def zO (op : Int) : Int × Int := (op, 0)
def jnO (bs least : Int) : List Int → CDs → List Int × CDs
  | [], cs => ([], cs)
  | op :: r, cs => if bs < ((op :: r).length : Int) ∧ least ≤ rkO op then jnO bs least r (cs ++ [(op, 0)]) else (op :: r, cs)
def lowO (bs l : Int) (os : List Int) : Prop := ∀ h t, os = h :: t → bs < (os.length : Int) → rkO h < l
theorem rkO_1 (q : Int) : 1 ≤ rkO q := by
  unfold rkO
  repeat' split
  all_goals omega
theorem rkO_6 (q : Int) : rkO q ≤ 6 := by
  unfold rkO
  repeat' split
  all_goals omega
theorem lowO_m {bs l l' : Int} {os : List Int} (h : lowO bs l os) (hl : l ≤ l') : lowO bs l' os := fun a t e b => by have := h a t e b; omega
theorem lowO_b {bs l : Int} {os : List Int} (h : bs = (os.length : Int)) : lowO bs l os := fun a t e b => by omega
theorem lowO_c {bs l q : Int} {os : List Int} (h : rkO q < l) : lowO bs l (q :: os) := fun a t e _ => by
  have : q = a := (List.cons.inj e).1
  rw [← this]; exact h
theorem jnO_all {bs l : Int} {os : List Int} (hb : bs ≤ (os.length : Int)) (hl : lowO bs l os) : ∀ (p : List Int) (cs : CDs), (∀ q, q ∈ p → l ≤ rkO q) → jnO bs l (p ++ os) cs = (os, cs ++ p.map zO) := by
  intro p
  induction p with
  | nil =>
    intro cs _
    rw [List.nil_append, List.map_nil, List.append_nil]
    cases os with
    | nil => rfl
    | cons h t =>
      rw [jnO, if_neg (fun c => by have := hl h t rfl c.1; omega)]
  | cons q p ih =>
    intro cs hp
    rw [List.cons_append, jnO, if_pos ⟨by simp only [List.length_cons, List.length_append]; omega, hp q (List.mem_cons_self ..)⟩, ih _ (fun x hx => hp x (List.mem_cons_of_mem _ hx)), List.map_cons, List.append_assoc]
    rfl
abbrev gdS (k : Int) (fs : List FR) (os : List Int) (cs : CDs) : Prop := (os.length : Int) < 500 ∧ (cs.length : Int) + (os.length : Int) + (fs.length : Int) ≤ k + 1 ∧ (fs.length : Int) ≤ 9
def opnS (K : TKs) (p kq pq kd ph pr bs : Int) (r : List FR) (os : List Int) (cs : CDs) : Option (MS ⊕ RS) := if (r.length : Int) = 8 then some (Sum.inr (5, K.2.1 p, cs)) else some (Sum.inl (p + 1, 0, (kq, 0, 1, pq, (os.length : Int)) :: (kd, ph, 0, pr, bs) :: r, os, cs))
def leS (K : TKs) (ns : List (List Int)) (k : Int) : Int × Int := if K.1 k = 3 then (0, K.2.2.2 k) else if K.1 k = 274 then (1, 0) else if K.1 k = 275 then (2, 0) else if K.1 k = 276 then (3, 0) else (4 + pixF (K.2.2.1 k) ns 0, 0)
def stO (K : TKs) (ns : List (List Int)) (k kd ph bg pr bs : Int) (r : List FR) (os : List Int) (cs : CDs) : Option (MS ⊕ RS) :=
  if (kd = 1 ∨ kd = 5) ∧ bg = 1 ∧ K.1 k = 266 then some (Sum.inl (k + 1, 0, (kd, ph, bg, pr, bs) :: r, 22 :: os, cs))
  else if (kd = 1 ∨ kd = 5) ∧ bg = 1 ∧ K.1 k = 91 then opnS K k 5 0 kd ph pr bs r os cs
  else if (kd = 1 ∨ kd = 5) ∧ bg = 1 ∧ K.1 k = 273 then some (Sum.inl (k + 1, 1, (kd, 2, 0, pr, bs) :: r, os, cs ++ [(9, 0)]))
  else if K.1 k = 40 then opnS K k 2 0 kd ph pr bs r os cs
  else if K.1 k = 277 ∨ K.1 k = 278 then (if K.1 (k + 1) = 40 then opnS K (k + 1) 3 (if K.1 k = 277 then 15 else 16) kd ph pr bs r os cs else some (Sum.inr (1, K.2.1 (k + 1), cs)))
  else if K.1 k = 2 ∧ pixF (K.2.2.1 k) ns 0 = -1 then some (Sum.inr (3, K.2.1 k, cs))
  else if K.1 k = 3 ∨ K.1 k = 274 ∨ K.1 k = 275 ∨ K.1 k = 276 ∨ K.1 k = 2 then some (Sum.inl (k + 1, 1, (kd, ph, 0, pr, bs) :: r, os, cs ++ [leS K ns k]))
  else some (Sum.inr (1, K.2.1 k, cs))
def arO (t : Int) : Int := if t = 43 then 10 else if t = 45 then 11 else if t = 42 then 12 else if t = 47 then 13 else 14
def cmO (t : Int) : Int := if t = 60 then 17 else if t = 62 then 18 else 19
def clS (kd : Int) (r : List FR) : List FR := if kd = 5 then (match r with | [] => [] | G :: t => (G.1, 2, G.2.2) :: t) else r
def stG (K : TKs) (k kd ph bg pr bs : Int) (r : List FR) (os : List Int) (cs : CDs) : Option (MS ⊕ RS) :=
  if ph < 2 ∧ (K.1 k = 43 ∨ K.1 k = 45 ∨ K.1 k = 42 ∨ K.1 k = 47 ∨ K.1 k = 37) then some (Sum.inl (k + 1, 0, (kd, ph, bg, pr, bs) :: r, arO (K.1 k) :: (jnO bs (if K.1 k = 43 ∨ K.1 k = 45 then 5 else 6) os cs).1, (jnO bs (if K.1 k = 43 ∨ K.1 k = 45 then 5 else 6) os cs).2))
  else if (kd = 1 ∨ kd = 5) ∧ ph = 0 ∧ (K.1 k = 60 ∨ K.1 k = 62 ∨ K.1 k = 61) then some (Sum.inl (k + 1, 0, (kd, 1, bg, pr, bs) :: r, cmO (K.1 k) :: (jnO bs 5 os cs).1, (jnO bs 5 os cs).2))
  else if (kd = 1 ∨ kd = 5) ∧ (K.1 k = 272 ∨ K.1 k = 271) then (if ph = 0 then some (Sum.inr (1, K.2.1 k, cs)) else some (Sum.inl (k + 1, 0, (kd, 0, 1, pr, bs) :: r, (if K.1 k = 272 then 20 else 21) :: (jnO bs (if K.1 k = 272 then 2 else 1) os cs).1, (jnO bs (if K.1 k = 272 then 2 else 1) os cs).2)))
  else if (kd = 1 ∨ kd = 5) ∧ ph = 0 then some (Sum.inr (1, K.2.1 k, cs))
  else if kd < 2 then some (Sum.inr (0, k, (jnO bs 1 os cs).2))
  else if kd = 3 then (if K.1 k = 44 then some (Sum.inl (k + 1, 0, (4, ph, bg, pr, bs) :: r, (jnO bs 1 os cs).1, (jnO bs 1 os cs).2)) else some (Sum.inr (1, K.2.1 k, cs)))
  else if (r.length : Int) = 0 then none
  else if K.1 k = (if kd = 5 then 93 else 41) then some (Sum.inl (k + 1, 1, clS kd r, (jnO bs 1 os cs).1, (if kd = 4 then (jnO bs 1 os cs).2 ++ [(pr, 0)] else (jnO bs 1 os cs).2)))
  else some (Sum.inr (1, K.2.1 k, cs))
def stp (K : TKs) (ns : List (List Int)) (H : Int → Int) (s : MS) : Option (MS ⊕ RS) :=
  if gdS s.1 s.2.2.1 s.2.2.2.1 s.2.2.2.2 then (if H s.1 = 1 then some (Sum.inr (1, K.2.1 s.1, s.2.2.2.2)) else
    match s.2.2.1 with
    | [] => none
    | (kd, ph, bg, pr, bs) :: r => if s.2.1 = 0 then stO K ns s.1 kd ph bg pr bs r s.2.2.2.1 s.2.2.2.2 else stG K s.1 kd ph bg pr bs r s.2.2.2.1 s.2.2.2.2) else none
def mK (g : MS → Option RS) : Option (MS ⊕ RS) → Option RS
  | none => none
  | some (Sum.inl t) => g t
  | some (Sum.inr r) => some r
def mR (K : TKs) (ns : List (List Int)) (H : Int → Int) : Nat → MS → Option RS
  | 0, _ => none
  | f + 1, s => mK (mR K ns H f) (stp K ns H s)
theorem mR_l {K : TKs} {ns : List (List Int)} {H : Int → Int} {s t : MS} (h : stp K ns H s = some (Sum.inl t)) (f : Nat) : mR K ns H (f + 1) s = mR K ns H f t := by
  show mK (mR K ns H f) (stp K ns H s) = _
  rw [h]
  rfl
theorem mR_r {K : TKs} {ns : List (List Int)} {H : Int → Int} {s : MS} {t : RS} (h : stp K ns H s = some (Sum.inr t)) (f : Nat) : mR K ns H (f + 1) s = some t := by
  show mK (mR K ns H f) (stp K ns H s) = _
  rw [h]
  rfl
theorem st_O {K : TKs} {ns : List (List Int)} {H : Int → Int} {k kd ph bg pr bs : Int} {r : List FR} {os : List Int} {cs : CDs} (hg : gdS k ((kd, ph, bg, pr, bs) :: r) os cs) (hh : H k ≠ 1) : stp K ns H (k, 0, (kd, ph, bg, pr, bs) :: r, os, cs) = stO K ns k kd ph bg pr bs r os cs := by
  unfold stp
  rw [if_pos hg, if_neg hh]
  rfl
theorem st_G {K : TKs} {ns : List (List Int)} {H : Int → Int} {k kd ph bg pr bs : Int} {r : List FR} {os : List Int} {cs : CDs} (hg : gdS k ((kd, ph, bg, pr, bs) :: r) os cs) (hh : H k ≠ 1) : stp K ns H (k, 1, (kd, ph, bg, pr, bs) :: r, os, cs) = stG K k kd ph bg pr bs r os cs := by
  unfold stp
  rw [if_pos hg, if_neg hh]
  rfl
theorem st_fO {K : TKs} {ns : List (List Int)} {H : Int → Int} {k kd ph bg pr bs : Int} {r : List FR} {os : List Int} {cs : CDs} (hg : gdS k ((kd, ph, bg, pr, bs) :: r) os cs) (h : stO K ns k kd ph bg pr bs r os cs = some (Sum.inr (1, K.2.1 k, cs))) : stp K ns H (k, 0, (kd, ph, bg, pr, bs) :: r, os, cs) = some (Sum.inr (1, K.2.1 k, cs)) := by
  by_cases hh : H k = 1
  · unfold stp
    rw [if_pos hg, if_pos hh]
  · rw [st_O hg hh, h]
theorem st_fG {K : TKs} {ns : List (List Int)} {H : Int → Int} {k kd ph bg pr bs : Int} {r : List FR} {os : List Int} {cs : CDs} (hg : gdS k ((kd, ph, bg, pr, bs) :: r) os cs) (h : stG K k kd ph bg pr bs r os cs = some (Sum.inr (1, K.2.1 k, cs))) : stp K ns H (k, 1, (kd, ph, bg, pr, bs) :: r, os, cs) = some (Sum.inr (1, K.2.1 k, cs)) := by
  by_cases hh : H k = 1
  · unfold stp
    rw [if_pos hg, if_pos hh]
  · rw [st_G hg hh, h]
-- ---- how many nots lie before a token
def ncN (ty : Int → Int) : Nat → Int
  | 0 => 0
  | i + 1 => ncN ty i + (if ty (i : Int) = 266 then 1 else 0)
def nk (K : TKs) (k : Int) : Int := ncN K.1 k.toNat
theorem ncN_m (ty : Int → Int) : ∀ (d i : Nat), ncN ty i ≤ ncN ty (i + d) := by
  intro d
  induction d with
  | zero => intro i; exact Int.le_refl _
  | succ d ih =>
    intro i
    have h := ih i
    have e : ncN ty (i + (d + 1)) = ncN ty (i + d) + (if ty ((i + d : Nat) : Int) = 266 then 1 else 0) := rfl
    by_cases c : ty ((i + d : Nat) : Int) = 266
    · rw [if_pos c] at e; omega
    · rw [if_neg c] at e; omega
theorem nk_m {K : TKs} {i j : Int} (h : i ≤ j) : nk K i ≤ nk K j := by
  unfold nk
  have := ncN_m K.1 (j.toNat - i.toNat) i.toNat
  rw [show i.toNat + (j.toNat - i.toNat) = j.toNat by omega] at this
  exact this
theorem nk_s {K : TKs} {k : Int} (h0 : 0 ≤ k) (h : K.1 k = 266) : nk K (k + 1) = nk K k + 1 := by
  unfold nk
  rw [show (k + 1).toNat = k.toNat + 1 by omega, ncN, show ((k.toNat : Nat) : Int) = k by omega, if_pos h]
theorem nk_0 {K : TKs} (k : Int) : 0 ≤ nk K k := by
  unfold nk
  have := ncN_m K.1 k.toNat 0
  rw [Nat.zero_add] at this
  exact this
theorem ntC_a {ty : Int → Int} : ∀ (m : Nat) (k : Int) (i : Nat), i < ntC ty m k → ty (k + i) = 266 := by
  intro m
  induction m with
  | zero => intro k i h; rw [ntC] at h; omega
  | succ m ih =>
    intro k i h
    rw [ntC] at h
    by_cases c : ty k = 266
    · rw [if_pos c] at h
      cases i with
      | zero => rw [show k + ((0 : Nat) : Int) = k by omega]; exact c
      | succ i =>
        have := ih (k + 1) i (by omega)
        rw [show k + ((i + 1 : Nat) : Int) = k + 1 + (i : Int) by omega]; exact this
    · rw [if_neg c] at h; omega
theorem ntC_n {ty : Int → Int} : ∀ (m : Nat) (k : Int), ntC ty m k < m → ty (k + ntC ty m k) ≠ 266 := by
  intro m
  induction m with
  | zero => intro k h; omega
  | succ m ih =>
    intro k h
    rw [ntC] at h ⊢
    by_cases c : ty k = 266
    · rw [if_pos c] at h ⊢
      have := ih (k + 1) (by omega)
      rw [show k + ((ntC ty m (k + 1) + 1 : Nat) : Int) = k + 1 + (ntC ty m (k + 1) : Int) by omega]; exact this
    · rw [if_neg c, show k + ((0 : Nat) : Int) = k by omega]; exact c
