/-! the class's calls that only read -/
theorem dIt_mv {x : ST} {t : Int} {V U : ASt} (h : dIt x t V) (hf : ∀ a, (a < 50 ∨ 72 < a) → a ≠ t + 4 → a ≠ t + 15 → U a = V a) (hg : gI (xG x) t U) (hM : dM x t U) (hV : dV x U) : dIt x t U := by
  obtain ⟨h0, h1, h2, h3, h4, h5, h6, h7, h8, h9, h10, h11, h12, h13, h14⟩ := h
  have k : ∀ a, (a < 3 ∨ 34 < a) → (a < 50 ∨ 72 < a) → U a = V a := fun a c d => hf a d (by unfold isGm at h0; omega) (by unfold isGm at h0; omega)
  have k3 : U (t + 5) = V (t + 5) := hf _ (by unfold isGm at h0; omega) (by omega) (by omega)
  have k6 : U 6 = V 6 := hf 6 (by decide) (by unfold isGm at h0; omega) (by unfold isGm at h0; omega)
  have k22 : U 22 = V 22 := hf 22 (by decide) (by unfold isGm at h0; omega) (by unfold isGm at h0; omega)
  clear hf
  have r1 : dA x t U := dA_k (k 0 (by decide) (by decide)) h1
  have r3 : dL (xG x) t U := dL_k k3 h3
  have r4 : dS (xG x) (xS x) 41 U := dS_fr (k 41 (by decide) (by decide)) (k 42 (by decide) (by decide)) h4
  have r7 : dWW (xG x) t 96 U := dWW_k (k 96 (by decide) (by decide)) (k 97 (by decide) (by decide)) (k 98 (by decide) (by decide)) (k 101 (by decide) (by decide)) h7
  have r8 : dWW (xG x) t 102 U := dWW_k (k 102 (by decide) (by decide)) (k 103 (by decide) (by decide)) (k 104 (by decide) (by decide)) (k 107 (by decide) (by decide)) h8
  have r9 : dH x U := dH_k (k 47 (by decide) (by decide)) (k 48 (by decide) (by decide)) (k 49 (by decide) (by decide)) h9
  have r10 : dSp x U := dSp_k (congrFun (k 43 (by decide) (by decide)) 0) (k 44 (by decide) (by decide)) (k 45 (by decide) (by decide)) h10
  have r11 : dMa x U := dMa_k (k 109 (by decide) (by decide)) h11
  have r12 : dTp x U := dTp_k (congrFun (k 1 (by decide) (by decide)) 0) (k 2 (by decide) (by decide)) h12
  have r13 : dIm x U := dIm_k (congrFun (k 113 (by decide) (by decide)) 0) (k 114 (by decide) (by decide)) h13
  have r14 : dMi x U := dMi_k (k 35 (by decide) (by decide)) (k 108 (by decide) (by decide)) (k 37 (by decide) (by decide)) k6 k22 (k 111 (by decide) (by decide)) (k 112 (by decide) (by decide)) (k 115 (by decide) (by decide)) h14
  exact ⟨h0, r1, hg, r3, r4, hM, hV, r7, r8, r9, r10, r11, r12, r13, r14⟩
theorem dIt_wo {x : ST} {t : Int} {V U : ASt} (h : dIt x t V) (hf : ∀ a, (a < 73 ∨ 91 < a) → (a < 96 ∨ 107 < a) → a ≠ t + 4 → a ≠ t + 15 → U a = V a) (hg : gI (xG x) t U) (hW : dWW (xG x) t 96 U) (hW2 : dWW (xG x) t 102 U) : dIt x t U := by
  obtain ⟨h0, h1, h2, h3, h4, h5, h6, h7, h8, h9, h10, h11, h12, h13, h14⟩ := h
  have k : ∀ a, (a < 3 ∨ 34 < a) → (a < 73 ∨ 91 < a) → (a < 96 ∨ 107 < a) → U a = V a := fun a c d e => hf a d e (by unfold isGm at h0; omega) (by unfold isGm at h0; omega)
  have k3 : U (t + 5) = V (t + 5) := hf _ (by unfold isGm at h0; omega) (by unfold isGm at h0; omega) (by omega) (by omega)
  have k6 : U 6 = V 6 := hf 6 (by decide) (by decide) (by unfold isGm at h0; omega) (by unfold isGm at h0; omega)
  have k22 : U 22 = V 22 := hf 22 (by decide) (by decide) (by unfold isGm at h0; omega) (by unfold isGm at h0; omega)
  clear hf
  have r1 : dA x t U := dA_k (k 0 (by decide) (by decide) (by decide)) h1
  have r3 : dL (xG x) t U := dL_k k3 h3
  have r4 : dS (xG x) (xS x) 41 U := dS_fr (k 41 (by decide) (by decide) (by decide)) (k 42 (by decide) (by decide) (by decide)) h4
  have r5 : dM x t U := dM_k (fun c a b => k c (by omega) (by omega) (by omega)) h5
  have r6 : dV x U := dV_k (fun j _ => congrFun (k 62 (by decide) (by decide) (by decide)) j) (k 63 (by decide) (by decide) (by decide)) (k 64 (by decide) (by decide) (by decide)) (fun e => by rw [k 50 (by decide) (by decide) (by decide)]; exact e) h6
  have r9 : dH x U := dH_k (k 47 (by decide) (by decide) (by decide)) (k 48 (by decide) (by decide) (by decide)) (k 49 (by decide) (by decide) (by decide)) h9
  have r10 : dSp x U := dSp_k (congrFun (k 43 (by decide) (by decide) (by decide)) 0) (k 44 (by decide) (by decide) (by decide)) (k 45 (by decide) (by decide) (by decide)) h10
  have r11 : dMa x U := dMa_k (k 109 (by decide) (by decide) (by decide)) h11
  have r12 : dTp x U := dTp_k (congrFun (k 1 (by decide) (by decide) (by decide)) 0) (k 2 (by decide) (by decide) (by decide)) h12
  have r13 : dIm x U := dIm_k (congrFun (k 113 (by decide) (by decide) (by decide)) 0) (k 114 (by decide) (by decide) (by decide)) h13
  have r14 : dMi x U := dMi_k (k 35 (by decide) (by decide) (by decide)) (k 108 (by decide) (by decide) (by decide)) (k 37 (by decide) (by decide) (by decide)) k6 k22 (k 111 (by decide) (by decide) (by decide)) (k 112 (by decide) (by decide) (by decide)) (k 115 (by decide) (by decide) (by decide)) h14
  exact ⟨h0, r1, hg, r3, r4, r5, r6, hW, hW2, r9, r10, r11, r12, r13, r14⟩
