-- THE STATE OF A VOW IN NUMBERS: people, weight, way, done, bearer, steps, rule, seed, each one's five
abbrev Sg : Type := Nat × Nat × Nat × Nat × Option Nat × Int32 × Nat × Int32 × (Nat → Nat → Nat)
abbrev sN (σ : Sg) : Nat := σ.1
abbrev sW (σ : Sg) : Nat := σ.2.1
abbrev sY (σ : Sg) : Nat := σ.2.2.1
abbrev sD (σ : Sg) : Nat := σ.2.2.2.1
abbrev sB (σ : Sg) : Option Nat := σ.2.2.2.2.1
abbrev sT (σ : Sg) : Int32 := σ.2.2.2.2.2.1
abbrev sR (σ : Sg) : Nat := σ.2.2.2.2.2.2.1
abbrev sS (σ : Sg) : Int32 := σ.2.2.2.2.2.2.2.1
abbrev sP (σ : Sg) : Nat → Nat → Nat := σ.2.2.2.2.2.2.2.2
abbrev wN (σ : Sg) (x : Nat) : Sg := (x, σ.2)
abbrev wW (σ : Sg) (x : Nat) : Sg := (σ.1, x, σ.2.2)
abbrev wY (σ : Sg) (x : Nat) : Sg := (σ.1, σ.2.1, x, σ.2.2.2)
abbrev wD (σ : Sg) (x : Nat) : Sg := (σ.1, σ.2.1, σ.2.2.1, x, σ.2.2.2.2)
abbrev wB (σ : Sg) (x : Option Nat) : Sg := (σ.1, σ.2.1, σ.2.2.1, σ.2.2.2.1, x, σ.2.2.2.2.2)
abbrev wT (σ : Sg) (x : Int32) : Sg := (σ.1, σ.2.1, σ.2.2.1, σ.2.2.2.1, σ.2.2.2.2.1, x, σ.2.2.2.2.2.2)
abbrev wR (σ : Sg) (x : Nat) : Sg := (σ.1, σ.2.1, σ.2.2.1, σ.2.2.2.1, σ.2.2.2.2.1, σ.2.2.2.2.2.1, x, σ.2.2.2.2.2.2.2)
abbrev wS (σ : Sg) (x : Int32) : Sg := (σ.1, σ.2.1, σ.2.2.1, σ.2.2.2.1, σ.2.2.2.2.1, σ.2.2.2.2.2.1, σ.2.2.2.2.2.2.1, x, σ.2.2.2.2.2.2.2.2)
abbrev wP (σ : Sg) (x : Nat → Nat → Nat) : Sg := (σ.1, σ.2.1, σ.2.2.1, σ.2.2.2.1, σ.2.2.2.2.1, σ.2.2.2.2.2.1, σ.2.2.2.2.2.2.1, σ.2.2.2.2.2.2.2.1, x)
def pset (P : Nat → Nat → Nat) (p j x : Nat) : Nat → Nat → Nat := fun q i => if q = p ∧ i = j then x else P q i
theorem pset_eq (P : Nat → Nat → Nat) (p j x : Nat) : pset P p j x p j = x := by simp [pset]
theorem pset_ne (P : Nat → Nat → Nat) {p j q i : Nat} (x : Nat) (h : q ≠ p ∨ i ≠ j) : pset P p j x q i = P q i := by
  unfold pset
  rw [if_neg (by omega)]
def oI (b : Option Nat) : Int32 := match b with
  | some p => nI p
  | none => -1
def scv (σ : Sg) (k : Nat) : Int32 := match k with
  | 1 => nI (sN σ)
  | 2 => nI (sW σ)
  | 3 => nI (sY σ)
  | 4 => nI (sD σ)
  | 5 => oI (sB σ)
  | 6 => sT σ
  | 7 => nI (sR σ)
  | _ => sS σ
/-- the memory with the state σ in the Vow at v -/
def ovl (μ : ZMem) (v : Nat) (σ : Sg) : ZMem := (fun a k => if a = v then (if 1 ≤ k ∧ k ≤ 8 then scv σ k else μ.1 a k) else if v + 2 ≤ a ∧ a < v + 2 + sN σ ∧ k < 5 then nI (sP σ (a - (v + 2)) k) else μ.1 a k, μ.2)
/-- the memory with the state σ in the model -/
def ovm (μ : ZMem) (σ : Sg) : ZMem := (fun a k => if a = 108 then (if k < 8 then scv σ (k + 1) else μ.1 a k) else if 110 ≤ a ∧ a < 115 ∧ k < 7 then nI (sP σ k (a - 110)) else μ.1 a k, μ.2)
theorem ovl_s (μ : ZMem) (v : Nat) (σ : Sg) {k : Nat} (h : 1 ≤ k ∧ k ≤ 8) : zI (ovl μ v σ) v k = scv σ k := by simp [zI, ovl, h]
theorem ovl_1 (μ : ZMem) (v : Nat) (σ : Sg) : zI (ovl μ v σ) v 1 = nI (sN σ) := ovl_s μ v σ (by omega)
theorem ovl_2 (μ : ZMem) (v : Nat) (σ : Sg) : zI (ovl μ v σ) v 2 = nI (sW σ) := ovl_s μ v σ (by omega)
theorem ovl_3 (μ : ZMem) (v : Nat) (σ : Sg) : zI (ovl μ v σ) v 3 = nI (sY σ) := ovl_s μ v σ (by omega)
theorem ovl_4 (μ : ZMem) (v : Nat) (σ : Sg) : zI (ovl μ v σ) v 4 = nI (sD σ) := ovl_s μ v σ (by omega)
theorem ovl_5 (μ : ZMem) (v : Nat) (σ : Sg) : zI (ovl μ v σ) v 5 = oI (sB σ) := ovl_s μ v σ (by omega)
theorem ovl_6 (μ : ZMem) (v : Nat) (σ : Sg) : zI (ovl μ v σ) v 6 = sT σ := ovl_s μ v σ (by omega)
theorem ovl_7 (μ : ZMem) (v : Nat) (σ : Sg) : zI (ovl μ v σ) v 7 = nI (sR σ) := ovl_s μ v σ (by omega)
theorem ovl_8 (μ : ZMem) (v : Nat) (σ : Sg) : zI (ovl μ v σ) v 8 = sS σ := ovl_s μ v σ (by omega)
theorem ovl_p (μ : ZMem) (v : Nat) (σ : Sg) {p j : Nat} (hp : p < sN σ) (hj : j < 5) : zI (ovl μ v σ) (v + 2 + p) j = nI (sP σ p j) := by
  have e : v + 2 + p - (v + 2) = p := by omega
  simp only [zI, ovl]
  rw [if_neg (by omega), if_pos (by omega), e]
theorem ovl_o (μ : ZMem) (v : Nat) (σ : Sg) {a : Nat} (k : Nat) (h : a < v ∨ v + 9 ≤ a ∨ a = v + 1) (hN : sN σ ≤ 7) : zI (ovl μ v σ) a k = zI μ a k := by
  simp only [zI, ovl]
  rw [if_neg (by omega), if_neg (by omega)]
theorem ovl_eq {μ μ' : ZMem} {v : Nat} {σ : Sg} (h2 : μ.2 = μ'.2) (h1 : ∀ a k, ¬ a = v → ¬ (v + 2 ≤ a ∧ a < v + 2 + sN σ ∧ k < 5) → μ.1 a k = μ'.1 a k) (h0 : ∀ k, ¬ (1 ≤ k ∧ k ≤ 8) → μ.1 v k = μ'.1 v k) : ovl μ v σ = ovl μ' v σ := by
  refine Prod.ext ?_ h2
  funext a k
  simp only [ovl]
  by_cases ha : a = v
  · subst ha
    by_cases hk : 1 ≤ k ∧ k ≤ 8
    · simp [hk]
    · simp [hk, h0 k hk]
  · by_cases hb : v + 2 ≤ a ∧ a < v + 2 + sN σ ∧ k < 5
    · simp [ha, hb]
    · simp [ha, hb, h1 a k ha hb]
/-- writing a field of the Vow -/
theorem ovl_u {μ : ZMem} {v : Nat} {σ σ' : Sg} {k : Nat} {x : Int32} (hk : 1 ≤ k ∧ k ≤ 8) (hx : scv σ' k = x) (ho : ∀ j, j ≠ k → 1 ≤ j ∧ j ≤ 8 → scv σ j = scv σ' j) (hN : sN σ = sN σ') (hP : sP σ = sP σ') : zpI (ovl μ v σ) v k x = ovl μ v σ' := by
  refine Prod.ext ?_ rfl
  funext a j
  simp only [zpI, ovl]
  by_cases ha : a = v
  · subst ha
    by_cases hj : j = k
    · subst hj; simp [hk, hx]
    · by_cases h8 : 1 ≤ j ∧ j ≤ 8
      · simp [hj, h8, ho j hj h8]
      · simp [hj, h8]
  · simp [ha, hN, hP]
theorem scv_ne {σ σ' : Sg} {k : Nat} (h1 : k ≠ 1 → sN σ = sN σ') (h2 : k ≠ 2 → sW σ = sW σ') (h3 : k ≠ 3 → sY σ = sY σ') (h4 : k ≠ 4 → sD σ = sD σ') (h5 : k ≠ 5 → sB σ = sB σ') (h6 : k ≠ 6 → sT σ = sT σ') (h7 : k ≠ 7 → sR σ = sR σ') (h8 : k ≠ 8 → sS σ = sS σ') : ∀ j, j ≠ k → 1 ≤ j ∧ j ≤ 8 → scv σ j = scv σ' j := by
  intro j hj hr
  obtain ⟨r1, r2⟩ := hr
  match j, hj, r1, r2 with
  | 1, hj, _, _ => simp only [scv]; rw [h1 (Ne.symm hj)]
  | 2, hj, _, _ => simp only [scv]; rw [h2 (Ne.symm hj)]
  | 3, hj, _, _ => simp only [scv]; rw [h3 (Ne.symm hj)]
  | 4, hj, _, _ => simp only [scv]; rw [h4 (Ne.symm hj)]
  | 5, hj, _, _ => simp only [scv]; rw [h5 (Ne.symm hj)]
  | 6, hj, _, _ => simp only [scv]; rw [h6 (Ne.symm hj)]
  | 7, hj, _, _ => simp only [scv]; rw [h7 (Ne.symm hj)]
  | 8, hj, _, _ => simp only [scv]; rw [h8 (Ne.symm hj)]
  | 0, _, r1, _ => omega
  | k + 9, _, _, r2 => omega
theorem ovl_u2 (μ : ZMem) (v : Nat) (σ : Sg) (x : Nat) : zpI (ovl μ v σ) v 2 (nI x) = ovl μ v (wW σ x) := ovl_u (by omega) rfl (scv_ne (fun _ => rfl) (fun h => absurd rfl h) (fun _ => rfl) (fun _ => rfl) (fun _ => rfl) (fun _ => rfl) (fun _ => rfl) (fun _ => rfl)) rfl rfl
theorem ovl_u3 (μ : ZMem) (v : Nat) (σ : Sg) (x : Nat) : zpI (ovl μ v σ) v 3 (nI x) = ovl μ v (wY σ x) := ovl_u (by omega) rfl (scv_ne (fun _ => rfl) (fun _ => rfl) (fun h => absurd rfl h) (fun _ => rfl) (fun _ => rfl) (fun _ => rfl) (fun _ => rfl) (fun _ => rfl)) rfl rfl
theorem ovl_u4 (μ : ZMem) (v : Nat) (σ : Sg) (x : Nat) : zpI (ovl μ v σ) v 4 (nI x) = ovl μ v (wD σ x) := ovl_u (by omega) rfl (scv_ne (fun _ => rfl) (fun _ => rfl) (fun _ => rfl) (fun h => absurd rfl h) (fun _ => rfl) (fun _ => rfl) (fun _ => rfl) (fun _ => rfl)) rfl rfl
theorem ovl_u5 (μ : ZMem) (v : Nat) (σ : Sg) (x : Option Nat) : zpI (ovl μ v σ) v 5 (oI x) = ovl μ v (wB σ x) := ovl_u (by omega) rfl (scv_ne (fun _ => rfl) (fun _ => rfl) (fun _ => rfl) (fun _ => rfl) (fun h => absurd rfl h) (fun _ => rfl) (fun _ => rfl) (fun _ => rfl)) rfl rfl
theorem ovl_u6 (μ : ZMem) (v : Nat) (σ : Sg) (x : Int32) : zpI (ovl μ v σ) v 6 x = ovl μ v (wT σ x) := ovl_u (by omega) rfl (scv_ne (fun _ => rfl) (fun _ => rfl) (fun _ => rfl) (fun _ => rfl) (fun _ => rfl) (fun h => absurd rfl h) (fun _ => rfl) (fun _ => rfl)) rfl rfl
theorem ovl_u7 (μ : ZMem) (v : Nat) (σ : Sg) (x : Nat) : zpI (ovl μ v σ) v 7 (nI x) = ovl μ v (wR σ x) := ovl_u (by omega) rfl (scv_ne (fun _ => rfl) (fun _ => rfl) (fun _ => rfl) (fun _ => rfl) (fun _ => rfl) (fun _ => rfl) (fun h => absurd rfl h) (fun _ => rfl)) rfl rfl
theorem ovl_u8 (μ : ZMem) (v : Nat) (σ : Sg) (x : Int32) : zpI (ovl μ v σ) v 8 x = ovl μ v (wS σ x) := ovl_u (by omega) rfl (scv_ne (fun _ => rfl) (fun _ => rfl) (fun _ => rfl) (fun _ => rfl) (fun _ => rfl) (fun _ => rfl) (fun _ => rfl) (fun h => absurd rfl h)) rfl rfl
theorem ovl_uP (μ : ZMem) (v : Nat) (σ : Sg) {p j : Nat} (x : Nat) (hp : p < sN σ) (hj : j < 5) : zpI (ovl μ v σ) (v + 2 + p) j (nI x) = ovl μ v (wP σ (pset (sP σ) p j x)) := by
  refine Prod.ext ?_ rfl
  funext a k
  simp only [zpI, ovl, pset]
  dsimp only [sN, sP, wP] at hp ⊢
  by_cases ha : a = v + 2 + p
  · subst ha
    have e : v + 2 + p - (v + 2) = p := by omega
    rw [if_neg (show ¬ v + 2 + p = v by omega), if_neg (show ¬ v + 2 + p = v by omega), e]
    by_cases hk : k = j
    · subst hk
      rw [if_pos ⟨rfl, rfl⟩, if_pos (by omega), pset_eq]
    · rw [if_neg (by omega)]
      by_cases h5 : k < 5
      · rw [if_pos (by omega), if_pos (by omega), pset_ne _ _ (by omega)]
      · rw [if_neg (by omega), if_neg (by omega)]
  · rw [if_neg (by omega)]
    by_cases hv : a = v
    · subst hv
      simp only [if_pos]
      rfl
    · rw [if_neg hv, if_neg hv]
      by_cases hr : v + 2 ≤ a ∧ a < v + 2 + σ.1 ∧ k < 5
      · rw [if_pos hr, if_pos hr, pset_ne _ _ (by omega)]
      · rw [if_neg hr, if_neg hr]
theorem ovm_s (μ : ZMem) (σ : Sg) {k : Nat} (h : k < 8) : zI (ovm μ σ) 108 k = scv σ (k + 1) := by simp [zI, ovm, h]
theorem ovm_0 (μ : ZMem) (σ : Sg) : zI (ovm μ σ) 108 0 = nI (sN σ) := ovm_s μ σ (by omega)
theorem ovm_1 (μ : ZMem) (σ : Sg) : zI (ovm μ σ) 108 1 = nI (sW σ) := ovm_s μ σ (by omega)
theorem ovm_2 (μ : ZMem) (σ : Sg) : zI (ovm μ σ) 108 2 = nI (sY σ) := ovm_s μ σ (by omega)
theorem ovm_3 (μ : ZMem) (σ : Sg) : zI (ovm μ σ) 108 3 = nI (sD σ) := ovm_s μ σ (by omega)
theorem ovm_4 (μ : ZMem) (σ : Sg) : zI (ovm μ σ) 108 4 = oI (sB σ) := ovm_s μ σ (by omega)
theorem ovm_5 (μ : ZMem) (σ : Sg) : zI (ovm μ σ) 108 5 = sT σ := ovm_s μ σ (by omega)
theorem ovm_6 (μ : ZMem) (σ : Sg) : zI (ovm μ σ) 108 6 = nI (sR σ) := ovm_s μ σ (by omega)
theorem ovm_7 (μ : ZMem) (σ : Sg) : zI (ovm μ σ) 108 7 = sS σ := ovm_s μ σ (by omega)
theorem ovm_p (μ : ZMem) (σ : Sg) {p j : Nat} (hp : p < 7) (hj : j < 5) : zI (ovm μ σ) (110 + j) p = nI (sP σ p j) := by
  have e : 110 + j - 110 = j := by omega
  simp only [zI, ovm]
  rw [if_neg (by omega), if_pos (by omega), e]
theorem ovm_o (μ : ZMem) (σ : Sg) {a k : Nat} (h : (a ≠ 108 ∧ (a < 110 ∨ 115 ≤ a)) ∨ (a = 108 ∧ 8 ≤ k)) : zI (ovm μ σ) a k = zI μ a k := by
  simp only [zI, ovm]
  rcases h with h | h
  · rw [if_neg (by omega), if_neg (by omega)]
  · rw [if_pos (by omega), if_neg (by omega)]
theorem ovm_u {μ : ZMem} {σ σ' : Sg} {k : Nat} {x : Int32} (hk : k < 8) (hx : scv σ' (k + 1) = x) (ho : ∀ j, j ≠ k + 1 → 1 ≤ j ∧ j ≤ 8 → scv σ j = scv σ' j) (hP : sP σ = sP σ') : zpI (ovm μ σ) 108 k x = ovm μ σ' := by
  refine Prod.ext ?_ rfl
  funext a j
  simp only [zpI, ovm]
  by_cases ha : a = 108
  · subst ha
    by_cases hj : j = k
    · subst hj; simp [hk, hx]
    · by_cases h8 : j < 8
      · simp [hj, h8, ho (j + 1) (by omega) (by omega)]
      · simp [hj, h8]
  · simp [ha, hP]
theorem ovm_u0 (μ : ZMem) (σ : Sg) (x : Nat) : zpI (ovm μ σ) 108 0 (nI x) = ovm μ (wN σ x) := ovm_u (by omega) rfl (scv_ne (fun h => absurd rfl h) (fun _ => rfl) (fun _ => rfl) (fun _ => rfl) (fun _ => rfl) (fun _ => rfl) (fun _ => rfl) (fun _ => rfl)) rfl
theorem ovm_u1 (μ : ZMem) (σ : Sg) (x : Nat) : zpI (ovm μ σ) 108 1 (nI x) = ovm μ (wW σ x) := ovm_u (by omega) rfl (scv_ne (fun _ => rfl) (fun h => absurd rfl h) (fun _ => rfl) (fun _ => rfl) (fun _ => rfl) (fun _ => rfl) (fun _ => rfl) (fun _ => rfl)) rfl
theorem ovm_u2 (μ : ZMem) (σ : Sg) (x : Nat) : zpI (ovm μ σ) 108 2 (nI x) = ovm μ (wY σ x) := ovm_u (by omega) rfl (scv_ne (fun _ => rfl) (fun _ => rfl) (fun h => absurd rfl h) (fun _ => rfl) (fun _ => rfl) (fun _ => rfl) (fun _ => rfl) (fun _ => rfl)) rfl
theorem ovm_u3 (μ : ZMem) (σ : Sg) (x : Nat) : zpI (ovm μ σ) 108 3 (nI x) = ovm μ (wD σ x) := ovm_u (by omega) rfl (scv_ne (fun _ => rfl) (fun _ => rfl) (fun _ => rfl) (fun h => absurd rfl h) (fun _ => rfl) (fun _ => rfl) (fun _ => rfl) (fun _ => rfl)) rfl
theorem ovm_u4 (μ : ZMem) (σ : Sg) (x : (Option Nat)) : zpI (ovm μ σ) 108 4 (oI x) = ovm μ (wB σ x) := ovm_u (by omega) rfl (scv_ne (fun _ => rfl) (fun _ => rfl) (fun _ => rfl) (fun _ => rfl) (fun h => absurd rfl h) (fun _ => rfl) (fun _ => rfl) (fun _ => rfl)) rfl
theorem ovm_u5 (μ : ZMem) (σ : Sg) (x : Int32) : zpI (ovm μ σ) 108 5 x = ovm μ (wT σ x) := ovm_u (by omega) rfl (scv_ne (fun _ => rfl) (fun _ => rfl) (fun _ => rfl) (fun _ => rfl) (fun _ => rfl) (fun h => absurd rfl h) (fun _ => rfl) (fun _ => rfl)) rfl
theorem ovm_u6 (μ : ZMem) (σ : Sg) (x : Nat) : zpI (ovm μ σ) 108 6 (nI x) = ovm μ (wR σ x) := ovm_u (by omega) rfl (scv_ne (fun _ => rfl) (fun _ => rfl) (fun _ => rfl) (fun _ => rfl) (fun _ => rfl) (fun _ => rfl) (fun h => absurd rfl h) (fun _ => rfl)) rfl
theorem ovm_u7 (μ : ZMem) (σ : Sg) (x : Int32) : zpI (ovm μ σ) 108 7 x = ovm μ (wS σ x) := ovm_u (by omega) rfl (scv_ne (fun _ => rfl) (fun _ => rfl) (fun _ => rfl) (fun _ => rfl) (fun _ => rfl) (fun _ => rfl) (fun _ => rfl) (fun h => absurd rfl h)) rfl
theorem ovm_uP (μ : ZMem) (σ : Sg) {p j : Nat} (x : Nat) (hp : p < 7) (hj : j < 5) : zpI (ovm μ σ) (110 + j) p (nI x) = ovm μ (wP σ (pset (sP σ) p j x)) := by
  refine Prod.ext ?_ rfl
  funext a k
  simp only [zpI, ovm]
  dsimp only [sN, sP, wP]
  by_cases ha : a = 110 + j
  · subst ha
    have e : 110 + j - 110 = j := by omega
    rw [if_neg (show ¬ 110 + j = 108 by omega), if_neg (show ¬ 110 + j = 108 by omega), e]
    by_cases hk : k = p
    · subst hk
      rw [if_pos ⟨rfl, rfl⟩, if_pos (by omega), pset_eq]
    · rw [if_neg (by omega)]
      by_cases h7 : k < 7
      · rw [if_pos (by omega), if_pos (by omega), pset_ne _ _ (by omega)]
      · rw [if_neg (by omega), if_neg (by omega)]
  · rw [if_neg (by omega)]
    by_cases hv : a = 108
    · subst hv
      simp only [if_pos]
      rfl
    · rw [if_neg hv, if_neg hv]
      by_cases hr : 110 ≤ a ∧ a < 115 ∧ k < 7
      · rw [if_pos hr, if_pos hr, pset_ne _ _ (by omega)]
      · rw [if_neg hr, if_neg hr]
