-- LOADING, AND RUNS OF STEPS OF THE CLASS
def cp5 (X : ZMem) (a b : Nat) : ZMem := (fun x k => if x = a ∧ k < 5 then X.1 b k else X.1 x k, X.2)
theorem pload_c {X : ZMem} {a b : Nat} (ha : isC 131 1 a = true) (hb : isC 131 1 b = true) (hab : a ≠ b) : fX1_load 131 a b X = some (cp5 X a b) := by
  unfold fX1_load
  rw [chk_t ha, chk_t hb]
  simp only [lt_e]
  congr 1
  refine Prod.ext ?_ rfl
  funext x k
  simp only [zpI, zI, cp5]
  have hba : ¬ b = a := Ne.symm hab
  by_cases hx : x = a
  · subst hx
    match k with
    | 0 => simp [hba]
    | 1 => simp [hba]
    | 2 => simp [hba]
    | 3 => simp [hba]
    | 4 => simp [hba]
    | k + 5 => simp; intro h; omega
  · simp [hx]
def ldm (X : ZMem) (v w i : Nat) : ZMem := (fun a k => if a = v then (if 1 ≤ k ∧ k ≤ 8 then X.1 w k else X.1 a k) else if v + 2 ≤ a ∧ a < v + 2 + i ∧ k < 5 then X.1 (w + 2 + (a - (v + 2))) k else X.1 a k, X.2)
theorem VS_apart {v w : Nat} (hv : VS v) (hw : VS w) (h : v ≠ w) : v + 9 ≤ w ∨ w + 9 ≤ v := by
  have h1 : ∀ v ∈ [18, 27, 36, 47, 56, 65, 74, 83, 96], ∀ w ∈ [18, 27, 36, 47, 56, 65, 74, 83, 96], v ≠ w → v + 9 ≤ w ∨ w + 9 ≤ v := by decide
  exact h1 v hv w hw h
theorem loadLoop_c {X : ZMem} {v w N : Nat} (hv : VS v) (hw : VS w) (hvw : v ≠ w) (hR : HR X) (hN : N ≤ 7) (hX : X.1 w 1 = nI N) : ∀ k i, i ≤ N → N < k + i → fX4_load_b66 131 k v w (nI i) (ldm X v w i) = some (ldm X v w N) := by
  have hap := VS_apart hv hw hvw
  intro k
  induction k with
  | zero => intro i h1 h2; omega
  | succ k ih =>
    intro i h1 h2
    rw [fX4_load_b66]
    have h1' : zI (ldm X v w i) v 1 = nI N := by simp [zI, ldm, hX]
    have hRl : HR (ldm X v w i) := HR_of hR rfl
    rw [h1']
    by_cases hi : i = N
    · rw [if_pos ((nI_leI (by omega) (by omega)).mpr (by omega)), hi]
    · rw [if_neg (fun q => by have := (nI_leI (by omega) (by omega)).mp q; omega), VS_r0 hv hRl, bd1_s, chk_t (VS_in hv (by omega)), VS_rp hv hRl (by omega), bd1_s, VS_r0 hw hRl, bd1_s, chk_t (VS_in hw (by omega)), VS_rp hw hRl (by omega), bd1_s, pload_c (VS_1 hv (by omega)) (VS_1 hw (by omega)) (by omega), bd1_s, nI_1]
      have e : cp5 (ldm X v w i) (v + 2 + i) (w + 2 + i) = ldm X v w (i + 1) := by
        refine Prod.ext ?_ rfl
        funext a k
        simp only [cp5, ldm]
        by_cases ha : a = v + 2 + i
        · subst ha
          have e1 : v + 2 + i - (v + 2) = i := by omega
          by_cases hk : k < 5
          · rw [if_pos ⟨rfl, hk⟩, if_neg (by omega), if_neg (by omega), if_neg (by omega), if_pos (by omega), e1]
          · rw [if_neg (by omega), if_neg (by omega), if_neg (by omega), if_neg (by omega), if_neg (by omega)]
        · rw [if_neg (by omega)]
          by_cases hav : a = v
          · rw [if_pos hav, if_pos hav]
          · rw [if_neg hav, if_neg hav]
            by_cases hr : v + 2 ≤ a ∧ a < v + 2 + i ∧ k < 5
            · rw [if_pos hr, if_pos (by omega)]
            · rw [if_neg hr, if_neg (by omega)]
      rw [e]
      exact ih (i + 1) (by omega) (by omega)
theorem load_c {μ : ZMem} {v w : Nat} {σ : Sg} (hv : VS v) (hw : VS w) (hvw : v ≠ w) (hR : HR μ) (hN : sN σ ≤ 7) : fX4_load 131 v w (ovl μ w σ) = some (ovl (ovl μ w σ) v σ) := by
  have hap := VS_apart hv hw hvw
  have hRl : HR (ovl μ w σ) := HR_ovl hR
  unfold fX4_load
  rw [chk_t (VS_c hv), chk_t (VS_c hw)]
  simp only [lt_e]
  have hX : (ovl μ w σ).1 w 1 = nI (sN σ) := ovl_1 μ w σ
  have h := loadLoop_c hv hw hvw hRl hN hX FU 0 (Nat.zero_le _) (by show sN σ < 2000 + 0; omega)
  have e0 : ldm (ovl μ w σ) v w 0 = zpI (zpI (zpI (zpI (zpI (zpI (zpI (zpI (ovl μ w σ) v 1 (zI (ovl μ w σ) w 1)) v 2 (zI (ovl μ w σ) w 2)) v 3 (zI (ovl μ w σ) w 3)) v 4 (zI (ovl μ w σ) w 4)) v 5 (zI (ovl μ w σ) w 5)) v 6 (zI (ovl μ w σ) w 6)) v 7 (zI (ovl μ w σ) w 7)) v 8 (zI (ovl μ w σ) w 8) := by
    refine Prod.ext ?_ rfl
    funext a k
    simp only [zpI, zI, ldm]
    by_cases ha : a = v
    · subst ha
      match k with
      | 0 => simp
      | 1 => simp
      | 2 => simp
      | 3 => simp
      | 4 => simp
      | 5 => simp
      | 6 => simp
      | 7 => simp
      | 8 => simp
      | k + 9 => simp
    · simp only [ha, false_and, if_false]
      rw [if_neg (by omega)]
  have e1 : ∀ Y k j x, zI (zpI Y v j x) w k = zI Y w k := by
    intro Y k j x
    simp only [zI, zpI]
    rw [if_neg (by omega)]
  have eN : ldm (ovl μ w σ) v w (sN σ) = ovl (ovl μ w σ) v σ := by
    refine Prod.ext ?_ rfl
    funext a k
    have h8 : 1 ≤ k ∧ k ≤ 8 → (ovl μ w σ).1 w k = scv σ k := fun h => ovl_s μ w σ h
    have hp : ∀ p, p < sN σ → k < 5 → (ovl μ w σ).1 (w + 2 + p) k = nI (sP σ p k) := fun p h1 h2 => ovl_p μ w σ h1 h2
    show (ldm (ovl μ w σ) v w (sN σ)).1 a k = (if a = v then (if 1 ≤ k ∧ k ≤ 8 then scv σ k else (ovl μ w σ).1 a k) else if v + 2 ≤ a ∧ a < v + 2 + sN σ ∧ k < 5 then nI (sP σ (a - (v + 2)) k) else (ovl μ w σ).1 a k)
    simp only [ldm]
    by_cases ha : a = v
    · rw [if_pos ha, if_pos ha]
      by_cases hk : 1 ≤ k ∧ k ≤ 8
      · rw [if_pos hk, if_pos hk, h8 hk]
      · rw [if_neg hk, if_neg hk]
    · rw [if_neg ha, if_neg ha]
      by_cases hr : v + 2 ≤ a ∧ a < v + 2 + sN σ ∧ k < 5
      · rw [if_pos hr, if_pos hr, hp _ (by omega) hr.2.2]
      · rw [if_neg hr, if_neg hr]
  rw [eN] at h
  rw [e0] at h
  simp only [e1]
  exact h
def mSteps : Nat → Sg → Sg
  | 0, σ => σ
  | n + 1, σ => mSteps n (mStep none σ)
theorem Wf_steps {n : Nat} : ∀ {σ : Sg}, Wf σ → Wf (mSteps n σ) := by
  induction n with
  | zero => exact fun h => h
  | succ n ih => exact fun h => ih (Wf_step h)
theorem mSteps_N (n : Nat) : ∀ σ, sN (mSteps n σ) = sN σ := by
  induction n with
  | zero => exact fun σ => rfl
  | succ n ih => exact fun σ => (ih _).trans (mStep_N none σ).1
theorem stepN_c {μ : ZMem} {v : Nat} {σ : Sg} (hv : VS v) (hR : HR μ) (hw : Wf σ) : fX4_step 131 v (-1) (ovl μ v σ) = some (ovl μ v (mStep none σ)) := step_c (sil := none) hv hR hw (fun q h => by cases h)
theorem takeLoop_c {μ : ZMem} {v n : Nat} (hv : VS v) (hR : HR μ) (hn : n < 1000) : ∀ k i σ, Wf σ → i ≤ n → n < k + i → fX4_takeSteps_b2 131 k v (nI n) (nI i) (ovl μ v σ) = some (ovl μ v (mSteps (n - i) σ)) := by
  intro k
  induction k with
  | zero => intro i σ hw h1 h2; omega
  | succ k ih =>
    intro i σ hw h1 h2
    rw [fX4_takeSteps_b2]
    by_cases hi : i = n
    · rw [if_pos ((nI_leI (by omega) (by omega)).mpr (by omega)), hi, Nat.sub_self]
      rfl
    · rw [if_neg (fun q => by have := (nI_leI (by omega) (by omega)).mp q; omega), stepN_c hv hR hw, bd1_s, nI_1, ih (i + 1) _ (Wf_step hw) (by omega) (by omega), show n - i = (n - (i + 1)) + 1 by omega]
      rfl
theorem takeSteps_c {μ : ZMem} {v n : Nat} {σ : Sg} (hv : VS v) (hR : HR μ) (hw : Wf σ) (hn : n < 1000) : fX4_takeSteps 131 v (nI n) (ovl μ v σ) = some (ovl μ v (mSteps n σ)) := by
  unfold fX4_takeSteps
  rw [chk_t (VS_c hv)]
  have h := takeLoop_c (μ := μ) hv hR hn FU 0 σ hw (Nat.zero_le _) (by show n < 2000 + 0; omega)
  exact h
/-- OVER: r tries from the i-th step on -/
def mOver (sil : Option Nat) : Nat → Nat → Sg → Option Nat
  | 0, _, _ => none
  | r + 1, i, σ => if sD σ < sY σ then mOver sil r (i + 1) (mStep sil σ) else some i
def mOverS (sil : Option Nat) : Nat → Sg → Sg
  | 0, σ => σ
  | r + 1, σ => if sD σ < sY σ then mOverS sil r (mStep sil σ) else σ
theorem overLoop_c {μ : ZMem} {v most : Nat} {sil : Option Nat} (hv : VS v) (hR : HR μ) (hm : ∀ q, sil = some q → q < 1000) (hn : most < 1000) : ∀ k i σ, Wf σ → i ≤ most + 1 → most + 1 < k + i → fX4_stepsToWay_b2 131 k v (nI most) (oI sil) (nI i) (ovl μ v σ) = some (ovl μ v (mOverS sil (most + 1 - i) σ), oI (mOver sil (most + 1 - i) i σ)) := by
  intro k
  induction k with
  | zero => intro i σ hw h1 h2; omega
  | succ k ih =>
    intro i σ hw h1 h2
    rw [fX4_stepsToWay_b2, ovl_4, ovl_3]
    have hd := hw.2.2.1
    by_cases hi : i = most + 1
    · rw [if_pos ((nI_ltI (by omega) (by omega)).mpr (by omega)), hi, Nat.sub_self]
      rfl
    · rw [if_neg (fun q => by have := (nI_ltI (by omega) (by omega)).mp q; omega), show most + 1 - i = (most + 1 - (i + 1)) + 1 by omega]
      unfold mOver mOverS
      by_cases hlt : sD σ < sY σ
      · rw [if_pos ((nI_ltI (by omega) (by omega)).mpr hlt), if_pos hlt, if_pos hlt, step_c hv hR hw hm, bd1_s, nI_1, ih (i + 1) _ (Wf_step hw) (by omega) (by omega)]
      · rw [if_neg (fun q => hlt ((nI_ltI (by omega) (by omega)).mp q)), if_neg hlt, if_neg hlt]
        rfl
theorem over_c {μ : ZMem} {v most : Nat} {σ : Sg} {sil : Option Nat} (hv : VS v) (hR : HR μ) (hw : Wf σ) (hm : ∀ q, sil = some q → q < 1000) (hn : most < 1000) : fX4_stepsToWay 131 v (nI most) (oI sil) (ovl μ v σ) = some (ovl μ v (mOverS sil (most + 1) σ), oI (mOver sil (most + 1) 0 σ)) := by
  unfold fX4_stepsToWay
  rw [chk_t (VS_c hv)]
  have h := overLoop_c (μ := μ) hv hR hm hn FU 0 σ hw (Nat.zero_le _) (by show most + 1 < 2000 + 0; omega)
  exact h
