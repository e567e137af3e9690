-- A LEG, ON BOTH SIDES
def okF (σ : Sg) : Nat → Nat → Bool
  | 0, _ => true
  | r + 1, j => if sP σ j 4 ≤ 50 then okF σ r (j + 1) else false
def okT (σ : Sg) : Bool := okF σ (sN σ) 0
def mLeg : Nat → Sg → Option Sg
  | 0, σ => some σ
  | n + 1, σ => if okT (mBear σ) = true then mLeg n (mBear σ) else none
def mLegQ : Nat → Sg → Option Sg
  | 0, σ => some σ
  | n + 1, σ => if okT (mQuiet σ) = true then mLegQ n (mQuiet σ) else none
theorem mBear_T (σ : Sg) (t : Int32) : mBear (wT σ t) = wT (mBear σ) t := by
  unfold mBear
  show (match sB σ with
    | none => wP (wT σ t) (pmap (sP σ) (sN σ) (fun p => sP σ p 4 - 2))
    | some b => if sD σ < sY σ then wP (wD (wT σ t) (min (sY σ) (sD σ + mPace (sW σ) (sP σ b)))) (pmap (sP σ) (sN σ) (mBearF σ b)) else wT σ t) = _
  cases sB σ with
  | none => rfl
  | some b =>
    show (if sD σ < sY σ then _ else _) = wT (if sD σ < sY σ then _ else _) t
    by_cases h : sD σ < sY σ
    · rw [if_pos h, if_pos h]
    · rw [if_neg h, if_neg h]
theorem mQuiet_T (σ : Sg) (t : Int32) : mQuiet (wT σ t) = wT (mBear σ) (t + 1) := by
  unfold mQuiet
  rw [mBear_T]
theorem okF_T (σ : Sg) (t : Int32) : ∀ r j, okF (wT σ t) r j = okF σ r j := by
  intro r
  induction r with
  | zero => intro j; rfl
  | succ r ih =>
    intro j
    show (if sP σ j 4 ≤ 50 then okF (wT σ t) r (j + 1) else false) = (if sP σ j 4 ≤ 50 then okF σ r (j + 1) else false)
    rw [ih]
theorem okT_T (σ : Sg) (t : Int32) : okT (wT σ t) = okT σ := okF_T σ t (sN σ) 0
theorem legQ : ∀ n σ t, (mLeg n σ = none → mLegQ n (wT σ t) = none) ∧ ∀ ρ, mLeg n σ = some ρ → ∃ t', mLegQ n (wT σ t) = some (wT ρ t') := by
  intro n
  induction n with
  | zero =>
    intro σ t
    exact ⟨fun h => (by cases h), fun ρ h => by cases h; exact ⟨t, rfl⟩⟩
  | succ n ih =>
    intro σ t
    unfold mLeg mLegQ
    rw [mQuiet_T]
    have e := okT_T (mBear σ) (t + 1)
    rw [e]
    by_cases h : okT (mBear σ) = true
    · rw [if_pos h, if_pos h]
      exact ih (mBear σ) (t + 1)
    · rw [if_neg h, if_neg h]
      exact ⟨fun _ => rfl, fun ρ q => (by cases q)⟩
theorem Wf_leg : ∀ n {σ ρ : Sg}, Wf σ → mLeg n σ = some ρ → Wf ρ ∧ sN ρ = sN σ ∧ sY ρ = sY σ := by
  intro n
  induction n with
  | zero => intro σ ρ h e; cases e; exact ⟨h, rfl, rfl⟩
  | succ n ih =>
    intro σ ρ h e
    unfold mLeg at e
    by_cases c : okT (mBear σ) = true
    · rw [if_pos c] at e
      obtain ⟨a1, a2, a3⟩ := ih (Wf_bear h) e
      have b := mBear_N σ
      exact ⟨a1, a2.trans b.1, a3.trans b.2.2.2.1⟩
    · rw [if_neg c] at e; cases e
theorem Wf_quiet {σ : Sg} (h : Wf σ) : Wf (mQuiet σ) := Wf_wT (Wf_bear h)
theorem quiet_N (σ : Sg) : sN (mQuiet σ) = sN σ := (mBear_N σ).1
theorem tiredL_c {g : Nat → Int32 → Int32 → ZMem → Option (ZMem × Int32)} {μ : ZMem} {v : Nat} {σ : Sg} {m i : Int32} (hv : VS v) (hR : HR μ) (hw : Wf σ) : ∀ k j, j ≤ sN σ → sN σ < k + j → fX4_bearLeg_b19 g 131 k v m i (nI j) (ovl μ v σ) = if okF σ (sN σ - j) j = true then g v m (i + 1) (ovl μ v σ) else some (ovl μ v σ, 0) := by
  have hN := hw.1
  intro k
  induction k with
  | zero => intro j _ _; omega
  | succ k ih =>
    intro j q1 q2
    rw [fX4_bearLeg_b19, ovl_1]
    by_cases hj : j = sN σ
    · rw [if_pos ((nI_leI (by omega) (by omega)).mpr (by omega)), hj, Nat.sub_self]
      rfl
    · have h4 := (hw.2.2.2.2.2 j (by omega)).2.2.2.2.2
      rw [if_neg (fun q => by have := (nI_leI (by omega) (by omega)).mp q; omega), VS_r0 hv (HR_ovl hR), bd1_s, chk_t (VS_in hv (by omega)), VS_rp hv (HR_ovl hR) (by omega), bd1_s, ovl_p μ v σ (by omega) (by omega), show sN σ - j = (sN σ - (j + 1)) + 1 by omega]
      unfold okF
      by_cases h : sP σ j 4 ≤ 50
      · rw [if_pos (show nI (sP σ j 4) ≤ (50 : Int32) from (nI_leI (b := 50) (by omega) (by omega)).mpr h), if_pos h, nI_1]
        exact ih (j + 1) (by omega) (by omega)
      · rw [if_neg (show ¬ nI (sP σ j 4) ≤ (50 : Int32) from fun q => h ((nI_leI (b := 50) (by omega) (by omega)).mp q)), if_neg h, if_neg (by decide)]
theorem legL_c {μ : ZMem} {v m : Nat} (hv : VS v) (hR : HR μ) (hm : m < 1000) : ∀ k i σ, Wf σ → i ≤ m → m < k + i → ∃ τ, sN τ = sN σ ∧ fX4_bearLeg_b7 131 k v (nI m) (nI i) (ovl μ v σ) = some (ovl μ v τ, bI (mLeg (m - i) σ).isSome) ∧ ∀ ρ, mLeg (m - i) σ = some ρ → τ = ρ := by
  intro k
  induction k with
  | zero => intro i σ _ _ _; omega
  | succ k ih =>
    intro i σ hw q1 q2
    rw [fX4_bearLeg_b7]
    by_cases hi : i = m
    · rw [if_pos ((nI_leI (by omega) (by omega)).mpr (by omega)), hi, Nat.sub_self]
      exact ⟨σ, rfl, rfl, fun ρ h => by cases h; rfl⟩
    · have hN := (Wf_bear hw).1
      rw [if_neg (fun q => by have := (nI_leI (by omega) (by omega)).mp q; omega), bear_c hv hR hw, bd1_s]
      have k1 := tiredL_c (g := fX4_bearLeg_b7 131 k) (μ := μ) (m := nI m) (i := nI i) hv hR (Wf_bear hw) FU 0 (by omega) (by show sN (mBear σ) < 2000 + 0; omega)
      have k2 : fX4_bearLeg_b19 (fX4_bearLeg_b7 131 k) 131 FU v (nI m) (nI i) 0 (ovl μ v (mBear σ)) = if okT (mBear σ) = true then fX4_bearLeg_b7 131 k v (nI m) (nI i + 1) (ovl μ v (mBear σ)) else some (ovl μ v (mBear σ), 0) := k1
      rw [k2, show m - i = (m - (i + 1)) + 1 by omega, nI_1]
      unfold mLeg
      by_cases h : okT (mBear σ) = true
      · rw [if_pos h, if_pos h]
        obtain ⟨τ, a1, a2, a3⟩ := ih (i + 1) (mBear σ) (Wf_bear hw) (by omega) (by omega)
        exact ⟨τ, a1.trans (mBear_N σ).1, a2, a3⟩
      · rw [if_neg h, if_neg h]
        exact ⟨mBear σ, (mBear_N σ).1, rfl, fun ρ q => (by cases q)⟩
theorem leg_c {μ : ZMem} {v m p : Nat} {σ : Sg} (hv : VS v) (hR : HR μ) (hm : m < 1000) (hw : Wf σ) (hp : p < sN σ) : ∃ τ, sN τ = sN σ ∧ fX4_bearLeg 131 v (nI p) (nI m) (ovl μ v σ) = some (ovl μ v τ, bI (mLeg m (wB σ (some p))).isSome) ∧ ∀ ρ, mLeg m (wB σ (some p)) = some ρ → τ = ρ := by
  have hW : Wf (wB σ (some p)) := Wf_wB hw (fun q h => by cases h; exact hp)
  obtain ⟨τ, a1, a2, a3⟩ := legL_c (μ := μ) hv hR hm FU 0 (wB σ (some p)) hW (by omega) (by show m < 2000 + 0; omega)
  refine ⟨τ, a1, ?_, a3⟩
  unfold fX4_bearLeg
  have eo : nI p = oI (some p) := rfl
  rw [chk_t (VS_c hv), lt_e, eo, ovl_u5]
  exact a2
-- the model's: it goes on, and says only whether all were well
theorem tiredL_m {g : Nat → Int32 → Int32 → Int32 → ZMem → Option (ZMem × Int32)} {μ : ZMem} {σ : Sg} {m i : Int32} (hR : HR μ) (hw : Wf σ) : ∀ k j (b : Bool), j ≤ sN σ → sN σ < k + j → fX7_goesLeg_b17 g 131 k 108 m (bI b) i (nI j) (ovm μ σ) = g 108 m (bI (b && okF σ (sN σ - j) j)) (i + 1) (ovm μ σ) := by
  have hN := hw.1
  intro k
  induction k with
  | zero => intro j b _ _; omega
  | succ k ih =>
    intro j b q1 q2
    rw [fX7_goesLeg_b17, ovm_0]
    unfold fX7_goesLeg_b40
    by_cases hj : j = sN σ
    · rw [if_pos ((nI_leI (by omega) (by omega)).mpr (by omega)), hj, Nat.sub_self]
      have e : (b && okF σ 0 (sN σ)) = b := Bool.and_true b
      rw [e]
    · have h4 := (hw.2.2.2.2.2 j (by omega)).2.2.2.2.2
      rw [if_neg (fun q => by have := (nI_leI (by omega) (by omega)).mp q; omega), mr14 (HR_ovm hR), bd1_s, chk_t (mi14 (by omega)), mp4 μ σ (by omega), show sN σ - j = (sN σ - (j + 1)) + 1 by omega, nI_1]
      unfold okF
      by_cases h : sP σ j 4 ≤ 50
      · rw [if_pos (show nI (sP σ j 4) ≤ (50 : Int32) from (nI_leI (b := 50) (by omega) (by omega)).mpr h), if_pos h]
        exact ih (j + 1) b (by omega) (by omega)
      · rw [if_neg (show ¬ nI (sP σ j 4) ≤ (50 : Int32) from fun q => h ((nI_leI (b := 50) (by omega) (by omega)).mp q)), if_neg h, Bool.and_false]
        exact ih (j + 1) false (by omega) (by omega)
theorem legL_m {μ : ZMem} {m : Nat} (hR : HR μ) (hm : m < 1000) : ∀ k i σ (b : Bool), Wf σ → i ≤ m → m < k + i → ∃ τ, Wf τ ∧ sN τ = sN σ ∧ fX7_goesLeg_b4 131 k 108 (nI m) (bI b) (nI i) (ovm μ σ) = some (ovm μ τ, bI (b && (mLegQ (m - i) σ).isSome)) ∧ ∀ ρ, mLegQ (m - i) σ = some ρ → τ = ρ := by
  intro k
  induction k with
  | zero => intro i σ b _ _ _; omega
  | succ k ih =>
    intro i σ b hw q1 q2
    rw [fX7_goesLeg_b4]
    by_cases hi : i = m
    · rw [if_pos ((nI_leI (by omega) (by omega)).mpr (by omega)), hi, Nat.sub_self, chk_t (bI_01 b)]
      have e : (b && (mLegQ 0 σ).isSome) = b := Bool.and_true b
      rw [e]
      exact ⟨σ, hw, rfl, rfl, fun ρ h => by cases h; rfl⟩
    · have hN := (Wf_quiet hw).1
      rw [if_neg (fun q => by have := (nI_leI (by omega) (by omega)).mp q; omega), quiet_m hR hw, bd1_s]
      have k1 := tiredL_m (g := fX7_goesLeg_b4 131 k) (μ := μ) (m := nI m) (i := nI i) hR (Wf_quiet hw) FU 0 b (by omega) (by show sN (mQuiet σ) < 2000 + 0; omega)
      have k2 : fX7_goesLeg_b17 (fX7_goesLeg_b4 131 k) 131 FU 108 (nI m) (bI b) (nI i) 0 (ovm μ (mQuiet σ)) = fX7_goesLeg_b4 131 k 108 (nI m) (bI (b && okT (mQuiet σ))) (nI i + 1) (ovm μ (mQuiet σ)) := k1
      rw [k2, show m - i = (m - (i + 1)) + 1 by omega, nI_1]
      obtain ⟨τ, a0, a1, a2, a3⟩ := ih (i + 1) (mQuiet σ) (b && okT (mQuiet σ)) (Wf_quiet hw) (by omega) (by omega)
      unfold mLegQ
      by_cases h : okT (mQuiet σ) = true
      · rw [h, Bool.and_true] at a2
        rw [if_pos h, h, Bool.and_true]
        exact ⟨τ, a0, a1.trans (quiet_N σ), a2, a3⟩
      · rw [if_neg h]
        have hf : okT (mQuiet σ) = false := Bool.eq_false_iff.mpr h
        rw [hf, Bool.and_false] at a2
        rw [hf, Bool.and_false]
        refine ⟨τ, a0, a1.trans (quiet_N σ), ?_, fun ρ q => (by cases q)⟩
        rw [a2, Bool.false_and]
        show some (ovm μ τ, bI false) = some (ovm μ τ, bI (b && false))
        rw [Bool.and_false]
theorem leg_m {μ : ZMem} {m : Nat} {σ : Sg} (hR : HR μ) (hm : m < 1000) (hw : Wf σ) : ∃ τ, Wf τ ∧ sN τ = sN σ ∧ fX7_goesLeg 131 108 (nI m) (ovm μ σ) = some (ovm μ τ, bI (mLegQ m σ).isSome) ∧ ∀ ρ, mLegQ m σ = some ρ → τ = ρ := by
  obtain ⟨τ, a0, a1, a2, a3⟩ := legL_m (μ := μ) hR hm FU 0 σ true hw (by omega) (by show m < 2000 + 0; omega)
  refine ⟨τ, a0, a1, ?_, a3⟩
  unfold fX7_goesLeg
  rw [chk_t m_c]
  exact a2
