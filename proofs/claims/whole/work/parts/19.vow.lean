-- A STEP OF THE CLASS'S Vow
def Wf (σ : Sg) : Prop := sN σ ≤ 7 ∧ (1 ≤ sW σ ∧ sW σ ≤ 99) ∧ (sD σ ≤ sY σ ∧ sY σ ≤ 999) ∧ (∀ b, sB σ = some b → b < sN σ) ∧ sR σ ≤ 31 ∧ ∀ p, p < sN σ → wfP (sP σ p)
def pmap (P : Nat → Nat → Nat) (i : Nat) (f : Nat → Nat) : Nat → Nat → Nat := fun p j => if j = 4 ∧ p < i then f p else P p j
theorem pmap_0 (P : Nat → Nat → Nat) (f : Nat → Nat) : pmap P 0 f = P := by
  funext p j
  simp [pmap]
theorem pmap_at (P : Nat → Nat → Nat) {i p : Nat} (f : Nat → Nat) (h : i ≤ p) : pmap P i f p = P p := by
  funext j
  simp only [pmap]
  rw [if_neg (by omega)]
theorem pmap_in (P : Nat → Nat → Nat) {i p : Nat} (f : Nat → Nat) (h : p < i) : pmap P i f p 4 = f p := by simp [pmap, h]
theorem pmap_j (P : Nat → Nat → Nat) {i p j : Nat} (f : Nat → Nat) (h : j ≠ 4) : pmap P i f p j = P p j := by simp [pmap, h]
theorem pmap_s (P : Nat → Nat → Nat) (i : Nat) (f : Nat → Nat) : pset (pmap P i f) i 4 (f i) = pmap P (i + 1) f := by
  funext p j
  simp only [pset, pmap]
  by_cases h : p = i ∧ j = 4
  · rw [if_pos h, if_pos (by omega), h.1]
  · rw [if_neg h]
    by_cases h2 : j = 4 ∧ p < i
    · rw [if_pos h2, if_pos (by omega)]
    · rw [if_neg h2, if_neg (by omega)]
theorem oI_eq {p : Nat} {b : Option Nat} (hp : p < 1000) (hb : ∀ q, b = some q → q < 1000) : nI p = oI b ↔ b = some p := by
  cases b with
  | none =>
    refine ⟨fun h => ?_, fun h => by cases h⟩
    have h1 : (nI p).toInt = (-1 : Int32).toInt := by rw [h]; rfl
    rw [nI_toInt (by omega)] at h1
    have h2 : (-1 : Int32).toInt = -1 := by decide
    omega
  | some q =>
    have := hb q rfl
    show nI p = nI q ↔ _
    rw [nI_eq (by omega) (by omega)]
    exact ⟨fun h => by rw [h], fun h => (Option.some.inj h).symm⟩
theorem neg1_lt : (-1 : Int32) < 0 := by decide
theorem HR_ovl {μ : ZMem} {v : Nat} {σ : Sg} (h : HR μ) : HR (ovl μ v σ) := HR_of h rfl
theorem isBorne_c {μ : ZMem} {v : Nat} {σ : Sg} (hv : VS v) (hw : Wf σ) : fX4_isBorne 131 v (ovl μ v σ) = some (ovl μ v σ, if sB σ = none then 0 else 1) := by
  obtain ⟨hN, -, -, hB, -, -⟩ := hw
  have e0 : b01 0 = true := by decide
  have e1 : b01 1 = true := by decide
  unfold fX4_isBorne
  rw [chk_t (VS_c hv), ovl_5, ovl_1, isIn_f, bd2_s]
  cases hb : sB σ with
  | none =>
    rw [if_neg (fun q => (fa_of_lt neg1_lt).2.1 q.1), if_pos rfl, chk_t e0]
  | some q =>
    have hq := hB q hb
    have h1 : (0 : Int32) ≤ nI q ∧ nI q ≤ nI (sN σ) - 1 := by
      have l0 : (0 : Int32) = nI 0 := rfl
      have l1 : (1 : Int32) = nI 1 := rfl
      rw [l0, l1, pk_sub (by omega)]
      exact ⟨(nI_leI (by omega) (by omega)).mpr (by omega), (nI_leI (by omega) (by omega)).mpr (by omega)⟩
    have h2 : (0 : Int32) ≤ oI (some q) ∧ oI (some q) ≤ nI (sN σ) - 1 := h1
    rw [if_pos h2, chk_t e1]
    rfl
theorem restAll_c {μ : ZMem} {v : Nat} {σ : Sg} (hv : VS v) (hR : HR μ) (hN : sN σ ≤ 7) (hP : ∀ p, p < sN σ → wfP (sP σ p)) : ∀ k i, i ≤ sN σ → sN σ < k + i → fX4_bearOrRest_b9 131 k v (nI i) (ovl μ v (wP σ (pmap (sP σ) i (fun p => sP σ p 4 - 2)))) = some (ovl μ v (wP σ (pmap (sP σ) (sN σ) (fun p => sP σ p 4 - 2)))) := by
  intro k
  induction k with
  | zero => intro i h1 h2; omega
  | succ k ih =>
    intro i h1 h2
    unfold fX4_bearOrRest_b9
    rw [ovl_1]
    show (if nI (sN σ) ≤ nI i then _ else _) = _
    by_cases hi : i = sN σ
    · rw [if_pos ((nI_leI (by omega) (by omega)).mpr (by omega)), hi]
      rfl
    · have e2 : (2 : Int32) = nI 2 := rfl
      have hp : i < sN σ := by omega
      have hwf : wfP (pmap (sP σ) i (fun p => sP σ p 4 - 2) i) := by rw [pmap_at _ _ (Nat.le_refl i)]; exact hP i hp
      rw [if_neg (fun q => by have := (nI_leI (by omega) (by omega)).mp q; omega), VS_r0 hv (HR_ovl hR), bd1_s, chk_t (VS_in hv (by omega)), VS_rp hv (HR_ovl hR) (by omega), bd1_s, e2, rest_c (σ := wP σ (pmap (sP σ) i (fun p => sP σ p 4 - 2))) (x := 2) hv hN hp hwf (by omega), bd1_s]
      have e : pset (pmap (sP σ) i (fun p => sP σ p 4 - 2)) i 4 (pmap (sP σ) i (fun p => sP σ p 4 - 2) i 4 - 2) = pmap (sP σ) (i + 1) (fun p => sP σ p 4 - 2) := by
        rw [← pmap_s, pmap_at _ _ (Nat.le_refl i)]
      show fX4_bearOrRest_b9 131 k v (nI i + 1) (ovl μ v (wP σ (pset (pmap (sP σ) i (fun p => sP σ p 4 - 2)) i 4 (pmap (sP σ) i (fun p => sP σ p 4 - 2) i 4 - 2)))) = _
      rw [e, nI_1]
      exact ih (i + 1) (by omega) (by omega)
def mBearF (σ : Sg) (b : Nat) : Nat → Nat := fun p => if p = b then min 99 (sP σ p 4 + mToil (sW σ) (sP σ p)) else sP σ p 4 - 1
theorem bearAll_c {μ : ZMem} {v : Nat} {σ : Sg} {b : Nat} (hv : VS v) (hR : HR μ) (hN : sN σ ≤ 7) (hW : sW σ ≤ 99) (hb : sB σ = some b) (hbN : b < sN σ) (hP : ∀ p, p < sN σ → wfP (sP σ p)) : ∀ k i, i ≤ sN σ → sN σ < k + i → fX4_bearOrRest_b83 131 k v (v + 2 + b) (nI i) (ovl μ v (wP σ (pmap (sP σ) i (mBearF σ b)))) = some (ovl μ v (wP σ (pmap (sP σ) (sN σ) (mBearF σ b)))) := by
  intro k
  induction k with
  | zero => intro i h1 h2; omega
  | succ k ih =>
    intro i h1 h2
    unfold fX4_bearOrRest_b83 fX4_bearOrRest_b124
    rw [ovl_1, ovl_5]
    show (if nI (sN σ) ≤ nI i then _ else if nI i = oI (sB σ) then _ else _) = _
    have eo : oI (sB σ) = nI b := by rw [hb]; rfl
    rw [eo]
    by_cases hi : i = sN σ
    · rw [if_pos ((nI_leI (by omega) (by omega)).mpr (by omega)), hi]
      rfl
    · have hp : i < sN σ := by omega
      have hat : pmap (sP σ) i (mBearF σ b) i = sP σ i := pmap_at _ _ (Nat.le_refl i)
      have hwf : wfP (pmap (sP σ) i (mBearF σ b) i) := by rw [hat]; exact hP i hp
      rw [if_neg (fun q => by have := (nI_leI (by omega) (by omega)).mp q; omega)]
      by_cases hib : i = b
      · subst hib
        have ht := mToil_le (w := sW σ) (hP i hp)
        rw [if_pos ((nI_eq (by omega) (by omega)).mpr rfl), ovl_2]
        show bd2 (fX1_toil 131 (v + 2 + i) (nI (sW σ)) _) _ = _
        rw [toil_c (σ := wP σ (pmap (sP σ) i (mBearF σ i))) hv hN hp hW hwf, bd2_s]
        show bd1 (fX1_grow 131 (v + 2 + i) (nI (mToil (sW σ) (pmap (sP σ) i (mBearF σ i) i))) _) _ = _
        rw [hat, grow_c (σ := wP σ (pmap (sP σ) i (mBearF σ i))) hv hN hp hwf (by omega), bd1_s]
        have e : pset (pmap (sP σ) i (mBearF σ i)) i 4 (min 99 (pmap (sP σ) i (mBearF σ i) i 4 + mToil (sW σ) (sP σ i))) = pmap (sP σ) (i + 1) (mBearF σ i) := by
          rw [← pmap_s, hat]
          congr 1
          simp [mBearF]
        show fX4_bearOrRest_b83 131 k v (v + 2 + i) (nI i + 1) (ovl μ v (wP σ (pset (pmap (sP σ) i (mBearF σ i)) i 4 (min 99 (pmap (sP σ) i (mBearF σ i) i 4 + mToil (sW σ) (sP σ i)))))) = _
        rw [e, nI_1]
        exact ih (i + 1) (by omega) (by omega)
      · rw [if_neg (fun q => hib ((nI_eq (by omega) (by omega)).mp q)), VS_r0 hv (HR_ovl hR), bd1_s, chk_t (VS_in hv (by omega)), VS_rp hv (HR_ovl hR) (by omega), bd1_s]
        have e2 : (1 : Int32) = nI 1 := rfl
        rw [e2, rest_c (σ := wP σ (pmap (sP σ) i (mBearF σ b))) (x := 1) hv hN hp hwf (by omega), bd1_s]
        have e : pset (pmap (sP σ) i (mBearF σ b)) i 4 (pmap (sP σ) i (mBearF σ b) i 4 - 1) = pmap (sP σ) (i + 1) (mBearF σ b) := by
          rw [← pmap_s, hat]
          congr 1
          simp [mBearF, hib]
        show fX4_bearOrRest_b83 131 k v (v + 2 + b) (nI i + 1) (ovl μ v (wP σ (pset (pmap (sP σ) i (mBearF σ b)) i 4 (pmap (sP σ) i (mBearF σ b) i 4 - 1)))) = _
        rw [e, nI_1]
        exact ih (i + 1) (by omega) (by omega)
def mBear (σ : Sg) : Sg := match sB σ with
  | none => wP σ (pmap (sP σ) (sN σ) (fun p => sP σ p 4 - 2))
  | some b => if sD σ < sY σ then wP (wD σ (min (sY σ) (sD σ + mPace (sW σ) (sP σ b)))) (pmap (sP σ) (sN σ) (mBearF σ b)) else σ
theorem bear_c {μ : ZMem} {v : Nat} {σ : Sg} (hv : VS v) (hR : HR μ) (hw : Wf σ) : fX4_bearOrRest 131 v (ovl μ v σ) = some (ovl μ v (mBear σ)) := by
  have hw0 := hw
  obtain ⟨hN, ⟨hW1, hW2⟩, ⟨hD, hY⟩, hB, hRu, hP⟩ := hw
  unfold fX4_bearOrRest fX4_bearOrRest_b130
  rw [chk_t (VS_c hv), isBorne_c hv hw0, bd2_s]
  unfold mBear
  cases hb : sB σ with
  | none =>
    have h := restAll_c (μ := μ) hv hR hN hP FU 0 (Nat.zero_le _) (by show sN σ < 2000 + 0; omega)
    rw [pmap_0] at h
    rw [if_pos rfl, if_pos rfl]
    exact h
  | some b =>
    have hbN := hB b hb
    have e5 : oI (sB σ) = nI b := by rw [hb]; rfl
    have hr : ¬ (if (some b : Option Nat) = none then (0 : Int32) else 1) = 0 := by simp
    rw [if_neg hr, ovl_3, ovl_4, ovl_5, ovl_2]
    show _ = some (ovl μ v (if sD σ < sY σ then wP (wD σ (min (sY σ) (sD σ + mPace (sW σ) (sP σ b)))) (pmap (sP σ) (sN σ) (mBearF σ b)) else σ))
    by_cases hd : sD σ < sY σ
    · rw [if_neg (fun q => by have := (nI_leI (by omega) (by omega)).mp q; omega), VS_r0 hv (HR_ovl hR), bd1_s, e5, chk_t (VS_in hv (by omega)), VS_rp hv (HR_ovl hR) (by omega), bd1_s, pace_c hv hN hbN hW1 hW2 (hP b hbN), bd2_s, lt_e]
      have hpc := mPace_le (w := sW σ) (q := sP σ b)
      have e : (if nI (sD σ) + nI (mPace (sW σ) (sP σ b)) < nI (sY σ) then nI (sD σ) + nI (mPace (sW σ) (sP σ b)) else nI (sY σ)) = nI (min (sY σ) (sD σ + mPace (sW σ) (sP σ b))) := by
        rw [nI_add]
        by_cases h : sD σ + mPace (sW σ) (sP σ b) < sY σ
        · rw [if_pos ((nI_ltI (by omega) (by omega)).mpr h), Nat.min_eq_right (by omega)]
        · rw [if_neg (fun q => h ((nI_ltI (by omega) (by omega)).mp q)), Nat.min_eq_left (by omega)]
      rw [e, ovl_u4, if_pos hd]
      have h := bearAll_c (μ := μ) (σ := wD σ (min (sY σ) (sD σ + mPace (sW σ) (sP σ b)))) hv hR hN hW2 hb hbN hP FU 0 (Nat.zero_le _) (by show sN σ < 2000 + 0; omega)
      rw [pmap_0] at h
      exact h
    · rw [if_pos ((nI_leI (by omega) (by omega)).mpr (by omega)), if_neg hd]
