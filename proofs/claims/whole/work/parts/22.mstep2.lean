theorem restAll_m {μ : ZMem} {σ : Sg} {fl : Int32} (hR : HR μ) (hN : sN σ ≤ 7) (hP : ∀ p, p < sN σ → wfP (sP σ p)) : ∀ k i, i ≤ sN σ → sN σ < k + i → fX7_step_b10 131 k 108 fl (nI i) (ovm μ (wP σ (pmap (sP σ) i (fun p => sP σ p 4 - 2)))) = fX7_step_b127 131 108 fl (ovm μ (wP σ (pmap (sP σ) (sN σ) (fun p => sP σ p 4 - 2)))) := by
  intro k
  induction k with
  | zero => intro i h1 h2; omega
  | succ k ih =>
    intro i h1 h2
    rw [fX7_step_b10, ovm_0]
    show (if nI (sN σ) ≤ nI i then _ else _) = _
    by_cases hi : i = sN σ
    · rw [if_pos ((nI_leI (by omega) (by omega)).mpr (by omega)), hi]
    · have e2 : (-2 : Int32) = -nI 2 := rfl
      have hp : i < sN σ := by omega
      have hat : pmap (sP σ) i (fun p => sP σ p 4 - 2) i = sP σ i := pmap_at _ _ (Nat.le_refl i)
      have hwf : wfP (pmap (sP σ) i (fun p => sP σ p 4 - 2) i) := by rw [hat]; exact hP i hp
      rw [if_neg (fun q => by have := (nI_leI (by omega) (by omega)).mp q; omega), e2, untire_m (σ := wP σ (pmap (sP σ) i (fun p => sP σ p 4 - 2))) (x := 2) hR (by omega) hwf.2.2.2.2.2 (by omega) (by omega), bd1_s]
      have e : pset (pmap (sP σ) i (fun p => sP σ p 4 - 2)) i 4 (pmap (sP σ) i (fun p => sP σ p 4 - 2) i 4 - 2) = pmap (sP σ) (i + 1) (fun p => sP σ p 4 - 2) := by
        rw [← pmap_s, hat]
      show fX7_step_b10 131 k 108 fl (nI i + 1) (ovm μ (wP σ (pset (pmap (sP σ) i (fun p => sP σ p 4 - 2)) i 4 (pmap (sP σ) i (fun p => sP σ p 4 - 2) i 4 - 2)))) = _
      rw [e, nI_1]
      exact ih (i + 1) (by omega) (by omega)
theorem bearAll_m {μ : ZMem} {σ : Sg} {b : Nat} {fl : Int32} (hR : HR μ) (hN : sN σ ≤ 7) (hW : sW σ ≤ 99) (hb : sB σ = some b) (hbN : b < sN σ) (hP : ∀ p, p < sN σ → wfP (sP σ p)) : ∀ k i, i ≤ sN σ → sN σ < k + i → fX7_step_b91 131 k 108 fl (nI i) (ovm μ (wP σ (pmap (sP σ) i (mBearF σ b)))) = fX7_step_b127 131 108 fl (ovm μ (wP σ (pmap (sP σ) (sN σ) (mBearF σ b)))) := by
  intro k
  induction k with
  | zero => intro i h1 h2; omega
  | succ k ih =>
    intro i h1 h2
    rw [fX7_step_b91, ovm_0, ovm_4]
    unfold fX7_step_b118
    have eo : oI (sB σ) = nI b := by rw [hb]; rfl
    show (if nI (sN σ) ≤ nI i then _ else if nI i = oI (sB σ) then _ else _) = _
    rw [eo]
    by_cases hi : i = sN σ
    · rw [if_pos ((nI_leI (by omega) (by omega)).mpr (by omega)), hi]
    · have hp : i < sN σ := by omega
      have hat : pmap (sP σ) i (mBearF σ b) i = sP σ i := pmap_at _ _ (Nat.le_refl i)
      have hwf : wfP (pmap (sP σ) i (mBearF σ b) i) := by rw [hat]; exact hP i hp
      rw [if_neg (fun q => by have := (nI_leI (by omega) (by omega)).mp q; omega)]
      by_cases hib : i = b
      · subst hib
        have ht := mToil_le (w := sW σ) (hP i hp)
        rw [if_pos ((nI_eq (by omega) (by omega)).mpr rfl), toil_m (σ := wP σ (pmap (sP σ) i (mBearF σ i))) hR (by omega) hW hwf, bd2_s]
        show bd1 (fX7_tires 131 108 (nI i) (nI (mToil (sW σ) (pmap (sP σ) i (mBearF σ i) i))) _) _ = _
        rw [hat, tires_m (σ := wP σ (pmap (sP σ) i (mBearF σ i))) hR (by omega) hwf.2.2.2.2.2 (by omega), bd1_s]
        have e : pset (pmap (sP σ) i (mBearF σ i)) i 4 (min 99 (pmap (sP σ) i (mBearF σ i) i 4 + mToil (sW σ) (sP σ i))) = pmap (sP σ) (i + 1) (mBearF σ i) := by
          rw [← pmap_s, hat]
          congr 1
          simp [mBearF]
        show fX7_step_b91 131 k 108 fl (nI i + 1) (ovm μ (wP σ (pset (pmap (sP σ) i (mBearF σ i)) i 4 (min 99 (pmap (sP σ) i (mBearF σ i) i 4 + mToil (sW σ) (sP σ i)))))) = _
        rw [e, nI_1]
        exact ih (i + 1) (by omega) (by omega)
      · have e2 : (-1 : Int32) = -nI 1 := rfl
        rw [if_neg (fun q => hib ((nI_eq (by omega) (by omega)).mp q)), e2, untire_m (σ := wP σ (pmap (sP σ) i (mBearF σ b))) (x := 1) hR (by omega) hwf.2.2.2.2.2 (by omega) (by omega), bd1_s]
        have e : pset (pmap (sP σ) i (mBearF σ b)) i 4 (pmap (sP σ) i (mBearF σ b) i 4 - 1) = pmap (sP σ) (i + 1) (mBearF σ b) := by
          rw [← pmap_s, hat]
          congr 1
          simp [mBearF, hib]
        show fX7_step_b91 131 k 108 fl (nI i + 1) (ovm μ (wP σ (pset (pmap (sP σ) i (mBearF σ b)) i 4 (pmap (sP σ) i (mBearF σ b) i 4 - 1)))) = _
        rw [e, nI_1]
        exact ih (i + 1) (by omega) (by omega)
theorem bear_m {μ : ZMem} {σ : Sg} {fl : Int32} (hR : HR μ) (hw : Wf σ) : fX7_step 131 108 fl (ovm μ σ) = fX7_step_b127 131 108 fl (ovm μ (mBear σ)) := by
  obtain ⟨hN, ⟨hW1, hW2⟩, ⟨hD, hY⟩, hB, hRu, hP⟩ := hw
  unfold fX7_step
  rw [chk_t m_c, ovm_4, ovm_2, ovm_3]
  unfold mBear
  cases hb : sB σ with
  | none =>
    have h := restAll_m (μ := μ) (fl := fl) hR hN hP FU 0 (Nat.zero_le _) (by show sN σ < 2000 + 0; omega)
    rw [pmap_0] at h
    have hn : oI (none : Option Nat) = (-1 : Int32) := rfl
    rw [if_pos hn]
    exact h
  | some b =>
    have hbN := hB b hb
    have hn : ¬ oI (some b) = (-1 : Int32) := by
      intro h
      have h1 : (nI b).toInt = (-1 : Int32).toInt := congrArg Int32.toInt h
      rw [nI_toInt (by omega)] at h1
      have h2 : (-1 : Int32).toInt = -1 := by decide
      omega
    have eo : oI (some b) = nI b := rfl
    rw [if_neg hn, eo]
    show _ = fX7_step_b127 131 108 fl (ovm μ (if sD σ < sY σ then wP (wD σ (min (sY σ) (sD σ + mPace (sW σ) (sP σ b)))) (pmap (sP σ) (sN σ) (mBearF σ b)) else σ))
    by_cases hd : sD σ < sY σ
    · have hpc := mPace_le (w := sW σ) (q := sP σ b)
      rw [if_neg (fun q => by have := (nI_leI (by omega) (by omega)).mp q; omega), pace_m hR (by omega) hW1 hW2 (hP b hbN), bd2_s, ovm_2, ovm_4, ovm_3, hb, eo, pace_m hR (by omega) hW1 hW2 (hP b hbN), bd2_s, nI_add]
      unfold fX7_step_b86
      rw [lt_e, lt_e, ovm_u3, ovm_u3, if_pos hd]
      have h := fun D => bearAll_m (μ := μ) (fl := fl) (σ := wD σ D) hR hN hW2 hb hbN hP FU 0 (Nat.zero_le _) (by show sN σ < 2000 + 0; omega)
      by_cases hle : sD σ + mPace (sW σ) (sP σ b) ≤ sY σ
      · have h1 := h (sD σ + mPace (sW σ) (sP σ b))
        rw [pmap_0] at h1
        rw [if_pos ((nI_leI (by omega) (by omega)).mpr hle), Nat.min_eq_right hle]
        exact h1
      · have h1 := h (sY σ)
        rw [pmap_0] at h1
        rw [if_neg (fun q => hle ((nI_leI (by omega) (by omega)).mp q)), Nat.min_eq_left (by omega)]
        exact h1
    · rw [if_pos ((nI_leI (by omega) (by omega)).mpr (by omega)), if_neg hd]
theorem ovm_33 (μ : ZMem) (σ : Sg) : zI (ovm μ σ) 108 33 = zI μ 108 33 := ovm_o μ σ (by omega)
theorem scan_m {μ : ZMem} {σ : Sg} {sil : Option Nat} (hR : HR μ) (hw : Wf σ) (h33 : zI μ 108 33 = oI sil) (hm : ∀ q, sil = some q → q < 1000) : ∀ k i, i ≤ sN σ → sN σ < k + i → fX7_step_b131 131 k 108 0 (oI (mLast σ sil i)) (nI i) (ovm μ σ) = some (ovm μ (wT (if mCnt σ 0 = true then mCome sil σ else σ) (sT σ + 1))) := by
  obtain ⟨hN, -, -, hB, hRu, hP⟩ := hw
  intro k
  induction k with
  | zero => intro i h1 h2; omega
  | succ k ih =>
    intro i h1 h2
    rw [fX7_step_b131]
    unfold fX7_step_b170 fX7_step_b203
    rw [ovm_0, ovm_4, ovm_6, ovm_33, h33, nI_1]
    by_cases hi : i = sN σ
    · rw [if_pos ((nI_leI (by omega) (by omega)).mpr (by omega)), hi]
      have e1 : (1 : Int32) = nI (2 ^ 1 - 1) := rfl
      have eb : nI (sR σ) &&& (1 : Int32) = nI (sR σ % 2) := by rw [e1, fa_mask]
      have ec : mCnt σ 0 = (sR σ % 2 == 1) := by simp [mCnt]
      rw [eb, ec]
      unfold mCome
      cases hl : mLast σ sil (sN σ) with
      | none =>
        have hn : oI (none : Option Nat) = (-1 : Int32) := rfl
        rw [if_pos hn, lt_e, ovm_5, ovm_u5]
        simp
      | some q =>
        have hq := mLast_lt hl
        have hn : ¬ oI (some q) = (-1 : Int32) := by
          intro h
          have h1 : (nI q).toInt = (-1 : Int32).toInt := congrArg Int32.toInt h
          rw [nI_toInt (by omega)] at h1
          have h2 : (-1 : Int32).toInt = -1 := by decide
          omega
        have e5 : (-5 : Int32) = -nI 5 := rfl
        have eo : oI (some q) = nI q := rfl
        rw [if_neg hn, lt_e, lt_e, ovm_u4, eo, e5, untire_m (σ := wB σ (some q)) (x := 5) hR (by omega) (hP q hq).2.2.2.2.2 (by omega) (by omega), bd1_s, lt_e, ovm_5, ovm_u5, ovm_5, ovm_u5]
        by_cases hc : sR σ % 2 = 1
        · rw [hc, if_pos (show nI 1 = (1 : Int32) from rfl), if_pos (by decide)]
        · have hnc : ¬ nI (sR σ % 2) = (1 : Int32) := fun q => hc ((nI_eq (b := 1) (by omega) (by omega)).mp q)
          rw [if_neg hnc, if_neg (by simp [hc])]
    · have hp : i < sN σ := by omega
      rw [if_neg (fun q => by have := (nI_leI (by omega) (by omega)).mp q; omega), if_pos (rfl : (0 : Int32) = 0)]
      have next : ∀ l, mLast σ sil (i + 1) = l → fX7_step_b131 131 k 108 0 (oI l) (nI (i + 1)) (ovm μ σ) = some (ovm μ (wT (if mCnt σ 0 = true then mCome sil σ else σ) (sT σ + 1))) := fun l hl => by
        rw [← hl]
        exact ih (i + 1) (by omega) (by omega)
      by_cases hb : sB σ = some i
      · rw [if_pos ((oI_eq (by omega) (fun q hq => by have := hB q hq; omega)).mpr hb)]
        refine next _ ?_
        show (if mCond σ sil i = true then some i else mLast σ sil i) = _
        rw [if_neg (by simp [mCond, hb])]
      · rw [if_neg (fun q => hb ((oI_eq (by omega) (fun q hq => by have := hB q hq; omega)).mp q))]
        by_cases hmm : sil = some i
        · rw [if_pos ((oI_eq (by omega) hm).mpr hmm)]
          refine next _ ?_
          show (if mCond σ sil i = true then some i else mLast σ sil i) = _
          rw [if_neg (by simp [mCond, hmm])]
        · have e0 : (0 : Int32) = nI 0 := rfl
          have hw0 := would_m (μ := μ) (σ := σ) (p := i) (x := 0) hR (by omega) (hP i hp) (by omega)
          rw [← e0] at hw0
          rw [if_neg (fun q => hmm ((oI_eq (by omega) hm).mp q)), hw0, bd2_s, mWould_0]
          by_cases hs : mSigh (sP σ i) = true
          · rw [if_pos hs, if_neg (by decide)]
            refine next (some i) ?_
            show (if mCond σ sil i = true then some i else mLast σ sil i) = _
            rw [if_pos (by simp [mCond, hb, hmm, hs])]
          · rw [if_neg hs, if_pos rfl]
            refine next _ ?_
            show (if mCond σ sil i = true then some i else mLast σ sil i) = _
            rw [if_neg (by simp [mCond, hs])]
theorem step_m {μ : ZMem} {σ : Sg} {sil : Option Nat} (hR : HR μ) (hw : Wf σ) (h33 : zI μ 108 33 = oI sil) (hm : ∀ q, sil = some q → q < 1000) : fX7_step 131 108 0 (ovm μ σ) = some (ovm μ (mStep sil σ)) := by
  rw [bear_m hR hw]
  unfold fX7_step_b127
  have hN := (Wf_bear hw).1
  have h := scan_m hR (Wf_bear hw) h33 hm FU 0 (Nat.zero_le _) (by show sN (mBear σ) < 2000 + 0; omega)
  refine Eq.trans h ?_
  unfold mStep
  dsimp only
  split
  · rw [(mCome_N sil (mBear σ)).2.2.2.2.2.2]
  · rfl
def mQuiet (σ : Sg) : Sg := wT (mBear σ) (sT (mBear σ) + 1)
theorem quiet_m {μ : ZMem} {σ : Sg} (hR : HR μ) (hw : Wf σ) : fX7_step 131 108 1 (ovm μ σ) = some (ovm μ (mQuiet σ)) := by
  rw [bear_m hR hw]
  unfold fX7_step_b127
  have hN := (Wf_bear hw).1
  have key : ∀ k i, i ≤ sN (mBear σ) → sN (mBear σ) < k + i → fX7_step_b131 131 k 108 1 (-1) (nI i) (ovm μ (mBear σ)) = some (ovm μ (mQuiet σ)) := by
    intro k
    induction k with
    | zero => intro i h1 h2; omega
    | succ k ih =>
      intro i h1 h2
      rw [fX7_step_b131]
      unfold fX7_step_b170 fX7_step_b203
      rw [ovm_0, nI_1]
      by_cases hi : i = sN (mBear σ)
      · rw [if_pos ((nI_leI (by omega) (by omega)).mpr (by omega)), if_pos (rfl : (-1 : Int32) = -1), lt_e, ovm_5, ovm_u5]
        rfl
      · rw [if_neg (fun q => by have := (nI_leI (by omega) (by omega)).mp q; omega), if_neg (show ¬ (1 : Int32) = 0 by decide)]
        exact ih (i + 1) (by omega) (by omega)
  exact key FU 0 (Nat.zero_le _) (by show sN (mBear σ) < 2000 + 0; omega)
