-- SIGHS, A STEP, SAYINGS OF THE CLASS'S Vow
theorem wf_pmap {σ : Sg} {f : Nat → Nat} {i : Nat} (hP : ∀ p, p < sN σ → wfP (sP σ p)) (hf : ∀ p, p < sN σ → f p ≤ 99) : ∀ p, p < sN σ → wfP (pmap (sP σ) i f p) := by
  intro p hp
  obtain ⟨h0, h1, h2, h3, h4, h5⟩ := hP p hp
  have := hf p hp
  refine ⟨?_, ?_, ?_, ?_, ?_, ?_⟩
  · rw [pmap_j _ _ (by omega)]; exact h0
  · rw [pmap_j _ _ (by omega)]; exact h1
  · rw [pmap_j _ _ (by omega)]; exact h2
  · rw [pmap_j _ _ (by omega)]; exact h3
  · rw [pmap_j _ _ (by omega)]; exact h4
  · simp only [pmap]
    split <;> omega
theorem wf_pset {N p x : Nat} {P : Nat → Nat → Nat} (hP : ∀ q, q < N → wfP (P q)) (hx : x ≤ 99) : ∀ q, q < N → wfP (pset P p 4 x q) := by
  intro q hq
  obtain ⟨h0, h1, h2, h3, h4, h5⟩ := hP q hq
  refine ⟨?_, ?_, ?_, ?_, ?_, ?_⟩
  · rw [pset_ne _ _ (by omega)]; exact h0
  · rw [pset_ne _ _ (by omega)]; exact h1
  · rw [pset_ne _ _ (by omega)]; exact h2
  · rw [pset_ne _ _ (by omega)]; exact h3
  · rw [pset_ne _ _ (by omega)]; exact h4
  · simp only [pset]
    split <;> omega
theorem mBear_N (σ : Sg) : sN (mBear σ) = sN σ ∧ sB (mBear σ) = sB σ ∧ sW (mBear σ) = sW σ ∧ sY (mBear σ) = sY σ ∧ sR (mBear σ) = sR σ ∧ sS (mBear σ) = sS σ ∧ sT (mBear σ) = sT σ := by
  unfold mBear
  split
  · exact ⟨rfl, rfl, rfl, rfl, rfl, rfl, rfl⟩
  · split <;> exact ⟨rfl, rfl, rfl, rfl, rfl, rfl, rfl⟩
theorem Wf_bear {σ : Sg} (h : Wf σ) : Wf (mBear σ) := by
  have h0 := h
  obtain ⟨hN, hW, ⟨hD, hY⟩, hB, hR, hP⟩ := h
  unfold mBear
  split
  · refine ⟨hN, hW, ⟨hD, hY⟩, hB, hR, wf_pmap hP fun p hp => ?_⟩
    have := (hP p hp).2.2.2.2.2
    omega
  · split
    · refine ⟨hN, hW, ⟨Nat.min_le_left _ _, hY⟩, hB, hR, wf_pmap hP fun p hp => ?_⟩
      have := (hP p hp).2.2.2.2.2
      unfold mBearF
      split <;> omega
    · exact h0
def mCnt (σ : Sg) (s : Nat) : Bool := decide (s ≤ 4) && (sR σ / 2 ^ s % 2 == 1)
theorem counts_bit {r s : Nat} (hr : r ≤ 31) (hs : s ≤ 4) : (nI r >>> (nI s &&& 31)) &&& 1 = nI (r / 2 ^ s % 2) := by
  have e1 : nI r >>> (nI s &&& 31) = nI (r / 2 ^ s) := by
    refine pk_shrN (by omega) _ s ?_
    have h : ∀ s, s ≤ 4 → ((nI s &&& 31).toBitVec.smod 32).toNat = s := by decide
    exact h s hs
  have e2 : (1 : Int32) = nI (2 ^ 1 - 1) := rfl
  rw [e1, e2, fa_mask]
theorem counts_c {μ : ZMem} {v : Nat} {σ : Sg} {s : Nat} (hv : VS v) (hw : Wf σ) (hs : s ≤ 5) : fX4_counts 131 v (nI s) (ovl μ v σ) = some (ovl μ v σ, if mCnt σ s = true then 1 else 0) := by
  obtain ⟨hN, -, -, hB, hR, -⟩ := hw
  have e0 : b01 0 = true := by decide
  have e1 : b01 1 = true := by decide
  unfold fX4_counts fX4_counts_b25 fX4_counts_b26
  rw [chk_t (VS_c hv), isIn_f, bd2_s, ovl_7, chk_t e0, chk_t e1]
  have l0 : (0 : Int32) = nI 0 := rfl
  have l4 : (4 : Int32) = nI 4 := rfl
  have l1 : (1 : Int32) = nI 1 := rfl
  unfold mCnt
  by_cases h4 : s ≤ 4
  · have h1 : (0 : Int32) ≤ nI s ∧ nI s ≤ 4 := by
      rw [l0, l4]
      exact ⟨(nI_leI (by omega) (by omega)).mpr (by omega), (nI_leI (by omega) (by omega)).mpr (by omega)⟩
    rw [if_pos h1, if_neg (by decide), counts_bit hR h4]
    by_cases hb : sR σ / 2 ^ s % 2 = 1
    · rw [hb, if_pos (show nI 1 = (1 : Int32) from rfl), if_pos (by simp [h4])]
    · have hn : ¬ nI (sR σ / 2 ^ s % 2) = (1 : Int32) := fun q => hb ((nI_eq (b := 1) (by omega) (by omega)).mp q)
      rw [if_neg hn, if_neg (by simp [hb])]
  · have h1 : ¬ ((0 : Int32) ≤ nI s ∧ nI s ≤ 4) := by
      rw [l0, l4]
      exact fun q => h4 ((nI_leI (by omega) (by omega)).mp q.2)
    rw [if_neg h1, if_pos rfl, if_neg (by simp [h4])]
def mCond (σ : Sg) (sil : Option Nat) (p : Nat) : Bool := !decide (sB σ = some p) && (!decide (sil = some p) && mSigh (sP σ p))
def mLast (σ : Sg) (sil : Option Nat) : Nat → Option Nat
  | 0 => none
  | i + 1 => if mCond σ sil i = true then some i else mLast σ sil i
theorem mLast_lt {σ : Sg} {sil : Option Nat} {q : Nat} : ∀ {i : Nat}, mLast σ sil i = some q → q < i := by
  intro i
  induction i with
  | zero => intro h; cases h
  | succ i ih =>
    intro h
    unfold mLast at h
    split at h
    · cases h; omega
    · have := ih h; omega
def mCome (sil : Option Nat) (σ : Sg) : Sg := match mLast σ sil (sN σ) with
  | none => σ
  | some q => wP (wB σ (some q)) (pset (sP σ) q 4 (sP σ q 4 - 5))
theorem comeLoop_c {μ : ZMem} {v : Nat} {σ : Sg} {sil : Option Nat} (hv : VS v) (hR : HR μ) (hw : Wf σ) (hm : ∀ q, sil = some q → q < 1000) : ∀ k i, i ≤ sN σ → sN σ < k + i → fX4_comeToSigher_b4 131 k v (oI sil) (oI (mLast σ sil i)) (nI i) (ovl μ v σ) = some (ovl μ v (mCome sil σ)) := by
  obtain ⟨hN, -, -, hB, hRu, hP⟩ := hw
  intro k
  induction k with
  | zero => intro i h1 h2; omega
  | succ k ih =>
    intro i h1 h2
    unfold fX4_comeToSigher_b4 fX4_comeToSigher_b39 fX4_comeToSigher_b65
    rw [ovl_1, ovl_5, nI_1]
    by_cases hi : i = sN σ
    · rw [if_pos ((nI_leI (by omega) (by omega)).mpr (by omega)), hi]
      unfold mCome
      cases hl : mLast σ sil (sN σ) with
      | none => exact if_pos rfl
      | some q =>
        have hq := mLast_lt hl
        have hn : ¬ oI (some q) = (-1 : Int32) := by
          intro h
          have h1 : (nI q).toInt = (-1 : Int32).toInt := congrArg Int32.toInt h
          rw [nI_toInt (by omega)] at h1
          have h2 : (-1 : Int32).toInt = -1 := by decide
          omega
        have e5 : (5 : Int32) = nI 5 := rfl
        have eo : oI (some q) = nI q := rfl
        rw [if_neg hn, lt_e, ovl_u5, VS_r0 hv (HR_ovl hR), bd1_s, eo, chk_t (VS_in hv (by omega)), VS_rp hv (HR_ovl hR) (by omega), bd1_s, e5, rest_c (σ := wB σ (some q)) (x := 5) hv hN hq (hP q hq) (by omega), bd1_s]
    · have hp : i < sN σ := by omega
      rw [if_neg (fun q => by have := (nI_leI (by omega) (by omega)).mp q; omega)]
      have next : ∀ l, mLast σ sil (i + 1) = l → fX4_comeToSigher_b4 131 k v (oI sil) (oI l) (nI (i + 1)) (ovl μ v σ) = some (ovl μ v (mCome sil σ)) := fun l hl => by
        rw [← hl]
        exact ih (i + 1) (by omega) (by omega)
      by_cases hb : sB σ = some i
      · rw [if_pos ((oI_eq (by omega) (fun q hq => by have := hB q hq; omega)).mpr hb)]
        refine next _ ?_
        show (if mCond σ sil i = true then some i else mLast σ sil i) = _
        rw [if_neg (by simp [mCond, hb])]
      · rw [if_neg (fun q => hb ((oI_eq (by omega) (fun q hq => by have := hB q hq; omega)).mp q))]
        by_cases hmm : sil = some i
        · rw [if_pos ((oI_eq (by omega) hm).mpr hmm)]
          refine next _ ?_
          show (if mCond σ sil i = true then some i else mLast σ sil i) = _
          rw [if_neg (by simp [mCond, hmm])]
        · rw [if_neg (fun q => hmm ((oI_eq (by omega) hm).mp q)), VS_r0 hv (HR_ovl hR), bd1_s, chk_t (VS_in hv (by omega)), VS_rp hv (HR_ovl hR) (by omega), bd1_s, sigh_c hv hN hp (hP i hp), bd2_s]
          by_cases hs : mSigh (sP σ i) = true
          · rw [if_pos hs, if_neg (by decide)]
            refine next (some i) ?_
            show (if mCond σ sil i = true then some i else mLast σ sil i) = _
            rw [if_pos (by simp [mCond, hb, hmm, hs])]
          · rw [if_neg hs, if_pos rfl]
            refine next _ ?_
            show (if mCond σ sil i = true then some i else mLast σ sil i) = _
            rw [if_neg (by simp [mCond, hs])]
theorem come_c {μ : ZMem} {v : Nat} {σ : Sg} {sil : Option Nat} (hv : VS v) (hR : HR μ) (hw : Wf σ) (hm : ∀ q, sil = some q → q < 1000) : fX4_comeToSigher 131 v (oI sil) (ovl μ v σ) = some (ovl μ v (mCome sil σ)) := by
  unfold fX4_comeToSigher
  rw [chk_t (VS_c hv)]
  have hN := hw.1
  exact comeLoop_c hv hR hw hm FU 0 (Nat.zero_le _) (by show sN σ < 2000 + 0; omega)
theorem mCome_N (sil : Option Nat) (σ : Sg) : sN (mCome sil σ) = sN σ ∧ sW (mCome sil σ) = sW σ ∧ sY (mCome sil σ) = sY σ ∧ sD (mCome sil σ) = sD σ ∧ sR (mCome sil σ) = sR σ ∧ sS (mCome sil σ) = sS σ ∧ sT (mCome sil σ) = sT σ := by
  unfold mCome
  split <;> exact ⟨rfl, rfl, rfl, rfl, rfl, rfl, rfl⟩
theorem Wf_come {sil : Option Nat} {σ : Sg} (h : Wf σ) : Wf (mCome sil σ) := by
  have h0 := h
  obtain ⟨hN, hW, hD, hB, hR, hP⟩ := h
  unfold mCome
  cases hl : mLast σ sil (sN σ) with
  | none => exact h0
  | some q =>
    have hq := mLast_lt hl
    have := (hP q hq).2.2.2.2.2
    exact ⟨hN, hW, hD, fun b hb => by cases hb; exact hq, hR, wf_pset hP (by omega)⟩
def mStep (sil : Option Nat) (σ : Sg) : Sg :=
  let σ2 := if mCnt (mBear σ) 0 = true then mCome sil (mBear σ) else mBear σ
  wT σ2 (sT σ2 + 1)
theorem Wf_wT {σ : Sg} {x : Int32} (h : Wf σ) : Wf (wT σ x) := h
theorem Wf_step {sil : Option Nat} {σ : Sg} (h : Wf σ) : Wf (mStep sil σ) := by
  unfold mStep
  dsimp only
  split
  · exact Wf_wT (Wf_come (Wf_bear h))
  · exact Wf_wT (Wf_bear h)
theorem mStep_N (sil : Option Nat) (σ : Sg) : sN (mStep sil σ) = sN σ ∧ sW (mStep sil σ) = sW σ ∧ sY (mStep sil σ) = sY σ ∧ sR (mStep sil σ) = sR σ ∧ sS (mStep sil σ) = sS σ := by
  obtain ⟨b1, b2, b3, b4, b5, b6, b7⟩ := mBear_N σ
  obtain ⟨c1, c2, c3, c4, c5, c6, c7⟩ := mCome_N sil (mBear σ)
  unfold mStep
  dsimp only
  split
  · exact ⟨c1.trans b1, c2.trans b3, c3.trans b4, c5.trans b5, c6.trans b6⟩
  · exact ⟨b1, b3, b4, b5, b6⟩
theorem step_c {μ : ZMem} {v : Nat} {σ : Sg} {sil : Option Nat} (hv : VS v) (hR : HR μ) (hw : Wf σ) (hm : ∀ q, sil = some q → q < 1000) : fX4_step 131 v (oI sil) (ovl μ v σ) = some (ovl μ v (mStep sil σ)) := by
  unfold fX4_step fX4_step_b17
  have l0 : (0 : Int32) = nI 0 := rfl
  rw [chk_t (VS_c hv), bear_c hv hR hw, bd1_s]
  show bd2 (fX4_counts 131 v (nI 0) (ovl μ v (mBear σ))) _ = _
  rw [counts_c hv (Wf_bear hw) (by omega), bd2_s]
  unfold mStep
  dsimp only
  by_cases hc : mCnt (mBear σ) 0 = true
  · rw [if_pos hc, if_pos hc, if_neg (by decide), come_c hv hR (Wf_bear hw) hm, bd1_s, lt_e, ovl_6, ovl_u6]
  · rw [if_neg hc, if_neg hc, if_pos rfl, lt_e, ovl_6, ovl_u6]
