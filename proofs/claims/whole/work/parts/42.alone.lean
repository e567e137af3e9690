-- ALONE
def mTill (L t u : Nat) : Nat → Nat → Option Nat
  | 0, _ => none
  | r + 1, i => if L < min 99 (t + i * u) then some i else mTill L t u r (i + 1)
theorem cap_e {x : Nat} (h : x < 100000) : (if nI x < (99 : Int32) then nI x else (99 : Int32)) = nI (min 99 x) := by
  simp (disch := omega) only [i_lit, nI_ltI]
  split
  · rw [Nat.min_eq_right (by omega)]
  · rw [Nat.min_eq_left (by omega)]
theorem till_c {μ : ZMem} {v : Nat} {σ : Sg} {p u : Nat} (hv : VS v) (hN : sN σ ≤ 7) (hp : p < sN σ) (hq : wfP (sP σ p)) (hu : u ≤ 108) : ∀ k i, i ≤ 101 → 101 < k + i → fX1_stepsToLimit_b8 131 k (v + 2 + p) (nI u) (nI i) (ovl μ v σ) = some (ovl μ v σ, oI (mTill (mLimit (sP σ p)) (sP σ p 4) u (101 - i) i)) := by
  have hL := mLimit_le hq
  have h4 := hq.2.2.2.2.2
  intro k
  induction k with
  | zero => intro i _ _; omega
  | succ k ih =>
    intro i q1 q2
    have hb : i * u ≤ 101 * 108 := Nat.mul_le_mul q1 hu
    rw [fX1_stepsToLimit_b8]
    by_cases hi : i = 101
    · subst hi
      rw [if_pos (show (100 : Int32) < nI 101 from by decide)]
      rfl
    · rw [if_neg (show ¬ (100 : Int32) < nI i from fun q => by have := (nI_ltI (a := 100) (by omega) (by omega)).mp q; omega), limit_c hv hN hp hq, bd2_s, ovl_p μ v σ hp (by omega), pk_mul, nI_add, cap_e (by omega), nI_1, show 101 - i = (101 - (i + 1)) + 1 by omega]
      unfold mTill
      by_cases hc : mLimit (sP σ p) < min 99 (sP σ p 4 + i * u)
      · rw [if_neg (fun q => by have := (nI_leI (by omega) (by omega)).mp q; omega), if_pos hc]
        rfl
      · rw [if_pos ((nI_leI (by omega) (by omega)).mpr (by omega)), if_neg hc, ih (i + 1) (by omega) (by omega)]
theorem till_m {μ : ZMem} {σ : Sg} {p : Nat} (hR : HR μ) (hp : p < 7) (hw : sW σ ≤ 99) (hq : wfP (sP σ p)) : ∀ k i, i ≤ 101 → 101 < k + i → fX7_tillAbove_b9 131 k 108 (nI p) (nI (min 99 (sP σ p 4 + i * mToil (sW σ) (sP σ p)))) (nI i) (ovm μ σ) = some (ovm μ σ, oI (mTill (mLimit (sP σ p)) (sP σ p 4) (mToil (sW σ) (sP σ p)) (101 - i) i)) := by
  have hL := mLimit_le hq
  have hT := mToil_le (w := sW σ) hq
  have h4 := hq.2.2.2.2.2
  intro k
  induction k with
  | zero => intro i _ _; omega
  | succ k ih =>
    intro i q1 q2
    have hb : i * mToil (sW σ) (sP σ p) ≤ 101 * 108 := Nat.mul_le_mul q1 (by omega)
    rw [fX7_tillAbove_b9]
    unfold fX7_tillAbove_b50
    by_cases hi : i = 101
    · subst hi
      rw [if_pos (show (100 : Int32) < nI 101 from by decide)]
      rfl
    · rw [if_neg (show ¬ (100 : Int32) < nI i from fun q => by have := (nI_ltI (a := 100) (by omega) (by omega)).mp q; omega), limit_m hR hp hq, bd2_s, toil_m hR hp hw hq, bd2_s, toil_m hR hp hw hq, bd2_s, nI_add, nI_1, show 101 - i = (101 - (i + 1)) + 1 by omega]
      unfold mTill
      by_cases hc : mLimit (sP σ p) < min 99 (sP σ p 4 + i * mToil (sW σ) (sP σ p))
      · rw [if_neg (fun q => by have := (nI_leI (by omega) (by omega)).mp q; omega), if_pos hc]
        rfl
      · have nxt := ih (i + 1) (by omega) (by omega)
        have es : (i + 1) * mToil (sW σ) (sP σ p) = i * mToil (sW σ) (sP σ p) + mToil (sW σ) (sP σ p) := Nat.succ_mul _ _
        rw [if_pos ((nI_leI (by omega) (by omega)).mpr (by omega)), if_neg hc, ← nxt, es]
        have l99 : (99 : Int32) = nI 99 := rfl
        by_cases h9 : min 99 (sP σ p 4 + i * mToil (sW σ) (sP σ p)) + mToil (sW σ) (sP σ p) ≤ 99
        · rw [l99, if_pos ((nI_leI (by omega) (by omega)).mpr h9), show min 99 (sP σ p 4 + i * mToil (sW σ) (sP σ p)) + mToil (sW σ) (sP σ p) = min 99 (sP σ p 4 + (i * mToil (sW σ) (sP σ p) + mToil (sW σ) (sP σ p))) by omega]
        · rw [l99, if_neg (fun q => h9 ((nI_leI (by omega) (by omega)).mp q)), show min 99 (sP σ p 4 + (i * mToil (sW σ) (sP σ p) + mToil (sW σ) (sP σ p))) = 99 by omega]
theorem Kp_alone {S : St} (hw : WfS S) (v w : Int32) : Kp S (fX6_alone 131 0 v w) (fX7_alone 131 108 v w) := by
  have hN := hw.1.1
  rcases one_or S v with hv | ⟨p, hp, rfl⟩
  · refine Kp_far 1 (by omega) (by omega) hw (fun μ hR h => ?_) (fun μ hR h => ?_)
    · unfold fX6_alone
      rw [chk_t c_c, isPerson_z hR hw h hv, bd2_s, if_pos rfl, bd2_e]; rfl
    · unfold fX7_alone
      rw [chk_t m_c, isOne_z hw h hv, bd2_s, if_pos rfl, bd2_e]; rfl
  · by_cases hb : (0 : Int32) ≤ w ∧ w ≤ 1
    · have hp7 : p < 7 := by omega
      have hq : wfP (sP (gV S) p) := hw.1.2.2.2.2.2 p hp
      have hW := hw.1.2.1
      have hD := hw.1.2.2.1
      have hpc := mPace_le (w := sW (gV S)) (q := sP (gV S) p)
      have hT := mToil_le (w := sW (gV S)) hq
      have h4 := hq.2.2.2.2.2
      refine Kp_q (if w = 0 then nI (mUp (sY (gV S) - sD (gV S)) (mPace (sW (gV S)) (sP (gV S) p))) else oI (mTill (mLimit (sP (gV S) p)) (sP (gV S) p 4) (mToil (sW (gV S)) (sP (gV S) p)) 101 0)) hw (fun μ hR h => ?_) (fun μ hR h => ?_)
      · have k1 := pace_c (μ := μ) VS18 hN hp hW.1 hW.2 hq
        have k2 := toil_c (μ := μ) (w := sW (gV S)) VS18 hN hp hW.2 hq
        have k3 := till_c (μ := μ) (u := mToil (sW (gV S)) (sP (gV S) p)) VS18 hN hp hq (by omega) FU 0 (by omega) (by show 101 < 2000 + 0; omega)
        have f2 := ovl_2 μ 18 (gV S)
        have f3 := ovl_3 μ 18 (gV S)
        have f4 := ovl_4 μ 18 (gV S)
        rw [VH_e h.1] at k1 k2 k3 f2 f3 f4
        unfold fX6_alone fX1_stepsToLimit
        rw [chk_t c_c, isPerson_i hR hw h hp, bd2_s, if_neg one_ne, isIn_o hb, bd2_s, if_neg one_ne, cr1 hR, bd1_s, VS_r0 VS18 hR, bd1_s, chk_t (VS_in VS18 hp7), VS_rp VS18 hR hp7, bd1_s, bd1_s, bd1_s, bd1_s, bd1_s, f2, f3, f4, k1, bd2_s, pk_sub hD.1, upward_f (by omega) hpc.1 (by omega), bd2_s, chk_t (VS_1 VS18 hp7), k2, bd2_s, bd2_e]
        by_cases h0 : w = 0
        · rw [if_pos h0, if_pos h0]
        · rw [if_neg h0, if_neg h0]
          exact k3
      · have k1 := pace_m (μ := μ) hR hp7 hW.1 hW.2 hq
        have k3 := till_m (μ := μ) hR hp7 hW.2 hq FU 0 (by omega) (by show 101 < 2000 + 0; omega)
        have f2 := ovm_2 μ (gV S)
        have f3 := ovm_3 μ (gV S)
        have f4 := mp4 μ (gV S) hp7
        rw [MH_e h.1] at k1 k3 f2 f3 f4
        have e0 : min 99 (sP (gV S) p 4 + 0 * mToil (sW (gV S)) (sP (gV S) p)) = sP (gV S) p 4 := by
          rw [Nat.zero_mul, Nat.add_zero]
          omega
        rw [e0] at k3
        have l1 : (1 : Int32) = nI 1 := rfl
        have ea : (nI (sY (gV S)) - nI (sD (gV S)) + nI (mPace (sW (gV S)) (sP (gV S) p)) - (1 : Int32)) / nI (mPace (sW (gV S)) (sP (gV S) p)) = nI (mUp (sY (gV S) - sD (gV S)) (mPace (sW (gV S)) (sP (gV S) p))) := by
          rw [pk_sub hD.1, nI_add, l1, pk_sub (by omega), pk_div (by omega) (by omega) (by omega)]
          rfl
        unfold fX7_alone fX7_alone_b65 fX7_tillAbove
        rw [chk_t m_c, isOne_i hw h hp, bd2_s, if_neg one_ne, lh_y hb, k1, bd2_s, k1, bd2_s, chk_t (nzT (by omega) (by omega)), f2, f3, ea, mr14 hR, bd1_s, chk_t (mi14 hp7), f4, bd2_e, chk_t m_c]
        by_cases h0 : w = 0
        · rw [if_pos h0, if_pos h0]
        · rw [if_neg h0, if_neg h0]
          exact k3
    · refine Kp_far 5 (by omega) (by omega) hw (fun μ hR h => ?_) (fun μ hR h => ?_)
      · unfold fX6_alone
        rw [chk_t c_c, isPerson_i hR hw h hp, bd2_s, if_neg one_ne, isIn_z hb, bd2_s, if_pos rfl, bd2_e]; rfl
      · unfold fX7_alone fX7_alone_b23
        rw [chk_t m_c, isOne_i hw h hp, bd2_s, if_neg one_ne, lh_n hb, bd2_e]; rfl
