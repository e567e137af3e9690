-- READY, PERSONOF, ASK, PERSON, TRACE
def mMiss (q : Nat → Nat) : Nat := mLimit q + 1 - q 4
theorem miss_c {μ : ZMem} {v : Nat} {σ : Sg} {p : Nat} (hv : VS v) (hN : sN σ ≤ 7) (hp : p < sN σ) (hq : wfP (sP σ p)) : fX1_missingToSigh 131 (v + 2 + p) (ovl μ v σ) = some (ovl μ v σ, if sP σ p 0 = 5 then -1 else nI (mMiss (sP σ p))) := by
  have hL := mLimit_le hq
  obtain ⟨h0, h1, h2, h3, h4, h5⟩ := id hq
  unfold fX1_missingToSigh fX1_missingToSigh_b27
  rw [chk_t (VS_1 hv (by omega)), ovl_p μ v σ hp (by omega)]
  by_cases h : sP σ p 0 = 5
  · rw [if_pos (show nI (sP σ p 0) = (5 : Int32) from (nI_eq (b := 5) (by omega) (by omega)).mpr h), if_pos h]
  · rw [if_neg (show ¬ nI (sP σ p 0) = (5 : Int32) from fun q => h ((nI_eq (b := 5) (by omega) (by omega)).mp q)), if_neg h, limit_c hv hN hp hq, bd2_s, ovl_p μ v σ hp (by omega), nI_1]
    congr 2
    unfold mMiss
    by_cases g : sP σ p 4 ≤ mLimit (sP σ p) + 1
    · rw [pk_sub g]
      simp (disch := omega) only [i_lit, nI_ltI]
      split
      · rfl
      · rw [show mLimit (sP σ p) + 1 - sP σ p 4 = 0 by omega]
    · rw [if_neg (fun q => (fa_of_lt (pk_sneg (by omega) (by omega : mLimit (sP σ p) + 1 < sP σ p 4))).2.2.1 q), show mLimit (sP σ p) + 1 - sP σ p 4 = 0 by omega]
      rfl
theorem Kp_ready {S : St} (hw : WfS S) (v : Int32) : Kp S (fX6_ready 131 0 v) (fX7_ready 131 108 v) := by
  have hN := hw.1.1
  rcases one_or S v with hv | ⟨p, hp, rfl⟩
  · refine Kp_far 1 (by omega) (by omega) hw (fun μ hR h => ?_) (fun μ hR h => ?_)
    · unfold fX6_ready
      rw [chk_t c_c, isPerson_z hR hw h hv, bd2_s, if_pos rfl, bd2_e]; rfl
    · unfold fX7_ready
      rw [chk_t m_c, isOne_z hw h hv, bd2_s, if_pos rfl, bd2_e]; rfl
  · have hp7 : p < 7 := by omega
    have hq : wfP (sP (gV S) p) := hw.1.2.2.2.2.2 p hp
    have hL := mLimit_le hq
    obtain ⟨g0, g1, g2, g3, g4, g5⟩ := id hq
    refine Kp_q (if sP (gV S) p 0 = 5 then -1 else nI (mMiss (sP (gV S) p))) hw (fun μ hR h => ?_) (fun μ hR h => ?_)
    · have k1 := miss_c (μ := μ) VS18 hN hp hq
      rw [VH_e h.1] at k1
      unfold fX6_ready
      rw [chk_t c_c, isPerson_i hR hw h hp, bd2_s, if_neg one_ne, cr1 hR, bd1_s, VS_r0 VS18 hR, bd1_s, chk_t (VS_in VS18 hp7), VS_rp VS18 hR hp7, bd1_s, k1, bd2_s]
    · have e0 := mp0 μ (gV S) hp7
      have e4 := mp4 μ (gV S) hp7
      have k1 := would_m (μ := μ) (x := 0) hR hp7 hq (by omega)
      have k2 := limit_m (μ := μ) hR hp7 hq
      rw [MH_e h.1] at e0 e4 k1 k2
      unfold fX7_ready fX7_ready_b53
      rw [chk_t m_c, isOne_i hw h hp, bd2_s, if_neg one_ne, mr10 hR, bd1_s, chk_t (mi10 hp7), e0]
      by_cases h5 : sP (gV S) p 0 = 5
      · rw [if_pos (show nI (sP (gV S) p 0) = (5 : Int32) from (nI_eq (b := 5) (by omega) (by omega)).mpr h5), if_pos h5]
      · rw [if_neg (show ¬ nI (sP (gV S) p 0) = (5 : Int32) from fun q => h5 ((nI_eq (b := 5) (by omega) (by omega)).mp q)), if_neg h5, show fX7_wouldSigh 131 108 (nI p) 0 μ = _ from k1, bd2_s]
        have hm : mWould (sP (gV S) p) 0 = decide (mLimit (sP (gV S) p) < sP (gV S) p 4) := by
          unfold mWould
          simp [h5]
        by_cases hc : mLimit (sP (gV S) p) < sP (gV S) p 4
        · rw [hm, if_pos (decide_eq_true hc), if_neg one_ne]
          unfold mMiss
          rw [show mLimit (sP (gV S) p) + 1 - sP (gV S) p 4 = 0 by omega]
          rfl
        · rw [hm, decide_eq_false hc, if_neg (by decide : ¬ (false = true)), if_pos rfl, k2, bd2_s, mr14 hR, bd1_s, chk_t (mi14 hp7), e4, nI_1, pk_sub (by omega)]
          rfl
theorem Kp_personOf {S : St} (hw : WfS S) (v w : Int32) : Kp S (fX6_personOf 131 0 v w) (fX7_personOf 131 108 v w) := by
  have hN := hw.1.1
  rcases one_or S v with hv | ⟨p, hp, rfl⟩
  · refine Kp_no 5 (by omega) (by omega) hw (fun μ hR h => ?_) (fun μ hR h => ?_)
    · unfold fX6_personOf
      rw [chk_t c_c, isPerson_z hR hw h hv, bd2_s, if_pos rfl, bd2_e]; rfl
    · unfold fX7_personOf
      rw [chk_t m_c, isOne_z hw h hv, bd2_s, if_pos rfl, bd2_e]; rfl
  · have hp7 : p < 7 := by omega
    have hq : wfP (sP (gV S) p) := hw.1.2.2.2.2.2 p hp
    have hW := hw.1.2.1
    have cC : ∀ μ, HR μ → InvC μ S → ∀ f, bd1 (zRc 131 4 μ 0 1) (fun r5 => bd1 (zRc 131 102 μ r5 0) (fun r7 => chk (inb (nI p) r7) (bd1 (zRc 131 1 μ r7 (nI p).toNatClampNeg) f))) = (f (18 + 2 + p) : Option (ZMem × Int32)) := by
      intro μ hR h f
      rw [cr1 hR, bd1_s, VS_r0 VS18 hR, bd1_s, chk_t (VS_in VS18 hp7), VS_rp VS18 hR hp7, bd1_s]
    have cI : ∀ μ, InvC μ S → ∀ j, j < 5 → zI μ (18 + 2 + p) j = nI (sP (gV S) p j) := fun μ h j hj => h.1.2 p hp j hj
    have mI : ∀ μ, InvM μ S → ∀ j, j < 5 → zI μ (110 + j) (nI p).toNatClampNeg = nI (sP (gV S) p j) := fun μ h j hj => by rw [nI_clamp (by omega)]; exact h.1.2 p hp7 j hj
    have cS : ∀ μ, HR μ → InvC μ S → fX6_personOf 131 0 (nI p) w μ = (if w = (0 : Int32) then some (μ, nI (sP (gV S) p 0)) else if w = (1 : Int32) then some (μ, nI (sP (gV S) p 1)) else if w = (2 : Int32) then some (μ, nI (sP (gV S) p 2)) else if w = (3 : Int32) then some (μ, nI (sP (gV S) p 3)) else if w = (4 : Int32) then some (μ, nI (sP (gV S) p 4)) else if w = (5 : Int32) then some (μ, nI (mPace (sW (gV S)) (sP (gV S) p))) else if w = (6 : Int32) then some (μ, nI (mToil (sW (gV S)) (sP (gV S) p))) else if w = (7 : Int32) then some (μ, nI (mLimit (sP (gV S) p))) else fX6_refuse 131 0 (-5) μ) := by
      intro μ hR h
      have k1 := pace_c (μ := μ) VS18 hN hp hW.1 hW.2 hq
      have k2 := toil_c (μ := μ) (w := sW (gV S)) VS18 hN hp hW.2 hq
      have k3 := limit_c (μ := μ) VS18 hN hp hq
      have k4 := ovl_2 μ 18 (gV S)
      rw [VH_e h.1] at k1 k2 k3 k4
      unfold fX6_personOf
      rw [chk_t c_c, isPerson_i hR hw h hp, bd2_s, if_neg one_ne, cC μ hR h, cI μ h 0 (by omega), cI μ h 1 (by omega), cI μ h 2 (by omega), cI μ h 3 (by omega), cI μ h 4 (by omega), cr1 hR, bd1_s, bd1_s, k4, k1, k2, k3, bd2_s, bd2_s, bd2_s, bd2_e]
    have mS : ∀ μ, HR μ → InvM μ S → fX7_personOf 131 108 (nI p) w μ = (if w = (0 : Int32) then some (μ, nI (sP (gV S) p 0)) else if w = (1 : Int32) then some (μ, nI (sP (gV S) p 1)) else if w = (2 : Int32) then some (μ, nI (sP (gV S) p 2)) else if w = (3 : Int32) then some (μ, nI (sP (gV S) p 3)) else if w = (4 : Int32) then some (μ, nI (sP (gV S) p 4)) else if w = (5 : Int32) then some (μ, nI (mPace (sW (gV S)) (sP (gV S) p))) else if w = (6 : Int32) then some (μ, nI (mToil (sW (gV S)) (sP (gV S) p))) else if w = (7 : Int32) then some (μ, nI (mLimit (sP (gV S) p))) else fX7_no 131 108 (-5) μ) := by
      intro μ hR h
      have k1 := pace_m (μ := μ) hR hp7 hW.1 hW.2 hq
      have k2 := toil_m (μ := μ) hR hp7 hW.2 hq
      have k3 := limit_m (μ := μ) hR hp7 hq
      rw [MH_e h.1] at k1 k2 k3
      unfold fX7_personOf
      rw [chk_t m_c, isOne_i hw h hp, bd2_s, if_neg one_ne, mr10 hR, bd1_s, chk_t (mi10 hp7), mr11 hR, bd1_s, chk_t (mi11 hp7), mr12 hR, bd1_s, chk_t (mi12 hp7), mr13 hR, bd1_s, chk_t (mi13 hp7), mr14 hR, bd1_s, chk_t (mi14 hp7), mI μ h 0 (by omega), mI μ h 1 (by omega), mI μ h 2 (by omega), mI μ h 3 (by omega), mI μ h 4 (by omega), k1, k2, k3, bd2_s, bd2_s, bd2_s, bd2_e]
    by_cases hn : w = 0 ∨ w = 1 ∨ w = 2 ∨ w = 3 ∨ w = 4 ∨ w = 5 ∨ w = 6 ∨ w = 7
    · refine Kp_q (if w = (0 : Int32) then nI (sP (gV S) p 0) else if w = (1 : Int32) then nI (sP (gV S) p 1) else if w = (2 : Int32) then nI (sP (gV S) p 2) else if w = (3 : Int32) then nI (sP (gV S) p 3) else if w = (4 : Int32) then nI (sP (gV S) p 4) else if w = (5 : Int32) then nI (mPace (sW (gV S)) (sP (gV S) p)) else if w = (6 : Int32) then nI (mToil (sW (gV S)) (sP (gV S) p)) else nI (mLimit (sP (gV S) p))) hw (fun μ hR h => ?_) (fun μ hR h => ?_)
      · rw [cS μ hR h]
        rcases hn with rfl | rfl | rfl | rfl | rfl | rfl | rfl | rfl <;> rfl
      · rw [mS μ hR h]
        rcases hn with rfl | rfl | rfl | rfl | rfl | rfl | rfl | rfl <;> rfl
    · have n : w ≠ 0 ∧ w ≠ 1 ∧ w ≠ 2 ∧ w ≠ 3 ∧ w ≠ 4 ∧ w ≠ 5 ∧ w ≠ 6 ∧ w ≠ 7 := by
        refine ⟨?_, ?_, ?_, ?_, ?_, ?_, ?_, ?_⟩ <;> (rintro rfl; exact hn (by decide))
      obtain ⟨n0, n1, n2, n3, n4, n5, n6, n7⟩ := n
      refine Kp_no 5 (by omega) (by omega) hw (fun μ hR h => ?_) (fun μ hR h => ?_)
      · rw [cS μ hR h, if_neg n0, if_neg n1, if_neg n2, if_neg n3, if_neg n4, if_neg n5, if_neg n6, if_neg n7]; rfl
      · rw [mS μ hR h, if_neg n0, if_neg n1, if_neg n2, if_neg n3, if_neg n4, if_neg n5, if_neg n6, if_neg n7]; rfl
theorem lh_y {α : Type} {v lo hi : Int32} {X Y Z : α} (h : lo ≤ v ∧ v ≤ hi) : (if v < lo then X else if v ≤ hi then Y else Z) = Y := by
  rw [if_neg (fun q => (fa_of_lt q).2.1 h.1), if_pos h.2]
theorem lh_n {α : Type} {v lo hi : Int32} {X Y : α} (h : ¬ (lo ≤ v ∧ v ≤ hi)) : (if v < lo then X else if v ≤ hi then Y else X) = X := by
  by_cases h1 : v < lo
  · rw [if_pos h1]
  · rw [if_neg h1, if_neg (fun q => h ⟨fa_of_nlt h1, q⟩)]
theorem Kp_ask {S : St} (hw : WfS S) (w v : Int32) : Kp S (fX6_ask 131 0 w v) (fX7_ask 131 108 w v) := by
  have hN := hw.1.1
  obtain ⟨q1, q2, q3, q4, q5, q6⟩ := id hw.1
  have n10 : ¬ (1 : Int32) = 0 := by decide
  have n20 : ¬ (2 : Int32) = 0 := by decide
  have n21 : ¬ (2 : Int32) = 1 := by decide
  have n02 : ¬ (0 : Int32) = 2 := by decide
  have n01 : ¬ (0 : Int32) = 1 := by decide
  have n12 : ¬ (1 : Int32) = 2 := by decide
  by_cases h0 : w = 0
  · subst h0
    by_cases hb : (1 : Int32) ≤ v ∧ v ≤ 99
    · obtain ⟨k, k0, k5, rfl⟩ := in_nat (lo := 1) (hi := 99) (by omega) (by omega) hb
      refine Kp_V (nI (sW (gV S))) (wW (gV S) k) hw ⟨q1, ⟨k0, k5⟩, q3, q4, q5, q6⟩ (Nat.le_refl _) (fun μ hR h e => ?_) (fun μ hR h e => ?_)
      · have k1 := ovl_u2 μ 18 (gV S) k
        have k2 := ovl_2 μ 18 (gV S)
        rw [e] at k1 k2
        unfold fX6_ask fX6_ask_b115
        rw [chk_t c_c, if_pos rfl, isIn_o hb, bd2_s, if_neg one_ne, cr1 hR, bd1_s, bd1_s, lt_e, k1, k2]
      · have k1 := ovm_u1 μ (gV S) k
        have k2 := ovm_1 μ (gV S)
        rw [e] at k1 k2
        unfold fX7_ask fX7_ask_b56 fX7_ask_b95 fX7_ask_b127
        rw [chk_t m_c, if_pos rfl, isF_o hb, bd2_s, if_neg one_ne, if_pos rfl, if_pos rfl, lt_e, k1, k2]
    · refine Kp_no 6 (by omega) (by omega) hw (fun μ hR h => ?_) (fun μ hR h => ?_)
      · unfold fX6_ask fX6_ask_b33 fX6_ask_b74 fX6_ask_b108 fX6_ask_b115
        rw [chk_t c_c, if_pos rfl, isIn_z hb, bd2_s, if_pos rfl, if_neg n01, if_neg n02, bd2_e]; rfl
      · unfold fX7_ask fX7_ask_b56
        rw [chk_t m_c, if_pos rfl, isF_z hb, bd2_s, if_pos rfl, bd2_e]; rfl
  · by_cases h1 : w = 1
    · subst h1
      by_cases hb : nI (sD (gV S)) ≤ v ∧ v ≤ 999
      · obtain ⟨k, k0, k5, rfl⟩ := in_nat (lo := sD (gV S)) (hi := 999) (by omega) (by omega) hb
        refine Kp_V (nI (sY (gV S))) (wY (gV S) k) hw ⟨q1, q2, ⟨k0, k5⟩, q4, q5, q6⟩ (Nat.le_refl _) (fun μ hR h e => ?_) (fun μ hR h e => ?_)
        · have k1 := ovl_u3 μ 18 (gV S) k
          have k2 := ovl_3 μ 18 (gV S)
          have k3 := ovl_4 μ 18 (gV S)
          rw [e] at k1 k2 k3
          unfold fX6_ask fX6_ask_b33 fX6_ask_b115
          rw [chk_t c_c, if_neg n10, if_pos rfl, cr1 hR, bd1_s, k3, isIn_o hb, bd2_s, if_neg one_ne, cr1 hR, bd1_s, bd1_s, lt_e, k1, k2]
        · have k1 := ovm_u2 μ (gV S) k
          have k2 := ovm_2 μ (gV S)
          have k3 := ovm_3 μ (gV S)
          rw [e] at k1 k2 k3
          unfold fX7_ask fX7_ask_b56 fX7_ask_b95 fX7_ask_b127
          rw [chk_t m_c, if_neg n10, if_pos rfl, k3, isF_o hb, bd2_s, if_neg one_ne, if_neg n10, if_pos rfl, if_neg n10, if_pos rfl, lt_e, k1, k2]
      · refine Kp_no 6 (by omega) (by omega) hw (fun μ hR h => ?_) (fun μ hR h => ?_)
        · have k3 : zI μ 18 4 = nI (sD (gV S)) := h.1.1 4 (by omega) (by omega)
          unfold fX6_ask fX6_ask_b33 fX6_ask_b74 fX6_ask_b108 fX6_ask_b115
          rw [chk_t c_c, if_neg n10, if_pos rfl, cr1 hR, bd1_s, k3, isIn_z hb, bd2_s, if_pos rfl, if_neg n12, bd2_e]; rfl
        · have k3 : zI μ 108 3 = nI (sD (gV S)) := h.1.1 3 (by omega)
          unfold fX7_ask fX7_ask_b56
          rw [chk_t m_c, if_neg n10, if_pos rfl, k3, isF_z hb, bd2_s, if_pos rfl, bd2_e]; rfl
    · by_cases h2 : w = 2
      · subst h2
        by_cases hb : (0 : Int32) ≤ v ∧ v ≤ 31
        · obtain ⟨k, k0, k5, rfl⟩ := in_nat (lo := 0) (hi := 31) (by omega) (by omega) hb
          refine Kp_V (nI (sR (gV S))) (wR (gV S) k) hw ⟨q1, q2, q3, q4, k5, q6⟩ (Nat.le_refl _) (fun μ hR h e => ?_) (fun μ hR h e => ?_)
          · have k1 := ovl_u7 μ 18 (gV S) k
            have k2 := ovl_7 μ 18 (gV S)
            rw [e] at k1 k2
            unfold fX6_ask fX6_ask_b33 fX6_ask_b74 fX6_ask_b115
            rw [chk_t c_c, if_neg n20, if_neg n21, if_pos rfl, isIn_o hb, bd2_s, if_neg one_ne, cr1 hR, bd1_s, bd1_s, lt_e, k1, k2]
          · have k1 := ovm_u6 μ (gV S) k
            have k2 := ovm_6 μ (gV S)
            rw [e] at k1 k2
            unfold fX7_ask fX7_ask_b56 fX7_ask_b95 fX7_ask_b127
            rw [chk_t m_c, if_neg n20, if_neg n21, if_pos rfl, isF_o hb, bd2_s, if_neg one_ne, if_neg one_ne, if_neg n20, if_neg n21, if_neg n20, if_neg n21, lt_e, k1, k2]
        · refine Kp_no 6 (by omega) (by omega) hw (fun μ hR h => ?_) (fun μ hR h => ?_)
          · unfold fX6_ask fX6_ask_b33 fX6_ask_b74 fX6_ask_b108 fX6_ask_b115
            rw [chk_t c_c, if_neg n20, if_neg n21, if_pos rfl, isIn_z hb, bd2_s, if_pos rfl, bd2_e]; rfl
          · unfold fX7_ask fX7_ask_b55 fX7_ask_b56
            rw [chk_t m_c, if_neg n20, if_neg n21, if_pos rfl, isF_z hb, bd2_s, if_pos rfl, if_pos rfl, bd2_e]; rfl
      · refine Kp_no 6 (by omega) (by omega) hw (fun μ hR h => ?_) (fun μ hR h => ?_)
        · unfold fX6_ask fX6_ask_b33 fX6_ask_b74 fX6_ask_b108 fX6_ask_b115
          rw [chk_t c_c, if_neg h0, if_neg h1, if_neg h2, bd2_e]; rfl
        · unfold fX7_ask fX7_ask_b55 fX7_ask_b56
          rw [chk_t m_c, if_neg h0, if_neg h1, if_neg h2, if_pos rfl, bd2_e]; rfl
