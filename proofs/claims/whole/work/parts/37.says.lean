-- SAYS, TRACE, SIGHS
theorem saysU (x : Int32) (μ : ZMem) {k w : Nat} (hk : k < 7) (hw : w < 7) : (if nI w = (1 : Int32) then (if nI k = (3 : Int32) then fX7_says_b106 131 108 (nI w) x (nI k) μ else fX7_says_b83 131 108 (nI w) x (nI k) μ) else fX7_says_b83 131 108 (nI w) x (nI k) μ) = (if und k w = true then fX7_says_b135 131 108 (nI w) x μ else bd2 (fX7_no 131 108 (-2 : Int32) μ) (fun a b => some (a, b))) := by
  have c : k = 0 ∨ k = 1 ∨ k = 2 ∨ k = 3 ∨ k = 4 ∨ k = 5 ∨ k = 6 := by omega
  have d : w = 0 ∨ w = 1 ∨ w = 2 ∨ w = 3 ∨ w = 4 ∨ w = 5 ∨ w = 6 := by omega
  rcases c with rfl | rfl | rfl | rfl | rfl | rfl | rfl <;> rcases d with rfl | rfl | rfl | rfl | rfl | rfl | rfl <;> rfl
def sv (W w : Nat) (q : Nat → Nat) : Int32 := if w = 1 ∨ w = 3 then nI (mLimit q) else if w = 2 ∨ w = 5 then nI (mToil W q) else if w = 4 ∨ w = 6 then nI (mPace W q) else nI (q 4)
theorem Kp_says {S : St} (hw : WfS S) (v w : Int32) : Kp S (fX6_says 131 0 v w) (fX7_says 131 108 v w) := by
  have hN := hw.1.1
  have hWt := hw.1.2.1
  rcases shelf_or v with hv | ⟨s, hs, rfl⟩
  · refine Kp_no 1 (by omega) (by omega) hw (fun μ hR h => ?_) (fun μ hR h => ?_)
    · unfold fX6_says fX6_says_b14
      rw [chk_t c_c, isShelf_z hv, bd2_s, if_pos rfl, bd2_e]; rfl
    · unfold fX7_says fX7_says_b18
      rw [chk_t m_c, mShelf_z hv, bd2_s, if_pos rfl, bd2_e]; rfl
  · by_cases hk : (0 : Int32) ≤ w ∧ w ≤ 6
    rotate_left
    · refine Kp_no 1 (by omega) (by omega) hw (fun μ hR h => ?_) (fun μ hR h => ?_)
      · unfold fX6_says fX6_says_b14
        rw [chk_t c_c, isShelf_i hs, bd2_s, if_neg one_ne, isKind_z hk, bd2_s, if_pos rfl, bd2_e]; rfl
      · unfold fX7_says fX7_says_b18
        rw [chk_t m_c, mShelf_i hs, bd2_s, if_neg one_ne, lh_n hk, bd2_e]; rfl
    · obtain ⟨k, _, k6, rfl⟩ := in_nat (lo := 0) (hi := 6) (by omega) (by omega) hk
      have hq := (hw.2.2.1 s hs).1
      by_cases h1 : hW (gS S s) = 1
      · refine Kp_no 2 (by omega) (by omega) hw (fun μ hR h => ?_) (fun μ hR h => ?_)
        · unfold fX6_says
          rw [chk_t c_c, isShelf_i hs, bd2_s, if_neg one_ne, isKind_o hk, bd2_s, if_neg one_ne, cr0 hR, bd1_s, chk_t (shi hs), shr hR hs, bd1_s, isRow_y h hs h1, bd2_s, if_neg one_ne, bd2_e]; rfl
        · have e1 := mW2 hw h hs 1 (by omega)
          unfold fX7_says
          rw [chk_t m_c, mShelf_i hs, bd2_s, if_neg one_ne, lh_y hk, mr15 hR, bd1_s, chk_t (i15 hs), if_pos (show _ = (1 : Int32) from e1.mpr h1), bd2_e]; rfl
      · by_cases h2 : hW (gS S s) = 2
        rotate_left
        · refine Kp_no 3 (by omega) (by omega) hw (fun μ hR h => ?_) (fun μ hR h => ?_)
          · unfold fX6_says fX6_says_b59
            rw [chk_t c_c, isShelf_i hs, bd2_s, if_neg one_ne, isKind_o hk, bd2_s, if_neg one_ne, cr0 hR, bd1_s, chk_t (shi hs), shr hR hs, bd1_s, isRow_n hw h hs h1, bd2_s, if_pos rfl, isPer_n hw h hs h2, bd2_s, if_pos rfl, bd2_e]; rfl
          · have e1 := mW2 hw h hs 1 (by omega)
            have e0 := mW2 hw h hs 0 (by omega)
            unfold fX7_says
            rw [chk_t m_c, mShelf_i hs, bd2_s, if_neg one_ne, lh_y hk, mr15 hR, bd1_s, chk_t (i15 hs), if_neg (show ¬ _ = (1 : Int32) from fun q => h1 (e1.mp q)), bd1_s, chk_t (i15 hs), if_pos (show _ = (0 : Int32) from e0.mpr (by omega)), bd2_e]; rfl
        · have hp : hQ (gS S s) < sN (gV S) := (hw.2.2.1 s hs).2.2 h2
          obtain ⟨p, ep⟩ : ∃ p, p = hQ (gS S s) := ⟨_, rfl⟩
          rw [← ep] at hp
          have hp7 : p < 7 := by omega
          have hwp : wfP (sP (gV S) p) := hw.1.2.2.2.2.2 p hp
          have hkd : sP (gV S) p 0 < 7 := Nat.lt_succ_of_le hwp.1
          have eC : ∀ μ, InvC μ S → zI μ (2 + 2 * s) 3 = nI p := fun μ h => by rw [ep]; exact (h.2.2.2.2.2.1 s hs).2.2 h2
          have eM : ∀ μ, InvM μ S → zI μ 118 (nI s).toNatClampNeg = nI p := fun μ h => by rw [nI_clamp (by omega), ep]; exact (h.2.2.2.2.2.1 s hs).2.2 h2
          have stC : ∀ μ, HR μ → InvC μ S → fX6_says 131 0 (nI s) (nI k) μ = (if und (sP (gV S) p 0) k = true then some (μ, sv (sW (gV S)) k (sP (gV S) p)) else fX6_refuse 131 0 (-2) μ) := by
            intro μ hR h
            have c0 : zI μ (18 + 2 + p) 0 = nI (sP (gV S) p 0) := h.1.2 p hp 0 (by omega)
            have c4 : zI μ (18 + 2 + p) 4 = nI (sP (gV S) p 4) := h.1.2 p hp 4 (by omega)
            have k1 := pace_c (μ := μ) VS18 hN hp hWt.1 hWt.2 hwp
            have k2 := toil_c (μ := μ) (w := sW (gV S)) VS18 hN hp hWt.2 hwp
            have k3 := limit_c (μ := μ) VS18 hN hp hwp
            have k4 := ovl_2 μ 18 (gV S)
            rw [VH_e h.1] at k1 k2 k3 k4
            have b140 : fX6_says_b140 131 (18 + 2 + p) μ = some (μ, nI (mLimit (sP (gV S) p))) := by
              unfold fX6_says_b140
              rw [k3, bd2_s]
            have b146 : fX6_says_b146 131 0 (18 + 2 + p) μ = some (μ, nI (mToil (sW (gV S)) (sP (gV S) p))) := by
              unfold fX6_says_b146
              rw [cr1 hR, bd1_s, k4, k2, bd2_s]
            have b159 : fX6_says_b159 131 0 (18 + 2 + p) μ = some (μ, nI (mPace (sW (gV S)) (sP (gV S) p))) := by
              unfold fX6_says_b159
              rw [cr1 hR, bd1_s, k4, k1, bd2_s]
            unfold fX6_says
            rw [chk_t c_c, isShelf_i hs, bd2_s, if_neg one_ne, isKind_o hk, bd2_s, if_neg one_ne, cr0 hR, bd1_s, chk_t (shi hs), shr hR hs, bd1_s, isRow_n hw h hs h1, bd2_s, if_pos rfl, isPer_y h hs h2, bd2_s, if_neg one_ne, eC μ h, isPerson_i hR hw h hp, bd2_s, if_neg one_ne, cr1 hR, bd1_s, VS_r0 VS18 hR, bd1_s, eC μ h, chk_t (VS_in VS18 hp7), VS_rp VS18 hR hp7, bd1_s, c0, isUnder_c μ hkd (by omega), bd2_s, c4, b140, b146, b159, bd2_e]
            cases hu : und (sP (gV S) p 0) k with
            | false => rfl
            | true =>
              have d : k = 0 ∨ k = 1 ∨ k = 2 ∨ k = 3 ∨ k = 4 ∨ k = 5 ∨ k = 6 := by omega
              rcases d with rfl | rfl | rfl | rfl | rfl | rfl | rfl <;> rfl
          have stM : ∀ μ, HR μ → InvM μ S → fX7_says 131 108 (nI s) (nI k) μ = (if und (sP (gV S) p 0) k = true then some (μ, sv (sW (gV S)) k (sP (gV S) p)) else fX7_no 131 108 (-2) μ) := by
            intro μ hR h
            have e1 := mW2 hw h hs 1 (by omega)
            have e0 := mW2 hw h hs 0 (by omega)
            have c0 := mp0 μ (gV S) hp7
            have c4 := mp4 μ (gV S) hp7
            have k1 := pace_m (μ := μ) hR hp7 hWt.1 hWt.2 hwp
            have k2 := toil_m (μ := μ) hR hp7 hWt.2 hwp
            have k3 := limit_m (μ := μ) hR hp7 hwp
            rw [MH_e h.1] at c0 c4 k1 k2 k3
            have b183 : fX7_says_b183 131 108 (nI p) μ = some (μ, nI (mLimit (sP (gV S) p))) := by
              unfold fX7_says_b183
              rw [k3, bd2_s]
            have b189 : fX7_says_b189 131 108 (nI p) μ = some (μ, nI (mToil (sW (gV S)) (sP (gV S) p))) := by
              unfold fX7_says_b189
              rw [k2, bd2_s]
            have b195 : fX7_says_b195 131 108 (nI p) μ = some (μ, nI (mPace (sW (gV S)) (sP (gV S) p))) := by
              unfold fX7_says_b195
              rw [k1, bd2_s]
            unfold fX7_says
            rw [chk_t m_c, mShelf_i hs, bd2_s, if_neg one_ne, lh_y hk, mr15 hR, bd1_s, chk_t (i15 hs), if_neg (show ¬ _ = (1 : Int32) from fun q => h1 (e1.mp q)), bd1_s, chk_t (i15 hs), if_neg (show ¬ _ = (0 : Int32) from fun q => by have := e0.mp q; omega), mr18 hR, bd1_s, chk_t (i18 hs), eM μ h, mr10 hR, bd1_s, chk_t (mi10 hp7), c0, saysU (nI p) μ hkd (by omega), bd2_e]
            cases hu : und (sP (gV S) p 0) k with
            | false => rfl
            | true =>
              rw [if_pos rfl, if_pos rfl]
              unfold fX7_says_b135
              rw [mr14 hR, bd1_s, chk_t (mi14 hp7), c4, b183, b189, b195]
              have d : k = 0 ∨ k = 1 ∨ k = 2 ∨ k = 3 ∨ k = 4 ∨ k = 5 ∨ k = 6 := by omega
              rcases d with rfl | rfl | rfl | rfl | rfl | rfl | rfl <;> rfl
          cases hu : und (sP (gV S) p 0) k with
          | false =>
            refine Kp_no 2 (by omega) (by omega) hw (fun μ hR h => ?_) (fun μ hR h => ?_)
            · rw [stC μ hR h, hu]; rfl
            · rw [stM μ hR h, hu]; rfl
          | true =>
            refine Kp_q (sv (sW (gV S)) k (sP (gV S) p)) hw (fun μ hR h => ?_) (fun μ hR h => ?_)
            · rw [stC μ hR h, hu]; rfl
            · rw [stM μ hR h, hu]; rfl
theorem Kp_trace {S : St} (hw : WfS S) (v : Int32) : Kp S (fX6_trace 131 0 v) (fX7_trace 131 108 v) := by
  have hn := hw.2.2.2
  have c0 : isC 131 0 105 = true := by decide
  have r106 : ∀ μ, HR μ → zRc 131 100 μ 105 0 = some 106 := fun μ hR => zRc_of (hR (105, 0, 106) (by decide +kernel)) (by decide)
  have r130 : ∀ μ, HR μ → zRc 131 100 μ 108 39 = some 130 := fun μ hR => mr_ 39 130 (by decide +kernel) (by decide) hR
  have emin : (if (20 : Int32) < nI (gn S) then (20 : Int32) else nI (gn S)) = nI (min 20 (gn S)) := by
    by_cases h : 20 < gn S
    · rw [if_pos (show (20 : Int32) < nI (gn S) from (nI_ltI (a := 20) (by omega) (by omega)).mpr h), Nat.min_eq_left (by omega)]; rfl
    · rw [if_neg (show ¬ (20 : Int32) < nI (gn S) from fun q => h ((nI_ltI (a := 20) (by omega) (by omega)).mp q)), Nat.min_eq_right (by omega)]
  have st : ∀ μ, HR μ → InvC μ S → fX6_trace 131 0 v μ = (if (0 : Int32) ≤ v ∧ v ≤ nI (min 20 (gn S)) - 1 then chk (inb v 106) (some (μ, zI μ 106 v.toNatClampNeg)) else some (μ, -1)) := by
    intro μ hR h
    have en : zI μ 105 1 = nI (gn S) := h.2.2.2.2.2.2.1
    unfold fX6_trace fX0_bodyKept fX0_bodyKept_b29
    rw [chk_t c_c, cr6 hR, bd1_s, chk_t c0, en, emin]
    by_cases hb : (0 : Int32) ≤ v ∧ v ≤ nI (min 20 (gn S)) - 1
    · rw [isIn_o hb, bd2_s, if_neg one_ne, r106 μ hR, bd1_s, if_pos hb, bd2_e]
    · rw [isIn_z hb, bd2_s, if_pos rfl, if_neg hb, bd2_s]
  rcases nat_or v with hv | ⟨k, hk, rfl⟩
  · refine Kp_q (-1) hw (fun μ hR h => ?_) (fun μ hR h => ?_)
    · rw [st μ hR h, if_neg (fun q => z_lt hv (k := 0) (by omega) q.1)]
    · unfold fX7_trace fX7_trace_b27 fX7_trace_b28
      rw [chk_t m_c, if_pos hv]
  · by_cases h1 : k < min 20 (gn S)
    · refine Kp_q (gt S k) hw (fun μ hR h => ?_) (fun μ hR h => ?_)
      · have e : nI (min 20 (gn S)) - 1 = nI (min 20 (gn S) - 1) := pk_sub (b := 1) (by omega)
        rw [st μ hR h, e, if_pos ⟨show nI 0 ≤ nI k from (nI_leI (by omega) (by omega)).mpr (by omega), (nI_leI (by omega) (by omega)).mpr (by omega)⟩, chk_t (inb_nI (by rw [show zsz 106 = 20 by decide]; omega)), nI_clamp (by omega), ← h.2.2.2.2.2.2.2 k (by omega) (by omega)]
        rfl
      · have en : zI μ 108 40 = nI (gn S) := h.2.2.2.2.2.2.1
        unfold fX7_trace fX7_trace_b28
        rw [chk_t m_c, if_neg (nI_pos hk), if_neg (show ¬ (20 : Int32) ≤ nI k from fun q => by have := (nI_leI (a := 20) (by omega) (by omega)).mp q; omega), en, if_neg (fun q => by have := (nI_leI (by omega) (by omega)).mp q; omega), r130 μ hR, bd1_s, chk_t (inb_nI (by rw [show zsz 130 = 20 by decide]; omega)), nI_clamp (by omega), ← h.2.2.2.2.2.2.2.1 k (by omega) (by omega)]
        rfl
    · refine Kp_q (-1) hw (fun μ hR h => ?_) (fun μ hR h => ?_)
      · rw [st μ hR h, if_neg (fun q => ?_)]
        have q2 := q.2
        by_cases h0 : min 20 (gn S) = 0
        · rw [h0, fa_le, nI_toInt hk] at q2
          have : (nI 0 - 1).toInt = -1 := by decide
          omega
        · rw [show nI (min 20 (gn S)) - 1 = nI (min 20 (gn S) - 1) from pk_sub (b := 1) (by omega)] at q2
          have := (nI_leI (by omega) (by omega)).mp q2
          omega
      · have en : zI μ 108 40 = nI (gn S) := h.2.2.2.2.2.2.1
        unfold fX7_trace fX7_trace_b27 fX7_trace_b28
        rw [chk_t m_c, if_neg (nI_pos hk)]
        by_cases h20 : 20 ≤ k
        · rw [if_pos (show (20 : Int32) ≤ nI k from (nI_leI (a := 20) (by omega) (by omega)).mpr h20)]
        · rw [if_neg (show ¬ (20 : Int32) ≤ nI k from fun q => h20 ((nI_leI (a := 20) (by omega) (by omega)).mp q)), en, if_pos ((nI_leI (by omega) (by omega)).mpr (by omega))]
