-- JUDGE, BEHIND, DONE
theorem back_m {μ : ZMem} {S : St} (hR : HR μ) (hw : WfS S) (h : InvM μ S) : HR (ovm (sav μ 127 (gV S)) (gV S)) ∧ InvM (ovm (sav μ 127 (gV S)) (gV S)) S ∧ EqC μ (ovm (sav μ 127 (gV S)) (gV S)) := by
  obtain ⟨ν, e, a1, a2, a3⟩ := RM_L (a := 127) (x := 0) (r := some (ovm (sav μ 127 (gV S)) (gV S), 0)) (Or.inr rfl) hR hw h rfl
  cases e
  exact ⟨a1, a2, a3⟩
theorem sav_m {μ : ZMem} {S : St} (hw : WfS S) (h : InvM μ S) : InvM (sav μ 127 (gV S)) S := InvM_f hw h (fun a k q => sav_o (by omega)) (fun k => rfl)
theorem xE_m {μ : ZMem} {S : St} (hR : HR μ) (hw : WfS S) (h : InvM μ S) {s c : Nat} (hs : s < 8) (e : hW (gS S s) = 1) (hc : c ≤ hZ (gS S s)) : ∀ σ, ∀ i, i < c → fX7_intAt 131 108 (nI s) (nI i) (ovm (sav μ 127 (gV S)) σ) = some (ovm (sav μ 127 (gV S)) σ, xE (gS S s) i) := by
  intro σ i hi
  have hz := ((hw.2.2.1 s hs).2.1 e).2
  exact intAt_e (HR_ovm (HR_sav hR)) hs (by omega) (((h.2.2.2.2.2.1 s hs).2.1 e).2.2 i (by omega))
theorem Kp_judge {S : St} (hw : WfS S) (v n : Int32) : Kp S (fX6_judge 131 0 v n) (fX7_judge 131 108 v n) := by
  rcases talk_or hw v n 1 with ⟨k, k1, k7, t⟩ | ⟨_, s, c, hs, h1, h40, hc, rfl, rfl, t⟩
  · refine Kp_far k k1 k7 hw (fun μ hR h => ?_) (fun μ hR h => ?_)
    · unfold fX6_judge
      rw [chk_t c_c, (t μ hR).1 h, bd2_s, if_neg (neg_ne k1 k7), bd2_e]
    · unfold fX7_judge
      rw [chk_t m_c, (t μ hR).2 h, bd2_s, if_neg (neg_ne k1 k7), bd2_e]
  · have hz := ((hw.2.2.1 s hs).2.1 h1).2
    refine ⟨(oI (mWrong (sN (gV S)) (xE (gS S s)) c 0), S), hw, fun μ hR h => RC_q hR h ?_, fun μ hR h => RM_L (a := 127) (Or.inr rfl) hR hw h ?_⟩
    · have k1 := wrong_c hR hw h hs h1 hc FU 0 (by omega) (by show c < 2000 + 0; omega)
      unfold fX6_judge fX6_firstWrong
      rw [chk_t c_c, (t μ hR).1 h, bd2_s, if_pos rfl, cr0 hR, bd1_s, chk_t (shi hs), shr hR hs, bd1_s, chk_t c_c, chk_t (shc hs), bd2_e]
      exact k1
    · have h33 : zI (sav μ 127 (gV S)) 108 33 = -1 := (sav_o (by omega)).trans h.2.2.2.2.2.2.2.2.1
      obtain ⟨τ, n1, n2⟩ := talks_m (μ := sav μ 127 (gV S)) (N := sN (gV S)) (HR_sav hR) (by omega) h33 (xE_m hR hw h hs h1 hc) FU 0 (gV S) hw.1 rfl (by omega) (by show c < 2000 + 0; omega)
      have n1' : fX7_talks 131 108 (nI s) (nI c) (ovm (sav μ 127 (gV S)) (gV S)) = some (ovm (sav μ 127 (gV S)) τ, oI (mWrong (sN (gV S)) (xE (gS S s)) c 0)) := by
        unfold fX7_talks
        rw [chk_t m_c]
        exact n1
      unfold fX7_judge
      rw [chk_t m_c, (t μ hR).2 h, bd2_s, if_pos rfl, mr32 hR, bd1_s, savF hR (MH_e h.1), bd1_s, n1', bd2_s, mr32 (HR_ovm (HR_sav hR)), bd1_s, all_b AR127 hR, bd1_s]
theorem hearT {S : St} (hw : WfS S) {s c : Nat} (hs : s < 8) (h1 : hW (gS S s) = 1) (h40 : c ≤ 40) (hc : c ≤ hZ (gS S s)) (hn : mWrong (sN (gV S)) (xE (gS S s)) c 0 = none) {μ : ZMem} (hR : HR μ) (h : InvC μ S) : fX4_hearTalk 131 36 (2 + 2 * s) (nI c) (ovl μ 36 (gV S)) = some (ovl μ 36 (mTalk (xE (gS S s)) c 0 (gV S))) := by
  have hN := hw.1.1
  have k1 := hearLoop_c (μ := μ) (v := 36) (s := s) (c := c) (N := sN (gV S)) (x := xE (gS S s)) VS36 hR (by omega) (fun σ hW hN2 i hi => intAt_i (HR_ovl hR) hw (InvC_T hw (by omega) h) hs h1 (by omega)) FU 0 (gV S) hw.1 rfl (by omega) (by show c < 2000 + 0; omega) hn
  unfold fX4_hearTalk
  rw [chk_t (VS_c VS36), chk_t (shc hs)]
  exact k1
theorem hearN {S : St} (hw : WfS S) {s c : Nat} (hs : s < 8) (h1 : hW (gS S s) = 1) (h40 : c ≤ 40) (hc : c ≤ hZ (gS S s)) (hn : mWrong (sN (gV S)) (xE (gS S s)) c 0 = none) {μ : ZMem} (hR : HR μ) (h : InvC μ S) (e : ovl μ 18 (gV S) = μ) : fX4_hearTalk 131 18 (2 + 2 * s) (nI c) μ = some (ovl μ 18 (mTalk (xE (gS S s)) c 0 (gV S))) := by
  have hN := hw.1.1
  have k1 := hearLoop_c (μ := μ) (v := 18) (s := s) (c := c) (N := sN (gV S)) (x := xE (gS S s)) VS18 hR (by omega) (fun σ hW hN2 i hi => intAt_i (S := pV S σ) (HR_ovl hR) (WfS_V hw hW (by omega)) (InvC_V hw (by omega) h) hs h1 (by show i < hZ (gS S s); omega)) FU 0 (gV S) hw.1 rfl (by omega) (by show c < 2000 + 0; omega) hn
  rw [e] at k1
  unfold fX4_hearTalk
  rw [chk_t (VS_c VS18), chk_t (shc hs)]
  exact k1
theorem wrong_f {μ : ZMem} {S : St} (hR : HR μ) (hw : WfS S) (h : InvC μ S) {s c : Nat} (hs : s < 8) (e : hW (gS S s) = 1) (hc : c ≤ hZ (gS S s)) : fX6_firstWrong 131 0 (2 + 2 * s) (nI c) μ = some (μ, oI (mWrong (sN (gV S)) (xE (gS S s)) c 0)) := by
  have hz := ((hw.2.2.1 s hs).2.1 e).2
  have k1 := wrong_c hR hw h hs e hc FU 0 (by omega) (by show c < 2000 + 0; omega)
  unfold fX6_firstWrong
  rw [chk_t c_c, chk_t (shc hs)]
  exact k1
theorem mWrong_lt (N : Nat) (x : Nat → Int32) : ∀ r i w, mWrong N x r i = some w → w < i + r := by
  intro r
  induction r with
  | zero => intro i w h; cases h
  | succ r ih =>
    intro i w h
    unfold mWrong at h
    by_cases hb : tBad N (x i) = true
    · rw [if_pos hb] at h; cases h; omega
    · rw [if_neg hb] at h
      have := ih _ _ h
      omega
theorem neg6 : ¬ (-6 : Int32) = 0 := by decide
theorem Kp_done {S : St} (hw : WfS S) (v n : Int32) : Kp S (fX6_done 131 0 v n) (fX7_done 131 108 v n) := by
  rcases talk_or hw v n 1 with ⟨k, k1, k7, t⟩ | ⟨_, s, c, hs, h1, h40, hc, rfl, rfl, t⟩
  · refine Kp_no k k1 k7 hw (fun μ hR h => ?_) (fun μ hR h => ?_)
    · unfold fX6_done fX6_done_b30
      rw [chk_t c_c, (t μ hR).1 h, bd2_s, if_neg (neg_ne k1 k7), if_neg (neg_ne k1 k7), bd2_e]
    · unfold fX7_done
      rw [chk_t m_c, (t μ hR).2 h, bd2_s, if_neg (neg_ne k1 k7), bd2_e]
  · have hz := ((hw.2.2.1 s hs).2.1 h1).2
    have mT : ∀ μ, HR μ → InvM μ S → ∃ τ, fX7_talks 131 108 (nI s) (nI c) (ovm (sav μ 127 (gV S)) (gV S)) = some (ovm (sav μ 127 (gV S)) τ, oI (mWrong (sN (gV S)) (xE (gS S s)) c 0)) ∧ (mWrong (sN (gV S)) (xE (gS S s)) c 0 = none → τ = mTalk (xE (gS S s)) c 0 (gV S)) := by
      intro μ hR h
      have h33 : zI (sav μ 127 (gV S)) 108 33 = -1 := (sav_o (by omega)).trans h.2.2.2.2.2.2.2.2.1
      obtain ⟨τ, n1, n2⟩ := talks_m (μ := sav μ 127 (gV S)) (N := sN (gV S)) (HR_sav hR) (by omega) h33 (xE_m hR hw h hs h1 hc) FU 0 (gV S) hw.1 rfl (by omega) (by show c < 2000 + 0; omega)
      refine ⟨τ, ?_, n2⟩
      unfold fX7_talks
      rw [chk_t m_c]
      exact n1
    cases hn : mWrong (sN (gV S)) (xE (gS S s)) c 0 with
    | none =>
      have hWt := Wf_talk c 0 hw.1 rfl hn
      refine ⟨(nI (sD (mTalk (xE (gS S s)) c 0 (gV S))), pV S (mTalk (xE (gS S s)) c 0 (gV S))), WfS_V hw hWt.1 (Nat.le_of_eq hWt.2.symm), fun μ hR h => RC_V hR hw hWt.1.1 h ?_, fun μ hR h => ?_⟩
      · have k1 := hearN hw hs h1 h40 hc hn hR h (VH_e h.1)
        unfold fX6_done fX6_done_b30
        rw [chk_t c_c, (t μ hR).1 h, bd2_s, if_pos rfl, cr0 hR, bd1_s, chk_t (shi hs), shr hR hs, bd1_s, wrong_f hR hw h hs h1 hc, bd2_s, hn, if_pos (show oI none = (-1 : Int32) from rfl), if_pos rfl, cr1 hR, bd1_s, cr0 hR, bd1_s, chk_t (shi hs), shr hR hs, bd1_s, k1, bd1_s, cr1 (HR_ovl hR), bd1_s, ovl_4]
      · obtain ⟨τ, n1, n2⟩ := mT μ hR h
        rw [n2 hn, hn] at n1
        refine ⟨ovm (sav μ 127 (gV S)) (mTalk (xE (gS S s)) c 0 (gV S)), ?_, HR_ovm (HR_sav hR), InvM_V hw (sav_m hw h), EqC_t (ν := sav μ 127 (gV S)) (fun a k q => ⟨sav_o (by omega), rfl⟩) EqC_V⟩
        unfold fX7_done
        rw [chk_t m_c, (t μ hR).2 h, bd2_s, if_pos rfl, mr32 hR, bd1_s, savF hR (MH_e h.1), bd1_s, n1, bd2_s, if_pos (show oI none = (-1 : Int32) from rfl), ovm_3]
    | some w =>
      have hw2 := mWrong_lt _ _ _ _ _ hn
      have hne : ¬ oI (some w) = (-1 : Int32) := nI_m1 (by omega)
      refine ⟨(-nI 6, sno S 6), WfS_no hw, fun μ hR h => ?_, fun μ hR h => ?_⟩
      · have e : fX6_done 131 0 (nI s) (nI c) μ = fX6_refuse 131 0 (-nI 6) μ := by
          unfold fX6_done fX6_done_b30
          rw [chk_t c_c, (t μ hR).1 h, bd2_s, if_pos rfl, cr0 hR, bd1_s, chk_t (shi hs), shr hR hs, bd1_s, wrong_f hR hw h hs h1 hc, bd2_s, hn, if_neg hne, if_neg neg6, bd2_e]; rfl
        rw [e]
        exact RC_no hR hw h (by omega) (by omega)
      · obtain ⟨τ, n1, n2⟩ := mT μ hR h
        rw [hn] at n1
        obtain ⟨b1, b2, b3⟩ := back_m hR hw h
        obtain ⟨ν, m1, m2, m3, m4⟩ := RM_no (k := 6) b1 hw b2 (by omega)
        refine ⟨ν, ?_, m2, m3, EqC_t b3 m4⟩
        unfold fX7_done
        rw [chk_t m_c, (t μ hR).2 h, bd2_s, if_pos rfl, mr32 hR, bd1_s, savF hR (MH_e h.1), bd1_s, n1, bd2_s, if_neg hne, mr32 (HR_ovm (HR_sav hR)), bd1_s, all_b AR127 hR, bd1_s, bd2_e]
        exact m1
theorem Kp_behind {S : St} (hw : WfS S) (v n w : Int32) : Kp S (fX6_behind 131 0 v n w) (fX7_behind 131 108 v n w) := by
  have hN := hw.1.1
  have b10 : ∀ μ, fX6_isIn 131 w 0 2 μ = some (μ, if (0 : Int32) ≤ w ∧ w ≤ 2 then 1 else 0) := fun μ => isIn_f w 0 2 μ
  have mB : ∀ μ, fX7_behind 131 108 v n w μ = fX7_behind_b17 131 108 v n w 108 v n (if (0 : Int32) ≤ w ∧ w ≤ 2 then 1 else 0) μ := by
    intro μ
    unfold fX7_behind fX7_behind_b16
    rw [chk_t m_c]
    by_cases c1 : w < 0
    · rw [if_pos c1, if_neg (fun q => (fa_of_lt c1).2.1 q.1)]
    · rw [if_neg c1]
      by_cases c2 : (2 : Int32) < w
      · rw [if_pos c2, if_neg (fun q => (fa_of_lt c2).2.1 q.2)]
      · rw [if_neg c2, if_pos ⟨fa_of_nlt c1, fa_of_nlt c2⟩]
  rcases talk_or hw v n (if (0 : Int32) ≤ w ∧ w ≤ 2 then 1 else 0) with ⟨k, k1, k7, t⟩ | ⟨hb, s, c, hs, h1, h40, hc, rfl, rfl, t⟩
  · refine Kp_far k k1 k7 hw (fun μ hR h => ?_) (fun μ hR h => ?_)
    · unfold fX6_behind fX6_behind_b38
      rw [chk_t c_c, b10, bd2_s, (t μ hR).1 h, bd2_s, if_neg (neg_ne k1 k7), if_neg (neg_ne k1 k7), bd2_e]
    · rw [mB]
      unfold fX7_behind_b17
      rw [(t μ hR).2 h, bd2_s, if_neg (neg_ne k1 k7), bd2_e]
  · have hz := ((hw.2.2.1 s hs).2.1 h1).2
    have mT : ∀ μ, HR μ → InvM μ S → ∃ τ, fX7_talks 131 108 (nI s) (nI c) (ovm (sav μ 127 (gV S)) (gV S)) = some (ovm (sav μ 127 (gV S)) τ, oI (mWrong (sN (gV S)) (xE (gS S s)) c 0)) ∧ (mWrong (sN (gV S)) (xE (gS S s)) c 0 = none → τ = mTalk (xE (gS S s)) c 0 (gV S)) := by
      intro μ hR h
      have h33 : zI (sav μ 127 (gV S)) 108 33 = -1 := (sav_o (by omega)).trans h.2.2.2.2.2.2.2.2.1
      obtain ⟨τ, n1, n2⟩ := talks_m (μ := sav μ 127 (gV S)) (N := sN (gV S)) (HR_sav hR) (by omega) h33 (xE_m hR hw h hs h1 hc) FU 0 (gV S) hw.1 rfl (by omega) (by show c < 2000 + 0; omega)
      refine ⟨τ, ?_, n2⟩
      unfold fX7_talks
      rw [chk_t m_c]
      exact n1
    cases hn : mWrong (sN (gV S)) (xE (gS S s)) c 0 with
    | none =>
      have hWt := Wf_talk c 0 hw.1 rfl hn
      refine Kp_T (if w = 0 then oI (sB (mTalk (xE (gS S s)) c 0 (gV S))) else if w = (1 : Int32) then nI (sD (mTalk (xE (gS S s)) c 0 (gV S))) else nI (sW (mTalk (xE (gS S s)) c 0 (gV S)))) (mTalk (xE (gS S s)) c 0 (gV S)) hw hWt.1.1 (fun μ hR h e => ?_) (fun μ hR h e => ?_)
      · have k1 := hearT hw hs h1 h40 hc hn hR h
        unfold fX6_behind fX6_behind_b38 fX6_behind_b109
        rw [chk_t c_c, b10, bd2_s, (t μ hR).1 h, bd2_s, if_pos rfl, cr0 hR, bd1_s, chk_t (shi hs), shr hR hs, bd1_s, wrong_f hR hw h hs h1 hc, bd2_s, hn, if_pos (show oI none = (-1 : Int32) from rfl), if_pos rfl, cr3 hR, bd1_s, cr1 hR, bd1_s, load36 hR hw e, bd1_s, cr3 (HR_ovl hR), bd1_s, cr0 (HR_ovl hR), bd1_s, chk_t (shi hs), shr (HR_ovl hR) hs, bd1_s, k1, bd1_s, cr3 (HR_ovl hR), bd1_s, bd1_s, bd1_s, ovl_5, ovl_4, ovl_2]
        by_cases h0 : w = 0
        · rw [if_pos h0, if_pos h0]
        · rw [if_neg h0, if_neg h0]
          by_cases h1 : w = 1
          · rw [if_pos h1, if_pos h1]
          · rw [if_neg h1, if_neg h1]
      · obtain ⟨τ, n1, n2⟩ := mT μ hR h
        rw [n2 hn, hn] at n1
        rw [mB]
        unfold fX7_behind_b17 fX7_behind_b78 fX7_behind_b106
        rw [(t μ hR).2 h, bd2_s, if_pos rfl, mr32 hR, bd1_s, savF hR e, bd1_s, n1, bd2_s, mr32 (HR_ovm (HR_sav hR)), bd1_s, bd1_s, bd1_s, all_b AR127 hR, bd1_s, bd1_s, bd1_s, if_pos (show oI none = (-1 : Int32) from rfl), if_pos (show oI none = (-1 : Int32) from rfl), if_pos (show oI none = (-1 : Int32) from rfl), ovm_4, ovm_3, ovm_1]
        by_cases h0 : w = 0
        · rw [if_pos h0, if_pos h0]
        · rw [if_neg h0, if_neg h0]
          by_cases h1 : w = 1
          · rw [if_pos h1, if_pos h1]
          · rw [if_neg h1, if_neg h1]
    | some x =>
      have hw2 := mWrong_lt _ _ _ _ _ hn
      have hne : ¬ oI (some x) = (-1 : Int32) := nI_m1 (by omega)
      refine ⟨(-nI 6 - 10, sno S 6), WfS_no hw, fun μ hR h => ?_, fun μ hR h => ?_⟩
      · have e : fX6_behind 131 0 (nI s) (nI c) w μ = fX6_refuseFar 131 0 (-nI 6) μ := by
          unfold fX6_behind fX6_behind_b38
          rw [chk_t c_c, b10, bd2_s, (t μ hR).1 h, bd2_s, if_pos rfl, cr0 hR, bd1_s, chk_t (shi hs), shr hR hs, bd1_s, wrong_f hR hw h hs h1 hc, bd2_s, hn, if_neg hne, if_neg neg6, bd2_e]; rfl
        rw [e]
        exact RC_far hR hw h (by omega) (by omega)
      · obtain ⟨τ, n1, n2⟩ := mT μ hR h
        rw [hn] at n1
        obtain ⟨b1, b2, b3⟩ := back_m hR hw h
        obtain ⟨ν, m1, m2, m3, m4⟩ := RM_ten (k := 6) b1 hw b2 (by omega)
        refine ⟨ν, ?_, m2, m3, EqC_t b3 m4⟩
        rw [mB]
        unfold fX7_behind_b17 fX7_behind_b78 fX7_behind_b106
        rw [(t μ hR).2 h, bd2_s, if_pos rfl, mr32 hR, bd1_s, savF hR (MH_e h.1), bd1_s, n1, bd2_s, mr32 (HR_ovm (HR_sav hR)), bd1_s, bd1_s, bd1_s, all_b AR127 hR, bd1_s, bd1_s, bd1_s, if_neg hne, if_neg hne, if_neg hne, bd2_e]
        have m1' : fX7_noTen 131 108 (-6 : Int32) (ovm (sav μ 127 (gV S)) (gV S)) = some (ν, -nI 6 - 10) := m1
        split
        · exact m1'
        · split
          · exact m1'
          · exact m1'
