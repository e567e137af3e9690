-- WHAT IS ASKED AHEAD
theorem mr32 {μ : ZMem} (hR : HR μ) : zRc 131 100 μ 108 32 = some 127 := mr_ _ _ (by decide +kernel) (by decide) hR
theorem AR127 : AR 127 := by simp [AR]
theorem AR126 : AR 126 := by simp [AR]
theorem AR125 : AR 125 := by simp [AR]
theorem HR_sav {μ : ZMem} {a : Nat} {σ : Sg} (h : HR μ) : HR (sav μ a σ) := HR_of h rfl
theorem sav_o {μ : ZMem} {a b k : Nat} {σ : Sg} (h : b ≠ a) : (sav μ a σ).1 b k = μ.1 b k := if_neg (fun q => h q.1)
theorem RC_T {μ : ZMem} {S : St} {σ : Sg} {x : Int32} {r : Option (ZMem × Int32)} (hR : HR μ) (hw : WfS S) (hN : sN σ ≤ 7) (h : InvC μ S) (e : r = some (ovl μ 36 σ, x)) : RC μ r (x, S) := ⟨_, e, HR_ovl hR, InvC_f hw h (fun a k q => ovl_o μ 36 σ k (by omega) hN) (fun a k q => rfl), EqM_V (by omega) hN⟩
theorem RM_L {μ : ZMem} {S : St} {a : Nat} {x : Int32} {r : Option (ZMem × Int32)} (ha : a = 125 ∨ a = 127) (hR : HR μ) (hw : WfS S) (h : InvM μ S) (e : r = some (ovm (sav μ a (gV S)) (gV S), x)) : RM μ r (x, S) := by
  have e1 : ∀ b k, b ≠ a → (ovm (sav μ a (gV S)) (gV S)).1 b k = μ.1 b k := by
    intro b k hb
    have q : (ovm (sav μ a (gV S)) (gV S)).1 b k = (ovm μ (gV S)).1 b k := by simp only [ovm, sav_o hb]
    rw [q, MH_e h.1]
  refine ⟨_, e, HR_ovm (HR_sav hR), InvM_f hw h (fun b k q => e1 b k (by omega)) (fun k => rfl), fun b k q => ⟨e1 b k (by omega), rfl⟩⟩
/-- asked ahead, and put back -/
theorem Kp_T {S : St} {f g : ZMem → Option (ZMem × Int32)} (x : Int32) (σ : Sg) (hw : WfS S) (hN : sN σ ≤ 7) (hf : ∀ μ, HR μ → InvC μ S → ovl μ 18 (gV S) = μ → f μ = some (ovl μ 36 σ, x)) (hg : ∀ μ, HR μ → InvM μ S → ovm μ (gV S) = μ → g μ = some (ovm (sav μ 127 (gV S)) (gV S), x)) : Kp S f g :=
  ⟨(x, S), hw, fun μ hR h => RC_T hR hw hN h (hf μ hR h (VH_e h.1)), fun μ hR h => RM_L (Or.inr rfl) hR hw h (hg μ hR h (MH_e h.1))⟩
theorem load36 {μ : ZMem} {S : St} (hR : HR μ) (hw : WfS S) (e : ovl μ 18 (gV S) = μ) : fX4_load 131 36 18 μ = some (ovl μ 36 (gV S)) := by
  have := load_c (μ := μ) (σ := gV S) VS36 VS18 (by omega) hR hw.1.1
  rw [e] at this
  exact this
theorem savF {μ : ZMem} {S : St} (hR : HR μ) (e : ovm μ (gV S) = μ) : fX7_all 131 108 127 0 μ = some (ovm (sav μ 127 (gV S)) (gV S)) := by
  have := all_f (μ := μ) (σ := gV S) AR127 hR
  rw [e] at this
  exact this
theorem Kp_ahead {S : St} (hw : WfS S) (v w : Int32) : Kp S (fX6_ahead 131 0 v w) (fX7_ahead 131 108 v w) := by
  have hN := hw.1.1
  by_cases hb : (0 : Int32) ≤ w ∧ w ≤ 1
  · by_cases hc : (0 : Int32) ≤ v ∧ v ≤ 60
    · obtain ⟨k, k0, k5, rfl⟩ := in_nat (lo := 0) (hi := 60) (by omega) (by omega) hc
      refine Kp_T (if w = 0 then oI (sB (mSteps k (gV S))) else nI (sD (mSteps k (gV S)))) (mSteps k (gV S)) hw (by rw [mSteps_N]; exact hN) (fun μ hR h e => ?_) (fun μ hR h e => ?_)
      · have k1 := takeSteps_c (μ := μ) (n := k) VS36 hR hw.1 (by omega)
        unfold fX6_ahead fX6_ahead_b73
        rw [chk_t c_c, isIn_o hb, bd2_s, if_neg one_ne, isIn_o hc, bd2_s, if_neg one_ne, cr3 hR, bd1_s, cr1 hR, bd1_s, load36 hR hw e, bd1_s, cr3 (HR_ovl hR), bd1_s, k1, bd1_s]
        by_cases h0 : w = 0
        · rw [if_pos h0, if_pos h0, cr3 (HR_ovl hR), bd1_s, ovl_5]
        · rw [if_neg h0, if_neg h0, cr3 (HR_ovl hR), bd1_s, ovl_4]
      · have h33 : zI (sav μ 127 (gV S)) 108 33 = -1 := (sav_o (by omega)).trans h.2.2.2.2.2.2.2.2.1
        have hR2 := HR_sav (a := 127) (σ := gV S) hR
        have loop : ∀ j i σ, Wf σ → i ≤ k → k < j + i → fX7_ahead_b45 131 j 108 (nI k) w (nI i) (ovm (sav μ 127 (gV S)) σ) = some (ovm (sav μ 127 (gV S)) (gV S), if w = 0 then oI (sB (mSteps (k - i) σ)) else nI (sD (mSteps (k - i) σ))) := by
          intro j
          induction j with
          | zero => intro i σ _ _ _; omega
          | succ j ih =>
            intro i σ hW q1 q2
            rw [fX7_ahead_b45]
            unfold fX7_ahead_b76
            by_cases hi : i = k
            · rw [if_pos ((nI_leI (by omega) (by omega)).mpr (by omega)), mr32 (HR_ovm hR2), bd1_s, bd1_s, all_b AR127 hR, bd1_s, bd1_s, ovm_3, ovm_4, hi, Nat.sub_self]
              by_cases h0 : w = 0
              · rw [if_pos h0, if_pos h0]; rfl
              · rw [if_neg h0, if_neg h0]; rfl
            · rw [if_neg (fun q => by have := (nI_leI (by omega) (by omega)).mp q; omega), stepN_m hR2 hW h33, bd1_s, nI_1, ih (i + 1) _ (Wf_step hW) (by omega) (by omega), show k - i = (k - (i + 1)) + 1 by omega]
              rfl
        unfold fX7_ahead
        rw [chk_t m_c, lh_y hb, isF_o hc, bd2_s, if_neg one_ne, mr32 hR, bd1_s, savF hR e, bd1_s]
        exact loop FU 0 (gV S) hw.1 (by omega) (by show k < 2000 + 0; omega)
    · refine Kp_far 6 (by omega) (by omega) hw (fun μ hR h => ?_) (fun μ hR h => ?_)
      · unfold fX6_ahead
        rw [chk_t c_c, isIn_o hb, bd2_s, if_neg one_ne, isIn_z hc, bd2_s, if_pos rfl, bd2_e]; rfl
      · unfold fX7_ahead
        rw [chk_t m_c, lh_y hb, isF_z hc, bd2_s, if_pos rfl, bd2_e]; rfl
  · refine Kp_far 5 (by omega) (by omega) hw (fun μ hR h => ?_) (fun μ hR h => ?_)
    · unfold fX6_ahead
      rw [chk_t c_c, isIn_z hb, bd2_s, if_pos rfl, bd2_e]; rfl
    · unfold fX7_ahead fX7_ahead_b9
      rw [chk_t m_c, lh_n hb, bd2_e]; rfl
theorem Kp_tired {S : St} (hw : WfS S) (v t : Int32) : Kp S (fX6_tired 131 0 v t) (fX7_tired 131 108 v t) := by
  have hN := hw.1.1
  rcases one_or S v with hv | ⟨p, hp, rfl⟩
  · refine Kp_no 1 (by omega) (by omega) hw (fun μ hR h => ?_) (fun μ hR h => ?_)
    · unfold fX6_tired
      rw [chk_t c_c, isPerson_z hR hw h hv, bd2_s, if_pos rfl, bd2_e]; rfl
    · unfold fX7_tired
      rw [chk_t m_c, isOne_z hw h hv, bd2_s, if_pos rfl, bd2_e]; rfl
  · by_cases hc : (0 : Int32) ≤ t ∧ t ≤ 60
    · obtain ⟨k, k0, k5, rfl⟩ := in_nat (lo := 0) (hi := 60) (by omega) (by omega) hc
      have hp7 : p < 7 := by omega
      have hpN : p < sN (mSteps k (gV S)) := by rw [mSteps_N]; exact hp
      refine Kp_T (nI (sP (mSteps k (gV S)) p 4)) (mSteps k (gV S)) hw (by rw [mSteps_N]; exact hN) (fun μ hR h e => ?_) (fun μ hR h e => ?_)
      · have k1 := takeSteps_c (μ := μ) (n := k) VS36 hR hw.1 (by omega)
        unfold fX6_tired
        rw [chk_t c_c, isPerson_i hR hw h hp, bd2_s, if_neg one_ne, isIn_o hc, bd2_s, if_neg one_ne, cr3 hR, bd1_s, cr1 hR, bd1_s, load36 hR hw e, bd1_s, cr3 (HR_ovl hR), bd1_s, k1, bd1_s, cr3 (HR_ovl hR), bd1_s, VS_r0 VS36 (HR_ovl hR), bd1_s, chk_t (VS_in VS36 hp7), VS_rp VS36 (HR_ovl hR) hp7, bd1_s, ovl_p μ 36 _ hpN (by omega)]
      · have h33 : zI (sav μ 127 (gV S)) 108 33 = -1 := (sav_o (by omega)).trans h.2.2.2.2.2.2.2.2.1
        have hR2 := HR_sav (a := 127) (σ := gV S) hR
        have loop : ∀ j i σ, Wf σ → i ≤ k → k < j + i → fX7_tired_b43 131 j 108 (nI p) (nI k) (nI i) (ovm (sav μ 127 (gV S)) σ) = some (ovm (sav μ 127 (gV S)) (gV S), nI (sP (mSteps (k - i) σ) p 4)) := by
          intro j
          induction j with
          | zero => intro i σ _ _ _; omega
          | succ j ih =>
            intro i σ hW q1 q2
            rw [fX7_tired_b43]
            by_cases hi : i = k
            · rw [if_pos ((nI_leI (by omega) (by omega)).mpr (by omega)), mr14 (HR_ovm hR2), bd1_s, chk_t (mi14 hp7), mr32 (HR_ovm hR2), bd1_s, all_b AR127 hR, bd1_s, mp4 _ _ hp7, hi, Nat.sub_self]
              rfl
            · rw [if_neg (fun q => by have := (nI_leI (by omega) (by omega)).mp q; omega), stepN_m hR2 hW h33, bd1_s, nI_1, ih (i + 1) _ (Wf_step hW) (by omega) (by omega), show k - i = (k - (i + 1)) + 1 by omega]
              rfl
        unfold fX7_tired
        rw [chk_t m_c, isOne_i hw h hp, bd2_s, if_neg one_ne, isF_o hc, bd2_s, if_neg one_ne, mr32 hR, bd1_s, savF hR e, bd1_s]
        exact loop FU 0 (gV S) hw.1 (by omega) (by show k < 2000 + 0; omega)
    · refine Kp_no 6 (by omega) (by omega) hw (fun μ hR h => ?_) (fun μ hR h => ?_)
      · unfold fX6_tired
        rw [chk_t c_c, isPerson_i hR hw h hp, bd2_s, if_neg one_ne, isIn_z hc, bd2_s, if_pos rfl, bd2_e]; rfl
      · unfold fX7_tired
        rw [chk_t m_c, isOne_i hw h hp, bd2_s, if_neg one_ne, isF_z hc, bd2_s, if_pos rfl, bd2_e]; rfl
theorem isOver_m {μ : ZMem} {σ : Sg} {sil : Option Nat} (hR : HR μ) (hw : Wf σ) (h33 : zI μ 108 33 = oI sil) (hm : ∀ q, sil = some q → q < 1000) (e : ovm μ σ = μ) : fX7_isOver 131 108 μ = some (ovm (sav μ 127 σ) σ, oI (mOver sil 201 0 σ)) := by
  have g33 : zI (sav μ 127 σ) 108 33 = oI sil := (sav_o (by omega)).trans h33
  have hR2 := HR_sav (a := 127) (σ := σ) hR
  have done : ∀ (v : Int32) τ, fX7_isOver_b52 131 108 v (ovm (sav μ 127 σ) τ) = some (ovm (sav μ 127 σ) σ, v) := by
    intro v τ
    unfold fX7_isOver_b52
    rw [mr32 (HR_ovm hR2), bd1_s, all_b AR127 hR, bd1_s]
  have loop : ∀ j i τ, Wf τ → i ≤ 201 → 203 < j + i → fX7_isOver_b13 131 j 108 (-1) (nI i) (ovm (sav μ 127 σ) τ) = some (ovm (sav μ 127 σ) σ, oI (mOver sil (201 - i) i τ)) := by
    intro j
    induction j with
    | zero => intro i τ _ _ _; omega
    | succ j ih =>
      intro i τ hW q1 q2
      have hd := hW.2.2.1
      rw [fX7_isOver_b13]
      by_cases hi : i = 201
      · rw [if_pos (show (200 : Int32) < nI i from (nI_ltI (a := 200) (by omega) (by omega)).mpr (by omega)), done, hi]
        rfl
      · rw [if_neg (show ¬ (200 : Int32) < nI i from fun q => by have := (nI_ltI (a := 200) (by omega) (by omega)).mp q; omega), if_pos rfl, ovm_3, ovm_2, show 201 - i = (201 - (i + 1)) + 1 by omega]
        unfold mOver fX7_isOver_b46
        by_cases hlt : sD τ < sY τ
        · rw [if_neg (fun q => by have := (nI_eq (by omega) (by omega)).mp q; omega), if_pos hlt, step_m hR2 hW g33 hm, bd1_s, nI_1, ih (i + 1) _ (Wf_step hW) (by omega) (by omega)]
        · rw [if_pos ((nI_eq (by omega) (by omega)).mpr (by omega)), if_neg hlt]
          obtain ⟨j', rfl⟩ : ∃ j', j = j' + 1 := ⟨j - 1, by omega⟩
          rw [fX7_isOver_b13, done, if_neg (nI_m1 (by omega))]
          split <;> rfl
  unfold fX7_isOver
  have k0 := all_f (μ := μ) (σ := σ) AR127 hR
  rw [e] at k0
  rw [chk_t m_c, mr32 hR, bd1_s, k0, bd1_s]
  exact loop FU 0 σ hw (by omega) (by show 203 < 2000 + 0; omega)
theorem mOverS_N (sil : Option Nat) (n : Nat) : ∀ σ, sN (mOverS sil n σ) = sN σ := by
  induction n with
  | zero => exact fun σ => rfl
  | succ n ih =>
    intro σ
    unfold mOverS
    split
    · exact (ih _).trans (mStep_N sil σ).1
    · rfl
theorem Kp_over {S : St} (hw : WfS S) : Kp S (fX6_over 131 0) (fX7_over 131 108) := by
  have hN := hw.1.1
  refine Kp_T (oI (mOver none 201 0 (gV S))) (mOverS none 201 (gV S)) hw (by rw [mOverS_N]; exact hN) (fun μ hR h e => ?_) (fun μ hR h e => ?_)
  · have k1 := over_c (μ := μ) (most := 200) (sil := none) VS36 hR hw.1 (fun q h => by cases h) (by omega)
    unfold fX6_over
    rw [chk_t c_c, cr3 hR, bd1_s, cr1 hR, bd1_s, load36 hR hw e, bd1_s, cr3 (HR_ovl hR), bd1_s, bd2_e]
    exact k1
  · have k1 := isOver_m (sil := none) hR hw.1 h.2.2.2.2.2.2.2.2.1 (fun q h => by cases h) e
    unfold fX7_over
    rw [chk_t m_c, bd2_e, k1]
