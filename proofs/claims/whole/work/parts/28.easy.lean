-- THE EASY CALLS
theorem in_nat {v : Int32} {lo hi : Nat} (hl : lo < 2 ^ 31) (hh : hi < 2 ^ 31) (h : nI lo ≤ v ∧ v ≤ nI hi) : ∃ k, lo ≤ k ∧ k ≤ hi ∧ v = nI k := by
  rcases nat_or v with q | ⟨k, hk, rfl⟩
  · exact absurd h.1 (z_lt q hl)
  · exact ⟨k, (nI_leI hl hk).mp h.1, (nI_leI hk hh).mp h.2, rfl⟩
theorem RC_V {μ : ZMem} {S : St} {σ : Sg} {x : Int32} {r : Option (ZMem × Int32)} (hR : HR μ) (hw : WfS S) (hN : sN σ ≤ 7) (h : InvC μ S) (e : r = some (ovl μ 18 σ, x)) : RC μ r (x, pV S σ) := ⟨_, e, HR_ovl hR, InvC_V hw hN h, EqM_V (by omega) hN⟩
theorem RM_V {μ : ZMem} {S : St} {σ : Sg} {x : Int32} {r : Option (ZMem × Int32)} (hR : HR μ) (hw : WfS S) (h : InvM μ S) (e : r = some (ovm μ σ, x)) : RM μ r (x, pV S σ) := ⟨_, e, HR_ovm hR, InvM_V hw h, EqC_V⟩
theorem SHw_m {N M : Nat} {h : Sh} (q : SHw N h) (hn : N ≤ M) : SHw M h := ⟨q.1, q.2.1, fun e => Nat.lt_of_lt_of_le (q.2.2 e) hn⟩
theorem WfS_V {S : St} {σ : Sg} (hw : WfS S) (hW : Wf σ) (hN : sN (gV S) ≤ sN σ) : WfS (pV S σ) := ⟨hW, hw.2.1, fun s hs => SHw_m (hw.2.2.1 s hs) hN, hw.2.2.2⟩
theorem Kp_V {S : St} {f g : ZMem → Option (ZMem × Int32)} (x : Int32) (σ : Sg) (hw : WfS S) (hW : Wf σ) (hN : sN (gV S) ≤ sN σ) (hf : ∀ μ, HR μ → InvC μ S → ovl μ 18 (gV S) = μ → f μ = some (ovl μ 18 σ, x)) (hg : ∀ μ, HR μ → InvM μ S → ovm μ (gV S) = μ → g μ = some (ovm μ σ, x)) : Kp S f g :=
  ⟨(x, pV S σ), WfS_V hw hW hN, fun μ hR h => RC_V hR hw hW.1 h (hf μ hR h (VH_e h.1)), fun μ hR h => RM_V hR hw h (hg μ hR h (MH_e h.1))⟩
theorem VS18 : VS 18 := by simp [VS]
theorem VS27 : VS 27 := by simp [VS]
theorem VS36 : VS 36 := by simp [VS]
theorem wfN {S : St} (hw : WfS S) : sN (gV S) ≤ 7 := hw.1.1
theorem Kp_fault {S : St} (hw : WfS S) : Kp S (fX6_fault 131 0) (fX7_fault 131 108) := by
  refine Kp_q (gF S) hw (fun μ hR h => ?_) (fun μ hR h => ?_)
  · unfold fX6_fault
    rw [chk_t c_c, ← h.2.2.2.1]; rfl
  · unfold fX7_fault
    rw [chk_t m_c, ← h.2.2.2.1]; rfl
theorem Kp_seed {S : St} (hw : WfS S) (v : Int32) : Kp S (fX6_seed 131 0 v) (fX7_seed 131 108 v) := by
  refine Kp_V (sS (gV S)) (wS (gV S) v) hw hw.1 (Nat.le_refl _) (fun μ hR h e => ?_) (fun μ hR h e => ?_)
  · have k := ovl_u8 μ 18 (gV S) v
    have k2 := ovl_8 μ 18 (gV S)
    rw [e] at k k2
    unfold fX6_seed
    rw [chk_t c_c, cr1 hR, bd1_s, bd1_s, lt_e, k, k2]
  · have k := ovm_u7 μ (gV S) v
    have k2 := ovm_7 μ (gV S)
    rw [e] at k k2
    unfold fX7_seed
    rw [chk_t m_c, lt_e, k, k2]
theorem Kp_say {S : St} (hw : WfS S) (v o : Int32) : Kp S (fX6_say 131 0 v o) (fX7_say 131 108 v o) := by
  rcases one_or S v with hv | ⟨p, hp, rfl⟩
  · refine Kp_no 1 (by omega) (by omega) hw (fun μ hR h => ?_) (fun μ hR h => ?_)
    · unfold fX6_say
      rw [chk_t c_c, isPerson_z hR hw h hv, bd2_s, if_pos rfl, bd2_e]; rfl
    · unfold fX7_say
      rw [chk_t m_c, isOne_z hw h hv, bd2_s, if_pos rfl, bd2_e]; rfl
  · by_cases hb : (0 : Int32) ≤ o ∧ o ≤ 5
    · obtain ⟨k, k0, k5, rfl⟩ := in_nat (lo := 0) (hi := 5) (by omega) (by omega) hb
      have hp7 : p < 7 := Nat.lt_of_lt_of_le hp hw.1.1
      have hW := Wf_hear (s := k) hw.1 hp
      have hq : ∀ q, sB (mHear p k (gV S)) = some q → q < 1000 := fun q hq => by
        have := hW.2.2.2.1 q hq
        have := hW.1
        omega
      refine Kp_V (if sB (mHear p k (gV S)) = some p then 1 else 0) (mHear p k (gV S)) hw hW (Nat.le_of_eq (mHear_N p k (gV S)).1.symm) (fun μ hR h e => ?_) (fun μ hR h e => ?_)
      · have k1 := hear_c (μ := μ) VS18 hR hw.1 hp k5
        rw [e] at k1
        unfold fX6_say fX6_say_b55
        rw [chk_t c_c, isPerson_i hR hw h hp, bd2_s, if_neg one_ne, isIn_o hb, bd2_s, if_neg one_ne, cr1 hR, bd1_s, k1, bd1_s, cr1 (HR_ovl hR), bd1_s, ovl_5]
        by_cases hc : sB (mHear p k (gV S)) = some p
        · rw [if_pos ((oI_eq (by omega) hq).mpr hc).symm, if_pos hc]
        · rw [if_neg (fun q => hc ((oI_eq (by omega) hq).mp q.symm)), if_neg hc]
      · have k1 := speaks_m (μ := μ) hR hw.1 hp k5
        rw [e] at k1
        unfold fX7_say fX7_say_b50
        rw [chk_t m_c, isOne_i hw h hp, bd2_s, if_neg one_ne, isF_o hb, bd2_s, if_neg one_ne, k1, bd1_s, ovm_4]
        by_cases hc : sB (mHear p k (gV S)) = some p
        · rw [if_pos ((oI_eq (by omega) hq).mpr hc).symm, if_pos hc]
        · rw [if_neg (fun q => hc ((oI_eq (by omega) hq).mp q.symm)), if_neg hc]
    · refine Kp_no 6 (by omega) (by omega) hw (fun μ hR h => ?_) (fun μ hR h => ?_)
      · unfold fX6_say
        rw [chk_t c_c, isPerson_i hR hw h hp, bd2_s, if_neg one_ne, isIn_z hb, bd2_s, if_pos rfl, bd2_e]; rfl
      · unfold fX7_say
        rw [chk_t m_c, isOne_i hw h hp, bd2_s, if_neg one_ne, isF_z hb, bd2_s, if_pos rfl, bd2_e]; rfl
theorem stepN_m {μ : ZMem} {σ : Sg} (hR : HR μ) (hw : Wf σ) (h33 : zI μ 108 33 = -1) : fX7_step 131 108 0 (ovm μ σ) = some (ovm μ (mStep none σ)) := step_m (sil := none) hR hw h33 (fun q h => by cases h)
theorem Kp_steps {S : St} (hw : WfS S) (v : Int32) : Kp S (fX6_steps 131 0 v) (fX7_steps 131 108 v) := by
  by_cases hb : (1 : Int32) ≤ v ∧ v ≤ 60
  · obtain ⟨k, k0, k5, rfl⟩ := in_nat (lo := 1) (hi := 60) (by omega) (by omega) hb
    refine Kp_V (nI (sD (mSteps k (gV S)))) (mSteps k (gV S)) hw (Wf_steps hw.1) (Nat.le_of_eq (mSteps_N k _).symm) (fun μ hR h e => ?_) (fun μ hR h e => ?_)
    · have k1 := takeSteps_c (μ := μ) (n := k) VS18 hR hw.1 (by omega)
      rw [e] at k1
      unfold fX6_steps
      rw [chk_t c_c, isIn_o hb, bd2_s, if_neg one_ne, cr1 hR, bd1_s, k1, bd1_s, cr1 (HR_ovl hR), bd1_s, ovl_4]
    · have loop : ∀ j i σ, Wf σ → i ≤ k → k < j + i → fX7_steps_b20 131 j 108 (nI k) (nI i) (ovm μ σ) = some (ovm μ (mSteps (k - i) σ), nI (sD (mSteps (k - i) σ))) := by
        intro j
        induction j with
        | zero => intro i σ _ _ _; omega
        | succ j ih =>
          intro i σ hW q1 q2
          rw [fX7_steps_b20]
          by_cases hi : i = k
          · rw [if_pos ((nI_leI (by omega) (by omega)).mpr (by omega)), ovm_3, hi, Nat.sub_self]; rfl
          · rw [if_neg (fun q => by have := (nI_leI (by omega) (by omega)).mp q; omega), stepN_m hR hW h.2.2.2.2.2.2.2.2.1, bd1_s, nI_1, ih (i + 1) _ (Wf_step hW) (by omega) (by omega), show k - i = (k - (i + 1)) + 1 by omega]
            rfl
      unfold fX7_steps
      rw [chk_t m_c, isF_o hb, bd2_s, if_neg one_ne]
      have := loop FU 0 (gV S) hw.1 (by omega) (by show k < 2000 + 0; omega)
      rw [e] at this
      exact this
  · refine Kp_no 6 (by omega) (by omega) hw (fun μ hR h => ?_) (fun μ hR h => ?_)
    · unfold fX6_steps
      rw [chk_t c_c, isIn_z hb, bd2_s, if_pos rfl, bd2_e]; rfl
    · unfold fX7_steps
      rw [chk_t m_c, isF_z hb, bd2_s, if_pos rfl, bd2_e]; rfl
theorem isPN_z {μ : ZMem} {S : St} {v : Int32} (hR : HR μ) (hw : WfS S) (h : InvC μ S) (hv : NoP S v) (h1 : ¬ v = -1) : fX6_isPersonOrNone 131 0 v μ = some (μ, 0) := by
  unfold fX6_isPersonOrNone fX6_isPersonOrNone_b18
  rw [chk_t c_c, if_neg h1, isPerson_z hR hw h hv, bd2_s, if_pos rfl, chk_t b01_0]
theorem isPN_n (μ : ZMem) : fX6_isPersonOrNone 131 0 (-1) μ = some (μ, 1) := by
  unfold fX6_isPersonOrNone fX6_isPersonOrNone_b13 fX6_isPersonOrNone_b18
  rw [chk_t c_c, if_pos rfl, chk_t b01_1]
theorem nI_m1 {k : Nat} (h : k < 2 ^ 31) : ¬ nI k = -1 := by
  intro q
  have q2 : (nI k).toInt = (-1 : Int32).toInt := by rw [q]
  rw [nI_toInt h] at q2
  have : (-1 : Int32).toInt = -1 := by decide
  omega
theorem isPN_i {μ : ZMem} {S : St} {p : Nat} (hR : HR μ) (hw : WfS S) (h : InvC μ S) (hp : p < sN (gV S)) : fX6_isPersonOrNone 131 0 (nI p) μ = some (μ, 1) := by
  have hN := hw.1.1
  unfold fX6_isPersonOrNone fX6_isPersonOrNone_b13 fX6_isPersonOrNone_b18
  rw [chk_t c_c, if_neg (nI_m1 (by omega)), isPerson_i hR hw h hp, bd2_s, if_neg one_ne, chk_t b01_1]
theorem Kp_give {S : St} (hw : WfS S) (v : Int32) : Kp S (fX6_give 131 0 v) (fX7_give 131 108 v) := by
  have hN := hw.1.1
  by_cases h1 : v = -1
  · subst h1
    refine Kp_V (oI (sB (gV S))) (wB (gV S) none) hw (Wf_wB hw.1 (fun q h => by cases h)) (Nat.le_refl _) (fun μ hR h e => ?_) (fun μ hR h e => ?_)
    · have k := ovl_u5 μ 18 (gV S) none
      have k2 := ovl_5 μ 18 (gV S)
      rw [e] at k k2
      unfold fX6_give
      rw [chk_t c_c, isPN_n, bd2_s, if_neg one_ne, cr1 hR, bd1_s, bd1_s, lt_e, k2, ← k]; rfl
    · have k := ovm_u4 μ (gV S) none
      have k2 := ovm_4 μ (gV S)
      rw [e] at k k2
      unfold fX7_give fX7_give_b19
      rw [chk_t m_c, if_pos rfl, lt_e, k2, ← k]; rfl
  · rcases one_or S v with hv | ⟨p, hp, rfl⟩
    · refine Kp_far 1 (by omega) (by omega) hw (fun μ hR h => ?_) (fun μ hR h => ?_)
      · unfold fX6_give
        rw [chk_t c_c, isPN_z hR hw h hv h1, bd2_s, if_pos rfl, bd2_e]; rfl
      · unfold fX7_give
        rw [chk_t m_c, if_neg h1, isOne_z hw h hv, bd2_s, if_pos rfl, bd2_e]; rfl
    · refine Kp_V (oI (sB (gV S))) (wB (gV S) (some p)) hw (Wf_wB hw.1 (fun q h => by cases h; exact hp)) (Nat.le_refl _) (fun μ hR h e => ?_) (fun μ hR h e => ?_)
      · have k := ovl_u5 μ 18 (gV S) (some p)
        have k2 := ovl_5 μ 18 (gV S)
        rw [e] at k k2
        unfold fX6_give
        rw [chk_t c_c, isPN_i hR hw h hp, bd2_s, if_neg one_ne, cr1 hR, bd1_s, bd1_s, lt_e, k2, ← k]; rfl
      · have k := ovm_u4 μ (gV S) (some p)
        have k2 := ovm_4 μ (gV S)
        rw [e] at k k2
        unfold fX7_give fX7_give_b19
        rw [chk_t m_c, if_neg h1, isOne_i hw h hp, bd2_s, if_neg one_ne, lt_e, k2, ← k]; rfl
theorem Kp_tire {S : St} (hw : WfS S) (v t : Int32) : Kp S (fX6_tire 131 0 v t) (fX7_tire 131 108 v t) := by
  have hN := hw.1.1
  rcases one_or S v with hv | ⟨p, hp, rfl⟩
  · refine Kp_no 1 (by omega) (by omega) hw (fun μ hR h => ?_) (fun μ hR h => ?_)
    · unfold fX6_tire
      rw [chk_t c_c, isPerson_z hR hw h hv, bd2_s, if_pos rfl, bd2_e]; rfl
    · unfold fX7_tire
      rw [chk_t m_c, isOne_z hw h hv, bd2_s, if_pos rfl, bd2_e]; rfl
  · by_cases hb : (0 : Int32) ≤ t ∧ t ≤ 99
    · obtain ⟨k, k0, k5, rfl⟩ := in_nat (lo := 0) (hi := 99) (by omega) (by omega) hb
      have hp7 : p < 7 := Nat.lt_of_lt_of_le hp hw.1.1
      have hW : Wf (wP (gV S) (pset (sP (gV S)) p 4 k)) := by
        obtain ⟨q1, q2, q3, q4, q5, q6⟩ := hw.1
        exact ⟨q1, q2, q3, q4, q5, wf_pset q6 k5⟩
      refine Kp_V (nI (sP (gV S) p 4)) (wP (gV S) (pset (sP (gV S)) p 4 k)) hw hW (Nat.le_refl _) (fun μ hR h e => ?_) (fun μ hR h e => ?_)
      · have k1 := ovl_uP μ 18 (gV S) (j := 4) k hp (by omega)
        have k2 := ovl_p μ 18 (gV S) (j := 4) hp (by omega)
        rw [e] at k1 k2
        unfold fX6_tire
        rw [chk_t c_c, isPerson_i hR hw h hp, bd2_s, if_neg one_ne, isIn_o hb, bd2_s, if_neg one_ne, cr1 hR, bd1_s, VS_r0 VS18 hR, bd1_s, chk_t (VS_in VS18 hp7), VS_rp VS18 hR hp7, bd1_s, bd1_s, VS_r0 VS18 hR, bd1_s, chk_t (VS_in VS18 hp7), VS_rp VS18 hR hp7, bd1_s, lt_e, k1, k2]
      · have k1 := ovm_uP μ (gV S) (j := 4) k hp7 (by omega)
        have k2 := ovm_p μ (gV S) (j := 4) hp7 (by omega)
        rw [e] at k1 k2
        unfold fX7_tire
        rw [chk_t m_c, isOne_i hw h hp, bd2_s, if_neg one_ne, isF_o hb, bd2_s, if_neg one_ne, mr14 hR, bd1_s, chk_t (mi14 hp7), bd1_s, chk_t (mi14 hp7), lt_e, nI_clamp (by omega)]
        exact congrArg some (Prod.ext k1 k2)
    · refine Kp_no 6 (by omega) (by omega) hw (fun μ hR h => ?_) (fun μ hR h => ?_)
      · unfold fX6_tire
        rw [chk_t c_c, isPerson_i hR hw h hp, bd2_s, if_neg one_ne, isIn_z hb, bd2_s, if_pos rfl, bd2_e]; rfl
      · unfold fX7_tire
        rw [chk_t m_c, isOne_i hw h hp, bd2_s, if_neg one_ne, isF_z hb, bd2_s, if_pos rfl, bd2_e]; rfl
