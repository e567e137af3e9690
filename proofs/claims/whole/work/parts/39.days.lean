-- DAYS
theorem Wf_wS {σ : Sg} {x : Int32} (h : Wf σ) : Wf (wS σ x) := h
theorem sN_wS {σ : Sg} (x : Int32) : sN (wS σ x) = sN σ := rfl
/-- a day, when it is drawn who says what -/
def mDay1 (who o : Nat) (x : Int32) (σ : Sg) : Sg := mStep none (if o ≤ 5 then mHear who o (wS σ x) else wS σ x)
theorem Wf_day1 {who o : Nat} {x : Int32} {σ : Sg} (h : Wf σ) (hp : who < sN σ) : Wf (mDay1 who o x σ) ∧ sN (mDay1 who o x σ) = sN σ := by
  have h2 : Wf (wS σ x) := Wf_wS h
  have hp2 : who < sN (wS σ x) := by rw [sN_wS]; exact hp
  unfold mDay1
  by_cases c : o ≤ 5
  · rw [if_pos c, (mStep_N none _).1, (mHear_N _ _ _).1]
    exact ⟨Wf_step (Wf_hear h2 hp2), sN_wS x⟩
  · rw [if_neg c, (mStep_N none _).1]
    exact ⟨Wf_step h2, sN_wS x⟩
theorem day1_c {μ : ZMem} {v who o : Nat} {x : Int32} {σ : Sg} (hv : VS v) (hR : HR μ) (h : Wf σ) (hp : who < sN σ) (ho : o < 12) : (if (5 : Int32) < nI o then fX4_passDay_b27 131 v (ovl μ v (wS σ x)) else bd1 (fX4_hear 131 v (nI who) (nI o) (ovl μ v (wS σ x))) (fun μ9 => fX4_passDay_b27 131 v μ9)) = some (ovl μ v (mDay1 who o x σ)) := by
  have h2 : Wf (wS σ x) := Wf_wS h
  have hp2 : who < sN (wS σ x) := by rw [sN_wS]; exact hp
  unfold mDay1 fX4_passDay_b27
  by_cases c : o ≤ 5
  · rw [if_neg (show ¬ (5 : Int32) < nI o from fun q => by have := (nI_ltI (a := 5) (by omega) (by omega)).mp q; omega), if_pos c, hear_c hv hR h2 hp2 c, bd1_s, stepN_c hv hR (Wf_hear h2 hp2), bd1_s]
  · rw [if_pos (show (5 : Int32) < nI o from (nI_ltI (a := 5) (by omega) (by omega)).mpr (by omega)), if_neg c, stepN_c hv hR h2, bd1_s]
theorem day1_m {μ : ZMem} {who o : Nat} {x : Int32} {σ : Sg} {g : ZMem → Option (ZMem × Int32)} (hR : HR μ) (h33 : zI μ 108 33 = -1) (h : Wf σ) (hp : who < sN σ) (ho : o < 12) : (if (6 : Int32) ≤ nI o then bd1 (fX7_step 131 108 0 (ovm μ (wS σ x))) g else bd1 (fX7_speaks 131 108 (nI who) (nI o) (ovm μ (wS σ x))) (fun μ10 => bd1 (fX7_step 131 108 0 μ10) g)) = g (ovm μ (mDay1 who o x σ)) := by
  have h2 : Wf (wS σ x) := Wf_wS h
  have hp2 : who < sN (wS σ x) := by rw [sN_wS]; exact hp
  unfold mDay1
  by_cases c : o ≤ 5
  · rw [if_neg (show ¬ (6 : Int32) ≤ nI o from fun q => by have := (nI_leI (a := 6) (by omega) (by omega)).mp q; omega), if_pos c, speaks_m hR h2 hp2 c, bd1_s, stepN_m hR (Wf_hear h2 hp2) h33, bd1_s]
  · rw [if_pos (show (6 : Int32) ≤ nI o from (nI_leI (a := 6) (by omega) (by omega)).mpr (by omega)), if_neg c, stepN_m hR h2 h33, bd1_s]
noncomputable def dW (σ : Sg) : Nat := mHi (mSeed (sS σ)) % sN σ
noncomputable def dO (σ : Sg) : Nat := mHi (mSeed (mSeed (sS σ))) % 12
noncomputable def dX (σ : Sg) : Int32 := mSeed (mSeed (sS σ))
theorem dW_lt {σ : Sg} (h : 1 ≤ sN σ) : dW σ < sN σ := Nat.mod_lt _ (by omega)
theorem dO_lt (σ : Sg) : dO σ < 12 := Nat.mod_lt _ (by omega)
noncomputable def mDay (σ : Sg) : Sg := mDay1 (dW σ) (dO σ) (dX σ) σ
noncomputable def mDays : Nat → Sg → Sg
  | 0, σ => σ
  | n + 1, σ => mDays n (mDay σ)
theorem draw1_c {μ : ZMem} {v : Nat} {σ : Sg} (hv : VS v) (h1 : 1 ≤ sN σ) (hN : sN σ ≤ 7) : fX4_draw 131 v (nI (sN σ)) (ovl μ v σ) = some (ovl μ v (wS σ (mSeed (sS σ))), nI (dW σ)) := draw_c hv h1 (by omega)
theorem drawS_c {μ : ZMem} {v n : Nat} {σ : Sg} {a : Int32} (hv : VS v) (hn : 1 ≤ n) (hn2 : n ≤ 100) : fX4_draw 131 v (nI n) (ovl μ v (wS σ a)) = some (ovl μ v (wS σ (mSeed a)), nI (mHi (mSeed a) % n)) := draw_c (σ := wS σ a) hv hn hn2
theorem drawS_m {μ : ZMem} {n : Nat} {σ : Sg} {a : Int32} (hn : 1 ≤ n) (hn2 : n ≤ 100) : fX7_draw 131 108 (nI n) (ovm μ (wS σ a)) = some (ovm μ (wS σ (mSeed a)), nI (mHi (mSeed a) % n)) := draw_m (σ := wS σ a) hn hn2
theorem draw2_c {μ : ZMem} {v : Nat} {σ : Sg} (hv : VS v) : fX4_draw 131 v 12 (ovl μ v (wS σ (mSeed (sS σ)))) = some (ovl μ v (wS σ (dX σ)), nI (dO σ)) := by
  unfold dX dO
  generalize mSeed (sS σ) = a
  exact drawS_c (n := 12) hv (by omega) (by omega)
theorem draw1_m {μ : ZMem} {σ : Sg} (h1 : 1 ≤ sN σ) (hN : sN σ ≤ 7) : fX7_draw 131 108 (nI (sN σ)) (ovm μ σ) = some (ovm μ (wS σ (mSeed (sS σ))), nI (dW σ)) := draw_m h1 (by omega)
theorem draw2_m {μ : ZMem} {σ : Sg} : fX7_draw 131 108 12 (ovm μ (wS σ (mSeed (sS σ)))) = some (ovm μ (wS σ (dX σ)), nI (dO σ)) := by
  unfold dX dO
  generalize mSeed (sS σ) = a
  exact drawS_m (n := 12) (by omega) (by omega)
theorem Wf_day {σ : Sg} (h : Wf σ) (h1 : 1 ≤ sN σ) : Wf (mDay σ) ∧ sN (mDay σ) = sN σ := by
  have q := Wf_day1 (who := dW σ) (o := dO σ) (x := dX σ) h (dW_lt h1)
  unfold mDay
  exact q
theorem Wf_days (n : Nat) : ∀ {σ : Sg}, Wf σ → 1 ≤ sN σ → Wf (mDays n σ) ∧ sN (mDays n σ) = sN σ := by
  induction n with
  | zero => exact fun h _ => ⟨h, rfl⟩
  | succ n ih =>
    intro σ h h1
    have q := Wf_day h h1
    have r := ih (σ := mDay σ) q.1 (by rw [q.2]; exact h1)
    unfold mDays
    exact ⟨r.1, r.2.trans q.2⟩
theorem day_c {μ : ZMem} {v : Nat} {σ : Sg} (hv : VS v) (hR : HR μ) (hw : Wf σ) (h1 : 1 ≤ sN σ) : fX4_passDay 131 v (ovl μ v σ) = some (ovl μ v (mDay σ)) := by
  have d1 := draw1_c (μ := μ) (σ := σ) hv h1 hw.1
  have d2 := draw2_c (μ := μ) (σ := σ) hv
  have d3 := day1_c (μ := μ) (v := v) (who := dW σ) (o := dO σ) (x := dX σ) hv hR hw (dW_lt h1) (dO_lt σ)
  unfold fX4_passDay
  rw [chk_t (VS_c hv), ovl_1, d1, bd2_s, d2, bd2_s]
  exact d3
theorem mDays_s (n : Nat) (σ : Sg) : mDays (n + 1) σ = mDays n (mDay σ) := rfl
theorem mDays_0 (σ : Sg) : mDays 0 σ = σ := rfl
theorem Kp_days {S : St} (hw : WfS S) (v : Int32) : Kp S (fX6_days 131 0 v) (fX7_days 131 108 v) := by
  have hN := hw.1.1
  by_cases h0 : sN (gV S) = 0
  · refine Kp_no 5 (by omega) (by omega) hw (fun μ hR h => ?_) (fun μ hR h => ?_)
    · have en : zI μ 18 1 = nI (sN (gV S)) := h.1.1 1 (by omega) (by omega)
      unfold fX6_days
      rw [chk_t c_c, cr1 hR, bd1_s, en, h0, if_pos (show nI 0 = (0 : Int32) from rfl), bd2_e]; rfl
    · have en : zI μ 108 0 = nI (sN (gV S)) := h.1.1 0 (by omega)
      unfold fX7_days
      rw [chk_t m_c, en, h0, if_pos (show nI 0 = (0 : Int32) from rfl), bd2_e]; rfl
  · have n0 : ¬ nI (sN (gV S)) = (0 : Int32) := fun q => h0 ((nI_eq (b := 0) (by omega) (by omega)).mp q)
    by_cases hb : (1 : Int32) ≤ v ∧ v ≤ 60
    · obtain ⟨k, k0, k5, rfl⟩ := in_nat (lo := 1) (hi := 60) (by omega) (by omega) hb
      have hWd := Wf_days k hw.1 (by omega : 1 ≤ sN (gV S))
      refine Kp_V (nI (sD (mDays k (gV S)))) (mDays k (gV S)) hw hWd.1 (Nat.le_of_eq hWd.2.symm) (fun μ hR h e => ?_) (fun μ hR h e => ?_)
      · have en : zI μ 18 1 = nI (sN (gV S)) := h.1.1 1 (by omega) (by omega)
        have loop : ∀ j i σ, Wf σ → 1 ≤ sN σ → i ≤ k → k < j + i → fX6_days_b36 131 j 0 (nI k) (nI i) (ovl μ 18 σ) = some (ovl μ 18 (mDays (k - i) σ), nI (sD (mDays (k - i) σ))) := by
          intro j
          induction j with
          | zero => intro i σ _ _ _ _; omega
          | succ j ih =>
            intro i σ hW h1 q1 q2
            rw [fX6_days_b36]
            by_cases hi : i = k
            · rw [if_pos ((nI_leI (by omega) (by omega)).mpr (by omega)), cr1 (HR_ovl hR), bd1_s, ovl_4, hi, Nat.sub_self, mDays_0]
            · have q := Wf_day hW h1
              rw [if_neg (fun q => by have := (nI_leI (by omega) (by omega)).mp q; omega), cr1 (HR_ovl hR), bd1_s, day_c VS18 hR hW h1, bd1_s, nI_1, ih (i + 1) _ q.1 (by rw [q.2]; exact h1) (by omega) (by omega), show k - i = (k - (i + 1)) + 1 by omega, mDays_s]
        unfold fX6_days
        rw [chk_t c_c, cr1 hR, bd1_s, en, if_neg n0, isIn_o hb, bd2_s, if_neg one_ne]
        have := loop FU 0 (gV S) hw.1 (by omega) (by omega) (by show k < 2000 + 0; omega)
        rw [e] at this
        exact this
      · have en : zI μ 108 0 = nI (sN (gV S)) := h.1.1 0 (by omega)
        have loop : ∀ j i σ, Wf σ → 1 ≤ sN σ → i ≤ k → k < j + i → fX7_days_b34 131 j 108 (nI k) (nI i) (ovm μ σ) = some (ovm μ (mDays (k - i) σ), nI (sD (mDays (k - i) σ))) := by
          intro j
          induction j with
          | zero => intro i σ _ _ _ _; omega
          | succ j ih =>
            intro i σ hW h1 q1 q2
            rw [fX7_days_b34]
            by_cases hi : i = k
            · rw [if_pos ((nI_leI (by omega) (by omega)).mpr (by omega)), ovm_3, hi, Nat.sub_self, mDays_0]
            · have q := Wf_day hW h1
              have nxt := ih (i + 1) (mDay σ) q.1 (by rw [q.2]; exact h1) (by omega) (by omega)
              have d1 := draw1_m (μ := μ) (σ := σ) h1 hW.1
              have d2 := draw2_m (μ := μ) (σ := σ)
              have d3 := day1_m (μ := μ) (g := fun μ2 => fX7_days_b34 131 j 108 (nI k) (nI (i + 1)) μ2) (who := dW σ) (o := dO σ) (x := dX σ) hR h.2.2.2.2.2.2.2.2.1 hW (dW_lt h1) (dO_lt σ)
              rw [if_neg (fun q => by have := (nI_leI (by omega) (by omega)).mp q; omega), ovm_0, d1, bd2_s, d2, bd2_s, show k - i = (k - (i + 1)) + 1 by omega, mDays_s]
              unfold fX7_days_b70
              rw [nI_1]
              exact d3.trans nxt
        unfold fX7_days
        rw [chk_t m_c, en, if_neg n0, isF_o hb, bd2_s, if_neg one_ne]
        have := loop FU 0 (gV S) hw.1 (by omega) (by omega) (by show k < 2000 + 0; omega)
        rw [e] at this
        exact this
    · refine Kp_no 6 (by omega) (by omega) hw (fun μ hR h => ?_) (fun μ hR h => ?_)
      · have en : zI μ 18 1 = nI (sN (gV S)) := h.1.1 1 (by omega) (by omega)
        unfold fX6_days
        rw [chk_t c_c, cr1 hR, bd1_s, en, if_neg n0, isIn_z hb, bd2_s, if_pos rfl, bd2_e]; rfl
      · have en : zI μ 108 0 = nI (sN (gV S)) := h.1.1 0 (by omega)
        unfold fX7_days
        rw [chk_t m_c, en, if_neg n0, isF_z hb, bd2_s, if_pos rfl, bd2_e]; rfl
