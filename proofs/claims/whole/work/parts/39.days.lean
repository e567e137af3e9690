-- DAYS
theorem Wf_wS {σ : Sg} {x : Int32} (h : Wf σ) : Wf (wS σ x) := h
theorem sN_wS {σ : Sg} (x : Int32) : sN (wS σ x) = sN σ := rfl
/-- a day, when it is drawn who says what -/
def mDay1 (who o : Nat) (x : Int32) (σ : Sg) : Sg := mStep none (if o ≤ 5 then mHear who o (wS σ x) else wS σ x)
theorem Wf_day1 {who o : Nat} {x : Int32} {σ : Sg} (h : Wf σ) (hp : who < sN σ) : Wf (mDay1 who o x σ) ∧ sN (mDay1 who o x σ) = sN σ := by
  have h2 : Wf (wS σ x) := Wf_wS h
  have hp2 : who < sN (wS σ x) := by rw [sN_wS]; exact hp
  unfold mDay1
  by_cases c : o ≤ 5
  · rw [if_pos c, (mStep_N none _).1, (mHear_N _ _ _).1]
    exact ⟨Wf_step (Wf_hear h2 hp2), sN_wS x⟩
  · rw [if_neg c, (mStep_N none _).1]
    exact ⟨Wf_step h2, sN_wS x⟩
theorem day1_c {μ : ZMem} {v who o : Nat} {x : Int32} {σ : Sg} (hv : VS v) (hR : HR μ) (h : Wf σ) (hp : who < sN σ) (ho : o < 12) : (if (5 : Int32) < nI o then fX4_passDay_b27 131 v (ovl μ v (wS σ x)) else bd1 (fX4_hear 131 v (nI who) (nI o) (ovl μ v (wS σ x))) (fun μ9 => fX4_passDay_b27 131 v μ9)) = some (ovl μ v (mDay1 who o x σ)) := by
  have h2 : Wf (wS σ x) := Wf_wS h
  have hp2 : who < sN (wS σ x) := by rw [sN_wS]; exact hp
  unfold mDay1 fX4_passDay_b27
  by_cases c : o ≤ 5
  · rw [if_neg (show ¬ (5 : Int32) < nI o from fun q => by have := (nI_ltI (a := 5) (by omega) (by omega)).mp q; omega), if_pos c, hear_c hv hR h2 hp2 c, bd1_s, stepN_c hv hR (Wf_hear h2 hp2), bd1_s]
  · rw [if_pos (show (5 : Int32) < nI o from (nI_ltI (a := 5) (by omega) (by omega)).mpr (by omega)), if_neg c, stepN_c hv hR h2, bd1_s]
theorem day1_m {μ : ZMem} {who o : Nat} {x : Int32} {σ : Sg} {g : ZMem → Option (ZMem × Int32)} (hR : HR μ) (h33 : zI μ 108 33 = -1) (h : Wf σ) (hp : who < sN σ) (ho : o < 12) : (if (6 : Int32) ≤ nI o then bd1 (fX7_step 131 108 0 (ovm μ (wS σ x))) g else bd1 (fX7_speaks 131 108 (nI who) (nI o) (ovm μ (wS σ x))) (fun μ10 => bd1 (fX7_step 131 108 0 μ10) g)) = g (ovm μ (mDay1 who o x σ)) := by
  have h2 : Wf (wS σ x) := Wf_wS h
  have hp2 : who < sN (wS σ x) := by rw [sN_wS]; exact hp
  unfold mDay1
  by_cases c : o ≤ 5
  · rw [if_neg (show ¬ (6 : Int32) ≤ nI o from fun q => by have := (nI_leI (a := 6) (by omega) (by omega)).mp q; omega), if_pos c, speaks_m hR h2 hp2 c, bd1_s, stepN_m hR (Wf_hear h2 hp2) h33, bd1_s]
  · rw [if_pos (show (6 : Int32) ≤ nI o from (nI_leI (a := 6) (by omega) (by omega)).mpr (by omega)), if_neg c, stepN_m hR h2 h33, bd1_s]
