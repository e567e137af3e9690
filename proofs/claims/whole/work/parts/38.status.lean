-- SIGHS, STATUS, DAYS
def mBits (c : Nat → Bool) : Nat → Nat
  | 0 => 0
  | i + 1 => if c i = true then mBits c i + 2 ^ i else mBits c i
theorem mBits_lt (c : Nat → Bool) : ∀ i, mBits c i < 2 ^ i := by
  intro i
  induction i with
  | zero => exact Nat.one_pos
  | succ i ih =>
    unfold mBits
    have : 2 ^ (i + 1) = 2 ^ i + 2 ^ i := by rw [Nat.pow_succ]; omega
    split <;> omega
theorem shl_e : ∀ i, i < 8 → (1 : Int32) <<< (nI i &&& 31) = nI (2 ^ i) := by decide
theorem bits_or {c : Nat → Bool} {i : Nat} (hi : i < 8) : nI (mBits c i) ||| ((1 : Int32) <<< (nI i &&& 31)) = nI (mBits c i + 2 ^ i) := by
  rw [shl_e i hi, Int32.or_comm]
  have := fa_or_sum (a := mBits c i) (k := i) 1 (mBits_lt c i)
  rw [Nat.mul_one] at this
  rw [this, Nat.add_comm]
theorem bits_add {c : Nat → Bool} {i : Nat} (hi : i < 8) : nI (mBits c i) + ((1 : Int32) <<< (nI i &&& 31)) = nI (mBits c i + 2 ^ i) := by
  rw [shl_e i hi, nI_add]
def sgc (w : Int32) (q : Nat → Nat) : Bool := if w = 0 then mSigh q else !(mSigh q) && mWould q 5
theorem Kp_sighs {S : St} (hw : WfS S) (w : Int32) : Kp S (fX6_sighs 131 0 w) (fX7_sighs 131 108 w) := by
  have hN := hw.1.1
  by_cases hb : (0 : Int32) ≤ w ∧ w ≤ 1
  · obtain ⟨c, ec⟩ : ∃ c : Nat → Bool, c = fun p => sgc w (sP (gV S) p) := ⟨_, rfl⟩
    refine Kp_q (nI (mBits c (sN (gV S)))) hw (fun μ hR h => ?_) (fun μ hR h => ?_)
    · have en : zI μ 18 1 = nI (sN (gV S)) := h.1.1 1 (by omega) (by omega)
      have loop : ∀ j i, i ≤ sN (gV S) → sN (gV S) < j + i → fX6_sighs_b20 131 j 0 w (nI (mBits c i)) (nI i) μ = some (μ, nI (mBits c (sN (gV S)))) := by
        intro j
        induction j with
        | zero => intro i _ q; omega
        | succ j ih =>
          intro i hi hj
          rw [fX6_sighs_b20, cr1 hR, bd1_s, en]
          by_cases h0 : i = sN (gV S)
          · rw [if_pos ((nI_leI (by omega) (by omega)).mpr (by omega)), h0]
          · have hi7 : i < 7 := by omega
            have hwp : wfP (sP (gV S) i) := hw.1.2.2.2.2.2 i (by omega)
            have hL := mLimit_le hwp
            have k1 := miss_c (μ := μ) (p := i) VS18 hN (by omega) hwp
            rw [VH_e h.1] at k1
            obtain ⟨g0, g1, g2, g3, g4, g5⟩ := id hwp
            have nxt := ih (i + 1) (by omega) (by omega)
            have ecn : mBits c (i + 1) = if c i = true then mBits c i + 2 ^ i else mBits c i := rfl
            have eci : c i = sgc w (sP (gV S) i) := by rw [ec]
            -- what is missing, in Nat
            have z1 : (if sP (gV S) i 0 = 5 then (-1 : Int32) else nI (mMiss (sP (gV S) i))) = 0 ↔ mSigh (sP (gV S) i) = true := by
              unfold mSigh mMiss
              by_cases h5 : sP (gV S) i 0 = 5
              · rw [if_pos h5]
                simp [h5]
              · rw [if_neg h5, show (0 : Int32) = nI 0 from rfl, nI_eq (by omega) (by omega)]
                simp [h5]
                omega
            have z2 : (1 : Int32) ≤ (if sP (gV S) i 0 = 5 then (-1 : Int32) else nI (mMiss (sP (gV S) i))) ∧ (if sP (gV S) i 0 = 5 then (-1 : Int32) else nI (mMiss (sP (gV S) i))) ≤ 5 ↔ (!(mSigh (sP (gV S) i)) && mWould (sP (gV S) i) 5) = true := by
              unfold mSigh mMiss mWould
              by_cases h5 : sP (gV S) i 0 = 5
              · rw [if_pos h5]
                simp [h5]
              · rw [if_neg h5, show (1 : Int32) = nI 1 from rfl, show (5 : Int32) = nI 5 from rfl, nI_leI (by omega) (by omega), nI_leI (by omega) (by omega)]
                simp [h5]
                omega
            rw [if_neg (fun q => by have := (nI_leI (by omega) (by omega)).mp q; omega), bd1_s, VS_r0 VS18 hR, bd1_s, chk_t (VS_in VS18 hi7), VS_rp VS18 hR hi7, bd1_s, k1, bd2_s]
            unfold fX6_sighs_b67 fX6_sighs_b73
            rw [bits_or (by omega), nI_1]
            by_cases h0 : w = 0
            · rw [if_pos h0]
              have e1 : sgc w (sP (gV S) i) = mSigh (sP (gV S) i) := if_pos h0
              rw [ecn, eci, e1] at nxt
              by_cases hc : mSigh (sP (gV S) i) = true
              · rw [if_pos (z1.mpr hc)]
                rw [if_pos hc] at nxt
                exact nxt
              · rw [if_neg (fun q => hc (z1.mp q))]
                rw [if_neg hc] at nxt
                exact nxt
            · rw [if_neg h0]
              have e1 : sgc w (sP (gV S) i) = (!(mSigh (sP (gV S) i)) && mWould (sP (gV S) i) 5) := if_neg h0
              rw [ecn, eci, e1] at nxt
              by_cases hc : (!(mSigh (sP (gV S) i)) && mWould (sP (gV S) i) 5) = true
              · rw [isIn_o (z2.mpr hc), bd2_s, if_neg one_ne]
                rw [if_pos hc] at nxt
                exact nxt
              · rw [isIn_z (fun q => hc (z2.mp q)), bd2_s, if_pos rfl]
                rw [if_neg hc] at nxt
                exact nxt
      unfold fX6_sighs
      rw [chk_t c_c, isIn_o hb, bd2_s, if_neg one_ne]
      exact loop FU 0 (by omega) (by show _ < 2000 + 0; omega)
    · have en : zI μ 108 0 = nI (sN (gV S)) := h.1.1 0 (by omega)
      have loop : ∀ j i, i ≤ sN (gV S) → sN (gV S) < j + i → fX7_sighs_b20 131 j 108 w (nI (mBits c i)) (nI i) μ = some (μ, nI (mBits c (sN (gV S)))) := by
        intro j
        induction j with
        | zero => intro i _ q; omega
        | succ j ih =>
          intro i hi hj
          rw [fX7_sighs_b20, en]
          by_cases h0 : i = sN (gV S)
          · rw [if_pos ((nI_leI (by omega) (by omega)).mpr (by omega)), h0]
          · have hi7 : i < 7 := by omega
            have hwp : wfP (sP (gV S) i) := hw.1.2.2.2.2.2 i (by omega)
            have k1 := would_m (μ := μ) (x := 0) hR hi7 hwp (by omega)
            have k2 := would_m (μ := μ) (x := 5) hR hi7 hwp (by omega)
            rw [MH_e h.1] at k1 k2
            have nxt := ih (i + 1) (by omega) (by omega)
            have ecn : mBits c (i + 1) = if c i = true then mBits c i + 2 ^ i else mBits c i := rfl
            have eci : c i = sgc w (sP (gV S) i) := by rw [ec]
            rw [if_neg (fun q => by have := (nI_leI (by omega) (by omega)).mp q; omega), show fX7_wouldSigh 131 108 (nI i) 0 μ = _ from k1, bd2_s, mWould_0, show fX7_wouldSigh 131 108 (nI i) 5 μ = _ from k2, bd2_s]
            unfold fX7_sighs_b62 fX7_sighs_b68
            rw [bits_add (by omega), nI_1]
            by_cases h0 : w = 0
            · rw [if_pos h0]
              have e1 : sgc w (sP (gV S) i) = mSigh (sP (gV S) i) := if_pos h0
              rw [ecn, eci, e1] at nxt
              cases hc : mSigh (sP (gV S) i) with
              | true => rw [hc] at nxt; exact nxt
              | false => rw [hc] at nxt; exact nxt
            · rw [if_neg h0]
              have e1 : sgc w (sP (gV S) i) = (!(mSigh (sP (gV S) i)) && mWould (sP (gV S) i) 5) := if_neg h0
              rw [ecn, eci, e1] at nxt
              cases hc : mSigh (sP (gV S) i) with
              | true => rw [hc] at nxt; exact nxt
              | false =>
                rw [hc] at nxt
                cases hd : mWould (sP (gV S) i) 5 with
                | true => rw [hd] at nxt; exact nxt
                | false => rw [hd] at nxt; exact nxt
      unfold fX7_sighs
      rw [chk_t m_c, lh_y hb]
      exact loop FU 0 (by omega) (by show _ < 2000 + 0; omega)
  · refine Kp_no 5 (by omega) (by omega) hw (fun μ hR h => ?_) (fun μ hR h => ?_)
    · unfold fX6_sighs
      rw [chk_t c_c, isIn_z hb, bd2_s, if_pos rfl, bd2_e]; rfl
    · unfold fX7_sighs fX7_sighs_b9
      rw [chk_t m_c, lh_n hb, bd2_e]; rfl
theorem ite_sm {c : Prop} [Decidable c] {μ : ZMem} {a b : Int32} {x : Option (ZMem × Int32)} (h : x = some (μ, b)) : (if c then some (μ, a) else x) = some (μ, if c then a else b) := by
  by_cases q : c
  · rw [if_pos q, if_pos q]
  · rw [if_neg q, if_neg q, h]
def sumT (P : Nat → Nat → Nat) : Nat → Nat
  | 0 => 0
  | i + 1 => sumT P i + P i 4
theorem Kp_status {S : St} (hw : WfS S) (v : Int32) : Kp S (fX6_status 131 0 v) (fX7_status 131 108 v) := by
  have hN := hw.1.1
  have tC : ∀ μ, HR μ → InvC μ S → fX4_tiredTogether 131 18 μ = some (μ, nI (sumT (sP (gV S)) (sN (gV S)))) := by
    intro μ hR h
    have en : zI μ 18 1 = nI (sN (gV S)) := h.1.1 1 (by omega) (by omega)
    have loop : ∀ j i, i ≤ sN (gV S) → sN (gV S) < j + i → fX4_tiredTogether_b4 131 j 18 (nI (sumT (sP (gV S)) i)) (nI i) μ = some (μ, nI (sumT (sP (gV S)) (sN (gV S)))) := by
      intro j
      induction j with
      | zero => intro i _ q; omega
      | succ j ih =>
        intro i hi hj
        rw [fX4_tiredTogether_b4, en]
        by_cases h0 : i = sN (gV S)
        · rw [if_pos ((nI_leI (by omega) (by omega)).mpr (by omega)), h0]
        · have hi7 : i < 7 := by omega
          have c4 : zI μ (18 + 2 + i) 4 = nI (sP (gV S) i 4) := h.1.2 i (by omega) 4 (by omega)
          rw [if_neg (fun q => by have := (nI_leI (by omega) (by omega)).mp q; omega), VS_r0 VS18 hR, bd1_s, chk_t (VS_in VS18 hi7), VS_rp VS18 hR hi7, bd1_s, c4, nI_add, nI_1]
          exact ih (i + 1) (by omega) (by omega)
    unfold fX4_tiredTogether
    rw [chk_t (VS_c VS18)]
    exact loop FU 0 (by omega) (by show _ < 2000 + 0; omega)
  have tM : ∀ μ, HR μ → InvM μ S → fX7_status_b115 131 FU 108 0 0 μ = some (μ, nI (sumT (sP (gV S)) (sN (gV S)))) := by
    intro μ hR h
    have en : zI μ 108 0 = nI (sN (gV S)) := h.1.1 0 (by omega)
    have loop : ∀ j i, i ≤ sN (gV S) → sN (gV S) < j + i → fX7_status_b115 131 j 108 (nI (sumT (sP (gV S)) i)) (nI i) μ = some (μ, nI (sumT (sP (gV S)) (sN (gV S)))) := by
      intro j
      induction j with
      | zero => intro i _ q; omega
      | succ j ih =>
        intro i hi hj
        rw [fX7_status_b115, en]
        by_cases h0 : i = sN (gV S)
        · rw [if_pos ((nI_leI (by omega) (by omega)).mpr (by omega)), h0]
        · have hi7 : i < 7 := by omega
          have c4 := mp4 μ (gV S) hi7
          rw [MH_e h.1] at c4
          rw [if_neg (fun q => by have := (nI_leI (by omega) (by omega)).mp q; omega), mr14 hR, bd1_s, chk_t (mi14 hi7), c4, nI_add, nI_1]
          exact ih (i + 1) (by omega) (by omega)
    exact loop FU 0 (by omega) (by show _ < 2000 + 0; omega)
  by_cases hb : (11 : Int32) ≤ v ∧ v ≤ 17
  · obtain ⟨k, k11, k17, rfl⟩ := in_nat (lo := 11) (hi := 17) (by omega) (by omega) hb
    have nq : ∀ b, b < 10 → ¬ nI k = nI b := fun b hb q => by have := (nI_eq (by omega) (by omega)).mp q; omega
    have e10 : nI k - 10 = nI (k - 10) := pk_sub (b := 10) (by omega)
    refine Kp_q (gR S (k - 10)) hw (fun μ hR h => ?_) (fun μ hR h => ?_)
    · unfold fX6_status fX6_status_b160
      rw [chk_t c_c, if_neg (show ¬ nI k = (0 : Int32) from nq 0 (by omega)), if_neg (show ¬ nI k = (1 : Int32) from nq 1 (by omega)), if_neg (show ¬ nI k = (2 : Int32) from nq 2 (by omega)), if_neg (show ¬ nI k = (3 : Int32) from nq 3 (by omega)), if_neg (show ¬ nI k = (4 : Int32) from nq 4 (by omega)), if_neg (show ¬ nI k = (5 : Int32) from nq 5 (by omega)), if_neg (show ¬ nI k = (6 : Int32) from nq 6 (by omega)), if_neg (show ¬ nI k = (7 : Int32) from nq 7 (by omega)), if_neg (show ¬ nI k = (8 : Int32) from nq 8 (by omega)), if_neg (show ¬ nI k = (9 : Int32) from nq 9 (by omega)), isIn_o hb, bd2_s, if_neg one_ne, cr7 hR, bd1_s, e10, chk_t (inb8 (by omega) (by decide)), nI_clamp (by omega), ← h.2.2.2.2.1 (k - 10) (by omega)]
      rfl
    · unfold fX7_status
      rw [chk_t m_c, if_neg (fun q => (fa_of_lt q).2.1 hb.1), if_neg (fun q => (fa_of_lt q).2.1 hb.2), mr9 hR, bd1_s, e10, chk_t (inb8 (by omega) (by decide)), nI_clamp (by omega), ← h.2.2.2.2.1 (k - 10) (by omega)]
      rfl
  · have sM : ∀ μ, fX7_status 131 108 v μ = fX7_status_b22 131 108 v μ := by
      intro μ
      unfold fX7_status
      rw [chk_t m_c]
      by_cases h1 : v < 11
      · rw [if_pos h1]
      · rw [if_neg h1]
        by_cases h2 : 17 < v
        · rw [if_pos h2]
        · exact absurd ⟨fa_of_nlt h1, fa_of_nlt h2⟩ hb
    refine Kp_q (if v = (0 : Int32) then nI (sN (gV S)) else if v = (1 : Int32) then nI (sW (gV S)) else if v = (2 : Int32) then nI (sY (gV S)) else if v = (3 : Int32) then nI (sD (gV S)) else if v = (4 : Int32) then oI (sB (gV S)) else if v = (5 : Int32) then sT (gV S) else if v = (6 : Int32) then nI (sR (gV S)) else if v = (7 : Int32) then nI (sumT (sP (gV S)) (sN (gV S))) else if v = (8 : Int32) then sS (gV S) else if v = (9 : Int32) then nI (gn S) else -1) hw (fun μ hR h => ?_) (fun μ hR h => ?_)
    · have e1 : zI μ 18 1 = nI (sN (gV S)) := h.1.1 1 (by omega) (by omega)
      have e2 : zI μ 18 2 = nI (sW (gV S)) := h.1.1 2 (by omega) (by omega)
      have e3 : zI μ 18 3 = nI (sY (gV S)) := h.1.1 3 (by omega) (by omega)
      have e4 : zI μ 18 4 = nI (sD (gV S)) := h.1.1 4 (by omega) (by omega)
      have e5 : zI μ 18 5 = oI (sB (gV S)) := h.1.1 5 (by omega) (by omega)
      have e6 : zI μ 18 6 = sT (gV S) := h.1.1 6 (by omega) (by omega)
      have e7 : zI μ 18 7 = nI (sR (gV S)) := h.1.1 7 (by omega) (by omega)
      have e8 : zI μ 18 8 = sS (gV S) := h.1.1 8 (by omega) (by omega)
      have e9 : zI μ 105 1 = nI (gn S) := h.2.2.2.2.2.2.1
      unfold fX6_status fX6_status_b160
      rw [chk_t c_c, cr1 hR, bd1_s, bd1_s, bd1_s, bd1_s, bd1_s, bd1_s, bd1_s, bd1_s, bd1_s, cr6 hR, bd1_s, e1, e2, e3, e4, e5, e6, e7, e8, e9, tC μ hR h, bd2_s, isIn_z hb, bd2_s, if_pos (rfl : (0 : Int32) = 0)]
      exact ite_sm (ite_sm (ite_sm (ite_sm (ite_sm (ite_sm (ite_sm (ite_sm (ite_sm (ite_sm rfl)))))))))
    · have e1 : zI μ 108 0 = nI (sN (gV S)) := h.1.1 0 (by omega)
      have e2 : zI μ 108 1 = nI (sW (gV S)) := h.1.1 1 (by omega)
      have e3 : zI μ 108 2 = nI (sY (gV S)) := h.1.1 2 (by omega)
      have e4 : zI μ 108 3 = nI (sD (gV S)) := h.1.1 3 (by omega)
      have e5 : zI μ 108 4 = oI (sB (gV S)) := h.1.1 4 (by omega)
      have e6 : zI μ 108 5 = sT (gV S) := h.1.1 5 (by omega)
      have e7 : zI μ 108 6 = nI (sR (gV S)) := h.1.1 6 (by omega)
      have e8 : zI μ 108 7 = sS (gV S) := h.1.1 7 (by omega)
      have e9 : zI μ 108 40 = nI (gn S) := h.2.2.2.2.2.2.1
      rw [sM]
      unfold fX7_status_b22
      rw [e1, e2, e3, e4, e5, e6, e7, e8, e9, tM μ hR h]
      exact ite_sm (ite_sm (ite_sm (ite_sm (ite_sm (ite_sm (ite_sm (ite_sm (ite_sm (ite_sm rfl)))))))))
