-- BORNE
def mGo (D : Nat) (x : Nat → Int32) : Nat → Nat → Sg → Bool
  | 0, _, _ => true
  | r + 1, i, σ => if nI (sD (mStep none σ)) - nI D = x i then mGo D x r (i + 1) (mStep none σ) else false
def bI (b : Bool) : Int32 := if b = true then 1 else 0
theorem bI_01 (b : Bool) : b01 (bI b) = true := by cases b <;> decide
theorem goL_c {μ : ZMem} {S : St} (hR : HR μ) (hw : WfS S) (h : InvC μ S) {s c : Nat} (hs : s < 8) (e : hW (gS S s) = 1) (hc : c ≤ hZ (gS S s)) : ∀ k i σ, Wf σ → sN σ ≤ 7 → i ≤ c → c < k + i → ∃ τ, sN τ ≤ 7 ∧ fX6_goesAsTold_b22 131 k 0 (2 + 2 * s) (nI c) (nI i) (ovl μ 36 σ) = some (ovl μ 36 τ, bI (mGo (sD (gV S)) (xE (gS S s)) (c - i) i σ)) := by
  have hz := ((hw.2.2.1 s hs).2.1 e).2
  intro k
  induction k with
  | zero => intro i σ _ _ _ _; omega
  | succ k ih =>
    intro i σ hW hN q1 q2
    rw [fX6_goesAsTold_b22]
    by_cases hi : i = c
    · rw [if_pos ((nI_leI (by omega) (by omega)).mpr (by omega)), hi, Nat.sub_self]
      exact ⟨σ, hN, rfl⟩
    · have hN2 : sN (mStep none σ) ≤ 7 := by rw [(mStep_N none σ).1]; exact hN
      have a0 : fX3_intAt 131 (2 + 2 * s) (nI i) (ovl μ 36 (mStep none σ)) = some (ovl μ 36 (mStep none σ), xE (gS S s) i) := intAt_i (HR_ovl hR) hw (InvC_T hw hN2 h) hs e (by omega)
      have a1 : zI (ovl μ 36 (mStep none σ)) 18 4 = nI (sD (gV S)) := (ovl_o μ 36 _ 4 (by omega) hN2).trans (h.1.1 4 (by omega) (by omega))
      rw [if_neg (fun q => by have := (nI_leI (by omega) (by omega)).mp q; omega), cr3 (HR_ovl hR), bd1_s, stepN_c VS36 hR hW, bd1_s, cr3 (HR_ovl hR), bd1_s, cr1 (HR_ovl hR), bd1_s, a0, bd2_s, ovl_4, a1, nI_1, show c - i = (c - (i + 1)) + 1 by omega]
      unfold mGo
      by_cases hg : nI (sD (mStep none σ)) - nI (sD (gV S)) = xE (gS S s) i
      · rw [if_pos hg, if_pos hg]
        exact ih (i + 1) _ (Wf_step hW) hN2 (by omega) (by omega)
      · rw [if_neg hg, if_neg hg]
        exact ⟨_, hN2, rfl⟩
theorem go_c {S : St} (hw : WfS S) {s c : Nat} (hs : s < 8) (e : hW (gS S s) = 1) (hc : c ≤ hZ (gS S s)) (b : Option Nat) (hb : ∀ q, b = some q → q < sN (gV S)) {μ : ZMem} (hR : HR μ) (h : InvC μ S) : RC μ (fX6_goesAsTold 131 0 (oI b) (2 + 2 * s) (nI c) μ) (bI (mGo (sD (gV S)) (xE (gS S s)) c 0 (wB (gV S) b)), S) := by
  have hN := hw.1.1
  have hz := ((hw.2.2.1 s hs).2.1 e).2
  have hW : Wf (wB (gV S) b) := Wf_wB hw.1 hb
  obtain ⟨τ, t1, t2⟩ := goL_c hR hw h hs e hc FU 0 (wB (gV S) b) hW hN (by omega) (by show c < 2000 + 0; omega)
  refine RC_T (σ := τ) hR hw t1 h ?_
  unfold fX6_goesAsTold
  rw [chk_t c_c, chk_t (shc hs), cr3 hR, bd1_s, cr1 hR, bd1_s, load36 hR hw (VH_e h.1), bd1_s, cr3 (HR_ovl hR), bd1_s, lt_e, ovl_u5]
  exact t2
theorem go_m {S : St} (hw : WfS S) {s c : Nat} (hs : s < 8) (e : hW (gS S s) = 1) (hc : c ≤ hZ (gS S s)) (b : Option Nat) (hb : ∀ q, b = some q → q < sN (gV S)) {μ : ZMem} (hR : HR μ) (h : InvM μ S) : RM μ (fX7_bearsSo 131 108 (oI b) (nI s) (nI c) μ) (bI (mGo (sD (gV S)) (xE (gS S s)) c 0 (wB (gV S) b)), S) := by
  have hN := hw.1.1
  have hz := ((hw.2.2.1 s hs).2.1 e).2
  have hW : Wf (wB (gV S) b) := Wf_wB hw.1 hb
  have h33 : zI (sav μ 127 (gV S)) 108 33 = -1 := (sav_o (by omega)).trans h.2.2.2.2.2.2.2.2.1
  have hR2 := HR_sav (a := 127) (σ := gV S) hR
  have fin : ∀ (x : Bool) σ, fX7_bearsSo_b72 131 108 (bI x) (ovm (sav μ 127 (gV S)) σ) = some (ovm (sav μ 127 (gV S)) (gV S), bI x) := by
    intro x σ
    unfold fX7_bearsSo_b72
    rw [mr32 (HR_ovm hR2), bd1_s, all_b AR127 hR, bd1_s, chk_t (bI_01 x)]
  have loop : ∀ k i σ, Wf σ → i ≤ c → c < k + i → fX7_bearsSo_b26 131 k 108 (nI s) (nI c) 1 (nI (sD (gV S))) (nI i) (ovm (sav μ 127 (gV S)) σ) = some (ovm (sav μ 127 (gV S)) (gV S), bI (mGo (sD (gV S)) (xE (gS S s)) (c - i) i σ)) := by
    intro k
    induction k with
    | zero => intro i σ _ _ _; omega
    | succ k ih =>
      intro i σ hW q1 q2
      rw [fX7_bearsSo_b26]
      unfold fX7_bearsSo_b64
      by_cases hi : i = c
      · rw [if_pos ((nI_leI (by omega) (by omega)).mpr (by omega)), hi, Nat.sub_self]
        exact fin true σ
      · obtain ⟨k', rfl⟩ : ∃ k', k = k' + 1 := ⟨k - 1, by omega⟩
        rw [if_neg (fun q => by have := (nI_leI (by omega) (by omega)).mp q; omega), if_neg one_ne, stepN_m hR2 hW h33, bd1_s, xE_m hR hw h hs e hc _ i (by omega), bd2_s, ovm_3, nI_1, show c - i = (c - (i + 1)) + 1 by omega]
        unfold mGo
        by_cases hg : nI (sD (mStep none σ)) - nI (sD (gV S)) = xE (gS S s) i
        · rw [if_pos hg, if_pos hg]
          exact ih (i + 1) _ (Wf_step hW) (by omega) (by omega)
        · rw [if_neg hg, if_neg hg, fX7_bearsSo_b26, if_pos rfl]
          have f0 := fin false (mStep none σ)
          split
          · exact f0
          · exact f0
  refine RM_L (a := 127) (Or.inr rfl) hR hw h ?_
  unfold fX7_bearsSo
  rw [chk_t m_c, mr32 hR, bd1_s, savF hR (MH_e h.1), bd1_s, lt_e, ovm_u4, ovm_3]
  exact loop FU 0 _ hW (by omega) (by show c < 2000 + 0; omega)
theorem shl_8 {i : Nat} (hi : i < 8) : (1 : Int32) <<< (nI i &&& 31) = nI (2 ^ i) := by
  have g : ∀ j : Fin 8, (1 : Int32) <<< (nI j.val &&& 31) = nI (2 ^ j.val) := by decide +kernel
  exact g ⟨i, hi⟩
theorem bI_ne {b : Bool} : bI b = 0 ↔ b = false := by cases b <;> decide
theorem borneB {S : St} (hw : WfS S) {s c : Nat} (hs : s < 8) (e : hW (gS S s) = 1) (hc : c ≤ hZ (gS S s)) (g : Nat → Bool) (hg : ∀ p, g p = mGo (sD (gV S)) (xE (gS S s)) c 0 (wB (gV S) (some p))) (g0 : Bool) (hg0 : g0 = mGo (sD (gV S)) (xE (gS S s)) c 0 (wB (gV S) none)) : ∀ k i, i ≤ sN (gV S) → sN (gV S) < k + i → ∀ μ, HR μ → InvC μ S → RC μ (fX6_borne_b43 131 k 0 (nI s) (nI c) (nI (mBits g i)) (nI i) μ) (nI (mBits g (sN (gV S)) + if g0 = true then 2 ^ sN (gV S) else 0), S) := by
  have hN := hw.1.1
  intro k
  induction k with
  | zero => intro i _ _; omega
  | succ k ih =>
    intro i q1 q2 μ hR h
    have e1 : zI μ 18 1 = nI (sN (gV S)) := h.1.1 1 (by omega) (by omega)
    rw [fX6_borne_b43]
    unfold fX6_borne_b118 fX6_borne_b80
    rw [cr1 hR, bd1_s, e1]
    by_cases hi : i = sN (gV S)
    · rw [if_pos ((nI_leI (by omega) (by omega)).mpr (by omega)), cr0 hR, bd1_s, chk_t (shi hs), shr hR hs, bd1_s, hi]
      have k0 := go_c hw hs e hc none (fun q h => by cases h) hR h
      rw [← hg0] at k0
      refine RC_b (S := S) (T := S) (x := bI g0) k0 (fun ν hR2 h2 => ?_)
      have e2 : zI ν 18 1 = nI (sN (gV S)) := h2.1.1 1 (by omega) (by omega)
      cases hb : g0 with
      | true =>
        rw [if_neg (show ¬ bI true = 0 by decide), cr1 hR2, bd1_s, e2, if_pos rfl, bits_or (by omega)]
        exact RC_q hR2 h2 rfl
      | false =>
        rw [if_pos (show bI false = 0 by decide), if_neg (by decide)]
        exact RC_q hR2 h2 rfl
    · rw [if_neg (fun q => by have := (nI_leI (by omega) (by omega)).mp q; omega), cr0 hR, bd1_s, chk_t (shi hs), shr hR hs, bd1_s]
      have k0 := go_c hw hs e hc (some i) (fun q h => by cases h; omega) hR h
      rw [← hg i] at k0
      refine RC_b (S := S) (T := S) (x := bI (g i)) k0 (fun ν hR2 h2 => ?_)
      rw [nI_1]
      have nxt := ih (i + 1) (by omega) (by omega) ν hR2 h2
      have eb : mBits g (i + 1) = if g i = true then mBits g i + 2 ^ i else mBits g i := rfl
      rw [eb] at nxt
      cases hb : g i with
      | true =>
        rw [if_pos hb] at nxt
        rw [if_neg (show ¬ bI true = 0 by decide), bits_or (by omega)]
        exact nxt
      | false =>
        rw [if_neg (by rw [hb]; decide)] at nxt
        rw [if_pos (show bI false = 0 by decide)]
        exact nxt
theorem borneM {S : St} (hw : WfS S) {s c : Nat} (hs : s < 8) (e : hW (gS S s) = 1) (hc : c ≤ hZ (gS S s)) (g : Nat → Bool) (hg : ∀ p, g p = mGo (sD (gV S)) (xE (gS S s)) c 0 (wB (gV S) (some p))) (z : Nat) : ∀ k i, i ≤ sN (gV S) → sN (gV S) < k + i → ∀ μ, HR μ → InvM μ S → RM μ (fX7_borne_b87 131 k 108 (nI s) (nI c) (nI (mBits g i + z)) (nI i) μ) (nI (mBits g (sN (gV S)) + z), S) := by
  have hN := hw.1.1
  intro k
  induction k with
  | zero => intro i _ _; omega
  | succ k ih =>
    intro i q1 q2 μ hR h
    have e1 : zI μ 108 0 = nI (sN (gV S)) := h.1.1 0 (by omega)
    rw [fX7_borne_b87]
    unfold fX7_borne_b116
    rw [e1]
    by_cases hi : i = sN (gV S)
    · rw [if_pos ((nI_leI (by omega) (by omega)).mpr (by omega)), hi]
      exact RM_q hR h rfl
    · rw [if_neg (fun q => by have := (nI_leI (by omega) (by omega)).mp q; omega)]
      have k0 := go_m hw hs e hc (some i) (fun q h => by cases h; omega) hR h
      rw [← hg i] at k0
      refine RM_b (S := S) (T := S) (x := bI (g i)) k0 (fun ν hR2 h2 => ?_)
      rw [nI_1, shl_8 (by omega), nI_add]
      have nxt := ih (i + 1) (by omega) (by omega) ν hR2 h2
      have eb : mBits g (i + 1) = if g i = true then mBits g i + 2 ^ i else mBits g i := rfl
      rw [eb] at nxt
      cases hb : g i with
      | true =>
        rw [if_pos hb] at nxt
        rw [if_neg (show ¬ bI true = 0 by decide), show mBits g i + z + 2 ^ i = mBits g i + 2 ^ i + z by omega]
        exact nxt
      | false =>
        rw [if_neg (by rw [hb]; decide)] at nxt
        rw [if_pos (show bI false = 0 by decide)]
        exact nxt
theorem Kp_borne {S : St} (hw : WfS S) (v n : Int32) : Kp S (fX6_borne 131 0 v n) (fX7_borne 131 108 v n) := by
  have hN := hw.1.1
  have cN : ∀ k, 1 ≤ k → k ≤ 7 → (∀ μ, HR μ → InvC μ S → fX6_toldRefusal 131 0 v n n.toInt64 1 μ = some (μ, -nI k)) → ∀ μ, HR μ → InvC μ S → fX6_borne 131 0 v n μ = fX6_refuse 131 0 (-nI k) μ := by
    intro k k1 k7 g μ hR h
    unfold fX6_borne
    rw [chk_t c_c, g μ hR h, bd2_s, if_neg (neg_ne k1 k7), bd2_e]
  rcases told_or hw v n 1 (by omega) n.toInt64 (fun c hc e => by rw [e, nI_l hc, Nat.one_mul]) 1 with ⟨hv, t⟩ | ⟨s, hs, rfl, ⟨h1, t⟩ | ⟨h1, hn, t⟩ | ⟨h1, c, hc, rfl, ⟨hd, t⟩ | ⟨hd, hb, t⟩⟩⟩
  · refine Kp_no 1 (by omega) (by omega) hw (cN 1 (by omega) (by omega) t) (fun μ hR h => ?_)
    unfold fX7_borne fX7_borne_b52
    rw [chk_t m_c, wanted_z hv, bd2_s, if_neg (neg_ne (by omega) (by omega)), if_neg (neg_ne (by omega) (by omega)), bd2_e]
  · have hr := rr_n h1
    refine Kp_no (rr (gS S s)) (by omega) (by omega) hw (cN _ (by omega) (by omega) t) (fun μ hR h => ?_)
    unfold fX7_borne fX7_borne_b52
    rw [chk_t m_c, wanted_m hR hw h hs, bd2_s, if_neg (neg_ne (by omega) (by omega)), if_neg (neg_ne (by omega) (by omega)), bd2_e]
  · refine Kp_no 4 (by omega) (by omega) hw (cN 4 (by omega) (by omega) t) (fun μ hR h => ?_)
    unfold fX7_borne fX7_borne_b51 fX7_borne_b52
    rw [chk_t m_c, wanted_m hR hw h hs, rr_1 h1, bd2_s, if_pos neg0, if_neg (fa_of_lt hn).2.1, if_neg (show ¬ (-4 : Int32) = 0 by decide), bd2_e]; rfl
  · have hz := ((hw.2.2.1 s hs).2.1 h1).2
    have hd2 : hZ (gS S s) < c := by
      rcases hd with q | q
      · omega
      · exact absurd q one_ne
    refine Kp_no 5 (by omega) (by omega) hw (cN 5 (by omega) (by omega) t) (fun μ hR h => ?_)
    unfold fX7_borne fX7_borne_b51 fX7_borne_b52
    rw [chk_t m_c, wanted_m hR hw h hs, rr_1 h1, bd2_s, if_pos neg0, if_pos (nI_pos' hc), mr17 hR, bd1_s, chk_t (i17 hs), mZ h hs h1, if_neg (fun q => by have := (nI_leI hc (by omega)).mp q; omega), if_neg (show ¬ (-5 : Int32) = 0 by decide), bd2_e]; rfl
  · have hz := ((hw.2.2.1 s hs).2.1 h1).2
    have hcz : c ≤ hZ (gS S s) := by omega
    by_cases hr : (1 : Int32) ≤ nI c ∧ nI c ≤ 40
    · have g0 : ∃ b, b = mGo (sD (gV S)) (xE (gS S s)) c 0 (wB (gV S) none) := ⟨_, rfl⟩
      obtain ⟨b, hb0⟩ := g0
      have gg : ∃ g : Nat → Bool, ∀ p, g p = mGo (sD (gV S)) (xE (gS S s)) c 0 (wB (gV S) (some p)) := ⟨fun p => mGo (sD (gV S)) (xE (gS S s)) c 0 (wB (gV S) (some p)), fun p => rfl⟩
      obtain ⟨g, hg⟩ := gg
      refine ⟨(nI (mBits g (sN (gV S)) + if b = true then 2 ^ sN (gV S) else 0), S), hw, fun μ hR h => ?_, fun μ hR h => ?_⟩
      · have k1 := borneB hw hs h1 hcz g hg b hb0 FU 0 (by omega) (by show sN (gV S) < 2000 + 0; omega) μ hR h
        unfold fX6_borne
        rw [chk_t c_c, t μ hR h, bd2_s, if_pos rfl, isIn_o hr, bd2_s, if_neg one_ne]
        exact k1
      · unfold fX7_borne fX7_borne_b51 fX7_borne_b52 fX7_borne_b82
        rw [chk_t m_c, wanted_m hR hw h hs, rr_1 h1, bd2_s, if_pos neg0, if_pos (nI_pos' hc), mr17 hR, bd1_s, chk_t (i17 hs), mZ h hs h1, if_pos ((nI_leI hc (by omega)).mpr hcz), isF_o hr, bd2_s, if_neg one_ne, if_pos (rfl : (0 : Int32) = 0)]
        have k0 := go_m hw hs h1 hcz none (fun q h => by cases h) hR h
        rw [← hb0] at k0
        refine RM_b (S := S) (T := S) (x := bI b) k0 (fun ν hR2 h2 => ?_)
        have e2 : zI ν 108 0 = nI (sN (gV S)) := h2.1.1 0 (by omega)
        cases hb2 : b with
        | true =>
          have k1 := borneM hw hs h1 hcz g hg (2 ^ sN (gV S)) FU 0 (by omega) (by show sN (gV S) < 2000 + 0; omega) ν hR2 h2
          have e0 : mBits g 0 + 2 ^ sN (gV S) = 2 ^ sN (gV S) := Nat.zero_add _
          rw [e0] at k1
          rw [if_neg (show ¬ bI true = 0 by decide), e2, shl_8 (by omega), if_pos rfl]
          exact k1
        | false =>
          have k1 := borneM hw hs h1 hcz g hg 0 FU 0 (by omega) (by show sN (gV S) < 2000 + 0; omega) ν hR2 h2
          rw [if_pos (show bI false = 0 by decide), if_neg (by decide)]
          exact k1
    · refine Kp_no 6 (by omega) (by omega) hw (fun μ hR h => ?_) (fun μ hR h => ?_)
      · unfold fX6_borne
        rw [chk_t c_c, t μ hR h, bd2_s, if_pos rfl, isIn_z hr, bd2_s, if_pos rfl, bd2_e]; rfl
      · unfold fX7_borne fX7_borne_b51 fX7_borne_b52
        rw [chk_t m_c, wanted_m hR hw h hs, rr_1 h1, bd2_s, if_pos neg0, if_pos (nI_pos' hc), mr17 hR, bd1_s, chk_t (i17 hs), mZ h hs h1, if_pos ((nI_leI hc (by omega)).mpr hcz), isF_z hr, bd2_s, if_pos rfl, if_neg neg6, bd2_e]; rfl
