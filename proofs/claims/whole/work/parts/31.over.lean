-- WEIGHTS, PRAISE
theorem RC_b {μ : ZMem} {S T : St} {x : Int32} {r : Option (ZMem × Int32)} {q : Int32 × St} {f : ZMem → Int32 → Option (ZMem × Int32)} (h : RC μ r (x, T)) (g : ∀ ν, HR ν → InvC ν T → RC ν (f ν x) q) : RC μ (bd2 r f) q := by
  obtain ⟨ν, e, hR, hI, hE⟩ := h
  obtain ⟨ξ, e2, hR2, hI2, hE2⟩ := g ν hR hI
  rw [e]
  exact ⟨ξ, e2, hR2, hI2, EqM_t hE hE2⟩
theorem RM_b {μ : ZMem} {S T : St} {x : Int32} {r : Option (ZMem × Int32)} {q : Int32 × St} {f : ZMem → Int32 → Option (ZMem × Int32)} (h : RM μ r (x, T)) (g : ∀ ν, HR ν → InvM ν T → RM ν (f ν x) q) : RM μ (bd2 r f) q := by
  obtain ⟨ν, e, hR, hI, hE⟩ := h
  obtain ⟨ξ, e2, hR2, hI2, hE2⟩ := g ν hR hI
  rw [e]
  exact ⟨ξ, e2, hR2, hI2, EqC_t hE hE2⟩
/-- cut off at n -/
def cutO (n : Nat) (o : Option Nat) : Option Nat := match o with
  | some r => if r < n then some r else none
  | none => none
theorem mOver_ge (sil : Option Nat) : ∀ n i σ r, mOver sil n i σ = some r → i ≤ r ∧ r < i + n := by
  intro n
  induction n with
  | zero => intro i σ r h; cases h
  | succ n ih =>
    intro i σ r h
    unfold mOver at h
    by_cases hl : sD σ < sY σ
    · rw [if_pos hl] at h
      have := ih _ _ _ h
      omega
    · rw [if_neg hl] at h
      cases h
      omega
theorem mOver_cut (sil : Option Nat) : ∀ n m i σ, n ≤ m → mOver sil n i σ = cutO (i + n) (mOver sil m i σ) := by
  intro n
  induction n with
  | zero =>
    intro m i σ _
    cases h : mOver sil m i σ with
    | none => rfl
    | some r =>
      have := mOver_ge sil m i σ r h
      show none = if r < i + 0 then some r else none
      rw [if_neg (by omega)]
  | succ n ih =>
    intro m i σ hm
    obtain ⟨k, rfl⟩ : ∃ k, m = k + 1 := ⟨m - 1, by omega⟩
    unfold mOver
    by_cases hl : sD σ < sY σ
    · rw [if_pos hl, if_pos hl, ih k (i + 1) _ (by omega), show i + 1 + n = i + (n + 1) by omega]
    · rw [if_neg hl, if_neg hl]
      show some i = if i < i + (n + 1) then some i else none
      rw [if_pos (by omega)]
theorem wW_wf {σ : Sg} {w : Nat} (h : Wf σ) (h1 : 1 ≤ w) (h2 : w ≤ 99) : Wf (wW σ w) := ⟨h.1, ⟨h1, h2⟩, h.2.2⟩
/-- OVER by a weight -/
def oW (S : St) (w : Nat) : Option Nat := mOver none 201 0 (wW (gV S) w)
theorem overW_c {S : St} (hw : WfS S) {w t : Nat} (h1 : 1 ≤ w) (h2 : w ≤ 99) (ht : t ≤ 200) {μ : ZMem} (hR : HR μ) (h : InvC μ S) : RC μ (fX6_overWithin 131 0 (nI w) (nI t) μ) (oI (cutO (t + 1) (oW S w)), S) := by
  have hN := hw.1.1
  have e := VH_e h.1
  have k1 := over_c (μ := μ) (most := t) (sil := none) VS36 hR (wW_wf hw.1 h1 h2) (fun q h => by cases h) (by omega)
  have k2 := ovl_u2 μ 36 (gV S) w
  refine RC_T (σ := mOverS none (t + 1) (wW (gV S) w)) hR hw (by rw [mOverS_N]; exact hN) h ?_
  unfold fX6_overWithin
  rw [chk_t c_c, cr3 hR, bd1_s, cr1 hR, bd1_s, load36 hR hw e, bd1_s, cr3 (HR_ovl hR), bd1_s, lt_e, k2, cr3 (HR_ovl hR), bd1_s, bd2_e]
  refine Eq.trans k1 ?_
  rw [mOver_cut none (t + 1) 201 0 _ (by omega), Nat.zero_add]
  rfl
theorem RM_W {μ : ZMem} {S : St} {σ τ : Sg} {a : Nat} {x : Int32} {r : Option (ZMem × Int32)} (ha : a = 125 ∨ a = 127) (hR : HR μ) (hw : WfS S) (h : InvM μ S) (e : r = some (ovm (sav (ovm μ σ) a τ) (gV S), x)) : RM μ r (x, S) := by
  have e1 : ∀ b k, b ≠ a → (ovm (sav (ovm μ σ) a τ) (gV S)).1 b k = μ.1 b k := by
    intro b k hb
    have q : (ovm (sav (ovm μ σ) a τ) (gV S)).1 b k = (ovm μ (gV S)).1 b k := by
      simp only [ovm, sav_o hb]
      repeat' split
      all_goals first | rfl | omega
    rw [q, MH_e h.1]
  exact ⟨_, e, HR_ovm (HR_sav (HR_ovm hR)), InvM_f hw h (fun b k q => e1 b k (by omega)) (fun k => rfl), fun b k q => ⟨e1 b k (by omega), rfl⟩⟩
theorem ovm_i (μ : ZMem) (σ : Sg) : ovm (ovm μ σ) σ = ovm μ σ := MH_e (MH_o μ σ)
theorem overW_m {S : St} (hw : WfS S) {w : Nat} (h1 : 1 ≤ w) (h2 : w ≤ 99) {μ : ZMem} (hR : HR μ) (h : InvM μ S) : RM μ (fX7_overBy 131 108 (nI w) μ) (oI (oW S w), S) := by
  have e := MH_e h.1
  have k0 := ovm_u1 μ (gV S) w
  have k2 := ovm_1 μ (gV S)
  rw [e] at k0 k2
  have k1 := isOver_m (μ := ovm μ (wW (gV S) w)) (sil := none) (HR_ovm hR) (wW_wf hw.1 h1 h2) ((ovm_33 _ _).trans h.2.2.2.2.2.2.2.2.1) (fun q h => by cases h) (ovm_i _ _)
  refine RM_W (σ := wW (gV S) w) (τ := wW (gV S) w) (a := 127) (Or.inr rfl) hR hw h ?_
  unfold fX7_overBy
  rw [chk_t m_c, lt_e, k0, k1, bd2_s, lt_e, k2, ovm_u1]
  rfl
theorem dec_nI {k : Nat} (h : 1 ≤ k) : nI k + (-1 : Int32) = nI (k - 1) := by
  rw [← show nI k - nI 1 = nI (k - 1) from pk_sub h]
  exact (Int32.sub_eq_add_neg _ _).symm
theorem oI_cut {t : Nat} {o : Option Nat} (ht : t ≤ 200) (ho : ∀ r, o = some r → r < 1000) : oI (cutO (t + 1) o) = nI t ↔ oI o = nI t := by
  have a1 := oI_eq (p := t) (b := o) (by omega) ho
  have a2 := oI_eq (p := t) (b := cutO (t + 1) o) (by omega) (fun q hq => by
    cases o with
    | none => cases hq
    | some r =>
      unfold cutO at hq
      split at hq
      · next r' e =>
        cases e
        by_cases hl : r < t + 1
        · rw [if_pos hl] at hq; cases hq; omega
        · rw [if_neg hl] at hq; cases hq
      · cases hq)
  have a3 : cutO (t + 1) o = some t ↔ o = some t := by
    cases o with
    | none => exact Iff.rfl
    | some r =>
      show (if r < t + 1 then some r else none) = some t ↔ some r = some t
      by_cases hl : r < t + 1
      · rw [if_pos hl]
      · rw [if_neg hl]
        refine ⟨fun q => (by cases q), fun q => ?_⟩
        cases q
        omega
  rw [eq_comm, a2, a3, ← a1, eq_comm]
theorem oW_lt {S : St} {w r : Nat} (h : oW S w = some r) : r < 1000 := by
  have := mOver_ge none 201 0 _ r h
  omega
theorem Kp_weights {S : St} (hw : WfS S) (t w : Int32) : Kp S (fX6_weights 131 0 t w) (fX7_weights 131 108 t w) := by
  by_cases hb : (0 : Int32) ≤ w ∧ w ≤ 1
  · by_cases hc : (0 : Int32) ≤ t ∧ t ≤ 200
    · obtain ⟨k, k0, k5, rfl⟩ := in_nat (lo := 0) (hi := 200) (by omega) (by omega) hc
      have both : ∀ j m, m ≤ 99 → m < j → ∀ (n l : Int32), ∃ x, (∀ μ, HR μ → InvC μ S → RC μ (fX6_weights_b43 131 j 0 (nI k) w n l (nI m) μ) (x, S)) ∧ ∀ μ, HR μ → InvM μ S → RM μ (fX7_weights_b44 131 j 108 (nI k) w n l (nI m) μ) (x, S) := by
        intro j
        induction j with
        | zero => intro m _ h; omega
        | succ j ih =>
          intro m hm hj n l
          by_cases h0 : m = 0
          · subst h0
            refine ⟨if w = 0 then n else l, fun μ hR h => RC_q hR h ?_, fun μ hR h => RM_q hR h ?_⟩
            · rw [fX6_weights_b43]
              unfold fX6_weights_b83
              rw [if_pos (by decide)]
              split <;> rfl
            · rw [fX7_weights_b44]
              unfold fX7_weights_b86
              rw [if_pos (by decide)]
              split <;> rfl
          · have n1 : ¬ nI m < (1 : Int32) := fun q => by have := (nI_ltI (b := 1) (by omega) (by omega)).mp q; omega
            by_cases hq : oI (oW S m) = nI k
            · obtain ⟨x, xc, xm⟩ := ih (m - 1) (by omega) (by omega) (n + 1) (nI m)
              refine ⟨x, fun μ hR h => ?_, fun μ hR h => ?_⟩
              · rw [fX6_weights_b43, if_neg n1]
                refine RC_b (S := S) (overW_c hw (by omega) hm k5 hR h) (fun ν hR2 h2 => ?_)
                unfold fX6_weights_b67
                rw [if_pos ((oI_cut k5 (fun r => oW_lt)).mpr hq), dec_nI (by omega)]
                exact xc ν hR2 h2
              · rw [fX7_weights_b44, if_neg n1]
                refine RM_b (S := S) (overW_m hw (by omega) hm hR h) (fun ν hR2 h2 => ?_)
                unfold fX7_weights_b70
                rw [if_pos hq, dec_nI (by omega)]
                exact xm ν hR2 h2
            · obtain ⟨x, xc, xm⟩ := ih (m - 1) (by omega) (by omega) n l
              refine ⟨x, fun μ hR h => ?_, fun μ hR h => ?_⟩
              · rw [fX6_weights_b43, if_neg n1]
                refine RC_b (S := S) (overW_c hw (by omega) hm k5 hR h) (fun ν hR2 h2 => ?_)
                unfold fX6_weights_b67
                rw [if_neg (fun q => hq ((oI_cut k5 (fun r => oW_lt)).mp q)), dec_nI (by omega)]
                exact xc ν hR2 h2
              · rw [fX7_weights_b44, if_neg n1]
                refine RM_b (S := S) (overW_m hw (by omega) hm hR h) (fun ν hR2 h2 => ?_)
                unfold fX7_weights_b70
                rw [if_neg hq, dec_nI (by omega)]
                exact xm ν hR2 h2
      obtain ⟨x, xc, xm⟩ := both FU 99 (by omega) (by show 99 < 2000; omega) 0 (-1)
      refine ⟨(x, S), hw, fun μ hR h => ?_, fun μ hR h => ?_⟩
      · unfold fX6_weights
        rw [chk_t c_c, isIn_o hb, bd2_s, if_neg one_ne, isIn_o hc, bd2_s, if_neg one_ne]
        exact xc μ hR h
      · unfold fX7_weights
        rw [chk_t m_c, lh_y hb, isF_o hc, bd2_s, if_neg one_ne]
        exact xm μ hR h
    · refine Kp_far 6 (by omega) (by omega) hw (fun μ hR h => ?_) (fun μ hR h => ?_)
      · unfold fX6_weights
        rw [chk_t c_c, isIn_o hb, bd2_s, if_neg one_ne, isIn_z hc, bd2_s, if_pos rfl, bd2_e]; rfl
      · unfold fX7_weights
        rw [chk_t m_c, lh_y hb, isF_z hc, bd2_s, if_pos rfl, bd2_e]; rfl
  · refine Kp_far 5 (by omega) (by omega) hw (fun μ hR h => ?_) (fun μ hR h => ?_)
    · unfold fX6_weights
      rw [chk_t c_c, isIn_z hb, bd2_s, if_pos rfl, bd2_e]; rfl
    · unfold fX7_weights fX7_weights_b9
      rw [chk_t m_c, lh_n hb, bd2_e]; rfl
