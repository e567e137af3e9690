-- ROW, SET, SHOW, HOLDS
theorem rr_1 {h : Sh} (e : hW h = 1) : rr h = 0 := by
  unfold rr
  rw [if_neg (by omega), if_pos e]
theorem rr_n {h : Sh} (e : ¬ hW h = 1) : 2 ≤ rr h ∧ rr h ≤ 3 := by
  unfold rr
  by_cases h2 : hW h = 2
  · rw [if_pos h2]; omega
  · rw [if_neg h2, if_neg e]; omega
theorem neg0 : -nI 0 = 0 := by decide
theorem neg_ne {k : Nat} (h1 : 1 ≤ k) (h7 : k ≤ 7) : ¬ -nI k = 0 := by
  intro q
  have e : k = 1 ∨ k = 2 ∨ k = 3 ∨ k = 4 ∨ k = 5 ∨ k = 6 ∨ k = 7 := by omega
  rcases e with rfl | rfl | rfl | rfl | rfl | rfl | rfl <;> exact absurd q (by decide)
theorem zpL_at (μ : ZMem) (a k : Nat) (x : Int64) : (zpL μ a k x).2.1 a k = x := by simp [zpL]
theorem zpL_ne {μ : ZMem} {a k b j : Nat} {x : Int64} (h : ¬ (b = a ∧ j = k)) : (zpL μ a k x).2.1 b j = μ.2.1 b j := by
  simp only [zpL]
  rw [if_neg h]
theorem Kp_holds {S : St} (hw : WfS S) (v : Int32) : Kp S (fX6_holds 131 0 v) (fX7_holds 131 108 v) := by
  rcases shelf_or v with hv | ⟨s, hs, rfl⟩
  · refine Kp_q (-1) hw (fun μ hR h => ?_) (fun μ hR h => ?_)
    · unfold fX6_holds
      rw [chk_t c_c, isShelf_z hv, bd2_s, if_pos rfl]
    · unfold fX7_holds fX7_holds_b17
      rw [chk_t m_c, mShelf_z hv, bd2_s, if_pos rfl]
  · have hq := (hw.2.2.1 s hs).1
    by_cases h1 : hW (gS S s) = 1
    · refine Kp_q (100 + nI (hO (gS S s))) hw (fun μ hR h => ?_) (fun μ hR h => ?_)
      · unfold fX6_holds
        rw [chk_t c_c, isShelf_i hs, bd2_s, if_neg one_ne, cr0 hR, bd1_s, chk_t (shi hs), shr hR hs, bd1_s, isRow_y h hs h1, bd2_s, if_neg one_ne, cO h hs h1]
      · have e1 := mW2 hw h hs 1 (by omega)
        have e0 := mW2 hw h hs 0 (by omega)
        unfold fX7_holds fX7_holds_b47
        rw [chk_t m_c, mShelf_i hs, bd2_s, if_neg one_ne, mr15 hR, bd1_s, chk_t (i15 hs), if_neg (show ¬ _ = (0 : Int32) from fun q => by have := e0.mp q; omega), bd1_s, chk_t (i15 hs), if_pos (show _ = (1 : Int32) from e1.mpr h1), mr16 hR, bd1_s, chk_t (i16 hs), mO h hs h1]
    · by_cases h2 : hW (gS S s) = 2
      · refine Kp_q (nI (hQ (gS S s))) hw (fun μ hR h => ?_) (fun μ hR h => ?_)
        · have e3 : zI μ (2 + 2 * s) 3 = nI (hQ (gS S s)) := (h.2.2.2.2.2.1 s hs).2.2 h2
          unfold fX6_holds fX6_holds_b46
          rw [chk_t c_c, isShelf_i hs, bd2_s, if_neg one_ne, cr0 hR, bd1_s, chk_t (shi hs), shr hR hs, bd1_s, isRow_n hw h hs h1, bd2_s, if_pos rfl, isPer_y h hs h2, bd2_s, if_neg one_ne, e3]
        · have e1 := mW2 hw h hs 1 (by omega)
          have e0 := mW2 hw h hs 0 (by omega)
          have e3 : zI μ 118 (nI s).toNatClampNeg = nI (hQ (gS S s)) := by
            rw [nI_clamp (by omega)]
            exact (h.2.2.2.2.2.1 s hs).2.2 h2
          unfold fX7_holds fX7_holds_b47
          rw [chk_t m_c, mShelf_i hs, bd2_s, if_neg one_ne, mr15 hR, bd1_s, chk_t (i15 hs), if_neg (show ¬ _ = (0 : Int32) from fun q => by have := e0.mp q; omega), bd1_s, chk_t (i15 hs), if_neg (show ¬ _ = (1 : Int32) from fun q => h1 (e1.mp q)), mr18 hR, bd1_s, chk_t (i18 hs), e3]
      · refine Kp_q (-1) hw (fun μ hR h => ?_) (fun μ hR h => ?_)
        · unfold fX6_holds fX6_holds_b46
          rw [chk_t c_c, isShelf_i hs, bd2_s, if_neg one_ne, cr0 hR, bd1_s, chk_t (shi hs), shr hR hs, bd1_s, isRow_n hw h hs h1, bd2_s, if_pos rfl, isPer_n hw h hs h2, bd2_s, if_pos rfl]
        · have e0 := mW2 hw h hs 0 (by omega)
          unfold fX7_holds fX7_holds_b17
          rw [chk_t m_c, mShelf_i hs, bd2_s, if_neg one_ne, mr15 hR, bd1_s, chk_t (i15 hs), if_pos (show _ = (0 : Int32) from e0.mpr (by omega))]
/-- a value as its sort keeps it -/
def cvL (o : Nat) (v : Int64) : Int64 := if nI o = (0 : Int32) then ((v.toInt32).toInt8.toInt32).toInt64 else if nI o = (1 : Int32) then ((v.toInt32).toInt16.toInt32).toInt64 else if nI o = (2 : Int32) then (v.toInt32).toInt64 else v
def hset (h : Sh) (i : Nat) (x : Int64) : Sh := (hW h, hO h, hZ h, hQ h, fun j => if j = i then x else hE h j)
theorem put_e {μ : ZMem} {S : St} (hR : HR μ) (hw : WfS S) (h : InvC μ S) {s : Nat} (hs : s < 8) (e : hW (gS S s) = 1) {i : Nat} (hi : i < hZ (gS S s)) (v : Int64) : fX3_put 131 (2 + 2 * s) (nI i) v μ = some (zpL μ (3 + 2 * s) i (cvL (hO (gS S s)) v)) := by
  have hz := ((hw.2.2.1 s hs).2.1 e).2
  unfold fX3_put fX3_put_b85 cvL
  rw [chk_t (shc hs), hasEl_i hR hw h hs e hi, bd2_s, if_neg one_ne, cO h hs e]
  by_cases h0 : nI (hO (gS S s)) = (0 : Int32)
  · rw [if_pos h0, if_pos h0, she hR hs, bd1_s, chk_t (inE hs (by omega)), nI_clamp (by omega), lt_e]
  · rw [if_neg h0, if_neg h0]
    by_cases h1 : nI (hO (gS S s)) = (1 : Int32)
    · rw [if_pos h1, if_pos h1, she hR hs, bd1_s, chk_t (inE hs (by omega)), nI_clamp (by omega), lt_e]
    · rw [if_neg h1, if_neg h1]
      by_cases h2 : nI (hO (gS S s)) = (2 : Int32)
      · rw [if_pos h2, if_pos h2, she hR hs, bd1_s, chk_t (inE hs (by omega)), nI_clamp (by omega), lt_e]
      · rw [if_neg h2, if_neg h2, she hR hs, bd1_s, chk_t (inE hs (by omega)), nI_clamp (by omega), lt_e]
theorem Kp_set {S : St} (hw : WfS S) (v u : Int32) (x : Int64) : Kp S (fX6_set 131 0 v u x) (fX7_set 131 108 v u x) := by
  rcases shelf_or v with hv | ⟨s, hs, rfl⟩
  · refine Kp_no 1 (by omega) (by omega) hw (fun μ hR h => ?_) (fun μ hR h => ?_)
    · unfold fX6_set
      rw [chk_t c_c, rowRef_z hv, bd2_s, if_neg (neg_ne (by omega) (by omega)), bd2_e]
    · unfold fX7_set
      rw [chk_t m_c, mShelf_z hv, bd2_s, if_pos rfl, bd2_e]; rfl
  · have hq := (hw.2.2.1 s hs).1
    by_cases h1 : hW (gS S s) = 1
    · have hz := ((hw.2.2.1 s hs).2.1 h1).2
      have ho := ((hw.2.2.1 s hs).2.1 h1).1
      rcases el_or (gS S s) u with hu | ⟨i, hi, rfl⟩
      · refine Kp_no 5 (by omega) (by omega) hw (fun μ hR h => ?_) (fun μ hR h => ?_)
        · unfold fX6_set
          rw [chk_t c_c, rowRef hR hw h hs, rr_1 h1, bd2_s, if_pos neg0, cr0 hR, bd1_s, chk_t (shi hs), shr hR hs, bd1_s, hasEl_z hw h hs h1 hu, bd2_s, if_pos rfl, bd2_e]; rfl
        · have e2 := mW2 hw h hs 2 (by omega)
          have e0 := mW2 hw h hs 0 (by omega)
          unfold fX7_set fX7_set_b61
          rw [chk_t m_c, mShelf_i hs, bd2_s, if_neg one_ne, mr15 hR, bd1_s, chk_t (i15 hs), if_neg (show ¬ _ = (2 : Int32) from fun q => by have := e2.mp q; omega), bd1_s, chk_t (i15 hs), if_neg (show ¬ _ = (0 : Int32) from fun q => by have := e0.mp q; omega)]
          rcases hu with hu | ⟨k, hk, h8, rfl⟩
          · rw [if_pos hu, bd2_e]; rfl
          · rw [if_neg (nI_pos hk), mr17 hR, bd1_s, chk_t (i17 hs), mZ h hs h1, if_neg (fun q => by have := (nI_ltI (by omega) (by omega)).mp q; omega), bd2_e]; rfl
      · refine ⟨(1, uS S s (hset (gS S s) i (cvL (hO (gS S s)) x))), WfS_S hw (hw.2.2.1 s hs), fun μ hR h => ?_, fun μ hR h => ?_⟩
        · refine ⟨zpL μ (3 + 2 * s) i (cvL (hO (gS S s)) x), ?_, HR_of hR rfl, InvC_S hw hs h (fun a k q1 q2 => rfl) (fun a k q1 q2 => zpL_ne (by omega)) ?_, EqM_pL (by omega)⟩
          · unfold fX6_set
            rw [chk_t c_c, rowRef hR hw h hs, rr_1 h1, bd2_s, if_pos neg0, cr0 hR, bd1_s, chk_t (shi hs), shr hR hs, bd1_s, hasEl_i hR hw h hs h1 hi, bd2_s, if_neg one_ne, cr0 hR, bd1_s, chk_t (shi hs), shr hR hs, bd1_s, put_e hR hw h hs h1 hi, bd1_s]
          · obtain ⟨g1, g2, g3⟩ := h.2.2.2.2.2.1 s hs
            refine ⟨g1, fun q => ⟨(g2 q).1, (g2 q).2.1, fun j hj => ?_⟩, g3⟩
            show (zpL μ (3 + 2 * s) i (cvL (hO (gS S s)) x)).2.1 (3 + 2 * s) j = if j = i then _ else _
            by_cases hji : j = i
            · rw [if_pos hji, hji, zpL_at]
            · rw [if_neg hji, zpL_ne (by omega)]
              exact (g2 q).2.2 j hj
        · refine ⟨zpL μ 119 (160 * s + i) (cvL (hO (gS S s)) x), ?_, HR_of hR rfl, InvM_S hw h (fun a k q1 => rfl) (fun k q => zpL_ne (by omega)) ?_, EqC_pL (by omega)⟩
          · have e2 := mW2 hw h hs 2 (by omega)
            have e0 := mW2 hw h hs 0 (by omega)
            unfold fX7_set fX7_set_b129
            rw [chk_t m_c, mShelf_i hs, bd2_s, if_neg one_ne, mr15 hR, bd1_s, chk_t (i15 hs), if_neg (show ¬ _ = (2 : Int32) from fun q => by have := e2.mp q; omega), bd1_s, chk_t (i15 hs), if_neg (show ¬ _ = (0 : Int32) from fun q => by have := e0.mp q; omega), if_neg (nI_pos (by omega)), mr17 hR, bd1_s, chk_t (i17 hs), mZ h hs h1, if_pos ((nI_ltI (by omega) (by omega)).mpr hi), mr19 hR, bd1_s, mr16 hR, bd1_s, chk_t (i16 hs), mO h hs h1, bd1_s, bd1_s, chk_t (i16 hs), chk_t (i16 hs), mO h hs h1]
            unfold cvL
            rw [chk_t (i19 hs (by omega)), chk_t (i19 hs (by omega)), chk_t (i19 hs (by omega)), chk_t (i19 hs (by omega)), x19 hs (by omega), lt_e, lt_e, lt_e, lt_e]
            by_cases h0 : nI (hO (gS S s)) = (0 : Int32)
            · rw [if_pos h0, if_pos h0]
            · rw [if_neg h0, if_neg h0]
              by_cases h1 : nI (hO (gS S s)) = (1 : Int32)
              · rw [if_pos h1, if_pos h1]
              · rw [if_neg h1, if_neg h1]
                by_cases h2 : nI (hO (gS S s)) = (2 : Int32)
                · rw [if_pos h2, if_pos h2]
                · rw [if_neg h2, if_neg h2]
          · obtain ⟨g1, g2, g3⟩ := h.2.2.2.2.2.1 s hs
            refine ⟨g1, fun q => ⟨(g2 q).1, (g2 q).2.1, fun j hj => ?_⟩, g3⟩
            show (zpL μ 119 (160 * s + i) (cvL (hO (gS S s)) x)).2.1 119 (160 * s + j) = if j = i then _ else _
            by_cases hji : j = i
            · rw [if_pos hji, hji, zpL_at]
            · rw [if_neg hji, zpL_ne (by omega)]
              exact (g2 q).2.2 j hj
    · have hr := rr_n h1
      refine Kp_no (rr (gS S s)) (by omega) (by omega) hw (fun μ hR h => ?_) (fun μ hR h => ?_)
      · unfold fX6_set
        rw [chk_t c_c, rowRef hR hw h hs, bd2_s, if_neg (neg_ne (by omega) (by omega)), bd2_e]
      · have e2 := mW2 hw h hs 2 (by omega)
        have e0 := mW2 hw h hs 0 (by omega)
        unfold fX7_set rr
        rw [chk_t m_c, mShelf_i hs, bd2_s, if_neg one_ne, mr15 hR, bd1_s, chk_t (i15 hs)]
        by_cases h2 : hW (gS S s) = 2
        · rw [if_pos (show _ = (2 : Int32) from e2.mpr h2), bd2_e, if_pos h2]; rfl
        · rw [if_neg (show ¬ _ = (2 : Int32) from fun q => h2 (e2.mp q)), bd1_s, chk_t (i15 hs), if_pos (show _ = (0 : Int32) from e0.mpr (by omega)), bd2_e, if_neg h2, if_neg h1]; rfl
