-- THE IMAGE, AND PUT BACK
theorem mr31 {μ : ZMem} (hR : HR μ) : zRc 131 100 μ 108 31 = some 126 := mr_ _ _ (by decide +kernel) (by decide) hR
theorem KH_e {μ : ZMem} {a : Nat} {σ : Sg} (h : KH μ a σ) : sav μ a σ = μ := by
  refine Prod.ext ?_ rfl
  funext x i
  simp only [sav]
  by_cases hx : x = a ∧ i < 43
  · rw [if_pos hx, hx.1, h i hx.2]
  · rw [if_neg hx]
theorem HR_zpI {μ : ZMem} {a k : Nat} {x : Int32} (h : HR μ) : HR (zpI μ a k x) := HR_of h rfl
abbrev pI (S : St) (x : Option Sg) : St := (S.1, x, S.2.2)
theorem Kp_image {S : St} (hw : WfS S) : Kp S (fX6_image 131 0) (fX7_image 131 108) := by
  have hN := hw.1.1
  refine ⟨(nI (sN (gV S)), pI S (some (gV S))), ⟨hw.1, fun τ q => by cases q; exact hw.1, hw.2.2⟩, fun μ hR h => ?_, fun μ hR h => ?_⟩
  · have e := VH_e h.1
    have k1 := load_c (μ := μ) (σ := gV S) VS27 VS18 (by omega) hR hN
    rw [e] at k1
    refine ⟨zpI (ovl μ 27 (gV S)) 0 8 1, ?_, HR_zpI (HR_ovl hR), ?_, fun a k q => ⟨?_, rfl⟩⟩
    · unfold fX6_image
      rw [chk_t c_c, cr2 hR, bd1_s, cr1 hR, bd1_s, k1, bd1_s, lt_e, cr2 (HR_zpI (HR_ovl hR)), bd1_s]
      have e1 : zI (zpI (ovl μ 27 (gV S)) 0 8 1) 27 1 = nI (sN (gV S)) := (zpI_ne (by omega)).trans (ovl_1 μ 27 (gV S))
      rw [e1]
    · have f : ∀ a k, (a < 27 ∨ 36 ≤ a) → ¬ (a = 0 ∧ k = 8) → (zpI (ovl μ 27 (gV S)) 0 8 1).1 a k = μ.1 a k := fun a k q1 q2 => (zpI_ne q2).trans (ovl_o μ 27 (gV S) k (by omega) hN)
      obtain ⟨h1, h2, h3, h4, h5, h6, h7, h8⟩ := h
      refine ⟨VH_f h1 hN (fun a k q1 q2 => f _ _ (by omega) (by omega)), zpI_at _ _ _ _, fun τ q => ?_, ?_, fun k q => ?_, fun s q => SHC_f (h6 s q) (fun k => f _ _ (by omega) (by omega)) (fun k => rfl), ?_, fun i q1 q2 => ?_⟩
      · cases q
        exact VH_f (VH_o μ 27 (gV S)) hN (fun a k q1 q2 => zpI_ne (by omega))
      · rw [f _ _ (by omega) (by omega)]; exact h4
      · rw [f _ _ (by omega) (by omega)]; exact h5 k q
      · rw [f _ _ (by omega) (by omega)]; exact h7
      · rw [f _ _ (by omega) (by omega)]; exact h8 i q1 q2
    · exact (zpI_ne (by omega)).trans (ovl_o μ 27 (gV S) k (by omega) hN)
  · have e : ovm (zpI μ 108 41 1) (gV S) = zpI μ 108 41 1 := MH_e (MH_f h.1 (fun a k q => zpI_ne (by omega)))
    have k1 := all_f (μ := zpI μ 108 41 1) (σ := gV S) AR126 (HR_zpI hR)
    rw [e] at k1
    have e1 : ∀ b k, b ≠ 126 → (ovm (sav (zpI μ 108 41 1) 126 (gV S)) (gV S)).1 b k = (zpI μ 108 41 1).1 b k := by
      intro b k hb
      have q : (ovm (sav (zpI μ 108 41 1) 126 (gV S)) (gV S)).1 b k = (ovm (zpI μ 108 41 1) (gV S)).1 b k := by simp only [ovm, sav_o hb]
      rw [q, e]
    have f : ∀ b k, b ≠ 126 → ¬ (b = 108 ∧ k = 41) → (ovm (sav (zpI μ 108 41 1) 126 (gV S)) (gV S)).1 b k = μ.1 b k := fun b k q1 q2 => (e1 b k q1).trans (zpI_ne q2)
    refine ⟨ovm (sav (zpI μ 108 41 1) 126 (gV S)) (gV S), ?_, HR_ovm (HR_sav (HR_zpI hR)), ?_, fun a k q => ⟨f _ _ (by omega) (by omega), rfl⟩⟩
    · unfold fX7_image
      rw [chk_t m_c, lt_e, mr31 (HR_zpI hR), bd1_s, k1, bd1_s, ovm_0]
    · obtain ⟨h1, h2, h3, h4, h5, h6, h7, h8, h9, h10⟩ := h
      refine ⟨MH_o _ _, (e1 _ _ (by omega)).trans (zpI_at _ _ _ _), fun τ q => ?_, ?_, fun k q => ?_, fun s q => SHM_f (h6 s q) (fun q1 => ((hw.2.2.1 s q).2.1 q1).2) (fun a q1 q2 => f _ _ (by omega) (by omega)) (fun k _ _ => rfl), ?_, fun i q1 q2 => ?_, ?_, CST_f h10 (fun a k q1 q2 => f _ _ (by omega) (by omega))⟩
      · cases q
        intro i hi
        have q : (ovm (sav (zpI μ 108 41 1) 126 (gV S)) (gV S)).1 126 i = (sav (zpI μ 108 41 1) 126 (gV S)).1 126 i := ovm_o _ _ (by omega)
        rw [q]
        simp only [sav]
        rw [if_pos ⟨trivial, hi⟩]
      · rw [f _ _ (by omega) (by omega)]; exact h4
      · rw [f _ _ (by omega) (by omega)]; exact h5 k q
      · rw [f _ _ (by omega) (by omega)]; exact h7
      · rw [f _ _ (by omega) (by omega)]; exact h8 i q1 q2
      · rw [f _ _ (by omega) (by omega)]; exact h9
-- put back: while the shelves are mended, PEOPLE may be missing
def W0 (S : St) : Prop := Wf (gV S) ∧ (∀ τ, gI S = some τ → Wf τ) ∧ (∀ s, s < 8 → SHw 1000 (gS S s)) ∧ gn S ≤ 100
theorem InvC_S0 {μ μ' : ZMem} {S : St} {s : Nat} {h : Sh} (hw : W0 S) (hs : s < 8) (hI : InvC μ S) (e : ∀ a k, a < 36 ∨ (105 ≤ a ∧ a < 108) → a ≠ 2 + 2 * s → μ'.1 a k = μ.1 a k) (e2 : ∀ a k, a < 18 → a ≠ 3 + 2 * s → μ'.2.1 a k = μ.2.1 a k) (hh : SHC μ' s h) : InvC μ' (uS S s h) := by
  obtain ⟨h1, h2, h3, h4, h5, h6, h7, h8⟩ := hI
  refine ⟨VH_f h1 hw.1.1 (fun a k q1 q2 => e _ _ (by omega) (by omega)), ?_, fun τ q => VH_f (h3 τ q) (hw.2.1 τ q).1 (fun a k q1 q2 => e _ _ (by omega) (by omega)), ?_, fun k q => ?_, fun j q => ?_, ?_, fun i q1 q2 => ?_⟩
  · rw [e _ _ (by omega) (by omega)]; exact h2
  · rw [e _ _ (by omega) (by omega)]; exact h4
  · rw [e _ _ (by omega) (by omega)]; exact h5 k q
  · show SHC μ' j (if j = s then h else gS S j)
    by_cases hj : j = s
    · rw [if_pos hj, hj]; exact hh
    · rw [if_neg hj]
      exact SHC_f (h6 j q) (fun k => e _ _ (by omega) (by omega)) (fun k => e2 _ _ (by omega) (by omega))
  · rw [e _ _ (by omega) (by omega)]; exact h7
  · rw [e _ _ (by omega) (by omega)]; exact h8 i q1 q2
theorem InvM_S0 {μ μ' : ZMem} {S : St} {s : Nat} {h : Sh} (hw : W0 S) (hI : InvM μ S) (e : ∀ a k, a = 108 ∨ (109 ≤ a ∧ a < 115) ∨ (115 ≤ a ∧ a < 119 ∧ k ≠ s) ∨ (121 ≤ a ∧ a ≤ 123) ∨ a = 126 ∨ a = 130 → μ'.1 a k = μ.1 a k) (e2 : ∀ k, k < 160 * s ∨ 160 * s + 160 ≤ k → μ'.2.1 119 k = μ.2.1 119 k) (hh : SHM μ' s h) : InvM μ' (uS S s h) := by
  obtain ⟨h1, h2, h3, h4, h5, h6, h7, h8, h9, h10⟩ := hI
  refine ⟨MH_f h1 (fun a k q1 => e _ _ (by omega)), ?_, fun τ q => KH_f (h3 τ q) (fun k => e _ _ (by omega)), ?_, fun k q => ?_, fun j q => ?_, ?_, fun i q1 q2 => ?_, ?_, CST_f h10 (fun a k q1 q2 => e _ _ (by omega))⟩
  · rw [e _ _ (by omega)]; exact h2
  · rw [e _ _ (by omega)]; exact h4
  · rw [e _ _ (by omega)]; exact h5 k q
  · show SHM μ' j (if j = s then h else gS S j)
    by_cases hj : j = s
    · rw [if_pos hj, hj]; exact hh
    · rw [if_neg hj]
      exact SHM_f (h6 j q) (fun q1 => ((hw.2.2.1 j q).2.1 q1).2) (fun a q1 q2 => e _ _ (by omega)) (fun k _ _ => e2 _ (by omega))
  · rw [e _ _ (by omega)]; exact h7
  · rw [e _ _ (by omega)]; exact h8 i q1 q2
  · rw [e _ _ (by omega)]; exact h9
theorem isPersonN {μ : ZMem} {N p : Nat} (hR : HR μ) (hN : N ≤ 7) (hp : p < 1000) (e1 : zI μ 18 1 = nI N) : fX6_isPerson 131 0 (nI p) μ = some (μ, if p < N then 1 else 0) := by
  unfold fX6_isPerson
  by_cases h : p < N
  · have e2 : nI N - 1 = nI (N - 1) := pk_sub (b := 1) (by omega)
    have e : fX6_isIn 131 (nI p) 0 (nI (N - 1)) μ = some (μ, 1) := by
      have := isIn_k (k := p) (lo := 0) (hi := N - 1) (by omega) (by omega) (by omega) μ
      rw [if_pos ⟨by omega, by omega⟩] at this
      exact this
    rw [chk_t c_c, cr1 hR, bd1_s, e1, e2, e, bd2_s, chk_t b01_1, if_pos h]
  · have e : fX6_isIn 131 (nI p) 0 (nI N - 1) μ = some (μ, 0) := by
      refine isIn_z (fun q => ?_) μ
      have q2 := q.2
      rw [fa_le, nI_toInt (by omega)] at q2
      by_cases h0 : N = 0
      · rw [h0] at q2
        have : (nI 0 - 1).toInt = -1 := by decide
        omega
      · rw [show nI N - 1 = nI (N - 1) from pk_sub (b := 1) (by omega), nI_toInt (by omega)] at q2
        omega
    rw [chk_t c_c, cr1 hR, bd1_s, e1, e, bd2_s, chk_t b01_0, if_neg h]
def Sh0 : Sh := (0, 0, 0, 0, fun _ => 0)
def lost (S : St) (j : Nat) : Bool := decide (hW (gS S j) = 2) && decide (sN (gV S) ≤ hQ (gS S j))
def mend (i : Nat) (S : St) : St := pS S (fun j => if i ≤ j ∧ j < 8 ∧ lost S j = true then Sh0 else gS S j)
theorem mend_8 (S : St) : mend 8 S = S := by
  have e : (fun j => if 8 ≤ j ∧ j < 8 ∧ lost S j = true then Sh0 else gS S j) = gS S := by
    funext j
    rw [if_neg (by omega)]
  unfold mend
  rw [e]
theorem lost_u {S : St} {i j : Nat} {h : Sh} (hj : j ≠ i) : lost (uS S i h) j = lost S j := by
  unfold lost uS
  show (decide (hW (if j = i then h else gS S j) = 2) && decide (sN (gV S) ≤ hQ (if j = i then h else gS S j))) = _
  rw [if_neg hj]
theorem mend_y {S : St} {i : Nat} (hi : i < 8) (hl : lost S i = true) : mend (i + 1) (uS S i Sh0) = mend i S := by
  have e : (fun j => if i + 1 ≤ j ∧ j < 8 ∧ lost (uS S i Sh0) j = true then Sh0 else gS (uS S i Sh0) j) = (fun j => if i ≤ j ∧ j < 8 ∧ lost S j = true then Sh0 else gS S j) := by
    funext j
    show (if i + 1 ≤ j ∧ j < 8 ∧ lost (uS S i Sh0) j = true then Sh0 else if j = i then Sh0 else gS S j) = _
    by_cases hj : j = i
    · subst hj
      rw [if_neg (by omega), if_pos rfl, if_pos ⟨Nat.le_refl _, hi, hl⟩]
    · rw [lost_u hj, if_neg hj]
      by_cases c : i ≤ j ∧ j < 8 ∧ lost S j = true
      · rw [if_pos c, if_pos ⟨by omega, c.2.1, c.2.2⟩]
      · rw [if_neg c, if_neg (fun q => c ⟨by omega, q.2.1, q.2.2⟩)]
  show pS S _ = pS S _
  rw [← e]
theorem mend_n {S : St} {i : Nat} (hl : ¬ lost S i = true) : mend (i + 1) S = mend i S := by
  have e : (fun j => if i + 1 ≤ j ∧ j < 8 ∧ lost S j = true then Sh0 else gS S j) = (fun j => if i ≤ j ∧ j < 8 ∧ lost S j = true then Sh0 else gS S j) := by
    funext j
    by_cases hj : j = i
    · subst hj
      rw [if_neg (by omega), if_neg (fun q => hl q.2.2)]
    · by_cases c : i ≤ j ∧ j < 8 ∧ lost S j = true
      · rw [if_pos c, if_pos ⟨by omega, c.2.1, c.2.2⟩]
      · rw [if_neg c, if_neg (fun q => c ⟨by omega, q.2.1, q.2.2⟩)]
  show pS S _ = pS S _
  rw [e]
theorem W0_u {S : St} {i : Nat} (hw : W0 S) : W0 (uS S i Sh0) := by
  refine ⟨hw.1, hw.2.1, fun j q => ?_, hw.2.2.2⟩
  show SHw 1000 (if j = i then Sh0 else gS S j)
  split
  · exact ⟨Nat.zero_le _, (fun q => absurd q (by decide)), (fun q => absurd q (by decide))⟩
  · exact hw.2.2.1 j q
theorem lost_i {S : St} {i : Nat} (h2 : hW (gS S i) = 2) : lost S i = true ↔ ¬ hQ (gS S i) < sN (gV S) := by
  unfold lost
  rw [decide_eq_true h2, Bool.true_and, decide_eq_true_iff]
  omega
theorem nothing_e {μ : ZMem} {s : Nat} (hs : s < 8) : fX3_holdNothing 131 (2 + 2 * s) μ = some (zpI (zpI (zpI μ (2 + 2 * s) 0 0) (2 + 2 * s) 2 0) (2 + 2 * s) 3 (-1)) := by
  unfold fX3_holdNothing
  rw [chk_t (shc hs), lt_e, lt_e, lt_e]
theorem restC : ∀ k i S, W0 S → i ≤ 8 → 8 < k + i → ∀ μ, HR μ → InvC μ S → RC μ (fX6_restore_b27 131 k 0 (nI i) μ) (nI (sN (gV S)), mend i S) := by
  intro k
  induction k with
  | zero => intro i S _ _ _; omega
  | succ k ih =>
    intro i S hw q1 q2 μ hR h
    have hN := hw.1.1
    have e1 : zI μ 18 1 = nI (sN (gV S)) := h.1.1 1 (by omega) (by omega)
    rw [fX6_restore_b27]
    by_cases hi : i = 8
    · subst hi
      rw [if_pos (show (8 : Int32) ≤ nI 8 from by decide), cr1 hR, bd1_s, e1, mend_8]
      exact ⟨μ, rfl, hR, h, EqM_r μ⟩
    · have hs : i < 8 := by omega
      have hq := hw.2.2.1 i hs
      have e0 : zI μ (2 + 2 * i) 0 = nI (hW (gS S i)) := (h.2.2.2.2.2.1 i hs).1
      rw [if_neg (show ¬ (8 : Int32) ≤ nI i from fun q => by have := (nI_leI (a := 8) (by omega) (by omega)).mp q; omega), cr0 hR, bd1_s, chk_t (shi hs), shr hR hs, bd1_s]
      unfold fX6_restore_b70
      rw [nI_1]
      by_cases h2 : hW (gS S i) = 2
      · have e3 : zI μ (2 + 2 * i) 3 = nI (hQ (gS S i)) := (h.2.2.2.2.2.1 i hs).2.2 h2
        have hQ1 := hq.2.2 h2
        rw [isPer_y h hs h2, bd2_s, if_neg one_ne, cr0 hR, bd1_s, chk_t (shi hs), shr hR hs, bd1_s, e3, isPersonN hR hN hQ1 e1, bd2_s]
        by_cases hl : lost S i = true
        · rw [if_neg ((lost_i h2).mp hl), if_pos rfl, cr0 hR, bd1_s, chk_t (shi hs), shr hR hs, bd1_s, nothing_e hs, bd1_s]
          have hI2 : InvC (zpI (zpI (zpI μ (2 + 2 * i) 0 0) (2 + 2 * i) 2 0) (2 + 2 * i) 3 (-1)) (uS S i Sh0) := by
            refine InvC_S0 hw hs h (fun a k _ q => ?_) (fun a k _ _ => rfl) ⟨?_, (fun q => absurd q (by decide)), (fun q => absurd q (by decide))⟩
            · rw [zpI_ne (by omega), zpI_ne (by omega), zpI_ne (by omega)]
            · rw [zpI_ne (by omega), zpI_ne (by omega), zpI_at]; rfl
          obtain ⟨ν, n1, n2, n3, n4⟩ := ih (i + 1) (uS S i Sh0) (W0_u hw) (by omega) (by omega) _ (HR_zpI (HR_zpI (HR_zpI hR))) hI2
          rw [mend_y hs hl] at n3
          exact ⟨ν, n1, n2, n3, EqM_t (EqM_t (EqM_t (EqM_p (by omega)) (EqM_p (by omega))) (EqM_p (by omega))) n4⟩
        · rw [if_pos (Decidable.not_not.mp (fun q => hl ((lost_i h2).mpr q))), if_neg one_ne, ← mend_n hl]
          exact ih (i + 1) S hw (by omega) (by omega) μ hR h
      · have hl : ¬ lost S i = true := by
          unfold lost
          rw [decide_eq_false h2, Bool.false_and]
          decide
        have hp : fX3_isPerson 131 (2 + 2 * i) μ = some (μ, 0) := by
          have := hq.1
          unfold fX3_isPerson fX3_isPerson_b13
          rw [chk_t (shc hs), e0, if_neg (show ¬ nI (hW (gS S i)) = (2 : Int32) from fun q => h2 ((nI_eq (b := 2) (by omega) (by omega)).mp q)), chk_t b01_0]
        rw [hp, bd2_s, if_pos rfl, ← mend_n hl]
        exact ih (i + 1) S hw (by omega) (by omega) μ hR h
theorem restM : ∀ k i S, W0 S → i ≤ 8 → 8 < k + i → ∀ μ, HR μ → InvM μ S → RM μ (fX7_restore_b25 131 k 108 (nI i) μ) (nI (sN (gV S)), mend i S) := by
  intro k
  induction k with
  | zero => intro i S _ _ _; omega
  | succ k ih =>
    intro i S hw q1 q2 μ hR h
    have hN := hw.1.1
    have e1 : zI μ 108 0 = nI (sN (gV S)) := h.1.1 0 (by omega)
    rw [fX7_restore_b25]
    by_cases hi : i = 8
    · subst hi
      rw [if_pos (show (8 : Int32) ≤ nI 8 from by decide), e1, mend_8]
      exact ⟨μ, rfl, hR, h, EqC_r μ⟩
    · have hs : i < 8 := by omega
      have hq := hw.2.2.1 i hs
      have e0 : zI μ 115 (nI i).toNatClampNeg = nI (hW (gS S i)) := by
        rw [nI_clamp (by omega)]
        exact (h.2.2.2.2.2.1 i hs).1
      rw [if_neg (show ¬ (8 : Int32) ≤ nI i from fun q => by have := (nI_leI (a := 8) (by omega) (by omega)).mp q; omega), mr15 hR, bd1_s, chk_t (i15 hs), e0]
      unfold fX7_restore_b61
      rw [nI_1]
      have := hq.1
      by_cases h2 : hW (gS S i) = 2
      · have e3 : zI μ 118 (nI i).toNatClampNeg = nI (hQ (gS S i)) := by
          rw [nI_clamp (by omega)]
          exact (h.2.2.2.2.2.1 i hs).2.2 h2
        have hQ1 := hq.2.2 h2
        rw [if_pos (show nI (hW (gS S i)) = (2 : Int32) from (nI_eq (b := 2) (by omega) (by omega)).mpr h2), mr18 hR, bd1_s, chk_t (i18 hs), e3, e1]
        by_cases hl : lost S i = true
        · rw [if_neg (fun q => (lost_i h2).mp hl ((nI_ltI (by omega) (by omega)).mp q)), bd1_s, chk_t (i15 hs), lt_e, nI_clamp (by omega)]
          have hI2 : InvM (zpI μ 115 i 0) (uS S i Sh0) := by
            refine InvM_S0 hw h (fun a k q => zpI_ne (by omega)) (fun k _ => rfl) ⟨zpI_at _ _ _ _, (fun q => absurd q (by decide)), (fun q => absurd q (by decide))⟩
          obtain ⟨ν, n1, n2, n3, n4⟩ := ih (i + 1) (uS S i Sh0) (W0_u hw) (by omega) (by omega) _ (HR_zpI hR) hI2
          rw [mend_y hs hl] at n3
          exact ⟨ν, n1, n2, n3, EqC_t (EqC_p (by omega)) n4⟩
        · rw [if_pos ((nI_ltI (by omega) (by omega)).mpr (Decidable.not_not.mp (fun q => hl ((lost_i h2).mpr q)))), ← mend_n hl]
          exact ih (i + 1) S hw (by omega) (by omega) μ hR h
      · have hl : ¬ lost S i = true := by
          unfold lost
          rw [decide_eq_false h2, Bool.false_and]
          decide
        rw [if_neg (show ¬ nI (hW (gS S i)) = (2 : Int32) from fun q => h2 ((nI_eq (b := 2) (by omega) (by omega)).mp q)), ← mend_n hl]
        exact ih (i + 1) S hw (by omega) (by omega) μ hR h
theorem Kp_restore {S : St} (hw : WfS S) : Kp S (fX6_restore 131 0) (fX7_restore 131 108) := by
  have hN := hw.1.1
  cases hi : gI S with
  | none =>
    have e : sT01 S = 0 := by unfold sT01; rw [hi]; rfl
    refine Kp_no 6 (by omega) (by omega) hw (fun μ hR h => ?_) (fun μ hR h => ?_)
    · have e2 : zI μ 0 8 = 0 := h.2.1.trans e
      unfold fX6_restore
      rw [chk_t c_c, if_pos e2, bd2_e]; rfl
    · have e2 : zI μ 108 41 = 0 := h.2.1.trans e
      unfold fX7_restore
      rw [chk_t m_c, if_pos e2, bd2_e]; rfl
  | some τ =>
    have e : sT01 S = 1 := by unfold sT01; rw [hi]; rfl
    have hτ := hw.2.1 τ hi
    have hW0 : W0 (pV S τ) := by
      refine ⟨hτ, hw.2.1, fun s q => ?_, hw.2.2.2⟩
      obtain ⟨a1, a2, a3⟩ := hw.2.2.1 s q
      exact ⟨a1, a2, fun r => by have := a3 r; show hQ (gS S s) < 1000; omega⟩
    refine ⟨(nI (sN τ), mend 0 (pV S τ)), ⟨hτ, hw.2.1, fun s q => ?_, hw.2.2.2⟩, fun μ hR h => ?_, fun μ hR h => ?_⟩
    · show SHw (sN τ) (if 0 ≤ s ∧ s < 8 ∧ lost (pV S τ) s = true then Sh0 else gS S s)
      by_cases hl : lost (pV S τ) s = true
      · rw [if_pos ⟨Nat.zero_le _, q, hl⟩]
        exact ⟨Nat.zero_le _, (fun q => absurd q (by decide)), (fun q => absurd q (by decide))⟩
      · rw [if_neg (fun r => hl r.2.2)]
        obtain ⟨a1, a2, a3⟩ := hw.2.2.1 s q
        refine ⟨a1, a2, fun r => ?_⟩
        exact Decidable.not_not.mp (fun q2 => hl ((lost_i (S := pV S τ) r).mpr q2))
    · have e2 : ¬ zI μ 0 8 = 0 := by
        rw [show zI μ 0 8 = 1 from h.2.1.trans e]
        decide
      have k1 := load_c (μ := μ) (σ := τ) VS18 VS27 (by omega) hR hτ.1
      rw [VH_e (h.2.2.1 τ hi)] at k1
      obtain ⟨ν, n1, n2, n3, n4⟩ := restC FU 0 (pV S τ) hW0 (by omega) (by show 8 < 2000 + 0; omega) (ovl μ 18 τ) (HR_ovl hR) (InvC_V hw hτ.1 h)
      refine ⟨ν, ?_, n2, n3, EqM_t (EqM_V (by omega) hτ.1) n4⟩
      unfold fX6_restore
      rw [chk_t c_c, if_neg e2, cr1 hR, bd1_s, cr2 hR, bd1_s, k1, bd1_s]
      exact n1
    · have e2 : ¬ zI μ 108 41 = 0 := by
        rw [show zI μ 108 41 = 1 from h.2.1.trans e]
        decide
      have k1 := all_b (μ := μ) (σ := τ) (τ := gV S) AR126 hR
      rw [KH_e (h.2.2.1 τ hi), MH_e h.1] at k1
      obtain ⟨ν, n1, n2, n3, n4⟩ := restM FU 0 (pV S τ) hW0 (by omega) (by show 8 < 2000 + 0; omega) (ovm μ τ) (HR_ovm hR) (InvM_V hw h)
      refine ⟨ν, ?_, n2, n3, EqC_t EqC_V n4⟩
      unfold fX7_restore
      rw [chk_t m_c, if_neg e2, mr31 hR, bd1_s, k1, bd1_s]
      exact n1
