-- SHOW, PERSON, SAYS
theorem Kp_show {S : St} (hw : WfS S) (v x : Int32) : Kp S (fX6_show 131 0 v x) (fX7_show 131 108 v x) := by
  have hN := hw.1.1
  rcases shelf_or v with hv | ⟨s, hs, rfl⟩
  · refine Kp_no 1 (by omega) (by omega) hw (fun μ hR h => ?_) (fun μ hR h => ?_)
    · unfold fX6_show fX6_show_b15
      rw [chk_t c_c, isShelf_z hv, bd2_s, if_pos rfl, bd2_e]; rfl
    · unfold fX7_show fX7_show_b21
      rw [chk_t m_c, mShelf_z hv, bd2_s, if_pos rfl, bd2_e]; rfl
  · by_cases h1 : x = -1
    · subst h1
      refine ⟨(0, uS S s (0, 0, 0, 0, fun _ => 0)), WfS_S hw ⟨by show 0 ≤ 2; omega, fun q => (by cases q), fun q => (by cases q)⟩, fun μ hR h => ?_, fun μ hR h => ?_⟩
      · refine ⟨zpI (zpI (zpI μ (2 + 2 * s) 0 0) (2 + 2 * s) 2 0) (2 + 2 * s) 3 (-1), ?_, HR_of hR rfl, InvC_S hw hs h (fun b k q1 q2 => ?_) (fun b k q1 q2 => rfl) ⟨?_, fun q => (by cases q), fun q => (by cases q)⟩, fun b k q => ⟨?_, rfl⟩⟩
        · unfold fX6_show fX3_holdNothing
          rw [chk_t c_c, isShelf_i hs, bd2_s, if_neg one_ne, isPN_n, bd2_s, if_neg one_ne, if_pos rfl, cr0 hR, bd1_s, chk_t (shi hs), shr hR hs, bd1_s, chk_t (shc hs), lt_e, lt_e, lt_e, bd1_s]
        · rw [zpI_ne (by omega), zpI_ne (by omega), zpI_ne (by omega)]
        · rw [zpI_ne (by omega), zpI_ne (by omega), zpI_at]; rfl
        · rw [zpI_ne (by omega), zpI_ne (by omega), zpI_ne (by omega)]
      · refine ⟨zpI (zpI μ 115 s 0) 118 s (-1), ?_, HR_of hR rfl, InvM_S hw h (fun b k q1 => ?_) (fun k q => rfl) ⟨?_, fun q => (by cases q), fun q => (by cases q)⟩, fun b k q => ⟨?_, rfl⟩⟩
        · unfold fX7_show fX7_show_b27 fX7_show_b42 fX7_show_b60
          rw [chk_t m_c, mShelf_i hs, bd2_s, if_neg one_ne, if_pos rfl, mr15 hR, bd1_s, if_pos rfl, chk_t (i15 hs), lt_e, mr18 (HR_p hR), bd1_s, chk_t (i18 hs), lt_e, if_pos rfl, nI_clamp (by omega)]
        · rw [zpI_ne (by omega), zpI_ne (by omega)]
        · rw [zpI_ne (by omega), zpI_at]; rfl
        · rw [zpI_ne (by omega), zpI_ne (by omega)]
    · rcases one_or S x with hv | ⟨p, hp, rfl⟩
      · refine Kp_no 1 (by omega) (by omega) hw (fun μ hR h => ?_) (fun μ hR h => ?_)
        · unfold fX6_show fX6_show_b15
          rw [chk_t c_c, isShelf_i hs, bd2_s, if_neg one_ne, isPN_z hR hw h hv h1, bd2_s, if_pos rfl, bd2_e]; rfl
        · unfold fX7_show fX7_show_b21
          rw [chk_t m_c, mShelf_i hs, bd2_s, if_neg one_ne, if_neg h1, isOne_z hw h hv, bd2_s, if_pos rfl, bd2_e]; rfl
      · refine ⟨(1, uS S s (2, 0, 0, p, fun _ => 0)), WfS_S hw ⟨by show 2 ≤ 2; omega, fun q => (by cases q), fun _ => hp⟩, fun μ hR h => ?_, fun μ hR h => ?_⟩
        · refine ⟨zpI (zpI (zpI μ (2 + 2 * s) 0 2) (2 + 2 * s) 2 0) (2 + 2 * s) 3 (nI p), ?_, HR_of hR rfl, InvC_S hw hs h (fun b k q1 q2 => ?_) (fun b k q1 q2 => rfl) ⟨?_, fun q => (by cases q), fun q => zpI_at _ _ _ _⟩, fun b k q => ⟨?_, rfl⟩⟩
          · unfold fX6_show fX3_holdPerson
            rw [chk_t c_c, isShelf_i hs, bd2_s, if_neg one_ne, isPN_i hR hw h hp, bd2_s, if_neg one_ne, if_neg h1, cr0 hR, bd1_s, chk_t (shi hs), shr hR hs, bd1_s, chk_t (shc hs), lt_e, lt_e, lt_e, bd1_s]
          · rw [zpI_ne (by omega), zpI_ne (by omega), zpI_ne (by omega)]
          · rw [zpI_ne (by omega), zpI_ne (by omega), zpI_at]; rfl
          · rw [zpI_ne (by omega), zpI_ne (by omega), zpI_ne (by omega)]
        · refine ⟨zpI (zpI μ 115 s 2) 118 s (nI p), ?_, HR_of hR rfl, InvM_S hw h (fun b k q1 => ?_) (fun k q => rfl) ⟨?_, fun q => (by cases q), fun q => zpI_at _ _ _ _⟩, fun b k q => ⟨?_, rfl⟩⟩
          · unfold fX7_show fX7_show_b27 fX7_show_b42 fX7_show_b60
            rw [chk_t m_c, mShelf_i hs, bd2_s, if_neg one_ne, if_neg h1, isOne_i hw h hp, bd2_s, if_neg one_ne, mr15 hR, bd1_s, if_neg h1, chk_t (i15 hs), lt_e, mr18 (HR_p hR), bd1_s, chk_t (i18 hs), lt_e, if_neg h1, nI_clamp (by omega)]
          · rw [zpI_ne (by omega), zpI_ne (by omega)]
          · rw [zpI_ne (by omega), zpI_at]; rfl
          · rw [zpI_ne (by omega), zpI_ne (by omega)]
def addP (σ : Sg) (k a s p : Nat) : Sg := wN (wP σ (pset (pset (pset (pset (pset (sP σ) (sN σ) 0 k) (sN σ) 1 a) (sN σ) 2 s) (sN σ) 3 p) (sN σ) 4 0)) (sN σ + 1)
theorem addP_old {σ : Sg} {k a s p q j : Nat} (h : q ≠ sN σ) : sP (addP σ k a s p) q j = sP σ q j := by
  unfold addP
  show pset (pset (pset (pset (pset (sP σ) (sN σ) 0 k) (sN σ) 1 a) (sN σ) 2 s) (sN σ) 3 p) (sN σ) 4 0 q j = _
  rw [pset_ne _ _ (Or.inl h), pset_ne _ _ (Or.inl h), pset_ne _ _ (Or.inl h), pset_ne _ _ (Or.inl h), pset_ne _ _ (Or.inl h)]
theorem addP_new (σ : Sg) (k a s p : Nat) : sP (addP σ k a s p) (sN σ) 0 = k ∧ sP (addP σ k a s p) (sN σ) 1 = a ∧ sP (addP σ k a s p) (sN σ) 2 = s ∧ sP (addP σ k a s p) (sN σ) 3 = p ∧ sP (addP σ k a s p) (sN σ) 4 = 0 := by
  unfold addP
  refine ⟨?_, ?_, ?_, ?_, ?_⟩
  · show pset _ _ _ _ _ _ = _
    rw [pset_ne _ _ (Or.inr (by omega)), pset_ne _ _ (Or.inr (by omega)), pset_ne _ _ (Or.inr (by omega)), pset_ne _ _ (Or.inr (by omega)), pset_eq]
  · show pset _ _ _ _ _ _ = _
    rw [pset_ne _ _ (Or.inr (by omega)), pset_ne _ _ (Or.inr (by omega)), pset_ne _ _ (Or.inr (by omega)), pset_eq]
  · show pset _ _ _ _ _ _ = _
    rw [pset_ne _ _ (Or.inr (by omega)), pset_ne _ _ (Or.inr (by omega)), pset_eq]
  · show pset _ _ _ _ _ _ = _
    rw [pset_ne _ _ (Or.inr (by omega)), pset_eq]
  · show pset _ _ _ _ _ _ = _
    rw [pset_eq]
theorem Wf_addP {σ : Sg} {k a s p : Nat} (h : Wf σ) (hN : sN σ < 7) (hk : k ≤ 6) (ha : a ≤ 9) (h1 : 1 ≤ s) (hs : s ≤ 40) (hp : p ≤ 40) : Wf (addP σ k a s p) := by
  obtain ⟨q1, q2, q3, q4, q5, q6⟩ := h
  refine ⟨by show sN σ + 1 ≤ 7; omega, q2, q3, fun b hb => Nat.lt_succ_of_lt (q4 b hb), q5, fun q hq => ?_⟩
  have hq2 : q < sN σ + 1 := hq
  by_cases e : q = sN σ
  · subst e
    obtain ⟨n0, n1, n2, n3, n4⟩ := addP_new σ k a s p
    unfold wfP
    rw [n0, n1, n2, n3, n4]
    omega
  · unfold wfP
    rw [addP_old e, addP_old e, addP_old e, addP_old e, addP_old e]
    exact q6 q (by omega)
theorem ovl_add {μ : ZMem} {v : Nat} {σ : Sg} {k a s p : Nat} (h : VH μ v σ) : zpI (zpI (zpI (zpI (zpI (zpI μ (v + 2 + sN σ) 0 (nI k)) (v + 2 + sN σ) 1 (nI a)) (v + 2 + sN σ) 2 (nI s)) (v + 2 + sN σ) 3 (nI p)) (v + 2 + sN σ) 4 (nI 0)) v 1 (nI (sN σ + 1)) = ovl μ v (addP σ k a s p) := by
  obtain ⟨n0, n1, n2, n3, n4⟩ := addP_new σ k a s p
  refine Prod.ext ?_ rfl
  funext b j
  show _ = if b = v then (if 1 ≤ j ∧ j ≤ 8 then scv (addP σ k a s p) j else μ.1 b j) else if v + 2 ≤ b ∧ b < v + 2 + (sN σ + 1) ∧ j < 5 then nI (sP (addP σ k a s p) (b - (v + 2)) j) else μ.1 b j
  by_cases hb : b = v
  · subst hb
    rw [if_pos rfl]
    by_cases h1 : j = 1
    · subst h1
      rw [zpI_at, if_pos (by omega)]; rfl
    · rw [zpI_ne (by omega), zpI_ne (by omega), zpI_ne (by omega), zpI_ne (by omega), zpI_ne (by omega), zpI_ne (by omega)]
      by_cases h8 : 1 ≤ j ∧ j ≤ 8
      · rw [if_pos h8, h.1 j h8.1 h8.2]
        exact scv_ne (σ := σ) (σ' := addP σ k a s p) (k := 1) (fun q => absurd rfl q) (fun _ => rfl) (fun _ => rfl) (fun _ => rfl) (fun _ => rfl) (fun _ => rfl) (fun _ => rfl) (fun _ => rfl) j h1 h8
      · rw [if_neg h8]
  · rw [if_neg hb, zpI_ne (by omega)]
    by_cases hn : b = v + 2 + sN σ
    · subst hn
      have e : v + 2 + sN σ - (v + 2) = sN σ := by omega
      rw [e]
      by_cases h5 : j < 5
      · rw [if_pos (by omega)]
        have c : j = 0 ∨ j = 1 ∨ j = 2 ∨ j = 3 ∨ j = 4 := by omega
        rcases c with rfl | rfl | rfl | rfl | rfl
        · rw [zpI_ne (by omega), zpI_ne (by omega), zpI_ne (by omega), zpI_ne (by omega), zpI_at, n0]
        · rw [zpI_ne (by omega), zpI_ne (by omega), zpI_ne (by omega), zpI_at, n1]
        · rw [zpI_ne (by omega), zpI_ne (by omega), zpI_at, n2]
        · rw [zpI_ne (by omega), zpI_at, n3]
        · rw [zpI_at, n4]
      · rw [if_neg (by omega), zpI_ne (by omega), zpI_ne (by omega), zpI_ne (by omega), zpI_ne (by omega), zpI_ne (by omega)]
    · rw [zpI_ne (by omega), zpI_ne (by omega), zpI_ne (by omega), zpI_ne (by omega), zpI_ne (by omega)]
      by_cases hp : v + 2 ≤ b ∧ b < v + 2 + (sN σ + 1) ∧ j < 5
      · rw [if_pos hp, addP_old (by omega), ← h.2 (b - (v + 2)) (by omega) j hp.2.2, show v + 2 + (b - (v + 2)) = b by omega]
      · rw [if_neg hp]
theorem addPerson_c {μ : ZMem} {v : Nat} {σ : Sg} {k a s p : Nat} (hv : VS v) (hR : HR μ) (h : VH μ v σ) (hN : sN σ < 7) : fX4_addPerson 131 v (nI k) (nI a) (nI s) (nI p) μ = some (ovl μ v (addP σ k a s p)) := by
  have e1 : zI μ v 1 = nI (sN σ) := h.1 1 (by omega) (by omega)
  have e2 : zI (zpI (zpI (zpI (zpI (zpI μ (v + 2 + sN σ) 0 (nI k)) (v + 2 + sN σ) 1 (nI a)) (v + 2 + sN σ) 2 (nI s)) (v + 2 + sN σ) 3 (nI p)) (v + 2 + sN σ) 4 (nI 0)) v 1 = nI (sN σ) := by
    show (zpI _ _ _ _).1 v 1 = _
    rw [zpI_ne (by omega), zpI_ne (by omega), zpI_ne (by omega), zpI_ne (by omega), zpI_ne (by omega)]
    exact e1
  unfold fX4_addPerson fX4_addPerson_b43 fX1_become
  rw [chk_t (VS_c hv), e1, if_neg (nI_pos (by omega)), if_neg (show ¬ (7 : Int32) ≤ nI (sN σ) from fun q => by have := (nI_leI (a := 7) (by omega) (by omega)).mp q; omega), VS_r0 hv hR, bd1_s, chk_t (VS_in hv hN), VS_rp hv hR hN, bd1_s, chk_t (VS_1 hv hN), lt_e, lt_e, lt_e, lt_e, lt_e, bd1_s, lt_e, ← ovl_add h]
  rw [show (0 : Int32) = nI 0 from rfl, e2, nI_1]
theorem adds_m {μ : ZMem} {σ : Sg} {k a s p : Nat} (hR : HR μ) (hN : sN σ < 7) : fX7_adds 131 108 (nI k) (nI a) (nI s) (nI p) (ovm μ σ) = some (ovm μ (addP σ k a s p), nI (sN σ)) := by
  have u0 := fun (τ : Sg) (x : Nat) => ovm_uP μ τ (p := sN σ) (j := 0) x hN (by omega)
  have u1 := fun (τ : Sg) (x : Nat) => ovm_uP μ τ (p := sN σ) (j := 1) x hN (by omega)
  have u2 := fun (τ : Sg) (x : Nat) => ovm_uP μ τ (p := sN σ) (j := 2) x hN (by omega)
  have u3 := fun (τ : Sg) (x : Nat) => ovm_uP μ τ (p := sN σ) (j := 3) x hN (by omega)
  have u4 := fun (τ : Sg) (x : Nat) => ovm_uP μ τ (p := sN σ) (j := 4) x hN (by omega)
  have z0 : ∀ τ, sN τ = sN σ → zI (ovm μ τ) 108 0 = nI (sN σ) := fun τ h => by rw [ovm_0, h]
  have cl : (nI (sN σ)).toNatClampNeg = sN σ := nI_clamp (by omega)
  unfold fX7_adds
  rw [chk_t m_c, mr10 (HR_ovm hR), bd1_s, z0, chk_t (mi10 hN), cl, lt_e, u0, mr11 (HR_ovm hR), bd1_s, z0, chk_t (mi11 hN), cl, lt_e, u1, mr12 (HR_ovm hR), bd1_s, z0, chk_t (mi12 hN), cl, lt_e, u2, mr13 (HR_ovm hR), bd1_s, z0, chk_t (mi13 hN), cl, lt_e, u3, mr14 (HR_ovm hR), bd1_s, z0, chk_t (mi14 hN), cl, lt_e, show (0 : Int32) = nI 0 from rfl, u4, lt_e, z0, nI_1, ovm_u0]
  all_goals rfl
def und (k w : Nat) : Bool := k == w || (w == 0 || ((k == 3 && w == 1) || ((k == 5 && w == 2) || (k == 6 && w == 4))))
theorem isUnder_c (μ : ZMem) {k w : Nat} (hk : k < 7) (hw : w < 7) : fX6_isUnder 131 (nI k) (nI w) μ = some (μ, if und k w = true then 1 else 0) := by
  have c : k = 0 ∨ k = 1 ∨ k = 2 ∨ k = 3 ∨ k = 4 ∨ k = 5 ∨ k = 6 := by omega
  have d : w = 0 ∨ w = 1 ∨ w = 2 ∨ w = 3 ∨ w = 4 ∨ w = 5 ∨ w = 6 := by omega
  rcases c with rfl | rfl | rfl | rfl | rfl | rfl | rfl <;> rcases d with rfl | rfl | rfl | rfl | rfl | rfl | rfl <;> rfl
theorem isKind_o {v : Int32} (h : (0 : Int32) ≤ v ∧ v ≤ 6) (μ : ZMem) : fX6_isKind 131 v μ = some (μ, 1) := by
  unfold fX6_isKind
  rw [isIn_o h, bd2_s, chk_t b01_1]
theorem isKind_z {v : Int32} (h : ¬ ((0 : Int32) ≤ v ∧ v ≤ 6)) (μ : ZMem) : fX6_isKind 131 v μ = some (μ, 0) := by
  unfold fX6_isKind
  rw [isIn_z h, bd2_s, chk_t b01_0]
theorem Kp_person {S : St} (hw : WfS S) (k a s p : Int32) : Kp S (fX6_person 131 0 k a s p) (fX7_person 131 108 k a s p) := by
  have hN := hw.1.1
  by_cases hk : (0 : Int32) ≤ k ∧ k ≤ 6
  rotate_left
  · refine Kp_no 1 (by omega) (by omega) hw (fun μ hR h => ?_) (fun μ hR h => ?_)
    · unfold fX6_person
      rw [chk_t c_c, isKind_z hk, bd2_s, if_pos rfl, bd2_e]; rfl
    · unfold fX7_person fX7_person_b10
      rw [chk_t m_c, lh_n hk, bd2_e]; rfl
  · by_cases ha : (0 : Int32) ≤ a ∧ a ≤ 9
    rotate_left
    · refine Kp_no 6 (by omega) (by omega) hw (fun μ hR h => ?_) (fun μ hR h => ?_)
      · unfold fX6_person fX6_person_b44
        rw [chk_t c_c, isKind_o hk, bd2_s, if_neg one_ne, isIn_z ha, bd2_s, if_pos rfl, bd2_e]; rfl
      · unfold fX7_person fX7_person_b50
        rw [chk_t m_c, lh_y hk, isF_z ha, bd2_s, if_pos rfl, bd2_e]; rfl
    · by_cases hs : (1 : Int32) ≤ s ∧ s ≤ 40
      rotate_left
      · refine Kp_no 6 (by omega) (by omega) hw (fun μ hR h => ?_) (fun μ hR h => ?_)
        · unfold fX6_person fX6_person_b44
          rw [chk_t c_c, isKind_o hk, bd2_s, if_neg one_ne, isIn_o ha, bd2_s, if_neg one_ne, isIn_z hs, bd2_s, if_pos rfl, bd2_e]; rfl
        · unfold fX7_person fX7_person_b50
          rw [chk_t m_c, lh_y hk, isF_o ha, bd2_s, if_neg one_ne, isF_z hs, bd2_s, if_pos rfl, bd2_e]; rfl
      · by_cases hp : (0 : Int32) ≤ p ∧ p ≤ 40
        rotate_left
        · refine Kp_no 6 (by omega) (by omega) hw (fun μ hR h => ?_) (fun μ hR h => ?_)
          · unfold fX6_person fX6_person_b44
            rw [chk_t c_c, isKind_o hk, bd2_s, if_neg one_ne, isIn_o ha, bd2_s, if_neg one_ne, isIn_o hs, bd2_s, if_neg one_ne, isIn_z hp, bd2_s, if_pos rfl, bd2_e]; rfl
          · unfold fX7_person fX7_person_b50
            rw [chk_t m_c, lh_y hk, isF_o ha, bd2_s, if_neg one_ne, isF_o hs, bd2_s, if_neg one_ne, isF_z hp, bd2_s, if_pos rfl, bd2_e]; rfl
        · by_cases hF : sN (gV S) < 7
          rotate_left
          · have e7 : sN (gV S) = 7 := by omega
            refine Kp_no 7 (by omega) (by omega) hw (fun μ hR h => ?_) (fun μ hR h => ?_)
            · have e1 : zI μ 18 1 = nI 7 := by rw [← e7]; exact h.1.1 1 (by omega) (by omega)
              unfold fX6_person fX6_person_b44
              rw [chk_t c_c, isKind_o hk, bd2_s, if_neg one_ne, isIn_o ha, bd2_s, if_neg one_ne, isIn_o hs, bd2_s, if_neg one_ne, isIn_o hp, bd2_s, if_neg one_ne, cr1 hR, bd1_s, e1, if_neg (by decide), bd2_e]; rfl
            · have e1 : zI μ 108 0 = nI 7 := by rw [← e7]; exact h.1.1 0 (by omega)
              unfold fX7_person fX7_person_b84
              rw [chk_t m_c, lh_y hk, isF_o ha, bd2_s, if_neg one_ne, isF_o hs, bd2_s, if_neg one_ne, isF_o hp, bd2_s, if_neg one_ne, e1, if_pos (by decide), bd2_e]; rfl
          · obtain ⟨k', _, k6, rfl⟩ := in_nat (lo := 0) (hi := 6) (by omega) (by omega) hk
            obtain ⟨a', _, a9, rfl⟩ := in_nat (lo := 0) (hi := 9) (by omega) (by omega) ha
            obtain ⟨s', s1, s40, rfl⟩ := in_nat (lo := 1) (hi := 40) (by omega) (by omega) hs
            obtain ⟨p', _, p40, rfl⟩ := in_nat (lo := 0) (hi := 40) (by omega) (by omega) hp
            refine Kp_V (nI (sN (gV S))) (addP (gV S) k' a' s' p') hw (Wf_addP hw.1 hF k6 a9 s1 s40 p40) (Nat.le_succ _) (fun μ hR h e => ?_) (fun μ hR h e => ?_)
            · have e1 : zI μ 18 1 = nI (sN (gV S)) := h.1.1 1 (by omega) (by omega)
              unfold fX6_person
              rw [chk_t c_c, isKind_o hk, bd2_s, if_neg one_ne, isIn_o ha, bd2_s, if_neg one_ne, isIn_o hs, bd2_s, if_neg one_ne, isIn_o hp, bd2_s, if_neg one_ne, cr1 hR, bd1_s, e1, if_pos (show nI (sN (gV S)) < (7 : Int32) from (nI_ltI (b := 7) (by omega) (by omega)).mpr hF), bd1_s, addPerson_c VS18 hR h.1 hF, bd1_s, cr1 (HR_ovl hR), bd1_s, ovl_1]
              congr 2
              show nI (sN (gV S) + 1) - 1 = nI (sN (gV S))
              exact pk_sub (b := 1) (by omega)
            · have e1 : zI μ 108 0 = nI (sN (gV S)) := h.1.1 0 (by omega)
              have k1 := adds_m (μ := μ) (k := k') (a := a') (s := s') (p := p') hR hF
              rw [e] at k1
              unfold fX7_person fX7_person_b84
              rw [chk_t m_c, lh_y hk, isF_o ha, bd2_s, if_neg one_ne, isF_o hs, bd2_s, if_neg one_ne, isF_o hp, bd2_s, if_neg one_ne, e1, if_neg (show ¬ nI (sN (gV S)) = (7 : Int32) from fun q => by have := (nI_eq (b := 7) (by omega) (by omega)).mp q; omega), k1, bd2_s]
