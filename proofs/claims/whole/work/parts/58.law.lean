-- THE LAW
section
variable {L : Nat} {xs : Nat → Int32} {g : Nat → Nat → Int32 → ZMem → Option ZMem} {v3 : Int32} {μ : ZMem} {S : St}
theorem zb_row (h1 : inN (v3 + (1 : Int32)) L = true) (h2 : inN (v3 + (2 : Int32)) L = true) (h3 : inN (v3 + (3 : Int32)) L = true) (hI : Inv μ S) (hg : ∀ ν S2, Inv ν S2 → ∃ z, g 0 108 (v3 + (6 : Int32)) ν = some z) : ∃ z, fL_b204 g L xs 131 0 108 v3 μ = some z := by
  obtain ⟨μ1, μ2, r, S2, e1, e2, hI2⟩ := Kp_b (Kp_row hI.2.1 (xs (v3 + (1 : Int32)).toNatClampNeg) (xs (v3 + (2 : Int32)).toNatClampNeg) (xs (v3 + (3 : Int32)).toNatClampNeg)) hI
  unfold fL_b204 fL_b1422
  rw [chk_t h1, chk_t h2, chk_t h3, e1, bd2_s, chk_t h1, chk_t h2, chk_t h3, e2, bd2_s, if_pos rfl]
  exact hg μ2 S2 hI2
theorem zb_set (h1 : inN (v3 + (1 : Int32)) L = true) (h2 : inN (v3 + (2 : Int32)) L = true) (h3 : inN (v3 + (3 : Int32)) L = true) (h4 : inN (v3 + (4 : Int32)) L = true) (hI : Inv μ S) (hg : ∀ ν S2, Inv ν S2 → ∃ z, g 0 108 (v3 + (6 : Int32)) ν = some z) : ∃ z, fL_b247 g L xs 131 0 108 v3 μ = some z := by
  obtain ⟨μ1, μ2, r, S2, e1, e2, hI2⟩ := Kp_b (Kp_set hI.2.1 (xs (v3 + (1 : Int32)).toNatClampNeg) (xs (v3 + (2 : Int32)).toNatClampNeg) _) hI
  unfold fL_b247 fL_b1422
  rw [chk_t h1, chk_t h2, chk_t h3, chk_t h4, e1, bd2_s, chk_t h1, chk_t h2, chk_t h3, chk_t h4, e2, bd2_s, if_pos rfl]
  exact hg μ2 S2 hI2
theorem zb_copy (h1 : inN (v3 + (1 : Int32)) L = true) (h2 : inN (v3 + (2 : Int32)) L = true) (h3 : inN (v3 + (3 : Int32)) L = true) (h4 : inN (v3 + (4 : Int32)) L = true) (h5 : inN (v3 + (5 : Int32)) L = true) (hI : Inv μ S) (hg : ∀ ν S2, Inv ν S2 → ∃ z, g 0 108 (v3 + (6 : Int32)) ν = some z) : ∃ z, fL_b320 g L xs 131 0 108 v3 μ = some z := by
  obtain ⟨μ1, μ2, r, S2, e1, e2, hI2⟩ := Kp_b (Kp_copy hI.2.1 (xs (v3 + (1 : Int32)).toNatClampNeg) (xs (v3 + (2 : Int32)).toNatClampNeg) (xs (v3 + (3 : Int32)).toNatClampNeg) (xs (v3 + (4 : Int32)).toNatClampNeg) (xs (v3 + (5 : Int32)).toNatClampNeg)) hI
  unfold fL_b320 fL_b1422
  rw [chk_t h1, chk_t h2, chk_t h3, chk_t h4, chk_t h5, e1, bd2_s, chk_t h1, chk_t h2, chk_t h3, chk_t h4, chk_t h5, e2, bd2_s, if_pos rfl]
  exact hg μ2 S2 hI2
theorem zb_element (h1 : inN (v3 + (1 : Int32)) L = true) (h2 : inN (v3 + (2 : Int32)) L = true) (hI : Inv μ S) (hg : ∀ ν S2, Inv ν S2 → ∃ z, g 0 108 (v3 + (6 : Int32)) ν = some z) : ∃ z, fL_b383 g L xs 131 0 108 v3 μ = some z := by
  obtain ⟨x, kc, km⟩ := K_element hI.2.1 (xs (v3 + (1 : Int32)).toNatClampNeg) (xs (v3 + (2 : Int32)).toNatClampNeg)
  unfold fL_b383 fL_b1422
  rw [chk_t h1, chk_t h2, kc μ hI.1 hI.2.2.1, bd2_s, chk_t h1, chk_t h2, km μ hI.1 hI.2.2.2, bd2_s, if_pos ((lg_cmp_eq x x).mpr rfl)]
  exact hg μ S hI
theorem zb_show (h1 : inN (v3 + (1 : Int32)) L = true) (h2 : inN (v3 + (2 : Int32)) L = true) (hI : Inv μ S) (hg : ∀ ν S2, Inv ν S2 → ∃ z, g 0 108 (v3 + (6 : Int32)) ν = some z) : ∃ z, fL_b417 g L xs 131 0 108 v3 μ = some z := by
  obtain ⟨μ1, μ2, r, S2, e1, e2, hI2⟩ := Kp_b (Kp_show hI.2.1 (xs (v3 + (1 : Int32)).toNatClampNeg) (xs (v3 + (2 : Int32)).toNatClampNeg)) hI
  unfold fL_b417 fL_b1422
  rw [chk_t h1, chk_t h2, e1, bd2_s, chk_t h1, chk_t h2, e2, bd2_s, if_pos rfl]
  exact hg μ2 S2 hI2
theorem zb_holds (h1 : inN (v3 + (1 : Int32)) L = true) (hI : Inv μ S) (hg : ∀ ν S2, Inv ν S2 → ∃ z, g 0 108 (v3 + (6 : Int32)) ν = some z) : ∃ z, fL_b450 g L xs 131 0 108 v3 μ = some z := by
  obtain ⟨μ1, μ2, r, S2, e1, e2, hI2⟩ := Kp_b (Kp_holds hI.2.1 (xs (v3 + (1 : Int32)).toNatClampNeg)) hI
  unfold fL_b450 fL_b1422
  rw [chk_t h1, e1, bd2_s, chk_t h1, e2, bd2_s, if_pos rfl]
  exact hg μ2 S2 hI2
theorem zb_says (h1 : inN (v3 + (1 : Int32)) L = true) (h2 : inN (v3 + (2 : Int32)) L = true) (hI : Inv μ S) (hg : ∀ ν S2, Inv ν S2 → ∃ z, g 0 108 (v3 + (6 : Int32)) ν = some z) : ∃ z, fL_b473 g L xs 131 0 108 v3 μ = some z := by
  obtain ⟨μ1, μ2, r, S2, e1, e2, hI2⟩ := Kp_b (Kp_says hI.2.1 (xs (v3 + (1 : Int32)).toNatClampNeg) (xs (v3 + (2 : Int32)).toNatClampNeg)) hI
  unfold fL_b473 fL_b1422
  rw [chk_t h1, chk_t h2, e1, bd2_s, chk_t h1, chk_t h2, e2, bd2_s, if_pos rfl]
  exact hg μ2 S2 hI2
theorem zb_person (h1 : inN (v3 + (1 : Int32)) L = true) (h2 : inN (v3 + (2 : Int32)) L = true) (h3 : inN (v3 + (3 : Int32)) L = true) (h4 : inN (v3 + (4 : Int32)) L = true) (hI : Inv μ S) (hg : ∀ ν S2, Inv ν S2 → ∃ z, g 0 108 (v3 + (6 : Int32)) ν = some z) : ∃ z, fL_b506 g L xs 131 0 108 v3 μ = some z := by
  obtain ⟨μ1, μ2, r, S2, e1, e2, hI2⟩ := Kp_b (Kp_person hI.2.1 (xs (v3 + (1 : Int32)).toNatClampNeg) (xs (v3 + (2 : Int32)).toNatClampNeg) (xs (v3 + (3 : Int32)).toNatClampNeg) (xs (v3 + (4 : Int32)).toNatClampNeg)) hI
  unfold fL_b506 fL_b1422
  rw [chk_t h1, chk_t h2, chk_t h3, chk_t h4, e1, bd2_s, chk_t h1, chk_t h2, chk_t h3, chk_t h4, e2, bd2_s, if_pos rfl]
  exact hg μ2 S2 hI2
theorem zb_ask (h1 : inN (v3 + (1 : Int32)) L = true) (h2 : inN (v3 + (2 : Int32)) L = true) (hI : Inv μ S) (hg : ∀ ν S2, Inv ν S2 → ∃ z, g 0 108 (v3 + (6 : Int32)) ν = some z) : ∃ z, fL_b559 g L xs 131 0 108 v3 μ = some z := by
  obtain ⟨μ1, μ2, r, S2, e1, e2, hI2⟩ := Kp_b (Kp_ask hI.2.1 (xs (v3 + (1 : Int32)).toNatClampNeg) (xs (v3 + (2 : Int32)).toNatClampNeg)) hI
  unfold fL_b559 fL_b1422
  rw [chk_t h1, chk_t h2, e1, bd2_s, chk_t h1, chk_t h2, e2, bd2_s, if_pos rfl]
  exact hg μ2 S2 hI2
theorem zb_tire (h1 : inN (v3 + (1 : Int32)) L = true) (h2 : inN (v3 + (2 : Int32)) L = true) (hI : Inv μ S) (hg : ∀ ν S2, Inv ν S2 → ∃ z, g 0 108 (v3 + (6 : Int32)) ν = some z) : ∃ z, fL_b592 g L xs 131 0 108 v3 μ = some z := by
  obtain ⟨μ1, μ2, r, S2, e1, e2, hI2⟩ := Kp_b (Kp_tire hI.2.1 (xs (v3 + (1 : Int32)).toNatClampNeg) (xs (v3 + (2 : Int32)).toNatClampNeg)) hI
  unfold fL_b592 fL_b1422
  rw [chk_t h1, chk_t h2, e1, bd2_s, chk_t h1, chk_t h2, e2, bd2_s, if_pos rfl]
  exact hg μ2 S2 hI2
theorem zb_give (h1 : inN (v3 + (1 : Int32)) L = true) (hI : Inv μ S) (hg : ∀ ν S2, Inv ν S2 → ∃ z, g 0 108 (v3 + (6 : Int32)) ν = some z) : ∃ z, fL_b625 g L xs 131 0 108 v3 μ = some z := by
  obtain ⟨μ1, μ2, r, S2, e1, e2, hI2⟩ := Kp_b (Kp_give hI.2.1 (xs (v3 + (1 : Int32)).toNatClampNeg)) hI
  unfold fL_b625 fL_b1422
  rw [chk_t h1, e1, bd2_s, chk_t h1, e2, bd2_s, if_pos rfl]
  exact hg μ2 S2 hI2
theorem zb_personOf (h1 : inN (v3 + (1 : Int32)) L = true) (h2 : inN (v3 + (2 : Int32)) L = true) (hI : Inv μ S) (hg : ∀ ν S2, Inv ν S2 → ∃ z, g 0 108 (v3 + (6 : Int32)) ν = some z) : ∃ z, fL_b648 g L xs 131 0 108 v3 μ = some z := by
  obtain ⟨μ1, μ2, r, S2, e1, e2, hI2⟩ := Kp_b (Kp_personOf hI.2.1 (xs (v3 + (1 : Int32)).toNatClampNeg) (xs (v3 + (2 : Int32)).toNatClampNeg)) hI
  unfold fL_b648 fL_b1422
  rw [chk_t h1, chk_t h2, e1, bd2_s, chk_t h1, chk_t h2, e2, bd2_s, if_pos rfl]
  exact hg μ2 S2 hI2
theorem zb_vow (h1 : inN (v3 + (1 : Int32)) L = true) (hI : Inv μ S) (hg : ∀ ν S2, Inv ν S2 → ∃ z, g 0 108 (v3 + (6 : Int32)) ν = some z) : ∃ z, fL_b681 g L xs 131 0 108 v3 μ = some z := by
  obtain ⟨μ1, μ2, r, S2, e1, e2, hI2⟩ := Kp_b (Kp_vow hI.2.1 (xs (v3 + (1 : Int32)).toNatClampNeg)) hI
  unfold fL_b681 fL_b1422
  rw [chk_t h1, e1, bd2_s, chk_t h1, e2, bd2_s, if_pos rfl]
  exact hg μ2 S2 hI2
theorem zb_fault (hI : Inv μ S) (hg : ∀ ν S2, Inv ν S2 → ∃ z, g 0 108 (v3 + (6 : Int32)) ν = some z) : ∃ z, fL_b704 g L xs 131 0 108 v3 μ = some z := by
  obtain ⟨μ1, μ2, r, S2, e1, e2, hI2⟩ := Kp_b (Kp_fault hI.2.1) hI
  unfold fL_b704 fL_b1422
  rw [e1, bd2_s, e2, bd2_s, if_pos rfl]
  exact hg μ2 S2 hI2
theorem zb_sighs (h1 : inN (v3 + (1 : Int32)) L = true) (hI : Inv μ S) (hg : ∀ ν S2, Inv ν S2 → ∃ z, g 0 108 (v3 + (6 : Int32)) ν = some z) : ∃ z, fL_b717 g L xs 131 0 108 v3 μ = some z := by
  obtain ⟨μ1, μ2, r, S2, e1, e2, hI2⟩ := Kp_b (Kp_sighs hI.2.1 (xs (v3 + (1 : Int32)).toNatClampNeg)) hI
  unfold fL_b717 fL_b1422
  rw [chk_t h1, e1, bd2_s, chk_t h1, e2, bd2_s, if_pos rfl]
  exact hg μ2 S2 hI2
theorem zb_ready (h1 : inN (v3 + (1 : Int32)) L = true) (hI : Inv μ S) (hg : ∀ ν S2, Inv ν S2 → ∃ z, g 0 108 (v3 + (6 : Int32)) ν = some z) : ∃ z, fL_b740 g L xs 131 0 108 v3 μ = some z := by
  obtain ⟨μ1, μ2, r, S2, e1, e2, hI2⟩ := Kp_b (Kp_ready hI.2.1 (xs (v3 + (1 : Int32)).toNatClampNeg)) hI
  unfold fL_b740 fL_b1422
  rw [chk_t h1, e1, bd2_s, chk_t h1, e2, bd2_s, if_pos rfl]
  exact hg μ2 S2 hI2
theorem zb_ahead (h1 : inN (v3 + (1 : Int32)) L = true) (h2 : inN (v3 + (2 : Int32)) L = true) (hI : Inv μ S) (hg : ∀ ν S2, Inv ν S2 → ∃ z, g 0 108 (v3 + (6 : Int32)) ν = some z) : ∃ z, fL_b763 g L xs 131 0 108 v3 μ = some z := by
  obtain ⟨μ1, μ2, r, S2, e1, e2, hI2⟩ := Kp_b (Kp_ahead hI.2.1 (xs (v3 + (1 : Int32)).toNatClampNeg) (xs (v3 + (2 : Int32)).toNatClampNeg)) hI
  unfold fL_b763 fL_b1422
  rw [chk_t h1, chk_t h2, e1, bd2_s, chk_t h1, chk_t h2, e2, bd2_s, if_pos rfl]
  exact hg μ2 S2 hI2
theorem zb_tired (h1 : inN (v3 + (1 : Int32)) L = true) (h2 : inN (v3 + (2 : Int32)) L = true) (hI : Inv μ S) (hg : ∀ ν S2, Inv ν S2 → ∃ z, g 0 108 (v3 + (6 : Int32)) ν = some z) : ∃ z, fL_b796 g L xs 131 0 108 v3 μ = some z := by
  obtain ⟨μ1, μ2, r, S2, e1, e2, hI2⟩ := Kp_b (Kp_tired hI.2.1 (xs (v3 + (1 : Int32)).toNatClampNeg) (xs (v3 + (2 : Int32)).toNatClampNeg)) hI
  unfold fL_b796 fL_b1422
  rw [chk_t h1, chk_t h2, e1, bd2_s, chk_t h1, chk_t h2, e2, bd2_s, if_pos rfl]
  exact hg μ2 S2 hI2
theorem zb_over (hI : Inv μ S) (hg : ∀ ν S2, Inv ν S2 → ∃ z, g 0 108 (v3 + (6 : Int32)) ν = some z) : ∃ z, fL_b829 g L xs 131 0 108 v3 μ = some z := by
  obtain ⟨μ1, μ2, r, S2, e1, e2, hI2⟩ := Kp_b (Kp_over hI.2.1) hI
  unfold fL_b829 fL_b1422
  rw [e1, bd2_s, e2, bd2_s, if_pos rfl]
  exact hg μ2 S2 hI2
theorem zb_alone (h1 : inN (v3 + (1 : Int32)) L = true) (h2 : inN (v3 + (2 : Int32)) L = true) (hI : Inv μ S) (hg : ∀ ν S2, Inv ν S2 → ∃ z, g 0 108 (v3 + (6 : Int32)) ν = some z) : ∃ z, fL_b842 g L xs 131 0 108 v3 μ = some z := by
  obtain ⟨μ1, μ2, r, S2, e1, e2, hI2⟩ := Kp_b (Kp_alone hI.2.1 (xs (v3 + (1 : Int32)).toNatClampNeg) (xs (v3 + (2 : Int32)).toNatClampNeg)) hI
  unfold fL_b842 fL_b1422
  rw [chk_t h1, chk_t h2, e1, bd2_s, chk_t h1, chk_t h2, e2, bd2_s, if_pos rfl]
  exact hg μ2 S2 hI2
theorem zb_relay (h1 : inN (v3 + (1 : Int32)) L = true) (h2 : inN (v3 + (2 : Int32)) L = true) (h3 : inN (v3 + (3 : Int32)) L = true) (hI : Inv μ S) (hg : ∀ ν S2, Inv ν S2 → ∃ z, g 0 108 (v3 + (6 : Int32)) ν = some z) : ∃ z, fL_b875 g L xs 131 0 108 v3 μ = some z := by
  obtain ⟨μ1, μ2, r, S2, e1, e2, hI2⟩ := Kp_b (Kp_relay hI.2.1 (xs (v3 + (1 : Int32)).toNatClampNeg) (xs (v3 + (2 : Int32)).toNatClampNeg) (xs (v3 + (3 : Int32)).toNatClampNeg)) hI
  unfold fL_b875 fL_b1422
  rw [chk_t h1, chk_t h2, chk_t h3, e1, bd2_s, chk_t h1, chk_t h2, chk_t h3, e2, bd2_s, if_pos rfl]
  exact hg μ2 S2 hI2
theorem zb_cases (h1 : inN (v3 + (1 : Int32)) L = true) (h2 : inN (v3 + (2 : Int32)) L = true) (h3 : inN (v3 + (3 : Int32)) L = true) (hI : Inv μ S) (hg : ∀ ν S2, Inv ν S2 → ∃ z, g 0 108 (v3 + (6 : Int32)) ν = some z) : ∃ z, fL_b918 g L xs 131 0 108 v3 μ = some z := by
  obtain ⟨μ1, μ2, r, S2, e1, e2, hI2⟩ := Kp_b (Kp_cases hI.2.1 (xs (v3 + (1 : Int32)).toNatClampNeg) (xs (v3 + (2 : Int32)).toNatClampNeg) (xs (v3 + (3 : Int32)).toNatClampNeg)) hI
  unfold fL_b918 fL_b1422
  rw [chk_t h1, chk_t h2, chk_t h3, e1, bd2_s, chk_t h1, chk_t h2, chk_t h3, e2, bd2_s, if_pos rfl]
  exact hg μ2 S2 hI2
theorem zb_clash (h1 : inN (v3 + (1 : Int32)) L = true) (h2 : inN (v3 + (2 : Int32)) L = true) (hI : Inv μ S) (hg : ∀ ν S2, Inv ν S2 → ∃ z, g 0 108 (v3 + (6 : Int32)) ν = some z) : ∃ z, fL_b961 g L xs 131 0 108 v3 μ = some z := by
  obtain ⟨μ1, μ2, r, S2, e1, e2, hI2⟩ := Kp_b (Kp_clash hI.2.1 (xs (v3 + (1 : Int32)).toNatClampNeg) (xs (v3 + (2 : Int32)).toNatClampNeg)) hI
  unfold fL_b961 fL_b1422
  rw [chk_t h1, chk_t h2, e1, bd2_s, chk_t h1, chk_t h2, e2, bd2_s, if_pos rfl]
  exact hg μ2 S2 hI2
theorem zb_borne (h1 : inN (v3 + (1 : Int32)) L = true) (h2 : inN (v3 + (2 : Int32)) L = true) (hI : Inv μ S) (hg : ∀ ν S2, Inv ν S2 → ∃ z, g 0 108 (v3 + (6 : Int32)) ν = some z) : ∃ z, fL_b994 g L xs 131 0 108 v3 μ = some z := by
  obtain ⟨μ1, μ2, r, S2, e1, e2, hI2⟩ := Kp_b (Kp_borne hI.2.1 (xs (v3 + (1 : Int32)).toNatClampNeg) (xs (v3 + (2 : Int32)).toNatClampNeg)) hI
  unfold fL_b994 fL_b1422
  rw [chk_t h1, chk_t h2, e1, bd2_s, chk_t h1, chk_t h2, e2, bd2_s, if_pos rfl]
  exact hg μ2 S2 hI2
theorem zb_without (hI : Inv μ S) (hg : ∀ ν S2, Inv ν S2 → ∃ z, g 0 108 (v3 + (6 : Int32)) ν = some z) : ∃ z, fL_b1027 g L xs 131 0 108 v3 μ = some z := by
  obtain ⟨μ1, μ2, r, S2, e1, e2, hI2⟩ := Kp_b (Kp_without hI.2.1) hI
  unfold fL_b1027 fL_b1422
  rw [e1, bd2_s, e2, bd2_s, if_pos rfl]
  exact hg μ2 S2 hI2
theorem zb_weights (h1 : inN (v3 + (1 : Int32)) L = true) (h2 : inN (v3 + (2 : Int32)) L = true) (hI : Inv μ S) (hg : ∀ ν S2, Inv ν S2 → ∃ z, g 0 108 (v3 + (6 : Int32)) ν = some z) : ∃ z, fL_b1040 g L xs 131 0 108 v3 μ = some z := by
  obtain ⟨μ1, μ2, r, S2, e1, e2, hI2⟩ := Kp_b (Kp_weights hI.2.1 (xs (v3 + (1 : Int32)).toNatClampNeg) (xs (v3 + (2 : Int32)).toNatClampNeg)) hI
  unfold fL_b1040 fL_b1422
  rw [chk_t h1, chk_t h2, e1, bd2_s, chk_t h1, chk_t h2, e2, bd2_s, if_pos rfl]
  exact hg μ2 S2 hI2
theorem zb_praise (h1 : inN (v3 + (1 : Int32)) L = true) (hI : Inv μ S) (hg : ∀ ν S2, Inv ν S2 → ∃ z, g 0 108 (v3 + (6 : Int32)) ν = some z) : ∃ z, fL_b1073 g L xs 131 0 108 v3 μ = some z := by
  obtain ⟨μ1, μ2, r, S2, e1, e2, hI2⟩ := Kp_b (Kp_praise hI.2.1 (xs (v3 + (1 : Int32)).toNatClampNeg)) hI
  unfold fL_b1073 fL_b1422
  rw [chk_t h1, e1, bd2_s, chk_t h1, e2, bd2_s, if_pos rfl]
  exact hg μ2 S2 hI2
theorem zb_judge (h1 : inN (v3 + (1 : Int32)) L = true) (h2 : inN (v3 + (2 : Int32)) L = true) (hI : Inv μ S) (hg : ∀ ν S2, Inv ν S2 → ∃ z, g 0 108 (v3 + (6 : Int32)) ν = some z) : ∃ z, fL_b1096 g L xs 131 0 108 v3 μ = some z := by
  obtain ⟨μ1, μ2, r, S2, e1, e2, hI2⟩ := Kp_b (Kp_judge hI.2.1 (xs (v3 + (1 : Int32)).toNatClampNeg) (xs (v3 + (2 : Int32)).toNatClampNeg)) hI
  unfold fL_b1096 fL_b1422
  rw [chk_t h1, chk_t h2, e1, bd2_s, chk_t h1, chk_t h2, e2, bd2_s, if_pos rfl]
  exact hg μ2 S2 hI2
theorem zb_behind (h1 : inN (v3 + (1 : Int32)) L = true) (h2 : inN (v3 + (2 : Int32)) L = true) (h3 : inN (v3 + (3 : Int32)) L = true) (hI : Inv μ S) (hg : ∀ ν S2, Inv ν S2 → ∃ z, g 0 108 (v3 + (6 : Int32)) ν = some z) : ∃ z, fL_b1129 g L xs 131 0 108 v3 μ = some z := by
  obtain ⟨μ1, μ2, r, S2, e1, e2, hI2⟩ := Kp_b (Kp_behind hI.2.1 (xs (v3 + (1 : Int32)).toNatClampNeg) (xs (v3 + (2 : Int32)).toNatClampNeg) (xs (v3 + (3 : Int32)).toNatClampNeg)) hI
  unfold fL_b1129 fL_b1422
  rw [chk_t h1, chk_t h2, chk_t h3, e1, bd2_s, chk_t h1, chk_t h2, chk_t h3, e2, bd2_s, if_pos rfl]
  exact hg μ2 S2 hI2
theorem zb_done (h1 : inN (v3 + (1 : Int32)) L = true) (h2 : inN (v3 + (2 : Int32)) L = true) (hI : Inv μ S) (hg : ∀ ν S2, Inv ν S2 → ∃ z, g 0 108 (v3 + (6 : Int32)) ν = some z) : ∃ z, fL_b1172 g L xs 131 0 108 v3 μ = some z := by
  obtain ⟨μ1, μ2, r, S2, e1, e2, hI2⟩ := Kp_b (Kp_done hI.2.1 (xs (v3 + (1 : Int32)).toNatClampNeg) (xs (v3 + (2 : Int32)).toNatClampNeg)) hI
  unfold fL_b1172 fL_b1422
  rw [chk_t h1, chk_t h2, e1, bd2_s, chk_t h1, chk_t h2, e2, bd2_s, if_pos rfl]
  exact hg μ2 S2 hI2
theorem zb_say (h1 : inN (v3 + (1 : Int32)) L = true) (h2 : inN (v3 + (2 : Int32)) L = true) (hI : Inv μ S) (hg : ∀ ν S2, Inv ν S2 → ∃ z, g 0 108 (v3 + (6 : Int32)) ν = some z) : ∃ z, fL_b1205 g L xs 131 0 108 v3 μ = some z := by
  obtain ⟨μ1, μ2, r, S2, e1, e2, hI2⟩ := Kp_b (Kp_say hI.2.1 (xs (v3 + (1 : Int32)).toNatClampNeg) (xs (v3 + (2 : Int32)).toNatClampNeg)) hI
  unfold fL_b1205 fL_b1422
  rw [chk_t h1, chk_t h2, e1, bd2_s, chk_t h1, chk_t h2, e2, bd2_s, if_pos rfl]
  exact hg μ2 S2 hI2
theorem zb_steps (h1 : inN (v3 + (1 : Int32)) L = true) (hI : Inv μ S) (hg : ∀ ν S2, Inv ν S2 → ∃ z, g 0 108 (v3 + (6 : Int32)) ν = some z) : ∃ z, fL_b1238 g L xs 131 0 108 v3 μ = some z := by
  obtain ⟨μ1, μ2, r, S2, e1, e2, hI2⟩ := Kp_b (Kp_steps hI.2.1 (xs (v3 + (1 : Int32)).toNatClampNeg)) hI
  unfold fL_b1238 fL_b1422
  rw [chk_t h1, e1, bd2_s, chk_t h1, e2, bd2_s, if_pos rfl]
  exact hg μ2 S2 hI2
theorem zb_days (h1 : inN (v3 + (1 : Int32)) L = true) (hI : Inv μ S) (hg : ∀ ν S2, Inv ν S2 → ∃ z, g 0 108 (v3 + (6 : Int32)) ν = some z) : ∃ z, fL_b1261 g L xs 131 0 108 v3 μ = some z := by
  obtain ⟨μ1, μ2, r, S2, e1, e2, hI2⟩ := Kp_b (Kp_days hI.2.1 (xs (v3 + (1 : Int32)).toNatClampNeg)) hI
  unfold fL_b1261 fL_b1422
  rw [chk_t h1, e1, bd2_s, chk_t h1, e2, bd2_s, if_pos rfl]
  exact hg μ2 S2 hI2
theorem zb_seed (h1 : inN (v3 + (1 : Int32)) L = true) (hI : Inv μ S) (hg : ∀ ν S2, Inv ν S2 → ∃ z, g 0 108 (v3 + (6 : Int32)) ν = some z) : ∃ z, fL_b1284 g L xs 131 0 108 v3 μ = some z := by
  obtain ⟨μ1, μ2, r, S2, e1, e2, hI2⟩ := Kp_b (Kp_seed hI.2.1 (xs (v3 + (1 : Int32)).toNatClampNeg)) hI
  unfold fL_b1284 fL_b1422
  rw [chk_t h1, e1, bd2_s, chk_t h1, e2, bd2_s, if_pos rfl]
  exact hg μ2 S2 hI2
theorem zb_act (h1 : inN (v3 + (1 : Int32)) L = true) (h2 : inN (v3 + (2 : Int32)) L = true) (h3 : inN (v3 + (3 : Int32)) L = true) (hI : Inv μ S) (hg : ∀ ν S2, Inv ν S2 → ∃ z, g 0 108 (v3 + (6 : Int32)) ν = some z) : ∃ z, fL_b1307 g L xs 131 0 108 v3 μ = some z := by
  obtain ⟨μ1, μ2, r, S2, e1, e2, hI2⟩ := Kp_b (Kp_act hI.2.1 (xs (v3 + (1 : Int32)).toNatClampNeg) (xs (v3 + (2 : Int32)).toNatClampNeg) (xs (v3 + (3 : Int32)).toNatClampNeg)) hI
  unfold fL_b1307 fL_b1422
  rw [chk_t h1, chk_t h2, chk_t h3, e1, bd2_s, chk_t h1, chk_t h2, chk_t h3, e2, bd2_s, if_pos rfl]
  exact hg μ2 S2 hI2
theorem zb_trace (h1 : inN (v3 + (1 : Int32)) L = true) (hI : Inv μ S) (hg : ∀ ν S2, Inv ν S2 → ∃ z, g 0 108 (v3 + (6 : Int32)) ν = some z) : ∃ z, fL_b1350 g L xs 131 0 108 v3 μ = some z := by
  obtain ⟨μ1, μ2, r, S2, e1, e2, hI2⟩ := Kp_b (Kp_trace hI.2.1 (xs (v3 + (1 : Int32)).toNatClampNeg)) hI
  unfold fL_b1350 fL_b1422
  rw [chk_t h1, e1, bd2_s, chk_t h1, e2, bd2_s, if_pos rfl]
  exact hg μ2 S2 hI2
theorem zb_image (hI : Inv μ S) (hg : ∀ ν S2, Inv ν S2 → ∃ z, g 0 108 (v3 + (6 : Int32)) ν = some z) : ∃ z, fL_b1373 g L xs 131 0 108 v3 μ = some z := by
  obtain ⟨μ1, μ2, r, S2, e1, e2, hI2⟩ := Kp_b (Kp_image hI.2.1) hI
  unfold fL_b1373 fL_b1422
  rw [e1, bd2_s, e2, bd2_s, if_pos rfl]
  exact hg μ2 S2 hI2
theorem zb_restore (hI : Inv μ S) (hg : ∀ ν S2, Inv ν S2 → ∃ z, g 0 108 (v3 + (6 : Int32)) ν = some z) : ∃ z, fL_b1386 g L xs 131 0 108 v3 μ = some z := by
  obtain ⟨μ1, μ2, r, S2, e1, e2, hI2⟩ := Kp_b (Kp_restore hI.2.1) hI
  unfold fL_b1386 fL_b1422
  rw [e1, bd2_s, e2, bd2_s, if_pos rfl]
  exact hg μ2 S2 hI2
theorem zb_status (h1 : inN (v3 + (1 : Int32)) L = true) (hI : Inv μ S) (hg : ∀ ν S2, Inv ν S2 → ∃ z, g 0 108 (v3 + (6 : Int32)) ν = some z) : ∃ z, fL_b1399 g L xs 131 0 108 v3 μ = some z := by
  obtain ⟨μ1, μ2, r, S2, e1, e2, hI2⟩ := Kp_b (Kp_status hI.2.1 (xs (v3 + (1 : Int32)).toNatClampNeg)) hI
  unfold fL_b1399 fL_b1422
  rw [chk_t h1, e1, bd2_s, chk_t h1, e2, bd2_s, if_pos rfl]
  exact hg μ2 S2 hI2
end
theorem zlaw {L : Nat} {xs : Nat → Int32} (hL : L ≤ 3072) : ∀ k j μ S, j ≤ L → L < 6 * k + j → Inv μ S → ∃ z, fL_b18 L xs 131 k 0 108 (nI j) μ = some z := by
  intro k
  induction k with
  | zero => intro j μ S q1 q2 _; omega
  | succ k ih =>
    intro j μ S q1 q2 hI
    rw [fL_b18]
    have e6 : Int32.ofNat L - (6 : Int32) < nI j ↔ L < j + 6 := by
      by_cases h6 : 6 ≤ L
      · rw [show Int32.ofNat L - (6 : Int32) = nI (L - 6) from pk_sub (b := 6) h6, nI_ltI (by omega) (by omega)]
        omega
      · have h1 : Int32.ofNat L - (6 : Int32) < 0 := pk_sneg (a := L) (b := 6) (by omega) (by omega)
        refine ⟨fun _ => by omega, fun _ => fa_trans h1 (nI_pos' (by omega))⟩
    by_cases he : L < j + 6
    · rw [if_pos (e6.mpr he)]
      exact ⟨μ, rfl⟩
    · rw [if_neg (fun q => he (e6.mp q)), chk_t (inN_nI (by omega) (by omega))]
      have h1 : inN (nI j + (1 : Int32)) L = true := by rw [nI_1]; exact inN_nI (by omega) (by omega)
      have h2 : inN (nI j + (2 : Int32)) L = true := by rw [show nI j + (2 : Int32) = nI (j + 2) from nI_add j 2]; exact inN_nI (by omega) (by omega)
      have h3 : inN (nI j + (3 : Int32)) L = true := by rw [show nI j + (3 : Int32) = nI (j + 3) from nI_add j 3]; exact inN_nI (by omega) (by omega)
      have h4 : inN (nI j + (4 : Int32)) L = true := by rw [show nI j + (4 : Int32) = nI (j + 4) from nI_add j 4]; exact inN_nI (by omega) (by omega)
      have h5 : inN (nI j + (5 : Int32)) L = true := by rw [show nI j + (5 : Int32) = nI (j + 5) from nI_add j 5]; exact inN_nI (by omega) (by omega)
      have hg : ∀ ν S2, Inv ν S2 → ∃ z, fL_b18 L xs 131 k 0 108 (nI j + (6 : Int32)) ν = some z := by
        intro ν S2 h
        rw [show nI j + (6 : Int32) = nI (j + 6) from nI_add j 6]
        exact ih (j + 6) ν S2 (by omega) (by omega) h
      generalize (xs (nI j).toNatClampNeg) &&& (63 : Int32) = op
      by_cases c0 : op = 0
      · rw [if_pos c0]
        exact zb_row h1 h2 h3 hI hg
      rw [if_neg c0]
      by_cases c1 : op = 1
      · rw [if_pos c1]
        exact zb_set h1 h2 h3 h4 hI hg
      rw [if_neg c1]
      by_cases c2 : op = 2
      · rw [if_pos c2]
        exact zb_copy h1 h2 h3 h4 h5 hI hg
      rw [if_neg c2]
      by_cases c3 : op = 3
      · rw [if_pos c3]
        exact zb_element h1 h2 hI hg
      rw [if_neg c3]
      by_cases c4 : op = 4
      · rw [if_pos c4]
        exact zb_show h1 h2 hI hg
      rw [if_neg c4]
      by_cases c5 : op = 5
      · rw [if_pos c5]
        exact zb_holds h1 hI hg
      rw [if_neg c5]
      by_cases c6 : op = 6
      · rw [if_pos c6]
        exact zb_says h1 h2 hI hg
      rw [if_neg c6]
      by_cases c7 : op = 7
      · rw [if_pos c7]
        exact zb_person h1 h2 h3 h4 hI hg
      rw [if_neg c7]
      by_cases c8 : op = 8
      · rw [if_pos c8]
        exact zb_ask h1 h2 hI hg
      rw [if_neg c8]
      by_cases c9 : op = 9
      · rw [if_pos c9]
        exact zb_tire h1 h2 hI hg
      rw [if_neg c9]
      by_cases c10 : op = 10
      · rw [if_pos c10]
        exact zb_give h1 hI hg
      rw [if_neg c10]
      by_cases c11 : op = 11
      · rw [if_pos c11]
        exact zb_personOf h1 h2 hI hg
      rw [if_neg c11]
      by_cases c12 : op = 12
      · rw [if_pos c12]
        exact zb_vow h1 hI hg
      rw [if_neg c12]
      by_cases c13 : op = 13
      · rw [if_pos c13]
        exact zb_fault hI hg
      rw [if_neg c13]
      by_cases c14 : op = 14
      · rw [if_pos c14]
        exact zb_sighs h1 hI hg
      rw [if_neg c14]
      by_cases c15 : op = 15
      · rw [if_pos c15]
        exact zb_ready h1 hI hg
      rw [if_neg c15]
      by_cases c16 : op = 16
      · rw [if_pos c16]
        exact zb_ahead h1 h2 hI hg
      rw [if_neg c16]
      by_cases c17 : op = 17
      · rw [if_pos c17]
        exact zb_tired h1 h2 hI hg
      rw [if_neg c17]
      by_cases c18 : op = 18
      · rw [if_pos c18]
        exact zb_over hI hg
      rw [if_neg c18]
      by_cases c19 : op = 19
      · rw [if_pos c19]
        exact zb_alone h1 h2 hI hg
      rw [if_neg c19]
      by_cases c20 : op = 20
      · rw [if_pos c20]
        exact zb_relay h1 h2 h3 hI hg
      rw [if_neg c20]
      by_cases c21 : op = 21
      · rw [if_pos c21]
        exact zb_cases h1 h2 h3 hI hg
      rw [if_neg c21]
      by_cases c22 : op = 22
      · rw [if_pos c22]
        exact zb_clash h1 h2 hI hg
      rw [if_neg c22]
      by_cases c23 : op = 23
      · rw [if_pos c23]
        exact zb_borne h1 h2 hI hg
      rw [if_neg c23]
      by_cases c24 : op = 24
      · rw [if_pos c24]
        exact zb_without hI hg
      rw [if_neg c24]
      by_cases c25 : op = 25
      · rw [if_pos c25]
        exact zb_weights h1 h2 hI hg
      rw [if_neg c25]
      by_cases c26 : op = 26
      · rw [if_pos c26]
        exact zb_praise h1 hI hg
      rw [if_neg c26]
      by_cases c27 : op = 27
      · rw [if_pos c27]
        exact zb_judge h1 h2 hI hg
      rw [if_neg c27]
      by_cases c28 : op = 28
      · rw [if_pos c28]
        exact zb_behind h1 h2 h3 hI hg
      rw [if_neg c28]
      by_cases c29 : op = 29
      · rw [if_pos c29]
        exact zb_done h1 h2 hI hg
      rw [if_neg c29]
      by_cases c30 : op = 30
      · rw [if_pos c30]
        exact zb_say h1 h2 hI hg
      rw [if_neg c30]
      by_cases c31 : op = 31
      · rw [if_pos c31]
        exact zb_steps h1 hI hg
      rw [if_neg c31]
      by_cases c32 : op = 32
      · rw [if_pos c32]
        exact zb_days h1 hI hg
      rw [if_neg c32]
      by_cases c33 : op = 33
      · rw [if_pos c33]
        exact zb_seed h1 hI hg
      rw [if_neg c33]
      by_cases c34 : op = 34
      · rw [if_pos c34]
        exact zb_act h1 h2 h3 hI hg
      rw [if_neg c34]
      by_cases c35 : op = 35
      · rw [if_pos c35]
        exact zb_trace h1 hI hg
      rw [if_neg c35]
      by_cases c36 : op = 36
      · rw [if_pos c36]
        exact zb_image hI hg
      rw [if_neg c36]
      by_cases c37 : op = 37
      · rw [if_pos c37]
        exact zb_restore hI hg
      rw [if_neg c37]
      by_cases c38 : op = 38
      · rw [if_pos c38]
        exact zb_status h1 hI hg
      rw [if_neg c38]
      unfold fL_b1422
      exact hg μ S hI
-- WHERE IT BEGINS
theorem nI_all (x : Int32) : nI x.toBitVec.toNat = x := by
  apply Int32.toBitVec_inj.mp
  show BitVec.ofNat 32 x.toBitVec.toNat = x.toBitVec
  simp
def g0 (μ : ZMem) : Sg := (0, 20, 100, 0, none, 0, 31, 1, fun p j => (μ.1 (110 + j) p).toBitVec.toNat)
def s0 (μ : ZMem) : St := (g0 μ, none, -1, fun _ => 0, fun _ => Sh0, 0, fun _ => 0)
theorem Inv_0 {μ : ZMem} (h : zok μ = true) : Inv μ (s0 μ) := by
  unfold zok at h
  rw [Bool.and_eq_true, List.all_eq_true, List.all_eq_true] at h
  obtain ⟨hr, hi⟩ := h
  have hI : ∀ q ∈ zI0t, zI μ q.1 q.2.1 = q.2.2 := fun q hq => of_decide_eq_true (hi q hq)
  have hR : HR μ := fun q hq => of_decide_eq_true (hr q hq)
  have hW : Wf (g0 μ) := ⟨by show 0 ≤ 7; omega, ⟨by show 1 ≤ 20; omega, by show 20 ≤ 99; omega⟩, ⟨by show 0 ≤ 100; omega, by show 100 ≤ 999; omega⟩, (fun b e => by cases e), by show 31 ≤ 31; omega, fun p q => absurd q (Nat.not_lt_zero _)⟩
  have hS : ∀ N, SHw N Sh0 := fun N => ⟨Nat.zero_le _, (fun q => absurd q (by decide)), (fun q => absurd q (by decide))⟩
  have k107 : ∀ k, k < 8 → (107, k, (0 : Int32)) ∈ zI0t := by decide +kernel
  have k109 : ∀ k, k < 8 → (109, k, (0 : Int32)) ∈ zI0t := by decide +kernel
  have k115 : ∀ k, k < 8 → (115, k, (0 : Int32)) ∈ zI0t := by decide +kernel
  have ksh : ∀ s, s < 8 → (2 + 2 * s, 0, (0 : Int32)) ∈ zI0t := by decide +kernel
  refine ⟨hR, ⟨hW, fun τ e => (by cases e), fun s _ => hS _, Nat.zero_le _⟩, ?_, ?_⟩
  · refine ⟨⟨fun k q1 q2 => ?_, fun p q => absurd q (Nat.not_lt_zero _)⟩, hI (0, 8, 0) (by decide +kernel), fun τ e => (by cases e), hI (0, 9, -1) (by decide +kernel), fun k q => hI (107, k, 0) (k107 k q), fun s q => ⟨hI (2 + 2 * s, 0, 0) (ksh s q), (fun q => absurd (show (0 : Nat) = 1 from q) (by decide)), (fun q => absurd (show (0 : Nat) = 2 from q) (by decide))⟩, hI (105, 1, 0) (by decide +kernel), fun i _ q => absurd q (Nat.not_lt_zero _)⟩
    have c : k = 1 ∨ k = 2 ∨ k = 3 ∨ k = 4 ∨ k = 5 ∨ k = 6 ∨ k = 7 ∨ k = 8 := by omega
    rcases c with rfl | rfl | rfl | rfl | rfl | rfl | rfl | rfl
    · exact hI (18, 1, 0) (by decide +kernel)
    · exact hI (18, 2, 20) (by decide +kernel)
    · exact hI (18, 3, 100) (by decide +kernel)
    · exact hI (18, 4, 0) (by decide +kernel)
    · exact hI (18, 5, -1) (by decide +kernel)
    · exact hI (18, 6, 0) (by decide +kernel)
    · exact hI (18, 7, 31) (by decide +kernel)
    · exact hI (18, 8, 1) (by decide +kernel)
  · refine ⟨⟨fun k q1 => ?_, fun p q j q2 => (nI_all _).symm⟩, hI (108, 41, 0) (by decide +kernel), fun τ e => (by cases e), hI (108, 8, -1) (by decide +kernel), fun k q => hI (109, k, 0) (k109 k q), fun s q => ⟨hI (115, s, 0) (k115 s q), (fun q => absurd (show (0 : Nat) = 1 from q) (by decide)), (fun q => absurd (show (0 : Nat) = 2 from q) (by decide))⟩, hI (108, 40, 0) (by decide +kernel), fun i _ q => absurd q (Nat.not_lt_zero _), hI (108, 33, -1) (by decide +kernel), fun q hq => hI q (List.mem_filter.mp hq).1⟩
    have c : k = 0 ∨ k = 1 ∨ k = 2 ∨ k = 3 ∨ k = 4 ∨ k = 5 ∨ k = 6 ∨ k = 7 := by omega
    rcases c with rfl | rfl | rfl | rfl | rfl | rfl | rfl | rfl
    · exact hI (108, 0, 0) (by decide +kernel)
    · exact hI (108, 1, 20) (by decide +kernel)
    · exact hI (108, 2, 100) (by decide +kernel)
    · exact hI (108, 3, 0) (by decide +kernel)
    · exact hI (108, 4, -1) (by decide +kernel)
    · exact hI (108, 5, 0) (by decide +kernel)
    · exact hI (108, 6, 31) (by decide +kernel)
    · exact hI (108, 7, 1) (by decide +kernel)
theorem zmain {L : Nat} {xs : Nat → Int32} (hL : L ≤ 3072) {μ : ZMem} (h : zok μ = true) : ∃ z, fL_b18 L xs 131 FU 0 108 0 μ = some z := by
  exact zlaw hL FU 0 μ (s0 μ) (Nat.zero_le _) (by show L < 6 * 2000 + 0; omega) (Inv_0 h)
