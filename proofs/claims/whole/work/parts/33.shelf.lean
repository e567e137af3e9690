-- SHELVES
def uS (S : St) (s : Nat) (h : Sh) : St := pS S (fun j => if j = s then h else gS S j)
theorem InvC_S {μ μ' : ZMem} {S : St} {s : Nat} {h : Sh} (hw : WfS S) (hs : s < 8) (hI : InvC μ S) (e : ∀ a k, a < 36 ∨ (105 ≤ a ∧ a < 108) → a ≠ 2 + 2 * s → μ'.1 a k = μ.1 a k) (e2 : ∀ a k, a < 18 → a ≠ 3 + 2 * s → μ'.2.1 a k = μ.2.1 a k) (hh : SHC μ' s h) : InvC μ' (uS S s h) := by
  obtain ⟨h1, h2, h3, h4, h5, h6, h7, h8⟩ := hI
  refine ⟨VH_f h1 hw.1.1 (fun a k q1 q2 => e _ _ (by omega) (by omega)), ?_, fun τ q => VH_f (h3 τ q) (hw.2.1 τ q).1 (fun a k q1 q2 => e _ _ (by omega) (by omega)), ?_, fun k q => ?_, fun j q => ?_, ?_, fun i q1 q2 => ?_⟩
  · rw [e _ _ (by omega) (by omega)]; exact h2
  · rw [e _ _ (by omega) (by omega)]; exact h4
  · rw [e _ _ (by omega) (by omega)]; exact h5 k q
  · show SHC μ' j (if j = s then h else gS S j)
    by_cases hj : j = s
    · rw [if_pos hj, hj]; exact hh
    · rw [if_neg hj]
      exact SHC_f (h6 j q) (fun k => e _ _ (by omega) (by omega)) (fun k => e2 _ _ (by omega) (by omega))
  · rw [e _ _ (by omega) (by omega)]; exact h7
  · rw [e _ _ (by omega) (by omega)]; exact h8 i q1 q2
theorem InvM_S {μ μ' : ZMem} {S : St} {s : Nat} {h : Sh} (hw : WfS S) (hI : InvM μ S) (e : ∀ a k, a = 108 ∨ (109 ≤ a ∧ a < 115) ∨ (115 ≤ a ∧ a < 119 ∧ k ≠ s) ∨ (121 ≤ a ∧ a ≤ 123) ∨ a = 126 ∨ a = 130 → μ'.1 a k = μ.1 a k) (e2 : ∀ k, k < 160 * s ∨ 160 * s + 160 ≤ k → μ'.2.1 119 k = μ.2.1 119 k) (hh : SHM μ' s h) : InvM μ' (uS S s h) := by
  obtain ⟨h1, h2, h3, h4, h5, h6, h7, h8, h9, h10⟩ := hI
  refine ⟨MH_f h1 (fun a k q1 => e _ _ (by omega)), ?_, fun τ q => KH_f (h3 τ q) (fun k => e _ _ (by omega)), ?_, fun k q => ?_, fun j q => ?_, ?_, fun i q1 q2 => ?_, ?_, CST_f h10 (fun a k q1 q2 => e _ _ (by omega))⟩
  · rw [e _ _ (by omega)]; exact h2
  · rw [e _ _ (by omega)]; exact h4
  · rw [e _ _ (by omega)]; exact h5 k q
  · show SHM μ' j (if j = s then h else gS S j)
    by_cases hj : j = s
    · rw [if_pos hj, hj]; exact hh
    · rw [if_neg hj]
      exact SHM_f (h6 j q) (fun q1 => ((hw.2.2.1 j q).2.1 q1).2) (fun a q1 q2 => e _ _ (by omega)) (fun k _ _ => e2 _ (by omega))
  · rw [e _ _ (by omega)]; exact h7
  · rw [e _ _ (by omega)]; exact h8 i q1 q2
  · rw [e _ _ (by omega)]; exact h9
theorem WfS_S {S : St} {s : Nat} {h : Sh} (hw : WfS S) (hh : SHw (sN (gV S)) h) : WfS (uS S s h) := by
  refine ⟨hw.1, hw.2.1, fun j q => ?_, hw.2.2.2⟩
  show SHw (sN (gV S)) (if j = s then h else gS S j)
  split
  · exact hh
  · exact hw.2.2.1 j q
theorem mr15 {μ : ZMem} (hR : HR μ) : zRc 131 100 μ 108 15 = some 115 := mr_ _ _ (by decide +kernel) (by decide) hR
theorem mr16 {μ : ZMem} (hR : HR μ) : zRc 131 100 μ 108 16 = some 116 := mr_ _ _ (by decide +kernel) (by decide) hR
theorem mr17 {μ : ZMem} (hR : HR μ) : zRc 131 100 μ 108 17 = some 117 := mr_ _ _ (by decide +kernel) (by decide) hR
theorem mr18 {μ : ZMem} (hR : HR μ) : zRc 131 100 μ 108 18 = some 118 := mr_ _ _ (by decide +kernel) (by decide) hR
theorem mr19 {μ : ZMem} (hR : HR μ) : zRc 131 101 μ 108 19 = some 119 := zRc_of (hR (108, 19, 119) (by decide +kernel)) (by decide)
theorem mr20 {μ : ZMem} (hR : HR μ) : zRc 131 101 μ 108 20 = some 120 := zRc_of (hR (108, 20, 120) (by decide +kernel)) (by decide)
theorem i15 {s : Nat} (hs : s < 8) : inb (nI s) 115 = true := inb8 hs (by decide)
theorem i16 {s : Nat} (hs : s < 8) : inb (nI s) 116 = true := inb8 hs (by decide)
theorem i17 {s : Nat} (hs : s < 8) : inb (nI s) 117 = true := inb8 hs (by decide)
theorem i18 {s : Nat} (hs : s < 8) : inb (nI s) 118 = true := inb8 hs (by decide)
theorem i19 {s i : Nat} (hs : s < 8) (hi : i < 160) : inb ((160 : Int32) * nI s + nI i) 119 = true := by
  rw [show (160 : Int32) * nI s = nI (160 * s) from pk_mul 160 s, nI_add]
  exact inb_nI (by rw [show zsz 119 = 1280 by decide]; omega)
theorem x19 {s i : Nat} (hs : s < 8) (hi : i < 160) : ((160 : Int32) * nI s + nI i).toNatClampNeg = 160 * s + i := by
  rw [show (160 : Int32) * nI s = nI (160 * s) from pk_mul 160 s, nI_add, nI_clamp (by omega)]
-- what a shelf holds
theorem cW {μ : ZMem} {S : St} (h : InvC μ S) {s : Nat} (hs : s < 8) : zI μ (2 + 2 * s) 0 = nI (hW (gS S s)) := (h.2.2.2.2.2.1 s hs).1
theorem mW {μ : ZMem} {S : St} (h : InvM μ S) {s : Nat} (hs : s < 8) : zI μ 115 (nI s).toNatClampNeg = nI (hW (gS S s)) := by
  rw [nI_clamp (by omega)]
  exact (h.2.2.2.2.2.1 s hs).1
theorem isRow_y {μ : ZMem} {S : St} (h : InvC μ S) {s : Nat} (hs : s < 8) (e : hW (gS S s) = 1) : fX3_isRow 131 (2 + 2 * s) μ = some (μ, 1) := by
  unfold fX3_isRow fX3_isRow_b13
  rw [chk_t (shc hs), cW h hs, e, if_pos (show nI 1 = (1 : Int32) from rfl), chk_t b01_1]
theorem isRow_n {μ : ZMem} {S : St} (hw : WfS S) (h : InvC μ S) {s : Nat} (hs : s < 8) (e : ¬ hW (gS S s) = 1) : fX3_isRow 131 (2 + 2 * s) μ = some (μ, 0) := by
  have := (hw.2.2.1 s hs).1
  unfold fX3_isRow fX3_isRow_b13
  rw [chk_t (shc hs), cW h hs, if_neg (show ¬ nI (hW (gS S s)) = (1 : Int32) from fun q => e ((nI_eq (b := 1) (by omega) (by omega)).mp q)), chk_t b01_0]
theorem isPer_y {μ : ZMem} {S : St} (h : InvC μ S) {s : Nat} (hs : s < 8) (e : hW (gS S s) = 2) : fX3_isPerson 131 (2 + 2 * s) μ = some (μ, 1) := by
  unfold fX3_isPerson fX3_isPerson_b13
  rw [chk_t (shc hs), cW h hs, e, if_pos (show nI 2 = (2 : Int32) from rfl), chk_t b01_1]
theorem isPer_n {μ : ZMem} {S : St} (hw : WfS S) (h : InvC μ S) {s : Nat} (hs : s < 8) (e : ¬ hW (gS S s) = 2) : fX3_isPerson 131 (2 + 2 * s) μ = some (μ, 0) := by
  have := (hw.2.2.1 s hs).1
  unfold fX3_isPerson fX3_isPerson_b13
  rw [chk_t (shc hs), cW h hs, if_neg (show ¬ nI (hW (gS S s)) = (2 : Int32) from fun q => e ((nI_eq (b := 2) (by omega) (by omega)).mp q)), chk_t b01_0]
/-- the refusal that a shelf has for those who want a row: 0 none -/
def rr (h : Sh) : Nat := if hW h = 2 then 2 else if hW h = 1 then 0 else 3
theorem rowRef_z {μ : ZMem} {v : Int32} (hv : NoS v) : fX6_rowRefusal 131 0 v μ = some (μ, -nI 1) := by
  unfold fX6_rowRefusal
  rw [chk_t c_c, isShelf_z hv, bd2_s, if_pos rfl]; rfl
theorem rowRef {μ : ZMem} {S : St} (hR : HR μ) (hw : WfS S) (h : InvC μ S) {s : Nat} (hs : s < 8) : fX6_rowRefusal 131 0 (nI s) μ = some (μ, -nI (rr (gS S s))) := by
  unfold fX6_rowRefusal fX6_rowRefusal_b42 rr
  rw [chk_t c_c, isShelf_i hs, bd2_s, if_neg one_ne, cr0 hR, bd1_s, chk_t (shi hs), shr hR hs, bd1_s]
  by_cases h2 : hW (gS S s) = 2
  · rw [isPer_y h hs h2, bd2_s, if_neg one_ne, if_pos h2]; rfl
  · rw [isPer_n hw h hs h2, bd2_s, if_pos rfl, if_neg h2, cr0 hR, bd1_s, chk_t (shi hs), shr hR hs, bd1_s]
    by_cases h1 : hW (gS S s) = 1
    · rw [isRow_y h hs h1, bd2_s, if_neg one_ne, if_pos h1]; rfl
    · rw [isRow_n hw h hs h1, bd2_s, if_pos rfl, if_neg h1]; rfl
theorem wanted_z {μ : ZMem} {v : Int32} (hv : NoS v) : fX7_wanted 131 108 v μ = some (μ, -nI 1) := by
  unfold fX7_wanted fX7_wanted_b42
  rw [chk_t m_c, mShelf_z hv, bd2_s, if_pos rfl]; rfl
theorem mW2 {μ : ZMem} {S : St} (hw : WfS S) (h : InvM μ S) {s : Nat} (hs : s < 8) (b : Nat) (hb : b < 10) : zI μ 115 (nI s).toNatClampNeg = nI b ↔ hW (gS S s) = b := by
  have := (hw.2.2.1 s hs).1
  rw [mW h hs]
  exact nI_eq (by omega) (by omega)
theorem wanted_m {μ : ZMem} {S : St} (hR : HR μ) (hw : WfS S) (h : InvM μ S) {s : Nat} (hs : s < 8) : fX7_wanted 131 108 (nI s) μ = some (μ, -nI (rr (gS S s))) := by
  have hq := (hw.2.2.1 s hs).1
  have e2 := mW2 hw h hs 2 (by omega)
  have e0 := mW2 hw h hs 0 (by omega)
  unfold fX7_wanted fX7_wanted_b42 rr
  rw [chk_t m_c, mShelf_i hs, bd2_s, if_neg one_ne, mr15 hR, bd1_s, chk_t (i15 hs)]
  by_cases h2 : hW (gS S s) = 2
  · rw [if_pos (show _ = (2 : Int32) from e2.mpr h2), if_pos h2]; rfl
  · rw [if_neg (show ¬ _ = (2 : Int32) from fun q => h2 (e2.mp q)), if_neg h2, bd1_s, chk_t (i15 hs)]
    by_cases h1 : hW (gS S s) = 1
    · rw [if_neg (show ¬ _ = (0 : Int32) from fun q => by have := e0.mp q; omega), if_pos h1]; rfl
    · rw [if_pos (show _ = (0 : Int32) from e0.mpr (by omega)), if_neg h1]; rfl
/-- no element of it -/
def NoE (h : Sh) (v : Int32) : Prop := v < 0 ∨ ∃ k, k < 2 ^ 31 ∧ hZ h ≤ k ∧ v = nI k
theorem el_or (h : Sh) (v : Int32) : NoE h v ∨ ∃ i, i < hZ h ∧ v = nI i := by
  rcases nat_or v with q | ⟨k, hk, rfl⟩
  · exact Or.inl (Or.inl q)
  · by_cases h8 : k < hZ h
    · exact Or.inr ⟨k, h8, rfl⟩
    · exact Or.inl (Or.inr ⟨k, hk, by omega, rfl⟩)
theorem hasEl_n {μ : ZMem} {S : St} (hw : WfS S) (h : InvC μ S) {s : Nat} (hs : s < 8) (e : ¬ hW (gS S s) = 1) (v : Int32) : fX3_hasElement 131 (2 + 2 * s) v μ = some (μ, 0) := by
  unfold fX3_hasElement fX3_hasElement_b32 fX3_hasElement_b33
  rw [chk_t (shc hs), isRow_n hw h hs e, bd2_s, if_pos rfl, chk_t b01_0]
theorem cZ {μ : ZMem} {S : St} (h : InvC μ S) {s : Nat} (hs : s < 8) (e : hW (gS S s) = 1) : zI μ (2 + 2 * s) 2 = nI (hZ (gS S s)) := ((h.2.2.2.2.2.1 s hs).2.1 e).2.1
theorem mZ {μ : ZMem} {S : St} (h : InvM μ S) {s : Nat} (hs : s < 8) (e : hW (gS S s) = 1) : zI μ 117 (nI s).toNatClampNeg = nI (hZ (gS S s)) := by
  rw [nI_clamp (by omega)]
  exact ((h.2.2.2.2.2.1 s hs).2.1 e).2.1
theorem cO {μ : ZMem} {S : St} (h : InvC μ S) {s : Nat} (hs : s < 8) (e : hW (gS S s) = 1) : zI μ (2 + 2 * s) 1 = nI (hO (gS S s)) := ((h.2.2.2.2.2.1 s hs).2.1 e).1
theorem mO {μ : ZMem} {S : St} (h : InvM μ S) {s : Nat} (hs : s < 8) (e : hW (gS S s) = 1) : zI μ 116 (nI s).toNatClampNeg = nI (hO (gS S s)) := by
  rw [nI_clamp (by omega)]
  exact ((h.2.2.2.2.2.1 s hs).2.1 e).1
theorem hasEl_z {μ : ZMem} {S : St} (hw : WfS S) (h : InvC μ S) {s : Nat} (hs : s < 8) (e : hW (gS S s) = 1) {v : Int32} (hv : NoE (gS S s) v) : fX3_hasElement 131 (2 + 2 * s) v μ = some (μ, 0) := by
  have hz := ((hw.2.2.1 s hs).2.1 e).2
  unfold fX3_hasElement fX3_hasElement_b32 fX3_hasElement_b33
  rw [chk_t (shc hs), isRow_y h hs e, bd2_s, if_neg one_ne, cZ h hs e, chk_t b01_0]
  rcases hv with hv | ⟨k, hk, h8, rfl⟩
  · rw [if_pos hv]
  · rw [if_neg (nI_pos hk), if_pos ((nI_leI (by omega) hk).mpr h8)]
theorem hasEl_i {μ : ZMem} {S : St} (hR : HR μ) (hw : WfS S) (h : InvC μ S) {s : Nat} (hs : s < 8) (e : hW (gS S s) = 1) {i : Nat} (hi : i < hZ (gS S s)) : fX3_hasElement 131 (2 + 2 * s) (nI i) μ = some (μ, 1) := by
  have hz := ((hw.2.2.1 s hs).2.1 e).2
  have hz2 : zsz (3 + 2 * s) = 160 := (SHa s hs).2.2.2.2.1
  unfold fX3_hasElement fX3_hasElement_b32 fX3_hasElement_b33
  rw [chk_t (shc hs), isRow_y h hs e, bd2_s, if_neg one_ne, cZ h hs e, chk_t b01_0, if_neg (nI_pos (by omega)), if_neg (fun q => by have := (nI_leI (by omega) (by omega)).mp q; omega), she hR hs, bd1_s, hz2, if_neg (show ¬ Int32.ofNat 160 ≤ nI i from fun q => by have := (nI_leI (a := 160) (by omega) (by omega)).mp q; omega), chk_t b01_1]
theorem inE {s i : Nat} (hs : s < 8) (hi : i < 160) : inb (nI i) (3 + 2 * s) = true := inb_nI (by rw [(SHa s hs).2.2.2.2.1]; exact hi)
theorem longAt_i {μ : ZMem} {S : St} (hR : HR μ) (hw : WfS S) (h : InvC μ S) {s : Nat} (hs : s < 8) (e : hW (gS S s) = 1) {i : Nat} (hi : i < hZ (gS S s)) : fX3_longAt 131 (2 + 2 * s) (nI i) μ = some (μ, hE (gS S s) i) := by
  have hz := ((hw.2.2.1 s hs).2.1 e).2
  unfold fX3_longAt fX3_longAt_b18
  rw [chk_t (shc hs), hasEl_i hR hw h hs e hi, bd2_s, if_neg one_ne, she hR hs, bd1_s, chk_t (inE hs (by omega)), nI_clamp (by omega), ← ((h.2.2.2.2.2.1 s hs).2.1 e).2.2 i hi]
  rfl
theorem intAt_i {μ : ZMem} {S : St} (hR : HR μ) (hw : WfS S) (h : InvC μ S) {s : Nat} (hs : s < 8) (e : hW (gS S s) = 1) {i : Nat} (hi : i < hZ (gS S s)) : fX3_intAt 131 (2 + 2 * s) (nI i) μ = some (μ, (hE (gS S s) i).toInt32) := by
  unfold fX3_intAt
  rw [chk_t (shc hs), longAt_i hR hw h hs e hi, bd2_s]
theorem mE {μ : ZMem} {S : St} (hw : WfS S) (h : InvM μ S) {s : Nat} (hs : s < 8) (e : hW (gS S s) = 1) {i : Nat} (hi : i < hZ (gS S s)) : zL μ 119 ((160 : Int32) * nI s + nI i).toNatClampNeg = hE (gS S s) i := by
  have hz := ((hw.2.2.1 s hs).2.1 e).2
  rw [x19 hs (by omega)]
  exact ((h.2.2.2.2.2.1 s hs).2.1 e).2.2 i hi
theorem intAt_m {μ : ZMem} {S : St} (hR : HR μ) (hw : WfS S) (h : InvM μ S) {s : Nat} (hs : s < 8) (e : hW (gS S s) = 1) {i : Nat} (hi : i < hZ (gS S s)) : fX7_intAt 131 108 (nI s) (nI i) μ = some (μ, (hE (gS S s) i).toInt32) := by
  have hz := ((hw.2.2.1 s hs).2.1 e).2
  unfold fX7_intAt
  rw [chk_t m_c, mr19 hR, bd1_s, chk_t (i19 hs (by omega)), mE hw h hs e hi]
/-- the element of a shelf; both answer the same -/
theorem K_element {S : St} (hw : WfS S) (v u : Int32) : ∃ x : Int64, (∀ μ, HR μ → InvC μ S → fX6_element 131 0 v u μ = some (μ, x)) ∧ ∀ μ, HR μ → InvM μ S → fX7_element 131 108 v u μ = some (μ, x) := by
  rcases shelf_or v with hv | ⟨s, hs, rfl⟩
  · refine ⟨0, fun μ hR h => ?_, fun μ hR h => ?_⟩
    · unfold fX6_element fX6_element_b21
      rw [chk_t c_c, isShelf_z hv, bd2_s, if_pos rfl]
    · unfold fX7_element fX7_element_b47 fX7_element_b48
      rw [chk_t m_c, mShelf_z hv, bd2_s, if_pos rfl]
  · by_cases h1 : hW (gS S s) = 1
    · have hz := ((hw.2.2.1 s hs).2.1 h1).2
      rcases el_or (gS S s) u with hu | ⟨i, hi, rfl⟩
      · refine ⟨0, fun μ hR h => ?_, fun μ hR h => ?_⟩
        · unfold fX6_element fX6_element_b21 fX3_longAt fX3_longAt_b18
          rw [chk_t c_c, isShelf_i hs, bd2_s, if_neg one_ne, cr0 hR, bd1_s, chk_t (shi hs), shr hR hs, bd1_s, chk_t (shc hs), hasEl_z hw h hs h1 hu, bd2_s, if_pos rfl, bd2_s]
        · have e1 := mW2 hw h hs 1 (by omega)
          unfold fX7_element fX7_element_b47 fX7_element_b48
          rw [chk_t m_c, mShelf_i hs, bd2_s, if_neg one_ne, mr15 hR, bd1_s, chk_t (i15 hs), if_pos (show _ = (1 : Int32) from e1.mpr h1)]
          rcases hu with hu | ⟨k, hk, h8, rfl⟩
          · rw [if_pos hu]
          · rw [if_neg (nI_pos hk), mr17 hR, bd1_s, chk_t (i17 hs), mZ h hs h1, if_pos ((nI_leI (by omega) hk).mpr h8)]
      · refine ⟨hE (gS S s) i, fun μ hR h => ?_, fun μ hR h => ?_⟩
        · unfold fX6_element fX6_element_b21
          rw [chk_t c_c, isShelf_i hs, bd2_s, if_neg one_ne, cr0 hR, bd1_s, chk_t (shi hs), shr hR hs, bd1_s, longAt_i hR hw h hs h1 hi, bd2_s]
        · have e1 := mW2 hw h hs 1 (by omega)
          unfold fX7_element fX7_element_b47 fX7_element_b48
          rw [chk_t m_c, mShelf_i hs, bd2_s, if_neg one_ne, mr15 hR, bd1_s, chk_t (i15 hs), if_pos (show _ = (1 : Int32) from e1.mpr h1), if_neg (nI_pos (by omega)), mr17 hR, bd1_s, chk_t (i17 hs), mZ h hs h1, if_neg (fun q => by have := (nI_leI (by omega) (by omega)).mp q; omega), mr19 hR, bd1_s, chk_t (i19 hs (by omega)), mE hw h hs h1 hi]
    · refine ⟨0, fun μ hR h => ?_, fun μ hR h => ?_⟩
      · unfold fX6_element fX6_element_b21 fX3_longAt fX3_longAt_b18
        rw [chk_t c_c, isShelf_i hs, bd2_s, if_neg one_ne, cr0 hR, bd1_s, chk_t (shi hs), shr hR hs, bd1_s, chk_t (shc hs), hasEl_n hw h hs h1, bd2_s, if_pos rfl, bd2_s]
      · have e1 := mW2 hw h hs 1 (by omega)
        unfold fX7_element fX7_element_b47 fX7_element_b48
        rw [chk_t m_c, mShelf_i hs, bd2_s, if_neg one_ne, mr15 hR, bd1_s, chk_t (i15 hs), if_neg (show ¬ _ = (1 : Int32) from fun q => h1 (e1.mp q))]
