-- WHAT THE CALLS STAND ON: numbers, refusals, who may be
theorem nat_or (v : Int32) : v < 0 ∨ ∃ k, k < 2 ^ 31 ∧ v = nI k := by
  by_cases h : v < 0
  · exact Or.inl h
  · refine Or.inr ⟨v.toInt.toNat, ?_, ?_⟩
    · have := Int32.toInt_lt v
      omega
    · have h2 : (0 : Int32).toInt ≤ v.toInt := (fa_le _ _).mp (fa_of_nlt h)
      have h3 : (0 : Int32).toInt = 0 := by decide
      have := Int32.toInt_lt v
      rw [fa_eq, nI_toInt (by omega)]
      omega
theorem b01_0 : b01 0 = true := by decide
theorem b01_1 : b01 1 = true := by decide
theorem one_ne : ¬ (1 : Int32) = 0 := by decide
theorem z_lt {v : Int32} (h : v < 0) {k : Nat} (hk : k < 2 ^ 31) : ¬ nI k ≤ v := by
  intro q
  rw [fa_le, nI_toInt hk] at q
  rw [fa_lt] at h
  have h3 : (0 : Int32).toInt = 0 := by decide
  omega
theorem isIn_z {v lo hi : Int32} (h : ¬ (lo ≤ v ∧ v ≤ hi)) (μ : ZMem) : fX6_isIn 131 v lo hi μ = some (μ, 0) := by rw [isIn_f, if_neg h]
theorem isIn_o {v lo hi : Int32} (h : lo ≤ v ∧ v ≤ hi) (μ : ZMem) : fX6_isIn 131 v lo hi μ = some (μ, 1) := by rw [isIn_f, if_pos h]
theorem isIn_n {v hi : Int32} {lo : Nat} (h : v < 0) (hl : lo < 2 ^ 31) (μ : ZMem) : fX6_isIn 131 v (nI lo) hi μ = some (μ, 0) := isIn_z (fun q => z_lt h hl q.1) μ
theorem isIn_k {k lo hi : Nat} (hk : k < 2 ^ 31) (hl : lo < 2 ^ 31) (hh : hi < 2 ^ 31) (μ : ZMem) : fX6_isIn 131 (nI k) (nI lo) (nI hi) μ = some (μ, if lo ≤ k ∧ k ≤ hi then 1 else 0) := by
  rw [isIn_f]
  by_cases h : lo ≤ k ∧ k ≤ hi
  · rw [if_pos h, if_pos ⟨(nI_leI hl hk).mpr h.1, (nI_leI hk hh).mpr h.2⟩]
  · rw [if_neg h, if_neg (fun q => h ⟨(nI_leI hl hk).mp q.1, (nI_leI hk hh).mp q.2⟩)]
theorem isF_o {v lo hi : Int32} (h : lo ≤ v ∧ v ≤ hi) (μ : ZMem) : fX7_isFrom 131 108 v lo hi μ = some (μ, 1) := by
  unfold fX7_isFrom
  rw [chk_t m_c, if_neg (fun q => (fa_of_lt q).2.1 h.1), if_neg (fun q => (fa_of_lt q).2.1 h.2)]
  rfl
theorem isF_z {v lo hi : Int32} (h : ¬ (lo ≤ v ∧ v ≤ hi)) (μ : ZMem) : fX7_isFrom 131 108 v lo hi μ = some (μ, 0) := by
  unfold fX7_isFrom
  rw [chk_t m_c]
  by_cases h1 : v < lo
  · rw [if_pos h1]; rfl
  · rw [if_neg h1]
    by_cases h2 : hi < v
    · rw [if_pos h2]; rfl
    · exact absurd ⟨fa_of_nlt h1, fa_of_nlt h2⟩ h
theorem isF_n {v hi : Int32} {lo : Nat} (h : v < 0) (hl : lo < 2 ^ 31) (μ : ZMem) : fX7_isFrom 131 108 v (nI lo) hi μ = some (μ, 0) := isF_z (fun q => z_lt h hl q.1) μ
theorem isF_k {k lo hi : Nat} (hk : k < 2 ^ 31) (hl : lo < 2 ^ 31) (hh : hi < 2 ^ 31) (μ : ZMem) : fX7_isFrom 131 108 (nI k) (nI lo) (nI hi) μ = some (μ, if lo ≤ k ∧ k ≤ hi then 1 else 0) := by
  by_cases h : lo ≤ k ∧ k ≤ hi
  · rw [if_pos h, isF_o ⟨(nI_leI hl hk).mpr h.1, (nI_leI hk hh).mpr h.2⟩]
  · rw [if_neg h, isF_z (fun q => h ⟨(nI_leI hl hk).mp q.1, (nI_leI hk hh).mp q.2⟩)]
theorem c_c : isC 131 6 0 = true := by decide
theorem cr_ (k x c : Nat) (hm : (0, k, x) ∈ zRFt) (hc : isC 131 c x = true) {μ : ZMem} (hR : HR μ) : zRc 131 c μ 0 k = some x := zRc_of (hR _ hm) hc
theorem cr0 {μ : ZMem} (hR : HR μ) : zRc 131 104 μ 0 0 = some 1 := cr_ _ _ _ (by decide +kernel) (by decide) hR
theorem cr1 {μ : ZMem} (hR : HR μ) : zRc 131 4 μ 0 1 = some 18 := cr_ _ _ _ (by decide +kernel) (by decide) hR
theorem cr2 {μ : ZMem} (hR : HR μ) : zRc 131 4 μ 0 2 = some 27 := cr_ _ _ _ (by decide +kernel) (by decide) hR
theorem cr3 {μ : ZMem} (hR : HR μ) : zRc 131 4 μ 0 3 = some 36 := cr_ _ _ _ (by decide +kernel) (by decide) hR
theorem cr4 {μ : ZMem} (hR : HR μ) : zRc 131 2 μ 0 4 = some 45 := cr_ _ _ _ (by decide +kernel) (by decide) hR
theorem cr5 {μ : ZMem} (hR : HR μ) : zRc 131 5 μ 0 5 = some 94 := cr_ _ _ _ (by decide +kernel) (by decide) hR
theorem cr6 {μ : ZMem} (hR : HR μ) : zRc 131 0 μ 0 6 = some 105 := cr_ _ _ _ (by decide +kernel) (by decide) hR
theorem cr7 {μ : ZMem} (hR : HR μ) : zRc 131 100 μ 0 7 = some 107 := cr_ _ _ _ (by decide +kernel) (by decide) hR
theorem SHa : ∀ s, s < 8 → isC 131 3 (2 + 2 * s) = true ∧ isC 131 101 (3 + 2 * s) = true ∧ (1, s, 2 + 2 * s) ∈ zRFt ∧ (2 + 2 * s, 4, 3 + 2 * s) ∈ zRFt ∧ zsz (3 + 2 * s) = 160 ∧ inb (nI s) 1 = true := by decide +kernel
theorem shr {μ : ZMem} (hR : HR μ) {s : Nat} (hs : s < 8) : zRc 131 3 μ 1 (nI s).toNatClampNeg = some (2 + 2 * s) := by
  rw [nI_clamp (by omega)]
  exact zRc_of (hR _ (SHa s hs).2.2.1) (SHa s hs).1
theorem she {μ : ZMem} (hR : HR μ) {s : Nat} (hs : s < 8) : zRc 131 101 μ (2 + 2 * s) 4 = some (3 + 2 * s) := zRc_of (hR _ (SHa s hs).2.2.2.1) (SHa s hs).2.1
theorem shc {s : Nat} (hs : s < 8) : isC 131 3 (2 + 2 * s) = true := (SHa s hs).1
theorem shi {s : Nat} (hs : s < 8) : inb (nI s) 1 = true := (SHa s hs).2.2.2.2.2
theorem nn (k : Nat) : - - nI k = nI k := Int32.neg_neg
theorem inb8 {k a : Nat} (hk : k < 8) (ha : zsz a = 8) : inb (nI k) a = true := inb_nI (by rw [ha]; exact hk)
theorem refuse_e {μ : ZMem} (hR : HR μ) {k : Nat} (h1 : 1 ≤ k) (h7 : k ≤ 7) : fX6_refuse 131 0 (-nI k) μ = some (zpI μ 107 k (μ.1 107 k + 1), -nI k) := by
  unfold fX6_refuse fX6_refuse_b22
  have hi : inb (nI k) 107 = true := inb8 (by omega) (by decide)
  have e : fX6_isIn 131 (nI k) 1 7 μ = some (μ, 1) := by
    have := isIn_k (k := k) (lo := 1) (hi := 7) (by omega) (by omega) (by omega) μ
    rw [if_pos ⟨h1, h7⟩] at this
    exact this
  rw [chk_t c_c, nn, e, bd2_s, if_neg one_ne, cr7 hR, bd1_s, chk_t hi, chk_t hi, lt_e, nI_clamp (by omega)]
  rfl
theorem no_e {μ : ZMem} (hR : HR μ) {k : Nat} (h7 : k ≤ 7) : fX7_no 131 108 (-nI k) μ = some (zpI μ 109 k (μ.1 109 k + 1), -nI k) := by
  unfold fX7_no
  have hi : inb (nI k) 109 = true := inb8 (by omega) (by decide)
  rw [chk_t m_c, nn, mr9 hR, bd1_s, chk_t hi, chk_t hi, lt_e, nI_clamp (by omega)]
  rfl
theorem noTen_e {μ : ZMem} (hR : HR μ) {k : Nat} (h7 : k ≤ 7) : fX7_noTen 131 108 (-nI k) μ = some (zpI μ 109 k (μ.1 109 k + 1), -nI k - 10) := by
  unfold fX7_noTen
  have hi : inb (nI k) 109 = true := inb8 (by omega) (by decide)
  rw [chk_t m_c, nn, mr9 hR, bd1_s, chk_t hi, chk_t hi, lt_e, nI_clamp (by omega)]
  rfl
theorem refuseFar_e {μ : ZMem} (hR : HR μ) {k : Nat} (h1 : 1 ≤ k) (h7 : k ≤ 7) : fX6_refuseFar 131 0 (-nI k) μ = some (zpI μ 107 k (μ.1 107 k + 1), -nI k - 10) := by
  unfold fX6_refuseFar
  rw [chk_t c_c, refuse_e hR h1 h7, bd2_s]
theorem InvC_no {μ : ZMem} {S : St} {k : Nat} (hw : WfS S) (h : InvC μ S) : InvC (zpI μ 107 k (μ.1 107 k + 1)) (sno S k) := by
  obtain ⟨h1, h2, h3, h4, h5, h6, h7, h8⟩ := h
  have e : ∀ a j, a ≠ 107 → (zpI μ 107 k (μ.1 107 k + 1)).1 a j = μ.1 a j := fun a j q => if_neg (fun r => q r.1)
  refine ⟨VH_f h1 hw.1.1 (fun a k q1 q2 => e _ _ (by omega)), ?_, fun τ q => VH_f (h3 τ q) (hw.2.1 τ q).1 (fun a k q1 q2 => e _ _ (by omega)), ?_, fun j q => ?_, fun s q => SHC_f (h6 s q) (fun k => e _ _ (by omega)) (fun k => rfl), ?_, fun i q1 q2 => ?_⟩
  · rw [e _ _ (by omega)]; exact h2
  · rw [e _ _ (by omega)]; exact h4
  · show (if 107 = 107 ∧ j = k then _ else μ.1 107 j) = if j = k then gR S j + 1 else gR S j
    by_cases hj : j = k
    · rw [if_pos ⟨rfl, hj⟩, if_pos hj, hj, h5 k (hj ▸ q)]
    · rw [if_neg (fun r => hj r.2), if_neg hj, h5 j q]
  · rw [e _ _ (by omega)]; exact h7
  · rw [e _ _ (by omega)]; exact h8 i q1 q2
theorem InvM_no {μ : ZMem} {S : St} {k : Nat} (hw : WfS S) (h : InvM μ S) : InvM (zpI μ 109 k (μ.1 109 k + 1)) (sno S k) := by
  obtain ⟨h1, h2, h3, h4, h5, h6, h7, h8, h9, h10⟩ := h
  have e : ∀ a j, a ≠ 109 → (zpI μ 109 k (μ.1 109 k + 1)).1 a j = μ.1 a j := fun a j q => if_neg (fun r => q r.1)
  refine ⟨MH_f h1 (fun a k q => e _ _ (by omega)), ?_, fun τ q => KH_f (h3 τ q) (fun k => e _ _ (by omega)), ?_, fun j q => ?_, fun s q => SHM_f (h6 s q) (fun q1 => ((hw.2.2.1 s q).2.1 q1).2) (fun a q1 q2 => e _ _ (by omega)) (fun k _ _ => rfl), ?_, fun i q1 q2 => ?_, ?_, CST_f h10 (fun a k q1 q2 => e _ _ (by omega))⟩
  · rw [e _ _ (by omega)]; exact h2
  · rw [e _ _ (by omega)]; exact h4
  · show (if 109 = 109 ∧ j = k then _ else μ.1 109 j) = if j = k then gR S j + 1 else gR S j
    by_cases hj : j = k
    · rw [if_pos ⟨rfl, hj⟩, if_pos hj, hj, h5 k (hj ▸ q)]
    · rw [if_neg (fun r => hj r.2), if_neg hj, h5 j q]
  · rw [e _ _ (by omega)]; exact h7
  · rw [e _ _ (by omega)]; exact h8 i q1 q2
  · rw [e _ _ (by omega)]; exact h9
theorem EqM_p {μ : ZMem} {a k : Nat} {x : Int32} (h : a < 108) : EqM μ (zpI μ a k x) := fun b j q => ⟨if_neg (by omega), rfl⟩
theorem EqC_p {μ : ZMem} {a k : Nat} {x : Int32} (h : 108 ≤ a) : EqC μ (zpI μ a k x) := fun b j q => ⟨if_neg (by omega), rfl⟩
theorem EqM_pL {μ : ZMem} {a k : Nat} {x : Int64} (h : a < 108) : EqM μ (zpL μ a k x) := fun b j q => ⟨rfl, if_neg (by omega)⟩
theorem EqC_pL {μ : ZMem} {a k : Nat} {x : Int64} (h : 108 ≤ a) : EqC μ (zpL μ a k x) := fun b j q => ⟨rfl, if_neg (by omega)⟩
theorem WfS_no {S : St} {k : Nat} (h : WfS S) : WfS (sno S k) := h
theorem bd2_e {α : Type} (x : Option (ZMem × α)) : bd2 x (fun a b => some (a, b)) = x := by
  cases x <;> rfl
theorem RC_no {μ : ZMem} {S : St} {k : Nat} (hR : HR μ) (hw : WfS S) (h : InvC μ S) (h1 : 1 ≤ k) (h7 : k ≤ 7) : RC μ (fX6_refuse 131 0 (-nI k) μ) (-nI k, sno S k) := ⟨_, refuse_e hR h1 h7, HR_of hR rfl, InvC_no hw h, EqM_p (by omega)⟩
theorem RC_far {μ : ZMem} {S : St} {k : Nat} (hR : HR μ) (hw : WfS S) (h : InvC μ S) (h1 : 1 ≤ k) (h7 : k ≤ 7) : RC μ (fX6_refuseFar 131 0 (-nI k) μ) (-nI k - 10, sno S k) := ⟨_, refuseFar_e hR h1 h7, HR_of hR rfl, InvC_no hw h, EqM_p (by omega)⟩
theorem RM_no {μ : ZMem} {S : St} {k : Nat} (hR : HR μ) (hw : WfS S) (h : InvM μ S) (h7 : k ≤ 7) : RM μ (fX7_no 131 108 (-nI k) μ) (-nI k, sno S k) := ⟨_, no_e hR h7, HR_of hR rfl, InvM_no hw h, EqC_p (by omega)⟩
theorem RM_ten {μ : ZMem} {S : St} {k : Nat} (hR : HR μ) (hw : WfS S) (h : InvM μ S) (h7 : k ≤ 7) : RM μ (fX7_noTen 131 108 (-nI k) μ) (-nI k - 10, sno S k) := ⟨_, noTen_e hR h7, HR_of hR rfl, InvM_no hw h, EqC_p (by omega)⟩
/-- both refuse -/
theorem Kp_no {S : St} {f g : ZMem → Option (ZMem × Int32)} (k : Nat) (h1 : 1 ≤ k) (h7 : k ≤ 7) (hw : WfS S) (hf : ∀ μ, HR μ → InvC μ S → f μ = fX6_refuse 131 0 (-nI k) μ) (hg : ∀ μ, HR μ → InvM μ S → g μ = fX7_no 131 108 (-nI k) μ) : Kp S f g := by
  refine ⟨(-nI k, sno S k), WfS_no hw, fun μ hR h => ?_, fun μ hR h => ?_⟩
  · rw [hf μ hR h]; exact RC_no hR hw h h1 h7
  · rw [hg μ hR h]; exact RM_no hR hw h h7
theorem Kp_far {S : St} {f g : ZMem → Option (ZMem × Int32)} (k : Nat) (h1 : 1 ≤ k) (h7 : k ≤ 7) (hw : WfS S) (hf : ∀ μ, HR μ → InvC μ S → f μ = fX6_refuseFar 131 0 (-nI k) μ) (hg : ∀ μ, HR μ → InvM μ S → g μ = fX7_noTen 131 108 (-nI k) μ) : Kp S f g := by
  refine ⟨(-nI k - 10, sno S k), WfS_no hw, fun μ hR h => ?_, fun μ hR h => ?_⟩
  · rw [hf μ hR h]; exact RC_far hR hw h h1 h7
  · rw [hg μ hR h]; exact RM_ten hR hw h h7
/-- both answer, and nothing is written that counts -/
theorem Kp_q {S : St} {f g : ZMem → Option (ZMem × Int32)} (x : Int32) (hw : WfS S) (hf : ∀ μ, HR μ → InvC μ S → f μ = some (μ, x)) (hg : ∀ μ, HR μ → InvM μ S → g μ = some (μ, x)) : Kp S f g := ⟨(x, S), hw, fun μ hR h => RC_q hR h (hf μ hR h), fun μ hR h => RM_q hR h (hg μ hR h)⟩
-- who may be
theorem isShelf_i {s : Nat} (hs : s < 8) (μ : ZMem) : fX6_isShelf 131 (nI s) μ = some (μ, 1) := by
  unfold fX6_isShelf
  have e : fX6_isIn 131 (nI s) 0 7 μ = some (μ, 1) := by
    have := isIn_k (k := s) (lo := 0) (hi := 7) (by omega) (by omega) (by omega) μ
    rw [if_pos ⟨by omega, by omega⟩] at this
    exact this
  rw [e, bd2_s, chk_t b01_1]
/-- no SHELF -/
def NoS (v : Int32) : Prop := v < 0 ∨ ∃ k, k < 2 ^ 31 ∧ 8 ≤ k ∧ v = nI k
theorem shelf_or (v : Int32) : NoS v ∨ ∃ s, s < 8 ∧ v = nI s := by
  rcases nat_or v with h | ⟨k, hk, rfl⟩
  · exact Or.inl (Or.inl h)
  · by_cases h8 : k < 8
    · exact Or.inr ⟨k, h8, rfl⟩
    · exact Or.inl (Or.inr ⟨k, hk, by omega, rfl⟩)
theorem isShelf_z {v : Int32} (h : NoS v) (μ : ZMem) : fX6_isShelf 131 v μ = some (μ, 0) := by
  unfold fX6_isShelf
  have e : fX6_isIn 131 v 0 7 μ = some (μ, 0) := by
    rcases h with h | ⟨k, hk, h8, rfl⟩
    · exact isIn_n (lo := 0) h (by omega) μ
    · have := isIn_k (k := k) (lo := 0) (hi := 7) hk (by omega) (by omega) μ
      rw [if_neg (by omega)] at this
      exact this
  rw [e, bd2_s, chk_t b01_0]
theorem mShelf_i {s : Nat} (hs : s < 8) (μ : ZMem) : fX7_isShelf 131 108 (nI s) μ = some (μ, 1) := by
  unfold fX7_isShelf
  rw [chk_t m_c, if_neg (nI_pos (by omega)), if_neg (fun q => by have := (nI_leI (a := 8) (by omega) (by omega)).mp q; omega)]
  rfl
theorem mShelf_z {v : Int32} (h : NoS v) (μ : ZMem) : fX7_isShelf 131 108 v μ = some (μ, 0) := by
  unfold fX7_isShelf
  rw [chk_t m_c]
  rcases h with h | ⟨k, hk, h8, rfl⟩
  · rw [if_pos h]; rfl
  · rw [if_neg (nI_pos hk), if_pos (show (8 : Int32) ≤ nI k from (nI_leI (a := 8) (by omega) hk).mpr h8)]; rfl
/-- nobody -/
def NoP (S : St) (v : Int32) : Prop := v < 0 ∨ ∃ k, k < 2 ^ 31 ∧ sN (gV S) ≤ k ∧ v = nI k
theorem one_or (S : St) (v : Int32) : NoP S v ∨ ∃ p, p < sN (gV S) ∧ v = nI p := by
  rcases nat_or v with h | ⟨k, hk, rfl⟩
  · exact Or.inl (Or.inl h)
  · by_cases h8 : k < sN (gV S)
    · exact Or.inr ⟨k, h8, rfl⟩
    · exact Or.inl (Or.inr ⟨k, hk, by omega, rfl⟩)
theorem isPerson_i {μ : ZMem} {S : St} {p : Nat} (hR : HR μ) (hw : WfS S) (h : InvC μ S) (hp : p < sN (gV S)) : fX6_isPerson 131 0 (nI p) μ = some (μ, 1) := by
  have hN := hw.1.1
  unfold fX6_isPerson
  have e1 : zI μ 18 1 = nI (sN (gV S)) := h.1.1 1 (by omega) (by omega)
  have e2 : nI (sN (gV S)) - 1 = nI (sN (gV S) - 1) := pk_sub (b := 1) (by omega)
  have e : fX6_isIn 131 (nI p) 0 (nI (sN (gV S) - 1)) μ = some (μ, 1) := by
    have := isIn_k (k := p) (lo := 0) (hi := sN (gV S) - 1) (by omega) (by omega) (by omega) μ
    rw [if_pos ⟨by omega, by omega⟩] at this
    exact this
  rw [chk_t c_c, cr1 hR, bd1_s, e1, e2, e, bd2_s, chk_t b01_1]
theorem isPerson_z {μ : ZMem} {S : St} {v : Int32} (hR : HR μ) (hw : WfS S) (h : InvC μ S) (hv : NoP S v) : fX6_isPerson 131 0 v μ = some (μ, 0) := by
  have hN := hw.1.1
  unfold fX6_isPerson
  have e1 : zI μ 18 1 = nI (sN (gV S)) := h.1.1 1 (by omega) (by omega)
  have e : fX6_isIn 131 v 0 (nI (sN (gV S)) - 1) μ = some (μ, 0) := by
    rcases hv with hv | ⟨k, hk, h8, rfl⟩
    · exact isIn_n (lo := 0) hv (by omega) μ
    · refine isIn_z (fun q => ?_) μ
      have q2 := q.2
      rw [fa_le, nI_toInt hk] at q2
      by_cases h0 : sN (gV S) = 0
      · rw [h0] at q2
        have : (nI 0 - 1).toInt = -1 := by decide
        omega
      · rw [show nI (sN (gV S)) - 1 = nI (sN (gV S) - 1) from pk_sub (b := 1) (by omega), nI_toInt (by omega)] at q2
        omega
  rw [chk_t c_c, cr1 hR, bd1_s, e1, e, bd2_s, chk_t b01_0]
theorem isOne_i {μ : ZMem} {S : St} {p : Nat} (hw : WfS S) (h : InvM μ S) (hp : p < sN (gV S)) : fX7_isOne 131 108 (nI p) μ = some (μ, 1) := by
  have hN := hw.1.1
  have e1 : zI μ 108 0 = nI (sN (gV S)) := h.1.1 0 (by omega)
  unfold fX7_isOne
  rw [chk_t m_c, if_neg (nI_pos (by omega)), e1, if_neg (fun q => by have := (nI_leI (by omega) (by omega)).mp q; omega)]
  rfl
theorem isOne_z {μ : ZMem} {S : St} {v : Int32} (hw : WfS S) (h : InvM μ S) (hv : NoP S v) : fX7_isOne 131 108 v μ = some (μ, 0) := by
  have hN := hw.1.1
  have e1 : zI μ 108 0 = nI (sN (gV S)) := h.1.1 0 (by omega)
  unfold fX7_isOne
  rw [chk_t m_c]
  rcases hv with hv | ⟨k, hk, h8, rfl⟩
  · rw [if_pos hv]; rfl
  · rw [if_neg (nI_pos hk), e1, if_pos ((nI_leI (by omega) hk).mpr h8)]; rfl
