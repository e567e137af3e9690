-- A STEP OF THE MODEL
theorem HR_ovm {μ : ZMem} {σ : Sg} (h : HR μ) : HR (ovm μ σ) := HR_of h rfl
theorem mr_ (k x : Nat) (hm : (108, k, x) ∈ zRFt) (hc : isC 131 100 x = true) {μ : ZMem} (hR : HR μ) : zRc 131 100 μ 108 k = some x := zRc_of (hR _ hm) hc
theorem mr9 {μ : ZMem} (hR : HR μ) : zRc 131 100 μ 108 9 = some 109 := mr_ _ _ (by decide +kernel) (by decide) hR
theorem mr10 {μ : ZMem} (hR : HR μ) : zRc 131 100 μ 108 10 = some 110 := mr_ _ _ (by decide +kernel) (by decide) hR
theorem mr11 {μ : ZMem} (hR : HR μ) : zRc 131 100 μ 108 11 = some 111 := mr_ _ _ (by decide +kernel) (by decide) hR
theorem mr12 {μ : ZMem} (hR : HR μ) : zRc 131 100 μ 108 12 = some 112 := mr_ _ _ (by decide +kernel) (by decide) hR
theorem mr13 {μ : ZMem} (hR : HR μ) : zRc 131 100 μ 108 13 = some 113 := mr_ _ _ (by decide +kernel) (by decide) hR
theorem mr14 {μ : ZMem} (hR : HR μ) : zRc 131 100 μ 108 14 = some 114 := mr_ _ _ (by decide +kernel) (by decide) hR
theorem m_c : isC 131 7 108 = true := by decide
theorem mi_ (x : Nat) (hx : zsz x = 7) {p : Nat} (hp : p < 7) : inb (nI p) x = true := inb_nI (by rw [hx]; exact hp)
theorem mi10 {p : Nat} (hp : p < 7) : inb (nI p) 110 = true := mi_ _ (by decide) hp
theorem mi11 {p : Nat} (hp : p < 7) : inb (nI p) 111 = true := mi_ _ (by decide) hp
theorem mi12 {p : Nat} (hp : p < 7) : inb (nI p) 112 = true := mi_ _ (by decide) hp
theorem mi13 {p : Nat} (hp : p < 7) : inb (nI p) 113 = true := mi_ _ (by decide) hp
theorem mi14 {p : Nat} (hp : p < 7) : inb (nI p) 114 = true := mi_ _ (by decide) hp
theorem mp0 (μ : ZMem) (σ : Sg) {p : Nat} (hp : p < 7) : zI (ovm μ σ) 110 (nI p).toNatClampNeg = nI (sP σ p 0) := by rw [nI_clamp (by omega)]; exact ovm_p μ σ (j := 0) hp (by omega)
theorem mp1 (μ : ZMem) (σ : Sg) {p : Nat} (hp : p < 7) : zI (ovm μ σ) 111 (nI p).toNatClampNeg = nI (sP σ p 1) := by rw [nI_clamp (by omega)]; exact ovm_p μ σ (j := 1) hp (by omega)
theorem mp2 (μ : ZMem) (σ : Sg) {p : Nat} (hp : p < 7) : zI (ovm μ σ) 112 (nI p).toNatClampNeg = nI (sP σ p 2) := by rw [nI_clamp (by omega)]; exact ovm_p μ σ (j := 2) hp (by omega)
theorem mp3 (μ : ZMem) (σ : Sg) {p : Nat} (hp : p < 7) : zI (ovm μ σ) 113 (nI p).toNatClampNeg = nI (sP σ p 3) := by rw [nI_clamp (by omega)]; exact ovm_p μ σ (j := 3) hp (by omega)
theorem mp4 (μ : ZMem) (σ : Sg) {p : Nat} (hp : p < 7) : zI (ovm μ σ) 114 (nI p).toNatClampNeg = nI (sP σ p 4) := by rw [nI_clamp (by omega)]; exact ovm_p μ σ (j := 4) hp (by omega)
theorem pace_m {μ : ZMem} {σ : Sg} {p : Nat} (hR : HR μ) (hp : p < 7) (hw : 1 ≤ sW σ) (hw2 : sW σ ≤ 99) (hq : wfP (sP σ p)) : fX7_pace 131 108 (nI p) (ovm μ σ) = some (ovm μ σ, nI (mPace (sW σ) (sP σ p))) := by
  obtain ⟨h0, h1, h2, h3, h4, h5⟩ := hq
  have hd : 4 * sP σ p 2 / sW σ ≤ 4 * sP σ p 2 := Nat.div_le_self _ _
  have key : ∀ x : Nat, 1 ≤ x → x ≤ 9 → fX7_pace_b35 131 108 (nI p) (nI x) (ovm μ σ) = some (ovm μ σ, nI (if sP σ p 0 = 4 ∨ sP σ p 0 = 6 then (if 1 < x - 1 then x - 1 else 1) else x)) := by
    intro x hx1 hx2
    unfold fX7_pace_b35 fX7_pace_b57 fX7_pace_b68 fX7_pace_b69
    rw [mr10 (HR_ovm hR), bd1_s, bd1_s, chk_t (mi10 hp), chk_t (mi10 hp), mp0 μ σ hp]
    have e : (if nI x ≤ (1 : Int32) then some (ovm μ σ, nI x) else some (ovm μ σ, nI x - (1 : Int32))) = some (ovm μ σ, nI (if 1 < x - 1 then x - 1 else 1)) := by
      rw [i_lit, pk_sub hx1]
      by_cases h : x ≤ 1
      · rw [if_pos ((nI_leI (by omega) (by omega)).mpr h), if_neg (by omega), show x = 1 by omega]
      · rw [if_neg (fun q => h ((nI_leI (by omega) (by omega)).mp q))]
        by_cases h2 : 1 < x - 1
        · rw [if_pos h2]
        · rw [if_neg h2, show x - 1 = 1 by omega]
    rw [e]
    simp (disch := omega) only [i_lit, nI_eq]
    by_cases k4 : sP σ p 0 = 4
    · rw [if_pos k4, if_pos (Or.inl k4)]
    · rw [if_neg k4]
      by_cases k6 : sP σ p 0 = 6
      · rw [if_pos k6, if_pos (Or.inr k6)]
      · rw [if_neg k6, if_neg (by omega)]
  unfold fX7_pace
  have ed : (4 : Int32) * nI (sP σ p 2) / nI (sW σ) = nI (4 * sP σ p 2 / sW σ) := by
    rw [i_lit, pk_mul, pk_div (by omega) (by omega) (by omega)]
  have l1 : (1 : Int32) = nI 1 := rfl
  have l9 : (9 : Int32) = nI 9 := rfl
  rw [chk_t m_c, mr12 (HR_ovm hR), bd1_s, chk_t (mi12 hp), ovm_1, chk_t (nzT (by omega) (by omega)), mp2 μ σ hp, ed, l1, l9]
  unfold mPace mBase
  by_cases a1 : 1 ≤ 4 * sP σ p 2 / sW σ
  · rw [if_pos ((nI_leI (by omega) (by omega)).mpr a1)]
    by_cases a9 : 4 * sP σ p 2 / sW σ ≤ 9
    · rw [if_pos ((nI_leI (by omega) (by omega)).mpr a9), key _ a1 a9]
      have e : (if 1 < min (4 * sP σ p 2 / sW σ) 9 then min (4 * sP σ p 2 / sW σ) 9 else 1) = 4 * sP σ p 2 / sW σ := by
        rw [Nat.min_eq_left a9]
        split <;> omega
      rw [e]
    · rw [if_neg (fun q => a9 ((nI_leI (by omega) (by omega)).mp q)), key 9 (by omega) (by omega)]
      have e : (if 1 < min (4 * sP σ p 2 / sW σ) 9 then min (4 * sP σ p 2 / sW σ) 9 else 1) = 9 := by
        rw [Nat.min_eq_right (by omega)]
        rfl
      rw [e]
  · rw [if_neg (fun q => a1 ((nI_leI (by omega) (by omega)).mp q)), key 1 (by omega) (by omega)]
    have e : (if 1 < min (4 * sP σ p 2 / sW σ) 9 then min (4 * sP σ p 2 / sW σ) 9 else 1) = 1 := if_neg (by omega)
    rw [e]
theorem toil_m {μ : ZMem} {σ : Sg} {p : Nat} (hR : HR μ) (hp : p < 7) (hw2 : sW σ ≤ 99) (hq : wfP (sP σ p)) : fX7_toil 131 108 (nI p) (ovm μ σ) = some (ovm μ σ, nI (mToil (sW σ) (sP σ p))) := by
  obtain ⟨h0, h1, h2, h3, h4, h5⟩ := hq
  have hu : mUp (sW σ) (sP σ p 2) ≤ sW σ := mUp_le h2
  have l1 : (1 : Int32) = nI 1 := rfl
  have ed : (nI (sW σ) + nI (sP σ p 2) - (1 : Int32)) / nI (sP σ p 2) = nI (mUp (sW σ) (sP σ p 2)) := by
    rw [l1, nI_add, pk_sub (by omega), pk_div (by omega) (by omega) (by omega)]
    rfl
  have e2 : (nI (mUp (sW σ) (sP σ p 2)) + (1 : Int32)) / (2 : Int32) = nI (mUp (mUp (sW σ) (sP σ p 2)) 2) := by
    have l2 : (2 : Int32) = nI 2 := rfl
    rw [nI_1, l2, pk_div (by omega) (by omega) (by omega)]
    rfl
  unfold fX7_toil
  rw [chk_t m_c, mr12 (HR_ovm hR), bd1_s, bd1_s, chk_t (mi12 hp), chk_t (mi12 hp), mp2 μ σ hp, chk_t (nzT (by omega) (by omega)), ovm_1, ed, mr10 (HR_ovm hR), bd1_s, bd1_s, bd1_s, chk_t (mi10 hp), chk_t (mi10 hp), chk_t (mi10 hp), mp0 μ σ hp, mr11 (HR_ovm hR), bd1_s, chk_t (mi11 hp), mp1 μ σ hp, nI_add]
  unfold fX7_toil_b41 fX7_toil_b69
  rw [e2]
  simp (disch := omega) only [i_lit, nI_eq]
  unfold mToil
  by_cases k2 : sP σ p 0 = 2
  · rw [if_pos k2, if_pos (Or.inl k2)]
  · rw [if_neg k2]
    by_cases k5 : sP σ p 0 = 5
    · rw [if_pos k5, if_pos (Or.inr k5)]
    · rw [if_neg k5, if_neg (show ¬ (sP σ p 0 = 2 ∨ sP σ p 0 = 5) by omega)]
      by_cases k3 : sP σ p 0 = 3
      · rw [if_pos k3, if_pos k3]
      · rw [if_neg k3, if_neg k3]
theorem limit_m {μ : ZMem} {σ : Sg} {p : Nat} (hR : HR μ) (hp : p < 7) (hq : wfP (sP σ p)) : fX7_limit 131 108 (nI p) (ovm μ σ) = some (ovm μ σ, nI (mLimit (sP σ p))) := by
  obtain ⟨h0, h1, h2, h3, h4, h5⟩ := hq
  unfold fX7_limit fX7_limit_b20 fX7_limit_b62
  rw [chk_t m_c, mr10 (HR_ovm hR), bd1_s, bd1_s, bd1_s, chk_t (mi10 hp), chk_t (mi10 hp), chk_t (mi10 hp), mp0 μ σ hp, mr13 (HR_ovm hR), bd1_s, bd1_s, bd1_s, chk_t (mi13 hp), chk_t (mi13 hp), chk_t (mi13 hp), mp3 μ σ hp, mr11 (HR_ovm hR), bd1_s, chk_t (mi11 hp), mp1 μ σ hp, nI_add]
  simp (disch := omega) only [i_lit, nI_eq, pk_mul]
  unfold mLimit
  by_cases k1 : sP σ p 0 = 1
  · rw [if_pos k1, if_pos (Or.inl k1)]
  · rw [if_neg k1]
    by_cases k3 : sP σ p 0 = 3
    · rw [if_pos k3, if_pos (Or.inr k3)]
    · rw [if_neg k3, if_neg (show ¬ (sP σ p 0 = 1 ∨ sP σ p 0 = 3) by omega)]
      by_cases k6 : sP σ p 0 = 6
      · rw [if_pos k6, if_pos k6]
      · rw [if_neg k6, if_neg k6]
def mWould (q : Nat → Nat) (x : Nat) : Bool := !(q 0 == 5) && decide (mLimit q < q 4 + x)
theorem would_m {μ : ZMem} {σ : Sg} {p x : Nat} (hR : HR μ) (hp : p < 7) (hq : wfP (sP σ p)) (hx : x ≤ 100) : fX7_wouldSigh 131 108 (nI p) (nI x) (ovm μ σ) = some (ovm μ σ, if mWould (sP σ p) x = true then 1 else 0) := by
  have hl := mLimit_le hq
  have e0 : b01 0 = true := by decide
  have e1 : b01 1 = true := by decide
  unfold fX7_wouldSigh fX7_wouldSigh_b30 fX7_wouldSigh_b31
  rw [chk_t m_c, mr10 (HR_ovm hR), bd1_s, chk_t (mi10 hp), mp0 μ σ hp, mr14 (HR_ovm hR), bd1_s, chk_t (mi14 hp), limit_m hR hp hq, bd2_s, mp4 μ σ hp, nI_add, chk_t e0, chk_t e1]
  obtain ⟨h0, h1, h2, h3, h4, h5⟩ := hq
  unfold mWould
  by_cases k : sP σ p 0 = 5
  · rw [if_pos (by rw [k]; rfl), k]
    rfl
  · have e5 : (5 : Int32) = nI 5 := rfl
    rw [e5, if_neg (fun q => k ((nI_eq (by omega) (by omega)).mp q))]
    by_cases k2 : sP σ p 4 + x ≤ mLimit (sP σ p)
    · rw [if_pos ((nI_leI (by omega) (by omega)).mpr k2), if_neg (by simp; omega)]
    · rw [if_neg (fun q => k2 ((nI_leI (by omega) (by omega)).mp q)), if_pos (by simp [k]; omega)]
theorem mWould_0 (q : Nat → Nat) : mWould q 0 = mSigh q := rfl
theorem tires_m {μ : ZMem} {σ : Sg} {p x : Nat} (hR : HR μ) (hp : p < 7) (hq : sP σ p 4 ≤ 99) (hx : x ≤ 1000) : fX7_tires 131 108 (nI p) (nI x) (ovm μ σ) = some (ovm μ (wP σ (pset (sP σ) p 4 (min 99 (sP σ p 4 + x))))) := by
  unfold fX7_tires fX7_tires_b34
  have l99 : (99 : Int32) = nI 99 := rfl
  have l0 : (0 : Int32) = nI 0 := rfl
  rw [chk_t m_c, mr14 (HR_ovm hR), bd1_s, bd1_s, chk_t (mi14 hp), chk_t (mi14 hp), chk_t (mi14 hp), chk_t (mi14 hp), mp4 μ σ hp, nI_add, l99, l0, nI_clamp (by omega), lt_e, lt_e, lt_e, if_pos ((nI_leI (by omega) (by omega)).mpr (Nat.zero_le _))]
  have h1 := ovm_uP μ σ (p := p) (j := 4) (sP σ p 4 + x) hp (by omega)
  have h2 := ovm_uP μ σ (p := p) (j := 4) 99 hp (by omega)
  by_cases h : sP σ p 4 + x ≤ 99
  · rw [if_pos ((nI_leI (by omega) (by omega)).mpr h), Nat.min_eq_right h]
    exact congrArg some h1
  · rw [if_neg (fun q => h ((nI_leI (by omega) (by omega)).mp q)), Nat.min_eq_left (by omega)]
    exact congrArg some h2
theorem untire_m {μ : ZMem} {σ : Sg} {p x : Nat} (hR : HR μ) (hp : p < 7) (hq : sP σ p 4 ≤ 99) (hx : 1 ≤ x) (hx2 : x ≤ 1000) : fX7_tires 131 108 (nI p) (-nI x) (ovm μ σ) = some (ovm μ (wP σ (pset (sP σ) p 4 (sP σ p 4 - x)))) := by
  unfold fX7_tires fX7_tires_b34
  have l99 : (99 : Int32) = nI 99 := rfl
  have es : nI (sP σ p 4) + -nI x = nI (sP σ p 4) - nI x := (Int32.sub_eq_add_neg _ _).symm
  rw [chk_t m_c, mr14 (HR_ovm hR), bd1_s, bd1_s, chk_t (mi14 hp), chk_t (mi14 hp), chk_t (mi14 hp), chk_t (mi14 hp), mp4 μ σ hp, es, nI_clamp (by omega), lt_e, lt_e, lt_e]
  have h1 := ovm_uP μ σ (p := p) (j := 4) (sP σ p 4 - x) hp (by omega)
  by_cases h : x ≤ sP σ p 4
  · have l0 : (0 : Int32) = nI 0 := rfl
    rw [pk_sub h, if_pos (by rw [l0]; exact (nI_leI (by omega) (by omega)).mpr (Nat.zero_le _)), l99, if_pos ((nI_leI (by omega) (by omega)).mpr (by omega))]
    exact congrArg some h1
  · rw [if_neg (fun q => (fa_of_lt (pk_sneg (by omega) (by omega : sP σ p 4 < x))).2.1 q), show sP σ p 4 - x = 0 by omega] 
    rw [show sP σ p 4 - x = 0 by omega] at h1
    exact congrArg some h1
