-- SAYINGS AND DRAWS, ON BOTH SIDES
def mGrow (σ : Sg) : Sg := wW σ (min 99 (sW σ + 1))
def mHear (who s : Nat) (σ : Sg) : Sg :=
  if s = 5 then (if sB σ = some who then (if sW σ ≤ sP σ who 2 then wB σ none else mGrow σ) else wB σ (some who))
  else if s = 1 then mGrow (if mCnt σ s = true then wB σ (some who) else σ) else (if mCnt σ s = true then wB σ (some who) else σ)
theorem Wf_grow {σ : Sg} (h : Wf σ) : Wf (mGrow σ) := by
  obtain ⟨hN, ⟨hW1, hW2⟩, hD, hB, hR, hP⟩ := h
  refine ⟨hN, ⟨?_, Nat.min_le_left _ _⟩, hD, hB, hR, hP⟩
  show 1 ≤ min 99 (sW σ + 1)
  omega
theorem Wf_wB {σ : Sg} {b : Option Nat} (h : Wf σ) (hb : ∀ q, b = some q → q < sN σ) : Wf (wB σ b) := by
  obtain ⟨hN, hW, hD, hB, hR, hP⟩ := h
  exact ⟨hN, hW, hD, hb, hR, hP⟩
theorem Wf_hear {who s : Nat} {σ : Sg} (h : Wf σ) (hw : who < sN σ) : Wf (mHear who s σ) := by
  have h1 : Wf (wB σ (some who)) := Wf_wB h fun q hq => by cases hq; exact hw
  unfold mHear
  split
  · split
    · split
      · exact Wf_wB h fun q hq => by cases hq
      · exact Wf_grow h
    · exact h1
  · split
    · split
      · exact Wf_grow h1
      · exact Wf_grow h
    · split
      · exact h1
      · exact h
theorem mHear_N (who s : Nat) (σ : Sg) : sN (mHear who s σ) = sN σ ∧ sR (mHear who s σ) = sR σ := by
  unfold mHear mGrow
  repeat' split
  all_goals exact ⟨rfl, rfl⟩
theorem grow_v {μ : ZMem} {v : Nat} {σ : Sg} (hv : VS v) (hw : sW σ ≤ 99) : fX4_growHeavier 131 v (ovl μ v σ) = some (ovl μ v (mGrow σ)) := by
  unfold fX4_growHeavier mGrow
  have l99 : (99 : Int32) = nI 99 := rfl
  rw [chk_t (VS_c hv), ovl_2, nI_1, l99, lt_e]
  have e : (if nI (sW σ + 1) < nI 99 then nI (sW σ + 1) else nI 99) = nI (min 99 (sW σ + 1)) := by
    by_cases h : sW σ + 1 < 99
    · rw [if_pos ((nI_ltI (by omega) (by omega)).mpr h), Nat.min_eq_right (by omega)]
    · rw [if_neg (fun q => h ((nI_ltI (by omega) (by omega)).mp q)), Nat.min_eq_left (by omega)]
  rw [e, ovl_u2]
theorem hear_c {μ : ZMem} {v : Nat} {σ : Sg} {who s : Nat} (hv : VS v) (hR : HR μ) (hw : Wf σ) (hp : who < sN σ) (hs : s ≤ 5) : fX4_hear 131 v (nI who) (nI s) (ovl μ v σ) = some (ovl μ v (mHear who s σ)) := by
  have hw0 := hw
  obtain ⟨hN, ⟨hW1, hW2⟩, hD, hB, hRu, hP⟩ := hw
  have l5 : (5 : Int32) = nI 5 := rfl
  have l1 : (1 : Int32) = nI 1 := rfl
  unfold fX4_hear fX4_hear_b24 fX4_hear_b33 fX4_hearThatItIsLight fX4_hearThatItIsLight_b50 fX4_hearThatItIsLight_b54 mHear
  rw [chk_t (VS_c hv), chk_t (VS_c hv), ovl_5]
  by_cases h5 : s = 5
  · subst h5
    rw [if_pos (show nI 5 = (5 : Int32) from rfl), if_pos rfl]
    by_cases hb : sB σ = some who
    · have hr : ¬ (if sB σ = none then (0 : Int32) else 1) = 0 := by rw [hb]; simp
      have eo : oI (sB σ) = nI who := by rw [hb]; rfl
      rw [eo, if_pos rfl, isBorne_c hv hw0, bd2_s, if_neg hr, if_pos hb, ovl_5, ovl_2, eo, VS_r0 hv (HR_ovl hR), bd1_s, chk_t (VS_in hv (by omega)), VS_rp hv (HR_ovl hR) (by omega), bd1_s, ovl_p μ v σ hp (by omega), grow_v hv hW2, bd1_s, lt_e]
      have hn : (-1 : Int32) = oI none := rfl
      rw [hn, ovl_u5]
      have hq := (hP who hp).2.2.2.1
      by_cases hle : sW σ ≤ sP σ who 2
      · rw [if_neg (fun q => by have := (nI_ltI (by omega) (by omega)).mp q; omega), if_pos hle, bd1_s]
      · rw [if_pos ((nI_ltI (by omega) (by omega)).mpr (by omega)), if_neg hle, bd1_s]
    · have eo : nI who = oI (some who) := rfl
      rw [if_neg (fun q => hb ((oI_eq (by omega) (fun q hq => by have := hB q hq; omega)).mp q)), if_neg hb, lt_e, eo, ovl_u5, bd1_s]
  · have hn5 : ¬ nI s = (5 : Int32) := fun q => h5 ((nI_eq (b := 5) (by omega) (by omega)).mp q)
    have eo : nI who = oI (some who) := rfl
    rw [if_neg hn5, if_neg h5, counts_c hv hw0 hs, bd2_s, lt_e, eo, ovl_u5]
    have hg1 : fX4_growHeavier 131 v (ovl μ v (wB σ (some who))) = some (ovl μ v (mGrow (wB σ (some who)))) := grow_v hv hW2
    have hg2 : fX4_growHeavier 131 v (ovl μ v σ) = some (ovl μ v (mGrow σ)) := grow_v hv hW2
    rw [hg1, hg2, bd1_s, bd1_s]
    by_cases h1 : s = 1
    · subst h1
      rw [if_pos (show nI 1 = (1 : Int32) from rfl), if_pos (show nI 1 = (1 : Int32) from rfl), if_pos rfl]
      by_cases hc : mCnt σ 1 = true
      · rw [if_pos hc, if_pos hc, if_neg (by decide)]
      · rw [if_neg hc, if_neg hc, if_pos rfl]
    · have hn1 : ¬ nI s = (1 : Int32) := fun q => h1 ((nI_eq (b := 1) (by omega) (by omega)).mp q)
      rw [if_neg hn1, if_neg hn1, if_neg h1]
      by_cases hc : mCnt σ s = true
      · rw [if_pos hc, if_pos hc, if_neg (by decide)]
      · rw [if_neg hc, if_neg hc, if_pos rfl]
theorem speaks_m {μ : ZMem} {σ : Sg} {who s : Nat} (hR : HR μ) (hw : Wf σ) (hp : who < sN σ) (hs : s ≤ 5) : fX7_speaks 131 108 (nI who) (nI s) (ovm μ σ) = some (ovm μ (mHear who s σ)) := by
  obtain ⟨hN, ⟨hW1, hW2⟩, hD, hB, hRu, hP⟩ := hw
  have l99 : (99 : Int32) = nI 99 := rfl
  unfold fX7_speaks mHear
  rw [chk_t m_c, ovm_4, ovm_1, ovm_6]
  by_cases h5 : s = 5
  · subst h5
    rw [if_pos (show nI 5 = (5 : Int32) from rfl), if_pos rfl]
    by_cases hb : sB σ = some who
    · have eo : oI (sB σ) = nI who := by rw [hb]; rfl
      rw [eo, if_pos rfl, if_pos hb, mr12 (HR_ovm hR), bd1_s, chk_t (mi12 (by omega)), mp2 μ σ (by omega), lt_e]
      have hn : (-1 : Int32) = oI none := rfl
      rw [hn, ovm_u4]
      unfold fX7_speaks_b61 fX7_speaks_b65 mGrow
      have hq := (hP who hp).2.2.2.1
      by_cases hle : sW σ ≤ sP σ who 2
      · rw [if_neg (fun q => by have := (nI_ltI (by omega) (by omega)).mp q; omega), if_pos hle]
      · rw [if_pos ((nI_ltI (by omega) (by omega)).mpr (by omega)), if_neg hle, l99]
        have l0 : (0 : Int32) = nI 0 := rfl
        by_cases h99 : 99 ≤ sW σ
        · rw [if_pos ((nI_leI (by omega) (by omega)).mpr h99), l0, nI_add, lt_e, ovm_u1, Nat.min_eq_left (by omega), show sW σ + 0 = 99 by omega]
        · rw [if_neg (fun q => h99 ((nI_leI (by omega) (by omega)).mp q)), nI_1, lt_e, ovm_u1, Nat.min_eq_right (by omega)]
    · have eo : nI who = oI (some who) := rfl
      unfold fX7_speaks_b65
      rw [if_neg (fun q => hb ((oI_eq (by omega) (fun q hq => by have := hB q hq; omega)).mp q)), if_neg hb, lt_e, eo, ovm_u4]
  · have hn5 : ¬ nI s = (5 : Int32) := fun q => h5 ((nI_eq (b := 5) (by omega) (by omega)).mp q)
    have eo : nI who = oI (some who) := rfl
    rw [if_neg hn5, if_neg h5, counts_bit hRu (by omega : s ≤ 4), lt_e, eo, ovm_u4]
    have key : ∀ τ : Sg, sW τ ≤ 99 → fX7_speaks_b83 131 108 (nI s) (ovm μ τ) = some (ovm μ (if s = 1 then mGrow τ else τ)) := by
      intro τ hτ
      unfold fX7_speaks_b83 fX7_speaks_b107 mGrow
      rw [ovm_1, l99]
      by_cases h1 : s = 1
      · subst h1
        rw [if_pos (show nI 1 = (1 : Int32) from rfl), if_pos rfl]
        by_cases h99 : 99 ≤ sW τ
        · have e : wW τ (min 99 (sW τ + 1)) = τ := by
            rw [Nat.min_eq_left (by omega), show 99 = sW τ by omega]
          rw [if_pos ((nI_leI (by omega) (by omega)).mpr h99), e]
        · rw [if_neg (fun q => h99 ((nI_leI (by omega) (by omega)).mp q)), nI_1, lt_e, ovm_u1, Nat.min_eq_right (by omega)]
      · have hn1 : ¬ nI s = (1 : Int32) := fun q => h1 ((nI_eq (b := 1) (by omega) (by omega)).mp q)
        rw [if_neg hn1, if_neg h1]
    have ec : mCnt σ s = (sR σ / 2 ^ s % 2 == 1) := by
      unfold mCnt
      simp [show s ≤ 4 by omega]
    rw [key σ hW2, key (wB σ (some who)) hW2, ec]
    by_cases hc : sR σ / 2 ^ s % 2 = 1
    · rw [hc, if_pos (show nI 1 = (1 : Int32) from rfl)]
      simp
    · have hnc : ¬ nI (sR σ / 2 ^ s % 2) = (1 : Int32) := fun q => hc ((nI_eq (b := 1) (by omega) (by omega)).mp q)
      rw [if_neg hnc]
      simp [hc]
/-- the next SEED; taken by choice, so that nothing unfolds it -/
theorem mSeed_x : ∃ f : Int32 → Int32, ∀ x, f x = x * 1103515245 + 12345 := ⟨fun x => x * 1103515245 + 12345, fun _ => rfl⟩
noncomputable def mSeed : Int32 → Int32 := Classical.choose mSeed_x
theorem mSeed_e (x : Int32) : x * 1103515245 + 12345 = mSeed x := (Classical.choose_spec mSeed_x x).symm
def mHi (x : Int32) : Nat := x.toBitVec.toNat / 2 ^ 16
theorem mHi_lt (x : Int32) : mHi x < 65536 := by
  have := x.toBitVec.isLt
  unfold mHi
  omega
theorem mHi_e (x : Int32) : (x.toUInt32 >>> ((16 : Int32).toUInt32 &&& Int32.toUInt32 31)).toInt32 = nI (mHi x) := by
  have h := pk_ushr x 16 16 (by decide)
  apply Int32.toBitVec_inj.mp
  apply BitVec.eq_of_toNat_eq
  rw [h]
  have h2 := mHi_lt x
  rw [pk_tn (by omega)]
  rfl
theorem draw_c {μ : ZMem} {v : Nat} {σ : Sg} {n : Nat} (hv : VS v) (hn : 1 ≤ n) (hn2 : n ≤ 100) : fX4_draw 131 v (nI n) (ovl μ v σ) = some (ovl μ v (wS σ (mSeed (sS σ))), nI (mHi (mSeed (sS σ)) % n)) := by
  have hh := mHi_lt (mSeed (sS σ))
  unfold fX4_draw fX4_draw_b33
  have l1 : (1 : Int32) ≤ nI n := (nI_leI (a := 1) (by omega) (by omega)).mpr hn
  rw [chk_t (VS_c hv), lt_e, ovl_8, mSeed_e, ovl_u8, ovl_8, if_pos l1, chk_t (nzT (by omega) (by omega)), mHi_e]
  show some (_, nI (mHi (mSeed (sS σ))) - nI (mHi (mSeed (sS σ))) / nI n * nI n) = _
  rw [pk_rem (by omega) (by omega) (by omega)]
theorem draw_m {μ : ZMem} {σ : Sg} {n : Nat} (hn : 1 ≤ n) (hn2 : n ≤ 100) : fX7_draw 131 108 (nI n) (ovm μ σ) = some (ovm μ (wS σ (mSeed (sS σ))), nI (mHi (mSeed (sS σ)) % n)) := by
  have hh := mHi_lt (mSeed (sS σ))
  unfold fX7_draw
  rw [chk_t m_c, lt_e, ovm_7, mSeed_e, ovm_u7, ovm_7, chk_t (nzT (by omega) (by omega)), mHi_e]
  show some (_, nI (mHi (mSeed (sS σ))) - nI (mHi (mSeed (sS σ))) / nI n * nI n) = _
  rw [pk_rem (by omega) (by omega) (by omega)]
