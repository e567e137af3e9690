-- REFERENCES AS THE CONSTRUCTORS LEFT THEM; ONE OF THE PEOPLE
theorem chk_t {α : Type} {b : Bool} {x : Option α} (h : b = true) : chk b x = x := by rw [h]; rfl
theorem bd1_s {α β : Type} (a : α) (f : α → Option β) : bd1 (some a) f = f a := rfl
theorem bd2_s {α β γ : Type} (a : α) (b : β) (f : α → β → Option γ) : bd2 (some (a, b)) f = f a b := rfl
theorem lt_e {α β : Type} (x : α) (f : α → Option β) : lt x f = f x := rfl
theorem zRc_of {n c : Nat} {μ : ZMem} {a k x : Nat} (h : zR μ a k = some x) (hc : isC n c x = true) : zRc n c μ a k = some x := by
  unfold zRc
  rw [h]
  exact if_pos hc
theorem nzT {w : Nat} (h : 1 ≤ w) (h2 : w < 2 ^ 31) : (!decide (nI w = 0)) = true := by
  have : ¬ nI w = 0 := fun q => by
    have := (nI_eq (b := 0) h2 (by omega)).mp q
    omega
  simp [this]
theorem i_lit (n : Nat) : (OfNat.ofNat n : Int32) = nI (OfNat.ofNat n : Nat) := rfl
def HR (μ : ZMem) : Prop := ∀ q ∈ zRFt, zR μ q.1 q.2.1 = some q.2.2
theorem HR_of {μ μ' : ZMem} (h : HR μ) (e : μ'.2.2 = μ.2.2) : HR μ' := fun q hq => by
  show μ'.2.2 q.1 q.2.1 = _
  rw [e]
  exact h q hq
def VS (v : Nat) : Prop := v ∈ [18, 27, 36, 47, 56, 65, 74, 83, 96]
theorem VS_a : ∀ v ∈ [18, 27, 36, 47, 56, 65, 74, 83, 96], isC 131 4 v = true ∧ isC 131 102 (v + 1) = true ∧ zsz (v + 1) = 7 ∧ (v, 0, v + 1) ∈ zRFt ∧ ∀ p, p < 7 → isC 131 1 (v + 2 + p) = true ∧ (v + 1, p, v + 2 + p) ∈ zRFt := by decide +kernel
theorem VS_c {v : Nat} (h : VS v) : isC 131 4 v = true := (VS_a v h).1
theorem VS_1 {v : Nat} (h : VS v) {p : Nat} (hp : p < 7) : isC 131 1 (v + 2 + p) = true := ((VS_a v h).2.2.2.2 p hp).1
theorem VS_r0 {v : Nat} (h : VS v) {μ : ZMem} (hR : HR μ) : zRc 131 102 μ v 0 = some (v + 1) := zRc_of (hR _ (VS_a v h).2.2.2.1) (VS_a v h).2.1
theorem inb_nI {p a : Nat} (h : p < zsz a) : inb (nI p) a = true := by
  have h1 := zsz_le a
  unfold inb
  rw [nI_clamp (by omega)]
  simp only [Bool.and_eq_true, Bool.not_eq_true', decide_eq_false_iff_not, decide_eq_true_eq]
  exact ⟨nI_pos (by omega), h⟩
theorem VS_in {v : Nat} (h : VS v) {p : Nat} (hp : p < 7) : inb (nI p) (v + 1) = true := inb_nI (by rw [(VS_a v h).2.2.1]; exact hp)
theorem VS_rp {v : Nat} (h : VS v) {μ : ZMem} (hR : HR μ) {p : Nat} (hp : p < 7) : zRc 131 1 μ (v + 1) (nI p).toNatClampNeg = some (v + 2 + p) := by
  rw [nI_clamp (by omega)]
  exact zRc_of (hR _ ((VS_a v h).2.2.2.2 p hp).2) (VS_1 h hp)
-- one of the people: kind, a, strength, patience, tired
def mBase (w s : Nat) : Nat := if 1 < min (4 * s / w) 9 then min (4 * s / w) 9 else 1
def mPace (w : Nat) (q : Nat → Nat) : Nat := if q 0 = 4 ∨ q 0 = 6 then (if 1 < mBase w (q 2) - 1 then mBase w (q 2) - 1 else 1) else mBase w (q 2)
def mUp (a b : Nat) : Nat := (a + b - 1) / b
def mToil (w : Nat) (q : Nat → Nat) : Nat := if q 0 = 2 ∨ q 0 = 5 then mUp (mUp w (q 2)) 2 else if q 0 = 3 then mUp w (q 2) + q 1 else mUp w (q 2)
def mLimit (q : Nat → Nat) : Nat := if q 0 = 1 ∨ q 0 = 3 then 2 * q 3 else if q 0 = 6 then q 3 + q 1 else q 3
def mSigh (q : Nat → Nat) : Bool := !(q 0 == 5) && decide (mLimit q < q 4)
def wfP (q : Nat → Nat) : Prop := q 0 ≤ 6 ∧ q 1 ≤ 9 ∧ 1 ≤ q 2 ∧ q 2 ≤ 40 ∧ q 3 ≤ 40 ∧ q 4 ≤ 99
theorem mUp_le {a b : Nat} (hb : 1 ≤ b) : mUp a b ≤ a := by
  unfold mUp
  rcases Nat.eq_zero_or_pos a with h | h
  · subst h
    rw [show 0 + b - 1 = b - 1 by omega, Nat.div_eq_of_lt (by omega)]
    exact Nat.le_refl _
  · refine Nat.div_le_of_le_mul ?_
    rcases Nat.exists_eq_add_of_le hb with ⟨c, rfl⟩
    rw [Nat.add_mul]
    have h2 : c ≤ c * a := Nat.le_mul_of_pos_right c h
    omega
theorem mToil_le {w : Nat} {q : Nat → Nat} (h : wfP q) : mToil w q ≤ w + 9 := by
  have h1 : mUp w (q 2) ≤ w := mUp_le h.2.2.1
  have h2 : mUp (mUp w (q 2)) 2 ≤ mUp w (q 2) := mUp_le (by omega)
  have h3 := h.2.1
  unfold mToil
  split
  · omega
  · split <;> omega
theorem mLimit_le {q : Nat → Nat} (h : wfP q) : mLimit q ≤ 80 := by
  obtain ⟨h0, h1, h2, h3, h4, h5⟩ := h
  unfold mLimit
  split
  · omega
  · split <;> omega
theorem mBase_le {w s : Nat} : 1 ≤ mBase w s ∧ mBase w s ≤ 9 := by
  unfold mBase
  split <;> omega
theorem mPace_le {w : Nat} {q : Nat → Nat} : 1 ≤ mPace w q ∧ mPace w q ≤ 9 := by
  have h := mBase_le (w := w) (s := q 2)
  unfold mPace
  split
  · split <;> omega
  · exact h
theorem isIn_f (v lo hi : Int32) (μ : ZMem) : fX6_isIn 131 v lo hi μ = some (μ, if lo ≤ v ∧ v ≤ hi then 1 else 0) := by
  unfold fX6_isIn fX6_isIn_b14 fX6_isIn_b15
  have e0 : b01 0 = true := by decide
  have e1 : b01 1 = true := by decide
  rw [chk_t e0, chk_t e1]
  by_cases h1 : v < lo
  · rw [if_pos h1, if_neg (fun q => (fa_of_lt h1).2.1 q.1)]
  · rw [if_neg h1]
    by_cases h2 : hi < v
    · rw [if_pos h2, if_neg (fun q => (fa_of_lt h2).2.1 q.2)]
    · rw [if_neg h2, if_pos ⟨fa_of_nlt h1, fa_of_nlt h2⟩]
theorem upward_f {a b : Nat} (ha : a < 100000) (hb : 1 ≤ b) (hb2 : b < 1000) (μ : ZMem) : fX6_upward 131 (nI a) (nI b) μ = some (μ, nI (mUp a b)) := by
  unfold fX6_upward fX6_upward_b16
  have e1 : (1 : Int32) = nI 1 := rfl
  rw [e1, if_pos ((nI_leI (by omega) (by omega)).mpr hb), chk_t (by simpa using nI_ne0 (by omega) (by omega)), nI_add, pk_sub (by omega), pk_div (by omega) (by omega) (by omega)]
  rfl
theorem pace_c {μ : ZMem} {v : Nat} {σ : Sg} {p w : Nat} (hv : VS v) (hN : sN σ ≤ 7) (hp : p < sN σ) (hw : 1 ≤ w) (hw2 : w ≤ 99) (hq : wfP (sP σ p)) : fX1_pace 131 (v + 2 + p) (nI w) (ovl μ v σ) = some (ovl μ v σ, nI (mPace w (sP σ p))) := by
  obtain ⟨h0, h1, h2, h3, h4, h5⟩ := hq
  have hd : 4 * sP σ p 2 / w ≤ 4 * sP σ p 2 := Nat.div_le_self _ _
  unfold fX1_pace
  have i1 : (1 : Int32) ≤ nI w := (nI_leI (a := 1) (by omega) (by omega)).mpr hw
  have ed : (4 : Int32) * nI (sP σ p 2) / nI w = nI (4 * sP σ p 2 / w) := by
    rw [i_lit, pk_mul, pk_div (by omega) (by omega) (by omega)]
  have e1 : (if nI (4 * sP σ p 2 / w) < (9 : Int32) then nI (4 * sP σ p 2 / w) else (9 : Int32)) = nI (min (4 * sP σ p 2 / w) 9) := by
    rw [i_lit]
    by_cases h : 4 * sP σ p 2 / w < 9
    · rw [if_pos ((nI_ltI (by omega) (by omega)).mpr h), Nat.min_eq_left (by omega)]
    · rw [if_neg (fun q => h ((nI_ltI (by omega) (by omega)).mp q)), Nat.min_eq_right (by omega)]
  have e2 : (if (1 : Int32) < nI (min (4 * sP σ p 2 / w) 9) then nI (min (4 * sP σ p 2 / w) 9) else (1 : Int32)) = nI (mBase w (sP σ p 2)) := by
    unfold mBase
    rw [i_lit]
    by_cases h : 1 < min (4 * sP σ p 2 / w) 9
    · rw [if_pos ((nI_ltI (by omega) (by omega)).mpr h), if_pos h]
    · rw [if_neg (fun q => h ((nI_ltI (by omega) (by omega)).mp q)), if_neg h]
  rw [chk_t (VS_1 hv (by omega)), if_pos i1, chk_t (nzT (by omega) (by omega)), ovl_p μ v σ hp (by omega), ed, e1, e2]
  unfold fX1_pace_b27 fX1_pace_b45 fX1_pace_b50 fX1_pace_b66
  have hb := mBase_le (w := w) (s := sP σ p 2)
  rw [ovl_p μ v σ hp (by omega), if_neg (show ¬ (1 : Int32) = 0 by decide), if_pos (rfl : (0 : Int32) = 0)]
  have e3 : (if (1 : Int32) < nI (mBase w (sP σ p 2)) - (1 : Int32) then nI (mBase w (sP σ p 2)) - (1 : Int32) else (1 : Int32)) = nI (if 1 < mBase w (sP σ p 2) - 1 then mBase w (sP σ p 2) - 1 else 1) := by
    rw [i_lit, pk_sub (by omega)]
    by_cases h : 1 < mBase w (sP σ p 2) - 1
    · rw [if_pos ((nI_ltI (by omega) (by omega)).mpr h), if_pos h]
    · rw [if_neg (fun q => h ((nI_ltI (by omega) (by omega)).mp q)), if_neg h]
  rw [e3]
  simp (disch := omega) only [i_lit, nI_eq]
  unfold mPace
  by_cases k4 : sP σ p 0 = 4
  · rw [if_pos k4, if_pos (Or.inl k4)]
  · rw [if_neg k4]
    by_cases k6 : sP σ p 0 = 6
    · rw [if_pos k6, if_pos (Or.inr k6)]
    · rw [if_neg k6, if_neg (by omega)]
theorem toil_c {μ : ZMem} {v : Nat} {σ : Sg} {p w : Nat} (hv : VS v) (hN : sN σ ≤ 7) (hp : p < sN σ) (hw2 : w ≤ 99) (hq : wfP (sP σ p)) : fX1_toil 131 (v + 2 + p) (nI w) (ovl μ v σ) = some (ovl μ v σ, nI (mToil w (sP σ p))) := by
  obtain ⟨h0, h1, h2, h3, h4, h5⟩ := hq
  have hu : mUp w (sP σ p 2) ≤ w := mUp_le h2
  unfold fX1_toil fX1_toil_b44 fX1_toil_b57
  rw [chk_t (VS_1 hv (by omega)), ovl_p μ v σ hp (by omega), upward_f (by omega) h2 (by omega), bd2_s, ovl_p μ v σ hp (by omega), ovl_p μ v σ hp (by omega)]
  have e2 : (2 : Int32) = nI 2 := rfl
  rw [e2, upward_f (by omega) (by omega) (by omega), bd2_s, nI_add]
  simp (disch := omega) only [i_lit, nI_eq]
  unfold mToil
  repeat' split
  all_goals first | rfl | (exfalso; omega) | (simp_all; done)
theorem limit_c {μ : ZMem} {v : Nat} {σ : Sg} {p : Nat} (hv : VS v) (hN : sN σ ≤ 7) (hp : p < sN σ) (hq : wfP (sP σ p)) : fX1_limit 131 (v + 2 + p) (ovl μ v σ) = some (ovl μ v σ, nI (mLimit (sP σ p))) := by
  obtain ⟨h0, h1, h2, h3, h4, h5⟩ := hq
  unfold fX1_limit fX1_limit_b40
  rw [chk_t (VS_1 hv (by omega)), ovl_p μ v σ hp (by omega), ovl_p μ v σ hp (by omega), ovl_p μ v σ hp (by omega)]
  simp (disch := omega) only [i_lit, nI_eq, pk_mul, nI_add]
  unfold mLimit
  repeat' split
  all_goals first | rfl | (exfalso; omega) | (simp_all; done)
theorem sigh_c {μ : ZMem} {v : Nat} {σ : Sg} {p : Nat} (hv : VS v) (hN : sN σ ≤ 7) (hp : p < sN σ) (hq : wfP (sP σ p)) : fX1_isSighing 131 (v + 2 + p) (ovl μ v σ) = some (ovl μ v σ, if mSigh (sP σ p) = true then 1 else 0) := by
  have hl := mLimit_le hq
  have e0 : b01 0 = true := by decide
  have e1 : b01 1 = true := by decide
  unfold fX1_isSighing fX1_isSighing_b23 fX1_isSighing_b24
  rw [chk_t (VS_1 hv (by omega)), limit_c hv hN hp hq, bd2_s, chk_t e0, chk_t e1]
  obtain ⟨h0, h1, h2, h3, h4, h5⟩ := hq
  rw [ovl_p μ v σ hp (by omega), ovl_p μ v σ hp (by omega)]
  unfold mSigh
  by_cases k : sP σ p 0 = 5
  · rw [if_pos (by rw [k]; rfl), k]
    rfl
  · have e5 : (5 : Int32) = nI 5 := rfl
    rw [e5, if_neg (fun q => k ((nI_eq (by omega) (by omega)).mp q))]
    by_cases k2 : sP σ p 4 ≤ mLimit (sP σ p)
    · rw [if_pos ((nI_leI (by omega) (by omega)).mpr k2), if_neg (by simp; omega)]
    · rw [if_neg (fun q => k2 ((nI_leI (by omega) (by omega)).mp q)), if_pos (by simp [k]; omega)]
theorem grow_c {μ : ZMem} {v : Nat} {σ : Sg} {p x : Nat} (hv : VS v) (hN : sN σ ≤ 7) (hp : p < sN σ) (hq : wfP (sP σ p)) (hx : x ≤ 1000) : fX1_grow 131 (v + 2 + p) (nI x) (ovl μ v σ) = some (ovl μ v (wP σ (pset (sP σ) p 4 (min 99 (sP σ p 4 + x))))) := by
  obtain ⟨h0, h1, h2, h3, h4, h5⟩ := hq
  unfold fX1_grow
  rw [chk_t (VS_1 hv (by omega)), ovl_p μ v σ hp (by omega), nI_add, lt_e]
  have e : (if nI (sP σ p 4 + x) < (99 : Int32) then nI (sP σ p 4 + x) else (99 : Int32)) = nI (min 99 (sP σ p 4 + x)) := by
    simp (disch := omega) only [i_lit, nI_ltI]
    split
    · rw [Nat.min_eq_right (by omega)]
    · rw [Nat.min_eq_left (by omega)]
  rw [e, ovl_uP μ v σ _ hp (by omega)]
theorem rest_c {μ : ZMem} {v : Nat} {σ : Sg} {p x : Nat} (hv : VS v) (hN : sN σ ≤ 7) (hp : p < sN σ) (hq : wfP (sP σ p)) (hx : x ≤ 1000) : fX1_rest 131 (v + 2 + p) (nI x) (ovl μ v σ) = some (ovl μ v (wP σ (pset (sP σ) p 4 (sP σ p 4 - x)))) := by
  obtain ⟨h0, h1, h2, h3, h4, h5⟩ := hq
  unfold fX1_rest
  rw [chk_t (VS_1 hv (by omega)), ovl_p μ v σ hp (by omega), lt_e]
  have e : (if (0 : Int32) < nI (sP σ p 4) - nI x then nI (sP σ p 4) - nI x else (0 : Int32)) = nI (sP σ p 4 - x) := by
    by_cases h : x ≤ sP σ p 4
    · rw [pk_sub h]
      simp (disch := omega) only [i_lit, nI_ltI]
      split
      · rfl
      · rw [show sP σ p 4 - x = 0 by omega]
    · rw [if_neg (fun q => (fa_of_lt (pk_sneg (by omega) (by omega : sP σ p 4 < x))).2.2.1 q), show sP σ p 4 - x = 0 by omega]
      rfl
  rw [e, ovl_uP μ v σ _ hp (by omega)]
