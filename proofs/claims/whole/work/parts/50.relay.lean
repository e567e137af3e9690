-- RELAY: the search
abbrev Bst : Type := Option Nat × (Nat → Nat)
def keepB (d : Nat) (r : Nat → Nat) (b : Bst) : Bst := match b.1 with
  | none => (some d, r)
  | some e => if e < d then (some d, r) else b
def fullB (w : Nat) (b : Bst) : Bool := match b.1 with
  | none => false
  | some e => decide (w ≤ e)
def rset (r : Nat → Nat) (l p : Nat) : Nat → Nat := fun j => if j = l then p else r j
def cLoop (f : Nat → Bst → Bst) (w : Nat) : Nat → Nat → Bst → Bst
  | 0, _, b => b
  | k + 1, p, b => if fullB w b = true then b else cLoop f w k (p + 1) (f p b)
def fLoop (f : Nat → Bst → Bst) : Nat → Nat → Bst → Bst
  | 0, _, b => b
  | k + 1, p, b => fLoop f k (p + 1) (f p b)
def oB (o : Option Sg) (g : Sg → Bst) (b : Bst) : Bst := match o with
  | none => b
  | some τ => g τ
def mC (m N : Nat) : Nat → Nat → Sg → (Nat → Nat) → Bst → Bst
  | 0, _, σ, r, b => keepB (sD σ) r b
  | rem + 1, l, σ, r, b => cLoop (fun p b => oB (mLeg m (wB σ (some p))) (fun τ => mC m N rem (l + 1) τ (rset r l p) b) b) (sY σ) N 0 b
def mM (m N : Nat) : Nat → Nat → Option Sg → (Nat → Nat) → Bst → Bst
  | 0, _, st, r, b => oB st (fun σ => keepB (sD σ) r b) b
  | rem + 1, l, st, r, b => fLoop (fun p b => mM m N rem (l + 1) (st.bind (fun σ => mLeg m (wB σ (some p)))) (rset r l p) b) N 0 b
theorem fLoop_same {f : Nat → Bst → Bst} {N : Nat} {b : Bst} (h : ∀ p, p < N → f p b = b) : ∀ k p, k + p = N → fLoop f k p b = b := by
  intro k
  induction k with
  | zero => intro p _; rfl
  | succ k ih =>
    intro p q
    unfold fLoop
    rw [h p (by omega)]
    exact ih (p + 1) (by omega)
theorem mM_none (m N : Nat) : ∀ rem l r b, mM m N rem l none r b = b := by
  intro rem
  induction rem with
  | zero => intro l r b; rfl
  | succ rem ih =>
    intro l r b
    unfold mM
    exact fLoop_same (N := N) (fun p _ => ih _ _ _) N 0 rfl
theorem keepB_full {w d : Nat} {r : Nat → Nat} {b : Bst} (h : fullB w b = true) (hd : d ≤ w) : keepB d r b = b := by
  unfold fullB at h
  unfold keepB
  cases e : b.1 with
  | none => rw [e] at h; cases h
  | some x =>
    rw [e] at h
    have h2 : w ≤ x := of_decide_eq_true h
    show (if x < d then (some d, r) else b) = b
    rw [if_neg (by omega)]
theorem mM_full (m N : Nat) : ∀ rem l σ r b, Wf σ → sN σ = N → fullB (sY σ) b = true → mM m N rem l (some σ) r b = b := by
  intro rem
  induction rem with
  | zero =>
    intro l σ r b hW hN hf
    exact keepB_full hf hW.2.2.1.1
  | succ rem ih =>
    intro l σ r b hW hN hf
    unfold mM
    refine fLoop_same (N := N) (fun p hp => ?_) N 0 rfl
    show mM m N rem (l + 1) (mLeg m (wB σ (some p))) (rset r l p) b = b
    cases hm : mLeg m (wB σ (some p)) with
    | none => exact mM_none m N _ _ _ _
    | some τ =>
      obtain ⟨a1, a2, a3⟩ := Wf_leg m (Wf_wB hW (fun q h => by cases h; omega)) hm
      refine ih (l + 1) τ _ b a1 (a2.trans hN) ?_
      rw [a3]
      exact hf
theorem loopEq {f g : Nat → Bst → Bst} {w N : Nat} (h1 : ∀ p, p < N → ∀ b, f p b = g p b) (h2 : ∀ p, p < N → ∀ b, fullB w b = true → g p b = b) : ∀ k p b, k + p = N → cLoop f w k p b = fLoop g k p b := by
  intro k
  induction k with
  | zero => intro p b _; rfl
  | succ k ih =>
    intro p b q
    unfold cLoop
    by_cases hf : fullB w b = true
    · rw [if_pos hf]
      exact (fLoop_same (N := N) (fun p hp => h2 p hp b hf) (k + 1) p q).symm
    · rw [if_neg hf, h1 p (by omega), ih (p + 1) _ (by omega)]
      rfl
theorem mCM (m N : Nat) : ∀ rem l σ r b, Wf σ → sN σ = N → mC m N rem l σ r b = mM m N rem l (some σ) r b := by
  intro rem
  induction rem with
  | zero => intro l σ r b _ _; rfl
  | succ rem ih =>
    intro l σ r b hW hN
    unfold mC mM
    refine loopEq (N := N) (fun p hp b => ?_) (fun p hp b hf => ?_) N 0 b rfl
    · show oB (mLeg m (wB σ (some p))) (fun τ => mC m N rem (l + 1) τ (rset r l p) b) b = mM m N rem (l + 1) (mLeg m (wB σ (some p))) (rset r l p) b
      cases hm : mLeg m (wB σ (some p)) with
      | none => exact (mM_none m N _ _ _ _).symm
      | some τ =>
        obtain ⟨a1, a2, a3⟩ := Wf_leg m (Wf_wB hW (fun q h => by cases h; omega)) hm
        exact ih (l + 1) τ _ b a1 (a2.trans hN)
    · show mM m N rem (l + 1) (mLeg m (wB σ (some p))) (rset r l p) b = b
      cases hm : mLeg m (wB σ (some p)) with
      | none => exact mM_none m N _ _ _ _
      | some τ =>
        obtain ⟨a1, a2, a3⟩ := Wf_leg m (Wf_wB hW (fun q h => by cases h; omega)) hm
        refine mM_full m N rem (l + 1) τ _ b a1 (a2.trans hN) ?_
        rw [a3]
        exact hf
-- the class's memory
def BM (c : ZMem) (a K : Nat) (b : Bst) : Prop := ∀ e, b.1 = some e → e ≤ 999 ∧ ∀ j, j < K → c.1 a j = nI (b.2 j)
def PC (μ : ZMem) (K l : Nat) (st : Nat → Sg) (r : Nat → Nat) (b : Bst) (X : ZMem) : Prop := X.2 = μ.2 ∧ (∀ a k, a < 45 ∨ 94 ≤ a → X.1 a k = μ.1 a k) ∧ (∀ i, i ≤ l → VH X (47 + 9 * i) (st i) ∧ sN (st i) ≤ 7) ∧ (∀ j, j < l → X.1 92 j = nI (r j)) ∧ X.1 45 3 = oI b.1 ∧ BM X 93 K b
theorem PC_R {μ : ZMem} {K l : Nat} {st : Nat → Sg} {r : Nat → Nat} {b : Bst} {X : ZMem} (hR : HR μ) (h : PC μ K l st r b X) : HR X := HR_of hR (congrArg Prod.snd h.1)
theorem VSl : ∀ i, i < 5 → VS (47 + 9 * i) ∧ (46, i, 47 + 9 * i) ∈ zRFt ∧ inb (nI i) 46 = true := by
  have g : ∀ i, i < 5 → (47 + 9 * i) ∈ [18, 27, 36, 47, 56, 65, 74, 83, 96] ∧ (46, i, 47 + 9 * i) ∈ zRFt ∧ inb (nI i) 46 = true := by decide +kernel
  exact g
theorem r46 {μ : ZMem} (hR : HR μ) : zRc 131 103 μ 45 0 = some 46 := zRc_of (hR (45, 0, 46) (by decide +kernel)) (by decide)
theorem r92 {μ : ZMem} (hR : HR μ) : zRc 131 100 μ 45 1 = some 92 := zRc_of (hR (45, 1, 92) (by decide +kernel)) (by decide)
theorem r93 {μ : ZMem} (hR : HR μ) : zRc 131 100 μ 45 2 = some 93 := zRc_of (hR (45, 2, 93) (by decide +kernel)) (by decide)
theorem r47 {μ : ZMem} (hR : HR μ) {i : Nat} (hi : i < 5) : zRc 131 4 μ 46 (nI i).toNatClampNeg = some (47 + 9 * i) := by
  rw [nI_clamp (by omega)]
  exact zRc_of (hR _ (VSl i hi).2.1) (VS_c (VSl i hi).1)
theorem i92 {i : Nat} (hi : i < 4) : inb (nI i) 92 = true := inb_nI (by rw [show zsz 92 = 4 by decide]; exact hi)
theorem i93 {i : Nat} (hi : i < 4) : inb (nI i) 93 = true := inb_nI (by rw [show zsz 93 = 4 by decide]; exact hi)
theorem c2_c : isC 131 2 45 = true := by decide
def cpw (X : ZMem) (i : Nat) : ZMem := (fun a j => if a = 93 ∧ j < i then X.1 92 j else X.1 a j, X.2)
theorem cpw_s (X : ZMem) (i : Nat) : zpI (cpw X i) 93 i (zI (cpw X i) 92 i) = cpw X (i + 1) := by
  refine Prod.ext ?_ rfl
  funext a j
  simp only [zpI, zI, cpw]
  by_cases h : a = 93 ∧ j = i
  · obtain ⟨rfl, rfl⟩ := h
    rw [if_pos ⟨rfl, rfl⟩, if_neg (by omega), if_pos (by omega)]
  · rw [if_neg h]
    by_cases c : a = 93 ∧ j < i
    · rw [if_pos c, if_pos (by omega)]
    · rw [if_neg c, if_neg (by omega)]
theorem cpwL {X : ZMem} {K : Nat} (hR : HR X) (hK : K ≤ 4) : ∀ k i, i ≤ K → K < k + i → fX2_keepIfBetter_b41 131 k 45 (nI K) (nI i) (cpw X i) = some (cpw X K) := by
  intro k
  induction k with
  | zero => intro i _ _; omega
  | succ k ih =>
    intro i q1 q2
    have hR2 : HR (cpw X i) := HR_of hR rfl
    rw [fX2_keepIfBetter_b41]
    by_cases hi : i = K
    · rw [if_pos ((nI_leI (by omega) (by omega)).mpr (by omega)), hi]
    · rw [if_neg (fun q => by have := (nI_leI (by omega) (by omega)).mp q; omega), r93 hR2, bd1_s, r92 hR2, bd1_s, chk_t (i92 (by omega)), chk_t (i93 (by omega)), lt_e, nI_clamp (by omega), cpw_s, nI_1]
      exact ih (i + 1) (by omega) (by omega)
theorem keep_c {μ : ZMem} {K : Nat} {st : Nat → Sg} {r : Nat → Nat} {b : Bst} {X : ZMem} (hR : HR μ) (hK : K ≤ 4) (hD : sD (st K) ≤ 999) (h : PC μ K K st r b X) : ∃ X', fX2_keepIfBetter 131 45 (nI K) X = some X' ∧ PC μ K K st r (keepB (sD (st K)) r b) X' := by
  have hX := PC_R hR h
  obtain ⟨h1, h2, h3, h4, h5, h6⟩ := h
  have hin : (0 : Int32) ≤ nI K ∧ nI K ≤ 4 := ⟨(nI_leI (a := 0) (by omega) (by omega)).mpr (by omega), (nI_leI (b := 4) (by omega) (by omega)).mpr (by omega)⟩
  have e4 : zI X (47 + 9 * K) 4 = nI (sD (st K)) := (h3 K (Nat.le_refl _)).1.1 4 (by omega) (by omega)
  have e3 : zI X 45 3 = oI b.1 := h5
  have st0 : fX2_keepIfBetter 131 45 (nI K) X = if oI b.1 < nI (sD (st K)) then fX2_keepIfBetter_b41 131 FU 45 (nI K) 0 (zpI X 45 3 (nI (sD (st K)))) else some X := by
    unfold fX2_keepIfBetter fX2_keepIfBetter_b25
    rw [chk_t c2_c, isIn_o hin, bd2_s, if_neg one_ne, r46 hX, bd1_s, chk_t (VSl K (by omega)).2.2, r47 hX (by omega), bd1_s, e3, e4, bd1_s, chk_t (VSl K (by omega)).2.2, r47 hX (by omega), bd1_s, lt_e, e4]
  have up : (b.1 = none ∨ ∃ e, b.1 = some e ∧ e < sD (st K)) → ∃ X', fX2_keepIfBetter 131 45 (nI K) X = some X' ∧ PC μ K K st r (some (sD (st K)), r) X' := by
    intro hc
    have hlt : oI b.1 < nI (sD (st K)) := by
      rcases hc with hc | ⟨e, hc, he⟩
      · rw [hc]
        have e0 : oI none = (-1 : Int32) := rfl
        rw [e0, fa_lt, nI_toInt (by omega)]
        have : (-1 : Int32).toInt = -1 := by decide
        omega
      · rw [hc]
        exact (nI_ltI (by omega) (by omega)).mpr he
    have k1 := cpwL (X := zpI X 45 3 (nI (sD (st K)))) (HR_zpI hX) hK FU 0 (by omega) (by show K < 2000 + 0; omega)
    have e0 : cpw (zpI X 45 3 (nI (sD (st K)))) 0 = zpI X 45 3 (nI (sD (st K))) := by
      refine Prod.ext ?_ rfl
      funext a j
      simp only [cpw]
      rw [if_neg (fun q => Nat.not_lt_zero _ q.2)]
    rw [e0] at k1
    have f : ∀ a j, a ≠ 93 → ¬ (a = 45 ∧ j = 3) → (cpw (zpI X 45 3 (nI (sD (st K)))) K).1 a j = X.1 a j := by
      intro a j q1 q2
      show (if a = 93 ∧ j < K then _ else (zpI X 45 3 (nI (sD (st K)))).1 a j) = _
      rw [if_neg (fun q => q1 q.1)]
      exact zpI_ne q2
    refine ⟨cpw (zpI X 45 3 (nI (sD (st K)))) K, ?_, h1, fun a k q => ?_, fun i q => ⟨VH_f (h3 i q).1 (h3 i q).2 (fun a k q1 q2 => f _ _ (by omega) (by omega)), (h3 i q).2⟩, fun j q => ?_, ?_, fun e q => ?_⟩
    · rw [st0, if_pos hlt]
      exact k1
    · rw [f _ _ (by omega) (by omega)]
      exact h2 a k q
    · rw [f _ _ (by omega) (by omega)]
      exact h4 j q
    · show (if 45 = 93 ∧ 3 < K then (zpI X 45 3 (nI (sD (st K)))).1 92 3 else (zpI X 45 3 (nI (sD (st K)))).1 45 3) = _
      rw [if_neg (by omega), zpI_at]
      rfl
    · cases q
      refine ⟨hD, fun j q => ?_⟩
      show (if 93 = 93 ∧ j < K then (zpI X 45 3 (nI (sD (st K)))).1 92 j else (zpI X 45 3 (nI (sD (st K)))).1 93 j) = nI (r j)
      rw [if_pos ⟨rfl, q⟩, zpI_ne (by omega)]
      exact h4 j q
  unfold keepB
  cases hb : b.1 with
  | none => exact up (Or.inl hb)
  | some e =>
    have he := (h6 e hb).1
    by_cases c : e < sD (st K)
    · show ∃ X', _ ∧ PC μ K K st r (if e < sD (st K) then (some (sD (st K)), r) else b) X'
      rw [if_pos c]
      exact up (Or.inr ⟨e, hb, c⟩)
    · show ∃ X', _ ∧ PC μ K K st r (if e < sD (st K) then (some (sD (st K)), r) else b) X'
      rw [if_neg c]
      refine ⟨X, ?_, h1, h2, h3, h4, h5, h6⟩
      rw [st0, if_neg]
      rw [hb]
      exact fun q => c ((nI_ltI (by omega) (by omega)).mp q)
theorem try_c {μ : ZMem} {K m N : Nat} (hR : HR μ) (hK : K ≤ 4) (hm : m < 1000) (hN7 : N ≤ 7) : ∀ rem l, l + rem = K → ∀ q st r b X, rem < q → Wf (st l) → sN (st l) = N → PC μ K l st r b X → ∃ X', fX2_tryLeg 131 q 45 (nI l) (nI K) (nI m) X = some X' ∧ PC μ K l st r (mC m N rem l (st l) r b) X' := by
  intro rem
  induction rem with
  | zero =>
    intro l hl q st r b X hq hW hN h
    obtain ⟨q', rfl⟩ : ∃ q', q = q' + 1 := ⟨q - 1, by omega⟩
    have e : l = K := by omega
    subst e
    have hD := hW.2.2.1
    obtain ⟨X', a1, a2⟩ := keep_c hR hK (by omega) h
    refine ⟨X', ?_, a2⟩
    rw [fX2_tryLeg]
    unfold fX2_tryLeg_b14
    rw [chk_t c2_c, if_pos ((nI_leI (by omega) (by omega)).mpr (Nat.le_refl _)), a1, bd1_s]
  | succ rem ih =>
    intro l hl q st r b X hq hW hN h
    obtain ⟨q', rfl⟩ : ∃ q', q = q' + 1 := ⟨q - 1, by omega⟩
    have hl4 : l < 4 := by omega
    have vl := (VSl l (by omega)).1
    have vt := (VSl (l + 1) (by omega)).1
    have loop : ∀ k p b X, p ≤ N → N < k + p → PC μ K l st r b X → ∃ X', fX2_tryLeg_b41 (fX2_tryLeg 131 q') 131 k 45 (nI l) (nI K) (nI m) (47 + 9 * l) (47 + 9 * (l + 1)) (nI p) X = some X' ∧ PC μ K l st r (cLoop (fun p b => oB (mLeg m (wB (st l) (some p))) (fun τ => mC m N rem (l + 1) τ (rset r l p) b) b) (sY (st l)) (N - p) p b) X' := by
      intro k
      induction k with
      | zero => intro p b X _ _; omega
      | succ k ihk =>
        intro p b X q1 q2 h
        have hX := PC_R hR h
        have h0 := h
        obtain ⟨h1, h2, h3, h4, h5, h6⟩ := h
        have e1 : zI X (47 + 9 * l) 1 = nI N := by
          have := (h3 l (Nat.le_refl _)).1.1 1 (by omega) (by omega)
          rw [← hN]
          exact this
        have e3 : zI X (47 + 9 * l) 3 = nI (sY (st l)) := (h3 l (Nat.le_refl _)).1.1 3 (by omega) (by omega)
        have e4 : zI X 45 3 = oI b.1 := h5
        rw [fX2_tryLeg_b41]
        unfold fX2_tryLeg_b104 fX2_tryLeg_b98
        rw [e1, e3, e4]
        by_cases hp : p = N
        · rw [if_pos ((nI_leI (by omega) (by omega)).mpr (by omega)), hp, Nat.sub_self]
          exact ⟨X, rfl, h0⟩
        · rw [if_neg (fun q => by have := (nI_leI (by omega) (by omega)).mp q; omega), show N - p = (N - (p + 1)) + 1 by omega]
          unfold cLoop
          have hY := hW.2.2.1.2
          by_cases hf : fullB (sY (st l)) b = true
          · have hle : nI (sY (st l)) ≤ oI b.1 := by
              unfold fullB at hf
              cases e : b.1 with
              | none => rw [e] at hf; cases hf
              | some x =>
                have := (h6 x e).1
                rw [e] at hf
                exact (nI_leI (by omega) (by omega)).mpr (of_decide_eq_true hf)
            rw [if_pos hle, if_pos hf]
            exact ⟨X, rfl, h0⟩
          · have hle : ¬ nI (sY (st l)) ≤ oI b.1 := by
              intro q
              apply hf
              unfold fullB
              cases e : b.1 with
              | none =>
                rw [e] at q
                have e0 : oI none = (-1 : Int32) := rfl
                rw [e0, fa_le, nI_toInt (by omega)] at q
                have : (-1 : Int32).toInt = -1 := by decide
                omega
              | some x =>
                have := (h6 x e).1
                rw [e] at q
                exact decide_eq_true ((nI_leI (by omega) (by omega)).mp q)
            rw [if_neg hle, if_neg hf, r92 hX, bd1_s, chk_t (i92 hl4), lt_e, nI_clamp (by omega)]
            have hX1 : HR (zpI X 92 l (nI p)) := HR_zpI hX
            have hv1 : VH (zpI X 92 l (nI p)) (47 + 9 * l) (st l) := VH_f (h3 l (Nat.le_refl _)).1 (h3 l (Nat.le_refl _)).2 (fun a k q1 q2 => zpI_ne (by omega))
            have ld := load_c (μ := zpI X 92 l (nI p)) (σ := st l) vt vl (by omega) hX1 (by omega)
            rw [VH_e hv1] at ld
            obtain ⟨τ, t1, t2, t3⟩ := leg_c (μ := zpI X 92 l (nI p)) (σ := st l) (p := p) vt hX1 hm hW (by omega)
            rw [ld, bd1_s, t2, bd2_s]
            have f : ∀ a j, (a < 47 + 9 * (l + 1) ∨ 47 + 9 * (l + 1) + 9 ≤ a) → ¬ (a = 92 ∧ j = l) → (ovl (zpI X 92 l (nI p)) (47 + 9 * (l + 1)) τ).1 a j = X.1 a j := fun a j q1 q2 => (ovl_o _ _ τ j (by omega) (by omega)).trans (zpI_ne q2)
            have P3 : PC μ K l st r b (ovl (zpI X 92 l (nI p)) (47 + 9 * (l + 1)) τ) := by
              refine ⟨h1, fun a k q => ?_, fun i q => ⟨VH_f (h3 i q).1 (h3 i q).2 (fun a k q1 q2 => f _ _ (by omega) (by omega)), (h3 i q).2⟩, fun j q => ?_, ?_, fun e q => ⟨(h6 e q).1, fun j qj => ?_⟩⟩
              · rw [f _ _ (by omega) (by omega)]; exact h2 a k q
              · rw [f _ _ (by omega) (by omega)]; exact h4 j q
              · rw [f _ _ (by omega) (by omega)]; exact h5
              · rw [f _ _ (by omega) (by omega)]; exact (h6 e q).2 j qj
            cases hml : mLeg m (wB (st l) (some p)) with
            | none =>
              rw [if_pos (show bI (none : Option Sg).isSome = 0 by decide), nI_1]
              exact ihk (p + 1) b _ (by omega) (by omega) P3
            | some ρ =>
              have et := t3 ρ hml
              subst et
              obtain ⟨w1, w2, w3⟩ := Wf_leg m (Wf_wB hW (fun q h => by cases h; omega)) hml
              have P4 : PC μ K (l + 1) (fun i => if i = l + 1 then τ else st i) (rset r l p) b (ovl (zpI X 92 l (nI p)) (47 + 9 * (l + 1)) τ) := by
                obtain ⟨g1, g2, g3, g4, g5, g6⟩ := P3
                refine ⟨g1, g2, fun i q => ?_, fun j q => ?_, g5, g6⟩
                · show VH _ _ (if i = l + 1 then τ else st i) ∧ sN (if i = l + 1 then τ else st i) ≤ 7
                  by_cases hi : i = l + 1
                  · rw [if_pos hi, hi]
                    exact ⟨VH_o _ _ _, by omega⟩
                  · rw [if_neg hi]
                    exact g3 i (by omega)
                · show _ = nI (if j = l then p else r j)
                  by_cases hj : j = l
                  · rw [if_pos hj, hj]
                    exact (ovl_o _ _ τ l (by omega) (by omega)).trans (zpI_at _ _ _ _)
                  · rw [if_neg hj]
                    exact g4 j (by omega)
              obtain ⟨X4, x1, x2⟩ := ih (l + 1) (by omega) q' (fun i => if i = l + 1 then τ else st i) (rset r l p) b _ (by omega) (by show Wf (if l + 1 = l + 1 then τ else st (l + 1)); rw [if_pos rfl]; exact w1) (by show sN (if l + 1 = l + 1 then τ else st (l + 1)) = N; rw [if_pos rfl, t1]; exact hN) P4
              have es : (if l + 1 = l + 1 then τ else st (l + 1)) = τ := if_pos rfl
              rw [es] at x2
              have P5 : PC μ K l st r (mC m N rem (l + 1) τ (rset r l p) b) X4 := by
                obtain ⟨g1, g2, g3, g4, g5, g6⟩ := x2
                refine ⟨g1, g2, fun i q => ?_, fun j q => ?_, g5, g6⟩
                · have := g3 i (by omega)
                  dsimp only at this
                  have e : (if i = l + 1 then τ else st i) = st i := if_neg (by omega)
                  rw [e] at this
                  exact this
                · have := g4 j (by omega)
                  have e : rset r l p j = r j := if_neg (by omega)
                  rw [e] at this
                  exact this
              rw [if_neg (show ¬ bI (some τ).isSome = 0 from one_ne), nI_1, nI_1, x1, bd1_s]
              exact ihk (p + 1) _ _ (by omega) (by omega) P5
    have hX := PC_R hR h
    obtain ⟨X', x1, x2⟩ := loop FU 0 b X (Nat.zero_le _) (by show N < 2000 + 0; omega) h
    refine ⟨X', ?_, x2⟩
    rw [fX2_tryLeg, chk_t c2_c, if_neg (fun q => by have := (nI_leI (by omega) (by omega)).mp q; omega), if_neg (nI_pos (by omega)), if_pos (show nI l < (4 : Int32) from (nI_ltI (b := 4) (by omega) (by omega)).mpr hl4), r46 hX, bd1_s, chk_t (VSl l (by omega)).2.2, r47 hX (by omega), bd1_s, bd1_s, nI_1, chk_t (VSl (l + 1) (by omega)).2.2, r47 hX (by omega), bd1_s]
    exact x1
