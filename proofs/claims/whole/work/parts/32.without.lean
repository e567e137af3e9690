-- PRAISE, WITHOUT
theorem oI_m1 {o : Option Nat} (ho : ∀ r, o = some r → r < 1000) : oI o = -1 ↔ o = none := by
  cases o with
  | none => exact ⟨fun _ => rfl, fun _ => rfl⟩
  | some r =>
    have := ho r rfl
    exact ⟨fun q => absurd q (nI_m1 (by omega)), fun q => (by cases q)⟩
theorem cutO_lt {n : Nat} {o : Option Nat} (hn : n < 1000) : ∀ r, cutO n o = some r → r < 1000 := by
  intro r h
  cases o with
  | none => cases h
  | some q =>
    unfold cutO at h
    by_cases hl : q < n
    · simp only [hl, if_true] at h
      cases h
      omega
    · simp only [hl, if_false] at h
      cases h
theorem isOver_q {S : St} (hw : WfS S) {μ : ZMem} (hR : HR μ) (h : InvM μ S) : RM μ (fX7_isOver 131 108 μ) (oI (oW S (sW (gV S))), S) := by
  have k1 := isOver_m (sil := none) hR hw.1 h.2.2.2.2.2.2.2.2.1 (fun q h => by cases h) (MH_e h.1)
  exact RM_L (Or.inr rfl) hR hw h k1
theorem Kp_praise {S : St} (hw : WfS S) (t : Int32) : Kp S (fX6_praise 131 0 t) (fX7_praise 131 108 t) := by
  have hW := hw.1.2.1
  by_cases hc : (0 : Int32) ≤ t ∧ t ≤ 200
  · obtain ⟨k, k0, k5, rfl⟩ := in_nat (lo := 0) (hi := 200) (by omega) (by omega) hc
    -- not over, by a weight
    have no : ∀ m, oI (cutO (k + 1) (oW S m)) = -1 ↔ (oI (oW S m) = -1 ∨ ¬ oI (oW S m) ≤ nI k) := by
      intro m
      rw [oI_m1 (cutO_lt (by omega)), oI_m1 (fun r => oW_lt)]
      cases ho : oW S m with
      | none => exact ⟨fun _ => Or.inl rfl, fun _ => rfl⟩
      | some r =>
        have hr := oW_lt ho
        show (if r < k + 1 then some r else none) = none ↔ _ ∨ ¬ nI r ≤ nI k
        rw [nI_leI (by omega) (by omega)]
        by_cases hl : r < k + 1
        · rw [if_pos hl]
          exact ⟨fun q => (by cases q), fun q => by rcases q with q | q; cases q; omega⟩
        · rw [if_neg hl]
          exact ⟨fun _ => Or.inr (by omega), fun _ => rfl⟩
    have both : ∀ j m, sW (gV S) < m → m ≤ 100 → 100 < j + m → ∃ x, (∀ μ, HR μ → InvC μ S → RC μ (fX6_praise_b46 131 j 0 (nI k) (nI m) μ) (x, S)) ∧ ∀ μ, HR μ → InvM μ S → RM μ (fX7_praise_b43 131 j 108 (nI k) (nI m) μ) (x, S) := by
      intro j
      induction j with
      | zero => intro m _ _ h; omega
      | succ j ih =>
        intro m h1 hm hj
        by_cases h0 : m = 100
        · subst h0
          refine ⟨-1, fun μ hR h => RC_q hR h ?_, fun μ hR h => RM_q hR h ?_⟩
          · rw [fX6_praise_b46, if_pos (by decide)]
          · rw [fX7_praise_b43, if_pos (by decide)]
        · have n1 : ¬ (99 : Int32) < nI m := fun q => by have := (nI_ltI (a := 99) (by omega) (by omega)).mp q; omega
          by_cases hq : oI (cutO (k + 1) (oW S m)) = -1
          · refine ⟨nI m - nI (sW (gV S)), fun μ hR h => ?_, fun μ hR h => ?_⟩
            · rw [fX6_praise_b46, if_neg n1]
              refine RC_b (S := S) (overW_c hw (by omega) (by omega) k5 hR h) (fun ν hR2 h2 => ?_)
              have e2 : zI ν 18 2 = nI (sW (gV S)) := h2.1.1 2 (by omega) (by omega)
              rw [if_pos hq, cr1 hR2, bd1_s, e2]
              exact RC_q hR2 h2 rfl
            · rw [fX7_praise_b43, if_neg n1]
              refine RM_b (S := S) (overW_m hw (by omega) (by omega) hR h) (fun ν hR2 h2 => ?_)
              have e2 : zI ν 108 1 = nI (sW (gV S)) := h2.1.1 1 (by omega)
              unfold fX7_praise_b68
              rw [e2]
              refine RM_q hR2 h2 ?_
              rcases (no m).mp hq with g | g
              · rw [if_pos g]
              · rw [if_neg g]
                split <;> rfl
          · obtain ⟨x, xc, xm⟩ := ih (m + 1) (by omega) (by omega) (by omega)
            refine ⟨x, fun μ hR h => ?_, fun μ hR h => ?_⟩
            · rw [fX6_praise_b46, if_neg n1]
              refine RC_b (S := S) (overW_c hw (by omega) (by omega) k5 hR h) (fun ν hR2 h2 => ?_)
              rw [if_neg hq, nI_1]
              exact xc ν hR2 h2
            · rw [fX7_praise_b43, if_neg n1]
              refine RM_b (S := S) (overW_m hw (by omega) (by omega) hR h) (fun ν hR2 h2 => ?_)
              have g := fun q => hq ((no m).mpr q)
              rw [if_neg (fun q => g (Or.inl q)), if_pos (Decidable.byContradiction fun q => g (Or.inr q)), nI_1]
              exact xm ν hR2 h2
    by_cases hq : oI (cutO (k + 1) (oW S (sW (gV S)))) = -1
    · refine ⟨(-1, S), hw, fun μ hR h => ?_, fun μ hR h => ?_⟩
      · have e2 : zI μ 18 2 = nI (sW (gV S)) := h.1.1 2 (by omega) (by omega)
        unfold fX6_praise
        rw [chk_t c_c, isIn_o hc, bd2_s, if_neg one_ne, cr1 hR, bd1_s, e2]
        refine RC_b (S := S) (overW_c hw hW.1 hW.2 k5 hR h) (fun ν hR2 h2 => ?_)
        rw [if_pos hq]
        exact RC_q hR2 h2 rfl
      · unfold fX7_praise fX7_praise_b34
        rw [chk_t m_c, isF_o hc, bd2_s, if_neg one_ne]
        refine RM_b (S := S) (isOver_q hw hR h) (fun ν hR2 h2 => ?_)
        rcases (no _).mp hq with g | g
        · rw [if_pos g]
          exact RM_q hR2 h2 rfl
        · rw [if_neg g]
          refine RM_q hR2 h2 ?_
          split <;> rfl
    · obtain ⟨x, xc, xm⟩ := both FU (sW (gV S) + 1) (by omega) (by omega) (by show 100 < 2000 + _; omega)
      refine ⟨(x, S), hw, fun μ hR h => ?_, fun μ hR h => ?_⟩
      · have e2 : zI μ 18 2 = nI (sW (gV S)) := h.1.1 2 (by omega) (by omega)
        unfold fX6_praise
        rw [chk_t c_c, isIn_o hc, bd2_s, if_neg one_ne, cr1 hR, bd1_s, e2]
        refine RC_b (S := S) (overW_c hw hW.1 hW.2 k5 hR h) (fun ν hR2 h2 => ?_)
        have e3 : zI ν 18 2 = nI (sW (gV S)) := h2.1.1 2 (by omega) (by omega)
        rw [if_neg hq, cr1 hR2, bd1_s, e3, nI_1]
        exact xc ν hR2 h2
      · unfold fX7_praise
        rw [chk_t m_c, isF_o hc, bd2_s, if_neg one_ne]
        refine RM_b (S := S) (isOver_q hw hR h) (fun ν hR2 h2 => ?_)
        have e3 : zI ν 108 1 = nI (sW (gV S)) := h2.1.1 1 (by omega)
        have g := fun q => hq ((no _).mpr q)
        rw [if_neg (fun q => g (Or.inl q)), if_pos (Decidable.byContradiction fun q => g (Or.inr q)), e3, nI_1]
        exact xm ν hR2 h2
  · refine Kp_far 6 (by omega) (by omega) hw (fun μ hR h => ?_) (fun μ hR h => ?_)
    · unfold fX6_praise
      rw [chk_t c_c, isIn_z hc, bd2_s, if_pos rfl, bd2_e]; rfl
    · unfold fX7_praise
      rw [chk_t m_c, isF_z hc, bd2_s, if_pos rfl, bd2_e]; rfl
theorem RC_a {μ ν : ZMem} {r : Option (ZMem × Int32)} {q : Int32 × St} (hE : EqM μ ν) (h : RC ν r q) : RC μ r q := by
  obtain ⟨ξ, e, hR, hI, hE2⟩ := h
  exact ⟨ξ, e, hR, hI, EqM_t hE hE2⟩
theorem RM_a {μ ν : ZMem} {r : Option (ZMem × Int32)} {q : Int32 × St} (hE : EqC μ ν) (h : RM ν r q) : RM μ r q := by
  obtain ⟨ξ, e, hR, hI, hE2⟩ := h
  exact ⟨ξ, e, hR, hI, EqC_t hE hE2⟩
theorem InvC_T {μ : ZMem} {S : St} {σ : Sg} (hw : WfS S) (hN : sN σ ≤ 7) (h : InvC μ S) : InvC (ovl μ 36 σ) S := InvC_f hw h (fun a k q => ovl_o μ 36 σ k (by omega) hN) (fun a k q => rfl)
/-- without p, from the now on -/
def wX (S : St) (p : Nat) : Sg := if sB (gV S) = some p then wB (gV S) none else gV S
def oX (S : St) (p : Nat) : Option Nat := mOver (some p) 201 0 (wX S p)
def nX (S : St) (p : Nat) : Nat := match oX S p with
  | some r => r
  | none => 201
theorem nX_le (S : St) (p : Nat) : nX S p ≤ 201 ∧ (nX S p = 201 ↔ oX S p = none) := by
  unfold nX
  cases h : oX S p with
  | none => exact ⟨Nat.le_refl _, fun _ => rfl, fun _ => rfl⟩
  | some r =>
    have := mOver_ge _ _ _ _ _ h
    exact ⟨by show r ≤ 201; omega, fun q => by have q2 : r = 201 := q; omega, fun q => (by cases q)⟩
theorem Wf_wX {S : St} (hw : WfS S) (p : Nat) : Wf (wX S p) ∧ sN (wX S p) = sN (gV S) := by
  unfold wX
  by_cases h : sB (gV S) = some p
  · rw [if_pos h]; exact ⟨Wf_wB hw.1 (fun q h => by cases h), rfl⟩
  · rw [if_neg h]; exact ⟨hw.1, rfl⟩
def mX (S : St) (p : Nat) : Int32 := match oX S p with
  | some r => nI r
  | none => 1000
theorem bS {S : St} (hw : WfS S) : ∀ q, sB (gV S) = some q → q < 1000 := fun q h => by
  have := hw.1.2.2.2.1 q h
  have := hw.1.1
  omega
theorem zpI_at (μ : ZMem) (a k : Nat) (x : Int32) : (zpI μ a k x).1 a k = x := by simp [zpI]
theorem zpI_ne {μ : ZMem} {a k b j : Nat} {x : Int32} (h : ¬ (b = a ∧ j = k)) : (zpI μ a k x).1 b j = μ.1 b j := by
  simp only [zpI]
  rw [if_neg h]
theorem overX_m {S : St} (hw : WfS S) {p : Nat} (hp : p < sN (gV S)) {μ : ZMem} (hR : HR μ) (h : InvM μ S) : RM μ (fX7_overWithout 131 108 (nI p) μ) (mX S p, S) := by
  have hN := hw.1.1
  have e := MH_e h.1
  have h33 : zI μ 108 33 = -1 := h.2.2.2.2.2.2.2.2.1
  have eb : zI μ 108 4 = oI (sB (gV S)) := h.1.1 4 (by omega)
  have e1 : ovm (zpI μ 108 33 (nI p)) (gV S) = zpI μ 108 33 (nI p) := MH_e (MH_f h.1 (fun a k q => if_neg (by omega)))
  have eb1 : zI (zpI μ 108 33 (nI p)) 108 4 = oI (sB (gV S)) := (zpI_ne (by omega)).trans eb
  have g33 : zI (zpI μ 108 33 (nI p)) 108 33 = oI (some p) := zpI_at _ _ _ _
  have k1 := isOver_m (μ := ovm (zpI μ 108 33 (nI p)) (wX S p)) (σ := wX S p) (sil := some p) (HR_ovm (HR_of hR rfl)) (Wf_wX hw p).1 ((ovm_33 _ _).trans g33) (fun q h => by cases h; omega) (ovm_i _ _)
  have b23 : fX7_overWithout_b23 131 108 (oI (sB (gV S))) (ovm (zpI μ 108 33 (nI p)) (wX S p)) = some (zpI (ovm (sav (ovm (zpI μ 108 33 (nI p)) (wX S p)) 127 (wX S p)) (gV S)) 108 33 (-1), mX S p) := by
    unfold fX7_overWithout_b23 fX7_overWithout_b50
    have ew : wB (wX S p) (sB (gV S)) = gV S := by
      unfold wX
      split <;> rfl
    rw [k1, bd2_s, lt_e, ovm_u4, lt_e, ew]
    unfold mX
    have ho : mOver (some p) 201 0 (wX S p) = oX S p := rfl
    rw [ho]
    cases hx : oX S p with
    | none => rfl
    | some r =>
      have := mOver_ge _ _ _ _ _ hx
      show (if nI r = -1 then _ else _) = _
      rw [if_neg (nI_m1 (by omega))]
      rfl
  have run : fX7_overWithout 131 108 (nI p) μ = some (zpI (ovm (sav (ovm (zpI μ 108 33 (nI p)) (wX S p)) 127 (wX S p)) (gV S)) 108 33 (-1), mX S p) := by
    unfold fX7_overWithout
    rw [chk_t m_c, lt_e, eb1, eb]
    by_cases hb : sB (gV S) = some p
    · rw [if_pos ((oI_eq (by omega) (bS hw)).mpr hb).symm, lt_e]
      have k2 := ovm_u4 (zpI μ 108 33 (nI p)) (gV S) none
      rw [e1] at k2
      have ex : wX S p = wB (gV S) none := if_pos hb
      rw [show zpI (zpI μ 108 33 (nI p)) 108 4 (-1) = _ from k2, ← ex]
      exact b23
    · rw [if_neg (fun q => hb ((oI_eq (by omega) (bS hw)).mp q.symm))]
      have ex : wX S p = gV S := if_neg hb
      rw [ex, e1] at b23
      rw [ex, e1]
      exact b23
  have ea : ∀ b k, b ≠ 127 → (zpI (ovm (sav (ovm (zpI μ 108 33 (nI p)) (wX S p)) 127 (wX S p)) (gV S)) 108 33 (-1)).1 b k = μ.1 b k := by
    intro b k hb
    by_cases h1 : b = 108 ∧ k = 33
    · obtain ⟨rfl, rfl⟩ := h1
      exact (zpI_at _ _ _ _).trans h33.symm
    · refine (zpI_ne h1).trans ?_
      have q : (ovm (sav (ovm (zpI μ 108 33 (nI p)) (wX S p)) 127 (wX S p)) (gV S)).1 b k = (ovm μ (gV S)).1 b k := by
        simp only [ovm, sav_o hb, zpI, if_neg h1]
        repeat' split
        all_goals first | rfl | omega
      rw [q, e]
  exact ⟨_, run, HR_of hR rfl, InvM_f hw h (fun b k q => ea b k (by omega)) (fun k => rfl), fun b k q => ⟨ea b k (by omega), rfl⟩⟩
/-- best and soonest behind the first i -/
def mB (S : St) : Nat → Nat × Nat
  | 0 => (0, 202)
  | i + 1 => if nX S i < (mB S i).2 then (i, nX S i) else mB S i
theorem mB_le (S : St) : ∀ i, 1 ≤ i → (mB S i).2 ≤ 201 ∧ (mB S i).1 < i := by
  intro i
  induction i with
  | zero => intro h; omega
  | succ i ih =>
    intro _
    have hx := (nX_le S i).1
    unfold mB
    by_cases h0 : i = 0
    · subst h0
      rw [if_pos (show nX S 0 < (mB S 0).2 from by show nX S 0 < 202; omega)]
      exact ⟨hx, by show 0 < 0 + 1; omega⟩
    · have := ih (by omega)
      split
      · exact ⟨hx, by show i < i + 1; omega⟩
      · omega
def m2 (n : Nat) : Int32 := if n = 201 then 1000 else nI n
theorem mX_e (S : St) (p : Nat) : mX S p = m2 (nX S p) := by
  have h := nX_le S p
  unfold mX m2
  unfold nX at h ⊢
  cases hx : oX S p with
  | none => rfl
  | some r =>
    rw [hx] at h
    show nI r = if r = 201 then 1000 else nI r
    rw [if_neg (fun q => by have := h.2.mp q; cases this)]
theorem m2_lt {a b : Nat} (ha : a ≤ 201) (hb : b ≤ 201) : m2 a < m2 b ↔ a < b := by
  unfold m2
  by_cases h1 : a = 201
  · rw [if_pos h1]
    by_cases h2 : b = 201
    · rw [if_pos h2]
      exact ⟨fun q => absurd q (by decide), fun q => by omega⟩
    · rw [if_neg h2, show (1000 : Int32) = nI 1000 from rfl, nI_ltI (by omega) (by omega)]
      omega
  · rw [if_neg h1]
    by_cases h2 : b = 201
    · rw [if_pos h2, show (1000 : Int32) = nI 1000 from rfl, nI_ltI (by omega) (by omega)]
      omega
    · rw [if_neg h2, nI_ltI (by omega) (by omega)]
theorem withC {S : St} (hw : WfS S) : ∀ j i, i ≤ sN (gV S) → sN (gV S) < j + i → ∀ μ, HR μ → InvC μ S → RC μ (fX6_without_b25 131 j 0 (nI (mB S i).1) (nI (mB S i).2) (nI i) μ) (nI (mB S (sN (gV S))).1, S) := by
  have hN := hw.1.1
  intro j
  induction j with
  | zero => intro i _ h; omega
  | succ j ih =>
    intro i hi hj μ hR h
    have en : zI μ 18 1 = nI (sN (gV S)) := h.1.1 1 (by omega) (by omega)
    rw [fX6_without_b25, cr1 hR, bd1_s, en]
    by_cases h0 : i = sN (gV S)
    · rw [if_pos ((nI_leI (by omega) (by omega)).mpr (by omega)), h0]
      exact RC_q hR h rfl
    · have hs : (mB S i).2 ≤ 202 := by
        by_cases z : i = 0
        · subst z; exact Nat.le_refl _
        · have := mB_le S i (by omega); omega
      have hx := nX_le S i
      have hW := Wf_wX hw i
      have tail : ∀ (f : ZMem → Option (ZMem × Int32)), f = (fun ν => fX6_without_b66 (fX6_without_b25 131 j) 131 0 (nI (mB S i).1) (nI (mB S i).2) (nI i) ν) → RC μ (f (ovl μ 36 (wX S i))) (nI (mB S (sN (gV S))).1, S) := by
        intro f hf
        subst hf
        have k1 := over_c (μ := μ) (most := 200) (sil := some i) VS36 hR hW.1 (fun q h => by cases h; omega) (by omega)
        have hN2 : sN (mOverS (some i) 201 (wX S i)) ≤ 7 := by rw [mOverS_N, hW.2]; exact hN
        show RC μ (fX6_without_b66 (fX6_without_b25 131 j) 131 0 (nI (mB S i).1) (nI (mB S i).2) (nI i) (ovl μ 36 (wX S i))) _
        unfold fX6_without_b66 fX6_without_b93 fX6_without_b106
        rw [cr3 (HR_ovl hR), bd1_s, show fX4_stepsToWay 131 36 200 (nI i) (ovl μ 36 (wX S i)) = _ from k1, bd2_s, nI_1]
        refine RC_a (EqM_V (v := 36) (σ := mOverS (some i) 201 (wX S i)) (by omega) hN2) ?_
        have ho : mOver (some i) (200 + 1) 0 (wX S i) = oX S i := rfl
        rw [ho]
        have en2 : mB S (i + 1) = if nX S i < (mB S i).2 then (i, nX S i) else mB S i := rfl
        have nxt := ih (i + 1) (by omega) (by omega) _ (HR_ovl hR) (InvC_T (σ := mOverS (some i) 201 (wX S i)) hw hN2 h)
        have pick : ∀ (s0 : Int32), s0 = nI (nX S i) → RC (ovl μ 36 (mOverS (some i) 201 (wX S i))) (if nI (mB S i).2 ≤ s0 then fX6_without_b25 131 j 0 (nI (mB S i).1) (nI (mB S i).2) (nI (i + 1)) (ovl μ 36 (mOverS (some i) 201 (wX S i))) else fX6_without_b25 131 j 0 (nI i) s0 (nI (i + 1)) (ovl μ 36 (mOverS (some i) 201 (wX S i)))) (nI (mB S (sN (gV S))).1, S) := by
          intro s0 hs0
          subst hs0
          by_cases hl : nX S i < (mB S i).2
          · rw [if_neg (fun q => by have := (nI_leI (by omega) (by omega)).mp q; omega)]
            rw [en2, if_pos hl] at nxt
            exact nxt
          · rw [if_pos ((nI_leI (by omega) (by omega)).mpr (by omega))]
            rw [en2, if_neg hl] at nxt
            exact nxt
        cases hx2 : oX S i with
        | none =>
          have e2 : nX S i = 201 := hx.2.mpr hx2
          rw [if_pos (show oI none = -1 from rfl)]
          exact pick 201 (by rw [e2]; rfl)
        | some r =>
          have e2 : nX S i = r := by unfold nX; rw [hx2]
          rw [if_neg (show ¬ oI (some r) = -1 from nI_m1 (by omega))]
          exact pick (nI r) (by rw [e2])
      rw [if_neg (fun q => by have := (nI_leI (by omega) (by omega)).mp q; omega), cr3 hR, bd1_s, bd1_s, load36 hR hw (VH_e h.1), bd1_s, cr3 (HR_ovl hR), bd1_s, ovl_5]
      by_cases hb : sB (gV S) = some i
      · have ex : wX S i = wB (gV S) none := if_pos hb
        rw [if_pos ((oI_eq (by omega) (bS hw)).mpr hb).symm, bd1_s, lt_e, show zpI (ovl μ 36 (gV S)) 36 5 (-1) = _ from ovl_u5 μ 36 (gV S) none, ← ex]
        exact tail _ rfl
      · have ex : wX S i = gV S := if_neg hb
        rw [if_neg (fun q => hb ((oI_eq (by omega) (bS hw)).mp q.symm))]
        have := tail _ rfl
        rw [ex] at this
        exact this
def mV1 (S : St) (i : Nat) : Int32 := if i = 0 then -1 else nI (mB S i).1
def mV2 (S : St) (i : Nat) : Int32 := if i = 0 then 0 else m2 (mB S i).2
theorem withM {S : St} (hw : WfS S) (h1 : 1 ≤ sN (gV S)) : ∀ j i, i ≤ sN (gV S) → sN (gV S) < j + i → ∀ μ, HR μ → InvM μ S → RM μ (fX7_without_b20 131 j 108 (mV1 S i) (mV2 S i) (nI i) μ) (nI (mB S (sN (gV S))).1, S) := by
  have hN := hw.1.1
  intro j
  induction j with
  | zero => intro i _ h; omega
  | succ j ih =>
    intro i hi hj μ hR h
    have en : zI μ 108 0 = nI (sN (gV S)) := h.1.1 0 (by omega)
    rw [fX7_without_b20, en]
    by_cases h0 : i = sN (gV S)
    · rw [if_pos ((nI_leI (by omega) (by omega)).mpr (by omega)), h0]
      unfold mV1
      rw [if_neg (by omega)]
      exact RM_q hR h rfl
    · rw [if_neg (fun q => by have := (nI_leI (by omega) (by omega)).mp q; omega)]
      refine RM_b (S := S) (overX_m hw (by omega) hR h) (fun ν hR2 h2 => ?_)
      unfold fX7_without_b49 fX7_without_b54
      rw [nI_1]
      have hx := (nX_le S i).1
      have en2 : mB S (i + 1) = if nX S i < (mB S i).2 then (i, nX S i) else mB S i := rfl
      have nxt := ih (i + 1) (by omega) (by omega) ν hR2 h2
      unfold mV1 mV2 at nxt
      rw [if_neg (by omega), if_neg (by omega), en2] at nxt
      unfold mV1 mV2
      by_cases z : i = 0
      · subst z
        rw [if_pos rfl, if_pos rfl, mX_e]
        rw [if_pos (show nX S 0 < (mB S 0).2 from by show nX S 0 < 202; omega)] at nxt
        exact nxt
      · have hb := mB_le S i (by omega)
        rw [if_neg z, if_neg z, if_neg (nI_m1 (by omega)), mX_e]
        by_cases hl : nX S i < (mB S i).2
        · rw [if_pos ((m2_lt hx hb.1).mpr hl)]
          rw [if_pos hl] at nxt
          exact nxt
        · rw [if_neg (fun q => hl ((m2_lt hx hb.1).mp q))]
          rw [if_neg hl] at nxt
          exact nxt
theorem Kp_without {S : St} (hw : WfS S) : Kp S (fX6_without 131 0) (fX7_without 131 108) := by
  have hN := hw.1.1
  by_cases h0 : sN (gV S) = 0
  · refine Kp_no 5 (by omega) (by omega) hw (fun μ hR h => ?_) (fun μ hR h => ?_)
    · have en : zI μ 18 1 = nI (sN (gV S)) := h.1.1 1 (by omega) (by omega)
      unfold fX6_without
      rw [chk_t c_c, cr1 hR, bd1_s, en, h0, if_pos (show nI 0 = (0 : Int32) from rfl), bd2_e]; rfl
    · have en : zI μ 108 0 = nI (sN (gV S)) := h.1.1 0 (by omega)
      unfold fX7_without
      rw [chk_t m_c, en, h0, if_pos (show nI 0 = (0 : Int32) from rfl), bd2_e]; rfl
  · have n0 : ¬ nI (sN (gV S)) = (0 : Int32) := fun q => h0 ((nI_eq (b := 0) (by omega) (by omega)).mp q)
    refine ⟨(nI (mB S (sN (gV S))).1, S), hw, fun μ hR h => ?_, fun μ hR h => ?_⟩
    · have en : zI μ 18 1 = nI (sN (gV S)) := h.1.1 1 (by omega) (by omega)
      unfold fX6_without
      rw [chk_t c_c, cr1 hR, bd1_s, en, if_neg n0]
      exact withC hw FU 0 (by omega) (by show _ < 2000 + 0; omega) μ hR h
    · have en : zI μ 108 0 = nI (sN (gV S)) := h.1.1 0 (by omega)
      unfold fX7_without
      rw [chk_t m_c, en, if_neg n0]
      exact withM hw (by omega) FU 0 (by omega) (by show _ < 2000 + 0; omega) μ hR h
