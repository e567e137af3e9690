-- RELAY OF THE MODEL, AND BOTH
def leafS (m : Nat) (r : Nat → Nat) (σ : Sg) : Nat → Option Sg
  | 0 => some σ
  | i + 1 => (leafS m r σ i).bind (fun τ => mLeg m (wB τ (some (r i))))
theorem leafS_c {m : Nat} {r r' : Nat → Nat} {σ : Sg} : ∀ i, (∀ j, j < i → r j = r' j) → leafS m r σ i = leafS m r' σ i := by
  intro i
  induction i with
  | zero => intro _; rfl
  | succ i ih =>
    intro h
    unfold leafS
    rw [ih (fun j q => h j (by omega)), h i (by omega)]
theorem leafS_none {m : Nat} {r : Nat → Nat} {σ : Sg} {i : Nat} (h : leafS m r σ i = none) : ∀ k, leafS m r σ (i + k) = none := by
  intro k
  induction k with
  | zero => exact h
  | succ k ih =>
    show (leafS m r σ (i + k)).bind _ = none
    rw [ih]
    rfl
theorem leafS_wf {m N : Nat} {r : Nat → Nat} {σ : Sg} (hW : Wf σ) (hN : sN σ = N) : ∀ i ρ, (∀ j, j < i → r j < N) → leafS m r σ i = some ρ → Wf ρ ∧ sN ρ = N := by
  intro i
  induction i with
  | zero => intro ρ _ h; cases h; exact ⟨hW, hN⟩
  | succ i ih =>
    intro ρ hr h
    unfold leafS at h
    cases e : leafS m r σ i with
    | none => rw [e] at h; cases h
    | some τ =>
      rw [e] at h
      obtain ⟨a1, a2⟩ := ih τ (fun j q => hr j (by omega)) e
      have := hr i (by omega)
      obtain ⟨b1, b2, b3⟩ := Wf_leg m (Wf_wB a1 (fun q h => by cases h; omega)) h
      exact ⟨b1, b2.trans a2⟩
def PM (μ : ZMem) (K l : Nat) (r : Nat → Nat) (b : Bst) (X : ZMem) : Prop := X.2 = μ.2 ∧ (∀ a k, ¬ (a = 108 ∧ k = 36) → a ≠ 127 → a ≠ 128 → a ≠ 129 → X.1 a k = μ.1 a k) ∧ (∀ j, j < l → X.1 128 j = nI (r j)) ∧ X.1 108 36 = oI b.1 ∧ BM X 129 K b
theorem PM_R {μ : ZMem} {K l : Nat} {r : Nat → Nat} {b : Bst} {X : ZMem} (hR : HR μ) (h : PM μ K l r b X) : HR X := HR_of hR (congrArg Prod.snd h.1)
theorem PM_H {μ : ZMem} {K l : Nat} {r : Nat → Nat} {b : Bst} {X : ZMem} {σ : Sg} (hM : MH μ σ) (h : PM μ K l r b X) : MH X σ := MH_f hM (fun a k q => h.2.1 a k (by omega) (by omega) (by omega) (by omega))
theorem mr34 {μ : ZMem} (hR : HR μ) : zRc 131 100 μ 108 34 = some 128 := mr_ 34 128 (by decide +kernel) (by decide) hR
theorem mr35 {μ : ZMem} (hR : HR μ) : zRc 131 100 μ 108 35 = some 129 := mr_ 35 129 (by decide +kernel) (by decide) hR
theorem i128 {i : Nat} (hi : i < 4) : inb (nI i) 128 = true := inb_nI (by rw [show zsz 128 = 4 by decide]; exact hi)
theorem i129 {i : Nat} (hi : i < 4) : inb (nI i) 129 = true := inb_nI (by rw [show zsz 129 = 4 by decide]; exact hi)
def cpm (X : ZMem) (i : Nat) : ZMem := (fun a j => if a = 129 ∧ j < i then X.1 128 j else X.1 a j, X.2)
theorem cpm_s (X : ZMem) (i : Nat) : zpI (cpm X i) 129 i (zI (cpm X i) 128 i) = cpm X (i + 1) := by
  refine Prod.ext ?_ rfl
  funext a j
  simp only [zpI, zI, cpm]
  by_cases h : a = 129 ∧ j = i
  · obtain ⟨rfl, rfl⟩ := h
    rw [if_pos ⟨rfl, rfl⟩, if_neg (by omega), if_pos (by omega)]
  · rw [if_neg h]
    by_cases c : a = 129 ∧ j < i
    · rw [if_pos c, if_pos (by omega)]
    · rw [if_neg c, if_neg (by omega)]
theorem cpmL {gs : Nat → Int32 → Int32 → Int32 → ZMem → Option (ZMem)} {X : ZMem} {K : Nat} (hR : HR X) (hK : K ≤ 4) : ∀ k i, i ≤ K → K < k + i → fX7_legs_b130 gs 131 k 108 (nI K) (nI i) (cpm X i) = some (cpm X K) := by
  intro k
  induction k with
  | zero => intro i _ _; omega
  | succ k ih =>
    intro i q1 q2
    have hR2 : HR (cpm X i) := HR_of hR rfl
    rw [fX7_legs_b130]
    by_cases hi : i = K
    · rw [if_pos ((nI_leI (by omega) (by omega)).mpr (by omega)), hi]
    · rw [if_neg (fun q => by have := (nI_leI (by omega) (by omega)).mp q; omega), mr35 hR2, bd1_s, mr34 hR2, bd1_s, chk_t (i128 (by omega)), chk_t (i129 (by omega)), lt_e, nI_clamp (by omega), cpm_s, nI_1]
      exact ih (i + 1) (by omega) (by omega)
theorem backF {X : ZMem} {σ : Sg} (e : ovm X σ = X) {b k : Nat} (hb : b ≠ 127) : (ovm (sav X 127 σ) σ).1 b k = X.1 b k := by
  have q : (ovm (sav X 127 σ) σ).1 b k = (ovm X σ).1 b k := by simp only [ovm, sav_o hb]
  rw [q, e]
theorem end_m {gs : Nat → Int32 → Int32 → Int32 → ZMem → Option (ZMem)} {μ : ZMem} {K : Nat} {r : Nat → Nat} {b : Bst} {X : ZMem} {σ τ : Sg} (hR : HR μ) (hK : K ≤ 4) (hM : MH μ σ) (hD : sD τ ≤ 999) (h : PM μ K K r b X) (o : Option Sg) (ho : ∀ ρ, o = some ρ → sD τ = sD ρ) : ∃ X', fX7_legs_b91 gs 131 108 (nI K) (bI o.isSome) (ovm (sav X 127 σ) τ) = some X' ∧ PM μ K K r (oB o (fun ρ => keepB (sD ρ) r b) b) X' := by
  have hX := PM_R hR h
  have e := MH_e (PM_H hM h)
  have hR2 := HR_sav (a := 127) (σ := σ) hX
  obtain ⟨h1, h2, h3, h4, h5⟩ := h
  have P0 : PM μ K K r b (ovm (sav X 127 σ) σ) := by
    refine ⟨h1, fun a k q1 q2 q3 q4 => ?_, fun j q => ?_, ?_, fun x q => ⟨(h5 x q).1, fun j qj => ?_⟩⟩
    · rw [backF e q2]; exact h2 a k q1 q2 q3 q4
    · rw [backF e (by omega)]; exact h3 j q
    · rw [backF e (by omega)]; exact h4
    · rw [backF e (by omega)]; exact (h5 x q).2 j qj
  have e36 : zI (ovm (sav X 127 σ) σ) 108 36 = oI b.1 := P0.2.2.2.1
  have st : ∀ f : Int32, fX7_legs_b91 gs 131 108 (nI K) f (ovm (sav X 127 σ) τ) = if f = 0 then some (ovm (sav X 127 σ) σ) else if oI b.1 < nI (sD τ) then fX7_legs_b130 gs 131 FU 108 (nI K) 0 (zpI (ovm (sav X 127 σ) σ) 108 36 (nI (sD τ))) else some (ovm (sav X 127 σ) σ) := by
    intro f
    unfold fX7_legs_b91 fX7_legs_b120
    rw [mr32 (HR_ovm hR2), bd1_s, all_b AR127 hX, bd1_s, e36, ovm_3, lt_e]
  cases o with
  | none =>
    refine ⟨_, ?_, P0⟩
    rw [st, if_pos (show bI (none : Option Sg).isSome = 0 by decide)]
  | some ρ =>
    have hd := ho ρ rfl
    rw [st, if_neg (show ¬ bI (some ρ).isSome = 0 from one_ne), hd]
    rw [hd] at hD
    show ∃ X', _ ∧ PM μ K K r (keepB (sD ρ) r b) X'
    have up : (b.1 = none ∨ ∃ e, b.1 = some e ∧ e < sD ρ) → ∃ X', (if oI b.1 < nI (sD ρ) then fX7_legs_b130 gs 131 FU 108 (nI K) 0 (zpI (ovm (sav X 127 σ) σ) 108 36 (nI (sD ρ))) else some (ovm (sav X 127 σ) σ)) = some X' ∧ PM μ K K r (some (sD ρ), r) X' := by
      intro hc
      have hlt : oI b.1 < nI (sD ρ) := by
        rcases hc with hc | ⟨e, hc, he⟩
        · rw [hc]
          have e0 : oI none = (-1 : Int32) := rfl
          rw [e0, fa_lt, nI_toInt (by omega)]
          have : (-1 : Int32).toInt = -1 := by decide
          omega
        · rw [hc]
          exact (nI_ltI (by omega) (by omega)).mpr he
      have k1 := cpmL (gs := gs) (X := zpI (ovm (sav X 127 σ) σ) 108 36 (nI (sD ρ))) (HR_zpI (HR_ovm hR2)) hK FU 0 (by omega) (by show K < 2000 + 0; omega)
      have e0 : cpm (zpI (ovm (sav X 127 σ) σ) 108 36 (nI (sD ρ))) 0 = zpI (ovm (sav X 127 σ) σ) 108 36 (nI (sD ρ)) := by
        refine Prod.ext ?_ rfl
        funext a j
        simp only [cpm]
        rw [if_neg (fun q => Nat.not_lt_zero _ q.2)]
      rw [e0] at k1
      have f : ∀ a j, a ≠ 129 → ¬ (a = 108 ∧ j = 36) → (cpm (zpI (ovm (sav X 127 σ) σ) 108 36 (nI (sD ρ))) K).1 a j = (ovm (sav X 127 σ) σ).1 a j := by
        intro a j q1 q2
        show (if a = 129 ∧ j < K then (zpI (ovm (sav X 127 σ) σ) 108 36 (nI (sD ρ))).1 128 j else (zpI (ovm (sav X 127 σ) σ) 108 36 (nI (sD ρ))).1 a j) = _
        rw [if_neg (fun q => q1 q.1)]
        exact zpI_ne q2
      obtain ⟨g1, g2, g3, g4, g5⟩ := P0
      refine ⟨cpm (zpI (ovm (sav X 127 σ) σ) 108 36 (nI (sD ρ))) K, ?_, g1, fun a k q1 q2 q3 q4 => ?_, fun j q => ?_, ?_, fun e q => ?_⟩
      · rw [if_pos hlt]
        exact k1
      · rw [f _ _ q4 q1]
        exact g2 a k q1 q2 q3 q4
      · rw [f _ _ (by omega) (by omega)]
        exact g3 j q
      · show (if 108 = 129 ∧ 36 < K then (zpI (ovm (sav X 127 σ) σ) 108 36 (nI (sD ρ))).1 128 36 else (zpI (ovm (sav X 127 σ) σ) 108 36 (nI (sD ρ))).1 108 36) = _
        rw [if_neg (by omega), zpI_at]
        rfl
      · cases q
        refine ⟨hD, fun j q => ?_⟩
        show (if 129 = 129 ∧ j < K then (zpI (ovm (sav X 127 σ) σ) 108 36 (nI (sD ρ))).1 128 j else (zpI (ovm (sav X 127 σ) σ) 108 36 (nI (sD ρ))).1 129 j) = nI (r j)
        rw [if_pos ⟨rfl, q⟩, zpI_ne (by omega)]
        exact g3 j q
    unfold keepB
    cases hb : b.1 with
    | none =>
      have u := up (Or.inl hb)
      rw [hb] at u
      exact u
    | some x =>
      have hx := (h5 x hb).1
      show ∃ X', _ ∧ PM μ K K r (if x < sD ρ then (some (sD ρ), r) else b) X'
      by_cases c : x < sD ρ
      · rw [if_pos c]
        have u := up (Or.inr ⟨x, hb, c⟩)
        rw [hb] at u
        exact u
      · rw [if_neg c]
        exact ⟨_, if_neg (fun q => c ((nI_ltI (by omega) (by omega)).mp q)), P0⟩
theorem leaf_m {gs : Nat → Int32 → Int32 → Int32 → ZMem → Option (ZMem)} {μ : ZMem} {K m N : Nat} {r : Nat → Nat} {b : Bst} {X : ZMem} {σ : Sg} (hR : HR μ) (hK : K ≤ 4) (hm : m < 1000) (hW : Wf σ) (hN : sN σ = N) (hM : MH μ σ) (hr : ∀ j, j < K → r j < N) (h : PM μ K K r b X) : ∀ k i ρ t, i ≤ K → K < k + i → leafS m r σ i = some ρ → ∃ X', fX7_legs_b56 gs 131 k 108 (nI K) (nI m) 1 (nI i) (ovm (sav X 127 σ) (wT ρ t)) = some X' ∧ PM μ K K r (oB (leafS m r σ K) (fun ρ => keepB (sD ρ) r b) b) X' := by
  have hX := PM_R hR h
  have hR2 := HR_sav (a := 127) (σ := σ) hX
  intro k
  induction k with
  | zero => intro i ρ t _ _ _; omega
  | succ k ih =>
    intro i ρ t q1 q2 hl
    obtain ⟨wr, nr⟩ := leafS_wf hW hN i ρ (fun j q => hr j (by omega)) hl
    rw [fX7_legs_b56]
    by_cases hi : i = K
    · rw [if_pos ((nI_leI (by omega) (by omega)).mpr (by omega))]
      rw [hi] at hl
      have hD := wr.2.2.1
      have k1 := end_m (gs := gs) (τ := wT ρ t) hR hK hM (by show sD ρ ≤ 999; omega) h (leafS m r σ K) (fun ρ' q => by rw [hl] at q; cases q; rfl)
      rw [hl] at k1
      rw [hl]
      exact k1
    · have hri := hr i (by omega)
      have e128 : zI (ovm (sav X 127 σ) (wT ρ t)) 128 (nI i).toNatClampNeg = nI (r i) := by
        rw [nI_clamp (by omega)]
        exact (ovm_o _ _ (by omega)).trans ((sav_o (by omega)).trans (h.2.2.1 i (by omega)))
      have eo : nI (r i) = oI (some (r i)) := rfl
      rw [if_neg (fun q => by have := (nI_leI (by omega) (by omega)).mp q; omega), if_neg one_ne, mr34 (HR_ovm hR2), bd1_s, chk_t (i128 (by omega)), e128, lt_e, eo, ovm_u4, nI_1]
      have hWb : Wf (wB ρ (some (r i))) := Wf_wB wr (fun q h => by cases h; omega)
      obtain ⟨τ, t0, t1, t2, t3⟩ := leg_m (μ := sav X 127 σ) (m := m) (σ := wB (wT ρ t) (some (r i))) hR2 hm hWb
      rw [t2, bd2_s]
      have lq := legQ m (wB ρ (some (r i))) t
      cases hml : mLeg m (wB ρ (some (r i))) with
      | none =>
        have e0 : mLegQ m (wB (wT ρ t) (some (r i))) = none := lq.1 hml
        rw [e0]
        have en : leafS m r σ (i + 1) = none := by
          unfold leafS
          rw [hl]
          exact hml
        have eK : leafS m r σ K = none := by
          have := leafS_none en (K - (i + 1))
          rw [show i + 1 + (K - (i + 1)) = K by omega] at this
          exact this
        rw [eK]
        obtain ⟨k', rfl⟩ : ∃ k', k = k' + 1 := ⟨k - 1, by omega⟩
        have hD := t0.2.2.1
        have k1 := end_m (gs := gs) (τ := τ) hR hK hM (by omega) h none (fun ρ' q => by cases q)
        have eb : fX7_legs_b56 gs 131 (k' + 1) 108 (nI K) (nI m) (bI (none : Option Sg).isSome) (nI (i + 1)) (ovm (sav X 127 σ) τ) = fX7_legs_b91 gs 131 108 (nI K) (bI (none : Option Sg).isSome) (ovm (sav X 127 σ) τ) := by
          rw [fX7_legs_b56, if_pos (show bI (none : Option Sg).isSome = 0 by decide)]
          split <;> rfl
        rw [eb]
        exact k1
      | some ρ' =>
        obtain ⟨t', et⟩ := lq.2 ρ' hml
        have e0 : mLegQ m (wB (wT ρ t) (some (r i))) = some (wT ρ' t') := et
        have e1 := t3 _ e0
        rw [e0, e1]
        refine ih (i + 1) ρ' t' (by omega) (by omega) ?_
        unfold leafS
        rw [hl]
        exact hml
theorem legs_m {μ : ZMem} {K m N : Nat} {σ : Sg} (hR : HR μ) (hK : K ≤ 4) (hm : m < 1000) (hW : Wf σ) (hN : sN σ = N) (hM : MH μ σ) : ∀ rem l, l + rem = K → ∀ q r b X, rem < q → (∀ j, j < l → r j < N) → PM μ K l r b X → ∃ X', fX7_legs 131 q 108 (nI l) (nI K) (nI m) X = some X' ∧ PM μ K l r (mM m N rem l (leafS m r σ l) r b) X' := by
  have hN7 := hW.1
  intro rem
  induction rem with
  | zero =>
    intro l hl q r b X hq hr h
    obtain ⟨q', rfl⟩ : ∃ q', q = q' + 1 := ⟨q - 1, by omega⟩
    have e : l = K := by omega
    subst e
    have hX := PM_R hR h
    have k0 := all_f (μ := X) (σ := σ) AR127 hX
    rw [MH_e (PM_H hM h)] at k0
    obtain ⟨X', a1, a2⟩ := leaf_m (gs := fX7_legs 131 q') hR hK hm hW hN hM hr h FU 0 σ (sT σ) (Nat.zero_le _) (by show l < 2000 + 0; omega) rfl
    refine ⟨X', ?_, a2⟩
    rw [fX7_legs, chk_t m_c, if_pos ((nI_leI (by omega) (by omega)).mpr (Nat.le_refl _)), mr32 hX, bd1_s, k0, bd1_s]
    exact a1
  | succ rem ih =>
    intro l hl q r b X hq hr h
    obtain ⟨q', rfl⟩ : ∃ q', q = q' + 1 := ⟨q - 1, by omega⟩
    have hl4 : l < 4 := by omega
    have loop : ∀ k p b X, p ≤ N → N < k + p → PM μ K l r b X → ∃ X', fX7_legs_b8 (fX7_legs 131 q') 131 k 108 (nI l) (nI K) (nI m) (nI p) X = some X' ∧ PM μ K l r (fLoop (fun p b => mM m N rem (l + 1) ((leafS m r σ l).bind (fun σ => mLeg m (wB σ (some p)))) (rset r l p) b) (N - p) p b) X' := by
      intro k
      induction k with
      | zero => intro p b X _ _; omega
      | succ k ihk =>
        intro p b X q1 q2 h
        have hX := PM_R hR h
        have h0 := h
        obtain ⟨h1, h2, h3, h4, h5⟩ := h
        have e0 : zI X 108 0 = nI N := by
          rw [← hN]
          exact (h2 108 0 (by omega) (by omega) (by omega) (by omega)).trans (hM.1 0 (by omega))
        rw [fX7_legs_b8, e0]
        by_cases hp : p = N
        · rw [if_pos ((nI_leI (by omega) (by omega)).mpr (by omega)), hp, Nat.sub_self]
          exact ⟨X, rfl, h0⟩
        · rw [if_neg (fun q => by have := (nI_leI (by omega) (by omega)).mp q; omega), mr34 hX, bd1_s, chk_t (i128 hl4), lt_e, nI_clamp (by omega), show N - p = (N - (p + 1)) + 1 by omega, nI_1, nI_1]
          unfold fLoop
          have P1 : PM μ K (l + 1) (rset r l p) b (zpI X 128 l (nI p)) := by
            refine ⟨h1, fun a k q1 q2 q3 q4 => ?_, fun j q => ?_, ?_, fun e q => ⟨(h5 e q).1, fun j qj => ?_⟩⟩
            · rw [zpI_ne (by omega)]; exact h2 a k q1 q2 q3 q4
            · show _ = nI (if j = l then p else r j)
              by_cases hj : j = l
              · rw [if_pos hj, hj, zpI_at]
              · rw [if_neg hj, zpI_ne (by omega)]
                exact h3 j (by omega)
            · rw [zpI_ne (by omega)]; exact h4
            · rw [zpI_ne (by omega)]; exact (h5 e q).2 j qj
          obtain ⟨X4, x1, x2⟩ := ih (l + 1) (by omega) q' (rset r l p) b _ (by omega) (fun j q => by
            show (if j = l then p else r j) < N
            by_cases hj : j = l
            · rw [if_pos hj]; omega
            · rw [if_neg hj]; exact hr j (by omega)) P1
          have el : leafS m (rset r l p) σ (l + 1) = (leafS m r σ l).bind (fun σ => mLeg m (wB σ (some p))) := by
            show (leafS m (rset r l p) σ l).bind (fun τ => mLeg m (wB τ (some (rset r l p l)))) = _
            rw [leafS_c (r := rset r l p) (r' := r) l (fun j q => if_neg (by omega)), show rset r l p l = p from if_pos rfl]
          rw [el] at x2
          rw [x1, bd1_s]
          refine ihk (p + 1) _ _ (by omega) (by omega) ?_
          obtain ⟨g1, g2, g3, g4, g5⟩ := x2
          refine ⟨g1, g2, fun j q => ?_, g4, g5⟩
          have := g3 j (by omega)
          have e : rset r l p j = r j := if_neg (by omega)
          rw [e] at this
          exact this
    obtain ⟨X', x1, x2⟩ := loop FU 0 b X (Nat.zero_le _) (by show N < 2000 + 0; omega) h
    refine ⟨X', ?_, x2⟩
    rw [fX7_legs, chk_t m_c, if_neg (fun q => by have := (nI_leI (by omega) (by omega)).mp q; omega)]
    exact x1
theorem in_m1 {v : Int32} {h : Nat} (hh : h < 2 ^ 31) (q : (-1 : Int32) ≤ v ∧ v ≤ nI h) : v = -1 ∨ ∃ j, j ≤ h ∧ v = nI j := by
  rcases nat_or v with hv | ⟨j, hj, rfl⟩
  · left
    have q1 := q.1
    rw [fa_le] at q1
    rw [fa_lt] at hv
    have h1 : (-1 : Int32).toInt = -1 := by decide
    have h0 : (0 : Int32).toInt = 0 := by decide
    rw [fa_eq]
    omega
  · exact Or.inr ⟨j, (nI_leI hj hh).mp q.2, rfl⟩
theorem Kp_relay {S : St} (hw : WfS S) (v w u : Int32) : Kp S (fX6_relay 131 0 v w u) (fX7_relay 131 108 v w u) := by
  have hN := hw.1.1
  by_cases ha : (1 : Int32) ≤ v ∧ v ≤ 4
  · obtain ⟨K, k1, k4, rfl⟩ := in_nat (lo := 1) (hi := 4) (by omega) (by omega) ha
    have eK : nI K - (1 : Int32) = nI (K - 1) := pk_sub (b := 1) (by omega)
    by_cases hu : (-1 : Int32) ≤ u ∧ u ≤ nI (K - 1)
    · by_cases hc : (1 : Int32) ≤ w ∧ w ≤ 20
      · obtain ⟨m, m1, m20, rfl⟩ := in_nat (lo := 1) (hi := 20) (by omega) (by omega) hc
        have hb : ∃ b, b = mM m (sN (gV S)) K 0 (some (gV S)) (fun _ => 0) (none, fun _ => 0) := ⟨_, rfl⟩
        obtain ⟨b, hb⟩ := hb
        have hv : ∃ x : Int32, x = (if u = -1 then oI b.1 else if b.1 = none then -1 else nI (b.2 u.toNatClampNeg)) := ⟨_, rfl⟩
        obtain ⟨x, hx⟩ := hv
        have hbx : ∀ c a, BM c a K b → ∀ e, b.1 = some e → ¬ oI b.1 = -1 := by
          intro c a q e he
          have := (q e he).1
          rw [he]
          exact nI_m1 (by omega)
        refine ⟨(x, S), hw, fun μ hR h => ?_, fun μ hR h => ?_⟩
        · have eV := VH_e h.1
          have ld := load_c (μ := μ) (σ := gV S) (v := 47) (VSl 0 (by omega)).1 VS18 (by omega) hR hN
          rw [eV] at ld
          have hX : HR (zpI (ovl μ 47 (gV S)) 45 3 (-1)) := HR_zpI (HR_ovl hR)
          have P0 : PC μ K 0 (fun _ => gV S) (fun _ => 0) (none, fun _ => 0) (zpI (ovl μ 47 (gV S)) 45 3 (-1)) := by
            refine ⟨rfl, fun a k q => ?_, fun i q => ?_, fun j q => absurd q (Nat.not_lt_zero _), zpI_at _ _ _ _, fun e q => by cases q⟩
            · rw [zpI_ne (by omega)]
              exact ovl_o μ 47 _ k (by omega) hN
            · have e : i = 0 := by omega
              rw [e]
              exact ⟨VH_f (VH_o μ 47 (gV S)) hN (fun a k q1 q2 => zpI_ne (by omega)), hN⟩
          obtain ⟨X, x1, x2⟩ := try_c (m := m) (N := sN (gV S)) hR k4 (by omega) hN K 0 (by omega) FD (fun _ => gV S) (fun _ => 0) (none, fun _ => 0) _ (by show K < 40; omega) hw.1 rfl P0
          have em : mC m (sN (gV S)) K 0 (gV S) (fun _ => 0) (none, fun _ => 0) = b := (mCM m _ K 0 (gV S) _ _ hw.1 rfl).trans hb.symm
          have x2' : PC μ K 0 (fun _ => gV S) (fun _ => 0) b X := em ▸ x2
          have hXX := PC_R hR x2'
          obtain ⟨g1, g2, g3, g4, g5, g6⟩ := x2'
          have e3 : zI X 45 3 = oI b.1 := g5
          have e4 : (if (4 : Int32) < nI K then (4 : Int32) else nI K) = nI K := if_neg (show ¬ (4 : Int32) < nI K from fun q => by have := (nI_ltI (a := 4) (by omega) (by omega)).mp q; omega)
          have sk : fX2_seek 131 45 18 (nI K) (nI m) μ = some X := by
            unfold fX2_seek
            rw [chk_t c2_c, chk_t (VS_c VS18), r46 hR, bd1_s, chk_t (show inb (0 : Int32) 46 = true from (VSl 0 (by omega)).2.2), show zRc 131 4 μ 46 (0 : Int32).toNatClampNeg = some 47 from r47 hR (i := 0) (by omega), bd1_s, ld, bd1_s, lt_e, e4, show fX2_tryLeg 131 FD 45 0 (nI K) (nI m) (zpI (ovl μ 47 (gV S)) 45 3 (-1)) = some X from x1, bd1_s]
          refine ⟨X, ?_, hXX, ?_, fun a k q => ⟨g2 a k (by omega), congrFun (congrFun (congrArg Prod.fst g1) a) k⟩⟩
          · unfold fX6_relay fX6_relay_b31 fX6_relay_b89
            have hu2 : (-1 : Int32) ≤ u ∧ u ≤ nI K - 1 := by rw [eK]; exact hu
            rw [chk_t c_c, isIn_o ha, bd2_s, if_neg one_ne, isIn_o hu2, bd2_s, if_neg one_ne, if_neg one_ne, isIn_o hc, bd2_s, if_neg one_ne, cr4 hR, bd1_s, cr1 hR, bd1_s, sk, bd1_s, cr4 hXX, bd1_s, bd1_s, e3, hx]
            by_cases h1 : u = -1
            · rw [if_pos h1, if_pos h1]
            · rw [if_neg h1, if_neg h1]
              rcases in_m1 (by omega) hu with hu3 | ⟨j, hj, rfl⟩
              · exact absurd hu3 h1
              · unfold fX2_bestOnLeg fX2_bestOnLeg_b26 fX2_bestOnLeg_b27
                have hin : (0 : Int32) ≤ nI j ∧ nI j ≤ 3 := ⟨(nI_leI (a := 0) (by omega) (by omega)).mpr (by omega), (nI_leI (b := 3) (by omega) (by omega)).mpr (by omega)⟩
                rw [chk_t c2_c, e3, isIn_o hin, bd2_s, if_neg one_ne, r93 hXX, bd1_s, chk_t (i93 (by omega)), nI_clamp (by omega)]
                cases he : b.1 with
                | none =>
                  rw [if_pos (show oI none = (-1 : Int32) from rfl), bd2_s, if_pos rfl]
                | some e =>
                  have hne := hbx X 93 g6 e he
                  rw [he] at hne
                  rw [if_neg hne, bd2_s, if_neg (fun q => by cases q)]
                  have := (g6 e he).2 j (by omega)
                  rw [← this]
                  rfl
          · exact InvC_f hw h (fun a k q => g2 a k (by omega)) (fun a k q => congrFun (congrFun (congrArg Prod.fst g1) a) k)
        · have eM := MH_e h.1
          have P0 : PM μ K 0 (fun _ => 0) (none, fun _ => 0) (zpI μ 108 36 (-1)) := ⟨rfl, fun a k q1 q2 q3 q4 => zpI_ne q1, fun j q => absurd q (Nat.not_lt_zero _), zpI_at _ _ _ _, fun e q => by cases q⟩
          obtain ⟨X, x1, x2⟩ := legs_m (m := m) (N := sN (gV S)) hR k4 (by omega) hw.1 rfl h.1 K 0 (by omega) FD (fun _ => 0) (none, fun _ => 0) _ (by show K < 40; omega) (fun j q => absurd q (Nat.not_lt_zero _)) P0
          have x2' : PM μ K 0 (fun _ => 0) b X := by
            have e : mM m (sN (gV S)) K 0 (leafS m (fun _ => 0) (gV S) 0) (fun _ => 0) (none, fun _ => 0) = b := hb.symm
            exact e ▸ x2
          have hXX := PM_R hR x2'
          obtain ⟨g1, g2, g3, g4, g5⟩ := x2'
          have e3 : zI X 108 36 = oI b.1 := g4
          refine ⟨X, ?_, hXX, ?_, fun a k q => ⟨g2 a k (by omega) (by omega) (by omega) (by omega), congrFun (congrFun (congrArg Prod.fst g1) a) k⟩⟩
          · unfold fX7_relay fX7_relay_b29 fX7_relay_b82 fX7_relay_b95
            have hu2 : (-1 : Int32) ≤ u ∧ u ≤ nI K - 1 := by rw [eK]; exact hu
            rw [chk_t m_c, isF_o ha, bd2_s, if_neg one_ne, isF_o hu2, bd2_s, if_neg one_ne, isF_o ha, bd2_s, if_neg one_ne, isF_o hc, bd2_s, if_neg one_ne, lt_e, show fX7_legs 131 FD 108 0 (nI K) (nI m) (zpI μ 108 36 (-1)) = some X from x1, bd1_s, e3, hx]
            by_cases h1 : u = -1
            · rw [if_pos h1, if_pos h1]
            · rw [if_neg h1, if_neg h1]
              rcases in_m1 (by omega) hu with hu3 | ⟨j, hj, rfl⟩
              · exact absurd hu3 h1
              · rw [mr35 hXX, bd1_s, chk_t (i129 (by omega)), nI_clamp (by omega)]
                cases he : b.1 with
                | none =>
                  rw [if_pos (show oI none = (-1 : Int32) from rfl), if_pos rfl]
                  rfl
                | some e =>
                  have hne := hbx X 129 g5 e he
                  rw [he] at hne
                  rw [if_neg hne, if_neg (fun q => by cases q)]
                  have := (g5 e he).2 j (by omega)
                  rw [← this]
                  rfl
          · exact InvM_f hw h (fun a k q => g2 a k (by omega) (by omega) (by omega) (by omega)) (fun k => congrFun (congrFun (congrArg Prod.fst g1) 119) k)
      · refine Kp_far 6 (by omega) (by omega) hw (fun μ hR h => ?_) (fun μ hR h => ?_)
        · have hu2 : (-1 : Int32) ≤ u ∧ u ≤ nI K - 1 := by rw [eK]; exact hu
          unfold fX6_relay fX6_relay_b31 fX6_relay_b46
          rw [chk_t c_c, isIn_o ha, bd2_s, if_neg one_ne, isIn_o hu2, bd2_s, if_neg one_ne, if_neg one_ne, isIn_z hc, bd2_s, if_pos rfl, bd2_e]; rfl
        · have hu2 : (-1 : Int32) ≤ u ∧ u ≤ nI K - 1 := by rw [eK]; exact hu
          unfold fX7_relay fX7_relay_b29 fX7_relay_b50
          rw [chk_t m_c, isF_o ha, bd2_s, if_neg one_ne, isF_o hu2, bd2_s, if_neg one_ne, isF_o ha, bd2_s, if_neg one_ne, isF_z hc, bd2_s, if_pos rfl, bd2_e]; rfl
    · have hu2 : ¬ ((-1 : Int32) ≤ u ∧ u ≤ nI K - 1) := by rw [eK]; exact hu
      refine Kp_far 5 (by omega) (by omega) hw (fun μ hR h => ?_) (fun μ hR h => ?_)
      · unfold fX6_relay
        rw [chk_t c_c, isIn_o ha, bd2_s, if_neg one_ne, isIn_z hu2, bd2_s, if_pos rfl, bd2_e]; rfl
      · unfold fX7_relay
        rw [chk_t m_c, isF_o ha, bd2_s, if_neg one_ne, isF_z hu2, bd2_s, if_pos rfl, bd2_e]; rfl
  · refine Kp_far 6 (by omega) (by omega) hw (fun μ hR h => ?_) (fun μ hR h => ?_)
    · unfold fX6_relay fX6_relay_b31 fX6_relay_b46
      rw [chk_t c_c, isIn_z ha, bd2_s, if_pos rfl, if_pos rfl, bd2_e]; rfl
    · unfold fX7_relay fX7_relay_b29 fX7_relay_b50
      rw [chk_t m_c, isF_z ha, bd2_s, if_pos rfl, isF_z ha, bd2_s, if_pos rfl, bd2_e]; rfl
