-- CASES, CLASH
theorem two_i (i : Nat) : (2 : Int32) * nI i = nI (2 * i) := pk_mul 2 i
def cOk (h : Sh) (i : Nat) : Bool := decide (0 ≤ xE h (2 * i) ∧ xE h (2 * i) ≤ 4) && decide (0 ≤ xE h (2 * i + 1) ∧ xE h (2 * i + 1) ≤ 1)
def mAll (h : Sh) : Nat → Nat → Bool
  | 0, _ => true
  | r + 1, i => if cOk h i = true then mAll h r (i + 1) else false
theorem mAll_at (h : Sh) : ∀ r i j, mAll h r i = true → i ≤ j → j < i + r → cOk h j = true := by
  intro r
  induction r with
  | zero => intro i j _ _ _; omega
  | succ r ih =>
    intro i j ha q1 q2
    unfold mAll at ha
    by_cases hc : cOk h i = true
    · rw [if_pos hc] at ha
      by_cases e : j = i
      · rw [e]; exact hc
      · exact ih (i + 1) j ha (by omega) (by omega)
    · rw [if_neg hc] at ha
      cases ha
theorem cOk_or (h : Sh) (i : Nat) : cOk h i = true ∧ (0 ≤ xE h (2 * i) ∧ xE h (2 * i) ≤ 4) ∧ (0 ≤ xE h (2 * i + 1) ∧ xE h (2 * i + 1) ≤ 1) ∨ ¬ cOk h i = true ∧ (¬ (0 ≤ xE h (2 * i) ∧ xE h (2 * i) ≤ 4) ∨ ((0 ≤ xE h (2 * i) ∧ xE h (2 * i) ≤ 4) ∧ ¬ (0 ≤ xE h (2 * i + 1) ∧ xE h (2 * i + 1) ≤ 1))) := by
  unfold cOk
  by_cases a : 0 ≤ xE h (2 * i) ∧ xE h (2 * i) ≤ 4
  · by_cases b : 0 ≤ xE h (2 * i + 1) ∧ xE h (2 * i + 1) ≤ 1
    · exact Or.inl ⟨by rw [decide_eq_true a, decide_eq_true b]; rfl, a, b⟩
    · exact Or.inr ⟨by rw [decide_eq_false b, Bool.and_false]; decide, Or.inr ⟨a, b⟩⟩
  · exact Or.inr ⟨by rw [decide_eq_false a, Bool.false_and]; decide, Or.inl a⟩
theorem casesL_c {μ : ZMem} {S : St} (hR : HR μ) (hw : WfS S) (h : InvC μ S) {s c : Nat} (hs : s < 8) (e : hW (gS S s) = 1) (hc : 2 * c ≤ hZ (gS S s)) : ∀ k i, i ≤ c → c < k + i → fX6_casesRefusal_b35 131 k 0 (nI s) (nI c) (nI i) μ = some (μ, if mAll (gS S s) (c - i) i = true then 0 else -6) := by
  have hz := ((hw.2.2.1 s hs).2.1 e).2
  intro k
  induction k with
  | zero => intro i _ _; omega
  | succ k ih =>
    intro i q1 q2
    rw [fX6_casesRefusal_b35]
    unfold fX6_casesRefusal_b89
    by_cases hi : i = c
    · rw [if_pos ((nI_leI (by omega) (by omega)).mpr (by omega)), hi, Nat.sub_self]
      rfl
    · have a0 : fX3_intAt 131 (2 + 2 * s) (nI (2 * i)) μ = some (μ, xE (gS S s) (2 * i)) := intAt_i hR hw h hs e (i := 2 * i) (by omega)
      have a1 : fX3_intAt 131 (2 + 2 * s) (nI (2 * i + 1)) μ = some (μ, xE (gS S s) (2 * i + 1)) := intAt_i hR hw h hs e (i := 2 * i + 1) (by omega)
      rw [if_neg (fun q => by have := (nI_leI (by omega) (by omega)).mp q; omega), cr0 hR, bd1_s, chk_t (shi hs), shr hR hs, bd1_s, two_i, nI_1, nI_1, a0, bd2_s, show c - i = (c - (i + 1)) + 1 by omega]
      unfold mAll
      rcases cOk_or (gS S s) i with ⟨hk, ka, kb⟩ | ⟨hk, ka | ⟨ka, kb⟩⟩
      · rw [isIn_o ka, bd2_s, if_neg one_ne, cr0 hR, bd1_s, chk_t (shi hs), shr hR hs, bd1_s, a1, bd2_s, isIn_o kb, bd2_s, if_neg one_ne, if_pos hk]
        exact ih (i + 1) (by omega) (by omega)
      · rw [isIn_z ka, bd2_s, if_pos rfl, if_neg hk]
        rfl
      · rw [isIn_o ka, bd2_s, if_neg one_ne, cr0 hR, bd1_s, chk_t (shi hs), shr hR hs, bd1_s, a1, bd2_s, isIn_z kb, bd2_s, if_pos rfl, if_neg hk]
        rfl
theorem barsN {v n r i : Int32} {k : Nat} {μ : ZMem} (hr : ¬ r = 0) : fX7_barsOfCases_b59 131 (k + 1) 108 v n r i μ = some (μ, r) := by
  rw [fX7_barsOfCases_b59]
  unfold fX7_barsOfCases_b118
  rw [if_neg hr]
  split <;> rfl
theorem casesL_m {μ : ZMem} {S : St} (hR : HR μ) (hw : WfS S) (h : InvM μ S) {s c : Nat} (hs : s < 8) (e : hW (gS S s) = 1) (hc : 2 * c ≤ hZ (gS S s)) : ∀ k i, i ≤ c → c < k + i → fX7_barsOfCases_b59 131 k 108 (nI s) (nI c) 0 (nI i) μ = some (μ, if mAll (gS S s) (c - i) i = true then 0 else -6) := by
  have hz := ((hw.2.2.1 s hs).2.1 e).2
  intro k
  induction k with
  | zero => intro i _ _; omega
  | succ k ih =>
    intro i q1 q2
    rw [fX7_barsOfCases_b59]
    unfold fX7_barsOfCases_b118 fX7_barsOfCases_b108 fX7_barsOfCases_b112
    by_cases hi : i = c
    · rw [if_pos ((nI_leI (by omega) (by omega)).mpr (by omega)), hi, Nat.sub_self]
      rfl
    · have a0 : fX7_intAt 131 108 (nI s) (nI (2 * i)) μ = some (μ, xE (gS S s) (2 * i)) := intAt_m hR hw h hs e (i := 2 * i) (by omega)
      have a1 : fX7_intAt 131 108 (nI s) (nI (2 * i + 1)) μ = some (μ, xE (gS S s) (2 * i + 1)) := intAt_m hR hw h hs e (i := 2 * i + 1) (by omega)
      obtain ⟨k', rfl⟩ : ∃ k', k = k' + 1 := ⟨k - 1, by omega⟩
      rw [if_neg (fun q => by have := (nI_leI (by omega) (by omega)).mp q; omega), if_pos rfl, two_i, nI_1, nI_1, a0, bd2_s, show c - i = (c - (i + 1)) + 1 by omega]
      unfold mAll
      rcases cOk_or (gS S s) i with ⟨hk, ka, kb⟩ | ⟨hk, ka | ⟨ka, kb⟩⟩
      · rw [isF_o ka, bd2_s, if_neg one_ne, a1, bd2_s, isF_o kb, bd2_s, if_neg one_ne, if_pos hk]
        exact ih (i + 1) (by omega) (by omega)
      · rw [isF_z ka, bd2_s, if_pos rfl, if_neg hk, barsN neg6]
        rfl
      · rw [isF_o ka, bd2_s, if_neg one_ne, a1, bd2_s, isF_z kb, bd2_s, if_pos rfl, if_neg hk, barsN neg6]
        rfl
theorem barsNF {v n r i : Int32} {μ : ZMem} (hr : ¬ r = 0) : fX7_barsOfCases_b59 131 FU 108 v n r i μ = some (μ, r) := barsN (k := 1999) hr
theorem cases_or {S : St} (hw : WfS S) (v n b : Int32) :
    (∃ k, 1 ≤ k ∧ k ≤ 7 ∧ ∀ μ, HR μ → (InvC μ S → fX6_casesRefusal 131 0 v n b μ = some (μ, -nI k)) ∧ (InvM μ S → fX7_barsOfCases 131 108 v n b μ = some (μ, -nI k))) ∨
    (¬ b = 0 ∧ ∃ s c, s < 8 ∧ hW (gS S s) = 1 ∧ c ≤ 40 ∧ 2 * c ≤ hZ (gS S s) ∧ v = nI s ∧ n = nI c ∧ mAll (gS S s) c 0 = true ∧ ∀ μ, HR μ → (InvC μ S → fX6_casesRefusal 131 0 v n b μ = some (μ, 0)) ∧ (InvM μ S → fX7_barsOfCases 131 108 v n b μ = some (μ, 0))) := by
  have cN : ∀ k, 1 ≤ k → k ≤ 7 → (∀ μ, HR μ → InvC μ S → fX6_toldRefusal 131 0 v n ((2 : Int64) * n.toInt64) b μ = some (μ, -nI k)) → ∀ μ, HR μ → InvC μ S → fX6_casesRefusal 131 0 v n b μ = some (μ, -nI k) := by
    intro k k1 k7 g μ hR h
    unfold fX6_casesRefusal
    rw [chk_t c_c, g μ hR h, bd2_s, if_neg (neg_ne k1 k7)]
  have l40 : (40 : Int32) = nI 40 := rfl
  rcases told_or hw v n 2 (by omega) ((2 : Int64) * n.toInt64) (fun c hc e => by rw [e, nI_l hc, show (2 : Int64) = lN 2 from rfl, lN_mul]) b with ⟨hv, t⟩ | ⟨s, hs, rfl, ⟨h1, t⟩ | ⟨h1, hn, t⟩ | ⟨h1, c, hc, rfl, ⟨hd, t⟩ | ⟨hd, hb, t⟩⟩⟩
  · refine Or.inl ⟨1, by omega, by omega, fun μ hR => ⟨cN 1 (by omega) (by omega) t μ hR, fun h => ?_⟩⟩
    unfold fX7_barsOfCases fX7_barsOfCases_b56
    rw [chk_t m_c, wanted_z hv, bd2_s, if_neg (neg_ne (by omega) (by omega)), barsNF (neg_ne (by omega) (by omega))]
  · have hr := rr_n h1
    refine Or.inl ⟨rr (gS S s), by omega, by omega, fun μ hR => ⟨cN _ (by omega) (by omega) t μ hR, fun h => ?_⟩⟩
    unfold fX7_barsOfCases fX7_barsOfCases_b56
    rw [chk_t m_c, wanted_m hR hw h hs, bd2_s, if_neg (neg_ne (by omega) (by omega)), barsNF (neg_ne (by omega) (by omega))]
  · refine Or.inl ⟨4, by omega, by omega, fun μ hR => ⟨cN 4 (by omega) (by omega) t μ hR, fun h => ?_⟩⟩
    unfold fX7_barsOfCases fX7_barsOfCases_b54 fX7_barsOfCases_b56
    rw [chk_t m_c, wanted_m hR hw h hs, rr_1 h1, bd2_s, if_pos neg0, if_neg (fa_of_lt hn).2.1, barsNF (show ¬ (-4 : Int32) = 0 by decide)]; rfl
  · refine Or.inl ⟨5, by omega, by omega, fun μ hR => ⟨cN 5 (by omega) (by omega) t μ hR, fun h => ?_⟩⟩
    have hz := ((hw.2.2.1 s hs).2.1 h1).2
    have e2 : nI (hZ (gS S s)) / (2 : Int32) = nI (hZ (gS S s) / 2) := pk_div (d := 2) (by omega) (by omega) (by omega)
    have n5 : ¬ (-5 : Int32) = 0 := by decide
    unfold fX7_barsOfCases fX7_barsOfCases_b37 fX7_barsOfCases_b54 fX7_barsOfCases_b56
    rw [chk_t m_c, wanted_m hR hw h hs, rr_1 h1, bd2_s, if_pos neg0, if_pos (nI_pos' hc), mr17 hR, bd1_s, chk_t (i17 hs), mZ h hs h1, e2, barsNF n5]
    by_cases hdd : hZ (gS S s) / 2 < c
    · rw [if_pos ((nI_ltI (by omega) hc).mpr hdd)]; rfl
    · have hb0 : b = 0 := Or.resolve_left hd (fun q => hdd (by omega))
      rw [if_neg (fun q => hdd ((nI_ltI (by omega) hc).mp q)), if_pos hb0]; rfl
  · have hz := ((hw.2.2.1 s hs).2.1 h1).2
    have e2 : nI (hZ (gS S s)) / (2 : Int32) = nI (hZ (gS S s) / 2) := pk_div (d := 2) (by omega) (by omega) (by omega)
    by_cases h40 : c ≤ 40
    · have cS : ∀ μ, HR μ → InvC μ S → fX6_casesRefusal 131 0 (nI s) (nI c) b μ = some (μ, if mAll (gS S s) c 0 = true then 0 else -6) := by
        intro μ hR h
        unfold fX6_casesRefusal
        rw [chk_t c_c, t μ hR h, bd2_s, if_pos rfl, l40, if_pos ((nI_leI hc (by omega)).mpr h40)]
        exact casesL_c hR hw h hs h1 hd FU 0 (by omega) (by show c < 2000 + 0; omega)
      have mS : ∀ μ, HR μ → InvM μ S → fX7_barsOfCases 131 108 (nI s) (nI c) b μ = some (μ, if mAll (gS S s) c 0 = true then 0 else -6) := by
        intro μ hR h
        unfold fX7_barsOfCases fX7_barsOfCases_b54 fX7_barsOfCases_b56
        rw [chk_t m_c, wanted_m hR hw h hs, rr_1 h1, bd2_s, if_pos neg0, if_pos (nI_pos' hc), mr17 hR, bd1_s, chk_t (i17 hs), mZ h hs h1, e2, if_neg (fun q => by have := (nI_ltI (by omega) hc).mp q; omega), if_neg hb, l40, if_pos ((nI_leI hc (by omega)).mpr h40)]
        exact casesL_m hR hw h hs h1 hd FU 0 (by omega) (by show c < 2000 + 0; omega)
      by_cases ha : mAll (gS S s) c 0 = true
      · rw [if_pos ha] at cS mS
        exact Or.inr ⟨hb, s, c, hs, h1, h40, hd, rfl, rfl, ha, fun μ hR => ⟨cS μ hR, mS μ hR⟩⟩
      · rw [if_neg ha] at cS mS
        exact Or.inl ⟨6, by omega, by omega, fun μ hR => ⟨cS μ hR, mS μ hR⟩⟩
    · refine Or.inl ⟨6, by omega, by omega, fun μ hR => ⟨fun h => ?_, fun h => ?_⟩⟩
      · unfold fX6_casesRefusal
        rw [chk_t c_c, t μ hR h, bd2_s, if_pos rfl, l40, if_neg (fun q => h40 ((nI_leI hc (by omega)).mp q))]; rfl
      · unfold fX7_barsOfCases fX7_barsOfCases_b54 fX7_barsOfCases_b56
        rw [chk_t m_c, wanted_m hR hw h hs, rr_1 h1, bd2_s, if_pos neg0, if_pos (nI_pos' hc), mr17 hR, bd1_s, chk_t (i17 hs), mZ h hs h1, e2, if_neg (fun q => by have := (nI_ltI (by omega) hc).mp q; omega), if_neg hb, l40, if_neg (fun q => h40 ((nI_leI hc (by omega)).mp q)), barsNF neg6]; rfl
-- the bits
def bitO (o : Int32) : Int32 := (1 : Int32) <<< (o &&& 31)
theorem bit_e {o : Int32} (h : 0 ≤ o ∧ o ≤ 4) : (1 : Int32) <<< ((o &&& (7 : Int32)) &&& 31) = bitO o := by
  obtain ⟨k, _, k4, rfl⟩ := in_nat (lo := 0) (hi := 4) (by omega) (by omega) h
  have g : ∀ j : Fin 5, (1 : Int32) <<< ((nI j.val &&& (7 : Int32)) &&& 31) = bitO (nI j.val) := by decide +kernel
  exact g ⟨k, by omega⟩
def mClash (h : Sh) : Nat → Nat → Int32 → Int32 → Option Nat × Int32 × Int32
  | 0, _, A, B => (none, A, B)
  | r + 1, i, A, B => if xE h (2 * i + 1) = 1 then (if (A ||| bitO (xE h (2 * i))) &&& B = 0 then mClash h r (i + 1) (A ||| bitO (xE h (2 * i))) B else (some i, A ||| bitO (xE h (2 * i)), B))
    else (if A &&& (B ||| bitO (xE h (2 * i))) = 0 then mClash h r (i + 1) A (B ||| bitO (xE h (2 * i))) else (some i, A, B ||| bitO (xE h (2 * i))))
def mSorts (h : Sh) (t : Int32) : Nat → Nat → Int32 → Int32
  | 0, _, A => A
  | r + 1, i, A => mSorts h t r (i + 1) (if xE h (2 * i + 1) = t then A ||| bitO (xE h (2 * i)) else A)
theorem mClash_s (h : Sh) : ∀ r i A B, (∀ j, i ≤ j → j < i + r → cOk h j = true) → (mClash h r i A B).1 = none → (mClash h r i A B).2.1 = mSorts h 1 r i A ∧ (mClash h r i A B).2.2 = mSorts h 0 r i B := by
  intro r
  induction r with
  | zero => intro i A B _ _; exact ⟨rfl, rfl⟩
  | succ r ih =>
    intro i A B hk hn
    rcases cOk_or h i with ⟨_, _, kb⟩ | ⟨q, _⟩
    · unfold mClash at hn ⊢
      unfold mSorts
      by_cases h1 : xE h (2 * i + 1) = 1
      · have n0 : ¬ xE h (2 * i + 1) = 0 := by rw [h1]; decide
        rw [if_pos h1] at hn ⊢
        rw [if_pos h1, if_neg n0]
        by_cases hc : (A ||| bitO (xE h (2 * i))) &&& B = 0
        · rw [if_pos hc] at hn ⊢
          exact ih (i + 1) _ _ (fun j q1 q2 => hk j (by omega) (by omega)) hn
        · rw [if_neg hc] at hn
          cases hn
      · have n0 : xE h (2 * i + 1) = 0 := by
          obtain ⟨k, _, k1, e⟩ := in_nat (lo := 0) (hi := 1) (by omega) (by omega) kb
          rw [e] at h1 ⊢
          have : k = 0 := by
            rcases (show k = 0 ∨ k = 1 by omega) with r | r
            · exact r
            · rw [r] at h1
              exact absurd rfl h1
          rw [this]; rfl
        rw [if_neg h1] at hn ⊢
        rw [if_neg h1, if_pos n0]
        by_cases hc : A &&& (B ||| bitO (xE h (2 * i))) = 0
        · rw [if_pos hc] at hn ⊢
          exact ih (i + 1) _ _ (fun j q1 q2 => hk j (by omega) (by omega)) hn
        · rw [if_neg hc] at hn
          cases hn
    · exact absurd (hk i (Nat.le_refl _) (by omega)) q
theorem clash_c {μ : ZMem} {S : St} (hR : HR μ) (hw : WfS S) (h : InvC μ S) {s c : Nat} (hs : s < 8) (e : hW (gS S s) = 1) (hc : 2 * c ≤ hZ (gS S s)) (hk : mAll (gS S s) c 0 = true) : ∀ k i A B, i ≤ c → c < k + i → fX6_firstClash_b7 131 k (2 + 2 * s) (nI c) A B (nI i) μ = some (μ, oI (mClash (gS S s) (c - i) i A B).1) := by
  have hz := ((hw.2.2.1 s hs).2.1 e).2
  intro k
  induction k with
  | zero => intro i A B _ _; omega
  | succ k ih =>
    intro i A B q1 q2
    rw [fX6_firstClash_b7]
    unfold fX6_firstClash_b55
    by_cases hi : i = c
    · rw [if_pos ((nI_leI (by omega) (by omega)).mpr (by omega)), hi, Nat.sub_self]
      rfl
    · have a0 : fX3_intAt 131 (2 + 2 * s) (nI (2 * i)) μ = some (μ, xE (gS S s) (2 * i)) := intAt_i hR hw h hs e (i := 2 * i) (by omega)
      have a1 : fX3_intAt 131 (2 + 2 * s) (nI (2 * i + 1)) μ = some (μ, xE (gS S s) (2 * i + 1)) := intAt_i hR hw h hs e (i := 2 * i + 1) (by omega)
      have hb : (1 : Int32) <<< ((xE (gS S s) (2 * i) &&& (7 : Int32)) &&& 31) = bitO (xE (gS S s) (2 * i)) := by
        rcases cOk_or (gS S s) i with ⟨_, ka, _⟩ | ⟨q, _⟩
        · exact bit_e ka
        · exact absurd (mAll_at _ c 0 i hk (by omega) (by omega)) q
      rw [if_neg (fun q => by have := (nI_leI (by omega) (by omega)).mp q; omega), two_i, nI_1, nI_1, a0, bd2_s, a1, bd2_s, hb, show c - i = (c - (i + 1)) + 1 by omega]
      unfold mClash
      by_cases h1 : xE (gS S s) (2 * i + 1) = 1
      · rw [if_pos h1, if_pos h1]
        by_cases hcl : (A ||| bitO (xE (gS S s) (2 * i))) &&& B = 0
        · rw [if_pos hcl, if_pos hcl]
          exact ih (i + 1) _ _ (by omega) (by omega)
        · rw [if_neg hcl, if_neg hcl]
          rfl
      · rw [if_neg h1, if_neg h1]
        by_cases hcl : A &&& (B ||| bitO (xE (gS S s) (2 * i))) = 0
        · rw [if_pos hcl, if_pos hcl]
          exact ih (i + 1) _ _ (by omega) (by omega)
        · rw [if_neg hcl, if_neg hcl]
          rfl
theorem sorts_c {μ : ZMem} {S : St} (hR : HR μ) (hw : WfS S) (h : InvC μ S) {s c : Nat} (hs : s < 8) (e : hW (gS S s) = 1) (hc : 2 * c ≤ hZ (gS S s)) (hk : mAll (gS S s) c 0 = true) (t : Int32) : ∀ k i A, i ≤ c → c < k + i → fX6_sortsTold_b5 131 k (2 + 2 * s) (nI c) t A (nI i) μ = some (μ, mSorts (gS S s) t (c - i) i A) := by
  have hz := ((hw.2.2.1 s hs).2.1 e).2
  intro k
  induction k with
  | zero => intro i A _ _; omega
  | succ k ih =>
    intro i A q1 q2
    rw [fX6_sortsTold_b5]
    unfold fX6_sortsTold_b41
    by_cases hi : i = c
    · rw [if_pos ((nI_leI (by omega) (by omega)).mpr (by omega)), hi, Nat.sub_self]
      rfl
    · have a0 : fX3_intAt 131 (2 + 2 * s) (nI (2 * i)) μ = some (μ, xE (gS S s) (2 * i)) := intAt_i hR hw h hs e (i := 2 * i) (by omega)
      have a1 : fX3_intAt 131 (2 + 2 * s) (nI (2 * i + 1)) μ = some (μ, xE (gS S s) (2 * i + 1)) := intAt_i hR hw h hs e (i := 2 * i + 1) (by omega)
      have hb : (1 : Int32) <<< ((xE (gS S s) (2 * i) &&& (7 : Int32)) &&& 31) = bitO (xE (gS S s) (2 * i)) := by
        rcases cOk_or (gS S s) i with ⟨_, ka, _⟩ | ⟨q, _⟩
        · exact bit_e ka
        · exact absurd (mAll_at _ c 0 i hk (by omega) (by omega)) q
      rw [if_neg (fun q => by have := (nI_leI (by omega) (by omega)).mp q; omega), two_i, nI_1, nI_1, a1, bd2_s, a0, bd2_s, hb, show c - i = (c - (i + 1)) + 1 by omega]
      unfold mSorts
      by_cases h1 : xE (gS S s) (2 * i + 1) = t
      · rw [if_pos h1, if_pos h1]
        exact ih (i + 1) _ (by omega) (by omega)
      · rw [if_neg h1, if_neg h1]
        exact ih (i + 1) _ (by omega) (by omega)
def mab (μ : ZMem) (A B : Int32) : ZMem := zpI (zpI μ 108 37 A) 108 38 B
theorem mab_37 (μ : ZMem) (A B A' : Int32) : zpI (mab μ A B) 108 37 A' = mab μ A' B := by
  refine Prod.ext ?_ rfl
  funext a k
  simp only [mab, zpI]
  by_cases h : a = 108 ∧ k = 37
  · rw [if_pos h, if_neg (by omega), if_pos h]
  · rw [if_neg h, if_neg h, if_neg h]
theorem mab_38 (μ : ZMem) (A B B' : Int32) : zpI (mab μ A B) 108 38 B' = mab μ A B' := by
  refine Prod.ext ?_ rfl
  funext a k
  simp only [mab, zpI]
  by_cases h : a = 108 ∧ k = 38
  · rw [if_pos h, if_pos h]
  · rw [if_neg h, if_neg h, if_neg h]
theorem mab_a (μ : ZMem) (A B : Int32) : zI (mab μ A B) 108 37 = A := (zpI_ne (by omega)).trans (zpI_at _ _ _ _)
theorem mab_b (μ : ZMem) (A B : Int32) : zI (mab μ A B) 108 38 = B := zpI_at _ _ _ _
theorem HR_mab {μ : ZMem} {A B : Int32} (h : HR μ) : HR (mab μ A B) := HR_of h rfl
theorem InvM_mab {μ : ZMem} {S : St} {A B : Int32} (hw : WfS S) (h : InvM μ S) : InvM (mab μ A B) S := InvM_f hw h (fun a k q => (zpI_ne (by omega)).trans (zpI_ne (by omega))) (fun k => rfl)
theorem clash_m {μ : ZMem} {S : St} (hR : HR μ) (hw : WfS S) (h : InvM μ S) {s c : Nat} (hs : s < 8) (e : hW (gS S s) = 1) (hc : 2 * c ≤ hZ (gS S s)) : ∀ k i A B, i ≤ c → c < k + i → fX7_clashIn_b12 131 k 108 (nI s) (nI c) (nI i) (mab μ A B) = some (mab μ (mClash (gS S s) (c - i) i A B).2.1 (mClash (gS S s) (c - i) i A B).2.2, oI (mClash (gS S s) (c - i) i A B).1) := by
  have hz := ((hw.2.2.1 s hs).2.1 e).2
  intro k
  induction k with
  | zero => intro i A B _ _; omega
  | succ k ih =>
    intro i A B q1 q2
    rw [fX7_clashIn_b12]
    unfold fX7_clashIn_b68
    by_cases hi : i = c
    · rw [if_pos ((nI_leI (by omega) (by omega)).mpr (by omega)), hi, Nat.sub_self]
      rfl
    · have a0 : ∀ A B, fX7_intAt 131 108 (nI s) (nI (2 * i)) (mab μ A B) = some (mab μ A B, xE (gS S s) (2 * i)) := fun A B => intAt_m (HR_mab hR) hw (InvM_mab hw h) hs e (i := 2 * i) (by omega)
      have a1 : ∀ A B, fX7_intAt 131 108 (nI s) (nI (2 * i + 1)) (mab μ A B) = some (mab μ A B, xE (gS S s) (2 * i + 1)) := fun A B => intAt_m (HR_mab hR) hw (InvM_mab hw h) hs e (i := 2 * i + 1) (by omega)
      rw [if_neg (fun q => by have := (nI_leI (by omega) (by omega)).mp q; omega), two_i, nI_1, nI_1, a0, bd2_s, a1, bd2_s, lt_e, lt_e, mab_a, mab_b, mab_37, mab_38, mab_a, mab_b, mab_a, mab_b, show c - i = (c - (i + 1)) + 1 by omega]
      unfold mClash
      by_cases h1 : xE (gS S s) (2 * i + 1) = 1
      · rw [if_pos h1, if_pos h1]
        by_cases hcl : (A ||| bitO (xE (gS S s) (2 * i))) &&& B = 0
        · rw [if_pos hcl]
          have hcl' : (A ||| (1 : Int32) <<< (xE (gS S s) (2 * i) &&& 31)) &&& B = 0 := hcl
          rw [if_pos hcl']
          exact ih (i + 1) _ _ (by omega) (by omega)
        · rw [if_neg hcl]
          have hcl' : ¬ (A ||| (1 : Int32) <<< (xE (gS S s) (2 * i) &&& 31)) &&& B = 0 := hcl
          rw [if_neg hcl']
          rfl
      · rw [if_neg h1, if_neg h1]
        by_cases hcl : A &&& (B ||| bitO (xE (gS S s) (2 * i))) = 0
        · rw [if_pos hcl]
          have hcl' : A &&& (B ||| (1 : Int32) <<< (xE (gS S s) (2 * i) &&& 31)) = 0 := hcl
          rw [if_pos hcl']
          exact ih (i + 1) _ _ (by omega) (by omega)
        · rw [if_neg hcl]
          have hcl' : ¬ A &&& (B ||| (1 : Int32) <<< (xE (gS S s) (2 * i) &&& 31)) = 0 := hcl
          rw [if_neg hcl']
          rfl
theorem RM_mab {μ : ZMem} {S : St} {A B x : Int32} {r : Option (ZMem × Int32)} (hR : HR μ) (hw : WfS S) (h : InvM μ S) (e : r = some (mab μ A B, x)) : RM μ r (x, S) := ⟨_, e, HR_mab hR, InvM_mab hw h, EqC_t (EqC_p (by omega)) (EqC_p (by omega))⟩
theorem clashF_m {μ : ZMem} {S : St} (hR : HR μ) (hw : WfS S) (h : InvM μ S) {s c : Nat} (hs : s < 8) (e : hW (gS S s) = 1) (hc : 2 * c ≤ hZ (gS S s)) : fX7_clashIn 131 108 (nI s) (nI c) μ = some (mab μ (mClash (gS S s) c 0 0 0).2.1 (mClash (gS S s) c 0 0 0).2.2, oI (mClash (gS S s) c 0 0 0).1) := by
  have hz := ((hw.2.2.1 s hs).2.1 e).2
  have k1 := clash_m hR hw h hs e hc FU 0 0 0 (by omega) (by show c < 2000 + 0; omega)
  unfold fX7_clashIn
  rw [chk_t m_c, lt_e, lt_e]
  exact k1
theorem clashF_c {μ : ZMem} {S : St} (hR : HR μ) (hw : WfS S) (h : InvC μ S) {s c : Nat} (hs : s < 8) (e : hW (gS S s) = 1) (hc : 2 * c ≤ hZ (gS S s)) (hk : mAll (gS S s) c 0 = true) : fX6_firstClash 131 (2 + 2 * s) (nI c) μ = some (μ, oI (mClash (gS S s) c 0 0 0).1) := by
  have hz := ((hw.2.2.1 s hs).2.1 e).2
  have k1 := clash_c hR hw h hs e hc hk FU 0 0 0 (by omega) (by show c < 2000 + 0; omega)
  unfold fX6_firstClash
  rw [chk_t (shc hs)]
  exact k1
theorem Kp_clash {S : St} (hw : WfS S) (v n : Int32) : Kp S (fX6_clash 131 0 v n) (fX7_clash 131 108 v n) := by
  rcases cases_or hw v n 1 with ⟨k, k1, k7, t⟩ | ⟨_, s, c, hs, h1, h40, hc, rfl, rfl, hk, t⟩
  · refine Kp_far k k1 k7 hw (fun μ hR h => ?_) (fun μ hR h => ?_)
    · unfold fX6_clash
      rw [chk_t c_c, (t μ hR).1 h, bd2_s, if_neg (neg_ne k1 k7), bd2_e]
    · unfold fX7_clash fX7_clash_b26
      rw [chk_t m_c, (t μ hR).2 h, bd2_s, if_neg (neg_ne k1 k7), bd2_e]
  · refine ⟨(oI (mClash (gS S s) c 0 0 0).1, S), hw, fun μ hR h => RC_q hR h ?_, fun μ hR h => RM_mab (A := (mClash (gS S s) c 0 0 0).2.1) (B := (mClash (gS S s) c 0 0 0).2.2) hR hw h ?_⟩
    · unfold fX6_clash
      rw [chk_t c_c, (t μ hR).1 h, bd2_s, if_pos rfl, cr0 hR, bd1_s, chk_t (shi hs), shr hR hs, bd1_s, clashF_c hR hw h hs h1 hc hk, bd2_s]
    · unfold fX7_clash fX7_clash_b26
      rw [chk_t m_c, (t μ hR).2 h, bd2_s, if_pos rfl, clashF_m hR hw h hs h1 hc, bd2_s]
theorem mClash_lt (h : Sh) : ∀ r i A B w, (mClash h r i A B).1 = some w → w < i + r := by
  intro r
  induction r with
  | zero => intro i A B w q; cases q
  | succ r ih =>
    intro i A B w q
    unfold mClash at q
    split at q
    · split at q
      · have := ih _ _ _ _ q; omega
      · cases q; omega
    · split at q
      · have := ih _ _ _ _ q; omega
      · cases q; omega
theorem Kp_cases {S : St} (hw : WfS S) (v n w : Int32) : Kp S (fX6_cases 131 0 v n w) (fX7_cases 131 108 v n w) := by
  have b10 : ∀ μ, fX6_isIn 131 w 0 1 μ = some (μ, if (0 : Int32) ≤ w ∧ w ≤ 1 then 1 else 0) := fun μ => isIn_f w 0 1 μ
  have mB : ∀ μ, fX7_cases 131 108 v n w μ = fX7_cases_b17 131 108 v n w 108 v n (if (0 : Int32) ≤ w ∧ w ≤ 1 then 1 else 0) μ := by
    intro μ
    unfold fX7_cases fX7_cases_b12
    rw [chk_t m_c]
    by_cases c0 : w = 0
    · rw [if_pos c0, if_pos (by rw [c0]; decide)]
    · rw [if_neg c0]
      by_cases c1 : w = 1
      · rw [if_pos c1, if_pos (by rw [c1]; decide)]
      · rw [if_neg c1, if_neg (fun q => ?_)]
        obtain ⟨k, _, k1, e⟩ := in_nat (lo := 0) (hi := 1) (by omega) (by omega) q
        rcases (show k = 0 ∨ k = 1 by omega) with r | r
        · rw [r] at e; exact c0 e
        · rw [r] at e; exact c1 e
  rcases cases_or hw v n (if (0 : Int32) ≤ w ∧ w ≤ 1 then 1 else 0) with ⟨k, k1, k7, t⟩ | ⟨_, s, c, hs, h1, h40, hc, rfl, rfl, hk, t⟩
  · refine Kp_far k k1 k7 hw (fun μ hR h => ?_) (fun μ hR h => ?_)
    · unfold fX6_cases
      rw [chk_t c_c, b10, bd2_s, (t μ hR).1 h, bd2_s, if_neg (neg_ne k1 k7), bd2_e]
    · rw [mB]
      unfold fX7_cases_b17
      rw [(t μ hR).2 h, bd2_s, if_neg (neg_ne k1 k7), bd2_e]
  · cases hn : (mClash (gS S s) c 0 0 0).1 with
    | some x =>
      have hx := mClash_lt _ _ _ _ _ _ hn
      have hne : ¬ oI (some x) = (-1 : Int32) := nI_m1 (by omega)
      refine ⟨(-1, S), hw, fun μ hR h => RC_q hR h ?_, fun μ hR h => RM_mab (A := (mClash (gS S s) c 0 0 0).2.1) (B := (mClash (gS S s) c 0 0 0).2.2) hR hw h ?_⟩
      · unfold fX6_cases
        rw [chk_t c_c, b10, bd2_s, (t μ hR).1 h, bd2_s, if_pos rfl, cr0 hR, bd1_s, chk_t (shi hs), shr hR hs, bd1_s, clashF_c hR hw h hs h1 hc hk, bd2_s, hn, if_neg hne]
      · rw [mB]
        unfold fX7_cases_b17
        rw [(t μ hR).2 h, bd2_s, if_pos rfl, clashF_m hR hw h hs h1 hc, bd2_s, hn, if_neg hne]
    | none =>
      obtain ⟨sA, sB⟩ := mClash_s (gS S s) c 0 0 0 (fun j q1 q2 => mAll_at _ c 0 j hk q1 q2) hn
      have hz := ((hw.2.2.1 s hs).2.1 h1).2
      refine ⟨(if w = 0 then (mClash (gS S s) c 0 0 0).2.1 else 31 - (mClash (gS S s) c 0 0 0).2.2, S), hw, fun μ hR h => RC_q hR h ?_, fun μ hR h => RM_mab (A := (mClash (gS S s) c 0 0 0).2.1) (B := (mClash (gS S s) c 0 0 0).2.2) hR hw h ?_⟩
      · have f1 : ∀ t, fX6_sortsTold 131 (2 + 2 * s) (nI c) t μ = some (μ, mSorts (gS S s) t c 0 0) := by
          intro t
          have k1 := sorts_c hR hw h hs h1 hc hk t FU 0 0 (by omega) (by show c < 2000 + 0; omega)
          unfold fX6_sortsTold
          rw [chk_t (shc hs)]
          exact k1
        unfold fX6_cases fX6_cases_b74
        rw [chk_t c_c, b10, bd2_s, (t μ hR).1 h, bd2_s, if_pos rfl, cr0 hR, bd1_s, chk_t (shi hs), shr hR hs, bd1_s, clashF_c hR hw h hs h1 hc hk, bd2_s, hn, if_pos (show oI none = (-1 : Int32) from rfl), cr0 hR, bd1_s, bd1_s, chk_t (shi hs), chk_t (shi hs), shr hR hs, bd1_s, bd1_s, f1, f1, bd2_s, bd2_s, sA, sB]
        by_cases h0 : w = 0
        · rw [if_pos h0, if_pos h0]
        · rw [if_neg h0, if_neg h0]
      · rw [mB]
        unfold fX7_cases_b17 fX7_cases_b64
        rw [(t μ hR).2 h, bd2_s, if_pos rfl, clashF_m hR hw h hs h1 hc, bd2_s, hn, if_pos (show oI none = (-1 : Int32) from rfl), mab_a, mab_b]
        by_cases h0 : w = 0
        · rw [if_pos h0, if_pos h0]
        · rw [if_neg h0, if_neg h0]
