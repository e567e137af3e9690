-- THE MODEL'S KEEPING AND PUTTING BACK
def sav (μ : ZMem) (a : Nat) (σ : Sg) : ZMem := (fun x i => if x = a ∧ i < 43 then (if i < 35 then nI (sP σ (i % 7) (i / 7)) else scv σ (i - 34)) else μ.1 x i, μ.2)
def AR (a : Nat) : Prop := a ∈ [125, 126, 127]
theorem AR_a : ∀ a ∈ [125, 126, 127], isC 131 100 a = true ∧ zsz a = 45 ∧ 125 ≤ a ∧ a ≤ 127 := by decide
def sfv (X : ZMem) (i : Nat) : Int32 := if i < 35 then X.1 (110 + i / 7) (i % 7) else X.1 108 (i - 35)
def sf (X : ZMem) (a m : Nat) : ZMem := (fun x i => if x = a ∧ i < m then sfv X i else X.1 x i, X.2)
theorem sf_s {X : ZMem} {a m : Nat} {y : Int32} (h : y = sfv X m) : zpI (sf X a m) a m y = sf X a (m + 1) := by
  subst h
  refine Prod.ext ?_ rfl
  funext x i
  simp only [zpI, sf]
  by_cases hx : x = a ∧ i = m
  · obtain ⟨rfl, rfl⟩ := hx
    simp
  · rw [if_neg hx]
    by_cases h1 : x = a ∧ i < m
    · rw [if_pos h1, if_pos (by omega)]
    · rw [if_neg h1, if_neg (by omega)]
theorem sf_o {X : ZMem} {a m x i : Nat} (h : x ≠ a) : zI (sf X a m) x i = X.1 x i := by simp [zI, sf, h]
def sbk (X : ZMem) (a m : Nat) : ZMem := (fun x i => if 110 ≤ x ∧ x < 115 ∧ i < 7 ∧ 7 * (x - 110) + i < m then X.1 a (7 * (x - 110) + i) else if x = 108 ∧ i < 8 ∧ 35 + i < m then X.1 a (35 + i) else X.1 x i, X.2)
theorem sbk_o {X : ZMem} {a m i : Nat} (h : 125 ≤ a) : zI (sbk X a m) a i = X.1 a i := by
  simp only [zI, sbk]
  rw [if_neg (by omega), if_neg (by omega)]
theorem sbk_s {X : ZMem} {a j i : Nat} (hj : j < 5) (hi : i < 7) : zpI (sbk X a (7 * j + i)) (110 + j) i (X.1 a (7 * j + i)) = sbk X a (7 * j + i + 1) := by
  refine Prod.ext ?_ rfl
  funext x k
  simp only [zpI, sbk]
  by_cases hx : x = 110 + j ∧ k = i
  · obtain ⟨rfl, rfl⟩ := hx
    have e : 110 + j - 110 = j := by omega
    rw [if_pos ⟨rfl, rfl⟩, e]
    repeat' split
    all_goals first | rfl | omega
  · rw [if_neg hx]
    repeat' split
    all_goals first | rfl | omega
theorem sbk_c {X : ZMem} {a i : Nat} (hi : i < 8) : zpI (sbk X a (35 + i)) 108 i (X.1 a (35 + i)) = sbk X a (35 + i + 1) := by
  refine Prod.ext ?_ rfl
  funext x k
  simp only [zpI, sbk]
  by_cases hx : x = 108 ∧ k = i
  · obtain ⟨rfl, rfl⟩ := hx
    rw [if_pos ⟨rfl, rfl⟩]
    repeat' split
    all_goals first | rfl | omega
  · rw [if_neg hx]
    repeat' split
    all_goals first | rfl | omega
theorem cr_c : ∀ j, j < 5 → isC 131 100 (110 + j) = true ∧ zsz (110 + j) = 7 := by decide
theorem inbA {a i : Nat} (ha : AR a) (hi : i < 45) : inb (nI i) a = true := inb_nI (by rw [(AR_a a ha).2.1]; exact hi)
theorem inbP {j i : Nat} (hj : j < 5) (hi : i < 7) : inb (nI i) (110 + j) = true := inb_nI (by rw [(cr_c j hj).2]; exact hi)
theorem carF {X : ZMem} {a j : Nat} (ha : AR a) (hj : j < 5) : ∀ k i, i ≤ 7 → 7 < k + i → fX7_carries_b3 131 k (110 + j) a (nI (7 * j)) 0 (nI i) (sf X a (7 * j + i)) = some (sf X a (7 * j + 7), nI (7 * j + 7)) := by
  obtain ⟨h1, h2, h3, h4⟩ := AR_a a ha
  intro k
  induction k with
  | zero => intro i _ _; omega
  | succ k ih =>
    intro i q1 q2
    rw [fX7_carries_b3]
    unfold fX7_carries_b38
    have l7 : (7 : Int32) = nI 7 := rfl
    rw [l7, nI_add, nI_add, nI_1]
    by_cases hi : i = 7
    · rw [if_pos ((nI_leI (by omega) (by omega)).mpr (by omega)), hi]
    · rw [if_neg (fun q => by have := (nI_leI (by omega) (by omega)).mp q; omega), if_pos (rfl : (0 : Int32) = 0), chk_t (inbP hj (by omega)), chk_t (inbA ha (by omega)), nI_clamp (by omega), nI_clamp (by omega), lt_e, sf_o (by omega)]
      have e : X.1 (110 + j) i = sfv X (7 * j + i) := by
        unfold sfv
        rw [if_pos (by omega), show (7 * j + i) / 7 = j by omega, show (7 * j + i) % 7 = i by omega]
      rw [sf_s e]
      exact ih (i + 1) (by omega) (by omega)
theorem carB {X : ZMem} {a j : Nat} (ha : AR a) (hj : j < 5) : ∀ k i, i ≤ 7 → 7 < k + i → fX7_carries_b3 131 k (110 + j) a (nI (7 * j)) 1 (nI i) (sbk X a (7 * j + i)) = some (sbk X a (7 * j + 7), nI (7 * j + 7)) := by
  obtain ⟨h1, h2, h3, h4⟩ := AR_a a ha
  intro k
  induction k with
  | zero => intro i _ _; omega
  | succ k ih =>
    intro i q1 q2
    rw [fX7_carries_b3]
    unfold fX7_carries_b38
    have l7 : (7 : Int32) = nI 7 := rfl
    rw [l7, nI_add, nI_add, nI_1]
    by_cases hi : i = 7
    · rw [if_pos ((nI_leI (by omega) (by omega)).mpr (by omega)), hi]
    · rw [if_neg (fun q => by have := (nI_leI (by omega) (by omega)).mp q; omega), if_neg (show ¬ (1 : Int32) = 0 by decide), chk_t (inbA ha (by omega)), chk_t (inbP hj (by omega)), nI_clamp (by omega), nI_clamp (by omega), lt_e, sbk_o h3, sbk_s hj (by omega)]
      exact ih (i + 1) (by omega) (by omega)
theorem carryF {X : ZMem} {a j : Nat} (ha : AR a) (hj : j < 5) : fX7_carries 131 108 (110 + j) a (nI (7 * j)) 0 (sf X a (7 * j)) = some (sf X a (7 * j + 7), nI (7 * j + 7)) := by
  unfold fX7_carries
  rw [chk_t m_c, chk_t (cr_c j hj).1, chk_t (AR_a a ha).1]
  exact carF ha hj FU 0 (by omega) (by show 7 < 2000 + 0; omega)
theorem carryB {X : ZMem} {a j : Nat} (ha : AR a) (hj : j < 5) : fX7_carries 131 108 (110 + j) a (nI (7 * j)) 1 (sbk X a (7 * j)) = some (sbk X a (7 * j + 7), nI (7 * j + 7)) := by
  unfold fX7_carries
  rw [chk_t m_c, chk_t (cr_c j hj).1, chk_t (AR_a a ha).1]
  exact carB ha hj FU 0 (by omega) (by show 7 < 2000 + 0; omega)
theorem HR_sf {X : ZMem} {a m : Nat} (h : HR X) : HR (sf X a m) := HR_of h rfl
theorem HR_sbk {X : ZMem} {a m : Nat} (h : HR X) : HR (sbk X a m) := HR_of h rfl
theorem allF {X : ZMem} {a : Nat} (ha : AR a) (hR : HR X) : fX7_all 131 108 a 0 X = some (sf X a 43) := by
  obtain ⟨h1, h2, h3, h4⟩ := AR_a a ha
  have e0 : X = sf X a 0 := by
    refine Prod.ext ?_ rfl
    funext x i
    simp [sf]
  have c0 := carryF (X := X) ha (j := 0) (by omega)
  have c1 := carryF (X := X) ha (j := 1) (by omega)
  have c2 := carryF (X := X) ha (j := 2) (by omega)
  have c3 := carryF (X := X) ha (j := 3) (by omega)
  have c4 := carryF (X := X) ha (j := 4) (by omega)
  unfold fX7_all fX7_all_b211
  rw [chk_t m_c, chk_t h1, mr10 hR, bd1_s, show fX7_carries 131 108 110 a 0 0 X = some (sf X a 7, nI 7) from (by
    have := c0
    rw [show 7 * 0 = 0 from rfl, ← e0] at this
    exact this), bd2_s, mr11 (HR_sf hR), bd1_s, c1, bd2_s, mr12 (HR_sf hR), bd1_s, c2, bd2_s, mr13 (HR_sf hR), bd1_s, c3, bd2_s, mr14 (HR_sf hR), bd1_s, c4, bd2_s, if_pos (rfl : (0 : Int32) = 0)]
  have l1 : (1 : Int32) = nI 1 := rfl
  have l2 : (2 : Int32) = nI 2 := rfl
  have l3 : (3 : Int32) = nI 3 := rfl
  have l4 : (4 : Int32) = nI 4 := rfl
  have l5 : (5 : Int32) = nI 5 := rfl
  have l6 : (6 : Int32) = nI 6 := rfl
  have l7 : (7 : Int32) = nI 7 := rfl
  have st : ∀ i, i < 8 → ∀ f : ZMem → Option ZMem, chk (inb (nI (35 + i)) a) (lt (zpI (sf X a (35 + i)) a (nI (35 + i)).toNatClampNeg (zI (sf X a (35 + i)) 108 i)) f) = f (sf X a (35 + i + 1)) := by
    intro i hi f
    rw [chk_t (inbA ha (by omega)), lt_e, nI_clamp (by omega), sf_o (by omega), sf_s]
    unfold sfv
    rw [if_neg (by omega), show 35 + i - 35 = i by omega]
  rw [l1, l2, l3, l4, l5, l6, l7, nI_add, nI_add, nI_add, nI_add, nI_add, nI_add, nI_add]
  refine Eq.trans (st 0 (by omega) _) ?_
  refine Eq.trans (st 1 (by omega) _) ?_
  refine Eq.trans (st 2 (by omega) _) ?_
  refine Eq.trans (st 3 (by omega) _) ?_
  refine Eq.trans (st 4 (by omega) _) ?_
  refine Eq.trans (st 5 (by omega) _) ?_
  refine Eq.trans (st 6 (by omega) _) ?_
  exact st 7 (by omega) _
theorem allB {X : ZMem} {a : Nat} (ha : AR a) (hR : HR X) : fX7_all 131 108 a 1 X = some (sbk X a 43) := by
  obtain ⟨h1, h2, h3, h4⟩ := AR_a a ha
  have e0 : X = sbk X a 0 := by
    refine Prod.ext ?_ rfl
    funext x i
    simp [sbk]
  have c0 := carryB (X := X) ha (j := 0) (by omega)
  have c1 := carryB (X := X) ha (j := 1) (by omega)
  have c2 := carryB (X := X) ha (j := 2) (by omega)
  have c3 := carryB (X := X) ha (j := 3) (by omega)
  have c4 := carryB (X := X) ha (j := 4) (by omega)
  unfold fX7_all fX7_all_b211
  rw [chk_t m_c, chk_t h1, mr10 hR, bd1_s, show fX7_carries 131 108 110 a 0 1 X = some (sbk X a 7, nI 7) from (by
    have := c0
    rw [show 7 * 0 = 0 from rfl, ← e0] at this
    exact this), bd2_s, mr11 (HR_sbk hR), bd1_s, c1, bd2_s, mr12 (HR_sbk hR), bd1_s, c2, bd2_s, mr13 (HR_sbk hR), bd1_s, c3, bd2_s, mr14 (HR_sbk hR), bd1_s, c4, bd2_s, if_neg (show ¬ (1 : Int32) = 0 by decide)]
  have l1 : (1 : Int32) = nI 1 := rfl
  have l2 : (2 : Int32) = nI 2 := rfl
  have l3 : (3 : Int32) = nI 3 := rfl
  have l4 : (4 : Int32) = nI 4 := rfl
  have l5 : (5 : Int32) = nI 5 := rfl
  have l6 : (6 : Int32) = nI 6 := rfl
  have l7 : (7 : Int32) = nI 7 := rfl
  have st : ∀ i, i < 8 → ∀ f : ZMem → Option ZMem, chk (inb (nI (35 + i)) a) (lt (zpI (sbk X a (35 + i)) 108 i (zI (sbk X a (35 + i)) a (nI (35 + i)).toNatClampNeg)) f) = f (sbk X a (35 + i + 1)) := by
    intro i hi f
    rw [chk_t (inbA ha (by omega)), lt_e, nI_clamp (by omega), sbk_o h3, sbk_c hi]
  rw [l1, l2, l3, l4, l5, l6, l7, nI_add, nI_add, nI_add, nI_add, nI_add, nI_add, nI_add]
  refine Eq.trans (st 0 (by omega) _) ?_
  refine Eq.trans (st 1 (by omega) _) ?_
  refine Eq.trans (st 2 (by omega) _) ?_
  refine Eq.trans (st 3 (by omega) _) ?_
  refine Eq.trans (st 4 (by omega) _) ?_
  refine Eq.trans (st 5 (by omega) _) ?_
  refine Eq.trans (st 6 (by omega) _) ?_
  exact st 7 (by omega) _
theorem all_f {μ : ZMem} {a : Nat} {σ : Sg} (ha : AR a) (hR : HR μ) : fX7_all 131 108 a 0 (ovm μ σ) = some (ovm (sav μ a σ) σ) := by
  obtain ⟨h1, h2, h3, h4⟩ := AR_a a ha
  rw [allF ha (HR_ovm hR)]
  congr 1
  refine Prod.ext ?_ rfl
  funext x i
  simp only [sf, ovm, sav, sfv]
  by_cases hx : x = a ∧ i < 43
  · obtain ⟨rfl, hi⟩ := hx
    rw [if_pos (show x = x ∧ i < 43 from ⟨rfl, hi⟩), if_neg (show ¬ x = 108 by omega), if_neg (show ¬ (110 ≤ x ∧ x < 115 ∧ i < 7) by omega), if_pos (show x = x ∧ i < 43 from ⟨rfl, hi⟩)]
    by_cases h35 : i < 35
    · rw [if_pos h35, if_pos h35, if_neg (show ¬ 110 + i / 7 = 108 by omega), if_pos (show 110 ≤ 110 + i / 7 ∧ 110 + i / 7 < 115 ∧ i % 7 < 7 by omega), show 110 + i / 7 - 110 = i / 7 by omega]
    · rw [if_neg h35, if_neg h35, if_pos trivial, if_pos (show i - 35 < 8 by omega), show i - 35 + 1 = i - 34 by omega]
  · rw [if_neg hx, if_neg hx]
theorem all_b {μ : ZMem} {a : Nat} {σ τ : Sg} (ha : AR a) (hR : HR μ) : fX7_all 131 108 a 1 (ovm (sav μ a σ) τ) = some (ovm (sav μ a σ) σ) := by
  obtain ⟨h1, h2, h3, h4⟩ := AR_a a ha
  rw [allB (X := ovm (sav μ a σ) τ) ha (HR_of hR rfl)]
  congr 1
  refine Prod.ext ?_ rfl
  funext x i
  have hs : ∀ k, k < 43 → (ovm (sav μ a σ) τ).1 a k = if k < 35 then nI (sP σ (k % 7) (k / 7)) else scv σ (k - 34) := by
    intro k hk
    simp only [ovm, sav]
    rw [if_neg (show ¬ a = 108 by omega), if_neg (show ¬ (110 ≤ a ∧ a < 115 ∧ k < 7) by omega), if_pos ⟨trivial, hk⟩]
  show (if 110 ≤ x ∧ x < 115 ∧ i < 7 ∧ 7 * (x - 110) + i < 43 then (ovm (sav μ a σ) τ).1 a (7 * (x - 110) + i) else if x = 108 ∧ i < 8 ∧ 35 + i < 43 then (ovm (sav μ a σ) τ).1 a (35 + i) else (ovm (sav μ a σ) τ).1 x i) = (if x = 108 then (if i < 8 then scv σ (i + 1) else (sav μ a σ).1 x i) else if 110 ≤ x ∧ x < 115 ∧ i < 7 then nI (sP σ i (x - 110)) else (sav μ a σ).1 x i)
  by_cases hx : 110 ≤ x ∧ x < 115 ∧ i < 7
  · rw [if_pos (show 110 ≤ x ∧ x < 115 ∧ i < 7 ∧ 7 * (x - 110) + i < 43 by omega), if_neg (show ¬ x = 108 by omega), if_pos hx, hs _ (by omega), if_pos (show 7 * (x - 110) + i < 35 by omega), show (7 * (x - 110) + i) % 7 = i by omega, show (7 * (x - 110) + i) / 7 = x - 110 by omega]
  · rw [if_neg (show ¬ (110 ≤ x ∧ x < 115 ∧ i < 7 ∧ 7 * (x - 110) + i < 43) from fun q => hx ⟨q.1, q.2.1, q.2.2.1⟩)]
    by_cases h8 : x = 108 ∧ i < 8
    · obtain ⟨rfl, h8⟩ := h8
      rw [if_pos (show 108 = 108 ∧ i < 8 ∧ 35 + i < 43 from ⟨rfl, h8, by omega⟩), if_pos (rfl : (108 : Nat) = 108), if_pos h8, hs _ (by omega), if_neg (show ¬ 35 + i < 35 by omega), show 35 + i - 34 = i + 1 by omega]
    · rw [if_neg (show ¬ (x = 108 ∧ i < 8 ∧ 35 + i < 43) from fun q => h8 ⟨q.1, q.2.1⟩)]
      show (if x = 108 then (if i < 8 then scv τ (i + 1) else (sav μ a σ).1 x i) else if 110 ≤ x ∧ x < 115 ∧ i < 7 then nI (sP τ i (x - 110)) else (sav μ a σ).1 x i) = _
      by_cases h108 : x = 108
      · rw [if_pos h108, if_pos h108, if_neg (fun q => h8 ⟨h108, q⟩), if_neg (fun q => h8 ⟨h108, q⟩)]
      · rw [if_neg h108, if_neg h108, if_neg hx, if_neg hx]
