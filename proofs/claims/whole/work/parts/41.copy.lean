-- COPY
theorem sub_lt0 {z c : Nat} (hz : z ≤ 1000) (hc : c < 2 ^ 31) (h : z < c) : (nI z - nI c).toInt < 0 := by
  rw [Int32.toInt_sub, nI_toInt (by omega), nI_toInt hc, Int.bmod_eq_of_le (by omega) (by omega)]
  omega
def NoStr (h : Sh) (i n : Int32) : Prop := i < 0 ∨ n < 0 ∨ ∃ a b, a < 2 ^ 31 ∧ b < 2 ^ 31 ∧ hZ h < a + b ∧ i = nI a ∧ n = nI b
theorem str_or (h : Sh) (i n : Int32) : NoStr h i n ∨ ∃ a b, a + b ≤ hZ h ∧ i = nI a ∧ n = nI b := by
  rcases nat_or i with q | ⟨a, ha, rfl⟩
  · exact Or.inl (Or.inl q)
  · rcases nat_or n with q | ⟨b, hb, rfl⟩
    · exact Or.inl (Or.inr (Or.inl q))
    · by_cases c : a + b ≤ hZ h
      · exact Or.inr ⟨a, b, c, rfl, rfl⟩
      · exact Or.inl (Or.inr (Or.inr ⟨a, b, ha, hb, by omega, rfl, rfl⟩))
theorem str_y {μ : ZMem} {S : St} (hw : WfS S) (h : InvC μ S) {s : Nat} (hs : s < 8) (e : hW (gS S s) = 1) {a b : Nat} (c : a + b ≤ hZ (gS S s)) : fX3_hasStretch 131 (2 + 2 * s) (nI a) (nI b) μ = some (μ, 1) := by
  have hz := ((hw.2.2.1 s hs).2.1 e).2
  unfold fX3_hasStretch fX3_hasStretch_b27
  have g : ¬ 0 < lg_cmp (lN (a + b)) (lN (hZ (gS S s))) := fun q => by
    have := (lN_lt (by omega) (by omega)).mp ((lg_cmp_gt _ _).mp q)
    omega
  rw [chk_t (shc hs), if_neg (nI_pos (by omega)), if_neg (nI_pos (by omega)), cZ h hs e, nI_l (by omega), nI_l (by omega), nI_l (by omega), lN_add, if_neg g, chk_t b01_1]
theorem str_n {μ : ZMem} {S : St} (hw : WfS S) (h : InvC μ S) {s : Nat} (hs : s < 8) (e : hW (gS S s) = 1) {i n : Int32} (c : NoStr (gS S s) i n) : fX3_hasStretch 131 (2 + 2 * s) i n μ = some (μ, 0) := by
  have hz := ((hw.2.2.1 s hs).2.1 e).2
  unfold fX3_hasStretch fX3_hasStretch_b26 fX3_hasStretch_b27
  rw [chk_t (shc hs), chk_t b01_0, chk_t b01_1]
  rcases c with c | c | ⟨a, b, ha, hb, c, rfl, rfl⟩
  · rw [if_pos c]
  · by_cases q : i < 0
    · rw [if_pos q]
    · rw [if_neg q, if_pos c]
  · have g : 0 < lg_cmp (lN (a + b)) (lN (hZ (gS S s))) := (lg_cmp_gt _ _).mpr ((pk_lLT (by omega) (by omega)).mpr c)
    rw [if_neg (nI_pos ha), if_neg (nI_pos hb), cZ h hs e, nI_l ha, nI_l hb, nI_l (by omega), lN_add, if_pos g]
def hcopy (h g : Sh) (i j n : Nat) : Sh := (hW h, hO h, hZ h, hQ h, fun x => if j ≤ x ∧ x < j + n then hE g (i + (x - j)) else hE h x)
theorem i20 {k : Nat} (hk : k < 160) : inb (nI k) 120 = true := inb_nI (by rw [show zsz 120 = 160 by decide]; exact hk)
theorem i19b {k : Nat} (hk : k < 1280) : inb (nI k) 119 = true := inb_nI (by rw [show zsz 119 = 1280 by decide]; exact hk)
theorem ix3 (p i m : Nat) : (160 : Int32) * nI p + nI i + nI m = nI (160 * p + i + m) := by
  rw [show (160 : Int32) * nI p = nI (160 * p) from pk_mul 160 p, nI_add, nI_add]
def cp1 (μ : ZMem) (o m : Nat) : ZMem := (μ.1, fun a k => if a = 120 ∧ k < m then μ.2.1 119 (o + k) else μ.2.1 a k, μ.2.2)
def cp2 (X : ZMem) (o m : Nat) : ZMem := (X.1, fun a k => if a = 119 ∧ o ≤ k ∧ k < o + m then X.2.1 120 (k - o) else X.2.1 a k, X.2.2)
theorem cp1_s (μ : ZMem) (o m : Nat) : zpL (cp1 μ o m) 120 m (zL (cp1 μ o m) 119 (o + m)) = cp1 μ o (m + 1) := by
  refine Prod.ext rfl (Prod.ext ?_ rfl)
  funext a k
  simp only [zpL, zL, cp1]
  by_cases h : a = 120 ∧ k = m
  · obtain ⟨rfl, rfl⟩ := h
    rw [if_pos ⟨rfl, rfl⟩, if_neg (by omega), if_pos (by omega)]
  · rw [if_neg h]
    by_cases c : a = 120 ∧ k < m
    · rw [if_pos c, if_pos (by omega)]
    · rw [if_neg c, if_neg (by omega)]
theorem cp2_s (X : ZMem) (o m : Nat) : zpL (cp2 X o m) 119 (o + m) (zL (cp2 X o m) 120 m) = cp2 X o (m + 1) := by
  refine Prod.ext rfl (Prod.ext ?_ rfl)
  funext a k
  simp only [zpL, zL, cp2]
  by_cases h : a = 119 ∧ k = o + m
  · obtain ⟨rfl, rfl⟩ := h
    rw [if_pos ⟨rfl, rfl⟩, if_neg (by omega), if_pos (by omega), show o + m - o = m by omega]
  · rw [if_neg h]
    by_cases c : a = 119 ∧ o ≤ k ∧ k < o + m
    · rw [if_pos c, if_pos (by omega)]
    · rw [if_neg c, if_neg (by omega)]
theorem copyB {X : ZMem} {q j n : Nat} (hR : HR X) (hn : n ≤ 160) (ho : 160 * q + j + n ≤ 1280) : ∀ k m, m ≤ n → n < k + m → fX7_copy_b205 131 k 108 (nI q) (nI j) (nI n) (nI m) (cp2 X (160 * q + j) m) = some (cp2 X (160 * q + j) n, 1) := by
  intro k
  induction k with
  | zero => intro m _ _; omega
  | succ k ih =>
    intro m q1 q2
    have hR2 : HR (cp2 X (160 * q + j) m) := HR_of hR rfl
    rw [fX7_copy_b205]
    by_cases hm : m = n
    · rw [if_pos ((nI_leI (by omega) (by omega)).mpr (by omega)), hm]
    · rw [if_neg (fun q => by have := (nI_leI (by omega) (by omega)).mp q; omega), mr19 hR2, bd1_s, mr20 hR2, bd1_s, chk_t (i20 (by omega)), ix3, chk_t (i19b (by omega)), nI_clamp (by omega), nI_clamp (by omega), lt_e, cp2_s, nI_1]
      exact ih (m + 1) (by omega) (by omega)
theorem copyA {μ : ZMem} {p q i j n : Nat} (hR : HR μ) (hn : n ≤ 160) (hi : 160 * p + i + n ≤ 1280) (ho : 160 * q + j + n ≤ 1280) : ∀ k m, m ≤ n → n < k + m → fX7_copy_b167 131 k 108 (nI p) (nI q) (nI i) (nI j) (nI n) (nI m) (cp1 μ (160 * p + i) m) = some (cp2 (cp1 μ (160 * p + i) n) (160 * q + j) n, 1) := by
  intro k
  induction k with
  | zero => intro m _ _; omega
  | succ k ih =>
    intro m q1 q2
    have hR2 : HR (cp1 μ (160 * p + i) m) := HR_of hR rfl
    rw [fX7_copy_b167]
    by_cases hm : m = n
    · rw [if_pos ((nI_leI (by omega) (by omega)).mpr (by omega)), hm]
      have e0 : cp2 (cp1 μ (160 * p + i) n) (160 * q + j) 0 = cp1 μ (160 * p + i) n := by
        refine Prod.ext rfl (Prod.ext ?_ rfl)
        funext a k
        simp only [cp2]
        rw [if_neg (by omega)]
      have := copyB (X := cp1 μ (160 * p + i) n) (q := q) (j := j) (HR_of hR rfl) hn ho FU 0 (by omega) (by show n < 2000 + 0; omega)
      rw [e0] at this
      exact this
    · rw [if_neg (fun q => by have := (nI_leI (by omega) (by omega)).mp q; omega), mr20 hR2, bd1_s, mr19 hR2, bd1_s, ix3, chk_t (i19b (by omega)), chk_t (i20 (by omega)), nI_clamp (by omega), nI_clamp (by omega), lt_e, cp1_s, nI_1]
      exact ih (m + 1) (by omega) (by omega)
theorem Kp_copy {S : St} (hw : WfS S) (v u i j n : Int32) : Kp S (fX6_copy 131 0 v u i j n) (fX7_copy 131 108 v u i j n) := by
  rcases shelf_or v with hv | ⟨p, hp, rfl⟩
  · refine Kp_no 1 (by omega) (by omega) hw (fun μ hR h => ?_) (fun μ hR h => ?_)
    · unfold fX6_copy fX6_copyRefusal fX6_copyRefusal_b14
      rw [chk_t c_c, chk_t c_c, isShelf_z hv, bd2_s, if_pos rfl, bd2_s, if_neg (show ¬ (-1 : Int32) = 0 by decide), bd2_e]; rfl
    · unfold fX7_copy fX7_copy_b16
      rw [chk_t m_c, mShelf_z hv, bd2_s, if_pos rfl, bd2_e]; rfl
  rcases shelf_or u with hu | ⟨q, hq, rfl⟩
  · refine Kp_no 1 (by omega) (by omega) hw (fun μ hR h => ?_) (fun μ hR h => ?_)
    · unfold fX6_copy fX6_copyRefusal fX6_copyRefusal_b14
      rw [chk_t c_c, chk_t c_c, isShelf_i hp, bd2_s, if_neg one_ne, isShelf_z hu, bd2_s, if_pos rfl, bd2_s, if_neg (show ¬ (-1 : Int32) = 0 by decide), bd2_e]; rfl
    · unfold fX7_copy fX7_copy_b16
      rw [chk_t m_c, mShelf_i hp, bd2_s, if_neg one_ne, mShelf_z hu, bd2_s, if_pos rfl, bd2_e]; rfl
  have hwp := (hw.2.2.1 p hp).1
  have hwq := (hw.2.2.1 q hq).1
  -- what the class asks ahead
  have cS : ∀ μ, HR μ → fX6_copyRefusal 131 0 (nI p) (nI q) i j n μ = bd2 (fX3_isPerson 131 (2 + 2 * p) μ) (fun μ20 r21 => (if r21 = 0 then bd2 (fX3_isPerson 131 (2 + 2 * q) μ20) (fun μ24 r25 => (if r25 = 0 then bd2 (fX3_isRow 131 (2 + 2 * p) μ24) (fun μ28 r29 => (if r29 = 0 then (fX6_copyRefusal_b67 131 μ28) else bd2 (fX3_isRow 131 (2 + 2 * q) μ28) (fun μ32 r33 => (if r33 = 0 then (fX6_copyRefusal_b67 131 μ32) else (if (zI μ32 (2 + 2 * p) 1) = (zI μ32 (2 + 2 * q) 1) then (if 0 ≤ n then bd2 (fX3_hasStretch 131 (2 + 2 * p) i n μ32) (fun μ38 r39 => (if r39 = 0 then (fX6_copyRefusal_b121 131 μ38) else bd2 (fX3_hasStretch 131 (2 + 2 * q) j n μ38) (fun μ42 r43 => (if r43 = 0 then (fX6_copyRefusal_b121 131 μ42) else (fX6_copyRefusal_b123 131 (0 : Int32) μ42))))) else some (μ32, (-4 : Int32))) else some (μ32, (-2 : Int32))))))) else (fX6_copyRefusal_b48 131 μ24))) else (fX6_copyRefusal_b48 131 μ20))) := by
    intro μ hR
    unfold fX6_copyRefusal
    rw [chk_t c_c, isShelf_i hp, bd2_s, if_neg one_ne, isShelf_i hq, bd2_s, if_neg one_ne, cr0 hR, bd1_s, chk_t (shi hp), shr hR hp, bd1_s, bd1_s, chk_t (shi hq), shr hR hq, bd1_s]
  have cN : ∀ k, 1 ≤ k → k ≤ 7 → (∀ μ, HR μ → InvC μ S → fX6_copyRefusal 131 0 (nI p) (nI q) i j n μ = some (μ, -nI k)) → ∀ μ, HR μ → InvC μ S → fX6_copy 131 0 (nI p) (nI q) i j n μ = fX6_refuse 131 0 (-nI k) μ := by
    intro k k1 k7 g μ hR h
    unfold fX6_copy
    rw [chk_t c_c, g μ hR h, bd2_s, if_neg (neg_ne k1 k7), bd2_e]
  by_cases h2 : hW (gS S p) = 2 ∨ hW (gS S q) = 2
  · refine Kp_no 2 (by omega) (by omega) hw (cN 2 (by omega) (by omega) (fun μ hR h => ?_)) (fun μ hR h => ?_)
    · rw [cS μ hR]
      unfold fX6_copyRefusal_b48
      by_cases hp2 : hW (gS S p) = 2
      · rw [isPer_y h hp hp2, bd2_s, if_neg one_ne]; rfl
      · rw [isPer_n hw h hp hp2, bd2_s, if_pos rfl, isPer_y h hq (by omega), bd2_s, if_neg one_ne]; rfl
    · have ep := mW2 hw h hp 2 (by omega)
      have eq := mW2 hw h hq 2 (by omega)
      unfold fX7_copy fX7_copy_b77
      rw [chk_t m_c, mShelf_i hp, bd2_s, if_neg one_ne, mShelf_i hq, bd2_s, if_neg one_ne, mr15 hR, bd1_s, chk_t (i15 hp), bd2_e]
      by_cases hp2 : hW (gS S p) = 2
      · rw [if_pos (show _ = (2 : Int32) from ep.mpr hp2)]; rfl
      · rw [if_neg (show ¬ _ = (2 : Int32) from fun q => hp2 (ep.mp q)), bd1_s, chk_t (i15 hq), if_pos (show _ = (2 : Int32) from eq.mpr (by omega))]; rfl
  have np2 : ¬ hW (gS S p) = 2 := fun q => h2 (Or.inl q)
  have nq2 : ¬ hW (gS S q) = 2 := fun q => h2 (Or.inr q)
  have mS : ∀ μ, HR μ → InvM μ S → ∀ X, (if zI μ 115 (nI p).toNatClampNeg = (1 : Int32) then chk (inb (nI q) 115) ((if (zI μ 115 (nI q).toNatClampNeg) = (1 : Int32) then bd1 (some 116) (fun r25 => chk (inb (nI p) r25) (bd1 (some 116) (fun r28 => chk (inb (nI q) r28) ((if (zI μ r25 (nI p).toNatClampNeg) = (zI μ r28 (nI q).toNatClampNeg) then (fX7_copy_b84 131 108 (nI p) (nI q) i j n μ) else (fX7_copy_b77 131 108 μ)))))) else (fX7_copy_b84 131 108 (nI p) (nI q) i j n μ))) else (fX7_copy_b84 131 108 (nI p) (nI q) i j n μ)) = X → fX7_copy 131 108 (nI p) (nI q) i j n μ = X := by
    intro μ hR h X hX
    have ep := mW2 hw h hp 2 (by omega)
    have eq := mW2 hw h hq 2 (by omega)
    unfold fX7_copy
    rw [chk_t m_c, mShelf_i hp, bd2_s, if_neg one_ne, mShelf_i hq, bd2_s, if_neg one_ne, mr15 hR, bd1_s, chk_t (i15 hp), if_neg (show ¬ _ = (2 : Int32) from fun q => np2 (ep.mp q)), bd1_s, chk_t (i15 hq), if_neg (show ¬ _ = (2 : Int32) from fun q => nq2 (eq.mp q)), bd1_s, chk_t (i15 hp), bd1_s, mr16 hR]
    exact hX
  by_cases h1 : hW (gS S p) = 1 ∧ hW (gS S q) = 1
  · obtain ⟨hp1, hq1⟩ := h1
    have zp := ((hw.2.2.1 p hp).2.1 hp1)
    have zq := ((hw.2.2.1 q hq).2.1 hq1)
    by_cases hs : hO (gS S p) = hO (gS S q)
    · have cS2 : ∀ μ, HR μ → InvC μ S → fX6_copyRefusal 131 0 (nI p) (nI q) i j n μ = (if 0 ≤ n then bd2 (fX3_hasStretch 131 (2 + 2 * p) i n μ) (fun μ38 r39 => (if r39 = 0 then (fX6_copyRefusal_b121 131 μ38) else bd2 (fX3_hasStretch 131 (2 + 2 * q) j n μ38) (fun μ42 r43 => (if r43 = 0 then (fX6_copyRefusal_b121 131 μ42) else (fX6_copyRefusal_b123 131 (0 : Int32) μ42))))) else some (μ, (-4 : Int32))) := by
        intro μ hR h
        rw [cS μ hR, isPer_n hw h hp np2, bd2_s, if_pos rfl, isPer_n hw h hq nq2, bd2_s, if_pos rfl, isRow_y h hp hp1, bd2_s, if_neg one_ne, isRow_y h hq hq1, bd2_s, if_neg one_ne, cO h hp hp1, cO h hq hq1, if_pos (by rw [hs])]
      have mS2 : ∀ μ, HR μ → InvM μ S → fX7_copy 131 108 (nI p) (nI q) i j n μ = (if 0 ≤ n then (if i < 0 then (fX7_copy_b157 131 108 μ) else (if j < 0 then (fX7_copy_b157 131 108 μ) else (if (nI (hZ (gS S p)) - n) < i then (fX7_copy_b157 131 108 μ) else (if j ≤ (nI (hZ (gS S q)) - n) then (fX7_copy_b167 131 FU 108 (nI p) (nI q) i j n (0 : Int32) μ) else (fX7_copy_b157 131 108 μ))))) else bd2 (fX7_no 131 108 (-4 : Int32) μ) (fun μ21 r22 => some (μ21, r22))) := by
        intro μ hR h
        have ep := mW2 hw h hp 1 (by omega)
        have eq := mW2 hw h hq 1 (by omega)
        have ep0 := mW2 hw h hp 0 (by omega)
        have eq0 := mW2 hw h hq 0 (by omega)
        refine mS μ hR h _ ?_
        rw [if_pos (show _ = (1 : Int32) from ep.mpr hp1), chk_t (i15 hq), if_pos (show _ = (1 : Int32) from eq.mpr hq1), bd1_s, chk_t (i16 hp), bd1_s, chk_t (i16 hq), mO h hp hp1, mO h hq hq1, if_pos (by rw [hs])]
        unfold fX7_copy_b84
        rw [mr15 hR, bd1_s, chk_t (i15 hp), if_neg (show ¬ _ = (0 : Int32) from fun q => by have := ep0.mp q; omega), bd1_s, chk_t (i15 hq), if_neg (show ¬ _ = (0 : Int32) from fun q => by have := eq0.mp q; omega), mr17 hR, bd1_s, chk_t (i17 hp), mZ h hp hp1, bd1_s, chk_t (i17 hq), mZ h hq hq1]
      rcases nat_or n with hn | ⟨c, hc, rfl⟩
      · have n0 : ¬ (0 : Int32) ≤ n := (fa_of_lt hn).2.1
        refine Kp_no 4 (by omega) (by omega) hw (cN 4 (by omega) (by omega) (fun μ hR h => ?_)) (fun μ hR h => ?_)
        · rw [cS2 μ hR h, if_neg n0]; rfl
        · rw [mS2 μ hR h, if_neg n0, bd2_e]; rfl
      · have n0 : (0 : Int32) ≤ nI c := nI_pos' hc
        rcases str_or (gS S p) i (nI c) with hb | ⟨a, c', hac, rfl, hcc⟩
        · refine Kp_no 5 (by omega) (by omega) hw (cN 5 (by omega) (by omega) (fun μ hR h => ?_)) (fun μ hR h => ?_)
          · unfold fX6_copyRefusal_b121 fX6_copyRefusal_b123 at cS2
            rw [cS2 μ hR h, if_pos n0, str_n hw h hp hp1 hb, bd2_s, if_pos rfl]; rfl
          · have e5 : fX7_copy_b157 131 108 μ = fX7_no 131 108 (-nI 5) μ := by
              unfold fX7_copy_b157
              rw [bd2_e]; rfl
            rw [mS2 μ hR h, if_pos n0, e5]
            rcases hb with hb | hb | ⟨a, b, ha, hb, hab, rfl, e⟩
            · rw [if_pos hb]
            · exact absurd hb (nI_pos hc)
            · have ec : c = b := (nI_eq hc hb).mp e
              rw [if_neg (nI_pos ha)]
              by_cases hj : j < 0
              · rw [if_pos hj]
              · rw [if_neg hj, if_pos]
                rw [fa_lt, nI_toInt ha]
                by_cases hcz : c ≤ hZ (gS S p)
                · rw [pk_sub hcz, nI_toInt (by omega)]
                  omega
                · have h3 := sub_lt0 (z := hZ (gS S p)) (c := c) (by omega) hc (by omega)
                  omega
        · have ec : c = c' := (nI_eq hc (by omega)).mp hcc
          subst ec
          have hac2 : ¬ nI (hZ (gS S p)) - nI c < nI a := by
            rw [pk_sub (by omega)]
            exact fun q => by have := (nI_ltI (by omega) (by omega)).mp q; omega
          rcases str_or (gS S q) j (nI c) with hb | ⟨b, c', hbc, rfl, hcc⟩
          · refine Kp_no 5 (by omega) (by omega) hw (cN 5 (by omega) (by omega) (fun μ hR h => ?_)) (fun μ hR h => ?_)
            · unfold fX6_copyRefusal_b121 fX6_copyRefusal_b123 at cS2
              rw [cS2 μ hR h, if_pos n0, str_y hw h hp hp1 hac, bd2_s, if_neg one_ne, str_n hw h hq hq1 hb, bd2_s, if_pos rfl]; rfl
            · have e5 : fX7_copy_b157 131 108 μ = fX7_no 131 108 (-nI 5) μ := by
                unfold fX7_copy_b157
                rw [bd2_e]; rfl
              rw [mS2 μ hR h, if_pos n0, e5, if_neg (nI_pos (by omega))]
              rcases hb with hb | hb | ⟨b, b', hb1, hb2, hab, rfl, e⟩
              · rw [if_pos hb]
              · exact absurd hb (nI_pos hc)
              · have ec : c = b' := (nI_eq hc hb2).mp e
                rw [if_neg (nI_pos hb1), if_neg hac2, if_neg]
                rw [fa_le, nI_toInt hb1]
                by_cases hcz : c ≤ hZ (gS S q)
                · rw [pk_sub hcz, nI_toInt (by omega)]
                  omega
                · have h3 := sub_lt0 (z := hZ (gS S q)) (c := c) (by omega) hc (by omega)
                  omega
          · have ec : c = c' := (nI_eq hc (by omega)).mp hcc
            subst ec
            refine ⟨(1, uS S q (hcopy (gS S q) (gS S p) a b c)), WfS_S hw (hw.2.2.1 q hq), fun μ hR h => ?_, fun μ hR h => ?_⟩
            · have zz1 : zsz (3 + 2 * p) = 160 := (SHa p hp).2.2.2.2.1
              have zz2 : zsz (3 + 2 * q) = 160 := (SHa q hq).2.2.2.2.1
              have hk : cpok (3 + 2 * p) (3 + 2 * q) (nI a) (nI b) (nI c) = true := by
                unfold cpok
                rw [nI_clamp (by omega), nI_clamp (by omega), nI_clamp (by omega), zz1, zz2]
                simp only [Bool.and_eq_true, Bool.not_eq_true', decide_eq_false_iff_not, decide_eq_true_eq]
                exact ⟨⟨⟨⟨nI_pos (by omega), nI_pos (by omega)⟩, nI_pos (by omega)⟩, by omega⟩, by omega⟩
              refine ⟨zcp μ (3 + 2 * p) (3 + 2 * q) a b c, ?_, HR_of hR rfl, InvC_S hw hq h (fun a k q1 q2 => rfl) (fun x k q1 q2 => if_neg q2) ?_, fun x k q1 => ⟨rfl, if_neg (by omega)⟩⟩
              · unfold fX6_copy fX3_takeFrom fX3_takeFrom_b35
                unfold fX6_copyRefusal_b121 fX6_copyRefusal_b123 at cS2
                rw [chk_t c_c, cS2 μ hR h, if_pos n0, str_y hw h hp hp1 hac, bd2_s, if_neg one_ne, str_y hw h hq hq1 hbc, bd2_s, if_neg one_ne, bd2_s, if_pos rfl, cr0 hR, bd1_s, chk_t (shi hq), shr hR hq, bd1_s, bd1_s, chk_t (shi hp), shr hR hp, bd1_s, chk_t (shc hq), chk_t (shc hp), str_y hw h hp hp1 hac, bd2_s, if_neg one_ne, str_y hw h hq hq1 hbc, bd2_s, if_neg one_ne, she hR hp, bd1_s, she hR hq, bd1_s, chk_t hk, lt_e, bd1_s, nI_clamp (by omega), nI_clamp (by omega), nI_clamp (by omega)]
              · obtain ⟨g1, g2, g3⟩ := h.2.2.2.2.2.1 q hq
                obtain ⟨f1, f2, f3⟩ := h.2.2.2.2.2.1 p hp
                refine ⟨g1, fun r => ⟨(g2 r).1, (g2 r).2.1, fun x hx => ?_⟩, g3⟩
                show (if 3 + 2 * q = 3 + 2 * q then va_cpy (μ.2.1 (3 + 2 * p)) (μ.2.1 (3 + 2 * q)) a b c x else _) = (if b ≤ x ∧ x < b + c then hE (gS S p) (a + (x - b)) else hE (gS S q) x)
                rw [if_pos rfl]
                by_cases hxx : b ≤ x ∧ x < b + c
                · rw [if_pos hxx, pk_cpy_in hxx.1 hxx.2]
                  exact (f2 hp1).2.2 _ (by omega)
                · rw [if_neg hxx, pk_cpy_out (by omega)]
                  exact (g2 r).2.2 x hx
            · have e0 : cp1 μ (160 * p + a) 0 = μ := by
                refine Prod.ext rfl (Prod.ext ?_ rfl)
                funext x k
                simp only [cp1]
                rw [if_neg (by omega)]
              have key := copyA (μ := μ) (p := p) (q := q) (i := a) (j := b) (n := c) hR (by omega) (by omega) (by omega) FU 0 (by omega) (by show c < 2000 + 0; omega)
              rw [e0] at key
              refine ⟨cp2 (cp1 μ (160 * p + a) c) (160 * q + b) c, ?_, HR_of hR rfl, InvM_S hw h (fun a k q1 => rfl) (fun k q1 => ?_) ?_, fun x k q1 => ⟨rfl, ?_⟩⟩
              · have hbc2 : nI b ≤ nI (hZ (gS S q)) - nI c := by
                  rw [pk_sub (by omega)]
                  exact (nI_leI (by omega) (by omega)).mpr (by omega)
                rw [mS2 μ hR h, if_pos n0, if_neg (nI_pos (by omega)), if_neg (nI_pos (by omega)), if_neg hac2, if_pos hbc2]
                exact key
              · simp only [cp2, cp1]
                rw [if_neg (by omega), if_neg (by omega)]
              · obtain ⟨g1, g2, g3⟩ := h.2.2.2.2.2.1 q hq
                obtain ⟨f1, f2, f3⟩ := h.2.2.2.2.2.1 p hp
                refine ⟨g1, fun r => ⟨(g2 r).1, (g2 r).2.1, fun x hx => ?_⟩, g3⟩
                show (cp2 (cp1 μ (160 * p + a) c) (160 * q + b) c).2.1 119 (160 * q + x) = (if b ≤ x ∧ x < b + c then hE (gS S p) (a + (x - b)) else hE (gS S q) x)
                simp only [cp2, cp1]
                by_cases hxx : b ≤ x ∧ x < b + c
                · rw [if_pos hxx, if_pos ⟨trivial, by omega, by omega⟩, if_pos ⟨trivial, by omega⟩, show 160 * p + a + (160 * q + x - (160 * q + b)) = 160 * p + (a + (x - b)) by omega]
                  exact (f2 hp1).2.2 _ (by omega)
                · rw [if_neg hxx, if_neg (by omega), if_neg (by omega)]
                  exact (g2 r).2.2 x hx
              · simp only [cp2, cp1]
                rw [if_neg (by omega), if_neg (by omega)]
    · have hs2 : ¬ nI (hO (gS S p)) = nI (hO (gS S q)) := fun r => hs ((nI_eq (by omega) (by omega)).mp r)
      refine Kp_no 2 (by omega) (by omega) hw (cN 2 (by omega) (by omega) (fun μ hR h => ?_)) (fun μ hR h => mS μ hR h _ ?_)
      · rw [cS μ hR, isPer_n hw h hp np2, bd2_s, if_pos rfl, isPer_n hw h hq nq2, bd2_s, if_pos rfl, isRow_y h hp hp1, bd2_s, if_neg one_ne, isRow_y h hq hq1, bd2_s, if_neg one_ne, cO h hp hp1, cO h hq hq1, if_neg hs2]; rfl
      · have ep := mW2 hw h hp 1 (by omega)
        have eq := mW2 hw h hq 1 (by omega)
        unfold fX7_copy_b77
        rw [if_pos (show _ = (1 : Int32) from ep.mpr hp1), chk_t (i15 hq), if_pos (show _ = (1 : Int32) from eq.mpr hq1), bd1_s, chk_t (i16 hp), bd1_s, chk_t (i16 hq), mO h hp hp1, mO h hq hq1, if_neg hs2, bd2_e]; rfl
  · refine Kp_no 3 (by omega) (by omega) hw (cN 3 (by omega) (by omega) (fun μ hR h => ?_)) (fun μ hR h => mS μ hR h _ ?_)
    · rw [cS μ hR, isPer_n hw h hp np2, bd2_s, if_pos rfl, isPer_n hw h hq nq2, bd2_s, if_pos rfl]
      unfold fX6_copyRefusal_b67
      by_cases hp1 : hW (gS S p) = 1
      · rw [isRow_y h hp hp1, bd2_s, if_neg one_ne, isRow_n hw h hq (fun r => h1 ⟨hp1, r⟩), bd2_s, if_pos rfl]; rfl
      · rw [isRow_n hw h hp hp1, bd2_s, if_pos rfl]; rfl
    · have ep := mW2 hw h hp 1 (by omega)
      have eq := mW2 hw h hq 1 (by omega)
      have ep0 := mW2 hw h hp 0 (by omega)
      have eq0 := mW2 hw h hq 0 (by omega)
      have b84 : fX7_copy_b84 131 108 (nI p) (nI q) i j n μ = fX7_no 131 108 (-nI 3) μ := by
        unfold fX7_copy_b84 fX7_copy_b102
        rw [mr15 hR, bd1_s, chk_t (i15 hp), bd2_e]
        by_cases hp1 : hW (gS S p) = 1
        · have hq0 : hW (gS S q) = 0 := by
            have : ¬ hW (gS S q) = 1 := fun r => h1 ⟨hp1, r⟩
            omega
          rw [if_neg (show ¬ _ = (0 : Int32) from fun q => by have := ep0.mp q; omega), bd1_s, chk_t (i15 hq), if_pos (show _ = (0 : Int32) from eq0.mpr hq0)]; rfl
        · rw [if_pos (show _ = (0 : Int32) from ep0.mpr (by omega))]; rfl
      rw [b84]
      by_cases hp1 : hW (gS S p) = 1
      · rw [if_pos (show _ = (1 : Int32) from ep.mpr hp1), chk_t (i15 hq), if_neg (show ¬ _ = (1 : Int32) from fun q => h1 ⟨hp1, eq.mp q⟩)]
      · rw [if_neg (show ¬ _ = (1 : Int32) from fun q => hp1 (ep.mp q))]
