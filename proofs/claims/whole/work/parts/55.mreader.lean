-- THE MODEL'S READING OF WORDS AND NUMBERS
def lWd (w : Nat) : Nat := ([7, 7, 4, 6, 4, 7, 5] : List Nat).getD w 0
def nWd (w : Nat) : Nat := ([4, 1, 1, 1, 0, 1, 1] : List Nat).getD w 0
theorem wd_f : ∀ w, w < 7 → sWd (w + 1) = sWd w + lWd w + 1 ∧ sWd w + lWd w < 47 ∧ lWd w ≤ 7 ∧ 1 ≤ lWd w ∧ wdA (sWd w + lWd w) = 0 ∧ nWd w ≤ 4 := by decide +kernel
theorem wd_n0 : ∀ w, w < 7 → ∀ j, j < lWd w → ¬ wdA (sWd w + j) = 0 := by decide +kernel
theorem cst_w : ∀ i, i < 47 → (121, i, wdA i) ∈ zI0t.filter zK0 := by decide +kernel
theorem cst_n : ∀ w, w < 7 → (122, w, nI (nWd w)) ∈ zI0t.filter zK0 := by decide +kernel
def mOs (i : Nat) : Nat := ([6, 9, 40, 40] : List Nat).getD i 0
theorem cst_m : ∀ i, i < 4 → (123, i, nI (mOs i)) ∈ zI0t.filter zK0 := by decide +kernel
theorem mr21 {μ : ZMem} (hR : HR μ) : zRc 131 100 μ 108 21 = some 121 := mr_ 21 121 (by decide +kernel) (by decide) hR
theorem mr22 {μ : ZMem} (hR : HR μ) : zRc 131 100 μ 108 22 = some 122 := mr_ 22 122 (by decide +kernel) (by decide) hR
theorem mr23 {μ : ZMem} (hR : HR μ) : zRc 131 100 μ 108 23 = some 123 := mr_ 23 123 (by decide +kernel) (by decide) hR
theorem mr24 {μ : ZMem} (hR : HR μ) : zRc 131 100 μ 108 24 = some 124 := mr_ 24 124 (by decide +kernel) (by decide) hR
theorem mr30 {μ : ZMem} (hR : HR μ) : zRc 131 100 μ 108 30 = some 125 := mr_ 30 125 (by decide +kernel) (by decide) hR
theorem i121 {i : Nat} (hi : i < 47) : inb (nI i) 121 = true := inb_nI (by rw [show zsz 121 = 47 by decide]; exact hi)
theorem i122 {i : Nat} (hi : i < 7) : inb (nI i) 122 = true := inb_nI (by rw [show zsz 122 = 7 by decide]; exact hi)
theorem i123 {i : Nat} (hi : i < 4) : inb (nI i) 123 = true := inb_nI (by rw [show zsz 123 = 4 by decide]; exact hi)
theorem i124 {i : Nat} (hi : i < 4) : inb (nI i) 124 = true := inb_nI (by rw [show zsz 124 = 4 by decide]; exact hi)
/-- what lies still while a vow is read -/
def MX (μ : ZMem) (s n : Nat) (x : Nat → Int32) : Prop := HR μ ∧ s < 8 ∧ n ≤ 160 ∧ μ.1 108 25 = nI (160 * s) ∧ μ.1 108 27 = nI n ∧ (∀ j, j < n → (μ.2.1 119 (160 * s + j)).toInt32 = x j) ∧ CST μ
def FrV (μ X : ZMem) : Prop := X.2 = μ.2 ∧ ∀ a k, ¬ (a = 108 ∧ (k < 8 ∨ k = 26 ∨ k = 28 ∨ k = 29)) → ¬ (110 ≤ a ∧ a < 115) → a ≠ 124 → X.1 a k = μ.1 a k
def PV (μ : ZMem) (σ : Sg) (P : Nat) (X : ZMem) : Prop := FrV μ X ∧ MH X σ ∧ X.1 108 26 = nI P
def PVf (μ : ZMem) (f : Nat) (X : ZMem) : Prop := FrV μ X ∧ (∃ τ, MH X τ) ∧ X.1 108 29 = nI f
section
variable {μ : ZMem} {s n : Nat} {x : Nat → Int32} {σ : Sg} {P : Nat} {X : ZMem}
theorem PV_R (hM : MX μ s n x) (h : PV μ σ P X) : HR X := HR_of hM.1 (congrArg Prod.snd h.1.1)
theorem PV_25 (hM : MX μ s n x) (h : PV μ σ P X) : zI X 108 25 = nI (160 * s) := (h.1.2 108 25 (by omega) (by omega) (by omega)).trans hM.2.2.2.1
theorem PV_27 (hM : MX μ s n x) (h : PV μ σ P X) : zI X 108 27 = nI n := (h.1.2 108 27 (by omega) (by omega) (by omega)).trans hM.2.2.2.2.1
theorem PV_26 (h : PV μ σ P X) : zI X 108 26 = nI P := h.2.2
theorem PV_L (hM : MX μ s n x) (h : PV μ σ P X) {Q : Nat} (hQ : Q < n) : inb (nI (160 * s) + nI Q) 119 = true ∧ (zL X 119 (nI (160 * s) + nI Q).toNatClampNeg).toInt32 = lx n x Q := by
  have hs := hM.2.1
  have hn := hM.2.2.1
  refine ⟨by rw [nI_add]; exact i19b (by omega), ?_⟩
  rw [nI_add, nI_clamp (by omega)]
  have e : zL X 119 (160 * s + Q) = μ.2.1 119 (160 * s + Q) := congrFun (congrFun (congrArg Prod.fst h.1.1) 119) (160 * s + Q)
  rw [e, hM.2.2.2.2.2.1 Q hQ]
  unfold lx
  rw [if_pos hQ]
theorem PV_W (hM : MX μ s n x) (h : PV μ σ P X) {i : Nat} (hi : i < 47) : zI X 121 (nI i).toNatClampNeg = wdA i := by
  rw [nI_clamp (by omega)]
  exact (h.1.2 121 i (by omega) (by omega) (by omega)).trans (hM.2.2.2.2.2.2 _ (cst_w i hi))
theorem PV_N (hM : MX μ s n x) (h : PV μ σ P X) {w : Nat} (hw : w < 7) : zI X 122 (nI w).toNatClampNeg = nI (nWd w) := by
  rw [nI_clamp (by omega)]
  exact (h.1.2 122 w (by omega) (by omega) (by omega)).trans (hM.2.2.2.2.2.2 _ (cst_n w hw))
theorem PV_M (hM : MX μ s n x) (h : PV μ σ P X) {i : Nat} (hi : i < 4) : zI X 123 (nI i).toNatClampNeg = nI (mOs i) := by
  rw [nI_clamp (by omega)]
  exact (h.1.2 123 i (by omega) (by omega) (by omega)).trans (hM.2.2.2.2.2.2 _ (cst_m i hi))
theorem FrV_p (h : FrV μ X) {a k : Nat} {v : Int32} (ha : (a = 108 ∧ (k < 8 ∨ k = 26 ∨ k = 28 ∨ k = 29)) ∨ (110 ≤ a ∧ a < 115) ∨ a = 124) : FrV μ (zpI X a k v) := ⟨h.1, fun b j q1 q2 q3 => (zpI_ne (by omega)).trans (h.2 b j q1 q2 q3)⟩
theorem PV_p (h : PV μ σ P X) (Q : Nat) : PV μ σ Q (zpI X 108 26 (nI Q)) := ⟨FrV_p h.1 (by omega), MH_f h.2.1 (fun a k q => zpI_ne (by omega)), zpI_at _ _ _ _⟩
theorem PV_o (h : PV μ σ P X) {a k : Nat} {v : Int32} (ha : (a = 108 ∧ (k = 28 ∨ k = 29)) ∨ a = 124) : PV μ σ P (zpI X a k v) := ⟨FrV_p h.1 (by omega), MH_f h.2.1 (fun a k q => zpI_ne (by omega)), (zpI_ne (by omega)).trans h.2.2⟩
theorem PV_f (h : PV μ σ P X) (f : Nat) : PVf μ f (zpI X 108 29 (nI f)) := ⟨FrV_p h.1 (by omega), ⟨σ, (PV_o h (by omega)).2.1⟩, zpI_at _ _ _ _⟩
-- a word
theorem b24_m {g : Nat → Int32 → Int32 → Int32 → ZMem → Option (ZMem × Int32)} {w : Nat} {v2 : Int32} (hM : MX μ s n x) (h : PV μ σ P X) (hP : P < 900) (hw : w < 7) : ∀ k j, j ≤ lWd w → lWd w < k + j → fX7_word_b24 g 131 k 108 (nI (sWd w)) v2 (nI w) (nI (P + j)) (nI (sWd w + j)) X = fX7_word_b75 g 131 108 (nI (sWd w)) v2 (nI w) (nI (P + pmW w (fun j => lx n x (P + j)) (lWd w - j) j)) (nI (sWd w + pmW w (fun j => lx n x (P + j)) (lWd w - j) j)) X := by
  obtain ⟨f1, f2, f3, f4, f5, f6⟩ := wd_f w hw
  have hX := PV_R hM h
  have hn := hM.2.2.1
  intro k
  induction k with
  | zero => intro j _ _; omega
  | succ k ih =>
    intro j q1 q2
    rw [fX7_word_b24, mr21 hX, bd1_s, chk_t (i121 (by omega)), PV_W hM h (by omega), PV_27 hM h, PV_25 hM h, mr19 hX, bd1_s]
    by_cases hj : j = lWd w
    · rw [hj, if_pos f5, Nat.sub_self]
      rfl
    · rw [if_neg (wd_n0 w hw j (by omega)), show lWd w - j = (lWd w - (j + 1)) + 1 by omega]
      have hpm : pmW w (fun j => lx n x (P + j)) ((lWd w - (j + 1)) + 1) j = if lx n x (P + j) = wdA (sWd w + j) then pmW w (fun j => lx n x (P + j)) (lWd w - (j + 1)) (j + 1) else j := rfl
      rw [hpm]
      by_cases hPn : P + j < n
      · obtain ⟨l1, l2⟩ := PV_L hM h hPn
        rw [if_neg (fun q => by have := (nI_leI (by omega) (by omega)).mp q; omega), chk_t l1, l2, bd1_s, chk_t (i121 (by omega)), PV_W hM h (by omega), nI_1, nI_1]
        by_cases hc : lx n x (P + j) = wdA (sWd w + j)
        · rw [if_pos hc, if_pos hc]
          exact ih (j + 1) (by omega) (by omega)
        · rw [if_neg hc, if_neg hc]
      · have hc : ¬ lx n x (P + j) = wdA (sWd w + j) := fun q => hPn (lx_in (by rw [q]; exact wd_pos _ (by omega)))
        rw [if_pos ((nI_leI (by omega) (by omega)).mpr (by omega)), if_neg hc]
theorem b106_m {g : Nat → Int32 → Int32 → Int32 → ZMem → Option (ZMem × Int32)} {w : Nat} {v2 v3 : Int32} (hM : MX μ s n x) (h : PV μ σ P X) (hw : w < 7) : ∀ k j, j ≤ lWd w → lWd w < k + j → fX7_word_b106 g 131 k 108 (nI (sWd w + j)) v2 v3 X = g 108 (nI (sWd (w + 1))) v2 (v3 + 1) X := by
  obtain ⟨f1, f2, f3, f4, f5, f6⟩ := wd_f w hw
  have hX := PV_R hM h
  intro k
  induction k with
  | zero => intro j _ _; omega
  | succ k ih =>
    intro j q1 q2
    rw [fX7_word_b106, mr21 hX, bd1_s, chk_t (i121 (by omega)), PV_W hM h (by omega), nI_1]
    by_cases hj : j = lWd w
    · rw [hj, if_pos f5, f1]
    · rw [if_neg (wd_n0 w hw j (by omega))]
      exact ih (j + 1) (by omega) (by omega)
def mwd (l : Nat → Int32) : Nat → Nat → Nat → Option Nat × Nat
  | 0, _, b => (none, b)
  | r + 1, w, b => if pmW w l (lWd w) 0 = lWd w then (some w, pmW w l (lWd w) 0) else mwd l r (w + 1) (if pmW w l (lWd w) 0 ≤ b then b else pmW w l (lWd w) 0)
def finM (X : ZMem) (P : Nat) (q : Option Nat × Nat) : Option (ZMem × Int32) := match q.1 with
  | some w => some (zpI X 108 26 (nI (P + q.2)), nI w)
  | none => some (zpI X 108 29 (nI (P + q.2)), -1)
theorem b9_m (hM : MX μ s n x) (h : PV μ σ P X) (hP : P < 900) : ∀ k w b, w ≤ 7 → b ≤ 50 → 7 < k + w → fX7_word_b9 131 k 108 (nI (sWd w)) (nI (P + b)) (nI w) X = finM X P (mwd (fun j => lx n x (P + j)) (7 - w) w b) := by
  have hX := PV_R hM h
  intro k
  induction k with
  | zero => intro w b _ _ _; omega
  | succ k ih =>
    intro w b q1 q2 q3
    rw [fX7_word_b9]
    by_cases hw : w = 7
    · subst hw
      rw [if_pos (show (7 : Int32) ≤ nI 7 from by decide), lt_e]
      rfl
    · have hw7 : w < 7 := by omega
      obtain ⟨f1, f2, f3, f4, f5, f6⟩ := wd_f w hw7
      have hle := pmW_le w (fun j => lx n x (P + j)) (lWd w) 0
      have k1 := b24_m (g := fX7_word_b9 131 k) (v2 := nI (P + b)) hM h hP hw7 FU 0 (Nat.zero_le _) (by show lWd w < 2000 + 0; omega)
      rw [if_neg (show ¬ (7 : Int32) ≤ nI w from fun q => by have := (nI_leI (a := 7) (by omega) (by omega)).mp q; omega), PV_26 h]
      refine Eq.trans k1 ?_
      rw [Nat.sub_zero, show 7 - w = (7 - (w + 1)) + 1 by omega]
      unfold fX7_word_b75 fX7_word_b105 mwd
      rw [mr21 hX, bd1_s, chk_t (i121 (by omega)), PV_W hM h (by omega)]
      by_cases hm : pmW w (fun j => lx n x (P + j)) (lWd w) 0 = lWd w
      · rw [hm, if_pos f5, if_pos rfl, lt_e]
        rfl
      · have n0 : ¬ wdA (sWd w + pmW w (fun j => lx n x (P + j)) (lWd w) 0) = 0 := wd_n0 w hw7 _ (by omega)
        have k2 : ∀ v2, fX7_word_b106 (fX7_word_b9 131 k) 131 FU 108 (nI (sWd w)) v2 (nI w) X = fX7_word_b9 131 k 108 (nI (sWd (w + 1))) v2 (nI w + 1) X := fun v2 => b106_m (g := fX7_word_b9 131 k) hM h hw7 FU 0 (Nat.zero_le _) (by show lWd w < 2000 + 0; omega)
        rw [if_neg n0, if_neg hm, k2, k2, nI_1]
        by_cases hb : pmW w (fun j => lx n x (P + j)) (lWd w) 0 ≤ b
        · rw [if_pos ((nI_leI (by omega) (by omega)).mpr (by omega)), if_pos hb]
          exact ih (w + 1) b (by omega) q2 (by omega)
        · rw [if_neg (fun q => by have := (nI_leI (by omega) (by omega)).mp q; omega), if_neg hb]
          exact ih (w + 1) _ (by omega) (by omega) (by omega)
theorem word_m (hM : MX μ s n x) (h : PV μ σ P X) (hP : P < 900) : fX7_word 131 108 X = finM X P (mwd (fun j => lx n x (P + j)) 7 0 0) := by
  unfold fX7_word
  rw [chk_t m_c, PV_26 h]
  exact b9_m hM h hP FU 0 0 (by omega) (by omega) (by show 7 < 2000 + 0; omega)
end
-- the model's words are the class's
theorem mwd_after {l : Nat → Int32} : ∀ r w b, (∀ v, w ≤ v → v < w + r → pmW v l (lWd v) 0 ≤ b ∧ ¬ pmW v l (lWd v) 0 = lWd v) → mwd l r w b = (none, b) := by
  intro r
  induction r with
  | zero => intro w b _; rfl
  | succ r ih =>
    intro w b h
    obtain ⟨h1, h2⟩ := h w (Nat.le_refl _) (by omega)
    unfold mwd
    rw [if_neg h2, if_pos h1]
    exact ih (w + 1) b (fun v q1 q2 => h v (by omega) (by omega))
theorem mwd_main {l : Nat → Int32} {u c : Nat} (hc : c ≤ pmW u l (lWd u) 0) : ∀ r w b, w ≤ u → u < w + r → b ≤ c → (∀ v, w ≤ v → v < w + r → v ≠ u → pmW v l (lWd v) 0 ≤ c ∧ ¬ pmW v l (lWd v) 0 = lWd v) → mwd l r w b = if pmW u l (lWd u) 0 = lWd u then (some u, pmW u l (lWd u) 0) else (none, pmW u l (lWd u) 0) := by
  intro r
  induction r with
  | zero => intro w b q1 q2; omega
  | succ r ih =>
    intro w b q1 q2 hb h
    unfold mwd
    by_cases hw : w = u
    · subst hw
      by_cases hf : pmW w l (lWd w) 0 = lWd w
      · rw [if_pos hf, if_pos hf]
      · rw [if_neg hf, if_neg hf]
        have e : (if pmW w l (lWd w) 0 ≤ b then b else pmW w l (lWd w) 0) = pmW w l (lWd w) 0 := by
          split <;> omega
        rw [e]
        exact mwd_after r (w + 1) _ (fun v a1 a2 => by
          obtain ⟨b1, b2⟩ := h v (by omega) (by omega) (by omega)
          exact ⟨by omega, b2⟩)
    · obtain ⟨h1, h2⟩ := h w (Nat.le_refl _) (by omega) hw
      rw [if_neg h2]
      refine ih (w + 1) _ (by omega) (by omega) ?_ (fun v a1 a2 a3 => h v (by omega) (by omega) a3)
      split <;> omega
theorem pm0 {l : Nat → Int32} {w : Nat} (hw : w < 7) (h : ¬ l 0 = wdA (sWd w)) : pmW w l (lWd w) 0 = 0 := by
  obtain ⟨f1, f2, f3, f4, f5, f6⟩ := wd_f w hw
  obtain ⟨r, e⟩ : ∃ r, lWd w = r + 1 := ⟨lWd w - 1, by omega⟩
  rw [e]
  show (if l 0 = wdA (sWd w + 0) then _ else 0) = 0
  rw [if_neg (show ¬ l 0 = wdA (sWd w + 0) from h)]
theorem pm1 {l : Nat → Int32} {w : Nat} (hw : w < 7) (h : ¬ l 1 = wdA (sWd w + 1)) : pmW w l (lWd w) 0 ≤ 1 := by
  have hz : ∀ w, w < 7 → 2 ≤ lWd w := by decide
  have := hz w hw
  obtain ⟨r, e⟩ : ∃ r, lWd w = r + 1 + 1 := ⟨lWd w - 2, by omega⟩
  rw [e]
  show (if l 0 = wdA (sWd w + 0) then (if l (0 + 1) = wdA (sWd w + (0 + 1)) then _ else 0 + 1) else 0) ≤ 1
  rw [if_neg (show ¬ l (0 + 1) = wdA (sWd w + (0 + 1)) from h)]
  split <;> omega
theorem pm_lz {l : Nat → Int32} {w : Nat} (hw : w < 7) : pmW w l (lWd w) 0 = if w = 4 then pmW w l (zWd w) 0 else if pmW w l (zWd w) 0 = zWd w then (if l (zWd w) = 32 then zWd w + 1 else zWd w) else pmW w l (zWd w) 0 := by
  have hz : ∀ w, w < 7 → (w = 4 → lWd w = zWd w) ∧ (w ≠ 4 → lWd w = zWd w + 1 ∧ wdA (sWd w + zWd w) = 32) := by decide +kernel
  obtain ⟨z1, z2⟩ := hz w hw
  by_cases h4 : w = 4
  · rw [if_pos h4, z1 h4]
  · obtain ⟨z3, z4⟩ := z2 h4
    rw [if_neg h4, z3, pmW_ext, Nat.zero_add, z4]
/-- what the model's word says, by the class's -/
def mws (l : Nat → Int32) (q : Nat × Option Nat) : Option Nat × Nat := match q.2 with
  | none => (none, q.1)
  | some w => if w = 4 then (some w, q.1) else if l q.1 = 32 then (some w, q.1 + 1) else (none, q.1)
theorem mwd_e (l : Nat → Int32) : mwd l 7 0 0 = mws l (wsp l) := by
  have hl : ∀ w, w < 7 → 4 ≤ lWd w ∧ (w = 4 → lWd w = zWd w) ∧ (w ≠ 4 → lWd w = zWd w + 1) := by decide
  have one : ∀ u c, u < 7 → c ≤ 1 → c ≤ pmW u l (lWd u) 0 → (∀ v, v < 7 → v ≠ u → pmW v l (lWd v) 0 ≤ c) → mwd l 7 0 0 = mws l (gW l u) := by
    intro u c hu hc1 hc h
    rw [mwd_main (u := u) (c := c) hc 7 0 0 (Nat.zero_le _) (by omega) (Nat.zero_le _) (fun v _ q2 q3 => by
      have := h v (by omega) q3
      have := (hl v (by omega)).1
      exact ⟨by omega, by omega⟩), pm_lz hu]
    obtain ⟨a1, a2, a3⟩ := hl u hu
    have hle := (pmW_le u l (zWd u) 0).2
    unfold gW mws
    by_cases hf : pmW u l (zWd u) 0 = zWd u
    · rw [if_pos hf, hf, if_pos rfl]
      show _ = if u = 4 then (some u, zWd u) else if l (zWd u) = 32 then (some u, zWd u + 1) else (none, zWd u)
      by_cases h4 : u = 4
      · rw [if_pos h4, if_pos h4, if_pos (a2 h4).symm]
      · have a3' := a3 h4
        rw [if_neg h4, if_neg h4]
        by_cases h32 : l (zWd u) = 32
        · rw [if_pos h32, if_pos h32, if_pos a3'.symm]
        · rw [if_neg h32, if_neg h32, if_neg (by omega)]
    · rw [if_neg hf, if_neg hf]
      show _ = (none, pmW u l (zWd u) 0)
      by_cases h4 : u = 4
      · have a2' := a2 h4
        rw [if_pos h4, if_neg (by omega)]
      · have a3' := a3 h4
        rw [if_neg h4, if_neg (by omega)]
  have fst : ∀ u, u < 7 → l 0 = wdA (sWd u) → u ≠ 1 → u ≠ 2 → mwd l 7 0 0 = mws l (gW l u) := by
    intro u hu h0 n1 n2
    have hd : ∀ u, u < 7 → ∀ v, v < 7 → (u ≠ 1 ∧ u ≠ 2 ∧ v ≠ u) → ¬ wdA (sWd u) = wdA (sWd v) := by decide +kernel
    refine one u 0 hu (by omega) (Nat.zero_le _) (fun v hv hvu => ?_)
    rw [pm0 hv (by rw [h0]; exact hd u hu v hv ⟨n1, n2, hvu⟩)]
    exact Nat.le_refl _
  have two : ∀ u v, (u = 1 ∧ v = 2) ∨ (u = 2 ∧ v = 1) → l 0 = 119 → ¬ l 1 = wdA (sWd v + 1) → mwd l 7 0 0 = mws l (gW l u) := by
    intro u v huv h0 h1
    have hu : u < 7 := by omega
    have hd : ∀ w, w < 7 → w ≠ 1 → w ≠ 2 → ¬ (119 : Int32) = wdA (sWd w) := by decide +kernel
    have hp : 1 ≤ pmW u l (lWd u) 0 := by
      have hz : ∀ w, w < 7 → 1 ≤ lWd w := by decide
      obtain ⟨r, e⟩ : ∃ r, lWd u = r + 1 := ⟨lWd u - 1, by have := hz u hu; omega⟩
      rw [e]
      show 1 ≤ if l 0 = wdA (sWd u + 0) then pmW u l r (0 + 1) else 0
      have e0 : l 0 = wdA (sWd u + 0) := by
        rw [h0]
        rcases huv with ⟨rfl, _⟩ | ⟨rfl, _⟩ <;> decide
      rw [if_pos e0]
      exact (pmW_le u l r (0 + 1)).1
    refine one u 1 hu (by omega) hp (fun w hw hwu => ?_)
    by_cases hwv : w = v
    · subst hwv
      exact pm1 hw h1
    · rw [pm0 hw (by rw [h0]; exact hd w hw (by omega) (by omega))]
      exact Nat.zero_le _
  unfold wsp
  by_cases h1 : l 0 = 112
  · rw [if_pos h1]
    exact fst 0 (by omega) h1 (by omega) (by omega)
  · rw [if_neg h1]
    by_cases h2 : l 0 = 119
    · rw [if_pos h2]
      by_cases g1 : l 1 = 101
      · rw [if_pos g1]
        exact two 1 2 (Or.inl ⟨rfl, rfl⟩) h2 (by rw [g1]; decide)
      · rw [if_neg g1]
        by_cases g2 : l 1 = 97
        · rw [if_pos g2]
          exact two 2 1 (Or.inr ⟨rfl, rfl⟩) h2 (by rw [g2]; decide)
        · rw [if_neg g2, two 1 2 (Or.inl ⟨rfl, rfl⟩) h2 g2]
          have e1 : pmW 1 l (zWd 1) 0 = 1 := by
            show (if l 0 = wdA (sWd 1 + 0) then (if l (0 + 1) = wdA (sWd 1 + (0 + 1)) then _ else 0 + 1) else 0) = 1
            rw [if_pos (show l 0 = wdA (sWd 1 + 0) from h2), if_neg (show ¬ l (0 + 1) = wdA (sWd 1 + (0 + 1)) from g1)]
          unfold gW mws
          rw [e1, if_neg (by decide)]
    · rw [if_neg h2]
      by_cases h3 : l 0 = 98
      · rw [if_pos h3]
        exact fst 3 (by omega) h3 (by omega) (by omega)
      · rw [if_neg h3]
        by_cases h4 : l 0 = 108
        · rw [if_pos h4]
          exact fst 4 (by omega) h4 (by omega) (by omega)
        · rw [if_neg h4]
          by_cases h5 : l 0 = 99
          · rw [if_pos h5]
            exact fst 5 (by omega) h5 (by omega) (by omega)
          · rw [if_neg h5]
            by_cases h6 : l 0 = 102
            · rw [if_pos h6]
              exact fst 6 (by omega) h6 (by omega) (by omega)
            · rw [if_neg h6]
              have hd : ∀ v, v < 7 → wdA (sWd v) = 112 ∨ wdA (sWd v) = 119 ∨ wdA (sWd v) = 98 ∨ wdA (sWd v) = 108 ∨ wdA (sWd v) = 99 ∨ wdA (sWd v) = 102 := by decide +kernel
              refine mwd_after 7 0 0 (fun v _ q2 => ?_)
              have hv : v < 7 := by omega
              have : pmW v l (lWd v) 0 = 0 := pm0 hv (fun q => by
                rcases hd v hv with r | r | r | r | r | r
                · exact h1 (q.trans r)
                · exact h2 (q.trans r)
                · exact h3 (q.trans r)
                · exact h4 (q.trans r)
                · exact h5 (q.trans r)
                · exact h6 (q.trans r))
              have := (hl v hv).1
              exact ⟨by omega, by omega⟩
