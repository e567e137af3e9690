-- ACT
theorem inN_nI {j k : Nat} (h : j < k) (h2 : j < 2 ^ 31) : inN (nI j) k = true := by
  unfold inN
  rw [nI_clamp h2]
  simp only [Bool.and_eq_true, Bool.not_eq_true', decide_eq_false_iff_not, decide_eq_true_eq]
  exact ⟨nI_pos h2, h⟩
theorem kind_nI {g : Nat} (hg : g < 7) : (0 : Int32) ≤ nI g ∧ nI g ≤ 6 := ⟨(nI_leI (a := 0) (by omega) (by omega)).mpr (by omega), (nI_leI (b := 6) (by omega) (by omega)).mpr (by omega)⟩
theorem move_nI {g : Nat} (hg : g < 3) : (0 : Int32) ≤ nI g ∧ nI g ≤ 2 := ⟨(nI_leI (a := 0) (by omega) (by omega)).mpr (by omega), (nI_leI (b := 2) (by omega) (by omega)).mpr (by omega)⟩
theorem above_e {g : Nat} (hg : g < 7) (X : ZMem) : fX6_kindAbove 131 (nI g) X = some (X, zKA g) := by
  unfold fX6_kindAbove fX6_kindAbove_b16
  rw [isKind_o (kind_nI hg), bd2_s, if_neg one_ne, chk_t (inN_nI hg (by omega)), nI_clamp (by omega)]
theorem bodyAt_e {g mv : Nat} {w : Int32} (hg : g < 7) (hm : mv < 3) (hw : w = nI mv) (X : ZMem) : fX0_bodyAt 131 (nI g) w X = some (X, zBO (g * 3 + mv)) := by
  subst hw
  have e : nI g * (3 : Int32) + nI mv = nI (g * 3 + mv) := by rw [show nI g * (3 : Int32) = nI (g * 3) from pk_mul g 3, nI_add]
  unfold fX0_bodyAt fX0_bodyAt_b29
  rw [isKind_o (kind_nI hg), bd2_s, if_neg one_ne, isIn_o (move_nI hm), bd2_s, if_neg one_ne, e, chk_t (inN_nI (by omega) (by omega)), nI_clamp (by omega)]
def swt (gs : Nat → Int32 → Int32 → Int32 → Int32 → ZMem → Option (ZMem × Int32)) (ab b x : Int32) (d : Nat) (Y : ZMem) : Option (ZMem × Int32) := (if b = (10 : Int32) then some (Y, (x + (zI Y 105 3))) else (if b = (11 : Int32) then bd2 (gs 105 (zI Y 105 2) (0 : Int32) x (nI d + (1 : Int32)) Y) (fun μ14 r15 => some (μ14, (r15 * (2 : Int32)))) else (if b = (12 : Int32) then bd2 (gs 105 (zI Y 105 2) (1 : Int32) x (nI d + (1 : Int32)) Y) (fun μ18 r19 => bd2 (gs 105 (zI μ18 105 2) (0 : Int32) (x - (zI μ18 105 4)) (nI d + (1 : Int32)) μ18) (fun μ21 r22 => some (μ21, (r19 ^^^ r22)))) else (if b = (20 : Int32) then bd2 (gs 105 ab (0 : Int32) x (nI d + (1 : Int32)) Y) (fun μ25 r26 => some (μ25, (r26 + (zI μ25 105 4)))) else (if b = (30 : Int32) then bd2 (gs 105 ab (1 : Int32) x (nI d + (1 : Int32)) Y) (fun μ29 r30 => some (μ29, (r30 * (3 : Int32)))) else (if b = (40 : Int32) then bd2 (gs 105 ab (0 : Int32) (x + (1 : Int32)) (nI d + (1 : Int32)) Y) (fun μ33 r34 => some (μ33, r34)) else (if b = (50 : Int32) then bd2 (gs 105 ab (2 : Int32) x (nI d + (1 : Int32)) Y) (fun μ37 r38 => some (μ37, (-r38))) else (if b = (51 : Int32) then bd2 (gs 105 ab (0 : Int32) x (nI d + (1 : Int32)) Y) (fun μ41 r42 => some (μ41, (r42 - (zI μ41 105 3)))) else (if b = (60 : Int32) then bd2 (gs 105 ab (2 : Int32) x (nI d + (1 : Int32)) Y) (fun μ45 r46 => some (μ45, (r46 ^^^ (5 : Int32)))) else (if b = (70 : Int32) then bd2 (gs 105 ab (0 : Int32) x (nI d + (1 : Int32)) Y) (fun μ49 r50 => some (μ49, (r50 * (2 : Int32)))) else bd2 (gs 105 ab (1 : Int32) (x - (zI Y 105 4)) (nI d + (1 : Int32)) Y) (fun μ52 r53 => some (μ52, r53))))))))))))
theorem b35_e {gs : Nat → Int32 → Int32 → Int32 → Int32 → ZMem → Option (ZMem × Int32)} {g mv d : Nat} {w x b : Int32} {X Y : ZMem} (hg : g < 7) (hm : mv < 3) (hw : w = nI mv) (hb : zBO (g * 3 + mv) = b) (hb0 : ¬ b = 0) (hd : d < 30) (hY : fX0_begin 131 105 b X = some Y) : fX0_runFrom_b35 gs 131 105 w x (nI d) (nI g) X = swt gs (zKA g) b x d Y := by
  unfold fX0_runFrom_b35 swt
  rw [bodyAt_e hg hm hw, hb, bd2_s, if_neg hb0, if_pos (show nI d < (30 : Int32) from (nI_ltI (b := 30) (by omega) (by omega)).mpr hd), hY, bd1_s, above_e hg, bd2_s]
theorem c0_c : isC 131 0 105 = true := by decide
theorem b6_y {gs : Nat → Int32 → Int32 → Int32 → Int32 → ZMem → Option (ZMem × Int32)} {g mv k i : Nat} {w x D : Int32} {X : ZMem} (hg : g < 7) (hm : mv < 3) (hw : w = nI mv) (hb : ¬ zBO (g * 3 + mv) = 0) (hi : i < 7) : fX0_runFrom_b6 gs 131 (k + 1) 105 w x D (nI g) (nI i) X = fX0_runFrom_b35 gs 131 105 w x D (nI g) X := by
  rw [fX0_runFrom_b6, if_neg (show ¬ (7 : Int32) ≤ nI i from fun q => by have := (nI_leI (a := 7) (by omega) (by omega)).mp q; omega), bodyAt_e hg hm hw, bd2_s, if_neg hb]
theorem b6_n {gs : Nat → Int32 → Int32 → Int32 → Int32 → ZMem → Option (ZMem × Int32)} {g g2 mv k i : Nat} {w x D : Int32} {X : ZMem} (hg : g < 7) (hm : mv < 3) (hw : w = nI mv) (hb : zBO (g * 3 + mv) = 0) (hk : zKA g = nI g2) (hi : i < 7) : fX0_runFrom_b6 gs 131 (k + 1) 105 w x D (nI g) (nI i) X = fX0_runFrom_b6 gs 131 k 105 w x D (nI g2) (nI (i + 1)) X := by
  rw [fX0_runFrom_b6, if_neg (show ¬ (7 : Int32) ≤ nI i from fun q => by have := (nI_leI (a := 7) (by omega) (by omega)).mp q; omega), bodyAt_e hg hm hw, bd2_s, if_pos hb, above_e hg, bd2_s, hk, nI_1]
theorem up0 {Q g mv : Nat} {w x D : Int32} {X : ZMem} (hg : g < 7) (hm : mv < 3) (hw : w = nI mv) (hb : ¬ zBO (g * 3 + mv) = 0) : fX0_runFrom 131 (Q + 1) 105 (nI g) w x D X = fX0_runFrom_b35 (fX0_runFrom 131 Q) 131 105 w x D (nI g) X := by
  rw [fX0_runFrom, chk_t c0_c]
  exact b6_y (k := 1999) (i := 0) hg hm hw hb (by omega)
theorem up1 {Q g g2 mv : Nat} {w x D : Int32} {X : ZMem} (hg : g < 7) (hm : mv < 3) (hw : w = nI mv) (hb : zBO (g * 3 + mv) = 0) (hk : zKA g = nI g2) (hg2 : g2 < 7) (hb2 : ¬ zBO (g2 * 3 + mv) = 0) : fX0_runFrom 131 (Q + 1) 105 (nI g) w x D X = fX0_runFrom_b35 (fX0_runFrom 131 Q) 131 105 w x D (nI g2) X := by
  rw [fX0_runFrom, chk_t c0_c]
  exact (b6_n (k := 1999) (i := 0) hg hm hw hb hk (by omega)).trans (b6_y (k := 1998) (i := 1) hg2 hm hw hb2 (by omega))
theorem up2 {Q g g2 g3 mv : Nat} {w x D : Int32} {X : ZMem} (hg : g < 7) (hm : mv < 3) (hw : w = nI mv) (hb : zBO (g * 3 + mv) = 0) (hk : zKA g = nI g2) (hg2 : g2 < 7) (hb2 : zBO (g2 * 3 + mv) = 0) (hk2 : zKA g2 = nI g3) (hg3 : g3 < 7) (hb3 : ¬ zBO (g3 * 3 + mv) = 0) : fX0_runFrom 131 (Q + 1) 105 (nI g) w x D X = fX0_runFrom_b35 (fX0_runFrom 131 Q) 131 105 w x D (nI g3) X := by
  rw [fX0_runFrom, chk_t c0_c]
  exact (b6_n (k := 1999) (i := 0) hg hm hw hb hk (by omega)).trans ((b6_n (k := 1998) (i := 1) hg2 hm hw hb2 hk2 (by omega)).trans (b6_y (k := 1997) (i := 2) hg3 hm hw hb3 (by omega)))
-- the trace
abbrev Tr : Type := Nat × (Nat → Int32)
def tA (b : Int32) (q : Tr) : Tr := (q.1 + 1, fun j => if j = q.1 then b else q.2 j)
theorem tA_1 (b : Int32) (q : Tr) : (tA b q).1 = q.1 + 1 := rfl
def trC (μ : ZMem) (κ m k : Int32) (t : Tr) : ZMem := (fun a j => if a = 105 ∧ 1 ≤ j ∧ j ≤ 4 then (if j = 1 then nI t.1 else if j = 2 then κ else if j = 3 then m else k) else if a = 106 ∧ j < t.1 then t.2 j else μ.1 a j, μ.2)
theorem trC_1 (μ : ZMem) (κ m k : Int32) (t : Tr) : zI (trC μ κ m k t) 105 1 = nI t.1 := by simp [zI, trC]
theorem trC_2 (μ : ZMem) (κ m k : Int32) (t : Tr) : zI (trC μ κ m k t) 105 2 = κ := by simp [zI, trC]
theorem trC_3 (μ : ZMem) (κ m k : Int32) (t : Tr) : zI (trC μ κ m k t) 105 3 = m := by simp [zI, trC]
theorem trC_4 (μ : ZMem) (κ m k : Int32) (t : Tr) : zI (trC μ κ m k t) 105 4 = k := by simp [zI, trC]
theorem HR_trC {μ : ZMem} {κ m k : Int32} {t : Tr} (h : HR μ) : HR (trC μ κ m k t) := HR_of h rfl
theorem trC_a (μ : ZMem) (κ m k b : Int32) (t : Tr) : zpI (zpI (trC μ κ m k t) 106 t.1 b) 105 1 (nI (t.1 + 1)) = trC μ κ m k (tA b t) := by
  refine Prod.ext ?_ rfl
  funext a j
  simp only [zpI, trC, tA]
  by_cases h5 : a = 105
  · subst h5
    by_cases hj : j = 1
    · subst hj
      simp
    · simp [hj]
  · by_cases h6 : a = 106
    · subst h6
      by_cases hj : j = t.1
      · subst hj
        simp
      · by_cases hl : j < t.1
        · simp [hj, hl, show j < t.1 + 1 by omega]
        · simp [hj, hl, show ¬ j < t.1 + 1 by omega]
    · simp [h5, h6]
theorem r106 {μ : ZMem} (hR : HR μ) : zRc 131 100 μ 105 0 = some 106 := zRc_of (hR (105, 0, 106) (by decide +kernel)) (by decide)
theorem begin_c {μ : ZMem} {κ m k b : Int32} {t : Tr} (hR : HR μ) (ht : t.1 < 20) : fX0_begin 131 105 b (trC μ κ m k t) = some (trC μ κ m k (tA b t)) := by
  have hin : (0 : Int32) ≤ nI t.1 ∧ nI t.1 ≤ 19 := ⟨(nI_leI (a := 0) (by omega) (by omega)).mpr (by omega), (nI_leI (b := 19) (by omega) (by omega)).mpr (by omega)⟩
  have hi : inb (nI t.1) 106 = true := inb_nI (by rw [show zsz 106 = 20 by decide]; exact ht)
  unfold fX0_begin fX0_begin_b23
  have e1 : zI (zpI (trC μ κ m k t) 106 t.1 b) 105 1 = nI t.1 := (zpI_ne (by omega)).trans (trC_1 μ κ m k t)
  rw [chk_t c0_c, trC_1, isIn_o hin, bd2_s, if_neg one_ne, r106 (HR_trC hR), bd1_s, trC_1, chk_t hi, lt_e, lt_e, nI_clamp (by omega), e1, nI_1, trC_a]
-- what is said of it
def pW (m a x : Int32) (κ : Nat) : Int32 := match κ with
  | 0 => x + m
  | 1 => x + m + a
  | 2 => x + m
  | 3 => x + 1 + m + a
  | 4 => x + m - m
  | 5 => x + m
  | _ => (x + m - m) * 2
def tW (κ : Nat) (t : Tr) : Tr := match κ with
  | 0 => tA 10 t
  | 1 => tA 10 (tA 20 t)
  | 2 => tA 10 t
  | 3 => tA 10 (tA 20 (tA 40 t))
  | 4 => tA 10 (tA 51 t)
  | 5 => tA 10 t
  | _ => tA 10 (tA 51 (tA 70 t))
def pB (m a x : Int32) (κ : Nat) : Int32 := match κ with
  | 2 => pW m a x 2 * 2 * 3
  | 5 => pW m a x 5 * 2 * 3
  | 6 => pW m a (x - a) 6 * 2
  | κ => pW m a x κ * 2
def tB (κ : Nat) (t : Tr) : Tr := match κ with
  | 2 => tW 2 (tA 11 (tA 30 t))
  | 5 => tW 5 (tA 11 (tA 30 t))
  | 6 => tW 6 (tA 11 (tA 71 t))
  | κ => tW κ (tA 11 t)
def pSp (m a x : Int32) (κ : Nat) : Int32 := match κ with
  | 4 => -(pB m a x 4 ^^^ pW m a (x - a) 4)
  | 5 => (pB m a x 5 ^^^ pW m a (x - a) 5) ^^^ 5
  | 6 => -(pB m a x 6 ^^^ pW m a (x - a) 6)
  | κ => pB m a x κ ^^^ pW m a (x - a) κ
def tS (κ : Nat) (t : Tr) : Tr := match κ with
  | 4 => tW 4 (tB 4 (tA 12 (tA 50 t)))
  | 5 => tW 5 (tB 5 (tA 12 (tA 60 t)))
  | 6 => tW 6 (tB 6 (tA 12 (tA 50 t)))
  | κ => tW κ (tB κ (tA 12 t))
theorem k7 {κ : Nat} (h : κ < 7) : κ = 0 ∨ κ = 1 ∨ κ = 2 ∨ κ = 3 ∨ κ = 4 ∨ κ = 5 ∨ κ = 6 := by omega
theorem tW_n {κ : Nat} (h : κ < 7) (t : Tr) : (tW κ t).1 ≤ t.1 + 3 := by
  rcases k7 h with rfl | rfl | rfl | rfl | rfl | rfl | rfl <;> simp only [tW, tA_1] <;> omega
theorem tB_n {κ : Nat} (h : κ < 7) (t : Tr) : (tB κ t).1 ≤ t.1 + 5 := by
  have h1 := tW_n h (tA 11 t)
  have h2 := tW_n h (tA 11 (tA 30 t))
  have h3 := tW_n h (tA 11 (tA 71 t))
  simp only [tA_1] at h1 h2 h3
  rcases k7 h with rfl | rfl | rfl | rfl | rfl | rfl | rfl <;> simp only [tB] <;> omega
theorem tS_n {κ : Nat} (h : κ < 7) (t : Tr) : (tS κ t).1 ≤ t.1 + 10 := by
  have g1 := tW_n h (tB κ (tA 12 t))
  have g2 := tW_n h (tB κ (tA 12 (tA 50 t)))
  have g3 := tW_n h (tB κ (tA 12 (tA 60 t)))
  have h1 := tB_n h (tA 12 t)
  have h2 := tB_n h (tA 12 (tA 50 t))
  have h3 := tB_n h (tA 12 (tA 60 t))
  simp only [tA_1] at h1 h2 h3
  rcases k7 h with rfl | rfl | rfl | rfl | rfl | rfl | rfl <;> simp only [tS] <;> omega
section
variable {μ : ZMem} {κ m k x : Int32} {t : Tr} {Q d : Nat}
theorem cW0 {g : Nat} (hR : HR μ) (hg : g = 0 ∨ g = 2 ∨ g = 5) (hd : d < 30) (ht : t.1 < 20) : fX0_runFrom 131 (Q + 1) 105 (nI g) 0 x (nI d) (trC μ κ m k t) = some (trC μ κ m k (tA 10 t), x + m) := by
  have e : fX0_runFrom 131 (Q + 1) 105 (nI g) 0 x (nI d) (trC μ κ m k t) = fX0_runFrom_b35 (fX0_runFrom 131 Q) 131 105 0 x (nI d) (nI 0) (trC μ κ m k t) := by
    rcases hg with rfl | rfl | rfl
    · exact up0 (mv := 0) (w := 0) (by omega) (by omega) rfl (by decide)
    · exact up1 (mv := 0) (w := 0) (g2 := 0) (by omega) (by omega) rfl (by decide) (by decide) (by omega) (by decide)
    · exact up2 (mv := 0) (w := 0) (g2 := 2) (g3 := 0) (by omega) (by omega) rfl (by decide) (by decide) (by omega) (by decide) (by decide) (by omega) (by decide)
  rw [e, b35_e (mv := 0) (w := 0) (b := 10) (by omega) (by omega) rfl (by decide) (by decide) hd (begin_c hR ht)]
  unfold swt
  rw [if_pos rfl, trC_3]
theorem cW1 (hR : HR μ) (hd : d + 1 < 30) (ht : t.1 + 1 < 20) : fX0_runFrom 131 (Q + 2) 105 (nI 1) 0 x (nI d) (trC μ κ m k t) = some (trC μ κ m k (tA 10 (tA 20 t)), x + m + k) := by
  rw [up0 (mv := 0) (w := 0) (by omega) (by omega) rfl (by decide), b35_e (mv := 0) (w := 0) (b := 20) (by omega) (by omega) rfl (by decide) (by decide) (by omega) (begin_c hR (by omega))]
  unfold swt
  have e : zKA 1 = nI 0 := by decide
  rw [if_neg (by decide), if_neg (by decide), if_neg (by decide), if_pos rfl, e, nI_1, cW0 hR (Or.inl rfl) hd (by rw [tA_1]; exact ht), bd2_s, trC_4]
theorem cW3 (hR : HR μ) (hd : d + 2 < 30) (ht : t.1 + 2 < 20) : fX0_runFrom 131 (Q + 3) 105 (nI 3) 0 x (nI d) (trC μ κ m k t) = some (trC μ κ m k (tA 10 (tA 20 (tA 40 t))), x + 1 + m + k) := by
  rw [up0 (mv := 0) (w := 0) (by omega) (by omega) rfl (by decide), b35_e (mv := 0) (w := 0) (b := 40) (by omega) (by omega) rfl (by decide) (by decide) (by omega) (begin_c hR (by omega))]
  unfold swt
  have e : zKA 3 = nI 1 := by decide
  rw [if_neg (by decide), if_neg (by decide), if_neg (by decide), if_neg (by decide), if_neg (by decide), if_pos rfl, e, nI_1, cW1 hR (by omega) (by rw [tA_1]; omega), bd2_s]
theorem cW4 (hR : HR μ) (hd : d + 1 < 30) (ht : t.1 + 1 < 20) : fX0_runFrom 131 (Q + 2) 105 (nI 4) 0 x (nI d) (trC μ κ m k t) = some (trC μ κ m k (tA 10 (tA 51 t)), x + m - m) := by
  rw [up0 (mv := 0) (w := 0) (by omega) (by omega) rfl (by decide), b35_e (mv := 0) (w := 0) (b := 51) (by omega) (by omega) rfl (by decide) (by decide) (by omega) (begin_c hR (by omega))]
  unfold swt
  have e : zKA 4 = nI 0 := by decide
  rw [if_neg (by decide), if_neg (by decide), if_neg (by decide), if_neg (by decide), if_neg (by decide), if_neg (by decide), if_neg (by decide), if_pos rfl, e, nI_1, cW0 hR (Or.inl rfl) hd (by rw [tA_1]; exact ht), bd2_s, trC_3]
theorem cW6 (hR : HR μ) (hd : d + 2 < 30) (ht : t.1 + 2 < 20) : fX0_runFrom 131 (Q + 3) 105 (nI 6) 0 x (nI d) (trC μ κ m k t) = some (trC μ κ m k (tA 10 (tA 51 (tA 70 t))), (x + m - m) * 2) := by
  rw [up0 (mv := 0) (w := 0) (by omega) (by omega) rfl (by decide), b35_e (mv := 0) (w := 0) (b := 70) (by omega) (by omega) rfl (by decide) (by decide) (by omega) (begin_c hR (by omega))]
  unfold swt
  have e : zKA 6 = nI 4 := by decide
  rw [if_neg (by decide), if_neg (by decide), if_neg (by decide), if_neg (by decide), if_neg (by decide), if_neg (by decide), if_neg (by decide), if_neg (by decide), if_neg (by decide), if_pos rfl, e, nI_1, cW4 hR (by omega) (by rw [tA_1]; omega), bd2_s]
theorem cWk {g : Nat} (hR : HR μ) (hg : g < 7) (hd : d + 3 < 30) (ht : t.1 + 3 < 20) : fX0_runFrom 131 (Q + 3) 105 (nI g) 0 x (nI d) (trC μ κ m k t) = some (trC μ κ m k (tW g t), pW m k x g) := by
  rcases k7 hg with rfl | rfl | rfl | rfl | rfl | rfl | rfl
  · exact cW0 (Q := Q + 2) hR (Or.inl rfl) (by omega) (by omega)
  · exact cW1 (Q := Q + 1) hR (by omega) (by omega)
  · exact cW0 (Q := Q + 2) hR (Or.inr (Or.inl rfl)) (by omega) (by omega)
  · exact cW3 hR (by omega) (by omega)
  · exact cW4 (Q := Q + 1) hR (by omega) (by omega)
  · exact cW0 (Q := Q + 2) hR (Or.inr (Or.inr rfl)) (by omega) (by omega)
  · exact cW6 hR (by omega) (by omega)
/-- bears, the WALKER's body, for one of the KIND g -/
theorem cB0 {f g : Nat} (hR : HR μ) (hg : g < 7) (hf : f = 0 ∨ f = 1 ∨ f = 3 ∨ f = 4) (hd : d + 4 < 30) (ht : t.1 + 4 < 20) : fX0_runFrom 131 (Q + 4) 105 (nI f) 1 x (nI d) (trC μ (nI g) m k t) = some (trC μ (nI g) m k (tW g (tA 11 t)), pW m k x g * 2) := by
  have e : fX0_runFrom 131 (Q + 4) 105 (nI f) 1 x (nI d) (trC μ (nI g) m k t) = fX0_runFrom_b35 (fX0_runFrom 131 (Q + 3)) 131 105 1 x (nI d) (nI 0) (trC μ (nI g) m k t) := by
    rcases hf with rfl | rfl | rfl | rfl
    · exact up0 (mv := 1) (w := 1) (by omega) (by omega) rfl (by decide)
    · exact up1 (mv := 1) (w := 1) (g2 := 0) (by omega) (by omega) rfl (by decide) (by decide) (by omega) (by decide)
    · exact up2 (mv := 1) (w := 1) (g2 := 1) (g3 := 0) (by omega) (by omega) rfl (by decide) (by decide) (by omega) (by decide) (by decide) (by omega) (by decide)
    · exact up1 (mv := 1) (w := 1) (g2 := 0) (by omega) (by omega) rfl (by decide) (by decide) (by omega) (by decide)
  rw [e, b35_e (mv := 1) (w := 1) (b := 11) (by omega) (by omega) rfl (by decide) (by decide) (by omega) (begin_c hR (by omega))]
  unfold swt
  rw [if_neg (by decide), if_pos rfl, trC_2, nI_1, cWk hR hg (by omega) (by rw [tA_1]; omega), bd2_s]
theorem cB30 {f g : Nat} (hR : HR μ) (hg : g < 7) (hf : f = 2 ∨ f = 5) (hd : d + 5 < 30) (ht : t.1 + 5 < 20) : fX0_runFrom 131 (Q + 5) 105 (nI f) 1 x (nI d) (trC μ (nI g) m k t) = some (trC μ (nI g) m k (tW g (tA 11 (tA 30 t))), pW m k x g * 2 * 3) := by
  have e : fX0_runFrom 131 (Q + 5) 105 (nI f) 1 x (nI d) (trC μ (nI g) m k t) = fX0_runFrom_b35 (fX0_runFrom 131 (Q + 4)) 131 105 1 x (nI d) (nI 2) (trC μ (nI g) m k t) := by
    rcases hf with rfl | rfl
    · exact up0 (mv := 1) (w := 1) (by omega) (by omega) rfl (by decide)
    · exact up1 (mv := 1) (w := 1) (g2 := 2) (by omega) (by omega) rfl (by decide) (by decide) (by omega) (by decide)
  rw [e, b35_e (mv := 1) (w := 1) (b := 30) (by omega) (by omega) rfl (by decide) (by decide) (by omega) (begin_c hR (by omega))]
  unfold swt
  have e : zKA 2 = nI 0 := by decide
  rw [if_neg (by decide), if_neg (by decide), if_neg (by decide), if_neg (by decide), if_pos rfl, e, nI_1, cB0 hR hg (Or.inl rfl) (by omega) (by rw [tA_1]; omega), bd2_s]
theorem cB71 {g : Nat} (hR : HR μ) (hg : g < 7) (hd : d + 5 < 30) (ht : t.1 + 5 < 20) : fX0_runFrom 131 (Q + 5) 105 (nI 6) 1 x (nI d) (trC μ (nI g) m k t) = some (trC μ (nI g) m k (tW g (tA 11 (tA 71 t))), pW m k (x - k) g * 2) := by
  rw [up0 (mv := 1) (w := 1) (by omega) (by omega) rfl (by decide), b35_e (mv := 1) (w := 1) (b := 71) (by omega) (by omega) rfl (by decide) (by decide) (by omega) (begin_c hR (by omega))]
  unfold swt
  have e : zKA 6 = nI 4 := by decide
  rw [if_neg (by decide), if_neg (by decide), if_neg (by decide), if_neg (by decide), if_neg (by decide), if_neg (by decide), if_neg (by decide), if_neg (by decide), if_neg (by decide), if_neg (by decide), e, nI_1, trC_4, cB0 hR hg (Or.inr (Or.inr (Or.inr rfl))) (by omega) (by rw [tA_1]; omega), bd2_s]
theorem cBk {g : Nat} (hR : HR μ) (hg : g < 7) (hd : d + 5 < 30) (ht : t.1 + 5 < 20) : fX0_runFrom 131 (Q + 5) 105 (nI g) 1 x (nI d) (trC μ (nI g) m k t) = some (trC μ (nI g) m k (tB g t), pB m k x g) := by
  rcases k7 hg with rfl | rfl | rfl | rfl | rfl | rfl | rfl
  · exact cB0 (Q := Q + 1) hR hg (Or.inl rfl) (by omega) (by omega)
  · exact cB0 (Q := Q + 1) hR hg (Or.inr (Or.inl rfl)) (by omega) (by omega)
  · exact cB30 hR hg (Or.inl rfl) (by omega) (by omega)
  · exact cB0 (Q := Q + 1) hR hg (Or.inr (Or.inr (Or.inl rfl))) (by omega) (by omega)
  · exact cB0 (Q := Q + 1) hR hg (Or.inr (Or.inr (Or.inr rfl))) (by omega) (by omega)
  · exact cB30 hR hg (Or.inr rfl) (by omega) (by omega)
  · exact cB71 hR hg (by omega) (by omega)
theorem cS0 {f g : Nat} (hR : HR μ) (hg : g < 7) (hf : f = 0 ∨ f = 1 ∨ f = 2 ∨ f = 3) (hd : d + 6 < 30) (ht : t.1 + 9 < 20) : fX0_runFrom 131 (Q + 6) 105 (nI f) 2 x (nI d) (trC μ (nI g) m k t) = some (trC μ (nI g) m k (tW g (tB g (tA 12 t))), pB m k x g ^^^ pW m k (x - k) g) := by
  have e : fX0_runFrom 131 (Q + 6) 105 (nI f) 2 x (nI d) (trC μ (nI g) m k t) = fX0_runFrom_b35 (fX0_runFrom 131 (Q + 5)) 131 105 2 x (nI d) (nI 0) (trC μ (nI g) m k t) := by
    rcases hf with rfl | rfl | rfl | rfl
    · exact up0 (mv := 2) (w := 2) (by omega) (by omega) rfl (by decide)
    · exact up1 (mv := 2) (w := 2) (g2 := 0) (by omega) (by omega) rfl (by decide) (by decide) (by omega) (by decide)
    · exact up1 (mv := 2) (w := 2) (g2 := 0) (by omega) (by omega) rfl (by decide) (by decide) (by omega) (by decide)
    · exact up2 (mv := 2) (w := 2) (g2 := 1) (g3 := 0) (by omega) (by omega) rfl (by decide) (by decide) (by omega) (by decide) (by decide) (by omega) (by decide)
  have hb := tB_n hg (tA 12 t)
  rw [tA_1] at hb
  rw [e, b35_e (mv := 2) (w := 2) (b := 12) (by omega) (by omega) rfl (by decide) (by decide) (by omega) (begin_c hR (by omega))]
  unfold swt
  rw [if_neg (by decide), if_neg (by decide), if_pos rfl, trC_2, nI_1, cBk hR hg (by omega) (by rw [tA_1]; omega), bd2_s, trC_2, trC_4, cWk (Q := Q + 2) hR hg (by omega) (by omega), bd2_s]
theorem cS50 {f g : Nat} (hR : HR μ) (hg : g < 7) (hf : f = 4 ∨ f = 6) (hd : d + 7 < 30) (ht : t.1 + 10 < 20) : fX0_runFrom 131 (Q + 7) 105 (nI f) 2 x (nI d) (trC μ (nI g) m k t) = some (trC μ (nI g) m k (tW g (tB g (tA 12 (tA 50 t)))), -(pB m k x g ^^^ pW m k (x - k) g)) := by
  have e : fX0_runFrom 131 (Q + 7) 105 (nI f) 2 x (nI d) (trC μ (nI g) m k t) = fX0_runFrom_b35 (fX0_runFrom 131 (Q + 6)) 131 105 2 x (nI d) (nI 4) (trC μ (nI g) m k t) := by
    rcases hf with rfl | rfl
    · exact up0 (mv := 2) (w := 2) (by omega) (by omega) rfl (by decide)
    · exact up1 (mv := 2) (w := 2) (g2 := 4) (by omega) (by omega) rfl (by decide) (by decide) (by omega) (by decide)
  rw [e, b35_e (mv := 2) (w := 2) (b := 50) (by omega) (by omega) rfl (by decide) (by decide) (by omega) (begin_c hR (by omega))]
  unfold swt
  have e : zKA 4 = nI 0 := by decide
  rw [if_neg (by decide), if_neg (by decide), if_neg (by decide), if_neg (by decide), if_neg (by decide), if_neg (by decide), if_pos rfl, e, nI_1, cS0 hR hg (Or.inl rfl) (by omega) (by rw [tA_1]; omega), bd2_s]
theorem cS60 {g : Nat} (hR : HR μ) (hg : g < 7) (hd : d + 7 < 30) (ht : t.1 + 10 < 20) : fX0_runFrom 131 (Q + 7) 105 (nI 5) 2 x (nI d) (trC μ (nI g) m k t) = some (trC μ (nI g) m k (tW g (tB g (tA 12 (tA 60 t)))), (pB m k x g ^^^ pW m k (x - k) g) ^^^ 5) := by
  rw [up0 (mv := 2) (w := 2) (by omega) (by omega) rfl (by decide), b35_e (mv := 2) (w := 2) (b := 60) (by omega) (by omega) rfl (by decide) (by decide) (by omega) (begin_c hR (by omega))]
  unfold swt
  have e : zKA 5 = nI 2 := by decide
  rw [if_neg (by decide), if_neg (by decide), if_neg (by decide), if_neg (by decide), if_neg (by decide), if_neg (by decide), if_neg (by decide), if_neg (by decide), if_pos rfl, e, nI_1, cS0 hR hg (Or.inr (Or.inr (Or.inl rfl))) (by omega) (by rw [tA_1]; omega), bd2_s]
theorem cSk {g : Nat} (hR : HR μ) (hg : g < 7) (hd : d + 7 < 30) (ht : t.1 + 10 < 20) : fX0_runFrom 131 (Q + 7) 105 (nI g) 2 x (nI d) (trC μ (nI g) m k t) = some (trC μ (nI g) m k (tS g t), pSp m k x g) := by
  rcases k7 hg with rfl | rfl | rfl | rfl | rfl | rfl | rfl
  · exact cS0 (Q := Q + 1) hR hg (Or.inl rfl) (by omega) (by omega)
  · exact cS0 (Q := Q + 1) hR hg (Or.inr (Or.inl rfl)) (by omega) (by omega)
  · exact cS0 (Q := Q + 1) hR hg (Or.inr (Or.inr (Or.inl rfl))) (by omega) (by omega)
  · exact cS0 (Q := Q + 1) hR hg (Or.inr (Or.inr (Or.inr rfl))) (by omega) (by omega)
  · exact cS50 hR hg (Or.inl rfl) (by omega) (by omega)
  · exact cS60 hR hg (by omega) (by omega)
  · exact cS50 hR hg (Or.inr rfl) (by omega) (by omega)
end
