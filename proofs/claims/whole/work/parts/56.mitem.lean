-- THE MODEL'S NUMBERS AND ITEMS
section
variable {μ : ZMem} {s n : Nat} {x : Nat → Int32} {σ : Sg} {P : Nat} {X : ZMem}
theorem st37_m (hM : MX μ s n x) (h : PV μ σ P X) (hP : P < 900) : ∀ k j, j ≤ 6 → 6 < k + j → fX7_stands_b37 131 k 108 (nI j) (nI (P + j)) X = fX7_stands_b86 131 108 (nI (pmW 0 (fun j => lx n x (P + j)) (6 - j) j)) X := by
  have hX := PV_R hM h
  have hn := hM.2.2.1
  have hw : ∀ j, j < 6 → ¬ wdA j ≤ 32 := by decide +kernel
  intro k
  induction k with
  | zero => intro j _ _; omega
  | succ k ih =>
    intro j q1 q2
    rw [fX7_stands_b37, mr21 hX, bd1_s, chk_t (i121 (by omega)), PV_W hM h (by omega), PV_27 hM h, PV_25 hM h, mr19 hX, bd1_s]
    by_cases hj : j = 6
    · subst hj
      rw [if_pos (show wdA 6 ≤ 32 by decide)]
      rfl
    · rw [if_neg (hw j (by omega)), show 6 - j = (6 - (j + 1)) + 1 by omega]
      have hpm : pmW 0 (fun j => lx n x (P + j)) ((6 - (j + 1)) + 1) j = if lx n x (P + j) = wdA j then pmW 0 (fun j => lx n x (P + j)) (6 - (j + 1)) (j + 1) else j := by
        show (if lx n x (P + j) = wdA (sWd 0 + j) then _ else _) = _
        rw [show sWd 0 + j = j from Nat.zero_add j]
      rw [hpm]
      by_cases hPn : P + j < n
      · obtain ⟨l1, l2⟩ := PV_L hM h hPn
        rw [if_neg (fun q => by have := (nI_leI (by omega) (by omega)).mp q; omega), chk_t l1, l2, bd1_s, chk_t (i121 (by omega)), PV_W hM h (by omega), nI_1, nI_1]
        by_cases hc : lx n x (P + j) = wdA j
        · rw [if_pos hc, if_pos hc]
          exact ih (j + 1) (by omega) (by omega)
        · rw [if_neg hc, if_neg hc]
      · have hc : ¬ lx n x (P + j) = wdA j := fun q => hPn (lx_in (by rw [q]; exact wd_pos _ (by omega)))
        rw [if_pos ((nI_leI (by omega) (by omega)).mpr (by omega)), if_neg hc]
theorem stands_m (hM : MX μ s n x) (h : PV μ σ P X) (hP : P < 900) : fX7_stands 131 108 0 X = some (X, bI (decide (pmW 0 (fun j => lx n x (P + j)) 6 0 = 6))) := by
  have hX := PV_R hM h
  have e : fX7_stands_b4 131 FU 108 0 0 0 X = fX7_stands_b37 131 FU 108 0 (zI X 108 26) X := by
    show fX7_stands_b4 131 (1999 + 1) 108 0 0 0 X = _
    rw [fX7_stands_b4, if_pos (by decide)]
  have k1 := st37_m hM h hP FU 0 (by omega) (by show 6 < 2000 + 0; omega)
  have hle := pmW_le 0 (fun j => lx n x (P + j)) 6 0
  have hw : ∀ j, j < 6 → 32 < wdA j := by decide +kernel
  unfold fX7_stands
  rw [chk_t m_c, e, PV_26 h]
  refine Eq.trans k1 ?_
  rw [Nat.sub_zero]
  unfold fX7_stands_b86 fX7_stands_b102
  rw [mr21 hX, bd1_s, chk_t (i121 (by omega)), PV_W hM h (by omega), chk_t b01_0, chk_t b01_1]
  by_cases hm : pmW 0 (fun j => lx n x (P + j)) 6 0 = 6
  · rw [decide_eq_true hm, hm, if_neg (show ¬ (32 : Int32) < wdA 6 by decide)]
    rfl
  · rw [decide_eq_false hm, if_pos (hw _ (by omega))]
    rfl
theorem digit_m (hM : MX μ s n x) (h : PV μ σ P X) (hP : P < 900) : fX7_isDigit 131 108 X = some (X, bI (isDg (lx n x P))) := by
  have hX := PV_R hM h
  have hn := hM.2.2.1
  unfold fX7_isDigit fX7_isDigit_b55 fX7_isDigit_b56
  rw [chk_t m_c, PV_27 hM h, PV_26 h, PV_25 hM h, chk_t b01_0, chk_t b01_1]
  by_cases hPn : P < n
  · obtain ⟨l1, l2⟩ := PV_L hM h hPn
    rw [if_neg (fun q => by have := (nI_leI (by omega) (by omega)).mp q; omega), mr19 hX, bd1_s, chk_t l1, l2, bd1_s, chk_t l1, l2]
    unfold isDg
    by_cases h1 : lx n x P < 48
    · rw [if_pos h1, decide_eq_false (fun q => (fa_of_lt h1).2.1 q.1)]; rfl
    · rw [if_neg h1]
      by_cases h2 : (57 : Int32) < lx n x P
      · rw [if_pos h2, decide_eq_false (fun q => (fa_of_lt h2).2.1 q.2)]; rfl
      · rw [if_neg h2, decide_eq_true ⟨fa_of_nlt h1, fa_of_nlt h2⟩]; rfl
  · rw [if_pos ((nI_leI (by omega) (by omega)).mpr (by omega)), lx_end (by omega)]
    rfl
theorem wrong_m (f : Nat) (X : ZMem) : fX7_wrong 131 108 (nI f) X = some (zpI X 108 29 (nI f), 0) := by
  unfold fX7_wrong
  rw [chk_t m_c, lt_e]
theorem rd23_m {v i k : Nat} (hM : MX μ s n x) (h : PV μ σ P X) (hP : P < 900) (hv : X.1 108 28 = nI v) (hv2 : v < 100) (hi : i < 2) : fX7_reads_b23 131 (k + 1) 108 (nI i) X = if isDg (lx n x P) = true then fX7_reads_b23 131 k 108 (nI (i + 1)) (zpI (zpI X 108 28 (nI (10 * v + dgv (lx n x P)))) 108 26 (nI (P + 1))) else some (X, 1) := by
  have hX := PV_R hM h
  rw [fX7_reads_b23]
  unfold fX7_reads_b81
  rw [if_neg (show ¬ (2 : Int32) ≤ nI i from fun q => by have := (nI_leI (a := 2) (by omega) (by omega)).mp q; omega), digit_m hM h hP, bd2_s]
  by_cases hd : isDg (lx n x P) = true
  · obtain ⟨d, d9, ed, dd⟩ := dg_y hd
    obtain ⟨l1, l2⟩ := PV_L hM h (dg_in hd)
    have e28 : zI X 108 28 = nI v := hv
    have e26 : ∀ y, zI (zpI X 108 28 y) 108 26 = nI P := fun y => (zpI_ne (by omega)).trans (PV_26 h)
    have l48 : (48 : Int32) = nI 48 := rfl
    have l10 : (10 : Int32) = nI 10 := rfl
    rw [hd, if_neg (show ¬ bI true = 0 from one_ne), mr19 hX, bd1_s, PV_25 hM h, PV_26 h, chk_t l1, l2, e28, lt_e, lt_e, e26, nI_1, nI_1, ed, l10, pk_mul, nI_add, l48, pk_sub (by omega), if_pos rfl, ← ed, dd, show 10 * v + (48 + d) - 48 = 10 * v + d by omega]
  · rw [Bool.eq_false_iff.mpr hd, if_pos (show bI false = 0 by decide), if_neg (by decide)]
def Same4 (X X' : ZMem) : Prop := ∀ k, X'.1 124 k = X.1 124 k
theorem reads_m (hM : MX μ s n x) (h : PV μ σ P X) (hP : P < 800) : (rdN n x P = none ∧ ∃ X', fX7_reads 131 108 X = some (X', 0) ∧ PVf μ P X') ∨ ∃ q X', rdN n x P = some q ∧ fX7_reads 131 108 X = some (X', 1) ∧ PV μ σ q.2 X' ∧ X'.1 108 28 = nI q.1 ∧ Same4 X X' := by
  have h1 : PV μ σ P (zpI X 108 28 0) := PV_o h (by omega)
  unfold fX7_reads rdN
  rw [chk_t m_c, lt_e, digit_m hM h1 (by omega), bd2_s]
  by_cases hd : isDg (lx n x P) = true
  · right
    obtain ⟨d, d9, ed, dd⟩ := dg_y hd
    have s1 : fX7_reads_b23 131 FU 108 0 (zpI X 108 28 0) = if isDg (lx n x P) = true then fX7_reads_b23 131 1999 108 (nI 1) (zpI (zpI (zpI X 108 28 0) 108 28 (nI (10 * 0 + dgv (lx n x P)))) 108 26 (nI (P + 1))) else some (zpI X 108 28 0, 1) := rd23_m (k := 1999) (i := 0) (v := 0) hM h1 (by omega) (zpI_at _ _ _ _) (by omega) (by omega)
    have h2 : PV μ σ (P + 1) (zpI (zpI (zpI X 108 28 0) 108 28 (nI (10 * 0 + dgv (lx n x P)))) 108 26 (nI (P + 1))) := PV_p (PV_o h1 (by omega)) (P + 1)
    have e2 : (zpI (zpI (zpI X 108 28 0) 108 28 (nI (10 * 0 + dgv (lx n x P)))) 108 26 (nI (P + 1))).1 108 28 = nI (10 * 0 + dgv (lx n x P)) := (zpI_ne (by omega)).trans (zpI_at _ _ _ _)
    have s2 := rd23_m (k := 1998) (i := 1) hM h2 (by omega) e2 (by omega) (by omega)
    rw [hd, if_neg (show ¬ bI true = 0 from one_ne), s1, if_pos hd]
    have s2' : fX7_reads_b23 131 1999 108 (nI 1) (zpI (zpI (zpI X 108 28 0) 108 28 (nI (10 * 0 + dgv (lx n x P)))) 108 26 (nI (P + 1))) = _ := s2
    rw [s2']
    have q4 : ∀ (Y : ZMem) (k : Nat) (v : Int32), Same4 Y (zpI Y 108 k v) := fun Y k v j => zpI_ne (by omega)
    by_cases hd2 : isDg (lx n x (P + 1)) = true
    · obtain ⟨g, g9, eg, gg⟩ := dg_y hd2
      rw [if_pos hd2, if_pos rfl, if_pos hd2]
      have s3 : ∀ Y, fX7_reads_b23 131 1998 108 (nI 2) Y = some (Y, 1) := by
        intro Y
        show fX7_reads_b23 131 (1997 + 1) 108 (nI 2) Y = _
        rw [fX7_reads_b23, if_pos (by decide)]
        rfl
      refine ⟨_, _, rfl, s3 _, PV_p (PV_o h2 (by omega)) _, ?_, fun j => ?_⟩
      · refine (zpI_ne (by omega)).trans ((zpI_at _ _ _ _).trans ?_)
        rw [Nat.mul_zero, Nat.zero_add]
      · rw [zpI_ne (by omega), zpI_ne (by omega), zpI_ne (by omega), zpI_ne (by omega), zpI_ne (by omega)]
    · rw [if_neg hd2, if_pos rfl, if_neg hd2]
      refine ⟨_, _, rfl, rfl, h2, ?_, fun j => ?_⟩
      · rw [e2, Nat.mul_zero, Nat.zero_add]
      · rw [zpI_ne (by omega), zpI_ne (by omega), zpI_ne (by omega)]
  · left
    rw [if_neg hd]
    refine ⟨rfl, zpI (zpI X 108 28 0) 108 29 (nI P), ?_, PV_f h1 P⟩
    rw [Bool.eq_false_iff.mpr hd, if_pos (show bI false = 0 by decide), PV_26 h1, wrong_m, bd2_s, chk_t b01_0]
theorem isSo_m {w i v : Nat} (hM : MX μ s n x) (h : PV μ σ P X) (hW : Wf σ) (hw : w < 7) (h4 : w ≠ 4) (hi : i < 4) (hv : X.1 108 28 = nI v) (hv2 : v ≤ 99) : fX7_isSo 131 108 (nI w) (nI i) X = some (X, bI (okN w i σ v)) := by
  have hX := PV_R hM h
  have e28 : zI X 108 28 = nI v := hv
  have e0 : zI X 108 0 = nI (sN σ) := h.2.1.1 0 (by omega)
  have e3 : zI X 108 3 = nI (sD σ) := h.2.1.1 3 (by omega)
  have hN := hW.1
  have hD := hW.2.2.1
  have tf : ∀ b : Bool, some (X, bI b) = some (X, if b = true then (1 : Int32) else 0) := fun b => rfl
  unfold fX7_isSo fX7_isSo_b47 fX7_isSo_b70 fX7_isSo_b87 fX7_isSo_b104 fX7_isSo_b118
  rw [chk_t m_c, e28, chk_t b01_0, chk_t b01_1]
  rcases k7 hw with rfl | rfl | rfl | rfl | rfl | rfl | rfl
  · rw [if_pos (show nI 0 = (0 : Int32) from rfl), mr23 hX, bd1_s, chk_t (i123 hi), PV_M hM h hi]
    have key : ∀ lo : Nat, lo ≤ 1 → (okN 0 i σ v = decide (lo ≤ v ∧ v ≤ mOs i)) → bd2 (fX7_isFrom 131 108 (nI v) (nI lo) (nI (mOs i)) X) (fun μ5 r6 => chk (b01 r6) (some (μ5, r6))) = some (X, bI (okN 0 i σ v)) := by
      intro lo hlo ho
      have hm : ∀ i, i < 4 → mOs i < 100 := by decide
      have := hm i hi
      rw [isF_k (by omega) (by omega) (by omega), bd2_s, ho]
      by_cases c : lo ≤ v ∧ v ≤ mOs i
      · rw [if_pos c, decide_eq_true c, chk_t b01_1]; rfl
      · rw [if_neg c, decide_eq_false c, chk_t b01_0]; rfl
    rcases (show i = 0 ∨ i = 1 ∨ i = 2 ∨ i = 3 by omega) with rfl | rfl | rfl | rfl
    · rw [if_neg (by decide), bd1_s, chk_t (i123 hi), PV_M hM h hi]
      exact key 0 (by omega) (decide_eq_decide.mpr ⟨fun q => ⟨Nat.zero_le _, q⟩, fun q => q.2⟩)
    · rw [if_neg (by decide), bd1_s, chk_t (i123 hi), PV_M hM h hi]
      exact key 0 (by omega) (decide_eq_decide.mpr ⟨fun q => ⟨Nat.zero_le _, q⟩, fun q => q.2⟩)
    · rw [if_pos (show nI 2 = (2 : Int32) from rfl)]
      exact key 1 (by omega) rfl
    · rw [if_neg (by decide), bd1_s, chk_t (i123 hi), PV_M hM h hi]
      exact key 0 (by omega) (decide_eq_decide.mpr ⟨fun q => ⟨Nat.zero_le _, q⟩, fun q => q.2⟩)
  · rw [if_neg (by decide), if_pos (show nI 1 = (1 : Int32) from rfl)]
    show _ = some (X, bI (decide (1 ≤ v)))
    by_cases c : 1 ≤ v
    · rw [if_neg (show ¬ nI v < (1 : Int32) from fun q => by have := (nI_ltI (b := 1) (by omega) (by omega)).mp q; omega), decide_eq_true c]; rfl
    · rw [if_pos (show nI v < (1 : Int32) from (nI_ltI (b := 1) (by omega) (by omega)).mpr (by omega)), decide_eq_false c]; rfl
  · rw [if_neg (by decide), if_neg (by decide), if_pos (show nI 2 = (2 : Int32) from rfl), e3]
    show _ = some (X, bI (decide (sD σ ≤ v)))
    by_cases c : sD σ ≤ v
    · rw [if_neg (fun q => by have := (nI_ltI (by omega) (by omega)).mp q; omega), decide_eq_true c]; rfl
    · rw [if_pos ((nI_ltI (by omega) (by omega)).mpr (by omega)), decide_eq_false c]; rfl
  · rw [if_neg (by decide), if_neg (by decide), if_neg (by decide), if_pos (show nI 3 = (3 : Int32) from rfl), e0]
    show _ = some (X, bI (decide (v < sN σ)))
    by_cases c : v < sN σ
    · rw [if_neg (fun q => by have := (nI_leI (by omega) (by omega)).mp q; omega), decide_eq_true c]; rfl
    · rw [if_pos ((nI_leI (by omega) (by omega)).mpr (by omega)), decide_eq_false c]; rfl
  · exact absurd rfl h4
  · rw [if_neg (by decide), if_neg (by decide), if_neg (by decide), if_neg (by decide)]
    show _ = some (X, bI (decide (v ≤ 4)))
    by_cases c : v ≤ 4
    · rw [if_neg (show ¬ (4 : Int32) < nI v from fun q => by have := (nI_ltI (a := 4) (by omega) (by omega)).mp q; omega), decide_eq_true c]; rfl
    · rw [if_pos (show (4 : Int32) < nI v from (nI_ltI (a := 4) (by omega) (by omega)).mpr (by omega)), decide_eq_false c]; rfl
  · rw [if_neg (by decide), if_neg (by decide), if_neg (by decide), if_neg (by decide)]
    show _ = some (X, bI (decide (v ≤ 4)))
    by_cases c : v ≤ 4
    · rw [if_neg (show ¬ (4 : Int32) < nI v from fun q => by have := (nI_ltI (a := 4) (by omega) (by omega)).mp q; omega), decide_eq_true c]; rfl
    · rw [if_pos (show (4 : Int32) < nI v from (nI_ltI (a := 4) (by omega) (by omega)).mpr (by omega)), decide_eq_false c]; rfl
/-- a number, its blank being read -/
theorem b104_m {g : Nat → Int32 → Int32 → ZMem → Option (ZMem × Int32)} {w i Q : Nat} (hM : MX μ s n x) (h : PV μ σ (Q + 1) X) (hQ : Q < 700) (hb : lx n x Q = 32) (hW : Wf σ) (hw : w < 7) (h4 : w ≠ 4) (hi : i < 4) : (∃ f X', oneN n x w i σ Q = .inl f ∧ fX7_item_b104 g 131 108 (nI w) (nI i) X = some (X', 0) ∧ PVf μ f X') ∨ ∃ q X', oneN n x w i σ Q = .inr q ∧ fX7_item_b104 g 131 108 (nI w) (nI i) X = g 108 (nI w) (nI (i + 1)) X' ∧ PV μ σ q.2 X' ∧ X'.1 124 i = nI q.1 ∧ ∀ j, j ≠ i → X'.1 124 j = X.1 124 j := by
  unfold oneN fX7_item_b104
  rw [if_pos hb, PV_26 h]
  rcases reads_m hM h (by omega) with ⟨e, X1, r1, r2⟩ | ⟨q, X1, e, r1, r2, r3, r4⟩
  · left
    rw [e, r1, bd2_s, if_pos rfl]
    exact ⟨_, X1, rfl, rfl, r2⟩
  · have hs := rdN_s (v := q.1) (P := q.2) e
    rw [e, r1, bd2_s, if_neg one_ne, isSo_m hM r2 hW hw h4 hi r3 hs.1, bd2_s]
    dsimp only
    by_cases c : okN w i σ q.1 = true
    · right
      have e28 : zI X1 108 28 = nI q.1 := r3
      rw [c, if_neg (show ¬ bI true = 0 from one_ne), if_pos rfl, mr24 (PV_R hM r2), bd1_s, chk_t (i124 hi), lt_e, nI_clamp (by omega), e28, nI_1]
      refine ⟨q, _, rfl, rfl, PV_o r2 (by omega), zpI_at _ _ _ _, fun j hj => ?_⟩
      rw [zpI_ne (by omega)]
      exact r4 j
    · left
      rw [if_neg c, Bool.eq_false_iff.mpr c, if_pos (show bI false = 0 by decide), wrong_m, bd2_s, chk_t b01_0]
      exact ⟨_, _, rfl, rfl, PV_f r2 _⟩
theorem bad_m (hM : MX μ s n x) (h : PV μ σ P X) : fX7_item_b85 131 108 X = some (zpI X 108 29 (nI P), 0) := by
  unfold fX7_item_b85
  rw [PV_26 h, wrong_m, bd2_s, chk_t b01_0]
/-- the number i behind the first -/
theorem numI_m {w i k : Nat} (hM : MX μ s n x) (h : PV μ σ P X) (hP : P < 700) (hW : Wf σ) (hw : w < 7) (h4 : w ≠ 4) (hi : i < nWd w) (hi1 : 1 ≤ i) : (∃ f X', oneN n x w i σ P = .inl f ∧ fX7_item_b40 131 (k + 1) 108 (nI w) (nI i) X = some (X', 0) ∧ PVf μ f X') ∨ ∃ q X', oneN n x w i σ P = .inr q ∧ fX7_item_b40 131 (k + 1) 108 (nI w) (nI i) X = fX7_item_b40 131 k 108 (nI w) (nI (i + 1)) X' ∧ PV μ σ q.2 X' ∧ X'.1 124 i = nI q.1 ∧ ∀ j, j ≠ i → X'.1 124 j = X.1 124 j := by
  have hX := PV_R hM h
  have hn := hM.2.2.1
  have hn4 := (wd_f w hw).2.2.2.2.2
  rw [fX7_item_b40, mr22 hX, bd1_s, chk_t (i122 hw), PV_N hM h hw, if_neg (fun q => by have := (nI_leI (by omega) (by omega)).mp q; omega), if_neg (show ¬ nI i ≤ 0 from fun q => by have := (nI_leI (b := 0) (by omega) (by omega)).mp q; omega), PV_27 hM h, PV_26 h, PV_25 hM h, bad_m hM h]
  by_cases hPn : P < n
  · obtain ⟨l1, l2⟩ := PV_L hM h hPn
    rw [if_neg (fun q => by have := (nI_leI (by omega) (by omega)).mp q; omega), mr19 hX, bd1_s, chk_t l1, l2, lt_e, nI_1]
    by_cases hb : lx n x P = 32
    · rw [if_pos hb]
      rcases b104_m (g := fX7_item_b40 131 k) (Q := P) (X := zpI X 108 26 (nI (P + 1))) (i := i) hM (PV_p h (P + 1)) hP hb hW hw h4 (by omega) with ⟨f, X', a1, a2, a3⟩ | ⟨q, X', a1, a2, a3, a4, a5⟩
      · exact Or.inl ⟨f, X', a1, a2, a3⟩
      · exact Or.inr ⟨q, X', a1, a2, a3, a4, fun j hj => (a5 j hj).trans (zpI_ne (by omega))⟩
    · left
      rw [if_neg hb]
      refine ⟨P, _, ?_, rfl, PV_f h P⟩
      unfold oneN
      rw [if_neg hb]
  · left
    rw [if_pos ((nI_leI (by omega) (by omega)).mpr (by omega))]
    refine ⟨P, _, ?_, rfl, PV_f h P⟩
    unfold oneN
    rw [if_neg (fun q => hPn (lx_in (by rw [q]; decide)))]
/-- the first number: its blank is the word's -/
theorem num0_m {w k Q : Nat} (hM : MX μ s n x) (h : PV μ σ (Q + 1) X) (hQ : Q < 700) (hb : lx n x Q = 32) (hW : Wf σ) (hw : w < 7) (h4 : w ≠ 4) : (∃ f X', oneN n x w 0 σ Q = .inl f ∧ fX7_item_b40 131 (k + 1) 108 (nI w) 0 X = some (X', 0) ∧ PVf μ f X') ∨ ∃ q X', oneN n x w 0 σ Q = .inr q ∧ fX7_item_b40 131 (k + 1) 108 (nI w) 0 X = fX7_item_b40 131 k 108 (nI w) (nI 1) X' ∧ PV μ σ q.2 X' ∧ X'.1 124 0 = nI q.1 := by
  have hX := PV_R hM h
  have hz : ∀ w, w < 7 → w ≠ 4 → 1 ≤ nWd w ∧ nWd w ≤ 4 := by decide
  have hn1 := hz w hw h4
  rw [fX7_item_b40, mr22 hX, bd1_s, chk_t (i122 hw), PV_N hM h hw, if_neg (show ¬ nI (nWd w) ≤ 0 from fun q => by have := (nI_leI (b := 0) (by omega) (by omega)).mp q; omega), if_pos (show (0 : Int32) ≤ 0 by decide)]
  rcases b104_m (g := fX7_item_b40 131 k) (Q := Q) (i := 0) hM h hQ hb hW hw h4 (by omega) with ⟨f, X', a1, a2, a3⟩ | ⟨q, X', a1, a2, a3, a4, a5⟩
  · exact Or.inl ⟨f, X', a1, a2, a3⟩
  · exact Or.inr ⟨q, X', a1, a2, a3, a4⟩
theorem PV_s {τ : Sg} {k : Nat} {v : Int32} (h : PV μ σ P X) (hk : k < 8) (e : zpI (ovm X σ) 108 k v = ovm X τ) : PV μ τ P (zpI X 108 k v) := by
  refine ⟨FrV_p h.1 (by omega), ?_, (zpI_ne (by omega)).trans h.2.2⟩
  rw [MH_e h.2.1] at e
  rw [e]
  exact MH_o X τ
theorem orM : ∀ r, r < 32 → ∀ v, v < 5 → nI r ||| ((1 : Int32) <<< (nI v &&& 31)) = nI (r ||| 2 ^ v) := by decide +kernel
theorem anM : ∀ r, r < 32 → ∀ v, v < 5 → nI r &&& ((31 : Int32) - ((1 : Int32) <<< (nI v &&& 31))) = nI (r &&& (31 - 2 ^ v)) := by decide +kernel
theorem tell_m {w v k : Nat} (hM : MX μ s n x) (h : PV μ σ P X) (hW : Wf σ) (hw : w < 7) (h0 : w ≠ 0) (h4 : w ≠ 4) (ho : okN w 0 σ v = true) (hv : X.1 124 0 = nI v) : ∃ X', fX7_item_b40 131 (k + 1) 108 (nI w) (nI 1) X = some (X', 1) ∧ PV μ (tell w v σ) P X' := by
  have hX := PV_R hM h
  have hr := hW.2.2.2.2.1
  have e6 : zI X 108 6 = nI (sR σ) := h.2.1.1 6 (by omega)
  have e124 : zI X 124 (0 : Int32).toNatClampNeg = nI v := hv
  have hz : ∀ w, w < 7 → w ≠ 0 → w ≠ 4 → nWd w = 1 := by decide
  have hn1 := hz w hw h0 h4
  have i0 : inb (0 : Int32) 124 = true := i124 (i := 0) (by omega)
  rw [fX7_item_b40]
  unfold fX7_item_b307
  rw [mr22 hX, bd1_s, chk_t (i122 hw), PV_N hM h hw, hn1, if_pos (show nI 1 ≤ nI 1 by decide)]
  rcases k7 hw with rfl | rfl | rfl | rfl | rfl | rfl | rfl
  · exact absurd rfl h0
  · rw [if_neg (by decide), if_pos (show nI 1 = (1 : Int32) from rfl), mr24 hX, bd1_s, chk_t i0, e124, lt_e]
    exact ⟨_, rfl, PV_s h (by omega) (ovm_u1 X σ v)⟩
  · rw [if_neg (by decide), if_neg (by decide), if_pos (show nI 2 = (2 : Int32) from rfl), mr24 hX, bd1_s, chk_t i0, e124, lt_e]
    exact ⟨_, rfl, PV_s h (by omega) (ovm_u2 X σ v)⟩
  · rw [if_neg (by decide), if_neg (by decide), if_neg (by decide), if_pos (show nI 3 = (3 : Int32) from rfl), mr24 hX, bd1_s, chk_t i0, e124, lt_e]
    exact ⟨_, rfl, PV_s h (by omega) (ovm_u4 X σ (some v))⟩
  · exact absurd rfl h4
  · have hv4 : v ≤ 4 := of_decide_eq_true ho
    rw [if_neg (by decide), if_neg (by decide), if_neg (by decide), if_neg (by decide), if_neg (by decide), if_pos (show nI 5 = (5 : Int32) from rfl), mr24 hX, bd1_s, chk_t i0, e124, e6, orM _ (by omega) _ (by omega), lt_e]
    exact ⟨_, rfl, PV_s h (by omega) (ovm_u6 X σ _)⟩
  · have hv4 : v ≤ 4 := of_decide_eq_true ho
    rw [if_neg (by decide), if_neg (by decide), if_neg (by decide), if_neg (by decide), if_neg (by decide), if_neg (by decide), mr24 hX, bd1_s, chk_t i0, e124, e6, anM _ (by omega) _ (by omega), lt_e]
    exact ⟨_, rfl, PV_s h (by omega) (ovm_u6 X σ _)⟩
def IMR (μ : ZMem) (r : Nat ⊕ (Sg × Nat)) (out : Option (ZMem × Int32)) : Prop := (∃ f X', r = .inl f ∧ out = some (X', 0) ∧ PVf μ f X') ∨ ∃ q X', r = .inr q ∧ out = some (X', 1) ∧ PV μ q.1 q.2 X'
theorem pers_m {k Q : Nat} (hM : MX μ s n x) (h : PV μ σ (Q + 1) X) (hQ : Q ≤ n) (hb : lx n x Q = 32) (hW : Wf σ) (hN : sN σ < 7) : IMR μ (pers n x σ Q) (fX7_item_b40 131 (k + 5) 108 (nI 0) 0 X) := by
  have hn := hM.2.2.1
  unfold pers
  rcases num0_m (w := 0) (k := k + 4) hM h (by omega) hb hW (by omega) (by omega) with ⟨f, X', a1, a2, a3⟩ | ⟨a, X1, a1, a2, a3, a4⟩
  · rw [a1]
    exact Or.inl ⟨f, X', rfl, a2, a3⟩
  · have sa := oneN_s a1
    rw [a1, a2]
    dsimp only
    rcases numI_m (w := 0) (i := 1) (k := k + 3) hM a3 (by omega) hW (by omega) (by omega) (by decide) (by omega) with ⟨f, X', b1, b2, b3⟩ | ⟨b, X2, b1, b2, b3, b4, b5⟩
    · rw [b1]
      exact Or.inl ⟨f, X', rfl, b2, b3⟩
    · have sb := oneN_s b1
      rw [b1, b2]
      dsimp only
      rcases numI_m (w := 0) (i := 2) (k := k + 2) hM b3 (by omega) hW (by omega) (by omega) (by decide) (by omega) with ⟨f, X', c1, c2, c3⟩ | ⟨c, X3, c1, c2, c3, c4, c5⟩
      · rw [c1]
        exact Or.inl ⟨f, X', rfl, c2, c3⟩
      · have sc := oneN_s c1
        rw [c1, c2]
        dsimp only
        rcases numI_m (w := 0) (i := 3) (k := k + 1) hM c3 (by omega) hW (by omega) (by omega) (by decide) (by omega) with ⟨f, X', d1, d2, d3⟩ | ⟨d, X4, d1, d2, d3, d4, d5⟩
        · rw [d1]
          exact Or.inl ⟨f, X', rfl, d2, d3⟩
        · have hX := PV_R hM d3
          have t0 : zI X4 124 (0 : Int32).toNatClampNeg = nI a.1 := (d5 0 (by omega)).trans ((c5 0 (by omega)).trans ((b5 0 (by omega)).trans a4))
          have t1 : zI X4 124 (1 : Int32).toNatClampNeg = nI b.1 := (d5 1 (by omega)).trans ((c5 1 (by omega)).trans b4)
          have t2 : zI X4 124 (2 : Int32).toNatClampNeg = nI c.1 := (d5 2 (by omega)).trans c4
          have t3 : zI X4 124 (3 : Int32).toNatClampNeg = nI d.1 := d4
          have ad := adds_m (μ := X4) (σ := σ) (k := a.1) (a := b.1) (s := c.1) (p := d.1) hX hN
          rw [MH_e d3.2.1] at ad
          rw [d1, d2, fX7_item_b40]
          unfold fX7_item_b307
          dsimp only
          rw [mr22 hX, bd1_s, chk_t (i122 (by omega)), PV_N hM d3 (by omega), if_pos (show nI (nWd 0) ≤ nI (3 + 1) by decide), if_pos (show nI 0 = (0 : Int32) from rfl), mr24 hX, bd1_s, chk_t (show inb (0 : Int32) 124 = true by decide), bd1_s, chk_t (show inb (1 : Int32) 124 = true by decide), bd1_s, chk_t (show inb (2 : Int32) 124 = true by decide), bd1_s, chk_t (show inb (3 : Int32) 124 = true by decide), t0, t1, t2, t3, ad, bd2_s]
          refine Or.inr ⟨_, _, rfl, rfl, ⟨⟨d3.1.1, fun a' k' q1 q2 q3 => ?_⟩, MH_o _ _, ?_⟩⟩
          · exact (ovm_o _ _ (by omega)).trans (d3.1.2 a' k' q1 q2 q3)
          · exact (ovm_o _ _ (by omega)).trans d3.2.2
theorem item_m (hM : MX μ s n x) (h : PV μ σ P X) (hP : P ≤ n) (hW : Wf σ) : IMR μ (itm n x σ P) (fX7_item 131 108 X) := by
  have hX := PV_R hM h
  have hn := hM.2.2.1
  have hN := hW.1
  have hin := wsp_in (n := n) (P := P) (x := x) hP
  have e0 : zI X 108 0 = nI (sN σ) := h.2.1.1 0 (by omega)
  have hstw : ∀ m w, wsp (fun j => lx n x (P + j)) = (m, some w) → w = 0 → pmW 0 (fun j => lx n x (P + j)) 6 0 = 6 := by
    intro m w e hw0
    subst hw0
    obtain ⟨_, hz, hg⟩ := wsp_w e
    have : (gW (fun j => lx n x (P + j)) 0).1 = m := by rw [hg]
    have e2 : pmW 0 (fun j => lx n x (P + j)) (zWd 0) 0 = m := this
    rw [hz] at e2
    exact e2
  have b26 : sN σ ≠ 7 ∨ (∀ m w, wsp (fun j => lx n x (P + j)) = (m, some w) → w ≠ 0) → IMR μ (itm n x σ P) (fX7_item_b26 131 108 X) := by
    intro hc
    unfold fX7_item_b26 itm itmW
    rw [word_m hM h (by omega), mwd_e]
    cases e : wsp (fun j => lx n x (P + j)) with
    | mk m o =>
      rw [e] at hin
      have hin2 : P + m ≤ n := hin
      cases o with
      | none =>
        show IMR μ (.inl (P + m)) (bd2 (some (zpI X 108 29 (nI (P + m)), -1)) _)
        rw [bd2_s, if_pos rfl]
        exact Or.inl ⟨_, _, rfl, rfl, PV_f h _⟩
      | some w =>
        obtain ⟨hw, hz, _⟩ := wsp_w e
        show IMR μ (if w = 0 then (if sN σ = 7 then (.inl P : Nat ⊕ (Sg × Nat)) else pers n x σ (P + m)) else if w = 4 then .inr (wB σ none, P + m) else tell1 n x w σ (P + m)) (bd2 (finM X P (if w = 4 then (some w, m) else if lx n x (P + m) = 32 then (some w, m + 1) else (none, m))) _)
        by_cases h4 : w = 4
        · subst h4
          rw [if_neg (by omega), if_pos rfl, if_pos rfl]
          show IMR μ _ (bd2 (some (zpI X 108 26 (nI (P + m)), nI 4)) _)
          have h1 := PV_p h (P + m)
          have hX1 := PV_R hM h1
          rw [bd2_s, if_neg (show ¬ nI 4 = (-1 : Int32) by decide)]
          have eb : fX7_item_b40 131 FU 108 (nI 4) 0 (zpI X 108 26 (nI (P + m))) = some (zpI (zpI X 108 26 (nI (P + m))) 108 4 (-1), 1) := by
            show fX7_item_b40 131 (1999 + 1) 108 (nI 4) 0 (zpI X 108 26 (nI (P + m))) = _
            rw [fX7_item_b40]
            unfold fX7_item_b307
            rw [mr22 hX1, bd1_s, chk_t (i122 (by omega)), PV_N hM h1 (by omega), if_pos (show nI (nWd 4) ≤ 0 by decide), if_neg (by decide), if_neg (by decide), if_neg (by decide), if_neg (by decide), if_pos (show nI 4 = (4 : Int32) from rfl), lt_e]
          rw [eb]
          exact Or.inr ⟨_, _, rfl, rfl, PV_s h1 (by omega) (ovm_u4 _ σ none)⟩
        · rw [if_neg h4, if_neg h4]
          by_cases hb : lx n x (P + m) = 32
          · rw [if_pos hb]
            show IMR μ _ (bd2 (some (zpI X 108 26 (nI (P + m + 1)), nI w)) _)
            have h1 := PV_p h (P + m + 1)
            rw [bd2_s, if_neg (nI_m1 (by omega))]
            by_cases h0 : w = 0
            · have h7 : sN σ ≠ 7 := by
                rcases hc with q | q
                · exact q
                · exact absurd h0 (q m w e)
              rw [if_pos h0, if_neg h7, h0]
              exact pers_m (k := 1995) hM h1 hin2 hb hW (by omega)
            · rw [if_neg h0]
              unfold tell1
              rcases num0_m (w := w) (k := 1999) hM h1 (by omega) hb hW hw h4 with ⟨f, X', a1, a2, a3⟩ | ⟨a, X1, a1, a2, a3, a4⟩
              · rw [a1]
                exact Or.inl ⟨f, X', rfl, a2, a3⟩
              · have sa := oneN_s a1
                obtain ⟨X2, t1, t2⟩ := tell_m (w := w) (k := 1998) hM a3 hW hw h0 h4 sa.1 a4
                rw [a1]
                exact Or.inr ⟨_, X2, rfl, Eq.trans a2 t1, t2⟩
          · rw [if_neg hb]
            show IMR μ _ (bd2 (some (zpI X 108 29 (nI (P + m)), -1)) _)
            rw [bd2_s, if_pos rfl]
            refine Or.inl ⟨P + m, _, ?_, rfl, PV_f h _⟩
            have eo : ∀ w i, oneN n x w i σ (P + m) = .inl (P + m) := by
              intro w i
              unfold oneN
              rw [if_neg hb]
            by_cases h0 : w = 0
            · have h7 : sN σ ≠ 7 := by
                rcases hc with q | q
                · exact q
                · exact absurd h0 (q m w e)
              rw [if_pos h0, if_neg h7]
              unfold pers
              rw [eo]
            · rw [if_neg h0]
              unfold tell1
              rw [eo]
  unfold fX7_item
  rw [chk_t m_c, stands_m hM h (by omega), bd2_s]
  by_cases hst : pmW 0 (fun j => lx n x (P + j)) 6 0 = 6
  · rw [decide_eq_true hst, if_neg (show ¬ bI true = 0 from one_ne), e0]
    by_cases h7 : sN σ = 7
    · rw [if_pos (show nI (sN σ) = (7 : Int32) from (nI_eq (b := 7) (by omega) (by omega)).mpr h7), PV_26 h, wrong_m, bd2_s, chk_t b01_0]
      have l0 : lx n x (P + 0) = 112 := by
        have e : pmW 0 (fun j => lx n x (P + j)) 6 0 = if lx n x (P + 0) = 112 then pmW 0 (fun j => lx n x (P + j)) 5 1 else 0 := rfl
        by_cases c : lx n x (P + 0) = 112
        · exact c
        · rw [e, if_neg c] at hst
          omega
      have ew : wsp (fun j => lx n x (P + j)) = (6, some 0) := by
        unfold wsp
        rw [if_pos l0]
        unfold gW
        rw [show zWd 0 = 6 from rfl, hst, if_pos rfl]
      refine Or.inl ⟨P, _, ?_, rfl, PV_f h P⟩
      unfold itm itmW
      rw [ew]
      show (if 0 = 0 then (if sN σ = 7 then (.inl P : Nat ⊕ (Sg × Nat)) else pers n x σ (P + 6)) else _) = _
      rw [if_pos rfl, if_pos h7]
    · rw [if_neg (show ¬ nI (sN σ) = (7 : Int32) from fun q => h7 ((nI_eq (b := 7) (by omega) (by omega)).mp q))]
      exact b26 (Or.inl h7)
  · rw [decide_eq_false hst, if_pos (show bI false = 0 by decide)]
    exact b26 (Or.inr (fun m w e h0 => hst (hstw m w e h0)))
end
