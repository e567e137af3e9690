-- ROW, SHOW, PERSON
def zz (X : ZMem) (a b m : Nat) : ZMem := (X.1, fun c j => if c = a ∧ b ≤ j ∧ j < b + m then 0 else X.2.1 c j, X.2.2)
theorem zz_s (X : ZMem) (a b m : Nat) : zpL (zz X a b m) a (b + m) 0 = zz X a b (m + 1) := by
  refine Prod.ext rfl (Prod.ext ?_ rfl)
  funext c j
  simp only [zpL, zz]
  repeat' split
  all_goals first | rfl | omega
theorem zz_0 (X : ZMem) (a b : Nat) : zz X a b 0 = X := by
  refine Prod.ext rfl (Prod.ext ?_ rfl)
  funext c j
  simp only [zz]
  rw [if_neg (by omega)]
theorem HR_zz {X : ZMem} {a b m : Nat} (h : HR X) : HR (zz X a b m) := HR_of h rfl
theorem HR_p {X : ZMem} {a k : Nat} {x : Int32} (h : HR X) : HR (zpI X a k x) := HR_of h rfl
theorem HR_pL {X : ZMem} {a k : Nat} {x : Int64} (h : HR X) : HR (zpL X a k x) := HR_of h rfl
theorem holdRow_c {μ : ZMem} (hR : HR μ) {s o n : Nat} (hs : s < 8) (hn : n ≤ 160) : fX3_holdRow 131 (2 + 2 * s) (nI o) (nI n) μ = some (zz (zpI (zpI (zpI (zpI μ (2 + 2 * s) 0 1) (2 + 2 * s) 1 (nI o)) (2 + 2 * s) 2 (nI n)) (2 + 2 * s) 3 (-1)) (3 + 2 * s) 0 n) := by
  have cl : (if (0 : Int32) < (if nI n < (160 : Int32) then nI n else (160 : Int32)) then (if nI n < (160 : Int32) then nI n else (160 : Int32)) else (0 : Int32)) = nI n := by
    have e1 : (if nI n < (160 : Int32) then nI n else (160 : Int32)) = nI n := by
      by_cases h : n < 160
      · rw [if_pos (show nI n < (160 : Int32) from (nI_ltI (b := 160) (by omega) (by omega)).mpr h)]
      · rw [if_neg (show ¬ nI n < (160 : Int32) from fun q => h ((nI_ltI (b := 160) (by omega) (by omega)).mp q)), show n = 160 by omega]; rfl
    rw [e1]
    by_cases h : 0 < n
    · rw [if_pos (show (0 : Int32) < nI n from (nI_ltI (a := 0) (by omega) (by omega)).mpr h)]
    · rw [show n = 0 by omega]; rfl
  have loop : ∀ X : ZMem, HR X → X.1 (2 + 2 * s) 2 = nI n → ∀ j i, i ≤ n → n < j + i → fX3_holdRow_b32 131 j (2 + 2 * s) (nI i) (zz X (3 + 2 * s) 0 i) = some (zz X (3 + 2 * s) 0 n) := by
    intro X hX e2 j
    induction j with
    | zero => intro i _ h; omega
    | succ j ih =>
      intro i hi hj
      rw [fX3_holdRow_b32, show zI (zz X (3 + 2 * s) 0 i) (2 + 2 * s) 2 = nI n from e2]
      by_cases h0 : i = n
      · rw [if_pos ((nI_leI (by omega) (by omega)).mpr (by omega)), h0]
      · have hk := zz_s X (3 + 2 * s) 0 i
        rw [Nat.zero_add] at hk
        rw [if_neg (fun q => by have := (nI_leI (by omega) (by omega)).mp q; omega), she (HR_zz hX) hs, bd1_s, chk_t (inE hs (by omega)), nI_clamp (by omega), lt_e, hk, nI_1]
        exact ih (i + 1) (by omega) (by omega)
  unfold fX3_holdRow
  rw [chk_t (shc hs), lt_e, lt_e, lt_e, lt_e, cl]
  have := loop (zpI (zpI (zpI (zpI μ (2 + 2 * s) 0 1) (2 + 2 * s) 1 (nI o)) (2 + 2 * s) 2 (nI n)) (2 + 2 * s) 3 (-1)) (HR_of hR rfl) ((zpI_ne (by omega)).trans (zpI_at _ _ _ _)) FU 0 (by omega) (by show n < 2000 + 0; omega)
  rw [zz_0] at this
  exact this
theorem row_m {μ : ZMem} (hR : HR μ) {s : Nat} (hs : s < 8) : ∀ j i, i ≤ 160 → 160 < j + i → fX7_row_b79 131 j 108 (nI s) (nI i) (zz μ 119 (160 * s) i) = some (zz μ 119 (160 * s) 160, 1) := by
  intro j
  induction j with
  | zero => intro i _ h; omega
  | succ j ih =>
    intro i hi hj
    rw [fX7_row_b79]
    by_cases h0 : i = 160
    · rw [if_pos (show (160 : Int32) ≤ nI i from (nI_leI (a := 160) (by omega) (by omega)).mpr (by omega)), h0]
    · rw [if_neg (show ¬ (160 : Int32) ≤ nI i from fun q => by have := (nI_leI (a := 160) (by omega) (by omega)).mp q; omega), mr19 (HR_zz hR), bd1_s, chk_t (i19 hs (by omega)), x19 hs (by omega), lt_e, zz_s, nI_1]
      exact ih (i + 1) (by omega) (by omega)
theorem Kp_row {S : St} (hw : WfS S) (v o n : Int32) : Kp S (fX6_row 131 0 v o n) (fX7_row 131 108 v o n) := by
  rcases shelf_or v with hv | ⟨s, hs, rfl⟩
  · refine Kp_no 1 (by omega) (by omega) hw (fun μ hR h => ?_) (fun μ hR h => ?_)
    · unfold fX6_row
      rw [chk_t c_c, isShelf_z hv, bd2_s, if_pos rfl, bd2_e]; rfl
    · unfold fX7_row
      rw [chk_t m_c, mShelf_z hv, bd2_s, if_pos rfl, bd2_e]; rfl
  · by_cases hn : 0 ≤ n
    rotate_left
    · refine Kp_no 4 (by omega) (by omega) hw (fun μ hR h => ?_) (fun μ hR h => ?_)
      · unfold fX6_row
        rw [chk_t c_c, isShelf_i hs, bd2_s, if_neg one_ne, if_neg hn, bd2_e]; rfl
      · unfold fX7_row
        rw [chk_t m_c, mShelf_i hs, bd2_s, if_neg one_ne, if_neg hn, bd2_e]; rfl
    · by_cases ho : (0 : Int32) ≤ o ∧ o ≤ 3
      rotate_left
      · refine Kp_no 6 (by omega) (by omega) hw (fun μ hR h => ?_) (fun μ hR h => ?_)
        · unfold fX6_row fX6_row_b33
          rw [chk_t c_c, isShelf_i hs, bd2_s, if_neg one_ne, if_pos hn, bd2_e, bd2_e, lh_n ho]; rfl
        · unfold fX7_row fX7_row_b34
          rw [chk_t m_c, mShelf_i hs, bd2_s, if_neg one_ne, if_pos hn, bd2_e, bd2_e, lh_n ho]; rfl
      · by_cases hm : n ≤ 160
        rotate_left
        · refine Kp_no 7 (by omega) (by omega) hw (fun μ hR h => ?_) (fun μ hR h => ?_)
          · unfold fX6_row fX6_row_b33
            rw [chk_t c_c, isShelf_i hs, bd2_s, if_neg one_ne, if_pos hn, lh_y ho, if_neg hm, bd2_e]; rfl
          · unfold fX7_row fX7_row_b34
            rw [chk_t m_c, mShelf_i hs, bd2_s, if_neg one_ne, if_pos hn, lh_y ho, if_neg hm, bd2_e]; rfl
        · obtain ⟨a, a0, a3, rfl⟩ := in_nat (lo := 0) (hi := 3) (by omega) (by omega) ho
          obtain ⟨m, m0, m160, rfl⟩ := in_nat (lo := 0) (hi := 160) (by omega) (by omega) ⟨hn, hm⟩
          refine ⟨(1, uS S s (1, a, m, 0, fun _ => 0)), WfS_S hw ⟨by show 1 ≤ 2; omega, fun _ => ⟨a3, m160⟩, fun q => by cases q⟩, fun μ hR h => ?_, fun μ hR h => ?_⟩
          · refine ⟨zz (zpI (zpI (zpI (zpI μ (2 + 2 * s) 0 1) (2 + 2 * s) 1 (nI a)) (2 + 2 * s) 2 (nI m)) (2 + 2 * s) 3 (-1)) (3 + 2 * s) 0 m, ?_, HR_of hR rfl, InvC_S hw hs h (fun b k q1 q2 => ?_) (fun b k q1 q2 => ?_) ?_, fun b k q => ⟨?_, ?_⟩⟩
            · unfold fX6_row
              rw [chk_t c_c, isShelf_i hs, bd2_s, if_neg one_ne, if_pos hn, lh_y ho, if_pos hm, cr0 hR, bd1_s, chk_t (shi hs), shr hR hs, bd1_s, holdRow_c hR hs m160, bd1_s]
            · exact (((zpI_ne (by omega)).trans (zpI_ne (by omega))).trans (zpI_ne (by omega))).trans (zpI_ne (by omega))
            · exact if_neg (by omega)
            · refine ⟨((zpI_ne (by omega)).trans (zpI_ne (by omega))).trans ((zpI_ne (by omega)).trans (zpI_at _ _ _ _)), fun _ => ⟨(zpI_ne (by omega)).trans ((zpI_ne (by omega)).trans (zpI_at _ _ _ _)), (zpI_ne (by omega)).trans (zpI_at _ _ _ _), fun i hi => ?_⟩, fun q => by cases q⟩
              exact if_pos ⟨rfl, by omega, by show i < 0 + m; have : i < m := hi; omega⟩
            · exact (((zpI_ne (by omega)).trans (zpI_ne (by omega))).trans (zpI_ne (by omega))).trans (zpI_ne (by omega))
            · exact if_neg (by omega)
          · refine ⟨zz (zpI (zpI (zpI μ 115 s 1) 116 s (nI a)) 117 s (nI m)) 119 (160 * s) 160, ?_, HR_of hR rfl, InvM_S hw h (fun b k q1 => ?_) (fun k q => ?_) ?_, fun b k q => ⟨?_, ?_⟩⟩
            · have k1 := row_m (μ := zpI (zpI (zpI μ 115 s 1) 116 s (nI a)) 117 s (nI m)) (HR_of hR rfl) hs FU 0 (by omega) (by show 160 < 2000 + 0; omega)
              rw [zz_0] at k1
              unfold fX7_row
              rw [chk_t m_c, mShelf_i hs, bd2_s, if_neg one_ne, if_pos hn, lh_y ho, if_pos hm, mr15 hR, bd1_s, chk_t (i15 hs), lt_e, mr16 (HR_p hR), bd1_s, chk_t (i16 hs), lt_e, mr17 (HR_p (HR_p hR)), bd1_s, chk_t (i17 hs), lt_e, nI_clamp (by omega)]
              exact k1
            · exact ((zpI_ne (by omega)).trans (zpI_ne (by omega))).trans (zpI_ne (by omega))
            · exact if_neg (by omega)
            · have x1 : (zpI (zpI (zpI μ 115 s 1) 116 s (nI a)) 117 s (nI m)).1 115 s = 1 := by rw [zpI_ne (by omega), zpI_ne (by omega), zpI_at]
              have x2 : (zpI (zpI (zpI μ 115 s 1) 116 s (nI a)) 117 s (nI m)).1 116 s = nI a := by rw [zpI_ne (by omega), zpI_at]
              refine ⟨x1, fun _ => ⟨x2, zpI_at _ _ _ _, fun i hi => ?_⟩, fun q => by cases q⟩
              have hi2 : i < m := hi
              exact if_pos ⟨rfl, by omega, by omega⟩
            · exact ((zpI_ne (by omega)).trans (zpI_ne (by omega))).trans (zpI_ne (by omega))
            · exact if_neg (by omega)
