-- VOW
abbrev pF (S : St) (f : Int32) : St := (S.1, S.2.1, f, S.2.2.2)
theorem InvC_F {μ M : ZMem} {S : St} {f : Int32} (hw : WfS S) (h : InvC μ S) (e : ∀ a k, a < 36 ∨ (105 ≤ a ∧ a < 108) → ¬ (a = 0 ∧ k = 9) → M.1 a k = μ.1 a k) (ef : M.1 0 9 = f) (e2 : M.2 = μ.2) : InvC M (pF S f) := by
  obtain ⟨h1, h2, h3, h4, h5, h6, h7, h8⟩ := h
  have el : ∀ a k, M.2.1 a k = μ.2.1 a k := fun a k => by rw [e2]
  refine ⟨VH_f h1 hw.1.1 (fun a k q1 q2 => e _ _ (by omega) (by omega)), ?_, fun τ q => VH_f (h3 τ q) (hw.2.1 τ q).1 (fun a k q1 q2 => e _ _ (by omega) (by omega)), ef, fun k q => ?_, fun s q => SHC_f (h6 s q) (fun k => e _ _ (by omega) (by omega)) (fun k => el _ _), ?_, fun i q1 q2 => ?_⟩
  · rw [e _ _ (by omega) (by omega)]; exact h2
  · rw [e _ _ (by omega) (by omega)]; exact h5 k q
  · rw [e _ _ (by omega) (by omega)]; exact h7
  · rw [e _ _ (by omega) (by omega)]; exact h8 i q1 q2
theorem InvM_F {μ M : ZMem} {S : St} {τ : Sg} {f : Int32} (hw : WfS S) (h : InvM μ S) (hm : MH M τ) (e : ∀ a k, (a = 108 ∧ (k = 33 ∨ k = 40 ∨ k = 41)) ∨ a = 109 ∨ (115 ≤ a ∧ a < 119) ∨ (121 ≤ a ∧ a ≤ 123) ∨ a = 126 ∨ a = 130 → M.1 a k = μ.1 a k) (ef : M.1 108 8 = f) (e2 : M.2 = μ.2) : InvM M (pF (pV S τ) f) := by
  obtain ⟨h1, h2, h3, h4, h5, h6, h7, h8, h9, h10⟩ := h
  have el : ∀ a k, M.2.1 a k = μ.2.1 a k := fun a k => by rw [e2]
  refine ⟨hm, ?_, fun τ q => KH_f (h3 τ q) (fun k => e _ _ (by omega)), ef, fun k q => ?_, fun s q => SHM_f (h6 s q) (fun q1 => ((hw.2.2.1 s q).2.1 q1).2) (fun a q1 q2 => e _ _ (by omega)) (fun k _ _ => el _ _), ?_, fun i q1 q2 => ?_, ?_, CST_f h10 (fun a k q1 q2 => e _ _ (by omega))⟩
  · rw [e _ _ (by omega)]; exact h2
  · rw [e _ _ (by omega)]; exact h5 k q
  · rw [e _ _ (by omega)]; exact h7
  · rw [e _ _ (by omega)]; exact h8 i q1 q2
  · rw [e _ _ (by omega)]; exact h9
def vowS (n : Nat) (x : Nat → Int32) (σ : Sg) : Nat ⊕ (Sg × Nat) := itsN (itm n x σ 0) (fun q => its n x FU q.1 q.2 1)
-- the class
def tl (μ : ZMem) (n : Nat) (x : Nat → Int32) (i : Nat) : ZMem := (fun a k => if a = 94 ∧ k = 1 then nI n else if a = 95 ∧ k < i then x k else μ.1 a k, μ.2)
theorem tl_o {μ : ZMem} {n i a k : Nat} {x : Nat → Int32} (h : a ≠ 94 ∧ a ≠ 95) : (tl μ n x i).1 a k = μ.1 a k := by
  simp only [tl]
  rw [if_neg (fun q => h.1 q.1), if_neg (fun q => h.2 q.1)]
theorem tl_1 (μ : ZMem) (n i : Nat) (x : Nat → Int32) : zI (tl μ n x i) 94 1 = nI n := by simp [zI, tl]
theorem tl_s (μ : ZMem) (n i : Nat) (x : Nat → Int32) : zpI (tl μ n x i) 95 i (x i) = tl μ n x (i + 1) := by
  refine Prod.ext ?_ rfl
  funext a k
  simp only [zpI, tl]
  by_cases h : a = 95 ∧ k = i
  · obtain ⟨rfl, rfl⟩ := h
    rw [if_pos ⟨rfl, rfl⟩, if_neg (by omega), if_pos (by omega)]
  · rw [if_neg h]
    by_cases c : a = 95 ∧ k < i
    · rw [if_pos c, if_pos (show a = 95 ∧ k < i + 1 by omega)]
    · rw [if_neg c, if_neg (show ¬ (a = 95 ∧ k < i + 1) by omega)]
theorem InvC_tl {μ : ZMem} {S : St} {n i : Nat} {x : Nat → Int32} (hw : WfS S) (h : InvC μ S) : InvC (tl μ n x i) S := InvC_f hw h (fun a k q => tl_o (by omega)) (fun a k q => rfl)
theorem takeL {μ : ZMem} {S : St} (hR : HR μ) (hw : WfS S) (h : InvC μ S) {s : Nat} (hs : s < 8) (e : hW (gS S s) = 1) : ∀ k i, i ≤ hZ (gS S s) → hZ (gS S s) < k + i → fX5_takeLetters_b16 131 k 94 (2 + 2 * s) (nI i) (tl μ (hZ (gS S s)) (xE (gS S s)) i) = some (tl μ (hZ (gS S s)) (xE (gS S s)) (hZ (gS S s))) := by
  have hz := ((hw.2.2.1 s hs).2.1 e).2
  intro k
  induction k with
  | zero => intro i _ _; omega
  | succ k ih =>
    intro i q1 q2
    have hR2 : HR (tl μ (hZ (gS S s)) (xE (gS S s)) i) := HR_of hR rfl
    rw [fX5_takeLetters_b16, tl_1]
    by_cases hi : i = hZ (gS S s)
    · rw [if_pos ((nI_leI (by omega) (by omega)).mpr (by omega)), hi]
    · have a0 : fX3_intAt 131 (2 + 2 * s) (nI i) (tl μ (hZ (gS S s)) (xE (gS S s)) i) = some (tl μ (hZ (gS S s)) (xE (gS S s)) i, xE (gS S s) i) := intAt_i hR2 hw (InvC_tl hw h) hs e (by omega)
      rw [if_neg (fun q => by have := (nI_leI (by omega) (by omega)).mp q; omega), r95 hR2, bd1_s, a0, bd2_s, chk_t (i95 (by omega)), lt_e, nI_clamp (by omega), tl_s, nI_1]
      exact ih (i + 1) (by omega) (by omega)
theorem rd_0 (X : ZMem) : zpI (zpI X 94 3 0) 94 4 (-1) = rd X 0 none := by
  refine Prod.ext ?_ rfl
  funext a k
  simp only [zpI, rd]
  by_cases h : a = 94 ∧ k = 4
  · rw [if_pos h, if_neg (by omega), if_pos h]
    rfl
  · rw [if_neg h]
    by_cases h3 : a = 94 ∧ k = 3
    · rw [if_pos h3, if_pos h3]
      rfl
    · rw [if_neg h3, if_neg h3, if_neg h]
theorem read_c {μ : ZMem} {S : St} (hR : HR μ) (hw : WfS S) (h : InvC μ S) {s : Nat} (hs : s < 8) (e : hW (gS S s) = 1) : ∃ Z, HR Z ∧ Z.2 = μ.2 ∧ (∀ a k, a ≠ 94 → a ≠ 95 → Z.1 a k = μ.1 a k) ∧ ((∃ f τ P' c', vowS (hZ (gS S s)) (xE (gS S s)) (gV S) = .inl f ∧ f ≤ 160 ∧ sN τ ≤ 7 ∧ fX5_readItems 131 94 (2 + 2 * s) 18 μ = some (rM Z τ P' (some f), c')) ∨ ∃ q P', vowS (hZ (gS S s)) (xE (gS S s)) (gV S) = .inr q ∧ Wf q.1 ∧ sN (gV S) ≤ sN q.1 ∧ fX5_readItems 131 94 (2 + 2 * s) 18 μ = some (rM Z q.1 P' none, nI q.2)) := by
  have hz := ((hw.2.2.1 s hs).2.1 e).2
  have hN := hw.1.1
  have hRt : HR (tl μ (hZ (gS S s)) (xE (gS S s)) (hZ (gS S s))) := HR_of hR rfl
  have hL : LT (hZ (gS S s)) (xE (gS S s)) (tl μ (hZ (gS S s)) (xE (gS S s)) (hZ (gS S s))) := ⟨hz, tl_1 _ _ _ _, fun j q => by
    show (if 95 = 94 ∧ j = 1 then nI (hZ (gS S s)) else if 95 = 95 ∧ j < hZ (gS S s) then xE (gS S s) j else μ.1 95 j) = _
    rw [if_neg (by omega), if_pos ⟨rfl, q⟩]⟩
  have k1 := takeL hR hw h hs e FU 0 (Nat.zero_le _) (by show hZ (gS S s) < 2000 + 0; omega)
  have e0 : zpI μ 94 1 (if (160 : Int32) < (zI μ (2 + 2 * s) 2) then (160 : Int32) else (zI μ (2 + 2 * s) 2)) = tl μ (hZ (gS S s)) (xE (gS S s)) 0 := by
    rw [cZ h hs e, if_neg (show ¬ (160 : Int32) < nI (hZ (gS S s)) from fun q => by have := (nI_ltI (a := 160) (by omega) (by omega)).mp q; omega)]
    refine Prod.ext ?_ rfl
    funext a k
    simp only [zpI, tl]
    by_cases c : a = 94 ∧ k = 1
    · rw [if_pos c, if_pos c]
    · rw [if_neg c, if_neg c, if_neg (fun q => Nat.not_lt_zero _ q.2)]
  have tk : fX5_takeLetters 131 94 (2 + 2 * s) μ = some (tl μ (hZ (gS S s)) (xE (gS S s)) (hZ (gS S s))) := by
    unfold fX5_takeLetters
    rw [chk_t c5_c, chk_t (shc hs), lt_e, e0]
    exact k1
  have hV := VH_e (InvC_tl (n := hZ (gS S s)) (x := xE (gS S s)) (i := hZ (gS S s)) hw h).1
  have ld := load_c (μ := tl μ (hZ (gS S s)) (xE (gS S s)) (hZ (gS S s))) (σ := gV S) VS96 VS18 (by omega) hRt hN
  rw [hV] at ld
  have st : fX5_readItems 131 94 (2 + 2 * s) 18 μ = bd1 (fX5_readItem 131 94 (rM (tl μ (hZ (gS S s)) (xE (gS S s)) (hZ (gS S s))) (gV S) 0 none)) (fun μ12 => (fX5_readItems_b29 131 FU 94 (1 : Int32) μ12)) := by
    unfold fX5_readItems
    rw [chk_t c5_c, chk_t (shc hs), chk_t (VS_c VS18), tk, bd1_s, r96 hRt, bd1_s, ld, bd1_s, lt_e, lt_e, rd_0]
  refine ⟨tl μ (hZ (gS S s)) (xE (gS S s)) (hZ (gS S s)), hRt, rfl, fun a k q1 q2 => tl_o ⟨q1, q2⟩, ?_⟩
  rw [st]
  unfold vowS
  rcases item_c hRt hL hw.1 (P := 0) (Nat.zero_le _) with ⟨f, P', a1, a2⟩ | ⟨q, a1, a2⟩
  · have hf := itm_f (Nat.zero_le _) a1
    rw [a2, bd1_s, a1]
    have eb : ∀ Y : ZMem, zI Y 94 4 = nI f → fX5_readItems_b29 131 FU 94 1 Y = some (Y, 1) := by
      intro Y hy
      show fX5_readItems_b29 131 (1999 + 1) 94 1 Y = _
      rw [fX5_readItems_b29, hy, if_neg (nI_m1 (by omega))]
      rfl
    exact Or.inl ⟨f, gV S, P', 1, rfl, by omega, hN, eb _ (rd_4 _ _ _)⟩
  · obtain ⟨s1, s2, s3, s4⟩ := itm_s hw.1 (Nat.zero_le _) a1
    rw [a2, bd1_s, a1]
    rcases its_c hRt hL FU q.2 q.1 1 s1 s4 (by omega) (by show hZ (gS S s) + 2 < 2000 + q.2; omega) with ⟨f, τ, P', c', b1, b2, b3, b4⟩ | ⟨r, P', b1, b2, b3, b4⟩
    · exact Or.inl ⟨f, τ, P', c', b1, by omega, b3, b4⟩
    · exact Or.inr ⟨r, P', b1, b2, Nat.le_trans s2 b3, b4⟩
-- the model
theorem backG {X : ZMem} {σ : Sg} (e : ovm X σ = X) {a b k : Nat} (hb : b ≠ a) : (ovm (sav X a σ) σ).1 b k = X.1 b k := by
  have q : (ovm (sav X a σ) σ).1 b k = (ovm X σ).1 b k := by simp only [ovm, sav_o hb]
  rw [q, e]
theorem its_m {μ : ZMem} {s n : Nat} {x : Nat → Int32} (hM : MX μ s n x) : ∀ k P σ c X, Wf σ → P ≤ n → PV μ σ P X → n + 2 < k + P → (∃ f X' c', its n x k σ P c = .inl f ∧ fX7_vow_b62 131 k 108 (nI c) 1 X = fX7_vow_b133 131 108 c' 0 X' ∧ PVf μ f X') ∨ ∃ q X' P', its n x k σ P c = .inr q ∧ fX7_vow_b62 131 k 108 (nI c) 1 X = some (X', nI q.2) ∧ PV μ q.1 P' X' := by
  have hn := hM.2.2.1
  intro k
  induction k with
  | zero => intro P σ c X _ _ _ _; omega
  | succ k ih =>
    intro P σ c X hW hP h hk
    have hX := PV_R hM h
    obtain ⟨k', rfl⟩ : ∃ k', k = k' + 1 := ⟨k - 1, by omega⟩
    have fl : ∀ (v : Int32) Y, fX7_vow_b62 131 (k' + 1) 108 v 0 Y = fX7_vow_b133 131 108 v 0 Y := by
      intro v Y
      rw [fX7_vow_b62, if_pos rfl]
    rw [fX7_vow_b62, its, if_neg one_ne, PV_27 hM h, PV_26 h, PV_25 hM h]
    by_cases hPn : P < n
    · obtain ⟨l1, l2⟩ := PV_L hM h hPn
      have c1 : ¬ nI n ≤ nI P := fun q => by have := (nI_leI (by omega) (by omega)).mp q; omega
      rw [if_neg c1, if_pos hPn, mr19 hX, bd1_s, chk_t l1, l2]
      by_cases h59 : lx n x P = 59
      · have h1 := PV_p h (P + 1)
        rw [if_pos h59, if_pos h59, lt_e, nI_1]
        rcases item_m hM h1 (by omega) hW with ⟨f, X', a1, a2, a3⟩ | ⟨q, X', a1, a2, a3⟩
        · rw [a2, bd2_s, a1, fl]
          exact Or.inl ⟨f, X', _, rfl, rfl, a3⟩
        · obtain ⟨s1, s2, s3, s4⟩ := itm_s hW (by omega) a1
          rw [a2, bd2_s, a1, nI_1]
          exact ih q.2 q.1 (c + 1) X' s1 s4 a3 (by omega)
      · rw [if_neg h59, if_neg h59, wrong_m, bd2_s, fl]
        exact Or.inl ⟨P, _, _, rfl, rfl, PV_f h P⟩
    · have c1 : nI n ≤ nI P := (nI_leI (by omega) (by omega)).mpr (by omega)
      rw [if_pos c1, if_neg hPn]
      unfold fX7_vow_b133
      rw [if_neg one_ne]
      exact Or.inr ⟨_, X, P, rfl, rfl, h⟩
theorem read_m {μ : ZMem} {S : St} (hR : HR μ) (hw : WfS S) (h : InvM μ S) {s : Nat} (hs : s < 8) (e : hW (gS S s) = 1) : ∃ ν, HR ν ∧ ν.2 = μ.2 ∧ KH ν 125 (gV S) ∧ ν.1 108 8 = -1 ∧ (∀ a k, ¬ (a = 108 ∧ (k = 8 ∨ k = 25 ∨ k = 26 ∨ k = 27)) → a ≠ 125 → ν.1 a k = μ.1 a k) ∧ ((∃ f X' c', vowS (hZ (gS S s)) (xE (gS S s)) (gV S) = .inl f ∧ fX7_vow 131 108 (nI s) μ = fX7_vow_b133 131 108 c' 0 X' ∧ PVf ν f X') ∨ ∃ q X' P', vowS (hZ (gS S s)) (xE (gS S s)) (gV S) = .inr q ∧ fX7_vow 131 108 (nI s) μ = some (X', nI q.2) ∧ PV ν q.1 P' X') := by
  have hz := ((hw.2.2.1 s hs).2.1 e).2
  have hN := hw.1.1
  have eM := MH_e h.1
  have k0 := all_f (μ := μ) (σ := gV S) AR125 hR
  rw [eM] at k0
  have hY : HR (ovm (sav μ 125 (gV S)) (gV S)) := HR_ovm (HR_sav hR)
  have fY : ∀ b k, b ≠ 125 → (ovm (sav μ 125 (gV S)) (gV S)).1 b k = μ.1 b k := fun b k hb => backG eM hb
  have e27 : ∀ y, zI (zpI (zpI (ovm (sav μ 125 (gV S)) (gV S)) 108 25 y) 108 26 0) 117 (nI s).toNatClampNeg = nI (hZ (gS S s)) := by
    intro y
    refine (zpI_ne (by omega)).trans ((zpI_ne (by omega)).trans ((fY _ _ (by omega)).trans ?_))
    exact mZ h hs e
  have e25 : (160 : Int32) * nI s = nI (160 * s) := pk_mul 160 s
  have hν : ∃ ν, ν = zpI (zpI (zpI (zpI (ovm (sav μ 125 (gV S)) (gV S)) 108 25 (nI (160 * s))) 108 26 0) 108 27 (nI (hZ (gS S s)))) 108 8 (-1) := ⟨_, rfl⟩
  obtain ⟨ν, eν⟩ := hν
  have fν : ∀ a k, ¬ (a = 108 ∧ (k = 8 ∨ k = 25 ∨ k = 26 ∨ k = 27)) → ν.1 a k = (ovm (sav μ 125 (gV S)) (gV S)).1 a k := by
    intro a k q
    rw [eν, zpI_ne (by omega), zpI_ne (by omega), zpI_ne (by omega), zpI_ne (by omega)]
  have f2 : ν.2 = μ.2 := by rw [eν]; rfl
  have hRν : HR ν := HR_of hR (congrArg Prod.snd f2)
  have hMν : MX ν s (hZ (gS S s)) (xE (gS S s)) := by
    refine ⟨hRν, hs, hz, ?_, ?_, fun j q => ?_, CST_f h.2.2.2.2.2.2.2.2.2 (fun a k q1 q2 => (fν _ _ (by omega)).trans (fY _ _ (by omega)))⟩
    · rw [eν, zpI_ne (by omega), zpI_ne (by omega), zpI_ne (by omega), zpI_at]
    · rw [eν, zpI_ne (by omega), zpI_at]
    · rw [f2]
      have := ((h.2.2.2.2.2.1 s hs).2.1 e).2.2 j q
      rw [this]
      rfl
  have hP : PV ν (gV S) 0 ν := by
    refine ⟨⟨rfl, fun _ _ _ _ _ => rfl⟩, MH_f (MH_o _ _) (fun a k q => fν _ _ (by omega)), ?_⟩
    rw [eν, zpI_ne (by omega), zpI_ne (by omega), zpI_at]
    rfl
  have hK : KH ν 125 (gV S) := by
    intro i hi
    rw [fν _ _ (by omega)]
    have q : (ovm (sav μ 125 (gV S)) (gV S)).1 125 i = (sav μ 125 (gV S)).1 125 i := ovm_o _ _ (by omega)
    rw [q]
    simp only [sav]
    rw [if_pos ⟨trivial, hi⟩]
  have st : fX7_vow 131 108 (nI s) μ = bd2 (fX7_item 131 108 ν) (fun μ21 r22 => (fX7_vow_b62 131 FU 108 (1 : Int32) r22 μ21)) := by
    unfold fX7_vow
    rw [chk_t m_c, wanted_m hR hw h hs, rr_1 e, bd2_s, if_pos neg0, mr30 hR, bd1_s, k0, bd1_s, lt_e, lt_e, mr17 (HR_zpI (HR_zpI hY)), bd1_s, chk_t (i17 hs), lt_e, lt_e, e27, e25, ← eν]
  refine ⟨ν, hRν, f2, hK, by rw [eν, zpI_at], fun a k q1 q2 => (fν a k q1).trans (fY a k q2), ?_⟩
  rw [st]
  unfold vowS
  rcases item_m hMν hP (Nat.zero_le _) hw.1 with ⟨f, X', a1, a2, a3⟩ | ⟨q, X', a1, a2, a3⟩
  · rw [a2, bd2_s, a1]
    have eb : fX7_vow_b62 131 FU 108 1 0 X' = fX7_vow_b133 131 108 1 0 X' := by
      show fX7_vow_b62 131 (1999 + 1) 108 1 0 X' = _
      rw [fX7_vow_b62, if_pos rfl]
    rw [eb]
    exact Or.inl ⟨f, X', 1, rfl, rfl, a3⟩
  · obtain ⟨s1, s2, s3, s4⟩ := itm_s hw.1 (Nat.zero_le _) a1
    rw [a2, bd2_s, a1]
    exact its_m hMν FU q.2 q.1 1 X' s1 s4 a3 (by show hZ (gS S s) + 2 < 2000 + q.2; omega)
theorem Kp_vow {S : St} (hw : WfS S) (v : Int32) : Kp S (fX6_vow 131 0 v) (fX7_vow 131 108 v) := by
  have hN := hw.1.1
  rcases shelf_or v with hv | ⟨s, hs, rfl⟩
  · refine Kp_no 1 (by omega) (by omega) hw (fun μ hR h => ?_) (fun μ hR h => ?_)
    · unfold fX6_vow
      rw [chk_t c_c, rowRef_z hv, bd2_s, if_neg (neg_ne (by omega) (by omega)), bd2_e]
    · unfold fX7_vow
      rw [chk_t m_c, wanted_z hv, bd2_s, if_neg (neg_ne (by omega) (by omega)), bd2_e]
  by_cases h1 : hW (gS S s) = 1
  · -- a row: read
    have cV : ∀ μ, HR μ → InvC μ S → ∀ M c, HR M → fX5_readItems 131 94 (2 + 2 * s) 18 μ = some (M, c) → fX6_vow 131 0 (nI s) μ = (if zI M 94 4 = (-1 : Int32) then bd1 (fX4_load 131 18 96 (zpI M 0 9 (zI M 94 4))) (fun μ29 => some (μ29, c)) else fX6_refuse 131 0 (-6) (zpI M 0 9 (zI M 94 4))) := by
      intro μ hR h M c hRM hr
      have hR9 : ∀ y, HR (zpI M 0 9 y) := fun y => HR_zpI hRM
      have e9 : ∀ y, zI (zpI M 0 9 y) 0 9 = y := fun y => zpI_at _ _ _ _
      unfold fX6_vow
      rw [chk_t c_c, rowRef hR hw h hs, rr_1 h1, bd2_s, if_pos neg0, cr5 hR, bd1_s, cr0 hR, bd1_s, chk_t (shi hs), shr hR hs, bd1_s, cr1 hR, bd1_s, hr, bd2_s, cr5 hRM, bd1_s, lt_e, e9, cr1 (hR9 _), bd1_s, cr5 (hR9 _), bd1_s, r96 (hR9 _), bd1_s, bd2_e]
    cases ev : vowS (hZ (gS S s)) (xE (gS S s)) (gV S) with
    | inl f =>
      refine ⟨(-nI 6, sno (pF S (nI f)) 6), WfS_no (S := pF S (nI f)) hw, fun μ hR h => ?_, fun μ hR h => ?_⟩
      · obtain ⟨Z, z1, z2, z3, z4⟩ := read_c hR hw h hs h1
        rcases z4 with ⟨g, τ, P', c', b1, b2, b3, b4⟩ | ⟨q, P', b1, _⟩
        · rw [ev] at b1
          cases b1
          have hRM : HR (rM Z τ P' (some f)) := HR_rd (HR_ovl z1)
          have e4 : zI (rM Z τ P' (some f)) 94 4 = nI f := rd_4 _ _ _
          have fM : ∀ a k, a < 94 ∨ 105 ≤ a → (rM Z τ P' (some f)).1 a k = μ.1 a k := fun a k q => (rd_o _ P' (some f) (by omega)).trans ((ovl_o Z 96 τ k (by omega) b3).trans (z3 a k (by omega) (by omega)))
          have hI : InvC (zpI (rM Z τ P' (some f)) 0 9 (nI f)) (pF S (nI f)) := InvC_F hw h (fun a k q1 q2 => (zpI_ne q2).trans (fM a k (by omega))) (zpI_at _ _ _ _) z2
          rw [cV μ hR h _ _ hRM b4, e4, if_neg (nI_m1 (by omega))]
          obtain ⟨ξ, x1, x2, x3, x4⟩ := RC_no (S := pF S (nI f)) (k := 6) (HR_zpI hRM) hw hI (by omega) (by omega)
          refine ⟨ξ, x1, x2, x3, EqM_t (fun a k q => ⟨(zpI_ne (by omega)).trans (fM a k (by omega)), ?_⟩) x4⟩
          exact congrFun (congrFun (congrArg Prod.fst z2) a) k
        · rw [ev] at b1; cases b1
      · obtain ⟨ν, n1, n2, n3, n4, n5, n6⟩ := read_m hR hw h hs h1
        rcases n6 with ⟨g, X', c', b1, b2, b3⟩ | ⟨q, X', P', b1, _⟩
        · rw [ev] at b1
          cases b1
          obtain ⟨⟨p1, p2⟩, ⟨τ, p3⟩, p4⟩ := b3
          have hRX : HR X' := HR_of n1 (congrArg Prod.snd p1)
          have kk : KH X' 125 (gV S) := KH_f n3 (fun k => p2 125 k (by omega) (by omega) (by omega))
          have k1 := all_b (μ := X') (σ := gV S) (τ := τ) AR125 hRX
          rw [KH_e kk, MH_e p3] at k1
          have e29 : zI (ovm X' (gV S)) 108 29 = nI f := (ovm_o _ _ (by omega)).trans p4
          have fM : ∀ a k, ¬ (a = 108 ∧ (k < 9 ∨ (25 ≤ k ∧ k ≤ 29))) → ¬ (110 ≤ a ∧ a < 115) → a ≠ 124 → a ≠ 125 → (ovm X' (gV S)).1 a k = μ.1 a k := fun a k q1 q2 q3 q4 => (ovm_o _ _ (by omega)).trans ((p2 a k (by omega) q2 q3).trans (n5 a k (by omega) q4))
          have hI : InvM (zpI (ovm X' (gV S)) 108 8 (nI f)) (pF (pV S (gV S)) (nI f)) := InvM_F hw h (MH_f (MH_o _ _) (fun a k q => zpI_ne (by omega))) (fun a k q => (zpI_ne (by omega)).trans (fM a k (by omega) (by omega) (by omega) (by omega))) (zpI_at _ _ _ _) (p1.trans n2)
          rw [b2]
          unfold fX7_vow_b133
          rw [if_pos rfl, mr30 hRX, bd1_s, k1, bd1_s, e29, lt_e, bd2_e]
          obtain ⟨ξ, x1, x2, x3, x4⟩ := RM_no (S := pF S (nI f)) (k := 6) (HR_zpI (HR_ovm hRX)) hw hI (by omega)
          refine ⟨ξ, x1, x2, x3, EqC_t (fun a k q => ⟨(zpI_ne (by omega)).trans (fM a k (by omega) (by omega) (by omega) (by omega)), ?_⟩) x4⟩
          exact congrFun (congrFun (congrArg Prod.fst (p1.trans n2)) a) k
        · rw [ev] at b1; cases b1
    | inr q =>
      have hWq : ∀ μ, HR μ → InvC μ S → Wf q.1 ∧ sN (gV S) ≤ sN q.1 := by
        intro μ hR h
        obtain ⟨Z, z1, z2, z3, z4⟩ := read_c hR hw h hs h1
        rcases z4 with ⟨g, τ, P', c', b1, _⟩ | ⟨r, P', b1, b2, b3, _⟩
        · rw [ev] at b1; cases b1
        · rw [ev] at b1; cases b1; exact ⟨b2, b3⟩
      have hz := ((hw.2.2.1 s hs).2.1 h1).2
      have hWs : Wf q.1 ∧ sN (gV S) ≤ sN q.1 := by
        unfold vowS at ev
        cases e0 : itm (hZ (gS S s)) (xE (gS S s)) (gV S) 0 with
        | inl f => rw [e0] at ev; cases ev
        | inr p =>
          rw [e0] at ev
          obtain ⟨s1, s2, s3, s4⟩ := itm_s hw.1 (Nat.zero_le _) e0
          have ev' : its (hZ (gS S s)) (xE (gS S s)) FU p.1 p.2 1 = .inr q := ev
          have go : ∀ k P σ c, Wf σ → P ≤ hZ (gS S s) → its (hZ (gS S s)) (xE (gS S s)) k σ P c = .inr q → Wf q.1 ∧ sN σ ≤ sN q.1 := by
            intro k
            induction k with
            | zero => intro P σ c _ _ e; cases e
            | succ k ih =>
              intro P σ c hW hP e
              unfold its at e
              by_cases hPn : P < hZ (gS S s)
              · rw [if_pos hPn] at e
                by_cases h59 : lx (hZ (gS S s)) (xE (gS S s)) P = 59
                · rw [if_pos h59] at e
                  cases e1 : itm (hZ (gS S s)) (xE (gS S s)) σ (P + 1) with
                  | inl f => rw [e1] at e; cases e
                  | inr p =>
                    rw [e1] at e
                    obtain ⟨t1, t2, t3, t4⟩ := itm_s hW (by omega) e1
                    obtain ⟨u1, u2⟩ := ih p.2 p.1 (c + 1) t1 t4 e
                    exact ⟨u1, Nat.le_trans t2 u2⟩
                · rw [if_neg h59] at e; cases e
              · rw [if_neg hPn] at e
                cases e
                exact ⟨hW, Nat.le_refl _⟩
          obtain ⟨u1, u2⟩ := go FU p.2 p.1 1 s1 s4 ev'
          exact ⟨u1, Nat.le_trans s2 u2⟩
      obtain ⟨hWf, hNN⟩ := hWs
      refine ⟨(nI q.2, pF (pV S q.1) (-1)), WfS_V hw hWf hNN, fun μ hR h => ?_, fun μ hR h => ?_⟩
      · obtain ⟨Z, z1, z2, z3, z4⟩ := read_c hR hw h hs h1
        rcases z4 with ⟨g, τ, P', c', b1, _⟩ | ⟨r, P', b1, b2, b3, b4⟩
        · rw [ev] at b1; cases b1
        · rw [ev] at b1
          cases b1
          have hRM : HR (rM Z q.1 P' none) := HR_rd (HR_ovl z1)
          have e4 : zI (rM Z q.1 P' none) 94 4 = -1 := rd_4 _ _ _
          have fM : ∀ a k, a < 94 ∨ 105 ≤ a → (rM Z q.1 P' none).1 a k = μ.1 a k := fun a k p => (rd_o _ P' none (by omega)).trans ((ovl_o Z 96 q.1 k (by omega) hWf.1).trans (z3 a k (by omega) (by omega)))
          have hI : InvC (zpI (rM Z q.1 P' none) 0 9 (-1)) (pF S (-1)) := InvC_F hw h (fun a k q1 q2 => (zpI_ne q2).trans (fM a k (by omega))) (zpI_at _ _ _ _) z2
          have hV : VH (zpI (rM Z q.1 P' none) 0 9 (-1)) 96 q.1 := VH_f (VH_o Z 96 q.1) hWf.1 (fun a k q1 q2 => (zpI_ne (by omega)).trans (rd_o _ P' none (by omega)))
          have ld := load_c (μ := zpI (rM Z q.1 P' none) 0 9 (-1)) (σ := q.1) VS18 VS96 (by omega) (HR_zpI hRM) hWf.1
          rw [VH_e hV] at ld
          rw [cV μ hR h _ _ hRM b4, e4, if_pos rfl, ld, bd1_s]
          refine ⟨_, rfl, HR_ovl (HR_zpI hRM), InvC_V (S := pF S (-1)) hw hWf.1 hI, fun a k p => ⟨?_, ?_⟩⟩
          · exact (ovl_o _ 18 q.1 k (by omega) hWf.1).trans ((zpI_ne (by omega)).trans (fM a k (by omega)))
          · exact congrFun (congrFun (congrArg Prod.fst z2) a) k
      · obtain ⟨ν, n1, n2, n3, n4, n5, n6⟩ := read_m hR hw h hs h1
        rcases n6 with ⟨g, X', c', b1, _⟩ | ⟨r, X', P', b1, b2, b3⟩
        · rw [ev] at b1; cases b1
        · rw [ev] at b1
          cases b1
          obtain ⟨⟨p1, p2⟩, p3, p4⟩ := b3
          have hRX : HR X' := HR_of n1 (congrArg Prod.snd p1)
          have fM : ∀ a k, ¬ (a = 108 ∧ (k < 9 ∨ (25 ≤ k ∧ k ≤ 29))) → ¬ (110 ≤ a ∧ a < 115) → a ≠ 124 → a ≠ 125 → X'.1 a k = μ.1 a k := fun a k q1 q2 q3 q4 => (p2 a k (by omega) q2 q3).trans (n5 a k (by omega) q4)
          refine ⟨X', b2, hRX, InvM_F hw h p3 (fun a k q => fM a k (by omega) (by omega) (by omega) (by omega)) ((p2 108 8 (by omega) (by omega) (by omega)).trans n4) (p1.trans n2), fun a k q => ⟨fM a k (by omega) (by omega) (by omega) (by omega), ?_⟩⟩
          exact congrFun (congrFun (congrArg Prod.fst (p1.trans n2)) a) k
  · have hr := rr_n h1
    refine Kp_no (rr (gS S s)) (by omega) (by omega) hw (fun μ hR h => ?_) (fun μ hR h => ?_)
    · unfold fX6_vow
      rw [chk_t c_c, rowRef hR hw h hs, bd2_s, if_neg (neg_ne (by omega) (by omega)), bd2_e]
    · unfold fX7_vow
      rw [chk_t m_c, wanted_m hR hw h hs, bd2_s, if_neg (neg_ne (by omega) (by omega)), bd2_e]
