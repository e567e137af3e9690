-- ACT OF THE MODEL, AND BOTH
def trM (μ : ZMem) (t : Tr) : ZMem := (fun a j => if a = 108 ∧ j = 40 then nI t.1 else if a = 130 ∧ j < t.1 then t.2 j else μ.1 a j, μ.2)
theorem trM_n (μ : ZMem) (t : Tr) : zI (trM μ t) 108 40 = nI t.1 := by simp [zI, trM]
theorem trM_o (μ : ZMem) (t : Tr) {a j : Nat} (h : a ≠ 130 ∧ ¬ (a = 108 ∧ j = 40)) : zI (trM μ t) a j = μ.1 a j := by
  simp only [zI, trM]
  rw [if_neg h.2, if_neg (fun q => h.1 q.1)]
theorem HR_trM {μ : ZMem} {t : Tr} (h : HR μ) : HR (trM μ t) := HR_of h rfl
theorem trM_a (μ : ZMem) (b : Int32) (t : Tr) : zpI (zpI (trM μ t) 130 t.1 b) 108 40 (nI (t.1 + 1)) = trM μ (tA b t) := by
  refine Prod.ext ?_ rfl
  funext a j
  simp only [zpI, trM, tA]
  by_cases h5 : a = 108 ∧ j = 40
  · rw [if_pos h5, if_pos h5]
  · rw [if_neg h5, if_neg h5]
    by_cases h6 : a = 130
    · subst h6
      by_cases hj : j = t.1
      · subst hj
        simp
      · by_cases hl : j < t.1
        · simp [hj, hl, show j < t.1 + 1 by omega]
        · simp [hj, hl, show ¬ j < t.1 + 1 by omega]
    · simp [h5, h6]
theorem mr39 {μ : ZMem} (hR : HR μ) : zRc 131 100 μ 108 39 = some 130 := mr_ 39 130 (by decide +kernel) (by decide) hR
theorem body_m {μ : ZMem} {b : Int32} {t : Tr} (hR : HR μ) (ht : t.1 < 20) : fX7_body 131 108 b (trM μ t) = some (trM μ (tA b t)) := by
  have hi : inb (nI t.1) 130 = true := inb_nI (by rw [show zsz 130 = 20 by decide]; exact ht)
  have e1 : zI (zpI (trM μ t) 130 t.1 b) 108 40 = nI t.1 := (zpI_ne (by omega)).trans (trM_n μ t)
  unfold fX7_body fX7_body_b19
  rw [chk_t m_c, trM_n, if_neg (show ¬ (20 : Int32) ≤ nI t.1 from fun q => by have := (nI_leI (a := 20) (by omega) (by omega)).mp q; omega), mr39 (HR_trM hR), bd1_s, chk_t hi, lt_e, lt_e, nI_clamp (by omega), e1, nI_1, trM_a]
section
variable {μ : ZMem} {p κ : Nat} {a x : Int32} {t : Tr}
theorem kM (hp : p < 7) (hk : μ.1 110 p = nI κ) (t : Tr) : zI (trM μ t) 110 (nI p).toNatClampNeg = nI κ := by
  rw [nI_clamp (by omega), trM_o μ t (by omega)]
  exact hk
theorem aM (hp : p < 7) (ha : μ.1 111 p = a) (t : Tr) : zI (trM μ t) 111 (nI p).toNatClampNeg = a := by
  rw [nI_clamp (by omega), trM_o μ t (by omega)]
  exact ha
theorem walk_m (hR : HR μ) (hp : p < 7) (hκ : κ < 7) (hk : μ.1 110 p = nI κ) (ha : μ.1 111 p = a) (ht : t.1 + 3 < 20) : fX7_walking 131 108 (nI p) x (trM μ t) = some (trM μ (tW κ t), pW (nI p) a x κ) := by
  unfold fX7_walking fX7_walking_b20 fX7_walking_b25 fX7_walking_b38 fX7_walking_b43 fX7_walking_b57 fX7_walking_b73 fX7_walking_b84 fX7_walking_b95 fX7_walking_b123 fX7_walking_b134 fX7_walking_b149
  rw [chk_t m_c, mr10 (HR_trM hR), bd1_s, chk_t (mi10 hp), kM hp hk]
  rcases k7 hκ with rfl | rfl | rfl | rfl | rfl | rfl | rfl
  all_goals
    repeat first
      | rw [if_neg (by decide)]
      | rw [if_pos (by decide)]
      | rw [body_m hR (by first | omega | (simp only [tA_1]; omega)), bd1_s]
      | rw [mr11 (HR_trM hR), bd1_s, chk_t (mi11 hp), aM hp ha]
    rfl
theorem bear_M (hR : HR μ) (hp : p < 7) (hκ : κ < 7) (hk : μ.1 110 p = nI κ) (ha : μ.1 111 p = a) (ht : t.1 + 5 < 20) : fX7_bearing 131 108 (nI p) x (trM μ t) = some (trM μ (tB κ t), pB (nI p) a x κ) := by
  unfold fX7_bearing fX7_bearing_b32 fX7_bearing_b42 fX7_bearing_b47 fX7_bearing_b60 fX7_bearing_b91
  rw [chk_t m_c, mr10 (HR_trM hR), bd1_s, chk_t (mi10 hp), kM hp hk]
  rcases k7 hκ with rfl | rfl | rfl | rfl | rfl | rfl | rfl
  all_goals
    repeat first
      | rw [if_neg (by decide)]
      | rw [if_pos (by decide)]
      | rw [body_m hR (by first | omega | (simp only [tA_1]; omega)), bd1_s]
      | rw [mr11 (HR_trM hR), bd1_s, chk_t (mi11 hp), aM hp ha]
      | rw [walk_m hR hp hκ hk ha (by first | omega | (simp only [tA_1]; omega)), bd2_s]
    rfl
theorem speak_M (hR : HR μ) (hp : p < 7) (hκ : κ < 7) (hk : μ.1 110 p = nI κ) (ha : μ.1 111 p = a) (ht : t.1 + 10 < 20) : fX7_speaking 131 108 (nI p) x (trM μ t) = some (trM μ (tS κ t), pSp (nI p) a x κ) := by
  have g1 := tB_n hκ (tA 12 t)
  have g2 := tB_n hκ (tA 12 (tA 50 t))
  have g3 := tB_n hκ (tA 12 (tA 60 t))
  simp only [tA_1] at g1 g2 g3
  unfold fX7_speaking fX7_speaking_b18 fX7_speaking_b23 fX7_speaking_b36 fX7_speaking_b47 fX7_speaking_b104
  rw [chk_t m_c, mr10 (HR_trM hR), bd1_s, chk_t (mi10 hp), kM hp hk]
  rcases k7 hκ with rfl | rfl | rfl | rfl | rfl | rfl | rfl
  all_goals
    repeat first
      | rw [if_neg (by decide)]
      | rw [if_pos (by decide)]
      | rw [body_m hR (by first | omega | (simp only [tA_1]; omega)), bd1_s]
      | rw [mr11 (HR_trM hR), bd1_s, chk_t (mi11 hp), aM hp ha]
      | rw [bear_M hR hp hκ hk ha (by first | omega | (simp only [tA_1]; omega)), bd2_s]
      | rw [walk_m hR hp hκ hk ha (by first | omega | (simp only [tA_1]; omega)), bd2_s]
    rfl
end
def pT (S : St) (t : Tr) : St := (S.1, S.2.1, S.2.2.1, S.2.2.2.1, S.2.2.2.2.1, t.1, t.2)
theorem WfS_T {S : St} {t : Tr} (hw : WfS S) (ht : t.1 ≤ 100) : WfS (pT S t) := ⟨hw.1, hw.2.1, hw.2.2.1, ht⟩
theorem InvC_tr {μ : ZMem} {S : St} {κ m k : Int32} {t : Tr} (hw : WfS S) (h : InvC μ S) : InvC (trC μ κ m k t) (pT S t) := by
  obtain ⟨h1, h2, h3, h4, h5, h6, h7, h8⟩ := h
  have e : ∀ a j, a ≠ 105 → a ≠ 106 → (trC μ κ m k t).1 a j = μ.1 a j := fun a j q1 q2 => by
    simp only [trC]
    rw [if_neg (fun q => q1 q.1), if_neg (fun q => q2 q.1)]
  refine ⟨VH_f h1 hw.1.1 (fun a k q1 q2 => e _ _ (by omega) (by omega)), ?_, fun τ q => VH_f (h3 τ q) (hw.2.1 τ q).1 (fun a k q1 q2 => e _ _ (by omega) (by omega)), ?_, fun k q => ?_, fun s q => SHC_f (h6 s q) (fun k => e _ _ (by omega) (by omega)) (fun k => rfl), trC_1 μ κ m k t, fun i q1 q2 => ?_⟩
  · rw [e _ _ (by omega) (by omega)]; exact h2
  · rw [e _ _ (by omega) (by omega)]; exact h4
  · rw [e _ _ (by omega) (by omega)]; exact h5 k q
  · simp only [trC]
    rw [if_neg (by omega), if_pos ⟨trivial, q2⟩]
    rfl
theorem InvC_fg {μ : ZMem} {S : St} (hw : WfS S) (h : InvC μ S) : InvC (zpI μ 105 1 0) (pT S (0, gt S)) := by
  obtain ⟨h1, h2, h3, h4, h5, h6, h7, h8⟩ := h
  have e : ∀ a j, a ≠ 105 → (zpI μ 105 1 0).1 a j = μ.1 a j := fun a j q1 => zpI_ne (by omega)
  refine ⟨VH_f h1 hw.1.1 (fun a k q1 q2 => e _ _ (by omega)), ?_, fun τ q => VH_f (h3 τ q) (hw.2.1 τ q).1 (fun a k q1 q2 => e _ _ (by omega)), ?_, fun k q => ?_, fun s q => SHC_f (h6 s q) (fun k => e _ _ (by omega)) (fun k => rfl), zpI_at _ _ _ _, fun i q1 q2 => absurd q2 (Nat.not_lt_zero _)⟩
  · rw [e _ _ (by omega)]; exact h2
  · rw [e _ _ (by omega)]; exact h4
  · rw [e _ _ (by omega)]; exact h5 k q
theorem InvM_tr {μ : ZMem} {S : St} {t : Tr} (hw : WfS S) (h : InvM μ S) : InvM (trM μ t) (pT S t) := by
  obtain ⟨h1, h2, h3, h4, h5, h6, h7, h8, h9, h10⟩ := h
  have e : ∀ a j, a ≠ 130 ∧ ¬ (a = 108 ∧ j = 40) → (trM μ t).1 a j = μ.1 a j := fun a j q => trM_o μ t q
  refine ⟨MH_f h1 (fun a k q => e _ _ (by omega)), ?_, fun τ q => KH_f (h3 τ q) (fun k => e _ _ (by omega)), ?_, fun k q => ?_, fun s q => SHM_f (h6 s q) (fun q1 => ((hw.2.2.1 s q).2.1 q1).2) (fun a q1 q2 => e _ _ (by omega)) (fun k _ _ => rfl), trM_n μ t, fun i q1 q2 => ?_, ?_, CST_f h10 (fun a k q1 q2 => e _ _ (by omega))⟩
  · rw [e _ _ (by omega)]; exact h2
  · rw [e _ _ (by omega)]; exact h4
  · rw [e _ _ (by omega)]; exact h5 k q
  · simp only [trM]
    rw [if_neg (by omega), if_pos ⟨trivial, q2⟩]
    rfl
  · rw [e _ _ (by omega)]; exact h9
theorem EqM_tr {μ : ZMem} {κ m k : Int32} {t : Tr} : EqM μ (trC μ κ m k t) := fun a j q => ⟨by simp only [trC]; rw [if_neg (by omega), if_neg (by omega)], rfl⟩
theorem EqC_tr {μ : ZMem} {t : Tr} : EqC μ (trM μ t) := fun a j q => ⟨by simp only [trM]; rw [if_neg (by omega), if_neg (by omega)], rfl⟩
theorem trM_0 (μ : ZMem) (g : Nat → Int32) : zpI μ 108 40 0 = trM μ (0, g) := by
  refine Prod.ext ?_ rfl
  funext a j
  simp only [zpI, trM]
  by_cases h : a = 108 ∧ j = 40
  · rw [if_pos h, if_pos h]; rfl
  · rw [if_neg h, if_neg h, if_neg (fun q => Nat.not_lt_zero _ q.2)]
theorem trC_0 (μ : ZMem) (κ m k : Int32) (g : Nat → Int32) : zpI (zpI (zpI (zpI μ 105 1 0) 105 2 κ) 105 3 m) 105 4 k = trC μ κ m k (0, g) := by
  refine Prod.ext ?_ rfl
  funext a j
  simp only [zpI, trC]
  by_cases h : a = 105
  · subst h
    match j with
    | 0 => simp
    | 1 => simp; rfl
    | 2 => simp
    | 3 => simp
    | 4 => simp
    | j + 5 =>
      rw [if_neg (by omega), if_neg (by omega), if_neg (by omega), if_neg (by omega), if_neg (by omega), if_neg (by omega)]
  · rw [if_neg (by omega), if_neg (by omega), if_neg (by omega), if_neg (by omega), if_neg (by omega), if_neg (fun q => Nat.not_lt_zero _ q.2)]
theorem act_no {S : St} (hw : WfS S) {f g : ZMem → Option (ZMem × Int32)} (hf : ∀ μ, HR μ → InvC μ S → f μ = some (zpI μ 105 1 0, 0)) (hg : ∀ μ, HR μ → InvM μ S → g μ = some (zpI μ 108 40 0, 0)) : Kp S f g := by
  refine ⟨(0, pT S (0, gt S)), WfS_T hw (Nat.zero_le _), fun μ hR h => ⟨_, hf μ hR h, HR_zpI hR, InvC_fg hw h, EqM_p (by omega)⟩, fun μ hR h => ⟨_, hg μ hR h, HR_zpI hR, ?_, EqC_p (by omega)⟩⟩
  rw [trM_0 μ (gt S)]
  exact InvM_tr hw h
theorem forget_e (μ : ZMem) : fX0_forget 131 105 μ = some (zpI μ 105 1 0) := by
  unfold fX0_forget
  rw [chk_t c0_c, lt_e]
theorem sN_pT (S : St) (t : Tr) : sN (gV (pT S t)) = sN (gV S) := rfl
theorem Kp_act {S : St} (hw : WfS S) (v w x : Int32) : Kp S (fX6_act 131 0 v w x) (fX7_act 131 108 v w x) := by
  have hN := hw.1.1
  have hw2 : WfS (pT S (0, gt S)) := WfS_T hw (Nat.zero_le _)
  have hM : ∀ μ, InvM μ S → InvM (zpI μ 108 40 0) (pT S (0, gt S)) := fun μ h => by
    rw [trM_0 μ (gt S)]
    exact InvM_tr hw h
  rcases one_or S v with hv | ⟨p, hp, rfl⟩
  · refine act_no hw (fun μ hR h => ?_) (fun μ hR h => ?_)
    · unfold fX6_act fX6_act_b24
      rw [chk_t c_c, cr6 hR, bd1_s, forget_e, bd1_s, isPerson_z (S := pT S (0, gt S)) (HR_zpI hR) hw2 (InvC_fg hw h) hv, bd2_s, if_pos rfl]
    · unfold fX7_act fX7_act_b22
      rw [chk_t m_c, lt_e, isOne_z (S := pT S (0, gt S)) hw2 (hM μ h) hv, bd2_s, if_pos rfl]
  · have hp7 : p < 7 := by omega
    by_cases hb : (0 : Int32) ≤ w ∧ w ≤ 2
    · have hq : wfP (sP (gV S) p) := hw.1.2.2.2.2.2 p hp
      have hκ : sP (gV S) p 0 < 7 := by have := hq.1; omega
      obtain ⟨b, _, b2, rfl⟩ := in_nat (lo := 0) (hi := 2) (by omega) (by omega) hb
      have n1 : (tW (sP (gV S) p 0) (0, gt S)).1 ≤ 3 := tW_n hκ (0, gt S)
      have n2 : (tB (sP (gV S) p 0) (0, gt S)).1 ≤ 5 := tB_n hκ (0, gt S)
      have n3 : (tS (sP (gV S) p 0) (0, gt S)).1 ≤ 10 := tS_n hκ (0, gt S)
      have cA : ∀ μ, HR μ → InvC μ S → fX6_act 131 0 (nI p) (nI b) x μ = fX0_runFrom 131 FD 105 (nI (sP (gV S) p 0)) (nI b) x 0 (trC μ (nI (sP (gV S) p 0)) (nI p) (nI (sP (gV S) p 1)) (0, gt S)) := by
        intro μ hR h
        have f0 : zI (zpI μ 105 1 0) (18 + 2 + p) 0 = nI (sP (gV S) p 0) := (zpI_ne (by omega)).trans (h.1.2 p hp 0 (by omega))
        have f1 : zI (zpI (zpI (zpI μ 105 1 0) 105 2 (nI (sP (gV S) p 0))) 105 3 (nI p)) (18 + 2 + p) 1 = nI (sP (gV S) p 1) := (zpI_ne (by omega)).trans ((zpI_ne (by omega)).trans ((zpI_ne (by omega)).trans (h.1.2 p hp 1 (by omega))))
        unfold fX6_act fX0_run
        rw [chk_t c_c, cr6 hR, bd1_s, forget_e, bd1_s, isPerson_i (S := pT S (0, gt S)) (HR_zpI hR) hw2 (InvC_fg hw h) hp, bd2_s, if_neg one_ne, isIn_o hb, bd2_s, if_neg one_ne, cr6 (HR_zpI hR), bd1_s, cr1 (HR_zpI hR), bd1_s, VS_r0 VS18 (HR_zpI hR), bd1_s, chk_t (VS_in VS18 hp7), VS_rp VS18 (HR_zpI hR) hp7, bd1_s, chk_t c0_c, chk_t (VS_1 VS18 hp7), lt_e, lt_e, lt_e, f0, f1, trC_0 μ _ _ _ (gt S), trC_2, bd2_e, bd2_e]
      have mA : ∀ μ, HR μ → InvM μ S → fX7_act 131 108 (nI p) (nI b) x μ = (if nI b = (0 : Int32) then fX7_walking 131 108 (nI p) x (trM μ (0, gt S)) else if nI b = (1 : Int32) then fX7_bearing 131 108 (nI p) x (trM μ (0, gt S)) else fX7_speaking 131 108 (nI p) x (trM μ (0, gt S))) := by
        intro μ hR h
        unfold fX7_act fX7_act_b57
        rw [chk_t m_c, lt_e, isOne_i (S := pT S (0, gt S)) hw2 (hM μ h) hp, bd2_s, if_neg one_ne, lh_y hb, trM_0 μ (gt S), bd2_e, bd2_e, bd2_e]
      rcases (show b = 0 ∨ b = 1 ∨ b = 2 by omega) with rfl | rfl | rfl
      · refine ⟨(pW (nI p) (nI (sP (gV S) p 1)) x (sP (gV S) p 0), pT S (tW (sP (gV S) p 0) (0, gt S))), WfS_T hw (by omega), fun μ hR h => ?_, fun μ hR h => ?_⟩
        · refine ⟨trC μ (nI (sP (gV S) p 0)) (nI p) (nI (sP (gV S) p 1)) _, ?_, HR_trC hR, InvC_tr hw h, EqM_tr⟩
          rw [cA μ hR h]
          exact cWk (Q := 37) (d := 0) (t := (0, gt S)) hR hκ (by omega) (by show 0 + 3 < 20; omega)
        · refine ⟨_, ?_, HR_trM hR, InvM_tr hw h, EqC_tr⟩
          rw [mA μ hR h, if_pos (show nI 0 = (0 : Int32) from rfl)]
          exact walk_m (t := (0, gt S)) hR hp7 hκ (h.1.2 p hp7 0 (by omega)) (h.1.2 p hp7 1 (by omega)) (by show 0 + 3 < 20; omega)
      · refine ⟨(pB (nI p) (nI (sP (gV S) p 1)) x (sP (gV S) p 0), pT S (tB (sP (gV S) p 0) (0, gt S))), WfS_T hw (by omega), fun μ hR h => ?_, fun μ hR h => ?_⟩
        · refine ⟨trC μ (nI (sP (gV S) p 0)) (nI p) (nI (sP (gV S) p 1)) _, ?_, HR_trC hR, InvC_tr hw h, EqM_tr⟩
          rw [cA μ hR h]
          exact cBk (Q := 35) (d := 0) (t := (0, gt S)) hR hκ (by omega) (by show 0 + 5 < 20; omega)
        · refine ⟨_, ?_, HR_trM hR, InvM_tr hw h, EqC_tr⟩
          rw [mA μ hR h, if_neg (by decide), if_pos (show nI 1 = (1 : Int32) from rfl)]
          exact bear_M (t := (0, gt S)) hR hp7 hκ (h.1.2 p hp7 0 (by omega)) (h.1.2 p hp7 1 (by omega)) (by show 0 + 5 < 20; omega)
      · refine ⟨(pSp (nI p) (nI (sP (gV S) p 1)) x (sP (gV S) p 0), pT S (tS (sP (gV S) p 0) (0, gt S))), WfS_T hw (by omega), fun μ hR h => ?_, fun μ hR h => ?_⟩
        · refine ⟨trC μ (nI (sP (gV S) p 0)) (nI p) (nI (sP (gV S) p 1)) _, ?_, HR_trC hR, InvC_tr hw h, EqM_tr⟩
          rw [cA μ hR h]
          exact cSk (Q := 33) (d := 0) (t := (0, gt S)) hR hκ (by omega) (by show 0 + 10 < 20; omega)
        · refine ⟨_, ?_, HR_trM hR, InvM_tr hw h, EqC_tr⟩
          rw [mA μ hR h, if_neg (by decide), if_neg (by decide)]
          exact speak_M (t := (0, gt S)) hR hp7 hκ (h.1.2 p hp7 0 (by omega)) (h.1.2 p hp7 1 (by omega)) (by show 0 + 10 < 20; omega)
    · refine act_no hw (fun μ hR h => ?_) (fun μ hR h => ?_)
      · unfold fX6_act fX6_act_b24
        rw [chk_t c_c, cr6 hR, bd1_s, forget_e, bd1_s, isPerson_i (S := pT S (0, gt S)) (HR_zpI hR) hw2 (InvC_fg hw h) hp, bd2_s, if_neg one_ne, isIn_z hb, bd2_s, if_pos rfl]
      · unfold fX7_act fX7_act_b22
        rw [chk_t m_c, lt_e, isOne_i (S := pT S (0, gt S)) hw2 (hM μ h) hp, bd2_s, if_neg one_ne, lh_n hb]
