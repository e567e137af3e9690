-- THE READER OF THE CLASS
theorem wsp_w {l : Nat → Int32} {e w : Nat} (h : wsp l = (e, some w)) : w < 7 ∧ e = zWd w ∧ gW l w = (e, some w) := by
  have g : ∀ v, v < 7 → gW l v = (e, some w) → w < 7 ∧ e = zWd w ∧ gW l w = (e, some w) := by
    intro v hv q
    have q0 := q
    unfold gW at q
    have q1 := congrArg Prod.fst q
    have q2 := congrArg Prod.snd q
    dsimp only at q1 q2
    by_cases c : pmW v l (zWd v) 0 = zWd v
    · rw [if_pos c] at q2
      cases q2
      exact ⟨hv, by rw [← q1, c], q0⟩
    · rw [if_neg c] at q2
      cases q2
  unfold wsp at h
  split at h
  · exact g 0 (by omega) h
  · split at h
    · split at h
      · exact g 1 (by omega) h
      · split at h
        · exact g 2 (by omega) h
        · cases h
    · split at h
      · exact g 3 (by omega) h
      · split at h
        · exact g 4 (by omega) h
        · split at h
          · exact g 5 (by omega) h
          · split at h
            · exact g 6 (by omega) h
            · cases h
theorem wd_pos : ∀ i, i < 47 → 0 ≤ wdA i := by decide +kernel
theorem sW_in : ∀ w, w < 7 → sWd w + zWd w < 47 ∧ 3 ≤ zWd w ∧ zWd w ≤ 6 := by decide
theorem pmW_in {n w P : Nat} {x : Nat → Int32} (hw : w < 7) : ∀ r j, j + r ≤ zWd w → P + j ≤ n → P + pmW w (fun j => lx n x (P + j)) r j ≤ n := by
  have hs := sW_in w hw
  intro r
  induction r with
  | zero => intro j _ q; exact q
  | succ r ih =>
    intro j q1 q2
    unfold pmW
    by_cases h : lx n x (P + j) = wdA (sWd w + j)
    · rw [if_pos h]
      have : P + j < n := lx_in (by rw [h]; exact wd_pos _ (by omega))
      exact ih (j + 1) (by omega) (by omega)
    · rw [if_neg h]
      exact q2
theorem wsp_in {n P : Nat} {x : Nat → Int32} (hP : P ≤ n) : P + (wsp (fun j => lx n x (P + j))).1 ≤ n := by
  have g : ∀ w, w < 7 → P + (gW (fun j => lx n x (P + j)) w).1 ≤ n := fun w hw => pmW_in hw (zWd w) 0 (by omega) hP
  unfold wsp
  split
  · exact g 0 (by omega)
  · split
    · next h =>
      have h' : lx n x (P + 0) = 119 := h
      have : P + 0 < n := lx_in (x := x) (by rw [h']; decide)
      split
      · exact g 1 (by omega)
      · split
        · exact g 2 (by omega)
        · omega
    · split
      · exact g 3 (by omega)
      · split
        · exact g 4 (by omega)
        · split
          · exact g 5 (by omega)
          · split
            · exact g 6 (by omega)
            · exact hP
theorem tell_wf {w v : Nat} {σ : Sg} (hW : Wf σ) (h : okN w 0 σ v = true) (hv : v ≤ 99) (h0 : w ≠ 0) : Wf (tell w v σ) ∧ sN (tell w v σ) = sN σ := by
  obtain ⟨q1, q2, q3, q4, q5, q6⟩ := hW
  have hb : ∀ r, r < 32 → ∀ v, v < 5 → r ||| 2 ^ v ≤ 31 ∧ r &&& (31 - 2 ^ v) ≤ 31 := by decide +kernel
  match w, h, h0 with
  | 1, h, _ => exact ⟨⟨q1, ⟨of_decide_eq_true h, hv⟩, q3, q4, q5, q6⟩, rfl⟩
  | 2, h, _ => exact ⟨⟨q1, q2, ⟨of_decide_eq_true h, by show v ≤ 999; omega⟩, q4, q5, q6⟩, rfl⟩
  | 3, h, _ => exact ⟨⟨q1, q2, q3, fun b e => by cases e; exact of_decide_eq_true h, q5, q6⟩, rfl⟩
  | 4, h, _ => exact ⟨⟨q1, q2, q3, q4, (hb _ (by omega) v (by have : v ≤ 4 := of_decide_eq_true h; omega)).2, q6⟩, rfl⟩
  | 5, h, _ => exact ⟨⟨q1, q2, q3, q4, (hb _ (by omega) v (by have : v ≤ 4 := of_decide_eq_true h; omega)).1, q6⟩, rfl⟩
  | w + 6, h, _ => exact ⟨⟨q1, q2, q3, q4, (hb _ (by omega) v (by have : v ≤ 4 := of_decide_eq_true h; omega)).2, q6⟩, rfl⟩
theorem pers_s {n Q : Nat} {x : Nat → Int32} {σ : Sg} {q : Sg × Nat} (hW : Wf σ) (hN : sN σ < 7) (h : pers n x σ Q = .inr q) : Wf q.1 ∧ sN σ ≤ sN q.1 ∧ Q + 1 ≤ q.2 ∧ q.2 ≤ n := by
  unfold pers at h
  cases ea : oneN n x 0 0 σ Q with
  | inl f => rw [ea] at h; cases h
  | inr a =>
    rw [ea] at h
    dsimp only at h
    cases eb : oneN n x 0 1 σ a.2 with
    | inl f => rw [eb] at h; cases h
    | inr b =>
      rw [eb] at h
      dsimp only at h
      cases ec : oneN n x 0 2 σ b.2 with
      | inl f => rw [ec] at h; cases h
      | inr c =>
        rw [ec] at h
        dsimp only at h
        cases ed : oneN n x 0 3 σ c.2 with
        | inl f => rw [ed] at h; cases h
        | inr d =>
          rw [ed] at h
          cases h
          have sa := oneN_s ea
          have sb := oneN_s eb
          have sc := oneN_s ec
          have sd := oneN_s ed
          have oa : a.1 ≤ 6 := of_decide_eq_true sa.1
          have ob : b.1 ≤ 9 := of_decide_eq_true sb.1
          have oc : 1 ≤ c.1 ∧ c.1 ≤ 40 := of_decide_eq_true sc.1
          have od : d.1 ≤ 40 := of_decide_eq_true sd.1
          exact ⟨Wf_addP hW hN oa ob oc.1 oc.2 od, Nat.le_succ _, by show Q + 1 ≤ d.2; omega, sd.2.2.2⟩
theorem pers_f {n Q f : Nat} {x : Nat → Int32} {σ : Sg} (hQ : Q ≤ n) (h : pers n x σ Q = .inl f) : f ≤ n := by
  unfold pers at h
  cases ea : oneN n x 0 0 σ Q with
  | inl g => rw [ea] at h; cases h; exact oneN_f hQ ea
  | inr a =>
    rw [ea] at h
    dsimp only at h
    cases eb : oneN n x 0 1 σ a.2 with
    | inl g => rw [eb] at h; cases h; exact oneN_f (oneN_s ea).2.2.2 eb
    | inr b =>
      rw [eb] at h
      dsimp only at h
      cases ec : oneN n x 0 2 σ b.2 with
      | inl g => rw [ec] at h; cases h; exact oneN_f (oneN_s eb).2.2.2 ec
      | inr c =>
        rw [ec] at h
        dsimp only at h
        cases ed : oneN n x 0 3 σ c.2 with
        | inl g => rw [ed] at h; cases h; exact oneN_f (oneN_s ec).2.2.2 ed
        | inr d => rw [ed] at h; cases h
theorem itm_s {n P : Nat} {x : Nat → Int32} {σ : Sg} {q : Sg × Nat} (hW : Wf σ) (hP : P ≤ n) (h : itm n x σ P = .inr q) : Wf q.1 ∧ sN σ ≤ sN q.1 ∧ P + 1 ≤ q.2 ∧ q.2 ≤ n := by
  have hin := wsp_in (n := n) (P := P) (x := x) hP
  unfold itm itmW at h
  cases e : wsp (fun j => lx n x (P + j)) with
  | mk m o =>
    rw [e] at h hin
    cases o with
    | none => cases h
    | some w =>
      obtain ⟨hw, hz, _⟩ := wsp_w e
      have hz3 := (sW_in w hw).2.1
      have h2 : (if w = 0 then (if sN σ = 7 then (.inl P : Nat ⊕ (Sg × Nat)) else pers n x σ (P + m)) else if w = 4 then .inr (wB σ none, P + m) else tell1 n x w σ (P + m)) = .inr q := h
      have hin2 : P + m ≤ n := hin
      by_cases h0 : w = 0
      · rw [if_pos h0] at h2
        by_cases h7 : sN σ = 7
        · rw [if_pos h7] at h2; cases h2
        · rw [if_neg h7] at h2
          have := hW.1
          obtain ⟨a1, a2, a3, a4⟩ := pers_s hW (by omega) h2
          exact ⟨a1, a2, by omega, a4⟩
      · rw [if_neg h0] at h2
        by_cases h4 : w = 4
        · rw [if_pos h4] at h2
          cases h2
          exact ⟨Wf_wB hW (fun q h => by cases h), Nat.le_refl _, by show P + 1 ≤ P + m; omega, hin2⟩
        · rw [if_neg h4] at h2
          unfold tell1 at h2
          cases ea : oneN n x w 0 σ (P + m) with
          | inl f => rw [ea] at h2; cases h2
          | inr a =>
            rw [ea] at h2
            cases h2
            have sa := oneN_s ea
            obtain ⟨b1, b2⟩ := tell_wf hW sa.1 sa.2.1 h0
            exact ⟨b1, Nat.le_of_eq b2.symm, by show P + 1 ≤ a.2; omega, sa.2.2.2⟩
theorem itm_f {n P f : Nat} {x : Nat → Int32} {σ : Sg} (hP : P ≤ n) (h : itm n x σ P = .inl f) : f ≤ n := by
  have hin := wsp_in (n := n) (P := P) (x := x) hP
  unfold itm itmW at h
  cases e : wsp (fun j => lx n x (P + j)) with
  | mk m o =>
    rw [e] at h hin
    have hin2 : P + m ≤ n := hin
    cases o with
    | none => cases h; exact hin2
    | some w =>
      have h2 : (if w = 0 then (if sN σ = 7 then (.inl P : Nat ⊕ (Sg × Nat)) else pers n x σ (P + m)) else if w = 4 then .inr (wB σ none, P + m) else tell1 n x w σ (P + m)) = .inl f := h
      by_cases h0 : w = 0
      · rw [if_pos h0] at h2
        by_cases h7 : sN σ = 7
        · rw [if_pos h7] at h2; cases h2; exact hP
        · rw [if_neg h7] at h2
          exact pers_f hin2 h2
      · rw [if_neg h0] at h2
        by_cases h4 : w = 4
        · rw [if_pos h4] at h2; cases h2
        · rw [if_neg h4] at h2
          unfold tell1 at h2
          cases ea : oneN n x w 0 σ (P + m) with
          | inl g => rw [ea] at h2; cases h2; exact oneN_f hin2 ea
          | inr a => rw [ea] at h2; cases h2
theorem rng {lo hi v : Nat} (h1 : lo < 1000) (h2 : hi < 1000) (h3 : v ≤ 99) : nI lo ≤ nI v ∧ nI v ≤ nI hi ↔ lo ≤ v ∧ v ≤ hi := by
  rw [nI_leI (by omega) (by omega), nI_leI (by omega) (by omega)]
def ICR (Z : ZMem) (σ : Sg) (r : Nat ⊕ (Sg × Nat)) (out : Option ZMem) : Prop := (∃ f P', r = .inl f ∧ out = some (rM Z σ P' (some f))) ∨ ∃ q, r = .inr q ∧ out = some (rM Z q.1 q.2 none)
section
variable {n : Nat} {x : Nat → Int32} {Z : ZMem} {σ : Sg} {P : Nat}
theorem pers_c (hR : HR Z) (hL : LT n x Z) (hW : Wf σ) (hP : P ≤ n) (hN : sN σ < 7) (v : Int32) : ICR Z σ (pers n x σ P) (fX5_readPerson 131 94 v (rM Z σ P none)) := by
  have hN7 := hW.1
  have hR2 : HR (ovl Z 96 σ) := HR_ovl hR
  have hL2 : LT n x (ovl Z 96 σ) := LT_ovl hL hN7
  have hn := hL.1
  have e1 : ∀ P, zI (rM Z σ P none) 96 1 = nI (sN σ) := fun P => rM_d hN7 P none (by omega)
  have st : fX5_readPerson 131 94 v (rM Z σ P none) = bd2 (fX5_readNumber 131 94 (0 : Int32) (6 : Int32) (rM Z σ P none)) (fun μ5 r6 => bd2 (fX5_readNumber 131 94 (0 : Int32) (9 : Int32) μ5) (fun μ8 r9 => bd2 (fX5_readNumber 131 94 (1 : Int32) (40 : Int32) μ8) (fun μ11 r12 => bd2 (fX5_readNumber 131 94 (0 : Int32) (40 : Int32) μ11) (fun μ14 r15 => (if (zI μ14 94 4) = (-1 : Int32) then bd1 (zRc 131 4 μ14 94 2) (fun r17 => bd1 (fX4_addPerson 131 r17 r6 r9 r12 r15 μ14) (fun μ20 => some μ20)) else some μ14))))) := by
    unfold fX5_readPerson fX5_readPerson_b73
    rw [chk_t c5_c, r96 (HR_rd hR2), bd1_s, e1, if_pos (show nI (sN σ) < (7 : Int32) from (nI_ltI (b := 7) (by omega) (by omega)).mpr hN)]
  rw [st]
  unfold pers
  have l (P : Nat) (f : Nat) (hf : f ≤ 160) : ¬ zI (rM Z σ P (some f)) 94 4 = -1 := by
    rw [rd_4]
    exact nI_m1 (by omega)
  rcases num_c (P := P) (w := 0) (i := 0) (σ := σ) (lo := 0) (hi := 6) hR2 hL2 (by omega) (fun v hv => (rng (lo := 0) (hi := 6) (by omega) (by omega) hv).trans ⟨fun q => decide_eq_true q.2, fun q => ⟨Nat.zero_le _, of_decide_eq_true q⟩⟩) with ⟨f, P', ea, k⟩ | ⟨a, ea, k⟩
  · have hf := oneN_f hP ea
    rw [k, bd2_s, numF_c (by omega), bd2_s, numF_c (by omega), bd2_s, numF_c (by omega), bd2_s, if_neg (l _ _ (by omega)), ea]
    exact Or.inl ⟨f, P', rfl, rfl⟩
  · have sa := oneN_s ea
    rw [k, bd2_s, ea]
    dsimp only
    rcases num_c (P := a.2) (w := 0) (i := 1) (σ := σ) (lo := 0) (hi := 9) hR2 hL2 (by omega) (fun v hv => (rng (lo := 0) (hi := 9) (by omega) (by omega) hv).trans ⟨fun q => decide_eq_true q.2, fun q => ⟨Nat.zero_le _, of_decide_eq_true q⟩⟩) with ⟨f, P', eb, k⟩ | ⟨b, eb, k⟩
    · have hf := oneN_f sa.2.2.2 eb
      rw [k, bd2_s, numF_c (by omega), bd2_s, numF_c (by omega), bd2_s, if_neg (l _ _ (by omega)), eb]
      exact Or.inl ⟨f, P', rfl, rfl⟩
    · have sb := oneN_s eb
      rw [k, bd2_s, eb]
      dsimp only
      rcases num_c (P := b.2) (w := 0) (i := 2) (σ := σ) (lo := 1) (hi := 40) hR2 hL2 (by omega) (fun v hv => (rng (lo := 1) (hi := 40) (by omega) (by omega) hv).trans ⟨fun q => decide_eq_true q, fun q => of_decide_eq_true q⟩) with ⟨f, P', ec, k⟩ | ⟨c, ec, k⟩
      · have hf := oneN_f sb.2.2.2 ec
        rw [k, bd2_s, numF_c (by omega), bd2_s, if_neg (l _ _ (by omega)), ec]
        exact Or.inl ⟨f, P', rfl, rfl⟩
      · have sc := oneN_s ec
        rw [k, bd2_s, ec]
        dsimp only
        rcases num_c (P := c.2) (w := 0) (i := 3) (σ := σ) (lo := 0) (hi := 40) hR2 hL2 (by omega) (fun v hv => (rng (lo := 0) (hi := 40) (by omega) (by omega) hv).trans ⟨fun q => decide_eq_true q.2, fun q => ⟨Nat.zero_le _, of_decide_eq_true q⟩⟩) with ⟨f, P', ed, k⟩ | ⟨d, ed, k⟩
        · have hf := oneN_f sc.2.2.2 ed
          rw [k, bd2_s, if_neg (l _ _ (by omega)), ed]
          exact Or.inl ⟨f, P', rfl, rfl⟩
        · rw [k, bd2_s, rd_4, if_pos (show oI none = (-1 : Int32) from rfl), r96 (HR_rd hR2), bd1_s, ed]
          dsimp only
          refine Or.inr ⟨_, rfl, ?_⟩
          have hV : VH (ovl (rd Z d.2 none) 96 σ) 96 σ := VH_o _ _ _
          have k2 := addPerson_c (k := a.1) (a := b.1) (s := c.1) (p := d.1) VS96 (HR_ovl (HR_rd hR)) hV hN
          unfold rM
          rw [rd_ovl hN7, k2, bd1_s, ovl_ovl (Nat.le_succ _)]
          dsimp only
          rw [rd_ovl (σ := addP σ a.1 b.1 c.1 d.1) (by show sN σ + 1 ≤ 7; omega)]
theorem tell1_c {w : Nat} {lo hi : Int32} {g : Int32 → ZMem → Option ZMem} (hR : HR Z) (hL : LT n x Z) (hW : Wf σ) (hP : P ≤ n) (ho : ∀ v, v ≤ 99 → (lo ≤ nI v ∧ nI v ≤ hi ↔ okN w 0 σ v = true)) (hg : ∀ v Q, okN w 0 σ v = true → v ≤ 99 → g (nI v) (rM Z σ Q none) = some (rM Z (tell w v σ) Q none)) (hf : ∀ f Q v, f ≤ 160 → g v (rM Z σ Q (some f)) = some (rM Z σ Q (some f))) : ICR Z σ (tell1 n x w σ P) (bd2 (fX5_readNumber 131 94 lo hi (rM Z σ P none)) (fun μ10 r11 => bd1 (g r11 μ10) (fun μ13 => some μ13))) := by
  have hN7 := hW.1
  have hn := hL.1
  unfold tell1
  rcases num_c (P := P) (w := w) (i := 0) (σ := σ) (lo := lo) (hi := hi) (HR_ovl hR) (LT_ovl hL hN7) (by omega) ho with ⟨f, P', ea, k⟩ | ⟨a, ea, k⟩
  · have := oneN_f hP ea
    rw [k, bd2_s, hf f P' _ (by omega), bd1_s, ea]
    exact Or.inl ⟨f, P', rfl, rfl⟩
  · have sa := oneN_s ea
    rw [k, bd2_s, hg a.1 a.2 sa.1 sa.2.1, bd1_s, ea]
    exact Or.inr ⟨_, rfl, rfl⟩
theorem item_c (hR : HR Z) (hL : LT n x Z) (hW : Wf σ) (hP : P ≤ n) : ICR Z σ (itm n x σ P) (fX5_readItem 131 94 (rM Z σ P none)) := by
  have hN7 := hW.1
  have hn := hL.1
  have hR2 : HR (ovl Z 96 σ) := HR_ovl hR
  have hL2 : LT n x (ovl Z 96 σ) := LT_ovl hL hN7
  have hin := wsp_in (n := n) (P := P) (x := x) hP
  have kw := word_c (F := none) hR2 hL2 (by omega : P < 900)
  have hD := hW.2.2.1
  unfold fX5_readItem fX5_readItem_b156 itm itmW
  rw [chk_t c5_c, kw]
  cases e : wsp (fun j => lx n x (P + j)) with
  | mk m o =>
    rw [e] at hin
    have hin2 : P + m ≤ n := hin
    cases o with
    | none =>
      have hne : ¬ zI (rM Z σ (P + m) (some (P + m))) 94 4 = -1 := by
        rw [rd_4]
        exact nI_m1 (by omega)
      refine Or.inl ⟨P + m, P + m, rfl, ?_⟩
      show bd2 (some (rM Z σ (P + m) (some (P + m)), -1)) _ = _
      rw [bd2_s, if_neg hne]
    | some w =>
      obtain ⟨hw, hz, _⟩ := wsp_w e
      show ICR Z σ (if w = 0 then (if sN σ = 7 then (.inl P : Nat ⊕ (Sg × Nat)) else pers n x σ (P + m)) else if w = 4 then .inr (wB σ none, P + m) else tell1 n x w σ (P + m)) (bd2 (some (rM Z σ (P + m) none, nI w)) _)
      have h4 : zI (rM Z σ (P + m) none) 94 4 = -1 := rd_4 _ _ _
      have hf : ∀ f Q v, f ≤ 160 → _ := fun f Q v (hf : f ≤ 160) => tell_f (Z := Z) (σ := σ) (P := Q) none (f := f) (by omega) v 0
      have hf1 := fun f Q v s (hf : f ≤ 160) => tell_f (Z := Z) (σ := σ) (P := Q) none (f := f) (by omega) v s
      rw [bd2_s, if_pos h4]
      rcases k7 hw with rfl | rfl | rfl | rfl | rfl | rfl | rfl
      · rw [if_pos rfl, if_pos (show nI 0 = (0 : Int32) from rfl)]
        by_cases h7 : sN σ = 7
        · rw [if_pos h7]
          refine Or.inl ⟨P, P + m, rfl, ?_⟩
          have e1 : zI (rM Z σ (P + m) none) 96 1 = nI (sN σ) := rM_d hN7 _ none (by omega)
          unfold fX5_readPerson
          rw [chk_t c5_c, r96 (HR_rd hR2), bd1_s, e1, if_neg (show ¬ nI (sN σ) < (7 : Int32) from fun q => by have := (nI_ltI (b := 7) (by omega) (by omega)).mp q; omega), lt_e, rd_3, rd_f, bd1_s]
        · rw [if_neg h7]
          have k := pers_c hR hL hW (P := P + m) hin2 (by omega) (zI (rM Z σ P none) 94 3)
          rcases k with ⟨f, P', a1, a2⟩ | ⟨q, a1, a2⟩
          · exact Or.inl ⟨f, P', a1, by rw [a2, bd1_s]⟩
          · exact Or.inr ⟨q, a1, by rw [a2, bd1_s]⟩
      · rw [if_neg (by decide), if_neg (by decide), if_neg (show ¬ nI 1 = (0 : Int32) by decide), if_pos (show nI 1 = (1 : Int32) from rfl)]
        exact tell1_c (w := 1) (g := fun v μ => fX5_tellWeight 131 94 v μ) hR hL hW hin2 (fun v hv => (rng (lo := 1) (hi := 99) (by omega) (by omega) hv).trans ⟨fun q => decide_eq_true q.1, fun q => ⟨of_decide_eq_true q, hv⟩⟩) (fun v Q _ _ => tellW_c hR hN7 v) (fun f Q v h => (hf f Q v h).1)
      · have e4 : zI (rM Z σ (P + m) none) 96 4 = nI (sD σ) := rM_d hN7 _ none (by omega)
        rw [if_neg (by decide), if_neg (by decide), if_neg (show ¬ nI 2 = (0 : Int32) by decide), if_neg (show ¬ nI 2 = (1 : Int32) by decide), if_pos (show nI 2 = (2 : Int32) from rfl), r96 (HR_rd hR2), bd1_s, e4]
        exact tell1_c (w := 2) (g := fun v μ => fX5_tellWay 131 94 v μ) hR hL hW hin2 (fun v hv => (rng (lo := sD σ) (hi := 99) (by omega) (by omega) hv).trans ⟨fun q => decide_eq_true q.1, fun q => ⟨of_decide_eq_true q, hv⟩⟩) (fun v Q _ _ => tellY_c hR hN7 v) (fun f Q v h => (hf f Q v h).2.1)
      · have e1 : zI (rM Z σ (P + m) none) 96 1 = nI (sN σ) := rM_d hN7 _ none (by omega)
        rw [if_neg (by decide), if_neg (by decide), if_neg (show ¬ nI 3 = (0 : Int32) by decide), if_neg (show ¬ nI 3 = (1 : Int32) by decide), if_neg (show ¬ nI 3 = (2 : Int32) by decide), if_pos (show nI 3 = (3 : Int32) from rfl), r96 (HR_rd hR2), bd1_s, e1]
        refine tell1_c (w := 3) (g := fun v μ => fX5_tellBearer 131 94 v μ) hR hL hW hin2 (fun v hv => ?_) (fun v Q _ _ => tellB_c hR hN7 (some v)) (fun f Q v h => (hf f Q v h).2.2.1)
        by_cases h0 : sN σ = 0
        · rw [h0]
          refine ⟨fun q => ?_, fun q => ?_⟩
          · have q2 := q.2
            rw [fa_le, nI_toInt (by omega)] at q2
            have : (nI 0 - (1 : Int32)).toInt = -1 := by decide
            omega
          · have : v < sN σ := of_decide_eq_true q
            omega
        · rw [show nI (sN σ) - (1 : Int32) = nI (sN σ - 1) from pk_sub (b := 1) (by omega)]
          refine (rng (lo := 0) (hi := sN σ - 1) (by omega) (by omega) hv).trans ⟨fun q => decide_eq_true (by omega), fun q => ?_⟩
          have : v < sN σ := of_decide_eq_true q
          omega
      · rw [if_neg (by decide), if_pos rfl, if_neg (show ¬ nI 4 = (0 : Int32) by decide), if_neg (show ¬ nI 4 = (1 : Int32) by decide), if_neg (show ¬ nI 4 = (2 : Int32) by decide), if_neg (show ¬ nI 4 = (3 : Int32) by decide), if_pos (show nI 4 = (4 : Int32) from rfl)]
        have k := tellB_c (Z := Z) (σ := σ) (P := P + m) hR hN7 none
        have k' : fX5_tellBearer 131 94 (-1) (rM Z σ (P + m) none) = some (rM Z (wB σ none) (P + m) none) := k
        exact Or.inr ⟨_, rfl, by rw [k', bd1_s]⟩
      · rw [if_neg (by decide), if_neg (by decide), if_neg (show ¬ nI 5 = (0 : Int32) by decide), if_neg (show ¬ nI 5 = (1 : Int32) by decide), if_neg (show ¬ nI 5 = (2 : Int32) by decide), if_neg (show ¬ nI 5 = (3 : Int32) by decide), if_neg (show ¬ nI 5 = (4 : Int32) by decide), if_pos (show nI 5 = (5 : Int32) from rfl)]
        exact tell1_c (w := 5) (g := fun v μ => fX5_tellSort 131 94 v 1 μ) hR hL hW hin2 (fun v hv => (rng (lo := 0) (hi := 4) (by omega) (by omega) hv).trans ⟨fun q => decide_eq_true q.2, fun q => ⟨Nat.zero_le _, of_decide_eq_true q⟩⟩) (fun v Q h _ => tellS_c hR hW (of_decide_eq_true h) true) (fun f Q v h => (hf1 f Q v 1 h).2.2.2)
      · rw [if_neg (by decide), if_neg (by decide), if_neg (show ¬ nI 6 = (0 : Int32) by decide), if_neg (show ¬ nI 6 = (1 : Int32) by decide), if_neg (show ¬ nI 6 = (2 : Int32) by decide), if_neg (show ¬ nI 6 = (3 : Int32) by decide), if_neg (show ¬ nI 6 = (4 : Int32) by decide), if_neg (show ¬ nI 6 = (5 : Int32) by decide)]
        exact tell1_c (w := 6) (g := fun v μ => fX5_tellSort 131 94 v 0 μ) hR hL hW hin2 (fun v hv => (rng (lo := 0) (hi := 4) (by omega) (by omega) hv).trans ⟨fun q => decide_eq_true q.2, fun q => ⟨Nat.zero_le _, of_decide_eq_true q⟩⟩) (fun v Q h _ => tellS_c hR hW (of_decide_eq_true h) false) (fun f Q v h => (hf1 f Q v 0 h).2.2.2)
end
-- ITEMS, one behind the other
def itsN (r : Nat ⊕ (Sg × Nat)) (g : Sg × Nat → Nat ⊕ (Sg × Nat)) : Nat ⊕ (Sg × Nat) := match r with
  | .inl f => .inl f
  | .inr q => g q
/-- from the place P on, c ITEMS being told: the FAULT, or how things stand and how many ITEMS -/
def its (n : Nat) (x : Nat → Int32) : Nat → Sg → Nat → Nat → Nat ⊕ (Sg × Nat)
  | 0, _, _, _ => .inl 0
  | k + 1, σ, P, c => if P < n then (if lx n x P = 59 then itsN (itm n x σ (P + 1)) (fun q => its n x k q.1 q.2 (c + 1)) else .inl P) else .inr (σ, c)
theorem its_c {n : Nat} {x : Nat → Int32} {Z : ZMem} (hR : HR Z) (hL : LT n x Z) : ∀ k P σ c, Wf σ → P ≤ n → c ≤ P → n + 2 < k + P → (∃ f τ P' c', its n x k σ P c = .inl f ∧ f ≤ n ∧ sN τ ≤ 7 ∧ fX5_readItems_b29 131 k 94 (nI c) (rM Z σ P none) = some (rM Z τ P' (some f), c')) ∨ ∃ q P', its n x k σ P c = .inr q ∧ Wf q.1 ∧ sN σ ≤ sN q.1 ∧ fX5_readItems_b29 131 k 94 (nI c) (rM Z σ P none) = some (rM Z q.1 P' none, nI q.2) := by
  have hn := hL.1
  intro k
  induction k with
  | zero => intro P σ c _ _ _ _; omega
  | succ k ih =>
    intro P σ c hW hP hc hk
    have hN7 := hW.1
    have hR2 : HR (ovl Z 96 σ) := HR_ovl hR
    have hL2 : LT n x (ovl Z 96 σ) := LT_ovl hL hN7
    have e1 : zI (rM Z σ P none) 94 1 = nI n := (rdv_f hL2 P none).2.1
    obtain ⟨k', rfl⟩ : ∃ k', k = k' + 1 := ⟨k - 1, by omega⟩
    rw [fX5_readItems_b29, its]
    unfold fX5_readItems_b79
    rw [rd_4, if_pos (show oI none = (-1 : Int32) from rfl), e1, rd_3]
    by_cases hPn : P < n
    · have h160 : ¬ (160 : Int32) ≤ nI c := fun q => by have := (nI_leI (a := 160) (by omega) (by omega)).mp q; omega
      have c1 : ¬ nI n ≤ nI P := fun q => by have := (nI_leI (by omega) (by omega)).mp q; omega
      rw [if_neg c1, if_neg h160, if_pos hPn, expect_c hR2 hL2 (by omega), bd1_s]
      by_cases h59 : lx n x P = 59
      · rw [if_pos h59, if_pos h59, rd_4, if_pos (show oI none = (-1 : Int32) from rfl)]
        rcases item_c hR hL hW (P := P + 1) (by omega) with ⟨f, P', a1, a2⟩ | ⟨q, a1, a2⟩
        · have hf := itm_f (by omega) a1
          rw [a2, bd1_s, a1, fX5_readItems_b29, rd_4, if_neg (show ¬ oI (some f) = (-1 : Int32) from nI_m1 (by omega))]
          exact Or.inl ⟨f, σ, P', _, rfl, hf, hN7, rfl⟩
        · obtain ⟨s1, s2, s3, s4⟩ := itm_s hW (by omega) a1
          rw [a2, bd1_s, a1, nI_1]
          rcases ih q.2 q.1 (c + 1) s1 s4 (by omega) (by omega) with ⟨f, τ, P', c', b1, b2, b3, b4⟩ | ⟨r, P', b1, b2, b3, b4⟩
          · exact Or.inl ⟨f, τ, P', c', b1, b2, b3, b4⟩
          · exact Or.inr ⟨r, P', b1, b2, Nat.le_trans s2 b3, b4⟩
      · rw [if_neg h59, if_neg h59, rd_4, if_neg (show ¬ oI (some P) = (-1 : Int32) from nI_m1 (by omega)), fX5_readItems_b29, rd_4, if_neg (show ¬ oI (some P) = (-1 : Int32) from nI_m1 (by omega))]
        exact Or.inl ⟨P, σ, P, _, rfl, hP, hN7, rfl⟩
    · have c1 : nI n ≤ nI P := (nI_leI (by omega) (by omega)).mpr (by omega)
      rw [if_pos c1, if_neg hPn]
      exact Or.inr ⟨_, P, rfl, hW, Nat.le_refl _, rfl⟩
