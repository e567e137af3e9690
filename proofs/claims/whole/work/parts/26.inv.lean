-- THE WHOLE STATE, AND WHAT THE TWO SIDES HOLD OF IT
abbrev Sh : Type := Nat × Nat × Nat × Nat × (Nat → Int64)
abbrev hW (h : Sh) : Nat := h.1
abbrev hO (h : Sh) : Nat := h.2.1
abbrev hZ (h : Sh) : Nat := h.2.2.1
abbrev hQ (h : Sh) : Nat := h.2.2.2.1
abbrev hE (h : Sh) : Nat → Int64 := h.2.2.2.2
abbrev St : Type := Sg × Option Sg × Int32 × (Nat → Int32) × (Nat → Sh) × Nat × (Nat → Int32)
abbrev gV (S : St) : Sg := S.1
abbrev gI (S : St) : Option Sg := S.2.1
abbrev gF (S : St) : Int32 := S.2.2.1
abbrev gR (S : St) : Nat → Int32 := S.2.2.2.1
abbrev gS (S : St) : Nat → Sh := S.2.2.2.2.1
abbrev gn (S : St) : Nat := S.2.2.2.2.2.1
abbrev gt (S : St) : Nat → Int32 := S.2.2.2.2.2.2
abbrev pV (S : St) (x : Sg) : St := (x, S.2)
abbrev pR (S : St) (x : Nat → Int32) : St := (S.1, S.2.1, S.2.2.1, x, S.2.2.2.2)
abbrev pS (S : St) (x : Nat → Sh) : St := (S.1, S.2.1, S.2.2.1, S.2.2.2.1, x, S.2.2.2.2.2)
def sno (S : St) (k : Nat) : St := pR S (fun j => if j = k then gR S j + 1 else gR S j)
def VH (μ : ZMem) (v : Nat) (σ : Sg) : Prop := (∀ k, 1 ≤ k → k ≤ 8 → μ.1 v k = scv σ k) ∧ ∀ p, p < sN σ → ∀ j, j < 5 → μ.1 (v + 2 + p) j = nI (sP σ p j)
def MH (μ : ZMem) (σ : Sg) : Prop := (∀ k, k < 8 → μ.1 108 k = scv σ (k + 1)) ∧ ∀ p, p < 7 → ∀ j, j < 5 → μ.1 (110 + j) p = nI (sP σ p j)
def KH (μ : ZMem) (a : Nat) (σ : Sg) : Prop := ∀ i, i < 43 → μ.1 a i = if i < 35 then nI (sP σ (i % 7) (i / 7)) else scv σ (i - 34)
def SHC (μ : ZMem) (s : Nat) (h : Sh) : Prop := μ.1 (2 + 2 * s) 0 = nI (hW h) ∧ (hW h = 1 → μ.1 (2 + 2 * s) 1 = nI (hO h) ∧ μ.1 (2 + 2 * s) 2 = nI (hZ h) ∧ ∀ i, i < hZ h → μ.2.1 (3 + 2 * s) i = hE h i) ∧ (hW h = 2 → μ.1 (2 + 2 * s) 3 = nI (hQ h))
def SHM (μ : ZMem) (s : Nat) (h : Sh) : Prop := μ.1 115 s = nI (hW h) ∧ (hW h = 1 → μ.1 116 s = nI (hO h) ∧ μ.1 117 s = nI (hZ h) ∧ ∀ i, i < hZ h → μ.2.1 119 (160 * s + i) = hE h i) ∧ (hW h = 2 → μ.1 118 s = nI (hQ h))
def SHw (N : Nat) (h : Sh) : Prop := hW h ≤ 2 ∧ (hW h = 1 → hO h ≤ 3 ∧ hZ h ≤ 160) ∧ (hW h = 2 → hQ h < N)
def WfS (S : St) : Prop := Wf (gV S) ∧ (∀ τ, gI S = some τ → Wf τ) ∧ (∀ s, s < 8 → SHw (sN (gV S)) (gS S s)) ∧ gn S ≤ 100
def sT01 (S : St) : Int32 := if (gI S).isSome then 1 else 0
def InvC (μ : ZMem) (S : St) : Prop := VH μ 18 (gV S) ∧ μ.1 0 8 = sT01 S ∧ (∀ τ, gI S = some τ → VH μ 27 τ) ∧ μ.1 0 9 = gF S ∧ (∀ k, k < 8 → μ.1 107 k = gR S k) ∧ (∀ s, s < 8 → SHC μ s (gS S s)) ∧ μ.1 105 1 = nI (gn S) ∧ ∀ i, i < 20 → i < gn S → μ.1 106 i = gt S i
def zK0 (q : Nat × Nat × Int32) : Bool := decide (121 ≤ q.1)
def CST (μ : ZMem) : Prop := ∀ q ∈ zI0t.filter zK0, μ.1 q.1 q.2.1 = q.2.2
theorem zK0_a : ∀ q ∈ zI0t.filter zK0, 121 ≤ q.1 ∧ q.1 ≤ 123 := by decide +kernel
def InvM (μ : ZMem) (S : St) : Prop := MH μ (gV S) ∧ μ.1 108 41 = sT01 S ∧ (∀ τ, gI S = some τ → KH μ 126 τ) ∧ μ.1 108 8 = gF S ∧ (∀ k, k < 8 → μ.1 109 k = gR S k) ∧ (∀ s, s < 8 → SHM μ s (gS S s)) ∧ μ.1 108 40 = nI (gn S) ∧ (∀ i, i < 20 → i < gn S → μ.1 130 i = gt S i) ∧ μ.1 108 33 = -1 ∧ CST μ
def EqM (μ μ' : ZMem) : Prop := ∀ a k, 108 ≤ a → μ'.1 a k = μ.1 a k ∧ μ'.2.1 a k = μ.2.1 a k
def EqC (μ μ' : ZMem) : Prop := ∀ a k, a < 108 → μ'.1 a k = μ.1 a k ∧ μ'.2.1 a k = μ.2.1 a k
def RC (μ : ZMem) (r : Option (ZMem × Int32)) (q : Int32 × St) : Prop := ∃ μ', r = some (μ', q.1) ∧ HR μ' ∧ InvC μ' q.2 ∧ EqM μ μ'
def RM (μ : ZMem) (r : Option (ZMem × Int32)) (q : Int32 × St) : Prop := ∃ μ', r = some (μ', q.1) ∧ HR μ' ∧ InvM μ' q.2 ∧ EqC μ μ'
def Kp (S : St) (f g : ZMem → Option (ZMem × Int32)) : Prop := ∃ q : Int32 × St, WfS q.2 ∧ (∀ μ, HR μ → InvC μ S → RC μ (f μ) q) ∧ ∀ μ, HR μ → InvM μ S → RM μ (g μ) q
def Inv (μ : ZMem) (S : St) : Prop := HR μ ∧ WfS S ∧ InvC μ S ∧ InvM μ S
theorem VH_f {μ μ' : ZMem} {v : Nat} {σ : Sg} (h : VH μ v σ) (hN : sN σ ≤ 7) (e : ∀ a k, v ≤ a → a < v + 9 → μ'.1 a k = μ.1 a k) : VH μ' v σ := by
  refine ⟨fun k q1 q2 => ?_, fun p q1 j q2 => ?_⟩
  · rw [e _ _ (Nat.le_refl _) (by omega)]
    exact h.1 k q1 q2
  · rw [e _ _ (by omega) (by omega)]
    exact h.2 p q1 j q2
theorem MH_f {μ μ' : ZMem} {σ : Sg} (h : MH μ σ) (e : ∀ a k, (a = 108 ∧ k < 8) ∨ (110 ≤ a ∧ a < 115) → μ'.1 a k = μ.1 a k) : MH μ' σ := by
  refine ⟨fun k q1 => ?_, fun p q1 j q2 => ?_⟩
  · rw [e _ _ (by omega)]
    exact h.1 k q1
  · rw [e _ _ (by omega)]
    exact h.2 p q1 j q2
theorem KH_f {μ μ' : ZMem} {a : Nat} {σ : Sg} (h : KH μ a σ) (e : ∀ k, μ'.1 a k = μ.1 a k) : KH μ' a σ := by
  intro i hi
  rw [e]
  exact h i hi
theorem SHC_f {μ μ' : ZMem} {s : Nat} {h : Sh} (H : SHC μ s h) (e : ∀ k, μ'.1 (2 + 2 * s) k = μ.1 (2 + 2 * s) k) (e2 : ∀ k, μ'.2.1 (3 + 2 * s) k = μ.2.1 (3 + 2 * s) k) : SHC μ' s h := by
  obtain ⟨h1, h2, h3⟩ := H
  refine ⟨?_, fun q => ⟨?_, ?_, fun i hi => ?_⟩, fun q => ?_⟩
  · rw [e]; exact h1
  · rw [e]; exact (h2 q).1
  · rw [e]; exact (h2 q).2.1
  · rw [e2]; exact (h2 q).2.2 i hi
  · rw [e]; exact h3 q
theorem SHM_f {μ μ' : ZMem} {s : Nat} {h : Sh} (H : SHM μ s h) (hz : hW h = 1 → hZ h ≤ 160) (e : ∀ a, 115 ≤ a → a < 119 → μ'.1 a s = μ.1 a s) (e2 : ∀ k, 160 * s ≤ k → k < 160 * s + 160 → μ'.2.1 119 k = μ.2.1 119 k) : SHM μ' s h := by
  obtain ⟨h1, h2, h3⟩ := H
  refine ⟨?_, fun q => ⟨?_, ?_, fun i hi => ?_⟩, fun q => ?_⟩
  · rw [e _ (by omega) (by omega)]; exact h1
  · rw [e _ (by omega) (by omega)]; exact (h2 q).1
  · rw [e _ (by omega) (by omega)]; exact (h2 q).2.1
  · have := hz q
    rw [e2 _ (by omega) (by omega)]; exact (h2 q).2.2 i hi
  · rw [e _ (by omega) (by omega)]; exact h3 q
theorem CST_f {μ μ' : ZMem} (h : CST μ) (e : ∀ a k, 121 ≤ a → a ≤ 123 → μ'.1 a k = μ.1 a k) : CST μ' := by
  intro q hq
  have := zK0_a q hq
  rw [e _ _ this.1 this.2]
  exact h q hq
/-- the class's side does not see its scratch -/
theorem InvC_f {μ μ' : ZMem} {S : St} (hw : WfS S) (h : InvC μ S) (e : ∀ a k, a < 36 ∨ (105 ≤ a ∧ a < 108 ∧ (a = 105 → k = 1)) → μ'.1 a k = μ.1 a k) (e2 : ∀ a k, a < 18 → μ'.2.1 a k = μ.2.1 a k) : InvC μ' S := by
  obtain ⟨h1, h2, h3, h4, h5, h6, h7, h8⟩ := h
  refine ⟨VH_f h1 hw.1.1 (fun a k q1 q2 => e _ _ (by omega)), ?_, fun τ q => VH_f (h3 τ q) (hw.2.1 τ q).1 (fun a k q1 q2 => e _ _ (by omega)), ?_, fun k q => ?_, fun s q => SHC_f (h6 s q) (fun k => e _ _ (by omega)) (fun k => e2 _ _ (by omega)), ?_, fun i q1 q2 => ?_⟩
  · rw [e _ _ (by omega)]; exact h2
  · rw [e _ _ (by omega)]; exact h4
  · rw [e _ _ (by omega)]; exact h5 k q
  · rw [e _ _ (by omega)]; exact h7
  · rw [e _ _ (by omega)]; exact h8 i q1 q2
/-- the model's side does not see its scratch -/
theorem InvM_f {μ μ' : ZMem} {S : St} (hw : WfS S) (h : InvM μ S) (e : ∀ a k, (a = 108 ∧ (k < 9 ∨ k = 33 ∨ k = 40 ∨ k = 41)) ∨ (109 ≤ a ∧ a < 119) ∨ (121 ≤ a ∧ a ≤ 123) ∨ a = 126 ∨ a = 130 → μ'.1 a k = μ.1 a k) (e2 : ∀ k, μ'.2.1 119 k = μ.2.1 119 k) : InvM μ' S := by
  obtain ⟨h1, h2, h3, h4, h5, h6, h7, h8, h9, h10⟩ := h
  refine ⟨MH_f h1 (fun a k q1 => e _ _ (by omega)), ?_, fun τ q => KH_f (h3 τ q) (fun k => e _ _ (by omega)), ?_, fun k q => ?_, fun s q => SHM_f (h6 s q) (fun q1 => ((hw.2.2.1 s q).2.1 q1).2) (fun a q1 q2 => e _ _ (by omega)) (fun k _ _ => e2 _), ?_, fun i q1 q2 => ?_, ?_, CST_f h10 (fun a k q1 q2 => e _ _ (by omega))⟩
  · rw [e _ _ (by omega)]; exact h2
  · rw [e _ _ (by omega)]; exact h4
  · rw [e _ _ (by omega)]; exact h5 k q
  · rw [e _ _ (by omega)]; exact h7
  · rw [e _ _ (by omega)]; exact h8 i q1 q2
  · rw [e _ _ (by omega)]; exact h9
theorem InvC_e {μ μ' : ZMem} {S : St} (hw : WfS S) (h : InvC μ S) (e : EqC μ μ') : InvC μ' S := InvC_f hw h (fun a k q => (e a k (by omega)).1) (fun a k q => (e a k (by omega)).2)
theorem InvM_e {μ μ' : ZMem} {S : St} (hw : WfS S) (h : InvM μ S) (e : EqM μ μ') : InvM μ' S := InvM_f hw h (fun a k q => (e a k (by omega)).1) (fun k => (e _ k (by omega)).2)
theorem EqM_r (μ : ZMem) : EqM μ μ := fun _ _ _ => ⟨rfl, rfl⟩
theorem EqC_r (μ : ZMem) : EqC μ μ := fun _ _ _ => ⟨rfl, rfl⟩
theorem EqM_t {μ ν ξ : ZMem} (h : EqM μ ν) (g : EqM ν ξ) : EqM μ ξ := fun a k q => ⟨(g a k q).1.trans (h a k q).1, (g a k q).2.trans (h a k q).2⟩
theorem EqC_t {μ ν ξ : ZMem} (h : EqC μ ν) (g : EqC ν ξ) : EqC μ ξ := fun a k q => ⟨(g a k q).1.trans (h a k q).1, (g a k q).2.trans (h a k q).2⟩
theorem RC_q {μ : ZMem} {S : St} {x : Int32} {r : Option (ZMem × Int32)} (hR : HR μ) (h : InvC μ S) (e : r = some (μ, x)) : RC μ r (x, S) := ⟨μ, e, hR, h, EqM_r μ⟩
theorem RM_q {μ : ZMem} {S : St} {x : Int32} {r : Option (ZMem × Int32)} (hR : HR μ) (h : InvM μ S) (e : r = some (μ, x)) : RM μ r (x, S) := ⟨μ, e, hR, h, EqC_r μ⟩
/-- both sides, one after the other -/
theorem Kp_b {S : St} {f g : ZMem → Option (ZMem × Int32)} (h : Kp S f g) {μ : ZMem} (hI : Inv μ S) : ∃ μ1 μ2 r S', f μ = some (μ1, r) ∧ g μ1 = some (μ2, r) ∧ Inv μ2 S' := by
  obtain ⟨q, hw, hc, hm⟩ := h
  obtain ⟨i1, i2, i3, i4⟩ := hI
  obtain ⟨μ1, e1, r1, c1, m1⟩ := hc μ i1 i3
  obtain ⟨μ2, e2, r2, c2, m2⟩ := hm μ1 r1 (InvM_e i2 i4 m1)
  exact ⟨μ1, μ2, q.1, q.2, e1, e2, r2, hw, InvC_e hw c1 m2, c2⟩
theorem VH_e {μ : ZMem} {v : Nat} {σ : Sg} (h : VH μ v σ) : ovl μ v σ = μ := by
  refine Prod.ext ?_ rfl
  funext a k
  simp only [ovl]
  by_cases ha : a = v
  · subst ha
    by_cases hk : 1 ≤ k ∧ k ≤ 8
    · rw [if_pos rfl, if_pos hk, h.1 k hk.1 hk.2]
    · rw [if_pos rfl, if_neg hk]
  · rw [if_neg ha]
    by_cases hp : v + 2 ≤ a ∧ a < v + 2 + sN σ ∧ k < 5
    · rw [if_pos hp, ← h.2 (a - (v + 2)) (by omega) k hp.2.2, show v + 2 + (a - (v + 2)) = a by omega]
    · rw [if_neg hp]
theorem VH_o (μ : ZMem) (v : Nat) (σ : Sg) : VH (ovl μ v σ) v σ := ⟨fun _ q1 q2 => ovl_s μ v σ ⟨q1, q2⟩, fun _ q1 _ q2 => ovl_p μ v σ q1 q2⟩
theorem MH_e {μ : ZMem} {σ : Sg} (h : MH μ σ) : ovm μ σ = μ := by
  refine Prod.ext ?_ rfl
  funext a k
  simp only [ovm]
  by_cases ha : a = 108
  · subst ha
    by_cases hk : k < 8
    · rw [if_pos rfl, if_pos hk, h.1 k hk]
    · rw [if_pos rfl, if_neg hk]
  · rw [if_neg ha]
    by_cases hp : 110 ≤ a ∧ a < 115 ∧ k < 7
    · rw [if_pos hp, ← h.2 k hp.2.2 (a - 110) (by omega), show 110 + (a - 110) = a by omega]
    · rw [if_neg hp]
theorem MH_o (μ : ZMem) (σ : Sg) : MH (ovm μ σ) σ := ⟨fun _ q1 => ovm_s μ σ q1, fun _ q1 _ q2 => ovm_p μ σ q1 q2⟩
/-- another vow in the now -/
theorem InvC_V {μ : ZMem} {S : St} {σ : Sg} (hw : WfS S) (hN : sN σ ≤ 7) (h : InvC μ S) : InvC (ovl μ 18 σ) (pV S σ) := by
  obtain ⟨h1, h2, h3, h4, h5, h6, h7, h8⟩ := h
  have e : ∀ a k, a < 18 ∨ 27 ≤ a → (ovl μ 18 σ).1 a k = μ.1 a k := fun a k q => ovl_o μ 18 σ k (by omega) hN
  refine ⟨VH_o μ 18 σ, ?_, fun τ q => VH_f (h3 τ q) (hw.2.1 τ q).1 (fun a k q1 q2 => e _ _ (by omega)), ?_, fun k q => ?_, fun s q => SHC_f (h6 s q) (fun k => e _ _ (by omega)) (fun k => rfl), ?_, fun i q1 q2 => ?_⟩
  · rw [e _ _ (by omega)]; exact h2
  · rw [e _ _ (by omega)]; exact h4
  · rw [e _ _ (by omega)]; exact h5 k q
  · rw [e _ _ (by omega)]; exact h7
  · rw [e _ _ (by omega)]; exact h8 i q1 q2
theorem InvM_V {μ : ZMem} {S : St} {σ : Sg} (hw : WfS S) (h : InvM μ S) : InvM (ovm μ σ) (pV S σ) := by
  obtain ⟨h1, h2, h3, h4, h5, h6, h7, h8, h9, h10⟩ := h
  have e : ∀ a k, (a ≠ 108 ∧ (a < 110 ∨ 115 ≤ a)) ∨ (a = 108 ∧ 8 ≤ k) → (ovm μ σ).1 a k = μ.1 a k := fun a k q => ovm_o μ σ q
  refine ⟨MH_o μ σ, ?_, fun τ q => KH_f (h3 τ q) (fun k => e _ _ (by omega)), ?_, fun k q => ?_, fun s q => SHM_f (h6 s q) (fun q1 => ((hw.2.2.1 s q).2.1 q1).2) (fun a q1 q2 => e _ _ (by omega)) (fun k _ _ => rfl), ?_, fun i q1 q2 => ?_, ?_, CST_f h10 (fun a k q1 q2 => e _ _ (by omega))⟩
  · rw [e _ _ (by omega)]; exact h2
  · rw [e _ _ (by omega)]; exact h4
  · rw [e _ _ (by omega)]; exact h5 k q
  · rw [e _ _ (by omega)]; exact h7
  · rw [e _ _ (by omega)]; exact h8 i q1 q2
  · rw [e _ _ (by omega)]; exact h9
theorem EqM_V {μ : ZMem} {v : Nat} {σ : Sg} (hv : v + 9 ≤ 108) (hN : sN σ ≤ 7) : EqM μ (ovl μ v σ) := fun a k q => ⟨ovl_o μ v σ k (by omega) hN, rfl⟩
theorem EqC_V {μ : ZMem} {σ : Sg} : EqC μ (ovm μ σ) := fun a k q => ⟨ovm_o μ σ (by omega), rfl⟩
