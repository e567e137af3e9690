-- NUMBERS, ITEMS: what is told, and the class's reading
def isDg (c : Int32) : Bool := decide (48 ≤ c ∧ c ≤ 57)
def dgv (c : Int32) : Nat := (c.toInt - 48).toNat
theorem dg_y {c : Int32} (h : isDg c = true) : ∃ d, d ≤ 9 ∧ c = nI (48 + d) ∧ dgv c = d := by
  obtain ⟨k, k1, k2, rfl⟩ := in_nat (lo := 48) (hi := 57) (by omega) (by omega) (of_decide_eq_true h)
  refine ⟨k - 48, by omega, by rw [show 48 + (k - 48) = k by omega], ?_⟩
  unfold dgv
  rw [nI_toInt (by omega)]
  omega
/-- the number that stands there, and the place behind it -/
def rdN (n : Nat) (x : Nat → Int32) (Q : Nat) : Option (Nat × Nat) := if isDg (lx n x Q) = true then (if isDg (lx n x (Q + 1)) = true then some (10 * dgv (lx n x Q) + dgv (lx n x (Q + 1)), Q + 2) else some (dgv (lx n x Q), Q + 1)) else none
theorem lx_end {n : Nat} {x : Nat → Int32} {Q : Nat} (h : n ≤ Q) : isDg (lx n x Q) = false := by
  unfold lx
  rw [if_neg (by omega)]
  decide
theorem lx_in {n : Nat} {x : Nat → Int32} {Q : Nat} (h : 0 ≤ lx n x Q) : Q < n := by
  unfold lx at h
  by_cases c : Q < n
  · exact c
  · rw [if_neg c] at h
    exact absurd h (by decide)
theorem dg_in {n : Nat} {x : Nat → Int32} {Q : Nat} (h : isDg (lx n x Q) = true) : Q < n := by
  rcases Nat.lt_or_ge Q n with c | c
  · exact c
  · rw [lx_end c] at h
    cases h
theorem rdN_s {n : Nat} {x : Nat → Int32} {Q v P : Nat} (h : rdN n x Q = some (v, P)) : v ≤ 99 ∧ Q + 1 ≤ P ∧ P ≤ n := by
  unfold rdN at h
  by_cases h1 : isDg (lx n x Q) = true
  · rw [if_pos h1] at h
    obtain ⟨d, d9, _, e⟩ := dg_y h1
    have := dg_in h1
    by_cases h2 : isDg (lx n x (Q + 1)) = true
    · rw [if_pos h2] at h
      obtain ⟨f, f9, _, e2⟩ := dg_y h2
      have := dg_in h2
      cases h
      rw [e, e2]
      omega
    · rw [if_neg h2] at h
      cases h
      rw [e]
      omega
  · rw [if_neg h1] at h
    cases h
def okN (w i : Nat) (σ : Sg) (v : Nat) : Bool := match w with
  | 0 => match i with
    | 0 => decide (v ≤ 6)
    | 1 => decide (v ≤ 9)
    | 2 => decide (1 ≤ v ∧ v ≤ 40)
    | _ => decide (v ≤ 40)
  | 1 => decide (1 ≤ v)
  | 2 => decide (sD σ ≤ v)
  | 3 => decide (v < sN σ)
  | _ => decide (v ≤ 4)
def oneN (n : Nat) (x : Nat → Int32) (w i : Nat) (σ : Sg) (Q : Nat) : Nat ⊕ (Nat × Nat) := if lx n x Q = 32 then (match rdN n x (Q + 1) with
    | none => .inl (Q + 1)
    | some q => if okN w i σ q.1 = true then .inr q else .inl (Q + 1)) else .inl Q
theorem oneN_s {n w i Q : Nat} {x : Nat → Int32} {σ : Sg} {q : Nat × Nat} (h : oneN n x w i σ Q = .inr q) : okN w i σ q.1 = true ∧ q.1 ≤ 99 ∧ Q + 2 ≤ q.2 ∧ q.2 ≤ n := by
  unfold oneN at h
  by_cases h1 : lx n x Q = 32
  · rw [if_pos h1] at h
    cases e : rdN n x (Q + 1) with
    | none => rw [e] at h; cases h
    | some p =>
      rw [e] at h
      have hs := rdN_s (v := p.1) (P := p.2) e
      have h2 : (if okN w i σ p.1 = true then (.inr p : Nat ⊕ (Nat × Nat)) else .inl (Q + 1)) = .inr q := h
      by_cases c : okN w i σ p.1 = true
      · rw [if_pos c] at h2
        cases h2
        exact ⟨c, hs.1, by omega, hs.2.2⟩
      · rw [if_neg c] at h2
        cases h2
  · rw [if_neg h1] at h
    cases h
theorem oneN_f {n w i Q f : Nat} {x : Nat → Int32} {σ : Sg} (hQ : Q ≤ n) (h : oneN n x w i σ Q = .inl f) : f ≤ n := by
  unfold oneN at h
  by_cases h1 : lx n x Q = 32
  · have hq : Q < n := lx_in (by rw [h1]; decide)
    rw [if_pos h1] at h
    cases e : rdN n x (Q + 1) with
    | none => rw [e] at h; cases h; omega
    | some p =>
      rw [e] at h
      have h2 : (if okN w i σ p.1 = true then (.inr p : Nat ⊕ (Nat × Nat)) else .inl (Q + 1)) = .inl f := h
      by_cases c : okN w i σ p.1 = true
      · rw [if_pos c] at h2
        cases h2
      · rw [if_neg c] at h2
        cases h2
        omega
  · rw [if_neg h1] at h
    cases h
    exact hQ
def tell (w v : Nat) (σ : Sg) : Sg := match w with
  | 1 => wW σ v
  | 2 => wY σ v
  | 3 => wB σ (some v)
  | 5 => wR σ (sR σ ||| 2 ^ v)
  | _ => wR σ (sR σ &&& (31 - 2 ^ v))
def pers (n : Nat) (x : Nat → Int32) (σ : Sg) (Q : Nat) : Nat ⊕ (Sg × Nat) := match oneN n x 0 0 σ Q with
  | .inl f => .inl f
  | .inr a => match oneN n x 0 1 σ a.2 with
    | .inl f => .inl f
    | .inr b => match oneN n x 0 2 σ b.2 with
      | .inl f => .inl f
      | .inr c => match oneN n x 0 3 σ c.2 with
        | .inl f => .inl f
        | .inr d => .inr (addP σ a.1 b.1 c.1 d.1, d.2)
def tell1 (n : Nat) (x : Nat → Int32) (w : Nat) (σ : Sg) (Q : Nat) : Nat ⊕ (Sg × Nat) := match oneN n x w 0 σ Q with
  | .inl f => .inl f
  | .inr q => .inr (tell w q.1 σ, q.2)
def itmW (n : Nat) (x : Nat → Int32) (σ : Sg) (P : Nat) (q : Nat × Option Nat) : Nat ⊕ (Sg × Nat) := match q.2 with
  | none => .inl (P + q.1)
  | some w => if w = 0 then (if sN σ = 7 then .inl P else pers n x σ (P + q.1)) else if w = 4 then .inr (wB σ none, P + q.1) else tell1 n x w σ (P + q.1)
def itm (n : Nat) (x : Nat → Int32) (σ : Sg) (P : Nat) : Nat ⊕ (Sg × Nat) := itmW n x σ P (wsp (fun j => lx n x (P + j)))
-- the class
theorem rdv_f {n : Nat} {x : Nat → Int32} {X : ZMem} (hL : LT n x X) (P : Nat) (F : Option Nat) : LT n x (rd X P F) := ⟨hL.1, (rd_o X P F (by omega)).trans hL.2.1, fun j q => (rd_o X P F (by omega)).trans (hL.2.2 j q)⟩
theorem isDigit_e (c : Int32) (X : ZMem) : fX5_isDigit 131 c X = some (X, bI (isDg c)) := by
  unfold fX5_isDigit fX5_isDigit_b16 fX5_isDigit_b17 isDg
  rw [chk_t b01_0, chk_t b01_1]
  by_cases h1 : c < 48
  · rw [if_pos h1, decide_eq_false (fun q => (fa_of_lt h1).2.1 q.1)]; rfl
  · rw [if_neg h1]
    by_cases h2 : (57 : Int32) < c
    · rw [if_pos h2, decide_eq_false (fun q => (fa_of_lt h2).2.1 q.2)]; rfl
    · rw [if_neg h2, decide_eq_true ⟨fa_of_nlt h1, fa_of_nlt h2⟩]; rfl
theorem expect_c {n : Nat} {x : Nat → Int32} {X : ZMem} {P : Nat} {c : Int32} (hR : HR X) (hL : LT n x X) (hP : P < 900) : fX5_expect 131 94 c (rd X P none) = some (if lx n x P = c then rd X (P + 1) none else rd X P (some P)) := by
  unfold fX5_expect fX5_expect_b38
  rw [chk_t c5_c, rd_4, if_pos (show oI none = (-1 : Int32) from rfl), here_c hR hL (by omega), bd2_s, rd_3, nI_1, lt_e, lt_e, rd_p, rd_f]
  split <;> rfl
theorem expect_f {X : ZMem} {P f : Nat} {c : Int32} (hf : f < 1000) : fX5_expect 131 94 c (rd X P (some f)) = some (rd X P (some f)) := by
  unfold fX5_expect
  rw [chk_t c5_c, rd_4, if_neg (show ¬ oI (some f) = (-1 : Int32) from nI_m1 (by omega))]
theorem numF_c {X : ZMem} {P f : Nat} {lo hi : Int32} (hf : f < 1000) : fX5_readNumber 131 94 lo hi (rd X P (some f)) = some (rd X P (some f), -1) := by
  have hn : ¬ oI (some f) = (-1 : Int32) := nI_m1 (by omega)
  unfold fX5_readNumber fX5_readNumber_b29 fX5_readNumber_b49
  rw [chk_t c5_c, expect_f hf, bd1_s, rd_4, if_neg hn, if_neg hn, lt_e]
  have e : oI (some f) = nI f := rfl
  rw [e, rd_f]
theorem num_c {n w i : Nat} {x : Nat → Int32} {X : ZMem} {P : Nat} {lo hi : Int32} {σ : Sg} (hR : HR X) (hL : LT n x X) (hP : P ≤ 160) (ho : ∀ v, v ≤ 99 → (lo ≤ nI v ∧ nI v ≤ hi ↔ okN w i σ v = true)) : (∃ f P', oneN n x w i σ P = .inl f ∧ fX5_readNumber 131 94 lo hi (rd X P none) = some (rd X P' (some f), -1)) ∨ (∃ q, oneN n x w i σ P = .inr q ∧ fX5_readNumber 131 94 lo hi (rd X P none) = some (rd X q.2 none, nI q.1)) := by
  have hn0 : oI none = (-1 : Int32) := rfl
  have hnP : ∀ P : Nat, P < 1000 → ¬ oI (some P) = (-1 : Int32) := fun P h => nI_m1 (by omega)
  unfold oneN
  unfold fX5_readNumber
  rw [chk_t c5_c, expect_c hR hL (by omega), bd1_s]
  by_cases h1 : lx n x P = 32
  · rw [if_pos h1, if_pos h1, rd_4, if_pos hn0, here_c hR hL (by omega), bd2_s, isDigit_e, bd2_s]
    unfold rdN
    by_cases h2 : isDg (lx n x (P + 1)) = true
    · obtain ⟨d, d9, ed, dd⟩ := dg_y h2
      have l48 : (48 : Int32) = nI 48 := rfl
      have l10 : (10 : Int32) = nI 10 := rfl
      have eb : ∀ (Q v : Nat), Q ≤ 170 → v ≤ 99 → fX5_readNumber_b108 131 94 lo hi (nI (P + 1)) (nI v) (rd X Q none) = if okN w i σ v = true then some (rd X Q none, nI v) else some (rd X Q (some (P + 1)), -1) := by
        intro Q v hQ hv
        unfold fX5_readNumber_b108
        by_cases c : okN w i σ v = true
        · rw [isIn_o ((ho v hv).mpr c), bd2_s, if_neg one_ne, if_pos c]
        · rw [isIn_z (fun q => c ((ho v hv).mp q)), bd2_s, if_pos rfl, if_neg c, lt_e, rd_f]
      rw [h2, if_neg (show ¬ bI true = 0 from one_ne), if_pos rfl, here_c hR hL (by omega), bd2_s, lt_e, rd_3, nI_1, rd_p, here_c hR hL (by omega), bd2_s, isDigit_e, bd2_s, ed, l48, pk_sub (by omega), show 48 + d - 48 = d by omega]
      by_cases h3 : isDg (lx n x (P + 1 + 1)) = true
      · obtain ⟨g, g9, eg, gg⟩ := dg_y h3
        rw [h3, if_neg (show ¬ bI true = 0 from one_ne), if_pos rfl, here_c hR hL (by omega), bd2_s, lt_e, rd_3, nI_1, rd_p, eg, l10, pk_mul, nI_add, pk_sub (by omega), show 10 * d + (48 + g) - 48 = 10 * d + g by omega, eb _ _ (by omega) (by omega), ← ed, ← eg, dd, gg]
        show (∃ f P', (if okN w i σ (10 * d + g) = true then (.inr (10 * d + g, P + 1 + 2) : Nat ⊕ (Nat × Nat)) else .inl (P + 1)) = .inl f ∧ _) ∨ ∃ q, (if okN w i σ (10 * d + g) = true then (.inr (10 * d + g, P + 1 + 2) : Nat ⊕ (Nat × Nat)) else .inl (P + 1)) = .inr q ∧ _
        by_cases c : okN w i σ (10 * d + g) = true
        · rw [if_pos c, if_pos c]
          exact Or.inr ⟨_, rfl, rfl⟩
        · rw [if_neg c, if_neg c]
          exact Or.inl ⟨_, _, rfl, rfl⟩
      · rw [Bool.eq_false_iff.mpr h3, if_pos (show bI false = 0 by decide), if_neg (by decide), eb _ _ (by omega) (by omega), ← ed, dd]
        show (∃ f P', (if okN w i σ d = true then (.inr (d, P + 1 + 1) : Nat ⊕ (Nat × Nat)) else .inl (P + 1)) = .inl f ∧ _) ∨ ∃ q, (if okN w i σ d = true then (.inr (d, P + 1 + 1) : Nat ⊕ (Nat × Nat)) else .inl (P + 1)) = .inr q ∧ _
        by_cases c : okN w i σ d = true
        · rw [if_pos c, if_pos c]
          exact Or.inr ⟨_, rfl, rfl⟩
        · rw [if_neg c, if_neg c]
          exact Or.inl ⟨_, _, rfl, rfl⟩
    · rw [Bool.eq_false_iff.mpr h2, if_pos (show bI false = 0 by decide), if_neg (by decide)]
      unfold fX5_readNumber_b29 fX5_readNumber_b49
      rw [rd_4, if_pos hn0, rd_3, lt_e, rd_f]
      exact Or.inl ⟨_, _, rfl, rfl⟩
  · rw [if_neg h1, if_neg h1, rd_4, if_neg (hnP P (by omega))]
    unfold fX5_readNumber_b29 fX5_readNumber_b49
    rw [rd_4, if_neg (hnP P (by omega)), lt_e, show oI (some P) = nI P from rfl, rd_f]
    exact Or.inl ⟨_, _, rfl, rfl⟩
-- over the draft
theorem rd_ovl {Z : ZMem} {σ : Sg} {P : Nat} {F : Option Nat} (hN : sN σ ≤ 7) : rd (ovl Z 96 σ) P F = ovl (rd Z P F) 96 σ := by
  refine Prod.ext ?_ rfl
  funext a k
  simp only [rd, ovl]
  by_cases h3 : a = 94 ∧ k = 3
  · rw [if_pos h3, if_neg (show ¬ a = 96 by omega), if_neg (show ¬ (96 + 2 ≤ a ∧ a < 96 + 2 + sN σ ∧ k < 5) by omega), if_pos h3]
  · rw [if_neg h3]
    by_cases h4 : a = 94 ∧ k = 4
    · rw [if_pos h4, if_neg (show ¬ a = 96 by omega), if_neg (show ¬ (96 + 2 ≤ a ∧ a < 96 + 2 + sN σ ∧ k < 5) by omega), if_neg h3, if_pos h4]
    · rw [if_neg h4, if_neg h3, if_neg h4]
theorem ovl_ovl {Z : ZMem} {v : Nat} {σ τ : Sg} (h : sN σ ≤ sN τ) : ovl (ovl Z v σ) v τ = ovl Z v τ := by
  refine Prod.ext ?_ rfl
  funext a k
  simp only [ovl]
  by_cases h1 : a = v
  · rw [if_pos h1, if_pos h1, if_pos h1]
    by_cases h2 : 1 ≤ k ∧ k ≤ 8
    · rw [if_pos h2, if_pos h2]
    · rw [if_neg h2, if_neg h2, if_neg h2]
  · rw [if_neg h1, if_neg h1, if_neg h1]
    by_cases h2 : v + 2 ≤ a ∧ a < v + 2 + sN τ ∧ k < 5
    · rw [if_pos h2, if_pos h2]
    · rw [if_neg h2, if_neg h2, if_neg (fun q => h2 ⟨q.1, by omega, q.2.2⟩)]
theorem LT_ovl {n : Nat} {x : Nat → Int32} {Z : ZMem} {σ : Sg} (hL : LT n x Z) (hN : sN σ ≤ 7) : LT n x (ovl Z 96 σ) := ⟨hL.1, (ovl_o Z 96 σ 1 (by omega) hN).trans hL.2.1, fun j q => (ovl_o Z 96 σ j (by omega) hN).trans (hL.2.2 j q)⟩
theorem VS96 : VS 96 := by simp [VS]
theorem r96 {μ : ZMem} (hR : HR μ) : zRc 131 4 μ 94 2 = some 96 := zRc_of (hR (94, 2, 96) (by decide +kernel)) (by decide)
/-- the reader's memory: the letters under the draft -/
abbrev rM (Z : ZMem) (σ : Sg) (P : Nat) (F : Option Nat) : ZMem := rd (ovl Z 96 σ) P F
section
variable {n : Nat} {x : Nat → Int32} {Z : ZMem} {σ : Sg} {P : Nat}
theorem rM_d (hN : sN σ ≤ 7) (P : Nat) (F : Option Nat) {k : Nat} (hk : 1 ≤ k ∧ k ≤ 8) : zI (rM Z σ P F) 96 k = scv σ k := (rd_o _ P F (by omega)).trans (ovl_s Z 96 σ hk)
theorem tellW_c (hR : HR Z) (hN : sN σ ≤ 7) (v : Nat) : fX5_tellWeight 131 94 (nI v) (rM Z σ P none) = some (rM Z (wW σ v) P none) := by
  unfold fX5_tellWeight fX5_tellWeight_b16
  rw [chk_t c5_c, rd_4, if_pos (show oI none = (-1 : Int32) from rfl), r96 (HR_rd (HR_ovl hR)), bd1_s, lt_e]
  unfold rM
  rw [rd_ovl hN, ovl_u2, rd_ovl (σ := wW σ v) hN]
theorem tellY_c (hR : HR Z) (hN : sN σ ≤ 7) (v : Nat) : fX5_tellWay 131 94 (nI v) (rM Z σ P none) = some (rM Z (wY σ v) P none) := by
  unfold fX5_tellWay fX5_tellWay_b16
  rw [chk_t c5_c, rd_4, if_pos (show oI none = (-1 : Int32) from rfl), r96 (HR_rd (HR_ovl hR)), bd1_s, lt_e]
  unfold rM
  rw [rd_ovl hN, ovl_u3, rd_ovl (σ := wY σ v) hN]
theorem tellB_c (hR : HR Z) (hN : sN σ ≤ 7) (b : Option Nat) : fX5_tellBearer 131 94 (oI b) (rM Z σ P none) = some (rM Z (wB σ b) P none) := by
  unfold fX5_tellBearer fX5_tellBearer_b16
  rw [chk_t c5_c, rd_4, if_pos (show oI none = (-1 : Int32) from rfl), r96 (HR_rd (HR_ovl hR)), bd1_s, lt_e]
  unfold rM
  rw [rd_ovl hN, ovl_u5, rd_ovl (σ := wB σ b) hN]
theorem orB : ∀ r, r < 32 → ∀ v, v < 5 → nI r ||| ((1 : Int32) <<< ((nI v &&& (7 : Int32)) &&& 31)) = nI (r ||| 2 ^ v) := by decide +kernel
theorem anB : ∀ r, r < 32 → ∀ v, v < 5 → nI r &&& (((1 : Int32) <<< ((nI v &&& (7 : Int32)) &&& 31)) ^^^ (-1 : Int32)) = nI (r &&& (31 - 2 ^ v)) := by decide +kernel
theorem tellS_c (hR : HR Z) (hW : Wf σ) {v : Nat} (hv : v ≤ 4) (b : Bool) : fX5_tellSort 131 94 (nI v) (bI b) (rM Z σ P none) = some (rM Z (tell (if b = true then 5 else 6) v σ) P none) := by
  have hN := hW.1
  have hr := hW.2.2.2.2.1
  unfold fX5_tellSort fX5_tellSort_b46 fX5_tellSort_b49
  rw [chk_t c5_c, rd_4, if_pos (show oI none = (-1 : Int32) from rfl), r96 (HR_rd (HR_ovl hR)), bd1_s, bd1_s, bd1_s, lt_e, lt_e, rM_d hN P none (by omega), show scv σ 7 = nI (sR σ) from rfl, orB _ (by omega) _ (by omega), anB _ (by omega) _ (by omega)]
  unfold rM
  cases b with
  | true =>
    rw [if_neg (show ¬ bI true = 0 from one_ne), rd_ovl hN, ovl_u7, if_pos rfl]
    show _ = some (rd (ovl Z 96 (wR σ (sR σ ||| 2 ^ v))) P none)
    rw [rd_ovl (σ := wR σ (sR σ ||| 2 ^ v)) hN]
  | false =>
    rw [if_pos (show bI false = 0 by decide), rd_ovl hN, ovl_u7, if_neg (by decide)]
    show _ = some (rd (ovl Z 96 (wR σ (sR σ &&& (31 - 2 ^ v)))) P none)
    rw [rd_ovl (σ := wR σ (sR σ &&& (31 - 2 ^ v))) hN]
theorem tell_f (b : Option Nat) {f : Nat} (hf : f < 1000) (v s : Int32) : fX5_tellWeight 131 94 v (rM Z σ P (some f)) = some (rM Z σ P (some f)) ∧ fX5_tellWay 131 94 v (rM Z σ P (some f)) = some (rM Z σ P (some f)) ∧ fX5_tellBearer 131 94 v (rM Z σ P (some f)) = some (rM Z σ P (some f)) ∧ fX5_tellSort 131 94 v s (rM Z σ P (some f)) = some (rM Z σ P (some f)) := by
  have hn : ¬ oI (some f) = (-1 : Int32) := nI_m1 (by omega)
  refine ⟨?_, ?_, ?_, ?_⟩
  · unfold fX5_tellWeight fX5_tellWeight_b16
    rw [chk_t c5_c, rd_4, if_neg hn]
  · unfold fX5_tellWay fX5_tellWay_b16
    rw [chk_t c5_c, rd_4, if_neg hn]
  · unfold fX5_tellBearer fX5_tellBearer_b16
    rw [chk_t c5_c, rd_4, if_neg hn]
  · unfold fX5_tellSort fX5_tellSort_b49
    rw [chk_t c5_c, rd_4, if_neg hn]
end
