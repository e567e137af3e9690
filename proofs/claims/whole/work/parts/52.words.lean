-- THE WORDS OF A VOW: what is looked for, and the class's look
def wdA (i : Nat) : Int32 := ([112, 101, 114, 115, 111, 110, 32, 0, 119, 101, 105, 103, 104, 116, 32, 0, 119, 97, 121, 32, 0, 98, 101, 97, 114, 115, 32, 0, 108, 105, 101, 115, 0, 99, 111, 117, 110, 116, 115, 32, 0, 102, 114, 101, 101, 32, 0] : List Int32).getD i 0
def sWd (w : Nat) : Nat := ([0, 8, 16, 21, 28, 33, 41, 47] : List Nat).getD w 0
def zWd (w : Nat) : Nat := ([6, 6, 3, 5, 4, 6, 4] : List Nat).getD w 0
/-- how many letters of the word stand: of the r from the j-th on -/
def pmW (w : Nat) (l : Nat → Int32) : Nat → Nat → Nat
  | 0, j => j
  | r + 1, j => if l j = wdA (sWd w + j) then pmW w l r (j + 1) else j
theorem pmW_le (w : Nat) (l : Nat → Int32) : ∀ r j, j ≤ pmW w l r j ∧ pmW w l r j ≤ j + r := by
  intro r
  induction r with
  | zero => intro j; exact ⟨Nat.le_refl _, Nat.le_refl _⟩
  | succ r ih =>
    intro j
    unfold pmW
    split
    · have := ih (j + 1)
      omega
    · omega
theorem pmW_ext (w : Nat) (l : Nat → Int32) : ∀ r j, pmW w l (r + 1) j = if pmW w l r j = j + r then (if l (j + r) = wdA (sWd w + (j + r)) then j + r + 1 else j + r) else pmW w l r j := by
  intro r
  induction r with
  | zero =>
    intro j
    show (if l j = wdA (sWd w + j) then j + 1 else j) = _
    rw [if_pos (show pmW w l 0 j = j + 0 from rfl)]
    rfl
  | succ r ih =>
    intro j
    rw [pmW, ih (j + 1)]
    show _ = if pmW w l (r + 1) j = j + (r + 1) then _ else pmW w l (r + 1) j
    rw [show pmW w l (r + 1) j = if l j = wdA (sWd w + j) then pmW w l r (j + 1) else j from rfl]
    by_cases h : l j = wdA (sWd w + j)
    · rw [if_pos h, if_pos h, show j + 1 + r = j + (r + 1) by omega]
    · rw [if_neg h, if_neg h, if_neg (by omega)]
def gW (l : Nat → Int32) (w : Nat) : Nat × Option Nat := (pmW w l (zWd w) 0, if pmW w l (zWd w) 0 = zWd w then some w else none)
/-- the word that stands, or how far it goes -/
def wsp (l : Nat → Int32) : Nat × Option Nat :=
  if l 0 = 112 then gW l 0 else if l 0 = 119 then (if l 1 = 101 then gW l 1 else if l 1 = 97 then gW l 2 else (1, none)) else if l 0 = 98 then gW l 3 else if l 0 = 108 then gW l 4 else if l 0 = 99 then gW l 5 else if l 0 = 102 then gW l 6 else (0, none)
-- a row of letters
def lx (n : Nat) (x : Nat → Int32) (P : Nat) : Int32 := if P < n then x P else -1
def rd (X : ZMem) (P : Nat) (F : Option Nat) : ZMem := (fun a k => if a = 94 ∧ k = 3 then nI P else if a = 94 ∧ k = 4 then oI F else X.1 a k, X.2)
theorem rd_3 (X : ZMem) (P : Nat) (F : Option Nat) : zI (rd X P F) 94 3 = nI P := by simp [zI, rd]
theorem rd_4 (X : ZMem) (P : Nat) (F : Option Nat) : zI (rd X P F) 94 4 = oI F := by simp [zI, rd]
theorem rd_o (X : ZMem) (P : Nat) (F : Option Nat) {a k : Nat} (h : ¬ (a = 94 ∧ (k = 3 ∨ k = 4))) : zI (rd X P F) a k = X.1 a k := by
  simp only [zI, rd]
  rw [if_neg (by omega), if_neg (by omega)]
theorem HR_rd {X : ZMem} {P : Nat} {F : Option Nat} (h : HR X) : HR (rd X P F) := HR_of h rfl
theorem rd_p (X : ZMem) (P Q : Nat) (F : Option Nat) : zpI (rd X P F) 94 3 (nI Q) = rd X Q F := by
  refine Prod.ext ?_ rfl
  funext a k
  simp only [zpI, rd]
  by_cases h : a = 94 ∧ k = 3
  · rw [if_pos h, if_pos h]
  · rw [if_neg h, if_neg h, if_neg h]
theorem rd_f (X : ZMem) (P f : Nat) (F : Option Nat) : zpI (rd X P F) 94 4 (nI f) = rd X P (some f) := by
  refine Prod.ext ?_ rfl
  funext a k
  simp only [zpI, rd]
  by_cases h : a = 94 ∧ k = 4
  · rw [if_pos h, if_neg (by omega), if_pos h]
    rfl
  · rw [if_neg h, if_neg h]
    by_cases h3 : a = 94 ∧ k = 3
    · rw [if_pos h3, if_pos h3]
    · rw [if_neg h3, if_neg h3, if_neg h]
/-- what of the letters lies there -/
def LT (n : Nat) (x : Nat → Int32) (X : ZMem) : Prop := n ≤ 160 ∧ X.1 94 1 = nI n ∧ ∀ j, j < n → X.1 95 j = x j
theorem c5_c : isC 131 5 94 = true := by decide
theorem r95 {μ : ZMem} (hR : HR μ) : zRc 131 100 μ 94 0 = some 95 := zRc_of (hR (94, 0, 95) (by decide +kernel)) (by decide)
theorem i95 {i : Nat} (hi : i < 160) : inb (nI i) 95 = true := inb_nI (by rw [show zsz 95 = 160 by decide]; exact hi)
theorem here_c {n : Nat} {x : Nat → Int32} {X : ZMem} {P : Nat} {F : Option Nat} (hR : HR X) (hL : LT n x X) (hP : P < 1000) : fX5_letterHere 131 94 (rd X P F) = some (rd X P F, lx n x P) := by
  obtain ⟨h1, h2, h3⟩ := hL
  have e1 : zI (rd X P F) 94 1 = nI n := (rd_o X P F (by omega)).trans h2
  unfold fX5_letterHere fX5_letterHere_b34 fX5_letterHere_b35 fX5_letterHere_b53 lx
  rw [chk_t c5_c, rd_3, e1, if_neg (nI_pos (n := P) (by omega))]
  by_cases h : P < n
  · have e2 : zI (rd X P F) 95 P = x P := (rd_o X P F (by omega)).trans (h3 P h)
    rw [if_pos h, if_neg (nI_ge h (by omega)), r95 (HR_rd hR), bd1_s, show Int32.ofNat (zsz 95) = nI 160 by decide, if_neg (nI_ge (a := P) (b := 160) (by omega) (by omega)), if_neg one_ne, bd1_s, chk_t (i95 (by omega)), nI_clamp (by omega), e2]
  · rw [if_neg h, if_pos (nI_le (by omega) (by omega)), if_pos rfl]
/-- one look through the words that are left, at their i-th letters -/
def inn (left : Int32) (i : Nat) (c : Int32) : Nat → Nat → Int32 → Option Nat × Int32
  | 0, _, fit => (none, fit)
  | r + 1, w, fit => if (left >>> (nI w &&& 31)) &&& 1 = 1 ∧ i < zslen w ∧ zschr w i = c then (if i + 1 = zslen w then (some w, fit) else inn left i c r (w + 1) (fit ||| (1 : Int32) <<< (nI w &&& 31))) else inn left i c r (w + 1) fit
theorem inn_none {left : Int32} {i : Nat} {c : Int32} : ∀ r w fit, (∀ j, w ≤ j → j < w + r → (left >>> (nI j &&& 31)) &&& 1 = 1 → i < zslen j → ¬ zschr j i = c) → inn left i c r w fit = (none, fit) := by
  intro r
  induction r with
  | zero => intro w fit _; rfl
  | succ r ih =>
    intro w fit h
    unfold inn
    rw [if_neg (fun q => h w (Nat.le_refl _) (by omega) q.1 q.2.1 q.2.2)]
    exact ih (w + 1) fit (fun j q1 q2 => h j (by omega) (by omega))
theorem zs8 : ∀ w, w < 7 → zslen w < 8 ∧ 1 ≤ zslen w ∧ zslen w = zWd w := by decide
theorem letters_e {w : Nat} (hw : w < 7) (X : ZMem) : fX5_lettersOf 131 (nI w) X = some (X, 1010 + w) := by
  unfold fX5_lettersOf
  rcases k7 hw with rfl | rfl | rfl | rfl | rfl | rfl | rfl <;> rfl
theorem isT_e : ∀ w, w < 7 → isT (1010 + w) = true := by decide
def resW (g : Nat → Int32 → Int32 → ZMem → Option (ZMem × Int32)) (X : ZMem) (P i : Nat) (F : Option Nat) (q : Option Nat × Int32) : Option (ZMem × Int32) := match q.1 with
  | some w => some (rd X (P + 1) F, nI w)
  | none => if q.2 = 0 then some (rd X P (some P), -1) else g 94 q.2 (nI (i + 1)) (rd X (P + 1) F)
theorem resW_0 (g : Nat → Int32 → Int32 → ZMem → Option (ZMem × Int32)) (X : ZMem) (P i : Nat) (F : Option Nat) : resW g X P i F (none, 0) = some (rd X P (some P), -1) := by
  show (if (0 : Int32) = 0 then some (rd X P (some P), -1) else g 94 0 (nI (i + 1)) (rd X (P + 1) F)) = _
  rw [if_pos rfl]
theorem b22_c {g : Nat → Int32 → Int32 → ZMem → Option (ZMem × Int32)} {X : ZMem} {P i : Nat} {F : Option Nat} {left c : Int32} (hi : i < 100) : ∀ k w fit, w ≤ 7 → 7 < k + w → fX5_readWord_b22 g 131 k 94 left (nI i) c fit (nI w) (rd X P F) = resW g X P i F (inn left i c (7 - w) w fit) := by
  intro k
  induction k with
  | zero => intro w fit _ _; omega
  | succ k ih =>
    intro w fit q1 q2
    rw [fX5_readWord_b22]
    unfold fX5_readWord_b98 fX5_readWord_b131
    by_cases hw : w = 7
    · subst hw
      rw [if_pos (show (7 : Int32) ≤ nI 7 from by decide), rd_3, nI_1, lt_e, lt_e, rd_f, rd_p, nI_1]
      rfl
    · have hw7 : w < 7 := by omega
      obtain ⟨z1, z2, z3⟩ := zs8 w hw7
      rw [if_neg (show ¬ (7 : Int32) ≤ nI w from fun q => by have := (nI_leI (a := 7) (by omega) (by omega)).mp q; omega), letters_e hw7, bd2_s, show 1010 + w - 1010 = w by omega, show (Int32.ofNat (zslen w)) = nI (zslen w) from rfl, nI_clamp (by omega), show nI (zslen w) - (1 : Int32) = nI (zslen w - 1) from pk_sub (b := 1) z2, nI_1, rd_3, nI_1, lt_e, rd_p, show 7 - w = (7 - (w + 1)) + 1 by omega]
      unfold inn
      by_cases hb : (left >>> (nI w &&& 31)) &&& 1 = 1
      · rw [if_pos hb, chk_t (isT_e w hw7)]
        by_cases hl : i < zslen w
        · rw [if_neg (fun q => by have := (nI_leI (by omega) (by omega)).mp q; omega), chk_t (isT_e w hw7), chk_t (inN_nI hl (by omega))]
          by_cases hc : zschr w i = c
          · rw [if_pos hc, chk_t (isT_e w hw7), if_pos (show _ ∧ _ ∧ _ from ⟨hb, hl, hc⟩)]
            by_cases he : i + 1 = zslen w
            · rw [if_pos ((nI_eq (by omega) (by omega)).mpr (by omega)), if_pos he]
              rfl
            · rw [if_neg (fun q => he (by have := (nI_eq (by omega) (by omega)).mp q; omega)), if_neg he]
              exact ih (w + 1) _ (by omega) (by omega)
          · rw [if_neg hc, if_neg (fun q => hc q.2.2)]
            exact ih (w + 1) _ (by omega) (by omega)
        · rw [if_pos ((nI_leI (by omega) (by omega)).mpr (by omega)), if_neg (fun q => hl q.2.1)]
          exact ih (w + 1) _ (by omega) (by omega)
      · rw [if_neg hb, if_neg (fun q => hb q.1)]
        exact ih (w + 1) _ (by omega) (by omega)
theorem b5_s {n : Nat} {x : Nat → Int32} {X : ZMem} {P i k : Nat} {F : Option Nat} {left : Int32} (hR : HR X) (hL : LT n x X) (hP : P < 1000) (hi : i < 6) : fX5_readWord_b5 131 (k + 1) 94 left (nI i) (rd X P F) = resW (fX5_readWord_b5 131 k) X P i F (inn left i (lx n x P) 7 0 0) := by
  rw [fX5_readWord_b5, if_neg (show ¬ (6 : Int32) ≤ nI i from fun q => by have := (nI_leI (a := 6) (by omega) (by omega)).mp q; omega), here_c hR hL hP, bd2_s]
  exact b22_c (by omega) FU 0 0 (by omega) (by show 7 < 2000 + 0; omega)
-- what each look finds
theorem inn_w {w i : Nat} {c : Int32} (hw : w < 7) (hi : i < zWd w) : inn (nI (2 ^ w)) i c 7 0 0 = if c = wdA (sWd w + i) then (if i + 1 = zWd w then (some w, 0) else (none, nI (2 ^ w))) else (none, 0) := by
  have hz := zs8 w hw
  have hch : ∀ w, w < 7 → ∀ i, i < zWd w → zschr w i = wdA (sWd w + i) := by decide +kernel
  have hc := hch w hw i hi
  have h8 : i < 8 := by omega
  have hsl : ∀ w, w < 7 → (0 : Int32) ||| (1 : Int32) <<< (nI w &&& 31) = nI (2 ^ w) := by decide +kernel
  have hbit : ∀ w, w < 7 → ∀ j, j < 7 → ((nI (2 ^ w) >>> (nI j &&& 31)) &&& 1 = 1 ↔ j = w) := by decide +kernel
  by_cases he : c = wdA (sWd w + i)
  · rw [if_pos he]
    have key : ∀ r j, j + r = 7 → j ≤ w → inn (nI (2 ^ w)) i c r j 0 = if i + 1 = zWd w then (some w, 0) else (none, nI (2 ^ w)) := by
      intro r
      induction r with
      | zero => intro j q1 q2; omega
      | succ r ih =>
        intro j q1 q2
        unfold inn
        by_cases hj : j = w
        · subst hj
          rw [if_pos ⟨(hbit j hw j hw).mpr rfl, by omega, hc.trans he.symm⟩, hz.2.2]
          by_cases hl : i + 1 = zWd j
          · rw [if_pos hl, if_pos hl]
          · rw [if_neg hl, if_neg hl, hsl j hw]
            exact inn_none r (j + 1) _ (fun j' a1 a2 a3 _ => absurd ((hbit j hw j' (by omega)).mp a3) (by omega))
        · rw [if_neg (fun q => hj ((hbit w hw j (by omega)).mp q.1))]
          exact ih (j + 1) (by omega) (by omega)
    exact key 7 0 rfl (Nat.zero_le _)
  · rw [if_neg he]
    refine inn_none 7 0 0 (fun j _ a2 a3 _ q => he ?_)
    have := (hbit w hw j (by omega)).mp a3
    subst this
    exact q.symm.trans hc
theorem inn_127 (c : Int32) : inn 127 0 c 7 0 0 = if c = 112 then (none, 1) else if c = 119 then (none, 6) else if c = 98 then (none, 8) else if c = 108 then (none, 16) else if c = 99 then (none, 32) else if c = 102 then (none, 64) else (none, 0) := by
  by_cases h1 : c = 112
  · subst h1; decide +kernel
  · by_cases h2 : c = 119
    · subst h2; decide +kernel
    · by_cases h3 : c = 98
      · subst h3; decide +kernel
      · by_cases h4 : c = 108
        · subst h4; decide +kernel
        · by_cases h5 : c = 99
          · subst h5; decide +kernel
          · by_cases h6 : c = 102
            · subst h6; decide +kernel
            · rw [if_neg h1, if_neg h2, if_neg h3, if_neg h4, if_neg h5, if_neg h6]
              have hz : ∀ j, j < 7 → zschr j 0 = 112 ∨ zschr j 0 = 119 ∨ zschr j 0 = 98 ∨ zschr j 0 = 108 ∨ zschr j 0 = 99 ∨ zschr j 0 = 102 := by decide +kernel
              refine inn_none 7 0 0 (fun j _ a2 _ _ q => ?_)
              rcases hz j (by omega) with r | r | r | r | r | r
              · exact h1 (q.symm.trans r)
              · exact h2 (q.symm.trans r)
              · exact h3 (q.symm.trans r)
              · exact h4 (q.symm.trans r)
              · exact h5 (q.symm.trans r)
              · exact h6 (q.symm.trans r)
theorem inn_6 (c : Int32) : inn 6 1 c 7 0 0 = if c = 101 then (none, 2) else if c = 97 then (none, 4) else (none, 0) := by
  by_cases h1 : c = 101
  · subst h1; decide +kernel
  · by_cases h2 : c = 97
    · subst h2; decide +kernel
    · rw [if_neg h1, if_neg h2]
      have hz : ∀ j, j < 7 → ((6 : Int32) >>> (nI j &&& 31)) &&& 1 = 1 → zschr j 1 = 101 ∨ zschr j 1 = 97 := by decide +kernel
      refine inn_none 7 0 0 (fun j _ a2 a3 _ q => ?_)
      rcases hz j (by omega) a3 with r | r
      · exact h1 (q.symm.trans r)
      · exact h2 (q.symm.trans r)
def finC (X : ZMem) (P : Nat) (F : Option Nat) (q : Nat × Option Nat) : Option (ZMem × Int32) := match q.2 with
  | some w => some (rd X (P + q.1) F, nI w)
  | none => some (rd X (P + q.1) (some (P + q.1)), -1)
theorem chain_c {n : Nat} {x : Nat → Int32} {X : ZMem} {P w : Nat} {F : Option Nat} (hR : HR X) (hL : LT n x X) (hP : P < 900) (hw : w < 7) : ∀ r i k, i + r = zWd w → 1 ≤ r → fX5_readWord_b5 131 (k + r) 94 (nI (2 ^ w)) (nI i) (rd X (P + i) F) = finC X P F (pmW w (fun j => lx n x (P + j)) r i, if pmW w (fun j => lx n x (P + j)) r i = zWd w then some w else none) := by
  have hz : ∀ w, w < 7 → zWd w ≤ 6 := by decide
  have hz6 := hz w hw
  intro r
  induction r with
  | zero => intro i k _ q; omega
  | succ r ih =>
    intro i k q1 q2
    rw [show k + (r + 1) = (k + r) + 1 by omega, b5_s hR hL (by omega) (by omega), inn_w hw (by omega)]
    have hpm : pmW w (fun j => lx n x (P + j)) (r + 1) i = if lx n x (P + i) = wdA (sWd w + i) then pmW w (fun j => lx n x (P + j)) r (i + 1) else i := rfl
    rw [hpm]
    by_cases hc : lx n x (P + i) = wdA (sWd w + i)
    · rw [if_pos hc, if_pos hc]
      by_cases he : i + 1 = zWd w
      · have hr : r = 0 := by omega
        subst hr
        rw [if_pos he]
        show some (rd X (P + i + 1) F, nI w) = finC X P F (i + 1, if i + 1 = zWd w then some w else none)
        rw [if_pos he]
        rfl
      · rw [if_neg he]
        have hne : ¬ nI (2 ^ w) = 0 := by
          have g : ∀ w, w < 7 → ¬ nI (2 ^ w) = 0 := by decide +kernel
          exact g w hw
        show (if nI (2 ^ w) = 0 then _ else fX5_readWord_b5 131 (k + r) 94 (nI (2 ^ w)) (nI (i + 1)) (rd X (P + i + 1) F)) = _
        rw [if_neg hne]
        exact ih (i + 1) k (by omega) (by omega)
    · rw [if_neg hc, if_neg hc]
      rw [resW_0, if_neg (by omega)]
      rfl
theorem word_c {n : Nat} {x : Nat → Int32} {X : ZMem} {P : Nat} {F : Option Nat} (hR : HR X) (hL : LT n x X) (hP : P < 900) : fX5_readWord 131 94 (rd X P F) = finC X P F (wsp (fun j => lx n x (P + j))) := by
  unfold fX5_readWord
  rw [chk_t c5_c]
  have k0 : fX5_readWord_b5 131 FU 94 127 0 (rd X P F) = resW (fX5_readWord_b5 131 1999) X P 0 F (inn 127 0 (lx n x P) 7 0 0) := b5_s (k := 1999) (i := 0) hR hL (by omega) (by omega)
  rw [k0, inn_127]
  have one : ∀ w, w < 7 → lx n x P = wdA (sWd w) → fX5_readWord_b5 131 1999 94 (nI (2 ^ w)) (nI 1) (rd X (P + 1) F) = finC X P F (gW (fun j => lx n x (P + j)) w) := by
    intro w hw hc
    have hz : ∀ w, w < 7 → 3 ≤ zWd w ∧ zWd w ≤ 6 := by decide
    have hz6 := hz w hw
    obtain ⟨r, er⟩ : ∃ r, zWd w = r + 1 := ⟨zWd w - 1, by omega⟩
    have k1 := chain_c (F := F) hR hL hP hw r 1 (1999 - r) (by omega) (by omega)
    rw [show 1999 - r + r = 1999 by omega] at k1
    rw [k1]
    unfold gW
    have hpm : pmW w (fun j => lx n x (P + j)) (zWd w) 0 = pmW w (fun j => lx n x (P + j)) r 1 := by
      rw [er]
      show (if lx n x (P + 0) = wdA (sWd w + 0) then pmW w (fun j => lx n x (P + j)) r (0 + 1) else 0) = _
      rw [if_pos (show lx n x (P + 0) = wdA (sWd w + 0) from hc)]
    rw [hpm]
  have two : ∀ w, (w = 1 ∨ w = 2) → lx n x P = 119 → lx n x (P + 1) = wdA (sWd w + 1) → fX5_readWord_b5 131 1998 94 (nI (2 ^ w)) (nI 2) (rd X (P + 1 + 1) F) = finC X P F (gW (fun j => lx n x (P + j)) w) := by
    intro w hw12 hc0 hc
    have hw : w < 7 := by omega
    have hz : ∀ w, w < 7 → 3 ≤ zWd w ∧ zWd w ≤ 6 := by decide
    have hz6 := hz w hw
    have hc0' : lx n x P = wdA (sWd w) := by
      rw [hc0]
      rcases hw12 with rfl | rfl <;> decide
    obtain ⟨r, er⟩ : ∃ r, zWd w = r + 1 + 1 := ⟨zWd w - 2, by omega⟩
    have k1 := chain_c (F := F) hR hL hP hw r 2 (1998 - r) (by omega) (by omega)
    rw [show 1998 - r + r = 1998 by omega] at k1
    refine Eq.trans k1 ?_
    unfold gW
    have hpm : pmW w (fun j => lx n x (P + j)) (zWd w) 0 = pmW w (fun j => lx n x (P + j)) r 2 := by
      rw [er]
      show (if lx n x (P + 0) = wdA (sWd w + 0) then (if lx n x (P + (0 + 1)) = wdA (sWd w + (0 + 1)) then pmW w (fun j => lx n x (P + j)) r (0 + 1 + 1) else (0 + 1)) else 0) = _
      rw [if_pos (show lx n x (P + 0) = wdA (sWd w + 0) from hc0'), if_pos (show lx n x (P + (0 + 1)) = wdA (sWd w + (0 + 1)) from hc)]
    rw [hpm]
  unfold wsp
  show _ = finC X P F (if lx n x (P + 0) = 112 then _ else if lx n x (P + 0) = 119 then _ else if lx n x (P + 0) = 98 then _ else if lx n x (P + 0) = 108 then _ else if lx n x (P + 0) = 99 then _ else if lx n x (P + 0) = 102 then _ else (0, none))
  rw [Nat.add_zero]
  by_cases h1 : lx n x P = 112
  · rw [if_pos h1, if_pos h1]
    exact one 0 (by omega) h1
  · rw [if_neg h1, if_neg h1]
    by_cases h2 : lx n x P = 119
    · rw [if_pos h2, if_pos h2]
      show fX5_readWord_b5 131 1999 94 6 (nI 1) (rd X (P + 1) F) = _
      have k2 : fX5_readWord_b5 131 1999 94 6 (nI 1) (rd X (P + 1) F) = resW (fX5_readWord_b5 131 1998) X (P + 1) 1 F (inn 6 1 (lx n x (P + 1)) 7 0 0) := b5_s (k := 1998) (i := 1) hR hL (by omega) (by omega)
      rw [k2, inn_6]
      by_cases g1 : lx n x (P + 1) = 101
      · rw [if_pos g1, if_pos g1]
        exact two 1 (Or.inl rfl) h2 g1
      · rw [if_neg g1, if_neg g1]
        by_cases g2 : lx n x (P + 1) = 97
        · rw [if_pos g2, if_pos g2]
          exact two 2 (Or.inr rfl) h2 g2
        · rw [if_neg g2, if_neg g2]
          rfl
    · rw [if_neg h2, if_neg h2]
      by_cases h3 : lx n x P = 98
      · rw [if_pos h3, if_pos h3]
        exact one 3 (by omega) h3
      · rw [if_neg h3, if_neg h3]
        by_cases h4 : lx n x P = 108
        · rw [if_pos h4, if_pos h4]
          exact one 4 (by omega) h4
        · rw [if_neg h4, if_neg h4]
          by_cases h5 : lx n x P = 99
          · rw [if_pos h5, if_pos h5]
            exact one 5 (by omega) h5
          · rw [if_neg h5, if_neg h5]
            by_cases h6 : lx n x P = 102
            · rw [if_pos h6, if_pos h6]
              exact one 6 (by omega) h6
            · rw [if_neg h6, if_neg h6]
              rfl
