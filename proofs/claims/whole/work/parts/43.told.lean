-- TOLD ROWS; TALKS
theorem told_or {S : St} (hw : WfS S) (v n : Int32) (m : Nat) (hm : 1 ≤ m ∧ m ≤ 2) (E : Int64) (hE : ∀ c, c < 2 ^ 31 → n = nI c → E = lN (m * c)) (b : Int32) :
    (NoS v ∧ ∀ μ, HR μ → InvC μ S → fX6_toldRefusal 131 0 v n E b μ = some (μ, -nI 1)) ∨ ∃ s, s < 8 ∧ v = nI s ∧
      ((¬ hW (gS S s) = 1 ∧ ∀ μ, HR μ → InvC μ S → fX6_toldRefusal 131 0 v n E b μ = some (μ, -nI (rr (gS S s)))) ∨
       (hW (gS S s) = 1 ∧ n < 0 ∧ ∀ μ, HR μ → InvC μ S → fX6_toldRefusal 131 0 v n E b μ = some (μ, -nI 4)) ∨
       (hW (gS S s) = 1 ∧ ∃ c, c < 2 ^ 31 ∧ n = nI c ∧ (((hZ (gS S s) < m * c ∨ b = 0) ∧ ∀ μ, HR μ → InvC μ S → fX6_toldRefusal 131 0 v n E b μ = some (μ, -nI 5)) ∨ (m * c ≤ hZ (gS S s) ∧ ¬ b = 0 ∧ ∀ μ, HR μ → InvC μ S → fX6_toldRefusal 131 0 v n E b μ = some (μ, 0))))) := by
  rcases shelf_or v with hv | ⟨s, hs, rfl⟩
  · refine Or.inl ⟨hv, fun μ hR h => ?_⟩
    unfold fX6_toldRefusal
    rw [chk_t c_c, rowRef_z hv, bd2_s, if_neg (neg_ne (by omega) (by omega))]
  · refine Or.inr ⟨s, hs, rfl, ?_⟩
    by_cases h1 : hW (gS S s) = 1
    · have hz := ((hw.2.2.1 s hs).2.1 h1).2
      have st : ∀ μ, HR μ → InvC μ S → fX6_toldRefusal 131 0 (nI s) n E b μ = (if 0 ≤ n then (if (lg_cmp (lN (hZ (gS S s))) E) < 0 then (fX6_toldRefusal_b42 131 μ) else (if b = 0 then (fX6_toldRefusal_b42 131 μ) else (fX6_toldRefusal_b48 131 (0 : Int32) μ))) else some (μ, (-4 : Int32))) := by
        intro μ hR h
        unfold fX6_toldRefusal
        rw [chk_t c_c, rowRef hR hw h hs, rr_1 h1, bd2_s, if_pos neg0, cr0 hR, bd1_s, chk_t (shi hs), shr hR hs, bd1_s, cZ h hs h1, nI_l (by omega)]
      rcases nat_or n with hn | ⟨c, hc, rfl⟩
      · refine Or.inr (Or.inl ⟨h1, hn, fun μ hR h => ?_⟩)
        rw [st μ hR h, if_neg (fa_of_lt hn).2.1]; rfl
      · refine Or.inr (Or.inr ⟨h1, c, hc, rfl, ?_⟩)
        have hE2 := hE c hc rfl
        have hmc : m * c < 2 ^ 63 := by
          have : m * c ≤ 2 * 2 ^ 31 := Nat.mul_le_mul hm.2 (by omega)
          omega
        unfold fX6_toldRefusal_b42 fX6_toldRefusal_b48 at st
        by_cases hd : hZ (gS S s) < m * c
        · refine Or.inl ⟨Or.inl hd, fun μ hR h => ?_⟩
          rw [st μ hR h, if_pos (nI_pos' hc), hE2, if_pos ((lg_cmp_lt _ _).mpr ((pk_lLT (by omega) hmc).mpr hd))]; rfl
        · have g : ¬ lg_cmp (lN (hZ (gS S s))) (lN (m * c)) < 0 := fun q => hd ((pk_lLT (by omega) hmc).mp ((lg_cmp_lt _ _).mp q))
          by_cases hb : b = 0
          · refine Or.inl ⟨Or.inr hb, fun μ hR h => ?_⟩
            rw [st μ hR h, if_pos (nI_pos' hc), hE2, if_neg g, if_pos hb]; rfl
          · refine Or.inr ⟨by omega, hb, fun μ hR h => ?_⟩
            rw [st μ hR h, if_pos (nI_pos' hc), hE2, if_neg g, if_neg hb]
    · refine Or.inl ⟨h1, fun μ hR h => ?_⟩
      have hr := rr_n h1
      unfold fX6_toldRefusal
      rw [chk_t c_c, rowRef hR hw h hs, bd2_s, if_neg (neg_ne (by omega) (by omega))]
/-- talks: both sides refuse alike, or a row of so many is told -/
theorem talk_or {S : St} (hw : WfS S) (v n b : Int32) :
    (∃ k, 1 ≤ k ∧ k ≤ 7 ∧ ∀ μ, HR μ → (InvC μ S → fX6_talkRefusal 131 0 v n b μ = some (μ, -nI k)) ∧ (InvM μ S → fX7_barsOfTalk 131 108 v n b μ = some (μ, -nI k))) ∨
    (¬ b = 0 ∧ ∃ s c, s < 8 ∧ hW (gS S s) = 1 ∧ c ≤ 40 ∧ c ≤ hZ (gS S s) ∧ v = nI s ∧ n = nI c ∧ ∀ μ, HR μ → (InvC μ S → fX6_talkRefusal 131 0 v n b μ = some (μ, 0)) ∧ (InvM μ S → fX7_barsOfTalk 131 108 v n b μ = some (μ, 0))) := by
  have cN : ∀ k, 1 ≤ k → k ≤ 7 → (∀ μ, HR μ → InvC μ S → fX6_toldRefusal 131 0 v n n.toInt64 b μ = some (μ, -nI k)) → ∀ μ, HR μ → InvC μ S → fX6_talkRefusal 131 0 v n b μ = some (μ, -nI k) := by
    intro k k1 k7 g μ hR h
    unfold fX6_talkRefusal
    rw [chk_t c_c, g μ hR h, bd2_s, if_neg (neg_ne k1 k7)]
  rcases told_or hw v n 1 (by omega) n.toInt64 (fun c hc e => by rw [e, nI_l hc, Nat.one_mul]) b with ⟨hv, t⟩ | ⟨s, hs, rfl, ⟨h1, t⟩ | ⟨h1, hn, t⟩ | ⟨h1, c, hc, rfl, ⟨hd, t⟩ | ⟨hd, hb, t⟩⟩⟩
  · refine Or.inl ⟨1, by omega, by omega, fun μ hR => ⟨cN 1 (by omega) (by omega) t μ hR, fun h => ?_⟩⟩
    unfold fX7_barsOfTalk fX7_barsOfTalk_b57
    rw [chk_t m_c, wanted_z hv, bd2_s, if_neg (neg_ne (by omega) (by omega))]
  · have hr := rr_n h1
    refine Or.inl ⟨rr (gS S s), by omega, by omega, fun μ hR => ⟨cN _ (by omega) (by omega) t μ hR, fun h => ?_⟩⟩
    unfold fX7_barsOfTalk fX7_barsOfTalk_b57
    rw [chk_t m_c, wanted_m hR hw h hs, bd2_s, if_neg (neg_ne (by omega) (by omega))]
  · refine Or.inl ⟨4, by omega, by omega, fun μ hR => ⟨cN 4 (by omega) (by omega) t μ hR, fun h => ?_⟩⟩
    unfold fX7_barsOfTalk fX7_barsOfTalk_b57
    rw [chk_t m_c, wanted_m hR hw h hs, rr_1 h1, bd2_s, if_pos neg0, if_neg (fa_of_lt hn).2.1]; rfl
  · refine Or.inl ⟨5, by omega, by omega, fun μ hR => ⟨cN 5 (by omega) (by omega) t μ hR, fun h => ?_⟩⟩
    have hz := ((hw.2.2.1 s hs).2.1 h1).2
    unfold fX7_barsOfTalk fX7_barsOfTalk_b40 fX7_barsOfTalk_b57
    rw [chk_t m_c, wanted_m hR hw h hs, rr_1 h1, bd2_s, if_pos neg0, if_pos (nI_pos' hc), mr17 hR, bd1_s, chk_t (i17 hs), mZ h hs h1]
    by_cases hdd : hZ (gS S s) < c
    · rw [if_pos ((nI_ltI (by omega) hc).mpr hdd)]; rfl
    · have hb0 : b = 0 := Or.resolve_left hd (fun q => hdd (by omega))
      rw [if_neg (fun q => hdd ((nI_ltI (by omega) hc).mp q)), if_pos hb0]; rfl
  · have hz := ((hw.2.2.1 s hs).2.1 h1).2
    by_cases h40 : c ≤ 40
    · refine Or.inr ⟨hb, s, c, hs, h1, h40, by omega, rfl, rfl, fun μ hR => ⟨fun h => ?_, fun h => ?_⟩⟩
      · unfold fX6_talkRefusal fX6_talkRefusal_b31
        rw [chk_t c_c, t μ hR h, bd2_s, if_pos rfl, if_pos (show nI c ≤ (40 : Int32) from (nI_leI (b := 40) hc (by omega)).mpr h40)]
      · unfold fX7_barsOfTalk fX7_barsOfTalk_b57
        rw [chk_t m_c, wanted_m hR hw h hs, rr_1 h1, bd2_s, if_pos neg0, if_pos (nI_pos' hc), mr17 hR, bd1_s, chk_t (i17 hs), mZ h hs h1, if_neg (fun q => by have := (nI_ltI (by omega) hc).mp q; omega), if_neg hb, if_pos (show nI c ≤ (40 : Int32) from (nI_leI (b := 40) hc (by omega)).mpr h40)]
    · refine Or.inl ⟨6, by omega, by omega, fun μ hR => ⟨fun h => ?_, fun h => ?_⟩⟩
      · unfold fX6_talkRefusal fX6_talkRefusal_b31
        rw [chk_t c_c, t μ hR h, bd2_s, if_pos rfl, if_neg (show ¬ nI c ≤ (40 : Int32) from fun q => h40 ((nI_leI (b := 40) hc (by omega)).mp q))]; rfl
      · unfold fX7_barsOfTalk fX7_barsOfTalk_b57
        rw [chk_t m_c, wanted_m hR hw h hs, rr_1 h1, bd2_s, if_pos neg0, if_pos (nI_pos' hc), mr17 hR, bd1_s, chk_t (i17 hs), mZ h hs h1, if_neg (fun q => by have := (nI_ltI (by omega) hc).mp q; omega), if_neg hb, if_neg (show ¬ nI c ≤ (40 : Int32) from fun q => h40 ((nI_leI (b := 40) hc (by omega)).mp q))]; rfl
-- what is told
def tn (x : Int32) : Nat := x.toInt.toNat
theorem tn_nI {t : Nat} (h : t < 2 ^ 31) : tn (nI t) = t := by
  unfold tn
  rw [nI_toInt h]
  omega
def tBad (N : Nat) (x : Int32) : Bool := decide (x < 0) || (decide (N ≤ tn x / 10) || decide (5 < tn x % 10))
theorem tBad_or (N : Nat) (x : Int32) : (tBad N x = true ∧ (x < 0 ∨ ∃ t, t < 2 ^ 31 ∧ x = nI t ∧ (N ≤ t / 10 ∨ (t / 10 < N ∧ 5 < t % 10)))) ∨ (¬ tBad N x = true ∧ ∃ t, t < 2 ^ 31 ∧ x = nI t ∧ t / 10 < N ∧ t % 10 ≤ 5 ∧ tn x = t) := by
  unfold tBad
  rcases nat_or x with h | ⟨t, ht, rfl⟩
  · exact Or.inl ⟨by rw [decide_eq_true h]; rfl, Or.inl h⟩
  · rw [tn_nI ht, decide_eq_false (nI_pos ht), Bool.false_or]
    by_cases c1 : N ≤ t / 10
    · exact Or.inl ⟨by rw [decide_eq_true c1]; rfl, Or.inr ⟨t, ht, rfl, Or.inl c1⟩⟩
    · by_cases c2 : 5 < t % 10
      · exact Or.inl ⟨by rw [decide_eq_true c2, Bool.or_true], Or.inr ⟨t, ht, rfl, Or.inr ⟨by omega, c2⟩⟩⟩
      · exact Or.inr ⟨by rw [decide_eq_false c1, decide_eq_false c2]; decide, t, ht, rfl, by omega, by omega, rfl⟩
def mWrong (N : Nat) (x : Nat → Int32) : Nat → Nat → Option Nat
  | 0, _ => none
  | r + 1, i => if tBad N (x i) = true then some i else mWrong N x r (i + 1)
def mTalk (x : Nat → Int32) : Nat → Nat → Sg → Sg
  | 0, _, σ => σ
  | r + 1, i, σ => mTalk x r (i + 1) (mStep none (mHear (tn (x i) / 10) (tn (x i) % 10) σ))
def xE (h : Sh) (i : Nat) : Int32 := (hE h i).toInt32
theorem div10 {t : Nat} (h : t < 2 ^ 31) : nI t / (10 : Int32) = nI (t / 10) := pk_div (d := 10) h (by omega) (by omega)
theorem rem10 {t : Nat} (h : t < 2 ^ 31) : nI t - nI t / (10 : Int32) * (10 : Int32) = nI (t % 10) := pk_rem (d := 10) h (by omega) (by omega)
theorem wrong_c {μ : ZMem} {S : St} (hR : HR μ) (hw : WfS S) (h : InvC μ S) {s c : Nat} (hs : s < 8) (e : hW (gS S s) = 1) (hc : c ≤ hZ (gS S s)) : ∀ k i, i ≤ c → c < k + i → fX6_firstWrong_b2 131 k 0 (2 + 2 * s) (nI c) (nI i) μ = some (μ, oI (mWrong (sN (gV S)) (xE (gS S s)) (c - i) i)) := by
  have hz := ((hw.2.2.1 s hs).2.1 e).2
  intro k
  induction k with
  | zero => intro i _ _; omega
  | succ k ih =>
    intro i q1 q2
    rw [fX6_firstWrong_b2]
    unfold fX6_firstWrong_b40
    by_cases hi : i = c
    · rw [if_pos ((nI_leI (by omega) (by omega)).mpr (by omega)), hi, Nat.sub_self]
      rfl
    · rw [if_neg (fun q => by have := (nI_leI (by omega) (by omega)).mp q; omega), intAt_i hR hw h hs e (by omega), bd2_s, show c - i = (c - (i + 1)) + 1 by omega, nI_1]
      unfold mWrong
      rcases tBad_or (sN (gV S)) (xE (gS S s) i) with ⟨hb, hx⟩ | ⟨hb, t, ht, hx, h1, h2, h3⟩
      · rw [if_pos hb]
        rcases hx with hx | ⟨t, ht, hx, hx2⟩
        · have hx' : (hE (gS S s) i).toInt32 < 0 := hx
          rw [if_pos hx']
          rfl
        · have hx' : (hE (gS S s) i).toInt32 = nI t := hx
          rw [hx', if_neg (nI_pos ht), rem10 ht, div10 ht]
          rcases hx2 with hx2 | ⟨hx2, hx3⟩
          · rw [isPerson_z hR hw h (Or.inr ⟨_, by omega, hx2, rfl⟩), bd2_s, if_pos rfl]
            rfl
          · rw [isPerson_i hR hw h hx2, bd2_s, if_neg one_ne, if_neg (show ¬ nI (t % 10) ≤ (5 : Int32) from fun q => by have := (nI_leI (b := 5) (by omega) (by omega)).mp q; omega)]
            rfl
      · have hx' : (hE (gS S s) i).toInt32 = nI t := hx
        rw [if_neg hb, hx', if_neg (nI_pos ht), rem10 ht, div10 ht, isPerson_i hR hw h h1, bd2_s, if_neg one_ne, if_pos (show nI (t % 10) ≤ (5 : Int32) from (nI_leI (b := 5) (by omega) (by omega)).mpr h2)]
        exact ih (i + 1) (by omega) (by omega)
theorem Wf_hs {σ : Sg} {N : Nat} {x : Int32} (hW : Wf σ) (hN : sN σ = N) (hb : ¬ tBad N x = true) : Wf (mStep none (mHear (tn x / 10) (tn x % 10) σ)) ∧ sN (mStep none (mHear (tn x / 10) (tn x % 10) σ)) = N := by
  rcases tBad_or N x with ⟨hb2, _⟩ | ⟨_, t, ht, hx, h1, h2, h3⟩
  · exact absurd hb2 hb
  · rw [h3, (mStep_N none _).1, (mHear_N _ _ _).1]
    exact ⟨Wf_step (Wf_hear hW (by rw [hN]; exact h1)), hN⟩
theorem Wf_talk {N : Nat} {x : Nat → Int32} : ∀ r i {σ : Sg}, Wf σ → sN σ = N → mWrong N x r i = none → Wf (mTalk x r i σ) ∧ sN (mTalk x r i σ) = N := by
  intro r
  induction r with
  | zero => intro i σ hW hN _; exact ⟨hW, hN⟩
  | succ r ih =>
    intro i σ hW hN hn
    unfold mWrong at hn
    by_cases hb : tBad N (x i) = true
    · rw [if_pos hb] at hn; cases hn
    · rw [if_neg hb] at hn
      have q := Wf_hs (x := x i) hW hN hb
      unfold mTalk
      exact ih (i + 1) q.1 q.2 hn
theorem hearLoop_c {μ : ZMem} {v s c N : Nat} {x : Nat → Int32} (hv : VS v) (hR : HR μ) (hc : c < 1000) (hI : ∀ σ, Wf σ → sN σ = N → ∀ i, i < c → fX3_intAt 131 (2 + 2 * s) (nI i) (ovl μ v σ) = some (ovl μ v σ, x i)) : ∀ k i σ, Wf σ → sN σ = N → i ≤ c → c < k + i → mWrong N x (c - i) i = none → fX4_hearTalk_b2 131 k v (2 + 2 * s) (nI c) (nI i) (ovl μ v σ) = some (ovl μ v (mTalk x (c - i) i σ)) := by
  intro k
  induction k with
  | zero => intro i σ _ _ _ _ _; omega
  | succ k ih =>
    intro i σ hW hN q1 q2 hn
    rw [fX4_hearTalk_b2]
    by_cases hi : i = c
    · rw [if_pos ((nI_leI (by omega) (by omega)).mpr (by omega)), hi, Nat.sub_self]
      rfl
    · rw [show c - i = (c - (i + 1)) + 1 by omega] at hn ⊢
      unfold mWrong at hn
      by_cases hb : tBad N (x i) = true
      · rw [if_pos hb] at hn; cases hn
      · rw [if_neg hb] at hn
        have q := Wf_hs (x := x i) hW hN hb
        rcases tBad_or N (x i) with ⟨hb2, _⟩ | ⟨_, t, ht, hx, h1, h2, h3⟩
        · exact absurd hb2 hb
        · rw [if_neg (fun q => by have := (nI_leI (by omega) (by omega)).mp q; omega), hI σ hW hN i (by omega), bd2_s, hx, rem10 ht, div10 ht, hear_c hv hR hW (by rw [hN]; exact h1) h2, bd1_s, stepN_c hv hR (Wf_hear hW (by rw [hN]; exact h1)), bd1_s, nI_1]
          rw [h3] at q
          have nxt := ih (i + 1) _ q.1 q.2 (by omega) (by omega) hn
          unfold mTalk
          rw [h3]
          exact nxt
theorem intAt_e {X : ZMem} {s i : Nat} {y : Int64} (hR : HR X) (hs : s < 8) (hi : i < 160) (e : X.2.1 119 (160 * s + i) = y) : fX7_intAt 131 108 (nI s) (nI i) X = some (X, y.toInt32) := by
  unfold fX7_intAt
  rw [chk_t m_c, mr19 hR, bd1_s, chk_t (i19 hs hi), x19 hs hi, ← e]
  rfl
theorem talks_m {μ : ZMem} {s c N : Nat} {x : Nat → Int32} (hR : HR μ) (hc : c < 1000) (h33 : zI μ 108 33 = -1) (hI : ∀ σ, ∀ i, i < c → fX7_intAt 131 108 (nI s) (nI i) (ovm μ σ) = some (ovm μ σ, x i)) : ∀ k i σ, Wf σ → sN σ = N → i ≤ c → c < k + i → ∃ τ, fX7_talks_b2 131 k 108 (nI s) (nI c) (nI i) (ovm μ σ) = some (ovm μ τ, oI (mWrong N x (c - i) i)) ∧ (mWrong N x (c - i) i = none → τ = mTalk x (c - i) i σ) := by
  intro k
  induction k with
  | zero => intro i σ _ _ _ _; omega
  | succ k ih =>
    intro i σ hW hN q1 q2
    rw [fX7_talks_b2]
    unfold fX7_talks_b41
    by_cases hi : i = c
    · rw [if_pos ((nI_leI (by omega) (by omega)).mpr (by omega)), hi, Nat.sub_self]
      exact ⟨σ, rfl, fun _ => rfl⟩
    · have hN7 := hW.1
      rw [if_neg (fun q => by have := (nI_leI (by omega) (by omega)).mp q; omega), hI σ i (by omega), bd2_s, show c - i = (c - (i + 1)) + 1 by omega, nI_1]
      unfold mWrong
      rcases tBad_or N (x i) with ⟨hb, hx⟩ | ⟨hb, t, ht, hx, h1, h2, h3⟩
      · rw [if_pos hb]
        refine ⟨σ, ?_, fun q => by cases q⟩
        rcases hx with hx | ⟨t, ht, hx, hx2⟩
        · rw [if_pos hx]
          rfl
        · rw [hx, if_neg (nI_pos ht), rem10 ht, div10 ht, ovm_0, hN]
          rcases hx2 with hx2 | ⟨hx2, hx3⟩
          · rw [if_pos ((nI_leI (by omega) (by omega)).mpr hx2)]
            rfl
          · rw [if_neg (fun q => by have := (nI_leI (by omega) (by omega)).mp q; omega), if_neg (show ¬ nI (t % 10) ≤ (5 : Int32) from fun q => by have := (nI_leI (b := 5) (by omega) (by omega)).mp q; omega)]
            rfl
      · have q := Wf_hs (x := x i) hW hN hb
        rw [h3] at q
        obtain ⟨τ, n1, n2⟩ := ih (i + 1) _ q.1 q.2 (by omega) (by omega)
        rw [if_neg hb, hx, if_neg (nI_pos ht), rem10 ht, div10 ht, ovm_0, hN, if_neg (fun q => by have := (nI_leI (by omega) (by omega)).mp q; omega), if_pos (show nI (t % 10) ≤ (5 : Int32) from (nI_leI (b := 5) (by omega) (by omega)).mpr h2), speaks_m hR hW (by rw [hN]; exact h1) h2, bd1_s, stepN_m hR (Wf_hear hW (by rw [hN]; exact h1)) h33, bd1_s]
        refine ⟨τ, n1, fun q2 => ?_⟩
        unfold mTalk
        rw [h3]
        exact n2 q2
