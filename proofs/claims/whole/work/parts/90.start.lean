/-! THE CLAIM OUT OF ONE WALK OF THE LAW'S BODY. Your part is whole_start (and what it stands on); all else here is the same for every law, but numbers. -/
def R_law : String := "WhoComplainsCarriesLaw"
def lw_P (b : Addr) (xs : List Int32) (args : Array Value) (s : State) : Prop := args = #[.ref b] ∧ s.IntsAt b xs ∧ xs.length ≤ 3072 ∧ (Jvm.Cond.and given_1 narrow_1).before args s = true
def lw_Q (_ : Array Value) (s : State) (o : Outcome) (t : State) : Prop := o = .returned (some (.int 1)) ∧ Framed s o t [] 600000 7302250
def lw_Z (below : List Frame) (a : Array Value) (s : State) : State → Prop := fun t => ∃ o, t.status = .running ∧ Ended t below o ∧ lw_Q a s o t
/-- the law's own end, with 1 on the stack, nothing written that was there before, its room as the claim has it -/
theorem lw_ret {p : Program} {l : Launch} {e : Env} {s : State} {m : MethodId} {below : List Frame} {meth : Method} {c : Code} {b : Nat} (hx : p.tables.exec = Jvm.exec) (hb : c.code = code) (hr : meth.sig.returnType = ret) (hlocks : meth.locks = false) {pc : Nat} {H : Heap} {ls : Array Slot} (hdg : decode code pc = .ok (.ireturn, 1)) : W p l e room_1 s m #[Value.ref b] below meth c H [] 600000 7302250 (lw_Z below #[Value.ref b] s) (F0 m pc ls [.int 1]) := by
  intro T hT X
  obtain ⟨fs, hret, hrun, hended, hW, hframe⟩ := X.leave (v := some (.int 1)) (hlocks := hlocks) (fun h => by rw [hr] at h; cases h)
  have hmeth' : T.vm.method? m = some meth := X.method'
  refine ⟨T.setFrames fs, ?_, .returned (some (.int 1)), hrun, hended, rfl, ⟨_, rfl⟩, hW, hframe⟩
  jvm_step X.here [X.here.top, hx, hb, hdg, hmeth', hr, ret, narrow_b1]
  (try refine ⟨rfl, ?_⟩); (try refine ⟨rfl, ?_⟩)
  first | (intro acts; rw [hret _ acts rfl rfl rfl]) | rw [hret _ _ rfl rfl rfl]
  exact Steps.refl _
/-- what holds at the law's entry: the machine, the code, the tables' words (any of lw_tbl by 'hts w (by decide +kernel)'), the script of L ints xs at the cell b, what the Statement gives of the start (any of its parts by flat_of_before) -/
def lw_At (p : Program) (s : State) (m : MethodId) (meth : Method) (c : Code) (b L : Nat) (xs : Nat → Int32) : Prop :=
  p.tables.exec = Jvm.exec ∧ c.code = code ∧ meth.sig.returnType = ret ∧ c.maxLocals = 4 ∧ s.vm.findClass R_law = some m.cls ∧ (∀ w ∈ lw_tbl, w.before #[Value.ref b] s = true) ∧ va_X b L xs s s.heap ∧ b < s.heap.size ∧ meth.locks = false ∧ (Jvm.Cond.and given_1 narrow_1).before #[Value.ref b] s = true ∧ (Cond.code x code 4 ret).before #[Value.ref b] s = true ∧ meth.name = "law"
-- ===== YOUR PART BEGINS =====
theorem wL_7 : Cond.classLink RL 7 RX6 ∈ zT := zin (i := 15) (by decide +kernel) rfl
theorem wL_10 : Cond.classLink RL 10 RX7 ∈ zT := zin (i := 811) (by decide +kernel) rfl
theorem wL_i6 : Cond.instantiable RX6 10 ∈ zT := zin (i := 16) (by decide +kernel) rfl
theorem wL_i7 : Cond.instantiable RX7 42 ∈ zT := zin (i := 812) (by decide +kernel) rfl
theorem wL_n6 : Cond.initialized RX6 ∈ zT := zin (i := 1) (by decide +kernel) rfl
theorem wL_n7 : Cond.initialized RX7 ∈ zT := zin (i := 8) (by decide +kernel) rfl
theorem sL_9 : zCI RL 9 mX6_init 0 := ⟨zin (i := 17) (by decide +kernel) rfl, zin (i := 18) (by decide +kernel) rfl, rfl, rfl, wL_n6, zin (i := 19) (by decide +kernel) rfl, by decide +kernel, by decide +kernel, by decide +kernel⟩
theorem sL_12 : zCI RL 12 mX7_init 0 := ⟨zin (i := 813) (by decide +kernel) rfl, zin (i := 814) (by decide +kernel) rfl, rfl, rfl, wL_n7, zin (i := 815) (by decide +kernel) rfl, by decide +kernel, by decide +kernel, by decide +kernel⟩
theorem zpre_108 : zpre 108 = zpre 1 + 2002 := by decide +kernel
theorem zpre_131 : zpre 131 = zpre 109 + 1740 := by decide +kernel
/-- the law from its entry to its end, in the logical memory -/
theorem zstart {l : Launch} {L : Nat} {xs : Nat → Int32} {z μa μb : ZMem} (h1 : fX6_init 1 0 (zmk zmu0 0) = some (108, μa)) (h2 : fX7_init 109 108 (zmk μa 108) = some (131, μb)) (h3 : fL_b18 L xs 131 FU 0 108 0 μb = some z) : V (zkL l L xs 131 z) true 0 [(0, .ref 1000)] [] 0 zmu0 := by
  have hrm : ∀ n, n ≤ 131 → zroom (l, mL, room_1, 0, (false, 131, z, some (.int 1)), fun ξ => zxs ξ = xs ∧ zLn ξ = L) n := by
    intro n hn
    have := zpre_mono hn
    have e : zpre 131 ≤ 5000 := by decide +kernel
    refine ⟨Nat.zero_le _, ?_, ?_⟩
    · show n - 0 ≤ 600000
      omega
    · show zpre n - zpre 0 ≤ 7302250
      omega
  refine V_new (c := 6) (q := (RX6, TX6, 10)) (n := 0) (zdk tbL_0_ok 0 rfl) rfl (by decide) wL_7 wL_i6 wL_n6 (by decide) (hrm 1 (by decide)) rfl ?_
  refine V_dup_r (zdk tbL_0_ok 1 rfl) ?_
  refine V_callI (R1 := rmc 5 107 2002) (As := []) (M := mX6_init) (k := 0) (zdk tbL_0_ok 2 rfl) sL_9 (tX6_init h1) rfl rfl ⟨Nat.le_of_ble_eq_true rfl, Nat.le_of_ble_eq_true rfl⟩ (Nat.le_of_ble_eq_true rfl) ⟨rfl, zpre_108⟩ (fun _ => hrm 108 (by decide)) ?_
  refine V_astore_n (ls' := [(0, .ref 1000), (1, .ref 0)]) [1, 0] (zdk tbL_0_ok 3 rfl) (Nat.le_of_ble_eq_true rfl) rfl ?_
  refine V_new (c := 7) (q := (RX7, TX7, 42)) (n := 108) (zdk tbL_0_ok 4 rfl) rfl (by decide) wL_10 wL_i7 wL_n7 (by decide) (hrm 109 (by decide)) rfl ?_
  refine V_dup_r (zdk tbL_0_ok 5 rfl) ?_
  refine V_callI (R1 := rmc 1 22 1740) (As := []) (M := mX7_init) (k := 0) (zdk tbL_0_ok 6 rfl) sL_12 (tX7_init h2) rfl rfl ⟨Nat.le_of_ble_eq_true rfl, Nat.le_of_ble_eq_true rfl⟩ (Nat.le_of_ble_eq_true rfl) ⟨rfl, zpre_131⟩ (fun _ => hrm 131 (by decide)) ?_
  refine V_astore_n (ls' := [(0, .ref 1000), (1, .ref 0), (2, .ref 108)]) [1, 2, 0] (zdk tbL_0_ok 7 rfl) (Nat.le_of_ble_eq_true rfl) rfl ?_
  refine V_iconst (v := 0) (zdk tbL_0_ok 8 rfl) rfl ?_
  refine V_istore_n (ls' := [(0, .ref 1000), (1, .ref 0), (2, .ref 108), (3, .int 0)]) [1, 2, 3, 0] (zdk tbL_0_ok 9 rfl) (Nat.le_of_ble_eq_true rfl) rfl ?_
  refine V_drop ?_
  exact tL_b18 FU 0 108 0 μb (by decide) (by decide) h3
theorem zpure {below : List Frame} {ξ : ZX} {a : Array Value} {s t : State} {n : Nat} {μ : ZMem} (hb : zb ξ = s.heap.size) (h : MQ below (zQc ξ (false, n, μ, some (.int 1))) a s 600000 7302250 (zA ξ) t) : lw_Z below a s t := by
  obtain ⟨o, h1, h2, ⟨h3, -, -⟩, L, hF, hL⟩ := h
  refine ⟨o, h1, h2, h3, hF.1, hF.2.1, hF.2.2.weaken (fun y hy hlt => ?_) (Nat.le_refl _) (Nat.le_refl _)⟩
  have h5 : zb ξ ≤ y.base := hL y hy
  rw [hb] at h5
  exact absurd hlt (Nat.not_lt.mpr h5)
/-- the texts of the start -/
theorem zstr_S {s : State} {b : Nat} (hs : ∀ c ∈ flatC (Jvm.Cond.and given_1 narrow_1), c.before #[Value.ref b] s = true) : ∃ adK adV : Nat → Nat, vk_S 8 zLen zByt adK adV (fun q => s.heap.size ≤ q) s s.heap ∧ ∀ i : Nat, i < 8 → (Term.string RX5 (zStx.getD i (0, "")).1).eval #[Value.ref b] s none [] s = some (.ref (adK i)) := by
  refine vk_Sof (tm := fun i => Term.string RX5 (zStx.getD i (0, "")).1) (args := #[Value.ref b]) (by decide) ?_ ?_ ?_ ?_ ?_ ?_ (fun a ha => Nat.not_le.mpr ha)
  · have h : ∀ i, i < 8 → Cond.exactly (Term.string RX5 (zStx.getD i (0, "")).1) "java/lang/String" ∈ flatC (Jvm.Cond.and given_1 narrow_1) := by decide +kernel
    exact fun i hi => hs _ (h i hi)
  · have h : ∀ i, i < 8 → Cond.eq (.field (Term.string RX5 (zStx.getD i (0, "")).1) "java/lang/String" "coder" "B") (.int 0) ∈ flatC (Jvm.Cond.and given_1 narrow_1) := by decide +kernel
    exact fun i hi => hs _ (h i hi)
  · have h : ∀ i, i < 8 → Cond.arrayOf (.field (Term.string RX5 (zStx.getD i (0, "")).1) "java/lang/String" "value" "[B") .byte ∈ flatC (Jvm.Cond.and given_1 narrow_1) := by decide +kernel
    exact fun i hi => hs _ (h i hi)
  · have h : ∀ i, i < 8 → Cond.eq (.length (.field (Term.string RX5 (zStx.getD i (0, "")).1) "java/lang/String" "value" "[B")) (.int (Int32.ofNat (zLen.getD i 0))) ∈ flatC (Jvm.Cond.and given_1 narrow_1) := by decide +kernel
    exact fun i hi => hs _ (h i hi)
  · have h : ∀ i, i < 8 → ∀ j, j < zLen.getD i 0 → Cond.eq (.elem (.field (Term.string RX5 (zStx.getD i (0, "")).1) "java/lang/String" "value" "[B") (.int (Int32.ofNat j))) (.int ((zByt.getD i []).getD j 0)) ∈ flatC (Jvm.Cond.and given_1 narrow_1) := by decide +kernel
    exact fun i hi j hj => hs _ (h i hi j hj)
  · have h : ∀ i, i < 8 → ∀ j, j < 8 → i ≠ j → (Cond.not (Cond.eq (Term.string RX5 (zStx.getD i (0, "")).1) (Term.string RX5 (zStx.getD j (0, "")).1)) ∈ flatC (Jvm.Cond.and given_1 narrow_1)) ∨ (Cond.not (Cond.eq (Term.string RX5 (zStx.getD j (0, "")).1) (Term.string RX5 (zStx.getD i (0, "")).1)) ∈ flatC (Jvm.Cond.and given_1 narrow_1)) := by decide +kernel
    exact fun i j hi hj hij => (h i hi j hj hij).imp (hs _) (hs _)
theorem ztab {s : State} {b t0 N : Nat} {nm : String} {f : Nat → Int32} (hN : N < 2 ^ 31) (hs : ∀ c ∈ flatC (Jvm.Cond.and given_1 narrow_1), c.before #[Value.ref b] s = true) (h1 : Cond.arrayOf (.static RX6 nm "[I") .int ∈ flatC (Jvm.Cond.and given_1 narrow_1)) (h2 : Cond.eq (.length (.static RX6 nm "[I")) (.int (Int32.ofNat N)) ∈ flatC (Jvm.Cond.and given_1 narrow_1)) (h3 : ∀ j, j < N → Cond.eq (.elem (.static RX6 nm "[I") (.int (Int32.ofNat j))) (.int (f j)) ∈ flatC (Jvm.Cond.and given_1 narrow_1))
    (hl : (Cond.laysStatic RX6 nm "[I").before #[Value.ref b] s = true) (hi : (Cond.initialized RX6).before #[Value.ref b] s = true) : ∃ t : Nat, va_Z RX6 nm "[I" (.ref t) (fun q => s.heap.size ≤ q) s s.heap ∧ va_T .int t N (fun j => .int (f j)) (fun q => s.heap.size ≤ q) s s.heap := by
  obtain ⟨t, ht, hT⟩ := va_Tof (args := #[Value.ref b]) (tm := .static RX6 nm "[I") (ty := .int) (N := N) (f := fun j => .int (f j)) (A := fun q => s.heap.size ≤ q) hN (hs _ h1) (va_eqt (hs _ h2)) (fun j hj => va_eqt (hs _ (h3 j hj))) (fun a ha => Nat.not_le.mpr ha)
  exact ⟨t, va_Zref hl hi ht (fun a ha => Nat.not_le.mpr ha), hT⟩
theorem zarrI {s : State} {args : Array Value} {ty : FieldType} (h : (Cond.arrayClass ty).before args s = true) (hty : ∀ C, ty ≠ .object C) : ∃ cA : ClassId, ArrOfT s cA ty ∧ va_RA s cA ty := by
  obtain ⟨c, k, comp, h1, h2, h3⟩ := Cond.arrayClass_spec h
  refine ⟨c, fun n z => ⟨fun k h => (by cases h), k, h2, comp, h3⟩, ?_⟩
  cases ty <;> first | exact h1 | exact absurd rfl (hty _)
theorem zarrO {s : State} {args : Array Value} {C : String} (h : (Cond.arrayOver (.object C)).before args s = true) : ∃ cA : ClassId, ArrOfT s cA (.object C) ∧ va_RA s cA (.object C) := by
  obtain ⟨comp, c, k, h1, -, h3, h4, h5⟩ := Cond.arrayOver_spec h
  exact ⟨c, fun n z => ⟨fun k h => (by cases h), k, h3, comp, h4⟩, k, comp, h3, h4, h1, h5⟩
/-- all that the start gives -/
theorem zworld {s : State} {b L : Nat} {xs : Nat → Int32} (hL : L ≤ 3072) (hts : ∀ w ∈ lw_tbl, w.before #[Value.ref b] s = true) (hX : va_X b L xs s s.heap) (hbl : b < s.heap.size) (hgv : (Jvm.Cond.and given_1 narrow_1).before #[Value.ref b] s = true) : ∃ ξ : ZX, zE ξ s ∧ zb ξ = s.heap.size ∧ zxs ξ = xs ∧ zLn ξ = L ∧ zsa ξ 0 = b := by
  have hs := flat_of_before _ hgv
  have hT : ∀ {w : Cond}, w ∈ zT → w.before #[Value.ref b] s = true := fun h => hts _ (List.mem_filter.mp h).1
  have tb : ∀ {i : Nat} {w : Cond}, tables_1[i]? = some w → w.before #[Value.ref b] s = true := fun h => hts _ (List.mem_append_right _ (List.mem_of_getElem? h))
  have hin : ∀ {ws : List Cond}, (∀ w ∈ ws, w ∈ zT) → ∀ w ∈ ws, w ∈ lw_tbl := fun h w hw => (List.mem_filter.mp (h w hw)).1
  obtain ⟨c0, i0, k0⟩ := u_known (C := RX0) (T := TX0) (N := 5) (n := 5) hts (hin zu0) (hT wI0)
  obtain ⟨c1, i1, k1⟩ := u_known (C := RX1) (T := TX1) (N := 5) (n := 5) hts (hin zu1) (hT wI1)
  obtain ⟨c2, i2, k2⟩ := u_known (C := RX2) (T := TX2) (N := 4) (n := 4) hts (hin zu2) (hT wI2)
  obtain ⟨c3, i3, k3⟩ := u_known (C := RX3) (T := TX3) (N := 5) (n := 5) hts (hin zu3) (hT wI3)
  obtain ⟨c4, i4, k4⟩ := u_known (C := RX4) (T := TX4) (N := 9) (n := 9) hts (hin zu4) (hT wI4)
  obtain ⟨c5, i5, k5⟩ := u_known (C := RX5) (T := TX5) (N := 5) (n := 5) hts (hin zu5) (hT wI5)
  obtain ⟨c6, i6, k6⟩ := u_known (C := RX6) (T := TX6) (N := 10) (n := 10) hts (hin zu6) (tb (i := 16) (by decide +kernel))
  obtain ⟨c7, i7, k7⟩ := u_known (C := RX7) (T := TX7) (N := 42) (n := 42) hts (hin zu7) (tb (i := 812) (by decide +kernel))
  obtain ⟨a0, r0, s0⟩ := zarrI (ty := .int) (tb (i := 162) (by decide +kernel)) (fun C h => by cases h)
  obtain ⟨a1, r1, s1⟩ := zarrI (ty := .long) (tb (i := 50) (by decide +kernel)) (fun C h => by cases h)
  have o2 : (Cond.arrayOver (.object RX1)).before #[Value.ref b] s = true := tb (i := 58) (by decide +kernel)
  have o3 : (Cond.arrayOver (.object RX4)).before #[Value.ref b] s = true := tb (i := 146) (by decide +kernel)
  have o4 : (Cond.arrayOver (.object RX3)).before #[Value.ref b] s = true := tb (i := 24) (by decide +kernel)
  obtain ⟨a2, r2, s2⟩ := zarrO o2
  obtain ⟨a3, r3, s3⟩ := zarrO o3
  obtain ⟨a4, r4, s4⟩ := zarrO o4
  obtain ⟨tK, zK, tK2⟩ := ztab (t0 := 0) (N := 7) (nm := "KIND_ABOVE") (f := zKA) (by decide) hs (by decide +kernel) (by decide +kernel) (by decide +kernel) (tb (i := 359) (by decide +kernel)) (tb (i := 1) (by decide +kernel))
  obtain ⟨tB, zB, tB2⟩ := ztab (t0 := 0) (N := 21) (nm := "BODIES") (f := zBO) (by decide) hs (by decide +kernel) (by decide +kernel) (by decide +kernel) (tb (i := 780) (by decide +kernel)) (tb (i := 1) (by decide +kernel))
  obtain ⟨adK, adV, hS, hSe⟩ := zstr_S hs
  have hcmp : va_Z RJ0 "COMPACT_STRINGS" "Z" (.int 1) (fun q => s.heap.size ≤ q) s s.heap := va_Zof (tb (i := 464) (by decide +kernel)) (tb (i := 11) (by decide +kernel)) (va_eqi (hs _ (by decide +kernel))) (fun a ha => Nat.not_le.mpr ha)
  have hsio : va_Zq RJ3 "SIOOBE_FORMATTER" "Ljava/util/function/BiFunction;" (fun q => s.heap.size ≤ q) s s.heap := va_Zqof (tb (i := 480) (by decide +kernel)) (tb (i := 13) (by decide +kernel)) (hs _ (by decide +kernel)) (fun a ha => Nat.not_le.mpr ha)
  obtain ⟨tS, hsi⟩ : ∃ tS : Nat, va_Z RJ3 "SIOOBE_FORMATTER" "Ljava/util/function/BiFunction;" .null (fun q => s.heap.size ≤ q) s s.heap ∨ va_Z RJ3 "SIOOBE_FORMATTER" "Ljava/util/function/BiFunction;" (.ref tS) (fun q => s.heap.size ≤ q) s s.heap := by
    rcases hsio with h | ⟨t, h⟩
    · exact ⟨0, Or.inl h⟩
    · exact ⟨t, Or.inr h⟩
  have hR : ∀ i : Nat, i < 8 → vk_R RX5 (zStx.getD i (0, "")).1 (zStx.getD i (0, "")).2 (adK i) s := by
    have h : ∀ i, i < 8 → Cond.stringRef RX5 (zStx.getD i (0, "")).1 (zStx.getD i (0, "")).2 ∈ tables_1 := by decide +kernel
    exact fun i hi => vk_R.of (hts _ (List.mem_append_right _ (h i hi))) (hSe i hi)
  have hN1 : ∀ q ∈ zNM, va_Nw (.methodLinkNest q.1 q.2.1 q.2.2.1 q.2.2.2) s := by
    have h : ∀ q ∈ zNM, Cond.methodLinkNest q.1 q.2.1 q.2.2.1 q.2.2.2 ∈ tables_1 := by decide +kernel
    exact fun q hq => va_Nw.of rfl (hts _ (List.mem_append_right _ (h q hq)))
  have hN2 : va_Nw (.fieldLinkNest RX0 63 RX6 "BODIES" "[I" RX6) s := va_Nw.of rfl (tb (i := 779) (by decide +kernel))
  refine ⟨((fun k => ([c0, c1, c2, c3, c4, c5, c6, c7] : List ClassId).getD k c0, fun k => ([i0, i1, i2, i3, i4, i5, i6, i7] : List (Nat → Nat)).getD k i0), (fun k => ([a0, a1, a2, a3, a4] : List ClassId).getD k a0), s.heap.size, (fun k => if k = 0 then b else if k = 1 then tK else if k = 2 then tB else if k = 3 then tS else if k < 30 then adK (k - 10) else adV (k - 30)), xs, L), ?_, rfl, rfl, rfl, rfl⟩
  refine ⟨⟨?_, ?_⟩, ⟨va_AO.of o2, va_AO.of o3, va_AO.of o4⟩, Nat.le_refl _, ⟨zK, tK2⟩, ⟨zB, tB2⟩, ⟨hX, hbl, hL⟩, ⟨hN1, hN2⟩, ?_, ?_, hcmp, hsi⟩
  · intro k q hq
    match k, hq with
    | 0, hq => cases hq; exact k0
    | 1, hq => cases hq; exact k1
    | 2, hq => cases hq; exact k2
    | 3, hq => cases hq; exact k3
    | 4, hq => cases hq; exact k4
    | 5, hq => cases hq; exact k5
    | 6, hq => cases hq; exact k6
    | 7, hq => cases hq; exact k7
    | k + 8, hq => simp [zcl] at hq
  · intro k q hq
    match k, hq with
    | 0, hq => cases hq; exact ⟨r0, s0⟩
    | 1, hq => cases hq; exact ⟨r1, s1⟩
    | 2, hq => cases hq; exact ⟨r2, s2⟩
    | 3, hq => cases hq; exact ⟨r3, s3⟩
    | 4, hq => cases hq; exact ⟨r4, s4⟩
    | k + 5, hq => simp [ztys] at hq
  · intro i hi
    have e : (if 10 + i = 0 then b else if 10 + i = 1 then tK else if 10 + i = 2 then tB else if 10 + i = 3 then tS else if 10 + i < 30 then adK (10 + i - 10) else adV (10 + i - 30)) = adK i := by
      rw [if_neg (by omega), if_neg (by omega), if_neg (by omega), if_neg (by omega), if_pos (by omega), show 10 + i - 10 = i by omega]
    have h := hR i hi
    rw [← e] at h
    exact h
  · refine ⟨fun i hi => ?_, fun i j hi hj h => ?_⟩
    · have h := hS.1 i hi
      show va_O _ (if 10 + i = 0 then b else if 10 + i = 1 then tK else if 10 + i = 2 then tB else if 10 + i = 3 then tS else if 10 + i < 30 then adK (10 + i - 10) else adV (10 + i - 30)) _ _ _ ∧ va_OF _ _ _ _ (if 10 + i = 0 then b else if 10 + i = 1 then tK else if 10 + i = 2 then tB else if 10 + i = 3 then tS else if 10 + i < 30 then adK (10 + i - 10) else adV (10 + i - 30)) _ _ _ ∧ va_OF _ _ _ (.ref (if 30 + i = 0 then b else if 30 + i = 1 then tK else if 30 + i = 2 then tB else if 30 + i = 3 then tS else if 30 + i < 30 then adK (30 + i - 10) else adV (30 + i - 30))) (if 10 + i = 0 then b else if 10 + i = 1 then tK else if 10 + i = 2 then tB else if 10 + i = 3 then tS else if 10 + i < 30 then adK (10 + i - 10) else adV (10 + i - 30)) _ _ _ ∧ va_T _ (if 30 + i = 0 then b else if 30 + i = 1 then tK else if 30 + i = 2 then tB else if 30 + i = 3 then tS else if 30 + i < 30 then adK (30 + i - 10) else adV (30 + i - 30)) _ _ _ _ _
      rw [if_neg (by omega), if_neg (by omega), if_neg (by omega), if_neg (by omega), if_pos (by omega), show 10 + i - 10 = i by omega, if_neg (by omega), if_neg (by omega), if_neg (by omega), if_neg (by omega), if_neg (by omega), show 30 + i - 30 = i by omega]
      exact h
    · have h' : (if 10 + i = 0 then b else if 10 + i = 1 then tK else if 10 + i = 2 then tB else if 10 + i = 3 then tS else if 10 + i < 30 then adK (10 + i - 10) else adV (10 + i - 30)) = (if 10 + j = 0 then b else if 10 + j = 1 then tK else if 10 + j = 2 then tB else if 10 + j = 3 then tS else if 10 + j < 30 then adK (10 + j - 10) else adV (10 + j - 30)) := h
      rw [if_neg (by omega), if_neg (by omega), if_neg (by omega), if_neg (by omega), if_pos (by omega), show 10 + i - 10 = i by omega, if_neg (by omega), if_neg (by omega), if_neg (by omega), if_neg (by omega), if_pos (by omega), show 10 + j - 10 = j by omega] at h'
      exact hS.2 i j hi hj h'
theorem whole_start {p : Program} {e : Env} {s : State} {m : MethodId} {below : List Frame} {meth : Method} {c : Code} (l : Launch) (hflags : l.flags = flags0) {b L : Nat} {xs : Nat → Int32} (hL : L ≤ 3072) (C0 : lw_At p s m meth c b L xs) : W p l e room_1 s m #[Value.ref b] below meth c s.heap [] 0 0 (lw_Z below #[Value.ref b] s) (entryFrame m ([Value.ref b] : List Value).toArray 4) := by
  obtain ⟨hx, hb, hr, hml, hown, hts, hX, hbl, hlocks, hgv, hcode, hname⟩ := C0
  obtain ⟨ξ, hE, hbase, hxs, hLn, hsa⟩ := zworld hL hts hX hbl hgv
  obtain ⟨μa, μb, h1, h2, hok⟩ := zctor
  obtain ⟨z, h3⟩ := zmain (xs := xs) hL hok
  have hV := zstart (l := l) h1 h2 h3
  have hw : zW ξ true 0 zmu0 s.heap := ⟨fun k q h => by simp [zws] at h, fun _ => by rw [hbase]; rfl, by omega⟩
  have hz : ∀ w ∈ zwd mL, w.before #[Value.ref b] s = true := by
    intro w hw
    rcases List.mem_cons.mp hw with rfl | hq
    · exact hcode
    · exact hts _ (List.mem_filter.mp hq).1
  have he : zvm ξ (.ref 1000) = .ref b := by
    show Value.ref (zad ξ (1000 + 0)) = _
    rw [zad_s, hsa]
  have hl0 := lv_entry ([.ref b]) (n := 4) (Nat.le_of_ble_eq_true rfl)
  rw [lg_entry_eq]
  generalize (lg_sl ([.ref b]) ++ List.replicate (4 - (lg_sl ([.ref b])).length) Slot.unset).toArray = lsA at hl0 ⊢
  have hl : lv_has lsA 4 (([(0, .ref 1000)] : List (Nat × Value)).map (zq ξ)) := by
    show lv_has lsA 4 [(0, zvm ξ (.ref 1000))]
    rw [he]
    exact hl0
  have h9 := hV ξ ⟨hxs, hLn⟩ p e s m #[Value.ref b] below meth c s.heap [] lsA ⟨⟨hx, hb, hr, hml, hown, hz, hlocks, hname, hE⟩, Nat.le_refl _, Nat.zero_le _, Nat.zero_le _⟩ hw va_S.rf hl
  intro T hT X
  obtain ⟨t, a1, b1⟩ := h9 T hT X
  exact ⟨t, a1, zpure hbase b1⟩
-- ===== YOUR PART ENDS =====
set_option maxHeartbeats 4000000 in
theorem lw_walk (l : Launch) (hflags : l.flags = flags0) (b : Addr) (xs : List Int32) : MetFree l x (headSpec (Jvm.Cond.code x code maxLocals ret :: tables_1) room_1) (lw_P b xs) (fun _ _ _ _ _ => True) lw_Q := by
  refine MetFree.of_bodyS (code := code) (maxLocals := maxLocals) (ret := ret) (by decide) ?_ ?_
  · intro args s m h hn
    obtain ⟨meth, c, h1, h2, h3, h4, h5, h6, -, -⟩ := Cond.code_spec hn (atoms_spec (ws := Jvm.Cond.code x code maxLocals ret :: tables_1) h _ List.mem_cons_self)
    exact ⟨meth, c, h1, h2, h3, h4, h5, h6⟩
  · intro p e s m args below meth c s₁ B hml0 hP _
    obtain ⟨rfl, hx, hbd, hgv⟩ := hP
    obtain ⟨scr, harrAt, hlist, hof, hsmall⟩ := hx
    obtain ⟨hcb, hkn, -, -⟩ := State.arrayAt?_spec harrAt
    have hown : s.vm.findClass R_law = some m.cls := findClass_of_methodNamed B.named
    have hts0 : ∀ c ∈ (Jvm.Cond.code x code maxLocals ret :: tables_1), c.before #[Value.ref b] s = true := atoms_spec (ws := Jvm.Cond.code x code maxLocals ret :: tables_1) B.pre
    have hts : ∀ w ∈ lw_tbl, w.before #[Value.ref b] s = true := k2_hts_sels lw_privs (fun w hw => hts0 w (List.mem_cons_of_mem _ hw)) lw_privs_ok
    have hml : c.maxLocals = 4 := B.maxLocals_eq (hts0 _ List.mem_cons_self)
    have X₀ : Stand p l e room_1 s m #[Value.ref b] below meth c s₁ [] 0 0 := Stand.of_body B
    have hh0 : s₁.heap = s.heap := by rw [B.state]; rfl
    have hsz : scr.slots.size = xs.length := by rw [← Array.length_toList, hlist, List.length_map]
    have hval : ∀ j : Nat, j < xs.length → scr.slots[j]? = some (.int (xs.getD j 0)) := fun j hj => by
      rw [← Array.getElem?_toList, hlist]
      simp [hj]
    have hbl : b < s.heap.size := (Array.getElem?_eq_some_iff.mp hcb).1
    have hX : va_X b xs.length (fun j => xs.getD j 0) s s.heap := ⟨scr, hcb, hof, hkn, hsz, hval⟩
    have K : W p l e room_1 s m #[Value.ref b] below meth c s₁.heap [] 0 0 (lw_Z below #[Value.ref b] s) (entryFrame m ([Value.ref b] : List Value).toArray 4) := by
      rw [hh0]
      exact whole_start l hflags hbd ⟨B.exec, B.bytes, B.returns, hml, hown, hts, hX, hbl, B.notSynchronized, hgv, hts0 _ List.mem_cons_self, (name_of_methodNamed B.named B.method).1⟩
    obtain ⟨t, a1, o, b1, b2, b3⟩ := K s₁ rfl X₀
    exact ⟨t, o, a1, b1, b2, b3⟩
theorem lw_pre_spec {args : Array Value} {s : State} (h : (Jvm.Cond.and given_1 narrow_1).before args s = true) (hr : rest_1_c.before args s = true) : ∃ (b : Addr) (xs : List Int32), lw_P b xs args s := by
  have hs := flat_of_before _ h
  have hq := flat_of_before _ hr
  have hc : (Cond.count 1).before args s = true := hs _ (by decide +kernel)
  have harr : (Cond.arrayOf (.arg 0) .int).before args s = true := hs _ (by decide +kernel)
  have hle : (Cond.le (.length (.arg 0)) (.int 3072)).before args s = true := hs _ (by decide +kernel)
  have hlen : (Cond.isInt (.length (.arg 0))).before args s = true := hq _ (by decide +kernel)
  have hall : (Cond.all (.arg 0) (.isInt (.elem (.arg 0) (.index 0)))).before args s = true := hq _ (by decide +kernel)
  obtain ⟨b, xs, hb, hx⟩ := State.ints_of_pre rfl harr hlen hall
  have hsm : xs.length < 2 ^ 31 := hx.choose_spec.2.2.2
  have hev : (Term.length (.arg 0)).eval args s none [] s = some (.int xs.length.toInt32) := hx.length_eval hb
  have hv := Cond.le_ints hev (show (Term.int 3072).eval args s none [] s = some (.int 3072) from rfl)
  have hd : xs.length.toInt32 ≤ 3072 := by
    simpa [Cond.before, Cond.holds, hv] using hle
  have hN : xs.length ≤ 3072 := (Int32.ofNat_le_ofNat hsm (by decide)).mp (show Int32.ofNat xs.length ≤ Int32.ofNat 3072 from hd)
  exact ⟨b, xs, Cond.one_arg hc (show args[0]? = some (.ref b) from hb), hx, hN, h⟩
theorem lw_comes (l : Launch) (hflags : l.flags = flags0) : Comes l x (Jvm.Cond.code x code maxLocals ret :: tables_1) room_1 (fun tb e args s => Calls_1 tb e args s ∧ rest_1 tb e args s ∧ Pre_1 tb e args s)
    (fun _ _ args s o t => lw_Q args s o t) := by
  intro p e ha hc hk s m args below hf hfit hheap happ hpre
  obtain ⟨b, xs, hP⟩ := lw_pre_spec hpre.2.2 hpre.2.1
  obtain ⟨k, o, h1, h2, h3, hQ⟩ := lw_walk l hflags b xs p e ha hc hk s m args below hf ((Spec.applies_iff_loose hf).mp happ).1 hP trivial
  exact ⟨k, o, h1, h2, h3, hQ⟩
theorem lw_frame {s t : State} {o : Outcome} {args : Array Value} (h : Framed s o t [] 600000 7302250) :
    Framed s o t (fieldLocs frame_1_writes args s ++ arrayLocs frame_1_arrays args s ++ staticLocs frame_1_statics s) 600000 7302250 := h
theorem lw_limb (L : Cond) (hL : ∀ (args : Array Value) (s t : State), L.after args s (.returned (some (.int 1))) t = true) :
    ArmFor flags0 classFile x code maxLocals ret World_1 tables_1 room_1 Calls_1 rest_1 Pre_1
      (fun tb e a s o t => postC L tb e a s o t ∧ Framed s o t (fieldLocs frame_1_writes a s ++ arrayLocs frame_1_arrays a s ++ staticLocs frame_1_statics s) 600000 7302250) := by
  intro l hflags _ _ p e ha hc hk s m args below hf hfit hheap happ hpre
  obtain ⟨k, o, h1, h2, h3, rfl, hF⟩ := lw_comes l hflags p e ha hc hk s m args below hf hfit hheap happ hpre
  exact ⟨k, _, h1, h2, h3, hL args s _, lw_frame hF⟩
theorem i_vc : Claimed_1_1 ∧ Claimed_1_2 := ⟨lw_limb limb_1_1 (fun args s t => by simp [limb_1_1, Cond.after, Cond.holds, Cond.value]), lw_limb limb_1_2 (fun args s t => Cond.after_iff.mpr (by
  first | (rw [show limb_1_2 = Cond.eq .result (.int 1) from rfl, Cond.eq_ints (x := 1) (y := 1) rfl rfl]; simp; done) | (simp [limb_1_2, Cond.value, Term.eval]; done)))⟩
