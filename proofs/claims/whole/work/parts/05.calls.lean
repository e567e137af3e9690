-- CALLS, STATICS, THE SCRIPT
/-- the words of a call -/
def zCW (M : ZM) (k : Nat) : Prop := Cond.initialized M.1.cls ∈ zT ∧ Cond.code M.1 M.2.1 M.2.2.1 M.2.2.2 ∈ zT ∧ M.1.cls ≠ "java/lang/invoke/MethodHandle" ∧ M.1.cls ≠ "java/lang/invoke/VarHandle" ∧ (parseMethodDescriptor M.1.desc).map (fun d => d.parameters.length) = some k
def zCV (own : String) (index : Nat) (M : ZM) (k : Nat) : Prop := Cond.methodLink own index M.1 ∈ zT ∧ Cond.instanceMethod M.1 ∈ zT ∧ Cond.selects M.1.cls M.1 M.1 ∈ zT ∧ zCW M k
def zCS (own : String) (index : Nat) (M : ZM) (k : Nat) : Prop := Cond.methodLink own index M.1 ∈ zT ∧ Cond.static M.1 ∈ zT ∧ zCW M k
def zCN (own : String) (index : Nat) (M : ZM) (k : Nat) : Prop := (own, index, M.1, RX6) ∈ zNM ∧ Cond.static M.1 ∈ zT ∧ zCW M k
def zCI (own : String) (index : Nat) (M : ZM) (k : Nat) : Prop := Cond.methodLink own index M.1 ∈ zT ∧ Cond.instanceMethod M.1 ∈ zT ∧ M.1.name = "<init>" ∧ M.2.2.2 = none ∧ zCW M k
theorem zgoodIn {M M' : ZM} (h : Cond.code M'.1 M'.2.1 M'.2.2.1 M'.2.2.2 ∈ zT) : GoodIn (zwd M) (zwd M') := by
  intro w hw
  have h1 : w ∈ zT := by
    rcases List.mem_cons.mp hw with rfl | q
    · exact h
    · exact q
  exact ⟨List.mem_cons_of_mem _ h1, good_of_word (List.mem_filter.mp h1).2⟩
section
variable {κ : ZK} {fr : Bool} {pc n : Nat} {ls ls' : List (Nat × Value)} {st : List Value} {μ μ' : ZMem}
theorem zcallB {M : ZM} {R1 : Room} {k index : Nat} {ξ : ZX} {p : Program} {s : State} {m : MethodId} {args : Array Value} {meth : Method} {c : Code} (C : zC κ ξ p s m args meth c) (hcw : zCW M k) (hl : Cond.methodLink κ.2.1.1.cls index M.1 ∈ zT) (hR : R1.frames + 1 ≤ κ.2.2.1.frames ∧ 8 + (M.2.2.1 + 11) + R1.locals ≤ κ.2.2.1.locals) : CallB κ.2.2.1 s args κ.2.1.1.cls index M.1 M.2.1 M.2.2.1 M.2.2.2 (zwd M) R1 R1.cells R1.slots k :=
  callB_of k C.2.2.2.2.2.1 (zgoodIn hcw.2.1) rfl rfl rfl (C.2.2.2.2.2.1 _ (List.mem_cons_of_mem _ hcw.1)) (C.2.2.2.2.2.1 _ (List.mem_cons_of_mem _ hl)) hcw.2.2 hR
/-- behind a call -/
theorem zback {R1 : Room} {ξ : ZX} {p : Program} {e : Env} {s : State} {m : MethodId} {args : Array Value} {below : List Frame} {meth : Method} {c : Code} {H : Heap} {locs : List Loc} {lsA : Array Slot} {st0 : List Value} {fr1 : Bool} {n1 : Nat} {μ1 : ZMem} {r : Option Value} {av : Array Value}
    (hξ : κ.2.2.2.2.2 ξ) (C : zC κ ξ p s m args meth c ∧ zroom κ n) (S : va_S (zA ξ) s.heap H locs) (h : lv_has lsA κ.2.1.2.2.1 (ls.map (zq ξ)))
    (hr : va_Run p κ.1 e κ.2.2.1 s m args below meth c H locs (n - κ.2.2.2.1) (zpre n - zpre κ.2.2.2.1) R1.cells R1.slots (F0 m pc lsA st0) (st.map (zvm ξ)) (zQc ξ (fr1, n1, μ1, r) av) (zA ξ))
    (hn : n1 = n + R1.cells ∧ zpre n1 = zpre n + R1.slots) (hrm : zroom κ n1) (kk : V κ fr1 (pc + 3) ls (r.toList ++ st) n1 μ1) :
    W p κ.1 e κ.2.2.1 s m args below meth c H locs (n - κ.2.2.2.1) (zpre n - zpre κ.2.2.2.1) (MQ below (zQc ξ κ.2.2.2.2.1) args s κ.2.2.1.cells κ.2.2.1.slots (zA ξ)) (F0 m pc lsA st0) := by
  intro T hT X
  obtain ⟨v, st₀, t, T', L, h0, X', hL, e1, e2, ⟨hv, hw, hF⟩, hg⟩ := hr T hT X
  have hv' : v = r.map (zvm ξ) := by cases hv; rfl
  subst hv'
  have hF1 := hF.1
  have hF2 := hF.2
  rw [h0] at hF1 hF2
  have hS1 : va_S (zA ξ) s.heap T'.heap (locs ++ L) := ⟨Nat.le_trans S.1 (by rw [e1]; exact hF1), fun q q1 q2 => by
    rw [e1, hF2 q (Nat.lt_of_lt_of_le q1 S.1) q2]
    exact S.2.1 q q1 q2, fun q hq => by
    rcases List.mem_append.mp hq with q1 | q1
    · exact S.2.2 q q1
    · exact hL q q1⟩
  have h9 := kk ξ hξ p e s m args below meth c T'.heap (locs ++ L) lsA ⟨C.1, hrm⟩ (by rw [e1]; exact hw) hS1 h
  have e3 : n1 - κ.2.2.2.1 = n - κ.2.2.2.1 + R1.cells := by have := C.2.1; omega
  have e4 : zpre n1 - zpre κ.2.2.2.1 = zpre n - zpre κ.2.2.2.1 + R1.slots := by have := zpre_mono C.2.1; omega
  have e5 : (r.toList ++ st).map (zvm ξ) = (r.map (zvm ξ)).toList ++ st.map (zvm ξ) := by cases r <;> rfl
  rw [e3, e4, e5] at h9
  obtain ⟨t2, a1, b1⟩ := h9 T' rfl X'
  exact ⟨t2, hg t2 a1, b1⟩
theorem zrecv {ξ : ZX} {p : Program} {s : State} {m : MethodId} {args : Array Value} {meth : Method} {c0 : Code} {H : Heap} {b c : Nat} {N : String} (C : zC κ ξ p s m args meth c0) (w : zW ξ fr n μ H) (hb : isC n c b = true) (hq : (zcl[c]?).map (fun q => q.1) = some N) : ∃ cell : Cell, H[zad ξ b]? = some cell ∧ cell.vm.isStatics = false ∧ s.vm.findClass N = some cell.cls := by
  cases hc : zcl[c]? with
  | none => rw [hc] at hq; cases hq
  | some q =>
    rw [hc] at hq
    cases hq
    exact va_recv (C.2.2.2.2.2.2.2.2.1) w.1 hc (zobj hb hc)
theorem V_callV {M : ZM} {R1 : Room} {As : List Value} {b c index k : Nat} {fr1 : Bool} {n1 : Nat} {μ1 : ZMem} {r : Option Value} {stk : List Value} (hdg : decode κ.2.1.2.1 pc = .ok (.invokevirtual index, 3)) (hs : zCV κ.2.1.1.cls index M k) (hF : ZFn κ.1 M R1 (.ref b :: As) fr n μ (fr1, n1, μ1, r)) (hb : isC n c b = true) (hq : (zcl[c]?).map (fun q => q.1) = some M.1.cls) (hk : As.length = k) (hstk : stk = As.reverse ++ .ref b :: st)
    (hR : R1.frames + 1 ≤ κ.2.2.1.frames ∧ 8 + (M.2.2.1 + 11) + R1.locals ≤ κ.2.2.1.locals) (hcat : (st.map fun v => v.category).sum ≤ 8) (hn : n1 = n + R1.cells ∧ zpre n1 = zpre n + R1.slots) (hrm : zroom κ n → zroom κ n1) (kk : V κ fr1 (pc + 3) ls (r.toList ++ st) n1 μ1) : V κ fr pc ls stk n μ := by
  subst hstk
  intro ξ hξ p e s m args below meth c0 H locs lsA C w S h
  obtain ⟨hl, hi, hse, hcw⟩ := hs
  have hts := C.1.2.2.2.2.2.1
  have hroom := (hrm C.2)
  refine zback hξ C S h (va_runV (Ts := zwd κ.2.1) (As := As.map (zvm ξ)) (b := zad ξ b) ⟨C.1.1, C.1.2.1, C.1.2.2.2.1, C.1.2.2.2.2.1, hts⟩ (hF ξ) ⟨zcallB C.1 hcw hl hR, hts _ (List.mem_cons_of_mem _ hi), hts _ (List.mem_cons_of_mem _ hse)⟩ ⟨zpc_blind _ _ _ _ _, zrecv C.1 w hb hq, fun U hU hW => ⟨rfl, by rw [hU]; exact w, zE_to C.1.2.2.2.2.2.2.2.2 hU hW S⟩⟩ rfl (by rw [List.length_map]; exact hk) h.1 (by simp [zvm]) (lv_room (by rw [zvm_sum]; exact hcat)) hdg ?_) hn hroom kk
  refine ⟨?_, ?_⟩
  · have := hroom.2.1
    have := C.2.1
    omega
  · have := hroom.2.2
    have := zpre_mono C.2.1
    omega
theorem V_callS {M : ZM} {R1 : Room} {As : List Value} {index k : Nat} {fr1 : Bool} {n1 : Nat} {μ1 : ZMem} {r : Option Value} {stk : List Value} (hdg : decode κ.2.1.2.1 pc = .ok (.invokestatic index, 3)) (hs : zCS κ.2.1.1.cls index M k) (hF : ZFn κ.1 M R1 As fr n μ (fr1, n1, μ1, r)) (hk : As.length = k) (hstk : stk = As.reverse ++ st)
    (hR : R1.frames + 1 ≤ κ.2.2.1.frames ∧ 8 + (M.2.2.1 + 11) + R1.locals ≤ κ.2.2.1.locals) (hcat : (st.map fun v => v.category).sum ≤ 8) (hn : n1 = n + R1.cells ∧ zpre n1 = zpre n + R1.slots) (hrm : zroom κ n → zroom κ n1) (kk : V κ fr1 (pc + 3) ls (r.toList ++ st) n1 μ1) : V κ fr pc ls stk n μ := by
  subst hstk
  intro ξ hξ p e s m args below meth c0 H locs lsA C w S h
  obtain ⟨hl, hi, hcw⟩ := hs
  have hts := C.1.2.2.2.2.2.1
  have hroom := (hrm C.2)
  refine zback hξ C S h (va_runS (Ts := zwd κ.2.1) (As := As.map (zvm ξ)) ⟨C.1.1, C.1.2.1, C.1.2.2.2.1, C.1.2.2.2.2.1, hts⟩ (hF ξ) ⟨zcallB C.1 hcw hl hR, hts _ (List.mem_cons_of_mem _ hi)⟩ ⟨zpc_blind _ _ _ _ _, fun U hU hW => ⟨rfl, by rw [hU]; exact w, zE_to C.1.2.2.2.2.2.2.2.2 hU hW S⟩⟩ rfl (by rw [List.length_map]; exact hk) h.1 (by simp) (lv_room (by rw [zvm_sum]; exact hcat)) hdg ?_) hn hroom kk
  refine ⟨?_, ?_⟩
  · have := hroom.2.1
    have := C.2.1
    omega
  · have := hroom.2.2
    have := zpre_mono C.2.1
    omega
theorem V_callN {M : ZM} {R1 : Room} {As : List Value} {index k : Nat} {fr1 : Bool} {n1 : Nat} {μ1 : ZMem} {r : Option Value} {stk : List Value} (hdg : decode κ.2.1.2.1 pc = .ok (.invokestatic index, 3)) (hs : zCN κ.2.1.1.cls index M k) (hF : ZFn κ.1 M R1 As fr n μ (fr1, n1, μ1, r)) (hk : As.length = k) (hstk : stk = As.reverse ++ st)
    (hR : R1.frames + 1 ≤ κ.2.2.1.frames ∧ 8 + (M.2.2.1 + 11) + R1.locals ≤ κ.2.2.1.locals) (hcat : (st.map fun v => v.category).sum ≤ 8) (hn : n1 = n + R1.cells ∧ zpre n1 = zpre n + R1.slots) (hrm : zroom κ n → zroom κ n1) (kk : V κ fr1 (pc + 3) ls (r.toList ++ st) n1 μ1) : V κ fr pc ls stk n μ := by
  subst hstk
  intro ξ hξ p e s m args below meth c0 H locs lsA C w S h
  obtain ⟨hl, hi, hcw⟩ := hs
  have hts := C.1.2.2.2.2.2.1
  have hroom := (hrm C.2)
  have hnest := C.1.2.2.2.2.2.2.2.2.2.2.2.2.2.2.1.1 _ hl
  refine zback hξ C S h (va_runSN (Ts := zwd κ.2.1) (host := RX6) (As := As.map (zvm ξ)) ⟨C.1.1, C.1.2.1, C.1.2.2.2.1, C.1.2.2.2.2.1, hts⟩ (hF ξ) ⟨va_cnB k hts (zgoodIn hcw.2.1) rfl rfl rfl hnest (hts _ (List.mem_cons_of_mem _ hcw.1)) hcw.2.2 hR, hts _ (List.mem_cons_of_mem _ hi), trivial⟩ ⟨zpc_blind _ _ _ _ _, fun U hU hW => ⟨rfl, by rw [hU]; exact w, zE_to C.1.2.2.2.2.2.2.2.2 hU hW S⟩⟩ rfl (by rw [List.length_map]; exact hk) h.1 (by simp) (lv_room (by rw [zvm_sum]; exact hcat)) hdg ?_) hn hroom kk
  refine ⟨?_, ?_⟩
  · have := hroom.2.1
    have := C.2.1
    omega
  · have := hroom.2.2
    have := zpre_mono C.2.1
    omega
theorem V_callI {M : ZM} {R1 : Room} {As : List Value} {b index k : Nat} {fr1 : Bool} {n1 : Nat} {μ1 : ZMem} {stk : List Value} (hdg : decode κ.2.1.2.1 pc = .ok (.invokespecial index, 3)) (hs : zCI κ.2.1.1.cls index M k) (hF : ZFn κ.1 M R1 (.ref b :: As) fr n μ (fr1, n1, μ1, none)) (hk : As.length = k) (hstk : stk = As.reverse ++ .ref b :: st)
    (hR : R1.frames + 1 ≤ κ.2.2.1.frames ∧ 8 + (M.2.2.1 + 11) + R1.locals ≤ κ.2.2.1.locals) (hcat : (st.map fun v => v.category).sum ≤ 8) (hn : n1 = n + R1.cells ∧ zpre n1 = zpre n + R1.slots) (hrm : zroom κ n → zroom κ n1) (kk : V κ fr1 (pc + 3) ls st n1 μ1) : V κ fr pc ls stk n μ := by
  subst hstk
  intro ξ hξ p e s m args below meth c0 H locs lsA C w S h
  obtain ⟨hl, hi, hnm, hret, hcw⟩ := hs
  have hts := C.1.2.2.2.2.2.1
  have hroom := (hrm C.2)
  have hB := zcallB C.1 hcw hl hR
  rw [hret] at hB
  refine zback (r := none) hξ C S h (va_runI (Ts := zwd κ.2.1) (As := As.map (zvm ξ)) (b := zad ξ b) ⟨C.1.1, C.1.2.1, C.1.2.2.2.1, C.1.2.2.2.2.1, hts⟩ (hF ξ) ⟨hB, hnm, hts _ (List.mem_cons_of_mem _ hi)⟩ ⟨zpc_blind _ _ _ _ _, fun U hU hW => ⟨rfl, by rw [hU]; exact w, zE_to C.1.2.2.2.2.2.2.2.2 hU hW S⟩⟩ rfl (by rw [List.length_map]; exact hk) h.1 (by simp [zvm]) (lv_room (by rw [zvm_sum]; exact hcat)) hdg ?_) hn hroom kk
  refine ⟨?_, ?_⟩
  · have := hroom.2.1
    have := C.2.1
    omega
  · have := hroom.2.2
    have := zpre_mono C.2.1
    omega
theorem V_obj {a index : Nat} (hdg : decode κ.2.1.2.1 pc = .ok (.invokespecial index, 3)) (hl : Cond.methodLink κ.2.1.1.cls index Lib.objectInit ∈ zT) (hi : Cond.instanceMethod Lib.objectInit ∈ zT) (hc : Cond.code Lib.objectInit ⟨#[0xb1]⟩ 1 none ∈ zT) (hR : 1 ≤ κ.2.2.1.frames ∧ 20 ≤ κ.2.2.1.locals) (hcat : (st.map fun v => v.category).sum ≤ 8) (kk : V κ fr (pc + 3) ls st n μ) : V κ fr pc ls (.ref a :: st) n μ := by
  intro ξ hξ p e s m args below meth c0 H locs lsA C w S h
  have hts := C.1.2.2.2.2.2.1
  refine W.objInit C.1.1 C.1.2.1 C.1.2.2.2.2.1 (hts _ (List.mem_cons_of_mem _ hl)) (hts _ (List.mem_cons_of_mem _ hi)) (hts _ (List.mem_cons_of_mem _ hc)) rfl (h.1.trans C.1.2.2.2.1.symm) rfl hdg hR.1 ?_ ?_
  · have h3 : 2 * (F0 m pc lsA ((Value.ref a :: st).map (zvm ξ))).monitorRoom + ((st.map (zvm ξ)).map fun v => v.category).sum ≤ 8 := lv_room (by rw [zvm_sum]; exact hcat)
    omega
  · exact kk ξ hξ p e s m args below meth c0 H locs lsA C w S h
theorem V_max {x y : Int32} {index : Nat} (hdg : decode κ.2.1.2.1 pc = .ok (.invokestatic index, 3)) (hl : Cond.methodLink κ.2.1.1.cls index Lib.Math.max.name ∈ zT) (hs : Cond.static Lib.Math.max.name ∈ zT) (hi : Cond.initialized "java/lang/Math" ∈ zT) (hc : Cond.code Lib.Math.max.name Lib.Math.max.code 2 (some .int) ∈ zT) (hR : 1 ≤ κ.2.2.1.frames ∧ 21 ≤ κ.2.2.1.locals) (hcat : (st.map fun v => v.category).sum ≤ 8) (kk : V κ fr (pc + 3) ls (.int (if x < y then y else x) :: st) n μ) : V κ fr pc ls (.int y :: .int x :: st) n μ := by
  intro ξ hξ p e s m args below meth c0 H locs lsA C w S h
  have hts := C.1.2.2.2.2.2.1
  refine va_mmax C.1.1 C.1.2.1 (C.1.2.2.2.1.trans h.1.symm) C.1.2.2.2.2.1 (hts _ (List.mem_cons_of_mem _ hl)) (hts _ (List.mem_cons_of_mem _ hs)) (hts _ (List.mem_cons_of_mem _ hi)) (hts _ (List.mem_cons_of_mem _ hc)) hR.1 ?_ C.2.2.1 C.2.2.2 hdg ?_
  · have h3 := hcat
    rw [← zvm_sum ξ] at h3
    have h4 := hR.2
    omega
  · exact kk ξ hξ p e s m args below meth c0 H locs lsA C w S h
theorem V_min {x y : Int32} {index : Nat} (hdg : decode κ.2.1.2.1 pc = .ok (.invokestatic index, 3)) (hl : Cond.methodLink κ.2.1.1.cls index Lib.Math.min.name ∈ zT) (hs : Cond.static Lib.Math.min.name ∈ zT) (hi : Cond.initialized "java/lang/Math" ∈ zT) (hc : Cond.code Lib.Math.min.name Lib.Math.min.code 2 (some .int) ∈ zT) (hR : 1 ≤ κ.2.2.1.frames ∧ 21 ≤ κ.2.2.1.locals) (hcat : (st.map fun v => v.category).sum ≤ 8) (kk : V κ fr (pc + 3) ls (.int (if y < x then y else x) :: st) n μ) : V κ fr pc ls (.int y :: .int x :: st) n μ := by
  intro ξ hξ p e s m args below meth c0 H locs lsA C w S h
  have hts := C.1.2.2.2.2.2.1
  refine va_mmin C.1.1 C.1.2.1 (C.1.2.2.2.1.trans h.1.symm) C.1.2.2.2.2.1 (hts _ (List.mem_cons_of_mem _ hl)) (hts _ (List.mem_cons_of_mem _ hs)) (hts _ (List.mem_cons_of_mem _ hi)) (hts _ (List.mem_cons_of_mem _ hc)) hR.1 ?_ C.2.2.1 C.2.2.2 hdg ?_
  · have h3 := hcat
    rw [← zvm_sum ξ] at h3
    have h4 := hR.2
    omega
  · exact kk ξ hξ p e s m args below meth c0 H locs lsA C w S h
-- statics and the script: 1000 the script, 1001 KIND_ABOVE, 1002 BODIES
theorem V_getKA {index : Nat} (hdg : decode κ.2.1.2.1 pc = .ok (.getstatic index, 3)) (hl : Cond.fieldLink κ.2.1.1.cls index RX6 "KIND_ABOVE" "[I" ∈ zT) (kk : V κ fr (pc + 3) ls (.ref 1001 :: st) n μ) : V κ fr pc ls st n μ :=
  fun ξ hξ p e s m args below meth c H locs lsA C w S h => va_gets C.1.1 C.1.2.1 C.1.2.2.2.2.2.2.2.2.2.2.2.1.1 S C.1.2.2.2.2.1 (C.1.2.2.2.2.2.1 _ (List.mem_cons_of_mem _ hl)) (fun x hx => hx) hdg (kk ξ hξ p e s m args below meth c H locs lsA C w S h)
theorem V_getBO (hown : κ.2.1.1.cls = RX0) (hdg : decode κ.2.1.2.1 pc = .ok (.getstatic 63, 3)) (kk : V κ fr (pc + 3) ls (.ref 1002 :: st) n μ) : V κ fr pc ls st n μ :=
  fun ξ hξ p e s m args below meth c H locs lsA C w S h => va_getsN C.1.1 C.1.2.1 C.1.2.2.2.2.2.2.2.2.2.2.2.2.1.1 S C.1.2.2.2.2.1 (by rw [hown]; exact va_Nw.use rfl C.1.2.2.2.2.2.2.2.2.2.2.2.2.2.2.1.2) (fun x hx => hx) hdg (kk ξ hξ p e s m args below meth c H locs lsA C w S h)
def inN (i : Int32) (k : Nat) : Bool := !decide (i < 0) && decide (i.toNatClampNeg < k)
theorem inN_in {i : Int32} {k : Nat} (h : inN i k = true) : vp_in i k := by
  unfold inN at h
  simp only [Bool.and_eq_true, Bool.not_eq_true', decide_eq_false_iff_not, decide_eq_true_eq] at h
  rintro (q | q)
  · exact h.1 q
  · omega
theorem V_ldKA {i : Int32} (hdg : decode κ.2.1.2.1 pc = .ok (.iaload, 1)) (hi : inN i 7 = true) (kk : V κ fr (pc + 1) ls (.int (zKA i.toNatClampNeg) :: st) n μ) : V κ fr pc ls (.int i :: .ref 1001 :: st) n μ :=
  fun ξ hξ p e s m args below meth c H locs lsA C w S h => va_ti C.1.1 C.1.2.1 C.1.2.2.2.2.2.2.2.2.2.2.2.1.2 S (inN_in hi) rfl hdg (kk ξ hξ p e s m args below meth c H locs lsA C w S h)
theorem V_ldBO {i : Int32} (hdg : decode κ.2.1.2.1 pc = .ok (.iaload, 1)) (hi : inN i 21 = true) (kk : V κ fr (pc + 1) ls (.int (zBO i.toNatClampNeg) :: st) n μ) : V κ fr pc ls (.int i :: .ref 1002 :: st) n μ :=
  fun ξ hξ p e s m args below meth c H locs lsA C w S h => va_ti C.1.1 C.1.2.1 C.1.2.2.2.2.2.2.2.2.2.2.2.2.1.2 S (inN_in hi) rfl hdg (kk ξ hξ p e s m args below meth c H locs lsA C w S h)
end
