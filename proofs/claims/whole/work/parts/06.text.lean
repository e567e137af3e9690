-- TEXTS, arraycopy, rows of references, the script
def rmd (d : Nat) : Room := { frames := d, cells := 0, slots := 0, locals := 64 * d }
def zslen (j : Nat) : Nat := zLen.getD j 0
def zschr (j i : Nat) : Int32 := (zByt.getD j []).getD i 0
section
variable {κ : ZK} {fr : Bool} {pc n : Nat} {ls ls' : List (Nat × Value)} {st : List Value} {μ μ' : ZMem}
theorem zad_s (ξ : ZX) (k : Nat) : zad ξ (1000 + k) = zsa ξ k := by
  unfold zad
  rw [if_neg (by omega), show 1000 + k - 1000 = k by omega]
theorem V_sld {i x : Int32} (hdg : decode κ.2.1.2.1 pc = .ok (.iaload, 1)) (hi : ∀ ξ, κ.2.2.2.2.2 ξ → vp_in i (zLn ξ)) (hx : ∀ ξ, κ.2.2.2.2.2 ξ → zxs ξ i.toNatClampNeg = x) (kk : V κ fr (pc + 1) ls (.int x :: st) n μ) : V κ fr pc ls (.int i :: .ref 1000 :: st) n μ := by
  intro ξ hξ p e s m args below meth c H locs lsA C w S h
  have h9 := kk ξ hξ p e s m args below meth c H locs lsA C w S h
  rw [← hx ξ hξ] at h9
  exact va_sld C.1.1 C.1.2.1 C.1.2.2.2.2.2.2.2.2.2.2.2.2.2.1.1 (Nat.lt_of_lt_of_le C.1.2.2.2.2.2.2.2.2.2.2.2.2.2.1.2.1 C.1.2.2.2.2.2.2.2.2.2.2.1) (Nat.not_le.mpr C.1.2.2.2.2.2.2.2.2.2.2.2.2.2.1.2.1) S (hi ξ hξ) hdg h9
theorem V_slen {x : Int32} (hdg : decode κ.2.1.2.1 pc = .ok (.arraylength, 1)) (hx : ∀ ξ, κ.2.2.2.2.2 ξ → Int32.ofNat (zLn ξ) = x) (kk : V κ fr (pc + 1) ls (.int x :: st) n μ) : V κ fr pc ls (.ref 1000 :: st) n μ := by
  intro ξ hξ p e s m args below meth c H locs lsA C w S h
  have h9 := kk ξ hξ p e s m args below meth c H locs lsA C w S h
  rw [← hx ξ hξ] at h9
  exact va_slen C.1.1 C.1.2.1 C.1.2.2.2.2.2.2.2.2.2.2.2.2.2.1.1 (Nat.lt_of_lt_of_le C.1.2.2.2.2.2.2.2.2.2.2.2.2.2.1.2.1 C.1.2.2.2.2.2.2.2.2.2.2.1) (Nat.not_le.mpr C.1.2.2.2.2.2.2.2.2.2.2.2.2.2.1.2.1) S hdg h9
theorem V_ldcS {index j : Nat} (hj : j < 8) (hown : κ.2.1.1.cls = RX5) (hx : (zStx.getD j (0, "")).1 = index) (hdg : decode κ.2.1.2.1 pc = .ok (.ldc index, 2)) (kk : V κ fr (pc + 2) ls (.ref (1000 + (10 + j)) :: st) n μ) : V κ fr pc ls st n μ := by
  intro ξ hξ p e s m args below meth c H locs lsA C w S h
  subst hx
  have h9 := kk ξ hξ p e s m args below meth c H locs lsA C w S h
  have e3 : zvm ξ (.ref (1000 + (10 + j))) = .ref (zsa ξ (10 + j)) := by
    show Value.ref (zad ξ _) = _
    rw [zad_s]
  rw [List.map_cons, e3] at h9
  have hZ := C.1.2.2.2.2.2.2.2.2.2.2.2.2.2.2.2.1 j hj
  rw [← hown] at hZ
  exact va_ldcS C.1.1 C.1.2.1 C.1.2.2.2.2.1 hZ hdg h9
theorem V_sval {j : Nat} (hj : j < 8) (hown : κ.2.1.1.cls = RJ0) (hl : Cond.fieldLink RJ0 9 RJ0 "value" "[B" ∈ zT) (hdg : decode κ.2.1.2.1 pc = .ok (.getfield 9, 3)) (kk : V κ fr (pc + 3) ls (.ref (1000 + (30 + j)) :: st) n μ) : V κ fr pc ls (.ref (1000 + (10 + j)) :: st) n μ := by
  intro ξ hξ p e s m args below meth c H locs lsA C w S h
  have h9 := kk ξ hξ p e s m args below meth c H locs lsA C w S h
  have e3 : zvm ξ (.ref (1000 + (30 + j))) = .ref (zsa ξ (30 + j)) := by
    show Value.ref (zad ξ _) = _
    rw [zad_s]
  have e4 : zvm ξ (.ref (1000 + (10 + j))) = .ref (zsa ξ (10 + j)) := by
    show Value.ref (zad ξ _) = _
    rw [zad_s]
  rw [List.map_cons, e3] at h9
  rw [List.map_cons, e4]
  have hf := (C.1.2.2.2.2.2.2.2.2.2.2.2.2.2.2.2.2.1.1 j hj).2.2.1
  exact vk_getf C.1.1 C.1.2.1 hf S C.1.2.2.2.2.1 (by rw [hown]; exact C.1.2.2.2.2.2.1 _ (List.mem_cons_of_mem _ hl)) (fun x hx => hx) hdg h9
theorem V_scod {j : Nat} (hj : j < 8) (hown : κ.2.1.1.cls = RJ0) (hl : Cond.fieldLink RJ0 15 RJ0 "coder" "B" ∈ zT) (hdg : decode κ.2.1.2.1 pc = .ok (.getfield 15, 3)) (kk : V κ fr (pc + 3) ls (.int 0 :: st) n μ) : V κ fr pc ls (.ref (1000 + (10 + j)) :: st) n μ := by
  intro ξ hξ p e s m args below meth c H locs lsA C w S h
  have h9 := kk ξ hξ p e s m args below meth c H locs lsA C w S h
  have e4 : zvm ξ (.ref (1000 + (10 + j))) = .ref (zsa ξ (10 + j)) := by
    show Value.ref (zad ξ _) = _
    rw [zad_s]
  rw [List.map_cons, e4]
  have hf := (C.1.2.2.2.2.2.2.2.2.2.2.2.2.2.2.2.2.1.1 j hj).2.1
  exact vk_getf C.1.1 C.1.2.1 hf S C.1.2.2.2.2.1 (by rw [hown]; exact C.1.2.2.2.2.2.1 _ (List.mem_cons_of_mem _ hl)) (fun x hx => hx) hdg h9
theorem V_blen {j : Nat} (hj : j < 8) (hdg : decode κ.2.1.2.1 pc = .ok (.arraylength, 1)) (kk : V κ fr (pc + 1) ls (.int (Int32.ofNat (zslen j)) :: st) n μ) : V κ fr pc ls (.ref (1000 + (30 + j)) :: st) n μ := by
  intro ξ hξ p e s m args below meth c H locs lsA C w S h
  have h9 := kk ξ hξ p e s m args below meth c H locs lsA C w S h
  have e4 : zvm ξ (.ref (1000 + (30 + j))) = .ref (zsa ξ (30 + j)) := by
    show Value.ref (zad ξ _) = _
    rw [zad_s]
  rw [List.map_cons, e4]
  have hf := (C.1.2.2.2.2.2.2.2.2.2.2.2.2.2.2.2.2.1.1 j hj).2.2.2
  exact va_tlen C.1.1 C.1.2.1 hf S rfl hdg h9
theorem V_bald {j : Nat} {i : Int32} (hj : j < 8) (hi : inN i (zslen j) = true) (hdg : decode κ.2.1.2.1 pc = .ok (.baload, 1)) (kk : V κ fr (pc + 1) ls (.int (zschr j i.toNatClampNeg) :: st) n μ) : V κ fr pc ls (.int i :: .ref (1000 + (30 + j)) :: st) n μ := by
  intro ξ hξ p e s m args below meth c H locs lsA C w S h
  have h9 := kk ξ hξ p e s m args below meth c H locs lsA C w S h
  have e4 : zvm ξ (.ref (1000 + (30 + j))) = .ref (zsa ξ (30 + j)) := by
    show Value.ref (zad ξ _) = _
    rw [zad_s]
  rw [List.map_cons, List.map_cons, e4]
  have hf := (C.1.2.2.2.2.2.2.2.2.2.2.2.2.2.2.2.2.1.1 j hj).2.2.2
  exact va_tb C.1.1 C.1.2.1 hf S (inN_in hi) rfl hdg h9
theorem V_scmp (hown : κ.2.1.1.cls = RJ0) (hl : Cond.fieldLink RJ0 38 RJ0 "COMPACT_STRINGS" "Z" ∈ zT) (hdg : decode κ.2.1.2.1 pc = .ok (.getstatic 38, 3)) (kk : V κ fr (pc + 3) ls (.int 1 :: st) n μ) : V κ fr pc ls st n μ :=
  fun ξ hξ p e s m args below meth c H locs lsA C w S h => va_gets C.1.1 C.1.2.1 C.1.2.2.2.2.2.2.2.2.2.2.2.2.2.2.2.2.2.1 S C.1.2.2.2.2.1 (by rw [hown]; exact C.1.2.2.2.2.2.1 _ (List.mem_cons_of_mem _ hl)) (fun x hx => hx) hdg (kk ξ hξ p e s m args below meth c H locs lsA C w S h)
theorem V_ssio (hown : κ.2.1.1.cls = RJ0) (hl : Cond.fieldLink RJ0 1053 RJ3 "SIOOBE_FORMATTER" "Ljava/util/function/BiFunction;" ∈ zT) (hdg : decode κ.2.1.2.1 pc = .ok (.getstatic 1053, 3)) (kk : ∀ v, v = .null ∨ v = .ref 1003 → V κ fr (pc + 3) ls (v :: st) n μ) : V κ fr pc ls st n μ := by
  intro ξ hξ p e s m args below meth c H locs lsA C w S h
  rcases C.1.2.2.2.2.2.2.2.2.2.2.2.2.2.2.2.2.2.2 with q | q
  · exact va_gets C.1.1 C.1.2.1 q S C.1.2.2.2.2.1 (by rw [hown]; exact C.1.2.2.2.2.2.1 _ (List.mem_cons_of_mem _ hl)) (fun x hx => hx) hdg (kk .null (Or.inl rfl) ξ hξ p e s m args below meth c H locs lsA C w S h)
  · exact va_gets C.1.1 C.1.2.1 q S C.1.2.2.2.2.1 (by rw [hown]; exact C.1.2.2.2.2.2.1 _ (List.mem_cons_of_mem _ hl)) (fun x hx => hx) hdg (kk (.ref 1003) (Or.inr rfl) ξ hξ p e s m args below meth c H locs lsA C w S h)
theorem V_tret {v : Int32} {ty : FieldType} (hdg : decode κ.2.1.2.1 pc = .ok (.ireturn, 1)) (hr : κ.2.1.2.2.2 = some ty) (hv : narrow ty (.int v) = .int v) (hz : κ.2.2.2.2.1 = (fr, n, μ, some (.int v))) : V κ fr pc ls [.int v] n μ :=
  fun ξ hξ p e s m args below meth c H locs lsA C w S h => W.widen C.2.2.1 C.2.2.2 (by
    rw [hz]
    exact W.zret C.1.1 C.1.2.1 (C.1.2.2.1.trans hr) hv (fun t ht _ => zend w S ht) S.2.2 hdg C.1.2.2.2.2.2.2.1)
/-- a call on a text -/
theorem V_callT {M : ZM} {R1 : Room} {As : List Value} {j index k : Nat} {r : Option Value} {stk : List Value} (hdg : decode κ.2.1.2.1 pc = .ok (.invokevirtual index, 3)) (hs : zCV κ.2.1.1.cls index M k) (hj : j < 8) (hM : M.1.cls = "java/lang/String") (hF : ZFn κ.1 M R1 (.ref (1000 + (10 + j)) :: As) fr n μ (fr, n, μ, r)) (hk : As.length = k) (hstk : stk = As.reverse ++ .ref (1000 + (10 + j)) :: st)
    (hR : R1.frames + 1 ≤ κ.2.2.1.frames ∧ 8 + (M.2.2.1 + 11) + R1.locals ≤ κ.2.2.1.locals) (hcat : (st.map fun v => v.category).sum ≤ 8) (h0 : R1.cells = 0 ∧ R1.slots = 0) (kk : V κ fr (pc + 3) ls (r.toList ++ st) n μ) : V κ fr pc ls stk n μ := by
  subst hstk
  intro ξ hξ p e s m args below meth c0 H locs lsA C w S h
  obtain ⟨hl, hi, hse, hcw⟩ := hs
  have hts := C.1.2.2.2.2.2.1
  have hrc : ∃ cell : Cell, H[zad ξ (1000 + (10 + j))]? = some cell ∧ cell.vm.isStatics = false ∧ s.vm.findClass M.1.cls = some cell.cls := by
    rw [hM, zad_s]
    exact vk_recv (i := j) (adK := fun i => zsa ξ (10 + i)) C.1.2.2.2.2.2.2.2.2.2.2.2.2.2.2.2.2.1 hj S
  refine zback hξ C S h (va_runV (Ts := zwd κ.2.1) (As := As.map (zvm ξ)) (b := zad ξ (1000 + (10 + j))) ⟨C.1.1, C.1.2.1, C.1.2.2.2.1, C.1.2.2.2.2.1, hts⟩ (hF ξ) ⟨zcallB C.1 hcw hl hR, hts _ (List.mem_cons_of_mem _ hi), hts _ (List.mem_cons_of_mem _ hse)⟩ ⟨zpc_blind _ _ _ _ _, hrc, fun U hU hW => ⟨rfl, by rw [hU]; exact w, zE_to C.1.2.2.2.2.2.2.2.2 hU hW S⟩⟩ rfl (by rw [List.length_map]; exact hk) h.1 (by simp [zvm]) (lv_room (by rw [zvm_sum]; exact hcat)) hdg ?_) (by rw [h0.1, h0.2]; exact ⟨rfl, rfl⟩) C.2 kk
  rw [h0.1, h0.2]
  exact ⟨C.2.2.1, C.2.2.2⟩
theorem V_aast {a v ci t : Nat} {i : Int32} {q : vw_C} (ht2 : 2 ≤ t) (hdg : decode κ.2.1.2.1 pc = .ok (.aastore, 1)) (hc : isC n (100 + t) a = true) (hi : inb i a = true) (hv : isC n ci v = true) (hq : zcl[ci]? = some q) (htt : ∀ ξ, (ztys ξ)[t]? = some (zcA ξ t, .object q.1)) (e : μ' = zpR μ a i.toNatClampNeg v) (kk : V κ fr (pc + 1) ls st n μ') : V κ fr pc ls (.ref v :: .int i :: .ref a :: st) n μ := by
  subst e
  intro ξ hξ p e s m args below meth c H locs lsA C w S h
  have hK : va_K (zD ξ) zcl (ztys ξ) s := C.1.2.2.2.2.2.2.2.2.1
  have ha : (zws ξ n μ)[a]? = some (zad ξ a, .inl (zcA ξ t, zsz a, .inr (.inr (.inr (.inr (fun k => (zR μ a k).map (zad ξ))))))) := by rw [zws_get (isC_lt hc), zent_ref (isC_cl hc) ht2]
  have hin := inb_in hi
  have hlt : i.toNatClampNeg < zsz a := Nat.not_le.mp fun q => hin (Or.inr q)
  have h0 : ¬ i < 0 := fun q => hin (Or.inl q)
  obtain ⟨r', hr', cellV, g1, g2, g3, -⟩ := w.1 v _ (zobj (ξ := ξ) (μ := μ) hv hq)
  have hcls := (hK.1 ci q hq).2
  obtain ⟨kA, comp, k1, k2, k3, -⟩ := (hK.2 t _ (htt ξ)).2
  have hcomp : comp = (zD ξ).1 ci := Option.some.inj (k3.symm.trans hcls.1)
  subst hcomp
  obtain ⟨kC, hkC, -⟩ := hcls.2
  refine W.aast C.1.1 C.1.2.1 (w.1 a _ ha) (fun q h => by cases h) (fun h => by cases h) k1 k2 rfl hkC ⟨h0, by show _ < (arrV _ _ _).slots.size; rw [arrV_size]; exact hlt⟩ g1 (fun q h => by rw [g3] at h; cases h) (by rw [g2]; exact hkC) (by rw [g2]; exact va_assign hcls) rfl rfl hdg fun H1 e z oq => ?_
  obtain ⟨w1, S1⟩ := zarr (μ' := zpR μ a i.toNatClampNeg v) (e' := .inl (zcA ξ t, zsz a, .inr (.inr (.inr (.inr (fun k => (zR (zpR μ a i.toNatClampNeg v) a k).map (zad ξ))))))) (j := i.toNatClampNeg) w S (isC_lt hc) (zent_ref (isC_cl hc) ht2) (fun b hb => zpR_ent ξ μ hb) (by
    show H1[zad ξ a]? = some (vp_cell _ _)
    rw [e, vp_cell_q, vp_cell_q, arrV_store]
    congr 2
    funext q
    by_cases hq : q = i.toNatClampNeg
    · subst hq; simp [updV, zR, zpR, va_rf]
    · simp [updV, zR, zpR, hq]) z oq
  exact kk ξ hξ p _ s m args below meth c H1 _ lsA C w1 S1 h
/-- System.arraycopy of longs -/
theorem V_copyl {a b index : Nat} {sp dp k : Int32} (hw : Cond.methodLink κ.2.1.1.cls index arraycopyName ∈ zT ∧ Cond.native arraycopyName ∈ zT ∧ Cond.static arraycopyName ∈ zT ∧ Cond.initialized "java/lang/System" ∈ zT) (hdg : decode κ.2.1.2.1 pc = .ok (.invokestatic index, 3)) (ha : isC n 101 a = true) (hb : isC n 101 b = true) (h1 : ¬ sp < 0) (h2 : ¬ dp < 0) (h3 : ¬ k < 0) (h4 : sp.toNatClampNeg + k.toNatClampNeg ≤ zsz a) (h5 : dp.toNatClampNeg + k.toNatClampNeg ≤ zsz b) (hst : st = []) (hR : 1 ≤ κ.2.2.1.frames ∧ nativeFrameWords "java/lang/System" "arraycopy" 5 + 11 ≤ κ.2.2.1.locals) (e : μ' = zcp μ a b sp.toNatClampNeg dp.toNatClampNeg k.toNatClampNeg) (kk : V κ false (pc + 3) ls st n μ') : V κ false pc ls (.int k :: .int dp :: .ref b :: .int sp :: .ref a :: st) n μ := by
  subst e
  subst hst
  intro ξ hξ p e s m args below meth c H locs lsA C w S h
  have hts := C.1.2.2.2.2.2.1
  have hK : va_K (zD ξ) zcl (ztys ξ) s := C.1.2.2.2.2.2.2.2.2.1
  have hD : va_D (zA ξ) (zws ξ n μ) := zWD w.2.2
  have ha0 : (zws ξ n μ)[a]? = some (zad ξ a, .inl (zcA ξ 1, zsz a, .inr (.inl (zL μ a)))) := by rw [zws_get (isC_lt ha), zent_lng (isC_cl ha)]
  have hb0 : (zws ξ n μ)[b]? = some (zad ξ b, .inl (zcA ξ 1, zsz b, .inr (.inl (zL μ b)))) := by rw [zws_get (isC_lt hb), zent_lng (isC_cl hb)]
  refine va_copyl C.1.1 C.1.2.1 (C.1.2.2.2.1.trans h.1.symm) C.1.2.2.2.2.1 (hts _ (List.mem_cons_of_mem _ hw.1)) (hts _ (List.mem_cons_of_mem _ hw.2.1)) (hts _ (List.mem_cons_of_mem _ hw.2.2.1)) (hts _ (List.mem_cons_of_mem _ hw.2.2.2)) hK w.1 hD S a b 1 1 ha0 hb0 rfl rfl rfl h1 h2 h3 h4 h5 (fun _ _ => rfl) hR.1 (by show 0 + _ ≤ _; omega) hdg fun H1 locs1 hP1 hD1 S1 => ?_
  have h8 : (zws ξ n μ).set b (zad ξ b, .inl (zcA ξ 1, zsz b, .inr (.inl (va_cpy (zL μ a) (zL μ b) sp.toNatClampNeg dp.toNatClampNeg k.toNatClampNeg)))) = zws ξ n (zcp μ a b sp.toNatClampNeg dp.toNatClampNeg k.toNatClampNeg) := by
    have h7 : zL (zcp μ a b sp.toNatClampNeg dp.toNatClampNeg k.toNatClampNeg) b = va_cpy (zL μ a) (zL μ b) sp.toNatClampNeg dp.toNatClampNeg k.toNatClampNeg := by
      funext x
      simp [zL, zcp]
      rfl
    rw [← h7, ← zent_lng (isC_cl hb)]
    exact zws_set (fun x hx => zent_congr (fun _ => rfl) (fun j => by simp [zL, zcp, hx]) (fun _ => rfl))
  rw [h8] at hP1
  exact kk ξ hξ p _ s m args below meth c H1 _ lsA C ⟨hP1, (fun q => by cases q), w.2.2⟩ S1 h
end
def mJ_coder : ZM := (yJ0_coder_7d493, cJ0_coder_7d493, 1, some .byte)
def mJ_lat : ZM := (yJ0_isLatin1_aae02, cJ0_isLatin1_aae02, 1, some .boolean)
def mJ_len : ZM := (yJ0_length_8abf5, cJ0_length_8abf5, 1, some .int)
def mJ_chr : ZM := (yJ0_charAt_5068e, cJ0_charAt_5068e, 2, some .char)
def mJ_lchr : ZM := (yJ1_charAt_3b067, cJ1_charAt_3b067, 2, some .char)
def mJ_chk : ZM := (yJ0_checkIndex_df160, cJ0_checkIndex_df160, 2, none)
def mJ_pchk : ZM := (yJ3_checkIndex_8e157, cJ3_checkIndex_8e157, 3, some .int)
theorem sJ_len_coder : zCV RJ0 335 mJ_coder 0 := ⟨zin (i := 459) (by decide +kernel) rfl, zin (i := 460) (by decide +kernel) rfl, zin (i := 461) (by decide +kernel) rfl, ⟨zin (i := 11) (by decide +kernel) rfl, zin (i := 462) (by decide +kernel) rfl, by decide +kernel, by decide +kernel, by decide +kernel⟩⟩
theorem sJ_chr_lat : zCV RJ0 492 mJ_lat 0 := ⟨zin (i := 469) (by decide +kernel) rfl, zin (i := 470) (by decide +kernel) rfl, zin (i := 471) (by decide +kernel) rfl, ⟨zin (i := 11) (by decide +kernel) rfl, zin (i := 472) (by decide +kernel) rfl, by decide +kernel, by decide +kernel, by decide +kernel⟩⟩
theorem sJ_chr_lchr : zCS RJ0 495 mJ_lchr 2 := ⟨zin (i := 473) (by decide +kernel) rfl, zin (i := 474) (by decide +kernel) rfl, ⟨zin (i := 12) (by decide +kernel) rfl, zin (i := 475) (by decide +kernel) rfl, by decide +kernel, by decide +kernel, by decide +kernel⟩⟩
theorem sJ_lchr_chk : zCS RJ1 9 mJ_chk 2 := ⟨zin (i := 476) (by decide +kernel) rfl, zin (i := 477) (by decide +kernel) rfl, ⟨zin (i := 11) (by decide +kernel) rfl, zin (i := 478) (by decide +kernel) rfl, by decide +kernel, by decide +kernel, by decide +kernel⟩⟩
theorem sJ_chk_pchk : zCS RJ0 1059 mJ_pchk 3 := ⟨zin (i := 481) (by decide +kernel) rfl, zin (i := 482) (by decide +kernel) rfl, ⟨zin (i := 13) (by decide +kernel) rfl, zin (i := 483) (by decide +kernel) rfl, by decide +kernel, by decide +kernel, by decide +kernel⟩⟩
theorem sJ_5_len : zCV RX5 112 mJ_len 0 := ⟨zin (i := 455) (by decide +kernel) rfl, zin (i := 456) (by decide +kernel) rfl, zin (i := 457) (by decide +kernel) rfl, ⟨zin (i := 11) (by decide +kernel) rfl, zin (i := 458) (by decide +kernel) rfl, by decide +kernel, by decide +kernel, by decide +kernel⟩⟩
theorem sJ_5_chr : zCV RX5 117 mJ_chr 1 := ⟨zin (i := 465) (by decide +kernel) rfl, zin (i := 466) (by decide +kernel) rfl, zin (i := 467) (by decide +kernel) rfl, ⟨zin (i := 11) (by decide +kernel) rfl, zin (i := 468) (by decide +kernel) rfl, by decide +kernel, by decide +kernel, by decide +kernel⟩⟩
theorem wJ_value : Cond.fieldLink RJ0 9 RJ0 "value" "[B" ∈ zT := zin (i := 1262) (by decide +kernel) rfl
theorem wJ_coder : Cond.fieldLink RJ0 15 RJ0 "coder" "B" ∈ zT := zin (i := 1263) (by decide +kernel) rfl
theorem wJ_comp : Cond.fieldLink RJ0 38 RJ0 "COMPACT_STRINGS" "Z" ∈ zT := zin (i := 463) (by decide +kernel) rfl
theorem wJ_sio : Cond.fieldLink RJ0 1053 RJ3 "SIOOBE_FORMATTER" "Ljava/util/function/BiFunction;" ∈ zT := zin (i := 479) (by decide +kernel) rfl
theorem wJ_cp : Cond.methodLink RX3 49 arraycopyName ∈ zT ∧ Cond.native arraycopyName ∈ zT ∧ Cond.static arraycopyName ∈ zT ∧ Cond.initialized "java/lang/System" ∈ zT := ⟨zin (i := 310) (by decide +kernel) rfl, zin (i := 312) (by decide +kernel) rfl, zin (i := 311) (by decide +kernel) rfl, zin (i := 10) (by decide +kernel) rfl⟩
-- the JDK's methods on our texts
theorem tJ_pchk {l : Launch} {fr : Bool} {n : Nat} {μ : ZMem} {i L : Int32} {v : Value} (h0 : ¬ i < 0) (h1 : i < L) (hv : v = .null ∨ v = .ref 1003) : ZFn l mJ_pchk (rmd 1) [.int i, .int L, v] fr n μ (fr, n, μ, some (.int i)) := by
  refine ZFn.of (ls := [(0, .int i), (1, .int L), (2, v)]) (by decide) (fun ξ => by rcases hv with rfl | rfl <;> exact Nat.le_of_ble_eq_true rfl) (fun ξ => by rcases hv with rfl | rfl <;> rfl) ?_
  refine V_iload_n 0 (by decide +kernel : decode cJ3_checkIndex_8e157 0 = .ok (.iload_n 0, 1)) rfl ?_
  refine V_if_lt (tgt := 9) (by decide +kernel : decode cJ3_checkIndex_8e157 1 = .ok (.ifCond .lt 8, 3)) (by decide) (fun c => absurd c h0) (fun c => ?_)
  refine V_iload_n 0 (by decide +kernel : decode cJ3_checkIndex_8e157 4 = .ok (.iload_n 0, 1)) rfl ?_
  refine V_iload_n 1 (by decide +kernel : decode cJ3_checkIndex_8e157 5 = .ok (.iload_n 1, 1)) rfl ?_
  refine V_icmp_lt (tgt := 16) (by decide +kernel : decode cJ3_checkIndex_8e157 6 = .ok (.if_icmp .lt 10, 3)) (by decide) (fun c => ?_) (fun c => absurd h1 c)
  refine V_iload_n 0 (by decide +kernel : decode cJ3_checkIndex_8e157 16 = .ok (.iload_n 0, 1)) rfl ?_
  exact V_iret (by decide +kernel : decode cJ3_checkIndex_8e157 17 = .ok (.ireturn, 1)) rfl rfl
theorem tJ_chk {l : Launch} {fr : Bool} {n : Nat} {μ : ZMem} {i L : Int32} (h0 : ¬ i < 0) (h1 : i < L) : ZFn l mJ_chk (rmd 2) [.int i, .int L] fr n μ (fr, n, μ, none) := by
  refine ZFn.of (ls := [(0, .int i), (1, .int L)]) (by decide) (fun ξ => Nat.le_of_ble_eq_true rfl) (fun ξ => rfl) ?_
  refine V_iload_n 0 (by decide +kernel : decode cJ0_checkIndex_df160 0 = .ok (.iload_n 0, 1)) rfl ?_
  refine V_iload_n 1 (by decide +kernel : decode cJ0_checkIndex_df160 1 = .ok (.iload_n 1, 1)) rfl ?_
  refine V_ssio rfl wJ_sio (by decide +kernel : decode cJ0_checkIndex_df160 2 = .ok (.getstatic 1053, 3)) (fun v hv => ?_)
  refine V_callS (R1 := rmd 1) (As := [.int i, .int L, v]) (r := some (.int i)) (by decide +kernel : decode cJ0_checkIndex_df160 5 = .ok (.invokestatic 1059, 3)) sJ_chk_pchk (tJ_pchk h0 h1 hv) rfl rfl ⟨Nat.le_of_ble_eq_true rfl, Nat.le_of_ble_eq_true rfl⟩ (Nat.le_of_ble_eq_true rfl) ⟨rfl, rfl⟩ id ?_
  refine V_pop (by decide +kernel : decode cJ0_checkIndex_df160 8 = .ok (.pop, 1)) ?_
  exact V_vret (by decide +kernel : decode cJ0_checkIndex_df160 9 = .ok (.return_, 1)) rfl rfl
theorem zlen_ok : ∀ j, j < 8 → zslen j < 8 := by decide
theorem inN_cmp {i : Int32} {j : Nat} (hj : j < 8) (hi : inN i (zslen j) = true) : ¬ i < 0 ∧ i < Int32.ofNat (zslen j) := by
  have h8 := zlen_ok j hj
  unfold inN at hi
  simp only [Bool.and_eq_true, Bool.not_eq_true', decide_eq_false_iff_not, decide_eq_true_eq] at hi
  refine ⟨hi.1, ?_⟩
  have h1 : ¬ i.toInt < 0 := by
    intro q
    exact hi.1 (Int32.lt_iff_toInt_lt.mpr (by simpa using q))
  have h2 : i.toInt.toNat < zslen j := hi.2
  rw [Int32.lt_iff_toInt_lt]
  have h3 : (Int32.ofNat (zslen j)).toInt = (zslen j : Int) := nI_toInt (by omega)
  rw [h3]
  omega
theorem zbyte_ok : ∀ j, j < 8 → ∀ k, k < zslen j → (zschr j k &&& 255).toUInt32.toUInt16.toUInt32.toInt32 = zschr j k ∧ narrow .char (.int (zschr j k)) = .int (zschr j k) := by decide +kernel
theorem tJ_lchr {l : Launch} {fr : Bool} {n : Nat} {μ : ZMem} {i : Int32} {j : Nat} (hj : j < 8) (hi : inN i (zslen j) = true) : ZFn l mJ_lchr (rmd 3) [.ref (1000 + (30 + j)), .int i] fr n μ (fr, n, μ, some (.int (zschr j i.toNatClampNeg))) := by
  obtain ⟨h0, h1⟩ := inN_cmp hj hi
  have hlt : i.toNatClampNeg < zslen j := Nat.not_le.mp fun q => inN_in hi (Or.inr q)
  obtain ⟨b1, b2⟩ := zbyte_ok j hj _ hlt
  refine ZFn.of (ls := [(0, .ref (1000 + (30 + j))), (1, .int i)]) (by decide) (fun ξ => Nat.le_of_ble_eq_true rfl) (fun ξ => rfl) ?_
  refine V_iload_n 1 (by decide +kernel : decode cJ1_charAt_3b067 0 = .ok (.iload_n 1, 1)) rfl ?_
  refine V_aload_n 0 (by decide +kernel : decode cJ1_charAt_3b067 1 = .ok (.aload_n 0, 1)) rfl ?_
  refine V_blen hj (by decide +kernel : decode cJ1_charAt_3b067 2 = .ok (.arraylength, 1)) ?_
  refine V_callS (R1 := rmd 2) (As := [.int i, .int (Int32.ofNat (zslen j))]) (r := none) (by decide +kernel : decode cJ1_charAt_3b067 3 = .ok (.invokestatic 9, 3)) sJ_lchr_chk (tJ_chk h0 h1) rfl rfl ⟨Nat.le_of_ble_eq_true rfl, Nat.le_of_ble_eq_true rfl⟩ (Nat.le_of_ble_eq_true rfl) ⟨rfl, rfl⟩ id ?_
  refine V_aload_n 0 (by decide +kernel : decode cJ1_charAt_3b067 6 = .ok (.aload_n 0, 1)) rfl ?_
  refine V_iload_n 1 (by decide +kernel : decode cJ1_charAt_3b067 7 = .ok (.iload_n 1, 1)) rfl ?_
  refine V_bald hj hi (by decide +kernel : decode cJ1_charAt_3b067 8 = .ok (.baload, 1)) ?_
  refine V_sipush (v := 255) (by decide +kernel : decode cJ1_charAt_3b067 9 = .ok (.sipush 255, 3)) (by decide) ?_
  refine V_iand (by decide +kernel : decode cJ1_charAt_3b067 12 = .ok (.iand, 1)) ?_
  refine V_i2c (v := zschr j i.toNatClampNeg) (by decide +kernel : decode cJ1_charAt_3b067 13 = .ok (.i2c, 1)) b1 ?_
  exact V_tret (by decide +kernel : decode cJ1_charAt_3b067 14 = .ok (.ireturn, 1)) rfl b2 rfl
theorem tJ_lat {l : Launch} {fr : Bool} {n : Nat} {μ : ZMem} {j : Nat} (hj : j < 8) : ZFn l mJ_lat (rmd 1) [.ref (1000 + (10 + j))] fr n μ (fr, n, μ, some (.int 1)) := by
  refine ZFn.of (ls := [(0, .ref (1000 + (10 + j)))]) (by decide) (fun ξ => Nat.le_of_ble_eq_true rfl) (fun ξ => rfl) ?_
  refine V_scmp rfl wJ_comp (by decide +kernel : decode cJ0_isLatin1_aae02 0 = .ok (.getstatic 38, 3)) ?_
  refine V_if_eq (tgt := 17) (by decide +kernel : decode cJ0_isLatin1_aae02 3 = .ok (.ifCond .eq 14, 3)) (by decide) (fun c => absurd c (by decide)) (fun c => ?_)
  refine V_aload_n 0 (by decide +kernel : decode cJ0_isLatin1_aae02 6 = .ok (.aload_n 0, 1)) rfl ?_
  refine V_scod hj rfl wJ_coder (by decide +kernel : decode cJ0_isLatin1_aae02 7 = .ok (.getfield 15, 3)) ?_
  refine V_if_ne (tgt := 17) (by decide +kernel : decode cJ0_isLatin1_aae02 10 = .ok (.ifCond .ne 7, 3)) (by decide) (fun c => absurd rfl c) (fun c => ?_)
  refine V_iconst (v := 1) (by decide +kernel : decode cJ0_isLatin1_aae02 13 = .ok (.iconst 1, 1)) (by decide) ?_
  refine V_goto (tgt := 18) (by decide +kernel : decode cJ0_isLatin1_aae02 14 = .ok (.goto 4, 3)) (by decide) ?_
  exact V_zret (by decide +kernel : decode cJ0_isLatin1_aae02 18 = .ok (.ireturn, 1)) rfl (by decide) rfl
theorem tJ_coder {l : Launch} {fr : Bool} {n : Nat} {μ : ZMem} {j : Nat} (hj : j < 8) : ZFn l mJ_coder (rmd 1) [.ref (1000 + (10 + j))] fr n μ (fr, n, μ, some (.int 0)) := by
  refine ZFn.of (ls := [(0, .ref (1000 + (10 + j)))]) (by decide) (fun ξ => Nat.le_of_ble_eq_true rfl) (fun ξ => rfl) ?_
  refine V_scmp rfl wJ_comp (by decide +kernel : decode cJ0_coder_7d493 0 = .ok (.getstatic 38, 3)) ?_
  refine V_if_eq (tgt := 13) (by decide +kernel : decode cJ0_coder_7d493 3 = .ok (.ifCond .eq 10, 3)) (by decide) (fun c => absurd c (by decide)) (fun c => ?_)
  refine V_aload_n 0 (by decide +kernel : decode cJ0_coder_7d493 6 = .ok (.aload_n 0, 1)) rfl ?_
  refine V_scod hj rfl wJ_coder (by decide +kernel : decode cJ0_coder_7d493 7 = .ok (.getfield 15, 3)) ?_
  refine V_goto (tgt := 14) (by decide +kernel : decode cJ0_coder_7d493 10 = .ok (.goto 4, 3)) (by decide) ?_
  exact V_tret (by decide +kernel : decode cJ0_coder_7d493 14 = .ok (.ireturn, 1)) rfl (by decide) rfl
theorem zshr0 : ∀ j, j < 8 → Int32.ofNat (zslen j) >>> ((0 : Int32) &&& 31) = Int32.ofNat (zslen j) := by decide +kernel
theorem tJ_len {l : Launch} {fr : Bool} {n : Nat} {μ : ZMem} {j : Nat} (hj : j < 8) : ZFn l mJ_len (rmd 2) [.ref (1000 + (10 + j))] fr n μ (fr, n, μ, some (.int (Int32.ofNat (zslen j)))) := by
  refine ZFn.of (ls := [(0, .ref (1000 + (10 + j)))]) (by decide) (fun ξ => Nat.le_of_ble_eq_true rfl) (fun ξ => rfl) ?_
  refine V_aload_n 0 (by decide +kernel : decode cJ0_length_8abf5 0 = .ok (.aload_n 0, 1)) rfl ?_
  refine V_sval hj rfl wJ_value (by decide +kernel : decode cJ0_length_8abf5 1 = .ok (.getfield 9, 3)) ?_
  refine V_blen hj (by decide +kernel : decode cJ0_length_8abf5 4 = .ok (.arraylength, 1)) ?_
  refine V_aload_n 0 (by decide +kernel : decode cJ0_length_8abf5 5 = .ok (.aload_n 0, 1)) rfl ?_
  refine V_callT (R1 := rmd 1) (As := []) (r := some (.int 0)) (by decide +kernel : decode cJ0_length_8abf5 6 = .ok (.invokevirtual 335, 3)) sJ_len_coder hj rfl (tJ_coder hj) rfl rfl ⟨Nat.le_of_ble_eq_true rfl, Nat.le_of_ble_eq_true rfl⟩ (Nat.le_of_ble_eq_true rfl) ⟨rfl, rfl⟩ ?_
  refine V_ishr (by decide +kernel : decode cJ0_length_8abf5 9 = .ok (.ishr, 1)) ?_
  rw [zshr0 j hj]
  exact V_iret (by decide +kernel : decode cJ0_length_8abf5 10 = .ok (.ireturn, 1)) rfl rfl
theorem tJ_chr {l : Launch} {fr : Bool} {n : Nat} {μ : ZMem} {i : Int32} {j : Nat} (hj : j < 8) (hi : inN i (zslen j) = true) : ZFn l mJ_chr (rmd 4) [.ref (1000 + (10 + j)), .int i] fr n μ (fr, n, μ, some (.int (zschr j i.toNatClampNeg))) := by
  have hlt : i.toNatClampNeg < zslen j := Nat.not_le.mp fun q => inN_in hi (Or.inr q)
  obtain ⟨b1, b2⟩ := zbyte_ok j hj _ hlt
  refine ZFn.of (ls := [(0, .ref (1000 + (10 + j))), (1, .int i)]) (by decide) (fun ξ => Nat.le_of_ble_eq_true rfl) (fun ξ => rfl) ?_
  refine V_aload_n 0 (by decide +kernel : decode cJ0_charAt_5068e 0 = .ok (.aload_n 0, 1)) rfl ?_
  refine V_callT (R1 := rmd 1) (As := []) (r := some (.int 1)) (by decide +kernel : decode cJ0_charAt_5068e 1 = .ok (.invokevirtual 492, 3)) sJ_chr_lat hj rfl (tJ_lat hj) rfl rfl ⟨Nat.le_of_ble_eq_true rfl, Nat.le_of_ble_eq_true rfl⟩ (Nat.le_of_ble_eq_true rfl) ⟨rfl, rfl⟩ ?_
  refine V_if_eq (tgt := 16) (by decide +kernel : decode cJ0_charAt_5068e 4 = .ok (.ifCond .eq 12, 3)) (by decide) (fun c => absurd c (by decide)) (fun c => ?_)
  refine V_aload_n 0 (by decide +kernel : decode cJ0_charAt_5068e 7 = .ok (.aload_n 0, 1)) rfl ?_
  refine V_sval hj rfl wJ_value (by decide +kernel : decode cJ0_charAt_5068e 8 = .ok (.getfield 9, 3)) ?_
  refine V_iload_n 1 (by decide +kernel : decode cJ0_charAt_5068e 11 = .ok (.iload_n 1, 1)) rfl ?_
  refine V_callS (R1 := rmd 3) (As := [.ref (1000 + (30 + j)), .int i]) (r := some (.int (zschr j i.toNatClampNeg))) (by decide +kernel : decode cJ0_charAt_5068e 12 = .ok (.invokestatic 495, 3)) sJ_chr_lchr (tJ_lchr hj hi) rfl rfl ⟨Nat.le_of_ble_eq_true rfl, Nat.le_of_ble_eq_true rfl⟩ (Nat.le_of_ble_eq_true rfl) ⟨rfl, rfl⟩ id ?_
  exact V_tret (by decide +kernel : decode cJ0_charAt_5068e 15 = .ok (.ireturn, 1)) rfl b2 rfl
