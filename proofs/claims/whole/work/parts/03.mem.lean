-- RULES OVER THE MEMORY, AND CALLS
def zty (c k : Nat) : FieldType := match c with
  | 0 => tyX0 k
  | 1 => tyX1 k
  | 2 => tyX2 k
  | 3 => tyX3 k
  | 4 => tyX4 k
  | 5 => tyX5 k
  | 6 => tyX6 k
  | _ => tyX7 k
theorem zu0 : ∀ w ∈ u_ws RX0 TX0 5, w ∈ zT := by decide +kernel
theorem zu1 : ∀ w ∈ u_ws RX1 TX1 5, w ∈ zT := by decide +kernel
theorem zu2 : ∀ w ∈ u_ws RX2 TX2 4, w ∈ zT := by decide +kernel
theorem zu3 : ∀ w ∈ u_ws RX3 TX3 5, w ∈ zT := by decide +kernel
theorem zu4 : ∀ w ∈ u_ws RX4 TX4 9, w ∈ zT := by decide +kernel
theorem zu5 : ∀ w ∈ u_ws RX5 TX5 5, w ∈ zT := by decide +kernel
theorem zu6 : ∀ w ∈ u_ws RX6 TX6 10, w ∈ zT := by decide +kernel
theorem zu7 : ∀ w ∈ u_ws RX7 TX7 42, w ∈ zT := by decide +kernel
/-- what is known of a class of ours -/
def zgood (c : Nat) (q : vw_C) : Prop := (∀ w ∈ u_ws q.1 q.2.1 q.2.2, w ∈ zT) ∧ (∀ k, k < q.2.2 → parseFieldDescriptor (q.2.1 k).2.2.1 = some (zty c k)) ∧ (∀ a, a < q.2.2 → ∀ b, b < q.2.2 → a ≠ b → (q.2.1 a).2.1 ≠ (q.2.1 b).2.1) ∧ znf c = q.2.2 ∧ c < 100
theorem zcl_good {c : Nat} {q : vw_C} (h : zcl[c]? = some q) : zgood c q := by
  match c, h with
  | 0, h => cases h; exact ⟨zu0, tyX0_ok, nmX0, rfl, by omega⟩
  | 1, h => cases h; exact ⟨zu1, tyX1_ok, nmX1, rfl, by omega⟩
  | 2, h => cases h; exact ⟨zu2, tyX2_ok, nmX2, rfl, by omega⟩
  | 3, h => cases h; exact ⟨zu3, tyX3_ok, nmX3, rfl, by omega⟩
  | 4, h => cases h; exact ⟨zu4, tyX4_ok, nmX4, rfl, by omega⟩
  | 5, h => cases h; exact ⟨zu5, tyX5_ok, nmX5, rfl, by omega⟩
  | 6, h => cases h; exact ⟨zu6, tyX6_ok, nmX6, rfl, by omega⟩
  | 7, h => cases h; exact ⟨zu7, tyX7_ok, nmX7, rfl, by omega⟩
  | k + 8, h => simp [zcl] at h
/-- a field by its place in the constant pool -/
def zF (own : String) (index c k : Nat) : Prop := ∃ q : vw_C, zcl[c]? = some q ∧ k < q.2.2 ∧ Cond.fieldLink own index (q.2.1 k).1 (q.2.1 k).2.1 (q.2.1 k).2.2.1 ∈ zT
def zFin (c k : Nat) : Bool := match zcl[c]? with
  | some q => (q.2.1 k).2.2.2
  | none => false
section
variable {κ : ZK} {fr : Bool} {pc n : Nat} {ls ls' : List (Nat × Value)} {st : List Value} {μ μ' : ZMem}
theorem zobj {ξ : ZX} {c a : Nat} {q : vw_C} (hc : isC n c a = true) (hq : zcl[c]? = some q) : (zws ξ n μ)[a]? = some (zad ξ a, .inr (c, zfs ξ μ a c)) := by
  rw [zws_get (isC_lt hc), zent_obj (isC_cl hc) (zcl_good hq).2.2.2.2]
theorem zgetf {a c k index : Nat} {v : Value} (hdg : decode κ.2.1.2.1 pc = .ok (.getfield index, 3)) (hc : isC n c a = true) (hf : zF κ.2.1.1.cls index c k) (hv : ∀ ξ, zfv ξ μ a c k = zvm ξ v) (kk : V κ fr (pc + 3) ls (v :: st) n μ) : V κ fr pc ls (.ref a :: st) n μ := by
  obtain ⟨q, hq, hk, hw⟩ := hf
  obtain ⟨g1, g2, g3, g4, g5⟩ := zcl_good hq
  intro ξ hξ p e s m args below meth c0 H locs lsA C w S h
  refine va_get C.1.1 C.1.2.1 C.1.2.2.2.2.2.1 (fun x hx => List.mem_cons_of_mem _ (g1 x hx)) C.1.2.2.2.2.1 C.1.2.2.2.2.2.2.2.2.1 w.1 a (zobj hc hq) hq k hk (C.1.2.2.2.2.2.1 _ (List.mem_cons_of_mem _ hw)) (fun x hx => hx) (zfs_get (by rw [g4]; exact hk)) hdg ?_
  rw [hv ξ]
  exact kk ξ hξ p e s m args below meth c0 H locs lsA C w S h
theorem V_getI {a c k index : Nat} (hdg : decode κ.2.1.2.1 pc = .ok (.getfield index, 3)) (hc : isC n c a = true) (hf : zF κ.2.1.1.cls index c k) (hr : zrf c k = false) (kk : V κ fr (pc + 3) ls (.int (zI μ a k) :: st) n μ) : V κ fr pc ls (.ref a :: st) n μ :=
  zgetf hdg hc hf (fun ξ => by unfold zfv; rw [hr]; rfl) kk
theorem V_getR {a c k index x : Nat} (hdg : decode κ.2.1.2.1 pc = .ok (.getfield index, 3)) (hc : isC n c a = true) (hf : zF κ.2.1.1.cls index c k) (hr : zrf c k = true) (hx : zR μ a k = some x) (kk : V κ fr (pc + 3) ls (.ref x :: st) n μ) : V κ fr pc ls (.ref a :: st) n μ :=
  zgetf hdg hc hf (fun ξ => by unfold zfv; rw [hr, hx]; rfl) kk
theorem zW_size {ξ : ZX} {H H1 : Heap} {μ μ' : ZMem} (w : zW ξ fr n μ H) (hP : va_P (zD ξ) zcl (zws ξ n μ') H1) (z : H1.size = H.size) : zW ξ fr n μ' H1 := ⟨hP, fun q => by rw [z]; exact w.2.1 q, w.2.2⟩
theorem zputf {a c k index : Nat} {v : Value} {ty : FieldType} (hdg : decode κ.2.1.2.1 pc = .ok (.putfield index, 3)) (hc : isC n c a = true) (hf : zF κ.2.1.1.cls index c k) (hfin : zFin c k = false ∨ (κ.2.1.1.name = "<init>" ∧ ∀ q, zcl[c]? = some q → (q.2.1 k).1 = κ.2.1.1.cls)) (hty : zty c k = ty)
    (hn : ∀ ξ, narrow ty (zvm ξ v) = zvm ξ v) (hfit : ∀ ξ, fits ty (zvm ξ v) = true) (hv : ∀ ξ, zfv ξ μ' a c k = zvm ξ v) (ho : ∀ ξ j, j ≠ k → zfv ξ μ a c j = zfv ξ μ' a c j) (hb : ∀ ξ b, b ≠ a → zent ξ μ b = zent ξ μ' b)
    (kk : V κ fr (pc + 3) ls st n μ') : V κ fr pc ls (v :: .ref a :: st) n μ := by
  obtain ⟨q, hq, hk, hw⟩ := hf
  obtain ⟨g1, g2, g3, g4, g5⟩ := zcl_good hq
  intro ξ hξ p e s m args below meth c0 H locs lsA C w S h
  have hts := C.1.2.2.2.2.2.1
  have hin : ∀ x ∈ u_ws q.1 q.2.1 q.2.2, x ∈ zwd κ.2.1 := fun x hx => List.mem_cons_of_mem _ (g1 x hx)
  have hK : va_K (zD ξ) zcl (ztys ξ) s := C.1.2.2.2.2.2.2.2.2.1
  have he := zobj (ξ := ξ) (μ := μ) hc hq
  have hD : va_D (zA ξ) (zws ξ n μ) := zWD w.2.2
  have hap := va_apart (own := κ.2.1.1.cls) hts hin (zty c) g2 g3 hK hq
  obtain ⟨r, h1, cell, q1, q2, q3, q4⟩ := w.1 a _ he
  have hr : r = q := Option.some.inj (h1.symm.trans hq)
  subst hr
  obtain ⟨hS, hfc, kC, hkC, hkind⟩ := hK.1 c _ hq
  obtain ⟨cf, kf, fi, f, hi, hsl⟩ := hS k hk
  have hst := (u_facts hfc hkC (u_lays hts hin hk) hi).1
  have hpd : parseFieldDescriptor (r.2.1 k).2.2.1 = some ty := by rw [g2 k hk, hty]
  have hlink := hts _ (List.mem_cons_of_mem _ hw)
  have fin : ∀ H1 : Heap, H1[zad ξ a]? = some (cell.setSlot f.slot (zvm ξ v)) → H1.size = H.size → (∀ x, x ≠ zad ξ a → H1[x]? = H[x]?) → zW ξ fr n μ' H1 ∧ va_S (zA ξ) s.heap H1 (locs ++ [⟨zad ξ a, f.slot⟩]) := by
    intro H1 e1 e2 e3
    rw [hsl] at e1
    have h9 := w.1.set hD he (e := .inr (c, (zfs ξ μ a c).set k (zvm ξ v))) ⟨_, hq, t_OB.to (V := updV (vp_V (zfs ξ μ a c)) k (zvm ξ v)) ⟨_, e1, q2, q3, t_set q4 hap hk _⟩ (fun j _ => vp_updV_set (by rw [zfs_len, g4]; exact hk) _ j)⟩ e3
    have h8 : (zws ξ n μ).set a (zad ξ a, .inr (c, (zfs ξ μ a c).set k (zvm ξ v))) = zws ξ n μ' := by
      rw [zfs_set (hv ξ) (ho ξ), ← zent_obj (isC_cl hc) g5]
      exact zws_set (hb ξ)
    rw [h8] at h9
    exact ⟨zW_size w h9 e2, S.put e2 e3 (hD.2 a _ he)⟩
  have hlay := hts _ (hin _ (u_in_lay hk))
  unfold u_lay at hlay
  cases hfl : (r.2.1 k).2.2.2 with
  | false =>
    rw [if_neg (by rw [hfl]; decide)] at hlay
    have h6 := u_store hfc hkC hkind hlay hi hpd (hn ξ) (hfit ξ)
    refine W.putK C.1.1 C.1.2.1 (f := f) ⟨C.1.2.2.2.2.1, hlink, ⟨_, _, _, hi⟩, hst⟩ (by rw [q2]; exact h6) q1 q3 (by rw [hsl]; exact k2_hasslot (q4 k hk)) rfl rfl hdg fun H1 e1 e2 e3 => ?_
    obtain ⟨w1, S1⟩ := fin H1 e1 e2 e3
    exact kk ξ hξ p e s m args below meth c0 H1 _ lsA C w1 S1 h
  | true =>
    rw [if_pos hfl] at hlay
    have hz : zFin c k = true := by unfold zFin; rw [hq]; exact hfl
    rcases hfin with hno | ⟨hnm, hdecl⟩
    · rw [hz] at hno; cases hno
    · have hcf : m.cls = cf := by
        obtain ⟨_, _, c', _, _, _, -, -, hf', -, -, -, hown2, -⟩ := Cond.laysFinal_spec hlay
        have e1 : c' = cf := by have := hi.symm.trans hf'; simp at this; exact this.1.symm
        rw [hdecl _ hq] at hown2
        rw [← e1]
        exact Option.some.inj (C.1.2.2.2.2.1.symm.trans hown2)
      have h6 := u_fits hfc hkC hkind (Or.inr hlay) hi hpd (hn ξ) (hfit ξ)
      refine W.putFinK C.1.1 C.1.2.1 C.1.2.2.2.2.1 hlink hi hst hcf (C.1.2.2.2.2.2.2.2.1.trans hnm) (by rw [q2]; exact h6) q1 q3 (by rw [hsl]; exact k2_hasslot (q4 k hk)) rfl rfl hdg fun H1 e1 e2 e3 => ?_
      obtain ⟨w1, S1⟩ := fin H1 e1 e2 e3
      exact kk ξ hξ p e s m args below meth c0 H1 _ lsA C w1 S1 h
theorem zpI_ent (ξ : ZX) (μ : ZMem) {a b k : Nat} {x : Int32} (h : b ≠ a) : zent ξ μ b = zent ξ (zpI μ a k x) b := zent_congr (fun j => by simp [zI, zpI, h]) (fun _ => rfl) (fun _ => rfl)
theorem zpR_ent (ξ : ZX) (μ : ZMem) {a b k x : Nat} (h : b ≠ a) : zent ξ μ b = zent ξ (zpR μ a k x) b := zent_congr (fun _ => rfl) (fun _ => rfl) (fun j => by simp [zR, zpR, h])
theorem zpL_ent (ξ : ZX) (μ : ZMem) {a b k : Nat} {x : Int64} (h : b ≠ a) : zent ξ μ b = zent ξ (zpL μ a k x) b := zent_congr (fun _ => rfl) (fun j => by simp [zL, zpL, h]) (fun _ => rfl)
theorem V_putI {a c k index : Nat} {x : Int32} (hdg : decode κ.2.1.2.1 pc = .ok (.putfield index, 3)) (hc : isC n c a = true) (hf : zF κ.2.1.1.cls index c k) (hr : zrf c k = false) (hfin : zFin c k = false) (hty : zty c k = .int) (e : μ' = zpI μ a k x) (kk : V κ fr (pc + 3) ls st n μ') : V κ fr pc ls (.int x :: .ref a :: st) n μ := by
  subst e
  exact zputf hdg hc hf (Or.inl hfin) hty (fun _ => vp_nar_int x) (fun _ => rfl) (fun ξ => by simp [zfv, hr, zI, zpI, zvm]) (fun ξ j hj => by simp [zfv, zI, zR, zpI, hj]) (fun ξ b hb => zpI_ent ξ μ hb) kk
theorem V_putZ {a c k index : Nat} {x : Int32} (hdg : decode κ.2.1.2.1 pc = .ok (.putfield index, 3)) (hc : isC n c a = true) (hf : zF κ.2.1.1.cls index c k) (hr : zrf c k = false) (hfin : zFin c k = false) (hty : zty c k = .boolean) (hn : narrow .boolean (.int x) = .int x) (hx : fits .boolean (.int x) = true) (e : μ' = zpI μ a k x) (kk : V κ fr (pc + 3) ls st n μ') : V κ fr pc ls (.int x :: .ref a :: st) n μ := by
  subst e
  exact zputf hdg hc hf (Or.inl hfin) hty (fun _ => hn) (fun _ => hx) (fun ξ => by simp [zfv, hr, zI, zpI, zvm]) (fun ξ j hj => by simp [zfv, zI, zR, zpI, hj]) (fun ξ b hb => zpI_ent ξ μ hb) kk
theorem V_putR {a c k index x : Nat} {ty : FieldType} (hdg : decode κ.2.1.2.1 pc = .ok (.putfield index, 3)) (hc : isC n c a = true) (hf : zF κ.2.1.1.cls index c k) (hr : zrf c k = true) (hfin : zFin c k = false ∨ (κ.2.1.1.name = "<init>" ∧ ∀ q, zcl[c]? = some q → (q.2.1 k).1 = κ.2.1.1.cls)) (hty : zty c k = ty) (hn : ∀ v : Nat, narrow ty (.ref v) = .ref v) (hx : ∀ v : Nat, fits ty (.ref v) = true) (e : μ' = zpR μ a k x) (kk : V κ fr (pc + 3) ls st n μ') : V κ fr pc ls (.ref x :: .ref a :: st) n μ := by
  subst e
  exact zputf hdg hc hf hfin hty (fun _ => hn _) (fun _ => hx _) (fun ξ => by simp [zfv, hr, zR, zpR, zvm, va_rf]) (fun ξ j hj => by simp [zfv, zI, zR, zpR, hj]) (fun ξ b hb => zpR_ent ξ μ hb) kk
-- arrays
theorem zTys {ξ : ZX} {s : State} (h : zE ξ s) : va_K (zD ξ) zcl (ztys ξ) s := h.1
theorem V_iald {a : Nat} {i : Int32} (hdg : decode κ.2.1.2.1 pc = .ok (.iaload, 1)) (hc : isC n 100 a = true) (hi : inb i a = true) (kk : V κ fr (pc + 1) ls (.int (zI μ a i.toNatClampNeg) :: st) n μ) : V κ fr pc ls (.int i :: .ref a :: st) n μ :=
  fun ξ hξ p e s m args below meth c H locs lsA C w S h => va_iald C.1.1 C.1.2.1 C.1.2.2.2.2.2.2.2.2.1 w.1 a 0 (by rw [zws_get (isC_lt hc), zent_int (isC_cl hc)]) rfl (inb_in hi) hdg (kk ξ hξ p e s m args below meth c H locs lsA C w S h)
theorem V_lald {a : Nat} {i : Int32} (hdg : decode κ.2.1.2.1 pc = .ok (.laload, 1)) (hc : isC n 101 a = true) (hi : inb i a = true) (kk : V κ fr (pc + 1) ls (.long (zL μ a i.toNatClampNeg) :: st) n μ) : V κ fr pc ls (.int i :: .ref a :: st) n μ :=
  fun ξ hξ p e s m args below meth c H locs lsA C w S h => va_lald C.1.1 C.1.2.1 C.1.2.2.2.2.2.2.2.2.1 w.1 a 1 (by rw [zws_get (isC_lt hc), zent_lng (isC_cl hc)]) rfl (inb_in hi) hdg (kk ξ hξ p e s m args below meth c H locs lsA C w S h)
theorem V_aald2 {a x : Nat} {i : Int32} (hdg : decode κ.2.1.2.1 pc = .ok (.aaload, 1)) (hc : isC n 102 a = true) (hi : inb i a = true) (hx : zR μ a i.toNatClampNeg = some x) (kk : V κ fr (pc + 1) ls (.ref x :: st) n μ) : V κ fr pc ls (.int i :: .ref a :: st) n μ :=
  fun ξ hξ p e s m args below meth c H locs lsA C w S h => va_aldq C.1.1 C.1.2.1 C.1.2.2.2.2.2.2.2.2.1 w.1 a 2 (by rw [zws_get (isC_lt hc), zent_ref (c := 2) (isC_cl hc) (by omega)]) rfl (inb_in hi) hdg (by rw [hx]; exact kk ξ hξ p e s m args below meth c H locs lsA C w S h)
theorem V_aald3 {a x : Nat} {i : Int32} (hdg : decode κ.2.1.2.1 pc = .ok (.aaload, 1)) (hc : isC n 103 a = true) (hi : inb i a = true) (hx : zR μ a i.toNatClampNeg = some x) (kk : V κ fr (pc + 1) ls (.ref x :: st) n μ) : V κ fr pc ls (.int i :: .ref a :: st) n μ :=
  fun ξ hξ p e s m args below meth c H locs lsA C w S h => va_aldq C.1.1 C.1.2.1 C.1.2.2.2.2.2.2.2.2.1 w.1 a 3 (by rw [zws_get (isC_lt hc), zent_ref (c := 3) (isC_cl hc) (by omega)]) rfl (inb_in hi) hdg (by rw [hx]; exact kk ξ hξ p e s m args below meth c H locs lsA C w S h)
theorem V_aald4 {a x : Nat} {i : Int32} (hdg : decode κ.2.1.2.1 pc = .ok (.aaload, 1)) (hc : isC n 104 a = true) (hi : inb i a = true) (hx : zR μ a i.toNatClampNeg = some x) (kk : V κ fr (pc + 1) ls (.ref x :: st) n μ) : V κ fr pc ls (.int i :: .ref a :: st) n μ :=
  fun ξ hξ p e s m args below meth c H locs lsA C w S h => va_aldq C.1.1 C.1.2.1 C.1.2.2.2.2.2.2.2.2.1 w.1 a 4 (by rw [zws_get (isC_lt hc), zent_ref (c := 4) (isC_cl hc) (by omega)]) rfl (inb_in hi) hdg (by rw [hx]; exact kk ξ hξ p e s m args below meth c H locs lsA C w S h)
theorem zarr {ξ : ZX} {s : State} {a : Nat} {e' : va_E} {H H1 : Heap} {locs : List Loc} {j : Nat} (w : zW ξ fr n μ H) (S : va_S (zA ξ) s.heap H locs) (ha : a < n) (he' : zent ξ μ' a = e') (hb : ∀ b, b ≠ a → zent ξ μ b = zent ξ μ' b) (h1 : va_at (zD ξ) zcl (zad ξ a, e') H1) (z : H1.size = H.size) (oq : ∀ q, q ≠ zad ξ a → H1[q]? = H[q]?) : zW ξ fr n μ' H1 ∧ va_S (zA ξ) s.heap H1 (locs ++ [⟨zad ξ a, j⟩]) := by
  have hD : va_D (zA ξ) (zws ξ n μ) := zWD w.2.2
  have he := zws_get (ξ := ξ) (μ := μ) ha
  have h9 := w.1.set hD he h1 oq
  rw [← he', zws_set hb] at h9
  exact ⟨zW_size w h9 z, S.put z oq (hD.2 a _ he)⟩
theorem V_iast {a : Nat} {i x : Int32} (hdg : decode κ.2.1.2.1 pc = .ok (.iastore, 1)) (hc : isC n 100 a = true) (hi : inb i a = true) (e : μ' = zpI μ a i.toNatClampNeg x) (kk : V κ fr (pc + 1) ls st n μ') : V κ fr pc ls (.int x :: .int i :: .ref a :: st) n μ := by
  subst e
  intro ξ hξ p e s m args below meth c H locs lsA C w S h
  have ha : (zws ξ n μ)[a]? = some (zad ξ a, .inl (zcA ξ 0, zsz a, .inl (zI μ a))) := by rw [zws_get (isC_lt hc), zent_int (isC_cl hc)]
  have hin := inb_in hi
  have ht : (ztys ξ)[0]? = some (zcA ξ 0, .int) := rfl
  refine W.iast C.1.1 C.1.2.1 (w.1 a _ ha) (((zTys C.1.2.2.2.2.2.2.2.2).2 0 _ ht).1 (zsz a) (fun j => .int (zI μ a j))) (fun q => by cases q) (by show ¬ (i < 0 ∨ (arrV _ _ _).slots.size ≤ _); rw [arrV_size]; exact hin) rfl rfl hdg fun H1 e z oq => ?_
  obtain ⟨w1, S1⟩ := zarr (μ' := zpI μ a i.toNatClampNeg x) (e' := .inl (zcA ξ 0, zsz a, .inl (zI (zpI μ a i.toNatClampNeg x) a))) (j := i.toNatClampNeg) w S (isC_lt hc) (zent_int (isC_cl hc)) (fun b hb => zpI_ent ξ μ hb) (by
    show H1[zad ξ a]? = some (vp_cell _ _)
    rw [e, vp_cell_i, vp_cell_i, arrV_store]
    congr 2
    funext q
    by_cases hq : q = i.toNatClampNeg
    · subst hq; simp [updV, zI, zpI]
    · simp [updV, zI, zpI, hq]) z oq
  exact kk ξ hξ p _ s m args below meth c H1 _ lsA C w1 S1 h
theorem V_last {a : Nat} {i : Int32} {x : Int64} (hdg : decode κ.2.1.2.1 pc = .ok (.lastore, 1)) (hc : isC n 101 a = true) (hi : inb i a = true) (e : μ' = zpL μ a i.toNatClampNeg x) (kk : V κ fr (pc + 1) ls st n μ') : V κ fr pc ls (.long x :: .int i :: .ref a :: st) n μ := by
  subst e
  intro ξ hξ p e s m args below meth c H locs lsA C w S h
  have ha : (zws ξ n μ)[a]? = some (zad ξ a, .inl (zcA ξ 1, zsz a, .inr (.inl (zL μ a)))) := by rw [zws_get (isC_lt hc), zent_lng (isC_cl hc)]
  have hin := inb_in hi
  have ht : (ztys ξ)[1]? = some (zcA ξ 1, .long) := rfl
  refine W.last C.1.1 C.1.2.1 (w.1 a _ ha) (((zTys C.1.2.2.2.2.2.2.2.2).2 1 _ ht).1 (zsz a) (fun j => .long (zL μ a j))) (fun q => by cases q) (by show ¬ (i < 0 ∨ (arrV _ _ _).slots.size ≤ _); rw [arrV_size]; exact hin) rfl rfl hdg fun H1 e z oq => ?_
  obtain ⟨w1, S1⟩ := zarr (μ' := zpL μ a i.toNatClampNeg x) (e' := .inl (zcA ξ 1, zsz a, .inr (.inl (zL (zpL μ a i.toNatClampNeg x) a)))) (j := i.toNatClampNeg) w S (isC_lt hc) (zent_lng (isC_cl hc)) (fun b hb => zpL_ent ξ μ hb) (by
    show H1[zad ξ a]? = some (vp_cell _ _)
    rw [e, vp_cell_l, vp_cell_l, arrV_store]
    congr 2
    funext q
    by_cases hq : q = i.toNatClampNeg
    · subst hq; simp [updV, zL, zpL]
    · simp [updV, zL, zpL, hq]) z oq
  exact kk ξ hξ p _ s m args below meth c H1 _ lsA C w1 S1 h
end
