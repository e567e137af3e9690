-- MAKING, CALLS, STATICS
def nwo (n c : Nat) : Bool := decide (n < 1000) && (zcls n == c)
def nwa (n c N : Nat) : Bool := decide (n < 1000) && (zcls n == c) && (zsz n == N)
def zrm (n n0 C S : Nat) : Bool := decide (n0 ≤ n) && decide (n - n0 ≤ C) && decide (zpre n - zpre n0 ≤ S)
theorem zrm_room {κ : ZK} {n n0 C S : Nat} (h : zrm n n0 C S = true) (h0 : κ.2.2.2.1 = n0) (h1 : κ.2.2.1.cells = C) (h2 : κ.2.2.1.slots = S) : zroom κ n := by
  unfold zrm at h
  simp only [Bool.and_eq_true, decide_eq_true_eq] at h
  unfold zroom
  rw [h0, h1, h2]
  exact ⟨h.1.1, h.1.2, h.2⟩
theorem zpre_mono {a b : Nat} (h : a ≤ b) : zpre a ≤ zpre b := by
  induction b with
  | zero =>
    rw [show a = 0 by omega]
    exact Nat.le_refl _
  | succ b ih =>
    rcases Nat.lt_or_ge b a with q | q
    · rw [show a = b + 1 by omega]
      exact Nat.le_refl _
    · exact Nat.le_trans (ih q) (Nat.le_add_right _ _)
theorem zmk_ent (ξ : ZX) (μ : ZMem) {a b : Nat} (h : b ≠ a) : zent ξ μ b = zent ξ (zmk μ a) b := zent_congr (fun j => by simp [zI, zmk, h]) (fun j => by simp [zL, zmk, h]) (fun j => by simp [zR, zmk, h])
theorem zws_push (ξ : ZX) (n : Nat) (μ : ZMem) : zws ξ (n + 1) (zmk μ n) = zws ξ n μ ++ [(zad ξ n, zent ξ (zmk μ n) n)] := by
  unfold zws
  rw [List.range_succ, List.map_append]
  congr 1
  apply List.map_congr_left
  intro b hb
  rw [zmk_ent ξ μ (a := n) (by have := List.mem_range.mp hb; omega)]
section
variable {κ : ZK} {fr : Bool} {pc n : Nat} {ls ls' : List (Nat × Value)} {st : List Value} {μ μ' : ZMem}
theorem zborn {ξ : ZX} {s : State} {H H1 : Heap} {locs : List Loc} (hb : zb ξ ≤ s.heap.size) (w : zW ξ true n μ H) (S : va_S (zA ξ) s.heap H locs) (hn : n < 1000) (h1 : va_at (zD ξ) zcl (H.size, zent ξ (zmk μ n) n) H1) (z : H1.size = H.size + 1) (o1 : ∀ q, q < H.size → H1[q]? = H[q]?) : zW ξ true (n + 1) (zmk μ n) H1 ∧ va_S (zA ξ) s.heap H1 locs := by
  have hz := w.2.1 rfl
  have hk : ∀ (k : Nat) (x : Nat × va_E), (zws ξ n μ)[k]? = some x → H1[x.1]? = H[x.1]? := fun k x hx => o1 x.1 ((w.1 k x hx).lt)
  refine ⟨⟨?_, fun _ => by rw [z, hz]; omega, by omega⟩, Nat.le_trans S.1 (by omega), fun x q1 q2 => (o1 x (Nat.lt_of_lt_of_le q1 S.1)).trans (S.2.1 x q1 q2), S.2.2⟩
  rw [zws_push]
  refine (w.1.kept hk).app (fun k x hx => ?_)
  have h0 : k < 1 := (List.getElem?_eq_some_iff.mp hx).1
  rw [show k = 0 by omega] at hx
  cases hx
  rw [show zad ξ n = H.size by rw [zad_lt hn, hz]]
  exact h1
theorem znext {n0 : Nat} (h0 : n0 ≤ n) {N : Nat} (hN : zslot n = N) : n + 1 - n0 = n - n0 + 1 ∧ zpre (n + 1) - zpre n0 = zpre n - zpre n0 + N := by
  have := zpre_mono h0
  have e : zpre (n + 1) = zpre n + zslot n := rfl
  rw [e, hN]
  omega
theorem V_new {c index : Nat} {q : vw_C} (hdg : decode κ.2.1.2.1 pc = .ok (.new index, 3)) (hq : zcl[c]? = some q) (hw : nwo n c = true) (hl : Cond.classLink κ.2.1.1.cls index q.1 ∈ zT) (hi : Cond.instantiable q.1 q.2.2 ∈ zT) (hini : Cond.initialized q.1 ∈ zT) (hd : ∀ j, j < q.2.2 → defaultValue (zty c j) = if zrf c j = true then .null else .int 0) (hr : zroom κ (n + 1)) (e : μ' = zmk μ n) (kk : V κ true (pc + 3) ls (.ref n :: st) (n + 1) μ') : V κ true pc ls st n μ := by
  subst e
  obtain ⟨g1, g2, g3, g4, g5⟩ := zcl_good hq
  unfold nwo at hw
  simp only [Bool.and_eq_true, decide_eq_true_eq, beq_iff_eq] at hw
  intro ξ hξ p e s m args below meth c0 H locs lsA C w S h
  have hts := C.1.2.2.2.2.2.1
  have hin : ∀ x ∈ u_ws q.1 q.2.1 q.2.2, x ∈ zwd κ.2.1 := fun x hx => List.mem_cons_of_mem _ (g1 x hx)
  have hK : va_K (zD ξ) zcl (ztys ξ) s := C.1.2.2.2.2.2.2.2.2.1
  have hKn := hK.1 c _ hq
  have hsl : zslot n = q.2.2 := by unfold zslot; rw [hw.2, if_pos g5, g4]
  obtain ⟨e1, e2⟩ := znext C.2.1 hsl
  have hc1 := hr.2.1
  have hs1 := hr.2.2
  rw [e1] at hc1
  rw [e2] at hs1
  refine W.newcK C.1.1 C.1.2.1 C.1.2.2.2.2.1 (hts _ (List.mem_cons_of_mem _ hl)) (hts _ (List.mem_cons_of_mem _ hi)) (hts _ (List.mem_cons_of_mem _ hini)) rfl hdg hc1 hs1 hKn.2.1 rfl fun H1 kC hkC f1 z1 o1 => ?_
  obtain ⟨w1, S1⟩ := zborn C.1.2.2.2.2.2.2.2.2.2.2.1 w S hw.1 (by
    rw [zent_obj hw.2 g5]
    refine ⟨q, hq, (u_born (zty c) hts hin hKn hkC f1 g2).to fun j hj => ?_⟩
    rw [hd j hj]
    have hx := zfs_get (ξ := ξ) (μ := zmk μ n) (a := n) (c := c) (k := j) (by rw [g4]; exact hj)
    unfold vp_V
    rw [List.getD_eq_getElem?_getD, hx]
    simp only [zfv, zI, zR, zmk]
    split <;> simp [va_rf]) z1 o1
  have h9 := kk ξ hξ p e s m args below meth c0 H1 locs lsA ⟨C.1, hr⟩ w1 S1 h
  rw [e1, e2] at h9
  have e3 : zvm ξ (.ref n) = .ref H.size := by
    show Value.ref (zad ξ n) = _
    rw [zad_lt hw.1, w.2.1 rfl]
  rw [List.map_cons, e3] at h9
  exact h9
theorem zsz_le (a : Nat) : zsz a ≤ 1280 := by
  unfold zsz
  split
  · rename_i q hq
    have h1 : ∀ q ∈ zSH, q.2 ≤ 1280 := by decide +kernel
    exact h1 _ (List.mem_of_getElem? hq)
  · omega
theorem nwa_of {c N : Nat} (h : nwa n c N = true) : n < 1000 ∧ zcls n = c ∧ zsz n = N := by
  unfold nwa at h
  simp only [Bool.and_eq_true, decide_eq_true_eq, beq_iff_eq] at h
  exact ⟨h.1.1, h.1.2, h.2⟩
theorem V_newi {x : Int32} {N : Nat} (hdg : decode κ.2.1.2.1 pc = .ok (.newarray .int, 2)) (hN : x.toNatClampNeg = N) (h0 : ¬ x < 0) (hw : nwa n 100 N = true) (hwd : Cond.arrayClass (newarray.typeOf .int) ∈ zT) (hr : zroom κ (n + 1)) (e : μ' = zmk μ n) (kk : V κ true (pc + 2) ls (.ref n :: st) (n + 1) μ') : V κ true pc ls (.int x :: st) n μ := by
  subst e
  obtain ⟨hn, hc, hs⟩ := nwa_of hw
  intro ξ hξ p e s m args below meth c0 H locs lsA C w S h
  have hK : va_K (zD ξ) zcl (ztys ξ) s := C.1.2.2.2.2.2.2.2.2.1
  have hsl : zslot n = N := by unfold zslot; rw [hc, if_neg (by omega)]; exact hs
  obtain ⟨e1, e2⟩ := znext C.2.1 hsl
  have hc1 := hr.2.1
  have hs1 := hr.2.2
  rw [e1] at hc1
  rw [e2] at hs1
  refine va_newaK C.1.1 C.1.2.1 (C.1.2.2.2.2.2.1 _ (List.mem_cons_of_mem _ hwd)) rfl hdg rfl h0 hN (by have := zsz_le n; rw [hs] at this; show N * 4 ≤ _; omega) hc1 hs1 rfl fun H1 cA f1 z1 o1 hAr hNm => ?_
  have hA0 : cA = zcA ξ 0 := by
    have h7 : s.vm.findClass ("[" ++ FieldType.int.toString) = some (zcA ξ 0) := (hK.2 0 (zcA ξ 0, .int) rfl).2
    exact Option.some.inj (hNm.symm.trans h7)
  obtain ⟨w1, S1⟩ := zborn C.1.2.2.2.2.2.2.2.2.2.2.1 w S hn (by
    rw [zent_int hc]
    show H1[H.size]? = some (vp_cell _ _)
    rw [f1, vp_cell_i, hs, hA0]
    simp [zI, zmk, defaultValue, newarray.typeOf]) z1 o1
  have h9 := kk ξ hξ p e s m args below meth c0 H1 locs lsA ⟨C.1, hr⟩ w1 S1 h
  rw [e1, e2] at h9
  have e3 : zvm ξ (.ref n) = .ref H.size := by
    show Value.ref (zad ξ n) = _
    rw [zad_lt hn, w.2.1 rfl]
  rw [List.map_cons, e3] at h9
  exact h9
theorem V_newl {x : Int32} {N : Nat} (hdg : decode κ.2.1.2.1 pc = .ok (.newarray .long, 2)) (hN : x.toNatClampNeg = N) (h0 : ¬ x < 0) (hw : nwa n 101 N = true) (hwd : Cond.arrayClass (newarray.typeOf .long) ∈ zT) (hr : zroom κ (n + 1)) (e : μ' = zmk μ n) (kk : V κ true (pc + 2) ls (.ref n :: st) (n + 1) μ') : V κ true pc ls (.int x :: st) n μ := by
  subst e
  obtain ⟨hn, hc, hs⟩ := nwa_of hw
  intro ξ hξ p e s m args below meth c0 H locs lsA C w S h
  have hK : va_K (zD ξ) zcl (ztys ξ) s := C.1.2.2.2.2.2.2.2.2.1
  have hsl : zslot n = N := by unfold zslot; rw [hc, if_neg (by omega)]; exact hs
  obtain ⟨e1, e2⟩ := znext C.2.1 hsl
  have hc1 := hr.2.1
  have hs1 := hr.2.2
  rw [e1] at hc1
  rw [e2] at hs1
  refine va_newaK C.1.1 C.1.2.1 (C.1.2.2.2.2.2.1 _ (List.mem_cons_of_mem _ hwd)) rfl hdg rfl h0 hN (by have := zsz_le n; rw [hs] at this; show N * 8 ≤ _; omega) hc1 hs1 rfl fun H1 cA f1 z1 o1 hAr hNm => ?_
  have hA0 : cA = zcA ξ 1 := by
    have h7 : s.vm.findClass ("[" ++ FieldType.long.toString) = some (zcA ξ 1) := (hK.2 1 (zcA ξ 1, .long) rfl).2
    exact Option.some.inj (hNm.symm.trans h7)
  obtain ⟨w1, S1⟩ := zborn C.1.2.2.2.2.2.2.2.2.2.2.1 w S hn (by
    rw [zent_lng hc]
    show H1[H.size]? = some (vp_cell _ _)
    rw [f1, vp_cell_l, hs, hA0]
    simp [zL, zmk, defaultValue, newarray.typeOf]) z1 o1
  have h9 := kk ξ hξ p e s m args below meth c0 H1 locs lsA ⟨C.1, hr⟩ w1 S1 h
  rw [e1, e2] at h9
  have e3 : zvm ξ (.ref n) = .ref H.size := by
    show Value.ref (zad ξ n) = _
    rw [zad_lt hn, w.2.1 rfl]
  rw [List.map_cons, e3] at h9
  exact h9
/-- rows of references: of Person (2), Vow (3), Shelf (4) -/
theorem V_newr {x : Int32} {N index : Nat} {C0 : String} (t : Nat) (ht2 : 2 ≤ t) (ht : ∀ ξ, (ztys ξ)[t]? = some (zcA ξ t, .object C0)) (hao : ∀ ξ U, zE ξ U → va_AO C0 U) (hdg : decode κ.2.1.2.1 pc = .ok (.anewarray index, 3)) (hN : x.toNatClampNeg = N) (h0 : ¬ x < 0) (hw : nwa n (100 + t) N = true) (hl : Cond.classLink κ.2.1.1.cls index C0 ∈ zT) (hr : zroom κ (n + 1)) (e : μ' = zmk μ n) (kk : V κ true (pc + 3) ls (.ref n :: st) (n + 1) μ') : V κ true pc ls (.int x :: st) n μ := by
  subst e
  subst hN
  obtain ⟨hn, hc, hs⟩ := nwa_of hw
  intro ξ hξ p e s m args below meth c0 H locs lsA C w S h
  have hK : va_K (zD ξ) zcl (ztys ξ) s := C.1.2.2.2.2.2.2.2.2.1
  have hsl : zslot n = x.toNatClampNeg := by unfold zslot; rw [hc, if_neg (by omega)]; exact hs
  obtain ⟨e1, e2⟩ := znext C.2.1 hsl
  have hc1 := hr.2.1
  have hs1 := hr.2.2
  rw [e1] at hc1
  rw [e2] at hs1
  refine W.anew C.1.1 C.1.2.1 C.1.2.2.2.2.1 (C.1.2.2.2.2.2.1 _ (List.mem_cons_of_mem _ hl)) (va_AO.use (hao ξ s C.1.2.2.2.2.2.2.2.2)) rfl hdg rfl h0 (by have := zsz_le n; rw [hs] at this; omega) hc1 hs1 fun cA kA comp f1 f2 f3 f4 => ?_
  have hA0 : cA = zcA ξ t := by
    obtain ⟨kA', comp', -, -, -, h7⟩ := (hK.2 t (zcA ξ t, .object C0) (ht ξ)).2
    exact Option.some.inj (f1.symm.trans h7)
  generalize hH1 : H.push ({ cls := cA, slots := Array.replicate x.toNatClampNeg .null, vm := .none } : Cell) = H1
  have z1 : H1.size = H.size + 1 := by rw [← hH1, Array.size_push]
  have g1 : H1[H.size]? = some (arrV cA x.toNatClampNeg (fun _ => .null)) := by rw [← hH1, Array.getElem?_push_size, ← arrV_new]
  have o1 : ∀ q : Nat, q < H.size → H1[q]? = H[q]? := fun q hq => by rw [← hH1, Array.getElem?_push, if_neg (Nat.ne_of_lt hq)]
  obtain ⟨w1, S1⟩ := zborn C.1.2.2.2.2.2.2.2.2.2.2.1 w S hn (by
    rw [zent_ref hc ht2]
    show H1[H.size]? = some (vp_cell _ _)
    rw [g1, vp_cell_q, hs, hA0]
    simp [zR, zmk, va_rf]) z1 o1
  have h9 := kk ξ hξ p e s m args below meth c0 H1 locs lsA ⟨C.1, hr⟩ w1 S1 h
  rw [e1, e2] at h9
  have e3 : zvm ξ (.ref n) = .ref H.size := by
    show Value.ref (zad ξ n) = _
    rw [zad_lt hn, w.2.1 rfl]
  rw [List.map_cons, e3] at h9
  exact h9
end
