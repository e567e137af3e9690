-- THE LOGICAL MEMORY: addresses 0, 1, .. in the order of making; ints, longs, references apart
abbrev ZMem : Type := (Nat → Nat → Int32) × (Nat → Nat → Int64) × (Nat → Nat → Option Nat)
def zI (μ : ZMem) (a k : Nat) : Int32 := μ.1 a k
def zL (μ : ZMem) (a k : Nat) : Int64 := μ.2.1 a k
def zR (μ : ZMem) (a k : Nat) : Option Nat := μ.2.2 a k
def zpI (μ : ZMem) (a k : Nat) (x : Int32) : ZMem := (fun b j => if b = a ∧ j = k then x else μ.1 b j, μ.2)
def zpL (μ : ZMem) (a k : Nat) (x : Int64) : ZMem := (μ.1, fun b j => if b = a ∧ j = k then x else μ.2.1 b j, μ.2.2)
def zpR (μ : ZMem) (a k : Nat) (x : Nat) : ZMem := (μ.1, μ.2.1, fun b j => if b = a ∧ j = k then some x else μ.2.2 b j)
def zmk (μ : ZMem) (a : Nat) : ZMem := (fun b j => if b = a then 0 else μ.1 b j, fun b j => if b = a then 0 else μ.2.1 b j, fun b j => if b = a then none else μ.2.2 b j)
def zcp (μ : ZMem) (a b i j n : Nat) : ZMem := (μ.1, fun x k => if x = b then va_cpy (μ.2.1 a) (μ.2.1 b) i j n k else μ.2.1 x k, μ.2.2)
/-- what lies at each address: (class, -) or (100 ints, 101 longs, 102 Person, 103 Vow, 104 Shelf; length) -/
def zSH : List (Nat × Nat) := [(6, 0), (104, 8), (3, 0), (101, 160), (3, 0), (101, 160), (3, 0), (101, 160), (3, 0), (101, 160), (3, 0), (101, 160), (3, 0), (101, 160), (3, 0), (101, 160), (3, 0), (101, 160), (4, 0), (102, 7), (1, 0), (1, 0), (1, 0), (1, 0), (1, 0), (1, 0), (1, 0), (4, 0), (102, 7), (1, 0), (1, 0), (1, 0), (1, 0), (1, 0), (1, 0), (1, 0), (4, 0), (102, 7), (1, 0), (1, 0), (1, 0), (1, 0), (1, 0), (1, 0), (1, 0), (2, 0), (103, 5), (4, 0), (102, 7), (1, 0), (1, 0), (1, 0), (1, 0), (1, 0), (1, 0), (1, 0), (4, 0), (102, 7), (1, 0), (1, 0), (1, 0), (1, 0), (1, 0), (1, 0), (1, 0), (4, 0), (102, 7), (1, 0), (1, 0), (1, 0), (1, 0), (1, 0), (1, 0), (1, 0), (4, 0), (102, 7), (1, 0), (1, 0), (1, 0), (1, 0), (1, 0), (1, 0), (1, 0), (4, 0), (102, 7), (1, 0), (1, 0), (1, 0), (1, 0), (1, 0), (1, 0), (1, 0), (100, 4), (100, 4), (5, 0), (100, 160), (4, 0), (102, 7), (1, 0), (1, 0), (1, 0), (1, 0), (1, 0), (1, 0), (1, 0), (0, 0), (100, 20), (100, 8), (7, 0), (100, 8), (100, 7), (100, 7), (100, 7), (100, 7), (100, 7), (100, 8), (100, 8), (100, 8), (100, 8), (101, 1280), (101, 160), (100, 47), (100, 7), (100, 4), (100, 4), (100, 45), (100, 45), (100, 45), (100, 4), (100, 4), (100, 20)]
def zcls (a : Nat) : Nat := match zSH[a]? with
  | some q => q.1
  | none => 999
def zsz (a : Nat) : Nat := match zSH[a]? with
  | some q => q.2
  | none => 0
def isC (n c a : Nat) : Bool := decide (a < n) && (zcls a == c)
def inb (i : Int32) (a : Nat) : Bool := !decide (i < 0) && decide (i.toNatClampNeg < zsz a)
def zcl : List vw_C := [(RX0, TX0, 5), (RX1, TX1, 5), (RX2, TX2, 4), (RX3, TX3, 5), (RX4, TX4, 9), (RX5, TX5, 5), (RX6, TX6, 10), (RX7, TX7, 42)]
def znf (c : Nat) : Nat := match zcl[c]? with
  | some q => q.2.2
  | none => 0
/-- which fields hold references -/
def zrf (c k : Nat) : Bool := match c with
  | 0 => [0].contains k
  | 2 => [0, 1, 2].contains k
  | 3 => [4].contains k
  | 4 => [0].contains k
  | 5 => [0, 2].contains k
  | 6 => [0, 1, 2, 3, 4, 5, 6, 7].contains k
  | 7 => [9, 10, 11, 12, 13, 14, 15, 16, 17, 18, 19, 20, 21, 22, 23, 24, 30, 31, 32, 34, 35, 39].contains k
  | _ => false
abbrev ZX : Type := va_G × (Nat → ClassId) × Nat × (Nat → Nat) × (Nat → Int32) × Nat
def zD (ξ : ZX) : va_G := ξ.1
def zcA (ξ : ZX) : Nat → ClassId := ξ.2.1
def zb (ξ : ZX) : Nat := ξ.2.2.1
def zsa (ξ : ZX) : Nat → Nat := ξ.2.2.2.1
def zxs (ξ : ZX) : Nat → Int32 := ξ.2.2.2.2.1
def zLn (ξ : ZX) : Nat := ξ.2.2.2.2.2
def zad (ξ : ZX) (k : Nat) : Nat := if k < 1000 then zb ξ + k else zsa ξ (k - 1000)
def zvm (ξ : ZX) (v : Value) : Value := match v with
  | .ref k => .ref (zad ξ k)
  | w => w
def zq (ξ : ZX) (q : Nat × Value) : Nat × Value := (q.1, zvm ξ q.2)
def zfv (ξ : ZX) (μ : ZMem) (a c k : Nat) : Value := if zrf c k = true then va_rf ((zR μ a k).map (zad ξ)) else .int (zI μ a k)
def zfs (ξ : ZX) (μ : ZMem) (a c : Nat) : List Value := (List.range (znf c)).map (zfv ξ μ a c)
def zent (ξ : ZX) (μ : ZMem) (a : Nat) : va_E :=
  if zcls a < 100 then .inr (zcls a, zfs ξ μ a (zcls a))
  else if zcls a = 100 then .inl (zcA ξ 0, zsz a, .inl (zI μ a))
  else if zcls a = 101 then .inl (zcA ξ 1, zsz a, .inr (.inl (zL μ a)))
  else .inl (zcA ξ (zcls a - 100), zsz a, .inr (.inr (.inr (.inr (fun k => (zR μ a k).map (zad ξ))))))
def zws (ξ : ZX) (n : Nat) (μ : ZMem) : va_W := (List.range n).map fun a => (zad ξ a, zent ξ μ a)
def ztys (ξ : ZX) : List (ClassId × FieldType) := [(zcA ξ 0, .int), (zcA ξ 1, .long), (zcA ξ 2, .object RX1), (zcA ξ 3, .object RX4), (zcA ξ 4, .object RX3)]
def zA (ξ : ZX) : Nat → Prop := fun q => zb ξ ≤ q
def zW (ξ : ZX) (fr : Bool) (n : Nat) (μ : ZMem) (H : Heap) : Prop := va_P (zD ξ) zcl (zws ξ n μ) H ∧ (fr = true → H.size = zb ξ + n) ∧ n ≤ 1000
-- the constants that lie in older cells
def zKA (j : Nat) : Int32 := ([-1, 0, 0, 1, 0, 2, 4] : List Int32).getD j 0
def zBO (j : Nat) : Int32 := ([10, 11, 12, 20, 0, 0, 0, 30, 0, 40, 0, 0, 51, 0, 50, 0, 0, 60, 70, 71, 0] : List Int32).getD j 0
def zNM : List (String × Nat × MethodName × String) := [(RX1, 40, yX6_upward, RX6), (RX5, 139, yX6_isIn, RX6), (RX4, 51, yX6_isIn, RX6), (RX2, 43, yX6_isIn, RX6), (RX0, 59, yX6_isKind, RX6), (RX0, 34, yX6_isIn, RX6), (RX0, 51, yX6_kindAbove, RX6)]
def zNest (U : State) : Prop := (∀ q ∈ zNM, va_Nw (.methodLinkNest q.1 q.2.1 q.2.2.1 q.2.2.2) U) ∧ va_Nw (.fieldLinkNest RX0 63 RX6 "BODIES" "[I" RX6) U
def zLen : List Nat := [6, 6, 3, 5, 4, 6, 4, 0]
def zByt : List (List Int32) := [[112, 101, 114, 115, 111, 110], [119, 101, 105, 103, 104, 116], [119, 97, 121], [98, 101, 97, 114, 115], [108, 105, 101, 115], [99, 111, 117, 110, 116, 115], [102, 114, 101, 101], []]
def zStx : List (Nat × String) := [(121, "person"), (123, "weight"), (124, "way"), (125, "bears"), (127, "lies"), (129, "counts"), (131, "free"), (133, "")]
def zStr (ξ : ZX) (U : State) : Prop := (∀ i : Nat, i < 8 → vk_R RX5 ((zStx.getD i (0, "")).1) ((zStx.getD i (0, "")).2) (zsa ξ (10 + i)) U) ∧ vk_S 8 zLen zByt (fun i => zsa ξ (10 + i)) (fun i => zsa ξ (30 + i)) (zA ξ) U U.heap ∧ va_Z RJ0 "COMPACT_STRINGS" "Z" (.int 1) (zA ξ) U U.heap ∧ (va_Z RJ3 "SIOOBE_FORMATTER" "Ljava/util/function/BiFunction;" .null (zA ξ) U U.heap ∨ va_Z RJ3 "SIOOBE_FORMATTER" "Ljava/util/function/BiFunction;" (.ref (zsa ξ 3)) (zA ξ) U U.heap)
def zE (ξ : ZX) (U : State) : Prop := va_K (zD ξ) zcl (ztys ξ) U ∧ (va_AO RX1 U ∧ va_AO RX4 U ∧ va_AO RX3 U) ∧ zb ξ ≤ U.heap.size ∧
  (va_Z RX6 "KIND_ABOVE" "[I" (.ref (zsa ξ 1)) (zA ξ) U U.heap ∧ va_T .int (zsa ξ 1) 7 (fun j => .int (zKA j)) (zA ξ) U U.heap) ∧
  (va_Z RX6 "BODIES" "[I" (.ref (zsa ξ 2)) (zA ξ) U U.heap ∧ va_T .int (zsa ξ 2) 21 (fun j => .int (zBO j)) (zA ξ) U U.heap) ∧
  (va_X (zsa ξ 0) (zLn ξ) (zxs ξ) U U.heap ∧ zsa ξ 0 < zb ξ ∧ zLn ξ ≤ 3072) ∧ zNest U ∧ zStr ξ U
-- THE JUDGEMENT: a method = (name, bytes, locals, answer); a frame = (launch, method, room, what it ends with)
abbrev ZM : Type := MethodName × ByteArray × Nat × Option FieldType
abbrev ZK : Type := Launch × ZM × Room × Nat × (Bool × Nat × ZMem × Option Value) × (ZX → Prop)
def zT : List Cond := lw_tbl.filter goodWord
def zwd (M : ZM) : List Cond := .code M.1 M.2.1 M.2.2.1 M.2.2.2 :: zT
def zPc (ξ : ZX) (av : List Value) (fr : Bool) (n : Nat) (μ : ZMem) : Array Value → State → Prop := va_Pc (av.map (zvm ξ)) (fun U => zW ξ fr n μ U.heap ∧ zE ξ U)
def zQc (ξ : ZX) (z : Bool × Nat × ZMem × Option Value) : Array Value → State → Outcome → State → Prop := fun _ st o t => o = .returned (z.2.2.2.map (zvm ξ)) ∧ zW ξ z.1 z.2.1 z.2.2.1 t.heap ∧ va_F (zA ξ) st t
def ZFn (l : Launch) (M : ZM) (R : Room) (av : List Value) (fr : Bool) (n : Nat) (μ : ZMem) (z : Bool × Nat × ZMem × Option Value) : Prop :=
  ∀ ξ : ZX, Met l M.1 (zwd M) R (zPc ξ av fr n μ) (zQc ξ z) R.cells R.slots (zA ξ)
def zC (κ : ZK) (ξ : ZX) (p : Program) (s : State) (m : MethodId) (args : Array Value) (meth : Method) (c : Code) : Prop :=
  p.tables.exec = Jvm.exec ∧ c.code = κ.2.1.2.1 ∧ meth.sig.returnType = κ.2.1.2.2.2 ∧ c.maxLocals = κ.2.1.2.2.1 ∧ s.vm.findClass κ.2.1.1.cls = some m.cls ∧ (∀ w ∈ zwd κ.2.1, w.before args s = true) ∧ meth.locks = false ∧ meth.name = κ.2.1.1.name ∧ zE ξ s
def zslot (a : Nat) : Nat := if zcls a < 100 then znf (zcls a) else zsz a
def zpre : Nat → Nat
  | 0 => 0
  | a + 1 => zpre a + zslot a
def zroom (κ : ZK) (n : Nat) : Prop := κ.2.2.2.1 ≤ n ∧ n - κ.2.2.2.1 ≤ κ.2.2.1.cells ∧ zpre n - zpre κ.2.2.2.1 ≤ κ.2.2.1.slots
def V (κ : ZK) (fr : Bool) (pc : Nat) (ls : List (Nat × Value)) (st : List Value) (n : Nat) (μ : ZMem) : Prop :=
  ∀ (ξ : ZX) (_ : κ.2.2.2.2.2 ξ) (p : Program) (e : Env) (s : State) (m : MethodId) (args : Array Value) (below : List Frame) (meth : Method) (c : Code) (H : Heap) (locs : List Loc) (lsA : Array Slot),
    (zC κ ξ p s m args meth c ∧ zroom κ n) → zW ξ fr n μ H → va_S (zA ξ) s.heap H locs → lv_has lsA κ.2.1.2.2.1 (ls.map (zq ξ)) →
    W p κ.1 e κ.2.2.1 s m args below meth c H locs (n - κ.2.2.2.1) (zpre n - zpre κ.2.2.2.1) (MQ below (zQc ξ κ.2.2.2.2.1) args s κ.2.2.1.cells κ.2.2.1.slots (zA ξ)) (F0 m pc lsA (st.map (zvm ξ)))
def zany : ZX → Prop := fun _ => True
-- what a function says
def chk {α : Type} (b : Bool) (x : Option α) : Option α := if b = true then x else none
def bd1 {α β : Type} (x : Option α) (f : α → Option β) : Option β := match x with
  | some a => f a
  | none => none
def bd2 {α β γ : Type} (x : Option (α × β)) (f : α → β → Option γ) : Option γ := match x with
  | some q => f q.1 q.2
  | none => none
def lt {α β : Type} (x : α) (f : α → Option β) : Option β := f x
theorem chk_some {α : Type} {b : Bool} {x : Option α} {r : α} (h : chk b x = some r) : b = true ∧ x = some r := by
  unfold chk at h
  split at h
  · exact ⟨by assumption, h⟩
  · cases h
theorem bd1_some {α β : Type} {x : Option α} {f : α → Option β} {r : β} (h : bd1 x f = some r) : ∃ a, x = some a ∧ f a = some r := by
  cases x with
  | none => cases h
  | some a => exact ⟨a, rfl, h⟩
theorem bd2_some {α β γ : Type} {x : Option (α × β)} {f : α → β → Option γ} {r : γ} (h : bd2 x f = some r) : ∃ a b, x = some (a, b) ∧ f a b = some r := by
  cases x with
  | none => cases h
  | some a => exact ⟨a.1, a.2, rfl, h⟩
theorem lt_some {α β : Type} {x : α} {f : α → Option β} {r : β} (h : lt x f = some r) : ∃ a, a = x ∧ f a = some r := ⟨x, rfl, h⟩
theorem ite_t {α : Type} {c : Prop} {i : Decidable c} {x y : Option α} {r : α} (h : (if c then x else y) = some r) (hc : c) : x = some r := by rw [if_pos hc] at h; exact h
theorem ite_f {α : Type} {c : Prop} {i : Decidable c} {x y : Option α} {r : α} (h : (if c then x else y) = some r) (hc : ¬ c) : y = some r := by rw [if_neg hc] at h; exact h
/-- a reference out of a cell, of the class that is looked for -/
def zRc (n c : Nat) (μ : ZMem) (a k : Nat) : Option Nat := match zR μ a k with
  | some x => if isC n c x = true then some x else none
  | none => none
theorem zRc_some {n c : Nat} {μ : ZMem} {a k x : Nat} (h : zRc n c μ a k = some x) : zR μ a k = some x ∧ isC n c x = true := by
  unfold zRc at h
  split at h
  · split at h
    · cases h
      exact ⟨by assumption, by assumption⟩
    · cases h
  · cases h
theorem zdk {cc : ByteArray} {tb : List (Nat × Instr × Nat)} (h : ∀ q ∈ tb, decode cc q.1 = .ok (q.2.1, q.2.2)) (i : Nat) {pc len : Nat} {op : Instr} (hi : tb[i]? = some (pc, op, len)) : decode cc pc = .ok (op, len) := h (pc, op, len) (List.mem_of_getElem? hi)
theorem zin {i : Nat} {w : Cond} (h : tables_1[i]? = some w) (hg : goodWord w = true) : w ∈ zT := List.mem_filter.mpr ⟨List.mem_append_right _ (List.mem_of_getElem? h), hg⟩
theorem zinP {i : Nat} {q : MethodName × Nat} (h : lw_privs[i]? = some q) (hg : goodWord (Cond.selects q.1.cls q.1 q.1) = true) : Cond.selects q.1.cls q.1 q.1 ∈ zT := List.mem_filter.mpr ⟨List.mem_append_left _ (List.mem_map.mpr ⟨q, List.mem_of_getElem? h, rfl⟩), hg⟩
theorem isC_lt {n c a : Nat} (h : isC n c a = true) : a < n := by
  unfold isC at h
  simp only [Bool.and_eq_true, decide_eq_true_eq] at h
  exact h.1
theorem isC_cl {n c a : Nat} (h : isC n c a = true) : zcls a = c := by
  unfold isC at h
  simp only [Bool.and_eq_true, decide_eq_true_eq, beq_iff_eq] at h
  exact h.2
theorem inb_in {i : Int32} {a : Nat} (h : inb i a = true) : vp_in i (zsz a) := by
  unfold inb at h
  simp only [Bool.and_eq_true, Bool.not_eq_true', decide_eq_false_iff_not, decide_eq_true_eq] at h
  rintro (q | q)
  · exact h.1 q
  · omega
-- THE WORLD
theorem zad_lt {ξ : ZX} {k : Nat} (h : k < 1000) : zad ξ k = zb ξ + k := by simp [zad, h]
theorem zws_get {ξ : ZX} {n : Nat} {μ : ZMem} {a : Nat} (h : a < n) : (zws ξ n μ)[a]? = some (zad ξ a, zent ξ μ a) := by
  simp [zws, List.getElem?_map, List.getElem?_range h]
theorem zws_of {ξ : ZX} {n : Nat} {μ : ZMem} {k : Nat} {q : Nat × va_E} (h : (zws ξ n μ)[k]? = some q) : k < n ∧ q = (zad ξ k, zent ξ μ k) := by
  have hk : k < n := by
    have := (List.getElem?_eq_some_iff.mp h).1
    simpa [zws] using this
  rw [zws_get hk] at h
  exact ⟨hk, (Option.some.inj h).symm⟩
theorem zws_len (ξ : ZX) (n : Nat) (μ : ZMem) : (zws ξ n μ).length = n := by simp [zws]
theorem zWD {ξ : ZX} {n : Nat} {μ : ZMem} (hn : n ≤ 1000) : va_D (zA ξ) (zws ξ n μ) := by
  refine ⟨fun i j p q hi hj hpq => ?_, fun k q hk => ?_⟩
  · obtain ⟨h1, rfl⟩ := zws_of hi
    obtain ⟨h2, rfl⟩ := zws_of hj
    dsimp only at hpq
    rw [zad_lt (by omega), zad_lt (by omega)] at hpq
    omega
  · obtain ⟨h1, rfl⟩ := zws_of hk
    show zb ξ ≤ zad ξ k
    rw [zad_lt (by omega)]
    omega
theorem zws_set {ξ : ZX} {n : Nat} {μ μ' : ZMem} {a : Nat} (h : ∀ b, b ≠ a → zent ξ μ b = zent ξ μ' b) : (zws ξ n μ).set a (zad ξ a, zent ξ μ' a) = zws ξ n μ' := by
  apply List.ext_getElem?
  intro i
  by_cases hi : i < n
  · by_cases hia : i = a
    · subst hia
      rw [List.getElem?_set_self (by rw [zws_len]; exact hi), zws_get hi]
    · rw [List.getElem?_set_ne (Ne.symm hia), zws_get hi, zws_get hi, h i hia]
  · rw [List.getElem?_eq_none (by rw [List.length_set, zws_len]; omega), List.getElem?_eq_none (by rw [zws_len]; omega)]
theorem zent_congr {ξ : ZX} {μ μ' : ZMem} {b : Nat} (h1 : ∀ k, zI μ b k = zI μ' b k) (h2 : ∀ k, zL μ b k = zL μ' b k) (h3 : ∀ k, zR μ b k = zR μ' b k) : zent ξ μ b = zent ξ μ' b := by
  have e1 : zI μ b = zI μ' b := funext h1
  have e2 : zL μ b = zL μ' b := funext h2
  have e3 : (fun k => (zR μ b k).map (zad ξ)) = (fun k => (zR μ' b k).map (zad ξ)) := funext fun k => by rw [h3 k]
  have e4 : ∀ c, zfv ξ μ b c = zfv ξ μ' b c := fun c => funext fun k => by simp only [zfv, h1 k, h3 k]
  unfold zent zfs
  rw [e1, e2, e3, e4]
theorem zent_obj {ξ : ZX} {μ : ZMem} {a c : Nat} (h : zcls a = c) (hc : c < 100) : zent ξ μ a = .inr (c, zfs ξ μ a c) := by
  unfold zent
  rw [h, if_pos hc]
theorem zent_int {ξ : ZX} {μ : ZMem} {a : Nat} (h : zcls a = 100) : zent ξ μ a = .inl (zcA ξ 0, zsz a, .inl (zI μ a)) := by
  unfold zent
  rw [h]
  rfl
theorem zent_lng {ξ : ZX} {μ : ZMem} {a : Nat} (h : zcls a = 101) : zent ξ μ a = .inl (zcA ξ 1, zsz a, .inr (.inl (zL μ a))) := by
  unfold zent
  rw [h]
  rfl
theorem zent_ref {ξ : ZX} {μ : ZMem} {a c : Nat} (h : zcls a = 100 + c) (hc : 2 ≤ c) : zent ξ μ a = .inl (zcA ξ c, zsz a, .inr (.inr (.inr (.inr (fun k => (zR μ a k).map (zad ξ)))))) := by
  unfold zent
  rw [h, if_neg (by omega), if_neg (by omega), if_neg (by omega), show 100 + c - 100 = c by omega]
theorem zfs_get {ξ : ZX} {μ : ZMem} {a c k : Nat} (h : k < znf c) : (zfs ξ μ a c)[k]? = some (zfv ξ μ a c k) := by
  simp [zfs, List.getElem?_map, List.getElem?_range h]
theorem zfs_set {ξ : ZX} {μ μ' : ZMem} {a c k : Nat} {v : Value} (hv : zfv ξ μ' a c k = v) (h : ∀ j, j ≠ k → zfv ξ μ a c j = zfv ξ μ' a c j) : (zfs ξ μ a c).set k v = zfs ξ μ' a c := by
  apply List.ext_getElem?
  intro i
  by_cases hi : i < znf c
  · by_cases hik : i = k
    · subst hik
      rw [List.getElem?_set_self (by simpa [zfs] using hi), zfs_get hi, hv]
    · rw [List.getElem?_set_ne (Ne.symm hik), zfs_get hi, zfs_get hi, h i hik]
  · rw [List.getElem?_eq_none (by simp [zfs]; omega), List.getElem?_eq_none (by simp [zfs]; omega)]
theorem zfs_len (ξ : ZX) (μ : ZMem) (a c : Nat) : (zfs ξ μ a c).length = znf c := by simp [zfs]
theorem zvm_cat (ξ : ZX) (v : Value) : (zvm ξ v).category = v.category := by cases v <;> rfl
theorem zvm_sum (ξ : ZX) (st : List Value) : ((st.map (zvm ξ)).map fun v => v.category).sum = (st.map fun v => v.category).sum := by
  rw [List.map_map]
  congr 1
  apply List.map_congr_left
  intro v _
  exact zvm_cat ξ v
theorem zq_filter (ξ : ZX) (P : Nat × Value → Bool) (hP : ∀ q, P (zq ξ q) = P q) (ls : List (Nat × Value)) : (ls.map (zq ξ)).filter P = (ls.filter P).map (zq ξ) := by
  rw [List.filter_map]
  congr 1
  apply List.filter_congr
  intro q _
  exact hP q
theorem zq_pick (ξ : ZX) (ls : List (Nat × Value)) (ks : List Nat) : lv_pick (ls.map (zq ξ)) ks = (lv_pick ls ks).map (zq ξ) := by
  simp only [lv_pick, List.getElem?_map]
  induction ks with
  | nil => rfl
  | cons k ks ih =>
    cases h : ls[k]? with
    | none => simp [List.filterMap_cons, h, ih]
    | some q => simp [List.filterMap_cons, h, ih]
section
variable {κ : ZK} {fr : Bool} {pc nn : Nat} {ls : List (Nat × Value)} {st : List Value} {μ : ZMem}
theorem V_iconst {n : Int} {v : Int32} (hdg : decode κ.2.1.2.1 pc = .ok (.iconst n, 1)) (hv : Int32.ofInt n = v) (k :  V κ fr (pc + 1) ls (.int v :: st) nn μ) : V κ fr pc ls (st) nn μ :=
  fun ξ hξ p e s m args below meth c H locs lsA C w S hL => lv_iconst C.1.1 C.1.2.1 hdg hv (k ξ hξ p e s m args below meth c H locs lsA C w S hL)
theorem V_bipush {n : Int} {v : Int32} (hdg : decode κ.2.1.2.1 pc = .ok (.bipush n, 2)) (hv : (Int8.ofInt n).toInt32 = v) (k :  V κ fr (pc + 2) ls (.int v :: st) nn μ) : V κ fr pc ls (st) nn μ :=
  fun ξ hξ p e s m args below meth c H locs lsA C w S hL => lv_bipush C.1.1 C.1.2.1 hdg hv (k ξ hξ p e s m args below meth c H locs lsA C w S hL)
theorem V_sipush {n : Int} {v : Int32} (hdg : decode κ.2.1.2.1 pc = .ok (.sipush n, 3)) (hv : (Int16.ofInt n).toInt32 = v) (k :  V κ fr (pc + 3) ls (.int v :: st) nn μ) : V κ fr pc ls (st) nn μ :=
  fun ξ hξ p e s m args below meth c H locs lsA C w S hL => lv_sipush C.1.1 C.1.2.1 hdg hv (k ξ hξ p e s m args below meth c H locs lsA C w S hL)
theorem V_lconst {n : Fin 2} {v : Int64} (hdg : decode κ.2.1.2.1 pc = .ok (.lconst n, 1)) (hv : Int64.ofNat (n : Nat) = v) (k :  V κ fr (pc + 1) ls (.long v :: st) nn μ) : V κ fr pc ls (st) nn μ :=
  fun ξ hξ p e s m args below meth c H locs lsA C w S hL => lv_lconst C.1.1 C.1.2.1 hdg hv (k ξ hξ p e s m args below meth c H locs lsA C w S hL)
theorem V_iadd {x y : Int32} (hdg : decode κ.2.1.2.1 pc = .ok (.iadd, 1)) (k :  V κ fr (pc + 1) ls (.int (x + y) :: st) nn μ) : V κ fr pc ls (.int y :: .int x :: st) nn μ :=
  fun ξ hξ p e s m args below meth c H locs lsA C w S hL => lv_iadd C.1.1 C.1.2.1 hdg (k ξ hξ p e s m args below meth c H locs lsA C w S hL)
theorem V_isub {x y : Int32} (hdg : decode κ.2.1.2.1 pc = .ok (.isub, 1)) (k :  V κ fr (pc + 1) ls (.int (x - y) :: st) nn μ) : V κ fr pc ls (.int y :: .int x :: st) nn μ :=
  fun ξ hξ p e s m args below meth c H locs lsA C w S hL => lv_isub C.1.1 C.1.2.1 hdg (k ξ hξ p e s m args below meth c H locs lsA C w S hL)
theorem V_imul {x y : Int32} (hdg : decode κ.2.1.2.1 pc = .ok (.imul, 1)) (k :  V κ fr (pc + 1) ls (.int (x * y) :: st) nn μ) : V κ fr pc ls (.int y :: .int x :: st) nn μ :=
  fun ξ hξ p e s m args below meth c H locs lsA C w S hL => lv_imul C.1.1 C.1.2.1 hdg (k ξ hξ p e s m args below meth c H locs lsA C w S hL)
theorem V_idiv {x y : Int32} (hdg : decode κ.2.1.2.1 pc = .ok (.idiv, 1)) (hne : ¬ y = 0) (k :  V κ fr (pc + 1) ls (.int (x / y) :: st) nn μ) : V κ fr pc ls (.int y :: .int x :: st) nn μ :=
  fun ξ hξ p e s m args below meth c H locs lsA C w S hL => lv_idiv C.1.1 C.1.2.1 hdg hne (k ξ hξ p e s m args below meth c H locs lsA C w S hL)
theorem V_irem {x y : Int32} (hdg : decode κ.2.1.2.1 pc = .ok (.irem, 1)) (hne : ¬ y = 0) (k :  V κ fr (pc + 1) ls (.int (x - x / y * y) :: st) nn μ) : V κ fr pc ls (.int y :: .int x :: st) nn μ :=
  fun ξ hξ p e s m args below meth c H locs lsA C w S hL => lv_irem C.1.1 C.1.2.1 hdg hne (k ξ hξ p e s m args below meth c H locs lsA C w S hL)
theorem V_ineg {x : Int32} (hdg : decode κ.2.1.2.1 pc = .ok (.ineg, 1)) (k :  V κ fr (pc + 1) ls (.int (-x) :: st) nn μ) : V κ fr pc ls (.int x :: st) nn μ :=
  fun ξ hξ p e s m args below meth c H locs lsA C w S hL => lv_ineg C.1.1 C.1.2.1 hdg (k ξ hξ p e s m args below meth c H locs lsA C w S hL)
theorem V_iand {x y : Int32} (hdg : decode κ.2.1.2.1 pc = .ok (.iand, 1)) (k :  V κ fr (pc + 1) ls (.int (x &&& y) :: st) nn μ) : V κ fr pc ls (.int y :: .int x :: st) nn μ :=
  fun ξ hξ p e s m args below meth c H locs lsA C w S hL => lv_iand C.1.1 C.1.2.1 hdg (k ξ hξ p e s m args below meth c H locs lsA C w S hL)
theorem V_ior {x y : Int32} (hdg : decode κ.2.1.2.1 pc = .ok (.ior, 1)) (k :  V κ fr (pc + 1) ls (.int (x ||| y) :: st) nn μ) : V κ fr pc ls (.int y :: .int x :: st) nn μ :=
  fun ξ hξ p e s m args below meth c H locs lsA C w S hL => lv_ior C.1.1 C.1.2.1 hdg (k ξ hξ p e s m args below meth c H locs lsA C w S hL)
theorem V_ixor {x y : Int32} (hdg : decode κ.2.1.2.1 pc = .ok (.ixor, 1)) (k :  V κ fr (pc + 1) ls (.int (x ^^^ y) :: st) nn μ) : V κ fr pc ls (.int y :: .int x :: st) nn μ :=
  fun ξ hξ p e s m args below meth c H locs lsA C w S hL => lv_ixor C.1.1 C.1.2.1 hdg (k ξ hξ p e s m args below meth c H locs lsA C w S hL)
theorem V_ishl {x y : Int32} (hdg : decode κ.2.1.2.1 pc = .ok (.ishl, 1)) (k :  V κ fr (pc + 1) ls (.int (x <<< (y &&& 31)) :: st) nn μ) : V κ fr pc ls (.int y :: .int x :: st) nn μ :=
  fun ξ hξ p e s m args below meth c H locs lsA C w S hL => lv_ishl C.1.1 C.1.2.1 hdg (k ξ hξ p e s m args below meth c H locs lsA C w S hL)
theorem V_ishr {x y : Int32} (hdg : decode κ.2.1.2.1 pc = .ok (.ishr, 1)) (k :  V κ fr (pc + 1) ls (.int (x >>> (y &&& 31)) :: st) nn μ) : V κ fr pc ls (.int y :: .int x :: st) nn μ :=
  fun ξ hξ p e s m args below meth c H locs lsA C w S hL => lv_ishr C.1.1 C.1.2.1 hdg (k ξ hξ p e s m args below meth c H locs lsA C w S hL)
theorem V_iushr {x y v : Int32} (hdg : decode κ.2.1.2.1 pc = .ok (.iushr, 1)) (hv : (x.toUInt32 >>> (y.toUInt32 &&& Int32.toUInt32 31)).toInt32 = v) (k :  V κ fr (pc + 1) ls (.int v :: st) nn μ) : V κ fr pc ls (.int y :: .int x :: st) nn μ :=
  fun ξ hξ p e s m args below meth c H locs lsA C w S hL => lv_iushr C.1.1 C.1.2.1 hdg hv (k ξ hξ p e s m args below meth c H locs lsA C w S hL)
theorem V_ladd {x y : Int64} (hdg : decode κ.2.1.2.1 pc = .ok (.ladd, 1)) (k :  V κ fr (pc + 1) ls (.long (x + y) :: st) nn μ) : V κ fr pc ls (.long y :: .long x :: st) nn μ :=
  fun ξ hξ p e s m args below meth c H locs lsA C w S hL => lv_ladd C.1.1 C.1.2.1 hdg (k ξ hξ p e s m args below meth c H locs lsA C w S hL)
theorem V_lmul {x y : Int64} (hdg : decode κ.2.1.2.1 pc = .ok (.lmul, 1)) (k :  V κ fr (pc + 1) ls (.long (x * y) :: st) nn μ) : V κ fr pc ls (.long y :: .long x :: st) nn μ :=
  fun ξ hξ p e s m args below meth c H locs lsA C w S hL => lv_lmul C.1.1 C.1.2.1 hdg (k ξ hξ p e s m args below meth c H locs lsA C w S hL)
theorem V_lshl {x v : Int64} {y : Int32} (hdg : decode κ.2.1.2.1 pc = .ok (.lshl, 1)) (hv : x <<< (y.toInt64 &&& 63) = v) (k :  V κ fr (pc + 1) ls (.long v :: st) nn μ) : V κ fr pc ls (.int y :: .long x :: st) nn μ :=
  fun ξ hξ p e s m args below meth c H locs lsA C w S hL => lv_lshl C.1.1 C.1.2.1 hdg hv (k ξ hξ p e s m args below meth c H locs lsA C w S hL)
theorem V_land {x y : Int64} (hdg : decode κ.2.1.2.1 pc = .ok (.land, 1)) (k :  V κ fr (pc + 1) ls (.long (x &&& y) :: st) nn μ) : V κ fr pc ls (.long y :: .long x :: st) nn μ :=
  fun ξ hξ p e s m args below meth c H locs lsA C w S hL => lv_land C.1.1 C.1.2.1 hdg (k ξ hξ p e s m args below meth c H locs lsA C w S hL)
theorem V_lor {x y : Int64} (hdg : decode κ.2.1.2.1 pc = .ok (.lor, 1)) (k :  V κ fr (pc + 1) ls (.long (x ||| y) :: st) nn μ) : V κ fr pc ls (.long y :: .long x :: st) nn μ :=
  fun ξ hξ p e s m args below meth c H locs lsA C w S hL => lv_lor C.1.1 C.1.2.1 hdg (k ξ hξ p e s m args below meth c H locs lsA C w S hL)
theorem V_i2l {x : Int32} {v : Int64} (hdg : decode κ.2.1.2.1 pc = .ok (.i2l, 1)) (hv : x.toInt64 = v) (k :  V κ fr (pc + 1) ls (.long v :: st) nn μ) : V κ fr pc ls (.int x :: st) nn μ :=
  fun ξ hξ p e s m args below meth c H locs lsA C w S hL => lv_i2l C.1.1 C.1.2.1 hdg hv (k ξ hξ p e s m args below meth c H locs lsA C w S hL)
theorem V_l2i {x : Int64} {v : Int32} (hdg : decode κ.2.1.2.1 pc = .ok (.l2i, 1)) (hv : x.toInt32 = v) (k :  V κ fr (pc + 1) ls (.int v :: st) nn μ) : V κ fr pc ls (.long x :: st) nn μ :=
  fun ξ hξ p e s m args below meth c H locs lsA C w S hL => lv_l2i C.1.1 C.1.2.1 hdg hv (k ξ hξ p e s m args below meth c H locs lsA C w S hL)
theorem V_i2b {x : Int32} {v : Int32} (hdg : decode κ.2.1.2.1 pc = .ok (.i2b, 1)) (hv : x.toInt8.toInt32 = v) (k :  V κ fr (pc + 1) ls (.int v :: st) nn μ) : V κ fr pc ls (.int x :: st) nn μ :=
  fun ξ hξ p e s m args below meth c H locs lsA C w S hL => lv_i2b C.1.1 C.1.2.1 hdg hv (k ξ hξ p e s m args below meth c H locs lsA C w S hL)
theorem V_i2s {x : Int32} {v : Int32} (hdg : decode κ.2.1.2.1 pc = .ok (.i2s, 1)) (hv : x.toInt16.toInt32 = v) (k :  V κ fr (pc + 1) ls (.int v :: st) nn μ) : V κ fr pc ls (.int x :: st) nn μ :=
  fun ξ hξ p e s m args below meth c H locs lsA C w S hL => lv_i2s C.1.1 C.1.2.1 hdg hv (k ξ hξ p e s m args below meth c H locs lsA C w S hL)
theorem V_i2c {x : Int32} {v : Int32} (hdg : decode κ.2.1.2.1 pc = .ok (.i2c, 1)) (hv : (x.toUInt32 % 65536).toInt32 = v) (k :  V κ fr (pc + 1) ls (.int v :: st) nn μ) : V κ fr pc ls (.int x :: st) nn μ :=
  fun ξ hξ p e s m args below meth c H locs lsA C w S hL => lv_i2c C.1.1 C.1.2.1 hdg hv (k ξ hξ p e s m args below meth c H locs lsA C w S hL)
theorem V_if_eq {x : Int32} {off : Int} {tgt : Nat} (hdg : decode κ.2.1.2.1 pc = .ok (.ifCond .eq off, 3)) (ht : (pc : Int) + off = (tgt : Int)) (kt : x = 0 → V κ fr tgt ls (st) nn μ) (kf : ¬ x = 0 → V κ fr (pc + 3) ls (st) nn μ) : V κ fr pc ls (.int x :: st) nn μ :=
  fun ξ hξ p e s m args below meth c H locs lsA C w S hL => lv_if_eq C.1.1 C.1.2.1 hdg ht (fun q_ => kt q_ ξ hξ p e s m args below meth c H locs lsA C w S hL) (fun q_ => kf q_ ξ hξ p e s m args below meth c H locs lsA C w S hL)
theorem V_if_ne {x : Int32} {off : Int} {tgt : Nat} (hdg : decode κ.2.1.2.1 pc = .ok (.ifCond .ne off, 3)) (ht : (pc : Int) + off = (tgt : Int)) (kt : ¬ x = 0 → V κ fr tgt ls (st) nn μ) (kf : x = 0 → V κ fr (pc + 3) ls (st) nn μ) : V κ fr pc ls (.int x :: st) nn μ :=
  fun ξ hξ p e s m args below meth c H locs lsA C w S hL => lv_if_ne C.1.1 C.1.2.1 hdg ht (fun q_ => kt q_ ξ hξ p e s m args below meth c H locs lsA C w S hL) (fun q_ => kf q_ ξ hξ p e s m args below meth c H locs lsA C w S hL)
theorem V_if_lt {x : Int32} {off : Int} {tgt : Nat} (hdg : decode κ.2.1.2.1 pc = .ok (.ifCond .lt off, 3)) (ht : (pc : Int) + off = (tgt : Int)) (kt : x < 0 → V κ fr tgt ls (st) nn μ) (kf : ¬ x < 0 → V κ fr (pc + 3) ls (st) nn μ) : V κ fr pc ls (.int x :: st) nn μ :=
  fun ξ hξ p e s m args below meth c H locs lsA C w S hL => lv_if_lt C.1.1 C.1.2.1 hdg ht (fun q_ => kt q_ ξ hξ p e s m args below meth c H locs lsA C w S hL) (fun q_ => kf q_ ξ hξ p e s m args below meth c H locs lsA C w S hL)
theorem V_if_ge {x : Int32} {off : Int} {tgt : Nat} (hdg : decode κ.2.1.2.1 pc = .ok (.ifCond .ge off, 3)) (ht : (pc : Int) + off = (tgt : Int)) (kt : 0 ≤ x → V κ fr tgt ls (st) nn μ) (kf : ¬ 0 ≤ x → V κ fr (pc + 3) ls (st) nn μ) : V κ fr pc ls (.int x :: st) nn μ :=
  fun ξ hξ p e s m args below meth c H locs lsA C w S hL => lv_if_ge C.1.1 C.1.2.1 hdg ht (fun q_ => kt q_ ξ hξ p e s m args below meth c H locs lsA C w S hL) (fun q_ => kf q_ ξ hξ p e s m args below meth c H locs lsA C w S hL)
theorem V_if_gt {x : Int32} {off : Int} {tgt : Nat} (hdg : decode κ.2.1.2.1 pc = .ok (.ifCond .gt off, 3)) (ht : (pc : Int) + off = (tgt : Int)) (kt : 0 < x → V κ fr tgt ls (st) nn μ) (kf : ¬ 0 < x → V κ fr (pc + 3) ls (st) nn μ) : V κ fr pc ls (.int x :: st) nn μ :=
  fun ξ hξ p e s m args below meth c H locs lsA C w S hL => lv_if_gt C.1.1 C.1.2.1 hdg ht (fun q_ => kt q_ ξ hξ p e s m args below meth c H locs lsA C w S hL) (fun q_ => kf q_ ξ hξ p e s m args below meth c H locs lsA C w S hL)
theorem V_if_le {x : Int32} {off : Int} {tgt : Nat} (hdg : decode κ.2.1.2.1 pc = .ok (.ifCond .le off, 3)) (ht : (pc : Int) + off = (tgt : Int)) (kt : x ≤ 0 → V κ fr tgt ls (st) nn μ) (kf : ¬ x ≤ 0 → V κ fr (pc + 3) ls (st) nn μ) : V κ fr pc ls (.int x :: st) nn μ :=
  fun ξ hξ p e s m args below meth c H locs lsA C w S hL => lv_if_le C.1.1 C.1.2.1 hdg ht (fun q_ => kt q_ ξ hξ p e s m args below meth c H locs lsA C w S hL) (fun q_ => kf q_ ξ hξ p e s m args below meth c H locs lsA C w S hL)
theorem V_icmp_eq {x y : Int32} {off : Int} {tgt : Nat} (hdg : decode κ.2.1.2.1 pc = .ok (.if_icmp .eq off, 3)) (ht : (pc : Int) + off = (tgt : Int)) (kt : x = y → V κ fr tgt ls (st) nn μ) (kf : ¬ x = y → V κ fr (pc + 3) ls (st) nn μ) : V κ fr pc ls (.int y :: .int x :: st) nn μ :=
  fun ξ hξ p e s m args below meth c H locs lsA C w S hL => lv_icmp_eq C.1.1 C.1.2.1 hdg ht (fun q_ => kt q_ ξ hξ p e s m args below meth c H locs lsA C w S hL) (fun q_ => kf q_ ξ hξ p e s m args below meth c H locs lsA C w S hL)
theorem V_icmp_ne {x y : Int32} {off : Int} {tgt : Nat} (hdg : decode κ.2.1.2.1 pc = .ok (.if_icmp .ne off, 3)) (ht : (pc : Int) + off = (tgt : Int)) (kt : ¬ x = y → V κ fr tgt ls (st) nn μ) (kf : x = y → V κ fr (pc + 3) ls (st) nn μ) : V κ fr pc ls (.int y :: .int x :: st) nn μ :=
  fun ξ hξ p e s m args below meth c H locs lsA C w S hL => lv_icmp_ne C.1.1 C.1.2.1 hdg ht (fun q_ => kt q_ ξ hξ p e s m args below meth c H locs lsA C w S hL) (fun q_ => kf q_ ξ hξ p e s m args below meth c H locs lsA C w S hL)
theorem V_icmp_lt {x y : Int32} {off : Int} {tgt : Nat} (hdg : decode κ.2.1.2.1 pc = .ok (.if_icmp .lt off, 3)) (ht : (pc : Int) + off = (tgt : Int)) (kt : x < y → V κ fr tgt ls (st) nn μ) (kf : ¬ x < y → V κ fr (pc + 3) ls (st) nn μ) : V κ fr pc ls (.int y :: .int x :: st) nn μ :=
  fun ξ hξ p e s m args below meth c H locs lsA C w S hL => lv_icmp_lt C.1.1 C.1.2.1 hdg ht (fun q_ => kt q_ ξ hξ p e s m args below meth c H locs lsA C w S hL) (fun q_ => kf q_ ξ hξ p e s m args below meth c H locs lsA C w S hL)
theorem V_icmp_ge {x y : Int32} {off : Int} {tgt : Nat} (hdg : decode κ.2.1.2.1 pc = .ok (.if_icmp .ge off, 3)) (ht : (pc : Int) + off = (tgt : Int)) (kt : y ≤ x → V κ fr tgt ls (st) nn μ) (kf : ¬ y ≤ x → V κ fr (pc + 3) ls (st) nn μ) : V κ fr pc ls (.int y :: .int x :: st) nn μ :=
  fun ξ hξ p e s m args below meth c H locs lsA C w S hL => lv_icmp_ge C.1.1 C.1.2.1 hdg ht (fun q_ => kt q_ ξ hξ p e s m args below meth c H locs lsA C w S hL) (fun q_ => kf q_ ξ hξ p e s m args below meth c H locs lsA C w S hL)
theorem V_icmp_gt {x y : Int32} {off : Int} {tgt : Nat} (hdg : decode κ.2.1.2.1 pc = .ok (.if_icmp .gt off, 3)) (ht : (pc : Int) + off = (tgt : Int)) (kt : y < x → V κ fr tgt ls (st) nn μ) (kf : ¬ y < x → V κ fr (pc + 3) ls (st) nn μ) : V κ fr pc ls (.int y :: .int x :: st) nn μ :=
  fun ξ hξ p e s m args below meth c H locs lsA C w S hL => lv_icmp_gt C.1.1 C.1.2.1 hdg ht (fun q_ => kt q_ ξ hξ p e s m args below meth c H locs lsA C w S hL) (fun q_ => kf q_ ξ hξ p e s m args below meth c H locs lsA C w S hL)
theorem V_icmp_le {x y : Int32} {off : Int} {tgt : Nat} (hdg : decode κ.2.1.2.1 pc = .ok (.if_icmp .le off, 3)) (ht : (pc : Int) + off = (tgt : Int)) (kt : x ≤ y → V κ fr tgt ls (st) nn μ) (kf : ¬ x ≤ y → V κ fr (pc + 3) ls (st) nn μ) : V κ fr pc ls (.int y :: .int x :: st) nn μ :=
  fun ξ hξ p e s m args below meth c H locs lsA C w S hL => lv_icmp_le C.1.1 C.1.2.1 hdg ht (fun q_ => kt q_ ξ hξ p e s m args below meth c H locs lsA C w S hL) (fun q_ => kf q_ ξ hξ p e s m args below meth c H locs lsA C w S hL)
theorem V_goto {off : Int} {tgt : Nat} (hdg : decode κ.2.1.2.1 pc = .ok (.goto off, 3)) (ht : (pc : Int) + off = (tgt : Int)) (k :  V κ fr tgt ls (st) nn μ) : V κ fr pc ls (st) nn μ :=
  fun ξ hξ p e s m args below meth c H locs lsA C w S hL => lv_goto C.1.1 C.1.2.1 hdg ht (k ξ hξ p e s m args below meth c H locs lsA C w S hL)
theorem V_tableOut {dflt lo hi : Int} {offs : Array Int} {len : Nat} {x : Int32} {tgt : Nat} (hdg : decode κ.2.1.2.1 pc = .ok (.tableswitch dflt lo hi offs, len)) (h : x.toInt < lo ∨ hi < x.toInt) (ht : (pc : Int) + dflt = (tgt : Int)) (k :  V κ fr tgt ls (st) nn μ) : V κ fr pc ls (.int x :: st) nn μ :=
  fun ξ hξ p e s m args below meth c H locs lsA C w S hL => lv_tableOut C.1.1 C.1.2.1 hdg h ht (k ξ hξ p e s m args below meth c H locs lsA C w S hL)
theorem V_tableIn {dflt lo hi : Int} {offs : Array Int} {len : Nat} {x : Int32} {off : Int} {tgt : Nat} (hdg : decode κ.2.1.2.1 pc = .ok (.tableswitch dflt lo hi offs, len)) (h1 : ¬ x.toInt < lo) (h2 : ¬ hi < x.toInt) (ho : offs[(x.toInt - lo).toNat]? = some off) (ht : (pc : Int) + off = (tgt : Int)) (k :  V κ fr tgt ls (st) nn μ) : V κ fr pc ls (.int x :: st) nn μ :=
  fun ξ hξ p e s m args below meth c H locs lsA C w S hL => lv_tableIn C.1.1 C.1.2.1 hdg h1 h2 ho ht (k ξ hξ p e s m args below meth c H locs lsA C w S hL)
theorem V_lookup {dflt : Int} {ps : Array (Int × Int)} {len : Nat} {x : Int32} {off : Int} {tgt : Nat} (hdg : decode κ.2.1.2.1 pc = .ok (.lookupswitch dflt ps, len)) (hp : (ps.toList.zip (ps.toList.drop 1)).all (fun (a, next) => a.1 < next.1) = true) (ho : Op.lookupswitch.offset ps.toList dflt x.toInt = off) (ht : (pc : Int) + off = (tgt : Int)) (k :  V κ fr tgt ls (st) nn μ) : V κ fr pc ls (.int x :: st) nn μ :=
  fun ξ hξ p e s m args below meth c H locs lsA C w S hL => lv_lookup C.1.1 C.1.2.1 hdg hp ho ht (k ξ hξ p e s m args below meth c H locs lsA C w S hL)
end
section
variable {κ : ZK} {fr : Bool} {pc n : Nat} {ls ls' : List (Nat × Value)} {st : List Value} {μ μ' : ZMem}
-- locals
theorem zat {ξ : ZX} {lsA : Array Slot} {nL i : Nat} {v : Value} (h : lv_has lsA nL (ls.map (zq ξ))) (k : Nat) (hk : ls[k]? = some (i, v)) : lsA[i]? = some (.val (zvm ξ v)) :=
  lv_at h k (by rw [List.getElem?_map, hk]; rfl)
theorem V_iload_n {x : Int32} {j : Fin 4} (k : Nat) (hdg : decode κ.2.1.2.1 pc = .ok (.iload_n j, 1)) (hl : ls[k]? = some ((j : Nat), .int x)) (kk : V κ fr (pc + 1) ls (.int x :: st) n μ) : V κ fr pc ls st n μ :=
  fun ξ hξ p e s m args below meth c H locs lsA C w S h => lv_iload_n C.1.1 C.1.2.1 hdg rfl (zat h k hl) (kk ξ hξ p e s m args below meth c H locs lsA C w S h)
theorem V_iload {x : Int32} {i : Nat} (k : Nat) (hdg : decode κ.2.1.2.1 pc = .ok (.iload i, 2)) (hl : ls[k]? = some (i, .int x)) (kk : V κ fr (pc + 2) ls (.int x :: st) n μ) : V κ fr pc ls st n μ :=
  fun ξ hξ p e s m args below meth c H locs lsA C w S h => lv_iload C.1.1 C.1.2.1 hdg (zat h k hl) (kk ξ hξ p e s m args below meth c H locs lsA C w S h)
theorem V_lload_n {x : Int64} {j : Fin 4} (k : Nat) (hdg : decode κ.2.1.2.1 pc = .ok (.lload_n j, 1)) (hl : ls[k]? = some ((j : Nat), .long x)) (kk : V κ fr (pc + 1) ls (.long x :: st) n μ) : V κ fr pc ls st n μ :=
  fun ξ hξ p e s m args below meth c H locs lsA C w S h => lv_lload_n C.1.1 C.1.2.1 hdg rfl (zat h k hl) (kk ξ hξ p e s m args below meth c H locs lsA C w S h)
theorem V_aload_n {x : Nat} {j : Fin 4} (k : Nat) (hdg : decode κ.2.1.2.1 pc = .ok (.aload_n j, 1)) (hl : ls[k]? = some ((j : Nat), .ref x)) (kk : V κ fr (pc + 1) ls (.ref x :: st) n μ) : V κ fr pc ls st n μ :=
  fun ξ hξ p e s m args below meth c H locs lsA C w S h => lv_aload_n C.1.1 C.1.2.1 hdg rfl (zat h k hl) (kk ξ hξ p e s m args below meth c H locs lsA C w S h)
theorem V_aload {x : Nat} {i : Nat} (k : Nat) (hdg : decode κ.2.1.2.1 pc = .ok (.aload i, 2)) (hl : ls[k]? = some (i, .ref x)) (kk : V κ fr (pc + 2) ls (.ref x :: st) n μ) : V κ fr pc ls st n μ :=
  fun ξ hξ p e s m args below meth c H locs lsA C w S h => lv_aload C.1.1 C.1.2.1 hdg (zat h k hl) (kk ξ hξ p e s m args below meth c H locs lsA C w S h)
def zst (i : Nat) (v : Value) (ls : List (Nat × Value)) : List (Nat × Value) := (i, v) :: ls.filter (fun q => !(q.1 == i) && !(q.1 + 1 == i && q.2.category == 2))
theorem zstored {ξ : ZX} {lsA : Array Slot} {nL i : Nat} {v : Value} (ks : List Nat) (hp : lv_pick (zst i v ls) ks = ls') (h : lv_has lsA nL ((i, zvm ξ v) :: (ls.map (zq ξ)).filter (fun q => !(q.1 == i) && !(q.1 + 1 == i && q.2.category == 2)))) : lv_has lsA nL (ls'.map (zq ξ)) := by
  rw [zq_filter ξ _ (fun q => by simp only [zq, zvm_cat])] at h
  have h2 : lv_has lsA nL ((zst i v ls).map (zq ξ)) := h
  refine lv_sub h2 ks ?_
  rw [zq_pick, hp]
theorem V_istore_n {x : Int32} {j : Fin 4} (ks : List Nat) (hdg : decode κ.2.1.2.1 pc = .ok (.istore_n j, 1)) (hn : (j : Nat) < κ.2.1.2.2.1) (hp : lv_pick (zst j (.int x) ls) ks = ls') (kk : V κ fr (pc + 1) ls' st n μ) : V κ fr pc ls (.int x :: st) n μ :=
  fun ξ hξ p e s m args below meth c H locs lsA C w S h => lv_istore_n C.1.1 C.1.2.1 hdg rfl h hn rfl (fun lsB hB => kk ξ hξ p e s m args below meth c H locs lsB C w S (zstored ks hp hB))
theorem V_istore {x : Int32} {i : Nat} (ks : List Nat) (hdg : decode κ.2.1.2.1 pc = .ok (.istore i, 2)) (hn : i < κ.2.1.2.2.1) (hp : lv_pick (zst i (.int x) ls) ks = ls') (kk : V κ fr (pc + 2) ls' st n μ) : V κ fr pc ls (.int x :: st) n μ :=
  fun ξ hξ p e s m args below meth c H locs lsA C w S h => lv_istore C.1.1 C.1.2.1 hdg h hn rfl (fun lsB hB => kk ξ hξ p e s m args below meth c H locs lsB C w S (zstored ks hp hB))
theorem V_astore_n {x : Nat} {j : Fin 4} (ks : List Nat) (hdg : decode κ.2.1.2.1 pc = .ok (.astore_n j, 1)) (hn : (j : Nat) < κ.2.1.2.2.1) (hp : lv_pick (zst j (.ref x) ls) ks = ls') (kk : V κ fr (pc + 1) ls' st n μ) : V κ fr pc ls (.ref x :: st) n μ :=
  fun ξ hξ p e s m args below meth c H locs lsA C w S h => lv_astore_n C.1.1 C.1.2.1 hdg rfl h hn rfl (fun lsB hB => kk ξ hξ p e s m args below meth c H locs lsB C w S (zstored ks hp hB))
theorem V_astore {x : Nat} {i : Nat} (ks : List Nat) (hdg : decode κ.2.1.2.1 pc = .ok (.astore i, 2)) (hn : i < κ.2.1.2.2.1) (hp : lv_pick (zst i (.ref x) ls) ks = ls') (kk : V κ fr (pc + 2) ls' st n μ) : V κ fr pc ls (.ref x :: st) n μ :=
  fun ξ hξ p e s m args below meth c H locs lsA C w S h => lv_astore C.1.1 C.1.2.1 hdg h hn rfl (fun lsB hB => kk ξ hξ p e s m args below meth c H locs lsB C w S (zstored ks hp hB))
theorem V_iinc {x : Int32} {i : Nat} {d : Int} (k : Nat) (ks : List Nat) (hdg : decode κ.2.1.2.1 pc = .ok (.iinc i d, 3)) (hl : ls[k]? = some (i, .int x)) (hn : i < κ.2.1.2.2.1) (hp : lv_pick (zst i (.int (x + Int32.ofInt d)) ls) ks = ls') (kk : V κ fr (pc + 3) ls' st n μ) : V κ fr pc ls st n μ :=
  fun ξ hξ p e s m args below meth c H locs lsA C w S h => lv_iinc C.1.1 C.1.2.1 hdg h (k := k) (by rw [List.getElem?_map, hl]; rfl) rfl hn rfl (fun lsB hB => kk ξ hξ p e s m args below meth c H locs lsB C w S (zstored ks hp hB))
theorem V_sub (ks : List Nat) (hp : lv_pick ls ks = ls') (kk : V κ fr pc ls' st n μ) : V κ fr pc ls st n μ :=
  fun ξ hξ p e s m args below meth c H locs lsA C w S h => kk ξ hξ p e s m args below meth c H locs lsA C w S (lv_sub h ks (by rw [zq_pick, hp]))
-- the stack
theorem V_dup_r {a : Nat} (hdg : decode κ.2.1.2.1 pc = .ok (.dup, 1)) (kk : V κ fr (pc + 1) ls (.ref a :: .ref a :: st) n μ) : V κ fr pc ls (.ref a :: st) n μ :=
  fun ξ hξ p e s m args below meth c H locs lsA C w S h => lv_dup C.1.1 C.1.2.1 hdg rfl (kk ξ hξ p e s m args below meth c H locs lsA C w S h)
theorem V_dup_i {x : Int32} (hdg : decode κ.2.1.2.1 pc = .ok (.dup, 1)) (kk : V κ fr (pc + 1) ls (.int x :: .int x :: st) n μ) : V κ fr pc ls (.int x :: st) n μ :=
  fun ξ hξ p e s m args below meth c H locs lsA C w S h => lv_dup C.1.1 C.1.2.1 hdg rfl (kk ξ hξ p e s m args below meth c H locs lsA C w S h)
theorem V_dup2 {a : Nat} {x : Int32} (hdg : decode κ.2.1.2.1 pc = .ok (.dup2, 1)) (kk : V κ fr (pc + 1) ls (.int x :: .ref a :: .int x :: .ref a :: st) n μ) : V κ fr pc ls (.int x :: .ref a :: st) n μ :=
  fun ξ hξ p e s m args below meth c H locs lsA C w S h => lv_dup2_11 C.1.1 C.1.2.1 hdg rfl rfl (kk ξ hξ p e s m args below meth c H locs lsA C w S h)
theorem V_dup_x1 {a : Nat} {x : Int32} (hdg : decode κ.2.1.2.1 pc = .ok (.dup_x1, 1)) (kk : V κ fr (pc + 1) ls (.int x :: .ref a :: .int x :: st) n μ) : V κ fr pc ls (.int x :: .ref a :: st) n μ :=
  fun ξ hξ p e s m args below meth c H locs lsA C w S h => lv_dup_x1 C.1.1 C.1.2.1 hdg rfl rfl (kk ξ hξ p e s m args below meth c H locs lsA C w S h)
theorem V_pop {x : Int32} (hdg : decode κ.2.1.2.1 pc = .ok (.pop, 1)) (kk : V κ fr (pc + 1) ls st n μ) : V κ fr pc ls (.int x :: st) n μ :=
  fun ξ hξ p e s m args below meth c H locs lsA C w S h => lv_pop C.1.1 C.1.2.1 hdg rfl (kk ξ hξ p e s m args below meth c H locs lsA C w S h)
theorem V_lcmp {x y : Int64} (hdg : decode κ.2.1.2.1 pc = .ok (.lcmp, 1)) (kk : V κ fr (pc + 1) ls (.int (lg_cmp x y) :: st) n μ) : V κ fr pc ls (.long y :: .long x :: st) n μ :=
  fun ξ hξ p e s m args below meth c H locs lsA C w S h => W.lcmp C.1.1 C.1.2.1 hdg (kk ξ hξ p e s m args below meth c H locs lsA C w S h)
theorem V_ldc {v : Int32} {index : Nat} (hdg : decode κ.2.1.2.1 pc = .ok (.ldc index, 2)) (hw : Cond.constant κ.2.1.1.cls index v ∈ zT) (kk : V κ fr (pc + 2) ls (.int v :: st) n μ) : V κ fr pc ls st n μ :=
  fun ξ hξ p e s m args below meth c H locs lsA C w S h => lv_ldc C.1.1 C.1.2.1 C.1.2.2.2.2.1 (C.1.2.2.2.2.2.1 _ (List.mem_cons_of_mem _ hw)) hdg (kk ξ hξ p e s m args below meth c H locs lsA C w S h)
theorem V_ldc2 {v : Int64} {index : Nat} (hdg : decode κ.2.1.2.1 pc = .ok (.ldc2_w index, 3)) (hw : Cond.constantLong κ.2.1.1.cls index v ∈ zT) (kk : V κ fr (pc + 3) ls (.long v :: st) n μ) : V κ fr pc ls st n μ :=
  fun ξ hξ p e s m args below meth c H locs lsA C w S h => lv_ldc2 C.1.1 C.1.2.1 C.1.2.2.2.2.1 (C.1.2.2.2.2.2.1 _ (List.mem_cons_of_mem _ hw)) hdg (kk ξ hξ p e s m args below meth c H locs lsA C w S h)
/-- switches: one case, by its number; else, all numbers being another -/
theorem V_tsw {dflt lo hi : Int} {offs : Array Int} {len : Nat} {x : Int32} {off : Int} {tgt : Nat} (v : Int32) (hx : x = v) (hdg : decode κ.2.1.2.1 pc = .ok (.tableswitch dflt lo hi offs, len)) (hb : ¬ v.toInt < lo ∧ ¬ hi < v.toInt) (ho : offs[(v.toInt - lo).toNat]? = some off) (ht : (pc : Int) + off = (tgt : Int)) (kk : V κ fr tgt ls st n μ) : V κ fr pc ls (.int x :: st) n μ := by
  subst hx
  exact V_tableIn hdg hb.1 hb.2 ho ht kk
theorem V_tsw0 {dflt lo hi : Int} {offs : Array Int} {len : Nat} {x : Int32} {tgt : Nat} (vs : List Int32) (hx : ∀ v ∈ vs, ¬ x = v) (hdg : decode κ.2.1.2.1 pc = .ok (.tableswitch dflt lo hi offs, len)) (hv : vs = (List.range (hi + 1 - lo).toNat).map (fun (j : Nat) => Int32.ofInt (lo + (j : Int)))) (hb : -2147483648 ≤ lo ∧ hi < 2147483648) (ht : (pc : Int) + dflt = (tgt : Int)) (kk : V κ fr tgt ls st n μ) : V κ fr pc ls (.int x :: st) n μ := by
  refine V_tableOut hdg ?_ ht kk
  rcases Int.lt_or_le x.toInt lo with h1 | h1
  · exact Or.inl h1
  · rcases Int.lt_or_le hi x.toInt with h2 | h2
    · exact Or.inr h2
    · refine absurd ?_ (hx x ?_)
      · rfl
      · rw [hv]
        refine List.mem_map.mpr ⟨(x.toInt - lo).toNat, List.mem_range.mpr (by omega), ?_⟩
        rw [Int.toNat_of_nonneg (by omega), show lo + (x.toInt - lo) = x.toInt by omega]
        exact Int32.ofInt_toInt x
-- the end of a method
theorem zend {ξ : ZX} {s t : State} {args : Array Value} {H : Heap} {locs : List Loc} {r : Option Value} (w : zW ξ fr n μ H) (S : va_S (zA ξ) s.heap H locs) (ht : t.heap = H) : zQc ξ (fr, n, μ, r) args s (.returned (r.map (zvm ξ))) t :=
  ⟨rfl, by rw [ht]; exact w, S.F ht⟩
theorem V_iret {v : Int32} (hdg : decode κ.2.1.2.1 pc = .ok (.ireturn, 1)) (hr : κ.2.1.2.2.2 = some .int) (hz : κ.2.2.2.2.1 = (fr, n, μ, some (.int v))) : V κ fr pc ls [.int v] n μ :=
  fun ξ hξ p e s m args below meth c H locs lsA C w S h => W.widen C.2.2.1 C.2.2.2 (by
    rw [hz]
    exact W.iret C.1.1 C.1.2.1 (C.1.2.2.1.trans hr) (fun t ht _ => zend w S ht) S.2.2 hdg C.1.2.2.2.2.2.2.1)
theorem V_zret {v : Int32} (hdg : decode κ.2.1.2.1 pc = .ok (.ireturn, 1)) (hr : κ.2.1.2.2.2 = some .boolean) (hv : narrow .boolean (.int v) = .int v) (hz : κ.2.2.2.2.1 = (fr, n, μ, some (.int v))) : V κ fr pc ls [.int v] n μ :=
  fun ξ hξ p e s m args below meth c H locs lsA C w S h => W.widen C.2.2.1 C.2.2.2 (by
    rw [hz]
    exact W.zret C.1.1 C.1.2.1 (C.1.2.2.1.trans hr) hv (fun t ht _ => zend w S ht) S.2.2 hdg C.1.2.2.2.2.2.2.1)
theorem V_lret {v : Int64} (hdg : decode κ.2.1.2.1 pc = .ok (.lreturn, 1)) (hr : κ.2.1.2.2.2 = some .long) (hz : κ.2.2.2.2.1 = (fr, n, μ, some (.long v))) : V κ fr pc ls [.long v] n μ :=
  fun ξ hξ p e s m args below meth c H locs lsA C w S h => W.widen C.2.2.1 C.2.2.2 (by
    rw [hz]
    exact W.lret C.1.1 C.1.2.1 (C.1.2.2.1.trans hr) (fun t ht _ => zend w S ht) S.2.2 hdg C.1.2.2.2.2.2.2.1)
theorem V_aret {v : Nat} {C0 : String} (hdg : decode κ.2.1.2.1 pc = .ok (.areturn, 1)) (hr : κ.2.1.2.2.2 = some (.object C0)) (hz : κ.2.2.2.2.1 = (fr, n, μ, some (.ref v))) : V κ fr pc ls [.ref v] n μ :=
  fun ξ hξ p e s m args below meth c H locs lsA C w S h => W.widen C.2.2.1 C.2.2.2 (by
    rw [hz]
    exact W.aret C.1.1 C.1.2.1 (C.1.2.2.1.trans hr) (Or.inl ⟨_, rfl⟩) (Or.inr ⟨_, rfl⟩) (fun t ht _ => zend w S ht) S.2.2 hdg C.1.2.2.2.2.2.2.1)
theorem V_vret (hdg : decode κ.2.1.2.1 pc = .ok (.return_, 1)) (hr : κ.2.1.2.2.2 = none) (hz : κ.2.2.2.2.1 = (fr, n, μ, none)) : V κ fr pc ls [] n μ :=
  fun ξ hξ p e s m args below meth c H locs lsA C w S h => W.widen C.2.2.1 C.2.2.2 (by
    rw [hz]
    exact W.vret C.1.1 C.1.2.1 (C.1.2.2.1.trans hr) (fun t ht _ => zend w S ht) S.2.2 hdg C.1.2.2.2.2.2.2.1)
theorem V_drop (kk : V κ false pc ls st n μ) : V κ true pc ls st n μ :=
  fun ξ hξ p e s m args below meth c H locs lsA C w S h => kk ξ hξ p e s m args below meth c H locs lsA C ⟨w.1, (fun q => by cases q), w.2.2⟩ S h
end
-- from V to a contract
theorem zpc_blind (ξ : ZX) (av : List Value) (fr : Bool) (n : Nat) (μ : ZMem) : FrameBlind (zPc ξ av fr n μ) := by
  intro a U g mk q
  obtain ⟨h1, h2, hK, hO, hb, ⟨h3, h4⟩, ⟨h5, h6⟩, h7, h8, h9⟩ := q
  exact ⟨h1, h2, va_K.moved (u := U) (U := U.calling g mk a) (Vm.Alike.refl U.vm) hK, ⟨va_AO.moved (u := U) (U := U.calling g mk a) (Vm.Alike.refl U.vm) hO.1, va_AO.moved (u := U) (U := U.calling g mk a) (Vm.Alike.refl U.vm) hO.2.1, va_AO.moved (u := U) (U := U.calling g mk a) (Vm.Alike.refl U.vm) hO.2.2⟩, hb, ⟨va_Z.moved (u := U) (U := U.calling g mk a) (Vm.Alike.refl U.vm) h3, va_T.moved (u := U) (U := U.calling g mk a) (Vm.Alike.refl U.vm) h4⟩, ⟨va_Z.moved (u := U) (U := U.calling g mk a) (Vm.Alike.refl U.vm) h5, va_T.moved (u := U) (U := U.calling g mk a) (Vm.Alike.refl U.vm) h6⟩, ⟨va_X.moved (u := U) (U := U.calling g mk a) (Vm.Alike.refl U.vm) h7.1, h7.2⟩, ⟨fun q hq => va_Nw.same (u := U) (U := U.calling g mk a) rfl rfl (h8.1 q hq), va_Nw.same (u := U) (U := U.calling g mk a) rfl rfl h8.2⟩, fun i hi => vk_R.same (u := U) (U := U.calling g mk a) rfl (h9.1 i hi), vk_S.moved (u := U) (U := U.calling g mk a) (Vm.Alike.refl U.vm) h9.2.1, va_Z.moved (u := U) (U := U.calling g mk a) (Vm.Alike.refl U.vm) h9.2.2.1, h9.2.2.2.imp (va_Z.moved (u := U) (U := U.calling g mk a) (Vm.Alike.refl U.vm)) (va_Z.moved (u := U) (U := U.calling g mk a) (Vm.Alike.refl U.vm))⟩
theorem zE_to {ξ : ZX} {s U : State} {H : Heap} {locs : List Loc} (h : zE ξ s) (hU : U.heap = H) (hW : s.WarmedH U.vm) (hS : va_S (zA ξ) s.heap H locs) : zE ξ U := by
  obtain ⟨hK, hO, hb, ⟨h3, h4⟩, ⟨h5, h6⟩, h7, h8, h9⟩ := h
  subst hU
  have hv : s.vm.Alike U.vm := hW.alike
  exact ⟨va_K.moved hv hK, ⟨va_AO.moved hv hO.1, va_AO.moved hv hO.2.1, va_AO.moved hv hO.2.2⟩, Nat.le_trans hb hS.1, ⟨va_Z.moved hv (va_Z.kept h3 hS.2.1), va_T.moved hv (va_T.kept h4 hS.2.1)⟩, ⟨va_Z.moved hv (va_Z.kept h5 hS.2.1), va_T.moved hv (va_T.kept h6 hS.2.1)⟩, ⟨va_X.moved hv (va_X.kept h7.1 (hS.2.1 _ (Nat.lt_of_lt_of_le h7.2.1 hb) (Nat.not_le.mpr h7.2.1))), h7.2⟩, ⟨fun q hq => va_Nw.warmM hW (h8.1 q hq), va_Nw.warmF hW h8.2⟩, fun i hi => vk_R.warm hW (h9.1 i hi), vk_S.moved hv (vk_S.kept h9.2.1 hS.2.1), va_Z.moved hv (va_Z.kept h9.2.2.1 hS.2.1), h9.2.2.2.imp (fun h => va_Z.moved hv (va_Z.kept h hS.2.1)) (fun h => va_Z.moved hv (va_Z.kept h hS.2.1))⟩
theorem ZFn.of {l : Launch} {M : ZM} {R : Room} {av : List Value} {fr : Bool} {n : Nat} {μ : ZMem} {z : Bool × Nat × ZMem × Option Value} {ls : List (Nat × Value)} (hy : plainName M.1.cls = true) (hl : ∀ ξ, (lg_sl (av.map (zvm ξ))).length ≤ M.2.2.1) (hls : ∀ ξ, lv_args 0 (av.map (zvm ξ)) = ls.map (zq ξ)) (k : V (l, M, R, n, z, zany) fr 0 ls [] n μ) : ZFn l M R av fr n μ z := by
  intro ξ
  refine Met.ofW (cc := M.2.1) (maxL := M.2.2.1) (ret := M.2.2.2) hy rfl ?_
  intro p e s m args below meth c s₁ B hml hv
  obtain ⟨rfl, hw, hE⟩ := hv
  have hts := atoms_spec (ws := zwd M) B.pre
  have h1 := k ξ trivial p e s m (av.map (zvm ξ)).toArray below meth c s.heap [] _ ⟨⟨B.exec, B.bytes, B.returns, hml, findClass_of_methodNamed B.named, hts, B.notSynchronized, (name_of_methodNamed B.named B.method).1, hE⟩, Nat.le_refl _, by show n - n ≤ _; omega, by show zpre n - zpre n ≤ _; omega⟩ hw va_S.rf (by rw [← hls ξ]; exact lv_entry (av.map (zvm ξ)) (hl ξ))
  rw [lg_entry_eq]
  have e1 : n - n = 0 := by omega
  have e2 : zpre n - zpre n = 0 := by omega
  dsimp only at h1
  rw [e1, e2] at h1
  exact h1
