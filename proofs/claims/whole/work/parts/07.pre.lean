-- what the printed functions use
def FU : Nat := 2000
def FD : Nat := 40
def rmc (d C S : Nat) : Room := { frames := d, cells := C, slots := S, locals := 64 * d }
abbrev zkI (l : Launch) (M : ZM) (R : Room) (fr : Bool) (n : Nat) (z : ZMem × Int32) : ZK := (l, M, R, n, (fr, n, z.1, some (.int z.2)), zany)
abbrev zkJ (l : Launch) (M : ZM) (R : Room) (fr : Bool) (n : Nat) (z : ZMem × Int64) : ZK := (l, M, R, n, (fr, n, z.1, some (.long z.2)), zany)
abbrev zkA (l : Launch) (M : ZM) (R : Room) (fr : Bool) (n : Nat) (z : ZMem × Nat) : ZK := (l, M, R, n, (fr, n, z.1, some (.ref z.2)), zany)
abbrev zkV (l : Launch) (M : ZM) (R : Room) (fr : Bool) (n : Nat) (z : ZMem) : ZK := (l, M, R, n, (fr, n, z, none), zany)
abbrev zkC (l : Launch) (M : ZM) (R : Room) (n0 : Nat) (z : Nat × ZMem) : ZK := (l, M, R, n0, (true, z.1, z.2, none), zany)
def b01 (x : Int32) : Bool := x == 0 || x == 1
theorem b01_n {x : Int32} (h : b01 x = true) : narrow .boolean (.int x) = .int x := by
  unfold b01 at h
  simp only [Bool.or_eq_true, beq_iff_eq] at h
  rcases h with rfl | rfl <;> decide
theorem nz_of {y : Int32} (h : (!decide (y = 0)) = true) : ¬ y = 0 := by simpa using h
def isT (t : Nat) : Bool := decide (1010 ≤ t) && decide (t < 1018)
theorem isT_of {t : Nat} (h : isT t = true) : t - 1010 < 8 ∧ t = 1000 + (10 + (t - 1010)) := by
  unfold isT at h
  simp only [Bool.and_eq_true, decide_eq_true_eq] at h
  omega
theorem isC_mono {n n' c a : Nat} (h : isC n c a = true) (hn : n ≤ n') : isC n' c a = true := by
  unfold isC at h ⊢
  simp only [Bool.and_eq_true, decide_eq_true_eq] at h ⊢
  exact ⟨Nat.lt_of_lt_of_le h.1 hn, h.2⟩
theorem isC_new {n c : Nat} (h : nwo n c = true) : isC (n + 1) c n = true := by
  unfold nwo at h
  unfold isC
  simp only [Bool.and_eq_true, decide_eq_true_eq] at h ⊢
  exact ⟨by omega, h.2⟩
theorem isC_newa {n c N : Nat} (h : nwa n c N = true) : isC (n + 1) c n = true := by
  obtain ⟨h1, h2, -⟩ := nwa_of h
  unfold isC
  rw [h2]
  simp
def nxt (n n2 C S : Nat) : Bool := decide (n2 = n + C) && decide (zpre n2 = zpre n + S)
theorem nxt_of {n n2 C S : Nat} (h : nxt n n2 C S = true) : n2 = n + C ∧ zpre n2 = zpre n + S := by
  unfold nxt at h
  simp only [Bool.and_eq_true, decide_eq_true_eq] at h
  exact h
theorem zlsw {ps : List (Int × Int)} {d : Int} {x : Int32} (h : ∀ q ∈ ps, ¬ x = Int32.ofInt q.1) : Op.lookupswitch.offset ps d x.toInt = d := by
  induction ps with
  | nil => rfl
  | cons a r ih =>
    obtain ⟨a, o⟩ := a
    rw [Op.lookupswitch.offset_cons, if_neg, ih fun q hq => h q (List.mem_cons_of_mem _ hq)]
    intro e
    exact h (a, o) List.mem_cons_self (by rw [e]; exact (Int32.ofInt_toInt x).symm)
def cpok (a b : Nat) (i j k : Int32) : Bool := !decide (i < 0) && !decide (j < 0) && !decide (k < 0) && decide (i.toNatClampNeg + k.toNatClampNeg ≤ zsz a) && decide (j.toNatClampNeg + k.toNatClampNeg ≤ zsz b)
theorem cpok_of {a b : Nat} {i j k : Int32} (h : cpok a b i j k = true) : ¬ i < 0 ∧ ¬ j < 0 ∧ ¬ k < 0 ∧ i.toNatClampNeg + k.toNatClampNeg ≤ zsz a ∧ j.toNatClampNeg + k.toNatClampNeg ≤ zsz b := by
  unfold cpok at h
  simp only [Bool.and_eq_true, Bool.not_eq_true', decide_eq_false_iff_not, decide_eq_true_eq] at h
  exact ⟨h.1.1.1.1, h.1.1.1.2, h.1.1.2, h.1.2, h.2⟩
section
variable {κ : ZK} {fr : Bool} {pc n : Nat} {ls ls' : List (Nat × Value)} {st : List Value} {μ μ' : ZMem}
theorem V_inc {x dx : Int32} {i : Nat} {d : Int} (k : Nat) (ks : List Nat) (hdg : decode κ.2.1.2.1 pc = .ok (.iinc i d, 3)) (hl : ls[k]? = some (i, .int x)) (hn : i < κ.2.1.2.2.1) (hd : Int32.ofInt d = dx) (hp : lv_pick (zst i (.int (x + dx)) ls) ks = ls') (kk : V κ fr (pc + 3) ls' st n μ) : V κ fr pc ls st n μ := by
  subst hd
  exact V_iinc k ks hdg hl hn hp kk
theorem V_lsw {dflt : Int} {ps : Array (Int × Int)} {len : Nat} {x : Int32} {off : Int} {tgt : Nat} (v : Int32) (hx : x = v) (hdg : decode κ.2.1.2.1 pc = .ok (.lookupswitch dflt ps, len)) (hp : (ps.toList.zip (ps.toList.drop 1)).all (fun (a, next) => a.1 < next.1) = true) (ho : Op.lookupswitch.offset ps.toList dflt v.toInt = off) (ht : (pc : Int) + off = (tgt : Int)) (kk : V κ fr tgt ls st n μ) : V κ fr pc ls (.int x :: st) n μ := by
  subst hx
  exact V_lookup hdg hp ho ht kk
theorem V_lsw0 {dflt : Int} {ps : Array (Int × Int)} {len : Nat} {x : Int32} {tgt : Nat} (vs : List Int32) (hx : ∀ v ∈ vs, ¬ x = v) (hdg : decode κ.2.1.2.1 pc = .ok (.lookupswitch dflt ps, len)) (hp : (ps.toList.zip (ps.toList.drop 1)).all (fun (a, next) => a.1 < next.1) = true) (hv : vs = ps.toList.map (fun q => Int32.ofInt q.1)) (ht : (pc : Int) + dflt = (tgt : Int)) (kk : V κ fr tgt ls st n μ) : V κ fr pc ls (.int x :: st) n μ :=
  V_lookup hdg hp (zlsw fun q hq => hx _ (by rw [hv]; exact List.mem_map.mpr ⟨q, hq, rfl⟩)) ht kk
theorem V_tlen {t : Nat} (ht : isT t = true) (hown : κ.2.1.1.cls = RX5) (hdg : decode κ.2.1.2.1 pc = .ok (.invokevirtual 112, 3)) (hR : 3 ≤ κ.2.2.1.frames ∧ 160 ≤ κ.2.2.1.locals) (hcat : (st.map fun v => v.category).sum ≤ 8) (kk : V κ fr (pc + 3) ls (.int (Int32.ofNat (zslen (t - 1010))) :: st) n μ) : V κ fr pc ls (.ref t :: st) n μ := by
  obtain ⟨h1, h2⟩ := isT_of ht
  rw [h2]
  exact V_callT (R1 := rmd 2) (As := []) (r := some (.int (Int32.ofNat (zslen (t - 1010))))) hdg (by rw [hown]; exact sJ_5_len) h1 rfl (tJ_len h1) rfl rfl ⟨hR.1, Nat.le_trans (Nat.le_of_ble_eq_true rfl) hR.2⟩ hcat ⟨rfl, rfl⟩ kk
theorem V_tchr {t : Nat} {i : Int32} (ht : isT t = true) (hi : inN i (zslen (t - 1010)) = true) (hown : κ.2.1.1.cls = RX5) (hdg : decode κ.2.1.2.1 pc = .ok (.invokevirtual 117, 3)) (hR : 5 ≤ κ.2.2.1.frames ∧ 300 ≤ κ.2.2.1.locals) (hcat : (st.map fun v => v.category).sum ≤ 8) (kk : V κ fr (pc + 3) ls (.int (zschr (t - 1010) i.toNatClampNeg) :: st) n μ) : V κ fr pc ls (.int i :: .ref t :: st) n μ := by
  obtain ⟨h1, h2⟩ := isT_of ht
  rw [h2]
  exact V_callT (R1 := rmd 4) (As := [.int i]) (r := some (.int (zschr (t - 1010) i.toNatClampNeg))) hdg (by rw [hown]; exact sJ_5_chr) h1 rfl (tJ_chr h1 hi) rfl rfl ⟨hR.1, Nat.le_trans (Nat.le_of_ble_eq_true rfl) hR.2⟩ hcat ⟨rfl, rfl⟩ kk
theorem V_alenJ {a : Nat} (hdg : decode κ.2.1.2.1 pc = .ok (.arraylength, 1)) (hc : isC n 101 a = true) (kk : V κ fr (pc + 1) ls (.int (Int32.ofNat (zsz a)) :: st) n μ) : V κ fr pc ls (.ref a :: st) n μ :=
  fun ξ hξ p e s m args below meth c H locs lsA C w S h => va_alen (x := (zsz a, .inr (.inl (zL μ a)))) C.1.1 C.1.2.1 C.1.2.2.2.2.2.2.2.2.1 w.1 a 1 (by rw [zws_get (isC_lt hc), zent_lng (isC_cl hc)]) rfl rfl hdg (kk ξ hξ p e s m args below meth c H locs lsA C w S h)
theorem V_alenI {a : Nat} (hdg : decode κ.2.1.2.1 pc = .ok (.arraylength, 1)) (hc : isC n 100 a = true) (kk : V κ fr (pc + 1) ls (.int (Int32.ofNat (zsz a)) :: st) n μ) : V κ fr pc ls (.ref a :: st) n μ :=
  fun ξ hξ p e s m args below meth c H locs lsA C w S h => va_alen (x := (zsz a, .inl (zI μ a))) C.1.1 C.1.2.1 C.1.2.2.2.2.2.2.2.2.1 w.1 a 0 (by rw [zws_get (isC_lt hc), zent_int (isC_cl hc)]) rfl rfl hdg (kk ξ hξ p e s m args below meth c H locs lsA C w S h)
end
