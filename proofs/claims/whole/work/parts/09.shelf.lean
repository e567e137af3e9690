def mX0_init : ZM := (yX0_init, cX0_init, 1, none)
def mX0_forget : ZM := (yX0_forget, cX0_forget, 1, none)
def mX0_bodyKept : ZM := (yX0_bodyKept, cX0_bodyKept, 2, some .int)
def mX6_isKind : ZM := (yX6_isKind, cX6_isKind, 1, some .boolean)
def mX0_bodyAt : ZM := (yX0_bodyAt, cX0_bodyAt, 2, some .int)
def mX6_kindAbove : ZM := (yX6_kindAbove, cX6_kindAbove, 1, some .int)
def mX0_begin : ZM := (yX0_begin, cX0_begin, 2, none)
def mX0_runFrom : ZM := (yX0_runFrom, cX0_runFrom, 10, some .int)
def mX0_run : ZM := (yX0_run, cX0_run, 5, some .int)
def mX3_init : ZM := (yX3_init, cX3_init, 1, none)
def mX3_isRow : ZM := (yX3_isRow, cX3_isRow, 1, some .boolean)
def mX3_isPerson : ZM := (yX3_isPerson, cX3_isPerson, 1, some .boolean)
def mX3_holdNothing : ZM := (yX3_holdNothing, cX3_holdNothing, 1, none)
def mX3_holdPerson : ZM := (yX3_holdPerson, cX3_holdPerson, 2, none)
def mX3_holdRow : ZM := (yX3_holdRow, cX3_holdRow, 4, none)
def mX3_hasElement : ZM := (yX3_hasElement, cX3_hasElement, 2, some .boolean)
def mX3_hasStretch : ZM := (yX3_hasStretch, cX3_hasStretch, 3, some .boolean)
def mX3_put : ZM := (yX3_put, cX3_put, 4, none)
def mX3_takeFrom : ZM := (yX3_takeFrom, cX3_takeFrom, 5, none)
def mX3_longAt : ZM := (yX3_longAt, cX3_longAt, 2, some .long)
def mX3_intAt : ZM := (yX3_intAt, cX3_intAt, 2, some .int)
-- WhoComplainsCarries$Moves.<init>
def tbX0_init_0 : List (Nat × Instr × Nat) := [(0, .aload_n 0, 1), (1, .invokespecial 3, 3), (4, .aload_n 0, 1), (5, .bipush 20, 2), (7, .newarray .int, 2), (9, .putfield 9, 3), (12, .aload_n 0, 1), (13, .iconst 0, 1), (14, .putfield 15, 3), (17, .aload_n 0, 1), (18, .iconst 0, 1), (19, .putfield 19, 3), (22, .aload_n 0, 1), (23, .iconst 0, 1), (24, .putfield 22, 3), (27, .aload_n 0, 1), (28, .iconst 0, 1), (29, .putfield 25, 3), (32, .return_, 1)]
theorem tbX0_init_0_ok : ∀ q ∈ tbX0_init_0, decode cX0_init q.1 = .ok (q.2.1, q.2.2) := by decide +kernel
theorem wO0_3 : Cond.methodLink RX0 3 Lib.objectInit ∈ zT := zin (i := 194) (by decide +kernel) rfl
theorem wOi : Cond.instanceMethod Lib.objectInit ∈ zT := zin (i := 21) (by decide +kernel) rfl
theorem wOc : Cond.code Lib.objectInit ⟨#[0xb1]⟩ 1 none ∈ zT := zin (i := 22) (by decide +kernel) rfl
theorem wA100 : Cond.arrayClass (newarray.typeOf .int) ∈ zT := zin (i := 162) (by decide +kernel) rfl
theorem fF0_9 : zF RX0 9 0 0 := ⟨_, rfl, by decide, zin (i := 195) (by decide +kernel) rfl⟩
theorem fF0_15 : zF RX0 15 0 1 := ⟨_, rfl, by decide, zin (i := 196) (by decide +kernel) rfl⟩
theorem fF0_19 : zF RX0 19 0 2 := ⟨_, rfl, by decide, zin (i := 198) (by decide +kernel) rfl⟩
theorem fF0_22 : zF RX0 22 0 3 := ⟨_, rfl, by decide, zin (i := 199) (by decide +kernel) rfl⟩
theorem fF0_25 : zF RX0 25 0 4 := ⟨_, rfl, by decide, zin (i := 200) (by decide +kernel) rfl⟩
def fX0_init (n0 : Nat) (v0 : Nat) (μ : ZMem) : Option (Nat × ZMem) := chk (isC n0 0 v0) (chk (nwa n0 100 20) (chk (zrm (n0 + 1) n0 1 20) (lt (zmk μ n0) (fun μ3 => lt (zpR μ3 v0 0 n0) (fun μ6 => lt (zpI μ6 v0 1 (0 : Int32)) (fun μ8 => lt (zpI μ8 v0 2 (0 : Int32)) (fun μ10 => lt (zpI μ10 v0 3 (0 : Int32)) (fun μ12 => lt (zpI μ12 v0 4 (0 : Int32)) (fun μ14 => some ((n0 + 1), μ14))))))))))
theorem tX0_init {l : Launch} {n0 : Nat} {v0 : Nat} {μ : ZMem} {z : Nat × ZMem} (h : fX0_init n0 v0 μ = some z) : ZFn l mX0_init (rmc 1 1 20) [.ref v0] true n0 μ (true, z.1, z.2, none) := by
  unfold fX0_init at h
  have hn0 : n0 ≤ n0 := Nat.le_refl n0
  obtain ⟨c_v0, h⟩ := chk_some h
  refine ZFn.of (ls := [(0, .ref v0)]) (by decide) (fun ξ => Nat.le_of_ble_eq_true rfl) (fun ξ => rfl) ?_
  refine V_aload_n 0 (zdk tbX0_init_0_ok 0 rfl) rfl ?_
  refine V_obj (zdk tbX0_init_0_ok 1 rfl) wO0_3 wOi wOc ⟨Nat.le_of_ble_eq_true rfl, Nat.le_of_ble_eq_true rfl⟩ (Nat.le_of_ble_eq_true rfl) ?_
  refine V_aload_n 0 (zdk tbX0_init_0_ok 2 rfl) rfl ?_
  refine V_bipush (v := 20) (zdk tbX0_init_0_ok 3 rfl) rfl ?_
  obtain ⟨w1, h⟩ := chk_some h
  obtain ⟨w2, h⟩ := chk_some h
  obtain ⟨μ3, e4, h⟩ := lt_some h
  refine V_newi (zdk tbX0_init_0_ok 4 rfl) rfl (by decide) w1 wA100 (zrm_room w2 rfl rfl rfl) e4 ?_
  replace c_v0 := isC_mono c_v0 (Nat.le_succ n0)
  replace hn0 := Nat.le_succ_of_le hn0
  have c5 := isC_newa w1
  obtain ⟨μ6, e7, h⟩ := lt_some h
  refine V_putR (zdk tbX0_init_0_ok 5 rfl) c_v0 fF0_9 rfl (Or.inr ⟨rfl, fun q hq => by cases hq; rfl⟩) rfl (fun _ => rfl) (fun _ => rfl) e7 ?_
  refine V_aload_n 0 (zdk tbX0_init_0_ok 6 rfl) rfl ?_
  refine V_iconst (v := 0) (zdk tbX0_init_0_ok 7 rfl) rfl ?_
  obtain ⟨μ8, e9, h⟩ := lt_some h
  refine V_putI (zdk tbX0_init_0_ok 8 rfl) c_v0 fF0_15 rfl rfl rfl e9 ?_
  refine V_aload_n 0 (zdk tbX0_init_0_ok 9 rfl) rfl ?_
  refine V_iconst (v := 0) (zdk tbX0_init_0_ok 10 rfl) rfl ?_
  obtain ⟨μ10, e11, h⟩ := lt_some h
  refine V_putI (zdk tbX0_init_0_ok 11 rfl) c_v0 fF0_19 rfl rfl rfl e11 ?_
  refine V_aload_n 0 (zdk tbX0_init_0_ok 12 rfl) rfl ?_
  refine V_iconst (v := 0) (zdk tbX0_init_0_ok 13 rfl) rfl ?_
  obtain ⟨μ12, e13, h⟩ := lt_some h
  refine V_putI (zdk tbX0_init_0_ok 14 rfl) c_v0 fF0_22 rfl rfl rfl e13 ?_
  refine V_aload_n 0 (zdk tbX0_init_0_ok 15 rfl) rfl ?_
  refine V_iconst (v := 0) (zdk tbX0_init_0_ok 16 rfl) rfl ?_
  obtain ⟨μ14, e15, h⟩ := lt_some h
  refine V_putI (zdk tbX0_init_0_ok 17 rfl) c_v0 fF0_25 rfl rfl rfl e15 ?_
  cases h
  exact V_vret (zdk tbX0_init_0_ok 18 rfl) rfl rfl

-- WhoComplainsCarries$Moves.forget
def tbX0_forget_0 : List (Nat × Instr × Nat) := [(0, .aload_n 0, 1), (1, .iconst 0, 1), (2, .putfield 15, 3), (5, .return_, 1)]
theorem tbX0_forget_0_ok : ∀ q ∈ tbX0_forget_0, decode cX0_forget q.1 = .ok (q.2.1, q.2.2) := by decide +kernel
def fX0_forget (n : Nat) (v0 : Nat) (μ : ZMem) : Option (ZMem) := chk (isC n 0 v0) (lt (zpI μ v0 1 (0 : Int32)) (fun μ1 => some μ1))
theorem tX0_forget {l : Launch} {fr : Bool} {n : Nat} {v0 : Nat} {μ : ZMem} {z : ZMem} (h : fX0_forget n v0 μ = some z) : ZFn l mX0_forget (rmd 1) [.ref v0] fr n μ (fr, n, z, none) := by
  unfold fX0_forget at h
  obtain ⟨c_v0, h⟩ := chk_some h
  refine ZFn.of (ls := [(0, .ref v0)]) (by decide) (fun ξ => Nat.le_of_ble_eq_true rfl) (fun ξ => rfl) ?_
  refine V_aload_n 0 (zdk tbX0_forget_0_ok 0 rfl) rfl ?_
  refine V_iconst (v := 0) (zdk tbX0_forget_0_ok 1 rfl) rfl ?_
  obtain ⟨μ1, e2, h⟩ := lt_some h
  refine V_putI (zdk tbX0_forget_0_ok 2 rfl) c_v0 fF0_15 rfl rfl rfl e2 ?_
  cases h
  exact V_vret (zdk tbX0_forget_0_ok 3 rfl) rfl rfl

-- WhoComplainsCarries$Moves.bodyKept
def tbX0_bodyKept_0 : List (Nat × Instr × Nat) := [(0, .iload_n 1, 1), (1, .iconst 0, 1), (2, .aload_n 0, 1), (3, .getfield 15, 3), (6, .bipush 20, 2), (8, .invokestatic 28, 3), (11, .iconst 1, 1), (12, .isub, 1), (13, .invokestatic 34, 3), (16, .ifCond .eq 12, 3), (19, .aload_n 0, 1), (20, .getfield 9, 3), (23, .iload_n 1, 1), (24, .iaload, 1), (25, .goto 4, 3), (28, .iconst (-1), 1), (29, .ireturn, 1)]
theorem tbX0_bodyKept_0_ok : ∀ q ∈ tbX0_bodyKept_0, decode cX0_bodyKept q.1 = .ok (q.2.1, q.2.2) := by decide +kernel
theorem wM0_28 : Cond.methodLink RX0 28 Lib.Math.min.name ∈ zT := zin (i := 794) (by decide +kernel) rfl
theorem wCX6_isIn : zCW mX6_isIn 3 := ⟨zin (i := 1) (by decide +kernel) rfl, zin (i := 252) (by decide +kernel) rfl, by decide +kernel, by decide +kernel, by decide +kernel⟩
theorem sC0_34 : zCN RX0 34 mX6_isIn 3 := ⟨by decide +kernel, zin (i := 251) (by decide +kernel) rfl, wCX6_isIn⟩
def fX0_bodyKept_b29 (n : Nat) (s0 : Int32) (μ : ZMem) : Option (ZMem × Int32) := some (μ, s0)
theorem tX0_bodyKept_b29 {l : Launch} {fr : Bool} {n : Nat} {z : ZMem × Int32} (s0 : Int32) (μ : ZMem) (h : fX0_bodyKept_b29 n s0 μ = some z) : V (zkI l mX0_bodyKept (rmd 2) fr n z) fr 29 [] [.int s0] n μ := by
  unfold fX0_bodyKept_b29 at h
  cases h
  exact V_iret (zdk tbX0_bodyKept_0_ok 16 rfl) rfl rfl
def fX0_bodyKept (n : Nat) (v0 : Nat) (v1 : Int32) (μ : ZMem) : Option (ZMem × Int32) := chk (isC n 0 v0) (bd2 (fX6_isIn n v1 (0 : Int32) ((if (20 : Int32) < (zI μ v0 1) then (20 : Int32) else (zI μ v0 1)) - (1 : Int32)) μ) (fun μ2 r3 => (if r3 = 0 then (fX0_bodyKept_b29 n (-1 : Int32) μ2) else bd1 (zRc n 100 μ2 v0 0) (fun r5 => chk (inb v1 r5) ((fX0_bodyKept_b29 n (zI μ2 r5 v1.toNatClampNeg) μ2))))))
theorem tX0_bodyKept {l : Launch} {fr : Bool} {n : Nat} {v0 : Nat} {v1 : Int32} {μ : ZMem} {z : ZMem × Int32} (h : fX0_bodyKept n v0 v1 μ = some z) : ZFn l mX0_bodyKept (rmd 2) [.ref v0, .int v1] fr n μ (fr, n, z.1, some (.int z.2)) := by
  unfold fX0_bodyKept at h
  obtain ⟨c_v0, h⟩ := chk_some h
  refine ZFn.of (ls := [(0, .ref v0), (1, .int v1)]) (by decide) (fun ξ => Nat.le_of_ble_eq_true rfl) (fun ξ => rfl) ?_
  refine V_iload_n 1 (zdk tbX0_bodyKept_0_ok 0 rfl) rfl ?_
  refine V_iconst (v := 0) (zdk tbX0_bodyKept_0_ok 1 rfl) rfl ?_
  refine V_aload_n 0 (zdk tbX0_bodyKept_0_ok 2 rfl) rfl ?_
  refine V_getI (zdk tbX0_bodyKept_0_ok 3 rfl) c_v0 fF0_15 rfl ?_
  refine V_bipush (v := 20) (zdk tbX0_bodyKept_0_ok 4 rfl) rfl ?_
  refine V_min (zdk tbX0_bodyKept_0_ok 5 rfl) wM0_28 wMs_min wMi wMc_min ⟨Nat.le_of_ble_eq_true rfl, Nat.le_of_ble_eq_true rfl⟩ (Nat.le_of_ble_eq_true rfl) ?_
  refine V_iconst (v := 1) (zdk tbX0_bodyKept_0_ok 6 rfl) rfl ?_
  refine V_isub (zdk tbX0_bodyKept_0_ok 7 rfl) ?_
  obtain ⟨μ2, r3, q1, h⟩ := bd2_some h
  refine V_callN (R1 := (rmd 1)) (As := [.int v1, .int (0 : Int32), .int ((if (20 : Int32) < (zI μ v0 1) then (20 : Int32) else (zI μ v0 1)) - (1 : Int32))]) (r := (some (.int r3))) (zdk tbX0_bodyKept_0_ok 8 rfl) sC0_34 (tX6_isIn q1) rfl rfl ⟨Nat.le_of_ble_eq_true rfl, Nat.le_of_ble_eq_true rfl⟩ (Nat.le_of_ble_eq_true rfl) ⟨rfl, rfl⟩ id ?_
  refine V_if_eq (tgt := 28) (zdk tbX0_bodyKept_0_ok 9 rfl) (by decide) (fun c4 => ?_) (fun c4 => ?_)
  · replace h := ite_t h c4
    refine V_iconst (v := (-1)) (zdk tbX0_bodyKept_0_ok 15 rfl) rfl ?_
    refine V_sub (ls' := []) [] rfl ?_
    exact tX0_bodyKept_b29 (-1 : Int32) μ2  h
  · replace h := ite_f h c4
    refine V_aload_n 0 (zdk tbX0_bodyKept_0_ok 10 rfl) rfl ?_
    obtain ⟨r5, q6, h⟩ := bd1_some h
    obtain ⟨q6, c_r5⟩ := zRc_some q6
    refine V_getR (zdk tbX0_bodyKept_0_ok 11 rfl) c_v0 fF0_9 rfl q6 ?_
    refine V_iload_n 1 (zdk tbX0_bodyKept_0_ok 12 rfl) rfl ?_
    obtain ⟨b7, h⟩ := chk_some h
    refine V_iald (zdk tbX0_bodyKept_0_ok 13 rfl) c_r5 b7 ?_
    refine V_goto (tgt := 29) (zdk tbX0_bodyKept_0_ok 14 rfl) (by decide) ?_
    refine V_sub (ls' := []) [] rfl ?_
    exact tX0_bodyKept_b29 (zI μ2 r5 v1.toNatClampNeg) μ2  h

-- WhoComplainsCarries.isKind
def tbX6_isKind_0 : List (Nat × Instr × Nat) := [(0, .iload_n 0, 1), (1, .iconst 0, 1), (2, .bipush 6, 2), (4, .invokestatic 153, 3), (7, .ireturn, 1)]
theorem tbX6_isKind_0_ok : ∀ q ∈ tbX6_isKind_0, decode cX6_isKind q.1 = .ok (q.2.1, q.2.2) := by decide +kernel
theorem sC6_153 : zCS RX6 153 mX6_isIn 3 := ⟨zin (i := 250) (by decide +kernel) rfl, zin (i := 251) (by decide +kernel) rfl, wCX6_isIn⟩
def fX6_isKind (n : Nat) (v0 : Int32) (μ : ZMem) : Option (ZMem × Int32) := bd2 (fX6_isIn n v0 (0 : Int32) (6 : Int32) μ) (fun μ2 r3 => chk (b01 r3) (some (μ2, r3)))
theorem tX6_isKind {l : Launch} {fr : Bool} {n : Nat} {v0 : Int32} {μ : ZMem} {z : ZMem × Int32} (h : fX6_isKind n v0 μ = some z) : ZFn l mX6_isKind (rmd 2) [.int v0] fr n μ (fr, n, z.1, some (.int z.2)) := by
  unfold fX6_isKind at h
  refine ZFn.of (ls := [(0, .int v0)]) (by decide) (fun ξ => Nat.le_of_ble_eq_true rfl) (fun ξ => rfl) ?_
  refine V_iload_n 0 (zdk tbX6_isKind_0_ok 0 rfl) rfl ?_
  refine V_iconst (v := 0) (zdk tbX6_isKind_0_ok 1 rfl) rfl ?_
  refine V_bipush (v := 6) (zdk tbX6_isKind_0_ok 2 rfl) rfl ?_
  obtain ⟨μ2, r3, q1, h⟩ := bd2_some h
  refine V_callS (R1 := (rmd 1)) (As := [.int v0, .int (0 : Int32), .int (6 : Int32)]) (r := (some (.int r3))) (zdk tbX6_isKind_0_ok 3 rfl) sC6_153 (tX6_isIn q1) rfl rfl ⟨Nat.le_of_ble_eq_true rfl, Nat.le_of_ble_eq_true rfl⟩ (Nat.le_of_ble_eq_true rfl) ⟨rfl, rfl⟩ id ?_
  obtain ⟨b4, h⟩ := chk_some h
  cases h
  exact V_zret (zdk tbX6_isKind_0_ok 4 rfl) rfl (b01_n b4) rfl

-- WhoComplainsCarries$Moves.bodyAt
def tbX0_bodyAt_0 : List (Nat × Instr × Nat) := [(0, .iload_n 0, 1), (1, .invokestatic 59, 3), (4, .ifCond .eq 24, 3), (7, .iload_n 1, 1), (8, .iconst 0, 1), (9, .iconst 2, 1), (10, .invokestatic 34, 3), (13, .ifCond .eq 15, 3), (16, .getstatic 63, 3), (19, .iload_n 0, 1), (20, .iconst 3, 1), (21, .imul, 1), (22, .iload_n 1, 1), (23, .iadd, 1), (24, .iaload, 1), (25, .goto 4, 3), (28, .iconst 0, 1), (29, .ireturn, 1)]
theorem tbX0_bodyAt_0_ok : ∀ q ∈ tbX0_bodyAt_0, decode cX0_bodyAt q.1 = .ok (q.2.1, q.2.2) := by decide +kernel
theorem wCX6_isKind : zCW mX6_isKind 1 := ⟨zin (i := 1) (by decide +kernel) rfl, zin (i := 351) (by decide +kernel) rfl, by decide +kernel, by decide +kernel, by decide +kernel⟩
theorem sC0_59 : zCN RX0 59 mX6_isKind 1 := ⟨by decide +kernel, zin (i := 350) (by decide +kernel) rfl, wCX6_isKind⟩
def fX0_bodyAt_b29 (n : Nat) (s0 : Int32) (μ : ZMem) : Option (ZMem × Int32) := some (μ, s0)
theorem tX0_bodyAt_b29 {l : Launch} {fr : Bool} {n : Nat} {z : ZMem × Int32} (s0 : Int32) (μ : ZMem) (h : fX0_bodyAt_b29 n s0 μ = some z) : V (zkI l mX0_bodyAt (rmd 3) fr n z) fr 29 [] [.int s0] n μ := by
  unfold fX0_bodyAt_b29 at h
  cases h
  exact V_iret (zdk tbX0_bodyAt_0_ok 17 rfl) rfl rfl
def fX0_bodyAt_b28 (n : Nat) (μ : ZMem) : Option (ZMem × Int32) := (fX0_bodyAt_b29 n (0 : Int32) μ)
theorem tX0_bodyAt_b28 {l : Launch} {fr : Bool} {n : Nat} {z : ZMem × Int32} (μ : ZMem) (h : fX0_bodyAt_b28 n μ = some z) : V (zkI l mX0_bodyAt (rmd 3) fr n z) fr 28 [] [] n μ := by
  unfold fX0_bodyAt_b28 at h
  refine V_iconst (v := 0) (zdk tbX0_bodyAt_0_ok 16 rfl) rfl ?_
  exact tX0_bodyAt_b29 (0 : Int32) μ  h
def fX0_bodyAt (n : Nat) (v0 : Int32) (v1 : Int32) (μ : ZMem) : Option (ZMem × Int32) := bd2 (fX6_isKind n v0 μ) (fun μ2 r3 => (if r3 = 0 then (fX0_bodyAt_b28 n  μ2) else bd2 (fX6_isIn n v1 (0 : Int32) (2 : Int32) μ2) (fun μ6 r7 => (if r7 = 0 then (fX0_bodyAt_b28 n  μ6) else chk (inN ((v0 * (3 : Int32)) + v1) 21) ((fX0_bodyAt_b29 n (zBO ((v0 * (3 : Int32)) + v1).toNatClampNeg) μ6))))))
theorem tX0_bodyAt {l : Launch} {fr : Bool} {n : Nat} {v0 : Int32} {v1 : Int32} {μ : ZMem} {z : ZMem × Int32} (h : fX0_bodyAt n v0 v1 μ = some z) : ZFn l mX0_bodyAt (rmd 3) [.int v0, .int v1] fr n μ (fr, n, z.1, some (.int z.2)) := by
  unfold fX0_bodyAt at h
  refine ZFn.of (ls := [(0, .int v0), (1, .int v1)]) (by decide) (fun ξ => Nat.le_of_ble_eq_true rfl) (fun ξ => rfl) ?_
  refine V_iload_n 0 (zdk tbX0_bodyAt_0_ok 0 rfl) rfl ?_
  obtain ⟨μ2, r3, q1, h⟩ := bd2_some h
  refine V_callN (R1 := (rmd 2)) (As := [.int v0]) (r := (some (.int r3))) (zdk tbX0_bodyAt_0_ok 1 rfl) sC0_59 (tX6_isKind q1) rfl rfl ⟨Nat.le_of_ble_eq_true rfl, Nat.le_of_ble_eq_true rfl⟩ (Nat.le_of_ble_eq_true rfl) ⟨rfl, rfl⟩ id ?_
  refine V_if_eq (tgt := 28) (zdk tbX0_bodyAt_0_ok 2 rfl) (by decide) (fun c4 => ?_) (fun c4 => ?_)
  · replace h := ite_t h c4
    refine V_sub (ls' := []) [] rfl ?_
    exact tX0_bodyAt_b28  μ2  h
  · replace h := ite_f h c4
    refine V_iload_n 1 (zdk tbX0_bodyAt_0_ok 3 rfl) rfl ?_
    refine V_iconst (v := 0) (zdk tbX0_bodyAt_0_ok 4 rfl) rfl ?_
    refine V_iconst (v := 2) (zdk tbX0_bodyAt_0_ok 5 rfl) rfl ?_
    obtain ⟨μ6, r7, q5, h⟩ := bd2_some h
    refine V_callN (R1 := (rmd 1)) (As := [.int v1, .int (0 : Int32), .int (2 : Int32)]) (r := (some (.int r7))) (zdk tbX0_bodyAt_0_ok 6 rfl) sC0_34 (tX6_isIn q5) rfl rfl ⟨Nat.le_of_ble_eq_true rfl, Nat.le_of_ble_eq_true rfl⟩ (Nat.le_of_ble_eq_true rfl) ⟨rfl, rfl⟩ id ?_
    refine V_if_eq (tgt := 28) (zdk tbX0_bodyAt_0_ok 7 rfl) (by decide) (fun c8 => ?_) (fun c8 => ?_)
    · replace h := ite_t h c8
      refine V_sub (ls' := []) [] rfl ?_
      exact tX0_bodyAt_b28  μ6  h
    · replace h := ite_f h c8
      refine V_getBO rfl (zdk tbX0_bodyAt_0_ok 8 rfl) ?_
      refine V_iload_n 0 (zdk tbX0_bodyAt_0_ok 9 rfl) rfl ?_
      refine V_iconst (v := 3) (zdk tbX0_bodyAt_0_ok 10 rfl) rfl ?_
      refine V_imul (zdk tbX0_bodyAt_0_ok 11 rfl) ?_
      refine V_iload_n 1 (zdk tbX0_bodyAt_0_ok 12 rfl) rfl ?_
      refine V_iadd (zdk tbX0_bodyAt_0_ok 13 rfl) ?_
      obtain ⟨b9, h⟩ := chk_some h
      refine V_ldBO (zdk tbX0_bodyAt_0_ok 14 rfl) b9 ?_
      refine V_goto (tgt := 29) (zdk tbX0_bodyAt_0_ok 15 rfl) (by decide) ?_
      refine V_sub (ls' := []) [] rfl ?_
      exact tX0_bodyAt_b29 (zBO ((v0 * (3 : Int32)) + v1).toNatClampNeg) μ6  h

-- WhoComplainsCarries.kindAbove
def tbX6_kindAbove_0 : List (Nat × Instr × Nat) := [(0, .iload_n 0, 1), (1, .invokestatic 119, 3), (4, .ifCond .eq 11, 3), (7, .getstatic 287, 3), (10, .iload_n 0, 1), (11, .iaload, 1), (12, .goto 4, 3), (15, .iconst (-1), 1), (16, .ireturn, 1)]
theorem tbX6_kindAbove_0_ok : ∀ q ∈ tbX6_kindAbove_0, decode cX6_kindAbove q.1 = .ok (q.2.1, q.2.2) := by decide +kernel
theorem sC6_119 : zCS RX6 119 mX6_isKind 1 := ⟨zin (i := 349) (by decide +kernel) rfl, zin (i := 350) (by decide +kernel) rfl, wCX6_isKind⟩
theorem wKA_287 : Cond.fieldLink RX6 287 RX6 "KIND_ABOVE" "[I" ∈ zT := zin (i := 358) (by decide +kernel) rfl
def fX6_kindAbove_b16 (n : Nat) (s0 : Int32) (μ : ZMem) : Option (ZMem × Int32) := some (μ, s0)
theorem tX6_kindAbove_b16 {l : Launch} {fr : Bool} {n : Nat} {z : ZMem × Int32} (s0 : Int32) (μ : ZMem) (h : fX6_kindAbove_b16 n s0 μ = some z) : V (zkI l mX6_kindAbove (rmd 3) fr n z) fr 16 [] [.int s0] n μ := by
  unfold fX6_kindAbove_b16 at h
  cases h
  exact V_iret (zdk tbX6_kindAbove_0_ok 8 rfl) rfl rfl
def fX6_kindAbove (n : Nat) (v0 : Int32) (μ : ZMem) : Option (ZMem × Int32) := bd2 (fX6_isKind n v0 μ) (fun μ2 r3 => (if r3 = 0 then (fX6_kindAbove_b16 n (-1 : Int32) μ2) else chk (inN v0 7) ((fX6_kindAbove_b16 n (zKA v0.toNatClampNeg) μ2))))
theorem tX6_kindAbove {l : Launch} {fr : Bool} {n : Nat} {v0 : Int32} {μ : ZMem} {z : ZMem × Int32} (h : fX6_kindAbove n v0 μ = some z) : ZFn l mX6_kindAbove (rmd 3) [.int v0] fr n μ (fr, n, z.1, some (.int z.2)) := by
  unfold fX6_kindAbove at h
  refine ZFn.of (ls := [(0, .int v0)]) (by decide) (fun ξ => Nat.le_of_ble_eq_true rfl) (fun ξ => rfl) ?_
  refine V_iload_n 0 (zdk tbX6_kindAbove_0_ok 0 rfl) rfl ?_
  obtain ⟨μ2, r3, q1, h⟩ := bd2_some h
  refine V_callS (R1 := (rmd 2)) (As := [.int v0]) (r := (some (.int r3))) (zdk tbX6_kindAbove_0_ok 1 rfl) sC6_119 (tX6_isKind q1) rfl rfl ⟨Nat.le_of_ble_eq_true rfl, Nat.le_of_ble_eq_true rfl⟩ (Nat.le_of_ble_eq_true rfl) ⟨rfl, rfl⟩ id ?_
  refine V_if_eq (tgt := 15) (zdk tbX6_kindAbove_0_ok 2 rfl) (by decide) (fun c4 => ?_) (fun c4 => ?_)
  · replace h := ite_t h c4
    refine V_iconst (v := (-1)) (zdk tbX6_kindAbove_0_ok 7 rfl) rfl ?_
    refine V_sub (ls' := []) [] rfl ?_
    exact tX6_kindAbove_b16 (-1 : Int32) μ2  h
  · replace h := ite_f h c4
    refine V_getKA (zdk tbX6_kindAbove_0_ok 3 rfl) wKA_287 ?_
    refine V_iload_n 0 (zdk tbX6_kindAbove_0_ok 4 rfl) rfl ?_
    obtain ⟨b5, h⟩ := chk_some h
    refine V_ldKA (zdk tbX6_kindAbove_0_ok 5 rfl) b5 ?_
    refine V_goto (tgt := 16) (zdk tbX6_kindAbove_0_ok 6 rfl) (by decide) ?_
    refine V_sub (ls' := []) [] rfl ?_
    exact tX6_kindAbove_b16 (zKA v0.toNatClampNeg) μ2  h

-- WhoComplainsCarries$Moves.begin
def tbX0_begin_0 : List (Nat × Instr × Nat) := [(0, .aload_n 0, 1), (1, .getfield 15, 3), (4, .iconst 0, 1), (5, .bipush 19, 2), (7, .invokestatic 34, 3), (10, .ifCond .eq 13, 3), (13, .aload_n 0, 1), (14, .getfield 9, 3), (17, .aload_n 0, 1), (18, .getfield 15, 3), (21, .iload_n 1, 1), (22, .iastore, 1), (23, .aload_n 0, 1), (24, .dup, 1), (25, .getfield 15, 3), (28, .iconst 1, 1), (29, .iadd, 1), (30, .putfield 15, 3), (33, .return_, 1)]
theorem tbX0_begin_0_ok : ∀ q ∈ tbX0_begin_0, decode cX0_begin q.1 = .ok (q.2.1, q.2.2) := by decide +kernel
def fX0_begin_b23 (n : Nat) (v0 : Nat) (μ : ZMem) : Option (ZMem) := lt (zpI μ v0 1 ((zI μ v0 1) + (1 : Int32))) (fun μ1 => some μ1)
theorem tX0_begin_b23 {l : Launch} {fr : Bool} {n : Nat} {z : ZMem} (v0 : Nat) (μ : ZMem) (c_v0 : isC n 0 v0 = true) (h : fX0_begin_b23 n v0 μ = some z) : V (zkV l mX0_begin (rmd 2) fr n z) fr 23 [(0, .ref v0)] [] n μ := by
  unfold fX0_begin_b23 at h
  refine V_aload_n 0 (zdk tbX0_begin_0_ok 12 rfl) rfl ?_
  refine V_dup_r (zdk tbX0_begin_0_ok 13 rfl) ?_
  refine V_getI (zdk tbX0_begin_0_ok 14 rfl) c_v0 fF0_15 rfl ?_
  refine V_iconst (v := 1) (zdk tbX0_begin_0_ok 15 rfl) rfl ?_
  refine V_iadd (zdk tbX0_begin_0_ok 16 rfl) ?_
  obtain ⟨μ1, e2, h⟩ := lt_some h
  refine V_putI (zdk tbX0_begin_0_ok 17 rfl) c_v0 fF0_15 rfl rfl rfl e2 ?_
  cases h
  exact V_vret (zdk tbX0_begin_0_ok 18 rfl) rfl rfl
def fX0_begin (n : Nat) (v0 : Nat) (v1 : Int32) (μ : ZMem) : Option (ZMem) := chk (isC n 0 v0) (bd2 (fX6_isIn n (zI μ v0 1) (0 : Int32) (19 : Int32) μ) (fun μ2 r3 => (if r3 = 0 then (fX0_begin_b23 n v0 μ2) else bd1 (zRc n 100 μ2 v0 0) (fun r5 => chk (inb (zI μ2 v0 1) r5) (lt (zpI μ2 r5 (zI μ2 v0 1).toNatClampNeg v1) (fun μ8 => (fX0_begin_b23 n v0 μ8)))))))
theorem tX0_begin {l : Launch} {fr : Bool} {n : Nat} {v0 : Nat} {v1 : Int32} {μ : ZMem} {z : ZMem} (h : fX0_begin n v0 v1 μ = some z) : ZFn l mX0_begin (rmd 2) [.ref v0, .int v1] fr n μ (fr, n, z, none) := by
  unfold fX0_begin at h
  obtain ⟨c_v0, h⟩ := chk_some h
  refine ZFn.of (ls := [(0, .ref v0), (1, .int v1)]) (by decide) (fun ξ => Nat.le_of_ble_eq_true rfl) (fun ξ => rfl) ?_
  refine V_aload_n 0 (zdk tbX0_begin_0_ok 0 rfl) rfl ?_
  refine V_getI (zdk tbX0_begin_0_ok 1 rfl) c_v0 fF0_15 rfl ?_
  refine V_iconst (v := 0) (zdk tbX0_begin_0_ok 2 rfl) rfl ?_
  refine V_bipush (v := 19) (zdk tbX0_begin_0_ok 3 rfl) rfl ?_
  obtain ⟨μ2, r3, q1, h⟩ := bd2_some h
  refine V_callN (R1 := (rmd 1)) (As := [.int (zI μ v0 1), .int (0 : Int32), .int (19 : Int32)]) (r := (some (.int r3))) (zdk tbX0_begin_0_ok 4 rfl) sC0_34 (tX6_isIn q1) rfl rfl ⟨Nat.le_of_ble_eq_true rfl, Nat.le_of_ble_eq_true rfl⟩ (Nat.le_of_ble_eq_true rfl) ⟨rfl, rfl⟩ id ?_
  refine V_if_eq (tgt := 23) (zdk tbX0_begin_0_ok 5 rfl) (by decide) (fun c4 => ?_) (fun c4 => ?_)
  · replace h := ite_t h c4
    refine V_sub (ls' := [(0, .ref v0)]) [0] rfl ?_
    exact tX0_begin_b23 v0 μ2 c_v0 h
  · replace h := ite_f h c4
    refine V_aload_n 0 (zdk tbX0_begin_0_ok 6 rfl) rfl ?_
    obtain ⟨r5, q6, h⟩ := bd1_some h
    obtain ⟨q6, c_r5⟩ := zRc_some q6
    refine V_getR (zdk tbX0_begin_0_ok 7 rfl) c_v0 fF0_9 rfl q6 ?_
    refine V_aload_n 0 (zdk tbX0_begin_0_ok 8 rfl) rfl ?_
    refine V_getI (zdk tbX0_begin_0_ok 9 rfl) c_v0 fF0_15 rfl ?_
    refine V_iload_n 1 (zdk tbX0_begin_0_ok 10 rfl) rfl ?_
    obtain ⟨b7, h⟩ := chk_some h
    obtain ⟨μ8, e9, h⟩ := lt_some h
    refine V_iast (zdk tbX0_begin_0_ok 11 rfl) c_r5 b7 e9 ?_
    refine V_sub (ls' := [(0, .ref v0)]) [0] rfl ?_
    exact tX0_begin_b23 v0 μ8 c_v0 h

-- WhoComplainsCarries$Moves.runFrom
def tbX0_runFrom_0 : List (Nat × Instr × Nat) := [(0, .iload_n 1, 1), (1, .istore 5, 2), (3, .iconst 0, 1), (4, .istore 6, 2), (6, .iload 6, 2), (8, .bipush 7, 2), (10, .if_icmp .ge 25, 3), (13, .iload 5, 2), (15, .iload_n 2, 1), (16, .invokestatic 48, 3), (19, .ifCond .ne 16, 3), (22, .iload 5, 2), (24, .invokestatic 51, 3), (27, .istore 5, 2), (29, .iinc 6 1, 3), (32, .goto (-26), 3), (35, .iload 5, 2), (37, .iload_n 2, 1), (38, .invokestatic 48, 3), (41, .istore 6, 2), (43, .iload 6, 2), (45, .ifCond .eq 10, 3), (48, .iload 4, 2), (50, .bipush 30, 2), (52, .if_icmp .lt 5, 3), (55, .iconst 0, 1), (56, .ireturn, 1), (57, .aload_n 0, 1), (58, .iload 6, 2), (60, .invokevirtual 55, 3), (63, .iload 5, 2), (65, .invokestatic 51, 3), (68, .istore 7, 2), (70, .iload 4, 2), (72, .iconst 1, 1), (73, .iadd, 1), (74, .istore 8, 2), (76, .iload 6, 2), (78, .lookupswitch 243 #[(10, 90), (11, 97), (12, 112), (20, 147), (30, 163), (40, 176), (50, 189), (51, 201), (60, 217), (70, 230)], 90), (168, .iload_n 3, 1), (169, .aload_n 0, 1), (170, .getfield 22, 3), (173, .iadd, 1), (174, .ireturn, 1), (175, .aload_n 0, 1), (176, .aload_n 0, 1), (177, .getfield 19, 3), (180, .iconst 0, 1), (181, .iload_n 3, 1), (182, .iload 8, 2)]
theorem tbX0_runFrom_0_ok : ∀ q ∈ tbX0_runFrom_0, decode cX0_runFrom q.1 = .ok (q.2.1, q.2.2) := by decide +kernel
def tbX0_runFrom_1 : List (Nat × Instr × Nat) := [(184, .invokestatic 44, 3), (187, .iconst 2, 1), (188, .imul, 1), (189, .ireturn, 1), (190, .aload_n 0, 1), (191, .aload_n 0, 1), (192, .getfield 19, 3), (195, .iconst 1, 1), (196, .iload_n 3, 1), (197, .iload 8, 2), (199, .invokestatic 44, 3), (202, .istore 9, 2), (204, .iload 9, 2), (206, .aload_n 0, 1), (207, .aload_n 0, 1), (208, .getfield 19, 3), (211, .iconst 0, 1), (212, .iload_n 3, 1), (213, .aload_n 0, 1), (214, .getfield 25, 3), (217, .isub, 1), (218, .iload 8, 2), (220, .invokestatic 44, 3), (223, .ixor, 1), (224, .ireturn, 1), (225, .aload_n 0, 1), (226, .iload 7, 2), (228, .iconst 0, 1), (229, .iload_n 3, 1), (230, .iload 8, 2), (232, .invokestatic 44, 3), (235, .aload_n 0, 1), (236, .getfield 25, 3), (239, .iadd, 1), (240, .ireturn, 1), (241, .aload_n 0, 1), (242, .iload 7, 2), (244, .iconst 1, 1), (245, .iload_n 3, 1), (246, .iload 8, 2), (248, .invokestatic 44, 3), (251, .iconst 3, 1), (252, .imul, 1), (253, .ireturn, 1), (254, .aload_n 0, 1), (255, .iload 7, 2), (257, .iconst 0, 1), (258, .iload_n 3, 1), (259, .iconst 1, 1), (260, .iadd, 1)]
theorem tbX0_runFrom_1_ok : ∀ q ∈ tbX0_runFrom_1, decode cX0_runFrom q.1 = .ok (q.2.1, q.2.2) := by decide +kernel
def tbX0_runFrom_2 : List (Nat × Instr × Nat) := [(261, .iload 8, 2), (263, .invokestatic 44, 3), (266, .ireturn, 1), (267, .aload_n 0, 1), (268, .iload 7, 2), (270, .iconst 2, 1), (271, .iload_n 3, 1), (272, .iload 8, 2), (274, .invokestatic 44, 3), (277, .ineg, 1), (278, .ireturn, 1), (279, .aload_n 0, 1), (280, .iload 7, 2), (282, .iconst 0, 1), (283, .iload_n 3, 1), (284, .iload 8, 2), (286, .invokestatic 44, 3), (289, .aload_n 0, 1), (290, .getfield 22, 3), (293, .isub, 1), (294, .ireturn, 1), (295, .aload_n 0, 1), (296, .iload 7, 2), (298, .iconst 2, 1), (299, .iload_n 3, 1), (300, .iload 8, 2), (302, .invokestatic 44, 3), (305, .iconst 5, 1), (306, .ixor, 1), (307, .ireturn, 1), (308, .aload_n 0, 1), (309, .iload 7, 2), (311, .iconst 0, 1), (312, .iload_n 3, 1), (313, .iload 8, 2), (315, .invokestatic 44, 3), (318, .iconst 2, 1), (319, .imul, 1), (320, .ireturn, 1), (321, .aload_n 0, 1), (322, .iload 7, 2), (324, .iconst 1, 1), (325, .iload_n 3, 1), (326, .aload_n 0, 1), (327, .getfield 25, 3), (330, .isub, 1), (331, .iload 8, 2), (333, .invokestatic 44, 3), (336, .ireturn, 1)]
theorem tbX0_runFrom_2_ok : ∀ q ∈ tbX0_runFrom_2, decode cX0_runFrom q.1 = .ok (q.2.1, q.2.2) := by decide +kernel
theorem wCX0_bodyAt : zCW mX0_bodyAt 2 := ⟨zin (i := 7) (by decide +kernel) rfl, zin (i := 776) (by decide +kernel) rfl, by decide +kernel, by decide +kernel, by decide +kernel⟩
theorem sC0_48 : zCS RX0 48 mX0_bodyAt 2 := ⟨zin (i := 774) (by decide +kernel) rfl, zin (i := 775) (by decide +kernel) rfl, wCX0_bodyAt⟩
theorem wCX0_begin : zCW mX0_begin 1 := ⟨zin (i := 7) (by decide +kernel) rfl, zin (i := 785) (by decide +kernel) rfl, by decide +kernel, by decide +kernel, by decide +kernel⟩
theorem sC0_55 : zCV RX0 55 mX0_begin 1 := ⟨zin (i := 782) (by decide +kernel) rfl, zin (i := 784) (by decide +kernel) rfl, zinP (i := 28) (q := (yX0_begin, 5)) (by decide +kernel) rfl, wCX0_begin⟩
theorem wCX6_kindAbove : zCW mX6_kindAbove 1 := ⟨zin (i := 1) (by decide +kernel) rfl, zin (i := 357) (by decide +kernel) rfl, by decide +kernel, by decide +kernel, by decide +kernel⟩
theorem sC0_51 : zCN RX0 51 mX6_kindAbove 1 := ⟨by decide +kernel, zin (i := 356) (by decide +kernel) rfl, wCX6_kindAbove⟩
theorem wCX0_runFrom : zCW mX0_runFrom 5 := ⟨zin (i := 7) (by decide +kernel) rfl, zin (i := 773) (by decide +kernel) rfl, by decide +kernel, by decide +kernel, by decide +kernel⟩
theorem sC0_44 : zCS RX0 44 mX0_runFrom 5 := ⟨zin (i := 771) (by decide +kernel) rfl, zin (i := 772) (by decide +kernel) rfl, wCX0_runFrom⟩
def fX0_runFrom_b55 (gs : Nat → Int32 → Int32 → Int32 → Int32 → ZMem → Option (ZMem × Int32)) (n : Nat) (μ : ZMem) : Option (ZMem × Int32) := some (μ, (0 : Int32))
theorem tX0_runFrom_b55 {l : Launch} {fr : Bool} {q : Nat} {n : Nat} {z : ZMem × Int32} {gs : Nat → Int32 → Int32 → Int32 → Int32 → ZMem → Option (ZMem × Int32)} (hgs : ∀ {fr : Bool} (v0 : Nat) (v1 : Int32) (v2 : Int32) (v3 : Int32) (v4 : Int32) (μ : ZMem) (y : ZMem × Int32), gs v0 v1 v2 v3 v4 μ = some y → ZFn l mX0_runFrom (rmd (4 + q)) [.ref v0, .int v1, .int v2, .int v3, .int v4] fr n μ (fr, n, y.1, some (.int y.2))) (μ : ZMem) (h : fX0_runFrom_b55 gs n μ = some z) : V (zkI l mX0_runFrom (rmd (4 + q + 1)) fr n z) fr 55 [] [] n μ := by
  unfold fX0_runFrom_b55 at h
  refine V_iconst (v := 0) (zdk tbX0_runFrom_0_ok 25 rfl) rfl ?_
  cases h
  exact V_iret (zdk tbX0_runFrom_0_ok 26 rfl) rfl rfl
def fX0_runFrom_b35 (gs : Nat → Int32 → Int32 → Int32 → Int32 → ZMem → Option (ZMem × Int32)) (n : Nat) (v0 : Nat) (v2 : Int32) (v3 : Int32) (v4 : Int32) (v5 : Int32) (μ : ZMem) : Option (ZMem × Int32) := bd2 (fX0_bodyAt n v5 v2 μ) (fun μ2 r3 => (if r3 = 0 then (fX0_runFrom_b55 gs n  μ2) else (if v4 < (30 : Int32) then bd1 (fX0_begin n v0 r3 μ2) (fun μ7 => bd2 (fX6_kindAbove n v5 μ7) (fun μ9 r10 => (if r3 = (10 : Int32) then some (μ9, (v3 + (zI μ9 v0 3))) else (if r3 = (11 : Int32) then bd2 (gs v0 (zI μ9 v0 2) (0 : Int32) v3 (v4 + (1 : Int32)) μ9) (fun μ14 r15 => some (μ14, (r15 * (2 : Int32)))) else (if r3 = (12 : Int32) then bd2 (gs v0 (zI μ9 v0 2) (1 : Int32) v3 (v4 + (1 : Int32)) μ9) (fun μ18 r19 => bd2 (gs v0 (zI μ18 v0 2) (0 : Int32) (v3 - (zI μ18 v0 4)) (v4 + (1 : Int32)) μ18) (fun μ21 r22 => some (μ21, (r19 ^^^ r22)))) else (if r3 = (20 : Int32) then bd2 (gs v0 r10 (0 : Int32) v3 (v4 + (1 : Int32)) μ9) (fun μ25 r26 => some (μ25, (r26 + (zI μ25 v0 4)))) else (if r3 = (30 : Int32) then bd2 (gs v0 r10 (1 : Int32) v3 (v4 + (1 : Int32)) μ9) (fun μ29 r30 => some (μ29, (r30 * (3 : Int32)))) else (if r3 = (40 : Int32) then bd2 (gs v0 r10 (0 : Int32) (v3 + (1 : Int32)) (v4 + (1 : Int32)) μ9) (fun μ33 r34 => some (μ33, r34)) else (if r3 = (50 : Int32) then bd2 (gs v0 r10 (2 : Int32) v3 (v4 + (1 : Int32)) μ9) (fun μ37 r38 => some (μ37, (-r38))) else (if r3 = (51 : Int32) then bd2 (gs v0 r10 (0 : Int32) v3 (v4 + (1 : Int32)) μ9) (fun μ41 r42 => some (μ41, (r42 - (zI μ41 v0 3)))) else (if r3 = (60 : Int32) then bd2 (gs v0 r10 (2 : Int32) v3 (v4 + (1 : Int32)) μ9) (fun μ45 r46 => some (μ45, (r46 ^^^ (5 : Int32)))) else (if r3 = (70 : Int32) then bd2 (gs v0 r10 (0 : Int32) v3 (v4 + (1 : Int32)) μ9) (fun μ49 r50 => some (μ49, (r50 * (2 : Int32)))) else bd2 (gs v0 r10 (1 : Int32) (v3 - (zI μ9 v0 4)) (v4 + (1 : Int32)) μ9) (fun μ52 r53 => some (μ52, r53)))))))))))))) else (fX0_runFrom_b55 gs n  μ2))))
theorem tX0_runFrom_b35 {l : Launch} {fr : Bool} {q : Nat} {n : Nat} {z : ZMem × Int32} {gs : Nat → Int32 → Int32 → Int32 → Int32 → ZMem → Option (ZMem × Int32)} (hgs : ∀ {fr : Bool} (v0 : Nat) (v1 : Int32) (v2 : Int32) (v3 : Int32) (v4 : Int32) (μ : ZMem) (y : ZMem × Int32), gs v0 v1 v2 v3 v4 μ = some y → ZFn l mX0_runFrom (rmd (4 + q)) [.ref v0, .int v1, .int v2, .int v3, .int v4] fr n μ (fr, n, y.1, some (.int y.2))) (v0 : Nat) (v2 : Int32) (v3 : Int32) (v4 : Int32) (v5 : Int32) (μ : ZMem) (c_v0 : isC n 0 v0 = true) (h : fX0_runFrom_b35 gs n v0 v2 v3 v4 v5 μ = some z) : V (zkI l mX0_runFrom (rmd (4 + q + 1)) fr n z) fr 35 [(0, .ref v0), (2, .int v2), (3, .int v3), (4, .int v4), (5, .int v5)] [] n μ := by
  unfold fX0_runFrom_b35 at h
  refine V_iload 4 (zdk tbX0_runFrom_0_ok 16 rfl) rfl ?_
  refine V_iload_n 1 (zdk tbX0_runFrom_0_ok 17 rfl) rfl ?_
  obtain ⟨μ2, r3, q1, h⟩ := bd2_some h
  refine V_callS (R1 := (rmd 3)) (As := [.int v5, .int v2]) (r := (some (.int r3))) (zdk tbX0_runFrom_0_ok 18 rfl) sC0_48 (tX0_bodyAt q1) rfl rfl (by simp only [rmd, mX0_runFrom, mX0_bodyAt]; omega) (Nat.le_of_ble_eq_true rfl) ⟨rfl, rfl⟩ id ?_
  refine V_istore (ls' := [(0, .ref v0), (3, .int v3), (4, .int v4), (5, .int v5), (6, .int r3)]) [1, 3, 4, 5, 0] (zdk tbX0_runFrom_0_ok 19 rfl) (Nat.le_of_ble_eq_true rfl) rfl ?_
  refine V_iload 4 (zdk tbX0_runFrom_0_ok 20 rfl) rfl ?_
  refine V_if_eq (tgt := 55) (zdk tbX0_runFrom_0_ok 21 rfl) (by decide) (fun c4 => ?_) (fun c4 => ?_)
  · replace h := ite_t h c4
    refine V_sub (ls' := []) [] rfl ?_
    exact tX0_runFrom_b55 hgs  μ2  h
  · replace h := ite_f h c4
    refine V_iload 2 (zdk tbX0_runFrom_0_ok 22 rfl) rfl ?_
    refine V_bipush (v := 30) (zdk tbX0_runFrom_0_ok 23 rfl) rfl ?_
    refine V_icmp_lt (tgt := 57) (zdk tbX0_runFrom_0_ok 24 rfl) (by decide) (fun c5 => ?_) (fun c5 => ?_)
    · replace h := ite_t h c5
      refine V_aload_n 0 (zdk tbX0_runFrom_0_ok 27 rfl) rfl ?_
      refine V_iload 4 (zdk tbX0_runFrom_0_ok 28 rfl) rfl ?_
      obtain ⟨μ7, q6, h⟩ := bd1_some h
      refine V_callV (R1 := (rmd 2)) (As := [.int r3]) (r := none) (zdk tbX0_runFrom_0_ok 29 rfl) sC0_55 (tX0_begin q6) (c_v0) rfl rfl rfl (by simp only [rmd, mX0_runFrom, mX0_begin]; omega) (Nat.le_of_ble_eq_true rfl) ⟨rfl, rfl⟩ id ?_
      refine V_iload 3 (zdk tbX0_runFrom_0_ok 30 rfl) rfl ?_
      obtain ⟨μ9, r10, q8, h⟩ := bd2_some h
      refine V_callN (R1 := (rmd 3)) (As := [.int v5]) (r := (some (.int r10))) (zdk tbX0_runFrom_0_ok 31 rfl) sC0_51 (tX6_kindAbove q8) rfl rfl (by simp only [rmd, mX0_runFrom, mX6_kindAbove]; omega) (Nat.le_of_ble_eq_true rfl) ⟨rfl, rfl⟩ id ?_
      refine V_istore (ls' := [(0, .ref v0), (3, .int v3), (4, .int v4), (6, .int r3), (7, .int r10)]) [1, 2, 3, 5, 0] (zdk tbX0_runFrom_0_ok 32 rfl) (Nat.le_of_ble_eq_true rfl) rfl ?_
      refine V_iload 2 (zdk tbX0_runFrom_0_ok 33 rfl) rfl ?_
      refine V_iconst (v := 1) (zdk tbX0_runFrom_0_ok 34 rfl) rfl ?_
      refine V_iadd (zdk tbX0_runFrom_0_ok 35 rfl) ?_
      refine V_istore (ls' := [(0, .ref v0), (3, .int v3), (6, .int r3), (7, .int r10), (8, .int (v4 + (1 : Int32)))]) [1, 2, 4, 5, 0] (zdk tbX0_runFrom_0_ok 36 rfl) (Nat.le_of_ble_eq_true rfl) rfl ?_
      refine V_iload 2 (zdk tbX0_runFrom_0_ok 37 rfl) rfl ?_
      by_cases c11 : r3 = (10 : Int32)
      · replace h := ite_t h c11
        refine V_lsw (off := 90) (tgt := 168) 10 c11 (zdk tbX0_runFrom_0_ok 38 rfl) (by decide) (by decide) (by decide) ?_
        refine V_iload_n 1 (zdk tbX0_runFrom_0_ok 39 rfl) rfl ?_
        refine V_aload_n 0 (zdk tbX0_runFrom_0_ok 40 rfl) rfl ?_
        refine V_getI (zdk tbX0_runFrom_0_ok 41 rfl) c_v0 fF0_22 rfl ?_
        refine V_iadd (zdk tbX0_runFrom_0_ok 42 rfl) ?_
        cases h
        exact V_iret (zdk tbX0_runFrom_0_ok 43 rfl) rfl rfl
      · replace h := ite_f h c11
        by_cases c12 : r3 = (11 : Int32)
        · replace h := ite_t h c12
          refine V_lsw (off := 97) (tgt := 175) 11 c12 (zdk tbX0_runFrom_0_ok 38 rfl) (by decide) (by decide) (by decide) ?_
          refine V_aload_n 0 (zdk tbX0_runFrom_0_ok 44 rfl) rfl ?_
          refine V_aload_n 0 (zdk tbX0_runFrom_0_ok 45 rfl) rfl ?_
          refine V_getI (zdk tbX0_runFrom_0_ok 46 rfl) c_v0 fF0_19 rfl ?_
          refine V_iconst (v := 0) (zdk tbX0_runFrom_0_ok 47 rfl) rfl ?_
          refine V_iload_n 1 (zdk tbX0_runFrom_0_ok 48 rfl) rfl ?_
          refine V_iload 4 (zdk tbX0_runFrom_0_ok 49 rfl) rfl ?_
          obtain ⟨μ14, r15, q13, h⟩ := bd2_some h
          refine V_callS (R1 := (rmd (4 + q))) (As := [.ref v0, .int (zI μ9 v0 2), .int (0 : Int32), .int v3, .int (v4 + (1 : Int32))]) (r := (some (.int r15))) (zdk tbX0_runFrom_1_ok 0 rfl) sC0_44 (hgs v0 (zI μ9 v0 2) (0 : Int32) v3 (v4 + (1 : Int32)) μ9 _ q13) rfl rfl (by simp only [rmd, mX0_runFrom, mX0_runFrom]; omega) (Nat.le_of_ble_eq_true rfl) ⟨rfl, rfl⟩ id ?_
          refine V_iconst (v := 2) (zdk tbX0_runFrom_1_ok 1 rfl) rfl ?_
          refine V_imul (zdk tbX0_runFrom_1_ok 2 rfl) ?_
          cases h
          exact V_iret (zdk tbX0_runFrom_1_ok 3 rfl) rfl rfl
        · replace h := ite_f h c12
          by_cases c16 : r3 = (12 : Int32)
          · replace h := ite_t h c16
            refine V_lsw (off := 112) (tgt := 190) 12 c16 (zdk tbX0_runFrom_0_ok 38 rfl) (by decide) (by decide) (by decide) ?_
            refine V_aload_n 0 (zdk tbX0_runFrom_1_ok 4 rfl) rfl ?_
            refine V_aload_n 0 (zdk tbX0_runFrom_1_ok 5 rfl) rfl ?_
            refine V_getI (zdk tbX0_runFrom_1_ok 6 rfl) c_v0 fF0_19 rfl ?_
            refine V_iconst (v := 1) (zdk tbX0_runFrom_1_ok 7 rfl) rfl ?_
            refine V_iload_n 1 (zdk tbX0_runFrom_1_ok 8 rfl) rfl ?_
            refine V_iload 4 (zdk tbX0_runFrom_1_ok 9 rfl) rfl ?_
            obtain ⟨μ18, r19, q17, h⟩ := bd2_some h
            refine V_callS (R1 := (rmd (4 + q))) (As := [.ref v0, .int (zI μ9 v0 2), .int (1 : Int32), .int v3, .int (v4 + (1 : Int32))]) (r := (some (.int r19))) (zdk tbX0_runFrom_1_ok 10 rfl) sC0_44 (hgs v0 (zI μ9 v0 2) (1 : Int32) v3 (v4 + (1 : Int32)) μ9 _ q17) rfl rfl (by simp only [rmd, mX0_runFrom, mX0_runFrom]; omega) (Nat.le_of_ble_eq_true rfl) ⟨rfl, rfl⟩ id ?_
            refine V_istore (ls' := [(0, .ref v0), (3, .int v3), (8, .int (v4 + (1 : Int32))), (9, .int r19)]) [1, 2, 5, 0] (zdk tbX0_runFrom_1_ok 11 rfl) (Nat.le_of_ble_eq_true rfl) rfl ?_
            refine V_iload 3 (zdk tbX0_runFrom_1_ok 12 rfl) rfl ?_
            refine V_aload_n 0 (zdk tbX0_runFrom_1_ok 13 rfl) rfl ?_
            refine V_aload_n 0 (zdk tbX0_runFrom_1_ok 14 rfl) rfl ?_
            refine V_getI (zdk tbX0_runFrom_1_ok 15 rfl) c_v0 fF0_19 rfl ?_
            refine V_iconst (v := 0) (zdk tbX0_runFrom_1_ok 16 rfl) rfl ?_
            refine V_iload_n 1 (zdk tbX0_runFrom_1_ok 17 rfl) rfl ?_
            refine V_aload_n 0 (zdk tbX0_runFrom_1_ok 18 rfl) rfl ?_
            refine V_getI (zdk tbX0_runFrom_1_ok 19 rfl) c_v0 fF0_25 rfl ?_
            refine V_isub (zdk tbX0_runFrom_1_ok 20 rfl) ?_
            refine V_iload 2 (zdk tbX0_runFrom_1_ok 21 rfl) rfl ?_
            obtain ⟨μ21, r22, q20, h⟩ := bd2_some h
            refine V_callS (R1 := (rmd (4 + q))) (As := [.ref v0, .int (zI μ18 v0 2), .int (0 : Int32), .int (v3 - (zI μ18 v0 4)), .int (v4 + (1 : Int32))]) (r := (some (.int r22))) (zdk tbX0_runFrom_1_ok 22 rfl) sC0_44 (hgs v0 (zI μ18 v0 2) (0 : Int32) (v3 - (zI μ18 v0 4)) (v4 + (1 : Int32)) μ18 _ q20) rfl rfl (by simp only [rmd, mX0_runFrom, mX0_runFrom]; omega) (Nat.le_of_ble_eq_true rfl) ⟨rfl, rfl⟩ id ?_
            refine V_ixor (zdk tbX0_runFrom_1_ok 23 rfl) ?_
            cases h
            exact V_iret (zdk tbX0_runFrom_1_ok 24 rfl) rfl rfl
          · replace h := ite_f h c16
            by_cases c23 : r3 = (20 : Int32)
            · replace h := ite_t h c23
              refine V_lsw (off := 147) (tgt := 225) 20 c23 (zdk tbX0_runFrom_0_ok 38 rfl) (by decide) (by decide) (by decide) ?_
              refine V_aload_n 0 (zdk tbX0_runFrom_1_ok 25 rfl) rfl ?_
              refine V_iload 3 (zdk tbX0_runFrom_1_ok 26 rfl) rfl ?_
              refine V_iconst (v := 0) (zdk tbX0_runFrom_1_ok 27 rfl) rfl ?_
              refine V_iload_n 1 (zdk tbX0_runFrom_1_ok 28 rfl) rfl ?_
              refine V_iload 4 (zdk tbX0_runFrom_1_ok 29 rfl) rfl ?_
              obtain ⟨μ25, r26, q24, h⟩ := bd2_some h
              refine V_callS (R1 := (rmd (4 + q))) (As := [.ref v0, .int r10, .int (0 : Int32), .int v3, .int (v4 + (1 : Int32))]) (r := (some (.int r26))) (zdk tbX0_runFrom_1_ok 30 rfl) sC0_44 (hgs v0 r10 (0 : Int32) v3 (v4 + (1 : Int32)) μ9 _ q24) rfl rfl (by simp only [rmd, mX0_runFrom, mX0_runFrom]; omega) (Nat.le_of_ble_eq_true rfl) ⟨rfl, rfl⟩ id ?_
              refine V_aload_n 0 (zdk tbX0_runFrom_1_ok 31 rfl) rfl ?_
              refine V_getI (zdk tbX0_runFrom_1_ok 32 rfl) c_v0 fF0_25 rfl ?_
              refine V_iadd (zdk tbX0_runFrom_1_ok 33 rfl) ?_
              cases h
              exact V_iret (zdk tbX0_runFrom_1_ok 34 rfl) rfl rfl
            · replace h := ite_f h c23
              by_cases c27 : r3 = (30 : Int32)
              · replace h := ite_t h c27
                refine V_lsw (off := 163) (tgt := 241) 30 c27 (zdk tbX0_runFrom_0_ok 38 rfl) (by decide) (by decide) (by decide) ?_
                refine V_aload_n 0 (zdk tbX0_runFrom_1_ok 35 rfl) rfl ?_
                refine V_iload 3 (zdk tbX0_runFrom_1_ok 36 rfl) rfl ?_
                refine V_iconst (v := 1) (zdk tbX0_runFrom_1_ok 37 rfl) rfl ?_
                refine V_iload_n 1 (zdk tbX0_runFrom_1_ok 38 rfl) rfl ?_
                refine V_iload 4 (zdk tbX0_runFrom_1_ok 39 rfl) rfl ?_
                obtain ⟨μ29, r30, q28, h⟩ := bd2_some h
                refine V_callS (R1 := (rmd (4 + q))) (As := [.ref v0, .int r10, .int (1 : Int32), .int v3, .int (v4 + (1 : Int32))]) (r := (some (.int r30))) (zdk tbX0_runFrom_1_ok 40 rfl) sC0_44 (hgs v0 r10 (1 : Int32) v3 (v4 + (1 : Int32)) μ9 _ q28) rfl rfl (by simp only [rmd, mX0_runFrom, mX0_runFrom]; omega) (Nat.le_of_ble_eq_true rfl) ⟨rfl, rfl⟩ id ?_
                refine V_iconst (v := 3) (zdk tbX0_runFrom_1_ok 41 rfl) rfl ?_
                refine V_imul (zdk tbX0_runFrom_1_ok 42 rfl) ?_
                cases h
                exact V_iret (zdk tbX0_runFrom_1_ok 43 rfl) rfl rfl
              · replace h := ite_f h c27
                by_cases c31 : r3 = (40 : Int32)
                · replace h := ite_t h c31
                  refine V_lsw (off := 176) (tgt := 254) 40 c31 (zdk tbX0_runFrom_0_ok 38 rfl) (by decide) (by decide) (by decide) ?_
                  refine V_aload_n 0 (zdk tbX0_runFrom_1_ok 44 rfl) rfl ?_
                  refine V_iload 3 (zdk tbX0_runFrom_1_ok 45 rfl) rfl ?_
                  refine V_iconst (v := 0) (zdk tbX0_runFrom_1_ok 46 rfl) rfl ?_
                  refine V_iload_n 1 (zdk tbX0_runFrom_1_ok 47 rfl) rfl ?_
                  refine V_iconst (v := 1) (zdk tbX0_runFrom_1_ok 48 rfl) rfl ?_
                  refine V_iadd (zdk tbX0_runFrom_1_ok 49 rfl) ?_
                  refine V_iload 4 (zdk tbX0_runFrom_2_ok 0 rfl) rfl ?_
                  obtain ⟨μ33, r34, q32, h⟩ := bd2_some h
                  refine V_callS (R1 := (rmd (4 + q))) (As := [.ref v0, .int r10, .int (0 : Int32), .int (v3 + (1 : Int32)), .int (v4 + (1 : Int32))]) (r := (some (.int r34))) (zdk tbX0_runFrom_2_ok 1 rfl) sC0_44 (hgs v0 r10 (0 : Int32) (v3 + (1 : Int32)) (v4 + (1 : Int32)) μ9 _ q32) rfl rfl (by simp only [rmd, mX0_runFrom, mX0_runFrom]; omega) (Nat.le_of_ble_eq_true rfl) ⟨rfl, rfl⟩ id ?_
                  cases h
                  exact V_iret (zdk tbX0_runFrom_2_ok 2 rfl) rfl rfl
                · replace h := ite_f h c31
                  by_cases c35 : r3 = (50 : Int32)
                  · replace h := ite_t h c35
                    refine V_lsw (off := 189) (tgt := 267) 50 c35 (zdk tbX0_runFrom_0_ok 38 rfl) (by decide) (by decide) (by decide) ?_
                    refine V_aload_n 0 (zdk tbX0_runFrom_2_ok 3 rfl) rfl ?_
                    refine V_iload 3 (zdk tbX0_runFrom_2_ok 4 rfl) rfl ?_
                    refine V_iconst (v := 2) (zdk tbX0_runFrom_2_ok 5 rfl) rfl ?_
                    refine V_iload_n 1 (zdk tbX0_runFrom_2_ok 6 rfl) rfl ?_
                    refine V_iload 4 (zdk tbX0_runFrom_2_ok 7 rfl) rfl ?_
                    obtain ⟨μ37, r38, q36, h⟩ := bd2_some h
                    refine V_callS (R1 := (rmd (4 + q))) (As := [.ref v0, .int r10, .int (2 : Int32), .int v3, .int (v4 + (1 : Int32))]) (r := (some (.int r38))) (zdk tbX0_runFrom_2_ok 8 rfl) sC0_44 (hgs v0 r10 (2 : Int32) v3 (v4 + (1 : Int32)) μ9 _ q36) rfl rfl (by simp only [rmd, mX0_runFrom, mX0_runFrom]; omega) (Nat.le_of_ble_eq_true rfl) ⟨rfl, rfl⟩ id ?_
                    refine V_ineg (zdk tbX0_runFrom_2_ok 9 rfl) ?_
                    cases h
                    exact V_iret (zdk tbX0_runFrom_2_ok 10 rfl) rfl rfl
                  · replace h := ite_f h c35
                    by_cases c39 : r3 = (51 : Int32)
                    · replace h := ite_t h c39
                      refine V_lsw (off := 201) (tgt := 279) 51 c39 (zdk tbX0_runFrom_0_ok 38 rfl) (by decide) (by decide) (by decide) ?_
                      refine V_aload_n 0 (zdk tbX0_runFrom_2_ok 11 rfl) rfl ?_
                      refine V_iload 3 (zdk tbX0_runFrom_2_ok 12 rfl) rfl ?_
                      refine V_iconst (v := 0) (zdk tbX0_runFrom_2_ok 13 rfl) rfl ?_
                      refine V_iload_n 1 (zdk tbX0_runFrom_2_ok 14 rfl) rfl ?_
                      refine V_iload 4 (zdk tbX0_runFrom_2_ok 15 rfl) rfl ?_
                      obtain ⟨μ41, r42, q40, h⟩ := bd2_some h
                      refine V_callS (R1 := (rmd (4 + q))) (As := [.ref v0, .int r10, .int (0 : Int32), .int v3, .int (v4 + (1 : Int32))]) (r := (some (.int r42))) (zdk tbX0_runFrom_2_ok 16 rfl) sC0_44 (hgs v0 r10 (0 : Int32) v3 (v4 + (1 : Int32)) μ9 _ q40) rfl rfl (by simp only [rmd, mX0_runFrom, mX0_runFrom]; omega) (Nat.le_of_ble_eq_true rfl) ⟨rfl, rfl⟩ id ?_
                      refine V_aload_n 0 (zdk tbX0_runFrom_2_ok 17 rfl) rfl ?_
                      refine V_getI (zdk tbX0_runFrom_2_ok 18 rfl) c_v0 fF0_22 rfl ?_
                      refine V_isub (zdk tbX0_runFrom_2_ok 19 rfl) ?_
                      cases h
                      exact V_iret (zdk tbX0_runFrom_2_ok 20 rfl) rfl rfl
                    · replace h := ite_f h c39
                      by_cases c43 : r3 = (60 : Int32)
                      · replace h := ite_t h c43
                        refine V_lsw (off := 217) (tgt := 295) 60 c43 (zdk tbX0_runFrom_0_ok 38 rfl) (by decide) (by decide) (by decide) ?_
                        refine V_aload_n 0 (zdk tbX0_runFrom_2_ok 21 rfl) rfl ?_
                        refine V_iload 3 (zdk tbX0_runFrom_2_ok 22 rfl) rfl ?_
                        refine V_iconst (v := 2) (zdk tbX0_runFrom_2_ok 23 rfl) rfl ?_
                        refine V_iload_n 1 (zdk tbX0_runFrom_2_ok 24 rfl) rfl ?_
                        refine V_iload 4 (zdk tbX0_runFrom_2_ok 25 rfl) rfl ?_
                        obtain ⟨μ45, r46, q44, h⟩ := bd2_some h
                        refine V_callS (R1 := (rmd (4 + q))) (As := [.ref v0, .int r10, .int (2 : Int32), .int v3, .int (v4 + (1 : Int32))]) (r := (some (.int r46))) (zdk tbX0_runFrom_2_ok 26 rfl) sC0_44 (hgs v0 r10 (2 : Int32) v3 (v4 + (1 : Int32)) μ9 _ q44) rfl rfl (by simp only [rmd, mX0_runFrom, mX0_runFrom]; omega) (Nat.le_of_ble_eq_true rfl) ⟨rfl, rfl⟩ id ?_
                        refine V_iconst (v := 5) (zdk tbX0_runFrom_2_ok 27 rfl) rfl ?_
                        refine V_ixor (zdk tbX0_runFrom_2_ok 28 rfl) ?_
                        cases h
                        exact V_iret (zdk tbX0_runFrom_2_ok 29 rfl) rfl rfl
                      · replace h := ite_f h c43
                        by_cases c47 : r3 = (70 : Int32)
                        · replace h := ite_t h c47
                          refine V_lsw (off := 230) (tgt := 308) 70 c47 (zdk tbX0_runFrom_0_ok 38 rfl) (by decide) (by decide) (by decide) ?_
                          refine V_aload_n 0 (zdk tbX0_runFrom_2_ok 30 rfl) rfl ?_
                          refine V_iload 3 (zdk tbX0_runFrom_2_ok 31 rfl) rfl ?_
                          refine V_iconst (v := 0) (zdk tbX0_runFrom_2_ok 32 rfl) rfl ?_
                          refine V_iload_n 1 (zdk tbX0_runFrom_2_ok 33 rfl) rfl ?_
                          refine V_iload 4 (zdk tbX0_runFrom_2_ok 34 rfl) rfl ?_
                          obtain ⟨μ49, r50, q48, h⟩ := bd2_some h
                          refine V_callS (R1 := (rmd (4 + q))) (As := [.ref v0, .int r10, .int (0 : Int32), .int v3, .int (v4 + (1 : Int32))]) (r := (some (.int r50))) (zdk tbX0_runFrom_2_ok 35 rfl) sC0_44 (hgs v0 r10 (0 : Int32) v3 (v4 + (1 : Int32)) μ9 _ q48) rfl rfl (by simp only [rmd, mX0_runFrom, mX0_runFrom]; omega) (Nat.le_of_ble_eq_true rfl) ⟨rfl, rfl⟩ id ?_
                          refine V_iconst (v := 2) (zdk tbX0_runFrom_2_ok 36 rfl) rfl ?_
                          refine V_imul (zdk tbX0_runFrom_2_ok 37 rfl) ?_
                          cases h
                          exact V_iret (zdk tbX0_runFrom_2_ok 38 rfl) rfl rfl
                        · replace h := ite_f h c47
                          refine V_lsw0 (tgt := 321) [10, 11, 12, 20, 30, 40, 50, 51, 60, 70] (List.forall_mem_cons.mpr ⟨c11, List.forall_mem_cons.mpr ⟨c12, List.forall_mem_cons.mpr ⟨c16, List.forall_mem_cons.mpr ⟨c23, List.forall_mem_cons.mpr ⟨c27, List.forall_mem_cons.mpr ⟨c31, List.forall_mem_cons.mpr ⟨c35, List.forall_mem_cons.mpr ⟨c39, List.forall_mem_cons.mpr ⟨c43, List.forall_mem_cons.mpr ⟨c47, fun _ h => absurd h List.not_mem_nil⟩⟩⟩⟩⟩⟩⟩⟩⟩⟩) (zdk tbX0_runFrom_0_ok 38 rfl) (by decide) (by decide) (by decide) ?_
                          refine V_aload_n 0 (zdk tbX0_runFrom_2_ok 39 rfl) rfl ?_
                          refine V_iload 3 (zdk tbX0_runFrom_2_ok 40 rfl) rfl ?_
                          refine V_iconst (v := 1) (zdk tbX0_runFrom_2_ok 41 rfl) rfl ?_
                          refine V_iload_n 1 (zdk tbX0_runFrom_2_ok 42 rfl) rfl ?_
                          refine V_aload_n 0 (zdk tbX0_runFrom_2_ok 43 rfl) rfl ?_
                          refine V_getI (zdk tbX0_runFrom_2_ok 44 rfl) c_v0 fF0_25 rfl ?_
                          refine V_isub (zdk tbX0_runFrom_2_ok 45 rfl) ?_
                          refine V_iload 4 (zdk tbX0_runFrom_2_ok 46 rfl) rfl ?_
                          obtain ⟨μ52, r53, q51, h⟩ := bd2_some h
                          refine V_callS (R1 := (rmd (4 + q))) (As := [.ref v0, .int r10, .int (1 : Int32), .int (v3 - (zI μ9 v0 4)), .int (v4 + (1 : Int32))]) (r := (some (.int r53))) (zdk tbX0_runFrom_2_ok 47 rfl) sC0_44 (hgs v0 r10 (1 : Int32) (v3 - (zI μ9 v0 4)) (v4 + (1 : Int32)) μ9 _ q51) rfl rfl (by simp only [rmd, mX0_runFrom, mX0_runFrom]; omega) (Nat.le_of_ble_eq_true rfl) ⟨rfl, rfl⟩ id ?_
                          cases h
                          exact V_iret (zdk tbX0_runFrom_2_ok 48 rfl) rfl rfl
    · replace h := ite_f h c5
      refine V_sub (ls' := []) [] rfl ?_
      exact tX0_runFrom_b55 hgs  μ2  h
def fX0_runFrom_b6 (gs : Nat → Int32 → Int32 → Int32 → Int32 → ZMem → Option (ZMem × Int32)) (n : Nat) : Nat → Nat → Int32 → Int32 → Int32 → Int32 → Int32 → ZMem → Option (ZMem × Int32)
  | 0, _, _, _, _, _, _, _ => none
  | k + 1, v0, v2, v3, v4, v5, v6, μ => (if (7 : Int32) ≤ v6 then (fX0_runFrom_b35 gs n v0 v2 v3 v4 v5 μ) else bd2 (fX0_bodyAt n v5 v2 μ) (fun μ3 r4 => (if r4 = 0 then bd2 (fX6_kindAbove n v5 μ3) (fun μ7 r8 => (fX0_runFrom_b6 gs n k v0 v2 v3 v4 r8 (v6 + (1 : Int32)) μ7)) else (fX0_runFrom_b35 gs n v0 v2 v3 v4 v5 μ3))))
theorem tX0_runFrom_b6 {l : Launch} {fr : Bool} {q : Nat} {n : Nat} {z : ZMem × Int32} {gs : Nat → Int32 → Int32 → Int32 → Int32 → ZMem → Option (ZMem × Int32)} (hgs : ∀ {fr : Bool} (v0 : Nat) (v1 : Int32) (v2 : Int32) (v3 : Int32) (v4 : Int32) (μ : ZMem) (y : ZMem × Int32), gs v0 v1 v2 v3 v4 μ = some y → ZFn l mX0_runFrom (rmd (4 + q)) [.ref v0, .int v1, .int v2, .int v3, .int v4] fr n μ (fr, n, y.1, some (.int y.2))) : ∀ (k : Nat) (v0 : Nat) (v2 : Int32) (v3 : Int32) (v4 : Int32) (v5 : Int32) (v6 : Int32) (μ : ZMem) (c_v0 : isC n 0 v0 = true), fX0_runFrom_b6 gs n k v0 v2 v3 v4 v5 v6 μ = some z → V (zkI l mX0_runFrom (rmd (4 + q + 1)) fr n z) fr 6 [(0, .ref v0), (2, .int v2), (3, .int v3), (4, .int v4), (5, .int v5), (6, .int v6)] [] n μ := by
  intro k
  induction k with
  | zero =>
    intro v0 v2 v3 v4 v5 v6 μ c_v0 h
    unfold fX0_runFrom_b6 at h
    cases h
  | succ k ih =>
    intro v0 v2 v3 v4 v5 v6 μ c_v0 h
    unfold fX0_runFrom_b6 at h
    refine V_iload 5 (zdk tbX0_runFrom_0_ok 4 rfl) rfl ?_
    refine V_bipush (v := 7) (zdk tbX0_runFrom_0_ok 5 rfl) rfl ?_
    refine V_icmp_ge (tgt := 35) (zdk tbX0_runFrom_0_ok 6 rfl) (by decide) (fun c1 => ?_) (fun c1 => ?_)
    · replace h := ite_t h c1
      refine V_sub (ls' := [(0, .ref v0), (2, .int v2), (3, .int v3), (4, .int v4), (5, .int v5)]) [0, 1, 2, 3, 4] rfl ?_
      exact tX0_runFrom_b35 hgs v0 v2 v3 v4 v5 μ c_v0 h
    · replace h := ite_f h c1
      refine V_iload 4 (zdk tbX0_runFrom_0_ok 7 rfl) rfl ?_
      refine V_iload_n 1 (zdk tbX0_runFrom_0_ok 8 rfl) rfl ?_
      obtain ⟨μ3, r4, q2, h⟩ := bd2_some h
      refine V_callS (R1 := (rmd 3)) (As := [.int v5, .int v2]) (r := (some (.int r4))) (zdk tbX0_runFrom_0_ok 9 rfl) sC0_48 (tX0_bodyAt q2) rfl rfl (by simp only [rmd, mX0_runFrom, mX0_bodyAt]; omega) (Nat.le_of_ble_eq_true rfl) ⟨rfl, rfl⟩ id ?_
      refine V_if_ne (tgt := 35) (zdk tbX0_runFrom_0_ok 10 rfl) (by decide) (fun c5 => ?_) (fun c5 => ?_)
      · replace h := ite_f h c5
        refine V_sub (ls' := [(0, .ref v0), (2, .int v2), (3, .int v3), (4, .int v4), (5, .int v5)]) [0, 1, 2, 3, 4] rfl ?_
        exact tX0_runFrom_b35 hgs v0 v2 v3 v4 v5 μ3 c_v0 h
      · replace h := ite_t h c5
        refine V_iload 4 (zdk tbX0_runFrom_0_ok 11 rfl) rfl ?_
        obtain ⟨μ7, r8, q6, h⟩ := bd2_some h
        refine V_callN (R1 := (rmd 3)) (As := [.int v5]) (r := (some (.int r8))) (zdk tbX0_runFrom_0_ok 12 rfl) sC0_51 (tX6_kindAbove q6) rfl rfl (by simp only [rmd, mX0_runFrom, mX6_kindAbove]; omega) (Nat.le_of_ble_eq_true rfl) ⟨rfl, rfl⟩ id ?_
        refine V_istore (ls' := [(0, .ref v0), (2, .int v2), (3, .int v3), (4, .int v4), (5, .int r8), (6, .int v6)]) [1, 2, 3, 4, 0, 5] (zdk tbX0_runFrom_0_ok 13 rfl) (Nat.le_of_ble_eq_true rfl) rfl ?_
        refine V_inc (dx := 1) (ls' := [(0, .ref v0), (2, .int v2), (3, .int v3), (4, .int v4), (5, .int r8), (6, .int (v6 + (1 : Int32)))]) 5 [1, 2, 3, 4, 5, 0] (zdk tbX0_runFrom_0_ok 14 rfl) rfl (Nat.le_of_ble_eq_true rfl) rfl rfl ?_
        refine V_goto (tgt := 6) (zdk tbX0_runFrom_0_ok 15 rfl) (by decide) ?_
        exact ih v0 v2 v3 v4 r8 (v6 + (1 : Int32)) μ7 c_v0 h
def fX0_runFrom (n : Nat) : Nat → Nat → Int32 → Int32 → Int32 → Int32 → ZMem → Option (ZMem × Int32)
  | 0, _, _, _, _, _, _ => none
  | q + 1, v0, v1, v2, v3, v4, μ => chk (isC n 0 v0) ((fX0_runFrom_b6 (fX0_runFrom n q) n FU v0 v2 v3 v4 v1 (0 : Int32) μ))
theorem tX0_runFrom {l : Launch} {n : Nat} : ∀ (q : Nat) {fr : Bool} (v0 : Nat) (v1 : Int32) (v2 : Int32) (v3 : Int32) (v4 : Int32) (μ : ZMem) (z : ZMem × Int32), fX0_runFrom n q v0 v1 v2 v3 v4 μ = some z → ZFn l mX0_runFrom (rmd (4 + q)) [.ref v0, .int v1, .int v2, .int v3, .int v4] fr n μ (fr, n, z.1, some (.int z.2)) := by
  intro q
  induction q with
  | zero =>
    intro fr v0 v1 v2 v3 v4 μ z h
    unfold fX0_runFrom at h
    cases h
  | succ q ih =>
    intro fr v0 v1 v2 v3 v4 μ z h
    unfold fX0_runFrom at h
    obtain ⟨c_v0, h⟩ := chk_some h
    refine ZFn.of (ls := [(0, .ref v0), (1, .int v1), (2, .int v2), (3, .int v3), (4, .int v4)]) (by decide) (fun ξ => Nat.le_of_ble_eq_true rfl) (fun ξ => rfl) ?_
    refine V_iload_n 1 (zdk tbX0_runFrom_0_ok 0 rfl) rfl ?_
    refine V_istore (ls' := [(0, .ref v0), (2, .int v2), (3, .int v3), (4, .int v4), (5, .int v1)]) [1, 3, 4, 5, 0] (zdk tbX0_runFrom_0_ok 1 rfl) (Nat.le_of_ble_eq_true rfl) rfl ?_
    refine V_iconst (v := 0) (zdk tbX0_runFrom_0_ok 2 rfl) rfl ?_
    refine V_istore (ls' := [(0, .ref v0), (2, .int v2), (3, .int v3), (4, .int v4), (5, .int v1), (6, .int (0 : Int32))]) [1, 2, 3, 4, 5, 0] (zdk tbX0_runFrom_0_ok 3 rfl) (Nat.le_of_ble_eq_true rfl) rfl ?_
    exact tX0_runFrom_b6 (fun v0 v1 v2 v3 v4 μ y h => ih v0 v1 v2 v3 v4 μ y h) FU v0 v2 v3 v4 v1 (0 : Int32) μ c_v0 h

-- WhoComplainsCarries$Moves.run
def tbX0_run_0 : List (Nat × Instr × Nat) := [(0, .aload_n 0, 1), (1, .aload_n 1, 1), (2, .getfield 38, 3), (5, .putfield 19, 3), (8, .aload_n 0, 1), (9, .iload_n 2, 1), (10, .putfield 22, 3), (13, .aload_n 0, 1), (14, .aload_n 1, 1), (15, .getfield 41, 3), (18, .putfield 25, 3), (21, .aload_n 0, 1), (22, .aload_n 0, 1), (23, .getfield 19, 3), (26, .iload_n 3, 1), (27, .iload 4, 2), (29, .iconst 0, 1), (30, .invokestatic 44, 3), (33, .ireturn, 1)]
theorem tbX0_run_0_ok : ∀ q ∈ tbX0_run_0, decode cX0_run q.1 = .ok (q.2.1, q.2.2) := by decide +kernel
theorem fF0_38 : zF RX0 38 1 0 := ⟨_, rfl, by decide, zin (i := 69) (by decide +kernel) rfl⟩
theorem fF0_41 : zF RX0 41 1 1 := ⟨_, rfl, by decide, zin (i := 72) (by decide +kernel) rfl⟩
def fX0_run (n : Nat) (v0 : Nat) (v1 : Nat) (v2 : Int32) (v3 : Int32) (v4 : Int32) (μ : ZMem) : Option (ZMem × Int32) := chk (isC n 0 v0) (chk (isC n 1 v1) (lt (zpI μ v0 2 (zI μ v1 0)) (fun μ1 => lt (zpI μ1 v0 3 v2) (fun μ3 => lt (zpI μ3 v0 4 (zI μ3 v1 1)) (fun μ5 => bd2 (fX0_runFrom n FD v0 (zI μ5 v0 2) v3 v4 (0 : Int32) μ5) (fun μ8 r9 => some (μ8, r9)))))))
theorem tX0_run {l : Launch} {fr : Bool} {n : Nat} {v0 : Nat} {v1 : Nat} {v2 : Int32} {v3 : Int32} {v4 : Int32} {μ : ZMem} {z : ZMem × Int32} (h : fX0_run n v0 v1 v2 v3 v4 μ = some z) : ZFn l mX0_run (rmd 46) [.ref v0, .ref v1, .int v2, .int v3, .int v4] fr n μ (fr, n, z.1, some (.int z.2)) := by
  unfold fX0_run at h
  obtain ⟨c_v0, h⟩ := chk_some h
  obtain ⟨c_v1, h⟩ := chk_some h
  refine ZFn.of (ls := [(0, .ref v0), (1, .ref v1), (2, .int v2), (3, .int v3), (4, .int v4)]) (by decide) (fun ξ => Nat.le_of_ble_eq_true rfl) (fun ξ => rfl) ?_
  refine V_aload_n 0 (zdk tbX0_run_0_ok 0 rfl) rfl ?_
  refine V_aload_n 1 (zdk tbX0_run_0_ok 1 rfl) rfl ?_
  refine V_getI (zdk tbX0_run_0_ok 2 rfl) c_v1 fF0_38 rfl ?_
  obtain ⟨μ1, e2, h⟩ := lt_some h
  refine V_putI (zdk tbX0_run_0_ok 3 rfl) c_v0 fF0_19 rfl rfl rfl e2 ?_
  refine V_aload_n 0 (zdk tbX0_run_0_ok 4 rfl) rfl ?_
  refine V_iload_n 2 (zdk tbX0_run_0_ok 5 rfl) rfl ?_
  obtain ⟨μ3, e4, h⟩ := lt_some h
  refine V_putI (zdk tbX0_run_0_ok 6 rfl) c_v0 fF0_22 rfl rfl rfl e4 ?_
  refine V_aload_n 0 (zdk tbX0_run_0_ok 7 rfl) rfl ?_
  refine V_aload_n 1 (zdk tbX0_run_0_ok 8 rfl) rfl ?_
  refine V_getI (zdk tbX0_run_0_ok 9 rfl) c_v1 fF0_41 rfl ?_
  obtain ⟨μ5, e6, h⟩ := lt_some h
  refine V_putI (zdk tbX0_run_0_ok 10 rfl) c_v0 fF0_25 rfl rfl rfl e6 ?_
  refine V_aload_n 0 (zdk tbX0_run_0_ok 11 rfl) rfl ?_
  refine V_aload_n 0 (zdk tbX0_run_0_ok 12 rfl) rfl ?_
  refine V_getI (zdk tbX0_run_0_ok 13 rfl) c_v0 fF0_19 rfl ?_
  refine V_iload_n 3 (zdk tbX0_run_0_ok 14 rfl) rfl ?_
  refine V_iload 4 (zdk tbX0_run_0_ok 15 rfl) rfl ?_
  refine V_iconst (v := 0) (zdk tbX0_run_0_ok 16 rfl) rfl ?_
  obtain ⟨μ8, r9, q7, h⟩ := bd2_some h
  refine V_callS (R1 := (rmd (4 + FD))) (As := [.ref v0, .int (zI μ5 v0 2), .int v3, .int v4, .int (0 : Int32)]) (r := (some (.int r9))) (zdk tbX0_run_0_ok 17 rfl) sC0_44 (tX0_runFrom FD v0 (zI μ5 v0 2) v3 v4 (0 : Int32) μ5 _ q7) rfl rfl ⟨Nat.le_of_ble_eq_true rfl, Nat.le_of_ble_eq_true rfl⟩ (Nat.le_of_ble_eq_true rfl) ⟨rfl, rfl⟩ id ?_
  cases h
  exact V_iret (zdk tbX0_run_0_ok 18 rfl) rfl rfl

-- WhoComplainsCarries$Shelf.<init>
def tbX3_init_0 : List (Nat × Instr × Nat) := [(0, .aload_n 0, 1), (1, .invokespecial 3, 3), (4, .aload_n 0, 1), (5, .iconst 0, 1), (6, .putfield 11, 3), (9, .aload_n 0, 1), (10, .iconst 0, 1), (11, .putfield 15, 3), (14, .aload_n 0, 1), (15, .iconst 0, 1), (16, .putfield 18, 3), (19, .aload_n 0, 1), (20, .iconst (-1), 1), (21, .putfield 21, 3), (24, .aload_n 0, 1), (25, .sipush 160, 3), (28, .newarray .long, 2), (30, .putfield 24, 3), (33, .return_, 1)]
theorem tbX3_init_0_ok : ∀ q ∈ tbX3_init_0, decode cX3_init q.1 = .ok (q.2.1, q.2.2) := by decide +kernel
theorem wO3_3 : Cond.methodLink RX3 3 Lib.objectInit ∈ zT := zin (i := 29) (by decide +kernel) rfl
theorem fF3_11 : zF RX3 11 3 0 := ⟨_, rfl, by decide, zin (i := 30) (by decide +kernel) rfl⟩
theorem fF3_15 : zF RX3 15 3 1 := ⟨_, rfl, by decide, zin (i := 31) (by decide +kernel) rfl⟩
theorem fF3_18 : zF RX3 18 3 2 := ⟨_, rfl, by decide, zin (i := 33) (by decide +kernel) rfl⟩
theorem fF3_21 : zF RX3 21 3 3 := ⟨_, rfl, by decide, zin (i := 36) (by decide +kernel) rfl⟩
theorem wA101 : Cond.arrayClass (newarray.typeOf .long) ∈ zT := zin (i := 50) (by decide +kernel) rfl
theorem fF3_24 : zF RX3 24 3 4 := ⟨_, rfl, by decide, zin (i := 38) (by decide +kernel) rfl⟩
def fX3_init (n0 : Nat) (v0 : Nat) (μ : ZMem) : Option (Nat × ZMem) := chk (isC n0 3 v0) (lt (zpI μ v0 0 (0 : Int32)) (fun μ1 => lt (zpI μ1 v0 1 (0 : Int32)) (fun μ3 => lt (zpI μ3 v0 2 (0 : Int32)) (fun μ5 => lt (zpI μ5 v0 3 (-1 : Int32)) (fun μ7 => chk (nwa n0 101 160) (chk (zrm (n0 + 1) n0 1 160) (lt (zmk μ7 n0) (fun μ11 => lt (zpR μ11 v0 4 n0) (fun μ14 => some ((n0 + 1), μ14))))))))))
theorem tX3_init {l : Launch} {n0 : Nat} {v0 : Nat} {μ : ZMem} {z : Nat × ZMem} (h : fX3_init n0 v0 μ = some z) : ZFn l mX3_init (rmc 1 1 160) [.ref v0] true n0 μ (true, z.1, z.2, none) := by
  unfold fX3_init at h
  have hn0 : n0 ≤ n0 := Nat.le_refl n0
  obtain ⟨c_v0, h⟩ := chk_some h
  refine ZFn.of (ls := [(0, .ref v0)]) (by decide) (fun ξ => Nat.le_of_ble_eq_true rfl) (fun ξ => rfl) ?_
  refine V_aload_n 0 (zdk tbX3_init_0_ok 0 rfl) rfl ?_
  refine V_obj (zdk tbX3_init_0_ok 1 rfl) wO3_3 wOi wOc ⟨Nat.le_of_ble_eq_true rfl, Nat.le_of_ble_eq_true rfl⟩ (Nat.le_of_ble_eq_true rfl) ?_
  refine V_aload_n 0 (zdk tbX3_init_0_ok 2 rfl) rfl ?_
  refine V_iconst (v := 0) (zdk tbX3_init_0_ok 3 rfl) rfl ?_
  obtain ⟨μ1, e2, h⟩ := lt_some h
  refine V_putI (zdk tbX3_init_0_ok 4 rfl) c_v0 fF3_11 rfl rfl rfl e2 ?_
  refine V_aload_n 0 (zdk tbX3_init_0_ok 5 rfl) rfl ?_
  refine V_iconst (v := 0) (zdk tbX3_init_0_ok 6 rfl) rfl ?_
  obtain ⟨μ3, e4, h⟩ := lt_some h
  refine V_putI (zdk tbX3_init_0_ok 7 rfl) c_v0 fF3_15 rfl rfl rfl e4 ?_
  refine V_aload_n 0 (zdk tbX3_init_0_ok 8 rfl) rfl ?_
  refine V_iconst (v := 0) (zdk tbX3_init_0_ok 9 rfl) rfl ?_
  obtain ⟨μ5, e6, h⟩ := lt_some h
  refine V_putI (zdk tbX3_init_0_ok 10 rfl) c_v0 fF3_18 rfl rfl rfl e6 ?_
  refine V_aload_n 0 (zdk tbX3_init_0_ok 11 rfl) rfl ?_
  refine V_iconst (v := (-1)) (zdk tbX3_init_0_ok 12 rfl) rfl ?_
  obtain ⟨μ7, e8, h⟩ := lt_some h
  refine V_putI (zdk tbX3_init_0_ok 13 rfl) c_v0 fF3_21 rfl rfl rfl e8 ?_
  refine V_aload_n 0 (zdk tbX3_init_0_ok 14 rfl) rfl ?_
  refine V_sipush (v := 160) (zdk tbX3_init_0_ok 15 rfl) rfl ?_
  obtain ⟨w9, h⟩ := chk_some h
  obtain ⟨w10, h⟩ := chk_some h
  obtain ⟨μ11, e12, h⟩ := lt_some h
  refine V_newl (zdk tbX3_init_0_ok 16 rfl) rfl (by decide) w9 wA101 (zrm_room w10 rfl rfl rfl) e12 ?_
  replace c_v0 := isC_mono c_v0 (Nat.le_succ n0)
  replace hn0 := Nat.le_succ_of_le hn0
  have c13 := isC_newa w9
  obtain ⟨μ14, e15, h⟩ := lt_some h
  refine V_putR (zdk tbX3_init_0_ok 17 rfl) c_v0 fF3_24 rfl (Or.inr ⟨rfl, fun q hq => by cases hq; rfl⟩) rfl (fun _ => rfl) (fun _ => rfl) e15 ?_
  cases h
  exact V_vret (zdk tbX3_init_0_ok 18 rfl) rfl rfl

-- WhoComplainsCarries$Shelf.isRow
def tbX3_isRow_0 : List (Nat × Instr × Nat) := [(0, .aload_n 0, 1), (1, .getfield 11, 3), (4, .iconst 1, 1), (5, .if_icmp .ne 7, 3), (8, .iconst 1, 1), (9, .goto 4, 3), (12, .iconst 0, 1), (13, .ireturn, 1)]
theorem tbX3_isRow_0_ok : ∀ q ∈ tbX3_isRow_0, decode cX3_isRow q.1 = .ok (q.2.1, q.2.2) := by decide +kernel
def fX3_isRow_b13 (n : Nat) (s0 : Int32) (μ : ZMem) : Option (ZMem × Int32) := chk (b01 s0) (some (μ, s0))
theorem tX3_isRow_b13 {l : Launch} {fr : Bool} {n : Nat} {z : ZMem × Int32} (s0 : Int32) (μ : ZMem) (h : fX3_isRow_b13 n s0 μ = some z) : V (zkI l mX3_isRow (rmd 1) fr n z) fr 13 [] [.int s0] n μ := by
  unfold fX3_isRow_b13 at h
  obtain ⟨b1, h⟩ := chk_some h
  cases h
  exact V_zret (zdk tbX3_isRow_0_ok 7 rfl) rfl (b01_n b1) rfl
def fX3_isRow (n : Nat) (v0 : Nat) (μ : ZMem) : Option (ZMem × Int32) := chk (isC n 3 v0) ((if (zI μ v0 0) = (1 : Int32) then (fX3_isRow_b13 n (1 : Int32) μ) else (fX3_isRow_b13 n (0 : Int32) μ)))
theorem tX3_isRow {l : Launch} {fr : Bool} {n : Nat} {v0 : Nat} {μ : ZMem} {z : ZMem × Int32} (h : fX3_isRow n v0 μ = some z) : ZFn l mX3_isRow (rmd 1) [.ref v0] fr n μ (fr, n, z.1, some (.int z.2)) := by
  unfold fX3_isRow at h
  obtain ⟨c_v0, h⟩ := chk_some h
  refine ZFn.of (ls := [(0, .ref v0)]) (by decide) (fun ξ => Nat.le_of_ble_eq_true rfl) (fun ξ => rfl) ?_
  refine V_aload_n 0 (zdk tbX3_isRow_0_ok 0 rfl) rfl ?_
  refine V_getI (zdk tbX3_isRow_0_ok 1 rfl) c_v0 fF3_11 rfl ?_
  refine V_iconst (v := 1) (zdk tbX3_isRow_0_ok 2 rfl) rfl ?_
  refine V_icmp_ne (tgt := 12) (zdk tbX3_isRow_0_ok 3 rfl) (by decide) (fun c1 => ?_) (fun c1 => ?_)
  · replace h := ite_f h c1
    refine V_iconst (v := 0) (zdk tbX3_isRow_0_ok 6 rfl) rfl ?_
    refine V_sub (ls' := []) [] rfl ?_
    exact tX3_isRow_b13 (0 : Int32) μ  h
  · replace h := ite_t h c1
    refine V_iconst (v := 1) (zdk tbX3_isRow_0_ok 4 rfl) rfl ?_
    refine V_goto (tgt := 13) (zdk tbX3_isRow_0_ok 5 rfl) (by decide) ?_
    refine V_sub (ls' := []) [] rfl ?_
    exact tX3_isRow_b13 (1 : Int32) μ  h

-- WhoComplainsCarries$Shelf.isPerson
def tbX3_isPerson_0 : List (Nat × Instr × Nat) := [(0, .aload_n 0, 1), (1, .getfield 11, 3), (4, .iconst 2, 1), (5, .if_icmp .ne 7, 3), (8, .iconst 1, 1), (9, .goto 4, 3), (12, .iconst 0, 1), (13, .ireturn, 1)]
theorem tbX3_isPerson_0_ok : ∀ q ∈ tbX3_isPerson_0, decode cX3_isPerson q.1 = .ok (q.2.1, q.2.2) := by decide +kernel
def fX3_isPerson_b13 (n : Nat) (s0 : Int32) (μ : ZMem) : Option (ZMem × Int32) := chk (b01 s0) (some (μ, s0))
theorem tX3_isPerson_b13 {l : Launch} {fr : Bool} {n : Nat} {z : ZMem × Int32} (s0 : Int32) (μ : ZMem) (h : fX3_isPerson_b13 n s0 μ = some z) : V (zkI l mX3_isPerson (rmd 1) fr n z) fr 13 [] [.int s0] n μ := by
  unfold fX3_isPerson_b13 at h
  obtain ⟨b1, h⟩ := chk_some h
  cases h
  exact V_zret (zdk tbX3_isPerson_0_ok 7 rfl) rfl (b01_n b1) rfl
def fX3_isPerson (n : Nat) (v0 : Nat) (μ : ZMem) : Option (ZMem × Int32) := chk (isC n 3 v0) ((if (zI μ v0 0) = (2 : Int32) then (fX3_isPerson_b13 n (1 : Int32) μ) else (fX3_isPerson_b13 n (0 : Int32) μ)))
theorem tX3_isPerson {l : Launch} {fr : Bool} {n : Nat} {v0 : Nat} {μ : ZMem} {z : ZMem × Int32} (h : fX3_isPerson n v0 μ = some z) : ZFn l mX3_isPerson (rmd 1) [.ref v0] fr n μ (fr, n, z.1, some (.int z.2)) := by
  unfold fX3_isPerson at h
  obtain ⟨c_v0, h⟩ := chk_some h
  refine ZFn.of (ls := [(0, .ref v0)]) (by decide) (fun ξ => Nat.le_of_ble_eq_true rfl) (fun ξ => rfl) ?_
  refine V_aload_n 0 (zdk tbX3_isPerson_0_ok 0 rfl) rfl ?_
  refine V_getI (zdk tbX3_isPerson_0_ok 1 rfl) c_v0 fF3_11 rfl ?_
  refine V_iconst (v := 2) (zdk tbX3_isPerson_0_ok 2 rfl) rfl ?_
  refine V_icmp_ne (tgt := 12) (zdk tbX3_isPerson_0_ok 3 rfl) (by decide) (fun c1 => ?_) (fun c1 => ?_)
  · replace h := ite_f h c1
    refine V_iconst (v := 0) (zdk tbX3_isPerson_0_ok 6 rfl) rfl ?_
    refine V_sub (ls' := []) [] rfl ?_
    exact tX3_isPerson_b13 (0 : Int32) μ  h
  · replace h := ite_t h c1
    refine V_iconst (v := 1) (zdk tbX3_isPerson_0_ok 4 rfl) rfl ?_
    refine V_goto (tgt := 13) (zdk tbX3_isPerson_0_ok 5 rfl) (by decide) ?_
    refine V_sub (ls' := []) [] rfl ?_
    exact tX3_isPerson_b13 (1 : Int32) μ  h

-- WhoComplainsCarries$Shelf.holdNothing
def tbX3_holdNothing_0 : List (Nat × Instr × Nat) := [(0, .aload_n 0, 1), (1, .iconst 0, 1), (2, .putfield 11, 3), (5, .aload_n 0, 1), (6, .iconst 0, 1), (7, .putfield 18, 3), (10, .aload_n 0, 1), (11, .iconst (-1), 1), (12, .putfield 21, 3), (15, .return_, 1)]
theorem tbX3_holdNothing_0_ok : ∀ q ∈ tbX3_holdNothing_0, decode cX3_holdNothing q.1 = .ok (q.2.1, q.2.2) := by decide +kernel
def fX3_holdNothing (n : Nat) (v0 : Nat) (μ : ZMem) : Option (ZMem) := chk (isC n 3 v0) (lt (zpI μ v0 0 (0 : Int32)) (fun μ1 => lt (zpI μ1 v0 2 (0 : Int32)) (fun μ3 => lt (zpI μ3 v0 3 (-1 : Int32)) (fun μ5 => some μ5))))
theorem tX3_holdNothing {l : Launch} {fr : Bool} {n : Nat} {v0 : Nat} {μ : ZMem} {z : ZMem} (h : fX3_holdNothing n v0 μ = some z) : ZFn l mX3_holdNothing (rmd 1) [.ref v0] fr n μ (fr, n, z, none) := by
  unfold fX3_holdNothing at h
  obtain ⟨c_v0, h⟩ := chk_some h
  refine ZFn.of (ls := [(0, .ref v0)]) (by decide) (fun ξ => Nat.le_of_ble_eq_true rfl) (fun ξ => rfl) ?_
  refine V_aload_n 0 (zdk tbX3_holdNothing_0_ok 0 rfl) rfl ?_
  refine V_iconst (v := 0) (zdk tbX3_holdNothing_0_ok 1 rfl) rfl ?_
  obtain ⟨μ1, e2, h⟩ := lt_some h
  refine V_putI (zdk tbX3_holdNothing_0_ok 2 rfl) c_v0 fF3_11 rfl rfl rfl e2 ?_
  refine V_aload_n 0 (zdk tbX3_holdNothing_0_ok 3 rfl) rfl ?_
  refine V_iconst (v := 0) (zdk tbX3_holdNothing_0_ok 4 rfl) rfl ?_
  obtain ⟨μ3, e4, h⟩ := lt_some h
  refine V_putI (zdk tbX3_holdNothing_0_ok 5 rfl) c_v0 fF3_18 rfl rfl rfl e4 ?_
  refine V_aload_n 0 (zdk tbX3_holdNothing_0_ok 6 rfl) rfl ?_
  refine V_iconst (v := (-1)) (zdk tbX3_holdNothing_0_ok 7 rfl) rfl ?_
  obtain ⟨μ5, e6, h⟩ := lt_some h
  refine V_putI (zdk tbX3_holdNothing_0_ok 8 rfl) c_v0 fF3_21 rfl rfl rfl e6 ?_
  cases h
  exact V_vret (zdk tbX3_holdNothing_0_ok 9 rfl) rfl rfl

-- WhoComplainsCarries$Shelf.holdPerson
def tbX3_holdPerson_0 : List (Nat × Instr × Nat) := [(0, .aload_n 0, 1), (1, .iconst 2, 1), (2, .putfield 11, 3), (5, .aload_n 0, 1), (6, .iconst 0, 1), (7, .putfield 18, 3), (10, .aload_n 0, 1), (11, .iload_n 1, 1), (12, .putfield 21, 3), (15, .return_, 1)]
theorem tbX3_holdPerson_0_ok : ∀ q ∈ tbX3_holdPerson_0, decode cX3_holdPerson q.1 = .ok (q.2.1, q.2.2) := by decide +kernel
def fX3_holdPerson (n : Nat) (v0 : Nat) (v1 : Int32) (μ : ZMem) : Option (ZMem) := chk (isC n 3 v0) (lt (zpI μ v0 0 (2 : Int32)) (fun μ1 => lt (zpI μ1 v0 2 (0 : Int32)) (fun μ3 => lt (zpI μ3 v0 3 v1) (fun μ5 => some μ5))))
theorem tX3_holdPerson {l : Launch} {fr : Bool} {n : Nat} {v0 : Nat} {v1 : Int32} {μ : ZMem} {z : ZMem} (h : fX3_holdPerson n v0 v1 μ = some z) : ZFn l mX3_holdPerson (rmd 1) [.ref v0, .int v1] fr n μ (fr, n, z, none) := by
  unfold fX3_holdPerson at h
  obtain ⟨c_v0, h⟩ := chk_some h
  refine ZFn.of (ls := [(0, .ref v0), (1, .int v1)]) (by decide) (fun ξ => Nat.le_of_ble_eq_true rfl) (fun ξ => rfl) ?_
  refine V_aload_n 0 (zdk tbX3_holdPerson_0_ok 0 rfl) rfl ?_
  refine V_iconst (v := 2) (zdk tbX3_holdPerson_0_ok 1 rfl) rfl ?_
  obtain ⟨μ1, e2, h⟩ := lt_some h
  refine V_putI (zdk tbX3_holdPerson_0_ok 2 rfl) c_v0 fF3_11 rfl rfl rfl e2 ?_
  refine V_aload_n 0 (zdk tbX3_holdPerson_0_ok 3 rfl) rfl ?_
  refine V_iconst (v := 0) (zdk tbX3_holdPerson_0_ok 4 rfl) rfl ?_
  obtain ⟨μ3, e4, h⟩ := lt_some h
  refine V_putI (zdk tbX3_holdPerson_0_ok 5 rfl) c_v0 fF3_18 rfl rfl rfl e4 ?_
  refine V_aload_n 0 (zdk tbX3_holdPerson_0_ok 6 rfl) rfl ?_
  refine V_iload_n 1 (zdk tbX3_holdPerson_0_ok 7 rfl) rfl ?_
  obtain ⟨μ5, e6, h⟩ := lt_some h
  refine V_putI (zdk tbX3_holdPerson_0_ok 8 rfl) c_v0 fF3_21 rfl rfl rfl e6 ?_
  cases h
  exact V_vret (zdk tbX3_holdPerson_0_ok 9 rfl) rfl rfl

-- WhoComplainsCarries$Shelf.holdRow
def tbX3_holdRow_0 : List (Nat × Instr × Nat) := [(0, .aload_n 0, 1), (1, .iconst 1, 1), (2, .putfield 11, 3), (5, .aload_n 0, 1), (6, .iload_n 1, 1), (7, .putfield 15, 3), (10, .aload_n 0, 1), (11, .iconst 0, 1), (12, .sipush 160, 3), (15, .iload_n 2, 1), (16, .invokestatic 28, 3), (19, .invokestatic 34, 3), (22, .putfield 18, 3), (25, .aload_n 0, 1), (26, .iconst (-1), 1), (27, .putfield 21, 3), (30, .iconst 0, 1), (31, .istore_n 3, 1), (32, .iload_n 3, 1), (33, .aload_n 0, 1), (34, .getfield 18, 3), (37, .if_icmp .ge 16, 3), (40, .aload_n 0, 1), (41, .getfield 24, 3), (44, .iload_n 3, 1), (45, .lconst 0, 1), (46, .lastore, 1), (47, .iinc 3 1, 3), (50, .goto (-18), 3), (53, .return_, 1)]
theorem tbX3_holdRow_0_ok : ∀ q ∈ tbX3_holdRow_0, decode cX3_holdRow q.1 = .ok (q.2.1, q.2.2) := by decide +kernel
theorem wM3_28 : Cond.methodLink RX3 28 Lib.Math.min.name ∈ zT := zin (i := 261) (by decide +kernel) rfl
theorem wM3_34 : Cond.methodLink RX3 34 Lib.Math.max.name ∈ zT := zin (i := 264) (by decide +kernel) rfl
def fX3_holdRow_b32 (n : Nat) : Nat → Nat → Int32 → ZMem → Option (ZMem)
  | 0, _, _, _ => none
  | k + 1, v0, v3, μ => (if (zI μ v0 2) ≤ v3 then some μ else bd1 (zRc n 101 μ v0 4) (fun r2 => chk (inb v3 r2) (lt (zpL μ r2 v3.toNatClampNeg (0 : Int64)) (fun μ5 => (fX3_holdRow_b32 n k v0 (v3 + (1 : Int32)) μ5)))))
theorem tX3_holdRow_b32 {l : Launch} {fr : Bool} {n : Nat} {z : ZMem} : ∀ (k : Nat) (v0 : Nat) (v3 : Int32) (μ : ZMem) (c_v0 : isC n 3 v0 = true), fX3_holdRow_b32 n k v0 v3 μ = some z → V (zkV l mX3_holdRow (rmd 1) fr n z) fr 32 [(0, .ref v0), (3, .int v3)] [] n μ := by
  intro k
  induction k with
  | zero =>
    intro v0 v3 μ c_v0 h
    unfold fX3_holdRow_b32 at h
    cases h
  | succ k ih =>
    intro v0 v3 μ c_v0 h
    unfold fX3_holdRow_b32 at h
    refine V_iload_n 1 (zdk tbX3_holdRow_0_ok 18 rfl) rfl ?_
    refine V_aload_n 0 (zdk tbX3_holdRow_0_ok 19 rfl) rfl ?_
    refine V_getI (zdk tbX3_holdRow_0_ok 20 rfl) c_v0 fF3_18 rfl ?_
    refine V_icmp_ge (tgt := 53) (zdk tbX3_holdRow_0_ok 21 rfl) (by decide) (fun c1 => ?_) (fun c1 => ?_)
    · replace h := ite_t h c1
      cases h
      exact V_vret (zdk tbX3_holdRow_0_ok 29 rfl) rfl rfl
    · replace h := ite_f h c1
      refine V_aload_n 0 (zdk tbX3_holdRow_0_ok 22 rfl) rfl ?_
      obtain ⟨r2, q3, h⟩ := bd1_some h
      obtain ⟨q3, c_r2⟩ := zRc_some q3
      refine V_getR (zdk tbX3_holdRow_0_ok 23 rfl) c_v0 fF3_24 rfl q3 ?_
      refine V_iload_n 1 (zdk tbX3_holdRow_0_ok 24 rfl) rfl ?_
      refine V_lconst (v := 0) (zdk tbX3_holdRow_0_ok 25 rfl) rfl ?_
      obtain ⟨b4, h⟩ := chk_some h
      obtain ⟨μ5, e6, h⟩ := lt_some h
      refine V_last (zdk tbX3_holdRow_0_ok 26 rfl) c_r2 b4 e6 ?_
      refine V_inc (dx := 1) (ls' := [(0, .ref v0), (3, .int (v3 + (1 : Int32)))]) 1 [1, 0] (zdk tbX3_holdRow_0_ok 27 rfl) rfl (Nat.le_of_ble_eq_true rfl) rfl rfl ?_
      refine V_goto (tgt := 32) (zdk tbX3_holdRow_0_ok 28 rfl) (by decide) ?_
      exact ih v0 (v3 + (1 : Int32)) μ5 c_v0 h
def fX3_holdRow (n : Nat) (v0 : Nat) (v1 : Int32) (v2 : Int32) (μ : ZMem) : Option (ZMem) := chk (isC n 3 v0) (lt (zpI μ v0 0 (1 : Int32)) (fun μ1 => lt (zpI μ1 v0 1 v1) (fun μ3 => lt (zpI μ3 v0 2 (if (0 : Int32) < (if v2 < (160 : Int32) then v2 else (160 : Int32)) then (if v2 < (160 : Int32) then v2 else (160 : Int32)) else (0 : Int32))) (fun μ5 => lt (zpI μ5 v0 3 (-1 : Int32)) (fun μ7 => (fX3_holdRow_b32 n FU v0 (0 : Int32) μ7))))))
theorem tX3_holdRow {l : Launch} {fr : Bool} {n : Nat} {v0 : Nat} {v1 : Int32} {v2 : Int32} {μ : ZMem} {z : ZMem} (h : fX3_holdRow n v0 v1 v2 μ = some z) : ZFn l mX3_holdRow (rmd 1) [.ref v0, .int v1, .int v2] fr n μ (fr, n, z, none) := by
  unfold fX3_holdRow at h
  obtain ⟨c_v0, h⟩ := chk_some h
  refine ZFn.of (ls := [(0, .ref v0), (1, .int v1), (2, .int v2)]) (by decide) (fun ξ => Nat.le_of_ble_eq_true rfl) (fun ξ => rfl) ?_
  refine V_aload_n 0 (zdk tbX3_holdRow_0_ok 0 rfl) rfl ?_
  refine V_iconst (v := 1) (zdk tbX3_holdRow_0_ok 1 rfl) rfl ?_
  obtain ⟨μ1, e2, h⟩ := lt_some h
  refine V_putI (zdk tbX3_holdRow_0_ok 2 rfl) c_v0 fF3_11 rfl rfl rfl e2 ?_
  refine V_aload_n 0 (zdk tbX3_holdRow_0_ok 3 rfl) rfl ?_
  refine V_iload_n 1 (zdk tbX3_holdRow_0_ok 4 rfl) rfl ?_
  obtain ⟨μ3, e4, h⟩ := lt_some h
  refine V_putI (zdk tbX3_holdRow_0_ok 5 rfl) c_v0 fF3_15 rfl rfl rfl e4 ?_
  refine V_aload_n 0 (zdk tbX3_holdRow_0_ok 6 rfl) rfl ?_
  refine V_iconst (v := 0) (zdk tbX3_holdRow_0_ok 7 rfl) rfl ?_
  refine V_sipush (v := 160) (zdk tbX3_holdRow_0_ok 8 rfl) rfl ?_
  refine V_iload_n 2 (zdk tbX3_holdRow_0_ok 9 rfl) rfl ?_
  refine V_min (zdk tbX3_holdRow_0_ok 10 rfl) wM3_28 wMs_min wMi wMc_min ⟨Nat.le_of_ble_eq_true rfl, Nat.le_of_ble_eq_true rfl⟩ (Nat.le_of_ble_eq_true rfl) ?_
  refine V_max (zdk tbX3_holdRow_0_ok 11 rfl) wM3_34 wMs_max wMi wMc_max ⟨Nat.le_of_ble_eq_true rfl, Nat.le_of_ble_eq_true rfl⟩ (Nat.le_of_ble_eq_true rfl) ?_
  obtain ⟨μ5, e6, h⟩ := lt_some h
  refine V_putI (zdk tbX3_holdRow_0_ok 12 rfl) c_v0 fF3_18 rfl rfl rfl e6 ?_
  refine V_aload_n 0 (zdk tbX3_holdRow_0_ok 13 rfl) rfl ?_
  refine V_iconst (v := (-1)) (zdk tbX3_holdRow_0_ok 14 rfl) rfl ?_
  obtain ⟨μ7, e8, h⟩ := lt_some h
  refine V_putI (zdk tbX3_holdRow_0_ok 15 rfl) c_v0 fF3_21 rfl rfl rfl e8 ?_
  refine V_iconst (v := 0) (zdk tbX3_holdRow_0_ok 16 rfl) rfl ?_
  refine V_istore_n (ls' := [(0, .ref v0), (3, .int (0 : Int32))]) [1, 0] (zdk tbX3_holdRow_0_ok 17 rfl) (Nat.le_of_ble_eq_true rfl) rfl ?_
  exact tX3_holdRow_b32 FU v0 (0 : Int32) μ7 c_v0 h

-- WhoComplainsCarries$Shelf.hasElement
def tbX3_hasElement_0 : List (Nat × Instr × Nat) := [(0, .aload_n 0, 1), (1, .invokevirtual 37, 3), (4, .ifCond .eq 28, 3), (7, .iload_n 1, 1), (8, .ifCond .lt 24, 3), (11, .iload_n 1, 1), (12, .aload_n 0, 1), (13, .getfield 18, 3), (16, .if_icmp .ge 16, 3), (19, .iload_n 1, 1), (20, .aload_n 0, 1), (21, .getfield 24, 3), (24, .arraylength, 1), (25, .if_icmp .ge 7, 3), (28, .iconst 1, 1), (29, .goto 4, 3), (32, .iconst 0, 1), (33, .ireturn, 1)]
theorem tbX3_hasElement_0_ok : ∀ q ∈ tbX3_hasElement_0, decode cX3_hasElement q.1 = .ok (q.2.1, q.2.2) := by decide +kernel
theorem wCX3_isRow : zCW mX3_isRow 0 := ⟨zin (i := 2) (by decide +kernel) rfl, zin (i := 282) (by decide +kernel) rfl, by decide +kernel, by decide +kernel, by decide +kernel⟩
theorem sC3_37 : zCV RX3 37 mX3_isRow 0 := ⟨zin (i := 287) (by decide +kernel) rfl, zin (i := 280) (by decide +kernel) rfl, zin (i := 281) (by decide +kernel) rfl, wCX3_isRow⟩
def fX3_hasElement_b33 (n : Nat) (s0 : Int32) (μ : ZMem) : Option (ZMem × Int32) := chk (b01 s0) (some (μ, s0))
theorem tX3_hasElement_b33 {l : Launch} {fr : Bool} {n : Nat} {z : ZMem × Int32} (s0 : Int32) (μ : ZMem) (h : fX3_hasElement_b33 n s0 μ = some z) : V (zkI l mX3_hasElement (rmd 2) fr n z) fr 33 [] [.int s0] n μ := by
  unfold fX3_hasElement_b33 at h
  obtain ⟨b1, h⟩ := chk_some h
  cases h
  exact V_zret (zdk tbX3_hasElement_0_ok 17 rfl) rfl (b01_n b1) rfl
def fX3_hasElement_b32 (n : Nat) (μ : ZMem) : Option (ZMem × Int32) := (fX3_hasElement_b33 n (0 : Int32) μ)
theorem tX3_hasElement_b32 {l : Launch} {fr : Bool} {n : Nat} {z : ZMem × Int32} (μ : ZMem) (h : fX3_hasElement_b32 n μ = some z) : V (zkI l mX3_hasElement (rmd 2) fr n z) fr 32 [] [] n μ := by
  unfold fX3_hasElement_b32 at h
  refine V_iconst (v := 0) (zdk tbX3_hasElement_0_ok 16 rfl) rfl ?_
  exact tX3_hasElement_b33 (0 : Int32) μ  h
def fX3_hasElement (n : Nat) (v0 : Nat) (v1 : Int32) (μ : ZMem) : Option (ZMem × Int32) := chk (isC n 3 v0) (bd2 (fX3_isRow n v0 μ) (fun μ2 r3 => (if r3 = 0 then (fX3_hasElement_b32 n  μ2) else (if v1 < 0 then (fX3_hasElement_b32 n  μ2) else (if (zI μ2 v0 2) ≤ v1 then (fX3_hasElement_b32 n  μ2) else bd1 (zRc n 101 μ2 v0 4) (fun r7 => (if (Int32.ofNat (zsz r7)) ≤ v1 then (fX3_hasElement_b32 n  μ2) else (fX3_hasElement_b33 n (1 : Int32) μ2))))))))
theorem tX3_hasElement {l : Launch} {fr : Bool} {n : Nat} {v0 : Nat} {v1 : Int32} {μ : ZMem} {z : ZMem × Int32} (h : fX3_hasElement n v0 v1 μ = some z) : ZFn l mX3_hasElement (rmd 2) [.ref v0, .int v1] fr n μ (fr, n, z.1, some (.int z.2)) := by
  unfold fX3_hasElement at h
  obtain ⟨c_v0, h⟩ := chk_some h
  refine ZFn.of (ls := [(0, .ref v0), (1, .int v1)]) (by decide) (fun ξ => Nat.le_of_ble_eq_true rfl) (fun ξ => rfl) ?_
  refine V_aload_n 0 (zdk tbX3_hasElement_0_ok 0 rfl) rfl ?_
  obtain ⟨μ2, r3, q1, h⟩ := bd2_some h
  refine V_callV (R1 := (rmd 1)) (As := []) (r := (some (.int r3))) (zdk tbX3_hasElement_0_ok 1 rfl) sC3_37 (tX3_isRow q1) (c_v0) rfl rfl rfl ⟨Nat.le_of_ble_eq_true rfl, Nat.le_of_ble_eq_true rfl⟩ (Nat.le_of_ble_eq_true rfl) ⟨rfl, rfl⟩ id ?_
  refine V_if_eq (tgt := 32) (zdk tbX3_hasElement_0_ok 2 rfl) (by decide) (fun c4 => ?_) (fun c4 => ?_)
  · replace h := ite_t h c4
    refine V_sub (ls' := []) [] rfl ?_
    exact tX3_hasElement_b32  μ2  h
  · replace h := ite_f h c4
    refine V_iload_n 1 (zdk tbX3_hasElement_0_ok 3 rfl) rfl ?_
    refine V_if_lt (tgt := 32) (zdk tbX3_hasElement_0_ok 4 rfl) (by decide) (fun c5 => ?_) (fun c5 => ?_)
    · replace h := ite_t h c5
      refine V_sub (ls' := []) [] rfl ?_
      exact tX3_hasElement_b32  μ2  h
    · replace h := ite_f h c5
      refine V_iload_n 1 (zdk tbX3_hasElement_0_ok 5 rfl) rfl ?_
      refine V_aload_n 0 (zdk tbX3_hasElement_0_ok 6 rfl) rfl ?_
      refine V_getI (zdk tbX3_hasElement_0_ok 7 rfl) c_v0 fF3_18 rfl ?_
      refine V_icmp_ge (tgt := 32) (zdk tbX3_hasElement_0_ok 8 rfl) (by decide) (fun c6 => ?_) (fun c6 => ?_)
      · replace h := ite_t h c6
        refine V_sub (ls' := []) [] rfl ?_
        exact tX3_hasElement_b32  μ2  h
      · replace h := ite_f h c6
        refine V_iload_n 1 (zdk tbX3_hasElement_0_ok 9 rfl) rfl ?_
        refine V_aload_n 0 (zdk tbX3_hasElement_0_ok 10 rfl) rfl ?_
        obtain ⟨r7, q8, h⟩ := bd1_some h
        obtain ⟨q8, c_r7⟩ := zRc_some q8
        refine V_getR (zdk tbX3_hasElement_0_ok 11 rfl) c_v0 fF3_24 rfl q8 ?_
        refine V_alenJ (zdk tbX3_hasElement_0_ok 12 rfl) c_r7 ?_
        refine V_icmp_ge (tgt := 32) (zdk tbX3_hasElement_0_ok 13 rfl) (by decide) (fun c9 => ?_) (fun c9 => ?_)
        · replace h := ite_t h c9
          refine V_sub (ls' := []) [] rfl ?_
          exact tX3_hasElement_b32  μ2  h
        · replace h := ite_f h c9
          refine V_iconst (v := 1) (zdk tbX3_hasElement_0_ok 14 rfl) rfl ?_
          refine V_goto (tgt := 33) (zdk tbX3_hasElement_0_ok 15 rfl) (by decide) ?_
          refine V_sub (ls' := []) [] rfl ?_
          exact tX3_hasElement_b33 (1 : Int32) μ2  h

-- WhoComplainsCarries$Shelf.hasStretch
def tbX3_hasStretch_0 : List (Nat × Instr × Nat) := [(0, .iload_n 1, 1), (1, .ifCond .lt 25, 3), (4, .iload_n 2, 1), (5, .ifCond .lt 21, 3), (8, .iload_n 1, 1), (9, .i2l, 1), (10, .iload_n 2, 1), (11, .i2l, 1), (12, .ladd, 1), (13, .aload_n 0, 1), (14, .getfield 18, 3), (17, .i2l, 1), (18, .lcmp, 1), (19, .ifCond .gt 7, 3), (22, .iconst 1, 1), (23, .goto 4, 3), (26, .iconst 0, 1), (27, .ireturn, 1)]
theorem tbX3_hasStretch_0_ok : ∀ q ∈ tbX3_hasStretch_0, decode cX3_hasStretch q.1 = .ok (q.2.1, q.2.2) := by decide +kernel
def fX3_hasStretch_b27 (n : Nat) (s0 : Int32) (μ : ZMem) : Option (ZMem × Int32) := chk (b01 s0) (some (μ, s0))
theorem tX3_hasStretch_b27 {l : Launch} {fr : Bool} {n : Nat} {z : ZMem × Int32} (s0 : Int32) (μ : ZMem) (h : fX3_hasStretch_b27 n s0 μ = some z) : V (zkI l mX3_hasStretch (rmd 1) fr n z) fr 27 [] [.int s0] n μ := by
  unfold fX3_hasStretch_b27 at h
  obtain ⟨b1, h⟩ := chk_some h
  cases h
  exact V_zret (zdk tbX3_hasStretch_0_ok 17 rfl) rfl (b01_n b1) rfl
def fX3_hasStretch_b26 (n : Nat) (μ : ZMem) : Option (ZMem × Int32) := (fX3_hasStretch_b27 n (0 : Int32) μ)
theorem tX3_hasStretch_b26 {l : Launch} {fr : Bool} {n : Nat} {z : ZMem × Int32} (μ : ZMem) (h : fX3_hasStretch_b26 n μ = some z) : V (zkI l mX3_hasStretch (rmd 1) fr n z) fr 26 [] [] n μ := by
  unfold fX3_hasStretch_b26 at h
  refine V_iconst (v := 0) (zdk tbX3_hasStretch_0_ok 16 rfl) rfl ?_
  exact tX3_hasStretch_b27 (0 : Int32) μ  h
def fX3_hasStretch (n : Nat) (v0 : Nat) (v1 : Int32) (v2 : Int32) (μ : ZMem) : Option (ZMem × Int32) := chk (isC n 3 v0) ((if v1 < 0 then (fX3_hasStretch_b26 n  μ) else (if v2 < 0 then (fX3_hasStretch_b26 n  μ) else (if 0 < (lg_cmp ((v1.toInt64) + (v2.toInt64)) ((zI μ v0 2).toInt64)) then (fX3_hasStretch_b26 n  μ) else (fX3_hasStretch_b27 n (1 : Int32) μ)))))
theorem tX3_hasStretch {l : Launch} {fr : Bool} {n : Nat} {v0 : Nat} {v1 : Int32} {v2 : Int32} {μ : ZMem} {z : ZMem × Int32} (h : fX3_hasStretch n v0 v1 v2 μ = some z) : ZFn l mX3_hasStretch (rmd 1) [.ref v0, .int v1, .int v2] fr n μ (fr, n, z.1, some (.int z.2)) := by
  unfold fX3_hasStretch at h
  obtain ⟨c_v0, h⟩ := chk_some h
  refine ZFn.of (ls := [(0, .ref v0), (1, .int v1), (2, .int v2)]) (by decide) (fun ξ => Nat.le_of_ble_eq_true rfl) (fun ξ => rfl) ?_
  refine V_iload_n 1 (zdk tbX3_hasStretch_0_ok 0 rfl) rfl ?_
  refine V_if_lt (tgt := 26) (zdk tbX3_hasStretch_0_ok 1 rfl) (by decide) (fun c1 => ?_) (fun c1 => ?_)
  · replace h := ite_t h c1
    refine V_sub (ls' := []) [] rfl ?_
    exact tX3_hasStretch_b26  μ  h
  · replace h := ite_f h c1
    refine V_iload_n 2 (zdk tbX3_hasStretch_0_ok 2 rfl) rfl ?_
    refine V_if_lt (tgt := 26) (zdk tbX3_hasStretch_0_ok 3 rfl) (by decide) (fun c2 => ?_) (fun c2 => ?_)
    · replace h := ite_t h c2
      refine V_sub (ls' := []) [] rfl ?_
      exact tX3_hasStretch_b26  μ  h
    · replace h := ite_f h c2
      refine V_iload_n 1 (zdk tbX3_hasStretch_0_ok 4 rfl) rfl ?_
      refine V_i2l (zdk tbX3_hasStretch_0_ok 5 rfl) rfl ?_
      refine V_iload_n 2 (zdk tbX3_hasStretch_0_ok 6 rfl) rfl ?_
      refine V_i2l (zdk tbX3_hasStretch_0_ok 7 rfl) rfl ?_
      refine V_ladd (zdk tbX3_hasStretch_0_ok 8 rfl) ?_
      refine V_aload_n 0 (zdk tbX3_hasStretch_0_ok 9 rfl) rfl ?_
      refine V_getI (zdk tbX3_hasStretch_0_ok 10 rfl) c_v0 fF3_18 rfl ?_
      refine V_i2l (zdk tbX3_hasStretch_0_ok 11 rfl) rfl ?_
      refine V_lcmp (zdk tbX3_hasStretch_0_ok 12 rfl) ?_
      refine V_if_gt (tgt := 26) (zdk tbX3_hasStretch_0_ok 13 rfl) (by decide) (fun c3 => ?_) (fun c3 => ?_)
      · replace h := ite_t h c3
        refine V_sub (ls' := []) [] rfl ?_
        exact tX3_hasStretch_b26  μ  h
      · replace h := ite_f h c3
        refine V_iconst (v := 1) (zdk tbX3_hasStretch_0_ok 14 rfl) rfl ?_
        refine V_goto (tgt := 27) (zdk tbX3_hasStretch_0_ok 15 rfl) (by decide) ?_
        refine V_sub (ls' := []) [] rfl ?_
        exact tX3_hasStretch_b27 (1 : Int32) μ  h

-- WhoComplainsCarries$Shelf.put
def tbX3_put_0 : List (Nat × Instr × Nat) := [(0, .aload_n 0, 1), (1, .iload_n 1, 1), (2, .invokevirtual 41, 3), (5, .ifCond .ne 4, 3), (8, .return_, 1), (9, .aload_n 0, 1), (10, .getfield 15, 3), (13, .tableswitch 65 0 2 #[27, 40, 53], 27), (40, .aload_n 0, 1), (41, .getfield 24, 3), (44, .iload_n 1, 1), (45, .lload_n 2, 1), (46, .l2i, 1), (47, .i2b, 1), (48, .i2l, 1), (49, .lastore, 1), (50, .goto 35, 3), (53, .aload_n 0, 1), (54, .getfield 24, 3), (57, .iload_n 1, 1), (58, .lload_n 2, 1), (59, .l2i, 1), (60, .i2s, 1), (61, .i2l, 1), (62, .lastore, 1), (63, .goto 22, 3), (66, .aload_n 0, 1), (67, .getfield 24, 3), (70, .iload_n 1, 1), (71, .lload_n 2, 1), (72, .l2i, 1), (73, .i2l, 1), (74, .lastore, 1), (75, .goto 10, 3), (78, .aload_n 0, 1), (79, .getfield 24, 3), (82, .iload_n 1, 1), (83, .lload_n 2, 1), (84, .lastore, 1), (85, .return_, 1)]
theorem tbX3_put_0_ok : ∀ q ∈ tbX3_put_0, decode cX3_put q.1 = .ok (q.2.1, q.2.2) := by decide +kernel
theorem wCX3_hasElement : zCW mX3_hasElement 1 := ⟨zin (i := 2) (by decide +kernel) rfl, zin (i := 286) (by decide +kernel) rfl, by decide +kernel, by decide +kernel, by decide +kernel⟩
theorem sC3_41 : zCV RX3 41 mX3_hasElement 1 := ⟨zin (i := 292) (by decide +kernel) rfl, zin (i := 284) (by decide +kernel) rfl, zin (i := 285) (by decide +kernel) rfl, wCX3_hasElement⟩
def fX3_put_b85 (n : Nat) (μ : ZMem) : Option (ZMem) := some μ
theorem tX3_put_b85 {l : Launch} {fr : Bool} {n : Nat} {z : ZMem} (μ : ZMem) (h : fX3_put_b85 n μ = some z) : V (zkV l mX3_put (rmd 3) fr n z) fr 85 [] [] n μ := by
  unfold fX3_put_b85 at h
  cases h
  exact V_vret (zdk tbX3_put_0_ok 39 rfl) rfl rfl
def fX3_put (n : Nat) (v0 : Nat) (v1 : Int32) (v2 : Int64) (μ : ZMem) : Option (ZMem) := chk (isC n 3 v0) (bd2 (fX3_hasElement n v0 v1 μ) (fun μ2 r3 => (if r3 = 0 then some μ2 else (if (zI μ2 v0 1) = (0 : Int32) then bd1 (zRc n 101 μ2 v0 4) (fun r6 => chk (inb v1 r6) (lt (zpL μ2 r6 v1.toNatClampNeg (((v2.toInt32).toInt8.toInt32).toInt64)) (fun μ9 => (fX3_put_b85 n  μ9)))) else (if (zI μ2 v0 1) = (1 : Int32) then bd1 (zRc n 101 μ2 v0 4) (fun r12 => chk (inb v1 r12) (lt (zpL μ2 r12 v1.toNatClampNeg (((v2.toInt32).toInt16.toInt32).toInt64)) (fun μ15 => (fX3_put_b85 n  μ15)))) else (if (zI μ2 v0 1) = (2 : Int32) then bd1 (zRc n 101 μ2 v0 4) (fun r18 => chk (inb v1 r18) (lt (zpL μ2 r18 v1.toNatClampNeg ((v2.toInt32).toInt64)) (fun μ21 => (fX3_put_b85 n  μ21)))) else bd1 (zRc n 101 μ2 v0 4) (fun r23 => chk (inb v1 r23) (lt (zpL μ2 r23 v1.toNatClampNeg v2) (fun μ26 => (fX3_put_b85 n  μ26))))))))))
theorem tX3_put {l : Launch} {fr : Bool} {n : Nat} {v0 : Nat} {v1 : Int32} {v2 : Int64} {μ : ZMem} {z : ZMem} (h : fX3_put n v0 v1 v2 μ = some z) : ZFn l mX3_put (rmd 3) [.ref v0, .int v1, .long v2] fr n μ (fr, n, z, none) := by
  unfold fX3_put at h
  obtain ⟨c_v0, h⟩ := chk_some h
  refine ZFn.of (ls := [(0, .ref v0), (1, .int v1), (2, .long v2)]) (by decide) (fun ξ => Nat.le_of_ble_eq_true rfl) (fun ξ => rfl) ?_
  refine V_aload_n 0 (zdk tbX3_put_0_ok 0 rfl) rfl ?_
  refine V_iload_n 1 (zdk tbX3_put_0_ok 1 rfl) rfl ?_
  obtain ⟨μ2, r3, q1, h⟩ := bd2_some h
  refine V_callV (R1 := (rmd 2)) (As := [.int v1]) (r := (some (.int r3))) (zdk tbX3_put_0_ok 2 rfl) sC3_41 (tX3_hasElement q1) (c_v0) rfl rfl rfl ⟨Nat.le_of_ble_eq_true rfl, Nat.le_of_ble_eq_true rfl⟩ (Nat.le_of_ble_eq_true rfl) ⟨rfl, rfl⟩ id ?_
  refine V_if_ne (tgt := 9) (zdk tbX3_put_0_ok 3 rfl) (by decide) (fun c4 => ?_) (fun c4 => ?_)
  · replace h := ite_f h c4
    refine V_aload_n 0 (zdk tbX3_put_0_ok 5 rfl) rfl ?_
    refine V_getI (zdk tbX3_put_0_ok 6 rfl) c_v0 fF3_15 rfl ?_
    by_cases c5 : (zI μ2 v0 1) = (0 : Int32)
    · replace h := ite_t h c5
      refine V_tsw (off := 27) (tgt := 40) 0 c5 (zdk tbX3_put_0_ok 7 rfl) (by decide) rfl (by decide) ?_
      refine V_aload_n 0 (zdk tbX3_put_0_ok 8 rfl) rfl ?_
      obtain ⟨r6, q7, h⟩ := bd1_some h
      obtain ⟨q7, c_r6⟩ := zRc_some q7
      refine V_getR (zdk tbX3_put_0_ok 9 rfl) c_v0 fF3_24 rfl q7 ?_
      refine V_iload_n 1 (zdk tbX3_put_0_ok 10 rfl) rfl ?_
      refine V_lload_n 2 (zdk tbX3_put_0_ok 11 rfl) rfl ?_
      refine V_l2i (zdk tbX3_put_0_ok 12 rfl) rfl ?_
      refine V_i2b (zdk tbX3_put_0_ok 13 rfl) rfl ?_
      refine V_i2l (zdk tbX3_put_0_ok 14 rfl) rfl ?_
      obtain ⟨b8, h⟩ := chk_some h
      obtain ⟨μ9, e10, h⟩ := lt_some h
      refine V_last (zdk tbX3_put_0_ok 15 rfl) c_r6 b8 e10 ?_
      refine V_goto (tgt := 85) (zdk tbX3_put_0_ok 16 rfl) (by decide) ?_
      refine V_sub (ls' := []) [] rfl ?_
      exact tX3_put_b85  μ9  h
    · replace h := ite_f h c5
      by_cases c11 : (zI μ2 v0 1) = (1 : Int32)
      · replace h := ite_t h c11
        refine V_tsw (off := 40) (tgt := 53) 1 c11 (zdk tbX3_put_0_ok 7 rfl) (by decide) rfl (by decide) ?_
        refine V_aload_n 0 (zdk tbX3_put_0_ok 17 rfl) rfl ?_
        obtain ⟨r12, q13, h⟩ := bd1_some h
        obtain ⟨q13, c_r12⟩ := zRc_some q13
        refine V_getR (zdk tbX3_put_0_ok 18 rfl) c_v0 fF3_24 rfl q13 ?_
        refine V_iload_n 1 (zdk tbX3_put_0_ok 19 rfl) rfl ?_
        refine V_lload_n 2 (zdk tbX3_put_0_ok 20 rfl) rfl ?_
        refine V_l2i (zdk tbX3_put_0_ok 21 rfl) rfl ?_
        refine V_i2s (zdk tbX3_put_0_ok 22 rfl) rfl ?_
        refine V_i2l (zdk tbX3_put_0_ok 23 rfl) rfl ?_
        obtain ⟨b14, h⟩ := chk_some h
        obtain ⟨μ15, e16, h⟩ := lt_some h
        refine V_last (zdk tbX3_put_0_ok 24 rfl) c_r12 b14 e16 ?_
        refine V_goto (tgt := 85) (zdk tbX3_put_0_ok 25 rfl) (by decide) ?_
        refine V_sub (ls' := []) [] rfl ?_
        exact tX3_put_b85  μ15  h
      · replace h := ite_f h c11
        by_cases c17 : (zI μ2 v0 1) = (2 : Int32)
        · replace h := ite_t h c17
          refine V_tsw (off := 53) (tgt := 66) 2 c17 (zdk tbX3_put_0_ok 7 rfl) (by decide) rfl (by decide) ?_
          refine V_aload_n 0 (zdk tbX3_put_0_ok 26 rfl) rfl ?_
          obtain ⟨r18, q19, h⟩ := bd1_some h
          obtain ⟨q19, c_r18⟩ := zRc_some q19
          refine V_getR (zdk tbX3_put_0_ok 27 rfl) c_v0 fF3_24 rfl q19 ?_
          refine V_iload_n 1 (zdk tbX3_put_0_ok 28 rfl) rfl ?_
          refine V_lload_n 2 (zdk tbX3_put_0_ok 29 rfl) rfl ?_
          refine V_l2i (zdk tbX3_put_0_ok 30 rfl) rfl ?_
          refine V_i2l (zdk tbX3_put_0_ok 31 rfl) rfl ?_
          obtain ⟨b20, h⟩ := chk_some h
          obtain ⟨μ21, e22, h⟩ := lt_some h
          refine V_last (zdk tbX3_put_0_ok 32 rfl) c_r18 b20 e22 ?_
          refine V_goto (tgt := 85) (zdk tbX3_put_0_ok 33 rfl) (by decide) ?_
          refine V_sub (ls' := []) [] rfl ?_
          exact tX3_put_b85  μ21  h
        · replace h := ite_f h c17
          refine V_tsw0 (tgt := 78) [0, 1, 2] (List.forall_mem_cons.mpr ⟨c5, List.forall_mem_cons.mpr ⟨c11, List.forall_mem_cons.mpr ⟨c17, fun _ h => absurd h List.not_mem_nil⟩⟩⟩) (zdk tbX3_put_0_ok 7 rfl) (by decide) (by decide) (by decide) ?_
          refine V_aload_n 0 (zdk tbX3_put_0_ok 34 rfl) rfl ?_
          obtain ⟨r23, q24, h⟩ := bd1_some h
          obtain ⟨q24, c_r23⟩ := zRc_some q24
          refine V_getR (zdk tbX3_put_0_ok 35 rfl) c_v0 fF3_24 rfl q24 ?_
          refine V_iload_n 1 (zdk tbX3_put_0_ok 36 rfl) rfl ?_
          refine V_lload_n 2 (zdk tbX3_put_0_ok 37 rfl) rfl ?_
          obtain ⟨b25, h⟩ := chk_some h
          obtain ⟨μ26, e27, h⟩ := lt_some h
          refine V_last (zdk tbX3_put_0_ok 38 rfl) c_r23 b25 e27 ?_
          refine V_sub (ls' := []) [] rfl ?_
          exact tX3_put_b85  μ26  h
  · replace h := ite_t h c4
    cases h
    exact V_vret (zdk tbX3_put_0_ok 4 rfl) rfl rfl

-- WhoComplainsCarries$Shelf.takeFrom
def tbX3_takeFrom_0 : List (Nat × Instr × Nat) := [(0, .aload_n 1, 1), (1, .iload_n 2, 1), (2, .iload 4, 2), (4, .invokevirtual 45, 3), (7, .ifCond .eq 28, 3), (10, .aload_n 0, 1), (11, .iload_n 3, 1), (12, .iload 4, 2), (14, .invokevirtual 45, 3), (17, .ifCond .eq 18, 3), (20, .aload_n 1, 1), (21, .getfield 24, 3), (24, .iload_n 2, 1), (25, .aload_n 0, 1), (26, .getfield 24, 3), (29, .iload_n 3, 1), (30, .iload 4, 2), (32, .invokestatic 49, 3), (35, .return_, 1)]
theorem tbX3_takeFrom_0_ok : ∀ q ∈ tbX3_takeFrom_0, decode cX3_takeFrom q.1 = .ok (q.2.1, q.2.2) := by decide +kernel
theorem wCX3_hasStretch : zCW mX3_hasStretch 2 := ⟨zin (i := 2) (by decide +kernel) rfl, zin (i := 304) (by decide +kernel) rfl, by decide +kernel, by decide +kernel, by decide +kernel⟩
theorem sC3_45 : zCV RX3 45 mX3_hasStretch 2 := ⟨zin (i := 309) (by decide +kernel) rfl, zin (i := 302) (by decide +kernel) rfl, zin (i := 303) (by decide +kernel) rfl, wCX3_hasStretch⟩
def fX3_takeFrom_b35 (n : Nat) (μ : ZMem) : Option (ZMem) := some μ
theorem tX3_takeFrom_b35 {l : Launch} {n : Nat} {z : ZMem} (μ : ZMem) (h : fX3_takeFrom_b35 n μ = some z) : V (zkV l mX3_takeFrom (rmd 2) false n z) false 35 [] [] n μ := by
  unfold fX3_takeFrom_b35 at h
  cases h
  exact V_vret (zdk tbX3_takeFrom_0_ok 18 rfl) rfl rfl
def fX3_takeFrom (n : Nat) (v0 : Nat) (v1 : Nat) (v2 : Int32) (v3 : Int32) (v4 : Int32) (μ : ZMem) : Option (ZMem) := chk (isC n 3 v0) (chk (isC n 3 v1) (bd2 (fX3_hasStretch n v1 v2 v4 μ) (fun μ2 r3 => (if r3 = 0 then (fX3_takeFrom_b35 n  μ2) else bd2 (fX3_hasStretch n v0 v3 v4 μ2) (fun μ6 r7 => (if r7 = 0 then (fX3_takeFrom_b35 n  μ6) else bd1 (zRc n 101 μ6 v1 4) (fun r9 => bd1 (zRc n 101 μ6 v0 4) (fun r11 => chk (cpok r9 r11 v2 v3 v4) (lt (zcp μ6 r9 r11 v2.toNatClampNeg v3.toNatClampNeg v4.toNatClampNeg) (fun μ13 => (fX3_takeFrom_b35 n  μ13)))))))))))
theorem tX3_takeFrom {l : Launch} {n : Nat} {v0 : Nat} {v1 : Nat} {v2 : Int32} {v3 : Int32} {v4 : Int32} {μ : ZMem} {z : ZMem} (h : fX3_takeFrom n v0 v1 v2 v3 v4 μ = some z) : ZFn l mX3_takeFrom (rmd 2) [.ref v0, .ref v1, .int v2, .int v3, .int v4] false n μ (false, n, z, none) := by
  unfold fX3_takeFrom at h
  obtain ⟨c_v0, h⟩ := chk_some h
  obtain ⟨c_v1, h⟩ := chk_some h
  refine ZFn.of (ls := [(0, .ref v0), (1, .ref v1), (2, .int v2), (3, .int v3), (4, .int v4)]) (by decide) (fun ξ => Nat.le_of_ble_eq_true rfl) (fun ξ => rfl) ?_
  refine V_aload_n 1 (zdk tbX3_takeFrom_0_ok 0 rfl) rfl ?_
  refine V_iload_n 2 (zdk tbX3_takeFrom_0_ok 1 rfl) rfl ?_
  refine V_iload 4 (zdk tbX3_takeFrom_0_ok 2 rfl) rfl ?_
  obtain ⟨μ2, r3, q1, h⟩ := bd2_some h
  refine V_callV (R1 := (rmd 1)) (As := [.int v2, .int v4]) (r := (some (.int r3))) (zdk tbX3_takeFrom_0_ok 3 rfl) sC3_45 (tX3_hasStretch q1) (c_v1) rfl rfl rfl ⟨Nat.le_of_ble_eq_true rfl, Nat.le_of_ble_eq_true rfl⟩ (Nat.le_of_ble_eq_true rfl) ⟨rfl, rfl⟩ id ?_
  refine V_if_eq (tgt := 35) (zdk tbX3_takeFrom_0_ok 4 rfl) (by decide) (fun c4 => ?_) (fun c4 => ?_)
  · replace h := ite_t h c4
    refine V_sub (ls' := []) [] rfl ?_
    exact tX3_takeFrom_b35  μ2  h
  · replace h := ite_f h c4
    refine V_aload_n 0 (zdk tbX3_takeFrom_0_ok 5 rfl) rfl ?_
    refine V_iload_n 3 (zdk tbX3_takeFrom_0_ok 6 rfl) rfl ?_
    refine V_iload 4 (zdk tbX3_takeFrom_0_ok 7 rfl) rfl ?_
    obtain ⟨μ6, r7, q5, h⟩ := bd2_some h
    refine V_callV (R1 := (rmd 1)) (As := [.int v3, .int v4]) (r := (some (.int r7))) (zdk tbX3_takeFrom_0_ok 8 rfl) sC3_45 (tX3_hasStretch q5) (c_v0) rfl rfl rfl ⟨Nat.le_of_ble_eq_true rfl, Nat.le_of_ble_eq_true rfl⟩ (Nat.le_of_ble_eq_true rfl) ⟨rfl, rfl⟩ id ?_
    refine V_if_eq (tgt := 35) (zdk tbX3_takeFrom_0_ok 9 rfl) (by decide) (fun c8 => ?_) (fun c8 => ?_)
    · replace h := ite_t h c8
      refine V_sub (ls' := []) [] rfl ?_
      exact tX3_takeFrom_b35  μ6  h
    · replace h := ite_f h c8
      refine V_aload_n 1 (zdk tbX3_takeFrom_0_ok 10 rfl) rfl ?_
      obtain ⟨r9, q10, h⟩ := bd1_some h
      obtain ⟨q10, c_r9⟩ := zRc_some q10
      refine V_getR (zdk tbX3_takeFrom_0_ok 11 rfl) c_v1 fF3_24 rfl q10 ?_
      refine V_iload_n 2 (zdk tbX3_takeFrom_0_ok 12 rfl) rfl ?_
      refine V_aload_n 0 (zdk tbX3_takeFrom_0_ok 13 rfl) rfl ?_
      obtain ⟨r11, q12, h⟩ := bd1_some h
      obtain ⟨q12, c_r11⟩ := zRc_some q12
      refine V_getR (zdk tbX3_takeFrom_0_ok 14 rfl) c_v0 fF3_24 rfl q12 ?_
      refine V_iload_n 3 (zdk tbX3_takeFrom_0_ok 15 rfl) rfl ?_
      refine V_iload 4 (zdk tbX3_takeFrom_0_ok 16 rfl) rfl ?_
      obtain ⟨b15, h⟩ := chk_some h
      obtain ⟨μ13, e14, h⟩ := lt_some h
      obtain ⟨p1, p2, p3, p4, p5⟩ := cpok_of b15
      refine V_copyl wJ_cp (zdk tbX3_takeFrom_0_ok 17 rfl) c_r9 c_r11 p1 p2 p3 p4 p5 rfl ⟨Nat.le_of_ble_eq_true rfl, Nat.le_of_ble_eq_true rfl⟩ e14 ?_
      refine V_sub (ls' := []) [] rfl ?_
      exact tX3_takeFrom_b35  μ13  h

-- WhoComplainsCarries$Shelf.longAt
def tbX3_longAt_0 : List (Nat × Instr × Nat) := [(0, .aload_n 0, 1), (1, .iload_n 1, 1), (2, .invokevirtual 41, 3), (5, .ifCond .eq 12, 3), (8, .aload_n 0, 1), (9, .getfield 24, 3), (12, .iload_n 1, 1), (13, .laload, 1), (14, .goto 4, 3), (17, .lconst 0, 1), (18, .lreturn, 1)]
theorem tbX3_longAt_0_ok : ∀ q ∈ tbX3_longAt_0, decode cX3_longAt q.1 = .ok (q.2.1, q.2.2) := by decide +kernel
def fX3_longAt_b18 (n : Nat) (s0 : Int64) (μ : ZMem) : Option (ZMem × Int64) := some (μ, s0)
theorem tX3_longAt_b18 {l : Launch} {fr : Bool} {n : Nat} {z : ZMem × Int64} (s0 : Int64) (μ : ZMem) (h : fX3_longAt_b18 n s0 μ = some z) : V (zkJ l mX3_longAt (rmd 3) fr n z) fr 18 [] [.long s0] n μ := by
  unfold fX3_longAt_b18 at h
  cases h
  exact V_lret (zdk tbX3_longAt_0_ok 10 rfl) rfl rfl
def fX3_longAt (n : Nat) (v0 : Nat) (v1 : Int32) (μ : ZMem) : Option (ZMem × Int64) := chk (isC n 3 v0) (bd2 (fX3_hasElement n v0 v1 μ) (fun μ2 r3 => (if r3 = 0 then (fX3_longAt_b18 n (0 : Int64) μ2) else bd1 (zRc n 101 μ2 v0 4) (fun r5 => chk (inb v1 r5) ((fX3_longAt_b18 n (zL μ2 r5 v1.toNatClampNeg) μ2))))))
theorem tX3_longAt {l : Launch} {fr : Bool} {n : Nat} {v0 : Nat} {v1 : Int32} {μ : ZMem} {z : ZMem × Int64} (h : fX3_longAt n v0 v1 μ = some z) : ZFn l mX3_longAt (rmd 3) [.ref v0, .int v1] fr n μ (fr, n, z.1, some (.long z.2)) := by
  unfold fX3_longAt at h
  obtain ⟨c_v0, h⟩ := chk_some h
  refine ZFn.of (ls := [(0, .ref v0), (1, .int v1)]) (by decide) (fun ξ => Nat.le_of_ble_eq_true rfl) (fun ξ => rfl) ?_
  refine V_aload_n 0 (zdk tbX3_longAt_0_ok 0 rfl) rfl ?_
  refine V_iload_n 1 (zdk tbX3_longAt_0_ok 1 rfl) rfl ?_
  obtain ⟨μ2, r3, q1, h⟩ := bd2_some h
  refine V_callV (R1 := (rmd 2)) (As := [.int v1]) (r := (some (.int r3))) (zdk tbX3_longAt_0_ok 2 rfl) sC3_41 (tX3_hasElement q1) (c_v0) rfl rfl rfl ⟨Nat.le_of_ble_eq_true rfl, Nat.le_of_ble_eq_true rfl⟩ (Nat.le_of_ble_eq_true rfl) ⟨rfl, rfl⟩ id ?_
  refine V_if_eq (tgt := 17) (zdk tbX3_longAt_0_ok 3 rfl) (by decide) (fun c4 => ?_) (fun c4 => ?_)
  · replace h := ite_t h c4
    refine V_lconst (v := 0) (zdk tbX3_longAt_0_ok 9 rfl) rfl ?_
    refine V_sub (ls' := []) [] rfl ?_
    exact tX3_longAt_b18 (0 : Int64) μ2  h
  · replace h := ite_f h c4
    refine V_aload_n 0 (zdk tbX3_longAt_0_ok 4 rfl) rfl ?_
    obtain ⟨r5, q6, h⟩ := bd1_some h
    obtain ⟨q6, c_r5⟩ := zRc_some q6
    refine V_getR (zdk tbX3_longAt_0_ok 5 rfl) c_v0 fF3_24 rfl q6 ?_
    refine V_iload_n 1 (zdk tbX3_longAt_0_ok 6 rfl) rfl ?_
    obtain ⟨b7, h⟩ := chk_some h
    refine V_lald (zdk tbX3_longAt_0_ok 7 rfl) c_r5 b7 ?_
    refine V_goto (tgt := 18) (zdk tbX3_longAt_0_ok 8 rfl) (by decide) ?_
    refine V_sub (ls' := []) [] rfl ?_
    exact tX3_longAt_b18 (zL μ2 r5 v1.toNatClampNeg) μ2  h

-- WhoComplainsCarries$Shelf.intAt
def tbX3_intAt_0 : List (Nat × Instr × Nat) := [(0, .aload_n 0, 1), (1, .iload_n 1, 1), (2, .invokevirtual 55, 3), (5, .l2i, 1), (6, .ireturn, 1)]
theorem tbX3_intAt_0_ok : ∀ q ∈ tbX3_intAt_0, decode cX3_intAt q.1 = .ok (q.2.1, q.2.2) := by decide +kernel
theorem wCX3_longAt : zCW mX3_longAt 1 := ⟨zin (i := 2) (by decide +kernel) rfl, zin (i := 320) (by decide +kernel) rfl, by decide +kernel, by decide +kernel, by decide +kernel⟩
theorem sC3_55 : zCV RX3 55 mX3_longAt 1 := ⟨zin (i := 423) (by decide +kernel) rfl, zin (i := 318) (by decide +kernel) rfl, zin (i := 319) (by decide +kernel) rfl, wCX3_longAt⟩
def fX3_intAt (n : Nat) (v0 : Nat) (v1 : Int32) (μ : ZMem) : Option (ZMem × Int32) := chk (isC n 3 v0) (bd2 (fX3_longAt n v0 v1 μ) (fun μ2 r3 => some (μ2, (r3.toInt32))))
theorem tX3_intAt {l : Launch} {fr : Bool} {n : Nat} {v0 : Nat} {v1 : Int32} {μ : ZMem} {z : ZMem × Int32} (h : fX3_intAt n v0 v1 μ = some z) : ZFn l mX3_intAt (rmd 4) [.ref v0, .int v1] fr n μ (fr, n, z.1, some (.int z.2)) := by
  unfold fX3_intAt at h
  obtain ⟨c_v0, h⟩ := chk_some h
  refine ZFn.of (ls := [(0, .ref v0), (1, .int v1)]) (by decide) (fun ξ => Nat.le_of_ble_eq_true rfl) (fun ξ => rfl) ?_
  refine V_aload_n 0 (zdk tbX3_intAt_0_ok 0 rfl) rfl ?_
  refine V_iload_n 1 (zdk tbX3_intAt_0_ok 1 rfl) rfl ?_
  obtain ⟨μ2, r3, q1, h⟩ := bd2_some h
  refine V_callV (R1 := (rmd 3)) (As := [.int v1]) (r := (some (.long r3))) (zdk tbX3_intAt_0_ok 2 rfl) sC3_55 (tX3_longAt q1) (c_v0) rfl rfl rfl ⟨Nat.le_of_ble_eq_true rfl, Nat.le_of_ble_eq_true rfl⟩ (Nat.le_of_ble_eq_true rfl) ⟨rfl, rfl⟩ id ?_
  refine V_l2i (zdk tbX3_intAt_0_ok 3 rfl) rfl ?_
  cases h
  exact V_iret (zdk tbX3_intAt_0_ok 4 rfl) rfl rfl

