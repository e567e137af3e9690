def mX1_init : ZM := (yX1_init, cX1_init, 1, none)
def mX4_init : ZM := (yX4_init, cX4_init, 2, none)
def mX4_load : ZM := (yX4_load, cX4_load, 3, none)
def mX4_isBorne : ZM := (yX4_isBorne, cX4_isBorne, 1, some .boolean)
def mX4_bearOrRest : ZM := (yX4_bearOrRest, cX4_bearOrRest, 3, none)
def mX4_bearLeg : ZM := (yX4_bearLeg, cX4_bearLeg, 5, some .boolean)
def mX4_addPerson : ZM := (yX4_addPerson, cX4_addPerson, 5, none)
def mX4_counts : ZM := (yX4_counts, cX4_counts, 2, some .boolean)
def mX4_comeToSigher : ZM := (yX4_comeToSigher, cX4_comeToSigher, 4, none)
def mX4_step : ZM := (yX4_step, cX4_step, 2, none)
def mX4_takeSteps : ZM := (yX4_takeSteps, cX4_takeSteps, 3, none)
def mX4_stepsToWay : ZM := (yX4_stepsToWay, cX4_stepsToWay, 4, some .int)
def mX4_growHeavier : ZM := (yX4_growHeavier, cX4_growHeavier, 1, none)
def mX4_hearThatItIsLight : ZM := (yX4_hearThatItIsLight, cX4_hearThatItIsLight, 2, none)
def mX4_hear : ZM := (yX4_hear, cX4_hear, 3, none)
def mX4_hearTalk : ZM := (yX4_hearTalk, cX4_hearTalk, 5, none)
def mX4_draw : ZM := (yX4_draw, cX4_draw, 2, some .int)
def mX4_passDay : ZM := (yX4_passDay, cX4_passDay, 3, none)
def mX4_tiredTogether : ZM := (yX4_tiredTogether, cX4_tiredTogether, 3, some .int)
-- WhoComplainsCarries$Person.<init>
def tbX1_init_0 : List (Nat × Instr × Nat) := [(0, .aload_n 0, 1), (1, .invokespecial 3, 3), (4, .aload_n 0, 1), (5, .iconst 0, 1), (6, .iconst 0, 1), (7, .iconst 1, 1), (8, .iconst 0, 1), (9, .invokevirtual 9, 3), (12, .return_, 1)]
theorem tbX1_init_0_ok : ∀ q ∈ tbX1_init_0, decode cX1_init q.1 = .ok (q.2.1, q.2.2) := by decide +kernel
theorem wO1_3 : Cond.methodLink RX1 3 Lib.objectInit ∈ zT := zin (i := 63) (by decide +kernel) rfl
theorem wCX1_become : zCW mX1_become 4 := ⟨zin (i := 4) (by decide +kernel) rfl, zin (i := 67) (by decide +kernel) rfl, by decide +kernel, by decide +kernel, by decide +kernel⟩
theorem sC1_9 : zCV RX1 9 mX1_become 4 := ⟨zin (i := 64) (by decide +kernel) rfl, zin (i := 65) (by decide +kernel) rfl, zin (i := 66) (by decide +kernel) rfl, wCX1_become⟩
def fX1_init (n : Nat) (v0 : Nat) (μ : ZMem) : Option (ZMem) := chk (isC n 1 v0) (bd1 (fX1_become n v0 (0 : Int32) (0 : Int32) (1 : Int32) (0 : Int32) μ) (fun μ2 => some μ2))
theorem tX1_init {l : Launch} {fr : Bool} {n : Nat} {v0 : Nat} {μ : ZMem} {z : ZMem} (h : fX1_init n v0 μ = some z) : ZFn l mX1_init (rmd 2) [.ref v0] fr n μ (fr, n, z, none) := by
  unfold fX1_init at h
  obtain ⟨c_v0, h⟩ := chk_some h
  refine ZFn.of (ls := [(0, .ref v0)]) (by decide) (fun ξ => Nat.le_of_ble_eq_true rfl) (fun ξ => rfl) ?_
  refine V_aload_n 0 (zdk tbX1_init_0_ok 0 rfl) rfl ?_
  refine V_obj (zdk tbX1_init_0_ok 1 rfl) wO1_3 wOi wOc ⟨Nat.le_of_ble_eq_true rfl, Nat.le_of_ble_eq_true rfl⟩ (Nat.le_of_ble_eq_true rfl) ?_
  refine V_aload_n 0 (zdk tbX1_init_0_ok 2 rfl) rfl ?_
  refine V_iconst (v := 0) (zdk tbX1_init_0_ok 3 rfl) rfl ?_
  refine V_iconst (v := 0) (zdk tbX1_init_0_ok 4 rfl) rfl ?_
  refine V_iconst (v := 1) (zdk tbX1_init_0_ok 5 rfl) rfl ?_
  refine V_iconst (v := 0) (zdk tbX1_init_0_ok 6 rfl) rfl ?_
  obtain ⟨μ2, q1, h⟩ := bd1_some h
  refine V_callV (R1 := (rmd 1)) (As := [.int (0 : Int32), .int (0 : Int32), .int (1 : Int32), .int (0 : Int32)]) (r := none) (zdk tbX1_init_0_ok 7 rfl) sC1_9 (tX1_become q1) (c_v0) rfl rfl rfl ⟨Nat.le_of_ble_eq_true rfl, Nat.le_of_ble_eq_true rfl⟩ (Nat.le_of_ble_eq_true rfl) ⟨rfl, rfl⟩ id ?_
  cases h
  exact V_vret (zdk tbX1_init_0_ok 8 rfl) rfl rfl

-- WhoComplainsCarries$Vow.<init>
def tbX4_init_0 : List (Nat × Instr × Nat) := [(0, .aload_n 0, 1), (1, .invokespecial 3, 3), (4, .aload_n 0, 1), (5, .bipush 7, 2), (7, .anewarray 9, 3), (10, .putfield 11, 3), (13, .iconst 0, 1), (14, .istore_n 1, 1), (15, .iload_n 1, 1), (16, .bipush 7, 2), (18, .if_icmp .ge 22, 3), (21, .aload_n 0, 1), (22, .getfield 11, 3), (25, .iload_n 1, 1), (26, .new 9, 3), (29, .dup, 1), (30, .invokespecial 17, 3), (33, .aastore, 1), (34, .iinc 1 1, 3), (37, .goto (-22), 3), (40, .aload_n 0, 1), (41, .iconst 0, 1), (42, .putfield 18, 3), (45, .aload_n 0, 1), (46, .bipush 20, 2), (48, .putfield 22, 3), (51, .aload_n 0, 1), (52, .bipush 100, 2), (54, .putfield 25, 3), (57, .aload_n 0, 1), (58, .iconst 0, 1), (59, .putfield 28, 3), (62, .aload_n 0, 1), (63, .iconst (-1), 1), (64, .putfield 31, 3), (67, .aload_n 0, 1), (68, .iconst 0, 1), (69, .putfield 34, 3), (72, .aload_n 0, 1), (73, .bipush 31, 2), (75, .putfield 37, 3), (78, .aload_n 0, 1), (79, .iconst 1, 1), (80, .putfield 40, 3), (83, .return_, 1)]
theorem tbX4_init_0_ok : ∀ q ∈ tbX4_init_0, decode cX4_init q.1 = .ok (q.2.1, q.2.2) := by decide +kernel
theorem fF4_18 : zF RX4 18 4 1 := ⟨_, rfl, by decide, zin (i := 95) (by decide +kernel) rfl⟩
theorem fF4_22 : zF RX4 22 4 2 := ⟨_, rfl, by decide, zin (i := 99) (by decide +kernel) rfl⟩
theorem fF4_25 : zF RX4 25 4 3 := ⟨_, rfl, by decide, zin (i := 102) (by decide +kernel) rfl⟩
theorem fF4_28 : zF RX4 28 4 4 := ⟨_, rfl, by decide, zin (i := 106) (by decide +kernel) rfl⟩
theorem fF4_31 : zF RX4 31 4 5 := ⟨_, rfl, by decide, zin (i := 110) (by decide +kernel) rfl⟩
theorem fF4_34 : zF RX4 34 4 6 := ⟨_, rfl, by decide, zin (i := 113) (by decide +kernel) rfl⟩
theorem fF4_37 : zF RX4 37 4 7 := ⟨_, rfl, by decide, zin (i := 115) (by decide +kernel) rfl⟩
theorem fF4_40 : zF RX4 40 4 8 := ⟨_, rfl, by decide, zin (i := 118) (by decide +kernel) rfl⟩
theorem fF4_11 : zF RX4 11 4 0 := ⟨_, rfl, by decide, zin (i := 93) (by decide +kernel) rfl⟩
theorem wN4_9 : Cond.classLink RX4 9 RX1 ∈ zT := zin (i := 57) (by decide +kernel) rfl
theorem wI1 : Cond.instantiable RX1 5 ∈ zT := zin (i := 59) (by decide +kernel) rfl
theorem wZ1 : Cond.initialized RX1 ∈ zT := zin (i := 4) (by decide +kernel) rfl
theorem wCX1_init : zCW mX1_init 0 := ⟨zin (i := 4) (by decide +kernel) rfl, zin (i := 62) (by decide +kernel) rfl, by decide +kernel, by decide +kernel, by decide +kernel⟩
theorem sC4_17 : zCI RX4 17 mX1_init 0 := ⟨zin (i := 60) (by decide +kernel) rfl, zin (i := 61) (by decide +kernel) rfl, rfl, rfl, wCX1_init⟩
theorem wO4_3 : Cond.methodLink RX4 3 Lib.objectInit ∈ zT := zin (i := 56) (by decide +kernel) rfl
def fX4_init_b15 (n0 : Nat) : Nat → Nat → Nat → Int32 → ZMem → Option (Nat × ZMem)
  | 0, _, _, _, _ => none
  | k + 1, n, v0, v1, μ => (if (7 : Int32) ≤ v1 then lt (zpI μ v0 1 (0 : Int32)) (fun μ2 => lt (zpI μ2 v0 2 (20 : Int32)) (fun μ4 => lt (zpI μ4 v0 3 (100 : Int32)) (fun μ6 => lt (zpI μ6 v0 4 (0 : Int32)) (fun μ8 => lt (zpI μ8 v0 5 (-1 : Int32)) (fun μ10 => lt (zpI μ10 v0 6 (0 : Int32)) (fun μ12 => lt (zpI μ12 v0 7 (31 : Int32)) (fun μ14 => lt (zpI μ14 v0 8 (1 : Int32)) (fun μ16 => some (n, μ16))))))))) else bd1 (zRc n 102 μ v0 0) (fun r18 => chk (nwo n 1) (chk (zrm (n + 1) n0 8 42) (lt (zmk μ n) (fun μ22 => bd1 (fX1_init (n + 1) n μ22) (fun μ26 => chk (inb v1 r18) (lt (zpR μ26 r18 v1.toNatClampNeg n) (fun μ28 => (fX4_init_b15 n0 k (n + 1) v0 (v1 + (1 : Int32)) μ28)))))))))
theorem tX4_init_b15 {l : Launch} {n0 : Nat} {z : Nat × ZMem} : ∀ (k : Nat) (n : Nat) (v0 : Nat) (v1 : Int32) (μ : ZMem) (c_v0 : isC n 4 v0 = true) (hn0 : n0 ≤ n), fX4_init_b15 n0 k n v0 v1 μ = some z → V (zkC l mX4_init (rmc 3 8 42) n0 z) true 15 [(0, .ref v0), (1, .int v1)] [] n μ := by
  intro k
  induction k with
  | zero =>
    intro n v0 v1 μ c_v0 hn0 h
    unfold fX4_init_b15 at h
    cases h
  | succ k ih =>
    intro n v0 v1 μ c_v0 hn0 h
    unfold fX4_init_b15 at h
    refine V_iload_n 1 (zdk tbX4_init_0_ok 8 rfl) rfl ?_
    refine V_bipush (v := 7) (zdk tbX4_init_0_ok 9 rfl) rfl ?_
    refine V_icmp_ge (tgt := 40) (zdk tbX4_init_0_ok 10 rfl) (by decide) (fun c1 => ?_) (fun c1 => ?_)
    · replace h := ite_t h c1
      refine V_aload_n 0 (zdk tbX4_init_0_ok 20 rfl) rfl ?_
      refine V_iconst (v := 0) (zdk tbX4_init_0_ok 21 rfl) rfl ?_
      obtain ⟨μ2, e3, h⟩ := lt_some h
      refine V_putI (zdk tbX4_init_0_ok 22 rfl) c_v0 fF4_18 rfl rfl rfl e3 ?_
      refine V_aload_n 0 (zdk tbX4_init_0_ok 23 rfl) rfl ?_
      refine V_bipush (v := 20) (zdk tbX4_init_0_ok 24 rfl) rfl ?_
      obtain ⟨μ4, e5, h⟩ := lt_some h
      refine V_putI (zdk tbX4_init_0_ok 25 rfl) c_v0 fF4_22 rfl rfl rfl e5 ?_
      refine V_aload_n 0 (zdk tbX4_init_0_ok 26 rfl) rfl ?_
      refine V_bipush (v := 100) (zdk tbX4_init_0_ok 27 rfl) rfl ?_
      obtain ⟨μ6, e7, h⟩ := lt_some h
      refine V_putI (zdk tbX4_init_0_ok 28 rfl) c_v0 fF4_25 rfl rfl rfl e7 ?_
      refine V_aload_n 0 (zdk tbX4_init_0_ok 29 rfl) rfl ?_
      refine V_iconst (v := 0) (zdk tbX4_init_0_ok 30 rfl) rfl ?_
      obtain ⟨μ8, e9, h⟩ := lt_some h
      refine V_putI (zdk tbX4_init_0_ok 31 rfl) c_v0 fF4_28 rfl rfl rfl e9 ?_
      refine V_aload_n 0 (zdk tbX4_init_0_ok 32 rfl) rfl ?_
      refine V_iconst (v := (-1)) (zdk tbX4_init_0_ok 33 rfl) rfl ?_
      obtain ⟨μ10, e11, h⟩ := lt_some h
      refine V_putI (zdk tbX4_init_0_ok 34 rfl) c_v0 fF4_31 rfl rfl rfl e11 ?_
      refine V_aload_n 0 (zdk tbX4_init_0_ok 35 rfl) rfl ?_
      refine V_iconst (v := 0) (zdk tbX4_init_0_ok 36 rfl) rfl ?_
      obtain ⟨μ12, e13, h⟩ := lt_some h
      refine V_putI (zdk tbX4_init_0_ok 37 rfl) c_v0 fF4_34 rfl rfl rfl e13 ?_
      refine V_aload_n 0 (zdk tbX4_init_0_ok 38 rfl) rfl ?_
      refine V_bipush (v := 31) (zdk tbX4_init_0_ok 39 rfl) rfl ?_
      obtain ⟨μ14, e15, h⟩ := lt_some h
      refine V_putI (zdk tbX4_init_0_ok 40 rfl) c_v0 fF4_37 rfl rfl rfl e15 ?_
      refine V_aload_n 0 (zdk tbX4_init_0_ok 41 rfl) rfl ?_
      refine V_iconst (v := 1) (zdk tbX4_init_0_ok 42 rfl) rfl ?_
      obtain ⟨μ16, e17, h⟩ := lt_some h
      refine V_putI (zdk tbX4_init_0_ok 43 rfl) c_v0 fF4_40 rfl rfl rfl e17 ?_
      cases h
      exact V_vret (zdk tbX4_init_0_ok 44 rfl) rfl rfl
    · replace h := ite_f h c1
      refine V_aload_n 0 (zdk tbX4_init_0_ok 11 rfl) rfl ?_
      obtain ⟨r18, q19, h⟩ := bd1_some h
      obtain ⟨q19, c_r18⟩ := zRc_some q19
      refine V_getR (zdk tbX4_init_0_ok 12 rfl) c_v0 fF4_11 rfl q19 ?_
      refine V_iload_n 1 (zdk tbX4_init_0_ok 13 rfl) rfl ?_
      obtain ⟨w20, h⟩ := chk_some h
      obtain ⟨w21, h⟩ := chk_some h
      obtain ⟨μ22, e23, h⟩ := lt_some h
      refine V_new (c := 1) (zdk tbX4_init_0_ok 14 rfl) rfl w20 wN4_9 wI1 wZ1 (by decide) (zrm_room w21 rfl rfl rfl) e23 ?_
      replace c_v0 := isC_mono c_v0 (Nat.le_succ n)
      replace c_r18 := isC_mono c_r18 (Nat.le_succ n)
      replace hn0 := Nat.le_succ_of_le hn0
      have c24 := isC_new w20
      refine V_dup_r (zdk tbX4_init_0_ok 15 rfl) ?_
      obtain ⟨μ26, q25, h⟩ := bd1_some h
      refine V_callI (R1 := (rmd 2)) (As := []) (zdk tbX4_init_0_ok 16 rfl) sC4_17 (tX1_init q25) rfl rfl ⟨Nat.le_of_ble_eq_true rfl, Nat.le_of_ble_eq_true rfl⟩ (Nat.le_of_ble_eq_true rfl) ⟨rfl, rfl⟩ id ?_
      obtain ⟨b27, h⟩ := chk_some h
      obtain ⟨μ28, e29, h⟩ := lt_some h
      refine V_aast (t := 2) (by decide) (zdk tbX4_init_0_ok 17 rfl) c_r18 b27 c24 rfl (fun _ => rfl) e29 ?_
      refine V_inc (dx := 1) (ls' := [(0, .ref v0), (1, .int (v1 + (1 : Int32)))]) 1 [1, 0] (zdk tbX4_init_0_ok 18 rfl) rfl (Nat.le_of_ble_eq_true rfl) rfl rfl ?_
      refine V_goto (tgt := 15) (zdk tbX4_init_0_ok 19 rfl) (by decide) ?_
      exact ih (n + 1) v0 (v1 + (1 : Int32)) μ28 c_v0 hn0 h
def fX4_init (n0 : Nat) (v0 : Nat) (μ : ZMem) : Option (Nat × ZMem) := chk (isC n0 4 v0) (chk (nwa n0 102 7) (chk (zrm (n0 + 1) n0 8 42) (lt (zmk μ n0) (fun μ3 => lt (zpR μ3 v0 0 n0) (fun μ6 => (fX4_init_b15 n0 FU (n0 + 1) v0 (0 : Int32) μ6))))))
theorem tX4_init {l : Launch} {n0 : Nat} {v0 : Nat} {μ : ZMem} {z : Nat × ZMem} (h : fX4_init n0 v0 μ = some z) : ZFn l mX4_init (rmc 3 8 42) [.ref v0] true n0 μ (true, z.1, z.2, none) := by
  unfold fX4_init at h
  have hn0 : n0 ≤ n0 := Nat.le_refl n0
  obtain ⟨c_v0, h⟩ := chk_some h
  refine ZFn.of (ls := [(0, .ref v0)]) (by decide) (fun ξ => Nat.le_of_ble_eq_true rfl) (fun ξ => rfl) ?_
  refine V_aload_n 0 (zdk tbX4_init_0_ok 0 rfl) rfl ?_
  refine V_obj (zdk tbX4_init_0_ok 1 rfl) wO4_3 wOi wOc ⟨Nat.le_of_ble_eq_true rfl, Nat.le_of_ble_eq_true rfl⟩ (Nat.le_of_ble_eq_true rfl) ?_
  refine V_aload_n 0 (zdk tbX4_init_0_ok 2 rfl) rfl ?_
  refine V_bipush (v := 7) (zdk tbX4_init_0_ok 3 rfl) rfl ?_
  obtain ⟨w1, h⟩ := chk_some h
  obtain ⟨w2, h⟩ := chk_some h
  obtain ⟨μ3, e4, h⟩ := lt_some h
  refine V_newr 2 (by decide) (fun _ => rfl) (fun ξ U h => h.2.1.1) (zdk tbX4_init_0_ok 4 rfl) rfl (by decide) w1 wN4_9 (zrm_room w2 rfl rfl rfl) e4 ?_
  replace c_v0 := isC_mono c_v0 (Nat.le_succ n0)
  replace hn0 := Nat.le_succ_of_le hn0
  have c5 := isC_newa w1
  obtain ⟨μ6, e7, h⟩ := lt_some h
  refine V_putR (zdk tbX4_init_0_ok 5 rfl) c_v0 fF4_11 rfl (Or.inr ⟨rfl, fun q hq => by cases hq; rfl⟩) rfl (fun _ => rfl) (fun _ => rfl) e7 ?_
  refine V_iconst (v := 0) (zdk tbX4_init_0_ok 6 rfl) rfl ?_
  refine V_istore_n (ls' := [(0, .ref v0), (1, .int (0 : Int32))]) [1, 0] (zdk tbX4_init_0_ok 7 rfl) (Nat.le_of_ble_eq_true rfl) rfl ?_
  exact tX4_init_b15 FU (n0 + 1) v0 (0 : Int32) μ6 c_v0 hn0 h

-- WhoComplainsCarries$Vow.load
def tbX4_load_0 : List (Nat × Instr × Nat) := [(0, .aload_n 0, 1), (1, .aload_n 1, 1), (2, .getfield 18, 3), (5, .putfield 18, 3), (8, .aload_n 0, 1), (9, .aload_n 1, 1), (10, .getfield 22, 3), (13, .putfield 22, 3), (16, .aload_n 0, 1), (17, .aload_n 1, 1), (18, .getfield 25, 3), (21, .putfield 25, 3), (24, .aload_n 0, 1), (25, .aload_n 1, 1), (26, .getfield 28, 3), (29, .putfield 28, 3), (32, .aload_n 0, 1), (33, .aload_n 1, 1), (34, .getfield 31, 3), (37, .putfield 31, 3), (40, .aload_n 0, 1), (41, .aload_n 1, 1), (42, .getfield 34, 3), (45, .putfield 34, 3), (48, .aload_n 0, 1), (49, .aload_n 1, 1), (50, .getfield 37, 3), (53, .putfield 37, 3), (56, .aload_n 0, 1), (57, .aload_n 1, 1), (58, .getfield 40, 3), (61, .putfield 40, 3), (64, .iconst 0, 1), (65, .istore_n 2, 1), (66, .iload_n 2, 1), (67, .aload_n 0, 1), (68, .getfield 18, 3), (71, .if_icmp .ge 24, 3), (74, .aload_n 0, 1), (75, .getfield 11, 3), (78, .iload_n 2, 1), (79, .aaload, 1), (80, .aload_n 1, 1), (81, .getfield 11, 3), (84, .iload_n 2, 1), (85, .aaload, 1), (86, .invokevirtual 43, 3), (89, .iinc 2 1, 3), (92, .goto (-26), 3), (95, .return_, 1)]
theorem tbX4_load_0_ok : ∀ q ∈ tbX4_load_0, decode cX4_load q.1 = .ok (q.2.1, q.2.2) := by decide +kernel
theorem wCX1_load : zCW mX1_load 1 := ⟨zin (i := 4) (by decide +kernel) rfl, zin (i := 431) (by decide +kernel) rfl, by decide +kernel, by decide +kernel, by decide +kernel⟩
theorem sC4_43 : zCV RX4 43 mX1_load 1 := ⟨zin (i := 428) (by decide +kernel) rfl, zin (i := 429) (by decide +kernel) rfl, zin (i := 430) (by decide +kernel) rfl, wCX1_load⟩
def fX4_load_b66 (n : Nat) : Nat → Nat → Nat → Int32 → ZMem → Option (ZMem)
  | 0, _, _, _, _ => none
  | k + 1, v0, v1, v2, μ => (if (zI μ v0 1) ≤ v2 then some μ else bd1 (zRc n 102 μ v0 0) (fun r2 => chk (inb v2 r2) (bd1 (zRc n 1 μ r2 v2.toNatClampNeg) (fun r5 => bd1 (zRc n 102 μ v1 0) (fun r7 => chk (inb v2 r7) (bd1 (zRc n 1 μ r7 v2.toNatClampNeg) (fun r10 => bd1 (fX1_load n r5 r10 μ) (fun μ13 => (fX4_load_b66 n k v0 v1 (v2 + (1 : Int32)) μ13)))))))))
theorem tX4_load_b66 {l : Launch} {fr : Bool} {n : Nat} {z : ZMem} : ∀ (k : Nat) (v0 : Nat) (v1 : Nat) (v2 : Int32) (μ : ZMem) (c_v0 : isC n 4 v0 = true) (c_v1 : isC n 4 v1 = true), fX4_load_b66 n k v0 v1 v2 μ = some z → V (zkV l mX4_load (rmd 2) fr n z) fr 66 [(0, .ref v0), (1, .ref v1), (2, .int v2)] [] n μ := by
  intro k
  induction k with
  | zero =>
    intro v0 v1 v2 μ c_v0 c_v1 h
    unfold fX4_load_b66 at h
    cases h
  | succ k ih =>
    intro v0 v1 v2 μ c_v0 c_v1 h
    unfold fX4_load_b66 at h
    refine V_iload_n 2 (zdk tbX4_load_0_ok 34 rfl) rfl ?_
    refine V_aload_n 0 (zdk tbX4_load_0_ok 35 rfl) rfl ?_
    refine V_getI (zdk tbX4_load_0_ok 36 rfl) c_v0 fF4_18 rfl ?_
    refine V_icmp_ge (tgt := 95) (zdk tbX4_load_0_ok 37 rfl) (by decide) (fun c1 => ?_) (fun c1 => ?_)
    · replace h := ite_t h c1
      cases h
      exact V_vret (zdk tbX4_load_0_ok 49 rfl) rfl rfl
    · replace h := ite_f h c1
      refine V_aload_n 0 (zdk tbX4_load_0_ok 38 rfl) rfl ?_
      obtain ⟨r2, q3, h⟩ := bd1_some h
      obtain ⟨q3, c_r2⟩ := zRc_some q3
      refine V_getR (zdk tbX4_load_0_ok 39 rfl) c_v0 fF4_11 rfl q3 ?_
      refine V_iload_n 2 (zdk tbX4_load_0_ok 40 rfl) rfl ?_
      obtain ⟨b4, h⟩ := chk_some h
      obtain ⟨r5, q6, h⟩ := bd1_some h
      obtain ⟨q6, c_r5⟩ := zRc_some q6
      refine V_aald2 (zdk tbX4_load_0_ok 41 rfl) c_r2 b4 q6 ?_
      refine V_aload_n 1 (zdk tbX4_load_0_ok 42 rfl) rfl ?_
      obtain ⟨r7, q8, h⟩ := bd1_some h
      obtain ⟨q8, c_r7⟩ := zRc_some q8
      refine V_getR (zdk tbX4_load_0_ok 43 rfl) c_v1 fF4_11 rfl q8 ?_
      refine V_iload_n 2 (zdk tbX4_load_0_ok 44 rfl) rfl ?_
      obtain ⟨b9, h⟩ := chk_some h
      obtain ⟨r10, q11, h⟩ := bd1_some h
      obtain ⟨q11, c_r10⟩ := zRc_some q11
      refine V_aald2 (zdk tbX4_load_0_ok 45 rfl) c_r7 b9 q11 ?_
      obtain ⟨μ13, q12, h⟩ := bd1_some h
      refine V_callV (R1 := (rmd 1)) (As := [.ref r10]) (r := none) (zdk tbX4_load_0_ok 46 rfl) sC4_43 (tX1_load q12) (c_r5) rfl rfl rfl ⟨Nat.le_of_ble_eq_true rfl, Nat.le_of_ble_eq_true rfl⟩ (Nat.le_of_ble_eq_true rfl) ⟨rfl, rfl⟩ id ?_
      refine V_inc (dx := 1) (ls' := [(0, .ref v0), (1, .ref v1), (2, .int (v2 + (1 : Int32)))]) 2 [1, 2, 0] (zdk tbX4_load_0_ok 47 rfl) rfl (Nat.le_of_ble_eq_true rfl) rfl rfl ?_
      refine V_goto (tgt := 66) (zdk tbX4_load_0_ok 48 rfl) (by decide) ?_
      exact ih v0 v1 (v2 + (1 : Int32)) μ13 c_v0 c_v1 h
def fX4_load (n : Nat) (v0 : Nat) (v1 : Nat) (μ : ZMem) : Option (ZMem) := chk (isC n 4 v0) (chk (isC n 4 v1) (lt (zpI μ v0 1 (zI μ v1 1)) (fun μ1 => lt (zpI μ1 v0 2 (zI μ1 v1 2)) (fun μ3 => lt (zpI μ3 v0 3 (zI μ3 v1 3)) (fun μ5 => lt (zpI μ5 v0 4 (zI μ5 v1 4)) (fun μ7 => lt (zpI μ7 v0 5 (zI μ7 v1 5)) (fun μ9 => lt (zpI μ9 v0 6 (zI μ9 v1 6)) (fun μ11 => lt (zpI μ11 v0 7 (zI μ11 v1 7)) (fun μ13 => lt (zpI μ13 v0 8 (zI μ13 v1 8)) (fun μ15 => (fX4_load_b66 n FU v0 v1 (0 : Int32) μ15)))))))))))
theorem tX4_load {l : Launch} {fr : Bool} {n : Nat} {v0 : Nat} {v1 : Nat} {μ : ZMem} {z : ZMem} (h : fX4_load n v0 v1 μ = some z) : ZFn l mX4_load (rmd 2) [.ref v0, .ref v1] fr n μ (fr, n, z, none) := by
  unfold fX4_load at h
  obtain ⟨c_v0, h⟩ := chk_some h
  obtain ⟨c_v1, h⟩ := chk_some h
  refine ZFn.of (ls := [(0, .ref v0), (1, .ref v1)]) (by decide) (fun ξ => Nat.le_of_ble_eq_true rfl) (fun ξ => rfl) ?_
  refine V_aload_n 0 (zdk tbX4_load_0_ok 0 rfl) rfl ?_
  refine V_aload_n 1 (zdk tbX4_load_0_ok 1 rfl) rfl ?_
  refine V_getI (zdk tbX4_load_0_ok 2 rfl) c_v1 fF4_18 rfl ?_
  obtain ⟨μ1, e2, h⟩ := lt_some h
  refine V_putI (zdk tbX4_load_0_ok 3 rfl) c_v0 fF4_18 rfl rfl rfl e2 ?_
  refine V_aload_n 0 (zdk tbX4_load_0_ok 4 rfl) rfl ?_
  refine V_aload_n 1 (zdk tbX4_load_0_ok 5 rfl) rfl ?_
  refine V_getI (zdk tbX4_load_0_ok 6 rfl) c_v1 fF4_22 rfl ?_
  obtain ⟨μ3, e4, h⟩ := lt_some h
  refine V_putI (zdk tbX4_load_0_ok 7 rfl) c_v0 fF4_22 rfl rfl rfl e4 ?_
  refine V_aload_n 0 (zdk tbX4_load_0_ok 8 rfl) rfl ?_
  refine V_aload_n 1 (zdk tbX4_load_0_ok 9 rfl) rfl ?_
  refine V_getI (zdk tbX4_load_0_ok 10 rfl) c_v1 fF4_25 rfl ?_
  obtain ⟨μ5, e6, h⟩ := lt_some h
  refine V_putI (zdk tbX4_load_0_ok 11 rfl) c_v0 fF4_25 rfl rfl rfl e6 ?_
  refine V_aload_n 0 (zdk tbX4_load_0_ok 12 rfl) rfl ?_
  refine V_aload_n 1 (zdk tbX4_load_0_ok 13 rfl) rfl ?_
  refine V_getI (zdk tbX4_load_0_ok 14 rfl) c_v1 fF4_28 rfl ?_
  obtain ⟨μ7, e8, h⟩ := lt_some h
  refine V_putI (zdk tbX4_load_0_ok 15 rfl) c_v0 fF4_28 rfl rfl rfl e8 ?_
  refine V_aload_n 0 (zdk tbX4_load_0_ok 16 rfl) rfl ?_
  refine V_aload_n 1 (zdk tbX4_load_0_ok 17 rfl) rfl ?_
  refine V_getI (zdk tbX4_load_0_ok 18 rfl) c_v1 fF4_31 rfl ?_
  obtain ⟨μ9, e10, h⟩ := lt_some h
  refine V_putI (zdk tbX4_load_0_ok 19 rfl) c_v0 fF4_31 rfl rfl rfl e10 ?_
  refine V_aload_n 0 (zdk tbX4_load_0_ok 20 rfl) rfl ?_
  refine V_aload_n 1 (zdk tbX4_load_0_ok 21 rfl) rfl ?_
  refine V_getI (zdk tbX4_load_0_ok 22 rfl) c_v1 fF4_34 rfl ?_
  obtain ⟨μ11, e12, h⟩ := lt_some h
  refine V_putI (zdk tbX4_load_0_ok 23 rfl) c_v0 fF4_34 rfl rfl rfl e12 ?_
  refine V_aload_n 0 (zdk tbX4_load_0_ok 24 rfl) rfl ?_
  refine V_aload_n 1 (zdk tbX4_load_0_ok 25 rfl) rfl ?_
  refine V_getI (zdk tbX4_load_0_ok 26 rfl) c_v1 fF4_37 rfl ?_
  obtain ⟨μ13, e14, h⟩ := lt_some h
  refine V_putI (zdk tbX4_load_0_ok 27 rfl) c_v0 fF4_37 rfl rfl rfl e14 ?_
  refine V_aload_n 0 (zdk tbX4_load_0_ok 28 rfl) rfl ?_
  refine V_aload_n 1 (zdk tbX4_load_0_ok 29 rfl) rfl ?_
  refine V_getI (zdk tbX4_load_0_ok 30 rfl) c_v1 fF4_40 rfl ?_
  obtain ⟨μ15, e16, h⟩ := lt_some h
  refine V_putI (zdk tbX4_load_0_ok 31 rfl) c_v0 fF4_40 rfl rfl rfl e16 ?_
  refine V_iconst (v := 0) (zdk tbX4_load_0_ok 32 rfl) rfl ?_
  refine V_istore_n (ls' := [(0, .ref v0), (1, .ref v1), (2, .int (0 : Int32))]) [1, 2, 0] (zdk tbX4_load_0_ok 33 rfl) (Nat.le_of_ble_eq_true rfl) rfl ?_
  exact tX4_load_b66 FU v0 v1 (0 : Int32) μ15 c_v0 c_v1 h

-- WhoComplainsCarries$Vow.isBorne
def tbX4_isBorne_0 : List (Nat × Instr × Nat) := [(0, .aload_n 0, 1), (1, .getfield 31, 3), (4, .iconst 0, 1), (5, .aload_n 0, 1), (6, .getfield 18, 3), (9, .iconst 1, 1), (10, .isub, 1), (11, .invokestatic 51, 3), (14, .ireturn, 1)]
theorem tbX4_isBorne_0_ok : ∀ q ∈ tbX4_isBorne_0, decode cX4_isBorne q.1 = .ok (q.2.1, q.2.2) := by decide +kernel
theorem sC4_51 : zCN RX4 51 mX6_isIn 3 := ⟨by decide +kernel, zin (i := 251) (by decide +kernel) rfl, wCX6_isIn⟩
def fX4_isBorne (n : Nat) (v0 : Nat) (μ : ZMem) : Option (ZMem × Int32) := chk (isC n 4 v0) (bd2 (fX6_isIn n (zI μ v0 5) (0 : Int32) ((zI μ v0 1) - (1 : Int32)) μ) (fun μ2 r3 => chk (b01 r3) (some (μ2, r3))))
theorem tX4_isBorne {l : Launch} {fr : Bool} {n : Nat} {v0 : Nat} {μ : ZMem} {z : ZMem × Int32} (h : fX4_isBorne n v0 μ = some z) : ZFn l mX4_isBorne (rmd 2) [.ref v0] fr n μ (fr, n, z.1, some (.int z.2)) := by
  unfold fX4_isBorne at h
  obtain ⟨c_v0, h⟩ := chk_some h
  refine ZFn.of (ls := [(0, .ref v0)]) (by decide) (fun ξ => Nat.le_of_ble_eq_true rfl) (fun ξ => rfl) ?_
  refine V_aload_n 0 (zdk tbX4_isBorne_0_ok 0 rfl) rfl ?_
  refine V_getI (zdk tbX4_isBorne_0_ok 1 rfl) c_v0 fF4_31 rfl ?_
  refine V_iconst (v := 0) (zdk tbX4_isBorne_0_ok 2 rfl) rfl ?_
  refine V_aload_n 0 (zdk tbX4_isBorne_0_ok 3 rfl) rfl ?_
  refine V_getI (zdk tbX4_isBorne_0_ok 4 rfl) c_v0 fF4_18 rfl ?_
  refine V_iconst (v := 1) (zdk tbX4_isBorne_0_ok 5 rfl) rfl ?_
  refine V_isub (zdk tbX4_isBorne_0_ok 6 rfl) ?_
  obtain ⟨μ2, r3, q1, h⟩ := bd2_some h
  refine V_callN (R1 := (rmd 1)) (As := [.int (zI μ v0 5), .int (0 : Int32), .int ((zI μ v0 1) - (1 : Int32))]) (r := (some (.int r3))) (zdk tbX4_isBorne_0_ok 7 rfl) sC4_51 (tX6_isIn q1) rfl rfl ⟨Nat.le_of_ble_eq_true rfl, Nat.le_of_ble_eq_true rfl⟩ (Nat.le_of_ble_eq_true rfl) ⟨rfl, rfl⟩ id ?_
  obtain ⟨b4, h⟩ := chk_some h
  cases h
  exact V_zret (zdk tbX4_isBorne_0_ok 8 rfl) rfl (b01_n b4) rfl

-- WhoComplainsCarries$Vow.bearOrRest
def tbX4_bearOrRest_0 : List (Nat × Instr × Nat) := [(0, .aload_n 0, 1), (1, .invokevirtual 69, 3), (4, .ifCond .ne 32, 3), (7, .iconst 0, 1), (8, .istore_n 1, 1), (9, .iload_n 1, 1), (10, .aload_n 0, 1), (11, .getfield 18, 3), (14, .if_icmp .ge 19, 3), (17, .aload_n 0, 1), (18, .getfield 11, 3), (21, .iload_n 1, 1), (22, .aaload, 1), (23, .iconst 2, 1), (24, .invokevirtual 73, 3), (27, .iinc 1 1, 3), (30, .goto (-21), 3), (33, .goto 97, 3), (36, .aload_n 0, 1), (37, .getfield 28, 3), (40, .aload_n 0, 1), (41, .getfield 25, 3), (44, .if_icmp .ge 86, 3), (47, .aload_n 0, 1), (48, .getfield 11, 3), (51, .aload_n 0, 1), (52, .getfield 31, 3), (55, .aaload, 1), (56, .astore_n 1, 1), (57, .aload_n 0, 1), (58, .aload_n 0, 1), (59, .getfield 25, 3), (62, .aload_n 0, 1), (63, .getfield 28, 3), (66, .aload_n 1, 1), (67, .aload_n 0, 1), (68, .getfield 22, 3), (71, .invokevirtual 76, 3), (74, .iadd, 1), (75, .invokestatic 80, 3), (78, .putfield 28, 3), (81, .iconst 0, 1), (82, .istore_n 2, 1), (83, .iload_n 2, 1), (84, .aload_n 0, 1), (85, .getfield 18, 3), (88, .if_icmp .ge 42, 3), (91, .iload_n 2, 1), (92, .aload_n 0, 1), (93, .getfield 31, 3)]
theorem tbX4_bearOrRest_0_ok : ∀ q ∈ tbX4_bearOrRest_0, decode cX4_bearOrRest q.1 = .ok (q.2.1, q.2.2) := by decide +kernel
def tbX4_bearOrRest_1 : List (Nat × Instr × Nat) := [(96, .if_icmp .ne 18, 3), (99, .aload_n 1, 1), (100, .aload_n 1, 1), (101, .aload_n 0, 1), (102, .getfield 22, 3), (105, .invokevirtual 86, 3), (108, .invokevirtual 89, 3), (111, .goto 13, 3), (114, .aload_n 0, 1), (115, .getfield 11, 3), (118, .iload_n 2, 1), (119, .aaload, 1), (120, .iconst 1, 1), (121, .invokevirtual 73, 3), (124, .iinc 2 1, 3), (127, .goto (-44), 3), (130, .return_, 1)]
theorem tbX4_bearOrRest_1_ok : ∀ q ∈ tbX4_bearOrRest_1, decode cX4_bearOrRest q.1 = .ok (q.2.1, q.2.2) := by decide +kernel
theorem wCX1_rest : zCW mX1_rest 1 := ⟨zin (i := 4) (by decide +kernel) rfl, zin (i := 579) (by decide +kernel) rfl, by decide +kernel, by decide +kernel, by decide +kernel⟩
theorem sC4_73 : zCV RX4 73 mX1_rest 1 := ⟨zin (i := 576) (by decide +kernel) rfl, zin (i := 577) (by decide +kernel) rfl, zin (i := 578) (by decide +kernel) rfl, wCX1_rest⟩
theorem sC4_86 : zCV RX4 86 mX1_toil 1 := ⟨zin (i := 582) (by decide +kernel) rfl, zin (i := 365) (by decide +kernel) rfl, zin (i := 366) (by decide +kernel) rfl, wCX1_toil⟩
theorem wCX1_grow : zCW mX1_grow 1 := ⟨zin (i := 4) (by decide +kernel) rfl, zin (i := 586) (by decide +kernel) rfl, by decide +kernel, by decide +kernel, by decide +kernel⟩
theorem sC4_89 : zCV RX4 89 mX1_grow 1 := ⟨zin (i := 583) (by decide +kernel) rfl, zin (i := 584) (by decide +kernel) rfl, zin (i := 585) (by decide +kernel) rfl, wCX1_grow⟩
theorem wCX4_isBorne : zCW mX4_isBorne 0 := ⟨zin (i := 3) (by decide +kernel) rfl, zin (i := 574) (by decide +kernel) rfl, by decide +kernel, by decide +kernel, by decide +kernel⟩
theorem sC4_69 : zCV RX4 69 mX4_isBorne 0 := ⟨zin (i := 571) (by decide +kernel) rfl, zin (i := 572) (by decide +kernel) rfl, zin (i := 573) (by decide +kernel) rfl, wCX4_isBorne⟩
theorem wCX1_pace : zCW mX1_pace 1 := ⟨zin (i := 4) (by decide +kernel) rfl, zin (i := 374) (by decide +kernel) rfl, by decide +kernel, by decide +kernel, by decide +kernel⟩
theorem sC4_76 : zCV RX4 76 mX1_pace 1 := ⟨zin (i := 580) (by decide +kernel) rfl, zin (i := 372) (by decide +kernel) rfl, zin (i := 373) (by decide +kernel) rfl, wCX1_pace⟩
theorem wM4_80 : Cond.methodLink RX4 80 Lib.Math.min.name ∈ zT := zin (i := 581) (by decide +kernel) rfl
def fX4_bearOrRest_b130 (n : Nat) (μ : ZMem) : Option (ZMem) := some μ
theorem tX4_bearOrRest_b130 {l : Launch} {fr : Bool} {n : Nat} {z : ZMem} (μ : ZMem) (h : fX4_bearOrRest_b130 n μ = some z) : V (zkV l mX4_bearOrRest (rmd 3) fr n z) fr 130 [] [] n μ := by
  unfold fX4_bearOrRest_b130 at h
  cases h
  exact V_vret (zdk tbX4_bearOrRest_1_ok 16 rfl) rfl rfl
def fX4_bearOrRest_b9 (n : Nat) : Nat → Nat → Int32 → ZMem → Option (ZMem)
  | 0, _, _, _ => none
  | k + 1, v0, v1, μ => (if (zI μ v0 1) ≤ v1 then (fX4_bearOrRest_b130 n  μ) else bd1 (zRc n 102 μ v0 0) (fun r2 => chk (inb v1 r2) (bd1 (zRc n 1 μ r2 v1.toNatClampNeg) (fun r5 => bd1 (fX1_rest n r5 (2 : Int32) μ) (fun μ8 => (fX4_bearOrRest_b9 n k v0 (v1 + (1 : Int32)) μ8))))))
theorem tX4_bearOrRest_b9 {l : Launch} {fr : Bool} {n : Nat} {z : ZMem} : ∀ (k : Nat) (v0 : Nat) (v1 : Int32) (μ : ZMem) (c_v0 : isC n 4 v0 = true), fX4_bearOrRest_b9 n k v0 v1 μ = some z → V (zkV l mX4_bearOrRest (rmd 3) fr n z) fr 9 [(0, .ref v0), (1, .int v1)] [] n μ := by
  intro k
  induction k with
  | zero =>
    intro v0 v1 μ c_v0 h
    unfold fX4_bearOrRest_b9 at h
    cases h
  | succ k ih =>
    intro v0 v1 μ c_v0 h
    unfold fX4_bearOrRest_b9 at h
    refine V_iload_n 1 (zdk tbX4_bearOrRest_0_ok 5 rfl) rfl ?_
    refine V_aload_n 0 (zdk tbX4_bearOrRest_0_ok 6 rfl) rfl ?_
    refine V_getI (zdk tbX4_bearOrRest_0_ok 7 rfl) c_v0 fF4_18 rfl ?_
    refine V_icmp_ge (tgt := 33) (zdk tbX4_bearOrRest_0_ok 8 rfl) (by decide) (fun c1 => ?_) (fun c1 => ?_)
    · replace h := ite_t h c1
      refine V_goto (tgt := 130) (zdk tbX4_bearOrRest_0_ok 17 rfl) (by decide) ?_
      refine V_sub (ls' := []) [] rfl ?_
      exact tX4_bearOrRest_b130  μ  h
    · replace h := ite_f h c1
      refine V_aload_n 0 (zdk tbX4_bearOrRest_0_ok 9 rfl) rfl ?_
      obtain ⟨r2, q3, h⟩ := bd1_some h
      obtain ⟨q3, c_r2⟩ := zRc_some q3
      refine V_getR (zdk tbX4_bearOrRest_0_ok 10 rfl) c_v0 fF4_11 rfl q3 ?_
      refine V_iload_n 1 (zdk tbX4_bearOrRest_0_ok 11 rfl) rfl ?_
      obtain ⟨b4, h⟩ := chk_some h
      obtain ⟨r5, q6, h⟩ := bd1_some h
      obtain ⟨q6, c_r5⟩ := zRc_some q6
      refine V_aald2 (zdk tbX4_bearOrRest_0_ok 12 rfl) c_r2 b4 q6 ?_
      refine V_iconst (v := 2) (zdk tbX4_bearOrRest_0_ok 13 rfl) rfl ?_
      obtain ⟨μ8, q7, h⟩ := bd1_some h
      refine V_callV (R1 := (rmd 1)) (As := [.int (2 : Int32)]) (r := none) (zdk tbX4_bearOrRest_0_ok 14 rfl) sC4_73 (tX1_rest q7) (c_r5) rfl rfl rfl ⟨Nat.le_of_ble_eq_true rfl, Nat.le_of_ble_eq_true rfl⟩ (Nat.le_of_ble_eq_true rfl) ⟨rfl, rfl⟩ id ?_
      refine V_inc (dx := 1) (ls' := [(0, .ref v0), (1, .int (v1 + (1 : Int32)))]) 1 [1, 0] (zdk tbX4_bearOrRest_0_ok 15 rfl) rfl (Nat.le_of_ble_eq_true rfl) rfl rfl ?_
      refine V_goto (tgt := 9) (zdk tbX4_bearOrRest_0_ok 16 rfl) (by decide) ?_
      exact ih v0 (v1 + (1 : Int32)) μ8 c_v0 h
def fX4_bearOrRest_b124 (g83 : Nat → Nat → Int32 → ZMem → Option (ZMem)) (n : Nat) (v0 : Nat) (v1 : Nat) (v2 : Int32) (μ : ZMem) : Option (ZMem) := (g83 v0 v1 (v2 + (1 : Int32)) μ)
theorem tX4_bearOrRest_b124 {l : Launch} {fr : Bool} {n : Nat} {z : ZMem} {g83 : Nat → Nat → Int32 → ZMem → Option (ZMem)} (hg83 : ∀ (v0 : Nat) (v1 : Nat) (v2 : Int32) (μ : ZMem), isC n 4 v0 = true → isC n 1 v1 = true → g83 v0 v1 v2 μ = some z → V (zkV l mX4_bearOrRest (rmd 3) fr n z) fr 83 [(0, .ref v0), (1, .ref v1), (2, .int v2)] [] n μ) (v0 : Nat) (v1 : Nat) (v2 : Int32) (μ : ZMem) (c_v0 : isC n 4 v0 = true) (c_v1 : isC n 1 v1 = true) (h : fX4_bearOrRest_b124 g83 n v0 v1 v2 μ = some z) : V (zkV l mX4_bearOrRest (rmd 3) fr n z) fr 124 [(0, .ref v0), (1, .ref v1), (2, .int v2)] [] n μ := by
  unfold fX4_bearOrRest_b124 at h
  refine V_inc (dx := 1) (ls' := [(0, .ref v0), (1, .ref v1), (2, .int (v2 + (1 : Int32)))]) 2 [1, 2, 0] (zdk tbX4_bearOrRest_1_ok 14 rfl) rfl (Nat.le_of_ble_eq_true rfl) rfl rfl ?_
  refine V_goto (tgt := 83) (zdk tbX4_bearOrRest_1_ok 15 rfl) (by decide) ?_
  exact hg83 v0 v1 (v2 + (1 : Int32)) μ c_v0 c_v1 h
def fX4_bearOrRest_b83 (n : Nat) : Nat → Nat → Nat → Int32 → ZMem → Option (ZMem)
  | 0, _, _, _, _ => none
  | k + 1, v0, v1, v2, μ => (if (zI μ v0 1) ≤ v2 then (fX4_bearOrRest_b130 n  μ) else (if v2 = (zI μ v0 5) then bd2 (fX1_toil n v1 (zI μ v0 2) μ) (fun μ11 r12 => bd1 (fX1_grow n v1 r12 μ11) (fun μ14 => (fX4_bearOrRest_b124 (fX4_bearOrRest_b83 n k) n v0 v1 v2 μ14))) else bd1 (zRc n 102 μ v0 0) (fun r3 => chk (inb v2 r3) (bd1 (zRc n 1 μ r3 v2.toNatClampNeg) (fun r6 => bd1 (fX1_rest n r6 (1 : Int32) μ) (fun μ9 => (fX4_bearOrRest_b124 (fX4_bearOrRest_b83 n k) n v0 v1 v2 μ9)))))))
theorem tX4_bearOrRest_b83 {l : Launch} {fr : Bool} {n : Nat} {z : ZMem} : ∀ (k : Nat) (v0 : Nat) (v1 : Nat) (v2 : Int32) (μ : ZMem) (c_v0 : isC n 4 v0 = true) (c_v1 : isC n 1 v1 = true), fX4_bearOrRest_b83 n k v0 v1 v2 μ = some z → V (zkV l mX4_bearOrRest (rmd 3) fr n z) fr 83 [(0, .ref v0), (1, .ref v1), (2, .int v2)] [] n μ := by
  intro k
  induction k with
  | zero =>
    intro v0 v1 v2 μ c_v0 c_v1 h
    unfold fX4_bearOrRest_b83 at h
    cases h
  | succ k ih =>
    intro v0 v1 v2 μ c_v0 c_v1 h
    unfold fX4_bearOrRest_b83 at h
    refine V_iload_n 2 (zdk tbX4_bearOrRest_0_ok 43 rfl) rfl ?_
    refine V_aload_n 0 (zdk tbX4_bearOrRest_0_ok 44 rfl) rfl ?_
    refine V_getI (zdk tbX4_bearOrRest_0_ok 45 rfl) c_v0 fF4_18 rfl ?_
    refine V_icmp_ge (tgt := 130) (zdk tbX4_bearOrRest_0_ok 46 rfl) (by decide) (fun c1 => ?_) (fun c1 => ?_)
    · replace h := ite_t h c1
      refine V_sub (ls' := []) [] rfl ?_
      exact tX4_bearOrRest_b130  μ  h
    · replace h := ite_f h c1
      refine V_iload_n 2 (zdk tbX4_bearOrRest_0_ok 47 rfl) rfl ?_
      refine V_aload_n 0 (zdk tbX4_bearOrRest_0_ok 48 rfl) rfl ?_
      refine V_getI (zdk tbX4_bearOrRest_0_ok 49 rfl) c_v0 fF4_31 rfl ?_
      refine V_icmp_ne (tgt := 114) (zdk tbX4_bearOrRest_1_ok 0 rfl) (by decide) (fun c2 => ?_) (fun c2 => ?_)
      · replace h := ite_f h c2
        refine V_aload_n 0 (zdk tbX4_bearOrRest_1_ok 8 rfl) rfl ?_
        obtain ⟨r3, q4, h⟩ := bd1_some h
        obtain ⟨q4, c_r3⟩ := zRc_some q4
        refine V_getR (zdk tbX4_bearOrRest_1_ok 9 rfl) c_v0 fF4_11 rfl q4 ?_
        refine V_iload_n 2 (zdk tbX4_bearOrRest_1_ok 10 rfl) rfl ?_
        obtain ⟨b5, h⟩ := chk_some h
        obtain ⟨r6, q7, h⟩ := bd1_some h
        obtain ⟨q7, c_r6⟩ := zRc_some q7
        refine V_aald2 (zdk tbX4_bearOrRest_1_ok 11 rfl) c_r3 b5 q7 ?_
        refine V_iconst (v := 1) (zdk tbX4_bearOrRest_1_ok 12 rfl) rfl ?_
        obtain ⟨μ9, q8, h⟩ := bd1_some h
        refine V_callV (R1 := (rmd 1)) (As := [.int (1 : Int32)]) (r := none) (zdk tbX4_bearOrRest_1_ok 13 rfl) sC4_73 (tX1_rest q8) (c_r6) rfl rfl rfl ⟨Nat.le_of_ble_eq_true rfl, Nat.le_of_ble_eq_true rfl⟩ (Nat.le_of_ble_eq_true rfl) ⟨rfl, rfl⟩ id ?_
        exact tX4_bearOrRest_b124 (fun v0 v1 v2 μ y0 y1 h => ih v0 v1 v2 μ y0 y1 h) v0 v1 v2 μ9 c_v0 c_v1 h
      · replace h := ite_t h c2
        refine V_aload_n 1 (zdk tbX4_bearOrRest_1_ok 1 rfl) rfl ?_
        refine V_aload_n 1 (zdk tbX4_bearOrRest_1_ok 2 rfl) rfl ?_
        refine V_aload_n 0 (zdk tbX4_bearOrRest_1_ok 3 rfl) rfl ?_
        refine V_getI (zdk tbX4_bearOrRest_1_ok 4 rfl) c_v0 fF4_22 rfl ?_
        obtain ⟨μ11, r12, q10, h⟩ := bd2_some h
        refine V_callV (R1 := (rmd 2)) (As := [.int (zI μ v0 2)]) (r := (some (.int r12))) (zdk tbX4_bearOrRest_1_ok 5 rfl) sC4_86 (tX1_toil q10) (c_v1) rfl rfl rfl ⟨Nat.le_of_ble_eq_true rfl, Nat.le_of_ble_eq_true rfl⟩ (Nat.le_of_ble_eq_true rfl) ⟨rfl, rfl⟩ id ?_
        obtain ⟨μ14, q13, h⟩ := bd1_some h
        refine V_callV (R1 := (rmd 1)) (As := [.int r12]) (r := none) (zdk tbX4_bearOrRest_1_ok 6 rfl) sC4_89 (tX1_grow q13) (c_v1) rfl rfl rfl ⟨Nat.le_of_ble_eq_true rfl, Nat.le_of_ble_eq_true rfl⟩ (Nat.le_of_ble_eq_true rfl) ⟨rfl, rfl⟩ id ?_
        refine V_goto (tgt := 124) (zdk tbX4_bearOrRest_1_ok 7 rfl) (by decide) ?_
        exact tX4_bearOrRest_b124 (fun v0 v1 v2 μ y0 y1 h => ih v0 v1 v2 μ y0 y1 h) v0 v1 v2 μ14 c_v0 c_v1 h
def fX4_bearOrRest (n : Nat) (v0 : Nat) (μ : ZMem) : Option (ZMem) := chk (isC n 4 v0) (bd2 (fX4_isBorne n v0 μ) (fun μ2 r3 => (if r3 = 0 then (fX4_bearOrRest_b9 n FU v0 (0 : Int32) μ2) else (if (zI μ2 v0 3) ≤ (zI μ2 v0 4) then (fX4_bearOrRest_b130 n  μ2) else bd1 (zRc n 102 μ2 v0 0) (fun r6 => chk (inb (zI μ2 v0 5) r6) (bd1 (zRc n 1 μ2 r6 (zI μ2 v0 5).toNatClampNeg) (fun r9 => bd2 (fX1_pace n r9 (zI μ2 v0 2) μ2) (fun μ12 r13 => lt (zpI μ12 v0 4 (if ((zI μ2 v0 4) + r13) < (zI μ2 v0 3) then ((zI μ2 v0 4) + r13) else (zI μ2 v0 3))) (fun μ14 => (fX4_bearOrRest_b83 n FU v0 r9 (0 : Int32) μ14))))))))))
theorem tX4_bearOrRest {l : Launch} {fr : Bool} {n : Nat} {v0 : Nat} {μ : ZMem} {z : ZMem} (h : fX4_bearOrRest n v0 μ = some z) : ZFn l mX4_bearOrRest (rmd 3) [.ref v0] fr n μ (fr, n, z, none) := by
  unfold fX4_bearOrRest at h
  obtain ⟨c_v0, h⟩ := chk_some h
  refine ZFn.of (ls := [(0, .ref v0)]) (by decide) (fun ξ => Nat.le_of_ble_eq_true rfl) (fun ξ => rfl) ?_
  refine V_aload_n 0 (zdk tbX4_bearOrRest_0_ok 0 rfl) rfl ?_
  obtain ⟨μ2, r3, q1, h⟩ := bd2_some h
  refine V_callV (R1 := (rmd 2)) (As := []) (r := (some (.int r3))) (zdk tbX4_bearOrRest_0_ok 1 rfl) sC4_69 (tX4_isBorne q1) (c_v0) rfl rfl rfl ⟨Nat.le_of_ble_eq_true rfl, Nat.le_of_ble_eq_true rfl⟩ (Nat.le_of_ble_eq_true rfl) ⟨rfl, rfl⟩ id ?_
  refine V_if_ne (tgt := 36) (zdk tbX4_bearOrRest_0_ok 2 rfl) (by decide) (fun c4 => ?_) (fun c4 => ?_)
  · replace h := ite_f h c4
    refine V_aload_n 0 (zdk tbX4_bearOrRest_0_ok 18 rfl) rfl ?_
    refine V_getI (zdk tbX4_bearOrRest_0_ok 19 rfl) c_v0 fF4_28 rfl ?_
    refine V_aload_n 0 (zdk tbX4_bearOrRest_0_ok 20 rfl) rfl ?_
    refine V_getI (zdk tbX4_bearOrRest_0_ok 21 rfl) c_v0 fF4_25 rfl ?_
    refine V_icmp_ge (tgt := 130) (zdk tbX4_bearOrRest_0_ok 22 rfl) (by decide) (fun c5 => ?_) (fun c5 => ?_)
    · replace h := ite_t h c5
      refine V_sub (ls' := []) [] rfl ?_
      exact tX4_bearOrRest_b130  μ2  h
    · replace h := ite_f h c5
      refine V_aload_n 0 (zdk tbX4_bearOrRest_0_ok 23 rfl) rfl ?_
      obtain ⟨r6, q7, h⟩ := bd1_some h
      obtain ⟨q7, c_r6⟩ := zRc_some q7
      refine V_getR (zdk tbX4_bearOrRest_0_ok 24 rfl) c_v0 fF4_11 rfl q7 ?_
      refine V_aload_n 0 (zdk tbX4_bearOrRest_0_ok 25 rfl) rfl ?_
      refine V_getI (zdk tbX4_bearOrRest_0_ok 26 rfl) c_v0 fF4_31 rfl ?_
      obtain ⟨b8, h⟩ := chk_some h
      obtain ⟨r9, q10, h⟩ := bd1_some h
      obtain ⟨q10, c_r9⟩ := zRc_some q10
      refine V_aald2 (zdk tbX4_bearOrRest_0_ok 27 rfl) c_r6 b8 q10 ?_
      refine V_astore_n (ls' := [(0, .ref v0), (1, .ref r9)]) [1, 0] (zdk tbX4_bearOrRest_0_ok 28 rfl) (Nat.le_of_ble_eq_true rfl) rfl ?_
      refine V_aload_n 0 (zdk tbX4_bearOrRest_0_ok 29 rfl) rfl ?_
      refine V_aload_n 0 (zdk tbX4_bearOrRest_0_ok 30 rfl) rfl ?_
      refine V_getI (zdk tbX4_bearOrRest_0_ok 31 rfl) c_v0 fF4_25 rfl ?_
      refine V_aload_n 0 (zdk tbX4_bearOrRest_0_ok 32 rfl) rfl ?_
      refine V_getI (zdk tbX4_bearOrRest_0_ok 33 rfl) c_v0 fF4_28 rfl ?_
      refine V_aload_n 1 (zdk tbX4_bearOrRest_0_ok 34 rfl) rfl ?_
      refine V_aload_n 0 (zdk tbX4_bearOrRest_0_ok 35 rfl) rfl ?_
      refine V_getI (zdk tbX4_bearOrRest_0_ok 36 rfl) c_v0 fF4_22 rfl ?_
      obtain ⟨μ12, r13, q11, h⟩ := bd2_some h
      refine V_callV (R1 := (rmd 1)) (As := [.int (zI μ2 v0 2)]) (r := (some (.int r13))) (zdk tbX4_bearOrRest_0_ok 37 rfl) sC4_76 (tX1_pace q11) (c_r9) rfl rfl rfl ⟨Nat.le_of_ble_eq_true rfl, Nat.le_of_ble_eq_true rfl⟩ (Nat.le_of_ble_eq_true rfl) ⟨rfl, rfl⟩ id ?_
      refine V_iadd (zdk tbX4_bearOrRest_0_ok 38 rfl) ?_
      refine V_min (zdk tbX4_bearOrRest_0_ok 39 rfl) wM4_80 wMs_min wMi wMc_min ⟨Nat.le_of_ble_eq_true rfl, Nat.le_of_ble_eq_true rfl⟩ (Nat.le_of_ble_eq_true rfl) ?_
      obtain ⟨μ14, e15, h⟩ := lt_some h
      refine V_putI (zdk tbX4_bearOrRest_0_ok 40 rfl) c_v0 fF4_28 rfl rfl rfl e15 ?_
      refine V_iconst (v := 0) (zdk tbX4_bearOrRest_0_ok 41 rfl) rfl ?_
      refine V_istore_n (ls' := [(0, .ref v0), (1, .ref r9), (2, .int (0 : Int32))]) [1, 2, 0] (zdk tbX4_bearOrRest_0_ok 42 rfl) (Nat.le_of_ble_eq_true rfl) rfl ?_
      exact tX4_bearOrRest_b83 FU v0 r9 (0 : Int32) μ14 c_v0 c_r9 h
  · replace h := ite_t h c4
    refine V_iconst (v := 0) (zdk tbX4_bearOrRest_0_ok 3 rfl) rfl ?_
    refine V_istore_n (ls' := [(0, .ref v0), (1, .int (0 : Int32))]) [1, 0] (zdk tbX4_bearOrRest_0_ok 4 rfl) (Nat.le_of_ble_eq_true rfl) rfl ?_
    exact tX4_bearOrRest_b9 FU v0 (0 : Int32) μ2 c_v0 h

-- WhoComplainsCarries$Vow.bearLeg
def tbX4_bearLeg_0 : List (Nat × Instr × Nat) := [(0, .aload_n 0, 1), (1, .iload_n 1, 1), (2, .putfield 31, 3), (5, .iconst 0, 1), (6, .istore_n 3, 1), (7, .iload_n 3, 1), (8, .iload_n 2, 1), (9, .if_icmp .ge 48, 3), (12, .aload_n 0, 1), (13, .invokevirtual 59, 3), (16, .iconst 0, 1), (17, .istore 4, 2), (19, .iload 4, 2), (21, .aload_n 0, 1), (22, .getfield 18, 3), (25, .if_icmp .ge 26, 3), (28, .aload_n 0, 1), (29, .getfield 11, 3), (32, .iload 4, 2), (34, .aaload, 1), (35, .getfield 117, 3), (38, .bipush 50, 2), (40, .if_icmp .le 5, 3), (43, .iconst 0, 1), (44, .ireturn, 1), (45, .iinc 4 1, 3), (48, .goto (-29), 3), (51, .iinc 3 1, 3), (54, .goto (-47), 3), (57, .iconst 1, 1), (58, .ireturn, 1)]
theorem tbX4_bearLeg_0_ok : ∀ q ∈ tbX4_bearLeg_0, decode cX4_bearLeg q.1 = .ok (q.2.1, q.2.2) := by decide +kernel
theorem fF4_117 : zF RX4 117 1 4 := ⟨_, rfl, by decide, zin (i := 81) (by decide +kernel) rfl⟩
theorem wCX4_bearOrRest : zCW mX4_bearOrRest 0 := ⟨zin (i := 3) (by decide +kernel) rfl, zin (i := 570) (by decide +kernel) rfl, by decide +kernel, by decide +kernel, by decide +kernel⟩
theorem sC4_59 : zCV RX4 59 mX4_bearOrRest 0 := ⟨zin (i := 567) (by decide +kernel) rfl, zin (i := 568) (by decide +kernel) rfl, zin (i := 569) (by decide +kernel) rfl, wCX4_bearOrRest⟩
def fX4_bearLeg_b19 (g7 : Nat → Int32 → Int32 → ZMem → Option (ZMem × Int32)) (n : Nat) : Nat → Nat → Int32 → Int32 → Int32 → ZMem → Option (ZMem × Int32)
  | 0, _, _, _, _, _ => none
  | k + 1, v0, v2, v3, v4, μ => (if (zI μ v0 1) ≤ v4 then (g7 v0 v2 (v3 + (1 : Int32)) μ) else bd1 (zRc n 102 μ v0 0) (fun r2 => chk (inb v4 r2) (bd1 (zRc n 1 μ r2 v4.toNatClampNeg) (fun r5 => (if (zI μ r5 4) ≤ (50 : Int32) then (fX4_bearLeg_b19 g7 n k v0 v2 v3 (v4 + (1 : Int32)) μ) else some (μ, (0 : Int32)))))))
theorem tX4_bearLeg_b19 {l : Launch} {fr : Bool} {n : Nat} {z : ZMem × Int32} {g7 : Nat → Int32 → Int32 → ZMem → Option (ZMem × Int32)} (hg7 : ∀ (v0 : Nat) (v2 : Int32) (v3 : Int32) (μ : ZMem), isC n 4 v0 = true → g7 v0 v2 v3 μ = some z → V (zkI l mX4_bearLeg (rmd 4) fr n z) fr 7 [(0, .ref v0), (2, .int v2), (3, .int v3)] [] n μ) : ∀ (k : Nat) (v0 : Nat) (v2 : Int32) (v3 : Int32) (v4 : Int32) (μ : ZMem) (c_v0 : isC n 4 v0 = true), fX4_bearLeg_b19 g7 n k v0 v2 v3 v4 μ = some z → V (zkI l mX4_bearLeg (rmd 4) fr n z) fr 19 [(0, .ref v0), (2, .int v2), (3, .int v3), (4, .int v4)] [] n μ := by
  intro k
  induction k with
  | zero =>
    intro v0 v2 v3 v4 μ c_v0 h
    unfold fX4_bearLeg_b19 at h
    cases h
  | succ k ih =>
    intro v0 v2 v3 v4 μ c_v0 h
    unfold fX4_bearLeg_b19 at h
    refine V_iload 3 (zdk tbX4_bearLeg_0_ok 12 rfl) rfl ?_
    refine V_aload_n 0 (zdk tbX4_bearLeg_0_ok 13 rfl) rfl ?_
    refine V_getI (zdk tbX4_bearLeg_0_ok 14 rfl) c_v0 fF4_18 rfl ?_
    refine V_icmp_ge (tgt := 51) (zdk tbX4_bearLeg_0_ok 15 rfl) (by decide) (fun c1 => ?_) (fun c1 => ?_)
    · replace h := ite_t h c1
      refine V_inc (dx := 1) (ls' := [(0, .ref v0), (2, .int v2), (3, .int (v3 + (1 : Int32)))]) 2 [1, 2, 0] (zdk tbX4_bearLeg_0_ok 27 rfl) rfl (Nat.le_of_ble_eq_true rfl) rfl rfl ?_
      refine V_goto (tgt := 7) (zdk tbX4_bearLeg_0_ok 28 rfl) (by decide) ?_
      exact hg7 v0 v2 (v3 + (1 : Int32)) μ c_v0 h
    · replace h := ite_f h c1
      refine V_aload_n 0 (zdk tbX4_bearLeg_0_ok 16 rfl) rfl ?_
      obtain ⟨r2, q3, h⟩ := bd1_some h
      obtain ⟨q3, c_r2⟩ := zRc_some q3
      refine V_getR (zdk tbX4_bearLeg_0_ok 17 rfl) c_v0 fF4_11 rfl q3 ?_
      refine V_iload 3 (zdk tbX4_bearLeg_0_ok 18 rfl) rfl ?_
      obtain ⟨b4, h⟩ := chk_some h
      obtain ⟨r5, q6, h⟩ := bd1_some h
      obtain ⟨q6, c_r5⟩ := zRc_some q6
      refine V_aald2 (zdk tbX4_bearLeg_0_ok 19 rfl) c_r2 b4 q6 ?_
      refine V_getI (zdk tbX4_bearLeg_0_ok 20 rfl) c_r5 fF4_117 rfl ?_
      refine V_bipush (v := 50) (zdk tbX4_bearLeg_0_ok 21 rfl) rfl ?_
      refine V_icmp_le (tgt := 45) (zdk tbX4_bearLeg_0_ok 22 rfl) (by decide) (fun c7 => ?_) (fun c7 => ?_)
      · replace h := ite_t h c7
        refine V_inc (dx := 1) (ls' := [(0, .ref v0), (2, .int v2), (3, .int v3), (4, .int (v4 + (1 : Int32)))]) 3 [1, 2, 3, 0] (zdk tbX4_bearLeg_0_ok 25 rfl) rfl (Nat.le_of_ble_eq_true rfl) rfl rfl ?_
        refine V_goto (tgt := 19) (zdk tbX4_bearLeg_0_ok 26 rfl) (by decide) ?_
        exact ih v0 v2 v3 (v4 + (1 : Int32)) μ c_v0 h
      · replace h := ite_f h c7
        refine V_iconst (v := 0) (zdk tbX4_bearLeg_0_ok 23 rfl) rfl ?_
        cases h
        exact V_zret (zdk tbX4_bearLeg_0_ok 24 rfl) rfl (by decide) rfl
def fX4_bearLeg_b7 (n : Nat) : Nat → Nat → Int32 → Int32 → ZMem → Option (ZMem × Int32)
  | 0, _, _, _, _ => none
  | k + 1, v0, v2, v3, μ => (if v2 ≤ v3 then some (μ, (1 : Int32)) else bd1 (fX4_bearOrRest n v0 μ) (fun μ3 => (fX4_bearLeg_b19 (fX4_bearLeg_b7 n k) n FU v0 v2 v3 (0 : Int32) μ3)))
theorem tX4_bearLeg_b7 {l : Launch} {fr : Bool} {n : Nat} {z : ZMem × Int32} : ∀ (k : Nat) (v0 : Nat) (v2 : Int32) (v3 : Int32) (μ : ZMem) (c_v0 : isC n 4 v0 = true), fX4_bearLeg_b7 n k v0 v2 v3 μ = some z → V (zkI l mX4_bearLeg (rmd 4) fr n z) fr 7 [(0, .ref v0), (2, .int v2), (3, .int v3)] [] n μ := by
  intro k
  induction k with
  | zero =>
    intro v0 v2 v3 μ c_v0 h
    unfold fX4_bearLeg_b7 at h
    cases h
  | succ k ih =>
    intro v0 v2 v3 μ c_v0 h
    unfold fX4_bearLeg_b7 at h
    refine V_iload_n 2 (zdk tbX4_bearLeg_0_ok 5 rfl) rfl ?_
    refine V_iload_n 1 (zdk tbX4_bearLeg_0_ok 6 rfl) rfl ?_
    refine V_icmp_ge (tgt := 57) (zdk tbX4_bearLeg_0_ok 7 rfl) (by decide) (fun c1 => ?_) (fun c1 => ?_)
    · replace h := ite_t h c1
      refine V_iconst (v := 1) (zdk tbX4_bearLeg_0_ok 29 rfl) rfl ?_
      cases h
      exact V_zret (zdk tbX4_bearLeg_0_ok 30 rfl) rfl (by decide) rfl
    · replace h := ite_f h c1
      refine V_aload_n 0 (zdk tbX4_bearLeg_0_ok 8 rfl) rfl ?_
      obtain ⟨μ3, q2, h⟩ := bd1_some h
      refine V_callV (R1 := (rmd 3)) (As := []) (r := none) (zdk tbX4_bearLeg_0_ok 9 rfl) sC4_59 (tX4_bearOrRest q2) (c_v0) rfl rfl rfl ⟨Nat.le_of_ble_eq_true rfl, Nat.le_of_ble_eq_true rfl⟩ (Nat.le_of_ble_eq_true rfl) ⟨rfl, rfl⟩ id ?_
      refine V_iconst (v := 0) (zdk tbX4_bearLeg_0_ok 10 rfl) rfl ?_
      refine V_istore (ls' := [(0, .ref v0), (2, .int v2), (3, .int v3), (4, .int (0 : Int32))]) [1, 2, 3, 0] (zdk tbX4_bearLeg_0_ok 11 rfl) (Nat.le_of_ble_eq_true rfl) rfl ?_
      exact tX4_bearLeg_b19 (fun v0 v2 v3 μ y0 h => ih v0 v2 v3 μ y0 h) FU v0 v2 v3 (0 : Int32) μ3 c_v0 h
def fX4_bearLeg (n : Nat) (v0 : Nat) (v1 : Int32) (v2 : Int32) (μ : ZMem) : Option (ZMem × Int32) := chk (isC n 4 v0) (lt (zpI μ v0 5 v1) (fun μ1 => (fX4_bearLeg_b7 n FU v0 v2 (0 : Int32) μ1)))
theorem tX4_bearLeg {l : Launch} {fr : Bool} {n : Nat} {v0 : Nat} {v1 : Int32} {v2 : Int32} {μ : ZMem} {z : ZMem × Int32} (h : fX4_bearLeg n v0 v1 v2 μ = some z) : ZFn l mX4_bearLeg (rmd 4) [.ref v0, .int v1, .int v2] fr n μ (fr, n, z.1, some (.int z.2)) := by
  unfold fX4_bearLeg at h
  obtain ⟨c_v0, h⟩ := chk_some h
  refine ZFn.of (ls := [(0, .ref v0), (1, .int v1), (2, .int v2)]) (by decide) (fun ξ => Nat.le_of_ble_eq_true rfl) (fun ξ => rfl) ?_
  refine V_aload_n 0 (zdk tbX4_bearLeg_0_ok 0 rfl) rfl ?_
  refine V_iload_n 1 (zdk tbX4_bearLeg_0_ok 1 rfl) rfl ?_
  obtain ⟨μ1, e2, h⟩ := lt_some h
  refine V_putI (zdk tbX4_bearLeg_0_ok 2 rfl) c_v0 fF4_31 rfl rfl rfl e2 ?_
  refine V_iconst (v := 0) (zdk tbX4_bearLeg_0_ok 3 rfl) rfl ?_
  refine V_istore_n (ls' := [(0, .ref v0), (2, .int v2), (3, .int (0 : Int32))]) [1, 3, 0] (zdk tbX4_bearLeg_0_ok 4 rfl) (Nat.le_of_ble_eq_true rfl) rfl ?_
  exact tX4_bearLeg_b7 FU v0 v2 (0 : Int32) μ1 c_v0 h

-- WhoComplainsCarries$Vow.addPerson
def tbX4_addPerson_0 : List (Nat × Instr × Nat) := [(0, .aload_n 0, 1), (1, .getfield 18, 3), (4, .ifCond .lt 39, 3), (7, .aload_n 0, 1), (8, .getfield 18, 3), (11, .bipush 7, 2), (13, .if_icmp .ge 30, 3), (16, .aload_n 0, 1), (17, .getfield 11, 3), (20, .aload_n 0, 1), (21, .getfield 18, 3), (24, .aaload, 1), (25, .iload_n 1, 1), (26, .iload_n 2, 1), (27, .iload_n 3, 1), (28, .iload 4, 2), (30, .invokevirtual 47, 3), (33, .aload_n 0, 1), (34, .dup, 1), (35, .getfield 18, 3), (38, .iconst 1, 1), (39, .iadd, 1), (40, .putfield 18, 3), (43, .return_, 1)]
theorem tbX4_addPerson_0_ok : ∀ q ∈ tbX4_addPerson_0, decode cX4_addPerson q.1 = .ok (q.2.1, q.2.2) := by decide +kernel
theorem sC4_47 : zCV RX4 47 mX1_become 4 := ⟨zin (i := 385) (by decide +kernel) rfl, zin (i := 65) (by decide +kernel) rfl, zin (i := 66) (by decide +kernel) rfl, wCX1_become⟩
def fX4_addPerson_b43 (n : Nat) (μ : ZMem) : Option (ZMem) := some μ
theorem tX4_addPerson_b43 {l : Launch} {fr : Bool} {n : Nat} {z : ZMem} (μ : ZMem) (h : fX4_addPerson_b43 n μ = some z) : V (zkV l mX4_addPerson (rmd 2) fr n z) fr 43 [] [] n μ := by
  unfold fX4_addPerson_b43 at h
  cases h
  exact V_vret (zdk tbX4_addPerson_0_ok 23 rfl) rfl rfl
def fX4_addPerson (n : Nat) (v0 : Nat) (v1 : Int32) (v2 : Int32) (v3 : Int32) (v4 : Int32) (μ : ZMem) : Option (ZMem) := chk (isC n 4 v0) ((if (zI μ v0 1) < 0 then (fX4_addPerson_b43 n  μ) else (if (7 : Int32) ≤ (zI μ v0 1) then (fX4_addPerson_b43 n  μ) else bd1 (zRc n 102 μ v0 0) (fun r3 => chk (inb (zI μ v0 1) r3) (bd1 (zRc n 1 μ r3 (zI μ v0 1).toNatClampNeg) (fun r6 => bd1 (fX1_become n r6 v1 v2 v3 v4 μ) (fun μ9 => lt (zpI μ9 v0 1 ((zI μ9 v0 1) + (1 : Int32))) (fun μ10 => (fX4_addPerson_b43 n  μ10)))))))))
theorem tX4_addPerson {l : Launch} {fr : Bool} {n : Nat} {v0 : Nat} {v1 : Int32} {v2 : Int32} {v3 : Int32} {v4 : Int32} {μ : ZMem} {z : ZMem} (h : fX4_addPerson n v0 v1 v2 v3 v4 μ = some z) : ZFn l mX4_addPerson (rmd 2) [.ref v0, .int v1, .int v2, .int v3, .int v4] fr n μ (fr, n, z, none) := by
  unfold fX4_addPerson at h
  obtain ⟨c_v0, h⟩ := chk_some h
  refine ZFn.of (ls := [(0, .ref v0), (1, .int v1), (2, .int v2), (3, .int v3), (4, .int v4)]) (by decide) (fun ξ => Nat.le_of_ble_eq_true rfl) (fun ξ => rfl) ?_
  refine V_aload_n 0 (zdk tbX4_addPerson_0_ok 0 rfl) rfl ?_
  refine V_getI (zdk tbX4_addPerson_0_ok 1 rfl) c_v0 fF4_18 rfl ?_
  refine V_if_lt (tgt := 43) (zdk tbX4_addPerson_0_ok 2 rfl) (by decide) (fun c1 => ?_) (fun c1 => ?_)
  · replace h := ite_t h c1
    refine V_sub (ls' := []) [] rfl ?_
    exact tX4_addPerson_b43  μ  h
  · replace h := ite_f h c1
    refine V_aload_n 0 (zdk tbX4_addPerson_0_ok 3 rfl) rfl ?_
    refine V_getI (zdk tbX4_addPerson_0_ok 4 rfl) c_v0 fF4_18 rfl ?_
    refine V_bipush (v := 7) (zdk tbX4_addPerson_0_ok 5 rfl) rfl ?_
    refine V_icmp_ge (tgt := 43) (zdk tbX4_addPerson_0_ok 6 rfl) (by decide) (fun c2 => ?_) (fun c2 => ?_)
    · replace h := ite_t h c2
      refine V_sub (ls' := []) [] rfl ?_
      exact tX4_addPerson_b43  μ  h
    · replace h := ite_f h c2
      refine V_aload_n 0 (zdk tbX4_addPerson_0_ok 7 rfl) rfl ?_
      obtain ⟨r3, q4, h⟩ := bd1_some h
      obtain ⟨q4, c_r3⟩ := zRc_some q4
      refine V_getR (zdk tbX4_addPerson_0_ok 8 rfl) c_v0 fF4_11 rfl q4 ?_
      refine V_aload_n 0 (zdk tbX4_addPerson_0_ok 9 rfl) rfl ?_
      refine V_getI (zdk tbX4_addPerson_0_ok 10 rfl) c_v0 fF4_18 rfl ?_
      obtain ⟨b5, h⟩ := chk_some h
      obtain ⟨r6, q7, h⟩ := bd1_some h
      obtain ⟨q7, c_r6⟩ := zRc_some q7
      refine V_aald2 (zdk tbX4_addPerson_0_ok 11 rfl) c_r3 b5 q7 ?_
      refine V_iload_n 1 (zdk tbX4_addPerson_0_ok 12 rfl) rfl ?_
      refine V_iload_n 2 (zdk tbX4_addPerson_0_ok 13 rfl) rfl ?_
      refine V_iload_n 3 (zdk tbX4_addPerson_0_ok 14 rfl) rfl ?_
      refine V_iload 4 (zdk tbX4_addPerson_0_ok 15 rfl) rfl ?_
      obtain ⟨μ9, q8, h⟩ := bd1_some h
      refine V_callV (R1 := (rmd 1)) (As := [.int v1, .int v2, .int v3, .int v4]) (r := none) (zdk tbX4_addPerson_0_ok 16 rfl) sC4_47 (tX1_become q8) (c_r6) rfl rfl rfl ⟨Nat.le_of_ble_eq_true rfl, Nat.le_of_ble_eq_true rfl⟩ (Nat.le_of_ble_eq_true rfl) ⟨rfl, rfl⟩ id ?_
      refine V_aload_n 0 (zdk tbX4_addPerson_0_ok 17 rfl) rfl ?_
      refine V_dup_r (zdk tbX4_addPerson_0_ok 18 rfl) ?_
      refine V_getI (zdk tbX4_addPerson_0_ok 19 rfl) c_v0 fF4_18 rfl ?_
      refine V_iconst (v := 1) (zdk tbX4_addPerson_0_ok 20 rfl) rfl ?_
      refine V_iadd (zdk tbX4_addPerson_0_ok 21 rfl) ?_
      obtain ⟨μ10, e11, h⟩ := lt_some h
      refine V_putI (zdk tbX4_addPerson_0_ok 22 rfl) c_v0 fF4_18 rfl rfl rfl e11 ?_
      refine V_sub (ls' := []) [] rfl ?_
      exact tX4_addPerson_b43  μ10  h

-- WhoComplainsCarries$Vow.counts
def tbX4_counts_0 : List (Nat × Instr × Nat) := [(0, .iload_n 1, 1), (1, .iconst 0, 1), (2, .iconst 4, 1), (3, .invokestatic 51, 3), (6, .ifCond .eq 19, 3), (9, .aload_n 0, 1), (10, .getfield 37, 3), (13, .iload_n 1, 1), (14, .ishr, 1), (15, .iconst 1, 1), (16, .iand, 1), (17, .iconst 1, 1), (18, .if_icmp .ne 7, 3), (21, .iconst 1, 1), (22, .goto 4, 3), (25, .iconst 0, 1), (26, .ireturn, 1)]
theorem tbX4_counts_0_ok : ∀ q ∈ tbX4_counts_0, decode cX4_counts q.1 = .ok (q.2.1, q.2.2) := by decide +kernel
def fX4_counts_b26 (n : Nat) (s0 : Int32) (μ : ZMem) : Option (ZMem × Int32) := chk (b01 s0) (some (μ, s0))
theorem tX4_counts_b26 {l : Launch} {fr : Bool} {n : Nat} {z : ZMem × Int32} (s0 : Int32) (μ : ZMem) (h : fX4_counts_b26 n s0 μ = some z) : V (zkI l mX4_counts (rmd 2) fr n z) fr 26 [] [.int s0] n μ := by
  unfold fX4_counts_b26 at h
  obtain ⟨b1, h⟩ := chk_some h
  cases h
  exact V_zret (zdk tbX4_counts_0_ok 16 rfl) rfl (b01_n b1) rfl
def fX4_counts_b25 (n : Nat) (μ : ZMem) : Option (ZMem × Int32) := (fX4_counts_b26 n (0 : Int32) μ)
theorem tX4_counts_b25 {l : Launch} {fr : Bool} {n : Nat} {z : ZMem × Int32} (μ : ZMem) (h : fX4_counts_b25 n μ = some z) : V (zkI l mX4_counts (rmd 2) fr n z) fr 25 [] [] n μ := by
  unfold fX4_counts_b25 at h
  refine V_iconst (v := 0) (zdk tbX4_counts_0_ok 15 rfl) rfl ?_
  exact tX4_counts_b26 (0 : Int32) μ  h
def fX4_counts (n : Nat) (v0 : Nat) (v1 : Int32) (μ : ZMem) : Option (ZMem × Int32) := chk (isC n 4 v0) (bd2 (fX6_isIn n v1 (0 : Int32) (4 : Int32) μ) (fun μ2 r3 => (if r3 = 0 then (fX4_counts_b25 n  μ2) else (if (((zI μ2 v0 7) >>> (v1 &&& 31)) &&& (1 : Int32)) = (1 : Int32) then (fX4_counts_b26 n (1 : Int32) μ2) else (fX4_counts_b25 n  μ2)))))
theorem tX4_counts {l : Launch} {fr : Bool} {n : Nat} {v0 : Nat} {v1 : Int32} {μ : ZMem} {z : ZMem × Int32} (h : fX4_counts n v0 v1 μ = some z) : ZFn l mX4_counts (rmd 2) [.ref v0, .int v1] fr n μ (fr, n, z.1, some (.int z.2)) := by
  unfold fX4_counts at h
  obtain ⟨c_v0, h⟩ := chk_some h
  refine ZFn.of (ls := [(0, .ref v0), (1, .int v1)]) (by decide) (fun ξ => Nat.le_of_ble_eq_true rfl) (fun ξ => rfl) ?_
  refine V_iload_n 1 (zdk tbX4_counts_0_ok 0 rfl) rfl ?_
  refine V_iconst (v := 0) (zdk tbX4_counts_0_ok 1 rfl) rfl ?_
  refine V_iconst (v := 4) (zdk tbX4_counts_0_ok 2 rfl) rfl ?_
  obtain ⟨μ2, r3, q1, h⟩ := bd2_some h
  refine V_callN (R1 := (rmd 1)) (As := [.int v1, .int (0 : Int32), .int (4 : Int32)]) (r := (some (.int r3))) (zdk tbX4_counts_0_ok 3 rfl) sC4_51 (tX6_isIn q1) rfl rfl ⟨Nat.le_of_ble_eq_true rfl, Nat.le_of_ble_eq_true rfl⟩ (Nat.le_of_ble_eq_true rfl) ⟨rfl, rfl⟩ id ?_
  refine V_if_eq (tgt := 25) (zdk tbX4_counts_0_ok 4 rfl) (by decide) (fun c4 => ?_) (fun c4 => ?_)
  · replace h := ite_t h c4
    refine V_sub (ls' := []) [] rfl ?_
    exact tX4_counts_b25  μ2  h
  · replace h := ite_f h c4
    refine V_aload_n 0 (zdk tbX4_counts_0_ok 5 rfl) rfl ?_
    refine V_getI (zdk tbX4_counts_0_ok 6 rfl) c_v0 fF4_37 rfl ?_
    refine V_iload_n 1 (zdk tbX4_counts_0_ok 7 rfl) rfl ?_
    refine V_ishr (zdk tbX4_counts_0_ok 8 rfl) ?_
    refine V_iconst (v := 1) (zdk tbX4_counts_0_ok 9 rfl) rfl ?_
    refine V_iand (zdk tbX4_counts_0_ok 10 rfl) ?_
    refine V_iconst (v := 1) (zdk tbX4_counts_0_ok 11 rfl) rfl ?_
    refine V_icmp_ne (tgt := 25) (zdk tbX4_counts_0_ok 12 rfl) (by decide) (fun c5 => ?_) (fun c5 => ?_)
    · replace h := ite_f h c5
      refine V_sub (ls' := []) [] rfl ?_
      exact tX4_counts_b25  μ2  h
    · replace h := ite_t h c5
      refine V_iconst (v := 1) (zdk tbX4_counts_0_ok 13 rfl) rfl ?_
      refine V_goto (tgt := 26) (zdk tbX4_counts_0_ok 14 rfl) (by decide) ?_
      refine V_sub (ls' := []) [] rfl ?_
      exact tX4_counts_b26 (1 : Int32) μ2  h

-- WhoComplainsCarries$Vow.comeToSigher
def tbX4_comeToSigher_0 : List (Nat × Instr × Nat) := [(0, .iconst (-1), 1), (1, .istore_n 2, 1), (2, .iconst 0, 1), (3, .istore_n 3, 1), (4, .iload_n 3, 1), (5, .aload_n 0, 1), (6, .getfield 18, 3), (9, .if_icmp .ge 36, 3), (12, .iload_n 3, 1), (13, .aload_n 0, 1), (14, .getfield 31, 3), (17, .if_icmp .eq 22, 3), (20, .iload_n 3, 1), (21, .iload_n 1, 1), (22, .if_icmp .eq 17, 3), (25, .aload_n 0, 1), (26, .getfield 11, 3), (29, .iload_n 3, 1), (30, .aaload, 1), (31, .invokevirtual 92, 3), (34, .ifCond .eq 5, 3), (37, .iload_n 3, 1), (38, .istore_n 2, 1), (39, .iinc 3 1, 3), (42, .goto (-38), 3), (45, .iload_n 2, 1), (46, .iconst (-1), 1), (47, .if_icmp .eq 18, 3), (50, .aload_n 0, 1), (51, .iload_n 2, 1), (52, .putfield 31, 3), (55, .aload_n 0, 1), (56, .getfield 11, 3), (59, .iload_n 2, 1), (60, .aaload, 1), (61, .iconst 5, 1), (62, .invokevirtual 73, 3), (65, .return_, 1)]
theorem tbX4_comeToSigher_0_ok : ∀ q ∈ tbX4_comeToSigher_0, decode cX4_comeToSigher q.1 = .ok (q.2.1, q.2.2) := by decide +kernel
theorem wCX1_isSighing : zCW mX1_isSighing 0 := ⟨zin (i := 4) (by decide +kernel) rfl, zin (i := 598) (by decide +kernel) rfl, by decide +kernel, by decide +kernel, by decide +kernel⟩
theorem sC4_92 : zCV RX4 92 mX1_isSighing 0 := ⟨zin (i := 595) (by decide +kernel) rfl, zin (i := 596) (by decide +kernel) rfl, zin (i := 597) (by decide +kernel) rfl, wCX1_isSighing⟩
def fX4_comeToSigher_b39 (g4 : Nat → Int32 → Int32 → Int32 → ZMem → Option (ZMem)) (n : Nat) (v0 : Nat) (v1 : Int32) (v2 : Int32) (v3 : Int32) (μ : ZMem) : Option (ZMem) := (g4 v0 v1 v2 (v3 + (1 : Int32)) μ)
theorem tX4_comeToSigher_b39 {l : Launch} {fr : Bool} {n : Nat} {z : ZMem} {g4 : Nat → Int32 → Int32 → Int32 → ZMem → Option (ZMem)} (hg4 : ∀ (v0 : Nat) (v1 : Int32) (v2 : Int32) (v3 : Int32) (μ : ZMem), isC n 4 v0 = true → g4 v0 v1 v2 v3 μ = some z → V (zkV l mX4_comeToSigher (rmd 3) fr n z) fr 4 [(0, .ref v0), (1, .int v1), (2, .int v2), (3, .int v3)] [] n μ) (v0 : Nat) (v1 : Int32) (v2 : Int32) (v3 : Int32) (μ : ZMem) (c_v0 : isC n 4 v0 = true) (h : fX4_comeToSigher_b39 g4 n v0 v1 v2 v3 μ = some z) : V (zkV l mX4_comeToSigher (rmd 3) fr n z) fr 39 [(0, .ref v0), (1, .int v1), (2, .int v2), (3, .int v3)] [] n μ := by
  unfold fX4_comeToSigher_b39 at h
  refine V_inc (dx := 1) (ls' := [(0, .ref v0), (1, .int v1), (2, .int v2), (3, .int (v3 + (1 : Int32)))]) 3 [1, 2, 3, 0] (zdk tbX4_comeToSigher_0_ok 23 rfl) rfl (Nat.le_of_ble_eq_true rfl) rfl rfl ?_
  refine V_goto (tgt := 4) (zdk tbX4_comeToSigher_0_ok 24 rfl) (by decide) ?_
  exact hg4 v0 v1 v2 (v3 + (1 : Int32)) μ c_v0 h
def fX4_comeToSigher_b65 (n : Nat) (μ : ZMem) : Option (ZMem) := some μ
theorem tX4_comeToSigher_b65 {l : Launch} {fr : Bool} {n : Nat} {z : ZMem} (μ : ZMem) (h : fX4_comeToSigher_b65 n μ = some z) : V (zkV l mX4_comeToSigher (rmd 3) fr n z) fr 65 [] [] n μ := by
  unfold fX4_comeToSigher_b65 at h
  cases h
  exact V_vret (zdk tbX4_comeToSigher_0_ok 37 rfl) rfl rfl
def fX4_comeToSigher_b4 (n : Nat) : Nat → Nat → Int32 → Int32 → Int32 → ZMem → Option (ZMem)
  | 0, _, _, _, _, _ => none
  | k + 1, v0, v1, v2, v3, μ => (if (zI μ v0 1) ≤ v3 then (if v2 = (-1 : Int32) then (fX4_comeToSigher_b65 n  μ) else lt (zpI μ v0 5 v2) (fun μ3 => bd1 (zRc n 102 μ3 v0 0) (fun r5 => chk (inb v2 r5) (bd1 (zRc n 1 μ3 r5 v2.toNatClampNeg) (fun r8 => bd1 (fX1_rest n r8 (5 : Int32) μ3) (fun μ11 => (fX4_comeToSigher_b65 n  μ11))))))) else (if v3 = (zI μ v0 5) then (fX4_comeToSigher_b39 (fX4_comeToSigher_b4 n k) n v0 v1 v2 v3 μ) else (if v3 = v1 then (fX4_comeToSigher_b39 (fX4_comeToSigher_b4 n k) n v0 v1 v2 v3 μ) else bd1 (zRc n 102 μ v0 0) (fun r14 => chk (inb v3 r14) (bd1 (zRc n 1 μ r14 v3.toNatClampNeg) (fun r17 => bd2 (fX1_isSighing n r17 μ) (fun μ20 r21 => (if r21 = 0 then (fX4_comeToSigher_b39 (fX4_comeToSigher_b4 n k) n v0 v1 v2 v3 μ20) else (fX4_comeToSigher_b39 (fX4_comeToSigher_b4 n k) n v0 v1 v3 v3 μ20)))))))))
theorem tX4_comeToSigher_b4 {l : Launch} {fr : Bool} {n : Nat} {z : ZMem} : ∀ (k : Nat) (v0 : Nat) (v1 : Int32) (v2 : Int32) (v3 : Int32) (μ : ZMem) (c_v0 : isC n 4 v0 = true), fX4_comeToSigher_b4 n k v0 v1 v2 v3 μ = some z → V (zkV l mX4_comeToSigher (rmd 3) fr n z) fr 4 [(0, .ref v0), (1, .int v1), (2, .int v2), (3, .int v3)] [] n μ := by
  intro k
  induction k with
  | zero =>
    intro v0 v1 v2 v3 μ c_v0 h
    unfold fX4_comeToSigher_b4 at h
    cases h
  | succ k ih =>
    intro v0 v1 v2 v3 μ c_v0 h
    unfold fX4_comeToSigher_b4 at h
    refine V_iload_n 3 (zdk tbX4_comeToSigher_0_ok 4 rfl) rfl ?_
    refine V_aload_n 0 (zdk tbX4_comeToSigher_0_ok 5 rfl) rfl ?_
    refine V_getI (zdk tbX4_comeToSigher_0_ok 6 rfl) c_v0 fF4_18 rfl ?_
    refine V_icmp_ge (tgt := 45) (zdk tbX4_comeToSigher_0_ok 7 rfl) (by decide) (fun c1 => ?_) (fun c1 => ?_)
    · replace h := ite_t h c1
      refine V_iload_n 2 (zdk tbX4_comeToSigher_0_ok 25 rfl) rfl ?_
      refine V_iconst (v := (-1)) (zdk tbX4_comeToSigher_0_ok 26 rfl) rfl ?_
      refine V_icmp_eq (tgt := 65) (zdk tbX4_comeToSigher_0_ok 27 rfl) (by decide) (fun c2 => ?_) (fun c2 => ?_)
      · replace h := ite_t h c2
        refine V_sub (ls' := []) [] rfl ?_
        exact tX4_comeToSigher_b65  μ  h
      · replace h := ite_f h c2
        refine V_aload_n 0 (zdk tbX4_comeToSigher_0_ok 28 rfl) rfl ?_
        refine V_iload_n 2 (zdk tbX4_comeToSigher_0_ok 29 rfl) rfl ?_
        obtain ⟨μ3, e4, h⟩ := lt_some h
        refine V_putI (zdk tbX4_comeToSigher_0_ok 30 rfl) c_v0 fF4_31 rfl rfl rfl e4 ?_
        refine V_aload_n 0 (zdk tbX4_comeToSigher_0_ok 31 rfl) rfl ?_
        obtain ⟨r5, q6, h⟩ := bd1_some h
        obtain ⟨q6, c_r5⟩ := zRc_some q6
        refine V_getR (zdk tbX4_comeToSigher_0_ok 32 rfl) c_v0 fF4_11 rfl q6 ?_
        refine V_iload_n 2 (zdk tbX4_comeToSigher_0_ok 33 rfl) rfl ?_
        obtain ⟨b7, h⟩ := chk_some h
        obtain ⟨r8, q9, h⟩ := bd1_some h
        obtain ⟨q9, c_r8⟩ := zRc_some q9
        refine V_aald2 (zdk tbX4_comeToSigher_0_ok 34 rfl) c_r5 b7 q9 ?_
        refine V_iconst (v := 5) (zdk tbX4_comeToSigher_0_ok 35 rfl) rfl ?_
        obtain ⟨μ11, q10, h⟩ := bd1_some h
        refine V_callV (R1 := (rmd 1)) (As := [.int (5 : Int32)]) (r := none) (zdk tbX4_comeToSigher_0_ok 36 rfl) sC4_73 (tX1_rest q10) (c_r8) rfl rfl rfl ⟨Nat.le_of_ble_eq_true rfl, Nat.le_of_ble_eq_true rfl⟩ (Nat.le_of_ble_eq_true rfl) ⟨rfl, rfl⟩ id ?_
        refine V_sub (ls' := []) [] rfl ?_
        exact tX4_comeToSigher_b65  μ11  h
    · replace h := ite_f h c1
      refine V_iload_n 3 (zdk tbX4_comeToSigher_0_ok 8 rfl) rfl ?_
      refine V_aload_n 0 (zdk tbX4_comeToSigher_0_ok 9 rfl) rfl ?_
      refine V_getI (zdk tbX4_comeToSigher_0_ok 10 rfl) c_v0 fF4_31 rfl ?_
      refine V_icmp_eq (tgt := 39) (zdk tbX4_comeToSigher_0_ok 11 rfl) (by decide) (fun c12 => ?_) (fun c12 => ?_)
      · replace h := ite_t h c12
        exact tX4_comeToSigher_b39 (fun v0 v1 v2 v3 μ y0 h => ih v0 v1 v2 v3 μ y0 h) v0 v1 v2 v3 μ c_v0 h
      · replace h := ite_f h c12
        refine V_iload_n 3 (zdk tbX4_comeToSigher_0_ok 12 rfl) rfl ?_
        refine V_iload_n 1 (zdk tbX4_comeToSigher_0_ok 13 rfl) rfl ?_
        refine V_icmp_eq (tgt := 39) (zdk tbX4_comeToSigher_0_ok 14 rfl) (by decide) (fun c13 => ?_) (fun c13 => ?_)
        · replace h := ite_t h c13
          exact tX4_comeToSigher_b39 (fun v0 v1 v2 v3 μ y0 h => ih v0 v1 v2 v3 μ y0 h) v0 v1 v2 v3 μ c_v0 h
        · replace h := ite_f h c13
          refine V_aload_n 0 (zdk tbX4_comeToSigher_0_ok 15 rfl) rfl ?_
          obtain ⟨r14, q15, h⟩ := bd1_some h
          obtain ⟨q15, c_r14⟩ := zRc_some q15
          refine V_getR (zdk tbX4_comeToSigher_0_ok 16 rfl) c_v0 fF4_11 rfl q15 ?_
          refine V_iload_n 3 (zdk tbX4_comeToSigher_0_ok 17 rfl) rfl ?_
          obtain ⟨b16, h⟩ := chk_some h
          obtain ⟨r17, q18, h⟩ := bd1_some h
          obtain ⟨q18, c_r17⟩ := zRc_some q18
          refine V_aald2 (zdk tbX4_comeToSigher_0_ok 18 rfl) c_r14 b16 q18 ?_
          obtain ⟨μ20, r21, q19, h⟩ := bd2_some h
          refine V_callV (R1 := (rmd 2)) (As := []) (r := (some (.int r21))) (zdk tbX4_comeToSigher_0_ok 19 rfl) sC4_92 (tX1_isSighing q19) (c_r17) rfl rfl rfl ⟨Nat.le_of_ble_eq_true rfl, Nat.le_of_ble_eq_true rfl⟩ (Nat.le_of_ble_eq_true rfl) ⟨rfl, rfl⟩ id ?_
          refine V_if_eq (tgt := 39) (zdk tbX4_comeToSigher_0_ok 20 rfl) (by decide) (fun c22 => ?_) (fun c22 => ?_)
          · replace h := ite_t h c22
            exact tX4_comeToSigher_b39 (fun v0 v1 v2 v3 μ y0 h => ih v0 v1 v2 v3 μ y0 h) v0 v1 v2 v3 μ20 c_v0 h
          · replace h := ite_f h c22
            refine V_iload_n 3 (zdk tbX4_comeToSigher_0_ok 21 rfl) rfl ?_
            refine V_istore_n (ls' := [(0, .ref v0), (1, .int v1), (2, .int v3), (3, .int v3)]) [1, 2, 0, 3] (zdk tbX4_comeToSigher_0_ok 22 rfl) (Nat.le_of_ble_eq_true rfl) rfl ?_
            exact tX4_comeToSigher_b39 (fun v0 v1 v2 v3 μ y0 h => ih v0 v1 v2 v3 μ y0 h) v0 v1 v3 v3 μ20 c_v0 h
def fX4_comeToSigher (n : Nat) (v0 : Nat) (v1 : Int32) (μ : ZMem) : Option (ZMem) := chk (isC n 4 v0) ((fX4_comeToSigher_b4 n FU v0 v1 (-1 : Int32) (0 : Int32) μ))
theorem tX4_comeToSigher {l : Launch} {fr : Bool} {n : Nat} {v0 : Nat} {v1 : Int32} {μ : ZMem} {z : ZMem} (h : fX4_comeToSigher n v0 v1 μ = some z) : ZFn l mX4_comeToSigher (rmd 3) [.ref v0, .int v1] fr n μ (fr, n, z, none) := by
  unfold fX4_comeToSigher at h
  obtain ⟨c_v0, h⟩ := chk_some h
  refine ZFn.of (ls := [(0, .ref v0), (1, .int v1)]) (by decide) (fun ξ => Nat.le_of_ble_eq_true rfl) (fun ξ => rfl) ?_
  refine V_iconst (v := (-1)) (zdk tbX4_comeToSigher_0_ok 0 rfl) rfl ?_
  refine V_istore_n (ls' := [(0, .ref v0), (1, .int v1), (2, .int (-1 : Int32))]) [1, 2, 0] (zdk tbX4_comeToSigher_0_ok 1 rfl) (Nat.le_of_ble_eq_true rfl) rfl ?_
  refine V_iconst (v := 0) (zdk tbX4_comeToSigher_0_ok 2 rfl) rfl ?_
  refine V_istore_n (ls' := [(0, .ref v0), (1, .int v1), (2, .int (-1 : Int32)), (3, .int (0 : Int32))]) [1, 2, 3, 0] (zdk tbX4_comeToSigher_0_ok 3 rfl) (Nat.le_of_ble_eq_true rfl) rfl ?_
  exact tX4_comeToSigher_b4 FU v0 v1 (-1 : Int32) (0 : Int32) μ c_v0 h

-- WhoComplainsCarries$Vow.step
def tbX4_step_0 : List (Nat × Instr × Nat) := [(0, .aload_n 0, 1), (1, .invokevirtual 59, 3), (4, .aload_n 0, 1), (5, .iconst 0, 1), (6, .invokevirtual 62, 3), (9, .ifCond .eq 8, 3), (12, .aload_n 0, 1), (13, .iload_n 1, 1), (14, .invokevirtual 66, 3), (17, .aload_n 0, 1), (18, .dup, 1), (19, .getfield 34, 3), (22, .iconst 1, 1), (23, .iadd, 1), (24, .putfield 34, 3), (27, .return_, 1)]
theorem tbX4_step_0_ok : ∀ q ∈ tbX4_step_0, decode cX4_step q.1 = .ok (q.2.1, q.2.2) := by decide +kernel
theorem wCX4_counts : zCW mX4_counts 1 := ⟨zin (i := 3) (by decide +kernel) rfl, zin (i := 590) (by decide +kernel) rfl, by decide +kernel, by decide +kernel, by decide +kernel⟩
theorem sC4_62 : zCV RX4 62 mX4_counts 1 := ⟨zin (i := 587) (by decide +kernel) rfl, zin (i := 588) (by decide +kernel) rfl, zin (i := 589) (by decide +kernel) rfl, wCX4_counts⟩
theorem wCX4_comeToSigher : zCW mX4_comeToSigher 1 := ⟨zin (i := 3) (by decide +kernel) rfl, zin (i := 594) (by decide +kernel) rfl, by decide +kernel, by decide +kernel, by decide +kernel⟩
theorem sC4_66 : zCV RX4 66 mX4_comeToSigher 1 := ⟨zin (i := 591) (by decide +kernel) rfl, zin (i := 593) (by decide +kernel) rfl, zinP (i := 17) (q := (yX4_comeToSigher, 9)) (by decide +kernel) rfl, wCX4_comeToSigher⟩
def fX4_step_b17 (n : Nat) (v0 : Nat) (μ : ZMem) : Option (ZMem) := lt (zpI μ v0 6 ((zI μ v0 6) + (1 : Int32))) (fun μ1 => some μ1)
theorem tX4_step_b17 {l : Launch} {fr : Bool} {n : Nat} {z : ZMem} (v0 : Nat) (μ : ZMem) (c_v0 : isC n 4 v0 = true) (h : fX4_step_b17 n v0 μ = some z) : V (zkV l mX4_step (rmd 4) fr n z) fr 17 [(0, .ref v0)] [] n μ := by
  unfold fX4_step_b17 at h
  refine V_aload_n 0 (zdk tbX4_step_0_ok 9 rfl) rfl ?_
  refine V_dup_r (zdk tbX4_step_0_ok 10 rfl) ?_
  refine V_getI (zdk tbX4_step_0_ok 11 rfl) c_v0 fF4_34 rfl ?_
  refine V_iconst (v := 1) (zdk tbX4_step_0_ok 12 rfl) rfl ?_
  refine V_iadd (zdk tbX4_step_0_ok 13 rfl) ?_
  obtain ⟨μ1, e2, h⟩ := lt_some h
  refine V_putI (zdk tbX4_step_0_ok 14 rfl) c_v0 fF4_34 rfl rfl rfl e2 ?_
  cases h
  exact V_vret (zdk tbX4_step_0_ok 15 rfl) rfl rfl
def fX4_step (n : Nat) (v0 : Nat) (v1 : Int32) (μ : ZMem) : Option (ZMem) := chk (isC n 4 v0) (bd1 (fX4_bearOrRest n v0 μ) (fun μ2 => bd2 (fX4_counts n v0 (0 : Int32) μ2) (fun μ4 r5 => (if r5 = 0 then (fX4_step_b17 n v0 μ4) else bd1 (fX4_comeToSigher n v0 v1 μ4) (fun μ8 => (fX4_step_b17 n v0 μ8))))))
theorem tX4_step {l : Launch} {fr : Bool} {n : Nat} {v0 : Nat} {v1 : Int32} {μ : ZMem} {z : ZMem} (h : fX4_step n v0 v1 μ = some z) : ZFn l mX4_step (rmd 4) [.ref v0, .int v1] fr n μ (fr, n, z, none) := by
  unfold fX4_step at h
  obtain ⟨c_v0, h⟩ := chk_some h
  refine ZFn.of (ls := [(0, .ref v0), (1, .int v1)]) (by decide) (fun ξ => Nat.le_of_ble_eq_true rfl) (fun ξ => rfl) ?_
  refine V_aload_n 0 (zdk tbX4_step_0_ok 0 rfl) rfl ?_
  obtain ⟨μ2, q1, h⟩ := bd1_some h
  refine V_callV (R1 := (rmd 3)) (As := []) (r := none) (zdk tbX4_step_0_ok 1 rfl) sC4_59 (tX4_bearOrRest q1) (c_v0) rfl rfl rfl ⟨Nat.le_of_ble_eq_true rfl, Nat.le_of_ble_eq_true rfl⟩ (Nat.le_of_ble_eq_true rfl) ⟨rfl, rfl⟩ id ?_
  refine V_aload_n 0 (zdk tbX4_step_0_ok 2 rfl) rfl ?_
  refine V_iconst (v := 0) (zdk tbX4_step_0_ok 3 rfl) rfl ?_
  obtain ⟨μ4, r5, q3, h⟩ := bd2_some h
  refine V_callV (R1 := (rmd 2)) (As := [.int (0 : Int32)]) (r := (some (.int r5))) (zdk tbX4_step_0_ok 4 rfl) sC4_62 (tX4_counts q3) (c_v0) rfl rfl rfl ⟨Nat.le_of_ble_eq_true rfl, Nat.le_of_ble_eq_true rfl⟩ (Nat.le_of_ble_eq_true rfl) ⟨rfl, rfl⟩ id ?_
  refine V_if_eq (tgt := 17) (zdk tbX4_step_0_ok 5 rfl) (by decide) (fun c6 => ?_) (fun c6 => ?_)
  · replace h := ite_t h c6
    refine V_sub (ls' := [(0, .ref v0)]) [0] rfl ?_
    exact tX4_step_b17 v0 μ4 c_v0 h
  · replace h := ite_f h c6
    refine V_aload_n 0 (zdk tbX4_step_0_ok 6 rfl) rfl ?_
    refine V_iload_n 1 (zdk tbX4_step_0_ok 7 rfl) rfl ?_
    obtain ⟨μ8, q7, h⟩ := bd1_some h
    refine V_callV (R1 := (rmd 3)) (As := [.int v1]) (r := none) (zdk tbX4_step_0_ok 8 rfl) sC4_66 (tX4_comeToSigher q7) (c_v0) rfl rfl rfl ⟨Nat.le_of_ble_eq_true rfl, Nat.le_of_ble_eq_true rfl⟩ (Nat.le_of_ble_eq_true rfl) ⟨rfl, rfl⟩ id ?_
    refine V_sub (ls' := [(0, .ref v0)]) [0] rfl ?_
    exact tX4_step_b17 v0 μ8 c_v0 h

-- WhoComplainsCarries$Vow.takeSteps
def tbX4_takeSteps_0 : List (Nat × Instr × Nat) := [(0, .iconst 0, 1), (1, .istore_n 2, 1), (2, .iload_n 2, 1), (3, .iload_n 1, 1), (4, .if_icmp .ge 14, 3), (7, .aload_n 0, 1), (8, .iconst (-1), 1), (9, .invokevirtual 55, 3), (12, .iinc 2 1, 3), (15, .goto (-13), 3), (18, .return_, 1)]
theorem tbX4_takeSteps_0_ok : ∀ q ∈ tbX4_takeSteps_0, decode cX4_takeSteps q.1 = .ok (q.2.1, q.2.2) := by decide +kernel
theorem wCX4_step : zCW mX4_step 1 := ⟨zin (i := 3) (by decide +kernel) rfl, zin (i := 566) (by decide +kernel) rfl, by decide +kernel, by decide +kernel, by decide +kernel⟩
theorem sC4_55 : zCV RX4 55 mX4_step 1 := ⟨zin (i := 563) (by decide +kernel) rfl, zin (i := 564) (by decide +kernel) rfl, zin (i := 565) (by decide +kernel) rfl, wCX4_step⟩
def fX4_takeSteps_b2 (n : Nat) : Nat → Nat → Int32 → Int32 → ZMem → Option (ZMem)
  | 0, _, _, _, _ => none
  | k + 1, v0, v1, v2, μ => (if v1 ≤ v2 then some μ else bd1 (fX4_step n v0 (-1 : Int32) μ) (fun μ3 => (fX4_takeSteps_b2 n k v0 v1 (v2 + (1 : Int32)) μ3)))
theorem tX4_takeSteps_b2 {l : Launch} {fr : Bool} {n : Nat} {z : ZMem} : ∀ (k : Nat) (v0 : Nat) (v1 : Int32) (v2 : Int32) (μ : ZMem) (c_v0 : isC n 4 v0 = true), fX4_takeSteps_b2 n k v0 v1 v2 μ = some z → V (zkV l mX4_takeSteps (rmd 5) fr n z) fr 2 [(0, .ref v0), (1, .int v1), (2, .int v2)] [] n μ := by
  intro k
  induction k with
  | zero =>
    intro v0 v1 v2 μ c_v0 h
    unfold fX4_takeSteps_b2 at h
    cases h
  | succ k ih =>
    intro v0 v1 v2 μ c_v0 h
    unfold fX4_takeSteps_b2 at h
    refine V_iload_n 2 (zdk tbX4_takeSteps_0_ok 2 rfl) rfl ?_
    refine V_iload_n 1 (zdk tbX4_takeSteps_0_ok 3 rfl) rfl ?_
    refine V_icmp_ge (tgt := 18) (zdk tbX4_takeSteps_0_ok 4 rfl) (by decide) (fun c1 => ?_) (fun c1 => ?_)
    · replace h := ite_t h c1
      cases h
      exact V_vret (zdk tbX4_takeSteps_0_ok 10 rfl) rfl rfl
    · replace h := ite_f h c1
      refine V_aload_n 0 (zdk tbX4_takeSteps_0_ok 5 rfl) rfl ?_
      refine V_iconst (v := (-1)) (zdk tbX4_takeSteps_0_ok 6 rfl) rfl ?_
      obtain ⟨μ3, q2, h⟩ := bd1_some h
      refine V_callV (R1 := (rmd 4)) (As := [.int (-1 : Int32)]) (r := none) (zdk tbX4_takeSteps_0_ok 7 rfl) sC4_55 (tX4_step q2) (c_v0) rfl rfl rfl ⟨Nat.le_of_ble_eq_true rfl, Nat.le_of_ble_eq_true rfl⟩ (Nat.le_of_ble_eq_true rfl) ⟨rfl, rfl⟩ id ?_
      refine V_inc (dx := 1) (ls' := [(0, .ref v0), (1, .int v1), (2, .int (v2 + (1 : Int32)))]) 2 [1, 2, 0] (zdk tbX4_takeSteps_0_ok 8 rfl) rfl (Nat.le_of_ble_eq_true rfl) rfl rfl ?_
      refine V_goto (tgt := 2) (zdk tbX4_takeSteps_0_ok 9 rfl) (by decide) ?_
      exact ih v0 v1 (v2 + (1 : Int32)) μ3 c_v0 h
def fX4_takeSteps (n : Nat) (v0 : Nat) (v1 : Int32) (μ : ZMem) : Option (ZMem) := chk (isC n 4 v0) ((fX4_takeSteps_b2 n FU v0 v1 (0 : Int32) μ))
theorem tX4_takeSteps {l : Launch} {fr : Bool} {n : Nat} {v0 : Nat} {v1 : Int32} {μ : ZMem} {z : ZMem} (h : fX4_takeSteps n v0 v1 μ = some z) : ZFn l mX4_takeSteps (rmd 5) [.ref v0, .int v1] fr n μ (fr, n, z, none) := by
  unfold fX4_takeSteps at h
  obtain ⟨c_v0, h⟩ := chk_some h
  refine ZFn.of (ls := [(0, .ref v0), (1, .int v1)]) (by decide) (fun ξ => Nat.le_of_ble_eq_true rfl) (fun ξ => rfl) ?_
  refine V_iconst (v := 0) (zdk tbX4_takeSteps_0_ok 0 rfl) rfl ?_
  refine V_istore_n (ls' := [(0, .ref v0), (1, .int v1), (2, .int (0 : Int32))]) [1, 2, 0] (zdk tbX4_takeSteps_0_ok 1 rfl) (Nat.le_of_ble_eq_true rfl) rfl ?_
  exact tX4_takeSteps_b2 FU v0 v1 (0 : Int32) μ c_v0 h

-- WhoComplainsCarries$Vow.stepsToWay
def tbX4_stepsToWay_0 : List (Nat × Instr × Nat) := [(0, .iconst 0, 1), (1, .istore_n 3, 1), (2, .iload_n 3, 1), (3, .iload_n 1, 1), (4, .if_icmp .gt 27, 3), (7, .aload_n 0, 1), (8, .getfield 28, 3), (11, .aload_n 0, 1), (12, .getfield 25, 3), (15, .if_icmp .lt 5, 3), (18, .iload_n 3, 1), (19, .ireturn, 1), (20, .aload_n 0, 1), (21, .iload_n 2, 1), (22, .invokevirtual 55, 3), (25, .iinc 3 1, 3), (28, .goto (-26), 3), (31, .iconst (-1), 1), (32, .ireturn, 1)]
theorem tbX4_stepsToWay_0_ok : ∀ q ∈ tbX4_stepsToWay_0, decode cX4_stepsToWay q.1 = .ok (q.2.1, q.2.2) := by decide +kernel
def fX4_stepsToWay_b2 (n : Nat) : Nat → Nat → Int32 → Int32 → Int32 → ZMem → Option (ZMem × Int32)
  | 0, _, _, _, _, _ => none
  | k + 1, v0, v1, v2, v3, μ => (if v1 < v3 then some (μ, (-1 : Int32)) else (if (zI μ v0 4) < (zI μ v0 3) then bd1 (fX4_step n v0 v2 μ) (fun μ4 => (fX4_stepsToWay_b2 n k v0 v1 v2 (v3 + (1 : Int32)) μ4)) else some (μ, v3)))
theorem tX4_stepsToWay_b2 {l : Launch} {fr : Bool} {n : Nat} {z : ZMem × Int32} : ∀ (k : Nat) (v0 : Nat) (v1 : Int32) (v2 : Int32) (v3 : Int32) (μ : ZMem) (c_v0 : isC n 4 v0 = true), fX4_stepsToWay_b2 n k v0 v1 v2 v3 μ = some z → V (zkI l mX4_stepsToWay (rmd 5) fr n z) fr 2 [(0, .ref v0), (1, .int v1), (2, .int v2), (3, .int v3)] [] n μ := by
  intro k
  induction k with
  | zero =>
    intro v0 v1 v2 v3 μ c_v0 h
    unfold fX4_stepsToWay_b2 at h
    cases h
  | succ k ih =>
    intro v0 v1 v2 v3 μ c_v0 h
    unfold fX4_stepsToWay_b2 at h
    refine V_iload_n 3 (zdk tbX4_stepsToWay_0_ok 2 rfl) rfl ?_
    refine V_iload_n 1 (zdk tbX4_stepsToWay_0_ok 3 rfl) rfl ?_
    refine V_icmp_gt (tgt := 31) (zdk tbX4_stepsToWay_0_ok 4 rfl) (by decide) (fun c1 => ?_) (fun c1 => ?_)
    · replace h := ite_t h c1
      refine V_iconst (v := (-1)) (zdk tbX4_stepsToWay_0_ok 17 rfl) rfl ?_
      cases h
      exact V_iret (zdk tbX4_stepsToWay_0_ok 18 rfl) rfl rfl
    · replace h := ite_f h c1
      refine V_aload_n 0 (zdk tbX4_stepsToWay_0_ok 5 rfl) rfl ?_
      refine V_getI (zdk tbX4_stepsToWay_0_ok 6 rfl) c_v0 fF4_28 rfl ?_
      refine V_aload_n 0 (zdk tbX4_stepsToWay_0_ok 7 rfl) rfl ?_
      refine V_getI (zdk tbX4_stepsToWay_0_ok 8 rfl) c_v0 fF4_25 rfl ?_
      refine V_icmp_lt (tgt := 20) (zdk tbX4_stepsToWay_0_ok 9 rfl) (by decide) (fun c2 => ?_) (fun c2 => ?_)
      · replace h := ite_t h c2
        refine V_aload_n 0 (zdk tbX4_stepsToWay_0_ok 12 rfl) rfl ?_
        refine V_iload_n 2 (zdk tbX4_stepsToWay_0_ok 13 rfl) rfl ?_
        obtain ⟨μ4, q3, h⟩ := bd1_some h
        refine V_callV (R1 := (rmd 4)) (As := [.int v2]) (r := none) (zdk tbX4_stepsToWay_0_ok 14 rfl) sC4_55 (tX4_step q3) (c_v0) rfl rfl rfl ⟨Nat.le_of_ble_eq_true rfl, Nat.le_of_ble_eq_true rfl⟩ (Nat.le_of_ble_eq_true rfl) ⟨rfl, rfl⟩ id ?_
        refine V_inc (dx := 1) (ls' := [(0, .ref v0), (1, .int v1), (2, .int v2), (3, .int (v3 + (1 : Int32)))]) 3 [1, 2, 3, 0] (zdk tbX4_stepsToWay_0_ok 15 rfl) rfl (Nat.le_of_ble_eq_true rfl) rfl rfl ?_
        refine V_goto (tgt := 2) (zdk tbX4_stepsToWay_0_ok 16 rfl) (by decide) ?_
        exact ih v0 v1 v2 (v3 + (1 : Int32)) μ4 c_v0 h
      · replace h := ite_f h c2
        refine V_iload_n 3 (zdk tbX4_stepsToWay_0_ok 10 rfl) rfl ?_
        cases h
        exact V_iret (zdk tbX4_stepsToWay_0_ok 11 rfl) rfl rfl
def fX4_stepsToWay (n : Nat) (v0 : Nat) (v1 : Int32) (v2 : Int32) (μ : ZMem) : Option (ZMem × Int32) := chk (isC n 4 v0) ((fX4_stepsToWay_b2 n FU v0 v1 v2 (0 : Int32) μ))
theorem tX4_stepsToWay {l : Launch} {fr : Bool} {n : Nat} {v0 : Nat} {v1 : Int32} {v2 : Int32} {μ : ZMem} {z : ZMem × Int32} (h : fX4_stepsToWay n v0 v1 v2 μ = some z) : ZFn l mX4_stepsToWay (rmd 5) [.ref v0, .int v1, .int v2] fr n μ (fr, n, z.1, some (.int z.2)) := by
  unfold fX4_stepsToWay at h
  obtain ⟨c_v0, h⟩ := chk_some h
  refine ZFn.of (ls := [(0, .ref v0), (1, .int v1), (2, .int v2)]) (by decide) (fun ξ => Nat.le_of_ble_eq_true rfl) (fun ξ => rfl) ?_
  refine V_iconst (v := 0) (zdk tbX4_stepsToWay_0_ok 0 rfl) rfl ?_
  refine V_istore_n (ls' := [(0, .ref v0), (1, .int v1), (2, .int v2), (3, .int (0 : Int32))]) [1, 2, 3, 0] (zdk tbX4_stepsToWay_0_ok 1 rfl) (Nat.le_of_ble_eq_true rfl) rfl ?_
  exact tX4_stepsToWay_b2 FU v0 v1 v2 (0 : Int32) μ c_v0 h

-- WhoComplainsCarries$Vow.growHeavier
def tbX4_growHeavier_0 : List (Nat × Instr × Nat) := [(0, .aload_n 0, 1), (1, .bipush 99, 2), (3, .aload_n 0, 1), (4, .getfield 22, 3), (7, .iconst 1, 1), (8, .iadd, 1), (9, .invokestatic 80, 3), (12, .putfield 22, 3), (15, .return_, 1)]
theorem tbX4_growHeavier_0_ok : ∀ q ∈ tbX4_growHeavier_0, decode cX4_growHeavier q.1 = .ok (q.2.1, q.2.2) := by decide +kernel
def fX4_growHeavier (n : Nat) (v0 : Nat) (μ : ZMem) : Option (ZMem) := chk (isC n 4 v0) (lt (zpI μ v0 2 (if ((zI μ v0 2) + (1 : Int32)) < (99 : Int32) then ((zI μ v0 2) + (1 : Int32)) else (99 : Int32))) (fun μ1 => some μ1))
theorem tX4_growHeavier {l : Launch} {fr : Bool} {n : Nat} {v0 : Nat} {μ : ZMem} {z : ZMem} (h : fX4_growHeavier n v0 μ = some z) : ZFn l mX4_growHeavier (rmd 1) [.ref v0] fr n μ (fr, n, z, none) := by
  unfold fX4_growHeavier at h
  obtain ⟨c_v0, h⟩ := chk_some h
  refine ZFn.of (ls := [(0, .ref v0)]) (by decide) (fun ξ => Nat.le_of_ble_eq_true rfl) (fun ξ => rfl) ?_
  refine V_aload_n 0 (zdk tbX4_growHeavier_0_ok 0 rfl) rfl ?_
  refine V_bipush (v := 99) (zdk tbX4_growHeavier_0_ok 1 rfl) rfl ?_
  refine V_aload_n 0 (zdk tbX4_growHeavier_0_ok 2 rfl) rfl ?_
  refine V_getI (zdk tbX4_growHeavier_0_ok 3 rfl) c_v0 fF4_22 rfl ?_
  refine V_iconst (v := 1) (zdk tbX4_growHeavier_0_ok 4 rfl) rfl ?_
  refine V_iadd (zdk tbX4_growHeavier_0_ok 5 rfl) ?_
  refine V_min (zdk tbX4_growHeavier_0_ok 6 rfl) wM4_80 wMs_min wMi wMc_min ⟨Nat.le_of_ble_eq_true rfl, Nat.le_of_ble_eq_true rfl⟩ (Nat.le_of_ble_eq_true rfl) ?_
  obtain ⟨μ1, e2, h⟩ := lt_some h
  refine V_putI (zdk tbX4_growHeavier_0_ok 7 rfl) c_v0 fF4_22 rfl rfl rfl e2 ?_
  cases h
  exact V_vret (zdk tbX4_growHeavier_0_ok 8 rfl) rfl rfl

-- WhoComplainsCarries$Vow.hearThatItIsLight
def tbX4_hearThatItIsLight_0 : List (Nat × Instr × Nat) := [(0, .iload_n 1, 1), (1, .aload_n 0, 1), (2, .getfield 31, 3), (5, .if_icmp .eq 11, 3), (8, .aload_n 0, 1), (9, .iload_n 1, 1), (10, .putfield 31, 3), (13, .goto 41, 3), (16, .aload_n 0, 1), (17, .invokevirtual 69, 3), (20, .ifCond .eq 30, 3), (23, .aload_n 0, 1), (24, .getfield 22, 3), (27, .aload_n 0, 1), (28, .getfield 11, 3), (31, .aload_n 0, 1), (32, .getfield 31, 3), (35, .aaload, 1), (36, .getfield 101, 3), (39, .if_icmp .gt 11, 3), (42, .aload_n 0, 1), (43, .iconst (-1), 1), (44, .putfield 31, 3), (47, .goto 7, 3), (50, .aload_n 0, 1), (51, .invokevirtual 98, 3), (54, .return_, 1)]
theorem tbX4_hearThatItIsLight_0_ok : ∀ q ∈ tbX4_hearThatItIsLight_0, decode cX4_hearThatItIsLight q.1 = .ok (q.2.1, q.2.2) := by decide +kernel
theorem wCX4_growHeavier : zCW mX4_growHeavier 0 := ⟨zin (i := 3) (by decide +kernel) rfl, zin (i := 728) (by decide +kernel) rfl, by decide +kernel, by decide +kernel, by decide +kernel⟩
theorem sC4_98 : zCV RX4 98 mX4_growHeavier 0 := ⟨zin (i := 725) (by decide +kernel) rfl, zin (i := 727) (by decide +kernel) rfl, zinP (i := 26) (q := (yX4_growHeavier, 9)) (by decide +kernel) rfl, wCX4_growHeavier⟩
theorem fF4_101 : zF RX4 101 1 2 := ⟨_, rfl, by decide, zin (i := 75) (by decide +kernel) rfl⟩
def fX4_hearThatItIsLight_b54 (n : Nat) (μ : ZMem) : Option (ZMem) := some μ
theorem tX4_hearThatItIsLight_b54 {l : Launch} {fr : Bool} {n : Nat} {z : ZMem} (μ : ZMem) (h : fX4_hearThatItIsLight_b54 n μ = some z) : V (zkV l mX4_hearThatItIsLight (rmd 3) fr n z) fr 54 [] [] n μ := by
  unfold fX4_hearThatItIsLight_b54 at h
  cases h
  exact V_vret (zdk tbX4_hearThatItIsLight_0_ok 26 rfl) rfl rfl
def fX4_hearThatItIsLight_b50 (n : Nat) (v0 : Nat) (μ : ZMem) : Option (ZMem) := bd1 (fX4_growHeavier n v0 μ) (fun μ2 => (fX4_hearThatItIsLight_b54 n  μ2))
theorem tX4_hearThatItIsLight_b50 {l : Launch} {fr : Bool} {n : Nat} {z : ZMem} (v0 : Nat) (μ : ZMem) (c_v0 : isC n 4 v0 = true) (h : fX4_hearThatItIsLight_b50 n v0 μ = some z) : V (zkV l mX4_hearThatItIsLight (rmd 3) fr n z) fr 50 [(0, .ref v0)] [] n μ := by
  unfold fX4_hearThatItIsLight_b50 at h
  refine V_aload_n 0 (zdk tbX4_hearThatItIsLight_0_ok 24 rfl) rfl ?_
  obtain ⟨μ2, q1, h⟩ := bd1_some h
  refine V_callV (R1 := (rmd 1)) (As := []) (r := none) (zdk tbX4_hearThatItIsLight_0_ok 25 rfl) sC4_98 (tX4_growHeavier q1) (c_v0) rfl rfl rfl ⟨Nat.le_of_ble_eq_true rfl, Nat.le_of_ble_eq_true rfl⟩ (Nat.le_of_ble_eq_true rfl) ⟨rfl, rfl⟩ id ?_
  refine V_sub (ls' := []) [] rfl ?_
  exact tX4_hearThatItIsLight_b54  μ2  h
def fX4_hearThatItIsLight (n : Nat) (v0 : Nat) (v1 : Int32) (μ : ZMem) : Option (ZMem) := chk (isC n 4 v0) ((if v1 = (zI μ v0 5) then bd2 (fX4_isBorne n v0 μ) (fun μ3 r4 => (if r4 = 0 then (fX4_hearThatItIsLight_b50 n v0 μ3) else bd1 (zRc n 102 μ3 v0 0) (fun r6 => chk (inb (zI μ3 v0 5) r6) (bd1 (zRc n 1 μ3 r6 (zI μ3 v0 5).toNatClampNeg) (fun r9 => (if (zI μ3 r9 2) < (zI μ3 v0 2) then (fX4_hearThatItIsLight_b50 n v0 μ3) else lt (zpI μ3 v0 5 (-1 : Int32)) (fun μ12 => (fX4_hearThatItIsLight_b54 n  μ12)))))))) else lt (zpI μ v0 5 v1) (fun μ14 => (fX4_hearThatItIsLight_b54 n  μ14))))
theorem tX4_hearThatItIsLight {l : Launch} {fr : Bool} {n : Nat} {v0 : Nat} {v1 : Int32} {μ : ZMem} {z : ZMem} (h : fX4_hearThatItIsLight n v0 v1 μ = some z) : ZFn l mX4_hearThatItIsLight (rmd 3) [.ref v0, .int v1] fr n μ (fr, n, z, none) := by
  unfold fX4_hearThatItIsLight at h
  obtain ⟨c_v0, h⟩ := chk_some h
  refine ZFn.of (ls := [(0, .ref v0), (1, .int v1)]) (by decide) (fun ξ => Nat.le_of_ble_eq_true rfl) (fun ξ => rfl) ?_
  refine V_iload_n 1 (zdk tbX4_hearThatItIsLight_0_ok 0 rfl) rfl ?_
  refine V_aload_n 0 (zdk tbX4_hearThatItIsLight_0_ok 1 rfl) rfl ?_
  refine V_getI (zdk tbX4_hearThatItIsLight_0_ok 2 rfl) c_v0 fF4_31 rfl ?_
  refine V_icmp_eq (tgt := 16) (zdk tbX4_hearThatItIsLight_0_ok 3 rfl) (by decide) (fun c1 => ?_) (fun c1 => ?_)
  · replace h := ite_t h c1
    refine V_aload_n 0 (zdk tbX4_hearThatItIsLight_0_ok 8 rfl) rfl ?_
    obtain ⟨μ3, r4, q2, h⟩ := bd2_some h
    refine V_callV (R1 := (rmd 2)) (As := []) (r := (some (.int r4))) (zdk tbX4_hearThatItIsLight_0_ok 9 rfl) sC4_69 (tX4_isBorne q2) (c_v0) rfl rfl rfl ⟨Nat.le_of_ble_eq_true rfl, Nat.le_of_ble_eq_true rfl⟩ (Nat.le_of_ble_eq_true rfl) ⟨rfl, rfl⟩ id ?_
    refine V_if_eq (tgt := 50) (zdk tbX4_hearThatItIsLight_0_ok 10 rfl) (by decide) (fun c5 => ?_) (fun c5 => ?_)
    · replace h := ite_t h c5
      refine V_sub (ls' := [(0, .ref v0)]) [0] rfl ?_
      exact tX4_hearThatItIsLight_b50 v0 μ3 c_v0 h
    · replace h := ite_f h c5
      refine V_aload_n 0 (zdk tbX4_hearThatItIsLight_0_ok 11 rfl) rfl ?_
      refine V_getI (zdk tbX4_hearThatItIsLight_0_ok 12 rfl) c_v0 fF4_22 rfl ?_
      refine V_aload_n 0 (zdk tbX4_hearThatItIsLight_0_ok 13 rfl) rfl ?_
      obtain ⟨r6, q7, h⟩ := bd1_some h
      obtain ⟨q7, c_r6⟩ := zRc_some q7
      refine V_getR (zdk tbX4_hearThatItIsLight_0_ok 14 rfl) c_v0 fF4_11 rfl q7 ?_
      refine V_aload_n 0 (zdk tbX4_hearThatItIsLight_0_ok 15 rfl) rfl ?_
      refine V_getI (zdk tbX4_hearThatItIsLight_0_ok 16 rfl) c_v0 fF4_31 rfl ?_
      obtain ⟨b8, h⟩ := chk_some h
      obtain ⟨r9, q10, h⟩ := bd1_some h
      obtain ⟨q10, c_r9⟩ := zRc_some q10
      refine V_aald2 (zdk tbX4_hearThatItIsLight_0_ok 17 rfl) c_r6 b8 q10 ?_
      refine V_getI (zdk tbX4_hearThatItIsLight_0_ok 18 rfl) c_r9 fF4_101 rfl ?_
      refine V_icmp_gt (tgt := 50) (zdk tbX4_hearThatItIsLight_0_ok 19 rfl) (by decide) (fun c11 => ?_) (fun c11 => ?_)
      · replace h := ite_t h c11
        refine V_sub (ls' := [(0, .ref v0)]) [0] rfl ?_
        exact tX4_hearThatItIsLight_b50 v0 μ3 c_v0 h
      · replace h := ite_f h c11
        refine V_aload_n 0 (zdk tbX4_hearThatItIsLight_0_ok 20 rfl) rfl ?_
        refine V_iconst (v := (-1)) (zdk tbX4_hearThatItIsLight_0_ok 21 rfl) rfl ?_
        obtain ⟨μ12, e13, h⟩ := lt_some h
        refine V_putI (zdk tbX4_hearThatItIsLight_0_ok 22 rfl) c_v0 fF4_31 rfl rfl rfl e13 ?_
        refine V_goto (tgt := 54) (zdk tbX4_hearThatItIsLight_0_ok 23 rfl) (by decide) ?_
        refine V_sub (ls' := []) [] rfl ?_
        exact tX4_hearThatItIsLight_b54  μ12  h
  · replace h := ite_f h c1
    refine V_aload_n 0 (zdk tbX4_hearThatItIsLight_0_ok 4 rfl) rfl ?_
    refine V_iload_n 1 (zdk tbX4_hearThatItIsLight_0_ok 5 rfl) rfl ?_
    obtain ⟨μ14, e15, h⟩ := lt_some h
    refine V_putI (zdk tbX4_hearThatItIsLight_0_ok 6 rfl) c_v0 fF4_31 rfl rfl rfl e15 ?_
    refine V_goto (tgt := 54) (zdk tbX4_hearThatItIsLight_0_ok 7 rfl) (by decide) ?_
    refine V_sub (ls' := []) [] rfl ?_
    exact tX4_hearThatItIsLight_b54  μ14  h

-- WhoComplainsCarries$Vow.hear
def tbX4_hear_0 : List (Nat × Instr × Nat) := [(0, .iload_n 2, 1), (1, .iconst 5, 1), (2, .if_icmp .ne 9, 3), (5, .aload_n 0, 1), (6, .iload_n 1, 1), (7, .invokevirtual 95, 3), (10, .return_, 1), (11, .aload_n 0, 1), (12, .iload_n 2, 1), (13, .invokevirtual 62, 3), (16, .ifCond .eq 8, 3), (19, .aload_n 0, 1), (20, .iload_n 1, 1), (21, .putfield 31, 3), (24, .iload_n 2, 1), (25, .iconst 1, 1), (26, .if_icmp .ne 7, 3), (29, .aload_n 0, 1), (30, .invokevirtual 98, 3), (33, .return_, 1)]
theorem tbX4_hear_0_ok : ∀ q ∈ tbX4_hear_0, decode cX4_hear q.1 = .ok (q.2.1, q.2.2) := by decide +kernel
theorem wCX4_hearThatItIsLight : zCW mX4_hearThatItIsLight 1 := ⟨zin (i := 3) (by decide +kernel) rfl, zin (i := 724) (by decide +kernel) rfl, by decide +kernel, by decide +kernel, by decide +kernel⟩
theorem sC4_95 : zCV RX4 95 mX4_hearThatItIsLight 1 := ⟨zin (i := 721) (by decide +kernel) rfl, zin (i := 723) (by decide +kernel) rfl, zinP (i := 25) (q := (yX4_hearThatItIsLight, 9)) (by decide +kernel) rfl, wCX4_hearThatItIsLight⟩
def fX4_hear_b33 (n : Nat) (μ : ZMem) : Option (ZMem) := some μ
theorem tX4_hear_b33 {l : Launch} {fr : Bool} {n : Nat} {z : ZMem} (μ : ZMem) (h : fX4_hear_b33 n μ = some z) : V (zkV l mX4_hear (rmd 4) fr n z) fr 33 [] [] n μ := by
  unfold fX4_hear_b33 at h
  cases h
  exact V_vret (zdk tbX4_hear_0_ok 19 rfl) rfl rfl
def fX4_hear_b24 (n : Nat) (v0 : Nat) (v2 : Int32) (μ : ZMem) : Option (ZMem) := (if v2 = (1 : Int32) then bd1 (fX4_growHeavier n v0 μ) (fun μ3 => (fX4_hear_b33 n  μ3)) else (fX4_hear_b33 n  μ))
theorem tX4_hear_b24 {l : Launch} {fr : Bool} {n : Nat} {z : ZMem} (v0 : Nat) (v2 : Int32) (μ : ZMem) (c_v0 : isC n 4 v0 = true) (h : fX4_hear_b24 n v0 v2 μ = some z) : V (zkV l mX4_hear (rmd 4) fr n z) fr 24 [(0, .ref v0), (2, .int v2)] [] n μ := by
  unfold fX4_hear_b24 at h
  refine V_iload_n 1 (zdk tbX4_hear_0_ok 14 rfl) rfl ?_
  refine V_iconst (v := 1) (zdk tbX4_hear_0_ok 15 rfl) rfl ?_
  refine V_icmp_ne (tgt := 33) (zdk tbX4_hear_0_ok 16 rfl) (by decide) (fun c1 => ?_) (fun c1 => ?_)
  · replace h := ite_f h c1
    refine V_sub (ls' := []) [] rfl ?_
    exact tX4_hear_b33  μ  h
  · replace h := ite_t h c1
    refine V_aload_n 0 (zdk tbX4_hear_0_ok 17 rfl) rfl ?_
    obtain ⟨μ3, q2, h⟩ := bd1_some h
    refine V_callV (R1 := (rmd 1)) (As := []) (r := none) (zdk tbX4_hear_0_ok 18 rfl) sC4_98 (tX4_growHeavier q2) (c_v0) rfl rfl rfl ⟨Nat.le_of_ble_eq_true rfl, Nat.le_of_ble_eq_true rfl⟩ (Nat.le_of_ble_eq_true rfl) ⟨rfl, rfl⟩ id ?_
    refine V_sub (ls' := []) [] rfl ?_
    exact tX4_hear_b33  μ3  h
def fX4_hear (n : Nat) (v0 : Nat) (v1 : Int32) (v2 : Int32) (μ : ZMem) : Option (ZMem) := chk (isC n 4 v0) ((if v2 = (5 : Int32) then bd1 (fX4_hearThatItIsLight n v0 v1 μ) (fun μ9 => some μ9) else bd2 (fX4_counts n v0 v2 μ) (fun μ3 r4 => (if r4 = 0 then (fX4_hear_b24 n v0 v2 μ3) else lt (zpI μ3 v0 5 v1) (fun μ6 => (fX4_hear_b24 n v0 v2 μ6))))))
theorem tX4_hear {l : Launch} {fr : Bool} {n : Nat} {v0 : Nat} {v1 : Int32} {v2 : Int32} {μ : ZMem} {z : ZMem} (h : fX4_hear n v0 v1 v2 μ = some z) : ZFn l mX4_hear (rmd 4) [.ref v0, .int v1, .int v2] fr n μ (fr, n, z, none) := by
  unfold fX4_hear at h
  obtain ⟨c_v0, h⟩ := chk_some h
  refine ZFn.of (ls := [(0, .ref v0), (1, .int v1), (2, .int v2)]) (by decide) (fun ξ => Nat.le_of_ble_eq_true rfl) (fun ξ => rfl) ?_
  refine V_iload_n 2 (zdk tbX4_hear_0_ok 0 rfl) rfl ?_
  refine V_iconst (v := 5) (zdk tbX4_hear_0_ok 1 rfl) rfl ?_
  refine V_icmp_ne (tgt := 11) (zdk tbX4_hear_0_ok 2 rfl) (by decide) (fun c1 => ?_) (fun c1 => ?_)
  · replace h := ite_f h c1
    refine V_aload_n 0 (zdk tbX4_hear_0_ok 7 rfl) rfl ?_
    refine V_iload_n 2 (zdk tbX4_hear_0_ok 8 rfl) rfl ?_
    obtain ⟨μ3, r4, q2, h⟩ := bd2_some h
    refine V_callV (R1 := (rmd 2)) (As := [.int v2]) (r := (some (.int r4))) (zdk tbX4_hear_0_ok 9 rfl) sC4_62 (tX4_counts q2) (c_v0) rfl rfl rfl ⟨Nat.le_of_ble_eq_true rfl, Nat.le_of_ble_eq_true rfl⟩ (Nat.le_of_ble_eq_true rfl) ⟨rfl, rfl⟩ id ?_
    refine V_if_eq (tgt := 24) (zdk tbX4_hear_0_ok 10 rfl) (by decide) (fun c5 => ?_) (fun c5 => ?_)
    · replace h := ite_t h c5
      refine V_sub (ls' := [(0, .ref v0), (2, .int v2)]) [0, 2] rfl ?_
      exact tX4_hear_b24 v0 v2 μ3 c_v0 h
    · replace h := ite_f h c5
      refine V_aload_n 0 (zdk tbX4_hear_0_ok 11 rfl) rfl ?_
      refine V_iload_n 1 (zdk tbX4_hear_0_ok 12 rfl) rfl ?_
      obtain ⟨μ6, e7, h⟩ := lt_some h
      refine V_putI (zdk tbX4_hear_0_ok 13 rfl) c_v0 fF4_31 rfl rfl rfl e7 ?_
      refine V_sub (ls' := [(0, .ref v0), (2, .int v2)]) [0, 2] rfl ?_
      exact tX4_hear_b24 v0 v2 μ6 c_v0 h
  · replace h := ite_t h c1
    refine V_aload_n 0 (zdk tbX4_hear_0_ok 3 rfl) rfl ?_
    refine V_iload_n 1 (zdk tbX4_hear_0_ok 4 rfl) rfl ?_
    obtain ⟨μ9, q8, h⟩ := bd1_some h
    refine V_callV (R1 := (rmd 3)) (As := [.int v1]) (r := none) (zdk tbX4_hear_0_ok 5 rfl) sC4_95 (tX4_hearThatItIsLight q8) (c_v0) rfl rfl rfl ⟨Nat.le_of_ble_eq_true rfl, Nat.le_of_ble_eq_true rfl⟩ (Nat.le_of_ble_eq_true rfl) ⟨rfl, rfl⟩ id ?_
    cases h
    exact V_vret (zdk tbX4_hear_0_ok 6 rfl) rfl rfl

-- WhoComplainsCarries$Vow.hearTalk
def tbX4_hearTalk_0 : List (Nat × Instr × Nat) := [(0, .iconst 0, 1), (1, .istore_n 3, 1), (2, .iload_n 3, 1), (3, .iload_n 2, 1), (4, .if_icmp .ge 35, 3), (7, .aload_n 1, 1), (8, .iload_n 3, 1), (9, .invokevirtual 104, 3), (12, .istore 4, 2), (14, .aload_n 0, 1), (15, .iload 4, 2), (17, .bipush 10, 2), (19, .idiv, 1), (20, .iload 4, 2), (22, .bipush 10, 2), (24, .irem, 1), (25, .invokevirtual 109, 3), (28, .aload_n 0, 1), (29, .iconst (-1), 1), (30, .invokevirtual 55, 3), (33, .iinc 3 1, 3), (36, .goto (-34), 3), (39, .return_, 1)]
theorem tbX4_hearTalk_0_ok : ∀ q ∈ tbX4_hearTalk_0, decode cX4_hearTalk q.1 = .ok (q.2.1, q.2.2) := by decide +kernel
theorem wCX3_intAt : zCW mX3_intAt 1 := ⟨zin (i := 2) (by decide +kernel) rfl, zin (i := 422) (by decide +kernel) rfl, by decide +kernel, by decide +kernel, by decide +kernel⟩
theorem sC4_104 : zCV RX4 104 mX3_intAt 1 := ⟨zin (i := 716) (by decide +kernel) rfl, zin (i := 420) (by decide +kernel) rfl, zin (i := 421) (by decide +kernel) rfl, wCX3_intAt⟩
theorem wCX4_hear : zCW mX4_hear 2 := ⟨zin (i := 3) (by decide +kernel) rfl, zin (i := 720) (by decide +kernel) rfl, by decide +kernel, by decide +kernel, by decide +kernel⟩
theorem sC4_109 : zCV RX4 109 mX4_hear 2 := ⟨zin (i := 717) (by decide +kernel) rfl, zin (i := 718) (by decide +kernel) rfl, zin (i := 719) (by decide +kernel) rfl, wCX4_hear⟩
def fX4_hearTalk_b2 (n : Nat) : Nat → Nat → Nat → Int32 → Int32 → ZMem → Option (ZMem)
  | 0, _, _, _, _, _ => none
  | k + 1, v0, v1, v2, v3, μ => (if v2 ≤ v3 then some μ else bd2 (fX3_intAt n v1 v3 μ) (fun μ3 r4 => bd1 (fX4_hear n v0 (r4 / (10 : Int32)) (r4 - r4 / (10 : Int32) * (10 : Int32)) μ3) (fun μ8 => bd1 (fX4_step n v0 (-1 : Int32) μ8) (fun μ10 => (fX4_hearTalk_b2 n k v0 v1 v2 (v3 + (1 : Int32)) μ10)))))
theorem tX4_hearTalk_b2 {l : Launch} {fr : Bool} {n : Nat} {z : ZMem} : ∀ (k : Nat) (v0 : Nat) (v1 : Nat) (v2 : Int32) (v3 : Int32) (μ : ZMem) (c_v0 : isC n 4 v0 = true) (c_v1 : isC n 3 v1 = true), fX4_hearTalk_b2 n k v0 v1 v2 v3 μ = some z → V (zkV l mX4_hearTalk (rmd 5) fr n z) fr 2 [(0, .ref v0), (1, .ref v1), (2, .int v2), (3, .int v3)] [] n μ := by
  intro k
  induction k with
  | zero =>
    intro v0 v1 v2 v3 μ c_v0 c_v1 h
    unfold fX4_hearTalk_b2 at h
    cases h
  | succ k ih =>
    intro v0 v1 v2 v3 μ c_v0 c_v1 h
    unfold fX4_hearTalk_b2 at h
    refine V_iload_n 3 (zdk tbX4_hearTalk_0_ok 2 rfl) rfl ?_
    refine V_iload_n 2 (zdk tbX4_hearTalk_0_ok 3 rfl) rfl ?_
    refine V_icmp_ge (tgt := 39) (zdk tbX4_hearTalk_0_ok 4 rfl) (by decide) (fun c1 => ?_) (fun c1 => ?_)
    · replace h := ite_t h c1
      cases h
      exact V_vret (zdk tbX4_hearTalk_0_ok 22 rfl) rfl rfl
    · replace h := ite_f h c1
      refine V_aload_n 1 (zdk tbX4_hearTalk_0_ok 5 rfl) rfl ?_
      refine V_iload_n 3 (zdk tbX4_hearTalk_0_ok 6 rfl) rfl ?_
      obtain ⟨μ3, r4, q2, h⟩ := bd2_some h
      refine V_callV (R1 := (rmd 4)) (As := [.int v3]) (r := (some (.int r4))) (zdk tbX4_hearTalk_0_ok 7 rfl) sC4_104 (tX3_intAt q2) (c_v1) rfl rfl rfl ⟨Nat.le_of_ble_eq_true rfl, Nat.le_of_ble_eq_true rfl⟩ (Nat.le_of_ble_eq_true rfl) ⟨rfl, rfl⟩ id ?_
      refine V_istore (ls' := [(0, .ref v0), (1, .ref v1), (2, .int v2), (3, .int v3), (4, .int r4)]) [1, 2, 3, 4, 0] (zdk tbX4_hearTalk_0_ok 8 rfl) (Nat.le_of_ble_eq_true rfl) rfl ?_
      refine V_aload_n 0 (zdk tbX4_hearTalk_0_ok 9 rfl) rfl ?_
      refine V_iload 4 (zdk tbX4_hearTalk_0_ok 10 rfl) rfl ?_
      refine V_bipush (v := 10) (zdk tbX4_hearTalk_0_ok 11 rfl) rfl ?_
      refine V_idiv (zdk tbX4_hearTalk_0_ok 12 rfl) (by decide) ?_
      refine V_iload 4 (zdk tbX4_hearTalk_0_ok 13 rfl) rfl ?_
      refine V_bipush (v := 10) (zdk tbX4_hearTalk_0_ok 14 rfl) rfl ?_
      refine V_irem (zdk tbX4_hearTalk_0_ok 15 rfl) (by decide) ?_
      obtain ⟨μ8, q7, h⟩ := bd1_some h
      refine V_callV (R1 := (rmd 4)) (As := [.int (r4 / (10 : Int32)), .int (r4 - r4 / (10 : Int32) * (10 : Int32))]) (r := none) (zdk tbX4_hearTalk_0_ok 16 rfl) sC4_109 (tX4_hear q7) (c_v0) rfl rfl rfl ⟨Nat.le_of_ble_eq_true rfl, Nat.le_of_ble_eq_true rfl⟩ (Nat.le_of_ble_eq_true rfl) ⟨rfl, rfl⟩ id ?_
      refine V_aload_n 0 (zdk tbX4_hearTalk_0_ok 17 rfl) rfl ?_
      refine V_iconst (v := (-1)) (zdk tbX4_hearTalk_0_ok 18 rfl) rfl ?_
      obtain ⟨μ10, q9, h⟩ := bd1_some h
      refine V_callV (R1 := (rmd 4)) (As := [.int (-1 : Int32)]) (r := none) (zdk tbX4_hearTalk_0_ok 19 rfl) sC4_55 (tX4_step q9) (c_v0) rfl rfl rfl ⟨Nat.le_of_ble_eq_true rfl, Nat.le_of_ble_eq_true rfl⟩ (Nat.le_of_ble_eq_true rfl) ⟨rfl, rfl⟩ id ?_
      refine V_inc (dx := 1) (ls' := [(0, .ref v0), (1, .ref v1), (2, .int v2), (3, .int (v3 + (1 : Int32)))]) 3 [1, 2, 3, 0] (zdk tbX4_hearTalk_0_ok 20 rfl) rfl (Nat.le_of_ble_eq_true rfl) rfl rfl ?_
      refine V_goto (tgt := 2) (zdk tbX4_hearTalk_0_ok 21 rfl) (by decide) ?_
      exact ih v0 v1 v2 (v3 + (1 : Int32)) μ10 c_v0 c_v1 h
def fX4_hearTalk (n : Nat) (v0 : Nat) (v1 : Nat) (v2 : Int32) (μ : ZMem) : Option (ZMem) := chk (isC n 4 v0) (chk (isC n 3 v1) ((fX4_hearTalk_b2 n FU v0 v1 v2 (0 : Int32) μ)))
theorem tX4_hearTalk {l : Launch} {fr : Bool} {n : Nat} {v0 : Nat} {v1 : Nat} {v2 : Int32} {μ : ZMem} {z : ZMem} (h : fX4_hearTalk n v0 v1 v2 μ = some z) : ZFn l mX4_hearTalk (rmd 5) [.ref v0, .ref v1, .int v2] fr n μ (fr, n, z, none) := by
  unfold fX4_hearTalk at h
  obtain ⟨c_v0, h⟩ := chk_some h
  obtain ⟨c_v1, h⟩ := chk_some h
  refine ZFn.of (ls := [(0, .ref v0), (1, .ref v1), (2, .int v2)]) (by decide) (fun ξ => Nat.le_of_ble_eq_true rfl) (fun ξ => rfl) ?_
  refine V_iconst (v := 0) (zdk tbX4_hearTalk_0_ok 0 rfl) rfl ?_
  refine V_istore_n (ls' := [(0, .ref v0), (1, .ref v1), (2, .int v2), (3, .int (0 : Int32))]) [1, 2, 3, 0] (zdk tbX4_hearTalk_0_ok 1 rfl) (Nat.le_of_ble_eq_true rfl) rfl ?_
  exact tX4_hearTalk_b2 FU v0 v1 v2 (0 : Int32) μ c_v0 c_v1 h

-- WhoComplainsCarries$Vow.draw
def tbX4_draw_0 : List (Nat × Instr × Nat) := [(0, .aload_n 0, 1), (1, .aload_n 0, 1), (2, .getfield 40, 3), (5, .ldc 116, 2), (7, .imul, 1), (8, .sipush 12345, 3), (11, .iadd, 1), (12, .putfield 40, 3), (15, .iload_n 1, 1), (16, .iconst 1, 1), (17, .if_icmp .ge 7, 3), (20, .iconst 0, 1), (21, .goto 12, 3), (24, .aload_n 0, 1), (25, .getfield 40, 3), (28, .bipush 16, 2), (30, .iushr, 1), (31, .iload_n 1, 1), (32, .irem, 1), (33, .ireturn, 1)]
theorem tbX4_draw_0_ok : ∀ q ∈ tbX4_draw_0, decode cX4_draw q.1 = .ok (q.2.1, q.2.2) := by decide +kernel
theorem wK4_116 : Cond.constant RX4 116 1103515245 ∈ zT := zin (i := 754) (by decide +kernel) rfl
def fX4_draw_b33 (n : Nat) (s0 : Int32) (μ : ZMem) : Option (ZMem × Int32) := some (μ, s0)
theorem tX4_draw_b33 {l : Launch} {fr : Bool} {n : Nat} {z : ZMem × Int32} (s0 : Int32) (μ : ZMem) (h : fX4_draw_b33 n s0 μ = some z) : V (zkI l mX4_draw (rmd 1) fr n z) fr 33 [] [.int s0] n μ := by
  unfold fX4_draw_b33 at h
  cases h
  exact V_iret (zdk tbX4_draw_0_ok 19 rfl) rfl rfl
def fX4_draw (n : Nat) (v0 : Nat) (v1 : Int32) (μ : ZMem) : Option (ZMem × Int32) := chk (isC n 4 v0) (lt (zpI μ v0 8 (((zI μ v0 8) * (1103515245 : Int32)) + (12345 : Int32))) (fun μ1 => (if (1 : Int32) ≤ v1 then chk (!decide (v1 = 0)) ((fX4_draw_b33 n (((zI μ1 v0 8).toUInt32 >>> ((16 : Int32).toUInt32 &&& Int32.toUInt32 31)).toInt32 - ((zI μ1 v0 8).toUInt32 >>> ((16 : Int32).toUInt32 &&& Int32.toUInt32 31)).toInt32 / v1 * v1) μ1)) else (fX4_draw_b33 n (0 : Int32) μ1))))
theorem tX4_draw {l : Launch} {fr : Bool} {n : Nat} {v0 : Nat} {v1 : Int32} {μ : ZMem} {z : ZMem × Int32} (h : fX4_draw n v0 v1 μ = some z) : ZFn l mX4_draw (rmd 1) [.ref v0, .int v1] fr n μ (fr, n, z.1, some (.int z.2)) := by
  unfold fX4_draw at h
  obtain ⟨c_v0, h⟩ := chk_some h
  refine ZFn.of (ls := [(0, .ref v0), (1, .int v1)]) (by decide) (fun ξ => Nat.le_of_ble_eq_true rfl) (fun ξ => rfl) ?_
  refine V_aload_n 0 (zdk tbX4_draw_0_ok 0 rfl) rfl ?_
  refine V_aload_n 0 (zdk tbX4_draw_0_ok 1 rfl) rfl ?_
  refine V_getI (zdk tbX4_draw_0_ok 2 rfl) c_v0 fF4_40 rfl ?_
  refine V_ldc (v := 1103515245) (zdk tbX4_draw_0_ok 3 rfl) wK4_116 ?_
  refine V_imul (zdk tbX4_draw_0_ok 4 rfl) ?_
  refine V_sipush (v := 12345) (zdk tbX4_draw_0_ok 5 rfl) rfl ?_
  refine V_iadd (zdk tbX4_draw_0_ok 6 rfl) ?_
  obtain ⟨μ1, e2, h⟩ := lt_some h
  refine V_putI (zdk tbX4_draw_0_ok 7 rfl) c_v0 fF4_40 rfl rfl rfl e2 ?_
  refine V_iload_n 1 (zdk tbX4_draw_0_ok 8 rfl) rfl ?_
  refine V_iconst (v := 1) (zdk tbX4_draw_0_ok 9 rfl) rfl ?_
  refine V_icmp_ge (tgt := 24) (zdk tbX4_draw_0_ok 10 rfl) (by decide) (fun c3 => ?_) (fun c3 => ?_)
  · replace h := ite_t h c3
    refine V_aload_n 0 (zdk tbX4_draw_0_ok 13 rfl) rfl ?_
    refine V_getI (zdk tbX4_draw_0_ok 14 rfl) c_v0 fF4_40 rfl ?_
    refine V_bipush (v := 16) (zdk tbX4_draw_0_ok 15 rfl) rfl ?_
    refine V_iushr (zdk tbX4_draw_0_ok 16 rfl) rfl ?_
    refine V_iload_n 1 (zdk tbX4_draw_0_ok 17 rfl) rfl ?_
    obtain ⟨d4, h⟩ := chk_some h
    refine V_irem (zdk tbX4_draw_0_ok 18 rfl) (nz_of d4) ?_
    refine V_sub (ls' := []) [] rfl ?_
    exact tX4_draw_b33 (((zI μ1 v0 8).toUInt32 >>> ((16 : Int32).toUInt32 &&& Int32.toUInt32 31)).toInt32 - ((zI μ1 v0 8).toUInt32 >>> ((16 : Int32).toUInt32 &&& Int32.toUInt32 31)).toInt32 / v1 * v1) μ1  h
  · replace h := ite_f h c3
    refine V_iconst (v := 0) (zdk tbX4_draw_0_ok 11 rfl) rfl ?_
    refine V_goto (tgt := 33) (zdk tbX4_draw_0_ok 12 rfl) (by decide) ?_
    refine V_sub (ls' := []) [] rfl ?_
    exact tX4_draw_b33 (0 : Int32) μ1  h

-- WhoComplainsCarries$Vow.passDay
def tbX4_passDay_0 : List (Nat × Instr × Nat) := [(0, .aload_n 0, 1), (1, .aload_n 0, 1), (2, .getfield 18, 3), (5, .invokevirtual 113, 3), (8, .istore_n 1, 1), (9, .aload_n 0, 1), (10, .bipush 12, 2), (12, .invokevirtual 113, 3), (15, .istore_n 2, 1), (16, .iload_n 2, 1), (17, .iconst 5, 1), (18, .if_icmp .gt 9, 3), (21, .aload_n 0, 1), (22, .iload_n 1, 1), (23, .iload_n 2, 1), (24, .invokevirtual 109, 3), (27, .aload_n 0, 1), (28, .iconst (-1), 1), (29, .invokevirtual 55, 3), (32, .return_, 1)]
theorem tbX4_passDay_0_ok : ∀ q ∈ tbX4_passDay_0, decode cX4_passDay q.1 = .ok (q.2.1, q.2.2) := by decide +kernel
theorem wCX4_draw : zCW mX4_draw 1 := ⟨zin (i := 3) (by decide +kernel) rfl, zin (i := 753) (by decide +kernel) rfl, by decide +kernel, by decide +kernel, by decide +kernel⟩
theorem sC4_113 : zCV RX4 113 mX4_draw 1 := ⟨zin (i := 750) (by decide +kernel) rfl, zin (i := 752) (by decide +kernel) rfl, zinP (i := 27) (q := (yX4_draw, 9)) (by decide +kernel) rfl, wCX4_draw⟩
def fX4_passDay_b27 (n : Nat) (v0 : Nat) (μ : ZMem) : Option (ZMem) := bd1 (fX4_step n v0 (-1 : Int32) μ) (fun μ2 => some μ2)
theorem tX4_passDay_b27 {l : Launch} {fr : Bool} {n : Nat} {z : ZMem} (v0 : Nat) (μ : ZMem) (c_v0 : isC n 4 v0 = true) (h : fX4_passDay_b27 n v0 μ = some z) : V (zkV l mX4_passDay (rmd 5) fr n z) fr 27 [(0, .ref v0)] [] n μ := by
  unfold fX4_passDay_b27 at h
  refine V_aload_n 0 (zdk tbX4_passDay_0_ok 16 rfl) rfl ?_
  refine V_iconst (v := (-1)) (zdk tbX4_passDay_0_ok 17 rfl) rfl ?_
  obtain ⟨μ2, q1, h⟩ := bd1_some h
  refine V_callV (R1 := (rmd 4)) (As := [.int (-1 : Int32)]) (r := none) (zdk tbX4_passDay_0_ok 18 rfl) sC4_55 (tX4_step q1) (c_v0) rfl rfl rfl ⟨Nat.le_of_ble_eq_true rfl, Nat.le_of_ble_eq_true rfl⟩ (Nat.le_of_ble_eq_true rfl) ⟨rfl, rfl⟩ id ?_
  cases h
  exact V_vret (zdk tbX4_passDay_0_ok 19 rfl) rfl rfl
def fX4_passDay (n : Nat) (v0 : Nat) (μ : ZMem) : Option (ZMem) := chk (isC n 4 v0) (bd2 (fX4_draw n v0 (zI μ v0 1) μ) (fun μ2 r3 => bd2 (fX4_draw n v0 (12 : Int32) μ2) (fun μ5 r6 => (if (5 : Int32) < r6 then (fX4_passDay_b27 n v0 μ5) else bd1 (fX4_hear n v0 r3 r6 μ5) (fun μ9 => (fX4_passDay_b27 n v0 μ9))))))
theorem tX4_passDay {l : Launch} {fr : Bool} {n : Nat} {v0 : Nat} {μ : ZMem} {z : ZMem} (h : fX4_passDay n v0 μ = some z) : ZFn l mX4_passDay (rmd 5) [.ref v0] fr n μ (fr, n, z, none) := by
  unfold fX4_passDay at h
  obtain ⟨c_v0, h⟩ := chk_some h
  refine ZFn.of (ls := [(0, .ref v0)]) (by decide) (fun ξ => Nat.le_of_ble_eq_true rfl) (fun ξ => rfl) ?_
  refine V_aload_n 0 (zdk tbX4_passDay_0_ok 0 rfl) rfl ?_
  refine V_aload_n 0 (zdk tbX4_passDay_0_ok 1 rfl) rfl ?_
  refine V_getI (zdk tbX4_passDay_0_ok 2 rfl) c_v0 fF4_18 rfl ?_
  obtain ⟨μ2, r3, q1, h⟩ := bd2_some h
  refine V_callV (R1 := (rmd 1)) (As := [.int (zI μ v0 1)]) (r := (some (.int r3))) (zdk tbX4_passDay_0_ok 3 rfl) sC4_113 (tX4_draw q1) (c_v0) rfl rfl rfl ⟨Nat.le_of_ble_eq_true rfl, Nat.le_of_ble_eq_true rfl⟩ (Nat.le_of_ble_eq_true rfl) ⟨rfl, rfl⟩ id ?_
  refine V_istore_n (ls' := [(0, .ref v0), (1, .int r3)]) [1, 0] (zdk tbX4_passDay_0_ok 4 rfl) (Nat.le_of_ble_eq_true rfl) rfl ?_
  refine V_aload_n 0 (zdk tbX4_passDay_0_ok 5 rfl) rfl ?_
  refine V_bipush (v := 12) (zdk tbX4_passDay_0_ok 6 rfl) rfl ?_
  obtain ⟨μ5, r6, q4, h⟩ := bd2_some h
  refine V_callV (R1 := (rmd 1)) (As := [.int (12 : Int32)]) (r := (some (.int r6))) (zdk tbX4_passDay_0_ok 7 rfl) sC4_113 (tX4_draw q4) (c_v0) rfl rfl rfl ⟨Nat.le_of_ble_eq_true rfl, Nat.le_of_ble_eq_true rfl⟩ (Nat.le_of_ble_eq_true rfl) ⟨rfl, rfl⟩ id ?_
  refine V_istore_n (ls' := [(0, .ref v0), (1, .int r3), (2, .int r6)]) [1, 2, 0] (zdk tbX4_passDay_0_ok 8 rfl) (Nat.le_of_ble_eq_true rfl) rfl ?_
  refine V_iload_n 2 (zdk tbX4_passDay_0_ok 9 rfl) rfl ?_
  refine V_iconst (v := 5) (zdk tbX4_passDay_0_ok 10 rfl) rfl ?_
  refine V_icmp_gt (tgt := 27) (zdk tbX4_passDay_0_ok 11 rfl) (by decide) (fun c7 => ?_) (fun c7 => ?_)
  · replace h := ite_t h c7
    refine V_sub (ls' := [(0, .ref v0)]) [0] rfl ?_
    exact tX4_passDay_b27 v0 μ5 c_v0 h
  · replace h := ite_f h c7
    refine V_aload_n 0 (zdk tbX4_passDay_0_ok 12 rfl) rfl ?_
    refine V_iload_n 1 (zdk tbX4_passDay_0_ok 13 rfl) rfl ?_
    refine V_iload_n 2 (zdk tbX4_passDay_0_ok 14 rfl) rfl ?_
    obtain ⟨μ9, q8, h⟩ := bd1_some h
    refine V_callV (R1 := (rmd 4)) (As := [.int r3, .int r6]) (r := none) (zdk tbX4_passDay_0_ok 15 rfl) sC4_109 (tX4_hear q8) (c_v0) rfl rfl rfl ⟨Nat.le_of_ble_eq_true rfl, Nat.le_of_ble_eq_true rfl⟩ (Nat.le_of_ble_eq_true rfl) ⟨rfl, rfl⟩ id ?_
    refine V_sub (ls' := [(0, .ref v0)]) [0] rfl ?_
    exact tX4_passDay_b27 v0 μ9 c_v0 h

-- WhoComplainsCarries$Vow.tiredTogether
def tbX4_tiredTogether_0 : List (Nat × Instr × Nat) := [(0, .iconst 0, 1), (1, .istore_n 1, 1), (2, .iconst 0, 1), (3, .istore_n 2, 1), (4, .iload_n 2, 1), (5, .aload_n 0, 1), (6, .getfield 18, 3), (9, .if_icmp .ge 21, 3), (12, .iload_n 1, 1), (13, .aload_n 0, 1), (14, .getfield 11, 3), (17, .iload_n 2, 1), (18, .aaload, 1), (19, .getfield 117, 3), (22, .iadd, 1), (23, .istore_n 1, 1), (24, .iinc 2 1, 3), (27, .goto (-23), 3), (30, .iload_n 1, 1), (31, .ireturn, 1)]
theorem tbX4_tiredTogether_0_ok : ∀ q ∈ tbX4_tiredTogether_0, decode cX4_tiredTogether q.1 = .ok (q.2.1, q.2.2) := by decide +kernel
def fX4_tiredTogether_b4 (n : Nat) : Nat → Nat → Int32 → Int32 → ZMem → Option (ZMem × Int32)
  | 0, _, _, _, _ => none
  | k + 1, v0, v1, v2, μ => (if (zI μ v0 1) ≤ v2 then some (μ, v1) else bd1 (zRc n 102 μ v0 0) (fun r2 => chk (inb v2 r2) (bd1 (zRc n 1 μ r2 v2.toNatClampNeg) (fun r5 => (fX4_tiredTogether_b4 n k v0 (v1 + (zI μ r5 4)) (v2 + (1 : Int32)) μ)))))
theorem tX4_tiredTogether_b4 {l : Launch} {fr : Bool} {n : Nat} {z : ZMem × Int32} : ∀ (k : Nat) (v0 : Nat) (v1 : Int32) (v2 : Int32) (μ : ZMem) (c_v0 : isC n 4 v0 = true), fX4_tiredTogether_b4 n k v0 v1 v2 μ = some z → V (zkI l mX4_tiredTogether (rmd 1) fr n z) fr 4 [(0, .ref v0), (1, .int v1), (2, .int v2)] [] n μ := by
  intro k
  induction k with
  | zero =>
    intro v0 v1 v2 μ c_v0 h
    unfold fX4_tiredTogether_b4 at h
    cases h
  | succ k ih =>
    intro v0 v1 v2 μ c_v0 h
    unfold fX4_tiredTogether_b4 at h
    refine V_iload_n 2 (zdk tbX4_tiredTogether_0_ok 4 rfl) rfl ?_
    refine V_aload_n 0 (zdk tbX4_tiredTogether_0_ok 5 rfl) rfl ?_
    refine V_getI (zdk tbX4_tiredTogether_0_ok 6 rfl) c_v0 fF4_18 rfl ?_
    refine V_icmp_ge (tgt := 30) (zdk tbX4_tiredTogether_0_ok 7 rfl) (by decide) (fun c1 => ?_) (fun c1 => ?_)
    · replace h := ite_t h c1
      refine V_iload_n 1 (zdk tbX4_tiredTogether_0_ok 18 rfl) rfl ?_
      cases h
      exact V_iret (zdk tbX4_tiredTogether_0_ok 19 rfl) rfl rfl
    · replace h := ite_f h c1
      refine V_iload_n 1 (zdk tbX4_tiredTogether_0_ok 8 rfl) rfl ?_
      refine V_aload_n 0 (zdk tbX4_tiredTogether_0_ok 9 rfl) rfl ?_
      obtain ⟨r2, q3, h⟩ := bd1_some h
      obtain ⟨q3, c_r2⟩ := zRc_some q3
      refine V_getR (zdk tbX4_tiredTogether_0_ok 10 rfl) c_v0 fF4_11 rfl q3 ?_
      refine V_iload_n 2 (zdk tbX4_tiredTogether_0_ok 11 rfl) rfl ?_
      obtain ⟨b4, h⟩ := chk_some h
      obtain ⟨r5, q6, h⟩ := bd1_some h
      obtain ⟨q6, c_r5⟩ := zRc_some q6
      refine V_aald2 (zdk tbX4_tiredTogether_0_ok 12 rfl) c_r2 b4 q6 ?_
      refine V_getI (zdk tbX4_tiredTogether_0_ok 13 rfl) c_r5 fF4_117 rfl ?_
      refine V_iadd (zdk tbX4_tiredTogether_0_ok 14 rfl) ?_
      refine V_istore_n (ls' := [(0, .ref v0), (1, .int (v1 + (zI μ r5 4))), (2, .int v2)]) [1, 0, 2] (zdk tbX4_tiredTogether_0_ok 15 rfl) (Nat.le_of_ble_eq_true rfl) rfl ?_
      refine V_inc (dx := 1) (ls' := [(0, .ref v0), (1, .int (v1 + (zI μ r5 4))), (2, .int (v2 + (1 : Int32)))]) 2 [1, 2, 0] (zdk tbX4_tiredTogether_0_ok 16 rfl) rfl (Nat.le_of_ble_eq_true rfl) rfl rfl ?_
      refine V_goto (tgt := 4) (zdk tbX4_tiredTogether_0_ok 17 rfl) (by decide) ?_
      exact ih v0 (v1 + (zI μ r5 4)) (v2 + (1 : Int32)) μ c_v0 h
def fX4_tiredTogether (n : Nat) (v0 : Nat) (μ : ZMem) : Option (ZMem × Int32) := chk (isC n 4 v0) ((fX4_tiredTogether_b4 n FU v0 (0 : Int32) (0 : Int32) μ))
theorem tX4_tiredTogether {l : Launch} {fr : Bool} {n : Nat} {v0 : Nat} {μ : ZMem} {z : ZMem × Int32} (h : fX4_tiredTogether n v0 μ = some z) : ZFn l mX4_tiredTogether (rmd 1) [.ref v0] fr n μ (fr, n, z.1, some (.int z.2)) := by
  unfold fX4_tiredTogether at h
  obtain ⟨c_v0, h⟩ := chk_some h
  refine ZFn.of (ls := [(0, .ref v0)]) (by decide) (fun ξ => Nat.le_of_ble_eq_true rfl) (fun ξ => rfl) ?_
  refine V_iconst (v := 0) (zdk tbX4_tiredTogether_0_ok 0 rfl) rfl ?_
  refine V_istore_n (ls' := [(0, .ref v0), (1, .int (0 : Int32))]) [1, 0] (zdk tbX4_tiredTogether_0_ok 1 rfl) (Nat.le_of_ble_eq_true rfl) rfl ?_
  refine V_iconst (v := 0) (zdk tbX4_tiredTogether_0_ok 2 rfl) rfl ?_
  refine V_istore_n (ls' := [(0, .ref v0), (1, .int (0 : Int32)), (2, .int (0 : Int32))]) [1, 2, 0] (zdk tbX4_tiredTogether_0_ok 3 rfl) (Nat.le_of_ble_eq_true rfl) rfl ?_
  exact tX4_tiredTogether_b4 FU v0 (0 : Int32) (0 : Int32) μ c_v0 h

