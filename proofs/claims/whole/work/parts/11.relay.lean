def mX2_init : ZM := (yX2_init, cX2_init, 2, none)
def mX2_keepIfBetter : ZM := (yX2_keepIfBetter, cX2_keepIfBetter, 3, none)
def mX2_tryLeg : ZM := (yX2_tryLeg, cX2_tryLeg, 7, none)
def mX2_seek : ZM := (yX2_seek, cX2_seek, 4, none)
def mX2_bestOnLeg : ZM := (yX2_bestOnLeg, cX2_bestOnLeg, 2, some .int)
def mX5_init : ZM := (yX5_init, cX5_init, 1, none)
def mX5_takeLetters : ZM := (yX5_takeLetters, cX5_takeLetters, 3, none)
def mX5_letterHere : ZM := (yX5_letterHere, cX5_letterHere, 2, some .int)
def mX5_lettersOf : ZM := (yX5_lettersOf, cX5_lettersOf, 1, some (.object "java/lang/String"))
def mX5_readWord : ZM := (yX5_readWord, cX5_readWord, 7, some .int)
def mX5_expect : ZM := (yX5_expect, cX5_expect, 2, none)
def mX5_isDigit : ZM := (yX5_isDigit, cX5_isDigit, 1, some .boolean)
def mX5_readNumber : ZM := (yX5_readNumber, cX5_readNumber, 5, some .int)
def mX5_readPerson : ZM := (yX5_readPerson, cX5_readPerson, 6, none)
def mX5_tellWeight : ZM := (yX5_tellWeight, cX5_tellWeight, 2, none)
def mX5_tellWay : ZM := (yX5_tellWay, cX5_tellWay, 2, none)
def mX5_tellBearer : ZM := (yX5_tellBearer, cX5_tellBearer, 2, none)
def mX5_tellSort : ZM := (yX5_tellSort, cX5_tellSort, 4, none)
def mX5_readItem : ZM := (yX5_readItem, cX5_readItem, 3, none)
def mX5_readItems : ZM := (yX5_readItems, cX5_readItems, 4, some .int)
-- WhoComplainsCarries$RelaySearch.<init>
def tbX2_init_0 : List (Nat × Instr × Nat) := [(0, .aload_n 0, 1), (1, .invokespecial 3, 3), (4, .aload_n 0, 1), (5, .iconst 5, 1), (6, .anewarray 9, 3), (9, .putfield 11, 3), (12, .iconst 0, 1), (13, .istore_n 1, 1), (14, .iload_n 1, 1), (15, .iconst 4, 1), (16, .if_icmp .gt 22, 3), (19, .aload_n 0, 1), (20, .getfield 11, 3), (23, .iload_n 1, 1), (24, .new 9, 3), (27, .dup, 1), (28, .invokespecial 17, 3), (31, .aastore, 1), (32, .iinc 1 1, 3), (35, .goto (-21), 3), (38, .aload_n 0, 1), (39, .iconst 4, 1), (40, .newarray .int, 2), (42, .putfield 18, 3), (45, .aload_n 0, 1), (46, .iconst 4, 1), (47, .newarray .int, 2), (49, .putfield 22, 3), (52, .aload_n 0, 1), (53, .iconst (-1), 1), (54, .putfield 25, 3), (57, .return_, 1)]
theorem tbX2_init_0_ok : ∀ q ∈ tbX2_init_0, decode cX2_init q.1 = .ok (q.2.1, q.2.2) := by decide +kernel
theorem fF2_18 : zF RX2 18 2 1 := ⟨_, rfl, by decide, zin (i := 149) (by decide +kernel) rfl⟩
theorem fF2_22 : zF RX2 22 2 2 := ⟨_, rfl, by decide, zin (i := 150) (by decide +kernel) rfl⟩
theorem fF2_25 : zF RX2 25 2 3 := ⟨_, rfl, by decide, zin (i := 151) (by decide +kernel) rfl⟩
theorem fF2_11 : zF RX2 11 2 0 := ⟨_, rfl, by decide, zin (i := 148) (by decide +kernel) rfl⟩
theorem wN2_9 : Cond.classLink RX2 9 RX4 ∈ zT := zin (i := 145) (by decide +kernel) rfl
theorem wI4 : Cond.instantiable RX4 9 ∈ zT := zin (i := 52) (by decide +kernel) rfl
theorem wZ4 : Cond.initialized RX4 ∈ zT := zin (i := 3) (by decide +kernel) rfl
theorem wCX4_init : zCW mX4_init 0 := ⟨zin (i := 3) (by decide +kernel) rfl, zin (i := 55) (by decide +kernel) rfl, by decide +kernel, by decide +kernel, by decide +kernel⟩
theorem sC2_17 : zCI RX2 17 mX4_init 0 := ⟨zin (i := 147) (by decide +kernel) rfl, zin (i := 54) (by decide +kernel) rfl, rfl, rfl, wCX4_init⟩
theorem wO2_3 : Cond.methodLink RX2 3 Lib.objectInit ∈ zT := zin (i := 144) (by decide +kernel) rfl
def fX2_init_b14 (n0 : Nat) : Nat → Nat → Nat → Int32 → ZMem → Option (Nat × ZMem)
  | 0, _, _, _, _ => none
  | k + 1, n, v0, v1, μ => (if (4 : Int32) < v1 then chk (nwa n 100 4) (chk (zrm (n + 1) n0 48 268) (lt (zmk μ n) (fun μ4 => lt (zpR μ4 v0 1 n) (fun μ7 => chk (nwa (n + 1) 100 4) (chk (zrm ((n + 1) + 1) n0 48 268) (lt (zmk μ7 (n + 1)) (fun μ11 => lt (zpR μ11 v0 2 (n + 1)) (fun μ14 => lt (zpI μ14 v0 3 (-1 : Int32)) (fun μ16 => some (((n + 1) + 1), μ16)))))))))) else bd1 (zRc n 103 μ v0 0) (fun r18 => chk (nwo n 4) (chk (zrm (n + 1) n0 48 268) (lt (zmk μ n) (fun μ22 => bd2 (fX4_init (n + 1) n μ22) (fun n26 μ27 => chk (nxt (n + 1) n26 8 42) (chk (zrm n26 n0 48 268) (chk (inb v1 r18) (lt (zpR μ27 r18 v1.toNatClampNeg n) (fun μ32 => (fX2_init_b14 n0 k n26 v0 (v1 + (1 : Int32)) μ32)))))))))))
theorem tX2_init_b14 {l : Launch} {n0 : Nat} {z : Nat × ZMem} : ∀ (k : Nat) (n : Nat) (v0 : Nat) (v1 : Int32) (μ : ZMem) (c_v0 : isC n 2 v0 = true) (hn0 : n0 ≤ n), fX2_init_b14 n0 k n v0 v1 μ = some z → V (zkC l mX2_init (rmc 4 48 268) n0 z) true 14 [(0, .ref v0), (1, .int v1)] [] n μ := by
  intro k
  induction k with
  | zero =>
    intro n v0 v1 μ c_v0 hn0 h
    unfold fX2_init_b14 at h
    cases h
  | succ k ih =>
    intro n v0 v1 μ c_v0 hn0 h
    unfold fX2_init_b14 at h
    refine V_iload_n 1 (zdk tbX2_init_0_ok 8 rfl) rfl ?_
    refine V_iconst (v := 4) (zdk tbX2_init_0_ok 9 rfl) rfl ?_
    refine V_icmp_gt (tgt := 38) (zdk tbX2_init_0_ok 10 rfl) (by decide) (fun c1 => ?_) (fun c1 => ?_)
    · replace h := ite_t h c1
      refine V_aload_n 0 (zdk tbX2_init_0_ok 20 rfl) rfl ?_
      refine V_iconst (v := 4) (zdk tbX2_init_0_ok 21 rfl) rfl ?_
      obtain ⟨w2, h⟩ := chk_some h
      obtain ⟨w3, h⟩ := chk_some h
      obtain ⟨μ4, e5, h⟩ := lt_some h
      refine V_newi (zdk tbX2_init_0_ok 22 rfl) rfl (by decide) w2 wA100 (zrm_room w3 rfl rfl rfl) e5 ?_
      replace c_v0 := isC_mono c_v0 (Nat.le_succ n)
      replace hn0 := Nat.le_succ_of_le hn0
      have c6 := isC_newa w2
      obtain ⟨μ7, e8, h⟩ := lt_some h
      refine V_putR (zdk tbX2_init_0_ok 23 rfl) c_v0 fF2_18 rfl (Or.inr ⟨rfl, fun q hq => by cases hq; rfl⟩) rfl (fun _ => rfl) (fun _ => rfl) e8 ?_
      refine V_aload_n 0 (zdk tbX2_init_0_ok 24 rfl) rfl ?_
      refine V_iconst (v := 4) (zdk tbX2_init_0_ok 25 rfl) rfl ?_
      obtain ⟨w9, h⟩ := chk_some h
      obtain ⟨w10, h⟩ := chk_some h
      obtain ⟨μ11, e12, h⟩ := lt_some h
      refine V_newi (zdk tbX2_init_0_ok 26 rfl) rfl (by decide) w9 wA100 (zrm_room w10 rfl rfl rfl) e12 ?_
      replace c_v0 := isC_mono c_v0 (Nat.le_succ (n + 1))
      replace c6 := isC_mono c6 (Nat.le_succ (n + 1))
      replace hn0 := Nat.le_succ_of_le hn0
      have c13 := isC_newa w9
      obtain ⟨μ14, e15, h⟩ := lt_some h
      refine V_putR (zdk tbX2_init_0_ok 27 rfl) c_v0 fF2_22 rfl (Or.inr ⟨rfl, fun q hq => by cases hq; rfl⟩) rfl (fun _ => rfl) (fun _ => rfl) e15 ?_
      refine V_aload_n 0 (zdk tbX2_init_0_ok 28 rfl) rfl ?_
      refine V_iconst (v := (-1)) (zdk tbX2_init_0_ok 29 rfl) rfl ?_
      obtain ⟨μ16, e17, h⟩ := lt_some h
      refine V_putI (zdk tbX2_init_0_ok 30 rfl) c_v0 fF2_25 rfl rfl rfl e17 ?_
      cases h
      exact V_vret (zdk tbX2_init_0_ok 31 rfl) rfl rfl
    · replace h := ite_f h c1
      refine V_aload_n 0 (zdk tbX2_init_0_ok 11 rfl) rfl ?_
      obtain ⟨r18, q19, h⟩ := bd1_some h
      obtain ⟨q19, c_r18⟩ := zRc_some q19
      refine V_getR (zdk tbX2_init_0_ok 12 rfl) c_v0 fF2_11 rfl q19 ?_
      refine V_iload_n 1 (zdk tbX2_init_0_ok 13 rfl) rfl ?_
      obtain ⟨w20, h⟩ := chk_some h
      obtain ⟨w21, h⟩ := chk_some h
      obtain ⟨μ22, e23, h⟩ := lt_some h
      refine V_new (c := 4) (zdk tbX2_init_0_ok 14 rfl) rfl w20 wN2_9 wI4 wZ4 (by decide) (zrm_room w21 rfl rfl rfl) e23 ?_
      replace c_v0 := isC_mono c_v0 (Nat.le_succ n)
      replace c_r18 := isC_mono c_r18 (Nat.le_succ n)
      replace hn0 := Nat.le_succ_of_le hn0
      have c24 := isC_new w20
      refine V_dup_r (zdk tbX2_init_0_ok 15 rfl) ?_
      obtain ⟨n26, μ27, q25, h⟩ := bd2_some h
      obtain ⟨w28, h⟩ := chk_some h
      obtain ⟨w29, h⟩ := chk_some h
      refine V_callI (R1 := (rmc 3 8 42)) (As := []) (zdk tbX2_init_0_ok 16 rfl) sC2_17 (tX4_init q25) rfl rfl ⟨Nat.le_of_ble_eq_true rfl, Nat.le_of_ble_eq_true rfl⟩ (Nat.le_of_ble_eq_true rfl) (nxt_of w28) (fun _ => zrm_room w29 rfl rfl rfl) ?_
      have h30 : (n + 1) ≤ n26 := by rw [(nxt_of w28).1]; exact Nat.le_add_right _ _
      replace c_v0 := isC_mono c_v0 h30
      replace c_r18 := isC_mono c_r18 h30
      replace c24 := isC_mono c24 h30
      replace hn0 := Nat.le_trans hn0 h30
      obtain ⟨b31, h⟩ := chk_some h
      obtain ⟨μ32, e33, h⟩ := lt_some h
      refine V_aast (t := 3) (by decide) (zdk tbX2_init_0_ok 17 rfl) c_r18 b31 c24 rfl (fun _ => rfl) e33 ?_
      refine V_inc (dx := 1) (ls' := [(0, .ref v0), (1, .int (v1 + (1 : Int32)))]) 1 [1, 0] (zdk tbX2_init_0_ok 18 rfl) rfl (Nat.le_of_ble_eq_true rfl) rfl rfl ?_
      refine V_goto (tgt := 14) (zdk tbX2_init_0_ok 19 rfl) (by decide) ?_
      exact ih n26 v0 (v1 + (1 : Int32)) μ32 c_v0 hn0 h
def fX2_init (n0 : Nat) (v0 : Nat) (μ : ZMem) : Option (Nat × ZMem) := chk (isC n0 2 v0) (chk (nwa n0 103 5) (chk (zrm (n0 + 1) n0 48 268) (lt (zmk μ n0) (fun μ3 => lt (zpR μ3 v0 0 n0) (fun μ6 => (fX2_init_b14 n0 FU (n0 + 1) v0 (0 : Int32) μ6))))))
theorem tX2_init {l : Launch} {n0 : Nat} {v0 : Nat} {μ : ZMem} {z : Nat × ZMem} (h : fX2_init n0 v0 μ = some z) : ZFn l mX2_init (rmc 4 48 268) [.ref v0] true n0 μ (true, z.1, z.2, none) := by
  unfold fX2_init at h
  have hn0 : n0 ≤ n0 := Nat.le_refl n0
  obtain ⟨c_v0, h⟩ := chk_some h
  refine ZFn.of (ls := [(0, .ref v0)]) (by decide) (fun ξ => Nat.le_of_ble_eq_true rfl) (fun ξ => rfl) ?_
  refine V_aload_n 0 (zdk tbX2_init_0_ok 0 rfl) rfl ?_
  refine V_obj (zdk tbX2_init_0_ok 1 rfl) wO2_3 wOi wOc ⟨Nat.le_of_ble_eq_true rfl, Nat.le_of_ble_eq_true rfl⟩ (Nat.le_of_ble_eq_true rfl) ?_
  refine V_aload_n 0 (zdk tbX2_init_0_ok 2 rfl) rfl ?_
  refine V_iconst (v := 5) (zdk tbX2_init_0_ok 3 rfl) rfl ?_
  obtain ⟨w1, h⟩ := chk_some h
  obtain ⟨w2, h⟩ := chk_some h
  obtain ⟨μ3, e4, h⟩ := lt_some h
  refine V_newr 3 (by decide) (fun _ => rfl) (fun ξ U h => h.2.1.2.1) (zdk tbX2_init_0_ok 4 rfl) rfl (by decide) w1 wN2_9 (zrm_room w2 rfl rfl rfl) e4 ?_
  replace c_v0 := isC_mono c_v0 (Nat.le_succ n0)
  replace hn0 := Nat.le_succ_of_le hn0
  have c5 := isC_newa w1
  obtain ⟨μ6, e7, h⟩ := lt_some h
  refine V_putR (zdk tbX2_init_0_ok 5 rfl) c_v0 fF2_11 rfl (Or.inr ⟨rfl, fun q hq => by cases hq; rfl⟩) rfl (fun _ => rfl) (fun _ => rfl) e7 ?_
  refine V_iconst (v := 0) (zdk tbX2_init_0_ok 6 rfl) rfl ?_
  refine V_istore_n (ls' := [(0, .ref v0), (1, .int (0 : Int32))]) [1, 0] (zdk tbX2_init_0_ok 7 rfl) (Nat.le_of_ble_eq_true rfl) rfl ?_
  exact tX2_init_b14 FU (n0 + 1) v0 (0 : Int32) μ6 c_v0 hn0 h

-- WhoComplainsCarries$RelaySearch.keepIfBetter
def tbX2_keepIfBetter_0 : List (Nat × Instr × Nat) := [(0, .iload_n 1, 1), (1, .iconst 0, 1), (2, .iconst 4, 1), (3, .invokestatic 43, 3), (6, .ifCond .eq 19, 3), (9, .aload_n 0, 1), (10, .getfield 11, 3), (13, .iload_n 1, 1), (14, .aaload, 1), (15, .getfield 61, 3), (18, .aload_n 0, 1), (19, .getfield 25, 3), (22, .if_icmp .gt 4, 3), (25, .return_, 1), (26, .aload_n 0, 1), (27, .aload_n 0, 1), (28, .getfield 11, 3), (31, .iload_n 1, 1), (32, .aaload, 1), (33, .getfield 61, 3), (36, .putfield 25, 3), (39, .iconst 0, 1), (40, .istore_n 2, 1), (41, .iload_n 2, 1), (42, .iload_n 1, 1), (43, .if_icmp .ge 21, 3), (46, .aload_n 0, 1), (47, .getfield 22, 3), (50, .iload_n 2, 1), (51, .aload_n 0, 1), (52, .getfield 18, 3), (55, .iload_n 2, 1), (56, .iaload, 1), (57, .iastore, 1), (58, .iinc 2 1, 3), (61, .goto (-20), 3), (64, .return_, 1)]
theorem tbX2_keepIfBetter_0_ok : ∀ q ∈ tbX2_keepIfBetter_0, decode cX2_keepIfBetter q.1 = .ok (q.2.1, q.2.2) := by decide +kernel
theorem sC2_43 : zCN RX2 43 mX6_isIn 3 := ⟨by decide +kernel, zin (i := 251) (by decide +kernel) rfl, wCX6_isIn⟩
theorem fF2_61 : zF RX2 61 4 4 := ⟨_, rfl, by decide, zin (i := 108) (by decide +kernel) rfl⟩
def fX2_keepIfBetter_b25 (n : Nat) (μ : ZMem) : Option (ZMem) := some μ
theorem tX2_keepIfBetter_b25 {l : Launch} {fr : Bool} {n : Nat} {z : ZMem} (μ : ZMem) (h : fX2_keepIfBetter_b25 n μ = some z) : V (zkV l mX2_keepIfBetter (rmd 2) fr n z) fr 25 [] [] n μ := by
  unfold fX2_keepIfBetter_b25 at h
  cases h
  exact V_vret (zdk tbX2_keepIfBetter_0_ok 13 rfl) rfl rfl
def fX2_keepIfBetter_b41 (n : Nat) : Nat → Nat → Int32 → Int32 → ZMem → Option (ZMem)
  | 0, _, _, _, _ => none
  | k + 1, v0, v1, v2, μ => (if v1 ≤ v2 then some μ else bd1 (zRc n 100 μ v0 2) (fun r2 => bd1 (zRc n 100 μ v0 1) (fun r4 => chk (inb v2 r4) (chk (inb v2 r2) (lt (zpI μ r2 v2.toNatClampNeg (zI μ r4 v2.toNatClampNeg)) (fun μ8 => (fX2_keepIfBetter_b41 n k v0 v1 (v2 + (1 : Int32)) μ8)))))))
theorem tX2_keepIfBetter_b41 {l : Launch} {fr : Bool} {n : Nat} {z : ZMem} : ∀ (k : Nat) (v0 : Nat) (v1 : Int32) (v2 : Int32) (μ : ZMem) (c_v0 : isC n 2 v0 = true), fX2_keepIfBetter_b41 n k v0 v1 v2 μ = some z → V (zkV l mX2_keepIfBetter (rmd 2) fr n z) fr 41 [(0, .ref v0), (1, .int v1), (2, .int v2)] [] n μ := by
  intro k
  induction k with
  | zero =>
    intro v0 v1 v2 μ c_v0 h
    unfold fX2_keepIfBetter_b41 at h
    cases h
  | succ k ih =>
    intro v0 v1 v2 μ c_v0 h
    unfold fX2_keepIfBetter_b41 at h
    refine V_iload_n 2 (zdk tbX2_keepIfBetter_0_ok 23 rfl) rfl ?_
    refine V_iload_n 1 (zdk tbX2_keepIfBetter_0_ok 24 rfl) rfl ?_
    refine V_icmp_ge (tgt := 64) (zdk tbX2_keepIfBetter_0_ok 25 rfl) (by decide) (fun c1 => ?_) (fun c1 => ?_)
    · replace h := ite_t h c1
      cases h
      exact V_vret (zdk tbX2_keepIfBetter_0_ok 36 rfl) rfl rfl
    · replace h := ite_f h c1
      refine V_aload_n 0 (zdk tbX2_keepIfBetter_0_ok 26 rfl) rfl ?_
      obtain ⟨r2, q3, h⟩ := bd1_some h
      obtain ⟨q3, c_r2⟩ := zRc_some q3
      refine V_getR (zdk tbX2_keepIfBetter_0_ok 27 rfl) c_v0 fF2_22 rfl q3 ?_
      refine V_iload_n 2 (zdk tbX2_keepIfBetter_0_ok 28 rfl) rfl ?_
      refine V_aload_n 0 (zdk tbX2_keepIfBetter_0_ok 29 rfl) rfl ?_
      obtain ⟨r4, q5, h⟩ := bd1_some h
      obtain ⟨q5, c_r4⟩ := zRc_some q5
      refine V_getR (zdk tbX2_keepIfBetter_0_ok 30 rfl) c_v0 fF2_18 rfl q5 ?_
      refine V_iload_n 2 (zdk tbX2_keepIfBetter_0_ok 31 rfl) rfl ?_
      obtain ⟨b6, h⟩ := chk_some h
      refine V_iald (zdk tbX2_keepIfBetter_0_ok 32 rfl) c_r4 b6 ?_
      obtain ⟨b7, h⟩ := chk_some h
      obtain ⟨μ8, e9, h⟩ := lt_some h
      refine V_iast (zdk tbX2_keepIfBetter_0_ok 33 rfl) c_r2 b7 e9 ?_
      refine V_inc (dx := 1) (ls' := [(0, .ref v0), (1, .int v1), (2, .int (v2 + (1 : Int32)))]) 2 [1, 2, 0] (zdk tbX2_keepIfBetter_0_ok 34 rfl) rfl (Nat.le_of_ble_eq_true rfl) rfl rfl ?_
      refine V_goto (tgt := 41) (zdk tbX2_keepIfBetter_0_ok 35 rfl) (by decide) ?_
      exact ih v0 v1 (v2 + (1 : Int32)) μ8 c_v0 h
def fX2_keepIfBetter (n : Nat) (v0 : Nat) (v1 : Int32) (μ : ZMem) : Option (ZMem) := chk (isC n 2 v0) (bd2 (fX6_isIn n v1 (0 : Int32) (4 : Int32) μ) (fun μ2 r3 => (if r3 = 0 then (fX2_keepIfBetter_b25 n  μ2) else bd1 (zRc n 103 μ2 v0 0) (fun r5 => chk (inb v1 r5) (bd1 (zRc n 4 μ2 r5 v1.toNatClampNeg) (fun r8 => (if (zI μ2 v0 3) < (zI μ2 r8 4) then bd1 (zRc n 103 μ2 v0 0) (fun r11 => chk (inb v1 r11) (bd1 (zRc n 4 μ2 r11 v1.toNatClampNeg) (fun r14 => lt (zpI μ2 v0 3 (zI μ2 r14 4)) (fun μ16 => (fX2_keepIfBetter_b41 n FU v0 v1 (0 : Int32) μ16))))) else (fX2_keepIfBetter_b25 n  μ2))))))))
theorem tX2_keepIfBetter {l : Launch} {fr : Bool} {n : Nat} {v0 : Nat} {v1 : Int32} {μ : ZMem} {z : ZMem} (h : fX2_keepIfBetter n v0 v1 μ = some z) : ZFn l mX2_keepIfBetter (rmd 2) [.ref v0, .int v1] fr n μ (fr, n, z, none) := by
  unfold fX2_keepIfBetter at h
  obtain ⟨c_v0, h⟩ := chk_some h
  refine ZFn.of (ls := [(0, .ref v0), (1, .int v1)]) (by decide) (fun ξ => Nat.le_of_ble_eq_true rfl) (fun ξ => rfl) ?_
  refine V_iload_n 1 (zdk tbX2_keepIfBetter_0_ok 0 rfl) rfl ?_
  refine V_iconst (v := 0) (zdk tbX2_keepIfBetter_0_ok 1 rfl) rfl ?_
  refine V_iconst (v := 4) (zdk tbX2_keepIfBetter_0_ok 2 rfl) rfl ?_
  obtain ⟨μ2, r3, q1, h⟩ := bd2_some h
  refine V_callN (R1 := (rmd 1)) (As := [.int v1, .int (0 : Int32), .int (4 : Int32)]) (r := (some (.int r3))) (zdk tbX2_keepIfBetter_0_ok 3 rfl) sC2_43 (tX6_isIn q1) rfl rfl ⟨Nat.le_of_ble_eq_true rfl, Nat.le_of_ble_eq_true rfl⟩ (Nat.le_of_ble_eq_true rfl) ⟨rfl, rfl⟩ id ?_
  refine V_if_eq (tgt := 25) (zdk tbX2_keepIfBetter_0_ok 4 rfl) (by decide) (fun c4 => ?_) (fun c4 => ?_)
  · replace h := ite_t h c4
    refine V_sub (ls' := []) [] rfl ?_
    exact tX2_keepIfBetter_b25  μ2  h
  · replace h := ite_f h c4
    refine V_aload_n 0 (zdk tbX2_keepIfBetter_0_ok 5 rfl) rfl ?_
    obtain ⟨r5, q6, h⟩ := bd1_some h
    obtain ⟨q6, c_r5⟩ := zRc_some q6
    refine V_getR (zdk tbX2_keepIfBetter_0_ok 6 rfl) c_v0 fF2_11 rfl q6 ?_
    refine V_iload_n 1 (zdk tbX2_keepIfBetter_0_ok 7 rfl) rfl ?_
    obtain ⟨b7, h⟩ := chk_some h
    obtain ⟨r8, q9, h⟩ := bd1_some h
    obtain ⟨q9, c_r8⟩ := zRc_some q9
    refine V_aald3 (zdk tbX2_keepIfBetter_0_ok 8 rfl) c_r5 b7 q9 ?_
    refine V_getI (zdk tbX2_keepIfBetter_0_ok 9 rfl) c_r8 fF2_61 rfl ?_
    refine V_aload_n 0 (zdk tbX2_keepIfBetter_0_ok 10 rfl) rfl ?_
    refine V_getI (zdk tbX2_keepIfBetter_0_ok 11 rfl) c_v0 fF2_25 rfl ?_
    refine V_icmp_gt (tgt := 26) (zdk tbX2_keepIfBetter_0_ok 12 rfl) (by decide) (fun c10 => ?_) (fun c10 => ?_)
    · replace h := ite_t h c10
      refine V_aload_n 0 (zdk tbX2_keepIfBetter_0_ok 14 rfl) rfl ?_
      refine V_aload_n 0 (zdk tbX2_keepIfBetter_0_ok 15 rfl) rfl ?_
      obtain ⟨r11, q12, h⟩ := bd1_some h
      obtain ⟨q12, c_r11⟩ := zRc_some q12
      refine V_getR (zdk tbX2_keepIfBetter_0_ok 16 rfl) c_v0 fF2_11 rfl q12 ?_
      refine V_iload_n 1 (zdk tbX2_keepIfBetter_0_ok 17 rfl) rfl ?_
      obtain ⟨b13, h⟩ := chk_some h
      obtain ⟨r14, q15, h⟩ := bd1_some h
      obtain ⟨q15, c_r14⟩ := zRc_some q15
      refine V_aald3 (zdk tbX2_keepIfBetter_0_ok 18 rfl) c_r11 b13 q15 ?_
      refine V_getI (zdk tbX2_keepIfBetter_0_ok 19 rfl) c_r14 fF2_61 rfl ?_
      obtain ⟨μ16, e17, h⟩ := lt_some h
      refine V_putI (zdk tbX2_keepIfBetter_0_ok 20 rfl) c_v0 fF2_25 rfl rfl rfl e17 ?_
      refine V_iconst (v := 0) (zdk tbX2_keepIfBetter_0_ok 21 rfl) rfl ?_
      refine V_istore_n (ls' := [(0, .ref v0), (1, .int v1), (2, .int (0 : Int32))]) [1, 2, 0] (zdk tbX2_keepIfBetter_0_ok 22 rfl) (Nat.le_of_ble_eq_true rfl) rfl ?_
      exact tX2_keepIfBetter_b41 FU v0 v1 (0 : Int32) μ16 c_v0 h
    · replace h := ite_f h c10
      refine V_sub (ls' := []) [] rfl ?_
      exact tX2_keepIfBetter_b25  μ2  h

-- WhoComplainsCarries$RelaySearch.tryLeg
def tbX2_tryLeg_0 : List (Nat × Instr × Nat) := [(0, .iload_n 1, 1), (1, .iload_n 2, 1), (2, .if_icmp .ge 12, 3), (5, .iload_n 1, 1), (6, .ifCond .lt 8, 3), (9, .iload_n 1, 1), (10, .iconst 4, 1), (11, .if_icmp .lt 9, 3), (14, .aload_n 0, 1), (15, .iload_n 1, 1), (16, .invokevirtual 47, 3), (19, .return_, 1), (20, .aload_n 0, 1), (21, .getfield 11, 3), (24, .iload_n 1, 1), (25, .aaload, 1), (26, .astore 4, 2), (28, .aload_n 0, 1), (29, .getfield 11, 3), (32, .iload_n 1, 1), (33, .iconst 1, 1), (34, .iadd, 1), (35, .aaload, 1), (36, .astore 5, 2), (38, .iconst 0, 1), (39, .istore 6, 2), (41, .iload 6, 2), (43, .aload 4, 2), (45, .getfield 51, 3), (48, .if_icmp .ge 56, 3), (51, .aload_n 0, 1), (52, .getfield 25, 3), (55, .aload 4, 2), (57, .getfield 54, 3), (60, .if_icmp .ge 44, 3), (63, .aload_n 0, 1), (64, .getfield 18, 3), (67, .iload_n 1, 1), (68, .iload 6, 2), (70, .iastore, 1), (71, .aload 5, 2), (73, .aload 4, 2), (75, .invokevirtual 29, 3), (78, .aload 5, 2), (80, .iload 6, 2), (82, .iload_n 3, 1), (83, .invokevirtual 57, 3), (86, .ifCond .eq 12, 3), (89, .aload_n 0, 1), (90, .iload_n 1, 1)]
theorem tbX2_tryLeg_0_ok : ∀ q ∈ tbX2_tryLeg_0, decode cX2_tryLeg q.1 = .ok (q.2.1, q.2.2) := by decide +kernel
def tbX2_tryLeg_1 : List (Nat × Instr × Nat) := [(91, .iconst 1, 1), (92, .iadd, 1), (93, .iload_n 2, 1), (94, .iload_n 3, 1), (95, .invokestatic 39, 3), (98, .iinc 6 1, 3), (101, .goto (-60), 3), (104, .return_, 1)]
theorem tbX2_tryLeg_1_ok : ∀ q ∈ tbX2_tryLeg_1, decode cX2_tryLeg q.1 = .ok (q.2.1, q.2.2) := by decide +kernel
theorem wCX2_keepIfBetter : zCW mX2_keepIfBetter 1 := ⟨zin (i := 5) (by decide +kernel) rfl, zin (i := 637) (by decide +kernel) rfl, by decide +kernel, by decide +kernel, by decide +kernel⟩
theorem sC2_47 : zCV RX2 47 mX2_keepIfBetter 1 := ⟨zin (i := 634) (by decide +kernel) rfl, zin (i := 636) (by decide +kernel) rfl, zinP (i := 18) (q := (yX2_keepIfBetter, 4)) (by decide +kernel) rfl, wCX2_keepIfBetter⟩
theorem fF2_51 : zF RX2 51 4 1 := ⟨_, rfl, by decide, zin (i := 96) (by decide +kernel) rfl⟩
theorem fF2_54 : zF RX2 54 4 3 := ⟨_, rfl, by decide, zin (i := 103) (by decide +kernel) rfl⟩
theorem wCX4_load : zCW mX4_load 1 := ⟨zin (i := 3) (by decide +kernel) rfl, zin (i := 427) (by decide +kernel) rfl, by decide +kernel, by decide +kernel, by decide +kernel⟩
theorem sC2_29 : zCV RX2 29 mX4_load 1 := ⟨zin (i := 629) (by decide +kernel) rfl, zin (i := 425) (by decide +kernel) rfl, zin (i := 426) (by decide +kernel) rfl, wCX4_load⟩
theorem wCX4_bearLeg : zCW mX4_bearLeg 2 := ⟨zin (i := 3) (by decide +kernel) rfl, zin (i := 642) (by decide +kernel) rfl, by decide +kernel, by decide +kernel, by decide +kernel⟩
theorem sC2_57 : zCV RX2 57 mX4_bearLeg 2 := ⟨zin (i := 639) (by decide +kernel) rfl, zin (i := 640) (by decide +kernel) rfl, zin (i := 641) (by decide +kernel) rfl, wCX4_bearLeg⟩
theorem wCX2_tryLeg : zCW mX2_tryLeg 4 := ⟨zin (i := 5) (by decide +kernel) rfl, zin (i := 633) (by decide +kernel) rfl, by decide +kernel, by decide +kernel, by decide +kernel⟩
theorem sC2_39 : zCS RX2 39 mX2_tryLeg 4 := ⟨zin (i := 631) (by decide +kernel) rfl, zin (i := 632) (by decide +kernel) rfl, wCX2_tryLeg⟩
def fX2_tryLeg_b14 (gs : Nat → Int32 → Int32 → Int32 → ZMem → Option (ZMem)) (n : Nat) (v0 : Nat) (v1 : Int32) (μ : ZMem) : Option (ZMem) := bd1 (fX2_keepIfBetter n v0 v1 μ) (fun μ2 => some μ2)
theorem tX2_tryLeg_b14 {l : Launch} {fr : Bool} {q : Nat} {n : Nat} {z : ZMem} {gs : Nat → Int32 → Int32 → Int32 → ZMem → Option (ZMem)} (hgs : ∀ {fr : Bool} (v0 : Nat) (v1 : Int32) (v2 : Int32) (v3 : Int32) (μ : ZMem) (y : ZMem), gs v0 v1 v2 v3 μ = some y → ZFn l mX2_tryLeg (rmd (5 + q)) [.ref v0, .int v1, .int v2, .int v3] fr n μ (fr, n, y, none)) (v0 : Nat) (v1 : Int32) (μ : ZMem) (c_v0 : isC n 2 v0 = true) (h : fX2_tryLeg_b14 gs n v0 v1 μ = some z) : V (zkV l mX2_tryLeg (rmd (5 + q + 1)) fr n z) fr 14 [(0, .ref v0), (1, .int v1)] [] n μ := by
  unfold fX2_tryLeg_b14 at h
  refine V_aload_n 0 (zdk tbX2_tryLeg_0_ok 8 rfl) rfl ?_
  refine V_iload_n 1 (zdk tbX2_tryLeg_0_ok 9 rfl) rfl ?_
  obtain ⟨μ2, q1, h⟩ := bd1_some h
  refine V_callV (R1 := (rmd 2)) (As := [.int v1]) (r := none) (zdk tbX2_tryLeg_0_ok 10 rfl) sC2_47 (tX2_keepIfBetter q1) (c_v0) rfl rfl rfl (by simp only [rmd, mX2_tryLeg, mX2_keepIfBetter]; omega) (Nat.le_of_ble_eq_true rfl) ⟨rfl, rfl⟩ id ?_
  cases h
  exact V_vret (zdk tbX2_tryLeg_0_ok 11 rfl) rfl rfl
def fX2_tryLeg_b98 (g41 : Nat → Int32 → Int32 → Int32 → Nat → Nat → Int32 → ZMem → Option (ZMem)) (gs : Nat → Int32 → Int32 → Int32 → ZMem → Option (ZMem)) (n : Nat) (v0 : Nat) (v1 : Int32) (v2 : Int32) (v3 : Int32) (v4 : Nat) (v5 : Nat) (v6 : Int32) (μ : ZMem) : Option (ZMem) := (g41 v0 v1 v2 v3 v4 v5 (v6 + (1 : Int32)) μ)
theorem tX2_tryLeg_b98 {l : Launch} {fr : Bool} {q : Nat} {n : Nat} {z : ZMem} {g41 : Nat → Int32 → Int32 → Int32 → Nat → Nat → Int32 → ZMem → Option (ZMem)} (hg41 : ∀ (v0 : Nat) (v1 : Int32) (v2 : Int32) (v3 : Int32) (v4 : Nat) (v5 : Nat) (v6 : Int32) (μ : ZMem), isC n 2 v0 = true → isC n 4 v4 = true → isC n 4 v5 = true → g41 v0 v1 v2 v3 v4 v5 v6 μ = some z → V (zkV l mX2_tryLeg (rmd (5 + q + 1)) fr n z) fr 41 [(0, .ref v0), (1, .int v1), (2, .int v2), (3, .int v3), (4, .ref v4), (5, .ref v5), (6, .int v6)] [] n μ) {gs : Nat → Int32 → Int32 → Int32 → ZMem → Option (ZMem)} (hgs : ∀ {fr : Bool} (v0 : Nat) (v1 : Int32) (v2 : Int32) (v3 : Int32) (μ : ZMem) (y : ZMem), gs v0 v1 v2 v3 μ = some y → ZFn l mX2_tryLeg (rmd (5 + q)) [.ref v0, .int v1, .int v2, .int v3] fr n μ (fr, n, y, none)) (v0 : Nat) (v1 : Int32) (v2 : Int32) (v3 : Int32) (v4 : Nat) (v5 : Nat) (v6 : Int32) (μ : ZMem) (c_v0 : isC n 2 v0 = true) (c_v4 : isC n 4 v4 = true) (c_v5 : isC n 4 v5 = true) (h : fX2_tryLeg_b98 g41 gs n v0 v1 v2 v3 v4 v5 v6 μ = some z) : V (zkV l mX2_tryLeg (rmd (5 + q + 1)) fr n z) fr 98 [(0, .ref v0), (1, .int v1), (2, .int v2), (3, .int v3), (4, .ref v4), (5, .ref v5), (6, .int v6)] [] n μ := by
  unfold fX2_tryLeg_b98 at h
  refine V_inc (dx := 1) (ls' := [(0, .ref v0), (1, .int v1), (2, .int v2), (3, .int v3), (4, .ref v4), (5, .ref v5), (6, .int (v6 + (1 : Int32)))]) 6 [1, 2, 3, 4, 5, 6, 0] (zdk tbX2_tryLeg_1_ok 5 rfl) rfl (Nat.le_of_ble_eq_true rfl) rfl rfl ?_
  refine V_goto (tgt := 41) (zdk tbX2_tryLeg_1_ok 6 rfl) (by decide) ?_
  exact hg41 v0 v1 v2 v3 v4 v5 (v6 + (1 : Int32)) μ c_v0 c_v4 c_v5 h
def fX2_tryLeg_b104 (gs : Nat → Int32 → Int32 → Int32 → ZMem → Option (ZMem)) (n : Nat) (μ : ZMem) : Option (ZMem) := some μ
theorem tX2_tryLeg_b104 {l : Launch} {fr : Bool} {q : Nat} {n : Nat} {z : ZMem} {gs : Nat → Int32 → Int32 → Int32 → ZMem → Option (ZMem)} (hgs : ∀ {fr : Bool} (v0 : Nat) (v1 : Int32) (v2 : Int32) (v3 : Int32) (μ : ZMem) (y : ZMem), gs v0 v1 v2 v3 μ = some y → ZFn l mX2_tryLeg (rmd (5 + q)) [.ref v0, .int v1, .int v2, .int v3] fr n μ (fr, n, y, none)) (μ : ZMem) (h : fX2_tryLeg_b104 gs n μ = some z) : V (zkV l mX2_tryLeg (rmd (5 + q + 1)) fr n z) fr 104 [] [] n μ := by
  unfold fX2_tryLeg_b104 at h
  cases h
  exact V_vret (zdk tbX2_tryLeg_1_ok 7 rfl) rfl rfl
def fX2_tryLeg_b41 (gs : Nat → Int32 → Int32 → Int32 → ZMem → Option (ZMem)) (n : Nat) : Nat → Nat → Int32 → Int32 → Int32 → Nat → Nat → Int32 → ZMem → Option (ZMem)
  | 0, _, _, _, _, _, _, _, _ => none
  | k + 1, v0, v1, v2, v3, v4, v5, v6, μ => (if (zI μ v4 1) ≤ v6 then (fX2_tryLeg_b104 gs n  μ) else (if (zI μ v4 3) ≤ (zI μ v0 3) then (fX2_tryLeg_b104 gs n  μ) else bd1 (zRc n 100 μ v0 1) (fun r3 => chk (inb v1 r3) (lt (zpI μ r3 v1.toNatClampNeg v6) (fun μ6 => bd1 (fX4_load n v5 v4 μ6) (fun μ9 => bd2 (fX4_bearLeg n v5 v6 v3 μ9) (fun μ11 r12 => (if r12 = 0 then (fX2_tryLeg_b98 (fX2_tryLeg_b41 gs n k) gs n v0 v1 v2 v3 v4 v5 v6 μ11) else bd1 (gs v0 (v1 + (1 : Int32)) v2 v3 μ11) (fun μ15 => (fX2_tryLeg_b98 (fX2_tryLeg_b41 gs n k) gs n v0 v1 v2 v3 v4 v5 v6 μ15))))))))))
theorem tX2_tryLeg_b41 {l : Launch} {fr : Bool} {q : Nat} {n : Nat} {z : ZMem} {gs : Nat → Int32 → Int32 → Int32 → ZMem → Option (ZMem)} (hgs : ∀ {fr : Bool} (v0 : Nat) (v1 : Int32) (v2 : Int32) (v3 : Int32) (μ : ZMem) (y : ZMem), gs v0 v1 v2 v3 μ = some y → ZFn l mX2_tryLeg (rmd (5 + q)) [.ref v0, .int v1, .int v2, .int v3] fr n μ (fr, n, y, none)) : ∀ (k : Nat) (v0 : Nat) (v1 : Int32) (v2 : Int32) (v3 : Int32) (v4 : Nat) (v5 : Nat) (v6 : Int32) (μ : ZMem) (c_v0 : isC n 2 v0 = true) (c_v4 : isC n 4 v4 = true) (c_v5 : isC n 4 v5 = true), fX2_tryLeg_b41 gs n k v0 v1 v2 v3 v4 v5 v6 μ = some z → V (zkV l mX2_tryLeg (rmd (5 + q + 1)) fr n z) fr 41 [(0, .ref v0), (1, .int v1), (2, .int v2), (3, .int v3), (4, .ref v4), (5, .ref v5), (6, .int v6)] [] n μ := by
  intro k
  induction k with
  | zero =>
    intro v0 v1 v2 v3 v4 v5 v6 μ c_v0 c_v4 c_v5 h
    unfold fX2_tryLeg_b41 at h
    cases h
  | succ k ih =>
    intro v0 v1 v2 v3 v4 v5 v6 μ c_v0 c_v4 c_v5 h
    unfold fX2_tryLeg_b41 at h
    refine V_iload 6 (zdk tbX2_tryLeg_0_ok 26 rfl) rfl ?_
    refine V_aload 4 (zdk tbX2_tryLeg_0_ok 27 rfl) rfl ?_
    refine V_getI (zdk tbX2_tryLeg_0_ok 28 rfl) c_v4 fF2_51 rfl ?_
    refine V_icmp_ge (tgt := 104) (zdk tbX2_tryLeg_0_ok 29 rfl) (by decide) (fun c1 => ?_) (fun c1 => ?_)
    · replace h := ite_t h c1
      refine V_sub (ls' := []) [] rfl ?_
      exact tX2_tryLeg_b104 hgs  μ  h
    · replace h := ite_f h c1
      refine V_aload_n 0 (zdk tbX2_tryLeg_0_ok 30 rfl) rfl ?_
      refine V_getI (zdk tbX2_tryLeg_0_ok 31 rfl) c_v0 fF2_25 rfl ?_
      refine V_aload 4 (zdk tbX2_tryLeg_0_ok 32 rfl) rfl ?_
      refine V_getI (zdk tbX2_tryLeg_0_ok 33 rfl) c_v4 fF2_54 rfl ?_
      refine V_icmp_ge (tgt := 104) (zdk tbX2_tryLeg_0_ok 34 rfl) (by decide) (fun c2 => ?_) (fun c2 => ?_)
      · replace h := ite_t h c2
        refine V_sub (ls' := []) [] rfl ?_
        exact tX2_tryLeg_b104 hgs  μ  h
      · replace h := ite_f h c2
        refine V_aload_n 0 (zdk tbX2_tryLeg_0_ok 35 rfl) rfl ?_
        obtain ⟨r3, q4, h⟩ := bd1_some h
        obtain ⟨q4, c_r3⟩ := zRc_some q4
        refine V_getR (zdk tbX2_tryLeg_0_ok 36 rfl) c_v0 fF2_18 rfl q4 ?_
        refine V_iload_n 1 (zdk tbX2_tryLeg_0_ok 37 rfl) rfl ?_
        refine V_iload 6 (zdk tbX2_tryLeg_0_ok 38 rfl) rfl ?_
        obtain ⟨b5, h⟩ := chk_some h
        obtain ⟨μ6, e7, h⟩ := lt_some h
        refine V_iast (zdk tbX2_tryLeg_0_ok 39 rfl) c_r3 b5 e7 ?_
        refine V_aload 5 (zdk tbX2_tryLeg_0_ok 40 rfl) rfl ?_
        refine V_aload 4 (zdk tbX2_tryLeg_0_ok 41 rfl) rfl ?_
        obtain ⟨μ9, q8, h⟩ := bd1_some h
        refine V_callV (R1 := (rmd 2)) (As := [.ref v4]) (r := none) (zdk tbX2_tryLeg_0_ok 42 rfl) sC2_29 (tX4_load q8) (c_v5) rfl rfl rfl (by simp only [rmd, mX2_tryLeg, mX4_load]; omega) (Nat.le_of_ble_eq_true rfl) ⟨rfl, rfl⟩ id ?_
        refine V_aload 5 (zdk tbX2_tryLeg_0_ok 43 rfl) rfl ?_
        refine V_iload 6 (zdk tbX2_tryLeg_0_ok 44 rfl) rfl ?_
        refine V_iload_n 3 (zdk tbX2_tryLeg_0_ok 45 rfl) rfl ?_
        obtain ⟨μ11, r12, q10, h⟩ := bd2_some h
        refine V_callV (R1 := (rmd 4)) (As := [.int v6, .int v3]) (r := (some (.int r12))) (zdk tbX2_tryLeg_0_ok 46 rfl) sC2_57 (tX4_bearLeg q10) (c_v5) rfl rfl rfl (by simp only [rmd, mX2_tryLeg, mX4_bearLeg]; omega) (Nat.le_of_ble_eq_true rfl) ⟨rfl, rfl⟩ id ?_
        refine V_if_eq (tgt := 98) (zdk tbX2_tryLeg_0_ok 47 rfl) (by decide) (fun c13 => ?_) (fun c13 => ?_)
        · replace h := ite_t h c13
          exact tX2_tryLeg_b98 (fun v0 v1 v2 v3 v4 v5 v6 μ y0 y1 y2 h => ih v0 v1 v2 v3 v4 v5 v6 μ y0 y1 y2 h) hgs v0 v1 v2 v3 v4 v5 v6 μ11 c_v0 c_v4 c_v5 h
        · replace h := ite_f h c13
          refine V_aload_n 0 (zdk tbX2_tryLeg_0_ok 48 rfl) rfl ?_
          refine V_iload_n 1 (zdk tbX2_tryLeg_0_ok 49 rfl) rfl ?_
          refine V_iconst (v := 1) (zdk tbX2_tryLeg_1_ok 0 rfl) rfl ?_
          refine V_iadd (zdk tbX2_tryLeg_1_ok 1 rfl) ?_
          refine V_iload_n 2 (zdk tbX2_tryLeg_1_ok 2 rfl) rfl ?_
          refine V_iload_n 3 (zdk tbX2_tryLeg_1_ok 3 rfl) rfl ?_
          obtain ⟨μ15, q14, h⟩ := bd1_some h
          refine V_callS (R1 := (rmd (5 + q))) (As := [.ref v0, .int (v1 + (1 : Int32)), .int v2, .int v3]) (r := none) (zdk tbX2_tryLeg_1_ok 4 rfl) sC2_39 (hgs v0 (v1 + (1 : Int32)) v2 v3 μ11 _ q14) rfl rfl (by simp only [rmd, mX2_tryLeg, mX2_tryLeg]; omega) (Nat.le_of_ble_eq_true rfl) ⟨rfl, rfl⟩ id ?_
          exact tX2_tryLeg_b98 (fun v0 v1 v2 v3 v4 v5 v6 μ y0 y1 y2 h => ih v0 v1 v2 v3 v4 v5 v6 μ y0 y1 y2 h) hgs v0 v1 v2 v3 v4 v5 v6 μ15 c_v0 c_v4 c_v5 h
def fX2_tryLeg (n : Nat) : Nat → Nat → Int32 → Int32 → Int32 → ZMem → Option (ZMem)
  | 0, _, _, _, _, _ => none
  | q + 1, v0, v1, v2, v3, μ => chk (isC n 2 v0) ((if v2 ≤ v1 then (fX2_tryLeg_b14 (fX2_tryLeg n q) n v0 v1 μ) else (if v1 < 0 then (fX2_tryLeg_b14 (fX2_tryLeg n q) n v0 v1 μ) else (if v1 < (4 : Int32) then bd1 (zRc n 103 μ v0 0) (fun r4 => chk (inb v1 r4) (bd1 (zRc n 4 μ r4 v1.toNatClampNeg) (fun r7 => bd1 (zRc n 103 μ v0 0) (fun r9 => chk (inb (v1 + (1 : Int32)) r9) (bd1 (zRc n 4 μ r9 (v1 + (1 : Int32)).toNatClampNeg) (fun r12 => (fX2_tryLeg_b41 (fX2_tryLeg n q) n FU v0 v1 v2 v3 r7 r12 (0 : Int32) μ))))))) else (fX2_tryLeg_b14 (fX2_tryLeg n q) n v0 v1 μ)))))
theorem tX2_tryLeg {l : Launch} {n : Nat} : ∀ (q : Nat) {fr : Bool} (v0 : Nat) (v1 : Int32) (v2 : Int32) (v3 : Int32) (μ : ZMem) (z : ZMem), fX2_tryLeg n q v0 v1 v2 v3 μ = some z → ZFn l mX2_tryLeg (rmd (5 + q)) [.ref v0, .int v1, .int v2, .int v3] fr n μ (fr, n, z, none) := by
  intro q
  induction q with
  | zero =>
    intro fr v0 v1 v2 v3 μ z h
    unfold fX2_tryLeg at h
    cases h
  | succ q ih =>
    intro fr v0 v1 v2 v3 μ z h
    unfold fX2_tryLeg at h
    obtain ⟨c_v0, h⟩ := chk_some h
    refine ZFn.of (ls := [(0, .ref v0), (1, .int v1), (2, .int v2), (3, .int v3)]) (by decide) (fun ξ => Nat.le_of_ble_eq_true rfl) (fun ξ => rfl) ?_
    refine V_iload_n 1 (zdk tbX2_tryLeg_0_ok 0 rfl) rfl ?_
    refine V_iload_n 2 (zdk tbX2_tryLeg_0_ok 1 rfl) rfl ?_
    refine V_icmp_ge (tgt := 14) (zdk tbX2_tryLeg_0_ok 2 rfl) (by decide) (fun c1 => ?_) (fun c1 => ?_)
    · replace h := ite_t h c1
      refine V_sub (ls' := [(0, .ref v0), (1, .int v1)]) [0, 1] rfl ?_
      exact tX2_tryLeg_b14 (fun v0 v1 v2 v3 μ y h => ih v0 v1 v2 v3 μ y h) v0 v1 μ c_v0 h
    · replace h := ite_f h c1
      refine V_iload_n 1 (zdk tbX2_tryLeg_0_ok 3 rfl) rfl ?_
      refine V_if_lt (tgt := 14) (zdk tbX2_tryLeg_0_ok 4 rfl) (by decide) (fun c2 => ?_) (fun c2 => ?_)
      · replace h := ite_t h c2
        refine V_sub (ls' := [(0, .ref v0), (1, .int v1)]) [0, 1] rfl ?_
        exact tX2_tryLeg_b14 (fun v0 v1 v2 v3 μ y h => ih v0 v1 v2 v3 μ y h) v0 v1 μ c_v0 h
      · replace h := ite_f h c2
        refine V_iload_n 1 (zdk tbX2_tryLeg_0_ok 5 rfl) rfl ?_
        refine V_iconst (v := 4) (zdk tbX2_tryLeg_0_ok 6 rfl) rfl ?_
        refine V_icmp_lt (tgt := 20) (zdk tbX2_tryLeg_0_ok 7 rfl) (by decide) (fun c3 => ?_) (fun c3 => ?_)
        · replace h := ite_t h c3
          refine V_aload_n 0 (zdk tbX2_tryLeg_0_ok 12 rfl) rfl ?_
          obtain ⟨r4, q5, h⟩ := bd1_some h
          obtain ⟨q5, c_r4⟩ := zRc_some q5
          refine V_getR (zdk tbX2_tryLeg_0_ok 13 rfl) c_v0 fF2_11 rfl q5 ?_
          refine V_iload_n 1 (zdk tbX2_tryLeg_0_ok 14 rfl) rfl ?_
          obtain ⟨b6, h⟩ := chk_some h
          obtain ⟨r7, q8, h⟩ := bd1_some h
          obtain ⟨q8, c_r7⟩ := zRc_some q8
          refine V_aald3 (zdk tbX2_tryLeg_0_ok 15 rfl) c_r4 b6 q8 ?_
          refine V_astore (ls' := [(0, .ref v0), (1, .int v1), (2, .int v2), (3, .int v3), (4, .ref r7)]) [1, 2, 3, 4, 0] (zdk tbX2_tryLeg_0_ok 16 rfl) (Nat.le_of_ble_eq_true rfl) rfl ?_
          refine V_aload_n 0 (zdk tbX2_tryLeg_0_ok 17 rfl) rfl ?_
          obtain ⟨r9, q10, h⟩ := bd1_some h
          obtain ⟨q10, c_r9⟩ := zRc_some q10
          refine V_getR (zdk tbX2_tryLeg_0_ok 18 rfl) c_v0 fF2_11 rfl q10 ?_
          refine V_iload_n 1 (zdk tbX2_tryLeg_0_ok 19 rfl) rfl ?_
          refine V_iconst (v := 1) (zdk tbX2_tryLeg_0_ok 20 rfl) rfl ?_
          refine V_iadd (zdk tbX2_tryLeg_0_ok 21 rfl) ?_
          obtain ⟨b11, h⟩ := chk_some h
          obtain ⟨r12, q13, h⟩ := bd1_some h
          obtain ⟨q13, c_r12⟩ := zRc_some q13
          refine V_aald3 (zdk tbX2_tryLeg_0_ok 22 rfl) c_r9 b11 q13 ?_
          refine V_astore (ls' := [(0, .ref v0), (1, .int v1), (2, .int v2), (3, .int v3), (4, .ref r7), (5, .ref r12)]) [1, 2, 3, 4, 5, 0] (zdk tbX2_tryLeg_0_ok 23 rfl) (Nat.le_of_ble_eq_true rfl) rfl ?_
          refine V_iconst (v := 0) (zdk tbX2_tryLeg_0_ok 24 rfl) rfl ?_
          refine V_istore (ls' := [(0, .ref v0), (1, .int v1), (2, .int v2), (3, .int v3), (4, .ref r7), (5, .ref r12), (6, .int (0 : Int32))]) [1, 2, 3, 4, 5, 6, 0] (zdk tbX2_tryLeg_0_ok 25 rfl) (Nat.le_of_ble_eq_true rfl) rfl ?_
          exact tX2_tryLeg_b41 (fun v0 v1 v2 v3 μ y h => ih v0 v1 v2 v3 μ y h) FU v0 v1 v2 v3 r7 r12 (0 : Int32) μ c_v0 c_r7 c_r12 h
        · replace h := ite_f h c3
          refine V_sub (ls' := [(0, .ref v0), (1, .int v1)]) [0, 1] rfl ?_
          exact tX2_tryLeg_b14 (fun v0 v1 v2 v3 μ y h => ih v0 v1 v2 v3 μ y h) v0 v1 μ c_v0 h

-- WhoComplainsCarries$RelaySearch.seek
def tbX2_seek_0 : List (Nat × Instr × Nat) := [(0, .aload_n 0, 1), (1, .getfield 11, 3), (4, .iconst 0, 1), (5, .aaload, 1), (6, .aload_n 1, 1), (7, .invokevirtual 29, 3), (10, .aload_n 0, 1), (11, .iconst (-1), 1), (12, .putfield 25, 3), (15, .aload_n 0, 1), (16, .iconst 0, 1), (17, .iload_n 2, 1), (18, .iconst 4, 1), (19, .invokestatic 33, 3), (22, .iload_n 3, 1), (23, .invokestatic 39, 3), (26, .return_, 1)]
theorem tbX2_seek_0_ok : ∀ q ∈ tbX2_seek_0, decode cX2_seek q.1 = .ok (q.2.1, q.2.2) := by decide +kernel
theorem wM2_33 : Cond.methodLink RX2 33 Lib.Math.min.name ∈ zT := zin (i := 630) (by decide +kernel) rfl
def fX2_seek (n : Nat) (v0 : Nat) (v1 : Nat) (v2 : Int32) (v3 : Int32) (μ : ZMem) : Option (ZMem) := chk (isC n 2 v0) (chk (isC n 4 v1) (bd1 (zRc n 103 μ v0 0) (fun r1 => chk (inb (0 : Int32) r1) (bd1 (zRc n 4 μ r1 (0 : Int32).toNatClampNeg) (fun r4 => bd1 (fX4_load n r4 v1 μ) (fun μ7 => lt (zpI μ7 v0 3 (-1 : Int32)) (fun μ8 => bd1 (fX2_tryLeg n FD v0 (0 : Int32) (if (4 : Int32) < v2 then (4 : Int32) else v2) v3 μ8) (fun μ11 => some μ11))))))))
theorem tX2_seek {l : Launch} {fr : Bool} {n : Nat} {v0 : Nat} {v1 : Nat} {v2 : Int32} {v3 : Int32} {μ : ZMem} {z : ZMem} (h : fX2_seek n v0 v1 v2 v3 μ = some z) : ZFn l mX2_seek (rmd 47) [.ref v0, .ref v1, .int v2, .int v3] fr n μ (fr, n, z, none) := by
  unfold fX2_seek at h
  obtain ⟨c_v0, h⟩ := chk_some h
  obtain ⟨c_v1, h⟩ := chk_some h
  refine ZFn.of (ls := [(0, .ref v0), (1, .ref v1), (2, .int v2), (3, .int v3)]) (by decide) (fun ξ => Nat.le_of_ble_eq_true rfl) (fun ξ => rfl) ?_
  refine V_aload_n 0 (zdk tbX2_seek_0_ok 0 rfl) rfl ?_
  obtain ⟨r1, q2, h⟩ := bd1_some h
  obtain ⟨q2, c_r1⟩ := zRc_some q2
  refine V_getR (zdk tbX2_seek_0_ok 1 rfl) c_v0 fF2_11 rfl q2 ?_
  refine V_iconst (v := 0) (zdk tbX2_seek_0_ok 2 rfl) rfl ?_
  obtain ⟨b3, h⟩ := chk_some h
  obtain ⟨r4, q5, h⟩ := bd1_some h
  obtain ⟨q5, c_r4⟩ := zRc_some q5
  refine V_aald3 (zdk tbX2_seek_0_ok 3 rfl) c_r1 b3 q5 ?_
  refine V_aload_n 1 (zdk tbX2_seek_0_ok 4 rfl) rfl ?_
  obtain ⟨μ7, q6, h⟩ := bd1_some h
  refine V_callV (R1 := (rmd 2)) (As := [.ref v1]) (r := none) (zdk tbX2_seek_0_ok 5 rfl) sC2_29 (tX4_load q6) (c_r4) rfl rfl rfl ⟨Nat.le_of_ble_eq_true rfl, Nat.le_of_ble_eq_true rfl⟩ (Nat.le_of_ble_eq_true rfl) ⟨rfl, rfl⟩ id ?_
  refine V_aload_n 0 (zdk tbX2_seek_0_ok 6 rfl) rfl ?_
  refine V_iconst (v := (-1)) (zdk tbX2_seek_0_ok 7 rfl) rfl ?_
  obtain ⟨μ8, e9, h⟩ := lt_some h
  refine V_putI (zdk tbX2_seek_0_ok 8 rfl) c_v0 fF2_25 rfl rfl rfl e9 ?_
  refine V_aload_n 0 (zdk tbX2_seek_0_ok 9 rfl) rfl ?_
  refine V_iconst (v := 0) (zdk tbX2_seek_0_ok 10 rfl) rfl ?_
  refine V_iload_n 2 (zdk tbX2_seek_0_ok 11 rfl) rfl ?_
  refine V_iconst (v := 4) (zdk tbX2_seek_0_ok 12 rfl) rfl ?_
  refine V_min (zdk tbX2_seek_0_ok 13 rfl) wM2_33 wMs_min wMi wMc_min ⟨Nat.le_of_ble_eq_true rfl, Nat.le_of_ble_eq_true rfl⟩ (Nat.le_of_ble_eq_true rfl) ?_
  refine V_iload_n 3 (zdk tbX2_seek_0_ok 14 rfl) rfl ?_
  obtain ⟨μ11, q10, h⟩ := bd1_some h
  refine V_callS (R1 := (rmd (5 + FD))) (As := [.ref v0, .int (0 : Int32), .int (if (4 : Int32) < v2 then (4 : Int32) else v2), .int v3]) (r := none) (zdk tbX2_seek_0_ok 15 rfl) sC2_39 (tX2_tryLeg FD v0 (0 : Int32) (if (4 : Int32) < v2 then (4 : Int32) else v2) v3 μ8 _ q10) rfl rfl ⟨Nat.le_of_ble_eq_true rfl, Nat.le_of_ble_eq_true rfl⟩ (Nat.le_of_ble_eq_true rfl) ⟨rfl, rfl⟩ id ?_
  cases h
  exact V_vret (zdk tbX2_seek_0_ok 16 rfl) rfl rfl

-- WhoComplainsCarries$RelaySearch.bestOnLeg
def tbX2_bestOnLeg_0 : List (Nat × Instr × Nat) := [(0, .aload_n 0, 1), (1, .getfield 25, 3), (4, .iconst (-1), 1), (5, .if_icmp .eq 21, 3), (8, .iload_n 1, 1), (9, .iconst 0, 1), (10, .iconst 3, 1), (11, .invokestatic 43, 3), (14, .ifCond .eq 12, 3), (17, .aload_n 0, 1), (18, .getfield 22, 3), (21, .iload_n 1, 1), (22, .iaload, 1), (23, .goto 4, 3), (26, .iconst (-1), 1), (27, .ireturn, 1)]
theorem tbX2_bestOnLeg_0_ok : ∀ q ∈ tbX2_bestOnLeg_0, decode cX2_bestOnLeg q.1 = .ok (q.2.1, q.2.2) := by decide +kernel
def fX2_bestOnLeg_b27 (n : Nat) (s0 : Int32) (μ : ZMem) : Option (ZMem × Int32) := some (μ, s0)
theorem tX2_bestOnLeg_b27 {l : Launch} {fr : Bool} {n : Nat} {z : ZMem × Int32} (s0 : Int32) (μ : ZMem) (h : fX2_bestOnLeg_b27 n s0 μ = some z) : V (zkI l mX2_bestOnLeg (rmd 2) fr n z) fr 27 [] [.int s0] n μ := by
  unfold fX2_bestOnLeg_b27 at h
  cases h
  exact V_iret (zdk tbX2_bestOnLeg_0_ok 15 rfl) rfl rfl
def fX2_bestOnLeg_b26 (n : Nat) (μ : ZMem) : Option (ZMem × Int32) := (fX2_bestOnLeg_b27 n (-1 : Int32) μ)
theorem tX2_bestOnLeg_b26 {l : Launch} {fr : Bool} {n : Nat} {z : ZMem × Int32} (μ : ZMem) (h : fX2_bestOnLeg_b26 n μ = some z) : V (zkI l mX2_bestOnLeg (rmd 2) fr n z) fr 26 [] [] n μ := by
  unfold fX2_bestOnLeg_b26 at h
  refine V_iconst (v := (-1)) (zdk tbX2_bestOnLeg_0_ok 14 rfl) rfl ?_
  exact tX2_bestOnLeg_b27 (-1 : Int32) μ  h
def fX2_bestOnLeg (n : Nat) (v0 : Nat) (v1 : Int32) (μ : ZMem) : Option (ZMem × Int32) := chk (isC n 2 v0) ((if (zI μ v0 3) = (-1 : Int32) then (fX2_bestOnLeg_b26 n  μ) else bd2 (fX6_isIn n v1 (0 : Int32) (3 : Int32) μ) (fun μ3 r4 => (if r4 = 0 then (fX2_bestOnLeg_b26 n  μ3) else bd1 (zRc n 100 μ3 v0 2) (fun r6 => chk (inb v1 r6) ((fX2_bestOnLeg_b27 n (zI μ3 r6 v1.toNatClampNeg) μ3)))))))
theorem tX2_bestOnLeg {l : Launch} {fr : Bool} {n : Nat} {v0 : Nat} {v1 : Int32} {μ : ZMem} {z : ZMem × Int32} (h : fX2_bestOnLeg n v0 v1 μ = some z) : ZFn l mX2_bestOnLeg (rmd 2) [.ref v0, .int v1] fr n μ (fr, n, z.1, some (.int z.2)) := by
  unfold fX2_bestOnLeg at h
  obtain ⟨c_v0, h⟩ := chk_some h
  refine ZFn.of (ls := [(0, .ref v0), (1, .int v1)]) (by decide) (fun ξ => Nat.le_of_ble_eq_true rfl) (fun ξ => rfl) ?_
  refine V_aload_n 0 (zdk tbX2_bestOnLeg_0_ok 0 rfl) rfl ?_
  refine V_getI (zdk tbX2_bestOnLeg_0_ok 1 rfl) c_v0 fF2_25 rfl ?_
  refine V_iconst (v := (-1)) (zdk tbX2_bestOnLeg_0_ok 2 rfl) rfl ?_
  refine V_icmp_eq (tgt := 26) (zdk tbX2_bestOnLeg_0_ok 3 rfl) (by decide) (fun c1 => ?_) (fun c1 => ?_)
  · replace h := ite_t h c1
    refine V_sub (ls' := []) [] rfl ?_
    exact tX2_bestOnLeg_b26  μ  h
  · replace h := ite_f h c1
    refine V_iload_n 1 (zdk tbX2_bestOnLeg_0_ok 4 rfl) rfl ?_
    refine V_iconst (v := 0) (zdk tbX2_bestOnLeg_0_ok 5 rfl) rfl ?_
    refine V_iconst (v := 3) (zdk tbX2_bestOnLeg_0_ok 6 rfl) rfl ?_
    obtain ⟨μ3, r4, q2, h⟩ := bd2_some h
    refine V_callN (R1 := (rmd 1)) (As := [.int v1, .int (0 : Int32), .int (3 : Int32)]) (r := (some (.int r4))) (zdk tbX2_bestOnLeg_0_ok 7 rfl) sC2_43 (tX6_isIn q2) rfl rfl ⟨Nat.le_of_ble_eq_true rfl, Nat.le_of_ble_eq_true rfl⟩ (Nat.le_of_ble_eq_true rfl) ⟨rfl, rfl⟩ id ?_
    refine V_if_eq (tgt := 26) (zdk tbX2_bestOnLeg_0_ok 8 rfl) (by decide) (fun c5 => ?_) (fun c5 => ?_)
    · replace h := ite_t h c5
      refine V_sub (ls' := []) [] rfl ?_
      exact tX2_bestOnLeg_b26  μ3  h
    · replace h := ite_f h c5
      refine V_aload_n 0 (zdk tbX2_bestOnLeg_0_ok 9 rfl) rfl ?_
      obtain ⟨r6, q7, h⟩ := bd1_some h
      obtain ⟨q7, c_r6⟩ := zRc_some q7
      refine V_getR (zdk tbX2_bestOnLeg_0_ok 10 rfl) c_v0 fF2_22 rfl q7 ?_
      refine V_iload_n 1 (zdk tbX2_bestOnLeg_0_ok 11 rfl) rfl ?_
      obtain ⟨b8, h⟩ := chk_some h
      refine V_iald (zdk tbX2_bestOnLeg_0_ok 12 rfl) c_r6 b8 ?_
      refine V_goto (tgt := 27) (zdk tbX2_bestOnLeg_0_ok 13 rfl) (by decide) ?_
      refine V_sub (ls' := []) [] rfl ?_
      exact tX2_bestOnLeg_b27 (zI μ3 r6 v1.toNatClampNeg) μ3  h

-- WhoComplainsCarries$VowReader.<init>
def tbX5_init_0 : List (Nat × Instr × Nat) := [(0, .aload_n 0, 1), (1, .invokespecial 3, 3), (4, .aload_n 0, 1), (5, .sipush 160, 3), (8, .newarray .int, 2), (10, .putfield 9, 3), (13, .aload_n 0, 1), (14, .iconst 0, 1), (15, .putfield 15, 3), (18, .aload_n 0, 1), (19, .new 19, 3), (22, .dup, 1), (23, .invokespecial 21, 3), (26, .putfield 22, 3), (29, .aload_n 0, 1), (30, .iconst 0, 1), (31, .putfield 26, 3), (34, .aload_n 0, 1), (35, .iconst (-1), 1), (36, .putfield 29, 3), (39, .return_, 1)]
theorem tbX5_init_0_ok : ∀ q ∈ tbX5_init_0, decode cX5_init q.1 = .ok (q.2.1, q.2.2) := by decide +kernel
theorem wO5_3 : Cond.methodLink RX5 3 Lib.objectInit ∈ zT := zin (i := 168) (by decide +kernel) rfl
theorem fF5_9 : zF RX5 9 5 0 := ⟨_, rfl, by decide, zin (i := 171) (by decide +kernel) rfl⟩
theorem fF5_15 : zF RX5 15 5 1 := ⟨_, rfl, by decide, zin (i := 172) (by decide +kernel) rfl⟩
theorem wN5_19 : Cond.classLink RX5 19 RX4 ∈ zT := zin (i := 169) (by decide +kernel) rfl
theorem sC5_21 : zCI RX5 21 mX4_init 0 := ⟨zin (i := 170) (by decide +kernel) rfl, zin (i := 54) (by decide +kernel) rfl, rfl, rfl, wCX4_init⟩
theorem fF5_22 : zF RX5 22 5 2 := ⟨_, rfl, by decide, zin (i := 173) (by decide +kernel) rfl⟩
theorem fF5_26 : zF RX5 26 5 3 := ⟨_, rfl, by decide, zin (i := 175) (by decide +kernel) rfl⟩
theorem fF5_29 : zF RX5 29 5 4 := ⟨_, rfl, by decide, zin (i := 176) (by decide +kernel) rfl⟩
def fX5_init (n0 : Nat) (v0 : Nat) (μ : ZMem) : Option (Nat × ZMem) := chk (isC n0 5 v0) (chk (nwa n0 100 160) (chk (zrm (n0 + 1) n0 10 211) (lt (zmk μ n0) (fun μ3 => lt (zpR μ3 v0 0 n0) (fun μ6 => lt (zpI μ6 v0 1 (0 : Int32)) (fun μ8 => chk (nwo (n0 + 1) 4) (chk (zrm ((n0 + 1) + 1) n0 10 211) (lt (zmk μ8 (n0 + 1)) (fun μ12 => bd2 (fX4_init ((n0 + 1) + 1) (n0 + 1) μ12) (fun n16 μ17 => chk (nxt ((n0 + 1) + 1) n16 8 42) (chk (zrm n16 n0 10 211) (lt (zpR μ17 v0 2 (n0 + 1)) (fun μ21 => lt (zpI μ21 v0 3 (0 : Int32)) (fun μ23 => lt (zpI μ23 v0 4 (-1 : Int32)) (fun μ25 => some (n16, μ25))))))))))))))))
theorem tX5_init {l : Launch} {n0 : Nat} {v0 : Nat} {μ : ZMem} {z : Nat × ZMem} (h : fX5_init n0 v0 μ = some z) : ZFn l mX5_init (rmc 4 10 211) [.ref v0] true n0 μ (true, z.1, z.2, none) := by
  unfold fX5_init at h
  have hn0 : n0 ≤ n0 := Nat.le_refl n0
  obtain ⟨c_v0, h⟩ := chk_some h
  refine ZFn.of (ls := [(0, .ref v0)]) (by decide) (fun ξ => Nat.le_of_ble_eq_true rfl) (fun ξ => rfl) ?_
  refine V_aload_n 0 (zdk tbX5_init_0_ok 0 rfl) rfl ?_
  refine V_obj (zdk tbX5_init_0_ok 1 rfl) wO5_3 wOi wOc ⟨Nat.le_of_ble_eq_true rfl, Nat.le_of_ble_eq_true rfl⟩ (Nat.le_of_ble_eq_true rfl) ?_
  refine V_aload_n 0 (zdk tbX5_init_0_ok 2 rfl) rfl ?_
  refine V_sipush (v := 160) (zdk tbX5_init_0_ok 3 rfl) rfl ?_
  obtain ⟨w1, h⟩ := chk_some h
  obtain ⟨w2, h⟩ := chk_some h
  obtain ⟨μ3, e4, h⟩ := lt_some h
  refine V_newi (zdk tbX5_init_0_ok 4 rfl) rfl (by decide) w1 wA100 (zrm_room w2 rfl rfl rfl) e4 ?_
  replace c_v0 := isC_mono c_v0 (Nat.le_succ n0)
  replace hn0 := Nat.le_succ_of_le hn0
  have c5 := isC_newa w1
  obtain ⟨μ6, e7, h⟩ := lt_some h
  refine V_putR (zdk tbX5_init_0_ok 5 rfl) c_v0 fF5_9 rfl (Or.inr ⟨rfl, fun q hq => by cases hq; rfl⟩) rfl (fun _ => rfl) (fun _ => rfl) e7 ?_
  refine V_aload_n 0 (zdk tbX5_init_0_ok 6 rfl) rfl ?_
  refine V_iconst (v := 0) (zdk tbX5_init_0_ok 7 rfl) rfl ?_
  obtain ⟨μ8, e9, h⟩ := lt_some h
  refine V_putI (zdk tbX5_init_0_ok 8 rfl) c_v0 fF5_15 rfl rfl rfl e9 ?_
  refine V_aload_n 0 (zdk tbX5_init_0_ok 9 rfl) rfl ?_
  obtain ⟨w10, h⟩ := chk_some h
  obtain ⟨w11, h⟩ := chk_some h
  obtain ⟨μ12, e13, h⟩ := lt_some h
  refine V_new (c := 4) (zdk tbX5_init_0_ok 10 rfl) rfl w10 wN5_19 wI4 wZ4 (by decide) (zrm_room w11 rfl rfl rfl) e13 ?_
  replace c_v0 := isC_mono c_v0 (Nat.le_succ (n0 + 1))
  replace c5 := isC_mono c5 (Nat.le_succ (n0 + 1))
  replace hn0 := Nat.le_succ_of_le hn0
  have c14 := isC_new w10
  refine V_dup_r (zdk tbX5_init_0_ok 11 rfl) ?_
  obtain ⟨n16, μ17, q15, h⟩ := bd2_some h
  obtain ⟨w18, h⟩ := chk_some h
  obtain ⟨w19, h⟩ := chk_some h
  refine V_callI (R1 := (rmc 3 8 42)) (As := []) (zdk tbX5_init_0_ok 12 rfl) sC5_21 (tX4_init q15) rfl rfl ⟨Nat.le_of_ble_eq_true rfl, Nat.le_of_ble_eq_true rfl⟩ (Nat.le_of_ble_eq_true rfl) (nxt_of w18) (fun _ => zrm_room w19 rfl rfl rfl) ?_
  have h20 : ((n0 + 1) + 1) ≤ n16 := by rw [(nxt_of w18).1]; exact Nat.le_add_right _ _
  replace c_v0 := isC_mono c_v0 h20
  replace c5 := isC_mono c5 h20
  replace c14 := isC_mono c14 h20
  replace hn0 := Nat.le_trans hn0 h20
  obtain ⟨μ21, e22, h⟩ := lt_some h
  refine V_putR (zdk tbX5_init_0_ok 13 rfl) c_v0 fF5_22 rfl (Or.inr ⟨rfl, fun q hq => by cases hq; rfl⟩) rfl (fun _ => rfl) (fun _ => rfl) e22 ?_
  refine V_aload_n 0 (zdk tbX5_init_0_ok 14 rfl) rfl ?_
  refine V_iconst (v := 0) (zdk tbX5_init_0_ok 15 rfl) rfl ?_
  obtain ⟨μ23, e24, h⟩ := lt_some h
  refine V_putI (zdk tbX5_init_0_ok 16 rfl) c_v0 fF5_26 rfl rfl rfl e24 ?_
  refine V_aload_n 0 (zdk tbX5_init_0_ok 17 rfl) rfl ?_
  refine V_iconst (v := (-1)) (zdk tbX5_init_0_ok 18 rfl) rfl ?_
  obtain ⟨μ25, e26, h⟩ := lt_some h
  refine V_putI (zdk tbX5_init_0_ok 19 rfl) c_v0 fF5_29 rfl rfl rfl e26 ?_
  cases h
  exact V_vret (zdk tbX5_init_0_ok 20 rfl) rfl rfl

-- WhoComplainsCarries$VowReader.takeLetters
def tbX5_takeLetters_0 : List (Nat × Instr × Nat) := [(0, .aload_n 0, 1), (1, .aload_n 1, 1), (2, .getfield 47, 3), (5, .sipush 160, 3), (8, .invokestatic 50, 3), (11, .putfield 15, 3), (14, .iconst 0, 1), (15, .istore_n 2, 1), (16, .iload_n 2, 1), (17, .aload_n 0, 1), (18, .getfield 15, 3), (21, .if_icmp .ge 20, 3), (24, .aload_n 0, 1), (25, .getfield 9, 3), (28, .iload_n 2, 1), (29, .aload_n 1, 1), (30, .iload_n 2, 1), (31, .invokevirtual 56, 3), (34, .iastore, 1), (35, .iinc 2 1, 3), (38, .goto (-22), 3), (41, .return_, 1)]
theorem tbX5_takeLetters_0_ok : ∀ q ∈ tbX5_takeLetters_0, decode cX5_takeLetters q.1 = .ok (q.2.1, q.2.2) := by decide +kernel
theorem sC5_56 : zCV RX5 56 mX3_intAt 1 := ⟨zin (i := 419) (by decide +kernel) rfl, zin (i := 420) (by decide +kernel) rfl, zin (i := 421) (by decide +kernel) rfl, wCX3_intAt⟩
theorem fF5_47 : zF RX5 47 3 2 := ⟨_, rfl, by decide, zin (i := 34) (by decide +kernel) rfl⟩
theorem wM5_50 : Cond.methodLink RX5 50 Lib.Math.min.name ∈ zT := zin (i := 418) (by decide +kernel) rfl
def fX5_takeLetters_b16 (n : Nat) : Nat → Nat → Nat → Int32 → ZMem → Option (ZMem)
  | 0, _, _, _, _ => none
  | k + 1, v0, v1, v2, μ => (if (zI μ v0 1) ≤ v2 then some μ else bd1 (zRc n 100 μ v0 0) (fun r2 => bd2 (fX3_intAt n v1 v2 μ) (fun μ5 r6 => chk (inb v2 r2) (lt (zpI μ5 r2 v2.toNatClampNeg r6) (fun μ8 => (fX5_takeLetters_b16 n k v0 v1 (v2 + (1 : Int32)) μ8))))))
theorem tX5_takeLetters_b16 {l : Launch} {fr : Bool} {n : Nat} {z : ZMem} : ∀ (k : Nat) (v0 : Nat) (v1 : Nat) (v2 : Int32) (μ : ZMem) (c_v0 : isC n 5 v0 = true) (c_v1 : isC n 3 v1 = true), fX5_takeLetters_b16 n k v0 v1 v2 μ = some z → V (zkV l mX5_takeLetters (rmd 5) fr n z) fr 16 [(0, .ref v0), (1, .ref v1), (2, .int v2)] [] n μ := by
  intro k
  induction k with
  | zero =>
    intro v0 v1 v2 μ c_v0 c_v1 h
    unfold fX5_takeLetters_b16 at h
    cases h
  | succ k ih =>
    intro v0 v1 v2 μ c_v0 c_v1 h
    unfold fX5_takeLetters_b16 at h
    refine V_iload_n 2 (zdk tbX5_takeLetters_0_ok 8 rfl) rfl ?_
    refine V_aload_n 0 (zdk tbX5_takeLetters_0_ok 9 rfl) rfl ?_
    refine V_getI (zdk tbX5_takeLetters_0_ok 10 rfl) c_v0 fF5_15 rfl ?_
    refine V_icmp_ge (tgt := 41) (zdk tbX5_takeLetters_0_ok 11 rfl) (by decide) (fun c1 => ?_) (fun c1 => ?_)
    · replace h := ite_t h c1
      cases h
      exact V_vret (zdk tbX5_takeLetters_0_ok 21 rfl) rfl rfl
    · replace h := ite_f h c1
      refine V_aload_n 0 (zdk tbX5_takeLetters_0_ok 12 rfl) rfl ?_
      obtain ⟨r2, q3, h⟩ := bd1_some h
      obtain ⟨q3, c_r2⟩ := zRc_some q3
      refine V_getR (zdk tbX5_takeLetters_0_ok 13 rfl) c_v0 fF5_9 rfl q3 ?_
      refine V_iload_n 2 (zdk tbX5_takeLetters_0_ok 14 rfl) rfl ?_
      refine V_aload_n 1 (zdk tbX5_takeLetters_0_ok 15 rfl) rfl ?_
      refine V_iload_n 2 (zdk tbX5_takeLetters_0_ok 16 rfl) rfl ?_
      obtain ⟨μ5, r6, q4, h⟩ := bd2_some h
      refine V_callV (R1 := (rmd 4)) (As := [.int v2]) (r := (some (.int r6))) (zdk tbX5_takeLetters_0_ok 17 rfl) sC5_56 (tX3_intAt q4) (c_v1) rfl rfl rfl ⟨Nat.le_of_ble_eq_true rfl, Nat.le_of_ble_eq_true rfl⟩ (Nat.le_of_ble_eq_true rfl) ⟨rfl, rfl⟩ id ?_
      obtain ⟨b7, h⟩ := chk_some h
      obtain ⟨μ8, e9, h⟩ := lt_some h
      refine V_iast (zdk tbX5_takeLetters_0_ok 18 rfl) c_r2 b7 e9 ?_
      refine V_inc (dx := 1) (ls' := [(0, .ref v0), (1, .ref v1), (2, .int (v2 + (1 : Int32)))]) 2 [1, 2, 0] (zdk tbX5_takeLetters_0_ok 19 rfl) rfl (Nat.le_of_ble_eq_true rfl) rfl rfl ?_
      refine V_goto (tgt := 16) (zdk tbX5_takeLetters_0_ok 20 rfl) (by decide) ?_
      exact ih v0 v1 (v2 + (1 : Int32)) μ8 c_v0 c_v1 h
def fX5_takeLetters (n : Nat) (v0 : Nat) (v1 : Nat) (μ : ZMem) : Option (ZMem) := chk (isC n 5 v0) (chk (isC n 3 v1) (lt (zpI μ v0 1 (if (160 : Int32) < (zI μ v1 2) then (160 : Int32) else (zI μ v1 2))) (fun μ1 => (fX5_takeLetters_b16 n FU v0 v1 (0 : Int32) μ1))))
theorem tX5_takeLetters {l : Launch} {fr : Bool} {n : Nat} {v0 : Nat} {v1 : Nat} {μ : ZMem} {z : ZMem} (h : fX5_takeLetters n v0 v1 μ = some z) : ZFn l mX5_takeLetters (rmd 5) [.ref v0, .ref v1] fr n μ (fr, n, z, none) := by
  unfold fX5_takeLetters at h
  obtain ⟨c_v0, h⟩ := chk_some h
  obtain ⟨c_v1, h⟩ := chk_some h
  refine ZFn.of (ls := [(0, .ref v0), (1, .ref v1)]) (by decide) (fun ξ => Nat.le_of_ble_eq_true rfl) (fun ξ => rfl) ?_
  refine V_aload_n 0 (zdk tbX5_takeLetters_0_ok 0 rfl) rfl ?_
  refine V_aload_n 1 (zdk tbX5_takeLetters_0_ok 1 rfl) rfl ?_
  refine V_getI (zdk tbX5_takeLetters_0_ok 2 rfl) c_v1 fF5_47 rfl ?_
  refine V_sipush (v := 160) (zdk tbX5_takeLetters_0_ok 3 rfl) rfl ?_
  refine V_min (zdk tbX5_takeLetters_0_ok 4 rfl) wM5_50 wMs_min wMi wMc_min ⟨Nat.le_of_ble_eq_true rfl, Nat.le_of_ble_eq_true rfl⟩ (Nat.le_of_ble_eq_true rfl) ?_
  obtain ⟨μ1, e2, h⟩ := lt_some h
  refine V_putI (zdk tbX5_takeLetters_0_ok 5 rfl) c_v0 fF5_15 rfl rfl rfl e2 ?_
  refine V_iconst (v := 0) (zdk tbX5_takeLetters_0_ok 6 rfl) rfl ?_
  refine V_istore_n (ls' := [(0, .ref v0), (1, .ref v1), (2, .int (0 : Int32))]) [1, 2, 0] (zdk tbX5_takeLetters_0_ok 7 rfl) (Nat.le_of_ble_eq_true rfl) rfl ?_
  exact tX5_takeLetters_b16 FU v0 v1 (0 : Int32) μ1 c_v0 c_v1 h

-- WhoComplainsCarries$VowReader.letterHere
def tbX5_letterHere_0 : List (Nat × Instr × Nat) := [(0, .aload_n 0, 1), (1, .getfield 26, 3), (4, .ifCond .lt 30, 3), (7, .aload_n 0, 1), (8, .getfield 26, 3), (11, .aload_n 0, 1), (12, .getfield 15, 3), (15, .if_icmp .ge 19, 3), (18, .aload_n 0, 1), (19, .getfield 26, 3), (22, .aload_n 0, 1), (23, .getfield 9, 3), (26, .arraylength, 1), (27, .if_icmp .ge 7, 3), (30, .iconst 1, 1), (31, .goto 4, 3), (34, .iconst 0, 1), (35, .istore_n 1, 1), (36, .iload_n 1, 1), (37, .ifCond .eq 15, 3), (40, .aload_n 0, 1), (41, .getfield 9, 3), (44, .aload_n 0, 1), (45, .getfield 26, 3), (48, .iaload, 1), (49, .goto 4, 3), (52, .iconst (-1), 1), (53, .ireturn, 1)]
theorem tbX5_letterHere_0_ok : ∀ q ∈ tbX5_letterHere_0, decode cX5_letterHere q.1 = .ok (q.2.1, q.2.2) := by decide +kernel
def fX5_letterHere_b53 (n : Nat) (s0 : Int32) (μ : ZMem) : Option (ZMem × Int32) := some (μ, s0)
theorem tX5_letterHere_b53 {l : Launch} {fr : Bool} {n : Nat} {z : ZMem × Int32} (s0 : Int32) (μ : ZMem) (h : fX5_letterHere_b53 n s0 μ = some z) : V (zkI l mX5_letterHere (rmd 1) fr n z) fr 53 [] [.int s0] n μ := by
  unfold fX5_letterHere_b53 at h
  cases h
  exact V_iret (zdk tbX5_letterHere_0_ok 27 rfl) rfl rfl
def fX5_letterHere_b35 (n : Nat) (v0 : Nat) (s0 : Int32) (μ : ZMem) : Option (ZMem × Int32) := (if s0 = 0 then (fX5_letterHere_b53 n (-1 : Int32) μ) else bd1 (zRc n 100 μ v0 0) (fun r2 => chk (inb (zI μ v0 3) r2) ((fX5_letterHere_b53 n (zI μ r2 (zI μ v0 3).toNatClampNeg) μ))))
theorem tX5_letterHere_b35 {l : Launch} {fr : Bool} {n : Nat} {z : ZMem × Int32} (v0 : Nat) (s0 : Int32) (μ : ZMem) (c_v0 : isC n 5 v0 = true) (h : fX5_letterHere_b35 n v0 s0 μ = some z) : V (zkI l mX5_letterHere (rmd 1) fr n z) fr 35 [(0, .ref v0)] [.int s0] n μ := by
  unfold fX5_letterHere_b35 at h
  refine V_istore_n (ls' := [(0, .ref v0), (1, .int s0)]) [1, 0] (zdk tbX5_letterHere_0_ok 17 rfl) (Nat.le_of_ble_eq_true rfl) rfl ?_
  refine V_iload_n 1 (zdk tbX5_letterHere_0_ok 18 rfl) rfl ?_
  refine V_if_eq (tgt := 52) (zdk tbX5_letterHere_0_ok 19 rfl) (by decide) (fun c1 => ?_) (fun c1 => ?_)
  · replace h := ite_t h c1
    refine V_iconst (v := (-1)) (zdk tbX5_letterHere_0_ok 26 rfl) rfl ?_
    refine V_sub (ls' := []) [] rfl ?_
    exact tX5_letterHere_b53 (-1 : Int32) μ  h
  · replace h := ite_f h c1
    refine V_aload_n 0 (zdk tbX5_letterHere_0_ok 20 rfl) rfl ?_
    obtain ⟨r2, q3, h⟩ := bd1_some h
    obtain ⟨q3, c_r2⟩ := zRc_some q3
    refine V_getR (zdk tbX5_letterHere_0_ok 21 rfl) c_v0 fF5_9 rfl q3 ?_
    refine V_aload_n 0 (zdk tbX5_letterHere_0_ok 22 rfl) rfl ?_
    refine V_getI (zdk tbX5_letterHere_0_ok 23 rfl) c_v0 fF5_26 rfl ?_
    obtain ⟨b4, h⟩ := chk_some h
    refine V_iald (zdk tbX5_letterHere_0_ok 24 rfl) c_r2 b4 ?_
    refine V_goto (tgt := 53) (zdk tbX5_letterHere_0_ok 25 rfl) (by decide) ?_
    refine V_sub (ls' := []) [] rfl ?_
    exact tX5_letterHere_b53 (zI μ r2 (zI μ v0 3).toNatClampNeg) μ  h
def fX5_letterHere_b34 (n : Nat) (v0 : Nat) (μ : ZMem) : Option (ZMem × Int32) := (fX5_letterHere_b35 n v0 (0 : Int32) μ)
theorem tX5_letterHere_b34 {l : Launch} {fr : Bool} {n : Nat} {z : ZMem × Int32} (v0 : Nat) (μ : ZMem) (c_v0 : isC n 5 v0 = true) (h : fX5_letterHere_b34 n v0 μ = some z) : V (zkI l mX5_letterHere (rmd 1) fr n z) fr 34 [(0, .ref v0)] [] n μ := by
  unfold fX5_letterHere_b34 at h
  refine V_iconst (v := 0) (zdk tbX5_letterHere_0_ok 16 rfl) rfl ?_
  exact tX5_letterHere_b35 v0 (0 : Int32) μ c_v0 h
def fX5_letterHere (n : Nat) (v0 : Nat) (μ : ZMem) : Option (ZMem × Int32) := chk (isC n 5 v0) ((if (zI μ v0 3) < 0 then (fX5_letterHere_b34 n v0 μ) else (if (zI μ v0 1) ≤ (zI μ v0 3) then (fX5_letterHere_b34 n v0 μ) else bd1 (zRc n 100 μ v0 0) (fun r3 => (if (Int32.ofNat (zsz r3)) ≤ (zI μ v0 3) then (fX5_letterHere_b34 n v0 μ) else (fX5_letterHere_b35 n v0 (1 : Int32) μ))))))
theorem tX5_letterHere {l : Launch} {fr : Bool} {n : Nat} {v0 : Nat} {μ : ZMem} {z : ZMem × Int32} (h : fX5_letterHere n v0 μ = some z) : ZFn l mX5_letterHere (rmd 1) [.ref v0] fr n μ (fr, n, z.1, some (.int z.2)) := by
  unfold fX5_letterHere at h
  obtain ⟨c_v0, h⟩ := chk_some h
  refine ZFn.of (ls := [(0, .ref v0)]) (by decide) (fun ξ => Nat.le_of_ble_eq_true rfl) (fun ξ => rfl) ?_
  refine V_aload_n 0 (zdk tbX5_letterHere_0_ok 0 rfl) rfl ?_
  refine V_getI (zdk tbX5_letterHere_0_ok 1 rfl) c_v0 fF5_26 rfl ?_
  refine V_if_lt (tgt := 34) (zdk tbX5_letterHere_0_ok 2 rfl) (by decide) (fun c1 => ?_) (fun c1 => ?_)
  · replace h := ite_t h c1
    exact tX5_letterHere_b34 v0 μ c_v0 h
  · replace h := ite_f h c1
    refine V_aload_n 0 (zdk tbX5_letterHere_0_ok 3 rfl) rfl ?_
    refine V_getI (zdk tbX5_letterHere_0_ok 4 rfl) c_v0 fF5_26 rfl ?_
    refine V_aload_n 0 (zdk tbX5_letterHere_0_ok 5 rfl) rfl ?_
    refine V_getI (zdk tbX5_letterHere_0_ok 6 rfl) c_v0 fF5_15 rfl ?_
    refine V_icmp_ge (tgt := 34) (zdk tbX5_letterHere_0_ok 7 rfl) (by decide) (fun c2 => ?_) (fun c2 => ?_)
    · replace h := ite_t h c2
      exact tX5_letterHere_b34 v0 μ c_v0 h
    · replace h := ite_f h c2
      refine V_aload_n 0 (zdk tbX5_letterHere_0_ok 8 rfl) rfl ?_
      refine V_getI (zdk tbX5_letterHere_0_ok 9 rfl) c_v0 fF5_26 rfl ?_
      refine V_aload_n 0 (zdk tbX5_letterHere_0_ok 10 rfl) rfl ?_
      obtain ⟨r3, q4, h⟩ := bd1_some h
      obtain ⟨q4, c_r3⟩ := zRc_some q4
      refine V_getR (zdk tbX5_letterHere_0_ok 11 rfl) c_v0 fF5_9 rfl q4 ?_
      refine V_alenI (zdk tbX5_letterHere_0_ok 12 rfl) c_r3 ?_
      refine V_icmp_ge (tgt := 34) (zdk tbX5_letterHere_0_ok 13 rfl) (by decide) (fun c5 => ?_) (fun c5 => ?_)
      · replace h := ite_t h c5
        exact tX5_letterHere_b34 v0 μ c_v0 h
      · replace h := ite_f h c5
        refine V_iconst (v := 1) (zdk tbX5_letterHere_0_ok 14 rfl) rfl ?_
        refine V_goto (tgt := 35) (zdk tbX5_letterHere_0_ok 15 rfl) (by decide) ?_
        exact tX5_letterHere_b35 v0 (1 : Int32) μ c_v0 h

-- WhoComplainsCarries$VowReader.lettersOf
def tbX5_lettersOf_0 : List (Nat × Instr × Nat) := [(0, .iload_n 0, 1), (1, .tableswitch 64 0 6 #[43, 46, 49, 52, 55, 58, 61], 43), (44, .ldc 121, 2), (46, .areturn, 1), (47, .ldc 123, 2), (49, .areturn, 1), (50, .ldc 124, 2), (52, .areturn, 1), (53, .ldc 125, 2), (55, .areturn, 1), (56, .ldc 127, 2), (58, .areturn, 1), (59, .ldc 129, 2), (61, .areturn, 1), (62, .ldc 131, 2), (64, .areturn, 1), (65, .ldc 133, 2), (67, .areturn, 1)]
theorem tbX5_lettersOf_0_ok : ∀ q ∈ tbX5_lettersOf_0, decode cX5_lettersOf q.1 = .ok (q.2.1, q.2.2) := by decide +kernel
def fX5_lettersOf (n : Nat) (v0 : Int32) (μ : ZMem) : Option (ZMem × Nat) := (if v0 = (0 : Int32) then some (μ, 1010) else (if v0 = (1 : Int32) then some (μ, 1011) else (if v0 = (2 : Int32) then some (μ, 1012) else (if v0 = (3 : Int32) then some (μ, 1013) else (if v0 = (4 : Int32) then some (μ, 1014) else (if v0 = (5 : Int32) then some (μ, 1015) else (if v0 = (6 : Int32) then some (μ, 1016) else some (μ, 1017))))))))
theorem tX5_lettersOf {l : Launch} {fr : Bool} {n : Nat} {v0 : Int32} {μ : ZMem} {z : ZMem × Nat} (h : fX5_lettersOf n v0 μ = some z) : ZFn l mX5_lettersOf (rmd 1) [.int v0] fr n μ (fr, n, z.1, some (.ref z.2)) := by
  unfold fX5_lettersOf at h
  refine ZFn.of (ls := [(0, .int v0)]) (by decide) (fun ξ => Nat.le_of_ble_eq_true rfl) (fun ξ => rfl) ?_
  refine V_iload_n 0 (zdk tbX5_lettersOf_0_ok 0 rfl) rfl ?_
  by_cases c1 : v0 = (0 : Int32)
  · replace h := ite_t h c1
    refine V_tsw (off := 43) (tgt := 44) 0 c1 (zdk tbX5_lettersOf_0_ok 1 rfl) (by decide) rfl (by decide) ?_
    refine V_ldcS (j := 0) (by decide) rfl rfl (zdk tbX5_lettersOf_0_ok 2 rfl) ?_
    cases h
    exact V_aret (zdk tbX5_lettersOf_0_ok 3 rfl) rfl rfl
  · replace h := ite_f h c1
    by_cases c2 : v0 = (1 : Int32)
    · replace h := ite_t h c2
      refine V_tsw (off := 46) (tgt := 47) 1 c2 (zdk tbX5_lettersOf_0_ok 1 rfl) (by decide) rfl (by decide) ?_
      refine V_ldcS (j := 1) (by decide) rfl rfl (zdk tbX5_lettersOf_0_ok 4 rfl) ?_
      cases h
      exact V_aret (zdk tbX5_lettersOf_0_ok 5 rfl) rfl rfl
    · replace h := ite_f h c2
      by_cases c3 : v0 = (2 : Int32)
      · replace h := ite_t h c3
        refine V_tsw (off := 49) (tgt := 50) 2 c3 (zdk tbX5_lettersOf_0_ok 1 rfl) (by decide) rfl (by decide) ?_
        refine V_ldcS (j := 2) (by decide) rfl rfl (zdk tbX5_lettersOf_0_ok 6 rfl) ?_
        cases h
        exact V_aret (zdk tbX5_lettersOf_0_ok 7 rfl) rfl rfl
      · replace h := ite_f h c3
        by_cases c4 : v0 = (3 : Int32)
        · replace h := ite_t h c4
          refine V_tsw (off := 52) (tgt := 53) 3 c4 (zdk tbX5_lettersOf_0_ok 1 rfl) (by decide) rfl (by decide) ?_
          refine V_ldcS (j := 3) (by decide) rfl rfl (zdk tbX5_lettersOf_0_ok 8 rfl) ?_
          cases h
          exact V_aret (zdk tbX5_lettersOf_0_ok 9 rfl) rfl rfl
        · replace h := ite_f h c4
          by_cases c5 : v0 = (4 : Int32)
          · replace h := ite_t h c5
            refine V_tsw (off := 55) (tgt := 56) 4 c5 (zdk tbX5_lettersOf_0_ok 1 rfl) (by decide) rfl (by decide) ?_
            refine V_ldcS (j := 4) (by decide) rfl rfl (zdk tbX5_lettersOf_0_ok 10 rfl) ?_
            cases h
            exact V_aret (zdk tbX5_lettersOf_0_ok 11 rfl) rfl rfl
          · replace h := ite_f h c5
            by_cases c6 : v0 = (5 : Int32)
            · replace h := ite_t h c6
              refine V_tsw (off := 58) (tgt := 59) 5 c6 (zdk tbX5_lettersOf_0_ok 1 rfl) (by decide) rfl (by decide) ?_
              refine V_ldcS (j := 5) (by decide) rfl rfl (zdk tbX5_lettersOf_0_ok 12 rfl) ?_
              cases h
              exact V_aret (zdk tbX5_lettersOf_0_ok 13 rfl) rfl rfl
            · replace h := ite_f h c6
              by_cases c7 : v0 = (6 : Int32)
              · replace h := ite_t h c7
                refine V_tsw (off := 61) (tgt := 62) 6 c7 (zdk tbX5_lettersOf_0_ok 1 rfl) (by decide) rfl (by decide) ?_
                refine V_ldcS (j := 6) (by decide) rfl rfl (zdk tbX5_lettersOf_0_ok 14 rfl) ?_
                cases h
                exact V_aret (zdk tbX5_lettersOf_0_ok 15 rfl) rfl rfl
              · replace h := ite_f h c7
                refine V_tsw0 (tgt := 65) [0, 1, 2, 3, 4, 5, 6] (List.forall_mem_cons.mpr ⟨c1, List.forall_mem_cons.mpr ⟨c2, List.forall_mem_cons.mpr ⟨c3, List.forall_mem_cons.mpr ⟨c4, List.forall_mem_cons.mpr ⟨c5, List.forall_mem_cons.mpr ⟨c6, List.forall_mem_cons.mpr ⟨c7, fun _ h => absurd h List.not_mem_nil⟩⟩⟩⟩⟩⟩⟩) (zdk tbX5_lettersOf_0_ok 1 rfl) (by decide) (by decide) (by decide) ?_
                refine V_ldcS (j := 7) (by decide) rfl rfl (zdk tbX5_lettersOf_0_ok 16 rfl) ?_
                cases h
                exact V_aret (zdk tbX5_lettersOf_0_ok 17 rfl) rfl rfl

-- WhoComplainsCarries$VowReader.readWord
def tbX5_readWord_0 : List (Nat × Instr × Nat) := [(0, .bipush 127, 2), (2, .istore_n 1, 1), (3, .iconst 0, 1), (4, .istore_n 2, 1), (5, .iload_n 2, 1), (6, .bipush 6, 2), (8, .if_icmp .ge 123, 3), (11, .aload_n 0, 1), (12, .invokevirtual 105, 3), (15, .istore_n 3, 1), (16, .iconst 0, 1), (17, .istore 4, 2), (19, .iconst 0, 1), (20, .istore 5, 2), (22, .iload 5, 2), (24, .bipush 7, 2), (26, .if_icmp .ge 78, 3), (29, .iload 5, 2), (31, .invokestatic 108, 3), (34, .astore 6, 2), (36, .iload_n 1, 1), (37, .iload 5, 2), (39, .ishr, 1), (40, .iconst 1, 1), (41, .iand, 1), (42, .iconst 1, 1), (43, .if_icmp .ne 55, 3), (46, .iload_n 2, 1), (47, .aload 6, 2), (49, .invokevirtual 112, 3), (52, .if_icmp .ge 46, 3), (55, .aload 6, 2), (57, .iload_n 2, 1), (58, .invokevirtual 117, 3), (61, .iload_n 3, 1), (62, .if_icmp .ne 36, 3), (65, .iload 4, 2), (67, .iconst 1, 1), (68, .iload 5, 2), (70, .ishl, 1), (71, .ior, 1), (72, .istore 4, 2), (74, .iload_n 2, 1), (75, .aload 6, 2), (77, .invokevirtual 112, 3), (80, .iconst 1, 1), (81, .isub, 1), (82, .if_icmp .ne 16, 3), (85, .aload_n 0, 1), (86, .dup, 1)]
theorem tbX5_readWord_0_ok : ∀ q ∈ tbX5_readWord_0, decode cX5_readWord q.1 = .ok (q.2.1, q.2.2) := by decide +kernel
def tbX5_readWord_1 : List (Nat × Instr × Nat) := [(87, .getfield 26, 3), (90, .iconst 1, 1), (91, .iadd, 1), (92, .putfield 26, 3), (95, .iload 5, 2), (97, .ireturn, 1), (98, .iinc 5 1, 3), (101, .goto (-79), 3), (104, .iload 4, 2), (106, .ifCond .ne 6, 3), (109, .goto 22, 3), (112, .iload 4, 2), (114, .istore_n 1, 1), (115, .aload_n 0, 1), (116, .dup, 1), (117, .getfield 26, 3), (120, .iconst 1, 1), (121, .iadd, 1), (122, .putfield 26, 3), (125, .iinc 2 1, 3), (128, .goto (-123), 3), (131, .aload_n 0, 1), (132, .aload_n 0, 1), (133, .getfield 26, 3), (136, .putfield 29, 3), (139, .iconst (-1), 1), (140, .ireturn, 1)]
theorem tbX5_readWord_1_ok : ∀ q ∈ tbX5_readWord_1, decode cX5_readWord q.1 = .ok (q.2.1, q.2.2) := by decide +kernel
theorem wCX5_lettersOf : zCW mX5_lettersOf 1 := ⟨zin (i := 6) (by decide +kernel) rfl, zin (i := 446) (by decide +kernel) rfl, by decide +kernel, by decide +kernel, by decide +kernel⟩
theorem sC5_108 : zCS RX5 108 mX5_lettersOf 1 := ⟨zin (i := 444) (by decide +kernel) rfl, zin (i := 445) (by decide +kernel) rfl, wCX5_lettersOf⟩
theorem wCX5_letterHere : zCW mX5_letterHere 0 := ⟨zin (i := 6) (by decide +kernel) rfl, zin (i := 443) (by decide +kernel) rfl, by decide +kernel, by decide +kernel, by decide +kernel⟩
theorem sC5_105 : zCV RX5 105 mX5_letterHere 0 := ⟨zin (i := 440) (by decide +kernel) rfl, zin (i := 442) (by decide +kernel) rfl, zinP (i := 9) (q := (yX5_letterHere, 5)) (by decide +kernel) rfl, wCX5_letterHere⟩
def fX5_readWord_b98 (g5 : Nat → Int32 → Int32 → ZMem → Option (ZMem × Int32)) (g22 : Nat → Int32 → Int32 → Int32 → Int32 → Int32 → ZMem → Option (ZMem × Int32)) (n : Nat) (v0 : Nat) (v1 : Int32) (v2 : Int32) (v3 : Int32) (v4 : Int32) (v5 : Int32) (μ : ZMem) : Option (ZMem × Int32) := (g22 v0 v1 v2 v3 v4 (v5 + (1 : Int32)) μ)
theorem tX5_readWord_b98 {l : Launch} {fr : Bool} {n : Nat} {z : ZMem × Int32} {g5 : Nat → Int32 → Int32 → ZMem → Option (ZMem × Int32)} (hg5 : ∀ (v0 : Nat) (v1 : Int32) (v2 : Int32) (μ : ZMem), isC n 5 v0 = true → g5 v0 v1 v2 μ = some z → V (zkI l mX5_readWord (rmd 5) fr n z) fr 5 [(0, .ref v0), (1, .int v1), (2, .int v2)] [] n μ) {g22 : Nat → Int32 → Int32 → Int32 → Int32 → Int32 → ZMem → Option (ZMem × Int32)} (hg22 : ∀ (v0 : Nat) (v1 : Int32) (v2 : Int32) (v3 : Int32) (v4 : Int32) (v5 : Int32) (μ : ZMem), isC n 5 v0 = true → g22 v0 v1 v2 v3 v4 v5 μ = some z → V (zkI l mX5_readWord (rmd 5) fr n z) fr 22 [(0, .ref v0), (1, .int v1), (2, .int v2), (3, .int v3), (4, .int v4), (5, .int v5)] [] n μ) (v0 : Nat) (v1 : Int32) (v2 : Int32) (v3 : Int32) (v4 : Int32) (v5 : Int32) (μ : ZMem) (c_v0 : isC n 5 v0 = true) (h : fX5_readWord_b98 g5 g22 n v0 v1 v2 v3 v4 v5 μ = some z) : V (zkI l mX5_readWord (rmd 5) fr n z) fr 98 [(0, .ref v0), (1, .int v1), (2, .int v2), (3, .int v3), (4, .int v4), (5, .int v5)] [] n μ := by
  unfold fX5_readWord_b98 at h
  refine V_inc (dx := 1) (ls' := [(0, .ref v0), (1, .int v1), (2, .int v2), (3, .int v3), (4, .int v4), (5, .int (v5 + (1 : Int32)))]) 5 [1, 2, 3, 4, 5, 0] (zdk tbX5_readWord_1_ok 6 rfl) rfl (Nat.le_of_ble_eq_true rfl) rfl rfl ?_
  refine V_goto (tgt := 22) (zdk tbX5_readWord_1_ok 7 rfl) (by decide) ?_
  exact hg22 v0 v1 v2 v3 v4 (v5 + (1 : Int32)) μ c_v0 h
def fX5_readWord_b131 (n : Nat) (v0 : Nat) (μ : ZMem) : Option (ZMem × Int32) := lt (zpI μ v0 4 (zI μ v0 3)) (fun μ1 => some (μ1, (-1 : Int32)))
theorem tX5_readWord_b131 {l : Launch} {fr : Bool} {n : Nat} {z : ZMem × Int32} (v0 : Nat) (μ : ZMem) (c_v0 : isC n 5 v0 = true) (h : fX5_readWord_b131 n v0 μ = some z) : V (zkI l mX5_readWord (rmd 5) fr n z) fr 131 [(0, .ref v0)] [] n μ := by
  unfold fX5_readWord_b131 at h
  refine V_aload_n 0 (zdk tbX5_readWord_1_ok 21 rfl) rfl ?_
  refine V_aload_n 0 (zdk tbX5_readWord_1_ok 22 rfl) rfl ?_
  refine V_getI (zdk tbX5_readWord_1_ok 23 rfl) c_v0 fF5_26 rfl ?_
  obtain ⟨μ1, e2, h⟩ := lt_some h
  refine V_putI (zdk tbX5_readWord_1_ok 24 rfl) c_v0 fF5_29 rfl rfl rfl e2 ?_
  refine V_iconst (v := (-1)) (zdk tbX5_readWord_1_ok 25 rfl) rfl ?_
  cases h
  exact V_iret (zdk tbX5_readWord_1_ok 26 rfl) rfl rfl
def fX5_readWord_b22 (g5 : Nat → Int32 → Int32 → ZMem → Option (ZMem × Int32)) (n : Nat) : Nat → Nat → Int32 → Int32 → Int32 → Int32 → Int32 → ZMem → Option (ZMem × Int32)
  | 0, _, _, _, _, _, _, _ => none
  | k + 1, v0, v1, v2, v3, v4, v5, μ => (if (7 : Int32) ≤ v5 then (if v4 = 0 then (fX5_readWord_b131 n v0 μ) else lt (zpI μ v0 3 ((zI μ v0 3) + (1 : Int32))) (fun μ3 => (g5 v0 v4 (v2 + (1 : Int32)) μ3))) else bd2 (fX5_lettersOf n v5 μ) (fun μ6 r7 => (if ((v1 >>> (v5 &&& 31)) &&& (1 : Int32)) = (1 : Int32) then chk (isT r7) ((if (Int32.ofNat (zslen (r7 - 1010))) ≤ v2 then (fX5_readWord_b98 g5 (fX5_readWord_b22 g5 n k) n v0 v1 v2 v3 v4 v5 μ6) else chk (isT r7) (chk (inN v2 (zslen (r7 - 1010))) ((if (zschr (r7 - 1010) v2.toNatClampNeg) = v3 then chk (isT r7) ((if v2 = ((Int32.ofNat (zslen (r7 - 1010))) - (1 : Int32)) then lt (zpI μ6 v0 3 ((zI μ6 v0 3) + (1 : Int32))) (fun μ16 => some (μ16, v5)) else (fX5_readWord_b98 g5 (fX5_readWord_b22 g5 n k) n v0 v1 v2 v3 (v4 ||| ((1 : Int32) <<< (v5 &&& 31))) v5 μ6))) else (fX5_readWord_b98 g5 (fX5_readWord_b22 g5 n k) n v0 v1 v2 v3 v4 v5 μ6)))))) else (fX5_readWord_b98 g5 (fX5_readWord_b22 g5 n k) n v0 v1 v2 v3 v4 v5 μ6))))
theorem tX5_readWord_b22 {l : Launch} {fr : Bool} {n : Nat} {z : ZMem × Int32} {g5 : Nat → Int32 → Int32 → ZMem → Option (ZMem × Int32)} (hg5 : ∀ (v0 : Nat) (v1 : Int32) (v2 : Int32) (μ : ZMem), isC n 5 v0 = true → g5 v0 v1 v2 μ = some z → V (zkI l mX5_readWord (rmd 5) fr n z) fr 5 [(0, .ref v0), (1, .int v1), (2, .int v2)] [] n μ) : ∀ (k : Nat) (v0 : Nat) (v1 : Int32) (v2 : Int32) (v3 : Int32) (v4 : Int32) (v5 : Int32) (μ : ZMem) (c_v0 : isC n 5 v0 = true), fX5_readWord_b22 g5 n k v0 v1 v2 v3 v4 v5 μ = some z → V (zkI l mX5_readWord (rmd 5) fr n z) fr 22 [(0, .ref v0), (1, .int v1), (2, .int v2), (3, .int v3), (4, .int v4), (5, .int v5)] [] n μ := by
  intro k
  induction k with
  | zero =>
    intro v0 v1 v2 v3 v4 v5 μ c_v0 h
    unfold fX5_readWord_b22 at h
    cases h
  | succ k ih =>
    intro v0 v1 v2 v3 v4 v5 μ c_v0 h
    unfold fX5_readWord_b22 at h
    refine V_iload 5 (zdk tbX5_readWord_0_ok 14 rfl) rfl ?_
    refine V_bipush (v := 7) (zdk tbX5_readWord_0_ok 15 rfl) rfl ?_
    refine V_icmp_ge (tgt := 104) (zdk tbX5_readWord_0_ok 16 rfl) (by decide) (fun c1 => ?_) (fun c1 => ?_)
    · replace h := ite_t h c1
      refine V_iload 4 (zdk tbX5_readWord_1_ok 8 rfl) rfl ?_
      refine V_if_ne (tgt := 112) (zdk tbX5_readWord_1_ok 9 rfl) (by decide) (fun c2 => ?_) (fun c2 => ?_)
      · replace h := ite_f h c2
        refine V_iload 4 (zdk tbX5_readWord_1_ok 11 rfl) rfl ?_
        refine V_istore_n (ls' := [(0, .ref v0), (1, .int v4), (2, .int v2)]) [1, 0, 2] (zdk tbX5_readWord_1_ok 12 rfl) (Nat.le_of_ble_eq_true rfl) rfl ?_
        refine V_aload_n 0 (zdk tbX5_readWord_1_ok 13 rfl) rfl ?_
        refine V_dup_r (zdk tbX5_readWord_1_ok 14 rfl) ?_
        refine V_getI (zdk tbX5_readWord_1_ok 15 rfl) c_v0 fF5_26 rfl ?_
        refine V_iconst (v := 1) (zdk tbX5_readWord_1_ok 16 rfl) rfl ?_
        refine V_iadd (zdk tbX5_readWord_1_ok 17 rfl) ?_
        obtain ⟨μ3, e4, h⟩ := lt_some h
        refine V_putI (zdk tbX5_readWord_1_ok 18 rfl) c_v0 fF5_26 rfl rfl rfl e4 ?_
        refine V_inc (dx := 1) (ls' := [(0, .ref v0), (1, .int v4), (2, .int (v2 + (1 : Int32)))]) 2 [1, 2, 0] (zdk tbX5_readWord_1_ok 19 rfl) rfl (Nat.le_of_ble_eq_true rfl) rfl rfl ?_
        refine V_goto (tgt := 5) (zdk tbX5_readWord_1_ok 20 rfl) (by decide) ?_
        exact hg5 v0 v4 (v2 + (1 : Int32)) μ3 c_v0 h
      · replace h := ite_t h c2
        refine V_goto (tgt := 131) (zdk tbX5_readWord_1_ok 10 rfl) (by decide) ?_
        refine V_sub (ls' := [(0, .ref v0)]) [0] rfl ?_
        exact tX5_readWord_b131 v0 μ c_v0 h
    · replace h := ite_f h c1
      refine V_iload 5 (zdk tbX5_readWord_0_ok 17 rfl) rfl ?_
      obtain ⟨μ6, r7, q5, h⟩ := bd2_some h
      refine V_callS (R1 := (rmd 1)) (As := [.int v5]) (r := (some (.ref r7))) (zdk tbX5_readWord_0_ok 18 rfl) sC5_108 (tX5_lettersOf q5) rfl rfl ⟨Nat.le_of_ble_eq_true rfl, Nat.le_of_ble_eq_true rfl⟩ (Nat.le_of_ble_eq_true rfl) ⟨rfl, rfl⟩ id ?_
      refine V_astore (ls' := [(0, .ref v0), (1, .int v1), (2, .int v2), (3, .int v3), (4, .int v4), (5, .int v5), (6, .ref r7)]) [1, 2, 3, 4, 5, 6, 0] (zdk tbX5_readWord_0_ok 19 rfl) (Nat.le_of_ble_eq_true rfl) rfl ?_
      refine V_iload_n 1 (zdk tbX5_readWord_0_ok 20 rfl) rfl ?_
      refine V_iload 5 (zdk tbX5_readWord_0_ok 21 rfl) rfl ?_
      refine V_ishr (zdk tbX5_readWord_0_ok 22 rfl) ?_
      refine V_iconst (v := 1) (zdk tbX5_readWord_0_ok 23 rfl) rfl ?_
      refine V_iand (zdk tbX5_readWord_0_ok 24 rfl) ?_
      refine V_iconst (v := 1) (zdk tbX5_readWord_0_ok 25 rfl) rfl ?_
      refine V_icmp_ne (tgt := 98) (zdk tbX5_readWord_0_ok 26 rfl) (by decide) (fun c8 => ?_) (fun c8 => ?_)
      · replace h := ite_f h c8
        refine V_sub (ls' := [(0, .ref v0), (1, .int v1), (2, .int v2), (3, .int v3), (4, .int v4), (5, .int v5)]) [0, 1, 2, 3, 4, 5] rfl ?_
        exact tX5_readWord_b98 hg5 (fun v0 v1 v2 v3 v4 v5 μ y0 h => ih v0 v1 v2 v3 v4 v5 μ y0 h) v0 v1 v2 v3 v4 v5 μ6 c_v0 h
      · replace h := ite_t h c8
        refine V_iload_n 2 (zdk tbX5_readWord_0_ok 27 rfl) rfl ?_
        refine V_aload 6 (zdk tbX5_readWord_0_ok 28 rfl) rfl ?_
        obtain ⟨b9, h⟩ := chk_some h
        refine V_tlen b9 rfl (zdk tbX5_readWord_0_ok 29 rfl) ⟨Nat.le_of_ble_eq_true rfl, Nat.le_of_ble_eq_true rfl⟩ (Nat.le_of_ble_eq_true rfl) ?_
        refine V_icmp_ge (tgt := 98) (zdk tbX5_readWord_0_ok 30 rfl) (by decide) (fun c10 => ?_) (fun c10 => ?_)
        · replace h := ite_t h c10
          refine V_sub (ls' := [(0, .ref v0), (1, .int v1), (2, .int v2), (3, .int v3), (4, .int v4), (5, .int v5)]) [0, 1, 2, 3, 4, 5] rfl ?_
          exact tX5_readWord_b98 hg5 (fun v0 v1 v2 v3 v4 v5 μ y0 h => ih v0 v1 v2 v3 v4 v5 μ y0 h) v0 v1 v2 v3 v4 v5 μ6 c_v0 h
        · replace h := ite_f h c10
          refine V_aload 6 (zdk tbX5_readWord_0_ok 31 rfl) rfl ?_
          refine V_iload_n 2 (zdk tbX5_readWord_0_ok 32 rfl) rfl ?_
          obtain ⟨b11, h⟩ := chk_some h
          obtain ⟨b12, h⟩ := chk_some h
          refine V_tchr b11 b12 rfl (zdk tbX5_readWord_0_ok 33 rfl) ⟨Nat.le_of_ble_eq_true rfl, Nat.le_of_ble_eq_true rfl⟩ (Nat.le_of_ble_eq_true rfl) ?_
          refine V_iload_n 3 (zdk tbX5_readWord_0_ok 34 rfl) rfl ?_
          refine V_icmp_ne (tgt := 98) (zdk tbX5_readWord_0_ok 35 rfl) (by decide) (fun c13 => ?_) (fun c13 => ?_)
          · replace h := ite_f h c13
            refine V_sub (ls' := [(0, .ref v0), (1, .int v1), (2, .int v2), (3, .int v3), (4, .int v4), (5, .int v5)]) [0, 1, 2, 3, 4, 5] rfl ?_
            exact tX5_readWord_b98 hg5 (fun v0 v1 v2 v3 v4 v5 μ y0 h => ih v0 v1 v2 v3 v4 v5 μ y0 h) v0 v1 v2 v3 v4 v5 μ6 c_v0 h
          · replace h := ite_t h c13
            refine V_iload 4 (zdk tbX5_readWord_0_ok 36 rfl) rfl ?_
            refine V_iconst (v := 1) (zdk tbX5_readWord_0_ok 37 rfl) rfl ?_
            refine V_iload 5 (zdk tbX5_readWord_0_ok 38 rfl) rfl ?_
            refine V_ishl (zdk tbX5_readWord_0_ok 39 rfl) ?_
            refine V_ior (zdk tbX5_readWord_0_ok 40 rfl) ?_
            refine V_istore (ls' := [(0, .ref v0), (1, .int v1), (2, .int v2), (3, .int v3), (4, .int (v4 ||| ((1 : Int32) <<< (v5 &&& 31)))), (5, .int v5), (6, .ref r7)]) [1, 2, 3, 4, 0, 5, 6] (zdk tbX5_readWord_0_ok 41 rfl) (Nat.le_of_ble_eq_true rfl) rfl ?_
            refine V_iload_n 2 (zdk tbX5_readWord_0_ok 42 rfl) rfl ?_
            refine V_aload 6 (zdk tbX5_readWord_0_ok 43 rfl) rfl ?_
            obtain ⟨b14, h⟩ := chk_some h
            refine V_tlen b14 rfl (zdk tbX5_readWord_0_ok 44 rfl) ⟨Nat.le_of_ble_eq_true rfl, Nat.le_of_ble_eq_true rfl⟩ (Nat.le_of_ble_eq_true rfl) ?_
            refine V_iconst (v := 1) (zdk tbX5_readWord_0_ok 45 rfl) rfl ?_
            refine V_isub (zdk tbX5_readWord_0_ok 46 rfl) ?_
            refine V_icmp_ne (tgt := 98) (zdk tbX5_readWord_0_ok 47 rfl) (by decide) (fun c15 => ?_) (fun c15 => ?_)
            · replace h := ite_f h c15
              refine V_sub (ls' := [(0, .ref v0), (1, .int v1), (2, .int v2), (3, .int v3), (4, .int (v4 ||| ((1 : Int32) <<< (v5 &&& 31)))), (5, .int v5)]) [0, 1, 2, 3, 4, 5] rfl ?_
              exact tX5_readWord_b98 hg5 (fun v0 v1 v2 v3 v4 v5 μ y0 h => ih v0 v1 v2 v3 v4 v5 μ y0 h) v0 v1 v2 v3 (v4 ||| ((1 : Int32) <<< (v5 &&& 31))) v5 μ6 c_v0 h
            · replace h := ite_t h c15
              refine V_aload_n 0 (zdk tbX5_readWord_0_ok 48 rfl) rfl ?_
              refine V_dup_r (zdk tbX5_readWord_0_ok 49 rfl) ?_
              refine V_getI (zdk tbX5_readWord_1_ok 0 rfl) c_v0 fF5_26 rfl ?_
              refine V_iconst (v := 1) (zdk tbX5_readWord_1_ok 1 rfl) rfl ?_
              refine V_iadd (zdk tbX5_readWord_1_ok 2 rfl) ?_
              obtain ⟨μ16, e17, h⟩ := lt_some h
              refine V_putI (zdk tbX5_readWord_1_ok 3 rfl) c_v0 fF5_26 rfl rfl rfl e17 ?_
              refine V_iload 5 (zdk tbX5_readWord_1_ok 4 rfl) rfl ?_
              cases h
              exact V_iret (zdk tbX5_readWord_1_ok 5 rfl) rfl rfl
def fX5_readWord_b5 (n : Nat) : Nat → Nat → Int32 → Int32 → ZMem → Option (ZMem × Int32)
  | 0, _, _, _, _ => none
  | k + 1, v0, v1, v2, μ => (if (6 : Int32) ≤ v2 then (fX5_readWord_b131 n v0 μ) else bd2 (fX5_letterHere n v0 μ) (fun μ3 r4 => (fX5_readWord_b22 (fX5_readWord_b5 n k) n FU v0 v1 v2 r4 (0 : Int32) (0 : Int32) μ3)))
theorem tX5_readWord_b5 {l : Launch} {fr : Bool} {n : Nat} {z : ZMem × Int32} : ∀ (k : Nat) (v0 : Nat) (v1 : Int32) (v2 : Int32) (μ : ZMem) (c_v0 : isC n 5 v0 = true), fX5_readWord_b5 n k v0 v1 v2 μ = some z → V (zkI l mX5_readWord (rmd 5) fr n z) fr 5 [(0, .ref v0), (1, .int v1), (2, .int v2)] [] n μ := by
  intro k
  induction k with
  | zero =>
    intro v0 v1 v2 μ c_v0 h
    unfold fX5_readWord_b5 at h
    cases h
  | succ k ih =>
    intro v0 v1 v2 μ c_v0 h
    unfold fX5_readWord_b5 at h
    refine V_iload_n 2 (zdk tbX5_readWord_0_ok 4 rfl) rfl ?_
    refine V_bipush (v := 6) (zdk tbX5_readWord_0_ok 5 rfl) rfl ?_
    refine V_icmp_ge (tgt := 131) (zdk tbX5_readWord_0_ok 6 rfl) (by decide) (fun c1 => ?_) (fun c1 => ?_)
    · replace h := ite_t h c1
      refine V_sub (ls' := [(0, .ref v0)]) [0] rfl ?_
      exact tX5_readWord_b131 v0 μ c_v0 h
    · replace h := ite_f h c1
      refine V_aload_n 0 (zdk tbX5_readWord_0_ok 7 rfl) rfl ?_
      obtain ⟨μ3, r4, q2, h⟩ := bd2_some h
      refine V_callV (R1 := (rmd 1)) (As := []) (r := (some (.int r4))) (zdk tbX5_readWord_0_ok 8 rfl) sC5_105 (tX5_letterHere q2) (c_v0) rfl rfl rfl ⟨Nat.le_of_ble_eq_true rfl, Nat.le_of_ble_eq_true rfl⟩ (Nat.le_of_ble_eq_true rfl) ⟨rfl, rfl⟩ id ?_
      refine V_istore_n (ls' := [(0, .ref v0), (1, .int v1), (2, .int v2), (3, .int r4)]) [1, 2, 3, 0] (zdk tbX5_readWord_0_ok 9 rfl) (Nat.le_of_ble_eq_true rfl) rfl ?_
      refine V_iconst (v := 0) (zdk tbX5_readWord_0_ok 10 rfl) rfl ?_
      refine V_istore (ls' := [(0, .ref v0), (1, .int v1), (2, .int v2), (3, .int r4), (4, .int (0 : Int32))]) [1, 2, 3, 4, 0] (zdk tbX5_readWord_0_ok 11 rfl) (Nat.le_of_ble_eq_true rfl) rfl ?_
      refine V_iconst (v := 0) (zdk tbX5_readWord_0_ok 12 rfl) rfl ?_
      refine V_istore (ls' := [(0, .ref v0), (1, .int v1), (2, .int v2), (3, .int r4), (4, .int (0 : Int32)), (5, .int (0 : Int32))]) [1, 2, 3, 4, 5, 0] (zdk tbX5_readWord_0_ok 13 rfl) (Nat.le_of_ble_eq_true rfl) rfl ?_
      exact tX5_readWord_b22 (fun v0 v1 v2 μ y0 h => ih v0 v1 v2 μ y0 h) FU v0 v1 v2 r4 (0 : Int32) (0 : Int32) μ3 c_v0 h
def fX5_readWord (n : Nat) (v0 : Nat) (μ : ZMem) : Option (ZMem × Int32) := chk (isC n 5 v0) ((fX5_readWord_b5 n FU v0 (127 : Int32) (0 : Int32) μ))
theorem tX5_readWord {l : Launch} {fr : Bool} {n : Nat} {v0 : Nat} {μ : ZMem} {z : ZMem × Int32} (h : fX5_readWord n v0 μ = some z) : ZFn l mX5_readWord (rmd 5) [.ref v0] fr n μ (fr, n, z.1, some (.int z.2)) := by
  unfold fX5_readWord at h
  obtain ⟨c_v0, h⟩ := chk_some h
  refine ZFn.of (ls := [(0, .ref v0)]) (by decide) (fun ξ => Nat.le_of_ble_eq_true rfl) (fun ξ => rfl) ?_
  refine V_bipush (v := 127) (zdk tbX5_readWord_0_ok 0 rfl) rfl ?_
  refine V_istore_n (ls' := [(0, .ref v0), (1, .int (127 : Int32))]) [1, 0] (zdk tbX5_readWord_0_ok 1 rfl) (Nat.le_of_ble_eq_true rfl) rfl ?_
  refine V_iconst (v := 0) (zdk tbX5_readWord_0_ok 2 rfl) rfl ?_
  refine V_istore_n (ls' := [(0, .ref v0), (1, .int (127 : Int32)), (2, .int (0 : Int32))]) [1, 2, 0] (zdk tbX5_readWord_0_ok 3 rfl) (Nat.le_of_ble_eq_true rfl) rfl ?_
  exact tX5_readWord_b5 FU v0 (127 : Int32) (0 : Int32) μ c_v0 h

-- WhoComplainsCarries$VowReader.expect
def tbX5_expect_0 : List (Nat × Instr × Nat) := [(0, .aload_n 0, 1), (1, .getfield 29, 3), (4, .iconst (-1), 1), (5, .if_icmp .eq 4, 3), (8, .return_, 1), (9, .aload_n 0, 1), (10, .invokevirtual 105, 3), (13, .iload_n 1, 1), (14, .if_icmp .ne 16, 3), (17, .aload_n 0, 1), (18, .dup, 1), (19, .getfield 26, 3), (22, .iconst 1, 1), (23, .iadd, 1), (24, .putfield 26, 3), (27, .goto 11, 3), (30, .aload_n 0, 1), (31, .aload_n 0, 1), (32, .getfield 26, 3), (35, .putfield 29, 3), (38, .return_, 1)]
theorem tbX5_expect_0_ok : ∀ q ∈ tbX5_expect_0, decode cX5_expect q.1 = .ok (q.2.1, q.2.2) := by decide +kernel
def fX5_expect_b38 (n : Nat) (μ : ZMem) : Option (ZMem) := some μ
theorem tX5_expect_b38 {l : Launch} {fr : Bool} {n : Nat} {z : ZMem} (μ : ZMem) (h : fX5_expect_b38 n μ = some z) : V (zkV l mX5_expect (rmd 2) fr n z) fr 38 [] [] n μ := by
  unfold fX5_expect_b38 at h
  cases h
  exact V_vret (zdk tbX5_expect_0_ok 20 rfl) rfl rfl
def fX5_expect (n : Nat) (v0 : Nat) (v1 : Int32) (μ : ZMem) : Option (ZMem) := chk (isC n 5 v0) ((if (zI μ v0 4) = (-1 : Int32) then bd2 (fX5_letterHere n v0 μ) (fun μ3 r4 => (if r4 = v1 then lt (zpI μ3 v0 3 ((zI μ3 v0 3) + (1 : Int32))) (fun μ8 => (fX5_expect_b38 n  μ8)) else lt (zpI μ3 v0 4 (zI μ3 v0 3)) (fun μ6 => (fX5_expect_b38 n  μ6)))) else some μ))
theorem tX5_expect {l : Launch} {fr : Bool} {n : Nat} {v0 : Nat} {v1 : Int32} {μ : ZMem} {z : ZMem} (h : fX5_expect n v0 v1 μ = some z) : ZFn l mX5_expect (rmd 2) [.ref v0, .int v1] fr n μ (fr, n, z, none) := by
  unfold fX5_expect at h
  obtain ⟨c_v0, h⟩ := chk_some h
  refine ZFn.of (ls := [(0, .ref v0), (1, .int v1)]) (by decide) (fun ξ => Nat.le_of_ble_eq_true rfl) (fun ξ => rfl) ?_
  refine V_aload_n 0 (zdk tbX5_expect_0_ok 0 rfl) rfl ?_
  refine V_getI (zdk tbX5_expect_0_ok 1 rfl) c_v0 fF5_29 rfl ?_
  refine V_iconst (v := (-1)) (zdk tbX5_expect_0_ok 2 rfl) rfl ?_
  refine V_icmp_eq (tgt := 9) (zdk tbX5_expect_0_ok 3 rfl) (by decide) (fun c1 => ?_) (fun c1 => ?_)
  · replace h := ite_t h c1
    refine V_aload_n 0 (zdk tbX5_expect_0_ok 5 rfl) rfl ?_
    obtain ⟨μ3, r4, q2, h⟩ := bd2_some h
    refine V_callV (R1 := (rmd 1)) (As := []) (r := (some (.int r4))) (zdk tbX5_expect_0_ok 6 rfl) sC5_105 (tX5_letterHere q2) (c_v0) rfl rfl rfl ⟨Nat.le_of_ble_eq_true rfl, Nat.le_of_ble_eq_true rfl⟩ (Nat.le_of_ble_eq_true rfl) ⟨rfl, rfl⟩ id ?_
    refine V_iload_n 1 (zdk tbX5_expect_0_ok 7 rfl) rfl ?_
    refine V_icmp_ne (tgt := 30) (zdk tbX5_expect_0_ok 8 rfl) (by decide) (fun c5 => ?_) (fun c5 => ?_)
    · replace h := ite_f h c5
      refine V_aload_n 0 (zdk tbX5_expect_0_ok 16 rfl) rfl ?_
      refine V_aload_n 0 (zdk tbX5_expect_0_ok 17 rfl) rfl ?_
      refine V_getI (zdk tbX5_expect_0_ok 18 rfl) c_v0 fF5_26 rfl ?_
      obtain ⟨μ6, e7, h⟩ := lt_some h
      refine V_putI (zdk tbX5_expect_0_ok 19 rfl) c_v0 fF5_29 rfl rfl rfl e7 ?_
      refine V_sub (ls' := []) [] rfl ?_
      exact tX5_expect_b38  μ6  h
    · replace h := ite_t h c5
      refine V_aload_n 0 (zdk tbX5_expect_0_ok 9 rfl) rfl ?_
      refine V_dup_r (zdk tbX5_expect_0_ok 10 rfl) ?_
      refine V_getI (zdk tbX5_expect_0_ok 11 rfl) c_v0 fF5_26 rfl ?_
      refine V_iconst (v := 1) (zdk tbX5_expect_0_ok 12 rfl) rfl ?_
      refine V_iadd (zdk tbX5_expect_0_ok 13 rfl) ?_
      obtain ⟨μ8, e9, h⟩ := lt_some h
      refine V_putI (zdk tbX5_expect_0_ok 14 rfl) c_v0 fF5_26 rfl rfl rfl e9 ?_
      refine V_goto (tgt := 38) (zdk tbX5_expect_0_ok 15 rfl) (by decide) ?_
      refine V_sub (ls' := []) [] rfl ?_
      exact tX5_expect_b38  μ8  h
  · replace h := ite_f h c1
    cases h
    exact V_vret (zdk tbX5_expect_0_ok 4 rfl) rfl rfl

-- WhoComplainsCarries$VowReader.isDigit
def tbX5_isDigit_0 : List (Nat × Instr × Nat) := [(0, .iload_n 0, 1), (1, .bipush 48, 2), (3, .if_icmp .lt 13, 3), (6, .iload_n 0, 1), (7, .bipush 57, 2), (9, .if_icmp .gt 7, 3), (12, .iconst 1, 1), (13, .goto 4, 3), (16, .iconst 0, 1), (17, .ireturn, 1)]
theorem tbX5_isDigit_0_ok : ∀ q ∈ tbX5_isDigit_0, decode cX5_isDigit q.1 = .ok (q.2.1, q.2.2) := by decide +kernel
def fX5_isDigit_b17 (n : Nat) (s0 : Int32) (μ : ZMem) : Option (ZMem × Int32) := chk (b01 s0) (some (μ, s0))
theorem tX5_isDigit_b17 {l : Launch} {fr : Bool} {n : Nat} {z : ZMem × Int32} (s0 : Int32) (μ : ZMem) (h : fX5_isDigit_b17 n s0 μ = some z) : V (zkI l mX5_isDigit (rmd 1) fr n z) fr 17 [] [.int s0] n μ := by
  unfold fX5_isDigit_b17 at h
  obtain ⟨b1, h⟩ := chk_some h
  cases h
  exact V_zret (zdk tbX5_isDigit_0_ok 9 rfl) rfl (b01_n b1) rfl
def fX5_isDigit_b16 (n : Nat) (μ : ZMem) : Option (ZMem × Int32) := (fX5_isDigit_b17 n (0 : Int32) μ)
theorem tX5_isDigit_b16 {l : Launch} {fr : Bool} {n : Nat} {z : ZMem × Int32} (μ : ZMem) (h : fX5_isDigit_b16 n μ = some z) : V (zkI l mX5_isDigit (rmd 1) fr n z) fr 16 [] [] n μ := by
  unfold fX5_isDigit_b16 at h
  refine V_iconst (v := 0) (zdk tbX5_isDigit_0_ok 8 rfl) rfl ?_
  exact tX5_isDigit_b17 (0 : Int32) μ  h
def fX5_isDigit (n : Nat) (v0 : Int32) (μ : ZMem) : Option (ZMem × Int32) := (if v0 < (48 : Int32) then (fX5_isDigit_b16 n  μ) else (if (57 : Int32) < v0 then (fX5_isDigit_b16 n  μ) else (fX5_isDigit_b17 n (1 : Int32) μ)))
theorem tX5_isDigit {l : Launch} {fr : Bool} {n : Nat} {v0 : Int32} {μ : ZMem} {z : ZMem × Int32} (h : fX5_isDigit n v0 μ = some z) : ZFn l mX5_isDigit (rmd 1) [.int v0] fr n μ (fr, n, z.1, some (.int z.2)) := by
  unfold fX5_isDigit at h
  refine ZFn.of (ls := [(0, .int v0)]) (by decide) (fun ξ => Nat.le_of_ble_eq_true rfl) (fun ξ => rfl) ?_
  refine V_iload_n 0 (zdk tbX5_isDigit_0_ok 0 rfl) rfl ?_
  refine V_bipush (v := 48) (zdk tbX5_isDigit_0_ok 1 rfl) rfl ?_
  refine V_icmp_lt (tgt := 16) (zdk tbX5_isDigit_0_ok 2 rfl) (by decide) (fun c1 => ?_) (fun c1 => ?_)
  · replace h := ite_t h c1
    refine V_sub (ls' := []) [] rfl ?_
    exact tX5_isDigit_b16  μ  h
  · replace h := ite_f h c1
    refine V_iload_n 0 (zdk tbX5_isDigit_0_ok 3 rfl) rfl ?_
    refine V_bipush (v := 57) (zdk tbX5_isDigit_0_ok 4 rfl) rfl ?_
    refine V_icmp_gt (tgt := 16) (zdk tbX5_isDigit_0_ok 5 rfl) (by decide) (fun c2 => ?_) (fun c2 => ?_)
    · replace h := ite_t h c2
      refine V_sub (ls' := []) [] rfl ?_
      exact tX5_isDigit_b16  μ  h
    · replace h := ite_f h c2
      refine V_iconst (v := 1) (zdk tbX5_isDigit_0_ok 6 rfl) rfl ?_
      refine V_goto (tgt := 17) (zdk tbX5_isDigit_0_ok 7 rfl) (by decide) ?_
      refine V_sub (ls' := []) [] rfl ?_
      exact tX5_isDigit_b17 (1 : Int32) μ  h

-- WhoComplainsCarries$VowReader.readNumber
def tbX5_readNumber_0 : List (Nat × Instr × Nat) := [(0, .aload_n 0, 1), (1, .bipush 32, 2), (3, .invokevirtual 43, 3), (6, .aload_n 0, 1), (7, .getfield 26, 3), (10, .istore_n 3, 1), (11, .aload_n 0, 1), (12, .getfield 29, 3), (15, .iconst (-1), 1), (16, .if_icmp .ne 13, 3), (19, .aload_n 0, 1), (20, .invokevirtual 105, 3), (23, .invokestatic 135, 3), (26, .ifCond .ne 28, 3), (29, .aload_n 0, 1), (30, .aload_n 0, 1), (31, .getfield 29, 3), (34, .iconst (-1), 1), (35, .if_icmp .eq 10, 3), (38, .aload_n 0, 1), (39, .getfield 29, 3), (42, .goto 7, 3), (45, .aload_n 0, 1), (46, .getfield 26, 3), (49, .putfield 29, 3), (52, .iconst (-1), 1), (53, .ireturn, 1), (54, .aload_n 0, 1), (55, .invokevirtual 105, 3), (58, .bipush 48, 2), (60, .isub, 1), (61, .istore 4, 2), (63, .aload_n 0, 1), (64, .dup, 1), (65, .getfield 26, 3), (68, .iconst 1, 1), (69, .iadd, 1), (70, .putfield 26, 3), (73, .aload_n 0, 1), (74, .invokevirtual 105, 3), (77, .invokestatic 135, 3), (80, .ifCond .eq 28, 3), (83, .bipush 10, 2), (85, .iload 4, 2), (87, .imul, 1), (88, .aload_n 0, 1), (89, .invokevirtual 105, 3), (92, .iadd, 1), (93, .bipush 48, 2), (95, .isub, 1)]
theorem tbX5_readNumber_0_ok : ∀ q ∈ tbX5_readNumber_0, decode cX5_readNumber q.1 = .ok (q.2.1, q.2.2) := by decide +kernel
def tbX5_readNumber_1 : List (Nat × Instr × Nat) := [(96, .istore 4, 2), (98, .aload_n 0, 1), (99, .dup, 1), (100, .getfield 26, 3), (103, .iconst 1, 1), (104, .iadd, 1), (105, .putfield 26, 3), (108, .iload 4, 2), (110, .iload_n 1, 1), (111, .iload_n 2, 1), (112, .invokestatic 139, 3), (115, .ifCond .ne 10, 3), (118, .aload_n 0, 1), (119, .iload_n 3, 1), (120, .putfield 29, 3), (123, .iconst (-1), 1), (124, .ireturn, 1), (125, .iload 4, 2), (127, .ireturn, 1)]
theorem tbX5_readNumber_1_ok : ∀ q ∈ tbX5_readNumber_1, decode cX5_readNumber q.1 = .ok (q.2.1, q.2.2) := by decide +kernel
theorem sC5_139 : zCN RX5 139 mX6_isIn 3 := ⟨by decide +kernel, zin (i := 251) (by decide +kernel) rfl, wCX6_isIn⟩
theorem wCX5_expect : zCW mX5_expect 1 := ⟨zin (i := 6) (by decide +kernel) rfl, zin (i := 514) (by decide +kernel) rfl, by decide +kernel, by decide +kernel, by decide +kernel⟩
theorem sC5_43 : zCV RX5 43 mX5_expect 1 := ⟨zin (i := 511) (by decide +kernel) rfl, zin (i := 513) (by decide +kernel) rfl, zinP (i := 12) (q := (yX5_expect, 5)) (by decide +kernel) rfl, wCX5_expect⟩
theorem wCX5_isDigit : zCW mX5_isDigit 1 := ⟨zin (i := 6) (by decide +kernel) rfl, zin (i := 517) (by decide +kernel) rfl, by decide +kernel, by decide +kernel, by decide +kernel⟩
theorem sC5_135 : zCS RX5 135 mX5_isDigit 1 := ⟨zin (i := 515) (by decide +kernel) rfl, zin (i := 516) (by decide +kernel) rfl, wCX5_isDigit⟩
def fX5_readNumber_b49 (n : Nat) (s0 : Nat) (s1 : Int32) (μ : ZMem) : Option (ZMem × Int32) := lt (zpI μ s0 4 s1) (fun μ1 => some (μ1, (-1 : Int32)))
theorem tX5_readNumber_b49 {l : Launch} {fr : Bool} {n : Nat} {z : ZMem × Int32} (s0 : Nat) (s1 : Int32) (μ : ZMem) (c_s0 : isC n 5 s0 = true) (h : fX5_readNumber_b49 n s0 s1 μ = some z) : V (zkI l mX5_readNumber (rmd 3) fr n z) fr 49 [] [.int s1, .ref s0] n μ := by
  unfold fX5_readNumber_b49 at h
  obtain ⟨μ1, e2, h⟩ := lt_some h
  refine V_putI (zdk tbX5_readNumber_0_ok 24 rfl) c_s0 fF5_29 rfl rfl rfl e2 ?_
  refine V_iconst (v := (-1)) (zdk tbX5_readNumber_0_ok 25 rfl) rfl ?_
  cases h
  exact V_iret (zdk tbX5_readNumber_0_ok 26 rfl) rfl rfl
def fX5_readNumber_b29 (n : Nat) (v0 : Nat) (μ : ZMem) : Option (ZMem × Int32) := (if (zI μ v0 4) = (-1 : Int32) then (fX5_readNumber_b49 n v0 (zI μ v0 3) μ) else (fX5_readNumber_b49 n v0 (zI μ v0 4) μ))
theorem tX5_readNumber_b29 {l : Launch} {fr : Bool} {n : Nat} {z : ZMem × Int32} (v0 : Nat) (μ : ZMem) (c_v0 : isC n 5 v0 = true) (h : fX5_readNumber_b29 n v0 μ = some z) : V (zkI l mX5_readNumber (rmd 3) fr n z) fr 29 [(0, .ref v0)] [] n μ := by
  unfold fX5_readNumber_b29 at h
  refine V_aload_n 0 (zdk tbX5_readNumber_0_ok 14 rfl) rfl ?_
  refine V_aload_n 0 (zdk tbX5_readNumber_0_ok 15 rfl) rfl ?_
  refine V_getI (zdk tbX5_readNumber_0_ok 16 rfl) c_v0 fF5_29 rfl ?_
  refine V_iconst (v := (-1)) (zdk tbX5_readNumber_0_ok 17 rfl) rfl ?_
  refine V_icmp_eq (tgt := 45) (zdk tbX5_readNumber_0_ok 18 rfl) (by decide) (fun c1 => ?_) (fun c1 => ?_)
  · replace h := ite_t h c1
    refine V_aload_n 0 (zdk tbX5_readNumber_0_ok 22 rfl) rfl ?_
    refine V_getI (zdk tbX5_readNumber_0_ok 23 rfl) c_v0 fF5_26 rfl ?_
    refine V_sub (ls' := []) [] rfl ?_
    exact tX5_readNumber_b49 v0 (zI μ v0 3) μ c_v0 h
  · replace h := ite_f h c1
    refine V_aload_n 0 (zdk tbX5_readNumber_0_ok 19 rfl) rfl ?_
    refine V_getI (zdk tbX5_readNumber_0_ok 20 rfl) c_v0 fF5_29 rfl ?_
    refine V_goto (tgt := 49) (zdk tbX5_readNumber_0_ok 21 rfl) (by decide) ?_
    refine V_sub (ls' := []) [] rfl ?_
    exact tX5_readNumber_b49 v0 (zI μ v0 4) μ c_v0 h
def fX5_readNumber_b108 (n : Nat) (v0 : Nat) (v1 : Int32) (v2 : Int32) (v3 : Int32) (v4 : Int32) (μ : ZMem) : Option (ZMem × Int32) := bd2 (fX6_isIn n v4 v1 v2 μ) (fun μ2 r3 => (if r3 = 0 then lt (zpI μ2 v0 4 v3) (fun μ5 => some (μ5, (-1 : Int32))) else some (μ2, v4)))
theorem tX5_readNumber_b108 {l : Launch} {fr : Bool} {n : Nat} {z : ZMem × Int32} (v0 : Nat) (v1 : Int32) (v2 : Int32) (v3 : Int32) (v4 : Int32) (μ : ZMem) (c_v0 : isC n 5 v0 = true) (h : fX5_readNumber_b108 n v0 v1 v2 v3 v4 μ = some z) : V (zkI l mX5_readNumber (rmd 3) fr n z) fr 108 [(0, .ref v0), (1, .int v1), (2, .int v2), (3, .int v3), (4, .int v4)] [] n μ := by
  unfold fX5_readNumber_b108 at h
  refine V_iload 4 (zdk tbX5_readNumber_1_ok 7 rfl) rfl ?_
  refine V_iload_n 1 (zdk tbX5_readNumber_1_ok 8 rfl) rfl ?_
  refine V_iload_n 2 (zdk tbX5_readNumber_1_ok 9 rfl) rfl ?_
  obtain ⟨μ2, r3, q1, h⟩ := bd2_some h
  refine V_callN (R1 := (rmd 1)) (As := [.int v4, .int v1, .int v2]) (r := (some (.int r3))) (zdk tbX5_readNumber_1_ok 10 rfl) sC5_139 (tX6_isIn q1) rfl rfl ⟨Nat.le_of_ble_eq_true rfl, Nat.le_of_ble_eq_true rfl⟩ (Nat.le_of_ble_eq_true rfl) ⟨rfl, rfl⟩ id ?_
  refine V_if_ne (tgt := 125) (zdk tbX5_readNumber_1_ok 11 rfl) (by decide) (fun c4 => ?_) (fun c4 => ?_)
  · replace h := ite_f h c4
    refine V_iload 4 (zdk tbX5_readNumber_1_ok 17 rfl) rfl ?_
    cases h
    exact V_iret (zdk tbX5_readNumber_1_ok 18 rfl) rfl rfl
  · replace h := ite_t h c4
    refine V_aload_n 0 (zdk tbX5_readNumber_1_ok 12 rfl) rfl ?_
    refine V_iload_n 3 (zdk tbX5_readNumber_1_ok 13 rfl) rfl ?_
    obtain ⟨μ5, e6, h⟩ := lt_some h
    refine V_putI (zdk tbX5_readNumber_1_ok 14 rfl) c_v0 fF5_29 rfl rfl rfl e6 ?_
    refine V_iconst (v := (-1)) (zdk tbX5_readNumber_1_ok 15 rfl) rfl ?_
    cases h
    exact V_iret (zdk tbX5_readNumber_1_ok 16 rfl) rfl rfl
def fX5_readNumber (n : Nat) (v0 : Nat) (v1 : Int32) (v2 : Int32) (μ : ZMem) : Option (ZMem × Int32) := chk (isC n 5 v0) (bd1 (fX5_expect n v0 (32 : Int32) μ) (fun μ2 => (if (zI μ2 v0 4) = (-1 : Int32) then bd2 (fX5_letterHere n v0 μ2) (fun μ5 r6 => bd2 (fX5_isDigit n r6 μ5) (fun μ8 r9 => (if r9 = 0 then (fX5_readNumber_b29 n v0 μ8) else bd2 (fX5_letterHere n v0 μ8) (fun μ12 r13 => lt (zpI μ12 v0 3 ((zI μ12 v0 3) + (1 : Int32))) (fun μ14 => bd2 (fX5_letterHere n v0 μ14) (fun μ17 r18 => bd2 (fX5_isDigit n r18 μ17) (fun μ20 r21 => (if r21 = 0 then (fX5_readNumber_b108 n v0 v1 v2 (zI μ2 v0 3) (r13 - (48 : Int32)) μ20) else bd2 (fX5_letterHere n v0 μ20) (fun μ24 r25 => lt (zpI μ24 v0 3 ((zI μ24 v0 3) + (1 : Int32))) (fun μ26 => (fX5_readNumber_b108 n v0 v1 v2 (zI μ2 v0 3) ((((10 : Int32) * (r13 - (48 : Int32))) + r25) - (48 : Int32)) μ26))))))))))) else (fX5_readNumber_b29 n v0 μ2))))
theorem tX5_readNumber {l : Launch} {fr : Bool} {n : Nat} {v0 : Nat} {v1 : Int32} {v2 : Int32} {μ : ZMem} {z : ZMem × Int32} (h : fX5_readNumber n v0 v1 v2 μ = some z) : ZFn l mX5_readNumber (rmd 3) [.ref v0, .int v1, .int v2] fr n μ (fr, n, z.1, some (.int z.2)) := by
  unfold fX5_readNumber at h
  obtain ⟨c_v0, h⟩ := chk_some h
  refine ZFn.of (ls := [(0, .ref v0), (1, .int v1), (2, .int v2)]) (by decide) (fun ξ => Nat.le_of_ble_eq_true rfl) (fun ξ => rfl) ?_
  refine V_aload_n 0 (zdk tbX5_readNumber_0_ok 0 rfl) rfl ?_
  refine V_bipush (v := 32) (zdk tbX5_readNumber_0_ok 1 rfl) rfl ?_
  obtain ⟨μ2, q1, h⟩ := bd1_some h
  refine V_callV (R1 := (rmd 2)) (As := [.int (32 : Int32)]) (r := none) (zdk tbX5_readNumber_0_ok 2 rfl) sC5_43 (tX5_expect q1) (c_v0) rfl rfl rfl ⟨Nat.le_of_ble_eq_true rfl, Nat.le_of_ble_eq_true rfl⟩ (Nat.le_of_ble_eq_true rfl) ⟨rfl, rfl⟩ id ?_
  refine V_aload_n 0 (zdk tbX5_readNumber_0_ok 3 rfl) rfl ?_
  refine V_getI (zdk tbX5_readNumber_0_ok 4 rfl) c_v0 fF5_26 rfl ?_
  refine V_istore_n (ls' := [(0, .ref v0), (1, .int v1), (2, .int v2), (3, .int (zI μ2 v0 3))]) [1, 2, 3, 0] (zdk tbX5_readNumber_0_ok 5 rfl) (Nat.le_of_ble_eq_true rfl) rfl ?_
  refine V_aload_n 0 (zdk tbX5_readNumber_0_ok 6 rfl) rfl ?_
  refine V_getI (zdk tbX5_readNumber_0_ok 7 rfl) c_v0 fF5_29 rfl ?_
  refine V_iconst (v := (-1)) (zdk tbX5_readNumber_0_ok 8 rfl) rfl ?_
  refine V_icmp_ne (tgt := 29) (zdk tbX5_readNumber_0_ok 9 rfl) (by decide) (fun c3 => ?_) (fun c3 => ?_)
  · replace h := ite_f h c3
    refine V_sub (ls' := [(0, .ref v0)]) [0] rfl ?_
    exact tX5_readNumber_b29 v0 μ2 c_v0 h
  · replace h := ite_t h c3
    refine V_aload_n 0 (zdk tbX5_readNumber_0_ok 10 rfl) rfl ?_
    obtain ⟨μ5, r6, q4, h⟩ := bd2_some h
    refine V_callV (R1 := (rmd 1)) (As := []) (r := (some (.int r6))) (zdk tbX5_readNumber_0_ok 11 rfl) sC5_105 (tX5_letterHere q4) (c_v0) rfl rfl rfl ⟨Nat.le_of_ble_eq_true rfl, Nat.le_of_ble_eq_true rfl⟩ (Nat.le_of_ble_eq_true rfl) ⟨rfl, rfl⟩ id ?_
    obtain ⟨μ8, r9, q7, h⟩ := bd2_some h
    refine V_callS (R1 := (rmd 1)) (As := [.int r6]) (r := (some (.int r9))) (zdk tbX5_readNumber_0_ok 12 rfl) sC5_135 (tX5_isDigit q7) rfl rfl ⟨Nat.le_of_ble_eq_true rfl, Nat.le_of_ble_eq_true rfl⟩ (Nat.le_of_ble_eq_true rfl) ⟨rfl, rfl⟩ id ?_
    refine V_if_ne (tgt := 54) (zdk tbX5_readNumber_0_ok 13 rfl) (by decide) (fun c10 => ?_) (fun c10 => ?_)
    · replace h := ite_f h c10
      refine V_aload_n 0 (zdk tbX5_readNumber_0_ok 27 rfl) rfl ?_
      obtain ⟨μ12, r13, q11, h⟩ := bd2_some h
      refine V_callV (R1 := (rmd 1)) (As := []) (r := (some (.int r13))) (zdk tbX5_readNumber_0_ok 28 rfl) sC5_105 (tX5_letterHere q11) (c_v0) rfl rfl rfl ⟨Nat.le_of_ble_eq_true rfl, Nat.le_of_ble_eq_true rfl⟩ (Nat.le_of_ble_eq_true rfl) ⟨rfl, rfl⟩ id ?_
      refine V_bipush (v := 48) (zdk tbX5_readNumber_0_ok 29 rfl) rfl ?_
      refine V_isub (zdk tbX5_readNumber_0_ok 30 rfl) ?_
      refine V_istore (ls' := [(0, .ref v0), (1, .int v1), (2, .int v2), (3, .int (zI μ2 v0 3)), (4, .int (r13 - (48 : Int32)))]) [1, 2, 3, 4, 0] (zdk tbX5_readNumber_0_ok 31 rfl) (Nat.le_of_ble_eq_true rfl) rfl ?_
      refine V_aload_n 0 (zdk tbX5_readNumber_0_ok 32 rfl) rfl ?_
      refine V_dup_r (zdk tbX5_readNumber_0_ok 33 rfl) ?_
      refine V_getI (zdk tbX5_readNumber_0_ok 34 rfl) c_v0 fF5_26 rfl ?_
      refine V_iconst (v := 1) (zdk tbX5_readNumber_0_ok 35 rfl) rfl ?_
      refine V_iadd (zdk tbX5_readNumber_0_ok 36 rfl) ?_
      obtain ⟨μ14, e15, h⟩ := lt_some h
      refine V_putI (zdk tbX5_readNumber_0_ok 37 rfl) c_v0 fF5_26 rfl rfl rfl e15 ?_
      refine V_aload_n 0 (zdk tbX5_readNumber_0_ok 38 rfl) rfl ?_
      obtain ⟨μ17, r18, q16, h⟩ := bd2_some h
      refine V_callV (R1 := (rmd 1)) (As := []) (r := (some (.int r18))) (zdk tbX5_readNumber_0_ok 39 rfl) sC5_105 (tX5_letterHere q16) (c_v0) rfl rfl rfl ⟨Nat.le_of_ble_eq_true rfl, Nat.le_of_ble_eq_true rfl⟩ (Nat.le_of_ble_eq_true rfl) ⟨rfl, rfl⟩ id ?_
      obtain ⟨μ20, r21, q19, h⟩ := bd2_some h
      refine V_callS (R1 := (rmd 1)) (As := [.int r18]) (r := (some (.int r21))) (zdk tbX5_readNumber_0_ok 40 rfl) sC5_135 (tX5_isDigit q19) rfl rfl ⟨Nat.le_of_ble_eq_true rfl, Nat.le_of_ble_eq_true rfl⟩ (Nat.le_of_ble_eq_true rfl) ⟨rfl, rfl⟩ id ?_
      refine V_if_eq (tgt := 108) (zdk tbX5_readNumber_0_ok 41 rfl) (by decide) (fun c22 => ?_) (fun c22 => ?_)
      · replace h := ite_t h c22
        exact tX5_readNumber_b108 v0 v1 v2 (zI μ2 v0 3) (r13 - (48 : Int32)) μ20 c_v0 h
      · replace h := ite_f h c22
        refine V_bipush (v := 10) (zdk tbX5_readNumber_0_ok 42 rfl) rfl ?_
        refine V_iload 4 (zdk tbX5_readNumber_0_ok 43 rfl) rfl ?_
        refine V_imul (zdk tbX5_readNumber_0_ok 44 rfl) ?_
        refine V_aload_n 0 (zdk tbX5_readNumber_0_ok 45 rfl) rfl ?_
        obtain ⟨μ24, r25, q23, h⟩ := bd2_some h
        refine V_callV (R1 := (rmd 1)) (As := []) (r := (some (.int r25))) (zdk tbX5_readNumber_0_ok 46 rfl) sC5_105 (tX5_letterHere q23) (c_v0) rfl rfl rfl ⟨Nat.le_of_ble_eq_true rfl, Nat.le_of_ble_eq_true rfl⟩ (Nat.le_of_ble_eq_true rfl) ⟨rfl, rfl⟩ id ?_
        refine V_iadd (zdk tbX5_readNumber_0_ok 47 rfl) ?_
        refine V_bipush (v := 48) (zdk tbX5_readNumber_0_ok 48 rfl) rfl ?_
        refine V_isub (zdk tbX5_readNumber_0_ok 49 rfl) ?_
        refine V_istore (ls' := [(0, .ref v0), (1, .int v1), (2, .int v2), (3, .int (zI μ2 v0 3)), (4, .int ((((10 : Int32) * (r13 - (48 : Int32))) + r25) - (48 : Int32)))]) [1, 2, 3, 4, 0] (zdk tbX5_readNumber_1_ok 0 rfl) (Nat.le_of_ble_eq_true rfl) rfl ?_
        refine V_aload_n 0 (zdk tbX5_readNumber_1_ok 1 rfl) rfl ?_
        refine V_dup_r (zdk tbX5_readNumber_1_ok 2 rfl) ?_
        refine V_getI (zdk tbX5_readNumber_1_ok 3 rfl) c_v0 fF5_26 rfl ?_
        refine V_iconst (v := 1) (zdk tbX5_readNumber_1_ok 4 rfl) rfl ?_
        refine V_iadd (zdk tbX5_readNumber_1_ok 5 rfl) ?_
        obtain ⟨μ26, e27, h⟩ := lt_some h
        refine V_putI (zdk tbX5_readNumber_1_ok 6 rfl) c_v0 fF5_26 rfl rfl rfl e27 ?_
        exact tX5_readNumber_b108 v0 v1 v2 (zI μ2 v0 3) ((((10 : Int32) * (r13 - (48 : Int32))) + r25) - (48 : Int32)) μ26 c_v0 h
    · replace h := ite_t h c10
      refine V_sub (ls' := [(0, .ref v0)]) [0] rfl ?_
      exact tX5_readNumber_b29 v0 μ8 c_v0 h

-- WhoComplainsCarries$VowReader.readPerson
def tbX5_readPerson_0 : List (Nat × Instr × Nat) := [(0, .aload_n 0, 1), (1, .getfield 22, 3), (4, .getfield 79, 3), (7, .bipush 7, 2), (9, .if_icmp .lt 9, 3), (12, .aload_n 0, 1), (13, .iload_n 1, 1), (14, .putfield 29, 3), (17, .return_, 1), (18, .aload_n 0, 1), (19, .iconst 0, 1), (20, .bipush 6, 2), (22, .invokevirtual 67, 3), (25, .istore_n 2, 1), (26, .aload_n 0, 1), (27, .iconst 0, 1), (28, .bipush 9, 2), (30, .invokevirtual 67, 3), (33, .istore_n 3, 1), (34, .aload_n 0, 1), (35, .iconst 1, 1), (36, .bipush 40, 2), (38, .invokevirtual 67, 3), (41, .istore 4, 2), (43, .aload_n 0, 1), (44, .iconst 0, 1), (45, .bipush 40, 2), (47, .invokevirtual 67, 3), (50, .istore 5, 2), (52, .aload_n 0, 1), (53, .getfield 29, 3), (56, .iconst (-1), 1), (57, .if_icmp .ne 16, 3), (60, .aload_n 0, 1), (61, .getfield 22, 3), (64, .iload_n 2, 1), (65, .iload_n 3, 1), (66, .iload 4, 2), (68, .iload 5, 2), (70, .invokevirtual 89, 3), (73, .return_, 1)]
theorem tbX5_readPerson_0_ok : ∀ q ∈ tbX5_readPerson_0, decode cX5_readPerson q.1 = .ok (q.2.1, q.2.2) := by decide +kernel
theorem fF5_79 : zF RX5 79 4 1 := ⟨_, rfl, by decide, zin (i := 97) (by decide +kernel) rfl⟩
theorem wCX5_readNumber : zCW mX5_readNumber 2 := ⟨zin (i := 6) (by decide +kernel) rfl, zin (i := 510) (by decide +kernel) rfl, by decide +kernel, by decide +kernel, by decide +kernel⟩
theorem sC5_67 : zCV RX5 67 mX5_readNumber 2 := ⟨zin (i := 507) (by decide +kernel) rfl, zin (i := 509) (by decide +kernel) rfl, zinP (i := 11) (q := (yX5_readNumber, 5)) (by decide +kernel) rfl, wCX5_readNumber⟩
theorem wCX4_addPerson : zCW mX4_addPerson 4 := ⟨zin (i := 3) (by decide +kernel) rfl, zin (i := 384) (by decide +kernel) rfl, by decide +kernel, by decide +kernel, by decide +kernel⟩
theorem sC5_89 : zCV RX5 89 mX4_addPerson 4 := ⟨zin (i := 519) (by decide +kernel) rfl, zin (i := 382) (by decide +kernel) rfl, zin (i := 383) (by decide +kernel) rfl, wCX4_addPerson⟩
def fX5_readPerson_b73 (n : Nat) (μ : ZMem) : Option (ZMem) := some μ
theorem tX5_readPerson_b73 {l : Launch} {fr : Bool} {n : Nat} {z : ZMem} (μ : ZMem) (h : fX5_readPerson_b73 n μ = some z) : V (zkV l mX5_readPerson (rmd 4) fr n z) fr 73 [] [] n μ := by
  unfold fX5_readPerson_b73 at h
  cases h
  exact V_vret (zdk tbX5_readPerson_0_ok 40 rfl) rfl rfl
def fX5_readPerson (n : Nat) (v0 : Nat) (v1 : Int32) (μ : ZMem) : Option (ZMem) := chk (isC n 5 v0) (bd1 (zRc n 4 μ v0 2) (fun r1 => (if (zI μ r1 1) < (7 : Int32) then bd2 (fX5_readNumber n v0 (0 : Int32) (6 : Int32) μ) (fun μ5 r6 => bd2 (fX5_readNumber n v0 (0 : Int32) (9 : Int32) μ5) (fun μ8 r9 => bd2 (fX5_readNumber n v0 (1 : Int32) (40 : Int32) μ8) (fun μ11 r12 => bd2 (fX5_readNumber n v0 (0 : Int32) (40 : Int32) μ11) (fun μ14 r15 => (if (zI μ14 v0 4) = (-1 : Int32) then bd1 (zRc n 4 μ14 v0 2) (fun r17 => bd1 (fX4_addPerson n r17 r6 r9 r12 r15 μ14) (fun μ20 => (fX5_readPerson_b73 n  μ20))) else (fX5_readPerson_b73 n  μ14)))))) else lt (zpI μ v0 4 v1) (fun μ21 => some μ21))))
theorem tX5_readPerson {l : Launch} {fr : Bool} {n : Nat} {v0 : Nat} {v1 : Int32} {μ : ZMem} {z : ZMem} (h : fX5_readPerson n v0 v1 μ = some z) : ZFn l mX5_readPerson (rmd 4) [.ref v0, .int v1] fr n μ (fr, n, z, none) := by
  unfold fX5_readPerson at h
  obtain ⟨c_v0, h⟩ := chk_some h
  refine ZFn.of (ls := [(0, .ref v0), (1, .int v1)]) (by decide) (fun ξ => Nat.le_of_ble_eq_true rfl) (fun ξ => rfl) ?_
  refine V_aload_n 0 (zdk tbX5_readPerson_0_ok 0 rfl) rfl ?_
  obtain ⟨r1, q2, h⟩ := bd1_some h
  obtain ⟨q2, c_r1⟩ := zRc_some q2
  refine V_getR (zdk tbX5_readPerson_0_ok 1 rfl) c_v0 fF5_22 rfl q2 ?_
  refine V_getI (zdk tbX5_readPerson_0_ok 2 rfl) c_r1 fF5_79 rfl ?_
  refine V_bipush (v := 7) (zdk tbX5_readPerson_0_ok 3 rfl) rfl ?_
  refine V_icmp_lt (tgt := 18) (zdk tbX5_readPerson_0_ok 4 rfl) (by decide) (fun c3 => ?_) (fun c3 => ?_)
  · replace h := ite_t h c3
    refine V_aload_n 0 (zdk tbX5_readPerson_0_ok 9 rfl) rfl ?_
    refine V_iconst (v := 0) (zdk tbX5_readPerson_0_ok 10 rfl) rfl ?_
    refine V_bipush (v := 6) (zdk tbX5_readPerson_0_ok 11 rfl) rfl ?_
    obtain ⟨μ5, r6, q4, h⟩ := bd2_some h
    refine V_callV (R1 := (rmd 3)) (As := [.int (0 : Int32), .int (6 : Int32)]) (r := (some (.int r6))) (zdk tbX5_readPerson_0_ok 12 rfl) sC5_67 (tX5_readNumber q4) (c_v0) rfl rfl rfl ⟨Nat.le_of_ble_eq_true rfl, Nat.le_of_ble_eq_true rfl⟩ (Nat.le_of_ble_eq_true rfl) ⟨rfl, rfl⟩ id ?_
    refine V_istore_n (ls' := [(0, .ref v0), (2, .int r6)]) [1, 0] (zdk tbX5_readPerson_0_ok 13 rfl) (Nat.le_of_ble_eq_true rfl) rfl ?_
    refine V_aload_n 0 (zdk tbX5_readPerson_0_ok 14 rfl) rfl ?_
    refine V_iconst (v := 0) (zdk tbX5_readPerson_0_ok 15 rfl) rfl ?_
    refine V_bipush (v := 9) (zdk tbX5_readPerson_0_ok 16 rfl) rfl ?_
    obtain ⟨μ8, r9, q7, h⟩ := bd2_some h
    refine V_callV (R1 := (rmd 3)) (As := [.int (0 : Int32), .int (9 : Int32)]) (r := (some (.int r9))) (zdk tbX5_readPerson_0_ok 17 rfl) sC5_67 (tX5_readNumber q7) (c_v0) rfl rfl rfl ⟨Nat.le_of_ble_eq_true rfl, Nat.le_of_ble_eq_true rfl⟩ (Nat.le_of_ble_eq_true rfl) ⟨rfl, rfl⟩ id ?_
    refine V_istore_n (ls' := [(0, .ref v0), (2, .int r6), (3, .int r9)]) [1, 2, 0] (zdk tbX5_readPerson_0_ok 18 rfl) (Nat.le_of_ble_eq_true rfl) rfl ?_
    refine V_aload_n 0 (zdk tbX5_readPerson_0_ok 19 rfl) rfl ?_
    refine V_iconst (v := 1) (zdk tbX5_readPerson_0_ok 20 rfl) rfl ?_
    refine V_bipush (v := 40) (zdk tbX5_readPerson_0_ok 21 rfl) rfl ?_
    obtain ⟨μ11, r12, q10, h⟩ := bd2_some h
    refine V_callV (R1 := (rmd 3)) (As := [.int (1 : Int32), .int (40 : Int32)]) (r := (some (.int r12))) (zdk tbX5_readPerson_0_ok 22 rfl) sC5_67 (tX5_readNumber q10) (c_v0) rfl rfl rfl ⟨Nat.le_of_ble_eq_true rfl, Nat.le_of_ble_eq_true rfl⟩ (Nat.le_of_ble_eq_true rfl) ⟨rfl, rfl⟩ id ?_
    refine V_istore (ls' := [(0, .ref v0), (2, .int r6), (3, .int r9), (4, .int r12)]) [1, 2, 3, 0] (zdk tbX5_readPerson_0_ok 23 rfl) (Nat.le_of_ble_eq_true rfl) rfl ?_
    refine V_aload_n 0 (zdk tbX5_readPerson_0_ok 24 rfl) rfl ?_
    refine V_iconst (v := 0) (zdk tbX5_readPerson_0_ok 25 rfl) rfl ?_
    refine V_bipush (v := 40) (zdk tbX5_readPerson_0_ok 26 rfl) rfl ?_
    obtain ⟨μ14, r15, q13, h⟩ := bd2_some h
    refine V_callV (R1 := (rmd 3)) (As := [.int (0 : Int32), .int (40 : Int32)]) (r := (some (.int r15))) (zdk tbX5_readPerson_0_ok 27 rfl) sC5_67 (tX5_readNumber q13) (c_v0) rfl rfl rfl ⟨Nat.le_of_ble_eq_true rfl, Nat.le_of_ble_eq_true rfl⟩ (Nat.le_of_ble_eq_true rfl) ⟨rfl, rfl⟩ id ?_
    refine V_istore (ls' := [(0, .ref v0), (2, .int r6), (3, .int r9), (4, .int r12), (5, .int r15)]) [1, 2, 3, 4, 0] (zdk tbX5_readPerson_0_ok 28 rfl) (Nat.le_of_ble_eq_true rfl) rfl ?_
    refine V_aload_n 0 (zdk tbX5_readPerson_0_ok 29 rfl) rfl ?_
    refine V_getI (zdk tbX5_readPerson_0_ok 30 rfl) c_v0 fF5_29 rfl ?_
    refine V_iconst (v := (-1)) (zdk tbX5_readPerson_0_ok 31 rfl) rfl ?_
    refine V_icmp_ne (tgt := 73) (zdk tbX5_readPerson_0_ok 32 rfl) (by decide) (fun c16 => ?_) (fun c16 => ?_)
    · replace h := ite_f h c16
      refine V_sub (ls' := []) [] rfl ?_
      exact tX5_readPerson_b73  μ14  h
    · replace h := ite_t h c16
      refine V_aload_n 0 (zdk tbX5_readPerson_0_ok 33 rfl) rfl ?_
      obtain ⟨r17, q18, h⟩ := bd1_some h
      obtain ⟨q18, c_r17⟩ := zRc_some q18
      refine V_getR (zdk tbX5_readPerson_0_ok 34 rfl) c_v0 fF5_22 rfl q18 ?_
      refine V_iload_n 1 (zdk tbX5_readPerson_0_ok 35 rfl) rfl ?_
      refine V_iload_n 2 (zdk tbX5_readPerson_0_ok 36 rfl) rfl ?_
      refine V_iload 3 (zdk tbX5_readPerson_0_ok 37 rfl) rfl ?_
      refine V_iload 4 (zdk tbX5_readPerson_0_ok 38 rfl) rfl ?_
      obtain ⟨μ20, q19, h⟩ := bd1_some h
      refine V_callV (R1 := (rmd 2)) (As := [.int r6, .int r9, .int r12, .int r15]) (r := none) (zdk tbX5_readPerson_0_ok 39 rfl) sC5_89 (tX4_addPerson q19) (c_r17) rfl rfl rfl ⟨Nat.le_of_ble_eq_true rfl, Nat.le_of_ble_eq_true rfl⟩ (Nat.le_of_ble_eq_true rfl) ⟨rfl, rfl⟩ id ?_
      refine V_sub (ls' := []) [] rfl ?_
      exact tX5_readPerson_b73  μ20  h
  · replace h := ite_f h c3
    refine V_aload_n 0 (zdk tbX5_readPerson_0_ok 5 rfl) rfl ?_
    refine V_iload_n 1 (zdk tbX5_readPerson_0_ok 6 rfl) rfl ?_
    obtain ⟨μ21, e22, h⟩ := lt_some h
    refine V_putI (zdk tbX5_readPerson_0_ok 7 rfl) c_v0 fF5_29 rfl rfl rfl e22 ?_
    cases h
    exact V_vret (zdk tbX5_readPerson_0_ok 8 rfl) rfl rfl

-- WhoComplainsCarries$VowReader.tellWeight
def tbX5_tellWeight_0 : List (Nat × Instr × Nat) := [(0, .aload_n 0, 1), (1, .getfield 29, 3), (4, .iconst (-1), 1), (5, .if_icmp .ne 11, 3), (8, .aload_n 0, 1), (9, .getfield 22, 3), (12, .iload_n 1, 1), (13, .putfield 93, 3), (16, .return_, 1)]
theorem tbX5_tellWeight_0_ok : ∀ q ∈ tbX5_tellWeight_0, decode cX5_tellWeight q.1 = .ok (q.2.1, q.2.2) := by decide +kernel
theorem fF5_93 : zF RX5 93 4 2 := ⟨_, rfl, by decide, zin (i := 100) (by decide +kernel) rfl⟩
def fX5_tellWeight_b16 (n : Nat) (μ : ZMem) : Option (ZMem) := some μ
theorem tX5_tellWeight_b16 {l : Launch} {fr : Bool} {n : Nat} {z : ZMem} (μ : ZMem) (h : fX5_tellWeight_b16 n μ = some z) : V (zkV l mX5_tellWeight (rmd 1) fr n z) fr 16 [] [] n μ := by
  unfold fX5_tellWeight_b16 at h
  cases h
  exact V_vret (zdk tbX5_tellWeight_0_ok 8 rfl) rfl rfl
def fX5_tellWeight (n : Nat) (v0 : Nat) (v1 : Int32) (μ : ZMem) : Option (ZMem) := chk (isC n 5 v0) ((if (zI μ v0 4) = (-1 : Int32) then bd1 (zRc n 4 μ v0 2) (fun r2 => lt (zpI μ r2 2 v1) (fun μ4 => (fX5_tellWeight_b16 n  μ4))) else (fX5_tellWeight_b16 n  μ)))
theorem tX5_tellWeight {l : Launch} {fr : Bool} {n : Nat} {v0 : Nat} {v1 : Int32} {μ : ZMem} {z : ZMem} (h : fX5_tellWeight n v0 v1 μ = some z) : ZFn l mX5_tellWeight (rmd 1) [.ref v0, .int v1] fr n μ (fr, n, z, none) := by
  unfold fX5_tellWeight at h
  obtain ⟨c_v0, h⟩ := chk_some h
  refine ZFn.of (ls := [(0, .ref v0), (1, .int v1)]) (by decide) (fun ξ => Nat.le_of_ble_eq_true rfl) (fun ξ => rfl) ?_
  refine V_aload_n 0 (zdk tbX5_tellWeight_0_ok 0 rfl) rfl ?_
  refine V_getI (zdk tbX5_tellWeight_0_ok 1 rfl) c_v0 fF5_29 rfl ?_
  refine V_iconst (v := (-1)) (zdk tbX5_tellWeight_0_ok 2 rfl) rfl ?_
  refine V_icmp_ne (tgt := 16) (zdk tbX5_tellWeight_0_ok 3 rfl) (by decide) (fun c1 => ?_) (fun c1 => ?_)
  · replace h := ite_f h c1
    refine V_sub (ls' := []) [] rfl ?_
    exact tX5_tellWeight_b16  μ  h
  · replace h := ite_t h c1
    refine V_aload_n 0 (zdk tbX5_tellWeight_0_ok 4 rfl) rfl ?_
    obtain ⟨r2, q3, h⟩ := bd1_some h
    obtain ⟨q3, c_r2⟩ := zRc_some q3
    refine V_getR (zdk tbX5_tellWeight_0_ok 5 rfl) c_v0 fF5_22 rfl q3 ?_
    refine V_iload_n 1 (zdk tbX5_tellWeight_0_ok 6 rfl) rfl ?_
    obtain ⟨μ4, e5, h⟩ := lt_some h
    refine V_putI (zdk tbX5_tellWeight_0_ok 7 rfl) c_r2 fF5_93 rfl rfl rfl e5 ?_
    refine V_sub (ls' := []) [] rfl ?_
    exact tX5_tellWeight_b16  μ4  h

-- WhoComplainsCarries$VowReader.tellWay
def tbX5_tellWay_0 : List (Nat × Instr × Nat) := [(0, .aload_n 0, 1), (1, .getfield 29, 3), (4, .iconst (-1), 1), (5, .if_icmp .ne 11, 3), (8, .aload_n 0, 1), (9, .getfield 22, 3), (12, .iload_n 1, 1), (13, .putfield 96, 3), (16, .return_, 1)]
theorem tbX5_tellWay_0_ok : ∀ q ∈ tbX5_tellWay_0, decode cX5_tellWay q.1 = .ok (q.2.1, q.2.2) := by decide +kernel
theorem fF5_96 : zF RX5 96 4 3 := ⟨_, rfl, by decide, zin (i := 104) (by decide +kernel) rfl⟩
def fX5_tellWay_b16 (n : Nat) (μ : ZMem) : Option (ZMem) := some μ
theorem tX5_tellWay_b16 {l : Launch} {fr : Bool} {n : Nat} {z : ZMem} (μ : ZMem) (h : fX5_tellWay_b16 n μ = some z) : V (zkV l mX5_tellWay (rmd 1) fr n z) fr 16 [] [] n μ := by
  unfold fX5_tellWay_b16 at h
  cases h
  exact V_vret (zdk tbX5_tellWay_0_ok 8 rfl) rfl rfl
def fX5_tellWay (n : Nat) (v0 : Nat) (v1 : Int32) (μ : ZMem) : Option (ZMem) := chk (isC n 5 v0) ((if (zI μ v0 4) = (-1 : Int32) then bd1 (zRc n 4 μ v0 2) (fun r2 => lt (zpI μ r2 3 v1) (fun μ4 => (fX5_tellWay_b16 n  μ4))) else (fX5_tellWay_b16 n  μ)))
theorem tX5_tellWay {l : Launch} {fr : Bool} {n : Nat} {v0 : Nat} {v1 : Int32} {μ : ZMem} {z : ZMem} (h : fX5_tellWay n v0 v1 μ = some z) : ZFn l mX5_tellWay (rmd 1) [.ref v0, .int v1] fr n μ (fr, n, z, none) := by
  unfold fX5_tellWay at h
  obtain ⟨c_v0, h⟩ := chk_some h
  refine ZFn.of (ls := [(0, .ref v0), (1, .int v1)]) (by decide) (fun ξ => Nat.le_of_ble_eq_true rfl) (fun ξ => rfl) ?_
  refine V_aload_n 0 (zdk tbX5_tellWay_0_ok 0 rfl) rfl ?_
  refine V_getI (zdk tbX5_tellWay_0_ok 1 rfl) c_v0 fF5_29 rfl ?_
  refine V_iconst (v := (-1)) (zdk tbX5_tellWay_0_ok 2 rfl) rfl ?_
  refine V_icmp_ne (tgt := 16) (zdk tbX5_tellWay_0_ok 3 rfl) (by decide) (fun c1 => ?_) (fun c1 => ?_)
  · replace h := ite_f h c1
    refine V_sub (ls' := []) [] rfl ?_
    exact tX5_tellWay_b16  μ  h
  · replace h := ite_t h c1
    refine V_aload_n 0 (zdk tbX5_tellWay_0_ok 4 rfl) rfl ?_
    obtain ⟨r2, q3, h⟩ := bd1_some h
    obtain ⟨q3, c_r2⟩ := zRc_some q3
    refine V_getR (zdk tbX5_tellWay_0_ok 5 rfl) c_v0 fF5_22 rfl q3 ?_
    refine V_iload_n 1 (zdk tbX5_tellWay_0_ok 6 rfl) rfl ?_
    obtain ⟨μ4, e5, h⟩ := lt_some h
    refine V_putI (zdk tbX5_tellWay_0_ok 7 rfl) c_r2 fF5_96 rfl rfl rfl e5 ?_
    refine V_sub (ls' := []) [] rfl ?_
    exact tX5_tellWay_b16  μ4  h

-- WhoComplainsCarries$VowReader.tellBearer
def tbX5_tellBearer_0 : List (Nat × Instr × Nat) := [(0, .aload_n 0, 1), (1, .getfield 29, 3), (4, .iconst (-1), 1), (5, .if_icmp .ne 11, 3), (8, .aload_n 0, 1), (9, .getfield 22, 3), (12, .iload_n 1, 1), (13, .putfield 99, 3), (16, .return_, 1)]
theorem tbX5_tellBearer_0_ok : ∀ q ∈ tbX5_tellBearer_0, decode cX5_tellBearer q.1 = .ok (q.2.1, q.2.2) := by decide +kernel
theorem fF5_99 : zF RX5 99 4 5 := ⟨_, rfl, by decide, zin (i := 111) (by decide +kernel) rfl⟩
def fX5_tellBearer_b16 (n : Nat) (μ : ZMem) : Option (ZMem) := some μ
theorem tX5_tellBearer_b16 {l : Launch} {fr : Bool} {n : Nat} {z : ZMem} (μ : ZMem) (h : fX5_tellBearer_b16 n μ = some z) : V (zkV l mX5_tellBearer (rmd 1) fr n z) fr 16 [] [] n μ := by
  unfold fX5_tellBearer_b16 at h
  cases h
  exact V_vret (zdk tbX5_tellBearer_0_ok 8 rfl) rfl rfl
def fX5_tellBearer (n : Nat) (v0 : Nat) (v1 : Int32) (μ : ZMem) : Option (ZMem) := chk (isC n 5 v0) ((if (zI μ v0 4) = (-1 : Int32) then bd1 (zRc n 4 μ v0 2) (fun r2 => lt (zpI μ r2 5 v1) (fun μ4 => (fX5_tellBearer_b16 n  μ4))) else (fX5_tellBearer_b16 n  μ)))
theorem tX5_tellBearer {l : Launch} {fr : Bool} {n : Nat} {v0 : Nat} {v1 : Int32} {μ : ZMem} {z : ZMem} (h : fX5_tellBearer n v0 v1 μ = some z) : ZFn l mX5_tellBearer (rmd 1) [.ref v0, .int v1] fr n μ (fr, n, z, none) := by
  unfold fX5_tellBearer at h
  obtain ⟨c_v0, h⟩ := chk_some h
  refine ZFn.of (ls := [(0, .ref v0), (1, .int v1)]) (by decide) (fun ξ => Nat.le_of_ble_eq_true rfl) (fun ξ => rfl) ?_
  refine V_aload_n 0 (zdk tbX5_tellBearer_0_ok 0 rfl) rfl ?_
  refine V_getI (zdk tbX5_tellBearer_0_ok 1 rfl) c_v0 fF5_29 rfl ?_
  refine V_iconst (v := (-1)) (zdk tbX5_tellBearer_0_ok 2 rfl) rfl ?_
  refine V_icmp_ne (tgt := 16) (zdk tbX5_tellBearer_0_ok 3 rfl) (by decide) (fun c1 => ?_) (fun c1 => ?_)
  · replace h := ite_f h c1
    refine V_sub (ls' := []) [] rfl ?_
    exact tX5_tellBearer_b16  μ  h
  · replace h := ite_t h c1
    refine V_aload_n 0 (zdk tbX5_tellBearer_0_ok 4 rfl) rfl ?_
    obtain ⟨r2, q3, h⟩ := bd1_some h
    obtain ⟨q3, c_r2⟩ := zRc_some q3
    refine V_getR (zdk tbX5_tellBearer_0_ok 5 rfl) c_v0 fF5_22 rfl q3 ?_
    refine V_iload_n 1 (zdk tbX5_tellBearer_0_ok 6 rfl) rfl ?_
    obtain ⟨μ4, e5, h⟩ := lt_some h
    refine V_putI (zdk tbX5_tellBearer_0_ok 7 rfl) c_r2 fF5_99 rfl rfl rfl e5 ?_
    refine V_sub (ls' := []) [] rfl ?_
    exact tX5_tellBearer_b16  μ4  h

-- WhoComplainsCarries$VowReader.tellSort
def tbX5_tellSort_0 : List (Nat × Instr × Nat) := [(0, .aload_n 0, 1), (1, .getfield 29, 3), (4, .iconst (-1), 1), (5, .if_icmp .ne 44, 3), (8, .iconst 1, 1), (9, .iload_n 1, 1), (10, .bipush 7, 2), (12, .iand, 1), (13, .ishl, 1), (14, .istore_n 3, 1), (15, .aload_n 0, 1), (16, .getfield 22, 3), (19, .iload_n 2, 1), (20, .ifCond .eq 15, 3), (23, .aload_n 0, 1), (24, .getfield 22, 3), (27, .getfield 102, 3), (30, .iload_n 3, 1), (31, .ior, 1), (32, .goto 14, 3), (35, .aload_n 0, 1), (36, .getfield 22, 3), (39, .getfield 102, 3), (42, .iload_n 3, 1), (43, .iconst (-1), 1), (44, .ixor, 1), (45, .iand, 1), (46, .putfield 102, 3), (49, .return_, 1)]
theorem tbX5_tellSort_0_ok : ∀ q ∈ tbX5_tellSort_0, decode cX5_tellSort q.1 = .ok (q.2.1, q.2.2) := by decide +kernel
theorem fF5_102 : zF RX5 102 4 7 := ⟨_, rfl, by decide, zin (i := 116) (by decide +kernel) rfl⟩
def fX5_tellSort_b49 (n : Nat) (μ : ZMem) : Option (ZMem) := some μ
theorem tX5_tellSort_b49 {l : Launch} {fr : Bool} {n : Nat} {z : ZMem} (μ : ZMem) (h : fX5_tellSort_b49 n μ = some z) : V (zkV l mX5_tellSort (rmd 1) fr n z) fr 49 [] [] n μ := by
  unfold fX5_tellSort_b49 at h
  cases h
  exact V_vret (zdk tbX5_tellSort_0_ok 28 rfl) rfl rfl
def fX5_tellSort_b46 (n : Nat) (s0 : Nat) (s1 : Int32) (μ : ZMem) : Option (ZMem) := lt (zpI μ s0 7 s1) (fun μ1 => (fX5_tellSort_b49 n  μ1))
theorem tX5_tellSort_b46 {l : Launch} {fr : Bool} {n : Nat} {z : ZMem} (s0 : Nat) (s1 : Int32) (μ : ZMem) (c_s0 : isC n 4 s0 = true) (h : fX5_tellSort_b46 n s0 s1 μ = some z) : V (zkV l mX5_tellSort (rmd 1) fr n z) fr 46 [] [.int s1, .ref s0] n μ := by
  unfold fX5_tellSort_b46 at h
  obtain ⟨μ1, e2, h⟩ := lt_some h
  refine V_putI (zdk tbX5_tellSort_0_ok 27 rfl) c_s0 fF5_102 rfl rfl rfl e2 ?_
  exact tX5_tellSort_b49  μ1  h
def fX5_tellSort (n : Nat) (v0 : Nat) (v1 : Int32) (v2 : Int32) (μ : ZMem) : Option (ZMem) := chk (isC n 5 v0) ((if (zI μ v0 4) = (-1 : Int32) then bd1 (zRc n 4 μ v0 2) (fun r2 => (if v2 = 0 then bd1 (zRc n 4 μ v0 2) (fun r5 => (fX5_tellSort_b46 n r2 ((zI μ r5 7) &&& (((1 : Int32) <<< ((v1 &&& (7 : Int32)) &&& 31)) ^^^ (-1 : Int32))) μ)) else bd1 (zRc n 4 μ v0 2) (fun r7 => (fX5_tellSort_b46 n r2 ((zI μ r7 7) ||| ((1 : Int32) <<< ((v1 &&& (7 : Int32)) &&& 31))) μ)))) else (fX5_tellSort_b49 n  μ)))
theorem tX5_tellSort {l : Launch} {fr : Bool} {n : Nat} {v0 : Nat} {v1 : Int32} {v2 : Int32} {μ : ZMem} {z : ZMem} (h : fX5_tellSort n v0 v1 v2 μ = some z) : ZFn l mX5_tellSort (rmd 1) [.ref v0, .int v1, .int v2] fr n μ (fr, n, z, none) := by
  unfold fX5_tellSort at h
  obtain ⟨c_v0, h⟩ := chk_some h
  refine ZFn.of (ls := [(0, .ref v0), (1, .int v1), (2, .int v2)]) (by decide) (fun ξ => Nat.le_of_ble_eq_true rfl) (fun ξ => rfl) ?_
  refine V_aload_n 0 (zdk tbX5_tellSort_0_ok 0 rfl) rfl ?_
  refine V_getI (zdk tbX5_tellSort_0_ok 1 rfl) c_v0 fF5_29 rfl ?_
  refine V_iconst (v := (-1)) (zdk tbX5_tellSort_0_ok 2 rfl) rfl ?_
  refine V_icmp_ne (tgt := 49) (zdk tbX5_tellSort_0_ok 3 rfl) (by decide) (fun c1 => ?_) (fun c1 => ?_)
  · replace h := ite_f h c1
    refine V_sub (ls' := []) [] rfl ?_
    exact tX5_tellSort_b49  μ  h
  · replace h := ite_t h c1
    refine V_iconst (v := 1) (zdk tbX5_tellSort_0_ok 4 rfl) rfl ?_
    refine V_iload_n 1 (zdk tbX5_tellSort_0_ok 5 rfl) rfl ?_
    refine V_bipush (v := 7) (zdk tbX5_tellSort_0_ok 6 rfl) rfl ?_
    refine V_iand (zdk tbX5_tellSort_0_ok 7 rfl) ?_
    refine V_ishl (zdk tbX5_tellSort_0_ok 8 rfl) ?_
    refine V_istore_n (ls' := [(0, .ref v0), (2, .int v2), (3, .int ((1 : Int32) <<< ((v1 &&& (7 : Int32)) &&& 31)))]) [1, 3, 0] (zdk tbX5_tellSort_0_ok 9 rfl) (Nat.le_of_ble_eq_true rfl) rfl ?_
    refine V_aload_n 0 (zdk tbX5_tellSort_0_ok 10 rfl) rfl ?_
    obtain ⟨r2, q3, h⟩ := bd1_some h
    obtain ⟨q3, c_r2⟩ := zRc_some q3
    refine V_getR (zdk tbX5_tellSort_0_ok 11 rfl) c_v0 fF5_22 rfl q3 ?_
    refine V_iload_n 1 (zdk tbX5_tellSort_0_ok 12 rfl) rfl ?_
    refine V_if_eq (tgt := 35) (zdk tbX5_tellSort_0_ok 13 rfl) (by decide) (fun c4 => ?_) (fun c4 => ?_)
    · replace h := ite_t h c4
      refine V_aload_n 0 (zdk tbX5_tellSort_0_ok 20 rfl) rfl ?_
      obtain ⟨r5, q6, h⟩ := bd1_some h
      obtain ⟨q6, c_r5⟩ := zRc_some q6
      refine V_getR (zdk tbX5_tellSort_0_ok 21 rfl) c_v0 fF5_22 rfl q6 ?_
      refine V_getI (zdk tbX5_tellSort_0_ok 22 rfl) c_r5 fF5_102 rfl ?_
      refine V_iload_n 2 (zdk tbX5_tellSort_0_ok 23 rfl) rfl ?_
      refine V_iconst (v := (-1)) (zdk tbX5_tellSort_0_ok 24 rfl) rfl ?_
      refine V_ixor (zdk tbX5_tellSort_0_ok 25 rfl) ?_
      refine V_iand (zdk tbX5_tellSort_0_ok 26 rfl) ?_
      refine V_sub (ls' := []) [] rfl ?_
      exact tX5_tellSort_b46 r2 ((zI μ r5 7) &&& (((1 : Int32) <<< ((v1 &&& (7 : Int32)) &&& 31)) ^^^ (-1 : Int32))) μ c_r2 h
    · replace h := ite_f h c4
      refine V_aload_n 0 (zdk tbX5_tellSort_0_ok 14 rfl) rfl ?_
      obtain ⟨r7, q8, h⟩ := bd1_some h
      obtain ⟨q8, c_r7⟩ := zRc_some q8
      refine V_getR (zdk tbX5_tellSort_0_ok 15 rfl) c_v0 fF5_22 rfl q8 ?_
      refine V_getI (zdk tbX5_tellSort_0_ok 16 rfl) c_r7 fF5_102 rfl ?_
      refine V_iload_n 2 (zdk tbX5_tellSort_0_ok 17 rfl) rfl ?_
      refine V_ior (zdk tbX5_tellSort_0_ok 18 rfl) ?_
      refine V_goto (tgt := 46) (zdk tbX5_tellSort_0_ok 19 rfl) (by decide) ?_
      refine V_sub (ls' := []) [] rfl ?_
      exact tX5_tellSort_b46 r2 ((zI μ r7 7) ||| ((1 : Int32) <<< ((v1 &&& (7 : Int32)) &&& 31))) μ c_r2 h

-- WhoComplainsCarries$VowReader.readItem
def tbX5_readItem_0 : List (Nat × Instr × Nat) := [(0, .aload_n 0, 1), (1, .getfield 26, 3), (4, .istore_n 1, 1), (5, .aload_n 0, 1), (6, .invokevirtual 60, 3), (9, .istore_n 2, 1), (10, .aload_n 0, 1), (11, .getfield 29, 3), (14, .iconst (-1), 1), (15, .if_icmp .eq 4, 3), (18, .return_, 1), (19, .iload_n 2, 1), (20, .tableswitch 125 0 5 #[40, 48, 62, 82, 103, 111], 40), (60, .aload_n 0, 1), (61, .iload_n 1, 1), (62, .invokevirtual 64, 3), (65, .goto 91, 3), (68, .aload_n 0, 1), (69, .aload_n 0, 1), (70, .iconst 1, 1), (71, .bipush 99, 2), (73, .invokevirtual 67, 3), (76, .invokevirtual 70, 3), (79, .goto 77, 3), (82, .aload_n 0, 1), (83, .aload_n 0, 1), (84, .aload_n 0, 1), (85, .getfield 22, 3), (88, .getfield 73, 3), (91, .bipush 99, 2), (93, .invokevirtual 67, 3), (96, .invokevirtual 76, 3), (99, .goto 57, 3), (102, .aload_n 0, 1), (103, .aload_n 0, 1), (104, .iconst 0, 1), (105, .aload_n 0, 1), (106, .getfield 22, 3), (109, .getfield 79, 3), (112, .iconst 1, 1), (113, .isub, 1), (114, .invokevirtual 67, 3), (117, .invokevirtual 82, 3), (120, .goto 36, 3), (123, .aload_n 0, 1), (124, .iconst (-1), 1), (125, .invokevirtual 82, 3), (128, .goto 28, 3), (131, .aload_n 0, 1), (132, .aload_n 0, 1)]
theorem tbX5_readItem_0_ok : ∀ q ∈ tbX5_readItem_0, decode cX5_readItem q.1 = .ok (q.2.1, q.2.2) := by decide +kernel
def tbX5_readItem_1 : List (Nat × Instr × Nat) := [(133, .iconst 0, 1), (134, .iconst 4, 1), (135, .invokevirtual 67, 3), (138, .iconst 1, 1), (139, .invokevirtual 85, 3), (142, .goto 14, 3), (145, .aload_n 0, 1), (146, .aload_n 0, 1), (147, .iconst 0, 1), (148, .iconst 4, 1), (149, .invokevirtual 67, 3), (152, .iconst 0, 1), (153, .invokevirtual 85, 3), (156, .return_, 1)]
theorem tbX5_readItem_1_ok : ∀ q ∈ tbX5_readItem_1, decode cX5_readItem q.1 = .ok (q.2.1, q.2.2) := by decide +kernel
theorem wCX5_readWord : zCW mX5_readWord 0 := ⟨zin (i := 6) (by decide +kernel) rfl, zin (i := 439) (by decide +kernel) rfl, by decide +kernel, by decide +kernel, by decide +kernel⟩
theorem sC5_60 : zCV RX5 60 mX5_readWord 0 := ⟨zin (i := 436) (by decide +kernel) rfl, zin (i := 438) (by decide +kernel) rfl, zinP (i := 8) (q := (yX5_readWord, 5)) (by decide +kernel) rfl, wCX5_readWord⟩
theorem wCX5_readPerson : zCW mX5_readPerson 1 := ⟨zin (i := 6) (by decide +kernel) rfl, zin (i := 506) (by decide +kernel) rfl, by decide +kernel, by decide +kernel, by decide +kernel⟩
theorem sC5_64 : zCV RX5 64 mX5_readPerson 1 := ⟨zin (i := 503) (by decide +kernel) rfl, zin (i := 505) (by decide +kernel) rfl, zinP (i := 10) (q := (yX5_readPerson, 5)) (by decide +kernel) rfl, wCX5_readPerson⟩
theorem wCX5_tellWeight : zCW mX5_tellWeight 1 := ⟨zin (i := 6) (by decide +kernel) rfl, zin (i := 523) (by decide +kernel) rfl, by decide +kernel, by decide +kernel, by decide +kernel⟩
theorem sC5_70 : zCV RX5 70 mX5_tellWeight 1 := ⟨zin (i := 520) (by decide +kernel) rfl, zin (i := 522) (by decide +kernel) rfl, zinP (i := 13) (q := (yX5_tellWeight, 5)) (by decide +kernel) rfl, wCX5_tellWeight⟩
theorem fF5_73 : zF RX5 73 4 4 := ⟨_, rfl, by decide, zin (i := 107) (by decide +kernel) rfl⟩
theorem wCX5_tellWay : zCW mX5_tellWay 1 := ⟨zin (i := 6) (by decide +kernel) rfl, zin (i := 527) (by decide +kernel) rfl, by decide +kernel, by decide +kernel, by decide +kernel⟩
theorem sC5_76 : zCV RX5 76 mX5_tellWay 1 := ⟨zin (i := 524) (by decide +kernel) rfl, zin (i := 526) (by decide +kernel) rfl, zinP (i := 14) (q := (yX5_tellWay, 5)) (by decide +kernel) rfl, wCX5_tellWay⟩
theorem wCX5_tellBearer : zCW mX5_tellBearer 1 := ⟨zin (i := 6) (by decide +kernel) rfl, zin (i := 531) (by decide +kernel) rfl, by decide +kernel, by decide +kernel, by decide +kernel⟩
theorem sC5_82 : zCV RX5 82 mX5_tellBearer 1 := ⟨zin (i := 528) (by decide +kernel) rfl, zin (i := 530) (by decide +kernel) rfl, zinP (i := 15) (q := (yX5_tellBearer, 5)) (by decide +kernel) rfl, wCX5_tellBearer⟩
theorem wCX5_tellSort : zCW mX5_tellSort 2 := ⟨zin (i := 6) (by decide +kernel) rfl, zin (i := 535) (by decide +kernel) rfl, by decide +kernel, by decide +kernel, by decide +kernel⟩
theorem sC5_85 : zCV RX5 85 mX5_tellSort 2 := ⟨zin (i := 532) (by decide +kernel) rfl, zin (i := 534) (by decide +kernel) rfl, zinP (i := 16) (q := (yX5_tellSort, 5)) (by decide +kernel) rfl, wCX5_tellSort⟩
def fX5_readItem_b156 (n : Nat) (μ : ZMem) : Option (ZMem) := some μ
theorem tX5_readItem_b156 {l : Launch} {fr : Bool} {n : Nat} {z : ZMem} (μ : ZMem) (h : fX5_readItem_b156 n μ = some z) : V (zkV l mX5_readItem (rmd 6) fr n z) fr 156 [] [] n μ := by
  unfold fX5_readItem_b156 at h
  cases h
  exact V_vret (zdk tbX5_readItem_1_ok 13 rfl) rfl rfl
def fX5_readItem (n : Nat) (v0 : Nat) (μ : ZMem) : Option (ZMem) := chk (isC n 5 v0) (bd2 (fX5_readWord n v0 μ) (fun μ2 r3 => (if (zI μ2 v0 4) = (-1 : Int32) then (if r3 = (0 : Int32) then bd1 (fX5_readPerson n v0 (zI μ v0 3) μ2) (fun μ7 => (fX5_readItem_b156 n  μ7)) else (if r3 = (1 : Int32) then bd2 (fX5_readNumber n v0 (1 : Int32) (99 : Int32) μ2) (fun μ10 r11 => bd1 (fX5_tellWeight n v0 r11 μ10) (fun μ13 => (fX5_readItem_b156 n  μ13))) else (if r3 = (2 : Int32) then bd1 (zRc n 4 μ2 v0 2) (fun r15 => bd2 (fX5_readNumber n v0 (zI μ2 r15 4) (99 : Int32) μ2) (fun μ18 r19 => bd1 (fX5_tellWay n v0 r19 μ18) (fun μ21 => (fX5_readItem_b156 n  μ21)))) else (if r3 = (3 : Int32) then bd1 (zRc n 4 μ2 v0 2) (fun r23 => bd2 (fX5_readNumber n v0 (0 : Int32) ((zI μ2 r23 1) - (1 : Int32)) μ2) (fun μ26 r27 => bd1 (fX5_tellBearer n v0 r27 μ26) (fun μ29 => (fX5_readItem_b156 n  μ29)))) else (if r3 = (4 : Int32) then bd1 (fX5_tellBearer n v0 (-1 : Int32) μ2) (fun μ32 => (fX5_readItem_b156 n  μ32)) else (if r3 = (5 : Int32) then bd2 (fX5_readNumber n v0 (0 : Int32) (4 : Int32) μ2) (fun μ35 r36 => bd1 (fX5_tellSort n v0 r36 (1 : Int32) μ35) (fun μ38 => (fX5_readItem_b156 n  μ38))) else bd2 (fX5_readNumber n v0 (0 : Int32) (4 : Int32) μ2) (fun μ40 r41 => bd1 (fX5_tellSort n v0 r41 (0 : Int32) μ40) (fun μ43 => (fX5_readItem_b156 n  μ43))))))))) else some μ2)))
theorem tX5_readItem {l : Launch} {fr : Bool} {n : Nat} {v0 : Nat} {μ : ZMem} {z : ZMem} (h : fX5_readItem n v0 μ = some z) : ZFn l mX5_readItem (rmd 6) [.ref v0] fr n μ (fr, n, z, none) := by
  unfold fX5_readItem at h
  obtain ⟨c_v0, h⟩ := chk_some h
  refine ZFn.of (ls := [(0, .ref v0)]) (by decide) (fun ξ => Nat.le_of_ble_eq_true rfl) (fun ξ => rfl) ?_
  refine V_aload_n 0 (zdk tbX5_readItem_0_ok 0 rfl) rfl ?_
  refine V_getI (zdk tbX5_readItem_0_ok 1 rfl) c_v0 fF5_26 rfl ?_
  refine V_istore_n (ls' := [(0, .ref v0), (1, .int (zI μ v0 3))]) [1, 0] (zdk tbX5_readItem_0_ok 2 rfl) (Nat.le_of_ble_eq_true rfl) rfl ?_
  refine V_aload_n 0 (zdk tbX5_readItem_0_ok 3 rfl) rfl ?_
  obtain ⟨μ2, r3, q1, h⟩ := bd2_some h
  refine V_callV (R1 := (rmd 5)) (As := []) (r := (some (.int r3))) (zdk tbX5_readItem_0_ok 4 rfl) sC5_60 (tX5_readWord q1) (c_v0) rfl rfl rfl ⟨Nat.le_of_ble_eq_true rfl, Nat.le_of_ble_eq_true rfl⟩ (Nat.le_of_ble_eq_true rfl) ⟨rfl, rfl⟩ id ?_
  refine V_istore_n (ls' := [(0, .ref v0), (1, .int (zI μ v0 3)), (2, .int r3)]) [1, 2, 0] (zdk tbX5_readItem_0_ok 5 rfl) (Nat.le_of_ble_eq_true rfl) rfl ?_
  refine V_aload_n 0 (zdk tbX5_readItem_0_ok 6 rfl) rfl ?_
  refine V_getI (zdk tbX5_readItem_0_ok 7 rfl) c_v0 fF5_29 rfl ?_
  refine V_iconst (v := (-1)) (zdk tbX5_readItem_0_ok 8 rfl) rfl ?_
  refine V_icmp_eq (tgt := 19) (zdk tbX5_readItem_0_ok 9 rfl) (by decide) (fun c4 => ?_) (fun c4 => ?_)
  · replace h := ite_t h c4
    refine V_iload_n 2 (zdk tbX5_readItem_0_ok 11 rfl) rfl ?_
    by_cases c5 : r3 = (0 : Int32)
    · replace h := ite_t h c5
      refine V_tsw (off := 40) (tgt := 60) 0 c5 (zdk tbX5_readItem_0_ok 12 rfl) (by decide) rfl (by decide) ?_
      refine V_aload_n 0 (zdk tbX5_readItem_0_ok 13 rfl) rfl ?_
      refine V_iload_n 1 (zdk tbX5_readItem_0_ok 14 rfl) rfl ?_
      obtain ⟨μ7, q6, h⟩ := bd1_some h
      refine V_callV (R1 := (rmd 4)) (As := [.int (zI μ v0 3)]) (r := none) (zdk tbX5_readItem_0_ok 15 rfl) sC5_64 (tX5_readPerson q6) (c_v0) rfl rfl rfl ⟨Nat.le_of_ble_eq_true rfl, Nat.le_of_ble_eq_true rfl⟩ (Nat.le_of_ble_eq_true rfl) ⟨rfl, rfl⟩ id ?_
      refine V_goto (tgt := 156) (zdk tbX5_readItem_0_ok 16 rfl) (by decide) ?_
      refine V_sub (ls' := []) [] rfl ?_
      exact tX5_readItem_b156  μ7  h
    · replace h := ite_f h c5
      by_cases c8 : r3 = (1 : Int32)
      · replace h := ite_t h c8
        refine V_tsw (off := 48) (tgt := 68) 1 c8 (zdk tbX5_readItem_0_ok 12 rfl) (by decide) rfl (by decide) ?_
        refine V_aload_n 0 (zdk tbX5_readItem_0_ok 17 rfl) rfl ?_
        refine V_aload_n 0 (zdk tbX5_readItem_0_ok 18 rfl) rfl ?_
        refine V_iconst (v := 1) (zdk tbX5_readItem_0_ok 19 rfl) rfl ?_
        refine V_bipush (v := 99) (zdk tbX5_readItem_0_ok 20 rfl) rfl ?_
        obtain ⟨μ10, r11, q9, h⟩ := bd2_some h
        refine V_callV (R1 := (rmd 3)) (As := [.int (1 : Int32), .int (99 : Int32)]) (r := (some (.int r11))) (zdk tbX5_readItem_0_ok 21 rfl) sC5_67 (tX5_readNumber q9) (c_v0) rfl rfl rfl ⟨Nat.le_of_ble_eq_true rfl, Nat.le_of_ble_eq_true rfl⟩ (Nat.le_of_ble_eq_true rfl) ⟨rfl, rfl⟩ id ?_
        obtain ⟨μ13, q12, h⟩ := bd1_some h
        refine V_callV (R1 := (rmd 1)) (As := [.int r11]) (r := none) (zdk tbX5_readItem_0_ok 22 rfl) sC5_70 (tX5_tellWeight q12) (c_v0) rfl rfl rfl ⟨Nat.le_of_ble_eq_true rfl, Nat.le_of_ble_eq_true rfl⟩ (Nat.le_of_ble_eq_true rfl) ⟨rfl, rfl⟩ id ?_
        refine V_goto (tgt := 156) (zdk tbX5_readItem_0_ok 23 rfl) (by decide) ?_
        refine V_sub (ls' := []) [] rfl ?_
        exact tX5_readItem_b156  μ13  h
      · replace h := ite_f h c8
        by_cases c14 : r3 = (2 : Int32)
        · replace h := ite_t h c14
          refine V_tsw (off := 62) (tgt := 82) 2 c14 (zdk tbX5_readItem_0_ok 12 rfl) (by decide) rfl (by decide) ?_
          refine V_aload_n 0 (zdk tbX5_readItem_0_ok 24 rfl) rfl ?_
          refine V_aload_n 0 (zdk tbX5_readItem_0_ok 25 rfl) rfl ?_
          refine V_aload_n 0 (zdk tbX5_readItem_0_ok 26 rfl) rfl ?_
          obtain ⟨r15, q16, h⟩ := bd1_some h
          obtain ⟨q16, c_r15⟩ := zRc_some q16
          refine V_getR (zdk tbX5_readItem_0_ok 27 rfl) c_v0 fF5_22 rfl q16 ?_
          refine V_getI (zdk tbX5_readItem_0_ok 28 rfl) c_r15 fF5_73 rfl ?_
          refine V_bipush (v := 99) (zdk tbX5_readItem_0_ok 29 rfl) rfl ?_
          obtain ⟨μ18, r19, q17, h⟩ := bd2_some h
          refine V_callV (R1 := (rmd 3)) (As := [.int (zI μ2 r15 4), .int (99 : Int32)]) (r := (some (.int r19))) (zdk tbX5_readItem_0_ok 30 rfl) sC5_67 (tX5_readNumber q17) (c_v0) rfl rfl rfl ⟨Nat.le_of_ble_eq_true rfl, Nat.le_of_ble_eq_true rfl⟩ (Nat.le_of_ble_eq_true rfl) ⟨rfl, rfl⟩ id ?_
          obtain ⟨μ21, q20, h⟩ := bd1_some h
          refine V_callV (R1 := (rmd 1)) (As := [.int r19]) (r := none) (zdk tbX5_readItem_0_ok 31 rfl) sC5_76 (tX5_tellWay q20) (c_v0) rfl rfl rfl ⟨Nat.le_of_ble_eq_true rfl, Nat.le_of_ble_eq_true rfl⟩ (Nat.le_of_ble_eq_true rfl) ⟨rfl, rfl⟩ id ?_
          refine V_goto (tgt := 156) (zdk tbX5_readItem_0_ok 32 rfl) (by decide) ?_
          refine V_sub (ls' := []) [] rfl ?_
          exact tX5_readItem_b156  μ21  h
        · replace h := ite_f h c14
          by_cases c22 : r3 = (3 : Int32)
          · replace h := ite_t h c22
            refine V_tsw (off := 82) (tgt := 102) 3 c22 (zdk tbX5_readItem_0_ok 12 rfl) (by decide) rfl (by decide) ?_
            refine V_aload_n 0 (zdk tbX5_readItem_0_ok 33 rfl) rfl ?_
            refine V_aload_n 0 (zdk tbX5_readItem_0_ok 34 rfl) rfl ?_
            refine V_iconst (v := 0) (zdk tbX5_readItem_0_ok 35 rfl) rfl ?_
            refine V_aload_n 0 (zdk tbX5_readItem_0_ok 36 rfl) rfl ?_
            obtain ⟨r23, q24, h⟩ := bd1_some h
            obtain ⟨q24, c_r23⟩ := zRc_some q24
            refine V_getR (zdk tbX5_readItem_0_ok 37 rfl) c_v0 fF5_22 rfl q24 ?_
            refine V_getI (zdk tbX5_readItem_0_ok 38 rfl) c_r23 fF5_79 rfl ?_
            refine V_iconst (v := 1) (zdk tbX5_readItem_0_ok 39 rfl) rfl ?_
            refine V_isub (zdk tbX5_readItem_0_ok 40 rfl) ?_
            obtain ⟨μ26, r27, q25, h⟩ := bd2_some h
            refine V_callV (R1 := (rmd 3)) (As := [.int (0 : Int32), .int ((zI μ2 r23 1) - (1 : Int32))]) (r := (some (.int r27))) (zdk tbX5_readItem_0_ok 41 rfl) sC5_67 (tX5_readNumber q25) (c_v0) rfl rfl rfl ⟨Nat.le_of_ble_eq_true rfl, Nat.le_of_ble_eq_true rfl⟩ (Nat.le_of_ble_eq_true rfl) ⟨rfl, rfl⟩ id ?_
            obtain ⟨μ29, q28, h⟩ := bd1_some h
            refine V_callV (R1 := (rmd 1)) (As := [.int r27]) (r := none) (zdk tbX5_readItem_0_ok 42 rfl) sC5_82 (tX5_tellBearer q28) (c_v0) rfl rfl rfl ⟨Nat.le_of_ble_eq_true rfl, Nat.le_of_ble_eq_true rfl⟩ (Nat.le_of_ble_eq_true rfl) ⟨rfl, rfl⟩ id ?_
            refine V_goto (tgt := 156) (zdk tbX5_readItem_0_ok 43 rfl) (by decide) ?_
            refine V_sub (ls' := []) [] rfl ?_
            exact tX5_readItem_b156  μ29  h
          · replace h := ite_f h c22
            by_cases c30 : r3 = (4 : Int32)
            · replace h := ite_t h c30
              refine V_tsw (off := 103) (tgt := 123) 4 c30 (zdk tbX5_readItem_0_ok 12 rfl) (by decide) rfl (by decide) ?_
              refine V_aload_n 0 (zdk tbX5_readItem_0_ok 44 rfl) rfl ?_
              refine V_iconst (v := (-1)) (zdk tbX5_readItem_0_ok 45 rfl) rfl ?_
              obtain ⟨μ32, q31, h⟩ := bd1_some h
              refine V_callV (R1 := (rmd 1)) (As := [.int (-1 : Int32)]) (r := none) (zdk tbX5_readItem_0_ok 46 rfl) sC5_82 (tX5_tellBearer q31) (c_v0) rfl rfl rfl ⟨Nat.le_of_ble_eq_true rfl, Nat.le_of_ble_eq_true rfl⟩ (Nat.le_of_ble_eq_true rfl) ⟨rfl, rfl⟩ id ?_
              refine V_goto (tgt := 156) (zdk tbX5_readItem_0_ok 47 rfl) (by decide) ?_
              refine V_sub (ls' := []) [] rfl ?_
              exact tX5_readItem_b156  μ32  h
            · replace h := ite_f h c30
              by_cases c33 : r3 = (5 : Int32)
              · replace h := ite_t h c33
                refine V_tsw (off := 111) (tgt := 131) 5 c33 (zdk tbX5_readItem_0_ok 12 rfl) (by decide) rfl (by decide) ?_
                refine V_aload_n 0 (zdk tbX5_readItem_0_ok 48 rfl) rfl ?_
                refine V_aload_n 0 (zdk tbX5_readItem_0_ok 49 rfl) rfl ?_
                refine V_iconst (v := 0) (zdk tbX5_readItem_1_ok 0 rfl) rfl ?_
                refine V_iconst (v := 4) (zdk tbX5_readItem_1_ok 1 rfl) rfl ?_
                obtain ⟨μ35, r36, q34, h⟩ := bd2_some h
                refine V_callV (R1 := (rmd 3)) (As := [.int (0 : Int32), .int (4 : Int32)]) (r := (some (.int r36))) (zdk tbX5_readItem_1_ok 2 rfl) sC5_67 (tX5_readNumber q34) (c_v0) rfl rfl rfl ⟨Nat.le_of_ble_eq_true rfl, Nat.le_of_ble_eq_true rfl⟩ (Nat.le_of_ble_eq_true rfl) ⟨rfl, rfl⟩ id ?_
                refine V_iconst (v := 1) (zdk tbX5_readItem_1_ok 3 rfl) rfl ?_
                obtain ⟨μ38, q37, h⟩ := bd1_some h
                refine V_callV (R1 := (rmd 1)) (As := [.int r36, .int (1 : Int32)]) (r := none) (zdk tbX5_readItem_1_ok 4 rfl) sC5_85 (tX5_tellSort q37) (c_v0) rfl rfl rfl ⟨Nat.le_of_ble_eq_true rfl, Nat.le_of_ble_eq_true rfl⟩ (Nat.le_of_ble_eq_true rfl) ⟨rfl, rfl⟩ id ?_
                refine V_goto (tgt := 156) (zdk tbX5_readItem_1_ok 5 rfl) (by decide) ?_
                refine V_sub (ls' := []) [] rfl ?_
                exact tX5_readItem_b156  μ38  h
              · replace h := ite_f h c33
                refine V_tsw0 (tgt := 145) [0, 1, 2, 3, 4, 5] (List.forall_mem_cons.mpr ⟨c5, List.forall_mem_cons.mpr ⟨c8, List.forall_mem_cons.mpr ⟨c14, List.forall_mem_cons.mpr ⟨c22, List.forall_mem_cons.mpr ⟨c30, List.forall_mem_cons.mpr ⟨c33, fun _ h => absurd h List.not_mem_nil⟩⟩⟩⟩⟩⟩) (zdk tbX5_readItem_0_ok 12 rfl) (by decide) (by decide) (by decide) ?_
                refine V_aload_n 0 (zdk tbX5_readItem_1_ok 6 rfl) rfl ?_
                refine V_aload_n 0 (zdk tbX5_readItem_1_ok 7 rfl) rfl ?_
                refine V_iconst (v := 0) (zdk tbX5_readItem_1_ok 8 rfl) rfl ?_
                refine V_iconst (v := 4) (zdk tbX5_readItem_1_ok 9 rfl) rfl ?_
                obtain ⟨μ40, r41, q39, h⟩ := bd2_some h
                refine V_callV (R1 := (rmd 3)) (As := [.int (0 : Int32), .int (4 : Int32)]) (r := (some (.int r41))) (zdk tbX5_readItem_1_ok 10 rfl) sC5_67 (tX5_readNumber q39) (c_v0) rfl rfl rfl ⟨Nat.le_of_ble_eq_true rfl, Nat.le_of_ble_eq_true rfl⟩ (Nat.le_of_ble_eq_true rfl) ⟨rfl, rfl⟩ id ?_
                refine V_iconst (v := 0) (zdk tbX5_readItem_1_ok 11 rfl) rfl ?_
                obtain ⟨μ43, q42, h⟩ := bd1_some h
                refine V_callV (R1 := (rmd 1)) (As := [.int r41, .int (0 : Int32)]) (r := none) (zdk tbX5_readItem_1_ok 12 rfl) sC5_85 (tX5_tellSort q42) (c_v0) rfl rfl rfl ⟨Nat.le_of_ble_eq_true rfl, Nat.le_of_ble_eq_true rfl⟩ (Nat.le_of_ble_eq_true rfl) ⟨rfl, rfl⟩ id ?_
                refine V_sub (ls' := []) [] rfl ?_
                exact tX5_readItem_b156  μ43  h
  · replace h := ite_f h c4
    cases h
    exact V_vret (zdk tbX5_readItem_0_ok 10 rfl) rfl rfl

-- WhoComplainsCarries$VowReader.readItems
def tbX5_readItems_0 : List (Nat × Instr × Nat) := [(0, .aload_n 0, 1), (1, .aload_n 1, 1), (2, .invokevirtual 32, 3), (5, .aload_n 0, 1), (6, .getfield 22, 3), (9, .aload_n 2, 1), (10, .invokevirtual 36, 3), (13, .aload_n 0, 1), (14, .iconst 0, 1), (15, .putfield 26, 3), (18, .aload_n 0, 1), (19, .iconst (-1), 1), (20, .putfield 29, 3), (23, .aload_n 0, 1), (24, .invokevirtual 40, 3), (27, .iconst 1, 1), (28, .istore_n 3, 1), (29, .aload_n 0, 1), (30, .getfield 29, 3), (33, .iconst (-1), 1), (34, .if_icmp .ne 45, 3), (37, .aload_n 0, 1), (38, .getfield 26, 3), (41, .aload_n 0, 1), (42, .getfield 15, 3), (45, .if_icmp .ge 34, 3), (48, .iload_n 3, 1), (49, .sipush 160, 3), (52, .if_icmp .ge 27, 3), (55, .aload_n 0, 1), (56, .bipush 59, 2), (58, .invokevirtual 43, 3), (61, .aload_n 0, 1), (62, .getfield 29, 3), (65, .iconst (-1), 1), (66, .if_icmp .ne (-37), 3), (69, .aload_n 0, 1), (70, .invokevirtual 40, 3), (73, .iinc 3 1, 3), (76, .goto (-47), 3), (79, .iload_n 3, 1), (80, .ireturn, 1)]
theorem tbX5_readItems_0_ok : ∀ q ∈ tbX5_readItems_0, decode cX5_readItems q.1 = .ok (q.2.1, q.2.2) := by decide +kernel
theorem wCX5_readItem : zCW mX5_readItem 0 := ⟨zin (i := 6) (by decide +kernel) rfl, zin (i := 435) (by decide +kernel) rfl, by decide +kernel, by decide +kernel, by decide +kernel⟩
theorem sC5_40 : zCV RX5 40 mX5_readItem 0 := ⟨zin (i := 432) (by decide +kernel) rfl, zin (i := 434) (by decide +kernel) rfl, zinP (i := 7) (q := (yX5_readItem, 5)) (by decide +kernel) rfl, wCX5_readItem⟩
theorem wCX5_takeLetters : zCW mX5_takeLetters 1 := ⟨zin (i := 6) (by decide +kernel) rfl, zin (i := 417) (by decide +kernel) rfl, by decide +kernel, by decide +kernel, by decide +kernel⟩
theorem sC5_32 : zCV RX5 32 mX5_takeLetters 1 := ⟨zin (i := 414) (by decide +kernel) rfl, zin (i := 416) (by decide +kernel) rfl, zinP (i := 6) (q := (yX5_takeLetters, 5)) (by decide +kernel) rfl, wCX5_takeLetters⟩
theorem sC5_36 : zCV RX5 36 mX4_load 1 := ⟨zin (i := 424) (by decide +kernel) rfl, zin (i := 425) (by decide +kernel) rfl, zin (i := 426) (by decide +kernel) rfl, wCX4_load⟩
def fX5_readItems_b79 (n : Nat) (v3 : Int32) (μ : ZMem) : Option (ZMem × Int32) := some (μ, v3)
theorem tX5_readItems_b79 {l : Launch} {fr : Bool} {n : Nat} {z : ZMem × Int32} (v3 : Int32) (μ : ZMem) (h : fX5_readItems_b79 n v3 μ = some z) : V (zkI l mX5_readItems (rmd 7) fr n z) fr 79 [(3, .int v3)] [] n μ := by
  unfold fX5_readItems_b79 at h
  refine V_iload_n 0 (zdk tbX5_readItems_0_ok 40 rfl) rfl ?_
  cases h
  exact V_iret (zdk tbX5_readItems_0_ok 41 rfl) rfl rfl
def fX5_readItems_b29 (n : Nat) : Nat → Nat → Int32 → ZMem → Option (ZMem × Int32)
  | 0, _, _, _ => none
  | k + 1, v0, v3, μ => (if (zI μ v0 4) = (-1 : Int32) then (if (zI μ v0 1) ≤ (zI μ v0 3) then (fX5_readItems_b79 n v3 μ) else (if (160 : Int32) ≤ v3 then (fX5_readItems_b79 n v3 μ) else bd1 (fX5_expect n v0 (59 : Int32) μ) (fun μ5 => (if (zI μ5 v0 4) = (-1 : Int32) then bd1 (fX5_readItem n v0 μ5) (fun μ8 => (fX5_readItems_b29 n k v0 (v3 + (1 : Int32)) μ8)) else (fX5_readItems_b29 n k v0 v3 μ5))))) else (fX5_readItems_b79 n v3 μ))
theorem tX5_readItems_b29 {l : Launch} {fr : Bool} {n : Nat} {z : ZMem × Int32} : ∀ (k : Nat) (v0 : Nat) (v3 : Int32) (μ : ZMem) (c_v0 : isC n 5 v0 = true), fX5_readItems_b29 n k v0 v3 μ = some z → V (zkI l mX5_readItems (rmd 7) fr n z) fr 29 [(0, .ref v0), (3, .int v3)] [] n μ := by
  intro k
  induction k with
  | zero =>
    intro v0 v3 μ c_v0 h
    unfold fX5_readItems_b29 at h
    cases h
  | succ k ih =>
    intro v0 v3 μ c_v0 h
    unfold fX5_readItems_b29 at h
    refine V_aload_n 0 (zdk tbX5_readItems_0_ok 17 rfl) rfl ?_
    refine V_getI (zdk tbX5_readItems_0_ok 18 rfl) c_v0 fF5_29 rfl ?_
    refine V_iconst (v := (-1)) (zdk tbX5_readItems_0_ok 19 rfl) rfl ?_
    refine V_icmp_ne (tgt := 79) (zdk tbX5_readItems_0_ok 20 rfl) (by decide) (fun c1 => ?_) (fun c1 => ?_)
    · replace h := ite_f h c1
      refine V_sub (ls' := [(3, .int v3)]) [1] rfl ?_
      exact tX5_readItems_b79 v3 μ  h
    · replace h := ite_t h c1
      refine V_aload_n 0 (zdk tbX5_readItems_0_ok 21 rfl) rfl ?_
      refine V_getI (zdk tbX5_readItems_0_ok 22 rfl) c_v0 fF5_26 rfl ?_
      refine V_aload_n 0 (zdk tbX5_readItems_0_ok 23 rfl) rfl ?_
      refine V_getI (zdk tbX5_readItems_0_ok 24 rfl) c_v0 fF5_15 rfl ?_
      refine V_icmp_ge (tgt := 79) (zdk tbX5_readItems_0_ok 25 rfl) (by decide) (fun c2 => ?_) (fun c2 => ?_)
      · replace h := ite_t h c2
        refine V_sub (ls' := [(3, .int v3)]) [1] rfl ?_
        exact tX5_readItems_b79 v3 μ  h
      · replace h := ite_f h c2
        refine V_iload_n 1 (zdk tbX5_readItems_0_ok 26 rfl) rfl ?_
        refine V_sipush (v := 160) (zdk tbX5_readItems_0_ok 27 rfl) rfl ?_
        refine V_icmp_ge (tgt := 79) (zdk tbX5_readItems_0_ok 28 rfl) (by decide) (fun c3 => ?_) (fun c3 => ?_)
        · replace h := ite_t h c3
          refine V_sub (ls' := [(3, .int v3)]) [1] rfl ?_
          exact tX5_readItems_b79 v3 μ  h
        · replace h := ite_f h c3
          refine V_aload_n 0 (zdk tbX5_readItems_0_ok 29 rfl) rfl ?_
          refine V_bipush (v := 59) (zdk tbX5_readItems_0_ok 30 rfl) rfl ?_
          obtain ⟨μ5, q4, h⟩ := bd1_some h
          refine V_callV (R1 := (rmd 2)) (As := [.int (59 : Int32)]) (r := none) (zdk tbX5_readItems_0_ok 31 rfl) sC5_43 (tX5_expect q4) (c_v0) rfl rfl rfl ⟨Nat.le_of_ble_eq_true rfl, Nat.le_of_ble_eq_true rfl⟩ (Nat.le_of_ble_eq_true rfl) ⟨rfl, rfl⟩ id ?_
          refine V_aload_n 0 (zdk tbX5_readItems_0_ok 32 rfl) rfl ?_
          refine V_getI (zdk tbX5_readItems_0_ok 33 rfl) c_v0 fF5_29 rfl ?_
          refine V_iconst (v := (-1)) (zdk tbX5_readItems_0_ok 34 rfl) rfl ?_
          refine V_icmp_ne (tgt := 29) (zdk tbX5_readItems_0_ok 35 rfl) (by decide) (fun c6 => ?_) (fun c6 => ?_)
          · replace h := ite_f h c6
            exact ih v0 v3 μ5 c_v0 h
          · replace h := ite_t h c6
            refine V_aload_n 0 (zdk tbX5_readItems_0_ok 36 rfl) rfl ?_
            obtain ⟨μ8, q7, h⟩ := bd1_some h
            refine V_callV (R1 := (rmd 6)) (As := []) (r := none) (zdk tbX5_readItems_0_ok 37 rfl) sC5_40 (tX5_readItem q7) (c_v0) rfl rfl rfl ⟨Nat.le_of_ble_eq_true rfl, Nat.le_of_ble_eq_true rfl⟩ (Nat.le_of_ble_eq_true rfl) ⟨rfl, rfl⟩ id ?_
            refine V_inc (dx := 1) (ls' := [(0, .ref v0), (3, .int (v3 + (1 : Int32)))]) 1 [1, 0] (zdk tbX5_readItems_0_ok 38 rfl) rfl (Nat.le_of_ble_eq_true rfl) rfl rfl ?_
            refine V_goto (tgt := 29) (zdk tbX5_readItems_0_ok 39 rfl) (by decide) ?_
            exact ih v0 (v3 + (1 : Int32)) μ8 c_v0 h
def fX5_readItems (n : Nat) (v0 : Nat) (v1 : Nat) (v2 : Nat) (μ : ZMem) : Option (ZMem × Int32) := chk (isC n 5 v0) (chk (isC n 3 v1) (chk (isC n 4 v2) (bd1 (fX5_takeLetters n v0 v1 μ) (fun μ2 => bd1 (zRc n 4 μ2 v0 2) (fun r3 => bd1 (fX4_load n r3 v2 μ2) (fun μ6 => lt (zpI μ6 v0 3 (0 : Int32)) (fun μ7 => lt (zpI μ7 v0 4 (-1 : Int32)) (fun μ9 => bd1 (fX5_readItem n v0 μ9) (fun μ12 => (fX5_readItems_b29 n FU v0 (1 : Int32) μ12))))))))))
theorem tX5_readItems {l : Launch} {fr : Bool} {n : Nat} {v0 : Nat} {v1 : Nat} {v2 : Nat} {μ : ZMem} {z : ZMem × Int32} (h : fX5_readItems n v0 v1 v2 μ = some z) : ZFn l mX5_readItems (rmd 7) [.ref v0, .ref v1, .ref v2] fr n μ (fr, n, z.1, some (.int z.2)) := by
  unfold fX5_readItems at h
  obtain ⟨c_v0, h⟩ := chk_some h
  obtain ⟨c_v1, h⟩ := chk_some h
  obtain ⟨c_v2, h⟩ := chk_some h
  refine ZFn.of (ls := [(0, .ref v0), (1, .ref v1), (2, .ref v2)]) (by decide) (fun ξ => Nat.le_of_ble_eq_true rfl) (fun ξ => rfl) ?_
  refine V_aload_n 0 (zdk tbX5_readItems_0_ok 0 rfl) rfl ?_
  refine V_aload_n 1 (zdk tbX5_readItems_0_ok 1 rfl) rfl ?_
  obtain ⟨μ2, q1, h⟩ := bd1_some h
  refine V_callV (R1 := (rmd 5)) (As := [.ref v1]) (r := none) (zdk tbX5_readItems_0_ok 2 rfl) sC5_32 (tX5_takeLetters q1) (c_v0) rfl rfl rfl ⟨Nat.le_of_ble_eq_true rfl, Nat.le_of_ble_eq_true rfl⟩ (Nat.le_of_ble_eq_true rfl) ⟨rfl, rfl⟩ id ?_
  refine V_aload_n 0 (zdk tbX5_readItems_0_ok 3 rfl) rfl ?_
  obtain ⟨r3, q4, h⟩ := bd1_some h
  obtain ⟨q4, c_r3⟩ := zRc_some q4
  refine V_getR (zdk tbX5_readItems_0_ok 4 rfl) c_v0 fF5_22 rfl q4 ?_
  refine V_aload_n 2 (zdk tbX5_readItems_0_ok 5 rfl) rfl ?_
  obtain ⟨μ6, q5, h⟩ := bd1_some h
  refine V_callV (R1 := (rmd 2)) (As := [.ref v2]) (r := none) (zdk tbX5_readItems_0_ok 6 rfl) sC5_36 (tX4_load q5) (c_r3) rfl rfl rfl ⟨Nat.le_of_ble_eq_true rfl, Nat.le_of_ble_eq_true rfl⟩ (Nat.le_of_ble_eq_true rfl) ⟨rfl, rfl⟩ id ?_
  refine V_aload_n 0 (zdk tbX5_readItems_0_ok 7 rfl) rfl ?_
  refine V_iconst (v := 0) (zdk tbX5_readItems_0_ok 8 rfl) rfl ?_
  obtain ⟨μ7, e8, h⟩ := lt_some h
  refine V_putI (zdk tbX5_readItems_0_ok 9 rfl) c_v0 fF5_26 rfl rfl rfl e8 ?_
  refine V_aload_n 0 (zdk tbX5_readItems_0_ok 10 rfl) rfl ?_
  refine V_iconst (v := (-1)) (zdk tbX5_readItems_0_ok 11 rfl) rfl ?_
  obtain ⟨μ9, e10, h⟩ := lt_some h
  refine V_putI (zdk tbX5_readItems_0_ok 12 rfl) c_v0 fF5_29 rfl rfl rfl e10 ?_
  refine V_aload_n 0 (zdk tbX5_readItems_0_ok 13 rfl) rfl ?_
  obtain ⟨μ12, q11, h⟩ := bd1_some h
  refine V_callV (R1 := (rmd 6)) (As := []) (r := none) (zdk tbX5_readItems_0_ok 14 rfl) sC5_40 (tX5_readItem q11) (c_v0) rfl rfl rfl ⟨Nat.le_of_ble_eq_true rfl, Nat.le_of_ble_eq_true rfl⟩ (Nat.le_of_ble_eq_true rfl) ⟨rfl, rfl⟩ id ?_
  refine V_iconst (v := 1) (zdk tbX5_readItems_0_ok 15 rfl) rfl ?_
  refine V_istore_n (ls' := [(0, .ref v0), (3, .int (1 : Int32))]) [1, 0] (zdk tbX5_readItems_0_ok 16 rfl) (Nat.le_of_ble_eq_true rfl) rfl ?_
  exact tX5_readItems_b29 FU v0 (1 : Int32) μ12 c_v0 h

