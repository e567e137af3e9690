def mX6_isIn : ZM := (yX6_isIn, cX6_isIn, 3, some .boolean)
def mX6_upward : ZM := (yX6_upward, cX6_upward, 2, some .int)
def mX1_become : ZM := (yX1_become, cX1_become, 5, none)
def mX1_load : ZM := (yX1_load, cX1_load, 2, none)
def mX1_pace : ZM := (yX1_pace, cX1_pace, 4, some .int)
def mX1_toil : ZM := (yX1_toil, cX1_toil, 3, some .int)
def mX1_limit : ZM := (yX1_limit, cX1_limit, 1, some .int)
def mX1_isSighing : ZM := (yX1_isSighing, cX1_isSighing, 1, some .boolean)
def mX1_missingToSigh : ZM := (yX1_missingToSigh, cX1_missingToSigh, 1, some .int)
def mX1_grow : ZM := (yX1_grow, cX1_grow, 2, none)
def mX1_rest : ZM := (yX1_rest, cX1_rest, 2, none)
def mX1_stepsToLimit : ZM := (yX1_stepsToLimit, cX1_stepsToLimit, 4, some .int)
-- WhoComplainsCarries.isIn
def tbX6_isIn_0 : List (Nat × Instr × Nat) := [(0, .iload_n 0, 1), (1, .iload_n 1, 1), (2, .if_icmp .lt 12, 3), (5, .iload_n 0, 1), (6, .iload_n 2, 1), (7, .if_icmp .gt 7, 3), (10, .iconst 1, 1), (11, .goto 4, 3), (14, .iconst 0, 1), (15, .ireturn, 1)]
theorem tbX6_isIn_0_ok : ∀ q ∈ tbX6_isIn_0, decode cX6_isIn q.1 = .ok (q.2.1, q.2.2) := by decide +kernel
def fX6_isIn_b15 (n : Nat) (s0 : Int32) (μ : ZMem) : Option (ZMem × Int32) := chk (b01 s0) (some (μ, s0))
theorem tX6_isIn_b15 {l : Launch} {fr : Bool} {n : Nat} {z : ZMem × Int32} (s0 : Int32) (μ : ZMem) (h : fX6_isIn_b15 n s0 μ = some z) : V (zkI l mX6_isIn (rmd 1) fr n z) fr 15 [] [.int s0] n μ := by
  unfold fX6_isIn_b15 at h
  obtain ⟨b1, h⟩ := chk_some h
  cases h
  exact V_zret (zdk tbX6_isIn_0_ok 9 rfl) rfl (b01_n b1) rfl
def fX6_isIn_b14 (n : Nat) (μ : ZMem) : Option (ZMem × Int32) := (fX6_isIn_b15 n (0 : Int32) μ)
theorem tX6_isIn_b14 {l : Launch} {fr : Bool} {n : Nat} {z : ZMem × Int32} (μ : ZMem) (h : fX6_isIn_b14 n μ = some z) : V (zkI l mX6_isIn (rmd 1) fr n z) fr 14 [] [] n μ := by
  unfold fX6_isIn_b14 at h
  refine V_iconst (v := 0) (zdk tbX6_isIn_0_ok 8 rfl) rfl ?_
  exact tX6_isIn_b15 (0 : Int32) μ  h
def fX6_isIn (n : Nat) (v0 : Int32) (v1 : Int32) (v2 : Int32) (μ : ZMem) : Option (ZMem × Int32) := (if v0 < v1 then (fX6_isIn_b14 n  μ) else (if v2 < v0 then (fX6_isIn_b14 n  μ) else (fX6_isIn_b15 n (1 : Int32) μ)))
theorem tX6_isIn {l : Launch} {fr : Bool} {n : Nat} {v0 : Int32} {v1 : Int32} {v2 : Int32} {μ : ZMem} {z : ZMem × Int32} (h : fX6_isIn n v0 v1 v2 μ = some z) : ZFn l mX6_isIn (rmd 1) [.int v0, .int v1, .int v2] fr n μ (fr, n, z.1, some (.int z.2)) := by
  unfold fX6_isIn at h
  refine ZFn.of (ls := [(0, .int v0), (1, .int v1), (2, .int v2)]) (by decide) (fun ξ => Nat.le_of_ble_eq_true rfl) (fun ξ => rfl) ?_
  refine V_iload_n 0 (zdk tbX6_isIn_0_ok 0 rfl) rfl ?_
  refine V_iload_n 1 (zdk tbX6_isIn_0_ok 1 rfl) rfl ?_
  refine V_icmp_lt (tgt := 14) (zdk tbX6_isIn_0_ok 2 rfl) (by decide) (fun c1 => ?_) (fun c1 => ?_)
  · replace h := ite_t h c1
    refine V_sub (ls' := []) [] rfl ?_
    exact tX6_isIn_b14  μ  h
  · replace h := ite_f h c1
    refine V_iload_n 0 (zdk tbX6_isIn_0_ok 3 rfl) rfl ?_
    refine V_iload_n 2 (zdk tbX6_isIn_0_ok 4 rfl) rfl ?_
    refine V_icmp_gt (tgt := 14) (zdk tbX6_isIn_0_ok 5 rfl) (by decide) (fun c2 => ?_) (fun c2 => ?_)
    · replace h := ite_t h c2
      refine V_sub (ls' := []) [] rfl ?_
      exact tX6_isIn_b14  μ  h
    · replace h := ite_f h c2
      refine V_iconst (v := 1) (zdk tbX6_isIn_0_ok 6 rfl) rfl ?_
      refine V_goto (tgt := 15) (zdk tbX6_isIn_0_ok 7 rfl) (by decide) ?_
      refine V_sub (ls' := []) [] rfl ?_
      exact tX6_isIn_b15 (1 : Int32) μ  h

-- WhoComplainsCarries.upward
def tbX6_upward_0 : List (Nat × Instr × Nat) := [(0, .iload_n 1, 1), (1, .iconst 1, 1), (2, .if_icmp .ge 7, 3), (5, .iload_n 0, 1), (6, .goto 10, 3), (9, .iload_n 0, 1), (10, .iload_n 1, 1), (11, .iadd, 1), (12, .iconst 1, 1), (13, .isub, 1), (14, .iload_n 1, 1), (15, .idiv, 1), (16, .ireturn, 1)]
theorem tbX6_upward_0_ok : ∀ q ∈ tbX6_upward_0, decode cX6_upward q.1 = .ok (q.2.1, q.2.2) := by decide +kernel
def fX6_upward_b16 (n : Nat) (s0 : Int32) (μ : ZMem) : Option (ZMem × Int32) := some (μ, s0)
theorem tX6_upward_b16 {l : Launch} {fr : Bool} {n : Nat} {z : ZMem × Int32} (s0 : Int32) (μ : ZMem) (h : fX6_upward_b16 n s0 μ = some z) : V (zkI l mX6_upward (rmd 1) fr n z) fr 16 [] [.int s0] n μ := by
  unfold fX6_upward_b16 at h
  cases h
  exact V_iret (zdk tbX6_upward_0_ok 12 rfl) rfl rfl
def fX6_upward (n : Nat) (v0 : Int32) (v1 : Int32) (μ : ZMem) : Option (ZMem × Int32) := (if (1 : Int32) ≤ v1 then chk (!decide (v1 = 0)) ((fX6_upward_b16 n (((v0 + v1) - (1 : Int32)) / v1) μ)) else (fX6_upward_b16 n v0 μ))
theorem tX6_upward {l : Launch} {fr : Bool} {n : Nat} {v0 : Int32} {v1 : Int32} {μ : ZMem} {z : ZMem × Int32} (h : fX6_upward n v0 v1 μ = some z) : ZFn l mX6_upward (rmd 1) [.int v0, .int v1] fr n μ (fr, n, z.1, some (.int z.2)) := by
  unfold fX6_upward at h
  refine ZFn.of (ls := [(0, .int v0), (1, .int v1)]) (by decide) (fun ξ => Nat.le_of_ble_eq_true rfl) (fun ξ => rfl) ?_
  refine V_iload_n 1 (zdk tbX6_upward_0_ok 0 rfl) rfl ?_
  refine V_iconst (v := 1) (zdk tbX6_upward_0_ok 1 rfl) rfl ?_
  refine V_icmp_ge (tgt := 9) (zdk tbX6_upward_0_ok 2 rfl) (by decide) (fun c1 => ?_) (fun c1 => ?_)
  · replace h := ite_t h c1
    refine V_iload_n 0 (zdk tbX6_upward_0_ok 5 rfl) rfl ?_
    refine V_iload_n 1 (zdk tbX6_upward_0_ok 6 rfl) rfl ?_
    refine V_iadd (zdk tbX6_upward_0_ok 7 rfl) ?_
    refine V_iconst (v := 1) (zdk tbX6_upward_0_ok 8 rfl) rfl ?_
    refine V_isub (zdk tbX6_upward_0_ok 9 rfl) ?_
    refine V_iload_n 1 (zdk tbX6_upward_0_ok 10 rfl) rfl ?_
    obtain ⟨d2, h⟩ := chk_some h
    refine V_idiv (zdk tbX6_upward_0_ok 11 rfl) (nz_of d2) ?_
    refine V_sub (ls' := []) [] rfl ?_
    exact tX6_upward_b16 (((v0 + v1) - (1 : Int32)) / v1) μ  h
  · replace h := ite_f h c1
    refine V_iload_n 0 (zdk tbX6_upward_0_ok 3 rfl) rfl ?_
    refine V_goto (tgt := 16) (zdk tbX6_upward_0_ok 4 rfl) (by decide) ?_
    refine V_sub (ls' := []) [] rfl ?_
    exact tX6_upward_b16 v0 μ  h

-- WhoComplainsCarries$Person.become
def tbX1_become_0 : List (Nat × Instr × Nat) := [(0, .aload_n 0, 1), (1, .iload_n 1, 1), (2, .putfield 15, 3), (5, .aload_n 0, 1), (6, .iload_n 2, 1), (7, .putfield 19, 3), (10, .aload_n 0, 1), (11, .iload_n 3, 1), (12, .putfield 22, 3), (15, .aload_n 0, 1), (16, .iload 4, 2), (18, .putfield 25, 3), (21, .aload_n 0, 1), (22, .iconst 0, 1), (23, .putfield 28, 3), (26, .return_, 1)]
theorem tbX1_become_0_ok : ∀ q ∈ tbX1_become_0, decode cX1_become q.1 = .ok (q.2.1, q.2.2) := by decide +kernel
theorem fF1_15 : zF RX1 15 1 0 := ⟨_, rfl, by decide, zin (i := 68) (by decide +kernel) rfl⟩
theorem fF1_19 : zF RX1 19 1 1 := ⟨_, rfl, by decide, zin (i := 71) (by decide +kernel) rfl⟩
theorem fF1_22 : zF RX1 22 1 2 := ⟨_, rfl, by decide, zin (i := 74) (by decide +kernel) rfl⟩
theorem fF1_25 : zF RX1 25 1 3 := ⟨_, rfl, by decide, zin (i := 77) (by decide +kernel) rfl⟩
theorem fF1_28 : zF RX1 28 1 4 := ⟨_, rfl, by decide, zin (i := 79) (by decide +kernel) rfl⟩
def fX1_become (n : Nat) (v0 : Nat) (v1 : Int32) (v2 : Int32) (v3 : Int32) (v4 : Int32) (μ : ZMem) : Option (ZMem) := chk (isC n 1 v0) (lt (zpI μ v0 0 v1) (fun μ1 => lt (zpI μ1 v0 1 v2) (fun μ3 => lt (zpI μ3 v0 2 v3) (fun μ5 => lt (zpI μ5 v0 3 v4) (fun μ7 => lt (zpI μ7 v0 4 (0 : Int32)) (fun μ9 => some μ9))))))
theorem tX1_become {l : Launch} {fr : Bool} {n : Nat} {v0 : Nat} {v1 : Int32} {v2 : Int32} {v3 : Int32} {v4 : Int32} {μ : ZMem} {z : ZMem} (h : fX1_become n v0 v1 v2 v3 v4 μ = some z) : ZFn l mX1_become (rmd 1) [.ref v0, .int v1, .int v2, .int v3, .int v4] fr n μ (fr, n, z, none) := by
  unfold fX1_become at h
  obtain ⟨c_v0, h⟩ := chk_some h
  refine ZFn.of (ls := [(0, .ref v0), (1, .int v1), (2, .int v2), (3, .int v3), (4, .int v4)]) (by decide) (fun ξ => Nat.le_of_ble_eq_true rfl) (fun ξ => rfl) ?_
  refine V_aload_n 0 (zdk tbX1_become_0_ok 0 rfl) rfl ?_
  refine V_iload_n 1 (zdk tbX1_become_0_ok 1 rfl) rfl ?_
  obtain ⟨μ1, e2, h⟩ := lt_some h
  refine V_putI (zdk tbX1_become_0_ok 2 rfl) c_v0 fF1_15 rfl rfl rfl e2 ?_
  refine V_aload_n 0 (zdk tbX1_become_0_ok 3 rfl) rfl ?_
  refine V_iload_n 2 (zdk tbX1_become_0_ok 4 rfl) rfl ?_
  obtain ⟨μ3, e4, h⟩ := lt_some h
  refine V_putI (zdk tbX1_become_0_ok 5 rfl) c_v0 fF1_19 rfl rfl rfl e4 ?_
  refine V_aload_n 0 (zdk tbX1_become_0_ok 6 rfl) rfl ?_
  refine V_iload_n 3 (zdk tbX1_become_0_ok 7 rfl) rfl ?_
  obtain ⟨μ5, e6, h⟩ := lt_some h
  refine V_putI (zdk tbX1_become_0_ok 8 rfl) c_v0 fF1_22 rfl rfl rfl e6 ?_
  refine V_aload_n 0 (zdk tbX1_become_0_ok 9 rfl) rfl ?_
  refine V_iload 4 (zdk tbX1_become_0_ok 10 rfl) rfl ?_
  obtain ⟨μ7, e8, h⟩ := lt_some h
  refine V_putI (zdk tbX1_become_0_ok 11 rfl) c_v0 fF1_25 rfl rfl rfl e8 ?_
  refine V_aload_n 0 (zdk tbX1_become_0_ok 12 rfl) rfl ?_
  refine V_iconst (v := 0) (zdk tbX1_become_0_ok 13 rfl) rfl ?_
  obtain ⟨μ9, e10, h⟩ := lt_some h
  refine V_putI (zdk tbX1_become_0_ok 14 rfl) c_v0 fF1_28 rfl rfl rfl e10 ?_
  cases h
  exact V_vret (zdk tbX1_become_0_ok 15 rfl) rfl rfl

-- WhoComplainsCarries$Person.load
def tbX1_load_0 : List (Nat × Instr × Nat) := [(0, .aload_n 0, 1), (1, .aload_n 1, 1), (2, .getfield 15, 3), (5, .putfield 15, 3), (8, .aload_n 0, 1), (9, .aload_n 1, 1), (10, .getfield 19, 3), (13, .putfield 19, 3), (16, .aload_n 0, 1), (17, .aload_n 1, 1), (18, .getfield 22, 3), (21, .putfield 22, 3), (24, .aload_n 0, 1), (25, .aload_n 1, 1), (26, .getfield 25, 3), (29, .putfield 25, 3), (32, .aload_n 0, 1), (33, .aload_n 1, 1), (34, .getfield 28, 3), (37, .putfield 28, 3), (40, .return_, 1)]
theorem tbX1_load_0_ok : ∀ q ∈ tbX1_load_0, decode cX1_load q.1 = .ok (q.2.1, q.2.2) := by decide +kernel
def fX1_load (n : Nat) (v0 : Nat) (v1 : Nat) (μ : ZMem) : Option (ZMem) := chk (isC n 1 v0) (chk (isC n 1 v1) (lt (zpI μ v0 0 (zI μ v1 0)) (fun μ1 => lt (zpI μ1 v0 1 (zI μ1 v1 1)) (fun μ3 => lt (zpI μ3 v0 2 (zI μ3 v1 2)) (fun μ5 => lt (zpI μ5 v0 3 (zI μ5 v1 3)) (fun μ7 => lt (zpI μ7 v0 4 (zI μ7 v1 4)) (fun μ9 => some μ9)))))))
theorem tX1_load {l : Launch} {fr : Bool} {n : Nat} {v0 : Nat} {v1 : Nat} {μ : ZMem} {z : ZMem} (h : fX1_load n v0 v1 μ = some z) : ZFn l mX1_load (rmd 1) [.ref v0, .ref v1] fr n μ (fr, n, z, none) := by
  unfold fX1_load at h
  obtain ⟨c_v0, h⟩ := chk_some h
  obtain ⟨c_v1, h⟩ := chk_some h
  refine ZFn.of (ls := [(0, .ref v0), (1, .ref v1)]) (by decide) (fun ξ => Nat.le_of_ble_eq_true rfl) (fun ξ => rfl) ?_
  refine V_aload_n 0 (zdk tbX1_load_0_ok 0 rfl) rfl ?_
  refine V_aload_n 1 (zdk tbX1_load_0_ok 1 rfl) rfl ?_
  refine V_getI (zdk tbX1_load_0_ok 2 rfl) c_v1 fF1_15 rfl ?_
  obtain ⟨μ1, e2, h⟩ := lt_some h
  refine V_putI (zdk tbX1_load_0_ok 3 rfl) c_v0 fF1_15 rfl rfl rfl e2 ?_
  refine V_aload_n 0 (zdk tbX1_load_0_ok 4 rfl) rfl ?_
  refine V_aload_n 1 (zdk tbX1_load_0_ok 5 rfl) rfl ?_
  refine V_getI (zdk tbX1_load_0_ok 6 rfl) c_v1 fF1_19 rfl ?_
  obtain ⟨μ3, e4, h⟩ := lt_some h
  refine V_putI (zdk tbX1_load_0_ok 7 rfl) c_v0 fF1_19 rfl rfl rfl e4 ?_
  refine V_aload_n 0 (zdk tbX1_load_0_ok 8 rfl) rfl ?_
  refine V_aload_n 1 (zdk tbX1_load_0_ok 9 rfl) rfl ?_
  refine V_getI (zdk tbX1_load_0_ok 10 rfl) c_v1 fF1_22 rfl ?_
  obtain ⟨μ5, e6, h⟩ := lt_some h
  refine V_putI (zdk tbX1_load_0_ok 11 rfl) c_v0 fF1_22 rfl rfl rfl e6 ?_
  refine V_aload_n 0 (zdk tbX1_load_0_ok 12 rfl) rfl ?_
  refine V_aload_n 1 (zdk tbX1_load_0_ok 13 rfl) rfl ?_
  refine V_getI (zdk tbX1_load_0_ok 14 rfl) c_v1 fF1_25 rfl ?_
  obtain ⟨μ7, e8, h⟩ := lt_some h
  refine V_putI (zdk tbX1_load_0_ok 15 rfl) c_v0 fF1_25 rfl rfl rfl e8 ?_
  refine V_aload_n 0 (zdk tbX1_load_0_ok 16 rfl) rfl ?_
  refine V_aload_n 1 (zdk tbX1_load_0_ok 17 rfl) rfl ?_
  refine V_getI (zdk tbX1_load_0_ok 18 rfl) c_v1 fF1_28 rfl ?_
  obtain ⟨μ9, e10, h⟩ := lt_some h
  refine V_putI (zdk tbX1_load_0_ok 19 rfl) c_v0 fF1_28 rfl rfl rfl e10 ?_
  cases h
  exact V_vret (zdk tbX1_load_0_ok 20 rfl) rfl rfl

-- WhoComplainsCarries$Person.pace
def tbX1_pace_0 : List (Nat × Instr × Nat) := [(0, .iload_n 1, 1), (1, .iconst 1, 1), (2, .if_icmp .ge 8, 3), (5, .bipush 9, 2), (7, .goto 20, 3), (10, .iconst 1, 1), (11, .bipush 9, 2), (13, .iconst 4, 1), (14, .aload_n 0, 1), (15, .getfield 22, 3), (18, .imul, 1), (19, .iload_n 1, 1), (20, .idiv, 1), (21, .invokestatic 31, 3), (24, .invokestatic 37, 3), (27, .istore_n 2, 1), (28, .aload_n 0, 1), (29, .getfield 15, 3), (32, .iconst 4, 1), (33, .if_icmp .eq 12, 3), (36, .aload_n 0, 1), (37, .getfield 15, 3), (40, .bipush 6, 2), (42, .if_icmp .ne 7, 3), (45, .iconst 1, 1), (46, .goto 4, 3), (49, .iconst 0, 1), (50, .istore_n 3, 1), (51, .iload_n 3, 1), (52, .ifCond .eq 13, 3), (55, .iconst 1, 1), (56, .iload_n 2, 1), (57, .iconst 1, 1), (58, .isub, 1), (59, .invokestatic 37, 3), (62, .goto 4, 3), (65, .iload_n 2, 1), (66, .ireturn, 1)]
theorem tbX1_pace_0_ok : ∀ q ∈ tbX1_pace_0, decode cX1_pace q.1 = .ok (q.2.1, q.2.2) := by decide +kernel
theorem wM1_37 : Cond.methodLink RX1 37 Lib.Math.max.name ∈ zT := zin (i := 376) (by decide +kernel) rfl
theorem wMs_max : Cond.static Lib.Math.max.name ∈ zT := zin (i := 265) (by decide +kernel) rfl
theorem wMi : Cond.initialized "java/lang/Math" ∈ zT := zin (i := 9) (by decide +kernel) rfl
theorem wMc_max : Cond.code Lib.Math.max.name Lib.Math.max.code 2 (some .int) ∈ zT := zin (i := 266) (by decide +kernel) rfl
theorem wM1_31 : Cond.methodLink RX1 31 Lib.Math.min.name ∈ zT := zin (i := 375) (by decide +kernel) rfl
theorem wMs_min : Cond.static Lib.Math.min.name ∈ zT := zin (i := 262) (by decide +kernel) rfl
theorem wMc_min : Cond.code Lib.Math.min.name Lib.Math.min.code 2 (some .int) ∈ zT := zin (i := 263) (by decide +kernel) rfl
def fX1_pace_b66 (n : Nat) (s0 : Int32) (μ : ZMem) : Option (ZMem × Int32) := some (μ, s0)
theorem tX1_pace_b66 {l : Launch} {fr : Bool} {n : Nat} {z : ZMem × Int32} (s0 : Int32) (μ : ZMem) (h : fX1_pace_b66 n s0 μ = some z) : V (zkI l mX1_pace (rmd 1) fr n z) fr 66 [] [.int s0] n μ := by
  unfold fX1_pace_b66 at h
  cases h
  exact V_iret (zdk tbX1_pace_0_ok 37 rfl) rfl rfl
def fX1_pace_b50 (n : Nat) (v2 : Int32) (s0 : Int32) (μ : ZMem) : Option (ZMem × Int32) := (if s0 = 0 then (fX1_pace_b66 n v2 μ) else (fX1_pace_b66 n (if (1 : Int32) < (v2 - (1 : Int32)) then (v2 - (1 : Int32)) else (1 : Int32)) μ))
theorem tX1_pace_b50 {l : Launch} {fr : Bool} {n : Nat} {z : ZMem × Int32} (v2 : Int32) (s0 : Int32) (μ : ZMem) (h : fX1_pace_b50 n v2 s0 μ = some z) : V (zkI l mX1_pace (rmd 1) fr n z) fr 50 [(2, .int v2)] [.int s0] n μ := by
  unfold fX1_pace_b50 at h
  refine V_istore_n (ls' := [(2, .int v2), (3, .int s0)]) [1, 0] (zdk tbX1_pace_0_ok 27 rfl) (Nat.le_of_ble_eq_true rfl) rfl ?_
  refine V_iload_n 1 (zdk tbX1_pace_0_ok 28 rfl) rfl ?_
  refine V_if_eq (tgt := 65) (zdk tbX1_pace_0_ok 29 rfl) (by decide) (fun c1 => ?_) (fun c1 => ?_)
  · replace h := ite_t h c1
    refine V_iload_n 0 (zdk tbX1_pace_0_ok 36 rfl) rfl ?_
    refine V_sub (ls' := []) [] rfl ?_
    exact tX1_pace_b66 v2 μ  h
  · replace h := ite_f h c1
    refine V_iconst (v := 1) (zdk tbX1_pace_0_ok 30 rfl) rfl ?_
    refine V_iload_n 0 (zdk tbX1_pace_0_ok 31 rfl) rfl ?_
    refine V_iconst (v := 1) (zdk tbX1_pace_0_ok 32 rfl) rfl ?_
    refine V_isub (zdk tbX1_pace_0_ok 33 rfl) ?_
    refine V_max (zdk tbX1_pace_0_ok 34 rfl) wM1_37 wMs_max wMi wMc_max ⟨Nat.le_of_ble_eq_true rfl, Nat.le_of_ble_eq_true rfl⟩ (Nat.le_of_ble_eq_true rfl) ?_
    refine V_goto (tgt := 66) (zdk tbX1_pace_0_ok 35 rfl) (by decide) ?_
    refine V_sub (ls' := []) [] rfl ?_
    exact tX1_pace_b66 (if (1 : Int32) < (v2 - (1 : Int32)) then (v2 - (1 : Int32)) else (1 : Int32)) μ  h
def fX1_pace_b45 (n : Nat) (v2 : Int32) (μ : ZMem) : Option (ZMem × Int32) := (fX1_pace_b50 n v2 (1 : Int32) μ)
theorem tX1_pace_b45 {l : Launch} {fr : Bool} {n : Nat} {z : ZMem × Int32} (v2 : Int32) (μ : ZMem) (h : fX1_pace_b45 n v2 μ = some z) : V (zkI l mX1_pace (rmd 1) fr n z) fr 45 [(2, .int v2)] [] n μ := by
  unfold fX1_pace_b45 at h
  refine V_iconst (v := 1) (zdk tbX1_pace_0_ok 24 rfl) rfl ?_
  refine V_goto (tgt := 50) (zdk tbX1_pace_0_ok 25 rfl) (by decide) ?_
  exact tX1_pace_b50 v2 (1 : Int32) μ  h
def fX1_pace_b27 (n : Nat) (v0 : Nat) (s0 : Int32) (μ : ZMem) : Option (ZMem × Int32) := (if (zI μ v0 0) = (4 : Int32) then (fX1_pace_b45 n s0 μ) else (if (zI μ v0 0) = (6 : Int32) then (fX1_pace_b45 n s0 μ) else (fX1_pace_b50 n s0 (0 : Int32) μ)))
theorem tX1_pace_b27 {l : Launch} {fr : Bool} {n : Nat} {z : ZMem × Int32} (v0 : Nat) (s0 : Int32) (μ : ZMem) (c_v0 : isC n 1 v0 = true) (h : fX1_pace_b27 n v0 s0 μ = some z) : V (zkI l mX1_pace (rmd 1) fr n z) fr 27 [(0, .ref v0)] [.int s0] n μ := by
  unfold fX1_pace_b27 at h
  refine V_istore_n (ls' := [(0, .ref v0), (2, .int s0)]) [1, 0] (zdk tbX1_pace_0_ok 15 rfl) (Nat.le_of_ble_eq_true rfl) rfl ?_
  refine V_aload_n 0 (zdk tbX1_pace_0_ok 16 rfl) rfl ?_
  refine V_getI (zdk tbX1_pace_0_ok 17 rfl) c_v0 fF1_15 rfl ?_
  refine V_iconst (v := 4) (zdk tbX1_pace_0_ok 18 rfl) rfl ?_
  refine V_icmp_eq (tgt := 45) (zdk tbX1_pace_0_ok 19 rfl) (by decide) (fun c1 => ?_) (fun c1 => ?_)
  · replace h := ite_t h c1
    refine V_sub (ls' := [(2, .int s0)]) [1] rfl ?_
    exact tX1_pace_b45 s0 μ  h
  · replace h := ite_f h c1
    refine V_aload_n 0 (zdk tbX1_pace_0_ok 20 rfl) rfl ?_
    refine V_getI (zdk tbX1_pace_0_ok 21 rfl) c_v0 fF1_15 rfl ?_
    refine V_bipush (v := 6) (zdk tbX1_pace_0_ok 22 rfl) rfl ?_
    refine V_icmp_ne (tgt := 49) (zdk tbX1_pace_0_ok 23 rfl) (by decide) (fun c2 => ?_) (fun c2 => ?_)
    · replace h := ite_f h c2
      refine V_iconst (v := 0) (zdk tbX1_pace_0_ok 26 rfl) rfl ?_
      refine V_sub (ls' := [(2, .int s0)]) [1] rfl ?_
      exact tX1_pace_b50 s0 (0 : Int32) μ  h
    · replace h := ite_t h c2
      refine V_sub (ls' := [(2, .int s0)]) [1] rfl ?_
      exact tX1_pace_b45 s0 μ  h
def fX1_pace (n : Nat) (v0 : Nat) (v1 : Int32) (μ : ZMem) : Option (ZMem × Int32) := chk (isC n 1 v0) ((if (1 : Int32) ≤ v1 then chk (!decide (v1 = 0)) ((fX1_pace_b27 n v0 (if (1 : Int32) < (if (((4 : Int32) * (zI μ v0 2)) / v1) < (9 : Int32) then (((4 : Int32) * (zI μ v0 2)) / v1) else (9 : Int32)) then (if (((4 : Int32) * (zI μ v0 2)) / v1) < (9 : Int32) then (((4 : Int32) * (zI μ v0 2)) / v1) else (9 : Int32)) else (1 : Int32)) μ)) else (fX1_pace_b27 n v0 (9 : Int32) μ)))
theorem tX1_pace {l : Launch} {fr : Bool} {n : Nat} {v0 : Nat} {v1 : Int32} {μ : ZMem} {z : ZMem × Int32} (h : fX1_pace n v0 v1 μ = some z) : ZFn l mX1_pace (rmd 1) [.ref v0, .int v1] fr n μ (fr, n, z.1, some (.int z.2)) := by
  unfold fX1_pace at h
  obtain ⟨c_v0, h⟩ := chk_some h
  refine ZFn.of (ls := [(0, .ref v0), (1, .int v1)]) (by decide) (fun ξ => Nat.le_of_ble_eq_true rfl) (fun ξ => rfl) ?_
  refine V_iload_n 1 (zdk tbX1_pace_0_ok 0 rfl) rfl ?_
  refine V_iconst (v := 1) (zdk tbX1_pace_0_ok 1 rfl) rfl ?_
  refine V_icmp_ge (tgt := 10) (zdk tbX1_pace_0_ok 2 rfl) (by decide) (fun c1 => ?_) (fun c1 => ?_)
  · replace h := ite_t h c1
    refine V_iconst (v := 1) (zdk tbX1_pace_0_ok 5 rfl) rfl ?_
    refine V_bipush (v := 9) (zdk tbX1_pace_0_ok 6 rfl) rfl ?_
    refine V_iconst (v := 4) (zdk tbX1_pace_0_ok 7 rfl) rfl ?_
    refine V_aload_n 0 (zdk tbX1_pace_0_ok 8 rfl) rfl ?_
    refine V_getI (zdk tbX1_pace_0_ok 9 rfl) c_v0 fF1_22 rfl ?_
    refine V_imul (zdk tbX1_pace_0_ok 10 rfl) ?_
    refine V_iload_n 1 (zdk tbX1_pace_0_ok 11 rfl) rfl ?_
    obtain ⟨d2, h⟩ := chk_some h
    refine V_idiv (zdk tbX1_pace_0_ok 12 rfl) (nz_of d2) ?_
    refine V_min (zdk tbX1_pace_0_ok 13 rfl) wM1_31 wMs_min wMi wMc_min ⟨Nat.le_of_ble_eq_true rfl, Nat.le_of_ble_eq_true rfl⟩ (Nat.le_of_ble_eq_true rfl) ?_
    refine V_max (zdk tbX1_pace_0_ok 14 rfl) wM1_37 wMs_max wMi wMc_max ⟨Nat.le_of_ble_eq_true rfl, Nat.le_of_ble_eq_true rfl⟩ (Nat.le_of_ble_eq_true rfl) ?_
    refine V_sub (ls' := [(0, .ref v0)]) [0] rfl ?_
    exact tX1_pace_b27 v0 (if (1 : Int32) < (if (((4 : Int32) * (zI μ v0 2)) / v1) < (9 : Int32) then (((4 : Int32) * (zI μ v0 2)) / v1) else (9 : Int32)) then (if (((4 : Int32) * (zI μ v0 2)) / v1) < (9 : Int32) then (((4 : Int32) * (zI μ v0 2)) / v1) else (9 : Int32)) else (1 : Int32)) μ c_v0 h
  · replace h := ite_f h c1
    refine V_bipush (v := 9) (zdk tbX1_pace_0_ok 3 rfl) rfl ?_
    refine V_goto (tgt := 27) (zdk tbX1_pace_0_ok 4 rfl) (by decide) ?_
    refine V_sub (ls' := [(0, .ref v0)]) [0] rfl ?_
    exact tX1_pace_b27 v0 (9 : Int32) μ c_v0 h

-- WhoComplainsCarries$Person.toil
def tbX1_toil_0 : List (Nat × Instr × Nat) := [(0, .iload_n 1, 1), (1, .aload_n 0, 1), (2, .getfield 22, 3), (5, .invokestatic 40, 3), (8, .istore_n 2, 1), (9, .aload_n 0, 1), (10, .getfield 15, 3), (13, .tableswitch 44 2 5 #[31, 37, 44, 31], 31), (44, .iload_n 2, 1), (45, .iconst 2, 1), (46, .invokestatic 40, 3), (49, .ireturn, 1), (50, .iload_n 2, 1), (51, .aload_n 0, 1), (52, .getfield 19, 3), (55, .iadd, 1), (56, .ireturn, 1), (57, .iload_n 2, 1), (58, .ireturn, 1)]
theorem tbX1_toil_0_ok : ∀ q ∈ tbX1_toil_0, decode cX1_toil q.1 = .ok (q.2.1, q.2.2) := by decide +kernel
theorem wCX6_upward : zCW mX6_upward 2 := ⟨zin (i := 1) (by decide +kernel) rfl, zin (i := 370) (by decide +kernel) rfl, by decide +kernel, by decide +kernel, by decide +kernel⟩
theorem sC1_40 : zCN RX1 40 mX6_upward 2 := ⟨by decide +kernel, zin (i := 369) (by decide +kernel) rfl, wCX6_upward⟩
def fX1_toil_b44 (n : Nat) (v2 : Int32) (μ : ZMem) : Option (ZMem × Int32) := bd2 (fX6_upward n v2 (2 : Int32) μ) (fun μ2 r3 => some (μ2, r3))
theorem tX1_toil_b44 {l : Launch} {fr : Bool} {n : Nat} {z : ZMem × Int32} (v2 : Int32) (μ : ZMem) (h : fX1_toil_b44 n v2 μ = some z) : V (zkI l mX1_toil (rmd 2) fr n z) fr 44 [(2, .int v2)] [] n μ := by
  unfold fX1_toil_b44 at h
  refine V_iload_n 0 (zdk tbX1_toil_0_ok 8 rfl) rfl ?_
  refine V_iconst (v := 2) (zdk tbX1_toil_0_ok 9 rfl) rfl ?_
  obtain ⟨μ2, r3, q1, h⟩ := bd2_some h
  refine V_callN (R1 := (rmd 1)) (As := [.int v2, .int (2 : Int32)]) (r := (some (.int r3))) (zdk tbX1_toil_0_ok 10 rfl) sC1_40 (tX6_upward q1) rfl rfl ⟨Nat.le_of_ble_eq_true rfl, Nat.le_of_ble_eq_true rfl⟩ (Nat.le_of_ble_eq_true rfl) ⟨rfl, rfl⟩ id ?_
  cases h
  exact V_iret (zdk tbX1_toil_0_ok 11 rfl) rfl rfl
def fX1_toil_b57 (n : Nat) (v2 : Int32) (μ : ZMem) : Option (ZMem × Int32) := some (μ, v2)
theorem tX1_toil_b57 {l : Launch} {fr : Bool} {n : Nat} {z : ZMem × Int32} (v2 : Int32) (μ : ZMem) (h : fX1_toil_b57 n v2 μ = some z) : V (zkI l mX1_toil (rmd 2) fr n z) fr 57 [(2, .int v2)] [] n μ := by
  unfold fX1_toil_b57 at h
  refine V_iload_n 0 (zdk tbX1_toil_0_ok 17 rfl) rfl ?_
  cases h
  exact V_iret (zdk tbX1_toil_0_ok 18 rfl) rfl rfl
def fX1_toil (n : Nat) (v0 : Nat) (v1 : Int32) (μ : ZMem) : Option (ZMem × Int32) := chk (isC n 1 v0) (bd2 (fX6_upward n v1 (zI μ v0 2) μ) (fun μ2 r3 => (if (zI μ2 v0 0) = (2 : Int32) then (fX1_toil_b44 n r3 μ2) else (if (zI μ2 v0 0) = (3 : Int32) then some (μ2, (r3 + (zI μ2 v0 1))) else (if (zI μ2 v0 0) = (4 : Int32) then (fX1_toil_b57 n r3 μ2) else (if (zI μ2 v0 0) = (5 : Int32) then (fX1_toil_b44 n r3 μ2) else (fX1_toil_b57 n r3 μ2)))))))
theorem tX1_toil {l : Launch} {fr : Bool} {n : Nat} {v0 : Nat} {v1 : Int32} {μ : ZMem} {z : ZMem × Int32} (h : fX1_toil n v0 v1 μ = some z) : ZFn l mX1_toil (rmd 2) [.ref v0, .int v1] fr n μ (fr, n, z.1, some (.int z.2)) := by
  unfold fX1_toil at h
  obtain ⟨c_v0, h⟩ := chk_some h
  refine ZFn.of (ls := [(0, .ref v0), (1, .int v1)]) (by decide) (fun ξ => Nat.le_of_ble_eq_true rfl) (fun ξ => rfl) ?_
  refine V_iload_n 1 (zdk tbX1_toil_0_ok 0 rfl) rfl ?_
  refine V_aload_n 0 (zdk tbX1_toil_0_ok 1 rfl) rfl ?_
  refine V_getI (zdk tbX1_toil_0_ok 2 rfl) c_v0 fF1_22 rfl ?_
  obtain ⟨μ2, r3, q1, h⟩ := bd2_some h
  refine V_callN (R1 := (rmd 1)) (As := [.int v1, .int (zI μ v0 2)]) (r := (some (.int r3))) (zdk tbX1_toil_0_ok 3 rfl) sC1_40 (tX6_upward q1) rfl rfl ⟨Nat.le_of_ble_eq_true rfl, Nat.le_of_ble_eq_true rfl⟩ (Nat.le_of_ble_eq_true rfl) ⟨rfl, rfl⟩ id ?_
  refine V_istore_n (ls' := [(0, .ref v0), (2, .int r3)]) [1, 0] (zdk tbX1_toil_0_ok 4 rfl) (Nat.le_of_ble_eq_true rfl) rfl ?_
  refine V_aload_n 0 (zdk tbX1_toil_0_ok 5 rfl) rfl ?_
  refine V_getI (zdk tbX1_toil_0_ok 6 rfl) c_v0 fF1_15 rfl ?_
  by_cases c4 : (zI μ2 v0 0) = (2 : Int32)
  · replace h := ite_t h c4
    refine V_tsw (off := 31) (tgt := 44) 2 c4 (zdk tbX1_toil_0_ok 7 rfl) (by decide) rfl (by decide) ?_
    refine V_sub (ls' := [(2, .int r3)]) [1] rfl ?_
    exact tX1_toil_b44 r3 μ2  h
  · replace h := ite_f h c4
    by_cases c5 : (zI μ2 v0 0) = (3 : Int32)
    · replace h := ite_t h c5
      refine V_tsw (off := 37) (tgt := 50) 3 c5 (zdk tbX1_toil_0_ok 7 rfl) (by decide) rfl (by decide) ?_
      refine V_iload_n 1 (zdk tbX1_toil_0_ok 12 rfl) rfl ?_
      refine V_aload_n 0 (zdk tbX1_toil_0_ok 13 rfl) rfl ?_
      refine V_getI (zdk tbX1_toil_0_ok 14 rfl) c_v0 fF1_19 rfl ?_
      refine V_iadd (zdk tbX1_toil_0_ok 15 rfl) ?_
      cases h
      exact V_iret (zdk tbX1_toil_0_ok 16 rfl) rfl rfl
    · replace h := ite_f h c5
      by_cases c6 : (zI μ2 v0 0) = (4 : Int32)
      · replace h := ite_t h c6
        refine V_tsw (off := 44) (tgt := 57) 4 c6 (zdk tbX1_toil_0_ok 7 rfl) (by decide) rfl (by decide) ?_
        refine V_sub (ls' := [(2, .int r3)]) [1] rfl ?_
        exact tX1_toil_b57 r3 μ2  h
      · replace h := ite_f h c6
        by_cases c7 : (zI μ2 v0 0) = (5 : Int32)
        · replace h := ite_t h c7
          refine V_tsw (off := 31) (tgt := 44) 5 c7 (zdk tbX1_toil_0_ok 7 rfl) (by decide) rfl (by decide) ?_
          refine V_sub (ls' := [(2, .int r3)]) [1] rfl ?_
          exact tX1_toil_b44 r3 μ2  h
        · replace h := ite_f h c7
          refine V_tsw0 (tgt := 57) [2, 3, 4, 5] (List.forall_mem_cons.mpr ⟨c4, List.forall_mem_cons.mpr ⟨c5, List.forall_mem_cons.mpr ⟨c6, List.forall_mem_cons.mpr ⟨c7, fun _ h => absurd h List.not_mem_nil⟩⟩⟩⟩) (zdk tbX1_toil_0_ok 7 rfl) (by decide) (by decide) (by decide) ?_
          refine V_sub (ls' := [(2, .int r3)]) [1] rfl ?_
          exact tX1_toil_b57 r3 μ2  h

-- WhoComplainsCarries$Person.limit
def tbX1_limit_0 : List (Nat × Instr × Nat) := [(0, .aload_n 0, 1), (1, .getfield 15, 3), (4, .lookupswitch 53 #[(1, 36), (3, 36), (6, 43)], 36), (40, .iconst 2, 1), (41, .aload_n 0, 1), (42, .getfield 25, 3), (45, .imul, 1), (46, .ireturn, 1), (47, .aload_n 0, 1), (48, .getfield 25, 3), (51, .aload_n 0, 1), (52, .getfield 19, 3), (55, .iadd, 1), (56, .ireturn, 1), (57, .aload_n 0, 1), (58, .getfield 25, 3), (61, .ireturn, 1)]
theorem tbX1_limit_0_ok : ∀ q ∈ tbX1_limit_0, decode cX1_limit q.1 = .ok (q.2.1, q.2.2) := by decide +kernel
def fX1_limit_b40 (n : Nat) (v0 : Nat) (μ : ZMem) : Option (ZMem × Int32) := some (μ, ((2 : Int32) * (zI μ v0 3)))
theorem tX1_limit_b40 {l : Launch} {fr : Bool} {n : Nat} {z : ZMem × Int32} (v0 : Nat) (μ : ZMem) (c_v0 : isC n 1 v0 = true) (h : fX1_limit_b40 n v0 μ = some z) : V (zkI l mX1_limit (rmd 1) fr n z) fr 40 [(0, .ref v0)] [] n μ := by
  unfold fX1_limit_b40 at h
  refine V_iconst (v := 2) (zdk tbX1_limit_0_ok 3 rfl) rfl ?_
  refine V_aload_n 0 (zdk tbX1_limit_0_ok 4 rfl) rfl ?_
  refine V_getI (zdk tbX1_limit_0_ok 5 rfl) c_v0 fF1_25 rfl ?_
  refine V_imul (zdk tbX1_limit_0_ok 6 rfl) ?_
  cases h
  exact V_iret (zdk tbX1_limit_0_ok 7 rfl) rfl rfl
def fX1_limit (n : Nat) (v0 : Nat) (μ : ZMem) : Option (ZMem × Int32) := chk (isC n 1 v0) ((if (zI μ v0 0) = (1 : Int32) then (fX1_limit_b40 n v0 μ) else (if (zI μ v0 0) = (3 : Int32) then (fX1_limit_b40 n v0 μ) else (if (zI μ v0 0) = (6 : Int32) then some (μ, ((zI μ v0 3) + (zI μ v0 1))) else some (μ, (zI μ v0 3))))))
theorem tX1_limit {l : Launch} {fr : Bool} {n : Nat} {v0 : Nat} {μ : ZMem} {z : ZMem × Int32} (h : fX1_limit n v0 μ = some z) : ZFn l mX1_limit (rmd 1) [.ref v0] fr n μ (fr, n, z.1, some (.int z.2)) := by
  unfold fX1_limit at h
  obtain ⟨c_v0, h⟩ := chk_some h
  refine ZFn.of (ls := [(0, .ref v0)]) (by decide) (fun ξ => Nat.le_of_ble_eq_true rfl) (fun ξ => rfl) ?_
  refine V_aload_n 0 (zdk tbX1_limit_0_ok 0 rfl) rfl ?_
  refine V_getI (zdk tbX1_limit_0_ok 1 rfl) c_v0 fF1_15 rfl ?_
  by_cases c1 : (zI μ v0 0) = (1 : Int32)
  · replace h := ite_t h c1
    refine V_lsw (off := 36) (tgt := 40) 1 c1 (zdk tbX1_limit_0_ok 2 rfl) (by decide) (by decide) (by decide) ?_
    exact tX1_limit_b40 v0 μ c_v0 h
  · replace h := ite_f h c1
    by_cases c2 : (zI μ v0 0) = (3 : Int32)
    · replace h := ite_t h c2
      refine V_lsw (off := 36) (tgt := 40) 3 c2 (zdk tbX1_limit_0_ok 2 rfl) (by decide) (by decide) (by decide) ?_
      exact tX1_limit_b40 v0 μ c_v0 h
    · replace h := ite_f h c2
      by_cases c3 : (zI μ v0 0) = (6 : Int32)
      · replace h := ite_t h c3
        refine V_lsw (off := 43) (tgt := 47) 6 c3 (zdk tbX1_limit_0_ok 2 rfl) (by decide) (by decide) (by decide) ?_
        refine V_aload_n 0 (zdk tbX1_limit_0_ok 8 rfl) rfl ?_
        refine V_getI (zdk tbX1_limit_0_ok 9 rfl) c_v0 fF1_25 rfl ?_
        refine V_aload_n 0 (zdk tbX1_limit_0_ok 10 rfl) rfl ?_
        refine V_getI (zdk tbX1_limit_0_ok 11 rfl) c_v0 fF1_19 rfl ?_
        refine V_iadd (zdk tbX1_limit_0_ok 12 rfl) ?_
        cases h
        exact V_iret (zdk tbX1_limit_0_ok 13 rfl) rfl rfl
      · replace h := ite_f h c3
        refine V_lsw0 (tgt := 57) [1, 3, 6] (List.forall_mem_cons.mpr ⟨c1, List.forall_mem_cons.mpr ⟨c2, List.forall_mem_cons.mpr ⟨c3, fun _ h => absurd h List.not_mem_nil⟩⟩⟩) (zdk tbX1_limit_0_ok 2 rfl) (by decide) (by decide) (by decide) ?_
        refine V_aload_n 0 (zdk tbX1_limit_0_ok 14 rfl) rfl ?_
        refine V_getI (zdk tbX1_limit_0_ok 15 rfl) c_v0 fF1_25 rfl ?_
        cases h
        exact V_iret (zdk tbX1_limit_0_ok 16 rfl) rfl rfl

-- WhoComplainsCarries$Person.isSighing
def tbX1_isSighing_0 : List (Nat × Instr × Nat) := [(0, .aload_n 0, 1), (1, .getfield 15, 3), (4, .iconst 5, 1), (5, .if_icmp .eq 18, 3), (8, .aload_n 0, 1), (9, .getfield 28, 3), (12, .aload_n 0, 1), (13, .invokevirtual 43, 3), (16, .if_icmp .le 7, 3), (19, .iconst 1, 1), (20, .goto 4, 3), (23, .iconst 0, 1), (24, .ireturn, 1)]
theorem tbX1_isSighing_0_ok : ∀ q ∈ tbX1_isSighing_0, decode cX1_isSighing q.1 = .ok (q.2.1, q.2.2) := by decide +kernel
theorem wCX1_limit : zCW mX1_limit 0 := ⟨zin (i := 4) (by decide +kernel) rfl, zin (i := 363) (by decide +kernel) rfl, by decide +kernel, by decide +kernel, by decide +kernel⟩
theorem sC1_43 : zCV RX1 43 mX1_limit 0 := ⟨zin (i := 550) (by decide +kernel) rfl, zin (i := 361) (by decide +kernel) rfl, zin (i := 362) (by decide +kernel) rfl, wCX1_limit⟩
def fX1_isSighing_b24 (n : Nat) (s0 : Int32) (μ : ZMem) : Option (ZMem × Int32) := chk (b01 s0) (some (μ, s0))
theorem tX1_isSighing_b24 {l : Launch} {fr : Bool} {n : Nat} {z : ZMem × Int32} (s0 : Int32) (μ : ZMem) (h : fX1_isSighing_b24 n s0 μ = some z) : V (zkI l mX1_isSighing (rmd 2) fr n z) fr 24 [] [.int s0] n μ := by
  unfold fX1_isSighing_b24 at h
  obtain ⟨b1, h⟩ := chk_some h
  cases h
  exact V_zret (zdk tbX1_isSighing_0_ok 12 rfl) rfl (b01_n b1) rfl
def fX1_isSighing_b23 (n : Nat) (μ : ZMem) : Option (ZMem × Int32) := (fX1_isSighing_b24 n (0 : Int32) μ)
theorem tX1_isSighing_b23 {l : Launch} {fr : Bool} {n : Nat} {z : ZMem × Int32} (μ : ZMem) (h : fX1_isSighing_b23 n μ = some z) : V (zkI l mX1_isSighing (rmd 2) fr n z) fr 23 [] [] n μ := by
  unfold fX1_isSighing_b23 at h
  refine V_iconst (v := 0) (zdk tbX1_isSighing_0_ok 11 rfl) rfl ?_
  exact tX1_isSighing_b24 (0 : Int32) μ  h
def fX1_isSighing (n : Nat) (v0 : Nat) (μ : ZMem) : Option (ZMem × Int32) := chk (isC n 1 v0) ((if (zI μ v0 0) = (5 : Int32) then (fX1_isSighing_b23 n  μ) else bd2 (fX1_limit n v0 μ) (fun μ3 r4 => (if (zI μ v0 4) ≤ r4 then (fX1_isSighing_b23 n  μ3) else (fX1_isSighing_b24 n (1 : Int32) μ3)))))
theorem tX1_isSighing {l : Launch} {fr : Bool} {n : Nat} {v0 : Nat} {μ : ZMem} {z : ZMem × Int32} (h : fX1_isSighing n v0 μ = some z) : ZFn l mX1_isSighing (rmd 2) [.ref v0] fr n μ (fr, n, z.1, some (.int z.2)) := by
  unfold fX1_isSighing at h
  obtain ⟨c_v0, h⟩ := chk_some h
  refine ZFn.of (ls := [(0, .ref v0)]) (by decide) (fun ξ => Nat.le_of_ble_eq_true rfl) (fun ξ => rfl) ?_
  refine V_aload_n 0 (zdk tbX1_isSighing_0_ok 0 rfl) rfl ?_
  refine V_getI (zdk tbX1_isSighing_0_ok 1 rfl) c_v0 fF1_15 rfl ?_
  refine V_iconst (v := 5) (zdk tbX1_isSighing_0_ok 2 rfl) rfl ?_
  refine V_icmp_eq (tgt := 23) (zdk tbX1_isSighing_0_ok 3 rfl) (by decide) (fun c1 => ?_) (fun c1 => ?_)
  · replace h := ite_t h c1
    refine V_sub (ls' := []) [] rfl ?_
    exact tX1_isSighing_b23  μ  h
  · replace h := ite_f h c1
    refine V_aload_n 0 (zdk tbX1_isSighing_0_ok 4 rfl) rfl ?_
    refine V_getI (zdk tbX1_isSighing_0_ok 5 rfl) c_v0 fF1_28 rfl ?_
    refine V_aload_n 0 (zdk tbX1_isSighing_0_ok 6 rfl) rfl ?_
    obtain ⟨μ3, r4, q2, h⟩ := bd2_some h
    refine V_callV (R1 := (rmd 1)) (As := []) (r := (some (.int r4))) (zdk tbX1_isSighing_0_ok 7 rfl) sC1_43 (tX1_limit q2) (c_v0) rfl rfl rfl ⟨Nat.le_of_ble_eq_true rfl, Nat.le_of_ble_eq_true rfl⟩ (Nat.le_of_ble_eq_true rfl) ⟨rfl, rfl⟩ id ?_
    refine V_icmp_le (tgt := 23) (zdk tbX1_isSighing_0_ok 8 rfl) (by decide) (fun c5 => ?_) (fun c5 => ?_)
    · replace h := ite_t h c5
      refine V_sub (ls' := []) [] rfl ?_
      exact tX1_isSighing_b23  μ3  h
    · replace h := ite_f h c5
      refine V_iconst (v := 1) (zdk tbX1_isSighing_0_ok 9 rfl) rfl ?_
      refine V_goto (tgt := 24) (zdk tbX1_isSighing_0_ok 10 rfl) (by decide) ?_
      refine V_sub (ls' := []) [] rfl ?_
      exact tX1_isSighing_b24 (1 : Int32) μ3  h

-- WhoComplainsCarries$Person.missingToSigh
def tbX1_missingToSigh_0 : List (Nat × Instr × Nat) := [(0, .aload_n 0, 1), (1, .getfield 15, 3), (4, .iconst 5, 1), (5, .if_icmp .ne 7, 3), (8, .iconst (-1), 1), (9, .goto 18, 3), (12, .iconst 0, 1), (13, .aload_n 0, 1), (14, .invokevirtual 43, 3), (17, .iconst 1, 1), (18, .iadd, 1), (19, .aload_n 0, 1), (20, .getfield 28, 3), (23, .isub, 1), (24, .invokestatic 37, 3), (27, .ireturn, 1)]
theorem tbX1_missingToSigh_0_ok : ∀ q ∈ tbX1_missingToSigh_0, decode cX1_missingToSigh q.1 = .ok (q.2.1, q.2.2) := by decide +kernel
def fX1_missingToSigh_b27 (n : Nat) (s0 : Int32) (μ : ZMem) : Option (ZMem × Int32) := some (μ, s0)
theorem tX1_missingToSigh_b27 {l : Launch} {fr : Bool} {n : Nat} {z : ZMem × Int32} (s0 : Int32) (μ : ZMem) (h : fX1_missingToSigh_b27 n s0 μ = some z) : V (zkI l mX1_missingToSigh (rmd 2) fr n z) fr 27 [] [.int s0] n μ := by
  unfold fX1_missingToSigh_b27 at h
  cases h
  exact V_iret (zdk tbX1_missingToSigh_0_ok 15 rfl) rfl rfl
def fX1_missingToSigh (n : Nat) (v0 : Nat) (μ : ZMem) : Option (ZMem × Int32) := chk (isC n 1 v0) ((if (zI μ v0 0) = (5 : Int32) then (fX1_missingToSigh_b27 n (-1 : Int32) μ) else bd2 (fX1_limit n v0 μ) (fun μ3 r4 => (fX1_missingToSigh_b27 n (if (0 : Int32) < ((r4 + (1 : Int32)) - (zI μ3 v0 4)) then ((r4 + (1 : Int32)) - (zI μ3 v0 4)) else (0 : Int32)) μ3))))
theorem tX1_missingToSigh {l : Launch} {fr : Bool} {n : Nat} {v0 : Nat} {μ : ZMem} {z : ZMem × Int32} (h : fX1_missingToSigh n v0 μ = some z) : ZFn l mX1_missingToSigh (rmd 2) [.ref v0] fr n μ (fr, n, z.1, some (.int z.2)) := by
  unfold fX1_missingToSigh at h
  obtain ⟨c_v0, h⟩ := chk_some h
  refine ZFn.of (ls := [(0, .ref v0)]) (by decide) (fun ξ => Nat.le_of_ble_eq_true rfl) (fun ξ => rfl) ?_
  refine V_aload_n 0 (zdk tbX1_missingToSigh_0_ok 0 rfl) rfl ?_
  refine V_getI (zdk tbX1_missingToSigh_0_ok 1 rfl) c_v0 fF1_15 rfl ?_
  refine V_iconst (v := 5) (zdk tbX1_missingToSigh_0_ok 2 rfl) rfl ?_
  refine V_icmp_ne (tgt := 12) (zdk tbX1_missingToSigh_0_ok 3 rfl) (by decide) (fun c1 => ?_) (fun c1 => ?_)
  · replace h := ite_f h c1
    refine V_iconst (v := 0) (zdk tbX1_missingToSigh_0_ok 6 rfl) rfl ?_
    refine V_aload_n 0 (zdk tbX1_missingToSigh_0_ok 7 rfl) rfl ?_
    obtain ⟨μ3, r4, q2, h⟩ := bd2_some h
    refine V_callV (R1 := (rmd 1)) (As := []) (r := (some (.int r4))) (zdk tbX1_missingToSigh_0_ok 8 rfl) sC1_43 (tX1_limit q2) (c_v0) rfl rfl rfl ⟨Nat.le_of_ble_eq_true rfl, Nat.le_of_ble_eq_true rfl⟩ (Nat.le_of_ble_eq_true rfl) ⟨rfl, rfl⟩ id ?_
    refine V_iconst (v := 1) (zdk tbX1_missingToSigh_0_ok 9 rfl) rfl ?_
    refine V_iadd (zdk tbX1_missingToSigh_0_ok 10 rfl) ?_
    refine V_aload_n 0 (zdk tbX1_missingToSigh_0_ok 11 rfl) rfl ?_
    refine V_getI (zdk tbX1_missingToSigh_0_ok 12 rfl) c_v0 fF1_28 rfl ?_
    refine V_isub (zdk tbX1_missingToSigh_0_ok 13 rfl) ?_
    refine V_max (zdk tbX1_missingToSigh_0_ok 14 rfl) wM1_37 wMs_max wMi wMc_max ⟨Nat.le_of_ble_eq_true rfl, Nat.le_of_ble_eq_true rfl⟩ (Nat.le_of_ble_eq_true rfl) ?_
    refine V_sub (ls' := []) [] rfl ?_
    exact tX1_missingToSigh_b27 (if (0 : Int32) < ((r4 + (1 : Int32)) - (zI μ3 v0 4)) then ((r4 + (1 : Int32)) - (zI μ3 v0 4)) else (0 : Int32)) μ3  h
  · replace h := ite_t h c1
    refine V_iconst (v := (-1)) (zdk tbX1_missingToSigh_0_ok 4 rfl) rfl ?_
    refine V_goto (tgt := 27) (zdk tbX1_missingToSigh_0_ok 5 rfl) (by decide) ?_
    refine V_sub (ls' := []) [] rfl ?_
    exact tX1_missingToSigh_b27 (-1 : Int32) μ  h

-- WhoComplainsCarries$Person.grow
def tbX1_grow_0 : List (Nat × Instr × Nat) := [(0, .aload_n 0, 1), (1, .bipush 99, 2), (3, .aload_n 0, 1), (4, .getfield 28, 3), (7, .iload_n 1, 1), (8, .iadd, 1), (9, .invokestatic 31, 3), (12, .putfield 28, 3), (15, .return_, 1)]
theorem tbX1_grow_0_ok : ∀ q ∈ tbX1_grow_0, decode cX1_grow q.1 = .ok (q.2.1, q.2.2) := by decide +kernel
def fX1_grow (n : Nat) (v0 : Nat) (v1 : Int32) (μ : ZMem) : Option (ZMem) := chk (isC n 1 v0) (lt (zpI μ v0 4 (if ((zI μ v0 4) + v1) < (99 : Int32) then ((zI μ v0 4) + v1) else (99 : Int32))) (fun μ1 => some μ1))
theorem tX1_grow {l : Launch} {fr : Bool} {n : Nat} {v0 : Nat} {v1 : Int32} {μ : ZMem} {z : ZMem} (h : fX1_grow n v0 v1 μ = some z) : ZFn l mX1_grow (rmd 1) [.ref v0, .int v1] fr n μ (fr, n, z, none) := by
  unfold fX1_grow at h
  obtain ⟨c_v0, h⟩ := chk_some h
  refine ZFn.of (ls := [(0, .ref v0), (1, .int v1)]) (by decide) (fun ξ => Nat.le_of_ble_eq_true rfl) (fun ξ => rfl) ?_
  refine V_aload_n 0 (zdk tbX1_grow_0_ok 0 rfl) rfl ?_
  refine V_bipush (v := 99) (zdk tbX1_grow_0_ok 1 rfl) rfl ?_
  refine V_aload_n 0 (zdk tbX1_grow_0_ok 2 rfl) rfl ?_
  refine V_getI (zdk tbX1_grow_0_ok 3 rfl) c_v0 fF1_28 rfl ?_
  refine V_iload_n 1 (zdk tbX1_grow_0_ok 4 rfl) rfl ?_
  refine V_iadd (zdk tbX1_grow_0_ok 5 rfl) ?_
  refine V_min (zdk tbX1_grow_0_ok 6 rfl) wM1_31 wMs_min wMi wMc_min ⟨Nat.le_of_ble_eq_true rfl, Nat.le_of_ble_eq_true rfl⟩ (Nat.le_of_ble_eq_true rfl) ?_
  obtain ⟨μ1, e2, h⟩ := lt_some h
  refine V_putI (zdk tbX1_grow_0_ok 7 rfl) c_v0 fF1_28 rfl rfl rfl e2 ?_
  cases h
  exact V_vret (zdk tbX1_grow_0_ok 8 rfl) rfl rfl

-- WhoComplainsCarries$Person.rest
def tbX1_rest_0 : List (Nat × Instr × Nat) := [(0, .aload_n 0, 1), (1, .iconst 0, 1), (2, .aload_n 0, 1), (3, .getfield 28, 3), (6, .iload_n 1, 1), (7, .isub, 1), (8, .invokestatic 37, 3), (11, .putfield 28, 3), (14, .return_, 1)]
theorem tbX1_rest_0_ok : ∀ q ∈ tbX1_rest_0, decode cX1_rest q.1 = .ok (q.2.1, q.2.2) := by decide +kernel
def fX1_rest (n : Nat) (v0 : Nat) (v1 : Int32) (μ : ZMem) : Option (ZMem) := chk (isC n 1 v0) (lt (zpI μ v0 4 (if (0 : Int32) < ((zI μ v0 4) - v1) then ((zI μ v0 4) - v1) else (0 : Int32))) (fun μ1 => some μ1))
theorem tX1_rest {l : Launch} {fr : Bool} {n : Nat} {v0 : Nat} {v1 : Int32} {μ : ZMem} {z : ZMem} (h : fX1_rest n v0 v1 μ = some z) : ZFn l mX1_rest (rmd 1) [.ref v0, .int v1] fr n μ (fr, n, z, none) := by
  unfold fX1_rest at h
  obtain ⟨c_v0, h⟩ := chk_some h
  refine ZFn.of (ls := [(0, .ref v0), (1, .int v1)]) (by decide) (fun ξ => Nat.le_of_ble_eq_true rfl) (fun ξ => rfl) ?_
  refine V_aload_n 0 (zdk tbX1_rest_0_ok 0 rfl) rfl ?_
  refine V_iconst (v := 0) (zdk tbX1_rest_0_ok 1 rfl) rfl ?_
  refine V_aload_n 0 (zdk tbX1_rest_0_ok 2 rfl) rfl ?_
  refine V_getI (zdk tbX1_rest_0_ok 3 rfl) c_v0 fF1_28 rfl ?_
  refine V_iload_n 1 (zdk tbX1_rest_0_ok 4 rfl) rfl ?_
  refine V_isub (zdk tbX1_rest_0_ok 5 rfl) ?_
  refine V_max (zdk tbX1_rest_0_ok 6 rfl) wM1_37 wMs_max wMi wMc_max ⟨Nat.le_of_ble_eq_true rfl, Nat.le_of_ble_eq_true rfl⟩ (Nat.le_of_ble_eq_true rfl) ?_
  obtain ⟨μ1, e2, h⟩ := lt_some h
  refine V_putI (zdk tbX1_rest_0_ok 7 rfl) c_v0 fF1_28 rfl rfl rfl e2 ?_
  cases h
  exact V_vret (zdk tbX1_rest_0_ok 8 rfl) rfl rfl

-- WhoComplainsCarries$Person.stepsToLimit
def tbX1_stepsToLimit_0 : List (Nat × Instr × Nat) := [(0, .aload_n 0, 1), (1, .iload_n 1, 1), (2, .invokevirtual 47, 3), (5, .istore_n 2, 1), (6, .iconst 0, 1), (7, .istore_n 3, 1), (8, .iload_n 3, 1), (9, .bipush 100, 2), (11, .if_icmp .gt 31, 3), (14, .bipush 99, 2), (16, .aload_n 0, 1), (17, .getfield 28, 3), (20, .iload_n 3, 1), (21, .iload_n 2, 1), (22, .imul, 1), (23, .iadd, 1), (24, .invokestatic 31, 3), (27, .aload_n 0, 1), (28, .invokevirtual 43, 3), (31, .if_icmp .le 5, 3), (34, .iload_n 3, 1), (35, .ireturn, 1), (36, .iinc 3 1, 3), (39, .goto (-31), 3), (42, .iconst (-1), 1), (43, .ireturn, 1)]
theorem tbX1_stepsToLimit_0_ok : ∀ q ∈ tbX1_stepsToLimit_0, decode cX1_stepsToLimit q.1 = .ok (q.2.1, q.2.2) := by decide +kernel
theorem wCX1_toil : zCW mX1_toil 1 := ⟨zin (i := 4) (by decide +kernel) rfl, zin (i := 367) (by decide +kernel) rfl, by decide +kernel, by decide +kernel, by decide +kernel⟩
theorem sC1_47 : zCV RX1 47 mX1_toil 1 := ⟨zin (i := 620) (by decide +kernel) rfl, zin (i := 365) (by decide +kernel) rfl, zin (i := 366) (by decide +kernel) rfl, wCX1_toil⟩
def fX1_stepsToLimit_b8 (n : Nat) : Nat → Nat → Int32 → Int32 → ZMem → Option (ZMem × Int32)
  | 0, _, _, _, _ => none
  | k + 1, v0, v2, v3, μ => (if (100 : Int32) < v3 then some (μ, (-1 : Int32)) else bd2 (fX1_limit n v0 μ) (fun μ3 r4 => (if (if ((zI μ v0 4) + (v3 * v2)) < (99 : Int32) then ((zI μ v0 4) + (v3 * v2)) else (99 : Int32)) ≤ r4 then (fX1_stepsToLimit_b8 n k v0 v2 (v3 + (1 : Int32)) μ3) else some (μ3, v3))))
theorem tX1_stepsToLimit_b8 {l : Launch} {fr : Bool} {n : Nat} {z : ZMem × Int32} : ∀ (k : Nat) (v0 : Nat) (v2 : Int32) (v3 : Int32) (μ : ZMem) (c_v0 : isC n 1 v0 = true), fX1_stepsToLimit_b8 n k v0 v2 v3 μ = some z → V (zkI l mX1_stepsToLimit (rmd 3) fr n z) fr 8 [(0, .ref v0), (2, .int v2), (3, .int v3)] [] n μ := by
  intro k
  induction k with
  | zero =>
    intro v0 v2 v3 μ c_v0 h
    unfold fX1_stepsToLimit_b8 at h
    cases h
  | succ k ih =>
    intro v0 v2 v3 μ c_v0 h
    unfold fX1_stepsToLimit_b8 at h
    refine V_iload_n 2 (zdk tbX1_stepsToLimit_0_ok 6 rfl) rfl ?_
    refine V_bipush (v := 100) (zdk tbX1_stepsToLimit_0_ok 7 rfl) rfl ?_
    refine V_icmp_gt (tgt := 42) (zdk tbX1_stepsToLimit_0_ok 8 rfl) (by decide) (fun c1 => ?_) (fun c1 => ?_)
    · replace h := ite_t h c1
      refine V_iconst (v := (-1)) (zdk tbX1_stepsToLimit_0_ok 24 rfl) rfl ?_
      cases h
      exact V_iret (zdk tbX1_stepsToLimit_0_ok 25 rfl) rfl rfl
    · replace h := ite_f h c1
      refine V_bipush (v := 99) (zdk tbX1_stepsToLimit_0_ok 9 rfl) rfl ?_
      refine V_aload_n 0 (zdk tbX1_stepsToLimit_0_ok 10 rfl) rfl ?_
      refine V_getI (zdk tbX1_stepsToLimit_0_ok 11 rfl) c_v0 fF1_28 rfl ?_
      refine V_iload_n 2 (zdk tbX1_stepsToLimit_0_ok 12 rfl) rfl ?_
      refine V_iload_n 1 (zdk tbX1_stepsToLimit_0_ok 13 rfl) rfl ?_
      refine V_imul (zdk tbX1_stepsToLimit_0_ok 14 rfl) ?_
      refine V_iadd (zdk tbX1_stepsToLimit_0_ok 15 rfl) ?_
      refine V_min (zdk tbX1_stepsToLimit_0_ok 16 rfl) wM1_31 wMs_min wMi wMc_min ⟨Nat.le_of_ble_eq_true rfl, Nat.le_of_ble_eq_true rfl⟩ (Nat.le_of_ble_eq_true rfl) ?_
      refine V_aload_n 0 (zdk tbX1_stepsToLimit_0_ok 17 rfl) rfl ?_
      obtain ⟨μ3, r4, q2, h⟩ := bd2_some h
      refine V_callV (R1 := (rmd 1)) (As := []) (r := (some (.int r4))) (zdk tbX1_stepsToLimit_0_ok 18 rfl) sC1_43 (tX1_limit q2) (c_v0) rfl rfl rfl ⟨Nat.le_of_ble_eq_true rfl, Nat.le_of_ble_eq_true rfl⟩ (Nat.le_of_ble_eq_true rfl) ⟨rfl, rfl⟩ id ?_
      refine V_icmp_le (tgt := 36) (zdk tbX1_stepsToLimit_0_ok 19 rfl) (by decide) (fun c5 => ?_) (fun c5 => ?_)
      · replace h := ite_t h c5
        refine V_inc (dx := 1) (ls' := [(0, .ref v0), (2, .int v2), (3, .int (v3 + (1 : Int32)))]) 2 [1, 2, 0] (zdk tbX1_stepsToLimit_0_ok 22 rfl) rfl (Nat.le_of_ble_eq_true rfl) rfl rfl ?_
        refine V_goto (tgt := 8) (zdk tbX1_stepsToLimit_0_ok 23 rfl) (by decide) ?_
        exact ih v0 v2 (v3 + (1 : Int32)) μ3 c_v0 h
      · replace h := ite_f h c5
        refine V_iload_n 2 (zdk tbX1_stepsToLimit_0_ok 20 rfl) rfl ?_
        cases h
        exact V_iret (zdk tbX1_stepsToLimit_0_ok 21 rfl) rfl rfl
def fX1_stepsToLimit (n : Nat) (v0 : Nat) (v1 : Int32) (μ : ZMem) : Option (ZMem × Int32) := chk (isC n 1 v0) (bd2 (fX1_toil n v0 v1 μ) (fun μ2 r3 => (fX1_stepsToLimit_b8 n FU v0 r3 (0 : Int32) μ2)))
theorem tX1_stepsToLimit {l : Launch} {fr : Bool} {n : Nat} {v0 : Nat} {v1 : Int32} {μ : ZMem} {z : ZMem × Int32} (h : fX1_stepsToLimit n v0 v1 μ = some z) : ZFn l mX1_stepsToLimit (rmd 3) [.ref v0, .int v1] fr n μ (fr, n, z.1, some (.int z.2)) := by
  unfold fX1_stepsToLimit at h
  obtain ⟨c_v0, h⟩ := chk_some h
  refine ZFn.of (ls := [(0, .ref v0), (1, .int v1)]) (by decide) (fun ξ => Nat.le_of_ble_eq_true rfl) (fun ξ => rfl) ?_
  refine V_aload_n 0 (zdk tbX1_stepsToLimit_0_ok 0 rfl) rfl ?_
  refine V_iload_n 1 (zdk tbX1_stepsToLimit_0_ok 1 rfl) rfl ?_
  obtain ⟨μ2, r3, q1, h⟩ := bd2_some h
  refine V_callV (R1 := (rmd 2)) (As := [.int v1]) (r := (some (.int r3))) (zdk tbX1_stepsToLimit_0_ok 2 rfl) sC1_47 (tX1_toil q1) (c_v0) rfl rfl rfl ⟨Nat.le_of_ble_eq_true rfl, Nat.le_of_ble_eq_true rfl⟩ (Nat.le_of_ble_eq_true rfl) ⟨rfl, rfl⟩ id ?_
  refine V_istore_n (ls' := [(0, .ref v0), (2, .int r3)]) [1, 0] (zdk tbX1_stepsToLimit_0_ok 3 rfl) (Nat.le_of_ble_eq_true rfl) rfl ?_
  refine V_iconst (v := 0) (zdk tbX1_stepsToLimit_0_ok 4 rfl) rfl ?_
  refine V_istore_n (ls' := [(0, .ref v0), (2, .int r3), (3, .int (0 : Int32))]) [1, 2, 0] (zdk tbX1_stepsToLimit_0_ok 5 rfl) (Nat.le_of_ble_eq_true rfl) rfl ?_
  exact tX1_stepsToLimit_b8 FU v0 r3 (0 : Int32) μ2 c_v0 h

