def mX6_init : ZM := (yX6_init, cX6_init, 2, none)
def mX6_isShelf : ZM := (yX6_isShelf, cX6_isShelf, 1, some .boolean)
def mX6_refuse : ZM := (yX6_refuse, cX6_refuse, 2, some .int)
def mX6_row : ZM := (yX6_row, cX6_row, 4, some .int)
def mX6_rowRefusal : ZM := (yX6_rowRefusal, cX6_rowRefusal, 2, some .int)
def mX6_set : ZM := (yX6_set, cX6_set, 6, some .int)
def mX6_copyRefusal : ZM := (yX6_copyRefusal, cX6_copyRefusal, 8, some .int)
def mX6_copy : ZM := (yX6_copy, cX6_copy, 7, some .int)
def mX6_element : ZM := (yX6_element, cX6_element, 3, some .long)
def mX6_isPerson : ZM := (yX6_isPerson, cX6_isPerson, 2, some .boolean)
def mX6_isPersonOrNone : ZM := (yX6_isPersonOrNone, cX6_isPersonOrNone, 2, some .boolean)
def mX6_show : ZM := (yX6_show, cX6_show, 3, some .int)
def mX6_holds : ZM := (yX6_holds, cX6_holds, 3, some .int)
def mX6_isUnder : ZM := (yX6_isUnder, cX6_isUnder, 4, some .boolean)
def mX6_says : ZM := (yX6_says, cX6_says, 5, some .int)
def mX6_person : ZM := (yX6_person, cX6_person, 5, some .int)
def mX6_ask : ZM := (yX6_ask, cX6_ask, 4, some .int)
def mX6_tire : ZM := (yX6_tire, cX6_tire, 4, some .int)
def mX6_refuseFar : ZM := (yX6_refuseFar, cX6_refuseFar, 2, some .int)
def mX6_give : ZM := (yX6_give, cX6_give, 3, some .int)
def mX6_personOf : ZM := (yX6_personOf, cX6_personOf, 4, some .int)
def mX6_vow : ZM := (yX6_vow, cX6_vow, 4, some .int)
def mX6_fault : ZM := (yX6_fault, cX6_fault, 1, some .int)
def mX6_sighs : ZM := (yX6_sighs, cX6_sighs, 5, some .int)
def mX6_ready : ZM := (yX6_ready, cX6_ready, 2, some .int)
def mX6_ahead : ZM := (yX6_ahead, cX6_ahead, 3, some .int)
def mX6_tired : ZM := (yX6_tired, cX6_tired, 3, some .int)
def mX6_over : ZM := (yX6_over, cX6_over, 1, some .int)
def mX6_alone : ZM := (yX6_alone, cX6_alone, 4, some .int)
def mX6_relay : ZM := (yX6_relay, cX6_relay, 5, some .int)
def mX6_toldRefusal : ZM := (yX6_toldRefusal, cX6_toldRefusal, 7, some .int)
def mX6_casesRefusal : ZM := (yX6_casesRefusal, cX6_casesRefusal, 7, some .int)
def mX6_firstClash : ZM := (yX6_firstClash, cX6_firstClash, 6, some .int)
def mX6_sortsTold : ZM := (yX6_sortsTold, cX6_sortsTold, 5, some .int)
def mX6_cases : ZM := (yX6_cases, cX6_cases, 5, some .int)
def mX6_clash : ZM := (yX6_clash, cX6_clash, 4, some .int)
def mX6_goesAsTold : ZM := (yX6_goesAsTold, cX6_goesAsTold, 5, some .boolean)
def mX6_borne : ZM := (yX6_borne, cX6_borne, 6, some .int)
def mX6_without : ZM := (yX6_without, cX6_without, 6, some .int)
def mX6_overWithin : ZM := (yX6_overWithin, cX6_overWithin, 3, some .int)
def mX6_weights : ZM := (yX6_weights, cX6_weights, 6, some .int)
def mX6_praise : ZM := (yX6_praise, cX6_praise, 3, some .int)
def mX6_talkRefusal : ZM := (yX6_talkRefusal, cX6_talkRefusal, 5, some .int)
def mX6_firstWrong : ZM := (yX6_firstWrong, cX6_firstWrong, 5, some .int)
def mX6_judge : ZM := (yX6_judge, cX6_judge, 4, some .int)
def mX6_behind : ZM := (yX6_behind, cX6_behind, 5, some .int)
def mX6_done : ZM := (yX6_done, cX6_done, 4, some .int)
def mX6_say : ZM := (yX6_say, cX6_say, 3, some .int)
def mX6_steps : ZM := (yX6_steps, cX6_steps, 2, some .int)
def mX6_days : ZM := (yX6_days, cX6_days, 3, some .int)
def mX6_seed : ZM := (yX6_seed, cX6_seed, 3, some .int)
def mX6_act : ZM := (yX6_act, cX6_act, 4, some .int)
def mX6_trace : ZM := (yX6_trace, cX6_trace, 2, some .int)
def mX6_image : ZM := (yX6_image, cX6_image, 1, some .int)
def mX6_restore : ZM := (yX6_restore, cX6_restore, 2, some .int)
def mX6_status : ZM := (yX6_status, cX6_status, 2, some .int)
-- WhoComplainsCarries.<init>
def tbX6_init_0 : List (Nat × Instr × Nat) := [(0, .aload_n 0, 1), (1, .invokespecial 1, 3), (4, .aload_n 0, 1), (5, .bipush 8, 2), (7, .anewarray 9, 3), (10, .putfield 11, 3), (13, .iconst 0, 1), (14, .istore_n 1, 1), (15, .iload_n 1, 1), (16, .bipush 8, 2), (18, .if_icmp .ge 22, 3), (21, .aload_n 0, 1), (22, .getfield 11, 3), (25, .iload_n 1, 1), (26, .new 9, 3), (29, .dup, 1), (30, .invokespecial 15, 3), (33, .aastore, 1), (34, .iinc 1 1, 3), (37, .goto (-22), 3), (40, .aload_n 0, 1), (41, .new 16, 3), (44, .dup, 1), (45, .invokespecial 18, 3), (48, .putfield 19, 3), (51, .aload_n 0, 1), (52, .new 16, 3), (55, .dup, 1), (56, .invokespecial 18, 3), (59, .putfield 23, 3), (62, .aload_n 0, 1), (63, .new 16, 3), (66, .dup, 1), (67, .invokespecial 18, 3), (70, .putfield 26, 3), (73, .aload_n 0, 1), (74, .new 29, 3), (77, .dup, 1), (78, .invokespecial 31, 3), (81, .putfield 32, 3), (84, .aload_n 0, 1), (85, .new 36, 3), (88, .dup, 1), (89, .invokespecial 38, 3), (92, .putfield 39, 3), (95, .aload_n 0, 1), (96, .new 43, 3), (99, .dup, 1), (100, .invokespecial 45, 3), (103, .putfield 46, 3)]
theorem tbX6_init_0_ok : ∀ q ∈ tbX6_init_0, decode cX6_init q.1 = .ok (q.2.1, q.2.2) := by decide +kernel
def tbX6_init_1 : List (Nat × Instr × Nat) := [(106, .aload_n 0, 1), (107, .bipush 8, 2), (109, .newarray .int, 2), (111, .putfield 50, 3), (114, .aload_n 0, 1), (115, .iconst 0, 1), (116, .putfield 54, 3), (119, .aload_n 0, 1), (120, .iconst (-1), 1), (121, .putfield 58, 3), (124, .return_, 1)]
theorem tbX6_init_1_ok : ∀ q ∈ tbX6_init_1, decode cX6_init q.1 = .ok (q.2.1, q.2.2) := by decide +kernel
theorem wN6_16 : Cond.classLink RX6 16 RX4 ∈ zT := zin (i := 51) (by decide +kernel) rfl
theorem sC6_18 : zCI RX6 18 mX4_init 0 := ⟨zin (i := 53) (by decide +kernel) rfl, zin (i := 54) (by decide +kernel) rfl, rfl, rfl, wCX4_init⟩
theorem fF6_19 : zF RX6 19 6 1 := ⟨_, rfl, by decide, zin (i := 213) (by decide +kernel) rfl⟩
theorem fF6_23 : zF RX6 23 6 2 := ⟨_, rfl, by decide, zin (i := 214) (by decide +kernel) rfl⟩
theorem fF6_26 : zF RX6 26 6 3 := ⟨_, rfl, by decide, zin (i := 215) (by decide +kernel) rfl⟩
theorem wN6_29 : Cond.classLink RX6 29 RX2 ∈ zT := zin (i := 139) (by decide +kernel) rfl
theorem wI2 : Cond.instantiable RX2 4 ∈ zT := zin (i := 140) (by decide +kernel) rfl
theorem wZ2 : Cond.initialized RX2 ∈ zT := zin (i := 5) (by decide +kernel) rfl
theorem wCX2_init : zCW mX2_init 0 := ⟨zin (i := 5) (by decide +kernel) rfl, zin (i := 143) (by decide +kernel) rfl, by decide +kernel, by decide +kernel, by decide +kernel⟩
theorem sC6_31 : zCI RX6 31 mX2_init 0 := ⟨zin (i := 141) (by decide +kernel) rfl, zin (i := 142) (by decide +kernel) rfl, rfl, rfl, wCX2_init⟩
theorem fF6_32 : zF RX6 32 6 4 := ⟨_, rfl, by decide, zin (i := 216) (by decide +kernel) rfl⟩
theorem wN6_36 : Cond.classLink RX6 36 RX5 ∈ zT := zin (i := 163) (by decide +kernel) rfl
theorem wI5 : Cond.instantiable RX5 5 ∈ zT := zin (i := 164) (by decide +kernel) rfl
theorem wZ5 : Cond.initialized RX5 ∈ zT := zin (i := 6) (by decide +kernel) rfl
theorem wCX5_init : zCW mX5_init 0 := ⟨zin (i := 6) (by decide +kernel) rfl, zin (i := 167) (by decide +kernel) rfl, by decide +kernel, by decide +kernel, by decide +kernel⟩
theorem sC6_38 : zCI RX6 38 mX5_init 0 := ⟨zin (i := 165) (by decide +kernel) rfl, zin (i := 166) (by decide +kernel) rfl, rfl, rfl, wCX5_init⟩
theorem fF6_39 : zF RX6 39 6 5 := ⟨_, rfl, by decide, zin (i := 217) (by decide +kernel) rfl⟩
theorem wN6_43 : Cond.classLink RX6 43 RX0 ∈ zT := zin (i := 189) (by decide +kernel) rfl
theorem wI0 : Cond.instantiable RX0 5 ∈ zT := zin (i := 190) (by decide +kernel) rfl
theorem wZ0 : Cond.initialized RX0 ∈ zT := zin (i := 7) (by decide +kernel) rfl
theorem wCX0_init : zCW mX0_init 0 := ⟨zin (i := 7) (by decide +kernel) rfl, zin (i := 193) (by decide +kernel) rfl, by decide +kernel, by decide +kernel, by decide +kernel⟩
theorem sC6_45 : zCI RX6 45 mX0_init 0 := ⟨zin (i := 191) (by decide +kernel) rfl, zin (i := 192) (by decide +kernel) rfl, rfl, rfl, wCX0_init⟩
theorem fF6_46 : zF RX6 46 6 6 := ⟨_, rfl, by decide, zin (i := 218) (by decide +kernel) rfl⟩
theorem fF6_50 : zF RX6 50 6 7 := ⟨_, rfl, by decide, zin (i := 219) (by decide +kernel) rfl⟩
theorem fF6_54 : zF RX6 54 6 8 := ⟨_, rfl, by decide, zin (i := 220) (by decide +kernel) rfl⟩
theorem fF6_58 : zF RX6 58 6 9 := ⟨_, rfl, by decide, zin (i := 221) (by decide +kernel) rfl⟩
theorem fF6_11 : zF RX6 11 6 0 := ⟨_, rfl, by decide, zin (i := 212) (by decide +kernel) rfl⟩
theorem wN6_9 : Cond.classLink RX6 9 RX3 ∈ zT := zin (i := 23) (by decide +kernel) rfl
theorem wI3 : Cond.instantiable RX3 5 ∈ zT := zin (i := 25) (by decide +kernel) rfl
theorem wZ3 : Cond.initialized RX3 ∈ zT := zin (i := 2) (by decide +kernel) rfl
theorem wCX3_init : zCW mX3_init 0 := ⟨zin (i := 2) (by decide +kernel) rfl, zin (i := 28) (by decide +kernel) rfl, by decide +kernel, by decide +kernel, by decide +kernel⟩
theorem sC6_15 : zCI RX6 15 mX3_init 0 := ⟨zin (i := 26) (by decide +kernel) rfl, zin (i := 27) (by decide +kernel) rfl, rfl, rfl, wCX3_init⟩
theorem wO6_1 : Cond.methodLink RX6 1 Lib.objectInit ∈ zT := zin (i := 20) (by decide +kernel) rfl
def fX6_init_b15 (n0 : Nat) : Nat → Nat → Nat → Int32 → ZMem → Option (Nat × ZMem)
  | 0, _, _, _, _ => none
  | k + 1, n, v0, v1, μ => (if (8 : Int32) ≤ v1 then chk (nwo n 4) (chk (zrm (n + 1) n0 107 2002) (lt (zmk μ n) (fun μ4 => bd2 (fX4_init (n + 1) n μ4) (fun n8 μ9 => chk (nxt (n + 1) n8 8 42) (chk (zrm n8 n0 107 2002) (lt (zpR μ9 v0 1 n) (fun μ13 => chk (nwo n8 4) (chk (zrm (n8 + 1) n0 107 2002) (lt (zmk μ13 n8) (fun μ17 => bd2 (fX4_init (n8 + 1) n8 μ17) (fun n21 μ22 => chk (nxt (n8 + 1) n21 8 42) (chk (zrm n21 n0 107 2002) (lt (zpR μ22 v0 2 n8) (fun μ26 => chk (nwo n21 4) (chk (zrm (n21 + 1) n0 107 2002) (lt (zmk μ26 n21) (fun μ30 => bd2 (fX4_init (n21 + 1) n21 μ30) (fun n34 μ35 => chk (nxt (n21 + 1) n34 8 42) (chk (zrm n34 n0 107 2002) (lt (zpR μ35 v0 3 n21) (fun μ39 => chk (nwo n34 2) (chk (zrm (n34 + 1) n0 107 2002) (lt (zmk μ39 n34) (fun μ43 => bd2 (fX2_init (n34 + 1) n34 μ43) (fun n47 μ48 => chk (nxt (n34 + 1) n47 48 268) (chk (zrm n47 n0 107 2002) (lt (zpR μ48 v0 4 n34) (fun μ52 => chk (nwo n47 5) (chk (zrm (n47 + 1) n0 107 2002) (lt (zmk μ52 n47) (fun μ56 => bd2 (fX5_init (n47 + 1) n47 μ56) (fun n60 μ61 => chk (nxt (n47 + 1) n60 10 211) (chk (zrm n60 n0 107 2002) (lt (zpR μ61 v0 5 n47) (fun μ65 => chk (nwo n60 0) (chk (zrm (n60 + 1) n0 107 2002) (lt (zmk μ65 n60) (fun μ69 => bd2 (fX0_init (n60 + 1) n60 μ69) (fun n73 μ74 => chk (nxt (n60 + 1) n73 1 20) (chk (zrm n73 n0 107 2002) (lt (zpR μ74 v0 6 n60) (fun μ78 => chk (nwa n73 100 8) (chk (zrm (n73 + 1) n0 107 2002) (lt (zmk μ78 n73) (fun μ82 => lt (zpR μ82 v0 7 n73) (fun μ85 => lt (zpI μ85 v0 8 (0 : Int32)) (fun μ87 => lt (zpI μ87 v0 9 (-1 : Int32)) (fun μ89 => some ((n73 + 1), μ89))))))))))))))))))))))))))))))))))))))))))))))))) else bd1 (zRc n 104 μ v0 0) (fun r91 => chk (nwo n 3) (chk (zrm (n + 1) n0 107 2002) (lt (zmk μ n) (fun μ95 => bd2 (fX3_init (n + 1) n μ95) (fun n99 μ100 => chk (nxt (n + 1) n99 1 160) (chk (zrm n99 n0 107 2002) (chk (inb v1 r91) (lt (zpR μ100 r91 v1.toNatClampNeg n) (fun μ105 => (fX6_init_b15 n0 k n99 v0 (v1 + (1 : Int32)) μ105)))))))))))
theorem tX6_init_b15 {l : Launch} {n0 : Nat} {z : Nat × ZMem} : ∀ (k : Nat) (n : Nat) (v0 : Nat) (v1 : Int32) (μ : ZMem) (c_v0 : isC n 6 v0 = true) (hn0 : n0 ≤ n), fX6_init_b15 n0 k n v0 v1 μ = some z → V (zkC l mX6_init (rmc 5 107 2002) n0 z) true 15 [(0, .ref v0), (1, .int v1)] [] n μ := by
  intro k
  induction k with
  | zero =>
    intro n v0 v1 μ c_v0 hn0 h
    unfold fX6_init_b15 at h
    cases h
  | succ k ih =>
    intro n v0 v1 μ c_v0 hn0 h
    unfold fX6_init_b15 at h
    refine V_iload_n 1 (zdk tbX6_init_0_ok 8 rfl) rfl ?_
    refine V_bipush (v := 8) (zdk tbX6_init_0_ok 9 rfl) rfl ?_
    refine V_icmp_ge (tgt := 40) (zdk tbX6_init_0_ok 10 rfl) (by decide) (fun c1 => ?_) (fun c1 => ?_)
    · replace h := ite_t h c1
      refine V_aload_n 0 (zdk tbX6_init_0_ok 20 rfl) rfl ?_
      obtain ⟨w2, h⟩ := chk_some h
      obtain ⟨w3, h⟩ := chk_some h
      obtain ⟨μ4, e5, h⟩ := lt_some h
      refine V_new (c := 4) (zdk tbX6_init_0_ok 21 rfl) rfl w2 wN6_16 wI4 wZ4 (by decide) (zrm_room w3 rfl rfl rfl) e5 ?_
      replace c_v0 := isC_mono c_v0 (Nat.le_succ n)
      replace hn0 := Nat.le_succ_of_le hn0
      have c6 := isC_new w2
      refine V_dup_r (zdk tbX6_init_0_ok 22 rfl) ?_
      obtain ⟨n8, μ9, q7, h⟩ := bd2_some h
      obtain ⟨w10, h⟩ := chk_some h
      obtain ⟨w11, h⟩ := chk_some h
      refine V_callI (R1 := (rmc 3 8 42)) (As := []) (zdk tbX6_init_0_ok 23 rfl) sC6_18 (tX4_init q7) rfl rfl ⟨Nat.le_of_ble_eq_true rfl, Nat.le_of_ble_eq_true rfl⟩ (Nat.le_of_ble_eq_true rfl) (nxt_of w10) (fun _ => zrm_room w11 rfl rfl rfl) ?_
      have h12 : (n + 1) ≤ n8 := by rw [(nxt_of w10).1]; exact Nat.le_add_right _ _
      replace c_v0 := isC_mono c_v0 h12
      replace c6 := isC_mono c6 h12
      replace hn0 := Nat.le_trans hn0 h12
      obtain ⟨μ13, e14, h⟩ := lt_some h
      refine V_putR (zdk tbX6_init_0_ok 24 rfl) c_v0 fF6_19 rfl (Or.inr ⟨rfl, fun q hq => by cases hq; rfl⟩) rfl (fun _ => rfl) (fun _ => rfl) e14 ?_
      refine V_aload_n 0 (zdk tbX6_init_0_ok 25 rfl) rfl ?_
      obtain ⟨w15, h⟩ := chk_some h
      obtain ⟨w16, h⟩ := chk_some h
      obtain ⟨μ17, e18, h⟩ := lt_some h
      refine V_new (c := 4) (zdk tbX6_init_0_ok 26 rfl) rfl w15 wN6_16 wI4 wZ4 (by decide) (zrm_room w16 rfl rfl rfl) e18 ?_
      replace c_v0 := isC_mono c_v0 (Nat.le_succ n8)
      replace c6 := isC_mono c6 (Nat.le_succ n8)
      replace hn0 := Nat.le_succ_of_le hn0
      have c19 := isC_new w15
      refine V_dup_r (zdk tbX6_init_0_ok 27 rfl) ?_
      obtain ⟨n21, μ22, q20, h⟩ := bd2_some h
      obtain ⟨w23, h⟩ := chk_some h
      obtain ⟨w24, h⟩ := chk_some h
      refine V_callI (R1 := (rmc 3 8 42)) (As := []) (zdk tbX6_init_0_ok 28 rfl) sC6_18 (tX4_init q20) rfl rfl ⟨Nat.le_of_ble_eq_true rfl, Nat.le_of_ble_eq_true rfl⟩ (Nat.le_of_ble_eq_true rfl) (nxt_of w23) (fun _ => zrm_room w24 rfl rfl rfl) ?_
      have h25 : (n8 + 1) ≤ n21 := by rw [(nxt_of w23).1]; exact Nat.le_add_right _ _
      replace c_v0 := isC_mono c_v0 h25
      replace c6 := isC_mono c6 h25
      replace c19 := isC_mono c19 h25
      replace hn0 := Nat.le_trans hn0 h25
      obtain ⟨μ26, e27, h⟩ := lt_some h
      refine V_putR (zdk tbX6_init_0_ok 29 rfl) c_v0 fF6_23 rfl (Or.inr ⟨rfl, fun q hq => by cases hq; rfl⟩) rfl (fun _ => rfl) (fun _ => rfl) e27 ?_
      refine V_aload_n 0 (zdk tbX6_init_0_ok 30 rfl) rfl ?_
      obtain ⟨w28, h⟩ := chk_some h
      obtain ⟨w29, h⟩ := chk_some h
      obtain ⟨μ30, e31, h⟩ := lt_some h
      refine V_new (c := 4) (zdk tbX6_init_0_ok 31 rfl) rfl w28 wN6_16 wI4 wZ4 (by decide) (zrm_room w29 rfl rfl rfl) e31 ?_
      replace c_v0 := isC_mono c_v0 (Nat.le_succ n21)
      replace c6 := isC_mono c6 (Nat.le_succ n21)
      replace c19 := isC_mono c19 (Nat.le_succ n21)
      replace hn0 := Nat.le_succ_of_le hn0
      have c32 := isC_new w28
      refine V_dup_r (zdk tbX6_init_0_ok 32 rfl) ?_
      obtain ⟨n34, μ35, q33, h⟩ := bd2_some h
      obtain ⟨w36, h⟩ := chk_some h
      obtain ⟨w37, h⟩ := chk_some h
      refine V_callI (R1 := (rmc 3 8 42)) (As := []) (zdk tbX6_init_0_ok 33 rfl) sC6_18 (tX4_init q33) rfl rfl ⟨Nat.le_of_ble_eq_true rfl, Nat.le_of_ble_eq_true rfl⟩ (Nat.le_of_ble_eq_true rfl) (nxt_of w36) (fun _ => zrm_room w37 rfl rfl rfl) ?_
      have h38 : (n21 + 1) ≤ n34 := by rw [(nxt_of w36).1]; exact Nat.le_add_right _ _
      replace c_v0 := isC_mono c_v0 h38
      replace c6 := isC_mono c6 h38
      replace c19 := isC_mono c19 h38
      replace c32 := isC_mono c32 h38
      replace hn0 := Nat.le_trans hn0 h38
      obtain ⟨μ39, e40, h⟩ := lt_some h
      refine V_putR (zdk tbX6_init_0_ok 34 rfl) c_v0 fF6_26 rfl (Or.inr ⟨rfl, fun q hq => by cases hq; rfl⟩) rfl (fun _ => rfl) (fun _ => rfl) e40 ?_
      refine V_aload_n 0 (zdk tbX6_init_0_ok 35 rfl) rfl ?_
      obtain ⟨w41, h⟩ := chk_some h
      obtain ⟨w42, h⟩ := chk_some h
      obtain ⟨μ43, e44, h⟩ := lt_some h
      refine V_new (c := 2) (zdk tbX6_init_0_ok 36 rfl) rfl w41 wN6_29 wI2 wZ2 (by decide) (zrm_room w42 rfl rfl rfl) e44 ?_
      replace c_v0 := isC_mono c_v0 (Nat.le_succ n34)
      replace c6 := isC_mono c6 (Nat.le_succ n34)
      replace c19 := isC_mono c19 (Nat.le_succ n34)
      replace c32 := isC_mono c32 (Nat.le_succ n34)
      replace hn0 := Nat.le_succ_of_le hn0
      have c45 := isC_new w41
      refine V_dup_r (zdk tbX6_init_0_ok 37 rfl) ?_
      obtain ⟨n47, μ48, q46, h⟩ := bd2_some h
      obtain ⟨w49, h⟩ := chk_some h
      obtain ⟨w50, h⟩ := chk_some h
      refine V_callI (R1 := (rmc 4 48 268)) (As := []) (zdk tbX6_init_0_ok 38 rfl) sC6_31 (tX2_init q46) rfl rfl ⟨Nat.le_of_ble_eq_true rfl, Nat.le_of_ble_eq_true rfl⟩ (Nat.le_of_ble_eq_true rfl) (nxt_of w49) (fun _ => zrm_room w50 rfl rfl rfl) ?_
      have h51 : (n34 + 1) ≤ n47 := by rw [(nxt_of w49).1]; exact Nat.le_add_right _ _
      replace c_v0 := isC_mono c_v0 h51
      replace c6 := isC_mono c6 h51
      replace c19 := isC_mono c19 h51
      replace c32 := isC_mono c32 h51
      replace c45 := isC_mono c45 h51
      replace hn0 := Nat.le_trans hn0 h51
      obtain ⟨μ52, e53, h⟩ := lt_some h
      refine V_putR (zdk tbX6_init_0_ok 39 rfl) c_v0 fF6_32 rfl (Or.inr ⟨rfl, fun q hq => by cases hq; rfl⟩) rfl (fun _ => rfl) (fun _ => rfl) e53 ?_
      refine V_aload_n 0 (zdk tbX6_init_0_ok 40 rfl) rfl ?_
      obtain ⟨w54, h⟩ := chk_some h
      obtain ⟨w55, h⟩ := chk_some h
      obtain ⟨μ56, e57, h⟩ := lt_some h
      refine V_new (c := 5) (zdk tbX6_init_0_ok 41 rfl) rfl w54 wN6_36 wI5 wZ5 (by decide) (zrm_room w55 rfl rfl rfl) e57 ?_
      replace c_v0 := isC_mono c_v0 (Nat.le_succ n47)
      replace c6 := isC_mono c6 (Nat.le_succ n47)
      replace c19 := isC_mono c19 (Nat.le_succ n47)
      replace c32 := isC_mono c32 (Nat.le_succ n47)
      replace c45 := isC_mono c45 (Nat.le_succ n47)
      replace hn0 := Nat.le_succ_of_le hn0
      have c58 := isC_new w54
      refine V_dup_r (zdk tbX6_init_0_ok 42 rfl) ?_
      obtain ⟨n60, μ61, q59, h⟩ := bd2_some h
      obtain ⟨w62, h⟩ := chk_some h
      obtain ⟨w63, h⟩ := chk_some h
      refine V_callI (R1 := (rmc 4 10 211)) (As := []) (zdk tbX6_init_0_ok 43 rfl) sC6_38 (tX5_init q59) rfl rfl ⟨Nat.le_of_ble_eq_true rfl, Nat.le_of_ble_eq_true rfl⟩ (Nat.le_of_ble_eq_true rfl) (nxt_of w62) (fun _ => zrm_room w63 rfl rfl rfl) ?_
      have h64 : (n47 + 1) ≤ n60 := by rw [(nxt_of w62).1]; exact Nat.le_add_right _ _
      replace c_v0 := isC_mono c_v0 h64
      replace c6 := isC_mono c6 h64
      replace c19 := isC_mono c19 h64
      replace c32 := isC_mono c32 h64
      replace c45 := isC_mono c45 h64
      replace c58 := isC_mono c58 h64
      replace hn0 := Nat.le_trans hn0 h64
      obtain ⟨μ65, e66, h⟩ := lt_some h
      refine V_putR (zdk tbX6_init_0_ok 44 rfl) c_v0 fF6_39 rfl (Or.inr ⟨rfl, fun q hq => by cases hq; rfl⟩) rfl (fun _ => rfl) (fun _ => rfl) e66 ?_
      refine V_aload_n 0 (zdk tbX6_init_0_ok 45 rfl) rfl ?_
      obtain ⟨w67, h⟩ := chk_some h
      obtain ⟨w68, h⟩ := chk_some h
      obtain ⟨μ69, e70, h⟩ := lt_some h
      refine V_new (c := 0) (zdk tbX6_init_0_ok 46 rfl) rfl w67 wN6_43 wI0 wZ0 (by decide) (zrm_room w68 rfl rfl rfl) e70 ?_
      replace c_v0 := isC_mono c_v0 (Nat.le_succ n60)
      replace c6 := isC_mono c6 (Nat.le_succ n60)
      replace c19 := isC_mono c19 (Nat.le_succ n60)
      replace c32 := isC_mono c32 (Nat.le_succ n60)
      replace c45 := isC_mono c45 (Nat.le_succ n60)
      replace c58 := isC_mono c58 (Nat.le_succ n60)
      replace hn0 := Nat.le_succ_of_le hn0
      have c71 := isC_new w67
      refine V_dup_r (zdk tbX6_init_0_ok 47 rfl) ?_
      obtain ⟨n73, μ74, q72, h⟩ := bd2_some h
      obtain ⟨w75, h⟩ := chk_some h
      obtain ⟨w76, h⟩ := chk_some h
      refine V_callI (R1 := (rmc 1 1 20)) (As := []) (zdk tbX6_init_0_ok 48 rfl) sC6_45 (tX0_init q72) rfl rfl ⟨Nat.le_of_ble_eq_true rfl, Nat.le_of_ble_eq_true rfl⟩ (Nat.le_of_ble_eq_true rfl) (nxt_of w75) (fun _ => zrm_room w76 rfl rfl rfl) ?_
      have h77 : (n60 + 1) ≤ n73 := by rw [(nxt_of w75).1]; exact Nat.le_add_right _ _
      replace c_v0 := isC_mono c_v0 h77
      replace c6 := isC_mono c6 h77
      replace c19 := isC_mono c19 h77
      replace c32 := isC_mono c32 h77
      replace c45 := isC_mono c45 h77
      replace c58 := isC_mono c58 h77
      replace c71 := isC_mono c71 h77
      replace hn0 := Nat.le_trans hn0 h77
      obtain ⟨μ78, e79, h⟩ := lt_some h
      refine V_putR (zdk tbX6_init_0_ok 49 rfl) c_v0 fF6_46 rfl (Or.inr ⟨rfl, fun q hq => by cases hq; rfl⟩) rfl (fun _ => rfl) (fun _ => rfl) e79 ?_
      refine V_aload_n 0 (zdk tbX6_init_1_ok 0 rfl) rfl ?_
      refine V_bipush (v := 8) (zdk tbX6_init_1_ok 1 rfl) rfl ?_
      obtain ⟨w80, h⟩ := chk_some h
      obtain ⟨w81, h⟩ := chk_some h
      obtain ⟨μ82, e83, h⟩ := lt_some h
      refine V_newi (zdk tbX6_init_1_ok 2 rfl) rfl (by decide) w80 wA100 (zrm_room w81 rfl rfl rfl) e83 ?_
      replace c_v0 := isC_mono c_v0 (Nat.le_succ n73)
      replace c6 := isC_mono c6 (Nat.le_succ n73)
      replace c19 := isC_mono c19 (Nat.le_succ n73)
      replace c32 := isC_mono c32 (Nat.le_succ n73)
      replace c45 := isC_mono c45 (Nat.le_succ n73)
      replace c58 := isC_mono c58 (Nat.le_succ n73)
      replace c71 := isC_mono c71 (Nat.le_succ n73)
      replace hn0 := Nat.le_succ_of_le hn0
      have c84 := isC_newa w80
      obtain ⟨μ85, e86, h⟩ := lt_some h
      refine V_putR (zdk tbX6_init_1_ok 3 rfl) c_v0 fF6_50 rfl (Or.inr ⟨rfl, fun q hq => by cases hq; rfl⟩) rfl (fun _ => rfl) (fun _ => rfl) e86 ?_
      refine V_aload_n 0 (zdk tbX6_init_1_ok 4 rfl) rfl ?_
      refine V_iconst (v := 0) (zdk tbX6_init_1_ok 5 rfl) rfl ?_
      obtain ⟨μ87, e88, h⟩ := lt_some h
      refine V_putZ (zdk tbX6_init_1_ok 6 rfl) c_v0 fF6_54 rfl rfl rfl (by decide) (by decide) e88 ?_
      refine V_aload_n 0 (zdk tbX6_init_1_ok 7 rfl) rfl ?_
      refine V_iconst (v := (-1)) (zdk tbX6_init_1_ok 8 rfl) rfl ?_
      obtain ⟨μ89, e90, h⟩ := lt_some h
      refine V_putI (zdk tbX6_init_1_ok 9 rfl) c_v0 fF6_58 rfl rfl rfl e90 ?_
      cases h
      exact V_vret (zdk tbX6_init_1_ok 10 rfl) rfl rfl
    · replace h := ite_f h c1
      refine V_aload_n 0 (zdk tbX6_init_0_ok 11 rfl) rfl ?_
      obtain ⟨r91, q92, h⟩ := bd1_some h
      obtain ⟨q92, c_r91⟩ := zRc_some q92
      refine V_getR (zdk tbX6_init_0_ok 12 rfl) c_v0 fF6_11 rfl q92 ?_
      refine V_iload_n 1 (zdk tbX6_init_0_ok 13 rfl) rfl ?_
      obtain ⟨w93, h⟩ := chk_some h
      obtain ⟨w94, h⟩ := chk_some h
      obtain ⟨μ95, e96, h⟩ := lt_some h
      refine V_new (c := 3) (zdk tbX6_init_0_ok 14 rfl) rfl w93 wN6_9 wI3 wZ3 (by decide) (zrm_room w94 rfl rfl rfl) e96 ?_
      replace c_v0 := isC_mono c_v0 (Nat.le_succ n)
      replace c_r91 := isC_mono c_r91 (Nat.le_succ n)
      replace hn0 := Nat.le_succ_of_le hn0
      have c97 := isC_new w93
      refine V_dup_r (zdk tbX6_init_0_ok 15 rfl) ?_
      obtain ⟨n99, μ100, q98, h⟩ := bd2_some h
      obtain ⟨w101, h⟩ := chk_some h
      obtain ⟨w102, h⟩ := chk_some h
      refine V_callI (R1 := (rmc 1 1 160)) (As := []) (zdk tbX6_init_0_ok 16 rfl) sC6_15 (tX3_init q98) rfl rfl ⟨Nat.le_of_ble_eq_true rfl, Nat.le_of_ble_eq_true rfl⟩ (Nat.le_of_ble_eq_true rfl) (nxt_of w101) (fun _ => zrm_room w102 rfl rfl rfl) ?_
      have h103 : (n + 1) ≤ n99 := by rw [(nxt_of w101).1]; exact Nat.le_add_right _ _
      replace c_v0 := isC_mono c_v0 h103
      replace c_r91 := isC_mono c_r91 h103
      replace c97 := isC_mono c97 h103
      replace hn0 := Nat.le_trans hn0 h103
      obtain ⟨b104, h⟩ := chk_some h
      obtain ⟨μ105, e106, h⟩ := lt_some h
      refine V_aast (t := 4) (by decide) (zdk tbX6_init_0_ok 17 rfl) c_r91 b104 c97 rfl (fun _ => rfl) e106 ?_
      refine V_inc (dx := 1) (ls' := [(0, .ref v0), (1, .int (v1 + (1 : Int32)))]) 1 [1, 0] (zdk tbX6_init_0_ok 18 rfl) rfl (Nat.le_of_ble_eq_true rfl) rfl rfl ?_
      refine V_goto (tgt := 15) (zdk tbX6_init_0_ok 19 rfl) (by decide) ?_
      exact ih n99 v0 (v1 + (1 : Int32)) μ105 c_v0 hn0 h
def fX6_init (n0 : Nat) (v0 : Nat) (μ : ZMem) : Option (Nat × ZMem) := chk (isC n0 6 v0) (chk (nwa n0 104 8) (chk (zrm (n0 + 1) n0 107 2002) (lt (zmk μ n0) (fun μ3 => lt (zpR μ3 v0 0 n0) (fun μ6 => (fX6_init_b15 n0 FU (n0 + 1) v0 (0 : Int32) μ6))))))
theorem tX6_init {l : Launch} {n0 : Nat} {v0 : Nat} {μ : ZMem} {z : Nat × ZMem} (h : fX6_init n0 v0 μ = some z) : ZFn l mX6_init (rmc 5 107 2002) [.ref v0] true n0 μ (true, z.1, z.2, none) := by
  unfold fX6_init at h
  have hn0 : n0 ≤ n0 := Nat.le_refl n0
  obtain ⟨c_v0, h⟩ := chk_some h
  refine ZFn.of (ls := [(0, .ref v0)]) (by decide) (fun ξ => Nat.le_of_ble_eq_true rfl) (fun ξ => rfl) ?_
  refine V_aload_n 0 (zdk tbX6_init_0_ok 0 rfl) rfl ?_
  refine V_obj (zdk tbX6_init_0_ok 1 rfl) wO6_1 wOi wOc ⟨Nat.le_of_ble_eq_true rfl, Nat.le_of_ble_eq_true rfl⟩ (Nat.le_of_ble_eq_true rfl) ?_
  refine V_aload_n 0 (zdk tbX6_init_0_ok 2 rfl) rfl ?_
  refine V_bipush (v := 8) (zdk tbX6_init_0_ok 3 rfl) rfl ?_
  obtain ⟨w1, h⟩ := chk_some h
  obtain ⟨w2, h⟩ := chk_some h
  obtain ⟨μ3, e4, h⟩ := lt_some h
  refine V_newr 4 (by decide) (fun _ => rfl) (fun ξ U h => h.2.1.2.2) (zdk tbX6_init_0_ok 4 rfl) rfl (by decide) w1 wN6_9 (zrm_room w2 rfl rfl rfl) e4 ?_
  replace c_v0 := isC_mono c_v0 (Nat.le_succ n0)
  replace hn0 := Nat.le_succ_of_le hn0
  have c5 := isC_newa w1
  obtain ⟨μ6, e7, h⟩ := lt_some h
  refine V_putR (zdk tbX6_init_0_ok 5 rfl) c_v0 fF6_11 rfl (Or.inr ⟨rfl, fun q hq => by cases hq; rfl⟩) rfl (fun _ => rfl) (fun _ => rfl) e7 ?_
  refine V_iconst (v := 0) (zdk tbX6_init_0_ok 6 rfl) rfl ?_
  refine V_istore_n (ls' := [(0, .ref v0), (1, .int (0 : Int32))]) [1, 0] (zdk tbX6_init_0_ok 7 rfl) (Nat.le_of_ble_eq_true rfl) rfl ?_
  exact tX6_init_b15 FU (n0 + 1) v0 (0 : Int32) μ6 c_v0 hn0 h

-- WhoComplainsCarries.isShelf
def tbX6_isShelf_0 : List (Nat × Instr × Nat) := [(0, .iload_n 0, 1), (1, .iconst 0, 1), (2, .bipush 7, 2), (4, .invokestatic 153, 3), (7, .ireturn, 1)]
theorem tbX6_isShelf_0_ok : ∀ q ∈ tbX6_isShelf_0, decode cX6_isShelf q.1 = .ok (q.2.1, q.2.2) := by decide +kernel
def fX6_isShelf (n : Nat) (v0 : Int32) (μ : ZMem) : Option (ZMem × Int32) := bd2 (fX6_isIn n v0 (0 : Int32) (7 : Int32) μ) (fun μ2 r3 => chk (b01 r3) (some (μ2, r3)))
theorem tX6_isShelf {l : Launch} {fr : Bool} {n : Nat} {v0 : Int32} {μ : ZMem} {z : ZMem × Int32} (h : fX6_isShelf n v0 μ = some z) : ZFn l mX6_isShelf (rmd 2) [.int v0] fr n μ (fr, n, z.1, some (.int z.2)) := by
  unfold fX6_isShelf at h
  refine ZFn.of (ls := [(0, .int v0)]) (by decide) (fun ξ => Nat.le_of_ble_eq_true rfl) (fun ξ => rfl) ?_
  refine V_iload_n 0 (zdk tbX6_isShelf_0_ok 0 rfl) rfl ?_
  refine V_iconst (v := 0) (zdk tbX6_isShelf_0_ok 1 rfl) rfl ?_
  refine V_bipush (v := 7) (zdk tbX6_isShelf_0_ok 2 rfl) rfl ?_
  obtain ⟨μ2, r3, q1, h⟩ := bd2_some h
  refine V_callS (R1 := (rmd 1)) (As := [.int v0, .int (0 : Int32), .int (7 : Int32)]) (r := (some (.int r3))) (zdk tbX6_isShelf_0_ok 3 rfl) sC6_153 (tX6_isIn q1) rfl rfl ⟨Nat.le_of_ble_eq_true rfl, Nat.le_of_ble_eq_true rfl⟩ (Nat.le_of_ble_eq_true rfl) ⟨rfl, rfl⟩ id ?_
  obtain ⟨b4, h⟩ := chk_some h
  cases h
  exact V_zret (zdk tbX6_isShelf_0_ok 4 rfl) rfl (b01_n b4) rfl

-- WhoComplainsCarries.refuse
def tbX6_refuse_0 : List (Nat × Instr × Nat) := [(0, .iload_n 1, 1), (1, .ineg, 1), (2, .iconst 1, 1), (3, .bipush 7, 2), (5, .invokestatic 153, 3), (8, .ifCond .eq 14, 3), (11, .aload_n 0, 1), (12, .getfield 50, 3), (15, .iload_n 1, 1), (16, .ineg, 1), (17, .dup2, 1), (18, .iaload, 1), (19, .iconst 1, 1), (20, .iadd, 1), (21, .iastore, 1), (22, .iload_n 1, 1), (23, .ireturn, 1)]
theorem tbX6_refuse_0_ok : ∀ q ∈ tbX6_refuse_0, decode cX6_refuse q.1 = .ok (q.2.1, q.2.2) := by decide +kernel
def fX6_refuse_b22 (n : Nat) (v1 : Int32) (μ : ZMem) : Option (ZMem × Int32) := some (μ, v1)
theorem tX6_refuse_b22 {l : Launch} {fr : Bool} {n : Nat} {z : ZMem × Int32} (v1 : Int32) (μ : ZMem) (h : fX6_refuse_b22 n v1 μ = some z) : V (zkI l mX6_refuse (rmd 2) fr n z) fr 22 [(1, .int v1)] [] n μ := by
  unfold fX6_refuse_b22 at h
  refine V_iload_n 0 (zdk tbX6_refuse_0_ok 15 rfl) rfl ?_
  cases h
  exact V_iret (zdk tbX6_refuse_0_ok 16 rfl) rfl rfl
def fX6_refuse (n : Nat) (v0 : Nat) (v1 : Int32) (μ : ZMem) : Option (ZMem × Int32) := chk (isC n 6 v0) (bd2 (fX6_isIn n (-v1) (1 : Int32) (7 : Int32) μ) (fun μ2 r3 => (if r3 = 0 then (fX6_refuse_b22 n v1 μ2) else bd1 (zRc n 100 μ2 v0 7) (fun r5 => chk (inb (-v1) r5) (chk (inb (-v1) r5) (lt (zpI μ2 r5 (-v1).toNatClampNeg ((zI μ2 r5 (-v1).toNatClampNeg) + (1 : Int32))) (fun μ9 => (fX6_refuse_b22 n v1 μ9))))))))
theorem tX6_refuse {l : Launch} {fr : Bool} {n : Nat} {v0 : Nat} {v1 : Int32} {μ : ZMem} {z : ZMem × Int32} (h : fX6_refuse n v0 v1 μ = some z) : ZFn l mX6_refuse (rmd 2) [.ref v0, .int v1] fr n μ (fr, n, z.1, some (.int z.2)) := by
  unfold fX6_refuse at h
  obtain ⟨c_v0, h⟩ := chk_some h
  refine ZFn.of (ls := [(0, .ref v0), (1, .int v1)]) (by decide) (fun ξ => Nat.le_of_ble_eq_true rfl) (fun ξ => rfl) ?_
  refine V_iload_n 1 (zdk tbX6_refuse_0_ok 0 rfl) rfl ?_
  refine V_ineg (zdk tbX6_refuse_0_ok 1 rfl) ?_
  refine V_iconst (v := 1) (zdk tbX6_refuse_0_ok 2 rfl) rfl ?_
  refine V_bipush (v := 7) (zdk tbX6_refuse_0_ok 3 rfl) rfl ?_
  obtain ⟨μ2, r3, q1, h⟩ := bd2_some h
  refine V_callS (R1 := (rmd 1)) (As := [.int (-v1), .int (1 : Int32), .int (7 : Int32)]) (r := (some (.int r3))) (zdk tbX6_refuse_0_ok 4 rfl) sC6_153 (tX6_isIn q1) rfl rfl ⟨Nat.le_of_ble_eq_true rfl, Nat.le_of_ble_eq_true rfl⟩ (Nat.le_of_ble_eq_true rfl) ⟨rfl, rfl⟩ id ?_
  refine V_if_eq (tgt := 22) (zdk tbX6_refuse_0_ok 5 rfl) (by decide) (fun c4 => ?_) (fun c4 => ?_)
  · replace h := ite_t h c4
    refine V_sub (ls' := [(1, .int v1)]) [1] rfl ?_
    exact tX6_refuse_b22 v1 μ2  h
  · replace h := ite_f h c4
    refine V_aload_n 0 (zdk tbX6_refuse_0_ok 6 rfl) rfl ?_
    obtain ⟨r5, q6, h⟩ := bd1_some h
    obtain ⟨q6, c_r5⟩ := zRc_some q6
    refine V_getR (zdk tbX6_refuse_0_ok 7 rfl) c_v0 fF6_50 rfl q6 ?_
    refine V_iload_n 1 (zdk tbX6_refuse_0_ok 8 rfl) rfl ?_
    refine V_ineg (zdk tbX6_refuse_0_ok 9 rfl) ?_
    refine V_dup2 (zdk tbX6_refuse_0_ok 10 rfl) ?_
    obtain ⟨b7, h⟩ := chk_some h
    refine V_iald (zdk tbX6_refuse_0_ok 11 rfl) c_r5 b7 ?_
    refine V_iconst (v := 1) (zdk tbX6_refuse_0_ok 12 rfl) rfl ?_
    refine V_iadd (zdk tbX6_refuse_0_ok 13 rfl) ?_
    obtain ⟨b8, h⟩ := chk_some h
    obtain ⟨μ9, e10, h⟩ := lt_some h
    refine V_iast (zdk tbX6_refuse_0_ok 14 rfl) c_r5 b8 e10 ?_
    refine V_sub (ls' := [(1, .int v1)]) [1] rfl ?_
    exact tX6_refuse_b22 v1 μ9  h

-- WhoComplainsCarries.row
def tbX6_row_0 : List (Nat × Instr × Nat) := [(0, .iload_n 1, 1), (1, .invokestatic 62, 3), (4, .ifCond .ne 9, 3), (7, .aload_n 0, 1), (8, .iconst (-1), 1), (9, .invokevirtual 66, 3), (12, .ireturn, 1), (13, .iload_n 3, 1), (14, .ifCond .ge 10, 3), (17, .aload_n 0, 1), (18, .bipush (-4), 2), (20, .invokevirtual 66, 3), (23, .ireturn, 1), (24, .iload_n 2, 1), (25, .ifCond .lt 8, 3), (28, .iload_n 2, 1), (29, .iconst 3, 1), (30, .if_icmp .le 10, 3), (33, .aload_n 0, 1), (34, .bipush (-6), 2), (36, .invokevirtual 66, 3), (39, .ireturn, 1), (40, .iload_n 3, 1), (41, .sipush 160, 3), (44, .if_icmp .le 10, 3), (47, .aload_n 0, 1), (48, .bipush (-7), 2), (50, .invokevirtual 66, 3), (53, .ireturn, 1), (54, .aload_n 0, 1), (55, .getfield 11, 3), (58, .iload_n 1, 1), (59, .aaload, 1), (60, .iload_n 2, 1), (61, .iload_n 3, 1), (62, .invokevirtual 70, 3), (65, .iconst 1, 1), (66, .ireturn, 1)]
theorem tbX6_row_0_ok : ∀ q ∈ tbX6_row_0, decode cX6_row q.1 = .ok (q.2.1, q.2.2) := by decide +kernel
theorem wCX6_refuse : zCW mX6_refuse 1 := ⟨zin (i := 1) (by decide +kernel) rfl, zin (i := 256) (by decide +kernel) rfl, by decide +kernel, by decide +kernel, by decide +kernel⟩
theorem sC6_66 : zCV RX6 66 mX6_refuse 1 := ⟨zin (i := 253) (by decide +kernel) rfl, zin (i := 255) (by decide +kernel) rfl, zinP (i := 0) (q := (yX6_refuse, 10)) (by decide +kernel) rfl, wCX6_refuse⟩
theorem wCX6_isShelf : zCW mX6_isShelf 1 := ⟨zin (i := 1) (by decide +kernel) rfl, zin (i := 249) (by decide +kernel) rfl, by decide +kernel, by decide +kernel, by decide +kernel⟩
theorem sC6_62 : zCS RX6 62 mX6_isShelf 1 := ⟨zin (i := 247) (by decide +kernel) rfl, zin (i := 248) (by decide +kernel) rfl, wCX6_isShelf⟩
theorem wCX3_holdRow : zCW mX3_holdRow 2 := ⟨zin (i := 2) (by decide +kernel) rfl, zin (i := 260) (by decide +kernel) rfl, by decide +kernel, by decide +kernel, by decide +kernel⟩
theorem sC6_70 : zCV RX6 70 mX3_holdRow 2 := ⟨zin (i := 257) (by decide +kernel) rfl, zin (i := 258) (by decide +kernel) rfl, zin (i := 259) (by decide +kernel) rfl, wCX3_holdRow⟩
def fX6_row_b33 (n : Nat) (v0 : Nat) (μ : ZMem) : Option (ZMem × Int32) := bd2 (fX6_refuse n v0 (-6 : Int32) μ) (fun μ2 r3 => some (μ2, r3))
theorem tX6_row_b33 {l : Launch} {fr : Bool} {n : Nat} {z : ZMem × Int32} (v0 : Nat) (μ : ZMem) (c_v0 : isC n 6 v0 = true) (h : fX6_row_b33 n v0 μ = some z) : V (zkI l mX6_row (rmd 3) fr n z) fr 33 [(0, .ref v0)] [] n μ := by
  unfold fX6_row_b33 at h
  refine V_aload_n 0 (zdk tbX6_row_0_ok 18 rfl) rfl ?_
  refine V_bipush (v := (-6)) (zdk tbX6_row_0_ok 19 rfl) rfl ?_
  obtain ⟨μ2, r3, q1, h⟩ := bd2_some h
  refine V_callV (R1 := (rmd 2)) (As := [.int (-6 : Int32)]) (r := (some (.int r3))) (zdk tbX6_row_0_ok 20 rfl) sC6_66 (tX6_refuse q1) (c_v0) rfl rfl rfl ⟨Nat.le_of_ble_eq_true rfl, Nat.le_of_ble_eq_true rfl⟩ (Nat.le_of_ble_eq_true rfl) ⟨rfl, rfl⟩ id ?_
  cases h
  exact V_iret (zdk tbX6_row_0_ok 21 rfl) rfl rfl
def fX6_row (n : Nat) (v0 : Nat) (v1 : Int32) (v2 : Int32) (v3 : Int32) (μ : ZMem) : Option (ZMem × Int32) := chk (isC n 6 v0) (bd2 (fX6_isShelf n v1 μ) (fun μ2 r3 => (if r3 = 0 then bd2 (fX6_refuse n v0 (-1 : Int32) μ2) (fun μ23 r24 => some (μ23, r24)) else (if 0 ≤ v3 then (if v2 < 0 then (fX6_row_b33 n v0 μ2) else (if v2 ≤ (3 : Int32) then (if v3 ≤ (160 : Int32) then bd1 (zRc n 104 μ2 v0 0) (fun r9 => chk (inb v1 r9) (bd1 (zRc n 3 μ2 r9 v1.toNatClampNeg) (fun r12 => bd1 (fX3_holdRow n r12 v2 v3 μ2) (fun μ15 => some (μ15, (1 : Int32)))))) else bd2 (fX6_refuse n v0 (-7 : Int32) μ2) (fun μ17 r18 => some (μ17, r18))) else (fX6_row_b33 n v0 μ2))) else bd2 (fX6_refuse n v0 (-4 : Int32) μ2) (fun μ20 r21 => some (μ20, r21))))))
theorem tX6_row {l : Launch} {fr : Bool} {n : Nat} {v0 : Nat} {v1 : Int32} {v2 : Int32} {v3 : Int32} {μ : ZMem} {z : ZMem × Int32} (h : fX6_row n v0 v1 v2 v3 μ = some z) : ZFn l mX6_row (rmd 3) [.ref v0, .int v1, .int v2, .int v3] fr n μ (fr, n, z.1, some (.int z.2)) := by
  unfold fX6_row at h
  obtain ⟨c_v0, h⟩ := chk_some h
  refine ZFn.of (ls := [(0, .ref v0), (1, .int v1), (2, .int v2), (3, .int v3)]) (by decide) (fun ξ => Nat.le_of_ble_eq_true rfl) (fun ξ => rfl) ?_
  refine V_iload_n 1 (zdk tbX6_row_0_ok 0 rfl) rfl ?_
  obtain ⟨μ2, r3, q1, h⟩ := bd2_some h
  refine V_callS (R1 := (rmd 2)) (As := [.int v1]) (r := (some (.int r3))) (zdk tbX6_row_0_ok 1 rfl) sC6_62 (tX6_isShelf q1) rfl rfl ⟨Nat.le_of_ble_eq_true rfl, Nat.le_of_ble_eq_true rfl⟩ (Nat.le_of_ble_eq_true rfl) ⟨rfl, rfl⟩ id ?_
  refine V_if_ne (tgt := 13) (zdk tbX6_row_0_ok 2 rfl) (by decide) (fun c4 => ?_) (fun c4 => ?_)
  · replace h := ite_f h c4
    refine V_iload_n 3 (zdk tbX6_row_0_ok 7 rfl) rfl ?_
    refine V_if_ge (tgt := 24) (zdk tbX6_row_0_ok 8 rfl) (by decide) (fun c5 => ?_) (fun c5 => ?_)
    · replace h := ite_t h c5
      refine V_iload_n 2 (zdk tbX6_row_0_ok 13 rfl) rfl ?_
      refine V_if_lt (tgt := 33) (zdk tbX6_row_0_ok 14 rfl) (by decide) (fun c6 => ?_) (fun c6 => ?_)
      · replace h := ite_t h c6
        refine V_sub (ls' := [(0, .ref v0)]) [0] rfl ?_
        exact tX6_row_b33 v0 μ2 c_v0 h
      · replace h := ite_f h c6
        refine V_iload_n 2 (zdk tbX6_row_0_ok 15 rfl) rfl ?_
        refine V_iconst (v := 3) (zdk tbX6_row_0_ok 16 rfl) rfl ?_
        refine V_icmp_le (tgt := 40) (zdk tbX6_row_0_ok 17 rfl) (by decide) (fun c7 => ?_) (fun c7 => ?_)
        · replace h := ite_t h c7
          refine V_iload_n 3 (zdk tbX6_row_0_ok 22 rfl) rfl ?_
          refine V_sipush (v := 160) (zdk tbX6_row_0_ok 23 rfl) rfl ?_
          refine V_icmp_le (tgt := 54) (zdk tbX6_row_0_ok 24 rfl) (by decide) (fun c8 => ?_) (fun c8 => ?_)
          · replace h := ite_t h c8
            refine V_aload_n 0 (zdk tbX6_row_0_ok 29 rfl) rfl ?_
            obtain ⟨r9, q10, h⟩ := bd1_some h
            obtain ⟨q10, c_r9⟩ := zRc_some q10
            refine V_getR (zdk tbX6_row_0_ok 30 rfl) c_v0 fF6_11 rfl q10 ?_
            refine V_iload_n 1 (zdk tbX6_row_0_ok 31 rfl) rfl ?_
            obtain ⟨b11, h⟩ := chk_some h
            obtain ⟨r12, q13, h⟩ := bd1_some h
            obtain ⟨q13, c_r12⟩ := zRc_some q13
            refine V_aald4 (zdk tbX6_row_0_ok 32 rfl) c_r9 b11 q13 ?_
            refine V_iload_n 2 (zdk tbX6_row_0_ok 33 rfl) rfl ?_
            refine V_iload_n 3 (zdk tbX6_row_0_ok 34 rfl) rfl ?_
            obtain ⟨μ15, q14, h⟩ := bd1_some h
            refine V_callV (R1 := (rmd 1)) (As := [.int v2, .int v3]) (r := none) (zdk tbX6_row_0_ok 35 rfl) sC6_70 (tX3_holdRow q14) (c_r12) rfl rfl rfl ⟨Nat.le_of_ble_eq_true rfl, Nat.le_of_ble_eq_true rfl⟩ (Nat.le_of_ble_eq_true rfl) ⟨rfl, rfl⟩ id ?_
            refine V_iconst (v := 1) (zdk tbX6_row_0_ok 36 rfl) rfl ?_
            cases h
            exact V_iret (zdk tbX6_row_0_ok 37 rfl) rfl rfl
          · replace h := ite_f h c8
            refine V_aload_n 0 (zdk tbX6_row_0_ok 25 rfl) rfl ?_
            refine V_bipush (v := (-7)) (zdk tbX6_row_0_ok 26 rfl) rfl ?_
            obtain ⟨μ17, r18, q16, h⟩ := bd2_some h
            refine V_callV (R1 := (rmd 2)) (As := [.int (-7 : Int32)]) (r := (some (.int r18))) (zdk tbX6_row_0_ok 27 rfl) sC6_66 (tX6_refuse q16) (c_v0) rfl rfl rfl ⟨Nat.le_of_ble_eq_true rfl, Nat.le_of_ble_eq_true rfl⟩ (Nat.le_of_ble_eq_true rfl) ⟨rfl, rfl⟩ id ?_
            cases h
            exact V_iret (zdk tbX6_row_0_ok 28 rfl) rfl rfl
        · replace h := ite_f h c7
          refine V_sub (ls' := [(0, .ref v0)]) [0] rfl ?_
          exact tX6_row_b33 v0 μ2 c_v0 h
    · replace h := ite_f h c5
      refine V_aload_n 0 (zdk tbX6_row_0_ok 9 rfl) rfl ?_
      refine V_bipush (v := (-4)) (zdk tbX6_row_0_ok 10 rfl) rfl ?_
      obtain ⟨μ20, r21, q19, h⟩ := bd2_some h
      refine V_callV (R1 := (rmd 2)) (As := [.int (-4 : Int32)]) (r := (some (.int r21))) (zdk tbX6_row_0_ok 11 rfl) sC6_66 (tX6_refuse q19) (c_v0) rfl rfl rfl ⟨Nat.le_of_ble_eq_true rfl, Nat.le_of_ble_eq_true rfl⟩ (Nat.le_of_ble_eq_true rfl) ⟨rfl, rfl⟩ id ?_
      cases h
      exact V_iret (zdk tbX6_row_0_ok 12 rfl) rfl rfl
  · replace h := ite_t h c4
    refine V_aload_n 0 (zdk tbX6_row_0_ok 3 rfl) rfl ?_
    refine V_iconst (v := (-1)) (zdk tbX6_row_0_ok 4 rfl) rfl ?_
    obtain ⟨μ23, r24, q22, h⟩ := bd2_some h
    refine V_callV (R1 := (rmd 2)) (As := [.int (-1 : Int32)]) (r := (some (.int r24))) (zdk tbX6_row_0_ok 5 rfl) sC6_66 (tX6_refuse q22) (c_v0) rfl rfl rfl ⟨Nat.le_of_ble_eq_true rfl, Nat.le_of_ble_eq_true rfl⟩ (Nat.le_of_ble_eq_true rfl) ⟨rfl, rfl⟩ id ?_
    cases h
    exact V_iret (zdk tbX6_row_0_ok 6 rfl) rfl rfl

-- WhoComplainsCarries.rowRefusal
def tbX6_rowRefusal_0 : List (Nat × Instr × Nat) := [(0, .iload_n 1, 1), (1, .invokestatic 62, 3), (4, .ifCond .ne 5, 3), (7, .iconst (-1), 1), (8, .ireturn, 1), (9, .aload_n 0, 1), (10, .getfield 11, 3), (13, .iload_n 1, 1), (14, .aaload, 1), (15, .invokevirtual 113, 3), (18, .ifCond .eq 6, 3), (21, .bipush (-2), 2), (23, .ireturn, 1), (24, .aload_n 0, 1), (25, .getfield 11, 3), (28, .iload_n 1, 1), (29, .aaload, 1), (30, .invokevirtual 106, 3), (33, .ifCond .eq 7, 3), (36, .iconst 0, 1), (37, .goto 5, 3), (40, .bipush (-3), 2), (42, .ireturn, 1)]
theorem tbX6_rowRefusal_0_ok : ∀ q ∈ tbX6_rowRefusal_0, decode cX6_rowRefusal q.1 = .ok (q.2.1, q.2.2) := by decide +kernel
theorem wCX3_isPerson : zCW mX3_isPerson 0 := ⟨zin (i := 2) (by decide +kernel) rfl, zin (i := 278) (by decide +kernel) rfl, by decide +kernel, by decide +kernel, by decide +kernel⟩
theorem sC6_113 : zCV RX6 113 mX3_isPerson 0 := ⟨zin (i := 275) (by decide +kernel) rfl, zin (i := 276) (by decide +kernel) rfl, zin (i := 277) (by decide +kernel) rfl, wCX3_isPerson⟩
theorem sC6_106 : zCV RX6 106 mX3_isRow 0 := ⟨zin (i := 279) (by decide +kernel) rfl, zin (i := 280) (by decide +kernel) rfl, zin (i := 281) (by decide +kernel) rfl, wCX3_isRow⟩
def fX6_rowRefusal_b42 (n : Nat) (s0 : Int32) (μ : ZMem) : Option (ZMem × Int32) := some (μ, s0)
theorem tX6_rowRefusal_b42 {l : Launch} {fr : Bool} {n : Nat} {z : ZMem × Int32} (s0 : Int32) (μ : ZMem) (h : fX6_rowRefusal_b42 n s0 μ = some z) : V (zkI l mX6_rowRefusal (rmd 3) fr n z) fr 42 [] [.int s0] n μ := by
  unfold fX6_rowRefusal_b42 at h
  cases h
  exact V_iret (zdk tbX6_rowRefusal_0_ok 22 rfl) rfl rfl
def fX6_rowRefusal (n : Nat) (v0 : Nat) (v1 : Int32) (μ : ZMem) : Option (ZMem × Int32) := chk (isC n 6 v0) (bd2 (fX6_isShelf n v1 μ) (fun μ2 r3 => (if r3 = 0 then some (μ2, (-1 : Int32)) else bd1 (zRc n 104 μ2 v0 0) (fun r5 => chk (inb v1 r5) (bd1 (zRc n 3 μ2 r5 v1.toNatClampNeg) (fun r8 => bd2 (fX3_isPerson n r8 μ2) (fun μ11 r12 => (if r12 = 0 then bd1 (zRc n 104 μ11 v0 0) (fun r14 => chk (inb v1 r14) (bd1 (zRc n 3 μ11 r14 v1.toNatClampNeg) (fun r17 => bd2 (fX3_isRow n r17 μ11) (fun μ20 r21 => (if r21 = 0 then (fX6_rowRefusal_b42 n (-3 : Int32) μ20) else (fX6_rowRefusal_b42 n (0 : Int32) μ20)))))) else some (μ11, (-2 : Int32))))))))))
theorem tX6_rowRefusal {l : Launch} {fr : Bool} {n : Nat} {v0 : Nat} {v1 : Int32} {μ : ZMem} {z : ZMem × Int32} (h : fX6_rowRefusal n v0 v1 μ = some z) : ZFn l mX6_rowRefusal (rmd 3) [.ref v0, .int v1] fr n μ (fr, n, z.1, some (.int z.2)) := by
  unfold fX6_rowRefusal at h
  obtain ⟨c_v0, h⟩ := chk_some h
  refine ZFn.of (ls := [(0, .ref v0), (1, .int v1)]) (by decide) (fun ξ => Nat.le_of_ble_eq_true rfl) (fun ξ => rfl) ?_
  refine V_iload_n 1 (zdk tbX6_rowRefusal_0_ok 0 rfl) rfl ?_
  obtain ⟨μ2, r3, q1, h⟩ := bd2_some h
  refine V_callS (R1 := (rmd 2)) (As := [.int v1]) (r := (some (.int r3))) (zdk tbX6_rowRefusal_0_ok 1 rfl) sC6_62 (tX6_isShelf q1) rfl rfl ⟨Nat.le_of_ble_eq_true rfl, Nat.le_of_ble_eq_true rfl⟩ (Nat.le_of_ble_eq_true rfl) ⟨rfl, rfl⟩ id ?_
  refine V_if_ne (tgt := 9) (zdk tbX6_rowRefusal_0_ok 2 rfl) (by decide) (fun c4 => ?_) (fun c4 => ?_)
  · replace h := ite_f h c4
    refine V_aload_n 0 (zdk tbX6_rowRefusal_0_ok 5 rfl) rfl ?_
    obtain ⟨r5, q6, h⟩ := bd1_some h
    obtain ⟨q6, c_r5⟩ := zRc_some q6
    refine V_getR (zdk tbX6_rowRefusal_0_ok 6 rfl) c_v0 fF6_11 rfl q6 ?_
    refine V_iload_n 1 (zdk tbX6_rowRefusal_0_ok 7 rfl) rfl ?_
    obtain ⟨b7, h⟩ := chk_some h
    obtain ⟨r8, q9, h⟩ := bd1_some h
    obtain ⟨q9, c_r8⟩ := zRc_some q9
    refine V_aald4 (zdk tbX6_rowRefusal_0_ok 8 rfl) c_r5 b7 q9 ?_
    obtain ⟨μ11, r12, q10, h⟩ := bd2_some h
    refine V_callV (R1 := (rmd 1)) (As := []) (r := (some (.int r12))) (zdk tbX6_rowRefusal_0_ok 9 rfl) sC6_113 (tX3_isPerson q10) (c_r8) rfl rfl rfl ⟨Nat.le_of_ble_eq_true rfl, Nat.le_of_ble_eq_true rfl⟩ (Nat.le_of_ble_eq_true rfl) ⟨rfl, rfl⟩ id ?_
    refine V_if_eq (tgt := 24) (zdk tbX6_rowRefusal_0_ok 10 rfl) (by decide) (fun c13 => ?_) (fun c13 => ?_)
    · replace h := ite_t h c13
      refine V_aload_n 0 (zdk tbX6_rowRefusal_0_ok 13 rfl) rfl ?_
      obtain ⟨r14, q15, h⟩ := bd1_some h
      obtain ⟨q15, c_r14⟩ := zRc_some q15
      refine V_getR (zdk tbX6_rowRefusal_0_ok 14 rfl) c_v0 fF6_11 rfl q15 ?_
      refine V_iload_n 1 (zdk tbX6_rowRefusal_0_ok 15 rfl) rfl ?_
      obtain ⟨b16, h⟩ := chk_some h
      obtain ⟨r17, q18, h⟩ := bd1_some h
      obtain ⟨q18, c_r17⟩ := zRc_some q18
      refine V_aald4 (zdk tbX6_rowRefusal_0_ok 16 rfl) c_r14 b16 q18 ?_
      obtain ⟨μ20, r21, q19, h⟩ := bd2_some h
      refine V_callV (R1 := (rmd 1)) (As := []) (r := (some (.int r21))) (zdk tbX6_rowRefusal_0_ok 17 rfl) sC6_106 (tX3_isRow q19) (c_r17) rfl rfl rfl ⟨Nat.le_of_ble_eq_true rfl, Nat.le_of_ble_eq_true rfl⟩ (Nat.le_of_ble_eq_true rfl) ⟨rfl, rfl⟩ id ?_
      refine V_if_eq (tgt := 40) (zdk tbX6_rowRefusal_0_ok 18 rfl) (by decide) (fun c22 => ?_) (fun c22 => ?_)
      · replace h := ite_t h c22
        refine V_bipush (v := (-3)) (zdk tbX6_rowRefusal_0_ok 21 rfl) rfl ?_
        refine V_sub (ls' := []) [] rfl ?_
        exact tX6_rowRefusal_b42 (-3 : Int32) μ20  h
      · replace h := ite_f h c22
        refine V_iconst (v := 0) (zdk tbX6_rowRefusal_0_ok 19 rfl) rfl ?_
        refine V_goto (tgt := 42) (zdk tbX6_rowRefusal_0_ok 20 rfl) (by decide) ?_
        refine V_sub (ls' := []) [] rfl ?_
        exact tX6_rowRefusal_b42 (0 : Int32) μ20  h
    · replace h := ite_f h c13
      refine V_bipush (v := (-2)) (zdk tbX6_rowRefusal_0_ok 11 rfl) rfl ?_
      cases h
      exact V_iret (zdk tbX6_rowRefusal_0_ok 12 rfl) rfl rfl
  · replace h := ite_t h c4
    refine V_iconst (v := (-1)) (zdk tbX6_rowRefusal_0_ok 3 rfl) rfl ?_
    cases h
    exact V_iret (zdk tbX6_rowRefusal_0_ok 4 rfl) rfl rfl

-- WhoComplainsCarries.set
def tbX6_set_0 : List (Nat × Instr × Nat) := [(0, .aload_n 0, 1), (1, .iload_n 1, 1), (2, .invokevirtual 74, 3), (5, .istore 5, 2), (7, .iload 5, 2), (9, .ifCond .eq 10, 3), (12, .aload_n 0, 1), (13, .iload 5, 2), (15, .invokevirtual 66, 3), (18, .ireturn, 1), (19, .aload_n 0, 1), (20, .getfield 11, 3), (23, .iload_n 1, 1), (24, .aaload, 1), (25, .iload_n 2, 1), (26, .invokevirtual 77, 3), (29, .ifCond .ne 10, 3), (32, .aload_n 0, 1), (33, .bipush (-5), 2), (35, .invokevirtual 66, 3), (38, .ireturn, 1), (39, .aload_n 0, 1), (40, .getfield 11, 3), (43, .iload_n 1, 1), (44, .aaload, 1), (45, .iload_n 2, 1), (46, .lload_n 3, 1), (47, .invokevirtual 80, 3), (50, .iconst 1, 1), (51, .ireturn, 1)]
theorem tbX6_set_0_ok : ∀ q ∈ tbX6_set_0, decode cX6_set q.1 = .ok (q.2.1, q.2.2) := by decide +kernel
theorem wCX6_rowRefusal : zCW mX6_rowRefusal 1 := ⟨zin (i := 1) (by decide +kernel) rfl, zin (i := 274) (by decide +kernel) rfl, by decide +kernel, by decide +kernel, by decide +kernel⟩
theorem sC6_74 : zCV RX6 74 mX6_rowRefusal 1 := ⟨zin (i := 271) (by decide +kernel) rfl, zin (i := 273) (by decide +kernel) rfl, zinP (i := 1) (q := (yX6_rowRefusal, 10)) (by decide +kernel) rfl, wCX6_rowRefusal⟩
theorem sC6_77 : zCV RX6 77 mX3_hasElement 1 := ⟨zin (i := 283) (by decide +kernel) rfl, zin (i := 284) (by decide +kernel) rfl, zin (i := 285) (by decide +kernel) rfl, wCX3_hasElement⟩
theorem wCX3_put : zCW mX3_put 2 := ⟨zin (i := 2) (by decide +kernel) rfl, zin (i := 291) (by decide +kernel) rfl, by decide +kernel, by decide +kernel, by decide +kernel⟩
theorem sC6_80 : zCV RX6 80 mX3_put 2 := ⟨zin (i := 288) (by decide +kernel) rfl, zin (i := 289) (by decide +kernel) rfl, zin (i := 290) (by decide +kernel) rfl, wCX3_put⟩
def fX6_set (n : Nat) (v0 : Nat) (v1 : Int32) (v2 : Int32) (v3 : Int64) (μ : ZMem) : Option (ZMem × Int32) := chk (isC n 6 v0) (bd2 (fX6_rowRefusal n v0 v1 μ) (fun μ2 r3 => (if r3 = 0 then bd1 (zRc n 104 μ2 v0 0) (fun r5 => chk (inb v1 r5) (bd1 (zRc n 3 μ2 r5 v1.toNatClampNeg) (fun r8 => bd2 (fX3_hasElement n r8 v2 μ2) (fun μ11 r12 => (if r12 = 0 then bd2 (fX6_refuse n v0 (-5 : Int32) μ11) (fun μ22 r23 => some (μ22, r23)) else bd1 (zRc n 104 μ11 v0 0) (fun r14 => chk (inb v1 r14) (bd1 (zRc n 3 μ11 r14 v1.toNatClampNeg) (fun r17 => bd1 (fX3_put n r17 v2 v3 μ11) (fun μ20 => some (μ20, (1 : Int32))))))))))) else bd2 (fX6_refuse n v0 r3 μ2) (fun μ25 r26 => some (μ25, r26)))))
theorem tX6_set {l : Launch} {fr : Bool} {n : Nat} {v0 : Nat} {v1 : Int32} {v2 : Int32} {v3 : Int64} {μ : ZMem} {z : ZMem × Int32} (h : fX6_set n v0 v1 v2 v3 μ = some z) : ZFn l mX6_set (rmd 4) [.ref v0, .int v1, .int v2, .long v3] fr n μ (fr, n, z.1, some (.int z.2)) := by
  unfold fX6_set at h
  obtain ⟨c_v0, h⟩ := chk_some h
  refine ZFn.of (ls := [(0, .ref v0), (1, .int v1), (2, .int v2), (3, .long v3)]) (by decide) (fun ξ => Nat.le_of_ble_eq_true rfl) (fun ξ => rfl) ?_
  refine V_aload_n 0 (zdk tbX6_set_0_ok 0 rfl) rfl ?_
  refine V_iload_n 1 (zdk tbX6_set_0_ok 1 rfl) rfl ?_
  obtain ⟨μ2, r3, q1, h⟩ := bd2_some h
  refine V_callV (R1 := (rmd 3)) (As := [.int v1]) (r := (some (.int r3))) (zdk tbX6_set_0_ok 2 rfl) sC6_74 (tX6_rowRefusal q1) (c_v0) rfl rfl rfl ⟨Nat.le_of_ble_eq_true rfl, Nat.le_of_ble_eq_true rfl⟩ (Nat.le_of_ble_eq_true rfl) ⟨rfl, rfl⟩ id ?_
  refine V_istore (ls' := [(0, .ref v0), (1, .int v1), (2, .int v2), (3, .long v3), (5, .int r3)]) [1, 2, 3, 4, 0] (zdk tbX6_set_0_ok 3 rfl) (Nat.le_of_ble_eq_true rfl) rfl ?_
  refine V_iload 4 (zdk tbX6_set_0_ok 4 rfl) rfl ?_
  refine V_if_eq (tgt := 19) (zdk tbX6_set_0_ok 5 rfl) (by decide) (fun c4 => ?_) (fun c4 => ?_)
  · replace h := ite_t h c4
    refine V_aload_n 0 (zdk tbX6_set_0_ok 10 rfl) rfl ?_
    obtain ⟨r5, q6, h⟩ := bd1_some h
    obtain ⟨q6, c_r5⟩ := zRc_some q6
    refine V_getR (zdk tbX6_set_0_ok 11 rfl) c_v0 fF6_11 rfl q6 ?_
    refine V_iload_n 1 (zdk tbX6_set_0_ok 12 rfl) rfl ?_
    obtain ⟨b7, h⟩ := chk_some h
    obtain ⟨r8, q9, h⟩ := bd1_some h
    obtain ⟨q9, c_r8⟩ := zRc_some q9
    refine V_aald4 (zdk tbX6_set_0_ok 13 rfl) c_r5 b7 q9 ?_
    refine V_iload_n 2 (zdk tbX6_set_0_ok 14 rfl) rfl ?_
    obtain ⟨μ11, r12, q10, h⟩ := bd2_some h
    refine V_callV (R1 := (rmd 2)) (As := [.int v2]) (r := (some (.int r12))) (zdk tbX6_set_0_ok 15 rfl) sC6_77 (tX3_hasElement q10) (c_r8) rfl rfl rfl ⟨Nat.le_of_ble_eq_true rfl, Nat.le_of_ble_eq_true rfl⟩ (Nat.le_of_ble_eq_true rfl) ⟨rfl, rfl⟩ id ?_
    refine V_if_ne (tgt := 39) (zdk tbX6_set_0_ok 16 rfl) (by decide) (fun c13 => ?_) (fun c13 => ?_)
    · replace h := ite_f h c13
      refine V_aload_n 0 (zdk tbX6_set_0_ok 21 rfl) rfl ?_
      obtain ⟨r14, q15, h⟩ := bd1_some h
      obtain ⟨q15, c_r14⟩ := zRc_some q15
      refine V_getR (zdk tbX6_set_0_ok 22 rfl) c_v0 fF6_11 rfl q15 ?_
      refine V_iload_n 1 (zdk tbX6_set_0_ok 23 rfl) rfl ?_
      obtain ⟨b16, h⟩ := chk_some h
      obtain ⟨r17, q18, h⟩ := bd1_some h
      obtain ⟨q18, c_r17⟩ := zRc_some q18
      refine V_aald4 (zdk tbX6_set_0_ok 24 rfl) c_r14 b16 q18 ?_
      refine V_iload_n 2 (zdk tbX6_set_0_ok 25 rfl) rfl ?_
      refine V_lload_n 3 (zdk tbX6_set_0_ok 26 rfl) rfl ?_
      obtain ⟨μ20, q19, h⟩ := bd1_some h
      refine V_callV (R1 := (rmd 3)) (As := [.int v2, .long v3]) (r := none) (zdk tbX6_set_0_ok 27 rfl) sC6_80 (tX3_put q19) (c_r17) rfl rfl rfl ⟨Nat.le_of_ble_eq_true rfl, Nat.le_of_ble_eq_true rfl⟩ (Nat.le_of_ble_eq_true rfl) ⟨rfl, rfl⟩ id ?_
      refine V_iconst (v := 1) (zdk tbX6_set_0_ok 28 rfl) rfl ?_
      cases h
      exact V_iret (zdk tbX6_set_0_ok 29 rfl) rfl rfl
    · replace h := ite_t h c13
      refine V_aload_n 0 (zdk tbX6_set_0_ok 17 rfl) rfl ?_
      refine V_bipush (v := (-5)) (zdk tbX6_set_0_ok 18 rfl) rfl ?_
      obtain ⟨μ22, r23, q21, h⟩ := bd2_some h
      refine V_callV (R1 := (rmd 2)) (As := [.int (-5 : Int32)]) (r := (some (.int r23))) (zdk tbX6_set_0_ok 19 rfl) sC6_66 (tX6_refuse q21) (c_v0) rfl rfl rfl ⟨Nat.le_of_ble_eq_true rfl, Nat.le_of_ble_eq_true rfl⟩ (Nat.le_of_ble_eq_true rfl) ⟨rfl, rfl⟩ id ?_
      cases h
      exact V_iret (zdk tbX6_set_0_ok 20 rfl) rfl rfl
  · replace h := ite_f h c4
    refine V_aload_n 0 (zdk tbX6_set_0_ok 6 rfl) rfl ?_
    refine V_iload 4 (zdk tbX6_set_0_ok 7 rfl) rfl ?_
    obtain ⟨μ25, r26, q24, h⟩ := bd2_some h
    refine V_callV (R1 := (rmd 2)) (As := [.int r3]) (r := (some (.int r26))) (zdk tbX6_set_0_ok 8 rfl) sC6_66 (tX6_refuse q24) (c_v0) rfl rfl rfl ⟨Nat.le_of_ble_eq_true rfl, Nat.le_of_ble_eq_true rfl⟩ (Nat.le_of_ble_eq_true rfl) ⟨rfl, rfl⟩ id ?_
    cases h
    exact V_iret (zdk tbX6_set_0_ok 9 rfl) rfl rfl

-- WhoComplainsCarries.copyRefusal
def tbX6_copyRefusal_0 : List (Nat × Instr × Nat) := [(0, .iload_n 1, 1), (1, .invokestatic 62, 3), (4, .ifCond .eq 10, 3), (7, .iload_n 2, 1), (8, .invokestatic 62, 3), (11, .ifCond .ne 5, 3), (14, .iconst (-1), 1), (15, .ireturn, 1), (16, .aload_n 0, 1), (17, .getfield 11, 3), (20, .iload_n 1, 1), (21, .aaload, 1), (22, .astore 6, 2), (24, .aload_n 0, 1), (25, .getfield 11, 3), (28, .iload_n 2, 1), (29, .aaload, 1), (30, .astore 7, 2), (32, .aload 6, 2), (34, .invokevirtual 113, 3), (37, .ifCond .ne 11, 3), (40, .aload 7, 2), (42, .invokevirtual 113, 3), (45, .ifCond .eq 6, 3), (48, .bipush (-2), 2), (50, .ireturn, 1), (51, .aload 6, 2), (53, .invokevirtual 106, 3), (56, .ifCond .eq 11, 3), (59, .aload 7, 2), (61, .invokevirtual 106, 3), (64, .ifCond .ne 6, 3), (67, .bipush (-3), 2), (69, .ireturn, 1), (70, .aload 6, 2), (72, .getfield 110, 3), (75, .aload 7, 2), (77, .getfield 110, 3), (80, .if_icmp .eq 6, 3), (83, .bipush (-2), 2), (85, .ireturn, 1), (86, .iload 5, 2), (88, .ifCond .ge 6, 3), (91, .bipush (-4), 2), (93, .ireturn, 1), (94, .aload 6, 2), (96, .iload_n 3, 1), (97, .iload 5, 2), (99, .invokevirtual 293, 3), (102, .ifCond .eq 19, 3)]
theorem tbX6_copyRefusal_0_ok : ∀ q ∈ tbX6_copyRefusal_0, decode cX6_copyRefusal q.1 = .ok (q.2.1, q.2.2) := by decide +kernel
def tbX6_copyRefusal_1 : List (Nat × Instr × Nat) := [(105, .aload 7, 2), (107, .iload 4, 2), (109, .iload 5, 2), (111, .invokevirtual 293, 3), (114, .ifCond .eq 7, 3), (117, .iconst 0, 1), (118, .goto 5, 3), (121, .bipush (-5), 2), (123, .ireturn, 1)]
theorem tbX6_copyRefusal_1_ok : ∀ q ∈ tbX6_copyRefusal_1, decode cX6_copyRefusal q.1 = .ok (q.2.1, q.2.2) := by decide +kernel
theorem fF6_110 : zF RX6 110 3 1 := ⟨_, rfl, by decide, zin (i := 32) (by decide +kernel) rfl⟩
theorem sC6_293 : zCV RX6 293 mX3_hasStretch 2 := ⟨zin (i := 301) (by decide +kernel) rfl, zin (i := 302) (by decide +kernel) rfl, zin (i := 303) (by decide +kernel) rfl, wCX3_hasStretch⟩
def fX6_copyRefusal_b14 (n : Nat) (μ : ZMem) : Option (ZMem × Int32) := some (μ, (-1 : Int32))
theorem tX6_copyRefusal_b14 {l : Launch} {fr : Bool} {n : Nat} {z : ZMem × Int32} (μ : ZMem) (h : fX6_copyRefusal_b14 n μ = some z) : V (zkI l mX6_copyRefusal (rmd 3) fr n z) fr 14 [] [] n μ := by
  unfold fX6_copyRefusal_b14 at h
  refine V_iconst (v := (-1)) (zdk tbX6_copyRefusal_0_ok 6 rfl) rfl ?_
  cases h
  exact V_iret (zdk tbX6_copyRefusal_0_ok 7 rfl) rfl rfl
def fX6_copyRefusal_b48 (n : Nat) (μ : ZMem) : Option (ZMem × Int32) := some (μ, (-2 : Int32))
theorem tX6_copyRefusal_b48 {l : Launch} {fr : Bool} {n : Nat} {z : ZMem × Int32} (μ : ZMem) (h : fX6_copyRefusal_b48 n μ = some z) : V (zkI l mX6_copyRefusal (rmd 3) fr n z) fr 48 [] [] n μ := by
  unfold fX6_copyRefusal_b48 at h
  refine V_bipush (v := (-2)) (zdk tbX6_copyRefusal_0_ok 24 rfl) rfl ?_
  cases h
  exact V_iret (zdk tbX6_copyRefusal_0_ok 25 rfl) rfl rfl
def fX6_copyRefusal_b67 (n : Nat) (μ : ZMem) : Option (ZMem × Int32) := some (μ, (-3 : Int32))
theorem tX6_copyRefusal_b67 {l : Launch} {fr : Bool} {n : Nat} {z : ZMem × Int32} (μ : ZMem) (h : fX6_copyRefusal_b67 n μ = some z) : V (zkI l mX6_copyRefusal (rmd 3) fr n z) fr 67 [] [] n μ := by
  unfold fX6_copyRefusal_b67 at h
  refine V_bipush (v := (-3)) (zdk tbX6_copyRefusal_0_ok 32 rfl) rfl ?_
  cases h
  exact V_iret (zdk tbX6_copyRefusal_0_ok 33 rfl) rfl rfl
def fX6_copyRefusal_b123 (n : Nat) (s0 : Int32) (μ : ZMem) : Option (ZMem × Int32) := some (μ, s0)
theorem tX6_copyRefusal_b123 {l : Launch} {fr : Bool} {n : Nat} {z : ZMem × Int32} (s0 : Int32) (μ : ZMem) (h : fX6_copyRefusal_b123 n s0 μ = some z) : V (zkI l mX6_copyRefusal (rmd 3) fr n z) fr 123 [] [.int s0] n μ := by
  unfold fX6_copyRefusal_b123 at h
  cases h
  exact V_iret (zdk tbX6_copyRefusal_1_ok 8 rfl) rfl rfl
def fX6_copyRefusal_b121 (n : Nat) (μ : ZMem) : Option (ZMem × Int32) := (fX6_copyRefusal_b123 n (-5 : Int32) μ)
theorem tX6_copyRefusal_b121 {l : Launch} {fr : Bool} {n : Nat} {z : ZMem × Int32} (μ : ZMem) (h : fX6_copyRefusal_b121 n μ = some z) : V (zkI l mX6_copyRefusal (rmd 3) fr n z) fr 121 [] [] n μ := by
  unfold fX6_copyRefusal_b121 at h
  refine V_bipush (v := (-5)) (zdk tbX6_copyRefusal_1_ok 7 rfl) rfl ?_
  exact tX6_copyRefusal_b123 (-5 : Int32) μ  h
def fX6_copyRefusal (n : Nat) (v0 : Nat) (v1 : Int32) (v2 : Int32) (v3 : Int32) (v4 : Int32) (v5 : Int32) (μ : ZMem) : Option (ZMem × Int32) := chk (isC n 6 v0) (bd2 (fX6_isShelf n v1 μ) (fun μ2 r3 => (if r3 = 0 then (fX6_copyRefusal_b14 n  μ2) else bd2 (fX6_isShelf n v2 μ2) (fun μ6 r7 => (if r7 = 0 then (fX6_copyRefusal_b14 n  μ6) else bd1 (zRc n 104 μ6 v0 0) (fun r9 => chk (inb v1 r9) (bd1 (zRc n 3 μ6 r9 v1.toNatClampNeg) (fun r12 => bd1 (zRc n 104 μ6 v0 0) (fun r14 => chk (inb v2 r14) (bd1 (zRc n 3 μ6 r14 v2.toNatClampNeg) (fun r17 => bd2 (fX3_isPerson n r12 μ6) (fun μ20 r21 => (if r21 = 0 then bd2 (fX3_isPerson n r17 μ20) (fun μ24 r25 => (if r25 = 0 then bd2 (fX3_isRow n r12 μ24) (fun μ28 r29 => (if r29 = 0 then (fX6_copyRefusal_b67 n  μ28) else bd2 (fX3_isRow n r17 μ28) (fun μ32 r33 => (if r33 = 0 then (fX6_copyRefusal_b67 n  μ32) else (if (zI μ32 r12 1) = (zI μ32 r17 1) then (if 0 ≤ v5 then bd2 (fX3_hasStretch n r12 v3 v5 μ32) (fun μ38 r39 => (if r39 = 0 then (fX6_copyRefusal_b121 n  μ38) else bd2 (fX3_hasStretch n r17 v4 v5 μ38) (fun μ42 r43 => (if r43 = 0 then (fX6_copyRefusal_b121 n  μ42) else (fX6_copyRefusal_b123 n (0 : Int32) μ42))))) else some (μ32, (-4 : Int32))) else some (μ32, (-2 : Int32))))))) else (fX6_copyRefusal_b48 n  μ24))) else (fX6_copyRefusal_b48 n  μ20))))))))))))))
theorem tX6_copyRefusal {l : Launch} {fr : Bool} {n : Nat} {v0 : Nat} {v1 : Int32} {v2 : Int32} {v3 : Int32} {v4 : Int32} {v5 : Int32} {μ : ZMem} {z : ZMem × Int32} (h : fX6_copyRefusal n v0 v1 v2 v3 v4 v5 μ = some z) : ZFn l mX6_copyRefusal (rmd 3) [.ref v0, .int v1, .int v2, .int v3, .int v4, .int v5] fr n μ (fr, n, z.1, some (.int z.2)) := by
  unfold fX6_copyRefusal at h
  obtain ⟨c_v0, h⟩ := chk_some h
  refine ZFn.of (ls := [(0, .ref v0), (1, .int v1), (2, .int v2), (3, .int v3), (4, .int v4), (5, .int v5)]) (by decide) (fun ξ => Nat.le_of_ble_eq_true rfl) (fun ξ => rfl) ?_
  refine V_iload_n 1 (zdk tbX6_copyRefusal_0_ok 0 rfl) rfl ?_
  obtain ⟨μ2, r3, q1, h⟩ := bd2_some h
  refine V_callS (R1 := (rmd 2)) (As := [.int v1]) (r := (some (.int r3))) (zdk tbX6_copyRefusal_0_ok 1 rfl) sC6_62 (tX6_isShelf q1) rfl rfl ⟨Nat.le_of_ble_eq_true rfl, Nat.le_of_ble_eq_true rfl⟩ (Nat.le_of_ble_eq_true rfl) ⟨rfl, rfl⟩ id ?_
  refine V_if_eq (tgt := 14) (zdk tbX6_copyRefusal_0_ok 2 rfl) (by decide) (fun c4 => ?_) (fun c4 => ?_)
  · replace h := ite_t h c4
    refine V_sub (ls' := []) [] rfl ?_
    exact tX6_copyRefusal_b14  μ2  h
  · replace h := ite_f h c4
    refine V_iload_n 2 (zdk tbX6_copyRefusal_0_ok 3 rfl) rfl ?_
    obtain ⟨μ6, r7, q5, h⟩ := bd2_some h
    refine V_callS (R1 := (rmd 2)) (As := [.int v2]) (r := (some (.int r7))) (zdk tbX6_copyRefusal_0_ok 4 rfl) sC6_62 (tX6_isShelf q5) rfl rfl ⟨Nat.le_of_ble_eq_true rfl, Nat.le_of_ble_eq_true rfl⟩ (Nat.le_of_ble_eq_true rfl) ⟨rfl, rfl⟩ id ?_
    refine V_if_ne (tgt := 16) (zdk tbX6_copyRefusal_0_ok 5 rfl) (by decide) (fun c8 => ?_) (fun c8 => ?_)
    · replace h := ite_f h c8
      refine V_aload_n 0 (zdk tbX6_copyRefusal_0_ok 8 rfl) rfl ?_
      obtain ⟨r9, q10, h⟩ := bd1_some h
      obtain ⟨q10, c_r9⟩ := zRc_some q10
      refine V_getR (zdk tbX6_copyRefusal_0_ok 9 rfl) c_v0 fF6_11 rfl q10 ?_
      refine V_iload_n 1 (zdk tbX6_copyRefusal_0_ok 10 rfl) rfl ?_
      obtain ⟨b11, h⟩ := chk_some h
      obtain ⟨r12, q13, h⟩ := bd1_some h
      obtain ⟨q13, c_r12⟩ := zRc_some q13
      refine V_aald4 (zdk tbX6_copyRefusal_0_ok 11 rfl) c_r9 b11 q13 ?_
      refine V_astore (ls' := [(0, .ref v0), (2, .int v2), (3, .int v3), (4, .int v4), (5, .int v5), (6, .ref r12)]) [1, 3, 4, 5, 6, 0] (zdk tbX6_copyRefusal_0_ok 12 rfl) (Nat.le_of_ble_eq_true rfl) rfl ?_
      refine V_aload_n 0 (zdk tbX6_copyRefusal_0_ok 13 rfl) rfl ?_
      obtain ⟨r14, q15, h⟩ := bd1_some h
      obtain ⟨q15, c_r14⟩ := zRc_some q15
      refine V_getR (zdk tbX6_copyRefusal_0_ok 14 rfl) c_v0 fF6_11 rfl q15 ?_
      refine V_iload_n 1 (zdk tbX6_copyRefusal_0_ok 15 rfl) rfl ?_
      obtain ⟨b16, h⟩ := chk_some h
      obtain ⟨r17, q18, h⟩ := bd1_some h
      obtain ⟨q18, c_r17⟩ := zRc_some q18
      refine V_aald4 (zdk tbX6_copyRefusal_0_ok 16 rfl) c_r14 b16 q18 ?_
      refine V_astore (ls' := [(3, .int v3), (4, .int v4), (5, .int v5), (6, .ref r12), (7, .ref r17)]) [3, 4, 5, 6, 0] (zdk tbX6_copyRefusal_0_ok 17 rfl) (Nat.le_of_ble_eq_true rfl) rfl ?_
      refine V_aload 3 (zdk tbX6_copyRefusal_0_ok 18 rfl) rfl ?_
      obtain ⟨μ20, r21, q19, h⟩ := bd2_some h
      refine V_callV (R1 := (rmd 1)) (As := []) (r := (some (.int r21))) (zdk tbX6_copyRefusal_0_ok 19 rfl) sC6_113 (tX3_isPerson q19) (c_r12) rfl rfl rfl ⟨Nat.le_of_ble_eq_true rfl, Nat.le_of_ble_eq_true rfl⟩ (Nat.le_of_ble_eq_true rfl) ⟨rfl, rfl⟩ id ?_
      refine V_if_ne (tgt := 48) (zdk tbX6_copyRefusal_0_ok 20 rfl) (by decide) (fun c22 => ?_) (fun c22 => ?_)
      · replace h := ite_f h c22
        refine V_sub (ls' := []) [] rfl ?_
        exact tX6_copyRefusal_b48  μ20  h
      · replace h := ite_t h c22
        refine V_aload 4 (zdk tbX6_copyRefusal_0_ok 21 rfl) rfl ?_
        obtain ⟨μ24, r25, q23, h⟩ := bd2_some h
        refine V_callV (R1 := (rmd 1)) (As := []) (r := (some (.int r25))) (zdk tbX6_copyRefusal_0_ok 22 rfl) sC6_113 (tX3_isPerson q23) (c_r17) rfl rfl rfl ⟨Nat.le_of_ble_eq_true rfl, Nat.le_of_ble_eq_true rfl⟩ (Nat.le_of_ble_eq_true rfl) ⟨rfl, rfl⟩ id ?_
        refine V_if_eq (tgt := 51) (zdk tbX6_copyRefusal_0_ok 23 rfl) (by decide) (fun c26 => ?_) (fun c26 => ?_)
        · replace h := ite_t h c26
          refine V_aload 3 (zdk tbX6_copyRefusal_0_ok 26 rfl) rfl ?_
          obtain ⟨μ28, r29, q27, h⟩ := bd2_some h
          refine V_callV (R1 := (rmd 1)) (As := []) (r := (some (.int r29))) (zdk tbX6_copyRefusal_0_ok 27 rfl) sC6_106 (tX3_isRow q27) (c_r12) rfl rfl rfl ⟨Nat.le_of_ble_eq_true rfl, Nat.le_of_ble_eq_true rfl⟩ (Nat.le_of_ble_eq_true rfl) ⟨rfl, rfl⟩ id ?_
          refine V_if_eq (tgt := 67) (zdk tbX6_copyRefusal_0_ok 28 rfl) (by decide) (fun c30 => ?_) (fun c30 => ?_)
          · replace h := ite_t h c30
            refine V_sub (ls' := []) [] rfl ?_
            exact tX6_copyRefusal_b67  μ28  h
          · replace h := ite_f h c30
            refine V_aload 4 (zdk tbX6_copyRefusal_0_ok 29 rfl) rfl ?_
            obtain ⟨μ32, r33, q31, h⟩ := bd2_some h
            refine V_callV (R1 := (rmd 1)) (As := []) (r := (some (.int r33))) (zdk tbX6_copyRefusal_0_ok 30 rfl) sC6_106 (tX3_isRow q31) (c_r17) rfl rfl rfl ⟨Nat.le_of_ble_eq_true rfl, Nat.le_of_ble_eq_true rfl⟩ (Nat.le_of_ble_eq_true rfl) ⟨rfl, rfl⟩ id ?_
            refine V_if_ne (tgt := 70) (zdk tbX6_copyRefusal_0_ok 31 rfl) (by decide) (fun c34 => ?_) (fun c34 => ?_)
            · replace h := ite_f h c34
              refine V_aload 3 (zdk tbX6_copyRefusal_0_ok 34 rfl) rfl ?_
              refine V_getI (zdk tbX6_copyRefusal_0_ok 35 rfl) c_r12 fF6_110 rfl ?_
              refine V_aload 4 (zdk tbX6_copyRefusal_0_ok 36 rfl) rfl ?_
              refine V_getI (zdk tbX6_copyRefusal_0_ok 37 rfl) c_r17 fF6_110 rfl ?_
              refine V_icmp_eq (tgt := 86) (zdk tbX6_copyRefusal_0_ok 38 rfl) (by decide) (fun c35 => ?_) (fun c35 => ?_)
              · replace h := ite_t h c35
                refine V_iload 2 (zdk tbX6_copyRefusal_0_ok 41 rfl) rfl ?_
                refine V_if_ge (tgt := 94) (zdk tbX6_copyRefusal_0_ok 42 rfl) (by decide) (fun c36 => ?_) (fun c36 => ?_)
                · replace h := ite_t h c36
                  refine V_aload 3 (zdk tbX6_copyRefusal_0_ok 45 rfl) rfl ?_
                  refine V_iload_n 0 (zdk tbX6_copyRefusal_0_ok 46 rfl) rfl ?_
                  refine V_iload 2 (zdk tbX6_copyRefusal_0_ok 47 rfl) rfl ?_
                  obtain ⟨μ38, r39, q37, h⟩ := bd2_some h
                  refine V_callV (R1 := (rmd 1)) (As := [.int v3, .int v5]) (r := (some (.int r39))) (zdk tbX6_copyRefusal_0_ok 48 rfl) sC6_293 (tX3_hasStretch q37) (c_r12) rfl rfl rfl ⟨Nat.le_of_ble_eq_true rfl, Nat.le_of_ble_eq_true rfl⟩ (Nat.le_of_ble_eq_true rfl) ⟨rfl, rfl⟩ id ?_
                  refine V_if_eq (tgt := 121) (zdk tbX6_copyRefusal_0_ok 49 rfl) (by decide) (fun c40 => ?_) (fun c40 => ?_)
                  · replace h := ite_t h c40
                    refine V_sub (ls' := []) [] rfl ?_
                    exact tX6_copyRefusal_b121  μ38  h
                  · replace h := ite_f h c40
                    refine V_aload 4 (zdk tbX6_copyRefusal_1_ok 0 rfl) rfl ?_
                    refine V_iload 1 (zdk tbX6_copyRefusal_1_ok 1 rfl) rfl ?_
                    refine V_iload 2 (zdk tbX6_copyRefusal_1_ok 2 rfl) rfl ?_
                    obtain ⟨μ42, r43, q41, h⟩ := bd2_some h
                    refine V_callV (R1 := (rmd 1)) (As := [.int v4, .int v5]) (r := (some (.int r43))) (zdk tbX6_copyRefusal_1_ok 3 rfl) sC6_293 (tX3_hasStretch q41) (c_r17) rfl rfl rfl ⟨Nat.le_of_ble_eq_true rfl, Nat.le_of_ble_eq_true rfl⟩ (Nat.le_of_ble_eq_true rfl) ⟨rfl, rfl⟩ id ?_
                    refine V_if_eq (tgt := 121) (zdk tbX6_copyRefusal_1_ok 4 rfl) (by decide) (fun c44 => ?_) (fun c44 => ?_)
                    · replace h := ite_t h c44
                      refine V_sub (ls' := []) [] rfl ?_
                      exact tX6_copyRefusal_b121  μ42  h
                    · replace h := ite_f h c44
                      refine V_iconst (v := 0) (zdk tbX6_copyRefusal_1_ok 5 rfl) rfl ?_
                      refine V_goto (tgt := 123) (zdk tbX6_copyRefusal_1_ok 6 rfl) (by decide) ?_
                      refine V_sub (ls' := []) [] rfl ?_
                      exact tX6_copyRefusal_b123 (0 : Int32) μ42  h
                · replace h := ite_f h c36
                  refine V_bipush (v := (-4)) (zdk tbX6_copyRefusal_0_ok 43 rfl) rfl ?_
                  cases h
                  exact V_iret (zdk tbX6_copyRefusal_0_ok 44 rfl) rfl rfl
              · replace h := ite_f h c35
                refine V_bipush (v := (-2)) (zdk tbX6_copyRefusal_0_ok 39 rfl) rfl ?_
                cases h
                exact V_iret (zdk tbX6_copyRefusal_0_ok 40 rfl) rfl rfl
            · replace h := ite_t h c34
              refine V_sub (ls' := []) [] rfl ?_
              exact tX6_copyRefusal_b67  μ32  h
        · replace h := ite_f h c26
          refine V_sub (ls' := []) [] rfl ?_
          exact tX6_copyRefusal_b48  μ24  h
    · replace h := ite_t h c8
      refine V_sub (ls' := []) [] rfl ?_
      exact tX6_copyRefusal_b14  μ6  h

-- WhoComplainsCarries.copy
def tbX6_copy_0 : List (Nat × Instr × Nat) := [(0, .aload_n 0, 1), (1, .iload_n 1, 1), (2, .iload_n 2, 1), (3, .iload_n 3, 1), (4, .iload 4, 2), (6, .iload 5, 2), (8, .invokevirtual 84, 3), (11, .istore 6, 2), (13, .iload 6, 2), (15, .ifCond .eq 10, 3), (18, .aload_n 0, 1), (19, .iload 6, 2), (21, .invokevirtual 66, 3), (24, .ireturn, 1), (25, .aload_n 0, 1), (26, .getfield 11, 3), (29, .iload_n 2, 1), (30, .aaload, 1), (31, .aload_n 0, 1), (32, .getfield 11, 3), (35, .iload_n 1, 1), (36, .aaload, 1), (37, .iload_n 3, 1), (38, .iload 4, 2), (40, .iload 5, 2), (42, .invokevirtual 88, 3), (45, .iconst 1, 1), (46, .ireturn, 1)]
theorem tbX6_copy_0_ok : ∀ q ∈ tbX6_copy_0, decode cX6_copy q.1 = .ok (q.2.1, q.2.2) := by decide +kernel
theorem wCX6_copyRefusal : zCW mX6_copyRefusal 5 := ⟨zin (i := 1) (by decide +kernel) rfl, zin (i := 300) (by decide +kernel) rfl, by decide +kernel, by decide +kernel, by decide +kernel⟩
theorem sC6_84 : zCV RX6 84 mX6_copyRefusal 5 := ⟨zin (i := 297) (by decide +kernel) rfl, zin (i := 299) (by decide +kernel) rfl, zinP (i := 2) (q := (yX6_copyRefusal, 10)) (by decide +kernel) rfl, wCX6_copyRefusal⟩
theorem wCX3_takeFrom : zCW mX3_takeFrom 4 := ⟨zin (i := 2) (by decide +kernel) rfl, zin (i := 308) (by decide +kernel) rfl, by decide +kernel, by decide +kernel, by decide +kernel⟩
theorem sC6_88 : zCV RX6 88 mX3_takeFrom 4 := ⟨zin (i := 305) (by decide +kernel) rfl, zin (i := 306) (by decide +kernel) rfl, zin (i := 307) (by decide +kernel) rfl, wCX3_takeFrom⟩
def fX6_copy (n : Nat) (v0 : Nat) (v1 : Int32) (v2 : Int32) (v3 : Int32) (v4 : Int32) (v5 : Int32) (μ : ZMem) : Option (ZMem × Int32) := chk (isC n 6 v0) (bd2 (fX6_copyRefusal n v0 v1 v2 v3 v4 v5 μ) (fun μ2 r3 => (if r3 = 0 then bd1 (zRc n 104 μ2 v0 0) (fun r5 => chk (inb v2 r5) (bd1 (zRc n 3 μ2 r5 v2.toNatClampNeg) (fun r8 => bd1 (zRc n 104 μ2 v0 0) (fun r10 => chk (inb v1 r10) (bd1 (zRc n 3 μ2 r10 v1.toNatClampNeg) (fun r13 => bd1 (fX3_takeFrom n r8 r13 v3 v4 v5 μ2) (fun μ16 => some (μ16, (1 : Int32))))))))) else bd2 (fX6_refuse n v0 r3 μ2) (fun μ18 r19 => some (μ18, r19)))))
theorem tX6_copy {l : Launch} {n : Nat} {v0 : Nat} {v1 : Int32} {v2 : Int32} {v3 : Int32} {v4 : Int32} {v5 : Int32} {μ : ZMem} {z : ZMem × Int32} (h : fX6_copy n v0 v1 v2 v3 v4 v5 μ = some z) : ZFn l mX6_copy (rmd 4) [.ref v0, .int v1, .int v2, .int v3, .int v4, .int v5] false n μ (false, n, z.1, some (.int z.2)) := by
  unfold fX6_copy at h
  obtain ⟨c_v0, h⟩ := chk_some h
  refine ZFn.of (ls := [(0, .ref v0), (1, .int v1), (2, .int v2), (3, .int v3), (4, .int v4), (5, .int v5)]) (by decide) (fun ξ => Nat.le_of_ble_eq_true rfl) (fun ξ => rfl) ?_
  refine V_aload_n 0 (zdk tbX6_copy_0_ok 0 rfl) rfl ?_
  refine V_iload_n 1 (zdk tbX6_copy_0_ok 1 rfl) rfl ?_
  refine V_iload_n 2 (zdk tbX6_copy_0_ok 2 rfl) rfl ?_
  refine V_iload_n 3 (zdk tbX6_copy_0_ok 3 rfl) rfl ?_
  refine V_iload 4 (zdk tbX6_copy_0_ok 4 rfl) rfl ?_
  refine V_iload 5 (zdk tbX6_copy_0_ok 5 rfl) rfl ?_
  obtain ⟨μ2, r3, q1, h⟩ := bd2_some h
  refine V_callV (R1 := (rmd 3)) (As := [.int v1, .int v2, .int v3, .int v4, .int v5]) (r := (some (.int r3))) (zdk tbX6_copy_0_ok 6 rfl) sC6_84 (tX6_copyRefusal q1) (c_v0) rfl rfl rfl ⟨Nat.le_of_ble_eq_true rfl, Nat.le_of_ble_eq_true rfl⟩ (Nat.le_of_ble_eq_true rfl) ⟨rfl, rfl⟩ id ?_
  refine V_istore (ls' := [(0, .ref v0), (1, .int v1), (2, .int v2), (3, .int v3), (4, .int v4), (5, .int v5), (6, .int r3)]) [1, 2, 3, 4, 5, 6, 0] (zdk tbX6_copy_0_ok 7 rfl) (Nat.le_of_ble_eq_true rfl) rfl ?_
  refine V_iload 6 (zdk tbX6_copy_0_ok 8 rfl) rfl ?_
  refine V_if_eq (tgt := 25) (zdk tbX6_copy_0_ok 9 rfl) (by decide) (fun c4 => ?_) (fun c4 => ?_)
  · replace h := ite_t h c4
    refine V_aload_n 0 (zdk tbX6_copy_0_ok 14 rfl) rfl ?_
    obtain ⟨r5, q6, h⟩ := bd1_some h
    obtain ⟨q6, c_r5⟩ := zRc_some q6
    refine V_getR (zdk tbX6_copy_0_ok 15 rfl) c_v0 fF6_11 rfl q6 ?_
    refine V_iload_n 2 (zdk tbX6_copy_0_ok 16 rfl) rfl ?_
    obtain ⟨b7, h⟩ := chk_some h
    obtain ⟨r8, q9, h⟩ := bd1_some h
    obtain ⟨q9, c_r8⟩ := zRc_some q9
    refine V_aald4 (zdk tbX6_copy_0_ok 17 rfl) c_r5 b7 q9 ?_
    refine V_aload_n 0 (zdk tbX6_copy_0_ok 18 rfl) rfl ?_
    obtain ⟨r10, q11, h⟩ := bd1_some h
    obtain ⟨q11, c_r10⟩ := zRc_some q11
    refine V_getR (zdk tbX6_copy_0_ok 19 rfl) c_v0 fF6_11 rfl q11 ?_
    refine V_iload_n 1 (zdk tbX6_copy_0_ok 20 rfl) rfl ?_
    obtain ⟨b12, h⟩ := chk_some h
    obtain ⟨r13, q14, h⟩ := bd1_some h
    obtain ⟨q14, c_r13⟩ := zRc_some q14
    refine V_aald4 (zdk tbX6_copy_0_ok 21 rfl) c_r10 b12 q14 ?_
    refine V_iload_n 3 (zdk tbX6_copy_0_ok 22 rfl) rfl ?_
    refine V_iload 4 (zdk tbX6_copy_0_ok 23 rfl) rfl ?_
    refine V_iload 5 (zdk tbX6_copy_0_ok 24 rfl) rfl ?_
    obtain ⟨μ16, q15, h⟩ := bd1_some h
    refine V_callV (R1 := (rmd 2)) (As := [.ref r13, .int v3, .int v4, .int v5]) (r := none) (zdk tbX6_copy_0_ok 25 rfl) sC6_88 (tX3_takeFrom q15) (c_r8) rfl rfl rfl ⟨Nat.le_of_ble_eq_true rfl, Nat.le_of_ble_eq_true rfl⟩ (Nat.le_of_ble_eq_true rfl) ⟨rfl, rfl⟩ id ?_
    refine V_iconst (v := 1) (zdk tbX6_copy_0_ok 26 rfl) rfl ?_
    cases h
    exact V_iret (zdk tbX6_copy_0_ok 27 rfl) rfl rfl
  · replace h := ite_f h c4
    refine V_aload_n 0 (zdk tbX6_copy_0_ok 10 rfl) rfl ?_
    refine V_iload 6 (zdk tbX6_copy_0_ok 11 rfl) rfl ?_
    obtain ⟨μ18, r19, q17, h⟩ := bd2_some h
    refine V_callV (R1 := (rmd 2)) (As := [.int r3]) (r := (some (.int r19))) (zdk tbX6_copy_0_ok 12 rfl) sC6_66 (tX6_refuse q17) (c_v0) rfl rfl rfl ⟨Nat.le_of_ble_eq_true rfl, Nat.le_of_ble_eq_true rfl⟩ (Nat.le_of_ble_eq_true rfl) ⟨rfl, rfl⟩ id ?_
    cases h
    exact V_iret (zdk tbX6_copy_0_ok 13 rfl) rfl rfl

-- WhoComplainsCarries.element
def tbX6_element_0 : List (Nat × Instr × Nat) := [(0, .iload_n 1, 1), (1, .invokestatic 62, 3), (4, .ifCond .eq 16, 3), (7, .aload_n 0, 1), (8, .getfield 11, 3), (11, .iload_n 1, 1), (12, .aaload, 1), (13, .iload_n 2, 1), (14, .invokevirtual 92, 3), (17, .goto 4, 3), (20, .lconst 0, 1), (21, .lreturn, 1)]
theorem tbX6_element_0_ok : ∀ q ∈ tbX6_element_0, decode cX6_element q.1 = .ok (q.2.1, q.2.2) := by decide +kernel
theorem sC6_92 : zCV RX6 92 mX3_longAt 1 := ⟨zin (i := 317) (by decide +kernel) rfl, zin (i := 318) (by decide +kernel) rfl, zin (i := 319) (by decide +kernel) rfl, wCX3_longAt⟩
def fX6_element_b21 (n : Nat) (s0 : Int64) (μ : ZMem) : Option (ZMem × Int64) := some (μ, s0)
theorem tX6_element_b21 {l : Launch} {fr : Bool} {n : Nat} {z : ZMem × Int64} (s0 : Int64) (μ : ZMem) (h : fX6_element_b21 n s0 μ = some z) : V (zkJ l mX6_element (rmd 4) fr n z) fr 21 [] [.long s0] n μ := by
  unfold fX6_element_b21 at h
  cases h
  exact V_lret (zdk tbX6_element_0_ok 11 rfl) rfl rfl
def fX6_element (n : Nat) (v0 : Nat) (v1 : Int32) (v2 : Int32) (μ : ZMem) : Option (ZMem × Int64) := chk (isC n 6 v0) (bd2 (fX6_isShelf n v1 μ) (fun μ2 r3 => (if r3 = 0 then (fX6_element_b21 n (0 : Int64) μ2) else bd1 (zRc n 104 μ2 v0 0) (fun r5 => chk (inb v1 r5) (bd1 (zRc n 3 μ2 r5 v1.toNatClampNeg) (fun r8 => bd2 (fX3_longAt n r8 v2 μ2) (fun μ11 r12 => (fX6_element_b21 n r12 μ11))))))))
theorem tX6_element {l : Launch} {fr : Bool} {n : Nat} {v0 : Nat} {v1 : Int32} {v2 : Int32} {μ : ZMem} {z : ZMem × Int64} (h : fX6_element n v0 v1 v2 μ = some z) : ZFn l mX6_element (rmd 4) [.ref v0, .int v1, .int v2] fr n μ (fr, n, z.1, some (.long z.2)) := by
  unfold fX6_element at h
  obtain ⟨c_v0, h⟩ := chk_some h
  refine ZFn.of (ls := [(0, .ref v0), (1, .int v1), (2, .int v2)]) (by decide) (fun ξ => Nat.le_of_ble_eq_true rfl) (fun ξ => rfl) ?_
  refine V_iload_n 1 (zdk tbX6_element_0_ok 0 rfl) rfl ?_
  obtain ⟨μ2, r3, q1, h⟩ := bd2_some h
  refine V_callS (R1 := (rmd 2)) (As := [.int v1]) (r := (some (.int r3))) (zdk tbX6_element_0_ok 1 rfl) sC6_62 (tX6_isShelf q1) rfl rfl ⟨Nat.le_of_ble_eq_true rfl, Nat.le_of_ble_eq_true rfl⟩ (Nat.le_of_ble_eq_true rfl) ⟨rfl, rfl⟩ id ?_
  refine V_if_eq (tgt := 20) (zdk tbX6_element_0_ok 2 rfl) (by decide) (fun c4 => ?_) (fun c4 => ?_)
  · replace h := ite_t h c4
    refine V_lconst (v := 0) (zdk tbX6_element_0_ok 10 rfl) rfl ?_
    refine V_sub (ls' := []) [] rfl ?_
    exact tX6_element_b21 (0 : Int64) μ2  h
  · replace h := ite_f h c4
    refine V_aload_n 0 (zdk tbX6_element_0_ok 3 rfl) rfl ?_
    obtain ⟨r5, q6, h⟩ := bd1_some h
    obtain ⟨q6, c_r5⟩ := zRc_some q6
    refine V_getR (zdk tbX6_element_0_ok 4 rfl) c_v0 fF6_11 rfl q6 ?_
    refine V_iload_n 1 (zdk tbX6_element_0_ok 5 rfl) rfl ?_
    obtain ⟨b7, h⟩ := chk_some h
    obtain ⟨r8, q9, h⟩ := bd1_some h
    obtain ⟨q9, c_r8⟩ := zRc_some q9
    refine V_aald4 (zdk tbX6_element_0_ok 6 rfl) c_r5 b7 q9 ?_
    refine V_iload_n 2 (zdk tbX6_element_0_ok 7 rfl) rfl ?_
    obtain ⟨μ11, r12, q10, h⟩ := bd2_some h
    refine V_callV (R1 := (rmd 3)) (As := [.int v2]) (r := (some (.long r12))) (zdk tbX6_element_0_ok 8 rfl) sC6_92 (tX3_longAt q10) (c_r8) rfl rfl rfl ⟨Nat.le_of_ble_eq_true rfl, Nat.le_of_ble_eq_true rfl⟩ (Nat.le_of_ble_eq_true rfl) ⟨rfl, rfl⟩ id ?_
    refine V_goto (tgt := 21) (zdk tbX6_element_0_ok 9 rfl) (by decide) ?_
    refine V_sub (ls' := []) [] rfl ?_
    exact tX6_element_b21 r12 μ11  h

-- WhoComplainsCarries.isPerson
def tbX6_isPerson_0 : List (Nat × Instr × Nat) := [(0, .iload_n 1, 1), (1, .iconst 0, 1), (2, .aload_n 0, 1), (3, .getfield 19, 3), (6, .getfield 157, 3), (9, .iconst 1, 1), (10, .isub, 1), (11, .invokestatic 153, 3), (14, .ireturn, 1)]
theorem tbX6_isPerson_0_ok : ∀ q ∈ tbX6_isPerson_0, decode cX6_isPerson q.1 = .ok (q.2.1, q.2.2) := by decide +kernel
theorem fF6_157 : zF RX6 157 4 1 := ⟨_, rfl, by decide, zin (i := 98) (by decide +kernel) rfl⟩
def fX6_isPerson (n : Nat) (v0 : Nat) (v1 : Int32) (μ : ZMem) : Option (ZMem × Int32) := chk (isC n 6 v0) (bd1 (zRc n 4 μ v0 1) (fun r1 => bd2 (fX6_isIn n v1 (0 : Int32) ((zI μ r1 1) - (1 : Int32)) μ) (fun μ4 r5 => chk (b01 r5) (some (μ4, r5)))))
theorem tX6_isPerson {l : Launch} {fr : Bool} {n : Nat} {v0 : Nat} {v1 : Int32} {μ : ZMem} {z : ZMem × Int32} (h : fX6_isPerson n v0 v1 μ = some z) : ZFn l mX6_isPerson (rmd 2) [.ref v0, .int v1] fr n μ (fr, n, z.1, some (.int z.2)) := by
  unfold fX6_isPerson at h
  obtain ⟨c_v0, h⟩ := chk_some h
  refine ZFn.of (ls := [(0, .ref v0), (1, .int v1)]) (by decide) (fun ξ => Nat.le_of_ble_eq_true rfl) (fun ξ => rfl) ?_
  refine V_iload_n 1 (zdk tbX6_isPerson_0_ok 0 rfl) rfl ?_
  refine V_iconst (v := 0) (zdk tbX6_isPerson_0_ok 1 rfl) rfl ?_
  refine V_aload_n 0 (zdk tbX6_isPerson_0_ok 2 rfl) rfl ?_
  obtain ⟨r1, q2, h⟩ := bd1_some h
  obtain ⟨q2, c_r1⟩ := zRc_some q2
  refine V_getR (zdk tbX6_isPerson_0_ok 3 rfl) c_v0 fF6_19 rfl q2 ?_
  refine V_getI (zdk tbX6_isPerson_0_ok 4 rfl) c_r1 fF6_157 rfl ?_
  refine V_iconst (v := 1) (zdk tbX6_isPerson_0_ok 5 rfl) rfl ?_
  refine V_isub (zdk tbX6_isPerson_0_ok 6 rfl) ?_
  obtain ⟨μ4, r5, q3, h⟩ := bd2_some h
  refine V_callS (R1 := (rmd 1)) (As := [.int v1, .int (0 : Int32), .int ((zI μ r1 1) - (1 : Int32))]) (r := (some (.int r5))) (zdk tbX6_isPerson_0_ok 7 rfl) sC6_153 (tX6_isIn q3) rfl rfl ⟨Nat.le_of_ble_eq_true rfl, Nat.le_of_ble_eq_true rfl⟩ (Nat.le_of_ble_eq_true rfl) ⟨rfl, rfl⟩ id ?_
  obtain ⟨b6, h⟩ := chk_some h
  cases h
  exact V_zret (zdk tbX6_isPerson_0_ok 8 rfl) rfl (b01_n b6) rfl

-- WhoComplainsCarries.isPersonOrNone
def tbX6_isPersonOrNone_0 : List (Nat × Instr × Nat) := [(0, .iload_n 1, 1), (1, .iconst (-1), 1), (2, .if_icmp .eq 11, 3), (5, .aload_n 0, 1), (6, .iload_n 1, 1), (7, .invokevirtual 122, 3), (10, .ifCond .eq 7, 3), (13, .iconst 1, 1), (14, .goto 4, 3), (17, .iconst 0, 1), (18, .ireturn, 1)]
theorem tbX6_isPersonOrNone_0_ok : ∀ q ∈ tbX6_isPersonOrNone_0, decode cX6_isPersonOrNone q.1 = .ok (q.2.1, q.2.2) := by decide +kernel
theorem wCX6_isPerson : zCW mX6_isPerson 1 := ⟨zin (i := 1) (by decide +kernel) rfl, zin (i := 332) (by decide +kernel) rfl, by decide +kernel, by decide +kernel, by decide +kernel⟩
theorem sC6_122 : zCV RX6 122 mX6_isPerson 1 := ⟨zin (i := 329) (by decide +kernel) rfl, zin (i := 331) (by decide +kernel) rfl, zinP (i := 4) (q := (yX6_isPerson, 10)) (by decide +kernel) rfl, wCX6_isPerson⟩
def fX6_isPersonOrNone_b18 (n : Nat) (s0 : Int32) (μ : ZMem) : Option (ZMem × Int32) := chk (b01 s0) (some (μ, s0))
theorem tX6_isPersonOrNone_b18 {l : Launch} {fr : Bool} {n : Nat} {z : ZMem × Int32} (s0 : Int32) (μ : ZMem) (h : fX6_isPersonOrNone_b18 n s0 μ = some z) : V (zkI l mX6_isPersonOrNone (rmd 3) fr n z) fr 18 [] [.int s0] n μ := by
  unfold fX6_isPersonOrNone_b18 at h
  obtain ⟨b1, h⟩ := chk_some h
  cases h
  exact V_zret (zdk tbX6_isPersonOrNone_0_ok 10 rfl) rfl (b01_n b1) rfl
def fX6_isPersonOrNone_b13 (n : Nat) (μ : ZMem) : Option (ZMem × Int32) := (fX6_isPersonOrNone_b18 n (1 : Int32) μ)
theorem tX6_isPersonOrNone_b13 {l : Launch} {fr : Bool} {n : Nat} {z : ZMem × Int32} (μ : ZMem) (h : fX6_isPersonOrNone_b13 n μ = some z) : V (zkI l mX6_isPersonOrNone (rmd 3) fr n z) fr 13 [] [] n μ := by
  unfold fX6_isPersonOrNone_b13 at h
  refine V_iconst (v := 1) (zdk tbX6_isPersonOrNone_0_ok 7 rfl) rfl ?_
  refine V_goto (tgt := 18) (zdk tbX6_isPersonOrNone_0_ok 8 rfl) (by decide) ?_
  exact tX6_isPersonOrNone_b18 (1 : Int32) μ  h
def fX6_isPersonOrNone (n : Nat) (v0 : Nat) (v1 : Int32) (μ : ZMem) : Option (ZMem × Int32) := chk (isC n 6 v0) ((if v1 = (-1 : Int32) then (fX6_isPersonOrNone_b13 n  μ) else bd2 (fX6_isPerson n v0 v1 μ) (fun μ3 r4 => (if r4 = 0 then (fX6_isPersonOrNone_b18 n (0 : Int32) μ3) else (fX6_isPersonOrNone_b13 n  μ3)))))
theorem tX6_isPersonOrNone {l : Launch} {fr : Bool} {n : Nat} {v0 : Nat} {v1 : Int32} {μ : ZMem} {z : ZMem × Int32} (h : fX6_isPersonOrNone n v0 v1 μ = some z) : ZFn l mX6_isPersonOrNone (rmd 3) [.ref v0, .int v1] fr n μ (fr, n, z.1, some (.int z.2)) := by
  unfold fX6_isPersonOrNone at h
  obtain ⟨c_v0, h⟩ := chk_some h
  refine ZFn.of (ls := [(0, .ref v0), (1, .int v1)]) (by decide) (fun ξ => Nat.le_of_ble_eq_true rfl) (fun ξ => rfl) ?_
  refine V_iload_n 1 (zdk tbX6_isPersonOrNone_0_ok 0 rfl) rfl ?_
  refine V_iconst (v := (-1)) (zdk tbX6_isPersonOrNone_0_ok 1 rfl) rfl ?_
  refine V_icmp_eq (tgt := 13) (zdk tbX6_isPersonOrNone_0_ok 2 rfl) (by decide) (fun c1 => ?_) (fun c1 => ?_)
  · replace h := ite_t h c1
    refine V_sub (ls' := []) [] rfl ?_
    exact tX6_isPersonOrNone_b13  μ  h
  · replace h := ite_f h c1
    refine V_aload_n 0 (zdk tbX6_isPersonOrNone_0_ok 3 rfl) rfl ?_
    refine V_iload_n 1 (zdk tbX6_isPersonOrNone_0_ok 4 rfl) rfl ?_
    obtain ⟨μ3, r4, q2, h⟩ := bd2_some h
    refine V_callV (R1 := (rmd 2)) (As := [.int v1]) (r := (some (.int r4))) (zdk tbX6_isPersonOrNone_0_ok 5 rfl) sC6_122 (tX6_isPerson q2) (c_v0) rfl rfl rfl ⟨Nat.le_of_ble_eq_true rfl, Nat.le_of_ble_eq_true rfl⟩ (Nat.le_of_ble_eq_true rfl) ⟨rfl, rfl⟩ id ?_
    refine V_if_eq (tgt := 17) (zdk tbX6_isPersonOrNone_0_ok 6 rfl) (by decide) (fun c5 => ?_) (fun c5 => ?_)
    · replace h := ite_t h c5
      refine V_iconst (v := 0) (zdk tbX6_isPersonOrNone_0_ok 9 rfl) rfl ?_
      refine V_sub (ls' := []) [] rfl ?_
      exact tX6_isPersonOrNone_b18 (0 : Int32) μ3  h
    · replace h := ite_f h c5
      refine V_sub (ls' := []) [] rfl ?_
      exact tX6_isPersonOrNone_b13  μ3  h

-- WhoComplainsCarries.show
def tbX6_show_0 : List (Nat × Instr × Nat) := [(0, .iload_n 1, 1), (1, .invokestatic 62, 3), (4, .ifCond .eq 11, 3), (7, .aload_n 0, 1), (8, .iload_n 2, 1), (9, .invokevirtual 96, 3), (12, .ifCond .ne 9, 3), (15, .aload_n 0, 1), (16, .iconst (-1), 1), (17, .invokevirtual 66, 3), (20, .ireturn, 1), (21, .iload_n 2, 1), (22, .iconst (-1), 1), (23, .if_icmp .ne 14, 3), (26, .aload_n 0, 1), (27, .getfield 11, 3), (30, .iload_n 1, 1), (31, .aaload, 1), (32, .invokevirtual 99, 3), (35, .iconst 0, 1), (36, .ireturn, 1), (37, .aload_n 0, 1), (38, .getfield 11, 3), (41, .iload_n 1, 1), (42, .aaload, 1), (43, .iload_n 2, 1), (44, .invokevirtual 102, 3), (47, .iconst 1, 1), (48, .ireturn, 1)]
theorem tbX6_show_0_ok : ∀ q ∈ tbX6_show_0, decode cX6_show q.1 = .ok (q.2.1, q.2.2) := by decide +kernel
theorem wCX6_isPersonOrNone : zCW mX6_isPersonOrNone 1 := ⟨zin (i := 1) (by decide +kernel) rfl, zin (i := 328) (by decide +kernel) rfl, by decide +kernel, by decide +kernel, by decide +kernel⟩
theorem sC6_96 : zCV RX6 96 mX6_isPersonOrNone 1 := ⟨zin (i := 325) (by decide +kernel) rfl, zin (i := 327) (by decide +kernel) rfl, zinP (i := 3) (q := (yX6_isPersonOrNone, 10)) (by decide +kernel) rfl, wCX6_isPersonOrNone⟩
theorem wCX3_holdPerson : zCW mX3_holdPerson 1 := ⟨zin (i := 2) (by decide +kernel) rfl, zin (i := 340) (by decide +kernel) rfl, by decide +kernel, by decide +kernel, by decide +kernel⟩
theorem sC6_102 : zCV RX6 102 mX3_holdPerson 1 := ⟨zin (i := 337) (by decide +kernel) rfl, zin (i := 338) (by decide +kernel) rfl, zin (i := 339) (by decide +kernel) rfl, wCX3_holdPerson⟩
theorem wCX3_holdNothing : zCW mX3_holdNothing 0 := ⟨zin (i := 2) (by decide +kernel) rfl, zin (i := 336) (by decide +kernel) rfl, by decide +kernel, by decide +kernel, by decide +kernel⟩
theorem sC6_99 : zCV RX6 99 mX3_holdNothing 0 := ⟨zin (i := 333) (by decide +kernel) rfl, zin (i := 334) (by decide +kernel) rfl, zin (i := 335) (by decide +kernel) rfl, wCX3_holdNothing⟩
def fX6_show_b15 (n : Nat) (v0 : Nat) (μ : ZMem) : Option (ZMem × Int32) := bd2 (fX6_refuse n v0 (-1 : Int32) μ) (fun μ2 r3 => some (μ2, r3))
theorem tX6_show_b15 {l : Launch} {fr : Bool} {n : Nat} {z : ZMem × Int32} (v0 : Nat) (μ : ZMem) (c_v0 : isC n 6 v0 = true) (h : fX6_show_b15 n v0 μ = some z) : V (zkI l mX6_show (rmd 4) fr n z) fr 15 [(0, .ref v0)] [] n μ := by
  unfold fX6_show_b15 at h
  refine V_aload_n 0 (zdk tbX6_show_0_ok 7 rfl) rfl ?_
  refine V_iconst (v := (-1)) (zdk tbX6_show_0_ok 8 rfl) rfl ?_
  obtain ⟨μ2, r3, q1, h⟩ := bd2_some h
  refine V_callV (R1 := (rmd 2)) (As := [.int (-1 : Int32)]) (r := (some (.int r3))) (zdk tbX6_show_0_ok 9 rfl) sC6_66 (tX6_refuse q1) (c_v0) rfl rfl rfl ⟨Nat.le_of_ble_eq_true rfl, Nat.le_of_ble_eq_true rfl⟩ (Nat.le_of_ble_eq_true rfl) ⟨rfl, rfl⟩ id ?_
  cases h
  exact V_iret (zdk tbX6_show_0_ok 10 rfl) rfl rfl
def fX6_show (n : Nat) (v0 : Nat) (v1 : Int32) (v2 : Int32) (μ : ZMem) : Option (ZMem × Int32) := chk (isC n 6 v0) (bd2 (fX6_isShelf n v1 μ) (fun μ2 r3 => (if r3 = 0 then (fX6_show_b15 n v0 μ2) else bd2 (fX6_isPersonOrNone n v0 v2 μ2) (fun μ6 r7 => (if r7 = 0 then (fX6_show_b15 n v0 μ6) else (if v2 = (-1 : Int32) then bd1 (zRc n 104 μ6 v0 0) (fun r17 => chk (inb v1 r17) (bd1 (zRc n 3 μ6 r17 v1.toNatClampNeg) (fun r20 => bd1 (fX3_holdNothing n r20 μ6) (fun μ23 => some (μ23, (0 : Int32)))))) else bd1 (zRc n 104 μ6 v0 0) (fun r10 => chk (inb v1 r10) (bd1 (zRc n 3 μ6 r10 v1.toNatClampNeg) (fun r13 => bd1 (fX3_holdPerson n r13 v2 μ6) (fun μ16 => some (μ16, (1 : Int32))))))))))))
theorem tX6_show {l : Launch} {fr : Bool} {n : Nat} {v0 : Nat} {v1 : Int32} {v2 : Int32} {μ : ZMem} {z : ZMem × Int32} (h : fX6_show n v0 v1 v2 μ = some z) : ZFn l mX6_show (rmd 4) [.ref v0, .int v1, .int v2] fr n μ (fr, n, z.1, some (.int z.2)) := by
  unfold fX6_show at h
  obtain ⟨c_v0, h⟩ := chk_some h
  refine ZFn.of (ls := [(0, .ref v0), (1, .int v1), (2, .int v2)]) (by decide) (fun ξ => Nat.le_of_ble_eq_true rfl) (fun ξ => rfl) ?_
  refine V_iload_n 1 (zdk tbX6_show_0_ok 0 rfl) rfl ?_
  obtain ⟨μ2, r3, q1, h⟩ := bd2_some h
  refine V_callS (R1 := (rmd 2)) (As := [.int v1]) (r := (some (.int r3))) (zdk tbX6_show_0_ok 1 rfl) sC6_62 (tX6_isShelf q1) rfl rfl ⟨Nat.le_of_ble_eq_true rfl, Nat.le_of_ble_eq_true rfl⟩ (Nat.le_of_ble_eq_true rfl) ⟨rfl, rfl⟩ id ?_
  refine V_if_eq (tgt := 15) (zdk tbX6_show_0_ok 2 rfl) (by decide) (fun c4 => ?_) (fun c4 => ?_)
  · replace h := ite_t h c4
    refine V_sub (ls' := [(0, .ref v0)]) [0] rfl ?_
    exact tX6_show_b15 v0 μ2 c_v0 h
  · replace h := ite_f h c4
    refine V_aload_n 0 (zdk tbX6_show_0_ok 3 rfl) rfl ?_
    refine V_iload_n 2 (zdk tbX6_show_0_ok 4 rfl) rfl ?_
    obtain ⟨μ6, r7, q5, h⟩ := bd2_some h
    refine V_callV (R1 := (rmd 3)) (As := [.int v2]) (r := (some (.int r7))) (zdk tbX6_show_0_ok 5 rfl) sC6_96 (tX6_isPersonOrNone q5) (c_v0) rfl rfl rfl ⟨Nat.le_of_ble_eq_true rfl, Nat.le_of_ble_eq_true rfl⟩ (Nat.le_of_ble_eq_true rfl) ⟨rfl, rfl⟩ id ?_
    refine V_if_ne (tgt := 21) (zdk tbX6_show_0_ok 6 rfl) (by decide) (fun c8 => ?_) (fun c8 => ?_)
    · replace h := ite_f h c8
      refine V_iload_n 2 (zdk tbX6_show_0_ok 11 rfl) rfl ?_
      refine V_iconst (v := (-1)) (zdk tbX6_show_0_ok 12 rfl) rfl ?_
      refine V_icmp_ne (tgt := 37) (zdk tbX6_show_0_ok 13 rfl) (by decide) (fun c9 => ?_) (fun c9 => ?_)
      · replace h := ite_f h c9
        refine V_aload_n 0 (zdk tbX6_show_0_ok 21 rfl) rfl ?_
        obtain ⟨r10, q11, h⟩ := bd1_some h
        obtain ⟨q11, c_r10⟩ := zRc_some q11
        refine V_getR (zdk tbX6_show_0_ok 22 rfl) c_v0 fF6_11 rfl q11 ?_
        refine V_iload_n 1 (zdk tbX6_show_0_ok 23 rfl) rfl ?_
        obtain ⟨b12, h⟩ := chk_some h
        obtain ⟨r13, q14, h⟩ := bd1_some h
        obtain ⟨q14, c_r13⟩ := zRc_some q14
        refine V_aald4 (zdk tbX6_show_0_ok 24 rfl) c_r10 b12 q14 ?_
        refine V_iload_n 2 (zdk tbX6_show_0_ok 25 rfl) rfl ?_
        obtain ⟨μ16, q15, h⟩ := bd1_some h
        refine V_callV (R1 := (rmd 1)) (As := [.int v2]) (r := none) (zdk tbX6_show_0_ok 26 rfl) sC6_102 (tX3_holdPerson q15) (c_r13) rfl rfl rfl ⟨Nat.le_of_ble_eq_true rfl, Nat.le_of_ble_eq_true rfl⟩ (Nat.le_of_ble_eq_true rfl) ⟨rfl, rfl⟩ id ?_
        refine V_iconst (v := 1) (zdk tbX6_show_0_ok 27 rfl) rfl ?_
        cases h
        exact V_iret (zdk tbX6_show_0_ok 28 rfl) rfl rfl
      · replace h := ite_t h c9
        refine V_aload_n 0 (zdk tbX6_show_0_ok 14 rfl) rfl ?_
        obtain ⟨r17, q18, h⟩ := bd1_some h
        obtain ⟨q18, c_r17⟩ := zRc_some q18
        refine V_getR (zdk tbX6_show_0_ok 15 rfl) c_v0 fF6_11 rfl q18 ?_
        refine V_iload_n 1 (zdk tbX6_show_0_ok 16 rfl) rfl ?_
        obtain ⟨b19, h⟩ := chk_some h
        obtain ⟨r20, q21, h⟩ := bd1_some h
        obtain ⟨q21, c_r20⟩ := zRc_some q21
        refine V_aald4 (zdk tbX6_show_0_ok 17 rfl) c_r17 b19 q21 ?_
        obtain ⟨μ23, q22, h⟩ := bd1_some h
        refine V_callV (R1 := (rmd 1)) (As := []) (r := none) (zdk tbX6_show_0_ok 18 rfl) sC6_99 (tX3_holdNothing q22) (c_r20) rfl rfl rfl ⟨Nat.le_of_ble_eq_true rfl, Nat.le_of_ble_eq_true rfl⟩ (Nat.le_of_ble_eq_true rfl) ⟨rfl, rfl⟩ id ?_
        refine V_iconst (v := 0) (zdk tbX6_show_0_ok 19 rfl) rfl ?_
        cases h
        exact V_iret (zdk tbX6_show_0_ok 20 rfl) rfl rfl
    · replace h := ite_t h c8
      refine V_sub (ls' := [(0, .ref v0)]) [0] rfl ?_
      exact tX6_show_b15 v0 μ6 c_v0 h

-- WhoComplainsCarries.holds
def tbX6_holds_0 : List (Nat × Instr × Nat) := [(0, .iload_n 1, 1), (1, .invokestatic 62, 3), (4, .ifCond .ne 5, 3), (7, .iconst (-1), 1), (8, .ireturn, 1), (9, .aload_n 0, 1), (10, .getfield 11, 3), (13, .iload_n 1, 1), (14, .aaload, 1), (15, .astore_n 2, 1), (16, .aload_n 2, 1), (17, .invokevirtual 106, 3), (20, .ifCond .eq 11, 3), (23, .bipush 100, 2), (25, .aload_n 2, 1), (26, .getfield 110, 3), (29, .iadd, 1), (30, .ireturn, 1), (31, .aload_n 2, 1), (32, .invokevirtual 113, 3), (35, .ifCond .eq 10, 3), (38, .aload_n 2, 1), (39, .getfield 116, 3), (42, .goto 4, 3), (45, .iconst (-1), 1), (46, .ireturn, 1)]
theorem tbX6_holds_0_ok : ∀ q ∈ tbX6_holds_0, decode cX6_holds q.1 = .ok (q.2.1, q.2.2) := by decide +kernel
theorem fF6_116 : zF RX6 116 3 3 := ⟨_, rfl, by decide, zin (i := 37) (by decide +kernel) rfl⟩
def fX6_holds_b46 (n : Nat) (s0 : Int32) (μ : ZMem) : Option (ZMem × Int32) := some (μ, s0)
theorem tX6_holds_b46 {l : Launch} {fr : Bool} {n : Nat} {z : ZMem × Int32} (s0 : Int32) (μ : ZMem) (h : fX6_holds_b46 n s0 μ = some z) : V (zkI l mX6_holds (rmd 3) fr n z) fr 46 [] [.int s0] n μ := by
  unfold fX6_holds_b46 at h
  cases h
  exact V_iret (zdk tbX6_holds_0_ok 25 rfl) rfl rfl
def fX6_holds (n : Nat) (v0 : Nat) (v1 : Int32) (μ : ZMem) : Option (ZMem × Int32) := chk (isC n 6 v0) (bd2 (fX6_isShelf n v1 μ) (fun μ2 r3 => (if r3 = 0 then some (μ2, (-1 : Int32)) else bd1 (zRc n 104 μ2 v0 0) (fun r5 => chk (inb v1 r5) (bd1 (zRc n 3 μ2 r5 v1.toNatClampNeg) (fun r8 => bd2 (fX3_isRow n r8 μ2) (fun μ11 r12 => (if r12 = 0 then bd2 (fX3_isPerson n r8 μ11) (fun μ15 r16 => (if r16 = 0 then (fX6_holds_b46 n (-1 : Int32) μ15) else (fX6_holds_b46 n (zI μ15 r8 3) μ15))) else some (μ11, ((100 : Int32) + (zI μ11 r8 1)))))))))))
theorem tX6_holds {l : Launch} {fr : Bool} {n : Nat} {v0 : Nat} {v1 : Int32} {μ : ZMem} {z : ZMem × Int32} (h : fX6_holds n v0 v1 μ = some z) : ZFn l mX6_holds (rmd 3) [.ref v0, .int v1] fr n μ (fr, n, z.1, some (.int z.2)) := by
  unfold fX6_holds at h
  obtain ⟨c_v0, h⟩ := chk_some h
  refine ZFn.of (ls := [(0, .ref v0), (1, .int v1)]) (by decide) (fun ξ => Nat.le_of_ble_eq_true rfl) (fun ξ => rfl) ?_
  refine V_iload_n 1 (zdk tbX6_holds_0_ok 0 rfl) rfl ?_
  obtain ⟨μ2, r3, q1, h⟩ := bd2_some h
  refine V_callS (R1 := (rmd 2)) (As := [.int v1]) (r := (some (.int r3))) (zdk tbX6_holds_0_ok 1 rfl) sC6_62 (tX6_isShelf q1) rfl rfl ⟨Nat.le_of_ble_eq_true rfl, Nat.le_of_ble_eq_true rfl⟩ (Nat.le_of_ble_eq_true rfl) ⟨rfl, rfl⟩ id ?_
  refine V_if_ne (tgt := 9) (zdk tbX6_holds_0_ok 2 rfl) (by decide) (fun c4 => ?_) (fun c4 => ?_)
  · replace h := ite_f h c4
    refine V_aload_n 0 (zdk tbX6_holds_0_ok 5 rfl) rfl ?_
    obtain ⟨r5, q6, h⟩ := bd1_some h
    obtain ⟨q6, c_r5⟩ := zRc_some q6
    refine V_getR (zdk tbX6_holds_0_ok 6 rfl) c_v0 fF6_11 rfl q6 ?_
    refine V_iload_n 1 (zdk tbX6_holds_0_ok 7 rfl) rfl ?_
    obtain ⟨b7, h⟩ := chk_some h
    obtain ⟨r8, q9, h⟩ := bd1_some h
    obtain ⟨q9, c_r8⟩ := zRc_some q9
    refine V_aald4 (zdk tbX6_holds_0_ok 8 rfl) c_r5 b7 q9 ?_
    refine V_astore_n (ls' := [(2, .ref r8)]) [0] (zdk tbX6_holds_0_ok 9 rfl) (Nat.le_of_ble_eq_true rfl) rfl ?_
    refine V_aload_n 0 (zdk tbX6_holds_0_ok 10 rfl) rfl ?_
    obtain ⟨μ11, r12, q10, h⟩ := bd2_some h
    refine V_callV (R1 := (rmd 1)) (As := []) (r := (some (.int r12))) (zdk tbX6_holds_0_ok 11 rfl) sC6_106 (tX3_isRow q10) (c_r8) rfl rfl rfl ⟨Nat.le_of_ble_eq_true rfl, Nat.le_of_ble_eq_true rfl⟩ (Nat.le_of_ble_eq_true rfl) ⟨rfl, rfl⟩ id ?_
    refine V_if_eq (tgt := 31) (zdk tbX6_holds_0_ok 12 rfl) (by decide) (fun c13 => ?_) (fun c13 => ?_)
    · replace h := ite_t h c13
      refine V_aload_n 0 (zdk tbX6_holds_0_ok 18 rfl) rfl ?_
      obtain ⟨μ15, r16, q14, h⟩ := bd2_some h
      refine V_callV (R1 := (rmd 1)) (As := []) (r := (some (.int r16))) (zdk tbX6_holds_0_ok 19 rfl) sC6_113 (tX3_isPerson q14) (c_r8) rfl rfl rfl ⟨Nat.le_of_ble_eq_true rfl, Nat.le_of_ble_eq_true rfl⟩ (Nat.le_of_ble_eq_true rfl) ⟨rfl, rfl⟩ id ?_
      refine V_if_eq (tgt := 45) (zdk tbX6_holds_0_ok 20 rfl) (by decide) (fun c17 => ?_) (fun c17 => ?_)
      · replace h := ite_t h c17
        refine V_iconst (v := (-1)) (zdk tbX6_holds_0_ok 24 rfl) rfl ?_
        refine V_sub (ls' := []) [] rfl ?_
        exact tX6_holds_b46 (-1 : Int32) μ15  h
      · replace h := ite_f h c17
        refine V_aload_n 0 (zdk tbX6_holds_0_ok 21 rfl) rfl ?_
        refine V_getI (zdk tbX6_holds_0_ok 22 rfl) c_r8 fF6_116 rfl ?_
        refine V_goto (tgt := 46) (zdk tbX6_holds_0_ok 23 rfl) (by decide) ?_
        refine V_sub (ls' := []) [] rfl ?_
        exact tX6_holds_b46 (zI μ15 r8 3) μ15  h
    · replace h := ite_f h c13
      refine V_bipush (v := 100) (zdk tbX6_holds_0_ok 13 rfl) rfl ?_
      refine V_aload_n 0 (zdk tbX6_holds_0_ok 14 rfl) rfl ?_
      refine V_getI (zdk tbX6_holds_0_ok 15 rfl) c_r8 fF6_110 rfl ?_
      refine V_iadd (zdk tbX6_holds_0_ok 16 rfl) ?_
      cases h
      exact V_iret (zdk tbX6_holds_0_ok 17 rfl) rfl rfl
  · replace h := ite_t h c4
    refine V_iconst (v := (-1)) (zdk tbX6_holds_0_ok 3 rfl) rfl ?_
    cases h
    exact V_iret (zdk tbX6_holds_0_ok 4 rfl) rfl rfl

-- WhoComplainsCarries.isUnder
def tbX6_isUnder_0 : List (Nat × Instr × Nat) := [(0, .iload_n 0, 1), (1, .istore_n 2, 1), (2, .iconst 0, 1), (3, .istore_n 3, 1), (4, .iload_n 3, 1), (5, .bipush 7, 2), (7, .if_icmp .ge 19, 3), (10, .iload_n 2, 1), (11, .iload_n 1, 1), (12, .if_icmp .eq 14, 3), (15, .iload_n 2, 1), (16, .invokestatic 290, 3), (19, .istore_n 2, 1), (20, .iinc 3 1, 3), (23, .goto (-19), 3), (26, .iload_n 2, 1), (27, .iload_n 1, 1), (28, .if_icmp .ne 7, 3), (31, .iconst 1, 1), (32, .goto 4, 3), (35, .iconst 0, 1), (36, .ireturn, 1)]
theorem tbX6_isUnder_0_ok : ∀ q ∈ tbX6_isUnder_0, decode cX6_isUnder q.1 = .ok (q.2.1, q.2.2) := by decide +kernel
theorem sC6_290 : zCS RX6 290 mX6_kindAbove 1 := ⟨zin (i := 355) (by decide +kernel) rfl, zin (i := 356) (by decide +kernel) rfl, wCX6_kindAbove⟩
def fX6_isUnder_b36 (n : Nat) (s0 : Int32) (μ : ZMem) : Option (ZMem × Int32) := chk (b01 s0) (some (μ, s0))
theorem tX6_isUnder_b36 {l : Launch} {fr : Bool} {n : Nat} {z : ZMem × Int32} (s0 : Int32) (μ : ZMem) (h : fX6_isUnder_b36 n s0 μ = some z) : V (zkI l mX6_isUnder (rmd 4) fr n z) fr 36 [] [.int s0] n μ := by
  unfold fX6_isUnder_b36 at h
  obtain ⟨b1, h⟩ := chk_some h
  cases h
  exact V_zret (zdk tbX6_isUnder_0_ok 21 rfl) rfl (b01_n b1) rfl
def fX6_isUnder_b26 (n : Nat) (v1 : Int32) (v2 : Int32) (μ : ZMem) : Option (ZMem × Int32) := (if v2 = v1 then (fX6_isUnder_b36 n (1 : Int32) μ) else (fX6_isUnder_b36 n (0 : Int32) μ))
theorem tX6_isUnder_b26 {l : Launch} {fr : Bool} {n : Nat} {z : ZMem × Int32} (v1 : Int32) (v2 : Int32) (μ : ZMem) (h : fX6_isUnder_b26 n v1 v2 μ = some z) : V (zkI l mX6_isUnder (rmd 4) fr n z) fr 26 [(1, .int v1), (2, .int v2)] [] n μ := by
  unfold fX6_isUnder_b26 at h
  refine V_iload_n 1 (zdk tbX6_isUnder_0_ok 15 rfl) rfl ?_
  refine V_iload_n 0 (zdk tbX6_isUnder_0_ok 16 rfl) rfl ?_
  refine V_icmp_ne (tgt := 35) (zdk tbX6_isUnder_0_ok 17 rfl) (by decide) (fun c1 => ?_) (fun c1 => ?_)
  · replace h := ite_f h c1
    refine V_iconst (v := 0) (zdk tbX6_isUnder_0_ok 20 rfl) rfl ?_
    refine V_sub (ls' := []) [] rfl ?_
    exact tX6_isUnder_b36 (0 : Int32) μ  h
  · replace h := ite_t h c1
    refine V_iconst (v := 1) (zdk tbX6_isUnder_0_ok 18 rfl) rfl ?_
    refine V_goto (tgt := 36) (zdk tbX6_isUnder_0_ok 19 rfl) (by decide) ?_
    refine V_sub (ls' := []) [] rfl ?_
    exact tX6_isUnder_b36 (1 : Int32) μ  h
def fX6_isUnder_b4 (n : Nat) : Nat → Int32 → Int32 → Int32 → ZMem → Option (ZMem × Int32)
  | 0, _, _, _, _ => none
  | k + 1, v1, v2, v3, μ => (if (7 : Int32) ≤ v3 then (fX6_isUnder_b26 n v1 v2 μ) else (if v2 = v1 then (fX6_isUnder_b26 n v1 v2 μ) else bd2 (fX6_kindAbove n v2 μ) (fun μ4 r5 => (fX6_isUnder_b4 n k v1 r5 (v3 + (1 : Int32)) μ4))))
theorem tX6_isUnder_b4 {l : Launch} {fr : Bool} {n : Nat} {z : ZMem × Int32} : ∀ (k : Nat) (v1 : Int32) (v2 : Int32) (v3 : Int32) (μ : ZMem), fX6_isUnder_b4 n k v1 v2 v3 μ = some z → V (zkI l mX6_isUnder (rmd 4) fr n z) fr 4 [(1, .int v1), (2, .int v2), (3, .int v3)] [] n μ := by
  intro k
  induction k with
  | zero =>
    intro v1 v2 v3 μ  h
    unfold fX6_isUnder_b4 at h
    cases h
  | succ k ih =>
    intro v1 v2 v3 μ  h
    unfold fX6_isUnder_b4 at h
    refine V_iload_n 2 (zdk tbX6_isUnder_0_ok 4 rfl) rfl ?_
    refine V_bipush (v := 7) (zdk tbX6_isUnder_0_ok 5 rfl) rfl ?_
    refine V_icmp_ge (tgt := 26) (zdk tbX6_isUnder_0_ok 6 rfl) (by decide) (fun c1 => ?_) (fun c1 => ?_)
    · replace h := ite_t h c1
      refine V_sub (ls' := [(1, .int v1), (2, .int v2)]) [0, 1] rfl ?_
      exact tX6_isUnder_b26 v1 v2 μ  h
    · replace h := ite_f h c1
      refine V_iload_n 1 (zdk tbX6_isUnder_0_ok 7 rfl) rfl ?_
      refine V_iload_n 0 (zdk tbX6_isUnder_0_ok 8 rfl) rfl ?_
      refine V_icmp_eq (tgt := 26) (zdk tbX6_isUnder_0_ok 9 rfl) (by decide) (fun c2 => ?_) (fun c2 => ?_)
      · replace h := ite_t h c2
        refine V_sub (ls' := [(1, .int v1), (2, .int v2)]) [0, 1] rfl ?_
        exact tX6_isUnder_b26 v1 v2 μ  h
      · replace h := ite_f h c2
        refine V_iload_n 1 (zdk tbX6_isUnder_0_ok 10 rfl) rfl ?_
        obtain ⟨μ4, r5, q3, h⟩ := bd2_some h
        refine V_callS (R1 := (rmd 3)) (As := [.int v2]) (r := (some (.int r5))) (zdk tbX6_isUnder_0_ok 11 rfl) sC6_290 (tX6_kindAbove q3) rfl rfl ⟨Nat.le_of_ble_eq_true rfl, Nat.le_of_ble_eq_true rfl⟩ (Nat.le_of_ble_eq_true rfl) ⟨rfl, rfl⟩ id ?_
        refine V_istore_n (ls' := [(1, .int v1), (2, .int r5), (3, .int v3)]) [1, 0, 2] (zdk tbX6_isUnder_0_ok 12 rfl) (Nat.le_of_ble_eq_true rfl) rfl ?_
        refine V_inc (dx := 1) (ls' := [(1, .int v1), (2, .int r5), (3, .int (v3 + (1 : Int32)))]) 2 [1, 2, 0] (zdk tbX6_isUnder_0_ok 13 rfl) rfl (Nat.le_of_ble_eq_true rfl) rfl rfl ?_
        refine V_goto (tgt := 4) (zdk tbX6_isUnder_0_ok 14 rfl) (by decide) ?_
        exact ih v1 r5 (v3 + (1 : Int32)) μ4  h
def fX6_isUnder (n : Nat) (v0 : Int32) (v1 : Int32) (μ : ZMem) : Option (ZMem × Int32) := (fX6_isUnder_b4 n FU v1 v0 (0 : Int32) μ)
theorem tX6_isUnder {l : Launch} {fr : Bool} {n : Nat} {v0 : Int32} {v1 : Int32} {μ : ZMem} {z : ZMem × Int32} (h : fX6_isUnder n v0 v1 μ = some z) : ZFn l mX6_isUnder (rmd 4) [.int v0, .int v1] fr n μ (fr, n, z.1, some (.int z.2)) := by
  unfold fX6_isUnder at h
  refine ZFn.of (ls := [(0, .int v0), (1, .int v1)]) (by decide) (fun ξ => Nat.le_of_ble_eq_true rfl) (fun ξ => rfl) ?_
  refine V_iload_n 0 (zdk tbX6_isUnder_0_ok 0 rfl) rfl ?_
  refine V_istore_n (ls' := [(1, .int v1), (2, .int v0)]) [2, 0] (zdk tbX6_isUnder_0_ok 1 rfl) (Nat.le_of_ble_eq_true rfl) rfl ?_
  refine V_iconst (v := 0) (zdk tbX6_isUnder_0_ok 2 rfl) rfl ?_
  refine V_istore_n (ls' := [(1, .int v1), (2, .int v0), (3, .int (0 : Int32))]) [1, 2, 0] (zdk tbX6_isUnder_0_ok 3 rfl) (Nat.le_of_ble_eq_true rfl) rfl ?_
  exact tX6_isUnder_b4 FU v1 v0 (0 : Int32) μ  h

-- WhoComplainsCarries.says
def tbX6_says_0 : List (Nat × Instr × Nat) := [(0, .iload_n 1, 1), (1, .invokestatic 62, 3), (4, .ifCond .eq 10, 3), (7, .iload_n 2, 1), (8, .invokestatic 119, 3), (11, .ifCond .ne 9, 3), (14, .aload_n 0, 1), (15, .iconst (-1), 1), (16, .invokevirtual 66, 3), (19, .ireturn, 1), (20, .aload_n 0, 1), (21, .getfield 11, 3), (24, .iload_n 1, 1), (25, .aaload, 1), (26, .astore_n 3, 1), (27, .aload_n 3, 1), (28, .invokevirtual 106, 3), (31, .ifCond .eq 10, 3), (34, .aload_n 0, 1), (35, .bipush (-2), 2), (37, .invokevirtual 66, 3), (40, .ireturn, 1), (41, .aload_n 3, 1), (42, .invokevirtual 113, 3), (45, .ifCond .eq 14, 3), (48, .aload_n 0, 1), (49, .aload_n 3, 1), (50, .getfield 116, 3), (53, .invokevirtual 122, 3), (56, .ifCond .ne 10, 3), (59, .aload_n 0, 1), (60, .bipush (-3), 2), (62, .invokevirtual 66, 3), (65, .ireturn, 1), (66, .aload_n 0, 1), (67, .getfield 19, 3), (70, .getfield 124, 3), (73, .aload_n 3, 1), (74, .getfield 116, 3), (77, .aaload, 1), (78, .astore 4, 2), (80, .aload 4, 2), (82, .getfield 128, 3), (85, .iload_n 2, 1), (86, .invokestatic 133, 3), (89, .ifCond .ne 10, 3), (92, .aload_n 0, 1), (93, .bipush (-2), 2), (95, .invokevirtual 66, 3), (98, .ireturn, 1)]
theorem tbX6_says_0_ok : ∀ q ∈ tbX6_says_0, decode cX6_says q.1 = .ok (q.2.1, q.2.2) := by decide +kernel
def tbX6_says_1 : List (Nat × Instr × Nat) := [(99, .iload_n 2, 1), (100, .tableswitch 72 1 6 #[40, 46, 40, 59, 46, 59], 40), (140, .aload 4, 2), (142, .invokevirtual 137, 3), (145, .ireturn, 1), (146, .aload 4, 2), (148, .aload_n 0, 1), (149, .getfield 19, 3), (152, .getfield 141, 3), (155, .invokevirtual 144, 3), (158, .ireturn, 1), (159, .aload 4, 2), (161, .aload_n 0, 1), (162, .getfield 19, 3), (165, .getfield 141, 3), (168, .invokevirtual 147, 3), (171, .ireturn, 1), (172, .aload 4, 2), (174, .getfield 150, 3), (177, .ireturn, 1)]
theorem tbX6_says_1_ok : ∀ q ∈ tbX6_says_1, decode cX6_says q.1 = .ok (q.2.1, q.2.2) := by decide +kernel
theorem sC6_137 : zCV RX6 137 mX1_limit 0 := ⟨zin (i := 360) (by decide +kernel) rfl, zin (i := 361) (by decide +kernel) rfl, zin (i := 362) (by decide +kernel) rfl, wCX1_limit⟩
theorem fF6_141 : zF RX6 141 4 2 := ⟨_, rfl, by decide, zin (i := 101) (by decide +kernel) rfl⟩
theorem sC6_144 : zCV RX6 144 mX1_toil 1 := ⟨zin (i := 364) (by decide +kernel) rfl, zin (i := 365) (by decide +kernel) rfl, zin (i := 366) (by decide +kernel) rfl, wCX1_toil⟩
theorem sC6_147 : zCV RX6 147 mX1_pace 1 := ⟨zin (i := 371) (by decide +kernel) rfl, zin (i := 372) (by decide +kernel) rfl, zin (i := 373) (by decide +kernel) rfl, wCX1_pace⟩
theorem fF6_124 : zF RX6 124 4 0 := ⟨_, rfl, by decide, zin (i := 94) (by decide +kernel) rfl⟩
theorem fF6_128 : zF RX6 128 1 0 := ⟨_, rfl, by decide, zin (i := 70) (by decide +kernel) rfl⟩
theorem wCX6_isUnder : zCW mX6_isUnder 2 := ⟨zin (i := 1) (by decide +kernel) rfl, zin (i := 354) (by decide +kernel) rfl, by decide +kernel, by decide +kernel, by decide +kernel⟩
theorem sC6_133 : zCS RX6 133 mX6_isUnder 2 := ⟨zin (i := 352) (by decide +kernel) rfl, zin (i := 353) (by decide +kernel) rfl, wCX6_isUnder⟩
theorem fF6_150 : zF RX6 150 1 4 := ⟨_, rfl, by decide, zin (i := 80) (by decide +kernel) rfl⟩
def fX6_says_b14 (n : Nat) (v0 : Nat) (μ : ZMem) : Option (ZMem × Int32) := bd2 (fX6_refuse n v0 (-1 : Int32) μ) (fun μ2 r3 => some (μ2, r3))
theorem tX6_says_b14 {l : Launch} {fr : Bool} {n : Nat} {z : ZMem × Int32} (v0 : Nat) (μ : ZMem) (c_v0 : isC n 6 v0 = true) (h : fX6_says_b14 n v0 μ = some z) : V (zkI l mX6_says (rmd 5) fr n z) fr 14 [(0, .ref v0)] [] n μ := by
  unfold fX6_says_b14 at h
  refine V_aload_n 0 (zdk tbX6_says_0_ok 6 rfl) rfl ?_
  refine V_iconst (v := (-1)) (zdk tbX6_says_0_ok 7 rfl) rfl ?_
  obtain ⟨μ2, r3, q1, h⟩ := bd2_some h
  refine V_callV (R1 := (rmd 2)) (As := [.int (-1 : Int32)]) (r := (some (.int r3))) (zdk tbX6_says_0_ok 8 rfl) sC6_66 (tX6_refuse q1) (c_v0) rfl rfl rfl ⟨Nat.le_of_ble_eq_true rfl, Nat.le_of_ble_eq_true rfl⟩ (Nat.le_of_ble_eq_true rfl) ⟨rfl, rfl⟩ id ?_
  cases h
  exact V_iret (zdk tbX6_says_0_ok 9 rfl) rfl rfl
def fX6_says_b59 (n : Nat) (v0 : Nat) (μ : ZMem) : Option (ZMem × Int32) := bd2 (fX6_refuse n v0 (-3 : Int32) μ) (fun μ2 r3 => some (μ2, r3))
theorem tX6_says_b59 {l : Launch} {fr : Bool} {n : Nat} {z : ZMem × Int32} (v0 : Nat) (μ : ZMem) (c_v0 : isC n 6 v0 = true) (h : fX6_says_b59 n v0 μ = some z) : V (zkI l mX6_says (rmd 5) fr n z) fr 59 [(0, .ref v0)] [] n μ := by
  unfold fX6_says_b59 at h
  refine V_aload_n 0 (zdk tbX6_says_0_ok 30 rfl) rfl ?_
  refine V_bipush (v := (-3)) (zdk tbX6_says_0_ok 31 rfl) rfl ?_
  obtain ⟨μ2, r3, q1, h⟩ := bd2_some h
  refine V_callV (R1 := (rmd 2)) (As := [.int (-3 : Int32)]) (r := (some (.int r3))) (zdk tbX6_says_0_ok 32 rfl) sC6_66 (tX6_refuse q1) (c_v0) rfl rfl rfl ⟨Nat.le_of_ble_eq_true rfl, Nat.le_of_ble_eq_true rfl⟩ (Nat.le_of_ble_eq_true rfl) ⟨rfl, rfl⟩ id ?_
  cases h
  exact V_iret (zdk tbX6_says_0_ok 33 rfl) rfl rfl
def fX6_says_b140 (n : Nat) (v4 : Nat) (μ : ZMem) : Option (ZMem × Int32) := bd2 (fX1_limit n v4 μ) (fun μ2 r3 => some (μ2, r3))
theorem tX6_says_b140 {l : Launch} {fr : Bool} {n : Nat} {z : ZMem × Int32} (v4 : Nat) (μ : ZMem) (c_v4 : isC n 1 v4 = true) (h : fX6_says_b140 n v4 μ = some z) : V (zkI l mX6_says (rmd 5) fr n z) fr 140 [(4, .ref v4)] [] n μ := by
  unfold fX6_says_b140 at h
  refine V_aload 0 (zdk tbX6_says_1_ok 2 rfl) rfl ?_
  obtain ⟨μ2, r3, q1, h⟩ := bd2_some h
  refine V_callV (R1 := (rmd 1)) (As := []) (r := (some (.int r3))) (zdk tbX6_says_1_ok 3 rfl) sC6_137 (tX1_limit q1) (c_v4) rfl rfl rfl ⟨Nat.le_of_ble_eq_true rfl, Nat.le_of_ble_eq_true rfl⟩ (Nat.le_of_ble_eq_true rfl) ⟨rfl, rfl⟩ id ?_
  cases h
  exact V_iret (zdk tbX6_says_1_ok 4 rfl) rfl rfl
def fX6_says_b146 (n : Nat) (v0 : Nat) (v4 : Nat) (μ : ZMem) : Option (ZMem × Int32) := bd1 (zRc n 4 μ v0 1) (fun r1 => bd2 (fX1_toil n v4 (zI μ r1 2) μ) (fun μ4 r5 => some (μ4, r5)))
theorem tX6_says_b146 {l : Launch} {fr : Bool} {n : Nat} {z : ZMem × Int32} (v0 : Nat) (v4 : Nat) (μ : ZMem) (c_v0 : isC n 6 v0 = true) (c_v4 : isC n 1 v4 = true) (h : fX6_says_b146 n v0 v4 μ = some z) : V (zkI l mX6_says (rmd 5) fr n z) fr 146 [(0, .ref v0), (4, .ref v4)] [] n μ := by
  unfold fX6_says_b146 at h
  refine V_aload 1 (zdk tbX6_says_1_ok 5 rfl) rfl ?_
  refine V_aload_n 0 (zdk tbX6_says_1_ok 6 rfl) rfl ?_
  obtain ⟨r1, q2, h⟩ := bd1_some h
  obtain ⟨q2, c_r1⟩ := zRc_some q2
  refine V_getR (zdk tbX6_says_1_ok 7 rfl) c_v0 fF6_19 rfl q2 ?_
  refine V_getI (zdk tbX6_says_1_ok 8 rfl) c_r1 fF6_141 rfl ?_
  obtain ⟨μ4, r5, q3, h⟩ := bd2_some h
  refine V_callV (R1 := (rmd 2)) (As := [.int (zI μ r1 2)]) (r := (some (.int r5))) (zdk tbX6_says_1_ok 9 rfl) sC6_144 (tX1_toil q3) (c_v4) rfl rfl rfl ⟨Nat.le_of_ble_eq_true rfl, Nat.le_of_ble_eq_true rfl⟩ (Nat.le_of_ble_eq_true rfl) ⟨rfl, rfl⟩ id ?_
  cases h
  exact V_iret (zdk tbX6_says_1_ok 10 rfl) rfl rfl
def fX6_says_b159 (n : Nat) (v0 : Nat) (v4 : Nat) (μ : ZMem) : Option (ZMem × Int32) := bd1 (zRc n 4 μ v0 1) (fun r1 => bd2 (fX1_pace n v4 (zI μ r1 2) μ) (fun μ4 r5 => some (μ4, r5)))
theorem tX6_says_b159 {l : Launch} {fr : Bool} {n : Nat} {z : ZMem × Int32} (v0 : Nat) (v4 : Nat) (μ : ZMem) (c_v0 : isC n 6 v0 = true) (c_v4 : isC n 1 v4 = true) (h : fX6_says_b159 n v0 v4 μ = some z) : V (zkI l mX6_says (rmd 5) fr n z) fr 159 [(0, .ref v0), (4, .ref v4)] [] n μ := by
  unfold fX6_says_b159 at h
  refine V_aload 1 (zdk tbX6_says_1_ok 11 rfl) rfl ?_
  refine V_aload_n 0 (zdk tbX6_says_1_ok 12 rfl) rfl ?_
  obtain ⟨r1, q2, h⟩ := bd1_some h
  obtain ⟨q2, c_r1⟩ := zRc_some q2
  refine V_getR (zdk tbX6_says_1_ok 13 rfl) c_v0 fF6_19 rfl q2 ?_
  refine V_getI (zdk tbX6_says_1_ok 14 rfl) c_r1 fF6_141 rfl ?_
  obtain ⟨μ4, r5, q3, h⟩ := bd2_some h
  refine V_callV (R1 := (rmd 1)) (As := [.int (zI μ r1 2)]) (r := (some (.int r5))) (zdk tbX6_says_1_ok 15 rfl) sC6_147 (tX1_pace q3) (c_v4) rfl rfl rfl ⟨Nat.le_of_ble_eq_true rfl, Nat.le_of_ble_eq_true rfl⟩ (Nat.le_of_ble_eq_true rfl) ⟨rfl, rfl⟩ id ?_
  cases h
  exact V_iret (zdk tbX6_says_1_ok 16 rfl) rfl rfl
def fX6_says (n : Nat) (v0 : Nat) (v1 : Int32) (v2 : Int32) (μ : ZMem) : Option (ZMem × Int32) := chk (isC n 6 v0) (bd2 (fX6_isShelf n v1 μ) (fun μ2 r3 => (if r3 = 0 then (fX6_says_b14 n v0 μ2) else bd2 (fX6_isKind n v2 μ2) (fun μ6 r7 => (if r7 = 0 then (fX6_says_b14 n v0 μ6) else bd1 (zRc n 104 μ6 v0 0) (fun r9 => chk (inb v1 r9) (bd1 (zRc n 3 μ6 r9 v1.toNatClampNeg) (fun r12 => bd2 (fX3_isRow n r12 μ6) (fun μ15 r16 => (if r16 = 0 then bd2 (fX3_isPerson n r12 μ15) (fun μ19 r20 => (if r20 = 0 then (fX6_says_b59 n v0 μ19) else bd2 (fX6_isPerson n v0 (zI μ19 r12 3) μ19) (fun μ23 r24 => (if r24 = 0 then (fX6_says_b59 n v0 μ23) else bd1 (zRc n 4 μ23 v0 1) (fun r26 => bd1 (zRc n 102 μ23 r26 0) (fun r28 => chk (inb (zI μ23 r12 3) r28) (bd1 (zRc n 1 μ23 r28 (zI μ23 r12 3).toNatClampNeg) (fun r31 => bd2 (fX6_isUnder n (zI μ23 r31 0) v2 μ23) (fun μ34 r35 => (if r35 = 0 then bd2 (fX6_refuse n v0 (-2 : Int32) μ34) (fun μ44 r45 => some (μ44, r45)) else (if v2 = (1 : Int32) then (fX6_says_b140 n r31 μ34) else (if v2 = (2 : Int32) then (fX6_says_b146 n v0 r31 μ34) else (if v2 = (3 : Int32) then (fX6_says_b140 n r31 μ34) else (if v2 = (4 : Int32) then (fX6_says_b159 n v0 r31 μ34) else (if v2 = (5 : Int32) then (fX6_says_b146 n v0 r31 μ34) else (if v2 = (6 : Int32) then (fX6_says_b159 n v0 r31 μ34) else some (μ34, (zI μ34 r31 4)))))))))))))))))) else bd2 (fX6_refuse n v0 (-2 : Int32) μ15) (fun μ47 r48 => some (μ47, r48))))))))))))
theorem tX6_says {l : Launch} {fr : Bool} {n : Nat} {v0 : Nat} {v1 : Int32} {v2 : Int32} {μ : ZMem} {z : ZMem × Int32} (h : fX6_says n v0 v1 v2 μ = some z) : ZFn l mX6_says (rmd 5) [.ref v0, .int v1, .int v2] fr n μ (fr, n, z.1, some (.int z.2)) := by
  unfold fX6_says at h
  obtain ⟨c_v0, h⟩ := chk_some h
  refine ZFn.of (ls := [(0, .ref v0), (1, .int v1), (2, .int v2)]) (by decide) (fun ξ => Nat.le_of_ble_eq_true rfl) (fun ξ => rfl) ?_
  refine V_iload_n 1 (zdk tbX6_says_0_ok 0 rfl) rfl ?_
  obtain ⟨μ2, r3, q1, h⟩ := bd2_some h
  refine V_callS (R1 := (rmd 2)) (As := [.int v1]) (r := (some (.int r3))) (zdk tbX6_says_0_ok 1 rfl) sC6_62 (tX6_isShelf q1) rfl rfl ⟨Nat.le_of_ble_eq_true rfl, Nat.le_of_ble_eq_true rfl⟩ (Nat.le_of_ble_eq_true rfl) ⟨rfl, rfl⟩ id ?_
  refine V_if_eq (tgt := 14) (zdk tbX6_says_0_ok 2 rfl) (by decide) (fun c4 => ?_) (fun c4 => ?_)
  · replace h := ite_t h c4
    refine V_sub (ls' := [(0, .ref v0)]) [0] rfl ?_
    exact tX6_says_b14 v0 μ2 c_v0 h
  · replace h := ite_f h c4
    refine V_iload_n 2 (zdk tbX6_says_0_ok 3 rfl) rfl ?_
    obtain ⟨μ6, r7, q5, h⟩ := bd2_some h
    refine V_callS (R1 := (rmd 2)) (As := [.int v2]) (r := (some (.int r7))) (zdk tbX6_says_0_ok 4 rfl) sC6_119 (tX6_isKind q5) rfl rfl ⟨Nat.le_of_ble_eq_true rfl, Nat.le_of_ble_eq_true rfl⟩ (Nat.le_of_ble_eq_true rfl) ⟨rfl, rfl⟩ id ?_
    refine V_if_ne (tgt := 20) (zdk tbX6_says_0_ok 5 rfl) (by decide) (fun c8 => ?_) (fun c8 => ?_)
    · replace h := ite_f h c8
      refine V_aload_n 0 (zdk tbX6_says_0_ok 10 rfl) rfl ?_
      obtain ⟨r9, q10, h⟩ := bd1_some h
      obtain ⟨q10, c_r9⟩ := zRc_some q10
      refine V_getR (zdk tbX6_says_0_ok 11 rfl) c_v0 fF6_11 rfl q10 ?_
      refine V_iload_n 1 (zdk tbX6_says_0_ok 12 rfl) rfl ?_
      obtain ⟨b11, h⟩ := chk_some h
      obtain ⟨r12, q13, h⟩ := bd1_some h
      obtain ⟨q13, c_r12⟩ := zRc_some q13
      refine V_aald4 (zdk tbX6_says_0_ok 13 rfl) c_r9 b11 q13 ?_
      refine V_astore_n (ls' := [(0, .ref v0), (2, .int v2), (3, .ref r12)]) [1, 3, 0] (zdk tbX6_says_0_ok 14 rfl) (Nat.le_of_ble_eq_true rfl) rfl ?_
      refine V_aload_n 2 (zdk tbX6_says_0_ok 15 rfl) rfl ?_
      obtain ⟨μ15, r16, q14, h⟩ := bd2_some h
      refine V_callV (R1 := (rmd 1)) (As := []) (r := (some (.int r16))) (zdk tbX6_says_0_ok 16 rfl) sC6_106 (tX3_isRow q14) (c_r12) rfl rfl rfl ⟨Nat.le_of_ble_eq_true rfl, Nat.le_of_ble_eq_true rfl⟩ (Nat.le_of_ble_eq_true rfl) ⟨rfl, rfl⟩ id ?_
      refine V_if_eq (tgt := 41) (zdk tbX6_says_0_ok 17 rfl) (by decide) (fun c17 => ?_) (fun c17 => ?_)
      · replace h := ite_t h c17
        refine V_aload_n 2 (zdk tbX6_says_0_ok 22 rfl) rfl ?_
        obtain ⟨μ19, r20, q18, h⟩ := bd2_some h
        refine V_callV (R1 := (rmd 1)) (As := []) (r := (some (.int r20))) (zdk tbX6_says_0_ok 23 rfl) sC6_113 (tX3_isPerson q18) (c_r12) rfl rfl rfl ⟨Nat.le_of_ble_eq_true rfl, Nat.le_of_ble_eq_true rfl⟩ (Nat.le_of_ble_eq_true rfl) ⟨rfl, rfl⟩ id ?_
        refine V_if_eq (tgt := 59) (zdk tbX6_says_0_ok 24 rfl) (by decide) (fun c21 => ?_) (fun c21 => ?_)
        · replace h := ite_t h c21
          refine V_sub (ls' := [(0, .ref v0)]) [0] rfl ?_
          exact tX6_says_b59 v0 μ19 c_v0 h
        · replace h := ite_f h c21
          refine V_aload_n 0 (zdk tbX6_says_0_ok 25 rfl) rfl ?_
          refine V_aload_n 2 (zdk tbX6_says_0_ok 26 rfl) rfl ?_
          refine V_getI (zdk tbX6_says_0_ok 27 rfl) c_r12 fF6_116 rfl ?_
          obtain ⟨μ23, r24, q22, h⟩ := bd2_some h
          refine V_callV (R1 := (rmd 2)) (As := [.int (zI μ19 r12 3)]) (r := (some (.int r24))) (zdk tbX6_says_0_ok 28 rfl) sC6_122 (tX6_isPerson q22) (c_v0) rfl rfl rfl ⟨Nat.le_of_ble_eq_true rfl, Nat.le_of_ble_eq_true rfl⟩ (Nat.le_of_ble_eq_true rfl) ⟨rfl, rfl⟩ id ?_
          refine V_if_ne (tgt := 66) (zdk tbX6_says_0_ok 29 rfl) (by decide) (fun c25 => ?_) (fun c25 => ?_)
          · replace h := ite_f h c25
            refine V_aload_n 0 (zdk tbX6_says_0_ok 34 rfl) rfl ?_
            obtain ⟨r26, q27, h⟩ := bd1_some h
            obtain ⟨q27, c_r26⟩ := zRc_some q27
            refine V_getR (zdk tbX6_says_0_ok 35 rfl) c_v0 fF6_19 rfl q27 ?_
            obtain ⟨r28, q29, h⟩ := bd1_some h
            obtain ⟨q29, c_r28⟩ := zRc_some q29
            refine V_getR (zdk tbX6_says_0_ok 36 rfl) c_r26 fF6_124 rfl q29 ?_
            refine V_aload_n 2 (zdk tbX6_says_0_ok 37 rfl) rfl ?_
            refine V_getI (zdk tbX6_says_0_ok 38 rfl) c_r12 fF6_116 rfl ?_
            obtain ⟨b30, h⟩ := chk_some h
            obtain ⟨r31, q32, h⟩ := bd1_some h
            obtain ⟨q32, c_r31⟩ := zRc_some q32
            refine V_aald2 (zdk tbX6_says_0_ok 39 rfl) c_r28 b30 q32 ?_
            refine V_astore (ls' := [(0, .ref v0), (2, .int v2), (4, .ref r31)]) [1, 2, 0] (zdk tbX6_says_0_ok 40 rfl) (Nat.le_of_ble_eq_true rfl) rfl ?_
            refine V_aload 2 (zdk tbX6_says_0_ok 41 rfl) rfl ?_
            refine V_getI (zdk tbX6_says_0_ok 42 rfl) c_r31 fF6_128 rfl ?_
            refine V_iload_n 1 (zdk tbX6_says_0_ok 43 rfl) rfl ?_
            obtain ⟨μ34, r35, q33, h⟩ := bd2_some h
            refine V_callS (R1 := (rmd 4)) (As := [.int (zI μ23 r31 0), .int v2]) (r := (some (.int r35))) (zdk tbX6_says_0_ok 44 rfl) sC6_133 (tX6_isUnder q33) rfl rfl ⟨Nat.le_of_ble_eq_true rfl, Nat.le_of_ble_eq_true rfl⟩ (Nat.le_of_ble_eq_true rfl) ⟨rfl, rfl⟩ id ?_
            refine V_if_ne (tgt := 99) (zdk tbX6_says_0_ok 45 rfl) (by decide) (fun c36 => ?_) (fun c36 => ?_)
            · replace h := ite_f h c36
              refine V_iload_n 1 (zdk tbX6_says_1_ok 0 rfl) rfl ?_
              by_cases c37 : v2 = (1 : Int32)
              · replace h := ite_t h c37
                refine V_tsw (off := 40) (tgt := 140) 1 c37 (zdk tbX6_says_1_ok 1 rfl) (by decide) rfl (by decide) ?_
                refine V_sub (ls' := [(4, .ref r31)]) [2] rfl ?_
                exact tX6_says_b140 r31 μ34 c_r31 h
              · replace h := ite_f h c37
                by_cases c38 : v2 = (2 : Int32)
                · replace h := ite_t h c38
                  refine V_tsw (off := 46) (tgt := 146) 2 c38 (zdk tbX6_says_1_ok 1 rfl) (by decide) rfl (by decide) ?_
                  refine V_sub (ls' := [(0, .ref v0), (4, .ref r31)]) [0, 2] rfl ?_
                  exact tX6_says_b146 v0 r31 μ34 c_v0 c_r31 h
                · replace h := ite_f h c38
                  by_cases c39 : v2 = (3 : Int32)
                  · replace h := ite_t h c39
                    refine V_tsw (off := 40) (tgt := 140) 3 c39 (zdk tbX6_says_1_ok 1 rfl) (by decide) rfl (by decide) ?_
                    refine V_sub (ls' := [(4, .ref r31)]) [2] rfl ?_
                    exact tX6_says_b140 r31 μ34 c_r31 h
                  · replace h := ite_f h c39
                    by_cases c40 : v2 = (4 : Int32)
                    · replace h := ite_t h c40
                      refine V_tsw (off := 59) (tgt := 159) 4 c40 (zdk tbX6_says_1_ok 1 rfl) (by decide) rfl (by decide) ?_
                      refine V_sub (ls' := [(0, .ref v0), (4, .ref r31)]) [0, 2] rfl ?_
                      exact tX6_says_b159 v0 r31 μ34 c_v0 c_r31 h
                    · replace h := ite_f h c40
                      by_cases c41 : v2 = (5 : Int32)
                      · replace h := ite_t h c41
                        refine V_tsw (off := 46) (tgt := 146) 5 c41 (zdk tbX6_says_1_ok 1 rfl) (by decide) rfl (by decide) ?_
                        refine V_sub (ls' := [(0, .ref v0), (4, .ref r31)]) [0, 2] rfl ?_
                        exact tX6_says_b146 v0 r31 μ34 c_v0 c_r31 h
                      · replace h := ite_f h c41
                        by_cases c42 : v2 = (6 : Int32)
                        · replace h := ite_t h c42
                          refine V_tsw (off := 59) (tgt := 159) 6 c42 (zdk tbX6_says_1_ok 1 rfl) (by decide) rfl (by decide) ?_
                          refine V_sub (ls' := [(0, .ref v0), (4, .ref r31)]) [0, 2] rfl ?_
                          exact tX6_says_b159 v0 r31 μ34 c_v0 c_r31 h
                        · replace h := ite_f h c42
                          refine V_tsw0 (tgt := 172) [1, 2, 3, 4, 5, 6] (List.forall_mem_cons.mpr ⟨c37, List.forall_mem_cons.mpr ⟨c38, List.forall_mem_cons.mpr ⟨c39, List.forall_mem_cons.mpr ⟨c40, List.forall_mem_cons.mpr ⟨c41, List.forall_mem_cons.mpr ⟨c42, fun _ h => absurd h List.not_mem_nil⟩⟩⟩⟩⟩⟩) (zdk tbX6_says_1_ok 1 rfl) (by decide) (by decide) (by decide) ?_
                          refine V_aload 2 (zdk tbX6_says_1_ok 17 rfl) rfl ?_
                          refine V_getI (zdk tbX6_says_1_ok 18 rfl) c_r31 fF6_150 rfl ?_
                          cases h
                          exact V_iret (zdk tbX6_says_1_ok 19 rfl) rfl rfl
            · replace h := ite_t h c36
              refine V_aload_n 0 (zdk tbX6_says_0_ok 46 rfl) rfl ?_
              refine V_bipush (v := (-2)) (zdk tbX6_says_0_ok 47 rfl) rfl ?_
              obtain ⟨μ44, r45, q43, h⟩ := bd2_some h
              refine V_callV (R1 := (rmd 2)) (As := [.int (-2 : Int32)]) (r := (some (.int r45))) (zdk tbX6_says_0_ok 48 rfl) sC6_66 (tX6_refuse q43) (c_v0) rfl rfl rfl ⟨Nat.le_of_ble_eq_true rfl, Nat.le_of_ble_eq_true rfl⟩ (Nat.le_of_ble_eq_true rfl) ⟨rfl, rfl⟩ id ?_
              cases h
              exact V_iret (zdk tbX6_says_0_ok 49 rfl) rfl rfl
          · replace h := ite_t h c25
            refine V_sub (ls' := [(0, .ref v0)]) [0] rfl ?_
            exact tX6_says_b59 v0 μ23 c_v0 h
      · replace h := ite_f h c17
        refine V_aload_n 0 (zdk tbX6_says_0_ok 18 rfl) rfl ?_
        refine V_bipush (v := (-2)) (zdk tbX6_says_0_ok 19 rfl) rfl ?_
        obtain ⟨μ47, r48, q46, h⟩ := bd2_some h
        refine V_callV (R1 := (rmd 2)) (As := [.int (-2 : Int32)]) (r := (some (.int r48))) (zdk tbX6_says_0_ok 20 rfl) sC6_66 (tX6_refuse q46) (c_v0) rfl rfl rfl ⟨Nat.le_of_ble_eq_true rfl, Nat.le_of_ble_eq_true rfl⟩ (Nat.le_of_ble_eq_true rfl) ⟨rfl, rfl⟩ id ?_
        cases h
        exact V_iret (zdk tbX6_says_0_ok 21 rfl) rfl rfl
    · replace h := ite_t h c8
      refine V_sub (ls' := [(0, .ref v0)]) [0] rfl ?_
      exact tX6_says_b14 v0 μ6 c_v0 h

-- WhoComplainsCarries.person
def tbX6_person_0 : List (Nat × Instr × Nat) := [(0, .iload_n 1, 1), (1, .invokestatic 119, 3), (4, .ifCond .ne 9, 3), (7, .aload_n 0, 1), (8, .iconst (-1), 1), (9, .invokevirtual 66, 3), (12, .ireturn, 1), (13, .iload_n 2, 1), (14, .iconst 0, 1), (15, .bipush 9, 2), (17, .invokestatic 153, 3), (20, .ifCond .eq 24, 3), (23, .iload_n 3, 1), (24, .iconst 1, 1), (25, .bipush 40, 2), (27, .invokestatic 153, 3), (30, .ifCond .eq 14, 3), (33, .iload 4, 2), (35, .iconst 0, 1), (36, .bipush 40, 2), (38, .invokestatic 153, 3), (41, .ifCond .ne 10, 3), (44, .aload_n 0, 1), (45, .bipush (-6), 2), (47, .invokevirtual 66, 3), (50, .ireturn, 1), (51, .aload_n 0, 1), (52, .getfield 19, 3), (55, .getfield 157, 3), (58, .bipush 7, 2), (60, .if_icmp .lt 10, 3), (63, .aload_n 0, 1), (64, .bipush (-7), 2), (66, .invokevirtual 66, 3), (69, .ireturn, 1), (70, .aload_n 0, 1), (71, .getfield 19, 3), (74, .iload_n 1, 1), (75, .iload_n 2, 1), (76, .iload_n 3, 1), (77, .iload 4, 2), (79, .invokevirtual 160, 3), (82, .aload_n 0, 1), (83, .getfield 19, 3), (86, .getfield 157, 3), (89, .iconst 1, 1), (90, .isub, 1), (91, .ireturn, 1)]
theorem tbX6_person_0_ok : ∀ q ∈ tbX6_person_0, decode cX6_person q.1 = .ok (q.2.1, q.2.2) := by decide +kernel
theorem sC6_160 : zCV RX6 160 mX4_addPerson 4 := ⟨zin (i := 381) (by decide +kernel) rfl, zin (i := 382) (by decide +kernel) rfl, zin (i := 383) (by decide +kernel) rfl, wCX4_addPerson⟩
def fX6_person_b44 (n : Nat) (v0 : Nat) (μ : ZMem) : Option (ZMem × Int32) := bd2 (fX6_refuse n v0 (-6 : Int32) μ) (fun μ2 r3 => some (μ2, r3))
theorem tX6_person_b44 {l : Launch} {fr : Bool} {n : Nat} {z : ZMem × Int32} (v0 : Nat) (μ : ZMem) (c_v0 : isC n 6 v0 = true) (h : fX6_person_b44 n v0 μ = some z) : V (zkI l mX6_person (rmd 3) fr n z) fr 44 [(0, .ref v0)] [] n μ := by
  unfold fX6_person_b44 at h
  refine V_aload_n 0 (zdk tbX6_person_0_ok 22 rfl) rfl ?_
  refine V_bipush (v := (-6)) (zdk tbX6_person_0_ok 23 rfl) rfl ?_
  obtain ⟨μ2, r3, q1, h⟩ := bd2_some h
  refine V_callV (R1 := (rmd 2)) (As := [.int (-6 : Int32)]) (r := (some (.int r3))) (zdk tbX6_person_0_ok 24 rfl) sC6_66 (tX6_refuse q1) (c_v0) rfl rfl rfl ⟨Nat.le_of_ble_eq_true rfl, Nat.le_of_ble_eq_true rfl⟩ (Nat.le_of_ble_eq_true rfl) ⟨rfl, rfl⟩ id ?_
  cases h
  exact V_iret (zdk tbX6_person_0_ok 25 rfl) rfl rfl
def fX6_person (n : Nat) (v0 : Nat) (v1 : Int32) (v2 : Int32) (v3 : Int32) (v4 : Int32) (μ : ZMem) : Option (ZMem × Int32) := chk (isC n 6 v0) (bd2 (fX6_isKind n v1 μ) (fun μ2 r3 => (if r3 = 0 then bd2 (fX6_refuse n v0 (-1 : Int32) μ2) (fun μ30 r31 => some (μ30, r31)) else bd2 (fX6_isIn n v2 (0 : Int32) (9 : Int32) μ2) (fun μ6 r7 => (if r7 = 0 then (fX6_person_b44 n v0 μ6) else bd2 (fX6_isIn n v3 (1 : Int32) (40 : Int32) μ6) (fun μ10 r11 => (if r11 = 0 then (fX6_person_b44 n v0 μ10) else bd2 (fX6_isIn n v4 (0 : Int32) (40 : Int32) μ10) (fun μ14 r15 => (if r15 = 0 then (fX6_person_b44 n v0 μ14) else bd1 (zRc n 4 μ14 v0 1) (fun r17 => (if (zI μ14 r17 1) < (7 : Int32) then bd1 (zRc n 4 μ14 v0 1) (fun r20 => bd1 (fX4_addPerson n r20 v1 v2 v3 v4 μ14) (fun μ23 => bd1 (zRc n 4 μ23 v0 1) (fun r24 => some (μ23, ((zI μ23 r24 1) - (1 : Int32)))))) else bd2 (fX6_refuse n v0 (-7 : Int32) μ14) (fun μ27 r28 => some (μ27, r28)))))))))))))
theorem tX6_person {l : Launch} {fr : Bool} {n : Nat} {v0 : Nat} {v1 : Int32} {v2 : Int32} {v3 : Int32} {v4 : Int32} {μ : ZMem} {z : ZMem × Int32} (h : fX6_person n v0 v1 v2 v3 v4 μ = some z) : ZFn l mX6_person (rmd 3) [.ref v0, .int v1, .int v2, .int v3, .int v4] fr n μ (fr, n, z.1, some (.int z.2)) := by
  unfold fX6_person at h
  obtain ⟨c_v0, h⟩ := chk_some h
  refine ZFn.of (ls := [(0, .ref v0), (1, .int v1), (2, .int v2), (3, .int v3), (4, .int v4)]) (by decide) (fun ξ => Nat.le_of_ble_eq_true rfl) (fun ξ => rfl) ?_
  refine V_iload_n 1 (zdk tbX6_person_0_ok 0 rfl) rfl ?_
  obtain ⟨μ2, r3, q1, h⟩ := bd2_some h
  refine V_callS (R1 := (rmd 2)) (As := [.int v1]) (r := (some (.int r3))) (zdk tbX6_person_0_ok 1 rfl) sC6_119 (tX6_isKind q1) rfl rfl ⟨Nat.le_of_ble_eq_true rfl, Nat.le_of_ble_eq_true rfl⟩ (Nat.le_of_ble_eq_true rfl) ⟨rfl, rfl⟩ id ?_
  refine V_if_ne (tgt := 13) (zdk tbX6_person_0_ok 2 rfl) (by decide) (fun c4 => ?_) (fun c4 => ?_)
  · replace h := ite_f h c4
    refine V_iload_n 2 (zdk tbX6_person_0_ok 7 rfl) rfl ?_
    refine V_iconst (v := 0) (zdk tbX6_person_0_ok 8 rfl) rfl ?_
    refine V_bipush (v := 9) (zdk tbX6_person_0_ok 9 rfl) rfl ?_
    obtain ⟨μ6, r7, q5, h⟩ := bd2_some h
    refine V_callS (R1 := (rmd 1)) (As := [.int v2, .int (0 : Int32), .int (9 : Int32)]) (r := (some (.int r7))) (zdk tbX6_person_0_ok 10 rfl) sC6_153 (tX6_isIn q5) rfl rfl ⟨Nat.le_of_ble_eq_true rfl, Nat.le_of_ble_eq_true rfl⟩ (Nat.le_of_ble_eq_true rfl) ⟨rfl, rfl⟩ id ?_
    refine V_if_eq (tgt := 44) (zdk tbX6_person_0_ok 11 rfl) (by decide) (fun c8 => ?_) (fun c8 => ?_)
    · replace h := ite_t h c8
      refine V_sub (ls' := [(0, .ref v0)]) [0] rfl ?_
      exact tX6_person_b44 v0 μ6 c_v0 h
    · replace h := ite_f h c8
      refine V_iload_n 3 (zdk tbX6_person_0_ok 12 rfl) rfl ?_
      refine V_iconst (v := 1) (zdk tbX6_person_0_ok 13 rfl) rfl ?_
      refine V_bipush (v := 40) (zdk tbX6_person_0_ok 14 rfl) rfl ?_
      obtain ⟨μ10, r11, q9, h⟩ := bd2_some h
      refine V_callS (R1 := (rmd 1)) (As := [.int v3, .int (1 : Int32), .int (40 : Int32)]) (r := (some (.int r11))) (zdk tbX6_person_0_ok 15 rfl) sC6_153 (tX6_isIn q9) rfl rfl ⟨Nat.le_of_ble_eq_true rfl, Nat.le_of_ble_eq_true rfl⟩ (Nat.le_of_ble_eq_true rfl) ⟨rfl, rfl⟩ id ?_
      refine V_if_eq (tgt := 44) (zdk tbX6_person_0_ok 16 rfl) (by decide) (fun c12 => ?_) (fun c12 => ?_)
      · replace h := ite_t h c12
        refine V_sub (ls' := [(0, .ref v0)]) [0] rfl ?_
        exact tX6_person_b44 v0 μ10 c_v0 h
      · replace h := ite_f h c12
        refine V_iload 4 (zdk tbX6_person_0_ok 17 rfl) rfl ?_
        refine V_iconst (v := 0) (zdk tbX6_person_0_ok 18 rfl) rfl ?_
        refine V_bipush (v := 40) (zdk tbX6_person_0_ok 19 rfl) rfl ?_
        obtain ⟨μ14, r15, q13, h⟩ := bd2_some h
        refine V_callS (R1 := (rmd 1)) (As := [.int v4, .int (0 : Int32), .int (40 : Int32)]) (r := (some (.int r15))) (zdk tbX6_person_0_ok 20 rfl) sC6_153 (tX6_isIn q13) rfl rfl ⟨Nat.le_of_ble_eq_true rfl, Nat.le_of_ble_eq_true rfl⟩ (Nat.le_of_ble_eq_true rfl) ⟨rfl, rfl⟩ id ?_
        refine V_if_ne (tgt := 51) (zdk tbX6_person_0_ok 21 rfl) (by decide) (fun c16 => ?_) (fun c16 => ?_)
        · replace h := ite_f h c16
          refine V_aload_n 0 (zdk tbX6_person_0_ok 26 rfl) rfl ?_
          obtain ⟨r17, q18, h⟩ := bd1_some h
          obtain ⟨q18, c_r17⟩ := zRc_some q18
          refine V_getR (zdk tbX6_person_0_ok 27 rfl) c_v0 fF6_19 rfl q18 ?_
          refine V_getI (zdk tbX6_person_0_ok 28 rfl) c_r17 fF6_157 rfl ?_
          refine V_bipush (v := 7) (zdk tbX6_person_0_ok 29 rfl) rfl ?_
          refine V_icmp_lt (tgt := 70) (zdk tbX6_person_0_ok 30 rfl) (by decide) (fun c19 => ?_) (fun c19 => ?_)
          · replace h := ite_t h c19
            refine V_aload_n 0 (zdk tbX6_person_0_ok 35 rfl) rfl ?_
            obtain ⟨r20, q21, h⟩ := bd1_some h
            obtain ⟨q21, c_r20⟩ := zRc_some q21
            refine V_getR (zdk tbX6_person_0_ok 36 rfl) c_v0 fF6_19 rfl q21 ?_
            refine V_iload_n 1 (zdk tbX6_person_0_ok 37 rfl) rfl ?_
            refine V_iload_n 2 (zdk tbX6_person_0_ok 38 rfl) rfl ?_
            refine V_iload_n 3 (zdk tbX6_person_0_ok 39 rfl) rfl ?_
            refine V_iload 4 (zdk tbX6_person_0_ok 40 rfl) rfl ?_
            obtain ⟨μ23, q22, h⟩ := bd1_some h
            refine V_callV (R1 := (rmd 2)) (As := [.int v1, .int v2, .int v3, .int v4]) (r := none) (zdk tbX6_person_0_ok 41 rfl) sC6_160 (tX4_addPerson q22) (c_r20) rfl rfl rfl ⟨Nat.le_of_ble_eq_true rfl, Nat.le_of_ble_eq_true rfl⟩ (Nat.le_of_ble_eq_true rfl) ⟨rfl, rfl⟩ id ?_
            refine V_aload_n 0 (zdk tbX6_person_0_ok 42 rfl) rfl ?_
            obtain ⟨r24, q25, h⟩ := bd1_some h
            obtain ⟨q25, c_r24⟩ := zRc_some q25
            refine V_getR (zdk tbX6_person_0_ok 43 rfl) c_v0 fF6_19 rfl q25 ?_
            refine V_getI (zdk tbX6_person_0_ok 44 rfl) c_r24 fF6_157 rfl ?_
            refine V_iconst (v := 1) (zdk tbX6_person_0_ok 45 rfl) rfl ?_
            refine V_isub (zdk tbX6_person_0_ok 46 rfl) ?_
            cases h
            exact V_iret (zdk tbX6_person_0_ok 47 rfl) rfl rfl
          · replace h := ite_f h c19
            refine V_aload_n 0 (zdk tbX6_person_0_ok 31 rfl) rfl ?_
            refine V_bipush (v := (-7)) (zdk tbX6_person_0_ok 32 rfl) rfl ?_
            obtain ⟨μ27, r28, q26, h⟩ := bd2_some h
            refine V_callV (R1 := (rmd 2)) (As := [.int (-7 : Int32)]) (r := (some (.int r28))) (zdk tbX6_person_0_ok 33 rfl) sC6_66 (tX6_refuse q26) (c_v0) rfl rfl rfl ⟨Nat.le_of_ble_eq_true rfl, Nat.le_of_ble_eq_true rfl⟩ (Nat.le_of_ble_eq_true rfl) ⟨rfl, rfl⟩ id ?_
            cases h
            exact V_iret (zdk tbX6_person_0_ok 34 rfl) rfl rfl
        · replace h := ite_t h c16
          refine V_sub (ls' := [(0, .ref v0)]) [0] rfl ?_
          exact tX6_person_b44 v0 μ14 c_v0 h
  · replace h := ite_t h c4
    refine V_aload_n 0 (zdk tbX6_person_0_ok 3 rfl) rfl ?_
    refine V_iconst (v := (-1)) (zdk tbX6_person_0_ok 4 rfl) rfl ?_
    obtain ⟨μ30, r31, q29, h⟩ := bd2_some h
    refine V_callV (R1 := (rmd 2)) (As := [.int (-1 : Int32)]) (r := (some (.int r31))) (zdk tbX6_person_0_ok 5 rfl) sC6_66 (tX6_refuse q29) (c_v0) rfl rfl rfl ⟨Nat.le_of_ble_eq_true rfl, Nat.le_of_ble_eq_true rfl⟩ (Nat.le_of_ble_eq_true rfl) ⟨rfl, rfl⟩ id ?_
    cases h
    exact V_iret (zdk tbX6_person_0_ok 6 rfl) rfl rfl

-- WhoComplainsCarries.ask
def tbX6_ask_0 : List (Nat × Instr × Nat) := [(0, .iload_n 1, 1), (1, .ifCond .ne 32, 3), (4, .iload_n 2, 1), (5, .iconst 1, 1), (6, .bipush 99, 2), (8, .invokestatic 153, 3), (11, .ifCond .eq 22, 3), (14, .aload_n 0, 1), (15, .getfield 19, 3), (18, .getfield 141, 3), (21, .istore_n 3, 1), (22, .aload_n 0, 1), (23, .getfield 19, 3), (26, .iload_n 2, 1), (27, .putfield 141, 3), (30, .goto 85, 3), (33, .iload_n 1, 1), (34, .iconst 1, 1), (35, .if_icmp .ne 39, 3), (38, .iload_n 2, 1), (39, .aload_n 0, 1), (40, .getfield 19, 3), (43, .getfield 164, 3), (46, .sipush 999, 3), (49, .invokestatic 153, 3), (52, .ifCond .eq 22, 3), (55, .aload_n 0, 1), (56, .getfield 19, 3), (59, .getfield 167, 3), (62, .istore_n 3, 1), (63, .aload_n 0, 1), (64, .getfield 19, 3), (67, .iload_n 2, 1), (68, .putfield 167, 3), (71, .goto 44, 3), (74, .iload_n 1, 1), (75, .iconst 2, 1), (76, .if_icmp .ne 32, 3), (79, .iload_n 2, 1), (80, .iconst 0, 1), (81, .bipush 31, 2), (83, .invokestatic 153, 3), (86, .ifCond .eq 22, 3), (89, .aload_n 0, 1), (90, .getfield 19, 3), (93, .getfield 170, 3), (96, .istore_n 3, 1), (97, .aload_n 0, 1), (98, .getfield 19, 3), (101, .iload_n 2, 1)]
theorem tbX6_ask_0_ok : ∀ q ∈ tbX6_ask_0, decode cX6_ask q.1 = .ok (q.2.1, q.2.2) := by decide +kernel
def tbX6_ask_1 : List (Nat × Instr × Nat) := [(102, .putfield 170, 3), (105, .goto 10, 3), (108, .aload_n 0, 1), (109, .bipush (-6), 2), (111, .invokevirtual 66, 3), (114, .istore_n 3, 1), (115, .iload_n 3, 1), (116, .ireturn, 1)]
theorem tbX6_ask_1_ok : ∀ q ∈ tbX6_ask_1, decode cX6_ask q.1 = .ok (q.2.1, q.2.2) := by decide +kernel
theorem fF6_170 : zF RX6 170 4 7 := ⟨_, rfl, by decide, zin (i := 117) (by decide +kernel) rfl⟩
theorem fF6_164 : zF RX6 164 4 4 := ⟨_, rfl, by decide, zin (i := 109) (by decide +kernel) rfl⟩
theorem fF6_167 : zF RX6 167 4 3 := ⟨_, rfl, by decide, zin (i := 105) (by decide +kernel) rfl⟩
def fX6_ask_b115 (n : Nat) (v3 : Int32) (μ : ZMem) : Option (ZMem × Int32) := some (μ, v3)
theorem tX6_ask_b115 {l : Launch} {fr : Bool} {n : Nat} {z : ZMem × Int32} (v3 : Int32) (μ : ZMem) (h : fX6_ask_b115 n v3 μ = some z) : V (zkI l mX6_ask (rmd 3) fr n z) fr 115 [(3, .int v3)] [] n μ := by
  unfold fX6_ask_b115 at h
  refine V_iload_n 0 (zdk tbX6_ask_1_ok 6 rfl) rfl ?_
  cases h
  exact V_iret (zdk tbX6_ask_1_ok 7 rfl) rfl rfl
def fX6_ask_b108 (n : Nat) (v0 : Nat) (μ : ZMem) : Option (ZMem × Int32) := bd2 (fX6_refuse n v0 (-6 : Int32) μ) (fun μ2 r3 => (fX6_ask_b115 n r3 μ2))
theorem tX6_ask_b108 {l : Launch} {fr : Bool} {n : Nat} {z : ZMem × Int32} (v0 : Nat) (μ : ZMem) (c_v0 : isC n 6 v0 = true) (h : fX6_ask_b108 n v0 μ = some z) : V (zkI l mX6_ask (rmd 3) fr n z) fr 108 [(0, .ref v0)] [] n μ := by
  unfold fX6_ask_b108 at h
  refine V_aload_n 0 (zdk tbX6_ask_1_ok 2 rfl) rfl ?_
  refine V_bipush (v := (-6)) (zdk tbX6_ask_1_ok 3 rfl) rfl ?_
  obtain ⟨μ2, r3, q1, h⟩ := bd2_some h
  refine V_callV (R1 := (rmd 2)) (As := [.int (-6 : Int32)]) (r := (some (.int r3))) (zdk tbX6_ask_1_ok 4 rfl) sC6_66 (tX6_refuse q1) (c_v0) rfl rfl rfl ⟨Nat.le_of_ble_eq_true rfl, Nat.le_of_ble_eq_true rfl⟩ (Nat.le_of_ble_eq_true rfl) ⟨rfl, rfl⟩ id ?_
  refine V_istore_n (ls' := [(3, .int r3)]) [0] (zdk tbX6_ask_1_ok 5 rfl) (Nat.le_of_ble_eq_true rfl) rfl ?_
  exact tX6_ask_b115 r3 μ2  h
def fX6_ask_b74 (n : Nat) (v0 : Nat) (v1 : Int32) (v2 : Int32) (μ : ZMem) : Option (ZMem × Int32) := (if v1 = (2 : Int32) then bd2 (fX6_isIn n v2 (0 : Int32) (31 : Int32) μ) (fun μ3 r4 => (if r4 = 0 then (fX6_ask_b108 n v0 μ3) else bd1 (zRc n 4 μ3 v0 1) (fun r6 => bd1 (zRc n 4 μ3 v0 1) (fun r8 => lt (zpI μ3 r8 7 v2) (fun μ10 => (fX6_ask_b115 n (zI μ3 r6 7) μ10)))))) else (fX6_ask_b108 n v0 μ))
theorem tX6_ask_b74 {l : Launch} {fr : Bool} {n : Nat} {z : ZMem × Int32} (v0 : Nat) (v1 : Int32) (v2 : Int32) (μ : ZMem) (c_v0 : isC n 6 v0 = true) (h : fX6_ask_b74 n v0 v1 v2 μ = some z) : V (zkI l mX6_ask (rmd 3) fr n z) fr 74 [(0, .ref v0), (1, .int v1), (2, .int v2)] [] n μ := by
  unfold fX6_ask_b74 at h
  refine V_iload_n 1 (zdk tbX6_ask_0_ok 35 rfl) rfl ?_
  refine V_iconst (v := 2) (zdk tbX6_ask_0_ok 36 rfl) rfl ?_
  refine V_icmp_ne (tgt := 108) (zdk tbX6_ask_0_ok 37 rfl) (by decide) (fun c1 => ?_) (fun c1 => ?_)
  · replace h := ite_f h c1
    refine V_sub (ls' := [(0, .ref v0)]) [0] rfl ?_
    exact tX6_ask_b108 v0 μ c_v0 h
  · replace h := ite_t h c1
    refine V_iload_n 2 (zdk tbX6_ask_0_ok 38 rfl) rfl ?_
    refine V_iconst (v := 0) (zdk tbX6_ask_0_ok 39 rfl) rfl ?_
    refine V_bipush (v := 31) (zdk tbX6_ask_0_ok 40 rfl) rfl ?_
    obtain ⟨μ3, r4, q2, h⟩ := bd2_some h
    refine V_callS (R1 := (rmd 1)) (As := [.int v2, .int (0 : Int32), .int (31 : Int32)]) (r := (some (.int r4))) (zdk tbX6_ask_0_ok 41 rfl) sC6_153 (tX6_isIn q2) rfl rfl ⟨Nat.le_of_ble_eq_true rfl, Nat.le_of_ble_eq_true rfl⟩ (Nat.le_of_ble_eq_true rfl) ⟨rfl, rfl⟩ id ?_
    refine V_if_eq (tgt := 108) (zdk tbX6_ask_0_ok 42 rfl) (by decide) (fun c5 => ?_) (fun c5 => ?_)
    · replace h := ite_t h c5
      refine V_sub (ls' := [(0, .ref v0)]) [0] rfl ?_
      exact tX6_ask_b108 v0 μ3 c_v0 h
    · replace h := ite_f h c5
      refine V_aload_n 0 (zdk tbX6_ask_0_ok 43 rfl) rfl ?_
      obtain ⟨r6, q7, h⟩ := bd1_some h
      obtain ⟨q7, c_r6⟩ := zRc_some q7
      refine V_getR (zdk tbX6_ask_0_ok 44 rfl) c_v0 fF6_19 rfl q7 ?_
      refine V_getI (zdk tbX6_ask_0_ok 45 rfl) c_r6 fF6_170 rfl ?_
      refine V_istore_n (ls' := [(0, .ref v0), (2, .int v2), (3, .int (zI μ3 r6 7))]) [1, 3, 0] (zdk tbX6_ask_0_ok 46 rfl) (Nat.le_of_ble_eq_true rfl) rfl ?_
      refine V_aload_n 0 (zdk tbX6_ask_0_ok 47 rfl) rfl ?_
      obtain ⟨r8, q9, h⟩ := bd1_some h
      obtain ⟨q9, c_r8⟩ := zRc_some q9
      refine V_getR (zdk tbX6_ask_0_ok 48 rfl) c_v0 fF6_19 rfl q9 ?_
      refine V_iload_n 1 (zdk tbX6_ask_0_ok 49 rfl) rfl ?_
      obtain ⟨μ10, e11, h⟩ := lt_some h
      refine V_putI (zdk tbX6_ask_1_ok 0 rfl) c_r8 fF6_170 rfl rfl rfl e11 ?_
      refine V_goto (tgt := 115) (zdk tbX6_ask_1_ok 1 rfl) (by decide) ?_
      refine V_sub (ls' := [(3, .int (zI μ3 r6 7))]) [2] rfl ?_
      exact tX6_ask_b115 (zI μ3 r6 7) μ10  h
def fX6_ask_b33 (n : Nat) (v0 : Nat) (v1 : Int32) (v2 : Int32) (μ : ZMem) : Option (ZMem × Int32) := (if v1 = (1 : Int32) then bd1 (zRc n 4 μ v0 1) (fun r2 => bd2 (fX6_isIn n v2 (zI μ r2 4) (999 : Int32) μ) (fun μ5 r6 => (if r6 = 0 then (fX6_ask_b74 n v0 v1 v2 μ5) else bd1 (zRc n 4 μ5 v0 1) (fun r8 => bd1 (zRc n 4 μ5 v0 1) (fun r10 => lt (zpI μ5 r10 3 v2) (fun μ12 => (fX6_ask_b115 n (zI μ5 r8 3) μ12))))))) else (fX6_ask_b74 n v0 v1 v2 μ))
theorem tX6_ask_b33 {l : Launch} {fr : Bool} {n : Nat} {z : ZMem × Int32} (v0 : Nat) (v1 : Int32) (v2 : Int32) (μ : ZMem) (c_v0 : isC n 6 v0 = true) (h : fX6_ask_b33 n v0 v1 v2 μ = some z) : V (zkI l mX6_ask (rmd 3) fr n z) fr 33 [(0, .ref v0), (1, .int v1), (2, .int v2)] [] n μ := by
  unfold fX6_ask_b33 at h
  refine V_iload_n 1 (zdk tbX6_ask_0_ok 16 rfl) rfl ?_
  refine V_iconst (v := 1) (zdk tbX6_ask_0_ok 17 rfl) rfl ?_
  refine V_icmp_ne (tgt := 74) (zdk tbX6_ask_0_ok 18 rfl) (by decide) (fun c1 => ?_) (fun c1 => ?_)
  · replace h := ite_f h c1
    exact tX6_ask_b74 v0 v1 v2 μ c_v0 h
  · replace h := ite_t h c1
    refine V_iload_n 2 (zdk tbX6_ask_0_ok 19 rfl) rfl ?_
    refine V_aload_n 0 (zdk tbX6_ask_0_ok 20 rfl) rfl ?_
    obtain ⟨r2, q3, h⟩ := bd1_some h
    obtain ⟨q3, c_r2⟩ := zRc_some q3
    refine V_getR (zdk tbX6_ask_0_ok 21 rfl) c_v0 fF6_19 rfl q3 ?_
    refine V_getI (zdk tbX6_ask_0_ok 22 rfl) c_r2 fF6_164 rfl ?_
    refine V_sipush (v := 999) (zdk tbX6_ask_0_ok 23 rfl) rfl ?_
    obtain ⟨μ5, r6, q4, h⟩ := bd2_some h
    refine V_callS (R1 := (rmd 1)) (As := [.int v2, .int (zI μ r2 4), .int (999 : Int32)]) (r := (some (.int r6))) (zdk tbX6_ask_0_ok 24 rfl) sC6_153 (tX6_isIn q4) rfl rfl ⟨Nat.le_of_ble_eq_true rfl, Nat.le_of_ble_eq_true rfl⟩ (Nat.le_of_ble_eq_true rfl) ⟨rfl, rfl⟩ id ?_
    refine V_if_eq (tgt := 74) (zdk tbX6_ask_0_ok 25 rfl) (by decide) (fun c7 => ?_) (fun c7 => ?_)
    · replace h := ite_t h c7
      exact tX6_ask_b74 v0 v1 v2 μ5 c_v0 h
    · replace h := ite_f h c7
      refine V_aload_n 0 (zdk tbX6_ask_0_ok 26 rfl) rfl ?_
      obtain ⟨r8, q9, h⟩ := bd1_some h
      obtain ⟨q9, c_r8⟩ := zRc_some q9
      refine V_getR (zdk tbX6_ask_0_ok 27 rfl) c_v0 fF6_19 rfl q9 ?_
      refine V_getI (zdk tbX6_ask_0_ok 28 rfl) c_r8 fF6_167 rfl ?_
      refine V_istore_n (ls' := [(0, .ref v0), (2, .int v2), (3, .int (zI μ5 r8 3))]) [1, 3, 0] (zdk tbX6_ask_0_ok 29 rfl) (Nat.le_of_ble_eq_true rfl) rfl ?_
      refine V_aload_n 0 (zdk tbX6_ask_0_ok 30 rfl) rfl ?_
      obtain ⟨r10, q11, h⟩ := bd1_some h
      obtain ⟨q11, c_r10⟩ := zRc_some q11
      refine V_getR (zdk tbX6_ask_0_ok 31 rfl) c_v0 fF6_19 rfl q11 ?_
      refine V_iload_n 1 (zdk tbX6_ask_0_ok 32 rfl) rfl ?_
      obtain ⟨μ12, e13, h⟩ := lt_some h
      refine V_putI (zdk tbX6_ask_0_ok 33 rfl) c_r10 fF6_167 rfl rfl rfl e13 ?_
      refine V_goto (tgt := 115) (zdk tbX6_ask_0_ok 34 rfl) (by decide) ?_
      refine V_sub (ls' := [(3, .int (zI μ5 r8 3))]) [2] rfl ?_
      exact tX6_ask_b115 (zI μ5 r8 3) μ12  h
def fX6_ask (n : Nat) (v0 : Nat) (v1 : Int32) (v2 : Int32) (μ : ZMem) : Option (ZMem × Int32) := chk (isC n 6 v0) ((if v1 = 0 then bd2 (fX6_isIn n v2 (1 : Int32) (99 : Int32) μ) (fun μ3 r4 => (if r4 = 0 then (fX6_ask_b33 n v0 v1 v2 μ3) else bd1 (zRc n 4 μ3 v0 1) (fun r6 => bd1 (zRc n 4 μ3 v0 1) (fun r8 => lt (zpI μ3 r8 2 v2) (fun μ10 => (fX6_ask_b115 n (zI μ3 r6 2) μ10)))))) else (fX6_ask_b33 n v0 v1 v2 μ)))
theorem tX6_ask {l : Launch} {fr : Bool} {n : Nat} {v0 : Nat} {v1 : Int32} {v2 : Int32} {μ : ZMem} {z : ZMem × Int32} (h : fX6_ask n v0 v1 v2 μ = some z) : ZFn l mX6_ask (rmd 3) [.ref v0, .int v1, .int v2] fr n μ (fr, n, z.1, some (.int z.2)) := by
  unfold fX6_ask at h
  obtain ⟨c_v0, h⟩ := chk_some h
  refine ZFn.of (ls := [(0, .ref v0), (1, .int v1), (2, .int v2)]) (by decide) (fun ξ => Nat.le_of_ble_eq_true rfl) (fun ξ => rfl) ?_
  refine V_iload_n 1 (zdk tbX6_ask_0_ok 0 rfl) rfl ?_
  refine V_if_ne (tgt := 33) (zdk tbX6_ask_0_ok 1 rfl) (by decide) (fun c1 => ?_) (fun c1 => ?_)
  · replace h := ite_f h c1
    exact tX6_ask_b33 v0 v1 v2 μ c_v0 h
  · replace h := ite_t h c1
    refine V_iload_n 2 (zdk tbX6_ask_0_ok 2 rfl) rfl ?_
    refine V_iconst (v := 1) (zdk tbX6_ask_0_ok 3 rfl) rfl ?_
    refine V_bipush (v := 99) (zdk tbX6_ask_0_ok 4 rfl) rfl ?_
    obtain ⟨μ3, r4, q2, h⟩ := bd2_some h
    refine V_callS (R1 := (rmd 1)) (As := [.int v2, .int (1 : Int32), .int (99 : Int32)]) (r := (some (.int r4))) (zdk tbX6_ask_0_ok 5 rfl) sC6_153 (tX6_isIn q2) rfl rfl ⟨Nat.le_of_ble_eq_true rfl, Nat.le_of_ble_eq_true rfl⟩ (Nat.le_of_ble_eq_true rfl) ⟨rfl, rfl⟩ id ?_
    refine V_if_eq (tgt := 33) (zdk tbX6_ask_0_ok 6 rfl) (by decide) (fun c5 => ?_) (fun c5 => ?_)
    · replace h := ite_t h c5
      exact tX6_ask_b33 v0 v1 v2 μ3 c_v0 h
    · replace h := ite_f h c5
      refine V_aload_n 0 (zdk tbX6_ask_0_ok 7 rfl) rfl ?_
      obtain ⟨r6, q7, h⟩ := bd1_some h
      obtain ⟨q7, c_r6⟩ := zRc_some q7
      refine V_getR (zdk tbX6_ask_0_ok 8 rfl) c_v0 fF6_19 rfl q7 ?_
      refine V_getI (zdk tbX6_ask_0_ok 9 rfl) c_r6 fF6_141 rfl ?_
      refine V_istore_n (ls' := [(0, .ref v0), (2, .int v2), (3, .int (zI μ3 r6 2))]) [1, 3, 0] (zdk tbX6_ask_0_ok 10 rfl) (Nat.le_of_ble_eq_true rfl) rfl ?_
      refine V_aload_n 0 (zdk tbX6_ask_0_ok 11 rfl) rfl ?_
      obtain ⟨r8, q9, h⟩ := bd1_some h
      obtain ⟨q9, c_r8⟩ := zRc_some q9
      refine V_getR (zdk tbX6_ask_0_ok 12 rfl) c_v0 fF6_19 rfl q9 ?_
      refine V_iload_n 1 (zdk tbX6_ask_0_ok 13 rfl) rfl ?_
      obtain ⟨μ10, e11, h⟩ := lt_some h
      refine V_putI (zdk tbX6_ask_0_ok 14 rfl) c_r8 fF6_141 rfl rfl rfl e11 ?_
      refine V_goto (tgt := 115) (zdk tbX6_ask_0_ok 15 rfl) (by decide) ?_
      refine V_sub (ls' := [(3, .int (zI μ3 r6 2))]) [2] rfl ?_
      exact tX6_ask_b115 (zI μ3 r6 2) μ10  h

-- WhoComplainsCarries.tire
def tbX6_tire_0 : List (Nat × Instr × Nat) := [(0, .aload_n 0, 1), (1, .iload_n 1, 1), (2, .invokevirtual 122, 3), (5, .ifCond .ne 9, 3), (8, .aload_n 0, 1), (9, .iconst (-1), 1), (10, .invokevirtual 66, 3), (13, .ireturn, 1), (14, .iload_n 2, 1), (15, .iconst 0, 1), (16, .bipush 99, 2), (18, .invokestatic 153, 3), (21, .ifCond .ne 10, 3), (24, .aload_n 0, 1), (25, .bipush (-6), 2), (27, .invokevirtual 66, 3), (30, .ireturn, 1), (31, .aload_n 0, 1), (32, .getfield 19, 3), (35, .getfield 124, 3), (38, .iload_n 1, 1), (39, .aaload, 1), (40, .getfield 150, 3), (43, .istore_n 3, 1), (44, .aload_n 0, 1), (45, .getfield 19, 3), (48, .getfield 124, 3), (51, .iload_n 1, 1), (52, .aaload, 1), (53, .iload_n 2, 1), (54, .putfield 150, 3), (57, .iload_n 3, 1), (58, .ireturn, 1)]
theorem tbX6_tire_0_ok : ∀ q ∈ tbX6_tire_0, decode cX6_tire q.1 = .ok (q.2.1, q.2.2) := by decide +kernel
def fX6_tire (n : Nat) (v0 : Nat) (v1 : Int32) (v2 : Int32) (μ : ZMem) : Option (ZMem × Int32) := chk (isC n 6 v0) (bd2 (fX6_isPerson n v0 v1 μ) (fun μ2 r3 => (if r3 = 0 then bd2 (fX6_refuse n v0 (-1 : Int32) μ2) (fun μ29 r30 => some (μ29, r30)) else bd2 (fX6_isIn n v2 (0 : Int32) (99 : Int32) μ2) (fun μ6 r7 => (if r7 = 0 then bd2 (fX6_refuse n v0 (-6 : Int32) μ6) (fun μ26 r27 => some (μ26, r27)) else bd1 (zRc n 4 μ6 v0 1) (fun r9 => bd1 (zRc n 102 μ6 r9 0) (fun r11 => chk (inb v1 r11) (bd1 (zRc n 1 μ6 r11 v1.toNatClampNeg) (fun r14 => bd1 (zRc n 4 μ6 v0 1) (fun r16 => bd1 (zRc n 102 μ6 r16 0) (fun r18 => chk (inb v1 r18) (bd1 (zRc n 1 μ6 r18 v1.toNatClampNeg) (fun r21 => lt (zpI μ6 r21 4 v2) (fun μ23 => some (μ23, (zI μ6 r14 4))))))))))))))))
theorem tX6_tire {l : Launch} {fr : Bool} {n : Nat} {v0 : Nat} {v1 : Int32} {v2 : Int32} {μ : ZMem} {z : ZMem × Int32} (h : fX6_tire n v0 v1 v2 μ = some z) : ZFn l mX6_tire (rmd 3) [.ref v0, .int v1, .int v2] fr n μ (fr, n, z.1, some (.int z.2)) := by
  unfold fX6_tire at h
  obtain ⟨c_v0, h⟩ := chk_some h
  refine ZFn.of (ls := [(0, .ref v0), (1, .int v1), (2, .int v2)]) (by decide) (fun ξ => Nat.le_of_ble_eq_true rfl) (fun ξ => rfl) ?_
  refine V_aload_n 0 (zdk tbX6_tire_0_ok 0 rfl) rfl ?_
  refine V_iload_n 1 (zdk tbX6_tire_0_ok 1 rfl) rfl ?_
  obtain ⟨μ2, r3, q1, h⟩ := bd2_some h
  refine V_callV (R1 := (rmd 2)) (As := [.int v1]) (r := (some (.int r3))) (zdk tbX6_tire_0_ok 2 rfl) sC6_122 (tX6_isPerson q1) (c_v0) rfl rfl rfl ⟨Nat.le_of_ble_eq_true rfl, Nat.le_of_ble_eq_true rfl⟩ (Nat.le_of_ble_eq_true rfl) ⟨rfl, rfl⟩ id ?_
  refine V_if_ne (tgt := 14) (zdk tbX6_tire_0_ok 3 rfl) (by decide) (fun c4 => ?_) (fun c4 => ?_)
  · replace h := ite_f h c4
    refine V_iload_n 2 (zdk tbX6_tire_0_ok 8 rfl) rfl ?_
    refine V_iconst (v := 0) (zdk tbX6_tire_0_ok 9 rfl) rfl ?_
    refine V_bipush (v := 99) (zdk tbX6_tire_0_ok 10 rfl) rfl ?_
    obtain ⟨μ6, r7, q5, h⟩ := bd2_some h
    refine V_callS (R1 := (rmd 1)) (As := [.int v2, .int (0 : Int32), .int (99 : Int32)]) (r := (some (.int r7))) (zdk tbX6_tire_0_ok 11 rfl) sC6_153 (tX6_isIn q5) rfl rfl ⟨Nat.le_of_ble_eq_true rfl, Nat.le_of_ble_eq_true rfl⟩ (Nat.le_of_ble_eq_true rfl) ⟨rfl, rfl⟩ id ?_
    refine V_if_ne (tgt := 31) (zdk tbX6_tire_0_ok 12 rfl) (by decide) (fun c8 => ?_) (fun c8 => ?_)
    · replace h := ite_f h c8
      refine V_aload_n 0 (zdk tbX6_tire_0_ok 17 rfl) rfl ?_
      obtain ⟨r9, q10, h⟩ := bd1_some h
      obtain ⟨q10, c_r9⟩ := zRc_some q10
      refine V_getR (zdk tbX6_tire_0_ok 18 rfl) c_v0 fF6_19 rfl q10 ?_
      obtain ⟨r11, q12, h⟩ := bd1_some h
      obtain ⟨q12, c_r11⟩ := zRc_some q12
      refine V_getR (zdk tbX6_tire_0_ok 19 rfl) c_r9 fF6_124 rfl q12 ?_
      refine V_iload_n 1 (zdk tbX6_tire_0_ok 20 rfl) rfl ?_
      obtain ⟨b13, h⟩ := chk_some h
      obtain ⟨r14, q15, h⟩ := bd1_some h
      obtain ⟨q15, c_r14⟩ := zRc_some q15
      refine V_aald2 (zdk tbX6_tire_0_ok 21 rfl) c_r11 b13 q15 ?_
      refine V_getI (zdk tbX6_tire_0_ok 22 rfl) c_r14 fF6_150 rfl ?_
      refine V_istore_n (ls' := [(0, .ref v0), (1, .int v1), (2, .int v2), (3, .int (zI μ6 r14 4))]) [1, 2, 3, 0] (zdk tbX6_tire_0_ok 23 rfl) (Nat.le_of_ble_eq_true rfl) rfl ?_
      refine V_aload_n 0 (zdk tbX6_tire_0_ok 24 rfl) rfl ?_
      obtain ⟨r16, q17, h⟩ := bd1_some h
      obtain ⟨q17, c_r16⟩ := zRc_some q17
      refine V_getR (zdk tbX6_tire_0_ok 25 rfl) c_v0 fF6_19 rfl q17 ?_
      obtain ⟨r18, q19, h⟩ := bd1_some h
      obtain ⟨q19, c_r18⟩ := zRc_some q19
      refine V_getR (zdk tbX6_tire_0_ok 26 rfl) c_r16 fF6_124 rfl q19 ?_
      refine V_iload_n 1 (zdk tbX6_tire_0_ok 27 rfl) rfl ?_
      obtain ⟨b20, h⟩ := chk_some h
      obtain ⟨r21, q22, h⟩ := bd1_some h
      obtain ⟨q22, c_r21⟩ := zRc_some q22
      refine V_aald2 (zdk tbX6_tire_0_ok 28 rfl) c_r18 b20 q22 ?_
      refine V_iload_n 2 (zdk tbX6_tire_0_ok 29 rfl) rfl ?_
      obtain ⟨μ23, e24, h⟩ := lt_some h
      refine V_putI (zdk tbX6_tire_0_ok 30 rfl) c_r21 fF6_150 rfl rfl rfl e24 ?_
      refine V_iload_n 3 (zdk tbX6_tire_0_ok 31 rfl) rfl ?_
      cases h
      exact V_iret (zdk tbX6_tire_0_ok 32 rfl) rfl rfl
    · replace h := ite_t h c8
      refine V_aload_n 0 (zdk tbX6_tire_0_ok 13 rfl) rfl ?_
      refine V_bipush (v := (-6)) (zdk tbX6_tire_0_ok 14 rfl) rfl ?_
      obtain ⟨μ26, r27, q25, h⟩ := bd2_some h
      refine V_callV (R1 := (rmd 2)) (As := [.int (-6 : Int32)]) (r := (some (.int r27))) (zdk tbX6_tire_0_ok 15 rfl) sC6_66 (tX6_refuse q25) (c_v0) rfl rfl rfl ⟨Nat.le_of_ble_eq_true rfl, Nat.le_of_ble_eq_true rfl⟩ (Nat.le_of_ble_eq_true rfl) ⟨rfl, rfl⟩ id ?_
      cases h
      exact V_iret (zdk tbX6_tire_0_ok 16 rfl) rfl rfl
  · replace h := ite_t h c4
    refine V_aload_n 0 (zdk tbX6_tire_0_ok 4 rfl) rfl ?_
    refine V_iconst (v := (-1)) (zdk tbX6_tire_0_ok 5 rfl) rfl ?_
    obtain ⟨μ29, r30, q28, h⟩ := bd2_some h
    refine V_callV (R1 := (rmd 2)) (As := [.int (-1 : Int32)]) (r := (some (.int r30))) (zdk tbX6_tire_0_ok 6 rfl) sC6_66 (tX6_refuse q28) (c_v0) rfl rfl rfl ⟨Nat.le_of_ble_eq_true rfl, Nat.le_of_ble_eq_true rfl⟩ (Nat.le_of_ble_eq_true rfl) ⟨rfl, rfl⟩ id ?_
    cases h
    exact V_iret (zdk tbX6_tire_0_ok 7 rfl) rfl rfl

-- WhoComplainsCarries.refuseFar
def tbX6_refuseFar_0 : List (Nat × Instr × Nat) := [(0, .aload_n 0, 1), (1, .iload_n 1, 1), (2, .invokevirtual 66, 3), (5, .bipush 10, 2), (7, .isub, 1), (8, .ireturn, 1)]
theorem tbX6_refuseFar_0_ok : ∀ q ∈ tbX6_refuseFar_0, decode cX6_refuseFar q.1 = .ok (q.2.1, q.2.2) := by decide +kernel
def fX6_refuseFar (n : Nat) (v0 : Nat) (v1 : Int32) (μ : ZMem) : Option (ZMem × Int32) := chk (isC n 6 v0) (bd2 (fX6_refuse n v0 v1 μ) (fun μ2 r3 => some (μ2, (r3 - (10 : Int32)))))
theorem tX6_refuseFar {l : Launch} {fr : Bool} {n : Nat} {v0 : Nat} {v1 : Int32} {μ : ZMem} {z : ZMem × Int32} (h : fX6_refuseFar n v0 v1 μ = some z) : ZFn l mX6_refuseFar (rmd 3) [.ref v0, .int v1] fr n μ (fr, n, z.1, some (.int z.2)) := by
  unfold fX6_refuseFar at h
  obtain ⟨c_v0, h⟩ := chk_some h
  refine ZFn.of (ls := [(0, .ref v0), (1, .int v1)]) (by decide) (fun ξ => Nat.le_of_ble_eq_true rfl) (fun ξ => rfl) ?_
  refine V_aload_n 0 (zdk tbX6_refuseFar_0_ok 0 rfl) rfl ?_
  refine V_iload_n 1 (zdk tbX6_refuseFar_0_ok 1 rfl) rfl ?_
  obtain ⟨μ2, r3, q1, h⟩ := bd2_some h
  refine V_callV (R1 := (rmd 2)) (As := [.int v1]) (r := (some (.int r3))) (zdk tbX6_refuseFar_0_ok 2 rfl) sC6_66 (tX6_refuse q1) (c_v0) rfl rfl rfl ⟨Nat.le_of_ble_eq_true rfl, Nat.le_of_ble_eq_true rfl⟩ (Nat.le_of_ble_eq_true rfl) ⟨rfl, rfl⟩ id ?_
  refine V_bipush (v := 10) (zdk tbX6_refuseFar_0_ok 3 rfl) rfl ?_
  refine V_isub (zdk tbX6_refuseFar_0_ok 4 rfl) ?_
  cases h
  exact V_iret (zdk tbX6_refuseFar_0_ok 5 rfl) rfl rfl

-- WhoComplainsCarries.give
def tbX6_give_0 : List (Nat × Instr × Nat) := [(0, .aload_n 0, 1), (1, .iload_n 1, 1), (2, .invokevirtual 96, 3), (5, .ifCond .ne 9, 3), (8, .aload_n 0, 1), (9, .iconst (-1), 1), (10, .invokevirtual 173, 3), (13, .ireturn, 1), (14, .aload_n 0, 1), (15, .getfield 19, 3), (18, .getfield 176, 3), (21, .istore_n 2, 1), (22, .aload_n 0, 1), (23, .getfield 19, 3), (26, .iload_n 1, 1), (27, .putfield 176, 3), (30, .iload_n 2, 1), (31, .ireturn, 1)]
theorem tbX6_give_0_ok : ∀ q ∈ tbX6_give_0, decode cX6_give q.1 = .ok (q.2.1, q.2.2) := by decide +kernel
theorem fF6_176 : zF RX6 176 4 5 := ⟨_, rfl, by decide, zin (i := 112) (by decide +kernel) rfl⟩
theorem wCX6_refuseFar : zCW mX6_refuseFar 1 := ⟨zin (i := 1) (by decide +kernel) rfl, zin (i := 401) (by decide +kernel) rfl, by decide +kernel, by decide +kernel, by decide +kernel⟩
theorem sC6_173 : zCV RX6 173 mX6_refuseFar 1 := ⟨zin (i := 398) (by decide +kernel) rfl, zin (i := 400) (by decide +kernel) rfl, zinP (i := 5) (q := (yX6_refuseFar, 10)) (by decide +kernel) rfl, wCX6_refuseFar⟩
def fX6_give (n : Nat) (v0 : Nat) (v1 : Int32) (μ : ZMem) : Option (ZMem × Int32) := chk (isC n 6 v0) (bd2 (fX6_isPersonOrNone n v0 v1 μ) (fun μ2 r3 => (if r3 = 0 then bd2 (fX6_refuseFar n v0 (-1 : Int32) μ2) (fun μ12 r13 => some (μ12, r13)) else bd1 (zRc n 4 μ2 v0 1) (fun r5 => bd1 (zRc n 4 μ2 v0 1) (fun r7 => lt (zpI μ2 r7 5 v1) (fun μ9 => some (μ9, (zI μ2 r5 5))))))))
theorem tX6_give {l : Launch} {fr : Bool} {n : Nat} {v0 : Nat} {v1 : Int32} {μ : ZMem} {z : ZMem × Int32} (h : fX6_give n v0 v1 μ = some z) : ZFn l mX6_give (rmd 4) [.ref v0, .int v1] fr n μ (fr, n, z.1, some (.int z.2)) := by
  unfold fX6_give at h
  obtain ⟨c_v0, h⟩ := chk_some h
  refine ZFn.of (ls := [(0, .ref v0), (1, .int v1)]) (by decide) (fun ξ => Nat.le_of_ble_eq_true rfl) (fun ξ => rfl) ?_
  refine V_aload_n 0 (zdk tbX6_give_0_ok 0 rfl) rfl ?_
  refine V_iload_n 1 (zdk tbX6_give_0_ok 1 rfl) rfl ?_
  obtain ⟨μ2, r3, q1, h⟩ := bd2_some h
  refine V_callV (R1 := (rmd 3)) (As := [.int v1]) (r := (some (.int r3))) (zdk tbX6_give_0_ok 2 rfl) sC6_96 (tX6_isPersonOrNone q1) (c_v0) rfl rfl rfl ⟨Nat.le_of_ble_eq_true rfl, Nat.le_of_ble_eq_true rfl⟩ (Nat.le_of_ble_eq_true rfl) ⟨rfl, rfl⟩ id ?_
  refine V_if_ne (tgt := 14) (zdk tbX6_give_0_ok 3 rfl) (by decide) (fun c4 => ?_) (fun c4 => ?_)
  · replace h := ite_f h c4
    refine V_aload_n 0 (zdk tbX6_give_0_ok 8 rfl) rfl ?_
    obtain ⟨r5, q6, h⟩ := bd1_some h
    obtain ⟨q6, c_r5⟩ := zRc_some q6
    refine V_getR (zdk tbX6_give_0_ok 9 rfl) c_v0 fF6_19 rfl q6 ?_
    refine V_getI (zdk tbX6_give_0_ok 10 rfl) c_r5 fF6_176 rfl ?_
    refine V_istore_n (ls' := [(0, .ref v0), (1, .int v1), (2, .int (zI μ2 r5 5))]) [1, 2, 0] (zdk tbX6_give_0_ok 11 rfl) (Nat.le_of_ble_eq_true rfl) rfl ?_
    refine V_aload_n 0 (zdk tbX6_give_0_ok 12 rfl) rfl ?_
    obtain ⟨r7, q8, h⟩ := bd1_some h
    obtain ⟨q8, c_r7⟩ := zRc_some q8
    refine V_getR (zdk tbX6_give_0_ok 13 rfl) c_v0 fF6_19 rfl q8 ?_
    refine V_iload_n 1 (zdk tbX6_give_0_ok 14 rfl) rfl ?_
    obtain ⟨μ9, e10, h⟩ := lt_some h
    refine V_putI (zdk tbX6_give_0_ok 15 rfl) c_r7 fF6_176 rfl rfl rfl e10 ?_
    refine V_iload_n 2 (zdk tbX6_give_0_ok 16 rfl) rfl ?_
    cases h
    exact V_iret (zdk tbX6_give_0_ok 17 rfl) rfl rfl
  · replace h := ite_t h c4
    refine V_aload_n 0 (zdk tbX6_give_0_ok 4 rfl) rfl ?_
    refine V_iconst (v := (-1)) (zdk tbX6_give_0_ok 5 rfl) rfl ?_
    obtain ⟨μ12, r13, q11, h⟩ := bd2_some h
    refine V_callV (R1 := (rmd 3)) (As := [.int (-1 : Int32)]) (r := (some (.int r13))) (zdk tbX6_give_0_ok 6 rfl) sC6_173 (tX6_refuseFar q11) (c_v0) rfl rfl rfl ⟨Nat.le_of_ble_eq_true rfl, Nat.le_of_ble_eq_true rfl⟩ (Nat.le_of_ble_eq_true rfl) ⟨rfl, rfl⟩ id ?_
    cases h
    exact V_iret (zdk tbX6_give_0_ok 7 rfl) rfl rfl

-- WhoComplainsCarries.personOf
def tbX6_personOf_0 : List (Nat × Instr × Nat) := [(0, .aload_n 0, 1), (1, .iload_n 1, 1), (2, .invokevirtual 122, 3), (5, .ifCond .ne 10, 3), (8, .aload_n 0, 1), (9, .bipush (-5), 2), (11, .invokevirtual 66, 3), (14, .ireturn, 1), (15, .aload_n 0, 1), (16, .getfield 19, 3), (19, .getfield 124, 3), (22, .iload_n 1, 1), (23, .aaload, 1), (24, .astore_n 3, 1), (25, .iload_n 2, 1), (26, .tableswitch 100 0 7 #[46, 51, 56, 61, 66, 71, 83, 95], 46), (72, .aload_n 3, 1), (73, .getfield 128, 3), (76, .ireturn, 1), (77, .aload_n 3, 1), (78, .getfield 179, 3), (81, .ireturn, 1), (82, .aload_n 3, 1), (83, .getfield 182, 3), (86, .ireturn, 1), (87, .aload_n 3, 1), (88, .getfield 185, 3), (91, .ireturn, 1), (92, .aload_n 3, 1), (93, .getfield 150, 3), (96, .ireturn, 1), (97, .aload_n 3, 1), (98, .aload_n 0, 1), (99, .getfield 19, 3), (102, .getfield 141, 3), (105, .invokevirtual 147, 3), (108, .ireturn, 1), (109, .aload_n 3, 1), (110, .aload_n 0, 1), (111, .getfield 19, 3), (114, .getfield 141, 3), (117, .invokevirtual 144, 3), (120, .ireturn, 1), (121, .aload_n 3, 1), (122, .invokevirtual 137, 3), (125, .ireturn, 1), (126, .aload_n 0, 1), (127, .bipush (-5), 2), (129, .invokevirtual 66, 3), (132, .ireturn, 1)]
theorem tbX6_personOf_0_ok : ∀ q ∈ tbX6_personOf_0, decode cX6_personOf q.1 = .ok (q.2.1, q.2.2) := by decide +kernel
theorem fF6_179 : zF RX6 179 1 1 := ⟨_, rfl, by decide, zin (i := 73) (by decide +kernel) rfl⟩
theorem fF6_182 : zF RX6 182 1 2 := ⟨_, rfl, by decide, zin (i := 76) (by decide +kernel) rfl⟩
theorem fF6_185 : zF RX6 185 1 3 := ⟨_, rfl, by decide, zin (i := 78) (by decide +kernel) rfl⟩
def fX6_personOf (n : Nat) (v0 : Nat) (v1 : Int32) (v2 : Int32) (μ : ZMem) : Option (ZMem × Int32) := chk (isC n 6 v0) (bd2 (fX6_isPerson n v0 v1 μ) (fun μ2 r3 => (if r3 = 0 then bd2 (fX6_refuse n v0 (-5 : Int32) μ2) (fun μ37 r38 => some (μ37, r38)) else bd1 (zRc n 4 μ2 v0 1) (fun r5 => bd1 (zRc n 102 μ2 r5 0) (fun r7 => chk (inb v1 r7) (bd1 (zRc n 1 μ2 r7 v1.toNatClampNeg) (fun r10 => (if v2 = (0 : Int32) then some (μ2, (zI μ2 r10 0)) else (if v2 = (1 : Int32) then some (μ2, (zI μ2 r10 1)) else (if v2 = (2 : Int32) then some (μ2, (zI μ2 r10 2)) else (if v2 = (3 : Int32) then some (μ2, (zI μ2 r10 3)) else (if v2 = (4 : Int32) then some (μ2, (zI μ2 r10 4)) else (if v2 = (5 : Int32) then bd1 (zRc n 4 μ2 v0 1) (fun r18 => bd2 (fX1_pace n r10 (zI μ2 r18 2) μ2) (fun μ21 r22 => some (μ21, r22))) else (if v2 = (6 : Int32) then bd1 (zRc n 4 μ2 v0 1) (fun r24 => bd2 (fX1_toil n r10 (zI μ2 r24 2) μ2) (fun μ27 r28 => some (μ27, r28))) else (if v2 = (7 : Int32) then bd2 (fX1_limit n r10 μ2) (fun μ31 r32 => some (μ31, r32)) else bd2 (fX6_refuse n v0 (-5 : Int32) μ2) (fun μ34 r35 => some (μ34, r35)))))))))))))))))
theorem tX6_personOf {l : Launch} {fr : Bool} {n : Nat} {v0 : Nat} {v1 : Int32} {v2 : Int32} {μ : ZMem} {z : ZMem × Int32} (h : fX6_personOf n v0 v1 v2 μ = some z) : ZFn l mX6_personOf (rmd 3) [.ref v0, .int v1, .int v2] fr n μ (fr, n, z.1, some (.int z.2)) := by
  unfold fX6_personOf at h
  obtain ⟨c_v0, h⟩ := chk_some h
  refine ZFn.of (ls := [(0, .ref v0), (1, .int v1), (2, .int v2)]) (by decide) (fun ξ => Nat.le_of_ble_eq_true rfl) (fun ξ => rfl) ?_
  refine V_aload_n 0 (zdk tbX6_personOf_0_ok 0 rfl) rfl ?_
  refine V_iload_n 1 (zdk tbX6_personOf_0_ok 1 rfl) rfl ?_
  obtain ⟨μ2, r3, q1, h⟩ := bd2_some h
  refine V_callV (R1 := (rmd 2)) (As := [.int v1]) (r := (some (.int r3))) (zdk tbX6_personOf_0_ok 2 rfl) sC6_122 (tX6_isPerson q1) (c_v0) rfl rfl rfl ⟨Nat.le_of_ble_eq_true rfl, Nat.le_of_ble_eq_true rfl⟩ (Nat.le_of_ble_eq_true rfl) ⟨rfl, rfl⟩ id ?_
  refine V_if_ne (tgt := 15) (zdk tbX6_personOf_0_ok 3 rfl) (by decide) (fun c4 => ?_) (fun c4 => ?_)
  · replace h := ite_f h c4
    refine V_aload_n 0 (zdk tbX6_personOf_0_ok 8 rfl) rfl ?_
    obtain ⟨r5, q6, h⟩ := bd1_some h
    obtain ⟨q6, c_r5⟩ := zRc_some q6
    refine V_getR (zdk tbX6_personOf_0_ok 9 rfl) c_v0 fF6_19 rfl q6 ?_
    obtain ⟨r7, q8, h⟩ := bd1_some h
    obtain ⟨q8, c_r7⟩ := zRc_some q8
    refine V_getR (zdk tbX6_personOf_0_ok 10 rfl) c_r5 fF6_124 rfl q8 ?_
    refine V_iload_n 1 (zdk tbX6_personOf_0_ok 11 rfl) rfl ?_
    obtain ⟨b9, h⟩ := chk_some h
    obtain ⟨r10, q11, h⟩ := bd1_some h
    obtain ⟨q11, c_r10⟩ := zRc_some q11
    refine V_aald2 (zdk tbX6_personOf_0_ok 12 rfl) c_r7 b9 q11 ?_
    refine V_astore_n (ls' := [(0, .ref v0), (2, .int v2), (3, .ref r10)]) [1, 3, 0] (zdk tbX6_personOf_0_ok 13 rfl) (Nat.le_of_ble_eq_true rfl) rfl ?_
    refine V_iload_n 1 (zdk tbX6_personOf_0_ok 14 rfl) rfl ?_
    by_cases c12 : v2 = (0 : Int32)
    · replace h := ite_t h c12
      refine V_tsw (off := 46) (tgt := 72) 0 c12 (zdk tbX6_personOf_0_ok 15 rfl) (by decide) rfl (by decide) ?_
      refine V_aload_n 2 (zdk tbX6_personOf_0_ok 16 rfl) rfl ?_
      refine V_getI (zdk tbX6_personOf_0_ok 17 rfl) c_r10 fF6_128 rfl ?_
      cases h
      exact V_iret (zdk tbX6_personOf_0_ok 18 rfl) rfl rfl
    · replace h := ite_f h c12
      by_cases c13 : v2 = (1 : Int32)
      · replace h := ite_t h c13
        refine V_tsw (off := 51) (tgt := 77) 1 c13 (zdk tbX6_personOf_0_ok 15 rfl) (by decide) rfl (by decide) ?_
        refine V_aload_n 2 (zdk tbX6_personOf_0_ok 19 rfl) rfl ?_
        refine V_getI (zdk tbX6_personOf_0_ok 20 rfl) c_r10 fF6_179 rfl ?_
        cases h
        exact V_iret (zdk tbX6_personOf_0_ok 21 rfl) rfl rfl
      · replace h := ite_f h c13
        by_cases c14 : v2 = (2 : Int32)
        · replace h := ite_t h c14
          refine V_tsw (off := 56) (tgt := 82) 2 c14 (zdk tbX6_personOf_0_ok 15 rfl) (by decide) rfl (by decide) ?_
          refine V_aload_n 2 (zdk tbX6_personOf_0_ok 22 rfl) rfl ?_
          refine V_getI (zdk tbX6_personOf_0_ok 23 rfl) c_r10 fF6_182 rfl ?_
          cases h
          exact V_iret (zdk tbX6_personOf_0_ok 24 rfl) rfl rfl
        · replace h := ite_f h c14
          by_cases c15 : v2 = (3 : Int32)
          · replace h := ite_t h c15
            refine V_tsw (off := 61) (tgt := 87) 3 c15 (zdk tbX6_personOf_0_ok 15 rfl) (by decide) rfl (by decide) ?_
            refine V_aload_n 2 (zdk tbX6_personOf_0_ok 25 rfl) rfl ?_
            refine V_getI (zdk tbX6_personOf_0_ok 26 rfl) c_r10 fF6_185 rfl ?_
            cases h
            exact V_iret (zdk tbX6_personOf_0_ok 27 rfl) rfl rfl
          · replace h := ite_f h c15
            by_cases c16 : v2 = (4 : Int32)
            · replace h := ite_t h c16
              refine V_tsw (off := 66) (tgt := 92) 4 c16 (zdk tbX6_personOf_0_ok 15 rfl) (by decide) rfl (by decide) ?_
              refine V_aload_n 2 (zdk tbX6_personOf_0_ok 28 rfl) rfl ?_
              refine V_getI (zdk tbX6_personOf_0_ok 29 rfl) c_r10 fF6_150 rfl ?_
              cases h
              exact V_iret (zdk tbX6_personOf_0_ok 30 rfl) rfl rfl
            · replace h := ite_f h c16
              by_cases c17 : v2 = (5 : Int32)
              · replace h := ite_t h c17
                refine V_tsw (off := 71) (tgt := 97) 5 c17 (zdk tbX6_personOf_0_ok 15 rfl) (by decide) rfl (by decide) ?_
                refine V_aload_n 2 (zdk tbX6_personOf_0_ok 31 rfl) rfl ?_
                refine V_aload_n 0 (zdk tbX6_personOf_0_ok 32 rfl) rfl ?_
                obtain ⟨r18, q19, h⟩ := bd1_some h
                obtain ⟨q19, c_r18⟩ := zRc_some q19
                refine V_getR (zdk tbX6_personOf_0_ok 33 rfl) c_v0 fF6_19 rfl q19 ?_
                refine V_getI (zdk tbX6_personOf_0_ok 34 rfl) c_r18 fF6_141 rfl ?_
                obtain ⟨μ21, r22, q20, h⟩ := bd2_some h
                refine V_callV (R1 := (rmd 1)) (As := [.int (zI μ2 r18 2)]) (r := (some (.int r22))) (zdk tbX6_personOf_0_ok 35 rfl) sC6_147 (tX1_pace q20) (c_r10) rfl rfl rfl ⟨Nat.le_of_ble_eq_true rfl, Nat.le_of_ble_eq_true rfl⟩ (Nat.le_of_ble_eq_true rfl) ⟨rfl, rfl⟩ id ?_
                cases h
                exact V_iret (zdk tbX6_personOf_0_ok 36 rfl) rfl rfl
              · replace h := ite_f h c17
                by_cases c23 : v2 = (6 : Int32)
                · replace h := ite_t h c23
                  refine V_tsw (off := 83) (tgt := 109) 6 c23 (zdk tbX6_personOf_0_ok 15 rfl) (by decide) rfl (by decide) ?_
                  refine V_aload_n 2 (zdk tbX6_personOf_0_ok 37 rfl) rfl ?_
                  refine V_aload_n 0 (zdk tbX6_personOf_0_ok 38 rfl) rfl ?_
                  obtain ⟨r24, q25, h⟩ := bd1_some h
                  obtain ⟨q25, c_r24⟩ := zRc_some q25
                  refine V_getR (zdk tbX6_personOf_0_ok 39 rfl) c_v0 fF6_19 rfl q25 ?_
                  refine V_getI (zdk tbX6_personOf_0_ok 40 rfl) c_r24 fF6_141 rfl ?_
                  obtain ⟨μ27, r28, q26, h⟩ := bd2_some h
                  refine V_callV (R1 := (rmd 2)) (As := [.int (zI μ2 r24 2)]) (r := (some (.int r28))) (zdk tbX6_personOf_0_ok 41 rfl) sC6_144 (tX1_toil q26) (c_r10) rfl rfl rfl ⟨Nat.le_of_ble_eq_true rfl, Nat.le_of_ble_eq_true rfl⟩ (Nat.le_of_ble_eq_true rfl) ⟨rfl, rfl⟩ id ?_
                  cases h
                  exact V_iret (zdk tbX6_personOf_0_ok 42 rfl) rfl rfl
                · replace h := ite_f h c23
                  by_cases c29 : v2 = (7 : Int32)
                  · replace h := ite_t h c29
                    refine V_tsw (off := 95) (tgt := 121) 7 c29 (zdk tbX6_personOf_0_ok 15 rfl) (by decide) rfl (by decide) ?_
                    refine V_aload_n 2 (zdk tbX6_personOf_0_ok 43 rfl) rfl ?_
                    obtain ⟨μ31, r32, q30, h⟩ := bd2_some h
                    refine V_callV (R1 := (rmd 1)) (As := []) (r := (some (.int r32))) (zdk tbX6_personOf_0_ok 44 rfl) sC6_137 (tX1_limit q30) (c_r10) rfl rfl rfl ⟨Nat.le_of_ble_eq_true rfl, Nat.le_of_ble_eq_true rfl⟩ (Nat.le_of_ble_eq_true rfl) ⟨rfl, rfl⟩ id ?_
                    cases h
                    exact V_iret (zdk tbX6_personOf_0_ok 45 rfl) rfl rfl
                  · replace h := ite_f h c29
                    refine V_tsw0 (tgt := 126) [0, 1, 2, 3, 4, 5, 6, 7] (List.forall_mem_cons.mpr ⟨c12, List.forall_mem_cons.mpr ⟨c13, List.forall_mem_cons.mpr ⟨c14, List.forall_mem_cons.mpr ⟨c15, List.forall_mem_cons.mpr ⟨c16, List.forall_mem_cons.mpr ⟨c17, List.forall_mem_cons.mpr ⟨c23, List.forall_mem_cons.mpr ⟨c29, fun _ h => absurd h List.not_mem_nil⟩⟩⟩⟩⟩⟩⟩⟩) (zdk tbX6_personOf_0_ok 15 rfl) (by decide) (by decide) (by decide) ?_
                    refine V_aload_n 0 (zdk tbX6_personOf_0_ok 46 rfl) rfl ?_
                    refine V_bipush (v := (-5)) (zdk tbX6_personOf_0_ok 47 rfl) rfl ?_
                    obtain ⟨μ34, r35, q33, h⟩ := bd2_some h
                    refine V_callV (R1 := (rmd 2)) (As := [.int (-5 : Int32)]) (r := (some (.int r35))) (zdk tbX6_personOf_0_ok 48 rfl) sC6_66 (tX6_refuse q33) (c_v0) rfl rfl rfl ⟨Nat.le_of_ble_eq_true rfl, Nat.le_of_ble_eq_true rfl⟩ (Nat.le_of_ble_eq_true rfl) ⟨rfl, rfl⟩ id ?_
                    cases h
                    exact V_iret (zdk tbX6_personOf_0_ok 49 rfl) rfl rfl
  · replace h := ite_t h c4
    refine V_aload_n 0 (zdk tbX6_personOf_0_ok 4 rfl) rfl ?_
    refine V_bipush (v := (-5)) (zdk tbX6_personOf_0_ok 5 rfl) rfl ?_
    obtain ⟨μ37, r38, q36, h⟩ := bd2_some h
    refine V_callV (R1 := (rmd 2)) (As := [.int (-5 : Int32)]) (r := (some (.int r38))) (zdk tbX6_personOf_0_ok 6 rfl) sC6_66 (tX6_refuse q36) (c_v0) rfl rfl rfl ⟨Nat.le_of_ble_eq_true rfl, Nat.le_of_ble_eq_true rfl⟩ (Nat.le_of_ble_eq_true rfl) ⟨rfl, rfl⟩ id ?_
    cases h
    exact V_iret (zdk tbX6_personOf_0_ok 7 rfl) rfl rfl

-- WhoComplainsCarries.vow
def tbX6_vow_0 : List (Nat × Instr × Nat) := [(0, .aload_n 0, 1), (1, .iload_n 1, 1), (2, .invokevirtual 74, 3), (5, .istore_n 2, 1), (6, .iload_n 2, 1), (7, .ifCond .eq 9, 3), (10, .aload_n 0, 1), (11, .iload_n 2, 1), (12, .invokevirtual 66, 3), (15, .ireturn, 1), (16, .aload_n 0, 1), (17, .getfield 39, 3), (20, .aload_n 0, 1), (21, .getfield 11, 3), (24, .iload_n 1, 1), (25, .aaload, 1), (26, .aload_n 0, 1), (27, .getfield 19, 3), (30, .invokevirtual 188, 3), (33, .istore_n 3, 1), (34, .aload_n 0, 1), (35, .aload_n 0, 1), (36, .getfield 39, 3), (39, .getfield 192, 3), (42, .putfield 58, 3), (45, .aload_n 0, 1), (46, .getfield 58, 3), (49, .iconst (-1), 1), (50, .if_icmp .eq 10, 3), (53, .aload_n 0, 1), (54, .bipush (-6), 2), (56, .invokevirtual 66, 3), (59, .ireturn, 1), (60, .aload_n 0, 1), (61, .getfield 19, 3), (64, .aload_n 0, 1), (65, .getfield 39, 3), (68, .getfield 193, 3), (71, .invokevirtual 196, 3), (74, .iload_n 3, 1), (75, .ireturn, 1)]
theorem tbX6_vow_0_ok : ∀ q ∈ tbX6_vow_0, decode cX6_vow q.1 = .ok (q.2.1, q.2.2) := by decide +kernel
theorem wCX5_readItems : zCW mX5_readItems 2 := ⟨zin (i := 6) (by decide +kernel) rfl, zin (i := 413) (by decide +kernel) rfl, by decide +kernel, by decide +kernel, by decide +kernel⟩
theorem sC6_188 : zCV RX6 188 mX5_readItems 2 := ⟨zin (i := 410) (by decide +kernel) rfl, zin (i := 411) (by decide +kernel) rfl, zin (i := 412) (by decide +kernel) rfl, wCX5_readItems⟩
theorem fF6_192 : zF RX6 192 5 4 := ⟨_, rfl, by decide, zin (i := 177) (by decide +kernel) rfl⟩
theorem fF6_193 : zF RX6 193 5 2 := ⟨_, rfl, by decide, zin (i := 174) (by decide +kernel) rfl⟩
theorem sC6_196 : zCV RX6 196 mX4_load 1 := ⟨zin (i := 536) (by decide +kernel) rfl, zin (i := 425) (by decide +kernel) rfl, zin (i := 426) (by decide +kernel) rfl, wCX4_load⟩
def fX6_vow (n : Nat) (v0 : Nat) (v1 : Int32) (μ : ZMem) : Option (ZMem × Int32) := chk (isC n 6 v0) (bd2 (fX6_rowRefusal n v0 v1 μ) (fun μ2 r3 => (if r3 = 0 then bd1 (zRc n 5 μ2 v0 5) (fun r5 => bd1 (zRc n 104 μ2 v0 0) (fun r7 => chk (inb v1 r7) (bd1 (zRc n 3 μ2 r7 v1.toNatClampNeg) (fun r10 => bd1 (zRc n 4 μ2 v0 1) (fun r12 => bd2 (fX5_readItems n r5 r10 r12 μ2) (fun μ15 r16 => bd1 (zRc n 5 μ15 v0 5) (fun r17 => lt (zpI μ15 v0 9 (zI μ15 r17 4)) (fun μ19 => (if (zI μ19 v0 9) = (-1 : Int32) then bd1 (zRc n 4 μ19 v0 1) (fun r22 => bd1 (zRc n 5 μ19 v0 5) (fun r24 => bd1 (zRc n 4 μ19 r24 2) (fun r26 => bd1 (fX4_load n r22 r26 μ19) (fun μ29 => some (μ29, r16))))) else bd2 (fX6_refuse n v0 (-6 : Int32) μ19) (fun μ31 r32 => some (μ31, r32))))))))))) else bd2 (fX6_refuse n v0 r3 μ2) (fun μ34 r35 => some (μ34, r35)))))
theorem tX6_vow {l : Launch} {fr : Bool} {n : Nat} {v0 : Nat} {v1 : Int32} {μ : ZMem} {z : ZMem × Int32} (h : fX6_vow n v0 v1 μ = some z) : ZFn l mX6_vow (rmd 8) [.ref v0, .int v1] fr n μ (fr, n, z.1, some (.int z.2)) := by
  unfold fX6_vow at h
  obtain ⟨c_v0, h⟩ := chk_some h
  refine ZFn.of (ls := [(0, .ref v0), (1, .int v1)]) (by decide) (fun ξ => Nat.le_of_ble_eq_true rfl) (fun ξ => rfl) ?_
  refine V_aload_n 0 (zdk tbX6_vow_0_ok 0 rfl) rfl ?_
  refine V_iload_n 1 (zdk tbX6_vow_0_ok 1 rfl) rfl ?_
  obtain ⟨μ2, r3, q1, h⟩ := bd2_some h
  refine V_callV (R1 := (rmd 3)) (As := [.int v1]) (r := (some (.int r3))) (zdk tbX6_vow_0_ok 2 rfl) sC6_74 (tX6_rowRefusal q1) (c_v0) rfl rfl rfl ⟨Nat.le_of_ble_eq_true rfl, Nat.le_of_ble_eq_true rfl⟩ (Nat.le_of_ble_eq_true rfl) ⟨rfl, rfl⟩ id ?_
  refine V_istore_n (ls' := [(0, .ref v0), (1, .int v1), (2, .int r3)]) [1, 2, 0] (zdk tbX6_vow_0_ok 3 rfl) (Nat.le_of_ble_eq_true rfl) rfl ?_
  refine V_iload_n 2 (zdk tbX6_vow_0_ok 4 rfl) rfl ?_
  refine V_if_eq (tgt := 16) (zdk tbX6_vow_0_ok 5 rfl) (by decide) (fun c4 => ?_) (fun c4 => ?_)
  · replace h := ite_t h c4
    refine V_aload_n 0 (zdk tbX6_vow_0_ok 10 rfl) rfl ?_
    obtain ⟨r5, q6, h⟩ := bd1_some h
    obtain ⟨q6, c_r5⟩ := zRc_some q6
    refine V_getR (zdk tbX6_vow_0_ok 11 rfl) c_v0 fF6_39 rfl q6 ?_
    refine V_aload_n 0 (zdk tbX6_vow_0_ok 12 rfl) rfl ?_
    obtain ⟨r7, q8, h⟩ := bd1_some h
    obtain ⟨q8, c_r7⟩ := zRc_some q8
    refine V_getR (zdk tbX6_vow_0_ok 13 rfl) c_v0 fF6_11 rfl q8 ?_
    refine V_iload_n 1 (zdk tbX6_vow_0_ok 14 rfl) rfl ?_
    obtain ⟨b9, h⟩ := chk_some h
    obtain ⟨r10, q11, h⟩ := bd1_some h
    obtain ⟨q11, c_r10⟩ := zRc_some q11
    refine V_aald4 (zdk tbX6_vow_0_ok 15 rfl) c_r7 b9 q11 ?_
    refine V_aload_n 0 (zdk tbX6_vow_0_ok 16 rfl) rfl ?_
    obtain ⟨r12, q13, h⟩ := bd1_some h
    obtain ⟨q13, c_r12⟩ := zRc_some q13
    refine V_getR (zdk tbX6_vow_0_ok 17 rfl) c_v0 fF6_19 rfl q13 ?_
    obtain ⟨μ15, r16, q14, h⟩ := bd2_some h
    refine V_callV (R1 := (rmd 7)) (As := [.ref r10, .ref r12]) (r := (some (.int r16))) (zdk tbX6_vow_0_ok 18 rfl) sC6_188 (tX5_readItems q14) (c_r5) rfl rfl rfl ⟨Nat.le_of_ble_eq_true rfl, Nat.le_of_ble_eq_true rfl⟩ (Nat.le_of_ble_eq_true rfl) ⟨rfl, rfl⟩ id ?_
    refine V_istore_n (ls' := [(0, .ref v0), (3, .int r16)]) [1, 0] (zdk tbX6_vow_0_ok 19 rfl) (Nat.le_of_ble_eq_true rfl) rfl ?_
    refine V_aload_n 0 (zdk tbX6_vow_0_ok 20 rfl) rfl ?_
    refine V_aload_n 0 (zdk tbX6_vow_0_ok 21 rfl) rfl ?_
    obtain ⟨r17, q18, h⟩ := bd1_some h
    obtain ⟨q18, c_r17⟩ := zRc_some q18
    refine V_getR (zdk tbX6_vow_0_ok 22 rfl) c_v0 fF6_39 rfl q18 ?_
    refine V_getI (zdk tbX6_vow_0_ok 23 rfl) c_r17 fF6_192 rfl ?_
    obtain ⟨μ19, e20, h⟩ := lt_some h
    refine V_putI (zdk tbX6_vow_0_ok 24 rfl) c_v0 fF6_58 rfl rfl rfl e20 ?_
    refine V_aload_n 0 (zdk tbX6_vow_0_ok 25 rfl) rfl ?_
    refine V_getI (zdk tbX6_vow_0_ok 26 rfl) c_v0 fF6_58 rfl ?_
    refine V_iconst (v := (-1)) (zdk tbX6_vow_0_ok 27 rfl) rfl ?_
    refine V_icmp_eq (tgt := 60) (zdk tbX6_vow_0_ok 28 rfl) (by decide) (fun c21 => ?_) (fun c21 => ?_)
    · replace h := ite_t h c21
      refine V_aload_n 0 (zdk tbX6_vow_0_ok 33 rfl) rfl ?_
      obtain ⟨r22, q23, h⟩ := bd1_some h
      obtain ⟨q23, c_r22⟩ := zRc_some q23
      refine V_getR (zdk tbX6_vow_0_ok 34 rfl) c_v0 fF6_19 rfl q23 ?_
      refine V_aload_n 0 (zdk tbX6_vow_0_ok 35 rfl) rfl ?_
      obtain ⟨r24, q25, h⟩ := bd1_some h
      obtain ⟨q25, c_r24⟩ := zRc_some q25
      refine V_getR (zdk tbX6_vow_0_ok 36 rfl) c_v0 fF6_39 rfl q25 ?_
      obtain ⟨r26, q27, h⟩ := bd1_some h
      obtain ⟨q27, c_r26⟩ := zRc_some q27
      refine V_getR (zdk tbX6_vow_0_ok 37 rfl) c_r24 fF6_193 rfl q27 ?_
      obtain ⟨μ29, q28, h⟩ := bd1_some h
      refine V_callV (R1 := (rmd 2)) (As := [.ref r26]) (r := none) (zdk tbX6_vow_0_ok 38 rfl) sC6_196 (tX4_load q28) (c_r22) rfl rfl rfl ⟨Nat.le_of_ble_eq_true rfl, Nat.le_of_ble_eq_true rfl⟩ (Nat.le_of_ble_eq_true rfl) ⟨rfl, rfl⟩ id ?_
      refine V_iload_n 1 (zdk tbX6_vow_0_ok 39 rfl) rfl ?_
      cases h
      exact V_iret (zdk tbX6_vow_0_ok 40 rfl) rfl rfl
    · replace h := ite_f h c21
      refine V_aload_n 0 (zdk tbX6_vow_0_ok 29 rfl) rfl ?_
      refine V_bipush (v := (-6)) (zdk tbX6_vow_0_ok 30 rfl) rfl ?_
      obtain ⟨μ31, r32, q30, h⟩ := bd2_some h
      refine V_callV (R1 := (rmd 2)) (As := [.int (-6 : Int32)]) (r := (some (.int r32))) (zdk tbX6_vow_0_ok 31 rfl) sC6_66 (tX6_refuse q30) (c_v0) rfl rfl rfl ⟨Nat.le_of_ble_eq_true rfl, Nat.le_of_ble_eq_true rfl⟩ (Nat.le_of_ble_eq_true rfl) ⟨rfl, rfl⟩ id ?_
      cases h
      exact V_iret (zdk tbX6_vow_0_ok 32 rfl) rfl rfl
  · replace h := ite_f h c4
    refine V_aload_n 0 (zdk tbX6_vow_0_ok 6 rfl) rfl ?_
    refine V_iload_n 2 (zdk tbX6_vow_0_ok 7 rfl) rfl ?_
    obtain ⟨μ34, r35, q33, h⟩ := bd2_some h
    refine V_callV (R1 := (rmd 2)) (As := [.int r3]) (r := (some (.int r35))) (zdk tbX6_vow_0_ok 8 rfl) sC6_66 (tX6_refuse q33) (c_v0) rfl rfl rfl ⟨Nat.le_of_ble_eq_true rfl, Nat.le_of_ble_eq_true rfl⟩ (Nat.le_of_ble_eq_true rfl) ⟨rfl, rfl⟩ id ?_
    cases h
    exact V_iret (zdk tbX6_vow_0_ok 9 rfl) rfl rfl

-- WhoComplainsCarries.fault
def tbX6_fault_0 : List (Nat × Instr × Nat) := [(0, .aload_n 0, 1), (1, .getfield 58, 3), (4, .ireturn, 1)]
theorem tbX6_fault_0_ok : ∀ q ∈ tbX6_fault_0, decode cX6_fault q.1 = .ok (q.2.1, q.2.2) := by decide +kernel
def fX6_fault (n : Nat) (v0 : Nat) (μ : ZMem) : Option (ZMem × Int32) := chk (isC n 6 v0) (some (μ, (zI μ v0 9)))
theorem tX6_fault {l : Launch} {fr : Bool} {n : Nat} {v0 : Nat} {μ : ZMem} {z : ZMem × Int32} (h : fX6_fault n v0 μ = some z) : ZFn l mX6_fault (rmd 1) [.ref v0] fr n μ (fr, n, z.1, some (.int z.2)) := by
  unfold fX6_fault at h
  obtain ⟨c_v0, h⟩ := chk_some h
  refine ZFn.of (ls := [(0, .ref v0)]) (by decide) (fun ξ => Nat.le_of_ble_eq_true rfl) (fun ξ => rfl) ?_
  refine V_aload_n 0 (zdk tbX6_fault_0_ok 0 rfl) rfl ?_
  refine V_getI (zdk tbX6_fault_0_ok 1 rfl) c_v0 fF6_58 rfl ?_
  cases h
  exact V_iret (zdk tbX6_fault_0_ok 2 rfl) rfl rfl

-- WhoComplainsCarries.sighs
def tbX6_sighs_0 : List (Nat × Instr × Nat) := [(0, .iload_n 1, 1), (1, .iconst 0, 1), (2, .iconst 1, 1), (3, .invokestatic 153, 3), (6, .ifCond .ne 10, 3), (9, .aload_n 0, 1), (10, .bipush (-5), 2), (12, .invokevirtual 66, 3), (15, .ireturn, 1), (16, .iconst 0, 1), (17, .istore_n 2, 1), (18, .iconst 0, 1), (19, .istore_n 3, 1), (20, .iload_n 3, 1), (21, .aload_n 0, 1), (22, .getfield 19, 3), (25, .getfield 157, 3), (28, .if_icmp .ge 51, 3), (31, .aload_n 0, 1), (32, .getfield 19, 3), (35, .getfield 124, 3), (38, .iload_n 3, 1), (39, .aaload, 1), (40, .invokevirtual 200, 3), (43, .istore 4, 2), (45, .iload_n 1, 1), (46, .ifCond .ne 11, 3), (49, .iload 4, 2), (51, .ifCond .ne 22, 3), (54, .goto 13, 3), (57, .iload 4, 2), (59, .iconst 1, 1), (60, .iconst 5, 1), (61, .invokestatic 153, 3), (64, .ifCond .eq 9, 3), (67, .iload_n 2, 1), (68, .iconst 1, 1), (69, .iload_n 3, 1), (70, .ishl, 1), (71, .ior, 1), (72, .istore_n 2, 1), (73, .iinc 3 1, 3), (76, .goto (-56), 3), (79, .iload_n 2, 1), (80, .ireturn, 1)]
theorem tbX6_sighs_0_ok : ∀ q ∈ tbX6_sighs_0, decode cX6_sighs q.1 = .ok (q.2.1, q.2.2) := by decide +kernel
theorem wCX1_missingToSigh : zCW mX1_missingToSigh 0 := ⟨zin (i := 4) (by decide +kernel) rfl, zin (i := 549) (by decide +kernel) rfl, by decide +kernel, by decide +kernel, by decide +kernel⟩
theorem sC6_200 : zCV RX6 200 mX1_missingToSigh 0 := ⟨zin (i := 546) (by decide +kernel) rfl, zin (i := 547) (by decide +kernel) rfl, zin (i := 548) (by decide +kernel) rfl, wCX1_missingToSigh⟩
def fX6_sighs_b73 (g20 : Nat → Int32 → Int32 → Int32 → ZMem → Option (ZMem × Int32)) (n : Nat) (v0 : Nat) (v1 : Int32) (v2 : Int32) (v3 : Int32) (μ : ZMem) : Option (ZMem × Int32) := (g20 v0 v1 v2 (v3 + (1 : Int32)) μ)
theorem tX6_sighs_b73 {l : Launch} {fr : Bool} {n : Nat} {z : ZMem × Int32} {g20 : Nat → Int32 → Int32 → Int32 → ZMem → Option (ZMem × Int32)} (hg20 : ∀ (v0 : Nat) (v1 : Int32) (v2 : Int32) (v3 : Int32) (μ : ZMem), isC n 6 v0 = true → g20 v0 v1 v2 v3 μ = some z → V (zkI l mX6_sighs (rmd 3) fr n z) fr 20 [(0, .ref v0), (1, .int v1), (2, .int v2), (3, .int v3)] [] n μ) (v0 : Nat) (v1 : Int32) (v2 : Int32) (v3 : Int32) (μ : ZMem) (c_v0 : isC n 6 v0 = true) (h : fX6_sighs_b73 g20 n v0 v1 v2 v3 μ = some z) : V (zkI l mX6_sighs (rmd 3) fr n z) fr 73 [(0, .ref v0), (1, .int v1), (2, .int v2), (3, .int v3)] [] n μ := by
  unfold fX6_sighs_b73 at h
  refine V_inc (dx := 1) (ls' := [(0, .ref v0), (1, .int v1), (2, .int v2), (3, .int (v3 + (1 : Int32)))]) 3 [1, 2, 3, 0] (zdk tbX6_sighs_0_ok 41 rfl) rfl (Nat.le_of_ble_eq_true rfl) rfl rfl ?_
  refine V_goto (tgt := 20) (zdk tbX6_sighs_0_ok 42 rfl) (by decide) ?_
  exact hg20 v0 v1 v2 (v3 + (1 : Int32)) μ c_v0 h
def fX6_sighs_b67 (g20 : Nat → Int32 → Int32 → Int32 → ZMem → Option (ZMem × Int32)) (n : Nat) (v0 : Nat) (v1 : Int32) (v2 : Int32) (v3 : Int32) (μ : ZMem) : Option (ZMem × Int32) := (fX6_sighs_b73 g20 n v0 v1 (v2 ||| ((1 : Int32) <<< (v3 &&& 31))) v3 μ)
theorem tX6_sighs_b67 {l : Launch} {fr : Bool} {n : Nat} {z : ZMem × Int32} {g20 : Nat → Int32 → Int32 → Int32 → ZMem → Option (ZMem × Int32)} (hg20 : ∀ (v0 : Nat) (v1 : Int32) (v2 : Int32) (v3 : Int32) (μ : ZMem), isC n 6 v0 = true → g20 v0 v1 v2 v3 μ = some z → V (zkI l mX6_sighs (rmd 3) fr n z) fr 20 [(0, .ref v0), (1, .int v1), (2, .int v2), (3, .int v3)] [] n μ) (v0 : Nat) (v1 : Int32) (v2 : Int32) (v3 : Int32) (μ : ZMem) (c_v0 : isC n 6 v0 = true) (h : fX6_sighs_b67 g20 n v0 v1 v2 v3 μ = some z) : V (zkI l mX6_sighs (rmd 3) fr n z) fr 67 [(0, .ref v0), (1, .int v1), (2, .int v2), (3, .int v3)] [] n μ := by
  unfold fX6_sighs_b67 at h
  refine V_iload_n 2 (zdk tbX6_sighs_0_ok 35 rfl) rfl ?_
  refine V_iconst (v := 1) (zdk tbX6_sighs_0_ok 36 rfl) rfl ?_
  refine V_iload_n 3 (zdk tbX6_sighs_0_ok 37 rfl) rfl ?_
  refine V_ishl (zdk tbX6_sighs_0_ok 38 rfl) ?_
  refine V_ior (zdk tbX6_sighs_0_ok 39 rfl) ?_
  refine V_istore_n (ls' := [(0, .ref v0), (1, .int v1), (2, .int (v2 ||| ((1 : Int32) <<< (v3 &&& 31)))), (3, .int v3)]) [1, 2, 0, 3] (zdk tbX6_sighs_0_ok 40 rfl) (Nat.le_of_ble_eq_true rfl) rfl ?_
  exact tX6_sighs_b73 hg20 v0 v1 (v2 ||| ((1 : Int32) <<< (v3 &&& 31))) v3 μ c_v0 h
def fX6_sighs_b20 (n : Nat) : Nat → Nat → Int32 → Int32 → Int32 → ZMem → Option (ZMem × Int32)
  | 0, _, _, _, _, _ => none
  | k + 1, v0, v1, v2, v3, μ => bd1 (zRc n 4 μ v0 1) (fun r1 => (if (zI μ r1 1) ≤ v3 then some (μ, v2) else bd1 (zRc n 4 μ v0 1) (fun r4 => bd1 (zRc n 102 μ r4 0) (fun r6 => chk (inb v3 r6) (bd1 (zRc n 1 μ r6 v3.toNatClampNeg) (fun r9 => bd2 (fX1_missingToSigh n r9 μ) (fun μ12 r13 => (if v1 = 0 then (if r13 = 0 then (fX6_sighs_b67 (fX6_sighs_b20 n k) n v0 v1 v2 v3 μ12) else (fX6_sighs_b73 (fX6_sighs_b20 n k) n v0 v1 v2 v3 μ12)) else bd2 (fX6_isIn n r13 (1 : Int32) (5 : Int32) μ12) (fun μ16 r17 => (if r17 = 0 then (fX6_sighs_b73 (fX6_sighs_b20 n k) n v0 v1 v2 v3 μ16) else (fX6_sighs_b67 (fX6_sighs_b20 n k) n v0 v1 v2 v3 μ16)))))))))))
theorem tX6_sighs_b20 {l : Launch} {fr : Bool} {n : Nat} {z : ZMem × Int32} : ∀ (k : Nat) (v0 : Nat) (v1 : Int32) (v2 : Int32) (v3 : Int32) (μ : ZMem) (c_v0 : isC n 6 v0 = true), fX6_sighs_b20 n k v0 v1 v2 v3 μ = some z → V (zkI l mX6_sighs (rmd 3) fr n z) fr 20 [(0, .ref v0), (1, .int v1), (2, .int v2), (3, .int v3)] [] n μ := by
  intro k
  induction k with
  | zero =>
    intro v0 v1 v2 v3 μ c_v0 h
    unfold fX6_sighs_b20 at h
    cases h
  | succ k ih =>
    intro v0 v1 v2 v3 μ c_v0 h
    unfold fX6_sighs_b20 at h
    refine V_iload_n 3 (zdk tbX6_sighs_0_ok 13 rfl) rfl ?_
    refine V_aload_n 0 (zdk tbX6_sighs_0_ok 14 rfl) rfl ?_
    obtain ⟨r1, q2, h⟩ := bd1_some h
    obtain ⟨q2, c_r1⟩ := zRc_some q2
    refine V_getR (zdk tbX6_sighs_0_ok 15 rfl) c_v0 fF6_19 rfl q2 ?_
    refine V_getI (zdk tbX6_sighs_0_ok 16 rfl) c_r1 fF6_157 rfl ?_
    refine V_icmp_ge (tgt := 79) (zdk tbX6_sighs_0_ok 17 rfl) (by decide) (fun c3 => ?_) (fun c3 => ?_)
    · replace h := ite_t h c3
      refine V_iload_n 2 (zdk tbX6_sighs_0_ok 43 rfl) rfl ?_
      cases h
      exact V_iret (zdk tbX6_sighs_0_ok 44 rfl) rfl rfl
    · replace h := ite_f h c3
      refine V_aload_n 0 (zdk tbX6_sighs_0_ok 18 rfl) rfl ?_
      obtain ⟨r4, q5, h⟩ := bd1_some h
      obtain ⟨q5, c_r4⟩ := zRc_some q5
      refine V_getR (zdk tbX6_sighs_0_ok 19 rfl) c_v0 fF6_19 rfl q5 ?_
      obtain ⟨r6, q7, h⟩ := bd1_some h
      obtain ⟨q7, c_r6⟩ := zRc_some q7
      refine V_getR (zdk tbX6_sighs_0_ok 20 rfl) c_r4 fF6_124 rfl q7 ?_
      refine V_iload_n 3 (zdk tbX6_sighs_0_ok 21 rfl) rfl ?_
      obtain ⟨b8, h⟩ := chk_some h
      obtain ⟨r9, q10, h⟩ := bd1_some h
      obtain ⟨q10, c_r9⟩ := zRc_some q10
      refine V_aald2 (zdk tbX6_sighs_0_ok 22 rfl) c_r6 b8 q10 ?_
      obtain ⟨μ12, r13, q11, h⟩ := bd2_some h
      refine V_callV (R1 := (rmd 2)) (As := []) (r := (some (.int r13))) (zdk tbX6_sighs_0_ok 23 rfl) sC6_200 (tX1_missingToSigh q11) (c_r9) rfl rfl rfl ⟨Nat.le_of_ble_eq_true rfl, Nat.le_of_ble_eq_true rfl⟩ (Nat.le_of_ble_eq_true rfl) ⟨rfl, rfl⟩ id ?_
      refine V_istore (ls' := [(0, .ref v0), (1, .int v1), (2, .int v2), (3, .int v3), (4, .int r13)]) [1, 2, 3, 4, 0] (zdk tbX6_sighs_0_ok 24 rfl) (Nat.le_of_ble_eq_true rfl) rfl ?_
      refine V_iload_n 1 (zdk tbX6_sighs_0_ok 25 rfl) rfl ?_
      refine V_if_ne (tgt := 57) (zdk tbX6_sighs_0_ok 26 rfl) (by decide) (fun c14 => ?_) (fun c14 => ?_)
      · replace h := ite_f h c14
        refine V_iload 4 (zdk tbX6_sighs_0_ok 30 rfl) rfl ?_
        refine V_iconst (v := 1) (zdk tbX6_sighs_0_ok 31 rfl) rfl ?_
        refine V_iconst (v := 5) (zdk tbX6_sighs_0_ok 32 rfl) rfl ?_
        obtain ⟨μ16, r17, q15, h⟩ := bd2_some h
        refine V_callS (R1 := (rmd 1)) (As := [.int r13, .int (1 : Int32), .int (5 : Int32)]) (r := (some (.int r17))) (zdk tbX6_sighs_0_ok 33 rfl) sC6_153 (tX6_isIn q15) rfl rfl ⟨Nat.le_of_ble_eq_true rfl, Nat.le_of_ble_eq_true rfl⟩ (Nat.le_of_ble_eq_true rfl) ⟨rfl, rfl⟩ id ?_
        refine V_if_eq (tgt := 73) (zdk tbX6_sighs_0_ok 34 rfl) (by decide) (fun c18 => ?_) (fun c18 => ?_)
        · replace h := ite_t h c18
          refine V_sub (ls' := [(0, .ref v0), (1, .int v1), (2, .int v2), (3, .int v3)]) [0, 1, 2, 3] rfl ?_
          exact tX6_sighs_b73 (fun v0 v1 v2 v3 μ y0 h => ih v0 v1 v2 v3 μ y0 h) v0 v1 v2 v3 μ16 c_v0 h
        · replace h := ite_f h c18
          refine V_sub (ls' := [(0, .ref v0), (1, .int v1), (2, .int v2), (3, .int v3)]) [0, 1, 2, 3] rfl ?_
          exact tX6_sighs_b67 (fun v0 v1 v2 v3 μ y0 h => ih v0 v1 v2 v3 μ y0 h) v0 v1 v2 v3 μ16 c_v0 h
      · replace h := ite_t h c14
        refine V_iload 4 (zdk tbX6_sighs_0_ok 27 rfl) rfl ?_
        refine V_if_ne (tgt := 73) (zdk tbX6_sighs_0_ok 28 rfl) (by decide) (fun c19 => ?_) (fun c19 => ?_)
        · replace h := ite_f h c19
          refine V_sub (ls' := [(0, .ref v0), (1, .int v1), (2, .int v2), (3, .int v3)]) [0, 1, 2, 3] rfl ?_
          exact tX6_sighs_b73 (fun v0 v1 v2 v3 μ y0 h => ih v0 v1 v2 v3 μ y0 h) v0 v1 v2 v3 μ12 c_v0 h
        · replace h := ite_t h c19
          refine V_goto (tgt := 67) (zdk tbX6_sighs_0_ok 29 rfl) (by decide) ?_
          refine V_sub (ls' := [(0, .ref v0), (1, .int v1), (2, .int v2), (3, .int v3)]) [0, 1, 2, 3] rfl ?_
          exact tX6_sighs_b67 (fun v0 v1 v2 v3 μ y0 h => ih v0 v1 v2 v3 μ y0 h) v0 v1 v2 v3 μ12 c_v0 h
def fX6_sighs (n : Nat) (v0 : Nat) (v1 : Int32) (μ : ZMem) : Option (ZMem × Int32) := chk (isC n 6 v0) (bd2 (fX6_isIn n v1 (0 : Int32) (1 : Int32) μ) (fun μ2 r3 => (if r3 = 0 then bd2 (fX6_refuse n v0 (-5 : Int32) μ2) (fun μ6 r7 => some (μ6, r7)) else (fX6_sighs_b20 n FU v0 v1 (0 : Int32) (0 : Int32) μ2))))
theorem tX6_sighs {l : Launch} {fr : Bool} {n : Nat} {v0 : Nat} {v1 : Int32} {μ : ZMem} {z : ZMem × Int32} (h : fX6_sighs n v0 v1 μ = some z) : ZFn l mX6_sighs (rmd 3) [.ref v0, .int v1] fr n μ (fr, n, z.1, some (.int z.2)) := by
  unfold fX6_sighs at h
  obtain ⟨c_v0, h⟩ := chk_some h
  refine ZFn.of (ls := [(0, .ref v0), (1, .int v1)]) (by decide) (fun ξ => Nat.le_of_ble_eq_true rfl) (fun ξ => rfl) ?_
  refine V_iload_n 1 (zdk tbX6_sighs_0_ok 0 rfl) rfl ?_
  refine V_iconst (v := 0) (zdk tbX6_sighs_0_ok 1 rfl) rfl ?_
  refine V_iconst (v := 1) (zdk tbX6_sighs_0_ok 2 rfl) rfl ?_
  obtain ⟨μ2, r3, q1, h⟩ := bd2_some h
  refine V_callS (R1 := (rmd 1)) (As := [.int v1, .int (0 : Int32), .int (1 : Int32)]) (r := (some (.int r3))) (zdk tbX6_sighs_0_ok 3 rfl) sC6_153 (tX6_isIn q1) rfl rfl ⟨Nat.le_of_ble_eq_true rfl, Nat.le_of_ble_eq_true rfl⟩ (Nat.le_of_ble_eq_true rfl) ⟨rfl, rfl⟩ id ?_
  refine V_if_ne (tgt := 16) (zdk tbX6_sighs_0_ok 4 rfl) (by decide) (fun c4 => ?_) (fun c4 => ?_)
  · replace h := ite_f h c4
    refine V_iconst (v := 0) (zdk tbX6_sighs_0_ok 9 rfl) rfl ?_
    refine V_istore_n (ls' := [(0, .ref v0), (1, .int v1), (2, .int (0 : Int32))]) [1, 2, 0] (zdk tbX6_sighs_0_ok 10 rfl) (Nat.le_of_ble_eq_true rfl) rfl ?_
    refine V_iconst (v := 0) (zdk tbX6_sighs_0_ok 11 rfl) rfl ?_
    refine V_istore_n (ls' := [(0, .ref v0), (1, .int v1), (2, .int (0 : Int32)), (3, .int (0 : Int32))]) [1, 2, 3, 0] (zdk tbX6_sighs_0_ok 12 rfl) (Nat.le_of_ble_eq_true rfl) rfl ?_
    exact tX6_sighs_b20 FU v0 v1 (0 : Int32) (0 : Int32) μ2 c_v0 h
  · replace h := ite_t h c4
    refine V_aload_n 0 (zdk tbX6_sighs_0_ok 5 rfl) rfl ?_
    refine V_bipush (v := (-5)) (zdk tbX6_sighs_0_ok 6 rfl) rfl ?_
    obtain ⟨μ6, r7, q5, h⟩ := bd2_some h
    refine V_callV (R1 := (rmd 2)) (As := [.int (-5 : Int32)]) (r := (some (.int r7))) (zdk tbX6_sighs_0_ok 7 rfl) sC6_66 (tX6_refuse q5) (c_v0) rfl rfl rfl ⟨Nat.le_of_ble_eq_true rfl, Nat.le_of_ble_eq_true rfl⟩ (Nat.le_of_ble_eq_true rfl) ⟨rfl, rfl⟩ id ?_
    cases h
    exact V_iret (zdk tbX6_sighs_0_ok 8 rfl) rfl rfl

-- WhoComplainsCarries.ready
def tbX6_ready_0 : List (Nat × Instr × Nat) := [(0, .aload_n 0, 1), (1, .iload_n 1, 1), (2, .invokevirtual 122, 3), (5, .ifCond .ne 9, 3), (8, .aload_n 0, 1), (9, .iconst (-1), 1), (10, .invokevirtual 173, 3), (13, .ireturn, 1), (14, .aload_n 0, 1), (15, .getfield 19, 3), (18, .getfield 124, 3), (21, .iload_n 1, 1), (22, .aaload, 1), (23, .invokevirtual 200, 3), (26, .ireturn, 1)]
theorem tbX6_ready_0_ok : ∀ q ∈ tbX6_ready_0, decode cX6_ready q.1 = .ok (q.2.1, q.2.2) := by decide +kernel
def fX6_ready (n : Nat) (v0 : Nat) (v1 : Int32) (μ : ZMem) : Option (ZMem × Int32) := chk (isC n 6 v0) (bd2 (fX6_isPerson n v0 v1 μ) (fun μ2 r3 => (if r3 = 0 then bd2 (fX6_refuseFar n v0 (-1 : Int32) μ2) (fun μ16 r17 => some (μ16, r17)) else bd1 (zRc n 4 μ2 v0 1) (fun r5 => bd1 (zRc n 102 μ2 r5 0) (fun r7 => chk (inb v1 r7) (bd1 (zRc n 1 μ2 r7 v1.toNatClampNeg) (fun r10 => bd2 (fX1_missingToSigh n r10 μ2) (fun μ13 r14 => some (μ13, r14)))))))))
theorem tX6_ready {l : Launch} {fr : Bool} {n : Nat} {v0 : Nat} {v1 : Int32} {μ : ZMem} {z : ZMem × Int32} (h : fX6_ready n v0 v1 μ = some z) : ZFn l mX6_ready (rmd 4) [.ref v0, .int v1] fr n μ (fr, n, z.1, some (.int z.2)) := by
  unfold fX6_ready at h
  obtain ⟨c_v0, h⟩ := chk_some h
  refine ZFn.of (ls := [(0, .ref v0), (1, .int v1)]) (by decide) (fun ξ => Nat.le_of_ble_eq_true rfl) (fun ξ => rfl) ?_
  refine V_aload_n 0 (zdk tbX6_ready_0_ok 0 rfl) rfl ?_
  refine V_iload_n 1 (zdk tbX6_ready_0_ok 1 rfl) rfl ?_
  obtain ⟨μ2, r3, q1, h⟩ := bd2_some h
  refine V_callV (R1 := (rmd 2)) (As := [.int v1]) (r := (some (.int r3))) (zdk tbX6_ready_0_ok 2 rfl) sC6_122 (tX6_isPerson q1) (c_v0) rfl rfl rfl ⟨Nat.le_of_ble_eq_true rfl, Nat.le_of_ble_eq_true rfl⟩ (Nat.le_of_ble_eq_true rfl) ⟨rfl, rfl⟩ id ?_
  refine V_if_ne (tgt := 14) (zdk tbX6_ready_0_ok 3 rfl) (by decide) (fun c4 => ?_) (fun c4 => ?_)
  · replace h := ite_f h c4
    refine V_aload_n 0 (zdk tbX6_ready_0_ok 8 rfl) rfl ?_
    obtain ⟨r5, q6, h⟩ := bd1_some h
    obtain ⟨q6, c_r5⟩ := zRc_some q6
    refine V_getR (zdk tbX6_ready_0_ok 9 rfl) c_v0 fF6_19 rfl q6 ?_
    obtain ⟨r7, q8, h⟩ := bd1_some h
    obtain ⟨q8, c_r7⟩ := zRc_some q8
    refine V_getR (zdk tbX6_ready_0_ok 10 rfl) c_r5 fF6_124 rfl q8 ?_
    refine V_iload_n 1 (zdk tbX6_ready_0_ok 11 rfl) rfl ?_
    obtain ⟨b9, h⟩ := chk_some h
    obtain ⟨r10, q11, h⟩ := bd1_some h
    obtain ⟨q11, c_r10⟩ := zRc_some q11
    refine V_aald2 (zdk tbX6_ready_0_ok 12 rfl) c_r7 b9 q11 ?_
    obtain ⟨μ13, r14, q12, h⟩ := bd2_some h
    refine V_callV (R1 := (rmd 2)) (As := []) (r := (some (.int r14))) (zdk tbX6_ready_0_ok 13 rfl) sC6_200 (tX1_missingToSigh q12) (c_r10) rfl rfl rfl ⟨Nat.le_of_ble_eq_true rfl, Nat.le_of_ble_eq_true rfl⟩ (Nat.le_of_ble_eq_true rfl) ⟨rfl, rfl⟩ id ?_
    cases h
    exact V_iret (zdk tbX6_ready_0_ok 14 rfl) rfl rfl
  · replace h := ite_t h c4
    refine V_aload_n 0 (zdk tbX6_ready_0_ok 4 rfl) rfl ?_
    refine V_iconst (v := (-1)) (zdk tbX6_ready_0_ok 5 rfl) rfl ?_
    obtain ⟨μ16, r17, q15, h⟩ := bd2_some h
    refine V_callV (R1 := (rmd 3)) (As := [.int (-1 : Int32)]) (r := (some (.int r17))) (zdk tbX6_ready_0_ok 6 rfl) sC6_173 (tX6_refuseFar q15) (c_v0) rfl rfl rfl ⟨Nat.le_of_ble_eq_true rfl, Nat.le_of_ble_eq_true rfl⟩ (Nat.le_of_ble_eq_true rfl) ⟨rfl, rfl⟩ id ?_
    cases h
    exact V_iret (zdk tbX6_ready_0_ok 7 rfl) rfl rfl

-- WhoComplainsCarries.ahead
def tbX6_ahead_0 : List (Nat × Instr × Nat) := [(0, .iload_n 2, 1), (1, .iconst 0, 1), (2, .iconst 1, 1), (3, .invokestatic 153, 3), (6, .ifCond .ne 10, 3), (9, .aload_n 0, 1), (10, .bipush (-5), 2), (12, .invokevirtual 173, 3), (15, .ireturn, 1), (16, .iload_n 1, 1), (17, .iconst 0, 1), (18, .bipush 60, 2), (20, .invokestatic 153, 3), (23, .ifCond .ne 10, 3), (26, .aload_n 0, 1), (27, .bipush (-6), 2), (29, .invokevirtual 173, 3), (32, .ireturn, 1), (33, .aload_n 0, 1), (34, .getfield 26, 3), (37, .aload_n 0, 1), (38, .getfield 19, 3), (41, .invokevirtual 196, 3), (44, .aload_n 0, 1), (45, .getfield 26, 3), (48, .iload_n 1, 1), (49, .invokevirtual 203, 3), (52, .iload_n 2, 1), (53, .ifCond .ne 13, 3), (56, .aload_n 0, 1), (57, .getfield 26, 3), (60, .getfield 176, 3), (63, .goto 10, 3), (66, .aload_n 0, 1), (67, .getfield 26, 3), (70, .getfield 164, 3), (73, .ireturn, 1)]
theorem tbX6_ahead_0_ok : ∀ q ∈ tbX6_ahead_0, decode cX6_ahead q.1 = .ok (q.2.1, q.2.2) := by decide +kernel
theorem wCX4_takeSteps : zCW mX4_takeSteps 1 := ⟨zin (i := 3) (by decide +kernel) rfl, zin (i := 562) (by decide +kernel) rfl, by decide +kernel, by decide +kernel, by decide +kernel⟩
theorem sC6_203 : zCV RX6 203 mX4_takeSteps 1 := ⟨zin (i := 559) (by decide +kernel) rfl, zin (i := 560) (by decide +kernel) rfl, zin (i := 561) (by decide +kernel) rfl, wCX4_takeSteps⟩
def fX6_ahead_b73 (n : Nat) (s0 : Int32) (μ : ZMem) : Option (ZMem × Int32) := some (μ, s0)
theorem tX6_ahead_b73 {l : Launch} {fr : Bool} {n : Nat} {z : ZMem × Int32} (s0 : Int32) (μ : ZMem) (h : fX6_ahead_b73 n s0 μ = some z) : V (zkI l mX6_ahead (rmd 6) fr n z) fr 73 [] [.int s0] n μ := by
  unfold fX6_ahead_b73 at h
  cases h
  exact V_iret (zdk tbX6_ahead_0_ok 36 rfl) rfl rfl
def fX6_ahead (n : Nat) (v0 : Nat) (v1 : Int32) (v2 : Int32) (μ : ZMem) : Option (ZMem × Int32) := chk (isC n 6 v0) (bd2 (fX6_isIn n v2 (0 : Int32) (1 : Int32) μ) (fun μ2 r3 => (if r3 = 0 then bd2 (fX6_refuseFar n v0 (-5 : Int32) μ2) (fun μ28 r29 => some (μ28, r29)) else bd2 (fX6_isIn n v1 (0 : Int32) (60 : Int32) μ2) (fun μ6 r7 => (if r7 = 0 then bd2 (fX6_refuseFar n v0 (-6 : Int32) μ6) (fun μ25 r26 => some (μ25, r26)) else bd1 (zRc n 4 μ6 v0 3) (fun r9 => bd1 (zRc n 4 μ6 v0 1) (fun r11 => bd1 (fX4_load n r9 r11 μ6) (fun μ14 => bd1 (zRc n 4 μ14 v0 3) (fun r15 => bd1 (fX4_takeSteps n r15 v1 μ14) (fun μ18 => (if v2 = 0 then bd1 (zRc n 4 μ18 v0 3) (fun r22 => (fX6_ahead_b73 n (zI μ18 r22 5) μ18)) else bd1 (zRc n 4 μ18 v0 3) (fun r20 => (fX6_ahead_b73 n (zI μ18 r20 4) μ18)))))))))))))
theorem tX6_ahead {l : Launch} {fr : Bool} {n : Nat} {v0 : Nat} {v1 : Int32} {v2 : Int32} {μ : ZMem} {z : ZMem × Int32} (h : fX6_ahead n v0 v1 v2 μ = some z) : ZFn l mX6_ahead (rmd 6) [.ref v0, .int v1, .int v2] fr n μ (fr, n, z.1, some (.int z.2)) := by
  unfold fX6_ahead at h
  obtain ⟨c_v0, h⟩ := chk_some h
  refine ZFn.of (ls := [(0, .ref v0), (1, .int v1), (2, .int v2)]) (by decide) (fun ξ => Nat.le_of_ble_eq_true rfl) (fun ξ => rfl) ?_
  refine V_iload_n 2 (zdk tbX6_ahead_0_ok 0 rfl) rfl ?_
  refine V_iconst (v := 0) (zdk tbX6_ahead_0_ok 1 rfl) rfl ?_
  refine V_iconst (v := 1) (zdk tbX6_ahead_0_ok 2 rfl) rfl ?_
  obtain ⟨μ2, r3, q1, h⟩ := bd2_some h
  refine V_callS (R1 := (rmd 1)) (As := [.int v2, .int (0 : Int32), .int (1 : Int32)]) (r := (some (.int r3))) (zdk tbX6_ahead_0_ok 3 rfl) sC6_153 (tX6_isIn q1) rfl rfl ⟨Nat.le_of_ble_eq_true rfl, Nat.le_of_ble_eq_true rfl⟩ (Nat.le_of_ble_eq_true rfl) ⟨rfl, rfl⟩ id ?_
  refine V_if_ne (tgt := 16) (zdk tbX6_ahead_0_ok 4 rfl) (by decide) (fun c4 => ?_) (fun c4 => ?_)
  · replace h := ite_f h c4
    refine V_iload_n 1 (zdk tbX6_ahead_0_ok 9 rfl) rfl ?_
    refine V_iconst (v := 0) (zdk tbX6_ahead_0_ok 10 rfl) rfl ?_
    refine V_bipush (v := 60) (zdk tbX6_ahead_0_ok 11 rfl) rfl ?_
    obtain ⟨μ6, r7, q5, h⟩ := bd2_some h
    refine V_callS (R1 := (rmd 1)) (As := [.int v1, .int (0 : Int32), .int (60 : Int32)]) (r := (some (.int r7))) (zdk tbX6_ahead_0_ok 12 rfl) sC6_153 (tX6_isIn q5) rfl rfl ⟨Nat.le_of_ble_eq_true rfl, Nat.le_of_ble_eq_true rfl⟩ (Nat.le_of_ble_eq_true rfl) ⟨rfl, rfl⟩ id ?_
    refine V_if_ne (tgt := 33) (zdk tbX6_ahead_0_ok 13 rfl) (by decide) (fun c8 => ?_) (fun c8 => ?_)
    · replace h := ite_f h c8
      refine V_aload_n 0 (zdk tbX6_ahead_0_ok 18 rfl) rfl ?_
      obtain ⟨r9, q10, h⟩ := bd1_some h
      obtain ⟨q10, c_r9⟩ := zRc_some q10
      refine V_getR (zdk tbX6_ahead_0_ok 19 rfl) c_v0 fF6_26 rfl q10 ?_
      refine V_aload_n 0 (zdk tbX6_ahead_0_ok 20 rfl) rfl ?_
      obtain ⟨r11, q12, h⟩ := bd1_some h
      obtain ⟨q12, c_r11⟩ := zRc_some q12
      refine V_getR (zdk tbX6_ahead_0_ok 21 rfl) c_v0 fF6_19 rfl q12 ?_
      obtain ⟨μ14, q13, h⟩ := bd1_some h
      refine V_callV (R1 := (rmd 2)) (As := [.ref r11]) (r := none) (zdk tbX6_ahead_0_ok 22 rfl) sC6_196 (tX4_load q13) (c_r9) rfl rfl rfl ⟨Nat.le_of_ble_eq_true rfl, Nat.le_of_ble_eq_true rfl⟩ (Nat.le_of_ble_eq_true rfl) ⟨rfl, rfl⟩ id ?_
      refine V_aload_n 0 (zdk tbX6_ahead_0_ok 23 rfl) rfl ?_
      obtain ⟨r15, q16, h⟩ := bd1_some h
      obtain ⟨q16, c_r15⟩ := zRc_some q16
      refine V_getR (zdk tbX6_ahead_0_ok 24 rfl) c_v0 fF6_26 rfl q16 ?_
      refine V_iload_n 1 (zdk tbX6_ahead_0_ok 25 rfl) rfl ?_
      obtain ⟨μ18, q17, h⟩ := bd1_some h
      refine V_callV (R1 := (rmd 5)) (As := [.int v1]) (r := none) (zdk tbX6_ahead_0_ok 26 rfl) sC6_203 (tX4_takeSteps q17) (c_r15) rfl rfl rfl ⟨Nat.le_of_ble_eq_true rfl, Nat.le_of_ble_eq_true rfl⟩ (Nat.le_of_ble_eq_true rfl) ⟨rfl, rfl⟩ id ?_
      refine V_iload_n 2 (zdk tbX6_ahead_0_ok 27 rfl) rfl ?_
      refine V_if_ne (tgt := 66) (zdk tbX6_ahead_0_ok 28 rfl) (by decide) (fun c19 => ?_) (fun c19 => ?_)
      · replace h := ite_f h c19
        refine V_aload_n 0 (zdk tbX6_ahead_0_ok 33 rfl) rfl ?_
        obtain ⟨r20, q21, h⟩ := bd1_some h
        obtain ⟨q21, c_r20⟩ := zRc_some q21
        refine V_getR (zdk tbX6_ahead_0_ok 34 rfl) c_v0 fF6_26 rfl q21 ?_
        refine V_getI (zdk tbX6_ahead_0_ok 35 rfl) c_r20 fF6_164 rfl ?_
        refine V_sub (ls' := []) [] rfl ?_
        exact tX6_ahead_b73 (zI μ18 r20 4) μ18  h
      · replace h := ite_t h c19
        refine V_aload_n 0 (zdk tbX6_ahead_0_ok 29 rfl) rfl ?_
        obtain ⟨r22, q23, h⟩ := bd1_some h
        obtain ⟨q23, c_r22⟩ := zRc_some q23
        refine V_getR (zdk tbX6_ahead_0_ok 30 rfl) c_v0 fF6_26 rfl q23 ?_
        refine V_getI (zdk tbX6_ahead_0_ok 31 rfl) c_r22 fF6_176 rfl ?_
        refine V_goto (tgt := 73) (zdk tbX6_ahead_0_ok 32 rfl) (by decide) ?_
        refine V_sub (ls' := []) [] rfl ?_
        exact tX6_ahead_b73 (zI μ18 r22 5) μ18  h
    · replace h := ite_t h c8
      refine V_aload_n 0 (zdk tbX6_ahead_0_ok 14 rfl) rfl ?_
      refine V_bipush (v := (-6)) (zdk tbX6_ahead_0_ok 15 rfl) rfl ?_
      obtain ⟨μ25, r26, q24, h⟩ := bd2_some h
      refine V_callV (R1 := (rmd 3)) (As := [.int (-6 : Int32)]) (r := (some (.int r26))) (zdk tbX6_ahead_0_ok 16 rfl) sC6_173 (tX6_refuseFar q24) (c_v0) rfl rfl rfl ⟨Nat.le_of_ble_eq_true rfl, Nat.le_of_ble_eq_true rfl⟩ (Nat.le_of_ble_eq_true rfl) ⟨rfl, rfl⟩ id ?_
      cases h
      exact V_iret (zdk tbX6_ahead_0_ok 17 rfl) rfl rfl
  · replace h := ite_t h c4
    refine V_aload_n 0 (zdk tbX6_ahead_0_ok 5 rfl) rfl ?_
    refine V_bipush (v := (-5)) (zdk tbX6_ahead_0_ok 6 rfl) rfl ?_
    obtain ⟨μ28, r29, q27, h⟩ := bd2_some h
    refine V_callV (R1 := (rmd 3)) (As := [.int (-5 : Int32)]) (r := (some (.int r29))) (zdk tbX6_ahead_0_ok 7 rfl) sC6_173 (tX6_refuseFar q27) (c_v0) rfl rfl rfl ⟨Nat.le_of_ble_eq_true rfl, Nat.le_of_ble_eq_true rfl⟩ (Nat.le_of_ble_eq_true rfl) ⟨rfl, rfl⟩ id ?_
    cases h
    exact V_iret (zdk tbX6_ahead_0_ok 8 rfl) rfl rfl

-- WhoComplainsCarries.tired
def tbX6_tired_0 : List (Nat × Instr × Nat) := [(0, .aload_n 0, 1), (1, .iload_n 1, 1), (2, .invokevirtual 122, 3), (5, .ifCond .ne 9, 3), (8, .aload_n 0, 1), (9, .iconst (-1), 1), (10, .invokevirtual 66, 3), (13, .ireturn, 1), (14, .iload_n 2, 1), (15, .iconst 0, 1), (16, .bipush 60, 2), (18, .invokestatic 153, 3), (21, .ifCond .ne 10, 3), (24, .aload_n 0, 1), (25, .bipush (-6), 2), (27, .invokevirtual 66, 3), (30, .ireturn, 1), (31, .aload_n 0, 1), (32, .getfield 26, 3), (35, .aload_n 0, 1), (36, .getfield 19, 3), (39, .invokevirtual 196, 3), (42, .aload_n 0, 1), (43, .getfield 26, 3), (46, .iload_n 2, 1), (47, .invokevirtual 203, 3), (50, .aload_n 0, 1), (51, .getfield 26, 3), (54, .getfield 124, 3), (57, .iload_n 1, 1), (58, .aaload, 1), (59, .getfield 150, 3), (62, .ireturn, 1)]
theorem tbX6_tired_0_ok : ∀ q ∈ tbX6_tired_0, decode cX6_tired q.1 = .ok (q.2.1, q.2.2) := by decide +kernel
def fX6_tired (n : Nat) (v0 : Nat) (v1 : Int32) (v2 : Int32) (μ : ZMem) : Option (ZMem × Int32) := chk (isC n 6 v0) (bd2 (fX6_isPerson n v0 v1 μ) (fun μ2 r3 => (if r3 = 0 then bd2 (fX6_refuse n v0 (-1 : Int32) μ2) (fun μ30 r31 => some (μ30, r31)) else bd2 (fX6_isIn n v2 (0 : Int32) (60 : Int32) μ2) (fun μ6 r7 => (if r7 = 0 then bd2 (fX6_refuse n v0 (-6 : Int32) μ6) (fun μ27 r28 => some (μ27, r28)) else bd1 (zRc n 4 μ6 v0 3) (fun r9 => bd1 (zRc n 4 μ6 v0 1) (fun r11 => bd1 (fX4_load n r9 r11 μ6) (fun μ14 => bd1 (zRc n 4 μ14 v0 3) (fun r15 => bd1 (fX4_takeSteps n r15 v2 μ14) (fun μ18 => bd1 (zRc n 4 μ18 v0 3) (fun r19 => bd1 (zRc n 102 μ18 r19 0) (fun r21 => chk (inb v1 r21) (bd1 (zRc n 1 μ18 r21 v1.toNatClampNeg) (fun r24 => some (μ18, (zI μ18 r24 4))))))))))))))))
theorem tX6_tired {l : Launch} {fr : Bool} {n : Nat} {v0 : Nat} {v1 : Int32} {v2 : Int32} {μ : ZMem} {z : ZMem × Int32} (h : fX6_tired n v0 v1 v2 μ = some z) : ZFn l mX6_tired (rmd 6) [.ref v0, .int v1, .int v2] fr n μ (fr, n, z.1, some (.int z.2)) := by
  unfold fX6_tired at h
  obtain ⟨c_v0, h⟩ := chk_some h
  refine ZFn.of (ls := [(0, .ref v0), (1, .int v1), (2, .int v2)]) (by decide) (fun ξ => Nat.le_of_ble_eq_true rfl) (fun ξ => rfl) ?_
  refine V_aload_n 0 (zdk tbX6_tired_0_ok 0 rfl) rfl ?_
  refine V_iload_n 1 (zdk tbX6_tired_0_ok 1 rfl) rfl ?_
  obtain ⟨μ2, r3, q1, h⟩ := bd2_some h
  refine V_callV (R1 := (rmd 2)) (As := [.int v1]) (r := (some (.int r3))) (zdk tbX6_tired_0_ok 2 rfl) sC6_122 (tX6_isPerson q1) (c_v0) rfl rfl rfl ⟨Nat.le_of_ble_eq_true rfl, Nat.le_of_ble_eq_true rfl⟩ (Nat.le_of_ble_eq_true rfl) ⟨rfl, rfl⟩ id ?_
  refine V_if_ne (tgt := 14) (zdk tbX6_tired_0_ok 3 rfl) (by decide) (fun c4 => ?_) (fun c4 => ?_)
  · replace h := ite_f h c4
    refine V_iload_n 2 (zdk tbX6_tired_0_ok 8 rfl) rfl ?_
    refine V_iconst (v := 0) (zdk tbX6_tired_0_ok 9 rfl) rfl ?_
    refine V_bipush (v := 60) (zdk tbX6_tired_0_ok 10 rfl) rfl ?_
    obtain ⟨μ6, r7, q5, h⟩ := bd2_some h
    refine V_callS (R1 := (rmd 1)) (As := [.int v2, .int (0 : Int32), .int (60 : Int32)]) (r := (some (.int r7))) (zdk tbX6_tired_0_ok 11 rfl) sC6_153 (tX6_isIn q5) rfl rfl ⟨Nat.le_of_ble_eq_true rfl, Nat.le_of_ble_eq_true rfl⟩ (Nat.le_of_ble_eq_true rfl) ⟨rfl, rfl⟩ id ?_
    refine V_if_ne (tgt := 31) (zdk tbX6_tired_0_ok 12 rfl) (by decide) (fun c8 => ?_) (fun c8 => ?_)
    · replace h := ite_f h c8
      refine V_aload_n 0 (zdk tbX6_tired_0_ok 17 rfl) rfl ?_
      obtain ⟨r9, q10, h⟩ := bd1_some h
      obtain ⟨q10, c_r9⟩ := zRc_some q10
      refine V_getR (zdk tbX6_tired_0_ok 18 rfl) c_v0 fF6_26 rfl q10 ?_
      refine V_aload_n 0 (zdk tbX6_tired_0_ok 19 rfl) rfl ?_
      obtain ⟨r11, q12, h⟩ := bd1_some h
      obtain ⟨q12, c_r11⟩ := zRc_some q12
      refine V_getR (zdk tbX6_tired_0_ok 20 rfl) c_v0 fF6_19 rfl q12 ?_
      obtain ⟨μ14, q13, h⟩ := bd1_some h
      refine V_callV (R1 := (rmd 2)) (As := [.ref r11]) (r := none) (zdk tbX6_tired_0_ok 21 rfl) sC6_196 (tX4_load q13) (c_r9) rfl rfl rfl ⟨Nat.le_of_ble_eq_true rfl, Nat.le_of_ble_eq_true rfl⟩ (Nat.le_of_ble_eq_true rfl) ⟨rfl, rfl⟩ id ?_
      refine V_aload_n 0 (zdk tbX6_tired_0_ok 22 rfl) rfl ?_
      obtain ⟨r15, q16, h⟩ := bd1_some h
      obtain ⟨q16, c_r15⟩ := zRc_some q16
      refine V_getR (zdk tbX6_tired_0_ok 23 rfl) c_v0 fF6_26 rfl q16 ?_
      refine V_iload_n 2 (zdk tbX6_tired_0_ok 24 rfl) rfl ?_
      obtain ⟨μ18, q17, h⟩ := bd1_some h
      refine V_callV (R1 := (rmd 5)) (As := [.int v2]) (r := none) (zdk tbX6_tired_0_ok 25 rfl) sC6_203 (tX4_takeSteps q17) (c_r15) rfl rfl rfl ⟨Nat.le_of_ble_eq_true rfl, Nat.le_of_ble_eq_true rfl⟩ (Nat.le_of_ble_eq_true rfl) ⟨rfl, rfl⟩ id ?_
      refine V_aload_n 0 (zdk tbX6_tired_0_ok 26 rfl) rfl ?_
      obtain ⟨r19, q20, h⟩ := bd1_some h
      obtain ⟨q20, c_r19⟩ := zRc_some q20
      refine V_getR (zdk tbX6_tired_0_ok 27 rfl) c_v0 fF6_26 rfl q20 ?_
      obtain ⟨r21, q22, h⟩ := bd1_some h
      obtain ⟨q22, c_r21⟩ := zRc_some q22
      refine V_getR (zdk tbX6_tired_0_ok 28 rfl) c_r19 fF6_124 rfl q22 ?_
      refine V_iload_n 1 (zdk tbX6_tired_0_ok 29 rfl) rfl ?_
      obtain ⟨b23, h⟩ := chk_some h
      obtain ⟨r24, q25, h⟩ := bd1_some h
      obtain ⟨q25, c_r24⟩ := zRc_some q25
      refine V_aald2 (zdk tbX6_tired_0_ok 30 rfl) c_r21 b23 q25 ?_
      refine V_getI (zdk tbX6_tired_0_ok 31 rfl) c_r24 fF6_150 rfl ?_
      cases h
      exact V_iret (zdk tbX6_tired_0_ok 32 rfl) rfl rfl
    · replace h := ite_t h c8
      refine V_aload_n 0 (zdk tbX6_tired_0_ok 13 rfl) rfl ?_
      refine V_bipush (v := (-6)) (zdk tbX6_tired_0_ok 14 rfl) rfl ?_
      obtain ⟨μ27, r28, q26, h⟩ := bd2_some h
      refine V_callV (R1 := (rmd 2)) (As := [.int (-6 : Int32)]) (r := (some (.int r28))) (zdk tbX6_tired_0_ok 15 rfl) sC6_66 (tX6_refuse q26) (c_v0) rfl rfl rfl ⟨Nat.le_of_ble_eq_true rfl, Nat.le_of_ble_eq_true rfl⟩ (Nat.le_of_ble_eq_true rfl) ⟨rfl, rfl⟩ id ?_
      cases h
      exact V_iret (zdk tbX6_tired_0_ok 16 rfl) rfl rfl
  · replace h := ite_t h c4
    refine V_aload_n 0 (zdk tbX6_tired_0_ok 4 rfl) rfl ?_
    refine V_iconst (v := (-1)) (zdk tbX6_tired_0_ok 5 rfl) rfl ?_
    obtain ⟨μ30, r31, q29, h⟩ := bd2_some h
    refine V_callV (R1 := (rmd 2)) (As := [.int (-1 : Int32)]) (r := (some (.int r31))) (zdk tbX6_tired_0_ok 6 rfl) sC6_66 (tX6_refuse q29) (c_v0) rfl rfl rfl ⟨Nat.le_of_ble_eq_true rfl, Nat.le_of_ble_eq_true rfl⟩ (Nat.le_of_ble_eq_true rfl) ⟨rfl, rfl⟩ id ?_
    cases h
    exact V_iret (zdk tbX6_tired_0_ok 7 rfl) rfl rfl

-- WhoComplainsCarries.over
def tbX6_over_0 : List (Nat × Instr × Nat) := [(0, .aload_n 0, 1), (1, .getfield 26, 3), (4, .aload_n 0, 1), (5, .getfield 19, 3), (8, .invokevirtual 196, 3), (11, .aload_n 0, 1), (12, .getfield 26, 3), (15, .sipush 200, 3), (18, .iconst (-1), 1), (19, .invokevirtual 206, 3), (22, .ireturn, 1)]
theorem tbX6_over_0_ok : ∀ q ∈ tbX6_over_0, decode cX6_over q.1 = .ok (q.2.1, q.2.2) := by decide +kernel
theorem wCX4_stepsToWay : zCW mX4_stepsToWay 2 := ⟨zin (i := 3) (by decide +kernel) rfl, zin (i := 610) (by decide +kernel) rfl, by decide +kernel, by decide +kernel, by decide +kernel⟩
theorem sC6_206 : zCV RX6 206 mX4_stepsToWay 2 := ⟨zin (i := 607) (by decide +kernel) rfl, zin (i := 608) (by decide +kernel) rfl, zin (i := 609) (by decide +kernel) rfl, wCX4_stepsToWay⟩
def fX6_over (n : Nat) (v0 : Nat) (μ : ZMem) : Option (ZMem × Int32) := chk (isC n 6 v0) (bd1 (zRc n 4 μ v0 3) (fun r1 => bd1 (zRc n 4 μ v0 1) (fun r3 => bd1 (fX4_load n r1 r3 μ) (fun μ6 => bd1 (zRc n 4 μ6 v0 3) (fun r7 => bd2 (fX4_stepsToWay n r7 (200 : Int32) (-1 : Int32) μ6) (fun μ10 r11 => some (μ10, r11)))))))
theorem tX6_over {l : Launch} {fr : Bool} {n : Nat} {v0 : Nat} {μ : ZMem} {z : ZMem × Int32} (h : fX6_over n v0 μ = some z) : ZFn l mX6_over (rmd 6) [.ref v0] fr n μ (fr, n, z.1, some (.int z.2)) := by
  unfold fX6_over at h
  obtain ⟨c_v0, h⟩ := chk_some h
  refine ZFn.of (ls := [(0, .ref v0)]) (by decide) (fun ξ => Nat.le_of_ble_eq_true rfl) (fun ξ => rfl) ?_
  refine V_aload_n 0 (zdk tbX6_over_0_ok 0 rfl) rfl ?_
  obtain ⟨r1, q2, h⟩ := bd1_some h
  obtain ⟨q2, c_r1⟩ := zRc_some q2
  refine V_getR (zdk tbX6_over_0_ok 1 rfl) c_v0 fF6_26 rfl q2 ?_
  refine V_aload_n 0 (zdk tbX6_over_0_ok 2 rfl) rfl ?_
  obtain ⟨r3, q4, h⟩ := bd1_some h
  obtain ⟨q4, c_r3⟩ := zRc_some q4
  refine V_getR (zdk tbX6_over_0_ok 3 rfl) c_v0 fF6_19 rfl q4 ?_
  obtain ⟨μ6, q5, h⟩ := bd1_some h
  refine V_callV (R1 := (rmd 2)) (As := [.ref r3]) (r := none) (zdk tbX6_over_0_ok 4 rfl) sC6_196 (tX4_load q5) (c_r1) rfl rfl rfl ⟨Nat.le_of_ble_eq_true rfl, Nat.le_of_ble_eq_true rfl⟩ (Nat.le_of_ble_eq_true rfl) ⟨rfl, rfl⟩ id ?_
  refine V_aload_n 0 (zdk tbX6_over_0_ok 5 rfl) rfl ?_
  obtain ⟨r7, q8, h⟩ := bd1_some h
  obtain ⟨q8, c_r7⟩ := zRc_some q8
  refine V_getR (zdk tbX6_over_0_ok 6 rfl) c_v0 fF6_26 rfl q8 ?_
  refine V_sipush (v := 200) (zdk tbX6_over_0_ok 7 rfl) rfl ?_
  refine V_iconst (v := (-1)) (zdk tbX6_over_0_ok 8 rfl) rfl ?_
  obtain ⟨μ10, r11, q9, h⟩ := bd2_some h
  refine V_callV (R1 := (rmd 5)) (As := [.int (200 : Int32), .int (-1 : Int32)]) (r := (some (.int r11))) (zdk tbX6_over_0_ok 9 rfl) sC6_206 (tX4_stepsToWay q9) (c_r7) rfl rfl rfl ⟨Nat.le_of_ble_eq_true rfl, Nat.le_of_ble_eq_true rfl⟩ (Nat.le_of_ble_eq_true rfl) ⟨rfl, rfl⟩ id ?_
  cases h
  exact V_iret (zdk tbX6_over_0_ok 10 rfl) rfl rfl

-- WhoComplainsCarries.alone
def tbX6_alone_0 : List (Nat × Instr × Nat) := [(0, .aload_n 0, 1), (1, .iload_n 1, 1), (2, .invokevirtual 122, 3), (5, .ifCond .ne 9, 3), (8, .aload_n 0, 1), (9, .iconst (-1), 1), (10, .invokevirtual 173, 3), (13, .ireturn, 1), (14, .iload_n 2, 1), (15, .iconst 0, 1), (16, .iconst 1, 1), (17, .invokestatic 153, 3), (20, .ifCond .ne 10, 3), (23, .aload_n 0, 1), (24, .bipush (-5), 2), (26, .invokevirtual 173, 3), (29, .ireturn, 1), (30, .aload_n 0, 1), (31, .getfield 19, 3), (34, .getfield 124, 3), (37, .iload_n 1, 1), (38, .aaload, 1), (39, .astore_n 3, 1), (40, .iload_n 2, 1), (41, .ifCond .ne 33, 3), (44, .aload_n 0, 1), (45, .getfield 19, 3), (48, .getfield 167, 3), (51, .aload_n 0, 1), (52, .getfield 19, 3), (55, .getfield 164, 3), (58, .isub, 1), (59, .aload_n 3, 1), (60, .aload_n 0, 1), (61, .getfield 19, 3), (64, .getfield 141, 3), (67, .invokevirtual 147, 3), (70, .invokestatic 210, 3), (73, .ireturn, 1), (74, .aload_n 3, 1), (75, .aload_n 0, 1), (76, .getfield 19, 3), (79, .getfield 141, 3), (82, .invokevirtual 213, 3), (85, .ireturn, 1)]
theorem tbX6_alone_0_ok : ∀ q ∈ tbX6_alone_0, decode cX6_alone q.1 = .ok (q.2.1, q.2.2) := by decide +kernel
theorem wCX1_stepsToLimit : zCW mX1_stepsToLimit 1 := ⟨zin (i := 4) (by decide +kernel) rfl, zin (i := 619) (by decide +kernel) rfl, by decide +kernel, by decide +kernel, by decide +kernel⟩
theorem sC6_213 : zCV RX6 213 mX1_stepsToLimit 1 := ⟨zin (i := 616) (by decide +kernel) rfl, zin (i := 617) (by decide +kernel) rfl, zin (i := 618) (by decide +kernel) rfl, wCX1_stepsToLimit⟩
theorem sC6_210 : zCS RX6 210 mX6_upward 2 := ⟨zin (i := 615) (by decide +kernel) rfl, zin (i := 369) (by decide +kernel) rfl, wCX6_upward⟩
def fX6_alone (n : Nat) (v0 : Nat) (v1 : Int32) (v2 : Int32) (μ : ZMem) : Option (ZMem × Int32) := chk (isC n 6 v0) (bd2 (fX6_isPerson n v0 v1 μ) (fun μ2 r3 => (if r3 = 0 then bd2 (fX6_refuseFar n v0 (-1 : Int32) μ2) (fun μ38 r39 => some (μ38, r39)) else bd2 (fX6_isIn n v2 (0 : Int32) (1 : Int32) μ2) (fun μ6 r7 => (if r7 = 0 then bd2 (fX6_refuseFar n v0 (-5 : Int32) μ6) (fun μ35 r36 => some (μ35, r36)) else bd1 (zRc n 4 μ6 v0 1) (fun r9 => bd1 (zRc n 102 μ6 r9 0) (fun r11 => chk (inb v1 r11) (bd1 (zRc n 1 μ6 r11 v1.toNatClampNeg) (fun r14 => (if v2 = 0 then bd1 (zRc n 4 μ6 v0 1) (fun r22 => bd1 (zRc n 4 μ6 v0 1) (fun r24 => bd1 (zRc n 4 μ6 v0 1) (fun r26 => bd2 (fX1_pace n r14 (zI μ6 r26 2) μ6) (fun μ29 r30 => bd2 (fX6_upward n ((zI μ6 r22 3) - (zI μ6 r24 4)) r30 μ29) (fun μ32 r33 => some (μ32, r33)))))) else bd1 (zRc n 4 μ6 v0 1) (fun r17 => bd2 (fX1_stepsToLimit n r14 (zI μ6 r17 2) μ6) (fun μ20 r21 => some (μ20, r21)))))))))))))
theorem tX6_alone {l : Launch} {fr : Bool} {n : Nat} {v0 : Nat} {v1 : Int32} {v2 : Int32} {μ : ZMem} {z : ZMem × Int32} (h : fX6_alone n v0 v1 v2 μ = some z) : ZFn l mX6_alone (rmd 4) [.ref v0, .int v1, .int v2] fr n μ (fr, n, z.1, some (.int z.2)) := by
  unfold fX6_alone at h
  obtain ⟨c_v0, h⟩ := chk_some h
  refine ZFn.of (ls := [(0, .ref v0), (1, .int v1), (2, .int v2)]) (by decide) (fun ξ => Nat.le_of_ble_eq_true rfl) (fun ξ => rfl) ?_
  refine V_aload_n 0 (zdk tbX6_alone_0_ok 0 rfl) rfl ?_
  refine V_iload_n 1 (zdk tbX6_alone_0_ok 1 rfl) rfl ?_
  obtain ⟨μ2, r3, q1, h⟩ := bd2_some h
  refine V_callV (R1 := (rmd 2)) (As := [.int v1]) (r := (some (.int r3))) (zdk tbX6_alone_0_ok 2 rfl) sC6_122 (tX6_isPerson q1) (c_v0) rfl rfl rfl ⟨Nat.le_of_ble_eq_true rfl, Nat.le_of_ble_eq_true rfl⟩ (Nat.le_of_ble_eq_true rfl) ⟨rfl, rfl⟩ id ?_
  refine V_if_ne (tgt := 14) (zdk tbX6_alone_0_ok 3 rfl) (by decide) (fun c4 => ?_) (fun c4 => ?_)
  · replace h := ite_f h c4
    refine V_iload_n 2 (zdk tbX6_alone_0_ok 8 rfl) rfl ?_
    refine V_iconst (v := 0) (zdk tbX6_alone_0_ok 9 rfl) rfl ?_
    refine V_iconst (v := 1) (zdk tbX6_alone_0_ok 10 rfl) rfl ?_
    obtain ⟨μ6, r7, q5, h⟩ := bd2_some h
    refine V_callS (R1 := (rmd 1)) (As := [.int v2, .int (0 : Int32), .int (1 : Int32)]) (r := (some (.int r7))) (zdk tbX6_alone_0_ok 11 rfl) sC6_153 (tX6_isIn q5) rfl rfl ⟨Nat.le_of_ble_eq_true rfl, Nat.le_of_ble_eq_true rfl⟩ (Nat.le_of_ble_eq_true rfl) ⟨rfl, rfl⟩ id ?_
    refine V_if_ne (tgt := 30) (zdk tbX6_alone_0_ok 12 rfl) (by decide) (fun c8 => ?_) (fun c8 => ?_)
    · replace h := ite_f h c8
      refine V_aload_n 0 (zdk tbX6_alone_0_ok 17 rfl) rfl ?_
      obtain ⟨r9, q10, h⟩ := bd1_some h
      obtain ⟨q10, c_r9⟩ := zRc_some q10
      refine V_getR (zdk tbX6_alone_0_ok 18 rfl) c_v0 fF6_19 rfl q10 ?_
      obtain ⟨r11, q12, h⟩ := bd1_some h
      obtain ⟨q12, c_r11⟩ := zRc_some q12
      refine V_getR (zdk tbX6_alone_0_ok 19 rfl) c_r9 fF6_124 rfl q12 ?_
      refine V_iload_n 1 (zdk tbX6_alone_0_ok 20 rfl) rfl ?_
      obtain ⟨b13, h⟩ := chk_some h
      obtain ⟨r14, q15, h⟩ := bd1_some h
      obtain ⟨q15, c_r14⟩ := zRc_some q15
      refine V_aald2 (zdk tbX6_alone_0_ok 21 rfl) c_r11 b13 q15 ?_
      refine V_astore_n (ls' := [(0, .ref v0), (2, .int v2), (3, .ref r14)]) [1, 3, 0] (zdk tbX6_alone_0_ok 22 rfl) (Nat.le_of_ble_eq_true rfl) rfl ?_
      refine V_iload_n 1 (zdk tbX6_alone_0_ok 23 rfl) rfl ?_
      refine V_if_ne (tgt := 74) (zdk tbX6_alone_0_ok 24 rfl) (by decide) (fun c16 => ?_) (fun c16 => ?_)
      · replace h := ite_f h c16
        refine V_aload_n 2 (zdk tbX6_alone_0_ok 39 rfl) rfl ?_
        refine V_aload_n 0 (zdk tbX6_alone_0_ok 40 rfl) rfl ?_
        obtain ⟨r17, q18, h⟩ := bd1_some h
        obtain ⟨q18, c_r17⟩ := zRc_some q18
        refine V_getR (zdk tbX6_alone_0_ok 41 rfl) c_v0 fF6_19 rfl q18 ?_
        refine V_getI (zdk tbX6_alone_0_ok 42 rfl) c_r17 fF6_141 rfl ?_
        obtain ⟨μ20, r21, q19, h⟩ := bd2_some h
        refine V_callV (R1 := (rmd 3)) (As := [.int (zI μ6 r17 2)]) (r := (some (.int r21))) (zdk tbX6_alone_0_ok 43 rfl) sC6_213 (tX1_stepsToLimit q19) (c_r14) rfl rfl rfl ⟨Nat.le_of_ble_eq_true rfl, Nat.le_of_ble_eq_true rfl⟩ (Nat.le_of_ble_eq_true rfl) ⟨rfl, rfl⟩ id ?_
        cases h
        exact V_iret (zdk tbX6_alone_0_ok 44 rfl) rfl rfl
      · replace h := ite_t h c16
        refine V_aload_n 0 (zdk tbX6_alone_0_ok 25 rfl) rfl ?_
        obtain ⟨r22, q23, h⟩ := bd1_some h
        obtain ⟨q23, c_r22⟩ := zRc_some q23
        refine V_getR (zdk tbX6_alone_0_ok 26 rfl) c_v0 fF6_19 rfl q23 ?_
        refine V_getI (zdk tbX6_alone_0_ok 27 rfl) c_r22 fF6_167 rfl ?_
        refine V_aload_n 0 (zdk tbX6_alone_0_ok 28 rfl) rfl ?_
        obtain ⟨r24, q25, h⟩ := bd1_some h
        obtain ⟨q25, c_r24⟩ := zRc_some q25
        refine V_getR (zdk tbX6_alone_0_ok 29 rfl) c_v0 fF6_19 rfl q25 ?_
        refine V_getI (zdk tbX6_alone_0_ok 30 rfl) c_r24 fF6_164 rfl ?_
        refine V_isub (zdk tbX6_alone_0_ok 31 rfl) ?_
        refine V_aload_n 2 (zdk tbX6_alone_0_ok 32 rfl) rfl ?_
        refine V_aload_n 0 (zdk tbX6_alone_0_ok 33 rfl) rfl ?_
        obtain ⟨r26, q27, h⟩ := bd1_some h
        obtain ⟨q27, c_r26⟩ := zRc_some q27
        refine V_getR (zdk tbX6_alone_0_ok 34 rfl) c_v0 fF6_19 rfl q27 ?_
        refine V_getI (zdk tbX6_alone_0_ok 35 rfl) c_r26 fF6_141 rfl ?_
        obtain ⟨μ29, r30, q28, h⟩ := bd2_some h
        refine V_callV (R1 := (rmd 1)) (As := [.int (zI μ6 r26 2)]) (r := (some (.int r30))) (zdk tbX6_alone_0_ok 36 rfl) sC6_147 (tX1_pace q28) (c_r14) rfl rfl rfl ⟨Nat.le_of_ble_eq_true rfl, Nat.le_of_ble_eq_true rfl⟩ (Nat.le_of_ble_eq_true rfl) ⟨rfl, rfl⟩ id ?_
        obtain ⟨μ32, r33, q31, h⟩ := bd2_some h
        refine V_callS (R1 := (rmd 1)) (As := [.int ((zI μ6 r22 3) - (zI μ6 r24 4)), .int r30]) (r := (some (.int r33))) (zdk tbX6_alone_0_ok 37 rfl) sC6_210 (tX6_upward q31) rfl rfl ⟨Nat.le_of_ble_eq_true rfl, Nat.le_of_ble_eq_true rfl⟩ (Nat.le_of_ble_eq_true rfl) ⟨rfl, rfl⟩ id ?_
        cases h
        exact V_iret (zdk tbX6_alone_0_ok 38 rfl) rfl rfl
    · replace h := ite_t h c8
      refine V_aload_n 0 (zdk tbX6_alone_0_ok 13 rfl) rfl ?_
      refine V_bipush (v := (-5)) (zdk tbX6_alone_0_ok 14 rfl) rfl ?_
      obtain ⟨μ35, r36, q34, h⟩ := bd2_some h
      refine V_callV (R1 := (rmd 3)) (As := [.int (-5 : Int32)]) (r := (some (.int r36))) (zdk tbX6_alone_0_ok 15 rfl) sC6_173 (tX6_refuseFar q34) (c_v0) rfl rfl rfl ⟨Nat.le_of_ble_eq_true rfl, Nat.le_of_ble_eq_true rfl⟩ (Nat.le_of_ble_eq_true rfl) ⟨rfl, rfl⟩ id ?_
      cases h
      exact V_iret (zdk tbX6_alone_0_ok 16 rfl) rfl rfl
  · replace h := ite_t h c4
    refine V_aload_n 0 (zdk tbX6_alone_0_ok 4 rfl) rfl ?_
    refine V_iconst (v := (-1)) (zdk tbX6_alone_0_ok 5 rfl) rfl ?_
    obtain ⟨μ38, r39, q37, h⟩ := bd2_some h
    refine V_callV (R1 := (rmd 3)) (As := [.int (-1 : Int32)]) (r := (some (.int r39))) (zdk tbX6_alone_0_ok 6 rfl) sC6_173 (tX6_refuseFar q37) (c_v0) rfl rfl rfl ⟨Nat.le_of_ble_eq_true rfl, Nat.le_of_ble_eq_true rfl⟩ (Nat.le_of_ble_eq_true rfl) ⟨rfl, rfl⟩ id ?_
    cases h
    exact V_iret (zdk tbX6_alone_0_ok 7 rfl) rfl rfl

-- WhoComplainsCarries.relay
def tbX6_relay_0 : List (Nat × Instr × Nat) := [(0, .iload_n 1, 1), (1, .iconst 1, 1), (2, .iconst 4, 1), (3, .invokestatic 153, 3), (6, .istore 4, 2), (8, .iload 4, 2), (10, .ifCond .eq 21, 3), (13, .iload_n 3, 1), (14, .iconst (-1), 1), (15, .iload_n 1, 1), (16, .iconst 1, 1), (17, .isub, 1), (18, .invokestatic 153, 3), (21, .ifCond .ne 10, 3), (24, .aload_n 0, 1), (25, .bipush (-5), 2), (27, .invokevirtual 173, 3), (30, .ireturn, 1), (31, .iload 4, 2), (33, .ifCond .eq 13, 3), (36, .iload_n 2, 1), (37, .iconst 1, 1), (38, .bipush 20, 2), (40, .invokestatic 153, 3), (43, .ifCond .ne 10, 3), (46, .aload_n 0, 1), (47, .bipush (-6), 2), (49, .invokevirtual 173, 3), (52, .ireturn, 1), (53, .aload_n 0, 1), (54, .getfield 32, 3), (57, .aload_n 0, 1), (58, .getfield 19, 3), (61, .iload_n 1, 1), (62, .iload_n 2, 1), (63, .invokevirtual 216, 3), (66, .iload_n 3, 1), (67, .iconst (-1), 1), (68, .if_icmp .ne 13, 3), (71, .aload_n 0, 1), (72, .getfield 32, 3), (75, .getfield 220, 3), (78, .goto 11, 3), (81, .aload_n 0, 1), (82, .getfield 32, 3), (85, .iload_n 3, 1), (86, .invokevirtual 223, 3), (89, .ireturn, 1)]
theorem tbX6_relay_0_ok : ∀ q ∈ tbX6_relay_0, decode cX6_relay q.1 = .ok (q.2.1, q.2.2) := by decide +kernel
theorem wCX2_seek : zCW mX2_seek 3 := ⟨zin (i := 5) (by decide +kernel) rfl, zin (i := 628) (by decide +kernel) rfl, by decide +kernel, by decide +kernel, by decide +kernel⟩
theorem sC6_216 : zCV RX6 216 mX2_seek 3 := ⟨zin (i := 625) (by decide +kernel) rfl, zin (i := 626) (by decide +kernel) rfl, zin (i := 627) (by decide +kernel) rfl, wCX2_seek⟩
theorem wCX2_bestOnLeg : zCW mX2_bestOnLeg 1 := ⟨zin (i := 5) (by decide +kernel) rfl, zin (i := 646) (by decide +kernel) rfl, by decide +kernel, by decide +kernel, by decide +kernel⟩
theorem sC6_223 : zCV RX6 223 mX2_bestOnLeg 1 := ⟨zin (i := 643) (by decide +kernel) rfl, zin (i := 644) (by decide +kernel) rfl, zin (i := 645) (by decide +kernel) rfl, wCX2_bestOnLeg⟩
theorem fF6_220 : zF RX6 220 2 3 := ⟨_, rfl, by decide, zin (i := 152) (by decide +kernel) rfl⟩
def fX6_relay_b46 (n : Nat) (v0 : Nat) (μ : ZMem) : Option (ZMem × Int32) := bd2 (fX6_refuseFar n v0 (-6 : Int32) μ) (fun μ2 r3 => some (μ2, r3))
theorem tX6_relay_b46 {l : Launch} {fr : Bool} {n : Nat} {z : ZMem × Int32} (v0 : Nat) (μ : ZMem) (c_v0 : isC n 6 v0 = true) (h : fX6_relay_b46 n v0 μ = some z) : V (zkI l mX6_relay (rmd 48) fr n z) fr 46 [(0, .ref v0)] [] n μ := by
  unfold fX6_relay_b46 at h
  refine V_aload_n 0 (zdk tbX6_relay_0_ok 25 rfl) rfl ?_
  refine V_bipush (v := (-6)) (zdk tbX6_relay_0_ok 26 rfl) rfl ?_
  obtain ⟨μ2, r3, q1, h⟩ := bd2_some h
  refine V_callV (R1 := (rmd 3)) (As := [.int (-6 : Int32)]) (r := (some (.int r3))) (zdk tbX6_relay_0_ok 27 rfl) sC6_173 (tX6_refuseFar q1) (c_v0) rfl rfl rfl ⟨Nat.le_of_ble_eq_true rfl, Nat.le_of_ble_eq_true rfl⟩ (Nat.le_of_ble_eq_true rfl) ⟨rfl, rfl⟩ id ?_
  cases h
  exact V_iret (zdk tbX6_relay_0_ok 28 rfl) rfl rfl
def fX6_relay_b89 (n : Nat) (s0 : Int32) (μ : ZMem) : Option (ZMem × Int32) := some (μ, s0)
theorem tX6_relay_b89 {l : Launch} {fr : Bool} {n : Nat} {z : ZMem × Int32} (s0 : Int32) (μ : ZMem) (h : fX6_relay_b89 n s0 μ = some z) : V (zkI l mX6_relay (rmd 48) fr n z) fr 89 [] [.int s0] n μ := by
  unfold fX6_relay_b89 at h
  cases h
  exact V_iret (zdk tbX6_relay_0_ok 47 rfl) rfl rfl
def fX6_relay_b31 (n : Nat) (v0 : Nat) (v1 : Int32) (v2 : Int32) (v3 : Int32) (v4 : Int32) (μ : ZMem) : Option (ZMem × Int32) := (if v4 = 0 then (fX6_relay_b46 n v0 μ) else bd2 (fX6_isIn n v2 (1 : Int32) (20 : Int32) μ) (fun μ3 r4 => (if r4 = 0 then (fX6_relay_b46 n v0 μ3) else bd1 (zRc n 2 μ3 v0 4) (fun r6 => bd1 (zRc n 4 μ3 v0 1) (fun r8 => bd1 (fX2_seek n r6 r8 v1 v2 μ3) (fun μ11 => (if v3 = (-1 : Int32) then bd1 (zRc n 2 μ11 v0 4) (fun r18 => (fX6_relay_b89 n (zI μ11 r18 3) μ11)) else bd1 (zRc n 2 μ11 v0 4) (fun r13 => bd2 (fX2_bestOnLeg n r13 v3 μ11) (fun μ16 r17 => (fX6_relay_b89 n r17 μ16))))))))))
theorem tX6_relay_b31 {l : Launch} {fr : Bool} {n : Nat} {z : ZMem × Int32} (v0 : Nat) (v1 : Int32) (v2 : Int32) (v3 : Int32) (v4 : Int32) (μ : ZMem) (c_v0 : isC n 6 v0 = true) (h : fX6_relay_b31 n v0 v1 v2 v3 v4 μ = some z) : V (zkI l mX6_relay (rmd 48) fr n z) fr 31 [(0, .ref v0), (1, .int v1), (2, .int v2), (3, .int v3), (4, .int v4)] [] n μ := by
  unfold fX6_relay_b31 at h
  refine V_iload 4 (zdk tbX6_relay_0_ok 18 rfl) rfl ?_
  refine V_if_eq (tgt := 46) (zdk tbX6_relay_0_ok 19 rfl) (by decide) (fun c1 => ?_) (fun c1 => ?_)
  · replace h := ite_t h c1
    refine V_sub (ls' := [(0, .ref v0)]) [0] rfl ?_
    exact tX6_relay_b46 v0 μ c_v0 h
  · replace h := ite_f h c1
    refine V_iload_n 2 (zdk tbX6_relay_0_ok 20 rfl) rfl ?_
    refine V_iconst (v := 1) (zdk tbX6_relay_0_ok 21 rfl) rfl ?_
    refine V_bipush (v := 20) (zdk tbX6_relay_0_ok 22 rfl) rfl ?_
    obtain ⟨μ3, r4, q2, h⟩ := bd2_some h
    refine V_callS (R1 := (rmd 1)) (As := [.int v2, .int (1 : Int32), .int (20 : Int32)]) (r := (some (.int r4))) (zdk tbX6_relay_0_ok 23 rfl) sC6_153 (tX6_isIn q2) rfl rfl ⟨Nat.le_of_ble_eq_true rfl, Nat.le_of_ble_eq_true rfl⟩ (Nat.le_of_ble_eq_true rfl) ⟨rfl, rfl⟩ id ?_
    refine V_if_ne (tgt := 53) (zdk tbX6_relay_0_ok 24 rfl) (by decide) (fun c5 => ?_) (fun c5 => ?_)
    · replace h := ite_f h c5
      refine V_aload_n 0 (zdk tbX6_relay_0_ok 29 rfl) rfl ?_
      obtain ⟨r6, q7, h⟩ := bd1_some h
      obtain ⟨q7, c_r6⟩ := zRc_some q7
      refine V_getR (zdk tbX6_relay_0_ok 30 rfl) c_v0 fF6_32 rfl q7 ?_
      refine V_aload_n 0 (zdk tbX6_relay_0_ok 31 rfl) rfl ?_
      obtain ⟨r8, q9, h⟩ := bd1_some h
      obtain ⟨q9, c_r8⟩ := zRc_some q9
      refine V_getR (zdk tbX6_relay_0_ok 32 rfl) c_v0 fF6_19 rfl q9 ?_
      refine V_iload_n 1 (zdk tbX6_relay_0_ok 33 rfl) rfl ?_
      refine V_iload_n 2 (zdk tbX6_relay_0_ok 34 rfl) rfl ?_
      obtain ⟨μ11, q10, h⟩ := bd1_some h
      refine V_callV (R1 := (rmd 47)) (As := [.ref r8, .int v1, .int v2]) (r := none) (zdk tbX6_relay_0_ok 35 rfl) sC6_216 (tX2_seek q10) (c_r6) rfl rfl rfl ⟨Nat.le_of_ble_eq_true rfl, Nat.le_of_ble_eq_true rfl⟩ (Nat.le_of_ble_eq_true rfl) ⟨rfl, rfl⟩ id ?_
      refine V_iload_n 3 (zdk tbX6_relay_0_ok 36 rfl) rfl ?_
      refine V_iconst (v := (-1)) (zdk tbX6_relay_0_ok 37 rfl) rfl ?_
      refine V_icmp_ne (tgt := 81) (zdk tbX6_relay_0_ok 38 rfl) (by decide) (fun c12 => ?_) (fun c12 => ?_)
      · replace h := ite_f h c12
        refine V_aload_n 0 (zdk tbX6_relay_0_ok 43 rfl) rfl ?_
        obtain ⟨r13, q14, h⟩ := bd1_some h
        obtain ⟨q14, c_r13⟩ := zRc_some q14
        refine V_getR (zdk tbX6_relay_0_ok 44 rfl) c_v0 fF6_32 rfl q14 ?_
        refine V_iload_n 3 (zdk tbX6_relay_0_ok 45 rfl) rfl ?_
        obtain ⟨μ16, r17, q15, h⟩ := bd2_some h
        refine V_callV (R1 := (rmd 2)) (As := [.int v3]) (r := (some (.int r17))) (zdk tbX6_relay_0_ok 46 rfl) sC6_223 (tX2_bestOnLeg q15) (c_r13) rfl rfl rfl ⟨Nat.le_of_ble_eq_true rfl, Nat.le_of_ble_eq_true rfl⟩ (Nat.le_of_ble_eq_true rfl) ⟨rfl, rfl⟩ id ?_
        refine V_sub (ls' := []) [] rfl ?_
        exact tX6_relay_b89 r17 μ16  h
      · replace h := ite_t h c12
        refine V_aload_n 0 (zdk tbX6_relay_0_ok 39 rfl) rfl ?_
        obtain ⟨r18, q19, h⟩ := bd1_some h
        obtain ⟨q19, c_r18⟩ := zRc_some q19
        refine V_getR (zdk tbX6_relay_0_ok 40 rfl) c_v0 fF6_32 rfl q19 ?_
        refine V_getI (zdk tbX6_relay_0_ok 41 rfl) c_r18 fF6_220 rfl ?_
        refine V_goto (tgt := 89) (zdk tbX6_relay_0_ok 42 rfl) (by decide) ?_
        refine V_sub (ls' := []) [] rfl ?_
        exact tX6_relay_b89 (zI μ11 r18 3) μ11  h
    · replace h := ite_t h c5
      refine V_sub (ls' := [(0, .ref v0)]) [0] rfl ?_
      exact tX6_relay_b46 v0 μ3 c_v0 h
def fX6_relay (n : Nat) (v0 : Nat) (v1 : Int32) (v2 : Int32) (v3 : Int32) (μ : ZMem) : Option (ZMem × Int32) := chk (isC n 6 v0) (bd2 (fX6_isIn n v1 (1 : Int32) (4 : Int32) μ) (fun μ2 r3 => (if r3 = 0 then (fX6_relay_b31 n v0 v1 v2 v3 r3 μ2) else bd2 (fX6_isIn n v3 (-1 : Int32) (v1 - (1 : Int32)) μ2) (fun μ6 r7 => (if r7 = 0 then bd2 (fX6_refuseFar n v0 (-5 : Int32) μ6) (fun μ10 r11 => some (μ10, r11)) else (fX6_relay_b31 n v0 v1 v2 v3 r3 μ6))))))
theorem tX6_relay {l : Launch} {fr : Bool} {n : Nat} {v0 : Nat} {v1 : Int32} {v2 : Int32} {v3 : Int32} {μ : ZMem} {z : ZMem × Int32} (h : fX6_relay n v0 v1 v2 v3 μ = some z) : ZFn l mX6_relay (rmd 48) [.ref v0, .int v1, .int v2, .int v3] fr n μ (fr, n, z.1, some (.int z.2)) := by
  unfold fX6_relay at h
  obtain ⟨c_v0, h⟩ := chk_some h
  refine ZFn.of (ls := [(0, .ref v0), (1, .int v1), (2, .int v2), (3, .int v3)]) (by decide) (fun ξ => Nat.le_of_ble_eq_true rfl) (fun ξ => rfl) ?_
  refine V_iload_n 1 (zdk tbX6_relay_0_ok 0 rfl) rfl ?_
  refine V_iconst (v := 1) (zdk tbX6_relay_0_ok 1 rfl) rfl ?_
  refine V_iconst (v := 4) (zdk tbX6_relay_0_ok 2 rfl) rfl ?_
  obtain ⟨μ2, r3, q1, h⟩ := bd2_some h
  refine V_callS (R1 := (rmd 1)) (As := [.int v1, .int (1 : Int32), .int (4 : Int32)]) (r := (some (.int r3))) (zdk tbX6_relay_0_ok 3 rfl) sC6_153 (tX6_isIn q1) rfl rfl ⟨Nat.le_of_ble_eq_true rfl, Nat.le_of_ble_eq_true rfl⟩ (Nat.le_of_ble_eq_true rfl) ⟨rfl, rfl⟩ id ?_
  refine V_istore (ls' := [(0, .ref v0), (1, .int v1), (2, .int v2), (3, .int v3), (4, .int r3)]) [1, 2, 3, 4, 0] (zdk tbX6_relay_0_ok 4 rfl) (Nat.le_of_ble_eq_true rfl) rfl ?_
  refine V_iload 4 (zdk tbX6_relay_0_ok 5 rfl) rfl ?_
  refine V_if_eq (tgt := 31) (zdk tbX6_relay_0_ok 6 rfl) (by decide) (fun c4 => ?_) (fun c4 => ?_)
  · replace h := ite_t h c4
    exact tX6_relay_b31 v0 v1 v2 v3 r3 μ2 c_v0 h
  · replace h := ite_f h c4
    refine V_iload_n 3 (zdk tbX6_relay_0_ok 7 rfl) rfl ?_
    refine V_iconst (v := (-1)) (zdk tbX6_relay_0_ok 8 rfl) rfl ?_
    refine V_iload_n 1 (zdk tbX6_relay_0_ok 9 rfl) rfl ?_
    refine V_iconst (v := 1) (zdk tbX6_relay_0_ok 10 rfl) rfl ?_
    refine V_isub (zdk tbX6_relay_0_ok 11 rfl) ?_
    obtain ⟨μ6, r7, q5, h⟩ := bd2_some h
    refine V_callS (R1 := (rmd 1)) (As := [.int v3, .int (-1 : Int32), .int (v1 - (1 : Int32))]) (r := (some (.int r7))) (zdk tbX6_relay_0_ok 12 rfl) sC6_153 (tX6_isIn q5) rfl rfl ⟨Nat.le_of_ble_eq_true rfl, Nat.le_of_ble_eq_true rfl⟩ (Nat.le_of_ble_eq_true rfl) ⟨rfl, rfl⟩ id ?_
    refine V_if_ne (tgt := 31) (zdk tbX6_relay_0_ok 13 rfl) (by decide) (fun c8 => ?_) (fun c8 => ?_)
    · replace h := ite_f h c8
      exact tX6_relay_b31 v0 v1 v2 v3 r3 μ6 c_v0 h
    · replace h := ite_t h c8
      refine V_aload_n 0 (zdk tbX6_relay_0_ok 14 rfl) rfl ?_
      refine V_bipush (v := (-5)) (zdk tbX6_relay_0_ok 15 rfl) rfl ?_
      obtain ⟨μ10, r11, q9, h⟩ := bd2_some h
      refine V_callV (R1 := (rmd 3)) (As := [.int (-5 : Int32)]) (r := (some (.int r11))) (zdk tbX6_relay_0_ok 16 rfl) sC6_173 (tX6_refuseFar q9) (c_v0) rfl rfl rfl ⟨Nat.le_of_ble_eq_true rfl, Nat.le_of_ble_eq_true rfl⟩ (Nat.le_of_ble_eq_true rfl) ⟨rfl, rfl⟩ id ?_
      cases h
      exact V_iret (zdk tbX6_relay_0_ok 17 rfl) rfl rfl

-- WhoComplainsCarries.toldRefusal
def tbX6_toldRefusal_0 : List (Nat × Instr × Nat) := [(0, .aload_n 0, 1), (1, .iload_n 1, 1), (2, .invokevirtual 74, 3), (5, .istore 6, 2), (7, .iload 6, 2), (9, .ifCond .eq 6, 3), (12, .iload 6, 2), (14, .ireturn, 1), (15, .iload_n 2, 1), (16, .ifCond .ge 6, 3), (19, .bipush (-4), 2), (21, .ireturn, 1), (22, .aload_n 0, 1), (23, .getfield 11, 3), (26, .iload_n 1, 1), (27, .aaload, 1), (28, .getfield 296, 3), (31, .i2l, 1), (32, .lload_n 3, 1), (33, .lcmp, 1), (34, .ifCond .lt 8, 3), (37, .iload 5, 2), (39, .ifCond .ne 8, 3), (42, .bipush (-5), 2), (44, .goto 4, 3), (47, .iconst 0, 1), (48, .ireturn, 1)]
theorem tbX6_toldRefusal_0_ok : ∀ q ∈ tbX6_toldRefusal_0, decode cX6_toldRefusal q.1 = .ok (q.2.1, q.2.2) := by decide +kernel
theorem fF6_296 : zF RX6 296 3 2 := ⟨_, rfl, by decide, zin (i := 35) (by decide +kernel) rfl⟩
def fX6_toldRefusal_b48 (n : Nat) (s0 : Int32) (μ : ZMem) : Option (ZMem × Int32) := some (μ, s0)
theorem tX6_toldRefusal_b48 {l : Launch} {fr : Bool} {n : Nat} {z : ZMem × Int32} (s0 : Int32) (μ : ZMem) (h : fX6_toldRefusal_b48 n s0 μ = some z) : V (zkI l mX6_toldRefusal (rmd 4) fr n z) fr 48 [] [.int s0] n μ := by
  unfold fX6_toldRefusal_b48 at h
  cases h
  exact V_iret (zdk tbX6_toldRefusal_0_ok 26 rfl) rfl rfl
def fX6_toldRefusal_b42 (n : Nat) (μ : ZMem) : Option (ZMem × Int32) := (fX6_toldRefusal_b48 n (-5 : Int32) μ)
theorem tX6_toldRefusal_b42 {l : Launch} {fr : Bool} {n : Nat} {z : ZMem × Int32} (μ : ZMem) (h : fX6_toldRefusal_b42 n μ = some z) : V (zkI l mX6_toldRefusal (rmd 4) fr n z) fr 42 [] [] n μ := by
  unfold fX6_toldRefusal_b42 at h
  refine V_bipush (v := (-5)) (zdk tbX6_toldRefusal_0_ok 23 rfl) rfl ?_
  refine V_goto (tgt := 48) (zdk tbX6_toldRefusal_0_ok 24 rfl) (by decide) ?_
  exact tX6_toldRefusal_b48 (-5 : Int32) μ  h
def fX6_toldRefusal (n : Nat) (v0 : Nat) (v1 : Int32) (v2 : Int32) (v3 : Int64) (v5 : Int32) (μ : ZMem) : Option (ZMem × Int32) := chk (isC n 6 v0) (bd2 (fX6_rowRefusal n v0 v1 μ) (fun μ2 r3 => (if r3 = 0 then (if 0 ≤ v2 then bd1 (zRc n 104 μ2 v0 0) (fun r6 => chk (inb v1 r6) (bd1 (zRc n 3 μ2 r6 v1.toNatClampNeg) (fun r9 => (if (lg_cmp ((zI μ2 r9 2).toInt64) v3) < 0 then (fX6_toldRefusal_b42 n  μ2) else (if v5 = 0 then (fX6_toldRefusal_b42 n  μ2) else (fX6_toldRefusal_b48 n (0 : Int32) μ2)))))) else some (μ2, (-4 : Int32))) else some (μ2, r3))))
theorem tX6_toldRefusal {l : Launch} {fr : Bool} {n : Nat} {v0 : Nat} {v1 : Int32} {v2 : Int32} {v3 : Int64} {v5 : Int32} {μ : ZMem} {z : ZMem × Int32} (h : fX6_toldRefusal n v0 v1 v2 v3 v5 μ = some z) : ZFn l mX6_toldRefusal (rmd 4) [.ref v0, .int v1, .int v2, .long v3, .int v5] fr n μ (fr, n, z.1, some (.int z.2)) := by
  unfold fX6_toldRefusal at h
  obtain ⟨c_v0, h⟩ := chk_some h
  refine ZFn.of (ls := [(0, .ref v0), (1, .int v1), (2, .int v2), (3, .long v3), (5, .int v5)]) (by decide) (fun ξ => Nat.le_of_ble_eq_true rfl) (fun ξ => rfl) ?_
  refine V_aload_n 0 (zdk tbX6_toldRefusal_0_ok 0 rfl) rfl ?_
  refine V_iload_n 1 (zdk tbX6_toldRefusal_0_ok 1 rfl) rfl ?_
  obtain ⟨μ2, r3, q1, h⟩ := bd2_some h
  refine V_callV (R1 := (rmd 3)) (As := [.int v1]) (r := (some (.int r3))) (zdk tbX6_toldRefusal_0_ok 2 rfl) sC6_74 (tX6_rowRefusal q1) (c_v0) rfl rfl rfl ⟨Nat.le_of_ble_eq_true rfl, Nat.le_of_ble_eq_true rfl⟩ (Nat.le_of_ble_eq_true rfl) ⟨rfl, rfl⟩ id ?_
  refine V_istore (ls' := [(0, .ref v0), (1, .int v1), (2, .int v2), (3, .long v3), (5, .int v5), (6, .int r3)]) [1, 2, 3, 4, 5, 0] (zdk tbX6_toldRefusal_0_ok 3 rfl) (Nat.le_of_ble_eq_true rfl) rfl ?_
  refine V_iload 5 (zdk tbX6_toldRefusal_0_ok 4 rfl) rfl ?_
  refine V_if_eq (tgt := 15) (zdk tbX6_toldRefusal_0_ok 5 rfl) (by decide) (fun c4 => ?_) (fun c4 => ?_)
  · replace h := ite_t h c4
    refine V_iload_n 2 (zdk tbX6_toldRefusal_0_ok 8 rfl) rfl ?_
    refine V_if_ge (tgt := 22) (zdk tbX6_toldRefusal_0_ok 9 rfl) (by decide) (fun c5 => ?_) (fun c5 => ?_)
    · replace h := ite_t h c5
      refine V_aload_n 0 (zdk tbX6_toldRefusal_0_ok 12 rfl) rfl ?_
      obtain ⟨r6, q7, h⟩ := bd1_some h
      obtain ⟨q7, c_r6⟩ := zRc_some q7
      refine V_getR (zdk tbX6_toldRefusal_0_ok 13 rfl) c_v0 fF6_11 rfl q7 ?_
      refine V_iload_n 1 (zdk tbX6_toldRefusal_0_ok 14 rfl) rfl ?_
      obtain ⟨b8, h⟩ := chk_some h
      obtain ⟨r9, q10, h⟩ := bd1_some h
      obtain ⟨q10, c_r9⟩ := zRc_some q10
      refine V_aald4 (zdk tbX6_toldRefusal_0_ok 15 rfl) c_r6 b8 q10 ?_
      refine V_getI (zdk tbX6_toldRefusal_0_ok 16 rfl) c_r9 fF6_296 rfl ?_
      refine V_i2l (zdk tbX6_toldRefusal_0_ok 17 rfl) rfl ?_
      refine V_lload_n 3 (zdk tbX6_toldRefusal_0_ok 18 rfl) rfl ?_
      refine V_lcmp (zdk tbX6_toldRefusal_0_ok 19 rfl) ?_
      refine V_if_lt (tgt := 42) (zdk tbX6_toldRefusal_0_ok 20 rfl) (by decide) (fun c11 => ?_) (fun c11 => ?_)
      · replace h := ite_t h c11
        refine V_sub (ls' := []) [] rfl ?_
        exact tX6_toldRefusal_b42  μ2  h
      · replace h := ite_f h c11
        refine V_iload 4 (zdk tbX6_toldRefusal_0_ok 21 rfl) rfl ?_
        refine V_if_ne (tgt := 47) (zdk tbX6_toldRefusal_0_ok 22 rfl) (by decide) (fun c12 => ?_) (fun c12 => ?_)
        · replace h := ite_f h c12
          refine V_iconst (v := 0) (zdk tbX6_toldRefusal_0_ok 25 rfl) rfl ?_
          refine V_sub (ls' := []) [] rfl ?_
          exact tX6_toldRefusal_b48 (0 : Int32) μ2  h
        · replace h := ite_t h c12
          refine V_sub (ls' := []) [] rfl ?_
          exact tX6_toldRefusal_b42  μ2  h
    · replace h := ite_f h c5
      refine V_bipush (v := (-4)) (zdk tbX6_toldRefusal_0_ok 10 rfl) rfl ?_
      cases h
      exact V_iret (zdk tbX6_toldRefusal_0_ok 11 rfl) rfl rfl
  · replace h := ite_f h c4
    refine V_iload 5 (zdk tbX6_toldRefusal_0_ok 6 rfl) rfl ?_
    cases h
    exact V_iret (zdk tbX6_toldRefusal_0_ok 7 rfl) rfl rfl

-- WhoComplainsCarries.casesRefusal
def tbX6_casesRefusal_0 : List (Nat × Instr × Nat) := [(0, .aload_n 0, 1), (1, .iload_n 1, 1), (2, .iload_n 2, 1), (3, .ldc2_w 299, 3), (6, .iload_n 2, 1), (7, .i2l, 1), (8, .lmul, 1), (9, .iload_n 3, 1), (10, .invokevirtual 238, 3), (13, .istore 4, 2), (15, .iload 4, 2), (17, .ifCond .eq 6, 3), (20, .iload 4, 2), (22, .ireturn, 1), (23, .iload_n 2, 1), (24, .bipush 40, 2), (26, .if_icmp .le 6, 3), (29, .bipush (-6), 2), (31, .ireturn, 1), (32, .iconst 0, 1), (33, .istore 5, 2), (35, .iload 5, 2), (37, .iload_n 2, 1), (38, .if_icmp .ge 60, 3), (41, .aload_n 0, 1), (42, .getfield 11, 3), (45, .iload_n 1, 1), (46, .aaload, 1), (47, .iconst 2, 1), (48, .iload 5, 2), (50, .imul, 1), (51, .invokevirtual 301, 3), (54, .iconst 0, 1), (55, .iconst 4, 1), (56, .invokestatic 153, 3), (59, .istore 6, 2), (61, .iload 6, 2), (63, .ifCond .eq 26, 3), (66, .aload_n 0, 1), (67, .getfield 11, 3), (70, .iload_n 1, 1), (71, .aaload, 1), (72, .iconst 2, 1), (73, .iload 5, 2), (75, .imul, 1), (76, .iconst 1, 1), (77, .iadd, 1), (78, .invokevirtual 301, 3), (81, .iconst 0, 1), (82, .iconst 1, 1)]
theorem tbX6_casesRefusal_0_ok : ∀ q ∈ tbX6_casesRefusal_0, decode cX6_casesRefusal q.1 = .ok (q.2.1, q.2.2) := by decide +kernel
def tbX6_casesRefusal_1 : List (Nat × Instr × Nat) := [(83, .invokestatic 153, 3), (86, .ifCond .ne 6, 3), (89, .bipush (-6), 2), (91, .ireturn, 1), (92, .iinc 5 1, 3), (95, .goto (-60), 3), (98, .iconst 0, 1), (99, .ireturn, 1)]
theorem tbX6_casesRefusal_1_ok : ∀ q ∈ tbX6_casesRefusal_1, decode cX6_casesRefusal q.1 = .ok (q.2.1, q.2.2) := by decide +kernel
theorem sC6_301 : zCV RX6 301 mX3_intAt 1 := ⟨zin (i := 660) (by decide +kernel) rfl, zin (i := 420) (by decide +kernel) rfl, zin (i := 421) (by decide +kernel) rfl, wCX3_intAt⟩
theorem wK6_299 : Cond.constantLong RX6 299 2 ∈ zT := zin (i := 655) (by decide +kernel) rfl
theorem wCX6_toldRefusal : zCW mX6_toldRefusal 4 := ⟨zin (i := 1) (by decide +kernel) rfl, zin (i := 659) (by decide +kernel) rfl, by decide +kernel, by decide +kernel, by decide +kernel⟩
theorem sC6_238 : zCV RX6 238 mX6_toldRefusal 4 := ⟨zin (i := 656) (by decide +kernel) rfl, zin (i := 658) (by decide +kernel) rfl, zinP (i := 20) (q := (yX6_toldRefusal, 10)) (by decide +kernel) rfl, wCX6_toldRefusal⟩
def fX6_casesRefusal_b89 (n : Nat) (μ : ZMem) : Option (ZMem × Int32) := some (μ, (-6 : Int32))
theorem tX6_casesRefusal_b89 {l : Launch} {fr : Bool} {n : Nat} {z : ZMem × Int32} (μ : ZMem) (h : fX6_casesRefusal_b89 n μ = some z) : V (zkI l mX6_casesRefusal (rmd 5) fr n z) fr 89 [] [] n μ := by
  unfold fX6_casesRefusal_b89 at h
  refine V_bipush (v := (-6)) (zdk tbX6_casesRefusal_1_ok 2 rfl) rfl ?_
  cases h
  exact V_iret (zdk tbX6_casesRefusal_1_ok 3 rfl) rfl rfl
def fX6_casesRefusal_b35 (n : Nat) : Nat → Nat → Int32 → Int32 → Int32 → ZMem → Option (ZMem × Int32)
  | 0, _, _, _, _, _ => none
  | k + 1, v0, v1, v2, v5, μ => (if v2 ≤ v5 then some (μ, (0 : Int32)) else bd1 (zRc n 104 μ v0 0) (fun r2 => chk (inb v1 r2) (bd1 (zRc n 3 μ r2 v1.toNatClampNeg) (fun r5 => bd2 (fX3_intAt n r5 ((2 : Int32) * v5) μ) (fun μ8 r9 => bd2 (fX6_isIn n r9 (0 : Int32) (4 : Int32) μ8) (fun μ11 r12 => (if r12 = 0 then (fX6_casesRefusal_b89 n  μ11) else bd1 (zRc n 104 μ11 v0 0) (fun r14 => chk (inb v1 r14) (bd1 (zRc n 3 μ11 r14 v1.toNatClampNeg) (fun r17 => bd2 (fX3_intAt n r17 (((2 : Int32) * v5) + (1 : Int32)) μ11) (fun μ20 r21 => bd2 (fX6_isIn n r21 (0 : Int32) (1 : Int32) μ20) (fun μ23 r24 => (if r24 = 0 then (fX6_casesRefusal_b89 n  μ23) else (fX6_casesRefusal_b35 n k v0 v1 v2 (v5 + (1 : Int32)) μ23))))))))))))))
theorem tX6_casesRefusal_b35 {l : Launch} {fr : Bool} {n : Nat} {z : ZMem × Int32} : ∀ (k : Nat) (v0 : Nat) (v1 : Int32) (v2 : Int32) (v5 : Int32) (μ : ZMem) (c_v0 : isC n 6 v0 = true), fX6_casesRefusal_b35 n k v0 v1 v2 v5 μ = some z → V (zkI l mX6_casesRefusal (rmd 5) fr n z) fr 35 [(0, .ref v0), (1, .int v1), (2, .int v2), (5, .int v5)] [] n μ := by
  intro k
  induction k with
  | zero =>
    intro v0 v1 v2 v5 μ c_v0 h
    unfold fX6_casesRefusal_b35 at h
    cases h
  | succ k ih =>
    intro v0 v1 v2 v5 μ c_v0 h
    unfold fX6_casesRefusal_b35 at h
    refine V_iload 3 (zdk tbX6_casesRefusal_0_ok 21 rfl) rfl ?_
    refine V_iload_n 2 (zdk tbX6_casesRefusal_0_ok 22 rfl) rfl ?_
    refine V_icmp_ge (tgt := 98) (zdk tbX6_casesRefusal_0_ok 23 rfl) (by decide) (fun c1 => ?_) (fun c1 => ?_)
    · replace h := ite_t h c1
      refine V_iconst (v := 0) (zdk tbX6_casesRefusal_1_ok 6 rfl) rfl ?_
      cases h
      exact V_iret (zdk tbX6_casesRefusal_1_ok 7 rfl) rfl rfl
    · replace h := ite_f h c1
      refine V_aload_n 0 (zdk tbX6_casesRefusal_0_ok 24 rfl) rfl ?_
      obtain ⟨r2, q3, h⟩ := bd1_some h
      obtain ⟨q3, c_r2⟩ := zRc_some q3
      refine V_getR (zdk tbX6_casesRefusal_0_ok 25 rfl) c_v0 fF6_11 rfl q3 ?_
      refine V_iload_n 1 (zdk tbX6_casesRefusal_0_ok 26 rfl) rfl ?_
      obtain ⟨b4, h⟩ := chk_some h
      obtain ⟨r5, q6, h⟩ := bd1_some h
      obtain ⟨q6, c_r5⟩ := zRc_some q6
      refine V_aald4 (zdk tbX6_casesRefusal_0_ok 27 rfl) c_r2 b4 q6 ?_
      refine V_iconst (v := 2) (zdk tbX6_casesRefusal_0_ok 28 rfl) rfl ?_
      refine V_iload 3 (zdk tbX6_casesRefusal_0_ok 29 rfl) rfl ?_
      refine V_imul (zdk tbX6_casesRefusal_0_ok 30 rfl) ?_
      obtain ⟨μ8, r9, q7, h⟩ := bd2_some h
      refine V_callV (R1 := (rmd 4)) (As := [.int ((2 : Int32) * v5)]) (r := (some (.int r9))) (zdk tbX6_casesRefusal_0_ok 31 rfl) sC6_301 (tX3_intAt q7) (c_r5) rfl rfl rfl ⟨Nat.le_of_ble_eq_true rfl, Nat.le_of_ble_eq_true rfl⟩ (Nat.le_of_ble_eq_true rfl) ⟨rfl, rfl⟩ id ?_
      refine V_iconst (v := 0) (zdk tbX6_casesRefusal_0_ok 32 rfl) rfl ?_
      refine V_iconst (v := 4) (zdk tbX6_casesRefusal_0_ok 33 rfl) rfl ?_
      obtain ⟨μ11, r12, q10, h⟩ := bd2_some h
      refine V_callS (R1 := (rmd 1)) (As := [.int r9, .int (0 : Int32), .int (4 : Int32)]) (r := (some (.int r12))) (zdk tbX6_casesRefusal_0_ok 34 rfl) sC6_153 (tX6_isIn q10) rfl rfl ⟨Nat.le_of_ble_eq_true rfl, Nat.le_of_ble_eq_true rfl⟩ (Nat.le_of_ble_eq_true rfl) ⟨rfl, rfl⟩ id ?_
      refine V_istore (ls' := [(0, .ref v0), (1, .int v1), (2, .int v2), (5, .int v5), (6, .int r12)]) [1, 2, 3, 4, 0] (zdk tbX6_casesRefusal_0_ok 35 rfl) (Nat.le_of_ble_eq_true rfl) rfl ?_
      refine V_iload 4 (zdk tbX6_casesRefusal_0_ok 36 rfl) rfl ?_
      refine V_if_eq (tgt := 89) (zdk tbX6_casesRefusal_0_ok 37 rfl) (by decide) (fun c13 => ?_) (fun c13 => ?_)
      · replace h := ite_t h c13
        refine V_sub (ls' := []) [] rfl ?_
        exact tX6_casesRefusal_b89  μ11  h
      · replace h := ite_f h c13
        refine V_aload_n 0 (zdk tbX6_casesRefusal_0_ok 38 rfl) rfl ?_
        obtain ⟨r14, q15, h⟩ := bd1_some h
        obtain ⟨q15, c_r14⟩ := zRc_some q15
        refine V_getR (zdk tbX6_casesRefusal_0_ok 39 rfl) c_v0 fF6_11 rfl q15 ?_
        refine V_iload_n 1 (zdk tbX6_casesRefusal_0_ok 40 rfl) rfl ?_
        obtain ⟨b16, h⟩ := chk_some h
        obtain ⟨r17, q18, h⟩ := bd1_some h
        obtain ⟨q18, c_r17⟩ := zRc_some q18
        refine V_aald4 (zdk tbX6_casesRefusal_0_ok 41 rfl) c_r14 b16 q18 ?_
        refine V_iconst (v := 2) (zdk tbX6_casesRefusal_0_ok 42 rfl) rfl ?_
        refine V_iload 3 (zdk tbX6_casesRefusal_0_ok 43 rfl) rfl ?_
        refine V_imul (zdk tbX6_casesRefusal_0_ok 44 rfl) ?_
        refine V_iconst (v := 1) (zdk tbX6_casesRefusal_0_ok 45 rfl) rfl ?_
        refine V_iadd (zdk tbX6_casesRefusal_0_ok 46 rfl) ?_
        obtain ⟨μ20, r21, q19, h⟩ := bd2_some h
        refine V_callV (R1 := (rmd 4)) (As := [.int (((2 : Int32) * v5) + (1 : Int32))]) (r := (some (.int r21))) (zdk tbX6_casesRefusal_0_ok 47 rfl) sC6_301 (tX3_intAt q19) (c_r17) rfl rfl rfl ⟨Nat.le_of_ble_eq_true rfl, Nat.le_of_ble_eq_true rfl⟩ (Nat.le_of_ble_eq_true rfl) ⟨rfl, rfl⟩ id ?_
        refine V_iconst (v := 0) (zdk tbX6_casesRefusal_0_ok 48 rfl) rfl ?_
        refine V_iconst (v := 1) (zdk tbX6_casesRefusal_0_ok 49 rfl) rfl ?_
        obtain ⟨μ23, r24, q22, h⟩ := bd2_some h
        refine V_callS (R1 := (rmd 1)) (As := [.int r21, .int (0 : Int32), .int (1 : Int32)]) (r := (some (.int r24))) (zdk tbX6_casesRefusal_1_ok 0 rfl) sC6_153 (tX6_isIn q22) rfl rfl ⟨Nat.le_of_ble_eq_true rfl, Nat.le_of_ble_eq_true rfl⟩ (Nat.le_of_ble_eq_true rfl) ⟨rfl, rfl⟩ id ?_
        refine V_if_ne (tgt := 92) (zdk tbX6_casesRefusal_1_ok 1 rfl) (by decide) (fun c25 => ?_) (fun c25 => ?_)
        · replace h := ite_f h c25
          refine V_inc (dx := 1) (ls' := [(0, .ref v0), (1, .int v1), (2, .int v2), (5, .int (v5 + (1 : Int32)))]) 3 [1, 2, 3, 0] (zdk tbX6_casesRefusal_1_ok 4 rfl) rfl (Nat.le_of_ble_eq_true rfl) rfl rfl ?_
          refine V_goto (tgt := 35) (zdk tbX6_casesRefusal_1_ok 5 rfl) (by decide) ?_
          exact ih v0 v1 v2 (v5 + (1 : Int32)) μ23 c_v0 h
        · replace h := ite_t h c25
          refine V_sub (ls' := []) [] rfl ?_
          exact tX6_casesRefusal_b89  μ23  h
def fX6_casesRefusal (n : Nat) (v0 : Nat) (v1 : Int32) (v2 : Int32) (v3 : Int32) (μ : ZMem) : Option (ZMem × Int32) := chk (isC n 6 v0) (bd2 (fX6_toldRefusal n v0 v1 v2 ((2 : Int64) * (v2.toInt64)) v3 μ) (fun μ2 r3 => (if r3 = 0 then (if v2 ≤ (40 : Int32) then (fX6_casesRefusal_b35 n FU v0 v1 v2 (0 : Int32) μ2) else some (μ2, (-6 : Int32))) else some (μ2, r3))))
theorem tX6_casesRefusal {l : Launch} {fr : Bool} {n : Nat} {v0 : Nat} {v1 : Int32} {v2 : Int32} {v3 : Int32} {μ : ZMem} {z : ZMem × Int32} (h : fX6_casesRefusal n v0 v1 v2 v3 μ = some z) : ZFn l mX6_casesRefusal (rmd 5) [.ref v0, .int v1, .int v2, .int v3] fr n μ (fr, n, z.1, some (.int z.2)) := by
  unfold fX6_casesRefusal at h
  obtain ⟨c_v0, h⟩ := chk_some h
  refine ZFn.of (ls := [(0, .ref v0), (1, .int v1), (2, .int v2), (3, .int v3)]) (by decide) (fun ξ => Nat.le_of_ble_eq_true rfl) (fun ξ => rfl) ?_
  refine V_aload_n 0 (zdk tbX6_casesRefusal_0_ok 0 rfl) rfl ?_
  refine V_iload_n 1 (zdk tbX6_casesRefusal_0_ok 1 rfl) rfl ?_
  refine V_iload_n 2 (zdk tbX6_casesRefusal_0_ok 2 rfl) rfl ?_
  refine V_ldc2 (v := 2) (zdk tbX6_casesRefusal_0_ok 3 rfl) wK6_299 ?_
  refine V_iload_n 2 (zdk tbX6_casesRefusal_0_ok 4 rfl) rfl ?_
  refine V_i2l (zdk tbX6_casesRefusal_0_ok 5 rfl) rfl ?_
  refine V_lmul (zdk tbX6_casesRefusal_0_ok 6 rfl) ?_
  refine V_iload_n 3 (zdk tbX6_casesRefusal_0_ok 7 rfl) rfl ?_
  obtain ⟨μ2, r3, q1, h⟩ := bd2_some h
  refine V_callV (R1 := (rmd 4)) (As := [.int v1, .int v2, .long ((2 : Int64) * (v2.toInt64)), .int v3]) (r := (some (.int r3))) (zdk tbX6_casesRefusal_0_ok 8 rfl) sC6_238 (tX6_toldRefusal q1) (c_v0) rfl rfl rfl ⟨Nat.le_of_ble_eq_true rfl, Nat.le_of_ble_eq_true rfl⟩ (Nat.le_of_ble_eq_true rfl) ⟨rfl, rfl⟩ id ?_
  refine V_istore (ls' := [(0, .ref v0), (1, .int v1), (2, .int v2), (4, .int r3)]) [1, 2, 3, 0] (zdk tbX6_casesRefusal_0_ok 9 rfl) (Nat.le_of_ble_eq_true rfl) rfl ?_
  refine V_iload 3 (zdk tbX6_casesRefusal_0_ok 10 rfl) rfl ?_
  refine V_if_eq (tgt := 23) (zdk tbX6_casesRefusal_0_ok 11 rfl) (by decide) (fun c4 => ?_) (fun c4 => ?_)
  · replace h := ite_t h c4
    refine V_iload_n 2 (zdk tbX6_casesRefusal_0_ok 14 rfl) rfl ?_
    refine V_bipush (v := 40) (zdk tbX6_casesRefusal_0_ok 15 rfl) rfl ?_
    refine V_icmp_le (tgt := 32) (zdk tbX6_casesRefusal_0_ok 16 rfl) (by decide) (fun c5 => ?_) (fun c5 => ?_)
    · replace h := ite_t h c5
      refine V_iconst (v := 0) (zdk tbX6_casesRefusal_0_ok 19 rfl) rfl ?_
      refine V_istore (ls' := [(0, .ref v0), (1, .int v1), (2, .int v2), (5, .int (0 : Int32))]) [1, 2, 3, 0] (zdk tbX6_casesRefusal_0_ok 20 rfl) (Nat.le_of_ble_eq_true rfl) rfl ?_
      exact tX6_casesRefusal_b35 FU v0 v1 v2 (0 : Int32) μ2 c_v0 h
    · replace h := ite_f h c5
      refine V_bipush (v := (-6)) (zdk tbX6_casesRefusal_0_ok 17 rfl) rfl ?_
      cases h
      exact V_iret (zdk tbX6_casesRefusal_0_ok 18 rfl) rfl rfl
  · replace h := ite_f h c4
    refine V_iload 3 (zdk tbX6_casesRefusal_0_ok 12 rfl) rfl ?_
    cases h
    exact V_iret (zdk tbX6_casesRefusal_0_ok 13 rfl) rfl rfl

-- WhoComplainsCarries.firstClash
def tbX6_firstClash_0 : List (Nat × Instr × Nat) := [(0, .iconst 0, 1), (1, .istore_n 2, 1), (2, .iconst 0, 1), (3, .istore_n 3, 1), (4, .iconst 0, 1), (5, .istore 4, 2), (7, .iload 4, 2), (9, .iload_n 1, 1), (10, .if_icmp .ge 60, 3), (13, .iconst 1, 1), (14, .aload_n 0, 1), (15, .iconst 2, 1), (16, .iload 4, 2), (18, .imul, 1), (19, .invokevirtual 301, 3), (22, .bipush 7, 2), (24, .iand, 1), (25, .ishl, 1), (26, .istore 5, 2), (28, .aload_n 0, 1), (29, .iconst 2, 1), (30, .iload 4, 2), (32, .imul, 1), (33, .iconst 1, 1), (34, .iadd, 1), (35, .invokevirtual 301, 3), (38, .iconst 1, 1), (39, .if_icmp .ne 11, 3), (42, .iload_n 2, 1), (43, .iload 5, 2), (45, .ior, 1), (46, .istore_n 2, 1), (47, .goto 8, 3), (50, .iload_n 3, 1), (51, .iload 5, 2), (53, .ior, 1), (54, .istore_n 3, 1), (55, .iload_n 2, 1), (56, .iload_n 3, 1), (57, .iand, 1), (58, .ifCond .eq 6, 3), (61, .iload 4, 2), (63, .ireturn, 1), (64, .iinc 4 1, 3), (67, .goto (-60), 3), (70, .iconst (-1), 1), (71, .ireturn, 1)]
theorem tbX6_firstClash_0_ok : ∀ q ∈ tbX6_firstClash_0, decode cX6_firstClash q.1 = .ok (q.2.1, q.2.2) := by decide +kernel
def fX6_firstClash_b55 (g7 : Nat → Int32 → Int32 → Int32 → Int32 → ZMem → Option (ZMem × Int32)) (n : Nat) (v0 : Nat) (v1 : Int32) (v2 : Int32) (v3 : Int32) (v4 : Int32) (μ : ZMem) : Option (ZMem × Int32) := (if (v2 &&& v3) = 0 then (g7 v0 v1 v2 v3 (v4 + (1 : Int32)) μ) else some (μ, v4))
theorem tX6_firstClash_b55 {l : Launch} {fr : Bool} {n : Nat} {z : ZMem × Int32} {g7 : Nat → Int32 → Int32 → Int32 → Int32 → ZMem → Option (ZMem × Int32)} (hg7 : ∀ (v0 : Nat) (v1 : Int32) (v2 : Int32) (v3 : Int32) (v4 : Int32) (μ : ZMem), isC n 3 v0 = true → g7 v0 v1 v2 v3 v4 μ = some z → V (zkI l mX6_firstClash (rmd 5) fr n z) fr 7 [(0, .ref v0), (1, .int v1), (2, .int v2), (3, .int v3), (4, .int v4)] [] n μ) (v0 : Nat) (v1 : Int32) (v2 : Int32) (v3 : Int32) (v4 : Int32) (μ : ZMem) (c_v0 : isC n 3 v0 = true) (h : fX6_firstClash_b55 g7 n v0 v1 v2 v3 v4 μ = some z) : V (zkI l mX6_firstClash (rmd 5) fr n z) fr 55 [(0, .ref v0), (1, .int v1), (2, .int v2), (3, .int v3), (4, .int v4)] [] n μ := by
  unfold fX6_firstClash_b55 at h
  refine V_iload_n 2 (zdk tbX6_firstClash_0_ok 37 rfl) rfl ?_
  refine V_iload_n 3 (zdk tbX6_firstClash_0_ok 38 rfl) rfl ?_
  refine V_iand (zdk tbX6_firstClash_0_ok 39 rfl) ?_
  refine V_if_eq (tgt := 64) (zdk tbX6_firstClash_0_ok 40 rfl) (by decide) (fun c1 => ?_) (fun c1 => ?_)
  · replace h := ite_t h c1
    refine V_inc (dx := 1) (ls' := [(0, .ref v0), (1, .int v1), (2, .int v2), (3, .int v3), (4, .int (v4 + (1 : Int32)))]) 4 [1, 2, 3, 4, 0] (zdk tbX6_firstClash_0_ok 43 rfl) rfl (Nat.le_of_ble_eq_true rfl) rfl rfl ?_
    refine V_goto (tgt := 7) (zdk tbX6_firstClash_0_ok 44 rfl) (by decide) ?_
    exact hg7 v0 v1 v2 v3 (v4 + (1 : Int32)) μ c_v0 h
  · replace h := ite_f h c1
    refine V_iload 4 (zdk tbX6_firstClash_0_ok 41 rfl) rfl ?_
    cases h
    exact V_iret (zdk tbX6_firstClash_0_ok 42 rfl) rfl rfl
def fX6_firstClash_b7 (n : Nat) : Nat → Nat → Int32 → Int32 → Int32 → Int32 → ZMem → Option (ZMem × Int32)
  | 0, _, _, _, _, _, _ => none
  | k + 1, v0, v1, v2, v3, v4, μ => (if v1 ≤ v4 then some (μ, (-1 : Int32)) else bd2 (fX3_intAt n v0 ((2 : Int32) * v4) μ) (fun μ3 r4 => bd2 (fX3_intAt n v0 (((2 : Int32) * v4) + (1 : Int32)) μ3) (fun μ6 r7 => (if r7 = (1 : Int32) then (fX6_firstClash_b55 (fX6_firstClash_b7 n k) n v0 v1 (v2 ||| ((1 : Int32) <<< ((r4 &&& (7 : Int32)) &&& 31))) v3 v4 μ6) else (fX6_firstClash_b55 (fX6_firstClash_b7 n k) n v0 v1 v2 (v3 ||| ((1 : Int32) <<< ((r4 &&& (7 : Int32)) &&& 31))) v4 μ6)))))
theorem tX6_firstClash_b7 {l : Launch} {fr : Bool} {n : Nat} {z : ZMem × Int32} : ∀ (k : Nat) (v0 : Nat) (v1 : Int32) (v2 : Int32) (v3 : Int32) (v4 : Int32) (μ : ZMem) (c_v0 : isC n 3 v0 = true), fX6_firstClash_b7 n k v0 v1 v2 v3 v4 μ = some z → V (zkI l mX6_firstClash (rmd 5) fr n z) fr 7 [(0, .ref v0), (1, .int v1), (2, .int v2), (3, .int v3), (4, .int v4)] [] n μ := by
  intro k
  induction k with
  | zero =>
    intro v0 v1 v2 v3 v4 μ c_v0 h
    unfold fX6_firstClash_b7 at h
    cases h
  | succ k ih =>
    intro v0 v1 v2 v3 v4 μ c_v0 h
    unfold fX6_firstClash_b7 at h
    refine V_iload 4 (zdk tbX6_firstClash_0_ok 6 rfl) rfl ?_
    refine V_iload_n 1 (zdk tbX6_firstClash_0_ok 7 rfl) rfl ?_
    refine V_icmp_ge (tgt := 70) (zdk tbX6_firstClash_0_ok 8 rfl) (by decide) (fun c1 => ?_) (fun c1 => ?_)
    · replace h := ite_t h c1
      refine V_iconst (v := (-1)) (zdk tbX6_firstClash_0_ok 45 rfl) rfl ?_
      cases h
      exact V_iret (zdk tbX6_firstClash_0_ok 46 rfl) rfl rfl
    · replace h := ite_f h c1
      refine V_iconst (v := 1) (zdk tbX6_firstClash_0_ok 9 rfl) rfl ?_
      refine V_aload_n 0 (zdk tbX6_firstClash_0_ok 10 rfl) rfl ?_
      refine V_iconst (v := 2) (zdk tbX6_firstClash_0_ok 11 rfl) rfl ?_
      refine V_iload 4 (zdk tbX6_firstClash_0_ok 12 rfl) rfl ?_
      refine V_imul (zdk tbX6_firstClash_0_ok 13 rfl) ?_
      obtain ⟨μ3, r4, q2, h⟩ := bd2_some h
      refine V_callV (R1 := (rmd 4)) (As := [.int ((2 : Int32) * v4)]) (r := (some (.int r4))) (zdk tbX6_firstClash_0_ok 14 rfl) sC6_301 (tX3_intAt q2) (c_v0) rfl rfl rfl ⟨Nat.le_of_ble_eq_true rfl, Nat.le_of_ble_eq_true rfl⟩ (Nat.le_of_ble_eq_true rfl) ⟨rfl, rfl⟩ id ?_
      refine V_bipush (v := 7) (zdk tbX6_firstClash_0_ok 15 rfl) rfl ?_
      refine V_iand (zdk tbX6_firstClash_0_ok 16 rfl) ?_
      refine V_ishl (zdk tbX6_firstClash_0_ok 17 rfl) ?_
      refine V_istore (ls' := [(0, .ref v0), (1, .int v1), (2, .int v2), (3, .int v3), (4, .int v4), (5, .int ((1 : Int32) <<< ((r4 &&& (7 : Int32)) &&& 31)))]) [1, 2, 3, 4, 5, 0] (zdk tbX6_firstClash_0_ok 18 rfl) (Nat.le_of_ble_eq_true rfl) rfl ?_
      refine V_aload_n 0 (zdk tbX6_firstClash_0_ok 19 rfl) rfl ?_
      refine V_iconst (v := 2) (zdk tbX6_firstClash_0_ok 20 rfl) rfl ?_
      refine V_iload 4 (zdk tbX6_firstClash_0_ok 21 rfl) rfl ?_
      refine V_imul (zdk tbX6_firstClash_0_ok 22 rfl) ?_
      refine V_iconst (v := 1) (zdk tbX6_firstClash_0_ok 23 rfl) rfl ?_
      refine V_iadd (zdk tbX6_firstClash_0_ok 24 rfl) ?_
      obtain ⟨μ6, r7, q5, h⟩ := bd2_some h
      refine V_callV (R1 := (rmd 4)) (As := [.int (((2 : Int32) * v4) + (1 : Int32))]) (r := (some (.int r7))) (zdk tbX6_firstClash_0_ok 25 rfl) sC6_301 (tX3_intAt q5) (c_v0) rfl rfl rfl ⟨Nat.le_of_ble_eq_true rfl, Nat.le_of_ble_eq_true rfl⟩ (Nat.le_of_ble_eq_true rfl) ⟨rfl, rfl⟩ id ?_
      refine V_iconst (v := 1) (zdk tbX6_firstClash_0_ok 26 rfl) rfl ?_
      refine V_icmp_ne (tgt := 50) (zdk tbX6_firstClash_0_ok 27 rfl) (by decide) (fun c8 => ?_) (fun c8 => ?_)
      · replace h := ite_f h c8
        refine V_iload_n 3 (zdk tbX6_firstClash_0_ok 33 rfl) rfl ?_
        refine V_iload 5 (zdk tbX6_firstClash_0_ok 34 rfl) rfl ?_
        refine V_ior (zdk tbX6_firstClash_0_ok 35 rfl) ?_
        refine V_istore_n (ls' := [(0, .ref v0), (1, .int v1), (2, .int v2), (3, .int (v3 ||| ((1 : Int32) <<< ((r4 &&& (7 : Int32)) &&& 31)))), (4, .int v4)]) [1, 2, 3, 0, 4] (zdk tbX6_firstClash_0_ok 36 rfl) (Nat.le_of_ble_eq_true rfl) rfl ?_
        exact tX6_firstClash_b55 (fun v0 v1 v2 v3 v4 μ y0 h => ih v0 v1 v2 v3 v4 μ y0 h) v0 v1 v2 (v3 ||| ((1 : Int32) <<< ((r4 &&& (7 : Int32)) &&& 31))) v4 μ6 c_v0 h
      · replace h := ite_t h c8
        refine V_iload_n 2 (zdk tbX6_firstClash_0_ok 28 rfl) rfl ?_
        refine V_iload 5 (zdk tbX6_firstClash_0_ok 29 rfl) rfl ?_
        refine V_ior (zdk tbX6_firstClash_0_ok 30 rfl) ?_
        refine V_istore_n (ls' := [(0, .ref v0), (1, .int v1), (2, .int (v2 ||| ((1 : Int32) <<< ((r4 &&& (7 : Int32)) &&& 31)))), (3, .int v3), (4, .int v4)]) [1, 2, 0, 3, 4] (zdk tbX6_firstClash_0_ok 31 rfl) (Nat.le_of_ble_eq_true rfl) rfl ?_
        refine V_goto (tgt := 55) (zdk tbX6_firstClash_0_ok 32 rfl) (by decide) ?_
        exact tX6_firstClash_b55 (fun v0 v1 v2 v3 v4 μ y0 h => ih v0 v1 v2 v3 v4 μ y0 h) v0 v1 (v2 ||| ((1 : Int32) <<< ((r4 &&& (7 : Int32)) &&& 31))) v3 v4 μ6 c_v0 h
def fX6_firstClash (n : Nat) (v0 : Nat) (v1 : Int32) (μ : ZMem) : Option (ZMem × Int32) := chk (isC n 3 v0) ((fX6_firstClash_b7 n FU v0 v1 (0 : Int32) (0 : Int32) (0 : Int32) μ))
theorem tX6_firstClash {l : Launch} {fr : Bool} {n : Nat} {v0 : Nat} {v1 : Int32} {μ : ZMem} {z : ZMem × Int32} (h : fX6_firstClash n v0 v1 μ = some z) : ZFn l mX6_firstClash (rmd 5) [.ref v0, .int v1] fr n μ (fr, n, z.1, some (.int z.2)) := by
  unfold fX6_firstClash at h
  obtain ⟨c_v0, h⟩ := chk_some h
  refine ZFn.of (ls := [(0, .ref v0), (1, .int v1)]) (by decide) (fun ξ => Nat.le_of_ble_eq_true rfl) (fun ξ => rfl) ?_
  refine V_iconst (v := 0) (zdk tbX6_firstClash_0_ok 0 rfl) rfl ?_
  refine V_istore_n (ls' := [(0, .ref v0), (1, .int v1), (2, .int (0 : Int32))]) [1, 2, 0] (zdk tbX6_firstClash_0_ok 1 rfl) (Nat.le_of_ble_eq_true rfl) rfl ?_
  refine V_iconst (v := 0) (zdk tbX6_firstClash_0_ok 2 rfl) rfl ?_
  refine V_istore_n (ls' := [(0, .ref v0), (1, .int v1), (2, .int (0 : Int32)), (3, .int (0 : Int32))]) [1, 2, 3, 0] (zdk tbX6_firstClash_0_ok 3 rfl) (Nat.le_of_ble_eq_true rfl) rfl ?_
  refine V_iconst (v := 0) (zdk tbX6_firstClash_0_ok 4 rfl) rfl ?_
  refine V_istore (ls' := [(0, .ref v0), (1, .int v1), (2, .int (0 : Int32)), (3, .int (0 : Int32)), (4, .int (0 : Int32))]) [1, 2, 3, 4, 0] (zdk tbX6_firstClash_0_ok 5 rfl) (Nat.le_of_ble_eq_true rfl) rfl ?_
  exact tX6_firstClash_b7 FU v0 v1 (0 : Int32) (0 : Int32) (0 : Int32) μ c_v0 h

-- WhoComplainsCarries.sortsTold
def tbX6_sortsTold_0 : List (Nat × Instr × Nat) := [(0, .iconst 0, 1), (1, .istore_n 3, 1), (2, .iconst 0, 1), (3, .istore 4, 2), (5, .iload 4, 2), (7, .iload_n 1, 1), (8, .if_icmp .ge 39, 3), (11, .aload_n 0, 1), (12, .iconst 2, 1), (13, .iload 4, 2), (15, .imul, 1), (16, .iconst 1, 1), (17, .iadd, 1), (18, .invokevirtual 301, 3), (21, .iload_n 2, 1), (22, .if_icmp .ne 19, 3), (25, .iload_n 3, 1), (26, .iconst 1, 1), (27, .aload_n 0, 1), (28, .iconst 2, 1), (29, .iload 4, 2), (31, .imul, 1), (32, .invokevirtual 301, 3), (35, .bipush 7, 2), (37, .iand, 1), (38, .ishl, 1), (39, .ior, 1), (40, .istore_n 3, 1), (41, .iinc 4 1, 3), (44, .goto (-39), 3), (47, .iload_n 3, 1), (48, .ireturn, 1)]
theorem tbX6_sortsTold_0_ok : ∀ q ∈ tbX6_sortsTold_0, decode cX6_sortsTold q.1 = .ok (q.2.1, q.2.2) := by decide +kernel
def fX6_sortsTold_b41 (g5 : Nat → Int32 → Int32 → Int32 → Int32 → ZMem → Option (ZMem × Int32)) (n : Nat) (v0 : Nat) (v1 : Int32) (v2 : Int32) (v3 : Int32) (v4 : Int32) (μ : ZMem) : Option (ZMem × Int32) := (g5 v0 v1 v2 v3 (v4 + (1 : Int32)) μ)
theorem tX6_sortsTold_b41 {l : Launch} {fr : Bool} {n : Nat} {z : ZMem × Int32} {g5 : Nat → Int32 → Int32 → Int32 → Int32 → ZMem → Option (ZMem × Int32)} (hg5 : ∀ (v0 : Nat) (v1 : Int32) (v2 : Int32) (v3 : Int32) (v4 : Int32) (μ : ZMem), isC n 3 v0 = true → g5 v0 v1 v2 v3 v4 μ = some z → V (zkI l mX6_sortsTold (rmd 5) fr n z) fr 5 [(0, .ref v0), (1, .int v1), (2, .int v2), (3, .int v3), (4, .int v4)] [] n μ) (v0 : Nat) (v1 : Int32) (v2 : Int32) (v3 : Int32) (v4 : Int32) (μ : ZMem) (c_v0 : isC n 3 v0 = true) (h : fX6_sortsTold_b41 g5 n v0 v1 v2 v3 v4 μ = some z) : V (zkI l mX6_sortsTold (rmd 5) fr n z) fr 41 [(0, .ref v0), (1, .int v1), (2, .int v2), (3, .int v3), (4, .int v4)] [] n μ := by
  unfold fX6_sortsTold_b41 at h
  refine V_inc (dx := 1) (ls' := [(0, .ref v0), (1, .int v1), (2, .int v2), (3, .int v3), (4, .int (v4 + (1 : Int32)))]) 4 [1, 2, 3, 4, 0] (zdk tbX6_sortsTold_0_ok 28 rfl) rfl (Nat.le_of_ble_eq_true rfl) rfl rfl ?_
  refine V_goto (tgt := 5) (zdk tbX6_sortsTold_0_ok 29 rfl) (by decide) ?_
  exact hg5 v0 v1 v2 v3 (v4 + (1 : Int32)) μ c_v0 h
def fX6_sortsTold_b5 (n : Nat) : Nat → Nat → Int32 → Int32 → Int32 → Int32 → ZMem → Option (ZMem × Int32)
  | 0, _, _, _, _, _, _ => none
  | k + 1, v0, v1, v2, v3, v4, μ => (if v1 ≤ v4 then some (μ, v3) else bd2 (fX3_intAt n v0 (((2 : Int32) * v4) + (1 : Int32)) μ) (fun μ3 r4 => (if r4 = v2 then bd2 (fX3_intAt n v0 ((2 : Int32) * v4) μ3) (fun μ7 r8 => (fX6_sortsTold_b41 (fX6_sortsTold_b5 n k) n v0 v1 v2 (v3 ||| ((1 : Int32) <<< ((r8 &&& (7 : Int32)) &&& 31))) v4 μ7)) else (fX6_sortsTold_b41 (fX6_sortsTold_b5 n k) n v0 v1 v2 v3 v4 μ3))))
theorem tX6_sortsTold_b5 {l : Launch} {fr : Bool} {n : Nat} {z : ZMem × Int32} : ∀ (k : Nat) (v0 : Nat) (v1 : Int32) (v2 : Int32) (v3 : Int32) (v4 : Int32) (μ : ZMem) (c_v0 : isC n 3 v0 = true), fX6_sortsTold_b5 n k v0 v1 v2 v3 v4 μ = some z → V (zkI l mX6_sortsTold (rmd 5) fr n z) fr 5 [(0, .ref v0), (1, .int v1), (2, .int v2), (3, .int v3), (4, .int v4)] [] n μ := by
  intro k
  induction k with
  | zero =>
    intro v0 v1 v2 v3 v4 μ c_v0 h
    unfold fX6_sortsTold_b5 at h
    cases h
  | succ k ih =>
    intro v0 v1 v2 v3 v4 μ c_v0 h
    unfold fX6_sortsTold_b5 at h
    refine V_iload 4 (zdk tbX6_sortsTold_0_ok 4 rfl) rfl ?_
    refine V_iload_n 1 (zdk tbX6_sortsTold_0_ok 5 rfl) rfl ?_
    refine V_icmp_ge (tgt := 47) (zdk tbX6_sortsTold_0_ok 6 rfl) (by decide) (fun c1 => ?_) (fun c1 => ?_)
    · replace h := ite_t h c1
      refine V_iload_n 3 (zdk tbX6_sortsTold_0_ok 30 rfl) rfl ?_
      cases h
      exact V_iret (zdk tbX6_sortsTold_0_ok 31 rfl) rfl rfl
    · replace h := ite_f h c1
      refine V_aload_n 0 (zdk tbX6_sortsTold_0_ok 7 rfl) rfl ?_
      refine V_iconst (v := 2) (zdk tbX6_sortsTold_0_ok 8 rfl) rfl ?_
      refine V_iload 4 (zdk tbX6_sortsTold_0_ok 9 rfl) rfl ?_
      refine V_imul (zdk tbX6_sortsTold_0_ok 10 rfl) ?_
      refine V_iconst (v := 1) (zdk tbX6_sortsTold_0_ok 11 rfl) rfl ?_
      refine V_iadd (zdk tbX6_sortsTold_0_ok 12 rfl) ?_
      obtain ⟨μ3, r4, q2, h⟩ := bd2_some h
      refine V_callV (R1 := (rmd 4)) (As := [.int (((2 : Int32) * v4) + (1 : Int32))]) (r := (some (.int r4))) (zdk tbX6_sortsTold_0_ok 13 rfl) sC6_301 (tX3_intAt q2) (c_v0) rfl rfl rfl ⟨Nat.le_of_ble_eq_true rfl, Nat.le_of_ble_eq_true rfl⟩ (Nat.le_of_ble_eq_true rfl) ⟨rfl, rfl⟩ id ?_
      refine V_iload_n 2 (zdk tbX6_sortsTold_0_ok 14 rfl) rfl ?_
      refine V_icmp_ne (tgt := 41) (zdk tbX6_sortsTold_0_ok 15 rfl) (by decide) (fun c5 => ?_) (fun c5 => ?_)
      · replace h := ite_f h c5
        exact tX6_sortsTold_b41 (fun v0 v1 v2 v3 v4 μ y0 h => ih v0 v1 v2 v3 v4 μ y0 h) v0 v1 v2 v3 v4 μ3 c_v0 h
      · replace h := ite_t h c5
        refine V_iload_n 3 (zdk tbX6_sortsTold_0_ok 16 rfl) rfl ?_
        refine V_iconst (v := 1) (zdk tbX6_sortsTold_0_ok 17 rfl) rfl ?_
        refine V_aload_n 0 (zdk tbX6_sortsTold_0_ok 18 rfl) rfl ?_
        refine V_iconst (v := 2) (zdk tbX6_sortsTold_0_ok 19 rfl) rfl ?_
        refine V_iload 4 (zdk tbX6_sortsTold_0_ok 20 rfl) rfl ?_
        refine V_imul (zdk tbX6_sortsTold_0_ok 21 rfl) ?_
        obtain ⟨μ7, r8, q6, h⟩ := bd2_some h
        refine V_callV (R1 := (rmd 4)) (As := [.int ((2 : Int32) * v4)]) (r := (some (.int r8))) (zdk tbX6_sortsTold_0_ok 22 rfl) sC6_301 (tX3_intAt q6) (c_v0) rfl rfl rfl ⟨Nat.le_of_ble_eq_true rfl, Nat.le_of_ble_eq_true rfl⟩ (Nat.le_of_ble_eq_true rfl) ⟨rfl, rfl⟩ id ?_
        refine V_bipush (v := 7) (zdk tbX6_sortsTold_0_ok 23 rfl) rfl ?_
        refine V_iand (zdk tbX6_sortsTold_0_ok 24 rfl) ?_
        refine V_ishl (zdk tbX6_sortsTold_0_ok 25 rfl) ?_
        refine V_ior (zdk tbX6_sortsTold_0_ok 26 rfl) ?_
        refine V_istore_n (ls' := [(0, .ref v0), (1, .int v1), (2, .int v2), (3, .int (v3 ||| ((1 : Int32) <<< ((r8 &&& (7 : Int32)) &&& 31)))), (4, .int v4)]) [1, 2, 3, 0, 4] (zdk tbX6_sortsTold_0_ok 27 rfl) (Nat.le_of_ble_eq_true rfl) rfl ?_
        exact tX6_sortsTold_b41 (fun v0 v1 v2 v3 v4 μ y0 h => ih v0 v1 v2 v3 v4 μ y0 h) v0 v1 v2 (v3 ||| ((1 : Int32) <<< ((r8 &&& (7 : Int32)) &&& 31))) v4 μ7 c_v0 h
def fX6_sortsTold (n : Nat) (v0 : Nat) (v1 : Int32) (v2 : Int32) (μ : ZMem) : Option (ZMem × Int32) := chk (isC n 3 v0) ((fX6_sortsTold_b5 n FU v0 v1 v2 (0 : Int32) (0 : Int32) μ))
theorem tX6_sortsTold {l : Launch} {fr : Bool} {n : Nat} {v0 : Nat} {v1 : Int32} {v2 : Int32} {μ : ZMem} {z : ZMem × Int32} (h : fX6_sortsTold n v0 v1 v2 μ = some z) : ZFn l mX6_sortsTold (rmd 5) [.ref v0, .int v1, .int v2] fr n μ (fr, n, z.1, some (.int z.2)) := by
  unfold fX6_sortsTold at h
  obtain ⟨c_v0, h⟩ := chk_some h
  refine ZFn.of (ls := [(0, .ref v0), (1, .int v1), (2, .int v2)]) (by decide) (fun ξ => Nat.le_of_ble_eq_true rfl) (fun ξ => rfl) ?_
  refine V_iconst (v := 0) (zdk tbX6_sortsTold_0_ok 0 rfl) rfl ?_
  refine V_istore_n (ls' := [(0, .ref v0), (1, .int v1), (2, .int v2), (3, .int (0 : Int32))]) [1, 2, 3, 0] (zdk tbX6_sortsTold_0_ok 1 rfl) (Nat.le_of_ble_eq_true rfl) rfl ?_
  refine V_iconst (v := 0) (zdk tbX6_sortsTold_0_ok 2 rfl) rfl ?_
  refine V_istore (ls' := [(0, .ref v0), (1, .int v1), (2, .int v2), (3, .int (0 : Int32)), (4, .int (0 : Int32))]) [1, 2, 3, 4, 0] (zdk tbX6_sortsTold_0_ok 3 rfl) (Nat.le_of_ble_eq_true rfl) rfl ?_
  exact tX6_sortsTold_b5 FU v0 v1 v2 (0 : Int32) (0 : Int32) μ c_v0 h

-- WhoComplainsCarries.cases
def tbX6_cases_0 : List (Nat × Instr × Nat) := [(0, .aload_n 0, 1), (1, .iload_n 1, 1), (2, .iload_n 2, 1), (3, .iload_n 3, 1), (4, .iconst 0, 1), (5, .iconst 1, 1), (6, .invokestatic 153, 3), (9, .invokevirtual 226, 3), (12, .istore 4, 2), (14, .iload 4, 2), (16, .ifCond .eq 10, 3), (19, .aload_n 0, 1), (20, .iload 4, 2), (22, .invokevirtual 173, 3), (25, .ireturn, 1), (26, .aload_n 0, 1), (27, .getfield 11, 3), (30, .iload_n 1, 1), (31, .aaload, 1), (32, .iload_n 2, 1), (33, .invokestatic 230, 3), (36, .iconst (-1), 1), (37, .if_icmp .eq 5, 3), (40, .iconst (-1), 1), (41, .ireturn, 1), (42, .iload_n 3, 1), (43, .ifCond .ne 17, 3), (46, .aload_n 0, 1), (47, .getfield 11, 3), (50, .iload_n 1, 1), (51, .aaload, 1), (52, .iload_n 2, 1), (53, .iconst 1, 1), (54, .invokestatic 234, 3), (57, .goto 17, 3), (60, .bipush 31, 2), (62, .aload_n 0, 1), (63, .getfield 11, 3), (66, .iload_n 1, 1), (67, .aaload, 1), (68, .iload_n 2, 1), (69, .iconst 0, 1), (70, .invokestatic 234, 3), (73, .isub, 1), (74, .ireturn, 1)]
theorem tbX6_cases_0_ok : ∀ q ∈ tbX6_cases_0, decode cX6_cases q.1 = .ok (q.2.1, q.2.2) := by decide +kernel
theorem wCX6_casesRefusal : zCW mX6_casesRefusal 3 := ⟨zin (i := 1) (by decide +kernel) rfl, zin (i := 654) (by decide +kernel) rfl, by decide +kernel, by decide +kernel, by decide +kernel⟩
theorem sC6_226 : zCV RX6 226 mX6_casesRefusal 3 := ⟨zin (i := 651) (by decide +kernel) rfl, zin (i := 653) (by decide +kernel) rfl, zinP (i := 19) (q := (yX6_casesRefusal, 10)) (by decide +kernel) rfl, wCX6_casesRefusal⟩
theorem wCX6_firstClash : zCW mX6_firstClash 2 := ⟨zin (i := 1) (by decide +kernel) rfl, zin (i := 663) (by decide +kernel) rfl, by decide +kernel, by decide +kernel, by decide +kernel⟩
theorem sC6_230 : zCS RX6 230 mX6_firstClash 2 := ⟨zin (i := 661) (by decide +kernel) rfl, zin (i := 662) (by decide +kernel) rfl, wCX6_firstClash⟩
theorem wCX6_sortsTold : zCW mX6_sortsTold 3 := ⟨zin (i := 1) (by decide +kernel) rfl, zin (i := 666) (by decide +kernel) rfl, by decide +kernel, by decide +kernel, by decide +kernel⟩
theorem sC6_234 : zCS RX6 234 mX6_sortsTold 3 := ⟨zin (i := 664) (by decide +kernel) rfl, zin (i := 665) (by decide +kernel) rfl, wCX6_sortsTold⟩
def fX6_cases_b74 (n : Nat) (s0 : Int32) (μ : ZMem) : Option (ZMem × Int32) := some (μ, s0)
theorem tX6_cases_b74 {l : Launch} {fr : Bool} {n : Nat} {z : ZMem × Int32} (s0 : Int32) (μ : ZMem) (h : fX6_cases_b74 n s0 μ = some z) : V (zkI l mX6_cases (rmd 6) fr n z) fr 74 [] [.int s0] n μ := by
  unfold fX6_cases_b74 at h
  cases h
  exact V_iret (zdk tbX6_cases_0_ok 44 rfl) rfl rfl
def fX6_cases (n : Nat) (v0 : Nat) (v1 : Int32) (v2 : Int32) (v3 : Int32) (μ : ZMem) : Option (ZMem × Int32) := chk (isC n 6 v0) (bd2 (fX6_isIn n v3 (0 : Int32) (1 : Int32) μ) (fun μ2 r3 => bd2 (fX6_casesRefusal n v0 v1 v2 r3 μ2) (fun μ5 r6 => (if r6 = 0 then bd1 (zRc n 104 μ5 v0 0) (fun r8 => chk (inb v1 r8) (bd1 (zRc n 3 μ5 r8 v1.toNatClampNeg) (fun r11 => bd2 (fX6_firstClash n r11 v2 μ5) (fun μ14 r15 => (if r15 = (-1 : Int32) then (if v3 = 0 then bd1 (zRc n 104 μ14 v0 0) (fun r26 => chk (inb v1 r26) (bd1 (zRc n 3 μ14 r26 v1.toNatClampNeg) (fun r29 => bd2 (fX6_sortsTold n r29 v2 (1 : Int32) μ14) (fun μ32 r33 => (fX6_cases_b74 n r33 μ32))))) else bd1 (zRc n 104 μ14 v0 0) (fun r18 => chk (inb v1 r18) (bd1 (zRc n 3 μ14 r18 v1.toNatClampNeg) (fun r21 => bd2 (fX6_sortsTold n r21 v2 (0 : Int32) μ14) (fun μ24 r25 => (fX6_cases_b74 n ((31 : Int32) - r25) μ24)))))) else some (μ14, (-1 : Int32))))))) else bd2 (fX6_refuseFar n v0 r6 μ5) (fun μ35 r36 => some (μ35, r36))))))
theorem tX6_cases {l : Launch} {fr : Bool} {n : Nat} {v0 : Nat} {v1 : Int32} {v2 : Int32} {v3 : Int32} {μ : ZMem} {z : ZMem × Int32} (h : fX6_cases n v0 v1 v2 v3 μ = some z) : ZFn l mX6_cases (rmd 6) [.ref v0, .int v1, .int v2, .int v3] fr n μ (fr, n, z.1, some (.int z.2)) := by
  unfold fX6_cases at h
  obtain ⟨c_v0, h⟩ := chk_some h
  refine ZFn.of (ls := [(0, .ref v0), (1, .int v1), (2, .int v2), (3, .int v3)]) (by decide) (fun ξ => Nat.le_of_ble_eq_true rfl) (fun ξ => rfl) ?_
  refine V_aload_n 0 (zdk tbX6_cases_0_ok 0 rfl) rfl ?_
  refine V_iload_n 1 (zdk tbX6_cases_0_ok 1 rfl) rfl ?_
  refine V_iload_n 2 (zdk tbX6_cases_0_ok 2 rfl) rfl ?_
  refine V_iload_n 3 (zdk tbX6_cases_0_ok 3 rfl) rfl ?_
  refine V_iconst (v := 0) (zdk tbX6_cases_0_ok 4 rfl) rfl ?_
  refine V_iconst (v := 1) (zdk tbX6_cases_0_ok 5 rfl) rfl ?_
  obtain ⟨μ2, r3, q1, h⟩ := bd2_some h
  refine V_callS (R1 := (rmd 1)) (As := [.int v3, .int (0 : Int32), .int (1 : Int32)]) (r := (some (.int r3))) (zdk tbX6_cases_0_ok 6 rfl) sC6_153 (tX6_isIn q1) rfl rfl ⟨Nat.le_of_ble_eq_true rfl, Nat.le_of_ble_eq_true rfl⟩ (Nat.le_of_ble_eq_true rfl) ⟨rfl, rfl⟩ id ?_
  obtain ⟨μ5, r6, q4, h⟩ := bd2_some h
  refine V_callV (R1 := (rmd 5)) (As := [.int v1, .int v2, .int r3]) (r := (some (.int r6))) (zdk tbX6_cases_0_ok 7 rfl) sC6_226 (tX6_casesRefusal q4) (c_v0) rfl rfl rfl ⟨Nat.le_of_ble_eq_true rfl, Nat.le_of_ble_eq_true rfl⟩ (Nat.le_of_ble_eq_true rfl) ⟨rfl, rfl⟩ id ?_
  refine V_istore (ls' := [(0, .ref v0), (1, .int v1), (2, .int v2), (3, .int v3), (4, .int r6)]) [1, 2, 3, 4, 0] (zdk tbX6_cases_0_ok 8 rfl) (Nat.le_of_ble_eq_true rfl) rfl ?_
  refine V_iload 4 (zdk tbX6_cases_0_ok 9 rfl) rfl ?_
  refine V_if_eq (tgt := 26) (zdk tbX6_cases_0_ok 10 rfl) (by decide) (fun c7 => ?_) (fun c7 => ?_)
  · replace h := ite_t h c7
    refine V_aload_n 0 (zdk tbX6_cases_0_ok 15 rfl) rfl ?_
    obtain ⟨r8, q9, h⟩ := bd1_some h
    obtain ⟨q9, c_r8⟩ := zRc_some q9
    refine V_getR (zdk tbX6_cases_0_ok 16 rfl) c_v0 fF6_11 rfl q9 ?_
    refine V_iload_n 1 (zdk tbX6_cases_0_ok 17 rfl) rfl ?_
    obtain ⟨b10, h⟩ := chk_some h
    obtain ⟨r11, q12, h⟩ := bd1_some h
    obtain ⟨q12, c_r11⟩ := zRc_some q12
    refine V_aald4 (zdk tbX6_cases_0_ok 18 rfl) c_r8 b10 q12 ?_
    refine V_iload_n 2 (zdk tbX6_cases_0_ok 19 rfl) rfl ?_
    obtain ⟨μ14, r15, q13, h⟩ := bd2_some h
    refine V_callS (R1 := (rmd 5)) (As := [.ref r11, .int v2]) (r := (some (.int r15))) (zdk tbX6_cases_0_ok 20 rfl) sC6_230 (tX6_firstClash q13) rfl rfl ⟨Nat.le_of_ble_eq_true rfl, Nat.le_of_ble_eq_true rfl⟩ (Nat.le_of_ble_eq_true rfl) ⟨rfl, rfl⟩ id ?_
    refine V_iconst (v := (-1)) (zdk tbX6_cases_0_ok 21 rfl) rfl ?_
    refine V_icmp_eq (tgt := 42) (zdk tbX6_cases_0_ok 22 rfl) (by decide) (fun c16 => ?_) (fun c16 => ?_)
    · replace h := ite_t h c16
      refine V_iload_n 3 (zdk tbX6_cases_0_ok 25 rfl) rfl ?_
      refine V_if_ne (tgt := 60) (zdk tbX6_cases_0_ok 26 rfl) (by decide) (fun c17 => ?_) (fun c17 => ?_)
      · replace h := ite_f h c17
        refine V_bipush (v := 31) (zdk tbX6_cases_0_ok 35 rfl) rfl ?_
        refine V_aload_n 0 (zdk tbX6_cases_0_ok 36 rfl) rfl ?_
        obtain ⟨r18, q19, h⟩ := bd1_some h
        obtain ⟨q19, c_r18⟩ := zRc_some q19
        refine V_getR (zdk tbX6_cases_0_ok 37 rfl) c_v0 fF6_11 rfl q19 ?_
        refine V_iload_n 1 (zdk tbX6_cases_0_ok 38 rfl) rfl ?_
        obtain ⟨b20, h⟩ := chk_some h
        obtain ⟨r21, q22, h⟩ := bd1_some h
        obtain ⟨q22, c_r21⟩ := zRc_some q22
        refine V_aald4 (zdk tbX6_cases_0_ok 39 rfl) c_r18 b20 q22 ?_
        refine V_iload_n 2 (zdk tbX6_cases_0_ok 40 rfl) rfl ?_
        refine V_iconst (v := 0) (zdk tbX6_cases_0_ok 41 rfl) rfl ?_
        obtain ⟨μ24, r25, q23, h⟩ := bd2_some h
        refine V_callS (R1 := (rmd 5)) (As := [.ref r21, .int v2, .int (0 : Int32)]) (r := (some (.int r25))) (zdk tbX6_cases_0_ok 42 rfl) sC6_234 (tX6_sortsTold q23) rfl rfl ⟨Nat.le_of_ble_eq_true rfl, Nat.le_of_ble_eq_true rfl⟩ (Nat.le_of_ble_eq_true rfl) ⟨rfl, rfl⟩ id ?_
        refine V_isub (zdk tbX6_cases_0_ok 43 rfl) ?_
        refine V_sub (ls' := []) [] rfl ?_
        exact tX6_cases_b74 ((31 : Int32) - r25) μ24  h
      · replace h := ite_t h c17
        refine V_aload_n 0 (zdk tbX6_cases_0_ok 27 rfl) rfl ?_
        obtain ⟨r26, q27, h⟩ := bd1_some h
        obtain ⟨q27, c_r26⟩ := zRc_some q27
        refine V_getR (zdk tbX6_cases_0_ok 28 rfl) c_v0 fF6_11 rfl q27 ?_
        refine V_iload_n 1 (zdk tbX6_cases_0_ok 29 rfl) rfl ?_
        obtain ⟨b28, h⟩ := chk_some h
        obtain ⟨r29, q30, h⟩ := bd1_some h
        obtain ⟨q30, c_r29⟩ := zRc_some q30
        refine V_aald4 (zdk tbX6_cases_0_ok 30 rfl) c_r26 b28 q30 ?_
        refine V_iload_n 2 (zdk tbX6_cases_0_ok 31 rfl) rfl ?_
        refine V_iconst (v := 1) (zdk tbX6_cases_0_ok 32 rfl) rfl ?_
        obtain ⟨μ32, r33, q31, h⟩ := bd2_some h
        refine V_callS (R1 := (rmd 5)) (As := [.ref r29, .int v2, .int (1 : Int32)]) (r := (some (.int r33))) (zdk tbX6_cases_0_ok 33 rfl) sC6_234 (tX6_sortsTold q31) rfl rfl ⟨Nat.le_of_ble_eq_true rfl, Nat.le_of_ble_eq_true rfl⟩ (Nat.le_of_ble_eq_true rfl) ⟨rfl, rfl⟩ id ?_
        refine V_goto (tgt := 74) (zdk tbX6_cases_0_ok 34 rfl) (by decide) ?_
        refine V_sub (ls' := []) [] rfl ?_
        exact tX6_cases_b74 r33 μ32  h
    · replace h := ite_f h c16
      refine V_iconst (v := (-1)) (zdk tbX6_cases_0_ok 23 rfl) rfl ?_
      cases h
      exact V_iret (zdk tbX6_cases_0_ok 24 rfl) rfl rfl
  · replace h := ite_f h c7
    refine V_aload_n 0 (zdk tbX6_cases_0_ok 11 rfl) rfl ?_
    refine V_iload 4 (zdk tbX6_cases_0_ok 12 rfl) rfl ?_
    obtain ⟨μ35, r36, q34, h⟩ := bd2_some h
    refine V_callV (R1 := (rmd 3)) (As := [.int r6]) (r := (some (.int r36))) (zdk tbX6_cases_0_ok 13 rfl) sC6_173 (tX6_refuseFar q34) (c_v0) rfl rfl rfl ⟨Nat.le_of_ble_eq_true rfl, Nat.le_of_ble_eq_true rfl⟩ (Nat.le_of_ble_eq_true rfl) ⟨rfl, rfl⟩ id ?_
    cases h
    exact V_iret (zdk tbX6_cases_0_ok 14 rfl) rfl rfl

-- WhoComplainsCarries.clash
def tbX6_clash_0 : List (Nat × Instr × Nat) := [(0, .aload_n 0, 1), (1, .iload_n 1, 1), (2, .iload_n 2, 1), (3, .iconst 1, 1), (4, .invokevirtual 226, 3), (7, .istore_n 3, 1), (8, .iload_n 3, 1), (9, .ifCond .eq 9, 3), (12, .aload_n 0, 1), (13, .iload_n 3, 1), (14, .invokevirtual 173, 3), (17, .ireturn, 1), (18, .aload_n 0, 1), (19, .getfield 11, 3), (22, .iload_n 1, 1), (23, .aaload, 1), (24, .iload_n 2, 1), (25, .invokestatic 230, 3), (28, .ireturn, 1)]
theorem tbX6_clash_0_ok : ∀ q ∈ tbX6_clash_0, decode cX6_clash q.1 = .ok (q.2.1, q.2.2) := by decide +kernel
def fX6_clash (n : Nat) (v0 : Nat) (v1 : Int32) (v2 : Int32) (μ : ZMem) : Option (ZMem × Int32) := chk (isC n 6 v0) (bd2 (fX6_casesRefusal n v0 v1 v2 (1 : Int32) μ) (fun μ2 r3 => (if r3 = 0 then bd1 (zRc n 104 μ2 v0 0) (fun r5 => chk (inb v1 r5) (bd1 (zRc n 3 μ2 r5 v1.toNatClampNeg) (fun r8 => bd2 (fX6_firstClash n r8 v2 μ2) (fun μ11 r12 => some (μ11, r12))))) else bd2 (fX6_refuseFar n v0 r3 μ2) (fun μ14 r15 => some (μ14, r15)))))
theorem tX6_clash {l : Launch} {fr : Bool} {n : Nat} {v0 : Nat} {v1 : Int32} {v2 : Int32} {μ : ZMem} {z : ZMem × Int32} (h : fX6_clash n v0 v1 v2 μ = some z) : ZFn l mX6_clash (rmd 6) [.ref v0, .int v1, .int v2] fr n μ (fr, n, z.1, some (.int z.2)) := by
  unfold fX6_clash at h
  obtain ⟨c_v0, h⟩ := chk_some h
  refine ZFn.of (ls := [(0, .ref v0), (1, .int v1), (2, .int v2)]) (by decide) (fun ξ => Nat.le_of_ble_eq_true rfl) (fun ξ => rfl) ?_
  refine V_aload_n 0 (zdk tbX6_clash_0_ok 0 rfl) rfl ?_
  refine V_iload_n 1 (zdk tbX6_clash_0_ok 1 rfl) rfl ?_
  refine V_iload_n 2 (zdk tbX6_clash_0_ok 2 rfl) rfl ?_
  refine V_iconst (v := 1) (zdk tbX6_clash_0_ok 3 rfl) rfl ?_
  obtain ⟨μ2, r3, q1, h⟩ := bd2_some h
  refine V_callV (R1 := (rmd 5)) (As := [.int v1, .int v2, .int (1 : Int32)]) (r := (some (.int r3))) (zdk tbX6_clash_0_ok 4 rfl) sC6_226 (tX6_casesRefusal q1) (c_v0) rfl rfl rfl ⟨Nat.le_of_ble_eq_true rfl, Nat.le_of_ble_eq_true rfl⟩ (Nat.le_of_ble_eq_true rfl) ⟨rfl, rfl⟩ id ?_
  refine V_istore_n (ls' := [(0, .ref v0), (1, .int v1), (2, .int v2), (3, .int r3)]) [1, 2, 3, 0] (zdk tbX6_clash_0_ok 5 rfl) (Nat.le_of_ble_eq_true rfl) rfl ?_
  refine V_iload_n 3 (zdk tbX6_clash_0_ok 6 rfl) rfl ?_
  refine V_if_eq (tgt := 18) (zdk tbX6_clash_0_ok 7 rfl) (by decide) (fun c4 => ?_) (fun c4 => ?_)
  · replace h := ite_t h c4
    refine V_aload_n 0 (zdk tbX6_clash_0_ok 12 rfl) rfl ?_
    obtain ⟨r5, q6, h⟩ := bd1_some h
    obtain ⟨q6, c_r5⟩ := zRc_some q6
    refine V_getR (zdk tbX6_clash_0_ok 13 rfl) c_v0 fF6_11 rfl q6 ?_
    refine V_iload_n 1 (zdk tbX6_clash_0_ok 14 rfl) rfl ?_
    obtain ⟨b7, h⟩ := chk_some h
    obtain ⟨r8, q9, h⟩ := bd1_some h
    obtain ⟨q9, c_r8⟩ := zRc_some q9
    refine V_aald4 (zdk tbX6_clash_0_ok 15 rfl) c_r5 b7 q9 ?_
    refine V_iload_n 2 (zdk tbX6_clash_0_ok 16 rfl) rfl ?_
    obtain ⟨μ11, r12, q10, h⟩ := bd2_some h
    refine V_callS (R1 := (rmd 5)) (As := [.ref r8, .int v2]) (r := (some (.int r12))) (zdk tbX6_clash_0_ok 17 rfl) sC6_230 (tX6_firstClash q10) rfl rfl ⟨Nat.le_of_ble_eq_true rfl, Nat.le_of_ble_eq_true rfl⟩ (Nat.le_of_ble_eq_true rfl) ⟨rfl, rfl⟩ id ?_
    cases h
    exact V_iret (zdk tbX6_clash_0_ok 18 rfl) rfl rfl
  · replace h := ite_f h c4
    refine V_aload_n 0 (zdk tbX6_clash_0_ok 8 rfl) rfl ?_
    refine V_iload_n 3 (zdk tbX6_clash_0_ok 9 rfl) rfl ?_
    obtain ⟨μ14, r15, q13, h⟩ := bd2_some h
    refine V_callV (R1 := (rmd 3)) (As := [.int r3]) (r := (some (.int r15))) (zdk tbX6_clash_0_ok 10 rfl) sC6_173 (tX6_refuseFar q13) (c_v0) rfl rfl rfl ⟨Nat.le_of_ble_eq_true rfl, Nat.le_of_ble_eq_true rfl⟩ (Nat.le_of_ble_eq_true rfl) ⟨rfl, rfl⟩ id ?_
    cases h
    exact V_iret (zdk tbX6_clash_0_ok 11 rfl) rfl rfl

-- WhoComplainsCarries.goesAsTold
def tbX6_goesAsTold_0 : List (Nat × Instr × Nat) := [(0, .aload_n 0, 1), (1, .getfield 26, 3), (4, .aload_n 0, 1), (5, .getfield 19, 3), (8, .invokevirtual 196, 3), (11, .aload_n 0, 1), (12, .getfield 26, 3), (15, .iload_n 1, 1), (16, .putfield 176, 3), (19, .iconst 0, 1), (20, .istore 4, 2), (22, .iload 4, 2), (24, .iload_n 3, 1), (25, .if_icmp .ge 43, 3), (28, .aload_n 0, 1), (29, .getfield 26, 3), (32, .iconst (-1), 1), (33, .invokevirtual 304, 3), (36, .aload_n 0, 1), (37, .getfield 26, 3), (40, .getfield 164, 3), (43, .aload_n 0, 1), (44, .getfield 19, 3), (47, .getfield 164, 3), (50, .isub, 1), (51, .aload_n 2, 1), (52, .iload 4, 2), (54, .invokevirtual 301, 3), (57, .if_icmp .eq 5, 3), (60, .iconst 0, 1), (61, .ireturn, 1), (62, .iinc 4 1, 3), (65, .goto (-43), 3), (68, .iconst 1, 1), (69, .ireturn, 1)]
theorem tbX6_goesAsTold_0_ok : ∀ q ∈ tbX6_goesAsTold_0, decode cX6_goesAsTold q.1 = .ok (q.2.1, q.2.2) := by decide +kernel
theorem sC6_304 : zCV RX6 304 mX4_step 1 := ⟨zin (i := 679) (by decide +kernel) rfl, zin (i := 564) (by decide +kernel) rfl, zin (i := 565) (by decide +kernel) rfl, wCX4_step⟩
def fX6_goesAsTold_b22 (n : Nat) : Nat → Nat → Nat → Int32 → Int32 → ZMem → Option (ZMem × Int32)
  | 0, _, _, _, _, _ => none
  | k + 1, v0, v2, v3, v4, μ => (if v3 ≤ v4 then some (μ, (1 : Int32)) else bd1 (zRc n 4 μ v0 3) (fun r2 => bd1 (fX4_step n r2 (-1 : Int32) μ) (fun μ5 => bd1 (zRc n 4 μ5 v0 3) (fun r6 => bd1 (zRc n 4 μ5 v0 1) (fun r8 => bd2 (fX3_intAt n v2 v4 μ5) (fun μ11 r12 => (if ((zI μ5 r6 4) - (zI μ5 r8 4)) = r12 then (fX6_goesAsTold_b22 n k v0 v2 v3 (v4 + (1 : Int32)) μ11) else some (μ11, (0 : Int32)))))))))
theorem tX6_goesAsTold_b22 {l : Launch} {fr : Bool} {n : Nat} {z : ZMem × Int32} : ∀ (k : Nat) (v0 : Nat) (v2 : Nat) (v3 : Int32) (v4 : Int32) (μ : ZMem) (c_v0 : isC n 6 v0 = true) (c_v2 : isC n 3 v2 = true), fX6_goesAsTold_b22 n k v0 v2 v3 v4 μ = some z → V (zkI l mX6_goesAsTold (rmd 5) fr n z) fr 22 [(0, .ref v0), (2, .ref v2), (3, .int v3), (4, .int v4)] [] n μ := by
  intro k
  induction k with
  | zero =>
    intro v0 v2 v3 v4 μ c_v0 c_v2 h
    unfold fX6_goesAsTold_b22 at h
    cases h
  | succ k ih =>
    intro v0 v2 v3 v4 μ c_v0 c_v2 h
    unfold fX6_goesAsTold_b22 at h
    refine V_iload 3 (zdk tbX6_goesAsTold_0_ok 11 rfl) rfl ?_
    refine V_iload_n 2 (zdk tbX6_goesAsTold_0_ok 12 rfl) rfl ?_
    refine V_icmp_ge (tgt := 68) (zdk tbX6_goesAsTold_0_ok 13 rfl) (by decide) (fun c1 => ?_) (fun c1 => ?_)
    · replace h := ite_t h c1
      refine V_iconst (v := 1) (zdk tbX6_goesAsTold_0_ok 33 rfl) rfl ?_
      cases h
      exact V_zret (zdk tbX6_goesAsTold_0_ok 34 rfl) rfl (by decide) rfl
    · replace h := ite_f h c1
      refine V_aload_n 0 (zdk tbX6_goesAsTold_0_ok 14 rfl) rfl ?_
      obtain ⟨r2, q3, h⟩ := bd1_some h
      obtain ⟨q3, c_r2⟩ := zRc_some q3
      refine V_getR (zdk tbX6_goesAsTold_0_ok 15 rfl) c_v0 fF6_26 rfl q3 ?_
      refine V_iconst (v := (-1)) (zdk tbX6_goesAsTold_0_ok 16 rfl) rfl ?_
      obtain ⟨μ5, q4, h⟩ := bd1_some h
      refine V_callV (R1 := (rmd 4)) (As := [.int (-1 : Int32)]) (r := none) (zdk tbX6_goesAsTold_0_ok 17 rfl) sC6_304 (tX4_step q4) (c_r2) rfl rfl rfl ⟨Nat.le_of_ble_eq_true rfl, Nat.le_of_ble_eq_true rfl⟩ (Nat.le_of_ble_eq_true rfl) ⟨rfl, rfl⟩ id ?_
      refine V_aload_n 0 (zdk tbX6_goesAsTold_0_ok 18 rfl) rfl ?_
      obtain ⟨r6, q7, h⟩ := bd1_some h
      obtain ⟨q7, c_r6⟩ := zRc_some q7
      refine V_getR (zdk tbX6_goesAsTold_0_ok 19 rfl) c_v0 fF6_26 rfl q7 ?_
      refine V_getI (zdk tbX6_goesAsTold_0_ok 20 rfl) c_r6 fF6_164 rfl ?_
      refine V_aload_n 0 (zdk tbX6_goesAsTold_0_ok 21 rfl) rfl ?_
      obtain ⟨r8, q9, h⟩ := bd1_some h
      obtain ⟨q9, c_r8⟩ := zRc_some q9
      refine V_getR (zdk tbX6_goesAsTold_0_ok 22 rfl) c_v0 fF6_19 rfl q9 ?_
      refine V_getI (zdk tbX6_goesAsTold_0_ok 23 rfl) c_r8 fF6_164 rfl ?_
      refine V_isub (zdk tbX6_goesAsTold_0_ok 24 rfl) ?_
      refine V_aload_n 1 (zdk tbX6_goesAsTold_0_ok 25 rfl) rfl ?_
      refine V_iload 3 (zdk tbX6_goesAsTold_0_ok 26 rfl) rfl ?_
      obtain ⟨μ11, r12, q10, h⟩ := bd2_some h
      refine V_callV (R1 := (rmd 4)) (As := [.int v4]) (r := (some (.int r12))) (zdk tbX6_goesAsTold_0_ok 27 rfl) sC6_301 (tX3_intAt q10) (c_v2) rfl rfl rfl ⟨Nat.le_of_ble_eq_true rfl, Nat.le_of_ble_eq_true rfl⟩ (Nat.le_of_ble_eq_true rfl) ⟨rfl, rfl⟩ id ?_
      refine V_icmp_eq (tgt := 62) (zdk tbX6_goesAsTold_0_ok 28 rfl) (by decide) (fun c13 => ?_) (fun c13 => ?_)
      · replace h := ite_t h c13
        refine V_inc (dx := 1) (ls' := [(0, .ref v0), (2, .ref v2), (3, .int v3), (4, .int (v4 + (1 : Int32)))]) 3 [1, 2, 3, 0] (zdk tbX6_goesAsTold_0_ok 31 rfl) rfl (Nat.le_of_ble_eq_true rfl) rfl rfl ?_
        refine V_goto (tgt := 22) (zdk tbX6_goesAsTold_0_ok 32 rfl) (by decide) ?_
        exact ih v0 v2 v3 (v4 + (1 : Int32)) μ11 c_v0 c_v2 h
      · replace h := ite_f h c13
        refine V_iconst (v := 0) (zdk tbX6_goesAsTold_0_ok 29 rfl) rfl ?_
        cases h
        exact V_zret (zdk tbX6_goesAsTold_0_ok 30 rfl) rfl (by decide) rfl
def fX6_goesAsTold (n : Nat) (v0 : Nat) (v1 : Int32) (v2 : Nat) (v3 : Int32) (μ : ZMem) : Option (ZMem × Int32) := chk (isC n 6 v0) (chk (isC n 3 v2) (bd1 (zRc n 4 μ v0 3) (fun r1 => bd1 (zRc n 4 μ v0 1) (fun r3 => bd1 (fX4_load n r1 r3 μ) (fun μ6 => bd1 (zRc n 4 μ6 v0 3) (fun r7 => lt (zpI μ6 r7 5 v1) (fun μ9 => (fX6_goesAsTold_b22 n FU v0 v2 v3 (0 : Int32) μ9))))))))
theorem tX6_goesAsTold {l : Launch} {fr : Bool} {n : Nat} {v0 : Nat} {v1 : Int32} {v2 : Nat} {v3 : Int32} {μ : ZMem} {z : ZMem × Int32} (h : fX6_goesAsTold n v0 v1 v2 v3 μ = some z) : ZFn l mX6_goesAsTold (rmd 5) [.ref v0, .int v1, .ref v2, .int v3] fr n μ (fr, n, z.1, some (.int z.2)) := by
  unfold fX6_goesAsTold at h
  obtain ⟨c_v0, h⟩ := chk_some h
  obtain ⟨c_v2, h⟩ := chk_some h
  refine ZFn.of (ls := [(0, .ref v0), (1, .int v1), (2, .ref v2), (3, .int v3)]) (by decide) (fun ξ => Nat.le_of_ble_eq_true rfl) (fun ξ => rfl) ?_
  refine V_aload_n 0 (zdk tbX6_goesAsTold_0_ok 0 rfl) rfl ?_
  obtain ⟨r1, q2, h⟩ := bd1_some h
  obtain ⟨q2, c_r1⟩ := zRc_some q2
  refine V_getR (zdk tbX6_goesAsTold_0_ok 1 rfl) c_v0 fF6_26 rfl q2 ?_
  refine V_aload_n 0 (zdk tbX6_goesAsTold_0_ok 2 rfl) rfl ?_
  obtain ⟨r3, q4, h⟩ := bd1_some h
  obtain ⟨q4, c_r3⟩ := zRc_some q4
  refine V_getR (zdk tbX6_goesAsTold_0_ok 3 rfl) c_v0 fF6_19 rfl q4 ?_
  obtain ⟨μ6, q5, h⟩ := bd1_some h
  refine V_callV (R1 := (rmd 2)) (As := [.ref r3]) (r := none) (zdk tbX6_goesAsTold_0_ok 4 rfl) sC6_196 (tX4_load q5) (c_r1) rfl rfl rfl ⟨Nat.le_of_ble_eq_true rfl, Nat.le_of_ble_eq_true rfl⟩ (Nat.le_of_ble_eq_true rfl) ⟨rfl, rfl⟩ id ?_
  refine V_aload_n 0 (zdk tbX6_goesAsTold_0_ok 5 rfl) rfl ?_
  obtain ⟨r7, q8, h⟩ := bd1_some h
  obtain ⟨q8, c_r7⟩ := zRc_some q8
  refine V_getR (zdk tbX6_goesAsTold_0_ok 6 rfl) c_v0 fF6_26 rfl q8 ?_
  refine V_iload_n 1 (zdk tbX6_goesAsTold_0_ok 7 rfl) rfl ?_
  obtain ⟨μ9, e10, h⟩ := lt_some h
  refine V_putI (zdk tbX6_goesAsTold_0_ok 8 rfl) c_r7 fF6_176 rfl rfl rfl e10 ?_
  refine V_iconst (v := 0) (zdk tbX6_goesAsTold_0_ok 9 rfl) rfl ?_
  refine V_istore (ls' := [(0, .ref v0), (2, .ref v2), (3, .int v3), (4, .int (0 : Int32))]) [1, 3, 4, 0] (zdk tbX6_goesAsTold_0_ok 10 rfl) (Nat.le_of_ble_eq_true rfl) rfl ?_
  exact tX6_goesAsTold_b22 FU v0 v2 v3 (0 : Int32) μ9 c_v0 c_v2 h

-- WhoComplainsCarries.borne
def tbX6_borne_0 : List (Nat × Instr × Nat) := [(0, .aload_n 0, 1), (1, .iload_n 1, 1), (2, .iload_n 2, 1), (3, .iload_n 2, 1), (4, .i2l, 1), (5, .iconst 1, 1), (6, .invokevirtual 238, 3), (9, .istore_n 3, 1), (10, .iload_n 3, 1), (11, .ifCond .eq 9, 3), (14, .aload_n 0, 1), (15, .iload_n 3, 1), (16, .invokevirtual 66, 3), (19, .ireturn, 1), (20, .iload_n 2, 1), (21, .iconst 1, 1), (22, .bipush 40, 2), (24, .invokestatic 153, 3), (27, .ifCond .ne 10, 3), (30, .aload_n 0, 1), (31, .bipush (-6), 2), (33, .invokevirtual 66, 3), (36, .ireturn, 1), (37, .iconst 0, 1), (38, .istore 4, 2), (40, .iconst 0, 1), (41, .istore 5, 2), (43, .iload 5, 2), (45, .aload_n 0, 1), (46, .getfield 19, 3), (49, .getfield 157, 3), (52, .if_icmp .ge 34, 3), (55, .aload_n 0, 1), (56, .iload 5, 2), (58, .aload_n 0, 1), (59, .getfield 11, 3), (62, .iload_n 1, 1), (63, .aaload, 1), (64, .iload_n 2, 1), (65, .invokevirtual 242, 3), (68, .ifCond .eq 12, 3), (71, .iload 4, 2), (73, .iconst 1, 1), (74, .iload 5, 2), (76, .ishl, 1), (77, .ior, 1), (78, .istore 4, 2), (80, .iinc 5 1, 3), (83, .goto (-40), 3), (86, .aload_n 0, 1)]
theorem tbX6_borne_0_ok : ∀ q ∈ tbX6_borne_0, decode cX6_borne q.1 = .ok (q.2.1, q.2.2) := by decide +kernel
def tbX6_borne_1 : List (Nat × Instr × Nat) := [(87, .iconst (-1), 1), (88, .aload_n 0, 1), (89, .getfield 11, 3), (92, .iload_n 1, 1), (93, .aaload, 1), (94, .iload_n 2, 1), (95, .invokevirtual 242, 3), (98, .ifCond .eq 18, 3), (101, .iload 4, 2), (103, .iconst 1, 1), (104, .aload_n 0, 1), (105, .getfield 19, 3), (108, .getfield 157, 3), (111, .ishl, 1), (112, .ior, 1), (113, .goto 5, 3), (116, .iload 4, 2), (118, .ireturn, 1)]
theorem tbX6_borne_1_ok : ∀ q ∈ tbX6_borne_1, decode cX6_borne q.1 = .ok (q.2.1, q.2.2) := by decide +kernel
theorem wCX6_goesAsTold : zCW mX6_goesAsTold 3 := ⟨zin (i := 1) (by decide +kernel) rfl, zin (i := 678) (by decide +kernel) rfl, by decide +kernel, by decide +kernel, by decide +kernel⟩
theorem sC6_242 : zCV RX6 242 mX6_goesAsTold 3 := ⟨zin (i := 675) (by decide +kernel) rfl, zin (i := 677) (by decide +kernel) rfl, zinP (i := 21) (q := (yX6_goesAsTold, 10)) (by decide +kernel) rfl, wCX6_goesAsTold⟩
def fX6_borne_b80 (g43 : Nat → Int32 → Int32 → Int32 → Int32 → ZMem → Option (ZMem × Int32)) (n : Nat) (v0 : Nat) (v1 : Int32) (v2 : Int32) (v4 : Int32) (v5 : Int32) (μ : ZMem) : Option (ZMem × Int32) := (g43 v0 v1 v2 v4 (v5 + (1 : Int32)) μ)
theorem tX6_borne_b80 {l : Launch} {fr : Bool} {n : Nat} {z : ZMem × Int32} {g43 : Nat → Int32 → Int32 → Int32 → Int32 → ZMem → Option (ZMem × Int32)} (hg43 : ∀ (v0 : Nat) (v1 : Int32) (v2 : Int32) (v4 : Int32) (v5 : Int32) (μ : ZMem), isC n 6 v0 = true → g43 v0 v1 v2 v4 v5 μ = some z → V (zkI l mX6_borne (rmd 6) fr n z) fr 43 [(0, .ref v0), (1, .int v1), (2, .int v2), (4, .int v4), (5, .int v5)] [] n μ) (v0 : Nat) (v1 : Int32) (v2 : Int32) (v4 : Int32) (v5 : Int32) (μ : ZMem) (c_v0 : isC n 6 v0 = true) (h : fX6_borne_b80 g43 n v0 v1 v2 v4 v5 μ = some z) : V (zkI l mX6_borne (rmd 6) fr n z) fr 80 [(0, .ref v0), (1, .int v1), (2, .int v2), (4, .int v4), (5, .int v5)] [] n μ := by
  unfold fX6_borne_b80 at h
  refine V_inc (dx := 1) (ls' := [(0, .ref v0), (1, .int v1), (2, .int v2), (4, .int v4), (5, .int (v5 + (1 : Int32)))]) 4 [1, 2, 3, 4, 0] (zdk tbX6_borne_0_ok 47 rfl) rfl (Nat.le_of_ble_eq_true rfl) rfl rfl ?_
  refine V_goto (tgt := 43) (zdk tbX6_borne_0_ok 48 rfl) (by decide) ?_
  exact hg43 v0 v1 v2 v4 (v5 + (1 : Int32)) μ c_v0 h
def fX6_borne_b118 (n : Nat) (s0 : Int32) (μ : ZMem) : Option (ZMem × Int32) := some (μ, s0)
theorem tX6_borne_b118 {l : Launch} {fr : Bool} {n : Nat} {z : ZMem × Int32} (s0 : Int32) (μ : ZMem) (h : fX6_borne_b118 n s0 μ = some z) : V (zkI l mX6_borne (rmd 6) fr n z) fr 118 [] [.int s0] n μ := by
  unfold fX6_borne_b118 at h
  cases h
  exact V_iret (zdk tbX6_borne_1_ok 17 rfl) rfl rfl
def fX6_borne_b43 (n : Nat) : Nat → Nat → Int32 → Int32 → Int32 → Int32 → ZMem → Option (ZMem × Int32)
  | 0, _, _, _, _, _, _ => none
  | k + 1, v0, v1, v2, v4, v5, μ => bd1 (zRc n 4 μ v0 1) (fun r1 => (if (zI μ r1 1) ≤ v5 then bd1 (zRc n 104 μ v0 0) (fun r4 => chk (inb v1 r4) (bd1 (zRc n 3 μ r4 v1.toNatClampNeg) (fun r7 => bd2 (fX6_goesAsTold n v0 (-1 : Int32) r7 v2 μ) (fun μ10 r11 => (if r11 = 0 then (fX6_borne_b118 n v4 μ10) else bd1 (zRc n 4 μ10 v0 1) (fun r13 => (fX6_borne_b118 n (v4 ||| ((1 : Int32) <<< ((zI μ10 r13 1) &&& 31))) μ10))))))) else bd1 (zRc n 104 μ v0 0) (fun r15 => chk (inb v1 r15) (bd1 (zRc n 3 μ r15 v1.toNatClampNeg) (fun r18 => bd2 (fX6_goesAsTold n v0 v5 r18 v2 μ) (fun μ21 r22 => (if r22 = 0 then (fX6_borne_b80 (fX6_borne_b43 n k) n v0 v1 v2 v4 v5 μ21) else (fX6_borne_b80 (fX6_borne_b43 n k) n v0 v1 v2 (v4 ||| ((1 : Int32) <<< (v5 &&& 31))) v5 μ21))))))))
theorem tX6_borne_b43 {l : Launch} {fr : Bool} {n : Nat} {z : ZMem × Int32} : ∀ (k : Nat) (v0 : Nat) (v1 : Int32) (v2 : Int32) (v4 : Int32) (v5 : Int32) (μ : ZMem) (c_v0 : isC n 6 v0 = true), fX6_borne_b43 n k v0 v1 v2 v4 v5 μ = some z → V (zkI l mX6_borne (rmd 6) fr n z) fr 43 [(0, .ref v0), (1, .int v1), (2, .int v2), (4, .int v4), (5, .int v5)] [] n μ := by
  intro k
  induction k with
  | zero =>
    intro v0 v1 v2 v4 v5 μ c_v0 h
    unfold fX6_borne_b43 at h
    cases h
  | succ k ih =>
    intro v0 v1 v2 v4 v5 μ c_v0 h
    unfold fX6_borne_b43 at h
    refine V_iload 4 (zdk tbX6_borne_0_ok 27 rfl) rfl ?_
    refine V_aload_n 0 (zdk tbX6_borne_0_ok 28 rfl) rfl ?_
    obtain ⟨r1, q2, h⟩ := bd1_some h
    obtain ⟨q2, c_r1⟩ := zRc_some q2
    refine V_getR (zdk tbX6_borne_0_ok 29 rfl) c_v0 fF6_19 rfl q2 ?_
    refine V_getI (zdk tbX6_borne_0_ok 30 rfl) c_r1 fF6_157 rfl ?_
    refine V_icmp_ge (tgt := 86) (zdk tbX6_borne_0_ok 31 rfl) (by decide) (fun c3 => ?_) (fun c3 => ?_)
    · replace h := ite_t h c3
      refine V_aload_n 0 (zdk tbX6_borne_0_ok 49 rfl) rfl ?_
      refine V_iconst (v := (-1)) (zdk tbX6_borne_1_ok 0 rfl) rfl ?_
      refine V_aload_n 0 (zdk tbX6_borne_1_ok 1 rfl) rfl ?_
      obtain ⟨r4, q5, h⟩ := bd1_some h
      obtain ⟨q5, c_r4⟩ := zRc_some q5
      refine V_getR (zdk tbX6_borne_1_ok 2 rfl) c_v0 fF6_11 rfl q5 ?_
      refine V_iload_n 1 (zdk tbX6_borne_1_ok 3 rfl) rfl ?_
      obtain ⟨b6, h⟩ := chk_some h
      obtain ⟨r7, q8, h⟩ := bd1_some h
      obtain ⟨q8, c_r7⟩ := zRc_some q8
      refine V_aald4 (zdk tbX6_borne_1_ok 4 rfl) c_r4 b6 q8 ?_
      refine V_iload_n 2 (zdk tbX6_borne_1_ok 5 rfl) rfl ?_
      obtain ⟨μ10, r11, q9, h⟩ := bd2_some h
      refine V_callV (R1 := (rmd 5)) (As := [.int (-1 : Int32), .ref r7, .int v2]) (r := (some (.int r11))) (zdk tbX6_borne_1_ok 6 rfl) sC6_242 (tX6_goesAsTold q9) (c_v0) rfl rfl rfl ⟨Nat.le_of_ble_eq_true rfl, Nat.le_of_ble_eq_true rfl⟩ (Nat.le_of_ble_eq_true rfl) ⟨rfl, rfl⟩ id ?_
      refine V_if_eq (tgt := 116) (zdk tbX6_borne_1_ok 7 rfl) (by decide) (fun c12 => ?_) (fun c12 => ?_)
      · replace h := ite_t h c12
        refine V_iload 3 (zdk tbX6_borne_1_ok 16 rfl) rfl ?_
        refine V_sub (ls' := []) [] rfl ?_
        exact tX6_borne_b118 v4 μ10  h
      · replace h := ite_f h c12
        refine V_iload 3 (zdk tbX6_borne_1_ok 8 rfl) rfl ?_
        refine V_iconst (v := 1) (zdk tbX6_borne_1_ok 9 rfl) rfl ?_
        refine V_aload_n 0 (zdk tbX6_borne_1_ok 10 rfl) rfl ?_
        obtain ⟨r13, q14, h⟩ := bd1_some h
        obtain ⟨q14, c_r13⟩ := zRc_some q14
        refine V_getR (zdk tbX6_borne_1_ok 11 rfl) c_v0 fF6_19 rfl q14 ?_
        refine V_getI (zdk tbX6_borne_1_ok 12 rfl) c_r13 fF6_157 rfl ?_
        refine V_ishl (zdk tbX6_borne_1_ok 13 rfl) ?_
        refine V_ior (zdk tbX6_borne_1_ok 14 rfl) ?_
        refine V_goto (tgt := 118) (zdk tbX6_borne_1_ok 15 rfl) (by decide) ?_
        refine V_sub (ls' := []) [] rfl ?_
        exact tX6_borne_b118 (v4 ||| ((1 : Int32) <<< ((zI μ10 r13 1) &&& 31))) μ10  h
    · replace h := ite_f h c3
      refine V_aload_n 0 (zdk tbX6_borne_0_ok 32 rfl) rfl ?_
      refine V_iload 4 (zdk tbX6_borne_0_ok 33 rfl) rfl ?_
      refine V_aload_n 0 (zdk tbX6_borne_0_ok 34 rfl) rfl ?_
      obtain ⟨r15, q16, h⟩ := bd1_some h
      obtain ⟨q16, c_r15⟩ := zRc_some q16
      refine V_getR (zdk tbX6_borne_0_ok 35 rfl) c_v0 fF6_11 rfl q16 ?_
      refine V_iload_n 1 (zdk tbX6_borne_0_ok 36 rfl) rfl ?_
      obtain ⟨b17, h⟩ := chk_some h
      obtain ⟨r18, q19, h⟩ := bd1_some h
      obtain ⟨q19, c_r18⟩ := zRc_some q19
      refine V_aald4 (zdk tbX6_borne_0_ok 37 rfl) c_r15 b17 q19 ?_
      refine V_iload_n 2 (zdk tbX6_borne_0_ok 38 rfl) rfl ?_
      obtain ⟨μ21, r22, q20, h⟩ := bd2_some h
      refine V_callV (R1 := (rmd 5)) (As := [.int v5, .ref r18, .int v2]) (r := (some (.int r22))) (zdk tbX6_borne_0_ok 39 rfl) sC6_242 (tX6_goesAsTold q20) (c_v0) rfl rfl rfl ⟨Nat.le_of_ble_eq_true rfl, Nat.le_of_ble_eq_true rfl⟩ (Nat.le_of_ble_eq_true rfl) ⟨rfl, rfl⟩ id ?_
      refine V_if_eq (tgt := 80) (zdk tbX6_borne_0_ok 40 rfl) (by decide) (fun c23 => ?_) (fun c23 => ?_)
      · replace h := ite_t h c23
        exact tX6_borne_b80 (fun v0 v1 v2 v4 v5 μ y0 h => ih v0 v1 v2 v4 v5 μ y0 h) v0 v1 v2 v4 v5 μ21 c_v0 h
      · replace h := ite_f h c23
        refine V_iload 3 (zdk tbX6_borne_0_ok 41 rfl) rfl ?_
        refine V_iconst (v := 1) (zdk tbX6_borne_0_ok 42 rfl) rfl ?_
        refine V_iload 4 (zdk tbX6_borne_0_ok 43 rfl) rfl ?_
        refine V_ishl (zdk tbX6_borne_0_ok 44 rfl) ?_
        refine V_ior (zdk tbX6_borne_0_ok 45 rfl) ?_
        refine V_istore (ls' := [(0, .ref v0), (1, .int v1), (2, .int v2), (4, .int (v4 ||| ((1 : Int32) <<< (v5 &&& 31)))), (5, .int v5)]) [1, 2, 3, 0, 4] (zdk tbX6_borne_0_ok 46 rfl) (Nat.le_of_ble_eq_true rfl) rfl ?_
        exact tX6_borne_b80 (fun v0 v1 v2 v4 v5 μ y0 h => ih v0 v1 v2 v4 v5 μ y0 h) v0 v1 v2 (v4 ||| ((1 : Int32) <<< (v5 &&& 31))) v5 μ21 c_v0 h
def fX6_borne (n : Nat) (v0 : Nat) (v1 : Int32) (v2 : Int32) (μ : ZMem) : Option (ZMem × Int32) := chk (isC n 6 v0) (bd2 (fX6_toldRefusal n v0 v1 v2 (v2.toInt64) (1 : Int32) μ) (fun μ2 r3 => (if r3 = 0 then bd2 (fX6_isIn n v2 (1 : Int32) (40 : Int32) μ2) (fun μ6 r7 => (if r7 = 0 then bd2 (fX6_refuse n v0 (-6 : Int32) μ6) (fun μ10 r11 => some (μ10, r11)) else (fX6_borne_b43 n FU v0 v1 v2 (0 : Int32) (0 : Int32) μ6))) else bd2 (fX6_refuse n v0 r3 μ2) (fun μ13 r14 => some (μ13, r14)))))
theorem tX6_borne {l : Launch} {fr : Bool} {n : Nat} {v0 : Nat} {v1 : Int32} {v2 : Int32} {μ : ZMem} {z : ZMem × Int32} (h : fX6_borne n v0 v1 v2 μ = some z) : ZFn l mX6_borne (rmd 6) [.ref v0, .int v1, .int v2] fr n μ (fr, n, z.1, some (.int z.2)) := by
  unfold fX6_borne at h
  obtain ⟨c_v0, h⟩ := chk_some h
  refine ZFn.of (ls := [(0, .ref v0), (1, .int v1), (2, .int v2)]) (by decide) (fun ξ => Nat.le_of_ble_eq_true rfl) (fun ξ => rfl) ?_
  refine V_aload_n 0 (zdk tbX6_borne_0_ok 0 rfl) rfl ?_
  refine V_iload_n 1 (zdk tbX6_borne_0_ok 1 rfl) rfl ?_
  refine V_iload_n 2 (zdk tbX6_borne_0_ok 2 rfl) rfl ?_
  refine V_iload_n 2 (zdk tbX6_borne_0_ok 3 rfl) rfl ?_
  refine V_i2l (zdk tbX6_borne_0_ok 4 rfl) rfl ?_
  refine V_iconst (v := 1) (zdk tbX6_borne_0_ok 5 rfl) rfl ?_
  obtain ⟨μ2, r3, q1, h⟩ := bd2_some h
  refine V_callV (R1 := (rmd 4)) (As := [.int v1, .int v2, .long (v2.toInt64), .int (1 : Int32)]) (r := (some (.int r3))) (zdk tbX6_borne_0_ok 6 rfl) sC6_238 (tX6_toldRefusal q1) (c_v0) rfl rfl rfl ⟨Nat.le_of_ble_eq_true rfl, Nat.le_of_ble_eq_true rfl⟩ (Nat.le_of_ble_eq_true rfl) ⟨rfl, rfl⟩ id ?_
  refine V_istore_n (ls' := [(0, .ref v0), (1, .int v1), (2, .int v2), (3, .int r3)]) [1, 2, 3, 0] (zdk tbX6_borne_0_ok 7 rfl) (Nat.le_of_ble_eq_true rfl) rfl ?_
  refine V_iload_n 3 (zdk tbX6_borne_0_ok 8 rfl) rfl ?_
  refine V_if_eq (tgt := 20) (zdk tbX6_borne_0_ok 9 rfl) (by decide) (fun c4 => ?_) (fun c4 => ?_)
  · replace h := ite_t h c4
    refine V_iload_n 2 (zdk tbX6_borne_0_ok 14 rfl) rfl ?_
    refine V_iconst (v := 1) (zdk tbX6_borne_0_ok 15 rfl) rfl ?_
    refine V_bipush (v := 40) (zdk tbX6_borne_0_ok 16 rfl) rfl ?_
    obtain ⟨μ6, r7, q5, h⟩ := bd2_some h
    refine V_callS (R1 := (rmd 1)) (As := [.int v2, .int (1 : Int32), .int (40 : Int32)]) (r := (some (.int r7))) (zdk tbX6_borne_0_ok 17 rfl) sC6_153 (tX6_isIn q5) rfl rfl ⟨Nat.le_of_ble_eq_true rfl, Nat.le_of_ble_eq_true rfl⟩ (Nat.le_of_ble_eq_true rfl) ⟨rfl, rfl⟩ id ?_
    refine V_if_ne (tgt := 37) (zdk tbX6_borne_0_ok 18 rfl) (by decide) (fun c8 => ?_) (fun c8 => ?_)
    · replace h := ite_f h c8
      refine V_iconst (v := 0) (zdk tbX6_borne_0_ok 23 rfl) rfl ?_
      refine V_istore (ls' := [(0, .ref v0), (1, .int v1), (2, .int v2), (4, .int (0 : Int32))]) [1, 2, 3, 0] (zdk tbX6_borne_0_ok 24 rfl) (Nat.le_of_ble_eq_true rfl) rfl ?_
      refine V_iconst (v := 0) (zdk tbX6_borne_0_ok 25 rfl) rfl ?_
      refine V_istore (ls' := [(0, .ref v0), (1, .int v1), (2, .int v2), (4, .int (0 : Int32)), (5, .int (0 : Int32))]) [1, 2, 3, 4, 0] (zdk tbX6_borne_0_ok 26 rfl) (Nat.le_of_ble_eq_true rfl) rfl ?_
      exact tX6_borne_b43 FU v0 v1 v2 (0 : Int32) (0 : Int32) μ6 c_v0 h
    · replace h := ite_t h c8
      refine V_aload_n 0 (zdk tbX6_borne_0_ok 19 rfl) rfl ?_
      refine V_bipush (v := (-6)) (zdk tbX6_borne_0_ok 20 rfl) rfl ?_
      obtain ⟨μ10, r11, q9, h⟩ := bd2_some h
      refine V_callV (R1 := (rmd 2)) (As := [.int (-6 : Int32)]) (r := (some (.int r11))) (zdk tbX6_borne_0_ok 21 rfl) sC6_66 (tX6_refuse q9) (c_v0) rfl rfl rfl ⟨Nat.le_of_ble_eq_true rfl, Nat.le_of_ble_eq_true rfl⟩ (Nat.le_of_ble_eq_true rfl) ⟨rfl, rfl⟩ id ?_
      cases h
      exact V_iret (zdk tbX6_borne_0_ok 22 rfl) rfl rfl
  · replace h := ite_f h c4
    refine V_aload_n 0 (zdk tbX6_borne_0_ok 10 rfl) rfl ?_
    refine V_iload_n 3 (zdk tbX6_borne_0_ok 11 rfl) rfl ?_
    obtain ⟨μ13, r14, q12, h⟩ := bd2_some h
    refine V_callV (R1 := (rmd 2)) (As := [.int r3]) (r := (some (.int r14))) (zdk tbX6_borne_0_ok 12 rfl) sC6_66 (tX6_refuse q12) (c_v0) rfl rfl rfl ⟨Nat.le_of_ble_eq_true rfl, Nat.le_of_ble_eq_true rfl⟩ (Nat.le_of_ble_eq_true rfl) ⟨rfl, rfl⟩ id ?_
    cases h
    exact V_iret (zdk tbX6_borne_0_ok 13 rfl) rfl rfl

-- WhoComplainsCarries.without
def tbX6_without_0 : List (Nat × Instr × Nat) := [(0, .aload_n 0, 1), (1, .getfield 19, 3), (4, .getfield 157, 3), (7, .ifCond .ne 10, 3), (10, .aload_n 0, 1), (11, .bipush (-5), 2), (13, .invokevirtual 66, 3), (16, .ireturn, 1), (17, .iconst 0, 1), (18, .istore_n 1, 1), (19, .sipush 202, 3), (22, .istore_n 2, 1), (23, .iconst 0, 1), (24, .istore_n 3, 1), (25, .iload_n 3, 1), (26, .aload_n 0, 1), (27, .getfield 19, 3), (30, .getfield 157, 3), (33, .if_icmp .ge 79, 3), (36, .aload_n 0, 1), (37, .getfield 26, 3), (40, .aload_n 0, 1), (41, .getfield 19, 3), (44, .invokevirtual 196, 3), (47, .aload_n 0, 1), (48, .getfield 26, 3), (51, .getfield 176, 3), (54, .iload_n 3, 1), (55, .if_icmp .ne 11, 3), (58, .aload_n 0, 1), (59, .getfield 26, 3), (62, .iconst (-1), 1), (63, .putfield 176, 3), (66, .aload_n 0, 1), (67, .getfield 26, 3), (70, .sipush 200, 3), (73, .iload_n 3, 1), (74, .invokevirtual 206, 3), (77, .istore 4, 2), (79, .iload 4, 2), (81, .iconst (-1), 1), (82, .if_icmp .ne 9, 3), (85, .sipush 201, 3), (88, .goto 5, 3), (91, .iload 4, 2), (93, .istore 5, 2), (95, .iload 5, 2), (97, .iload_n 2, 1), (98, .if_icmp .ge 8, 3), (101, .iload 5, 2)]
theorem tbX6_without_0_ok : ∀ q ∈ tbX6_without_0, decode cX6_without q.1 = .ok (q.2.1, q.2.2) := by decide +kernel
def tbX6_without_1 : List (Nat × Instr × Nat) := [(103, .istore_n 2, 1), (104, .iload_n 3, 1), (105, .istore_n 1, 1), (106, .iinc 3 1, 3), (109, .goto (-84), 3), (112, .iload_n 1, 1), (113, .ireturn, 1)]
theorem tbX6_without_1_ok : ∀ q ∈ tbX6_without_1, decode cX6_without q.1 = .ok (q.2.1, q.2.2) := by decide +kernel
def fX6_without_b106 (g25 : Nat → Int32 → Int32 → Int32 → ZMem → Option (ZMem × Int32)) (n : Nat) (v0 : Nat) (v1 : Int32) (v2 : Int32) (v3 : Int32) (μ : ZMem) : Option (ZMem × Int32) := (g25 v0 v1 v2 (v3 + (1 : Int32)) μ)
theorem tX6_without_b106 {l : Launch} {fr : Bool} {n : Nat} {z : ZMem × Int32} {g25 : Nat → Int32 → Int32 → Int32 → ZMem → Option (ZMem × Int32)} (hg25 : ∀ (v0 : Nat) (v1 : Int32) (v2 : Int32) (v3 : Int32) (μ : ZMem), isC n 6 v0 = true → g25 v0 v1 v2 v3 μ = some z → V (zkI l mX6_without (rmd 6) fr n z) fr 25 [(0, .ref v0), (1, .int v1), (2, .int v2), (3, .int v3)] [] n μ) (v0 : Nat) (v1 : Int32) (v2 : Int32) (v3 : Int32) (μ : ZMem) (c_v0 : isC n 6 v0 = true) (h : fX6_without_b106 g25 n v0 v1 v2 v3 μ = some z) : V (zkI l mX6_without (rmd 6) fr n z) fr 106 [(0, .ref v0), (1, .int v1), (2, .int v2), (3, .int v3)] [] n μ := by
  unfold fX6_without_b106 at h
  refine V_inc (dx := 1) (ls' := [(0, .ref v0), (1, .int v1), (2, .int v2), (3, .int (v3 + (1 : Int32)))]) 3 [1, 2, 3, 0] (zdk tbX6_without_1_ok 3 rfl) rfl (Nat.le_of_ble_eq_true rfl) rfl rfl ?_
  refine V_goto (tgt := 25) (zdk tbX6_without_1_ok 4 rfl) (by decide) ?_
  exact hg25 v0 v1 v2 (v3 + (1 : Int32)) μ c_v0 h
def fX6_without_b93 (g25 : Nat → Int32 → Int32 → Int32 → ZMem → Option (ZMem × Int32)) (n : Nat) (v0 : Nat) (v1 : Int32) (v2 : Int32) (v3 : Int32) (s0 : Int32) (μ : ZMem) : Option (ZMem × Int32) := (if v2 ≤ s0 then (fX6_without_b106 g25 n v0 v1 v2 v3 μ) else (fX6_without_b106 g25 n v0 v3 s0 v3 μ))
theorem tX6_without_b93 {l : Launch} {fr : Bool} {n : Nat} {z : ZMem × Int32} {g25 : Nat → Int32 → Int32 → Int32 → ZMem → Option (ZMem × Int32)} (hg25 : ∀ (v0 : Nat) (v1 : Int32) (v2 : Int32) (v3 : Int32) (μ : ZMem), isC n 6 v0 = true → g25 v0 v1 v2 v3 μ = some z → V (zkI l mX6_without (rmd 6) fr n z) fr 25 [(0, .ref v0), (1, .int v1), (2, .int v2), (3, .int v3)] [] n μ) (v0 : Nat) (v1 : Int32) (v2 : Int32) (v3 : Int32) (s0 : Int32) (μ : ZMem) (c_v0 : isC n 6 v0 = true) (h : fX6_without_b93 g25 n v0 v1 v2 v3 s0 μ = some z) : V (zkI l mX6_without (rmd 6) fr n z) fr 93 [(0, .ref v0), (1, .int v1), (2, .int v2), (3, .int v3)] [.int s0] n μ := by
  unfold fX6_without_b93 at h
  refine V_istore (ls' := [(0, .ref v0), (1, .int v1), (2, .int v2), (3, .int v3), (5, .int s0)]) [1, 2, 3, 4, 0] (zdk tbX6_without_0_ok 45 rfl) (Nat.le_of_ble_eq_true rfl) rfl ?_
  refine V_iload 4 (zdk tbX6_without_0_ok 46 rfl) rfl ?_
  refine V_iload_n 2 (zdk tbX6_without_0_ok 47 rfl) rfl ?_
  refine V_icmp_ge (tgt := 106) (zdk tbX6_without_0_ok 48 rfl) (by decide) (fun c1 => ?_) (fun c1 => ?_)
  · replace h := ite_t h c1
    refine V_sub (ls' := [(0, .ref v0), (1, .int v1), (2, .int v2), (3, .int v3)]) [0, 1, 2, 3] rfl ?_
    exact tX6_without_b106 hg25 v0 v1 v2 v3 μ c_v0 h
  · replace h := ite_f h c1
    refine V_iload 4 (zdk tbX6_without_0_ok 49 rfl) rfl ?_
    refine V_istore_n (ls' := [(0, .ref v0), (2, .int s0), (3, .int v3)]) [1, 0, 3] (zdk tbX6_without_1_ok 0 rfl) (Nat.le_of_ble_eq_true rfl) rfl ?_
    refine V_iload_n 2 (zdk tbX6_without_1_ok 1 rfl) rfl ?_
    refine V_istore_n (ls' := [(0, .ref v0), (1, .int v3), (2, .int s0), (3, .int v3)]) [1, 0, 2, 3] (zdk tbX6_without_1_ok 2 rfl) (Nat.le_of_ble_eq_true rfl) rfl ?_
    exact tX6_without_b106 hg25 v0 v3 s0 v3 μ c_v0 h
def fX6_without_b66 (g25 : Nat → Int32 → Int32 → Int32 → ZMem → Option (ZMem × Int32)) (n : Nat) (v0 : Nat) (v1 : Int32) (v2 : Int32) (v3 : Int32) (μ : ZMem) : Option (ZMem × Int32) := bd1 (zRc n 4 μ v0 3) (fun r1 => bd2 (fX4_stepsToWay n r1 (200 : Int32) v3 μ) (fun μ4 r5 => (if r5 = (-1 : Int32) then (fX6_without_b93 g25 n v0 v1 v2 v3 (201 : Int32) μ4) else (fX6_without_b93 g25 n v0 v1 v2 v3 r5 μ4))))
theorem tX6_without_b66 {l : Launch} {fr : Bool} {n : Nat} {z : ZMem × Int32} {g25 : Nat → Int32 → Int32 → Int32 → ZMem → Option (ZMem × Int32)} (hg25 : ∀ (v0 : Nat) (v1 : Int32) (v2 : Int32) (v3 : Int32) (μ : ZMem), isC n 6 v0 = true → g25 v0 v1 v2 v3 μ = some z → V (zkI l mX6_without (rmd 6) fr n z) fr 25 [(0, .ref v0), (1, .int v1), (2, .int v2), (3, .int v3)] [] n μ) (v0 : Nat) (v1 : Int32) (v2 : Int32) (v3 : Int32) (μ : ZMem) (c_v0 : isC n 6 v0 = true) (h : fX6_without_b66 g25 n v0 v1 v2 v3 μ = some z) : V (zkI l mX6_without (rmd 6) fr n z) fr 66 [(0, .ref v0), (1, .int v1), (2, .int v2), (3, .int v3)] [] n μ := by
  unfold fX6_without_b66 at h
  refine V_aload_n 0 (zdk tbX6_without_0_ok 33 rfl) rfl ?_
  obtain ⟨r1, q2, h⟩ := bd1_some h
  obtain ⟨q2, c_r1⟩ := zRc_some q2
  refine V_getR (zdk tbX6_without_0_ok 34 rfl) c_v0 fF6_26 rfl q2 ?_
  refine V_sipush (v := 200) (zdk tbX6_without_0_ok 35 rfl) rfl ?_
  refine V_iload_n 3 (zdk tbX6_without_0_ok 36 rfl) rfl ?_
  obtain ⟨μ4, r5, q3, h⟩ := bd2_some h
  refine V_callV (R1 := (rmd 5)) (As := [.int (200 : Int32), .int v3]) (r := (some (.int r5))) (zdk tbX6_without_0_ok 37 rfl) sC6_206 (tX4_stepsToWay q3) (c_r1) rfl rfl rfl ⟨Nat.le_of_ble_eq_true rfl, Nat.le_of_ble_eq_true rfl⟩ (Nat.le_of_ble_eq_true rfl) ⟨rfl, rfl⟩ id ?_
  refine V_istore (ls' := [(0, .ref v0), (1, .int v1), (2, .int v2), (3, .int v3), (4, .int r5)]) [1, 2, 3, 4, 0] (zdk tbX6_without_0_ok 38 rfl) (Nat.le_of_ble_eq_true rfl) rfl ?_
  refine V_iload 4 (zdk tbX6_without_0_ok 39 rfl) rfl ?_
  refine V_iconst (v := (-1)) (zdk tbX6_without_0_ok 40 rfl) rfl ?_
  refine V_icmp_ne (tgt := 91) (zdk tbX6_without_0_ok 41 rfl) (by decide) (fun c6 => ?_) (fun c6 => ?_)
  · replace h := ite_f h c6
    refine V_iload 4 (zdk tbX6_without_0_ok 44 rfl) rfl ?_
    refine V_sub (ls' := [(0, .ref v0), (1, .int v1), (2, .int v2), (3, .int v3)]) [0, 1, 2, 3] rfl ?_
    exact tX6_without_b93 hg25 v0 v1 v2 v3 r5 μ4 c_v0 h
  · replace h := ite_t h c6
    refine V_sipush (v := 201) (zdk tbX6_without_0_ok 42 rfl) rfl ?_
    refine V_goto (tgt := 93) (zdk tbX6_without_0_ok 43 rfl) (by decide) ?_
    refine V_sub (ls' := [(0, .ref v0), (1, .int v1), (2, .int v2), (3, .int v3)]) [0, 1, 2, 3] rfl ?_
    exact tX6_without_b93 hg25 v0 v1 v2 v3 (201 : Int32) μ4 c_v0 h
def fX6_without_b25 (n : Nat) : Nat → Nat → Int32 → Int32 → Int32 → ZMem → Option (ZMem × Int32)
  | 0, _, _, _, _, _ => none
  | k + 1, v0, v1, v2, v3, μ => bd1 (zRc n 4 μ v0 1) (fun r1 => (if (zI μ r1 1) ≤ v3 then some (μ, v1) else bd1 (zRc n 4 μ v0 3) (fun r4 => bd1 (zRc n 4 μ v0 1) (fun r6 => bd1 (fX4_load n r4 r6 μ) (fun μ9 => bd1 (zRc n 4 μ9 v0 3) (fun r10 => (if (zI μ9 r10 5) = v3 then bd1 (zRc n 4 μ9 v0 3) (fun r13 => lt (zpI μ9 r13 5 (-1 : Int32)) (fun μ15 => (fX6_without_b66 (fX6_without_b25 n k) n v0 v1 v2 v3 μ15))) else (fX6_without_b66 (fX6_without_b25 n k) n v0 v1 v2 v3 μ9))))))))
theorem tX6_without_b25 {l : Launch} {fr : Bool} {n : Nat} {z : ZMem × Int32} : ∀ (k : Nat) (v0 : Nat) (v1 : Int32) (v2 : Int32) (v3 : Int32) (μ : ZMem) (c_v0 : isC n 6 v0 = true), fX6_without_b25 n k v0 v1 v2 v3 μ = some z → V (zkI l mX6_without (rmd 6) fr n z) fr 25 [(0, .ref v0), (1, .int v1), (2, .int v2), (3, .int v3)] [] n μ := by
  intro k
  induction k with
  | zero =>
    intro v0 v1 v2 v3 μ c_v0 h
    unfold fX6_without_b25 at h
    cases h
  | succ k ih =>
    intro v0 v1 v2 v3 μ c_v0 h
    unfold fX6_without_b25 at h
    refine V_iload_n 3 (zdk tbX6_without_0_ok 14 rfl) rfl ?_
    refine V_aload_n 0 (zdk tbX6_without_0_ok 15 rfl) rfl ?_
    obtain ⟨r1, q2, h⟩ := bd1_some h
    obtain ⟨q2, c_r1⟩ := zRc_some q2
    refine V_getR (zdk tbX6_without_0_ok 16 rfl) c_v0 fF6_19 rfl q2 ?_
    refine V_getI (zdk tbX6_without_0_ok 17 rfl) c_r1 fF6_157 rfl ?_
    refine V_icmp_ge (tgt := 112) (zdk tbX6_without_0_ok 18 rfl) (by decide) (fun c3 => ?_) (fun c3 => ?_)
    · replace h := ite_t h c3
      refine V_iload_n 1 (zdk tbX6_without_1_ok 5 rfl) rfl ?_
      cases h
      exact V_iret (zdk tbX6_without_1_ok 6 rfl) rfl rfl
    · replace h := ite_f h c3
      refine V_aload_n 0 (zdk tbX6_without_0_ok 19 rfl) rfl ?_
      obtain ⟨r4, q5, h⟩ := bd1_some h
      obtain ⟨q5, c_r4⟩ := zRc_some q5
      refine V_getR (zdk tbX6_without_0_ok 20 rfl) c_v0 fF6_26 rfl q5 ?_
      refine V_aload_n 0 (zdk tbX6_without_0_ok 21 rfl) rfl ?_
      obtain ⟨r6, q7, h⟩ := bd1_some h
      obtain ⟨q7, c_r6⟩ := zRc_some q7
      refine V_getR (zdk tbX6_without_0_ok 22 rfl) c_v0 fF6_19 rfl q7 ?_
      obtain ⟨μ9, q8, h⟩ := bd1_some h
      refine V_callV (R1 := (rmd 2)) (As := [.ref r6]) (r := none) (zdk tbX6_without_0_ok 23 rfl) sC6_196 (tX4_load q8) (c_r4) rfl rfl rfl ⟨Nat.le_of_ble_eq_true rfl, Nat.le_of_ble_eq_true rfl⟩ (Nat.le_of_ble_eq_true rfl) ⟨rfl, rfl⟩ id ?_
      refine V_aload_n 0 (zdk tbX6_without_0_ok 24 rfl) rfl ?_
      obtain ⟨r10, q11, h⟩ := bd1_some h
      obtain ⟨q11, c_r10⟩ := zRc_some q11
      refine V_getR (zdk tbX6_without_0_ok 25 rfl) c_v0 fF6_26 rfl q11 ?_
      refine V_getI (zdk tbX6_without_0_ok 26 rfl) c_r10 fF6_176 rfl ?_
      refine V_iload_n 3 (zdk tbX6_without_0_ok 27 rfl) rfl ?_
      refine V_icmp_ne (tgt := 66) (zdk tbX6_without_0_ok 28 rfl) (by decide) (fun c12 => ?_) (fun c12 => ?_)
      · replace h := ite_f h c12
        exact tX6_without_b66 (fun v0 v1 v2 v3 μ y0 h => ih v0 v1 v2 v3 μ y0 h) v0 v1 v2 v3 μ9 c_v0 h
      · replace h := ite_t h c12
        refine V_aload_n 0 (zdk tbX6_without_0_ok 29 rfl) rfl ?_
        obtain ⟨r13, q14, h⟩ := bd1_some h
        obtain ⟨q14, c_r13⟩ := zRc_some q14
        refine V_getR (zdk tbX6_without_0_ok 30 rfl) c_v0 fF6_26 rfl q14 ?_
        refine V_iconst (v := (-1)) (zdk tbX6_without_0_ok 31 rfl) rfl ?_
        obtain ⟨μ15, e16, h⟩ := lt_some h
        refine V_putI (zdk tbX6_without_0_ok 32 rfl) c_r13 fF6_176 rfl rfl rfl e16 ?_
        exact tX6_without_b66 (fun v0 v1 v2 v3 μ y0 h => ih v0 v1 v2 v3 μ y0 h) v0 v1 v2 v3 μ15 c_v0 h
def fX6_without (n : Nat) (v0 : Nat) (μ : ZMem) : Option (ZMem × Int32) := chk (isC n 6 v0) (bd1 (zRc n 4 μ v0 1) (fun r1 => (if (zI μ r1 1) = 0 then bd2 (fX6_refuse n v0 (-5 : Int32) μ) (fun μ5 r6 => some (μ5, r6)) else (fX6_without_b25 n FU v0 (0 : Int32) (202 : Int32) (0 : Int32) μ))))
theorem tX6_without {l : Launch} {fr : Bool} {n : Nat} {v0 : Nat} {μ : ZMem} {z : ZMem × Int32} (h : fX6_without n v0 μ = some z) : ZFn l mX6_without (rmd 6) [.ref v0] fr n μ (fr, n, z.1, some (.int z.2)) := by
  unfold fX6_without at h
  obtain ⟨c_v0, h⟩ := chk_some h
  refine ZFn.of (ls := [(0, .ref v0)]) (by decide) (fun ξ => Nat.le_of_ble_eq_true rfl) (fun ξ => rfl) ?_
  refine V_aload_n 0 (zdk tbX6_without_0_ok 0 rfl) rfl ?_
  obtain ⟨r1, q2, h⟩ := bd1_some h
  obtain ⟨q2, c_r1⟩ := zRc_some q2
  refine V_getR (zdk tbX6_without_0_ok 1 rfl) c_v0 fF6_19 rfl q2 ?_
  refine V_getI (zdk tbX6_without_0_ok 2 rfl) c_r1 fF6_157 rfl ?_
  refine V_if_ne (tgt := 17) (zdk tbX6_without_0_ok 3 rfl) (by decide) (fun c3 => ?_) (fun c3 => ?_)
  · replace h := ite_f h c3
    refine V_iconst (v := 0) (zdk tbX6_without_0_ok 8 rfl) rfl ?_
    refine V_istore_n (ls' := [(0, .ref v0), (1, .int (0 : Int32))]) [1, 0] (zdk tbX6_without_0_ok 9 rfl) (Nat.le_of_ble_eq_true rfl) rfl ?_
    refine V_sipush (v := 202) (zdk tbX6_without_0_ok 10 rfl) rfl ?_
    refine V_istore_n (ls' := [(0, .ref v0), (1, .int (0 : Int32)), (2, .int (202 : Int32))]) [1, 2, 0] (zdk tbX6_without_0_ok 11 rfl) (Nat.le_of_ble_eq_true rfl) rfl ?_
    refine V_iconst (v := 0) (zdk tbX6_without_0_ok 12 rfl) rfl ?_
    refine V_istore_n (ls' := [(0, .ref v0), (1, .int (0 : Int32)), (2, .int (202 : Int32)), (3, .int (0 : Int32))]) [1, 2, 3, 0] (zdk tbX6_without_0_ok 13 rfl) (Nat.le_of_ble_eq_true rfl) rfl ?_
    exact tX6_without_b25 FU v0 (0 : Int32) (202 : Int32) (0 : Int32) μ c_v0 h
  · replace h := ite_t h c3
    refine V_aload_n 0 (zdk tbX6_without_0_ok 4 rfl) rfl ?_
    refine V_bipush (v := (-5)) (zdk tbX6_without_0_ok 5 rfl) rfl ?_
    obtain ⟨μ5, r6, q4, h⟩ := bd2_some h
    refine V_callV (R1 := (rmd 2)) (As := [.int (-5 : Int32)]) (r := (some (.int r6))) (zdk tbX6_without_0_ok 6 rfl) sC6_66 (tX6_refuse q4) (c_v0) rfl rfl rfl ⟨Nat.le_of_ble_eq_true rfl, Nat.le_of_ble_eq_true rfl⟩ (Nat.le_of_ble_eq_true rfl) ⟨rfl, rfl⟩ id ?_
    cases h
    exact V_iret (zdk tbX6_without_0_ok 7 rfl) rfl rfl

-- WhoComplainsCarries.overWithin
def tbX6_overWithin_0 : List (Nat × Instr × Nat) := [(0, .aload_n 0, 1), (1, .getfield 26, 3), (4, .aload_n 0, 1), (5, .getfield 19, 3), (8, .invokevirtual 196, 3), (11, .aload_n 0, 1), (12, .getfield 26, 3), (15, .iload_n 1, 1), (16, .putfield 141, 3), (19, .aload_n 0, 1), (20, .getfield 26, 3), (23, .iload_n 2, 1), (24, .iconst (-1), 1), (25, .invokevirtual 206, 3), (28, .ireturn, 1)]
theorem tbX6_overWithin_0_ok : ∀ q ∈ tbX6_overWithin_0, decode cX6_overWithin q.1 = .ok (q.2.1, q.2.2) := by decide +kernel
def fX6_overWithin (n : Nat) (v0 : Nat) (v1 : Int32) (v2 : Int32) (μ : ZMem) : Option (ZMem × Int32) := chk (isC n 6 v0) (bd1 (zRc n 4 μ v0 3) (fun r1 => bd1 (zRc n 4 μ v0 1) (fun r3 => bd1 (fX4_load n r1 r3 μ) (fun μ6 => bd1 (zRc n 4 μ6 v0 3) (fun r7 => lt (zpI μ6 r7 2 v1) (fun μ9 => bd1 (zRc n 4 μ9 v0 3) (fun r11 => bd2 (fX4_stepsToWay n r11 v2 (-1 : Int32) μ9) (fun μ14 r15 => some (μ14, r15)))))))))
theorem tX6_overWithin {l : Launch} {fr : Bool} {n : Nat} {v0 : Nat} {v1 : Int32} {v2 : Int32} {μ : ZMem} {z : ZMem × Int32} (h : fX6_overWithin n v0 v1 v2 μ = some z) : ZFn l mX6_overWithin (rmd 6) [.ref v0, .int v1, .int v2] fr n μ (fr, n, z.1, some (.int z.2)) := by
  unfold fX6_overWithin at h
  obtain ⟨c_v0, h⟩ := chk_some h
  refine ZFn.of (ls := [(0, .ref v0), (1, .int v1), (2, .int v2)]) (by decide) (fun ξ => Nat.le_of_ble_eq_true rfl) (fun ξ => rfl) ?_
  refine V_aload_n 0 (zdk tbX6_overWithin_0_ok 0 rfl) rfl ?_
  obtain ⟨r1, q2, h⟩ := bd1_some h
  obtain ⟨q2, c_r1⟩ := zRc_some q2
  refine V_getR (zdk tbX6_overWithin_0_ok 1 rfl) c_v0 fF6_26 rfl q2 ?_
  refine V_aload_n 0 (zdk tbX6_overWithin_0_ok 2 rfl) rfl ?_
  obtain ⟨r3, q4, h⟩ := bd1_some h
  obtain ⟨q4, c_r3⟩ := zRc_some q4
  refine V_getR (zdk tbX6_overWithin_0_ok 3 rfl) c_v0 fF6_19 rfl q4 ?_
  obtain ⟨μ6, q5, h⟩ := bd1_some h
  refine V_callV (R1 := (rmd 2)) (As := [.ref r3]) (r := none) (zdk tbX6_overWithin_0_ok 4 rfl) sC6_196 (tX4_load q5) (c_r1) rfl rfl rfl ⟨Nat.le_of_ble_eq_true rfl, Nat.le_of_ble_eq_true rfl⟩ (Nat.le_of_ble_eq_true rfl) ⟨rfl, rfl⟩ id ?_
  refine V_aload_n 0 (zdk tbX6_overWithin_0_ok 5 rfl) rfl ?_
  obtain ⟨r7, q8, h⟩ := bd1_some h
  obtain ⟨q8, c_r7⟩ := zRc_some q8
  refine V_getR (zdk tbX6_overWithin_0_ok 6 rfl) c_v0 fF6_26 rfl q8 ?_
  refine V_iload_n 1 (zdk tbX6_overWithin_0_ok 7 rfl) rfl ?_
  obtain ⟨μ9, e10, h⟩ := lt_some h
  refine V_putI (zdk tbX6_overWithin_0_ok 8 rfl) c_r7 fF6_141 rfl rfl rfl e10 ?_
  refine V_aload_n 0 (zdk tbX6_overWithin_0_ok 9 rfl) rfl ?_
  obtain ⟨r11, q12, h⟩ := bd1_some h
  obtain ⟨q12, c_r11⟩ := zRc_some q12
  refine V_getR (zdk tbX6_overWithin_0_ok 10 rfl) c_v0 fF6_26 rfl q12 ?_
  refine V_iload_n 2 (zdk tbX6_overWithin_0_ok 11 rfl) rfl ?_
  refine V_iconst (v := (-1)) (zdk tbX6_overWithin_0_ok 12 rfl) rfl ?_
  obtain ⟨μ14, r15, q13, h⟩ := bd2_some h
  refine V_callV (R1 := (rmd 5)) (As := [.int v2, .int (-1 : Int32)]) (r := (some (.int r15))) (zdk tbX6_overWithin_0_ok 13 rfl) sC6_206 (tX4_stepsToWay q13) (c_r11) rfl rfl rfl ⟨Nat.le_of_ble_eq_true rfl, Nat.le_of_ble_eq_true rfl⟩ (Nat.le_of_ble_eq_true rfl) ⟨rfl, rfl⟩ id ?_
  cases h
  exact V_iret (zdk tbX6_overWithin_0_ok 14 rfl) rfl rfl

-- WhoComplainsCarries.weights
def tbX6_weights_0 : List (Nat × Instr × Nat) := [(0, .iload_n 2, 1), (1, .iconst 0, 1), (2, .iconst 1, 1), (3, .invokestatic 153, 3), (6, .ifCond .ne 10, 3), (9, .aload_n 0, 1), (10, .bipush (-5), 2), (12, .invokevirtual 173, 3), (15, .ireturn, 1), (16, .iload_n 1, 1), (17, .iconst 0, 1), (18, .sipush 200, 3), (21, .invokestatic 153, 3), (24, .ifCond .ne 10, 3), (27, .aload_n 0, 1), (28, .bipush (-6), 2), (30, .invokevirtual 173, 3), (33, .ireturn, 1), (34, .iconst 0, 1), (35, .istore_n 3, 1), (36, .iconst (-1), 1), (37, .istore 4, 2), (39, .bipush 99, 2), (41, .istore 5, 2), (43, .iload 5, 2), (45, .iconst 1, 1), (46, .if_icmp .lt 27, 3), (49, .aload_n 0, 1), (50, .iload 5, 2), (52, .iload_n 1, 1), (53, .invokevirtual 246, 3), (56, .iload_n 1, 1), (57, .if_icmp .ne 10, 3), (60, .iinc 3 1, 3), (63, .iload 5, 2), (65, .istore 4, 2), (67, .iinc 5 (-1), 3), (70, .goto (-27), 3), (73, .iload_n 2, 1), (74, .ifCond .ne 7, 3), (77, .iload_n 3, 1), (78, .goto 5, 3), (81, .iload 4, 2), (83, .ireturn, 1)]
theorem tbX6_weights_0_ok : ∀ q ∈ tbX6_weights_0, decode cX6_weights q.1 = .ok (q.2.1, q.2.2) := by decide +kernel
theorem wCX6_overWithin : zCW mX6_overWithin 2 := ⟨zin (i := 1) (by decide +kernel) rfl, zin (i := 691) (by decide +kernel) rfl, by decide +kernel, by decide +kernel, by decide +kernel⟩
theorem sC6_246 : zCV RX6 246 mX6_overWithin 2 := ⟨zin (i := 688) (by decide +kernel) rfl, zin (i := 690) (by decide +kernel) rfl, zinP (i := 22) (q := (yX6_overWithin, 10)) (by decide +kernel) rfl, wCX6_overWithin⟩
def fX6_weights_b67 (g43 : Nat → Int32 → Int32 → Int32 → Int32 → Int32 → ZMem → Option (ZMem × Int32)) (n : Nat) (v0 : Nat) (v1 : Int32) (v2 : Int32) (v3 : Int32) (v4 : Int32) (v5 : Int32) (μ : ZMem) : Option (ZMem × Int32) := (g43 v0 v1 v2 v3 v4 (v5 + (-1 : Int32)) μ)
theorem tX6_weights_b67 {l : Launch} {fr : Bool} {n : Nat} {z : ZMem × Int32} {g43 : Nat → Int32 → Int32 → Int32 → Int32 → Int32 → ZMem → Option (ZMem × Int32)} (hg43 : ∀ (v0 : Nat) (v1 : Int32) (v2 : Int32) (v3 : Int32) (v4 : Int32) (v5 : Int32) (μ : ZMem), isC n 6 v0 = true → g43 v0 v1 v2 v3 v4 v5 μ = some z → V (zkI l mX6_weights (rmd 7) fr n z) fr 43 [(0, .ref v0), (1, .int v1), (2, .int v2), (3, .int v3), (4, .int v4), (5, .int v5)] [] n μ) (v0 : Nat) (v1 : Int32) (v2 : Int32) (v3 : Int32) (v4 : Int32) (v5 : Int32) (μ : ZMem) (c_v0 : isC n 6 v0 = true) (h : fX6_weights_b67 g43 n v0 v1 v2 v3 v4 v5 μ = some z) : V (zkI l mX6_weights (rmd 7) fr n z) fr 67 [(0, .ref v0), (1, .int v1), (2, .int v2), (3, .int v3), (4, .int v4), (5, .int v5)] [] n μ := by
  unfold fX6_weights_b67 at h
  refine V_inc (dx := (-1)) (ls' := [(0, .ref v0), (1, .int v1), (2, .int v2), (3, .int v3), (4, .int v4), (5, .int (v5 + (-1 : Int32)))]) 5 [1, 2, 3, 4, 5, 0] (zdk tbX6_weights_0_ok 36 rfl) rfl (Nat.le_of_ble_eq_true rfl) rfl rfl ?_
  refine V_goto (tgt := 43) (zdk tbX6_weights_0_ok 37 rfl) (by decide) ?_
  exact hg43 v0 v1 v2 v3 v4 (v5 + (-1 : Int32)) μ c_v0 h
def fX6_weights_b83 (n : Nat) (s0 : Int32) (μ : ZMem) : Option (ZMem × Int32) := some (μ, s0)
theorem tX6_weights_b83 {l : Launch} {fr : Bool} {n : Nat} {z : ZMem × Int32} (s0 : Int32) (μ : ZMem) (h : fX6_weights_b83 n s0 μ = some z) : V (zkI l mX6_weights (rmd 7) fr n z) fr 83 [] [.int s0] n μ := by
  unfold fX6_weights_b83 at h
  cases h
  exact V_iret (zdk tbX6_weights_0_ok 43 rfl) rfl rfl
def fX6_weights_b43 (n : Nat) : Nat → Nat → Int32 → Int32 → Int32 → Int32 → Int32 → ZMem → Option (ZMem × Int32)
  | 0, _, _, _, _, _, _, _ => none
  | k + 1, v0, v1, v2, v3, v4, v5, μ => (if v5 < (1 : Int32) then (if v2 = 0 then (fX6_weights_b83 n v3 μ) else (fX6_weights_b83 n v4 μ)) else bd2 (fX6_overWithin n v0 v5 v1 μ) (fun μ4 r5 => (if r5 = v1 then (fX6_weights_b67 (fX6_weights_b43 n k) n v0 v1 v2 (v3 + (1 : Int32)) v5 v5 μ4) else (fX6_weights_b67 (fX6_weights_b43 n k) n v0 v1 v2 v3 v4 v5 μ4))))
theorem tX6_weights_b43 {l : Launch} {fr : Bool} {n : Nat} {z : ZMem × Int32} : ∀ (k : Nat) (v0 : Nat) (v1 : Int32) (v2 : Int32) (v3 : Int32) (v4 : Int32) (v5 : Int32) (μ : ZMem) (c_v0 : isC n 6 v0 = true), fX6_weights_b43 n k v0 v1 v2 v3 v4 v5 μ = some z → V (zkI l mX6_weights (rmd 7) fr n z) fr 43 [(0, .ref v0), (1, .int v1), (2, .int v2), (3, .int v3), (4, .int v4), (5, .int v5)] [] n μ := by
  intro k
  induction k with
  | zero =>
    intro v0 v1 v2 v3 v4 v5 μ c_v0 h
    unfold fX6_weights_b43 at h
    cases h
  | succ k ih =>
    intro v0 v1 v2 v3 v4 v5 μ c_v0 h
    unfold fX6_weights_b43 at h
    refine V_iload 5 (zdk tbX6_weights_0_ok 24 rfl) rfl ?_
    refine V_iconst (v := 1) (zdk tbX6_weights_0_ok 25 rfl) rfl ?_
    refine V_icmp_lt (tgt := 73) (zdk tbX6_weights_0_ok 26 rfl) (by decide) (fun c1 => ?_) (fun c1 => ?_)
    · replace h := ite_t h c1
      refine V_iload_n 2 (zdk tbX6_weights_0_ok 38 rfl) rfl ?_
      refine V_if_ne (tgt := 81) (zdk tbX6_weights_0_ok 39 rfl) (by decide) (fun c2 => ?_) (fun c2 => ?_)
      · replace h := ite_f h c2
        refine V_iload 4 (zdk tbX6_weights_0_ok 42 rfl) rfl ?_
        refine V_sub (ls' := []) [] rfl ?_
        exact tX6_weights_b83 v4 μ  h
      · replace h := ite_t h c2
        refine V_iload_n 3 (zdk tbX6_weights_0_ok 40 rfl) rfl ?_
        refine V_goto (tgt := 83) (zdk tbX6_weights_0_ok 41 rfl) (by decide) ?_
        refine V_sub (ls' := []) [] rfl ?_
        exact tX6_weights_b83 v3 μ  h
    · replace h := ite_f h c1
      refine V_aload_n 0 (zdk tbX6_weights_0_ok 27 rfl) rfl ?_
      refine V_iload 5 (zdk tbX6_weights_0_ok 28 rfl) rfl ?_
      refine V_iload_n 1 (zdk tbX6_weights_0_ok 29 rfl) rfl ?_
      obtain ⟨μ4, r5, q3, h⟩ := bd2_some h
      refine V_callV (R1 := (rmd 6)) (As := [.int v5, .int v1]) (r := (some (.int r5))) (zdk tbX6_weights_0_ok 30 rfl) sC6_246 (tX6_overWithin q3) (c_v0) rfl rfl rfl ⟨Nat.le_of_ble_eq_true rfl, Nat.le_of_ble_eq_true rfl⟩ (Nat.le_of_ble_eq_true rfl) ⟨rfl, rfl⟩ id ?_
      refine V_iload_n 1 (zdk tbX6_weights_0_ok 31 rfl) rfl ?_
      refine V_icmp_ne (tgt := 67) (zdk tbX6_weights_0_ok 32 rfl) (by decide) (fun c6 => ?_) (fun c6 => ?_)
      · replace h := ite_f h c6
        exact tX6_weights_b67 (fun v0 v1 v2 v3 v4 v5 μ y0 h => ih v0 v1 v2 v3 v4 v5 μ y0 h) v0 v1 v2 v3 v4 v5 μ4 c_v0 h
      · replace h := ite_t h c6
        refine V_inc (dx := 1) (ls' := [(0, .ref v0), (1, .int v1), (2, .int v2), (3, .int (v3 + (1 : Int32))), (5, .int v5)]) 3 [1, 2, 3, 0, 5] (zdk tbX6_weights_0_ok 33 rfl) rfl (Nat.le_of_ble_eq_true rfl) rfl rfl ?_
        refine V_iload 4 (zdk tbX6_weights_0_ok 34 rfl) rfl ?_
        refine V_istore (ls' := [(0, .ref v0), (1, .int v1), (2, .int v2), (3, .int (v3 + (1 : Int32))), (4, .int v5), (5, .int v5)]) [1, 2, 3, 4, 0, 5] (zdk tbX6_weights_0_ok 35 rfl) (Nat.le_of_ble_eq_true rfl) rfl ?_
        exact tX6_weights_b67 (fun v0 v1 v2 v3 v4 v5 μ y0 h => ih v0 v1 v2 v3 v4 v5 μ y0 h) v0 v1 v2 (v3 + (1 : Int32)) v5 v5 μ4 c_v0 h
def fX6_weights (n : Nat) (v0 : Nat) (v1 : Int32) (v2 : Int32) (μ : ZMem) : Option (ZMem × Int32) := chk (isC n 6 v0) (bd2 (fX6_isIn n v2 (0 : Int32) (1 : Int32) μ) (fun μ2 r3 => (if r3 = 0 then bd2 (fX6_refuseFar n v0 (-5 : Int32) μ2) (fun μ13 r14 => some (μ13, r14)) else bd2 (fX6_isIn n v1 (0 : Int32) (200 : Int32) μ2) (fun μ6 r7 => (if r7 = 0 then bd2 (fX6_refuseFar n v0 (-6 : Int32) μ6) (fun μ10 r11 => some (μ10, r11)) else (fX6_weights_b43 n FU v0 v1 v2 (0 : Int32) (-1 : Int32) (99 : Int32) μ6))))))
theorem tX6_weights {l : Launch} {fr : Bool} {n : Nat} {v0 : Nat} {v1 : Int32} {v2 : Int32} {μ : ZMem} {z : ZMem × Int32} (h : fX6_weights n v0 v1 v2 μ = some z) : ZFn l mX6_weights (rmd 7) [.ref v0, .int v1, .int v2] fr n μ (fr, n, z.1, some (.int z.2)) := by
  unfold fX6_weights at h
  obtain ⟨c_v0, h⟩ := chk_some h
  refine ZFn.of (ls := [(0, .ref v0), (1, .int v1), (2, .int v2)]) (by decide) (fun ξ => Nat.le_of_ble_eq_true rfl) (fun ξ => rfl) ?_
  refine V_iload_n 2 (zdk tbX6_weights_0_ok 0 rfl) rfl ?_
  refine V_iconst (v := 0) (zdk tbX6_weights_0_ok 1 rfl) rfl ?_
  refine V_iconst (v := 1) (zdk tbX6_weights_0_ok 2 rfl) rfl ?_
  obtain ⟨μ2, r3, q1, h⟩ := bd2_some h
  refine V_callS (R1 := (rmd 1)) (As := [.int v2, .int (0 : Int32), .int (1 : Int32)]) (r := (some (.int r3))) (zdk tbX6_weights_0_ok 3 rfl) sC6_153 (tX6_isIn q1) rfl rfl ⟨Nat.le_of_ble_eq_true rfl, Nat.le_of_ble_eq_true rfl⟩ (Nat.le_of_ble_eq_true rfl) ⟨rfl, rfl⟩ id ?_
  refine V_if_ne (tgt := 16) (zdk tbX6_weights_0_ok 4 rfl) (by decide) (fun c4 => ?_) (fun c4 => ?_)
  · replace h := ite_f h c4
    refine V_iload_n 1 (zdk tbX6_weights_0_ok 9 rfl) rfl ?_
    refine V_iconst (v := 0) (zdk tbX6_weights_0_ok 10 rfl) rfl ?_
    refine V_sipush (v := 200) (zdk tbX6_weights_0_ok 11 rfl) rfl ?_
    obtain ⟨μ6, r7, q5, h⟩ := bd2_some h
    refine V_callS (R1 := (rmd 1)) (As := [.int v1, .int (0 : Int32), .int (200 : Int32)]) (r := (some (.int r7))) (zdk tbX6_weights_0_ok 12 rfl) sC6_153 (tX6_isIn q5) rfl rfl ⟨Nat.le_of_ble_eq_true rfl, Nat.le_of_ble_eq_true rfl⟩ (Nat.le_of_ble_eq_true rfl) ⟨rfl, rfl⟩ id ?_
    refine V_if_ne (tgt := 34) (zdk tbX6_weights_0_ok 13 rfl) (by decide) (fun c8 => ?_) (fun c8 => ?_)
    · replace h := ite_f h c8
      refine V_iconst (v := 0) (zdk tbX6_weights_0_ok 18 rfl) rfl ?_
      refine V_istore_n (ls' := [(0, .ref v0), (1, .int v1), (2, .int v2), (3, .int (0 : Int32))]) [1, 2, 3, 0] (zdk tbX6_weights_0_ok 19 rfl) (Nat.le_of_ble_eq_true rfl) rfl ?_
      refine V_iconst (v := (-1)) (zdk tbX6_weights_0_ok 20 rfl) rfl ?_
      refine V_istore (ls' := [(0, .ref v0), (1, .int v1), (2, .int v2), (3, .int (0 : Int32)), (4, .int (-1 : Int32))]) [1, 2, 3, 4, 0] (zdk tbX6_weights_0_ok 21 rfl) (Nat.le_of_ble_eq_true rfl) rfl ?_
      refine V_bipush (v := 99) (zdk tbX6_weights_0_ok 22 rfl) rfl ?_
      refine V_istore (ls' := [(0, .ref v0), (1, .int v1), (2, .int v2), (3, .int (0 : Int32)), (4, .int (-1 : Int32)), (5, .int (99 : Int32))]) [1, 2, 3, 4, 5, 0] (zdk tbX6_weights_0_ok 23 rfl) (Nat.le_of_ble_eq_true rfl) rfl ?_
      exact tX6_weights_b43 FU v0 v1 v2 (0 : Int32) (-1 : Int32) (99 : Int32) μ6 c_v0 h
    · replace h := ite_t h c8
      refine V_aload_n 0 (zdk tbX6_weights_0_ok 14 rfl) rfl ?_
      refine V_bipush (v := (-6)) (zdk tbX6_weights_0_ok 15 rfl) rfl ?_
      obtain ⟨μ10, r11, q9, h⟩ := bd2_some h
      refine V_callV (R1 := (rmd 3)) (As := [.int (-6 : Int32)]) (r := (some (.int r11))) (zdk tbX6_weights_0_ok 16 rfl) sC6_173 (tX6_refuseFar q9) (c_v0) rfl rfl rfl ⟨Nat.le_of_ble_eq_true rfl, Nat.le_of_ble_eq_true rfl⟩ (Nat.le_of_ble_eq_true rfl) ⟨rfl, rfl⟩ id ?_
      cases h
      exact V_iret (zdk tbX6_weights_0_ok 17 rfl) rfl rfl
  · replace h := ite_t h c4
    refine V_aload_n 0 (zdk tbX6_weights_0_ok 5 rfl) rfl ?_
    refine V_bipush (v := (-5)) (zdk tbX6_weights_0_ok 6 rfl) rfl ?_
    obtain ⟨μ13, r14, q12, h⟩ := bd2_some h
    refine V_callV (R1 := (rmd 3)) (As := [.int (-5 : Int32)]) (r := (some (.int r14))) (zdk tbX6_weights_0_ok 7 rfl) sC6_173 (tX6_refuseFar q12) (c_v0) rfl rfl rfl ⟨Nat.le_of_ble_eq_true rfl, Nat.le_of_ble_eq_true rfl⟩ (Nat.le_of_ble_eq_true rfl) ⟨rfl, rfl⟩ id ?_
    cases h
    exact V_iret (zdk tbX6_weights_0_ok 8 rfl) rfl rfl

-- WhoComplainsCarries.praise
def tbX6_praise_0 : List (Nat × Instr × Nat) := [(0, .iload_n 1, 1), (1, .iconst 0, 1), (2, .sipush 200, 3), (5, .invokestatic 153, 3), (8, .ifCond .ne 10, 3), (11, .aload_n 0, 1), (12, .bipush (-6), 2), (14, .invokevirtual 173, 3), (17, .ireturn, 1), (18, .aload_n 0, 1), (19, .aload_n 0, 1), (20, .getfield 19, 3), (23, .getfield 141, 3), (26, .iload_n 1, 1), (27, .invokevirtual 246, 3), (30, .iconst (-1), 1), (31, .if_icmp .ne 5, 3), (34, .iconst (-1), 1), (35, .ireturn, 1), (36, .aload_n 0, 1), (37, .getfield 19, 3), (40, .getfield 141, 3), (43, .iconst 1, 1), (44, .iadd, 1), (45, .istore_n 2, 1), (46, .iload_n 2, 1), (47, .bipush 99, 2), (49, .if_icmp .gt 29, 3), (52, .aload_n 0, 1), (53, .iload_n 2, 1), (54, .iload_n 1, 1), (55, .invokevirtual 246, 3), (58, .iconst (-1), 1), (59, .if_icmp .ne 13, 3), (62, .iload_n 2, 1), (63, .aload_n 0, 1), (64, .getfield 19, 3), (67, .getfield 141, 3), (70, .isub, 1), (71, .ireturn, 1), (72, .iinc 2 1, 3), (75, .goto (-29), 3), (78, .iconst (-1), 1), (79, .ireturn, 1)]
theorem tbX6_praise_0_ok : ∀ q ∈ tbX6_praise_0, decode cX6_praise q.1 = .ok (q.2.1, q.2.2) := by decide +kernel
def fX6_praise_b46 (n : Nat) : Nat → Nat → Int32 → Int32 → ZMem → Option (ZMem × Int32)
  | 0, _, _, _, _ => none
  | k + 1, v0, v1, v2, μ => (if (99 : Int32) < v2 then some (μ, (-1 : Int32)) else bd2 (fX6_overWithin n v0 v2 v1 μ) (fun μ3 r4 => (if r4 = (-1 : Int32) then bd1 (zRc n 4 μ3 v0 1) (fun r6 => some (μ3, (v2 - (zI μ3 r6 2)))) else (fX6_praise_b46 n k v0 v1 (v2 + (1 : Int32)) μ3))))
theorem tX6_praise_b46 {l : Launch} {fr : Bool} {n : Nat} {z : ZMem × Int32} : ∀ (k : Nat) (v0 : Nat) (v1 : Int32) (v2 : Int32) (μ : ZMem) (c_v0 : isC n 6 v0 = true), fX6_praise_b46 n k v0 v1 v2 μ = some z → V (zkI l mX6_praise (rmd 7) fr n z) fr 46 [(0, .ref v0), (1, .int v1), (2, .int v2)] [] n μ := by
  intro k
  induction k with
  | zero =>
    intro v0 v1 v2 μ c_v0 h
    unfold fX6_praise_b46 at h
    cases h
  | succ k ih =>
    intro v0 v1 v2 μ c_v0 h
    unfold fX6_praise_b46 at h
    refine V_iload_n 2 (zdk tbX6_praise_0_ok 25 rfl) rfl ?_
    refine V_bipush (v := 99) (zdk tbX6_praise_0_ok 26 rfl) rfl ?_
    refine V_icmp_gt (tgt := 78) (zdk tbX6_praise_0_ok 27 rfl) (by decide) (fun c1 => ?_) (fun c1 => ?_)
    · replace h := ite_t h c1
      refine V_iconst (v := (-1)) (zdk tbX6_praise_0_ok 42 rfl) rfl ?_
      cases h
      exact V_iret (zdk tbX6_praise_0_ok 43 rfl) rfl rfl
    · replace h := ite_f h c1
      refine V_aload_n 0 (zdk tbX6_praise_0_ok 28 rfl) rfl ?_
      refine V_iload_n 2 (zdk tbX6_praise_0_ok 29 rfl) rfl ?_
      refine V_iload_n 1 (zdk tbX6_praise_0_ok 30 rfl) rfl ?_
      obtain ⟨μ3, r4, q2, h⟩ := bd2_some h
      refine V_callV (R1 := (rmd 6)) (As := [.int v2, .int v1]) (r := (some (.int r4))) (zdk tbX6_praise_0_ok 31 rfl) sC6_246 (tX6_overWithin q2) (c_v0) rfl rfl rfl ⟨Nat.le_of_ble_eq_true rfl, Nat.le_of_ble_eq_true rfl⟩ (Nat.le_of_ble_eq_true rfl) ⟨rfl, rfl⟩ id ?_
      refine V_iconst (v := (-1)) (zdk tbX6_praise_0_ok 32 rfl) rfl ?_
      refine V_icmp_ne (tgt := 72) (zdk tbX6_praise_0_ok 33 rfl) (by decide) (fun c5 => ?_) (fun c5 => ?_)
      · replace h := ite_f h c5
        refine V_inc (dx := 1) (ls' := [(0, .ref v0), (1, .int v1), (2, .int (v2 + (1 : Int32)))]) 2 [1, 2, 0] (zdk tbX6_praise_0_ok 40 rfl) rfl (Nat.le_of_ble_eq_true rfl) rfl rfl ?_
        refine V_goto (tgt := 46) (zdk tbX6_praise_0_ok 41 rfl) (by decide) ?_
        exact ih v0 v1 (v2 + (1 : Int32)) μ3 c_v0 h
      · replace h := ite_t h c5
        refine V_iload_n 2 (zdk tbX6_praise_0_ok 34 rfl) rfl ?_
        refine V_aload_n 0 (zdk tbX6_praise_0_ok 35 rfl) rfl ?_
        obtain ⟨r6, q7, h⟩ := bd1_some h
        obtain ⟨q7, c_r6⟩ := zRc_some q7
        refine V_getR (zdk tbX6_praise_0_ok 36 rfl) c_v0 fF6_19 rfl q7 ?_
        refine V_getI (zdk tbX6_praise_0_ok 37 rfl) c_r6 fF6_141 rfl ?_
        refine V_isub (zdk tbX6_praise_0_ok 38 rfl) ?_
        cases h
        exact V_iret (zdk tbX6_praise_0_ok 39 rfl) rfl rfl
def fX6_praise (n : Nat) (v0 : Nat) (v1 : Int32) (μ : ZMem) : Option (ZMem × Int32) := chk (isC n 6 v0) (bd2 (fX6_isIn n v1 (0 : Int32) (200 : Int32) μ) (fun μ2 r3 => (if r3 = 0 then bd2 (fX6_refuseFar n v0 (-6 : Int32) μ2) (fun μ14 r15 => some (μ14, r15)) else bd1 (zRc n 4 μ2 v0 1) (fun r5 => bd2 (fX6_overWithin n v0 (zI μ2 r5 2) v1 μ2) (fun μ8 r9 => (if r9 = (-1 : Int32) then some (μ8, (-1 : Int32)) else bd1 (zRc n 4 μ8 v0 1) (fun r11 => (fX6_praise_b46 n FU v0 v1 ((zI μ8 r11 2) + (1 : Int32)) μ8))))))))
theorem tX6_praise {l : Launch} {fr : Bool} {n : Nat} {v0 : Nat} {v1 : Int32} {μ : ZMem} {z : ZMem × Int32} (h : fX6_praise n v0 v1 μ = some z) : ZFn l mX6_praise (rmd 7) [.ref v0, .int v1] fr n μ (fr, n, z.1, some (.int z.2)) := by
  unfold fX6_praise at h
  obtain ⟨c_v0, h⟩ := chk_some h
  refine ZFn.of (ls := [(0, .ref v0), (1, .int v1)]) (by decide) (fun ξ => Nat.le_of_ble_eq_true rfl) (fun ξ => rfl) ?_
  refine V_iload_n 1 (zdk tbX6_praise_0_ok 0 rfl) rfl ?_
  refine V_iconst (v := 0) (zdk tbX6_praise_0_ok 1 rfl) rfl ?_
  refine V_sipush (v := 200) (zdk tbX6_praise_0_ok 2 rfl) rfl ?_
  obtain ⟨μ2, r3, q1, h⟩ := bd2_some h
  refine V_callS (R1 := (rmd 1)) (As := [.int v1, .int (0 : Int32), .int (200 : Int32)]) (r := (some (.int r3))) (zdk tbX6_praise_0_ok 3 rfl) sC6_153 (tX6_isIn q1) rfl rfl ⟨Nat.le_of_ble_eq_true rfl, Nat.le_of_ble_eq_true rfl⟩ (Nat.le_of_ble_eq_true rfl) ⟨rfl, rfl⟩ id ?_
  refine V_if_ne (tgt := 18) (zdk tbX6_praise_0_ok 4 rfl) (by decide) (fun c4 => ?_) (fun c4 => ?_)
  · replace h := ite_f h c4
    refine V_aload_n 0 (zdk tbX6_praise_0_ok 9 rfl) rfl ?_
    refine V_aload_n 0 (zdk tbX6_praise_0_ok 10 rfl) rfl ?_
    obtain ⟨r5, q6, h⟩ := bd1_some h
    obtain ⟨q6, c_r5⟩ := zRc_some q6
    refine V_getR (zdk tbX6_praise_0_ok 11 rfl) c_v0 fF6_19 rfl q6 ?_
    refine V_getI (zdk tbX6_praise_0_ok 12 rfl) c_r5 fF6_141 rfl ?_
    refine V_iload_n 1 (zdk tbX6_praise_0_ok 13 rfl) rfl ?_
    obtain ⟨μ8, r9, q7, h⟩ := bd2_some h
    refine V_callV (R1 := (rmd 6)) (As := [.int (zI μ2 r5 2), .int v1]) (r := (some (.int r9))) (zdk tbX6_praise_0_ok 14 rfl) sC6_246 (tX6_overWithin q7) (c_v0) rfl rfl rfl ⟨Nat.le_of_ble_eq_true rfl, Nat.le_of_ble_eq_true rfl⟩ (Nat.le_of_ble_eq_true rfl) ⟨rfl, rfl⟩ id ?_
    refine V_iconst (v := (-1)) (zdk tbX6_praise_0_ok 15 rfl) rfl ?_
    refine V_icmp_ne (tgt := 36) (zdk tbX6_praise_0_ok 16 rfl) (by decide) (fun c10 => ?_) (fun c10 => ?_)
    · replace h := ite_f h c10
      refine V_aload_n 0 (zdk tbX6_praise_0_ok 19 rfl) rfl ?_
      obtain ⟨r11, q12, h⟩ := bd1_some h
      obtain ⟨q12, c_r11⟩ := zRc_some q12
      refine V_getR (zdk tbX6_praise_0_ok 20 rfl) c_v0 fF6_19 rfl q12 ?_
      refine V_getI (zdk tbX6_praise_0_ok 21 rfl) c_r11 fF6_141 rfl ?_
      refine V_iconst (v := 1) (zdk tbX6_praise_0_ok 22 rfl) rfl ?_
      refine V_iadd (zdk tbX6_praise_0_ok 23 rfl) ?_
      refine V_istore_n (ls' := [(0, .ref v0), (1, .int v1), (2, .int ((zI μ8 r11 2) + (1 : Int32)))]) [1, 2, 0] (zdk tbX6_praise_0_ok 24 rfl) (Nat.le_of_ble_eq_true rfl) rfl ?_
      exact tX6_praise_b46 FU v0 v1 ((zI μ8 r11 2) + (1 : Int32)) μ8 c_v0 h
    · replace h := ite_t h c10
      refine V_iconst (v := (-1)) (zdk tbX6_praise_0_ok 17 rfl) rfl ?_
      cases h
      exact V_iret (zdk tbX6_praise_0_ok 18 rfl) rfl rfl
  · replace h := ite_t h c4
    refine V_aload_n 0 (zdk tbX6_praise_0_ok 5 rfl) rfl ?_
    refine V_bipush (v := (-6)) (zdk tbX6_praise_0_ok 6 rfl) rfl ?_
    obtain ⟨μ14, r15, q13, h⟩ := bd2_some h
    refine V_callV (R1 := (rmd 3)) (As := [.int (-6 : Int32)]) (r := (some (.int r15))) (zdk tbX6_praise_0_ok 7 rfl) sC6_173 (tX6_refuseFar q13) (c_v0) rfl rfl rfl ⟨Nat.le_of_ble_eq_true rfl, Nat.le_of_ble_eq_true rfl⟩ (Nat.le_of_ble_eq_true rfl) ⟨rfl, rfl⟩ id ?_
    cases h
    exact V_iret (zdk tbX6_praise_0_ok 8 rfl) rfl rfl

-- WhoComplainsCarries.talkRefusal
def tbX6_talkRefusal_0 : List (Nat × Instr × Nat) := [(0, .aload_n 0, 1), (1, .iload_n 1, 1), (2, .iload_n 2, 1), (3, .iload_n 2, 1), (4, .i2l, 1), (5, .iload_n 3, 1), (6, .invokevirtual 238, 3), (9, .istore 4, 2), (11, .iload 4, 2), (13, .ifCond .eq 6, 3), (16, .iload 4, 2), (18, .ireturn, 1), (19, .iload_n 2, 1), (20, .bipush 40, 2), (22, .if_icmp .le 8, 3), (25, .bipush (-6), 2), (27, .goto 4, 3), (30, .iconst 0, 1), (31, .ireturn, 1)]
theorem tbX6_talkRefusal_0_ok : ∀ q ∈ tbX6_talkRefusal_0, decode cX6_talkRefusal q.1 = .ok (q.2.1, q.2.2) := by decide +kernel
def fX6_talkRefusal_b31 (n : Nat) (s0 : Int32) (μ : ZMem) : Option (ZMem × Int32) := some (μ, s0)
theorem tX6_talkRefusal_b31 {l : Launch} {fr : Bool} {n : Nat} {z : ZMem × Int32} (s0 : Int32) (μ : ZMem) (h : fX6_talkRefusal_b31 n s0 μ = some z) : V (zkI l mX6_talkRefusal (rmd 5) fr n z) fr 31 [] [.int s0] n μ := by
  unfold fX6_talkRefusal_b31 at h
  cases h
  exact V_iret (zdk tbX6_talkRefusal_0_ok 18 rfl) rfl rfl
def fX6_talkRefusal (n : Nat) (v0 : Nat) (v1 : Int32) (v2 : Int32) (v3 : Int32) (μ : ZMem) : Option (ZMem × Int32) := chk (isC n 6 v0) (bd2 (fX6_toldRefusal n v0 v1 v2 (v2.toInt64) v3 μ) (fun μ2 r3 => (if r3 = 0 then (if v2 ≤ (40 : Int32) then (fX6_talkRefusal_b31 n (0 : Int32) μ2) else (fX6_talkRefusal_b31 n (-6 : Int32) μ2)) else some (μ2, r3))))
theorem tX6_talkRefusal {l : Launch} {fr : Bool} {n : Nat} {v0 : Nat} {v1 : Int32} {v2 : Int32} {v3 : Int32} {μ : ZMem} {z : ZMem × Int32} (h : fX6_talkRefusal n v0 v1 v2 v3 μ = some z) : ZFn l mX6_talkRefusal (rmd 5) [.ref v0, .int v1, .int v2, .int v3] fr n μ (fr, n, z.1, some (.int z.2)) := by
  unfold fX6_talkRefusal at h
  obtain ⟨c_v0, h⟩ := chk_some h
  refine ZFn.of (ls := [(0, .ref v0), (1, .int v1), (2, .int v2), (3, .int v3)]) (by decide) (fun ξ => Nat.le_of_ble_eq_true rfl) (fun ξ => rfl) ?_
  refine V_aload_n 0 (zdk tbX6_talkRefusal_0_ok 0 rfl) rfl ?_
  refine V_iload_n 1 (zdk tbX6_talkRefusal_0_ok 1 rfl) rfl ?_
  refine V_iload_n 2 (zdk tbX6_talkRefusal_0_ok 2 rfl) rfl ?_
  refine V_iload_n 2 (zdk tbX6_talkRefusal_0_ok 3 rfl) rfl ?_
  refine V_i2l (zdk tbX6_talkRefusal_0_ok 4 rfl) rfl ?_
  refine V_iload_n 3 (zdk tbX6_talkRefusal_0_ok 5 rfl) rfl ?_
  obtain ⟨μ2, r3, q1, h⟩ := bd2_some h
  refine V_callV (R1 := (rmd 4)) (As := [.int v1, .int v2, .long (v2.toInt64), .int v3]) (r := (some (.int r3))) (zdk tbX6_talkRefusal_0_ok 6 rfl) sC6_238 (tX6_toldRefusal q1) (c_v0) rfl rfl rfl ⟨Nat.le_of_ble_eq_true rfl, Nat.le_of_ble_eq_true rfl⟩ (Nat.le_of_ble_eq_true rfl) ⟨rfl, rfl⟩ id ?_
  refine V_istore (ls' := [(2, .int v2), (4, .int r3)]) [3, 0] (zdk tbX6_talkRefusal_0_ok 7 rfl) (Nat.le_of_ble_eq_true rfl) rfl ?_
  refine V_iload 1 (zdk tbX6_talkRefusal_0_ok 8 rfl) rfl ?_
  refine V_if_eq (tgt := 19) (zdk tbX6_talkRefusal_0_ok 9 rfl) (by decide) (fun c4 => ?_) (fun c4 => ?_)
  · replace h := ite_t h c4
    refine V_iload_n 0 (zdk tbX6_talkRefusal_0_ok 12 rfl) rfl ?_
    refine V_bipush (v := 40) (zdk tbX6_talkRefusal_0_ok 13 rfl) rfl ?_
    refine V_icmp_le (tgt := 30) (zdk tbX6_talkRefusal_0_ok 14 rfl) (by decide) (fun c5 => ?_) (fun c5 => ?_)
    · replace h := ite_t h c5
      refine V_iconst (v := 0) (zdk tbX6_talkRefusal_0_ok 17 rfl) rfl ?_
      refine V_sub (ls' := []) [] rfl ?_
      exact tX6_talkRefusal_b31 (0 : Int32) μ2  h
    · replace h := ite_f h c5
      refine V_bipush (v := (-6)) (zdk tbX6_talkRefusal_0_ok 15 rfl) rfl ?_
      refine V_goto (tgt := 31) (zdk tbX6_talkRefusal_0_ok 16 rfl) (by decide) ?_
      refine V_sub (ls' := []) [] rfl ?_
      exact tX6_talkRefusal_b31 (-6 : Int32) μ2  h
  · replace h := ite_f h c4
    refine V_iload 1 (zdk tbX6_talkRefusal_0_ok 10 rfl) rfl ?_
    cases h
    exact V_iret (zdk tbX6_talkRefusal_0_ok 11 rfl) rfl rfl

-- WhoComplainsCarries.firstWrong
def tbX6_firstWrong_0 : List (Nat × Instr × Nat) := [(0, .iconst 0, 1), (1, .istore_n 3, 1), (2, .iload_n 3, 1), (3, .iload_n 2, 1), (4, .if_icmp .ge 44, 3), (7, .aload_n 1, 1), (8, .iload_n 3, 1), (9, .invokevirtual 301, 3), (12, .istore 4, 2), (14, .iload 4, 2), (16, .ifCond .lt 24, 3), (19, .aload_n 0, 1), (20, .iload 4, 2), (22, .bipush 10, 2), (24, .idiv, 1), (25, .invokevirtual 122, 3), (28, .ifCond .eq 12, 3), (31, .iload 4, 2), (33, .bipush 10, 2), (35, .irem, 1), (36, .iconst 5, 1), (37, .if_icmp .le 5, 3), (40, .iload_n 3, 1), (41, .ireturn, 1), (42, .iinc 3 1, 3), (45, .goto (-43), 3), (48, .iconst (-1), 1), (49, .ireturn, 1)]
theorem tbX6_firstWrong_0_ok : ∀ q ∈ tbX6_firstWrong_0, decode cX6_firstWrong q.1 = .ok (q.2.1, q.2.2) := by decide +kernel
def fX6_firstWrong_b40 (n : Nat) (v3 : Int32) (μ : ZMem) : Option (ZMem × Int32) := some (μ, v3)
theorem tX6_firstWrong_b40 {l : Launch} {fr : Bool} {n : Nat} {z : ZMem × Int32} (v3 : Int32) (μ : ZMem) (h : fX6_firstWrong_b40 n v3 μ = some z) : V (zkI l mX6_firstWrong (rmd 5) fr n z) fr 40 [(3, .int v3)] [] n μ := by
  unfold fX6_firstWrong_b40 at h
  refine V_iload_n 0 (zdk tbX6_firstWrong_0_ok 22 rfl) rfl ?_
  cases h
  exact V_iret (zdk tbX6_firstWrong_0_ok 23 rfl) rfl rfl
def fX6_firstWrong_b2 (n : Nat) : Nat → Nat → Nat → Int32 → Int32 → ZMem → Option (ZMem × Int32)
  | 0, _, _, _, _, _ => none
  | k + 1, v0, v1, v2, v3, μ => (if v2 ≤ v3 then some (μ, (-1 : Int32)) else bd2 (fX3_intAt n v1 v3 μ) (fun μ3 r4 => (if r4 < 0 then (fX6_firstWrong_b40 n v3 μ3) else bd2 (fX6_isPerson n v0 (r4 / (10 : Int32)) μ3) (fun μ8 r9 => (if r9 = 0 then (fX6_firstWrong_b40 n v3 μ8) else (if (r4 - r4 / (10 : Int32) * (10 : Int32)) ≤ (5 : Int32) then (fX6_firstWrong_b2 n k v0 v1 v2 (v3 + (1 : Int32)) μ8) else (fX6_firstWrong_b40 n v3 μ8)))))))
theorem tX6_firstWrong_b2 {l : Launch} {fr : Bool} {n : Nat} {z : ZMem × Int32} : ∀ (k : Nat) (v0 : Nat) (v1 : Nat) (v2 : Int32) (v3 : Int32) (μ : ZMem) (c_v0 : isC n 6 v0 = true) (c_v1 : isC n 3 v1 = true), fX6_firstWrong_b2 n k v0 v1 v2 v3 μ = some z → V (zkI l mX6_firstWrong (rmd 5) fr n z) fr 2 [(0, .ref v0), (1, .ref v1), (2, .int v2), (3, .int v3)] [] n μ := by
  intro k
  induction k with
  | zero =>
    intro v0 v1 v2 v3 μ c_v0 c_v1 h
    unfold fX6_firstWrong_b2 at h
    cases h
  | succ k ih =>
    intro v0 v1 v2 v3 μ c_v0 c_v1 h
    unfold fX6_firstWrong_b2 at h
    refine V_iload_n 3 (zdk tbX6_firstWrong_0_ok 2 rfl) rfl ?_
    refine V_iload_n 2 (zdk tbX6_firstWrong_0_ok 3 rfl) rfl ?_
    refine V_icmp_ge (tgt := 48) (zdk tbX6_firstWrong_0_ok 4 rfl) (by decide) (fun c1 => ?_) (fun c1 => ?_)
    · replace h := ite_t h c1
      refine V_iconst (v := (-1)) (zdk tbX6_firstWrong_0_ok 26 rfl) rfl ?_
      cases h
      exact V_iret (zdk tbX6_firstWrong_0_ok 27 rfl) rfl rfl
    · replace h := ite_f h c1
      refine V_aload_n 1 (zdk tbX6_firstWrong_0_ok 5 rfl) rfl ?_
      refine V_iload_n 3 (zdk tbX6_firstWrong_0_ok 6 rfl) rfl ?_
      obtain ⟨μ3, r4, q2, h⟩ := bd2_some h
      refine V_callV (R1 := (rmd 4)) (As := [.int v3]) (r := (some (.int r4))) (zdk tbX6_firstWrong_0_ok 7 rfl) sC6_301 (tX3_intAt q2) (c_v1) rfl rfl rfl ⟨Nat.le_of_ble_eq_true rfl, Nat.le_of_ble_eq_true rfl⟩ (Nat.le_of_ble_eq_true rfl) ⟨rfl, rfl⟩ id ?_
      refine V_istore (ls' := [(0, .ref v0), (1, .ref v1), (2, .int v2), (3, .int v3), (4, .int r4)]) [1, 2, 3, 4, 0] (zdk tbX6_firstWrong_0_ok 8 rfl) (Nat.le_of_ble_eq_true rfl) rfl ?_
      refine V_iload 4 (zdk tbX6_firstWrong_0_ok 9 rfl) rfl ?_
      refine V_if_lt (tgt := 40) (zdk tbX6_firstWrong_0_ok 10 rfl) (by decide) (fun c5 => ?_) (fun c5 => ?_)
      · replace h := ite_t h c5
        refine V_sub (ls' := [(3, .int v3)]) [3] rfl ?_
        exact tX6_firstWrong_b40 v3 μ3  h
      · replace h := ite_f h c5
        refine V_aload_n 0 (zdk tbX6_firstWrong_0_ok 11 rfl) rfl ?_
        refine V_iload 4 (zdk tbX6_firstWrong_0_ok 12 rfl) rfl ?_
        refine V_bipush (v := 10) (zdk tbX6_firstWrong_0_ok 13 rfl) rfl ?_
        refine V_idiv (zdk tbX6_firstWrong_0_ok 14 rfl) (by decide) ?_
        obtain ⟨μ8, r9, q7, h⟩ := bd2_some h
        refine V_callV (R1 := (rmd 2)) (As := [.int (r4 / (10 : Int32))]) (r := (some (.int r9))) (zdk tbX6_firstWrong_0_ok 15 rfl) sC6_122 (tX6_isPerson q7) (c_v0) rfl rfl rfl ⟨Nat.le_of_ble_eq_true rfl, Nat.le_of_ble_eq_true rfl⟩ (Nat.le_of_ble_eq_true rfl) ⟨rfl, rfl⟩ id ?_
        refine V_if_eq (tgt := 40) (zdk tbX6_firstWrong_0_ok 16 rfl) (by decide) (fun c10 => ?_) (fun c10 => ?_)
        · replace h := ite_t h c10
          refine V_sub (ls' := [(3, .int v3)]) [3] rfl ?_
          exact tX6_firstWrong_b40 v3 μ8  h
        · replace h := ite_f h c10
          refine V_iload 4 (zdk tbX6_firstWrong_0_ok 17 rfl) rfl ?_
          refine V_bipush (v := 10) (zdk tbX6_firstWrong_0_ok 18 rfl) rfl ?_
          refine V_irem (zdk tbX6_firstWrong_0_ok 19 rfl) (by decide) ?_
          refine V_iconst (v := 5) (zdk tbX6_firstWrong_0_ok 20 rfl) rfl ?_
          refine V_icmp_le (tgt := 42) (zdk tbX6_firstWrong_0_ok 21 rfl) (by decide) (fun c12 => ?_) (fun c12 => ?_)
          · replace h := ite_t h c12
            refine V_inc (dx := 1) (ls' := [(0, .ref v0), (1, .ref v1), (2, .int v2), (3, .int (v3 + (1 : Int32)))]) 3 [1, 2, 3, 0] (zdk tbX6_firstWrong_0_ok 24 rfl) rfl (Nat.le_of_ble_eq_true rfl) rfl rfl ?_
            refine V_goto (tgt := 2) (zdk tbX6_firstWrong_0_ok 25 rfl) (by decide) ?_
            exact ih v0 v1 v2 (v3 + (1 : Int32)) μ8 c_v0 c_v1 h
          · replace h := ite_f h c12
            refine V_sub (ls' := [(3, .int v3)]) [3] rfl ?_
            exact tX6_firstWrong_b40 v3 μ8  h
def fX6_firstWrong (n : Nat) (v0 : Nat) (v1 : Nat) (v2 : Int32) (μ : ZMem) : Option (ZMem × Int32) := chk (isC n 6 v0) (chk (isC n 3 v1) ((fX6_firstWrong_b2 n FU v0 v1 v2 (0 : Int32) μ)))
theorem tX6_firstWrong {l : Launch} {fr : Bool} {n : Nat} {v0 : Nat} {v1 : Nat} {v2 : Int32} {μ : ZMem} {z : ZMem × Int32} (h : fX6_firstWrong n v0 v1 v2 μ = some z) : ZFn l mX6_firstWrong (rmd 5) [.ref v0, .ref v1, .int v2] fr n μ (fr, n, z.1, some (.int z.2)) := by
  unfold fX6_firstWrong at h
  obtain ⟨c_v0, h⟩ := chk_some h
  obtain ⟨c_v1, h⟩ := chk_some h
  refine ZFn.of (ls := [(0, .ref v0), (1, .ref v1), (2, .int v2)]) (by decide) (fun ξ => Nat.le_of_ble_eq_true rfl) (fun ξ => rfl) ?_
  refine V_iconst (v := 0) (zdk tbX6_firstWrong_0_ok 0 rfl) rfl ?_
  refine V_istore_n (ls' := [(0, .ref v0), (1, .ref v1), (2, .int v2), (3, .int (0 : Int32))]) [1, 2, 3, 0] (zdk tbX6_firstWrong_0_ok 1 rfl) (Nat.le_of_ble_eq_true rfl) rfl ?_
  exact tX6_firstWrong_b2 FU v0 v1 v2 (0 : Int32) μ c_v0 c_v1 h

-- WhoComplainsCarries.judge
def tbX6_judge_0 : List (Nat × Instr × Nat) := [(0, .aload_n 0, 1), (1, .iload_n 1, 1), (2, .iload_n 2, 1), (3, .iconst 1, 1), (4, .invokevirtual 249, 3), (7, .istore_n 3, 1), (8, .iload_n 3, 1), (9, .ifCond .eq 9, 3), (12, .aload_n 0, 1), (13, .iload_n 3, 1), (14, .invokevirtual 173, 3), (17, .ireturn, 1), (18, .aload_n 0, 1), (19, .aload_n 0, 1), (20, .getfield 11, 3), (23, .iload_n 1, 1), (24, .aaload, 1), (25, .iload_n 2, 1), (26, .invokevirtual 252, 3), (29, .ireturn, 1)]
theorem tbX6_judge_0_ok : ∀ q ∈ tbX6_judge_0, decode cX6_judge q.1 = .ok (q.2.1, q.2.2) := by decide +kernel
theorem wCX6_talkRefusal : zCW mX6_talkRefusal 3 := ⟨zin (i := 1) (by decide +kernel) rfl, zin (i := 703) (by decide +kernel) rfl, by decide +kernel, by decide +kernel, by decide +kernel⟩
theorem sC6_249 : zCV RX6 249 mX6_talkRefusal 3 := ⟨zin (i := 700) (by decide +kernel) rfl, zin (i := 702) (by decide +kernel) rfl, zinP (i := 23) (q := (yX6_talkRefusal, 10)) (by decide +kernel) rfl, wCX6_talkRefusal⟩
theorem wCX6_firstWrong : zCW mX6_firstWrong 2 := ⟨zin (i := 1) (by decide +kernel) rfl, zin (i := 707) (by decide +kernel) rfl, by decide +kernel, by decide +kernel, by decide +kernel⟩
theorem sC6_252 : zCV RX6 252 mX6_firstWrong 2 := ⟨zin (i := 704) (by decide +kernel) rfl, zin (i := 706) (by decide +kernel) rfl, zinP (i := 24) (q := (yX6_firstWrong, 10)) (by decide +kernel) rfl, wCX6_firstWrong⟩
def fX6_judge (n : Nat) (v0 : Nat) (v1 : Int32) (v2 : Int32) (μ : ZMem) : Option (ZMem × Int32) := chk (isC n 6 v0) (bd2 (fX6_talkRefusal n v0 v1 v2 (1 : Int32) μ) (fun μ2 r3 => (if r3 = 0 then bd1 (zRc n 104 μ2 v0 0) (fun r5 => chk (inb v1 r5) (bd1 (zRc n 3 μ2 r5 v1.toNatClampNeg) (fun r8 => bd2 (fX6_firstWrong n v0 r8 v2 μ2) (fun μ11 r12 => some (μ11, r12))))) else bd2 (fX6_refuseFar n v0 r3 μ2) (fun μ14 r15 => some (μ14, r15)))))
theorem tX6_judge {l : Launch} {fr : Bool} {n : Nat} {v0 : Nat} {v1 : Int32} {v2 : Int32} {μ : ZMem} {z : ZMem × Int32} (h : fX6_judge n v0 v1 v2 μ = some z) : ZFn l mX6_judge (rmd 6) [.ref v0, .int v1, .int v2] fr n μ (fr, n, z.1, some (.int z.2)) := by
  unfold fX6_judge at h
  obtain ⟨c_v0, h⟩ := chk_some h
  refine ZFn.of (ls := [(0, .ref v0), (1, .int v1), (2, .int v2)]) (by decide) (fun ξ => Nat.le_of_ble_eq_true rfl) (fun ξ => rfl) ?_
  refine V_aload_n 0 (zdk tbX6_judge_0_ok 0 rfl) rfl ?_
  refine V_iload_n 1 (zdk tbX6_judge_0_ok 1 rfl) rfl ?_
  refine V_iload_n 2 (zdk tbX6_judge_0_ok 2 rfl) rfl ?_
  refine V_iconst (v := 1) (zdk tbX6_judge_0_ok 3 rfl) rfl ?_
  obtain ⟨μ2, r3, q1, h⟩ := bd2_some h
  refine V_callV (R1 := (rmd 5)) (As := [.int v1, .int v2, .int (1 : Int32)]) (r := (some (.int r3))) (zdk tbX6_judge_0_ok 4 rfl) sC6_249 (tX6_talkRefusal q1) (c_v0) rfl rfl rfl ⟨Nat.le_of_ble_eq_true rfl, Nat.le_of_ble_eq_true rfl⟩ (Nat.le_of_ble_eq_true rfl) ⟨rfl, rfl⟩ id ?_
  refine V_istore_n (ls' := [(0, .ref v0), (1, .int v1), (2, .int v2), (3, .int r3)]) [1, 2, 3, 0] (zdk tbX6_judge_0_ok 5 rfl) (Nat.le_of_ble_eq_true rfl) rfl ?_
  refine V_iload_n 3 (zdk tbX6_judge_0_ok 6 rfl) rfl ?_
  refine V_if_eq (tgt := 18) (zdk tbX6_judge_0_ok 7 rfl) (by decide) (fun c4 => ?_) (fun c4 => ?_)
  · replace h := ite_t h c4
    refine V_aload_n 0 (zdk tbX6_judge_0_ok 12 rfl) rfl ?_
    refine V_aload_n 0 (zdk tbX6_judge_0_ok 13 rfl) rfl ?_
    obtain ⟨r5, q6, h⟩ := bd1_some h
    obtain ⟨q6, c_r5⟩ := zRc_some q6
    refine V_getR (zdk tbX6_judge_0_ok 14 rfl) c_v0 fF6_11 rfl q6 ?_
    refine V_iload_n 1 (zdk tbX6_judge_0_ok 15 rfl) rfl ?_
    obtain ⟨b7, h⟩ := chk_some h
    obtain ⟨r8, q9, h⟩ := bd1_some h
    obtain ⟨q9, c_r8⟩ := zRc_some q9
    refine V_aald4 (zdk tbX6_judge_0_ok 16 rfl) c_r5 b7 q9 ?_
    refine V_iload_n 2 (zdk tbX6_judge_0_ok 17 rfl) rfl ?_
    obtain ⟨μ11, r12, q10, h⟩ := bd2_some h
    refine V_callV (R1 := (rmd 5)) (As := [.ref r8, .int v2]) (r := (some (.int r12))) (zdk tbX6_judge_0_ok 18 rfl) sC6_252 (tX6_firstWrong q10) (c_v0) rfl rfl rfl ⟨Nat.le_of_ble_eq_true rfl, Nat.le_of_ble_eq_true rfl⟩ (Nat.le_of_ble_eq_true rfl) ⟨rfl, rfl⟩ id ?_
    cases h
    exact V_iret (zdk tbX6_judge_0_ok 19 rfl) rfl rfl
  · replace h := ite_f h c4
    refine V_aload_n 0 (zdk tbX6_judge_0_ok 8 rfl) rfl ?_
    refine V_iload_n 3 (zdk tbX6_judge_0_ok 9 rfl) rfl ?_
    obtain ⟨μ14, r15, q13, h⟩ := bd2_some h
    refine V_callV (R1 := (rmd 3)) (As := [.int r3]) (r := (some (.int r15))) (zdk tbX6_judge_0_ok 10 rfl) sC6_173 (tX6_refuseFar q13) (c_v0) rfl rfl rfl ⟨Nat.le_of_ble_eq_true rfl, Nat.le_of_ble_eq_true rfl⟩ (Nat.le_of_ble_eq_true rfl) ⟨rfl, rfl⟩ id ?_
    cases h
    exact V_iret (zdk tbX6_judge_0_ok 11 rfl) rfl rfl

-- WhoComplainsCarries.behind
def tbX6_behind_0 : List (Nat × Instr × Nat) := [(0, .aload_n 0, 1), (1, .iload_n 1, 1), (2, .iload_n 2, 1), (3, .iload_n 3, 1), (4, .iconst 0, 1), (5, .iconst 2, 1), (6, .invokestatic 153, 3), (9, .invokevirtual 249, 3), (12, .istore 4, 2), (14, .iload 4, 2), (16, .ifCond .ne 22, 3), (19, .aload_n 0, 1), (20, .aload_n 0, 1), (21, .getfield 11, 3), (24, .iload_n 1, 1), (25, .aaload, 1), (26, .iload_n 2, 1), (27, .invokevirtual 252, 3), (30, .iconst (-1), 1), (31, .if_icmp .eq 7, 3), (34, .bipush (-6), 2), (36, .istore 4, 2), (38, .iload 4, 2), (40, .ifCond .eq 10, 3), (43, .aload_n 0, 1), (44, .iload 4, 2), (46, .invokevirtual 173, 3), (49, .ireturn, 1), (50, .aload_n 0, 1), (51, .getfield 26, 3), (54, .aload_n 0, 1), (55, .getfield 19, 3), (58, .invokevirtual 196, 3), (61, .aload_n 0, 1), (62, .getfield 26, 3), (65, .aload_n 0, 1), (66, .getfield 11, 3), (69, .iload_n 1, 1), (70, .aaload, 1), (71, .iload_n 2, 1), (72, .invokevirtual 255, 3), (75, .iload_n 3, 1), (76, .ifCond .ne 11, 3), (79, .aload_n 0, 1), (80, .getfield 26, 3), (83, .getfield 176, 3), (86, .ireturn, 1), (87, .iload_n 3, 1), (88, .iconst 1, 1), (89, .if_icmp .ne 13, 3)]
theorem tbX6_behind_0_ok : ∀ q ∈ tbX6_behind_0, decode cX6_behind q.1 = .ok (q.2.1, q.2.2) := by decide +kernel
def tbX6_behind_1 : List (Nat × Instr × Nat) := [(92, .aload_n 0, 1), (93, .getfield 26, 3), (96, .getfield 164, 3), (99, .goto 10, 3), (102, .aload_n 0, 1), (103, .getfield 26, 3), (106, .getfield 141, 3), (109, .ireturn, 1)]
theorem tbX6_behind_1_ok : ∀ q ∈ tbX6_behind_1, decode cX6_behind q.1 = .ok (q.2.1, q.2.2) := by decide +kernel
theorem wCX4_hearTalk : zCW mX4_hearTalk 2 := ⟨zin (i := 3) (by decide +kernel) rfl, zin (i := 715) (by decide +kernel) rfl, by decide +kernel, by decide +kernel, by decide +kernel⟩
theorem sC6_255 : zCV RX6 255 mX4_hearTalk 2 := ⟨zin (i := 712) (by decide +kernel) rfl, zin (i := 713) (by decide +kernel) rfl, zin (i := 714) (by decide +kernel) rfl, wCX4_hearTalk⟩
def fX6_behind_b109 (n : Nat) (s0 : Int32) (μ : ZMem) : Option (ZMem × Int32) := some (μ, s0)
theorem tX6_behind_b109 {l : Launch} {fr : Bool} {n : Nat} {z : ZMem × Int32} (s0 : Int32) (μ : ZMem) (h : fX6_behind_b109 n s0 μ = some z) : V (zkI l mX6_behind (rmd 6) fr n z) fr 109 [] [.int s0] n μ := by
  unfold fX6_behind_b109 at h
  cases h
  exact V_iret (zdk tbX6_behind_1_ok 7 rfl) rfl rfl
def fX6_behind_b38 (n : Nat) (v0 : Nat) (v1 : Int32) (v2 : Int32) (v3 : Int32) (v4 : Int32) (μ : ZMem) : Option (ZMem × Int32) := (if v4 = 0 then bd1 (zRc n 4 μ v0 3) (fun r2 => bd1 (zRc n 4 μ v0 1) (fun r4 => bd1 (fX4_load n r2 r4 μ) (fun μ7 => bd1 (zRc n 4 μ7 v0 3) (fun r8 => bd1 (zRc n 104 μ7 v0 0) (fun r10 => chk (inb v1 r10) (bd1 (zRc n 3 μ7 r10 v1.toNatClampNeg) (fun r13 => bd1 (fX4_hearTalk n r8 r13 v2 μ7) (fun μ16 => (if v3 = 0 then bd1 (zRc n 4 μ16 v0 3) (fun r23 => some (μ16, (zI μ16 r23 5))) else (if v3 = (1 : Int32) then bd1 (zRc n 4 μ16 v0 3) (fun r21 => (fX6_behind_b109 n (zI μ16 r21 4) μ16)) else bd1 (zRc n 4 μ16 v0 3) (fun r19 => (fX6_behind_b109 n (zI μ16 r19 2) μ16)))))))))))) else bd2 (fX6_refuseFar n v0 v4 μ) (fun μ26 r27 => some (μ26, r27)))
theorem tX6_behind_b38 {l : Launch} {fr : Bool} {n : Nat} {z : ZMem × Int32} (v0 : Nat) (v1 : Int32) (v2 : Int32) (v3 : Int32) (v4 : Int32) (μ : ZMem) (c_v0 : isC n 6 v0 = true) (h : fX6_behind_b38 n v0 v1 v2 v3 v4 μ = some z) : V (zkI l mX6_behind (rmd 6) fr n z) fr 38 [(0, .ref v0), (1, .int v1), (2, .int v2), (3, .int v3), (4, .int v4)] [] n μ := by
  unfold fX6_behind_b38 at h
  refine V_iload 4 (zdk tbX6_behind_0_ok 22 rfl) rfl ?_
  refine V_if_eq (tgt := 50) (zdk tbX6_behind_0_ok 23 rfl) (by decide) (fun c1 => ?_) (fun c1 => ?_)
  · replace h := ite_t h c1
    refine V_aload_n 0 (zdk tbX6_behind_0_ok 28 rfl) rfl ?_
    obtain ⟨r2, q3, h⟩ := bd1_some h
    obtain ⟨q3, c_r2⟩ := zRc_some q3
    refine V_getR (zdk tbX6_behind_0_ok 29 rfl) c_v0 fF6_26 rfl q3 ?_
    refine V_aload_n 0 (zdk tbX6_behind_0_ok 30 rfl) rfl ?_
    obtain ⟨r4, q5, h⟩ := bd1_some h
    obtain ⟨q5, c_r4⟩ := zRc_some q5
    refine V_getR (zdk tbX6_behind_0_ok 31 rfl) c_v0 fF6_19 rfl q5 ?_
    obtain ⟨μ7, q6, h⟩ := bd1_some h
    refine V_callV (R1 := (rmd 2)) (As := [.ref r4]) (r := none) (zdk tbX6_behind_0_ok 32 rfl) sC6_196 (tX4_load q6) (c_r2) rfl rfl rfl ⟨Nat.le_of_ble_eq_true rfl, Nat.le_of_ble_eq_true rfl⟩ (Nat.le_of_ble_eq_true rfl) ⟨rfl, rfl⟩ id ?_
    refine V_aload_n 0 (zdk tbX6_behind_0_ok 33 rfl) rfl ?_
    obtain ⟨r8, q9, h⟩ := bd1_some h
    obtain ⟨q9, c_r8⟩ := zRc_some q9
    refine V_getR (zdk tbX6_behind_0_ok 34 rfl) c_v0 fF6_26 rfl q9 ?_
    refine V_aload_n 0 (zdk tbX6_behind_0_ok 35 rfl) rfl ?_
    obtain ⟨r10, q11, h⟩ := bd1_some h
    obtain ⟨q11, c_r10⟩ := zRc_some q11
    refine V_getR (zdk tbX6_behind_0_ok 36 rfl) c_v0 fF6_11 rfl q11 ?_
    refine V_iload_n 1 (zdk tbX6_behind_0_ok 37 rfl) rfl ?_
    obtain ⟨b12, h⟩ := chk_some h
    obtain ⟨r13, q14, h⟩ := bd1_some h
    obtain ⟨q14, c_r13⟩ := zRc_some q14
    refine V_aald4 (zdk tbX6_behind_0_ok 38 rfl) c_r10 b12 q14 ?_
    refine V_iload_n 2 (zdk tbX6_behind_0_ok 39 rfl) rfl ?_
    obtain ⟨μ16, q15, h⟩ := bd1_some h
    refine V_callV (R1 := (rmd 5)) (As := [.ref r13, .int v2]) (r := none) (zdk tbX6_behind_0_ok 40 rfl) sC6_255 (tX4_hearTalk q15) (c_r8) rfl rfl rfl ⟨Nat.le_of_ble_eq_true rfl, Nat.le_of_ble_eq_true rfl⟩ (Nat.le_of_ble_eq_true rfl) ⟨rfl, rfl⟩ id ?_
    refine V_iload_n 3 (zdk tbX6_behind_0_ok 41 rfl) rfl ?_
    refine V_if_ne (tgt := 87) (zdk tbX6_behind_0_ok 42 rfl) (by decide) (fun c17 => ?_) (fun c17 => ?_)
    · replace h := ite_f h c17
      refine V_iload_n 3 (zdk tbX6_behind_0_ok 47 rfl) rfl ?_
      refine V_iconst (v := 1) (zdk tbX6_behind_0_ok 48 rfl) rfl ?_
      refine V_icmp_ne (tgt := 102) (zdk tbX6_behind_0_ok 49 rfl) (by decide) (fun c18 => ?_) (fun c18 => ?_)
      · replace h := ite_f h c18
        refine V_aload_n 0 (zdk tbX6_behind_1_ok 4 rfl) rfl ?_
        obtain ⟨r19, q20, h⟩ := bd1_some h
        obtain ⟨q20, c_r19⟩ := zRc_some q20
        refine V_getR (zdk tbX6_behind_1_ok 5 rfl) c_v0 fF6_26 rfl q20 ?_
        refine V_getI (zdk tbX6_behind_1_ok 6 rfl) c_r19 fF6_141 rfl ?_
        refine V_sub (ls' := []) [] rfl ?_
        exact tX6_behind_b109 (zI μ16 r19 2) μ16  h
      · replace h := ite_t h c18
        refine V_aload_n 0 (zdk tbX6_behind_1_ok 0 rfl) rfl ?_
        obtain ⟨r21, q22, h⟩ := bd1_some h
        obtain ⟨q22, c_r21⟩ := zRc_some q22
        refine V_getR (zdk tbX6_behind_1_ok 1 rfl) c_v0 fF6_26 rfl q22 ?_
        refine V_getI (zdk tbX6_behind_1_ok 2 rfl) c_r21 fF6_164 rfl ?_
        refine V_goto (tgt := 109) (zdk tbX6_behind_1_ok 3 rfl) (by decide) ?_
        refine V_sub (ls' := []) [] rfl ?_
        exact tX6_behind_b109 (zI μ16 r21 4) μ16  h
    · replace h := ite_t h c17
      refine V_aload_n 0 (zdk tbX6_behind_0_ok 43 rfl) rfl ?_
      obtain ⟨r23, q24, h⟩ := bd1_some h
      obtain ⟨q24, c_r23⟩ := zRc_some q24
      refine V_getR (zdk tbX6_behind_0_ok 44 rfl) c_v0 fF6_26 rfl q24 ?_
      refine V_getI (zdk tbX6_behind_0_ok 45 rfl) c_r23 fF6_176 rfl ?_
      cases h
      exact V_iret (zdk tbX6_behind_0_ok 46 rfl) rfl rfl
  · replace h := ite_f h c1
    refine V_aload_n 0 (zdk tbX6_behind_0_ok 24 rfl) rfl ?_
    refine V_iload 4 (zdk tbX6_behind_0_ok 25 rfl) rfl ?_
    obtain ⟨μ26, r27, q25, h⟩ := bd2_some h
    refine V_callV (R1 := (rmd 3)) (As := [.int v4]) (r := (some (.int r27))) (zdk tbX6_behind_0_ok 26 rfl) sC6_173 (tX6_refuseFar q25) (c_v0) rfl rfl rfl ⟨Nat.le_of_ble_eq_true rfl, Nat.le_of_ble_eq_true rfl⟩ (Nat.le_of_ble_eq_true rfl) ⟨rfl, rfl⟩ id ?_
    cases h
    exact V_iret (zdk tbX6_behind_0_ok 27 rfl) rfl rfl
def fX6_behind (n : Nat) (v0 : Nat) (v1 : Int32) (v2 : Int32) (v3 : Int32) (μ : ZMem) : Option (ZMem × Int32) := chk (isC n 6 v0) (bd2 (fX6_isIn n v3 (0 : Int32) (2 : Int32) μ) (fun μ2 r3 => bd2 (fX6_talkRefusal n v0 v1 v2 r3 μ2) (fun μ5 r6 => (if r6 = 0 then bd1 (zRc n 104 μ5 v0 0) (fun r8 => chk (inb v1 r8) (bd1 (zRc n 3 μ5 r8 v1.toNatClampNeg) (fun r11 => bd2 (fX6_firstWrong n v0 r11 v2 μ5) (fun μ14 r15 => (if r15 = (-1 : Int32) then (fX6_behind_b38 n v0 v1 v2 v3 r6 μ14) else (fX6_behind_b38 n v0 v1 v2 v3 (-6 : Int32) μ14)))))) else (fX6_behind_b38 n v0 v1 v2 v3 r6 μ5)))))
theorem tX6_behind {l : Launch} {fr : Bool} {n : Nat} {v0 : Nat} {v1 : Int32} {v2 : Int32} {v3 : Int32} {μ : ZMem} {z : ZMem × Int32} (h : fX6_behind n v0 v1 v2 v3 μ = some z) : ZFn l mX6_behind (rmd 6) [.ref v0, .int v1, .int v2, .int v3] fr n μ (fr, n, z.1, some (.int z.2)) := by
  unfold fX6_behind at h
  obtain ⟨c_v0, h⟩ := chk_some h
  refine ZFn.of (ls := [(0, .ref v0), (1, .int v1), (2, .int v2), (3, .int v3)]) (by decide) (fun ξ => Nat.le_of_ble_eq_true rfl) (fun ξ => rfl) ?_
  refine V_aload_n 0 (zdk tbX6_behind_0_ok 0 rfl) rfl ?_
  refine V_iload_n 1 (zdk tbX6_behind_0_ok 1 rfl) rfl ?_
  refine V_iload_n 2 (zdk tbX6_behind_0_ok 2 rfl) rfl ?_
  refine V_iload_n 3 (zdk tbX6_behind_0_ok 3 rfl) rfl ?_
  refine V_iconst (v := 0) (zdk tbX6_behind_0_ok 4 rfl) rfl ?_
  refine V_iconst (v := 2) (zdk tbX6_behind_0_ok 5 rfl) rfl ?_
  obtain ⟨μ2, r3, q1, h⟩ := bd2_some h
  refine V_callS (R1 := (rmd 1)) (As := [.int v3, .int (0 : Int32), .int (2 : Int32)]) (r := (some (.int r3))) (zdk tbX6_behind_0_ok 6 rfl) sC6_153 (tX6_isIn q1) rfl rfl ⟨Nat.le_of_ble_eq_true rfl, Nat.le_of_ble_eq_true rfl⟩ (Nat.le_of_ble_eq_true rfl) ⟨rfl, rfl⟩ id ?_
  obtain ⟨μ5, r6, q4, h⟩ := bd2_some h
  refine V_callV (R1 := (rmd 5)) (As := [.int v1, .int v2, .int r3]) (r := (some (.int r6))) (zdk tbX6_behind_0_ok 7 rfl) sC6_249 (tX6_talkRefusal q4) (c_v0) rfl rfl rfl ⟨Nat.le_of_ble_eq_true rfl, Nat.le_of_ble_eq_true rfl⟩ (Nat.le_of_ble_eq_true rfl) ⟨rfl, rfl⟩ id ?_
  refine V_istore (ls' := [(0, .ref v0), (1, .int v1), (2, .int v2), (3, .int v3), (4, .int r6)]) [1, 2, 3, 4, 0] (zdk tbX6_behind_0_ok 8 rfl) (Nat.le_of_ble_eq_true rfl) rfl ?_
  refine V_iload 4 (zdk tbX6_behind_0_ok 9 rfl) rfl ?_
  refine V_if_ne (tgt := 38) (zdk tbX6_behind_0_ok 10 rfl) (by decide) (fun c7 => ?_) (fun c7 => ?_)
  · replace h := ite_f h c7
    exact tX6_behind_b38 v0 v1 v2 v3 r6 μ5 c_v0 h
  · replace h := ite_t h c7
    refine V_aload_n 0 (zdk tbX6_behind_0_ok 11 rfl) rfl ?_
    refine V_aload_n 0 (zdk tbX6_behind_0_ok 12 rfl) rfl ?_
    obtain ⟨r8, q9, h⟩ := bd1_some h
    obtain ⟨q9, c_r8⟩ := zRc_some q9
    refine V_getR (zdk tbX6_behind_0_ok 13 rfl) c_v0 fF6_11 rfl q9 ?_
    refine V_iload_n 1 (zdk tbX6_behind_0_ok 14 rfl) rfl ?_
    obtain ⟨b10, h⟩ := chk_some h
    obtain ⟨r11, q12, h⟩ := bd1_some h
    obtain ⟨q12, c_r11⟩ := zRc_some q12
    refine V_aald4 (zdk tbX6_behind_0_ok 15 rfl) c_r8 b10 q12 ?_
    refine V_iload_n 2 (zdk tbX6_behind_0_ok 16 rfl) rfl ?_
    obtain ⟨μ14, r15, q13, h⟩ := bd2_some h
    refine V_callV (R1 := (rmd 5)) (As := [.ref r11, .int v2]) (r := (some (.int r15))) (zdk tbX6_behind_0_ok 17 rfl) sC6_252 (tX6_firstWrong q13) (c_v0) rfl rfl rfl ⟨Nat.le_of_ble_eq_true rfl, Nat.le_of_ble_eq_true rfl⟩ (Nat.le_of_ble_eq_true rfl) ⟨rfl, rfl⟩ id ?_
    refine V_iconst (v := (-1)) (zdk tbX6_behind_0_ok 18 rfl) rfl ?_
    refine V_icmp_eq (tgt := 38) (zdk tbX6_behind_0_ok 19 rfl) (by decide) (fun c16 => ?_) (fun c16 => ?_)
    · replace h := ite_t h c16
      exact tX6_behind_b38 v0 v1 v2 v3 r6 μ14 c_v0 h
    · replace h := ite_f h c16
      refine V_bipush (v := (-6)) (zdk tbX6_behind_0_ok 20 rfl) rfl ?_
      refine V_istore (ls' := [(0, .ref v0), (1, .int v1), (2, .int v2), (3, .int v3), (4, .int (-6 : Int32))]) [1, 2, 3, 4, 0] (zdk tbX6_behind_0_ok 21 rfl) (Nat.le_of_ble_eq_true rfl) rfl ?_
      exact tX6_behind_b38 v0 v1 v2 v3 (-6 : Int32) μ14 c_v0 h

-- WhoComplainsCarries.done
def tbX6_done_0 : List (Nat × Instr × Nat) := [(0, .aload_n 0, 1), (1, .iload_n 1, 1), (2, .iload_n 2, 1), (3, .iconst 1, 1), (4, .invokevirtual 249, 3), (7, .istore_n 3, 1), (8, .iload_n 3, 1), (9, .ifCond .ne 21, 3), (12, .aload_n 0, 1), (13, .aload_n 0, 1), (14, .getfield 11, 3), (17, .iload_n 1, 1), (18, .aaload, 1), (19, .iload_n 2, 1), (20, .invokevirtual 252, 3), (23, .iconst (-1), 1), (24, .if_icmp .eq 6, 3), (27, .bipush (-6), 2), (29, .istore_n 3, 1), (30, .iload_n 3, 1), (31, .ifCond .eq 9, 3), (34, .aload_n 0, 1), (35, .iload_n 3, 1), (36, .invokevirtual 66, 3), (39, .ireturn, 1), (40, .aload_n 0, 1), (41, .getfield 19, 3), (44, .aload_n 0, 1), (45, .getfield 11, 3), (48, .iload_n 1, 1), (49, .aaload, 1), (50, .iload_n 2, 1), (51, .invokevirtual 255, 3), (54, .aload_n 0, 1), (55, .getfield 19, 3), (58, .getfield 164, 3), (61, .ireturn, 1)]
theorem tbX6_done_0_ok : ∀ q ∈ tbX6_done_0, decode cX6_done q.1 = .ok (q.2.1, q.2.2) := by decide +kernel
def fX6_done_b30 (n : Nat) (v0 : Nat) (v1 : Int32) (v2 : Int32) (v3 : Int32) (μ : ZMem) : Option (ZMem × Int32) := (if v3 = 0 then bd1 (zRc n 4 μ v0 1) (fun r2 => bd1 (zRc n 104 μ v0 0) (fun r4 => chk (inb v1 r4) (bd1 (zRc n 3 μ r4 v1.toNatClampNeg) (fun r7 => bd1 (fX4_hearTalk n r2 r7 v2 μ) (fun μ10 => bd1 (zRc n 4 μ10 v0 1) (fun r11 => some (μ10, (zI μ10 r11 4)))))))) else bd2 (fX6_refuse n v0 v3 μ) (fun μ14 r15 => some (μ14, r15)))
theorem tX6_done_b30 {l : Launch} {fr : Bool} {n : Nat} {z : ZMem × Int32} (v0 : Nat) (v1 : Int32) (v2 : Int32) (v3 : Int32) (μ : ZMem) (c_v0 : isC n 6 v0 = true) (h : fX6_done_b30 n v0 v1 v2 v3 μ = some z) : V (zkI l mX6_done (rmd 6) fr n z) fr 30 [(0, .ref v0), (1, .int v1), (2, .int v2), (3, .int v3)] [] n μ := by
  unfold fX6_done_b30 at h
  refine V_iload_n 3 (zdk tbX6_done_0_ok 19 rfl) rfl ?_
  refine V_if_eq (tgt := 40) (zdk tbX6_done_0_ok 20 rfl) (by decide) (fun c1 => ?_) (fun c1 => ?_)
  · replace h := ite_t h c1
    refine V_aload_n 0 (zdk tbX6_done_0_ok 25 rfl) rfl ?_
    obtain ⟨r2, q3, h⟩ := bd1_some h
    obtain ⟨q3, c_r2⟩ := zRc_some q3
    refine V_getR (zdk tbX6_done_0_ok 26 rfl) c_v0 fF6_19 rfl q3 ?_
    refine V_aload_n 0 (zdk tbX6_done_0_ok 27 rfl) rfl ?_
    obtain ⟨r4, q5, h⟩ := bd1_some h
    obtain ⟨q5, c_r4⟩ := zRc_some q5
    refine V_getR (zdk tbX6_done_0_ok 28 rfl) c_v0 fF6_11 rfl q5 ?_
    refine V_iload_n 1 (zdk tbX6_done_0_ok 29 rfl) rfl ?_
    obtain ⟨b6, h⟩ := chk_some h
    obtain ⟨r7, q8, h⟩ := bd1_some h
    obtain ⟨q8, c_r7⟩ := zRc_some q8
    refine V_aald4 (zdk tbX6_done_0_ok 30 rfl) c_r4 b6 q8 ?_
    refine V_iload_n 2 (zdk tbX6_done_0_ok 31 rfl) rfl ?_
    obtain ⟨μ10, q9, h⟩ := bd1_some h
    refine V_callV (R1 := (rmd 5)) (As := [.ref r7, .int v2]) (r := none) (zdk tbX6_done_0_ok 32 rfl) sC6_255 (tX4_hearTalk q9) (c_r2) rfl rfl rfl ⟨Nat.le_of_ble_eq_true rfl, Nat.le_of_ble_eq_true rfl⟩ (Nat.le_of_ble_eq_true rfl) ⟨rfl, rfl⟩ id ?_
    refine V_aload_n 0 (zdk tbX6_done_0_ok 33 rfl) rfl ?_
    obtain ⟨r11, q12, h⟩ := bd1_some h
    obtain ⟨q12, c_r11⟩ := zRc_some q12
    refine V_getR (zdk tbX6_done_0_ok 34 rfl) c_v0 fF6_19 rfl q12 ?_
    refine V_getI (zdk tbX6_done_0_ok 35 rfl) c_r11 fF6_164 rfl ?_
    cases h
    exact V_iret (zdk tbX6_done_0_ok 36 rfl) rfl rfl
  · replace h := ite_f h c1
    refine V_aload_n 0 (zdk tbX6_done_0_ok 21 rfl) rfl ?_
    refine V_iload_n 3 (zdk tbX6_done_0_ok 22 rfl) rfl ?_
    obtain ⟨μ14, r15, q13, h⟩ := bd2_some h
    refine V_callV (R1 := (rmd 2)) (As := [.int v3]) (r := (some (.int r15))) (zdk tbX6_done_0_ok 23 rfl) sC6_66 (tX6_refuse q13) (c_v0) rfl rfl rfl ⟨Nat.le_of_ble_eq_true rfl, Nat.le_of_ble_eq_true rfl⟩ (Nat.le_of_ble_eq_true rfl) ⟨rfl, rfl⟩ id ?_
    cases h
    exact V_iret (zdk tbX6_done_0_ok 24 rfl) rfl rfl
def fX6_done (n : Nat) (v0 : Nat) (v1 : Int32) (v2 : Int32) (μ : ZMem) : Option (ZMem × Int32) := chk (isC n 6 v0) (bd2 (fX6_talkRefusal n v0 v1 v2 (1 : Int32) μ) (fun μ2 r3 => (if r3 = 0 then bd1 (zRc n 104 μ2 v0 0) (fun r5 => chk (inb v1 r5) (bd1 (zRc n 3 μ2 r5 v1.toNatClampNeg) (fun r8 => bd2 (fX6_firstWrong n v0 r8 v2 μ2) (fun μ11 r12 => (if r12 = (-1 : Int32) then (fX6_done_b30 n v0 v1 v2 r3 μ11) else (fX6_done_b30 n v0 v1 v2 (-6 : Int32) μ11)))))) else (fX6_done_b30 n v0 v1 v2 r3 μ2))))
theorem tX6_done {l : Launch} {fr : Bool} {n : Nat} {v0 : Nat} {v1 : Int32} {v2 : Int32} {μ : ZMem} {z : ZMem × Int32} (h : fX6_done n v0 v1 v2 μ = some z) : ZFn l mX6_done (rmd 6) [.ref v0, .int v1, .int v2] fr n μ (fr, n, z.1, some (.int z.2)) := by
  unfold fX6_done at h
  obtain ⟨c_v0, h⟩ := chk_some h
  refine ZFn.of (ls := [(0, .ref v0), (1, .int v1), (2, .int v2)]) (by decide) (fun ξ => Nat.le_of_ble_eq_true rfl) (fun ξ => rfl) ?_
  refine V_aload_n 0 (zdk tbX6_done_0_ok 0 rfl) rfl ?_
  refine V_iload_n 1 (zdk tbX6_done_0_ok 1 rfl) rfl ?_
  refine V_iload_n 2 (zdk tbX6_done_0_ok 2 rfl) rfl ?_
  refine V_iconst (v := 1) (zdk tbX6_done_0_ok 3 rfl) rfl ?_
  obtain ⟨μ2, r3, q1, h⟩ := bd2_some h
  refine V_callV (R1 := (rmd 5)) (As := [.int v1, .int v2, .int (1 : Int32)]) (r := (some (.int r3))) (zdk tbX6_done_0_ok 4 rfl) sC6_249 (tX6_talkRefusal q1) (c_v0) rfl rfl rfl ⟨Nat.le_of_ble_eq_true rfl, Nat.le_of_ble_eq_true rfl⟩ (Nat.le_of_ble_eq_true rfl) ⟨rfl, rfl⟩ id ?_
  refine V_istore_n (ls' := [(0, .ref v0), (1, .int v1), (2, .int v2), (3, .int r3)]) [1, 2, 3, 0] (zdk tbX6_done_0_ok 5 rfl) (Nat.le_of_ble_eq_true rfl) rfl ?_
  refine V_iload_n 3 (zdk tbX6_done_0_ok 6 rfl) rfl ?_
  refine V_if_ne (tgt := 30) (zdk tbX6_done_0_ok 7 rfl) (by decide) (fun c4 => ?_) (fun c4 => ?_)
  · replace h := ite_f h c4
    exact tX6_done_b30 v0 v1 v2 r3 μ2 c_v0 h
  · replace h := ite_t h c4
    refine V_aload_n 0 (zdk tbX6_done_0_ok 8 rfl) rfl ?_
    refine V_aload_n 0 (zdk tbX6_done_0_ok 9 rfl) rfl ?_
    obtain ⟨r5, q6, h⟩ := bd1_some h
    obtain ⟨q6, c_r5⟩ := zRc_some q6
    refine V_getR (zdk tbX6_done_0_ok 10 rfl) c_v0 fF6_11 rfl q6 ?_
    refine V_iload_n 1 (zdk tbX6_done_0_ok 11 rfl) rfl ?_
    obtain ⟨b7, h⟩ := chk_some h
    obtain ⟨r8, q9, h⟩ := bd1_some h
    obtain ⟨q9, c_r8⟩ := zRc_some q9
    refine V_aald4 (zdk tbX6_done_0_ok 12 rfl) c_r5 b7 q9 ?_
    refine V_iload_n 2 (zdk tbX6_done_0_ok 13 rfl) rfl ?_
    obtain ⟨μ11, r12, q10, h⟩ := bd2_some h
    refine V_callV (R1 := (rmd 5)) (As := [.ref r8, .int v2]) (r := (some (.int r12))) (zdk tbX6_done_0_ok 14 rfl) sC6_252 (tX6_firstWrong q10) (c_v0) rfl rfl rfl ⟨Nat.le_of_ble_eq_true rfl, Nat.le_of_ble_eq_true rfl⟩ (Nat.le_of_ble_eq_true rfl) ⟨rfl, rfl⟩ id ?_
    refine V_iconst (v := (-1)) (zdk tbX6_done_0_ok 15 rfl) rfl ?_
    refine V_icmp_eq (tgt := 30) (zdk tbX6_done_0_ok 16 rfl) (by decide) (fun c13 => ?_) (fun c13 => ?_)
    · replace h := ite_t h c13
      exact tX6_done_b30 v0 v1 v2 r3 μ11 c_v0 h
    · replace h := ite_f h c13
      refine V_bipush (v := (-6)) (zdk tbX6_done_0_ok 17 rfl) rfl ?_
      refine V_istore_n (ls' := [(0, .ref v0), (1, .int v1), (2, .int v2), (3, .int (-6 : Int32))]) [1, 2, 3, 0] (zdk tbX6_done_0_ok 18 rfl) (Nat.le_of_ble_eq_true rfl) rfl ?_
      exact tX6_done_b30 v0 v1 v2 (-6 : Int32) μ11 c_v0 h

-- WhoComplainsCarries.say
def tbX6_say_0 : List (Nat × Instr × Nat) := [(0, .aload_n 0, 1), (1, .iload_n 1, 1), (2, .invokevirtual 122, 3), (5, .ifCond .ne 9, 3), (8, .aload_n 0, 1), (9, .iconst (-1), 1), (10, .invokevirtual 66, 3), (13, .ireturn, 1), (14, .iload_n 2, 1), (15, .iconst 0, 1), (16, .iconst 5, 1), (17, .invokestatic 153, 3), (20, .ifCond .ne 10, 3), (23, .aload_n 0, 1), (24, .bipush (-6), 2), (26, .invokevirtual 66, 3), (29, .ireturn, 1), (30, .aload_n 0, 1), (31, .getfield 19, 3), (34, .iload_n 1, 1), (35, .iload_n 2, 1), (36, .invokevirtual 259, 3), (39, .aload_n 0, 1), (40, .getfield 19, 3), (43, .getfield 176, 3), (46, .iload_n 1, 1), (47, .if_icmp .ne 7, 3), (50, .iconst 1, 1), (51, .goto 4, 3), (54, .iconst 0, 1), (55, .ireturn, 1)]
theorem tbX6_say_0_ok : ∀ q ∈ tbX6_say_0, decode cX6_say q.1 = .ok (q.2.1, q.2.2) := by decide +kernel
theorem sC6_259 : zCV RX6 259 mX4_hear 2 := ⟨zin (i := 737) (by decide +kernel) rfl, zin (i := 718) (by decide +kernel) rfl, zin (i := 719) (by decide +kernel) rfl, wCX4_hear⟩
def fX6_say_b55 (n : Nat) (s0 : Int32) (μ : ZMem) : Option (ZMem × Int32) := some (μ, s0)
theorem tX6_say_b55 {l : Launch} {fr : Bool} {n : Nat} {z : ZMem × Int32} (s0 : Int32) (μ : ZMem) (h : fX6_say_b55 n s0 μ = some z) : V (zkI l mX6_say (rmd 5) fr n z) fr 55 [] [.int s0] n μ := by
  unfold fX6_say_b55 at h
  cases h
  exact V_iret (zdk tbX6_say_0_ok 30 rfl) rfl rfl
def fX6_say (n : Nat) (v0 : Nat) (v1 : Int32) (v2 : Int32) (μ : ZMem) : Option (ZMem × Int32) := chk (isC n 6 v0) (bd2 (fX6_isPerson n v0 v1 μ) (fun μ2 r3 => (if r3 = 0 then bd2 (fX6_refuse n v0 (-1 : Int32) μ2) (fun μ20 r21 => some (μ20, r21)) else bd2 (fX6_isIn n v2 (0 : Int32) (5 : Int32) μ2) (fun μ6 r7 => (if r7 = 0 then bd2 (fX6_refuse n v0 (-6 : Int32) μ6) (fun μ17 r18 => some (μ17, r18)) else bd1 (zRc n 4 μ6 v0 1) (fun r9 => bd1 (fX4_hear n r9 v1 v2 μ6) (fun μ12 => bd1 (zRc n 4 μ12 v0 1) (fun r13 => (if (zI μ12 r13 5) = v1 then (fX6_say_b55 n (1 : Int32) μ12) else (fX6_say_b55 n (0 : Int32) μ12))))))))))
theorem tX6_say {l : Launch} {fr : Bool} {n : Nat} {v0 : Nat} {v1 : Int32} {v2 : Int32} {μ : ZMem} {z : ZMem × Int32} (h : fX6_say n v0 v1 v2 μ = some z) : ZFn l mX6_say (rmd 5) [.ref v0, .int v1, .int v2] fr n μ (fr, n, z.1, some (.int z.2)) := by
  unfold fX6_say at h
  obtain ⟨c_v0, h⟩ := chk_some h
  refine ZFn.of (ls := [(0, .ref v0), (1, .int v1), (2, .int v2)]) (by decide) (fun ξ => Nat.le_of_ble_eq_true rfl) (fun ξ => rfl) ?_
  refine V_aload_n 0 (zdk tbX6_say_0_ok 0 rfl) rfl ?_
  refine V_iload_n 1 (zdk tbX6_say_0_ok 1 rfl) rfl ?_
  obtain ⟨μ2, r3, q1, h⟩ := bd2_some h
  refine V_callV (R1 := (rmd 2)) (As := [.int v1]) (r := (some (.int r3))) (zdk tbX6_say_0_ok 2 rfl) sC6_122 (tX6_isPerson q1) (c_v0) rfl rfl rfl ⟨Nat.le_of_ble_eq_true rfl, Nat.le_of_ble_eq_true rfl⟩ (Nat.le_of_ble_eq_true rfl) ⟨rfl, rfl⟩ id ?_
  refine V_if_ne (tgt := 14) (zdk tbX6_say_0_ok 3 rfl) (by decide) (fun c4 => ?_) (fun c4 => ?_)
  · replace h := ite_f h c4
    refine V_iload_n 2 (zdk tbX6_say_0_ok 8 rfl) rfl ?_
    refine V_iconst (v := 0) (zdk tbX6_say_0_ok 9 rfl) rfl ?_
    refine V_iconst (v := 5) (zdk tbX6_say_0_ok 10 rfl) rfl ?_
    obtain ⟨μ6, r7, q5, h⟩ := bd2_some h
    refine V_callS (R1 := (rmd 1)) (As := [.int v2, .int (0 : Int32), .int (5 : Int32)]) (r := (some (.int r7))) (zdk tbX6_say_0_ok 11 rfl) sC6_153 (tX6_isIn q5) rfl rfl ⟨Nat.le_of_ble_eq_true rfl, Nat.le_of_ble_eq_true rfl⟩ (Nat.le_of_ble_eq_true rfl) ⟨rfl, rfl⟩ id ?_
    refine V_if_ne (tgt := 30) (zdk tbX6_say_0_ok 12 rfl) (by decide) (fun c8 => ?_) (fun c8 => ?_)
    · replace h := ite_f h c8
      refine V_aload_n 0 (zdk tbX6_say_0_ok 17 rfl) rfl ?_
      obtain ⟨r9, q10, h⟩ := bd1_some h
      obtain ⟨q10, c_r9⟩ := zRc_some q10
      refine V_getR (zdk tbX6_say_0_ok 18 rfl) c_v0 fF6_19 rfl q10 ?_
      refine V_iload_n 1 (zdk tbX6_say_0_ok 19 rfl) rfl ?_
      refine V_iload_n 2 (zdk tbX6_say_0_ok 20 rfl) rfl ?_
      obtain ⟨μ12, q11, h⟩ := bd1_some h
      refine V_callV (R1 := (rmd 4)) (As := [.int v1, .int v2]) (r := none) (zdk tbX6_say_0_ok 21 rfl) sC6_259 (tX4_hear q11) (c_r9) rfl rfl rfl ⟨Nat.le_of_ble_eq_true rfl, Nat.le_of_ble_eq_true rfl⟩ (Nat.le_of_ble_eq_true rfl) ⟨rfl, rfl⟩ id ?_
      refine V_aload_n 0 (zdk tbX6_say_0_ok 22 rfl) rfl ?_
      obtain ⟨r13, q14, h⟩ := bd1_some h
      obtain ⟨q14, c_r13⟩ := zRc_some q14
      refine V_getR (zdk tbX6_say_0_ok 23 rfl) c_v0 fF6_19 rfl q14 ?_
      refine V_getI (zdk tbX6_say_0_ok 24 rfl) c_r13 fF6_176 rfl ?_
      refine V_iload_n 1 (zdk tbX6_say_0_ok 25 rfl) rfl ?_
      refine V_icmp_ne (tgt := 54) (zdk tbX6_say_0_ok 26 rfl) (by decide) (fun c15 => ?_) (fun c15 => ?_)
      · replace h := ite_f h c15
        refine V_iconst (v := 0) (zdk tbX6_say_0_ok 29 rfl) rfl ?_
        refine V_sub (ls' := []) [] rfl ?_
        exact tX6_say_b55 (0 : Int32) μ12  h
      · replace h := ite_t h c15
        refine V_iconst (v := 1) (zdk tbX6_say_0_ok 27 rfl) rfl ?_
        refine V_goto (tgt := 55) (zdk tbX6_say_0_ok 28 rfl) (by decide) ?_
        refine V_sub (ls' := []) [] rfl ?_
        exact tX6_say_b55 (1 : Int32) μ12  h
    · replace h := ite_t h c8
      refine V_aload_n 0 (zdk tbX6_say_0_ok 13 rfl) rfl ?_
      refine V_bipush (v := (-6)) (zdk tbX6_say_0_ok 14 rfl) rfl ?_
      obtain ⟨μ17, r18, q16, h⟩ := bd2_some h
      refine V_callV (R1 := (rmd 2)) (As := [.int (-6 : Int32)]) (r := (some (.int r18))) (zdk tbX6_say_0_ok 15 rfl) sC6_66 (tX6_refuse q16) (c_v0) rfl rfl rfl ⟨Nat.le_of_ble_eq_true rfl, Nat.le_of_ble_eq_true rfl⟩ (Nat.le_of_ble_eq_true rfl) ⟨rfl, rfl⟩ id ?_
      cases h
      exact V_iret (zdk tbX6_say_0_ok 16 rfl) rfl rfl
  · replace h := ite_t h c4
    refine V_aload_n 0 (zdk tbX6_say_0_ok 4 rfl) rfl ?_
    refine V_iconst (v := (-1)) (zdk tbX6_say_0_ok 5 rfl) rfl ?_
    obtain ⟨μ20, r21, q19, h⟩ := bd2_some h
    refine V_callV (R1 := (rmd 2)) (As := [.int (-1 : Int32)]) (r := (some (.int r21))) (zdk tbX6_say_0_ok 6 rfl) sC6_66 (tX6_refuse q19) (c_v0) rfl rfl rfl ⟨Nat.le_of_ble_eq_true rfl, Nat.le_of_ble_eq_true rfl⟩ (Nat.le_of_ble_eq_true rfl) ⟨rfl, rfl⟩ id ?_
    cases h
    exact V_iret (zdk tbX6_say_0_ok 7 rfl) rfl rfl

-- WhoComplainsCarries.steps
def tbX6_steps_0 : List (Nat × Instr × Nat) := [(0, .iload_n 1, 1), (1, .iconst 1, 1), (2, .bipush 60, 2), (4, .invokestatic 153, 3), (7, .ifCond .ne 10, 3), (10, .aload_n 0, 1), (11, .bipush (-6), 2), (13, .invokevirtual 66, 3), (16, .ireturn, 1), (17, .aload_n 0, 1), (18, .getfield 19, 3), (21, .iload_n 1, 1), (22, .invokevirtual 203, 3), (25, .aload_n 0, 1), (26, .getfield 19, 3), (29, .getfield 164, 3), (32, .ireturn, 1)]
theorem tbX6_steps_0_ok : ∀ q ∈ tbX6_steps_0, decode cX6_steps q.1 = .ok (q.2.1, q.2.2) := by decide +kernel
def fX6_steps (n : Nat) (v0 : Nat) (v1 : Int32) (μ : ZMem) : Option (ZMem × Int32) := chk (isC n 6 v0) (bd2 (fX6_isIn n v1 (1 : Int32) (60 : Int32) μ) (fun μ2 r3 => (if r3 = 0 then bd2 (fX6_refuse n v0 (-6 : Int32) μ2) (fun μ12 r13 => some (μ12, r13)) else bd1 (zRc n 4 μ2 v0 1) (fun r5 => bd1 (fX4_takeSteps n r5 v1 μ2) (fun μ8 => bd1 (zRc n 4 μ8 v0 1) (fun r9 => some (μ8, (zI μ8 r9 4))))))))
theorem tX6_steps {l : Launch} {fr : Bool} {n : Nat} {v0 : Nat} {v1 : Int32} {μ : ZMem} {z : ZMem × Int32} (h : fX6_steps n v0 v1 μ = some z) : ZFn l mX6_steps (rmd 6) [.ref v0, .int v1] fr n μ (fr, n, z.1, some (.int z.2)) := by
  unfold fX6_steps at h
  obtain ⟨c_v0, h⟩ := chk_some h
  refine ZFn.of (ls := [(0, .ref v0), (1, .int v1)]) (by decide) (fun ξ => Nat.le_of_ble_eq_true rfl) (fun ξ => rfl) ?_
  refine V_iload_n 1 (zdk tbX6_steps_0_ok 0 rfl) rfl ?_
  refine V_iconst (v := 1) (zdk tbX6_steps_0_ok 1 rfl) rfl ?_
  refine V_bipush (v := 60) (zdk tbX6_steps_0_ok 2 rfl) rfl ?_
  obtain ⟨μ2, r3, q1, h⟩ := bd2_some h
  refine V_callS (R1 := (rmd 1)) (As := [.int v1, .int (1 : Int32), .int (60 : Int32)]) (r := (some (.int r3))) (zdk tbX6_steps_0_ok 3 rfl) sC6_153 (tX6_isIn q1) rfl rfl ⟨Nat.le_of_ble_eq_true rfl, Nat.le_of_ble_eq_true rfl⟩ (Nat.le_of_ble_eq_true rfl) ⟨rfl, rfl⟩ id ?_
  refine V_if_ne (tgt := 17) (zdk tbX6_steps_0_ok 4 rfl) (by decide) (fun c4 => ?_) (fun c4 => ?_)
  · replace h := ite_f h c4
    refine V_aload_n 0 (zdk tbX6_steps_0_ok 9 rfl) rfl ?_
    obtain ⟨r5, q6, h⟩ := bd1_some h
    obtain ⟨q6, c_r5⟩ := zRc_some q6
    refine V_getR (zdk tbX6_steps_0_ok 10 rfl) c_v0 fF6_19 rfl q6 ?_
    refine V_iload_n 1 (zdk tbX6_steps_0_ok 11 rfl) rfl ?_
    obtain ⟨μ8, q7, h⟩ := bd1_some h
    refine V_callV (R1 := (rmd 5)) (As := [.int v1]) (r := none) (zdk tbX6_steps_0_ok 12 rfl) sC6_203 (tX4_takeSteps q7) (c_r5) rfl rfl rfl ⟨Nat.le_of_ble_eq_true rfl, Nat.le_of_ble_eq_true rfl⟩ (Nat.le_of_ble_eq_true rfl) ⟨rfl, rfl⟩ id ?_
    refine V_aload_n 0 (zdk tbX6_steps_0_ok 13 rfl) rfl ?_
    obtain ⟨r9, q10, h⟩ := bd1_some h
    obtain ⟨q10, c_r9⟩ := zRc_some q10
    refine V_getR (zdk tbX6_steps_0_ok 14 rfl) c_v0 fF6_19 rfl q10 ?_
    refine V_getI (zdk tbX6_steps_0_ok 15 rfl) c_r9 fF6_164 rfl ?_
    cases h
    exact V_iret (zdk tbX6_steps_0_ok 16 rfl) rfl rfl
  · replace h := ite_t h c4
    refine V_aload_n 0 (zdk tbX6_steps_0_ok 5 rfl) rfl ?_
    refine V_bipush (v := (-6)) (zdk tbX6_steps_0_ok 6 rfl) rfl ?_
    obtain ⟨μ12, r13, q11, h⟩ := bd2_some h
    refine V_callV (R1 := (rmd 2)) (As := [.int (-6 : Int32)]) (r := (some (.int r13))) (zdk tbX6_steps_0_ok 7 rfl) sC6_66 (tX6_refuse q11) (c_v0) rfl rfl rfl ⟨Nat.le_of_ble_eq_true rfl, Nat.le_of_ble_eq_true rfl⟩ (Nat.le_of_ble_eq_true rfl) ⟨rfl, rfl⟩ id ?_
    cases h
    exact V_iret (zdk tbX6_steps_0_ok 8 rfl) rfl rfl

-- WhoComplainsCarries.days
def tbX6_days_0 : List (Nat × Instr × Nat) := [(0, .aload_n 0, 1), (1, .getfield 19, 3), (4, .getfield 157, 3), (7, .ifCond .ne 10, 3), (10, .aload_n 0, 1), (11, .bipush (-5), 2), (13, .invokevirtual 66, 3), (16, .ireturn, 1), (17, .iload_n 1, 1), (18, .iconst 1, 1), (19, .bipush 60, 2), (21, .invokestatic 153, 3), (24, .ifCond .ne 10, 3), (27, .aload_n 0, 1), (28, .bipush (-6), 2), (30, .invokevirtual 66, 3), (33, .ireturn, 1), (34, .iconst 0, 1), (35, .istore_n 2, 1), (36, .iload_n 2, 1), (37, .iload_n 1, 1), (38, .if_icmp .ge 16, 3), (41, .aload_n 0, 1), (42, .getfield 19, 3), (45, .invokevirtual 262, 3), (48, .iinc 2 1, 3), (51, .goto (-15), 3), (54, .aload_n 0, 1), (55, .getfield 19, 3), (58, .getfield 164, 3), (61, .ireturn, 1)]
theorem tbX6_days_0_ok : ∀ q ∈ tbX6_days_0, decode cX6_days q.1 = .ok (q.2.1, q.2.2) := by decide +kernel
theorem wCX4_passDay : zCW mX4_passDay 0 := ⟨zin (i := 3) (by decide +kernel) rfl, zin (i := 749) (by decide +kernel) rfl, by decide +kernel, by decide +kernel, by decide +kernel⟩
theorem sC6_262 : zCV RX6 262 mX4_passDay 0 := ⟨zin (i := 746) (by decide +kernel) rfl, zin (i := 747) (by decide +kernel) rfl, zin (i := 748) (by decide +kernel) rfl, wCX4_passDay⟩
def fX6_days_b36 (n : Nat) : Nat → Nat → Int32 → Int32 → ZMem → Option (ZMem × Int32)
  | 0, _, _, _, _ => none
  | k + 1, v0, v1, v2, μ => (if v1 ≤ v2 then bd1 (zRc n 4 μ v0 1) (fun r2 => some (μ, (zI μ r2 4))) else bd1 (zRc n 4 μ v0 1) (fun r4 => bd1 (fX4_passDay n r4 μ) (fun μ7 => (fX6_days_b36 n k v0 v1 (v2 + (1 : Int32)) μ7))))
theorem tX6_days_b36 {l : Launch} {fr : Bool} {n : Nat} {z : ZMem × Int32} : ∀ (k : Nat) (v0 : Nat) (v1 : Int32) (v2 : Int32) (μ : ZMem) (c_v0 : isC n 6 v0 = true), fX6_days_b36 n k v0 v1 v2 μ = some z → V (zkI l mX6_days (rmd 6) fr n z) fr 36 [(0, .ref v0), (1, .int v1), (2, .int v2)] [] n μ := by
  intro k
  induction k with
  | zero =>
    intro v0 v1 v2 μ c_v0 h
    unfold fX6_days_b36 at h
    cases h
  | succ k ih =>
    intro v0 v1 v2 μ c_v0 h
    unfold fX6_days_b36 at h
    refine V_iload_n 2 (zdk tbX6_days_0_ok 19 rfl) rfl ?_
    refine V_iload_n 1 (zdk tbX6_days_0_ok 20 rfl) rfl ?_
    refine V_icmp_ge (tgt := 54) (zdk tbX6_days_0_ok 21 rfl) (by decide) (fun c1 => ?_) (fun c1 => ?_)
    · replace h := ite_t h c1
      refine V_aload_n 0 (zdk tbX6_days_0_ok 27 rfl) rfl ?_
      obtain ⟨r2, q3, h⟩ := bd1_some h
      obtain ⟨q3, c_r2⟩ := zRc_some q3
      refine V_getR (zdk tbX6_days_0_ok 28 rfl) c_v0 fF6_19 rfl q3 ?_
      refine V_getI (zdk tbX6_days_0_ok 29 rfl) c_r2 fF6_164 rfl ?_
      cases h
      exact V_iret (zdk tbX6_days_0_ok 30 rfl) rfl rfl
    · replace h := ite_f h c1
      refine V_aload_n 0 (zdk tbX6_days_0_ok 22 rfl) rfl ?_
      obtain ⟨r4, q5, h⟩ := bd1_some h
      obtain ⟨q5, c_r4⟩ := zRc_some q5
      refine V_getR (zdk tbX6_days_0_ok 23 rfl) c_v0 fF6_19 rfl q5 ?_
      obtain ⟨μ7, q6, h⟩ := bd1_some h
      refine V_callV (R1 := (rmd 5)) (As := []) (r := none) (zdk tbX6_days_0_ok 24 rfl) sC6_262 (tX4_passDay q6) (c_r4) rfl rfl rfl ⟨Nat.le_of_ble_eq_true rfl, Nat.le_of_ble_eq_true rfl⟩ (Nat.le_of_ble_eq_true rfl) ⟨rfl, rfl⟩ id ?_
      refine V_inc (dx := 1) (ls' := [(0, .ref v0), (1, .int v1), (2, .int (v2 + (1 : Int32)))]) 2 [1, 2, 0] (zdk tbX6_days_0_ok 25 rfl) rfl (Nat.le_of_ble_eq_true rfl) rfl rfl ?_
      refine V_goto (tgt := 36) (zdk tbX6_days_0_ok 26 rfl) (by decide) ?_
      exact ih v0 v1 (v2 + (1 : Int32)) μ7 c_v0 h
def fX6_days (n : Nat) (v0 : Nat) (v1 : Int32) (μ : ZMem) : Option (ZMem × Int32) := chk (isC n 6 v0) (bd1 (zRc n 4 μ v0 1) (fun r1 => (if (zI μ r1 1) = 0 then bd2 (fX6_refuse n v0 (-5 : Int32) μ) (fun μ12 r13 => some (μ12, r13)) else bd2 (fX6_isIn n v1 (1 : Int32) (60 : Int32) μ) (fun μ5 r6 => (if r6 = 0 then bd2 (fX6_refuse n v0 (-6 : Int32) μ5) (fun μ9 r10 => some (μ9, r10)) else (fX6_days_b36 n FU v0 v1 (0 : Int32) μ5))))))
theorem tX6_days {l : Launch} {fr : Bool} {n : Nat} {v0 : Nat} {v1 : Int32} {μ : ZMem} {z : ZMem × Int32} (h : fX6_days n v0 v1 μ = some z) : ZFn l mX6_days (rmd 6) [.ref v0, .int v1] fr n μ (fr, n, z.1, some (.int z.2)) := by
  unfold fX6_days at h
  obtain ⟨c_v0, h⟩ := chk_some h
  refine ZFn.of (ls := [(0, .ref v0), (1, .int v1)]) (by decide) (fun ξ => Nat.le_of_ble_eq_true rfl) (fun ξ => rfl) ?_
  refine V_aload_n 0 (zdk tbX6_days_0_ok 0 rfl) rfl ?_
  obtain ⟨r1, q2, h⟩ := bd1_some h
  obtain ⟨q2, c_r1⟩ := zRc_some q2
  refine V_getR (zdk tbX6_days_0_ok 1 rfl) c_v0 fF6_19 rfl q2 ?_
  refine V_getI (zdk tbX6_days_0_ok 2 rfl) c_r1 fF6_157 rfl ?_
  refine V_if_ne (tgt := 17) (zdk tbX6_days_0_ok 3 rfl) (by decide) (fun c3 => ?_) (fun c3 => ?_)
  · replace h := ite_f h c3
    refine V_iload_n 1 (zdk tbX6_days_0_ok 8 rfl) rfl ?_
    refine V_iconst (v := 1) (zdk tbX6_days_0_ok 9 rfl) rfl ?_
    refine V_bipush (v := 60) (zdk tbX6_days_0_ok 10 rfl) rfl ?_
    obtain ⟨μ5, r6, q4, h⟩ := bd2_some h
    refine V_callS (R1 := (rmd 1)) (As := [.int v1, .int (1 : Int32), .int (60 : Int32)]) (r := (some (.int r6))) (zdk tbX6_days_0_ok 11 rfl) sC6_153 (tX6_isIn q4) rfl rfl ⟨Nat.le_of_ble_eq_true rfl, Nat.le_of_ble_eq_true rfl⟩ (Nat.le_of_ble_eq_true rfl) ⟨rfl, rfl⟩ id ?_
    refine V_if_ne (tgt := 34) (zdk tbX6_days_0_ok 12 rfl) (by decide) (fun c7 => ?_) (fun c7 => ?_)
    · replace h := ite_f h c7
      refine V_iconst (v := 0) (zdk tbX6_days_0_ok 17 rfl) rfl ?_
      refine V_istore_n (ls' := [(0, .ref v0), (1, .int v1), (2, .int (0 : Int32))]) [1, 2, 0] (zdk tbX6_days_0_ok 18 rfl) (Nat.le_of_ble_eq_true rfl) rfl ?_
      exact tX6_days_b36 FU v0 v1 (0 : Int32) μ5 c_v0 h
    · replace h := ite_t h c7
      refine V_aload_n 0 (zdk tbX6_days_0_ok 13 rfl) rfl ?_
      refine V_bipush (v := (-6)) (zdk tbX6_days_0_ok 14 rfl) rfl ?_
      obtain ⟨μ9, r10, q8, h⟩ := bd2_some h
      refine V_callV (R1 := (rmd 2)) (As := [.int (-6 : Int32)]) (r := (some (.int r10))) (zdk tbX6_days_0_ok 15 rfl) sC6_66 (tX6_refuse q8) (c_v0) rfl rfl rfl ⟨Nat.le_of_ble_eq_true rfl, Nat.le_of_ble_eq_true rfl⟩ (Nat.le_of_ble_eq_true rfl) ⟨rfl, rfl⟩ id ?_
      cases h
      exact V_iret (zdk tbX6_days_0_ok 16 rfl) rfl rfl
  · replace h := ite_t h c3
    refine V_aload_n 0 (zdk tbX6_days_0_ok 4 rfl) rfl ?_
    refine V_bipush (v := (-5)) (zdk tbX6_days_0_ok 5 rfl) rfl ?_
    obtain ⟨μ12, r13, q11, h⟩ := bd2_some h
    refine V_callV (R1 := (rmd 2)) (As := [.int (-5 : Int32)]) (r := (some (.int r13))) (zdk tbX6_days_0_ok 6 rfl) sC6_66 (tX6_refuse q11) (c_v0) rfl rfl rfl ⟨Nat.le_of_ble_eq_true rfl, Nat.le_of_ble_eq_true rfl⟩ (Nat.le_of_ble_eq_true rfl) ⟨rfl, rfl⟩ id ?_
    cases h
    exact V_iret (zdk tbX6_days_0_ok 7 rfl) rfl rfl

-- WhoComplainsCarries.seed
def tbX6_seed_0 : List (Nat × Instr × Nat) := [(0, .aload_n 0, 1), (1, .getfield 19, 3), (4, .getfield 265, 3), (7, .istore_n 2, 1), (8, .aload_n 0, 1), (9, .getfield 19, 3), (12, .iload_n 1, 1), (13, .putfield 265, 3), (16, .iload_n 2, 1), (17, .ireturn, 1)]
theorem tbX6_seed_0_ok : ∀ q ∈ tbX6_seed_0, decode cX6_seed q.1 = .ok (q.2.1, q.2.2) := by decide +kernel
theorem fF6_265 : zF RX6 265 4 8 := ⟨_, rfl, by decide, zin (i := 119) (by decide +kernel) rfl⟩
def fX6_seed (n : Nat) (v0 : Nat) (v1 : Int32) (μ : ZMem) : Option (ZMem × Int32) := chk (isC n 6 v0) (bd1 (zRc n 4 μ v0 1) (fun r1 => bd1 (zRc n 4 μ v0 1) (fun r3 => lt (zpI μ r3 8 v1) (fun μ5 => some (μ5, (zI μ r1 8))))))
theorem tX6_seed {l : Launch} {fr : Bool} {n : Nat} {v0 : Nat} {v1 : Int32} {μ : ZMem} {z : ZMem × Int32} (h : fX6_seed n v0 v1 μ = some z) : ZFn l mX6_seed (rmd 1) [.ref v0, .int v1] fr n μ (fr, n, z.1, some (.int z.2)) := by
  unfold fX6_seed at h
  obtain ⟨c_v0, h⟩ := chk_some h
  refine ZFn.of (ls := [(0, .ref v0), (1, .int v1)]) (by decide) (fun ξ => Nat.le_of_ble_eq_true rfl) (fun ξ => rfl) ?_
  refine V_aload_n 0 (zdk tbX6_seed_0_ok 0 rfl) rfl ?_
  obtain ⟨r1, q2, h⟩ := bd1_some h
  obtain ⟨q2, c_r1⟩ := zRc_some q2
  refine V_getR (zdk tbX6_seed_0_ok 1 rfl) c_v0 fF6_19 rfl q2 ?_
  refine V_getI (zdk tbX6_seed_0_ok 2 rfl) c_r1 fF6_265 rfl ?_
  refine V_istore_n (ls' := [(0, .ref v0), (1, .int v1), (2, .int (zI μ r1 8))]) [1, 2, 0] (zdk tbX6_seed_0_ok 3 rfl) (Nat.le_of_ble_eq_true rfl) rfl ?_
  refine V_aload_n 0 (zdk tbX6_seed_0_ok 4 rfl) rfl ?_
  obtain ⟨r3, q4, h⟩ := bd1_some h
  obtain ⟨q4, c_r3⟩ := zRc_some q4
  refine V_getR (zdk tbX6_seed_0_ok 5 rfl) c_v0 fF6_19 rfl q4 ?_
  refine V_iload_n 1 (zdk tbX6_seed_0_ok 6 rfl) rfl ?_
  obtain ⟨μ5, e6, h⟩ := lt_some h
  refine V_putI (zdk tbX6_seed_0_ok 7 rfl) c_r3 fF6_265 rfl rfl rfl e6 ?_
  refine V_iload_n 2 (zdk tbX6_seed_0_ok 8 rfl) rfl ?_
  cases h
  exact V_iret (zdk tbX6_seed_0_ok 9 rfl) rfl rfl

-- WhoComplainsCarries.act
def tbX6_act_0 : List (Nat × Instr × Nat) := [(0, .aload_n 0, 1), (1, .getfield 46, 3), (4, .invokevirtual 268, 3), (7, .aload_n 0, 1), (8, .iload_n 1, 1), (9, .invokevirtual 122, 3), (12, .ifCond .eq 12, 3), (15, .iload_n 2, 1), (16, .iconst 0, 1), (17, .iconst 2, 1), (18, .invokestatic 153, 3), (21, .ifCond .ne 5, 3), (24, .iconst 0, 1), (25, .ireturn, 1), (26, .aload_n 0, 1), (27, .getfield 46, 3), (30, .aload_n 0, 1), (31, .getfield 19, 3), (34, .getfield 124, 3), (37, .iload_n 1, 1), (38, .aaload, 1), (39, .iload_n 1, 1), (40, .iload_n 2, 1), (41, .iload_n 3, 1), (42, .invokevirtual 271, 3), (45, .ireturn, 1)]
theorem tbX6_act_0_ok : ∀ q ∈ tbX6_act_0, decode cX6_act q.1 = .ok (q.2.1, q.2.2) := by decide +kernel
theorem wCX0_forget : zCW mX0_forget 0 := ⟨zin (i := 7) (by decide +kernel) rfl, zin (i := 766) (by decide +kernel) rfl, by decide +kernel, by decide +kernel, by decide +kernel⟩
theorem sC6_268 : zCV RX6 268 mX0_forget 0 := ⟨zin (i := 763) (by decide +kernel) rfl, zin (i := 764) (by decide +kernel) rfl, zin (i := 765) (by decide +kernel) rfl, wCX0_forget⟩
theorem wCX0_run : zCW mX0_run 4 := ⟨zin (i := 7) (by decide +kernel) rfl, zin (i := 770) (by decide +kernel) rfl, by decide +kernel, by decide +kernel, by decide +kernel⟩
theorem sC6_271 : zCV RX6 271 mX0_run 4 := ⟨zin (i := 767) (by decide +kernel) rfl, zin (i := 768) (by decide +kernel) rfl, zin (i := 769) (by decide +kernel) rfl, wCX0_run⟩
def fX6_act_b24 (n : Nat) (μ : ZMem) : Option (ZMem × Int32) := some (μ, (0 : Int32))
theorem tX6_act_b24 {l : Launch} {fr : Bool} {n : Nat} {z : ZMem × Int32} (μ : ZMem) (h : fX6_act_b24 n μ = some z) : V (zkI l mX6_act (rmd 47) fr n z) fr 24 [] [] n μ := by
  unfold fX6_act_b24 at h
  refine V_iconst (v := 0) (zdk tbX6_act_0_ok 12 rfl) rfl ?_
  cases h
  exact V_iret (zdk tbX6_act_0_ok 13 rfl) rfl rfl
def fX6_act (n : Nat) (v0 : Nat) (v1 : Int32) (v2 : Int32) (v3 : Int32) (μ : ZMem) : Option (ZMem × Int32) := chk (isC n 6 v0) (bd1 (zRc n 0 μ v0 6) (fun r1 => bd1 (fX0_forget n r1 μ) (fun μ4 => bd2 (fX6_isPerson n v0 v1 μ4) (fun μ6 r7 => (if r7 = 0 then (fX6_act_b24 n  μ6) else bd2 (fX6_isIn n v2 (0 : Int32) (2 : Int32) μ6) (fun μ10 r11 => (if r11 = 0 then (fX6_act_b24 n  μ10) else bd1 (zRc n 0 μ10 v0 6) (fun r13 => bd1 (zRc n 4 μ10 v0 1) (fun r15 => bd1 (zRc n 102 μ10 r15 0) (fun r17 => chk (inb v1 r17) (bd1 (zRc n 1 μ10 r17 v1.toNatClampNeg) (fun r20 => bd2 (fX0_run n r13 r20 v1 v2 v3 μ10) (fun μ23 r24 => some (μ23, r24))))))))))))))
theorem tX6_act {l : Launch} {fr : Bool} {n : Nat} {v0 : Nat} {v1 : Int32} {v2 : Int32} {v3 : Int32} {μ : ZMem} {z : ZMem × Int32} (h : fX6_act n v0 v1 v2 v3 μ = some z) : ZFn l mX6_act (rmd 47) [.ref v0, .int v1, .int v2, .int v3] fr n μ (fr, n, z.1, some (.int z.2)) := by
  unfold fX6_act at h
  obtain ⟨c_v0, h⟩ := chk_some h
  refine ZFn.of (ls := [(0, .ref v0), (1, .int v1), (2, .int v2), (3, .int v3)]) (by decide) (fun ξ => Nat.le_of_ble_eq_true rfl) (fun ξ => rfl) ?_
  refine V_aload_n 0 (zdk tbX6_act_0_ok 0 rfl) rfl ?_
  obtain ⟨r1, q2, h⟩ := bd1_some h
  obtain ⟨q2, c_r1⟩ := zRc_some q2
  refine V_getR (zdk tbX6_act_0_ok 1 rfl) c_v0 fF6_46 rfl q2 ?_
  obtain ⟨μ4, q3, h⟩ := bd1_some h
  refine V_callV (R1 := (rmd 1)) (As := []) (r := none) (zdk tbX6_act_0_ok 2 rfl) sC6_268 (tX0_forget q3) (c_r1) rfl rfl rfl ⟨Nat.le_of_ble_eq_true rfl, Nat.le_of_ble_eq_true rfl⟩ (Nat.le_of_ble_eq_true rfl) ⟨rfl, rfl⟩ id ?_
  refine V_aload_n 0 (zdk tbX6_act_0_ok 3 rfl) rfl ?_
  refine V_iload_n 1 (zdk tbX6_act_0_ok 4 rfl) rfl ?_
  obtain ⟨μ6, r7, q5, h⟩ := bd2_some h
  refine V_callV (R1 := (rmd 2)) (As := [.int v1]) (r := (some (.int r7))) (zdk tbX6_act_0_ok 5 rfl) sC6_122 (tX6_isPerson q5) (c_v0) rfl rfl rfl ⟨Nat.le_of_ble_eq_true rfl, Nat.le_of_ble_eq_true rfl⟩ (Nat.le_of_ble_eq_true rfl) ⟨rfl, rfl⟩ id ?_
  refine V_if_eq (tgt := 24) (zdk tbX6_act_0_ok 6 rfl) (by decide) (fun c8 => ?_) (fun c8 => ?_)
  · replace h := ite_t h c8
    refine V_sub (ls' := []) [] rfl ?_
    exact tX6_act_b24  μ6  h
  · replace h := ite_f h c8
    refine V_iload_n 2 (zdk tbX6_act_0_ok 7 rfl) rfl ?_
    refine V_iconst (v := 0) (zdk tbX6_act_0_ok 8 rfl) rfl ?_
    refine V_iconst (v := 2) (zdk tbX6_act_0_ok 9 rfl) rfl ?_
    obtain ⟨μ10, r11, q9, h⟩ := bd2_some h
    refine V_callS (R1 := (rmd 1)) (As := [.int v2, .int (0 : Int32), .int (2 : Int32)]) (r := (some (.int r11))) (zdk tbX6_act_0_ok 10 rfl) sC6_153 (tX6_isIn q9) rfl rfl ⟨Nat.le_of_ble_eq_true rfl, Nat.le_of_ble_eq_true rfl⟩ (Nat.le_of_ble_eq_true rfl) ⟨rfl, rfl⟩ id ?_
    refine V_if_ne (tgt := 26) (zdk tbX6_act_0_ok 11 rfl) (by decide) (fun c12 => ?_) (fun c12 => ?_)
    · replace h := ite_f h c12
      refine V_aload_n 0 (zdk tbX6_act_0_ok 14 rfl) rfl ?_
      obtain ⟨r13, q14, h⟩ := bd1_some h
      obtain ⟨q14, c_r13⟩ := zRc_some q14
      refine V_getR (zdk tbX6_act_0_ok 15 rfl) c_v0 fF6_46 rfl q14 ?_
      refine V_aload_n 0 (zdk tbX6_act_0_ok 16 rfl) rfl ?_
      obtain ⟨r15, q16, h⟩ := bd1_some h
      obtain ⟨q16, c_r15⟩ := zRc_some q16
      refine V_getR (zdk tbX6_act_0_ok 17 rfl) c_v0 fF6_19 rfl q16 ?_
      obtain ⟨r17, q18, h⟩ := bd1_some h
      obtain ⟨q18, c_r17⟩ := zRc_some q18
      refine V_getR (zdk tbX6_act_0_ok 18 rfl) c_r15 fF6_124 rfl q18 ?_
      refine V_iload_n 1 (zdk tbX6_act_0_ok 19 rfl) rfl ?_
      obtain ⟨b19, h⟩ := chk_some h
      obtain ⟨r20, q21, h⟩ := bd1_some h
      obtain ⟨q21, c_r20⟩ := zRc_some q21
      refine V_aald2 (zdk tbX6_act_0_ok 20 rfl) c_r17 b19 q21 ?_
      refine V_iload_n 1 (zdk tbX6_act_0_ok 21 rfl) rfl ?_
      refine V_iload_n 2 (zdk tbX6_act_0_ok 22 rfl) rfl ?_
      refine V_iload_n 3 (zdk tbX6_act_0_ok 23 rfl) rfl ?_
      obtain ⟨μ23, r24, q22, h⟩ := bd2_some h
      refine V_callV (R1 := (rmd 46)) (As := [.ref r20, .int v1, .int v2, .int v3]) (r := (some (.int r24))) (zdk tbX6_act_0_ok 24 rfl) sC6_271 (tX0_run q22) (c_r13) rfl rfl rfl ⟨Nat.le_of_ble_eq_true rfl, Nat.le_of_ble_eq_true rfl⟩ (Nat.le_of_ble_eq_true rfl) ⟨rfl, rfl⟩ id ?_
      cases h
      exact V_iret (zdk tbX6_act_0_ok 25 rfl) rfl rfl
    · replace h := ite_t h c12
      refine V_sub (ls' := []) [] rfl ?_
      exact tX6_act_b24  μ10  h

-- WhoComplainsCarries.trace
def tbX6_trace_0 : List (Nat × Instr × Nat) := [(0, .aload_n 0, 1), (1, .getfield 46, 3), (4, .iload_n 1, 1), (5, .invokevirtual 275, 3), (8, .ireturn, 1)]
theorem tbX6_trace_0_ok : ∀ q ∈ tbX6_trace_0, decode cX6_trace q.1 = .ok (q.2.1, q.2.2) := by decide +kernel
theorem wCX0_bodyKept : zCW mX0_bodyKept 1 := ⟨zin (i := 7) (by decide +kernel) rfl, zin (i := 793) (by decide +kernel) rfl, by decide +kernel, by decide +kernel, by decide +kernel⟩
theorem sC6_275 : zCV RX6 275 mX0_bodyKept 1 := ⟨zin (i := 790) (by decide +kernel) rfl, zin (i := 791) (by decide +kernel) rfl, zin (i := 792) (by decide +kernel) rfl, wCX0_bodyKept⟩
def fX6_trace (n : Nat) (v0 : Nat) (v1 : Int32) (μ : ZMem) : Option (ZMem × Int32) := chk (isC n 6 v0) (bd1 (zRc n 0 μ v0 6) (fun r1 => bd2 (fX0_bodyKept n r1 v1 μ) (fun μ4 r5 => some (μ4, r5))))
theorem tX6_trace {l : Launch} {fr : Bool} {n : Nat} {v0 : Nat} {v1 : Int32} {μ : ZMem} {z : ZMem × Int32} (h : fX6_trace n v0 v1 μ = some z) : ZFn l mX6_trace (rmd 3) [.ref v0, .int v1] fr n μ (fr, n, z.1, some (.int z.2)) := by
  unfold fX6_trace at h
  obtain ⟨c_v0, h⟩ := chk_some h
  refine ZFn.of (ls := [(0, .ref v0), (1, .int v1)]) (by decide) (fun ξ => Nat.le_of_ble_eq_true rfl) (fun ξ => rfl) ?_
  refine V_aload_n 0 (zdk tbX6_trace_0_ok 0 rfl) rfl ?_
  obtain ⟨r1, q2, h⟩ := bd1_some h
  obtain ⟨q2, c_r1⟩ := zRc_some q2
  refine V_getR (zdk tbX6_trace_0_ok 1 rfl) c_v0 fF6_46 rfl q2 ?_
  refine V_iload_n 1 (zdk tbX6_trace_0_ok 2 rfl) rfl ?_
  obtain ⟨μ4, r5, q3, h⟩ := bd2_some h
  refine V_callV (R1 := (rmd 2)) (As := [.int v1]) (r := (some (.int r5))) (zdk tbX6_trace_0_ok 3 rfl) sC6_275 (tX0_bodyKept q3) (c_r1) rfl rfl rfl ⟨Nat.le_of_ble_eq_true rfl, Nat.le_of_ble_eq_true rfl⟩ (Nat.le_of_ble_eq_true rfl) ⟨rfl, rfl⟩ id ?_
  cases h
  exact V_iret (zdk tbX6_trace_0_ok 4 rfl) rfl rfl

-- WhoComplainsCarries.image
def tbX6_image_0 : List (Nat × Instr × Nat) := [(0, .aload_n 0, 1), (1, .getfield 23, 3), (4, .aload_n 0, 1), (5, .getfield 19, 3), (8, .invokevirtual 196, 3), (11, .aload_n 0, 1), (12, .iconst 1, 1), (13, .putfield 54, 3), (16, .aload_n 0, 1), (17, .getfield 23, 3), (20, .getfield 157, 3), (23, .ireturn, 1)]
theorem tbX6_image_0_ok : ∀ q ∈ tbX6_image_0, decode cX6_image q.1 = .ok (q.2.1, q.2.2) := by decide +kernel
def fX6_image (n : Nat) (v0 : Nat) (μ : ZMem) : Option (ZMem × Int32) := chk (isC n 6 v0) (bd1 (zRc n 4 μ v0 2) (fun r1 => bd1 (zRc n 4 μ v0 1) (fun r3 => bd1 (fX4_load n r1 r3 μ) (fun μ6 => lt (zpI μ6 v0 8 (1 : Int32)) (fun μ7 => bd1 (zRc n 4 μ7 v0 2) (fun r9 => some (μ7, (zI μ7 r9 1))))))))
theorem tX6_image {l : Launch} {fr : Bool} {n : Nat} {v0 : Nat} {μ : ZMem} {z : ZMem × Int32} (h : fX6_image n v0 μ = some z) : ZFn l mX6_image (rmd 3) [.ref v0] fr n μ (fr, n, z.1, some (.int z.2)) := by
  unfold fX6_image at h
  obtain ⟨c_v0, h⟩ := chk_some h
  refine ZFn.of (ls := [(0, .ref v0)]) (by decide) (fun ξ => Nat.le_of_ble_eq_true rfl) (fun ξ => rfl) ?_
  refine V_aload_n 0 (zdk tbX6_image_0_ok 0 rfl) rfl ?_
  obtain ⟨r1, q2, h⟩ := bd1_some h
  obtain ⟨q2, c_r1⟩ := zRc_some q2
  refine V_getR (zdk tbX6_image_0_ok 1 rfl) c_v0 fF6_23 rfl q2 ?_
  refine V_aload_n 0 (zdk tbX6_image_0_ok 2 rfl) rfl ?_
  obtain ⟨r3, q4, h⟩ := bd1_some h
  obtain ⟨q4, c_r3⟩ := zRc_some q4
  refine V_getR (zdk tbX6_image_0_ok 3 rfl) c_v0 fF6_19 rfl q4 ?_
  obtain ⟨μ6, q5, h⟩ := bd1_some h
  refine V_callV (R1 := (rmd 2)) (As := [.ref r3]) (r := none) (zdk tbX6_image_0_ok 4 rfl) sC6_196 (tX4_load q5) (c_r1) rfl rfl rfl ⟨Nat.le_of_ble_eq_true rfl, Nat.le_of_ble_eq_true rfl⟩ (Nat.le_of_ble_eq_true rfl) ⟨rfl, rfl⟩ id ?_
  refine V_aload_n 0 (zdk tbX6_image_0_ok 5 rfl) rfl ?_
  refine V_iconst (v := 1) (zdk tbX6_image_0_ok 6 rfl) rfl ?_
  obtain ⟨μ7, e8, h⟩ := lt_some h
  refine V_putZ (zdk tbX6_image_0_ok 7 rfl) c_v0 fF6_54 rfl rfl rfl (by decide) (by decide) e8 ?_
  refine V_aload_n 0 (zdk tbX6_image_0_ok 8 rfl) rfl ?_
  obtain ⟨r9, q10, h⟩ := bd1_some h
  obtain ⟨q10, c_r9⟩ := zRc_some q10
  refine V_getR (zdk tbX6_image_0_ok 9 rfl) c_v0 fF6_23 rfl q10 ?_
  refine V_getI (zdk tbX6_image_0_ok 10 rfl) c_r9 fF6_157 rfl ?_
  cases h
  exact V_iret (zdk tbX6_image_0_ok 11 rfl) rfl rfl

-- WhoComplainsCarries.restore
def tbX6_restore_0 : List (Nat × Instr × Nat) := [(0, .aload_n 0, 1), (1, .getfield 54, 3), (4, .ifCond .ne 10, 3), (7, .aload_n 0, 1), (8, .bipush (-6), 2), (10, .invokevirtual 66, 3), (13, .ireturn, 1), (14, .aload_n 0, 1), (15, .getfield 19, 3), (18, .aload_n 0, 1), (19, .getfield 23, 3), (22, .invokevirtual 196, 3), (25, .iconst 0, 1), (26, .istore_n 1, 1), (27, .iload_n 1, 1), (28, .bipush 8, 2), (30, .if_icmp .ge 46, 3), (33, .aload_n 0, 1), (34, .getfield 11, 3), (37, .iload_n 1, 1), (38, .aaload, 1), (39, .invokevirtual 113, 3), (42, .ifCond .eq 28, 3), (45, .aload_n 0, 1), (46, .aload_n 0, 1), (47, .getfield 11, 3), (50, .iload_n 1, 1), (51, .aaload, 1), (52, .getfield 116, 3), (55, .invokevirtual 122, 3), (58, .ifCond .ne 12, 3), (61, .aload_n 0, 1), (62, .getfield 11, 3), (65, .iload_n 1, 1), (66, .aaload, 1), (67, .invokevirtual 99, 3), (70, .iinc 1 1, 3), (73, .goto (-46), 3), (76, .aload_n 0, 1), (77, .getfield 19, 3), (80, .getfield 157, 3), (83, .ireturn, 1)]
theorem tbX6_restore_0_ok : ∀ q ∈ tbX6_restore_0, decode cX6_restore q.1 = .ok (q.2.1, q.2.2) := by decide +kernel
def fX6_restore_b70 (g27 : Nat → Int32 → ZMem → Option (ZMem × Int32)) (n : Nat) (v0 : Nat) (v1 : Int32) (μ : ZMem) : Option (ZMem × Int32) := (g27 v0 (v1 + (1 : Int32)) μ)
theorem tX6_restore_b70 {l : Launch} {fr : Bool} {n : Nat} {z : ZMem × Int32} {g27 : Nat → Int32 → ZMem → Option (ZMem × Int32)} (hg27 : ∀ (v0 : Nat) (v1 : Int32) (μ : ZMem), isC n 6 v0 = true → g27 v0 v1 μ = some z → V (zkI l mX6_restore (rmd 3) fr n z) fr 27 [(0, .ref v0), (1, .int v1)] [] n μ) (v0 : Nat) (v1 : Int32) (μ : ZMem) (c_v0 : isC n 6 v0 = true) (h : fX6_restore_b70 g27 n v0 v1 μ = some z) : V (zkI l mX6_restore (rmd 3) fr n z) fr 70 [(0, .ref v0), (1, .int v1)] [] n μ := by
  unfold fX6_restore_b70 at h
  refine V_inc (dx := 1) (ls' := [(0, .ref v0), (1, .int (v1 + (1 : Int32)))]) 1 [1, 0] (zdk tbX6_restore_0_ok 36 rfl) rfl (Nat.le_of_ble_eq_true rfl) rfl rfl ?_
  refine V_goto (tgt := 27) (zdk tbX6_restore_0_ok 37 rfl) (by decide) ?_
  exact hg27 v0 (v1 + (1 : Int32)) μ c_v0 h
def fX6_restore_b27 (n : Nat) : Nat → Nat → Int32 → ZMem → Option (ZMem × Int32)
  | 0, _, _, _ => none
  | k + 1, v0, v1, μ => (if (8 : Int32) ≤ v1 then bd1 (zRc n 4 μ v0 1) (fun r2 => some (μ, (zI μ r2 1))) else bd1 (zRc n 104 μ v0 0) (fun r4 => chk (inb v1 r4) (bd1 (zRc n 3 μ r4 v1.toNatClampNeg) (fun r7 => bd2 (fX3_isPerson n r7 μ) (fun μ10 r11 => (if r11 = 0 then (fX6_restore_b70 (fX6_restore_b27 n k) n v0 v1 μ10) else bd1 (zRc n 104 μ10 v0 0) (fun r13 => chk (inb v1 r13) (bd1 (zRc n 3 μ10 r13 v1.toNatClampNeg) (fun r16 => bd2 (fX6_isPerson n v0 (zI μ10 r16 3) μ10) (fun μ19 r20 => (if r20 = 0 then bd1 (zRc n 104 μ19 v0 0) (fun r22 => chk (inb v1 r22) (bd1 (zRc n 3 μ19 r22 v1.toNatClampNeg) (fun r25 => bd1 (fX3_holdNothing n r25 μ19) (fun μ28 => (fX6_restore_b70 (fX6_restore_b27 n k) n v0 v1 μ28))))) else (fX6_restore_b70 (fX6_restore_b27 n k) n v0 v1 μ19))))))))))))
theorem tX6_restore_b27 {l : Launch} {fr : Bool} {n : Nat} {z : ZMem × Int32} : ∀ (k : Nat) (v0 : Nat) (v1 : Int32) (μ : ZMem) (c_v0 : isC n 6 v0 = true), fX6_restore_b27 n k v0 v1 μ = some z → V (zkI l mX6_restore (rmd 3) fr n z) fr 27 [(0, .ref v0), (1, .int v1)] [] n μ := by
  intro k
  induction k with
  | zero =>
    intro v0 v1 μ c_v0 h
    unfold fX6_restore_b27 at h
    cases h
  | succ k ih =>
    intro v0 v1 μ c_v0 h
    unfold fX6_restore_b27 at h
    refine V_iload_n 1 (zdk tbX6_restore_0_ok 14 rfl) rfl ?_
    refine V_bipush (v := 8) (zdk tbX6_restore_0_ok 15 rfl) rfl ?_
    refine V_icmp_ge (tgt := 76) (zdk tbX6_restore_0_ok 16 rfl) (by decide) (fun c1 => ?_) (fun c1 => ?_)
    · replace h := ite_t h c1
      refine V_aload_n 0 (zdk tbX6_restore_0_ok 38 rfl) rfl ?_
      obtain ⟨r2, q3, h⟩ := bd1_some h
      obtain ⟨q3, c_r2⟩ := zRc_some q3
      refine V_getR (zdk tbX6_restore_0_ok 39 rfl) c_v0 fF6_19 rfl q3 ?_
      refine V_getI (zdk tbX6_restore_0_ok 40 rfl) c_r2 fF6_157 rfl ?_
      cases h
      exact V_iret (zdk tbX6_restore_0_ok 41 rfl) rfl rfl
    · replace h := ite_f h c1
      refine V_aload_n 0 (zdk tbX6_restore_0_ok 17 rfl) rfl ?_
      obtain ⟨r4, q5, h⟩ := bd1_some h
      obtain ⟨q5, c_r4⟩ := zRc_some q5
      refine V_getR (zdk tbX6_restore_0_ok 18 rfl) c_v0 fF6_11 rfl q5 ?_
      refine V_iload_n 1 (zdk tbX6_restore_0_ok 19 rfl) rfl ?_
      obtain ⟨b6, h⟩ := chk_some h
      obtain ⟨r7, q8, h⟩ := bd1_some h
      obtain ⟨q8, c_r7⟩ := zRc_some q8
      refine V_aald4 (zdk tbX6_restore_0_ok 20 rfl) c_r4 b6 q8 ?_
      obtain ⟨μ10, r11, q9, h⟩ := bd2_some h
      refine V_callV (R1 := (rmd 1)) (As := []) (r := (some (.int r11))) (zdk tbX6_restore_0_ok 21 rfl) sC6_113 (tX3_isPerson q9) (c_r7) rfl rfl rfl ⟨Nat.le_of_ble_eq_true rfl, Nat.le_of_ble_eq_true rfl⟩ (Nat.le_of_ble_eq_true rfl) ⟨rfl, rfl⟩ id ?_
      refine V_if_eq (tgt := 70) (zdk tbX6_restore_0_ok 22 rfl) (by decide) (fun c12 => ?_) (fun c12 => ?_)
      · replace h := ite_t h c12
        exact tX6_restore_b70 (fun v0 v1 μ y0 h => ih v0 v1 μ y0 h) v0 v1 μ10 c_v0 h
      · replace h := ite_f h c12
        refine V_aload_n 0 (zdk tbX6_restore_0_ok 23 rfl) rfl ?_
        refine V_aload_n 0 (zdk tbX6_restore_0_ok 24 rfl) rfl ?_
        obtain ⟨r13, q14, h⟩ := bd1_some h
        obtain ⟨q14, c_r13⟩ := zRc_some q14
        refine V_getR (zdk tbX6_restore_0_ok 25 rfl) c_v0 fF6_11 rfl q14 ?_
        refine V_iload_n 1 (zdk tbX6_restore_0_ok 26 rfl) rfl ?_
        obtain ⟨b15, h⟩ := chk_some h
        obtain ⟨r16, q17, h⟩ := bd1_some h
        obtain ⟨q17, c_r16⟩ := zRc_some q17
        refine V_aald4 (zdk tbX6_restore_0_ok 27 rfl) c_r13 b15 q17 ?_
        refine V_getI (zdk tbX6_restore_0_ok 28 rfl) c_r16 fF6_116 rfl ?_
        obtain ⟨μ19, r20, q18, h⟩ := bd2_some h
        refine V_callV (R1 := (rmd 2)) (As := [.int (zI μ10 r16 3)]) (r := (some (.int r20))) (zdk tbX6_restore_0_ok 29 rfl) sC6_122 (tX6_isPerson q18) (c_v0) rfl rfl rfl ⟨Nat.le_of_ble_eq_true rfl, Nat.le_of_ble_eq_true rfl⟩ (Nat.le_of_ble_eq_true rfl) ⟨rfl, rfl⟩ id ?_
        refine V_if_ne (tgt := 70) (zdk tbX6_restore_0_ok 30 rfl) (by decide) (fun c21 => ?_) (fun c21 => ?_)
        · replace h := ite_f h c21
          exact tX6_restore_b70 (fun v0 v1 μ y0 h => ih v0 v1 μ y0 h) v0 v1 μ19 c_v0 h
        · replace h := ite_t h c21
          refine V_aload_n 0 (zdk tbX6_restore_0_ok 31 rfl) rfl ?_
          obtain ⟨r22, q23, h⟩ := bd1_some h
          obtain ⟨q23, c_r22⟩ := zRc_some q23
          refine V_getR (zdk tbX6_restore_0_ok 32 rfl) c_v0 fF6_11 rfl q23 ?_
          refine V_iload_n 1 (zdk tbX6_restore_0_ok 33 rfl) rfl ?_
          obtain ⟨b24, h⟩ := chk_some h
          obtain ⟨r25, q26, h⟩ := bd1_some h
          obtain ⟨q26, c_r25⟩ := zRc_some q26
          refine V_aald4 (zdk tbX6_restore_0_ok 34 rfl) c_r22 b24 q26 ?_
          obtain ⟨μ28, q27, h⟩ := bd1_some h
          refine V_callV (R1 := (rmd 1)) (As := []) (r := none) (zdk tbX6_restore_0_ok 35 rfl) sC6_99 (tX3_holdNothing q27) (c_r25) rfl rfl rfl ⟨Nat.le_of_ble_eq_true rfl, Nat.le_of_ble_eq_true rfl⟩ (Nat.le_of_ble_eq_true rfl) ⟨rfl, rfl⟩ id ?_
          exact tX6_restore_b70 (fun v0 v1 μ y0 h => ih v0 v1 μ y0 h) v0 v1 μ28 c_v0 h
def fX6_restore (n : Nat) (v0 : Nat) (μ : ZMem) : Option (ZMem × Int32) := chk (isC n 6 v0) ((if (zI μ v0 8) = 0 then bd2 (fX6_refuse n v0 (-6 : Int32) μ) (fun μ9 r10 => some (μ9, r10)) else bd1 (zRc n 4 μ v0 1) (fun r2 => bd1 (zRc n 4 μ v0 2) (fun r4 => bd1 (fX4_load n r2 r4 μ) (fun μ7 => (fX6_restore_b27 n FU v0 (0 : Int32) μ7))))))
theorem tX6_restore {l : Launch} {fr : Bool} {n : Nat} {v0 : Nat} {μ : ZMem} {z : ZMem × Int32} (h : fX6_restore n v0 μ = some z) : ZFn l mX6_restore (rmd 3) [.ref v0] fr n μ (fr, n, z.1, some (.int z.2)) := by
  unfold fX6_restore at h
  obtain ⟨c_v0, h⟩ := chk_some h
  refine ZFn.of (ls := [(0, .ref v0)]) (by decide) (fun ξ => Nat.le_of_ble_eq_true rfl) (fun ξ => rfl) ?_
  refine V_aload_n 0 (zdk tbX6_restore_0_ok 0 rfl) rfl ?_
  refine V_getI (zdk tbX6_restore_0_ok 1 rfl) c_v0 fF6_54 rfl ?_
  refine V_if_ne (tgt := 14) (zdk tbX6_restore_0_ok 2 rfl) (by decide) (fun c1 => ?_) (fun c1 => ?_)
  · replace h := ite_f h c1
    refine V_aload_n 0 (zdk tbX6_restore_0_ok 7 rfl) rfl ?_
    obtain ⟨r2, q3, h⟩ := bd1_some h
    obtain ⟨q3, c_r2⟩ := zRc_some q3
    refine V_getR (zdk tbX6_restore_0_ok 8 rfl) c_v0 fF6_19 rfl q3 ?_
    refine V_aload_n 0 (zdk tbX6_restore_0_ok 9 rfl) rfl ?_
    obtain ⟨r4, q5, h⟩ := bd1_some h
    obtain ⟨q5, c_r4⟩ := zRc_some q5
    refine V_getR (zdk tbX6_restore_0_ok 10 rfl) c_v0 fF6_23 rfl q5 ?_
    obtain ⟨μ7, q6, h⟩ := bd1_some h
    refine V_callV (R1 := (rmd 2)) (As := [.ref r4]) (r := none) (zdk tbX6_restore_0_ok 11 rfl) sC6_196 (tX4_load q6) (c_r2) rfl rfl rfl ⟨Nat.le_of_ble_eq_true rfl, Nat.le_of_ble_eq_true rfl⟩ (Nat.le_of_ble_eq_true rfl) ⟨rfl, rfl⟩ id ?_
    refine V_iconst (v := 0) (zdk tbX6_restore_0_ok 12 rfl) rfl ?_
    refine V_istore_n (ls' := [(0, .ref v0), (1, .int (0 : Int32))]) [1, 0] (zdk tbX6_restore_0_ok 13 rfl) (Nat.le_of_ble_eq_true rfl) rfl ?_
    exact tX6_restore_b27 FU v0 (0 : Int32) μ7 c_v0 h
  · replace h := ite_t h c1
    refine V_aload_n 0 (zdk tbX6_restore_0_ok 3 rfl) rfl ?_
    refine V_bipush (v := (-6)) (zdk tbX6_restore_0_ok 4 rfl) rfl ?_
    obtain ⟨μ9, r10, q8, h⟩ := bd2_some h
    refine V_callV (R1 := (rmd 2)) (As := [.int (-6 : Int32)]) (r := (some (.int r10))) (zdk tbX6_restore_0_ok 5 rfl) sC6_66 (tX6_refuse q8) (c_v0) rfl rfl rfl ⟨Nat.le_of_ble_eq_true rfl, Nat.le_of_ble_eq_true rfl⟩ (Nat.le_of_ble_eq_true rfl) ⟨rfl, rfl⟩ id ?_
    cases h
    exact V_iret (zdk tbX6_restore_0_ok 6 rfl) rfl rfl

-- WhoComplainsCarries.status
def tbX6_status_0 : List (Nat × Instr × Nat) := [(0, .iload_n 1, 1), (1, .tableswitch 135 0 9 #[55, 63, 71, 79, 87, 95, 103, 111, 119, 127], 55), (56, .aload_n 0, 1), (57, .getfield 19, 3), (60, .getfield 157, 3), (63, .ireturn, 1), (64, .aload_n 0, 1), (65, .getfield 19, 3), (68, .getfield 141, 3), (71, .ireturn, 1), (72, .aload_n 0, 1), (73, .getfield 19, 3), (76, .getfield 167, 3), (79, .ireturn, 1), (80, .aload_n 0, 1), (81, .getfield 19, 3), (84, .getfield 164, 3), (87, .ireturn, 1), (88, .aload_n 0, 1), (89, .getfield 19, 3), (92, .getfield 176, 3), (95, .ireturn, 1), (96, .aload_n 0, 1), (97, .getfield 19, 3), (100, .getfield 278, 3), (103, .ireturn, 1), (104, .aload_n 0, 1), (105, .getfield 19, 3), (108, .getfield 170, 3), (111, .ireturn, 1), (112, .aload_n 0, 1), (113, .getfield 19, 3), (116, .invokevirtual 281, 3), (119, .ireturn, 1), (120, .aload_n 0, 1), (121, .getfield 19, 3), (124, .getfield 265, 3), (127, .ireturn, 1), (128, .aload_n 0, 1), (129, .getfield 46, 3), (132, .getfield 284, 3), (135, .ireturn, 1), (136, .iload_n 1, 1), (137, .bipush 11, 2), (139, .bipush 17, 2), (141, .invokestatic 153, 3), (144, .ifCond .eq 15, 3), (147, .aload_n 0, 1), (148, .getfield 50, 3), (151, .iload_n 1, 1)]
theorem tbX6_status_0_ok : ∀ q ∈ tbX6_status_0, decode cX6_status q.1 = .ok (q.2.1, q.2.2) := by decide +kernel
def tbX6_status_1 : List (Nat × Instr × Nat) := [(152, .bipush 10, 2), (154, .isub, 1), (155, .iaload, 1), (156, .goto 4, 3), (159, .iconst (-1), 1), (160, .ireturn, 1)]
theorem tbX6_status_1_ok : ∀ q ∈ tbX6_status_1, decode cX6_status q.1 = .ok (q.2.1, q.2.2) := by decide +kernel
theorem fF6_278 : zF RX6 278 4 6 := ⟨_, rfl, by decide, zin (i := 114) (by decide +kernel) rfl⟩
theorem wCX4_tiredTogether : zCW mX4_tiredTogether 0 := ⟨zin (i := 3) (by decide +kernel) rfl, zin (i := 810) (by decide +kernel) rfl, by decide +kernel, by decide +kernel, by decide +kernel⟩
theorem sC6_281 : zCV RX6 281 mX4_tiredTogether 0 := ⟨zin (i := 807) (by decide +kernel) rfl, zin (i := 808) (by decide +kernel) rfl, zin (i := 809) (by decide +kernel) rfl, wCX4_tiredTogether⟩
theorem fF6_284 : zF RX6 284 0 1 := ⟨_, rfl, by decide, zin (i := 197) (by decide +kernel) rfl⟩
def fX6_status_b160 (n : Nat) (s0 : Int32) (μ : ZMem) : Option (ZMem × Int32) := some (μ, s0)
theorem tX6_status_b160 {l : Launch} {fr : Bool} {n : Nat} {z : ZMem × Int32} (s0 : Int32) (μ : ZMem) (h : fX6_status_b160 n s0 μ = some z) : V (zkI l mX6_status (rmd 2) fr n z) fr 160 [] [.int s0] n μ := by
  unfold fX6_status_b160 at h
  cases h
  exact V_iret (zdk tbX6_status_1_ok 5 rfl) rfl rfl
def fX6_status (n : Nat) (v0 : Nat) (v1 : Int32) (μ : ZMem) : Option (ZMem × Int32) := chk (isC n 6 v0) ((if v1 = (0 : Int32) then bd1 (zRc n 4 μ v0 1) (fun r2 => some (μ, (zI μ r2 1))) else (if v1 = (1 : Int32) then bd1 (zRc n 4 μ v0 1) (fun r5 => some (μ, (zI μ r5 2))) else (if v1 = (2 : Int32) then bd1 (zRc n 4 μ v0 1) (fun r8 => some (μ, (zI μ r8 3))) else (if v1 = (3 : Int32) then bd1 (zRc n 4 μ v0 1) (fun r11 => some (μ, (zI μ r11 4))) else (if v1 = (4 : Int32) then bd1 (zRc n 4 μ v0 1) (fun r14 => some (μ, (zI μ r14 5))) else (if v1 = (5 : Int32) then bd1 (zRc n 4 μ v0 1) (fun r17 => some (μ, (zI μ r17 6))) else (if v1 = (6 : Int32) then bd1 (zRc n 4 μ v0 1) (fun r20 => some (μ, (zI μ r20 7))) else (if v1 = (7 : Int32) then bd1 (zRc n 4 μ v0 1) (fun r23 => bd2 (fX4_tiredTogether n r23 μ) (fun μ26 r27 => some (μ26, r27))) else (if v1 = (8 : Int32) then bd1 (zRc n 4 μ v0 1) (fun r29 => some (μ, (zI μ r29 8))) else (if v1 = (9 : Int32) then bd1 (zRc n 0 μ v0 6) (fun r32 => some (μ, (zI μ r32 1))) else bd2 (fX6_isIn n v1 (11 : Int32) (17 : Int32) μ) (fun μ35 r36 => (if r36 = 0 then (fX6_status_b160 n (-1 : Int32) μ35) else bd1 (zRc n 100 μ35 v0 7) (fun r38 => chk (inb (v1 - (10 : Int32)) r38) ((fX6_status_b160 n (zI μ35 r38 (v1 - (10 : Int32)).toNatClampNeg) μ35))))))))))))))))
theorem tX6_status {l : Launch} {fr : Bool} {n : Nat} {v0 : Nat} {v1 : Int32} {μ : ZMem} {z : ZMem × Int32} (h : fX6_status n v0 v1 μ = some z) : ZFn l mX6_status (rmd 2) [.ref v0, .int v1] fr n μ (fr, n, z.1, some (.int z.2)) := by
  unfold fX6_status at h
  obtain ⟨c_v0, h⟩ := chk_some h
  refine ZFn.of (ls := [(0, .ref v0), (1, .int v1)]) (by decide) (fun ξ => Nat.le_of_ble_eq_true rfl) (fun ξ => rfl) ?_
  refine V_iload_n 1 (zdk tbX6_status_0_ok 0 rfl) rfl ?_
  by_cases c1 : v1 = (0 : Int32)
  · replace h := ite_t h c1
    refine V_tsw (off := 55) (tgt := 56) 0 c1 (zdk tbX6_status_0_ok 1 rfl) (by decide) rfl (by decide) ?_
    refine V_aload_n 0 (zdk tbX6_status_0_ok 2 rfl) rfl ?_
    obtain ⟨r2, q3, h⟩ := bd1_some h
    obtain ⟨q3, c_r2⟩ := zRc_some q3
    refine V_getR (zdk tbX6_status_0_ok 3 rfl) c_v0 fF6_19 rfl q3 ?_
    refine V_getI (zdk tbX6_status_0_ok 4 rfl) c_r2 fF6_157 rfl ?_
    cases h
    exact V_iret (zdk tbX6_status_0_ok 5 rfl) rfl rfl
  · replace h := ite_f h c1
    by_cases c4 : v1 = (1 : Int32)
    · replace h := ite_t h c4
      refine V_tsw (off := 63) (tgt := 64) 1 c4 (zdk tbX6_status_0_ok 1 rfl) (by decide) rfl (by decide) ?_
      refine V_aload_n 0 (zdk tbX6_status_0_ok 6 rfl) rfl ?_
      obtain ⟨r5, q6, h⟩ := bd1_some h
      obtain ⟨q6, c_r5⟩ := zRc_some q6
      refine V_getR (zdk tbX6_status_0_ok 7 rfl) c_v0 fF6_19 rfl q6 ?_
      refine V_getI (zdk tbX6_status_0_ok 8 rfl) c_r5 fF6_141 rfl ?_
      cases h
      exact V_iret (zdk tbX6_status_0_ok 9 rfl) rfl rfl
    · replace h := ite_f h c4
      by_cases c7 : v1 = (2 : Int32)
      · replace h := ite_t h c7
        refine V_tsw (off := 71) (tgt := 72) 2 c7 (zdk tbX6_status_0_ok 1 rfl) (by decide) rfl (by decide) ?_
        refine V_aload_n 0 (zdk tbX6_status_0_ok 10 rfl) rfl ?_
        obtain ⟨r8, q9, h⟩ := bd1_some h
        obtain ⟨q9, c_r8⟩ := zRc_some q9
        refine V_getR (zdk tbX6_status_0_ok 11 rfl) c_v0 fF6_19 rfl q9 ?_
        refine V_getI (zdk tbX6_status_0_ok 12 rfl) c_r8 fF6_167 rfl ?_
        cases h
        exact V_iret (zdk tbX6_status_0_ok 13 rfl) rfl rfl
      · replace h := ite_f h c7
        by_cases c10 : v1 = (3 : Int32)
        · replace h := ite_t h c10
          refine V_tsw (off := 79) (tgt := 80) 3 c10 (zdk tbX6_status_0_ok 1 rfl) (by decide) rfl (by decide) ?_
          refine V_aload_n 0 (zdk tbX6_status_0_ok 14 rfl) rfl ?_
          obtain ⟨r11, q12, h⟩ := bd1_some h
          obtain ⟨q12, c_r11⟩ := zRc_some q12
          refine V_getR (zdk tbX6_status_0_ok 15 rfl) c_v0 fF6_19 rfl q12 ?_
          refine V_getI (zdk tbX6_status_0_ok 16 rfl) c_r11 fF6_164 rfl ?_
          cases h
          exact V_iret (zdk tbX6_status_0_ok 17 rfl) rfl rfl
        · replace h := ite_f h c10
          by_cases c13 : v1 = (4 : Int32)
          · replace h := ite_t h c13
            refine V_tsw (off := 87) (tgt := 88) 4 c13 (zdk tbX6_status_0_ok 1 rfl) (by decide) rfl (by decide) ?_
            refine V_aload_n 0 (zdk tbX6_status_0_ok 18 rfl) rfl ?_
            obtain ⟨r14, q15, h⟩ := bd1_some h
            obtain ⟨q15, c_r14⟩ := zRc_some q15
            refine V_getR (zdk tbX6_status_0_ok 19 rfl) c_v0 fF6_19 rfl q15 ?_
            refine V_getI (zdk tbX6_status_0_ok 20 rfl) c_r14 fF6_176 rfl ?_
            cases h
            exact V_iret (zdk tbX6_status_0_ok 21 rfl) rfl rfl
          · replace h := ite_f h c13
            by_cases c16 : v1 = (5 : Int32)
            · replace h := ite_t h c16
              refine V_tsw (off := 95) (tgt := 96) 5 c16 (zdk tbX6_status_0_ok 1 rfl) (by decide) rfl (by decide) ?_
              refine V_aload_n 0 (zdk tbX6_status_0_ok 22 rfl) rfl ?_
              obtain ⟨r17, q18, h⟩ := bd1_some h
              obtain ⟨q18, c_r17⟩ := zRc_some q18
              refine V_getR (zdk tbX6_status_0_ok 23 rfl) c_v0 fF6_19 rfl q18 ?_
              refine V_getI (zdk tbX6_status_0_ok 24 rfl) c_r17 fF6_278 rfl ?_
              cases h
              exact V_iret (zdk tbX6_status_0_ok 25 rfl) rfl rfl
            · replace h := ite_f h c16
              by_cases c19 : v1 = (6 : Int32)
              · replace h := ite_t h c19
                refine V_tsw (off := 103) (tgt := 104) 6 c19 (zdk tbX6_status_0_ok 1 rfl) (by decide) rfl (by decide) ?_
                refine V_aload_n 0 (zdk tbX6_status_0_ok 26 rfl) rfl ?_
                obtain ⟨r20, q21, h⟩ := bd1_some h
                obtain ⟨q21, c_r20⟩ := zRc_some q21
                refine V_getR (zdk tbX6_status_0_ok 27 rfl) c_v0 fF6_19 rfl q21 ?_
                refine V_getI (zdk tbX6_status_0_ok 28 rfl) c_r20 fF6_170 rfl ?_
                cases h
                exact V_iret (zdk tbX6_status_0_ok 29 rfl) rfl rfl
              · replace h := ite_f h c19
                by_cases c22 : v1 = (7 : Int32)
                · replace h := ite_t h c22
                  refine V_tsw (off := 111) (tgt := 112) 7 c22 (zdk tbX6_status_0_ok 1 rfl) (by decide) rfl (by decide) ?_
                  refine V_aload_n 0 (zdk tbX6_status_0_ok 30 rfl) rfl ?_
                  obtain ⟨r23, q24, h⟩ := bd1_some h
                  obtain ⟨q24, c_r23⟩ := zRc_some q24
                  refine V_getR (zdk tbX6_status_0_ok 31 rfl) c_v0 fF6_19 rfl q24 ?_
                  obtain ⟨μ26, r27, q25, h⟩ := bd2_some h
                  refine V_callV (R1 := (rmd 1)) (As := []) (r := (some (.int r27))) (zdk tbX6_status_0_ok 32 rfl) sC6_281 (tX4_tiredTogether q25) (c_r23) rfl rfl rfl ⟨Nat.le_of_ble_eq_true rfl, Nat.le_of_ble_eq_true rfl⟩ (Nat.le_of_ble_eq_true rfl) ⟨rfl, rfl⟩ id ?_
                  cases h
                  exact V_iret (zdk tbX6_status_0_ok 33 rfl) rfl rfl
                · replace h := ite_f h c22
                  by_cases c28 : v1 = (8 : Int32)
                  · replace h := ite_t h c28
                    refine V_tsw (off := 119) (tgt := 120) 8 c28 (zdk tbX6_status_0_ok 1 rfl) (by decide) rfl (by decide) ?_
                    refine V_aload_n 0 (zdk tbX6_status_0_ok 34 rfl) rfl ?_
                    obtain ⟨r29, q30, h⟩ := bd1_some h
                    obtain ⟨q30, c_r29⟩ := zRc_some q30
                    refine V_getR (zdk tbX6_status_0_ok 35 rfl) c_v0 fF6_19 rfl q30 ?_
                    refine V_getI (zdk tbX6_status_0_ok 36 rfl) c_r29 fF6_265 rfl ?_
                    cases h
                    exact V_iret (zdk tbX6_status_0_ok 37 rfl) rfl rfl
                  · replace h := ite_f h c28
                    by_cases c31 : v1 = (9 : Int32)
                    · replace h := ite_t h c31
                      refine V_tsw (off := 127) (tgt := 128) 9 c31 (zdk tbX6_status_0_ok 1 rfl) (by decide) rfl (by decide) ?_
                      refine V_aload_n 0 (zdk tbX6_status_0_ok 38 rfl) rfl ?_
                      obtain ⟨r32, q33, h⟩ := bd1_some h
                      obtain ⟨q33, c_r32⟩ := zRc_some q33
                      refine V_getR (zdk tbX6_status_0_ok 39 rfl) c_v0 fF6_46 rfl q33 ?_
                      refine V_getI (zdk tbX6_status_0_ok 40 rfl) c_r32 fF6_284 rfl ?_
                      cases h
                      exact V_iret (zdk tbX6_status_0_ok 41 rfl) rfl rfl
                    · replace h := ite_f h c31
                      refine V_tsw0 (tgt := 136) [0, 1, 2, 3, 4, 5, 6, 7, 8, 9] (List.forall_mem_cons.mpr ⟨c1, List.forall_mem_cons.mpr ⟨c4, List.forall_mem_cons.mpr ⟨c7, List.forall_mem_cons.mpr ⟨c10, List.forall_mem_cons.mpr ⟨c13, List.forall_mem_cons.mpr ⟨c16, List.forall_mem_cons.mpr ⟨c19, List.forall_mem_cons.mpr ⟨c22, List.forall_mem_cons.mpr ⟨c28, List.forall_mem_cons.mpr ⟨c31, fun _ h => absurd h List.not_mem_nil⟩⟩⟩⟩⟩⟩⟩⟩⟩⟩) (zdk tbX6_status_0_ok 1 rfl) (by decide) (by decide) (by decide) ?_
                      refine V_iload_n 1 (zdk tbX6_status_0_ok 42 rfl) rfl ?_
                      refine V_bipush (v := 11) (zdk tbX6_status_0_ok 43 rfl) rfl ?_
                      refine V_bipush (v := 17) (zdk tbX6_status_0_ok 44 rfl) rfl ?_
                      obtain ⟨μ35, r36, q34, h⟩ := bd2_some h
                      refine V_callS (R1 := (rmd 1)) (As := [.int v1, .int (11 : Int32), .int (17 : Int32)]) (r := (some (.int r36))) (zdk tbX6_status_0_ok 45 rfl) sC6_153 (tX6_isIn q34) rfl rfl ⟨Nat.le_of_ble_eq_true rfl, Nat.le_of_ble_eq_true rfl⟩ (Nat.le_of_ble_eq_true rfl) ⟨rfl, rfl⟩ id ?_
                      refine V_if_eq (tgt := 159) (zdk tbX6_status_0_ok 46 rfl) (by decide) (fun c37 => ?_) (fun c37 => ?_)
                      · replace h := ite_t h c37
                        refine V_iconst (v := (-1)) (zdk tbX6_status_1_ok 4 rfl) rfl ?_
                        refine V_sub (ls' := []) [] rfl ?_
                        exact tX6_status_b160 (-1 : Int32) μ35  h
                      · replace h := ite_f h c37
                        refine V_aload_n 0 (zdk tbX6_status_0_ok 47 rfl) rfl ?_
                        obtain ⟨r38, q39, h⟩ := bd1_some h
                        obtain ⟨q39, c_r38⟩ := zRc_some q39
                        refine V_getR (zdk tbX6_status_0_ok 48 rfl) c_v0 fF6_50 rfl q39 ?_
                        refine V_iload_n 1 (zdk tbX6_status_0_ok 49 rfl) rfl ?_
                        refine V_bipush (v := 10) (zdk tbX6_status_1_ok 0 rfl) rfl ?_
                        refine V_isub (zdk tbX6_status_1_ok 1 rfl) ?_
                        obtain ⟨b40, h⟩ := chk_some h
                        refine V_iald (zdk tbX6_status_1_ok 2 rfl) c_r38 b40 ?_
                        refine V_goto (tgt := 160) (zdk tbX6_status_1_ok 3 rfl) (by decide) ?_
                        refine V_sub (ls' := []) [] rfl ?_
                        exact tX6_status_b160 (zI μ35 r38 (v1 - (10 : Int32)).toNatClampNeg) μ35  h

