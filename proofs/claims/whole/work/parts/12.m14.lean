set_option maxRecDepth 20000 in
theorem k_X10_factorial_0 : ckD cX10_factorial [(0, .lconst 1, 1, 1, 0), (1, .lstore_n 1, 1, 2, 0), (2, .iconst 2, 1, 3, 0), (3, .istore_n 3, 1, 4, 0), (4, .iload_n 3, 1, 5, 0), (5, .iload_n 0, 1, 6, 0), (6, .if_icmp .gt 14, 3, 9, 20), (9, .lload_n 1, 1, 10, 0), (10, .iload_n 3, 1, 11, 0), (11, .i2l, 1, 12, 0), (12, .lmul, 1, 13, 0), (13, .lstore_n 1, 1, 14, 0), (14, .iinc 3 1, 3, 17, 0), (17, .goto (-13), 3, 20, 4), (20, .lload_n 1, 1, 21, 0), (21, .lreturn, 1, 22, 0)] = true := by decide +kernel
def f_X10_factorial_A4 (x1_3 : Int64) : Option Int64 := some x1_3
def f_X10_factorial_L4 (a0 : Int32) (x1_1 : Int64) (x3_2 : Int32) : Option ((Int64 × Int32) ⊕ Int64) := if a0 < x3_2 then some (.inr x1_1) else lt1 (x1_1 * ((x3_2).toInt64)) fun x1_5 => lt1 (x3_2 + 1) fun x3_6 => some (.inl (x1_5, x3_6))
def f_X10_factorial (a0 : Int32) : Option Int64 := (loop (fun v => f_X10_factorial_L4 a0 v.1 v.2) FU ((1 : Int64), (2 : Int32))).bind fun z => f_X10_factorial_A4 z
set_option maxRecDepth 100000 in
set_option maxHeartbeats 4000000 in
theorem t_X10_factorial {E : Ev} {l : Launch} (htr : l.stackTraces = false) (a0 : Int32) (M : Mm) (r : Int64) (hf : f_X10_factorial a0 = some r) : CM E l 0 0 0 yX10_factorial cX10_factorial 4 (some .long) [.int a0] M (some (.long r)) M := by
  refine CM.of htr (by decide +kernel) (Nat.le_of_ble_eq_true rfl) ?_
  intro K hE hL hl hR0 C hr hRv
  subst hE
  subst hl
  have C : Cx K cX10_factorial RX10 0 := C
  have hB : (0 : Nat) ≤ K.1.R.cells ∧ 0 ≤ K.1.R.slots := ⟨Nat.zero_le _, Nat.zero_le _⟩
  have hL2 : 2 < K.2.2.1 := by rw [hL]; decide
  have hL3 : 3 < K.2.2.1 := by rw [hL]; decide
  show G K (0, 0) 0 [(0, .int a0)] [] M
  unfold f_X10_factorial at hf
  refine g_lconst (v := (1 : Int64)) C (ckD_get k_X10_factorial_0 0 rfl) (by decide) ?_
  refine g_lstore_n (lv' := [(1, _), (0, _)]) C (ckD_get k_X10_factorial_0 1 rfl) rfl hL2 rfl ?_
  refine g_iconst (v := (2 : Int32)) C (ckD_get k_X10_factorial_0 2 rfl) (by decide) ?_
  refine g_istore_n (lv' := [(3, _), (1, _), (0, _)]) C (ckD_get k_X10_factorial_0 3 rfl) rfl hL3 rfl ?_
  refine G.sub [2, 1, 0] rfl ?_
  obtain ⟨x1_3, hx_4, hf⟩ := bd_e hf
  have hE_4 : G K (0, 0) 20 [(1, .long x1_3)] [] M := by
    have hf : f_X10_factorial_A4 x1_3 = some r := hf
    unfold f_X10_factorial_A4 at hf
    refine g_lload_n 0 C (ckD_get k_X10_factorial_0 14 rfl) rfl rfl ?_
    cases hf
    exact g_lret C (ckD_get k_X10_factorial_0 15 rfl) hr hRv (Nat.le_refl _) (Nat.le_refl _)
  refine loop_e (x := x1_3) (P := fun (v : (Int64 × Int32)) => G K (0, 0) 4 [(0, .int a0), (1, .long v.1), (3, .int v.2)] [] M) ?_ FU _ hx_4
  intro v rr_4 hf hn_4 hz_4
  obtain ⟨x1_1, x3_2⟩ := v
  have hf : f_X10_factorial_L4 a0 x1_1 x3_2 = some rr_4 := hf
  show G K (0, 0) 4 [(0, .int a0), (1, .long x1_1), (3, .int x3_2)] [] M
  unfold f_X10_factorial_L4 at hf
  refine g_iload_n 2 C (ckD_get k_X10_factorial_0 4 rfl) rfl rfl ?_
  refine g_iload_n 0 C (ckD_get k_X10_factorial_0 5 rfl) rfl rfl ?_
  refine g_icmp_gt C (ckD_get k_X10_factorial_0 6 rfl) (fun c_4 => ?_) (fun c_4 => ?_)
  · have hf := if_t hf c_4
    refine G.sub [1] rfl ?_
    cases hf
    cases hz_4 _ rfl
    exact hE_4
  · have hf := if_f hf c_4
    refine g_lload_n 1 C (ckD_get k_X10_factorial_0 7 rfl) rfl rfl ?_
    refine g_iload_n 2 C (ckD_get k_X10_factorial_0 8 rfl) rfl rfl ?_
    refine g_i2l C (ckD_get k_X10_factorial_0 9 rfl) ?_
    refine g_lmul C (ckD_get k_X10_factorial_0 10 rfl) ?_
    obtain ⟨x1_5, ex1_5, hf⟩ := lt_e hf
    refine topL ex1_5 ?_
    refine g_lstore_n (lv' := [(1, _), (0, _), (3, _)]) C (ckD_get k_X10_factorial_0 11 rfl) rfl hL2 rfl ?_
    obtain ⟨x3_6, ex3_6, hf⟩ := lt_e hf
    refine g_iinc (lv' := [(3, _), (1, _), (0, _)]) 2 C (ckD_get k_X10_factorial_0 12 rfl) rfl ex3_6 hL3 rfl ?_
    refine g_goto C (ckD_get k_X10_factorial_0 13 rfl) ?_
    refine G.sub [2, 1, 0] rfl ?_
    cases hf
    exact hn_4 _ rfl

set_option maxRecDepth 20000 in
theorem k_X10_count_0 : ckD cX10_count [(0, .aload_n 0, 1, 1, 0), (1, .iconst 0, 1, 2, 0), (2, .putfield 121, 3, 5, 0), (5, .iload_n 1, 1, 6, 0), (6, .iconst 1, 1, 7, 0), (7, .if_icmp .lt 8, 3, 10, 15), (10, .iload_n 1, 1, 11, 0), (11, .iconst 3, 1, 12, 0), (12, .if_icmp .le 9, 3, 15, 21), (15, .aload_n 0, 1, 16, 0), (16, .invokevirtual 134, 3, 19, 0), (19, .i2l, 1, 20, 0), (20, .lreturn, 1, 21, 0), (21, .iload_n 2, 1, 22, 0), (22, .iconst 1, 1, 23, 0), (23, .if_icmp .lt 9, 3, 26, 32), (26, .iload_n 2, 1, 27, 0), (27, .bipush 10, 2, 29, 0), (29, .if_icmp .le 7, 3, 32, 36), (32, .ldc2_w 316, 3, 35, 0), (35, .lreturn, 1, 36, 0), (36, .iload_n 1, 1, 37, 0), (37, .iconst 1, 1, 38, 0), (38, .if_icmp .ne 13, 3, 41, 51), (41, .iload_n 2, 1, 42, 0), (42, .invokestatic 318, 3, 45, 0), (45, .iload_n 2, 1, 46, 0), (46, .invokestatic 318, 3, 49, 0), (49, .lmul, 1, 50, 0), (50, .lreturn, 1, 51, 0), (51, .iload_n 1, 1, 52, 0), (52, .iconst 3, 1, 53, 0), (53, .if_icmp .ne 85, 3, 56, 138), (56, .aload_n 0, 1, 57, 0), (57, .getfield 114, 3, 60, 0), (60, .iconst 0, 1, 61, 0), (61, .lconst 1, 1, 62, 0), (62, .lastore, 1, 63, 0), (63, .iconst 1, 1, 64, 0), (64, .istore_n 3, 1, 65, 0)] = true := by decide +kernel
set_option maxRecDepth 20000 in
theorem k_X10_count_1 : ckD cX10_count [(65, .iload_n 3, 1, 66, 0), (66, .iload_n 2, 1, 67, 0), (67, .if_icmp .gt 59, 3, 70, 126), (70, .aload_n 0, 1, 71, 0), (71, .getfield 114, 3, 74, 0), (74, .iload_n 3, 1, 75, 0), (75, .lconst 0, 1, 76, 0), (76, .lastore, 1, 77, 0), (77, .iconst 0, 1, 78, 0), (78, .istore 4, 2, 80, 0), (80, .iload 4, 2, 82, 0), (82, .iload_n 3, 1, 83, 0), (83, .if_icmp .ge 37, 3, 86, 120), (86, .aload_n 0, 1, 87, 0), (87, .getfield 114, 3, 90, 0), (90, .iload_n 3, 1, 91, 0), (91, .dup2, 1, 92, 0), (92, .laload, 1, 93, 0), (93, .aload_n 0, 1, 94, 0), (94, .getfield 114, 3, 97, 0), (97, .iload 4, 2, 99, 0), (99, .laload, 1, 100, 0), (100, .aload_n 0, 1, 101, 0), (101, .getfield 114, 3, 104, 0), (104, .iload_n 3, 1, 105, 0), (105, .iconst 1, 1, 106, 0), (106, .isub, 1, 107, 0), (107, .iload 4, 2, 109, 0), (109, .isub, 1, 110, 0), (110, .laload, 1, 111, 0), (111, .lmul, 1, 112, 0), (112, .ladd, 1, 113, 0), (113, .lastore, 1, 114, 0), (114, .iinc 4 1, 3, 117, 0), (117, .goto (-37), 3, 120, 80), (120, .iinc 3 1, 3, 123, 0), (123, .goto (-58), 3, 126, 65), (126, .iload_n 2, 1, 127, 0), (127, .invokestatic 318, 3, 130, 0), (130, .aload_n 0, 1, 131, 0)] = true := by decide +kernel
set_option maxRecDepth 20000 in
theorem k_X10_count_2 : ckD cX10_count [(131, .getfield 114, 3, 134, 0), (134, .iload_n 2, 1, 135, 0), (135, .laload, 1, 136, 0), (136, .lmul, 1, 137, 0), (137, .lreturn, 1, 138, 0), (138, .aload_n 0, 1, 139, 0), (139, .getfield 114, 3, 142, 0), (142, .iconst 1, 1, 143, 0), (143, .lconst 1, 1, 144, 0), (144, .lastore, 1, 145, 0), (145, .aload_n 0, 1, 146, 0), (146, .getfield 118, 3, 149, 0), (149, .iconst 1, 1, 150, 0), (150, .lconst 0, 1, 151, 0), (151, .lastore, 1, 152, 0), (152, .iconst 2, 1, 153, 0), (153, .istore_n 3, 1, 154, 0), (154, .iload_n 3, 1, 155, 0), (155, .iload_n 2, 1, 156, 0), (156, .if_icmp .gt 87, 3, 159, 243), (159, .aload_n 0, 1, 160, 0), (160, .getfield 118, 3, 163, 0), (163, .iload_n 3, 1, 164, 0), (164, .lconst 0, 1, 165, 0), (165, .lastore, 1, 166, 0), (166, .iconst 1, 1, 167, 0), (167, .istore 4, 2, 169, 0), (169, .iload 4, 2, 171, 0), (171, .iload_n 3, 1, 172, 0), (172, .if_icmp .ge 49, 3, 175, 221), (175, .iload_n 3, 1, 176, 0), (176, .iload 4, 2, 178, 0), (178, .isub, 1, 179, 0), (179, .istore 5, 2, 181, 0), (181, .aload_n 0, 1, 182, 0), (182, .getfield 118, 3, 185, 0), (185, .iload_n 3, 1, 186, 0), (186, .dup2, 1, 187, 0), (187, .laload, 1, 188, 0), (188, .aload_n 0, 1, 189, 0)] = true := by decide +kernel
set_option maxRecDepth 20000 in
theorem k_X10_count_3 : ckD cX10_count [(189, .getfield 114, 3, 192, 0), (192, .iload 4, 2, 194, 0), (194, .laload, 1, 195, 0), (195, .iload 5, 2, 197, 0), (197, .iconst 1, 1, 198, 0), (198, .if_icmp .ne 7, 3, 201, 205), (201, .lconst 1, 1, 202, 0), (202, .goto 10, 3, 205, 212), (205, .aload_n 0, 1, 206, 0), (206, .getfield 118, 3, 209, 0), (209, .iload 5, 2, 211, 0), (211, .laload, 1, 212, 0), (212, .lmul, 1, 213, 0), (213, .ladd, 1, 214, 0), (214, .lastore, 1, 215, 0), (215, .iinc 4 1, 3, 218, 0), (218, .goto (-49), 3, 221, 169), (221, .aload_n 0, 1, 222, 0), (222, .getfield 114, 3, 225, 0), (225, .iload_n 3, 1, 226, 0), (226, .ldc2_w 322, 3, 229, 0), (229, .aload_n 0, 1, 230, 0), (230, .getfield 118, 3, 233, 0), (233, .iload_n 3, 1, 234, 0), (234, .laload, 1, 235, 0), (235, .lmul, 1, 236, 0), (236, .lastore, 1, 237, 0), (237, .iinc 3 1, 3, 240, 0), (240, .goto (-86), 3, 243, 154), (243, .iload_n 2, 1, 244, 0), (244, .invokestatic 318, 3, 247, 0), (247, .aload_n 0, 1, 248, 0), (248, .getfield 114, 3, 251, 0), (251, .iload_n 2, 1, 252, 0), (252, .laload, 1, 253, 0), (253, .lmul, 1, 254, 0), (254, .lreturn, 1, 255, 0)] = true := by decide +kernel
def f_X10_count_J15 (M_2 : Mm) : Option (Int64 × Mm) := lt1 (f_X10_fail M_2) fun z_5 => some (((z_5.1).toInt64), z_5.2)
def f_X10_count_A154 (a2 : Int32) (M_18 : Mm) : Option (Int64 × Mm) := (f_X10_factorial a2).bind fun r_20 => rdL 11 M_18 103 a2 fun v_21 => some ((r_20 * v_21), M_18)
def f_X10_count_A169 (x3_16 : Int32) (M_28 : Mm) : Option ((Int32 × Mm) ⊕ Mm) := rdL 11 M_28 104 x3_16 fun v_29 => wrL 11 M_28 103 x3_16 ((2 : Int64) * v_29) fun M_31 => lt1 (x3_16 + 1) fun x3_33 => some (.inl (x3_33, M_31))
def f_X10_count_J212 (x3_16 : Int32) (x4_26 : Int32) (M_27 : Mm) (v_36 : Int64) (v_38 : Int64) (s_40 : Int64) : Option ((Int32 × Mm) ⊕ Mm) := wrL 11 M_27 104 x3_16 (v_36 + (v_38 * s_40)) fun M_41 => lt1 (x4_26 + 1) fun x4_43 => some (.inl (x4_43, M_41))
def f_X10_count_L169 (x3_16 : Int32) (x4_26 : Int32) (M_27 : Mm) : Option ((Int32 × Mm) ⊕ Mm) := if x3_16 ≤ x4_26 then some (.inr M_27) else lt1 (x3_16 - x4_26) fun x5_35 => rdL 11 M_27 104 x3_16 fun v_36 => rdL 11 M_27 103 x4_26 fun v_38 => if x5_35 = (1 : Int32) then f_X10_count_J212 x3_16 x4_26 M_27 v_36 v_38 (1 : Int64) else rdL 11 M_27 104 x5_35 fun v_45 => f_X10_count_J212 x3_16 x4_26 M_27 v_36 v_38 v_45
def f_X10_count_L154 (a2 : Int32) (x3_16 : Int32) (M_17 : Mm) : Option ((Int32 × Mm) ⊕ Mm) := if a2 < x3_16 then some (.inr M_17) else wrL 11 M_17 104 x3_16 (0 : Int64) fun M_24 => (loop (fun v => f_X10_count_L169 x3_16 v.1 v.2) FU ((1 : Int32), M_24)).bind fun z => f_X10_count_A169 x3_16 z
def f_X10_count_A65 (a2 : Int32) (M_51 : Mm) : Option (Int64 × Mm) := (f_X10_factorial a2).bind fun r_53 => rdL 11 M_51 103 a2 fun v_54 => some ((r_53 * v_54), M_51)
def f_X10_count_A80 (x3_49 : Int32) (M_61 : Mm) : Option ((Int32 × Mm) ⊕ Mm) := lt1 (x3_49 + 1) fun x3_62 => some (.inl (x3_62, M_61))
def f_X10_count_L80 (x3_49 : Int32) (x4_59 : Int32) (M_60 : Mm) : Option ((Int32 × Mm) ⊕ Mm) := if x3_49 ≤ x4_59 then some (.inr M_60) else rdL 11 M_60 103 x3_49 fun v_64 => rdL 11 M_60 103 x4_59 fun v_66 => rdL 11 M_60 103 ((x3_49 - (1 : Int32)) - x4_59) fun v_68 => wrL 11 M_60 103 x3_49 (v_64 + (v_66 * v_68)) fun M_70 => lt1 (x4_59 + 1) fun x4_72 => some (.inl (x4_72, M_70))
def f_X10_count_L65 (a2 : Int32) (x3_49 : Int32) (M_50 : Mm) : Option ((Int32 × Mm) ⊕ Mm) := if a2 < x3_49 then some (.inr M_50) else wrL 11 M_50 103 x3_49 (0 : Int64) fun M_57 => (loop (fun v => f_X10_count_L80 x3_49 v.1 v.2) FU ((0 : Int32), M_57)).bind fun z => f_X10_count_A80 x3_49 z
def f_X10_count (a1 : Int32) (a2 : Int32) (M : Mm) : Option (Int64 × Mm) := lt1 (wi M 69 0 (0 : Int32)) fun M_1 => if a1 < (1 : Int32) then f_X10_count_J15 M_1 else if a1 ≤ (3 : Int32) then (if a2 < (1 : Int32) then some ((-1 : Int64), M_1) else if a2 ≤ (10 : Int32) then (if a1 = (1 : Int32) then (f_X10_factorial a2).bind fun r_74 => (f_X10_factorial a2).bind fun r_76 => some ((r_74 * r_76), M_1) else if a1 = (3 : Int32) then wrL 11 M_1 103 (0 : Int32) (1 : Int64) fun M_47 => (loop (fun v => f_X10_count_L65 a2 v.1 v.2) FU ((1 : Int32), M_47)).bind fun z => f_X10_count_A65 a2 z else wrL 11 M_1 103 (1 : Int32) (1 : Int64) fun M_12 => wrL 11 M_12 104 (1 : Int32) (0 : Int64) fun M_14 => (loop (fun v => f_X10_count_L154 a2 v.1 v.2) FU ((2 : Int32), M_14)).bind fun z => f_X10_count_A154 a2 z) else some ((-1 : Int64), M_1)) else f_X10_count_J15 M_1
set_option maxRecDepth 100000 in
set_option maxHeartbeats 4000000 in
theorem t_X10_count {E : Ev} {l : Launch} (htr : l.stackTraces = false) (a1 : Int32) (a2 : Int32) (M : Mm) (r : (Int64 × Mm)) (hf : f_X10_count a1 a2 M = some r) : CM E l 1 0 0 yX10_count cX10_count 6 (some .long) [.ref (E.1 + 69), .int a1, .int a2] M (some (.long r.1)) r.2 := by
  refine CM.of htr (by decide +kernel) (Nat.le_of_ble_eq_true rfl) ?_
  intro K hE hL hl hR0 C hr hRv
  subst hE
  subst hl
  have C : Cx K cX10_count RX10 1 := C
  have hB : (0 : Nat) ≤ K.1.R.cells ∧ 0 ≤ K.1.R.slots := ⟨Nat.zero_le _, Nat.zero_le _⟩
  have hL3 : 3 < K.2.2.1 := by rw [hL]; decide
  have hL4 : 4 < K.2.2.1 := by rw [hL]; decide
  have hL5 : 5 < K.2.2.1 := by rw [hL]; decide
  show G K (0, 0) 0 [(0, .ref (K.2.1.1 + 69)), (1, .int a1), (2, .int a2)] [] M
  unfold f_X10_count at hf
  refine g_aload_n 0 C (ckD_get k_X10_count_0 0 rfl) rfl rfl ?_
  refine g_iconst (v := (0 : Int32)) C (ckD_get k_X10_count_0 1 rfl) (by decide) ?_
  obtain ⟨M_1, eM_1, hf⟩ := lt_e hf
  refine g_putI C (ckD_get k_X10_count_0 2 rfl) fk_X10_121 T69 rfl ?_
  refine memI eM_1 ?_
  refine g_iload_n 1 C (ckD_get k_X10_count_0 3 rfl) rfl rfl ?_
  refine g_iconst (v := (1 : Int32)) C (ckD_get k_X10_count_0 4 rfl) (by decide) ?_
  have hJ_15 : ∀ (M_2 : Mm), f_X10_count_J15 M_2 = some r → G K (0, 0) 15 [(0, .ref (K.2.1.1 + 69))] [] M_2 := by
    intro M_2 hf
    unfold f_X10_count_J15 at hf
    refine g_aload_n 0 C (ckD_get k_X10_count_0 9 rfl) rfl rfl ?_
    obtain ⟨z_5, ez_5, hf⟩ := lt_e hf
    refine n_cV [] [] C (ckD_get k_X10_count_0 10 rfl) vk_X10_134 (t_X10_fail C.tr _ _ ez_5) T69 rfl rfl (Nat.le_of_ble_eq_true rfl) (by decide) hB rfl ?_
    refine g_i2l C (ckD_get k_X10_count_0 11 rfl) ?_
    cases hf
    exact g_lret C (ckD_get k_X10_count_0 12 rfl) hr hRv (Nat.le_refl _) (Nat.le_refl _)
  refine g_icmp_lt C (ckD_get k_X10_count_0 5 rfl) (fun c_6 => ?_) (fun c_6 => ?_)
  · have hf := if_t hf c_6
    refine G.sub [0] rfl ?_
    exact hJ_15 _ hf
  · have hf := if_f hf c_6
    refine g_iload_n 1 C (ckD_get k_X10_count_0 6 rfl) rfl rfl ?_
    refine g_iconst (v := (3 : Int32)) C (ckD_get k_X10_count_0 7 rfl) (by decide) ?_
    refine g_icmp_le C (ckD_get k_X10_count_0 8 rfl) (fun c_7 => ?_) (fun c_7 => ?_)
    · have hf := if_t hf c_7
      refine g_iload_n 2 C (ckD_get k_X10_count_0 13 rfl) rfl rfl ?_
      refine g_iconst (v := (1 : Int32)) C (ckD_get k_X10_count_0 14 rfl) (by decide) ?_
      refine g_icmp_lt C (ckD_get k_X10_count_0 15 rfl) (fun c_8 => ?_) (fun c_8 => ?_)
      · have hf := if_t hf c_8
        refine g_ldc2 C (ckD_get k_X10_count_0 19 rfl) q1522 ?_
        cases hf
        exact g_lret C (ckD_get k_X10_count_0 20 rfl) hr hRv (Nat.le_refl _) (Nat.le_refl _)
      · have hf := if_f hf c_8
        refine g_iload_n 2 C (ckD_get k_X10_count_0 16 rfl) rfl rfl ?_
        refine g_bipush (v := (10 : Int32)) C (ckD_get k_X10_count_0 17 rfl) (by decide) ?_
        refine g_icmp_le C (ckD_get k_X10_count_0 18 rfl) (fun c_9 => ?_) (fun c_9 => ?_)
        · have hf := if_t hf c_9
          refine g_iload_n 1 C (ckD_get k_X10_count_0 21 rfl) rfl rfl ?_
          refine g_iconst (v := (1 : Int32)) C (ckD_get k_X10_count_0 22 rfl) (by decide) ?_
          refine g_icmp_ne C (ckD_get k_X10_count_0 23 rfl) (fun c_10 => ?_) (fun c_10 => ?_)
          · have hf := if_f hf c_10
            refine g_iload_n 1 C (ckD_get k_X10_count_0 30 rfl) rfl rfl ?_
            refine g_iconst (v := (3 : Int32)) C (ckD_get k_X10_count_0 31 rfl) (by decide) ?_
            refine g_icmp_ne C (ckD_get k_X10_count_0 32 rfl) (fun c_11 => ?_) (fun c_11 => ?_)
            · have hf := if_f hf c_11
              refine g_aload_n 0 C (ckD_get k_X10_count_2 5 rfl) rfl rfl ?_
              refine g_getR C (ckD_get k_X10_count_2 6 rfl) fk_X10_114 T69 rfl ?_
              refine g_iconst (v := (1 : Int32)) C (ckD_get k_X10_count_2 7 rfl) (by decide) ?_
              refine g_lconst (v := (1 : Int64)) C (ckD_get k_X10_count_2 8 rfl) (by decide) ?_
              obtain ⟨M_12, hi_13, eM_12, hf⟩ := wrL_e hf
              refine n_last C (ckD_get k_X10_count_2 9 rfl) T103 hi_13 eM_12 ?_
              refine g_aload_n 0 C (ckD_get k_X10_count_2 10 rfl) rfl rfl ?_
              refine g_getR C (ckD_get k_X10_count_2 11 rfl) fk_X10_118 T69 rfl ?_
              refine g_iconst (v := (1 : Int32)) C (ckD_get k_X10_count_2 12 rfl) (by decide) ?_
              refine g_lconst (v := (0 : Int64)) C (ckD_get k_X10_count_2 13 rfl) (by decide) ?_
              obtain ⟨M_14, hi_15, eM_14, hf⟩ := wrL_e hf
              refine n_last C (ckD_get k_X10_count_2 14 rfl) T104 hi_15 eM_14 ?_
              refine g_iconst (v := (2 : Int32)) C (ckD_get k_X10_count_2 15 rfl) (by decide) ?_
              refine g_istore_n (lv' := [(3, _), (0, _), (1, _), (2, _)]) C (ckD_get k_X10_count_2 16 rfl) rfl hL3 rfl ?_
              refine G.sub [1, 3, 0] rfl ?_
              obtain ⟨M_18, hx_154, hf⟩ := bd_e hf
              have hE_154 : G K (0, 0) 243 [(0, .ref (K.2.1.1 + 69)), (2, .int a2)] [] M_18 := by
                have hf : f_X10_count_A154 a2 M_18 = some r := hf
                unfold f_X10_count_A154 at hf
                refine g_iload_n 1 C (ckD_get k_X10_count_3 29 rfl) rfl rfl ?_
                obtain ⟨r_20, hr_19, hf⟩ := bd_e hf
                refine n_cS [.int a2] [] C (ckD_get k_X10_count_3 30 rfl) sk_X10_318 (t_X10_factorial C.tr _ _ _ hr_19) rfl rfl (Nat.le_of_ble_eq_true rfl) (by decide) hB rfl ?_
                refine g_aload_n 0 C (ckD_get k_X10_count_3 31 rfl) rfl rfl ?_
                refine g_getR C (ckD_get k_X10_count_3 32 rfl) fk_X10_114 T69 rfl ?_
                refine g_iload_n 1 C (ckD_get k_X10_count_3 33 rfl) rfl rfl ?_
                obtain ⟨v_21, hi_22, ev_21, hf⟩ := rdL_e hf
                refine n_lald C (ckD_get k_X10_count_3 34 rfl) T103 hi_22 ev_21 ?_
                refine g_lmul C (ckD_get k_X10_count_3 35 rfl) ?_
                cases hf
                exact g_lret C (ckD_get k_X10_count_3 36 rfl) hr hRv (Nat.le_refl _) (Nat.le_refl _)
              refine loop_e (x := M_18) (P := fun (v : (Int32 × Mm)) => G K (0, 0) 154 [(0, .ref (K.2.1.1 + 69)), (2, .int a2), (3, .int v.1)] [] v.2) ?_ FU _ hx_154
              intro v rr_154 hf hn_154 hz_154
              obtain ⟨x3_16, M_17⟩ := v
              have hf : f_X10_count_L154 a2 x3_16 M_17 = some rr_154 := hf
              show G K (0, 0) 154 [(0, .ref (K.2.1.1 + 69)), (2, .int a2), (3, .int x3_16)] [] M_17
              unfold f_X10_count_L154 at hf
              refine g_iload_n 2 C (ckD_get k_X10_count_2 17 rfl) rfl rfl ?_
              refine g_iload_n 1 C (ckD_get k_X10_count_2 18 rfl) rfl rfl ?_
              refine g_icmp_gt C (ckD_get k_X10_count_2 19 rfl) (fun c_23 => ?_) (fun c_23 => ?_)
              · have hf := if_t hf c_23
                refine G.sub [0, 1] rfl ?_
                cases hf
                cases hz_154 _ rfl
                exact hE_154
              · have hf := if_f hf c_23
                refine g_aload_n 0 C (ckD_get k_X10_count_2 20 rfl) rfl rfl ?_
                refine g_getR C (ckD_get k_X10_count_2 21 rfl) fk_X10_118 T69 rfl ?_
                refine g_iload_n 2 C (ckD_get k_X10_count_2 22 rfl) rfl rfl ?_
                refine g_lconst (v := (0 : Int64)) C (ckD_get k_X10_count_2 23 rfl) (by decide) ?_
                obtain ⟨M_24, hi_25, eM_24, hf⟩ := wrL_e hf
                refine n_last C (ckD_get k_X10_count_2 24 rfl) T104 hi_25 eM_24 ?_
                refine g_iconst (v := (1 : Int32)) C (ckD_get k_X10_count_2 25 rfl) (by decide) ?_
                refine g_istore (lv' := [(4, _), (0, _), (2, _), (3, _)]) C (ckD_get k_X10_count_2 26 rfl) hL4 rfl ?_
                refine G.sub [1, 2, 3, 0] rfl ?_
                obtain ⟨M_28, hx_169, hf⟩ := bd_e hf
                have hE_169 : G K (0, 0) 221 [(0, .ref (K.2.1.1 + 69)), (2, .int a2), (3, .int x3_16)] [] M_28 := by
                  have hf : f_X10_count_A169 x3_16 M_28 = some rr_154 := hf
                  unfold f_X10_count_A169 at hf
                  refine g_aload_n 0 C (ckD_get k_X10_count_3 17 rfl) rfl rfl ?_
                  refine g_getR C (ckD_get k_X10_count_3 18 rfl) fk_X10_114 T69 rfl ?_
                  refine g_iload_n 2 C (ckD_get k_X10_count_3 19 rfl) rfl rfl ?_
                  refine g_ldc2 C (ckD_get k_X10_count_3 20 rfl) q1526 ?_
                  refine g_aload_n 0 C (ckD_get k_X10_count_3 21 rfl) rfl rfl ?_
                  refine g_getR C (ckD_get k_X10_count_3 22 rfl) fk_X10_118 T69 rfl ?_
                  refine g_iload_n 2 C (ckD_get k_X10_count_3 23 rfl) rfl rfl ?_
                  obtain ⟨v_29, hi_30, ev_29, hf⟩ := rdL_e hf
                  refine n_lald C (ckD_get k_X10_count_3 24 rfl) T104 hi_30 ev_29 ?_
                  refine g_lmul C (ckD_get k_X10_count_3 25 rfl) ?_
                  obtain ⟨M_31, hi_32, eM_31, hf⟩ := wrL_e hf
                  refine n_last C (ckD_get k_X10_count_3 26 rfl) T103 hi_32 eM_31 ?_
                  obtain ⟨x3_33, ex3_33, hf⟩ := lt_e hf
                  refine g_iinc (lv' := [(3, _), (0, _), (2, _)]) 2 C (ckD_get k_X10_count_3 27 rfl) rfl ex3_33 hL3 rfl ?_
                  refine g_goto C (ckD_get k_X10_count_3 28 rfl) ?_
                  refine G.sub [1, 2, 0] rfl ?_
                  cases hf
                  exact hn_154 _ rfl
                refine loop_e (x := M_28) (P := fun (v : (Int32 × Mm)) => G K (0, 0) 169 [(0, .ref (K.2.1.1 + 69)), (2, .int a2), (3, .int x3_16), (4, .int v.1)] [] v.2) ?_ FU _ hx_169
                intro v rr_169 hf hn_169 hz_169
                obtain ⟨x4_26, M_27⟩ := v
                have hf : f_X10_count_L169 x3_16 x4_26 M_27 = some rr_169 := hf
                show G K (0, 0) 169 [(0, .ref (K.2.1.1 + 69)), (2, .int a2), (3, .int x3_16), (4, .int x4_26)] [] M_27
                unfold f_X10_count_L169 at hf
                refine g_iload 3 C (ckD_get k_X10_count_2 27 rfl) rfl ?_
                refine g_iload_n 2 C (ckD_get k_X10_count_2 28 rfl) rfl rfl ?_
                refine g_icmp_ge C (ckD_get k_X10_count_2 29 rfl) (fun c_34 => ?_) (fun c_34 => ?_)
                · have hf := if_t hf c_34
                  refine G.sub [0, 1, 2] rfl ?_
                  cases hf
                  cases hz_169 _ rfl
                  exact hE_169
                · have hf := if_f hf c_34
                  refine g_iload_n 2 C (ckD_get k_X10_count_2 30 rfl) rfl rfl ?_
                  refine g_iload 3 C (ckD_get k_X10_count_2 31 rfl) rfl ?_
                  refine g_isub C (ckD_get k_X10_count_2 32 rfl) ?_
                  obtain ⟨x5_35, ex5_35, hf⟩ := lt_e hf
                  refine topI ex5_35 ?_
                  refine g_istore (lv' := [(5, _), (0, _), (2, _), (3, _), (4, _)]) C (ckD_get k_X10_count_2 33 rfl) hL5 rfl ?_
                  refine g_aload_n 1 C (ckD_get k_X10_count_2 34 rfl) rfl rfl ?_
                  refine g_getR C (ckD_get k_X10_count_2 35 rfl) fk_X10_118 T69 rfl ?_
                  refine g_iload_n 3 C (ckD_get k_X10_count_2 36 rfl) rfl rfl ?_
                  refine g_dup2 C (ckD_get k_X10_count_2 37 rfl) rfl rfl ?_
                  obtain ⟨v_36, hi_37, ev_36, hf⟩ := rdL_e hf
                  refine n_lald C (ckD_get k_X10_count_2 38 rfl) T104 hi_37 ev_36 ?_
                  refine g_aload_n 1 C (ckD_get k_X10_count_2 39 rfl) rfl rfl ?_
                  refine g_getR C (ckD_get k_X10_count_3 0 rfl) fk_X10_114 T69 rfl ?_
                  refine g_iload 4 C (ckD_get k_X10_count_3 1 rfl) rfl ?_
                  obtain ⟨v_38, hi_39, ev_38, hf⟩ := rdL_e hf
                  refine n_lald C (ckD_get k_X10_count_3 2 rfl) T103 hi_39 ev_38 ?_
                  refine g_iload 0 C (ckD_get k_X10_count_3 3 rfl) rfl ?_
                  refine g_iconst (v := (1 : Int32)) C (ckD_get k_X10_count_3 4 rfl) (by decide) ?_
                  have hJ_212 : ∀ (s_40 : Int64), f_X10_count_J212 x3_16 x4_26 M_27 v_36 v_38 s_40 = some rr_169 → G K (0, 0) 212 [(0, .ref (K.2.1.1 + 69)), (2, .int a2), (3, .int x3_16), (4, .int x4_26)] [.long s_40, .long v_38, .long v_36, .int x3_16, .ref (K.2.1.1 + 104)] M_27 := by
                    intro s_40 hf
                    unfold f_X10_count_J212 at hf
                    refine g_lmul C (ckD_get k_X10_count_3 12 rfl) ?_
                    refine g_ladd C (ckD_get k_X10_count_3 13 rfl) ?_
                    obtain ⟨M_41, hi_42, eM_41, hf⟩ := wrL_e hf
                    refine n_last C (ckD_get k_X10_count_3 14 rfl) T104 hi_42 eM_41 ?_
                    obtain ⟨x4_43, ex4_43, hf⟩ := lt_e hf
                    refine g_iinc (lv' := [(4, _), (0, _), (2, _), (3, _)]) 3 C (ckD_get k_X10_count_3 15 rfl) rfl ex4_43 hL4 rfl ?_
                    refine g_goto C (ckD_get k_X10_count_3 16 rfl) ?_
                    refine G.sub [1, 2, 3, 0] rfl ?_
                    cases hf
                    exact hn_169 _ rfl
                  refine g_icmp_ne C (ckD_get k_X10_count_3 5 rfl) (fun c_44 => ?_) (fun c_44 => ?_)
                  · have hf := if_f hf c_44
                    refine g_aload_n 1 C (ckD_get k_X10_count_3 8 rfl) rfl rfl ?_
                    refine g_getR C (ckD_get k_X10_count_3 9 rfl) fk_X10_118 T69 rfl ?_
                    refine g_iload 0 C (ckD_get k_X10_count_3 10 rfl) rfl ?_
                    obtain ⟨v_45, hi_46, ev_45, hf⟩ := rdL_e hf
                    refine n_lald C (ckD_get k_X10_count_3 11 rfl) T104 hi_46 ev_45 ?_
                    refine G.sub [1, 2, 3, 4] rfl ?_
                    exact hJ_212 _ hf
                  · have hf := if_t hf c_44
                    refine g_lconst (v := (1 : Int64)) C (ckD_get k_X10_count_3 6 rfl) (by decide) ?_
                    refine g_goto C (ckD_get k_X10_count_3 7 rfl) ?_
                    refine G.sub [1, 2, 3, 4] rfl ?_
                    exact hJ_212 _ hf
            · have hf := if_t hf c_11
              refine g_aload_n 0 C (ckD_get k_X10_count_0 33 rfl) rfl rfl ?_
              refine g_getR C (ckD_get k_X10_count_0 34 rfl) fk_X10_114 T69 rfl ?_
              refine g_iconst (v := (0 : Int32)) C (ckD_get k_X10_count_0 35 rfl) (by decide) ?_
              refine g_lconst (v := (1 : Int64)) C (ckD_get k_X10_count_0 36 rfl) (by decide) ?_
              obtain ⟨M_47, hi_48, eM_47, hf⟩ := wrL_e hf
              refine n_last C (ckD_get k_X10_count_0 37 rfl) T103 hi_48 eM_47 ?_
              refine g_iconst (v := (1 : Int32)) C (ckD_get k_X10_count_0 38 rfl) (by decide) ?_
              refine g_istore_n (lv' := [(3, _), (0, _), (1, _), (2, _)]) C (ckD_get k_X10_count_0 39 rfl) rfl hL3 rfl ?_
              refine G.sub [1, 3, 0] rfl ?_
              obtain ⟨M_51, hx_65, hf⟩ := bd_e hf
              have hE_65 : G K (0, 0) 126 [(0, .ref (K.2.1.1 + 69)), (2, .int a2)] [] M_51 := by
                have hf : f_X10_count_A65 a2 M_51 = some r := hf
                unfold f_X10_count_A65 at hf
                refine g_iload_n 1 C (ckD_get k_X10_count_1 37 rfl) rfl rfl ?_
                obtain ⟨r_53, hr_52, hf⟩ := bd_e hf
                refine n_cS [.int a2] [] C (ckD_get k_X10_count_1 38 rfl) sk_X10_318 (t_X10_factorial C.tr _ _ _ hr_52) rfl rfl (Nat.le_of_ble_eq_true rfl) (by decide) hB rfl ?_
                refine g_aload_n 0 C (ckD_get k_X10_count_1 39 rfl) rfl rfl ?_
                refine g_getR C (ckD_get k_X10_count_2 0 rfl) fk_X10_114 T69 rfl ?_
                refine g_iload_n 1 C (ckD_get k_X10_count_2 1 rfl) rfl rfl ?_
                obtain ⟨v_54, hi_55, ev_54, hf⟩ := rdL_e hf
                refine n_lald C (ckD_get k_X10_count_2 2 rfl) T103 hi_55 ev_54 ?_
                refine g_lmul C (ckD_get k_X10_count_2 3 rfl) ?_
                cases hf
                exact g_lret C (ckD_get k_X10_count_2 4 rfl) hr hRv (Nat.le_refl _) (Nat.le_refl _)
              refine loop_e (x := M_51) (P := fun (v : (Int32 × Mm)) => G K (0, 0) 65 [(0, .ref (K.2.1.1 + 69)), (2, .int a2), (3, .int v.1)] [] v.2) ?_ FU _ hx_65
              intro v rr_65 hf hn_65 hz_65
              obtain ⟨x3_49, M_50⟩ := v
              have hf : f_X10_count_L65 a2 x3_49 M_50 = some rr_65 := hf
              show G K (0, 0) 65 [(0, .ref (K.2.1.1 + 69)), (2, .int a2), (3, .int x3_49)] [] M_50
              unfold f_X10_count_L65 at hf
              refine g_iload_n 2 C (ckD_get k_X10_count_1 0 rfl) rfl rfl ?_
              refine g_iload_n 1 C (ckD_get k_X10_count_1 1 rfl) rfl rfl ?_
              refine g_icmp_gt C (ckD_get k_X10_count_1 2 rfl) (fun c_56 => ?_) (fun c_56 => ?_)
              · have hf := if_t hf c_56
                refine G.sub [0, 1] rfl ?_
                cases hf
                cases hz_65 _ rfl
                exact hE_65
              · have hf := if_f hf c_56
                refine g_aload_n 0 C (ckD_get k_X10_count_1 3 rfl) rfl rfl ?_
                refine g_getR C (ckD_get k_X10_count_1 4 rfl) fk_X10_114 T69 rfl ?_
                refine g_iload_n 2 C (ckD_get k_X10_count_1 5 rfl) rfl rfl ?_
                refine g_lconst (v := (0 : Int64)) C (ckD_get k_X10_count_1 6 rfl) (by decide) ?_
                obtain ⟨M_57, hi_58, eM_57, hf⟩ := wrL_e hf
                refine n_last C (ckD_get k_X10_count_1 7 rfl) T103 hi_58 eM_57 ?_
                refine g_iconst (v := (0 : Int32)) C (ckD_get k_X10_count_1 8 rfl) (by decide) ?_
                refine g_istore (lv' := [(4, _), (0, _), (2, _), (3, _)]) C (ckD_get k_X10_count_1 9 rfl) hL4 rfl ?_
                refine G.sub [1, 2, 3, 0] rfl ?_
                obtain ⟨M_61, hx_80, hf⟩ := bd_e hf
                have hE_80 : G K (0, 0) 120 [(0, .ref (K.2.1.1 + 69)), (2, .int a2), (3, .int x3_49)] [] M_61 := by
                  have hf : f_X10_count_A80 x3_49 M_61 = some rr_65 := hf
                  unfold f_X10_count_A80 at hf
                  obtain ⟨x3_62, ex3_62, hf⟩ := lt_e hf
                  refine g_iinc (lv' := [(3, _), (0, _), (2, _)]) 2 C (ckD_get k_X10_count_1 35 rfl) rfl ex3_62 hL3 rfl ?_
                  refine g_goto C (ckD_get k_X10_count_1 36 rfl) ?_
                  refine G.sub [1, 2, 0] rfl ?_
                  cases hf
                  exact hn_65 _ rfl
                refine loop_e (x := M_61) (P := fun (v : (Int32 × Mm)) => G K (0, 0) 80 [(0, .ref (K.2.1.1 + 69)), (2, .int a2), (3, .int x3_49), (4, .int v.1)] [] v.2) ?_ FU _ hx_80
                intro v rr_80 hf hn_80 hz_80
                obtain ⟨x4_59, M_60⟩ := v
                have hf : f_X10_count_L80 x3_49 x4_59 M_60 = some rr_80 := hf
                show G K (0, 0) 80 [(0, .ref (K.2.1.1 + 69)), (2, .int a2), (3, .int x3_49), (4, .int x4_59)] [] M_60
                unfold f_X10_count_L80 at hf
                refine g_iload 3 C (ckD_get k_X10_count_1 10 rfl) rfl ?_
                refine g_iload_n 2 C (ckD_get k_X10_count_1 11 rfl) rfl rfl ?_
                refine g_icmp_ge C (ckD_get k_X10_count_1 12 rfl) (fun c_63 => ?_) (fun c_63 => ?_)
                · have hf := if_t hf c_63
                  refine G.sub [0, 1, 2] rfl ?_
                  cases hf
                  cases hz_80 _ rfl
                  exact hE_80
                · have hf := if_f hf c_63
                  refine g_aload_n 0 C (ckD_get k_X10_count_1 13 rfl) rfl rfl ?_
                  refine g_getR C (ckD_get k_X10_count_1 14 rfl) fk_X10_114 T69 rfl ?_
                  refine g_iload_n 2 C (ckD_get k_X10_count_1 15 rfl) rfl rfl ?_
                  refine g_dup2 C (ckD_get k_X10_count_1 16 rfl) rfl rfl ?_
                  obtain ⟨v_64, hi_65, ev_64, hf⟩ := rdL_e hf
                  refine n_lald C (ckD_get k_X10_count_1 17 rfl) T103 hi_65 ev_64 ?_
                  refine g_aload_n 0 C (ckD_get k_X10_count_1 18 rfl) rfl rfl ?_
                  refine g_getR C (ckD_get k_X10_count_1 19 rfl) fk_X10_114 T69 rfl ?_
                  refine g_iload 3 C (ckD_get k_X10_count_1 20 rfl) rfl ?_
                  obtain ⟨v_66, hi_67, ev_66, hf⟩ := rdL_e hf
                  refine n_lald C (ckD_get k_X10_count_1 21 rfl) T103 hi_67 ev_66 ?_
                  refine g_aload_n 0 C (ckD_get k_X10_count_1 22 rfl) rfl rfl ?_
                  refine g_getR C (ckD_get k_X10_count_1 23 rfl) fk_X10_114 T69 rfl ?_
                  refine g_iload_n 2 C (ckD_get k_X10_count_1 24 rfl) rfl rfl ?_
                  refine g_iconst (v := (1 : Int32)) C (ckD_get k_X10_count_1 25 rfl) (by decide) ?_
                  refine g_isub C (ckD_get k_X10_count_1 26 rfl) ?_
                  refine g_iload 3 C (ckD_get k_X10_count_1 27 rfl) rfl ?_
                  refine g_isub C (ckD_get k_X10_count_1 28 rfl) ?_
                  obtain ⟨v_68, hi_69, ev_68, hf⟩ := rdL_e hf
                  refine n_lald C (ckD_get k_X10_count_1 29 rfl) T103 hi_69 ev_68 ?_
                  refine g_lmul C (ckD_get k_X10_count_1 30 rfl) ?_
                  refine g_ladd C (ckD_get k_X10_count_1 31 rfl) ?_
                  obtain ⟨M_70, hi_71, eM_70, hf⟩ := wrL_e hf
                  refine n_last C (ckD_get k_X10_count_1 32 rfl) T103 hi_71 eM_70 ?_
                  obtain ⟨x4_72, ex4_72, hf⟩ := lt_e hf
                  refine g_iinc (lv' := [(4, _), (0, _), (2, _), (3, _)]) 3 C (ckD_get k_X10_count_1 33 rfl) rfl ex4_72 hL4 rfl ?_
                  refine g_goto C (ckD_get k_X10_count_1 34 rfl) ?_
                  refine G.sub [1, 2, 3, 0] rfl ?_
                  cases hf
                  exact hn_80 _ rfl
          · have hf := if_t hf c_10
            refine g_iload_n 2 C (ckD_get k_X10_count_0 24 rfl) rfl rfl ?_
            obtain ⟨r_74, hr_73, hf⟩ := bd_e hf
            refine n_cS [.int a2] [] C (ckD_get k_X10_count_0 25 rfl) sk_X10_318 (t_X10_factorial C.tr _ _ _ hr_73) rfl rfl (Nat.le_of_ble_eq_true rfl) (by decide) hB rfl ?_
            refine g_iload_n 2 C (ckD_get k_X10_count_0 26 rfl) rfl rfl ?_
            obtain ⟨r_76, hr_75, hf⟩ := bd_e hf
            refine n_cS [.int a2] [.long r_74] C (ckD_get k_X10_count_0 27 rfl) sk_X10_318 (t_X10_factorial C.tr _ _ _ hr_75) rfl rfl (Nat.le_of_ble_eq_true rfl) (by decide) hB rfl ?_
            refine g_lmul C (ckD_get k_X10_count_0 28 rfl) ?_
            cases hf
            exact g_lret C (ckD_get k_X10_count_0 29 rfl) hr hRv (Nat.le_refl _) (Nat.le_refl _)
        · have hf := if_f hf c_9
          refine g_ldc2 C (ckD_get k_X10_count_0 19 rfl) q1522 ?_
          cases hf
          exact g_lret C (ckD_get k_X10_count_0 20 rfl) hr hRv (Nat.le_refl _) (Nat.le_refl _)
    · have hf := if_f hf c_7
      refine G.sub [0] rfl ?_
      exact hJ_15 _ hf

set_option maxRecDepth 20000 in
theorem k_X10_rankOf_0 : ckD cX10_rankOf [(0, .lconst 0, 1, 1, 0), (1, .lstore_n 2, 1, 2, 0), (2, .iconst 0, 1, 3, 0), (3, .istore 4, 2, 5, 0), (5, .iload 4, 2, 7, 0), (7, .aload_n 0, 1, 8, 0), (8, .getfield 124, 3, 11, 0), (11, .if_icmp .ge 73, 3, 14, 84), (14, .iconst 0, 1, 15, 0), (15, .istore 5, 2, 17, 0), (17, .iload 4, 2, 19, 0), (19, .iconst 1, 1, 20, 0), (20, .iadd, 1, 21, 0), (21, .istore 6, 2, 23, 0), (23, .iload 6, 2, 25, 0), (25, .aload_n 0, 1, 26, 0), (26, .getfield 124, 3, 29, 0), (29, .if_icmp .ge 30, 3, 32, 59), (32, .iload 5, 2, 34, 0), (34, .aload_n 1, 1, 35, 0), (35, .iload 6, 2, 37, 0), (37, .iaload, 1, 38, 0), (38, .aload_n 1, 1, 39, 0), (39, .iload 4, 2, 41, 0), (41, .iaload, 1, 42, 0), (42, .if_icmp .ge 7, 3, 45, 49), (45, .iconst 1, 1, 46, 0), (46, .goto 4, 3, 49, 50), (49, .iconst 0, 1, 50, 0), (50, .iadd, 1, 51, 0), (51, .istore 5, 2, 53, 0), (53, .iinc 6 1, 3, 56, 0), (56, .goto (-33), 3, 59, 23), (59, .lload_n 2, 1, 60, 0), (60, .iload 5, 2, 62, 0), (62, .i2l, 1, 63, 0), (63, .aload_n 0, 1, 64, 0), (64, .getfield 124, 3, 67, 0), (67, .iconst 1, 1, 68, 0), (68, .isub, 1, 69, 0)] = true := by decide +kernel
set_option maxRecDepth 20000 in
theorem k_X10_rankOf_1 : ckD cX10_rankOf [(69, .iload 4, 2, 71, 0), (71, .isub, 1, 72, 0), (72, .invokestatic 318, 3, 75, 0), (75, .lmul, 1, 76, 0), (76, .ladd, 1, 77, 0), (77, .lstore_n 2, 1, 78, 0), (78, .iinc 4 1, 3, 81, 0), (81, .goto (-76), 3, 84, 5), (84, .lload_n 2, 1, 85, 0), (85, .lreturn, 1, 86, 0)] = true := by decide +kernel
def f_X10_rankOf_A5 (x2_3 : Int64) : Option Int64 := some x2_3
def f_X10_rankOf_A23 (M : Mm) (x2_1 : Int64) (x4_2 : Int32) (x5_8 : Int32) : Option ((Int64 × Int32) ⊕ Int64) := (f_X10_factorial (((M.1 69 1) - (1 : Int32)) - x4_2)).bind fun r_10 => lt1 (x2_1 + (((x5_8).toInt64) * r_10)) fun x2_11 => lt1 (x4_2 + 1) fun x4_12 => some (.inl (x2_11, x4_12))
def f_X10_rankOf_J50 (x5_6 : Int32) (x6_7 : Int32) (s_18 : Int32) : Option ((Int32 × Int32) ⊕ Int32) := lt1 (x5_6 + s_18) fun x5_19 => lt1 (x6_7 + 1) fun x6_20 => some (.inl (x5_19, x6_20))
def f_X10_rankOf_L23 (k1 : Nat) (M : Mm) (x4_2 : Int32) (x5_6 : Int32) (x6_7 : Int32) : Option ((Int32 × Int32) ⊕ Int32) := if (M.1 69 1) ≤ x6_7 then some (.inr x5_6) else rdI 12 M k1 x6_7 fun v_14 => rdI 12 M k1 x4_2 fun v_16 => if v_16 ≤ v_14 then f_X10_rankOf_J50 x5_6 x6_7 (0 : Int32) else f_X10_rankOf_J50 x5_6 x6_7 (1 : Int32)
def f_X10_rankOf_L5 (k1 : Nat) (M : Mm) (x2_1 : Int64) (x4_2 : Int32) : Option ((Int64 × Int32) ⊕ Int64) := if (M.1 69 1) ≤ x4_2 then some (.inr x2_1) else lt1 (x4_2 + (1 : Int32)) fun x6_5 => (loop (fun v => f_X10_rankOf_L23 k1 M x4_2 v.1 v.2) FU ((0 : Int32), x6_5)).bind fun z => f_X10_rankOf_A23 M x2_1 x4_2 z
def f_X10_rankOf (k1 : Nat) (M : Mm) : Option Int64 := (loop (fun v => f_X10_rankOf_L5 k1 M v.1 v.2) FU ((0 : Int64), (0 : Int32))).bind fun z => f_X10_rankOf_A5 z
set_option maxRecDepth 100000 in
set_option maxHeartbeats 4000000 in
theorem t_X10_rankOf {E : Ev} {l : Launch} (htr : l.stackTraces = false) (k1 : Nat) (hk1 : LT[k1]? = some (0, 12, [])) (M : Mm) (r : Int64) (hf : f_X10_rankOf k1 M = some r) : CM E l 1 0 0 yX10_rankOf cX10_rankOf 7 (some .long) [.ref (E.1 + 69), .ref (E.1 + k1)] M (some (.long r)) M := by
  refine CM.of htr (by decide +kernel) (Nat.le_of_ble_eq_true rfl) ?_
  intro K hE hL hl hR0 C hr hRv
  subst hE
  subst hl
  have C : Cx K cX10_rankOf RX10 1 := C
  have hB : (0 : Nat) ≤ K.1.R.cells ∧ 0 ≤ K.1.R.slots := ⟨Nat.zero_le _, Nat.zero_le _⟩
  have hL3 : 3 < K.2.2.1 := by rw [hL]; decide
  have hL4 : 4 < K.2.2.1 := by rw [hL]; decide
  have hL5 : 5 < K.2.2.1 := by rw [hL]; decide
  have hL6 : 6 < K.2.2.1 := by rw [hL]; decide
  show G K (0, 0) 0 [(0, .ref (K.2.1.1 + 69)), (1, .ref (K.2.1.1 + k1))] [] M
  unfold f_X10_rankOf at hf
  refine g_lconst (v := (0 : Int64)) C (ckD_get k_X10_rankOf_0 0 rfl) (by decide) ?_
  refine g_lstore_n (lv' := [(2, _), (0, _), (1, _)]) C (ckD_get k_X10_rankOf_0 1 rfl) rfl hL3 rfl ?_
  refine g_iconst (v := (0 : Int32)) C (ckD_get k_X10_rankOf_0 2 rfl) (by decide) ?_
  refine g_istore (lv' := [(4, _), (2, _), (0, _), (1, _)]) C (ckD_get k_X10_rankOf_0 3 rfl) hL4 rfl ?_
  refine G.sub [2, 3, 1, 0] rfl ?_
  obtain ⟨x2_3, hx_5, hf⟩ := bd_e hf
  have hE_5 : G K (0, 0) 84 [(2, .long x2_3)] [] M := by
    have hf : f_X10_rankOf_A5 x2_3 = some r := hf
    unfold f_X10_rankOf_A5 at hf
    refine g_lload_n 0 C (ckD_get k_X10_rankOf_1 8 rfl) rfl rfl ?_
    cases hf
    exact g_lret C (ckD_get k_X10_rankOf_1 9 rfl) hr hRv (Nat.le_refl _) (Nat.le_refl _)
  refine loop_e (x := x2_3) (P := fun (v : (Int64 × Int32)) => G K (0, 0) 5 [(0, .ref (K.2.1.1 + 69)), (1, .ref (K.2.1.1 + k1)), (2, .long v.1), (4, .int v.2)] [] M) ?_ FU _ hx_5
  intro v rr_5 hf hn_5 hz_5
  obtain ⟨x2_1, x4_2⟩ := v
  have hf : f_X10_rankOf_L5 k1 M x2_1 x4_2 = some rr_5 := hf
  show G K (0, 0) 5 [(0, .ref (K.2.1.1 + 69)), (1, .ref (K.2.1.1 + k1)), (2, .long x2_1), (4, .int x4_2)] [] M
  unfold f_X10_rankOf_L5 at hf
  refine g_iload 3 C (ckD_get k_X10_rankOf_0 4 rfl) rfl ?_
  refine g_aload_n 0 C (ckD_get k_X10_rankOf_0 5 rfl) rfl rfl ?_
  refine g_getI C (ckD_get k_X10_rankOf_0 6 rfl) fk_X10_124 T69 rfl ?_
  refine g_icmp_ge C (ckD_get k_X10_rankOf_0 7 rfl) (fun c_4 => ?_) (fun c_4 => ?_)
  · have hf := if_t hf c_4
    refine G.sub [2] rfl ?_
    cases hf
    cases hz_5 _ rfl
    exact hE_5
  · have hf := if_f hf c_4
    refine g_iconst (v := (0 : Int32)) C (ckD_get k_X10_rankOf_0 8 rfl) (by decide) ?_
    refine g_istore (lv' := [(5, _), (0, _), (1, _), (2, _), (4, _)]) C (ckD_get k_X10_rankOf_0 9 rfl) hL5 rfl ?_
    refine g_iload 4 C (ckD_get k_X10_rankOf_0 10 rfl) rfl ?_
    refine g_iconst (v := (1 : Int32)) C (ckD_get k_X10_rankOf_0 11 rfl) (by decide) ?_
    refine g_iadd C (ckD_get k_X10_rankOf_0 12 rfl) ?_
    obtain ⟨x6_5, ex6_5, hf⟩ := lt_e hf
    refine topI ex6_5 ?_
    refine g_istore (lv' := [(6, _), (5, _), (0, _), (1, _), (2, _), (4, _)]) C (ckD_get k_X10_rankOf_0 13 rfl) hL6 rfl ?_
    refine G.sub [2, 3, 4, 5, 1, 0] rfl ?_
    obtain ⟨x5_8, hx_23, hf⟩ := bd_e hf
    have hE_23 : G K (0, 0) 59 [(0, .ref (K.2.1.1 + 69)), (1, .ref (K.2.1.1 + k1)), (2, .long x2_1), (4, .int x4_2), (5, .int x5_8)] [] M := by
      have hf : f_X10_rankOf_A23 M x2_1 x4_2 x5_8 = some rr_5 := hf
      unfold f_X10_rankOf_A23 at hf
      refine g_lload_n 2 C (ckD_get k_X10_rankOf_0 33 rfl) rfl rfl ?_
      refine g_iload 4 C (ckD_get k_X10_rankOf_0 34 rfl) rfl ?_
      refine g_i2l C (ckD_get k_X10_rankOf_0 35 rfl) ?_
      refine g_aload_n 0 C (ckD_get k_X10_rankOf_0 36 rfl) rfl rfl ?_
      refine g_getI C (ckD_get k_X10_rankOf_0 37 rfl) fk_X10_124 T69 rfl ?_
      refine g_iconst (v := (1 : Int32)) C (ckD_get k_X10_rankOf_0 38 rfl) (by decide) ?_
      refine g_isub C (ckD_get k_X10_rankOf_0 39 rfl) ?_
      refine g_iload 3 C (ckD_get k_X10_rankOf_1 0 rfl) rfl ?_
      refine g_isub C (ckD_get k_X10_rankOf_1 1 rfl) ?_
      obtain ⟨r_10, hr_9, hf⟩ := bd_e hf
      refine n_cS [.int (((M.1 69 1) - (1 : Int32)) - x4_2)] [.long ((x5_8).toInt64), .long x2_1] C (ckD_get k_X10_rankOf_1 2 rfl) sk_X10_318 (t_X10_factorial C.tr _ _ _ hr_9) rfl rfl (Nat.le_of_ble_eq_true rfl) (by decide) hB rfl ?_
      refine g_lmul C (ckD_get k_X10_rankOf_1 3 rfl) ?_
      refine g_ladd C (ckD_get k_X10_rankOf_1 4 rfl) ?_
      obtain ⟨x2_11, ex2_11, hf⟩ := lt_e hf
      refine topL ex2_11 ?_
      refine g_lstore_n (lv' := [(2, _), (0, _), (1, _), (4, _), (5, _)]) C (ckD_get k_X10_rankOf_1 5 rfl) rfl hL3 rfl ?_
      obtain ⟨x4_12, ex4_12, hf⟩ := lt_e hf
      refine g_iinc (lv' := [(4, _), (2, _), (0, _), (1, _), (5, _)]) 3 C (ckD_get k_X10_rankOf_1 6 rfl) rfl ex4_12 hL4 rfl ?_
      refine g_goto C (ckD_get k_X10_rankOf_1 7 rfl) ?_
      refine G.sub [2, 3, 1, 0] rfl ?_
      cases hf
      exact hn_5 _ rfl
    refine loop_e (x := x5_8) (P := fun (v : (Int32 × Int32)) => G K (0, 0) 23 [(0, .ref (K.2.1.1 + 69)), (1, .ref (K.2.1.1 + k1)), (2, .long x2_1), (4, .int x4_2), (5, .int v.1), (6, .int v.2)] [] M) ?_ FU _ hx_23
    intro v rr_23 hf hn_23 hz_23
    obtain ⟨x5_6, x6_7⟩ := v
    have hf : f_X10_rankOf_L23 k1 M x4_2 x5_6 x6_7 = some rr_23 := hf
    show G K (0, 0) 23 [(0, .ref (K.2.1.1 + 69)), (1, .ref (K.2.1.1 + k1)), (2, .long x2_1), (4, .int x4_2), (5, .int x5_6), (6, .int x6_7)] [] M
    unfold f_X10_rankOf_L23 at hf
    refine g_iload 5 C (ckD_get k_X10_rankOf_0 14 rfl) rfl ?_
    refine g_aload_n 0 C (ckD_get k_X10_rankOf_0 15 rfl) rfl rfl ?_
    refine g_getI C (ckD_get k_X10_rankOf_0 16 rfl) fk_X10_124 T69 rfl ?_
    refine g_icmp_ge C (ckD_get k_X10_rankOf_0 17 rfl) (fun c_13 => ?_) (fun c_13 => ?_)
    · have hf := if_t hf c_13
      refine G.sub [0, 1, 2, 3, 4] rfl ?_
      cases hf
      cases hz_23 _ rfl
      exact hE_23
    · have hf := if_f hf c_13
      refine g_iload 4 C (ckD_get k_X10_rankOf_0 18 rfl) rfl ?_
      refine g_aload_n 1 C (ckD_get k_X10_rankOf_0 19 rfl) rfl rfl ?_
      refine g_iload 5 C (ckD_get k_X10_rankOf_0 20 rfl) rfl ?_
      obtain ⟨v_14, hi_15, ev_14, hf⟩ := rdI_e hf
      refine n_iald C (ckD_get k_X10_rankOf_0 21 rfl) hk1 hi_15 ev_14 ?_
      refine g_aload_n 1 C (ckD_get k_X10_rankOf_0 22 rfl) rfl rfl ?_
      refine g_iload 3 C (ckD_get k_X10_rankOf_0 23 rfl) rfl ?_
      obtain ⟨v_16, hi_17, ev_16, hf⟩ := rdI_e hf
      refine n_iald C (ckD_get k_X10_rankOf_0 24 rfl) hk1 hi_17 ev_16 ?_
      have hJ_50 : ∀ (s_18 : Int32), f_X10_rankOf_J50 x5_6 x6_7 s_18 = some rr_23 → G K (0, 0) 50 [(0, .ref (K.2.1.1 + 69)), (1, .ref (K.2.1.1 + k1)), (2, .long x2_1), (4, .int x4_2), (6, .int x6_7)] [.int s_18, .int x5_6] M := by
        intro s_18 hf
        unfold f_X10_rankOf_J50 at hf
        refine g_iadd C (ckD_get k_X10_rankOf_0 29 rfl) ?_
        obtain ⟨x5_19, ex5_19, hf⟩ := lt_e hf
        refine topI ex5_19 ?_
        refine g_istore (lv' := [(5, _), (0, _), (1, _), (2, _), (4, _), (6, _)]) C (ckD_get k_X10_rankOf_0 30 rfl) hL5 rfl ?_
        obtain ⟨x6_20, ex6_20, hf⟩ := lt_e hf
        refine g_iinc (lv' := [(6, _), (5, _), (0, _), (1, _), (2, _), (4, _)]) 5 C (ckD_get k_X10_rankOf_0 31 rfl) rfl ex6_20 hL6 rfl ?_
        refine g_goto C (ckD_get k_X10_rankOf_0 32 rfl) ?_
        refine G.sub [2, 3, 4, 5, 1, 0] rfl ?_
        cases hf
        exact hn_23 _ rfl
      refine g_icmp_ge C (ckD_get k_X10_rankOf_0 25 rfl) (fun c_21 => ?_) (fun c_21 => ?_)
      · have hf := if_t hf c_21
        refine g_iconst (v := (0 : Int32)) C (ckD_get k_X10_rankOf_0 28 rfl) (by decide) ?_
        refine G.sub [0, 1, 2, 3, 5] rfl ?_
        exact hJ_50 _ hf
      · have hf := if_f hf c_21
        refine g_iconst (v := (1 : Int32)) C (ckD_get k_X10_rankOf_0 26 rfl) (by decide) ?_
        refine g_goto C (ckD_get k_X10_rankOf_0 27 rfl) ?_
        refine G.sub [0, 1, 2, 3, 5] rfl ?_
        exact hJ_50 _ hf

set_option maxRecDepth 20000 in
theorem k_X10_rank_0 : ckD cX10_rank [(0, .aload_n 0, 1, 1, 0), (1, .iconst 0, 1, 2, 0), (2, .putfield 121, 3, 5, 0), (5, .aload_n 0, 1, 6, 0), (6, .getfield 23, 3, 9, 0), (9, .iconst 1, 1, 10, 0), (10, .if_icmp .eq 9, 3, 13, 19), (13, .aload_n 0, 1, 14, 0), (14, .invokevirtual 134, 3, 17, 0), (17, .i2l, 1, 18, 0), (18, .lreturn, 1, 19, 0), (19, .aload_n 0, 1, 20, 0), (20, .aload_n 0, 1, 21, 0), (21, .getfield 33, 3, 24, 0), (24, .invokevirtual 324, 3, 27, 0), (27, .aload_n 0, 1, 28, 0), (28, .getfield 124, 3, 31, 0), (31, .invokestatic 318, 3, 34, 0), (34, .lmul, 1, 35, 0), (35, .aload_n 0, 1, 36, 0), (36, .aload_n 0, 1, 37, 0), (37, .getfield 36, 3, 40, 0), (40, .invokevirtual 324, 3, 43, 0), (43, .ladd, 1, 44, 0), (44, .lreturn, 1, 45, 0)] = true := by decide +kernel
def f_X10_rank  (M : Mm) : Option (Int64 × Mm) := lt1 (wi M 69 0 (0 : Int32)) fun M_1 => if (M_1.1 69 6) = (1 : Int32) then (f_X10_rankOf 76 M_1).bind fun r_4 => (f_X10_factorial (M_1.1 69 1)).bind fun r_6 => (f_X10_rankOf 77 M_1).bind fun r_8 => some (((r_4 * r_6) + r_8), M_1) else lt1 (f_X10_fail M_1) fun z_11 => some (((z_11.1).toInt64), z_11.2)
set_option maxRecDepth 100000 in
set_option maxHeartbeats 4000000 in
theorem t_X10_rank {E : Ev} {l : Launch} (htr : l.stackTraces = false) (M : Mm) (r : (Int64 × Mm)) (hf : f_X10_rank M = some r) : CM E l 2 0 0 yX10_rank cX10_rank 1 (some .long) [.ref (E.1 + 69)] M (some (.long r.1)) r.2 := by
  refine CM.of htr (by decide +kernel) (Nat.le_of_ble_eq_true rfl) ?_
  intro K hE hL hl hR0 C hr hRv
  subst hE
  subst hl
  have C : Cx K cX10_rank RX10 2 := C
  have hB : (0 : Nat) ≤ K.1.R.cells ∧ 0 ≤ K.1.R.slots := ⟨Nat.zero_le _, Nat.zero_le _⟩
  show G K (0, 0) 0 [(0, .ref (K.2.1.1 + 69))] [] M
  unfold f_X10_rank at hf
  refine g_aload_n 0 C (ckD_get k_X10_rank_0 0 rfl) rfl rfl ?_
  refine g_iconst (v := (0 : Int32)) C (ckD_get k_X10_rank_0 1 rfl) (by decide) ?_
  obtain ⟨M_1, eM_1, hf⟩ := lt_e hf
  refine g_putI C (ckD_get k_X10_rank_0 2 rfl) fk_X10_121 T69 rfl ?_
  refine memI eM_1 ?_
  refine g_aload_n 0 C (ckD_get k_X10_rank_0 3 rfl) rfl rfl ?_
  refine g_getI C (ckD_get k_X10_rank_0 4 rfl) fk_X10_23 T69 rfl ?_
  refine g_iconst (v := (1 : Int32)) C (ckD_get k_X10_rank_0 5 rfl) (by decide) ?_
  refine g_icmp_eq C (ckD_get k_X10_rank_0 6 rfl) (fun c_2 => ?_) (fun c_2 => ?_)
  · have hf := if_t hf c_2
    refine g_aload_n 0 C (ckD_get k_X10_rank_0 11 rfl) rfl rfl ?_
    refine g_aload_n 0 C (ckD_get k_X10_rank_0 12 rfl) rfl rfl ?_
    refine g_getR C (ckD_get k_X10_rank_0 13 rfl) fk_X10_33 T69 rfl ?_
    obtain ⟨r_4, hr_3, hf⟩ := bd_e hf
    refine n_cV [.ref (K.2.1.1 + 76)] [] C (ckD_get k_X10_rank_0 14 rfl) vk_X10_324 (t_X10_rankOf C.tr _ T76 _ _ hr_3) T69 rfl rfl (Nat.le_of_ble_eq_true rfl) (by decide) hB rfl ?_
    refine g_aload_n 0 C (ckD_get k_X10_rank_0 15 rfl) rfl rfl ?_
    refine g_getI C (ckD_get k_X10_rank_0 16 rfl) fk_X10_124 T69 rfl ?_
    obtain ⟨r_6, hr_5, hf⟩ := bd_e hf
    refine n_cS [.int (M_1.1 69 1)] [.long r_4] C (ckD_get k_X10_rank_0 17 rfl) sk_X10_318 (t_X10_factorial C.tr _ _ _ hr_5) rfl rfl (Nat.le_of_ble_eq_true rfl) (by decide) hB rfl ?_
    refine g_lmul C (ckD_get k_X10_rank_0 18 rfl) ?_
    refine g_aload_n 0 C (ckD_get k_X10_rank_0 19 rfl) rfl rfl ?_
    refine g_aload_n 0 C (ckD_get k_X10_rank_0 20 rfl) rfl rfl ?_
    refine g_getR C (ckD_get k_X10_rank_0 21 rfl) fk_X10_36 T69 rfl ?_
    obtain ⟨r_8, hr_7, hf⟩ := bd_e hf
    refine n_cV [.ref (K.2.1.1 + 77)] [.long (r_4 * r_6)] C (ckD_get k_X10_rank_0 22 rfl) vk_X10_324 (t_X10_rankOf C.tr _ T77 _ _ hr_7) T69 rfl rfl (Nat.le_of_ble_eq_true rfl) (by decide) hB rfl ?_
    refine g_ladd C (ckD_get k_X10_rank_0 23 rfl) ?_
    cases hf
    exact g_lret C (ckD_get k_X10_rank_0 24 rfl) hr hRv (Nat.le_refl _) (Nat.le_refl _)
  · have hf := if_f hf c_2
    refine g_aload_n 0 C (ckD_get k_X10_rank_0 7 rfl) rfl rfl ?_
    obtain ⟨z_11, ez_11, hf⟩ := lt_e hf
    refine n_cV [] [] C (ckD_get k_X10_rank_0 8 rfl) vk_X10_134 (t_X10_fail C.tr _ _ ez_11) T69 rfl rfl (Nat.le_of_ble_eq_true rfl) (by decide) hB rfl ?_
    refine g_i2l C (ckD_get k_X10_rank_0 9 rfl) ?_
    cases hf
    exact g_lret C (ckD_get k_X10_rank_0 10 rfl) hr hRv (Nat.le_refl _) (Nat.le_refl _)

set_option maxRecDepth 20000 in
theorem k_X10_orderOf_0 : ckD cX10_orderOf [(0, .lload_n 1, 1, 1, 0), (1, .lstore 4, 2, 3, 0), (3, .iconst 1, 1, 4, 0), (4, .aload_n 0, 1, 5, 0), (5, .getfield 124, 3, 8, 0), (8, .ishl, 1, 9, 0), (9, .iconst 1, 1, 10, 0), (10, .isub, 1, 11, 0), (11, .istore 6, 2, 13, 0), (13, .iconst 0, 1, 14, 0), (14, .istore 7, 2, 16, 0), (16, .iload 7, 2, 18, 0), (18, .aload_n 0, 1, 19, 0), (19, .getfield 124, 3, 22, 0), (22, .if_icmp .ge 93, 3, 25, 115), (25, .aload_n 0, 1, 26, 0), (26, .getfield 124, 3, 29, 0), (29, .iconst 1, 1, 30, 0), (30, .isub, 1, 31, 0), (31, .iload 7, 2, 33, 0), (33, .isub, 1, 34, 0), (34, .invokestatic 318, 3, 37, 0), (37, .lstore 8, 2, 39, 0), (39, .lload 4, 2, 41, 0), (41, .lload 8, 2, 43, 0), (43, .ldiv, 1, 44, 0), (44, .l2i, 1, 45, 0), (45, .istore 10, 2, 47, 0), (47, .lload 4, 2, 49, 0), (49, .lload 8, 2, 51, 0), (51, .lrem, 1, 52, 0), (52, .lstore 4, 2, 54, 0), (54, .iconst 0, 1, 55, 0), (55, .istore 11, 2, 57, 0), (57, .iload 10, 2, 59, 0), (59, .ifCond .gt 13, 3, 62, 72), (62, .iload 6, 2, 64, 0), (64, .iload 11, 2, 66, 0), (66, .ishr, 1, 67, 0), (67, .iconst 1, 1, 68, 0)] = true := by decide +kernel
set_option maxRecDepth 20000 in
theorem k_X10_orderOf_1 : ckD cX10_orderOf [(68, .iand, 1, 69, 0), (69, .ifCond .ne 23, 3, 72, 92), (72, .iload 6, 2, 74, 0), (74, .iload 11, 2, 76, 0), (76, .ishr, 1, 77, 0), (77, .iconst 1, 1, 78, 0), (78, .iand, 1, 79, 0), (79, .iconst 1, 1, 80, 0), (80, .if_icmp .ne 6, 3, 83, 86), (83, .iinc 10 (-1), 3, 86, 0), (86, .iinc 11 1, 3, 89, 0), (89, .goto (-32), 3, 92, 57), (92, .aload_n 3, 1, 93, 0), (93, .iload 7, 2, 95, 0), (95, .iload 11, 2, 97, 0), (97, .iastore, 1, 98, 0), (98, .iload 6, 2, 100, 0), (100, .iconst 1, 1, 101, 0), (101, .iload 11, 2, 103, 0), (103, .ishl, 1, 104, 0), (104, .iconst (-1), 1, 105, 0), (105, .ixor, 1, 106, 0), (106, .iand, 1, 107, 0), (107, .istore 6, 2, 109, 0), (109, .iinc 7 1, 3, 112, 0), (112, .goto (-96), 3, 115, 16), (115, .return_, 1, 116, 0)] = true := by decide +kernel
def f_X10_orderOf_A16 (M_6 : Mm) : Option Mm := some M_6
def f_X10_orderOf_A57 (k2 : Nat) (x6_3 : Int32) (x7_4 : Int32) (M_5 : Mm) (x4_13 : Int64) (x11_16 : Int32) : Option ((Int64 × Int32 × Int32 × Mm) ⊕ Mm) := wrI 12 M_5 k2 x7_4 x11_16 fun M_17 => lt1 (x6_3 &&& (((1 : Int32) <<< (x11_16 &&& 31)) ^^^ (-1 : Int32))) fun x6_19 => lt1 (x7_4 + 1) fun x7_20 => some (.inl (x4_13, x6_19, x7_20, M_17))
def f_X10_orderOf_J86 (x11_15 : Int32) (p10_21 : Int32) : Option ((Int32 × Int32) ⊕ Int32) := lt1 (x11_15 + 1) fun x11_22 => some (.inl (p10_21, x11_22))
def f_X10_orderOf_J72 (x6_3 : Int32) (x10_14 : Int32) (x11_15 : Int32) (_ : Unit) : Option ((Int32 × Int32) ⊕ Int32) := if ((x6_3 >>> (x11_15 &&& 31)) &&& (1 : Int32)) = (1 : Int32) then lt1 (x10_14 + (-1)) fun x10_24 => f_X10_orderOf_J86 x11_15 x10_24 else f_X10_orderOf_J86 x11_15 x10_14
def f_X10_orderOf_L57 (x6_3 : Int32) (x10_14 : Int32) (x11_15 : Int32) : Option ((Int32 × Int32) ⊕ Int32) := if 0 < x10_14 then f_X10_orderOf_J72 x6_3 x10_14 x11_15 () else if ((x6_3 >>> (x11_15 &&& 31)) &&& (1 : Int32)) = 0 then f_X10_orderOf_J72 x6_3 x10_14 x11_15 () else some (.inr x11_15)
def f_X10_orderOf_L16 (k2 : Nat) (x4_2 : Int64) (x6_3 : Int32) (x7_4 : Int32) (M_5 : Mm) : Option ((Int64 × Int32 × Int32 × Mm) ⊕ Mm) := if (M_5.1 69 1) ≤ x7_4 then some (.inr M_5) else (f_X10_factorial (((M_5.1 69 1) - (1 : Int32)) - x7_4)).bind fun r_9 => gd (decide (¬ r_9 = 0)) <| lt1 (((x4_2 / r_9)).toInt32) fun x10_11 => gd (decide (¬ r_9 = 0)) <| lt1 (x4_2 - x4_2 / r_9 * r_9) fun x4_13 => (loop (fun v => f_X10_orderOf_L57 x6_3 v.1 v.2) FU (x10_11, (0 : Int32))).bind fun z => f_X10_orderOf_A57 k2 x6_3 x7_4 M_5 x4_13 z
def f_X10_orderOf (a1 : Int64) (k2 : Nat) (M : Mm) : Option Mm := lt1 (((1 : Int32) <<< ((M.1 69 1) &&& 31)) - (1 : Int32)) fun x6_1 => (loop (fun v => f_X10_orderOf_L16 k2 v.1 v.2.1 v.2.2.1 v.2.2.2) FU (a1, x6_1, (0 : Int32), M)).bind fun z => f_X10_orderOf_A16 z
set_option maxRecDepth 100000 in
set_option maxHeartbeats 4000000 in
theorem t_X10_orderOf {E : Ev} {l : Launch} (htr : l.stackTraces = false) (a1 : Int64) (k2 : Nat) (hk2 : LT[k2]? = some (0, 12, [])) (M : Mm) (r : Mm) (hf : f_X10_orderOf a1 k2 M = some r) : CM E l 1 0 0 yX10_orderOf cX10_orderOf 12 none [.ref (E.1 + 69), .long a1, .ref (E.1 + k2)] M none r := by
  refine CM.of htr (by decide +kernel) (Nat.le_of_ble_eq_true rfl) ?_
  intro K hE hL hl hR0 C hr hRv
  subst hE
  subst hl
  have C : Cx K cX10_orderOf RX10 1 := C
  have hB : (0 : Nat) ≤ K.1.R.cells ∧ 0 ≤ K.1.R.slots := ⟨Nat.zero_le _, Nat.zero_le _⟩
  have hL5 : 5 < K.2.2.1 := by rw [hL]; decide
  have hL6 : 6 < K.2.2.1 := by rw [hL]; decide
  have hL7 : 7 < K.2.2.1 := by rw [hL]; decide
  have hL9 : 9 < K.2.2.1 := by rw [hL]; decide
  have hL10 : 10 < K.2.2.1 := by rw [hL]; decide
  have hL11 : 11 < K.2.2.1 := by rw [hL]; decide
  show G K (0, 0) 0 [(0, .ref (K.2.1.1 + 69)), (1, .long a1), (3, .ref (K.2.1.1 + k2))] [] M
  unfold f_X10_orderOf at hf
  refine g_lload_n 1 C (ckD_get k_X10_orderOf_0 0 rfl) rfl rfl ?_
  refine g_lstore (lv' := [(4, _), (0, _), (1, _), (3, _)]) C (ckD_get k_X10_orderOf_0 1 rfl) hL5 rfl ?_
  refine g_iconst (v := (1 : Int32)) C (ckD_get k_X10_orderOf_0 2 rfl) (by decide) ?_
  refine g_aload_n 1 C (ckD_get k_X10_orderOf_0 3 rfl) rfl rfl ?_
  refine g_getI C (ckD_get k_X10_orderOf_0 4 rfl) fk_X10_124 T69 rfl ?_
  refine g_ishl C (ckD_get k_X10_orderOf_0 5 rfl) ?_
  refine g_iconst (v := (1 : Int32)) C (ckD_get k_X10_orderOf_0 6 rfl) (by decide) ?_
  refine g_isub C (ckD_get k_X10_orderOf_0 7 rfl) ?_
  obtain ⟨x6_1, ex6_1, hf⟩ := lt_e hf
  refine topI ex6_1 ?_
  refine g_istore (lv' := [(6, _), (4, _), (0, _), (1, _), (3, _)]) C (ckD_get k_X10_orderOf_0 8 rfl) hL6 rfl ?_
  refine g_iconst (v := (0 : Int32)) C (ckD_get k_X10_orderOf_0 9 rfl) (by decide) ?_
  refine g_istore (lv' := [(7, _), (6, _), (4, _), (0, _), (1, _), (3, _)]) C (ckD_get k_X10_orderOf_0 10 rfl) hL7 rfl ?_
  refine G.sub [3, 5, 2, 1, 0] rfl ?_
  obtain ⟨M_6, hx_16, hf⟩ := bd_e hf
  have hE_16 : G K (0, 0) 115 [] [] M_6 := by
    have hf : f_X10_orderOf_A16 M_6 = some r := hf
    unfold f_X10_orderOf_A16 at hf
    cases hf
    exact g_vret C (ckD_get k_X10_orderOf_1 26 rfl) hr hRv (Nat.le_refl _) (Nat.le_refl _)
  refine loop_e (x := M_6) (P := fun (v : (Int64 × Int32 × Int32 × Mm)) => G K (0, 0) 16 [(0, .ref (K.2.1.1 + 69)), (3, .ref (K.2.1.1 + k2)), (4, .long v.1), (6, .int v.2.1), (7, .int v.2.2.1)] [] v.2.2.2) ?_ FU _ hx_16
  intro v rr_16 hf hn_16 hz_16
  obtain ⟨x4_2, x6_3, x7_4, M_5⟩ := v
  have hf : f_X10_orderOf_L16 k2 x4_2 x6_3 x7_4 M_5 = some rr_16 := hf
  show G K (0, 0) 16 [(0, .ref (K.2.1.1 + 69)), (3, .ref (K.2.1.1 + k2)), (4, .long x4_2), (6, .int x6_3), (7, .int x7_4)] [] M_5
  unfold f_X10_orderOf_L16 at hf
  refine g_iload 4 C (ckD_get k_X10_orderOf_0 11 rfl) rfl ?_
  refine g_aload_n 0 C (ckD_get k_X10_orderOf_0 12 rfl) rfl rfl ?_
  refine g_getI C (ckD_get k_X10_orderOf_0 13 rfl) fk_X10_124 T69 rfl ?_
  refine g_icmp_ge C (ckD_get k_X10_orderOf_0 14 rfl) (fun c_7 => ?_) (fun c_7 => ?_)
  · have hf := if_t hf c_7
    refine G.sub [] rfl ?_
    cases hf
    cases hz_16 _ rfl
    exact hE_16
  · have hf := if_f hf c_7
    refine g_aload_n 0 C (ckD_get k_X10_orderOf_0 15 rfl) rfl rfl ?_
    refine g_getI C (ckD_get k_X10_orderOf_0 16 rfl) fk_X10_124 T69 rfl ?_
    refine g_iconst (v := (1 : Int32)) C (ckD_get k_X10_orderOf_0 17 rfl) (by decide) ?_
    refine g_isub C (ckD_get k_X10_orderOf_0 18 rfl) ?_
    refine g_iload 4 C (ckD_get k_X10_orderOf_0 19 rfl) rfl ?_
    refine g_isub C (ckD_get k_X10_orderOf_0 20 rfl) ?_
    obtain ⟨r_9, hr_8, hf⟩ := bd_e hf
    refine n_cS [.int (((M_5.1 69 1) - (1 : Int32)) - x7_4)] [] C (ckD_get k_X10_orderOf_0 21 rfl) sk_X10_318 (t_X10_factorial C.tr _ _ _ hr_8) rfl rfl (Nat.le_of_ble_eq_true rfl) (by decide) hB rfl ?_
    refine g_lstore (lv' := [(8, _), (0, _), (3, _), (4, _), (6, _), (7, _)]) C (ckD_get k_X10_orderOf_0 22 rfl) hL9 rfl ?_
    refine g_lload 3 C (ckD_get k_X10_orderOf_0 23 rfl) rfl ?_
    refine g_lload 0 C (ckD_get k_X10_orderOf_0 24 rfl) rfl ?_
    obtain ⟨hg_10, hf⟩ := gd_e hf
    refine g_ldiv C (ckD_get k_X10_orderOf_0 25 rfl) (of_decide_eq_true hg_10) ?_
    refine g_l2i C (ckD_get k_X10_orderOf_0 26 rfl) ?_
    obtain ⟨x10_11, ex10_11, hf⟩ := lt_e hf
    refine topI ex10_11 ?_
    refine g_istore (lv' := [(10, _), (8, _), (0, _), (3, _), (4, _), (6, _), (7, _)]) C (ckD_get k_X10_orderOf_0 27 rfl) hL10 rfl ?_
    refine g_lload 4 C (ckD_get k_X10_orderOf_0 28 rfl) rfl ?_
    refine g_lload 1 C (ckD_get k_X10_orderOf_0 29 rfl) rfl ?_
    obtain ⟨hg_12, hf⟩ := gd_e hf
    refine g_lrem C (ckD_get k_X10_orderOf_0 30 rfl) (of_decide_eq_true hg_12) ?_
    obtain ⟨x4_13, ex4_13, hf⟩ := lt_e hf
    refine topL ex4_13 ?_
    refine g_lstore (lv' := [(4, _), (10, _), (8, _), (0, _), (3, _), (6, _), (7, _)]) C (ckD_get k_X10_orderOf_0 31 rfl) hL5 rfl ?_
    refine g_iconst (v := (0 : Int32)) C (ckD_get k_X10_orderOf_0 32 rfl) (by decide) ?_
    refine g_istore (lv' := [(11, _), (4, _), (10, _), (8, _), (0, _), (3, _), (6, _), (7, _)]) C (ckD_get k_X10_orderOf_0 33 rfl) hL11 rfl ?_
    refine G.sub [4, 5, 1, 6, 7, 2, 0] rfl ?_
    obtain ⟨x11_16, hx_57, hf⟩ := bd_e hf
    have hE_57 : G K (0, 0) 92 [(0, .ref (K.2.1.1 + 69)), (3, .ref (K.2.1.1 + k2)), (4, .long x4_13), (6, .int x6_3), (7, .int x7_4), (11, .int x11_16)] [] M_5 := by
      have hf : f_X10_orderOf_A57 k2 x6_3 x7_4 M_5 x4_13 x11_16 = some rr_16 := hf
      unfold f_X10_orderOf_A57 at hf
      refine g_aload_n 1 C (ckD_get k_X10_orderOf_1 12 rfl) rfl rfl ?_
      refine g_iload 4 C (ckD_get k_X10_orderOf_1 13 rfl) rfl ?_
      refine g_iload 5 C (ckD_get k_X10_orderOf_1 14 rfl) rfl ?_
      obtain ⟨M_17, hi_18, eM_17, hf⟩ := wrI_e hf
      refine n_iast C (ckD_get k_X10_orderOf_1 15 rfl) hk2 hi_18 eM_17 ?_
      refine g_iload 3 C (ckD_get k_X10_orderOf_1 16 rfl) rfl ?_
      refine g_iconst (v := (1 : Int32)) C (ckD_get k_X10_orderOf_1 17 rfl) (by decide) ?_
      refine g_iload 5 C (ckD_get k_X10_orderOf_1 18 rfl) rfl ?_
      refine g_ishl C (ckD_get k_X10_orderOf_1 19 rfl) ?_
      refine g_iconst (v := (-1 : Int32)) C (ckD_get k_X10_orderOf_1 20 rfl) (by decide) ?_
      refine g_ixor C (ckD_get k_X10_orderOf_1 21 rfl) ?_
      refine g_iand C (ckD_get k_X10_orderOf_1 22 rfl) ?_
      obtain ⟨x6_19, ex6_19, hf⟩ := lt_e hf
      refine topI ex6_19 ?_
      refine g_istore (lv' := [(6, _), (0, _), (3, _), (4, _), (7, _), (11, _)]) C (ckD_get k_X10_orderOf_1 23 rfl) hL6 rfl ?_
      obtain ⟨x7_20, ex7_20, hf⟩ := lt_e hf
      refine g_iinc (lv' := [(7, _), (6, _), (0, _), (3, _), (4, _), (11, _)]) 4 C (ckD_get k_X10_orderOf_1 24 rfl) rfl ex7_20 hL7 rfl ?_
      refine g_goto C (ckD_get k_X10_orderOf_1 25 rfl) ?_
      refine G.sub [2, 3, 4, 1, 0] rfl ?_
      cases hf
      exact hn_16 _ rfl
    refine loop_e (x := x11_16) (P := fun (v : (Int32 × Int32)) => G K (0, 0) 57 [(0, .ref (K.2.1.1 + 69)), (3, .ref (K.2.1.1 + k2)), (4, .long x4_13), (6, .int x6_3), (7, .int x7_4), (10, .int v.1), (11, .int v.2)] [] M_5) ?_ FU _ hx_57
    intro v rr_57 hf hn_57 hz_57
    obtain ⟨x10_14, x11_15⟩ := v
    have hf : f_X10_orderOf_L57 x6_3 x10_14 x11_15 = some rr_57 := hf
    show G K (0, 0) 57 [(0, .ref (K.2.1.1 + 69)), (3, .ref (K.2.1.1 + k2)), (4, .long x4_13), (6, .int x6_3), (7, .int x7_4), (10, .int x10_14), (11, .int x11_15)] [] M_5
    unfold f_X10_orderOf_L57 at hf
    refine g_iload 5 C (ckD_get k_X10_orderOf_0 34 rfl) rfl ?_
    have hJ_72 : ∀ (_ : Unit), f_X10_orderOf_J72 x6_3 x10_14 x11_15 () = some rr_57 → G K (0, 0) 72 [(0, .ref (K.2.1.1 + 69)), (3, .ref (K.2.1.1 + k2)), (4, .long x4_13), (6, .int x6_3), (7, .int x7_4), (10, .int x10_14), (11, .int x11_15)] [] M_5 := by
      intro _ hf
      unfold f_X10_orderOf_J72 at hf
      refine g_iload 3 C (ckD_get k_X10_orderOf_1 2 rfl) rfl ?_
      refine g_iload 6 C (ckD_get k_X10_orderOf_1 3 rfl) rfl ?_
      refine g_ishr C (ckD_get k_X10_orderOf_1 4 rfl) ?_
      refine g_iconst (v := (1 : Int32)) C (ckD_get k_X10_orderOf_1 5 rfl) (by decide) ?_
      refine g_iand C (ckD_get k_X10_orderOf_1 6 rfl) ?_
      refine g_iconst (v := (1 : Int32)) C (ckD_get k_X10_orderOf_1 7 rfl) (by decide) ?_
      have hJ_86 : ∀ (p10_21 : Int32), f_X10_orderOf_J86 x11_15 p10_21 = some rr_57 → G K (0, 0) 86 [(0, .ref (K.2.1.1 + 69)), (3, .ref (K.2.1.1 + k2)), (4, .long x4_13), (6, .int x6_3), (7, .int x7_4), (10, .int p10_21), (11, .int x11_15)] [] M_5 := by
        intro p10_21 hf
        unfold f_X10_orderOf_J86 at hf
        obtain ⟨x11_22, ex11_22, hf⟩ := lt_e hf
        refine g_iinc (lv' := [(11, _), (0, _), (3, _), (4, _), (6, _), (7, _), (10, _)]) 6 C (ckD_get k_X10_orderOf_1 10 rfl) rfl ex11_22 hL11 rfl ?_
        refine g_goto C (ckD_get k_X10_orderOf_1 11 rfl) ?_
        refine G.sub [1, 2, 3, 4, 5, 6, 0] rfl ?_
        cases hf
        exact hn_57 _ rfl
      refine g_icmp_ne C (ckD_get k_X10_orderOf_1 8 rfl) (fun c_23 => ?_) (fun c_23 => ?_)
      · have hf := if_f hf c_23
        exact hJ_86 _ hf
      · have hf := if_t hf c_23
        obtain ⟨x10_24, ex10_24, hf⟩ := lt_e hf
        refine g_iinc (lv' := [(10, _), (0, _), (3, _), (4, _), (6, _), (7, _), (11, _)]) 5 C (ckD_get k_X10_orderOf_1 9 rfl) rfl ex10_24 hL10 rfl ?_
        refine G.sub [1, 2, 3, 4, 5, 0, 6] rfl ?_
        exact hJ_86 _ hf
    refine g_if_gt C (ckD_get k_X10_orderOf_0 35 rfl) (fun c_25 => ?_) (fun c_25 => ?_)
    · have hf := if_t hf c_25
      exact hJ_72 () hf
    · have hf := if_f hf c_25
      refine g_iload 3 C (ckD_get k_X10_orderOf_0 36 rfl) rfl ?_
      refine g_iload 6 C (ckD_get k_X10_orderOf_0 37 rfl) rfl ?_
      refine g_ishr C (ckD_get k_X10_orderOf_0 38 rfl) ?_
      refine g_iconst (v := (1 : Int32)) C (ckD_get k_X10_orderOf_0 39 rfl) (by decide) ?_
      refine g_iand C (ckD_get k_X10_orderOf_1 0 rfl) ?_
      refine g_if_ne C (ckD_get k_X10_orderOf_1 1 rfl) (fun c_26 => ?_) (fun c_26 => ?_)
      · have hf := if_f hf c_26
        refine G.sub [0, 1, 2, 3, 4, 6] rfl ?_
        cases hf
        cases hz_57 _ rfl
        exact hE_57
      · have hf := if_t hf c_26
        exact hJ_72 () hf

set_option maxRecDepth 20000 in
theorem k_X10_of_0 : ckD cX10_of [(0, .aload_n 0, 1, 1, 0), (1, .iconst 0, 1, 2, 0), (2, .putfield 121, 3, 5, 0), (5, .aload_n 0, 1, 6, 0), (6, .getfield 124, 3, 9, 0), (9, .ifCond .eq 29, 3, 12, 38), (12, .lload_n 1, 1, 13, 0), (13, .lconst 0, 1, 14, 0), (14, .lcmp, 1, 15, 0), (15, .ifCond .lt 23, 3, 18, 38), (18, .lload_n 1, 1, 19, 0), (19, .aload_n 0, 1, 20, 0), (20, .getfield 124, 3, 23, 0), (23, .invokestatic 318, 3, 26, 0), (26, .aload_n 0, 1, 27, 0), (27, .getfield 124, 3, 30, 0), (30, .invokestatic 318, 3, 33, 0), (33, .lmul, 1, 34, 0), (34, .lcmp, 1, 35, 0), (35, .ifCond .lt 5, 3, 38, 40), (38, .iconst 0, 1, 39, 0), (39, .ireturn, 1, 40, 0), (40, .aload_n 0, 1, 41, 0), (41, .lload_n 1, 1, 42, 0), (42, .aload_n 0, 1, 43, 0), (43, .getfield 124, 3, 46, 0), (46, .invokestatic 318, 3, 49, 0), (49, .ldiv, 1, 50, 0), (50, .aload_n 0, 1, 51, 0), (51, .getfield 33, 3, 54, 0), (54, .invokevirtual 328, 3, 57, 0), (57, .aload_n 0, 1, 58, 0), (58, .lload_n 1, 1, 59, 0), (59, .aload_n 0, 1, 60, 0), (60, .getfield 124, 3, 63, 0), (63, .invokestatic 318, 3, 66, 0), (66, .lrem, 1, 67, 0), (67, .aload_n 0, 1, 68, 0), (68, .getfield 36, 3, 71, 0), (71, .invokevirtual 328, 3, 74, 0)] = true := by decide +kernel
set_option maxRecDepth 20000 in
theorem k_X10_of_1 : ckD cX10_of [(74, .aload_n 0, 1, 75, 0), (75, .iconst 0, 1, 76, 0), (76, .putfield 127, 3, 79, 0), (79, .aload_n 0, 1, 80, 0), (80, .invokevirtual 172, 3, 83, 0), (83, .iconst 1, 1, 84, 0), (84, .ireturn, 1, 85, 0)] = true := by decide +kernel
def f_X10_of (a1 : Int64) (M : Mm) : Option (Int32 × Mm) := lt1 (wi M 69 0 (0 : Int32)) fun M_1 => if (M_1.1 69 1) = 0 then some ((0 : Int32), M_1) else if (lg_cmp a1 (0 : Int64)) < 0 then some ((0 : Int32), M_1) else (f_X10_factorial (M_1.1 69 1)).bind fun r_5 => (f_X10_factorial (M_1.1 69 1)).bind fun r_7 => if (lg_cmp a1 (r_5 * r_7)) < 0 then (f_X10_factorial (M_1.1 69 1)).bind fun r_10 => gd (decide (¬ r_10 = 0)) <| (f_X10_orderOf (a1 / r_10) 76 M_1).bind fun M_13 => (f_X10_factorial (M_13.1 69 1)).bind fun r_15 => gd (decide (¬ r_15 = 0)) <| (f_X10_orderOf (a1 - a1 / r_15 * r_15) 77 M_13).bind fun M_18 => lt1 (wi M_18 69 7 (0 : Int32)) fun M_19 => (f_X10_layPair M_19).bind fun M_21 => some ((1 : Int32), M_21) else some ((0 : Int32), M_1)
set_option maxRecDepth 100000 in
set_option maxHeartbeats 4000000 in
theorem t_X10_of {E : Ev} {l : Launch} (htr : l.stackTraces = false) (a1 : Int64) (M : Mm) (r : (Int32 × Mm)) (hf : f_X10_of a1 M = some r) : CM E l 3 0 0 yX10_of cX10_of 3 (some .boolean) [.ref (E.1 + 69), .long a1] M (some (.int r.1)) r.2 := by
  refine CM.of htr (by decide +kernel) (Nat.le_of_ble_eq_true rfl) ?_
  intro K hE hL hl hR0 C hr hRv
  subst hE
  subst hl
  have C : Cx K cX10_of RX10 3 := C
  have hB : (0 : Nat) ≤ K.1.R.cells ∧ 0 ≤ K.1.R.slots := ⟨Nat.zero_le _, Nat.zero_le _⟩
  show G K (0, 0) 0 [(0, .ref (K.2.1.1 + 69)), (1, .long a1)] [] M
  unfold f_X10_of at hf
  refine g_aload_n 0 C (ckD_get k_X10_of_0 0 rfl) rfl rfl ?_
  refine g_iconst (v := (0 : Int32)) C (ckD_get k_X10_of_0 1 rfl) (by decide) ?_
  obtain ⟨M_1, eM_1, hf⟩ := lt_e hf
  refine g_putI C (ckD_get k_X10_of_0 2 rfl) fk_X10_121 T69 rfl ?_
  refine memI eM_1 ?_
  refine g_aload_n 0 C (ckD_get k_X10_of_0 3 rfl) rfl rfl ?_
  refine g_getI C (ckD_get k_X10_of_0 4 rfl) fk_X10_124 T69 rfl ?_
  refine g_if_eq C (ckD_get k_X10_of_0 5 rfl) (fun c_2 => ?_) (fun c_2 => ?_)
  · have hf := if_t hf c_2
    refine g_iconst (v := (0 : Int32)) C (ckD_get k_X10_of_0 20 rfl) (by decide) ?_
    cases hf
    exact g_zret C (ckD_get k_X10_of_0 21 rfl) hr rfl hRv (Nat.le_refl _) (Nat.le_refl _)
  · have hf := if_f hf c_2
    refine g_lload_n 1 C (ckD_get k_X10_of_0 6 rfl) rfl rfl ?_
    refine g_lconst (v := (0 : Int64)) C (ckD_get k_X10_of_0 7 rfl) (by decide) ?_
    refine g_lcmp C (ckD_get k_X10_of_0 8 rfl) ?_
    refine g_if_lt C (ckD_get k_X10_of_0 9 rfl) (fun c_3 => ?_) (fun c_3 => ?_)
    · have hf := if_t hf c_3
      refine g_iconst (v := (0 : Int32)) C (ckD_get k_X10_of_0 20 rfl) (by decide) ?_
      cases hf
      exact g_zret C (ckD_get k_X10_of_0 21 rfl) hr rfl hRv (Nat.le_refl _) (Nat.le_refl _)
    · have hf := if_f hf c_3
      refine g_lload_n 1 C (ckD_get k_X10_of_0 10 rfl) rfl rfl ?_
      refine g_aload_n 0 C (ckD_get k_X10_of_0 11 rfl) rfl rfl ?_
      refine g_getI C (ckD_get k_X10_of_0 12 rfl) fk_X10_124 T69 rfl ?_
      obtain ⟨r_5, hr_4, hf⟩ := bd_e hf
      refine n_cS [.int (M_1.1 69 1)] [.long a1] C (ckD_get k_X10_of_0 13 rfl) sk_X10_318 (t_X10_factorial C.tr _ _ _ hr_4) rfl rfl (Nat.le_of_ble_eq_true rfl) (by decide) hB rfl ?_
      refine g_aload_n 0 C (ckD_get k_X10_of_0 14 rfl) rfl rfl ?_
      refine g_getI C (ckD_get k_X10_of_0 15 rfl) fk_X10_124 T69 rfl ?_
      obtain ⟨r_7, hr_6, hf⟩ := bd_e hf
      refine n_cS [.int (M_1.1 69 1)] [.long r_5, .long a1] C (ckD_get k_X10_of_0 16 rfl) sk_X10_318 (t_X10_factorial C.tr _ _ _ hr_6) rfl rfl (Nat.le_of_ble_eq_true rfl) (by decide) hB rfl ?_
      refine g_lmul C (ckD_get k_X10_of_0 17 rfl) ?_
      refine g_lcmp C (ckD_get k_X10_of_0 18 rfl) ?_
      refine g_if_lt C (ckD_get k_X10_of_0 19 rfl) (fun c_8 => ?_) (fun c_8 => ?_)
      · have hf := if_t hf c_8
        refine g_aload_n 0 C (ckD_get k_X10_of_0 22 rfl) rfl rfl ?_
        refine g_lload_n 1 C (ckD_get k_X10_of_0 23 rfl) rfl rfl ?_
        refine g_aload_n 0 C (ckD_get k_X10_of_0 24 rfl) rfl rfl ?_
        refine g_getI C (ckD_get k_X10_of_0 25 rfl) fk_X10_124 T69 rfl ?_
        obtain ⟨r_10, hr_9, hf⟩ := bd_e hf
        refine n_cS [.int (M_1.1 69 1)] [.long a1, .ref (K.2.1.1 + 69)] C (ckD_get k_X10_of_0 26 rfl) sk_X10_318 (t_X10_factorial C.tr _ _ _ hr_9) rfl rfl (Nat.le_of_ble_eq_true rfl) (by decide) hB rfl ?_
        obtain ⟨hg_11, hf⟩ := gd_e hf
        refine g_ldiv C (ckD_get k_X10_of_0 27 rfl) (of_decide_eq_true hg_11) ?_
        refine g_aload_n 0 C (ckD_get k_X10_of_0 28 rfl) rfl rfl ?_
        refine g_getR C (ckD_get k_X10_of_0 29 rfl) fk_X10_33 T69 rfl ?_
        obtain ⟨M_13, hr_12, hf⟩ := bd_e hf
        refine n_cV [.long (a1 / r_10), .ref (K.2.1.1 + 76)] [] C (ckD_get k_X10_of_0 30 rfl) vk_X10_328 (t_X10_orderOf C.tr _ _ T76 _ _ hr_12) T69 rfl rfl (Nat.le_of_ble_eq_true rfl) (by decide) hB rfl ?_
        refine g_aload_n 0 C (ckD_get k_X10_of_0 31 rfl) rfl rfl ?_
        refine g_lload_n 1 C (ckD_get k_X10_of_0 32 rfl) rfl rfl ?_
        refine g_aload_n 0 C (ckD_get k_X10_of_0 33 rfl) rfl rfl ?_
        refine g_getI C (ckD_get k_X10_of_0 34 rfl) fk_X10_124 T69 rfl ?_
        obtain ⟨r_15, hr_14, hf⟩ := bd_e hf
        refine n_cS [.int (M_13.1 69 1)] [.long a1, .ref (K.2.1.1 + 69)] C (ckD_get k_X10_of_0 35 rfl) sk_X10_318 (t_X10_factorial C.tr _ _ _ hr_14) rfl rfl (Nat.le_of_ble_eq_true rfl) (by decide) hB rfl ?_
        obtain ⟨hg_16, hf⟩ := gd_e hf
        refine g_lrem C (ckD_get k_X10_of_0 36 rfl) (of_decide_eq_true hg_16) ?_
        refine g_aload_n 0 C (ckD_get k_X10_of_0 37 rfl) rfl rfl ?_
        refine g_getR C (ckD_get k_X10_of_0 38 rfl) fk_X10_36 T69 rfl ?_
        obtain ⟨M_18, hr_17, hf⟩ := bd_e hf
        refine n_cV [.long (a1 - a1 / r_15 * r_15), .ref (K.2.1.1 + 77)] [] C (ckD_get k_X10_of_0 39 rfl) vk_X10_328 (t_X10_orderOf C.tr _ _ T77 _ _ hr_17) T69 rfl rfl (Nat.le_of_ble_eq_true rfl) (by decide) hB rfl ?_
        refine g_aload_n 0 C (ckD_get k_X10_of_1 0 rfl) rfl rfl ?_
        refine g_iconst (v := (0 : Int32)) C (ckD_get k_X10_of_1 1 rfl) (by decide) ?_
        obtain ⟨M_19, eM_19, hf⟩ := lt_e hf
        refine g_putI C (ckD_get k_X10_of_1 2 rfl) fk_X10_127 T69 rfl ?_
        refine memI eM_19 ?_
        refine g_aload_n 0 C (ckD_get k_X10_of_1 3 rfl) rfl rfl ?_
        obtain ⟨M_21, hr_20, hf⟩ := bd_e hf
        refine n_cV [] [] C (ckD_get k_X10_of_1 4 rfl) vk_X10_172 (t_X10_layPair C.tr _ _ hr_20) T69 rfl rfl (Nat.le_of_ble_eq_true rfl) (by decide) hB rfl ?_
        refine g_iconst (v := (1 : Int32)) C (ckD_get k_X10_of_1 5 rfl) (by decide) ?_
        cases hf
        exact g_zret C (ckD_get k_X10_of_1 6 rfl) hr rfl hRv (Nat.le_refl _) (Nat.le_refl _)
      · have hf := if_f hf c_8
        refine g_iconst (v := (0 : Int32)) C (ckD_get k_X10_of_0 20 rfl) (by decide) ?_
        cases hf
        exact g_zret C (ckD_get k_X10_of_0 21 rfl) hr rfl hRv (Nat.le_refl _) (Nat.le_refl _)
