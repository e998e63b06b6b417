set_option maxRecDepth 20000 in
theorem k_X10_ahead_0 : ckD cX10_ahead [(0, .iload_n 3, 1, 1, 0), (1, .ifCond .eq 45, 3, 4, 46), (4, .aload_n 0, 1, 5, 0), (5, .iload_n 1, 1, 6, 0), (6, .iload_n 2, 1, 7, 0), (7, .invokevirtual 211, 3, 10, 0), (10, .ifCond .ne 12, 3, 13, 22), (13, .aload_n 0, 1, 14, 0), (14, .iload_n 2, 1, 15, 0), (15, .iload_n 1, 1, 16, 0), (16, .invokevirtual 215, 3, 19, 0), (19, .ifCond .eq 25, 3, 22, 44), (22, .aload_n 0, 1, 23, 0), (23, .iload_n 1, 1, 24, 0), (24, .iload_n 2, 1, 25, 0), (25, .invokevirtual 215, 3, 28, 0), (28, .ifCond .ne 16, 3, 31, 44), (31, .aload_n 0, 1, 32, 0), (32, .iload_n 2, 1, 33, 0), (33, .iload_n 1, 1, 34, 0), (34, .invokevirtual 211, 3, 37, 0), (37, .ifCond .ne 7, 3, 40, 44), (40, .iconst 1, 1, 41, 0), (41, .goto 4, 3, 44, 45), (44, .iconst 0, 1, 45, 0), (45, .ireturn, 1, 46, 0), (46, .aload_n 0, 1, 47, 0), (47, .iload_n 1, 1, 48, 0), (48, .iload_n 2, 1, 49, 0), (49, .invokevirtual 211, 3, 52, 0), (52, .ifCond .ne 12, 3, 55, 64), (55, .aload_n 0, 1, 56, 0), (56, .iload_n 1, 1, 57, 0), (57, .iload_n 2, 1, 58, 0), (58, .invokevirtual 215, 3, 61, 0), (61, .ifCond .eq 25, 3, 64, 86), (64, .aload_n 0, 1, 65, 0), (65, .iload_n 2, 1, 66, 0), (66, .iload_n 1, 1, 67, 0), (67, .invokevirtual 211, 3, 70, 0)] = true := by decide +kernel
set_option maxRecDepth 20000 in
theorem k_X10_ahead_1 : ckD cX10_ahead [(70, .ifCond .ne 16, 3, 73, 86), (73, .aload_n 0, 1, 74, 0), (74, .iload_n 2, 1, 75, 0), (75, .iload_n 1, 1, 76, 0), (76, .invokevirtual 215, 3, 79, 0), (79, .ifCond .ne 7, 3, 82, 86), (82, .iconst 1, 1, 83, 0), (83, .goto 4, 3, 86, 87), (86, .iconst 0, 1, 87, 0), (87, .ireturn, 1, 88, 0)] = true := by decide +kernel
def f_X10_ahead_J64 (a1 : Int32) (a2 : Int32) (M : Mm) (_ : Unit) : Option Int32 := (f_X10_isLeftOf a2 a1 M).bind fun r_5 => if r_5 = 0 then (f_X10_isBelow a2 a1 M).bind fun r_8 => if r_8 = 0 then some (1 : Int32) else some (0 : Int32) else some (0 : Int32)
def f_X10_ahead_J22 (a1 : Int32) (a2 : Int32) (M : Mm) (_ : Unit) : Option Int32 := (f_X10_isBelow a1 a2 M).bind fun r_17 => if r_17 = 0 then (f_X10_isLeftOf a2 a1 M).bind fun r_20 => if r_20 = 0 then some (1 : Int32) else some (0 : Int32) else some (0 : Int32)
def f_X10_ahead (a1 : Int32) (a2 : Int32) (a3 : Int32) (M : Mm) : Option Int32 := if a3 = 0 then (f_X10_isLeftOf a1 a2 M).bind fun r_3 => if r_3 = 0 then (f_X10_isBelow a1 a2 M).bind fun r_12 => if r_12 = 0 then some (0 : Int32) else f_X10_ahead_J64 a1 a2 M () else f_X10_ahead_J64 a1 a2 M () else (f_X10_isLeftOf a1 a2 M).bind fun r_15 => if r_15 = 0 then (f_X10_isBelow a2 a1 M).bind fun r_24 => if r_24 = 0 then some (0 : Int32) else f_X10_ahead_J22 a1 a2 M () else f_X10_ahead_J22 a1 a2 M ()
set_option maxRecDepth 100000 in
set_option maxHeartbeats 4000000 in
theorem t_X10_ahead {E : Ev} {l : Launch} (htr : l.stackTraces = false) (a1 : Int32) (a2 : Int32) (a3 : Int32) (M : Mm) (r : Int32) (hf : f_X10_ahead a1 a2 a3 M = some r) : CM E l 2 0 0 yX10_ahead cX10_ahead 4 (some .boolean) [.ref (E.1 + 69), .int a1, .int a2, .int a3] M (some (.int r)) M := by
  refine CM.of htr (by decide +kernel) (Nat.le_of_ble_eq_true rfl) ?_
  intro K hE hL hl hR0 C hr hRv
  subst hE
  subst hl
  have C : Cx K cX10_ahead RX10 2 := C
  have hB : (0 : Nat) ≤ K.1.R.cells ∧ 0 ≤ K.1.R.slots := ⟨Nat.zero_le _, Nat.zero_le _⟩
  show G K (0, 0) 0 [(0, .ref (K.2.1.1 + 69)), (1, .int a1), (2, .int a2), (3, .int a3)] [] M
  unfold f_X10_ahead at hf
  refine g_iload_n 3 C (ckD_get k_X10_ahead_0 0 rfl) rfl rfl ?_
  refine g_if_eq C (ckD_get k_X10_ahead_0 1 rfl) (fun c_1 => ?_) (fun c_1 => ?_)
  · have hf := if_t hf c_1
    refine g_aload_n 0 C (ckD_get k_X10_ahead_0 26 rfl) rfl rfl ?_
    refine g_iload_n 1 C (ckD_get k_X10_ahead_0 27 rfl) rfl rfl ?_
    refine g_iload_n 2 C (ckD_get k_X10_ahead_0 28 rfl) rfl rfl ?_
    obtain ⟨r_3, hr_2, hf⟩ := bd_e hf
    refine n_cV [.int a1, .int a2] [] C (ckD_get k_X10_ahead_0 29 rfl) vk_X10_211 (t_X10_isLeftOf C.tr _ _ _ _ hr_2) T69 rfl rfl (Nat.le_of_ble_eq_true rfl) (by decide) hB rfl ?_
    have hJ_64 : ∀ (_ : Unit), f_X10_ahead_J64 a1 a2 M () = some r → G K (0, 0) 64 [(0, .ref (K.2.1.1 + 69)), (1, .int a1), (2, .int a2)] [] M := by
      intro _ hf
      unfold f_X10_ahead_J64 at hf
      refine g_aload_n 0 C (ckD_get k_X10_ahead_0 36 rfl) rfl rfl ?_
      refine g_iload_n 2 C (ckD_get k_X10_ahead_0 37 rfl) rfl rfl ?_
      refine g_iload_n 1 C (ckD_get k_X10_ahead_0 38 rfl) rfl rfl ?_
      obtain ⟨r_5, hr_4, hf⟩ := bd_e hf
      refine n_cV [.int a2, .int a1] [] C (ckD_get k_X10_ahead_0 39 rfl) vk_X10_211 (t_X10_isLeftOf C.tr _ _ _ _ hr_4) T69 rfl rfl (Nat.le_of_ble_eq_true rfl) (by decide) hB rfl ?_
      refine g_if_ne C (ckD_get k_X10_ahead_1 0 rfl) (fun c_6 => ?_) (fun c_6 => ?_)
      · have hf := if_f hf c_6
        refine g_iconst (v := (0 : Int32)) C (ckD_get k_X10_ahead_1 8 rfl) (by decide) ?_
        cases hf
        exact g_zret C (ckD_get k_X10_ahead_1 9 rfl) hr rfl hRv (Nat.le_refl _) (Nat.le_refl _)
      · have hf := if_t hf c_6
        refine g_aload_n 0 C (ckD_get k_X10_ahead_1 1 rfl) rfl rfl ?_
        refine g_iload_n 2 C (ckD_get k_X10_ahead_1 2 rfl) rfl rfl ?_
        refine g_iload_n 1 C (ckD_get k_X10_ahead_1 3 rfl) rfl rfl ?_
        obtain ⟨r_8, hr_7, hf⟩ := bd_e hf
        refine n_cV [.int a2, .int a1] [] C (ckD_get k_X10_ahead_1 4 rfl) vk_X10_215 (t_X10_isBelow C.tr _ _ _ _ hr_7) T69 rfl rfl (Nat.le_of_ble_eq_true rfl) (by decide) hB rfl ?_
        refine g_if_ne C (ckD_get k_X10_ahead_1 5 rfl) (fun c_9 => ?_) (fun c_9 => ?_)
        · have hf := if_f hf c_9
          refine g_iconst (v := (0 : Int32)) C (ckD_get k_X10_ahead_1 8 rfl) (by decide) ?_
          cases hf
          exact g_zret C (ckD_get k_X10_ahead_1 9 rfl) hr rfl hRv (Nat.le_refl _) (Nat.le_refl _)
        · have hf := if_t hf c_9
          refine g_iconst (v := (1 : Int32)) C (ckD_get k_X10_ahead_1 6 rfl) (by decide) ?_
          refine g_goto C (ckD_get k_X10_ahead_1 7 rfl) ?_
          cases hf
          exact g_zret C (ckD_get k_X10_ahead_1 9 rfl) hr rfl hRv (Nat.le_refl _) (Nat.le_refl _)
    refine g_if_ne C (ckD_get k_X10_ahead_0 30 rfl) (fun c_10 => ?_) (fun c_10 => ?_)
    · have hf := if_f hf c_10
      refine G.sub [0, 1, 2] rfl ?_
      exact hJ_64 () hf
    · have hf := if_t hf c_10
      refine g_aload_n 0 C (ckD_get k_X10_ahead_0 31 rfl) rfl rfl ?_
      refine g_iload_n 1 C (ckD_get k_X10_ahead_0 32 rfl) rfl rfl ?_
      refine g_iload_n 2 C (ckD_get k_X10_ahead_0 33 rfl) rfl rfl ?_
      obtain ⟨r_12, hr_11, hf⟩ := bd_e hf
      refine n_cV [.int a1, .int a2] [] C (ckD_get k_X10_ahead_0 34 rfl) vk_X10_215 (t_X10_isBelow C.tr _ _ _ _ hr_11) T69 rfl rfl (Nat.le_of_ble_eq_true rfl) (by decide) hB rfl ?_
      refine g_if_eq C (ckD_get k_X10_ahead_0 35 rfl) (fun c_13 => ?_) (fun c_13 => ?_)
      · have hf := if_t hf c_13
        refine g_iconst (v := (0 : Int32)) C (ckD_get k_X10_ahead_1 8 rfl) (by decide) ?_
        cases hf
        exact g_zret C (ckD_get k_X10_ahead_1 9 rfl) hr rfl hRv (Nat.le_refl _) (Nat.le_refl _)
      · have hf := if_f hf c_13
        refine G.sub [0, 1, 2] rfl ?_
        exact hJ_64 () hf
  · have hf := if_f hf c_1
    refine g_aload_n 0 C (ckD_get k_X10_ahead_0 2 rfl) rfl rfl ?_
    refine g_iload_n 1 C (ckD_get k_X10_ahead_0 3 rfl) rfl rfl ?_
    refine g_iload_n 2 C (ckD_get k_X10_ahead_0 4 rfl) rfl rfl ?_
    obtain ⟨r_15, hr_14, hf⟩ := bd_e hf
    refine n_cV [.int a1, .int a2] [] C (ckD_get k_X10_ahead_0 5 rfl) vk_X10_211 (t_X10_isLeftOf C.tr _ _ _ _ hr_14) T69 rfl rfl (Nat.le_of_ble_eq_true rfl) (by decide) hB rfl ?_
    have hJ_22 : ∀ (_ : Unit), f_X10_ahead_J22 a1 a2 M () = some r → G K (0, 0) 22 [(0, .ref (K.2.1.1 + 69)), (1, .int a1), (2, .int a2)] [] M := by
      intro _ hf
      unfold f_X10_ahead_J22 at hf
      refine g_aload_n 0 C (ckD_get k_X10_ahead_0 12 rfl) rfl rfl ?_
      refine g_iload_n 1 C (ckD_get k_X10_ahead_0 13 rfl) rfl rfl ?_
      refine g_iload_n 2 C (ckD_get k_X10_ahead_0 14 rfl) rfl rfl ?_
      obtain ⟨r_17, hr_16, hf⟩ := bd_e hf
      refine n_cV [.int a1, .int a2] [] C (ckD_get k_X10_ahead_0 15 rfl) vk_X10_215 (t_X10_isBelow C.tr _ _ _ _ hr_16) T69 rfl rfl (Nat.le_of_ble_eq_true rfl) (by decide) hB rfl ?_
      refine g_if_ne C (ckD_get k_X10_ahead_0 16 rfl) (fun c_18 => ?_) (fun c_18 => ?_)
      · have hf := if_f hf c_18
        refine g_iconst (v := (0 : Int32)) C (ckD_get k_X10_ahead_0 24 rfl) (by decide) ?_
        cases hf
        exact g_zret C (ckD_get k_X10_ahead_0 25 rfl) hr rfl hRv (Nat.le_refl _) (Nat.le_refl _)
      · have hf := if_t hf c_18
        refine g_aload_n 0 C (ckD_get k_X10_ahead_0 17 rfl) rfl rfl ?_
        refine g_iload_n 2 C (ckD_get k_X10_ahead_0 18 rfl) rfl rfl ?_
        refine g_iload_n 1 C (ckD_get k_X10_ahead_0 19 rfl) rfl rfl ?_
        obtain ⟨r_20, hr_19, hf⟩ := bd_e hf
        refine n_cV [.int a2, .int a1] [] C (ckD_get k_X10_ahead_0 20 rfl) vk_X10_211 (t_X10_isLeftOf C.tr _ _ _ _ hr_19) T69 rfl rfl (Nat.le_of_ble_eq_true rfl) (by decide) hB rfl ?_
        refine g_if_ne C (ckD_get k_X10_ahead_0 21 rfl) (fun c_21 => ?_) (fun c_21 => ?_)
        · have hf := if_f hf c_21
          refine g_iconst (v := (0 : Int32)) C (ckD_get k_X10_ahead_0 24 rfl) (by decide) ?_
          cases hf
          exact g_zret C (ckD_get k_X10_ahead_0 25 rfl) hr rfl hRv (Nat.le_refl _) (Nat.le_refl _)
        · have hf := if_t hf c_21
          refine g_iconst (v := (1 : Int32)) C (ckD_get k_X10_ahead_0 22 rfl) (by decide) ?_
          refine g_goto C (ckD_get k_X10_ahead_0 23 rfl) ?_
          cases hf
          exact g_zret C (ckD_get k_X10_ahead_0 25 rfl) hr rfl hRv (Nat.le_refl _) (Nat.le_refl _)
    refine g_if_ne C (ckD_get k_X10_ahead_0 6 rfl) (fun c_22 => ?_) (fun c_22 => ?_)
    · have hf := if_f hf c_22
      refine G.sub [0, 1, 2] rfl ?_
      exact hJ_22 () hf
    · have hf := if_t hf c_22
      refine g_aload_n 0 C (ckD_get k_X10_ahead_0 7 rfl) rfl rfl ?_
      refine g_iload_n 2 C (ckD_get k_X10_ahead_0 8 rfl) rfl rfl ?_
      refine g_iload_n 1 C (ckD_get k_X10_ahead_0 9 rfl) rfl rfl ?_
      obtain ⟨r_24, hr_23, hf⟩ := bd_e hf
      refine n_cV [.int a2, .int a1] [] C (ckD_get k_X10_ahead_0 10 rfl) vk_X10_215 (t_X10_isBelow C.tr _ _ _ _ hr_23) T69 rfl rfl (Nat.le_of_ble_eq_true rfl) (by decide) hB rfl ?_
      refine g_if_eq C (ckD_get k_X10_ahead_0 11 rfl) (fun c_25 => ?_) (fun c_25 => ?_)
      · have hf := if_t hf c_25
        refine g_iconst (v := (0 : Int32)) C (ckD_get k_X10_ahead_0 24 rfl) (by decide) ?_
        cases hf
        exact g_zret C (ckD_get k_X10_ahead_0 25 rfl) hr rfl hRv (Nat.le_refl _) (Nat.le_refl _)
      · have hf := if_f hf c_25
        refine G.sub [0, 1, 2] rfl ?_
        exact hJ_22 () hf

set_option maxRecDepth 20000 in
theorem k_X10_sort_0 : ckD cX10_sort [(0, .iconst 1, 1, 1, 0), (1, .aload_n 0, 1, 2, 0), (2, .getfield 124, 3, 5, 0), (5, .ishl, 1, 6, 0), (6, .iconst 1, 1, 7, 0), (7, .isub, 1, 8, 0), (8, .istore_n 3, 1, 9, 0), (9, .iconst 0, 1, 10, 0), (10, .istore 4, 2, 12, 0), (12, .iload 4, 2, 14, 0), (14, .aload_n 0, 1, 15, 0), (15, .getfield 124, 3, 18, 0), (18, .if_icmp .ge 138, 3, 21, 156), (21, .iconst (-1), 1, 22, 0), (22, .istore 5, 2, 24, 0), (24, .aload_n 0, 1, 25, 0), (25, .getfield 124, 3, 28, 0), (28, .iconst 1, 1, 29, 0), (29, .isub, 1, 30, 0), (30, .istore 6, 2, 32, 0), (32, .iload 6, 2, 34, 0), (34, .ifCond .lt 93, 3, 37, 127), (37, .iload_n 3, 1, 38, 0), (38, .iload 6, 2, 40, 0), (40, .ishr, 1, 41, 0), (41, .iconst 1, 1, 42, 0), (42, .iand, 1, 43, 0), (43, .iconst 1, 1, 44, 0), (44, .if_icmp .ne 7, 3, 47, 51), (47, .iconst 1, 1, 48, 0), (48, .goto 4, 3, 51, 52), (51, .iconst 0, 1, 52, 0), (52, .istore 7, 2, 54, 0), (54, .iconst 0, 1, 55, 0), (55, .istore 8, 2, 57, 0), (57, .iload 8, 2, 59, 0), (59, .aload_n 0, 1, 60, 0), (60, .getfield 124, 3, 63, 0), (63, .if_icmp .ge 49, 3, 66, 112), (66, .iload 7, 2, 68, 0)] = true := by decide +kernel
set_option maxRecDepth 20000 in
theorem k_X10_sort_1 : ckD cX10_sort [(68, .ifCond .eq 44, 3, 71, 112), (71, .iload 8, 2, 73, 0), (73, .iload 6, 2, 75, 0), (75, .if_icmp .eq 24, 3, 78, 99), (78, .iload_n 3, 1, 79, 0), (79, .iload 8, 2, 81, 0), (81, .ishr, 1, 82, 0), (82, .iconst 1, 1, 83, 0), (83, .iand, 1, 84, 0), (84, .ifCond .eq 15, 3, 87, 99), (87, .aload_n 0, 1, 88, 0), (88, .iload 8, 2, 90, 0), (90, .iload 6, 2, 92, 0), (92, .iload_n 1, 1, 93, 0), (93, .invokevirtual 248, 3, 96, 0), (96, .ifCond .ne 7, 3, 99, 103), (99, .iconst 1, 1, 100, 0), (100, .goto 4, 3, 103, 104), (103, .iconst 0, 1, 104, 0), (104, .istore 7, 2, 106, 0), (106, .iinc 8 1, 3, 109, 0), (109, .goto (-52), 3, 112, 57), (112, .iload 7, 2, 114, 0), (114, .ifCond .eq 7, 3, 117, 121), (117, .iload 6, 2, 119, 0), (119, .istore 5, 2, 121, 0), (121, .iinc 6 (-1), 3, 124, 0), (124, .goto (-92), 3, 127, 32), (127, .iload 5, 2, 129, 0), (129, .iconst (-1), 1, 130, 0), (130, .if_icmp .ne 5, 3, 133, 135), (133, .iconst 0, 1, 134, 0), (134, .ireturn, 1, 135, 0), (135, .aload_n 2, 1, 136, 0), (136, .iload 4, 2, 138, 0), (138, .iload 5, 2, 140, 0), (140, .iastore, 1, 141, 0), (141, .iload_n 3, 1, 142, 0), (142, .iconst 1, 1, 143, 0), (143, .iload 5, 2, 145, 0)] = true := by decide +kernel
set_option maxRecDepth 20000 in
theorem k_X10_sort_2 : ckD cX10_sort [(145, .ishl, 1, 146, 0), (146, .iconst (-1), 1, 147, 0), (147, .ixor, 1, 148, 0), (148, .iand, 1, 149, 0), (149, .istore_n 3, 1, 150, 0), (150, .iinc 4 1, 3, 153, 0), (153, .goto (-141), 3, 156, 12), (156, .iconst 1, 1, 157, 0), (157, .ireturn, 1, 158, 0)] = true := by decide +kernel
def f_X10_sort_A12 (M_5 : Mm) : Option (Int32 × Mm) := some ((1 : Int32), M_5)
def f_X10_sort_A32 (k2 : Nat) (x3_2 : Int32) (x4_3 : Int32) (M_4 : Mm) (x5_10 : Int32) : Option ((Int32 × Int32 × Mm) ⊕ (Mm ⊕ (Int32 × Mm))) := if x5_10 = (-1 : Int32) then some (.inr (.inr ((0 : Int32), M_4))) else wrI 12 M_4 k2 x4_3 x5_10 fun M_12 => lt1 (x3_2 &&& (((1 : Int32) <<< (x5_10 &&& 31)) ^^^ (-1 : Int32))) fun x3_14 => lt1 (x4_3 + 1) fun x4_15 => some (.inl (x3_14, x4_15, M_12))
def f_X10_sort_J121 (x6_9 : Int32) (p5_21 : Int32) : Option ((Int32 × Int32) ⊕ Int32) := lt1 (x6_9 + (-1)) fun x6_22 => some (.inl (p5_21, x6_22))
def f_X10_sort_A57 (x5_8 : Int32) (x6_9 : Int32) (x7_20 : Int32) : Option ((Int32 × Int32) ⊕ Int32) := if x7_20 = 0 then f_X10_sort_J121 x6_9 x5_8 else f_X10_sort_J121 x6_9 x6_9
def f_X10_sort_J104 (x8_19 : Int32) (s_26 : Int32) : Option ((Int32 × Int32) ⊕ Int32) := lt1 (x8_19 + 1) fun x8_27 => some (.inl (s_26, x8_27))
def f_X10_sort_J99 (x8_19 : Int32) (_ : Unit) : Option ((Int32 × Int32) ⊕ Int32) := f_X10_sort_J104 x8_19 (1 : Int32)
def f_X10_sort_L57 (a1 : Int32) (x3_2 : Int32) (M_4 : Mm) (x6_9 : Int32) (x7_18 : Int32) (x8_19 : Int32) : Option ((Int32 × Int32) ⊕ Int32) := if (M_4.1 69 1) ≤ x8_19 then some (.inr x7_18) else if x7_18 = 0 then some (.inr x7_18) else if x8_19 = x6_9 then f_X10_sort_J99 x8_19 () else if ((x3_2 >>> (x8_19 &&& 31)) &&& (1 : Int32)) = 0 then f_X10_sort_J99 x8_19 () else (f_X10_ahead x8_19 x6_9 a1 M_4).bind fun r_31 => if r_31 = 0 then f_X10_sort_J99 x8_19 () else f_X10_sort_J104 x8_19 (0 : Int32)
def f_X10_sort_J52 (a1 : Int32) (x3_2 : Int32) (M_4 : Mm) (x5_8 : Int32) (x6_9 : Int32) (s_17 : Int32) : Option ((Int32 × Int32) ⊕ Int32) := (loop (fun v => f_X10_sort_L57 a1 x3_2 M_4 x6_9 v.1 v.2) FU (s_17, (0 : Int32))).bind fun z => f_X10_sort_A57 x5_8 x6_9 z
def f_X10_sort_L32 (a1 : Int32) (x3_2 : Int32) (M_4 : Mm) (x5_8 : Int32) (x6_9 : Int32) : Option ((Int32 × Int32) ⊕ Int32) := if x6_9 < 0 then some (.inr x5_8) else if ((x3_2 >>> (x6_9 &&& 31)) &&& (1 : Int32)) = (1 : Int32) then f_X10_sort_J52 a1 x3_2 M_4 x5_8 x6_9 (1 : Int32) else f_X10_sort_J52 a1 x3_2 M_4 x5_8 x6_9 (0 : Int32)
def f_X10_sort_L12 (a1 : Int32) (k2 : Nat) (x3_2 : Int32) (x4_3 : Int32) (M_4 : Mm) : Option ((Int32 × Int32 × Mm) ⊕ (Mm ⊕ (Int32 × Mm))) := if (M_4.1 69 1) ≤ x4_3 then some (.inr (.inl M_4)) else lt1 ((M_4.1 69 1) - (1 : Int32)) fun x6_7 => (loop (fun v => f_X10_sort_L32 a1 x3_2 M_4 v.1 v.2) FU ((-1 : Int32), x6_7)).bind fun z => f_X10_sort_A32 k2 x3_2 x4_3 M_4 z
def f_X10_sort (a1 : Int32) (k2 : Nat) (M : Mm) : Option (Int32 × Mm) := lt1 (((1 : Int32) <<< ((M.1 69 1) &&& 31)) - (1 : Int32)) fun x3_1 => (loop (fun v => f_X10_sort_L12 a1 k2 v.1 v.2.1 v.2.2) FU (x3_1, (0 : Int32), M)).bind fun x => Sum.elim (fun z => f_X10_sort_A12 z) (fun o => some o) x
set_option maxRecDepth 100000 in
set_option maxHeartbeats 4000000 in
theorem t_X10_sort {E : Ev} {l : Launch} (htr : l.stackTraces = false) (a1 : Int32) (k2 : Nat) (hk2 : LT[k2]? = some (0, 12, [])) (M : Mm) (r : (Int32 × Mm)) (hf : f_X10_sort a1 k2 M = some r) : CM E l 3 0 0 yX10_sort cX10_sort 9 (some .boolean) [.ref (E.1 + 69), .int a1, .ref (E.1 + k2)] M (some (.int r.1)) r.2 := by
  refine CM.of htr (by decide +kernel) (Nat.le_of_ble_eq_true rfl) ?_
  intro K hE hL hl hR0 C hr hRv
  subst hE
  subst hl
  have C : Cx K cX10_sort RX10 3 := C
  have hB : (0 : Nat) ≤ K.1.R.cells ∧ 0 ≤ K.1.R.slots := ⟨Nat.zero_le _, Nat.zero_le _⟩
  have hL3 : 3 < K.2.2.1 := by rw [hL]; decide
  have hL4 : 4 < K.2.2.1 := by rw [hL]; decide
  have hL5 : 5 < K.2.2.1 := by rw [hL]; decide
  have hL6 : 6 < K.2.2.1 := by rw [hL]; decide
  have hL7 : 7 < K.2.2.1 := by rw [hL]; decide
  have hL8 : 8 < K.2.2.1 := by rw [hL]; decide
  show G K (0, 0) 0 [(0, .ref (K.2.1.1 + 69)), (1, .int a1), (2, .ref (K.2.1.1 + k2))] [] M
  unfold f_X10_sort at hf
  refine g_iconst (v := (1 : Int32)) C (ckD_get k_X10_sort_0 0 rfl) (by decide) ?_
  refine g_aload_n 0 C (ckD_get k_X10_sort_0 1 rfl) rfl rfl ?_
  refine g_getI C (ckD_get k_X10_sort_0 2 rfl) fk_X10_124 T69 rfl ?_
  refine g_ishl C (ckD_get k_X10_sort_0 3 rfl) ?_
  refine g_iconst (v := (1 : Int32)) C (ckD_get k_X10_sort_0 4 rfl) (by decide) ?_
  refine g_isub C (ckD_get k_X10_sort_0 5 rfl) ?_
  obtain ⟨x3_1, ex3_1, hf⟩ := lt_e hf
  refine topI ex3_1 ?_
  refine g_istore_n (lv' := [(3, _), (0, _), (1, _), (2, _)]) C (ckD_get k_X10_sort_0 6 rfl) rfl hL3 rfl ?_
  refine g_iconst (v := (0 : Int32)) C (ckD_get k_X10_sort_0 7 rfl) (by decide) ?_
  refine g_istore (lv' := [(4, _), (3, _), (0, _), (1, _), (2, _)]) C (ckD_get k_X10_sort_0 8 rfl) hL4 rfl ?_
  refine G.sub [2, 3, 4, 1, 0] rfl ?_
  obtain ⟨xx_12, hx_12, hf⟩ := bd_e hf
  have hE_12 : ∀ (M_5 : Mm), xx_12 = .inl M_5 → G K (0, 0) 156 [] [] M_5 := by
    intro M_5 ex
    subst ex
    have hf : f_X10_sort_A12 M_5 = some r := hf
    unfold f_X10_sort_A12 at hf
    refine g_iconst (v := (1 : Int32)) C (ckD_get k_X10_sort_2 7 rfl) (by decide) ?_
    cases hf
    exact g_zret C (ckD_get k_X10_sort_2 8 rfl) hr rfl hRv (Nat.le_refl _) (Nat.le_refl _)
  have hO_12 : ∀ o, xx_12 = .inr o → o = r := by
    intro o eo
    subst eo
    have hf : some o = some r := hf
    cases hf
    rfl
  refine loop_e (x := xx_12) (P := fun (v : (Int32 × Int32 × Mm)) => G K (0, 0) 12 [(0, .ref (K.2.1.1 + 69)), (1, .int a1), (2, .ref (K.2.1.1 + k2)), (3, .int v.1), (4, .int v.2.1)] [] v.2.2) ?_ FU _ hx_12
  intro v rr_12 hf hn_12 hz_12
  obtain ⟨x3_2, x4_3, M_4⟩ := v
  have hf : f_X10_sort_L12 a1 k2 x3_2 x4_3 M_4 = some rr_12 := hf
  show G K (0, 0) 12 [(0, .ref (K.2.1.1 + 69)), (1, .int a1), (2, .ref (K.2.1.1 + k2)), (3, .int x3_2), (4, .int x4_3)] [] M_4
  unfold f_X10_sort_L12 at hf
  refine g_iload 4 C (ckD_get k_X10_sort_0 9 rfl) rfl ?_
  refine g_aload_n 0 C (ckD_get k_X10_sort_0 10 rfl) rfl rfl ?_
  refine g_getI C (ckD_get k_X10_sort_0 11 rfl) fk_X10_124 T69 rfl ?_
  refine g_icmp_ge C (ckD_get k_X10_sort_0 12 rfl) (fun c_6 => ?_) (fun c_6 => ?_)
  · have hf := if_t hf c_6
    refine G.sub [] rfl ?_
    cases hf
    exact hE_12 _ (hz_12 _ rfl).symm
  · have hf := if_f hf c_6
    refine g_iconst (v := (-1 : Int32)) C (ckD_get k_X10_sort_0 13 rfl) (by decide) ?_
    refine g_istore (lv' := [(5, _), (0, _), (1, _), (2, _), (3, _), (4, _)]) C (ckD_get k_X10_sort_0 14 rfl) hL5 rfl ?_
    refine g_aload_n 1 C (ckD_get k_X10_sort_0 15 rfl) rfl rfl ?_
    refine g_getI C (ckD_get k_X10_sort_0 16 rfl) fk_X10_124 T69 rfl ?_
    refine g_iconst (v := (1 : Int32)) C (ckD_get k_X10_sort_0 17 rfl) (by decide) ?_
    refine g_isub C (ckD_get k_X10_sort_0 18 rfl) ?_
    obtain ⟨x6_7, ex6_7, hf⟩ := lt_e hf
    refine topI ex6_7 ?_
    refine g_istore (lv' := [(6, _), (5, _), (0, _), (1, _), (2, _), (3, _), (4, _)]) C (ckD_get k_X10_sort_0 19 rfl) hL6 rfl ?_
    refine G.sub [2, 3, 4, 5, 6, 1, 0] rfl ?_
    obtain ⟨x5_10, hx_32, hf⟩ := bd_e hf
    have hE_32 : G K (0, 0) 127 [(0, .ref (K.2.1.1 + 69)), (1, .int a1), (2, .ref (K.2.1.1 + k2)), (3, .int x3_2), (4, .int x4_3), (5, .int x5_10)] [] M_4 := by
      have hf : f_X10_sort_A32 k2 x3_2 x4_3 M_4 x5_10 = some rr_12 := hf
      unfold f_X10_sort_A32 at hf
      refine g_iload 5 C (ckD_get k_X10_sort_1 28 rfl) rfl ?_
      refine g_iconst (v := (-1 : Int32)) C (ckD_get k_X10_sort_1 29 rfl) (by decide) ?_
      refine g_icmp_ne C (ckD_get k_X10_sort_1 30 rfl) (fun c_11 => ?_) (fun c_11 => ?_)
      · have hf := if_f hf c_11
        refine g_aload_n 2 C (ckD_get k_X10_sort_1 33 rfl) rfl rfl ?_
        refine g_iload 4 C (ckD_get k_X10_sort_1 34 rfl) rfl ?_
        refine g_iload 5 C (ckD_get k_X10_sort_1 35 rfl) rfl ?_
        obtain ⟨M_12, hi_13, eM_12, hf⟩ := wrI_e hf
        refine n_iast C (ckD_get k_X10_sort_1 36 rfl) hk2 hi_13 eM_12 ?_
        refine g_iload_n 3 C (ckD_get k_X10_sort_1 37 rfl) rfl rfl ?_
        refine g_iconst (v := (1 : Int32)) C (ckD_get k_X10_sort_1 38 rfl) (by decide) ?_
        refine g_iload 5 C (ckD_get k_X10_sort_1 39 rfl) rfl ?_
        refine g_ishl C (ckD_get k_X10_sort_2 0 rfl) ?_
        refine g_iconst (v := (-1 : Int32)) C (ckD_get k_X10_sort_2 1 rfl) (by decide) ?_
        refine g_ixor C (ckD_get k_X10_sort_2 2 rfl) ?_
        refine g_iand C (ckD_get k_X10_sort_2 3 rfl) ?_
        obtain ⟨x3_14, ex3_14, hf⟩ := lt_e hf
        refine topI ex3_14 ?_
        refine g_istore_n (lv' := [(3, _), (0, _), (1, _), (2, _), (4, _), (5, _)]) C (ckD_get k_X10_sort_2 4 rfl) rfl hL3 rfl ?_
        obtain ⟨x4_15, ex4_15, hf⟩ := lt_e hf
        refine g_iinc (lv' := [(4, _), (3, _), (0, _), (1, _), (2, _), (5, _)]) 4 C (ckD_get k_X10_sort_2 5 rfl) rfl ex4_15 hL4 rfl ?_
        refine g_goto C (ckD_get k_X10_sort_2 6 rfl) ?_
        refine G.sub [2, 3, 4, 1, 0] rfl ?_
        cases hf
        exact hn_12 _ rfl
      · have hf := if_t hf c_11
        refine g_iconst (v := (0 : Int32)) C (ckD_get k_X10_sort_1 31 rfl) (by decide) ?_
        cases hf
        cases hO_12 _ (hz_12 _ rfl).symm
        exact g_zret C (ckD_get k_X10_sort_1 32 rfl) hr rfl hRv (Nat.le_refl _) (Nat.le_refl _)
    refine loop_e (x := x5_10) (P := fun (v : (Int32 × Int32)) => G K (0, 0) 32 [(0, .ref (K.2.1.1 + 69)), (1, .int a1), (2, .ref (K.2.1.1 + k2)), (3, .int x3_2), (4, .int x4_3), (5, .int v.1), (6, .int v.2)] [] M_4) ?_ FU _ hx_32
    intro v rr_32 hf hn_32 hz_32
    obtain ⟨x5_8, x6_9⟩ := v
    have hf : f_X10_sort_L32 a1 x3_2 M_4 x5_8 x6_9 = some rr_32 := hf
    show G K (0, 0) 32 [(0, .ref (K.2.1.1 + 69)), (1, .int a1), (2, .ref (K.2.1.1 + k2)), (3, .int x3_2), (4, .int x4_3), (5, .int x5_8), (6, .int x6_9)] [] M_4
    unfold f_X10_sort_L32 at hf
    refine g_iload 6 C (ckD_get k_X10_sort_0 20 rfl) rfl ?_
    refine g_if_lt C (ckD_get k_X10_sort_0 21 rfl) (fun c_16 => ?_) (fun c_16 => ?_)
    · have hf := if_t hf c_16
      refine G.sub [0, 1, 2, 3, 4, 5] rfl ?_
      cases hf
      cases hz_32 _ rfl
      exact hE_32
    · have hf := if_f hf c_16
      refine g_iload_n 3 C (ckD_get k_X10_sort_0 22 rfl) rfl rfl ?_
      refine g_iload 6 C (ckD_get k_X10_sort_0 23 rfl) rfl ?_
      refine g_ishr C (ckD_get k_X10_sort_0 24 rfl) ?_
      refine g_iconst (v := (1 : Int32)) C (ckD_get k_X10_sort_0 25 rfl) (by decide) ?_
      refine g_iand C (ckD_get k_X10_sort_0 26 rfl) ?_
      refine g_iconst (v := (1 : Int32)) C (ckD_get k_X10_sort_0 27 rfl) (by decide) ?_
      have hJ_52 : ∀ (s_17 : Int32), f_X10_sort_J52 a1 x3_2 M_4 x5_8 x6_9 s_17 = some rr_32 → G K (0, 0) 52 [(0, .ref (K.2.1.1 + 69)), (1, .int a1), (2, .ref (K.2.1.1 + k2)), (3, .int x3_2), (4, .int x4_3), (5, .int x5_8), (6, .int x6_9)] [.int s_17] M_4 := by
        intro s_17 hf
        unfold f_X10_sort_J52 at hf
        refine g_istore (lv' := [(7, _), (0, _), (1, _), (2, _), (3, _), (4, _), (5, _), (6, _)]) C (ckD_get k_X10_sort_0 32 rfl) hL7 rfl ?_
        refine g_iconst (v := (0 : Int32)) C (ckD_get k_X10_sort_0 33 rfl) (by decide) ?_
        refine g_istore (lv' := [(8, _), (7, _), (0, _), (1, _), (2, _), (3, _), (4, _), (5, _), (6, _)]) C (ckD_get k_X10_sort_0 34 rfl) hL8 rfl ?_
        refine G.sub [2, 3, 4, 5, 6, 7, 8, 1, 0] rfl ?_
        obtain ⟨x7_20, hx_57, hf⟩ := bd_e hf
        have hE_57 : G K (0, 0) 112 [(0, .ref (K.2.1.1 + 69)), (1, .int a1), (2, .ref (K.2.1.1 + k2)), (3, .int x3_2), (4, .int x4_3), (5, .int x5_8), (6, .int x6_9), (7, .int x7_20)] [] M_4 := by
          have hf : f_X10_sort_A57 x5_8 x6_9 x7_20 = some rr_32 := hf
          unfold f_X10_sort_A57 at hf
          refine g_iload 7 C (ckD_get k_X10_sort_1 22 rfl) rfl ?_
          have hJ_121 : ∀ (p5_21 : Int32), f_X10_sort_J121 x6_9 p5_21 = some rr_32 → G K (0, 0) 121 [(0, .ref (K.2.1.1 + 69)), (1, .int a1), (2, .ref (K.2.1.1 + k2)), (3, .int x3_2), (4, .int x4_3), (5, .int p5_21), (6, .int x6_9)] [] M_4 := by
            intro p5_21 hf
            unfold f_X10_sort_J121 at hf
            obtain ⟨x6_22, ex6_22, hf⟩ := lt_e hf
            refine g_iinc (lv' := [(6, _), (0, _), (1, _), (2, _), (3, _), (4, _), (5, _)]) 6 C (ckD_get k_X10_sort_1 26 rfl) rfl ex6_22 hL6 rfl ?_
            refine g_goto C (ckD_get k_X10_sort_1 27 rfl) ?_
            refine G.sub [1, 2, 3, 4, 5, 6, 0] rfl ?_
            cases hf
            exact hn_32 _ rfl
          refine g_if_eq C (ckD_get k_X10_sort_1 23 rfl) (fun c_23 => ?_) (fun c_23 => ?_)
          · have hf := if_t hf c_23
            refine G.sub [0, 1, 2, 3, 4, 5, 6] rfl ?_
            exact hJ_121 _ hf
          · have hf := if_f hf c_23
            refine g_iload 6 C (ckD_get k_X10_sort_1 24 rfl) rfl ?_
            refine g_istore (lv' := [(5, _), (0, _), (1, _), (2, _), (3, _), (4, _), (6, _), (7, _)]) C (ckD_get k_X10_sort_1 25 rfl) hL5 rfl ?_
            refine G.sub [1, 2, 3, 4, 5, 0, 6] rfl ?_
            exact hJ_121 _ hf
        refine loop_e (x := x7_20) (P := fun (v : (Int32 × Int32)) => G K (0, 0) 57 [(0, .ref (K.2.1.1 + 69)), (1, .int a1), (2, .ref (K.2.1.1 + k2)), (3, .int x3_2), (4, .int x4_3), (5, .int x5_8), (6, .int x6_9), (7, .int v.1), (8, .int v.2)] [] M_4) ?_ FU _ hx_57
        intro v rr_57 hf hn_57 hz_57
        obtain ⟨x7_18, x8_19⟩ := v
        have hf : f_X10_sort_L57 a1 x3_2 M_4 x6_9 x7_18 x8_19 = some rr_57 := hf
        show G K (0, 0) 57 [(0, .ref (K.2.1.1 + 69)), (1, .int a1), (2, .ref (K.2.1.1 + k2)), (3, .int x3_2), (4, .int x4_3), (5, .int x5_8), (6, .int x6_9), (7, .int x7_18), (8, .int x8_19)] [] M_4
        unfold f_X10_sort_L57 at hf
        refine g_iload 8 C (ckD_get k_X10_sort_0 35 rfl) rfl ?_
        refine g_aload_n 0 C (ckD_get k_X10_sort_0 36 rfl) rfl rfl ?_
        refine g_getI C (ckD_get k_X10_sort_0 37 rfl) fk_X10_124 T69 rfl ?_
        refine g_icmp_ge C (ckD_get k_X10_sort_0 38 rfl) (fun c_24 => ?_) (fun c_24 => ?_)
        · have hf := if_t hf c_24
          refine G.sub [0, 1, 2, 3, 4, 5, 6, 7] rfl ?_
          cases hf
          cases hz_57 _ rfl
          exact hE_57
        · have hf := if_f hf c_24
          refine g_iload 7 C (ckD_get k_X10_sort_0 39 rfl) rfl ?_
          refine g_if_eq C (ckD_get k_X10_sort_1 0 rfl) (fun c_25 => ?_) (fun c_25 => ?_)
          · have hf := if_t hf c_25
            refine G.sub [0, 1, 2, 3, 4, 5, 6, 7] rfl ?_
            cases hf
            cases hz_57 _ rfl
            exact hE_57
          · have hf := if_f hf c_25
            refine g_iload 8 C (ckD_get k_X10_sort_1 1 rfl) rfl ?_
            refine g_iload 6 C (ckD_get k_X10_sort_1 2 rfl) rfl ?_
            have hJ_104 : ∀ (s_26 : Int32), f_X10_sort_J104 x8_19 s_26 = some rr_57 → G K (0, 0) 104 [(0, .ref (K.2.1.1 + 69)), (1, .int a1), (2, .ref (K.2.1.1 + k2)), (3, .int x3_2), (4, .int x4_3), (5, .int x5_8), (6, .int x6_9), (8, .int x8_19)] [.int s_26] M_4 := by
              intro s_26 hf
              unfold f_X10_sort_J104 at hf
              refine g_istore (lv' := [(7, _), (0, _), (1, _), (2, _), (3, _), (4, _), (5, _), (6, _), (8, _)]) C (ckD_get k_X10_sort_1 19 rfl) hL7 rfl ?_
              obtain ⟨x8_27, ex8_27, hf⟩ := lt_e hf
              refine g_iinc (lv' := [(8, _), (7, _), (0, _), (1, _), (2, _), (3, _), (4, _), (5, _), (6, _)]) 8 C (ckD_get k_X10_sort_1 20 rfl) rfl ex8_27 hL8 rfl ?_
              refine g_goto C (ckD_get k_X10_sort_1 21 rfl) ?_
              refine G.sub [2, 3, 4, 5, 6, 7, 8, 1, 0] rfl ?_
              cases hf
              exact hn_57 _ rfl
            have hJ_99 : ∀ (_ : Unit), f_X10_sort_J99 x8_19 () = some rr_57 → G K (0, 0) 99 [(0, .ref (K.2.1.1 + 69)), (1, .int a1), (2, .ref (K.2.1.1 + k2)), (3, .int x3_2), (4, .int x4_3), (5, .int x5_8), (6, .int x6_9), (8, .int x8_19)] [] M_4 := by
              intro _ hf
              unfold f_X10_sort_J99 at hf
              refine g_iconst (v := (1 : Int32)) C (ckD_get k_X10_sort_1 16 rfl) (by decide) ?_
              refine g_goto C (ckD_get k_X10_sort_1 17 rfl) ?_
              exact hJ_104 _ hf
            refine g_icmp_eq C (ckD_get k_X10_sort_1 3 rfl) (fun c_28 => ?_) (fun c_28 => ?_)
            · have hf := if_t hf c_28
              refine G.sub [0, 1, 2, 3, 4, 5, 6, 8] rfl ?_
              exact hJ_99 () hf
            · have hf := if_f hf c_28
              refine g_iload_n 3 C (ckD_get k_X10_sort_1 4 rfl) rfl rfl ?_
              refine g_iload 8 C (ckD_get k_X10_sort_1 5 rfl) rfl ?_
              refine g_ishr C (ckD_get k_X10_sort_1 6 rfl) ?_
              refine g_iconst (v := (1 : Int32)) C (ckD_get k_X10_sort_1 7 rfl) (by decide) ?_
              refine g_iand C (ckD_get k_X10_sort_1 8 rfl) ?_
              refine g_if_eq C (ckD_get k_X10_sort_1 9 rfl) (fun c_29 => ?_) (fun c_29 => ?_)
              · have hf := if_t hf c_29
                refine G.sub [0, 1, 2, 3, 4, 5, 6, 8] rfl ?_
                exact hJ_99 () hf
              · have hf := if_f hf c_29
                refine g_aload_n 0 C (ckD_get k_X10_sort_1 10 rfl) rfl rfl ?_
                refine g_iload 8 C (ckD_get k_X10_sort_1 11 rfl) rfl ?_
                refine g_iload 6 C (ckD_get k_X10_sort_1 12 rfl) rfl ?_
                refine g_iload_n 1 C (ckD_get k_X10_sort_1 13 rfl) rfl rfl ?_
                obtain ⟨r_31, hr_30, hf⟩ := bd_e hf
                refine n_cV [.int x8_19, .int x6_9, .int a1] [] C (ckD_get k_X10_sort_1 14 rfl) vk_X10_248 (t_X10_ahead C.tr _ _ _ _ _ hr_30) T69 rfl rfl (Nat.le_of_ble_eq_true rfl) (by decide) hB rfl ?_
                refine g_if_ne C (ckD_get k_X10_sort_1 15 rfl) (fun c_32 => ?_) (fun c_32 => ?_)
                · have hf := if_f hf c_32
                  refine g_iconst (v := (0 : Int32)) C (ckD_get k_X10_sort_1 18 rfl) (by decide) ?_
                  refine G.sub [0, 1, 2, 3, 4, 5, 6, 8] rfl ?_
                  exact hJ_104 _ hf
                · have hf := if_t hf c_32
                  refine G.sub [0, 1, 2, 3, 4, 5, 6, 8] rfl ?_
                  exact hJ_99 () hf
      refine g_icmp_ne C (ckD_get k_X10_sort_0 28 rfl) (fun c_33 => ?_) (fun c_33 => ?_)
      · have hf := if_f hf c_33
        refine g_iconst (v := (0 : Int32)) C (ckD_get k_X10_sort_0 31 rfl) (by decide) ?_
        exact hJ_52 _ hf
      · have hf := if_t hf c_33
        refine g_iconst (v := (1 : Int32)) C (ckD_get k_X10_sort_0 29 rfl) (by decide) ?_
        refine g_goto C (ckD_get k_X10_sort_0 30 rfl) ?_
        exact hJ_52 _ hf

set_option maxRecDepth 20000 in
theorem k_X10_from_0 : ckD cX10_from [(0, .aload_n 0, 1, 1, 0), (1, .iconst 0, 1, 2, 0), (2, .putfield 121, 3, 5, 0), (5, .aload_n 0, 1, 6, 0), (6, .getfield 23, 3, 9, 0), (9, .iconst (-1), 1, 10, 0), (10, .if_icmp .eq 34, 3, 13, 44), (13, .aload_n 0, 1, 14, 0), (14, .invokevirtual 233, 3, 17, 0), (17, .ifCond .ne 27, 3, 20, 44), (20, .aload_n 0, 1, 21, 0), (21, .iconst 1, 1, 22, 0), (22, .aload_n 0, 1, 23, 0), (23, .getfield 48, 3, 26, 0), (26, .invokevirtual 251, 3, 29, 0), (29, .ifCond .eq 15, 3, 32, 44), (32, .aload_n 0, 1, 33, 0), (33, .iconst 0, 1, 34, 0), (34, .aload_n 0, 1, 35, 0), (35, .getfield 51, 3, 38, 0), (38, .invokevirtual 251, 3, 41, 0), (41, .ifCond .ne 5, 3, 44, 46), (44, .iconst 0, 1, 45, 0), (45, .ireturn, 1, 46, 0), (46, .iconst 0, 1, 47, 0), (47, .istore_n 1, 1, 48, 0), (48, .iload_n 1, 1, 49, 0), (49, .aload_n 0, 1, 50, 0), (50, .getfield 124, 3, 53, 0), (53, .if_icmp .ge 33, 3, 56, 86), (56, .aload_n 0, 1, 57, 0), (57, .getfield 33, 3, 60, 0), (60, .iload_n 1, 1, 61, 0), (61, .aload_n 0, 1, 62, 0), (62, .getfield 48, 3, 65, 0), (65, .iload_n 1, 1, 66, 0), (66, .iaload, 1, 67, 0), (67, .iastore, 1, 68, 0), (68, .aload_n 0, 1, 69, 0), (69, .getfield 36, 3, 72, 0)] = true := by decide +kernel
set_option maxRecDepth 20000 in
theorem k_X10_from_1 : ckD cX10_from [(72, .iload_n 1, 1, 73, 0), (73, .aload_n 0, 1, 74, 0), (74, .getfield 51, 3, 77, 0), (77, .iload_n 1, 1, 78, 0), (78, .iaload, 1, 79, 0), (79, .iastore, 1, 80, 0), (80, .iinc 1 1, 3, 83, 0), (83, .goto (-35), 3, 86, 48), (86, .aload_n 0, 1, 87, 0), (87, .invokevirtual 172, 3, 90, 0), (90, .iconst 1, 1, 91, 0), (91, .ireturn, 1, 92, 0)] = true := by decide +kernel
def f_X10_from_A48 (M_17 : Mm) : Option (Int32 × Mm) := (f_X10_layPair M_17).bind fun M_19 => some ((1 : Int32), M_19)
def f_X10_from_L48 (x1_15 : Int32) (M_16 : Mm) : Option ((Int32 × Mm) ⊕ Mm) := if (M_16.1 69 1) ≤ x1_15 then some (.inr M_16) else rdI 12 M_16 81 x1_15 fun v_21 => wrI 12 M_16 76 x1_15 v_21 fun M_23 => rdI 12 M_23 82 x1_15 fun v_25 => wrI 12 M_23 77 x1_15 v_25 fun M_27 => lt1 (x1_15 + 1) fun x1_29 => some (.inl (x1_29, M_27))
def f_X10_from  (M : Mm) : Option (Int32 × Mm) := lt1 (wi M 69 0 (0 : Int32)) fun M_1 => if (M_1.1 69 6) = (-1 : Int32) then some ((0 : Int32), M_1) else bd2 (f_X10_clashes M_1) fun r_5 M_4 => if r_5 = 0 then bd2 (f_X10_sort (1 : Int32) 81 M_4) fun r_9 M_8 => if r_9 = 0 then some ((0 : Int32), M_8) else bd2 (f_X10_sort (0 : Int32) 82 M_8) fun r_13 M_12 => if r_13 = 0 then some ((0 : Int32), M_12) else (loop (fun v => f_X10_from_L48 v.1 v.2) FU ((0 : Int32), M_12)).bind fun z => f_X10_from_A48 z else some ((0 : Int32), M_4)
set_option maxRecDepth 100000 in
set_option maxHeartbeats 4000000 in
theorem t_X10_from {E : Ev} {l : Launch} (htr : l.stackTraces = false) (M : Mm) (r : (Int32 × Mm)) (hf : f_X10_from M = some r) : CM E l 4 0 0 yX10_from cX10_from 2 (some .boolean) [.ref (E.1 + 69)] M (some (.int r.1)) r.2 := by
  refine CM.of htr (by decide +kernel) (Nat.le_of_ble_eq_true rfl) ?_
  intro K hE hL hl hR0 C hr hRv
  subst hE
  subst hl
  have C : Cx K cX10_from RX10 4 := C
  have hB : (0 : Nat) ≤ K.1.R.cells ∧ 0 ≤ K.1.R.slots := ⟨Nat.zero_le _, Nat.zero_le _⟩
  have hL1 : 1 < K.2.2.1 := by rw [hL]; decide
  show G K (0, 0) 0 [(0, .ref (K.2.1.1 + 69))] [] M
  unfold f_X10_from at hf
  refine g_aload_n 0 C (ckD_get k_X10_from_0 0 rfl) rfl rfl ?_
  refine g_iconst (v := (0 : Int32)) C (ckD_get k_X10_from_0 1 rfl) (by decide) ?_
  obtain ⟨M_1, eM_1, hf⟩ := lt_e hf
  refine g_putI C (ckD_get k_X10_from_0 2 rfl) fk_X10_121 T69 rfl ?_
  refine memI eM_1 ?_
  refine g_aload_n 0 C (ckD_get k_X10_from_0 3 rfl) rfl rfl ?_
  refine g_getI C (ckD_get k_X10_from_0 4 rfl) fk_X10_23 T69 rfl ?_
  refine g_iconst (v := (-1 : Int32)) C (ckD_get k_X10_from_0 5 rfl) (by decide) ?_
  refine g_icmp_eq C (ckD_get k_X10_from_0 6 rfl) (fun c_2 => ?_) (fun c_2 => ?_)
  · have hf := if_t hf c_2
    refine g_iconst (v := (0 : Int32)) C (ckD_get k_X10_from_0 22 rfl) (by decide) ?_
    cases hf
    exact g_zret C (ckD_get k_X10_from_0 23 rfl) hr rfl hRv (Nat.le_refl _) (Nat.le_refl _)
  · have hf := if_f hf c_2
    refine g_aload_n 0 C (ckD_get k_X10_from_0 7 rfl) rfl rfl ?_
    obtain ⟨r_5, M_4, hr_3, hf⟩ := bd2_e hf
    refine n_cV [] [] C (ckD_get k_X10_from_0 8 rfl) vk_X10_233 (t_X10_clashes C.tr _ _ hr_3) T69 rfl rfl (Nat.le_of_ble_eq_true rfl) (by decide) hB rfl ?_
    refine g_if_ne C (ckD_get k_X10_from_0 9 rfl) (fun c_6 => ?_) (fun c_6 => ?_)
    · have hf := if_f hf c_6
      refine g_iconst (v := (0 : Int32)) C (ckD_get k_X10_from_0 22 rfl) (by decide) ?_
      cases hf
      exact g_zret C (ckD_get k_X10_from_0 23 rfl) hr rfl hRv (Nat.le_refl _) (Nat.le_refl _)
    · have hf := if_t hf c_6
      refine g_aload_n 0 C (ckD_get k_X10_from_0 10 rfl) rfl rfl ?_
      refine g_iconst (v := (1 : Int32)) C (ckD_get k_X10_from_0 11 rfl) (by decide) ?_
      refine g_aload_n 0 C (ckD_get k_X10_from_0 12 rfl) rfl rfl ?_
      refine g_getR C (ckD_get k_X10_from_0 13 rfl) fk_X10_48 T69 rfl ?_
      obtain ⟨r_9, M_8, hr_7, hf⟩ := bd2_e hf
      refine n_cV [.int (1 : Int32), .ref (K.2.1.1 + 81)] [] C (ckD_get k_X10_from_0 14 rfl) vk_X10_251 (t_X10_sort C.tr _ _ T81 _ _ hr_7) T69 rfl rfl (Nat.le_of_ble_eq_true rfl) (by decide) hB rfl ?_
      refine g_if_eq C (ckD_get k_X10_from_0 15 rfl) (fun c_10 => ?_) (fun c_10 => ?_)
      · have hf := if_t hf c_10
        refine g_iconst (v := (0 : Int32)) C (ckD_get k_X10_from_0 22 rfl) (by decide) ?_
        cases hf
        exact g_zret C (ckD_get k_X10_from_0 23 rfl) hr rfl hRv (Nat.le_refl _) (Nat.le_refl _)
      · have hf := if_f hf c_10
        refine g_aload_n 0 C (ckD_get k_X10_from_0 16 rfl) rfl rfl ?_
        refine g_iconst (v := (0 : Int32)) C (ckD_get k_X10_from_0 17 rfl) (by decide) ?_
        refine g_aload_n 0 C (ckD_get k_X10_from_0 18 rfl) rfl rfl ?_
        refine g_getR C (ckD_get k_X10_from_0 19 rfl) fk_X10_51 T69 rfl ?_
        obtain ⟨r_13, M_12, hr_11, hf⟩ := bd2_e hf
        refine n_cV [.int (0 : Int32), .ref (K.2.1.1 + 82)] [] C (ckD_get k_X10_from_0 20 rfl) vk_X10_251 (t_X10_sort C.tr _ _ T82 _ _ hr_11) T69 rfl rfl (Nat.le_of_ble_eq_true rfl) (by decide) hB rfl ?_
        refine g_if_ne C (ckD_get k_X10_from_0 21 rfl) (fun c_14 => ?_) (fun c_14 => ?_)
        · have hf := if_f hf c_14
          refine g_iconst (v := (0 : Int32)) C (ckD_get k_X10_from_0 24 rfl) (by decide) ?_
          refine g_istore_n (lv' := [(1, _), (0, _)]) C (ckD_get k_X10_from_0 25 rfl) rfl hL1 rfl ?_
          refine G.sub [1, 0] rfl ?_
          obtain ⟨M_17, hx_48, hf⟩ := bd_e hf
          have hE_48 : G K (0, 0) 86 [(0, .ref (K.2.1.1 + 69))] [] M_17 := by
            have hf : f_X10_from_A48 M_17 = some r := hf
            unfold f_X10_from_A48 at hf
            refine g_aload_n 0 C (ckD_get k_X10_from_1 8 rfl) rfl rfl ?_
            obtain ⟨M_19, hr_18, hf⟩ := bd_e hf
            refine n_cV [] [] C (ckD_get k_X10_from_1 9 rfl) vk_X10_172 (t_X10_layPair C.tr _ _ hr_18) T69 rfl rfl (Nat.le_of_ble_eq_true rfl) (by decide) hB rfl ?_
            refine g_iconst (v := (1 : Int32)) C (ckD_get k_X10_from_1 10 rfl) (by decide) ?_
            cases hf
            exact g_zret C (ckD_get k_X10_from_1 11 rfl) hr rfl hRv (Nat.le_refl _) (Nat.le_refl _)
          refine loop_e (x := M_17) (P := fun (v : (Int32 × Mm)) => G K (0, 0) 48 [(0, .ref (K.2.1.1 + 69)), (1, .int v.1)] [] v.2) ?_ FU _ hx_48
          intro v rr_48 hf hn_48 hz_48
          obtain ⟨x1_15, M_16⟩ := v
          have hf : f_X10_from_L48 x1_15 M_16 = some rr_48 := hf
          show G K (0, 0) 48 [(0, .ref (K.2.1.1 + 69)), (1, .int x1_15)] [] M_16
          unfold f_X10_from_L48 at hf
          refine g_iload_n 1 C (ckD_get k_X10_from_0 26 rfl) rfl rfl ?_
          refine g_aload_n 0 C (ckD_get k_X10_from_0 27 rfl) rfl rfl ?_
          refine g_getI C (ckD_get k_X10_from_0 28 rfl) fk_X10_124 T69 rfl ?_
          refine g_icmp_ge C (ckD_get k_X10_from_0 29 rfl) (fun c_20 => ?_) (fun c_20 => ?_)
          · have hf := if_t hf c_20
            refine G.sub [0] rfl ?_
            cases hf
            cases hz_48 _ rfl
            exact hE_48
          · have hf := if_f hf c_20
            refine g_aload_n 0 C (ckD_get k_X10_from_0 30 rfl) rfl rfl ?_
            refine g_getR C (ckD_get k_X10_from_0 31 rfl) fk_X10_33 T69 rfl ?_
            refine g_iload_n 1 C (ckD_get k_X10_from_0 32 rfl) rfl rfl ?_
            refine g_aload_n 0 C (ckD_get k_X10_from_0 33 rfl) rfl rfl ?_
            refine g_getR C (ckD_get k_X10_from_0 34 rfl) fk_X10_48 T69 rfl ?_
            refine g_iload_n 1 C (ckD_get k_X10_from_0 35 rfl) rfl rfl ?_
            obtain ⟨v_21, hi_22, ev_21, hf⟩ := rdI_e hf
            refine n_iald C (ckD_get k_X10_from_0 36 rfl) T81 hi_22 ev_21 ?_
            obtain ⟨M_23, hi_24, eM_23, hf⟩ := wrI_e hf
            refine n_iast C (ckD_get k_X10_from_0 37 rfl) T76 hi_24 eM_23 ?_
            refine g_aload_n 0 C (ckD_get k_X10_from_0 38 rfl) rfl rfl ?_
            refine g_getR C (ckD_get k_X10_from_0 39 rfl) fk_X10_36 T69 rfl ?_
            refine g_iload_n 1 C (ckD_get k_X10_from_1 0 rfl) rfl rfl ?_
            refine g_aload_n 0 C (ckD_get k_X10_from_1 1 rfl) rfl rfl ?_
            refine g_getR C (ckD_get k_X10_from_1 2 rfl) fk_X10_51 T69 rfl ?_
            refine g_iload_n 1 C (ckD_get k_X10_from_1 3 rfl) rfl rfl ?_
            obtain ⟨v_25, hi_26, ev_25, hf⟩ := rdI_e hf
            refine n_iald C (ckD_get k_X10_from_1 4 rfl) T82 hi_26 ev_25 ?_
            obtain ⟨M_27, hi_28, eM_27, hf⟩ := wrI_e hf
            refine n_iast C (ckD_get k_X10_from_1 5 rfl) T77 hi_28 eM_27 ?_
            obtain ⟨x1_29, ex1_29, hf⟩ := lt_e hf
            refine g_iinc (lv' := [(1, _), (0, _)]) 1 C (ckD_get k_X10_from_1 6 rfl) rfl ex1_29 hL1 rfl ?_
            refine g_goto C (ckD_get k_X10_from_1 7 rfl) ?_
            refine G.sub [1, 0] rfl ?_
            cases hf
            exact hn_48 _ rfl
        · have hf := if_t hf c_14
          refine g_iconst (v := (0 : Int32)) C (ckD_get k_X10_from_0 22 rfl) (by decide) ?_
          cases hf
          exact g_zret C (ckD_get k_X10_from_0 23 rfl) hr rfl hRv (Nat.le_refl _) (Nat.le_refl _)

set_option maxRecDepth 20000 in
theorem k_X10_add_0 : ckD cX10_add [(0, .iconst 0, 1, 1, 0), (1, .istore_n 3, 1, 2, 0), (2, .iload_n 3, 1, 3, 0), (3, .aload_n 0, 1, 4, 0), (4, .getfield 269, 3, 7, 0), (7, .if_icmp .ge 30, 3, 10, 37), (10, .aload_n 0, 1, 11, 0), (11, .getfield 57, 3, 14, 0), (14, .iload_n 3, 1, 15, 0), (15, .iaload, 1, 16, 0), (16, .iload_n 1, 1, 17, 0), (17, .if_icmp .gt 14, 3, 20, 31), (20, .aload_n 0, 1, 21, 0), (21, .getfield 60, 3, 24, 0), (24, .iload_n 3, 1, 25, 0), (25, .iaload, 1, 26, 0), (26, .iload_n 2, 1, 27, 0), (27, .if_icmp .gt 4, 3, 30, 31), (30, .return_, 1, 31, 0), (31, .iinc 3 1, 3, 34, 0), (34, .goto (-32), 3, 37, 2), (37, .iconst 0, 1, 38, 0), (38, .istore_n 3, 1, 39, 0), (39, .iconst 0, 1, 40, 0), (40, .istore 4, 2, 42, 0), (42, .iload 4, 2, 44, 0), (44, .aload_n 0, 1, 45, 0), (45, .getfield 269, 3, 48, 0), (48, .if_icmp .ge 63, 3, 51, 111), (51, .aload_n 0, 1, 52, 0), (52, .getfield 57, 3, 55, 0), (55, .iload 4, 2, 57, 0), (57, .iaload, 1, 58, 0), (58, .iload_n 1, 1, 59, 0), (59, .if_icmp .lt 17, 3, 62, 76), (62, .aload_n 0, 1, 63, 0), (63, .getfield 60, 3, 66, 0), (66, .iload 4, 2, 68, 0), (68, .iaload, 1, 69, 0), (69, .iload_n 2, 1, 70, 0)] = true := by decide +kernel
set_option maxRecDepth 20000 in
theorem k_X10_add_1 : ckD cX10_add [(70, .if_icmp .lt 6, 3, 73, 76), (73, .goto 32, 3, 76, 105), (76, .aload_n 0, 1, 77, 0), (77, .getfield 57, 3, 80, 0), (80, .iload_n 3, 1, 81, 0), (81, .aload_n 0, 1, 82, 0), (82, .getfield 57, 3, 85, 0), (85, .iload 4, 2, 87, 0), (87, .iaload, 1, 88, 0), (88, .iastore, 1, 89, 0), (89, .aload_n 0, 1, 90, 0), (90, .getfield 60, 3, 93, 0), (93, .iload_n 3, 1, 94, 0), (94, .aload_n 0, 1, 95, 0), (95, .getfield 60, 3, 98, 0), (98, .iload 4, 2, 100, 0), (100, .iaload, 1, 101, 0), (101, .iastore, 1, 102, 0), (102, .iinc 3 1, 3, 105, 0), (105, .iinc 4 1, 3, 108, 0), (108, .goto (-66), 3, 111, 42), (111, .aload_n 0, 1, 112, 0), (112, .iload_n 3, 1, 113, 0), (113, .putfield 269, 3, 116, 0), (116, .iload_n 3, 1, 117, 0), (117, .ifCond .le 49, 3, 120, 166), (120, .aload_n 0, 1, 121, 0), (121, .getfield 57, 3, 124, 0), (124, .iload_n 3, 1, 125, 0), (125, .iconst 1, 1, 126, 0), (126, .isub, 1, 127, 0), (127, .iaload, 1, 128, 0), (128, .iload_n 1, 1, 129, 0), (129, .if_icmp .le 37, 3, 132, 166), (132, .aload_n 0, 1, 133, 0), (133, .getfield 57, 3, 136, 0), (136, .iload_n 3, 1, 137, 0), (137, .aload_n 0, 1, 138, 0), (138, .getfield 57, 3, 141, 0), (141, .iload_n 3, 1, 142, 0)] = true := by decide +kernel
set_option maxRecDepth 20000 in
theorem k_X10_add_2 : ckD cX10_add [(142, .iconst 1, 1, 143, 0), (143, .isub, 1, 144, 0), (144, .iaload, 1, 145, 0), (145, .iastore, 1, 146, 0), (146, .aload_n 0, 1, 147, 0), (147, .getfield 60, 3, 150, 0), (150, .iload_n 3, 1, 151, 0), (151, .aload_n 0, 1, 152, 0), (152, .getfield 60, 3, 155, 0), (155, .iload_n 3, 1, 156, 0), (156, .iconst 1, 1, 157, 0), (157, .isub, 1, 158, 0), (158, .iaload, 1, 159, 0), (159, .iastore, 1, 160, 0), (160, .iinc 3 (-1), 3, 163, 0), (163, .goto (-47), 3, 166, 116), (166, .aload_n 0, 1, 167, 0), (167, .getfield 57, 3, 170, 0), (170, .iload_n 3, 1, 171, 0), (171, .iload_n 1, 1, 172, 0), (172, .iastore, 1, 173, 0), (173, .aload_n 0, 1, 174, 0), (174, .getfield 60, 3, 177, 0), (177, .iload_n 3, 1, 178, 0), (178, .iload_n 2, 1, 179, 0), (179, .iastore, 1, 180, 0), (180, .aload_n 0, 1, 181, 0), (181, .dup, 1, 182, 0), (182, .getfield 269, 3, 185, 0), (185, .iconst 1, 1, 186, 0), (186, .iadd, 1, 187, 0), (187, .putfield 269, 3, 190, 0), (190, .return_, 1, 191, 0)] = true := by decide +kernel
def f_X10_add_A116 (a1 : Int32) (a2 : Int32) (x3_10 : Int32) (M_11 : Mm) : Option Mm := wrI 4096 M_11 84 x3_10 a1 fun M_12 => wrI 4096 M_12 85 x3_10 a2 fun M_14 => lt1 (wi M_14 69 21 ((M_14.1 69 21) + (1 : Int32))) fun M_16 => some M_16
def f_X10_add_L116 (a1 : Int32) (x3_8 : Int32) (M_9 : Mm) : Option ((Int32 × Mm) ⊕ (Int32 × Mm)) := if x3_8 ≤ 0 then some (.inr (x3_8, M_9)) else rdI 4096 M_9 84 (x3_8 - (1 : Int32)) fun v_18 => if v_18 ≤ a1 then some (.inr (x3_8, M_9)) else rdI 4096 M_9 84 (x3_8 - (1 : Int32)) fun v_21 => wrI 4096 M_9 84 x3_8 v_21 fun M_23 => rdI 4096 M_23 85 (x3_8 - (1 : Int32)) fun v_25 => wrI 4096 M_23 85 x3_8 v_25 fun M_27 => lt1 (x3_8 + (-1)) fun x3_29 => some (.inl (x3_29, M_27))
def f_X10_add_A42 (a1 : Int32) (a2 : Int32) (x3_5 : Int32) (M_6 : Mm) : Option Mm := lt1 (wi M_6 69 21 x3_5) fun M_7 => (loop (fun v => f_X10_add_L116 a1 v.1 v.2) FU (x3_5, M_7)).bind fun z => f_X10_add_A116 a1 a2 z.1 z.2
def f_X10_add_J105 (x4_3 : Int32) (p3_33 : Int32) (M_34 : Mm) : Option ((Int32 × Int32 × Mm) ⊕ (Int32 × Mm)) := lt1 (x4_3 + 1) fun x4_35 => some (.inl (p3_33, x4_35, M_34))
def f_X10_add_J76 (x3_2 : Int32) (x4_3 : Int32) (M_4 : Mm) (_ : Unit) : Option ((Int32 × Int32 × Mm) ⊕ (Int32 × Mm)) := rdI 4096 M_4 84 x4_3 fun v_36 => wrI 4096 M_4 84 x3_2 v_36 fun M_38 => rdI 4096 M_38 85 x4_3 fun v_40 => wrI 4096 M_38 85 x3_2 v_40 fun M_42 => lt1 (x3_2 + 1) fun x3_44 => f_X10_add_J105 x4_3 x3_44 M_42
def f_X10_add_L42 (a1 : Int32) (a2 : Int32) (x3_2 : Int32) (x4_3 : Int32) (M_4 : Mm) : Option ((Int32 × Int32 × Mm) ⊕ (Int32 × Mm)) := if (M_4.1 69 21) ≤ x4_3 then some (.inr (x3_2, M_4)) else rdI 4096 M_4 84 x4_3 fun v_31 => if v_31 < a1 then f_X10_add_J76 x3_2 x4_3 M_4 () else rdI 4096 M_4 85 x4_3 fun v_46 => if v_46 < a2 then f_X10_add_J76 x3_2 x4_3 M_4 () else f_X10_add_J105 x4_3 x3_2 M_4
def f_X10_add_A2 (a1 : Int32) (a2 : Int32) (M : Mm) : Option Mm := (loop (fun v => f_X10_add_L42 a1 a2 v.1 v.2.1 v.2.2) FU ((0 : Int32), (0 : Int32), M)).bind fun z => f_X10_add_A42 a1 a2 z.1 z.2
def f_X10_add_J31 (x3_1 : Int32) (_ : Unit) : Option (Int32 ⊕ (Unit ⊕ Mm)) := lt1 (x3_1 + 1) fun x3_52 => some (.inl x3_52)
def f_X10_add_L2 (a1 : Int32) (a2 : Int32) (M : Mm) (x3_1 : Int32) : Option (Int32 ⊕ (Unit ⊕ Mm)) := if (M.1 69 21) ≤ x3_1 then some (.inr (.inl ())) else rdI 4096 M 84 x3_1 fun v_50 => if a1 < v_50 then f_X10_add_J31 x3_1 () else rdI 4096 M 85 x3_1 fun v_54 => if a2 < v_54 then f_X10_add_J31 x3_1 () else some (.inr (.inr M))
def f_X10_add (a1 : Int32) (a2 : Int32) (M : Mm) : Option Mm := (loop (fun v => f_X10_add_L2 a1 a2 M v) FU (0 : Int32)).bind fun x => Sum.elim (fun z => f_X10_add_A2 a1 a2 M ) (fun o => some o) x
set_option maxRecDepth 100000 in
set_option maxHeartbeats 4000000 in
theorem t_X10_add {E : Ev} {l : Launch} (htr : l.stackTraces = false) (a1 : Int32) (a2 : Int32) (M : Mm) (r : Mm) (hf : f_X10_add a1 a2 M = some r) : CM E l 0 0 0 yX10_add cX10_add 5 none [.ref (E.1 + 69), .int a1, .int a2] M none r := by
  refine CM.of htr (by decide +kernel) (Nat.le_of_ble_eq_true rfl) ?_
  intro K hE hL hl hR0 C hr hRv
  subst hE
  subst hl
  have C : Cx K cX10_add RX10 0 := C
  have hB : (0 : Nat) ≤ K.1.R.cells ∧ 0 ≤ K.1.R.slots := ⟨Nat.zero_le _, Nat.zero_le _⟩
  have hL3 : 3 < K.2.2.1 := by rw [hL]; decide
  have hL4 : 4 < K.2.2.1 := by rw [hL]; decide
  show G K (0, 0) 0 [(0, .ref (K.2.1.1 + 69)), (1, .int a1), (2, .int a2)] [] M
  unfold f_X10_add at hf
  refine g_iconst (v := (0 : Int32)) C (ckD_get k_X10_add_0 0 rfl) (by decide) ?_
  refine g_istore_n (lv' := [(3, _), (0, _), (1, _), (2, _)]) C (ckD_get k_X10_add_0 1 rfl) rfl hL3 rfl ?_
  refine G.sub [1, 2, 3, 0] rfl ?_
  obtain ⟨xx_2, hx_2, hf⟩ := bd_e hf
  have hE_2 : ∀ (_ : Unit), xx_2 = .inl () → G K (0, 0) 37 [(0, .ref (K.2.1.1 + 69)), (1, .int a1), (2, .int a2)] [] M := by
    intro _ ex
    subst ex
    have hf : f_X10_add_A2 a1 a2 M  = some r := hf
    unfold f_X10_add_A2 at hf
    refine g_iconst (v := (0 : Int32)) C (ckD_get k_X10_add_0 21 rfl) (by decide) ?_
    refine g_istore_n (lv' := [(3, _), (0, _), (1, _), (2, _)]) C (ckD_get k_X10_add_0 22 rfl) rfl hL3 rfl ?_
    refine g_iconst (v := (0 : Int32)) C (ckD_get k_X10_add_0 23 rfl) (by decide) ?_
    refine g_istore (lv' := [(4, _), (3, _), (0, _), (1, _), (2, _)]) C (ckD_get k_X10_add_0 24 rfl) hL4 rfl ?_
    refine G.sub [2, 3, 4, 1, 0] rfl ?_
    obtain ⟨xx_42, hx_42, hf⟩ := bd_e hf
    obtain ⟨x3_5, M_6⟩ := xx_42
    have hE_42 : G K (0, 0) 111 [(0, .ref (K.2.1.1 + 69)), (1, .int a1), (2, .int a2), (3, .int x3_5)] [] M_6 := by
      have hf : f_X10_add_A42 a1 a2 x3_5 M_6 = some r := hf
      unfold f_X10_add_A42 at hf
      refine g_aload_n 0 C (ckD_get k_X10_add_1 21 rfl) rfl rfl ?_
      refine g_iload_n 3 C (ckD_get k_X10_add_1 22 rfl) rfl rfl ?_
      obtain ⟨M_7, eM_7, hf⟩ := lt_e hf
      refine g_putI C (ckD_get k_X10_add_1 23 rfl) fk_X10_269 T69 rfl ?_
      refine memI eM_7 ?_
      obtain ⟨xx_116, hx_116, hf⟩ := bd_e hf
      obtain ⟨x3_10, M_11⟩ := xx_116
      have hE_116 : G K (0, 0) 166 [(0, .ref (K.2.1.1 + 69)), (1, .int a1), (2, .int a2), (3, .int x3_10)] [] M_11 := by
        have hf : f_X10_add_A116 a1 a2 x3_10 M_11 = some r := hf
        unfold f_X10_add_A116 at hf
        refine g_aload_n 0 C (ckD_get k_X10_add_2 16 rfl) rfl rfl ?_
        refine g_getR C (ckD_get k_X10_add_2 17 rfl) fk_X10_57 T69 rfl ?_
        refine g_iload_n 3 C (ckD_get k_X10_add_2 18 rfl) rfl rfl ?_
        refine g_iload_n 1 C (ckD_get k_X10_add_2 19 rfl) rfl rfl ?_
        obtain ⟨M_12, hi_13, eM_12, hf⟩ := wrI_e hf
        refine n_iast C (ckD_get k_X10_add_2 20 rfl) T84 hi_13 eM_12 ?_
        refine g_aload_n 0 C (ckD_get k_X10_add_2 21 rfl) rfl rfl ?_
        refine g_getR C (ckD_get k_X10_add_2 22 rfl) fk_X10_60 T69 rfl ?_
        refine g_iload_n 3 C (ckD_get k_X10_add_2 23 rfl) rfl rfl ?_
        refine g_iload_n 2 C (ckD_get k_X10_add_2 24 rfl) rfl rfl ?_
        obtain ⟨M_14, hi_15, eM_14, hf⟩ := wrI_e hf
        refine n_iast C (ckD_get k_X10_add_2 25 rfl) T85 hi_15 eM_14 ?_
        refine g_aload_n 0 C (ckD_get k_X10_add_2 26 rfl) rfl rfl ?_
        refine g_dup C (ckD_get k_X10_add_2 27 rfl) rfl ?_
        refine g_getI C (ckD_get k_X10_add_2 28 rfl) fk_X10_269 T69 rfl ?_
        refine g_iconst (v := (1 : Int32)) C (ckD_get k_X10_add_2 29 rfl) (by decide) ?_
        refine g_iadd C (ckD_get k_X10_add_2 30 rfl) ?_
        obtain ⟨M_16, eM_16, hf⟩ := lt_e hf
        refine g_putI C (ckD_get k_X10_add_2 31 rfl) fk_X10_269 T69 rfl ?_
        refine memI eM_16 ?_
        cases hf
        exact g_vret C (ckD_get k_X10_add_2 32 rfl) hr hRv (Nat.le_refl _) (Nat.le_refl _)
      refine loop_e (x := (x3_10, M_11)) (P := fun (v : (Int32 × Mm)) => G K (0, 0) 116 [(0, .ref (K.2.1.1 + 69)), (1, .int a1), (2, .int a2), (3, .int v.1)] [] v.2) ?_ FU _ hx_116
      intro v rr_116 hf hn_116 hz_116
      obtain ⟨x3_8, M_9⟩ := v
      have hf : f_X10_add_L116 a1 x3_8 M_9 = some rr_116 := hf
      show G K (0, 0) 116 [(0, .ref (K.2.1.1 + 69)), (1, .int a1), (2, .int a2), (3, .int x3_8)] [] M_9
      unfold f_X10_add_L116 at hf
      refine g_iload_n 3 C (ckD_get k_X10_add_1 24 rfl) rfl rfl ?_
      refine g_if_le C (ckD_get k_X10_add_1 25 rfl) (fun c_17 => ?_) (fun c_17 => ?_)
      · have hf := if_t hf c_17
        cases hf
        cases hz_116 _ rfl
        exact hE_116
      · have hf := if_f hf c_17
        refine g_aload_n 0 C (ckD_get k_X10_add_1 26 rfl) rfl rfl ?_
        refine g_getR C (ckD_get k_X10_add_1 27 rfl) fk_X10_57 T69 rfl ?_
        refine g_iload_n 3 C (ckD_get k_X10_add_1 28 rfl) rfl rfl ?_
        refine g_iconst (v := (1 : Int32)) C (ckD_get k_X10_add_1 29 rfl) (by decide) ?_
        refine g_isub C (ckD_get k_X10_add_1 30 rfl) ?_
        obtain ⟨v_18, hi_19, ev_18, hf⟩ := rdI_e hf
        refine n_iald C (ckD_get k_X10_add_1 31 rfl) T84 hi_19 ev_18 ?_
        refine g_iload_n 1 C (ckD_get k_X10_add_1 32 rfl) rfl rfl ?_
        refine g_icmp_le C (ckD_get k_X10_add_1 33 rfl) (fun c_20 => ?_) (fun c_20 => ?_)
        · have hf := if_t hf c_20
          cases hf
          cases hz_116 _ rfl
          exact hE_116
        · have hf := if_f hf c_20
          refine g_aload_n 0 C (ckD_get k_X10_add_1 34 rfl) rfl rfl ?_
          refine g_getR C (ckD_get k_X10_add_1 35 rfl) fk_X10_57 T69 rfl ?_
          refine g_iload_n 3 C (ckD_get k_X10_add_1 36 rfl) rfl rfl ?_
          refine g_aload_n 0 C (ckD_get k_X10_add_1 37 rfl) rfl rfl ?_
          refine g_getR C (ckD_get k_X10_add_1 38 rfl) fk_X10_57 T69 rfl ?_
          refine g_iload_n 3 C (ckD_get k_X10_add_1 39 rfl) rfl rfl ?_
          refine g_iconst (v := (1 : Int32)) C (ckD_get k_X10_add_2 0 rfl) (by decide) ?_
          refine g_isub C (ckD_get k_X10_add_2 1 rfl) ?_
          obtain ⟨v_21, hi_22, ev_21, hf⟩ := rdI_e hf
          refine n_iald C (ckD_get k_X10_add_2 2 rfl) T84 hi_22 ev_21 ?_
          obtain ⟨M_23, hi_24, eM_23, hf⟩ := wrI_e hf
          refine n_iast C (ckD_get k_X10_add_2 3 rfl) T84 hi_24 eM_23 ?_
          refine g_aload_n 0 C (ckD_get k_X10_add_2 4 rfl) rfl rfl ?_
          refine g_getR C (ckD_get k_X10_add_2 5 rfl) fk_X10_60 T69 rfl ?_
          refine g_iload_n 3 C (ckD_get k_X10_add_2 6 rfl) rfl rfl ?_
          refine g_aload_n 0 C (ckD_get k_X10_add_2 7 rfl) rfl rfl ?_
          refine g_getR C (ckD_get k_X10_add_2 8 rfl) fk_X10_60 T69 rfl ?_
          refine g_iload_n 3 C (ckD_get k_X10_add_2 9 rfl) rfl rfl ?_
          refine g_iconst (v := (1 : Int32)) C (ckD_get k_X10_add_2 10 rfl) (by decide) ?_
          refine g_isub C (ckD_get k_X10_add_2 11 rfl) ?_
          obtain ⟨v_25, hi_26, ev_25, hf⟩ := rdI_e hf
          refine n_iald C (ckD_get k_X10_add_2 12 rfl) T85 hi_26 ev_25 ?_
          obtain ⟨M_27, hi_28, eM_27, hf⟩ := wrI_e hf
          refine n_iast C (ckD_get k_X10_add_2 13 rfl) T85 hi_28 eM_27 ?_
          obtain ⟨x3_29, ex3_29, hf⟩ := lt_e hf
          refine g_iinc (lv' := [(3, _), (0, _), (1, _), (2, _)]) 3 C (ckD_get k_X10_add_2 14 rfl) rfl ex3_29 hL3 rfl ?_
          refine g_goto C (ckD_get k_X10_add_2 15 rfl) ?_
          refine G.sub [1, 2, 3, 0] rfl ?_
          cases hf
          exact hn_116 _ rfl
    refine loop_e (x := (x3_5, M_6)) (P := fun (v : (Int32 × Int32 × Mm)) => G K (0, 0) 42 [(0, .ref (K.2.1.1 + 69)), (1, .int a1), (2, .int a2), (3, .int v.1), (4, .int v.2.1)] [] v.2.2) ?_ FU _ hx_42
    intro v rr_42 hf hn_42 hz_42
    obtain ⟨x3_2, x4_3, M_4⟩ := v
    have hf : f_X10_add_L42 a1 a2 x3_2 x4_3 M_4 = some rr_42 := hf
    show G K (0, 0) 42 [(0, .ref (K.2.1.1 + 69)), (1, .int a1), (2, .int a2), (3, .int x3_2), (4, .int x4_3)] [] M_4
    unfold f_X10_add_L42 at hf
    refine g_iload 4 C (ckD_get k_X10_add_0 25 rfl) rfl ?_
    refine g_aload_n 0 C (ckD_get k_X10_add_0 26 rfl) rfl rfl ?_
    refine g_getI C (ckD_get k_X10_add_0 27 rfl) fk_X10_269 T69 rfl ?_
    refine g_icmp_ge C (ckD_get k_X10_add_0 28 rfl) (fun c_30 => ?_) (fun c_30 => ?_)
    · have hf := if_t hf c_30
      refine G.sub [0, 1, 2, 3] rfl ?_
      cases hf
      cases hz_42 _ rfl
      exact hE_42
    · have hf := if_f hf c_30
      refine g_aload_n 0 C (ckD_get k_X10_add_0 29 rfl) rfl rfl ?_
      refine g_getR C (ckD_get k_X10_add_0 30 rfl) fk_X10_57 T69 rfl ?_
      refine g_iload 4 C (ckD_get k_X10_add_0 31 rfl) rfl ?_
      obtain ⟨v_31, hi_32, ev_31, hf⟩ := rdI_e hf
      refine n_iald C (ckD_get k_X10_add_0 32 rfl) T84 hi_32 ev_31 ?_
      refine g_iload_n 1 C (ckD_get k_X10_add_0 33 rfl) rfl rfl ?_
      have hJ_105 : ∀ (p3_33 : Int32) (M_34 : Mm), f_X10_add_J105 x4_3 p3_33 M_34 = some rr_42 → G K (0, 0) 105 [(0, .ref (K.2.1.1 + 69)), (1, .int a1), (2, .int a2), (3, .int p3_33), (4, .int x4_3)] [] M_34 := by
        intro p3_33 M_34 hf
        unfold f_X10_add_J105 at hf
        obtain ⟨x4_35, ex4_35, hf⟩ := lt_e hf
        refine g_iinc (lv' := [(4, _), (0, _), (1, _), (2, _), (3, _)]) 4 C (ckD_get k_X10_add_1 19 rfl) rfl ex4_35 hL4 rfl ?_
        refine g_goto C (ckD_get k_X10_add_1 20 rfl) ?_
        refine G.sub [1, 2, 3, 4, 0] rfl ?_
        cases hf
        exact hn_42 _ rfl
      have hJ_76 : ∀ (_ : Unit), f_X10_add_J76 x3_2 x4_3 M_4 () = some rr_42 → G K (0, 0) 76 [(0, .ref (K.2.1.1 + 69)), (1, .int a1), (2, .int a2), (3, .int x3_2), (4, .int x4_3)] [] M_4 := by
        intro _ hf
        unfold f_X10_add_J76 at hf
        refine g_aload_n 0 C (ckD_get k_X10_add_1 2 rfl) rfl rfl ?_
        refine g_getR C (ckD_get k_X10_add_1 3 rfl) fk_X10_57 T69 rfl ?_
        refine g_iload_n 3 C (ckD_get k_X10_add_1 4 rfl) rfl rfl ?_
        refine g_aload_n 0 C (ckD_get k_X10_add_1 5 rfl) rfl rfl ?_
        refine g_getR C (ckD_get k_X10_add_1 6 rfl) fk_X10_57 T69 rfl ?_
        refine g_iload 4 C (ckD_get k_X10_add_1 7 rfl) rfl ?_
        obtain ⟨v_36, hi_37, ev_36, hf⟩ := rdI_e hf
        refine n_iald C (ckD_get k_X10_add_1 8 rfl) T84 hi_37 ev_36 ?_
        obtain ⟨M_38, hi_39, eM_38, hf⟩ := wrI_e hf
        refine n_iast C (ckD_get k_X10_add_1 9 rfl) T84 hi_39 eM_38 ?_
        refine g_aload_n 0 C (ckD_get k_X10_add_1 10 rfl) rfl rfl ?_
        refine g_getR C (ckD_get k_X10_add_1 11 rfl) fk_X10_60 T69 rfl ?_
        refine g_iload_n 3 C (ckD_get k_X10_add_1 12 rfl) rfl rfl ?_
        refine g_aload_n 0 C (ckD_get k_X10_add_1 13 rfl) rfl rfl ?_
        refine g_getR C (ckD_get k_X10_add_1 14 rfl) fk_X10_60 T69 rfl ?_
        refine g_iload 4 C (ckD_get k_X10_add_1 15 rfl) rfl ?_
        obtain ⟨v_40, hi_41, ev_40, hf⟩ := rdI_e hf
        refine n_iald C (ckD_get k_X10_add_1 16 rfl) T85 hi_41 ev_40 ?_
        obtain ⟨M_42, hi_43, eM_42, hf⟩ := wrI_e hf
        refine n_iast C (ckD_get k_X10_add_1 17 rfl) T85 hi_43 eM_42 ?_
        obtain ⟨x3_44, ex3_44, hf⟩ := lt_e hf
        refine g_iinc (lv' := [(3, _), (0, _), (1, _), (2, _), (4, _)]) 3 C (ckD_get k_X10_add_1 18 rfl) rfl ex3_44 hL3 rfl ?_
        refine G.sub [1, 2, 3, 0, 4] rfl ?_
        exact hJ_105 _ _ hf
      refine g_icmp_lt C (ckD_get k_X10_add_0 34 rfl) (fun c_45 => ?_) (fun c_45 => ?_)
      · have hf := if_t hf c_45
        exact hJ_76 () hf
      · have hf := if_f hf c_45
        refine g_aload_n 0 C (ckD_get k_X10_add_0 35 rfl) rfl rfl ?_
        refine g_getR C (ckD_get k_X10_add_0 36 rfl) fk_X10_60 T69 rfl ?_
        refine g_iload 4 C (ckD_get k_X10_add_0 37 rfl) rfl ?_
        obtain ⟨v_46, hi_47, ev_46, hf⟩ := rdI_e hf
        refine n_iald C (ckD_get k_X10_add_0 38 rfl) T85 hi_47 ev_46 ?_
        refine g_iload_n 2 C (ckD_get k_X10_add_0 39 rfl) rfl rfl ?_
        refine g_icmp_lt C (ckD_get k_X10_add_1 0 rfl) (fun c_48 => ?_) (fun c_48 => ?_)
        · have hf := if_t hf c_48
          exact hJ_76 () hf
        · have hf := if_f hf c_48
          refine g_goto C (ckD_get k_X10_add_1 1 rfl) ?_
          exact hJ_105 _ _ hf
  have hO_2 : ∀ o, xx_2 = .inr o → o = r := by
    intro o eo
    subst eo
    have hf : some o = some r := hf
    cases hf
    rfl
  refine loop_e (x := xx_2) (P := fun (v : Int32) => G K (0, 0) 2 [(0, .ref (K.2.1.1 + 69)), (1, .int a1), (2, .int a2), (3, .int v)] [] M) ?_ FU _ hx_2
  intro x3_1 rr_2 hf hn_2 hz_2
  have hf : f_X10_add_L2 a1 a2 M x3_1 = some rr_2 := hf
  show G K (0, 0) 2 [(0, .ref (K.2.1.1 + 69)), (1, .int a1), (2, .int a2), (3, .int x3_1)] [] M
  unfold f_X10_add_L2 at hf
  refine g_iload_n 3 C (ckD_get k_X10_add_0 2 rfl) rfl rfl ?_
  refine g_aload_n 0 C (ckD_get k_X10_add_0 3 rfl) rfl rfl ?_
  refine g_getI C (ckD_get k_X10_add_0 4 rfl) fk_X10_269 T69 rfl ?_
  refine g_icmp_ge C (ckD_get k_X10_add_0 5 rfl) (fun c_49 => ?_) (fun c_49 => ?_)
  · have hf := if_t hf c_49
    refine G.sub [0, 1, 2] rfl ?_
    cases hf
    exact hE_2 () (hz_2 _ rfl).symm
  · have hf := if_f hf c_49
    refine g_aload_n 0 C (ckD_get k_X10_add_0 6 rfl) rfl rfl ?_
    refine g_getR C (ckD_get k_X10_add_0 7 rfl) fk_X10_57 T69 rfl ?_
    refine g_iload_n 3 C (ckD_get k_X10_add_0 8 rfl) rfl rfl ?_
    obtain ⟨v_50, hi_51, ev_50, hf⟩ := rdI_e hf
    refine n_iald C (ckD_get k_X10_add_0 9 rfl) T84 hi_51 ev_50 ?_
    refine g_iload_n 1 C (ckD_get k_X10_add_0 10 rfl) rfl rfl ?_
    have hJ_31 : ∀ (_ : Unit), f_X10_add_J31 x3_1 () = some rr_2 → G K (0, 0) 31 [(0, .ref (K.2.1.1 + 69)), (1, .int a1), (2, .int a2), (3, .int x3_1)] [] M := by
      intro _ hf
      unfold f_X10_add_J31 at hf
      obtain ⟨x3_52, ex3_52, hf⟩ := lt_e hf
      refine g_iinc (lv' := [(3, _), (0, _), (1, _), (2, _)]) 3 C (ckD_get k_X10_add_0 19 rfl) rfl ex3_52 hL3 rfl ?_
      refine g_goto C (ckD_get k_X10_add_0 20 rfl) ?_
      refine G.sub [1, 2, 3, 0] rfl ?_
      cases hf
      exact hn_2 _ rfl
    refine g_icmp_gt C (ckD_get k_X10_add_0 11 rfl) (fun c_53 => ?_) (fun c_53 => ?_)
    · have hf := if_t hf c_53
      exact hJ_31 () hf
    · have hf := if_f hf c_53
      refine g_aload_n 0 C (ckD_get k_X10_add_0 12 rfl) rfl rfl ?_
      refine g_getR C (ckD_get k_X10_add_0 13 rfl) fk_X10_60 T69 rfl ?_
      refine g_iload_n 3 C (ckD_get k_X10_add_0 14 rfl) rfl rfl ?_
      obtain ⟨v_54, hi_55, ev_54, hf⟩ := rdI_e hf
      refine n_iald C (ckD_get k_X10_add_0 15 rfl) T85 hi_55 ev_54 ?_
      refine g_iload_n 2 C (ckD_get k_X10_add_0 16 rfl) rfl rfl ?_
      refine g_icmp_gt C (ckD_get k_X10_add_0 17 rfl) (fun c_56 => ?_) (fun c_56 => ?_)
      · have hf := if_t hf c_56
        exact hJ_31 () hf
      · have hf := if_f hf c_56
        cases hf
        cases hO_2 _ (hz_2 _ rfl).symm
        exact g_vret C (ckD_get k_X10_add_0 18 rfl) hr hRv (Nat.le_refl _) (Nat.le_refl _)

set_option maxRecDepth 20000 in
theorem k_X10_findCurve_0 : ckD cX10_findCurve [(0, .aload_n 0, 1, 1, 0), (1, .getfield 127, 3, 4, 0), (4, .istore_n 1, 1, 5, 0), (5, .aload_n 0, 1, 6, 0), (6, .invokevirtual 169, 3, 9, 0), (9, .istore_n 2, 1, 10, 0), (10, .aload_n 0, 1, 11, 0), (11, .iconst 0, 1, 12, 0), (12, .putfield 269, 3, 15, 0), (15, .iconst 0, 1, 16, 0), (16, .istore_n 3, 1, 17, 0), (17, .iload_n 3, 1, 18, 0), (18, .iload_n 2, 1, 19, 0), (19, .if_icmp .gt 59, 3, 22, 78), (22, .iload_n 3, 1, 23, 0), (23, .iload_n 2, 1, 24, 0), (24, .iconst (-1), 1, 25, 0), (25, .ixor, 1, 26, 0), (26, .iand, 1, 27, 0), (27, .ifCond .eq 6, 3, 30, 33), (30, .goto 42, 3, 33, 72), (33, .aload_n 0, 1, 34, 0), (34, .iload_n 3, 1, 35, 0), (35, .putfield 127, 3, 38, 0), (38, .aload_n 0, 1, 39, 0), (39, .aload_n 0, 1, 40, 0), (40, .getfield 39, 3, 43, 0), (43, .invokevirtual 178, 3, 46, 0), (46, .aload_n 0, 1, 47, 0), (47, .aload_n 0, 1, 48, 0), (48, .getfield 72, 3, 51, 0), (51, .aload_n 0, 1, 52, 0), (52, .invokevirtual 175, 3, 55, 0), (55, .iconst 1, 1, 56, 0), (56, .isub, 1, 57, 0), (57, .iaload, 1, 58, 0), (58, .aload_n 0, 1, 59, 0), (59, .getfield 75, 3, 62, 0), (62, .aload_n 0, 1, 63, 0), (63, .invokevirtual 175, 3, 66, 0)] = true := by decide +kernel
set_option maxRecDepth 20000 in
theorem k_X10_findCurve_1 : ckD cX10_findCurve [(66, .iconst 1, 1, 67, 0), (67, .isub, 1, 68, 0), (68, .iaload, 1, 69, 0), (69, .invokevirtual 272, 3, 72, 0), (72, .iinc 3 1, 3, 75, 0), (75, .goto (-58), 3, 78, 17), (78, .aload_n 0, 1, 79, 0), (79, .iload_n 1, 1, 80, 0), (80, .putfield 127, 3, 83, 0), (83, .return_, 1, 84, 0)] = true := by decide +kernel
def f_X10_findCurve_A17 (x1_1 : Int32) (M_7 : Mm) : Option Mm := lt1 (wi M_7 69 7 x1_1) fun M_8 => some M_8
def f_X10_findCurve_J72 (x3_5 : Int32) (M_10 : Mm) : Option ((Int32 × Mm) ⊕ Mm) := lt1 (x3_5 + 1) fun x3_11 => some (.inl (x3_11, M_10))
def f_X10_findCurve_L17 (r_3 : Int32) (x3_5 : Int32) (M_6 : Mm) : Option ((Int32 × Mm) ⊕ Mm) := if r_3 < x3_5 then some (.inr M_6) else if (x3_5 &&& (r_3 ^^^ (-1 : Int32))) = 0 then lt1 (wi M_6 69 7 x3_5) fun M_13 => (f_X10_makeParts 78 M_13).bind fun M_15 => rdI 23 M_15 89 ((f_X10_rowSize M_15) - (1 : Int32)) fun v_16 => rdI 23 M_15 90 ((f_X10_rowSize M_15) - (1 : Int32)) fun v_18 => (f_X10_add v_16 v_18 M_15).bind fun M_21 => f_X10_findCurve_J72 x3_5 M_21 else f_X10_findCurve_J72 x3_5 M_6
def f_X10_findCurve  (M : Mm) : Option Mm := lt1 (M.1 69 7) fun x1_1 => (f_X10_turnable M).bind fun r_3 => lt1 (wi M 69 21 (0 : Int32)) fun M_4 => (loop (fun v => f_X10_findCurve_L17 r_3 v.1 v.2) FU ((0 : Int32), M_4)).bind fun z => f_X10_findCurve_A17 x1_1 z
set_option maxRecDepth 100000 in
set_option maxHeartbeats 4000000 in
theorem t_X10_findCurve {E : Ev} {l : Launch} (htr : l.stackTraces = false) (M : Mm) (r : Mm) (hf : f_X10_findCurve M = some r) : CM E l 2 0 0 yX10_findCurve cX10_findCurve 4 none [.ref (E.1 + 69)] M none r := by
  refine CM.of htr (by decide +kernel) (Nat.le_of_ble_eq_true rfl) ?_
  intro K hE hL hl hR0 C hr hRv
  subst hE
  subst hl
  have C : Cx K cX10_findCurve RX10 2 := C
  have hB : (0 : Nat) ≤ K.1.R.cells ∧ 0 ≤ K.1.R.slots := ⟨Nat.zero_le _, Nat.zero_le _⟩
  have hL1 : 1 < K.2.2.1 := by rw [hL]; decide
  have hL2 : 2 < K.2.2.1 := by rw [hL]; decide
  have hL3 : 3 < K.2.2.1 := by rw [hL]; decide
  show G K (0, 0) 0 [(0, .ref (K.2.1.1 + 69))] [] M
  unfold f_X10_findCurve at hf
  refine g_aload_n 0 C (ckD_get k_X10_findCurve_0 0 rfl) rfl rfl ?_
  refine g_getI C (ckD_get k_X10_findCurve_0 1 rfl) fk_X10_127 T69 rfl ?_
  obtain ⟨x1_1, ex1_1, hf⟩ := lt_e hf
  refine topI ex1_1 ?_
  refine g_istore_n (lv' := [(1, _), (0, _)]) C (ckD_get k_X10_findCurve_0 2 rfl) rfl hL1 rfl ?_
  refine g_aload_n 1 C (ckD_get k_X10_findCurve_0 3 rfl) rfl rfl ?_
  obtain ⟨r_3, hr_2, hf⟩ := bd_e hf
  refine n_cV [] [] C (ckD_get k_X10_findCurve_0 4 rfl) vk_X10_169 (t_X10_turnable C.tr _ _ hr_2) T69 rfl rfl (Nat.le_of_ble_eq_true rfl) (by decide) hB rfl ?_
  refine g_istore_n (lv' := [(2, _), (1, _), (0, _)]) C (ckD_get k_X10_findCurve_0 5 rfl) rfl hL2 rfl ?_
  refine g_aload_n 2 C (ckD_get k_X10_findCurve_0 6 rfl) rfl rfl ?_
  refine g_iconst (v := (0 : Int32)) C (ckD_get k_X10_findCurve_0 7 rfl) (by decide) ?_
  obtain ⟨M_4, eM_4, hf⟩ := lt_e hf
  refine g_putI C (ckD_get k_X10_findCurve_0 8 rfl) fk_X10_269 T69 rfl ?_
  refine memI eM_4 ?_
  refine g_iconst (v := (0 : Int32)) C (ckD_get k_X10_findCurve_0 9 rfl) (by decide) ?_
  refine g_istore_n (lv' := [(3, _), (2, _), (1, _), (0, _)]) C (ckD_get k_X10_findCurve_0 10 rfl) rfl hL3 rfl ?_
  refine G.sub [3, 2, 1, 0] rfl ?_
  obtain ⟨M_7, hx_17, hf⟩ := bd_e hf
  have hE_17 : G K (0, 0) 78 [(0, .ref (K.2.1.1 + 69)), (1, .int x1_1)] [] M_7 := by
    have hf : f_X10_findCurve_A17 x1_1 M_7 = some r := hf
    unfold f_X10_findCurve_A17 at hf
    refine g_aload_n 0 C (ckD_get k_X10_findCurve_1 6 rfl) rfl rfl ?_
    refine g_iload_n 1 C (ckD_get k_X10_findCurve_1 7 rfl) rfl rfl ?_
    obtain ⟨M_8, eM_8, hf⟩ := lt_e hf
    refine g_putI C (ckD_get k_X10_findCurve_1 8 rfl) fk_X10_127 T69 rfl ?_
    refine memI eM_8 ?_
    cases hf
    exact g_vret C (ckD_get k_X10_findCurve_1 9 rfl) hr hRv (Nat.le_refl _) (Nat.le_refl _)
  refine loop_e (x := M_7) (P := fun (v : (Int32 × Mm)) => G K (0, 0) 17 [(0, .ref (K.2.1.1 + 69)), (1, .int x1_1), (2, .int r_3), (3, .int v.1)] [] v.2) ?_ FU _ hx_17
  intro v rr_17 hf hn_17 hz_17
  obtain ⟨x3_5, M_6⟩ := v
  have hf : f_X10_findCurve_L17 r_3 x3_5 M_6 = some rr_17 := hf
  show G K (0, 0) 17 [(0, .ref (K.2.1.1 + 69)), (1, .int x1_1), (2, .int r_3), (3, .int x3_5)] [] M_6
  unfold f_X10_findCurve_L17 at hf
  refine g_iload_n 3 C (ckD_get k_X10_findCurve_0 11 rfl) rfl rfl ?_
  refine g_iload_n 2 C (ckD_get k_X10_findCurve_0 12 rfl) rfl rfl ?_
  refine g_icmp_gt C (ckD_get k_X10_findCurve_0 13 rfl) (fun c_9 => ?_) (fun c_9 => ?_)
  · have hf := if_t hf c_9
    refine G.sub [0, 1] rfl ?_
    cases hf
    cases hz_17 _ rfl
    exact hE_17
  · have hf := if_f hf c_9
    refine g_iload_n 3 C (ckD_get k_X10_findCurve_0 14 rfl) rfl rfl ?_
    refine g_iload_n 2 C (ckD_get k_X10_findCurve_0 15 rfl) rfl rfl ?_
    refine g_iconst (v := (-1 : Int32)) C (ckD_get k_X10_findCurve_0 16 rfl) (by decide) ?_
    refine g_ixor C (ckD_get k_X10_findCurve_0 17 rfl) ?_
    refine g_iand C (ckD_get k_X10_findCurve_0 18 rfl) ?_
    have hJ_72 : ∀ (M_10 : Mm), f_X10_findCurve_J72 x3_5 M_10 = some rr_17 → G K (0, 0) 72 [(0, .ref (K.2.1.1 + 69)), (1, .int x1_1), (2, .int r_3), (3, .int x3_5)] [] M_10 := by
      intro M_10 hf
      unfold f_X10_findCurve_J72 at hf
      obtain ⟨x3_11, ex3_11, hf⟩ := lt_e hf
      refine g_iinc (lv' := [(3, _), (0, _), (1, _), (2, _)]) 3 C (ckD_get k_X10_findCurve_1 4 rfl) rfl ex3_11 hL3 rfl ?_
      refine g_goto C (ckD_get k_X10_findCurve_1 5 rfl) ?_
      refine G.sub [1, 2, 3, 0] rfl ?_
      cases hf
      exact hn_17 _ rfl
    refine g_if_eq C (ckD_get k_X10_findCurve_0 19 rfl) (fun c_12 => ?_) (fun c_12 => ?_)
    · have hf := if_t hf c_12
      refine g_aload_n 0 C (ckD_get k_X10_findCurve_0 21 rfl) rfl rfl ?_
      refine g_iload_n 3 C (ckD_get k_X10_findCurve_0 22 rfl) rfl rfl ?_
      obtain ⟨M_13, eM_13, hf⟩ := lt_e hf
      refine g_putI C (ckD_get k_X10_findCurve_0 23 rfl) fk_X10_127 T69 rfl ?_
      refine memI eM_13 ?_
      refine g_aload_n 0 C (ckD_get k_X10_findCurve_0 24 rfl) rfl rfl ?_
      refine g_aload_n 0 C (ckD_get k_X10_findCurve_0 25 rfl) rfl rfl ?_
      refine g_getR C (ckD_get k_X10_findCurve_0 26 rfl) fk_X10_39 T69 rfl ?_
      obtain ⟨M_15, hr_14, hf⟩ := bd_e hf
      refine n_cV [.ref (K.2.1.1 + 78)] [] C (ckD_get k_X10_findCurve_0 27 rfl) vk_X10_178 (t_X10_makeParts C.tr _ T78 _ _ hr_14) T69 rfl rfl (Nat.le_of_ble_eq_true rfl) (by decide) hB rfl ?_
      refine g_aload_n 0 C (ckD_get k_X10_findCurve_0 28 rfl) rfl rfl ?_
      refine g_aload_n 0 C (ckD_get k_X10_findCurve_0 29 rfl) rfl rfl ?_
      refine g_getR C (ckD_get k_X10_findCurve_0 30 rfl) fk_X10_72 T69 rfl ?_
      refine g_aload_n 0 C (ckD_get k_X10_findCurve_0 31 rfl) rfl rfl ?_
      refine n_cV [] [.ref (K.2.1.1 + 89), .ref (K.2.1.1 + 69)] C (ckD_get k_X10_findCurve_0 32 rfl) vk_X10_175 (t_X10_rowSize C.tr _ _ rfl) T69 rfl rfl (Nat.le_of_ble_eq_true rfl) (by decide) hB rfl ?_
      refine g_iconst (v := (1 : Int32)) C (ckD_get k_X10_findCurve_0 33 rfl) (by decide) ?_
      refine g_isub C (ckD_get k_X10_findCurve_0 34 rfl) ?_
      obtain ⟨v_16, hi_17, ev_16, hf⟩ := rdI_e hf
      refine n_iald C (ckD_get k_X10_findCurve_0 35 rfl) T89 hi_17 ev_16 ?_
      refine g_aload_n 0 C (ckD_get k_X10_findCurve_0 36 rfl) rfl rfl ?_
      refine g_getR C (ckD_get k_X10_findCurve_0 37 rfl) fk_X10_75 T69 rfl ?_
      refine g_aload_n 0 C (ckD_get k_X10_findCurve_0 38 rfl) rfl rfl ?_
      refine n_cV [] [.ref (K.2.1.1 + 90), .int v_16, .ref (K.2.1.1 + 69)] C (ckD_get k_X10_findCurve_0 39 rfl) vk_X10_175 (t_X10_rowSize C.tr _ _ rfl) T69 rfl rfl (Nat.le_of_ble_eq_true rfl) (by decide) hB rfl ?_
      refine g_iconst (v := (1 : Int32)) C (ckD_get k_X10_findCurve_1 0 rfl) (by decide) ?_
      refine g_isub C (ckD_get k_X10_findCurve_1 1 rfl) ?_
      obtain ⟨v_18, hi_19, ev_18, hf⟩ := rdI_e hf
      refine n_iald C (ckD_get k_X10_findCurve_1 2 rfl) T90 hi_19 ev_18 ?_
      obtain ⟨M_21, hr_20, hf⟩ := bd_e hf
      refine n_cV [.int v_16, .int v_18] [] C (ckD_get k_X10_findCurve_1 3 rfl) vk_X10_272 (t_X10_add C.tr _ _ _ _ hr_20) T69 rfl rfl (Nat.le_of_ble_eq_true rfl) (by decide) hB rfl ?_
      exact hJ_72 _ hf
    · have hf := if_f hf c_12
      refine g_goto C (ckD_get k_X10_findCurve_0 20 rfl) ?_
      exact hJ_72 _ hf

set_option maxRecDepth 20000 in
theorem k_X10_curve_0 : ckD cX10_curve [(0, .aload_n 0, 1, 1, 0), (1, .iconst 0, 1, 2, 0), (2, .putfield 121, 3, 5, 0), (5, .aload_n 0, 1, 6, 0), (6, .getfield 23, 3, 9, 0), (9, .iconst 2, 1, 10, 0), (10, .if_icmp .eq 8, 3, 13, 18), (13, .aload_n 0, 1, 14, 0), (14, .invokevirtual 134, 3, 17, 0), (17, .ireturn, 1, 18, 0), (18, .aload_n 0, 1, 19, 0), (19, .invokevirtual 275, 3, 22, 0), (22, .aload_n 0, 1, 23, 0), (23, .getfield 269, 3, 26, 0), (26, .ireturn, 1, 27, 0)] = true := by decide +kernel
def f_X10_curve  (M : Mm) : Option (Int32 × Mm) := lt1 (wi M 69 0 (0 : Int32)) fun M_1 => if (M_1.1 69 6) = (2 : Int32) then (f_X10_findCurve M_1).bind fun M_4 => some ((M_4.1 69 21), M_4) else lt1 (f_X10_fail M_1) fun z_7 => some (z_7.1, z_7.2)
set_option maxRecDepth 100000 in
set_option maxHeartbeats 4000000 in
theorem t_X10_curve {E : Ev} {l : Launch} (htr : l.stackTraces = false) (M : Mm) (r : (Int32 × Mm)) (hf : f_X10_curve M = some r) : CM E l 3 0 0 yX10_curve cX10_curve 1 (some .int) [.ref (E.1 + 69)] M (some (.int r.1)) r.2 := by
  refine CM.of htr (by decide +kernel) (Nat.le_of_ble_eq_true rfl) ?_
  intro K hE hL hl hR0 C hr hRv
  subst hE
  subst hl
  have C : Cx K cX10_curve RX10 3 := C
  have hB : (0 : Nat) ≤ K.1.R.cells ∧ 0 ≤ K.1.R.slots := ⟨Nat.zero_le _, Nat.zero_le _⟩
  show G K (0, 0) 0 [(0, .ref (K.2.1.1 + 69))] [] M
  unfold f_X10_curve at hf
  refine g_aload_n 0 C (ckD_get k_X10_curve_0 0 rfl) rfl rfl ?_
  refine g_iconst (v := (0 : Int32)) C (ckD_get k_X10_curve_0 1 rfl) (by decide) ?_
  obtain ⟨M_1, eM_1, hf⟩ := lt_e hf
  refine g_putI C (ckD_get k_X10_curve_0 2 rfl) fk_X10_121 T69 rfl ?_
  refine memI eM_1 ?_
  refine g_aload_n 0 C (ckD_get k_X10_curve_0 3 rfl) rfl rfl ?_
  refine g_getI C (ckD_get k_X10_curve_0 4 rfl) fk_X10_23 T69 rfl ?_
  refine g_iconst (v := (2 : Int32)) C (ckD_get k_X10_curve_0 5 rfl) (by decide) ?_
  refine g_icmp_eq C (ckD_get k_X10_curve_0 6 rfl) (fun c_2 => ?_) (fun c_2 => ?_)
  · have hf := if_t hf c_2
    refine g_aload_n 0 C (ckD_get k_X10_curve_0 10 rfl) rfl rfl ?_
    obtain ⟨M_4, hr_3, hf⟩ := bd_e hf
    refine n_cV [] [] C (ckD_get k_X10_curve_0 11 rfl) vk_X10_275 (t_X10_findCurve C.tr _ _ hr_3) T69 rfl rfl (Nat.le_of_ble_eq_true rfl) (by decide) hB rfl ?_
    refine g_aload_n 0 C (ckD_get k_X10_curve_0 12 rfl) rfl rfl ?_
    refine g_getI C (ckD_get k_X10_curve_0 13 rfl) fk_X10_269 T69 rfl ?_
    cases hf
    exact g_iret C (ckD_get k_X10_curve_0 14 rfl) hr hRv (Nat.le_refl _) (Nat.le_refl _)
  · have hf := if_f hf c_2
    refine g_aload_n 0 C (ckD_get k_X10_curve_0 7 rfl) rfl rfl ?_
    obtain ⟨z_7, ez_7, hf⟩ := lt_e hf
    refine n_cV [] [] C (ckD_get k_X10_curve_0 8 rfl) vk_X10_134 (t_X10_fail C.tr _ _ ez_7) T69 rfl rfl (Nat.le_of_ble_eq_true rfl) (by decide) hB rfl ?_
    cases hf
    exact g_iret C (ckD_get k_X10_curve_0 9 rfl) hr hRv (Nat.le_refl _) (Nat.le_refl _)

set_option maxRecDepth 20000 in
theorem k_X10_shape_0 : ckD cX10_shape [(0, .aload_n 0, 1, 1, 0), (1, .iconst 0, 1, 2, 0), (2, .putfield 121, 3, 5, 0), (5, .aload_n 0, 1, 6, 0), (6, .getfield 23, 3, 9, 0), (9, .iconst 2, 1, 10, 0), (10, .if_icmp .ne 16, 3, 13, 26), (13, .iload_n 1, 1, 14, 0), (14, .ifCond .lt 12, 3, 17, 26), (17, .iload_n 2, 1, 18, 0), (18, .ifCond .lt 8, 3, 21, 26), (21, .iload_n 2, 1, 22, 0), (22, .iconst 1, 1, 23, 0), (23, .if_icmp .le 8, 3, 26, 31), (26, .aload_n 0, 1, 27, 0), (27, .invokevirtual 134, 3, 30, 0), (30, .ireturn, 1, 31, 0), (31, .aload_n 0, 1, 32, 0), (32, .invokevirtual 275, 3, 35, 0), (35, .iload_n 1, 1, 36, 0), (36, .aload_n 0, 1, 37, 0), (37, .getfield 269, 3, 40, 0), (40, .if_icmp .lt 10, 3, 43, 50), (43, .aload_n 0, 1, 44, 0), (44, .invokevirtual 134, 3, 47, 0), (47, .goto 22, 3, 50, 69), (50, .iload_n 2, 1, 51, 0), (51, .ifCond .ne 12, 3, 54, 63), (54, .aload_n 0, 1, 55, 0), (55, .getfield 57, 3, 58, 0), (58, .iload_n 1, 1, 59, 0), (59, .iaload, 1, 60, 0), (60, .goto 9, 3, 63, 69), (63, .aload_n 0, 1, 64, 0), (64, .getfield 60, 3, 67, 0), (67, .iload_n 1, 1, 68, 0), (68, .iaload, 1, 69, 0), (69, .ireturn, 1, 70, 0)] = true := by decide +kernel
def f_X10_shape_J26 (M_2 : Mm) : Option (Int32 × Mm) := lt1 (f_X10_fail M_2) fun z_5 => some (z_5.1, z_5.2)
def f_X10_shape (a1 : Int32) (a2 : Int32) (M : Mm) : Option (Int32 × Mm) := lt1 (wi M 69 0 (0 : Int32)) fun M_1 => if (M_1.1 69 6) = (2 : Int32) then (if a1 < 0 then f_X10_shape_J26 M_1 else if a2 < 0 then f_X10_shape_J26 M_1 else if a2 ≤ (1 : Int32) then (f_X10_findCurve M_1).bind fun M_11 => if a1 < (M_11.1 69 21) then (if a2 = 0 then rdI 4096 M_11 84 a1 fun v_16 => some (v_16, M_11) else rdI 4096 M_11 85 a1 fun v_14 => some (v_14, M_11)) else lt1 (f_X10_fail M_11) fun z_20 => some (z_20.1, z_20.2) else f_X10_shape_J26 M_1) else f_X10_shape_J26 M_1
set_option maxRecDepth 100000 in
set_option maxHeartbeats 4000000 in
theorem t_X10_shape {E : Ev} {l : Launch} (htr : l.stackTraces = false) (a1 : Int32) (a2 : Int32) (M : Mm) (r : (Int32 × Mm)) (hf : f_X10_shape a1 a2 M = some r) : CM E l 3 0 0 yX10_shape cX10_shape 3 (some .int) [.ref (E.1 + 69), .int a1, .int a2] M (some (.int r.1)) r.2 := by
  refine CM.of htr (by decide +kernel) (Nat.le_of_ble_eq_true rfl) ?_
  intro K hE hL hl hR0 C hr hRv
  subst hE
  subst hl
  have C : Cx K cX10_shape RX10 3 := C
  have hB : (0 : Nat) ≤ K.1.R.cells ∧ 0 ≤ K.1.R.slots := ⟨Nat.zero_le _, Nat.zero_le _⟩
  show G K (0, 0) 0 [(0, .ref (K.2.1.1 + 69)), (1, .int a1), (2, .int a2)] [] M
  unfold f_X10_shape at hf
  refine g_aload_n 0 C (ckD_get k_X10_shape_0 0 rfl) rfl rfl ?_
  refine g_iconst (v := (0 : Int32)) C (ckD_get k_X10_shape_0 1 rfl) (by decide) ?_
  obtain ⟨M_1, eM_1, hf⟩ := lt_e hf
  refine g_putI C (ckD_get k_X10_shape_0 2 rfl) fk_X10_121 T69 rfl ?_
  refine memI eM_1 ?_
  refine g_aload_n 0 C (ckD_get k_X10_shape_0 3 rfl) rfl rfl ?_
  refine g_getI C (ckD_get k_X10_shape_0 4 rfl) fk_X10_23 T69 rfl ?_
  refine g_iconst (v := (2 : Int32)) C (ckD_get k_X10_shape_0 5 rfl) (by decide) ?_
  have hJ_26 : ∀ (M_2 : Mm), f_X10_shape_J26 M_2 = some r → G K (0, 0) 26 [(0, .ref (K.2.1.1 + 69))] [] M_2 := by
    intro M_2 hf
    unfold f_X10_shape_J26 at hf
    refine g_aload_n 0 C (ckD_get k_X10_shape_0 14 rfl) rfl rfl ?_
    obtain ⟨z_5, ez_5, hf⟩ := lt_e hf
    refine n_cV [] [] C (ckD_get k_X10_shape_0 15 rfl) vk_X10_134 (t_X10_fail C.tr _ _ ez_5) T69 rfl rfl (Nat.le_of_ble_eq_true rfl) (by decide) hB rfl ?_
    cases hf
    exact g_iret C (ckD_get k_X10_shape_0 16 rfl) hr hRv (Nat.le_refl _) (Nat.le_refl _)
  refine g_icmp_ne C (ckD_get k_X10_shape_0 6 rfl) (fun c_6 => ?_) (fun c_6 => ?_)
  · have hf := if_f hf c_6
    refine G.sub [0] rfl ?_
    exact hJ_26 _ hf
  · have hf := if_t hf c_6
    refine g_iload_n 1 C (ckD_get k_X10_shape_0 7 rfl) rfl rfl ?_
    refine g_if_lt C (ckD_get k_X10_shape_0 8 rfl) (fun c_7 => ?_) (fun c_7 => ?_)
    · have hf := if_t hf c_7
      refine G.sub [0] rfl ?_
      exact hJ_26 _ hf
    · have hf := if_f hf c_7
      refine g_iload_n 2 C (ckD_get k_X10_shape_0 9 rfl) rfl rfl ?_
      refine g_if_lt C (ckD_get k_X10_shape_0 10 rfl) (fun c_8 => ?_) (fun c_8 => ?_)
      · have hf := if_t hf c_8
        refine G.sub [0] rfl ?_
        exact hJ_26 _ hf
      · have hf := if_f hf c_8
        refine g_iload_n 2 C (ckD_get k_X10_shape_0 11 rfl) rfl rfl ?_
        refine g_iconst (v := (1 : Int32)) C (ckD_get k_X10_shape_0 12 rfl) (by decide) ?_
        refine g_icmp_le C (ckD_get k_X10_shape_0 13 rfl) (fun c_9 => ?_) (fun c_9 => ?_)
        · have hf := if_t hf c_9
          refine g_aload_n 0 C (ckD_get k_X10_shape_0 17 rfl) rfl rfl ?_
          obtain ⟨M_11, hr_10, hf⟩ := bd_e hf
          refine n_cV [] [] C (ckD_get k_X10_shape_0 18 rfl) vk_X10_275 (t_X10_findCurve C.tr _ _ hr_10) T69 rfl rfl (Nat.le_of_ble_eq_true rfl) (by decide) hB rfl ?_
          refine g_iload_n 1 C (ckD_get k_X10_shape_0 19 rfl) rfl rfl ?_
          refine g_aload_n 0 C (ckD_get k_X10_shape_0 20 rfl) rfl rfl ?_
          refine g_getI C (ckD_get k_X10_shape_0 21 rfl) fk_X10_269 T69 rfl ?_
          refine g_icmp_lt C (ckD_get k_X10_shape_0 22 rfl) (fun c_12 => ?_) (fun c_12 => ?_)
          · have hf := if_t hf c_12
            refine g_iload_n 2 C (ckD_get k_X10_shape_0 26 rfl) rfl rfl ?_
            refine g_if_ne C (ckD_get k_X10_shape_0 27 rfl) (fun c_13 => ?_) (fun c_13 => ?_)
            · have hf := if_f hf c_13
              refine g_aload_n 0 C (ckD_get k_X10_shape_0 33 rfl) rfl rfl ?_
              refine g_getR C (ckD_get k_X10_shape_0 34 rfl) fk_X10_60 T69 rfl ?_
              refine g_iload_n 1 C (ckD_get k_X10_shape_0 35 rfl) rfl rfl ?_
              obtain ⟨v_14, hi_15, ev_14, hf⟩ := rdI_e hf
              refine n_iald C (ckD_get k_X10_shape_0 36 rfl) T85 hi_15 ev_14 ?_
              cases hf
              exact g_iret C (ckD_get k_X10_shape_0 37 rfl) hr hRv (Nat.le_refl _) (Nat.le_refl _)
            · have hf := if_t hf c_13
              refine g_aload_n 0 C (ckD_get k_X10_shape_0 28 rfl) rfl rfl ?_
              refine g_getR C (ckD_get k_X10_shape_0 29 rfl) fk_X10_57 T69 rfl ?_
              refine g_iload_n 1 C (ckD_get k_X10_shape_0 30 rfl) rfl rfl ?_
              obtain ⟨v_16, hi_17, ev_16, hf⟩ := rdI_e hf
              refine n_iald C (ckD_get k_X10_shape_0 31 rfl) T84 hi_17 ev_16 ?_
              refine g_goto C (ckD_get k_X10_shape_0 32 rfl) ?_
              cases hf
              exact g_iret C (ckD_get k_X10_shape_0 37 rfl) hr hRv (Nat.le_refl _) (Nat.le_refl _)
          · have hf := if_f hf c_12
            refine g_aload_n 0 C (ckD_get k_X10_shape_0 23 rfl) rfl rfl ?_
            obtain ⟨z_20, ez_20, hf⟩ := lt_e hf
            refine n_cV [] [] C (ckD_get k_X10_shape_0 24 rfl) vk_X10_134 (t_X10_fail C.tr _ _ ez_20) T69 rfl rfl (Nat.le_of_ble_eq_true rfl) (by decide) hB rfl ?_
            refine g_goto C (ckD_get k_X10_shape_0 25 rfl) ?_
            cases hf
            exact g_iret C (ckD_get k_X10_shape_0 37 rfl) hr hRv (Nat.le_refl _) (Nat.le_refl _)
        · have hf := if_f hf c_9
          refine G.sub [0] rfl ?_
          exact hJ_26 _ hf

set_option maxRecDepth 20000 in
theorem k_X10_best_0 : ckD cX10_best [(0, .aload_n 0, 1, 1, 0), (1, .iconst 0, 1, 2, 0), (2, .putfield 121, 3, 5, 0), (5, .aload_n 0, 1, 6, 0), (6, .getfield 23, 3, 9, 0), (9, .iconst 2, 1, 10, 0), (10, .if_icmp .ne 7, 3, 13, 17), (13, .iload_n 1, 1, 14, 0), (14, .ifCond .ge 8, 3, 17, 22), (17, .aload_n 0, 1, 18, 0), (18, .invokevirtual 134, 3, 21, 0), (21, .ireturn, 1, 22, 0), (22, .aload_n 0, 1, 23, 0), (23, .invokevirtual 275, 3, 26, 0), (26, .iload_n 1, 1, 27, 0), (27, .aload_n 0, 1, 28, 0), (28, .getfield 269, 3, 31, 0), (31, .if_icmp .lt 8, 3, 34, 39), (34, .aload_n 0, 1, 35, 0), (35, .invokevirtual 134, 3, 38, 0), (38, .ireturn, 1, 39, 0), (39, .aload_n 0, 1, 40, 0), (40, .invokevirtual 169, 3, 43, 0), (43, .istore_n 2, 1, 44, 0), (44, .iconst 0, 1, 45, 0), (45, .istore_n 3, 1, 46, 0), (46, .iload_n 3, 1, 47, 0), (47, .iload_n 2, 1, 48, 0), (48, .if_icmp .gt 79, 3, 51, 127), (51, .iload_n 3, 1, 52, 0), (52, .iload_n 2, 1, 53, 0), (53, .iconst (-1), 1, 54, 0), (54, .ixor, 1, 55, 0), (55, .iand, 1, 56, 0), (56, .ifCond .eq 6, 3, 59, 62), (59, .goto 62, 3, 62, 121), (62, .aload_n 0, 1, 63, 0), (63, .iload_n 3, 1, 64, 0), (64, .putfield 127, 3, 67, 0), (67, .aload_n 0, 1, 68, 0)] = true := by decide +kernel
set_option maxRecDepth 20000 in
theorem k_X10_best_1 : ckD cX10_best [(68, .aload_n 0, 1, 69, 0), (69, .getfield 39, 3, 72, 0), (72, .invokevirtual 178, 3, 75, 0), (75, .aload_n 0, 1, 76, 0), (76, .getfield 72, 3, 79, 0), (79, .aload_n 0, 1, 80, 0), (80, .invokevirtual 175, 3, 83, 0), (83, .iconst 1, 1, 84, 0), (84, .isub, 1, 85, 0), (85, .iaload, 1, 86, 0), (86, .aload_n 0, 1, 87, 0), (87, .getfield 57, 3, 90, 0), (90, .iload_n 1, 1, 91, 0), (91, .iaload, 1, 92, 0), (92, .if_icmp .ne 29, 3, 95, 121), (95, .aload_n 0, 1, 96, 0), (96, .getfield 75, 3, 99, 0), (99, .aload_n 0, 1, 100, 0), (100, .invokevirtual 175, 3, 103, 0), (103, .iconst 1, 1, 104, 0), (104, .isub, 1, 105, 0), (105, .iaload, 1, 106, 0), (106, .aload_n 0, 1, 107, 0), (107, .getfield 60, 3, 110, 0), (110, .iload_n 1, 1, 111, 0), (111, .iaload, 1, 112, 0), (112, .if_icmp .ne 9, 3, 115, 121), (115, .aload_n 0, 1, 116, 0), (116, .invokevirtual 186, 3, 119, 0), (119, .iload_n 3, 1, 120, 0), (120, .ireturn, 1, 121, 0), (121, .iinc 3 1, 3, 124, 0), (124, .goto (-78), 3, 127, 46), (127, .iconst 0, 1, 128, 0), (128, .ireturn, 1, 129, 0)] = true := by decide +kernel
def f_X10_best_J17 (M_2 : Mm) : Option (Int32 × Mm) := lt1 (f_X10_fail M_2) fun z_5 => some (z_5.1, z_5.2)
def f_X10_best_A46 (M_15 : Mm) : Option (Int32 × Mm) := some ((0 : Int32), M_15)
def f_X10_best_J121 (x3_13 : Int32) (M_17 : Mm) : Option ((Int32 × Mm) ⊕ (Mm ⊕ (Int32 × Mm))) := lt1 (x3_13 + 1) fun x3_18 => some (.inl (x3_18, M_17))
def f_X10_best_L46 (a1 : Int32) (r_12 : Int32) (x3_13 : Int32) (M_14 : Mm) : Option ((Int32 × Mm) ⊕ (Mm ⊕ (Int32 × Mm))) := if r_12 < x3_13 then some (.inr (.inl M_14)) else if (x3_13 &&& (r_12 ^^^ (-1 : Int32))) = 0 then lt1 (wi M_14 69 7 x3_13) fun M_20 => (f_X10_makeParts 78 M_20).bind fun M_22 => rdI 23 M_22 89 ((f_X10_rowSize M_22) - (1 : Int32)) fun v_23 => rdI 4096 M_22 84 a1 fun v_25 => if v_23 = v_25 then rdI 23 M_22 90 ((f_X10_rowSize M_22) - (1 : Int32)) fun v_28 => rdI 4096 M_22 85 a1 fun v_30 => if v_28 = v_30 then (f_X10_layCuts M_22).bind fun M_34 => some (.inr (.inr (x3_13, M_34))) else f_X10_best_J121 x3_13 M_22 else f_X10_best_J121 x3_13 M_22 else f_X10_best_J121 x3_13 M_14
def f_X10_best (a1 : Int32) (M : Mm) : Option (Int32 × Mm) := lt1 (wi M 69 0 (0 : Int32)) fun M_1 => if (M_1.1 69 6) = (2 : Int32) then (if 0 ≤ a1 then (f_X10_findCurve M_1).bind fun M_9 => if a1 < (M_9.1 69 21) then (f_X10_turnable M_9).bind fun r_12 => (loop (fun v => f_X10_best_L46 a1 r_12 v.1 v.2) FU ((0 : Int32), M_9)).bind fun x => Sum.elim (fun z => f_X10_best_A46 z) (fun o => some o) x else lt1 (f_X10_fail M_9) fun z_37 => some (z_37.1, z_37.2) else f_X10_best_J17 M_1) else f_X10_best_J17 M_1
set_option maxRecDepth 100000 in
set_option maxHeartbeats 4000000 in
theorem t_X10_best {E : Ev} {l : Launch} (htr : l.stackTraces = false) (a1 : Int32) (M : Mm) (r : (Int32 × Mm)) (hf : f_X10_best a1 M = some r) : CM E l 3 0 0 yX10_best cX10_best 4 (some .int) [.ref (E.1 + 69), .int a1] M (some (.int r.1)) r.2 := by
  refine CM.of htr (by decide +kernel) (Nat.le_of_ble_eq_true rfl) ?_
  intro K hE hL hl hR0 C hr hRv
  subst hE
  subst hl
  have C : Cx K cX10_best RX10 3 := C
  have hB : (0 : Nat) ≤ K.1.R.cells ∧ 0 ≤ K.1.R.slots := ⟨Nat.zero_le _, Nat.zero_le _⟩
  have hL2 : 2 < K.2.2.1 := by rw [hL]; decide
  have hL3 : 3 < K.2.2.1 := by rw [hL]; decide
  show G K (0, 0) 0 [(0, .ref (K.2.1.1 + 69)), (1, .int a1)] [] M
  unfold f_X10_best at hf
  refine g_aload_n 0 C (ckD_get k_X10_best_0 0 rfl) rfl rfl ?_
  refine g_iconst (v := (0 : Int32)) C (ckD_get k_X10_best_0 1 rfl) (by decide) ?_
  obtain ⟨M_1, eM_1, hf⟩ := lt_e hf
  refine g_putI C (ckD_get k_X10_best_0 2 rfl) fk_X10_121 T69 rfl ?_
  refine memI eM_1 ?_
  refine g_aload_n 0 C (ckD_get k_X10_best_0 3 rfl) rfl rfl ?_
  refine g_getI C (ckD_get k_X10_best_0 4 rfl) fk_X10_23 T69 rfl ?_
  refine g_iconst (v := (2 : Int32)) C (ckD_get k_X10_best_0 5 rfl) (by decide) ?_
  have hJ_17 : ∀ (M_2 : Mm), f_X10_best_J17 M_2 = some r → G K (0, 0) 17 [(0, .ref (K.2.1.1 + 69))] [] M_2 := by
    intro M_2 hf
    unfold f_X10_best_J17 at hf
    refine g_aload_n 0 C (ckD_get k_X10_best_0 9 rfl) rfl rfl ?_
    obtain ⟨z_5, ez_5, hf⟩ := lt_e hf
    refine n_cV [] [] C (ckD_get k_X10_best_0 10 rfl) vk_X10_134 (t_X10_fail C.tr _ _ ez_5) T69 rfl rfl (Nat.le_of_ble_eq_true rfl) (by decide) hB rfl ?_
    cases hf
    exact g_iret C (ckD_get k_X10_best_0 11 rfl) hr hRv (Nat.le_refl _) (Nat.le_refl _)
  refine g_icmp_ne C (ckD_get k_X10_best_0 6 rfl) (fun c_6 => ?_) (fun c_6 => ?_)
  · have hf := if_f hf c_6
    refine G.sub [0] rfl ?_
    exact hJ_17 _ hf
  · have hf := if_t hf c_6
    refine g_iload_n 1 C (ckD_get k_X10_best_0 7 rfl) rfl rfl ?_
    refine g_if_ge C (ckD_get k_X10_best_0 8 rfl) (fun c_7 => ?_) (fun c_7 => ?_)
    · have hf := if_t hf c_7
      refine g_aload_n 0 C (ckD_get k_X10_best_0 12 rfl) rfl rfl ?_
      obtain ⟨M_9, hr_8, hf⟩ := bd_e hf
      refine n_cV [] [] C (ckD_get k_X10_best_0 13 rfl) vk_X10_275 (t_X10_findCurve C.tr _ _ hr_8) T69 rfl rfl (Nat.le_of_ble_eq_true rfl) (by decide) hB rfl ?_
      refine g_iload_n 1 C (ckD_get k_X10_best_0 14 rfl) rfl rfl ?_
      refine g_aload_n 0 C (ckD_get k_X10_best_0 15 rfl) rfl rfl ?_
      refine g_getI C (ckD_get k_X10_best_0 16 rfl) fk_X10_269 T69 rfl ?_
      refine g_icmp_lt C (ckD_get k_X10_best_0 17 rfl) (fun c_10 => ?_) (fun c_10 => ?_)
      · have hf := if_t hf c_10
        refine g_aload_n 0 C (ckD_get k_X10_best_0 21 rfl) rfl rfl ?_
        obtain ⟨r_12, hr_11, hf⟩ := bd_e hf
        refine n_cV [] [] C (ckD_get k_X10_best_0 22 rfl) vk_X10_169 (t_X10_turnable C.tr _ _ hr_11) T69 rfl rfl (Nat.le_of_ble_eq_true rfl) (by decide) hB rfl ?_
        refine g_istore_n (lv' := [(2, _), (0, _), (1, _)]) C (ckD_get k_X10_best_0 23 rfl) rfl hL2 rfl ?_
        refine g_iconst (v := (0 : Int32)) C (ckD_get k_X10_best_0 24 rfl) (by decide) ?_
        refine g_istore_n (lv' := [(3, _), (2, _), (0, _), (1, _)]) C (ckD_get k_X10_best_0 25 rfl) rfl hL3 rfl ?_
        refine G.sub [2, 3, 1, 0] rfl ?_
        obtain ⟨xx_46, hx_46, hf⟩ := bd_e hf
        have hE_46 : ∀ (M_15 : Mm), xx_46 = .inl M_15 → G K (0, 0) 127 [] [] M_15 := by
          intro M_15 ex
          subst ex
          have hf : f_X10_best_A46 M_15 = some r := hf
          unfold f_X10_best_A46 at hf
          refine g_iconst (v := (0 : Int32)) C (ckD_get k_X10_best_1 33 rfl) (by decide) ?_
          cases hf
          exact g_iret C (ckD_get k_X10_best_1 34 rfl) hr hRv (Nat.le_refl _) (Nat.le_refl _)
        have hO_46 : ∀ o, xx_46 = .inr o → o = r := by
          intro o eo
          subst eo
          have hf : some o = some r := hf
          cases hf
          rfl
        refine loop_e (x := xx_46) (P := fun (v : (Int32 × Mm)) => G K (0, 0) 46 [(0, .ref (K.2.1.1 + 69)), (1, .int a1), (2, .int r_12), (3, .int v.1)] [] v.2) ?_ FU _ hx_46
        intro v rr_46 hf hn_46 hz_46
        obtain ⟨x3_13, M_14⟩ := v
        have hf : f_X10_best_L46 a1 r_12 x3_13 M_14 = some rr_46 := hf
        show G K (0, 0) 46 [(0, .ref (K.2.1.1 + 69)), (1, .int a1), (2, .int r_12), (3, .int x3_13)] [] M_14
        unfold f_X10_best_L46 at hf
        refine g_iload_n 3 C (ckD_get k_X10_best_0 26 rfl) rfl rfl ?_
        refine g_iload_n 2 C (ckD_get k_X10_best_0 27 rfl) rfl rfl ?_
        refine g_icmp_gt C (ckD_get k_X10_best_0 28 rfl) (fun c_16 => ?_) (fun c_16 => ?_)
        · have hf := if_t hf c_16
          refine G.sub [] rfl ?_
          cases hf
          exact hE_46 _ (hz_46 _ rfl).symm
        · have hf := if_f hf c_16
          refine g_iload_n 3 C (ckD_get k_X10_best_0 29 rfl) rfl rfl ?_
          refine g_iload_n 2 C (ckD_get k_X10_best_0 30 rfl) rfl rfl ?_
          refine g_iconst (v := (-1 : Int32)) C (ckD_get k_X10_best_0 31 rfl) (by decide) ?_
          refine g_ixor C (ckD_get k_X10_best_0 32 rfl) ?_
          refine g_iand C (ckD_get k_X10_best_0 33 rfl) ?_
          have hJ_121 : ∀ (M_17 : Mm), f_X10_best_J121 x3_13 M_17 = some rr_46 → G K (0, 0) 121 [(0, .ref (K.2.1.1 + 69)), (1, .int a1), (2, .int r_12), (3, .int x3_13)] [] M_17 := by
            intro M_17 hf
            unfold f_X10_best_J121 at hf
            obtain ⟨x3_18, ex3_18, hf⟩ := lt_e hf
            refine g_iinc (lv' := [(3, _), (0, _), (1, _), (2, _)]) 3 C (ckD_get k_X10_best_1 31 rfl) rfl ex3_18 hL3 rfl ?_
            refine g_goto C (ckD_get k_X10_best_1 32 rfl) ?_
            refine G.sub [1, 2, 3, 0] rfl ?_
            cases hf
            exact hn_46 _ rfl
          refine g_if_eq C (ckD_get k_X10_best_0 34 rfl) (fun c_19 => ?_) (fun c_19 => ?_)
          · have hf := if_t hf c_19
            refine g_aload_n 0 C (ckD_get k_X10_best_0 36 rfl) rfl rfl ?_
            refine g_iload_n 3 C (ckD_get k_X10_best_0 37 rfl) rfl rfl ?_
            obtain ⟨M_20, eM_20, hf⟩ := lt_e hf
            refine g_putI C (ckD_get k_X10_best_0 38 rfl) fk_X10_127 T69 rfl ?_
            refine memI eM_20 ?_
            refine g_aload_n 0 C (ckD_get k_X10_best_0 39 rfl) rfl rfl ?_
            refine g_aload_n 0 C (ckD_get k_X10_best_1 0 rfl) rfl rfl ?_
            refine g_getR C (ckD_get k_X10_best_1 1 rfl) fk_X10_39 T69 rfl ?_
            obtain ⟨M_22, hr_21, hf⟩ := bd_e hf
            refine n_cV [.ref (K.2.1.1 + 78)] [] C (ckD_get k_X10_best_1 2 rfl) vk_X10_178 (t_X10_makeParts C.tr _ T78 _ _ hr_21) T69 rfl rfl (Nat.le_of_ble_eq_true rfl) (by decide) hB rfl ?_
            refine g_aload_n 0 C (ckD_get k_X10_best_1 3 rfl) rfl rfl ?_
            refine g_getR C (ckD_get k_X10_best_1 4 rfl) fk_X10_72 T69 rfl ?_
            refine g_aload_n 0 C (ckD_get k_X10_best_1 5 rfl) rfl rfl ?_
            refine n_cV [] [.ref (K.2.1.1 + 89)] C (ckD_get k_X10_best_1 6 rfl) vk_X10_175 (t_X10_rowSize C.tr _ _ rfl) T69 rfl rfl (Nat.le_of_ble_eq_true rfl) (by decide) hB rfl ?_
            refine g_iconst (v := (1 : Int32)) C (ckD_get k_X10_best_1 7 rfl) (by decide) ?_
            refine g_isub C (ckD_get k_X10_best_1 8 rfl) ?_
            obtain ⟨v_23, hi_24, ev_23, hf⟩ := rdI_e hf
            refine n_iald C (ckD_get k_X10_best_1 9 rfl) T89 hi_24 ev_23 ?_
            refine g_aload_n 0 C (ckD_get k_X10_best_1 10 rfl) rfl rfl ?_
            refine g_getR C (ckD_get k_X10_best_1 11 rfl) fk_X10_57 T69 rfl ?_
            refine g_iload_n 1 C (ckD_get k_X10_best_1 12 rfl) rfl rfl ?_
            obtain ⟨v_25, hi_26, ev_25, hf⟩ := rdI_e hf
            refine n_iald C (ckD_get k_X10_best_1 13 rfl) T84 hi_26 ev_25 ?_
            refine g_icmp_ne C (ckD_get k_X10_best_1 14 rfl) (fun c_27 => ?_) (fun c_27 => ?_)
            · have hf := if_f hf c_27
              exact hJ_121 _ hf
            · have hf := if_t hf c_27
              refine g_aload_n 0 C (ckD_get k_X10_best_1 15 rfl) rfl rfl ?_
              refine g_getR C (ckD_get k_X10_best_1 16 rfl) fk_X10_75 T69 rfl ?_
              refine g_aload_n 0 C (ckD_get k_X10_best_1 17 rfl) rfl rfl ?_
              refine n_cV [] [.ref (K.2.1.1 + 90)] C (ckD_get k_X10_best_1 18 rfl) vk_X10_175 (t_X10_rowSize C.tr _ _ rfl) T69 rfl rfl (Nat.le_of_ble_eq_true rfl) (by decide) hB rfl ?_
              refine g_iconst (v := (1 : Int32)) C (ckD_get k_X10_best_1 19 rfl) (by decide) ?_
              refine g_isub C (ckD_get k_X10_best_1 20 rfl) ?_
              obtain ⟨v_28, hi_29, ev_28, hf⟩ := rdI_e hf
              refine n_iald C (ckD_get k_X10_best_1 21 rfl) T90 hi_29 ev_28 ?_
              refine g_aload_n 0 C (ckD_get k_X10_best_1 22 rfl) rfl rfl ?_
              refine g_getR C (ckD_get k_X10_best_1 23 rfl) fk_X10_60 T69 rfl ?_
              refine g_iload_n 1 C (ckD_get k_X10_best_1 24 rfl) rfl rfl ?_
              obtain ⟨v_30, hi_31, ev_30, hf⟩ := rdI_e hf
              refine n_iald C (ckD_get k_X10_best_1 25 rfl) T85 hi_31 ev_30 ?_
              refine g_icmp_ne C (ckD_get k_X10_best_1 26 rfl) (fun c_32 => ?_) (fun c_32 => ?_)
              · have hf := if_f hf c_32
                exact hJ_121 _ hf
              · have hf := if_t hf c_32
                refine g_aload_n 0 C (ckD_get k_X10_best_1 27 rfl) rfl rfl ?_
                obtain ⟨M_34, hr_33, hf⟩ := bd_e hf
                refine n_cV [] [] C (ckD_get k_X10_best_1 28 rfl) vk_X10_186 (t_X10_layCuts C.tr _ _ hr_33) T69 rfl rfl (Nat.le_of_ble_eq_true rfl) (by decide) hB rfl ?_
                refine g_iload_n 3 C (ckD_get k_X10_best_1 29 rfl) rfl rfl ?_
                cases hf
                cases hO_46 _ (hz_46 _ rfl).symm
                exact g_iret C (ckD_get k_X10_best_1 30 rfl) hr hRv (Nat.le_refl _) (Nat.le_refl _)
          · have hf := if_f hf c_19
            refine g_goto C (ckD_get k_X10_best_0 35 rfl) ?_
            exact hJ_121 _ hf
      · have hf := if_f hf c_10
        refine g_aload_n 0 C (ckD_get k_X10_best_0 18 rfl) rfl rfl ?_
        obtain ⟨z_37, ez_37, hf⟩ := lt_e hf
        refine n_cV [] [] C (ckD_get k_X10_best_0 19 rfl) vk_X10_134 (t_X10_fail C.tr _ _ ez_37) T69 rfl rfl (Nat.le_of_ble_eq_true rfl) (by decide) hB rfl ?_
        cases hf
        exact g_iret C (ckD_get k_X10_best_0 20 rfl) hr hRv (Nat.le_refl _) (Nat.le_refl _)
    · have hf := if_f hf c_7
      refine G.sub [0] rfl ?_
      exact hJ_17 _ hf

set_option maxRecDepth 20000 in
theorem k_X10_next_0 : ckD cX10_next [(0, .iload_n 1, 1, 1, 0), (1, .iconst 2, 1, 2, 0), (2, .isub, 1, 3, 0), (3, .istore_n 2, 1, 4, 0), (4, .iload_n 2, 1, 5, 0), (5, .ifCond .lt 20, 3, 8, 25), (8, .aload_n 0, 1, 9, 0), (9, .iload_n 2, 1, 10, 0), (10, .iaload, 1, 11, 0), (11, .aload_n 0, 1, 12, 0), (12, .iload_n 2, 1, 13, 0), (13, .iconst 1, 1, 14, 0), (14, .iadd, 1, 15, 0), (15, .iaload, 1, 16, 0), (16, .if_icmp .le 9, 3, 19, 25), (19, .iinc 2 (-1), 3, 22, 0), (22, .goto (-18), 3, 25, 4), (25, .iload_n 2, 1, 26, 0), (26, .ifCond .ge 5, 3, 29, 31), (29, .iconst 0, 1, 30, 0), (30, .ireturn, 1, 31, 0), (31, .iload_n 1, 1, 32, 0), (32, .iconst 1, 1, 33, 0), (33, .isub, 1, 34, 0), (34, .istore_n 3, 1, 35, 0), (35, .aload_n 0, 1, 36, 0), (36, .iload_n 3, 1, 37, 0), (37, .iaload, 1, 38, 0), (38, .aload_n 0, 1, 39, 0), (39, .iload_n 2, 1, 40, 0), (40, .iaload, 1, 41, 0), (41, .if_icmp .ge 9, 3, 44, 50), (44, .iinc 3 (-1), 3, 47, 0), (47, .goto (-12), 3, 50, 35), (50, .aload_n 0, 1, 51, 0), (51, .iload_n 2, 1, 52, 0), (52, .iaload, 1, 53, 0), (53, .istore 4, 2, 55, 0), (55, .aload_n 0, 1, 56, 0), (56, .iload_n 2, 1, 57, 0)] = true := by decide +kernel
set_option maxRecDepth 20000 in
theorem k_X10_next_1 : ckD cX10_next [(57, .aload_n 0, 1, 58, 0), (58, .iload_n 3, 1, 59, 0), (59, .iaload, 1, 60, 0), (60, .iastore, 1, 61, 0), (61, .aload_n 0, 1, 62, 0), (62, .iload_n 3, 1, 63, 0), (63, .iload 4, 2, 65, 0), (65, .iastore, 1, 66, 0), (66, .iload_n 2, 1, 67, 0), (67, .iconst 1, 1, 68, 0), (68, .iadd, 1, 69, 0), (69, .istore 5, 2, 71, 0), (71, .iload_n 1, 1, 72, 0), (72, .iconst 1, 1, 73, 0), (73, .isub, 1, 74, 0), (74, .istore 6, 2, 76, 0), (76, .iload 5, 2, 78, 0), (78, .iload 6, 2, 80, 0), (80, .if_icmp .ge 32, 3, 83, 112), (83, .aload_n 0, 1, 84, 0), (84, .iload 5, 2, 86, 0), (86, .iaload, 1, 87, 0), (87, .istore 4, 2, 89, 0), (89, .aload_n 0, 1, 90, 0), (90, .iload 5, 2, 92, 0), (92, .aload_n 0, 1, 93, 0), (93, .iload 6, 2, 95, 0), (95, .iaload, 1, 96, 0), (96, .iastore, 1, 97, 0), (97, .aload_n 0, 1, 98, 0), (98, .iload 6, 2, 100, 0), (100, .iload 4, 2, 102, 0), (102, .iastore, 1, 103, 0), (103, .iinc 5 1, 3, 106, 0), (106, .iinc 6 (-1), 3, 109, 0), (109, .goto (-33), 3, 112, 76), (112, .iconst 1, 1, 113, 0), (113, .ireturn, 1, 114, 0)] = true := by decide +kernel
def f_X10_next_A76 (M_21 : Mm) : Option (Int32 × Mm) := some ((1 : Int32), M_21)
def f_X10_next_L76 (k0 : Nat) (x5_18 : Int32) (x6_19 : Int32) (M_20 : Mm) : Option ((Int32 × Int32 × Mm) ⊕ Mm) := if x6_19 ≤ x5_18 then some (.inr M_20) else rdI 12 M_20 k0 x5_18 fun v_23 => rdI 12 M_20 k0 x6_19 fun v_25 => wrI 12 M_20 k0 x5_18 v_25 fun M_27 => wrI 12 M_27 k0 x6_19 v_23 fun M_29 => lt1 (x5_18 + 1) fun x5_31 => lt1 (x6_19 + (-1)) fun x6_32 => some (.inl (x5_31, x6_32, M_29))
def f_X10_next_A35 (k0 : Nat) (a1 : Int32) (M : Mm) (x2_3 : Int32) (x3_7 : Int32) : Option (Int32 × Mm) := rdI 12 M k0 x2_3 fun v_8 => rdI 12 M k0 x3_7 fun v_10 => wrI 12 M k0 x2_3 v_10 fun M_12 => wrI 12 M_12 k0 x3_7 v_8 fun M_14 => lt1 (x2_3 + (1 : Int32)) fun x5_16 => lt1 (a1 - (1 : Int32)) fun x6_17 => (loop (fun v => f_X10_next_L76 k0 v.1 v.2.1 v.2.2) FU (x5_16, x6_17, M_14)).bind fun z => f_X10_next_A76 z
def f_X10_next_L35 (k0 : Nat) (M : Mm) (x2_3 : Int32) (x3_6 : Int32) : Option (Int32 ⊕ Int32) := rdI 12 M k0 x3_6 fun v_33 => rdI 12 M k0 x2_3 fun v_35 => if v_35 ≤ v_33 then some (.inr x3_6) else lt1 (x3_6 + (-1)) fun x3_38 => some (.inl x3_38)
def f_X10_next_A4 (k0 : Nat) (a1 : Int32) (M : Mm) (x2_3 : Int32) : Option (Int32 × Mm) := if 0 ≤ x2_3 then lt1 (a1 - (1 : Int32)) fun x3_5 => (loop (fun v => f_X10_next_L35 k0 M x2_3 v) FU x3_5).bind fun z => f_X10_next_A35 k0 a1 M x2_3 z else some ((0 : Int32), M)
def f_X10_next_L4 (k0 : Nat) (M : Mm) (x2_2 : Int32) : Option (Int32 ⊕ Int32) := if x2_2 < 0 then some (.inr x2_2) else rdI 12 M k0 x2_2 fun v_40 => rdI 12 M k0 (x2_2 + (1 : Int32)) fun v_42 => if v_40 ≤ v_42 then some (.inr x2_2) else lt1 (x2_2 + (-1)) fun x2_45 => some (.inl x2_45)
def f_X10_next (k0 : Nat) (a1 : Int32) (M : Mm) : Option (Int32 × Mm) := lt1 (a1 - (2 : Int32)) fun x2_1 => (loop (fun v => f_X10_next_L4 k0 M v) FU x2_1).bind fun z => f_X10_next_A4 k0 a1 M z
set_option maxRecDepth 100000 in
set_option maxHeartbeats 4000000 in
theorem t_X10_next {E : Ev} {l : Launch} (htr : l.stackTraces = false) (k0 : Nat) (hk0 : LT[k0]? = some (0, 12, [])) (a1 : Int32) (M : Mm) (r : (Int32 × Mm)) (hf : f_X10_next k0 a1 M = some r) : CM E l 0 0 0 yX10_next cX10_next 7 (some .boolean) [.ref (E.1 + k0), .int a1] M (some (.int r.1)) r.2 := by
  refine CM.of htr (by decide +kernel) (Nat.le_of_ble_eq_true rfl) ?_
  intro K hE hL hl hR0 C hr hRv
  subst hE
  subst hl
  have C : Cx K cX10_next RX10 0 := C
  have hB : (0 : Nat) ≤ K.1.R.cells ∧ 0 ≤ K.1.R.slots := ⟨Nat.zero_le _, Nat.zero_le _⟩
  have hL2 : 2 < K.2.2.1 := by rw [hL]; decide
  have hL3 : 3 < K.2.2.1 := by rw [hL]; decide
  have hL4 : 4 < K.2.2.1 := by rw [hL]; decide
  have hL5 : 5 < K.2.2.1 := by rw [hL]; decide
  have hL6 : 6 < K.2.2.1 := by rw [hL]; decide
  show G K (0, 0) 0 [(0, .ref (K.2.1.1 + k0)), (1, .int a1)] [] M
  unfold f_X10_next at hf
  refine g_iload_n 1 C (ckD_get k_X10_next_0 0 rfl) rfl rfl ?_
  refine g_iconst (v := (2 : Int32)) C (ckD_get k_X10_next_0 1 rfl) (by decide) ?_
  refine g_isub C (ckD_get k_X10_next_0 2 rfl) ?_
  obtain ⟨x2_1, ex2_1, hf⟩ := lt_e hf
  refine topI ex2_1 ?_
  refine g_istore_n (lv' := [(2, _), (0, _), (1, _)]) C (ckD_get k_X10_next_0 3 rfl) rfl hL2 rfl ?_
  refine G.sub [1, 2, 0] rfl ?_
  obtain ⟨x2_3, hx_4, hf⟩ := bd_e hf
  have hE_4 : G K (0, 0) 25 [(0, .ref (K.2.1.1 + k0)), (1, .int a1), (2, .int x2_3)] [] M := by
    have hf : f_X10_next_A4 k0 a1 M x2_3 = some r := hf
    unfold f_X10_next_A4 at hf
    refine g_iload_n 2 C (ckD_get k_X10_next_0 17 rfl) rfl rfl ?_
    refine g_if_ge C (ckD_get k_X10_next_0 18 rfl) (fun c_4 => ?_) (fun c_4 => ?_)
    · have hf := if_t hf c_4
      refine g_iload_n 1 C (ckD_get k_X10_next_0 21 rfl) rfl rfl ?_
      refine g_iconst (v := (1 : Int32)) C (ckD_get k_X10_next_0 22 rfl) (by decide) ?_
      refine g_isub C (ckD_get k_X10_next_0 23 rfl) ?_
      obtain ⟨x3_5, ex3_5, hf⟩ := lt_e hf
      refine topI ex3_5 ?_
      refine g_istore_n (lv' := [(3, _), (0, _), (1, _), (2, _)]) C (ckD_get k_X10_next_0 24 rfl) rfl hL3 rfl ?_
      refine G.sub [1, 2, 3, 0] rfl ?_
      obtain ⟨x3_7, hx_35, hf⟩ := bd_e hf
      have hE_35 : G K (0, 0) 50 [(0, .ref (K.2.1.1 + k0)), (1, .int a1), (2, .int x2_3), (3, .int x3_7)] [] M := by
        have hf : f_X10_next_A35 k0 a1 M x2_3 x3_7 = some r := hf
        unfold f_X10_next_A35 at hf
        refine g_aload_n 0 C (ckD_get k_X10_next_0 34 rfl) rfl rfl ?_
        refine g_iload_n 2 C (ckD_get k_X10_next_0 35 rfl) rfl rfl ?_
        obtain ⟨v_8, hi_9, ev_8, hf⟩ := rdI_e hf
        refine n_iald C (ckD_get k_X10_next_0 36 rfl) hk0 hi_9 ev_8 ?_
        refine g_istore (lv' := [(4, _), (0, _), (1, _), (2, _), (3, _)]) C (ckD_get k_X10_next_0 37 rfl) hL4 rfl ?_
        refine g_aload_n 1 C (ckD_get k_X10_next_0 38 rfl) rfl rfl ?_
        refine g_iload_n 3 C (ckD_get k_X10_next_0 39 rfl) rfl rfl ?_
        refine g_aload_n 1 C (ckD_get k_X10_next_1 0 rfl) rfl rfl ?_
        refine g_iload_n 4 C (ckD_get k_X10_next_1 1 rfl) rfl rfl ?_
        obtain ⟨v_10, hi_11, ev_10, hf⟩ := rdI_e hf
        refine n_iald C (ckD_get k_X10_next_1 2 rfl) hk0 hi_11 ev_10 ?_
        obtain ⟨M_12, hi_13, eM_12, hf⟩ := wrI_e hf
        refine n_iast C (ckD_get k_X10_next_1 3 rfl) hk0 hi_13 eM_12 ?_
        refine g_aload_n 1 C (ckD_get k_X10_next_1 4 rfl) rfl rfl ?_
        refine g_iload_n 4 C (ckD_get k_X10_next_1 5 rfl) rfl rfl ?_
        refine g_iload 0 C (ckD_get k_X10_next_1 6 rfl) rfl ?_
        obtain ⟨M_14, hi_15, eM_14, hf⟩ := wrI_e hf
        refine n_iast C (ckD_get k_X10_next_1 7 rfl) hk0 hi_15 eM_14 ?_
        refine g_iload_n 3 C (ckD_get k_X10_next_1 8 rfl) rfl rfl ?_
        refine g_iconst (v := (1 : Int32)) C (ckD_get k_X10_next_1 9 rfl) (by decide) ?_
        refine g_iadd C (ckD_get k_X10_next_1 10 rfl) ?_
        obtain ⟨x5_16, ex5_16, hf⟩ := lt_e hf
        refine topI ex5_16 ?_
        refine g_istore (lv' := [(5, _), (4, _), (0, _), (1, _), (2, _), (3, _)]) C (ckD_get k_X10_next_1 11 rfl) hL5 rfl ?_
        refine g_iload_n 3 C (ckD_get k_X10_next_1 12 rfl) rfl rfl ?_
        refine g_iconst (v := (1 : Int32)) C (ckD_get k_X10_next_1 13 rfl) (by decide) ?_
        refine g_isub C (ckD_get k_X10_next_1 14 rfl) ?_
        obtain ⟨x6_17, ex6_17, hf⟩ := lt_e hf
        refine topI ex6_17 ?_
        refine g_istore (lv' := [(6, _), (5, _), (4, _), (0, _), (1, _), (2, _), (3, _)]) C (ckD_get k_X10_next_1 15 rfl) hL6 rfl ?_
        refine G.sub [3, 1, 0] rfl ?_
        obtain ⟨M_21, hx_76, hf⟩ := bd_e hf
        have hE_76 : G K (0, 0) 112 [] [] M_21 := by
          have hf : f_X10_next_A76 M_21 = some r := hf
          unfold f_X10_next_A76 at hf
          refine g_iconst (v := (1 : Int32)) C (ckD_get k_X10_next_1 36 rfl) (by decide) ?_
          cases hf
          exact g_zret C (ckD_get k_X10_next_1 37 rfl) hr rfl hRv (Nat.le_refl _) (Nat.le_refl _)
        refine loop_e (x := M_21) (P := fun (v : (Int32 × Int32 × Mm)) => G K (0, 0) 76 [(0, .ref (K.2.1.1 + k0)), (5, .int v.1), (6, .int v.2.1)] [] v.2.2) ?_ FU _ hx_76
        intro v rr_76 hf hn_76 hz_76
        obtain ⟨x5_18, x6_19, M_20⟩ := v
        have hf : f_X10_next_L76 k0 x5_18 x6_19 M_20 = some rr_76 := hf
        show G K (0, 0) 76 [(0, .ref (K.2.1.1 + k0)), (5, .int x5_18), (6, .int x6_19)] [] M_20
        unfold f_X10_next_L76 at hf
        refine g_iload 1 C (ckD_get k_X10_next_1 16 rfl) rfl ?_
        refine g_iload 2 C (ckD_get k_X10_next_1 17 rfl) rfl ?_
        refine g_icmp_ge C (ckD_get k_X10_next_1 18 rfl) (fun c_22 => ?_) (fun c_22 => ?_)
        · have hf := if_t hf c_22
          refine G.sub [] rfl ?_
          cases hf
          cases hz_76 _ rfl
          exact hE_76
        · have hf := if_f hf c_22
          refine g_aload_n 0 C (ckD_get k_X10_next_1 19 rfl) rfl rfl ?_
          refine g_iload 1 C (ckD_get k_X10_next_1 20 rfl) rfl ?_
          obtain ⟨v_23, hi_24, ev_23, hf⟩ := rdI_e hf
          refine n_iald C (ckD_get k_X10_next_1 21 rfl) hk0 hi_24 ev_23 ?_
          refine g_istore (lv' := [(4, _), (0, _), (5, _), (6, _)]) C (ckD_get k_X10_next_1 22 rfl) hL4 rfl ?_
          refine g_aload_n 1 C (ckD_get k_X10_next_1 23 rfl) rfl rfl ?_
          refine g_iload 2 C (ckD_get k_X10_next_1 24 rfl) rfl ?_
          refine g_aload_n 1 C (ckD_get k_X10_next_1 25 rfl) rfl rfl ?_
          refine g_iload 3 C (ckD_get k_X10_next_1 26 rfl) rfl ?_
          obtain ⟨v_25, hi_26, ev_25, hf⟩ := rdI_e hf
          refine n_iald C (ckD_get k_X10_next_1 27 rfl) hk0 hi_26 ev_25 ?_
          obtain ⟨M_27, hi_28, eM_27, hf⟩ := wrI_e hf
          refine n_iast C (ckD_get k_X10_next_1 28 rfl) hk0 hi_28 eM_27 ?_
          refine g_aload_n 1 C (ckD_get k_X10_next_1 29 rfl) rfl rfl ?_
          refine g_iload 3 C (ckD_get k_X10_next_1 30 rfl) rfl ?_
          refine g_iload 0 C (ckD_get k_X10_next_1 31 rfl) rfl ?_
          obtain ⟨M_29, hi_30, eM_29, hf⟩ := wrI_e hf
          refine n_iast C (ckD_get k_X10_next_1 32 rfl) hk0 hi_30 eM_29 ?_
          obtain ⟨x5_31, ex5_31, hf⟩ := lt_e hf
          refine g_iinc (lv' := [(5, _), (4, _), (0, _), (6, _)]) 2 C (ckD_get k_X10_next_1 33 rfl) rfl ex5_31 hL5 rfl ?_
          obtain ⟨x6_32, ex6_32, hf⟩ := lt_e hf
          refine g_iinc (lv' := [(6, _), (5, _), (4, _), (0, _)]) 3 C (ckD_get k_X10_next_1 34 rfl) rfl ex6_32 hL6 rfl ?_
          refine g_goto C (ckD_get k_X10_next_1 35 rfl) ?_
          refine G.sub [3, 1, 0] rfl ?_
          cases hf
          exact hn_76 _ rfl
      refine loop_e (x := x3_7) (P := fun (v : Int32) => G K (0, 0) 35 [(0, .ref (K.2.1.1 + k0)), (1, .int a1), (2, .int x2_3), (3, .int v)] [] M) ?_ FU _ hx_35
      intro x3_6 rr_35 hf hn_35 hz_35
      have hf : f_X10_next_L35 k0 M x2_3 x3_6 = some rr_35 := hf
      show G K (0, 0) 35 [(0, .ref (K.2.1.1 + k0)), (1, .int a1), (2, .int x2_3), (3, .int x3_6)] [] M
      unfold f_X10_next_L35 at hf
      refine g_aload_n 0 C (ckD_get k_X10_next_0 25 rfl) rfl rfl ?_
      refine g_iload_n 3 C (ckD_get k_X10_next_0 26 rfl) rfl rfl ?_
      obtain ⟨v_33, hi_34, ev_33, hf⟩ := rdI_e hf
      refine n_iald C (ckD_get k_X10_next_0 27 rfl) hk0 hi_34 ev_33 ?_
      refine g_aload_n 0 C (ckD_get k_X10_next_0 28 rfl) rfl rfl ?_
      refine g_iload_n 2 C (ckD_get k_X10_next_0 29 rfl) rfl rfl ?_
      obtain ⟨v_35, hi_36, ev_35, hf⟩ := rdI_e hf
      refine n_iald C (ckD_get k_X10_next_0 30 rfl) hk0 hi_36 ev_35 ?_
      refine g_icmp_ge C (ckD_get k_X10_next_0 31 rfl) (fun c_37 => ?_) (fun c_37 => ?_)
      · have hf := if_t hf c_37
        cases hf
        cases hz_35 _ rfl
        exact hE_35
      · have hf := if_f hf c_37
        obtain ⟨x3_38, ex3_38, hf⟩ := lt_e hf
        refine g_iinc (lv' := [(3, _), (0, _), (1, _), (2, _)]) 3 C (ckD_get k_X10_next_0 32 rfl) rfl ex3_38 hL3 rfl ?_
        refine g_goto C (ckD_get k_X10_next_0 33 rfl) ?_
        refine G.sub [1, 2, 3, 0] rfl ?_
        cases hf
        exact hn_35 _ rfl
    · have hf := if_f hf c_4
      refine g_iconst (v := (0 : Int32)) C (ckD_get k_X10_next_0 19 rfl) (by decide) ?_
      cases hf
      exact g_zret C (ckD_get k_X10_next_0 20 rfl) hr rfl hRv (Nat.le_refl _) (Nat.le_refl _)
  refine loop_e (x := x2_3) (P := fun (v : Int32) => G K (0, 0) 4 [(0, .ref (K.2.1.1 + k0)), (1, .int a1), (2, .int v)] [] M) ?_ FU _ hx_4
  intro x2_2 rr_4 hf hn_4 hz_4
  have hf : f_X10_next_L4 k0 M x2_2 = some rr_4 := hf
  show G K (0, 0) 4 [(0, .ref (K.2.1.1 + k0)), (1, .int a1), (2, .int x2_2)] [] M
  unfold f_X10_next_L4 at hf
  refine g_iload_n 2 C (ckD_get k_X10_next_0 4 rfl) rfl rfl ?_
  refine g_if_lt C (ckD_get k_X10_next_0 5 rfl) (fun c_39 => ?_) (fun c_39 => ?_)
  · have hf := if_t hf c_39
    cases hf
    cases hz_4 _ rfl
    exact hE_4
  · have hf := if_f hf c_39
    refine g_aload_n 0 C (ckD_get k_X10_next_0 6 rfl) rfl rfl ?_
    refine g_iload_n 2 C (ckD_get k_X10_next_0 7 rfl) rfl rfl ?_
    obtain ⟨v_40, hi_41, ev_40, hf⟩ := rdI_e hf
    refine n_iald C (ckD_get k_X10_next_0 8 rfl) hk0 hi_41 ev_40 ?_
    refine g_aload_n 0 C (ckD_get k_X10_next_0 9 rfl) rfl rfl ?_
    refine g_iload_n 2 C (ckD_get k_X10_next_0 10 rfl) rfl rfl ?_
    refine g_iconst (v := (1 : Int32)) C (ckD_get k_X10_next_0 11 rfl) (by decide) ?_
    refine g_iadd C (ckD_get k_X10_next_0 12 rfl) ?_
    obtain ⟨v_42, hi_43, ev_42, hf⟩ := rdI_e hf
    refine n_iald C (ckD_get k_X10_next_0 13 rfl) hk0 hi_43 ev_42 ?_
    refine g_icmp_le C (ckD_get k_X10_next_0 14 rfl) (fun c_44 => ?_) (fun c_44 => ?_)
    · have hf := if_t hf c_44
      cases hf
      cases hz_4 _ rfl
      exact hE_4
    · have hf := if_f hf c_44
      obtain ⟨x2_45, ex2_45, hf⟩ := lt_e hf
      refine g_iinc (lv' := [(2, _), (0, _), (1, _)]) 2 C (ckD_get k_X10_next_0 15 rfl) rfl ex2_45 hL2 rfl ?_
      refine g_goto C (ckD_get k_X10_next_0 16 rfl) ?_
      refine G.sub [1, 2, 0] rfl ?_
      cases hf
      exact hn_4 _ rfl
