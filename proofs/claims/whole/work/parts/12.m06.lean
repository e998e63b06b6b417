set_option maxRecDepth 20000 in
theorem k_X7_searchCuts_0 : ckD cX7_searchCuts [(0, .aload_n 0, 1, 1, 0), (1, .getfield 34, 3, 4, 0), (4, .iconst 2, 1, 5, 0), (5, .aload_n 0, 1, 6, 0), (6, .getfield 88, 3, 9, 0), (9, .imul, 1, 10, 0), (10, .iconst 1, 1, 11, 0), (11, .isub, 1, 12, 0), (12, .putfield 179, 3, 15, 0), (15, .aload_n 0, 1, 16, 0), (16, .iconst 0, 1, 17, 0), (17, .iconst 0, 1, 18, 0), (18, .iconst 0, 1, 19, 0), (19, .invokevirtual 182, 3, 22, 0), (22, .aload_n 0, 1, 23, 0), (23, .getfield 34, 3, 26, 0), (26, .aload_n 0, 1, 27, 0), (27, .getfield 57, 3, 30, 0), (30, .getfield 130, 3, 33, 0), (33, .aload_n 0, 1, 34, 0), (34, .getfield 57, 3, 37, 0), (37, .getfield 137, 3, 40, 0), (40, .aload_n 0, 1, 41, 0), (41, .getfield 88, 3, 44, 0), (44, .invokevirtual 186, 3, 47, 0), (47, .aload_n 0, 1, 48, 0), (48, .getfield 57, 3, 51, 0), (51, .ldc 102, 2, 53, 0), (53, .putfield 61, 3, 56, 0), (56, .aload_n 0, 1, 57, 0), (57, .aload_n 0, 1, 58, 0), (58, .getfield 34, 3, 61, 0), (61, .invokevirtual 118, 3, 64, 0), (64, .pop, 1, 65, 0), (65, .return_, 1, 66, 0)] = true := by decide +kernel
def f_X7_searchCuts  (M : Mm) : Option Mm := lt1 (wi M 48 5 (((2 : Int32) * (M.1 34 8)) - (1 : Int32))) fun M_1 => (f_X7_extend 30 (0 : Int32) (0 : Int32) (0 : Int32) M_1).bind fun M_3 => lt1 ((M_3.1 34 7).toNatClampNeg) fun k_4 => gd (decide (65 ≤ k_4 ∧ k_4 < 69)) <| lt1 ((M_3.1 34 7).toNatClampNeg) fun k_5 => gd (decide (65 ≤ k_5 ∧ k_5 < 69)) <| (f_X6_read 48 (M_3.2 k_4 2) (M_3.2 k_5 3) (M_3.1 34 8) M_3).bind fun M_7 => lt1 ((M_7.1 34 7).toNatClampNeg) fun k_8 => gd (decide (65 ≤ k_8 ∧ k_8 < 69)) <| lt1 (wi M_7 k_8 0 (2147483647 : Int32)) fun M_9 => bd2 (f_X7_comesLower 48 M_9) fun r_12 M_11 => some M_11
set_option maxRecDepth 100000 in
set_option maxHeartbeats 4000000 in
theorem t_X7_searchCuts {E : Ev} {l : Launch} (htr : l.stackTraces = false) (M : Mm) (r : Mm) (hf : f_X7_searchCuts M = some r) : CM E l 36 0 0 yX7_searchCuts cX7_searchCuts 1 none [.ref (E.1 + 34)] M none r := by
  refine CM.of htr (by decide +kernel) (Nat.le_of_ble_eq_true rfl) ?_
  intro K hE hL hl hR0 C hr hRv
  subst hE
  subst hl
  have C : Cx K cX7_searchCuts RX7 36 := C
  have hB : (0 : Nat) ≤ K.1.R.cells ∧ 0 ≤ K.1.R.slots := ⟨Nat.zero_le _, Nat.zero_le _⟩
  show G K (0, 0) 0 [(0, .ref (K.2.1.1 + 34))] [] M
  unfold f_X7_searchCuts at hf
  refine g_aload_n 0 C (ckD_get k_X7_searchCuts_0 0 rfl) rfl rfl ?_
  refine g_getR C (ckD_get k_X7_searchCuts_0 1 rfl) fk_X7_34 T34 rfl ?_
  refine g_iconst (v := (2 : Int32)) C (ckD_get k_X7_searchCuts_0 2 rfl) (by decide) ?_
  refine g_aload_n 0 C (ckD_get k_X7_searchCuts_0 3 rfl) rfl rfl ?_
  refine g_getI C (ckD_get k_X7_searchCuts_0 4 rfl) fk_X7_88 T34 rfl ?_
  refine g_imul C (ckD_get k_X7_searchCuts_0 5 rfl) ?_
  refine g_iconst (v := (1 : Int32)) C (ckD_get k_X7_searchCuts_0 6 rfl) (by decide) ?_
  refine g_isub C (ckD_get k_X7_searchCuts_0 7 rfl) ?_
  obtain ⟨M_1, eM_1, hf⟩ := lt_e hf
  refine g_putI C (ckD_get k_X7_searchCuts_0 8 rfl) fk_X7_179 T48 rfl ?_
  refine memI eM_1 ?_
  refine g_aload_n 0 C (ckD_get k_X7_searchCuts_0 9 rfl) rfl rfl ?_
  refine g_iconst (v := (0 : Int32)) C (ckD_get k_X7_searchCuts_0 10 rfl) (by decide) ?_
  refine g_iconst (v := (0 : Int32)) C (ckD_get k_X7_searchCuts_0 11 rfl) (by decide) ?_
  refine g_iconst (v := (0 : Int32)) C (ckD_get k_X7_searchCuts_0 12 rfl) (by decide) ?_
  obtain ⟨M_3, hr_2, hf⟩ := bd_e hf
  refine n_cV [.int (0 : Int32), .int (0 : Int32), .int (0 : Int32)] [] C (ckD_get k_X7_searchCuts_0 13 rfl) vk_X7_182 (t_X7_extend C.tr 30 _ _ _ _ _ hr_2) T34 rfl rfl (Nat.le_of_ble_eq_true rfl) (by decide) hB rfl ?_
  refine g_aload_n 0 C (ckD_get k_X7_searchCuts_0 14 rfl) rfl rfl ?_
  refine g_getR C (ckD_get k_X7_searchCuts_0 15 rfl) fk_X7_34 T34 rfl ?_
  refine g_aload_n 0 C (ckD_get k_X7_searchCuts_0 16 rfl) rfl rfl ?_
  obtain ⟨k_4, ek_4, hf⟩ := lt_e hf
  obtain ⟨hk_4, hf⟩ := gd_e hf
  refine g_getV C (ckD_get k_X7_searchCuts_0 17 rfl) fk_X7_57 T34 rfl ?_
  refine topR ek_4 ?_
  refine g_getL C (ckD_get k_X7_searchCuts_0 18 rfl) fk_X7_130 (LT_Fd hk_4) rfl ?_
  refine g_aload_n 0 C (ckD_get k_X7_searchCuts_0 19 rfl) rfl rfl ?_
  obtain ⟨k_5, ek_5, hf⟩ := lt_e hf
  obtain ⟨hk_5, hf⟩ := gd_e hf
  refine g_getV C (ckD_get k_X7_searchCuts_0 20 rfl) fk_X7_57 T34 rfl ?_
  refine topR ek_5 ?_
  refine g_getL C (ckD_get k_X7_searchCuts_0 21 rfl) fk_X7_137 (LT_Fd hk_5) rfl ?_
  refine g_aload_n 0 C (ckD_get k_X7_searchCuts_0 22 rfl) rfl rfl ?_
  refine g_getI C (ckD_get k_X7_searchCuts_0 23 rfl) fk_X7_88 T34 rfl ?_
  obtain ⟨M_7, hr_6, hf⟩ := bd_e hf
  refine n_cV [.long (M_3.2 k_4 2), .long (M_3.2 k_5 3), .int (M_3.1 34 8)] [] C (ckD_get k_X7_searchCuts_0 24 rfl) vk_X7_186 (t_X6_read C.tr _ (Or.inr rfl) _ _ _ _ _ hr_6) T48 rfl rfl (Nat.le_of_ble_eq_true rfl) (by decide) hB rfl ?_
  refine g_aload_n 0 C (ckD_get k_X7_searchCuts_0 25 rfl) rfl rfl ?_
  obtain ⟨k_8, ek_8, hf⟩ := lt_e hf
  obtain ⟨hk_8, hf⟩ := gd_e hf
  refine g_getV C (ckD_get k_X7_searchCuts_0 26 rfl) fk_X7_57 T34 rfl ?_
  refine topR ek_8 ?_
  refine g_ldc C (ckD_get k_X7_searchCuts_0 27 rfl) q1001 ?_
  obtain ⟨M_9, eM_9, hf⟩ := lt_e hf
  refine g_putI C (ckD_get k_X7_searchCuts_0 28 rfl) fk_X7_61 (LT_Fd hk_8) rfl ?_
  refine memI eM_9 ?_
  refine g_aload_n 0 C (ckD_get k_X7_searchCuts_0 29 rfl) rfl rfl ?_
  refine g_aload_n 0 C (ckD_get k_X7_searchCuts_0 30 rfl) rfl rfl ?_
  refine g_getR C (ckD_get k_X7_searchCuts_0 31 rfl) fk_X7_34 T34 rfl ?_
  obtain ⟨r_12, M_11, hr_10, hf⟩ := bd2_e hf
  refine n_cV [.ref (K.2.1.1 + 48)] [] C (ckD_get k_X7_searchCuts_0 32 rfl) vk_X7_118 (t_X7_comesLower C.tr _ _ _ hr_10) T34 rfl rfl (Nat.le_of_ble_eq_true rfl) (by decide) hB rfl ?_
  refine g_pop C (ckD_get k_X7_searchCuts_0 33 rfl) rfl ?_
  cases hf
  exact g_vret C (ckD_get k_X7_searchCuts_0 34 rfl) hr hRv (Nat.le_refl _) (Nat.le_refl _)

set_option maxRecDepth 20000 in
theorem k_X7_mayBeFirst_0 : ckD cX7_mayBeFirst [(0, .aload_n 0, 1, 1, 0), (1, .getfield 27, 3, 4, 0), (4, .getfield 122, 3, 7, 0), (7, .iconst 0, 1, 8, 0), (8, .iaload, 1, 9, 0), (9, .istore_n 1, 1, 10, 0), (10, .iload_n 1, 1, 11, 0), (11, .aload_n 0, 1, 12, 0), (12, .getfield 27, 3, 15, 0), (15, .getfield 122, 3, 18, 0), (18, .aload_n 0, 1, 19, 0), (19, .getfield 88, 3, 22, 0), (22, .iconst 1, 1, 23, 0), (23, .isub, 1, 24, 0), (24, .iaload, 1, 25, 0), (25, .if_icmp .gt 38, 3, 28, 63), (28, .iload_n 1, 1, 29, 0), (29, .aload_n 0, 1, 30, 0), (30, .getfield 27, 3, 33, 0), (33, .getfield 134, 3, 36, 0), (36, .iconst 0, 1, 37, 0), (37, .iaload, 1, 38, 0), (38, .if_icmp .gt 25, 3, 41, 63), (41, .iload_n 1, 1, 42, 0), (42, .aload_n 0, 1, 43, 0), (43, .getfield 27, 3, 46, 0), (46, .getfield 134, 3, 49, 0), (49, .aload_n 0, 1, 50, 0), (50, .getfield 88, 3, 53, 0), (53, .iconst 1, 1, 54, 0), (54, .isub, 1, 55, 0), (55, .iaload, 1, 56, 0), (56, .if_icmp .gt 7, 3, 59, 63), (59, .iconst 1, 1, 60, 0), (60, .goto 4, 3, 63, 64), (63, .iconst 0, 1, 64, 0), (64, .ireturn, 1, 65, 0)] = true := by decide +kernel
def f_X7_mayBeFirst  (M : Mm) : Option Int32 := rdI 12 M 43 (0 : Int32) fun v_1 => rdI 12 M 43 ((M.1 34 8) - (1 : Int32)) fun v_3 => if v_3 < v_1 then some (0 : Int32) else rdI 12 M 44 (0 : Int32) fun v_6 => if v_6 < v_1 then some (0 : Int32) else rdI 12 M 44 ((M.1 34 8) - (1 : Int32)) fun v_9 => if v_9 < v_1 then some (0 : Int32) else some (1 : Int32)
set_option maxRecDepth 100000 in
set_option maxHeartbeats 4000000 in
theorem t_X7_mayBeFirst {E : Ev} {l : Launch} (htr : l.stackTraces = false) (M : Mm) (r : Int32) (hf : f_X7_mayBeFirst M = some r) : CM E l 0 0 0 yX7_mayBeFirst cX7_mayBeFirst 2 (some .boolean) [.ref (E.1 + 34)] M (some (.int r)) M := by
  refine CM.of htr (by decide +kernel) (Nat.le_of_ble_eq_true rfl) ?_
  intro K hE hL hl hR0 C hr hRv
  subst hE
  subst hl
  have C : Cx K cX7_mayBeFirst RX7 0 := C
  have hB : (0 : Nat) ≤ K.1.R.cells ∧ 0 ≤ K.1.R.slots := ⟨Nat.zero_le _, Nat.zero_le _⟩
  have hL1 : 1 < K.2.2.1 := by rw [hL]; decide
  show G K (0, 0) 0 [(0, .ref (K.2.1.1 + 34))] [] M
  unfold f_X7_mayBeFirst at hf
  refine g_aload_n 0 C (ckD_get k_X7_mayBeFirst_0 0 rfl) rfl rfl ?_
  refine g_getR C (ckD_get k_X7_mayBeFirst_0 1 rfl) fk_X7_27 T34 rfl ?_
  refine g_getR C (ckD_get k_X7_mayBeFirst_0 2 rfl) fk_X7_122 T42 rfl ?_
  refine g_iconst (v := (0 : Int32)) C (ckD_get k_X7_mayBeFirst_0 3 rfl) (by decide) ?_
  obtain ⟨v_1, hi_2, ev_1, hf⟩ := rdI_e hf
  refine n_iald C (ckD_get k_X7_mayBeFirst_0 4 rfl) T43 hi_2 ev_1 ?_
  refine g_istore_n (lv' := [(1, _), (0, _)]) C (ckD_get k_X7_mayBeFirst_0 5 rfl) rfl hL1 rfl ?_
  refine g_iload_n 0 C (ckD_get k_X7_mayBeFirst_0 6 rfl) rfl rfl ?_
  refine g_aload_n 1 C (ckD_get k_X7_mayBeFirst_0 7 rfl) rfl rfl ?_
  refine g_getR C (ckD_get k_X7_mayBeFirst_0 8 rfl) fk_X7_27 T34 rfl ?_
  refine g_getR C (ckD_get k_X7_mayBeFirst_0 9 rfl) fk_X7_122 T42 rfl ?_
  refine g_aload_n 1 C (ckD_get k_X7_mayBeFirst_0 10 rfl) rfl rfl ?_
  refine g_getI C (ckD_get k_X7_mayBeFirst_0 11 rfl) fk_X7_88 T34 rfl ?_
  refine g_iconst (v := (1 : Int32)) C (ckD_get k_X7_mayBeFirst_0 12 rfl) (by decide) ?_
  refine g_isub C (ckD_get k_X7_mayBeFirst_0 13 rfl) ?_
  obtain ⟨v_3, hi_4, ev_3, hf⟩ := rdI_e hf
  refine n_iald C (ckD_get k_X7_mayBeFirst_0 14 rfl) T43 hi_4 ev_3 ?_
  refine g_icmp_gt C (ckD_get k_X7_mayBeFirst_0 15 rfl) (fun c_5 => ?_) (fun c_5 => ?_)
  · have hf := if_t hf c_5
    refine g_iconst (v := (0 : Int32)) C (ckD_get k_X7_mayBeFirst_0 35 rfl) (by decide) ?_
    cases hf
    exact g_zret C (ckD_get k_X7_mayBeFirst_0 36 rfl) hr rfl hRv (Nat.le_refl _) (Nat.le_refl _)
  · have hf := if_f hf c_5
    refine g_iload_n 0 C (ckD_get k_X7_mayBeFirst_0 16 rfl) rfl rfl ?_
    refine g_aload_n 1 C (ckD_get k_X7_mayBeFirst_0 17 rfl) rfl rfl ?_
    refine g_getR C (ckD_get k_X7_mayBeFirst_0 18 rfl) fk_X7_27 T34 rfl ?_
    refine g_getR C (ckD_get k_X7_mayBeFirst_0 19 rfl) fk_X7_134 T42 rfl ?_
    refine g_iconst (v := (0 : Int32)) C (ckD_get k_X7_mayBeFirst_0 20 rfl) (by decide) ?_
    obtain ⟨v_6, hi_7, ev_6, hf⟩ := rdI_e hf
    refine n_iald C (ckD_get k_X7_mayBeFirst_0 21 rfl) T44 hi_7 ev_6 ?_
    refine g_icmp_gt C (ckD_get k_X7_mayBeFirst_0 22 rfl) (fun c_8 => ?_) (fun c_8 => ?_)
    · have hf := if_t hf c_8
      refine g_iconst (v := (0 : Int32)) C (ckD_get k_X7_mayBeFirst_0 35 rfl) (by decide) ?_
      cases hf
      exact g_zret C (ckD_get k_X7_mayBeFirst_0 36 rfl) hr rfl hRv (Nat.le_refl _) (Nat.le_refl _)
    · have hf := if_f hf c_8
      refine g_iload_n 0 C (ckD_get k_X7_mayBeFirst_0 23 rfl) rfl rfl ?_
      refine g_aload_n 1 C (ckD_get k_X7_mayBeFirst_0 24 rfl) rfl rfl ?_
      refine g_getR C (ckD_get k_X7_mayBeFirst_0 25 rfl) fk_X7_27 T34 rfl ?_
      refine g_getR C (ckD_get k_X7_mayBeFirst_0 26 rfl) fk_X7_134 T42 rfl ?_
      refine g_aload_n 1 C (ckD_get k_X7_mayBeFirst_0 27 rfl) rfl rfl ?_
      refine g_getI C (ckD_get k_X7_mayBeFirst_0 28 rfl) fk_X7_88 T34 rfl ?_
      refine g_iconst (v := (1 : Int32)) C (ckD_get k_X7_mayBeFirst_0 29 rfl) (by decide) ?_
      refine g_isub C (ckD_get k_X7_mayBeFirst_0 30 rfl) ?_
      obtain ⟨v_9, hi_10, ev_9, hf⟩ := rdI_e hf
      refine n_iald C (ckD_get k_X7_mayBeFirst_0 31 rfl) T44 hi_10 ev_9 ?_
      refine g_icmp_gt C (ckD_get k_X7_mayBeFirst_0 32 rfl) (fun c_11 => ?_) (fun c_11 => ?_)
      · have hf := if_t hf c_11
        refine g_iconst (v := (0 : Int32)) C (ckD_get k_X7_mayBeFirst_0 35 rfl) (by decide) ?_
        cases hf
        exact g_zret C (ckD_get k_X7_mayBeFirst_0 36 rfl) hr rfl hRv (Nat.le_refl _) (Nat.le_refl _)
      · have hf := if_f hf c_11
        refine g_iconst (v := (1 : Int32)) C (ckD_get k_X7_mayBeFirst_0 33 rfl) (by decide) ?_
        refine g_goto C (ckD_get k_X7_mayBeFirst_0 34 rfl) ?_
        cases hf
        exact g_zret C (ckD_get k_X7_mayBeFirst_0 36 rfl) hr rfl hRv (Nat.le_refl _) (Nat.le_refl _)

set_option maxRecDepth 20000 in
theorem k_X7_nextOrder_0 : ckD cX7_nextOrder [(0, .aload_n 0, 1, 1, 0), (1, .getfield 88, 3, 4, 0), (4, .iconst 1, 1, 5, 0), (5, .isub, 1, 6, 0), (6, .istore_n 2, 1, 7, 0), (7, .iload_n 2, 1, 8, 0), (8, .ifCond .le 20, 3, 11, 28), (11, .aload_n 1, 1, 12, 0), (12, .iload_n 2, 1, 13, 0), (13, .iconst 1, 1, 14, 0), (14, .isub, 1, 15, 0), (15, .iaload, 1, 16, 0), (16, .aload_n 1, 1, 17, 0), (17, .iload_n 2, 1, 18, 0), (18, .iaload, 1, 19, 0), (19, .if_icmp .le 9, 3, 22, 28), (22, .iinc 2 (-1), 3, 25, 0), (25, .goto (-18), 3, 28, 7), (28, .iload_n 2, 1, 29, 0), (29, .ifCond .le 40, 3, 32, 69), (32, .aload_n 0, 1, 33, 0), (33, .getfield 88, 3, 36, 0), (36, .iconst 1, 1, 37, 0), (37, .isub, 1, 38, 0), (38, .istore_n 3, 1, 39, 0), (39, .iload_n 3, 1, 40, 0), (40, .iload_n 2, 1, 41, 0), (41, .if_icmp .le 20, 3, 44, 61), (44, .aload_n 1, 1, 45, 0), (45, .iload_n 3, 1, 46, 0), (46, .iaload, 1, 47, 0), (47, .aload_n 1, 1, 48, 0), (48, .iload_n 2, 1, 49, 0), (49, .iconst 1, 1, 50, 0), (50, .isub, 1, 51, 0), (51, .iaload, 1, 52, 0), (52, .if_icmp .ge 9, 3, 55, 61), (55, .iinc 3 (-1), 3, 58, 0), (58, .goto (-19), 3, 61, 39), (61, .aload_n 1, 1, 62, 0)] = true := by decide +kernel
set_option maxRecDepth 20000 in
theorem k_X7_nextOrder_1 : ckD cX7_nextOrder [(62, .iload_n 2, 1, 63, 0), (63, .iconst 1, 1, 64, 0), (64, .isub, 1, 65, 0), (65, .iload_n 3, 1, 66, 0), (66, .invokestatic 206, 3, 69, 0), (69, .aload_n 0, 1, 70, 0), (70, .getfield 88, 3, 73, 0), (73, .iconst 1, 1, 74, 0), (74, .isub, 1, 75, 0), (75, .istore_n 3, 1, 76, 0), (76, .iload_n 2, 1, 77, 0), (77, .istore 4, 2, 79, 0), (79, .iload 4, 2, 81, 0), (81, .iload_n 3, 1, 82, 0), (82, .if_icmp .ge 19, 3, 85, 101), (85, .aload_n 1, 1, 86, 0), (86, .iload 4, 2, 88, 0), (88, .iload_n 3, 1, 89, 0), (89, .invokestatic 206, 3, 92, 0), (92, .iinc 3 (-1), 3, 95, 0), (95, .iinc 4 1, 3, 98, 0), (98, .goto (-19), 3, 101, 79), (101, .return_, 1, 102, 0)] = true := by decide +kernel
def f_X7_nextOrder_A79 (M_9 : Mm) : Option Mm := some M_9
def f_X7_nextOrder_L79 (k1 : Nat) (x3_6 : Int32) (x4_7 : Int32) (M_8 : Mm) : Option ((Int32 × Int32 × Mm) ⊕ Mm) := if x3_6 ≤ x4_7 then some (.inr M_8) else (f_X9_exchange k1 x4_7 x3_6 M_8).bind fun M_12 => lt1 (x3_6 + (-1)) fun x3_13 => lt1 (x4_7 + 1) fun x4_14 => some (.inl (x3_13, x4_14, M_12))
def f_X7_nextOrder_J69 (k1 : Nat) (x2_3 : Int32) (M_4 : Mm) : Option Mm := lt1 ((M_4.1 34 8) - (1 : Int32)) fun x3_5 => (loop (fun v => f_X7_nextOrder_L79 k1 v.1 v.2.1 v.2.2) FU (x3_5, x2_3, M_4)).bind fun z => f_X7_nextOrder_A79 z
def f_X7_nextOrder_A39 (k1 : Nat) (M : Mm) (x2_3 : Int32) (x3_18 : Int32) : Option Mm := (f_X9_exchange k1 (x2_3 - (1 : Int32)) x3_18 M).bind fun M_20 => f_X7_nextOrder_J69 k1 x2_3 M_20
def f_X7_nextOrder_L39 (k1 : Nat) (M : Mm) (x2_3 : Int32) (x3_17 : Int32) : Option (Int32 ⊕ Int32) := if x3_17 ≤ x2_3 then some (.inr x3_17) else rdI 12 M k1 x3_17 fun v_22 => rdI 12 M k1 (x2_3 - (1 : Int32)) fun v_24 => if v_24 ≤ v_22 then some (.inr x3_17) else lt1 (x3_17 + (-1)) fun x3_27 => some (.inl x3_27)
def f_X7_nextOrder_A7 (k1 : Nat) (M : Mm) (x2_3 : Int32) : Option Mm := if x2_3 ≤ 0 then f_X7_nextOrder_J69 k1 x2_3 M else lt1 ((M.1 34 8) - (1 : Int32)) fun x3_16 => (loop (fun v => f_X7_nextOrder_L39 k1 M x2_3 v) FU x3_16).bind fun z => f_X7_nextOrder_A39 k1 M x2_3 z
def f_X7_nextOrder_L7 (k1 : Nat) (M : Mm) (x2_2 : Int32) : Option (Int32 ⊕ Int32) := if x2_2 ≤ 0 then some (.inr x2_2) else rdI 12 M k1 (x2_2 - (1 : Int32)) fun v_29 => rdI 12 M k1 x2_2 fun v_31 => if v_29 ≤ v_31 then some (.inr x2_2) else lt1 (x2_2 + (-1)) fun x2_34 => some (.inl x2_34)
def f_X7_nextOrder (k1 : Nat) (M : Mm) : Option Mm := lt1 ((M.1 34 8) - (1 : Int32)) fun x2_1 => (loop (fun v => f_X7_nextOrder_L7 k1 M v) FU x2_1).bind fun z => f_X7_nextOrder_A7 k1 M z
set_option maxRecDepth 100000 in
set_option maxHeartbeats 4000000 in
theorem t_X7_nextOrder {E : Ev} {l : Launch} (htr : l.stackTraces = false) (k1 : Nat) (hk1 : LT[k1]? = some (0, 12, [])) (M : Mm) (r : Mm) (hf : f_X7_nextOrder k1 M = some r) : CM E l 1 0 0 yX7_nextOrder cX7_nextOrder 5 none [.ref (E.1 + 34), .ref (E.1 + k1)] M none r := by
  refine CM.of htr (by decide +kernel) (Nat.le_of_ble_eq_true rfl) ?_
  intro K hE hL hl hR0 C hr hRv
  subst hE
  subst hl
  have C : Cx K cX7_nextOrder RX7 1 := C
  have hB : (0 : Nat) ≤ K.1.R.cells ∧ 0 ≤ K.1.R.slots := ⟨Nat.zero_le _, Nat.zero_le _⟩
  have hL2 : 2 < K.2.2.1 := by rw [hL]; decide
  have hL3 : 3 < K.2.2.1 := by rw [hL]; decide
  have hL4 : 4 < K.2.2.1 := by rw [hL]; decide
  show G K (0, 0) 0 [(0, .ref (K.2.1.1 + 34)), (1, .ref (K.2.1.1 + k1))] [] M
  unfold f_X7_nextOrder at hf
  refine g_aload_n 0 C (ckD_get k_X7_nextOrder_0 0 rfl) rfl rfl ?_
  refine g_getI C (ckD_get k_X7_nextOrder_0 1 rfl) fk_X7_88 T34 rfl ?_
  refine g_iconst (v := (1 : Int32)) C (ckD_get k_X7_nextOrder_0 2 rfl) (by decide) ?_
  refine g_isub C (ckD_get k_X7_nextOrder_0 3 rfl) ?_
  obtain ⟨x2_1, ex2_1, hf⟩ := lt_e hf
  refine topI ex2_1 ?_
  refine g_istore_n (lv' := [(2, _), (0, _), (1, _)]) C (ckD_get k_X7_nextOrder_0 4 rfl) rfl hL2 rfl ?_
  refine G.sub [1, 2, 0] rfl ?_
  obtain ⟨x2_3, hx_7, hf⟩ := bd_e hf
  have hE_7 : G K (0, 0) 28 [(0, .ref (K.2.1.1 + 34)), (1, .ref (K.2.1.1 + k1)), (2, .int x2_3)] [] M := by
    have hf : f_X7_nextOrder_A7 k1 M x2_3 = some r := hf
    unfold f_X7_nextOrder_A7 at hf
    refine g_iload_n 2 C (ckD_get k_X7_nextOrder_0 18 rfl) rfl rfl ?_
    have hJ_69 : ∀ (M_4 : Mm), f_X7_nextOrder_J69 k1 x2_3 M_4 = some r → G K (0, 0) 69 [(0, .ref (K.2.1.1 + 34)), (1, .ref (K.2.1.1 + k1)), (2, .int x2_3)] [] M_4 := by
      intro M_4 hf
      unfold f_X7_nextOrder_J69 at hf
      refine g_aload_n 0 C (ckD_get k_X7_nextOrder_1 5 rfl) rfl rfl ?_
      refine g_getI C (ckD_get k_X7_nextOrder_1 6 rfl) fk_X7_88 T34 rfl ?_
      refine g_iconst (v := (1 : Int32)) C (ckD_get k_X7_nextOrder_1 7 rfl) (by decide) ?_
      refine g_isub C (ckD_get k_X7_nextOrder_1 8 rfl) ?_
      obtain ⟨x3_5, ex3_5, hf⟩ := lt_e hf
      refine topI ex3_5 ?_
      refine g_istore_n (lv' := [(3, _), (0, _), (1, _), (2, _)]) C (ckD_get k_X7_nextOrder_1 9 rfl) rfl hL3 rfl ?_
      refine g_iload_n 3 C (ckD_get k_X7_nextOrder_1 10 rfl) rfl rfl ?_
      refine g_istore (lv' := [(4, _), (3, _), (0, _), (1, _), (2, _)]) C (ckD_get k_X7_nextOrder_1 11 rfl) hL4 rfl ?_
      refine G.sub [3, 1, 0] rfl ?_
      obtain ⟨M_9, hx_79, hf⟩ := bd_e hf
      have hE_79 : G K (0, 0) 101 [] [] M_9 := by
        have hf : f_X7_nextOrder_A79 M_9 = some r := hf
        unfold f_X7_nextOrder_A79 at hf
        cases hf
        exact g_vret C (ckD_get k_X7_nextOrder_1 22 rfl) hr hRv (Nat.le_refl _) (Nat.le_refl _)
      refine loop_e (x := M_9) (P := fun (v : (Int32 × Int32 × Mm)) => G K (0, 0) 79 [(1, .ref (K.2.1.1 + k1)), (3, .int v.1), (4, .int v.2.1)] [] v.2.2) ?_ FU _ hx_79
      intro v rr_79 hf hn_79 hz_79
      obtain ⟨x3_6, x4_7, M_8⟩ := v
      have hf : f_X7_nextOrder_L79 k1 x3_6 x4_7 M_8 = some rr_79 := hf
      show G K (0, 0) 79 [(1, .ref (K.2.1.1 + k1)), (3, .int x3_6), (4, .int x4_7)] [] M_8
      unfold f_X7_nextOrder_L79 at hf
      refine g_iload 2 C (ckD_get k_X7_nextOrder_1 12 rfl) rfl ?_
      refine g_iload_n 1 C (ckD_get k_X7_nextOrder_1 13 rfl) rfl rfl ?_
      refine g_icmp_ge C (ckD_get k_X7_nextOrder_1 14 rfl) (fun c_10 => ?_) (fun c_10 => ?_)
      · have hf := if_t hf c_10
        refine G.sub [] rfl ?_
        cases hf
        cases hz_79 _ rfl
        exact hE_79
      · have hf := if_f hf c_10
        refine g_aload_n 0 C (ckD_get k_X7_nextOrder_1 15 rfl) rfl rfl ?_
        refine g_iload 2 C (ckD_get k_X7_nextOrder_1 16 rfl) rfl ?_
        refine g_iload_n 1 C (ckD_get k_X7_nextOrder_1 17 rfl) rfl rfl ?_
        obtain ⟨M_12, hr_11, hf⟩ := bd_e hf
        refine n_cN [.ref (K.2.1.1 + k1), .int x4_7, .int x3_6] [] C (ckD_get k_X7_nextOrder_1 18 rfl) nk_X7_206 (t_X9_exchange C.tr _ hk1 _ _ _ _ hr_11) rfl rfl (Nat.le_of_ble_eq_true rfl) (by decide) hB rfl ?_
        obtain ⟨x3_13, ex3_13, hf⟩ := lt_e hf
        refine g_iinc (lv' := [(3, _), (1, _), (4, _)]) 1 C (ckD_get k_X7_nextOrder_1 19 rfl) rfl ex3_13 hL3 rfl ?_
        obtain ⟨x4_14, ex4_14, hf⟩ := lt_e hf
        refine g_iinc (lv' := [(4, _), (3, _), (1, _)]) 2 C (ckD_get k_X7_nextOrder_1 20 rfl) rfl ex4_14 hL4 rfl ?_
        refine g_goto C (ckD_get k_X7_nextOrder_1 21 rfl) ?_
        refine G.sub [2, 1, 0] rfl ?_
        cases hf
        exact hn_79 _ rfl
    refine g_if_le C (ckD_get k_X7_nextOrder_0 19 rfl) (fun c_15 => ?_) (fun c_15 => ?_)
    · have hf := if_t hf c_15
      exact hJ_69 _ hf
    · have hf := if_f hf c_15
      refine g_aload_n 0 C (ckD_get k_X7_nextOrder_0 20 rfl) rfl rfl ?_
      refine g_getI C (ckD_get k_X7_nextOrder_0 21 rfl) fk_X7_88 T34 rfl ?_
      refine g_iconst (v := (1 : Int32)) C (ckD_get k_X7_nextOrder_0 22 rfl) (by decide) ?_
      refine g_isub C (ckD_get k_X7_nextOrder_0 23 rfl) ?_
      obtain ⟨x3_16, ex3_16, hf⟩ := lt_e hf
      refine topI ex3_16 ?_
      refine g_istore_n (lv' := [(3, _), (0, _), (1, _), (2, _)]) C (ckD_get k_X7_nextOrder_0 24 rfl) rfl hL3 rfl ?_
      refine G.sub [1, 2, 3, 0] rfl ?_
      obtain ⟨x3_18, hx_39, hf⟩ := bd_e hf
      have hE_39 : G K (0, 0) 61 [(0, .ref (K.2.1.1 + 34)), (1, .ref (K.2.1.1 + k1)), (2, .int x2_3), (3, .int x3_18)] [] M := by
        have hf : f_X7_nextOrder_A39 k1 M x2_3 x3_18 = some r := hf
        unfold f_X7_nextOrder_A39 at hf
        refine g_aload_n 1 C (ckD_get k_X7_nextOrder_0 39 rfl) rfl rfl ?_
        refine g_iload_n 2 C (ckD_get k_X7_nextOrder_1 0 rfl) rfl rfl ?_
        refine g_iconst (v := (1 : Int32)) C (ckD_get k_X7_nextOrder_1 1 rfl) (by decide) ?_
        refine g_isub C (ckD_get k_X7_nextOrder_1 2 rfl) ?_
        refine g_iload_n 3 C (ckD_get k_X7_nextOrder_1 3 rfl) rfl rfl ?_
        obtain ⟨M_20, hr_19, hf⟩ := bd_e hf
        refine n_cN [.ref (K.2.1.1 + k1), .int (x2_3 - (1 : Int32)), .int x3_18] [] C (ckD_get k_X7_nextOrder_1 4 rfl) nk_X7_206 (t_X9_exchange C.tr _ hk1 _ _ _ _ hr_19) rfl rfl (Nat.le_of_ble_eq_true rfl) (by decide) hB rfl ?_
        refine G.sub [0, 1, 2] rfl ?_
        exact hJ_69 _ hf
      refine loop_e (x := x3_18) (P := fun (v : Int32) => G K (0, 0) 39 [(0, .ref (K.2.1.1 + 34)), (1, .ref (K.2.1.1 + k1)), (2, .int x2_3), (3, .int v)] [] M) ?_ FU _ hx_39
      intro x3_17 rr_39 hf hn_39 hz_39
      have hf : f_X7_nextOrder_L39 k1 M x2_3 x3_17 = some rr_39 := hf
      show G K (0, 0) 39 [(0, .ref (K.2.1.1 + 34)), (1, .ref (K.2.1.1 + k1)), (2, .int x2_3), (3, .int x3_17)] [] M
      unfold f_X7_nextOrder_L39 at hf
      refine g_iload_n 3 C (ckD_get k_X7_nextOrder_0 25 rfl) rfl rfl ?_
      refine g_iload_n 2 C (ckD_get k_X7_nextOrder_0 26 rfl) rfl rfl ?_
      refine g_icmp_le C (ckD_get k_X7_nextOrder_0 27 rfl) (fun c_21 => ?_) (fun c_21 => ?_)
      · have hf := if_t hf c_21
        cases hf
        cases hz_39 _ rfl
        exact hE_39
      · have hf := if_f hf c_21
        refine g_aload_n 1 C (ckD_get k_X7_nextOrder_0 28 rfl) rfl rfl ?_
        refine g_iload_n 3 C (ckD_get k_X7_nextOrder_0 29 rfl) rfl rfl ?_
        obtain ⟨v_22, hi_23, ev_22, hf⟩ := rdI_e hf
        refine n_iald C (ckD_get k_X7_nextOrder_0 30 rfl) hk1 hi_23 ev_22 ?_
        refine g_aload_n 1 C (ckD_get k_X7_nextOrder_0 31 rfl) rfl rfl ?_
        refine g_iload_n 2 C (ckD_get k_X7_nextOrder_0 32 rfl) rfl rfl ?_
        refine g_iconst (v := (1 : Int32)) C (ckD_get k_X7_nextOrder_0 33 rfl) (by decide) ?_
        refine g_isub C (ckD_get k_X7_nextOrder_0 34 rfl) ?_
        obtain ⟨v_24, hi_25, ev_24, hf⟩ := rdI_e hf
        refine n_iald C (ckD_get k_X7_nextOrder_0 35 rfl) hk1 hi_25 ev_24 ?_
        refine g_icmp_ge C (ckD_get k_X7_nextOrder_0 36 rfl) (fun c_26 => ?_) (fun c_26 => ?_)
        · have hf := if_t hf c_26
          cases hf
          cases hz_39 _ rfl
          exact hE_39
        · have hf := if_f hf c_26
          obtain ⟨x3_27, ex3_27, hf⟩ := lt_e hf
          refine g_iinc (lv' := [(3, _), (0, _), (1, _), (2, _)]) 3 C (ckD_get k_X7_nextOrder_0 37 rfl) rfl ex3_27 hL3 rfl ?_
          refine g_goto C (ckD_get k_X7_nextOrder_0 38 rfl) ?_
          refine G.sub [1, 2, 3, 0] rfl ?_
          cases hf
          exact hn_39 _ rfl
  refine loop_e (x := x2_3) (P := fun (v : Int32) => G K (0, 0) 7 [(0, .ref (K.2.1.1 + 34)), (1, .ref (K.2.1.1 + k1)), (2, .int v)] [] M) ?_ FU _ hx_7
  intro x2_2 rr_7 hf hn_7 hz_7
  have hf : f_X7_nextOrder_L7 k1 M x2_2 = some rr_7 := hf
  show G K (0, 0) 7 [(0, .ref (K.2.1.1 + 34)), (1, .ref (K.2.1.1 + k1)), (2, .int x2_2)] [] M
  unfold f_X7_nextOrder_L7 at hf
  refine g_iload_n 2 C (ckD_get k_X7_nextOrder_0 5 rfl) rfl rfl ?_
  refine g_if_le C (ckD_get k_X7_nextOrder_0 6 rfl) (fun c_28 => ?_) (fun c_28 => ?_)
  · have hf := if_t hf c_28
    cases hf
    cases hz_7 _ rfl
    exact hE_7
  · have hf := if_f hf c_28
    refine g_aload_n 1 C (ckD_get k_X7_nextOrder_0 7 rfl) rfl rfl ?_
    refine g_iload_n 2 C (ckD_get k_X7_nextOrder_0 8 rfl) rfl rfl ?_
    refine g_iconst (v := (1 : Int32)) C (ckD_get k_X7_nextOrder_0 9 rfl) (by decide) ?_
    refine g_isub C (ckD_get k_X7_nextOrder_0 10 rfl) ?_
    obtain ⟨v_29, hi_30, ev_29, hf⟩ := rdI_e hf
    refine n_iald C (ckD_get k_X7_nextOrder_0 11 rfl) hk1 hi_30 ev_29 ?_
    refine g_aload_n 1 C (ckD_get k_X7_nextOrder_0 12 rfl) rfl rfl ?_
    refine g_iload_n 2 C (ckD_get k_X7_nextOrder_0 13 rfl) rfl rfl ?_
    obtain ⟨v_31, hi_32, ev_31, hf⟩ := rdI_e hf
    refine n_iald C (ckD_get k_X7_nextOrder_0 14 rfl) hk1 hi_32 ev_31 ?_
    refine g_icmp_le C (ckD_get k_X7_nextOrder_0 15 rfl) (fun c_33 => ?_) (fun c_33 => ?_)
    · have hf := if_t hf c_33
      cases hf
      cases hz_7 _ rfl
      exact hE_7
    · have hf := if_f hf c_33
      obtain ⟨x2_34, ex2_34, hf⟩ := lt_e hf
      refine g_iinc (lv' := [(2, _), (0, _), (1, _)]) 2 C (ckD_get k_X7_nextOrder_0 16 rfl) rfl ex2_34 hL2 rfl ?_
      refine g_goto C (ckD_get k_X7_nextOrder_0 17 rfl) ?_
      refine G.sub [1, 2, 0] rfl ?_
      cases hf
      exact hn_7 _ rfl

set_option maxRecDepth 20000 in
theorem k_X7_searchPairs_0 : ckD cX7_searchPairs [(0, .aload_n 0, 1, 1, 0), (1, .getfield 88, 3, 4, 0), (4, .invokestatic 103, 3, 7, 0), (7, .lstore_n 1, 1, 8, 0), (8, .aload_n 0, 1, 9, 0), (9, .getfield 27, 3, 12, 0), (12, .aload_n 0, 1, 13, 0), (13, .getfield 88, 3, 16, 0), (16, .invokevirtual 107, 3, 19, 0), (19, .lconst 0, 1, 20, 0), (20, .lstore_n 3, 1, 21, 0), (21, .lload_n 3, 1, 22, 0), (22, .lload_n 1, 1, 23, 0), (23, .lcmp, 1, 24, 0), (24, .ifCond .ge 127, 3, 27, 151), (27, .aload_n 0, 1, 28, 0), (28, .invokevirtual 111, 3, 31, 0), (31, .ifCond .ne 120, 3, 34, 151), (34, .lconst 0, 1, 35, 0), (35, .lstore 5, 2, 37, 0), (37, .lload 5, 2, 39, 0), (39, .lload_n 1, 1, 40, 0), (40, .lcmp, 1, 41, 0), (41, .ifCond .ge 85, 3, 44, 126), (44, .aload_n 0, 1, 45, 0), (45, .invokevirtual 115, 3, 48, 0), (48, .ifCond .eq 58, 3, 51, 106), (51, .aload_n 0, 1, 52, 0), (52, .aload_n 0, 1, 53, 0), (53, .getfield 27, 3, 56, 0), (56, .invokevirtual 118, 3, 59, 0), (59, .ifCond .eq 47, 3, 62, 106), (62, .aload_n 0, 1, 63, 0), (63, .getfield 57, 3, 66, 0), (66, .aload_n 0, 1, 67, 0), (67, .getfield 27, 3, 70, 0), (70, .getfield 122, 3, 73, 0), (73, .iconst 0, 1, 74, 0), (74, .aload_n 0, 1, 75, 0), (75, .getfield 88, 3, 78, 0)] = true := by decide +kernel
set_option maxRecDepth 20000 in
theorem k_X7_searchPairs_1 : ckD cX7_searchPairs [(78, .invokestatic 126, 3, 81, 0), (81, .putfield 130, 3, 84, 0), (84, .aload_n 0, 1, 85, 0), (85, .getfield 57, 3, 88, 0), (88, .aload_n 0, 1, 89, 0), (89, .getfield 27, 3, 92, 0), (92, .getfield 134, 3, 95, 0), (95, .iconst 0, 1, 96, 0), (96, .aload_n 0, 1, 97, 0), (97, .getfield 88, 3, 100, 0), (100, .invokestatic 126, 3, 103, 0), (103, .putfield 137, 3, 106, 0), (106, .aload_n 0, 1, 107, 0), (107, .aload_n 0, 1, 108, 0), (108, .getfield 27, 3, 111, 0), (111, .getfield 134, 3, 114, 0), (114, .invokevirtual 140, 3, 117, 0), (117, .lload 5, 2, 119, 0), (119, .lconst 1, 1, 120, 0), (120, .ladd, 1, 121, 0), (121, .lstore 5, 2, 123, 0), (123, .goto (-86), 3, 126, 37), (126, .aload_n 0, 1, 127, 0), (127, .aload_n 0, 1, 128, 0), (128, .getfield 27, 3, 131, 0), (131, .getfield 122, 3, 134, 0), (134, .invokevirtual 140, 3, 137, 0), (137, .aload_n 0, 1, 138, 0), (138, .getfield 27, 3, 141, 0), (141, .invokevirtual 144, 3, 144, 0), (144, .lload_n 3, 1, 145, 0), (145, .lconst 1, 1, 146, 0), (146, .ladd, 1, 147, 0), (147, .lstore_n 3, 1, 148, 0), (148, .goto (-127), 3, 151, 21), (151, .return_, 1, 152, 0)] = true := by decide +kernel
def f_X7_searchPairs_A21 (M_7 : Mm) : Option Mm := some M_7
def f_X7_searchPairs_A37 (x3_5 : Int64) (M_14 : Mm) : Option ((Int64 × Mm) ⊕ Mm) := (f_X7_nextOrder 43 M_14).bind fun M_16 => (f_X4_notePlaces 42 M_16).bind fun M_18 => lt1 (x3_5 + (1 : Int64)) fun x3_19 => some (.inl (x3_19, M_18))
def f_X7_searchPairs_J106 (x5_12 : Int64) (M_23 : Mm) : Option ((Int64 × Mm) ⊕ Mm) := (f_X7_nextOrder 44 M_23).bind fun M_25 => lt1 (x5_12 + (1 : Int64)) fun x5_26 => some (.inl (x5_26, M_25))
def f_X7_searchPairs_L37 (r_2 : Int64) (x5_12 : Int64) (M_13 : Mm) : Option ((Int64 × Mm) ⊕ Mm) := if 0 ≤ (lg_cmp x5_12 r_2) then some (.inr M_13) else (f_X7_mayBeFirst M_13).bind fun r_22 => if r_22 = 0 then f_X7_searchPairs_J106 x5_12 M_13 else bd2 (f_X7_comesLower 42 M_13) fun r_30 M_29 => if r_30 = 0 then f_X7_searchPairs_J106 x5_12 M_29 else lt1 ((M_29.1 34 7).toNatClampNeg) fun k_32 => gd (decide (65 ≤ k_32 ∧ k_32 < 69)) <| (f_X9_pack 12 43 (0 : Int32) (M_29.1 34 8) M_29).bind fun r_34 => lt1 (wl M_29 k_32 2 r_34) fun M_35 => lt1 ((M_35.1 34 7).toNatClampNeg) fun k_36 => gd (decide (65 ≤ k_36 ∧ k_36 < 69)) <| (f_X9_pack 12 44 (0 : Int32) (M_35.1 34 8) M_35).bind fun r_38 => lt1 (wl M_35 k_36 3 r_38) fun M_39 => f_X7_searchPairs_J106 x5_12 M_39
def f_X7_searchPairs_L21 (r_2 : Int64) (x3_5 : Int64) (M_6 : Mm) : Option ((Int64 × Mm) ⊕ Mm) := if 0 ≤ (lg_cmp x3_5 r_2) then some (.inr M_6) else (f_X7_isDone M_6).bind fun r_10 => if r_10 = 0 then (loop (fun v => f_X7_searchPairs_L37 r_2 v.1 v.2) FU ((0 : Int64), M_6)).bind fun z => f_X7_searchPairs_A37 x3_5 z else some (.inr M_6)
def f_X7_searchPairs  (M : Mm) : Option Mm := (f_X9_factorial (M.1 34 8) M).bind fun r_2 => (f_X4_begin 42 (M.1 34 8) M).bind fun M_4 => (loop (fun v => f_X7_searchPairs_L21 r_2 v.1 v.2) FU ((0 : Int64), M_4)).bind fun z => f_X7_searchPairs_A21 z
set_option maxRecDepth 100000 in
set_option maxHeartbeats 4000000 in
theorem t_X7_searchPairs {E : Ev} {l : Launch} (htr : l.stackTraces = false) (M : Mm) (r : Mm) (hf : f_X7_searchPairs M = some r) : CM E l 5 0 0 yX7_searchPairs cX7_searchPairs 7 none [.ref (E.1 + 34)] M none r := by
  refine CM.of htr (by decide +kernel) (Nat.le_of_ble_eq_true rfl) ?_
  intro K hE hL hl hR0 C hr hRv
  subst hE
  subst hl
  have C : Cx K cX7_searchPairs RX7 5 := C
  have hB : (0 : Nat) ≤ K.1.R.cells ∧ 0 ≤ K.1.R.slots := ⟨Nat.zero_le _, Nat.zero_le _⟩
  have hL2 : 2 < K.2.2.1 := by rw [hL]; decide
  have hL4 : 4 < K.2.2.1 := by rw [hL]; decide
  have hL6 : 6 < K.2.2.1 := by rw [hL]; decide
  show G K (0, 0) 0 [(0, .ref (K.2.1.1 + 34))] [] M
  unfold f_X7_searchPairs at hf
  refine g_aload_n 0 C (ckD_get k_X7_searchPairs_0 0 rfl) rfl rfl ?_
  refine g_getI C (ckD_get k_X7_searchPairs_0 1 rfl) fk_X7_88 T34 rfl ?_
  obtain ⟨r_2, hr_1, hf⟩ := bd_e hf
  refine n_cN [.int (M.1 34 8)] [] C (ckD_get k_X7_searchPairs_0 2 rfl) nk_X7_103 (t_X9_factorial C.tr _ _ _ hr_1) rfl rfl (Nat.le_of_ble_eq_true rfl) (by decide) hB rfl ?_
  refine g_lstore_n (lv' := [(1, _), (0, _)]) C (ckD_get k_X7_searchPairs_0 3 rfl) rfl hL2 rfl ?_
  refine g_aload_n 1 C (ckD_get k_X7_searchPairs_0 4 rfl) rfl rfl ?_
  refine g_getR C (ckD_get k_X7_searchPairs_0 5 rfl) fk_X7_27 T34 rfl ?_
  refine g_aload_n 1 C (ckD_get k_X7_searchPairs_0 6 rfl) rfl rfl ?_
  refine g_getI C (ckD_get k_X7_searchPairs_0 7 rfl) fk_X7_88 T34 rfl ?_
  obtain ⟨M_4, hr_3, hf⟩ := bd_e hf
  refine n_cV [.int (M.1 34 8)] [] C (ckD_get k_X7_searchPairs_0 8 rfl) vk_X7_107 (t_X4_begin C.tr _ (Or.inr rfl) _ _ _ hr_3) T42 rfl rfl (Nat.le_of_ble_eq_true rfl) (by decide) hB rfl ?_
  refine g_lconst (v := (0 : Int64)) C (ckD_get k_X7_searchPairs_0 9 rfl) (by decide) ?_
  refine g_lstore_n (lv' := [(3, _), (1, _), (0, _)]) C (ckD_get k_X7_searchPairs_0 10 rfl) rfl hL4 rfl ?_
  refine G.sub [2, 1, 0] rfl ?_
  obtain ⟨M_7, hx_21, hf⟩ := bd_e hf
  have hE_21 : G K (0, 0) 151 [] [] M_7 := by
    have hf : f_X7_searchPairs_A21 M_7 = some r := hf
    unfold f_X7_searchPairs_A21 at hf
    cases hf
    exact g_vret C (ckD_get k_X7_searchPairs_1 35 rfl) hr hRv (Nat.le_refl _) (Nat.le_refl _)
  refine loop_e (x := M_7) (P := fun (v : (Int64 × Mm)) => G K (0, 0) 21 [(0, .ref (K.2.1.1 + 34)), (1, .long r_2), (3, .long v.1)] [] v.2) ?_ FU _ hx_21
  intro v rr_21 hf hn_21 hz_21
  obtain ⟨x3_5, M_6⟩ := v
  have hf : f_X7_searchPairs_L21 r_2 x3_5 M_6 = some rr_21 := hf
  show G K (0, 0) 21 [(0, .ref (K.2.1.1 + 34)), (1, .long r_2), (3, .long x3_5)] [] M_6
  unfold f_X7_searchPairs_L21 at hf
  refine g_lload_n 2 C (ckD_get k_X7_searchPairs_0 11 rfl) rfl rfl ?_
  refine g_lload_n 1 C (ckD_get k_X7_searchPairs_0 12 rfl) rfl rfl ?_
  refine g_lcmp C (ckD_get k_X7_searchPairs_0 13 rfl) ?_
  refine g_if_ge C (ckD_get k_X7_searchPairs_0 14 rfl) (fun c_8 => ?_) (fun c_8 => ?_)
  · have hf := if_t hf c_8
    refine G.sub [] rfl ?_
    cases hf
    cases hz_21 _ rfl
    exact hE_21
  · have hf := if_f hf c_8
    refine g_aload_n 0 C (ckD_get k_X7_searchPairs_0 15 rfl) rfl rfl ?_
    obtain ⟨r_10, hr_9, hf⟩ := bd_e hf
    refine n_cV [] [] C (ckD_get k_X7_searchPairs_0 16 rfl) vk_X7_111 (t_X7_isDone C.tr _ _ hr_9) T34 rfl rfl (Nat.le_of_ble_eq_true rfl) (by decide) hB rfl ?_
    refine g_if_ne C (ckD_get k_X7_searchPairs_0 17 rfl) (fun c_11 => ?_) (fun c_11 => ?_)
    · have hf := if_f hf c_11
      refine G.sub [] rfl ?_
      cases hf
      cases hz_21 _ rfl
      exact hE_21
    · have hf := if_t hf c_11
      refine g_lconst (v := (0 : Int64)) C (ckD_get k_X7_searchPairs_0 18 rfl) (by decide) ?_
      refine g_lstore (lv' := [(5, _), (0, _), (1, _), (3, _)]) C (ckD_get k_X7_searchPairs_0 19 rfl) hL6 rfl ?_
      refine G.sub [1, 2, 3, 0] rfl ?_
      obtain ⟨M_14, hx_37, hf⟩ := bd_e hf
      have hE_37 : G K (0, 0) 126 [(0, .ref (K.2.1.1 + 34)), (1, .long r_2), (3, .long x3_5)] [] M_14 := by
        have hf : f_X7_searchPairs_A37 x3_5 M_14 = some rr_21 := hf
        unfold f_X7_searchPairs_A37 at hf
        refine g_aload_n 0 C (ckD_get k_X7_searchPairs_1 22 rfl) rfl rfl ?_
        refine g_aload_n 0 C (ckD_get k_X7_searchPairs_1 23 rfl) rfl rfl ?_
        refine g_getR C (ckD_get k_X7_searchPairs_1 24 rfl) fk_X7_27 T34 rfl ?_
        refine g_getR C (ckD_get k_X7_searchPairs_1 25 rfl) fk_X7_122 T42 rfl ?_
        obtain ⟨M_16, hr_15, hf⟩ := bd_e hf
        refine n_cV [.ref (K.2.1.1 + 43)] [] C (ckD_get k_X7_searchPairs_1 26 rfl) vk_X7_140 (t_X7_nextOrder C.tr _ T43 _ _ hr_15) T34 rfl rfl (Nat.le_of_ble_eq_true rfl) (by decide) hB rfl ?_
        refine g_aload_n 0 C (ckD_get k_X7_searchPairs_1 27 rfl) rfl rfl ?_
        refine g_getR C (ckD_get k_X7_searchPairs_1 28 rfl) fk_X7_27 T34 rfl ?_
        obtain ⟨M_18, hr_17, hf⟩ := bd_e hf
        refine n_cV [] [] C (ckD_get k_X7_searchPairs_1 29 rfl) vk_X7_144 (t_X4_notePlaces C.tr _ (Or.inr rfl) _ _ hr_17) T42 rfl rfl (Nat.le_of_ble_eq_true rfl) (by decide) hB rfl ?_
        refine g_lload_n 2 C (ckD_get k_X7_searchPairs_1 30 rfl) rfl rfl ?_
        refine g_lconst (v := (1 : Int64)) C (ckD_get k_X7_searchPairs_1 31 rfl) (by decide) ?_
        refine g_ladd C (ckD_get k_X7_searchPairs_1 32 rfl) ?_
        obtain ⟨x3_19, ex3_19, hf⟩ := lt_e hf
        refine topL ex3_19 ?_
        refine g_lstore_n (lv' := [(3, _), (0, _), (1, _)]) C (ckD_get k_X7_searchPairs_1 33 rfl) rfl hL4 rfl ?_
        refine g_goto C (ckD_get k_X7_searchPairs_1 34 rfl) ?_
        refine G.sub [1, 2, 0] rfl ?_
        cases hf
        exact hn_21 _ rfl
      refine loop_e (x := M_14) (P := fun (v : (Int64 × Mm)) => G K (0, 0) 37 [(0, .ref (K.2.1.1 + 34)), (1, .long r_2), (3, .long x3_5), (5, .long v.1)] [] v.2) ?_ FU _ hx_37
      intro v rr_37 hf hn_37 hz_37
      obtain ⟨x5_12, M_13⟩ := v
      have hf : f_X7_searchPairs_L37 r_2 x5_12 M_13 = some rr_37 := hf
      show G K (0, 0) 37 [(0, .ref (K.2.1.1 + 34)), (1, .long r_2), (3, .long x3_5), (5, .long x5_12)] [] M_13
      unfold f_X7_searchPairs_L37 at hf
      refine g_lload 3 C (ckD_get k_X7_searchPairs_0 20 rfl) rfl ?_
      refine g_lload_n 1 C (ckD_get k_X7_searchPairs_0 21 rfl) rfl rfl ?_
      refine g_lcmp C (ckD_get k_X7_searchPairs_0 22 rfl) ?_
      refine g_if_ge C (ckD_get k_X7_searchPairs_0 23 rfl) (fun c_20 => ?_) (fun c_20 => ?_)
      · have hf := if_t hf c_20
        refine G.sub [0, 1, 2] rfl ?_
        cases hf
        cases hz_37 _ rfl
        exact hE_37
      · have hf := if_f hf c_20
        refine g_aload_n 0 C (ckD_get k_X7_searchPairs_0 24 rfl) rfl rfl ?_
        obtain ⟨r_22, hr_21, hf⟩ := bd_e hf
        refine n_cV [] [] C (ckD_get k_X7_searchPairs_0 25 rfl) vk_X7_115 (t_X7_mayBeFirst C.tr _ _ hr_21) T34 rfl rfl (Nat.le_of_ble_eq_true rfl) (by decide) hB rfl ?_
        have hJ_106 : ∀ (M_23 : Mm), f_X7_searchPairs_J106 x5_12 M_23 = some rr_37 → G K (0, 0) 106 [(0, .ref (K.2.1.1 + 34)), (1, .long r_2), (3, .long x3_5), (5, .long x5_12)] [] M_23 := by
          intro M_23 hf
          unfold f_X7_searchPairs_J106 at hf
          refine g_aload_n 0 C (ckD_get k_X7_searchPairs_1 12 rfl) rfl rfl ?_
          refine g_aload_n 0 C (ckD_get k_X7_searchPairs_1 13 rfl) rfl rfl ?_
          refine g_getR C (ckD_get k_X7_searchPairs_1 14 rfl) fk_X7_27 T34 rfl ?_
          refine g_getR C (ckD_get k_X7_searchPairs_1 15 rfl) fk_X7_134 T42 rfl ?_
          obtain ⟨M_25, hr_24, hf⟩ := bd_e hf
          refine n_cV [.ref (K.2.1.1 + 44)] [] C (ckD_get k_X7_searchPairs_1 16 rfl) vk_X7_140 (t_X7_nextOrder C.tr _ T44 _ _ hr_24) T34 rfl rfl (Nat.le_of_ble_eq_true rfl) (by decide) hB rfl ?_
          refine g_lload 3 C (ckD_get k_X7_searchPairs_1 17 rfl) rfl ?_
          refine g_lconst (v := (1 : Int64)) C (ckD_get k_X7_searchPairs_1 18 rfl) (by decide) ?_
          refine g_ladd C (ckD_get k_X7_searchPairs_1 19 rfl) ?_
          obtain ⟨x5_26, ex5_26, hf⟩ := lt_e hf
          refine topL ex5_26 ?_
          refine g_lstore (lv' := [(5, _), (0, _), (1, _), (3, _)]) C (ckD_get k_X7_searchPairs_1 20 rfl) hL6 rfl ?_
          refine g_goto C (ckD_get k_X7_searchPairs_1 21 rfl) ?_
          refine G.sub [1, 2, 3, 0] rfl ?_
          cases hf
          exact hn_37 _ rfl
        refine g_if_eq C (ckD_get k_X7_searchPairs_0 26 rfl) (fun c_27 => ?_) (fun c_27 => ?_)
        · have hf := if_t hf c_27
          exact hJ_106 _ hf
        · have hf := if_f hf c_27
          refine g_aload_n 0 C (ckD_get k_X7_searchPairs_0 27 rfl) rfl rfl ?_
          refine g_aload_n 0 C (ckD_get k_X7_searchPairs_0 28 rfl) rfl rfl ?_
          refine g_getR C (ckD_get k_X7_searchPairs_0 29 rfl) fk_X7_27 T34 rfl ?_
          obtain ⟨r_30, M_29, hr_28, hf⟩ := bd2_e hf
          refine n_cV [.ref (K.2.1.1 + 42)] [] C (ckD_get k_X7_searchPairs_0 30 rfl) vk_X7_118 (t_X7_comesLower C.tr _ _ _ hr_28) T34 rfl rfl (Nat.le_of_ble_eq_true rfl) (by decide) hB rfl ?_
          refine g_if_eq C (ckD_get k_X7_searchPairs_0 31 rfl) (fun c_31 => ?_) (fun c_31 => ?_)
          · have hf := if_t hf c_31
            exact hJ_106 _ hf
          · have hf := if_f hf c_31
            refine g_aload_n 0 C (ckD_get k_X7_searchPairs_0 32 rfl) rfl rfl ?_
            obtain ⟨k_32, ek_32, hf⟩ := lt_e hf
            obtain ⟨hk_32, hf⟩ := gd_e hf
            refine g_getV C (ckD_get k_X7_searchPairs_0 33 rfl) fk_X7_57 T34 rfl ?_
            refine topR ek_32 ?_
            refine g_aload_n 0 C (ckD_get k_X7_searchPairs_0 34 rfl) rfl rfl ?_
            refine g_getR C (ckD_get k_X7_searchPairs_0 35 rfl) fk_X7_27 T34 rfl ?_
            refine g_getR C (ckD_get k_X7_searchPairs_0 36 rfl) fk_X7_122 T42 rfl ?_
            refine g_iconst (v := (0 : Int32)) C (ckD_get k_X7_searchPairs_0 37 rfl) (by decide) ?_
            refine g_aload_n 0 C (ckD_get k_X7_searchPairs_0 38 rfl) rfl rfl ?_
            refine g_getI C (ckD_get k_X7_searchPairs_0 39 rfl) fk_X7_88 T34 rfl ?_
            obtain ⟨r_34, hr_33, hf⟩ := bd_e hf
            refine n_cN [.ref (K.2.1.1 + 43), .int (0 : Int32), .int (M_29.1 34 8)] [.ref (K.2.1.1 + k_32)] C (ckD_get k_X7_searchPairs_1 0 rfl) nk_X7_126 (t_X9_pack C.tr _ _ T43 _ _ _ _ hr_33) rfl rfl (Nat.le_of_ble_eq_true rfl) (by decide) hB rfl ?_
            obtain ⟨M_35, eM_35, hf⟩ := lt_e hf
            refine g_putL C (ckD_get k_X7_searchPairs_1 1 rfl) fk_X7_130 (LT_Fd hk_32) rfl ?_
            refine memI eM_35 ?_
            refine g_aload_n 0 C (ckD_get k_X7_searchPairs_1 2 rfl) rfl rfl ?_
            obtain ⟨k_36, ek_36, hf⟩ := lt_e hf
            obtain ⟨hk_36, hf⟩ := gd_e hf
            refine g_getV C (ckD_get k_X7_searchPairs_1 3 rfl) fk_X7_57 T34 rfl ?_
            refine topR ek_36 ?_
            refine g_aload_n 0 C (ckD_get k_X7_searchPairs_1 4 rfl) rfl rfl ?_
            refine g_getR C (ckD_get k_X7_searchPairs_1 5 rfl) fk_X7_27 T34 rfl ?_
            refine g_getR C (ckD_get k_X7_searchPairs_1 6 rfl) fk_X7_134 T42 rfl ?_
            refine g_iconst (v := (0 : Int32)) C (ckD_get k_X7_searchPairs_1 7 rfl) (by decide) ?_
            refine g_aload_n 0 C (ckD_get k_X7_searchPairs_1 8 rfl) rfl rfl ?_
            refine g_getI C (ckD_get k_X7_searchPairs_1 9 rfl) fk_X7_88 T34 rfl ?_
            obtain ⟨r_38, hr_37, hf⟩ := bd_e hf
            refine n_cN [.ref (K.2.1.1 + 44), .int (0 : Int32), .int (M_35.1 34 8)] [.ref (K.2.1.1 + k_36)] C (ckD_get k_X7_searchPairs_1 10 rfl) nk_X7_126 (t_X9_pack C.tr _ _ T44 _ _ _ _ hr_37) rfl rfl (Nat.le_of_ble_eq_true rfl) (by decide) hB rfl ?_
            obtain ⟨M_39, eM_39, hf⟩ := lt_e hf
            refine g_putL C (ckD_get k_X7_searchPairs_1 11 rfl) fk_X7_137 (LT_Fd hk_36) rfl ?_
            refine memI eM_39 ?_
            exact hJ_106 _ hf

set_option maxRecDepth 20000 in
theorem k_X7_searchTrees_0 : ckD cX7_searchTrees [(0, .aload_n 0, 1, 1, 0), (1, .getfield 88, 3, 4, 0), (4, .invokestatic 103, 3, 7, 0), (7, .lstore_n 1, 1, 8, 0), (8, .aload_n 0, 1, 9, 0), (9, .getfield 27, 3, 12, 0), (12, .aload_n 0, 1, 13, 0), (13, .getfield 88, 3, 16, 0), (16, .invokevirtual 107, 3, 19, 0), (19, .lconst 0, 1, 20, 0), (20, .lstore_n 3, 1, 21, 0), (21, .lload_n 3, 1, 22, 0), (22, .lload_n 1, 1, 23, 0), (23, .lcmp, 1, 24, 0), (24, .ifCond .ge 142, 3, 27, 166), (27, .aload_n 0, 1, 28, 0), (28, .invokevirtual 111, 3, 31, 0), (31, .ifCond .ne 135, 3, 34, 166), (34, .iconst 0, 1, 35, 0), (35, .istore 5, 2, 37, 0), (37, .iload 5, 2, 39, 0), (39, .iconst 1, 1, 40, 0), (40, .iconst 2, 1, 41, 0), (41, .aload_n 0, 1, 42, 0), (42, .getfield 88, 3, 45, 0), (45, .imul, 1, 46, 0), (46, .ishl, 1, 47, 0), (47, .if_icmp .ge 101, 3, 50, 148), (50, .aload_n 0, 1, 51, 0), (51, .getfield 41, 3, 54, 0), (54, .aload_n 0, 1, 55, 0), (55, .getfield 27, 3, 58, 0), (58, .getfield 122, 3, 61, 0), (61, .aload_n 0, 1, 62, 0), (62, .getfield 88, 3, 65, 0), (65, .iload 5, 2, 67, 0), (67, .invokevirtual 165, 3, 70, 0), (70, .ifCond .eq 72, 3, 73, 142), (73, .aload_n 0, 1, 74, 0), (74, .aload_n 0, 1, 75, 0)] = true := by decide +kernel
set_option maxRecDepth 20000 in
theorem k_X7_searchTrees_1 : ckD cX7_searchTrees [(75, .getfield 41, 3, 78, 0), (78, .invokevirtual 118, 3, 81, 0), (81, .ifCond .eq 61, 3, 84, 142), (84, .aload_n 0, 1, 85, 0), (85, .getfield 57, 3, 88, 0), (88, .aload_n 0, 1, 89, 0), (89, .getfield 41, 3, 92, 0), (92, .getfield 169, 3, 95, 0), (95, .putfield 172, 3, 98, 0), (98, .aload_n 0, 1, 99, 0), (99, .getfield 57, 3, 102, 0), (102, .aload_n 0, 1, 103, 0), (103, .getfield 41, 3, 106, 0), (106, .getfield 173, 3, 109, 0), (109, .iconst 0, 1, 110, 0), (110, .aload_n 0, 1, 111, 0), (111, .getfield 88, 3, 114, 0), (114, .invokestatic 126, 3, 117, 0), (117, .putfield 130, 3, 120, 0), (120, .aload_n 0, 1, 121, 0), (121, .getfield 57, 3, 124, 0), (124, .aload_n 0, 1, 125, 0), (125, .getfield 41, 3, 128, 0), (128, .getfield 176, 3, 131, 0), (131, .iconst 0, 1, 132, 0), (132, .aload_n 0, 1, 133, 0), (133, .getfield 88, 3, 136, 0), (136, .invokestatic 126, 3, 139, 0), (139, .putfield 137, 3, 142, 0), (142, .iinc 5 1, 3, 145, 0), (145, .goto (-108), 3, 148, 37), (148, .aload_n 0, 1, 149, 0), (149, .aload_n 0, 1, 150, 0), (150, .getfield 27, 3, 153, 0), (153, .getfield 122, 3, 156, 0), (156, .invokevirtual 140, 3, 159, 0), (159, .lload_n 3, 1, 160, 0), (160, .lconst 1, 1, 161, 0), (161, .ladd, 1, 162, 0), (162, .lstore_n 3, 1, 163, 0)] = true := by decide +kernel
set_option maxRecDepth 20000 in
theorem k_X7_searchTrees_2 : ckD cX7_searchTrees [(163, .goto (-142), 3, 166, 21), (166, .return_, 1, 167, 0)] = true := by decide +kernel
def f_X7_searchTrees_A21 (M_7 : Mm) : Option Mm := some M_7
def f_X7_searchTrees_A37 (x3_5 : Int64) (M_14 : Mm) : Option ((Int64 × Mm) ⊕ Mm) := (f_X7_nextOrder 43 M_14).bind fun M_16 => lt1 (x3_5 + (1 : Int64)) fun x3_17 => some (.inl (x3_17, M_16))
def f_X7_searchTrees_J142 (x5_12 : Int32) (M_22 : Mm) : Option ((Int32 × Mm) ⊕ Mm) := lt1 (x5_12 + 1) fun x5_23 => some (.inl (x5_23, M_22))
def f_X7_searchTrees_L37 (x5_12 : Int32) (M_13 : Mm) : Option ((Int32 × Mm) ⊕ Mm) := if ((1 : Int32) <<< (((2 : Int32) * (M_13.1 34 8)) &&& 31)) ≤ x5_12 then some (.inr M_13) else bd2 (f_X3_grow 54 43 (M_13.1 34 8) x5_12 M_13) fun r_21 M_20 => if r_21 = 0 then f_X7_searchTrees_J142 x5_12 M_20 else bd2 (f_X7_comesLower 54 M_20) fun r_27 M_26 => if r_27 = 0 then f_X7_searchTrees_J142 x5_12 M_26 else lt1 ((M_26.1 34 7).toNatClampNeg) fun k_29 => gd (decide (65 ≤ k_29 ∧ k_29 < 69)) <| lt1 (wi M_26 k_29 1 (M_26.1 54 4)) fun M_30 => lt1 ((M_30.1 34 7).toNatClampNeg) fun k_31 => gd (decide (65 ≤ k_31 ∧ k_31 < 69)) <| (f_X9_pack 12 55 (0 : Int32) (M_30.1 34 8) M_30).bind fun r_33 => lt1 (wl M_30 k_31 2 r_33) fun M_34 => lt1 ((M_34.1 34 7).toNatClampNeg) fun k_35 => gd (decide (65 ≤ k_35 ∧ k_35 < 69)) <| (f_X9_pack 12 56 (0 : Int32) (M_34.1 34 8) M_34).bind fun r_37 => lt1 (wl M_34 k_35 3 r_37) fun M_38 => f_X7_searchTrees_J142 x5_12 M_38
def f_X7_searchTrees_L21 (r_2 : Int64) (x3_5 : Int64) (M_6 : Mm) : Option ((Int64 × Mm) ⊕ Mm) := if 0 ≤ (lg_cmp x3_5 r_2) then some (.inr M_6) else (f_X7_isDone M_6).bind fun r_10 => if r_10 = 0 then (loop (fun v => f_X7_searchTrees_L37 v.1 v.2) FU ((0 : Int32), M_6)).bind fun z => f_X7_searchTrees_A37 x3_5 z else some (.inr M_6)
def f_X7_searchTrees  (M : Mm) : Option Mm := (f_X9_factorial (M.1 34 8) M).bind fun r_2 => (f_X4_begin 42 (M.1 34 8) M).bind fun M_4 => (loop (fun v => f_X7_searchTrees_L21 r_2 v.1 v.2) FU ((0 : Int64), M_4)).bind fun z => f_X7_searchTrees_A21 z
set_option maxRecDepth 100000 in
set_option maxHeartbeats 4000000 in
theorem t_X7_searchTrees {E : Ev} {l : Launch} (htr : l.stackTraces = false) (M : Mm) (r : Mm) (hf : f_X7_searchTrees M = some r) : CM E l 5 0 0 yX7_searchTrees cX7_searchTrees 6 none [.ref (E.1 + 34)] M none r := by
  refine CM.of htr (by decide +kernel) (Nat.le_of_ble_eq_true rfl) ?_
  intro K hE hL hl hR0 C hr hRv
  subst hE
  subst hl
  have C : Cx K cX7_searchTrees RX7 5 := C
  have hB : (0 : Nat) ≤ K.1.R.cells ∧ 0 ≤ K.1.R.slots := ⟨Nat.zero_le _, Nat.zero_le _⟩
  have hL2 : 2 < K.2.2.1 := by rw [hL]; decide
  have hL4 : 4 < K.2.2.1 := by rw [hL]; decide
  have hL5 : 5 < K.2.2.1 := by rw [hL]; decide
  show G K (0, 0) 0 [(0, .ref (K.2.1.1 + 34))] [] M
  unfold f_X7_searchTrees at hf
  refine g_aload_n 0 C (ckD_get k_X7_searchTrees_0 0 rfl) rfl rfl ?_
  refine g_getI C (ckD_get k_X7_searchTrees_0 1 rfl) fk_X7_88 T34 rfl ?_
  obtain ⟨r_2, hr_1, hf⟩ := bd_e hf
  refine n_cN [.int (M.1 34 8)] [] C (ckD_get k_X7_searchTrees_0 2 rfl) nk_X7_103 (t_X9_factorial C.tr _ _ _ hr_1) rfl rfl (Nat.le_of_ble_eq_true rfl) (by decide) hB rfl ?_
  refine g_lstore_n (lv' := [(1, _), (0, _)]) C (ckD_get k_X7_searchTrees_0 3 rfl) rfl hL2 rfl ?_
  refine g_aload_n 1 C (ckD_get k_X7_searchTrees_0 4 rfl) rfl rfl ?_
  refine g_getR C (ckD_get k_X7_searchTrees_0 5 rfl) fk_X7_27 T34 rfl ?_
  refine g_aload_n 1 C (ckD_get k_X7_searchTrees_0 6 rfl) rfl rfl ?_
  refine g_getI C (ckD_get k_X7_searchTrees_0 7 rfl) fk_X7_88 T34 rfl ?_
  obtain ⟨M_4, hr_3, hf⟩ := bd_e hf
  refine n_cV [.int (M.1 34 8)] [] C (ckD_get k_X7_searchTrees_0 8 rfl) vk_X7_107 (t_X4_begin C.tr _ (Or.inr rfl) _ _ _ hr_3) T42 rfl rfl (Nat.le_of_ble_eq_true rfl) (by decide) hB rfl ?_
  refine g_lconst (v := (0 : Int64)) C (ckD_get k_X7_searchTrees_0 9 rfl) (by decide) ?_
  refine g_lstore_n (lv' := [(3, _), (1, _), (0, _)]) C (ckD_get k_X7_searchTrees_0 10 rfl) rfl hL4 rfl ?_
  refine G.sub [2, 1, 0] rfl ?_
  obtain ⟨M_7, hx_21, hf⟩ := bd_e hf
  have hE_21 : G K (0, 0) 166 [] [] M_7 := by
    have hf : f_X7_searchTrees_A21 M_7 = some r := hf
    unfold f_X7_searchTrees_A21 at hf
    cases hf
    exact g_vret C (ckD_get k_X7_searchTrees_2 1 rfl) hr hRv (Nat.le_refl _) (Nat.le_refl _)
  refine loop_e (x := M_7) (P := fun (v : (Int64 × Mm)) => G K (0, 0) 21 [(0, .ref (K.2.1.1 + 34)), (1, .long r_2), (3, .long v.1)] [] v.2) ?_ FU _ hx_21
  intro v rr_21 hf hn_21 hz_21
  obtain ⟨x3_5, M_6⟩ := v
  have hf : f_X7_searchTrees_L21 r_2 x3_5 M_6 = some rr_21 := hf
  show G K (0, 0) 21 [(0, .ref (K.2.1.1 + 34)), (1, .long r_2), (3, .long x3_5)] [] M_6
  unfold f_X7_searchTrees_L21 at hf
  refine g_lload_n 2 C (ckD_get k_X7_searchTrees_0 11 rfl) rfl rfl ?_
  refine g_lload_n 1 C (ckD_get k_X7_searchTrees_0 12 rfl) rfl rfl ?_
  refine g_lcmp C (ckD_get k_X7_searchTrees_0 13 rfl) ?_
  refine g_if_ge C (ckD_get k_X7_searchTrees_0 14 rfl) (fun c_8 => ?_) (fun c_8 => ?_)
  · have hf := if_t hf c_8
    refine G.sub [] rfl ?_
    cases hf
    cases hz_21 _ rfl
    exact hE_21
  · have hf := if_f hf c_8
    refine g_aload_n 0 C (ckD_get k_X7_searchTrees_0 15 rfl) rfl rfl ?_
    obtain ⟨r_10, hr_9, hf⟩ := bd_e hf
    refine n_cV [] [] C (ckD_get k_X7_searchTrees_0 16 rfl) vk_X7_111 (t_X7_isDone C.tr _ _ hr_9) T34 rfl rfl (Nat.le_of_ble_eq_true rfl) (by decide) hB rfl ?_
    refine g_if_ne C (ckD_get k_X7_searchTrees_0 17 rfl) (fun c_11 => ?_) (fun c_11 => ?_)
    · have hf := if_f hf c_11
      refine G.sub [] rfl ?_
      cases hf
      cases hz_21 _ rfl
      exact hE_21
    · have hf := if_t hf c_11
      refine g_iconst (v := (0 : Int32)) C (ckD_get k_X7_searchTrees_0 18 rfl) (by decide) ?_
      refine g_istore (lv' := [(5, _), (0, _), (1, _), (3, _)]) C (ckD_get k_X7_searchTrees_0 19 rfl) hL5 rfl ?_
      refine G.sub [1, 2, 3, 0] rfl ?_
      obtain ⟨M_14, hx_37, hf⟩ := bd_e hf
      have hE_37 : G K (0, 0) 148 [(0, .ref (K.2.1.1 + 34)), (1, .long r_2), (3, .long x3_5)] [] M_14 := by
        have hf : f_X7_searchTrees_A37 x3_5 M_14 = some rr_21 := hf
        unfold f_X7_searchTrees_A37 at hf
        refine g_aload_n 0 C (ckD_get k_X7_searchTrees_1 31 rfl) rfl rfl ?_
        refine g_aload_n 0 C (ckD_get k_X7_searchTrees_1 32 rfl) rfl rfl ?_
        refine g_getR C (ckD_get k_X7_searchTrees_1 33 rfl) fk_X7_27 T34 rfl ?_
        refine g_getR C (ckD_get k_X7_searchTrees_1 34 rfl) fk_X7_122 T42 rfl ?_
        obtain ⟨M_16, hr_15, hf⟩ := bd_e hf
        refine n_cV [.ref (K.2.1.1 + 43)] [] C (ckD_get k_X7_searchTrees_1 35 rfl) vk_X7_140 (t_X7_nextOrder C.tr _ T43 _ _ hr_15) T34 rfl rfl (Nat.le_of_ble_eq_true rfl) (by decide) hB rfl ?_
        refine g_lload_n 2 C (ckD_get k_X7_searchTrees_1 36 rfl) rfl rfl ?_
        refine g_lconst (v := (1 : Int64)) C (ckD_get k_X7_searchTrees_1 37 rfl) (by decide) ?_
        refine g_ladd C (ckD_get k_X7_searchTrees_1 38 rfl) ?_
        obtain ⟨x3_17, ex3_17, hf⟩ := lt_e hf
        refine topL ex3_17 ?_
        refine g_lstore_n (lv' := [(3, _), (0, _), (1, _)]) C (ckD_get k_X7_searchTrees_1 39 rfl) rfl hL4 rfl ?_
        refine g_goto C (ckD_get k_X7_searchTrees_2 0 rfl) ?_
        refine G.sub [1, 2, 0] rfl ?_
        cases hf
        exact hn_21 _ rfl
      refine loop_e (x := M_14) (P := fun (v : (Int32 × Mm)) => G K (0, 0) 37 [(0, .ref (K.2.1.1 + 34)), (1, .long r_2), (3, .long x3_5), (5, .int v.1)] [] v.2) ?_ FU _ hx_37
      intro v rr_37 hf hn_37 hz_37
      obtain ⟨x5_12, M_13⟩ := v
      have hf : f_X7_searchTrees_L37 x5_12 M_13 = some rr_37 := hf
      show G K (0, 0) 37 [(0, .ref (K.2.1.1 + 34)), (1, .long r_2), (3, .long x3_5), (5, .int x5_12)] [] M_13
      unfold f_X7_searchTrees_L37 at hf
      refine g_iload 3 C (ckD_get k_X7_searchTrees_0 20 rfl) rfl ?_
      refine g_iconst (v := (1 : Int32)) C (ckD_get k_X7_searchTrees_0 21 rfl) (by decide) ?_
      refine g_iconst (v := (2 : Int32)) C (ckD_get k_X7_searchTrees_0 22 rfl) (by decide) ?_
      refine g_aload_n 0 C (ckD_get k_X7_searchTrees_0 23 rfl) rfl rfl ?_
      refine g_getI C (ckD_get k_X7_searchTrees_0 24 rfl) fk_X7_88 T34 rfl ?_
      refine g_imul C (ckD_get k_X7_searchTrees_0 25 rfl) ?_
      refine g_ishl C (ckD_get k_X7_searchTrees_0 26 rfl) ?_
      refine g_icmp_ge C (ckD_get k_X7_searchTrees_0 27 rfl) (fun c_18 => ?_) (fun c_18 => ?_)
      · have hf := if_t hf c_18
        refine G.sub [0, 1, 2] rfl ?_
        cases hf
        cases hz_37 _ rfl
        exact hE_37
      · have hf := if_f hf c_18
        refine g_aload_n 0 C (ckD_get k_X7_searchTrees_0 28 rfl) rfl rfl ?_
        refine g_getR C (ckD_get k_X7_searchTrees_0 29 rfl) fk_X7_41 T34 rfl ?_
        refine g_aload_n 0 C (ckD_get k_X7_searchTrees_0 30 rfl) rfl rfl ?_
        refine g_getR C (ckD_get k_X7_searchTrees_0 31 rfl) fk_X7_27 T34 rfl ?_
        refine g_getR C (ckD_get k_X7_searchTrees_0 32 rfl) fk_X7_122 T42 rfl ?_
        refine g_aload_n 0 C (ckD_get k_X7_searchTrees_0 33 rfl) rfl rfl ?_
        refine g_getI C (ckD_get k_X7_searchTrees_0 34 rfl) fk_X7_88 T34 rfl ?_
        refine g_iload 3 C (ckD_get k_X7_searchTrees_0 35 rfl) rfl ?_
        obtain ⟨r_21, M_20, hr_19, hf⟩ := bd2_e hf
        refine n_cV [.ref (K.2.1.1 + 43), .int (M_13.1 34 8), .int x5_12] [] C (ckD_get k_X7_searchTrees_0 36 rfl) vk_X7_165 (t_X3_grow C.tr _ (Or.inr rfl) _ T43 _ _ _ _ hr_19) T54 rfl rfl (Nat.le_of_ble_eq_true rfl) (by decide) hB rfl ?_
        have hJ_142 : ∀ (M_22 : Mm), f_X7_searchTrees_J142 x5_12 M_22 = some rr_37 → G K (0, 0) 142 [(0, .ref (K.2.1.1 + 34)), (1, .long r_2), (3, .long x3_5), (5, .int x5_12)] [] M_22 := by
          intro M_22 hf
          unfold f_X7_searchTrees_J142 at hf
          obtain ⟨x5_23, ex5_23, hf⟩ := lt_e hf
          refine g_iinc (lv' := [(5, _), (0, _), (1, _), (3, _)]) 3 C (ckD_get k_X7_searchTrees_1 29 rfl) rfl ex5_23 hL5 rfl ?_
          refine g_goto C (ckD_get k_X7_searchTrees_1 30 rfl) ?_
          refine G.sub [1, 2, 3, 0] rfl ?_
          cases hf
          exact hn_37 _ rfl
        refine g_if_eq C (ckD_get k_X7_searchTrees_0 37 rfl) (fun c_24 => ?_) (fun c_24 => ?_)
        · have hf := if_t hf c_24
          exact hJ_142 _ hf
        · have hf := if_f hf c_24
          refine g_aload_n 0 C (ckD_get k_X7_searchTrees_0 38 rfl) rfl rfl ?_
          refine g_aload_n 0 C (ckD_get k_X7_searchTrees_0 39 rfl) rfl rfl ?_
          refine g_getR C (ckD_get k_X7_searchTrees_1 0 rfl) fk_X7_41 T34 rfl ?_
          obtain ⟨r_27, M_26, hr_25, hf⟩ := bd2_e hf
          refine n_cV [.ref (K.2.1.1 + 54)] [] C (ckD_get k_X7_searchTrees_1 1 rfl) vk_X7_118 (t_X7_comesLower C.tr _ _ _ hr_25) T34 rfl rfl (Nat.le_of_ble_eq_true rfl) (by decide) hB rfl ?_
          refine g_if_eq C (ckD_get k_X7_searchTrees_1 2 rfl) (fun c_28 => ?_) (fun c_28 => ?_)
          · have hf := if_t hf c_28
            exact hJ_142 _ hf
          · have hf := if_f hf c_28
            refine g_aload_n 0 C (ckD_get k_X7_searchTrees_1 3 rfl) rfl rfl ?_
            obtain ⟨k_29, ek_29, hf⟩ := lt_e hf
            obtain ⟨hk_29, hf⟩ := gd_e hf
            refine g_getV C (ckD_get k_X7_searchTrees_1 4 rfl) fk_X7_57 T34 rfl ?_
            refine topR ek_29 ?_
            refine g_aload_n 0 C (ckD_get k_X7_searchTrees_1 5 rfl) rfl rfl ?_
            refine g_getR C (ckD_get k_X7_searchTrees_1 6 rfl) fk_X7_41 T34 rfl ?_
            refine g_getI C (ckD_get k_X7_searchTrees_1 7 rfl) fk_X7_169 T54 rfl ?_
            obtain ⟨M_30, eM_30, hf⟩ := lt_e hf
            refine g_putI C (ckD_get k_X7_searchTrees_1 8 rfl) fk_X7_172 (LT_Fd hk_29) rfl ?_
            refine memI eM_30 ?_
            refine g_aload_n 0 C (ckD_get k_X7_searchTrees_1 9 rfl) rfl rfl ?_
            obtain ⟨k_31, ek_31, hf⟩ := lt_e hf
            obtain ⟨hk_31, hf⟩ := gd_e hf
            refine g_getV C (ckD_get k_X7_searchTrees_1 10 rfl) fk_X7_57 T34 rfl ?_
            refine topR ek_31 ?_
            refine g_aload_n 0 C (ckD_get k_X7_searchTrees_1 11 rfl) rfl rfl ?_
            refine g_getR C (ckD_get k_X7_searchTrees_1 12 rfl) fk_X7_41 T34 rfl ?_
            refine g_getR C (ckD_get k_X7_searchTrees_1 13 rfl) fk_X7_173 T54 rfl ?_
            refine g_iconst (v := (0 : Int32)) C (ckD_get k_X7_searchTrees_1 14 rfl) (by decide) ?_
            refine g_aload_n 0 C (ckD_get k_X7_searchTrees_1 15 rfl) rfl rfl ?_
            refine g_getI C (ckD_get k_X7_searchTrees_1 16 rfl) fk_X7_88 T34 rfl ?_
            obtain ⟨r_33, hr_32, hf⟩ := bd_e hf
            refine n_cN [.ref (K.2.1.1 + 55), .int (0 : Int32), .int (M_30.1 34 8)] [.ref (K.2.1.1 + k_31)] C (ckD_get k_X7_searchTrees_1 17 rfl) nk_X7_126 (t_X9_pack C.tr _ _ T55 _ _ _ _ hr_32) rfl rfl (Nat.le_of_ble_eq_true rfl) (by decide) hB rfl ?_
            obtain ⟨M_34, eM_34, hf⟩ := lt_e hf
            refine g_putL C (ckD_get k_X7_searchTrees_1 18 rfl) fk_X7_130 (LT_Fd hk_31) rfl ?_
            refine memI eM_34 ?_
            refine g_aload_n 0 C (ckD_get k_X7_searchTrees_1 19 rfl) rfl rfl ?_
            obtain ⟨k_35, ek_35, hf⟩ := lt_e hf
            obtain ⟨hk_35, hf⟩ := gd_e hf
            refine g_getV C (ckD_get k_X7_searchTrees_1 20 rfl) fk_X7_57 T34 rfl ?_
            refine topR ek_35 ?_
            refine g_aload_n 0 C (ckD_get k_X7_searchTrees_1 21 rfl) rfl rfl ?_
            refine g_getR C (ckD_get k_X7_searchTrees_1 22 rfl) fk_X7_41 T34 rfl ?_
            refine g_getR C (ckD_get k_X7_searchTrees_1 23 rfl) fk_X7_176 T54 rfl ?_
            refine g_iconst (v := (0 : Int32)) C (ckD_get k_X7_searchTrees_1 24 rfl) (by decide) ?_
            refine g_aload_n 0 C (ckD_get k_X7_searchTrees_1 25 rfl) rfl rfl ?_
            refine g_getI C (ckD_get k_X7_searchTrees_1 26 rfl) fk_X7_88 T34 rfl ?_
            obtain ⟨r_37, hr_36, hf⟩ := bd_e hf
            refine n_cN [.ref (K.2.1.1 + 56), .int (0 : Int32), .int (M_34.1 34 8)] [.ref (K.2.1.1 + k_35)] C (ckD_get k_X7_searchTrees_1 27 rfl) nk_X7_126 (t_X9_pack C.tr _ _ T56 _ _ _ _ hr_36) rfl rfl (Nat.le_of_ble_eq_true rfl) (by decide) hB rfl ?_
            obtain ⟨M_38, eM_38, hf⟩ := lt_e hf
            refine g_putL C (ckD_get k_X7_searchTrees_1 28 rfl) fk_X7_137 (LT_Fd hk_35) rfl ?_
            refine memI eM_38 ?_
            exact hJ_142 _ hf

set_option maxRecDepth 20000 in
theorem k_X7_find_0 : ckD cX7_find [(0, .aload_n 0, 1, 1, 0), (1, .aload_n 0, 1, 2, 0), (2, .getfield 11, 3, 5, 0), (5, .iload_n 1, 1, 6, 0), (6, .iconst 1, 1, 7, 0), (7, .if_icmp .lt 12, 3, 10, 19), (10, .iload_n 1, 1, 11, 0), (11, .iconst 3, 1, 12, 0), (12, .if_icmp .gt 7, 3, 15, 19), (15, .iload_n 1, 1, 16, 0), (16, .goto 4, 3, 19, 20), (19, .iconst 1, 1, 20, 0), (20, .aaload, 1, 21, 0), (21, .putfield 57, 3, 24, 0), (24, .aload_n 0, 1, 25, 0), (25, .getfield 57, 3, 28, 0), (28, .getfield 61, 3, 31, 0), (31, .ifCond .ne 35, 3, 34, 66), (34, .aload_n 0, 1, 35, 0), (35, .invokevirtual 65, 3, 38, 0), (38, .iload_n 1, 1, 39, 0), (39, .iconst 2, 1, 40, 0), (40, .if_icmp .ne 10, 3, 43, 50), (43, .aload_n 0, 1, 44, 0), (44, .invokevirtual 68, 3, 47, 0), (47, .goto 19, 3, 50, 66), (50, .iload_n 1, 1, 51, 0), (51, .iconst 3, 1, 52, 0), (52, .if_icmp .ne 10, 3, 55, 62), (55, .aload_n 0, 1, 56, 0), (56, .invokevirtual 71, 3, 59, 0), (59, .goto 7, 3, 62, 66), (62, .aload_n 0, 1, 63, 0), (63, .invokevirtual 74, 3, 66, 0), (66, .aload_n 0, 1, 67, 0), (67, .getfield 57, 3, 70, 0), (70, .areturn, 1, 71, 0)] = true := by decide +kernel
def f_X7_find_J66 (M_6 : Mm) : Option (Nat × Mm) := lt1 ((M_6.1 34 7).toNatClampNeg) fun k_7 => gd (decide (65 ≤ k_7 ∧ k_7 < 69)) <| some (k_7, M_6)
def f_X7_find_J20 (a1 : Int32) (M : Mm) (s_1 : Int32) : Option (Nat × Mm) := gd (decide (¬ (s_1 < 0 ∨ 4 ≤ (s_1).toNatClampNeg))) <| lt1 (65 + (s_1).toNatClampNeg) fun k_2 => lt1 (wi M 34 7 (Int32.ofNat k_2)) fun M_4 => lt1 ((M_4.1 34 7).toNatClampNeg) fun k_5 => gd (decide (65 ≤ k_5 ∧ k_5 < 69)) <| if (M_4.1 k_5 0) = 0 then (f_X7_prepare M_4).bind fun M_10 => if a1 = (2 : Int32) then (f_X7_searchCuts M_10).bind fun M_18 => f_X7_find_J66 M_18 else if a1 = (3 : Int32) then (f_X7_searchTrees M_10).bind fun M_16 => f_X7_find_J66 M_16 else (f_X7_searchPairs M_10).bind fun M_14 => f_X7_find_J66 M_14 else f_X7_find_J66 M_4
def f_X7_find_J19 (a1 : Int32) (M : Mm) (_ : Unit) : Option (Nat × Mm) := f_X7_find_J20 a1 M (1 : Int32)
def f_X7_find (a1 : Int32) (M : Mm) : Option (Nat × Mm) := if a1 < (1 : Int32) then f_X7_find_J19 a1 M () else if (3 : Int32) < a1 then f_X7_find_J19 a1 M () else f_X7_find_J20 a1 M a1
set_option maxRecDepth 100000 in
set_option maxHeartbeats 4000000 in
theorem t_X7_find {E : Ev} {l : Launch} (htr : l.stackTraces = false) (a1 : Int32) (M : Mm) (r : (Nat × Mm)) (hf : f_X7_find a1 M = some r) : CM E l 37 0 0 yX7_find cX7_find 2 (some (.object "GroundPlan$Found")) [.ref (E.1 + 34), .int a1] M (some (.ref (E.1 + r.1))) r.2 := by
  refine CM.of htr (by decide +kernel) (Nat.le_of_ble_eq_true rfl) ?_
  intro K hE hL hl hR0 C hr hRv
  subst hE
  subst hl
  have C : Cx K cX7_find RX7 37 := C
  have hB : (0 : Nat) ≤ K.1.R.cells ∧ 0 ≤ K.1.R.slots := ⟨Nat.zero_le _, Nat.zero_le _⟩
  show G K (0, 0) 0 [(0, .ref (K.2.1.1 + 34)), (1, .int a1)] [] M
  unfold f_X7_find at hf
  refine g_aload_n 0 C (ckD_get k_X7_find_0 0 rfl) rfl rfl ?_
  refine g_aload_n 0 C (ckD_get k_X7_find_0 1 rfl) rfl rfl ?_
  refine g_getR C (ckD_get k_X7_find_0 2 rfl) fk_X7_11 T34 rfl ?_
  refine g_iload_n 1 C (ckD_get k_X7_find_0 3 rfl) rfl rfl ?_
  refine g_iconst (v := (1 : Int32)) C (ckD_get k_X7_find_0 4 rfl) (by decide) ?_
  have hJ_20 : ∀ (s_1 : Int32), f_X7_find_J20 a1 M s_1 = some r → G K (0, 0) 20 [(0, .ref (K.2.1.1 + 34)), (1, .int a1)] [.int s_1, .ref (K.2.1.1 + 35), .ref (K.2.1.1 + 34)] M := by
    intro s_1 hf
    unfold f_X7_find_J20 at hf
    obtain ⟨hi_3, hf⟩ := gd_e hf
    obtain ⟨k_2, ek_2, hf⟩ := lt_e hf
    have hi_3x := of_decide_eq_true hi_3
    refine g_aald C (ckD_get k_X7_find_0 12 rfl) T35 hi_3x ?_
    refine topR ek_2 ?_
    have hkk_2 : k_2 < 200 := by have := of_decide_eq_true hi_3; omega
    have hk_2 : decide (65 ≤ k_2 ∧ k_2 < 69) = true := decide_eq_true (by have := of_decide_eq_true hi_3; omega)
    obtain ⟨M_4, eM_4, hf⟩ := lt_e hf
    refine g_putV C (ckD_get k_X7_find_0 13 rfl) fk_X7_57 T34 rfl hkk_2 ?_
    refine memI eM_4 ?_
    refine g_aload_n 0 C (ckD_get k_X7_find_0 14 rfl) rfl rfl ?_
    obtain ⟨k_5, ek_5, hf⟩ := lt_e hf
    obtain ⟨hk_5, hf⟩ := gd_e hf
    refine g_getV C (ckD_get k_X7_find_0 15 rfl) fk_X7_57 T34 rfl ?_
    refine topR ek_5 ?_
    refine g_getI C (ckD_get k_X7_find_0 16 rfl) fk_X7_61 (LT_Fd hk_5) rfl ?_
    have hJ_66 : ∀ (M_6 : Mm), f_X7_find_J66 M_6 = some r → G K (0, 0) 66 [(0, .ref (K.2.1.1 + 34))] [] M_6 := by
      intro M_6 hf
      unfold f_X7_find_J66 at hf
      refine g_aload_n 0 C (ckD_get k_X7_find_0 34 rfl) rfl rfl ?_
      obtain ⟨k_7, ek_7, hf⟩ := lt_e hf
      obtain ⟨hk_7, hf⟩ := gd_e hf
      refine g_getV C (ckD_get k_X7_find_0 35 rfl) fk_X7_57 T34 rfl ?_
      refine topR ek_7 ?_
      cases hf
      exact g_aret C (ckD_get k_X7_find_0 36 rfl) hr hRv (Nat.le_refl _) (Nat.le_refl _)
    refine g_if_ne C (ckD_get k_X7_find_0 17 rfl) (fun c_8 => ?_) (fun c_8 => ?_)
    · have hf := if_f hf c_8
      refine G.sub [0] rfl ?_
      exact hJ_66 _ hf
    · have hf := if_t hf c_8
      refine g_aload_n 0 C (ckD_get k_X7_find_0 18 rfl) rfl rfl ?_
      obtain ⟨M_10, hr_9, hf⟩ := bd_e hf
      refine n_cV [] [] C (ckD_get k_X7_find_0 19 rfl) vk_X7_65 (t_X7_prepare C.tr _ _ hr_9) T34 rfl rfl (Nat.le_of_ble_eq_true rfl) (by decide) hB rfl ?_
      refine g_iload_n 1 C (ckD_get k_X7_find_0 20 rfl) rfl rfl ?_
      refine g_iconst (v := (2 : Int32)) C (ckD_get k_X7_find_0 21 rfl) (by decide) ?_
      refine g_icmp_ne C (ckD_get k_X7_find_0 22 rfl) (fun c_11 => ?_) (fun c_11 => ?_)
      · have hf := if_f hf c_11
        refine g_iload_n 1 C (ckD_get k_X7_find_0 26 rfl) rfl rfl ?_
        refine g_iconst (v := (3 : Int32)) C (ckD_get k_X7_find_0 27 rfl) (by decide) ?_
        refine g_icmp_ne C (ckD_get k_X7_find_0 28 rfl) (fun c_12 => ?_) (fun c_12 => ?_)
        · have hf := if_f hf c_12
          refine g_aload_n 0 C (ckD_get k_X7_find_0 32 rfl) rfl rfl ?_
          obtain ⟨M_14, hr_13, hf⟩ := bd_e hf
          refine n_cV [] [] C (ckD_get k_X7_find_0 33 rfl) vk_X7_74 (t_X7_searchPairs C.tr _ _ hr_13) T34 rfl rfl (Nat.le_of_ble_eq_true rfl) (by decide) hB rfl ?_
          refine G.sub [0] rfl ?_
          exact hJ_66 _ hf
        · have hf := if_t hf c_12
          refine g_aload_n 0 C (ckD_get k_X7_find_0 29 rfl) rfl rfl ?_
          obtain ⟨M_16, hr_15, hf⟩ := bd_e hf
          refine n_cV [] [] C (ckD_get k_X7_find_0 30 rfl) vk_X7_71 (t_X7_searchTrees C.tr _ _ hr_15) T34 rfl rfl (Nat.le_of_ble_eq_true rfl) (by decide) hB rfl ?_
          refine g_goto C (ckD_get k_X7_find_0 31 rfl) ?_
          refine G.sub [0] rfl ?_
          exact hJ_66 _ hf
      · have hf := if_t hf c_11
        refine g_aload_n 0 C (ckD_get k_X7_find_0 23 rfl) rfl rfl ?_
        obtain ⟨M_18, hr_17, hf⟩ := bd_e hf
        refine n_cV [] [] C (ckD_get k_X7_find_0 24 rfl) vk_X7_68 (t_X7_searchCuts C.tr _ _ hr_17) T34 rfl rfl (Nat.le_of_ble_eq_true rfl) (by decide) hB rfl ?_
        refine g_goto C (ckD_get k_X7_find_0 25 rfl) ?_
        refine G.sub [0] rfl ?_
        exact hJ_66 _ hf
  have hJ_19 : ∀ (_ : Unit), f_X7_find_J19 a1 M () = some r → G K (0, 0) 19 [(0, .ref (K.2.1.1 + 34)), (1, .int a1)] [.ref (K.2.1.1 + 35), .ref (K.2.1.1 + 34)] M := by
    intro _ hf
    unfold f_X7_find_J19 at hf
    refine g_iconst (v := (1 : Int32)) C (ckD_get k_X7_find_0 11 rfl) (by decide) ?_
    exact hJ_20 _ hf
  refine g_icmp_lt C (ckD_get k_X7_find_0 5 rfl) (fun c_19 => ?_) (fun c_19 => ?_)
  · have hf := if_t hf c_19
    exact hJ_19 () hf
  · have hf := if_f hf c_19
    refine g_iload_n 1 C (ckD_get k_X7_find_0 6 rfl) rfl rfl ?_
    refine g_iconst (v := (3 : Int32)) C (ckD_get k_X7_find_0 7 rfl) (by decide) ?_
    refine g_icmp_gt C (ckD_get k_X7_find_0 8 rfl) (fun c_20 => ?_) (fun c_20 => ?_)
    · have hf := if_t hf c_20
      exact hJ_19 () hf
    · have hf := if_f hf c_20
      refine g_iload_n 1 C (ckD_get k_X7_find_0 9 rfl) rfl rfl ?_
      refine g_goto C (ckD_get k_X7_find_0 10 rfl) ?_
      exact hJ_20 _ hf

set_option maxRecDepth 20000 in
theorem k_X9_endLaying_0 : ckD cX9_endLaying [(0, .aload_n 0, 1, 1, 0), (1, .iconst (-1), 1, 2, 0), (2, .putfield 64, 3, 5, 0), (5, .aload_n 0, 1, 6, 0), (6, .getfield 60, 3, 9, 0), (9, .invokevirtual 321, 3, 12, 0), (12, .return_, 1, 13, 0)] = true := by decide +kernel
def f_X9_endLaying  (M : Mm) : Option Mm := lt1 (wi M 0 8 (-1 : Int32)) fun M_1 => (f_X7_forget M_1).bind fun M_3 => some M_3
set_option maxRecDepth 100000 in
set_option maxHeartbeats 4000000 in
theorem t_X9_endLaying {E : Ev} {l : Launch} (htr : l.stackTraces = false) (M : Mm) (r : Mm) (hf : f_X9_endLaying M = some r) : CM E l 1 0 0 yX9_endLaying cX9_endLaying 1 none [.ref (E.1 + 0)] M none r := by
  refine CM.of htr (by decide +kernel) (Nat.le_of_ble_eq_true rfl) ?_
  intro K hE hL hl hR0 C hr hRv
  subst hE
  subst hl
  have C : Cx K cX9_endLaying RX9 1 := C
  have hB : (0 : Nat) ≤ K.1.R.cells ∧ 0 ≤ K.1.R.slots := ⟨Nat.zero_le _, Nat.zero_le _⟩
  show G K (0, 0) 0 [(0, .ref (K.2.1.1 + 0))] [] M
  unfold f_X9_endLaying at hf
  refine g_aload_n 0 C (ckD_get k_X9_endLaying_0 0 rfl) rfl rfl ?_
  refine g_iconst (v := (-1 : Int32)) C (ckD_get k_X9_endLaying_0 1 rfl) (by decide) ?_
  obtain ⟨M_1, eM_1, hf⟩ := lt_e hf
  refine g_putI C (ckD_get k_X9_endLaying_0 2 rfl) fk_X9_64 T0 rfl ?_
  refine memI eM_1 ?_
  refine g_aload_n 0 C (ckD_get k_X9_endLaying_0 3 rfl) rfl rfl ?_
  refine g_getR C (ckD_get k_X9_endLaying_0 4 rfl) fk_X9_60 T0 rfl ?_
  obtain ⟨M_3, hr_2, hf⟩ := bd_e hf
  refine n_cV [] [] C (ckD_get k_X9_endLaying_0 5 rfl) vk_X9_321 (t_X7_forget C.tr _ _ hr_2) T34 rfl rfl (Nat.le_of_ble_eq_true rfl) (by decide) hB rfl ?_
  cases hf
  exact g_vret C (ckD_get k_X9_endLaying_0 6 rfl) hr hRv (Nat.le_refl _) (Nat.le_refl _)

set_option maxRecDepth 20000 in
theorem k_X9_isSide_0 : ckD cX9_isSide [(0, .iload_n 0, 1, 1, 0), (1, .iconst 1, 1, 2, 0), (2, .if_icmp .lt 14, 3, 5, 16), (5, .iload_n 0, 1, 6, 0), (6, .sipush 200, 3, 9, 0), (9, .if_icmp .gt 7, 3, 12, 16), (12, .iconst 1, 1, 13, 0), (13, .goto 4, 3, 16, 17), (16, .iconst 0, 1, 17, 0), (17, .ireturn, 1, 18, 0)] = true := by decide +kernel
def f_X9_isSide (a0 : Int32) : Int32 := if a0 < (1 : Int32) then (0 : Int32) else if (200 : Int32) < a0 then (0 : Int32) else (1 : Int32)
set_option maxRecDepth 100000 in
set_option maxHeartbeats 4000000 in
theorem t_X9_isSide {E : Ev} {l : Launch} (htr : l.stackTraces = false) (a0 : Int32) (M : Mm) (r : Int32) (hf : f_X9_isSide a0 = r) : CM E l 0 0 0 yX9_isSide cX9_isSide 1 (some .boolean) [.int a0] M (some (.int r)) M := by
  refine CM.of htr (by decide +kernel) (Nat.le_of_ble_eq_true rfl) ?_
  intro K hE hL hl hR0 C hr hRv
  subst hE
  subst hl
  have C : Cx K cX9_isSide RX9 0 := C
  have hB : (0 : Nat) ≤ K.1.R.cells ∧ 0 ≤ K.1.R.slots := ⟨Nat.zero_le _, Nat.zero_le _⟩
  show G K (0, 0) 0 [(0, .int a0)] [] M
  unfold f_X9_isSide at hf
  refine g_iload_n 0 C (ckD_get k_X9_isSide_0 0 rfl) rfl rfl ?_
  refine g_iconst (v := (1 : Int32)) C (ckD_get k_X9_isSide_0 1 rfl) (by decide) ?_
  refine g_icmp_lt C (ckD_get k_X9_isSide_0 2 rfl) (fun c_1 => ?_) (fun c_1 => ?_)
  · have hf := if_t hf c_1
    refine g_iconst (v := (0 : Int32)) C (ckD_get k_X9_isSide_0 8 rfl) (by decide) ?_
    cases hf
    exact g_zret C (ckD_get k_X9_isSide_0 9 rfl) hr rfl hRv (Nat.le_refl _) (Nat.le_refl _)
  · have hf := if_f hf c_1
    refine g_iload_n 0 C (ckD_get k_X9_isSide_0 3 rfl) rfl rfl ?_
    refine g_sipush (v := (200 : Int32)) C (ckD_get k_X9_isSide_0 4 rfl) (by decide) ?_
    refine g_icmp_gt C (ckD_get k_X9_isSide_0 5 rfl) (fun c_2 => ?_) (fun c_2 => ?_)
    · have hf := if_t hf c_2
      refine g_iconst (v := (0 : Int32)) C (ckD_get k_X9_isSide_0 8 rfl) (by decide) ?_
      cases hf
      exact g_zret C (ckD_get k_X9_isSide_0 9 rfl) hr rfl hRv (Nat.le_refl _) (Nat.le_refl _)
    · have hf := if_f hf c_2
      refine g_iconst (v := (1 : Int32)) C (ckD_get k_X9_isSide_0 6 rfl) (by decide) ?_
      refine g_goto C (ckD_get k_X9_isSide_0 7 rfl) ?_
      cases hf
      exact g_zret C (ckD_get k_X9_isSide_0 9 rfl) hr rfl hRv (Nat.le_refl _) (Nat.le_refl _)

set_option maxRecDepth 20000 in
theorem k_X9_block_0 : ckD cX9_block [(0, .aload_n 0, 1, 1, 0), (1, .getfield 10, 3, 4, 0), (4, .getfield 71, 3, 7, 0), (7, .bipush 12, 2, 9, 0), (9, .if_icmp .ge 17, 3, 12, 26), (12, .iload_n 1, 1, 13, 0), (13, .invokestatic 74, 3, 16, 0), (16, .ifCond .eq 10, 3, 19, 26), (19, .iload_n 2, 1, 20, 0), (20, .invokestatic 74, 3, 23, 0), (23, .ifCond .ne 5, 3, 26, 28), (26, .iconst (-1), 1, 27, 0), (27, .ireturn, 1, 28, 0), (28, .aload_n 0, 1, 29, 0), (29, .invokevirtual 78, 3, 32, 0), (32, .aload_n 0, 1, 33, 0), (33, .getfield 10, 3, 36, 0), (36, .iload_n 1, 1, 37, 0), (37, .iload_n 2, 1, 38, 0), (38, .iload_n 3, 1, 39, 0), (39, .invokevirtual 81, 3, 42, 0), (42, .ireturn, 1, 43, 0)] = true := by decide +kernel
def f_X9_block (a1 : Int32) (a2 : Int32) (a3 : Int32) (M : Mm) : Option (Int32 × Mm) := if (12 : Int32) ≤ (M.1 1 3) then some ((-1 : Int32), M) else if (f_X9_isSide a1) = 0 then some ((-1 : Int32), M) else if (f_X9_isSide a2) = 0 then some ((-1 : Int32), M) else (f_X9_endLaying M).bind fun M_5 => bd2 (f_X0_add a1 a2 a3 M_5) fun r_8 M_7 => some (r_8, M_7)
set_option maxRecDepth 100000 in
set_option maxHeartbeats 4000000 in
theorem t_X9_block {E : Ev} {l : Launch} (htr : l.stackTraces = false) (a1 : Int32) (a2 : Int32) (a3 : Int32) (M : Mm) (r : (Int32 × Mm)) (hf : f_X9_block a1 a2 a3 M = some r) : CM E l 2 0 0 yX9_block cX9_block 4 (some .int) [.ref (E.1 + 0), .int a1, .int a2, .int a3] M (some (.int r.1)) r.2 := by
  refine CM.of htr (by decide +kernel) (Nat.le_of_ble_eq_true rfl) ?_
  intro K hE hL hl hR0 C hr hRv
  subst hE
  subst hl
  have C : Cx K cX9_block RX9 2 := C
  have hB : (0 : Nat) ≤ K.1.R.cells ∧ 0 ≤ K.1.R.slots := ⟨Nat.zero_le _, Nat.zero_le _⟩
  show G K (0, 0) 0 [(0, .ref (K.2.1.1 + 0)), (1, .int a1), (2, .int a2), (3, .int a3)] [] M
  unfold f_X9_block at hf
  refine g_aload_n 0 C (ckD_get k_X9_block_0 0 rfl) rfl rfl ?_
  refine g_getR C (ckD_get k_X9_block_0 1 rfl) fk_X9_10 T0 rfl ?_
  refine g_getI C (ckD_get k_X9_block_0 2 rfl) fk_X9_71 T1 rfl ?_
  refine g_bipush (v := (12 : Int32)) C (ckD_get k_X9_block_0 3 rfl) (by decide) ?_
  refine g_icmp_ge C (ckD_get k_X9_block_0 4 rfl) (fun c_1 => ?_) (fun c_1 => ?_)
  · have hf := if_t hf c_1
    refine g_iconst (v := (-1 : Int32)) C (ckD_get k_X9_block_0 11 rfl) (by decide) ?_
    cases hf
    exact g_iret C (ckD_get k_X9_block_0 12 rfl) hr hRv (Nat.le_refl _) (Nat.le_refl _)
  · have hf := if_f hf c_1
    refine g_iload_n 1 C (ckD_get k_X9_block_0 5 rfl) rfl rfl ?_
    refine n_cS [.int a1] [] C (ckD_get k_X9_block_0 6 rfl) sk_X9_74 (t_X9_isSide C.tr _ _ _ rfl) rfl rfl (Nat.le_of_ble_eq_true rfl) (by decide) hB rfl ?_
    refine g_if_eq C (ckD_get k_X9_block_0 7 rfl) (fun c_2 => ?_) (fun c_2 => ?_)
    · have hf := if_t hf c_2
      refine g_iconst (v := (-1 : Int32)) C (ckD_get k_X9_block_0 11 rfl) (by decide) ?_
      cases hf
      exact g_iret C (ckD_get k_X9_block_0 12 rfl) hr hRv (Nat.le_refl _) (Nat.le_refl _)
    · have hf := if_f hf c_2
      refine g_iload_n 2 C (ckD_get k_X9_block_0 8 rfl) rfl rfl ?_
      refine n_cS [.int a2] [] C (ckD_get k_X9_block_0 9 rfl) sk_X9_74 (t_X9_isSide C.tr _ _ _ rfl) rfl rfl (Nat.le_of_ble_eq_true rfl) (by decide) hB rfl ?_
      refine g_if_ne C (ckD_get k_X9_block_0 10 rfl) (fun c_3 => ?_) (fun c_3 => ?_)
      · have hf := if_f hf c_3
        refine g_aload_n 0 C (ckD_get k_X9_block_0 13 rfl) rfl rfl ?_
        obtain ⟨M_5, hr_4, hf⟩ := bd_e hf
        refine n_cV [] [] C (ckD_get k_X9_block_0 14 rfl) vk_X9_78 (t_X9_endLaying C.tr _ _ hr_4) T0 rfl rfl (Nat.le_of_ble_eq_true rfl) (by decide) hB rfl ?_
        refine g_aload_n 0 C (ckD_get k_X9_block_0 15 rfl) rfl rfl ?_
        refine g_getR C (ckD_get k_X9_block_0 16 rfl) fk_X9_10 T0 rfl ?_
        refine g_iload_n 1 C (ckD_get k_X9_block_0 17 rfl) rfl rfl ?_
        refine g_iload_n 2 C (ckD_get k_X9_block_0 18 rfl) rfl rfl ?_
        refine g_iload_n 3 C (ckD_get k_X9_block_0 19 rfl) rfl rfl ?_
        obtain ⟨r_8, M_7, hr_6, hf⟩ := bd2_e hf
        refine n_cV [.int a1, .int a2, .int a3] [] C (ckD_get k_X9_block_0 20 rfl) vk_X9_81 (t_X0_add C.tr _ _ _ _ _ hr_6) T1 rfl rfl (Nat.le_of_ble_eq_true rfl) (by decide) hB rfl ?_
        cases hf
        exact g_iret C (ckD_get k_X9_block_0 21 rfl) hr hRv (Nat.le_refl _) (Nat.le_refl _)
      · have hf := if_t hf c_3
        refine g_iconst (v := (-1 : Int32)) C (ckD_get k_X9_block_0 11 rfl) (by decide) ?_
        cases hf
        exact g_iret C (ckD_get k_X9_block_0 12 rfl) hr hRv (Nat.le_refl _) (Nat.le_refl _)

set_option maxRecDepth 20000 in
theorem k_X9_less_0 : ckD cX9_less [(0, .aload_n 0, 1, 1, 0), (1, .getfield 10, 3, 4, 0), (4, .getfield 71, 3, 7, 0), (7, .ifCond .ne 5, 3, 10, 12), (10, .iconst (-1), 1, 11, 0), (11, .ireturn, 1, 12, 0), (12, .aload_n 0, 1, 13, 0), (13, .invokevirtual 78, 3, 16, 0), (16, .aload_n 0, 1, 17, 0), (17, .getfield 10, 3, 20, 0), (20, .invokevirtual 85, 3, 23, 0), (23, .iconst 0, 1, 24, 0), (24, .istore_n 1, 1, 25, 0), (25, .iload_n 1, 1, 26, 0), (26, .bipush 20, 2, 28, 0), (28, .if_icmp .ge 25, 3, 31, 53), (31, .aload_n 0, 1, 32, 0), (32, .getfield 16, 3, 35, 0), (35, .iload_n 1, 1, 36, 0), (36, .dup2, 1, 37, 0), (37, .iaload, 1, 38, 0), (38, .aload_n 0, 1, 39, 0), (39, .getfield 10, 3, 42, 0), (42, .invokevirtual 88, 3, 45, 0), (45, .iand, 1, 46, 0), (46, .iastore, 1, 47, 0), (47, .iinc 1 1, 3, 50, 0), (50, .goto (-25), 3, 53, 25), (53, .aload_n 0, 1, 54, 0), (54, .getfield 10, 3, 57, 0), (57, .getfield 71, 3, 60, 0), (60, .ireturn, 1, 61, 0)] = true := by decide +kernel
def f_X9_less_A25 (M_7 : Mm) : Option (Int32 × Mm) := some ((M_7.1 1 3), M_7)
def f_X9_less_L25 (x1_5 : Int32) (M_6 : Mm) : Option ((Int32 × Mm) ⊕ Mm) := if (20 : Int32) ≤ x1_5 then some (.inr M_6) else rdI 20 M_6 4 x1_5 fun v_9 => wrI 20 M_6 4 x1_5 (v_9 &&& (f_X0_everyone M_6)) fun M_11 => lt1 (x1_5 + 1) fun x1_13 => some (.inl (x1_13, M_11))
def f_X9_less  (M : Mm) : Option (Int32 × Mm) := if (M.1 1 3) = 0 then some ((-1 : Int32), M) else (f_X9_endLaying M).bind fun M_3 => lt1 (f_X0_drop M_3) fun M_4 => (loop (fun v => f_X9_less_L25 v.1 v.2) FU ((0 : Int32), M_4)).bind fun z => f_X9_less_A25 z
set_option maxRecDepth 100000 in
set_option maxHeartbeats 4000000 in
theorem t_X9_less {E : Ev} {l : Launch} (htr : l.stackTraces = false) (M : Mm) (r : (Int32 × Mm)) (hf : f_X9_less M = some r) : CM E l 2 0 0 yX9_less cX9_less 2 (some .int) [.ref (E.1 + 0)] M (some (.int r.1)) r.2 := by
  refine CM.of htr (by decide +kernel) (Nat.le_of_ble_eq_true rfl) ?_
  intro K hE hL hl hR0 C hr hRv
  subst hE
  subst hl
  have C : Cx K cX9_less RX9 2 := C
  have hB : (0 : Nat) ≤ K.1.R.cells ∧ 0 ≤ K.1.R.slots := ⟨Nat.zero_le _, Nat.zero_le _⟩
  have hL1 : 1 < K.2.2.1 := by rw [hL]; decide
  show G K (0, 0) 0 [(0, .ref (K.2.1.1 + 0))] [] M
  unfold f_X9_less at hf
  refine g_aload_n 0 C (ckD_get k_X9_less_0 0 rfl) rfl rfl ?_
  refine g_getR C (ckD_get k_X9_less_0 1 rfl) fk_X9_10 T0 rfl ?_
  refine g_getI C (ckD_get k_X9_less_0 2 rfl) fk_X9_71 T1 rfl ?_
  refine g_if_ne C (ckD_get k_X9_less_0 3 rfl) (fun c_1 => ?_) (fun c_1 => ?_)
  · have hf := if_f hf c_1
    refine g_aload_n 0 C (ckD_get k_X9_less_0 6 rfl) rfl rfl ?_
    obtain ⟨M_3, hr_2, hf⟩ := bd_e hf
    refine n_cV [] [] C (ckD_get k_X9_less_0 7 rfl) vk_X9_78 (t_X9_endLaying C.tr _ _ hr_2) T0 rfl rfl (Nat.le_of_ble_eq_true rfl) (by decide) hB rfl ?_
    refine g_aload_n 0 C (ckD_get k_X9_less_0 8 rfl) rfl rfl ?_
    refine g_getR C (ckD_get k_X9_less_0 9 rfl) fk_X9_10 T0 rfl ?_
    obtain ⟨M_4, eM_4, hf⟩ := lt_e hf
    refine n_cV [] [] C (ckD_get k_X9_less_0 10 rfl) vk_X9_85 (t_X0_drop C.tr _ _ eM_4) T1 rfl rfl (Nat.le_of_ble_eq_true rfl) (by decide) hB rfl ?_
    refine g_iconst (v := (0 : Int32)) C (ckD_get k_X9_less_0 11 rfl) (by decide) ?_
    refine g_istore_n (lv' := [(1, _), (0, _)]) C (ckD_get k_X9_less_0 12 rfl) rfl hL1 rfl ?_
    refine G.sub [1, 0] rfl ?_
    obtain ⟨M_7, hx_25, hf⟩ := bd_e hf
    have hE_25 : G K (0, 0) 53 [(0, .ref (K.2.1.1 + 0))] [] M_7 := by
      have hf : f_X9_less_A25 M_7 = some r := hf
      unfold f_X9_less_A25 at hf
      refine g_aload_n 0 C (ckD_get k_X9_less_0 28 rfl) rfl rfl ?_
      refine g_getR C (ckD_get k_X9_less_0 29 rfl) fk_X9_10 T0 rfl ?_
      refine g_getI C (ckD_get k_X9_less_0 30 rfl) fk_X9_71 T1 rfl ?_
      cases hf
      exact g_iret C (ckD_get k_X9_less_0 31 rfl) hr hRv (Nat.le_refl _) (Nat.le_refl _)
    refine loop_e (x := M_7) (P := fun (v : (Int32 × Mm)) => G K (0, 0) 25 [(0, .ref (K.2.1.1 + 0)), (1, .int v.1)] [] v.2) ?_ FU _ hx_25
    intro v rr_25 hf hn_25 hz_25
    obtain ⟨x1_5, M_6⟩ := v
    have hf : f_X9_less_L25 x1_5 M_6 = some rr_25 := hf
    show G K (0, 0) 25 [(0, .ref (K.2.1.1 + 0)), (1, .int x1_5)] [] M_6
    unfold f_X9_less_L25 at hf
    refine g_iload_n 1 C (ckD_get k_X9_less_0 13 rfl) rfl rfl ?_
    refine g_bipush (v := (20 : Int32)) C (ckD_get k_X9_less_0 14 rfl) (by decide) ?_
    refine g_icmp_ge C (ckD_get k_X9_less_0 15 rfl) (fun c_8 => ?_) (fun c_8 => ?_)
    · have hf := if_t hf c_8
      refine G.sub [0] rfl ?_
      cases hf
      cases hz_25 _ rfl
      exact hE_25
    · have hf := if_f hf c_8
      refine g_aload_n 0 C (ckD_get k_X9_less_0 16 rfl) rfl rfl ?_
      refine g_getR C (ckD_get k_X9_less_0 17 rfl) fk_X9_16 T0 rfl ?_
      refine g_iload_n 1 C (ckD_get k_X9_less_0 18 rfl) rfl rfl ?_
      refine g_dup2 C (ckD_get k_X9_less_0 19 rfl) rfl rfl ?_
      obtain ⟨v_9, hi_10, ev_9, hf⟩ := rdI_e hf
      refine n_iald C (ckD_get k_X9_less_0 20 rfl) T4 hi_10 ev_9 ?_
      refine g_aload_n 0 C (ckD_get k_X9_less_0 21 rfl) rfl rfl ?_
      refine g_getR C (ckD_get k_X9_less_0 22 rfl) fk_X9_10 T0 rfl ?_
      refine n_cV [] [.int v_9, .int x1_5, .ref (K.2.1.1 + 4)] C (ckD_get k_X9_less_0 23 rfl) vk_X9_88 (t_X0_everyone C.tr _ _ rfl) T1 rfl rfl (Nat.le_of_ble_eq_true rfl) (by decide) hB rfl ?_
      refine g_iand C (ckD_get k_X9_less_0 24 rfl) ?_
      obtain ⟨M_11, hi_12, eM_11, hf⟩ := wrI_e hf
      refine n_iast C (ckD_get k_X9_less_0 25 rfl) T4 hi_12 eM_11 ?_
      obtain ⟨x1_13, ex1_13, hf⟩ := lt_e hf
      refine g_iinc (lv' := [(1, _), (0, _)]) 1 C (ckD_get k_X9_less_0 26 rfl) rfl ex1_13 hL1 rfl ?_
      refine g_goto C (ckD_get k_X9_less_0 27 rfl) ?_
      refine G.sub [1, 0] rfl ?_
      cases hf
      exact hn_25 _ rfl
  · have hf := if_t hf c_1
    refine g_iconst (v := (-1 : Int32)) C (ckD_get k_X9_less_0 4 rfl) (by decide) ?_
    cases hf
    exact g_iret C (ckD_get k_X9_less_0 5 rfl) hr hRv (Nat.le_refl _) (Nat.le_refl _)

set_option maxRecDepth 20000 in
theorem k_X9_needBlock_0 : ckD cX9_needBlock [(0, .aload_n 0, 1, 1, 0), (1, .getfield 10, 3, 4, 0), (4, .iload_n 1, 1, 5, 0), (5, .invokevirtual 268, 3, 8, 0), (8, .ifCond .ne 14, 3, 11, 22), (11, .new 109, 3, 14, 0), (14, .dup, 1, 15, 0), (15, .ldc_w 311, 3, 18, 0), (18, .invokespecial 113, 3, 21, 0), (21, .athrow, 1, 22, 0), (22, .return_, 1, 23, 0)] = true := by decide +kernel
def f_X9_needBlock (a1 : Int32) (M : Mm) : Option Unit := if (f_X0_has a1 M) = 0 then none else (some ())
set_option maxRecDepth 100000 in
set_option maxHeartbeats 4000000 in
theorem t_X9_needBlock {E : Ev} {l : Launch} (htr : l.stackTraces = false) (a1 : Int32) (M : Mm) (r : Option Unit) (hf : f_X9_needBlock a1 M = r) : CX E l 6 1 6 yX9_needBlock cX9_needBlock 2 none [.ref (E.1 + 0), .int a1] M (r.map fun z => (none : Option Value)) M := by
  refine CX.of htr (by decide +kernel) (Nat.le_of_ble_eq_true rfl) ?_
  intro K hE hL hl hR0 C hr hT hRv hXv
  subst hE
  subst hl
  have C : Cx K cX9_needBlock RX9 6 := C
  have hRc : 1 ≤ K.1.R.cells ∧ 6 ≤ K.1.R.slots := by rw [hR0]; exact ⟨Nat.le_refl _, Nat.le_refl _⟩
  show G K (0, 0) 0 [(0, .ref (K.2.1.1 + 0)), (1, .int a1)] [] M
  unfold f_X9_needBlock at hf
  refine g_aload_n 0 C (ckD_get k_X9_needBlock_0 0 rfl) rfl rfl ?_
  refine g_getR C (ckD_get k_X9_needBlock_0 1 rfl) fk_X9_10 T0 rfl ?_
  refine g_iload_n 1 C (ckD_get k_X9_needBlock_0 2 rfl) rfl rfl ?_
  refine n_cV [.int a1] [] C (ckD_get k_X9_needBlock_0 3 rfl) vk_X9_268 (t_X0_has C.tr _ _ _ rfl) T1 rfl rfl (Nat.le_of_ble_eq_true rfl) (by decide) ⟨Nat.le_trans (by decide) hRc.1, Nat.le_trans (by decide) hRc.2⟩ rfl ?_
  refine g_if_ne C (ckD_get k_X9_needBlock_0 4 rfl) (fun c_1 => ?_) (fun c_1 => ?_)
  · have hf := if_f hf c_1
    cases hf
    exact g_vret C (ckD_get k_X9_needBlock_0 10 rfl) hr (hRv _ rfl) (by decide) (by decide)
  · have hf := if_t hf c_1
    cases hf
    exact g_throwW (is := 311) (text := "no such block") C (ckD_get k_X9_needBlock_0 5 rfl) (ckD_get k_X9_needBlock_0 6 rfl) (ckD_get k_X9_needBlock_0 7 rfl) (ckD_get k_X9_needBlock_0 8 rfl) (ckD_get k_X9_needBlock_0 9 rfl) (by decide) hT (hXv rfl) (by decide) (Nat.le_of_ble_eq_true rfl) ⟨by decide, by decide⟩ hRc

set_option maxRecDepth 20000 in
theorem k_X9_side_0 : ckD cX9_side [(0, .aload_n 0, 1, 1, 0), (1, .iload_n 1, 1, 2, 0), (2, .invokevirtual 92, 3, 5, 0), (5, .iload_n 2, 1, 6, 0), (6, .tableswitch 58 0 2 #[26, 36, 46], 26, 32, 0), (32, .aload_n 0, 1, 33, 0), (33, .getfield 10, 3, 36, 0), (36, .getfield 96, 3, 39, 0), (39, .iload_n 1, 1, 40, 0), (40, .iaload, 1, 41, 0), (41, .ireturn, 1, 42, 0), (42, .aload_n 0, 1, 43, 0), (43, .getfield 10, 3, 46, 0), (46, .getfield 99, 3, 49, 0), (49, .iload_n 1, 1, 50, 0), (50, .iaload, 1, 51, 0), (51, .ireturn, 1, 52, 0), (52, .aload_n 0, 1, 53, 0), (53, .getfield 10, 3, 56, 0), (56, .getfield 102, 3, 59, 0), (59, .iload_n 1, 1, 60, 0), (60, .invokestatic 105, 3, 63, 0), (63, .ireturn, 1, 64, 0), (64, .new 109, 3, 67, 0), (67, .dup, 1, 68, 0), (68, .ldc 111, 2, 70, 0), (70, .invokespecial 113, 3, 73, 0), (73, .athrow, 1, 74, 0)] = true := by decide +kernel
def f_X9_side (a1 : Int32) (a2 : Int32) (M : Mm) : Option (Option Int32) := lt1 (f_X9_needBlock a1 M) fun o_2 => tr1 o_2 (some none) fun r_3 => if a2 = (0 : Int32) then (rdI 12 M 2 a1 fun v_5 => some (some v_5)) else if a2 = (1 : Int32) then (rdI 12 M 3 a1 fun v_8 => some (some v_8)) else if a2 = (2 : Int32) then (some (some (f_X9_bitOf (M.1 1 2) a1))) else (some none)
set_option maxRecDepth 100000 in
set_option maxHeartbeats 4000000 in
theorem t_X9_side {E : Ev} {l : Launch} (htr : l.stackTraces = false) (a1 : Int32) (a2 : Int32) (M : Mm) (r : Option Int32) (hf : f_X9_side a1 a2 M = some r) : CX E l 7 2 12 yX9_side cX9_side 3 (some .int) [.ref (E.1 + 0), .int a1, .int a2] M (r.map fun z => some (.int z)) M := by
  refine CX.of htr (by decide +kernel) (Nat.le_of_ble_eq_true rfl) ?_
  intro K hE hL hl hR0 C hr hT hRv hXv
  subst hE
  subst hl
  have C : Cx K cX9_side RX9 7 := C
  have hRc : 2 ≤ K.1.R.cells ∧ 12 ≤ K.1.R.slots := by rw [hR0]; exact ⟨Nat.le_refl _, Nat.le_refl _⟩
  show G K (0, 0) 0 [(0, .ref (K.2.1.1 + 0)), (1, .int a1), (2, .int a2)] [] M
  unfold f_X9_side at hf
  refine g_aload_n 0 C (ckD_get k_X9_side_0 0 rfl) rfl rfl ?_
  refine g_iload_n 1 C (ckD_get k_X9_side_0 1 rfl) rfl rfl ?_
  obtain ⟨o_2, hr_1, hf⟩ := lt_e hf
  cases o_2 with
  | none =>
    have hf := tr_n hf rfl
    cases hf
    exact n_cVXt [.int a1] [] C (ckD_get k_X9_side_0 2 rfl) vk_X9_92 (t_X9_needBlock C.tr _ _ _ hr_1) T0 rfl rfl (Nat.le_of_ble_eq_true rfl) (by decide) ⟨by decide, by decide⟩ hRc hT rfl (hXv rfl)
  | some r_3 =>
    have hf := tr_s hf rfl
    refine n_cVXr [.int a1] [] C (ckD_get k_X9_side_0 2 rfl) vk_X9_92 (t_X9_needBlock C.tr _ _ _ hr_1) T0 rfl rfl (Nat.le_of_ble_eq_true rfl) (by decide) ⟨by decide, by decide⟩ hRc hT rfl rfl ?_
    refine g_iload_n 2 C (ckD_get k_X9_side_0 3 rfl) rfl rfl ?_
    by_cases c_4 : a2 = (0 : Int32)
    · have hf := if_t hf c_4
      refine g_tabIn (t := 32) C (ckD_get k_X9_side_0 4 rfl) (by rw [c_4]; decide) (by rw [c_4]; decide) (by rw [c_4] <;> rfl) (by decide) ?_
      refine g_aload_n 0 C (ckD_get k_X9_side_0 5 rfl) rfl rfl ?_
      refine g_getR C (ckD_get k_X9_side_0 6 rfl) fk_X9_10 T0 rfl ?_
      refine g_getR C (ckD_get k_X9_side_0 7 rfl) fk_X9_96 T1 rfl ?_
      refine g_iload_n 1 C (ckD_get k_X9_side_0 8 rfl) rfl rfl ?_
      obtain ⟨v_5, hi_6, ev_5, hf⟩ := rdI_e hf
      refine n_iald C (ckD_get k_X9_side_0 9 rfl) T2 hi_6 ev_5 ?_
      cases hf
      exact g_iret C (ckD_get k_X9_side_0 10 rfl) hr (hRv _ rfl) (by decide) (by decide)
    · have hf := if_f hf c_4
      by_cases c_7 : a2 = (1 : Int32)
      · have hf := if_t hf c_7
        refine g_tabIn (t := 42) C (ckD_get k_X9_side_0 4 rfl) (by rw [c_7]; decide) (by rw [c_7]; decide) (by rw [c_7] <;> rfl) (by decide) ?_
        refine g_aload_n 0 C (ckD_get k_X9_side_0 11 rfl) rfl rfl ?_
        refine g_getR C (ckD_get k_X9_side_0 12 rfl) fk_X9_10 T0 rfl ?_
        refine g_getR C (ckD_get k_X9_side_0 13 rfl) fk_X9_99 T1 rfl ?_
        refine g_iload_n 1 C (ckD_get k_X9_side_0 14 rfl) rfl rfl ?_
        obtain ⟨v_8, hi_9, ev_8, hf⟩ := rdI_e hf
        refine n_iald C (ckD_get k_X9_side_0 15 rfl) T3 hi_9 ev_8 ?_
        cases hf
        exact g_iret C (ckD_get k_X9_side_0 16 rfl) hr (hRv _ rfl) (by decide) (by decide)
      · have hf := if_f hf c_7
        by_cases c_10 : a2 = (2 : Int32)
        · have hf := if_t hf c_10
          refine g_tabIn (t := 52) C (ckD_get k_X9_side_0 4 rfl) (by rw [c_10]; decide) (by rw [c_10]; decide) (by rw [c_10] <;> rfl) (by decide) ?_
          refine g_aload_n 0 C (ckD_get k_X9_side_0 17 rfl) rfl rfl ?_
          refine g_getR C (ckD_get k_X9_side_0 18 rfl) fk_X9_10 T0 rfl ?_
          refine g_getI C (ckD_get k_X9_side_0 19 rfl) fk_X9_102 T1 rfl ?_
          refine g_iload_n 1 C (ckD_get k_X9_side_0 20 rfl) rfl rfl ?_
          refine n_cS [.int (M.1 1 2), .int a1] [] C (ckD_get k_X9_side_0 21 rfl) sk_X9_105 (t_X9_bitOf C.tr _ _ _ _ rfl) rfl rfl (Nat.le_of_ble_eq_true rfl) (by decide) ⟨Nat.le_trans (by decide) hRc.1, Nat.le_trans (by decide) hRc.2⟩ rfl ?_
          cases hf
          exact g_iret C (ckD_get k_X9_side_0 22 rfl) hr (hRv _ rfl) (by decide) (by decide)
        · have hf := if_f hf c_10
          have ic_4 := i32_ne (n := 0) c_4 (by decide)
          have ic_7 := i32_ne (n := 1) c_7 (by decide)
          have ic_10 := i32_ne (n := 2) c_10 (by decide)
          refine g_tabOut (t := 64) C (ckD_get k_X9_side_0 4 rfl) (by omega) (by decide) ?_
          cases hf
          exact g_throw (is := 111) (text := "no such side") C (ckD_get k_X9_side_0 23 rfl) (ckD_get k_X9_side_0 24 rfl) (ckD_get k_X9_side_0 25 rfl) (ckD_get k_X9_side_0 26 rfl) (ckD_get k_X9_side_0 27 rfl) (by decide) hT (hXv rfl) (by decide) (Nat.le_of_ble_eq_true rfl) ⟨by decide, by decide⟩ hRc

set_option maxRecDepth 20000 in
theorem k_X9_net_0 : ckD cX9_net [(0, .iload_n 1, 1, 1, 0), (1, .ifCond .lt 9, 3, 4, 10), (4, .iload_n 1, 1, 5, 0), (5, .bipush 20, 2, 7, 0), (7, .if_icmp .lt 13, 3, 10, 20), (10, .new 109, 3, 13, 0), (13, .dup, 1, 14, 0), (14, .ldc 116, 2, 16, 0), (16, .invokespecial 113, 3, 19, 0), (19, .athrow, 1, 20, 0), (20, .aload_n 0, 1, 21, 0), (21, .getfield 16, 3, 24, 0), (24, .iload_n 1, 1, 25, 0), (25, .iload_n 2, 1, 26, 0), (26, .aload_n 0, 1, 27, 0), (27, .getfield 10, 3, 30, 0), (30, .invokevirtual 88, 3, 33, 0), (33, .iand, 1, 34, 0), (34, .iastore, 1, 35, 0), (35, .aload_n 0, 1, 36, 0), (36, .getfield 16, 3, 39, 0), (39, .iload_n 1, 1, 40, 0), (40, .iaload, 1, 41, 0), (41, .invokestatic 118, 3, 44, 0), (44, .ireturn, 1, 45, 0)] = true := by decide +kernel
def f_X9_net_J10 (M_1 : Mm) : Option ((Option Int32) × Mm) := some (none, M_1)
def f_X9_net (a1 : Int32) (a2 : Int32) (M : Mm) : Option ((Option Int32) × Mm) := if a1 < 0 then f_X9_net_J10 M else if a1 < (20 : Int32) then wrI 20 M 4 a1 (a2 &&& (f_X0_everyone M)) fun M_4 => rdI 20 M_4 4 a1 fun v_6 => some ((some (f_J6_bitCount_0f7a4 v_6)), M_4) else f_X9_net_J10 M
set_option maxRecDepth 100000 in
set_option maxHeartbeats 4000000 in
theorem t_X9_net {E : Ev} {l : Launch} (htr : l.stackTraces = false) (a1 : Int32) (a2 : Int32) (M : Mm) (r : ((Option Int32) × Mm)) (hf : f_X9_net a1 a2 M = some r) : CX E l 6 1 6 yX9_net cX9_net 3 (some .int) [.ref (E.1 + 0), .int a1, .int a2] M (r.1.map fun z => some (.int z)) r.2 := by
  refine CX.of htr (by decide +kernel) (Nat.le_of_ble_eq_true rfl) ?_
  intro K hE hL hl hR0 C hr hT hRv hXv
  subst hE
  subst hl
  have C : Cx K cX9_net RX9 6 := C
  have hRc : 1 ≤ K.1.R.cells ∧ 6 ≤ K.1.R.slots := by rw [hR0]; exact ⟨Nat.le_refl _, Nat.le_refl _⟩
  show G K (0, 0) 0 [(0, .ref (K.2.1.1 + 0)), (1, .int a1), (2, .int a2)] [] M
  unfold f_X9_net at hf
  refine g_iload_n 1 C (ckD_get k_X9_net_0 0 rfl) rfl rfl ?_
  have hJ_10 : ∀ (M_1 : Mm), f_X9_net_J10 M_1 = some r → G K (0, 0) 10 [] [] M_1 := by
    intro M_1 hf
    unfold f_X9_net_J10 at hf
    cases hf
    exact g_throw (is := 116) (text := "no such net") C (ckD_get k_X9_net_0 5 rfl) (ckD_get k_X9_net_0 6 rfl) (ckD_get k_X9_net_0 7 rfl) (ckD_get k_X9_net_0 8 rfl) (ckD_get k_X9_net_0 9 rfl) (by decide) hT (hXv rfl) (by decide) (Nat.le_of_ble_eq_true rfl) ⟨by decide, by decide⟩ hRc
  refine g_if_lt C (ckD_get k_X9_net_0 1 rfl) (fun c_2 => ?_) (fun c_2 => ?_)
  · have hf := if_t hf c_2
    refine G.sub [] rfl ?_
    exact hJ_10 _ hf
  · have hf := if_f hf c_2
    refine g_iload_n 1 C (ckD_get k_X9_net_0 2 rfl) rfl rfl ?_
    refine g_bipush (v := (20 : Int32)) C (ckD_get k_X9_net_0 3 rfl) (by decide) ?_
    refine g_icmp_lt C (ckD_get k_X9_net_0 4 rfl) (fun c_3 => ?_) (fun c_3 => ?_)
    · have hf := if_t hf c_3
      refine g_aload_n 0 C (ckD_get k_X9_net_0 10 rfl) rfl rfl ?_
      refine g_getR C (ckD_get k_X9_net_0 11 rfl) fk_X9_16 T0 rfl ?_
      refine g_iload_n 1 C (ckD_get k_X9_net_0 12 rfl) rfl rfl ?_
      refine g_iload_n 2 C (ckD_get k_X9_net_0 13 rfl) rfl rfl ?_
      refine g_aload_n 0 C (ckD_get k_X9_net_0 14 rfl) rfl rfl ?_
      refine g_getR C (ckD_get k_X9_net_0 15 rfl) fk_X9_10 T0 rfl ?_
      refine n_cV [] [.int a2, .int a1, .ref (K.2.1.1 + 4)] C (ckD_get k_X9_net_0 16 rfl) vk_X9_88 (t_X0_everyone C.tr _ _ rfl) T1 rfl rfl (Nat.le_of_ble_eq_true rfl) (by decide) ⟨Nat.le_trans (by decide) hRc.1, Nat.le_trans (by decide) hRc.2⟩ rfl ?_
      refine g_iand C (ckD_get k_X9_net_0 17 rfl) ?_
      obtain ⟨M_4, hi_5, eM_4, hf⟩ := wrI_e hf
      refine n_iast C (ckD_get k_X9_net_0 18 rfl) T4 hi_5 eM_4 ?_
      refine g_aload_n 0 C (ckD_get k_X9_net_0 19 rfl) rfl rfl ?_
      refine g_getR C (ckD_get k_X9_net_0 20 rfl) fk_X9_16 T0 rfl ?_
      refine g_iload_n 1 C (ckD_get k_X9_net_0 21 rfl) rfl rfl ?_
      obtain ⟨v_6, hi_7, ev_6, hf⟩ := rdI_e hf
      refine n_iald C (ckD_get k_X9_net_0 22 rfl) T4 hi_7 ev_6 ?_
      refine n_cS [.int v_6] [] C (ckD_get k_X9_net_0 23 rfl) sk_X9_118 (t_J6_bitCount_0f7a4 C.tr _ _ _ rfl) rfl rfl (Nat.le_of_ble_eq_true rfl) (by decide) ⟨Nat.le_trans (by decide) hRc.1, Nat.le_trans (by decide) hRc.2⟩ rfl ?_
      cases hf
      exact g_iret C (ckD_get k_X9_net_0 24 rfl) hr (hRv _ rfl) (by decide) (by decide)
    · have hf := if_f hf c_3
      refine G.sub [] rfl ?_
      exact hJ_10 _ hf

set_option maxRecDepth 20000 in
theorem k_X9_places_0 : ckD cX9_places [(0, .aload_n 0, 1, 1, 0), (1, .getfield 10, 3, 4, 0), (4, .getfield 71, 3, 7, 0), (7, .ifCond .ne 5, 3, 10, 12), (10, .iconst 0, 1, 11, 0), (11, .ireturn, 1, 12, 0), (12, .aload_n 0, 1, 13, 0), (13, .getfield 64, 3, 16, 0), (16, .iconst (-1), 1, 17, 0), (17, .if_icmp .ne 14, 3, 20, 31), (20, .aload_n 0, 1, 21, 0), (21, .getfield 23, 3, 24, 0), (24, .aload_n 0, 1, 25, 0), (25, .getfield 10, 3, 28, 0), (28, .invokevirtual 124, 3, 31, 0), (31, .aload_n 0, 1, 32, 0), (32, .iconst 0, 1, 33, 0), (33, .putfield 64, 3, 36, 0), (36, .iconst 1, 1, 37, 0), (37, .ireturn, 1, 38, 0)] = true := by decide +kernel
def f_X9_places_J31 (M_2 : Mm) : Option (Int32 × Mm) := lt1 (wi M_2 0 8 (0 : Int32)) fun M_3 => some ((1 : Int32), M_3)
def f_X9_places  (M : Mm) : Option (Int32 × Mm) := if (M.1 1 3) = 0 then some ((0 : Int32), M) else if (M.1 0 8) = (-1 : Int32) then (f_X2_gather 5 M).bind fun M_6 => f_X9_places_J31 M_6 else f_X9_places_J31 M
set_option maxRecDepth 100000 in
set_option maxHeartbeats 4000000 in
theorem t_X9_places {E : Ev} {l : Launch} (htr : l.stackTraces = false) (M : Mm) (r : (Int32 × Mm)) (hf : f_X9_places M = some r) : CM E l 4 0 0 yX9_places cX9_places 1 (some .boolean) [.ref (E.1 + 0)] M (some (.int r.1)) r.2 := by
  refine CM.of htr (by decide +kernel) (Nat.le_of_ble_eq_true rfl) ?_
  intro K hE hL hl hR0 C hr hRv
  subst hE
  subst hl
  have C : Cx K cX9_places RX9 4 := C
  have hB : (0 : Nat) ≤ K.1.R.cells ∧ 0 ≤ K.1.R.slots := ⟨Nat.zero_le _, Nat.zero_le _⟩
  show G K (0, 0) 0 [(0, .ref (K.2.1.1 + 0))] [] M
  unfold f_X9_places at hf
  refine g_aload_n 0 C (ckD_get k_X9_places_0 0 rfl) rfl rfl ?_
  refine g_getR C (ckD_get k_X9_places_0 1 rfl) fk_X9_10 T0 rfl ?_
  refine g_getI C (ckD_get k_X9_places_0 2 rfl) fk_X9_71 T1 rfl ?_
  refine g_if_ne C (ckD_get k_X9_places_0 3 rfl) (fun c_1 => ?_) (fun c_1 => ?_)
  · have hf := if_f hf c_1
    refine g_aload_n 0 C (ckD_get k_X9_places_0 6 rfl) rfl rfl ?_
    refine g_getI C (ckD_get k_X9_places_0 7 rfl) fk_X9_64 T0 rfl ?_
    refine g_iconst (v := (-1 : Int32)) C (ckD_get k_X9_places_0 8 rfl) (by decide) ?_
    have hJ_31 : ∀ (M_2 : Mm), f_X9_places_J31 M_2 = some r → G K (0, 0) 31 [(0, .ref (K.2.1.1 + 0))] [] M_2 := by
      intro M_2 hf
      unfold f_X9_places_J31 at hf
      refine g_aload_n 0 C (ckD_get k_X9_places_0 15 rfl) rfl rfl ?_
      refine g_iconst (v := (0 : Int32)) C (ckD_get k_X9_places_0 16 rfl) (by decide) ?_
      obtain ⟨M_3, eM_3, hf⟩ := lt_e hf
      refine g_putI C (ckD_get k_X9_places_0 17 rfl) fk_X9_64 T0 rfl ?_
      refine memI eM_3 ?_
      refine g_iconst (v := (1 : Int32)) C (ckD_get k_X9_places_0 18 rfl) (by decide) ?_
      cases hf
      exact g_zret C (ckD_get k_X9_places_0 19 rfl) hr rfl hRv (Nat.le_refl _) (Nat.le_refl _)
    refine g_icmp_ne C (ckD_get k_X9_places_0 9 rfl) (fun c_4 => ?_) (fun c_4 => ?_)
    · have hf := if_f hf c_4
      exact hJ_31 _ hf
    · have hf := if_t hf c_4
      refine g_aload_n 0 C (ckD_get k_X9_places_0 10 rfl) rfl rfl ?_
      refine g_getR C (ckD_get k_X9_places_0 11 rfl) fk_X9_23 T0 rfl ?_
      refine g_aload_n 0 C (ckD_get k_X9_places_0 12 rfl) rfl rfl ?_
      refine g_getR C (ckD_get k_X9_places_0 13 rfl) fk_X9_10 T0 rfl ?_
      obtain ⟨M_6, hr_5, hf⟩ := bd_e hf
      refine n_cV [.ref (K.2.1.1 + 1)] [] C (ckD_get k_X9_places_0 14 rfl) vk_X9_124 (t_X2_gather C.tr _ (Or.inl rfl) _ _ hr_5) T5 rfl rfl (Nat.le_of_ble_eq_true rfl) (by decide) hB rfl ?_
      exact hJ_31 _ hf
  · have hf := if_t hf c_1
    refine g_iconst (v := (0 : Int32)) C (ckD_get k_X9_places_0 4 rfl) (by decide) ?_
    cases hf
    exact g_zret C (ckD_get k_X9_places_0 5 rfl) hr rfl hRv (Nat.le_refl _) (Nat.le_refl _)

set_option maxRecDepth 20000 in
theorem k_X9_isPlace_0 : ckD cX9_isPlace [(0, .iload_n 0, 1, 1, 0), (1, .ifCond .lt 14, 3, 4, 15), (4, .iload_n 0, 1, 5, 0), (5, .sipush 10000, 3, 8, 0), (8, .if_icmp .gt 7, 3, 11, 15), (11, .iconst 1, 1, 12, 0), (12, .goto 4, 3, 15, 16), (15, .iconst 0, 1, 16, 0), (16, .ireturn, 1, 17, 0)] = true := by decide +kernel
def f_X9_isPlace (a0 : Int32) : Int32 := if a0 < 0 then (0 : Int32) else if (10000 : Int32) < a0 then (0 : Int32) else (1 : Int32)
set_option maxRecDepth 100000 in
set_option maxHeartbeats 4000000 in
theorem t_X9_isPlace {E : Ev} {l : Launch} (htr : l.stackTraces = false) (a0 : Int32) (M : Mm) (r : Int32) (hf : f_X9_isPlace a0 = r) : CM E l 0 0 0 yX9_isPlace cX9_isPlace 1 (some .boolean) [.int a0] M (some (.int r)) M := by
  refine CM.of htr (by decide +kernel) (Nat.le_of_ble_eq_true rfl) ?_
  intro K hE hL hl hR0 C hr hRv
  subst hE
  subst hl
  have C : Cx K cX9_isPlace RX9 0 := C
  have hB : (0 : Nat) ≤ K.1.R.cells ∧ 0 ≤ K.1.R.slots := ⟨Nat.zero_le _, Nat.zero_le _⟩
  show G K (0, 0) 0 [(0, .int a0)] [] M
  unfold f_X9_isPlace at hf
  refine g_iload_n 0 C (ckD_get k_X9_isPlace_0 0 rfl) rfl rfl ?_
  refine g_if_lt C (ckD_get k_X9_isPlace_0 1 rfl) (fun c_1 => ?_) (fun c_1 => ?_)
  · have hf := if_t hf c_1
    refine g_iconst (v := (0 : Int32)) C (ckD_get k_X9_isPlace_0 7 rfl) (by decide) ?_
    cases hf
    exact g_zret C (ckD_get k_X9_isPlace_0 8 rfl) hr rfl hRv (Nat.le_refl _) (Nat.le_refl _)
  · have hf := if_f hf c_1
    refine g_iload_n 0 C (ckD_get k_X9_isPlace_0 2 rfl) rfl rfl ?_
    refine g_sipush (v := (10000 : Int32)) C (ckD_get k_X9_isPlace_0 3 rfl) (by decide) ?_
    refine g_icmp_gt C (ckD_get k_X9_isPlace_0 4 rfl) (fun c_2 => ?_) (fun c_2 => ?_)
    · have hf := if_t hf c_2
      refine g_iconst (v := (0 : Int32)) C (ckD_get k_X9_isPlace_0 7 rfl) (by decide) ?_
      cases hf
      exact g_zret C (ckD_get k_X9_isPlace_0 8 rfl) hr rfl hRv (Nat.le_refl _) (Nat.le_refl _)
    · have hf := if_f hf c_2
      refine g_iconst (v := (1 : Int32)) C (ckD_get k_X9_isPlace_0 5 rfl) (by decide) ?_
      refine g_goto C (ckD_get k_X9_isPlace_0 6 rfl) ?_
      cases hf
      exact g_zret C (ckD_get k_X9_isPlace_0 8 rfl) hr rfl hRv (Nat.le_refl _) (Nat.le_refl _)

set_option maxRecDepth 20000 in
theorem k_X9_put_0 : ckD cX9_put [(0, .aload_n 0, 1, 1, 0), (1, .iload_n 1, 1, 2, 0), (2, .invokevirtual 92, 3, 5, 0), (5, .aload_n 0, 1, 6, 0), (6, .getfield 64, 3, 9, 0), (9, .ifCond .ne 17, 3, 12, 26), (12, .iload_n 2, 1, 13, 0), (13, .invokestatic 127, 3, 16, 0), (16, .ifCond .eq 10, 3, 19, 26), (19, .iload_n 3, 1, 20, 0), (20, .invokestatic 127, 3, 23, 0), (23, .ifCond .ne 5, 3, 26, 28), (26, .iconst 0, 1, 27, 0), (27, .ireturn, 1, 28, 0), (28, .iload 4, 2, 30, 0), (30, .ifCond .eq 19, 3, 33, 49), (33, .aload_n 0, 1, 34, 0), (34, .getfield 10, 3, 37, 0), (37, .getfield 102, 3, 40, 0), (40, .iload_n 1, 1, 41, 0), (41, .invokestatic 105, 3, 44, 0), (44, .ifCond .ne 5, 3, 47, 49), (47, .iconst 0, 1, 48, 0), (48, .ireturn, 1, 49, 0), (49, .aload_n 0, 1, 50, 0), (50, .getfield 23, 3, 53, 0), (53, .getfield 130, 3, 56, 0), (56, .iload_n 1, 1, 57, 0), (57, .iload_n 2, 1, 58, 0), (58, .iastore, 1, 59, 0), (59, .aload_n 0, 1, 60, 0), (60, .getfield 23, 3, 63, 0), (63, .getfield 133, 3, 66, 0), (66, .iload_n 1, 1, 67, 0), (67, .iload_n 3, 1, 68, 0), (68, .iastore, 1, 69, 0), (69, .aload_n 0, 1, 70, 0), (70, .getfield 23, 3, 73, 0), (73, .aload_n 0, 1, 74, 0), (74, .getfield 10, 3, 77, 0)] = true := by decide +kernel
set_option maxRecDepth 20000 in
theorem k_X9_put_1 : ckD cX9_put [(77, .iload_n 1, 1, 78, 0), (78, .iload 4, 2, 80, 0), (80, .invokevirtual 136, 3, 83, 0), (83, .iconst 1, 1, 84, 0), (84, .ireturn, 1, 85, 0)] = true := by decide +kernel
def f_X9_put_J49 (a1 : Int32) (a2 : Int32) (a3 : Int32) (a4 : Int32) (M : Mm) (_ : Unit) : Option ((Option Int32) × Mm) := wrI 12 M 6 a1 a2 fun M_7 => wrI 12 M_7 7 a1 a3 fun M_9 => (f_X2_turn 5 a1 a4 M_9).bind fun M_12 => some ((some (1 : Int32)), M_12)
def f_X9_put (a1 : Int32) (a2 : Int32) (a3 : Int32) (a4 : Int32) (M : Mm) : Option ((Option Int32) × Mm) := lt1 (f_X9_needBlock a1 M) fun o_2 => tr1 o_2 (some (none, M)) fun r_3 => if (M.1 0 8) = 0 then (if (f_X9_isPlace a2) = 0 then some ((some (0 : Int32)), M) else if (f_X9_isPlace a3) = 0 then some ((some (0 : Int32)), M) else if a4 = 0 then f_X9_put_J49 a1 a2 a3 a4 M () else if (f_X9_bitOf (M.1 1 2) a1) = 0 then some ((some (0 : Int32)), M) else f_X9_put_J49 a1 a2 a3 a4 M ()) else some ((some (0 : Int32)), M)
set_option maxRecDepth 100000 in
set_option maxHeartbeats 4000000 in
theorem t_X9_put {E : Ev} {l : Launch} (htr : l.stackTraces = false) (a1 : Int32) (a2 : Int32) (a3 : Int32) (a4 : Int32) (M : Mm) (r : ((Option Int32) × Mm)) (hf : f_X9_put a1 a2 a3 a4 M = some r) : CX E l 7 1 6 yX9_put cX9_put 5 (some .boolean) [.ref (E.1 + 0), .int a1, .int a2, .int a3, .int a4] M (r.1.map fun z => some (.int z)) r.2 := by
  refine CX.of htr (by decide +kernel) (Nat.le_of_ble_eq_true rfl) ?_
  intro K hE hL hl hR0 C hr hT hRv hXv
  subst hE
  subst hl
  have C : Cx K cX9_put RX9 7 := C
  have hRc : 1 ≤ K.1.R.cells ∧ 6 ≤ K.1.R.slots := by rw [hR0]; exact ⟨Nat.le_refl _, Nat.le_refl _⟩
  show G K (0, 0) 0 [(0, .ref (K.2.1.1 + 0)), (1, .int a1), (2, .int a2), (3, .int a3), (4, .int a4)] [] M
  unfold f_X9_put at hf
  refine g_aload_n 0 C (ckD_get k_X9_put_0 0 rfl) rfl rfl ?_
  refine g_iload_n 1 C (ckD_get k_X9_put_0 1 rfl) rfl rfl ?_
  obtain ⟨o_2, hr_1, hf⟩ := lt_e hf
  cases o_2 with
  | none =>
    have hf := tr_n hf rfl
    cases hf
    exact n_cVXt [.int a1] [] C (ckD_get k_X9_put_0 2 rfl) vk_X9_92 (t_X9_needBlock C.tr _ _ _ hr_1) T0 rfl rfl (Nat.le_of_ble_eq_true rfl) (by decide) ⟨by decide, by decide⟩ hRc hT rfl (hXv rfl)
  | some r_3 =>
    have hf := tr_s hf rfl
    refine n_cVXr [.int a1] [] C (ckD_get k_X9_put_0 2 rfl) vk_X9_92 (t_X9_needBlock C.tr _ _ _ hr_1) T0 rfl rfl (Nat.le_of_ble_eq_true rfl) (by decide) ⟨by decide, by decide⟩ hRc hT rfl rfl ?_
    refine g_aload_n 0 C (ckD_get k_X9_put_0 3 rfl) rfl rfl ?_
    refine g_getI C (ckD_get k_X9_put_0 4 rfl) fk_X9_64 T0 rfl ?_
    refine g_if_ne C (ckD_get k_X9_put_0 5 rfl) (fun c_4 => ?_) (fun c_4 => ?_)
    · have hf := if_f hf c_4
      refine g_iconst (v := (0 : Int32)) C (ckD_get k_X9_put_0 12 rfl) (by decide) ?_
      cases hf
      exact g_zret C (ckD_get k_X9_put_0 13 rfl) hr rfl (hRv _ rfl) (by decide) (by decide)
    · have hf := if_t hf c_4
      refine g_iload_n 2 C (ckD_get k_X9_put_0 6 rfl) rfl rfl ?_
      refine n_cS [.int a2] [] C (ckD_get k_X9_put_0 7 rfl) sk_X9_127 (t_X9_isPlace C.tr _ _ _ rfl) rfl rfl (Nat.le_of_ble_eq_true rfl) (by decide) ⟨Nat.le_trans (by decide) hRc.1, Nat.le_trans (by decide) hRc.2⟩ rfl ?_
      refine g_if_eq C (ckD_get k_X9_put_0 8 rfl) (fun c_5 => ?_) (fun c_5 => ?_)
      · have hf := if_t hf c_5
        refine g_iconst (v := (0 : Int32)) C (ckD_get k_X9_put_0 12 rfl) (by decide) ?_
        cases hf
        exact g_zret C (ckD_get k_X9_put_0 13 rfl) hr rfl (hRv _ rfl) (by decide) (by decide)
      · have hf := if_f hf c_5
        refine g_iload_n 3 C (ckD_get k_X9_put_0 9 rfl) rfl rfl ?_
        refine n_cS [.int a3] [] C (ckD_get k_X9_put_0 10 rfl) sk_X9_127 (t_X9_isPlace C.tr _ _ _ rfl) rfl rfl (Nat.le_of_ble_eq_true rfl) (by decide) ⟨Nat.le_trans (by decide) hRc.1, Nat.le_trans (by decide) hRc.2⟩ rfl ?_
        refine g_if_ne C (ckD_get k_X9_put_0 11 rfl) (fun c_6 => ?_) (fun c_6 => ?_)
        · have hf := if_f hf c_6
          refine g_iload 4 C (ckD_get k_X9_put_0 14 rfl) rfl ?_
          have hJ_49 : ∀ (_ : Unit), f_X9_put_J49 a1 a2 a3 a4 M () = some r → G K (1, 6) 49 [(0, .ref (K.2.1.1 + 0)), (1, .int a1), (2, .int a2), (3, .int a3), (4, .int a4)] [] M := by
            intro _ hf
            unfold f_X9_put_J49 at hf
            refine g_aload_n 0 C (ckD_get k_X9_put_0 24 rfl) rfl rfl ?_
            refine g_getR C (ckD_get k_X9_put_0 25 rfl) fk_X9_23 T0 rfl ?_
            refine g_getR C (ckD_get k_X9_put_0 26 rfl) fk_X9_130 T5 rfl ?_
            refine g_iload_n 1 C (ckD_get k_X9_put_0 27 rfl) rfl rfl ?_
            refine g_iload_n 2 C (ckD_get k_X9_put_0 28 rfl) rfl rfl ?_
            obtain ⟨M_7, hi_8, eM_7, hf⟩ := wrI_e hf
            refine n_iast C (ckD_get k_X9_put_0 29 rfl) T6 hi_8 eM_7 ?_
            refine g_aload_n 0 C (ckD_get k_X9_put_0 30 rfl) rfl rfl ?_
            refine g_getR C (ckD_get k_X9_put_0 31 rfl) fk_X9_23 T0 rfl ?_
            refine g_getR C (ckD_get k_X9_put_0 32 rfl) fk_X9_133 T5 rfl ?_
            refine g_iload_n 1 C (ckD_get k_X9_put_0 33 rfl) rfl rfl ?_
            refine g_iload_n 3 C (ckD_get k_X9_put_0 34 rfl) rfl rfl ?_
            obtain ⟨M_9, hi_10, eM_9, hf⟩ := wrI_e hf
            refine n_iast C (ckD_get k_X9_put_0 35 rfl) T7 hi_10 eM_9 ?_
            refine g_aload_n 0 C (ckD_get k_X9_put_0 36 rfl) rfl rfl ?_
            refine g_getR C (ckD_get k_X9_put_0 37 rfl) fk_X9_23 T0 rfl ?_
            refine g_aload_n 0 C (ckD_get k_X9_put_0 38 rfl) rfl rfl ?_
            refine g_getR C (ckD_get k_X9_put_0 39 rfl) fk_X9_10 T0 rfl ?_
            refine g_iload_n 1 C (ckD_get k_X9_put_1 0 rfl) rfl rfl ?_
            refine g_iload 4 C (ckD_get k_X9_put_1 1 rfl) rfl ?_
            obtain ⟨M_12, hr_11, hf⟩ := bd_e hf
            refine n_cV [.ref (K.2.1.1 + 1), .int a1, .int a4] [] C (ckD_get k_X9_put_1 2 rfl) vk_X9_136 (t_X2_turn C.tr _ (Or.inl rfl) _ _ _ _ hr_11) T5 rfl rfl (Nat.le_of_ble_eq_true rfl) (by decide) ⟨Nat.le_trans (by decide) hRc.1, Nat.le_trans (by decide) hRc.2⟩ rfl ?_
            refine g_iconst (v := (1 : Int32)) C (ckD_get k_X9_put_1 3 rfl) (by decide) ?_
            cases hf
            exact g_zret C (ckD_get k_X9_put_1 4 rfl) hr rfl (hRv _ rfl) (by decide) (by decide)
          refine g_if_eq C (ckD_get k_X9_put_0 15 rfl) (fun c_13 => ?_) (fun c_13 => ?_)
          · have hf := if_t hf c_13
            exact hJ_49 () hf
          · have hf := if_f hf c_13
            refine g_aload_n 0 C (ckD_get k_X9_put_0 16 rfl) rfl rfl ?_
            refine g_getR C (ckD_get k_X9_put_0 17 rfl) fk_X9_10 T0 rfl ?_
            refine g_getI C (ckD_get k_X9_put_0 18 rfl) fk_X9_102 T1 rfl ?_
            refine g_iload_n 1 C (ckD_get k_X9_put_0 19 rfl) rfl rfl ?_
            refine n_cS [.int (M.1 1 2), .int a1] [] C (ckD_get k_X9_put_0 20 rfl) sk_X9_105 (t_X9_bitOf C.tr _ _ _ _ rfl) rfl rfl (Nat.le_of_ble_eq_true rfl) (by decide) ⟨Nat.le_trans (by decide) hRc.1, Nat.le_trans (by decide) hRc.2⟩ rfl ?_
            refine g_if_ne C (ckD_get k_X9_put_0 21 rfl) (fun c_14 => ?_) (fun c_14 => ?_)
            · have hf := if_f hf c_14
              exact hJ_49 () hf
            · have hf := if_t hf c_14
              refine g_iconst (v := (0 : Int32)) C (ckD_get k_X9_put_0 22 rfl) (by decide) ?_
              cases hf
              exact g_zret C (ckD_get k_X9_put_0 23 rfl) hr rfl (hRv _ rfl) (by decide) (by decide)
        · have hf := if_t hf c_6
          refine g_iconst (v := (0 : Int32)) C (ckD_get k_X9_put_0 12 rfl) (by decide) ?_
          cases hf
          exact g_zret C (ckD_get k_X9_put_0 13 rfl) hr rfl (hRv _ rfl) (by decide) (by decide)

set_option maxRecDepth 20000 in
theorem k_X9_layOut_0 : ckD cX9_layOut [(0, .aload_n 0, 1, 1, 0), (1, .getfield 23, 3, 4, 0), (4, .aload_n 0, 1, 5, 0), (5, .getfield 10, 3, 8, 0), (8, .iload_n 3, 1, 9, 0), (9, .invokevirtual 324, 3, 12, 0), (12, .aload_n 1, 1, 13, 0), (13, .aload_n 0, 1, 14, 0), (14, .getfield 23, 3, 17, 0), (17, .invokevirtual 328, 3, 20, 0), (20, .aload_n 0, 1, 21, 0), (21, .iload_n 2, 1, 22, 0), (22, .putfield 64, 3, 25, 0), (25, .return_, 1, 26, 0)] = true := by decide +kernel
def f_X9_layOut (k1 : Nat) (a2 : Int32) (a3 : Int32) (M : Mm) : Option Mm := (f_X2_take 5 a3 M).bind fun M_2 => (f_tlay k1 5 M_2).bind fun M_3 => lt1 (wi M_3 0 8 a2) fun M_5 => some M_5
set_option maxRecDepth 100000 in
set_option maxHeartbeats 4000000 in
theorem t_X9_layOut {E : Ev} {l : Launch} (htr : l.stackTraces = false) (k1 : Nat) (a2 : Int32) (a3 : Int32) (M : Mm) (r : Mm) (hf : f_X9_layOut k1 a2 a3 M = some r) : CM E l 4 0 0 yX9_layOut cX9_layOut 4 none [.ref (E.1 + 0), .ref (E.1 + k1), .int a2, .int a3] M none r := by
  refine CM.of htr (by decide +kernel) (Nat.le_of_ble_eq_true rfl) ?_
  intro K hE hL hl hR0 C hr hRv
  subst hE
  subst hl
  have C : Cx K cX9_layOut RX9 4 := C
  have hB : (0 : Nat) ≤ K.1.R.cells ∧ 0 ≤ K.1.R.slots := ⟨Nat.zero_le _, Nat.zero_le _⟩
  show G K (0, 0) 0 [(0, .ref (K.2.1.1 + 0)), (1, .ref (K.2.1.1 + k1)), (2, .int a2), (3, .int a3)] [] M
  unfold f_X9_layOut at hf
  refine g_aload_n 0 C (ckD_get k_X9_layOut_0 0 rfl) rfl rfl ?_
  refine g_getR C (ckD_get k_X9_layOut_0 1 rfl) fk_X9_23 T0 rfl ?_
  refine g_aload_n 0 C (ckD_get k_X9_layOut_0 2 rfl) rfl rfl ?_
  refine g_getR C (ckD_get k_X9_layOut_0 3 rfl) fk_X9_10 T0 rfl ?_
  refine g_iload_n 3 C (ckD_get k_X9_layOut_0 4 rfl) rfl rfl ?_
  obtain ⟨M_2, hr_1, hf⟩ := bd_e hf
  refine n_cV [.ref (K.2.1.1 + 1), .int a3] [] C (ckD_get k_X9_layOut_0 5 rfl) vk_X9_324 (t_X2_take C.tr _ (Or.inl rfl) _ _ _ hr_1) T5 rfl rfl (Nat.le_of_ble_eq_true rfl) (by decide) hB rfl ?_
  refine g_aload_n 1 C (ckD_get k_X9_layOut_0 6 rfl) rfl rfl ?_
  refine g_aload_n 0 C (ckD_get k_X9_layOut_0 7 rfl) rfl rfl ?_
  refine g_getR C (ckD_get k_X9_layOut_0 8 rfl) fk_X9_23 T0 rfl ?_
  obtain ⟨M_3, hr_4, hf⟩ := bd_e hf
  have hcM_3 : G K (0, 0) 20 [(0, .ref (K.2.1.1 + 0)), (1, .ref (K.2.1.1 + k1)), (2, .int a2), (3, .int a3)] [] M_3 := by
    refine g_aload_n 0 C (ckD_get k_X9_layOut_0 10 rfl) rfl rfl ?_
    refine g_iload_n 2 C (ckD_get k_X9_layOut_0 11 rfl) rfl rfl ?_
    obtain ⟨M_5, eM_5, hf⟩ := lt_e hf
    refine g_putI C (ckD_get k_X9_layOut_0 12 rfl) fk_X9_64 T0 rfl ?_
    refine memI eM_5 ?_
    cases hf
    exact g_vret C (ckD_get k_X9_layOut_0 13 rfl) hr hRv (Nat.le_refl _) (Nat.le_refl _)
  rcases tl_e hr_4 with ⟨ht, hr_4⟩ | ⟨ht, hr_4⟩ | ⟨ht, hr_4⟩
  · exact n_cU [.ref (K.2.1.1 + 5)] [] C (ckD_get k_X9_layOut_0 9 rfl) uk_X9_328_X4 (t_X4_lay C.tr _ ht _ (Or.inl rfl) _ _ hr_4) (T_Or ht) rfl rfl (Nat.le_of_ble_eq_true rfl) (by decide) hB rfl hcM_3
  · exact n_cU [.ref (K.2.1.1 + 5)] [] C (ckD_get k_X9_layOut_0 9 rfl) uk_X9_328_X6 (t_X6_lay C.tr _ ht _ (Or.inl rfl) _ _ hr_4) (T_Ro ht) rfl rfl (Nat.le_of_ble_eq_true rfl) (by decide) hB rfl hcM_3
  · exact n_cU [.ref (K.2.1.1 + 5)] [] C (ckD_get k_X9_layOut_0 9 rfl) uk_X9_328_X3 (t_X3_lay C.tr _ ht _ (Or.inl rfl) _ _ hr_4) (T_Ki ht) rfl rfl (Nat.le_of_ble_eq_true rfl) (by decide) hB rfl hcM_3
