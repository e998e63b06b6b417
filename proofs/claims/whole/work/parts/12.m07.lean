set_option maxRecDepth 20000 in
theorem k_X9_pair_0 : ckD cX9_pair [(0, .aload_n 0, 1, 1, 0), (1, .getfield 10, 3, 4, 0), (4, .getfield 71, 3, 7, 0), (7, .istore 6, 2, 9, 0), (9, .iload 6, 2, 11, 0), (11, .ifCond .eq 21, 3, 14, 32), (14, .lload_n 1, 1, 15, 0), (15, .iload 6, 2, 17, 0), (17, .invokestatic 140, 3, 20, 0), (20, .ifCond .eq 12, 3, 23, 32), (23, .lload_n 3, 1, 24, 0), (24, .iload 6, 2, 26, 0), (26, .invokestatic 140, 3, 29, 0), (29, .ifCond .ne 5, 3, 32, 34), (32, .iconst 0, 1, 33, 0), (33, .ireturn, 1, 34, 0), (34, .aload_n 0, 1, 35, 0), (35, .getfield 30, 3, 38, 0), (38, .lload_n 1, 1, 39, 0), (39, .lload_n 3, 1, 40, 0), (40, .iload 6, 2, 42, 0), (42, .invokevirtual 144, 3, 45, 0), (45, .aload_n 0, 1, 46, 0), (46, .aload_n 0, 1, 47, 0), (47, .getfield 30, 3, 50, 0), (50, .iconst 1, 1, 51, 0), (51, .iload 5, 2, 53, 0), (53, .invokevirtual 148, 3, 56, 0), (56, .iconst 1, 1, 57, 0), (57, .ireturn, 1, 58, 0)] = true := by decide +kernel
def f_X9_pair (a1 : Int64) (a2 : Int64) (a3 : Int32) (M : Mm) : Option (Int32 × Mm) := lt1 (M.1 1 3) fun x6_1 => if x6_1 = 0 then some ((0 : Int32), M) else (f_X4_isOrder a1 x6_1).bind fun r_4 => if r_4 = 0 then some ((0 : Int32), M) else (f_X4_isOrder a2 x6_1).bind fun r_7 => if r_7 = 0 then some ((0 : Int32), M) else (f_X4_read 11 a1 a2 x6_1 M).bind fun M_10 => (f_X9_layOut 11 (1 : Int32) a3 M_10).bind fun M_12 => some ((1 : Int32), M_12)
set_option maxRecDepth 100000 in
set_option maxHeartbeats 4000000 in
theorem t_X9_pair {E : Ev} {l : Launch} (htr : l.stackTraces = false) (a1 : Int64) (a2 : Int64) (a3 : Int32) (M : Mm) (r : (Int32 × Mm)) (hf : f_X9_pair a1 a2 a3 M = some r) : CM E l 5 0 0 yX9_pair cX9_pair 7 (some .boolean) [.ref (E.1 + 0), .long a1, .long a2, .int a3] M (some (.int r.1)) r.2 := by
  refine CM.of htr (by decide +kernel) (Nat.le_of_ble_eq_true rfl) ?_
  intro K hE hL hl hR0 C hr hRv
  subst hE
  subst hl
  have C : Cx K cX9_pair RX9 5 := C
  have hB : (0 : Nat) ≤ K.1.R.cells ∧ 0 ≤ K.1.R.slots := ⟨Nat.zero_le _, Nat.zero_le _⟩
  have hL6 : 6 < K.2.2.1 := by rw [hL]; decide
  show G K (0, 0) 0 [(0, .ref (K.2.1.1 + 0)), (1, .long a1), (3, .long a2), (5, .int a3)] [] M
  unfold f_X9_pair at hf
  refine g_aload_n 0 C (ckD_get k_X9_pair_0 0 rfl) rfl rfl ?_
  refine g_getR C (ckD_get k_X9_pair_0 1 rfl) fk_X9_10 T0 rfl ?_
  refine g_getI C (ckD_get k_X9_pair_0 2 rfl) fk_X9_71 T1 rfl ?_
  obtain ⟨x6_1, ex6_1, hf⟩ := lt_e hf
  refine topI ex6_1 ?_
  refine g_istore (lv' := [(6, _), (0, _), (1, _), (3, _), (5, _)]) C (ckD_get k_X9_pair_0 3 rfl) hL6 rfl ?_
  refine g_iload 0 C (ckD_get k_X9_pair_0 4 rfl) rfl ?_
  refine g_if_eq C (ckD_get k_X9_pair_0 5 rfl) (fun c_2 => ?_) (fun c_2 => ?_)
  · have hf := if_t hf c_2
    refine g_iconst (v := (0 : Int32)) C (ckD_get k_X9_pair_0 14 rfl) (by decide) ?_
    cases hf
    exact g_zret C (ckD_get k_X9_pair_0 15 rfl) hr rfl hRv (Nat.le_refl _) (Nat.le_refl _)
  · have hf := if_f hf c_2
    refine g_lload_n 2 C (ckD_get k_X9_pair_0 6 rfl) rfl rfl ?_
    refine g_iload 0 C (ckD_get k_X9_pair_0 7 rfl) rfl ?_
    obtain ⟨r_4, hr_3, hf⟩ := bd_e hf
    refine n_cS [.long a1, .int x6_1] [] C (ckD_get k_X9_pair_0 8 rfl) sk_X9_140 (t_X4_isOrder C.tr _ _ _ _ hr_3) rfl rfl (Nat.le_of_ble_eq_true rfl) (by decide) hB rfl ?_
    refine g_if_eq C (ckD_get k_X9_pair_0 9 rfl) (fun c_5 => ?_) (fun c_5 => ?_)
    · have hf := if_t hf c_5
      refine g_iconst (v := (0 : Int32)) C (ckD_get k_X9_pair_0 14 rfl) (by decide) ?_
      cases hf
      exact g_zret C (ckD_get k_X9_pair_0 15 rfl) hr rfl hRv (Nat.le_refl _) (Nat.le_refl _)
    · have hf := if_f hf c_5
      refine g_lload_n 3 C (ckD_get k_X9_pair_0 10 rfl) rfl rfl ?_
      refine g_iload 0 C (ckD_get k_X9_pair_0 11 rfl) rfl ?_
      obtain ⟨r_7, hr_6, hf⟩ := bd_e hf
      refine n_cS [.long a2, .int x6_1] [] C (ckD_get k_X9_pair_0 12 rfl) sk_X9_140 (t_X4_isOrder C.tr _ _ _ _ hr_6) rfl rfl (Nat.le_of_ble_eq_true rfl) (by decide) hB rfl ?_
      refine g_if_ne C (ckD_get k_X9_pair_0 13 rfl) (fun c_8 => ?_) (fun c_8 => ?_)
      · have hf := if_f hf c_8
        refine g_aload_n 1 C (ckD_get k_X9_pair_0 16 rfl) rfl rfl ?_
        refine g_getR C (ckD_get k_X9_pair_0 17 rfl) fk_X9_30 T0 rfl ?_
        refine g_lload_n 2 C (ckD_get k_X9_pair_0 18 rfl) rfl rfl ?_
        refine g_lload_n 3 C (ckD_get k_X9_pair_0 19 rfl) rfl rfl ?_
        refine g_iload 0 C (ckD_get k_X9_pair_0 20 rfl) rfl ?_
        obtain ⟨M_10, hr_9, hf⟩ := bd_e hf
        refine n_cV [.long a1, .long a2, .int x6_1] [] C (ckD_get k_X9_pair_0 21 rfl) vk_X9_144 (t_X4_read C.tr _ (Or.inl rfl) _ _ _ _ _ hr_9) T11 rfl rfl (Nat.le_of_ble_eq_true rfl) (by decide) hB rfl ?_
        refine g_aload_n 1 C (ckD_get k_X9_pair_0 22 rfl) rfl rfl ?_
        refine g_aload_n 1 C (ckD_get k_X9_pair_0 23 rfl) rfl rfl ?_
        refine g_getR C (ckD_get k_X9_pair_0 24 rfl) fk_X9_30 T0 rfl ?_
        refine g_iconst (v := (1 : Int32)) C (ckD_get k_X9_pair_0 25 rfl) (by decide) ?_
        refine g_iload 4 C (ckD_get k_X9_pair_0 26 rfl) rfl ?_
        obtain ⟨M_12, hr_11, hf⟩ := bd_e hf
        refine n_cV [.ref (K.2.1.1 + 11), .int (1 : Int32), .int a3] [] C (ckD_get k_X9_pair_0 27 rfl) vk_X9_148 (t_X9_layOut C.tr _ _ _ _ _ hr_11) T0 rfl rfl (Nat.le_of_ble_eq_true rfl) (by decide) hB rfl ?_
        refine g_iconst (v := (1 : Int32)) C (ckD_get k_X9_pair_0 28 rfl) (by decide) ?_
        cases hf
        exact g_zret C (ckD_get k_X9_pair_0 29 rfl) hr rfl hRv (Nat.le_refl _) (Nat.le_refl _)
      · have hf := if_t hf c_8
        refine g_iconst (v := (0 : Int32)) C (ckD_get k_X9_pair_0 14 rfl) (by decide) ?_
        cases hf
        exact g_zret C (ckD_get k_X9_pair_0 15 rfl) hr rfl hRv (Nat.le_refl _) (Nat.le_refl _)

set_option maxRecDepth 20000 in
theorem k_X9_cuts_0 : ckD cX9_cuts [(0, .aload_n 0, 1, 1, 0), (1, .getfield 10, 3, 4, 0), (4, .getfield 71, 3, 7, 0), (7, .ifCond .eq 18, 3, 10, 25), (10, .lload_n 1, 1, 11, 0), (11, .lload_n 3, 1, 12, 0), (12, .aload_n 0, 1, 13, 0), (13, .getfield 10, 3, 16, 0), (16, .getfield 71, 3, 19, 0), (19, .invokestatic 152, 3, 22, 0), (22, .ifCond .ne 5, 3, 25, 27), (25, .iconst 0, 1, 26, 0), (26, .ireturn, 1, 27, 0), (27, .aload_n 0, 1, 28, 0), (28, .getfield 37, 3, 31, 0), (31, .lload_n 1, 1, 32, 0), (32, .lload_n 3, 1, 33, 0), (33, .aload_n 0, 1, 34, 0), (34, .getfield 10, 3, 37, 0), (37, .getfield 71, 3, 40, 0), (40, .invokevirtual 156, 3, 43, 0), (43, .aload_n 0, 1, 44, 0), (44, .aload_n 0, 1, 45, 0), (45, .getfield 37, 3, 48, 0), (48, .iconst 2, 1, 49, 0), (49, .iload 5, 2, 51, 0), (51, .invokevirtual 148, 3, 54, 0), (54, .iconst 1, 1, 55, 0), (55, .ireturn, 1, 56, 0)] = true := by decide +kernel
def f_X9_cuts (a1 : Int64) (a2 : Int64) (a3 : Int32) (M : Mm) : Option (Int32 × Mm) := if (M.1 1 3) = 0 then some ((0 : Int32), M) else (f_X6_isRow a1 a2 (M.1 1 3)).bind fun r_3 => if r_3 = 0 then some ((0 : Int32), M) else (f_X6_read 17 a1 a2 (M.1 1 3) M).bind fun M_6 => (f_X9_layOut 17 (2 : Int32) a3 M_6).bind fun M_8 => some ((1 : Int32), M_8)
set_option maxRecDepth 100000 in
set_option maxHeartbeats 4000000 in
theorem t_X9_cuts {E : Ev} {l : Launch} (htr : l.stackTraces = false) (a1 : Int64) (a2 : Int64) (a3 : Int32) (M : Mm) (r : (Int32 × Mm)) (hf : f_X9_cuts a1 a2 a3 M = some r) : CM E l 5 0 0 yX9_cuts cX9_cuts 6 (some .boolean) [.ref (E.1 + 0), .long a1, .long a2, .int a3] M (some (.int r.1)) r.2 := by
  refine CM.of htr (by decide +kernel) (Nat.le_of_ble_eq_true rfl) ?_
  intro K hE hL hl hR0 C hr hRv
  subst hE
  subst hl
  have C : Cx K cX9_cuts RX9 5 := C
  have hB : (0 : Nat) ≤ K.1.R.cells ∧ 0 ≤ K.1.R.slots := ⟨Nat.zero_le _, Nat.zero_le _⟩
  show G K (0, 0) 0 [(0, .ref (K.2.1.1 + 0)), (1, .long a1), (3, .long a2), (5, .int a3)] [] M
  unfold f_X9_cuts at hf
  refine g_aload_n 0 C (ckD_get k_X9_cuts_0 0 rfl) rfl rfl ?_
  refine g_getR C (ckD_get k_X9_cuts_0 1 rfl) fk_X9_10 T0 rfl ?_
  refine g_getI C (ckD_get k_X9_cuts_0 2 rfl) fk_X9_71 T1 rfl ?_
  refine g_if_eq C (ckD_get k_X9_cuts_0 3 rfl) (fun c_1 => ?_) (fun c_1 => ?_)
  · have hf := if_t hf c_1
    refine g_iconst (v := (0 : Int32)) C (ckD_get k_X9_cuts_0 11 rfl) (by decide) ?_
    cases hf
    exact g_zret C (ckD_get k_X9_cuts_0 12 rfl) hr rfl hRv (Nat.le_refl _) (Nat.le_refl _)
  · have hf := if_f hf c_1
    refine g_lload_n 1 C (ckD_get k_X9_cuts_0 4 rfl) rfl rfl ?_
    refine g_lload_n 2 C (ckD_get k_X9_cuts_0 5 rfl) rfl rfl ?_
    refine g_aload_n 0 C (ckD_get k_X9_cuts_0 6 rfl) rfl rfl ?_
    refine g_getR C (ckD_get k_X9_cuts_0 7 rfl) fk_X9_10 T0 rfl ?_
    refine g_getI C (ckD_get k_X9_cuts_0 8 rfl) fk_X9_71 T1 rfl ?_
    obtain ⟨r_3, hr_2, hf⟩ := bd_e hf
    refine n_cS [.long a1, .long a2, .int (M.1 1 3)] [] C (ckD_get k_X9_cuts_0 9 rfl) sk_X9_152 (t_X6_isRow C.tr _ _ _ _ _ hr_2) rfl rfl (Nat.le_of_ble_eq_true rfl) (by decide) hB rfl ?_
    refine g_if_ne C (ckD_get k_X9_cuts_0 10 rfl) (fun c_4 => ?_) (fun c_4 => ?_)
    · have hf := if_f hf c_4
      refine g_aload_n 0 C (ckD_get k_X9_cuts_0 13 rfl) rfl rfl ?_
      refine g_getR C (ckD_get k_X9_cuts_0 14 rfl) fk_X9_37 T0 rfl ?_
      refine g_lload_n 1 C (ckD_get k_X9_cuts_0 15 rfl) rfl rfl ?_
      refine g_lload_n 2 C (ckD_get k_X9_cuts_0 16 rfl) rfl rfl ?_
      refine g_aload_n 0 C (ckD_get k_X9_cuts_0 17 rfl) rfl rfl ?_
      refine g_getR C (ckD_get k_X9_cuts_0 18 rfl) fk_X9_10 T0 rfl ?_
      refine g_getI C (ckD_get k_X9_cuts_0 19 rfl) fk_X9_71 T1 rfl ?_
      obtain ⟨M_6, hr_5, hf⟩ := bd_e hf
      refine n_cV [.long a1, .long a2, .int (M.1 1 3)] [] C (ckD_get k_X9_cuts_0 20 rfl) vk_X9_156 (t_X6_read C.tr _ (Or.inl rfl) _ _ _ _ _ hr_5) T17 rfl rfl (Nat.le_of_ble_eq_true rfl) (by decide) hB rfl ?_
      refine g_aload_n 0 C (ckD_get k_X9_cuts_0 21 rfl) rfl rfl ?_
      refine g_aload_n 0 C (ckD_get k_X9_cuts_0 22 rfl) rfl rfl ?_
      refine g_getR C (ckD_get k_X9_cuts_0 23 rfl) fk_X9_37 T0 rfl ?_
      refine g_iconst (v := (2 : Int32)) C (ckD_get k_X9_cuts_0 24 rfl) (by decide) ?_
      refine g_iload 3 C (ckD_get k_X9_cuts_0 25 rfl) rfl ?_
      obtain ⟨M_8, hr_7, hf⟩ := bd_e hf
      refine n_cV [.ref (K.2.1.1 + 17), .int (2 : Int32), .int a3] [] C (ckD_get k_X9_cuts_0 26 rfl) vk_X9_148 (t_X9_layOut C.tr _ _ _ _ _ hr_7) T0 rfl rfl (Nat.le_of_ble_eq_true rfl) (by decide) hB rfl ?_
      refine g_iconst (v := (1 : Int32)) C (ckD_get k_X9_cuts_0 27 rfl) (by decide) ?_
      cases hf
      exact g_zret C (ckD_get k_X9_cuts_0 28 rfl) hr rfl hRv (Nat.le_refl _) (Nat.le_refl _)
    · have hf := if_t hf c_4
      refine g_iconst (v := (0 : Int32)) C (ckD_get k_X9_cuts_0 11 rfl) (by decide) ?_
      cases hf
      exact g_zret C (ckD_get k_X9_cuts_0 12 rfl) hr rfl hRv (Nat.le_refl _) (Nat.le_refl _)

set_option maxRecDepth 20000 in
theorem k_X9_tree_0 : ckD cX9_tree [(0, .aload_n 0, 1, 1, 0), (1, .getfield 10, 3, 4, 0), (4, .getfield 71, 3, 7, 0), (7, .ifCond .eq 20, 3, 10, 27), (10, .iload_n 1, 1, 11, 0), (11, .lload_n 2, 1, 12, 0), (12, .lload 4, 2, 14, 0), (14, .aload_n 0, 1, 15, 0), (15, .getfield 10, 3, 18, 0), (18, .getfield 71, 3, 21, 0), (21, .invokestatic 157, 3, 24, 0), (24, .ifCond .ne 5, 3, 27, 29), (27, .iconst 0, 1, 28, 0), (28, .ireturn, 1, 29, 0), (29, .aload_n 0, 1, 30, 0), (30, .getfield 44, 3, 33, 0), (33, .iload_n 1, 1, 34, 0), (34, .lload_n 2, 1, 35, 0), (35, .lload 4, 2, 37, 0), (37, .aload_n 0, 1, 38, 0), (38, .getfield 10, 3, 41, 0), (41, .getfield 71, 3, 44, 0), (44, .invokevirtual 161, 3, 47, 0), (47, .aload_n 0, 1, 48, 0), (48, .aload_n 0, 1, 49, 0), (49, .getfield 44, 3, 52, 0), (52, .iconst 3, 1, 53, 0), (53, .iload 6, 2, 55, 0), (55, .invokevirtual 148, 3, 58, 0), (58, .iconst 1, 1, 59, 0), (59, .ireturn, 1, 60, 0)] = true := by decide +kernel
def f_X9_tree (a1 : Int32) (a2 : Int64) (a3 : Int64) (a4 : Int32) (M : Mm) : Option (Int32 × Mm) := if (M.1 1 3) = 0 then some ((0 : Int32), M) else (f_X3_isTree a1 a2 a3 (M.1 1 3)).bind fun r_3 => if r_3 = 0 then some ((0 : Int32), M) else (f_X3_read 23 a1 a2 a3 (M.1 1 3) M).bind fun M_6 => (f_X9_layOut 23 (3 : Int32) a4 M_6).bind fun M_8 => some ((1 : Int32), M_8)
set_option maxRecDepth 100000 in
set_option maxHeartbeats 4000000 in
theorem t_X9_tree {E : Ev} {l : Launch} (htr : l.stackTraces = false) (a1 : Int32) (a2 : Int64) (a3 : Int64) (a4 : Int32) (M : Mm) (r : (Int32 × Mm)) (hf : f_X9_tree a1 a2 a3 a4 M = some r) : CM E l 5 0 0 yX9_tree cX9_tree 7 (some .boolean) [.ref (E.1 + 0), .int a1, .long a2, .long a3, .int a4] M (some (.int r.1)) r.2 := by
  refine CM.of htr (by decide +kernel) (Nat.le_of_ble_eq_true rfl) ?_
  intro K hE hL hl hR0 C hr hRv
  subst hE
  subst hl
  have C : Cx K cX9_tree RX9 5 := C
  have hB : (0 : Nat) ≤ K.1.R.cells ∧ 0 ≤ K.1.R.slots := ⟨Nat.zero_le _, Nat.zero_le _⟩
  show G K (0, 0) 0 [(0, .ref (K.2.1.1 + 0)), (1, .int a1), (2, .long a2), (4, .long a3), (6, .int a4)] [] M
  unfold f_X9_tree at hf
  refine g_aload_n 0 C (ckD_get k_X9_tree_0 0 rfl) rfl rfl ?_
  refine g_getR C (ckD_get k_X9_tree_0 1 rfl) fk_X9_10 T0 rfl ?_
  refine g_getI C (ckD_get k_X9_tree_0 2 rfl) fk_X9_71 T1 rfl ?_
  refine g_if_eq C (ckD_get k_X9_tree_0 3 rfl) (fun c_1 => ?_) (fun c_1 => ?_)
  · have hf := if_t hf c_1
    refine g_iconst (v := (0 : Int32)) C (ckD_get k_X9_tree_0 12 rfl) (by decide) ?_
    cases hf
    exact g_zret C (ckD_get k_X9_tree_0 13 rfl) hr rfl hRv (Nat.le_refl _) (Nat.le_refl _)
  · have hf := if_f hf c_1
    refine g_iload_n 1 C (ckD_get k_X9_tree_0 4 rfl) rfl rfl ?_
    refine g_lload_n 2 C (ckD_get k_X9_tree_0 5 rfl) rfl rfl ?_
    refine g_lload 3 C (ckD_get k_X9_tree_0 6 rfl) rfl ?_
    refine g_aload_n 0 C (ckD_get k_X9_tree_0 7 rfl) rfl rfl ?_
    refine g_getR C (ckD_get k_X9_tree_0 8 rfl) fk_X9_10 T0 rfl ?_
    refine g_getI C (ckD_get k_X9_tree_0 9 rfl) fk_X9_71 T1 rfl ?_
    obtain ⟨r_3, hr_2, hf⟩ := bd_e hf
    refine n_cS [.int a1, .long a2, .long a3, .int (M.1 1 3)] [] C (ckD_get k_X9_tree_0 10 rfl) sk_X9_157 (t_X3_isTree C.tr _ _ _ _ _ _ hr_2) rfl rfl (Nat.le_of_ble_eq_true rfl) (by decide) hB rfl ?_
    refine g_if_ne C (ckD_get k_X9_tree_0 11 rfl) (fun c_4 => ?_) (fun c_4 => ?_)
    · have hf := if_f hf c_4
      refine g_aload_n 0 C (ckD_get k_X9_tree_0 14 rfl) rfl rfl ?_
      refine g_getR C (ckD_get k_X9_tree_0 15 rfl) fk_X9_44 T0 rfl ?_
      refine g_iload_n 1 C (ckD_get k_X9_tree_0 16 rfl) rfl rfl ?_
      refine g_lload_n 2 C (ckD_get k_X9_tree_0 17 rfl) rfl rfl ?_
      refine g_lload 3 C (ckD_get k_X9_tree_0 18 rfl) rfl ?_
      refine g_aload_n 0 C (ckD_get k_X9_tree_0 19 rfl) rfl rfl ?_
      refine g_getR C (ckD_get k_X9_tree_0 20 rfl) fk_X9_10 T0 rfl ?_
      refine g_getI C (ckD_get k_X9_tree_0 21 rfl) fk_X9_71 T1 rfl ?_
      obtain ⟨M_6, hr_5, hf⟩ := bd_e hf
      refine n_cV [.int a1, .long a2, .long a3, .int (M.1 1 3)] [] C (ckD_get k_X9_tree_0 22 rfl) vk_X9_161 (t_X3_read C.tr _ (Or.inl rfl) _ _ _ _ _ _ hr_5) T23 rfl rfl (Nat.le_of_ble_eq_true rfl) (by decide) hB rfl ?_
      refine g_aload_n 0 C (ckD_get k_X9_tree_0 23 rfl) rfl rfl ?_
      refine g_aload_n 0 C (ckD_get k_X9_tree_0 24 rfl) rfl rfl ?_
      refine g_getR C (ckD_get k_X9_tree_0 25 rfl) fk_X9_44 T0 rfl ?_
      refine g_iconst (v := (3 : Int32)) C (ckD_get k_X9_tree_0 26 rfl) (by decide) ?_
      refine g_iload 4 C (ckD_get k_X9_tree_0 27 rfl) rfl ?_
      obtain ⟨M_8, hr_7, hf⟩ := bd_e hf
      refine n_cV [.ref (K.2.1.1 + 23), .int (3 : Int32), .int a4] [] C (ckD_get k_X9_tree_0 28 rfl) vk_X9_148 (t_X9_layOut C.tr _ _ _ _ _ hr_7) T0 rfl rfl (Nat.le_of_ble_eq_true rfl) (by decide) hB rfl ?_
      refine g_iconst (v := (1 : Int32)) C (ckD_get k_X9_tree_0 29 rfl) (by decide) ?_
      cases hf
      exact g_zret C (ckD_get k_X9_tree_0 30 rfl) hr rfl hRv (Nat.le_refl _) (Nat.le_refl _)
    · have hf := if_t hf c_4
      refine g_iconst (v := (0 : Int32)) C (ckD_get k_X9_tree_0 12 rfl) (by decide) ?_
      cases hf
      exact g_zret C (ckD_get k_X9_tree_0 13 rfl) hr rfl hRv (Nat.le_refl _) (Nat.le_refl _)

set_option maxRecDepth 20000 in
theorem k_X9_needLaying_0 : ckD cX9_needLaying [(0, .aload_n 0, 1, 1, 0), (1, .getfield 64, 3, 4, 0), (4, .iconst (-1), 1, 5, 0), (5, .if_icmp .ne 14, 3, 8, 19), (8, .new 109, 3, 11, 0), (11, .dup, 1, 12, 0), (12, .ldc_w 313, 3, 15, 0), (15, .invokespecial 113, 3, 18, 0), (18, .athrow, 1, 19, 0), (19, .return_, 1, 20, 0)] = true := by decide +kernel
def f_X9_needLaying  (M : Mm) : Option Unit := if (M.1 0 8) = (-1 : Int32) then none else (some ())
set_option maxRecDepth 100000 in
set_option maxHeartbeats 4000000 in
theorem t_X9_needLaying {E : Ev} {l : Launch} (htr : l.stackTraces = false) (M : Mm) (r : Option Unit) (hf : f_X9_needLaying M = r) : CX E l 6 1 6 yX9_needLaying cX9_needLaying 1 none [.ref (E.1 + 0)] M (r.map fun z => (none : Option Value)) M := by
  refine CX.of htr (by decide +kernel) (Nat.le_of_ble_eq_true rfl) ?_
  intro K hE hL hl hR0 C hr hT hRv hXv
  subst hE
  subst hl
  have C : Cx K cX9_needLaying RX9 6 := C
  have hRc : 1 ≤ K.1.R.cells ∧ 6 ≤ K.1.R.slots := by rw [hR0]; exact ⟨Nat.le_refl _, Nat.le_refl _⟩
  show G K (0, 0) 0 [(0, .ref (K.2.1.1 + 0))] [] M
  unfold f_X9_needLaying at hf
  refine g_aload_n 0 C (ckD_get k_X9_needLaying_0 0 rfl) rfl rfl ?_
  refine g_getI C (ckD_get k_X9_needLaying_0 1 rfl) fk_X9_64 T0 rfl ?_
  refine g_iconst (v := (-1 : Int32)) C (ckD_get k_X9_needLaying_0 2 rfl) (by decide) ?_
  refine g_icmp_ne C (ckD_get k_X9_needLaying_0 3 rfl) (fun c_1 => ?_) (fun c_1 => ?_)
  · have hf := if_f hf c_1
    cases hf
    exact g_vret C (ckD_get k_X9_needLaying_0 9 rfl) hr (hRv _ rfl) (by decide) (by decide)
  · have hf := if_t hf c_1
    cases hf
    exact g_throwW (is := 313) (text := "there is no laying") C (ckD_get k_X9_needLaying_0 4 rfl) (ckD_get k_X9_needLaying_0 5 rfl) (ckD_get k_X9_needLaying_0 6 rfl) (ckD_get k_X9_needLaying_0 7 rfl) (ckD_get k_X9_needLaying_0 8 rfl) (by decide) hT (hXv rfl) (by decide) (Nat.le_of_ble_eq_true rfl) ⟨by decide, by decide⟩ hRc

set_option maxRecDepth 20000 in
theorem k_X9_about_0 : ckD cX9_about [(0, .aload_n 0, 1, 1, 0), (1, .invokevirtual 164, 3, 4, 0), (4, .iload_n 1, 1, 5, 0), (5, .tableswitch 131 0 7 #[47, 52, 60, 68, 76, 92, 109, 120], 47, 52, 0), (52, .aload_n 0, 1, 53, 0), (53, .getfield 64, 3, 56, 0), (56, .ireturn, 1, 57, 0), (57, .aload_n 0, 1, 58, 0), (58, .getfield 23, 3, 61, 0), (61, .invokevirtual 167, 3, 64, 0), (64, .ireturn, 1, 65, 0), (65, .aload_n 0, 1, 66, 0), (66, .getfield 23, 3, 69, 0), (69, .invokevirtual 170, 3, 72, 0), (72, .ireturn, 1, 73, 0), (73, .aload_n 0, 1, 74, 0), (74, .getfield 23, 3, 77, 0), (77, .invokevirtual 173, 3, 80, 0), (80, .ireturn, 1, 81, 0), (81, .aload_n 0, 1, 82, 0), (82, .getfield 23, 3, 85, 0), (85, .invokevirtual 173, 3, 88, 0), (88, .aload_n 0, 1, 89, 0), (89, .getfield 10, 3, 92, 0), (92, .invokevirtual 176, 3, 95, 0), (95, .isub, 1, 96, 0), (96, .ireturn, 1, 97, 0), (97, .aload_n 0, 1, 98, 0), (98, .getfield 23, 3, 101, 0), (101, .invokevirtual 177, 3, 104, 0), (104, .iconst (-1), 1, 105, 0), (105, .if_icmp .ne 7, 3, 108, 112), (108, .iconst 1, 1, 109, 0), (109, .goto 4, 3, 112, 113), (112, .iconst 0, 1, 113, 0), (113, .ireturn, 1, 114, 0), (114, .aload_n 0, 1, 115, 0), (115, .getfield 23, 3, 118, 0), (118, .invokevirtual 177, 3, 121, 0), (121, .invokestatic 180, 3, 124, 0)] = true := by decide +kernel
set_option maxRecDepth 20000 in
theorem k_X9_about_1 : ckD cX9_about [(124, .ireturn, 1, 125, 0), (125, .aload_n 0, 1, 126, 0), (126, .getfield 23, 3, 129, 0), (129, .invokevirtual 177, 3, 132, 0), (132, .invokestatic 183, 3, 135, 0), (135, .ireturn, 1, 136, 0), (136, .new 109, 3, 139, 0), (139, .dup, 1, 140, 0), (140, .ldc 186, 2, 142, 0), (142, .invokespecial 113, 3, 145, 0), (145, .athrow, 1, 146, 0)] = true := by decide +kernel
def f_X9_about (a1 : Int32) (M : Mm) : Option (Option Int32) := lt1 (f_X9_needLaying M) fun o_2 => tr1 o_2 (some none) fun r_3 => if a1 = (0 : Int32) then (some (some (M.1 0 8))) else if a1 = (1 : Int32) then ((f_X2_wide 5 M).bind fun r_7 => some (some r_7)) else if a1 = (2 : Int32) then ((f_X2_high 5 M).bind fun r_10 => some (some r_10)) else if a1 = (3 : Int32) then ((f_X2_area 5 M).bind fun r_13 => some (some r_13)) else if a1 = (4 : Int32) then ((f_X2_area 5 M).bind fun r_16 => (f_X0_area M).bind fun r_18 => some (some (r_16 - r_18))) else if a1 = (5 : Int32) then ((f_X2_firstClash 5 M).bind fun r_21 => if r_21 = (-1 : Int32) then some (some (1 : Int32)) else some (some (0 : Int32))) else if a1 = (6 : Int32) then ((f_X2_firstClash 5 M).bind fun r_25 => some (some (f_X2_firstOf r_25))) else if a1 = (7 : Int32) then ((f_X2_firstClash 5 M).bind fun r_28 => some (some (f_X2_secondOf r_28))) else (some none)
set_option maxRecDepth 100000 in
set_option maxHeartbeats 4000000 in
theorem t_X9_about {E : Ev} {l : Launch} (htr : l.stackTraces = false) (a1 : Int32) (M : Mm) (r : Option Int32) (hf : f_X9_about a1 M = some r) : CX E l 7 2 12 yX9_about cX9_about 2 (some .int) [.ref (E.1 + 0), .int a1] M (r.map fun z => some (.int z)) M := by
  refine CX.of htr (by decide +kernel) (Nat.le_of_ble_eq_true rfl) ?_
  intro K hE hL hl hR0 C hr hT hRv hXv
  subst hE
  subst hl
  have C : Cx K cX9_about RX9 7 := C
  have hRc : 2 ≤ K.1.R.cells ∧ 12 ≤ K.1.R.slots := by rw [hR0]; exact ⟨Nat.le_refl _, Nat.le_refl _⟩
  show G K (0, 0) 0 [(0, .ref (K.2.1.1 + 0)), (1, .int a1)] [] M
  unfold f_X9_about at hf
  refine g_aload_n 0 C (ckD_get k_X9_about_0 0 rfl) rfl rfl ?_
  obtain ⟨o_2, hr_1, hf⟩ := lt_e hf
  cases o_2 with
  | none =>
    have hf := tr_n hf rfl
    cases hf
    exact n_cVXt [] [] C (ckD_get k_X9_about_0 1 rfl) vk_X9_164 (t_X9_needLaying C.tr _ _ hr_1) T0 rfl rfl (Nat.le_of_ble_eq_true rfl) (by decide) ⟨by decide, by decide⟩ hRc hT rfl (hXv rfl)
  | some r_3 =>
    have hf := tr_s hf rfl
    refine n_cVXr [] [] C (ckD_get k_X9_about_0 1 rfl) vk_X9_164 (t_X9_needLaying C.tr _ _ hr_1) T0 rfl rfl (Nat.le_of_ble_eq_true rfl) (by decide) ⟨by decide, by decide⟩ hRc hT rfl rfl ?_
    refine g_iload_n 1 C (ckD_get k_X9_about_0 2 rfl) rfl rfl ?_
    by_cases c_4 : a1 = (0 : Int32)
    · have hf := if_t hf c_4
      refine g_tabIn (t := 52) C (ckD_get k_X9_about_0 3 rfl) (by rw [c_4]; decide) (by rw [c_4]; decide) (by rw [c_4] <;> rfl) (by decide) ?_
      refine g_aload_n 0 C (ckD_get k_X9_about_0 4 rfl) rfl rfl ?_
      refine g_getI C (ckD_get k_X9_about_0 5 rfl) fk_X9_64 T0 rfl ?_
      cases hf
      exact g_iret C (ckD_get k_X9_about_0 6 rfl) hr (hRv _ rfl) (by decide) (by decide)
    · have hf := if_f hf c_4
      by_cases c_5 : a1 = (1 : Int32)
      · have hf := if_t hf c_5
        refine g_tabIn (t := 57) C (ckD_get k_X9_about_0 3 rfl) (by rw [c_5]; decide) (by rw [c_5]; decide) (by rw [c_5] <;> rfl) (by decide) ?_
        refine g_aload_n 0 C (ckD_get k_X9_about_0 7 rfl) rfl rfl ?_
        refine g_getR C (ckD_get k_X9_about_0 8 rfl) fk_X9_23 T0 rfl ?_
        obtain ⟨r_7, hr_6, hf⟩ := bd_e hf
        refine n_cV [] [] C (ckD_get k_X9_about_0 9 rfl) vk_X9_167 (t_X2_wide C.tr _ (Or.inl rfl) _ _ hr_6) T5 rfl rfl (Nat.le_of_ble_eq_true rfl) (by decide) ⟨Nat.le_trans (by decide) hRc.1, Nat.le_trans (by decide) hRc.2⟩ rfl ?_
        cases hf
        exact g_iret C (ckD_get k_X9_about_0 10 rfl) hr (hRv _ rfl) (by decide) (by decide)
      · have hf := if_f hf c_5
        by_cases c_8 : a1 = (2 : Int32)
        · have hf := if_t hf c_8
          refine g_tabIn (t := 65) C (ckD_get k_X9_about_0 3 rfl) (by rw [c_8]; decide) (by rw [c_8]; decide) (by rw [c_8] <;> rfl) (by decide) ?_
          refine g_aload_n 0 C (ckD_get k_X9_about_0 11 rfl) rfl rfl ?_
          refine g_getR C (ckD_get k_X9_about_0 12 rfl) fk_X9_23 T0 rfl ?_
          obtain ⟨r_10, hr_9, hf⟩ := bd_e hf
          refine n_cV [] [] C (ckD_get k_X9_about_0 13 rfl) vk_X9_170 (t_X2_high C.tr _ (Or.inl rfl) _ _ hr_9) T5 rfl rfl (Nat.le_of_ble_eq_true rfl) (by decide) ⟨Nat.le_trans (by decide) hRc.1, Nat.le_trans (by decide) hRc.2⟩ rfl ?_
          cases hf
          exact g_iret C (ckD_get k_X9_about_0 14 rfl) hr (hRv _ rfl) (by decide) (by decide)
        · have hf := if_f hf c_8
          by_cases c_11 : a1 = (3 : Int32)
          · have hf := if_t hf c_11
            refine g_tabIn (t := 73) C (ckD_get k_X9_about_0 3 rfl) (by rw [c_11]; decide) (by rw [c_11]; decide) (by rw [c_11] <;> rfl) (by decide) ?_
            refine g_aload_n 0 C (ckD_get k_X9_about_0 15 rfl) rfl rfl ?_
            refine g_getR C (ckD_get k_X9_about_0 16 rfl) fk_X9_23 T0 rfl ?_
            obtain ⟨r_13, hr_12, hf⟩ := bd_e hf
            refine n_cV [] [] C (ckD_get k_X9_about_0 17 rfl) vk_X9_173 (t_X2_area C.tr _ (Or.inl rfl) _ _ hr_12) T5 rfl rfl (Nat.le_of_ble_eq_true rfl) (by decide) ⟨Nat.le_trans (by decide) hRc.1, Nat.le_trans (by decide) hRc.2⟩ rfl ?_
            cases hf
            exact g_iret C (ckD_get k_X9_about_0 18 rfl) hr (hRv _ rfl) (by decide) (by decide)
          · have hf := if_f hf c_11
            by_cases c_14 : a1 = (4 : Int32)
            · have hf := if_t hf c_14
              refine g_tabIn (t := 81) C (ckD_get k_X9_about_0 3 rfl) (by rw [c_14]; decide) (by rw [c_14]; decide) (by rw [c_14] <;> rfl) (by decide) ?_
              refine g_aload_n 0 C (ckD_get k_X9_about_0 19 rfl) rfl rfl ?_
              refine g_getR C (ckD_get k_X9_about_0 20 rfl) fk_X9_23 T0 rfl ?_
              obtain ⟨r_16, hr_15, hf⟩ := bd_e hf
              refine n_cV [] [] C (ckD_get k_X9_about_0 21 rfl) vk_X9_173 (t_X2_area C.tr _ (Or.inl rfl) _ _ hr_15) T5 rfl rfl (Nat.le_of_ble_eq_true rfl) (by decide) ⟨Nat.le_trans (by decide) hRc.1, Nat.le_trans (by decide) hRc.2⟩ rfl ?_
              refine g_aload_n 0 C (ckD_get k_X9_about_0 22 rfl) rfl rfl ?_
              refine g_getR C (ckD_get k_X9_about_0 23 rfl) fk_X9_10 T0 rfl ?_
              obtain ⟨r_18, hr_17, hf⟩ := bd_e hf
              refine n_cV [] [.int r_16] C (ckD_get k_X9_about_0 24 rfl) vk_X9_176 (t_X0_area C.tr _ _ hr_17) T1 rfl rfl (Nat.le_of_ble_eq_true rfl) (by decide) ⟨Nat.le_trans (by decide) hRc.1, Nat.le_trans (by decide) hRc.2⟩ rfl ?_
              refine g_isub C (ckD_get k_X9_about_0 25 rfl) ?_
              cases hf
              exact g_iret C (ckD_get k_X9_about_0 26 rfl) hr (hRv _ rfl) (by decide) (by decide)
            · have hf := if_f hf c_14
              by_cases c_19 : a1 = (5 : Int32)
              · have hf := if_t hf c_19
                refine g_tabIn (t := 97) C (ckD_get k_X9_about_0 3 rfl) (by rw [c_19]; decide) (by rw [c_19]; decide) (by rw [c_19] <;> rfl) (by decide) ?_
                refine g_aload_n 0 C (ckD_get k_X9_about_0 27 rfl) rfl rfl ?_
                refine g_getR C (ckD_get k_X9_about_0 28 rfl) fk_X9_23 T0 rfl ?_
                obtain ⟨r_21, hr_20, hf⟩ := bd_e hf
                refine n_cV [] [] C (ckD_get k_X9_about_0 29 rfl) vk_X9_177 (t_X2_firstClash C.tr _ (Or.inl rfl) _ _ hr_20) T5 rfl rfl (Nat.le_of_ble_eq_true rfl) (by decide) ⟨Nat.le_trans (by decide) hRc.1, Nat.le_trans (by decide) hRc.2⟩ rfl ?_
                refine g_iconst (v := (-1 : Int32)) C (ckD_get k_X9_about_0 30 rfl) (by decide) ?_
                refine g_icmp_ne C (ckD_get k_X9_about_0 31 rfl) (fun c_22 => ?_) (fun c_22 => ?_)
                · have hf := if_f hf c_22
                  refine g_iconst (v := (0 : Int32)) C (ckD_get k_X9_about_0 34 rfl) (by decide) ?_
                  cases hf
                  exact g_iret C (ckD_get k_X9_about_0 35 rfl) hr (hRv _ rfl) (by decide) (by decide)
                · have hf := if_t hf c_22
                  refine g_iconst (v := (1 : Int32)) C (ckD_get k_X9_about_0 32 rfl) (by decide) ?_
                  refine g_goto C (ckD_get k_X9_about_0 33 rfl) ?_
                  cases hf
                  exact g_iret C (ckD_get k_X9_about_0 35 rfl) hr (hRv _ rfl) (by decide) (by decide)
              · have hf := if_f hf c_19
                by_cases c_23 : a1 = (6 : Int32)
                · have hf := if_t hf c_23
                  refine g_tabIn (t := 114) C (ckD_get k_X9_about_0 3 rfl) (by rw [c_23]; decide) (by rw [c_23]; decide) (by rw [c_23] <;> rfl) (by decide) ?_
                  refine g_aload_n 0 C (ckD_get k_X9_about_0 36 rfl) rfl rfl ?_
                  refine g_getR C (ckD_get k_X9_about_0 37 rfl) fk_X9_23 T0 rfl ?_
                  obtain ⟨r_25, hr_24, hf⟩ := bd_e hf
                  refine n_cV [] [] C (ckD_get k_X9_about_0 38 rfl) vk_X9_177 (t_X2_firstClash C.tr _ (Or.inl rfl) _ _ hr_24) T5 rfl rfl (Nat.le_of_ble_eq_true rfl) (by decide) ⟨Nat.le_trans (by decide) hRc.1, Nat.le_trans (by decide) hRc.2⟩ rfl ?_
                  refine n_cS [.int r_25] [] C (ckD_get k_X9_about_0 39 rfl) sk_X9_180 (t_X2_firstOf C.tr _ _ _ rfl) rfl rfl (Nat.le_of_ble_eq_true rfl) (by decide) ⟨Nat.le_trans (by decide) hRc.1, Nat.le_trans (by decide) hRc.2⟩ rfl ?_
                  cases hf
                  exact g_iret C (ckD_get k_X9_about_1 0 rfl) hr (hRv _ rfl) (by decide) (by decide)
                · have hf := if_f hf c_23
                  by_cases c_26 : a1 = (7 : Int32)
                  · have hf := if_t hf c_26
                    refine g_tabIn (t := 125) C (ckD_get k_X9_about_0 3 rfl) (by rw [c_26]; decide) (by rw [c_26]; decide) (by rw [c_26] <;> rfl) (by decide) ?_
                    refine g_aload_n 0 C (ckD_get k_X9_about_1 1 rfl) rfl rfl ?_
                    refine g_getR C (ckD_get k_X9_about_1 2 rfl) fk_X9_23 T0 rfl ?_
                    obtain ⟨r_28, hr_27, hf⟩ := bd_e hf
                    refine n_cV [] [] C (ckD_get k_X9_about_1 3 rfl) vk_X9_177 (t_X2_firstClash C.tr _ (Or.inl rfl) _ _ hr_27) T5 rfl rfl (Nat.le_of_ble_eq_true rfl) (by decide) ⟨Nat.le_trans (by decide) hRc.1, Nat.le_trans (by decide) hRc.2⟩ rfl ?_
                    refine n_cS [.int r_28] [] C (ckD_get k_X9_about_1 4 rfl) sk_X9_183 (t_X2_secondOf C.tr _ _ _ rfl) rfl rfl (Nat.le_of_ble_eq_true rfl) (by decide) ⟨Nat.le_trans (by decide) hRc.1, Nat.le_trans (by decide) hRc.2⟩ rfl ?_
                    cases hf
                    exact g_iret C (ckD_get k_X9_about_1 5 rfl) hr (hRv _ rfl) (by decide) (by decide)
                  · have hf := if_f hf c_26
                    have ic_4 := i32_ne (n := 0) c_4 (by decide)
                    have ic_5 := i32_ne (n := 1) c_5 (by decide)
                    have ic_8 := i32_ne (n := 2) c_8 (by decide)
                    have ic_11 := i32_ne (n := 3) c_11 (by decide)
                    have ic_14 := i32_ne (n := 4) c_14 (by decide)
                    have ic_19 := i32_ne (n := 5) c_19 (by decide)
                    have ic_23 := i32_ne (n := 6) c_23 (by decide)
                    have ic_26 := i32_ne (n := 7) c_26 (by decide)
                    refine g_tabOut (t := 136) C (ckD_get k_X9_about_0 3 rfl) (by omega) (by decide) ?_
                    cases hf
                    exact g_throw (is := 186) (text := "nothing such about a laying") C (ckD_get k_X9_about_1 6 rfl) (ckD_get k_X9_about_1 7 rfl) (ckD_get k_X9_about_1 8 rfl) (ckD_get k_X9_about_1 9 rfl) (ckD_get k_X9_about_1 10 rfl) (by decide) hT (hXv rfl) (by decide) (Nat.le_of_ble_eq_true rfl) ⟨by decide, by decide⟩ hRc

set_option maxRecDepth 20000 in
theorem k_X9_at_0 : ckD cX9_at [(0, .aload_n 0, 1, 1, 0), (1, .invokevirtual 164, 3, 4, 0), (4, .aload_n 0, 1, 5, 0), (5, .iload_n 1, 1, 6, 0), (6, .invokevirtual 92, 3, 9, 0), (9, .iload_n 2, 1, 10, 0), (10, .tableswitch 86 0 4 #[34, 44, 54, 64, 74], 34, 44, 0), (44, .aload_n 0, 1, 45, 0), (45, .getfield 23, 3, 48, 0), (48, .getfield 130, 3, 51, 0), (51, .iload_n 1, 1, 52, 0), (52, .iaload, 1, 53, 0), (53, .ireturn, 1, 54, 0), (54, .aload_n 0, 1, 55, 0), (55, .getfield 23, 3, 58, 0), (58, .getfield 133, 3, 61, 0), (61, .iload_n 1, 1, 62, 0), (62, .iaload, 1, 63, 0), (63, .ireturn, 1, 64, 0), (64, .aload_n 0, 1, 65, 0), (65, .getfield 23, 3, 68, 0), (68, .getfield 188, 3, 71, 0), (71, .iload_n 1, 1, 72, 0), (72, .iaload, 1, 73, 0), (73, .ireturn, 1, 74, 0), (74, .aload_n 0, 1, 75, 0), (75, .getfield 23, 3, 78, 0), (78, .getfield 189, 3, 81, 0), (81, .iload_n 1, 1, 82, 0), (82, .iaload, 1, 83, 0), (83, .ireturn, 1, 84, 0), (84, .aload_n 0, 1, 85, 0), (85, .getfield 23, 3, 88, 0), (88, .getfield 190, 3, 91, 0), (91, .iload_n 1, 1, 92, 0), (92, .invokestatic 105, 3, 95, 0), (95, .ireturn, 1, 96, 0), (96, .new 109, 3, 99, 0), (99, .dup, 1, 100, 0), (100, .ldc 193, 2, 102, 0)] = true := by decide +kernel
set_option maxRecDepth 20000 in
theorem k_X9_at_1 : ckD cX9_at [(102, .invokespecial 113, 3, 105, 0), (105, .athrow, 1, 106, 0)] = true := by decide +kernel
def f_X9_at (a1 : Int32) (a2 : Int32) (M : Mm) : Option (Option Int32) := lt1 (f_X9_needLaying M) fun o_2 => tr1 o_2 (some none) fun r_3 => lt1 (f_X9_needBlock a1 M) fun o_5 => tr1 o_5 (some none) fun r_6 => if a2 = (0 : Int32) then (rdI 12 M 6 a1 fun v_8 => some (some v_8)) else if a2 = (1 : Int32) then (rdI 12 M 7 a1 fun v_11 => some (some v_11)) else if a2 = (2 : Int32) then (rdI 12 M 8 a1 fun v_14 => some (some v_14)) else if a2 = (3 : Int32) then (rdI 12 M 9 a1 fun v_17 => some (some v_17)) else if a2 = (4 : Int32) then (some (some (f_X9_bitOf (M.1 5 5) a1))) else (some none)
set_option maxRecDepth 100000 in
set_option maxHeartbeats 4000000 in
theorem t_X9_at {E : Ev} {l : Launch} (htr : l.stackTraces = false) (a1 : Int32) (a2 : Int32) (M : Mm) (r : Option Int32) (hf : f_X9_at a1 a2 M = some r) : CX E l 7 3 18 yX9_at cX9_at 3 (some .int) [.ref (E.1 + 0), .int a1, .int a2] M (r.map fun z => some (.int z)) M := by
  refine CX.of htr (by decide +kernel) (Nat.le_of_ble_eq_true rfl) ?_
  intro K hE hL hl hR0 C hr hT hRv hXv
  subst hE
  subst hl
  have C : Cx K cX9_at RX9 7 := C
  have hRc : 3 ≤ K.1.R.cells ∧ 18 ≤ K.1.R.slots := by rw [hR0]; exact ⟨Nat.le_refl _, Nat.le_refl _⟩
  show G K (0, 0) 0 [(0, .ref (K.2.1.1 + 0)), (1, .int a1), (2, .int a2)] [] M
  unfold f_X9_at at hf
  refine g_aload_n 0 C (ckD_get k_X9_at_0 0 rfl) rfl rfl ?_
  obtain ⟨o_2, hr_1, hf⟩ := lt_e hf
  cases o_2 with
  | none =>
    have hf := tr_n hf rfl
    cases hf
    exact n_cVXt [] [] C (ckD_get k_X9_at_0 1 rfl) vk_X9_164 (t_X9_needLaying C.tr _ _ hr_1) T0 rfl rfl (Nat.le_of_ble_eq_true rfl) (by decide) ⟨by decide, by decide⟩ hRc hT rfl (hXv rfl)
  | some r_3 =>
    have hf := tr_s hf rfl
    refine n_cVXr [] [] C (ckD_get k_X9_at_0 1 rfl) vk_X9_164 (t_X9_needLaying C.tr _ _ hr_1) T0 rfl rfl (Nat.le_of_ble_eq_true rfl) (by decide) ⟨by decide, by decide⟩ hRc hT rfl rfl ?_
    refine g_aload_n 0 C (ckD_get k_X9_at_0 2 rfl) rfl rfl ?_
    refine g_iload_n 1 C (ckD_get k_X9_at_0 3 rfl) rfl rfl ?_
    obtain ⟨o_5, hr_4, hf⟩ := lt_e hf
    cases o_5 with
    | none =>
      have hf := tr_n hf rfl
      cases hf
      exact n_cVXt [.int a1] [] C (ckD_get k_X9_at_0 4 rfl) vk_X9_92 (t_X9_needBlock C.tr _ _ _ hr_4) T0 rfl rfl (Nat.le_of_ble_eq_true rfl) (by decide) ⟨by decide, by decide⟩ hRc hT rfl (hXv rfl)
    | some r_6 =>
      have hf := tr_s hf rfl
      refine n_cVXr [.int a1] [] C (ckD_get k_X9_at_0 4 rfl) vk_X9_92 (t_X9_needBlock C.tr _ _ _ hr_4) T0 rfl rfl (Nat.le_of_ble_eq_true rfl) (by decide) ⟨by decide, by decide⟩ hRc hT rfl rfl ?_
      refine g_iload_n 2 C (ckD_get k_X9_at_0 5 rfl) rfl rfl ?_
      by_cases c_7 : a2 = (0 : Int32)
      · have hf := if_t hf c_7
        refine g_tabIn (t := 44) C (ckD_get k_X9_at_0 6 rfl) (by rw [c_7]; decide) (by rw [c_7]; decide) (by rw [c_7] <;> rfl) (by decide) ?_
        refine g_aload_n 0 C (ckD_get k_X9_at_0 7 rfl) rfl rfl ?_
        refine g_getR C (ckD_get k_X9_at_0 8 rfl) fk_X9_23 T0 rfl ?_
        refine g_getR C (ckD_get k_X9_at_0 9 rfl) fk_X9_130 T5 rfl ?_
        refine g_iload_n 1 C (ckD_get k_X9_at_0 10 rfl) rfl rfl ?_
        obtain ⟨v_8, hi_9, ev_8, hf⟩ := rdI_e hf
        refine n_iald C (ckD_get k_X9_at_0 11 rfl) T6 hi_9 ev_8 ?_
        cases hf
        exact g_iret C (ckD_get k_X9_at_0 12 rfl) hr (hRv _ rfl) (by decide) (by decide)
      · have hf := if_f hf c_7
        by_cases c_10 : a2 = (1 : Int32)
        · have hf := if_t hf c_10
          refine g_tabIn (t := 54) C (ckD_get k_X9_at_0 6 rfl) (by rw [c_10]; decide) (by rw [c_10]; decide) (by rw [c_10] <;> rfl) (by decide) ?_
          refine g_aload_n 0 C (ckD_get k_X9_at_0 13 rfl) rfl rfl ?_
          refine g_getR C (ckD_get k_X9_at_0 14 rfl) fk_X9_23 T0 rfl ?_
          refine g_getR C (ckD_get k_X9_at_0 15 rfl) fk_X9_133 T5 rfl ?_
          refine g_iload_n 1 C (ckD_get k_X9_at_0 16 rfl) rfl rfl ?_
          obtain ⟨v_11, hi_12, ev_11, hf⟩ := rdI_e hf
          refine n_iald C (ckD_get k_X9_at_0 17 rfl) T7 hi_12 ev_11 ?_
          cases hf
          exact g_iret C (ckD_get k_X9_at_0 18 rfl) hr (hRv _ rfl) (by decide) (by decide)
        · have hf := if_f hf c_10
          by_cases c_13 : a2 = (2 : Int32)
          · have hf := if_t hf c_13
            refine g_tabIn (t := 64) C (ckD_get k_X9_at_0 6 rfl) (by rw [c_13]; decide) (by rw [c_13]; decide) (by rw [c_13] <;> rfl) (by decide) ?_
            refine g_aload_n 0 C (ckD_get k_X9_at_0 19 rfl) rfl rfl ?_
            refine g_getR C (ckD_get k_X9_at_0 20 rfl) fk_X9_23 T0 rfl ?_
            refine g_getR C (ckD_get k_X9_at_0 21 rfl) fk_X9_188 T5 rfl ?_
            refine g_iload_n 1 C (ckD_get k_X9_at_0 22 rfl) rfl rfl ?_
            obtain ⟨v_14, hi_15, ev_14, hf⟩ := rdI_e hf
            refine n_iald C (ckD_get k_X9_at_0 23 rfl) T8 hi_15 ev_14 ?_
            cases hf
            exact g_iret C (ckD_get k_X9_at_0 24 rfl) hr (hRv _ rfl) (by decide) (by decide)
          · have hf := if_f hf c_13
            by_cases c_16 : a2 = (3 : Int32)
            · have hf := if_t hf c_16
              refine g_tabIn (t := 74) C (ckD_get k_X9_at_0 6 rfl) (by rw [c_16]; decide) (by rw [c_16]; decide) (by rw [c_16] <;> rfl) (by decide) ?_
              refine g_aload_n 0 C (ckD_get k_X9_at_0 25 rfl) rfl rfl ?_
              refine g_getR C (ckD_get k_X9_at_0 26 rfl) fk_X9_23 T0 rfl ?_
              refine g_getR C (ckD_get k_X9_at_0 27 rfl) fk_X9_189 T5 rfl ?_
              refine g_iload_n 1 C (ckD_get k_X9_at_0 28 rfl) rfl rfl ?_
              obtain ⟨v_17, hi_18, ev_17, hf⟩ := rdI_e hf
              refine n_iald C (ckD_get k_X9_at_0 29 rfl) T9 hi_18 ev_17 ?_
              cases hf
              exact g_iret C (ckD_get k_X9_at_0 30 rfl) hr (hRv _ rfl) (by decide) (by decide)
            · have hf := if_f hf c_16
              by_cases c_19 : a2 = (4 : Int32)
              · have hf := if_t hf c_19
                refine g_tabIn (t := 84) C (ckD_get k_X9_at_0 6 rfl) (by rw [c_19]; decide) (by rw [c_19]; decide) (by rw [c_19] <;> rfl) (by decide) ?_
                refine g_aload_n 0 C (ckD_get k_X9_at_0 31 rfl) rfl rfl ?_
                refine g_getR C (ckD_get k_X9_at_0 32 rfl) fk_X9_23 T0 rfl ?_
                refine g_getI C (ckD_get k_X9_at_0 33 rfl) fk_X9_190 T5 rfl ?_
                refine g_iload_n 1 C (ckD_get k_X9_at_0 34 rfl) rfl rfl ?_
                refine n_cS [.int (M.1 5 5), .int a1] [] C (ckD_get k_X9_at_0 35 rfl) sk_X9_105 (t_X9_bitOf C.tr _ _ _ _ rfl) rfl rfl (Nat.le_of_ble_eq_true rfl) (by decide) ⟨Nat.le_trans (by decide) hRc.1, Nat.le_trans (by decide) hRc.2⟩ rfl ?_
                cases hf
                exact g_iret C (ckD_get k_X9_at_0 36 rfl) hr (hRv _ rfl) (by decide) (by decide)
              · have hf := if_f hf c_19
                have ic_7 := i32_ne (n := 0) c_7 (by decide)
                have ic_10 := i32_ne (n := 1) c_10 (by decide)
                have ic_13 := i32_ne (n := 2) c_13 (by decide)
                have ic_16 := i32_ne (n := 3) c_16 (by decide)
                have ic_19 := i32_ne (n := 4) c_19 (by decide)
                refine g_tabOut (t := 96) C (ckD_get k_X9_at_0 6 rfl) (by omega) (by decide) ?_
                cases hf
                exact g_throw (is := 193) (text := "nothing such of a block") C (ckD_get k_X9_at_0 37 rfl) (ckD_get k_X9_at_0 38 rfl) (ckD_get k_X9_at_0 39 rfl) (ckD_get k_X9_at_1 0 rfl) (ckD_get k_X9_at_1 1 rfl) (by decide) hT (hXv rfl) (by decide) (Nat.le_of_ble_eq_true rfl) ⟨by decide, by decide⟩ hRc

set_option maxRecDepth 20000 in
theorem k_X9_needKind_0 : ckD cX9_needKind [(0, .aload_n 0, 1, 1, 0), (1, .getfield 64, 3, 4, 0), (4, .iload_n 1, 1, 5, 0), (5, .if_icmp .eq 14, 3, 8, 19), (8, .new 109, 3, 11, 0), (11, .dup, 1, 12, 0), (12, .ldc_w 315, 3, 15, 0), (15, .invokespecial 113, 3, 18, 0), (18, .athrow, 1, 19, 0), (19, .return_, 1, 20, 0)] = true := by decide +kernel
def f_X9_needKind (a1 : Int32) (M : Mm) : Option Unit := if (M.1 0 8) = a1 then (some ()) else none
set_option maxRecDepth 100000 in
set_option maxHeartbeats 4000000 in
theorem t_X9_needKind {E : Ev} {l : Launch} (htr : l.stackTraces = false) (a1 : Int32) (M : Mm) (r : Option Unit) (hf : f_X9_needKind a1 M = r) : CX E l 6 1 6 yX9_needKind cX9_needKind 2 none [.ref (E.1 + 0), .int a1] M (r.map fun z => (none : Option Value)) M := by
  refine CX.of htr (by decide +kernel) (Nat.le_of_ble_eq_true rfl) ?_
  intro K hE hL hl hR0 C hr hT hRv hXv
  subst hE
  subst hl
  have C : Cx K cX9_needKind RX9 6 := C
  have hRc : 1 ≤ K.1.R.cells ∧ 6 ≤ K.1.R.slots := by rw [hR0]; exact ⟨Nat.le_refl _, Nat.le_refl _⟩
  show G K (0, 0) 0 [(0, .ref (K.2.1.1 + 0)), (1, .int a1)] [] M
  unfold f_X9_needKind at hf
  refine g_aload_n 0 C (ckD_get k_X9_needKind_0 0 rfl) rfl rfl ?_
  refine g_getI C (ckD_get k_X9_needKind_0 1 rfl) fk_X9_64 T0 rfl ?_
  refine g_iload_n 1 C (ckD_get k_X9_needKind_0 2 rfl) rfl rfl ?_
  refine g_icmp_eq C (ckD_get k_X9_needKind_0 3 rfl) (fun c_1 => ?_) (fun c_1 => ?_)
  · have hf := if_t hf c_1
    cases hf
    exact g_vret C (ckD_get k_X9_needKind_0 9 rfl) hr (hRv _ rfl) (by decide) (by decide)
  · have hf := if_f hf c_1
    cases hf
    exact g_throwW (is := 315) (text := "the laying is not of that kind") C (ckD_get k_X9_needKind_0 4 rfl) (ckD_get k_X9_needKind_0 5 rfl) (ckD_get k_X9_needKind_0 6 rfl) (ckD_get k_X9_needKind_0 7 rfl) (ckD_get k_X9_needKind_0 8 rfl) (by decide) hT (hXv rfl) (by decide) (Nat.le_of_ble_eq_true rfl) ⟨by decide, by decide⟩ hRc

set_option maxRecDepth 20000 in
theorem k_X9_told_0 : ckD cX9_told [(0, .iload_n 1, 1, 1, 0), (1, .tableswitch 202 0 6 #[43, 67, 91, 115, 140, 164, 188], 43, 44, 0), (44, .aload_n 0, 1, 45, 0), (45, .iconst 1, 1, 46, 0), (46, .invokevirtual 195, 3, 49, 0), (49, .aload_n 0, 1, 50, 0), (50, .getfield 30, 3, 53, 0), (53, .getfield 198, 3, 56, 0), (56, .iconst 0, 1, 57, 0), (57, .aload_n 0, 1, 58, 0), (58, .getfield 30, 3, 61, 0), (61, .getfield 201, 3, 64, 0), (64, .invokestatic 202, 3, 67, 0), (67, .lreturn, 1, 68, 0), (68, .aload_n 0, 1, 69, 0), (69, .iconst 1, 1, 70, 0), (70, .invokevirtual 195, 3, 73, 0), (73, .aload_n 0, 1, 74, 0), (74, .getfield 30, 3, 77, 0), (77, .getfield 206, 3, 80, 0), (80, .iconst 0, 1, 81, 0), (81, .aload_n 0, 1, 82, 0), (82, .getfield 30, 3, 85, 0), (85, .getfield 201, 3, 88, 0), (88, .invokestatic 202, 3, 91, 0), (91, .lreturn, 1, 92, 0), (92, .aload_n 0, 1, 93, 0), (93, .iconst 2, 1, 94, 0), (94, .invokevirtual 195, 3, 97, 0), (97, .aload_n 0, 1, 98, 0), (98, .getfield 37, 3, 101, 0), (101, .getfield 209, 3, 104, 0), (104, .iconst 0, 1, 105, 0), (105, .aload_n 0, 1, 106, 0), (106, .getfield 37, 3, 109, 0), (109, .getfield 212, 3, 112, 0), (112, .invokestatic 202, 3, 115, 0), (115, .lreturn, 1, 116, 0), (116, .aload_n 0, 1, 117, 0), (117, .iconst 2, 1, 118, 0)] = true := by decide +kernel
set_option maxRecDepth 20000 in
theorem k_X9_told_1 : ckD cX9_told [(118, .invokevirtual 195, 3, 121, 0), (121, .aload_n 0, 1, 122, 0), (122, .getfield 37, 3, 125, 0), (125, .getfield 209, 3, 128, 0), (128, .bipush 16, 2, 130, 0), (130, .aload_n 0, 1, 131, 0), (131, .getfield 37, 3, 134, 0), (134, .getfield 212, 3, 137, 0), (137, .invokestatic 202, 3, 140, 0), (140, .lreturn, 1, 141, 0), (141, .aload_n 0, 1, 142, 0), (142, .iconst 3, 1, 143, 0), (143, .invokevirtual 195, 3, 146, 0), (146, .aload_n 0, 1, 147, 0), (147, .getfield 44, 3, 150, 0), (150, .getfield 215, 3, 153, 0), (153, .iconst 0, 1, 154, 0), (154, .aload_n 0, 1, 155, 0), (155, .getfield 44, 3, 158, 0), (158, .getfield 218, 3, 161, 0), (161, .invokestatic 202, 3, 164, 0), (164, .lreturn, 1, 165, 0), (165, .aload_n 0, 1, 166, 0), (166, .iconst 3, 1, 167, 0), (167, .invokevirtual 195, 3, 170, 0), (170, .aload_n 0, 1, 171, 0), (171, .getfield 44, 3, 174, 0), (174, .getfield 219, 3, 177, 0), (177, .iconst 0, 1, 178, 0), (178, .aload_n 0, 1, 179, 0), (179, .getfield 44, 3, 182, 0), (182, .getfield 218, 3, 185, 0), (185, .invokestatic 202, 3, 188, 0), (188, .lreturn, 1, 189, 0), (189, .aload_n 0, 1, 190, 0), (190, .iconst 3, 1, 191, 0), (191, .invokevirtual 195, 3, 194, 0), (194, .aload_n 0, 1, 195, 0), (195, .getfield 44, 3, 198, 0), (198, .getfield 222, 3, 201, 0)] = true := by decide +kernel
set_option maxRecDepth 20000 in
theorem k_X9_told_2 : ckD cX9_told [(201, .i2l, 1, 202, 0), (202, .lreturn, 1, 203, 0), (203, .new 109, 3, 206, 0), (206, .dup, 1, 207, 0), (207, .ldc 225, 2, 209, 0), (209, .invokespecial 113, 3, 212, 0), (212, .athrow, 1, 213, 0)] = true := by decide +kernel
def f_X9_told (a1 : Int32) (M : Mm) : Option (Option Int64) := if a1 = (0 : Int32) then (lt1 (f_X9_needKind (1 : Int32) M) fun o_3 => tr1 o_3 (some none) fun r_4 => (f_X9_pack 12 12 (0 : Int32) (M.1 11 5) M).bind fun r_6 => some (some r_6)) else if a1 = (1 : Int32) then (lt1 (f_X9_needKind (1 : Int32) M) fun o_9 => tr1 o_9 (some none) fun r_10 => (f_X9_pack 12 13 (0 : Int32) (M.1 11 5) M).bind fun r_12 => some (some r_12)) else if a1 = (2 : Int32) then (lt1 (f_X9_needKind (2 : Int32) M) fun o_15 => tr1 o_15 (some none) fun r_16 => (f_X9_pack 23 18 (0 : Int32) (M.1 17 5) M).bind fun r_18 => some (some r_18)) else if a1 = (3 : Int32) then (lt1 (f_X9_needKind (2 : Int32) M) fun o_21 => tr1 o_21 (some none) fun r_22 => (f_X9_pack 23 18 (16 : Int32) (M.1 17 5) M).bind fun r_24 => some (some r_24)) else if a1 = (4 : Int32) then (lt1 (f_X9_needKind (3 : Int32) M) fun o_27 => tr1 o_27 (some none) fun r_28 => (f_X9_pack 12 24 (0 : Int32) (M.1 23 5) M).bind fun r_30 => some (some r_30)) else if a1 = (5 : Int32) then (lt1 (f_X9_needKind (3 : Int32) M) fun o_33 => tr1 o_33 (some none) fun r_34 => (f_X9_pack 12 25 (0 : Int32) (M.1 23 5) M).bind fun r_36 => some (some r_36)) else if a1 = (6 : Int32) then (lt1 (f_X9_needKind (3 : Int32) M) fun o_39 => tr1 o_39 (some none) fun r_40 => some (some (((M.1 23 4)).toInt64))) else (some none)
set_option maxRecDepth 100000 in
set_option maxHeartbeats 4000000 in
theorem t_X9_told {E : Ev} {l : Launch} (htr : l.stackTraces = false) (a1 : Int32) (M : Mm) (r : Option Int64) (hf : f_X9_told a1 M = some r) : CX E l 7 1 6 yX9_told cX9_told 2 (some .long) [.ref (E.1 + 0), .int a1] M (r.map fun z => some (.long z)) M := by
  refine CX.of htr (by decide +kernel) (Nat.le_of_ble_eq_true rfl) ?_
  intro K hE hL hl hR0 C hr hT hRv hXv
  subst hE
  subst hl
  have C : Cx K cX9_told RX9 7 := C
  have hRc : 1 ≤ K.1.R.cells ∧ 6 ≤ K.1.R.slots := by rw [hR0]; exact ⟨Nat.le_refl _, Nat.le_refl _⟩
  show G K (0, 0) 0 [(0, .ref (K.2.1.1 + 0)), (1, .int a1)] [] M
  unfold f_X9_told at hf
  refine g_iload_n 1 C (ckD_get k_X9_told_0 0 rfl) rfl rfl ?_
  by_cases c_1 : a1 = (0 : Int32)
  · have hf := if_t hf c_1
    refine g_tabIn (t := 44) C (ckD_get k_X9_told_0 1 rfl) (by rw [c_1]; decide) (by rw [c_1]; decide) (by rw [c_1] <;> rfl) (by decide) ?_
    refine g_aload_n 0 C (ckD_get k_X9_told_0 2 rfl) rfl rfl ?_
    refine g_iconst (v := (1 : Int32)) C (ckD_get k_X9_told_0 3 rfl) (by decide) ?_
    obtain ⟨o_3, hr_2, hf⟩ := lt_e hf
    cases o_3 with
    | none =>
      have hf := tr_n hf rfl
      cases hf
      exact n_cVXt [.int (1 : Int32)] [] C (ckD_get k_X9_told_0 4 rfl) vk_X9_195 (t_X9_needKind C.tr _ _ _ hr_2) T0 rfl rfl (Nat.le_of_ble_eq_true rfl) (by decide) ⟨by decide, by decide⟩ hRc hT rfl (hXv rfl)
    | some r_4 =>
      have hf := tr_s hf rfl
      refine n_cVXr [.int (1 : Int32)] [] C (ckD_get k_X9_told_0 4 rfl) vk_X9_195 (t_X9_needKind C.tr _ _ _ hr_2) T0 rfl rfl (Nat.le_of_ble_eq_true rfl) (by decide) ⟨by decide, by decide⟩ hRc hT rfl rfl ?_
      refine g_aload_n 0 C (ckD_get k_X9_told_0 5 rfl) rfl rfl ?_
      refine g_getR C (ckD_get k_X9_told_0 6 rfl) fk_X9_30 T0 rfl ?_
      refine g_getR C (ckD_get k_X9_told_0 7 rfl) fk_X9_198 T11 rfl ?_
      refine g_iconst (v := (0 : Int32)) C (ckD_get k_X9_told_0 8 rfl) (by decide) ?_
      refine g_aload_n 0 C (ckD_get k_X9_told_0 9 rfl) rfl rfl ?_
      refine g_getR C (ckD_get k_X9_told_0 10 rfl) fk_X9_30 T0 rfl ?_
      refine g_getI C (ckD_get k_X9_told_0 11 rfl) fk_X9_201 T11 rfl ?_
      obtain ⟨r_6, hr_5, hf⟩ := bd_e hf
      refine n_cS [.ref (K.2.1.1 + 12), .int (0 : Int32), .int (M.1 11 5)] [] C (ckD_get k_X9_told_0 12 rfl) sk_X9_202 (t_X9_pack C.tr _ _ T12 _ _ _ _ hr_5) rfl rfl (Nat.le_of_ble_eq_true rfl) (by decide) ⟨Nat.le_trans (by decide) hRc.1, Nat.le_trans (by decide) hRc.2⟩ rfl ?_
      cases hf
      exact g_lret C (ckD_get k_X9_told_0 13 rfl) hr (hRv _ rfl) (by decide) (by decide)
  · have hf := if_f hf c_1
    by_cases c_7 : a1 = (1 : Int32)
    · have hf := if_t hf c_7
      refine g_tabIn (t := 68) C (ckD_get k_X9_told_0 1 rfl) (by rw [c_7]; decide) (by rw [c_7]; decide) (by rw [c_7] <;> rfl) (by decide) ?_
      refine g_aload_n 0 C (ckD_get k_X9_told_0 14 rfl) rfl rfl ?_
      refine g_iconst (v := (1 : Int32)) C (ckD_get k_X9_told_0 15 rfl) (by decide) ?_
      obtain ⟨o_9, hr_8, hf⟩ := lt_e hf
      cases o_9 with
      | none =>
        have hf := tr_n hf rfl
        cases hf
        exact n_cVXt [.int (1 : Int32)] [] C (ckD_get k_X9_told_0 16 rfl) vk_X9_195 (t_X9_needKind C.tr _ _ _ hr_8) T0 rfl rfl (Nat.le_of_ble_eq_true rfl) (by decide) ⟨by decide, by decide⟩ hRc hT rfl (hXv rfl)
      | some r_10 =>
        have hf := tr_s hf rfl
        refine n_cVXr [.int (1 : Int32)] [] C (ckD_get k_X9_told_0 16 rfl) vk_X9_195 (t_X9_needKind C.tr _ _ _ hr_8) T0 rfl rfl (Nat.le_of_ble_eq_true rfl) (by decide) ⟨by decide, by decide⟩ hRc hT rfl rfl ?_
        refine g_aload_n 0 C (ckD_get k_X9_told_0 17 rfl) rfl rfl ?_
        refine g_getR C (ckD_get k_X9_told_0 18 rfl) fk_X9_30 T0 rfl ?_
        refine g_getR C (ckD_get k_X9_told_0 19 rfl) fk_X9_206 T11 rfl ?_
        refine g_iconst (v := (0 : Int32)) C (ckD_get k_X9_told_0 20 rfl) (by decide) ?_
        refine g_aload_n 0 C (ckD_get k_X9_told_0 21 rfl) rfl rfl ?_
        refine g_getR C (ckD_get k_X9_told_0 22 rfl) fk_X9_30 T0 rfl ?_
        refine g_getI C (ckD_get k_X9_told_0 23 rfl) fk_X9_201 T11 rfl ?_
        obtain ⟨r_12, hr_11, hf⟩ := bd_e hf
        refine n_cS [.ref (K.2.1.1 + 13), .int (0 : Int32), .int (M.1 11 5)] [] C (ckD_get k_X9_told_0 24 rfl) sk_X9_202 (t_X9_pack C.tr _ _ T13 _ _ _ _ hr_11) rfl rfl (Nat.le_of_ble_eq_true rfl) (by decide) ⟨Nat.le_trans (by decide) hRc.1, Nat.le_trans (by decide) hRc.2⟩ rfl ?_
        cases hf
        exact g_lret C (ckD_get k_X9_told_0 25 rfl) hr (hRv _ rfl) (by decide) (by decide)
    · have hf := if_f hf c_7
      by_cases c_13 : a1 = (2 : Int32)
      · have hf := if_t hf c_13
        refine g_tabIn (t := 92) C (ckD_get k_X9_told_0 1 rfl) (by rw [c_13]; decide) (by rw [c_13]; decide) (by rw [c_13] <;> rfl) (by decide) ?_
        refine g_aload_n 0 C (ckD_get k_X9_told_0 26 rfl) rfl rfl ?_
        refine g_iconst (v := (2 : Int32)) C (ckD_get k_X9_told_0 27 rfl) (by decide) ?_
        obtain ⟨o_15, hr_14, hf⟩ := lt_e hf
        cases o_15 with
        | none =>
          have hf := tr_n hf rfl
          cases hf
          exact n_cVXt [.int (2 : Int32)] [] C (ckD_get k_X9_told_0 28 rfl) vk_X9_195 (t_X9_needKind C.tr _ _ _ hr_14) T0 rfl rfl (Nat.le_of_ble_eq_true rfl) (by decide) ⟨by decide, by decide⟩ hRc hT rfl (hXv rfl)
        | some r_16 =>
          have hf := tr_s hf rfl
          refine n_cVXr [.int (2 : Int32)] [] C (ckD_get k_X9_told_0 28 rfl) vk_X9_195 (t_X9_needKind C.tr _ _ _ hr_14) T0 rfl rfl (Nat.le_of_ble_eq_true rfl) (by decide) ⟨by decide, by decide⟩ hRc hT rfl rfl ?_
          refine g_aload_n 0 C (ckD_get k_X9_told_0 29 rfl) rfl rfl ?_
          refine g_getR C (ckD_get k_X9_told_0 30 rfl) fk_X9_37 T0 rfl ?_
          refine g_getR C (ckD_get k_X9_told_0 31 rfl) fk_X9_209 T17 rfl ?_
          refine g_iconst (v := (0 : Int32)) C (ckD_get k_X9_told_0 32 rfl) (by decide) ?_
          refine g_aload_n 0 C (ckD_get k_X9_told_0 33 rfl) rfl rfl ?_
          refine g_getR C (ckD_get k_X9_told_0 34 rfl) fk_X9_37 T0 rfl ?_
          refine g_getI C (ckD_get k_X9_told_0 35 rfl) fk_X9_212 T17 rfl ?_
          obtain ⟨r_18, hr_17, hf⟩ := bd_e hf
          refine n_cS [.ref (K.2.1.1 + 18), .int (0 : Int32), .int (M.1 17 5)] [] C (ckD_get k_X9_told_0 36 rfl) sk_X9_202 (t_X9_pack C.tr _ _ T18 _ _ _ _ hr_17) rfl rfl (Nat.le_of_ble_eq_true rfl) (by decide) ⟨Nat.le_trans (by decide) hRc.1, Nat.le_trans (by decide) hRc.2⟩ rfl ?_
          cases hf
          exact g_lret C (ckD_get k_X9_told_0 37 rfl) hr (hRv _ rfl) (by decide) (by decide)
      · have hf := if_f hf c_13
        by_cases c_19 : a1 = (3 : Int32)
        · have hf := if_t hf c_19
          refine g_tabIn (t := 116) C (ckD_get k_X9_told_0 1 rfl) (by rw [c_19]; decide) (by rw [c_19]; decide) (by rw [c_19] <;> rfl) (by decide) ?_
          refine g_aload_n 0 C (ckD_get k_X9_told_0 38 rfl) rfl rfl ?_
          refine g_iconst (v := (2 : Int32)) C (ckD_get k_X9_told_0 39 rfl) (by decide) ?_
          obtain ⟨o_21, hr_20, hf⟩ := lt_e hf
          cases o_21 with
          | none =>
            have hf := tr_n hf rfl
            cases hf
            exact n_cVXt [.int (2 : Int32)] [] C (ckD_get k_X9_told_1 0 rfl) vk_X9_195 (t_X9_needKind C.tr _ _ _ hr_20) T0 rfl rfl (Nat.le_of_ble_eq_true rfl) (by decide) ⟨by decide, by decide⟩ hRc hT rfl (hXv rfl)
          | some r_22 =>
            have hf := tr_s hf rfl
            refine n_cVXr [.int (2 : Int32)] [] C (ckD_get k_X9_told_1 0 rfl) vk_X9_195 (t_X9_needKind C.tr _ _ _ hr_20) T0 rfl rfl (Nat.le_of_ble_eq_true rfl) (by decide) ⟨by decide, by decide⟩ hRc hT rfl rfl ?_
            refine g_aload_n 0 C (ckD_get k_X9_told_1 1 rfl) rfl rfl ?_
            refine g_getR C (ckD_get k_X9_told_1 2 rfl) fk_X9_37 T0 rfl ?_
            refine g_getR C (ckD_get k_X9_told_1 3 rfl) fk_X9_209 T17 rfl ?_
            refine g_bipush (v := (16 : Int32)) C (ckD_get k_X9_told_1 4 rfl) (by decide) ?_
            refine g_aload_n 0 C (ckD_get k_X9_told_1 5 rfl) rfl rfl ?_
            refine g_getR C (ckD_get k_X9_told_1 6 rfl) fk_X9_37 T0 rfl ?_
            refine g_getI C (ckD_get k_X9_told_1 7 rfl) fk_X9_212 T17 rfl ?_
            obtain ⟨r_24, hr_23, hf⟩ := bd_e hf
            refine n_cS [.ref (K.2.1.1 + 18), .int (16 : Int32), .int (M.1 17 5)] [] C (ckD_get k_X9_told_1 8 rfl) sk_X9_202 (t_X9_pack C.tr _ _ T18 _ _ _ _ hr_23) rfl rfl (Nat.le_of_ble_eq_true rfl) (by decide) ⟨Nat.le_trans (by decide) hRc.1, Nat.le_trans (by decide) hRc.2⟩ rfl ?_
            cases hf
            exact g_lret C (ckD_get k_X9_told_1 9 rfl) hr (hRv _ rfl) (by decide) (by decide)
        · have hf := if_f hf c_19
          by_cases c_25 : a1 = (4 : Int32)
          · have hf := if_t hf c_25
            refine g_tabIn (t := 141) C (ckD_get k_X9_told_0 1 rfl) (by rw [c_25]; decide) (by rw [c_25]; decide) (by rw [c_25] <;> rfl) (by decide) ?_
            refine g_aload_n 0 C (ckD_get k_X9_told_1 10 rfl) rfl rfl ?_
            refine g_iconst (v := (3 : Int32)) C (ckD_get k_X9_told_1 11 rfl) (by decide) ?_
            obtain ⟨o_27, hr_26, hf⟩ := lt_e hf
            cases o_27 with
            | none =>
              have hf := tr_n hf rfl
              cases hf
              exact n_cVXt [.int (3 : Int32)] [] C (ckD_get k_X9_told_1 12 rfl) vk_X9_195 (t_X9_needKind C.tr _ _ _ hr_26) T0 rfl rfl (Nat.le_of_ble_eq_true rfl) (by decide) ⟨by decide, by decide⟩ hRc hT rfl (hXv rfl)
            | some r_28 =>
              have hf := tr_s hf rfl
              refine n_cVXr [.int (3 : Int32)] [] C (ckD_get k_X9_told_1 12 rfl) vk_X9_195 (t_X9_needKind C.tr _ _ _ hr_26) T0 rfl rfl (Nat.le_of_ble_eq_true rfl) (by decide) ⟨by decide, by decide⟩ hRc hT rfl rfl ?_
              refine g_aload_n 0 C (ckD_get k_X9_told_1 13 rfl) rfl rfl ?_
              refine g_getR C (ckD_get k_X9_told_1 14 rfl) fk_X9_44 T0 rfl ?_
              refine g_getR C (ckD_get k_X9_told_1 15 rfl) fk_X9_215 T23 rfl ?_
              refine g_iconst (v := (0 : Int32)) C (ckD_get k_X9_told_1 16 rfl) (by decide) ?_
              refine g_aload_n 0 C (ckD_get k_X9_told_1 17 rfl) rfl rfl ?_
              refine g_getR C (ckD_get k_X9_told_1 18 rfl) fk_X9_44 T0 rfl ?_
              refine g_getI C (ckD_get k_X9_told_1 19 rfl) fk_X9_218 T23 rfl ?_
              obtain ⟨r_30, hr_29, hf⟩ := bd_e hf
              refine n_cS [.ref (K.2.1.1 + 24), .int (0 : Int32), .int (M.1 23 5)] [] C (ckD_get k_X9_told_1 20 rfl) sk_X9_202 (t_X9_pack C.tr _ _ T24 _ _ _ _ hr_29) rfl rfl (Nat.le_of_ble_eq_true rfl) (by decide) ⟨Nat.le_trans (by decide) hRc.1, Nat.le_trans (by decide) hRc.2⟩ rfl ?_
              cases hf
              exact g_lret C (ckD_get k_X9_told_1 21 rfl) hr (hRv _ rfl) (by decide) (by decide)
          · have hf := if_f hf c_25
            by_cases c_31 : a1 = (5 : Int32)
            · have hf := if_t hf c_31
              refine g_tabIn (t := 165) C (ckD_get k_X9_told_0 1 rfl) (by rw [c_31]; decide) (by rw [c_31]; decide) (by rw [c_31] <;> rfl) (by decide) ?_
              refine g_aload_n 0 C (ckD_get k_X9_told_1 22 rfl) rfl rfl ?_
              refine g_iconst (v := (3 : Int32)) C (ckD_get k_X9_told_1 23 rfl) (by decide) ?_
              obtain ⟨o_33, hr_32, hf⟩ := lt_e hf
              cases o_33 with
              | none =>
                have hf := tr_n hf rfl
                cases hf
                exact n_cVXt [.int (3 : Int32)] [] C (ckD_get k_X9_told_1 24 rfl) vk_X9_195 (t_X9_needKind C.tr _ _ _ hr_32) T0 rfl rfl (Nat.le_of_ble_eq_true rfl) (by decide) ⟨by decide, by decide⟩ hRc hT rfl (hXv rfl)
              | some r_34 =>
                have hf := tr_s hf rfl
                refine n_cVXr [.int (3 : Int32)] [] C (ckD_get k_X9_told_1 24 rfl) vk_X9_195 (t_X9_needKind C.tr _ _ _ hr_32) T0 rfl rfl (Nat.le_of_ble_eq_true rfl) (by decide) ⟨by decide, by decide⟩ hRc hT rfl rfl ?_
                refine g_aload_n 0 C (ckD_get k_X9_told_1 25 rfl) rfl rfl ?_
                refine g_getR C (ckD_get k_X9_told_1 26 rfl) fk_X9_44 T0 rfl ?_
                refine g_getR C (ckD_get k_X9_told_1 27 rfl) fk_X9_219 T23 rfl ?_
                refine g_iconst (v := (0 : Int32)) C (ckD_get k_X9_told_1 28 rfl) (by decide) ?_
                refine g_aload_n 0 C (ckD_get k_X9_told_1 29 rfl) rfl rfl ?_
                refine g_getR C (ckD_get k_X9_told_1 30 rfl) fk_X9_44 T0 rfl ?_
                refine g_getI C (ckD_get k_X9_told_1 31 rfl) fk_X9_218 T23 rfl ?_
                obtain ⟨r_36, hr_35, hf⟩ := bd_e hf
                refine n_cS [.ref (K.2.1.1 + 25), .int (0 : Int32), .int (M.1 23 5)] [] C (ckD_get k_X9_told_1 32 rfl) sk_X9_202 (t_X9_pack C.tr _ _ T25 _ _ _ _ hr_35) rfl rfl (Nat.le_of_ble_eq_true rfl) (by decide) ⟨Nat.le_trans (by decide) hRc.1, Nat.le_trans (by decide) hRc.2⟩ rfl ?_
                cases hf
                exact g_lret C (ckD_get k_X9_told_1 33 rfl) hr (hRv _ rfl) (by decide) (by decide)
            · have hf := if_f hf c_31
              by_cases c_37 : a1 = (6 : Int32)
              · have hf := if_t hf c_37
                refine g_tabIn (t := 189) C (ckD_get k_X9_told_0 1 rfl) (by rw [c_37]; decide) (by rw [c_37]; decide) (by rw [c_37] <;> rfl) (by decide) ?_
                refine g_aload_n 0 C (ckD_get k_X9_told_1 34 rfl) rfl rfl ?_
                refine g_iconst (v := (3 : Int32)) C (ckD_get k_X9_told_1 35 rfl) (by decide) ?_
                obtain ⟨o_39, hr_38, hf⟩ := lt_e hf
                cases o_39 with
                | none =>
                  have hf := tr_n hf rfl
                  cases hf
                  exact n_cVXt [.int (3 : Int32)] [] C (ckD_get k_X9_told_1 36 rfl) vk_X9_195 (t_X9_needKind C.tr _ _ _ hr_38) T0 rfl rfl (Nat.le_of_ble_eq_true rfl) (by decide) ⟨by decide, by decide⟩ hRc hT rfl (hXv rfl)
                | some r_40 =>
                  have hf := tr_s hf rfl
                  refine n_cVXr [.int (3 : Int32)] [] C (ckD_get k_X9_told_1 36 rfl) vk_X9_195 (t_X9_needKind C.tr _ _ _ hr_38) T0 rfl rfl (Nat.le_of_ble_eq_true rfl) (by decide) ⟨by decide, by decide⟩ hRc hT rfl rfl ?_
                  refine g_aload_n 0 C (ckD_get k_X9_told_1 37 rfl) rfl rfl ?_
                  refine g_getR C (ckD_get k_X9_told_1 38 rfl) fk_X9_44 T0 rfl ?_
                  refine g_getI C (ckD_get k_X9_told_1 39 rfl) fk_X9_222 T23 rfl ?_
                  refine g_i2l C (ckD_get k_X9_told_2 0 rfl) ?_
                  cases hf
                  exact g_lret C (ckD_get k_X9_told_2 1 rfl) hr (hRv _ rfl) (by decide) (by decide)
              · have hf := if_f hf c_37
                have ic_1 := i32_ne (n := 0) c_1 (by decide)
                have ic_7 := i32_ne (n := 1) c_7 (by decide)
                have ic_13 := i32_ne (n := 2) c_13 (by decide)
                have ic_19 := i32_ne (n := 3) c_19 (by decide)
                have ic_25 := i32_ne (n := 4) c_25 (by decide)
                have ic_31 := i32_ne (n := 5) c_31 (by decide)
                have ic_37 := i32_ne (n := 6) c_37 (by decide)
                refine g_tabOut (t := 203) C (ckD_get k_X9_told_0 1 rfl) (by omega) (by decide) ?_
                cases hf
                exact g_throw (is := 225) (text := "nothing such is told") C (ckD_get k_X9_told_2 2 rfl) (ckD_get k_X9_told_2 3 rfl) (ckD_get k_X9_told_2 4 rfl) (ckD_get k_X9_told_2 5 rfl) (ckD_get k_X9_told_2 6 rfl) (by decide) hT (hXv rfl) (by decide) (Nat.le_of_ble_eq_true rfl) ⟨by decide, by decide⟩ hRc

set_option maxRecDepth 20000 in
theorem k_X9_slack_0 : ckD cX9_slack [(0, .aload_n 0, 1, 1, 0), (1, .iconst 1, 1, 2, 0), (2, .invokevirtual 195, 3, 5, 0), (5, .aload_n 0, 1, 6, 0), (6, .iload_n 1, 1, 7, 0), (7, .invokevirtual 92, 3, 10, 0), (10, .iload_n 2, 1, 11, 0), (11, .lookupswitch 51 #[(0, 25), (1, 38)], 25, 36, 0), (36, .aload_n 0, 1, 37, 0), (37, .getfield 30, 3, 40, 0), (40, .aload_n 0, 1, 41, 0), (41, .getfield 23, 3, 44, 0), (44, .iload_n 1, 1, 45, 0), (45, .invokevirtual 227, 3, 48, 0), (48, .ireturn, 1, 49, 0), (49, .aload_n 0, 1, 50, 0), (50, .getfield 30, 3, 53, 0), (53, .aload_n 0, 1, 54, 0), (54, .getfield 23, 3, 57, 0), (57, .iload_n 1, 1, 58, 0), (58, .invokevirtual 231, 3, 61, 0), (61, .ireturn, 1, 62, 0), (62, .new 109, 3, 65, 0), (65, .dup, 1, 66, 0), (66, .ldc 234, 2, 68, 0), (68, .invokespecial 113, 3, 71, 0), (71, .athrow, 1, 72, 0)] = true := by decide +kernel
def f_X9_slack (a1 : Int32) (a2 : Int32) (M : Mm) : Option ((Option Int32) × Mm) := lt1 (f_X9_needKind (1 : Int32) M) fun o_2 => tr1 o_2 (some (none, M)) fun r_3 => lt1 (f_X9_needBlock a1 M) fun o_5 => tr1 o_5 (some (none, M)) fun r_6 => if a2 = (0 : Int32) then (bd2 (f_X4_roomRight 11 5 a1 M) fun r_10 M_9 => some ((some r_10), M_9)) else if a2 = (1 : Int32) then (bd2 (f_X4_roomUp 11 5 a1 M) fun r_14 M_13 => some ((some r_14), M_13)) else (some (none, M))
set_option maxRecDepth 100000 in
set_option maxHeartbeats 4000000 in
theorem t_X9_slack {E : Ev} {l : Launch} (htr : l.stackTraces = false) (a1 : Int32) (a2 : Int32) (M : Mm) (r : ((Option Int32) × Mm)) (hf : f_X9_slack a1 a2 M = some r) : CX E l 7 3 18 yX9_slack cX9_slack 3 (some .int) [.ref (E.1 + 0), .int a1, .int a2] M (r.1.map fun z => some (.int z)) r.2 := by
  refine CX.of htr (by decide +kernel) (Nat.le_of_ble_eq_true rfl) ?_
  intro K hE hL hl hR0 C hr hT hRv hXv
  subst hE
  subst hl
  have C : Cx K cX9_slack RX9 7 := C
  have hRc : 3 ≤ K.1.R.cells ∧ 18 ≤ K.1.R.slots := by rw [hR0]; exact ⟨Nat.le_refl _, Nat.le_refl _⟩
  show G K (0, 0) 0 [(0, .ref (K.2.1.1 + 0)), (1, .int a1), (2, .int a2)] [] M
  unfold f_X9_slack at hf
  refine g_aload_n 0 C (ckD_get k_X9_slack_0 0 rfl) rfl rfl ?_
  refine g_iconst (v := (1 : Int32)) C (ckD_get k_X9_slack_0 1 rfl) (by decide) ?_
  obtain ⟨o_2, hr_1, hf⟩ := lt_e hf
  cases o_2 with
  | none =>
    have hf := tr_n hf rfl
    cases hf
    exact n_cVXt [.int (1 : Int32)] [] C (ckD_get k_X9_slack_0 2 rfl) vk_X9_195 (t_X9_needKind C.tr _ _ _ hr_1) T0 rfl rfl (Nat.le_of_ble_eq_true rfl) (by decide) ⟨by decide, by decide⟩ hRc hT rfl (hXv rfl)
  | some r_3 =>
    have hf := tr_s hf rfl
    refine n_cVXr [.int (1 : Int32)] [] C (ckD_get k_X9_slack_0 2 rfl) vk_X9_195 (t_X9_needKind C.tr _ _ _ hr_1) T0 rfl rfl (Nat.le_of_ble_eq_true rfl) (by decide) ⟨by decide, by decide⟩ hRc hT rfl rfl ?_
    refine g_aload_n 0 C (ckD_get k_X9_slack_0 3 rfl) rfl rfl ?_
    refine g_iload_n 1 C (ckD_get k_X9_slack_0 4 rfl) rfl rfl ?_
    obtain ⟨o_5, hr_4, hf⟩ := lt_e hf
    cases o_5 with
    | none =>
      have hf := tr_n hf rfl
      cases hf
      exact n_cVXt [.int a1] [] C (ckD_get k_X9_slack_0 5 rfl) vk_X9_92 (t_X9_needBlock C.tr _ _ _ hr_4) T0 rfl rfl (Nat.le_of_ble_eq_true rfl) (by decide) ⟨by decide, by decide⟩ hRc hT rfl (hXv rfl)
    | some r_6 =>
      have hf := tr_s hf rfl
      refine n_cVXr [.int a1] [] C (ckD_get k_X9_slack_0 5 rfl) vk_X9_92 (t_X9_needBlock C.tr _ _ _ hr_4) T0 rfl rfl (Nat.le_of_ble_eq_true rfl) (by decide) ⟨by decide, by decide⟩ hRc hT rfl rfl ?_
      refine g_iload_n 2 C (ckD_get k_X9_slack_0 6 rfl) rfl rfl ?_
      by_cases c_7 : a2 = (0 : Int32)
      · have hf := if_t hf c_7
        refine g_look (t := 36) C (ckD_get k_X9_slack_0 7 rfl) (by decide) (by rw [c_7] <;> rfl) (by decide) ?_
        refine g_aload_n 0 C (ckD_get k_X9_slack_0 8 rfl) rfl rfl ?_
        refine g_getR C (ckD_get k_X9_slack_0 9 rfl) fk_X9_30 T0 rfl ?_
        refine g_aload_n 0 C (ckD_get k_X9_slack_0 10 rfl) rfl rfl ?_
        refine g_getR C (ckD_get k_X9_slack_0 11 rfl) fk_X9_23 T0 rfl ?_
        refine g_iload_n 1 C (ckD_get k_X9_slack_0 12 rfl) rfl rfl ?_
        obtain ⟨r_10, M_9, hr_8, hf⟩ := bd2_e hf
        refine n_cV [.ref (K.2.1.1 + 5), .int a1] [] C (ckD_get k_X9_slack_0 13 rfl) vk_X9_227 (t_X4_roomRight C.tr _ (Or.inl rfl) _ (Or.inl rfl) _ _ _ hr_8) T11 rfl rfl (Nat.le_of_ble_eq_true rfl) (by decide) ⟨Nat.le_trans (by decide) hRc.1, Nat.le_trans (by decide) hRc.2⟩ rfl ?_
        cases hf
        exact g_iret C (ckD_get k_X9_slack_0 14 rfl) hr (hRv _ rfl) (by decide) (by decide)
      · have hf := if_f hf c_7
        by_cases c_11 : a2 = (1 : Int32)
        · have hf := if_t hf c_11
          refine g_look (t := 49) C (ckD_get k_X9_slack_0 7 rfl) (by decide) (by rw [c_11] <;> rfl) (by decide) ?_
          refine g_aload_n 0 C (ckD_get k_X9_slack_0 15 rfl) rfl rfl ?_
          refine g_getR C (ckD_get k_X9_slack_0 16 rfl) fk_X9_30 T0 rfl ?_
          refine g_aload_n 0 C (ckD_get k_X9_slack_0 17 rfl) rfl rfl ?_
          refine g_getR C (ckD_get k_X9_slack_0 18 rfl) fk_X9_23 T0 rfl ?_
          refine g_iload_n 1 C (ckD_get k_X9_slack_0 19 rfl) rfl rfl ?_
          obtain ⟨r_14, M_13, hr_12, hf⟩ := bd2_e hf
          refine n_cV [.ref (K.2.1.1 + 5), .int a1] [] C (ckD_get k_X9_slack_0 20 rfl) vk_X9_231 (t_X4_roomUp C.tr _ (Or.inl rfl) _ (Or.inl rfl) _ _ _ hr_12) T11 rfl rfl (Nat.le_of_ble_eq_true rfl) (by decide) ⟨Nat.le_trans (by decide) hRc.1, Nat.le_trans (by decide) hRc.2⟩ rfl ?_
          cases hf
          exact g_iret C (ckD_get k_X9_slack_0 21 rfl) hr (hRv _ rfl) (by decide) (by decide)
        · have hf := if_f hf c_11
          have ic_7 := i32_ne (n := 0) c_7 (by decide)
          have ic_11 := i32_ne (n := 1) c_11 (by decide)
          refine g_look (t := 62) (off := 51) C (ckD_get k_X9_slack_0 7 rfl) (by decide) (by simp [Op.lookupswitch.offset, (Ne.symm ic_7), (Ne.symm ic_11), ic_7, ic_11]) (by decide) ?_
          cases hf
          exact g_throw (is := 234) (text := "no such way to slide") C (ckD_get k_X9_slack_0 22 rfl) (ckD_get k_X9_slack_0 23 rfl) (ckD_get k_X9_slack_0 24 rfl) (ckD_get k_X9_slack_0 25 rfl) (ckD_get k_X9_slack_0 26 rfl) (by decide) hT (hXv rfl) (by decide) (Nat.le_of_ble_eq_true rfl) ⟨by decide, by decide⟩ hRc

set_option maxRecDepth 20000 in
theorem k_X9_wires_0 : ckD cX9_wires [(0, .aload_n 0, 1, 1, 0), (1, .invokevirtual 164, 3, 4, 0), (4, .iconst 0, 1, 5, 0), (5, .istore_n 1, 1, 6, 0), (6, .iconst 0, 1, 7, 0), (7, .istore_n 2, 1, 8, 0), (8, .iload_n 2, 1, 9, 0), (9, .bipush 20, 2, 11, 0), (11, .if_icmp .ge 25, 3, 14, 36), (14, .iload_n 1, 1, 15, 0), (15, .aload_n 0, 1, 16, 0), (16, .getfield 23, 3, 19, 0), (19, .aload_n 0, 1, 20, 0), (20, .getfield 16, 3, 23, 0), (23, .iload_n 2, 1, 24, 0), (24, .iaload, 1, 25, 0), (25, .invokevirtual 236, 3, 28, 0), (28, .iadd, 1, 29, 0), (29, .istore_n 1, 1, 30, 0), (30, .iinc 2 1, 3, 33, 0), (33, .goto (-25), 3, 36, 8), (36, .iload_n 1, 1, 37, 0), (37, .ireturn, 1, 38, 0)] = true := by decide +kernel
def f_X9_wires_A8 (x1_6 : Int32) : Option (Option Int32) := some (some x1_6)
def f_X9_wires_L8 (M : Mm) (x1_4 : Int32) (x2_5 : Int32) : Option ((Int32 × Int32) ⊕ Int32) := if (20 : Int32) ≤ x2_5 then some (.inr x1_4) else rdI 20 M 4 x2_5 fun v_8 => (f_X2_boxAround 5 v_8 M).bind fun r_11 => lt1 (x1_4 + r_11) fun x1_12 => lt1 (x2_5 + 1) fun x2_13 => some (.inl (x1_12, x2_13))
def f_X9_wires  (M : Mm) : Option (Option Int32) := lt1 (f_X9_needLaying M) fun o_2 => tr1 o_2 (some none) fun r_3 => (loop (fun v => f_X9_wires_L8 M v.1 v.2) FU ((0 : Int32), (0 : Int32))).bind fun z => f_X9_wires_A8 z
set_option maxRecDepth 100000 in
set_option maxHeartbeats 4000000 in
theorem t_X9_wires {E : Ev} {l : Launch} (htr : l.stackTraces = false) (M : Mm) (r : Option Int32) (hf : f_X9_wires M = some r) : CX E l 7 1 6 yX9_wires cX9_wires 3 (some .int) [.ref (E.1 + 0)] M (r.map fun z => some (.int z)) M := by
  refine CX.of htr (by decide +kernel) (Nat.le_of_ble_eq_true rfl) ?_
  intro K hE hL hl hR0 C hr hT hRv hXv
  subst hE
  subst hl
  have C : Cx K cX9_wires RX9 7 := C
  have hRc : 1 ≤ K.1.R.cells ∧ 6 ≤ K.1.R.slots := by rw [hR0]; exact ⟨Nat.le_refl _, Nat.le_refl _⟩
  have hL1 : 1 < K.2.2.1 := by rw [hL]; decide
  have hL2 : 2 < K.2.2.1 := by rw [hL]; decide
  show G K (0, 0) 0 [(0, .ref (K.2.1.1 + 0))] [] M
  unfold f_X9_wires at hf
  refine g_aload_n 0 C (ckD_get k_X9_wires_0 0 rfl) rfl rfl ?_
  obtain ⟨o_2, hr_1, hf⟩ := lt_e hf
  cases o_2 with
  | none =>
    have hf := tr_n hf rfl
    cases hf
    exact n_cVXt [] [] C (ckD_get k_X9_wires_0 1 rfl) vk_X9_164 (t_X9_needLaying C.tr _ _ hr_1) T0 rfl rfl (Nat.le_of_ble_eq_true rfl) (by decide) ⟨by decide, by decide⟩ hRc hT rfl (hXv rfl)
  | some r_3 =>
    have hf := tr_s hf rfl
    refine n_cVXr [] [] C (ckD_get k_X9_wires_0 1 rfl) vk_X9_164 (t_X9_needLaying C.tr _ _ hr_1) T0 rfl rfl (Nat.le_of_ble_eq_true rfl) (by decide) ⟨by decide, by decide⟩ hRc hT rfl rfl ?_
    refine g_iconst (v := (0 : Int32)) C (ckD_get k_X9_wires_0 2 rfl) (by decide) ?_
    refine g_istore_n (lv' := [(1, _), (0, _)]) C (ckD_get k_X9_wires_0 3 rfl) rfl hL1 rfl ?_
    refine g_iconst (v := (0 : Int32)) C (ckD_get k_X9_wires_0 4 rfl) (by decide) ?_
    refine g_istore_n (lv' := [(2, _), (1, _), (0, _)]) C (ckD_get k_X9_wires_0 5 rfl) rfl hL2 rfl ?_
    refine G.sub [2, 1, 0] rfl ?_
    obtain ⟨x1_6, hx_8, hf⟩ := bd_e hf
    have hE_8 : G K (1, 6) 36 [(1, .int x1_6)] [] M := by
      have hf : f_X9_wires_A8 x1_6 = some r := hf
      unfold f_X9_wires_A8 at hf
      refine g_iload_n 0 C (ckD_get k_X9_wires_0 21 rfl) rfl rfl ?_
      cases hf
      exact g_iret C (ckD_get k_X9_wires_0 22 rfl) hr (hRv _ rfl) (by decide) (by decide)
    refine loop_e (x := x1_6) (P := fun (v : (Int32 × Int32)) => G K (1, 6) 8 [(0, .ref (K.2.1.1 + 0)), (1, .int v.1), (2, .int v.2)] [] M) ?_ FU _ hx_8
    intro v rr_8 hf hn_8 hz_8
    obtain ⟨x1_4, x2_5⟩ := v
    have hf : f_X9_wires_L8 M x1_4 x2_5 = some rr_8 := hf
    show G K (1, 6) 8 [(0, .ref (K.2.1.1 + 0)), (1, .int x1_4), (2, .int x2_5)] [] M
    unfold f_X9_wires_L8 at hf
    refine g_iload_n 2 C (ckD_get k_X9_wires_0 6 rfl) rfl rfl ?_
    refine g_bipush (v := (20 : Int32)) C (ckD_get k_X9_wires_0 7 rfl) (by decide) ?_
    refine g_icmp_ge C (ckD_get k_X9_wires_0 8 rfl) (fun c_7 => ?_) (fun c_7 => ?_)
    · have hf := if_t hf c_7
      refine G.sub [1] rfl ?_
      cases hf
      cases hz_8 _ rfl
      exact hE_8
    · have hf := if_f hf c_7
      refine g_iload_n 1 C (ckD_get k_X9_wires_0 9 rfl) rfl rfl ?_
      refine g_aload_n 0 C (ckD_get k_X9_wires_0 10 rfl) rfl rfl ?_
      refine g_getR C (ckD_get k_X9_wires_0 11 rfl) fk_X9_23 T0 rfl ?_
      refine g_aload_n 0 C (ckD_get k_X9_wires_0 12 rfl) rfl rfl ?_
      refine g_getR C (ckD_get k_X9_wires_0 13 rfl) fk_X9_16 T0 rfl ?_
      refine g_iload_n 2 C (ckD_get k_X9_wires_0 14 rfl) rfl rfl ?_
      obtain ⟨v_8, hi_9, ev_8, hf⟩ := rdI_e hf
      refine n_iald C (ckD_get k_X9_wires_0 15 rfl) T4 hi_9 ev_8 ?_
      obtain ⟨r_11, hr_10, hf⟩ := bd_e hf
      refine n_cV [.int v_8] [.int x1_4] C (ckD_get k_X9_wires_0 16 rfl) vk_X9_236 (t_X2_boxAround C.tr _ (Or.inl rfl) _ _ _ hr_10) T5 rfl rfl (Nat.le_of_ble_eq_true rfl) (by decide) ⟨Nat.le_trans (by decide) hRc.1, Nat.le_trans (by decide) hRc.2⟩ rfl ?_
      refine g_iadd C (ckD_get k_X9_wires_0 17 rfl) ?_
      obtain ⟨x1_12, ex1_12, hf⟩ := lt_e hf
      refine topI ex1_12 ?_
      refine g_istore_n (lv' := [(1, _), (0, _), (2, _)]) C (ckD_get k_X9_wires_0 18 rfl) rfl hL1 rfl ?_
      obtain ⟨x2_13, ex2_13, hf⟩ := lt_e hf
      refine g_iinc (lv' := [(2, _), (1, _), (0, _)]) 2 C (ckD_get k_X9_wires_0 19 rfl) rfl ex2_13 hL2 rfl ?_
      refine g_goto C (ckD_get k_X9_wires_0 20 rfl) ?_
      refine G.sub [2, 1, 0] rfl ?_
      cases hf
      exact hn_8 _ rfl

set_option maxRecDepth 20000 in
theorem k_X9_from_0 : ckD cX9_from [(0, .aload_n 0, 1, 1, 0), (1, .getfield 64, 3, 4, 0), (4, .iconst (-1), 1, 5, 0), (5, .if_icmp .eq 14, 3, 8, 19), (8, .aload_n 0, 1, 9, 0), (9, .getfield 23, 3, 12, 0), (12, .invokevirtual 177, 3, 15, 0), (15, .iconst (-1), 1, 16, 0), (16, .if_icmp .eq 5, 3, 19, 21), (19, .iconst 0, 1, 20, 0), (20, .ireturn, 1, 21, 0), (21, .aload_n 0, 1, 22, 0), (22, .getfield 30, 3, 25, 0), (25, .aload_n 0, 1, 26, 0), (26, .getfield 23, 3, 29, 0), (29, .invokevirtual 239, 3, 32, 0), (32, .aload_n 0, 1, 33, 0), (33, .aload_n 0, 1, 34, 0), (34, .getfield 30, 3, 37, 0), (37, .iconst 1, 1, 38, 0), (38, .aload_n 0, 1, 39, 0), (39, .getfield 23, 3, 42, 0), (42, .getfield 190, 3, 45, 0), (45, .invokevirtual 148, 3, 48, 0), (48, .iconst 1, 1, 49, 0), (49, .ireturn, 1, 50, 0)] = true := by decide +kernel
def f_X9_from  (M : Mm) : Option (Int32 × Mm) := if (M.1 0 8) = (-1 : Int32) then some ((0 : Int32), M) else (f_X2_firstClash 5 M).bind fun r_3 => if r_3 = (-1 : Int32) then (f_X4_readPlaces 11 5 M).bind fun M_6 => (f_X9_layOut 11 (1 : Int32) (M_6.1 5 5) M_6).bind fun M_8 => some ((1 : Int32), M_8) else some ((0 : Int32), M)
set_option maxRecDepth 100000 in
set_option maxHeartbeats 4000000 in
theorem t_X9_from {E : Ev} {l : Launch} (htr : l.stackTraces = false) (M : Mm) (r : (Int32 × Mm)) (hf : f_X9_from M = some r) : CM E l 5 0 0 yX9_from cX9_from 1 (some .boolean) [.ref (E.1 + 0)] M (some (.int r.1)) r.2 := by
  refine CM.of htr (by decide +kernel) (Nat.le_of_ble_eq_true rfl) ?_
  intro K hE hL hl hR0 C hr hRv
  subst hE
  subst hl
  have C : Cx K cX9_from RX9 5 := C
  have hB : (0 : Nat) ≤ K.1.R.cells ∧ 0 ≤ K.1.R.slots := ⟨Nat.zero_le _, Nat.zero_le _⟩
  show G K (0, 0) 0 [(0, .ref (K.2.1.1 + 0))] [] M
  unfold f_X9_from at hf
  refine g_aload_n 0 C (ckD_get k_X9_from_0 0 rfl) rfl rfl ?_
  refine g_getI C (ckD_get k_X9_from_0 1 rfl) fk_X9_64 T0 rfl ?_
  refine g_iconst (v := (-1 : Int32)) C (ckD_get k_X9_from_0 2 rfl) (by decide) ?_
  refine g_icmp_eq C (ckD_get k_X9_from_0 3 rfl) (fun c_1 => ?_) (fun c_1 => ?_)
  · have hf := if_t hf c_1
    refine g_iconst (v := (0 : Int32)) C (ckD_get k_X9_from_0 9 rfl) (by decide) ?_
    cases hf
    exact g_zret C (ckD_get k_X9_from_0 10 rfl) hr rfl hRv (Nat.le_refl _) (Nat.le_refl _)
  · have hf := if_f hf c_1
    refine g_aload_n 0 C (ckD_get k_X9_from_0 4 rfl) rfl rfl ?_
    refine g_getR C (ckD_get k_X9_from_0 5 rfl) fk_X9_23 T0 rfl ?_
    obtain ⟨r_3, hr_2, hf⟩ := bd_e hf
    refine n_cV [] [] C (ckD_get k_X9_from_0 6 rfl) vk_X9_177 (t_X2_firstClash C.tr _ (Or.inl rfl) _ _ hr_2) T5 rfl rfl (Nat.le_of_ble_eq_true rfl) (by decide) hB rfl ?_
    refine g_iconst (v := (-1 : Int32)) C (ckD_get k_X9_from_0 7 rfl) (by decide) ?_
    refine g_icmp_eq C (ckD_get k_X9_from_0 8 rfl) (fun c_4 => ?_) (fun c_4 => ?_)
    · have hf := if_t hf c_4
      refine g_aload_n 0 C (ckD_get k_X9_from_0 11 rfl) rfl rfl ?_
      refine g_getR C (ckD_get k_X9_from_0 12 rfl) fk_X9_30 T0 rfl ?_
      refine g_aload_n 0 C (ckD_get k_X9_from_0 13 rfl) rfl rfl ?_
      refine g_getR C (ckD_get k_X9_from_0 14 rfl) fk_X9_23 T0 rfl ?_
      obtain ⟨M_6, hr_5, hf⟩ := bd_e hf
      refine n_cV [.ref (K.2.1.1 + 5)] [] C (ckD_get k_X9_from_0 15 rfl) vk_X9_239 (t_X4_readPlaces C.tr _ (Or.inl rfl) _ (Or.inl rfl) _ _ hr_5) T11 rfl rfl (Nat.le_of_ble_eq_true rfl) (by decide) hB rfl ?_
      refine g_aload_n 0 C (ckD_get k_X9_from_0 16 rfl) rfl rfl ?_
      refine g_aload_n 0 C (ckD_get k_X9_from_0 17 rfl) rfl rfl ?_
      refine g_getR C (ckD_get k_X9_from_0 18 rfl) fk_X9_30 T0 rfl ?_
      refine g_iconst (v := (1 : Int32)) C (ckD_get k_X9_from_0 19 rfl) (by decide) ?_
      refine g_aload_n 0 C (ckD_get k_X9_from_0 20 rfl) rfl rfl ?_
      refine g_getR C (ckD_get k_X9_from_0 21 rfl) fk_X9_23 T0 rfl ?_
      refine g_getI C (ckD_get k_X9_from_0 22 rfl) fk_X9_190 T5 rfl ?_
      obtain ⟨M_8, hr_7, hf⟩ := bd_e hf
      refine n_cV [.ref (K.2.1.1 + 11), .int (1 : Int32), .int (M_6.1 5 5)] [] C (ckD_get k_X9_from_0 23 rfl) vk_X9_148 (t_X9_layOut C.tr _ _ _ _ _ hr_7) T0 rfl rfl (Nat.le_of_ble_eq_true rfl) (by decide) hB rfl ?_
      refine g_iconst (v := (1 : Int32)) C (ckD_get k_X9_from_0 24 rfl) (by decide) ?_
      cases hf
      exact g_zret C (ckD_get k_X9_from_0 25 rfl) hr rfl hRv (Nat.le_refl _) (Nat.le_refl _)
    · have hf := if_f hf c_4
      refine g_iconst (v := (0 : Int32)) C (ckD_get k_X9_from_0 9 rfl) (by decide) ?_
      cases hf
      exact g_zret C (ckD_get k_X9_from_0 10 rfl) hr rfl hRv (Nat.le_refl _) (Nat.le_refl _)

set_option maxRecDepth 20000 in
theorem k_X9_isCut_0 : ckD cX9_isCut [(0, .aload_n 0, 1, 1, 0), (1, .invokevirtual 164, 3, 4, 0), (4, .aload_n 0, 1, 5, 0), (5, .getfield 23, 3, 8, 0), (8, .invokevirtual 177, 3, 11, 0), (11, .iconst (-1), 1, 12, 0), (12, .if_icmp .ne 17, 3, 15, 29), (15, .aload_n 0, 1, 16, 0), (16, .getfield 23, 3, 19, 0), (19, .invokevirtual 243, 3, 22, 0), (22, .ifCond .eq 7, 3, 25, 29), (25, .iconst 1, 1, 26, 0), (26, .goto 4, 3, 29, 30), (29, .iconst 0, 1, 30, 0), (30, .ireturn, 1, 31, 0)] = true := by decide +kernel
def f_X9_isCut  (M : Mm) : Option ((Option Int32) × Mm) := lt1 (f_X9_needLaying M) fun o_2 => tr1 o_2 (some (none, M)) fun r_3 => (f_X2_firstClash 5 M).bind fun r_5 => if r_5 = (-1 : Int32) then bd2 (f_X2_canBeParted 5 M) fun r_9 M_8 => if r_9 = 0 then some ((some (0 : Int32)), M_8) else some ((some (1 : Int32)), M_8) else some ((some (0 : Int32)), M)
set_option maxRecDepth 100000 in
set_option maxHeartbeats 4000000 in
theorem t_X9_isCut {E : Ev} {l : Launch} (htr : l.stackTraces = false) (M : Mm) (r : ((Option Int32) × Mm)) (hf : f_X9_isCut M = some r) : CX E l 7 1 6 yX9_isCut cX9_isCut 1 (some .boolean) [.ref (E.1 + 0)] M (r.1.map fun z => some (.int z)) r.2 := by
  refine CX.of htr (by decide +kernel) (Nat.le_of_ble_eq_true rfl) ?_
  intro K hE hL hl hR0 C hr hT hRv hXv
  subst hE
  subst hl
  have C : Cx K cX9_isCut RX9 7 := C
  have hRc : 1 ≤ K.1.R.cells ∧ 6 ≤ K.1.R.slots := by rw [hR0]; exact ⟨Nat.le_refl _, Nat.le_refl _⟩
  show G K (0, 0) 0 [(0, .ref (K.2.1.1 + 0))] [] M
  unfold f_X9_isCut at hf
  refine g_aload_n 0 C (ckD_get k_X9_isCut_0 0 rfl) rfl rfl ?_
  obtain ⟨o_2, hr_1, hf⟩ := lt_e hf
  cases o_2 with
  | none =>
    have hf := tr_n hf rfl
    cases hf
    exact n_cVXt [] [] C (ckD_get k_X9_isCut_0 1 rfl) vk_X9_164 (t_X9_needLaying C.tr _ _ hr_1) T0 rfl rfl (Nat.le_of_ble_eq_true rfl) (by decide) ⟨by decide, by decide⟩ hRc hT rfl (hXv rfl)
  | some r_3 =>
    have hf := tr_s hf rfl
    refine n_cVXr [] [] C (ckD_get k_X9_isCut_0 1 rfl) vk_X9_164 (t_X9_needLaying C.tr _ _ hr_1) T0 rfl rfl (Nat.le_of_ble_eq_true rfl) (by decide) ⟨by decide, by decide⟩ hRc hT rfl rfl ?_
    refine g_aload_n 0 C (ckD_get k_X9_isCut_0 2 rfl) rfl rfl ?_
    refine g_getR C (ckD_get k_X9_isCut_0 3 rfl) fk_X9_23 T0 rfl ?_
    obtain ⟨r_5, hr_4, hf⟩ := bd_e hf
    refine n_cV [] [] C (ckD_get k_X9_isCut_0 4 rfl) vk_X9_177 (t_X2_firstClash C.tr _ (Or.inl rfl) _ _ hr_4) T5 rfl rfl (Nat.le_of_ble_eq_true rfl) (by decide) ⟨Nat.le_trans (by decide) hRc.1, Nat.le_trans (by decide) hRc.2⟩ rfl ?_
    refine g_iconst (v := (-1 : Int32)) C (ckD_get k_X9_isCut_0 5 rfl) (by decide) ?_
    refine g_icmp_ne C (ckD_get k_X9_isCut_0 6 rfl) (fun c_6 => ?_) (fun c_6 => ?_)
    · have hf := if_f hf c_6
      refine g_iconst (v := (0 : Int32)) C (ckD_get k_X9_isCut_0 13 rfl) (by decide) ?_
      cases hf
      exact g_zret C (ckD_get k_X9_isCut_0 14 rfl) hr rfl (hRv _ rfl) (by decide) (by decide)
    · have hf := if_t hf c_6
      refine g_aload_n 0 C (ckD_get k_X9_isCut_0 7 rfl) rfl rfl ?_
      refine g_getR C (ckD_get k_X9_isCut_0 8 rfl) fk_X9_23 T0 rfl ?_
      obtain ⟨r_9, M_8, hr_7, hf⟩ := bd2_e hf
      refine n_cV [] [] C (ckD_get k_X9_isCut_0 9 rfl) vk_X9_243 (t_X2_canBeParted C.tr _ (Or.inl rfl) _ _ hr_7) T5 rfl rfl (Nat.le_of_ble_eq_true rfl) (by decide) ⟨Nat.le_trans (by decide) hRc.1, Nat.le_trans (by decide) hRc.2⟩ rfl ?_
      refine g_if_eq C (ckD_get k_X9_isCut_0 10 rfl) (fun c_10 => ?_) (fun c_10 => ?_)
      · have hf := if_t hf c_10
        refine g_iconst (v := (0 : Int32)) C (ckD_get k_X9_isCut_0 13 rfl) (by decide) ?_
        cases hf
        exact g_zret C (ckD_get k_X9_isCut_0 14 rfl) hr rfl (hRv _ rfl) (by decide) (by decide)
      · have hf := if_f hf c_10
        refine g_iconst (v := (1 : Int32)) C (ckD_get k_X9_isCut_0 11 rfl) (by decide) ?_
        refine g_goto C (ckD_get k_X9_isCut_0 12 rfl) ?_
        cases hf
        exact g_zret C (ckD_get k_X9_isCut_0 14 rfl) hr rfl (hRv _ rfl) (by decide) (by decide)

set_option maxRecDepth 20000 in
theorem k_X9_normal_0 : ckD cX9_normal [(0, .aload_n 0, 1, 1, 0), (1, .iconst 2, 1, 2, 0), (2, .invokevirtual 195, 3, 5, 0), (5, .aload_n 0, 1, 6, 0), (6, .getfield 37, 3, 9, 0), (9, .invokevirtual 247, 3, 12, 0), (12, .ireturn, 1, 13, 0)] = true := by decide +kernel
def f_X9_normal  (M : Mm) : Option ((Option Int32) × Mm) := lt1 (f_X9_needKind (2 : Int32) M) fun o_2 => tr1 o_2 (some (none, M)) fun r_3 => bd2 (f_X6_makeNormal 17 M) fun r_6 M_5 => some ((some r_6), M_5)
set_option maxRecDepth 100000 in
set_option maxHeartbeats 4000000 in
theorem t_X9_normal {E : Ev} {l : Launch} (htr : l.stackTraces = false) (M : Mm) (r : ((Option Int32) × Mm)) (hf : f_X9_normal M = some r) : CX E l 7 1 6 yX9_normal cX9_normal 1 (some .int) [.ref (E.1 + 0)] M (r.1.map fun z => some (.int z)) r.2 := by
  refine CX.of htr (by decide +kernel) (Nat.le_of_ble_eq_true rfl) ?_
  intro K hE hL hl hR0 C hr hT hRv hXv
  subst hE
  subst hl
  have C : Cx K cX9_normal RX9 7 := C
  have hRc : 1 ≤ K.1.R.cells ∧ 6 ≤ K.1.R.slots := by rw [hR0]; exact ⟨Nat.le_refl _, Nat.le_refl _⟩
  show G K (0, 0) 0 [(0, .ref (K.2.1.1 + 0))] [] M
  unfold f_X9_normal at hf
  refine g_aload_n 0 C (ckD_get k_X9_normal_0 0 rfl) rfl rfl ?_
  refine g_iconst (v := (2 : Int32)) C (ckD_get k_X9_normal_0 1 rfl) (by decide) ?_
  obtain ⟨o_2, hr_1, hf⟩ := lt_e hf
  cases o_2 with
  | none =>
    have hf := tr_n hf rfl
    cases hf
    exact n_cVXt [.int (2 : Int32)] [] C (ckD_get k_X9_normal_0 2 rfl) vk_X9_195 (t_X9_needKind C.tr _ _ _ hr_1) T0 rfl rfl (Nat.le_of_ble_eq_true rfl) (by decide) ⟨by decide, by decide⟩ hRc hT rfl (hXv rfl)
  | some r_3 =>
    have hf := tr_s hf rfl
    refine n_cVXr [.int (2 : Int32)] [] C (ckD_get k_X9_normal_0 2 rfl) vk_X9_195 (t_X9_needKind C.tr _ _ _ hr_1) T0 rfl rfl (Nat.le_of_ble_eq_true rfl) (by decide) ⟨by decide, by decide⟩ hRc hT rfl rfl ?_
    refine g_aload_n 0 C (ckD_get k_X9_normal_0 3 rfl) rfl rfl ?_
    refine g_getR C (ckD_get k_X9_normal_0 4 rfl) fk_X9_37 T0 rfl ?_
    obtain ⟨r_6, M_5, hr_4, hf⟩ := bd2_e hf
    refine n_cV [] [] C (ckD_get k_X9_normal_0 5 rfl) vk_X9_247 (t_X6_makeNormal C.tr _ (Or.inl rfl) _ _ hr_4) T17 rfl rfl (Nat.le_of_ble_eq_true rfl) (by decide) ⟨Nat.le_trans (by decide) hRc.1, Nat.le_trans (by decide) hRc.2⟩ rfl ?_
    cases hf
    exact g_iret C (ckD_get k_X9_normal_0 6 rfl) hr (hRv _ rfl) (by decide) (by decide)

set_option maxRecDepth 20000 in
theorem k_X9_curve_0 : ckD cX9_curve [(0, .aload_n 0, 1, 1, 0), (1, .iconst 2, 1, 2, 0), (2, .invokevirtual 195, 3, 5, 0), (5, .aload_n 0, 1, 6, 0), (6, .getfield 51, 3, 9, 0), (9, .aload_n 0, 1, 10, 0), (10, .getfield 37, 3, 13, 0), (13, .aload_n 0, 1, 14, 0), (14, .getfield 10, 3, 17, 0), (17, .aload_n 0, 1, 18, 0), (18, .getfield 10, 3, 21, 0), (21, .getfield 102, 3, 24, 0), (24, .iconst 0, 1, 25, 0), (25, .invokevirtual 250, 3, 28, 0), (28, .aload_n 0, 1, 29, 0), (29, .getfield 51, 3, 32, 0), (32, .getfield 254, 3, 35, 0), (35, .ireturn, 1, 36, 0)] = true := by decide +kernel
def f_X9_curve  (M : Mm) : Option ((Option Int32) × Mm) := lt1 (f_X9_needKind (2 : Int32) M) fun o_2 => tr1 o_2 (some (none, M)) fun r_3 => (f_X5_draw 28 17 (M.1 1 2) (0 : Int32) M).bind fun M_5 => some ((some (M_5.1 28 5)), M_5)
set_option maxRecDepth 100000 in
set_option maxHeartbeats 4000000 in
theorem t_X9_curve {E : Ev} {l : Launch} (htr : l.stackTraces = false) (M : Mm) (r : ((Option Int32) × Mm)) (hf : f_X9_curve M = some r) : CX E l 7 1 6 yX9_curve cX9_curve 1 (some .int) [.ref (E.1 + 0)] M (r.1.map fun z => some (.int z)) r.2 := by
  refine CX.of htr (by decide +kernel) (Nat.le_of_ble_eq_true rfl) ?_
  intro K hE hL hl hR0 C hr hT hRv hXv
  subst hE
  subst hl
  have C : Cx K cX9_curve RX9 7 := C
  have hRc : 1 ≤ K.1.R.cells ∧ 6 ≤ K.1.R.slots := by rw [hR0]; exact ⟨Nat.le_refl _, Nat.le_refl _⟩
  show G K (0, 0) 0 [(0, .ref (K.2.1.1 + 0))] [] M
  unfold f_X9_curve at hf
  refine g_aload_n 0 C (ckD_get k_X9_curve_0 0 rfl) rfl rfl ?_
  refine g_iconst (v := (2 : Int32)) C (ckD_get k_X9_curve_0 1 rfl) (by decide) ?_
  obtain ⟨o_2, hr_1, hf⟩ := lt_e hf
  cases o_2 with
  | none =>
    have hf := tr_n hf rfl
    cases hf
    exact n_cVXt [.int (2 : Int32)] [] C (ckD_get k_X9_curve_0 2 rfl) vk_X9_195 (t_X9_needKind C.tr _ _ _ hr_1) T0 rfl rfl (Nat.le_of_ble_eq_true rfl) (by decide) ⟨by decide, by decide⟩ hRc hT rfl (hXv rfl)
  | some r_3 =>
    have hf := tr_s hf rfl
    refine n_cVXr [.int (2 : Int32)] [] C (ckD_get k_X9_curve_0 2 rfl) vk_X9_195 (t_X9_needKind C.tr _ _ _ hr_1) T0 rfl rfl (Nat.le_of_ble_eq_true rfl) (by decide) ⟨by decide, by decide⟩ hRc hT rfl rfl ?_
    refine g_aload_n 0 C (ckD_get k_X9_curve_0 3 rfl) rfl rfl ?_
    refine g_getR C (ckD_get k_X9_curve_0 4 rfl) fk_X9_51 T0 rfl ?_
    refine g_aload_n 0 C (ckD_get k_X9_curve_0 5 rfl) rfl rfl ?_
    refine g_getR C (ckD_get k_X9_curve_0 6 rfl) fk_X9_37 T0 rfl ?_
    refine g_aload_n 0 C (ckD_get k_X9_curve_0 7 rfl) rfl rfl ?_
    refine g_getR C (ckD_get k_X9_curve_0 8 rfl) fk_X9_10 T0 rfl ?_
    refine g_aload_n 0 C (ckD_get k_X9_curve_0 9 rfl) rfl rfl ?_
    refine g_getR C (ckD_get k_X9_curve_0 10 rfl) fk_X9_10 T0 rfl ?_
    refine g_getI C (ckD_get k_X9_curve_0 11 rfl) fk_X9_102 T1 rfl ?_
    refine g_iconst (v := (0 : Int32)) C (ckD_get k_X9_curve_0 12 rfl) (by decide) ?_
    obtain ⟨M_5, hr_4, hf⟩ := bd_e hf
    refine n_cV [.ref (K.2.1.1 + 17), .ref (K.2.1.1 + 1), .int (M.1 1 2), .int (0 : Int32)] [] C (ckD_get k_X9_curve_0 13 rfl) vk_X9_250 (t_X5_draw C.tr _ (Or.inl rfl) _ (Or.inl rfl) _ _ _ _ hr_4) T28 rfl rfl (Nat.le_of_ble_eq_true rfl) (by decide) ⟨Nat.le_trans (by decide) hRc.1, Nat.le_trans (by decide) hRc.2⟩ rfl ?_
    refine g_aload_n 0 C (ckD_get k_X9_curve_0 14 rfl) rfl rfl ?_
    refine g_getR C (ckD_get k_X9_curve_0 15 rfl) fk_X9_51 T0 rfl ?_
    refine g_getI C (ckD_get k_X9_curve_0 16 rfl) fk_X9_254 T28 rfl ?_
    cases hf
    exact g_iret C (ckD_get k_X9_curve_0 17 rfl) hr (hRv _ rfl) (by decide) (by decide)

set_option maxRecDepth 20000 in
theorem k_X9_drawWith_0 : ckD cX9_drawWith [(0, .aload_n 0, 1, 1, 0), (1, .iconst 2, 1, 2, 0), (2, .invokevirtual 195, 3, 5, 0), (5, .aload_n 0, 1, 6, 0), (6, .getfield 51, 3, 9, 0), (9, .aload_n 0, 1, 10, 0), (10, .getfield 37, 3, 13, 0), (13, .aload_n 0, 1, 14, 0), (14, .getfield 10, 3, 17, 0), (17, .aload_n 0, 1, 18, 0), (18, .getfield 10, 3, 21, 0), (21, .getfield 102, 3, 24, 0), (24, .iconst 0, 1, 25, 0), (25, .invokevirtual 250, 3, 28, 0), (28, .iload_n 1, 1, 29, 0), (29, .ifCond .lt 14, 3, 32, 43), (32, .iload_n 1, 1, 33, 0), (33, .aload_n 0, 1, 34, 0), (34, .getfield 51, 3, 37, 0), (37, .getfield 254, 3, 40, 0), (40, .if_icmp .lt 14, 3, 43, 54), (43, .new 109, 3, 46, 0), (46, .dup, 1, 47, 0), (47, .ldc_w 319, 3, 50, 0), (50, .invokespecial 113, 3, 53, 0), (53, .athrow, 1, 54, 0), (54, .return_, 1, 55, 0)] = true := by decide +kernel
def f_X9_drawWith_J43 (M_5 : Mm) (_ : Unit) : Option ((Option Unit) × Mm) := some (none, M_5)
def f_X9_drawWith (a1 : Int32) (M : Mm) : Option ((Option Unit) × Mm) := lt1 (f_X9_needKind (2 : Int32) M) fun o_2 => tr1 o_2 (some (none, M)) fun r_3 => (f_X5_draw 28 17 (M.1 1 2) (0 : Int32) M).bind fun M_5 => if a1 < 0 then f_X9_drawWith_J43 M_5 () else if a1 < (M_5.1 28 5) then some ((some ()), M_5) else f_X9_drawWith_J43 M_5 ()
set_option maxRecDepth 100000 in
set_option maxHeartbeats 4000000 in
theorem t_X9_drawWith {E : Ev} {l : Launch} (htr : l.stackTraces = false) (a1 : Int32) (M : Mm) (r : ((Option Unit) × Mm)) (hf : f_X9_drawWith a1 M = some r) : CX E l 7 2 12 yX9_drawWith cX9_drawWith 2 none [.ref (E.1 + 0), .int a1] M (r.1.map fun z => (none : Option Value)) r.2 := by
  refine CX.of htr (by decide +kernel) (Nat.le_of_ble_eq_true rfl) ?_
  intro K hE hL hl hR0 C hr hT hRv hXv
  subst hE
  subst hl
  have C : Cx K cX9_drawWith RX9 7 := C
  have hRc : 2 ≤ K.1.R.cells ∧ 12 ≤ K.1.R.slots := by rw [hR0]; exact ⟨Nat.le_refl _, Nat.le_refl _⟩
  show G K (0, 0) 0 [(0, .ref (K.2.1.1 + 0)), (1, .int a1)] [] M
  unfold f_X9_drawWith at hf
  refine g_aload_n 0 C (ckD_get k_X9_drawWith_0 0 rfl) rfl rfl ?_
  refine g_iconst (v := (2 : Int32)) C (ckD_get k_X9_drawWith_0 1 rfl) (by decide) ?_
  obtain ⟨o_2, hr_1, hf⟩ := lt_e hf
  cases o_2 with
  | none =>
    have hf := tr_n hf rfl
    cases hf
    exact n_cVXt [.int (2 : Int32)] [] C (ckD_get k_X9_drawWith_0 2 rfl) vk_X9_195 (t_X9_needKind C.tr _ _ _ hr_1) T0 rfl rfl (Nat.le_of_ble_eq_true rfl) (by decide) ⟨by decide, by decide⟩ hRc hT rfl (hXv rfl)
  | some r_3 =>
    have hf := tr_s hf rfl
    refine n_cVXr [.int (2 : Int32)] [] C (ckD_get k_X9_drawWith_0 2 rfl) vk_X9_195 (t_X9_needKind C.tr _ _ _ hr_1) T0 rfl rfl (Nat.le_of_ble_eq_true rfl) (by decide) ⟨by decide, by decide⟩ hRc hT rfl rfl ?_
    refine g_aload_n 0 C (ckD_get k_X9_drawWith_0 3 rfl) rfl rfl ?_
    refine g_getR C (ckD_get k_X9_drawWith_0 4 rfl) fk_X9_51 T0 rfl ?_
    refine g_aload_n 0 C (ckD_get k_X9_drawWith_0 5 rfl) rfl rfl ?_
    refine g_getR C (ckD_get k_X9_drawWith_0 6 rfl) fk_X9_37 T0 rfl ?_
    refine g_aload_n 0 C (ckD_get k_X9_drawWith_0 7 rfl) rfl rfl ?_
    refine g_getR C (ckD_get k_X9_drawWith_0 8 rfl) fk_X9_10 T0 rfl ?_
    refine g_aload_n 0 C (ckD_get k_X9_drawWith_0 9 rfl) rfl rfl ?_
    refine g_getR C (ckD_get k_X9_drawWith_0 10 rfl) fk_X9_10 T0 rfl ?_
    refine g_getI C (ckD_get k_X9_drawWith_0 11 rfl) fk_X9_102 T1 rfl ?_
    refine g_iconst (v := (0 : Int32)) C (ckD_get k_X9_drawWith_0 12 rfl) (by decide) ?_
    obtain ⟨M_5, hr_4, hf⟩ := bd_e hf
    refine n_cV [.ref (K.2.1.1 + 17), .ref (K.2.1.1 + 1), .int (M.1 1 2), .int (0 : Int32)] [] C (ckD_get k_X9_drawWith_0 13 rfl) vk_X9_250 (t_X5_draw C.tr _ (Or.inl rfl) _ (Or.inl rfl) _ _ _ _ hr_4) T28 rfl rfl (Nat.le_of_ble_eq_true rfl) (by decide) ⟨Nat.le_trans (by decide) hRc.1, Nat.le_trans (by decide) hRc.2⟩ rfl ?_
    refine g_iload_n 1 C (ckD_get k_X9_drawWith_0 14 rfl) rfl rfl ?_
    have hJ_43 : ∀ (_ : Unit), f_X9_drawWith_J43 M_5 () = some r → G K (1, 6) 43 [] [] M_5 := by
      intro _ hf
      unfold f_X9_drawWith_J43 at hf
      cases hf
      exact g_throwW (is := 319) (text := "no such shape") C (ckD_get k_X9_drawWith_0 21 rfl) (ckD_get k_X9_drawWith_0 22 rfl) (ckD_get k_X9_drawWith_0 23 rfl) (ckD_get k_X9_drawWith_0 24 rfl) (ckD_get k_X9_drawWith_0 25 rfl) (by decide) hT (hXv rfl) (by decide) (Nat.le_of_ble_eq_true rfl) ⟨by decide, by decide⟩ hRc
    refine g_if_lt C (ckD_get k_X9_drawWith_0 15 rfl) (fun c_6 => ?_) (fun c_6 => ?_)
    · have hf := if_t hf c_6
      refine G.sub [] rfl ?_
      exact hJ_43 () hf
    · have hf := if_f hf c_6
      refine g_iload_n 1 C (ckD_get k_X9_drawWith_0 16 rfl) rfl rfl ?_
      refine g_aload_n 0 C (ckD_get k_X9_drawWith_0 17 rfl) rfl rfl ?_
      refine g_getR C (ckD_get k_X9_drawWith_0 18 rfl) fk_X9_51 T0 rfl ?_
      refine g_getI C (ckD_get k_X9_drawWith_0 19 rfl) fk_X9_254 T28 rfl ?_
      refine g_icmp_lt C (ckD_get k_X9_drawWith_0 20 rfl) (fun c_7 => ?_) (fun c_7 => ?_)
      · have hf := if_t hf c_7
        cases hf
        exact g_vret C (ckD_get k_X9_drawWith_0 26 rfl) hr (hRv _ rfl) (by decide) (by decide)
      · have hf := if_f hf c_7
        refine G.sub [] rfl ?_
        exact hJ_43 () hf

set_option maxRecDepth 20000 in
theorem k_X9_shape_0 : ckD cX9_shape [(0, .aload_n 0, 1, 1, 0), (1, .iload_n 1, 1, 2, 0), (2, .invokevirtual 255, 3, 5, 0), (5, .iload_n 2, 1, 6, 0), (6, .lookupswitch 46 #[(0, 26), (1, 36)], 26, 32, 0), (32, .aload_n 0, 1, 33, 0), (33, .getfield 51, 3, 36, 0), (36, .getfield 258, 3, 39, 0), (39, .iload_n 1, 1, 40, 0), (40, .iaload, 1, 41, 0), (41, .ireturn, 1, 42, 0), (42, .aload_n 0, 1, 43, 0), (43, .getfield 51, 3, 46, 0), (46, .getfield 260, 3, 49, 0), (49, .iload_n 1, 1, 50, 0), (50, .iaload, 1, 51, 0), (51, .ireturn, 1, 52, 0), (52, .new 109, 3, 55, 0), (55, .dup, 1, 56, 0), (56, .ldc_w 262, 3, 59, 0), (59, .invokespecial 113, 3, 62, 0), (62, .athrow, 1, 63, 0)] = true := by decide +kernel
def f_X9_shape (a1 : Int32) (a2 : Int32) (M : Mm) : Option ((Option Int32) × Mm) := bd2 (f_X9_drawWith a1 M) fun o_2 M_3 => tr1 o_2 (some (none, M_3)) fun r_4 => if a2 = (0 : Int32) then (rdI 26 M_3 29 a1 fun v_6 => some ((some v_6), M_3)) else if a2 = (1 : Int32) then (rdI 26 M_3 30 a1 fun v_9 => some ((some v_9), M_3)) else (some (none, M_3))
set_option maxRecDepth 100000 in
set_option maxHeartbeats 4000000 in
theorem t_X9_shape {E : Ev} {l : Launch} (htr : l.stackTraces = false) (a1 : Int32) (a2 : Int32) (M : Mm) (r : ((Option Int32) × Mm)) (hf : f_X9_shape a1 a2 M = some r) : CX E l 8 3 18 yX9_shape cX9_shape 3 (some .int) [.ref (E.1 + 0), .int a1, .int a2] M (r.1.map fun z => some (.int z)) r.2 := by
  refine CX.of htr (by decide +kernel) (Nat.le_of_ble_eq_true rfl) ?_
  intro K hE hL hl hR0 C hr hT hRv hXv
  subst hE
  subst hl
  have C : Cx K cX9_shape RX9 8 := C
  have hRc : 3 ≤ K.1.R.cells ∧ 18 ≤ K.1.R.slots := by rw [hR0]; exact ⟨Nat.le_refl _, Nat.le_refl _⟩
  show G K (0, 0) 0 [(0, .ref (K.2.1.1 + 0)), (1, .int a1), (2, .int a2)] [] M
  unfold f_X9_shape at hf
  refine g_aload_n 0 C (ckD_get k_X9_shape_0 0 rfl) rfl rfl ?_
  refine g_iload_n 1 C (ckD_get k_X9_shape_0 1 rfl) rfl rfl ?_
  obtain ⟨o_2, M_3, hr_1, hf⟩ := bd2_e hf
  cases o_2 with
  | none =>
    have hf := tr_n hf rfl
    cases hf
    exact n_cVXt [.int a1] [] C (ckD_get k_X9_shape_0 2 rfl) vk_X9_255 (t_X9_drawWith C.tr _ _ _ hr_1) T0 rfl rfl (Nat.le_of_ble_eq_true rfl) (by decide) ⟨by decide, by decide⟩ hRc hT rfl (hXv rfl)
  | some r_4 =>
    have hf := tr_s hf rfl
    refine n_cVXr [.int a1] [] C (ckD_get k_X9_shape_0 2 rfl) vk_X9_255 (t_X9_drawWith C.tr _ _ _ hr_1) T0 rfl rfl (Nat.le_of_ble_eq_true rfl) (by decide) ⟨by decide, by decide⟩ hRc hT rfl rfl ?_
    refine g_iload_n 2 C (ckD_get k_X9_shape_0 3 rfl) rfl rfl ?_
    by_cases c_5 : a2 = (0 : Int32)
    · have hf := if_t hf c_5
      refine g_look (t := 32) C (ckD_get k_X9_shape_0 4 rfl) (by decide) (by rw [c_5] <;> rfl) (by decide) ?_
      refine g_aload_n 0 C (ckD_get k_X9_shape_0 5 rfl) rfl rfl ?_
      refine g_getR C (ckD_get k_X9_shape_0 6 rfl) fk_X9_51 T0 rfl ?_
      refine g_getR C (ckD_get k_X9_shape_0 7 rfl) fk_X9_258 T28 rfl ?_
      refine g_iload_n 1 C (ckD_get k_X9_shape_0 8 rfl) rfl rfl ?_
      obtain ⟨v_6, hi_7, ev_6, hf⟩ := rdI_e hf
      refine n_iald C (ckD_get k_X9_shape_0 9 rfl) T29 hi_7 ev_6 ?_
      cases hf
      exact g_iret C (ckD_get k_X9_shape_0 10 rfl) hr (hRv _ rfl) (by decide) (by decide)
    · have hf := if_f hf c_5
      by_cases c_8 : a2 = (1 : Int32)
      · have hf := if_t hf c_8
        refine g_look (t := 42) C (ckD_get k_X9_shape_0 4 rfl) (by decide) (by rw [c_8] <;> rfl) (by decide) ?_
        refine g_aload_n 0 C (ckD_get k_X9_shape_0 11 rfl) rfl rfl ?_
        refine g_getR C (ckD_get k_X9_shape_0 12 rfl) fk_X9_51 T0 rfl ?_
        refine g_getR C (ckD_get k_X9_shape_0 13 rfl) fk_X9_260 T28 rfl ?_
        refine g_iload_n 1 C (ckD_get k_X9_shape_0 14 rfl) rfl rfl ?_
        obtain ⟨v_9, hi_10, ev_9, hf⟩ := rdI_e hf
        refine n_iald C (ckD_get k_X9_shape_0 15 rfl) T30 hi_10 ev_9 ?_
        cases hf
        exact g_iret C (ckD_get k_X9_shape_0 16 rfl) hr (hRv _ rfl) (by decide) (by decide)
      · have hf := if_f hf c_8
        have ic_5 := i32_ne (n := 0) c_5 (by decide)
        have ic_8 := i32_ne (n := 1) c_8 (by decide)
        refine g_look (t := 52) (off := 46) C (ckD_get k_X9_shape_0 4 rfl) (by decide) (by simp [Op.lookupswitch.offset, (Ne.symm ic_5), (Ne.symm ic_8), ic_5, ic_8]) (by decide) ?_
        cases hf
        exact g_throwW (is := 262) (text := "no such side of a shape") C (ckD_get k_X9_shape_0 17 rfl) (ckD_get k_X9_shape_0 18 rfl) (ckD_get k_X9_shape_0 19 rfl) (ckD_get k_X9_shape_0 20 rfl) (ckD_get k_X9_shape_0 21 rfl) (by decide) hT (hXv rfl) (by decide) (Nat.le_of_ble_eq_true rfl) ⟨by decide, by decide⟩ hRc

set_option maxRecDepth 20000 in
theorem k_X9_best_0 : ckD cX9_best [(0, .aload_n 0, 1, 1, 0), (1, .iload_n 1, 1, 2, 0), (2, .invokevirtual 255, 3, 5, 0), (5, .aload_n 0, 1, 6, 0), (6, .getfield 51, 3, 9, 0), (9, .aload_n 0, 1, 10, 0), (10, .getfield 37, 3, 13, 0), (13, .aload_n 0, 1, 14, 0), (14, .getfield 10, 3, 17, 0), (17, .aload_n 0, 1, 18, 0), (18, .getfield 51, 3, 21, 0), (21, .getfield 258, 3, 24, 0), (24, .iload_n 1, 1, 25, 0), (25, .iaload, 1, 26, 0), (26, .aload_n 0, 1, 27, 0), (27, .getfield 51, 3, 30, 0), (30, .getfield 260, 3, 33, 0), (33, .iload_n 1, 1, 34, 0), (34, .iaload, 1, 35, 0), (35, .invokevirtual 264, 3, 38, 0), (38, .istore_n 2, 1, 39, 0), (39, .aload_n 0, 1, 40, 0), (40, .aload_n 0, 1, 41, 0), (41, .getfield 37, 3, 44, 0), (44, .iconst 2, 1, 45, 0), (45, .iload_n 2, 1, 46, 0), (46, .invokevirtual 148, 3, 49, 0), (49, .iload_n 2, 1, 50, 0), (50, .ireturn, 1, 51, 0)] = true := by decide +kernel
def f_X9_best (a1 : Int32) (M : Mm) : Option ((Option Int32) × Mm) := bd2 (f_X9_drawWith a1 M) fun o_2 M_3 => tr1 o_2 (some (none, M_3)) fun r_4 => rdI 26 M_3 29 a1 fun v_5 => rdI 26 M_3 30 a1 fun v_7 => bd2 (f_X5_leastTurns 28 17 v_5 v_7 M_3) fun r_11 M_10 => (f_X9_layOut 17 (2 : Int32) r_11 M_10).bind fun M_13 => some ((some r_11), M_13)
set_option maxRecDepth 100000 in
set_option maxHeartbeats 4000000 in
theorem t_X9_best {E : Ev} {l : Launch} (htr : l.stackTraces = false) (a1 : Int32) (M : Mm) (r : ((Option Int32) × Mm)) (hf : f_X9_best a1 M = some r) : CX E l 8 2 12 yX9_best cX9_best 3 (some .int) [.ref (E.1 + 0), .int a1] M (r.1.map fun z => some (.int z)) r.2 := by
  refine CX.of htr (by decide +kernel) (Nat.le_of_ble_eq_true rfl) ?_
  intro K hE hL hl hR0 C hr hT hRv hXv
  subst hE
  subst hl
  have C : Cx K cX9_best RX9 8 := C
  have hRc : 2 ≤ K.1.R.cells ∧ 12 ≤ K.1.R.slots := by rw [hR0]; exact ⟨Nat.le_refl _, Nat.le_refl _⟩
  have hL2 : 2 < K.2.2.1 := by rw [hL]; decide
  show G K (0, 0) 0 [(0, .ref (K.2.1.1 + 0)), (1, .int a1)] [] M
  unfold f_X9_best at hf
  refine g_aload_n 0 C (ckD_get k_X9_best_0 0 rfl) rfl rfl ?_
  refine g_iload_n 1 C (ckD_get k_X9_best_0 1 rfl) rfl rfl ?_
  obtain ⟨o_2, M_3, hr_1, hf⟩ := bd2_e hf
  cases o_2 with
  | none =>
    have hf := tr_n hf rfl
    cases hf
    exact n_cVXt [.int a1] [] C (ckD_get k_X9_best_0 2 rfl) vk_X9_255 (t_X9_drawWith C.tr _ _ _ hr_1) T0 rfl rfl (Nat.le_of_ble_eq_true rfl) (by decide) ⟨by decide, by decide⟩ hRc hT rfl (hXv rfl)
  | some r_4 =>
    have hf := tr_s hf rfl
    refine n_cVXr [.int a1] [] C (ckD_get k_X9_best_0 2 rfl) vk_X9_255 (t_X9_drawWith C.tr _ _ _ hr_1) T0 rfl rfl (Nat.le_of_ble_eq_true rfl) (by decide) ⟨by decide, by decide⟩ hRc hT rfl rfl ?_
    refine g_aload_n 0 C (ckD_get k_X9_best_0 3 rfl) rfl rfl ?_
    refine g_getR C (ckD_get k_X9_best_0 4 rfl) fk_X9_51 T0 rfl ?_
    refine g_aload_n 0 C (ckD_get k_X9_best_0 5 rfl) rfl rfl ?_
    refine g_getR C (ckD_get k_X9_best_0 6 rfl) fk_X9_37 T0 rfl ?_
    refine g_aload_n 0 C (ckD_get k_X9_best_0 7 rfl) rfl rfl ?_
    refine g_getR C (ckD_get k_X9_best_0 8 rfl) fk_X9_10 T0 rfl ?_
    refine g_aload_n 0 C (ckD_get k_X9_best_0 9 rfl) rfl rfl ?_
    refine g_getR C (ckD_get k_X9_best_0 10 rfl) fk_X9_51 T0 rfl ?_
    refine g_getR C (ckD_get k_X9_best_0 11 rfl) fk_X9_258 T28 rfl ?_
    refine g_iload_n 1 C (ckD_get k_X9_best_0 12 rfl) rfl rfl ?_
    obtain ⟨v_5, hi_6, ev_5, hf⟩ := rdI_e hf
    refine n_iald C (ckD_get k_X9_best_0 13 rfl) T29 hi_6 ev_5 ?_
    refine g_aload_n 0 C (ckD_get k_X9_best_0 14 rfl) rfl rfl ?_
    refine g_getR C (ckD_get k_X9_best_0 15 rfl) fk_X9_51 T0 rfl ?_
    refine g_getR C (ckD_get k_X9_best_0 16 rfl) fk_X9_260 T28 rfl ?_
    refine g_iload_n 1 C (ckD_get k_X9_best_0 17 rfl) rfl rfl ?_
    obtain ⟨v_7, hi_8, ev_7, hf⟩ := rdI_e hf
    refine n_iald C (ckD_get k_X9_best_0 18 rfl) T30 hi_8 ev_7 ?_
    obtain ⟨r_11, M_10, hr_9, hf⟩ := bd2_e hf
    refine n_cV [.ref (K.2.1.1 + 17), .ref (K.2.1.1 + 1), .int v_5, .int v_7] [] C (ckD_get k_X9_best_0 19 rfl) vk_X9_264 (t_X5_leastTurns C.tr _ (Or.inl rfl) _ (Or.inl rfl) _ _ _ _ hr_9) T28 rfl rfl (Nat.le_of_ble_eq_true rfl) (by decide) ⟨Nat.le_trans (by decide) hRc.1, Nat.le_trans (by decide) hRc.2⟩ rfl ?_
    refine g_istore_n (lv' := [(2, _), (0, _), (1, _)]) C (ckD_get k_X9_best_0 20 rfl) rfl hL2 rfl ?_
    refine g_aload_n 1 C (ckD_get k_X9_best_0 21 rfl) rfl rfl ?_
    refine g_aload_n 1 C (ckD_get k_X9_best_0 22 rfl) rfl rfl ?_
    refine g_getR C (ckD_get k_X9_best_0 23 rfl) fk_X9_37 T0 rfl ?_
    refine g_iconst (v := (2 : Int32)) C (ckD_get k_X9_best_0 24 rfl) (by decide) ?_
    refine g_iload_n 0 C (ckD_get k_X9_best_0 25 rfl) rfl rfl ?_
    obtain ⟨M_13, hr_12, hf⟩ := bd_e hf
    refine n_cV [.ref (K.2.1.1 + 17), .int (2 : Int32), .int r_11] [] C (ckD_get k_X9_best_0 26 rfl) vk_X9_148 (t_X9_layOut C.tr _ _ _ _ _ hr_12) T0 rfl rfl (Nat.le_of_ble_eq_true rfl) (by decide) ⟨Nat.le_trans (by decide) hRc.1, Nat.le_trans (by decide) hRc.2⟩ rfl ?_
    refine g_iload_n 0 C (ckD_get k_X9_best_0 27 rfl) rfl rfl ?_
    cases hf
    exact g_iret C (ckD_get k_X9_best_0 28 rfl) hr (hRv _ rfl) (by decide) (by decide)

set_option maxRecDepth 20000 in
theorem k_X9_swap_0 : ckD cX9_swap [(0, .aload_n 0, 1, 1, 0), (1, .getfield 64, 3, 4, 0), (4, .iconst 1, 1, 5, 0), (5, .if_icmp .ne 25, 3, 8, 30), (8, .aload_n 0, 1, 9, 0), (9, .getfield 10, 3, 12, 0), (12, .iload_n 2, 1, 13, 0), (13, .invokevirtual 268, 3, 16, 0), (16, .ifCond .eq 14, 3, 19, 30), (19, .aload_n 0, 1, 20, 0), (20, .getfield 10, 3, 23, 0), (23, .iload_n 3, 1, 24, 0), (24, .invokevirtual 268, 3, 27, 0), (27, .ifCond .ne 5, 3, 30, 32), (30, .iconst 0, 1, 31, 0), (31, .ireturn, 1, 32, 0), (32, .iload_n 1, 1, 33, 0), (33, .ifCond .eq 10, 3, 36, 43), (36, .iload_n 1, 1, 37, 0), (37, .iconst 1, 1, 38, 0), (38, .if_icmp .eq 5, 3, 41, 43), (41, .iconst 0, 1, 42, 0), (42, .ireturn, 1, 43, 0), (43, .aload_n 0, 1, 44, 0), (44, .getfield 30, 3, 47, 0), (47, .iload_n 1, 1, 48, 0), (48, .iload_n 2, 1, 49, 0), (49, .iload_n 3, 1, 50, 0), (50, .invokevirtual 271, 3, 53, 0), (53, .aload_n 0, 1, 54, 0), (54, .aload_n 0, 1, 55, 0), (55, .getfield 30, 3, 58, 0), (58, .iconst 1, 1, 59, 0), (59, .aload_n 0, 1, 60, 0), (60, .getfield 23, 3, 63, 0), (63, .getfield 190, 3, 66, 0), (66, .invokevirtual 148, 3, 69, 0), (69, .iconst 1, 1, 70, 0), (70, .ireturn, 1, 71, 0)] = true := by decide +kernel
def f_X9_swap_J43 (a1 : Int32) (a2 : Int32) (a3 : Int32) (M : Mm) (_ : Unit) : Option (Int32 × Mm) := (f_X4_exchangeIn 11 a1 a2 a3 M).bind fun M_5 => (f_X9_layOut 11 (1 : Int32) (M_5.1 5 5) M_5).bind fun M_7 => some ((1 : Int32), M_7)
def f_X9_swap (a1 : Int32) (a2 : Int32) (a3 : Int32) (M : Mm) : Option (Int32 × Mm) := if (M.1 0 8) = (1 : Int32) then (if (f_X0_has a2 M) = 0 then some ((0 : Int32), M) else if (f_X0_has a3 M) = 0 then some ((0 : Int32), M) else if a1 = 0 then f_X9_swap_J43 a1 a2 a3 M () else if a1 = (1 : Int32) then f_X9_swap_J43 a1 a2 a3 M () else some ((0 : Int32), M)) else some ((0 : Int32), M)
set_option maxRecDepth 100000 in
set_option maxHeartbeats 4000000 in
theorem t_X9_swap {E : Ev} {l : Launch} (htr : l.stackTraces = false) (a1 : Int32) (a2 : Int32) (a3 : Int32) (M : Mm) (r : (Int32 × Mm)) (hf : f_X9_swap a1 a2 a3 M = some r) : CM E l 5 0 0 yX9_swap cX9_swap 4 (some .boolean) [.ref (E.1 + 0), .int a1, .int a2, .int a3] M (some (.int r.1)) r.2 := by
  refine CM.of htr (by decide +kernel) (Nat.le_of_ble_eq_true rfl) ?_
  intro K hE hL hl hR0 C hr hRv
  subst hE
  subst hl
  have C : Cx K cX9_swap RX9 5 := C
  have hB : (0 : Nat) ≤ K.1.R.cells ∧ 0 ≤ K.1.R.slots := ⟨Nat.zero_le _, Nat.zero_le _⟩
  show G K (0, 0) 0 [(0, .ref (K.2.1.1 + 0)), (1, .int a1), (2, .int a2), (3, .int a3)] [] M
  unfold f_X9_swap at hf
  refine g_aload_n 0 C (ckD_get k_X9_swap_0 0 rfl) rfl rfl ?_
  refine g_getI C (ckD_get k_X9_swap_0 1 rfl) fk_X9_64 T0 rfl ?_
  refine g_iconst (v := (1 : Int32)) C (ckD_get k_X9_swap_0 2 rfl) (by decide) ?_
  refine g_icmp_ne C (ckD_get k_X9_swap_0 3 rfl) (fun c_1 => ?_) (fun c_1 => ?_)
  · have hf := if_f hf c_1
    refine g_iconst (v := (0 : Int32)) C (ckD_get k_X9_swap_0 14 rfl) (by decide) ?_
    cases hf
    exact g_zret C (ckD_get k_X9_swap_0 15 rfl) hr rfl hRv (Nat.le_refl _) (Nat.le_refl _)
  · have hf := if_t hf c_1
    refine g_aload_n 0 C (ckD_get k_X9_swap_0 4 rfl) rfl rfl ?_
    refine g_getR C (ckD_get k_X9_swap_0 5 rfl) fk_X9_10 T0 rfl ?_
    refine g_iload_n 2 C (ckD_get k_X9_swap_0 6 rfl) rfl rfl ?_
    refine n_cV [.int a2] [] C (ckD_get k_X9_swap_0 7 rfl) vk_X9_268 (t_X0_has C.tr _ _ _ rfl) T1 rfl rfl (Nat.le_of_ble_eq_true rfl) (by decide) hB rfl ?_
    refine g_if_eq C (ckD_get k_X9_swap_0 8 rfl) (fun c_2 => ?_) (fun c_2 => ?_)
    · have hf := if_t hf c_2
      refine g_iconst (v := (0 : Int32)) C (ckD_get k_X9_swap_0 14 rfl) (by decide) ?_
      cases hf
      exact g_zret C (ckD_get k_X9_swap_0 15 rfl) hr rfl hRv (Nat.le_refl _) (Nat.le_refl _)
    · have hf := if_f hf c_2
      refine g_aload_n 0 C (ckD_get k_X9_swap_0 9 rfl) rfl rfl ?_
      refine g_getR C (ckD_get k_X9_swap_0 10 rfl) fk_X9_10 T0 rfl ?_
      refine g_iload_n 3 C (ckD_get k_X9_swap_0 11 rfl) rfl rfl ?_
      refine n_cV [.int a3] [] C (ckD_get k_X9_swap_0 12 rfl) vk_X9_268 (t_X0_has C.tr _ _ _ rfl) T1 rfl rfl (Nat.le_of_ble_eq_true rfl) (by decide) hB rfl ?_
      refine g_if_ne C (ckD_get k_X9_swap_0 13 rfl) (fun c_3 => ?_) (fun c_3 => ?_)
      · have hf := if_f hf c_3
        refine g_iload_n 1 C (ckD_get k_X9_swap_0 16 rfl) rfl rfl ?_
        have hJ_43 : ∀ (_ : Unit), f_X9_swap_J43 a1 a2 a3 M () = some r → G K (0, 0) 43 [(0, .ref (K.2.1.1 + 0)), (1, .int a1), (2, .int a2), (3, .int a3)] [] M := by
          intro _ hf
          unfold f_X9_swap_J43 at hf
          refine g_aload_n 0 C (ckD_get k_X9_swap_0 23 rfl) rfl rfl ?_
          refine g_getR C (ckD_get k_X9_swap_0 24 rfl) fk_X9_30 T0 rfl ?_
          refine g_iload_n 1 C (ckD_get k_X9_swap_0 25 rfl) rfl rfl ?_
          refine g_iload_n 2 C (ckD_get k_X9_swap_0 26 rfl) rfl rfl ?_
          refine g_iload_n 3 C (ckD_get k_X9_swap_0 27 rfl) rfl rfl ?_
          obtain ⟨M_5, hr_4, hf⟩ := bd_e hf
          refine n_cV [.int a1, .int a2, .int a3] [] C (ckD_get k_X9_swap_0 28 rfl) vk_X9_271 (t_X4_exchangeIn C.tr _ (Or.inl rfl) _ _ _ _ _ hr_4) T11 rfl rfl (Nat.le_of_ble_eq_true rfl) (by decide) hB rfl ?_
          refine g_aload_n 0 C (ckD_get k_X9_swap_0 29 rfl) rfl rfl ?_
          refine g_aload_n 0 C (ckD_get k_X9_swap_0 30 rfl) rfl rfl ?_
          refine g_getR C (ckD_get k_X9_swap_0 31 rfl) fk_X9_30 T0 rfl ?_
          refine g_iconst (v := (1 : Int32)) C (ckD_get k_X9_swap_0 32 rfl) (by decide) ?_
          refine g_aload_n 0 C (ckD_get k_X9_swap_0 33 rfl) rfl rfl ?_
          refine g_getR C (ckD_get k_X9_swap_0 34 rfl) fk_X9_23 T0 rfl ?_
          refine g_getI C (ckD_get k_X9_swap_0 35 rfl) fk_X9_190 T5 rfl ?_
          obtain ⟨M_7, hr_6, hf⟩ := bd_e hf
          refine n_cV [.ref (K.2.1.1 + 11), .int (1 : Int32), .int (M_5.1 5 5)] [] C (ckD_get k_X9_swap_0 36 rfl) vk_X9_148 (t_X9_layOut C.tr _ _ _ _ _ hr_6) T0 rfl rfl (Nat.le_of_ble_eq_true rfl) (by decide) hB rfl ?_
          refine g_iconst (v := (1 : Int32)) C (ckD_get k_X9_swap_0 37 rfl) (by decide) ?_
          cases hf
          exact g_zret C (ckD_get k_X9_swap_0 38 rfl) hr rfl hRv (Nat.le_refl _) (Nat.le_refl _)
        refine g_if_eq C (ckD_get k_X9_swap_0 17 rfl) (fun c_8 => ?_) (fun c_8 => ?_)
        · have hf := if_t hf c_8
          exact hJ_43 () hf
        · have hf := if_f hf c_8
          refine g_iload_n 1 C (ckD_get k_X9_swap_0 18 rfl) rfl rfl ?_
          refine g_iconst (v := (1 : Int32)) C (ckD_get k_X9_swap_0 19 rfl) (by decide) ?_
          refine g_icmp_eq C (ckD_get k_X9_swap_0 20 rfl) (fun c_9 => ?_) (fun c_9 => ?_)
          · have hf := if_t hf c_9
            exact hJ_43 () hf
          · have hf := if_f hf c_9
            refine g_iconst (v := (0 : Int32)) C (ckD_get k_X9_swap_0 21 rfl) (by decide) ?_
            cases hf
            exact g_zret C (ckD_get k_X9_swap_0 22 rfl) hr rfl hRv (Nat.le_refl _) (Nat.le_refl _)
      · have hf := if_t hf c_3
        refine g_iconst (v := (0 : Int32)) C (ckD_get k_X9_swap_0 14 rfl) (by decide) ?_
        cases hf
        exact g_zret C (ckD_get k_X9_swap_0 15 rfl) hr rfl hRv (Nat.le_refl _) (Nat.le_refl _)

set_option maxRecDepth 20000 in
theorem k_X9_layFound_0 : ckD cX9_layFound [(0, .iload_n 1, 1, 1, 0), (1, .lookupswitch 67 #[(1, 27), (2, 47)], 27, 28, 0), (28, .aload_n 0, 1, 29, 0), (29, .aload_n 2, 1, 30, 0), (30, .getfield 333, 3, 33, 0), (33, .aload_n 2, 1, 34, 0), (34, .getfield 337, 3, 37, 0), (37, .aload_n 2, 1, 38, 0), (38, .getfield 340, 3, 41, 0), (41, .invokevirtual 341, 3, 44, 0), (44, .pop, 1, 45, 0), (45, .goto 44, 3, 48, 89), (48, .aload_n 0, 1, 49, 0), (49, .aload_n 2, 1, 50, 0), (50, .getfield 333, 3, 53, 0), (53, .aload_n 2, 1, 54, 0), (54, .getfield 337, 3, 57, 0), (57, .aload_n 2, 1, 58, 0), (58, .getfield 340, 3, 61, 0), (61, .invokevirtual 344, 3, 64, 0), (64, .pop, 1, 65, 0), (65, .goto 24, 3, 68, 89), (68, .aload_n 0, 1, 69, 0), (69, .aload_n 2, 1, 70, 0), (70, .getfield 347, 3, 73, 0), (73, .aload_n 2, 1, 74, 0), (74, .getfield 333, 3, 77, 0), (77, .aload_n 2, 1, 78, 0), (78, .getfield 337, 3, 81, 0), (81, .aload_n 2, 1, 82, 0), (82, .getfield 340, 3, 85, 0), (85, .invokevirtual 348, 3, 88, 0), (88, .pop, 1, 89, 0), (89, .return_, 1, 90, 0)] = true := by decide +kernel
def f_X9_layFound (a1 : Int32) (k2 : Nat) (M : Mm) : Option Mm := if a1 = (1 : Int32) then (bd2 (f_X9_pair (M.2 k2 2) (M.2 k2 3) (M.1 k2 4) M) fun r_4 M_3 => some M_3) else if a1 = (2 : Int32) then (bd2 (f_X9_cuts (M.2 k2 2) (M.2 k2 3) (M.1 k2 4) M) fun r_8 M_7 => some M_7) else (bd2 (f_X9_tree (M.1 k2 1) (M.2 k2 2) (M.2 k2 3) (M.1 k2 4) M) fun r_11 M_10 => some M_10)
set_option maxRecDepth 100000 in
set_option maxHeartbeats 4000000 in
theorem t_X9_layFound {E : Ev} {l : Launch} (htr : l.stackTraces = false) (a1 : Int32) (k2 : Nat) (hk2 : LT[k2]? = some (4, 1, [(0, 0), (0, 0), (1, 0), (1, 0), (0, 0)])) (M : Mm) (r : Mm) (hf : f_X9_layFound a1 k2 M = some r) : CM E l 6 0 0 yX9_layFound cX9_layFound 3 none [.ref (E.1 + 0), .int a1, .ref (E.1 + k2)] M none r := by
  refine CM.of htr (by decide +kernel) (Nat.le_of_ble_eq_true rfl) ?_
  intro K hE hL hl hR0 C hr hRv
  subst hE
  subst hl
  have C : Cx K cX9_layFound RX9 6 := C
  have hB : (0 : Nat) ≤ K.1.R.cells ∧ 0 ≤ K.1.R.slots := ⟨Nat.zero_le _, Nat.zero_le _⟩
  show G K (0, 0) 0 [(0, .ref (K.2.1.1 + 0)), (1, .int a1), (2, .ref (K.2.1.1 + k2))] [] M
  unfold f_X9_layFound at hf
  refine g_iload_n 1 C (ckD_get k_X9_layFound_0 0 rfl) rfl rfl ?_
  by_cases c_1 : a1 = (1 : Int32)
  · have hf := if_t hf c_1
    refine g_look (t := 28) C (ckD_get k_X9_layFound_0 1 rfl) (by decide) (by rw [c_1] <;> rfl) (by decide) ?_
    refine g_aload_n 0 C (ckD_get k_X9_layFound_0 2 rfl) rfl rfl ?_
    refine g_aload_n 2 C (ckD_get k_X9_layFound_0 3 rfl) rfl rfl ?_
    refine g_getL C (ckD_get k_X9_layFound_0 4 rfl) fk_X9_333 hk2 rfl ?_
    refine g_aload_n 2 C (ckD_get k_X9_layFound_0 5 rfl) rfl rfl ?_
    refine g_getL C (ckD_get k_X9_layFound_0 6 rfl) fk_X9_337 hk2 rfl ?_
    refine g_aload_n 2 C (ckD_get k_X9_layFound_0 7 rfl) rfl rfl ?_
    refine g_getI C (ckD_get k_X9_layFound_0 8 rfl) fk_X9_340 hk2 rfl ?_
    obtain ⟨r_4, M_3, hr_2, hf⟩ := bd2_e hf
    refine n_cV [.long (M.2 k2 2), .long (M.2 k2 3), .int (M.1 k2 4)] [] C (ckD_get k_X9_layFound_0 9 rfl) vk_X9_341 (t_X9_pair C.tr _ _ _ _ _ hr_2) T0 rfl rfl (Nat.le_of_ble_eq_true rfl) (by decide) hB rfl ?_
    refine g_pop C (ckD_get k_X9_layFound_0 10 rfl) rfl ?_
    refine g_goto C (ckD_get k_X9_layFound_0 11 rfl) ?_
    cases hf
    exact g_vret C (ckD_get k_X9_layFound_0 33 rfl) hr hRv (Nat.le_refl _) (Nat.le_refl _)
  · have hf := if_f hf c_1
    by_cases c_5 : a1 = (2 : Int32)
    · have hf := if_t hf c_5
      refine g_look (t := 48) C (ckD_get k_X9_layFound_0 1 rfl) (by decide) (by rw [c_5] <;> rfl) (by decide) ?_
      refine g_aload_n 0 C (ckD_get k_X9_layFound_0 12 rfl) rfl rfl ?_
      refine g_aload_n 2 C (ckD_get k_X9_layFound_0 13 rfl) rfl rfl ?_
      refine g_getL C (ckD_get k_X9_layFound_0 14 rfl) fk_X9_333 hk2 rfl ?_
      refine g_aload_n 2 C (ckD_get k_X9_layFound_0 15 rfl) rfl rfl ?_
      refine g_getL C (ckD_get k_X9_layFound_0 16 rfl) fk_X9_337 hk2 rfl ?_
      refine g_aload_n 2 C (ckD_get k_X9_layFound_0 17 rfl) rfl rfl ?_
      refine g_getI C (ckD_get k_X9_layFound_0 18 rfl) fk_X9_340 hk2 rfl ?_
      obtain ⟨r_8, M_7, hr_6, hf⟩ := bd2_e hf
      refine n_cV [.long (M.2 k2 2), .long (M.2 k2 3), .int (M.1 k2 4)] [] C (ckD_get k_X9_layFound_0 19 rfl) vk_X9_344 (t_X9_cuts C.tr _ _ _ _ _ hr_6) T0 rfl rfl (Nat.le_of_ble_eq_true rfl) (by decide) hB rfl ?_
      refine g_pop C (ckD_get k_X9_layFound_0 20 rfl) rfl ?_
      refine g_goto C (ckD_get k_X9_layFound_0 21 rfl) ?_
      cases hf
      exact g_vret C (ckD_get k_X9_layFound_0 33 rfl) hr hRv (Nat.le_refl _) (Nat.le_refl _)
    · have hf := if_f hf c_5
      have ic_1 := i32_ne (n := 1) c_1 (by decide)
      have ic_5 := i32_ne (n := 2) c_5 (by decide)
      refine g_look (t := 68) (off := 67) C (ckD_get k_X9_layFound_0 1 rfl) (by decide) (by simp [Op.lookupswitch.offset, (Ne.symm ic_1), (Ne.symm ic_5), ic_1, ic_5]) (by decide) ?_
      refine g_aload_n 0 C (ckD_get k_X9_layFound_0 22 rfl) rfl rfl ?_
      refine g_aload_n 2 C (ckD_get k_X9_layFound_0 23 rfl) rfl rfl ?_
      refine g_getI C (ckD_get k_X9_layFound_0 24 rfl) fk_X9_347 hk2 rfl ?_
      refine g_aload_n 2 C (ckD_get k_X9_layFound_0 25 rfl) rfl rfl ?_
      refine g_getL C (ckD_get k_X9_layFound_0 26 rfl) fk_X9_333 hk2 rfl ?_
      refine g_aload_n 2 C (ckD_get k_X9_layFound_0 27 rfl) rfl rfl ?_
      refine g_getL C (ckD_get k_X9_layFound_0 28 rfl) fk_X9_337 hk2 rfl ?_
      refine g_aload_n 2 C (ckD_get k_X9_layFound_0 29 rfl) rfl rfl ?_
      refine g_getI C (ckD_get k_X9_layFound_0 30 rfl) fk_X9_340 hk2 rfl ?_
      obtain ⟨r_11, M_10, hr_9, hf⟩ := bd2_e hf
      refine n_cV [.int (M.1 k2 1), .long (M.2 k2 2), .long (M.2 k2 3), .int (M.1 k2 4)] [] C (ckD_get k_X9_layFound_0 31 rfl) vk_X9_348 (t_X9_tree C.tr _ _ _ _ _ _ hr_9) T0 rfl rfl (Nat.le_of_ble_eq_true rfl) (by decide) hB rfl ?_
      refine g_pop C (ckD_get k_X9_layFound_0 32 rfl) rfl ?_
      cases hf
      exact g_vret C (ckD_get k_X9_layFound_0 33 rfl) hr hRv (Nat.le_refl _) (Nat.le_refl _)
