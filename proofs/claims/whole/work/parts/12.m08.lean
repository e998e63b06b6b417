set_option maxRecDepth 20000 in
theorem k_X9_needCountable_0 : ckD cX9_needCountable [(0, .iload_n 0, 1, 1, 0), (1, .iconst 1, 1, 2, 0), (2, .if_icmp .eq 24, 3, 5, 26), (5, .iload_n 0, 1, 6, 0), (6, .iconst 2, 1, 7, 0), (7, .if_icmp .eq 19, 3, 10, 26), (10, .iload_n 0, 1, 11, 0), (11, .iconst 3, 1, 12, 0), (12, .if_icmp .eq 14, 3, 15, 26), (15, .new 109, 3, 18, 0), (18, .dup, 1, 19, 0), (19, .ldc_w 317, 3, 22, 0), (22, .invokespecial 113, 3, 25, 0), (25, .athrow, 1, 26, 0), (26, .return_, 1, 27, 0)] = true := by decide +kernel
def f_X9_needCountable (a0 : Int32) : Option Unit := if a0 = (1 : Int32) then (some ()) else if a0 = (2 : Int32) then (some ()) else if a0 = (3 : Int32) then (some ()) else none
set_option maxRecDepth 100000 in
set_option maxHeartbeats 4000000 in
theorem t_X9_needCountable {E : Ev} {l : Launch} (htr : l.stackTraces = false) (a0 : Int32) (M : Mm) (r : Option Unit) (hf : f_X9_needCountable a0 = r) : CX E l 6 1 6 yX9_needCountable cX9_needCountable 1 none [.int a0] M (r.map fun z => (none : Option Value)) M := by
  refine CX.of htr (by decide +kernel) (Nat.le_of_ble_eq_true rfl) ?_
  intro K hE hL hl hR0 C hr hT hRv hXv
  subst hE
  subst hl
  have C : Cx K cX9_needCountable RX9 6 := C
  have hRc : 1 ≤ K.1.R.cells ∧ 6 ≤ K.1.R.slots := by rw [hR0]; exact ⟨Nat.le_refl _, Nat.le_refl _⟩
  show G K (0, 0) 0 [(0, .int a0)] [] M
  unfold f_X9_needCountable at hf
  refine g_iload_n 0 C (ckD_get k_X9_needCountable_0 0 rfl) rfl rfl ?_
  refine g_iconst (v := (1 : Int32)) C (ckD_get k_X9_needCountable_0 1 rfl) (by decide) ?_
  refine g_icmp_eq C (ckD_get k_X9_needCountable_0 2 rfl) (fun c_1 => ?_) (fun c_1 => ?_)
  · have hf := if_t hf c_1
    cases hf
    exact g_vret C (ckD_get k_X9_needCountable_0 14 rfl) hr (hRv _ rfl) (by decide) (by decide)
  · have hf := if_f hf c_1
    refine g_iload_n 0 C (ckD_get k_X9_needCountable_0 3 rfl) rfl rfl ?_
    refine g_iconst (v := (2 : Int32)) C (ckD_get k_X9_needCountable_0 4 rfl) (by decide) ?_
    refine g_icmp_eq C (ckD_get k_X9_needCountable_0 5 rfl) (fun c_2 => ?_) (fun c_2 => ?_)
    · have hf := if_t hf c_2
      cases hf
      exact g_vret C (ckD_get k_X9_needCountable_0 14 rfl) hr (hRv _ rfl) (by decide) (by decide)
    · have hf := if_f hf c_2
      refine g_iload_n 0 C (ckD_get k_X9_needCountable_0 6 rfl) rfl rfl ?_
      refine g_iconst (v := (3 : Int32)) C (ckD_get k_X9_needCountable_0 7 rfl) (by decide) ?_
      refine g_icmp_eq C (ckD_get k_X9_needCountable_0 8 rfl) (fun c_3 => ?_) (fun c_3 => ?_)
      · have hf := if_t hf c_3
        cases hf
        exact g_vret C (ckD_get k_X9_needCountable_0 14 rfl) hr (hRv _ rfl) (by decide) (by decide)
      · have hf := if_f hf c_3
        cases hf
        exact g_throwW (is := 317) (text := "no such kind") C (ckD_get k_X9_needCountable_0 9 rfl) (ckD_get k_X9_needCountable_0 10 rfl) (ckD_get k_X9_needCountable_0 11 rfl) (ckD_get k_X9_needCountable_0 12 rfl) (ckD_get k_X9_needCountable_0 13 rfl) (by decide) hT (hXv rfl) (by decide) (Nat.le_of_ble_eq_true rfl) ⟨by decide, by decide⟩ hRc

set_option maxRecDepth 20000 in
theorem k_X9_least_0 : ckD cX9_least [(0, .iload_n 1, 1, 1, 0), (1, .invokestatic 275, 3, 4, 0), (4, .aload_n 0, 1, 5, 0), (5, .getfield 10, 3, 8, 0), (8, .getfield 71, 3, 11, 0), (11, .ifCond .eq 14, 3, 14, 25), (14, .aload_n 0, 1, 15, 0), (15, .getfield 10, 3, 18, 0), (18, .getfield 71, 3, 21, 0), (21, .iconst 4, 1, 22, 0), (22, .if_icmp .le 5, 3, 25, 27), (25, .iconst (-1), 1, 26, 0), (26, .ireturn, 1, 27, 0), (27, .aload_n 0, 1, 28, 0), (28, .getfield 68, 3, 31, 0), (31, .bipush 60, 2, 33, 0), (33, .if_icmp .lt 6, 3, 36, 39), (36, .bipush (-2), 2, 38, 0), (38, .ireturn, 1, 39, 0), (39, .aload_n 0, 1, 40, 0), (40, .dup, 1, 41, 0), (41, .getfield 68, 3, 44, 0), (44, .iconst 1, 1, 45, 0), (45, .iadd, 1, 46, 0), (46, .putfield 68, 3, 49, 0), (49, .aload_n 0, 1, 50, 0), (50, .getfield 60, 3, 53, 0), (53, .iload_n 1, 1, 54, 0), (54, .invokevirtual 278, 3, 57, 0), (57, .astore_n 2, 1, 58, 0), (58, .aload_n 0, 1, 59, 0), (59, .iload_n 1, 1, 60, 0), (60, .aload_n 2, 1, 61, 0), (61, .invokevirtual 282, 3, 64, 0), (64, .aload_n 2, 1, 65, 0), (65, .getfield 286, 3, 68, 0), (68, .ireturn, 1, 69, 0)] = true := by decide +kernel
def f_X9_least (a1 : Int32) (M : Mm) : Option ((Option Int32) × Mm) := lt1 (f_X9_needCountable a1) fun o_2 => tr1 o_2 (some (none, M)) fun r_3 => if (M.1 1 3) = 0 then some ((some (-1 : Int32)), M) else if (M.1 1 3) ≤ (4 : Int32) then (if (M.1 0 9) < (60 : Int32) then lt1 (wi M 0 9 ((M.1 0 9) + (1 : Int32))) fun M_7 => bd2 (f_X7_find a1 M_7) fun r_10 M_9 => gd (decide (65 ≤ r_10 ∧ r_10 < 69)) <| (f_X9_layFound a1 r_10 M_9).bind fun M_12 => some ((some (M_12.1 r_10 0)), M_12) else some ((some (-2 : Int32)), M)) else some ((some (-1 : Int32)), M)
set_option maxRecDepth 100000 in
set_option maxHeartbeats 4000000 in
theorem t_X9_least {E : Ev} {l : Launch} (htr : l.stackTraces = false) (a1 : Int32) (M : Mm) (r : ((Option Int32) × Mm)) (hf : f_X9_least a1 M = some r) : CX E l 38 1 6 yX9_least cX9_least 3 (some .int) [.ref (E.1 + 0), .int a1] M (r.1.map fun z => some (.int z)) r.2 := by
  refine CX.of htr (by decide +kernel) (Nat.le_of_ble_eq_true rfl) ?_
  intro K hE hL hl hR0 C hr hT hRv hXv
  subst hE
  subst hl
  have C : Cx K cX9_least RX9 38 := C
  have hRc : 1 ≤ K.1.R.cells ∧ 6 ≤ K.1.R.slots := by rw [hR0]; exact ⟨Nat.le_refl _, Nat.le_refl _⟩
  have hL2 : 2 < K.2.2.1 := by rw [hL]; decide
  show G K (0, 0) 0 [(0, .ref (K.2.1.1 + 0)), (1, .int a1)] [] M
  unfold f_X9_least at hf
  refine g_iload_n 1 C (ckD_get k_X9_least_0 0 rfl) rfl rfl ?_
  obtain ⟨o_2, hr_1, hf⟩ := lt_e hf
  cases o_2 with
  | none =>
    have hf := tr_n hf rfl
    cases hf
    exact n_cSXt [.int a1] [] C (ckD_get k_X9_least_0 1 rfl) sk_X9_275 (t_X9_needCountable C.tr _ _ _ hr_1) rfl rfl (Nat.le_of_ble_eq_true rfl) (by decide) ⟨by decide, by decide⟩ hRc hT rfl (hXv rfl)
  | some r_3 =>
    have hf := tr_s hf rfl
    refine n_cSXr [.int a1] [] C (ckD_get k_X9_least_0 1 rfl) sk_X9_275 (t_X9_needCountable C.tr _ _ _ hr_1) rfl rfl (Nat.le_of_ble_eq_true rfl) (by decide) ⟨by decide, by decide⟩ hRc hT rfl rfl ?_
    refine g_aload_n 0 C (ckD_get k_X9_least_0 2 rfl) rfl rfl ?_
    refine g_getR C (ckD_get k_X9_least_0 3 rfl) fk_X9_10 T0 rfl ?_
    refine g_getI C (ckD_get k_X9_least_0 4 rfl) fk_X9_71 T1 rfl ?_
    refine g_if_eq C (ckD_get k_X9_least_0 5 rfl) (fun c_4 => ?_) (fun c_4 => ?_)
    · have hf := if_t hf c_4
      refine g_iconst (v := (-1 : Int32)) C (ckD_get k_X9_least_0 11 rfl) (by decide) ?_
      cases hf
      exact g_iret C (ckD_get k_X9_least_0 12 rfl) hr (hRv _ rfl) (by decide) (by decide)
    · have hf := if_f hf c_4
      refine g_aload_n 0 C (ckD_get k_X9_least_0 6 rfl) rfl rfl ?_
      refine g_getR C (ckD_get k_X9_least_0 7 rfl) fk_X9_10 T0 rfl ?_
      refine g_getI C (ckD_get k_X9_least_0 8 rfl) fk_X9_71 T1 rfl ?_
      refine g_iconst (v := (4 : Int32)) C (ckD_get k_X9_least_0 9 rfl) (by decide) ?_
      refine g_icmp_le C (ckD_get k_X9_least_0 10 rfl) (fun c_5 => ?_) (fun c_5 => ?_)
      · have hf := if_t hf c_5
        refine g_aload_n 0 C (ckD_get k_X9_least_0 13 rfl) rfl rfl ?_
        refine g_getI C (ckD_get k_X9_least_0 14 rfl) fk_X9_68 T0 rfl ?_
        refine g_bipush (v := (60 : Int32)) C (ckD_get k_X9_least_0 15 rfl) (by decide) ?_
        refine g_icmp_lt C (ckD_get k_X9_least_0 16 rfl) (fun c_6 => ?_) (fun c_6 => ?_)
        · have hf := if_t hf c_6
          refine g_aload_n 0 C (ckD_get k_X9_least_0 19 rfl) rfl rfl ?_
          refine g_dup C (ckD_get k_X9_least_0 20 rfl) rfl ?_
          refine g_getI C (ckD_get k_X9_least_0 21 rfl) fk_X9_68 T0 rfl ?_
          refine g_iconst (v := (1 : Int32)) C (ckD_get k_X9_least_0 22 rfl) (by decide) ?_
          refine g_iadd C (ckD_get k_X9_least_0 23 rfl) ?_
          obtain ⟨M_7, eM_7, hf⟩ := lt_e hf
          refine g_putI C (ckD_get k_X9_least_0 24 rfl) fk_X9_68 T0 rfl ?_
          refine memI eM_7 ?_
          refine g_aload_n 0 C (ckD_get k_X9_least_0 25 rfl) rfl rfl ?_
          refine g_getR C (ckD_get k_X9_least_0 26 rfl) fk_X9_60 T0 rfl ?_
          refine g_iload_n 1 C (ckD_get k_X9_least_0 27 rfl) rfl rfl ?_
          obtain ⟨r_10, M_9, hr_8, hf⟩ := bd2_e hf
          obtain ⟨hr_10, hf⟩ := gd_e hf
          refine n_cV [.int a1] [] C (ckD_get k_X9_least_0 28 rfl) vk_X9_278 (t_X7_find C.tr _ _ _ hr_8) T34 rfl rfl (Nat.le_of_ble_eq_true rfl) (by decide) ⟨Nat.le_trans (by decide) hRc.1, Nat.le_trans (by decide) hRc.2⟩ rfl ?_
          refine g_astore_n (lv' := [(2, _), (0, _), (1, _)]) C (ckD_get k_X9_least_0 29 rfl) rfl hL2 rfl ?_
          refine g_aload_n 1 C (ckD_get k_X9_least_0 30 rfl) rfl rfl ?_
          refine g_iload_n 2 C (ckD_get k_X9_least_0 31 rfl) rfl rfl ?_
          refine g_aload_n 0 C (ckD_get k_X9_least_0 32 rfl) rfl rfl ?_
          obtain ⟨M_12, hr_11, hf⟩ := bd_e hf
          refine n_cV [.int a1, .ref (K.2.1.1 + r_10)] [] C (ckD_get k_X9_least_0 33 rfl) vk_X9_282 (t_X9_layFound C.tr _ _ (LT_Fd hr_10) _ _ hr_11) T0 rfl rfl (Nat.le_of_ble_eq_true rfl) (by decide) ⟨Nat.le_trans (by decide) hRc.1, Nat.le_trans (by decide) hRc.2⟩ rfl ?_
          refine g_aload_n 0 C (ckD_get k_X9_least_0 34 rfl) rfl rfl ?_
          refine g_getI C (ckD_get k_X9_least_0 35 rfl) fk_X9_286 (LT_Fd hr_10) rfl ?_
          cases hf
          exact g_iret C (ckD_get k_X9_least_0 36 rfl) hr (hRv _ rfl) (by decide) (by decide)
        · have hf := if_f hf c_6
          refine g_bipush (v := (-2 : Int32)) C (ckD_get k_X9_least_0 17 rfl) (by decide) ?_
          cases hf
          exact g_iret C (ckD_get k_X9_least_0 18 rfl) hr (hRv _ rfl) (by decide) (by decide)
      · have hf := if_f hf c_5
        refine g_iconst (v := (-1 : Int32)) C (ckD_get k_X9_least_0 11 rfl) (by decide) ?_
        cases hf
        exact g_iret C (ckD_get k_X9_least_0 12 rfl) hr (hRv _ rfl) (by decide) (by decide)

set_option maxRecDepth 20000 in
theorem k_X9_count_0 : ckD cX9_count [(0, .iload_n 1, 1, 1, 0), (1, .invokestatic 275, 3, 4, 0), (4, .iload_n 2, 1, 5, 0), (5, .iconst 1, 1, 6, 0), (6, .if_icmp .lt 9, 3, 9, 15), (9, .iload_n 2, 1, 10, 0), (10, .bipush 10, 2, 12, 0), (12, .if_icmp .le 7, 3, 15, 19), (15, .ldc2_w 290, 3, 18, 0), (18, .lreturn, 1, 19, 0), (19, .iload_n 2, 1, 20, 0), (20, .invokestatic 292, 3, 23, 0), (23, .lstore_n 3, 1, 24, 0), (24, .iload_n 1, 1, 25, 0), (25, .iconst 1, 1, 26, 0), (26, .if_icmp .ne 7, 3, 29, 33), (29, .lload_n 3, 1, 30, 0), (30, .lload_n 3, 1, 31, 0), (31, .lmul, 1, 32, 0), (32, .lreturn, 1, 33, 0), (33, .lload_n 3, 1, 34, 0), (34, .iload_n 1, 1, 35, 0), (35, .iconst 2, 1, 36, 0), (36, .if_icmp .ne 11, 3, 39, 47), (39, .getstatic 296, 3, 42, 0), (42, .iload_n 2, 1, 43, 0), (43, .laload, 1, 44, 0), (44, .goto 8, 3, 47, 52), (47, .getstatic 300, 3, 50, 0), (50, .iload_n 2, 1, 51, 0), (51, .laload, 1, 52, 0), (52, .lmul, 1, 53, 0), (53, .lreturn, 1, 54, 0)] = true := by decide +kernel
def f_X9_count_J52 (r_7 : Int64) (s_9 : Int64) : Option (Option Int64) := some (some (r_7 * s_9))
def f_X9_count (a1 : Int32) (a2 : Int32) (M : Mm) : Option (Option Int64) := lt1 (f_X9_needCountable a1) fun o_2 => tr1 o_2 (some none) fun r_3 => if a2 < (1 : Int32) then some (some (-1 : Int64)) else if a2 ≤ (10 : Int32) then (f_X9_factorial a2 M).bind fun r_7 => if a1 = (1 : Int32) then some (some (r_7 * r_7)) else if a1 = (2 : Int32) then rdS FA2 a2 fun v_13 => f_X9_count_J52 r_7 v_13 else rdS FA3 a2 fun v_11 => f_X9_count_J52 r_7 v_11 else some (some (-1 : Int64))
set_option maxRecDepth 100000 in
set_option maxHeartbeats 4000000 in
theorem t_X9_count {E : Ev} {l : Launch} (htr : l.stackTraces = false) (a1 : Int32) (a2 : Int32) (M : Mm) (r : Option Int64) (hf : f_X9_count a1 a2 M = some r) : CX E l 7 1 6 yX9_count cX9_count 5 (some .long) [.ref (E.1 + 0), .int a1, .int a2] M (r.map fun z => some (.long z)) M := by
  refine CX.of htr (by decide +kernel) (Nat.le_of_ble_eq_true rfl) ?_
  intro K hE hL hl hR0 C hr hT hRv hXv
  subst hE
  subst hl
  have C : Cx K cX9_count RX9 7 := C
  have hRc : 1 ≤ K.1.R.cells ∧ 6 ≤ K.1.R.slots := by rw [hR0]; exact ⟨Nat.le_refl _, Nat.le_refl _⟩
  have hL4 : 4 < K.2.2.1 := by rw [hL]; decide
  show G K (0, 0) 0 [(0, .ref (K.2.1.1 + 0)), (1, .int a1), (2, .int a2)] [] M
  unfold f_X9_count at hf
  refine g_iload_n 1 C (ckD_get k_X9_count_0 0 rfl) rfl rfl ?_
  obtain ⟨o_2, hr_1, hf⟩ := lt_e hf
  cases o_2 with
  | none =>
    have hf := tr_n hf rfl
    cases hf
    exact n_cSXt [.int a1] [] C (ckD_get k_X9_count_0 1 rfl) sk_X9_275 (t_X9_needCountable C.tr _ _ _ hr_1) rfl rfl (Nat.le_of_ble_eq_true rfl) (by decide) ⟨by decide, by decide⟩ hRc hT rfl (hXv rfl)
  | some r_3 =>
    have hf := tr_s hf rfl
    refine n_cSXr [.int a1] [] C (ckD_get k_X9_count_0 1 rfl) sk_X9_275 (t_X9_needCountable C.tr _ _ _ hr_1) rfl rfl (Nat.le_of_ble_eq_true rfl) (by decide) ⟨by decide, by decide⟩ hRc hT rfl rfl ?_
    refine g_iload_n 2 C (ckD_get k_X9_count_0 2 rfl) rfl rfl ?_
    refine g_iconst (v := (1 : Int32)) C (ckD_get k_X9_count_0 3 rfl) (by decide) ?_
    refine g_icmp_lt C (ckD_get k_X9_count_0 4 rfl) (fun c_4 => ?_) (fun c_4 => ?_)
    · have hf := if_t hf c_4
      refine g_ldc2 C (ckD_get k_X9_count_0 8 rfl) q816 ?_
      cases hf
      exact g_lret C (ckD_get k_X9_count_0 9 rfl) hr (hRv _ rfl) (by decide) (by decide)
    · have hf := if_f hf c_4
      refine g_iload_n 2 C (ckD_get k_X9_count_0 5 rfl) rfl rfl ?_
      refine g_bipush (v := (10 : Int32)) C (ckD_get k_X9_count_0 6 rfl) (by decide) ?_
      refine g_icmp_le C (ckD_get k_X9_count_0 7 rfl) (fun c_5 => ?_) (fun c_5 => ?_)
      · have hf := if_t hf c_5
        refine g_iload_n 2 C (ckD_get k_X9_count_0 10 rfl) rfl rfl ?_
        obtain ⟨r_7, hr_6, hf⟩ := bd_e hf
        refine n_cS [.int a2] [] C (ckD_get k_X9_count_0 11 rfl) sk_X9_292 (t_X9_factorial C.tr _ _ _ hr_6) rfl rfl (Nat.le_of_ble_eq_true rfl) (by decide) ⟨Nat.le_trans (by decide) hRc.1, Nat.le_trans (by decide) hRc.2⟩ rfl ?_
        refine g_lstore_n (lv' := [(3, _), (0, _), (1, _), (2, _)]) C (ckD_get k_X9_count_0 12 rfl) rfl hL4 rfl ?_
        refine g_iload_n 2 C (ckD_get k_X9_count_0 13 rfl) rfl rfl ?_
        refine g_iconst (v := (1 : Int32)) C (ckD_get k_X9_count_0 14 rfl) (by decide) ?_
        refine g_icmp_ne C (ckD_get k_X9_count_0 15 rfl) (fun c_8 => ?_) (fun c_8 => ?_)
        · have hf := if_f hf c_8
          refine g_lload_n 0 C (ckD_get k_X9_count_0 20 rfl) rfl rfl ?_
          refine g_iload_n 2 C (ckD_get k_X9_count_0 21 rfl) rfl rfl ?_
          refine g_iconst (v := (2 : Int32)) C (ckD_get k_X9_count_0 22 rfl) (by decide) ?_
          have hJ_52 : ∀ (s_9 : Int64), f_X9_count_J52 r_7 s_9 = some r → G K (1, 6) 52 [] [.long s_9, .long r_7] M := by
            intro s_9 hf
            unfold f_X9_count_J52 at hf
            refine g_lmul C (ckD_get k_X9_count_0 31 rfl) ?_
            cases hf
            exact g_lret C (ckD_get k_X9_count_0 32 rfl) hr (hRv _ rfl) (by decide) (by decide)
          refine g_icmp_ne C (ckD_get k_X9_count_0 23 rfl) (fun c_10 => ?_) (fun c_10 => ?_)
          · have hf := if_f hf c_10
            refine g_gets C (ckD_get k_X9_count_0 28 rfl) C.iv.2.2.2.2.1.1 q1085 ?_
            refine g_iload_n 3 C (ckD_get k_X9_count_0 29 rfl) rfl rfl ?_
            obtain ⟨v_11, hi_12, ev_11, hf⟩ := rdS_e hf
            refine g_tl C (ckD_get k_X9_count_0 30 rfl) C.iv.2.2.2.2.1.2 hi_12 ev_11 ?_
            refine G.sub [] rfl ?_
            exact hJ_52 _ hf
          · have hf := if_t hf c_10
            refine g_gets C (ckD_get k_X9_count_0 24 rfl) C.iv.2.2.2.1.1 q1083 ?_
            refine g_iload_n 3 C (ckD_get k_X9_count_0 25 rfl) rfl rfl ?_
            obtain ⟨v_13, hi_14, ev_13, hf⟩ := rdS_e hf
            refine g_tl C (ckD_get k_X9_count_0 26 rfl) C.iv.2.2.2.1.2 hi_14 ev_13 ?_
            refine g_goto C (ckD_get k_X9_count_0 27 rfl) ?_
            refine G.sub [] rfl ?_
            exact hJ_52 _ hf
        · have hf := if_t hf c_8
          refine g_lload_n 0 C (ckD_get k_X9_count_0 16 rfl) rfl rfl ?_
          refine g_lload_n 0 C (ckD_get k_X9_count_0 17 rfl) rfl rfl ?_
          refine g_lmul C (ckD_get k_X9_count_0 18 rfl) ?_
          cases hf
          exact g_lret C (ckD_get k_X9_count_0 19 rfl) hr (hRv _ rfl) (by decide) (by decide)
      · have hf := if_f hf c_5
        refine g_ldc2 C (ckD_get k_X9_count_0 8 rfl) q816 ?_
        cases hf
        exact g_lret C (ckD_get k_X9_count_0 9 rfl) hr (hRv _ rfl) (by decide) (by decide)

set_option maxRecDepth 20000 in
theorem k_X9_rank_0 : ckD cX9_rank [(0, .aload_n 0, 1, 1, 0), (1, .iconst 1, 1, 2, 0), (2, .invokevirtual 195, 3, 5, 0), (5, .aload_n 0, 1, 6, 0), (6, .getfield 30, 3, 9, 0), (9, .invokevirtual 303, 3, 12, 0), (12, .lreturn, 1, 13, 0)] = true := by decide +kernel
def f_X9_rank  (M : Mm) : Option (Option Int64) := lt1 (f_X9_needKind (1 : Int32) M) fun o_2 => tr1 o_2 (some none) fun r_3 => (f_X4_number 11 M).bind fun r_5 => some (some r_5)
set_option maxRecDepth 100000 in
set_option maxHeartbeats 4000000 in
theorem t_X9_rank {E : Ev} {l : Launch} (htr : l.stackTraces = false) (M : Mm) (r : Option Int64) (hf : f_X9_rank M = some r) : CX E l 7 1 6 yX9_rank cX9_rank 1 (some .long) [.ref (E.1 + 0)] M (r.map fun z => some (.long z)) M := by
  refine CX.of htr (by decide +kernel) (Nat.le_of_ble_eq_true rfl) ?_
  intro K hE hL hl hR0 C hr hT hRv hXv
  subst hE
  subst hl
  have C : Cx K cX9_rank RX9 7 := C
  have hRc : 1 ≤ K.1.R.cells ∧ 6 ≤ K.1.R.slots := by rw [hR0]; exact ⟨Nat.le_refl _, Nat.le_refl _⟩
  show G K (0, 0) 0 [(0, .ref (K.2.1.1 + 0))] [] M
  unfold f_X9_rank at hf
  refine g_aload_n 0 C (ckD_get k_X9_rank_0 0 rfl) rfl rfl ?_
  refine g_iconst (v := (1 : Int32)) C (ckD_get k_X9_rank_0 1 rfl) (by decide) ?_
  obtain ⟨o_2, hr_1, hf⟩ := lt_e hf
  cases o_2 with
  | none =>
    have hf := tr_n hf rfl
    cases hf
    exact n_cVXt [.int (1 : Int32)] [] C (ckD_get k_X9_rank_0 2 rfl) vk_X9_195 (t_X9_needKind C.tr _ _ _ hr_1) T0 rfl rfl (Nat.le_of_ble_eq_true rfl) (by decide) ⟨by decide, by decide⟩ hRc hT rfl (hXv rfl)
  | some r_3 =>
    have hf := tr_s hf rfl
    refine n_cVXr [.int (1 : Int32)] [] C (ckD_get k_X9_rank_0 2 rfl) vk_X9_195 (t_X9_needKind C.tr _ _ _ hr_1) T0 rfl rfl (Nat.le_of_ble_eq_true rfl) (by decide) ⟨by decide, by decide⟩ hRc hT rfl rfl ?_
    refine g_aload_n 0 C (ckD_get k_X9_rank_0 3 rfl) rfl rfl ?_
    refine g_getR C (ckD_get k_X9_rank_0 4 rfl) fk_X9_30 T0 rfl ?_
    obtain ⟨r_5, hr_4, hf⟩ := bd_e hf
    refine n_cV [] [] C (ckD_get k_X9_rank_0 5 rfl) vk_X9_303 (t_X4_number C.tr _ (Or.inl rfl) _ _ hr_4) T11 rfl rfl (Nat.le_of_ble_eq_true rfl) (by decide) ⟨Nat.le_trans (by decide) hRc.1, Nat.le_trans (by decide) hRc.2⟩ rfl ?_
    cases hf
    exact g_lret C (ckD_get k_X9_rank_0 6 rfl) hr (hRv _ rfl) (by decide) (by decide)

set_option maxRecDepth 20000 in
theorem k_X9_of_0 : ckD cX9_of [(0, .aload_n 0, 1, 1, 0), (1, .getfield 10, 3, 4, 0), (4, .getfield 71, 3, 7, 0), (7, .invokestatic 292, 3, 10, 0), (10, .lstore_n 3, 1, 11, 0), (11, .aload_n 0, 1, 12, 0), (12, .getfield 10, 3, 15, 0), (15, .getfield 71, 3, 18, 0), (18, .ifCond .eq 17, 3, 21, 35), (21, .lload_n 1, 1, 22, 0), (22, .lconst 0, 1, 23, 0), (23, .lcmp, 1, 24, 0), (24, .ifCond .lt 11, 3, 27, 35), (27, .lload_n 1, 1, 28, 0), (28, .lload_n 3, 1, 29, 0), (29, .lload_n 3, 1, 30, 0), (30, .lmul, 1, 31, 0), (31, .lcmp, 1, 32, 0), (32, .ifCond .lt 5, 3, 35, 37), (35, .iconst 0, 1, 36, 0), (36, .ireturn, 1, 37, 0), (37, .aload_n 0, 1, 38, 0), (38, .getfield 30, 3, 41, 0), (41, .lload_n 1, 1, 42, 0), (42, .aload_n 0, 1, 43, 0), (43, .getfield 10, 3, 46, 0), (46, .getfield 71, 3, 49, 0), (49, .invokevirtual 307, 3, 52, 0), (52, .aload_n 0, 1, 53, 0), (53, .aload_n 0, 1, 54, 0), (54, .getfield 30, 3, 57, 0), (57, .iconst 1, 1, 58, 0), (58, .iconst 0, 1, 59, 0), (59, .invokevirtual 148, 3, 62, 0), (62, .iconst 1, 1, 63, 0), (63, .ireturn, 1, 64, 0)] = true := by decide +kernel
def f_X9_of (a1 : Int64) (M : Mm) : Option (Int32 × Mm) := (f_X9_factorial (M.1 1 3) M).bind fun r_2 => if (M.1 1 3) = 0 then some ((0 : Int32), M) else if (lg_cmp a1 (0 : Int64)) < 0 then some ((0 : Int32), M) else if (lg_cmp a1 (r_2 * r_2)) < 0 then (f_X4_readNumber 11 a1 (M.1 1 3) M).bind fun M_7 => (f_X9_layOut 11 (1 : Int32) (0 : Int32) M_7).bind fun M_9 => some ((1 : Int32), M_9) else some ((0 : Int32), M)
set_option maxRecDepth 100000 in
set_option maxHeartbeats 4000000 in
theorem t_X9_of {E : Ev} {l : Launch} (htr : l.stackTraces = false) (a1 : Int64) (M : Mm) (r : (Int32 × Mm)) (hf : f_X9_of a1 M = some r) : CM E l 5 0 0 yX9_of cX9_of 5 (some .boolean) [.ref (E.1 + 0), .long a1] M (some (.int r.1)) r.2 := by
  refine CM.of htr (by decide +kernel) (Nat.le_of_ble_eq_true rfl) ?_
  intro K hE hL hl hR0 C hr hRv
  subst hE
  subst hl
  have C : Cx K cX9_of RX9 5 := C
  have hB : (0 : Nat) ≤ K.1.R.cells ∧ 0 ≤ K.1.R.slots := ⟨Nat.zero_le _, Nat.zero_le _⟩
  have hL4 : 4 < K.2.2.1 := by rw [hL]; decide
  show G K (0, 0) 0 [(0, .ref (K.2.1.1 + 0)), (1, .long a1)] [] M
  unfold f_X9_of at hf
  refine g_aload_n 0 C (ckD_get k_X9_of_0 0 rfl) rfl rfl ?_
  refine g_getR C (ckD_get k_X9_of_0 1 rfl) fk_X9_10 T0 rfl ?_
  refine g_getI C (ckD_get k_X9_of_0 2 rfl) fk_X9_71 T1 rfl ?_
  obtain ⟨r_2, hr_1, hf⟩ := bd_e hf
  refine n_cS [.int (M.1 1 3)] [] C (ckD_get k_X9_of_0 3 rfl) sk_X9_292 (t_X9_factorial C.tr _ _ _ hr_1) rfl rfl (Nat.le_of_ble_eq_true rfl) (by decide) hB rfl ?_
  refine g_lstore_n (lv' := [(3, _), (0, _), (1, _)]) C (ckD_get k_X9_of_0 4 rfl) rfl hL4 rfl ?_
  refine g_aload_n 1 C (ckD_get k_X9_of_0 5 rfl) rfl rfl ?_
  refine g_getR C (ckD_get k_X9_of_0 6 rfl) fk_X9_10 T0 rfl ?_
  refine g_getI C (ckD_get k_X9_of_0 7 rfl) fk_X9_71 T1 rfl ?_
  refine g_if_eq C (ckD_get k_X9_of_0 8 rfl) (fun c_3 => ?_) (fun c_3 => ?_)
  · have hf := if_t hf c_3
    refine g_iconst (v := (0 : Int32)) C (ckD_get k_X9_of_0 19 rfl) (by decide) ?_
    cases hf
    exact g_zret C (ckD_get k_X9_of_0 20 rfl) hr rfl hRv (Nat.le_refl _) (Nat.le_refl _)
  · have hf := if_f hf c_3
    refine g_lload_n 2 C (ckD_get k_X9_of_0 9 rfl) rfl rfl ?_
    refine g_lconst (v := (0 : Int64)) C (ckD_get k_X9_of_0 10 rfl) (by decide) ?_
    refine g_lcmp C (ckD_get k_X9_of_0 11 rfl) ?_
    refine g_if_lt C (ckD_get k_X9_of_0 12 rfl) (fun c_4 => ?_) (fun c_4 => ?_)
    · have hf := if_t hf c_4
      refine g_iconst (v := (0 : Int32)) C (ckD_get k_X9_of_0 19 rfl) (by decide) ?_
      cases hf
      exact g_zret C (ckD_get k_X9_of_0 20 rfl) hr rfl hRv (Nat.le_refl _) (Nat.le_refl _)
    · have hf := if_f hf c_4
      refine g_lload_n 2 C (ckD_get k_X9_of_0 13 rfl) rfl rfl ?_
      refine g_lload_n 0 C (ckD_get k_X9_of_0 14 rfl) rfl rfl ?_
      refine g_lload_n 0 C (ckD_get k_X9_of_0 15 rfl) rfl rfl ?_
      refine g_lmul C (ckD_get k_X9_of_0 16 rfl) ?_
      refine g_lcmp C (ckD_get k_X9_of_0 17 rfl) ?_
      refine g_if_lt C (ckD_get k_X9_of_0 18 rfl) (fun c_5 => ?_) (fun c_5 => ?_)
      · have hf := if_t hf c_5
        refine g_aload_n 1 C (ckD_get k_X9_of_0 21 rfl) rfl rfl ?_
        refine g_getR C (ckD_get k_X9_of_0 22 rfl) fk_X9_30 T0 rfl ?_
        refine g_lload_n 2 C (ckD_get k_X9_of_0 23 rfl) rfl rfl ?_
        refine g_aload_n 1 C (ckD_get k_X9_of_0 24 rfl) rfl rfl ?_
        refine g_getR C (ckD_get k_X9_of_0 25 rfl) fk_X9_10 T0 rfl ?_
        refine g_getI C (ckD_get k_X9_of_0 26 rfl) fk_X9_71 T1 rfl ?_
        obtain ⟨M_7, hr_6, hf⟩ := bd_e hf
        refine n_cV [.long a1, .int (M.1 1 3)] [] C (ckD_get k_X9_of_0 27 rfl) vk_X9_307 (t_X4_readNumber C.tr _ (Or.inl rfl) _ _ _ _ hr_6) T11 rfl rfl (Nat.le_of_ble_eq_true rfl) (by decide) hB rfl ?_
        refine g_aload_n 1 C (ckD_get k_X9_of_0 28 rfl) rfl rfl ?_
        refine g_aload_n 1 C (ckD_get k_X9_of_0 29 rfl) rfl rfl ?_
        refine g_getR C (ckD_get k_X9_of_0 30 rfl) fk_X9_30 T0 rfl ?_
        refine g_iconst (v := (1 : Int32)) C (ckD_get k_X9_of_0 31 rfl) (by decide) ?_
        refine g_iconst (v := (0 : Int32)) C (ckD_get k_X9_of_0 32 rfl) (by decide) ?_
        obtain ⟨M_9, hr_8, hf⟩ := bd_e hf
        refine n_cV [.ref (K.2.1.1 + 11), .int (1 : Int32), .int (0 : Int32)] [] C (ckD_get k_X9_of_0 33 rfl) vk_X9_148 (t_X9_layOut C.tr _ _ _ _ _ hr_8) T0 rfl rfl (Nat.le_of_ble_eq_true rfl) (by decide) hB rfl ?_
        refine g_iconst (v := (1 : Int32)) C (ckD_get k_X9_of_0 34 rfl) (by decide) ?_
        cases hf
        exact g_zret C (ckD_get k_X9_of_0 35 rfl) hr rfl hRv (Nat.le_refl _) (Nat.le_refl _)
      · have hf := if_f hf c_5
        refine g_iconst (v := (0 : Int32)) C (ckD_get k_X9_of_0 19 rfl) (by decide) ?_
        cases hf
        exact g_zret C (ckD_get k_X9_of_0 20 rfl) hr rfl hRv (Nat.le_refl _) (Nat.le_refl _)

set_option maxRecDepth 20000 in
theorem k_X10_thrown_0 : ckD cX10_thrown [(0, .aload_n 0, 1, 1, 0), (1, .getfield 121, 3, 4, 0), (4, .ireturn, 1, 5, 0)] = true := by decide +kernel
def f_X10_thrown  (M : Mm) : Int32 := (M.1 69 0)
set_option maxRecDepth 100000 in
set_option maxHeartbeats 4000000 in
theorem t_X10_thrown {E : Ev} {l : Launch} (htr : l.stackTraces = false) (M : Mm) (r : Int32) (hf : f_X10_thrown M = r) : CM E l 0 0 0 yX10_thrown cX10_thrown 1 (some .int) [.ref (E.1 + 69)] M (some (.int r)) M := by
  refine CM.of htr (by decide +kernel) (Nat.le_of_ble_eq_true rfl) ?_
  intro K hE hL hl hR0 C hr hRv
  subst hE
  subst hl
  have C : Cx K cX10_thrown RX10 0 := C
  have hB : (0 : Nat) ≤ K.1.R.cells ∧ 0 ≤ K.1.R.slots := ⟨Nat.zero_le _, Nat.zero_le _⟩
  show G K (0, 0) 0 [(0, .ref (K.2.1.1 + 69))] [] M
  unfold f_X10_thrown at hf
  refine g_aload_n 0 C (ckD_get k_X10_thrown_0 0 rfl) rfl rfl ?_
  refine g_getI C (ckD_get k_X10_thrown_0 1 rfl) fk_X10_121 T69 rfl ?_
  cases hf
  exact g_iret C (ckD_get k_X10_thrown_0 2 rfl) hr hRv (Nat.le_refl _) (Nat.le_refl _)

set_option maxRecDepth 20000 in
theorem k_X10_fail_0 : ckD cX10_fail [(0, .aload_n 0, 1, 1, 0), (1, .iconst 1, 1, 2, 0), (2, .putfield 121, 3, 5, 0), (5, .iconst 0, 1, 6, 0), (6, .ireturn, 1, 7, 0)] = true := by decide +kernel
def f_X10_fail  (M : Mm) : (Int32 × Mm) := lt1 (wi M 69 0 (1 : Int32)) fun M_1 => ((0 : Int32), M_1)
set_option maxRecDepth 100000 in
set_option maxHeartbeats 4000000 in
theorem t_X10_fail {E : Ev} {l : Launch} (htr : l.stackTraces = false) (M : Mm) (r : (Int32 × Mm)) (hf : f_X10_fail M = r) : CM E l 0 0 0 yX10_fail cX10_fail 1 (some .int) [.ref (E.1 + 69)] M (some (.int r.1)) r.2 := by
  refine CM.of htr (by decide +kernel) (Nat.le_of_ble_eq_true rfl) ?_
  intro K hE hL hl hR0 C hr hRv
  subst hE
  subst hl
  have C : Cx K cX10_fail RX10 0 := C
  have hB : (0 : Nat) ≤ K.1.R.cells ∧ 0 ≤ K.1.R.slots := ⟨Nat.zero_le _, Nat.zero_le _⟩
  show G K (0, 0) 0 [(0, .ref (K.2.1.1 + 69))] [] M
  unfold f_X10_fail at hf
  refine g_aload_n 0 C (ckD_get k_X10_fail_0 0 rfl) rfl rfl ?_
  refine g_iconst (v := (1 : Int32)) C (ckD_get k_X10_fail_0 1 rfl) (by decide) ?_
  obtain ⟨M_1, eM_1, hf⟩ := lt_e hf
  refine g_putI C (ckD_get k_X10_fail_0 2 rfl) fk_X10_121 T69 rfl ?_
  refine memI eM_1 ?_
  refine g_iconst (v := (0 : Int32)) C (ckD_get k_X10_fail_0 3 rfl) (by decide) ?_
  cases hf
  exact g_iret C (ckD_get k_X10_fail_0 4 rfl) hr hRv (Nat.le_refl _) (Nat.le_refl _)

set_option maxRecDepth 20000 in
theorem k_X10_isBlock_0 : ckD cX10_isBlock [(0, .iload_n 1, 1, 1, 0), (1, .ifCond .lt 15, 3, 4, 16), (4, .iload_n 1, 1, 5, 0), (5, .aload_n 0, 1, 6, 0), (6, .getfield 124, 3, 9, 0), (9, .if_icmp .ge 7, 3, 12, 16), (12, .iconst 1, 1, 13, 0), (13, .goto 4, 3, 16, 17), (16, .iconst 0, 1, 17, 0), (17, .ireturn, 1, 18, 0)] = true := by decide +kernel
def f_X10_isBlock (a1 : Int32) (M : Mm) : Int32 := if a1 < 0 then (0 : Int32) else if (M.1 69 1) ≤ a1 then (0 : Int32) else (1 : Int32)
set_option maxRecDepth 100000 in
set_option maxHeartbeats 4000000 in
theorem t_X10_isBlock {E : Ev} {l : Launch} (htr : l.stackTraces = false) (a1 : Int32) (M : Mm) (r : Int32) (hf : f_X10_isBlock a1 M = r) : CM E l 0 0 0 yX10_isBlock cX10_isBlock 2 (some .boolean) [.ref (E.1 + 69), .int a1] M (some (.int r)) M := by
  refine CM.of htr (by decide +kernel) (Nat.le_of_ble_eq_true rfl) ?_
  intro K hE hL hl hR0 C hr hRv
  subst hE
  subst hl
  have C : Cx K cX10_isBlock RX10 0 := C
  have hB : (0 : Nat) ≤ K.1.R.cells ∧ 0 ≤ K.1.R.slots := ⟨Nat.zero_le _, Nat.zero_le _⟩
  show G K (0, 0) 0 [(0, .ref (K.2.1.1 + 69)), (1, .int a1)] [] M
  unfold f_X10_isBlock at hf
  refine g_iload_n 1 C (ckD_get k_X10_isBlock_0 0 rfl) rfl rfl ?_
  refine g_if_lt C (ckD_get k_X10_isBlock_0 1 rfl) (fun c_1 => ?_) (fun c_1 => ?_)
  · have hf := if_t hf c_1
    refine g_iconst (v := (0 : Int32)) C (ckD_get k_X10_isBlock_0 8 rfl) (by decide) ?_
    cases hf
    exact g_zret C (ckD_get k_X10_isBlock_0 9 rfl) hr rfl hRv (Nat.le_refl _) (Nat.le_refl _)
  · have hf := if_f hf c_1
    refine g_iload_n 1 C (ckD_get k_X10_isBlock_0 2 rfl) rfl rfl ?_
    refine g_aload_n 0 C (ckD_get k_X10_isBlock_0 3 rfl) rfl rfl ?_
    refine g_getI C (ckD_get k_X10_isBlock_0 4 rfl) fk_X10_124 T69 rfl ?_
    refine g_icmp_ge C (ckD_get k_X10_isBlock_0 5 rfl) (fun c_2 => ?_) (fun c_2 => ?_)
    · have hf := if_t hf c_2
      refine g_iconst (v := (0 : Int32)) C (ckD_get k_X10_isBlock_0 8 rfl) (by decide) ?_
      cases hf
      exact g_zret C (ckD_get k_X10_isBlock_0 9 rfl) hr rfl hRv (Nat.le_refl _) (Nat.le_refl _)
    · have hf := if_f hf c_2
      refine g_iconst (v := (1 : Int32)) C (ckD_get k_X10_isBlock_0 6 rfl) (by decide) ?_
      refine g_goto C (ckD_get k_X10_isBlock_0 7 rfl) ?_
      cases hf
      exact g_zret C (ckD_get k_X10_isBlock_0 9 rfl) hr rfl hRv (Nat.le_refl _) (Nat.le_refl _)

set_option maxRecDepth 20000 in
theorem k_X10_wide_0 : ckD cX10_wide [(0, .aload_n 0, 1, 1, 0), (1, .getfield 127, 3, 4, 0), (4, .iload_n 1, 1, 5, 0), (5, .ishr, 1, 6, 0), (6, .iconst 1, 1, 7, 0), (7, .iand, 1, 8, 0), (8, .iconst 1, 1, 9, 0), (9, .if_icmp .ne 12, 3, 12, 21), (12, .aload_n 0, 1, 13, 0), (13, .getfield 13, 3, 16, 0), (16, .iload_n 1, 1, 17, 0), (17, .iaload, 1, 18, 0), (18, .goto 9, 3, 21, 27), (21, .aload_n 0, 1, 22, 0), (22, .getfield 9, 3, 25, 0), (25, .iload_n 1, 1, 26, 0), (26, .iaload, 1, 27, 0), (27, .ireturn, 1, 28, 0)] = true := by decide +kernel
def f_X10_wide (a1 : Int32) (M : Mm) : Option Int32 := if (((M.1 69 7) >>> (a1 &&& 31)) &&& (1 : Int32)) = (1 : Int32) then rdI 12 M 71 a1 fun v_4 => some v_4 else rdI 12 M 70 a1 fun v_2 => some v_2
set_option maxRecDepth 100000 in
set_option maxHeartbeats 4000000 in
theorem t_X10_wide {E : Ev} {l : Launch} (htr : l.stackTraces = false) (a1 : Int32) (M : Mm) (r : Int32) (hf : f_X10_wide a1 M = some r) : CM E l 0 0 0 yX10_wide cX10_wide 2 (some .int) [.ref (E.1 + 69), .int a1] M (some (.int r)) M := by
  refine CM.of htr (by decide +kernel) (Nat.le_of_ble_eq_true rfl) ?_
  intro K hE hL hl hR0 C hr hRv
  subst hE
  subst hl
  have C : Cx K cX10_wide RX10 0 := C
  have hB : (0 : Nat) ≤ K.1.R.cells ∧ 0 ≤ K.1.R.slots := ⟨Nat.zero_le _, Nat.zero_le _⟩
  show G K (0, 0) 0 [(0, .ref (K.2.1.1 + 69)), (1, .int a1)] [] M
  unfold f_X10_wide at hf
  refine g_aload_n 0 C (ckD_get k_X10_wide_0 0 rfl) rfl rfl ?_
  refine g_getI C (ckD_get k_X10_wide_0 1 rfl) fk_X10_127 T69 rfl ?_
  refine g_iload_n 1 C (ckD_get k_X10_wide_0 2 rfl) rfl rfl ?_
  refine g_ishr C (ckD_get k_X10_wide_0 3 rfl) ?_
  refine g_iconst (v := (1 : Int32)) C (ckD_get k_X10_wide_0 4 rfl) (by decide) ?_
  refine g_iand C (ckD_get k_X10_wide_0 5 rfl) ?_
  refine g_iconst (v := (1 : Int32)) C (ckD_get k_X10_wide_0 6 rfl) (by decide) ?_
  refine g_icmp_ne C (ckD_get k_X10_wide_0 7 rfl) (fun c_1 => ?_) (fun c_1 => ?_)
  · have hf := if_f hf c_1
    refine g_aload_n 0 C (ckD_get k_X10_wide_0 13 rfl) rfl rfl ?_
    refine g_getR C (ckD_get k_X10_wide_0 14 rfl) fk_X10_9 T69 rfl ?_
    refine g_iload_n 1 C (ckD_get k_X10_wide_0 15 rfl) rfl rfl ?_
    obtain ⟨v_2, hi_3, ev_2, hf⟩ := rdI_e hf
    refine n_iald C (ckD_get k_X10_wide_0 16 rfl) T70 hi_3 ev_2 ?_
    cases hf
    exact g_iret C (ckD_get k_X10_wide_0 17 rfl) hr hRv (Nat.le_refl _) (Nat.le_refl _)
  · have hf := if_t hf c_1
    refine g_aload_n 0 C (ckD_get k_X10_wide_0 8 rfl) rfl rfl ?_
    refine g_getR C (ckD_get k_X10_wide_0 9 rfl) fk_X10_13 T69 rfl ?_
    refine g_iload_n 1 C (ckD_get k_X10_wide_0 10 rfl) rfl rfl ?_
    obtain ⟨v_4, hi_5, ev_4, hf⟩ := rdI_e hf
    refine n_iald C (ckD_get k_X10_wide_0 11 rfl) T71 hi_5 ev_4 ?_
    refine g_goto C (ckD_get k_X10_wide_0 12 rfl) ?_
    cases hf
    exact g_iret C (ckD_get k_X10_wide_0 17 rfl) hr hRv (Nat.le_refl _) (Nat.le_refl _)

set_option maxRecDepth 20000 in
theorem k_X10_high_0 : ckD cX10_high [(0, .aload_n 0, 1, 1, 0), (1, .getfield 127, 3, 4, 0), (4, .iload_n 1, 1, 5, 0), (5, .ishr, 1, 6, 0), (6, .iconst 1, 1, 7, 0), (7, .iand, 1, 8, 0), (8, .iconst 1, 1, 9, 0), (9, .if_icmp .ne 12, 3, 12, 21), (12, .aload_n 0, 1, 13, 0), (13, .getfield 9, 3, 16, 0), (16, .iload_n 1, 1, 17, 0), (17, .iaload, 1, 18, 0), (18, .goto 9, 3, 21, 27), (21, .aload_n 0, 1, 22, 0), (22, .getfield 13, 3, 25, 0), (25, .iload_n 1, 1, 26, 0), (26, .iaload, 1, 27, 0), (27, .ireturn, 1, 28, 0)] = true := by decide +kernel
def f_X10_high (a1 : Int32) (M : Mm) : Option Int32 := if (((M.1 69 7) >>> (a1 &&& 31)) &&& (1 : Int32)) = (1 : Int32) then rdI 12 M 70 a1 fun v_4 => some v_4 else rdI 12 M 71 a1 fun v_2 => some v_2
set_option maxRecDepth 100000 in
set_option maxHeartbeats 4000000 in
theorem t_X10_high {E : Ev} {l : Launch} (htr : l.stackTraces = false) (a1 : Int32) (M : Mm) (r : Int32) (hf : f_X10_high a1 M = some r) : CM E l 0 0 0 yX10_high cX10_high 2 (some .int) [.ref (E.1 + 69), .int a1] M (some (.int r)) M := by
  refine CM.of htr (by decide +kernel) (Nat.le_of_ble_eq_true rfl) ?_
  intro K hE hL hl hR0 C hr hRv
  subst hE
  subst hl
  have C : Cx K cX10_high RX10 0 := C
  have hB : (0 : Nat) ≤ K.1.R.cells ∧ 0 ≤ K.1.R.slots := ⟨Nat.zero_le _, Nat.zero_le _⟩
  show G K (0, 0) 0 [(0, .ref (K.2.1.1 + 69)), (1, .int a1)] [] M
  unfold f_X10_high at hf
  refine g_aload_n 0 C (ckD_get k_X10_high_0 0 rfl) rfl rfl ?_
  refine g_getI C (ckD_get k_X10_high_0 1 rfl) fk_X10_127 T69 rfl ?_
  refine g_iload_n 1 C (ckD_get k_X10_high_0 2 rfl) rfl rfl ?_
  refine g_ishr C (ckD_get k_X10_high_0 3 rfl) ?_
  refine g_iconst (v := (1 : Int32)) C (ckD_get k_X10_high_0 4 rfl) (by decide) ?_
  refine g_iand C (ckD_get k_X10_high_0 5 rfl) ?_
  refine g_iconst (v := (1 : Int32)) C (ckD_get k_X10_high_0 6 rfl) (by decide) ?_
  refine g_icmp_ne C (ckD_get k_X10_high_0 7 rfl) (fun c_1 => ?_) (fun c_1 => ?_)
  · have hf := if_f hf c_1
    refine g_aload_n 0 C (ckD_get k_X10_high_0 13 rfl) rfl rfl ?_
    refine g_getR C (ckD_get k_X10_high_0 14 rfl) fk_X10_13 T69 rfl ?_
    refine g_iload_n 1 C (ckD_get k_X10_high_0 15 rfl) rfl rfl ?_
    obtain ⟨v_2, hi_3, ev_2, hf⟩ := rdI_e hf
    refine n_iald C (ckD_get k_X10_high_0 16 rfl) T71 hi_3 ev_2 ?_
    cases hf
    exact g_iret C (ckD_get k_X10_high_0 17 rfl) hr hRv (Nat.le_refl _) (Nat.le_refl _)
  · have hf := if_t hf c_1
    refine g_aload_n 0 C (ckD_get k_X10_high_0 8 rfl) rfl rfl ?_
    refine g_getR C (ckD_get k_X10_high_0 9 rfl) fk_X10_9 T69 rfl ?_
    refine g_iload_n 1 C (ckD_get k_X10_high_0 10 rfl) rfl rfl ?_
    obtain ⟨v_4, hi_5, ev_4, hf⟩ := rdI_e hf
    refine n_iald C (ckD_get k_X10_high_0 11 rfl) T70 hi_5 ev_4 ?_
    refine g_goto C (ckD_get k_X10_high_0 12 rfl) ?_
    cases hf
    exact g_iret C (ckD_get k_X10_high_0 17 rfl) hr hRv (Nat.le_refl _) (Nat.le_refl _)

set_option maxRecDepth 20000 in
theorem k_X10_turnable_0 : ckD cX10_turnable [(0, .iconst 0, 1, 1, 0), (1, .istore_n 1, 1, 2, 0), (2, .iconst 0, 1, 3, 0), (3, .istore_n 2, 1, 4, 0), (4, .iload_n 2, 1, 5, 0), (5, .aload_n 0, 1, 6, 0), (6, .getfield 124, 3, 9, 0), (9, .if_icmp .ge 24, 3, 12, 33), (12, .aload_n 0, 1, 13, 0), (13, .getfield 19, 3, 16, 0), (16, .iload_n 2, 1, 17, 0), (17, .baload, 1, 18, 0), (18, .ifCond .eq 9, 3, 21, 27), (21, .iload_n 1, 1, 22, 0), (22, .iconst 1, 1, 23, 0), (23, .iload_n 2, 1, 24, 0), (24, .ishl, 1, 25, 0), (25, .ior, 1, 26, 0), (26, .istore_n 1, 1, 27, 0), (27, .iinc 2 1, 3, 30, 0), (30, .goto (-26), 3, 33, 4), (33, .iload_n 1, 1, 34, 0), (34, .ireturn, 1, 35, 0)] = true := by decide +kernel
def f_X10_turnable_A4 (x1_3 : Int32) : Option Int32 := some x1_3
def f_X10_turnable_J27 (x2_2 : Int32) (p1_7 : Int32) : Option ((Int32 × Int32) ⊕ Int32) := lt1 (x2_2 + 1) fun x2_8 => some (.inl (p1_7, x2_8))
def f_X10_turnable_L4 (M : Mm) (x1_1 : Int32) (x2_2 : Int32) : Option ((Int32 × Int32) ⊕ Int32) := if (M.1 69 1) ≤ x2_2 then some (.inr x1_1) else rdI 12 M 73 x2_2 fun v_5 => if v_5 = 0 then f_X10_turnable_J27 x2_2 x1_1 else lt1 (x1_1 ||| ((1 : Int32) <<< (x2_2 &&& 31))) fun x1_10 => f_X10_turnable_J27 x2_2 x1_10
def f_X10_turnable  (M : Mm) : Option Int32 := (loop (fun v => f_X10_turnable_L4 M v.1 v.2) FU ((0 : Int32), (0 : Int32))).bind fun z => f_X10_turnable_A4 z
set_option maxRecDepth 100000 in
set_option maxHeartbeats 4000000 in
theorem t_X10_turnable {E : Ev} {l : Launch} (htr : l.stackTraces = false) (M : Mm) (r : Int32) (hf : f_X10_turnable M = some r) : CM E l 0 0 0 yX10_turnable cX10_turnable 3 (some .int) [.ref (E.1 + 69)] M (some (.int r)) M := by
  refine CM.of htr (by decide +kernel) (Nat.le_of_ble_eq_true rfl) ?_
  intro K hE hL hl hR0 C hr hRv
  subst hE
  subst hl
  have C : Cx K cX10_turnable RX10 0 := C
  have hB : (0 : Nat) ≤ K.1.R.cells ∧ 0 ≤ K.1.R.slots := ⟨Nat.zero_le _, Nat.zero_le _⟩
  have hL1 : 1 < K.2.2.1 := by rw [hL]; decide
  have hL2 : 2 < K.2.2.1 := by rw [hL]; decide
  show G K (0, 0) 0 [(0, .ref (K.2.1.1 + 69))] [] M
  unfold f_X10_turnable at hf
  refine g_iconst (v := (0 : Int32)) C (ckD_get k_X10_turnable_0 0 rfl) (by decide) ?_
  refine g_istore_n (lv' := [(1, _), (0, _)]) C (ckD_get k_X10_turnable_0 1 rfl) rfl hL1 rfl ?_
  refine g_iconst (v := (0 : Int32)) C (ckD_get k_X10_turnable_0 2 rfl) (by decide) ?_
  refine g_istore_n (lv' := [(2, _), (1, _), (0, _)]) C (ckD_get k_X10_turnable_0 3 rfl) rfl hL2 rfl ?_
  refine G.sub [2, 1, 0] rfl ?_
  obtain ⟨x1_3, hx_4, hf⟩ := bd_e hf
  have hE_4 : G K (0, 0) 33 [(1, .int x1_3)] [] M := by
    have hf : f_X10_turnable_A4 x1_3 = some r := hf
    unfold f_X10_turnable_A4 at hf
    refine g_iload_n 0 C (ckD_get k_X10_turnable_0 21 rfl) rfl rfl ?_
    cases hf
    exact g_iret C (ckD_get k_X10_turnable_0 22 rfl) hr hRv (Nat.le_refl _) (Nat.le_refl _)
  refine loop_e (x := x1_3) (P := fun (v : (Int32 × Int32)) => G K (0, 0) 4 [(0, .ref (K.2.1.1 + 69)), (1, .int v.1), (2, .int v.2)] [] M) ?_ FU _ hx_4
  intro v rr_4 hf hn_4 hz_4
  obtain ⟨x1_1, x2_2⟩ := v
  have hf : f_X10_turnable_L4 M x1_1 x2_2 = some rr_4 := hf
  show G K (0, 0) 4 [(0, .ref (K.2.1.1 + 69)), (1, .int x1_1), (2, .int x2_2)] [] M
  unfold f_X10_turnable_L4 at hf
  refine g_iload_n 2 C (ckD_get k_X10_turnable_0 4 rfl) rfl rfl ?_
  refine g_aload_n 0 C (ckD_get k_X10_turnable_0 5 rfl) rfl rfl ?_
  refine g_getI C (ckD_get k_X10_turnable_0 6 rfl) fk_X10_124 T69 rfl ?_
  refine g_icmp_ge C (ckD_get k_X10_turnable_0 7 rfl) (fun c_4 => ?_) (fun c_4 => ?_)
  · have hf := if_t hf c_4
    refine G.sub [1] rfl ?_
    cases hf
    cases hz_4 _ rfl
    exact hE_4
  · have hf := if_f hf c_4
    refine g_aload_n 0 C (ckD_get k_X10_turnable_0 8 rfl) rfl rfl ?_
    refine g_getR C (ckD_get k_X10_turnable_0 9 rfl) fk_X10_19 T69 rfl ?_
    refine g_iload_n 2 C (ckD_get k_X10_turnable_0 10 rfl) rfl rfl ?_
    obtain ⟨v_5, hi_6, ev_5, hf⟩ := rdI_e hf
    refine n_zald C (ckD_get k_X10_turnable_0 11 rfl) T73 hi_6 ev_5 ?_
    have hJ_27 : ∀ (p1_7 : Int32), f_X10_turnable_J27 x2_2 p1_7 = some rr_4 → G K (0, 0) 27 [(0, .ref (K.2.1.1 + 69)), (1, .int p1_7), (2, .int x2_2)] [] M := by
      intro p1_7 hf
      unfold f_X10_turnable_J27 at hf
      obtain ⟨x2_8, ex2_8, hf⟩ := lt_e hf
      refine g_iinc (lv' := [(2, _), (0, _), (1, _)]) 2 C (ckD_get k_X10_turnable_0 19 rfl) rfl ex2_8 hL2 rfl ?_
      refine g_goto C (ckD_get k_X10_turnable_0 20 rfl) ?_
      refine G.sub [1, 2, 0] rfl ?_
      cases hf
      exact hn_4 _ rfl
    refine g_if_eq C (ckD_get k_X10_turnable_0 12 rfl) (fun c_9 => ?_) (fun c_9 => ?_)
    · have hf := if_t hf c_9
      exact hJ_27 _ hf
    · have hf := if_f hf c_9
      refine g_iload_n 1 C (ckD_get k_X10_turnable_0 13 rfl) rfl rfl ?_
      refine g_iconst (v := (1 : Int32)) C (ckD_get k_X10_turnable_0 14 rfl) (by decide) ?_
      refine g_iload_n 2 C (ckD_get k_X10_turnable_0 15 rfl) rfl rfl ?_
      refine g_ishl C (ckD_get k_X10_turnable_0 16 rfl) ?_
      refine g_ior C (ckD_get k_X10_turnable_0 17 rfl) ?_
      obtain ⟨x1_10, ex1_10, hf⟩ := lt_e hf
      refine topI ex1_10 ?_
      refine g_istore_n (lv' := [(1, _), (0, _), (2, _)]) C (ckD_get k_X10_turnable_0 18 rfl) rfl hL1 rfl ?_
      refine G.sub [1, 0, 2] rfl ?_
      exact hJ_27 _ hf

set_option maxRecDepth 20000 in
theorem k_X10_block_0 : ckD cX10_block [(0, .aload_n 0, 1, 1, 0), (1, .iconst 0, 1, 2, 0), (2, .putfield 121, 3, 5, 0), (5, .aload_n 0, 1, 6, 0), (6, .getfield 124, 3, 9, 0), (9, .bipush 12, 2, 11, 0), (11, .if_icmp .eq 27, 3, 14, 38), (14, .iload_n 1, 1, 15, 0), (15, .iconst 1, 1, 16, 0), (16, .if_icmp .lt 22, 3, 19, 38), (19, .iload_n 1, 1, 20, 0), (20, .sipush 200, 3, 23, 0), (23, .if_icmp .gt 15, 3, 26, 38), (26, .iload_n 2, 1, 27, 0), (27, .iconst 1, 1, 28, 0), (28, .if_icmp .lt 10, 3, 31, 38), (31, .iload_n 2, 1, 32, 0), (32, .sipush 200, 3, 35, 0), (35, .if_icmp .le 5, 3, 38, 40), (38, .iconst (-1), 1, 39, 0), (39, .ireturn, 1, 40, 0), (40, .aload_n 0, 1, 41, 0), (41, .getfield 9, 3, 44, 0), (44, .aload_n 0, 1, 45, 0), (45, .getfield 124, 3, 48, 0), (48, .iload_n 1, 1, 49, 0), (49, .iastore, 1, 50, 0), (50, .aload_n 0, 1, 51, 0), (51, .getfield 13, 3, 54, 0), (54, .aload_n 0, 1, 55, 0), (55, .getfield 124, 3, 58, 0), (58, .iload_n 2, 1, 59, 0), (59, .iastore, 1, 60, 0), (60, .aload_n 0, 1, 61, 0), (61, .getfield 19, 3, 64, 0), (64, .aload_n 0, 1, 65, 0), (65, .getfield 124, 3, 68, 0), (68, .iload_n 3, 1, 69, 0), (69, .bastore, 1, 70, 0), (70, .aload_n 0, 1, 71, 0)] = true := by decide +kernel
set_option maxRecDepth 20000 in
theorem k_X10_block_1 : ckD cX10_block [(71, .dup, 1, 72, 0), (72, .getfield 124, 3, 75, 0), (75, .iconst 1, 1, 76, 0), (76, .iadd, 1, 77, 0), (77, .putfield 124, 3, 80, 0), (80, .aload_n 0, 1, 81, 0), (81, .iconst (-1), 1, 82, 0), (82, .putfield 23, 3, 85, 0), (85, .aload_n 0, 1, 86, 0), (86, .getfield 124, 3, 89, 0), (89, .iconst 1, 1, 90, 0), (90, .isub, 1, 91, 0), (91, .ireturn, 1, 92, 0)] = true := by decide +kernel
def f_X10_block (a1 : Int32) (a2 : Int32) (a3 : Int32) (M : Mm) : Option (Int32 × Mm) := lt1 (wi M 69 0 (0 : Int32)) fun M_1 => if (M_1.1 69 1) = (12 : Int32) then some ((-1 : Int32), M_1) else if a1 < (1 : Int32) then some ((-1 : Int32), M_1) else if (200 : Int32) < a1 then some ((-1 : Int32), M_1) else if a2 < (1 : Int32) then some ((-1 : Int32), M_1) else if a2 ≤ (200 : Int32) then wrI 12 M_1 70 (M_1.1 69 1) a1 fun M_7 => wrI 12 M_7 71 (M_7.1 69 1) a2 fun M_9 => wrI 12 M_9 73 (M_9.1 69 1) (vp_nar .boolean a3) fun M_11 => lt1 (wi M_11 69 1 ((M_11.1 69 1) + (1 : Int32))) fun M_13 => lt1 (wi M_13 69 6 (-1 : Int32)) fun M_14 => some (((M_14.1 69 1) - (1 : Int32)), M_14) else some ((-1 : Int32), M_1)
set_option maxRecDepth 100000 in
set_option maxHeartbeats 4000000 in
theorem t_X10_block {E : Ev} {l : Launch} (htr : l.stackTraces = false) (a1 : Int32) (a2 : Int32) (a3 : Int32) (M : Mm) (r : (Int32 × Mm)) (hf : f_X10_block a1 a2 a3 M = some r) : CM E l 0 0 0 yX10_block cX10_block 4 (some .int) [.ref (E.1 + 69), .int a1, .int a2, .int a3] M (some (.int r.1)) r.2 := by
  refine CM.of htr (by decide +kernel) (Nat.le_of_ble_eq_true rfl) ?_
  intro K hE hL hl hR0 C hr hRv
  subst hE
  subst hl
  have C : Cx K cX10_block RX10 0 := C
  have hB : (0 : Nat) ≤ K.1.R.cells ∧ 0 ≤ K.1.R.slots := ⟨Nat.zero_le _, Nat.zero_le _⟩
  show G K (0, 0) 0 [(0, .ref (K.2.1.1 + 69)), (1, .int a1), (2, .int a2), (3, .int a3)] [] M
  unfold f_X10_block at hf
  refine g_aload_n 0 C (ckD_get k_X10_block_0 0 rfl) rfl rfl ?_
  refine g_iconst (v := (0 : Int32)) C (ckD_get k_X10_block_0 1 rfl) (by decide) ?_
  obtain ⟨M_1, eM_1, hf⟩ := lt_e hf
  refine g_putI C (ckD_get k_X10_block_0 2 rfl) fk_X10_121 T69 rfl ?_
  refine memI eM_1 ?_
  refine g_aload_n 0 C (ckD_get k_X10_block_0 3 rfl) rfl rfl ?_
  refine g_getI C (ckD_get k_X10_block_0 4 rfl) fk_X10_124 T69 rfl ?_
  refine g_bipush (v := (12 : Int32)) C (ckD_get k_X10_block_0 5 rfl) (by decide) ?_
  refine g_icmp_eq C (ckD_get k_X10_block_0 6 rfl) (fun c_2 => ?_) (fun c_2 => ?_)
  · have hf := if_t hf c_2
    refine g_iconst (v := (-1 : Int32)) C (ckD_get k_X10_block_0 19 rfl) (by decide) ?_
    cases hf
    exact g_iret C (ckD_get k_X10_block_0 20 rfl) hr hRv (Nat.le_refl _) (Nat.le_refl _)
  · have hf := if_f hf c_2
    refine g_iload_n 1 C (ckD_get k_X10_block_0 7 rfl) rfl rfl ?_
    refine g_iconst (v := (1 : Int32)) C (ckD_get k_X10_block_0 8 rfl) (by decide) ?_
    refine g_icmp_lt C (ckD_get k_X10_block_0 9 rfl) (fun c_3 => ?_) (fun c_3 => ?_)
    · have hf := if_t hf c_3
      refine g_iconst (v := (-1 : Int32)) C (ckD_get k_X10_block_0 19 rfl) (by decide) ?_
      cases hf
      exact g_iret C (ckD_get k_X10_block_0 20 rfl) hr hRv (Nat.le_refl _) (Nat.le_refl _)
    · have hf := if_f hf c_3
      refine g_iload_n 1 C (ckD_get k_X10_block_0 10 rfl) rfl rfl ?_
      refine g_sipush (v := (200 : Int32)) C (ckD_get k_X10_block_0 11 rfl) (by decide) ?_
      refine g_icmp_gt C (ckD_get k_X10_block_0 12 rfl) (fun c_4 => ?_) (fun c_4 => ?_)
      · have hf := if_t hf c_4
        refine g_iconst (v := (-1 : Int32)) C (ckD_get k_X10_block_0 19 rfl) (by decide) ?_
        cases hf
        exact g_iret C (ckD_get k_X10_block_0 20 rfl) hr hRv (Nat.le_refl _) (Nat.le_refl _)
      · have hf := if_f hf c_4
        refine g_iload_n 2 C (ckD_get k_X10_block_0 13 rfl) rfl rfl ?_
        refine g_iconst (v := (1 : Int32)) C (ckD_get k_X10_block_0 14 rfl) (by decide) ?_
        refine g_icmp_lt C (ckD_get k_X10_block_0 15 rfl) (fun c_5 => ?_) (fun c_5 => ?_)
        · have hf := if_t hf c_5
          refine g_iconst (v := (-1 : Int32)) C (ckD_get k_X10_block_0 19 rfl) (by decide) ?_
          cases hf
          exact g_iret C (ckD_get k_X10_block_0 20 rfl) hr hRv (Nat.le_refl _) (Nat.le_refl _)
        · have hf := if_f hf c_5
          refine g_iload_n 2 C (ckD_get k_X10_block_0 16 rfl) rfl rfl ?_
          refine g_sipush (v := (200 : Int32)) C (ckD_get k_X10_block_0 17 rfl) (by decide) ?_
          refine g_icmp_le C (ckD_get k_X10_block_0 18 rfl) (fun c_6 => ?_) (fun c_6 => ?_)
          · have hf := if_t hf c_6
            refine g_aload_n 0 C (ckD_get k_X10_block_0 21 rfl) rfl rfl ?_
            refine g_getR C (ckD_get k_X10_block_0 22 rfl) fk_X10_9 T69 rfl ?_
            refine g_aload_n 0 C (ckD_get k_X10_block_0 23 rfl) rfl rfl ?_
            refine g_getI C (ckD_get k_X10_block_0 24 rfl) fk_X10_124 T69 rfl ?_
            refine g_iload_n 1 C (ckD_get k_X10_block_0 25 rfl) rfl rfl ?_
            obtain ⟨M_7, hi_8, eM_7, hf⟩ := wrI_e hf
            refine n_iast C (ckD_get k_X10_block_0 26 rfl) T70 hi_8 eM_7 ?_
            refine g_aload_n 0 C (ckD_get k_X10_block_0 27 rfl) rfl rfl ?_
            refine g_getR C (ckD_get k_X10_block_0 28 rfl) fk_X10_13 T69 rfl ?_
            refine g_aload_n 0 C (ckD_get k_X10_block_0 29 rfl) rfl rfl ?_
            refine g_getI C (ckD_get k_X10_block_0 30 rfl) fk_X10_124 T69 rfl ?_
            refine g_iload_n 2 C (ckD_get k_X10_block_0 31 rfl) rfl rfl ?_
            obtain ⟨M_9, hi_10, eM_9, hf⟩ := wrI_e hf
            refine n_iast C (ckD_get k_X10_block_0 32 rfl) T71 hi_10 eM_9 ?_
            refine g_aload_n 0 C (ckD_get k_X10_block_0 33 rfl) rfl rfl ?_
            refine g_getR C (ckD_get k_X10_block_0 34 rfl) fk_X10_19 T69 rfl ?_
            refine g_aload_n 0 C (ckD_get k_X10_block_0 35 rfl) rfl rfl ?_
            refine g_getI C (ckD_get k_X10_block_0 36 rfl) fk_X10_124 T69 rfl ?_
            refine g_iload_n 3 C (ckD_get k_X10_block_0 37 rfl) rfl rfl ?_
            obtain ⟨M_11, hi_12, eM_11, hf⟩ := wrI_e hf
            refine n_zast C (ckD_get k_X10_block_0 38 rfl) T73 hi_12 eM_11 ?_
            refine g_aload_n 0 C (ckD_get k_X10_block_0 39 rfl) rfl rfl ?_
            refine g_dup C (ckD_get k_X10_block_1 0 rfl) rfl ?_
            refine g_getI C (ckD_get k_X10_block_1 1 rfl) fk_X10_124 T69 rfl ?_
            refine g_iconst (v := (1 : Int32)) C (ckD_get k_X10_block_1 2 rfl) (by decide) ?_
            refine g_iadd C (ckD_get k_X10_block_1 3 rfl) ?_
            obtain ⟨M_13, eM_13, hf⟩ := lt_e hf
            refine g_putI C (ckD_get k_X10_block_1 4 rfl) fk_X10_124 T69 rfl ?_
            refine memI eM_13 ?_
            refine g_aload_n 0 C (ckD_get k_X10_block_1 5 rfl) rfl rfl ?_
            refine g_iconst (v := (-1 : Int32)) C (ckD_get k_X10_block_1 6 rfl) (by decide) ?_
            obtain ⟨M_14, eM_14, hf⟩ := lt_e hf
            refine g_putI C (ckD_get k_X10_block_1 7 rfl) fk_X10_23 T69 rfl ?_
            refine memI eM_14 ?_
            refine g_aload_n 0 C (ckD_get k_X10_block_1 8 rfl) rfl rfl ?_
            refine g_getI C (ckD_get k_X10_block_1 9 rfl) fk_X10_124 T69 rfl ?_
            refine g_iconst (v := (1 : Int32)) C (ckD_get k_X10_block_1 10 rfl) (by decide) ?_
            refine g_isub C (ckD_get k_X10_block_1 11 rfl) ?_
            cases hf
            exact g_iret C (ckD_get k_X10_block_1 12 rfl) hr hRv (Nat.le_refl _) (Nat.le_refl _)
          · have hf := if_f hf c_6
            refine g_iconst (v := (-1 : Int32)) C (ckD_get k_X10_block_0 19 rfl) (by decide) ?_
            cases hf
            exact g_iret C (ckD_get k_X10_block_0 20 rfl) hr hRv (Nat.le_refl _) (Nat.le_refl _)

set_option maxRecDepth 20000 in
theorem k_X10_less_0 : ckD cX10_less [(0, .aload_n 0, 1, 1, 0), (1, .iconst 0, 1, 2, 0), (2, .putfield 121, 3, 5, 0), (5, .aload_n 0, 1, 6, 0), (6, .getfield 124, 3, 9, 0), (9, .ifCond .ne 5, 3, 12, 14), (12, .iconst (-1), 1, 13, 0), (13, .ireturn, 1, 14, 0), (14, .aload_n 0, 1, 15, 0), (15, .dup, 1, 16, 0), (16, .getfield 124, 3, 19, 0), (19, .iconst 1, 1, 20, 0), (20, .isub, 1, 21, 0), (21, .putfield 124, 3, 24, 0), (24, .iconst 0, 1, 25, 0), (25, .istore_n 1, 1, 26, 0), (26, .iload_n 1, 1, 27, 0), (27, .bipush 20, 2, 29, 0), (29, .if_icmp .ge 26, 3, 32, 55), (32, .aload_n 0, 1, 33, 0), (33, .getfield 16, 3, 36, 0), (36, .iload_n 1, 1, 37, 0), (37, .dup2, 1, 38, 0), (38, .iaload, 1, 39, 0), (39, .iconst 1, 1, 40, 0), (40, .aload_n 0, 1, 41, 0), (41, .getfield 124, 3, 44, 0), (44, .ishl, 1, 45, 0), (45, .iconst 1, 1, 46, 0), (46, .isub, 1, 47, 0), (47, .iand, 1, 48, 0), (48, .iastore, 1, 49, 0), (49, .iinc 1 1, 3, 52, 0), (52, .goto (-26), 3, 55, 26), (55, .aload_n 0, 1, 56, 0), (56, .iconst (-1), 1, 57, 0), (57, .putfield 23, 3, 60, 0), (60, .aload_n 0, 1, 61, 0), (61, .getfield 124, 3, 64, 0), (64, .ireturn, 1, 65, 0)] = true := by decide +kernel
def f_X10_less_A26 (M_6 : Mm) : Option (Int32 × Mm) := lt1 (wi M_6 69 6 (-1 : Int32)) fun M_7 => some ((M_7.1 69 1), M_7)
def f_X10_less_L26 (x1_4 : Int32) (M_5 : Mm) : Option ((Int32 × Mm) ⊕ Mm) := if (20 : Int32) ≤ x1_4 then some (.inr M_5) else rdI 20 M_5 72 x1_4 fun v_9 => wrI 20 M_5 72 x1_4 (v_9 &&& (((1 : Int32) <<< ((M_5.1 69 1) &&& 31)) - (1 : Int32))) fun M_11 => lt1 (x1_4 + 1) fun x1_13 => some (.inl (x1_13, M_11))
def f_X10_less  (M : Mm) : Option (Int32 × Mm) := lt1 (wi M 69 0 (0 : Int32)) fun M_1 => if (M_1.1 69 1) = 0 then some ((-1 : Int32), M_1) else lt1 (wi M_1 69 1 ((M_1.1 69 1) - (1 : Int32))) fun M_3 => (loop (fun v => f_X10_less_L26 v.1 v.2) FU ((0 : Int32), M_3)).bind fun z => f_X10_less_A26 z
set_option maxRecDepth 100000 in
set_option maxHeartbeats 4000000 in
theorem t_X10_less {E : Ev} {l : Launch} (htr : l.stackTraces = false) (M : Mm) (r : (Int32 × Mm)) (hf : f_X10_less M = some r) : CM E l 0 0 0 yX10_less cX10_less 2 (some .int) [.ref (E.1 + 69)] M (some (.int r.1)) r.2 := by
  refine CM.of htr (by decide +kernel) (Nat.le_of_ble_eq_true rfl) ?_
  intro K hE hL hl hR0 C hr hRv
  subst hE
  subst hl
  have C : Cx K cX10_less RX10 0 := C
  have hB : (0 : Nat) ≤ K.1.R.cells ∧ 0 ≤ K.1.R.slots := ⟨Nat.zero_le _, Nat.zero_le _⟩
  have hL1 : 1 < K.2.2.1 := by rw [hL]; decide
  show G K (0, 0) 0 [(0, .ref (K.2.1.1 + 69))] [] M
  unfold f_X10_less at hf
  refine g_aload_n 0 C (ckD_get k_X10_less_0 0 rfl) rfl rfl ?_
  refine g_iconst (v := (0 : Int32)) C (ckD_get k_X10_less_0 1 rfl) (by decide) ?_
  obtain ⟨M_1, eM_1, hf⟩ := lt_e hf
  refine g_putI C (ckD_get k_X10_less_0 2 rfl) fk_X10_121 T69 rfl ?_
  refine memI eM_1 ?_
  refine g_aload_n 0 C (ckD_get k_X10_less_0 3 rfl) rfl rfl ?_
  refine g_getI C (ckD_get k_X10_less_0 4 rfl) fk_X10_124 T69 rfl ?_
  refine g_if_ne C (ckD_get k_X10_less_0 5 rfl) (fun c_2 => ?_) (fun c_2 => ?_)
  · have hf := if_f hf c_2
    refine g_aload_n 0 C (ckD_get k_X10_less_0 8 rfl) rfl rfl ?_
    refine g_dup C (ckD_get k_X10_less_0 9 rfl) rfl ?_
    refine g_getI C (ckD_get k_X10_less_0 10 rfl) fk_X10_124 T69 rfl ?_
    refine g_iconst (v := (1 : Int32)) C (ckD_get k_X10_less_0 11 rfl) (by decide) ?_
    refine g_isub C (ckD_get k_X10_less_0 12 rfl) ?_
    obtain ⟨M_3, eM_3, hf⟩ := lt_e hf
    refine g_putI C (ckD_get k_X10_less_0 13 rfl) fk_X10_124 T69 rfl ?_
    refine memI eM_3 ?_
    refine g_iconst (v := (0 : Int32)) C (ckD_get k_X10_less_0 14 rfl) (by decide) ?_
    refine g_istore_n (lv' := [(1, _), (0, _)]) C (ckD_get k_X10_less_0 15 rfl) rfl hL1 rfl ?_
    refine G.sub [1, 0] rfl ?_
    obtain ⟨M_6, hx_26, hf⟩ := bd_e hf
    have hE_26 : G K (0, 0) 55 [(0, .ref (K.2.1.1 + 69))] [] M_6 := by
      have hf : f_X10_less_A26 M_6 = some r := hf
      unfold f_X10_less_A26 at hf
      refine g_aload_n 0 C (ckD_get k_X10_less_0 34 rfl) rfl rfl ?_
      refine g_iconst (v := (-1 : Int32)) C (ckD_get k_X10_less_0 35 rfl) (by decide) ?_
      obtain ⟨M_7, eM_7, hf⟩ := lt_e hf
      refine g_putI C (ckD_get k_X10_less_0 36 rfl) fk_X10_23 T69 rfl ?_
      refine memI eM_7 ?_
      refine g_aload_n 0 C (ckD_get k_X10_less_0 37 rfl) rfl rfl ?_
      refine g_getI C (ckD_get k_X10_less_0 38 rfl) fk_X10_124 T69 rfl ?_
      cases hf
      exact g_iret C (ckD_get k_X10_less_0 39 rfl) hr hRv (Nat.le_refl _) (Nat.le_refl _)
    refine loop_e (x := M_6) (P := fun (v : (Int32 × Mm)) => G K (0, 0) 26 [(0, .ref (K.2.1.1 + 69)), (1, .int v.1)] [] v.2) ?_ FU _ hx_26
    intro v rr_26 hf hn_26 hz_26
    obtain ⟨x1_4, M_5⟩ := v
    have hf : f_X10_less_L26 x1_4 M_5 = some rr_26 := hf
    show G K (0, 0) 26 [(0, .ref (K.2.1.1 + 69)), (1, .int x1_4)] [] M_5
    unfold f_X10_less_L26 at hf
    refine g_iload_n 1 C (ckD_get k_X10_less_0 16 rfl) rfl rfl ?_
    refine g_bipush (v := (20 : Int32)) C (ckD_get k_X10_less_0 17 rfl) (by decide) ?_
    refine g_icmp_ge C (ckD_get k_X10_less_0 18 rfl) (fun c_8 => ?_) (fun c_8 => ?_)
    · have hf := if_t hf c_8
      refine G.sub [0] rfl ?_
      cases hf
      cases hz_26 _ rfl
      exact hE_26
    · have hf := if_f hf c_8
      refine g_aload_n 0 C (ckD_get k_X10_less_0 19 rfl) rfl rfl ?_
      refine g_getR C (ckD_get k_X10_less_0 20 rfl) fk_X10_16 T69 rfl ?_
      refine g_iload_n 1 C (ckD_get k_X10_less_0 21 rfl) rfl rfl ?_
      refine g_dup2 C (ckD_get k_X10_less_0 22 rfl) rfl rfl ?_
      obtain ⟨v_9, hi_10, ev_9, hf⟩ := rdI_e hf
      refine n_iald C (ckD_get k_X10_less_0 23 rfl) T72 hi_10 ev_9 ?_
      refine g_iconst (v := (1 : Int32)) C (ckD_get k_X10_less_0 24 rfl) (by decide) ?_
      refine g_aload_n 0 C (ckD_get k_X10_less_0 25 rfl) rfl rfl ?_
      refine g_getI C (ckD_get k_X10_less_0 26 rfl) fk_X10_124 T69 rfl ?_
      refine g_ishl C (ckD_get k_X10_less_0 27 rfl) ?_
      refine g_iconst (v := (1 : Int32)) C (ckD_get k_X10_less_0 28 rfl) (by decide) ?_
      refine g_isub C (ckD_get k_X10_less_0 29 rfl) ?_
      refine g_iand C (ckD_get k_X10_less_0 30 rfl) ?_
      obtain ⟨M_11, hi_12, eM_11, hf⟩ := wrI_e hf
      refine n_iast C (ckD_get k_X10_less_0 31 rfl) T72 hi_12 eM_11 ?_
      obtain ⟨x1_13, ex1_13, hf⟩ := lt_e hf
      refine g_iinc (lv' := [(1, _), (0, _)]) 1 C (ckD_get k_X10_less_0 32 rfl) rfl ex1_13 hL1 rfl ?_
      refine g_goto C (ckD_get k_X10_less_0 33 rfl) ?_
      refine G.sub [1, 0] rfl ?_
      cases hf
      exact hn_26 _ rfl
  · have hf := if_t hf c_2
    refine g_iconst (v := (-1 : Int32)) C (ckD_get k_X10_less_0 6 rfl) (by decide) ?_
    cases hf
    exact g_iret C (ckD_get k_X10_less_0 7 rfl) hr hRv (Nat.le_refl _) (Nat.le_refl _)

set_option maxRecDepth 20000 in
theorem k_X10_side_0 : ckD cX10_side [(0, .aload_n 0, 1, 1, 0), (1, .iconst 0, 1, 2, 0), (2, .putfield 121, 3, 5, 0), (5, .aload_n 0, 1, 6, 0), (6, .iload_n 1, 1, 7, 0), (7, .invokevirtual 130, 3, 10, 0), (10, .ifCond .eq 12, 3, 13, 22), (13, .iload_n 2, 1, 14, 0), (14, .ifCond .lt 8, 3, 17, 22), (17, .iload_n 2, 1, 18, 0), (18, .iconst 2, 1, 19, 0), (19, .if_icmp .le 8, 3, 22, 27), (22, .aload_n 0, 1, 23, 0), (23, .invokevirtual 134, 3, 26, 0), (26, .ireturn, 1, 27, 0), (27, .iload_n 2, 1, 28, 0), (28, .ifCond .ne 12, 3, 31, 40), (31, .aload_n 0, 1, 32, 0), (32, .getfield 9, 3, 35, 0), (35, .iload_n 1, 1, 36, 0), (36, .iaload, 1, 37, 0), (37, .goto 31, 3, 40, 68), (40, .iload_n 2, 1, 41, 0), (41, .iconst 1, 1, 42, 0), (42, .if_icmp .ne 12, 3, 45, 54), (45, .aload_n 0, 1, 46, 0), (46, .getfield 13, 3, 49, 0), (49, .iload_n 1, 1, 50, 0), (50, .iaload, 1, 51, 0), (51, .goto 17, 3, 54, 68), (54, .aload_n 0, 1, 55, 0), (55, .getfield 19, 3, 58, 0), (58, .iload_n 1, 1, 59, 0), (59, .baload, 1, 60, 0), (60, .ifCond .eq 7, 3, 63, 67), (63, .iconst 1, 1, 64, 0), (64, .goto 4, 3, 67, 68), (67, .iconst 0, 1, 68, 0), (68, .ireturn, 1, 69, 0)] = true := by decide +kernel
def f_X10_side_J22 (M_1 : Mm) (_ : Unit) : Option (Int32 × Mm) := lt1 (f_X10_fail M_1) fun z_4 => some (z_4.1, z_4.2)
def f_X10_side (a1 : Int32) (a2 : Int32) (M : Mm) : Option (Int32 × Mm) := lt1 (wi M 69 0 (0 : Int32)) fun M_1 => if (f_X10_isBlock a1 M_1) = 0 then f_X10_side_J22 M_1 () else if a2 < 0 then f_X10_side_J22 M_1 () else if a2 ≤ (2 : Int32) then (if a2 = 0 then rdI 12 M_1 70 a1 fun v_15 => some (v_15, M_1) else if a2 = (1 : Int32) then rdI 12 M_1 71 a1 fun v_13 => some (v_13, M_1) else rdI 12 M_1 73 a1 fun v_10 => if v_10 = 0 then some ((0 : Int32), M_1) else some ((1 : Int32), M_1)) else f_X10_side_J22 M_1 ()
set_option maxRecDepth 100000 in
set_option maxHeartbeats 4000000 in
theorem t_X10_side {E : Ev} {l : Launch} (htr : l.stackTraces = false) (a1 : Int32) (a2 : Int32) (M : Mm) (r : (Int32 × Mm)) (hf : f_X10_side a1 a2 M = some r) : CM E l 1 0 0 yX10_side cX10_side 3 (some .int) [.ref (E.1 + 69), .int a1, .int a2] M (some (.int r.1)) r.2 := by
  refine CM.of htr (by decide +kernel) (Nat.le_of_ble_eq_true rfl) ?_
  intro K hE hL hl hR0 C hr hRv
  subst hE
  subst hl
  have C : Cx K cX10_side RX10 1 := C
  have hB : (0 : Nat) ≤ K.1.R.cells ∧ 0 ≤ K.1.R.slots := ⟨Nat.zero_le _, Nat.zero_le _⟩
  show G K (0, 0) 0 [(0, .ref (K.2.1.1 + 69)), (1, .int a1), (2, .int a2)] [] M
  unfold f_X10_side at hf
  refine g_aload_n 0 C (ckD_get k_X10_side_0 0 rfl) rfl rfl ?_
  refine g_iconst (v := (0 : Int32)) C (ckD_get k_X10_side_0 1 rfl) (by decide) ?_
  obtain ⟨M_1, eM_1, hf⟩ := lt_e hf
  refine g_putI C (ckD_get k_X10_side_0 2 rfl) fk_X10_121 T69 rfl ?_
  refine memI eM_1 ?_
  refine g_aload_n 0 C (ckD_get k_X10_side_0 3 rfl) rfl rfl ?_
  refine g_iload_n 1 C (ckD_get k_X10_side_0 4 rfl) rfl rfl ?_
  refine n_cV [.int a1] [] C (ckD_get k_X10_side_0 5 rfl) vk_X10_130 (t_X10_isBlock C.tr _ _ _ rfl) T69 rfl rfl (Nat.le_of_ble_eq_true rfl) (by decide) hB rfl ?_
  have hJ_22 : ∀ (_ : Unit), f_X10_side_J22 M_1 () = some r → G K (0, 0) 22 [(0, .ref (K.2.1.1 + 69))] [] M_1 := by
    intro _ hf
    unfold f_X10_side_J22 at hf
    refine g_aload_n 0 C (ckD_get k_X10_side_0 12 rfl) rfl rfl ?_
    obtain ⟨z_4, ez_4, hf⟩ := lt_e hf
    refine n_cV [] [] C (ckD_get k_X10_side_0 13 rfl) vk_X10_134 (t_X10_fail C.tr _ _ ez_4) T69 rfl rfl (Nat.le_of_ble_eq_true rfl) (by decide) hB rfl ?_
    cases hf
    exact g_iret C (ckD_get k_X10_side_0 14 rfl) hr hRv (Nat.le_refl _) (Nat.le_refl _)
  refine g_if_eq C (ckD_get k_X10_side_0 6 rfl) (fun c_5 => ?_) (fun c_5 => ?_)
  · have hf := if_t hf c_5
    refine G.sub [0] rfl ?_
    exact hJ_22 () hf
  · have hf := if_f hf c_5
    refine g_iload_n 2 C (ckD_get k_X10_side_0 7 rfl) rfl rfl ?_
    refine g_if_lt C (ckD_get k_X10_side_0 8 rfl) (fun c_6 => ?_) (fun c_6 => ?_)
    · have hf := if_t hf c_6
      refine G.sub [0] rfl ?_
      exact hJ_22 () hf
    · have hf := if_f hf c_6
      refine g_iload_n 2 C (ckD_get k_X10_side_0 9 rfl) rfl rfl ?_
      refine g_iconst (v := (2 : Int32)) C (ckD_get k_X10_side_0 10 rfl) (by decide) ?_
      refine g_icmp_le C (ckD_get k_X10_side_0 11 rfl) (fun c_7 => ?_) (fun c_7 => ?_)
      · have hf := if_t hf c_7
        refine g_iload_n 2 C (ckD_get k_X10_side_0 15 rfl) rfl rfl ?_
        refine g_if_ne C (ckD_get k_X10_side_0 16 rfl) (fun c_8 => ?_) (fun c_8 => ?_)
        · have hf := if_f hf c_8
          refine g_iload_n 2 C (ckD_get k_X10_side_0 22 rfl) rfl rfl ?_
          refine g_iconst (v := (1 : Int32)) C (ckD_get k_X10_side_0 23 rfl) (by decide) ?_
          refine g_icmp_ne C (ckD_get k_X10_side_0 24 rfl) (fun c_9 => ?_) (fun c_9 => ?_)
          · have hf := if_f hf c_9
            refine g_aload_n 0 C (ckD_get k_X10_side_0 30 rfl) rfl rfl ?_
            refine g_getR C (ckD_get k_X10_side_0 31 rfl) fk_X10_19 T69 rfl ?_
            refine g_iload_n 1 C (ckD_get k_X10_side_0 32 rfl) rfl rfl ?_
            obtain ⟨v_10, hi_11, ev_10, hf⟩ := rdI_e hf
            refine n_zald C (ckD_get k_X10_side_0 33 rfl) T73 hi_11 ev_10 ?_
            refine g_if_eq C (ckD_get k_X10_side_0 34 rfl) (fun c_12 => ?_) (fun c_12 => ?_)
            · have hf := if_t hf c_12
              refine g_iconst (v := (0 : Int32)) C (ckD_get k_X10_side_0 37 rfl) (by decide) ?_
              cases hf
              exact g_iret C (ckD_get k_X10_side_0 38 rfl) hr hRv (Nat.le_refl _) (Nat.le_refl _)
            · have hf := if_f hf c_12
              refine g_iconst (v := (1 : Int32)) C (ckD_get k_X10_side_0 35 rfl) (by decide) ?_
              refine g_goto C (ckD_get k_X10_side_0 36 rfl) ?_
              cases hf
              exact g_iret C (ckD_get k_X10_side_0 38 rfl) hr hRv (Nat.le_refl _) (Nat.le_refl _)
          · have hf := if_t hf c_9
            refine g_aload_n 0 C (ckD_get k_X10_side_0 25 rfl) rfl rfl ?_
            refine g_getR C (ckD_get k_X10_side_0 26 rfl) fk_X10_13 T69 rfl ?_
            refine g_iload_n 1 C (ckD_get k_X10_side_0 27 rfl) rfl rfl ?_
            obtain ⟨v_13, hi_14, ev_13, hf⟩ := rdI_e hf
            refine n_iald C (ckD_get k_X10_side_0 28 rfl) T71 hi_14 ev_13 ?_
            refine g_goto C (ckD_get k_X10_side_0 29 rfl) ?_
            cases hf
            exact g_iret C (ckD_get k_X10_side_0 38 rfl) hr hRv (Nat.le_refl _) (Nat.le_refl _)
        · have hf := if_t hf c_8
          refine g_aload_n 0 C (ckD_get k_X10_side_0 17 rfl) rfl rfl ?_
          refine g_getR C (ckD_get k_X10_side_0 18 rfl) fk_X10_9 T69 rfl ?_
          refine g_iload_n 1 C (ckD_get k_X10_side_0 19 rfl) rfl rfl ?_
          obtain ⟨v_15, hi_16, ev_15, hf⟩ := rdI_e hf
          refine n_iald C (ckD_get k_X10_side_0 20 rfl) T70 hi_16 ev_15 ?_
          refine g_goto C (ckD_get k_X10_side_0 21 rfl) ?_
          cases hf
          exact g_iret C (ckD_get k_X10_side_0 38 rfl) hr hRv (Nat.le_refl _) (Nat.le_refl _)
      · have hf := if_f hf c_7
        refine G.sub [0] rfl ?_
        exact hJ_22 () hf

set_option maxRecDepth 20000 in
theorem k_X10_net_0 : ckD cX10_net [(0, .aload_n 0, 1, 1, 0), (1, .iconst 0, 1, 2, 0), (2, .putfield 121, 3, 5, 0), (5, .iload_n 1, 1, 6, 0), (6, .ifCond .lt 9, 3, 9, 15), (9, .iload_n 1, 1, 10, 0), (10, .bipush 20, 2, 12, 0), (12, .if_icmp .lt 8, 3, 15, 20), (15, .aload_n 0, 1, 16, 0), (16, .invokevirtual 134, 3, 19, 0), (19, .ireturn, 1, 20, 0), (20, .aload_n 0, 1, 21, 0), (21, .getfield 16, 3, 24, 0), (24, .iload_n 1, 1, 25, 0), (25, .iload_n 2, 1, 26, 0), (26, .iconst 1, 1, 27, 0), (27, .aload_n 0, 1, 28, 0), (28, .getfield 124, 3, 31, 0), (31, .ishl, 1, 32, 0), (32, .iconst 1, 1, 33, 0), (33, .isub, 1, 34, 0), (34, .iand, 1, 35, 0), (35, .iastore, 1, 36, 0), (36, .iconst 0, 1, 37, 0), (37, .istore_n 3, 1, 38, 0), (38, .iconst 0, 1, 39, 0), (39, .istore 4, 2, 41, 0), (41, .iload 4, 2, 43, 0), (43, .aload_n 0, 1, 44, 0), (44, .getfield 124, 3, 47, 0), (47, .if_icmp .ge 23, 3, 50, 70), (50, .iload_n 3, 1, 51, 0), (51, .aload_n 0, 1, 52, 0), (52, .getfield 16, 3, 55, 0), (55, .iload_n 1, 1, 56, 0), (56, .iaload, 1, 57, 0), (57, .iload 4, 2, 59, 0), (59, .ishr, 1, 60, 0), (60, .iconst 1, 1, 61, 0), (61, .iand, 1, 62, 0)] = true := by decide +kernel
set_option maxRecDepth 20000 in
theorem k_X10_net_1 : ckD cX10_net [(62, .iadd, 1, 63, 0), (63, .istore_n 3, 1, 64, 0), (64, .iinc 4 1, 3, 67, 0), (67, .goto (-26), 3, 70, 41), (70, .iload_n 3, 1, 71, 0), (71, .ireturn, 1, 72, 0)] = true := by decide +kernel
def f_X10_net_J15 (M_2 : Mm) : Option (Int32 × Mm) := lt1 (f_X10_fail M_2) fun z_5 => some (z_5.1, z_5.2)
def f_X10_net_A41 (M_8 : Mm) (x3_12 : Int32) : Option (Int32 × Mm) := some (x3_12, M_8)
def f_X10_net_L41 (a1 : Int32) (M_8 : Mm) (x3_10 : Int32) (x4_11 : Int32) : Option ((Int32 × Int32) ⊕ Int32) := if (M_8.1 69 1) ≤ x4_11 then some (.inr x3_10) else rdI 20 M_8 72 a1 fun v_14 => lt1 (x3_10 + ((v_14 >>> (x4_11 &&& 31)) &&& (1 : Int32))) fun x3_16 => lt1 (x4_11 + 1) fun x4_17 => some (.inl (x3_16, x4_17))
def f_X10_net (a1 : Int32) (a2 : Int32) (M : Mm) : Option (Int32 × Mm) := lt1 (wi M 69 0 (0 : Int32)) fun M_1 => if a1 < 0 then f_X10_net_J15 M_1 else if a1 < (20 : Int32) then wrI 20 M_1 72 a1 (a2 &&& (((1 : Int32) <<< ((M_1.1 69 1) &&& 31)) - (1 : Int32))) fun M_8 => (loop (fun v => f_X10_net_L41 a1 M_8 v.1 v.2) FU ((0 : Int32), (0 : Int32))).bind fun z => f_X10_net_A41 M_8 z else f_X10_net_J15 M_1
set_option maxRecDepth 100000 in
set_option maxHeartbeats 4000000 in
theorem t_X10_net {E : Ev} {l : Launch} (htr : l.stackTraces = false) (a1 : Int32) (a2 : Int32) (M : Mm) (r : (Int32 × Mm)) (hf : f_X10_net a1 a2 M = some r) : CM E l 1 0 0 yX10_net cX10_net 5 (some .int) [.ref (E.1 + 69), .int a1, .int a2] M (some (.int r.1)) r.2 := by
  refine CM.of htr (by decide +kernel) (Nat.le_of_ble_eq_true rfl) ?_
  intro K hE hL hl hR0 C hr hRv
  subst hE
  subst hl
  have C : Cx K cX10_net RX10 1 := C
  have hB : (0 : Nat) ≤ K.1.R.cells ∧ 0 ≤ K.1.R.slots := ⟨Nat.zero_le _, Nat.zero_le _⟩
  have hL3 : 3 < K.2.2.1 := by rw [hL]; decide
  have hL4 : 4 < K.2.2.1 := by rw [hL]; decide
  show G K (0, 0) 0 [(0, .ref (K.2.1.1 + 69)), (1, .int a1), (2, .int a2)] [] M
  unfold f_X10_net at hf
  refine g_aload_n 0 C (ckD_get k_X10_net_0 0 rfl) rfl rfl ?_
  refine g_iconst (v := (0 : Int32)) C (ckD_get k_X10_net_0 1 rfl) (by decide) ?_
  obtain ⟨M_1, eM_1, hf⟩ := lt_e hf
  refine g_putI C (ckD_get k_X10_net_0 2 rfl) fk_X10_121 T69 rfl ?_
  refine memI eM_1 ?_
  refine g_iload_n 1 C (ckD_get k_X10_net_0 3 rfl) rfl rfl ?_
  have hJ_15 : ∀ (M_2 : Mm), f_X10_net_J15 M_2 = some r → G K (0, 0) 15 [(0, .ref (K.2.1.1 + 69))] [] M_2 := by
    intro M_2 hf
    unfold f_X10_net_J15 at hf
    refine g_aload_n 0 C (ckD_get k_X10_net_0 8 rfl) rfl rfl ?_
    obtain ⟨z_5, ez_5, hf⟩ := lt_e hf
    refine n_cV [] [] C (ckD_get k_X10_net_0 9 rfl) vk_X10_134 (t_X10_fail C.tr _ _ ez_5) T69 rfl rfl (Nat.le_of_ble_eq_true rfl) (by decide) hB rfl ?_
    cases hf
    exact g_iret C (ckD_get k_X10_net_0 10 rfl) hr hRv (Nat.le_refl _) (Nat.le_refl _)
  refine g_if_lt C (ckD_get k_X10_net_0 4 rfl) (fun c_6 => ?_) (fun c_6 => ?_)
  · have hf := if_t hf c_6
    refine G.sub [0] rfl ?_
    exact hJ_15 _ hf
  · have hf := if_f hf c_6
    refine g_iload_n 1 C (ckD_get k_X10_net_0 5 rfl) rfl rfl ?_
    refine g_bipush (v := (20 : Int32)) C (ckD_get k_X10_net_0 6 rfl) (by decide) ?_
    refine g_icmp_lt C (ckD_get k_X10_net_0 7 rfl) (fun c_7 => ?_) (fun c_7 => ?_)
    · have hf := if_t hf c_7
      refine g_aload_n 0 C (ckD_get k_X10_net_0 11 rfl) rfl rfl ?_
      refine g_getR C (ckD_get k_X10_net_0 12 rfl) fk_X10_16 T69 rfl ?_
      refine g_iload_n 1 C (ckD_get k_X10_net_0 13 rfl) rfl rfl ?_
      refine g_iload_n 2 C (ckD_get k_X10_net_0 14 rfl) rfl rfl ?_
      refine g_iconst (v := (1 : Int32)) C (ckD_get k_X10_net_0 15 rfl) (by decide) ?_
      refine g_aload_n 0 C (ckD_get k_X10_net_0 16 rfl) rfl rfl ?_
      refine g_getI C (ckD_get k_X10_net_0 17 rfl) fk_X10_124 T69 rfl ?_
      refine g_ishl C (ckD_get k_X10_net_0 18 rfl) ?_
      refine g_iconst (v := (1 : Int32)) C (ckD_get k_X10_net_0 19 rfl) (by decide) ?_
      refine g_isub C (ckD_get k_X10_net_0 20 rfl) ?_
      refine g_iand C (ckD_get k_X10_net_0 21 rfl) ?_
      obtain ⟨M_8, hi_9, eM_8, hf⟩ := wrI_e hf
      refine n_iast C (ckD_get k_X10_net_0 22 rfl) T72 hi_9 eM_8 ?_
      refine g_iconst (v := (0 : Int32)) C (ckD_get k_X10_net_0 23 rfl) (by decide) ?_
      refine g_istore_n (lv' := [(3, _), (0, _), (1, _), (2, _)]) C (ckD_get k_X10_net_0 24 rfl) rfl hL3 rfl ?_
      refine g_iconst (v := (0 : Int32)) C (ckD_get k_X10_net_0 25 rfl) (by decide) ?_
      refine g_istore (lv' := [(4, _), (3, _), (0, _), (1, _), (2, _)]) C (ckD_get k_X10_net_0 26 rfl) hL4 rfl ?_
      refine G.sub [2, 3, 1, 0] rfl ?_
      obtain ⟨x3_12, hx_41, hf⟩ := bd_e hf
      have hE_41 : G K (0, 0) 70 [(3, .int x3_12)] [] M_8 := by
        have hf : f_X10_net_A41 M_8 x3_12 = some r := hf
        unfold f_X10_net_A41 at hf
        refine g_iload_n 0 C (ckD_get k_X10_net_1 4 rfl) rfl rfl ?_
        cases hf
        exact g_iret C (ckD_get k_X10_net_1 5 rfl) hr hRv (Nat.le_refl _) (Nat.le_refl _)
      refine loop_e (x := x3_12) (P := fun (v : (Int32 × Int32)) => G K (0, 0) 41 [(0, .ref (K.2.1.1 + 69)), (1, .int a1), (3, .int v.1), (4, .int v.2)] [] M_8) ?_ FU _ hx_41
      intro v rr_41 hf hn_41 hz_41
      obtain ⟨x3_10, x4_11⟩ := v
      have hf : f_X10_net_L41 a1 M_8 x3_10 x4_11 = some rr_41 := hf
      show G K (0, 0) 41 [(0, .ref (K.2.1.1 + 69)), (1, .int a1), (3, .int x3_10), (4, .int x4_11)] [] M_8
      unfold f_X10_net_L41 at hf
      refine g_iload 3 C (ckD_get k_X10_net_0 27 rfl) rfl ?_
      refine g_aload_n 0 C (ckD_get k_X10_net_0 28 rfl) rfl rfl ?_
      refine g_getI C (ckD_get k_X10_net_0 29 rfl) fk_X10_124 T69 rfl ?_
      refine g_icmp_ge C (ckD_get k_X10_net_0 30 rfl) (fun c_13 => ?_) (fun c_13 => ?_)
      · have hf := if_t hf c_13
        refine G.sub [2] rfl ?_
        cases hf
        cases hz_41 _ rfl
        exact hE_41
      · have hf := if_f hf c_13
        refine g_iload_n 2 C (ckD_get k_X10_net_0 31 rfl) rfl rfl ?_
        refine g_aload_n 0 C (ckD_get k_X10_net_0 32 rfl) rfl rfl ?_
        refine g_getR C (ckD_get k_X10_net_0 33 rfl) fk_X10_16 T69 rfl ?_
        refine g_iload_n 1 C (ckD_get k_X10_net_0 34 rfl) rfl rfl ?_
        obtain ⟨v_14, hi_15, ev_14, hf⟩ := rdI_e hf
        refine n_iald C (ckD_get k_X10_net_0 35 rfl) T72 hi_15 ev_14 ?_
        refine g_iload 3 C (ckD_get k_X10_net_0 36 rfl) rfl ?_
        refine g_ishr C (ckD_get k_X10_net_0 37 rfl) ?_
        refine g_iconst (v := (1 : Int32)) C (ckD_get k_X10_net_0 38 rfl) (by decide) ?_
        refine g_iand C (ckD_get k_X10_net_0 39 rfl) ?_
        refine g_iadd C (ckD_get k_X10_net_1 0 rfl) ?_
        obtain ⟨x3_16, ex3_16, hf⟩ := lt_e hf
        refine topI ex3_16 ?_
        refine g_istore_n (lv' := [(3, _), (0, _), (1, _), (4, _)]) C (ckD_get k_X10_net_1 1 rfl) rfl hL3 rfl ?_
        obtain ⟨x4_17, ex4_17, hf⟩ := lt_e hf
        refine g_iinc (lv' := [(4, _), (3, _), (0, _), (1, _)]) 3 C (ckD_get k_X10_net_1 2 rfl) rfl ex4_17 hL4 rfl ?_
        refine g_goto C (ckD_get k_X10_net_1 3 rfl) ?_
        refine G.sub [2, 3, 1, 0] rfl ?_
        cases hf
        exact hn_41 _ rfl
    · have hf := if_f hf c_7
      refine G.sub [0] rfl ?_
      exact hJ_15 _ hf

set_option maxRecDepth 20000 in
theorem k_X10_places_0 : ckD cX10_places [(0, .aload_n 0, 1, 1, 0), (1, .iconst 0, 1, 2, 0), (2, .putfield 121, 3, 5, 0), (5, .aload_n 0, 1, 6, 0), (6, .getfield 124, 3, 9, 0), (9, .ifCond .ne 5, 3, 12, 14), (12, .iconst 0, 1, 13, 0), (13, .ireturn, 1, 14, 0), (14, .iconst 0, 1, 15, 0), (15, .istore_n 1, 1, 16, 0), (16, .iload_n 1, 1, 17, 0), (17, .aload_n 0, 1, 18, 0), (18, .getfield 124, 3, 21, 0), (21, .if_icmp .ge 31, 3, 24, 52), (24, .aload_n 0, 1, 25, 0), (25, .getfield 23, 3, 28, 0), (28, .iconst (-1), 1, 29, 0), (29, .if_icmp .ne 23, 3, 32, 52), (32, .aload_n 0, 1, 33, 0), (33, .getfield 27, 3, 36, 0), (36, .iload_n 1, 1, 37, 0), (37, .iconst 0, 1, 38, 0), (38, .iastore, 1, 39, 0), (39, .aload_n 0, 1, 40, 0), (40, .getfield 30, 3, 43, 0), (43, .iload_n 1, 1, 44, 0), (44, .iconst 0, 1, 45, 0), (45, .iastore, 1, 46, 0), (46, .iinc 1 1, 3, 49, 0), (49, .goto (-33), 3, 52, 16), (52, .aload_n 0, 1, 53, 0), (53, .getfield 23, 3, 56, 0), (56, .iconst (-1), 1, 57, 0), (57, .if_icmp .ne 8, 3, 60, 65), (60, .aload_n 0, 1, 61, 0), (61, .iconst 0, 1, 62, 0), (62, .putfield 127, 3, 65, 0), (65, .aload_n 0, 1, 66, 0), (66, .iconst 0, 1, 67, 0), (67, .putfield 23, 3, 70, 0)] = true := by decide +kernel
set_option maxRecDepth 20000 in
theorem k_X10_places_1 : ckD cX10_places [(70, .iconst 1, 1, 71, 0), (71, .ireturn, 1, 72, 0)] = true := by decide +kernel
def f_X10_places_J65 (M_6 : Mm) : Option (Int32 × Mm) := lt1 (wi M_6 69 6 (0 : Int32)) fun M_7 => some ((1 : Int32), M_7)
def f_X10_places_A16 (M_5 : Mm) : Option (Int32 × Mm) := if (M_5.1 69 6) = (-1 : Int32) then lt1 (wi M_5 69 7 (0 : Int32)) fun M_9 => f_X10_places_J65 M_9 else f_X10_places_J65 M_5
def f_X10_places_L16 (x1_3 : Int32) (M_4 : Mm) : Option ((Int32 × Mm) ⊕ Mm) := if (M_4.1 69 1) ≤ x1_3 then some (.inr M_4) else if (M_4.1 69 6) = (-1 : Int32) then wrI 12 M_4 74 x1_3 (0 : Int32) fun M_12 => wrI 12 M_12 75 x1_3 (0 : Int32) fun M_14 => lt1 (x1_3 + 1) fun x1_16 => some (.inl (x1_16, M_14)) else some (.inr M_4)
def f_X10_places  (M : Mm) : Option (Int32 × Mm) := lt1 (wi M 69 0 (0 : Int32)) fun M_1 => if (M_1.1 69 1) = 0 then some ((0 : Int32), M_1) else (loop (fun v => f_X10_places_L16 v.1 v.2) FU ((0 : Int32), M_1)).bind fun z => f_X10_places_A16 z
set_option maxRecDepth 100000 in
set_option maxHeartbeats 4000000 in
theorem t_X10_places {E : Ev} {l : Launch} (htr : l.stackTraces = false) (M : Mm) (r : (Int32 × Mm)) (hf : f_X10_places M = some r) : CM E l 0 0 0 yX10_places cX10_places 2 (some .boolean) [.ref (E.1 + 69)] M (some (.int r.1)) r.2 := by
  refine CM.of htr (by decide +kernel) (Nat.le_of_ble_eq_true rfl) ?_
  intro K hE hL hl hR0 C hr hRv
  subst hE
  subst hl
  have C : Cx K cX10_places RX10 0 := C
  have hB : (0 : Nat) ≤ K.1.R.cells ∧ 0 ≤ K.1.R.slots := ⟨Nat.zero_le _, Nat.zero_le _⟩
  have hL1 : 1 < K.2.2.1 := by rw [hL]; decide
  show G K (0, 0) 0 [(0, .ref (K.2.1.1 + 69))] [] M
  unfold f_X10_places at hf
  refine g_aload_n 0 C (ckD_get k_X10_places_0 0 rfl) rfl rfl ?_
  refine g_iconst (v := (0 : Int32)) C (ckD_get k_X10_places_0 1 rfl) (by decide) ?_
  obtain ⟨M_1, eM_1, hf⟩ := lt_e hf
  refine g_putI C (ckD_get k_X10_places_0 2 rfl) fk_X10_121 T69 rfl ?_
  refine memI eM_1 ?_
  refine g_aload_n 0 C (ckD_get k_X10_places_0 3 rfl) rfl rfl ?_
  refine g_getI C (ckD_get k_X10_places_0 4 rfl) fk_X10_124 T69 rfl ?_
  refine g_if_ne C (ckD_get k_X10_places_0 5 rfl) (fun c_2 => ?_) (fun c_2 => ?_)
  · have hf := if_f hf c_2
    refine g_iconst (v := (0 : Int32)) C (ckD_get k_X10_places_0 8 rfl) (by decide) ?_
    refine g_istore_n (lv' := [(1, _), (0, _)]) C (ckD_get k_X10_places_0 9 rfl) rfl hL1 rfl ?_
    refine G.sub [1, 0] rfl ?_
    obtain ⟨M_5, hx_16, hf⟩ := bd_e hf
    have hE_16 : G K (0, 0) 52 [(0, .ref (K.2.1.1 + 69))] [] M_5 := by
      have hf : f_X10_places_A16 M_5 = some r := hf
      unfold f_X10_places_A16 at hf
      refine g_aload_n 0 C (ckD_get k_X10_places_0 30 rfl) rfl rfl ?_
      refine g_getI C (ckD_get k_X10_places_0 31 rfl) fk_X10_23 T69 rfl ?_
      refine g_iconst (v := (-1 : Int32)) C (ckD_get k_X10_places_0 32 rfl) (by decide) ?_
      have hJ_65 : ∀ (M_6 : Mm), f_X10_places_J65 M_6 = some r → G K (0, 0) 65 [(0, .ref (K.2.1.1 + 69))] [] M_6 := by
        intro M_6 hf
        unfold f_X10_places_J65 at hf
        refine g_aload_n 0 C (ckD_get k_X10_places_0 37 rfl) rfl rfl ?_
        refine g_iconst (v := (0 : Int32)) C (ckD_get k_X10_places_0 38 rfl) (by decide) ?_
        obtain ⟨M_7, eM_7, hf⟩ := lt_e hf
        refine g_putI C (ckD_get k_X10_places_0 39 rfl) fk_X10_23 T69 rfl ?_
        refine memI eM_7 ?_
        refine g_iconst (v := (1 : Int32)) C (ckD_get k_X10_places_1 0 rfl) (by decide) ?_
        cases hf
        exact g_zret C (ckD_get k_X10_places_1 1 rfl) hr rfl hRv (Nat.le_refl _) (Nat.le_refl _)
      refine g_icmp_ne C (ckD_get k_X10_places_0 33 rfl) (fun c_8 => ?_) (fun c_8 => ?_)
      · have hf := if_f hf c_8
        exact hJ_65 _ hf
      · have hf := if_t hf c_8
        refine g_aload_n 0 C (ckD_get k_X10_places_0 34 rfl) rfl rfl ?_
        refine g_iconst (v := (0 : Int32)) C (ckD_get k_X10_places_0 35 rfl) (by decide) ?_
        obtain ⟨M_9, eM_9, hf⟩ := lt_e hf
        refine g_putI C (ckD_get k_X10_places_0 36 rfl) fk_X10_127 T69 rfl ?_
        refine memI eM_9 ?_
        exact hJ_65 _ hf
    refine loop_e (x := M_5) (P := fun (v : (Int32 × Mm)) => G K (0, 0) 16 [(0, .ref (K.2.1.1 + 69)), (1, .int v.1)] [] v.2) ?_ FU _ hx_16
    intro v rr_16 hf hn_16 hz_16
    obtain ⟨x1_3, M_4⟩ := v
    have hf : f_X10_places_L16 x1_3 M_4 = some rr_16 := hf
    show G K (0, 0) 16 [(0, .ref (K.2.1.1 + 69)), (1, .int x1_3)] [] M_4
    unfold f_X10_places_L16 at hf
    refine g_iload_n 1 C (ckD_get k_X10_places_0 10 rfl) rfl rfl ?_
    refine g_aload_n 0 C (ckD_get k_X10_places_0 11 rfl) rfl rfl ?_
    refine g_getI C (ckD_get k_X10_places_0 12 rfl) fk_X10_124 T69 rfl ?_
    refine g_icmp_ge C (ckD_get k_X10_places_0 13 rfl) (fun c_10 => ?_) (fun c_10 => ?_)
    · have hf := if_t hf c_10
      refine G.sub [0] rfl ?_
      cases hf
      cases hz_16 _ rfl
      exact hE_16
    · have hf := if_f hf c_10
      refine g_aload_n 0 C (ckD_get k_X10_places_0 14 rfl) rfl rfl ?_
      refine g_getI C (ckD_get k_X10_places_0 15 rfl) fk_X10_23 T69 rfl ?_
      refine g_iconst (v := (-1 : Int32)) C (ckD_get k_X10_places_0 16 rfl) (by decide) ?_
      refine g_icmp_ne C (ckD_get k_X10_places_0 17 rfl) (fun c_11 => ?_) (fun c_11 => ?_)
      · have hf := if_f hf c_11
        refine G.sub [0] rfl ?_
        cases hf
        cases hz_16 _ rfl
        exact hE_16
      · have hf := if_t hf c_11
        refine g_aload_n 0 C (ckD_get k_X10_places_0 18 rfl) rfl rfl ?_
        refine g_getR C (ckD_get k_X10_places_0 19 rfl) fk_X10_27 T69 rfl ?_
        refine g_iload_n 1 C (ckD_get k_X10_places_0 20 rfl) rfl rfl ?_
        refine g_iconst (v := (0 : Int32)) C (ckD_get k_X10_places_0 21 rfl) (by decide) ?_
        obtain ⟨M_12, hi_13, eM_12, hf⟩ := wrI_e hf
        refine n_iast C (ckD_get k_X10_places_0 22 rfl) T74 hi_13 eM_12 ?_
        refine g_aload_n 0 C (ckD_get k_X10_places_0 23 rfl) rfl rfl ?_
        refine g_getR C (ckD_get k_X10_places_0 24 rfl) fk_X10_30 T69 rfl ?_
        refine g_iload_n 1 C (ckD_get k_X10_places_0 25 rfl) rfl rfl ?_
        refine g_iconst (v := (0 : Int32)) C (ckD_get k_X10_places_0 26 rfl) (by decide) ?_
        obtain ⟨M_14, hi_15, eM_14, hf⟩ := wrI_e hf
        refine n_iast C (ckD_get k_X10_places_0 27 rfl) T75 hi_15 eM_14 ?_
        obtain ⟨x1_16, ex1_16, hf⟩ := lt_e hf
        refine g_iinc (lv' := [(1, _), (0, _)]) 1 C (ckD_get k_X10_places_0 28 rfl) rfl ex1_16 hL1 rfl ?_
        refine g_goto C (ckD_get k_X10_places_0 29 rfl) ?_
        refine G.sub [1, 0] rfl ?_
        cases hf
        exact hn_16 _ rfl
  · have hf := if_t hf c_2
    refine g_iconst (v := (0 : Int32)) C (ckD_get k_X10_places_0 6 rfl) (by decide) ?_
    cases hf
    exact g_zret C (ckD_get k_X10_places_0 7 rfl) hr rfl hRv (Nat.le_refl _) (Nat.le_refl _)

set_option maxRecDepth 20000 in
theorem k_X10_put_0 : ckD cX10_put [(0, .aload_n 0, 1, 1, 0), (1, .iconst 0, 1, 2, 0), (2, .putfield 121, 3, 5, 0), (5, .aload_n 0, 1, 6, 0), (6, .iload_n 1, 1, 7, 0), (7, .invokevirtual 130, 3, 10, 0), (10, .ifCond .ne 10, 3, 13, 20), (13, .aload_n 0, 1, 14, 0), (14, .invokevirtual 134, 3, 17, 0), (17, .pop, 1, 18, 0), (18, .iconst 0, 1, 19, 0), (19, .ireturn, 1, 20, 0), (20, .aload_n 0, 1, 21, 0), (21, .getfield 23, 3, 24, 0), (24, .ifCond .ne 39, 3, 27, 63), (27, .iload_n 2, 1, 28, 0), (28, .ifCond .lt 35, 3, 31, 63), (31, .iload_n 2, 1, 32, 0), (32, .sipush 10000, 3, 35, 0), (35, .if_icmp .gt 28, 3, 38, 63), (38, .iload_n 3, 1, 39, 0), (39, .ifCond .lt 24, 3, 42, 63), (42, .iload_n 3, 1, 43, 0), (43, .sipush 10000, 3, 46, 0), (46, .if_icmp .gt 17, 3, 49, 63), (49, .iload 4, 2, 51, 0), (51, .ifCond .eq 14, 3, 54, 65), (54, .aload_n 0, 1, 55, 0), (55, .getfield 19, 3, 58, 0), (58, .iload_n 1, 1, 59, 0), (59, .baload, 1, 60, 0), (60, .ifCond .ne 5, 3, 63, 65), (63, .iconst 0, 1, 64, 0), (64, .ireturn, 1, 65, 0), (65, .aload_n 0, 1, 66, 0), (66, .getfield 27, 3, 69, 0), (69, .iload_n 1, 1, 70, 0), (70, .iload_n 2, 1, 71, 0), (71, .iastore, 1, 72, 0), (72, .aload_n 0, 1, 73, 0)] = true := by decide +kernel
set_option maxRecDepth 20000 in
theorem k_X10_put_1 : ckD cX10_put [(73, .getfield 30, 3, 76, 0), (76, .iload_n 1, 1, 77, 0), (77, .iload_n 3, 1, 78, 0), (78, .iastore, 1, 79, 0), (79, .aload_n 0, 1, 80, 0), (80, .aload_n 0, 1, 81, 0), (81, .getfield 127, 3, 84, 0), (84, .iconst 1, 1, 85, 0), (85, .iload_n 1, 1, 86, 0), (86, .ishl, 1, 87, 0), (87, .iconst (-1), 1, 88, 0), (88, .ixor, 1, 89, 0), (89, .iand, 1, 90, 0), (90, .iload 4, 2, 92, 0), (92, .ifCond .eq 9, 3, 95, 101), (95, .iconst 1, 1, 96, 0), (96, .iload_n 1, 1, 97, 0), (97, .ishl, 1, 98, 0), (98, .goto 4, 3, 101, 102), (101, .iconst 0, 1, 102, 0), (102, .ior, 1, 103, 0), (103, .putfield 127, 3, 106, 0), (106, .iconst 1, 1, 107, 0), (107, .ireturn, 1, 108, 0)] = true := by decide +kernel
def f_X10_put_J102 (a1 : Int32) (M_10 : Mm) (s_12 : Int32) : Option (Int32 × Mm) := lt1 (wi M_10 69 7 (((M_10.1 69 7) &&& (((1 : Int32) <<< (a1 &&& 31)) ^^^ (-1 : Int32))) ||| s_12)) fun M_13 => some ((1 : Int32), M_13)
def f_X10_put_J65 (a1 : Int32) (a2 : Int32) (a3 : Int32) (a4 : Int32) (M_1 : Mm) (_ : Unit) : Option (Int32 × Mm) := wrI 12 M_1 74 a1 a2 fun M_8 => wrI 12 M_8 75 a1 a3 fun M_10 => if a4 = 0 then f_X10_put_J102 a1 M_10 (0 : Int32) else f_X10_put_J102 a1 M_10 (((1 : Int32) <<< (a1 &&& 31)))
def f_X10_put (a1 : Int32) (a2 : Int32) (a3 : Int32) (a4 : Int32) (M : Mm) : Option (Int32 × Mm) := lt1 (wi M 69 0 (0 : Int32)) fun M_1 => if (f_X10_isBlock a1 M_1) = 0 then lt1 (f_X10_fail M_1) fun z_21 => some ((0 : Int32), z_21.2) else if (M_1.1 69 6) = 0 then (if a2 < 0 then some ((0 : Int32), M_1) else if (10000 : Int32) < a2 then some ((0 : Int32), M_1) else if a3 < 0 then some ((0 : Int32), M_1) else if (10000 : Int32) < a3 then some ((0 : Int32), M_1) else if a4 = 0 then f_X10_put_J65 a1 a2 a3 a4 M_1 () else rdI 12 M_1 73 a1 fun v_16 => if v_16 = 0 then some ((0 : Int32), M_1) else f_X10_put_J65 a1 a2 a3 a4 M_1 ()) else some ((0 : Int32), M_1)
set_option maxRecDepth 100000 in
set_option maxHeartbeats 4000000 in
theorem t_X10_put {E : Ev} {l : Launch} (htr : l.stackTraces = false) (a1 : Int32) (a2 : Int32) (a3 : Int32) (a4 : Int32) (M : Mm) (r : (Int32 × Mm)) (hf : f_X10_put a1 a2 a3 a4 M = some r) : CM E l 1 0 0 yX10_put cX10_put 5 (some .boolean) [.ref (E.1 + 69), .int a1, .int a2, .int a3, .int a4] M (some (.int r.1)) r.2 := by
  refine CM.of htr (by decide +kernel) (Nat.le_of_ble_eq_true rfl) ?_
  intro K hE hL hl hR0 C hr hRv
  subst hE
  subst hl
  have C : Cx K cX10_put RX10 1 := C
  have hB : (0 : Nat) ≤ K.1.R.cells ∧ 0 ≤ K.1.R.slots := ⟨Nat.zero_le _, Nat.zero_le _⟩
  show G K (0, 0) 0 [(0, .ref (K.2.1.1 + 69)), (1, .int a1), (2, .int a2), (3, .int a3), (4, .int a4)] [] M
  unfold f_X10_put at hf
  refine g_aload_n 0 C (ckD_get k_X10_put_0 0 rfl) rfl rfl ?_
  refine g_iconst (v := (0 : Int32)) C (ckD_get k_X10_put_0 1 rfl) (by decide) ?_
  obtain ⟨M_1, eM_1, hf⟩ := lt_e hf
  refine g_putI C (ckD_get k_X10_put_0 2 rfl) fk_X10_121 T69 rfl ?_
  refine memI eM_1 ?_
  refine g_aload_n 0 C (ckD_get k_X10_put_0 3 rfl) rfl rfl ?_
  refine g_iload_n 1 C (ckD_get k_X10_put_0 4 rfl) rfl rfl ?_
  refine n_cV [.int a1] [] C (ckD_get k_X10_put_0 5 rfl) vk_X10_130 (t_X10_isBlock C.tr _ _ _ rfl) T69 rfl rfl (Nat.le_of_ble_eq_true rfl) (by decide) hB rfl ?_
  refine g_if_ne C (ckD_get k_X10_put_0 6 rfl) (fun c_2 => ?_) (fun c_2 => ?_)
  · have hf := if_f hf c_2
    refine g_aload_n 0 C (ckD_get k_X10_put_0 12 rfl) rfl rfl ?_
    refine g_getI C (ckD_get k_X10_put_0 13 rfl) fk_X10_23 T69 rfl ?_
    refine g_if_ne C (ckD_get k_X10_put_0 14 rfl) (fun c_3 => ?_) (fun c_3 => ?_)
    · have hf := if_f hf c_3
      refine g_iconst (v := (0 : Int32)) C (ckD_get k_X10_put_0 32 rfl) (by decide) ?_
      cases hf
      exact g_zret C (ckD_get k_X10_put_0 33 rfl) hr rfl hRv (Nat.le_refl _) (Nat.le_refl _)
    · have hf := if_t hf c_3
      refine g_iload_n 2 C (ckD_get k_X10_put_0 15 rfl) rfl rfl ?_
      refine g_if_lt C (ckD_get k_X10_put_0 16 rfl) (fun c_4 => ?_) (fun c_4 => ?_)
      · have hf := if_t hf c_4
        refine g_iconst (v := (0 : Int32)) C (ckD_get k_X10_put_0 32 rfl) (by decide) ?_
        cases hf
        exact g_zret C (ckD_get k_X10_put_0 33 rfl) hr rfl hRv (Nat.le_refl _) (Nat.le_refl _)
      · have hf := if_f hf c_4
        refine g_iload_n 2 C (ckD_get k_X10_put_0 17 rfl) rfl rfl ?_
        refine g_sipush (v := (10000 : Int32)) C (ckD_get k_X10_put_0 18 rfl) (by decide) ?_
        refine g_icmp_gt C (ckD_get k_X10_put_0 19 rfl) (fun c_5 => ?_) (fun c_5 => ?_)
        · have hf := if_t hf c_5
          refine g_iconst (v := (0 : Int32)) C (ckD_get k_X10_put_0 32 rfl) (by decide) ?_
          cases hf
          exact g_zret C (ckD_get k_X10_put_0 33 rfl) hr rfl hRv (Nat.le_refl _) (Nat.le_refl _)
        · have hf := if_f hf c_5
          refine g_iload_n 3 C (ckD_get k_X10_put_0 20 rfl) rfl rfl ?_
          refine g_if_lt C (ckD_get k_X10_put_0 21 rfl) (fun c_6 => ?_) (fun c_6 => ?_)
          · have hf := if_t hf c_6
            refine g_iconst (v := (0 : Int32)) C (ckD_get k_X10_put_0 32 rfl) (by decide) ?_
            cases hf
            exact g_zret C (ckD_get k_X10_put_0 33 rfl) hr rfl hRv (Nat.le_refl _) (Nat.le_refl _)
          · have hf := if_f hf c_6
            refine g_iload_n 3 C (ckD_get k_X10_put_0 22 rfl) rfl rfl ?_
            refine g_sipush (v := (10000 : Int32)) C (ckD_get k_X10_put_0 23 rfl) (by decide) ?_
            refine g_icmp_gt C (ckD_get k_X10_put_0 24 rfl) (fun c_7 => ?_) (fun c_7 => ?_)
            · have hf := if_t hf c_7
              refine g_iconst (v := (0 : Int32)) C (ckD_get k_X10_put_0 32 rfl) (by decide) ?_
              cases hf
              exact g_zret C (ckD_get k_X10_put_0 33 rfl) hr rfl hRv (Nat.le_refl _) (Nat.le_refl _)
            · have hf := if_f hf c_7
              refine g_iload 4 C (ckD_get k_X10_put_0 25 rfl) rfl ?_
              have hJ_65 : ∀ (_ : Unit), f_X10_put_J65 a1 a2 a3 a4 M_1 () = some r → G K (0, 0) 65 [(0, .ref (K.2.1.1 + 69)), (1, .int a1), (2, .int a2), (3, .int a3), (4, .int a4)] [] M_1 := by
                intro _ hf
                unfold f_X10_put_J65 at hf
                refine g_aload_n 0 C (ckD_get k_X10_put_0 34 rfl) rfl rfl ?_
                refine g_getR C (ckD_get k_X10_put_0 35 rfl) fk_X10_27 T69 rfl ?_
                refine g_iload_n 1 C (ckD_get k_X10_put_0 36 rfl) rfl rfl ?_
                refine g_iload_n 2 C (ckD_get k_X10_put_0 37 rfl) rfl rfl ?_
                obtain ⟨M_8, hi_9, eM_8, hf⟩ := wrI_e hf
                refine n_iast C (ckD_get k_X10_put_0 38 rfl) T74 hi_9 eM_8 ?_
                refine g_aload_n 0 C (ckD_get k_X10_put_0 39 rfl) rfl rfl ?_
                refine g_getR C (ckD_get k_X10_put_1 0 rfl) fk_X10_30 T69 rfl ?_
                refine g_iload_n 1 C (ckD_get k_X10_put_1 1 rfl) rfl rfl ?_
                refine g_iload_n 3 C (ckD_get k_X10_put_1 2 rfl) rfl rfl ?_
                obtain ⟨M_10, hi_11, eM_10, hf⟩ := wrI_e hf
                refine n_iast C (ckD_get k_X10_put_1 3 rfl) T75 hi_11 eM_10 ?_
                refine g_aload_n 0 C (ckD_get k_X10_put_1 4 rfl) rfl rfl ?_
                refine g_aload_n 0 C (ckD_get k_X10_put_1 5 rfl) rfl rfl ?_
                refine g_getI C (ckD_get k_X10_put_1 6 rfl) fk_X10_127 T69 rfl ?_
                refine g_iconst (v := (1 : Int32)) C (ckD_get k_X10_put_1 7 rfl) (by decide) ?_
                refine g_iload_n 1 C (ckD_get k_X10_put_1 8 rfl) rfl rfl ?_
                refine g_ishl C (ckD_get k_X10_put_1 9 rfl) ?_
                refine g_iconst (v := (-1 : Int32)) C (ckD_get k_X10_put_1 10 rfl) (by decide) ?_
                refine g_ixor C (ckD_get k_X10_put_1 11 rfl) ?_
                refine g_iand C (ckD_get k_X10_put_1 12 rfl) ?_
                refine g_iload 4 C (ckD_get k_X10_put_1 13 rfl) rfl ?_
                have hJ_102 : ∀ (s_12 : Int32), f_X10_put_J102 a1 M_10 s_12 = some r → G K (0, 0) 102 [] [.int s_12, .int ((M_10.1 69 7) &&& (((1 : Int32) <<< (a1 &&& 31)) ^^^ (-1 : Int32))), .ref (K.2.1.1 + 69)] M_10 := by
                  intro s_12 hf
                  unfold f_X10_put_J102 at hf
                  refine g_ior C (ckD_get k_X10_put_1 20 rfl) ?_
                  obtain ⟨M_13, eM_13, hf⟩ := lt_e hf
                  refine g_putI C (ckD_get k_X10_put_1 21 rfl) fk_X10_127 T69 rfl ?_
                  refine memI eM_13 ?_
                  refine g_iconst (v := (1 : Int32)) C (ckD_get k_X10_put_1 22 rfl) (by decide) ?_
                  cases hf
                  exact g_zret C (ckD_get k_X10_put_1 23 rfl) hr rfl hRv (Nat.le_refl _) (Nat.le_refl _)
                refine g_if_eq C (ckD_get k_X10_put_1 14 rfl) (fun c_14 => ?_) (fun c_14 => ?_)
                · have hf := if_t hf c_14
                  refine g_iconst (v := (0 : Int32)) C (ckD_get k_X10_put_1 19 rfl) (by decide) ?_
                  refine G.sub [] rfl ?_
                  exact hJ_102 _ hf
                · have hf := if_f hf c_14
                  refine g_iconst (v := (1 : Int32)) C (ckD_get k_X10_put_1 15 rfl) (by decide) ?_
                  refine g_iload_n 1 C (ckD_get k_X10_put_1 16 rfl) rfl rfl ?_
                  refine g_ishl C (ckD_get k_X10_put_1 17 rfl) ?_
                  refine g_goto C (ckD_get k_X10_put_1 18 rfl) ?_
                  refine G.sub [] rfl ?_
                  exact hJ_102 _ hf
              refine g_if_eq C (ckD_get k_X10_put_0 26 rfl) (fun c_15 => ?_) (fun c_15 => ?_)
              · have hf := if_t hf c_15
                exact hJ_65 () hf
              · have hf := if_f hf c_15
                refine g_aload_n 0 C (ckD_get k_X10_put_0 27 rfl) rfl rfl ?_
                refine g_getR C (ckD_get k_X10_put_0 28 rfl) fk_X10_19 T69 rfl ?_
                refine g_iload_n 1 C (ckD_get k_X10_put_0 29 rfl) rfl rfl ?_
                obtain ⟨v_16, hi_17, ev_16, hf⟩ := rdI_e hf
                refine n_zald C (ckD_get k_X10_put_0 30 rfl) T73 hi_17 ev_16 ?_
                refine g_if_ne C (ckD_get k_X10_put_0 31 rfl) (fun c_18 => ?_) (fun c_18 => ?_)
                · have hf := if_f hf c_18
                  exact hJ_65 () hf
                · have hf := if_t hf c_18
                  refine g_iconst (v := (0 : Int32)) C (ckD_get k_X10_put_0 32 rfl) (by decide) ?_
                  cases hf
                  exact g_zret C (ckD_get k_X10_put_0 33 rfl) hr rfl hRv (Nat.le_refl _) (Nat.le_refl _)
  · have hf := if_t hf c_2
    refine g_aload_n 0 C (ckD_get k_X10_put_0 7 rfl) rfl rfl ?_
    obtain ⟨z_21, ez_21, hf⟩ := lt_e hf
    refine n_cV [] [] C (ckD_get k_X10_put_0 8 rfl) vk_X10_134 (t_X10_fail C.tr _ _ ez_21) T69 rfl rfl (Nat.le_of_ble_eq_true rfl) (by decide) hB rfl ?_
    refine g_pop C (ckD_get k_X10_put_0 9 rfl) rfl ?_
    refine g_iconst (v := (0 : Int32)) C (ckD_get k_X10_put_0 10 rfl) (by decide) ?_
    cases hf
    exact g_zret C (ckD_get k_X10_put_0 11 rfl) hr rfl hRv (Nat.le_refl _) (Nat.le_refl _)

set_option maxRecDepth 20000 in
theorem k_X10_nibble_0 : ckD cX10_nibble [(0, .lload_n 0, 1, 1, 0), (1, .iconst 4, 1, 2, 0), (2, .iload_n 2, 1, 3, 0), (3, .imul, 1, 4, 0), (4, .lshr, 1, 5, 0), (5, .ldc2_w 138, 3, 8, 0), (8, .land, 1, 9, 0), (9, .l2i, 1, 10, 0), (10, .ireturn, 1, 11, 0)] = true := by decide +kernel
def f_X10_nibble (a0 : Int64) (a1 : Int32) : Int32 := ((((a0 >>> ((((4 : Int32) * a1)).toInt64 &&& 63)) &&& (15 : Int64))).toInt32)
set_option maxRecDepth 100000 in
set_option maxHeartbeats 4000000 in
theorem t_X10_nibble {E : Ev} {l : Launch} (htr : l.stackTraces = false) (a0 : Int64) (a1 : Int32) (M : Mm) (r : Int32) (hf : f_X10_nibble a0 a1 = r) : CM E l 0 0 0 yX10_nibble cX10_nibble 3 (some .int) [.long a0, .int a1] M (some (.int r)) M := by
  refine CM.of htr (by decide +kernel) (Nat.le_of_ble_eq_true rfl) ?_
  intro K hE hL hl hR0 C hr hRv
  subst hE
  subst hl
  have C : Cx K cX10_nibble RX10 0 := C
  have hB : (0 : Nat) ≤ K.1.R.cells ∧ 0 ≤ K.1.R.slots := ⟨Nat.zero_le _, Nat.zero_le _⟩
  show G K (0, 0) 0 [(0, .long a0), (2, .int a1)] [] M
  unfold f_X10_nibble at hf
  refine g_lload_n 0 C (ckD_get k_X10_nibble_0 0 rfl) rfl rfl ?_
  refine g_iconst (v := (4 : Int32)) C (ckD_get k_X10_nibble_0 1 rfl) (by decide) ?_
  refine g_iload_n 1 C (ckD_get k_X10_nibble_0 2 rfl) rfl rfl ?_
  refine g_imul C (ckD_get k_X10_nibble_0 3 rfl) ?_
  refine g_lshr C (ckD_get k_X10_nibble_0 4 rfl) ?_
  refine g_ldc2 C (ckD_get k_X10_nibble_0 5 rfl) q1308 ?_
  refine g_land C (ckD_get k_X10_nibble_0 6 rfl) ?_
  refine g_l2i C (ckD_get k_X10_nibble_0 7 rfl) ?_
  cases hf
  exact g_iret C (ckD_get k_X10_nibble_0 8 rfl) hr hRv (Nat.le_refl _) (Nat.le_refl _)

set_option maxRecDepth 20000 in
theorem k_X10_readOrder_0 : ckD cX10_readOrder [(0, .iconst 0, 1, 1, 0), (1, .istore 4, 2, 3, 0), (3, .iconst 0, 1, 4, 0), (4, .istore 5, 2, 6, 0), (6, .iload 5, 2, 8, 0), (8, .aload_n 0, 1, 9, 0), (9, .getfield 124, 3, 12, 0), (12, .if_icmp .ge 56, 3, 15, 68), (15, .aload_n 3, 1, 16, 0), (16, .iload 5, 2, 18, 0), (18, .lload_n 1, 1, 19, 0), (19, .iload 5, 2, 21, 0), (21, .invokestatic 140, 3, 24, 0), (24, .iastore, 1, 25, 0), (25, .aload_n 3, 1, 26, 0), (26, .iload 5, 2, 28, 0), (28, .iaload, 1, 29, 0), (29, .aload_n 0, 1, 30, 0), (30, .getfield 124, 3, 33, 0), (33, .if_icmp .ge 16, 3, 36, 49), (36, .iload 4, 2, 38, 0), (38, .aload_n 3, 1, 39, 0), (39, .iload 5, 2, 41, 0), (41, .iaload, 1, 42, 0), (42, .ishr, 1, 43, 0), (43, .iconst 1, 1, 44, 0), (44, .iand, 1, 45, 0), (45, .iconst 1, 1, 46, 0), (46, .if_icmp .ne 5, 3, 49, 51), (49, .iconst 0, 1, 50, 0), (50, .ireturn, 1, 51, 0), (51, .iload 4, 2, 53, 0), (53, .iconst 1, 1, 54, 0), (54, .aload_n 3, 1, 55, 0), (55, .iload 5, 2, 57, 0), (57, .iaload, 1, 58, 0), (58, .ishl, 1, 59, 0), (59, .ior, 1, 60, 0), (60, .istore 4, 2, 62, 0), (62, .iinc 5 1, 3, 65, 0)] = true := by decide +kernel
set_option maxRecDepth 20000 in
theorem k_X10_readOrder_1 : ckD cX10_readOrder [(65, .goto (-59), 3, 68, 6), (68, .iconst 1, 1, 69, 0), (69, .ireturn, 1, 70, 0)] = true := by decide +kernel
def f_X10_readOrder_A6 (M_4 : Mm) : Option (Int32 × Mm) := some ((1 : Int32), M_4)
def f_X10_readOrder_L6 (a1 : Int64) (k2 : Nat) (x4_1 : Int32) (x5_2 : Int32) (M_3 : Mm) : Option ((Int32 × Int32 × Mm) ⊕ (Mm ⊕ (Int32 × Mm))) := if (M_3.1 69 1) ≤ x5_2 then some (.inr (.inl M_3)) else wrI 12 M_3 k2 x5_2 (f_X10_nibble a1 x5_2) fun M_6 => rdI 12 M_6 k2 x5_2 fun v_8 => if (M_6.1 69 1) ≤ v_8 then some (.inr (.inr ((0 : Int32), M_6))) else rdI 12 M_6 k2 x5_2 fun v_11 => if ((x4_1 >>> (v_11 &&& 31)) &&& (1 : Int32)) = (1 : Int32) then some (.inr (.inr ((0 : Int32), M_6))) else rdI 12 M_6 k2 x5_2 fun v_14 => lt1 (x4_1 ||| ((1 : Int32) <<< (v_14 &&& 31))) fun x4_16 => lt1 (x5_2 + 1) fun x5_17 => some (.inl (x4_16, x5_17, M_6))
def f_X10_readOrder (a1 : Int64) (k2 : Nat) (M : Mm) : Option (Int32 × Mm) := (loop (fun v => f_X10_readOrder_L6 a1 k2 v.1 v.2.1 v.2.2) FU ((0 : Int32), (0 : Int32), M)).bind fun x => Sum.elim (fun z => f_X10_readOrder_A6 z) (fun o => some o) x
set_option maxRecDepth 100000 in
set_option maxHeartbeats 4000000 in
theorem t_X10_readOrder {E : Ev} {l : Launch} (htr : l.stackTraces = false) (a1 : Int64) (k2 : Nat) (hk2 : LT[k2]? = some (0, 12, [])) (M : Mm) (r : (Int32 × Mm)) (hf : f_X10_readOrder a1 k2 M = some r) : CM E l 1 0 0 yX10_readOrder cX10_readOrder 6 (some .boolean) [.ref (E.1 + 69), .long a1, .ref (E.1 + k2)] M (some (.int r.1)) r.2 := by
  refine CM.of htr (by decide +kernel) (Nat.le_of_ble_eq_true rfl) ?_
  intro K hE hL hl hR0 C hr hRv
  subst hE
  subst hl
  have C : Cx K cX10_readOrder RX10 1 := C
  have hB : (0 : Nat) ≤ K.1.R.cells ∧ 0 ≤ K.1.R.slots := ⟨Nat.zero_le _, Nat.zero_le _⟩
  have hL4 : 4 < K.2.2.1 := by rw [hL]; decide
  have hL5 : 5 < K.2.2.1 := by rw [hL]; decide
  show G K (0, 0) 0 [(0, .ref (K.2.1.1 + 69)), (1, .long a1), (3, .ref (K.2.1.1 + k2))] [] M
  unfold f_X10_readOrder at hf
  refine g_iconst (v := (0 : Int32)) C (ckD_get k_X10_readOrder_0 0 rfl) (by decide) ?_
  refine g_istore (lv' := [(4, _), (0, _), (1, _), (3, _)]) C (ckD_get k_X10_readOrder_0 1 rfl) hL4 rfl ?_
  refine g_iconst (v := (0 : Int32)) C (ckD_get k_X10_readOrder_0 2 rfl) (by decide) ?_
  refine g_istore (lv' := [(5, _), (4, _), (0, _), (1, _), (3, _)]) C (ckD_get k_X10_readOrder_0 3 rfl) hL5 rfl ?_
  refine G.sub [2, 3, 4, 1, 0] rfl ?_
  obtain ⟨xx_6, hx_6, hf⟩ := bd_e hf
  have hE_6 : ∀ (M_4 : Mm), xx_6 = .inl M_4 → G K (0, 0) 68 [] [] M_4 := by
    intro M_4 ex
    subst ex
    have hf : f_X10_readOrder_A6 M_4 = some r := hf
    unfold f_X10_readOrder_A6 at hf
    refine g_iconst (v := (1 : Int32)) C (ckD_get k_X10_readOrder_1 1 rfl) (by decide) ?_
    cases hf
    exact g_zret C (ckD_get k_X10_readOrder_1 2 rfl) hr rfl hRv (Nat.le_refl _) (Nat.le_refl _)
  have hO_6 : ∀ o, xx_6 = .inr o → o = r := by
    intro o eo
    subst eo
    have hf : some o = some r := hf
    cases hf
    rfl
  refine loop_e (x := xx_6) (P := fun (v : (Int32 × Int32 × Mm)) => G K (0, 0) 6 [(0, .ref (K.2.1.1 + 69)), (1, .long a1), (3, .ref (K.2.1.1 + k2)), (4, .int v.1), (5, .int v.2.1)] [] v.2.2) ?_ FU _ hx_6
  intro v rr_6 hf hn_6 hz_6
  obtain ⟨x4_1, x5_2, M_3⟩ := v
  have hf : f_X10_readOrder_L6 a1 k2 x4_1 x5_2 M_3 = some rr_6 := hf
  show G K (0, 0) 6 [(0, .ref (K.2.1.1 + 69)), (1, .long a1), (3, .ref (K.2.1.1 + k2)), (4, .int x4_1), (5, .int x5_2)] [] M_3
  unfold f_X10_readOrder_L6 at hf
  refine g_iload 4 C (ckD_get k_X10_readOrder_0 4 rfl) rfl ?_
  refine g_aload_n 0 C (ckD_get k_X10_readOrder_0 5 rfl) rfl rfl ?_
  refine g_getI C (ckD_get k_X10_readOrder_0 6 rfl) fk_X10_124 T69 rfl ?_
  refine g_icmp_ge C (ckD_get k_X10_readOrder_0 7 rfl) (fun c_5 => ?_) (fun c_5 => ?_)
  · have hf := if_t hf c_5
    refine G.sub [] rfl ?_
    cases hf
    exact hE_6 _ (hz_6 _ rfl).symm
  · have hf := if_f hf c_5
    refine g_aload_n 2 C (ckD_get k_X10_readOrder_0 8 rfl) rfl rfl ?_
    refine g_iload 4 C (ckD_get k_X10_readOrder_0 9 rfl) rfl ?_
    refine g_lload_n 1 C (ckD_get k_X10_readOrder_0 10 rfl) rfl rfl ?_
    refine g_iload 4 C (ckD_get k_X10_readOrder_0 11 rfl) rfl ?_
    refine n_cS [.long a1, .int x5_2] [.int x5_2, .ref (K.2.1.1 + k2)] C (ckD_get k_X10_readOrder_0 12 rfl) sk_X10_140 (t_X10_nibble C.tr _ _ _ _ rfl) rfl rfl (Nat.le_of_ble_eq_true rfl) (by decide) hB rfl ?_
    obtain ⟨M_6, hi_7, eM_6, hf⟩ := wrI_e hf
    refine n_iast C (ckD_get k_X10_readOrder_0 13 rfl) hk2 hi_7 eM_6 ?_
    refine g_aload_n 2 C (ckD_get k_X10_readOrder_0 14 rfl) rfl rfl ?_
    refine g_iload 4 C (ckD_get k_X10_readOrder_0 15 rfl) rfl ?_
    obtain ⟨v_8, hi_9, ev_8, hf⟩ := rdI_e hf
    refine n_iald C (ckD_get k_X10_readOrder_0 16 rfl) hk2 hi_9 ev_8 ?_
    refine g_aload_n 0 C (ckD_get k_X10_readOrder_0 17 rfl) rfl rfl ?_
    refine g_getI C (ckD_get k_X10_readOrder_0 18 rfl) fk_X10_124 T69 rfl ?_
    refine g_icmp_ge C (ckD_get k_X10_readOrder_0 19 rfl) (fun c_10 => ?_) (fun c_10 => ?_)
    · have hf := if_t hf c_10
      refine g_iconst (v := (0 : Int32)) C (ckD_get k_X10_readOrder_0 29 rfl) (by decide) ?_
      cases hf
      cases hO_6 _ (hz_6 _ rfl).symm
      exact g_zret C (ckD_get k_X10_readOrder_0 30 rfl) hr rfl hRv (Nat.le_refl _) (Nat.le_refl _)
    · have hf := if_f hf c_10
      refine g_iload 3 C (ckD_get k_X10_readOrder_0 20 rfl) rfl ?_
      refine g_aload_n 2 C (ckD_get k_X10_readOrder_0 21 rfl) rfl rfl ?_
      refine g_iload 4 C (ckD_get k_X10_readOrder_0 22 rfl) rfl ?_
      obtain ⟨v_11, hi_12, ev_11, hf⟩ := rdI_e hf
      refine n_iald C (ckD_get k_X10_readOrder_0 23 rfl) hk2 hi_12 ev_11 ?_
      refine g_ishr C (ckD_get k_X10_readOrder_0 24 rfl) ?_
      refine g_iconst (v := (1 : Int32)) C (ckD_get k_X10_readOrder_0 25 rfl) (by decide) ?_
      refine g_iand C (ckD_get k_X10_readOrder_0 26 rfl) ?_
      refine g_iconst (v := (1 : Int32)) C (ckD_get k_X10_readOrder_0 27 rfl) (by decide) ?_
      refine g_icmp_ne C (ckD_get k_X10_readOrder_0 28 rfl) (fun c_13 => ?_) (fun c_13 => ?_)
      · have hf := if_f hf c_13
        refine g_iload 3 C (ckD_get k_X10_readOrder_0 31 rfl) rfl ?_
        refine g_iconst (v := (1 : Int32)) C (ckD_get k_X10_readOrder_0 32 rfl) (by decide) ?_
        refine g_aload_n 2 C (ckD_get k_X10_readOrder_0 33 rfl) rfl rfl ?_
        refine g_iload 4 C (ckD_get k_X10_readOrder_0 34 rfl) rfl ?_
        obtain ⟨v_14, hi_15, ev_14, hf⟩ := rdI_e hf
        refine n_iald C (ckD_get k_X10_readOrder_0 35 rfl) hk2 hi_15 ev_14 ?_
        refine g_ishl C (ckD_get k_X10_readOrder_0 36 rfl) ?_
        refine g_ior C (ckD_get k_X10_readOrder_0 37 rfl) ?_
        obtain ⟨x4_16, ex4_16, hf⟩ := lt_e hf
        refine topI ex4_16 ?_
        refine g_istore (lv' := [(4, _), (0, _), (1, _), (3, _), (5, _)]) C (ckD_get k_X10_readOrder_0 38 rfl) hL4 rfl ?_
        obtain ⟨x5_17, ex5_17, hf⟩ := lt_e hf
        refine g_iinc (lv' := [(5, _), (4, _), (0, _), (1, _), (3, _)]) 4 C (ckD_get k_X10_readOrder_0 39 rfl) rfl ex5_17 hL5 rfl ?_
        refine g_goto C (ckD_get k_X10_readOrder_1 0 rfl) ?_
        refine G.sub [2, 3, 4, 1, 0] rfl ?_
        cases hf
        exact hn_6 _ rfl
      · have hf := if_t hf c_13
        refine g_iconst (v := (0 : Int32)) C (ckD_get k_X10_readOrder_0 29 rfl) (by decide) ?_
        cases hf
        cases hO_6 _ (hz_6 _ rfl).symm
        exact g_zret C (ckD_get k_X10_readOrder_0 30 rfl) hr rfl hRv (Nat.le_refl _) (Nat.le_refl _)

set_option maxRecDepth 20000 in
theorem k_X10_placeIn_0 : ckD cX10_placeIn [(0, .iconst 0, 1, 1, 0), (1, .istore_n 2, 1, 2, 0), (2, .aload_n 0, 1, 3, 0), (3, .iload_n 2, 1, 4, 0), (4, .iaload, 1, 5, 0), (5, .iload_n 1, 1, 6, 0), (6, .if_icmp .eq 9, 3, 9, 15), (9, .iinc 2 1, 3, 12, 0), (12, .goto (-10), 3, 15, 2), (15, .iload_n 2, 1, 16, 0), (16, .ireturn, 1, 17, 0)] = true := by decide +kernel
def f_X10_placeIn_A2 (x2_2 : Int32) : Option Int32 := some x2_2
def f_X10_placeIn_L2 (k0 : Nat) (a1 : Int32) (M : Mm) (x2_1 : Int32) : Option (Int32 ⊕ Int32) := rdI 12 M k0 x2_1 fun v_3 => if v_3 = a1 then some (.inr x2_1) else lt1 (x2_1 + 1) fun x2_6 => some (.inl x2_6)
def f_X10_placeIn (k0 : Nat) (a1 : Int32) (M : Mm) : Option Int32 := (loop (fun v => f_X10_placeIn_L2 k0 a1 M v) FU (0 : Int32)).bind fun z => f_X10_placeIn_A2 z
set_option maxRecDepth 100000 in
set_option maxHeartbeats 4000000 in
theorem t_X10_placeIn {E : Ev} {l : Launch} (htr : l.stackTraces = false) (k0 : Nat) (hk0 : LT[k0]? = some (0, 12, [])) (a1 : Int32) (M : Mm) (r : Int32) (hf : f_X10_placeIn k0 a1 M = some r) : CM E l 0 0 0 yX10_placeIn cX10_placeIn 3 (some .int) [.ref (E.1 + k0), .int a1] M (some (.int r)) M := by
  refine CM.of htr (by decide +kernel) (Nat.le_of_ble_eq_true rfl) ?_
  intro K hE hL hl hR0 C hr hRv
  subst hE
  subst hl
  have C : Cx K cX10_placeIn RX10 0 := C
  have hB : (0 : Nat) ≤ K.1.R.cells ∧ 0 ≤ K.1.R.slots := ⟨Nat.zero_le _, Nat.zero_le _⟩
  have hL2 : 2 < K.2.2.1 := by rw [hL]; decide
  show G K (0, 0) 0 [(0, .ref (K.2.1.1 + k0)), (1, .int a1)] [] M
  unfold f_X10_placeIn at hf
  refine g_iconst (v := (0 : Int32)) C (ckD_get k_X10_placeIn_0 0 rfl) (by decide) ?_
  refine g_istore_n (lv' := [(2, _), (0, _), (1, _)]) C (ckD_get k_X10_placeIn_0 1 rfl) rfl hL2 rfl ?_
  refine G.sub [1, 2, 0] rfl ?_
  obtain ⟨x2_2, hx_2, hf⟩ := bd_e hf
  have hE_2 : G K (0, 0) 15 [(2, .int x2_2)] [] M := by
    have hf : f_X10_placeIn_A2 x2_2 = some r := hf
    unfold f_X10_placeIn_A2 at hf
    refine g_iload_n 0 C (ckD_get k_X10_placeIn_0 9 rfl) rfl rfl ?_
    cases hf
    exact g_iret C (ckD_get k_X10_placeIn_0 10 rfl) hr hRv (Nat.le_refl _) (Nat.le_refl _)
  refine loop_e (x := x2_2) (P := fun (v : Int32) => G K (0, 0) 2 [(0, .ref (K.2.1.1 + k0)), (1, .int a1), (2, .int v)] [] M) ?_ FU _ hx_2
  intro x2_1 rr_2 hf hn_2 hz_2
  have hf : f_X10_placeIn_L2 k0 a1 M x2_1 = some rr_2 := hf
  show G K (0, 0) 2 [(0, .ref (K.2.1.1 + k0)), (1, .int a1), (2, .int x2_1)] [] M
  unfold f_X10_placeIn_L2 at hf
  refine g_aload_n 0 C (ckD_get k_X10_placeIn_0 2 rfl) rfl rfl ?_
  refine g_iload_n 2 C (ckD_get k_X10_placeIn_0 3 rfl) rfl rfl ?_
  obtain ⟨v_3, hi_4, ev_3, hf⟩ := rdI_e hf
  refine n_iald C (ckD_get k_X10_placeIn_0 4 rfl) hk0 hi_4 ev_3 ?_
  refine g_iload_n 1 C (ckD_get k_X10_placeIn_0 5 rfl) rfl rfl ?_
  refine g_icmp_eq C (ckD_get k_X10_placeIn_0 6 rfl) (fun c_5 => ?_) (fun c_5 => ?_)
  · have hf := if_t hf c_5
    refine G.sub [2] rfl ?_
    cases hf
    cases hz_2 _ rfl
    exact hE_2
  · have hf := if_f hf c_5
    obtain ⟨x2_6, ex2_6, hf⟩ := lt_e hf
    refine g_iinc (lv' := [(2, _), (0, _), (1, _)]) 2 C (ckD_get k_X10_placeIn_0 7 rfl) rfl ex2_6 hL2 rfl ?_
    refine g_goto C (ckD_get k_X10_placeIn_0 8 rfl) ?_
    refine G.sub [1, 2, 0] rfl ?_
    cases hf
    exact hn_2 _ rfl
