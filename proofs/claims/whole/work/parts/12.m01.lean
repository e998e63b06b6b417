set_option maxRecDepth 20000 in
theorem k_X0_has_0 : ckD cX0_has [(0, .iload_n 1, 1, 1, 0), (1, .ifCond .lt 15, 3, 4, 16), (4, .iload_n 1, 1, 5, 0), (5, .aload_n 0, 1, 6, 0), (6, .getfield 18, 3, 9, 0), (9, .if_icmp .ge 7, 3, 12, 16), (12, .iconst 1, 1, 13, 0), (13, .goto 4, 3, 16, 17), (16, .iconst 0, 1, 17, 0), (17, .ireturn, 1, 18, 0)] = true := by decide +kernel
def f_X0_has (a1 : Int32) (M : Mm) : Int32 := if a1 < 0 then (0 : Int32) else if (M.1 1 3) ≤ a1 then (0 : Int32) else (1 : Int32)
set_option maxRecDepth 100000 in
set_option maxHeartbeats 4000000 in
theorem t_X0_has {E : Ev} {l : Launch} (htr : l.stackTraces = false) (a1 : Int32) (M : Mm) (r : Int32) (hf : f_X0_has a1 M = r) : CM E l 0 0 0 yX0_has cX0_has 2 (some .boolean) [.ref (E.1 + 1), .int a1] M (some (.int r)) M := by
  refine CM.of htr (by decide +kernel) (Nat.le_of_ble_eq_true rfl) ?_
  intro K hE hL hl hR0 C hr hRv
  subst hE
  subst hl
  have C : Cx K cX0_has RX0 0 := C
  have hB : (0 : Nat) ≤ K.1.R.cells ∧ 0 ≤ K.1.R.slots := ⟨Nat.zero_le _, Nat.zero_le _⟩
  show G K (0, 0) 0 [(0, .ref (K.2.1.1 + 1)), (1, .int a1)] [] M
  unfold f_X0_has at hf
  refine g_iload_n 1 C (ckD_get k_X0_has_0 0 rfl) rfl rfl ?_
  refine g_if_lt C (ckD_get k_X0_has_0 1 rfl) (fun c_1 => ?_) (fun c_1 => ?_)
  · have hf := if_t hf c_1
    refine g_iconst (v := (0 : Int32)) C (ckD_get k_X0_has_0 8 rfl) (by decide) ?_
    cases hf
    exact g_zret C (ckD_get k_X0_has_0 9 rfl) hr rfl hRv (Nat.le_refl _) (Nat.le_refl _)
  · have hf := if_f hf c_1
    refine g_iload_n 1 C (ckD_get k_X0_has_0 2 rfl) rfl rfl ?_
    refine g_aload_n 0 C (ckD_get k_X0_has_0 3 rfl) rfl rfl ?_
    refine g_getI C (ckD_get k_X0_has_0 4 rfl) fk_X0_18 T1 rfl ?_
    refine g_icmp_ge C (ckD_get k_X0_has_0 5 rfl) (fun c_2 => ?_) (fun c_2 => ?_)
    · have hf := if_t hf c_2
      refine g_iconst (v := (0 : Int32)) C (ckD_get k_X0_has_0 8 rfl) (by decide) ?_
      cases hf
      exact g_zret C (ckD_get k_X0_has_0 9 rfl) hr rfl hRv (Nat.le_refl _) (Nat.le_refl _)
    · have hf := if_f hf c_2
      refine g_iconst (v := (1 : Int32)) C (ckD_get k_X0_has_0 6 rfl) (by decide) ?_
      refine g_goto C (ckD_get k_X0_has_0 7 rfl) ?_
      cases hf
      exact g_zret C (ckD_get k_X0_has_0 9 rfl) hr rfl hRv (Nat.le_refl _) (Nat.le_refl _)

set_option maxRecDepth 20000 in
theorem k_X0_everyone_0 : ckD cX0_everyone [(0, .iconst 1, 1, 1, 0), (1, .aload_n 0, 1, 2, 0), (2, .getfield 18, 3, 5, 0), (5, .ishl, 1, 6, 0), (6, .iconst 1, 1, 7, 0), (7, .isub, 1, 8, 0), (8, .ireturn, 1, 9, 0)] = true := by decide +kernel
def f_X0_everyone  (M : Mm) : Int32 := (((1 : Int32) <<< ((M.1 1 3) &&& 31)) - (1 : Int32))
set_option maxRecDepth 100000 in
set_option maxHeartbeats 4000000 in
theorem t_X0_everyone {E : Ev} {l : Launch} (htr : l.stackTraces = false) (M : Mm) (r : Int32) (hf : f_X0_everyone M = r) : CM E l 0 0 0 yX0_everyone cX0_everyone 1 (some .int) [.ref (E.1 + 1)] M (some (.int r)) M := by
  refine CM.of htr (by decide +kernel) (Nat.le_of_ble_eq_true rfl) ?_
  intro K hE hL hl hR0 C hr hRv
  subst hE
  subst hl
  have C : Cx K cX0_everyone RX0 0 := C
  have hB : (0 : Nat) ≤ K.1.R.cells ∧ 0 ≤ K.1.R.slots := ⟨Nat.zero_le _, Nat.zero_le _⟩
  show G K (0, 0) 0 [(0, .ref (K.2.1.1 + 1))] [] M
  unfold f_X0_everyone at hf
  refine g_iconst (v := (1 : Int32)) C (ckD_get k_X0_everyone_0 0 rfl) (by decide) ?_
  refine g_aload_n 0 C (ckD_get k_X0_everyone_0 1 rfl) rfl rfl ?_
  refine g_getI C (ckD_get k_X0_everyone_0 2 rfl) fk_X0_18 T1 rfl ?_
  refine g_ishl C (ckD_get k_X0_everyone_0 3 rfl) ?_
  refine g_iconst (v := (1 : Int32)) C (ckD_get k_X0_everyone_0 4 rfl) (by decide) ?_
  refine g_isub C (ckD_get k_X0_everyone_0 5 rfl) ?_
  cases hf
  exact g_iret C (ckD_get k_X0_everyone_0 6 rfl) hr hRv (Nat.le_refl _) (Nat.le_refl _)

set_option maxRecDepth 20000 in
theorem k_X0_add_0 : ckD cX0_add [(0, .aload_n 0, 1, 1, 0), (1, .getfield 18, 3, 4, 0), (4, .istore 4, 2, 6, 0), (6, .iload 4, 2, 8, 0), (8, .bipush 12, 2, 10, 0), (10, .if_icmp .ge 50, 3, 13, 60), (13, .aload_n 0, 1, 14, 0), (14, .getfield 9, 3, 17, 0), (17, .iload 4, 2, 19, 0), (19, .iload_n 1, 1, 20, 0), (20, .iastore, 1, 21, 0), (21, .aload_n 0, 1, 22, 0), (22, .getfield 15, 3, 25, 0), (25, .iload 4, 2, 27, 0), (27, .iload_n 2, 1, 28, 0), (28, .iastore, 1, 29, 0), (29, .aload_n 0, 1, 30, 0), (30, .dup, 1, 31, 0), (31, .getfield 22, 3, 34, 0), (34, .iload_n 3, 1, 35, 0), (35, .ifCond .eq 7, 3, 38, 42), (38, .iconst 1, 1, 39, 0), (39, .goto 4, 3, 42, 43), (42, .iconst 0, 1, 43, 0), (43, .iload 4, 2, 45, 0), (45, .ishl, 1, 46, 0), (46, .ior, 1, 47, 0), (47, .putfield 22, 3, 50, 0), (50, .aload_n 0, 1, 51, 0), (51, .dup, 1, 52, 0), (52, .getfield 18, 3, 55, 0), (55, .iconst 1, 1, 56, 0), (56, .iadd, 1, 57, 0), (57, .putfield 18, 3, 60, 0), (60, .iload 4, 2, 62, 0), (62, .ireturn, 1, 63, 0)] = true := by decide +kernel
def f_X0_add_J43 (x4_1 : Int32) (M_5 : Mm) (s_7 : Int32) : Option (Int32 × Mm) := lt1 (wi M_5 1 2 ((M_5.1 1 2) ||| (s_7 <<< (x4_1 &&& 31)))) fun M_8 => lt1 (wi M_8 1 3 ((M_8.1 1 3) + (1 : Int32))) fun M_9 => some (x4_1, M_9)
def f_X0_add (a1 : Int32) (a2 : Int32) (a3 : Int32) (M : Mm) : Option (Int32 × Mm) := lt1 (M.1 1 3) fun x4_1 => if (12 : Int32) ≤ x4_1 then some (x4_1, M) else wrI 12 M 2 x4_1 a1 fun M_3 => wrI 12 M_3 3 x4_1 a2 fun M_5 => if a3 = 0 then f_X0_add_J43 x4_1 M_5 (0 : Int32) else f_X0_add_J43 x4_1 M_5 (1 : Int32)
set_option maxRecDepth 100000 in
set_option maxHeartbeats 4000000 in
theorem t_X0_add {E : Ev} {l : Launch} (htr : l.stackTraces = false) (a1 : Int32) (a2 : Int32) (a3 : Int32) (M : Mm) (r : (Int32 × Mm)) (hf : f_X0_add a1 a2 a3 M = some r) : CM E l 0 0 0 yX0_add cX0_add 5 (some .int) [.ref (E.1 + 1), .int a1, .int a2, .int a3] M (some (.int r.1)) r.2 := by
  refine CM.of htr (by decide +kernel) (Nat.le_of_ble_eq_true rfl) ?_
  intro K hE hL hl hR0 C hr hRv
  subst hE
  subst hl
  have C : Cx K cX0_add RX0 0 := C
  have hB : (0 : Nat) ≤ K.1.R.cells ∧ 0 ≤ K.1.R.slots := ⟨Nat.zero_le _, Nat.zero_le _⟩
  have hL4 : 4 < K.2.2.1 := by rw [hL]; decide
  show G K (0, 0) 0 [(0, .ref (K.2.1.1 + 1)), (1, .int a1), (2, .int a2), (3, .int a3)] [] M
  unfold f_X0_add at hf
  refine g_aload_n 0 C (ckD_get k_X0_add_0 0 rfl) rfl rfl ?_
  refine g_getI C (ckD_get k_X0_add_0 1 rfl) fk_X0_18 T1 rfl ?_
  obtain ⟨x4_1, ex4_1, hf⟩ := lt_e hf
  refine topI ex4_1 ?_
  refine g_istore (lv' := [(4, _), (0, _), (1, _), (2, _), (3, _)]) C (ckD_get k_X0_add_0 2 rfl) hL4 rfl ?_
  refine g_iload 0 C (ckD_get k_X0_add_0 3 rfl) rfl ?_
  refine g_bipush (v := (12 : Int32)) C (ckD_get k_X0_add_0 4 rfl) (by decide) ?_
  refine g_icmp_ge C (ckD_get k_X0_add_0 5 rfl) (fun c_2 => ?_) (fun c_2 => ?_)
  · have hf := if_t hf c_2
    refine g_iload 0 C (ckD_get k_X0_add_0 34 rfl) rfl ?_
    cases hf
    exact g_iret C (ckD_get k_X0_add_0 35 rfl) hr hRv (Nat.le_refl _) (Nat.le_refl _)
  · have hf := if_f hf c_2
    refine g_aload_n 1 C (ckD_get k_X0_add_0 6 rfl) rfl rfl ?_
    refine g_getR C (ckD_get k_X0_add_0 7 rfl) fk_X0_9 T1 rfl ?_
    refine g_iload 0 C (ckD_get k_X0_add_0 8 rfl) rfl ?_
    refine g_iload_n 2 C (ckD_get k_X0_add_0 9 rfl) rfl rfl ?_
    obtain ⟨M_3, hi_4, eM_3, hf⟩ := wrI_e hf
    refine n_iast C (ckD_get k_X0_add_0 10 rfl) T2 hi_4 eM_3 ?_
    refine g_aload_n 1 C (ckD_get k_X0_add_0 11 rfl) rfl rfl ?_
    refine g_getR C (ckD_get k_X0_add_0 12 rfl) fk_X0_15 T1 rfl ?_
    refine g_iload 0 C (ckD_get k_X0_add_0 13 rfl) rfl ?_
    refine g_iload_n 3 C (ckD_get k_X0_add_0 14 rfl) rfl rfl ?_
    obtain ⟨M_5, hi_6, eM_5, hf⟩ := wrI_e hf
    refine n_iast C (ckD_get k_X0_add_0 15 rfl) T3 hi_6 eM_5 ?_
    refine g_aload_n 1 C (ckD_get k_X0_add_0 16 rfl) rfl rfl ?_
    refine g_dup C (ckD_get k_X0_add_0 17 rfl) rfl ?_
    refine g_getI C (ckD_get k_X0_add_0 18 rfl) fk_X0_22 T1 rfl ?_
    refine g_iload_n 4 C (ckD_get k_X0_add_0 19 rfl) rfl rfl ?_
    have hJ_43 : ∀ (s_7 : Int32), f_X0_add_J43 x4_1 M_5 s_7 = some r → G K (0, 0) 43 [(0, .ref (K.2.1.1 + 1)), (4, .int x4_1)] [.int s_7, .int (M_5.1 1 2), .ref (K.2.1.1 + 1)] M_5 := by
      intro s_7 hf
      unfold f_X0_add_J43 at hf
      refine g_iload 1 C (ckD_get k_X0_add_0 24 rfl) rfl ?_
      refine g_ishl C (ckD_get k_X0_add_0 25 rfl) ?_
      refine g_ior C (ckD_get k_X0_add_0 26 rfl) ?_
      obtain ⟨M_8, eM_8, hf⟩ := lt_e hf
      refine g_putI C (ckD_get k_X0_add_0 27 rfl) fk_X0_22 T1 rfl ?_
      refine memI eM_8 ?_
      refine g_aload_n 0 C (ckD_get k_X0_add_0 28 rfl) rfl rfl ?_
      refine g_dup C (ckD_get k_X0_add_0 29 rfl) rfl ?_
      refine g_getI C (ckD_get k_X0_add_0 30 rfl) fk_X0_18 T1 rfl ?_
      refine g_iconst (v := (1 : Int32)) C (ckD_get k_X0_add_0 31 rfl) (by decide) ?_
      refine g_iadd C (ckD_get k_X0_add_0 32 rfl) ?_
      obtain ⟨M_9, eM_9, hf⟩ := lt_e hf
      refine g_putI C (ckD_get k_X0_add_0 33 rfl) fk_X0_18 T1 rfl ?_
      refine memI eM_9 ?_
      refine g_iload 1 C (ckD_get k_X0_add_0 34 rfl) rfl ?_
      cases hf
      exact g_iret C (ckD_get k_X0_add_0 35 rfl) hr hRv (Nat.le_refl _) (Nat.le_refl _)
    refine g_if_eq C (ckD_get k_X0_add_0 20 rfl) (fun c_10 => ?_) (fun c_10 => ?_)
    · have hf := if_t hf c_10
      refine g_iconst (v := (0 : Int32)) C (ckD_get k_X0_add_0 23 rfl) (by decide) ?_
      refine G.sub [1, 0] rfl ?_
      exact hJ_43 _ hf
    · have hf := if_f hf c_10
      refine g_iconst (v := (1 : Int32)) C (ckD_get k_X0_add_0 21 rfl) (by decide) ?_
      refine g_goto C (ckD_get k_X0_add_0 22 rfl) ?_
      refine G.sub [1, 0] rfl ?_
      exact hJ_43 _ hf

set_option maxRecDepth 20000 in
theorem k_X0_drop_0 : ckD cX0_drop [(0, .aload_n 0, 1, 1, 0), (1, .dup, 1, 2, 0), (2, .getfield 18, 3, 5, 0), (5, .iconst 1, 1, 6, 0), (6, .isub, 1, 7, 0), (7, .putfield 18, 3, 10, 0), (10, .aload_n 0, 1, 11, 0), (11, .dup, 1, 12, 0), (12, .getfield 22, 3, 15, 0), (15, .aload_n 0, 1, 16, 0), (16, .invokevirtual 25, 3, 19, 0), (19, .iand, 1, 20, 0), (20, .putfield 22, 3, 23, 0), (23, .return_, 1, 24, 0)] = true := by decide +kernel
def f_X0_drop  (M : Mm) : Mm := lt1 (wi M 1 3 ((M.1 1 3) - (1 : Int32))) fun M_1 => lt1 (wi M_1 1 2 ((M_1.1 1 2) &&& (f_X0_everyone M_1))) fun M_2 => M_2
set_option maxRecDepth 100000 in
set_option maxHeartbeats 4000000 in
theorem t_X0_drop {E : Ev} {l : Launch} (htr : l.stackTraces = false) (M : Mm) (r : Mm) (hf : f_X0_drop M = r) : CM E l 1 0 0 yX0_drop cX0_drop 1 none [.ref (E.1 + 1)] M none r := by
  refine CM.of htr (by decide +kernel) (Nat.le_of_ble_eq_true rfl) ?_
  intro K hE hL hl hR0 C hr hRv
  subst hE
  subst hl
  have C : Cx K cX0_drop RX0 1 := C
  have hB : (0 : Nat) ≤ K.1.R.cells ∧ 0 ≤ K.1.R.slots := ⟨Nat.zero_le _, Nat.zero_le _⟩
  show G K (0, 0) 0 [(0, .ref (K.2.1.1 + 1))] [] M
  unfold f_X0_drop at hf
  refine g_aload_n 0 C (ckD_get k_X0_drop_0 0 rfl) rfl rfl ?_
  refine g_dup C (ckD_get k_X0_drop_0 1 rfl) rfl ?_
  refine g_getI C (ckD_get k_X0_drop_0 2 rfl) fk_X0_18 T1 rfl ?_
  refine g_iconst (v := (1 : Int32)) C (ckD_get k_X0_drop_0 3 rfl) (by decide) ?_
  refine g_isub C (ckD_get k_X0_drop_0 4 rfl) ?_
  obtain ⟨M_1, eM_1, hf⟩ := lt_e hf
  refine g_putI C (ckD_get k_X0_drop_0 5 rfl) fk_X0_18 T1 rfl ?_
  refine memI eM_1 ?_
  refine g_aload_n 0 C (ckD_get k_X0_drop_0 6 rfl) rfl rfl ?_
  refine g_dup C (ckD_get k_X0_drop_0 7 rfl) rfl ?_
  refine g_getI C (ckD_get k_X0_drop_0 8 rfl) fk_X0_22 T1 rfl ?_
  refine g_aload_n 0 C (ckD_get k_X0_drop_0 9 rfl) rfl rfl ?_
  refine n_cV [] [.int (M_1.1 1 2), .ref (K.2.1.1 + 1)] C (ckD_get k_X0_drop_0 10 rfl) vk_X0_25 (t_X0_everyone C.tr _ _ rfl) T1 rfl rfl (Nat.le_of_ble_eq_true rfl) (by decide) hB rfl ?_
  refine g_iand C (ckD_get k_X0_drop_0 11 rfl) ?_
  obtain ⟨M_2, eM_2, hf⟩ := lt_e hf
  refine g_putI C (ckD_get k_X0_drop_0 12 rfl) fk_X0_22 T1 rfl ?_
  refine memI eM_2 ?_
  cases hf
  exact g_vret C (ckD_get k_X0_drop_0 13 rfl) hr hRv (Nat.le_refl _) (Nat.le_refl _)

set_option maxRecDepth 20000 in
theorem k_X0_area_0 : ckD cX0_area [(0, .iconst 0, 1, 1, 0), (1, .istore_n 1, 1, 2, 0), (2, .iconst 0, 1, 3, 0), (3, .istore_n 2, 1, 4, 0), (4, .iload_n 2, 1, 5, 0), (5, .aload_n 0, 1, 6, 0), (6, .getfield 18, 3, 9, 0), (9, .if_icmp .ge 25, 3, 12, 34), (12, .iload_n 1, 1, 13, 0), (13, .aload_n 0, 1, 14, 0), (14, .getfield 9, 3, 17, 0), (17, .iload_n 2, 1, 18, 0), (18, .iaload, 1, 19, 0), (19, .aload_n 0, 1, 20, 0), (20, .getfield 15, 3, 23, 0), (23, .iload_n 2, 1, 24, 0), (24, .iaload, 1, 25, 0), (25, .imul, 1, 26, 0), (26, .iadd, 1, 27, 0), (27, .istore_n 1, 1, 28, 0), (28, .iinc 2 1, 3, 31, 0), (31, .goto (-27), 3, 34, 4), (34, .iload_n 1, 1, 35, 0), (35, .ireturn, 1, 36, 0)] = true := by decide +kernel
def f_X0_area_A4 (x1_3 : Int32) : Option Int32 := some x1_3
def f_X0_area_L4 (M : Mm) (x1_1 : Int32) (x2_2 : Int32) : Option ((Int32 × Int32) ⊕ Int32) := if (M.1 1 3) ≤ x2_2 then some (.inr x1_1) else rdI 12 M 2 x2_2 fun v_5 => rdI 12 M 3 x2_2 fun v_7 => lt1 (x1_1 + (v_5 * v_7)) fun x1_9 => lt1 (x2_2 + 1) fun x2_10 => some (.inl (x1_9, x2_10))
def f_X0_area  (M : Mm) : Option Int32 := (loop (fun v => f_X0_area_L4 M v.1 v.2) FU ((0 : Int32), (0 : Int32))).bind fun z => f_X0_area_A4 z
set_option maxRecDepth 100000 in
set_option maxHeartbeats 4000000 in
theorem t_X0_area {E : Ev} {l : Launch} (htr : l.stackTraces = false) (M : Mm) (r : Int32) (hf : f_X0_area M = some r) : CM E l 0 0 0 yX0_area cX0_area 3 (some .int) [.ref (E.1 + 1)] M (some (.int r)) M := by
  refine CM.of htr (by decide +kernel) (Nat.le_of_ble_eq_true rfl) ?_
  intro K hE hL hl hR0 C hr hRv
  subst hE
  subst hl
  have C : Cx K cX0_area RX0 0 := C
  have hB : (0 : Nat) ≤ K.1.R.cells ∧ 0 ≤ K.1.R.slots := ⟨Nat.zero_le _, Nat.zero_le _⟩
  have hL1 : 1 < K.2.2.1 := by rw [hL]; decide
  have hL2 : 2 < K.2.2.1 := by rw [hL]; decide
  show G K (0, 0) 0 [(0, .ref (K.2.1.1 + 1))] [] M
  unfold f_X0_area at hf
  refine g_iconst (v := (0 : Int32)) C (ckD_get k_X0_area_0 0 rfl) (by decide) ?_
  refine g_istore_n (lv' := [(1, _), (0, _)]) C (ckD_get k_X0_area_0 1 rfl) rfl hL1 rfl ?_
  refine g_iconst (v := (0 : Int32)) C (ckD_get k_X0_area_0 2 rfl) (by decide) ?_
  refine g_istore_n (lv' := [(2, _), (1, _), (0, _)]) C (ckD_get k_X0_area_0 3 rfl) rfl hL2 rfl ?_
  refine G.sub [2, 1, 0] rfl ?_
  obtain ⟨x1_3, hx_4, hf⟩ := bd_e hf
  have hE_4 : G K (0, 0) 34 [(1, .int x1_3)] [] M := by
    have hf : f_X0_area_A4 x1_3 = some r := hf
    unfold f_X0_area_A4 at hf
    refine g_iload_n 0 C (ckD_get k_X0_area_0 22 rfl) rfl rfl ?_
    cases hf
    exact g_iret C (ckD_get k_X0_area_0 23 rfl) hr hRv (Nat.le_refl _) (Nat.le_refl _)
  refine loop_e (x := x1_3) (P := fun (v : (Int32 × Int32)) => G K (0, 0) 4 [(0, .ref (K.2.1.1 + 1)), (1, .int v.1), (2, .int v.2)] [] M) ?_ FU _ hx_4
  intro v rr_4 hf hn_4 hz_4
  obtain ⟨x1_1, x2_2⟩ := v
  have hf : f_X0_area_L4 M x1_1 x2_2 = some rr_4 := hf
  show G K (0, 0) 4 [(0, .ref (K.2.1.1 + 1)), (1, .int x1_1), (2, .int x2_2)] [] M
  unfold f_X0_area_L4 at hf
  refine g_iload_n 2 C (ckD_get k_X0_area_0 4 rfl) rfl rfl ?_
  refine g_aload_n 0 C (ckD_get k_X0_area_0 5 rfl) rfl rfl ?_
  refine g_getI C (ckD_get k_X0_area_0 6 rfl) fk_X0_18 T1 rfl ?_
  refine g_icmp_ge C (ckD_get k_X0_area_0 7 rfl) (fun c_4 => ?_) (fun c_4 => ?_)
  · have hf := if_t hf c_4
    refine G.sub [1] rfl ?_
    cases hf
    cases hz_4 _ rfl
    exact hE_4
  · have hf := if_f hf c_4
    refine g_iload_n 1 C (ckD_get k_X0_area_0 8 rfl) rfl rfl ?_
    refine g_aload_n 0 C (ckD_get k_X0_area_0 9 rfl) rfl rfl ?_
    refine g_getR C (ckD_get k_X0_area_0 10 rfl) fk_X0_9 T1 rfl ?_
    refine g_iload_n 2 C (ckD_get k_X0_area_0 11 rfl) rfl rfl ?_
    obtain ⟨v_5, hi_6, ev_5, hf⟩ := rdI_e hf
    refine n_iald C (ckD_get k_X0_area_0 12 rfl) T2 hi_6 ev_5 ?_
    refine g_aload_n 0 C (ckD_get k_X0_area_0 13 rfl) rfl rfl ?_
    refine g_getR C (ckD_get k_X0_area_0 14 rfl) fk_X0_15 T1 rfl ?_
    refine g_iload_n 2 C (ckD_get k_X0_area_0 15 rfl) rfl rfl ?_
    obtain ⟨v_7, hi_8, ev_7, hf⟩ := rdI_e hf
    refine n_iald C (ckD_get k_X0_area_0 16 rfl) T3 hi_8 ev_7 ?_
    refine g_imul C (ckD_get k_X0_area_0 17 rfl) ?_
    refine g_iadd C (ckD_get k_X0_area_0 18 rfl) ?_
    obtain ⟨x1_9, ex1_9, hf⟩ := lt_e hf
    refine topI ex1_9 ?_
    refine g_istore_n (lv' := [(1, _), (0, _), (2, _)]) C (ckD_get k_X0_area_0 19 rfl) rfl hL1 rfl ?_
    obtain ⟨x2_10, ex2_10, hf⟩ := lt_e hf
    refine g_iinc (lv' := [(2, _), (1, _), (0, _)]) 2 C (ckD_get k_X0_area_0 20 rfl) rfl ex2_10 hL2 rfl ?_
    refine g_goto C (ckD_get k_X0_area_0 21 rfl) ?_
    refine G.sub [2, 1, 0] rfl ?_
    cases hf
    exact hn_4 _ rfl

set_option maxRecDepth 20000 in
theorem k_X0_changedByTurning_0 : ckD cX0_changedByTurning [(0, .aload_n 0, 1, 1, 0), (1, .getfield 22, 3, 4, 0), (4, .istore_n 1, 1, 5, 0), (5, .iconst 0, 1, 6, 0), (6, .istore_n 2, 1, 7, 0), (7, .iload_n 2, 1, 8, 0), (8, .aload_n 0, 1, 9, 0), (9, .getfield 18, 3, 12, 0), (12, .if_icmp .ge 32, 3, 15, 44), (15, .aload_n 0, 1, 16, 0), (16, .getfield 9, 3, 19, 0), (19, .iload_n 2, 1, 20, 0), (20, .iaload, 1, 21, 0), (21, .aload_n 0, 1, 22, 0), (22, .getfield 15, 3, 25, 0), (25, .iload_n 2, 1, 26, 0), (26, .iaload, 1, 27, 0), (27, .if_icmp .ne 11, 3, 30, 38), (30, .iload_n 1, 1, 31, 0), (31, .iconst 1, 1, 32, 0), (32, .iload_n 2, 1, 33, 0), (33, .ishl, 1, 34, 0), (34, .iconst (-1), 1, 35, 0), (35, .ixor, 1, 36, 0), (36, .iand, 1, 37, 0), (37, .istore_n 1, 1, 38, 0), (38, .iinc 2 1, 3, 41, 0), (41, .goto (-34), 3, 44, 7), (44, .iload_n 1, 1, 45, 0), (45, .ireturn, 1, 46, 0)] = true := by decide +kernel
def f_X0_changedByTurning_A7 (x1_4 : Int32) : Option Int32 := some x1_4
def f_X0_changedByTurning_J38 (x2_3 : Int32) (p1_10 : Int32) : Option ((Int32 × Int32) ⊕ Int32) := lt1 (x2_3 + 1) fun x2_11 => some (.inl (p1_10, x2_11))
def f_X0_changedByTurning_L7 (M : Mm) (x1_2 : Int32) (x2_3 : Int32) : Option ((Int32 × Int32) ⊕ Int32) := if (M.1 1 3) ≤ x2_3 then some (.inr x1_2) else rdI 12 M 2 x2_3 fun v_6 => rdI 12 M 3 x2_3 fun v_8 => if v_6 = v_8 then lt1 (x1_2 &&& (((1 : Int32) <<< (x2_3 &&& 31)) ^^^ (-1 : Int32))) fun x1_13 => f_X0_changedByTurning_J38 x2_3 x1_13 else f_X0_changedByTurning_J38 x2_3 x1_2
def f_X0_changedByTurning  (M : Mm) : Option Int32 := lt1 (M.1 1 2) fun x1_1 => (loop (fun v => f_X0_changedByTurning_L7 M v.1 v.2) FU (x1_1, (0 : Int32))).bind fun z => f_X0_changedByTurning_A7 z
set_option maxRecDepth 100000 in
set_option maxHeartbeats 4000000 in
theorem t_X0_changedByTurning {E : Ev} {l : Launch} (htr : l.stackTraces = false) (M : Mm) (r : Int32) (hf : f_X0_changedByTurning M = some r) : CM E l 0 0 0 yX0_changedByTurning cX0_changedByTurning 3 (some .int) [.ref (E.1 + 1)] M (some (.int r)) M := by
  refine CM.of htr (by decide +kernel) (Nat.le_of_ble_eq_true rfl) ?_
  intro K hE hL hl hR0 C hr hRv
  subst hE
  subst hl
  have C : Cx K cX0_changedByTurning RX0 0 := C
  have hB : (0 : Nat) ≤ K.1.R.cells ∧ 0 ≤ K.1.R.slots := ⟨Nat.zero_le _, Nat.zero_le _⟩
  have hL1 : 1 < K.2.2.1 := by rw [hL]; decide
  have hL2 : 2 < K.2.2.1 := by rw [hL]; decide
  show G K (0, 0) 0 [(0, .ref (K.2.1.1 + 1))] [] M
  unfold f_X0_changedByTurning at hf
  refine g_aload_n 0 C (ckD_get k_X0_changedByTurning_0 0 rfl) rfl rfl ?_
  refine g_getI C (ckD_get k_X0_changedByTurning_0 1 rfl) fk_X0_22 T1 rfl ?_
  obtain ⟨x1_1, ex1_1, hf⟩ := lt_e hf
  refine topI ex1_1 ?_
  refine g_istore_n (lv' := [(1, _), (0, _)]) C (ckD_get k_X0_changedByTurning_0 2 rfl) rfl hL1 rfl ?_
  refine g_iconst (v := (0 : Int32)) C (ckD_get k_X0_changedByTurning_0 3 rfl) (by decide) ?_
  refine g_istore_n (lv' := [(2, _), (1, _), (0, _)]) C (ckD_get k_X0_changedByTurning_0 4 rfl) rfl hL2 rfl ?_
  refine G.sub [2, 1, 0] rfl ?_
  obtain ⟨x1_4, hx_7, hf⟩ := bd_e hf
  have hE_7 : G K (0, 0) 44 [(1, .int x1_4)] [] M := by
    have hf : f_X0_changedByTurning_A7 x1_4 = some r := hf
    unfold f_X0_changedByTurning_A7 at hf
    refine g_iload_n 0 C (ckD_get k_X0_changedByTurning_0 28 rfl) rfl rfl ?_
    cases hf
    exact g_iret C (ckD_get k_X0_changedByTurning_0 29 rfl) hr hRv (Nat.le_refl _) (Nat.le_refl _)
  refine loop_e (x := x1_4) (P := fun (v : (Int32 × Int32)) => G K (0, 0) 7 [(0, .ref (K.2.1.1 + 1)), (1, .int v.1), (2, .int v.2)] [] M) ?_ FU _ hx_7
  intro v rr_7 hf hn_7 hz_7
  obtain ⟨x1_2, x2_3⟩ := v
  have hf : f_X0_changedByTurning_L7 M x1_2 x2_3 = some rr_7 := hf
  show G K (0, 0) 7 [(0, .ref (K.2.1.1 + 1)), (1, .int x1_2), (2, .int x2_3)] [] M
  unfold f_X0_changedByTurning_L7 at hf
  refine g_iload_n 2 C (ckD_get k_X0_changedByTurning_0 5 rfl) rfl rfl ?_
  refine g_aload_n 0 C (ckD_get k_X0_changedByTurning_0 6 rfl) rfl rfl ?_
  refine g_getI C (ckD_get k_X0_changedByTurning_0 7 rfl) fk_X0_18 T1 rfl ?_
  refine g_icmp_ge C (ckD_get k_X0_changedByTurning_0 8 rfl) (fun c_5 => ?_) (fun c_5 => ?_)
  · have hf := if_t hf c_5
    refine G.sub [1] rfl ?_
    cases hf
    cases hz_7 _ rfl
    exact hE_7
  · have hf := if_f hf c_5
    refine g_aload_n 0 C (ckD_get k_X0_changedByTurning_0 9 rfl) rfl rfl ?_
    refine g_getR C (ckD_get k_X0_changedByTurning_0 10 rfl) fk_X0_9 T1 rfl ?_
    refine g_iload_n 2 C (ckD_get k_X0_changedByTurning_0 11 rfl) rfl rfl ?_
    obtain ⟨v_6, hi_7, ev_6, hf⟩ := rdI_e hf
    refine n_iald C (ckD_get k_X0_changedByTurning_0 12 rfl) T2 hi_7 ev_6 ?_
    refine g_aload_n 0 C (ckD_get k_X0_changedByTurning_0 13 rfl) rfl rfl ?_
    refine g_getR C (ckD_get k_X0_changedByTurning_0 14 rfl) fk_X0_15 T1 rfl ?_
    refine g_iload_n 2 C (ckD_get k_X0_changedByTurning_0 15 rfl) rfl rfl ?_
    obtain ⟨v_8, hi_9, ev_8, hf⟩ := rdI_e hf
    refine n_iald C (ckD_get k_X0_changedByTurning_0 16 rfl) T3 hi_9 ev_8 ?_
    have hJ_38 : ∀ (p1_10 : Int32), f_X0_changedByTurning_J38 x2_3 p1_10 = some rr_7 → G K (0, 0) 38 [(0, .ref (K.2.1.1 + 1)), (1, .int p1_10), (2, .int x2_3)] [] M := by
      intro p1_10 hf
      unfold f_X0_changedByTurning_J38 at hf
      obtain ⟨x2_11, ex2_11, hf⟩ := lt_e hf
      refine g_iinc (lv' := [(2, _), (0, _), (1, _)]) 2 C (ckD_get k_X0_changedByTurning_0 26 rfl) rfl ex2_11 hL2 rfl ?_
      refine g_goto C (ckD_get k_X0_changedByTurning_0 27 rfl) ?_
      refine G.sub [1, 2, 0] rfl ?_
      cases hf
      exact hn_7 _ rfl
    refine g_icmp_ne C (ckD_get k_X0_changedByTurning_0 17 rfl) (fun c_12 => ?_) (fun c_12 => ?_)
    · have hf := if_f hf c_12
      exact hJ_38 _ hf
    · have hf := if_t hf c_12
      refine g_iload_n 1 C (ckD_get k_X0_changedByTurning_0 18 rfl) rfl rfl ?_
      refine g_iconst (v := (1 : Int32)) C (ckD_get k_X0_changedByTurning_0 19 rfl) (by decide) ?_
      refine g_iload_n 2 C (ckD_get k_X0_changedByTurning_0 20 rfl) rfl rfl ?_
      refine g_ishl C (ckD_get k_X0_changedByTurning_0 21 rfl) ?_
      refine g_iconst (v := (-1 : Int32)) C (ckD_get k_X0_changedByTurning_0 22 rfl) (by decide) ?_
      refine g_ixor C (ckD_get k_X0_changedByTurning_0 23 rfl) ?_
      refine g_iand C (ckD_get k_X0_changedByTurning_0 24 rfl) ?_
      obtain ⟨x1_13, ex1_13, hf⟩ := lt_e hf
      refine topI ex1_13 ?_
      refine g_istore_n (lv' := [(1, _), (0, _), (2, _)]) C (ckD_get k_X0_changedByTurning_0 25 rfl) rfl hL1 rfl ?_
      refine G.sub [1, 0, 2] rfl ?_
      exact hJ_38 _ hf

set_option maxRecDepth 20000 in
theorem k_X9_bitOf_0 : ckD cX9_bitOf [(0, .iload_n 0, 1, 1, 0), (1, .iload_n 1, 1, 2, 0), (2, .ishr, 1, 3, 0), (3, .iconst 1, 1, 4, 0), (4, .iand, 1, 5, 0), (5, .ireturn, 1, 6, 0)] = true := by decide +kernel
def f_X9_bitOf (a0 : Int32) (a1 : Int32) : Int32 := ((a0 >>> (a1 &&& 31)) &&& (1 : Int32))
set_option maxRecDepth 100000 in
set_option maxHeartbeats 4000000 in
theorem t_X9_bitOf {E : Ev} {l : Launch} (htr : l.stackTraces = false) (a0 : Int32) (a1 : Int32) (M : Mm) (r : Int32) (hf : f_X9_bitOf a0 a1 = r) : CM E l 0 0 0 yX9_bitOf cX9_bitOf 2 (some .int) [.int a0, .int a1] M (some (.int r)) M := by
  refine CM.of htr (by decide +kernel) (Nat.le_of_ble_eq_true rfl) ?_
  intro K hE hL hl hR0 C hr hRv
  subst hE
  subst hl
  have C : Cx K cX9_bitOf RX9 0 := C
  have hB : (0 : Nat) ≤ K.1.R.cells ∧ 0 ≤ K.1.R.slots := ⟨Nat.zero_le _, Nat.zero_le _⟩
  show G K (0, 0) 0 [(0, .int a0), (1, .int a1)] [] M
  unfold f_X9_bitOf at hf
  refine g_iload_n 0 C (ckD_get k_X9_bitOf_0 0 rfl) rfl rfl ?_
  refine g_iload_n 1 C (ckD_get k_X9_bitOf_0 1 rfl) rfl rfl ?_
  refine g_ishr C (ckD_get k_X9_bitOf_0 2 rfl) ?_
  refine g_iconst (v := (1 : Int32)) C (ckD_get k_X9_bitOf_0 3 rfl) (by decide) ?_
  refine g_iand C (ckD_get k_X9_bitOf_0 4 rfl) ?_
  cases hf
  exact g_iret C (ckD_get k_X9_bitOf_0 5 rfl) hr hRv (Nat.le_refl _) (Nat.le_refl _)

set_option maxRecDepth 20000 in
theorem k_X2_setSides_0 : ckD cX2_setSides [(0, .aload_n 0, 1, 1, 0), (1, .getfield 37, 3, 4, 0), (4, .iload_n 2, 1, 5, 0), (5, .invokestatic 47, 3, 8, 0), (8, .iconst 1, 1, 9, 0), (9, .if_icmp .ne 7, 3, 12, 16), (12, .iconst 1, 1, 13, 0), (13, .goto 4, 3, 16, 17), (16, .iconst 0, 1, 17, 0), (17, .istore_n 3, 1, 18, 0), (18, .aload_n 0, 1, 19, 0), (19, .getfield 18, 3, 22, 0), (22, .iload_n 2, 1, 23, 0), (23, .iload_n 3, 1, 24, 0), (24, .ifCond .eq 12, 3, 27, 36), (27, .aload_n 1, 1, 28, 0), (28, .getfield 51, 3, 31, 0), (31, .iload_n 2, 1, 32, 0), (32, .iaload, 1, 33, 0), (33, .goto 9, 3, 36, 42), (36, .aload_n 1, 1, 37, 0), (37, .getfield 52, 3, 40, 0), (40, .iload_n 2, 1, 41, 0), (41, .iaload, 1, 42, 0), (42, .iastore, 1, 43, 0), (43, .aload_n 0, 1, 44, 0), (44, .getfield 21, 3, 47, 0), (47, .iload_n 2, 1, 48, 0), (48, .iload_n 3, 1, 49, 0), (49, .ifCond .eq 12, 3, 52, 61), (52, .aload_n 1, 1, 53, 0), (53, .getfield 52, 3, 56, 0), (56, .iload_n 2, 1, 57, 0), (57, .iaload, 1, 58, 0), (58, .goto 9, 3, 61, 67), (61, .aload_n 1, 1, 62, 0), (62, .getfield 51, 3, 65, 0), (65, .iload_n 2, 1, 66, 0), (66, .iaload, 1, 67, 0), (67, .iastore, 1, 68, 0)] = true := by decide +kernel
set_option maxRecDepth 20000 in
theorem k_X2_setSides_1 : ckD cX2_setSides [(68, .return_, 1, 69, 0)] = true := by decide +kernel
def f_X2_setSides_J67 (k0 : Nat) (a2 : Int32) (M_3 : Mm) (s_5 : Int32) : Option Mm := wrI 12 M_3 (k0 + 4) a2 s_5 fun M_6 => some M_6
def f_X2_setSides_J42 (k0 : Nat) (a2 : Int32) (M : Mm) (s_1 : Int32) (s_2 : Int32) : Option Mm := wrI 12 M (k0 + 3) a2 s_2 fun M_3 => if s_1 = 0 then rdI 12 M_3 3 a2 fun v_9 => f_X2_setSides_J67 k0 a2 M_3 v_9 else rdI 12 M_3 2 a2 fun v_11 => f_X2_setSides_J67 k0 a2 M_3 v_11
def f_X2_setSides_J17 (k0 : Nat) (a2 : Int32) (M : Mm) (s_1 : Int32) : Option Mm := if s_1 = 0 then rdI 12 M 2 a2 fun v_14 => f_X2_setSides_J42 k0 a2 M s_1 v_14 else rdI 12 M 3 a2 fun v_16 => f_X2_setSides_J42 k0 a2 M s_1 v_16
def f_X2_setSides (k0 : Nat) (a2 : Int32) (M : Mm) : Option Mm := if (f_X9_bitOf (M.1 k0 5) a2) = (1 : Int32) then f_X2_setSides_J17 k0 a2 M (1 : Int32) else f_X2_setSides_J17 k0 a2 M (0 : Int32)
set_option maxRecDepth 100000 in
set_option maxHeartbeats 4000000 in
theorem t_X2_setSides {E : Ev} {l : Launch} (htr : l.stackTraces = false) (k0 : Nat) (hk0 : isGr k0) (a2 : Int32) (M : Mm) (r : Mm) (hf : f_X2_setSides k0 a2 M = some r) : CM E l 1 0 0 yX2_setSides cX2_setSides 4 none [.ref (E.1 + k0), .ref (E.1 + 1), .int a2] M none r := by
  refine CM.of htr (by decide +kernel) (Nat.le_of_ble_eq_true rfl) ?_
  intro K hE hL hl hR0 C hr hRv
  subst hE
  subst hl
  have C : Cx K cX2_setSides RX2 1 := C
  have hB : (0 : Nat) ≤ K.1.R.cells ∧ 0 ≤ K.1.R.slots := ⟨Nat.zero_le _, Nat.zero_le _⟩
  have hL3 : 3 < K.2.2.1 := by rw [hL]; decide
  show G K (0, 0) 0 [(0, .ref (K.2.1.1 + k0)), (1, .ref (K.2.1.1 + 1)), (2, .int a2)] [] M
  unfold f_X2_setSides at hf
  refine g_aload_n 0 C (ckD_get k_X2_setSides_0 0 rfl) rfl rfl ?_
  refine g_getI C (ckD_get k_X2_setSides_0 1 rfl) fk_X2_37 (T_Gr hk0) rfl ?_
  refine g_iload_n 2 C (ckD_get k_X2_setSides_0 2 rfl) rfl rfl ?_
  refine n_cN [.int (M.1 k0 5), .int a2] [] C (ckD_get k_X2_setSides_0 3 rfl) nk_X2_47 (t_X9_bitOf C.tr _ _ _ _ rfl) rfl rfl (Nat.le_of_ble_eq_true rfl) (by decide) hB rfl ?_
  refine g_iconst (v := (1 : Int32)) C (ckD_get k_X2_setSides_0 4 rfl) (by decide) ?_
  have hJ_17 : ∀ (s_1 : Int32), f_X2_setSides_J17 k0 a2 M s_1 = some r → G K (0, 0) 17 [(0, .ref (K.2.1.1 + k0)), (1, .ref (K.2.1.1 + 1)), (2, .int a2)] [.int s_1] M := by
    intro s_1 hf
    unfold f_X2_setSides_J17 at hf
    refine g_istore_n (lv' := [(3, _), (0, _), (1, _), (2, _)]) C (ckD_get k_X2_setSides_0 9 rfl) rfl hL3 rfl ?_
    refine g_aload_n 1 C (ckD_get k_X2_setSides_0 10 rfl) rfl rfl ?_
    refine g_getR C (ckD_get k_X2_setSides_0 11 rfl) fk_X2_18 (T_Gr hk0) rfl ?_
    refine g_iload_n 3 C (ckD_get k_X2_setSides_0 12 rfl) rfl rfl ?_
    refine g_iload_n 0 C (ckD_get k_X2_setSides_0 13 rfl) rfl rfl ?_
    have hJ_42 : ∀ (s_2 : Int32), f_X2_setSides_J42 k0 a2 M s_1 s_2 = some r → G K (0, 0) 42 [(0, .ref (K.2.1.1 + k0)), (1, .ref (K.2.1.1 + 1)), (2, .int a2), (3, .int s_1)] [.int s_2, .int a2, .ref (K.2.1.1 + (k0 + 3))] M := by
      intro s_2 hf
      unfold f_X2_setSides_J42 at hf
      obtain ⟨M_3, hi_4, eM_3, hf⟩ := wrI_e hf
      refine n_iast C (ckD_get k_X2_setSides_0 24 rfl) (T_Gr3 hk0) hi_4 eM_3 ?_
      refine g_aload_n 0 C (ckD_get k_X2_setSides_0 25 rfl) rfl rfl ?_
      refine g_getR C (ckD_get k_X2_setSides_0 26 rfl) fk_X2_21 (T_Gr hk0) rfl ?_
      refine g_iload_n 2 C (ckD_get k_X2_setSides_0 27 rfl) rfl rfl ?_
      refine g_iload_n 3 C (ckD_get k_X2_setSides_0 28 rfl) rfl rfl ?_
      have hJ_67 : ∀ (s_5 : Int32), f_X2_setSides_J67 k0 a2 M_3 s_5 = some r → G K (0, 0) 67 [] [.int s_5, .int a2, .ref (K.2.1.1 + (k0 + 4))] M_3 := by
        intro s_5 hf
        unfold f_X2_setSides_J67 at hf
        obtain ⟨M_6, hi_7, eM_6, hf⟩ := wrI_e hf
        refine n_iast C (ckD_get k_X2_setSides_0 39 rfl) (T_Gr4 hk0) hi_7 eM_6 ?_
        cases hf
        exact g_vret C (ckD_get k_X2_setSides_1 0 rfl) hr hRv (Nat.le_refl _) (Nat.le_refl _)
      refine g_if_eq C (ckD_get k_X2_setSides_0 29 rfl) (fun c_8 => ?_) (fun c_8 => ?_)
      · have hf := if_t hf c_8
        refine g_aload_n 1 C (ckD_get k_X2_setSides_0 35 rfl) rfl rfl ?_
        refine g_getR C (ckD_get k_X2_setSides_0 36 rfl) fk_X2_51 T1 rfl ?_
        refine g_iload_n 2 C (ckD_get k_X2_setSides_0 37 rfl) rfl rfl ?_
        obtain ⟨v_9, hi_10, ev_9, hf⟩ := rdI_e hf
        refine n_iald C (ckD_get k_X2_setSides_0 38 rfl) T3 hi_10 ev_9 ?_
        refine G.sub [] rfl ?_
        exact hJ_67 _ hf
      · have hf := if_f hf c_8
        refine g_aload_n 1 C (ckD_get k_X2_setSides_0 30 rfl) rfl rfl ?_
        refine g_getR C (ckD_get k_X2_setSides_0 31 rfl) fk_X2_52 T1 rfl ?_
        refine g_iload_n 2 C (ckD_get k_X2_setSides_0 32 rfl) rfl rfl ?_
        obtain ⟨v_11, hi_12, ev_11, hf⟩ := rdI_e hf
        refine n_iald C (ckD_get k_X2_setSides_0 33 rfl) T2 hi_12 ev_11 ?_
        refine g_goto C (ckD_get k_X2_setSides_0 34 rfl) ?_
        refine G.sub [] rfl ?_
        exact hJ_67 _ hf
    refine g_if_eq C (ckD_get k_X2_setSides_0 14 rfl) (fun c_13 => ?_) (fun c_13 => ?_)
    · have hf := if_t hf c_13
      refine g_aload_n 2 C (ckD_get k_X2_setSides_0 20 rfl) rfl rfl ?_
      refine g_getR C (ckD_get k_X2_setSides_0 21 rfl) fk_X2_52 T1 rfl ?_
      refine g_iload_n 3 C (ckD_get k_X2_setSides_0 22 rfl) rfl rfl ?_
      obtain ⟨v_14, hi_15, ev_14, hf⟩ := rdI_e hf
      refine n_iald C (ckD_get k_X2_setSides_0 23 rfl) T2 hi_15 ev_14 ?_
      refine G.sub [1, 2, 3, 0] rfl ?_
      exact hJ_42 _ hf
    · have hf := if_f hf c_13
      refine g_aload_n 2 C (ckD_get k_X2_setSides_0 15 rfl) rfl rfl ?_
      refine g_getR C (ckD_get k_X2_setSides_0 16 rfl) fk_X2_51 T1 rfl ?_
      refine g_iload_n 3 C (ckD_get k_X2_setSides_0 17 rfl) rfl rfl ?_
      obtain ⟨v_16, hi_17, ev_16, hf⟩ := rdI_e hf
      refine n_iald C (ckD_get k_X2_setSides_0 18 rfl) T3 hi_17 ev_16 ?_
      refine g_goto C (ckD_get k_X2_setSides_0 19 rfl) ?_
      refine G.sub [1, 2, 3, 0] rfl ?_
      exact hJ_42 _ hf
  refine g_icmp_ne C (ckD_get k_X2_setSides_0 5 rfl) (fun c_18 => ?_) (fun c_18 => ?_)
  · have hf := if_f hf c_18
    refine g_iconst (v := (0 : Int32)) C (ckD_get k_X2_setSides_0 8 rfl) (by decide) ?_
    exact hJ_17 _ hf
  · have hf := if_t hf c_18
    refine g_iconst (v := (1 : Int32)) C (ckD_get k_X2_setSides_0 6 rfl) (by decide) ?_
    refine g_goto C (ckD_get k_X2_setSides_0 7 rfl) ?_
    exact hJ_17 _ hf

set_option maxRecDepth 20000 in
theorem k_X2_take_0 : ckD cX2_take [(0, .aload_n 0, 1, 1, 0), (1, .aload_n 1, 1, 2, 0), (2, .getfield 27, 3, 5, 0), (5, .putfield 33, 3, 8, 0), (8, .aload_n 0, 1, 9, 0), (9, .iload_n 2, 1, 10, 0), (10, .aload_n 1, 1, 11, 0), (11, .getfield 34, 3, 14, 0), (14, .iand, 1, 15, 0), (15, .putfield 37, 3, 18, 0), (18, .iconst 0, 1, 19, 0), (19, .istore_n 3, 1, 20, 0), (20, .iload_n 3, 1, 21, 0), (21, .aload_n 0, 1, 22, 0), (22, .getfield 33, 3, 25, 0), (25, .if_icmp .ge 15, 3, 28, 40), (28, .aload_n 0, 1, 29, 0), (29, .aload_n 1, 1, 30, 0), (30, .iload_n 3, 1, 31, 0), (31, .invokevirtual 40, 3, 34, 0), (34, .iinc 3 1, 3, 37, 0), (37, .goto (-17), 3, 40, 20), (40, .return_, 1, 41, 0)] = true := by decide +kernel
def f_X2_take_A20 (M_5 : Mm) : Option Mm := some M_5
def f_X2_take_L20 (k0 : Nat) (x3_3 : Int32) (M_4 : Mm) : Option ((Int32 × Mm) ⊕ Mm) := if (M_4.1 k0 6) ≤ x3_3 then some (.inr M_4) else (f_X2_setSides k0 x3_3 M_4).bind fun M_8 => lt1 (x3_3 + 1) fun x3_9 => some (.inl (x3_9, M_8))
def f_X2_take (k0 : Nat) (a2 : Int32) (M : Mm) : Option Mm := lt1 (wi M k0 6 (M.1 1 3)) fun M_1 => lt1 (wi M_1 k0 5 (a2 &&& (M_1.1 1 2))) fun M_2 => (loop (fun v => f_X2_take_L20 k0 v.1 v.2) FU ((0 : Int32), M_2)).bind fun z => f_X2_take_A20 z
set_option maxRecDepth 100000 in
set_option maxHeartbeats 4000000 in
theorem t_X2_take {E : Ev} {l : Launch} (htr : l.stackTraces = false) (k0 : Nat) (hk0 : isGr k0) (a2 : Int32) (M : Mm) (r : Mm) (hf : f_X2_take k0 a2 M = some r) : CM E l 2 0 0 yX2_take cX2_take 4 none [.ref (E.1 + k0), .ref (E.1 + 1), .int a2] M none r := by
  refine CM.of htr (by decide +kernel) (Nat.le_of_ble_eq_true rfl) ?_
  intro K hE hL hl hR0 C hr hRv
  subst hE
  subst hl
  have C : Cx K cX2_take RX2 2 := C
  have hB : (0 : Nat) ≤ K.1.R.cells ∧ 0 ≤ K.1.R.slots := ⟨Nat.zero_le _, Nat.zero_le _⟩
  have hL3 : 3 < K.2.2.1 := by rw [hL]; decide
  show G K (0, 0) 0 [(0, .ref (K.2.1.1 + k0)), (1, .ref (K.2.1.1 + 1)), (2, .int a2)] [] M
  unfold f_X2_take at hf
  refine g_aload_n 0 C (ckD_get k_X2_take_0 0 rfl) rfl rfl ?_
  refine g_aload_n 1 C (ckD_get k_X2_take_0 1 rfl) rfl rfl ?_
  refine g_getI C (ckD_get k_X2_take_0 2 rfl) fk_X2_27 T1 rfl ?_
  obtain ⟨M_1, eM_1, hf⟩ := lt_e hf
  refine g_putI C (ckD_get k_X2_take_0 3 rfl) fk_X2_33 (T_Gr hk0) rfl ?_
  refine memI eM_1 ?_
  refine g_aload_n 0 C (ckD_get k_X2_take_0 4 rfl) rfl rfl ?_
  refine g_iload_n 2 C (ckD_get k_X2_take_0 5 rfl) rfl rfl ?_
  refine g_aload_n 1 C (ckD_get k_X2_take_0 6 rfl) rfl rfl ?_
  refine g_getI C (ckD_get k_X2_take_0 7 rfl) fk_X2_34 T1 rfl ?_
  refine g_iand C (ckD_get k_X2_take_0 8 rfl) ?_
  obtain ⟨M_2, eM_2, hf⟩ := lt_e hf
  refine g_putI C (ckD_get k_X2_take_0 9 rfl) fk_X2_37 (T_Gr hk0) rfl ?_
  refine memI eM_2 ?_
  refine g_iconst (v := (0 : Int32)) C (ckD_get k_X2_take_0 10 rfl) (by decide) ?_
  refine g_istore_n (lv' := [(3, _), (0, _), (1, _), (2, _)]) C (ckD_get k_X2_take_0 11 rfl) rfl hL3 rfl ?_
  refine G.sub [1, 2, 0] rfl ?_
  obtain ⟨M_5, hx_20, hf⟩ := bd_e hf
  have hE_20 : G K (0, 0) 40 [] [] M_5 := by
    have hf : f_X2_take_A20 M_5 = some r := hf
    unfold f_X2_take_A20 at hf
    cases hf
    exact g_vret C (ckD_get k_X2_take_0 22 rfl) hr hRv (Nat.le_refl _) (Nat.le_refl _)
  refine loop_e (x := M_5) (P := fun (v : (Int32 × Mm)) => G K (0, 0) 20 [(0, .ref (K.2.1.1 + k0)), (1, .ref (K.2.1.1 + 1)), (3, .int v.1)] [] v.2) ?_ FU _ hx_20
  intro v rr_20 hf hn_20 hz_20
  obtain ⟨x3_3, M_4⟩ := v
  have hf : f_X2_take_L20 k0 x3_3 M_4 = some rr_20 := hf
  show G K (0, 0) 20 [(0, .ref (K.2.1.1 + k0)), (1, .ref (K.2.1.1 + 1)), (3, .int x3_3)] [] M_4
  unfold f_X2_take_L20 at hf
  refine g_iload_n 2 C (ckD_get k_X2_take_0 12 rfl) rfl rfl ?_
  refine g_aload_n 0 C (ckD_get k_X2_take_0 13 rfl) rfl rfl ?_
  refine g_getI C (ckD_get k_X2_take_0 14 rfl) fk_X2_33 (T_Gr hk0) rfl ?_
  refine g_icmp_ge C (ckD_get k_X2_take_0 15 rfl) (fun c_6 => ?_) (fun c_6 => ?_)
  · have hf := if_t hf c_6
    refine G.sub [] rfl ?_
    cases hf
    cases hz_20 _ rfl
    exact hE_20
  · have hf := if_f hf c_6
    refine g_aload_n 0 C (ckD_get k_X2_take_0 16 rfl) rfl rfl ?_
    refine g_aload_n 1 C (ckD_get k_X2_take_0 17 rfl) rfl rfl ?_
    refine g_iload_n 2 C (ckD_get k_X2_take_0 18 rfl) rfl rfl ?_
    obtain ⟨M_8, hr_7, hf⟩ := bd_e hf
    refine n_cV [.ref (K.2.1.1 + 1), .int x3_3] [] C (ckD_get k_X2_take_0 19 rfl) vk_X2_40 (t_X2_setSides C.tr _ hk0 _ _ _ hr_7) (T_Gr hk0) rfl rfl (Nat.le_of_ble_eq_true rfl) (by decide) hB rfl ?_
    obtain ⟨x3_9, ex3_9, hf⟩ := lt_e hf
    refine g_iinc (lv' := [(3, _), (0, _), (1, _)]) 2 C (ckD_get k_X2_take_0 20 rfl) rfl ex3_9 hL3 rfl ?_
    refine g_goto C (ckD_get k_X2_take_0 21 rfl) ?_
    refine G.sub [1, 2, 0] rfl ?_
    cases hf
    exact hn_20 _ rfl

set_option maxRecDepth 20000 in
theorem k_X2_gather_0 : ckD cX2_gather [(0, .aload_n 0, 1, 1, 0), (1, .aload_n 1, 1, 2, 0), (2, .iconst 0, 1, 3, 0), (3, .invokevirtual 44, 3, 6, 0), (6, .iconst 0, 1, 7, 0), (7, .istore_n 2, 1, 8, 0), (8, .iload_n 2, 1, 9, 0), (9, .aload_n 0, 1, 10, 0), (10, .getfield 33, 3, 13, 0), (13, .if_icmp .ge 23, 3, 16, 36), (16, .aload_n 0, 1, 17, 0), (17, .getfield 9, 3, 20, 0), (20, .iload_n 2, 1, 21, 0), (21, .iconst 0, 1, 22, 0), (22, .iastore, 1, 23, 0), (23, .aload_n 0, 1, 24, 0), (24, .getfield 15, 3, 27, 0), (27, .iload_n 2, 1, 28, 0), (28, .iconst 0, 1, 29, 0), (29, .iastore, 1, 30, 0), (30, .iinc 2 1, 3, 33, 0), (33, .goto (-25), 3, 36, 8), (36, .return_, 1, 37, 0)] = true := by decide +kernel
def f_X2_gather_A8 (M_5 : Mm) : Option Mm := some M_5
def f_X2_gather_L8 (k0 : Nat) (x2_3 : Int32) (M_4 : Mm) : Option ((Int32 × Mm) ⊕ Mm) := if (M_4.1 k0 6) ≤ x2_3 then some (.inr M_4) else wrI 12 M_4 (k0 + 1) x2_3 (0 : Int32) fun M_7 => wrI 12 M_7 (k0 + 2) x2_3 (0 : Int32) fun M_9 => lt1 (x2_3 + 1) fun x2_11 => some (.inl (x2_11, M_9))
def f_X2_gather (k0 : Nat) (M : Mm) : Option Mm := (f_X2_take k0 (0 : Int32) M).bind fun M_2 => (loop (fun v => f_X2_gather_L8 k0 v.1 v.2) FU ((0 : Int32), M_2)).bind fun z => f_X2_gather_A8 z
set_option maxRecDepth 100000 in
set_option maxHeartbeats 4000000 in
theorem t_X2_gather {E : Ev} {l : Launch} (htr : l.stackTraces = false) (k0 : Nat) (hk0 : isGr k0) (M : Mm) (r : Mm) (hf : f_X2_gather k0 M = some r) : CM E l 3 0 0 yX2_gather cX2_gather 3 none [.ref (E.1 + k0), .ref (E.1 + 1)] M none r := by
  refine CM.of htr (by decide +kernel) (Nat.le_of_ble_eq_true rfl) ?_
  intro K hE hL hl hR0 C hr hRv
  subst hE
  subst hl
  have C : Cx K cX2_gather RX2 3 := C
  have hB : (0 : Nat) ≤ K.1.R.cells ∧ 0 ≤ K.1.R.slots := ⟨Nat.zero_le _, Nat.zero_le _⟩
  have hL2 : 2 < K.2.2.1 := by rw [hL]; decide
  show G K (0, 0) 0 [(0, .ref (K.2.1.1 + k0)), (1, .ref (K.2.1.1 + 1))] [] M
  unfold f_X2_gather at hf
  refine g_aload_n 0 C (ckD_get k_X2_gather_0 0 rfl) rfl rfl ?_
  refine g_aload_n 1 C (ckD_get k_X2_gather_0 1 rfl) rfl rfl ?_
  refine g_iconst (v := (0 : Int32)) C (ckD_get k_X2_gather_0 2 rfl) (by decide) ?_
  obtain ⟨M_2, hr_1, hf⟩ := bd_e hf
  refine n_cV [.ref (K.2.1.1 + 1), .int (0 : Int32)] [] C (ckD_get k_X2_gather_0 3 rfl) vk_X2_44 (t_X2_take C.tr _ hk0 _ _ _ hr_1) (T_Gr hk0) rfl rfl (Nat.le_of_ble_eq_true rfl) (by decide) hB rfl ?_
  refine g_iconst (v := (0 : Int32)) C (ckD_get k_X2_gather_0 4 rfl) (by decide) ?_
  refine g_istore_n (lv' := [(2, _), (0, _), (1, _)]) C (ckD_get k_X2_gather_0 5 rfl) rfl hL2 rfl ?_
  refine G.sub [1, 0] rfl ?_
  obtain ⟨M_5, hx_8, hf⟩ := bd_e hf
  have hE_8 : G K (0, 0) 36 [] [] M_5 := by
    have hf : f_X2_gather_A8 M_5 = some r := hf
    unfold f_X2_gather_A8 at hf
    cases hf
    exact g_vret C (ckD_get k_X2_gather_0 22 rfl) hr hRv (Nat.le_refl _) (Nat.le_refl _)
  refine loop_e (x := M_5) (P := fun (v : (Int32 × Mm)) => G K (0, 0) 8 [(0, .ref (K.2.1.1 + k0)), (2, .int v.1)] [] v.2) ?_ FU _ hx_8
  intro v rr_8 hf hn_8 hz_8
  obtain ⟨x2_3, M_4⟩ := v
  have hf : f_X2_gather_L8 k0 x2_3 M_4 = some rr_8 := hf
  show G K (0, 0) 8 [(0, .ref (K.2.1.1 + k0)), (2, .int x2_3)] [] M_4
  unfold f_X2_gather_L8 at hf
  refine g_iload_n 1 C (ckD_get k_X2_gather_0 6 rfl) rfl rfl ?_
  refine g_aload_n 0 C (ckD_get k_X2_gather_0 7 rfl) rfl rfl ?_
  refine g_getI C (ckD_get k_X2_gather_0 8 rfl) fk_X2_33 (T_Gr hk0) rfl ?_
  refine g_icmp_ge C (ckD_get k_X2_gather_0 9 rfl) (fun c_6 => ?_) (fun c_6 => ?_)
  · have hf := if_t hf c_6
    refine G.sub [] rfl ?_
    cases hf
    cases hz_8 _ rfl
    exact hE_8
  · have hf := if_f hf c_6
    refine g_aload_n 0 C (ckD_get k_X2_gather_0 10 rfl) rfl rfl ?_
    refine g_getR C (ckD_get k_X2_gather_0 11 rfl) fk_X2_9 (T_Gr hk0) rfl ?_
    refine g_iload_n 1 C (ckD_get k_X2_gather_0 12 rfl) rfl rfl ?_
    refine g_iconst (v := (0 : Int32)) C (ckD_get k_X2_gather_0 13 rfl) (by decide) ?_
    obtain ⟨M_7, hi_8, eM_7, hf⟩ := wrI_e hf
    refine n_iast C (ckD_get k_X2_gather_0 14 rfl) (T_Gr1 hk0) hi_8 eM_7 ?_
    refine g_aload_n 0 C (ckD_get k_X2_gather_0 15 rfl) rfl rfl ?_
    refine g_getR C (ckD_get k_X2_gather_0 16 rfl) fk_X2_15 (T_Gr hk0) rfl ?_
    refine g_iload_n 1 C (ckD_get k_X2_gather_0 17 rfl) rfl rfl ?_
    refine g_iconst (v := (0 : Int32)) C (ckD_get k_X2_gather_0 18 rfl) (by decide) ?_
    obtain ⟨M_9, hi_10, eM_9, hf⟩ := wrI_e hf
    refine n_iast C (ckD_get k_X2_gather_0 19 rfl) (T_Gr2 hk0) hi_10 eM_9 ?_
    obtain ⟨x2_11, ex2_11, hf⟩ := lt_e hf
    refine g_iinc (lv' := [(2, _), (0, _)]) 1 C (ckD_get k_X2_gather_0 20 rfl) rfl ex2_11 hL2 rfl ?_
    refine g_goto C (ckD_get k_X2_gather_0 21 rfl) ?_
    refine G.sub [1, 0] rfl ?_
    cases hf
    exact hn_8 _ rfl

set_option maxRecDepth 20000 in
theorem k_X2_turn_0 : ckD cX2_turn [(0, .aload_n 0, 1, 1, 0), (1, .iload_n 3, 1, 2, 0), (2, .ifCond .eq 14, 3, 5, 16), (5, .aload_n 0, 1, 6, 0), (6, .getfield 37, 3, 9, 0), (9, .iconst 1, 1, 10, 0), (10, .iload_n 2, 1, 11, 0), (11, .ishl, 1, 12, 0), (12, .ior, 1, 13, 0), (13, .goto 13, 3, 16, 26), (16, .aload_n 0, 1, 17, 0), (17, .getfield 37, 3, 20, 0), (20, .iconst 1, 1, 21, 0), (21, .iload_n 2, 1, 22, 0), (22, .ishl, 1, 23, 0), (23, .iconst (-1), 1, 24, 0), (24, .ixor, 1, 25, 0), (25, .iand, 1, 26, 0), (26, .putfield 37, 3, 29, 0), (29, .aload_n 0, 1, 30, 0), (30, .aload_n 1, 1, 31, 0), (31, .iload_n 2, 1, 32, 0), (32, .invokevirtual 40, 3, 35, 0), (35, .return_, 1, 36, 0)] = true := by decide +kernel
def f_X2_turn_J26 (k0 : Nat) (a2 : Int32) (M : Mm) (s_1 : Int32) : Option Mm := lt1 (wi M k0 5 s_1) fun M_2 => (f_X2_setSides k0 a2 M_2).bind fun M_4 => some M_4
def f_X2_turn (k0 : Nat) (a2 : Int32) (a3 : Int32) (M : Mm) : Option Mm := if a3 = 0 then f_X2_turn_J26 k0 a2 M (((M.1 k0 5) &&& (((1 : Int32) <<< (a2 &&& 31)) ^^^ (-1 : Int32)))) else f_X2_turn_J26 k0 a2 M (((M.1 k0 5) ||| ((1 : Int32) <<< (a2 &&& 31))))
set_option maxRecDepth 100000 in
set_option maxHeartbeats 4000000 in
theorem t_X2_turn {E : Ev} {l : Launch} (htr : l.stackTraces = false) (k0 : Nat) (hk0 : isGr k0) (a2 : Int32) (a3 : Int32) (M : Mm) (r : Mm) (hf : f_X2_turn k0 a2 a3 M = some r) : CM E l 2 0 0 yX2_turn cX2_turn 4 none [.ref (E.1 + k0), .ref (E.1 + 1), .int a2, .int a3] M none r := by
  refine CM.of htr (by decide +kernel) (Nat.le_of_ble_eq_true rfl) ?_
  intro K hE hL hl hR0 C hr hRv
  subst hE
  subst hl
  have C : Cx K cX2_turn RX2 2 := C
  have hB : (0 : Nat) ≤ K.1.R.cells ∧ 0 ≤ K.1.R.slots := ⟨Nat.zero_le _, Nat.zero_le _⟩
  show G K (0, 0) 0 [(0, .ref (K.2.1.1 + k0)), (1, .ref (K.2.1.1 + 1)), (2, .int a2), (3, .int a3)] [] M
  unfold f_X2_turn at hf
  refine g_aload_n 0 C (ckD_get k_X2_turn_0 0 rfl) rfl rfl ?_
  refine g_iload_n 3 C (ckD_get k_X2_turn_0 1 rfl) rfl rfl ?_
  have hJ_26 : ∀ (s_1 : Int32), f_X2_turn_J26 k0 a2 M s_1 = some r → G K (0, 0) 26 [(0, .ref (K.2.1.1 + k0)), (1, .ref (K.2.1.1 + 1)), (2, .int a2)] [.int s_1, .ref (K.2.1.1 + k0)] M := by
    intro s_1 hf
    unfold f_X2_turn_J26 at hf
    obtain ⟨M_2, eM_2, hf⟩ := lt_e hf
    refine g_putI C (ckD_get k_X2_turn_0 18 rfl) fk_X2_37 (T_Gr hk0) rfl ?_
    refine memI eM_2 ?_
    refine g_aload_n 0 C (ckD_get k_X2_turn_0 19 rfl) rfl rfl ?_
    refine g_aload_n 1 C (ckD_get k_X2_turn_0 20 rfl) rfl rfl ?_
    refine g_iload_n 2 C (ckD_get k_X2_turn_0 21 rfl) rfl rfl ?_
    obtain ⟨M_4, hr_3, hf⟩ := bd_e hf
    refine n_cV [.ref (K.2.1.1 + 1), .int a2] [] C (ckD_get k_X2_turn_0 22 rfl) vk_X2_40 (t_X2_setSides C.tr _ hk0 _ _ _ hr_3) (T_Gr hk0) rfl rfl (Nat.le_of_ble_eq_true rfl) (by decide) hB rfl ?_
    cases hf
    exact g_vret C (ckD_get k_X2_turn_0 23 rfl) hr hRv (Nat.le_refl _) (Nat.le_refl _)
  refine g_if_eq C (ckD_get k_X2_turn_0 2 rfl) (fun c_5 => ?_) (fun c_5 => ?_)
  · have hf := if_t hf c_5
    refine g_aload_n 0 C (ckD_get k_X2_turn_0 10 rfl) rfl rfl ?_
    refine g_getI C (ckD_get k_X2_turn_0 11 rfl) fk_X2_37 (T_Gr hk0) rfl ?_
    refine g_iconst (v := (1 : Int32)) C (ckD_get k_X2_turn_0 12 rfl) (by decide) ?_
    refine g_iload_n 2 C (ckD_get k_X2_turn_0 13 rfl) rfl rfl ?_
    refine g_ishl C (ckD_get k_X2_turn_0 14 rfl) ?_
    refine g_iconst (v := (-1 : Int32)) C (ckD_get k_X2_turn_0 15 rfl) (by decide) ?_
    refine g_ixor C (ckD_get k_X2_turn_0 16 rfl) ?_
    refine g_iand C (ckD_get k_X2_turn_0 17 rfl) ?_
    refine G.sub [0, 1, 2] rfl ?_
    exact hJ_26 _ hf
  · have hf := if_f hf c_5
    refine g_aload_n 0 C (ckD_get k_X2_turn_0 3 rfl) rfl rfl ?_
    refine g_getI C (ckD_get k_X2_turn_0 4 rfl) fk_X2_37 (T_Gr hk0) rfl ?_
    refine g_iconst (v := (1 : Int32)) C (ckD_get k_X2_turn_0 5 rfl) (by decide) ?_
    refine g_iload_n 2 C (ckD_get k_X2_turn_0 6 rfl) rfl rfl ?_
    refine g_ishl C (ckD_get k_X2_turn_0 7 rfl) ?_
    refine g_ior C (ckD_get k_X2_turn_0 8 rfl) ?_
    refine g_goto C (ckD_get k_X2_turn_0 9 rfl) ?_
    refine G.sub [0, 1, 2] rfl ?_
    exact hJ_26 _ hf

set_option maxRecDepth 20000 in
theorem k_X2_reach_0 : ckD cX2_reach [(0, .iconst 0, 1, 1, 0), (1, .istore_n 3, 1, 2, 0), (2, .iconst 0, 1, 3, 0), (3, .istore 4, 2, 5, 0), (5, .iload 4, 2, 7, 0), (7, .aload_n 0, 1, 8, 0), (8, .getfield 33, 3, 11, 0), (11, .if_icmp .ge 23, 3, 14, 34), (14, .iload_n 3, 1, 15, 0), (15, .aload_n 1, 1, 16, 0), (16, .iload 4, 2, 18, 0), (18, .iaload, 1, 19, 0), (19, .aload_n 2, 1, 20, 0), (20, .iload 4, 2, 22, 0), (22, .iaload, 1, 23, 0), (23, .iadd, 1, 24, 0), (24, .invokestatic 57, 3, 27, 0), (27, .istore_n 3, 1, 28, 0), (28, .iinc 4 1, 3, 31, 0), (31, .goto (-26), 3, 34, 5), (34, .iload_n 3, 1, 35, 0), (35, .ireturn, 1, 36, 0)] = true := by decide +kernel
def f_X2_reach_A5 (x3_3 : Int32) : Option Int32 := some x3_3
def f_X2_reach_L5 (k0 : Nat) (k1 : Nat) (k2 : Nat) (M : Mm) (x3_1 : Int32) (x4_2 : Int32) : Option ((Int32 × Int32) ⊕ Int32) := if (M.1 k0 6) ≤ x4_2 then some (.inr x3_1) else rdI 12 M k1 x4_2 fun v_5 => rdI 12 M k2 x4_2 fun v_7 => lt1 (jmax x3_1 (v_5 + v_7)) fun x3_9 => lt1 (x4_2 + 1) fun x4_10 => some (.inl (x3_9, x4_10))
def f_X2_reach (k0 : Nat) (k1 : Nat) (k2 : Nat) (M : Mm) : Option Int32 := (loop (fun v => f_X2_reach_L5 k0 k1 k2 M v.1 v.2) FU ((0 : Int32), (0 : Int32))).bind fun z => f_X2_reach_A5 z
set_option maxRecDepth 100000 in
set_option maxHeartbeats 4000000 in
theorem t_X2_reach {E : Ev} {l : Launch} (htr : l.stackTraces = false) (k0 : Nat) (hk0 : isGr k0) (k1 : Nat) (hk1 : LT[k1]? = some (0, 12, [])) (k2 : Nat) (hk2 : LT[k2]? = some (0, 12, [])) (M : Mm) (r : Int32) (hf : f_X2_reach k0 k1 k2 M = some r) : CM E l 1 0 0 yX2_reach cX2_reach 5 (some .int) [.ref (E.1 + k0), .ref (E.1 + k1), .ref (E.1 + k2)] M (some (.int r)) M := by
  refine CM.of htr (by decide +kernel) (Nat.le_of_ble_eq_true rfl) ?_
  intro K hE hL hl hR0 C hr hRv
  subst hE
  subst hl
  have C : Cx K cX2_reach RX2 1 := C
  have hB : (0 : Nat) ≤ K.1.R.cells ∧ 0 ≤ K.1.R.slots := ⟨Nat.zero_le _, Nat.zero_le _⟩
  have hL3 : 3 < K.2.2.1 := by rw [hL]; decide
  have hL4 : 4 < K.2.2.1 := by rw [hL]; decide
  show G K (0, 0) 0 [(0, .ref (K.2.1.1 + k0)), (1, .ref (K.2.1.1 + k1)), (2, .ref (K.2.1.1 + k2))] [] M
  unfold f_X2_reach at hf
  refine g_iconst (v := (0 : Int32)) C (ckD_get k_X2_reach_0 0 rfl) (by decide) ?_
  refine g_istore_n (lv' := [(3, _), (0, _), (1, _), (2, _)]) C (ckD_get k_X2_reach_0 1 rfl) rfl hL3 rfl ?_
  refine g_iconst (v := (0 : Int32)) C (ckD_get k_X2_reach_0 2 rfl) (by decide) ?_
  refine g_istore (lv' := [(4, _), (3, _), (0, _), (1, _), (2, _)]) C (ckD_get k_X2_reach_0 3 rfl) hL4 rfl ?_
  refine G.sub [2, 3, 4, 1, 0] rfl ?_
  obtain ⟨x3_3, hx_5, hf⟩ := bd_e hf
  have hE_5 : G K (0, 0) 34 [(3, .int x3_3)] [] M := by
    have hf : f_X2_reach_A5 x3_3 = some r := hf
    unfold f_X2_reach_A5 at hf
    refine g_iload_n 0 C (ckD_get k_X2_reach_0 20 rfl) rfl rfl ?_
    cases hf
    exact g_iret C (ckD_get k_X2_reach_0 21 rfl) hr hRv (Nat.le_refl _) (Nat.le_refl _)
  refine loop_e (x := x3_3) (P := fun (v : (Int32 × Int32)) => G K (0, 0) 5 [(0, .ref (K.2.1.1 + k0)), (1, .ref (K.2.1.1 + k1)), (2, .ref (K.2.1.1 + k2)), (3, .int v.1), (4, .int v.2)] [] M) ?_ FU _ hx_5
  intro v rr_5 hf hn_5 hz_5
  obtain ⟨x3_1, x4_2⟩ := v
  have hf : f_X2_reach_L5 k0 k1 k2 M x3_1 x4_2 = some rr_5 := hf
  show G K (0, 0) 5 [(0, .ref (K.2.1.1 + k0)), (1, .ref (K.2.1.1 + k1)), (2, .ref (K.2.1.1 + k2)), (3, .int x3_1), (4, .int x4_2)] [] M
  unfold f_X2_reach_L5 at hf
  refine g_iload 4 C (ckD_get k_X2_reach_0 4 rfl) rfl ?_
  refine g_aload_n 0 C (ckD_get k_X2_reach_0 5 rfl) rfl rfl ?_
  refine g_getI C (ckD_get k_X2_reach_0 6 rfl) fk_X2_33 (T_Gr hk0) rfl ?_
  refine g_icmp_ge C (ckD_get k_X2_reach_0 7 rfl) (fun c_4 => ?_) (fun c_4 => ?_)
  · have hf := if_t hf c_4
    refine G.sub [3] rfl ?_
    cases hf
    cases hz_5 _ rfl
    exact hE_5
  · have hf := if_f hf c_4
    refine g_iload_n 3 C (ckD_get k_X2_reach_0 8 rfl) rfl rfl ?_
    refine g_aload_n 1 C (ckD_get k_X2_reach_0 9 rfl) rfl rfl ?_
    refine g_iload 4 C (ckD_get k_X2_reach_0 10 rfl) rfl ?_
    obtain ⟨v_5, hi_6, ev_5, hf⟩ := rdI_e hf
    refine n_iald C (ckD_get k_X2_reach_0 11 rfl) hk1 hi_6 ev_5 ?_
    refine g_aload_n 2 C (ckD_get k_X2_reach_0 12 rfl) rfl rfl ?_
    refine g_iload 4 C (ckD_get k_X2_reach_0 13 rfl) rfl ?_
    obtain ⟨v_7, hi_8, ev_7, hf⟩ := rdI_e hf
    refine n_iald C (ckD_get k_X2_reach_0 14 rfl) hk2 hi_8 ev_7 ?_
    refine g_iadd C (ckD_get k_X2_reach_0 15 rfl) ?_
    refine n_mmax C (ckD_get k_X2_reach_0 16 rfl) mk_X2_57 (by decide) (Nat.le_of_ble_eq_true rfl) hB ?_
    obtain ⟨x3_9, ex3_9, hf⟩ := lt_e hf
    refine topI ex3_9 ?_
    refine g_istore_n (lv' := [(3, _), (0, _), (1, _), (2, _), (4, _)]) C (ckD_get k_X2_reach_0 17 rfl) rfl hL3 rfl ?_
    obtain ⟨x4_10, ex4_10, hf⟩ := lt_e hf
    refine g_iinc (lv' := [(4, _), (3, _), (0, _), (1, _), (2, _)]) 4 C (ckD_get k_X2_reach_0 18 rfl) rfl ex4_10 hL4 rfl ?_
    refine g_goto C (ckD_get k_X2_reach_0 19 rfl) ?_
    refine G.sub [2, 3, 4, 1, 0] rfl ?_
    cases hf
    exact hn_5 _ rfl

set_option maxRecDepth 20000 in
theorem k_X2_wide_0 : ckD cX2_wide [(0, .aload_n 0, 1, 1, 0), (1, .aload_n 0, 1, 2, 0), (2, .getfield 9, 3, 5, 0), (5, .aload_n 0, 1, 6, 0), (6, .getfield 18, 3, 9, 0), (9, .invokevirtual 53, 3, 12, 0), (12, .ireturn, 1, 13, 0)] = true := by decide +kernel
def f_X2_wide (k0 : Nat) (M : Mm) : Option Int32 := (f_X2_reach k0 (k0 + 1) (k0 + 3) M).bind fun r_2 => some r_2
set_option maxRecDepth 100000 in
set_option maxHeartbeats 4000000 in
theorem t_X2_wide {E : Ev} {l : Launch} (htr : l.stackTraces = false) (k0 : Nat) (hk0 : isGr k0) (M : Mm) (r : Int32) (hf : f_X2_wide k0 M = some r) : CM E l 2 0 0 yX2_wide cX2_wide 1 (some .int) [.ref (E.1 + k0)] M (some (.int r)) M := by
  refine CM.of htr (by decide +kernel) (Nat.le_of_ble_eq_true rfl) ?_
  intro K hE hL hl hR0 C hr hRv
  subst hE
  subst hl
  have C : Cx K cX2_wide RX2 2 := C
  have hB : (0 : Nat) ≤ K.1.R.cells ∧ 0 ≤ K.1.R.slots := ⟨Nat.zero_le _, Nat.zero_le _⟩
  show G K (0, 0) 0 [(0, .ref (K.2.1.1 + k0))] [] M
  unfold f_X2_wide at hf
  refine g_aload_n 0 C (ckD_get k_X2_wide_0 0 rfl) rfl rfl ?_
  refine g_aload_n 0 C (ckD_get k_X2_wide_0 1 rfl) rfl rfl ?_
  refine g_getR C (ckD_get k_X2_wide_0 2 rfl) fk_X2_9 (T_Gr hk0) rfl ?_
  refine g_aload_n 0 C (ckD_get k_X2_wide_0 3 rfl) rfl rfl ?_
  refine g_getR C (ckD_get k_X2_wide_0 4 rfl) fk_X2_18 (T_Gr hk0) rfl ?_
  obtain ⟨r_2, hr_1, hf⟩ := bd_e hf
  refine n_cV [.ref (K.2.1.1 + (k0 + 1)), .ref (K.2.1.1 + (k0 + 3))] [] C (ckD_get k_X2_wide_0 5 rfl) vk_X2_53 (t_X2_reach C.tr _ hk0 _ (T_Gr1 hk0) _ (T_Gr3 hk0) _ _ hr_1) (T_Gr hk0) rfl rfl (Nat.le_of_ble_eq_true rfl) (by decide) hB rfl ?_
  cases hf
  exact g_iret C (ckD_get k_X2_wide_0 6 rfl) hr hRv (Nat.le_refl _) (Nat.le_refl _)

set_option maxRecDepth 20000 in
theorem k_X2_high_0 : ckD cX2_high [(0, .aload_n 0, 1, 1, 0), (1, .aload_n 0, 1, 2, 0), (2, .getfield 15, 3, 5, 0), (5, .aload_n 0, 1, 6, 0), (6, .getfield 21, 3, 9, 0), (9, .invokevirtual 53, 3, 12, 0), (12, .ireturn, 1, 13, 0)] = true := by decide +kernel
def f_X2_high (k0 : Nat) (M : Mm) : Option Int32 := (f_X2_reach k0 (k0 + 2) (k0 + 4) M).bind fun r_2 => some r_2
set_option maxRecDepth 100000 in
set_option maxHeartbeats 4000000 in
theorem t_X2_high {E : Ev} {l : Launch} (htr : l.stackTraces = false) (k0 : Nat) (hk0 : isGr k0) (M : Mm) (r : Int32) (hf : f_X2_high k0 M = some r) : CM E l 2 0 0 yX2_high cX2_high 1 (some .int) [.ref (E.1 + k0)] M (some (.int r)) M := by
  refine CM.of htr (by decide +kernel) (Nat.le_of_ble_eq_true rfl) ?_
  intro K hE hL hl hR0 C hr hRv
  subst hE
  subst hl
  have C : Cx K cX2_high RX2 2 := C
  have hB : (0 : Nat) ≤ K.1.R.cells ∧ 0 ≤ K.1.R.slots := ⟨Nat.zero_le _, Nat.zero_le _⟩
  show G K (0, 0) 0 [(0, .ref (K.2.1.1 + k0))] [] M
  unfold f_X2_high at hf
  refine g_aload_n 0 C (ckD_get k_X2_high_0 0 rfl) rfl rfl ?_
  refine g_aload_n 0 C (ckD_get k_X2_high_0 1 rfl) rfl rfl ?_
  refine g_getR C (ckD_get k_X2_high_0 2 rfl) fk_X2_15 (T_Gr hk0) rfl ?_
  refine g_aload_n 0 C (ckD_get k_X2_high_0 3 rfl) rfl rfl ?_
  refine g_getR C (ckD_get k_X2_high_0 4 rfl) fk_X2_21 (T_Gr hk0) rfl ?_
  obtain ⟨r_2, hr_1, hf⟩ := bd_e hf
  refine n_cV [.ref (K.2.1.1 + (k0 + 2)), .ref (K.2.1.1 + (k0 + 4))] [] C (ckD_get k_X2_high_0 5 rfl) vk_X2_53 (t_X2_reach C.tr _ hk0 _ (T_Gr2 hk0) _ (T_Gr4 hk0) _ _ hr_1) (T_Gr hk0) rfl rfl (Nat.le_of_ble_eq_true rfl) (by decide) hB rfl ?_
  cases hf
  exact g_iret C (ckD_get k_X2_high_0 6 rfl) hr hRv (Nat.le_refl _) (Nat.le_refl _)

set_option maxRecDepth 20000 in
theorem k_X2_area_0 : ckD cX2_area [(0, .iconst 0, 1, 1, 0), (1, .istore_n 1, 1, 2, 0), (2, .iconst 0, 1, 3, 0), (3, .istore_n 2, 1, 4, 0), (4, .iconst 0, 1, 5, 0), (5, .istore_n 3, 1, 6, 0), (6, .iload_n 3, 1, 7, 0), (7, .aload_n 0, 1, 8, 0), (8, .getfield 33, 3, 11, 0), (11, .if_icmp .ge 45, 3, 14, 56), (14, .iload_n 1, 1, 15, 0), (15, .aload_n 0, 1, 16, 0), (16, .getfield 9, 3, 19, 0), (19, .iload_n 3, 1, 20, 0), (20, .iaload, 1, 21, 0), (21, .aload_n 0, 1, 22, 0), (22, .getfield 18, 3, 25, 0), (25, .iload_n 3, 1, 26, 0), (26, .iaload, 1, 27, 0), (27, .iadd, 1, 28, 0), (28, .invokestatic 57, 3, 31, 0), (31, .istore_n 1, 1, 32, 0), (32, .iload_n 2, 1, 33, 0), (33, .aload_n 0, 1, 34, 0), (34, .getfield 15, 3, 37, 0), (37, .iload_n 3, 1, 38, 0), (38, .iaload, 1, 39, 0), (39, .aload_n 0, 1, 40, 0), (40, .getfield 21, 3, 43, 0), (43, .iload_n 3, 1, 44, 0), (44, .iaload, 1, 45, 0), (45, .iadd, 1, 46, 0), (46, .invokestatic 57, 3, 49, 0), (49, .istore_n 2, 1, 50, 0), (50, .iinc 3 1, 3, 53, 0), (53, .goto (-47), 3, 56, 6), (56, .iload_n 1, 1, 57, 0), (57, .iload_n 2, 1, 58, 0), (58, .imul, 1, 59, 0), (59, .ireturn, 1, 60, 0)] = true := by decide +kernel
def f_X2_area_A6 (x1_4 : Int32) (x2_5 : Int32) : Option Int32 := some (x1_4 * x2_5)
def f_X2_area_L6 (k0 : Nat) (M : Mm) (x1_1 : Int32) (x2_2 : Int32) (x3_3 : Int32) : Option ((Int32 × Int32 × Int32) ⊕ (Int32 × Int32)) := if (M.1 k0 6) ≤ x3_3 then some (.inr (x1_1, x2_2)) else rdI 12 M (k0 + 1) x3_3 fun v_7 => rdI 12 M (k0 + 3) x3_3 fun v_9 => lt1 (jmax x1_1 (v_7 + v_9)) fun x1_11 => rdI 12 M (k0 + 2) x3_3 fun v_12 => rdI 12 M (k0 + 4) x3_3 fun v_14 => lt1 (jmax x2_2 (v_12 + v_14)) fun x2_16 => lt1 (x3_3 + 1) fun x3_17 => some (.inl (x1_11, x2_16, x3_17))
def f_X2_area (k0 : Nat) (M : Mm) : Option Int32 := (loop (fun v => f_X2_area_L6 k0 M v.1 v.2.1 v.2.2) FU ((0 : Int32), (0 : Int32), (0 : Int32))).bind fun z => f_X2_area_A6 z.1 z.2
set_option maxRecDepth 100000 in
set_option maxHeartbeats 4000000 in
theorem t_X2_area {E : Ev} {l : Launch} (htr : l.stackTraces = false) (k0 : Nat) (hk0 : isGr k0) (M : Mm) (r : Int32) (hf : f_X2_area k0 M = some r) : CM E l 1 0 0 yX2_area cX2_area 4 (some .int) [.ref (E.1 + k0)] M (some (.int r)) M := by
  refine CM.of htr (by decide +kernel) (Nat.le_of_ble_eq_true rfl) ?_
  intro K hE hL hl hR0 C hr hRv
  subst hE
  subst hl
  have C : Cx K cX2_area RX2 1 := C
  have hB : (0 : Nat) ≤ K.1.R.cells ∧ 0 ≤ K.1.R.slots := ⟨Nat.zero_le _, Nat.zero_le _⟩
  have hL1 : 1 < K.2.2.1 := by rw [hL]; decide
  have hL2 : 2 < K.2.2.1 := by rw [hL]; decide
  have hL3 : 3 < K.2.2.1 := by rw [hL]; decide
  show G K (0, 0) 0 [(0, .ref (K.2.1.1 + k0))] [] M
  unfold f_X2_area at hf
  refine g_iconst (v := (0 : Int32)) C (ckD_get k_X2_area_0 0 rfl) (by decide) ?_
  refine g_istore_n (lv' := [(1, _), (0, _)]) C (ckD_get k_X2_area_0 1 rfl) rfl hL1 rfl ?_
  refine g_iconst (v := (0 : Int32)) C (ckD_get k_X2_area_0 2 rfl) (by decide) ?_
  refine g_istore_n (lv' := [(2, _), (1, _), (0, _)]) C (ckD_get k_X2_area_0 3 rfl) rfl hL2 rfl ?_
  refine g_iconst (v := (0 : Int32)) C (ckD_get k_X2_area_0 4 rfl) (by decide) ?_
  refine g_istore_n (lv' := [(3, _), (2, _), (1, _), (0, _)]) C (ckD_get k_X2_area_0 5 rfl) rfl hL3 rfl ?_
  refine G.sub [3, 2, 1, 0] rfl ?_
  obtain ⟨xx_6, hx_6, hf⟩ := bd_e hf
  obtain ⟨x1_4, x2_5⟩ := xx_6
  have hE_6 : G K (0, 0) 56 [(1, .int x1_4), (2, .int x2_5)] [] M := by
    have hf : f_X2_area_A6 x1_4 x2_5 = some r := hf
    unfold f_X2_area_A6 at hf
    refine g_iload_n 0 C (ckD_get k_X2_area_0 36 rfl) rfl rfl ?_
    refine g_iload_n 1 C (ckD_get k_X2_area_0 37 rfl) rfl rfl ?_
    refine g_imul C (ckD_get k_X2_area_0 38 rfl) ?_
    cases hf
    exact g_iret C (ckD_get k_X2_area_0 39 rfl) hr hRv (Nat.le_refl _) (Nat.le_refl _)
  refine loop_e (x := (x1_4, x2_5)) (P := fun (v : (Int32 × Int32 × Int32)) => G K (0, 0) 6 [(0, .ref (K.2.1.1 + k0)), (1, .int v.1), (2, .int v.2.1), (3, .int v.2.2)] [] M) ?_ FU _ hx_6
  intro v rr_6 hf hn_6 hz_6
  obtain ⟨x1_1, x2_2, x3_3⟩ := v
  have hf : f_X2_area_L6 k0 M x1_1 x2_2 x3_3 = some rr_6 := hf
  show G K (0, 0) 6 [(0, .ref (K.2.1.1 + k0)), (1, .int x1_1), (2, .int x2_2), (3, .int x3_3)] [] M
  unfold f_X2_area_L6 at hf
  refine g_iload_n 3 C (ckD_get k_X2_area_0 6 rfl) rfl rfl ?_
  refine g_aload_n 0 C (ckD_get k_X2_area_0 7 rfl) rfl rfl ?_
  refine g_getI C (ckD_get k_X2_area_0 8 rfl) fk_X2_33 (T_Gr hk0) rfl ?_
  refine g_icmp_ge C (ckD_get k_X2_area_0 9 rfl) (fun c_6 => ?_) (fun c_6 => ?_)
  · have hf := if_t hf c_6
    refine G.sub [1, 2] rfl ?_
    cases hf
    cases hz_6 _ rfl
    exact hE_6
  · have hf := if_f hf c_6
    refine g_iload_n 1 C (ckD_get k_X2_area_0 10 rfl) rfl rfl ?_
    refine g_aload_n 0 C (ckD_get k_X2_area_0 11 rfl) rfl rfl ?_
    refine g_getR C (ckD_get k_X2_area_0 12 rfl) fk_X2_9 (T_Gr hk0) rfl ?_
    refine g_iload_n 3 C (ckD_get k_X2_area_0 13 rfl) rfl rfl ?_
    obtain ⟨v_7, hi_8, ev_7, hf⟩ := rdI_e hf
    refine n_iald C (ckD_get k_X2_area_0 14 rfl) (T_Gr1 hk0) hi_8 ev_7 ?_
    refine g_aload_n 0 C (ckD_get k_X2_area_0 15 rfl) rfl rfl ?_
    refine g_getR C (ckD_get k_X2_area_0 16 rfl) fk_X2_18 (T_Gr hk0) rfl ?_
    refine g_iload_n 3 C (ckD_get k_X2_area_0 17 rfl) rfl rfl ?_
    obtain ⟨v_9, hi_10, ev_9, hf⟩ := rdI_e hf
    refine n_iald C (ckD_get k_X2_area_0 18 rfl) (T_Gr3 hk0) hi_10 ev_9 ?_
    refine g_iadd C (ckD_get k_X2_area_0 19 rfl) ?_
    refine n_mmax C (ckD_get k_X2_area_0 20 rfl) mk_X2_57 (by decide) (Nat.le_of_ble_eq_true rfl) hB ?_
    obtain ⟨x1_11, ex1_11, hf⟩ := lt_e hf
    refine topI ex1_11 ?_
    refine g_istore_n (lv' := [(1, _), (0, _), (2, _), (3, _)]) C (ckD_get k_X2_area_0 21 rfl) rfl hL1 rfl ?_
    refine g_iload_n 2 C (ckD_get k_X2_area_0 22 rfl) rfl rfl ?_
    refine g_aload_n 1 C (ckD_get k_X2_area_0 23 rfl) rfl rfl ?_
    refine g_getR C (ckD_get k_X2_area_0 24 rfl) fk_X2_15 (T_Gr hk0) rfl ?_
    refine g_iload_n 3 C (ckD_get k_X2_area_0 25 rfl) rfl rfl ?_
    obtain ⟨v_12, hi_13, ev_12, hf⟩ := rdI_e hf
    refine n_iald C (ckD_get k_X2_area_0 26 rfl) (T_Gr2 hk0) hi_13 ev_12 ?_
    refine g_aload_n 1 C (ckD_get k_X2_area_0 27 rfl) rfl rfl ?_
    refine g_getR C (ckD_get k_X2_area_0 28 rfl) fk_X2_21 (T_Gr hk0) rfl ?_
    refine g_iload_n 3 C (ckD_get k_X2_area_0 29 rfl) rfl rfl ?_
    obtain ⟨v_14, hi_15, ev_14, hf⟩ := rdI_e hf
    refine n_iald C (ckD_get k_X2_area_0 30 rfl) (T_Gr4 hk0) hi_15 ev_14 ?_
    refine g_iadd C (ckD_get k_X2_area_0 31 rfl) ?_
    refine n_mmax C (ckD_get k_X2_area_0 32 rfl) mk_X2_57 (by decide) (Nat.le_of_ble_eq_true rfl) hB ?_
    obtain ⟨x2_16, ex2_16, hf⟩ := lt_e hf
    refine topI ex2_16 ?_
    refine g_istore_n (lv' := [(2, _), (1, _), (0, _), (3, _)]) C (ckD_get k_X2_area_0 33 rfl) rfl hL2 rfl ?_
    obtain ⟨x3_17, ex3_17, hf⟩ := lt_e hf
    refine g_iinc (lv' := [(3, _), (2, _), (1, _), (0, _)]) 3 C (ckD_get k_X2_area_0 34 rfl) rfl ex3_17 hL3 rfl ?_
    refine g_goto C (ckD_get k_X2_area_0 35 rfl) ?_
    refine G.sub [3, 2, 1, 0] rfl ?_
    cases hf
    exact hn_6 _ rfl

set_option maxRecDepth 20000 in
theorem k_X2_isLeft_0 : ckD cX2_isLeft [(0, .aload_n 0, 1, 1, 0), (1, .getfield 9, 3, 4, 0), (4, .iload_n 1, 1, 5, 0), (5, .iaload, 1, 6, 0), (6, .aload_n 0, 1, 7, 0), (7, .getfield 18, 3, 10, 0), (10, .iload_n 1, 1, 11, 0), (11, .iaload, 1, 12, 0), (12, .iadd, 1, 13, 0), (13, .aload_n 0, 1, 14, 0), (14, .getfield 9, 3, 17, 0), (17, .iload_n 2, 1, 18, 0), (18, .iaload, 1, 19, 0), (19, .if_icmp .gt 7, 3, 22, 26), (22, .iconst 1, 1, 23, 0), (23, .goto 4, 3, 26, 27), (26, .iconst 0, 1, 27, 0), (27, .ireturn, 1, 28, 0)] = true := by decide +kernel
def f_X2_isLeft (k0 : Nat) (a1 : Int32) (a2 : Int32) (M : Mm) : Option Int32 := rdI 12 M (k0 + 1) a1 fun v_1 => rdI 12 M (k0 + 3) a1 fun v_3 => rdI 12 M (k0 + 1) a2 fun v_5 => if v_5 < (v_1 + v_3) then some (0 : Int32) else some (1 : Int32)
set_option maxRecDepth 100000 in
set_option maxHeartbeats 4000000 in
theorem t_X2_isLeft {E : Ev} {l : Launch} (htr : l.stackTraces = false) (k0 : Nat) (hk0 : isGr k0) (a1 : Int32) (a2 : Int32) (M : Mm) (r : Int32) (hf : f_X2_isLeft k0 a1 a2 M = some r) : CM E l 0 0 0 yX2_isLeft cX2_isLeft 3 (some .boolean) [.ref (E.1 + k0), .int a1, .int a2] M (some (.int r)) M := by
  refine CM.of htr (by decide +kernel) (Nat.le_of_ble_eq_true rfl) ?_
  intro K hE hL hl hR0 C hr hRv
  subst hE
  subst hl
  have C : Cx K cX2_isLeft RX2 0 := C
  have hB : (0 : Nat) ≤ K.1.R.cells ∧ 0 ≤ K.1.R.slots := ⟨Nat.zero_le _, Nat.zero_le _⟩
  show G K (0, 0) 0 [(0, .ref (K.2.1.1 + k0)), (1, .int a1), (2, .int a2)] [] M
  unfold f_X2_isLeft at hf
  refine g_aload_n 0 C (ckD_get k_X2_isLeft_0 0 rfl) rfl rfl ?_
  refine g_getR C (ckD_get k_X2_isLeft_0 1 rfl) fk_X2_9 (T_Gr hk0) rfl ?_
  refine g_iload_n 1 C (ckD_get k_X2_isLeft_0 2 rfl) rfl rfl ?_
  obtain ⟨v_1, hi_2, ev_1, hf⟩ := rdI_e hf
  refine n_iald C (ckD_get k_X2_isLeft_0 3 rfl) (T_Gr1 hk0) hi_2 ev_1 ?_
  refine g_aload_n 0 C (ckD_get k_X2_isLeft_0 4 rfl) rfl rfl ?_
  refine g_getR C (ckD_get k_X2_isLeft_0 5 rfl) fk_X2_18 (T_Gr hk0) rfl ?_
  refine g_iload_n 1 C (ckD_get k_X2_isLeft_0 6 rfl) rfl rfl ?_
  obtain ⟨v_3, hi_4, ev_3, hf⟩ := rdI_e hf
  refine n_iald C (ckD_get k_X2_isLeft_0 7 rfl) (T_Gr3 hk0) hi_4 ev_3 ?_
  refine g_iadd C (ckD_get k_X2_isLeft_0 8 rfl) ?_
  refine g_aload_n 0 C (ckD_get k_X2_isLeft_0 9 rfl) rfl rfl ?_
  refine g_getR C (ckD_get k_X2_isLeft_0 10 rfl) fk_X2_9 (T_Gr hk0) rfl ?_
  refine g_iload_n 2 C (ckD_get k_X2_isLeft_0 11 rfl) rfl rfl ?_
  obtain ⟨v_5, hi_6, ev_5, hf⟩ := rdI_e hf
  refine n_iald C (ckD_get k_X2_isLeft_0 12 rfl) (T_Gr1 hk0) hi_6 ev_5 ?_
  refine g_icmp_gt C (ckD_get k_X2_isLeft_0 13 rfl) (fun c_7 => ?_) (fun c_7 => ?_)
  · have hf := if_t hf c_7
    refine g_iconst (v := (0 : Int32)) C (ckD_get k_X2_isLeft_0 16 rfl) (by decide) ?_
    cases hf
    exact g_zret C (ckD_get k_X2_isLeft_0 17 rfl) hr rfl hRv (Nat.le_refl _) (Nat.le_refl _)
  · have hf := if_f hf c_7
    refine g_iconst (v := (1 : Int32)) C (ckD_get k_X2_isLeft_0 14 rfl) (by decide) ?_
    refine g_goto C (ckD_get k_X2_isLeft_0 15 rfl) ?_
    cases hf
    exact g_zret C (ckD_get k_X2_isLeft_0 17 rfl) hr rfl hRv (Nat.le_refl _) (Nat.le_refl _)

set_option maxRecDepth 20000 in
theorem k_X2_isBelow_0 : ckD cX2_isBelow [(0, .aload_n 0, 1, 1, 0), (1, .getfield 15, 3, 4, 0), (4, .iload_n 1, 1, 5, 0), (5, .iaload, 1, 6, 0), (6, .aload_n 0, 1, 7, 0), (7, .getfield 21, 3, 10, 0), (10, .iload_n 1, 1, 11, 0), (11, .iaload, 1, 12, 0), (12, .iadd, 1, 13, 0), (13, .aload_n 0, 1, 14, 0), (14, .getfield 15, 3, 17, 0), (17, .iload_n 2, 1, 18, 0), (18, .iaload, 1, 19, 0), (19, .if_icmp .gt 7, 3, 22, 26), (22, .iconst 1, 1, 23, 0), (23, .goto 4, 3, 26, 27), (26, .iconst 0, 1, 27, 0), (27, .ireturn, 1, 28, 0)] = true := by decide +kernel
def f_X2_isBelow (k0 : Nat) (a1 : Int32) (a2 : Int32) (M : Mm) : Option Int32 := rdI 12 M (k0 + 2) a1 fun v_1 => rdI 12 M (k0 + 4) a1 fun v_3 => rdI 12 M (k0 + 2) a2 fun v_5 => if v_5 < (v_1 + v_3) then some (0 : Int32) else some (1 : Int32)
set_option maxRecDepth 100000 in
set_option maxHeartbeats 4000000 in
theorem t_X2_isBelow {E : Ev} {l : Launch} (htr : l.stackTraces = false) (k0 : Nat) (hk0 : isGr k0) (a1 : Int32) (a2 : Int32) (M : Mm) (r : Int32) (hf : f_X2_isBelow k0 a1 a2 M = some r) : CM E l 0 0 0 yX2_isBelow cX2_isBelow 3 (some .boolean) [.ref (E.1 + k0), .int a1, .int a2] M (some (.int r)) M := by
  refine CM.of htr (by decide +kernel) (Nat.le_of_ble_eq_true rfl) ?_
  intro K hE hL hl hR0 C hr hRv
  subst hE
  subst hl
  have C : Cx K cX2_isBelow RX2 0 := C
  have hB : (0 : Nat) ≤ K.1.R.cells ∧ 0 ≤ K.1.R.slots := ⟨Nat.zero_le _, Nat.zero_le _⟩
  show G K (0, 0) 0 [(0, .ref (K.2.1.1 + k0)), (1, .int a1), (2, .int a2)] [] M
  unfold f_X2_isBelow at hf
  refine g_aload_n 0 C (ckD_get k_X2_isBelow_0 0 rfl) rfl rfl ?_
  refine g_getR C (ckD_get k_X2_isBelow_0 1 rfl) fk_X2_15 (T_Gr hk0) rfl ?_
  refine g_iload_n 1 C (ckD_get k_X2_isBelow_0 2 rfl) rfl rfl ?_
  obtain ⟨v_1, hi_2, ev_1, hf⟩ := rdI_e hf
  refine n_iald C (ckD_get k_X2_isBelow_0 3 rfl) (T_Gr2 hk0) hi_2 ev_1 ?_
  refine g_aload_n 0 C (ckD_get k_X2_isBelow_0 4 rfl) rfl rfl ?_
  refine g_getR C (ckD_get k_X2_isBelow_0 5 rfl) fk_X2_21 (T_Gr hk0) rfl ?_
  refine g_iload_n 1 C (ckD_get k_X2_isBelow_0 6 rfl) rfl rfl ?_
  obtain ⟨v_3, hi_4, ev_3, hf⟩ := rdI_e hf
  refine n_iald C (ckD_get k_X2_isBelow_0 7 rfl) (T_Gr4 hk0) hi_4 ev_3 ?_
  refine g_iadd C (ckD_get k_X2_isBelow_0 8 rfl) ?_
  refine g_aload_n 0 C (ckD_get k_X2_isBelow_0 9 rfl) rfl rfl ?_
  refine g_getR C (ckD_get k_X2_isBelow_0 10 rfl) fk_X2_15 (T_Gr hk0) rfl ?_
  refine g_iload_n 2 C (ckD_get k_X2_isBelow_0 11 rfl) rfl rfl ?_
  obtain ⟨v_5, hi_6, ev_5, hf⟩ := rdI_e hf
  refine n_iald C (ckD_get k_X2_isBelow_0 12 rfl) (T_Gr2 hk0) hi_6 ev_5 ?_
  refine g_icmp_gt C (ckD_get k_X2_isBelow_0 13 rfl) (fun c_7 => ?_) (fun c_7 => ?_)
  · have hf := if_t hf c_7
    refine g_iconst (v := (0 : Int32)) C (ckD_get k_X2_isBelow_0 16 rfl) (by decide) ?_
    cases hf
    exact g_zret C (ckD_get k_X2_isBelow_0 17 rfl) hr rfl hRv (Nat.le_refl _) (Nat.le_refl _)
  · have hf := if_f hf c_7
    refine g_iconst (v := (1 : Int32)) C (ckD_get k_X2_isBelow_0 14 rfl) (by decide) ?_
    refine g_goto C (ckD_get k_X2_isBelow_0 15 rfl) ?_
    cases hf
    exact g_zret C (ckD_get k_X2_isBelow_0 17 rfl) hr rfl hRv (Nat.le_refl _) (Nat.le_refl _)

set_option maxRecDepth 20000 in
theorem k_X2_doClash_0 : ckD cX2_doClash [(0, .aload_n 0, 1, 1, 0), (1, .iload_n 1, 1, 2, 0), (2, .iload_n 2, 1, 3, 0), (3, .invokevirtual 62, 3, 6, 0), (6, .ifCond .ne 34, 3, 9, 40), (9, .aload_n 0, 1, 10, 0), (10, .iload_n 2, 1, 11, 0), (11, .iload_n 1, 1, 12, 0), (12, .invokevirtual 62, 3, 15, 0), (15, .ifCond .ne 25, 3, 18, 40), (18, .aload_n 0, 1, 19, 0), (19, .iload_n 1, 1, 20, 0), (20, .iload_n 2, 1, 21, 0), (21, .invokevirtual 66, 3, 24, 0), (24, .ifCond .ne 16, 3, 27, 40), (27, .aload_n 0, 1, 28, 0), (28, .iload_n 2, 1, 29, 0), (29, .iload_n 1, 1, 30, 0), (30, .invokevirtual 66, 3, 33, 0), (33, .ifCond .ne 7, 3, 36, 40), (36, .iconst 1, 1, 37, 0), (37, .goto 4, 3, 40, 41), (40, .iconst 0, 1, 41, 0), (41, .ireturn, 1, 42, 0)] = true := by decide +kernel
def f_X2_doClash (k0 : Nat) (a1 : Int32) (a2 : Int32) (M : Mm) : Option Int32 := (f_X2_isLeft k0 a1 a2 M).bind fun r_2 => if r_2 = 0 then (f_X2_isLeft k0 a2 a1 M).bind fun r_5 => if r_5 = 0 then (f_X2_isBelow k0 a1 a2 M).bind fun r_8 => if r_8 = 0 then (f_X2_isBelow k0 a2 a1 M).bind fun r_11 => if r_11 = 0 then some (1 : Int32) else some (0 : Int32) else some (0 : Int32) else some (0 : Int32) else some (0 : Int32)
set_option maxRecDepth 100000 in
set_option maxHeartbeats 4000000 in
theorem t_X2_doClash {E : Ev} {l : Launch} (htr : l.stackTraces = false) (k0 : Nat) (hk0 : isGr k0) (a1 : Int32) (a2 : Int32) (M : Mm) (r : Int32) (hf : f_X2_doClash k0 a1 a2 M = some r) : CM E l 1 0 0 yX2_doClash cX2_doClash 3 (some .boolean) [.ref (E.1 + k0), .int a1, .int a2] M (some (.int r)) M := by
  refine CM.of htr (by decide +kernel) (Nat.le_of_ble_eq_true rfl) ?_
  intro K hE hL hl hR0 C hr hRv
  subst hE
  subst hl
  have C : Cx K cX2_doClash RX2 1 := C
  have hB : (0 : Nat) ≤ K.1.R.cells ∧ 0 ≤ K.1.R.slots := ⟨Nat.zero_le _, Nat.zero_le _⟩
  show G K (0, 0) 0 [(0, .ref (K.2.1.1 + k0)), (1, .int a1), (2, .int a2)] [] M
  unfold f_X2_doClash at hf
  refine g_aload_n 0 C (ckD_get k_X2_doClash_0 0 rfl) rfl rfl ?_
  refine g_iload_n 1 C (ckD_get k_X2_doClash_0 1 rfl) rfl rfl ?_
  refine g_iload_n 2 C (ckD_get k_X2_doClash_0 2 rfl) rfl rfl ?_
  obtain ⟨r_2, hr_1, hf⟩ := bd_e hf
  refine n_cV [.int a1, .int a2] [] C (ckD_get k_X2_doClash_0 3 rfl) vk_X2_62 (t_X2_isLeft C.tr _ hk0 _ _ _ _ hr_1) (T_Gr hk0) rfl rfl (Nat.le_of_ble_eq_true rfl) (by decide) hB rfl ?_
  refine g_if_ne C (ckD_get k_X2_doClash_0 4 rfl) (fun c_3 => ?_) (fun c_3 => ?_)
  · have hf := if_f hf c_3
    refine g_iconst (v := (0 : Int32)) C (ckD_get k_X2_doClash_0 22 rfl) (by decide) ?_
    cases hf
    exact g_zret C (ckD_get k_X2_doClash_0 23 rfl) hr rfl hRv (Nat.le_refl _) (Nat.le_refl _)
  · have hf := if_t hf c_3
    refine g_aload_n 0 C (ckD_get k_X2_doClash_0 5 rfl) rfl rfl ?_
    refine g_iload_n 2 C (ckD_get k_X2_doClash_0 6 rfl) rfl rfl ?_
    refine g_iload_n 1 C (ckD_get k_X2_doClash_0 7 rfl) rfl rfl ?_
    obtain ⟨r_5, hr_4, hf⟩ := bd_e hf
    refine n_cV [.int a2, .int a1] [] C (ckD_get k_X2_doClash_0 8 rfl) vk_X2_62 (t_X2_isLeft C.tr _ hk0 _ _ _ _ hr_4) (T_Gr hk0) rfl rfl (Nat.le_of_ble_eq_true rfl) (by decide) hB rfl ?_
    refine g_if_ne C (ckD_get k_X2_doClash_0 9 rfl) (fun c_6 => ?_) (fun c_6 => ?_)
    · have hf := if_f hf c_6
      refine g_iconst (v := (0 : Int32)) C (ckD_get k_X2_doClash_0 22 rfl) (by decide) ?_
      cases hf
      exact g_zret C (ckD_get k_X2_doClash_0 23 rfl) hr rfl hRv (Nat.le_refl _) (Nat.le_refl _)
    · have hf := if_t hf c_6
      refine g_aload_n 0 C (ckD_get k_X2_doClash_0 10 rfl) rfl rfl ?_
      refine g_iload_n 1 C (ckD_get k_X2_doClash_0 11 rfl) rfl rfl ?_
      refine g_iload_n 2 C (ckD_get k_X2_doClash_0 12 rfl) rfl rfl ?_
      obtain ⟨r_8, hr_7, hf⟩ := bd_e hf
      refine n_cV [.int a1, .int a2] [] C (ckD_get k_X2_doClash_0 13 rfl) vk_X2_66 (t_X2_isBelow C.tr _ hk0 _ _ _ _ hr_7) (T_Gr hk0) rfl rfl (Nat.le_of_ble_eq_true rfl) (by decide) hB rfl ?_
      refine g_if_ne C (ckD_get k_X2_doClash_0 14 rfl) (fun c_9 => ?_) (fun c_9 => ?_)
      · have hf := if_f hf c_9
        refine g_iconst (v := (0 : Int32)) C (ckD_get k_X2_doClash_0 22 rfl) (by decide) ?_
        cases hf
        exact g_zret C (ckD_get k_X2_doClash_0 23 rfl) hr rfl hRv (Nat.le_refl _) (Nat.le_refl _)
      · have hf := if_t hf c_9
        refine g_aload_n 0 C (ckD_get k_X2_doClash_0 15 rfl) rfl rfl ?_
        refine g_iload_n 2 C (ckD_get k_X2_doClash_0 16 rfl) rfl rfl ?_
        refine g_iload_n 1 C (ckD_get k_X2_doClash_0 17 rfl) rfl rfl ?_
        obtain ⟨r_11, hr_10, hf⟩ := bd_e hf
        refine n_cV [.int a2, .int a1] [] C (ckD_get k_X2_doClash_0 18 rfl) vk_X2_66 (t_X2_isBelow C.tr _ hk0 _ _ _ _ hr_10) (T_Gr hk0) rfl rfl (Nat.le_of_ble_eq_true rfl) (by decide) hB rfl ?_
        refine g_if_ne C (ckD_get k_X2_doClash_0 19 rfl) (fun c_12 => ?_) (fun c_12 => ?_)
        · have hf := if_f hf c_12
          refine g_iconst (v := (0 : Int32)) C (ckD_get k_X2_doClash_0 22 rfl) (by decide) ?_
          cases hf
          exact g_zret C (ckD_get k_X2_doClash_0 23 rfl) hr rfl hRv (Nat.le_refl _) (Nat.le_refl _)
        · have hf := if_t hf c_12
          refine g_iconst (v := (1 : Int32)) C (ckD_get k_X2_doClash_0 20 rfl) (by decide) ?_
          refine g_goto C (ckD_get k_X2_doClash_0 21 rfl) ?_
          cases hf
          exact g_zret C (ckD_get k_X2_doClash_0 23 rfl) hr rfl hRv (Nat.le_refl _) (Nat.le_refl _)

set_option maxRecDepth 20000 in
theorem k_X2_firstClash_0 : ckD cX2_firstClash [(0, .iconst 0, 1, 1, 0), (1, .istore_n 1, 1, 2, 0), (2, .iload_n 1, 1, 3, 0), (3, .aload_n 0, 1, 4, 0), (4, .getfield 33, 3, 7, 0), (7, .if_icmp .ge 42, 3, 10, 49), (10, .iload_n 1, 1, 11, 0), (11, .iconst 1, 1, 12, 0), (12, .iadd, 1, 13, 0), (13, .istore_n 2, 1, 14, 0), (14, .iload_n 2, 1, 15, 0), (15, .aload_n 0, 1, 16, 0), (16, .getfield 33, 3, 19, 0), (19, .if_icmp .ge 24, 3, 22, 43), (22, .aload_n 0, 1, 23, 0), (23, .iload_n 1, 1, 24, 0), (24, .iload_n 2, 1, 25, 0), (25, .invokevirtual 69, 3, 28, 0), (28, .ifCond .eq 9, 3, 31, 37), (31, .iload_n 1, 1, 32, 0), (32, .iconst 4, 1, 33, 0), (33, .ishl, 1, 34, 0), (34, .iload_n 2, 1, 35, 0), (35, .ior, 1, 36, 0), (36, .ireturn, 1, 37, 0), (37, .iinc 2 1, 3, 40, 0), (40, .goto (-26), 3, 43, 14), (43, .iinc 1 1, 3, 46, 0), (46, .goto (-44), 3, 49, 2), (49, .iconst (-1), 1, 50, 0), (50, .ireturn, 1, 51, 0)] = true := by decide +kernel
def f_X2_firstClash_A2  : Option Int32 := some (-1 : Int32)
def f_X2_firstClash_A14 (x1_1 : Int32) : Option (Int32 ⊕ (Unit ⊕ Int32)) := lt1 (x1_1 + 1) fun x1_5 => some (.inl x1_5)
def f_X2_firstClash_L14 (k0 : Nat) (M : Mm) (x1_1 : Int32) (x2_4 : Int32) : Option (Int32 ⊕ (Unit ⊕ Int32)) := if (M.1 k0 6) ≤ x2_4 then some (.inr (.inl ())) else (f_X2_doClash k0 x1_1 x2_4 M).bind fun r_8 => if r_8 = 0 then lt1 (x2_4 + 1) fun x2_10 => some (.inl x2_10) else some (.inr (.inr ((x1_1 <<< ((4 : Int32) &&& 31)) ||| x2_4)))
def f_X2_firstClash_L2 (k0 : Nat) (M : Mm) (x1_1 : Int32) : Option (Int32 ⊕ (Unit ⊕ Int32)) := if (M.1 k0 6) ≤ x1_1 then some (.inr (.inl ())) else lt1 (x1_1 + (1 : Int32)) fun x2_3 => (loop (fun v => f_X2_firstClash_L14 k0 M x1_1 v) FU x2_3).bind fun x => Sum.elim (fun z => f_X2_firstClash_A14 x1_1 ) (fun o => some (.inr (.inr o))) x
def f_X2_firstClash (k0 : Nat) (M : Mm) : Option Int32 := (loop (fun v => f_X2_firstClash_L2 k0 M v) FU (0 : Int32)).bind fun x => Sum.elim (fun z => f_X2_firstClash_A2 ) (fun o => some o) x
set_option maxRecDepth 100000 in
set_option maxHeartbeats 4000000 in
theorem t_X2_firstClash {E : Ev} {l : Launch} (htr : l.stackTraces = false) (k0 : Nat) (hk0 : isGr k0) (M : Mm) (r : Int32) (hf : f_X2_firstClash k0 M = some r) : CM E l 2 0 0 yX2_firstClash cX2_firstClash 3 (some .int) [.ref (E.1 + k0)] M (some (.int r)) M := by
  refine CM.of htr (by decide +kernel) (Nat.le_of_ble_eq_true rfl) ?_
  intro K hE hL hl hR0 C hr hRv
  subst hE
  subst hl
  have C : Cx K cX2_firstClash RX2 2 := C
  have hB : (0 : Nat) ≤ K.1.R.cells ∧ 0 ≤ K.1.R.slots := ⟨Nat.zero_le _, Nat.zero_le _⟩
  have hL1 : 1 < K.2.2.1 := by rw [hL]; decide
  have hL2 : 2 < K.2.2.1 := by rw [hL]; decide
  show G K (0, 0) 0 [(0, .ref (K.2.1.1 + k0))] [] M
  unfold f_X2_firstClash at hf
  refine g_iconst (v := (0 : Int32)) C (ckD_get k_X2_firstClash_0 0 rfl) (by decide) ?_
  refine g_istore_n (lv' := [(1, _), (0, _)]) C (ckD_get k_X2_firstClash_0 1 rfl) rfl hL1 rfl ?_
  refine G.sub [1, 0] rfl ?_
  obtain ⟨xx_2, hx_2, hf⟩ := bd_e hf
  have hE_2 : ∀ (_ : Unit), xx_2 = .inl () → G K (0, 0) 49 [] [] M := by
    intro _ ex
    subst ex
    have hf : f_X2_firstClash_A2  = some r := hf
    unfold f_X2_firstClash_A2 at hf
    refine g_iconst (v := (-1 : Int32)) C (ckD_get k_X2_firstClash_0 29 rfl) (by decide) ?_
    cases hf
    exact g_iret C (ckD_get k_X2_firstClash_0 30 rfl) hr hRv (Nat.le_refl _) (Nat.le_refl _)
  have hO_2 : ∀ o, xx_2 = .inr o → o = r := by
    intro o eo
    subst eo
    have hf : some o = some r := hf
    cases hf
    rfl
  refine loop_e (x := xx_2) (P := fun (v : Int32) => G K (0, 0) 2 [(0, .ref (K.2.1.1 + k0)), (1, .int v)] [] M) ?_ FU _ hx_2
  intro x1_1 rr_2 hf hn_2 hz_2
  have hf : f_X2_firstClash_L2 k0 M x1_1 = some rr_2 := hf
  show G K (0, 0) 2 [(0, .ref (K.2.1.1 + k0)), (1, .int x1_1)] [] M
  unfold f_X2_firstClash_L2 at hf
  refine g_iload_n 1 C (ckD_get k_X2_firstClash_0 2 rfl) rfl rfl ?_
  refine g_aload_n 0 C (ckD_get k_X2_firstClash_0 3 rfl) rfl rfl ?_
  refine g_getI C (ckD_get k_X2_firstClash_0 4 rfl) fk_X2_33 (T_Gr hk0) rfl ?_
  refine g_icmp_ge C (ckD_get k_X2_firstClash_0 5 rfl) (fun c_2 => ?_) (fun c_2 => ?_)
  · have hf := if_t hf c_2
    refine G.sub [] rfl ?_
    cases hf
    exact hE_2 () (hz_2 _ rfl).symm
  · have hf := if_f hf c_2
    refine g_iload_n 1 C (ckD_get k_X2_firstClash_0 6 rfl) rfl rfl ?_
    refine g_iconst (v := (1 : Int32)) C (ckD_get k_X2_firstClash_0 7 rfl) (by decide) ?_
    refine g_iadd C (ckD_get k_X2_firstClash_0 8 rfl) ?_
    obtain ⟨x2_3, ex2_3, hf⟩ := lt_e hf
    refine topI ex2_3 ?_
    refine g_istore_n (lv' := [(2, _), (0, _), (1, _)]) C (ckD_get k_X2_firstClash_0 9 rfl) rfl hL2 rfl ?_
    refine G.sub [1, 2, 0] rfl ?_
    obtain ⟨xx_14, hx_14, hf⟩ := bd_e hf
    have hE_14 : ∀ (_ : Unit), xx_14 = .inl () → G K (0, 0) 43 [(0, .ref (K.2.1.1 + k0)), (1, .int x1_1)] [] M := by
      intro _ ex
      subst ex
      have hf : f_X2_firstClash_A14 x1_1  = some rr_2 := hf
      unfold f_X2_firstClash_A14 at hf
      obtain ⟨x1_5, ex1_5, hf⟩ := lt_e hf
      refine g_iinc (lv' := [(1, _), (0, _)]) 1 C (ckD_get k_X2_firstClash_0 27 rfl) rfl ex1_5 hL1 rfl ?_
      refine g_goto C (ckD_get k_X2_firstClash_0 28 rfl) ?_
      refine G.sub [1, 0] rfl ?_
      cases hf
      exact hn_2 _ rfl
    have hO_14 : ∀ o, xx_14 = .inr o → o = r := by
      intro o eo
      subst eo
      have hf : some (.inr (.inr o)) = some rr_2 := hf
      cases hf
      exact hO_2 _ (hz_2 _ rfl).symm
    refine loop_e (x := xx_14) (P := fun (v : Int32) => G K (0, 0) 14 [(0, .ref (K.2.1.1 + k0)), (1, .int x1_1), (2, .int v)] [] M) ?_ FU _ hx_14
    intro x2_4 rr_14 hf hn_14 hz_14
    have hf : f_X2_firstClash_L14 k0 M x1_1 x2_4 = some rr_14 := hf
    show G K (0, 0) 14 [(0, .ref (K.2.1.1 + k0)), (1, .int x1_1), (2, .int x2_4)] [] M
    unfold f_X2_firstClash_L14 at hf
    refine g_iload_n 2 C (ckD_get k_X2_firstClash_0 10 rfl) rfl rfl ?_
    refine g_aload_n 0 C (ckD_get k_X2_firstClash_0 11 rfl) rfl rfl ?_
    refine g_getI C (ckD_get k_X2_firstClash_0 12 rfl) fk_X2_33 (T_Gr hk0) rfl ?_
    refine g_icmp_ge C (ckD_get k_X2_firstClash_0 13 rfl) (fun c_6 => ?_) (fun c_6 => ?_)
    · have hf := if_t hf c_6
      refine G.sub [0, 1] rfl ?_
      cases hf
      exact hE_14 () (hz_14 _ rfl).symm
    · have hf := if_f hf c_6
      refine g_aload_n 0 C (ckD_get k_X2_firstClash_0 14 rfl) rfl rfl ?_
      refine g_iload_n 1 C (ckD_get k_X2_firstClash_0 15 rfl) rfl rfl ?_
      refine g_iload_n 2 C (ckD_get k_X2_firstClash_0 16 rfl) rfl rfl ?_
      obtain ⟨r_8, hr_7, hf⟩ := bd_e hf
      refine n_cV [.int x1_1, .int x2_4] [] C (ckD_get k_X2_firstClash_0 17 rfl) vk_X2_69 (t_X2_doClash C.tr _ hk0 _ _ _ _ hr_7) (T_Gr hk0) rfl rfl (Nat.le_of_ble_eq_true rfl) (by decide) hB rfl ?_
      refine g_if_eq C (ckD_get k_X2_firstClash_0 18 rfl) (fun c_9 => ?_) (fun c_9 => ?_)
      · have hf := if_t hf c_9
        obtain ⟨x2_10, ex2_10, hf⟩ := lt_e hf
        refine g_iinc (lv' := [(2, _), (0, _), (1, _)]) 2 C (ckD_get k_X2_firstClash_0 25 rfl) rfl ex2_10 hL2 rfl ?_
        refine g_goto C (ckD_get k_X2_firstClash_0 26 rfl) ?_
        refine G.sub [1, 2, 0] rfl ?_
        cases hf
        exact hn_14 _ rfl
      · have hf := if_f hf c_9
        refine g_iload_n 1 C (ckD_get k_X2_firstClash_0 19 rfl) rfl rfl ?_
        refine g_iconst (v := (4 : Int32)) C (ckD_get k_X2_firstClash_0 20 rfl) (by decide) ?_
        refine g_ishl C (ckD_get k_X2_firstClash_0 21 rfl) ?_
        refine g_iload_n 2 C (ckD_get k_X2_firstClash_0 22 rfl) rfl rfl ?_
        refine g_ior C (ckD_get k_X2_firstClash_0 23 rfl) ?_
        cases hf
        cases hO_14 _ (hz_14 _ rfl).symm
        exact g_iret C (ckD_get k_X2_firstClash_0 24 rfl) hr hRv (Nat.le_refl _) (Nat.le_refl _)

set_option maxRecDepth 20000 in
theorem k_X2_firstOf_0 : ckD cX2_firstOf [(0, .iload_n 0, 1, 1, 0), (1, .iconst (-1), 1, 2, 0), (2, .if_icmp .ne 7, 3, 5, 9), (5, .iconst (-1), 1, 6, 0), (6, .goto 6, 3, 9, 12), (9, .iload_n 0, 1, 10, 0), (10, .iconst 4, 1, 11, 0), (11, .ishr, 1, 12, 0), (12, .ireturn, 1, 13, 0)] = true := by decide +kernel
def f_X2_firstOf (a0 : Int32) : Int32 := if a0 = (-1 : Int32) then (-1 : Int32) else (a0 >>> ((4 : Int32) &&& 31))
set_option maxRecDepth 100000 in
set_option maxHeartbeats 4000000 in
theorem t_X2_firstOf {E : Ev} {l : Launch} (htr : l.stackTraces = false) (a0 : Int32) (M : Mm) (r : Int32) (hf : f_X2_firstOf a0 = r) : CM E l 0 0 0 yX2_firstOf cX2_firstOf 1 (some .int) [.int a0] M (some (.int r)) M := by
  refine CM.of htr (by decide +kernel) (Nat.le_of_ble_eq_true rfl) ?_
  intro K hE hL hl hR0 C hr hRv
  subst hE
  subst hl
  have C : Cx K cX2_firstOf RX2 0 := C
  have hB : (0 : Nat) ≤ K.1.R.cells ∧ 0 ≤ K.1.R.slots := ⟨Nat.zero_le _, Nat.zero_le _⟩
  show G K (0, 0) 0 [(0, .int a0)] [] M
  unfold f_X2_firstOf at hf
  refine g_iload_n 0 C (ckD_get k_X2_firstOf_0 0 rfl) rfl rfl ?_
  refine g_iconst (v := (-1 : Int32)) C (ckD_get k_X2_firstOf_0 1 rfl) (by decide) ?_
  refine g_icmp_ne C (ckD_get k_X2_firstOf_0 2 rfl) (fun c_1 => ?_) (fun c_1 => ?_)
  · have hf := if_f hf c_1
    refine g_iload_n 0 C (ckD_get k_X2_firstOf_0 5 rfl) rfl rfl ?_
    refine g_iconst (v := (4 : Int32)) C (ckD_get k_X2_firstOf_0 6 rfl) (by decide) ?_
    refine g_ishr C (ckD_get k_X2_firstOf_0 7 rfl) ?_
    cases hf
    exact g_iret C (ckD_get k_X2_firstOf_0 8 rfl) hr hRv (Nat.le_refl _) (Nat.le_refl _)
  · have hf := if_t hf c_1
    refine g_iconst (v := (-1 : Int32)) C (ckD_get k_X2_firstOf_0 3 rfl) (by decide) ?_
    refine g_goto C (ckD_get k_X2_firstOf_0 4 rfl) ?_
    cases hf
    exact g_iret C (ckD_get k_X2_firstOf_0 8 rfl) hr hRv (Nat.le_refl _) (Nat.le_refl _)

set_option maxRecDepth 20000 in
theorem k_X2_secondOf_0 : ckD cX2_secondOf [(0, .iload_n 0, 1, 1, 0), (1, .iconst (-1), 1, 2, 0), (2, .if_icmp .ne 7, 3, 5, 9), (5, .iconst (-1), 1, 6, 0), (6, .goto 7, 3, 9, 13), (9, .iload_n 0, 1, 10, 0), (10, .bipush 15, 2, 12, 0), (12, .iand, 1, 13, 0), (13, .ireturn, 1, 14, 0)] = true := by decide +kernel
def f_X2_secondOf (a0 : Int32) : Int32 := if a0 = (-1 : Int32) then (-1 : Int32) else (a0 &&& (15 : Int32))
set_option maxRecDepth 100000 in
set_option maxHeartbeats 4000000 in
theorem t_X2_secondOf {E : Ev} {l : Launch} (htr : l.stackTraces = false) (a0 : Int32) (M : Mm) (r : Int32) (hf : f_X2_secondOf a0 = r) : CM E l 0 0 0 yX2_secondOf cX2_secondOf 1 (some .int) [.int a0] M (some (.int r)) M := by
  refine CM.of htr (by decide +kernel) (Nat.le_of_ble_eq_true rfl) ?_
  intro K hE hL hl hR0 C hr hRv
  subst hE
  subst hl
  have C : Cx K cX2_secondOf RX2 0 := C
  have hB : (0 : Nat) ≤ K.1.R.cells ∧ 0 ≤ K.1.R.slots := ⟨Nat.zero_le _, Nat.zero_le _⟩
  show G K (0, 0) 0 [(0, .int a0)] [] M
  unfold f_X2_secondOf at hf
  refine g_iload_n 0 C (ckD_get k_X2_secondOf_0 0 rfl) rfl rfl ?_
  refine g_iconst (v := (-1 : Int32)) C (ckD_get k_X2_secondOf_0 1 rfl) (by decide) ?_
  refine g_icmp_ne C (ckD_get k_X2_secondOf_0 2 rfl) (fun c_1 => ?_) (fun c_1 => ?_)
  · have hf := if_f hf c_1
    refine g_iload_n 0 C (ckD_get k_X2_secondOf_0 5 rfl) rfl rfl ?_
    refine g_bipush (v := (15 : Int32)) C (ckD_get k_X2_secondOf_0 6 rfl) (by decide) ?_
    refine g_iand C (ckD_get k_X2_secondOf_0 7 rfl) ?_
    cases hf
    exact g_iret C (ckD_get k_X2_secondOf_0 8 rfl) hr hRv (Nat.le_refl _) (Nat.le_refl _)
  · have hf := if_t hf c_1
    refine g_iconst (v := (-1 : Int32)) C (ckD_get k_X2_secondOf_0 3 rfl) (by decide) ?_
    refine g_goto C (ckD_get k_X2_secondOf_0 4 rfl) ?_
    cases hf
    exact g_iret C (ckD_get k_X2_secondOf_0 8 rfl) hr hRv (Nat.le_refl _) (Nat.le_refl _)

set_option maxRecDepth 20000 in
theorem k_J6_bitCount_0f7a4_0 : ckD cJ6_bitCount_0f7a4 [(0, .iload_n 0, 1, 1, 0), (1, .iload_n 0, 1, 2, 0), (2, .iconst 1, 1, 3, 0), (3, .iushr, 1, 4, 0), (4, .ldc_w 265, 3, 7, 0), (7, .iand, 1, 8, 0), (8, .isub, 1, 9, 0), (9, .istore_n 0, 1, 10, 0), (10, .iload_n 0, 1, 11, 0), (11, .ldc_w 266, 3, 14, 0), (14, .iand, 1, 15, 0), (15, .iload_n 0, 1, 16, 0), (16, .iconst 2, 1, 17, 0), (17, .iushr, 1, 18, 0), (18, .ldc_w 266, 3, 21, 0), (21, .iand, 1, 22, 0), (22, .iadd, 1, 23, 0), (23, .istore_n 0, 1, 24, 0), (24, .iload_n 0, 1, 25, 0), (25, .iload_n 0, 1, 26, 0), (26, .iconst 4, 1, 27, 0), (27, .iushr, 1, 28, 0), (28, .iadd, 1, 29, 0), (29, .ldc_w 267, 3, 32, 0), (32, .iand, 1, 33, 0), (33, .istore_n 0, 1, 34, 0), (34, .iload_n 0, 1, 35, 0), (35, .iload_n 0, 1, 36, 0), (36, .bipush 8, 2, 38, 0), (38, .iushr, 1, 39, 0), (39, .iadd, 1, 40, 0), (40, .istore_n 0, 1, 41, 0), (41, .iload_n 0, 1, 42, 0), (42, .iload_n 0, 1, 43, 0), (43, .bipush 16, 2, 45, 0), (45, .iushr, 1, 46, 0), (46, .iadd, 1, 47, 0), (47, .istore_n 0, 1, 48, 0), (48, .iload_n 0, 1, 49, 0), (49, .bipush 63, 2, 51, 0)] = true := by decide +kernel
set_option maxRecDepth 20000 in
theorem k_J6_bitCount_0f7a4_1 : ckD cJ6_bitCount_0f7a4 [(51, .iand, 1, 52, 0), (52, .ireturn, 1, 53, 0)] = true := by decide +kernel
def f_J6_bitCount_0f7a4 (a0 : Int32) : Int32 := lt1 (a0 - ((((a0).toUInt32 >>> (((1 : Int32)).toUInt32 &&& Int32.toUInt32 31)).toInt32) &&& (1431655765 : Int32))) fun x0_1 => lt1 ((x0_1 &&& (858993459 : Int32)) + ((((x0_1).toUInt32 >>> (((2 : Int32)).toUInt32 &&& Int32.toUInt32 31)).toInt32) &&& (858993459 : Int32))) fun x0_2 => lt1 ((x0_2 + (((x0_2).toUInt32 >>> (((4 : Int32)).toUInt32 &&& Int32.toUInt32 31)).toInt32)) &&& (252645135 : Int32)) fun x0_3 => lt1 (x0_3 + (((x0_3).toUInt32 >>> (((8 : Int32)).toUInt32 &&& Int32.toUInt32 31)).toInt32)) fun x0_4 => lt1 (x0_4 + (((x0_4).toUInt32 >>> (((16 : Int32)).toUInt32 &&& Int32.toUInt32 31)).toInt32)) fun x0_5 => (x0_5 &&& (63 : Int32))
set_option maxRecDepth 100000 in
set_option maxHeartbeats 4000000 in
theorem t_J6_bitCount_0f7a4 {E : Ev} {l : Launch} (htr : l.stackTraces = false) (a0 : Int32) (M : Mm) (r : Int32) (hf : f_J6_bitCount_0f7a4 a0 = r) : CM E l 0 0 0 yJ6_bitCount_0f7a4 cJ6_bitCount_0f7a4 1 (some .int) [.int a0] M (some (.int r)) M := by
  refine CM.of htr (by decide +kernel) (Nat.le_of_ble_eq_true rfl) ?_
  intro K hE hL hl hR0 C hr hRv
  subst hE
  subst hl
  have C : Cx K cJ6_bitCount_0f7a4 RJ6 0 := C
  have hB : (0 : Nat) ≤ K.1.R.cells ∧ 0 ≤ K.1.R.slots := ⟨Nat.zero_le _, Nat.zero_le _⟩
  have hL0 : 0 < K.2.2.1 := by rw [hL]; decide
  show G K (0, 0) 0 [(0, .int a0)] [] M
  unfold f_J6_bitCount_0f7a4 at hf
  refine g_iload_n 0 C (ckD_get k_J6_bitCount_0f7a4_0 0 rfl) rfl rfl ?_
  refine g_iload_n 0 C (ckD_get k_J6_bitCount_0f7a4_0 1 rfl) rfl rfl ?_
  refine g_iconst (v := (1 : Int32)) C (ckD_get k_J6_bitCount_0f7a4_0 2 rfl) (by decide) ?_
  refine g_iushr C (ckD_get k_J6_bitCount_0f7a4_0 3 rfl) ?_
  refine g_ldcw C (ckD_get k_J6_bitCount_0f7a4_0 4 rfl) q736 ?_
  refine g_iand C (ckD_get k_J6_bitCount_0f7a4_0 5 rfl) ?_
  refine g_isub C (ckD_get k_J6_bitCount_0f7a4_0 6 rfl) ?_
  obtain ⟨x0_1, ex0_1, hf⟩ := lt_e hf
  refine topI ex0_1 ?_
  refine g_istore_n (lv' := [(0, _)]) C (ckD_get k_J6_bitCount_0f7a4_0 7 rfl) rfl hL0 rfl ?_
  refine g_iload_n 0 C (ckD_get k_J6_bitCount_0f7a4_0 8 rfl) rfl rfl ?_
  refine g_ldcw C (ckD_get k_J6_bitCount_0f7a4_0 9 rfl) q737 ?_
  refine g_iand C (ckD_get k_J6_bitCount_0f7a4_0 10 rfl) ?_
  refine g_iload_n 0 C (ckD_get k_J6_bitCount_0f7a4_0 11 rfl) rfl rfl ?_
  refine g_iconst (v := (2 : Int32)) C (ckD_get k_J6_bitCount_0f7a4_0 12 rfl) (by decide) ?_
  refine g_iushr C (ckD_get k_J6_bitCount_0f7a4_0 13 rfl) ?_
  refine g_ldcw C (ckD_get k_J6_bitCount_0f7a4_0 14 rfl) q737 ?_
  refine g_iand C (ckD_get k_J6_bitCount_0f7a4_0 15 rfl) ?_
  refine g_iadd C (ckD_get k_J6_bitCount_0f7a4_0 16 rfl) ?_
  obtain ⟨x0_2, ex0_2, hf⟩ := lt_e hf
  refine topI ex0_2 ?_
  refine g_istore_n (lv' := [(0, _)]) C (ckD_get k_J6_bitCount_0f7a4_0 17 rfl) rfl hL0 rfl ?_
  refine g_iload_n 0 C (ckD_get k_J6_bitCount_0f7a4_0 18 rfl) rfl rfl ?_
  refine g_iload_n 0 C (ckD_get k_J6_bitCount_0f7a4_0 19 rfl) rfl rfl ?_
  refine g_iconst (v := (4 : Int32)) C (ckD_get k_J6_bitCount_0f7a4_0 20 rfl) (by decide) ?_
  refine g_iushr C (ckD_get k_J6_bitCount_0f7a4_0 21 rfl) ?_
  refine g_iadd C (ckD_get k_J6_bitCount_0f7a4_0 22 rfl) ?_
  refine g_ldcw C (ckD_get k_J6_bitCount_0f7a4_0 23 rfl) q738 ?_
  refine g_iand C (ckD_get k_J6_bitCount_0f7a4_0 24 rfl) ?_
  obtain ⟨x0_3, ex0_3, hf⟩ := lt_e hf
  refine topI ex0_3 ?_
  refine g_istore_n (lv' := [(0, _)]) C (ckD_get k_J6_bitCount_0f7a4_0 25 rfl) rfl hL0 rfl ?_
  refine g_iload_n 0 C (ckD_get k_J6_bitCount_0f7a4_0 26 rfl) rfl rfl ?_
  refine g_iload_n 0 C (ckD_get k_J6_bitCount_0f7a4_0 27 rfl) rfl rfl ?_
  refine g_bipush (v := (8 : Int32)) C (ckD_get k_J6_bitCount_0f7a4_0 28 rfl) (by decide) ?_
  refine g_iushr C (ckD_get k_J6_bitCount_0f7a4_0 29 rfl) ?_
  refine g_iadd C (ckD_get k_J6_bitCount_0f7a4_0 30 rfl) ?_
  obtain ⟨x0_4, ex0_4, hf⟩ := lt_e hf
  refine topI ex0_4 ?_
  refine g_istore_n (lv' := [(0, _)]) C (ckD_get k_J6_bitCount_0f7a4_0 31 rfl) rfl hL0 rfl ?_
  refine g_iload_n 0 C (ckD_get k_J6_bitCount_0f7a4_0 32 rfl) rfl rfl ?_
  refine g_iload_n 0 C (ckD_get k_J6_bitCount_0f7a4_0 33 rfl) rfl rfl ?_
  refine g_bipush (v := (16 : Int32)) C (ckD_get k_J6_bitCount_0f7a4_0 34 rfl) (by decide) ?_
  refine g_iushr C (ckD_get k_J6_bitCount_0f7a4_0 35 rfl) ?_
  refine g_iadd C (ckD_get k_J6_bitCount_0f7a4_0 36 rfl) ?_
  obtain ⟨x0_5, ex0_5, hf⟩ := lt_e hf
  refine topI ex0_5 ?_
  refine g_istore_n (lv' := [(0, _)]) C (ckD_get k_J6_bitCount_0f7a4_0 37 rfl) rfl hL0 rfl ?_
  refine g_iload_n 0 C (ckD_get k_J6_bitCount_0f7a4_0 38 rfl) rfl rfl ?_
  refine g_bipush (v := (63 : Int32)) C (ckD_get k_J6_bitCount_0f7a4_0 39 rfl) (by decide) ?_
  refine g_iand C (ckD_get k_J6_bitCount_0f7a4_1 0 rfl) ?_
  cases hf
  exact g_iret C (ckD_get k_J6_bitCount_0f7a4_1 1 rfl) hr hRv (Nat.le_refl _) (Nat.le_refl _)

set_option maxRecDepth 20000 in
theorem k_X2_span_0 : ckD cX2_span [(0, .ldc 82, 2, 2, 0), (2, .istore 4, 2, 4, 0), (4, .iconst 0, 1, 5, 0), (5, .istore 5, 2, 7, 0), (7, .iconst 0, 1, 8, 0), (8, .istore 6, 2, 10, 0), (10, .iload 6, 2, 12, 0), (12, .aload_n 0, 1, 13, 0), (13, .getfield 33, 3, 16, 0), (16, .if_icmp .ge 50, 3, 19, 66), (19, .iload_n 1, 1, 20, 0), (20, .iload 6, 2, 22, 0), (22, .invokestatic 47, 3, 25, 0), (25, .iconst 1, 1, 26, 0), (26, .if_icmp .ne 34, 3, 29, 60), (29, .iconst 2, 1, 30, 0), (30, .aload_n 2, 1, 31, 0), (31, .iload 6, 2, 33, 0), (33, .iaload, 1, 34, 0), (34, .imul, 1, 35, 0), (35, .aload_n 3, 1, 36, 0), (36, .iload 6, 2, 38, 0), (38, .iaload, 1, 39, 0), (39, .iadd, 1, 40, 0), (40, .istore 7, 2, 42, 0), (42, .iload 4, 2, 44, 0), (44, .iload 7, 2, 46, 0), (46, .invokestatic 83, 3, 49, 0), (49, .istore 4, 2, 51, 0), (51, .iload 5, 2, 53, 0), (53, .iload 7, 2, 55, 0), (55, .invokestatic 57, 3, 58, 0), (58, .istore 5, 2, 60, 0), (60, .iinc 6 1, 3, 63, 0), (63, .goto (-53), 3, 66, 10), (66, .iload 5, 2, 68, 0), (68, .iload 4, 2, 70, 0), (70, .isub, 1, 71, 0), (71, .ireturn, 1, 72, 0)] = true := by decide +kernel
def f_X2_span_A10 (x4_4 : Int32) (x5_5 : Int32) : Option Int32 := some (x5_5 - x4_4)
def f_X2_span_J60 (x6_3 : Int32) (p4_7 : Int32) (p5_8 : Int32) : Option ((Int32 × Int32 × Int32) ⊕ (Int32 × Int32)) := lt1 (x6_3 + 1) fun x6_9 => some (.inl (p4_7, p5_8, x6_9))
def f_X2_span_L10 (k0 : Nat) (a1 : Int32) (k2 : Nat) (k3 : Nat) (M : Mm) (x4_1 : Int32) (x5_2 : Int32) (x6_3 : Int32) : Option ((Int32 × Int32 × Int32) ⊕ (Int32 × Int32)) := if (M.1 k0 6) ≤ x6_3 then some (.inr (x4_1, x5_2)) else if (f_X9_bitOf a1 x6_3) = (1 : Int32) then rdI 12 M k2 x6_3 fun v_11 => rdI 12 M k3 x6_3 fun v_13 => lt1 (((2 : Int32) * v_11) + v_13) fun x7_15 => lt1 (jmin x4_1 x7_15) fun x4_16 => lt1 (jmax x5_2 x7_15) fun x5_17 => f_X2_span_J60 x6_3 x4_16 x5_17 else f_X2_span_J60 x6_3 x4_1 x5_2
def f_X2_span (k0 : Nat) (a1 : Int32) (k2 : Nat) (k3 : Nat) (M : Mm) : Option Int32 := (loop (fun v => f_X2_span_L10 k0 a1 k2 k3 M v.1 v.2.1 v.2.2) FU ((2147483647 : Int32), (0 : Int32), (0 : Int32))).bind fun z => f_X2_span_A10 z.1 z.2
set_option maxRecDepth 100000 in
set_option maxHeartbeats 4000000 in
theorem t_X2_span {E : Ev} {l : Launch} (htr : l.stackTraces = false) (k0 : Nat) (hk0 : isGr k0) (a1 : Int32) (k2 : Nat) (hk2 : LT[k2]? = some (0, 12, [])) (k3 : Nat) (hk3 : LT[k3]? = some (0, 12, [])) (M : Mm) (r : Int32) (hf : f_X2_span k0 a1 k2 k3 M = some r) : CM E l 1 0 0 yX2_span cX2_span 8 (some .int) [.ref (E.1 + k0), .int a1, .ref (E.1 + k2), .ref (E.1 + k3)] M (some (.int r)) M := by
  refine CM.of htr (by decide +kernel) (Nat.le_of_ble_eq_true rfl) ?_
  intro K hE hL hl hR0 C hr hRv
  subst hE
  subst hl
  have C : Cx K cX2_span RX2 1 := C
  have hB : (0 : Nat) ≤ K.1.R.cells ∧ 0 ≤ K.1.R.slots := ⟨Nat.zero_le _, Nat.zero_le _⟩
  have hL4 : 4 < K.2.2.1 := by rw [hL]; decide
  have hL5 : 5 < K.2.2.1 := by rw [hL]; decide
  have hL6 : 6 < K.2.2.1 := by rw [hL]; decide
  have hL7 : 7 < K.2.2.1 := by rw [hL]; decide
  show G K (0, 0) 0 [(0, .ref (K.2.1.1 + k0)), (1, .int a1), (2, .ref (K.2.1.1 + k2)), (3, .ref (K.2.1.1 + k3))] [] M
  unfold f_X2_span at hf
  refine g_ldc C (ckD_get k_X2_span_0 0 rfl) q856 ?_
  refine g_istore (lv' := [(4, _), (0, _), (1, _), (2, _), (3, _)]) C (ckD_get k_X2_span_0 1 rfl) hL4 rfl ?_
  refine g_iconst (v := (0 : Int32)) C (ckD_get k_X2_span_0 2 rfl) (by decide) ?_
  refine g_istore (lv' := [(5, _), (4, _), (0, _), (1, _), (2, _), (3, _)]) C (ckD_get k_X2_span_0 3 rfl) hL5 rfl ?_
  refine g_iconst (v := (0 : Int32)) C (ckD_get k_X2_span_0 4 rfl) (by decide) ?_
  refine g_istore (lv' := [(6, _), (5, _), (4, _), (0, _), (1, _), (2, _), (3, _)]) C (ckD_get k_X2_span_0 5 rfl) hL6 rfl ?_
  refine G.sub [3, 4, 5, 6, 2, 1, 0] rfl ?_
  obtain ⟨xx_10, hx_10, hf⟩ := bd_e hf
  obtain ⟨x4_4, x5_5⟩ := xx_10
  have hE_10 : G K (0, 0) 66 [(4, .int x4_4), (5, .int x5_5)] [] M := by
    have hf : f_X2_span_A10 x4_4 x5_5 = some r := hf
    unfold f_X2_span_A10 at hf
    refine g_iload 1 C (ckD_get k_X2_span_0 35 rfl) rfl ?_
    refine g_iload 0 C (ckD_get k_X2_span_0 36 rfl) rfl ?_
    refine g_isub C (ckD_get k_X2_span_0 37 rfl) ?_
    cases hf
    exact g_iret C (ckD_get k_X2_span_0 38 rfl) hr hRv (Nat.le_refl _) (Nat.le_refl _)
  refine loop_e (x := (x4_4, x5_5)) (P := fun (v : (Int32 × Int32 × Int32)) => G K (0, 0) 10 [(0, .ref (K.2.1.1 + k0)), (1, .int a1), (2, .ref (K.2.1.1 + k2)), (3, .ref (K.2.1.1 + k3)), (4, .int v.1), (5, .int v.2.1), (6, .int v.2.2)] [] M) ?_ FU _ hx_10
  intro v rr_10 hf hn_10 hz_10
  obtain ⟨x4_1, x5_2, x6_3⟩ := v
  have hf : f_X2_span_L10 k0 a1 k2 k3 M x4_1 x5_2 x6_3 = some rr_10 := hf
  show G K (0, 0) 10 [(0, .ref (K.2.1.1 + k0)), (1, .int a1), (2, .ref (K.2.1.1 + k2)), (3, .ref (K.2.1.1 + k3)), (4, .int x4_1), (5, .int x5_2), (6, .int x6_3)] [] M
  unfold f_X2_span_L10 at hf
  refine g_iload 6 C (ckD_get k_X2_span_0 6 rfl) rfl ?_
  refine g_aload_n 0 C (ckD_get k_X2_span_0 7 rfl) rfl rfl ?_
  refine g_getI C (ckD_get k_X2_span_0 8 rfl) fk_X2_33 (T_Gr hk0) rfl ?_
  refine g_icmp_ge C (ckD_get k_X2_span_0 9 rfl) (fun c_6 => ?_) (fun c_6 => ?_)
  · have hf := if_t hf c_6
    refine G.sub [4, 5] rfl ?_
    cases hf
    cases hz_10 _ rfl
    exact hE_10
  · have hf := if_f hf c_6
    refine g_iload_n 1 C (ckD_get k_X2_span_0 10 rfl) rfl rfl ?_
    refine g_iload 6 C (ckD_get k_X2_span_0 11 rfl) rfl ?_
    refine n_cN [.int a1, .int x6_3] [] C (ckD_get k_X2_span_0 12 rfl) nk_X2_47 (t_X9_bitOf C.tr _ _ _ _ rfl) rfl rfl (Nat.le_of_ble_eq_true rfl) (by decide) hB rfl ?_
    refine g_iconst (v := (1 : Int32)) C (ckD_get k_X2_span_0 13 rfl) (by decide) ?_
    have hJ_60 : ∀ (p4_7 : Int32) (p5_8 : Int32), f_X2_span_J60 x6_3 p4_7 p5_8 = some rr_10 → G K (0, 0) 60 [(0, .ref (K.2.1.1 + k0)), (1, .int a1), (2, .ref (K.2.1.1 + k2)), (3, .ref (K.2.1.1 + k3)), (4, .int p4_7), (5, .int p5_8), (6, .int x6_3)] [] M := by
      intro p4_7 p5_8 hf
      unfold f_X2_span_J60 at hf
      obtain ⟨x6_9, ex6_9, hf⟩ := lt_e hf
      refine g_iinc (lv' := [(6, _), (0, _), (1, _), (2, _), (3, _), (4, _), (5, _)]) 6 C (ckD_get k_X2_span_0 33 rfl) rfl ex6_9 hL6 rfl ?_
      refine g_goto C (ckD_get k_X2_span_0 34 rfl) ?_
      refine G.sub [1, 2, 3, 4, 5, 6, 0] rfl ?_
      cases hf
      exact hn_10 _ rfl
    refine g_icmp_ne C (ckD_get k_X2_span_0 14 rfl) (fun c_10 => ?_) (fun c_10 => ?_)
    · have hf := if_f hf c_10
      exact hJ_60 _ _ hf
    · have hf := if_t hf c_10
      refine g_iconst (v := (2 : Int32)) C (ckD_get k_X2_span_0 15 rfl) (by decide) ?_
      refine g_aload_n 2 C (ckD_get k_X2_span_0 16 rfl) rfl rfl ?_
      refine g_iload 6 C (ckD_get k_X2_span_0 17 rfl) rfl ?_
      obtain ⟨v_11, hi_12, ev_11, hf⟩ := rdI_e hf
      refine n_iald C (ckD_get k_X2_span_0 18 rfl) hk2 hi_12 ev_11 ?_
      refine g_imul C (ckD_get k_X2_span_0 19 rfl) ?_
      refine g_aload_n 3 C (ckD_get k_X2_span_0 20 rfl) rfl rfl ?_
      refine g_iload 6 C (ckD_get k_X2_span_0 21 rfl) rfl ?_
      obtain ⟨v_13, hi_14, ev_13, hf⟩ := rdI_e hf
      refine n_iald C (ckD_get k_X2_span_0 22 rfl) hk3 hi_14 ev_13 ?_
      refine g_iadd C (ckD_get k_X2_span_0 23 rfl) ?_
      obtain ⟨x7_15, ex7_15, hf⟩ := lt_e hf
      refine topI ex7_15 ?_
      refine g_istore (lv' := [(7, _), (0, _), (1, _), (2, _), (3, _), (4, _), (5, _), (6, _)]) C (ckD_get k_X2_span_0 24 rfl) hL7 rfl ?_
      refine g_iload 5 C (ckD_get k_X2_span_0 25 rfl) rfl ?_
      refine g_iload 0 C (ckD_get k_X2_span_0 26 rfl) rfl ?_
      refine n_mmin C (ckD_get k_X2_span_0 27 rfl) mk_X2_83 (by decide) (Nat.le_of_ble_eq_true rfl) hB ?_
      obtain ⟨x4_16, ex4_16, hf⟩ := lt_e hf
      refine topI ex4_16 ?_
      refine g_istore (lv' := [(4, _), (7, _), (0, _), (1, _), (2, _), (3, _), (5, _), (6, _)]) C (ckD_get k_X2_span_0 28 rfl) hL4 rfl ?_
      refine g_iload 6 C (ckD_get k_X2_span_0 29 rfl) rfl ?_
      refine g_iload 1 C (ckD_get k_X2_span_0 30 rfl) rfl ?_
      refine n_mmax C (ckD_get k_X2_span_0 31 rfl) mk_X2_57 (by decide) (Nat.le_of_ble_eq_true rfl) hB ?_
      obtain ⟨x5_17, ex5_17, hf⟩ := lt_e hf
      refine topI ex5_17 ?_
      refine g_istore (lv' := [(5, _), (4, _), (7, _), (0, _), (1, _), (2, _), (3, _), (6, _)]) C (ckD_get k_X2_span_0 32 rfl) hL5 rfl ?_
      refine G.sub [3, 4, 5, 6, 1, 0, 7] rfl ?_
      exact hJ_60 _ _ hf

set_option maxRecDepth 20000 in
theorem k_X2_boxAround_0 : ckD cX2_boxAround [(0, .iload_n 1, 1, 1, 0), (1, .invokestatic 72, 3, 4, 0), (4, .iconst 2, 1, 5, 0), (5, .if_icmp .ge 7, 3, 8, 12), (8, .iconst 0, 1, 9, 0), (9, .goto 30, 3, 12, 39), (12, .aload_n 0, 1, 13, 0), (13, .iload_n 1, 1, 14, 0), (14, .aload_n 0, 1, 15, 0), (15, .getfield 9, 3, 18, 0), (18, .aload_n 0, 1, 19, 0), (19, .getfield 18, 3, 22, 0), (22, .invokevirtual 78, 3, 25, 0), (25, .aload_n 0, 1, 26, 0), (26, .iload_n 1, 1, 27, 0), (27, .aload_n 0, 1, 28, 0), (28, .getfield 15, 3, 31, 0), (31, .aload_n 0, 1, 32, 0), (32, .getfield 21, 3, 35, 0), (35, .invokevirtual 78, 3, 38, 0), (38, .iadd, 1, 39, 0), (39, .ireturn, 1, 40, 0)] = true := by decide +kernel
def f_X2_boxAround (k0 : Nat) (a1 : Int32) (M : Mm) : Option Int32 := if (2 : Int32) ≤ (f_J6_bitCount_0f7a4 a1) then (f_X2_span k0 a1 (k0 + 1) (k0 + 3) M).bind fun r_3 => (f_X2_span k0 a1 (k0 + 2) (k0 + 4) M).bind fun r_5 => some (r_3 + r_5) else some (0 : Int32)
set_option maxRecDepth 100000 in
set_option maxHeartbeats 4000000 in
theorem t_X2_boxAround {E : Ev} {l : Launch} (htr : l.stackTraces = false) (k0 : Nat) (hk0 : isGr k0) (a1 : Int32) (M : Mm) (r : Int32) (hf : f_X2_boxAround k0 a1 M = some r) : CM E l 2 0 0 yX2_boxAround cX2_boxAround 2 (some .int) [.ref (E.1 + k0), .int a1] M (some (.int r)) M := by
  refine CM.of htr (by decide +kernel) (Nat.le_of_ble_eq_true rfl) ?_
  intro K hE hL hl hR0 C hr hRv
  subst hE
  subst hl
  have C : Cx K cX2_boxAround RX2 2 := C
  have hB : (0 : Nat) ≤ K.1.R.cells ∧ 0 ≤ K.1.R.slots := ⟨Nat.zero_le _, Nat.zero_le _⟩
  show G K (0, 0) 0 [(0, .ref (K.2.1.1 + k0)), (1, .int a1)] [] M
  unfold f_X2_boxAround at hf
  refine g_iload_n 1 C (ckD_get k_X2_boxAround_0 0 rfl) rfl rfl ?_
  refine n_cS [.int a1] [] C (ckD_get k_X2_boxAround_0 1 rfl) sk_X2_72 (t_J6_bitCount_0f7a4 C.tr _ _ _ rfl) rfl rfl (Nat.le_of_ble_eq_true rfl) (by decide) hB rfl ?_
  refine g_iconst (v := (2 : Int32)) C (ckD_get k_X2_boxAround_0 2 rfl) (by decide) ?_
  refine g_icmp_ge C (ckD_get k_X2_boxAround_0 3 rfl) (fun c_1 => ?_) (fun c_1 => ?_)
  · have hf := if_t hf c_1
    refine g_aload_n 0 C (ckD_get k_X2_boxAround_0 6 rfl) rfl rfl ?_
    refine g_iload_n 1 C (ckD_get k_X2_boxAround_0 7 rfl) rfl rfl ?_
    refine g_aload_n 0 C (ckD_get k_X2_boxAround_0 8 rfl) rfl rfl ?_
    refine g_getR C (ckD_get k_X2_boxAround_0 9 rfl) fk_X2_9 (T_Gr hk0) rfl ?_
    refine g_aload_n 0 C (ckD_get k_X2_boxAround_0 10 rfl) rfl rfl ?_
    refine g_getR C (ckD_get k_X2_boxAround_0 11 rfl) fk_X2_18 (T_Gr hk0) rfl ?_
    obtain ⟨r_3, hr_2, hf⟩ := bd_e hf
    refine n_cV [.int a1, .ref (K.2.1.1 + (k0 + 1)), .ref (K.2.1.1 + (k0 + 3))] [] C (ckD_get k_X2_boxAround_0 12 rfl) vk_X2_78 (t_X2_span C.tr _ hk0 _ _ (T_Gr1 hk0) _ (T_Gr3 hk0) _ _ hr_2) (T_Gr hk0) rfl rfl (Nat.le_of_ble_eq_true rfl) (by decide) hB rfl ?_
    refine g_aload_n 0 C (ckD_get k_X2_boxAround_0 13 rfl) rfl rfl ?_
    refine g_iload_n 1 C (ckD_get k_X2_boxAround_0 14 rfl) rfl rfl ?_
    refine g_aload_n 0 C (ckD_get k_X2_boxAround_0 15 rfl) rfl rfl ?_
    refine g_getR C (ckD_get k_X2_boxAround_0 16 rfl) fk_X2_15 (T_Gr hk0) rfl ?_
    refine g_aload_n 0 C (ckD_get k_X2_boxAround_0 17 rfl) rfl rfl ?_
    refine g_getR C (ckD_get k_X2_boxAround_0 18 rfl) fk_X2_21 (T_Gr hk0) rfl ?_
    obtain ⟨r_5, hr_4, hf⟩ := bd_e hf
    refine n_cV [.int a1, .ref (K.2.1.1 + (k0 + 2)), .ref (K.2.1.1 + (k0 + 4))] [.int r_3] C (ckD_get k_X2_boxAround_0 19 rfl) vk_X2_78 (t_X2_span C.tr _ hk0 _ _ (T_Gr2 hk0) _ (T_Gr4 hk0) _ _ hr_4) (T_Gr hk0) rfl rfl (Nat.le_of_ble_eq_true rfl) (by decide) hB rfl ?_
    refine g_iadd C (ckD_get k_X2_boxAround_0 20 rfl) ?_
    cases hf
    exact g_iret C (ckD_get k_X2_boxAround_0 21 rfl) hr hRv (Nat.le_refl _) (Nat.le_refl _)
  · have hf := if_f hf c_1
    refine g_iconst (v := (0 : Int32)) C (ckD_get k_X2_boxAround_0 4 rfl) (by decide) ?_
    refine g_goto C (ckD_get k_X2_boxAround_0 5 rfl) ?_
    cases hf
    exact g_iret C (ckD_get k_X2_boxAround_0 21 rfl) hr hRv (Nat.le_refl _) (Nat.le_refl _)

set_option maxRecDepth 20000 in
theorem k_X2_partAt_0 : ckD cX2_partAt [(0, .iconst 0, 1, 1, 0), (1, .istore 5, 2, 3, 0), (3, .iconst 0, 1, 4, 0), (4, .istore 6, 2, 6, 0), (6, .iload 6, 2, 8, 0), (8, .aload_n 0, 1, 9, 0), (9, .getfield 33, 3, 12, 0), (12, .if_icmp .ge 56, 3, 15, 68), (15, .iload_n 1, 1, 16, 0), (16, .iload 6, 2, 18, 0), (18, .invokestatic 47, 3, 21, 0), (21, .iconst 1, 1, 22, 0), (22, .if_icmp .ne 40, 3, 25, 62), (25, .aload_n 2, 1, 26, 0), (26, .iload 6, 2, 28, 0), (28, .iaload, 1, 29, 0), (29, .aload_n 3, 1, 30, 0), (30, .iload 6, 2, 32, 0), (32, .iaload, 1, 33, 0), (33, .iadd, 1, 34, 0), (34, .iload 4, 2, 36, 0), (36, .if_icmp .gt 15, 3, 39, 51), (39, .iload 5, 2, 41, 0), (41, .iconst 1, 1, 42, 0), (42, .iload 6, 2, 44, 0), (44, .ishl, 1, 45, 0), (45, .ior, 1, 46, 0), (46, .istore 5, 2, 48, 0), (48, .goto 14, 3, 51, 62), (51, .aload_n 2, 1, 52, 0), (52, .iload 6, 2, 54, 0), (54, .iaload, 1, 55, 0), (55, .iload 4, 2, 57, 0), (57, .if_icmp .ge 5, 3, 60, 62), (60, .iconst 0, 1, 61, 0), (61, .ireturn, 1, 62, 0), (62, .iinc 6 1, 3, 65, 0), (65, .goto (-59), 3, 68, 6), (68, .iload 5, 2, 70, 0), (70, .iload_n 1, 1, 71, 0)] = true := by decide +kernel
set_option maxRecDepth 20000 in
theorem k_X2_partAt_1 : ckD cX2_partAt [(71, .if_icmp .ne 7, 3, 74, 78), (74, .iconst 0, 1, 75, 0), (75, .goto 5, 3, 78, 80), (78, .iload 5, 2, 80, 0), (80, .ireturn, 1, 81, 0)] = true := by decide +kernel
def f_X2_partAt_A6 (a1 : Int32) (x5_3 : Int32) : Option Int32 := if x5_3 = a1 then some (0 : Int32) else some x5_3
def f_X2_partAt_J62 (x6_2 : Int32) (p5_6 : Int32) : Option ((Int32 × Int32) ⊕ (Int32 ⊕ Int32)) := lt1 (x6_2 + 1) fun x6_7 => some (.inl (p5_6, x6_7))
def f_X2_partAt_L6 (k0 : Nat) (a1 : Int32) (k2 : Nat) (k3 : Nat) (a4 : Int32) (M : Mm) (x5_1 : Int32) (x6_2 : Int32) : Option ((Int32 × Int32) ⊕ (Int32 ⊕ Int32)) := if (M.1 k0 6) ≤ x6_2 then some (.inr (.inl x5_1)) else if (f_X9_bitOf a1 x6_2) = (1 : Int32) then rdI 12 M k2 x6_2 fun v_9 => rdI 12 M k3 x6_2 fun v_11 => if a4 < (v_9 + v_11) then rdI 12 M k2 x6_2 fun v_14 => if a4 ≤ v_14 then f_X2_partAt_J62 x6_2 x5_1 else some (.inr (.inr (0 : Int32))) else lt1 (x5_1 ||| ((1 : Int32) <<< (x6_2 &&& 31))) fun x5_17 => f_X2_partAt_J62 x6_2 x5_17 else f_X2_partAt_J62 x6_2 x5_1
def f_X2_partAt (k0 : Nat) (a1 : Int32) (k2 : Nat) (k3 : Nat) (a4 : Int32) (M : Mm) : Option Int32 := (loop (fun v => f_X2_partAt_L6 k0 a1 k2 k3 a4 M v.1 v.2) FU ((0 : Int32), (0 : Int32))).bind fun x => Sum.elim (fun z => f_X2_partAt_A6 a1 z) (fun o => some o) x
set_option maxRecDepth 100000 in
set_option maxHeartbeats 4000000 in
theorem t_X2_partAt {E : Ev} {l : Launch} (htr : l.stackTraces = false) (k0 : Nat) (hk0 : isGr k0) (a1 : Int32) (k2 : Nat) (hk2 : LT[k2]? = some (0, 12, [])) (k3 : Nat) (hk3 : LT[k3]? = some (0, 12, [])) (a4 : Int32) (M : Mm) (r : Int32) (hf : f_X2_partAt k0 a1 k2 k3 a4 M = some r) : CM E l 1 0 0 yX2_partAt cX2_partAt 7 (some .int) [.ref (E.1 + k0), .int a1, .ref (E.1 + k2), .ref (E.1 + k3), .int a4] M (some (.int r)) M := by
  refine CM.of htr (by decide +kernel) (Nat.le_of_ble_eq_true rfl) ?_
  intro K hE hL hl hR0 C hr hRv
  subst hE
  subst hl
  have C : Cx K cX2_partAt RX2 1 := C
  have hB : (0 : Nat) ≤ K.1.R.cells ∧ 0 ≤ K.1.R.slots := ⟨Nat.zero_le _, Nat.zero_le _⟩
  have hL5 : 5 < K.2.2.1 := by rw [hL]; decide
  have hL6 : 6 < K.2.2.1 := by rw [hL]; decide
  show G K (0, 0) 0 [(0, .ref (K.2.1.1 + k0)), (1, .int a1), (2, .ref (K.2.1.1 + k2)), (3, .ref (K.2.1.1 + k3)), (4, .int a4)] [] M
  unfold f_X2_partAt at hf
  refine g_iconst (v := (0 : Int32)) C (ckD_get k_X2_partAt_0 0 rfl) (by decide) ?_
  refine g_istore (lv' := [(5, _), (0, _), (1, _), (2, _), (3, _), (4, _)]) C (ckD_get k_X2_partAt_0 1 rfl) hL5 rfl ?_
  refine g_iconst (v := (0 : Int32)) C (ckD_get k_X2_partAt_0 2 rfl) (by decide) ?_
  refine g_istore (lv' := [(6, _), (5, _), (0, _), (1, _), (2, _), (3, _), (4, _)]) C (ckD_get k_X2_partAt_0 3 rfl) hL6 rfl ?_
  refine G.sub [2, 3, 4, 5, 6, 1, 0] rfl ?_
  obtain ⟨xx_6, hx_6, hf⟩ := bd_e hf
  have hE_6 : ∀ (x5_3 : Int32), xx_6 = .inl x5_3 → G K (0, 0) 68 [(1, .int a1), (5, .int x5_3)] [] M := by
    intro x5_3 ex
    subst ex
    have hf : f_X2_partAt_A6 a1 x5_3 = some r := hf
    unfold f_X2_partAt_A6 at hf
    refine g_iload 1 C (ckD_get k_X2_partAt_0 38 rfl) rfl ?_
    refine g_iload_n 0 C (ckD_get k_X2_partAt_0 39 rfl) rfl rfl ?_
    refine g_icmp_ne C (ckD_get k_X2_partAt_1 0 rfl) (fun c_4 => ?_) (fun c_4 => ?_)
    · have hf := if_f hf c_4
      refine g_iload 1 C (ckD_get k_X2_partAt_1 3 rfl) rfl ?_
      cases hf
      exact g_iret C (ckD_get k_X2_partAt_1 4 rfl) hr hRv (Nat.le_refl _) (Nat.le_refl _)
    · have hf := if_t hf c_4
      refine g_iconst (v := (0 : Int32)) C (ckD_get k_X2_partAt_1 1 rfl) (by decide) ?_
      refine g_goto C (ckD_get k_X2_partAt_1 2 rfl) ?_
      cases hf
      exact g_iret C (ckD_get k_X2_partAt_1 4 rfl) hr hRv (Nat.le_refl _) (Nat.le_refl _)
  have hO_6 : ∀ o, xx_6 = .inr o → o = r := by
    intro o eo
    subst eo
    have hf : some o = some r := hf
    cases hf
    rfl
  refine loop_e (x := xx_6) (P := fun (v : (Int32 × Int32)) => G K (0, 0) 6 [(0, .ref (K.2.1.1 + k0)), (1, .int a1), (2, .ref (K.2.1.1 + k2)), (3, .ref (K.2.1.1 + k3)), (4, .int a4), (5, .int v.1), (6, .int v.2)] [] M) ?_ FU _ hx_6
  intro v rr_6 hf hn_6 hz_6
  obtain ⟨x5_1, x6_2⟩ := v
  have hf : f_X2_partAt_L6 k0 a1 k2 k3 a4 M x5_1 x6_2 = some rr_6 := hf
  show G K (0, 0) 6 [(0, .ref (K.2.1.1 + k0)), (1, .int a1), (2, .ref (K.2.1.1 + k2)), (3, .ref (K.2.1.1 + k3)), (4, .int a4), (5, .int x5_1), (6, .int x6_2)] [] M
  unfold f_X2_partAt_L6 at hf
  refine g_iload 6 C (ckD_get k_X2_partAt_0 4 rfl) rfl ?_
  refine g_aload_n 0 C (ckD_get k_X2_partAt_0 5 rfl) rfl rfl ?_
  refine g_getI C (ckD_get k_X2_partAt_0 6 rfl) fk_X2_33 (T_Gr hk0) rfl ?_
  refine g_icmp_ge C (ckD_get k_X2_partAt_0 7 rfl) (fun c_5 => ?_) (fun c_5 => ?_)
  · have hf := if_t hf c_5
    refine G.sub [1, 5] rfl ?_
    cases hf
    exact hE_6 _ (hz_6 _ rfl).symm
  · have hf := if_f hf c_5
    refine g_iload_n 1 C (ckD_get k_X2_partAt_0 8 rfl) rfl rfl ?_
    refine g_iload 6 C (ckD_get k_X2_partAt_0 9 rfl) rfl ?_
    refine n_cN [.int a1, .int x6_2] [] C (ckD_get k_X2_partAt_0 10 rfl) nk_X2_47 (t_X9_bitOf C.tr _ _ _ _ rfl) rfl rfl (Nat.le_of_ble_eq_true rfl) (by decide) hB rfl ?_
    refine g_iconst (v := (1 : Int32)) C (ckD_get k_X2_partAt_0 11 rfl) (by decide) ?_
    have hJ_62 : ∀ (p5_6 : Int32), f_X2_partAt_J62 x6_2 p5_6 = some rr_6 → G K (0, 0) 62 [(0, .ref (K.2.1.1 + k0)), (1, .int a1), (2, .ref (K.2.1.1 + k2)), (3, .ref (K.2.1.1 + k3)), (4, .int a4), (5, .int p5_6), (6, .int x6_2)] [] M := by
      intro p5_6 hf
      unfold f_X2_partAt_J62 at hf
      obtain ⟨x6_7, ex6_7, hf⟩ := lt_e hf
      refine g_iinc (lv' := [(6, _), (0, _), (1, _), (2, _), (3, _), (4, _), (5, _)]) 6 C (ckD_get k_X2_partAt_0 36 rfl) rfl ex6_7 hL6 rfl ?_
      refine g_goto C (ckD_get k_X2_partAt_0 37 rfl) ?_
      refine G.sub [1, 2, 3, 4, 5, 6, 0] rfl ?_
      cases hf
      exact hn_6 _ rfl
    refine g_icmp_ne C (ckD_get k_X2_partAt_0 12 rfl) (fun c_8 => ?_) (fun c_8 => ?_)
    · have hf := if_f hf c_8
      exact hJ_62 _ hf
    · have hf := if_t hf c_8
      refine g_aload_n 2 C (ckD_get k_X2_partAt_0 13 rfl) rfl rfl ?_
      refine g_iload 6 C (ckD_get k_X2_partAt_0 14 rfl) rfl ?_
      obtain ⟨v_9, hi_10, ev_9, hf⟩ := rdI_e hf
      refine n_iald C (ckD_get k_X2_partAt_0 15 rfl) hk2 hi_10 ev_9 ?_
      refine g_aload_n 3 C (ckD_get k_X2_partAt_0 16 rfl) rfl rfl ?_
      refine g_iload 6 C (ckD_get k_X2_partAt_0 17 rfl) rfl ?_
      obtain ⟨v_11, hi_12, ev_11, hf⟩ := rdI_e hf
      refine n_iald C (ckD_get k_X2_partAt_0 18 rfl) hk3 hi_12 ev_11 ?_
      refine g_iadd C (ckD_get k_X2_partAt_0 19 rfl) ?_
      refine g_iload 4 C (ckD_get k_X2_partAt_0 20 rfl) rfl ?_
      refine g_icmp_gt C (ckD_get k_X2_partAt_0 21 rfl) (fun c_13 => ?_) (fun c_13 => ?_)
      · have hf := if_t hf c_13
        refine g_aload_n 2 C (ckD_get k_X2_partAt_0 29 rfl) rfl rfl ?_
        refine g_iload 6 C (ckD_get k_X2_partAt_0 30 rfl) rfl ?_
        obtain ⟨v_14, hi_15, ev_14, hf⟩ := rdI_e hf
        refine n_iald C (ckD_get k_X2_partAt_0 31 rfl) hk2 hi_15 ev_14 ?_
        refine g_iload 4 C (ckD_get k_X2_partAt_0 32 rfl) rfl ?_
        refine g_icmp_ge C (ckD_get k_X2_partAt_0 33 rfl) (fun c_16 => ?_) (fun c_16 => ?_)
        · have hf := if_t hf c_16
          exact hJ_62 _ hf
        · have hf := if_f hf c_16
          refine g_iconst (v := (0 : Int32)) C (ckD_get k_X2_partAt_0 34 rfl) (by decide) ?_
          cases hf
          cases hO_6 _ (hz_6 _ rfl).symm
          exact g_iret C (ckD_get k_X2_partAt_0 35 rfl) hr hRv (Nat.le_refl _) (Nat.le_refl _)
      · have hf := if_f hf c_13
        refine g_iload 5 C (ckD_get k_X2_partAt_0 22 rfl) rfl ?_
        refine g_iconst (v := (1 : Int32)) C (ckD_get k_X2_partAt_0 23 rfl) (by decide) ?_
        refine g_iload 6 C (ckD_get k_X2_partAt_0 24 rfl) rfl ?_
        refine g_ishl C (ckD_get k_X2_partAt_0 25 rfl) ?_
        refine g_ior C (ckD_get k_X2_partAt_0 26 rfl) ?_
        obtain ⟨x5_17, ex5_17, hf⟩ := lt_e hf
        refine topI ex5_17 ?_
        refine g_istore (lv' := [(5, _), (0, _), (1, _), (2, _), (3, _), (4, _), (6, _)]) C (ckD_get k_X2_partAt_0 27 rfl) hL5 rfl ?_
        refine g_goto C (ckD_get k_X2_partAt_0 28 rfl) ?_
        refine G.sub [1, 2, 3, 4, 5, 0, 6] rfl ?_
        exact hJ_62 _ hf
