set_option maxRecDepth 20000 in
theorem k_X10_must_0 : ckD cX10_must [(0, .aload_n 0, 1, 1, 0), (1, .getfield 33, 3, 4, 0), (4, .iload_n 1, 1, 5, 0), (5, .invokestatic 144, 3, 8, 0), (8, .aload_n 0, 1, 9, 0), (9, .getfield 33, 3, 12, 0), (12, .iload_n 2, 1, 13, 0), (13, .invokestatic 144, 3, 16, 0), (16, .if_icmp .ge 7, 3, 19, 23), (19, .iconst 1, 1, 20, 0), (20, .goto 4, 3, 23, 24), (23, .iconst 0, 1, 24, 0), (24, .istore 4, 2, 26, 0), (26, .aload_n 0, 1, 27, 0), (27, .getfield 36, 3, 30, 0), (30, .iload_n 1, 1, 31, 0), (31, .invokestatic 144, 3, 34, 0), (34, .aload_n 0, 1, 35, 0), (35, .getfield 36, 3, 38, 0), (38, .iload_n 2, 1, 39, 0), (39, .invokestatic 144, 3, 42, 0), (42, .if_icmp .ge 7, 3, 45, 49), (45, .iconst 1, 1, 46, 0), (46, .goto 4, 3, 49, 50), (49, .iconst 0, 1, 50, 0), (50, .istore 5, 2, 52, 0), (52, .iload 5, 2, 54, 0), (54, .ifCond .eq 13, 3, 57, 67), (57, .iload 4, 2, 59, 0), (59, .iload_n 3, 1, 60, 0), (60, .if_icmp .ne 7, 3, 63, 67), (63, .iconst 1, 1, 64, 0), (64, .goto 4, 3, 67, 68), (67, .iconst 0, 1, 68, 0), (68, .ireturn, 1, 69, 0)] = true := by decide +kernel
def f_X10_must_J50 (a3 : Int32) (s_5 : Int32) (s_10 : Int32) : Option Int32 := if s_10 = 0 then some (0 : Int32) else if s_5 = a3 then some (1 : Int32) else some (0 : Int32)
def f_X10_must_J24 (a1 : Int32) (a2 : Int32) (a3 : Int32) (M : Mm) (s_5 : Int32) : Option Int32 := (f_X10_placeIn 77 a1 M).bind fun r_7 => (f_X10_placeIn 77 a2 M).bind fun r_9 => if r_9 ≤ r_7 then f_X10_must_J50 a3 s_5 (0 : Int32) else f_X10_must_J50 a3 s_5 (1 : Int32)
def f_X10_must (a1 : Int32) (a2 : Int32) (a3 : Int32) (M : Mm) : Option Int32 := (f_X10_placeIn 76 a1 M).bind fun r_2 => (f_X10_placeIn 76 a2 M).bind fun r_4 => if r_4 ≤ r_2 then f_X10_must_J24 a1 a2 a3 M (0 : Int32) else f_X10_must_J24 a1 a2 a3 M (1 : Int32)
set_option maxRecDepth 100000 in
set_option maxHeartbeats 4000000 in
theorem t_X10_must {E : Ev} {l : Launch} (htr : l.stackTraces = false) (a1 : Int32) (a2 : Int32) (a3 : Int32) (M : Mm) (r : Int32) (hf : f_X10_must a1 a2 a3 M = some r) : CM E l 1 0 0 yX10_must cX10_must 6 (some .boolean) [.ref (E.1 + 69), .int a1, .int a2, .int a3] M (some (.int r)) M := by
  refine CM.of htr (by decide +kernel) (Nat.le_of_ble_eq_true rfl) ?_
  intro K hE hL hl hR0 C hr hRv
  subst hE
  subst hl
  have C : Cx K cX10_must RX10 1 := C
  have hB : (0 : Nat) ≤ K.1.R.cells ∧ 0 ≤ K.1.R.slots := ⟨Nat.zero_le _, Nat.zero_le _⟩
  have hL4 : 4 < K.2.2.1 := by rw [hL]; decide
  have hL5 : 5 < K.2.2.1 := by rw [hL]; decide
  show G K (0, 0) 0 [(0, .ref (K.2.1.1 + 69)), (1, .int a1), (2, .int a2), (3, .int a3)] [] M
  unfold f_X10_must at hf
  refine g_aload_n 0 C (ckD_get k_X10_must_0 0 rfl) rfl rfl ?_
  refine g_getR C (ckD_get k_X10_must_0 1 rfl) fk_X10_33 T69 rfl ?_
  refine g_iload_n 1 C (ckD_get k_X10_must_0 2 rfl) rfl rfl ?_
  obtain ⟨r_2, hr_1, hf⟩ := bd_e hf
  refine n_cS [.ref (K.2.1.1 + 76), .int a1] [] C (ckD_get k_X10_must_0 3 rfl) sk_X10_144 (t_X10_placeIn C.tr _ T76 _ _ _ hr_1) rfl rfl (Nat.le_of_ble_eq_true rfl) (by decide) hB rfl ?_
  refine g_aload_n 0 C (ckD_get k_X10_must_0 4 rfl) rfl rfl ?_
  refine g_getR C (ckD_get k_X10_must_0 5 rfl) fk_X10_33 T69 rfl ?_
  refine g_iload_n 2 C (ckD_get k_X10_must_0 6 rfl) rfl rfl ?_
  obtain ⟨r_4, hr_3, hf⟩ := bd_e hf
  refine n_cS [.ref (K.2.1.1 + 76), .int a2] [.int r_2] C (ckD_get k_X10_must_0 7 rfl) sk_X10_144 (t_X10_placeIn C.tr _ T76 _ _ _ hr_3) rfl rfl (Nat.le_of_ble_eq_true rfl) (by decide) hB rfl ?_
  have hJ_24 : ∀ (s_5 : Int32), f_X10_must_J24 a1 a2 a3 M s_5 = some r → G K (0, 0) 24 [(0, .ref (K.2.1.1 + 69)), (1, .int a1), (2, .int a2), (3, .int a3)] [.int s_5] M := by
    intro s_5 hf
    unfold f_X10_must_J24 at hf
    refine g_istore (lv' := [(4, _), (0, _), (1, _), (2, _), (3, _)]) C (ckD_get k_X10_must_0 12 rfl) hL4 rfl ?_
    refine g_aload_n 1 C (ckD_get k_X10_must_0 13 rfl) rfl rfl ?_
    refine g_getR C (ckD_get k_X10_must_0 14 rfl) fk_X10_36 T69 rfl ?_
    refine g_iload_n 2 C (ckD_get k_X10_must_0 15 rfl) rfl rfl ?_
    obtain ⟨r_7, hr_6, hf⟩ := bd_e hf
    refine n_cS [.ref (K.2.1.1 + 77), .int a1] [] C (ckD_get k_X10_must_0 16 rfl) sk_X10_144 (t_X10_placeIn C.tr _ T77 _ _ _ hr_6) rfl rfl (Nat.le_of_ble_eq_true rfl) (by decide) hB rfl ?_
    refine g_aload_n 1 C (ckD_get k_X10_must_0 17 rfl) rfl rfl ?_
    refine g_getR C (ckD_get k_X10_must_0 18 rfl) fk_X10_36 T69 rfl ?_
    refine g_iload_n 3 C (ckD_get k_X10_must_0 19 rfl) rfl rfl ?_
    obtain ⟨r_9, hr_8, hf⟩ := bd_e hf
    refine n_cS [.ref (K.2.1.1 + 77), .int a2] [.int r_7] C (ckD_get k_X10_must_0 20 rfl) sk_X10_144 (t_X10_placeIn C.tr _ T77 _ _ _ hr_8) rfl rfl (Nat.le_of_ble_eq_true rfl) (by decide) hB rfl ?_
    have hJ_50 : ∀ (s_10 : Int32), f_X10_must_J50 a3 s_5 s_10 = some r → G K (0, 0) 50 [(3, .int a3), (4, .int s_5)] [.int s_10] M := by
      intro s_10 hf
      unfold f_X10_must_J50 at hf
      refine g_istore (lv' := [(5, _), (3, _), (4, _)]) C (ckD_get k_X10_must_0 25 rfl) hL5 rfl ?_
      refine g_iload 0 C (ckD_get k_X10_must_0 26 rfl) rfl ?_
      refine g_if_eq C (ckD_get k_X10_must_0 27 rfl) (fun c_11 => ?_) (fun c_11 => ?_)
      · have hf := if_t hf c_11
        refine g_iconst (v := (0 : Int32)) C (ckD_get k_X10_must_0 33 rfl) (by decide) ?_
        cases hf
        exact g_zret C (ckD_get k_X10_must_0 34 rfl) hr rfl hRv (Nat.le_refl _) (Nat.le_refl _)
      · have hf := if_f hf c_11
        refine g_iload 2 C (ckD_get k_X10_must_0 28 rfl) rfl ?_
        refine g_iload_n 1 C (ckD_get k_X10_must_0 29 rfl) rfl rfl ?_
        refine g_icmp_ne C (ckD_get k_X10_must_0 30 rfl) (fun c_12 => ?_) (fun c_12 => ?_)
        · have hf := if_f hf c_12
          refine g_iconst (v := (0 : Int32)) C (ckD_get k_X10_must_0 33 rfl) (by decide) ?_
          cases hf
          exact g_zret C (ckD_get k_X10_must_0 34 rfl) hr rfl hRv (Nat.le_refl _) (Nat.le_refl _)
        · have hf := if_t hf c_12
          refine g_iconst (v := (1 : Int32)) C (ckD_get k_X10_must_0 31 rfl) (by decide) ?_
          refine g_goto C (ckD_get k_X10_must_0 32 rfl) ?_
          cases hf
          exact g_zret C (ckD_get k_X10_must_0 34 rfl) hr rfl hRv (Nat.le_refl _) (Nat.le_refl _)
    refine g_icmp_ge C (ckD_get k_X10_must_0 21 rfl) (fun c_13 => ?_) (fun c_13 => ?_)
    · have hf := if_t hf c_13
      refine g_iconst (v := (0 : Int32)) C (ckD_get k_X10_must_0 24 rfl) (by decide) ?_
      refine G.sub [4, 0] rfl ?_
      exact hJ_50 _ hf
    · have hf := if_f hf c_13
      refine g_iconst (v := (1 : Int32)) C (ckD_get k_X10_must_0 22 rfl) (by decide) ?_
      refine g_goto C (ckD_get k_X10_must_0 23 rfl) ?_
      refine G.sub [4, 0] rfl ?_
      exact hJ_50 _ hf
  refine g_icmp_ge C (ckD_get k_X10_must_0 8 rfl) (fun c_14 => ?_) (fun c_14 => ?_)
  · have hf := if_t hf c_14
    refine g_iconst (v := (0 : Int32)) C (ckD_get k_X10_must_0 11 rfl) (by decide) ?_
    exact hJ_24 _ hf
  · have hf := if_f hf c_14
    refine g_iconst (v := (1 : Int32)) C (ckD_get k_X10_must_0 9 rfl) (by decide) ?_
    refine g_goto C (ckD_get k_X10_must_0 10 rfl) ?_
    exact hJ_24 _ hf

set_option maxRecDepth 20000 in
theorem k_X10_layPair_0 : ckD cX10_layPair [(0, .iconst 0, 1, 1, 0), (1, .istore_n 1, 1, 2, 0), (2, .iload_n 1, 1, 3, 0), (3, .aload_n 0, 1, 4, 0), (4, .getfield 124, 3, 7, 0), (7, .if_icmp .ge 123, 3, 10, 130), (10, .aload_n 0, 1, 11, 0), (11, .getfield 36, 3, 14, 0), (14, .iload_n 1, 1, 15, 0), (15, .iaload, 1, 16, 0), (16, .istore_n 2, 1, 17, 0), (17, .aload_n 0, 1, 18, 0), (18, .getfield 27, 3, 21, 0), (21, .iload_n 2, 1, 22, 0), (22, .iconst 0, 1, 23, 0), (23, .iastore, 1, 24, 0), (24, .aload_n 0, 1, 25, 0), (25, .getfield 30, 3, 28, 0), (28, .iload_n 2, 1, 29, 0), (29, .iconst 0, 1, 30, 0), (30, .iastore, 1, 31, 0), (31, .iconst 0, 1, 32, 0), (32, .istore_n 3, 1, 33, 0), (33, .iload_n 3, 1, 34, 0), (34, .iload_n 1, 1, 35, 0), (35, .if_icmp .ge 89, 3, 38, 124), (38, .aload_n 0, 1, 39, 0), (39, .getfield 36, 3, 42, 0), (42, .iload_n 3, 1, 43, 0), (43, .iaload, 1, 44, 0), (44, .istore 4, 2, 46, 0), (46, .aload_n 0, 1, 47, 0), (47, .iload 4, 2, 49, 0), (49, .iload_n 2, 1, 50, 0), (50, .iconst 1, 1, 51, 0), (51, .invokevirtual 148, 3, 54, 0), (54, .ifCond .eq 35, 3, 57, 89), (57, .aload_n 0, 1, 58, 0), (58, .getfield 27, 3, 61, 0), (61, .iload_n 2, 1, 62, 0)] = true := by decide +kernel
set_option maxRecDepth 20000 in
theorem k_X10_layPair_1 : ckD cX10_layPair [(62, .aload_n 0, 1, 63, 0), (63, .getfield 27, 3, 66, 0), (66, .iload_n 2, 1, 67, 0), (67, .iaload, 1, 68, 0), (68, .aload_n 0, 1, 69, 0), (69, .getfield 27, 3, 72, 0), (72, .iload 4, 2, 74, 0), (74, .iaload, 1, 75, 0), (75, .aload_n 0, 1, 76, 0), (76, .iload 4, 2, 78, 0), (78, .invokevirtual 152, 3, 81, 0), (81, .iadd, 1, 82, 0), (82, .invokestatic 156, 3, 85, 0), (85, .iastore, 1, 86, 0), (86, .goto 32, 3, 89, 118), (89, .aload_n 0, 1, 90, 0), (90, .getfield 30, 3, 93, 0), (93, .iload_n 2, 1, 94, 0), (94, .aload_n 0, 1, 95, 0), (95, .getfield 30, 3, 98, 0), (98, .iload_n 2, 1, 99, 0), (99, .iaload, 1, 100, 0), (100, .aload_n 0, 1, 101, 0), (101, .getfield 30, 3, 104, 0), (104, .iload 4, 2, 106, 0), (106, .iaload, 1, 107, 0), (107, .aload_n 0, 1, 108, 0), (108, .iload 4, 2, 110, 0), (110, .invokevirtual 162, 3, 113, 0), (113, .iadd, 1, 114, 0), (114, .invokestatic 156, 3, 117, 0), (117, .iastore, 1, 118, 0), (118, .iinc 3 1, 3, 121, 0), (121, .goto (-88), 3, 124, 33), (124, .iinc 1 1, 3, 127, 0), (127, .goto (-125), 3, 130, 2), (130, .aload_n 0, 1, 131, 0), (131, .iconst 1, 1, 132, 0), (132, .putfield 23, 3, 135, 0), (135, .return_, 1, 136, 0)] = true := by decide +kernel
def f_X10_layPair_A2 (M_3 : Mm) : Option Mm := lt1 (wi M_3 69 6 (1 : Int32)) fun M_4 => some M_4
def f_X10_layPair_A33 (x1_1 : Int32) (M_14 : Mm) : Option ((Int32 × Mm) ⊕ Mm) := lt1 (x1_1 + 1) fun x1_15 => some (.inl (x1_15, M_14))
def f_X10_layPair_J118 (x3_12 : Int32) (M_21 : Mm) : Option ((Int32 × Mm) ⊕ Mm) := lt1 (x3_12 + 1) fun x3_22 => some (.inl (x3_22, M_21))
def f_X10_layPair_L33 (x1_1 : Int32) (v_6 : Int32) (x3_12 : Int32) (M_13 : Mm) : Option ((Int32 × Mm) ⊕ Mm) := if x1_1 ≤ x3_12 then some (.inr M_13) else rdI 12 M_13 77 x3_12 fun v_17 => (f_X10_must v_17 v_6 (1 : Int32) M_13).bind fun r_20 => if r_20 = 0 then rdI 12 M_13 75 v_6 fun v_24 => rdI 12 M_13 75 v_17 fun v_26 => (f_X10_high v_17 M_13).bind fun r_29 => wrI 12 M_13 75 v_6 (jmax v_24 (v_26 + r_29)) fun M_30 => f_X10_layPair_J118 x3_12 M_30 else rdI 12 M_13 74 v_6 fun v_32 => rdI 12 M_13 74 v_17 fun v_34 => (f_X10_wide v_17 M_13).bind fun r_37 => wrI 12 M_13 74 v_6 (jmax v_32 (v_34 + r_37)) fun M_38 => f_X10_layPair_J118 x3_12 M_38
def f_X10_layPair_L2 (x1_1 : Int32) (M_2 : Mm) : Option ((Int32 × Mm) ⊕ Mm) := if (M_2.1 69 1) ≤ x1_1 then some (.inr M_2) else rdI 12 M_2 77 x1_1 fun v_6 => wrI 12 M_2 74 v_6 (0 : Int32) fun M_8 => wrI 12 M_8 75 v_6 (0 : Int32) fun M_10 => (loop (fun v => f_X10_layPair_L33 x1_1 v_6 v.1 v.2) FU ((0 : Int32), M_10)).bind fun z => f_X10_layPair_A33 x1_1 z
def f_X10_layPair  (M : Mm) : Option Mm := (loop (fun v => f_X10_layPair_L2 v.1 v.2) FU ((0 : Int32), M)).bind fun z => f_X10_layPair_A2 z
set_option maxRecDepth 100000 in
set_option maxHeartbeats 4000000 in
theorem t_X10_layPair {E : Ev} {l : Launch} (htr : l.stackTraces = false) (M : Mm) (r : Mm) (hf : f_X10_layPair M = some r) : CM E l 2 0 0 yX10_layPair cX10_layPair 5 none [.ref (E.1 + 69)] M none r := by
  refine CM.of htr (by decide +kernel) (Nat.le_of_ble_eq_true rfl) ?_
  intro K hE hL hl hR0 C hr hRv
  subst hE
  subst hl
  have C : Cx K cX10_layPair RX10 2 := C
  have hB : (0 : Nat) ≤ K.1.R.cells ∧ 0 ≤ K.1.R.slots := ⟨Nat.zero_le _, Nat.zero_le _⟩
  have hL1 : 1 < K.2.2.1 := by rw [hL]; decide
  have hL2 : 2 < K.2.2.1 := by rw [hL]; decide
  have hL3 : 3 < K.2.2.1 := by rw [hL]; decide
  have hL4 : 4 < K.2.2.1 := by rw [hL]; decide
  show G K (0, 0) 0 [(0, .ref (K.2.1.1 + 69))] [] M
  unfold f_X10_layPair at hf
  refine g_iconst (v := (0 : Int32)) C (ckD_get k_X10_layPair_0 0 rfl) (by decide) ?_
  refine g_istore_n (lv' := [(1, _), (0, _)]) C (ckD_get k_X10_layPair_0 1 rfl) rfl hL1 rfl ?_
  refine G.sub [1, 0] rfl ?_
  obtain ⟨M_3, hx_2, hf⟩ := bd_e hf
  have hE_2 : G K (0, 0) 130 [(0, .ref (K.2.1.1 + 69))] [] M_3 := by
    have hf : f_X10_layPair_A2 M_3 = some r := hf
    unfold f_X10_layPair_A2 at hf
    refine g_aload_n 0 C (ckD_get k_X10_layPair_1 36 rfl) rfl rfl ?_
    refine g_iconst (v := (1 : Int32)) C (ckD_get k_X10_layPair_1 37 rfl) (by decide) ?_
    obtain ⟨M_4, eM_4, hf⟩ := lt_e hf
    refine g_putI C (ckD_get k_X10_layPair_1 38 rfl) fk_X10_23 T69 rfl ?_
    refine memI eM_4 ?_
    cases hf
    exact g_vret C (ckD_get k_X10_layPair_1 39 rfl) hr hRv (Nat.le_refl _) (Nat.le_refl _)
  refine loop_e (x := M_3) (P := fun (v : (Int32 × Mm)) => G K (0, 0) 2 [(0, .ref (K.2.1.1 + 69)), (1, .int v.1)] [] v.2) ?_ FU _ hx_2
  intro v rr_2 hf hn_2 hz_2
  obtain ⟨x1_1, M_2⟩ := v
  have hf : f_X10_layPair_L2 x1_1 M_2 = some rr_2 := hf
  show G K (0, 0) 2 [(0, .ref (K.2.1.1 + 69)), (1, .int x1_1)] [] M_2
  unfold f_X10_layPair_L2 at hf
  refine g_iload_n 1 C (ckD_get k_X10_layPair_0 2 rfl) rfl rfl ?_
  refine g_aload_n 0 C (ckD_get k_X10_layPair_0 3 rfl) rfl rfl ?_
  refine g_getI C (ckD_get k_X10_layPair_0 4 rfl) fk_X10_124 T69 rfl ?_
  refine g_icmp_ge C (ckD_get k_X10_layPair_0 5 rfl) (fun c_5 => ?_) (fun c_5 => ?_)
  · have hf := if_t hf c_5
    refine G.sub [0] rfl ?_
    cases hf
    cases hz_2 _ rfl
    exact hE_2
  · have hf := if_f hf c_5
    refine g_aload_n 0 C (ckD_get k_X10_layPair_0 6 rfl) rfl rfl ?_
    refine g_getR C (ckD_get k_X10_layPair_0 7 rfl) fk_X10_36 T69 rfl ?_
    refine g_iload_n 1 C (ckD_get k_X10_layPair_0 8 rfl) rfl rfl ?_
    obtain ⟨v_6, hi_7, ev_6, hf⟩ := rdI_e hf
    refine n_iald C (ckD_get k_X10_layPair_0 9 rfl) T77 hi_7 ev_6 ?_
    refine g_istore_n (lv' := [(2, _), (0, _), (1, _)]) C (ckD_get k_X10_layPair_0 10 rfl) rfl hL2 rfl ?_
    refine g_aload_n 1 C (ckD_get k_X10_layPair_0 11 rfl) rfl rfl ?_
    refine g_getR C (ckD_get k_X10_layPair_0 12 rfl) fk_X10_27 T69 rfl ?_
    refine g_iload_n 0 C (ckD_get k_X10_layPair_0 13 rfl) rfl rfl ?_
    refine g_iconst (v := (0 : Int32)) C (ckD_get k_X10_layPair_0 14 rfl) (by decide) ?_
    obtain ⟨M_8, hi_9, eM_8, hf⟩ := wrI_e hf
    refine n_iast C (ckD_get k_X10_layPair_0 15 rfl) T74 hi_9 eM_8 ?_
    refine g_aload_n 1 C (ckD_get k_X10_layPair_0 16 rfl) rfl rfl ?_
    refine g_getR C (ckD_get k_X10_layPair_0 17 rfl) fk_X10_30 T69 rfl ?_
    refine g_iload_n 0 C (ckD_get k_X10_layPair_0 18 rfl) rfl rfl ?_
    refine g_iconst (v := (0 : Int32)) C (ckD_get k_X10_layPair_0 19 rfl) (by decide) ?_
    obtain ⟨M_10, hi_11, eM_10, hf⟩ := wrI_e hf
    refine n_iast C (ckD_get k_X10_layPair_0 20 rfl) T75 hi_11 eM_10 ?_
    refine g_iconst (v := (0 : Int32)) C (ckD_get k_X10_layPair_0 21 rfl) (by decide) ?_
    refine g_istore_n (lv' := [(3, _), (2, _), (0, _), (1, _)]) C (ckD_get k_X10_layPair_0 22 rfl) rfl hL3 rfl ?_
    refine G.sub [2, 3, 1, 0] rfl ?_
    obtain ⟨M_14, hx_33, hf⟩ := bd_e hf
    have hE_33 : G K (0, 0) 124 [(0, .ref (K.2.1.1 + 69)), (1, .int x1_1)] [] M_14 := by
      have hf : f_X10_layPair_A33 x1_1 M_14 = some rr_2 := hf
      unfold f_X10_layPair_A33 at hf
      obtain ⟨x1_15, ex1_15, hf⟩ := lt_e hf
      refine g_iinc (lv' := [(1, _), (0, _)]) 1 C (ckD_get k_X10_layPair_1 34 rfl) rfl ex1_15 hL1 rfl ?_
      refine g_goto C (ckD_get k_X10_layPair_1 35 rfl) ?_
      refine G.sub [1, 0] rfl ?_
      cases hf
      exact hn_2 _ rfl
    refine loop_e (x := M_14) (P := fun (v : (Int32 × Mm)) => G K (0, 0) 33 [(0, .ref (K.2.1.1 + 69)), (1, .int x1_1), (2, .int v_6), (3, .int v.1)] [] v.2) ?_ FU _ hx_33
    intro v rr_33 hf hn_33 hz_33
    obtain ⟨x3_12, M_13⟩ := v
    have hf : f_X10_layPair_L33 x1_1 v_6 x3_12 M_13 = some rr_33 := hf
    show G K (0, 0) 33 [(0, .ref (K.2.1.1 + 69)), (1, .int x1_1), (2, .int v_6), (3, .int x3_12)] [] M_13
    unfold f_X10_layPair_L33 at hf
    refine g_iload_n 3 C (ckD_get k_X10_layPair_0 23 rfl) rfl rfl ?_
    refine g_iload_n 1 C (ckD_get k_X10_layPair_0 24 rfl) rfl rfl ?_
    refine g_icmp_ge C (ckD_get k_X10_layPair_0 25 rfl) (fun c_16 => ?_) (fun c_16 => ?_)
    · have hf := if_t hf c_16
      refine G.sub [0, 1] rfl ?_
      cases hf
      cases hz_33 _ rfl
      exact hE_33
    · have hf := if_f hf c_16
      refine g_aload_n 0 C (ckD_get k_X10_layPair_0 26 rfl) rfl rfl ?_
      refine g_getR C (ckD_get k_X10_layPair_0 27 rfl) fk_X10_36 T69 rfl ?_
      refine g_iload_n 3 C (ckD_get k_X10_layPair_0 28 rfl) rfl rfl ?_
      obtain ⟨v_17, hi_18, ev_17, hf⟩ := rdI_e hf
      refine n_iald C (ckD_get k_X10_layPair_0 29 rfl) T77 hi_18 ev_17 ?_
      refine g_istore (lv' := [(4, _), (0, _), (1, _), (2, _), (3, _)]) C (ckD_get k_X10_layPair_0 30 rfl) hL4 rfl ?_
      refine g_aload_n 1 C (ckD_get k_X10_layPair_0 31 rfl) rfl rfl ?_
      refine g_iload 0 C (ckD_get k_X10_layPair_0 32 rfl) rfl ?_
      refine g_iload_n 3 C (ckD_get k_X10_layPair_0 33 rfl) rfl rfl ?_
      refine g_iconst (v := (1 : Int32)) C (ckD_get k_X10_layPair_0 34 rfl) (by decide) ?_
      obtain ⟨r_20, hr_19, hf⟩ := bd_e hf
      refine n_cV [.int v_17, .int v_6, .int (1 : Int32)] [] C (ckD_get k_X10_layPair_0 35 rfl) vk_X10_148 (t_X10_must C.tr _ _ _ _ _ hr_19) T69 rfl rfl (Nat.le_of_ble_eq_true rfl) (by decide) hB rfl ?_
      have hJ_118 : ∀ (M_21 : Mm), f_X10_layPair_J118 x3_12 M_21 = some rr_33 → G K (0, 0) 118 [(0, .ref (K.2.1.1 + 69)), (1, .int x1_1), (2, .int v_6), (3, .int x3_12)] [] M_21 := by
        intro M_21 hf
        unfold f_X10_layPair_J118 at hf
        obtain ⟨x3_22, ex3_22, hf⟩ := lt_e hf
        refine g_iinc (lv' := [(3, _), (0, _), (1, _), (2, _)]) 3 C (ckD_get k_X10_layPair_1 32 rfl) rfl ex3_22 hL3 rfl ?_
        refine g_goto C (ckD_get k_X10_layPair_1 33 rfl) ?_
        refine G.sub [1, 2, 3, 0] rfl ?_
        cases hf
        exact hn_33 _ rfl
      refine g_if_eq C (ckD_get k_X10_layPair_0 36 rfl) (fun c_23 => ?_) (fun c_23 => ?_)
      · have hf := if_t hf c_23
        refine g_aload_n 1 C (ckD_get k_X10_layPair_1 15 rfl) rfl rfl ?_
        refine g_getR C (ckD_get k_X10_layPair_1 16 rfl) fk_X10_30 T69 rfl ?_
        refine g_iload_n 3 C (ckD_get k_X10_layPair_1 17 rfl) rfl rfl ?_
        refine g_aload_n 1 C (ckD_get k_X10_layPair_1 18 rfl) rfl rfl ?_
        refine g_getR C (ckD_get k_X10_layPair_1 19 rfl) fk_X10_30 T69 rfl ?_
        refine g_iload_n 3 C (ckD_get k_X10_layPair_1 20 rfl) rfl rfl ?_
        obtain ⟨v_24, hi_25, ev_24, hf⟩ := rdI_e hf
        refine n_iald C (ckD_get k_X10_layPair_1 21 rfl) T75 hi_25 ev_24 ?_
        refine g_aload_n 1 C (ckD_get k_X10_layPair_1 22 rfl) rfl rfl ?_
        refine g_getR C (ckD_get k_X10_layPair_1 23 rfl) fk_X10_30 T69 rfl ?_
        refine g_iload 0 C (ckD_get k_X10_layPair_1 24 rfl) rfl ?_
        obtain ⟨v_26, hi_27, ev_26, hf⟩ := rdI_e hf
        refine n_iald C (ckD_get k_X10_layPair_1 25 rfl) T75 hi_27 ev_26 ?_
        refine g_aload_n 1 C (ckD_get k_X10_layPair_1 26 rfl) rfl rfl ?_
        refine g_iload 0 C (ckD_get k_X10_layPair_1 27 rfl) rfl ?_
        obtain ⟨r_29, hr_28, hf⟩ := bd_e hf
        refine n_cV [.int v_17] [.int v_26, .int v_24, .int v_6, .ref (K.2.1.1 + 75)] C (ckD_get k_X10_layPair_1 28 rfl) vk_X10_162 (t_X10_high C.tr _ _ _ hr_28) T69 rfl rfl (Nat.le_of_ble_eq_true rfl) (by decide) hB rfl ?_
        refine g_iadd C (ckD_get k_X10_layPair_1 29 rfl) ?_
        refine n_mmax C (ckD_get k_X10_layPair_1 30 rfl) mk_X10_156 (by decide) (Nat.le_of_ble_eq_true rfl) hB ?_
        obtain ⟨M_30, hi_31, eM_30, hf⟩ := wrI_e hf
        refine n_iast C (ckD_get k_X10_layPair_1 31 rfl) T75 hi_31 eM_30 ?_
        refine G.sub [1, 2, 3, 4] rfl ?_
        exact hJ_118 _ hf
      · have hf := if_f hf c_23
        refine g_aload_n 1 C (ckD_get k_X10_layPair_0 37 rfl) rfl rfl ?_
        refine g_getR C (ckD_get k_X10_layPair_0 38 rfl) fk_X10_27 T69 rfl ?_
        refine g_iload_n 3 C (ckD_get k_X10_layPair_0 39 rfl) rfl rfl ?_
        refine g_aload_n 1 C (ckD_get k_X10_layPair_1 0 rfl) rfl rfl ?_
        refine g_getR C (ckD_get k_X10_layPair_1 1 rfl) fk_X10_27 T69 rfl ?_
        refine g_iload_n 3 C (ckD_get k_X10_layPair_1 2 rfl) rfl rfl ?_
        obtain ⟨v_32, hi_33, ev_32, hf⟩ := rdI_e hf
        refine n_iald C (ckD_get k_X10_layPair_1 3 rfl) T74 hi_33 ev_32 ?_
        refine g_aload_n 1 C (ckD_get k_X10_layPair_1 4 rfl) rfl rfl ?_
        refine g_getR C (ckD_get k_X10_layPair_1 5 rfl) fk_X10_27 T69 rfl ?_
        refine g_iload 0 C (ckD_get k_X10_layPair_1 6 rfl) rfl ?_
        obtain ⟨v_34, hi_35, ev_34, hf⟩ := rdI_e hf
        refine n_iald C (ckD_get k_X10_layPair_1 7 rfl) T74 hi_35 ev_34 ?_
        refine g_aload_n 1 C (ckD_get k_X10_layPair_1 8 rfl) rfl rfl ?_
        refine g_iload 0 C (ckD_get k_X10_layPair_1 9 rfl) rfl ?_
        obtain ⟨r_37, hr_36, hf⟩ := bd_e hf
        refine n_cV [.int v_17] [.int v_34, .int v_32, .int v_6, .ref (K.2.1.1 + 74)] C (ckD_get k_X10_layPair_1 10 rfl) vk_X10_152 (t_X10_wide C.tr _ _ _ hr_36) T69 rfl rfl (Nat.le_of_ble_eq_true rfl) (by decide) hB rfl ?_
        refine g_iadd C (ckD_get k_X10_layPair_1 11 rfl) ?_
        refine n_mmax C (ckD_get k_X10_layPair_1 12 rfl) mk_X10_156 (by decide) (Nat.le_of_ble_eq_true rfl) hB ?_
        obtain ⟨M_38, hi_39, eM_38, hf⟩ := wrI_e hf
        refine n_iast C (ckD_get k_X10_layPair_1 13 rfl) T74 hi_39 eM_38 ?_
        refine g_goto C (ckD_get k_X10_layPair_1 14 rfl) ?_
        refine G.sub [1, 2, 3, 4] rfl ?_
        exact hJ_118 _ hf

set_option maxRecDepth 20000 in
theorem k_X10_pair_0 : ckD cX10_pair [(0, .aload_n 0, 1, 1, 0), (1, .iconst 0, 1, 2, 0), (2, .putfield 121, 3, 5, 0), (5, .aload_n 0, 1, 6, 0), (6, .getfield 124, 3, 9, 0), (9, .ifCond .eq 27, 3, 12, 36), (12, .aload_n 0, 1, 13, 0), (13, .lload_n 1, 1, 14, 0), (14, .aload_n 0, 1, 15, 0), (15, .getfield 48, 3, 18, 0), (18, .invokevirtual 165, 3, 21, 0), (21, .ifCond .eq 15, 3, 24, 36), (24, .aload_n 0, 1, 25, 0), (25, .lload_n 3, 1, 26, 0), (26, .aload_n 0, 1, 27, 0), (27, .getfield 51, 3, 30, 0), (30, .invokevirtual 165, 3, 33, 0), (33, .ifCond .ne 5, 3, 36, 38), (36, .iconst 0, 1, 37, 0), (37, .ireturn, 1, 38, 0), (38, .iconst 0, 1, 39, 0), (39, .istore 6, 2, 41, 0), (41, .iload 6, 2, 43, 0), (43, .aload_n 0, 1, 44, 0), (44, .getfield 124, 3, 47, 0), (47, .if_icmp .ge 37, 3, 50, 84), (50, .aload_n 0, 1, 51, 0), (51, .getfield 33, 3, 54, 0), (54, .iload 6, 2, 56, 0), (56, .aload_n 0, 1, 57, 0), (57, .getfield 48, 3, 60, 0), (60, .iload 6, 2, 62, 0), (62, .iaload, 1, 63, 0), (63, .iastore, 1, 64, 0), (64, .aload_n 0, 1, 65, 0), (65, .getfield 36, 3, 68, 0), (68, .iload 6, 2, 70, 0), (70, .aload_n 0, 1, 71, 0), (71, .getfield 51, 3, 74, 0), (74, .iload 6, 2, 76, 0)] = true := by decide +kernel
set_option maxRecDepth 20000 in
theorem k_X10_pair_1 : ckD cX10_pair [(76, .iaload, 1, 77, 0), (77, .iastore, 1, 78, 0), (78, .iinc 6 1, 3, 81, 0), (81, .goto (-40), 3, 84, 41), (84, .aload_n 0, 1, 85, 0), (85, .iload 5, 2, 87, 0), (87, .aload_n 0, 1, 88, 0), (88, .invokevirtual 169, 3, 91, 0), (91, .iand, 1, 92, 0), (92, .putfield 127, 3, 95, 0), (95, .aload_n 0, 1, 96, 0), (96, .invokevirtual 172, 3, 99, 0), (99, .iconst 1, 1, 100, 0), (100, .ireturn, 1, 101, 0)] = true := by decide +kernel
def f_X10_pair_A41 (a3 : Int32) (M_13 : Mm) : Option (Int32 × Mm) := (f_X10_turnable M_13).bind fun r_15 => lt1 (wi M_13 69 7 (a3 &&& r_15)) fun M_16 => (f_X10_layPair M_16).bind fun M_18 => some ((1 : Int32), M_18)
def f_X10_pair_L41 (x6_11 : Int32) (M_12 : Mm) : Option ((Int32 × Mm) ⊕ Mm) := if (M_12.1 69 1) ≤ x6_11 then some (.inr M_12) else rdI 12 M_12 81 x6_11 fun v_20 => wrI 12 M_12 76 x6_11 v_20 fun M_22 => rdI 12 M_22 82 x6_11 fun v_24 => wrI 12 M_22 77 x6_11 v_24 fun M_26 => lt1 (x6_11 + 1) fun x6_28 => some (.inl (x6_28, M_26))
def f_X10_pair (a1 : Int64) (a2 : Int64) (a3 : Int32) (M : Mm) : Option (Int32 × Mm) := lt1 (wi M 69 0 (0 : Int32)) fun M_1 => if (M_1.1 69 1) = 0 then some ((0 : Int32), M_1) else bd2 (f_X10_readOrder a1 81 M_1) fun r_5 M_4 => if r_5 = 0 then some ((0 : Int32), M_4) else bd2 (f_X10_readOrder a2 82 M_4) fun r_9 M_8 => if r_9 = 0 then some ((0 : Int32), M_8) else (loop (fun v => f_X10_pair_L41 v.1 v.2) FU ((0 : Int32), M_8)).bind fun z => f_X10_pair_A41 a3 z
set_option maxRecDepth 100000 in
set_option maxHeartbeats 4000000 in
theorem t_X10_pair {E : Ev} {l : Launch} (htr : l.stackTraces = false) (a1 : Int64) (a2 : Int64) (a3 : Int32) (M : Mm) (r : (Int32 × Mm)) (hf : f_X10_pair a1 a2 a3 M = some r) : CM E l 3 0 0 yX10_pair cX10_pair 7 (some .boolean) [.ref (E.1 + 69), .long a1, .long a2, .int a3] M (some (.int r.1)) r.2 := by
  refine CM.of htr (by decide +kernel) (Nat.le_of_ble_eq_true rfl) ?_
  intro K hE hL hl hR0 C hr hRv
  subst hE
  subst hl
  have C : Cx K cX10_pair RX10 3 := C
  have hB : (0 : Nat) ≤ K.1.R.cells ∧ 0 ≤ K.1.R.slots := ⟨Nat.zero_le _, Nat.zero_le _⟩
  have hL6 : 6 < K.2.2.1 := by rw [hL]; decide
  show G K (0, 0) 0 [(0, .ref (K.2.1.1 + 69)), (1, .long a1), (3, .long a2), (5, .int a3)] [] M
  unfold f_X10_pair at hf
  refine g_aload_n 0 C (ckD_get k_X10_pair_0 0 rfl) rfl rfl ?_
  refine g_iconst (v := (0 : Int32)) C (ckD_get k_X10_pair_0 1 rfl) (by decide) ?_
  obtain ⟨M_1, eM_1, hf⟩ := lt_e hf
  refine g_putI C (ckD_get k_X10_pair_0 2 rfl) fk_X10_121 T69 rfl ?_
  refine memI eM_1 ?_
  refine g_aload_n 0 C (ckD_get k_X10_pair_0 3 rfl) rfl rfl ?_
  refine g_getI C (ckD_get k_X10_pair_0 4 rfl) fk_X10_124 T69 rfl ?_
  refine g_if_eq C (ckD_get k_X10_pair_0 5 rfl) (fun c_2 => ?_) (fun c_2 => ?_)
  · have hf := if_t hf c_2
    refine g_iconst (v := (0 : Int32)) C (ckD_get k_X10_pair_0 18 rfl) (by decide) ?_
    cases hf
    exact g_zret C (ckD_get k_X10_pair_0 19 rfl) hr rfl hRv (Nat.le_refl _) (Nat.le_refl _)
  · have hf := if_f hf c_2
    refine g_aload_n 0 C (ckD_get k_X10_pair_0 6 rfl) rfl rfl ?_
    refine g_lload_n 1 C (ckD_get k_X10_pair_0 7 rfl) rfl rfl ?_
    refine g_aload_n 0 C (ckD_get k_X10_pair_0 8 rfl) rfl rfl ?_
    refine g_getR C (ckD_get k_X10_pair_0 9 rfl) fk_X10_48 T69 rfl ?_
    obtain ⟨r_5, M_4, hr_3, hf⟩ := bd2_e hf
    refine n_cV [.long a1, .ref (K.2.1.1 + 81)] [] C (ckD_get k_X10_pair_0 10 rfl) vk_X10_165 (t_X10_readOrder C.tr _ _ T81 _ _ hr_3) T69 rfl rfl (Nat.le_of_ble_eq_true rfl) (by decide) hB rfl ?_
    refine g_if_eq C (ckD_get k_X10_pair_0 11 rfl) (fun c_6 => ?_) (fun c_6 => ?_)
    · have hf := if_t hf c_6
      refine g_iconst (v := (0 : Int32)) C (ckD_get k_X10_pair_0 18 rfl) (by decide) ?_
      cases hf
      exact g_zret C (ckD_get k_X10_pair_0 19 rfl) hr rfl hRv (Nat.le_refl _) (Nat.le_refl _)
    · have hf := if_f hf c_6
      refine g_aload_n 0 C (ckD_get k_X10_pair_0 12 rfl) rfl rfl ?_
      refine g_lload_n 2 C (ckD_get k_X10_pair_0 13 rfl) rfl rfl ?_
      refine g_aload_n 0 C (ckD_get k_X10_pair_0 14 rfl) rfl rfl ?_
      refine g_getR C (ckD_get k_X10_pair_0 15 rfl) fk_X10_51 T69 rfl ?_
      obtain ⟨r_9, M_8, hr_7, hf⟩ := bd2_e hf
      refine n_cV [.long a2, .ref (K.2.1.1 + 82)] [] C (ckD_get k_X10_pair_0 16 rfl) vk_X10_165 (t_X10_readOrder C.tr _ _ T82 _ _ hr_7) T69 rfl rfl (Nat.le_of_ble_eq_true rfl) (by decide) hB rfl ?_
      refine g_if_ne C (ckD_get k_X10_pair_0 17 rfl) (fun c_10 => ?_) (fun c_10 => ?_)
      · have hf := if_f hf c_10
        refine g_iconst (v := (0 : Int32)) C (ckD_get k_X10_pair_0 20 rfl) (by decide) ?_
        refine g_istore (lv' := [(6, _), (0, _), (1, _), (3, _), (5, _)]) C (ckD_get k_X10_pair_0 21 rfl) hL6 rfl ?_
        refine G.sub [1, 4, 0] rfl ?_
        obtain ⟨M_13, hx_41, hf⟩ := bd_e hf
        have hE_41 : G K (0, 0) 84 [(0, .ref (K.2.1.1 + 69)), (5, .int a3)] [] M_13 := by
          have hf : f_X10_pair_A41 a3 M_13 = some r := hf
          unfold f_X10_pair_A41 at hf
          refine g_aload_n 0 C (ckD_get k_X10_pair_1 4 rfl) rfl rfl ?_
          refine g_iload 1 C (ckD_get k_X10_pair_1 5 rfl) rfl ?_
          refine g_aload_n 0 C (ckD_get k_X10_pair_1 6 rfl) rfl rfl ?_
          obtain ⟨r_15, hr_14, hf⟩ := bd_e hf
          refine n_cV [] [.int a3, .ref (K.2.1.1 + 69)] C (ckD_get k_X10_pair_1 7 rfl) vk_X10_169 (t_X10_turnable C.tr _ _ hr_14) T69 rfl rfl (Nat.le_of_ble_eq_true rfl) (by decide) hB rfl ?_
          refine g_iand C (ckD_get k_X10_pair_1 8 rfl) ?_
          obtain ⟨M_16, eM_16, hf⟩ := lt_e hf
          refine g_putI C (ckD_get k_X10_pair_1 9 rfl) fk_X10_127 T69 rfl ?_
          refine memI eM_16 ?_
          refine g_aload_n 0 C (ckD_get k_X10_pair_1 10 rfl) rfl rfl ?_
          obtain ⟨M_18, hr_17, hf⟩ := bd_e hf
          refine n_cV [] [] C (ckD_get k_X10_pair_1 11 rfl) vk_X10_172 (t_X10_layPair C.tr _ _ hr_17) T69 rfl rfl (Nat.le_of_ble_eq_true rfl) (by decide) hB rfl ?_
          refine g_iconst (v := (1 : Int32)) C (ckD_get k_X10_pair_1 12 rfl) (by decide) ?_
          cases hf
          exact g_zret C (ckD_get k_X10_pair_1 13 rfl) hr rfl hRv (Nat.le_refl _) (Nat.le_refl _)
        refine loop_e (x := M_13) (P := fun (v : (Int32 × Mm)) => G K (0, 0) 41 [(0, .ref (K.2.1.1 + 69)), (5, .int a3), (6, .int v.1)] [] v.2) ?_ FU _ hx_41
        intro v rr_41 hf hn_41 hz_41
        obtain ⟨x6_11, M_12⟩ := v
        have hf : f_X10_pair_L41 x6_11 M_12 = some rr_41 := hf
        show G K (0, 0) 41 [(0, .ref (K.2.1.1 + 69)), (5, .int a3), (6, .int x6_11)] [] M_12
        unfold f_X10_pair_L41 at hf
        refine g_iload 2 C (ckD_get k_X10_pair_0 22 rfl) rfl ?_
        refine g_aload_n 0 C (ckD_get k_X10_pair_0 23 rfl) rfl rfl ?_
        refine g_getI C (ckD_get k_X10_pair_0 24 rfl) fk_X10_124 T69 rfl ?_
        refine g_icmp_ge C (ckD_get k_X10_pair_0 25 rfl) (fun c_19 => ?_) (fun c_19 => ?_)
        · have hf := if_t hf c_19
          refine G.sub [0, 1] rfl ?_
          cases hf
          cases hz_41 _ rfl
          exact hE_41
        · have hf := if_f hf c_19
          refine g_aload_n 0 C (ckD_get k_X10_pair_0 26 rfl) rfl rfl ?_
          refine g_getR C (ckD_get k_X10_pair_0 27 rfl) fk_X10_33 T69 rfl ?_
          refine g_iload 2 C (ckD_get k_X10_pair_0 28 rfl) rfl ?_
          refine g_aload_n 0 C (ckD_get k_X10_pair_0 29 rfl) rfl rfl ?_
          refine g_getR C (ckD_get k_X10_pair_0 30 rfl) fk_X10_48 T69 rfl ?_
          refine g_iload 2 C (ckD_get k_X10_pair_0 31 rfl) rfl ?_
          obtain ⟨v_20, hi_21, ev_20, hf⟩ := rdI_e hf
          refine n_iald C (ckD_get k_X10_pair_0 32 rfl) T81 hi_21 ev_20 ?_
          obtain ⟨M_22, hi_23, eM_22, hf⟩ := wrI_e hf
          refine n_iast C (ckD_get k_X10_pair_0 33 rfl) T76 hi_23 eM_22 ?_
          refine g_aload_n 0 C (ckD_get k_X10_pair_0 34 rfl) rfl rfl ?_
          refine g_getR C (ckD_get k_X10_pair_0 35 rfl) fk_X10_36 T69 rfl ?_
          refine g_iload 2 C (ckD_get k_X10_pair_0 36 rfl) rfl ?_
          refine g_aload_n 0 C (ckD_get k_X10_pair_0 37 rfl) rfl rfl ?_
          refine g_getR C (ckD_get k_X10_pair_0 38 rfl) fk_X10_51 T69 rfl ?_
          refine g_iload 2 C (ckD_get k_X10_pair_0 39 rfl) rfl ?_
          obtain ⟨v_24, hi_25, ev_24, hf⟩ := rdI_e hf
          refine n_iald C (ckD_get k_X10_pair_1 0 rfl) T82 hi_25 ev_24 ?_
          obtain ⟨M_26, hi_27, eM_26, hf⟩ := wrI_e hf
          refine n_iast C (ckD_get k_X10_pair_1 1 rfl) T77 hi_27 eM_26 ?_
          obtain ⟨x6_28, ex6_28, hf⟩ := lt_e hf
          refine g_iinc (lv' := [(6, _), (0, _), (5, _)]) 2 C (ckD_get k_X10_pair_1 2 rfl) rfl ex6_28 hL6 rfl ?_
          refine g_goto C (ckD_get k_X10_pair_1 3 rfl) ?_
          refine G.sub [1, 2, 0] rfl ?_
          cases hf
          exact hn_41 _ rfl
      · have hf := if_t hf c_10
        refine g_iconst (v := (0 : Int32)) C (ckD_get k_X10_pair_0 18 rfl) (by decide) ?_
        cases hf
        exact g_zret C (ckD_get k_X10_pair_0 19 rfl) hr rfl hRv (Nat.le_refl _) (Nat.le_refl _)

set_option maxRecDepth 20000 in
theorem k_X10_rowSize_0 : ckD cX10_rowSize [(0, .iconst 2, 1, 1, 0), (1, .aload_n 0, 1, 2, 0), (2, .getfield 124, 3, 5, 0), (5, .imul, 1, 6, 0), (6, .iconst 1, 1, 7, 0), (7, .isub, 1, 8, 0), (8, .ireturn, 1, 9, 0)] = true := by decide +kernel
def f_X10_rowSize  (M : Mm) : Int32 := (((2 : Int32) * (M.1 69 1)) - (1 : Int32))
set_option maxRecDepth 100000 in
set_option maxHeartbeats 4000000 in
theorem t_X10_rowSize {E : Ev} {l : Launch} (htr : l.stackTraces = false) (M : Mm) (r : Int32) (hf : f_X10_rowSize M = r) : CM E l 0 0 0 yX10_rowSize cX10_rowSize 1 (some .int) [.ref (E.1 + 69)] M (some (.int r)) M := by
  refine CM.of htr (by decide +kernel) (Nat.le_of_ble_eq_true rfl) ?_
  intro K hE hL hl hR0 C hr hRv
  subst hE
  subst hl
  have C : Cx K cX10_rowSize RX10 0 := C
  have hB : (0 : Nat) ≤ K.1.R.cells ∧ 0 ≤ K.1.R.slots := ⟨Nat.zero_le _, Nat.zero_le _⟩
  show G K (0, 0) 0 [(0, .ref (K.2.1.1 + 69))] [] M
  unfold f_X10_rowSize at hf
  refine g_iconst (v := (2 : Int32)) C (ckD_get k_X10_rowSize_0 0 rfl) (by decide) ?_
  refine g_aload_n 0 C (ckD_get k_X10_rowSize_0 1 rfl) rfl rfl ?_
  refine g_getI C (ckD_get k_X10_rowSize_0 2 rfl) fk_X10_124 T69 rfl ?_
  refine g_imul C (ckD_get k_X10_rowSize_0 3 rfl) ?_
  refine g_iconst (v := (1 : Int32)) C (ckD_get k_X10_rowSize_0 4 rfl) (by decide) ?_
  refine g_isub C (ckD_get k_X10_rowSize_0 5 rfl) ?_
  cases hf
  exact g_iret C (ckD_get k_X10_rowSize_0 6 rfl) hr hRv (Nat.le_refl _) (Nat.le_refl _)

set_option maxRecDepth 20000 in
theorem k_X10_isRow_0 : ckD cX10_isRow [(0, .iconst 0, 1, 1, 0), (1, .istore_n 1, 1, 2, 0), (2, .iconst 0, 1, 3, 0), (3, .istore_n 2, 1, 4, 0), (4, .iconst 0, 1, 5, 0), (5, .istore_n 3, 1, 6, 0), (6, .iload_n 3, 1, 7, 0), (7, .aload_n 0, 1, 8, 0), (8, .invokevirtual 175, 3, 11, 0), (11, .if_icmp .ge 75, 3, 14, 86), (14, .aload_n 0, 1, 15, 0), (15, .getfield 54, 3, 18, 0), (18, .iload_n 3, 1, 19, 0), (19, .iaload, 1, 20, 0), (20, .istore 4, 2, 22, 0), (22, .iload 4, 2, 24, 0), (24, .bipush 12, 2, 26, 0), (26, .if_icmp .ge 37, 3, 29, 63), (29, .iload 4, 2, 31, 0), (31, .aload_n 0, 1, 32, 0), (32, .getfield 124, 3, 35, 0), (35, .if_icmp .ge 13, 3, 38, 48), (38, .iload_n 1, 1, 39, 0), (39, .iload 4, 2, 41, 0), (41, .ishr, 1, 42, 0), (42, .iconst 1, 1, 43, 0), (43, .iand, 1, 44, 0), (44, .iconst 1, 1, 45, 0), (45, .if_icmp .ne 5, 3, 48, 50), (48, .iconst 0, 1, 49, 0), (49, .ireturn, 1, 50, 0), (50, .iload_n 1, 1, 51, 0), (51, .iconst 1, 1, 52, 0), (52, .iload 4, 2, 54, 0), (54, .ishl, 1, 55, 0), (55, .ior, 1, 56, 0), (56, .istore_n 1, 1, 57, 0), (57, .iinc 2 1, 3, 60, 0), (60, .goto 20, 3, 63, 80), (63, .iload 4, 2, 65, 0)] = true := by decide +kernel
set_option maxRecDepth 20000 in
theorem k_X10_isRow_1 : ckD cX10_isRow [(65, .bipush 13, 2, 67, 0), (67, .if_icmp .gt 8, 3, 70, 75), (70, .iload_n 2, 1, 71, 0), (71, .iconst 2, 1, 72, 0), (72, .if_icmp .ge 5, 3, 75, 77), (75, .iconst 0, 1, 76, 0), (76, .ireturn, 1, 77, 0), (77, .iinc 2 (-1), 3, 80, 0), (80, .iinc 3 1, 3, 83, 0), (83, .goto (-77), 3, 86, 6), (86, .iload_n 2, 1, 87, 0), (87, .iconst 1, 1, 88, 0), (88, .if_icmp .ne 7, 3, 91, 95), (91, .iconst 1, 1, 92, 0), (92, .goto 4, 3, 95, 96), (95, .iconst 0, 1, 96, 0), (96, .ireturn, 1, 97, 0)] = true := by decide +kernel
def f_X10_isRow_A6 (x2_4 : Int32) : Option Int32 := if x2_4 = (1 : Int32) then some (1 : Int32) else some (0 : Int32)
def f_X10_isRow_J80 (x3_3 : Int32) (p1_9 : Int32) (p2_10 : Int32) : Option ((Int32 × Int32 × Int32) ⊕ (Int32 ⊕ Int32)) := lt1 (x3_3 + 1) fun x3_11 => some (.inl (p1_9, p2_10, x3_11))
def f_X10_isRow_L6 (M : Mm) (x1_1 : Int32) (x2_2 : Int32) (x3_3 : Int32) : Option ((Int32 × Int32 × Int32) ⊕ (Int32 ⊕ Int32)) := if (f_X10_rowSize M) ≤ x3_3 then some (.inr (.inl x2_2)) else rdI 23 M 83 x3_3 fun v_7 => if (12 : Int32) ≤ v_7 then (if (13 : Int32) < v_7 then some (.inr (.inr (0 : Int32))) else if (2 : Int32) ≤ x2_2 then lt1 (x2_2 + (-1)) fun x2_15 => f_X10_isRow_J80 x3_3 x1_1 x2_15 else some (.inr (.inr (0 : Int32)))) else if (M.1 69 1) ≤ v_7 then some (.inr (.inr (0 : Int32))) else if ((x1_1 >>> (v_7 &&& 31)) &&& (1 : Int32)) = (1 : Int32) then some (.inr (.inr (0 : Int32))) else lt1 (x1_1 ||| ((1 : Int32) <<< (v_7 &&& 31))) fun x1_18 => lt1 (x2_2 + 1) fun x2_19 => f_X10_isRow_J80 x3_3 x1_18 x2_19
def f_X10_isRow  (M : Mm) : Option Int32 := (loop (fun v => f_X10_isRow_L6 M v.1 v.2.1 v.2.2) FU ((0 : Int32), (0 : Int32), (0 : Int32))).bind fun x => Sum.elim (fun z => f_X10_isRow_A6 z) (fun o => some o) x
set_option maxRecDepth 100000 in
set_option maxHeartbeats 4000000 in
theorem t_X10_isRow {E : Ev} {l : Launch} (htr : l.stackTraces = false) (M : Mm) (r : Int32) (hf : f_X10_isRow M = some r) : CM E l 1 0 0 yX10_isRow cX10_isRow 5 (some .boolean) [.ref (E.1 + 69)] M (some (.int r)) M := by
  refine CM.of htr (by decide +kernel) (Nat.le_of_ble_eq_true rfl) ?_
  intro K hE hL hl hR0 C hr hRv
  subst hE
  subst hl
  have C : Cx K cX10_isRow RX10 1 := C
  have hB : (0 : Nat) ≤ K.1.R.cells ∧ 0 ≤ K.1.R.slots := ⟨Nat.zero_le _, Nat.zero_le _⟩
  have hL1 : 1 < K.2.2.1 := by rw [hL]; decide
  have hL2 : 2 < K.2.2.1 := by rw [hL]; decide
  have hL3 : 3 < K.2.2.1 := by rw [hL]; decide
  have hL4 : 4 < K.2.2.1 := by rw [hL]; decide
  show G K (0, 0) 0 [(0, .ref (K.2.1.1 + 69))] [] M
  unfold f_X10_isRow at hf
  refine g_iconst (v := (0 : Int32)) C (ckD_get k_X10_isRow_0 0 rfl) (by decide) ?_
  refine g_istore_n (lv' := [(1, _), (0, _)]) C (ckD_get k_X10_isRow_0 1 rfl) rfl hL1 rfl ?_
  refine g_iconst (v := (0 : Int32)) C (ckD_get k_X10_isRow_0 2 rfl) (by decide) ?_
  refine g_istore_n (lv' := [(2, _), (1, _), (0, _)]) C (ckD_get k_X10_isRow_0 3 rfl) rfl hL2 rfl ?_
  refine g_iconst (v := (0 : Int32)) C (ckD_get k_X10_isRow_0 4 rfl) (by decide) ?_
  refine g_istore_n (lv' := [(3, _), (2, _), (1, _), (0, _)]) C (ckD_get k_X10_isRow_0 5 rfl) rfl hL3 rfl ?_
  refine G.sub [3, 2, 1, 0] rfl ?_
  obtain ⟨xx_6, hx_6, hf⟩ := bd_e hf
  have hE_6 : ∀ (x2_4 : Int32), xx_6 = .inl x2_4 → G K (0, 0) 86 [(2, .int x2_4)] [] M := by
    intro x2_4 ex
    subst ex
    have hf : f_X10_isRow_A6 x2_4 = some r := hf
    unfold f_X10_isRow_A6 at hf
    refine g_iload_n 0 C (ckD_get k_X10_isRow_1 10 rfl) rfl rfl ?_
    refine g_iconst (v := (1 : Int32)) C (ckD_get k_X10_isRow_1 11 rfl) (by decide) ?_
    refine g_icmp_ne C (ckD_get k_X10_isRow_1 12 rfl) (fun c_5 => ?_) (fun c_5 => ?_)
    · have hf := if_f hf c_5
      refine g_iconst (v := (0 : Int32)) C (ckD_get k_X10_isRow_1 15 rfl) (by decide) ?_
      cases hf
      exact g_zret C (ckD_get k_X10_isRow_1 16 rfl) hr rfl hRv (Nat.le_refl _) (Nat.le_refl _)
    · have hf := if_t hf c_5
      refine g_iconst (v := (1 : Int32)) C (ckD_get k_X10_isRow_1 13 rfl) (by decide) ?_
      refine g_goto C (ckD_get k_X10_isRow_1 14 rfl) ?_
      cases hf
      exact g_zret C (ckD_get k_X10_isRow_1 16 rfl) hr rfl hRv (Nat.le_refl _) (Nat.le_refl _)
  have hO_6 : ∀ o, xx_6 = .inr o → o = r := by
    intro o eo
    subst eo
    have hf : some o = some r := hf
    cases hf
    rfl
  refine loop_e (x := xx_6) (P := fun (v : (Int32 × Int32 × Int32)) => G K (0, 0) 6 [(0, .ref (K.2.1.1 + 69)), (1, .int v.1), (2, .int v.2.1), (3, .int v.2.2)] [] M) ?_ FU _ hx_6
  intro v rr_6 hf hn_6 hz_6
  obtain ⟨x1_1, x2_2, x3_3⟩ := v
  have hf : f_X10_isRow_L6 M x1_1 x2_2 x3_3 = some rr_6 := hf
  show G K (0, 0) 6 [(0, .ref (K.2.1.1 + 69)), (1, .int x1_1), (2, .int x2_2), (3, .int x3_3)] [] M
  unfold f_X10_isRow_L6 at hf
  refine g_iload_n 3 C (ckD_get k_X10_isRow_0 6 rfl) rfl rfl ?_
  refine g_aload_n 0 C (ckD_get k_X10_isRow_0 7 rfl) rfl rfl ?_
  refine n_cV [] [.int x3_3] C (ckD_get k_X10_isRow_0 8 rfl) vk_X10_175 (t_X10_rowSize C.tr _ _ rfl) T69 rfl rfl (Nat.le_of_ble_eq_true rfl) (by decide) hB rfl ?_
  refine g_icmp_ge C (ckD_get k_X10_isRow_0 9 rfl) (fun c_6 => ?_) (fun c_6 => ?_)
  · have hf := if_t hf c_6
    refine G.sub [2] rfl ?_
    cases hf
    exact hE_6 _ (hz_6 _ rfl).symm
  · have hf := if_f hf c_6
    refine g_aload_n 0 C (ckD_get k_X10_isRow_0 10 rfl) rfl rfl ?_
    refine g_getR C (ckD_get k_X10_isRow_0 11 rfl) fk_X10_54 T69 rfl ?_
    refine g_iload_n 3 C (ckD_get k_X10_isRow_0 12 rfl) rfl rfl ?_
    obtain ⟨v_7, hi_8, ev_7, hf⟩ := rdI_e hf
    refine n_iald C (ckD_get k_X10_isRow_0 13 rfl) T83 hi_8 ev_7 ?_
    refine g_istore (lv' := [(4, _), (0, _), (1, _), (2, _), (3, _)]) C (ckD_get k_X10_isRow_0 14 rfl) hL4 rfl ?_
    refine g_iload 0 C (ckD_get k_X10_isRow_0 15 rfl) rfl ?_
    refine g_bipush (v := (12 : Int32)) C (ckD_get k_X10_isRow_0 16 rfl) (by decide) ?_
    have hJ_80 : ∀ (p1_9 : Int32) (p2_10 : Int32), f_X10_isRow_J80 x3_3 p1_9 p2_10 = some rr_6 → G K (0, 0) 80 [(0, .ref (K.2.1.1 + 69)), (1, .int p1_9), (2, .int p2_10), (3, .int x3_3)] [] M := by
      intro p1_9 p2_10 hf
      unfold f_X10_isRow_J80 at hf
      obtain ⟨x3_11, ex3_11, hf⟩ := lt_e hf
      refine g_iinc (lv' := [(3, _), (0, _), (1, _), (2, _)]) 3 C (ckD_get k_X10_isRow_1 8 rfl) rfl ex3_11 hL3 rfl ?_
      refine g_goto C (ckD_get k_X10_isRow_1 9 rfl) ?_
      refine G.sub [1, 2, 3, 0] rfl ?_
      cases hf
      exact hn_6 _ rfl
    refine g_icmp_ge C (ckD_get k_X10_isRow_0 17 rfl) (fun c_12 => ?_) (fun c_12 => ?_)
    · have hf := if_t hf c_12
      refine g_iload 0 C (ckD_get k_X10_isRow_0 39 rfl) rfl ?_
      refine g_bipush (v := (13 : Int32)) C (ckD_get k_X10_isRow_1 0 rfl) (by decide) ?_
      refine g_icmp_gt C (ckD_get k_X10_isRow_1 1 rfl) (fun c_13 => ?_) (fun c_13 => ?_)
      · have hf := if_t hf c_13
        refine g_iconst (v := (0 : Int32)) C (ckD_get k_X10_isRow_1 5 rfl) (by decide) ?_
        cases hf
        cases hO_6 _ (hz_6 _ rfl).symm
        exact g_zret C (ckD_get k_X10_isRow_1 6 rfl) hr rfl hRv (Nat.le_refl _) (Nat.le_refl _)
      · have hf := if_f hf c_13
        refine g_iload_n 3 C (ckD_get k_X10_isRow_1 2 rfl) rfl rfl ?_
        refine g_iconst (v := (2 : Int32)) C (ckD_get k_X10_isRow_1 3 rfl) (by decide) ?_
        refine g_icmp_ge C (ckD_get k_X10_isRow_1 4 rfl) (fun c_14 => ?_) (fun c_14 => ?_)
        · have hf := if_t hf c_14
          obtain ⟨x2_15, ex2_15, hf⟩ := lt_e hf
          refine g_iinc (lv' := [(2, _), (4, _), (0, _), (1, _), (3, _)]) 3 C (ckD_get k_X10_isRow_1 7 rfl) rfl ex2_15 hL2 rfl ?_
          refine G.sub [2, 3, 0, 4] rfl ?_
          exact hJ_80 _ _ hf
        · have hf := if_f hf c_14
          refine g_iconst (v := (0 : Int32)) C (ckD_get k_X10_isRow_1 5 rfl) (by decide) ?_
          cases hf
          cases hO_6 _ (hz_6 _ rfl).symm
          exact g_zret C (ckD_get k_X10_isRow_1 6 rfl) hr rfl hRv (Nat.le_refl _) (Nat.le_refl _)
    · have hf := if_f hf c_12
      refine g_iload 0 C (ckD_get k_X10_isRow_0 18 rfl) rfl ?_
      refine g_aload_n 1 C (ckD_get k_X10_isRow_0 19 rfl) rfl rfl ?_
      refine g_getI C (ckD_get k_X10_isRow_0 20 rfl) fk_X10_124 T69 rfl ?_
      refine g_icmp_ge C (ckD_get k_X10_isRow_0 21 rfl) (fun c_16 => ?_) (fun c_16 => ?_)
      · have hf := if_t hf c_16
        refine g_iconst (v := (0 : Int32)) C (ckD_get k_X10_isRow_0 29 rfl) (by decide) ?_
        cases hf
        cases hO_6 _ (hz_6 _ rfl).symm
        exact g_zret C (ckD_get k_X10_isRow_0 30 rfl) hr rfl hRv (Nat.le_refl _) (Nat.le_refl _)
      · have hf := if_f hf c_16
        refine g_iload_n 2 C (ckD_get k_X10_isRow_0 22 rfl) rfl rfl ?_
        refine g_iload 0 C (ckD_get k_X10_isRow_0 23 rfl) rfl ?_
        refine g_ishr C (ckD_get k_X10_isRow_0 24 rfl) ?_
        refine g_iconst (v := (1 : Int32)) C (ckD_get k_X10_isRow_0 25 rfl) (by decide) ?_
        refine g_iand C (ckD_get k_X10_isRow_0 26 rfl) ?_
        refine g_iconst (v := (1 : Int32)) C (ckD_get k_X10_isRow_0 27 rfl) (by decide) ?_
        refine g_icmp_ne C (ckD_get k_X10_isRow_0 28 rfl) (fun c_17 => ?_) (fun c_17 => ?_)
        · have hf := if_f hf c_17
          refine g_iload_n 2 C (ckD_get k_X10_isRow_0 31 rfl) rfl rfl ?_
          refine g_iconst (v := (1 : Int32)) C (ckD_get k_X10_isRow_0 32 rfl) (by decide) ?_
          refine g_iload 0 C (ckD_get k_X10_isRow_0 33 rfl) rfl ?_
          refine g_ishl C (ckD_get k_X10_isRow_0 34 rfl) ?_
          refine g_ior C (ckD_get k_X10_isRow_0 35 rfl) ?_
          obtain ⟨x1_18, ex1_18, hf⟩ := lt_e hf
          refine topI ex1_18 ?_
          refine g_istore_n (lv' := [(1, _), (4, _), (0, _), (2, _), (3, _)]) C (ckD_get k_X10_isRow_0 36 rfl) rfl hL1 rfl ?_
          obtain ⟨x2_19, ex2_19, hf⟩ := lt_e hf
          refine g_iinc (lv' := [(2, _), (1, _), (4, _), (0, _), (3, _)]) 3 C (ckD_get k_X10_isRow_0 37 rfl) rfl ex2_19 hL2 rfl ?_
          refine g_goto C (ckD_get k_X10_isRow_0 38 rfl) ?_
          refine G.sub [3, 1, 0, 4] rfl ?_
          exact hJ_80 _ _ hf
        · have hf := if_t hf c_17
          refine g_iconst (v := (0 : Int32)) C (ckD_get k_X10_isRow_0 29 rfl) (by decide) ?_
          cases hf
          cases hO_6 _ (hz_6 _ rfl).symm
          exact g_zret C (ckD_get k_X10_isRow_0 30 rfl) hr rfl hRv (Nat.le_refl _) (Nat.le_refl _)

set_option maxRecDepth 20000 in
theorem k_X10_makeParts_0 : ckD cX10_makeParts [(0, .iconst 0, 1, 1, 0), (1, .istore_n 2, 1, 2, 0), (2, .iconst 0, 1, 3, 0), (3, .istore_n 3, 1, 4, 0), (4, .iload_n 3, 1, 5, 0), (5, .aload_n 0, 1, 6, 0), (6, .invokevirtual 175, 3, 9, 0), (9, .if_icmp .ge 199, 3, 12, 208), (12, .aload_n 1, 1, 13, 0), (13, .iload_n 3, 1, 14, 0), (14, .iaload, 1, 15, 0), (15, .istore 4, 2, 17, 0), (17, .aload_n 0, 1, 18, 0), (18, .getfield 87, 3, 21, 0), (21, .iload_n 3, 1, 22, 0), (22, .iload 4, 2, 24, 0), (24, .iastore, 1, 25, 0), (25, .iload 4, 2, 27, 0), (27, .bipush 12, 2, 29, 0), (29, .if_icmp .ge 30, 3, 32, 59), (32, .aload_n 0, 1, 33, 0), (33, .getfield 72, 3, 36, 0), (36, .iload_n 3, 1, 37, 0), (37, .aload_n 0, 1, 38, 0), (38, .iload 4, 2, 40, 0), (40, .invokevirtual 152, 3, 43, 0), (43, .iastore, 1, 44, 0), (44, .aload_n 0, 1, 45, 0), (45, .getfield 75, 3, 48, 0), (48, .iload_n 3, 1, 49, 0), (49, .aload_n 0, 1, 50, 0), (50, .iload 4, 2, 52, 0), (52, .invokevirtual 162, 3, 55, 0), (55, .iastore, 1, 56, 0), (56, .goto 136, 3, 59, 192), (59, .iinc 2 (-2), 3, 62, 0), (62, .aload_n 0, 1, 63, 0), (63, .getfield 84, 3, 66, 0), (66, .iload_n 2, 1, 67, 0), (67, .iaload, 1, 68, 0)] = true := by decide +kernel
set_option maxRecDepth 20000 in
theorem k_X10_makeParts_1 : ckD cX10_makeParts [(68, .istore 5, 2, 70, 0), (70, .aload_n 0, 1, 71, 0), (71, .getfield 84, 3, 74, 0), (74, .iload_n 2, 1, 75, 0), (75, .iconst 1, 1, 76, 0), (76, .iadd, 1, 77, 0), (77, .iaload, 1, 78, 0), (78, .istore 6, 2, 80, 0), (80, .aload_n 0, 1, 81, 0), (81, .getfield 66, 3, 84, 0), (84, .iload_n 3, 1, 85, 0), (85, .iload 5, 2, 87, 0), (87, .iastore, 1, 88, 0), (88, .aload_n 0, 1, 89, 0), (89, .getfield 69, 3, 92, 0), (92, .iload_n 3, 1, 93, 0), (93, .iload 6, 2, 95, 0), (95, .iastore, 1, 96, 0), (96, .aload_n 0, 1, 97, 0), (97, .getfield 72, 3, 100, 0), (100, .iload_n 3, 1, 101, 0), (101, .iload 4, 2, 103, 0), (103, .bipush 12, 2, 105, 0), (105, .if_icmp .ne 21, 3, 108, 126), (108, .aload_n 0, 1, 109, 0), (109, .getfield 72, 3, 112, 0), (112, .iload 5, 2, 114, 0), (114, .iaload, 1, 115, 0), (115, .aload_n 0, 1, 116, 0), (116, .getfield 72, 3, 119, 0), (119, .iload 6, 2, 121, 0), (121, .iaload, 1, 122, 0), (122, .iadd, 1, 123, 0), (123, .goto 20, 3, 126, 143), (126, .aload_n 0, 1, 127, 0), (127, .getfield 72, 3, 130, 0), (130, .iload 5, 2, 132, 0), (132, .iaload, 1, 133, 0), (133, .aload_n 0, 1, 134, 0), (134, .getfield 72, 3, 137, 0)] = true := by decide +kernel
set_option maxRecDepth 20000 in
theorem k_X10_makeParts_2 : ckD cX10_makeParts [(137, .iload 6, 2, 139, 0), (139, .iaload, 1, 140, 0), (140, .invokestatic 156, 3, 143, 0), (143, .iastore, 1, 144, 0), (144, .aload_n 0, 1, 145, 0), (145, .getfield 75, 3, 148, 0), (148, .iload_n 3, 1, 149, 0), (149, .iload 4, 2, 151, 0), (151, .bipush 12, 2, 153, 0), (153, .if_icmp .ne 23, 3, 156, 176), (156, .aload_n 0, 1, 157, 0), (157, .getfield 75, 3, 160, 0), (160, .iload 5, 2, 162, 0), (162, .iaload, 1, 163, 0), (163, .aload_n 0, 1, 164, 0), (164, .getfield 75, 3, 167, 0), (167, .iload 6, 2, 169, 0), (169, .iaload, 1, 170, 0), (170, .invokestatic 156, 3, 173, 0), (173, .goto 18, 3, 176, 191), (176, .aload_n 0, 1, 177, 0), (177, .getfield 75, 3, 180, 0), (180, .iload 5, 2, 182, 0), (182, .iaload, 1, 183, 0), (183, .aload_n 0, 1, 184, 0), (184, .getfield 75, 3, 187, 0), (187, .iload 6, 2, 189, 0), (189, .iaload, 1, 190, 0), (190, .iadd, 1, 191, 0), (191, .iastore, 1, 192, 0), (192, .aload_n 0, 1, 193, 0), (193, .getfield 84, 3, 196, 0), (196, .iload_n 2, 1, 197, 0), (197, .iload_n 3, 1, 198, 0), (198, .iastore, 1, 199, 0), (199, .iinc 2 1, 3, 202, 0), (202, .iinc 3 1, 3, 205, 0), (205, .goto (-201), 3, 208, 4), (208, .return_, 1, 209, 0)] = true := by decide +kernel
def f_X10_makeParts_A4 (M_4 : Mm) : Option Mm := some M_4
def f_X10_makeParts_J192 (x3_2 : Int32) (p2_10 : Int32) (M_11 : Mm) : Option ((Int32 × Int32 × Mm) ⊕ Mm) := wrI 23 M_11 93 p2_10 x3_2 fun M_12 => lt1 (p2_10 + 1) fun x2_14 => lt1 (x3_2 + 1) fun x3_15 => some (.inl (x2_14, x3_15, M_12))
def f_X10_makeParts_J191 (x3_2 : Int32) (x2_17 : Int32) (M_27 : Mm) (s_29 : Int32) : Option ((Int32 × Int32 × Mm) ⊕ Mm) := wrI 23 M_27 90 x3_2 s_29 fun M_30 => f_X10_makeParts_J192 x3_2 x2_17 M_30
def f_X10_makeParts_J143 (x3_2 : Int32) (v_6 : Int32) (x2_17 : Int32) (v_18 : Int32) (v_20 : Int32) (M_24 : Mm) (s_26 : Int32) : Option ((Int32 × Int32 × Mm) ⊕ Mm) := wrI 23 M_24 89 x3_2 s_26 fun M_27 => if v_6 = (12 : Int32) then rdI 23 M_27 90 v_18 fun v_37 => rdI 23 M_27 90 v_20 fun v_39 => f_X10_makeParts_J191 x3_2 x2_17 M_27 ((jmax v_37 v_39)) else rdI 23 M_27 90 v_18 fun v_33 => rdI 23 M_27 90 v_20 fun v_35 => f_X10_makeParts_J191 x3_2 x2_17 M_27 ((v_33 + v_35))
def f_X10_makeParts_L4 (k1 : Nat) (x2_1 : Int32) (x3_2 : Int32) (M_3 : Mm) : Option ((Int32 × Int32 × Mm) ⊕ Mm) := if (f_X10_rowSize M_3) ≤ x3_2 then some (.inr M_3) else rdI 23 M_3 k1 x3_2 fun v_6 => wrI 23 M_3 94 x3_2 v_6 fun M_8 => if (12 : Int32) ≤ v_6 then lt1 (x2_1 + (-2)) fun x2_17 => rdI 23 M_8 93 x2_17 fun v_18 => rdI 23 M_8 93 (x2_17 + (1 : Int32)) fun v_20 => wrI 23 M_8 87 x3_2 v_18 fun M_22 => wrI 23 M_22 88 x3_2 v_20 fun M_24 => if v_6 = (12 : Int32) then rdI 23 M_24 89 v_18 fun v_46 => rdI 23 M_24 89 v_20 fun v_48 => f_X10_makeParts_J143 x3_2 v_6 x2_17 v_18 v_20 M_24 ((v_46 + v_48)) else rdI 23 M_24 89 v_18 fun v_42 => rdI 23 M_24 89 v_20 fun v_44 => f_X10_makeParts_J143 x3_2 v_6 x2_17 v_18 v_20 M_24 ((jmax v_42 v_44)) else (f_X10_wide v_6 M_8).bind fun r_51 => wrI 23 M_8 89 x3_2 r_51 fun M_52 => (f_X10_high v_6 M_52).bind fun r_55 => wrI 23 M_52 90 x3_2 r_55 fun M_56 => f_X10_makeParts_J192 x3_2 x2_1 M_56
def f_X10_makeParts (k1 : Nat) (M : Mm) : Option Mm := (loop (fun v => f_X10_makeParts_L4 k1 v.1 v.2.1 v.2.2) FU ((0 : Int32), (0 : Int32), M)).bind fun z => f_X10_makeParts_A4 z
set_option maxRecDepth 100000 in
set_option maxHeartbeats 4000000 in
theorem t_X10_makeParts {E : Ev} {l : Launch} (htr : l.stackTraces = false) (k1 : Nat) (hk1 : LT[k1]? = some (0, 23, [])) (M : Mm) (r : Mm) (hf : f_X10_makeParts k1 M = some r) : CM E l 1 0 0 yX10_makeParts cX10_makeParts 7 none [.ref (E.1 + 69), .ref (E.1 + k1)] M none r := by
  refine CM.of htr (by decide +kernel) (Nat.le_of_ble_eq_true rfl) ?_
  intro K hE hL hl hR0 C hr hRv
  subst hE
  subst hl
  have C : Cx K cX10_makeParts RX10 1 := C
  have hB : (0 : Nat) ≤ K.1.R.cells ∧ 0 ≤ K.1.R.slots := ⟨Nat.zero_le _, Nat.zero_le _⟩
  have hL2 : 2 < K.2.2.1 := by rw [hL]; decide
  have hL3 : 3 < K.2.2.1 := by rw [hL]; decide
  have hL4 : 4 < K.2.2.1 := by rw [hL]; decide
  have hL5 : 5 < K.2.2.1 := by rw [hL]; decide
  have hL6 : 6 < K.2.2.1 := by rw [hL]; decide
  show G K (0, 0) 0 [(0, .ref (K.2.1.1 + 69)), (1, .ref (K.2.1.1 + k1))] [] M
  unfold f_X10_makeParts at hf
  refine g_iconst (v := (0 : Int32)) C (ckD_get k_X10_makeParts_0 0 rfl) (by decide) ?_
  refine g_istore_n (lv' := [(2, _), (0, _), (1, _)]) C (ckD_get k_X10_makeParts_0 1 rfl) rfl hL2 rfl ?_
  refine g_iconst (v := (0 : Int32)) C (ckD_get k_X10_makeParts_0 2 rfl) (by decide) ?_
  refine g_istore_n (lv' := [(3, _), (2, _), (0, _), (1, _)]) C (ckD_get k_X10_makeParts_0 3 rfl) rfl hL3 rfl ?_
  refine G.sub [2, 3, 1, 0] rfl ?_
  obtain ⟨M_4, hx_4, hf⟩ := bd_e hf
  have hE_4 : G K (0, 0) 208 [] [] M_4 := by
    have hf : f_X10_makeParts_A4 M_4 = some r := hf
    unfold f_X10_makeParts_A4 at hf
    cases hf
    exact g_vret C (ckD_get k_X10_makeParts_2 38 rfl) hr hRv (Nat.le_refl _) (Nat.le_refl _)
  refine loop_e (x := M_4) (P := fun (v : (Int32 × Int32 × Mm)) => G K (0, 0) 4 [(0, .ref (K.2.1.1 + 69)), (1, .ref (K.2.1.1 + k1)), (2, .int v.1), (3, .int v.2.1)] [] v.2.2) ?_ FU _ hx_4
  intro v rr_4 hf hn_4 hz_4
  obtain ⟨x2_1, x3_2, M_3⟩ := v
  have hf : f_X10_makeParts_L4 k1 x2_1 x3_2 M_3 = some rr_4 := hf
  show G K (0, 0) 4 [(0, .ref (K.2.1.1 + 69)), (1, .ref (K.2.1.1 + k1)), (2, .int x2_1), (3, .int x3_2)] [] M_3
  unfold f_X10_makeParts_L4 at hf
  refine g_iload_n 3 C (ckD_get k_X10_makeParts_0 4 rfl) rfl rfl ?_
  refine g_aload_n 0 C (ckD_get k_X10_makeParts_0 5 rfl) rfl rfl ?_
  refine n_cV [] [.int x3_2] C (ckD_get k_X10_makeParts_0 6 rfl) vk_X10_175 (t_X10_rowSize C.tr _ _ rfl) T69 rfl rfl (Nat.le_of_ble_eq_true rfl) (by decide) hB rfl ?_
  refine g_icmp_ge C (ckD_get k_X10_makeParts_0 7 rfl) (fun c_5 => ?_) (fun c_5 => ?_)
  · have hf := if_t hf c_5
    refine G.sub [] rfl ?_
    cases hf
    cases hz_4 _ rfl
    exact hE_4
  · have hf := if_f hf c_5
    refine g_aload_n 1 C (ckD_get k_X10_makeParts_0 8 rfl) rfl rfl ?_
    refine g_iload_n 3 C (ckD_get k_X10_makeParts_0 9 rfl) rfl rfl ?_
    obtain ⟨v_6, hi_7, ev_6, hf⟩ := rdI_e hf
    refine n_iald C (ckD_get k_X10_makeParts_0 10 rfl) hk1 hi_7 ev_6 ?_
    refine g_istore (lv' := [(4, _), (0, _), (1, _), (2, _), (3, _)]) C (ckD_get k_X10_makeParts_0 11 rfl) hL4 rfl ?_
    refine g_aload_n 1 C (ckD_get k_X10_makeParts_0 12 rfl) rfl rfl ?_
    refine g_getR C (ckD_get k_X10_makeParts_0 13 rfl) fk_X10_87 T69 rfl ?_
    refine g_iload_n 4 C (ckD_get k_X10_makeParts_0 14 rfl) rfl rfl ?_
    refine g_iload 0 C (ckD_get k_X10_makeParts_0 15 rfl) rfl ?_
    obtain ⟨M_8, hi_9, eM_8, hf⟩ := wrI_e hf
    refine n_iast C (ckD_get k_X10_makeParts_0 16 rfl) T94 hi_9 eM_8 ?_
    refine g_iload 0 C (ckD_get k_X10_makeParts_0 17 rfl) rfl ?_
    refine g_bipush (v := (12 : Int32)) C (ckD_get k_X10_makeParts_0 18 rfl) (by decide) ?_
    have hJ_192 : ∀ (p2_10 : Int32) (M_11 : Mm), f_X10_makeParts_J192 x3_2 p2_10 M_11 = some rr_4 → G K (0, 0) 192 [(0, .ref (K.2.1.1 + 69)), (1, .ref (K.2.1.1 + k1)), (2, .int p2_10), (3, .int x3_2)] [] M_11 := by
      intro p2_10 M_11 hf
      unfold f_X10_makeParts_J192 at hf
      refine g_aload_n 0 C (ckD_get k_X10_makeParts_2 30 rfl) rfl rfl ?_
      refine g_getR C (ckD_get k_X10_makeParts_2 31 rfl) fk_X10_84 T69 rfl ?_
      refine g_iload_n 2 C (ckD_get k_X10_makeParts_2 32 rfl) rfl rfl ?_
      refine g_iload_n 3 C (ckD_get k_X10_makeParts_2 33 rfl) rfl rfl ?_
      obtain ⟨M_12, hi_13, eM_12, hf⟩ := wrI_e hf
      refine n_iast C (ckD_get k_X10_makeParts_2 34 rfl) T93 hi_13 eM_12 ?_
      obtain ⟨x2_14, ex2_14, hf⟩ := lt_e hf
      refine g_iinc (lv' := [(2, _), (0, _), (1, _), (3, _)]) 2 C (ckD_get k_X10_makeParts_2 35 rfl) rfl ex2_14 hL2 rfl ?_
      obtain ⟨x3_15, ex3_15, hf⟩ := lt_e hf
      refine g_iinc (lv' := [(3, _), (2, _), (0, _), (1, _)]) 3 C (ckD_get k_X10_makeParts_2 36 rfl) rfl ex3_15 hL3 rfl ?_
      refine g_goto C (ckD_get k_X10_makeParts_2 37 rfl) ?_
      refine G.sub [2, 3, 1, 0] rfl ?_
      cases hf
      exact hn_4 _ rfl
    refine g_icmp_ge C (ckD_get k_X10_makeParts_0 19 rfl) (fun c_16 => ?_) (fun c_16 => ?_)
    · have hf := if_t hf c_16
      obtain ⟨x2_17, ex2_17, hf⟩ := lt_e hf
      refine g_iinc (lv' := [(2, _), (4, _), (0, _), (1, _), (3, _)]) 3 C (ckD_get k_X10_makeParts_0 35 rfl) rfl ex2_17 hL2 rfl ?_
      refine g_aload_n 2 C (ckD_get k_X10_makeParts_0 36 rfl) rfl rfl ?_
      refine g_getR C (ckD_get k_X10_makeParts_0 37 rfl) fk_X10_84 T69 rfl ?_
      refine g_iload_n 0 C (ckD_get k_X10_makeParts_0 38 rfl) rfl rfl ?_
      obtain ⟨v_18, hi_19, ev_18, hf⟩ := rdI_e hf
      refine n_iald C (ckD_get k_X10_makeParts_0 39 rfl) T93 hi_19 ev_18 ?_
      refine g_istore (lv' := [(5, _), (2, _), (4, _), (0, _), (1, _), (3, _)]) C (ckD_get k_X10_makeParts_1 0 rfl) hL5 rfl ?_
      refine g_aload_n 3 C (ckD_get k_X10_makeParts_1 1 rfl) rfl rfl ?_
      refine g_getR C (ckD_get k_X10_makeParts_1 2 rfl) fk_X10_84 T69 rfl ?_
      refine g_iload_n 1 C (ckD_get k_X10_makeParts_1 3 rfl) rfl rfl ?_
      refine g_iconst (v := (1 : Int32)) C (ckD_get k_X10_makeParts_1 4 rfl) (by decide) ?_
      refine g_iadd C (ckD_get k_X10_makeParts_1 5 rfl) ?_
      obtain ⟨v_20, hi_21, ev_20, hf⟩ := rdI_e hf
      refine n_iald C (ckD_get k_X10_makeParts_1 6 rfl) T93 hi_21 ev_20 ?_
      refine g_istore (lv' := [(6, _), (5, _), (2, _), (4, _), (0, _), (1, _), (3, _)]) C (ckD_get k_X10_makeParts_1 7 rfl) hL6 rfl ?_
      refine g_aload_n 4 C (ckD_get k_X10_makeParts_1 8 rfl) rfl rfl ?_
      refine g_getR C (ckD_get k_X10_makeParts_1 9 rfl) fk_X10_66 T69 rfl ?_
      refine g_iload_n 6 C (ckD_get k_X10_makeParts_1 10 rfl) rfl rfl ?_
      refine g_iload 1 C (ckD_get k_X10_makeParts_1 11 rfl) rfl ?_
      obtain ⟨M_22, hi_23, eM_22, hf⟩ := wrI_e hf
      refine n_iast C (ckD_get k_X10_makeParts_1 12 rfl) T87 hi_23 eM_22 ?_
      refine g_aload_n 4 C (ckD_get k_X10_makeParts_1 13 rfl) rfl rfl ?_
      refine g_getR C (ckD_get k_X10_makeParts_1 14 rfl) fk_X10_69 T69 rfl ?_
      refine g_iload_n 6 C (ckD_get k_X10_makeParts_1 15 rfl) rfl rfl ?_
      refine g_iload 0 C (ckD_get k_X10_makeParts_1 16 rfl) rfl ?_
      obtain ⟨M_24, hi_25, eM_24, hf⟩ := wrI_e hf
      refine n_iast C (ckD_get k_X10_makeParts_1 17 rfl) T88 hi_25 eM_24 ?_
      refine g_aload_n 4 C (ckD_get k_X10_makeParts_1 18 rfl) rfl rfl ?_
      refine g_getR C (ckD_get k_X10_makeParts_1 19 rfl) fk_X10_72 T69 rfl ?_
      refine g_iload_n 6 C (ckD_get k_X10_makeParts_1 20 rfl) rfl rfl ?_
      refine g_iload 3 C (ckD_get k_X10_makeParts_1 21 rfl) rfl ?_
      refine g_bipush (v := (12 : Int32)) C (ckD_get k_X10_makeParts_1 22 rfl) (by decide) ?_
      have hJ_143 : ∀ (s_26 : Int32), f_X10_makeParts_J143 x3_2 v_6 x2_17 v_18 v_20 M_24 s_26 = some rr_4 → G K (0, 0) 143 [(0, .ref (K.2.1.1 + 69)), (1, .ref (K.2.1.1 + k1)), (2, .int x2_17), (3, .int x3_2), (4, .int v_6), (5, .int v_18), (6, .int v_20)] [.int s_26, .int x3_2, .ref (K.2.1.1 + 89)] M_24 := by
        intro s_26 hf
        unfold f_X10_makeParts_J143 at hf
        obtain ⟨M_27, hi_28, eM_27, hf⟩ := wrI_e hf
        refine n_iast C (ckD_get k_X10_makeParts_2 3 rfl) T89 hi_28 eM_27 ?_
        refine g_aload_n 0 C (ckD_get k_X10_makeParts_2 4 rfl) rfl rfl ?_
        refine g_getR C (ckD_get k_X10_makeParts_2 5 rfl) fk_X10_75 T69 rfl ?_
        refine g_iload_n 3 C (ckD_get k_X10_makeParts_2 6 rfl) rfl rfl ?_
        refine g_iload 4 C (ckD_get k_X10_makeParts_2 7 rfl) rfl ?_
        refine g_bipush (v := (12 : Int32)) C (ckD_get k_X10_makeParts_2 8 rfl) (by decide) ?_
        have hJ_191 : ∀ (s_29 : Int32), f_X10_makeParts_J191 x3_2 x2_17 M_27 s_29 = some rr_4 → G K (0, 0) 191 [(0, .ref (K.2.1.1 + 69)), (1, .ref (K.2.1.1 + k1)), (2, .int x2_17), (3, .int x3_2)] [.int s_29, .int x3_2, .ref (K.2.1.1 + 90)] M_27 := by
          intro s_29 hf
          unfold f_X10_makeParts_J191 at hf
          obtain ⟨M_30, hi_31, eM_30, hf⟩ := wrI_e hf
          refine n_iast C (ckD_get k_X10_makeParts_2 29 rfl) T90 hi_31 eM_30 ?_
          exact hJ_192 _ _ hf
        refine g_icmp_ne C (ckD_get k_X10_makeParts_2 9 rfl) (fun c_32 => ?_) (fun c_32 => ?_)
        · have hf := if_f hf c_32
          refine g_aload_n 0 C (ckD_get k_X10_makeParts_2 20 rfl) rfl rfl ?_
          refine g_getR C (ckD_get k_X10_makeParts_2 21 rfl) fk_X10_75 T69 rfl ?_
          refine g_iload 5 C (ckD_get k_X10_makeParts_2 22 rfl) rfl ?_
          obtain ⟨v_33, hi_34, ev_33, hf⟩ := rdI_e hf
          refine n_iald C (ckD_get k_X10_makeParts_2 23 rfl) T90 hi_34 ev_33 ?_
          refine g_aload_n 0 C (ckD_get k_X10_makeParts_2 24 rfl) rfl rfl ?_
          refine g_getR C (ckD_get k_X10_makeParts_2 25 rfl) fk_X10_75 T69 rfl ?_
          refine g_iload 6 C (ckD_get k_X10_makeParts_2 26 rfl) rfl ?_
          obtain ⟨v_35, hi_36, ev_35, hf⟩ := rdI_e hf
          refine n_iald C (ckD_get k_X10_makeParts_2 27 rfl) T90 hi_36 ev_35 ?_
          refine g_iadd C (ckD_get k_X10_makeParts_2 28 rfl) ?_
          refine G.sub [0, 1, 2, 3] rfl ?_
          exact hJ_191 _ hf
        · have hf := if_t hf c_32
          refine g_aload_n 0 C (ckD_get k_X10_makeParts_2 10 rfl) rfl rfl ?_
          refine g_getR C (ckD_get k_X10_makeParts_2 11 rfl) fk_X10_75 T69 rfl ?_
          refine g_iload 5 C (ckD_get k_X10_makeParts_2 12 rfl) rfl ?_
          obtain ⟨v_37, hi_38, ev_37, hf⟩ := rdI_e hf
          refine n_iald C (ckD_get k_X10_makeParts_2 13 rfl) T90 hi_38 ev_37 ?_
          refine g_aload_n 0 C (ckD_get k_X10_makeParts_2 14 rfl) rfl rfl ?_
          refine g_getR C (ckD_get k_X10_makeParts_2 15 rfl) fk_X10_75 T69 rfl ?_
          refine g_iload 6 C (ckD_get k_X10_makeParts_2 16 rfl) rfl ?_
          obtain ⟨v_39, hi_40, ev_39, hf⟩ := rdI_e hf
          refine n_iald C (ckD_get k_X10_makeParts_2 17 rfl) T90 hi_40 ev_39 ?_
          refine n_mmax C (ckD_get k_X10_makeParts_2 18 rfl) mk_X10_156 (by decide) (Nat.le_of_ble_eq_true rfl) hB ?_
          refine g_goto C (ckD_get k_X10_makeParts_2 19 rfl) ?_
          refine G.sub [0, 1, 2, 3] rfl ?_
          exact hJ_191 _ hf
      refine g_icmp_ne C (ckD_get k_X10_makeParts_1 23 rfl) (fun c_41 => ?_) (fun c_41 => ?_)
      · have hf := if_f hf c_41
        refine g_aload_n 4 C (ckD_get k_X10_makeParts_1 34 rfl) rfl rfl ?_
        refine g_getR C (ckD_get k_X10_makeParts_1 35 rfl) fk_X10_72 T69 rfl ?_
        refine g_iload 1 C (ckD_get k_X10_makeParts_1 36 rfl) rfl ?_
        obtain ⟨v_42, hi_43, ev_42, hf⟩ := rdI_e hf
        refine n_iald C (ckD_get k_X10_makeParts_1 37 rfl) T89 hi_43 ev_42 ?_
        refine g_aload_n 4 C (ckD_get k_X10_makeParts_1 38 rfl) rfl rfl ?_
        refine g_getR C (ckD_get k_X10_makeParts_1 39 rfl) fk_X10_72 T69 rfl ?_
        refine g_iload 0 C (ckD_get k_X10_makeParts_2 0 rfl) rfl ?_
        obtain ⟨v_44, hi_45, ev_44, hf⟩ := rdI_e hf
        refine n_iald C (ckD_get k_X10_makeParts_2 1 rfl) T89 hi_45 ev_44 ?_
        refine n_mmax C (ckD_get k_X10_makeParts_2 2 rfl) mk_X10_156 (by decide) (Nat.le_of_ble_eq_true rfl) hB ?_
        refine G.sub [4, 5, 2, 6, 3, 1, 0] rfl ?_
        exact hJ_143 _ hf
      · have hf := if_t hf c_41
        refine g_aload_n 4 C (ckD_get k_X10_makeParts_1 24 rfl) rfl rfl ?_
        refine g_getR C (ckD_get k_X10_makeParts_1 25 rfl) fk_X10_72 T69 rfl ?_
        refine g_iload 1 C (ckD_get k_X10_makeParts_1 26 rfl) rfl ?_
        obtain ⟨v_46, hi_47, ev_46, hf⟩ := rdI_e hf
        refine n_iald C (ckD_get k_X10_makeParts_1 27 rfl) T89 hi_47 ev_46 ?_
        refine g_aload_n 4 C (ckD_get k_X10_makeParts_1 28 rfl) rfl rfl ?_
        refine g_getR C (ckD_get k_X10_makeParts_1 29 rfl) fk_X10_72 T69 rfl ?_
        refine g_iload 0 C (ckD_get k_X10_makeParts_1 30 rfl) rfl ?_
        obtain ⟨v_48, hi_49, ev_48, hf⟩ := rdI_e hf
        refine n_iald C (ckD_get k_X10_makeParts_1 31 rfl) T89 hi_49 ev_48 ?_
        refine g_iadd C (ckD_get k_X10_makeParts_1 32 rfl) ?_
        refine g_goto C (ckD_get k_X10_makeParts_1 33 rfl) ?_
        refine G.sub [4, 5, 2, 6, 3, 1, 0] rfl ?_
        exact hJ_143 _ hf
    · have hf := if_f hf c_16
      refine g_aload_n 1 C (ckD_get k_X10_makeParts_0 20 rfl) rfl rfl ?_
      refine g_getR C (ckD_get k_X10_makeParts_0 21 rfl) fk_X10_72 T69 rfl ?_
      refine g_iload_n 4 C (ckD_get k_X10_makeParts_0 22 rfl) rfl rfl ?_
      refine g_aload_n 1 C (ckD_get k_X10_makeParts_0 23 rfl) rfl rfl ?_
      refine g_iload 0 C (ckD_get k_X10_makeParts_0 24 rfl) rfl ?_
      obtain ⟨r_51, hr_50, hf⟩ := bd_e hf
      refine n_cV [.int v_6] [.int x3_2, .ref (K.2.1.1 + 89)] C (ckD_get k_X10_makeParts_0 25 rfl) vk_X10_152 (t_X10_wide C.tr _ _ _ hr_50) T69 rfl rfl (Nat.le_of_ble_eq_true rfl) (by decide) hB rfl ?_
      obtain ⟨M_52, hi_53, eM_52, hf⟩ := wrI_e hf
      refine n_iast C (ckD_get k_X10_makeParts_0 26 rfl) T89 hi_53 eM_52 ?_
      refine g_aload_n 1 C (ckD_get k_X10_makeParts_0 27 rfl) rfl rfl ?_
      refine g_getR C (ckD_get k_X10_makeParts_0 28 rfl) fk_X10_75 T69 rfl ?_
      refine g_iload_n 4 C (ckD_get k_X10_makeParts_0 29 rfl) rfl rfl ?_
      refine g_aload_n 1 C (ckD_get k_X10_makeParts_0 30 rfl) rfl rfl ?_
      refine g_iload 0 C (ckD_get k_X10_makeParts_0 31 rfl) rfl ?_
      obtain ⟨r_55, hr_54, hf⟩ := bd_e hf
      refine n_cV [.int v_6] [.int x3_2, .ref (K.2.1.1 + 90)] C (ckD_get k_X10_makeParts_0 32 rfl) vk_X10_162 (t_X10_high C.tr _ _ _ hr_54) T69 rfl rfl (Nat.le_of_ble_eq_true rfl) (by decide) hB rfl ?_
      obtain ⟨M_56, hi_57, eM_56, hf⟩ := wrI_e hf
      refine n_iast C (ckD_get k_X10_makeParts_0 33 rfl) T90 hi_57 eM_56 ?_
      refine g_goto C (ckD_get k_X10_makeParts_0 34 rfl) ?_
      refine G.sub [1, 2, 3, 4] rfl ?_
      exact hJ_192 _ _ hf

set_option maxRecDepth 20000 in
theorem k_X10_layCuts_0 : ckD cX10_layCuts [(0, .aload_n 0, 1, 1, 0), (1, .aload_n 0, 1, 2, 0), (2, .getfield 39, 3, 5, 0), (5, .invokevirtual 178, 3, 8, 0), (8, .aload_n 0, 1, 9, 0), (9, .invokevirtual 175, 3, 12, 0), (12, .iconst 1, 1, 13, 0), (13, .isub, 1, 14, 0), (14, .istore_n 1, 1, 15, 0), (15, .aload_n 0, 1, 16, 0), (16, .getfield 78, 3, 19, 0), (19, .iload_n 1, 1, 20, 0), (20, .iconst 0, 1, 21, 0), (21, .iastore, 1, 22, 0), (22, .aload_n 0, 1, 23, 0), (23, .getfield 81, 3, 26, 0), (26, .iload_n 1, 1, 27, 0), (27, .iconst 0, 1, 28, 0), (28, .iastore, 1, 29, 0), (29, .iload_n 1, 1, 30, 0), (30, .istore_n 2, 1, 31, 0), (31, .iload_n 2, 1, 32, 0), (32, .ifCond .lt 153, 3, 35, 185), (35, .aload_n 0, 1, 36, 0), (36, .getfield 87, 3, 39, 0), (39, .iload_n 2, 1, 40, 0), (40, .iaload, 1, 41, 0), (41, .istore_n 3, 1, 42, 0), (42, .iload_n 3, 1, 43, 0), (43, .bipush 12, 2, 45, 0), (45, .if_icmp .ge 30, 3, 48, 75), (48, .aload_n 0, 1, 49, 0), (49, .getfield 27, 3, 52, 0), (52, .iload_n 3, 1, 53, 0), (53, .aload_n 0, 1, 54, 0), (54, .getfield 78, 3, 57, 0), (57, .iload_n 2, 1, 58, 0), (58, .iaload, 1, 59, 0), (59, .iastore, 1, 60, 0), (60, .aload_n 0, 1, 61, 0)] = true := by decide +kernel
set_option maxRecDepth 20000 in
theorem k_X10_layCuts_1 : ckD cX10_layCuts [(61, .getfield 30, 3, 64, 0), (64, .iload_n 3, 1, 65, 0), (65, .aload_n 0, 1, 66, 0), (66, .getfield 81, 3, 69, 0), (69, .iload_n 2, 1, 70, 0), (70, .iaload, 1, 71, 0), (71, .iastore, 1, 72, 0), (72, .goto 107, 3, 75, 179), (75, .aload_n 0, 1, 76, 0), (76, .getfield 66, 3, 79, 0), (79, .iload_n 2, 1, 80, 0), (80, .iaload, 1, 81, 0), (81, .istore 4, 2, 83, 0), (83, .aload_n 0, 1, 84, 0), (84, .getfield 69, 3, 87, 0), (87, .iload_n 2, 1, 88, 0), (88, .iaload, 1, 89, 0), (89, .istore 5, 2, 91, 0), (91, .aload_n 0, 1, 92, 0), (92, .getfield 78, 3, 95, 0), (95, .iload 4, 2, 97, 0), (97, .aload_n 0, 1, 98, 0), (98, .getfield 78, 3, 101, 0), (101, .iload_n 2, 1, 102, 0), (102, .iaload, 1, 103, 0), (103, .iastore, 1, 104, 0), (104, .aload_n 0, 1, 105, 0), (105, .getfield 81, 3, 108, 0), (108, .iload 4, 2, 110, 0), (110, .aload_n 0, 1, 111, 0), (111, .getfield 81, 3, 114, 0), (114, .iload_n 2, 1, 115, 0), (115, .iaload, 1, 116, 0), (116, .iastore, 1, 117, 0), (117, .aload_n 0, 1, 118, 0), (118, .getfield 78, 3, 121, 0), (121, .iload 5, 2, 123, 0), (123, .aload_n 0, 1, 124, 0), (124, .getfield 78, 3, 127, 0), (127, .iload_n 2, 1, 128, 0)] = true := by decide +kernel
set_option maxRecDepth 20000 in
theorem k_X10_layCuts_2 : ckD cX10_layCuts [(128, .iaload, 1, 129, 0), (129, .iload_n 3, 1, 130, 0), (130, .bipush 12, 2, 132, 0), (132, .if_icmp .ne 13, 3, 135, 145), (135, .aload_n 0, 1, 136, 0), (136, .getfield 72, 3, 139, 0), (139, .iload 4, 2, 141, 0), (141, .iaload, 1, 142, 0), (142, .goto 4, 3, 145, 146), (145, .iconst 0, 1, 146, 0), (146, .iadd, 1, 147, 0), (147, .iastore, 1, 148, 0), (148, .aload_n 0, 1, 149, 0), (149, .getfield 81, 3, 152, 0), (152, .iload 5, 2, 154, 0), (154, .aload_n 0, 1, 155, 0), (155, .getfield 81, 3, 158, 0), (158, .iload_n 2, 1, 159, 0), (159, .iaload, 1, 160, 0), (160, .iload_n 3, 1, 161, 0), (161, .bipush 13, 2, 163, 0), (163, .if_icmp .ne 13, 3, 166, 176), (166, .aload_n 0, 1, 167, 0), (167, .getfield 75, 3, 170, 0), (170, .iload 4, 2, 172, 0), (172, .iaload, 1, 173, 0), (173, .goto 4, 3, 176, 177), (176, .iconst 0, 1, 177, 0), (177, .iadd, 1, 178, 0), (178, .iastore, 1, 179, 0), (179, .iinc 2 (-1), 3, 182, 0), (182, .goto (-151), 3, 185, 31), (185, .aload_n 0, 1, 186, 0), (186, .iconst 2, 1, 187, 0), (187, .putfield 23, 3, 190, 0), (190, .return_, 1, 191, 0)] = true := by decide +kernel
def f_X10_layCuts_A31 (M_10 : Mm) : Option Mm := lt1 (wi M_10 69 6 (2 : Int32)) fun M_11 => some M_11
def f_X10_layCuts_J179 (x2_8 : Int32) (M_15 : Mm) : Option ((Int32 × Mm) ⊕ Mm) := lt1 (x2_8 + (-1)) fun x2_16 => some (.inl (x2_16, M_15))
def f_X10_layCuts_J177 (x2_8 : Int32) (v_20 : Int32) (M_33 : Mm) (v_35 : Int32) (s_37 : Int32) : Option ((Int32 × Mm) ⊕ Mm) := wrI 23 M_33 92 v_20 (v_35 + s_37) fun M_38 => f_X10_layCuts_J179 x2_8 M_38
def f_X10_layCuts_J146 (x2_8 : Int32) (v_13 : Int32) (v_18 : Int32) (v_20 : Int32) (M_28 : Mm) (v_30 : Int32) (s_32 : Int32) : Option ((Int32 × Mm) ⊕ Mm) := wrI 23 M_28 91 v_20 (v_30 + s_32) fun M_33 => rdI 23 M_33 92 x2_8 fun v_35 => if v_13 = (13 : Int32) then rdI 23 M_33 90 v_18 fun v_41 => f_X10_layCuts_J177 x2_8 v_20 M_33 v_35 v_41 else f_X10_layCuts_J177 x2_8 v_20 M_33 v_35 (0 : Int32)
def f_X10_layCuts_L31 (x2_8 : Int32) (M_9 : Mm) : Option ((Int32 × Mm) ⊕ Mm) := if x2_8 < 0 then some (.inr M_9) else rdI 23 M_9 94 x2_8 fun v_13 => if (12 : Int32) ≤ v_13 then rdI 23 M_9 87 x2_8 fun v_18 => rdI 23 M_9 88 x2_8 fun v_20 => rdI 23 M_9 91 x2_8 fun v_22 => wrI 23 M_9 91 v_18 v_22 fun M_24 => rdI 23 M_24 92 x2_8 fun v_26 => wrI 23 M_24 92 v_18 v_26 fun M_28 => rdI 23 M_28 91 x2_8 fun v_30 => if v_13 = (12 : Int32) then rdI 23 M_28 89 v_18 fun v_44 => f_X10_layCuts_J146 x2_8 v_13 v_18 v_20 M_28 v_30 v_44 else f_X10_layCuts_J146 x2_8 v_13 v_18 v_20 M_28 v_30 (0 : Int32) else rdI 23 M_9 91 x2_8 fun v_46 => wrI 12 M_9 74 v_13 v_46 fun M_48 => rdI 23 M_48 92 x2_8 fun v_50 => wrI 12 M_48 75 v_13 v_50 fun M_52 => f_X10_layCuts_J179 x2_8 M_52
def f_X10_layCuts  (M : Mm) : Option Mm := (f_X10_makeParts 78 M).bind fun M_2 => lt1 ((f_X10_rowSize M_2) - (1 : Int32)) fun x1_3 => wrI 23 M_2 91 x1_3 (0 : Int32) fun M_4 => wrI 23 M_4 92 x1_3 (0 : Int32) fun M_6 => (loop (fun v => f_X10_layCuts_L31 v.1 v.2) FU (x1_3, M_6)).bind fun z => f_X10_layCuts_A31 z
set_option maxRecDepth 100000 in
set_option maxHeartbeats 4000000 in
theorem t_X10_layCuts {E : Ev} {l : Launch} (htr : l.stackTraces = false) (M : Mm) (r : Mm) (hf : f_X10_layCuts M = some r) : CM E l 2 0 0 yX10_layCuts cX10_layCuts 6 none [.ref (E.1 + 69)] M none r := by
  refine CM.of htr (by decide +kernel) (Nat.le_of_ble_eq_true rfl) ?_
  intro K hE hL hl hR0 C hr hRv
  subst hE
  subst hl
  have C : Cx K cX10_layCuts RX10 2 := C
  have hB : (0 : Nat) ≤ K.1.R.cells ∧ 0 ≤ K.1.R.slots := ⟨Nat.zero_le _, Nat.zero_le _⟩
  have hL1 : 1 < K.2.2.1 := by rw [hL]; decide
  have hL2 : 2 < K.2.2.1 := by rw [hL]; decide
  have hL3 : 3 < K.2.2.1 := by rw [hL]; decide
  have hL4 : 4 < K.2.2.1 := by rw [hL]; decide
  have hL5 : 5 < K.2.2.1 := by rw [hL]; decide
  show G K (0, 0) 0 [(0, .ref (K.2.1.1 + 69))] [] M
  unfold f_X10_layCuts at hf
  refine g_aload_n 0 C (ckD_get k_X10_layCuts_0 0 rfl) rfl rfl ?_
  refine g_aload_n 0 C (ckD_get k_X10_layCuts_0 1 rfl) rfl rfl ?_
  refine g_getR C (ckD_get k_X10_layCuts_0 2 rfl) fk_X10_39 T69 rfl ?_
  obtain ⟨M_2, hr_1, hf⟩ := bd_e hf
  refine n_cV [.ref (K.2.1.1 + 78)] [] C (ckD_get k_X10_layCuts_0 3 rfl) vk_X10_178 (t_X10_makeParts C.tr _ T78 _ _ hr_1) T69 rfl rfl (Nat.le_of_ble_eq_true rfl) (by decide) hB rfl ?_
  refine g_aload_n 0 C (ckD_get k_X10_layCuts_0 4 rfl) rfl rfl ?_
  refine n_cV [] [] C (ckD_get k_X10_layCuts_0 5 rfl) vk_X10_175 (t_X10_rowSize C.tr _ _ rfl) T69 rfl rfl (Nat.le_of_ble_eq_true rfl) (by decide) hB rfl ?_
  refine g_iconst (v := (1 : Int32)) C (ckD_get k_X10_layCuts_0 6 rfl) (by decide) ?_
  refine g_isub C (ckD_get k_X10_layCuts_0 7 rfl) ?_
  obtain ⟨x1_3, ex1_3, hf⟩ := lt_e hf
  refine topI ex1_3 ?_
  refine g_istore_n (lv' := [(1, _), (0, _)]) C (ckD_get k_X10_layCuts_0 8 rfl) rfl hL1 rfl ?_
  refine g_aload_n 1 C (ckD_get k_X10_layCuts_0 9 rfl) rfl rfl ?_
  refine g_getR C (ckD_get k_X10_layCuts_0 10 rfl) fk_X10_78 T69 rfl ?_
  refine g_iload_n 0 C (ckD_get k_X10_layCuts_0 11 rfl) rfl rfl ?_
  refine g_iconst (v := (0 : Int32)) C (ckD_get k_X10_layCuts_0 12 rfl) (by decide) ?_
  obtain ⟨M_4, hi_5, eM_4, hf⟩ := wrI_e hf
  refine n_iast C (ckD_get k_X10_layCuts_0 13 rfl) T91 hi_5 eM_4 ?_
  refine g_aload_n 1 C (ckD_get k_X10_layCuts_0 14 rfl) rfl rfl ?_
  refine g_getR C (ckD_get k_X10_layCuts_0 15 rfl) fk_X10_81 T69 rfl ?_
  refine g_iload_n 0 C (ckD_get k_X10_layCuts_0 16 rfl) rfl rfl ?_
  refine g_iconst (v := (0 : Int32)) C (ckD_get k_X10_layCuts_0 17 rfl) (by decide) ?_
  obtain ⟨M_6, hi_7, eM_6, hf⟩ := wrI_e hf
  refine n_iast C (ckD_get k_X10_layCuts_0 18 rfl) T92 hi_7 eM_6 ?_
  refine g_iload_n 0 C (ckD_get k_X10_layCuts_0 19 rfl) rfl rfl ?_
  refine g_istore_n (lv' := [(2, _), (1, _), (0, _)]) C (ckD_get k_X10_layCuts_0 20 rfl) rfl hL2 rfl ?_
  refine G.sub [2, 0] rfl ?_
  obtain ⟨M_10, hx_31, hf⟩ := bd_e hf
  have hE_31 : G K (0, 0) 185 [(0, .ref (K.2.1.1 + 69))] [] M_10 := by
    have hf : f_X10_layCuts_A31 M_10 = some r := hf
    unfold f_X10_layCuts_A31 at hf
    refine g_aload_n 0 C (ckD_get k_X10_layCuts_2 32 rfl) rfl rfl ?_
    refine g_iconst (v := (2 : Int32)) C (ckD_get k_X10_layCuts_2 33 rfl) (by decide) ?_
    obtain ⟨M_11, eM_11, hf⟩ := lt_e hf
    refine g_putI C (ckD_get k_X10_layCuts_2 34 rfl) fk_X10_23 T69 rfl ?_
    refine memI eM_11 ?_
    cases hf
    exact g_vret C (ckD_get k_X10_layCuts_2 35 rfl) hr hRv (Nat.le_refl _) (Nat.le_refl _)
  refine loop_e (x := M_10) (P := fun (v : (Int32 × Mm)) => G K (0, 0) 31 [(0, .ref (K.2.1.1 + 69)), (2, .int v.1)] [] v.2) ?_ FU _ hx_31
  intro v rr_31 hf hn_31 hz_31
  obtain ⟨x2_8, M_9⟩ := v
  have hf : f_X10_layCuts_L31 x2_8 M_9 = some rr_31 := hf
  show G K (0, 0) 31 [(0, .ref (K.2.1.1 + 69)), (2, .int x2_8)] [] M_9
  unfold f_X10_layCuts_L31 at hf
  refine g_iload_n 1 C (ckD_get k_X10_layCuts_0 21 rfl) rfl rfl ?_
  refine g_if_lt C (ckD_get k_X10_layCuts_0 22 rfl) (fun c_12 => ?_) (fun c_12 => ?_)
  · have hf := if_t hf c_12
    refine G.sub [0] rfl ?_
    cases hf
    cases hz_31 _ rfl
    exact hE_31
  · have hf := if_f hf c_12
    refine g_aload_n 0 C (ckD_get k_X10_layCuts_0 23 rfl) rfl rfl ?_
    refine g_getR C (ckD_get k_X10_layCuts_0 24 rfl) fk_X10_87 T69 rfl ?_
    refine g_iload_n 1 C (ckD_get k_X10_layCuts_0 25 rfl) rfl rfl ?_
    obtain ⟨v_13, hi_14, ev_13, hf⟩ := rdI_e hf
    refine n_iald C (ckD_get k_X10_layCuts_0 26 rfl) T94 hi_14 ev_13 ?_
    refine g_istore_n (lv' := [(3, _), (0, _), (2, _)]) C (ckD_get k_X10_layCuts_0 27 rfl) rfl hL3 rfl ?_
    refine g_iload_n 0 C (ckD_get k_X10_layCuts_0 28 rfl) rfl rfl ?_
    refine g_bipush (v := (12 : Int32)) C (ckD_get k_X10_layCuts_0 29 rfl) (by decide) ?_
    have hJ_179 : ∀ (M_15 : Mm), f_X10_layCuts_J179 x2_8 M_15 = some rr_31 → G K (0, 0) 179 [(0, .ref (K.2.1.1 + 69)), (2, .int x2_8)] [] M_15 := by
      intro M_15 hf
      unfold f_X10_layCuts_J179 at hf
      obtain ⟨x2_16, ex2_16, hf⟩ := lt_e hf
      refine g_iinc (lv' := [(2, _), (0, _)]) 1 C (ckD_get k_X10_layCuts_2 30 rfl) rfl ex2_16 hL2 rfl ?_
      refine g_goto C (ckD_get k_X10_layCuts_2 31 rfl) ?_
      refine G.sub [1, 0] rfl ?_
      cases hf
      exact hn_31 _ rfl
    refine g_icmp_ge C (ckD_get k_X10_layCuts_0 30 rfl) (fun c_17 => ?_) (fun c_17 => ?_)
    · have hf := if_t hf c_17
      refine g_aload_n 1 C (ckD_get k_X10_layCuts_1 8 rfl) rfl rfl ?_
      refine g_getR C (ckD_get k_X10_layCuts_1 9 rfl) fk_X10_66 T69 rfl ?_
      refine g_iload_n 2 C (ckD_get k_X10_layCuts_1 10 rfl) rfl rfl ?_
      obtain ⟨v_18, hi_19, ev_18, hf⟩ := rdI_e hf
      refine n_iald C (ckD_get k_X10_layCuts_1 11 rfl) T87 hi_19 ev_18 ?_
      refine g_istore (lv' := [(4, _), (3, _), (0, _), (2, _)]) C (ckD_get k_X10_layCuts_1 12 rfl) hL4 rfl ?_
      refine g_aload_n 2 C (ckD_get k_X10_layCuts_1 13 rfl) rfl rfl ?_
      refine g_getR C (ckD_get k_X10_layCuts_1 14 rfl) fk_X10_69 T69 rfl ?_
      refine g_iload_n 3 C (ckD_get k_X10_layCuts_1 15 rfl) rfl rfl ?_
      obtain ⟨v_20, hi_21, ev_20, hf⟩ := rdI_e hf
      refine n_iald C (ckD_get k_X10_layCuts_1 16 rfl) T88 hi_21 ev_20 ?_
      refine g_istore (lv' := [(5, _), (4, _), (3, _), (0, _), (2, _)]) C (ckD_get k_X10_layCuts_1 17 rfl) hL5 rfl ?_
      refine g_aload_n 3 C (ckD_get k_X10_layCuts_1 18 rfl) rfl rfl ?_
      refine g_getR C (ckD_get k_X10_layCuts_1 19 rfl) fk_X10_78 T69 rfl ?_
      refine g_iload 1 C (ckD_get k_X10_layCuts_1 20 rfl) rfl ?_
      refine g_aload_n 3 C (ckD_get k_X10_layCuts_1 21 rfl) rfl rfl ?_
      refine g_getR C (ckD_get k_X10_layCuts_1 22 rfl) fk_X10_78 T69 rfl ?_
      refine g_iload_n 4 C (ckD_get k_X10_layCuts_1 23 rfl) rfl rfl ?_
      obtain ⟨v_22, hi_23, ev_22, hf⟩ := rdI_e hf
      refine n_iald C (ckD_get k_X10_layCuts_1 24 rfl) T91 hi_23 ev_22 ?_
      obtain ⟨M_24, hi_25, eM_24, hf⟩ := wrI_e hf
      refine n_iast C (ckD_get k_X10_layCuts_1 25 rfl) T91 hi_25 eM_24 ?_
      refine g_aload_n 3 C (ckD_get k_X10_layCuts_1 26 rfl) rfl rfl ?_
      refine g_getR C (ckD_get k_X10_layCuts_1 27 rfl) fk_X10_81 T69 rfl ?_
      refine g_iload 1 C (ckD_get k_X10_layCuts_1 28 rfl) rfl ?_
      refine g_aload_n 3 C (ckD_get k_X10_layCuts_1 29 rfl) rfl rfl ?_
      refine g_getR C (ckD_get k_X10_layCuts_1 30 rfl) fk_X10_81 T69 rfl ?_
      refine g_iload_n 4 C (ckD_get k_X10_layCuts_1 31 rfl) rfl rfl ?_
      obtain ⟨v_26, hi_27, ev_26, hf⟩ := rdI_e hf
      refine n_iald C (ckD_get k_X10_layCuts_1 32 rfl) T92 hi_27 ev_26 ?_
      obtain ⟨M_28, hi_29, eM_28, hf⟩ := wrI_e hf
      refine n_iast C (ckD_get k_X10_layCuts_1 33 rfl) T92 hi_29 eM_28 ?_
      refine g_aload_n 3 C (ckD_get k_X10_layCuts_1 34 rfl) rfl rfl ?_
      refine g_getR C (ckD_get k_X10_layCuts_1 35 rfl) fk_X10_78 T69 rfl ?_
      refine g_iload 0 C (ckD_get k_X10_layCuts_1 36 rfl) rfl ?_
      refine g_aload_n 3 C (ckD_get k_X10_layCuts_1 37 rfl) rfl rfl ?_
      refine g_getR C (ckD_get k_X10_layCuts_1 38 rfl) fk_X10_78 T69 rfl ?_
      refine g_iload_n 4 C (ckD_get k_X10_layCuts_1 39 rfl) rfl rfl ?_
      obtain ⟨v_30, hi_31, ev_30, hf⟩ := rdI_e hf
      refine n_iald C (ckD_get k_X10_layCuts_2 0 rfl) T91 hi_31 ev_30 ?_
      refine g_iload_n 2 C (ckD_get k_X10_layCuts_2 1 rfl) rfl rfl ?_
      refine g_bipush (v := (12 : Int32)) C (ckD_get k_X10_layCuts_2 2 rfl) (by decide) ?_
      have hJ_146 : ∀ (s_32 : Int32), f_X10_layCuts_J146 x2_8 v_13 v_18 v_20 M_28 v_30 s_32 = some rr_31 → G K (0, 0) 146 [(0, .ref (K.2.1.1 + 69)), (2, .int x2_8), (3, .int v_13), (4, .int v_18), (5, .int v_20)] [.int s_32, .int v_30, .int v_20, .ref (K.2.1.1 + 91)] M_28 := by
        intro s_32 hf
        unfold f_X10_layCuts_J146 at hf
        refine g_iadd C (ckD_get k_X10_layCuts_2 10 rfl) ?_
        obtain ⟨M_33, hi_34, eM_33, hf⟩ := wrI_e hf
        refine n_iast C (ckD_get k_X10_layCuts_2 11 rfl) T91 hi_34 eM_33 ?_
        refine g_aload_n 0 C (ckD_get k_X10_layCuts_2 12 rfl) rfl rfl ?_
        refine g_getR C (ckD_get k_X10_layCuts_2 13 rfl) fk_X10_81 T69 rfl ?_
        refine g_iload 4 C (ckD_get k_X10_layCuts_2 14 rfl) rfl ?_
        refine g_aload_n 0 C (ckD_get k_X10_layCuts_2 15 rfl) rfl rfl ?_
        refine g_getR C (ckD_get k_X10_layCuts_2 16 rfl) fk_X10_81 T69 rfl ?_
        refine g_iload_n 1 C (ckD_get k_X10_layCuts_2 17 rfl) rfl rfl ?_
        obtain ⟨v_35, hi_36, ev_35, hf⟩ := rdI_e hf
        refine n_iald C (ckD_get k_X10_layCuts_2 18 rfl) T92 hi_36 ev_35 ?_
        refine g_iload_n 2 C (ckD_get k_X10_layCuts_2 19 rfl) rfl rfl ?_
        refine g_bipush (v := (13 : Int32)) C (ckD_get k_X10_layCuts_2 20 rfl) (by decide) ?_
        have hJ_177 : ∀ (s_37 : Int32), f_X10_layCuts_J177 x2_8 v_20 M_33 v_35 s_37 = some rr_31 → G K (0, 0) 177 [(0, .ref (K.2.1.1 + 69)), (2, .int x2_8)] [.int s_37, .int v_35, .int v_20, .ref (K.2.1.1 + 92)] M_33 := by
          intro s_37 hf
          unfold f_X10_layCuts_J177 at hf
          refine g_iadd C (ckD_get k_X10_layCuts_2 28 rfl) ?_
          obtain ⟨M_38, hi_39, eM_38, hf⟩ := wrI_e hf
          refine n_iast C (ckD_get k_X10_layCuts_2 29 rfl) T92 hi_39 eM_38 ?_
          exact hJ_179 _ hf
        refine g_icmp_ne C (ckD_get k_X10_layCuts_2 21 rfl) (fun c_40 => ?_) (fun c_40 => ?_)
        · have hf := if_f hf c_40
          refine g_iconst (v := (0 : Int32)) C (ckD_get k_X10_layCuts_2 27 rfl) (by decide) ?_
          refine G.sub [0, 1] rfl ?_
          exact hJ_177 _ hf
        · have hf := if_t hf c_40
          refine g_aload_n 0 C (ckD_get k_X10_layCuts_2 22 rfl) rfl rfl ?_
          refine g_getR C (ckD_get k_X10_layCuts_2 23 rfl) fk_X10_75 T69 rfl ?_
          refine g_iload 3 C (ckD_get k_X10_layCuts_2 24 rfl) rfl ?_
          obtain ⟨v_41, hi_42, ev_41, hf⟩ := rdI_e hf
          refine n_iald C (ckD_get k_X10_layCuts_2 25 rfl) T90 hi_42 ev_41 ?_
          refine g_goto C (ckD_get k_X10_layCuts_2 26 rfl) ?_
          refine G.sub [0, 1] rfl ?_
          exact hJ_177 _ hf
      refine g_icmp_ne C (ckD_get k_X10_layCuts_2 3 rfl) (fun c_43 => ?_) (fun c_43 => ?_)
      · have hf := if_f hf c_43
        refine g_iconst (v := (0 : Int32)) C (ckD_get k_X10_layCuts_2 9 rfl) (by decide) ?_
        refine G.sub [3, 4, 2, 1, 0] rfl ?_
        exact hJ_146 _ hf
      · have hf := if_t hf c_43
        refine g_aload_n 3 C (ckD_get k_X10_layCuts_2 4 rfl) rfl rfl ?_
        refine g_getR C (ckD_get k_X10_layCuts_2 5 rfl) fk_X10_72 T69 rfl ?_
        refine g_iload 1 C (ckD_get k_X10_layCuts_2 6 rfl) rfl ?_
        obtain ⟨v_44, hi_45, ev_44, hf⟩ := rdI_e hf
        refine n_iald C (ckD_get k_X10_layCuts_2 7 rfl) T89 hi_45 ev_44 ?_
        refine g_goto C (ckD_get k_X10_layCuts_2 8 rfl) ?_
        refine G.sub [3, 4, 2, 1, 0] rfl ?_
        exact hJ_146 _ hf
    · have hf := if_f hf c_17
      refine g_aload_n 1 C (ckD_get k_X10_layCuts_0 31 rfl) rfl rfl ?_
      refine g_getR C (ckD_get k_X10_layCuts_0 32 rfl) fk_X10_27 T69 rfl ?_
      refine g_iload_n 0 C (ckD_get k_X10_layCuts_0 33 rfl) rfl rfl ?_
      refine g_aload_n 1 C (ckD_get k_X10_layCuts_0 34 rfl) rfl rfl ?_
      refine g_getR C (ckD_get k_X10_layCuts_0 35 rfl) fk_X10_78 T69 rfl ?_
      refine g_iload_n 2 C (ckD_get k_X10_layCuts_0 36 rfl) rfl rfl ?_
      obtain ⟨v_46, hi_47, ev_46, hf⟩ := rdI_e hf
      refine n_iald C (ckD_get k_X10_layCuts_0 37 rfl) T91 hi_47 ev_46 ?_
      obtain ⟨M_48, hi_49, eM_48, hf⟩ := wrI_e hf
      refine n_iast C (ckD_get k_X10_layCuts_0 38 rfl) T74 hi_49 eM_48 ?_
      refine g_aload_n 1 C (ckD_get k_X10_layCuts_0 39 rfl) rfl rfl ?_
      refine g_getR C (ckD_get k_X10_layCuts_1 0 rfl) fk_X10_30 T69 rfl ?_
      refine g_iload_n 0 C (ckD_get k_X10_layCuts_1 1 rfl) rfl rfl ?_
      refine g_aload_n 1 C (ckD_get k_X10_layCuts_1 2 rfl) rfl rfl ?_
      refine g_getR C (ckD_get k_X10_layCuts_1 3 rfl) fk_X10_81 T69 rfl ?_
      refine g_iload_n 2 C (ckD_get k_X10_layCuts_1 4 rfl) rfl rfl ?_
      obtain ⟨v_50, hi_51, ev_50, hf⟩ := rdI_e hf
      refine n_iald C (ckD_get k_X10_layCuts_1 5 rfl) T92 hi_51 ev_50 ?_
      obtain ⟨M_52, hi_53, eM_52, hf⟩ := wrI_e hf
      refine n_iast C (ckD_get k_X10_layCuts_1 6 rfl) T75 hi_53 eM_52 ?_
      refine g_goto C (ckD_get k_X10_layCuts_1 7 rfl) ?_
      refine G.sub [1, 2] rfl ?_
      exact hJ_179 _ hf

set_option maxRecDepth 20000 in
theorem k_X10_cuts_0 : ckD cX10_cuts [(0, .aload_n 0, 1, 1, 0), (1, .iconst 0, 1, 2, 0), (2, .putfield 121, 3, 5, 0), (5, .aload_n 0, 1, 6, 0), (6, .getfield 124, 3, 9, 0), (9, .ifCond .ne 5, 3, 12, 14), (12, .iconst 0, 1, 13, 0), (13, .ireturn, 1, 14, 0), (14, .iconst 0, 1, 15, 0), (15, .istore 6, 2, 17, 0), (17, .iload 6, 2, 19, 0), (19, .aload_n 0, 1, 20, 0), (20, .invokevirtual 175, 3, 23, 0), (23, .if_icmp .ge 41, 3, 26, 64), (26, .aload_n 0, 1, 27, 0), (27, .getfield 54, 3, 30, 0), (30, .iload 6, 2, 32, 0), (32, .iload 6, 2, 34, 0), (34, .bipush 16, 2, 36, 0), (36, .if_icmp .ge 12, 3, 39, 48), (39, .lload_n 1, 1, 40, 0), (40, .iload 6, 2, 42, 0), (42, .invokestatic 140, 3, 45, 0), (45, .goto 12, 3, 48, 57), (48, .lload_n 3, 1, 49, 0), (49, .iload 6, 2, 51, 0), (51, .bipush 16, 2, 53, 0), (53, .isub, 1, 54, 0), (54, .invokestatic 140, 3, 57, 0), (57, .iastore, 1, 58, 0), (58, .iinc 6 1, 3, 61, 0), (61, .goto (-44), 3, 64, 17), (64, .aload_n 0, 1, 65, 0), (65, .invokevirtual 182, 3, 68, 0), (68, .ifCond .ne 5, 3, 71, 73), (71, .iconst 0, 1, 72, 0), (72, .ireturn, 1, 73, 0), (73, .iconst 0, 1, 74, 0), (74, .istore 6, 2, 76, 0), (76, .iload 6, 2, 78, 0)] = true := by decide +kernel
set_option maxRecDepth 20000 in
theorem k_X10_cuts_1 : ckD cX10_cuts [(78, .aload_n 0, 1, 79, 0), (79, .invokevirtual 175, 3, 82, 0), (82, .if_icmp .ge 23, 3, 85, 105), (85, .aload_n 0, 1, 86, 0), (86, .getfield 39, 3, 89, 0), (89, .iload 6, 2, 91, 0), (91, .aload_n 0, 1, 92, 0), (92, .getfield 54, 3, 95, 0), (95, .iload 6, 2, 97, 0), (97, .iaload, 1, 98, 0), (98, .iastore, 1, 99, 0), (99, .iinc 6 1, 3, 102, 0), (102, .goto (-26), 3, 105, 76), (105, .aload_n 0, 1, 106, 0), (106, .iload 5, 2, 108, 0), (108, .aload_n 0, 1, 109, 0), (109, .invokevirtual 169, 3, 112, 0), (112, .iand, 1, 113, 0), (113, .putfield 127, 3, 116, 0), (116, .aload_n 0, 1, 117, 0), (117, .invokevirtual 186, 3, 120, 0), (120, .iconst 1, 1, 121, 0), (121, .ireturn, 1, 122, 0)] = true := by decide +kernel
def f_X10_cuts_A76 (a3 : Int32) (M_11 : Mm) : Option (Int32 × Mm) := (f_X10_turnable M_11).bind fun r_13 => lt1 (wi M_11 69 7 (a3 &&& r_13)) fun M_14 => (f_X10_layCuts M_14).bind fun M_16 => some ((1 : Int32), M_16)
def f_X10_cuts_L76 (x6_9 : Int32) (M_10 : Mm) : Option ((Int32 × Mm) ⊕ Mm) := if (f_X10_rowSize M_10) ≤ x6_9 then some (.inr M_10) else rdI 23 M_10 83 x6_9 fun v_18 => wrI 23 M_10 78 x6_9 v_18 fun M_20 => lt1 (x6_9 + 1) fun x6_22 => some (.inl (x6_22, M_20))
def f_X10_cuts_A17 (a3 : Int32) (M_5 : Mm) : Option (Int32 × Mm) := (f_X10_isRow M_5).bind fun r_7 => if r_7 = 0 then some ((0 : Int32), M_5) else (loop (fun v => f_X10_cuts_L76 v.1 v.2) FU ((0 : Int32), M_5)).bind fun z => f_X10_cuts_A76 a3 z
def f_X10_cuts_J57 (x6_3 : Int32) (M_4 : Mm) (s_24 : Int32) : Option ((Int32 × Mm) ⊕ Mm) := wrI 23 M_4 83 x6_3 s_24 fun M_25 => lt1 (x6_3 + 1) fun x6_27 => some (.inl (x6_27, M_25))
def f_X10_cuts_L17 (a1 : Int64) (a2 : Int64) (x6_3 : Int32) (M_4 : Mm) : Option ((Int32 × Mm) ⊕ Mm) := if (f_X10_rowSize M_4) ≤ x6_3 then some (.inr M_4) else if (16 : Int32) ≤ x6_3 then f_X10_cuts_J57 x6_3 M_4 ((f_X10_nibble a2 (x6_3 - (16 : Int32)))) else f_X10_cuts_J57 x6_3 M_4 ((f_X10_nibble a1 x6_3))
def f_X10_cuts (a1 : Int64) (a2 : Int64) (a3 : Int32) (M : Mm) : Option (Int32 × Mm) := lt1 (wi M 69 0 (0 : Int32)) fun M_1 => if (M_1.1 69 1) = 0 then some ((0 : Int32), M_1) else (loop (fun v => f_X10_cuts_L17 a1 a2 v.1 v.2) FU ((0 : Int32), M_1)).bind fun z => f_X10_cuts_A17 a3 z
set_option maxRecDepth 100000 in
set_option maxHeartbeats 4000000 in
theorem t_X10_cuts {E : Ev} {l : Launch} (htr : l.stackTraces = false) (a1 : Int64) (a2 : Int64) (a3 : Int32) (M : Mm) (r : (Int32 × Mm)) (hf : f_X10_cuts a1 a2 a3 M = some r) : CM E l 3 0 0 yX10_cuts cX10_cuts 7 (some .boolean) [.ref (E.1 + 69), .long a1, .long a2, .int a3] M (some (.int r.1)) r.2 := by
  refine CM.of htr (by decide +kernel) (Nat.le_of_ble_eq_true rfl) ?_
  intro K hE hL hl hR0 C hr hRv
  subst hE
  subst hl
  have C : Cx K cX10_cuts RX10 3 := C
  have hB : (0 : Nat) ≤ K.1.R.cells ∧ 0 ≤ K.1.R.slots := ⟨Nat.zero_le _, Nat.zero_le _⟩
  have hL6 : 6 < K.2.2.1 := by rw [hL]; decide
  show G K (0, 0) 0 [(0, .ref (K.2.1.1 + 69)), (1, .long a1), (3, .long a2), (5, .int a3)] [] M
  unfold f_X10_cuts at hf
  refine g_aload_n 0 C (ckD_get k_X10_cuts_0 0 rfl) rfl rfl ?_
  refine g_iconst (v := (0 : Int32)) C (ckD_get k_X10_cuts_0 1 rfl) (by decide) ?_
  obtain ⟨M_1, eM_1, hf⟩ := lt_e hf
  refine g_putI C (ckD_get k_X10_cuts_0 2 rfl) fk_X10_121 T69 rfl ?_
  refine memI eM_1 ?_
  refine g_aload_n 0 C (ckD_get k_X10_cuts_0 3 rfl) rfl rfl ?_
  refine g_getI C (ckD_get k_X10_cuts_0 4 rfl) fk_X10_124 T69 rfl ?_
  refine g_if_ne C (ckD_get k_X10_cuts_0 5 rfl) (fun c_2 => ?_) (fun c_2 => ?_)
  · have hf := if_f hf c_2
    refine g_iconst (v := (0 : Int32)) C (ckD_get k_X10_cuts_0 8 rfl) (by decide) ?_
    refine g_istore (lv' := [(6, _), (0, _), (1, _), (3, _), (5, _)]) C (ckD_get k_X10_cuts_0 9 rfl) hL6 rfl ?_
    refine G.sub [1, 2, 3, 4, 0] rfl ?_
    obtain ⟨M_5, hx_17, hf⟩ := bd_e hf
    have hE_17 : G K (0, 0) 64 [(0, .ref (K.2.1.1 + 69)), (5, .int a3)] [] M_5 := by
      have hf : f_X10_cuts_A17 a3 M_5 = some r := hf
      unfold f_X10_cuts_A17 at hf
      refine g_aload_n 0 C (ckD_get k_X10_cuts_0 32 rfl) rfl rfl ?_
      obtain ⟨r_7, hr_6, hf⟩ := bd_e hf
      refine n_cV [] [] C (ckD_get k_X10_cuts_0 33 rfl) vk_X10_182 (t_X10_isRow C.tr _ _ hr_6) T69 rfl rfl (Nat.le_of_ble_eq_true rfl) (by decide) hB rfl ?_
      refine g_if_ne C (ckD_get k_X10_cuts_0 34 rfl) (fun c_8 => ?_) (fun c_8 => ?_)
      · have hf := if_f hf c_8
        refine g_iconst (v := (0 : Int32)) C (ckD_get k_X10_cuts_0 37 rfl) (by decide) ?_
        refine g_istore (lv' := [(6, _), (0, _), (5, _)]) C (ckD_get k_X10_cuts_0 38 rfl) hL6 rfl ?_
        refine G.sub [1, 2, 0] rfl ?_
        obtain ⟨M_11, hx_76, hf⟩ := bd_e hf
        have hE_76 : G K (0, 0) 105 [(0, .ref (K.2.1.1 + 69)), (5, .int a3)] [] M_11 := by
          have hf : f_X10_cuts_A76 a3 M_11 = some r := hf
          unfold f_X10_cuts_A76 at hf
          refine g_aload_n 0 C (ckD_get k_X10_cuts_1 13 rfl) rfl rfl ?_
          refine g_iload 1 C (ckD_get k_X10_cuts_1 14 rfl) rfl ?_
          refine g_aload_n 0 C (ckD_get k_X10_cuts_1 15 rfl) rfl rfl ?_
          obtain ⟨r_13, hr_12, hf⟩ := bd_e hf
          refine n_cV [] [.int a3, .ref (K.2.1.1 + 69)] C (ckD_get k_X10_cuts_1 16 rfl) vk_X10_169 (t_X10_turnable C.tr _ _ hr_12) T69 rfl rfl (Nat.le_of_ble_eq_true rfl) (by decide) hB rfl ?_
          refine g_iand C (ckD_get k_X10_cuts_1 17 rfl) ?_
          obtain ⟨M_14, eM_14, hf⟩ := lt_e hf
          refine g_putI C (ckD_get k_X10_cuts_1 18 rfl) fk_X10_127 T69 rfl ?_
          refine memI eM_14 ?_
          refine g_aload_n 0 C (ckD_get k_X10_cuts_1 19 rfl) rfl rfl ?_
          obtain ⟨M_16, hr_15, hf⟩ := bd_e hf
          refine n_cV [] [] C (ckD_get k_X10_cuts_1 20 rfl) vk_X10_186 (t_X10_layCuts C.tr _ _ hr_15) T69 rfl rfl (Nat.le_of_ble_eq_true rfl) (by decide) hB rfl ?_
          refine g_iconst (v := (1 : Int32)) C (ckD_get k_X10_cuts_1 21 rfl) (by decide) ?_
          cases hf
          exact g_zret C (ckD_get k_X10_cuts_1 22 rfl) hr rfl hRv (Nat.le_refl _) (Nat.le_refl _)
        refine loop_e (x := M_11) (P := fun (v : (Int32 × Mm)) => G K (0, 0) 76 [(0, .ref (K.2.1.1 + 69)), (5, .int a3), (6, .int v.1)] [] v.2) ?_ FU _ hx_76
        intro v rr_76 hf hn_76 hz_76
        obtain ⟨x6_9, M_10⟩ := v
        have hf : f_X10_cuts_L76 x6_9 M_10 = some rr_76 := hf
        show G K (0, 0) 76 [(0, .ref (K.2.1.1 + 69)), (5, .int a3), (6, .int x6_9)] [] M_10
        unfold f_X10_cuts_L76 at hf
        refine g_iload 2 C (ckD_get k_X10_cuts_0 39 rfl) rfl ?_
        refine g_aload_n 0 C (ckD_get k_X10_cuts_1 0 rfl) rfl rfl ?_
        refine n_cV [] [.int x6_9] C (ckD_get k_X10_cuts_1 1 rfl) vk_X10_175 (t_X10_rowSize C.tr _ _ rfl) T69 rfl rfl (Nat.le_of_ble_eq_true rfl) (by decide) hB rfl ?_
        refine g_icmp_ge C (ckD_get k_X10_cuts_1 2 rfl) (fun c_17 => ?_) (fun c_17 => ?_)
        · have hf := if_t hf c_17
          refine G.sub [0, 1] rfl ?_
          cases hf
          cases hz_76 _ rfl
          exact hE_76
        · have hf := if_f hf c_17
          refine g_aload_n 0 C (ckD_get k_X10_cuts_1 3 rfl) rfl rfl ?_
          refine g_getR C (ckD_get k_X10_cuts_1 4 rfl) fk_X10_39 T69 rfl ?_
          refine g_iload 2 C (ckD_get k_X10_cuts_1 5 rfl) rfl ?_
          refine g_aload_n 0 C (ckD_get k_X10_cuts_1 6 rfl) rfl rfl ?_
          refine g_getR C (ckD_get k_X10_cuts_1 7 rfl) fk_X10_54 T69 rfl ?_
          refine g_iload 2 C (ckD_get k_X10_cuts_1 8 rfl) rfl ?_
          obtain ⟨v_18, hi_19, ev_18, hf⟩ := rdI_e hf
          refine n_iald C (ckD_get k_X10_cuts_1 9 rfl) T83 hi_19 ev_18 ?_
          obtain ⟨M_20, hi_21, eM_20, hf⟩ := wrI_e hf
          refine n_iast C (ckD_get k_X10_cuts_1 10 rfl) T78 hi_21 eM_20 ?_
          obtain ⟨x6_22, ex6_22, hf⟩ := lt_e hf
          refine g_iinc (lv' := [(6, _), (0, _), (5, _)]) 2 C (ckD_get k_X10_cuts_1 11 rfl) rfl ex6_22 hL6 rfl ?_
          refine g_goto C (ckD_get k_X10_cuts_1 12 rfl) ?_
          refine G.sub [1, 2, 0] rfl ?_
          cases hf
          exact hn_76 _ rfl
      · have hf := if_t hf c_8
        refine g_iconst (v := (0 : Int32)) C (ckD_get k_X10_cuts_0 35 rfl) (by decide) ?_
        cases hf
        exact g_zret C (ckD_get k_X10_cuts_0 36 rfl) hr rfl hRv (Nat.le_refl _) (Nat.le_refl _)
    refine loop_e (x := M_5) (P := fun (v : (Int32 × Mm)) => G K (0, 0) 17 [(0, .ref (K.2.1.1 + 69)), (1, .long a1), (3, .long a2), (5, .int a3), (6, .int v.1)] [] v.2) ?_ FU _ hx_17
    intro v rr_17 hf hn_17 hz_17
    obtain ⟨x6_3, M_4⟩ := v
    have hf : f_X10_cuts_L17 a1 a2 x6_3 M_4 = some rr_17 := hf
    show G K (0, 0) 17 [(0, .ref (K.2.1.1 + 69)), (1, .long a1), (3, .long a2), (5, .int a3), (6, .int x6_3)] [] M_4
    unfold f_X10_cuts_L17 at hf
    refine g_iload 4 C (ckD_get k_X10_cuts_0 10 rfl) rfl ?_
    refine g_aload_n 0 C (ckD_get k_X10_cuts_0 11 rfl) rfl rfl ?_
    refine n_cV [] [.int x6_3] C (ckD_get k_X10_cuts_0 12 rfl) vk_X10_175 (t_X10_rowSize C.tr _ _ rfl) T69 rfl rfl (Nat.le_of_ble_eq_true rfl) (by decide) hB rfl ?_
    refine g_icmp_ge C (ckD_get k_X10_cuts_0 13 rfl) (fun c_23 => ?_) (fun c_23 => ?_)
    · have hf := if_t hf c_23
      refine G.sub [0, 3] rfl ?_
      cases hf
      cases hz_17 _ rfl
      exact hE_17
    · have hf := if_f hf c_23
      refine g_aload_n 0 C (ckD_get k_X10_cuts_0 14 rfl) rfl rfl ?_
      refine g_getR C (ckD_get k_X10_cuts_0 15 rfl) fk_X10_54 T69 rfl ?_
      refine g_iload 4 C (ckD_get k_X10_cuts_0 16 rfl) rfl ?_
      refine g_iload 4 C (ckD_get k_X10_cuts_0 17 rfl) rfl ?_
      refine g_bipush (v := (16 : Int32)) C (ckD_get k_X10_cuts_0 18 rfl) (by decide) ?_
      have hJ_57 : ∀ (s_24 : Int32), f_X10_cuts_J57 x6_3 M_4 s_24 = some rr_17 → G K (0, 0) 57 [(0, .ref (K.2.1.1 + 69)), (1, .long a1), (3, .long a2), (5, .int a3), (6, .int x6_3)] [.int s_24, .int x6_3, .ref (K.2.1.1 + 83)] M_4 := by
        intro s_24 hf
        unfold f_X10_cuts_J57 at hf
        obtain ⟨M_25, hi_26, eM_25, hf⟩ := wrI_e hf
        refine n_iast C (ckD_get k_X10_cuts_0 29 rfl) T83 hi_26 eM_25 ?_
        obtain ⟨x6_27, ex6_27, hf⟩ := lt_e hf
        refine g_iinc (lv' := [(6, _), (0, _), (1, _), (3, _), (5, _)]) 4 C (ckD_get k_X10_cuts_0 30 rfl) rfl ex6_27 hL6 rfl ?_
        refine g_goto C (ckD_get k_X10_cuts_0 31 rfl) ?_
        refine G.sub [1, 2, 3, 4, 0] rfl ?_
        cases hf
        exact hn_17 _ rfl
      refine g_icmp_ge C (ckD_get k_X10_cuts_0 19 rfl) (fun c_28 => ?_) (fun c_28 => ?_)
      · have hf := if_t hf c_28
        refine g_lload_n 2 C (ckD_get k_X10_cuts_0 24 rfl) rfl rfl ?_
        refine g_iload 4 C (ckD_get k_X10_cuts_0 25 rfl) rfl ?_
        refine g_bipush (v := (16 : Int32)) C (ckD_get k_X10_cuts_0 26 rfl) (by decide) ?_
        refine g_isub C (ckD_get k_X10_cuts_0 27 rfl) ?_
        refine n_cS [.long a2, .int (x6_3 - (16 : Int32))] [.int x6_3, .ref (K.2.1.1 + 83)] C (ckD_get k_X10_cuts_0 28 rfl) sk_X10_140 (t_X10_nibble C.tr _ _ _ _ rfl) rfl rfl (Nat.le_of_ble_eq_true rfl) (by decide) hB rfl ?_
        exact hJ_57 _ hf
      · have hf := if_f hf c_28
        refine g_lload_n 1 C (ckD_get k_X10_cuts_0 20 rfl) rfl rfl ?_
        refine g_iload 4 C (ckD_get k_X10_cuts_0 21 rfl) rfl ?_
        refine n_cS [.long a1, .int x6_3] [.int x6_3, .ref (K.2.1.1 + 83)] C (ckD_get k_X10_cuts_0 22 rfl) sk_X10_140 (t_X10_nibble C.tr _ _ _ _ rfl) rfl rfl (Nat.le_of_ble_eq_true rfl) (by decide) hB rfl ?_
        refine g_goto C (ckD_get k_X10_cuts_0 23 rfl) ?_
        exact hJ_57 _ hf
  · have hf := if_t hf c_2
    refine g_iconst (v := (0 : Int32)) C (ckD_get k_X10_cuts_0 6 rfl) (by decide) ?_
    cases hf
    exact g_zret C (ckD_get k_X10_cuts_0 7 rfl) hr rfl hRv (Nat.le_refl _) (Nat.le_refl _)

set_option maxRecDepth 20000 in
theorem k_X10_child_0 : ckD cX10_child [(0, .iload_n 1, 1, 1, 0), (1, .bipush 15, 2, 3, 0), (3, .if_icmp .ne 7, 3, 6, 10), (6, .iconst (-1), 1, 7, 0), (7, .goto 17, 3, 10, 24), (10, .iload_n 1, 1, 11, 0), (11, .aload_n 0, 1, 12, 0), (12, .getfield 124, 3, 15, 0), (15, .if_icmp .ge 7, 3, 18, 22), (18, .iload_n 1, 1, 19, 0), (19, .goto 5, 3, 22, 24), (22, .bipush (-2), 2, 24, 0), (24, .ireturn, 1, 25, 0)] = true := by decide +kernel
def f_X10_child (a1 : Int32) (M : Mm) : Int32 := if a1 = (15 : Int32) then (-1 : Int32) else if (M.1 69 1) ≤ a1 then (-2 : Int32) else a1
set_option maxRecDepth 100000 in
set_option maxHeartbeats 4000000 in
theorem t_X10_child {E : Ev} {l : Launch} (htr : l.stackTraces = false) (a1 : Int32) (M : Mm) (r : Int32) (hf : f_X10_child a1 M = r) : CM E l 0 0 0 yX10_child cX10_child 2 (some .int) [.ref (E.1 + 69), .int a1] M (some (.int r)) M := by
  refine CM.of htr (by decide +kernel) (Nat.le_of_ble_eq_true rfl) ?_
  intro K hE hL hl hR0 C hr hRv
  subst hE
  subst hl
  have C : Cx K cX10_child RX10 0 := C
  have hB : (0 : Nat) ≤ K.1.R.cells ∧ 0 ≤ K.1.R.slots := ⟨Nat.zero_le _, Nat.zero_le _⟩
  show G K (0, 0) 0 [(0, .ref (K.2.1.1 + 69)), (1, .int a1)] [] M
  unfold f_X10_child at hf
  refine g_iload_n 1 C (ckD_get k_X10_child_0 0 rfl) rfl rfl ?_
  refine g_bipush (v := (15 : Int32)) C (ckD_get k_X10_child_0 1 rfl) (by decide) ?_
  refine g_icmp_ne C (ckD_get k_X10_child_0 2 rfl) (fun c_1 => ?_) (fun c_1 => ?_)
  · have hf := if_f hf c_1
    refine g_iload_n 1 C (ckD_get k_X10_child_0 5 rfl) rfl rfl ?_
    refine g_aload_n 0 C (ckD_get k_X10_child_0 6 rfl) rfl rfl ?_
    refine g_getI C (ckD_get k_X10_child_0 7 rfl) fk_X10_124 T69 rfl ?_
    refine g_icmp_ge C (ckD_get k_X10_child_0 8 rfl) (fun c_2 => ?_) (fun c_2 => ?_)
    · have hf := if_t hf c_2
      refine g_bipush (v := (-2 : Int32)) C (ckD_get k_X10_child_0 11 rfl) (by decide) ?_
      cases hf
      exact g_iret C (ckD_get k_X10_child_0 12 rfl) hr hRv (Nat.le_refl _) (Nat.le_refl _)
    · have hf := if_f hf c_2
      refine g_iload_n 1 C (ckD_get k_X10_child_0 9 rfl) rfl rfl ?_
      refine g_goto C (ckD_get k_X10_child_0 10 rfl) ?_
      cases hf
      exact g_iret C (ckD_get k_X10_child_0 12 rfl) hr hRv (Nat.le_refl _) (Nat.le_refl _)
  · have hf := if_t hf c_1
    refine g_iconst (v := (-1 : Int32)) C (ckD_get k_X10_child_0 3 rfl) (by decide) ?_
    refine g_goto C (ckD_get k_X10_child_0 4 rfl) ?_
    cases hf
    exact g_iret C (ckD_get k_X10_child_0 12 rfl) hr hRv (Nat.le_refl _) (Nat.le_refl _)

set_option maxRecDepth 20000 in
theorem k_X10_under_0 : ckD cX10_under [(0, .iload_n 1, 1, 1, 0), (1, .iconst (-1), 1, 2, 0), (2, .if_icmp .ne 5, 3, 5, 7), (5, .iconst 0, 1, 6, 0), (6, .ireturn, 1, 7, 0), (7, .aload_n 0, 1, 8, 0), (8, .getfield 189, 3, 11, 0), (11, .iload_n 1, 1, 12, 0), (12, .ishr, 1, 13, 0), (13, .iconst 1, 1, 14, 0), (14, .iand, 1, 15, 0), (15, .iconst 1, 1, 16, 0), (16, .if_icmp .ne 6, 3, 19, 22), (19, .bipush 100, 2, 21, 0), (21, .ireturn, 1, 22, 0), (22, .aload_n 0, 1, 23, 0), (23, .dup, 1, 24, 0), (24, .getfield 189, 3, 27, 0), (27, .iconst 1, 1, 28, 0), (28, .iload_n 1, 1, 29, 0), (29, .ishl, 1, 30, 0), (30, .ior, 1, 31, 0), (31, .putfield 189, 3, 34, 0), (34, .iconst 1, 1, 35, 0), (35, .aload_n 0, 1, 36, 0), (36, .aload_n 0, 1, 37, 0), (37, .getfield 90, 3, 40, 0), (40, .iload_n 1, 1, 41, 0), (41, .iaload, 1, 42, 0), (42, .invokevirtual 192, 3, 45, 0), (45, .iadd, 1, 46, 0), (46, .istore_n 2, 1, 47, 0), (47, .iload_n 2, 1, 48, 0), (48, .bipush 12, 2, 50, 0), (50, .if_icmp .le 8, 3, 53, 58), (53, .bipush 100, 2, 55, 0), (55, .goto 15, 3, 58, 70), (58, .iload_n 2, 1, 59, 0), (59, .aload_n 0, 1, 60, 0), (60, .aload_n 0, 1, 61, 0)] = true := by decide +kernel
set_option maxRecDepth 20000 in
theorem k_X10_under_1 : ckD cX10_under [(61, .getfield 93, 3, 64, 0), (64, .iload_n 1, 1, 65, 0), (65, .iaload, 1, 66, 0), (66, .invokevirtual 192, 3, 69, 0), (69, .iadd, 1, 70, 0), (70, .ireturn, 1, 71, 0)] = true := by decide +kernel
def f_X10_under_B (F : Int32 → Mm → Option (Int32 × Mm)) (a1 : Int32) (M : Mm) : Option (Int32 × Mm) := if a1 = (-1 : Int32) then some ((0 : Int32), M) else if (((M.1 69 34) >>> (a1 &&& 31)) &&& (1 : Int32)) = (1 : Int32) then some ((100 : Int32), M) else lt1 (wi M 69 34 ((M.1 69 34) ||| ((1 : Int32) <<< (a1 &&& 31)))) fun M_3 => rdI 12 M_3 95 a1 fun v_4 => bd2 (F v_4 M_3) fun r_8 M_7 => lt1 ((1 : Int32) + r_8) fun x2_9 => if x2_9 ≤ (12 : Int32) then rdI 12 M_7 96 a1 fun v_11 => bd2 (F v_11 M_7) fun r_15 M_14 => some ((x2_9 + r_15), M_14) else some ((100 : Int32), M_7)
def f_X10_under : Nat → Int32 → Mm → Option (Int32 × Mm)
  | 0 => fun _ _ => none
  | n + 1 => f_X10_under_B (f_X10_under n)
set_option maxRecDepth 100000 in
set_option maxHeartbeats 4000000 in
theorem t_X10_under {E : Ev} {l : Launch} (htr : l.stackTraces = false) : ∀ (n : Nat) (a1 : Int32) (M : Mm) (r : (Int32 × Mm)), f_X10_under n a1 M = some r → CM E l (1 + 1 * n) 0 0 yX10_under cX10_under 3 (some .int) [.ref (E.1 + 69), .int a1] M (some (.int r.1)) r.2 := by
  intro n
  induction n with
  | zero => intro a1 M r hf; cases hf
  | succ n ih =>
    intro a1 M r hf
    have hf : f_X10_under_B (f_X10_under n) a1 M = some r := hf
    generalize f_X10_under n = F at hf ih
    refine CM.of htr (by decide +kernel) (Nat.le_of_ble_eq_true rfl) ?_
    intro K hE hL hl hR0 C hr hRv
    subst hE
    subst hl
    have C : Cx K cX10_under RX10 (1 + 1 * (n + 1)) := C
    have hB : (0 : Nat) ≤ K.1.R.cells ∧ 0 ≤ K.1.R.slots := ⟨Nat.zero_le _, Nat.zero_le _⟩
    have hL2 : 2 < K.2.2.1 := by rw [hL]; decide
    show G K (0, 0) 0 [(0, .ref (K.2.1.1 + 69)), (1, .int a1)] [] M
    unfold f_X10_under_B at hf
    refine g_iload_n 1 C (ckD_get k_X10_under_0 0 rfl) rfl rfl ?_
    refine g_iconst (v := (-1 : Int32)) C (ckD_get k_X10_under_0 1 rfl) (by decide) ?_
    refine g_icmp_ne C (ckD_get k_X10_under_0 2 rfl) (fun c_1 => ?_) (fun c_1 => ?_)
    · have hf := if_f hf c_1
      refine g_aload_n 0 C (ckD_get k_X10_under_0 5 rfl) rfl rfl ?_
      refine g_getI C (ckD_get k_X10_under_0 6 rfl) fk_X10_189 T69 rfl ?_
      refine g_iload_n 1 C (ckD_get k_X10_under_0 7 rfl) rfl rfl ?_
      refine g_ishr C (ckD_get k_X10_under_0 8 rfl) ?_
      refine g_iconst (v := (1 : Int32)) C (ckD_get k_X10_under_0 9 rfl) (by decide) ?_
      refine g_iand C (ckD_get k_X10_under_0 10 rfl) ?_
      refine g_iconst (v := (1 : Int32)) C (ckD_get k_X10_under_0 11 rfl) (by decide) ?_
      refine g_icmp_ne C (ckD_get k_X10_under_0 12 rfl) (fun c_2 => ?_) (fun c_2 => ?_)
      · have hf := if_f hf c_2
        refine g_aload_n 0 C (ckD_get k_X10_under_0 15 rfl) rfl rfl ?_
        refine g_dup C (ckD_get k_X10_under_0 16 rfl) rfl ?_
        refine g_getI C (ckD_get k_X10_under_0 17 rfl) fk_X10_189 T69 rfl ?_
        refine g_iconst (v := (1 : Int32)) C (ckD_get k_X10_under_0 18 rfl) (by decide) ?_
        refine g_iload_n 1 C (ckD_get k_X10_under_0 19 rfl) rfl rfl ?_
        refine g_ishl C (ckD_get k_X10_under_0 20 rfl) ?_
        refine g_ior C (ckD_get k_X10_under_0 21 rfl) ?_
        obtain ⟨M_3, eM_3, hf⟩ := lt_e hf
        refine g_putI C (ckD_get k_X10_under_0 22 rfl) fk_X10_189 T69 rfl ?_
        refine memI eM_3 ?_
        refine g_iconst (v := (1 : Int32)) C (ckD_get k_X10_under_0 23 rfl) (by decide) ?_
        refine g_aload_n 0 C (ckD_get k_X10_under_0 24 rfl) rfl rfl ?_
        refine g_aload_n 0 C (ckD_get k_X10_under_0 25 rfl) rfl rfl ?_
        refine g_getR C (ckD_get k_X10_under_0 26 rfl) fk_X10_90 T69 rfl ?_
        refine g_iload_n 1 C (ckD_get k_X10_under_0 27 rfl) rfl rfl ?_
        obtain ⟨v_4, hi_5, ev_4, hf⟩ := rdI_e hf
        refine n_iald C (ckD_get k_X10_under_0 28 rfl) T95 hi_5 ev_4 ?_
        obtain ⟨r_8, M_7, hr_6, hf⟩ := bd2_e hf
        refine n_cV [.int v_4] [.int (1 : Int32)] C (ckD_get k_X10_under_0 29 rfl) vk_X10_192 (ih _ _ _ hr_6) T69 rfl rfl (Nat.le_of_ble_eq_true rfl) (by omega) hB rfl ?_
        refine g_iadd C (ckD_get k_X10_under_0 30 rfl) ?_
        obtain ⟨x2_9, ex2_9, hf⟩ := lt_e hf
        refine topI ex2_9 ?_
        refine g_istore_n (lv' := [(2, _), (0, _), (1, _)]) C (ckD_get k_X10_under_0 31 rfl) rfl hL2 rfl ?_
        refine g_iload_n 0 C (ckD_get k_X10_under_0 32 rfl) rfl rfl ?_
        refine g_bipush (v := (12 : Int32)) C (ckD_get k_X10_under_0 33 rfl) (by decide) ?_
        refine g_icmp_le C (ckD_get k_X10_under_0 34 rfl) (fun c_10 => ?_) (fun c_10 => ?_)
        · have hf := if_t hf c_10
          refine g_iload_n 0 C (ckD_get k_X10_under_0 37 rfl) rfl rfl ?_
          refine g_aload_n 1 C (ckD_get k_X10_under_0 38 rfl) rfl rfl ?_
          refine g_aload_n 1 C (ckD_get k_X10_under_0 39 rfl) rfl rfl ?_
          refine g_getR C (ckD_get k_X10_under_1 0 rfl) fk_X10_93 T69 rfl ?_
          refine g_iload_n 2 C (ckD_get k_X10_under_1 1 rfl) rfl rfl ?_
          obtain ⟨v_11, hi_12, ev_11, hf⟩ := rdI_e hf
          refine n_iald C (ckD_get k_X10_under_1 2 rfl) T96 hi_12 ev_11 ?_
          obtain ⟨r_15, M_14, hr_13, hf⟩ := bd2_e hf
          refine n_cV [.int v_11] [.int x2_9] C (ckD_get k_X10_under_1 3 rfl) vk_X10_192 (ih _ _ _ hr_13) T69 rfl rfl (Nat.le_of_ble_eq_true rfl) (by omega) hB rfl ?_
          refine g_iadd C (ckD_get k_X10_under_1 4 rfl) ?_
          cases hf
          exact g_iret C (ckD_get k_X10_under_1 5 rfl) hr hRv (Nat.le_refl _) (Nat.le_refl _)
        · have hf := if_f hf c_10
          refine g_bipush (v := (100 : Int32)) C (ckD_get k_X10_under_0 35 rfl) (by decide) ?_
          refine g_goto C (ckD_get k_X10_under_0 36 rfl) ?_
          cases hf
          exact g_iret C (ckD_get k_X10_under_1 5 rfl) hr hRv (Nat.le_refl _) (Nat.le_refl _)
      · have hf := if_t hf c_2
        refine g_bipush (v := (100 : Int32)) C (ckD_get k_X10_under_0 13 rfl) (by decide) ?_
        cases hf
        exact g_iret C (ckD_get k_X10_under_0 14 rfl) hr hRv (Nat.le_refl _) (Nat.le_refl _)
    · have hf := if_t hf c_1
      refine g_iconst (v := (0 : Int32)) C (ckD_get k_X10_under_0 3 rfl) (by decide) ?_
      cases hf
      exact g_iret C (ckD_get k_X10_under_0 4 rfl) hr hRv (Nat.le_refl _) (Nat.le_refl _)
