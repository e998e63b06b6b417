set_option maxRecDepth 20000 in
theorem k_X10_first_0 : ckD cX10_first [(0, .iconst 0, 1, 1, 0), (1, .istore_n 2, 1, 2, 0), (2, .iload_n 2, 1, 3, 0), (3, .aload_n 0, 1, 4, 0), (4, .getfield 124, 3, 7, 0), (7, .if_icmp .ge 13, 3, 10, 20), (10, .aload_n 1, 1, 11, 0), (11, .iload_n 2, 1, 12, 0), (12, .iload_n 2, 1, 13, 0), (13, .iastore, 1, 14, 0), (14, .iinc 2 1, 3, 17, 0), (17, .goto (-15), 3, 20, 2), (20, .return_, 1, 21, 0)] = true := by decide +kernel
def f_X10_first_A2 (M_3 : Mm) : Option Mm := some M_3
def f_X10_first_L2 (k1 : Nat) (x2_1 : Int32) (M_2 : Mm) : Option ((Int32 × Mm) ⊕ Mm) := if (M_2.1 69 1) ≤ x2_1 then some (.inr M_2) else wrI 12 M_2 k1 x2_1 x2_1 fun M_5 => lt1 (x2_1 + 1) fun x2_7 => some (.inl (x2_7, M_5))
def f_X10_first (k1 : Nat) (M : Mm) : Option Mm := (loop (fun v => f_X10_first_L2 k1 v.1 v.2) FU ((0 : Int32), M)).bind fun z => f_X10_first_A2 z
set_option maxRecDepth 100000 in
set_option maxHeartbeats 4000000 in
theorem t_X10_first {E : Ev} {l : Launch} (htr : l.stackTraces = false) (k1 : Nat) (hk1 : LT[k1]? = some (0, 12, [])) (M : Mm) (r : Mm) (hf : f_X10_first k1 M = some r) : CM E l 0 0 0 yX10_first cX10_first 3 none [.ref (E.1 + 69), .ref (E.1 + k1)] M none r := by
  refine CM.of htr (by decide +kernel) (Nat.le_of_ble_eq_true rfl) ?_
  intro K hE hL hl hR0 C hr hRv
  subst hE
  subst hl
  have C : Cx K cX10_first RX10 0 := C
  have hB : (0 : Nat) ≤ K.1.R.cells ∧ 0 ≤ K.1.R.slots := ⟨Nat.zero_le _, Nat.zero_le _⟩
  have hL2 : 2 < K.2.2.1 := by rw [hL]; decide
  show G K (0, 0) 0 [(0, .ref (K.2.1.1 + 69)), (1, .ref (K.2.1.1 + k1))] [] M
  unfold f_X10_first at hf
  refine g_iconst (v := (0 : Int32)) C (ckD_get k_X10_first_0 0 rfl) (by decide) ?_
  refine g_istore_n (lv' := [(2, _), (0, _), (1, _)]) C (ckD_get k_X10_first_0 1 rfl) rfl hL2 rfl ?_
  refine G.sub [1, 2, 0] rfl ?_
  obtain ⟨M_3, hx_2, hf⟩ := bd_e hf
  have hE_2 : G K (0, 0) 20 [] [] M_3 := by
    have hf : f_X10_first_A2 M_3 = some r := hf
    unfold f_X10_first_A2 at hf
    cases hf
    exact g_vret C (ckD_get k_X10_first_0 12 rfl) hr hRv (Nat.le_refl _) (Nat.le_refl _)
  refine loop_e (x := M_3) (P := fun (v : (Int32 × Mm)) => G K (0, 0) 2 [(0, .ref (K.2.1.1 + 69)), (1, .ref (K.2.1.1 + k1)), (2, .int v.1)] [] v.2) ?_ FU _ hx_2
  intro v rr_2 hf hn_2 hz_2
  obtain ⟨x2_1, M_2⟩ := v
  have hf : f_X10_first_L2 k1 x2_1 M_2 = some rr_2 := hf
  show G K (0, 0) 2 [(0, .ref (K.2.1.1 + 69)), (1, .ref (K.2.1.1 + k1)), (2, .int x2_1)] [] M_2
  unfold f_X10_first_L2 at hf
  refine g_iload_n 2 C (ckD_get k_X10_first_0 2 rfl) rfl rfl ?_
  refine g_aload_n 0 C (ckD_get k_X10_first_0 3 rfl) rfl rfl ?_
  refine g_getI C (ckD_get k_X10_first_0 4 rfl) fk_X10_124 T69 rfl ?_
  refine g_icmp_ge C (ckD_get k_X10_first_0 5 rfl) (fun c_4 => ?_) (fun c_4 => ?_)
  · have hf := if_t hf c_4
    refine G.sub [] rfl ?_
    cases hf
    cases hz_2 _ rfl
    exact hE_2
  · have hf := if_f hf c_4
    refine g_aload_n 1 C (ckD_get k_X10_first_0 6 rfl) rfl rfl ?_
    refine g_iload_n 2 C (ckD_get k_X10_first_0 7 rfl) rfl rfl ?_
    refine g_iload_n 2 C (ckD_get k_X10_first_0 8 rfl) rfl rfl ?_
    obtain ⟨M_5, hi_6, eM_5, hf⟩ := wrI_e hf
    refine n_iast C (ckD_get k_X10_first_0 9 rfl) hk1 hi_6 eM_5 ?_
    obtain ⟨x2_7, ex2_7, hf⟩ := lt_e hf
    refine g_iinc (lv' := [(2, _), (0, _), (1, _)]) 2 C (ckD_get k_X10_first_0 10 rfl) rfl ex2_7 hL2 rfl ?_
    refine g_goto C (ckD_get k_X10_first_0 11 rfl) ?_
    refine G.sub [1, 2, 0] rfl ?_
    cases hf
    exact hn_2 _ rfl

set_option maxRecDepth 20000 in
theorem k_X10_leastPair_0 : ckD cX10_leastPair [(0, .aload_n 0, 1, 1, 0), (1, .aload_n 0, 1, 2, 0), (2, .getfield 33, 3, 5, 0), (5, .invokevirtual 284, 3, 8, 0), (8, .iconst 1, 1, 9, 0), (9, .istore_n 1, 1, 10, 0), (10, .iload_n 1, 1, 11, 0), (11, .ifCond .eq 95, 3, 14, 106), (14, .aload_n 0, 1, 15, 0), (15, .aload_n 0, 1, 16, 0), (16, .getfield 36, 3, 19, 0), (19, .invokevirtual 284, 3, 22, 0), (22, .iconst 1, 1, 23, 0), (23, .istore_n 2, 1, 24, 0), (24, .iload_n 2, 1, 25, 0), (25, .ifCond .eq 66, 3, 28, 91), (28, .aload_n 0, 1, 29, 0), (29, .iconst 1, 1, 30, 0), (30, .invokevirtual 287, 3, 33, 0), (33, .ifCond .eq 43, 3, 36, 76), (36, .iconst 0, 1, 37, 0), (37, .istore_n 3, 1, 38, 0), (38, .iload_n 3, 1, 39, 0), (39, .aload_n 0, 1, 40, 0), (40, .getfield 124, 3, 43, 0), (43, .if_icmp .ge 33, 3, 46, 76), (46, .aload_n 0, 1, 47, 0), (47, .getfield 99, 3, 50, 0), (50, .iload_n 3, 1, 51, 0), (51, .aload_n 0, 1, 52, 0), (52, .getfield 33, 3, 55, 0), (55, .iload_n 3, 1, 56, 0), (56, .iaload, 1, 57, 0), (57, .iastore, 1, 58, 0), (58, .aload_n 0, 1, 59, 0), (59, .getfield 102, 3, 62, 0), (62, .iload_n 3, 1, 63, 0), (63, .aload_n 0, 1, 64, 0), (64, .getfield 36, 3, 67, 0), (67, .iload_n 3, 1, 68, 0)] = true := by decide +kernel
set_option maxRecDepth 20000 in
theorem k_X10_leastPair_1 : ckD cX10_leastPair [(68, .iaload, 1, 69, 0), (69, .iastore, 1, 70, 0), (70, .iinc 3 1, 3, 73, 0), (73, .goto (-35), 3, 76, 38), (76, .aload_n 0, 1, 77, 0), (77, .getfield 36, 3, 80, 0), (80, .aload_n 0, 1, 81, 0), (81, .getfield 124, 3, 84, 0), (84, .invokestatic 290, 3, 87, 0), (87, .istore_n 2, 1, 88, 0), (88, .goto (-64), 3, 91, 24), (91, .aload_n 0, 1, 92, 0), (92, .getfield 33, 3, 95, 0), (95, .aload_n 0, 1, 96, 0), (96, .getfield 124, 3, 99, 0), (99, .invokestatic 290, 3, 102, 0), (102, .istore_n 1, 1, 103, 0), (103, .goto (-93), 3, 106, 10), (106, .iconst 0, 1, 107, 0), (107, .istore_n 2, 1, 108, 0), (108, .iload_n 2, 1, 109, 0), (109, .aload_n 0, 1, 110, 0), (110, .getfield 124, 3, 113, 0), (113, .if_icmp .ge 33, 3, 116, 146), (116, .aload_n 0, 1, 117, 0), (117, .getfield 33, 3, 120, 0), (120, .iload_n 2, 1, 121, 0), (121, .aload_n 0, 1, 122, 0), (122, .getfield 99, 3, 125, 0), (125, .iload_n 2, 1, 126, 0), (126, .iaload, 1, 127, 0), (127, .iastore, 1, 128, 0), (128, .aload_n 0, 1, 129, 0), (129, .getfield 36, 3, 132, 0), (132, .iload_n 2, 1, 133, 0), (133, .aload_n 0, 1, 134, 0), (134, .getfield 102, 3, 137, 0), (137, .iload_n 2, 1, 138, 0), (138, .iaload, 1, 139, 0), (139, .iastore, 1, 140, 0)] = true := by decide +kernel
set_option maxRecDepth 20000 in
theorem k_X10_leastPair_2 : ckD cX10_leastPair [(140, .iinc 2 1, 3, 143, 0), (143, .goto (-35), 3, 146, 108), (146, .return_, 1, 147, 0)] = true := by decide +kernel
def f_X10_leastPair_A108 (M_8 : Mm) : Option Mm := some M_8
def f_X10_leastPair_L108 (x2_6 : Int32) (M_7 : Mm) : Option ((Int32 × Mm) ⊕ Mm) := if (M_7.1 69 1) ≤ x2_6 then some (.inr M_7) else rdI 23 M_7 98 x2_6 fun v_10 => wrI 12 M_7 76 x2_6 v_10 fun M_12 => rdI 12 M_12 99 x2_6 fun v_14 => wrI 12 M_12 77 x2_6 v_14 fun M_16 => lt1 (x2_6 + 1) fun x2_18 => some (.inl (x2_18, M_16))
def f_X10_leastPair_A10 (M_5 : Mm) : Option Mm := (loop (fun v => f_X10_leastPair_L108 v.1 v.2) FU ((0 : Int32), M_5)).bind fun z => f_X10_leastPair_A108 z
def f_X10_leastPair_A24 (M_24 : Mm) : Option ((Int32 × Mm) ⊕ Mm) := bd2 (f_X10_next 76 (M_24.1 69 1) M_24) fun r_27 M_26 => some (.inl (r_27, M_26))
def f_X10_leastPair_J76 (M_32 : Mm) : Option ((Int32 × Mm) ⊕ Mm) := bd2 (f_X10_next 77 (M_32.1 69 1) M_32) fun r_35 M_34 => some (.inl (r_35, M_34))
def f_X10_leastPair_A38 (M_39 : Mm) : Option ((Int32 × Mm) ⊕ Mm) := f_X10_leastPair_J76 M_39
def f_X10_leastPair_L38 (x3_37 : Int32) (M_38 : Mm) : Option ((Int32 × Mm) ⊕ Mm) := if (M_38.1 69 1) ≤ x3_37 then some (.inr M_38) else rdI 12 M_38 76 x3_37 fun v_41 => wrI 23 M_38 98 x3_37 v_41 fun M_43 => rdI 12 M_43 77 x3_37 fun v_45 => wrI 12 M_43 99 x3_37 v_45 fun M_47 => lt1 (x3_37 + 1) fun x3_49 => some (.inl (x3_49, M_47))
def f_X10_leastPair_L24 (x2_22 : Int32) (M_23 : Mm) : Option ((Int32 × Mm) ⊕ Mm) := if x2_22 = 0 then some (.inr M_23) else bd2 (f_X10_tryTurned (1 : Int32) M_23) fun r_31 M_30 => if r_31 = 0 then f_X10_leastPair_J76 M_30 else (loop (fun v => f_X10_leastPair_L38 v.1 v.2) FU ((0 : Int32), M_30)).bind fun z => f_X10_leastPair_A38 z
def f_X10_leastPair_L10 (x1_3 : Int32) (M_4 : Mm) : Option ((Int32 × Mm) ⊕ Mm) := if x1_3 = 0 then some (.inr M_4) else (f_X10_first 77 M_4).bind fun M_21 => (loop (fun v => f_X10_leastPair_L24 v.1 v.2) FU ((1 : Int32), M_21)).bind fun z => f_X10_leastPair_A24 z
def f_X10_leastPair  (M : Mm) : Option Mm := (f_X10_first 76 M).bind fun M_2 => (loop (fun v => f_X10_leastPair_L10 v.1 v.2) FU ((1 : Int32), M_2)).bind fun z => f_X10_leastPair_A10 z
set_option maxRecDepth 100000 in
set_option maxHeartbeats 4000000 in
theorem t_X10_leastPair {E : Ev} {l : Launch} (htr : l.stackTraces = false) (M : Mm) (r : Mm) (hf : f_X10_leastPair M = some r) : CM E l 35 0 0 yX10_leastPair cX10_leastPair 4 none [.ref (E.1 + 69)] M none r := by
  refine CM.of htr (by decide +kernel) (Nat.le_of_ble_eq_true rfl) ?_
  intro K hE hL hl hR0 C hr hRv
  subst hE
  subst hl
  have C : Cx K cX10_leastPair RX10 35 := C
  have hB : (0 : Nat) ≤ K.1.R.cells ∧ 0 ≤ K.1.R.slots := ⟨Nat.zero_le _, Nat.zero_le _⟩
  have hL1 : 1 < K.2.2.1 := by rw [hL]; decide
  have hL2 : 2 < K.2.2.1 := by rw [hL]; decide
  have hL3 : 3 < K.2.2.1 := by rw [hL]; decide
  show G K (0, 0) 0 [(0, .ref (K.2.1.1 + 69))] [] M
  unfold f_X10_leastPair at hf
  refine g_aload_n 0 C (ckD_get k_X10_leastPair_0 0 rfl) rfl rfl ?_
  refine g_aload_n 0 C (ckD_get k_X10_leastPair_0 1 rfl) rfl rfl ?_
  refine g_getR C (ckD_get k_X10_leastPair_0 2 rfl) fk_X10_33 T69 rfl ?_
  obtain ⟨M_2, hr_1, hf⟩ := bd_e hf
  refine n_cV [.ref (K.2.1.1 + 76)] [] C (ckD_get k_X10_leastPair_0 3 rfl) vk_X10_284 (t_X10_first C.tr _ T76 _ _ hr_1) T69 rfl rfl (Nat.le_of_ble_eq_true rfl) (by decide) hB rfl ?_
  refine g_iconst (v := (1 : Int32)) C (ckD_get k_X10_leastPair_0 4 rfl) (by decide) ?_
  refine g_istore_n (lv' := [(1, _), (0, _)]) C (ckD_get k_X10_leastPair_0 5 rfl) rfl hL1 rfl ?_
  refine G.sub [1, 0] rfl ?_
  obtain ⟨M_5, hx_10, hf⟩ := bd_e hf
  have hE_10 : G K (0, 0) 106 [(0, .ref (K.2.1.1 + 69))] [] M_5 := by
    have hf : f_X10_leastPair_A10 M_5 = some r := hf
    unfold f_X10_leastPair_A10 at hf
    refine g_iconst (v := (0 : Int32)) C (ckD_get k_X10_leastPair_1 18 rfl) (by decide) ?_
    refine g_istore_n (lv' := [(2, _), (0, _)]) C (ckD_get k_X10_leastPair_1 19 rfl) rfl hL2 rfl ?_
    refine G.sub [1, 0] rfl ?_
    obtain ⟨M_8, hx_108, hf⟩ := bd_e hf
    have hE_108 : G K (0, 0) 146 [] [] M_8 := by
      have hf : f_X10_leastPair_A108 M_8 = some r := hf
      unfold f_X10_leastPair_A108 at hf
      cases hf
      exact g_vret C (ckD_get k_X10_leastPair_2 2 rfl) hr hRv (Nat.le_refl _) (Nat.le_refl _)
    refine loop_e (x := M_8) (P := fun (v : (Int32 × Mm)) => G K (0, 0) 108 [(0, .ref (K.2.1.1 + 69)), (2, .int v.1)] [] v.2) ?_ FU _ hx_108
    intro v rr_108 hf hn_108 hz_108
    obtain ⟨x2_6, M_7⟩ := v
    have hf : f_X10_leastPair_L108 x2_6 M_7 = some rr_108 := hf
    show G K (0, 0) 108 [(0, .ref (K.2.1.1 + 69)), (2, .int x2_6)] [] M_7
    unfold f_X10_leastPair_L108 at hf
    refine g_iload_n 1 C (ckD_get k_X10_leastPair_1 20 rfl) rfl rfl ?_
    refine g_aload_n 0 C (ckD_get k_X10_leastPair_1 21 rfl) rfl rfl ?_
    refine g_getI C (ckD_get k_X10_leastPair_1 22 rfl) fk_X10_124 T69 rfl ?_
    refine g_icmp_ge C (ckD_get k_X10_leastPair_1 23 rfl) (fun c_9 => ?_) (fun c_9 => ?_)
    · have hf := if_t hf c_9
      refine G.sub [] rfl ?_
      cases hf
      cases hz_108 _ rfl
      exact hE_108
    · have hf := if_f hf c_9
      refine g_aload_n 0 C (ckD_get k_X10_leastPair_1 24 rfl) rfl rfl ?_
      refine g_getR C (ckD_get k_X10_leastPair_1 25 rfl) fk_X10_33 T69 rfl ?_
      refine g_iload_n 1 C (ckD_get k_X10_leastPair_1 26 rfl) rfl rfl ?_
      refine g_aload_n 0 C (ckD_get k_X10_leastPair_1 27 rfl) rfl rfl ?_
      refine g_getR C (ckD_get k_X10_leastPair_1 28 rfl) fk_X10_99 T69 rfl ?_
      refine g_iload_n 1 C (ckD_get k_X10_leastPair_1 29 rfl) rfl rfl ?_
      obtain ⟨v_10, hi_11, ev_10, hf⟩ := rdI_e hf
      refine n_iald C (ckD_get k_X10_leastPair_1 30 rfl) T98 hi_11 ev_10 ?_
      obtain ⟨M_12, hi_13, eM_12, hf⟩ := wrI_e hf
      refine n_iast C (ckD_get k_X10_leastPair_1 31 rfl) T76 hi_13 eM_12 ?_
      refine g_aload_n 0 C (ckD_get k_X10_leastPair_1 32 rfl) rfl rfl ?_
      refine g_getR C (ckD_get k_X10_leastPair_1 33 rfl) fk_X10_36 T69 rfl ?_
      refine g_iload_n 1 C (ckD_get k_X10_leastPair_1 34 rfl) rfl rfl ?_
      refine g_aload_n 0 C (ckD_get k_X10_leastPair_1 35 rfl) rfl rfl ?_
      refine g_getR C (ckD_get k_X10_leastPair_1 36 rfl) fk_X10_102 T69 rfl ?_
      refine g_iload_n 1 C (ckD_get k_X10_leastPair_1 37 rfl) rfl rfl ?_
      obtain ⟨v_14, hi_15, ev_14, hf⟩ := rdI_e hf
      refine n_iald C (ckD_get k_X10_leastPair_1 38 rfl) T99 hi_15 ev_14 ?_
      obtain ⟨M_16, hi_17, eM_16, hf⟩ := wrI_e hf
      refine n_iast C (ckD_get k_X10_leastPair_1 39 rfl) T77 hi_17 eM_16 ?_
      obtain ⟨x2_18, ex2_18, hf⟩ := lt_e hf
      refine g_iinc (lv' := [(2, _), (0, _)]) 1 C (ckD_get k_X10_leastPair_2 0 rfl) rfl ex2_18 hL2 rfl ?_
      refine g_goto C (ckD_get k_X10_leastPair_2 1 rfl) ?_
      refine G.sub [1, 0] rfl ?_
      cases hf
      exact hn_108 _ rfl
  refine loop_e (x := M_5) (P := fun (v : (Int32 × Mm)) => G K (0, 0) 10 [(0, .ref (K.2.1.1 + 69)), (1, .int v.1)] [] v.2) ?_ FU _ hx_10
  intro v rr_10 hf hn_10 hz_10
  obtain ⟨x1_3, M_4⟩ := v
  have hf : f_X10_leastPair_L10 x1_3 M_4 = some rr_10 := hf
  show G K (0, 0) 10 [(0, .ref (K.2.1.1 + 69)), (1, .int x1_3)] [] M_4
  unfold f_X10_leastPair_L10 at hf
  refine g_iload_n 1 C (ckD_get k_X10_leastPair_0 6 rfl) rfl rfl ?_
  refine g_if_eq C (ckD_get k_X10_leastPair_0 7 rfl) (fun c_19 => ?_) (fun c_19 => ?_)
  · have hf := if_t hf c_19
    refine G.sub [0] rfl ?_
    cases hf
    cases hz_10 _ rfl
    exact hE_10
  · have hf := if_f hf c_19
    refine g_aload_n 0 C (ckD_get k_X10_leastPair_0 8 rfl) rfl rfl ?_
    refine g_aload_n 0 C (ckD_get k_X10_leastPair_0 9 rfl) rfl rfl ?_
    refine g_getR C (ckD_get k_X10_leastPair_0 10 rfl) fk_X10_36 T69 rfl ?_
    obtain ⟨M_21, hr_20, hf⟩ := bd_e hf
    refine n_cV [.ref (K.2.1.1 + 77)] [] C (ckD_get k_X10_leastPair_0 11 rfl) vk_X10_284 (t_X10_first C.tr _ T77 _ _ hr_20) T69 rfl rfl (Nat.le_of_ble_eq_true rfl) (by decide) hB rfl ?_
    refine g_iconst (v := (1 : Int32)) C (ckD_get k_X10_leastPair_0 12 rfl) (by decide) ?_
    refine g_istore_n (lv' := [(2, _), (0, _), (1, _)]) C (ckD_get k_X10_leastPair_0 13 rfl) rfl hL2 rfl ?_
    refine G.sub [1, 0] rfl ?_
    obtain ⟨M_24, hx_24, hf⟩ := bd_e hf
    have hE_24 : G K (0, 0) 91 [(0, .ref (K.2.1.1 + 69))] [] M_24 := by
      have hf : f_X10_leastPair_A24 M_24 = some rr_10 := hf
      unfold f_X10_leastPair_A24 at hf
      refine g_aload_n 0 C (ckD_get k_X10_leastPair_1 11 rfl) rfl rfl ?_
      refine g_getR C (ckD_get k_X10_leastPair_1 12 rfl) fk_X10_33 T69 rfl ?_
      refine g_aload_n 0 C (ckD_get k_X10_leastPair_1 13 rfl) rfl rfl ?_
      refine g_getI C (ckD_get k_X10_leastPair_1 14 rfl) fk_X10_124 T69 rfl ?_
      obtain ⟨r_27, M_26, hr_25, hf⟩ := bd2_e hf
      refine n_cS [.ref (K.2.1.1 + 76), .int (M_24.1 69 1)] [] C (ckD_get k_X10_leastPair_1 15 rfl) sk_X10_290 (t_X10_next C.tr _ T76 _ _ _ hr_25) rfl rfl (Nat.le_of_ble_eq_true rfl) (by decide) hB rfl ?_
      refine g_istore_n (lv' := [(1, _), (0, _)]) C (ckD_get k_X10_leastPair_1 16 rfl) rfl hL1 rfl ?_
      refine g_goto C (ckD_get k_X10_leastPair_1 17 rfl) ?_
      refine G.sub [1, 0] rfl ?_
      cases hf
      exact hn_10 _ rfl
    refine loop_e (x := M_24) (P := fun (v : (Int32 × Mm)) => G K (0, 0) 24 [(0, .ref (K.2.1.1 + 69)), (2, .int v.1)] [] v.2) ?_ FU _ hx_24
    intro v rr_24 hf hn_24 hz_24
    obtain ⟨x2_22, M_23⟩ := v
    have hf : f_X10_leastPair_L24 x2_22 M_23 = some rr_24 := hf
    show G K (0, 0) 24 [(0, .ref (K.2.1.1 + 69)), (2, .int x2_22)] [] M_23
    unfold f_X10_leastPair_L24 at hf
    refine g_iload_n 1 C (ckD_get k_X10_leastPair_0 14 rfl) rfl rfl ?_
    refine g_if_eq C (ckD_get k_X10_leastPair_0 15 rfl) (fun c_28 => ?_) (fun c_28 => ?_)
    · have hf := if_t hf c_28
      refine G.sub [0] rfl ?_
      cases hf
      cases hz_24 _ rfl
      exact hE_24
    · have hf := if_f hf c_28
      refine g_aload_n 0 C (ckD_get k_X10_leastPair_0 16 rfl) rfl rfl ?_
      refine g_iconst (v := (1 : Int32)) C (ckD_get k_X10_leastPair_0 17 rfl) (by decide) ?_
      obtain ⟨r_31, M_30, hr_29, hf⟩ := bd2_e hf
      refine n_cV [.int (1 : Int32)] [] C (ckD_get k_X10_leastPair_0 18 rfl) vk_X10_287 (t_X10_tryTurned C.tr _ _ _ hr_29) T69 rfl rfl (Nat.le_of_ble_eq_true rfl) (by decide) hB rfl ?_
      have hJ_76 : ∀ (M_32 : Mm), f_X10_leastPair_J76 M_32 = some rr_24 → G K (0, 0) 76 [(0, .ref (K.2.1.1 + 69))] [] M_32 := by
        intro M_32 hf
        unfold f_X10_leastPair_J76 at hf
        refine g_aload_n 0 C (ckD_get k_X10_leastPair_1 4 rfl) rfl rfl ?_
        refine g_getR C (ckD_get k_X10_leastPair_1 5 rfl) fk_X10_36 T69 rfl ?_
        refine g_aload_n 0 C (ckD_get k_X10_leastPair_1 6 rfl) rfl rfl ?_
        refine g_getI C (ckD_get k_X10_leastPair_1 7 rfl) fk_X10_124 T69 rfl ?_
        obtain ⟨r_35, M_34, hr_33, hf⟩ := bd2_e hf
        refine n_cS [.ref (K.2.1.1 + 77), .int (M_32.1 69 1)] [] C (ckD_get k_X10_leastPair_1 8 rfl) sk_X10_290 (t_X10_next C.tr _ T77 _ _ _ hr_33) rfl rfl (Nat.le_of_ble_eq_true rfl) (by decide) hB rfl ?_
        refine g_istore_n (lv' := [(2, _), (0, _)]) C (ckD_get k_X10_leastPair_1 9 rfl) rfl hL2 rfl ?_
        refine g_goto C (ckD_get k_X10_leastPair_1 10 rfl) ?_
        refine G.sub [1, 0] rfl ?_
        cases hf
        exact hn_24 _ rfl
      refine g_if_eq C (ckD_get k_X10_leastPair_0 19 rfl) (fun c_36 => ?_) (fun c_36 => ?_)
      · have hf := if_t hf c_36
        refine G.sub [0] rfl ?_
        exact hJ_76 _ hf
      · have hf := if_f hf c_36
        refine g_iconst (v := (0 : Int32)) C (ckD_get k_X10_leastPair_0 20 rfl) (by decide) ?_
        refine g_istore_n (lv' := [(3, _), (0, _), (2, _)]) C (ckD_get k_X10_leastPair_0 21 rfl) rfl hL3 rfl ?_
        refine G.sub [1, 0] rfl ?_
        obtain ⟨M_39, hx_38, hf⟩ := bd_e hf
        have hE_38 : G K (0, 0) 76 [(0, .ref (K.2.1.1 + 69))] [] M_39 := by
          have hf : f_X10_leastPair_A38 M_39 = some rr_24 := hf
          unfold f_X10_leastPair_A38 at hf
          exact hJ_76 _ hf
        refine loop_e (x := M_39) (P := fun (v : (Int32 × Mm)) => G K (0, 0) 38 [(0, .ref (K.2.1.1 + 69)), (3, .int v.1)] [] v.2) ?_ FU _ hx_38
        intro v rr_38 hf hn_38 hz_38
        obtain ⟨x3_37, M_38⟩ := v
        have hf : f_X10_leastPair_L38 x3_37 M_38 = some rr_38 := hf
        show G K (0, 0) 38 [(0, .ref (K.2.1.1 + 69)), (3, .int x3_37)] [] M_38
        unfold f_X10_leastPair_L38 at hf
        refine g_iload_n 1 C (ckD_get k_X10_leastPair_0 22 rfl) rfl rfl ?_
        refine g_aload_n 0 C (ckD_get k_X10_leastPair_0 23 rfl) rfl rfl ?_
        refine g_getI C (ckD_get k_X10_leastPair_0 24 rfl) fk_X10_124 T69 rfl ?_
        refine g_icmp_ge C (ckD_get k_X10_leastPair_0 25 rfl) (fun c_40 => ?_) (fun c_40 => ?_)
        · have hf := if_t hf c_40
          refine G.sub [0] rfl ?_
          cases hf
          cases hz_38 _ rfl
          exact hE_38
        · have hf := if_f hf c_40
          refine g_aload_n 0 C (ckD_get k_X10_leastPair_0 26 rfl) rfl rfl ?_
          refine g_getR C (ckD_get k_X10_leastPair_0 27 rfl) fk_X10_99 T69 rfl ?_
          refine g_iload_n 1 C (ckD_get k_X10_leastPair_0 28 rfl) rfl rfl ?_
          refine g_aload_n 0 C (ckD_get k_X10_leastPair_0 29 rfl) rfl rfl ?_
          refine g_getR C (ckD_get k_X10_leastPair_0 30 rfl) fk_X10_33 T69 rfl ?_
          refine g_iload_n 1 C (ckD_get k_X10_leastPair_0 31 rfl) rfl rfl ?_
          obtain ⟨v_41, hi_42, ev_41, hf⟩ := rdI_e hf
          refine n_iald C (ckD_get k_X10_leastPair_0 32 rfl) T76 hi_42 ev_41 ?_
          obtain ⟨M_43, hi_44, eM_43, hf⟩ := wrI_e hf
          refine n_iast C (ckD_get k_X10_leastPair_0 33 rfl) T98 hi_44 eM_43 ?_
          refine g_aload_n 0 C (ckD_get k_X10_leastPair_0 34 rfl) rfl rfl ?_
          refine g_getR C (ckD_get k_X10_leastPair_0 35 rfl) fk_X10_102 T69 rfl ?_
          refine g_iload_n 1 C (ckD_get k_X10_leastPair_0 36 rfl) rfl rfl ?_
          refine g_aload_n 0 C (ckD_get k_X10_leastPair_0 37 rfl) rfl rfl ?_
          refine g_getR C (ckD_get k_X10_leastPair_0 38 rfl) fk_X10_36 T69 rfl ?_
          refine g_iload_n 1 C (ckD_get k_X10_leastPair_0 39 rfl) rfl rfl ?_
          obtain ⟨v_45, hi_46, ev_45, hf⟩ := rdI_e hf
          refine n_iald C (ckD_get k_X10_leastPair_1 0 rfl) T77 hi_46 ev_45 ?_
          obtain ⟨M_47, hi_48, eM_47, hf⟩ := wrI_e hf
          refine n_iast C (ckD_get k_X10_leastPair_1 1 rfl) T99 hi_48 eM_47 ?_
          obtain ⟨x3_49, ex3_49, hf⟩ := lt_e hf
          refine g_iinc (lv' := [(3, _), (0, _)]) 1 C (ckD_get k_X10_leastPair_1 2 rfl) rfl ex3_49 hL3 rfl ?_
          refine g_goto C (ckD_get k_X10_leastPair_1 3 rfl) ?_
          refine G.sub [1, 0] rfl ?_
          cases hf
          exact hn_38 _ rfl

set_option maxRecDepth 20000 in
theorem k_X10_isNormal_0 : ckD cX10_isNormal [(0, .iconst 0, 1, 1, 0), (1, .istore_n 1, 1, 2, 0), (2, .iconst 0, 1, 3, 0), (3, .istore_n 2, 1, 4, 0), (4, .iload_n 2, 1, 5, 0), (5, .aload_n 0, 1, 6, 0), (6, .invokevirtual 175, 3, 9, 0), (9, .if_icmp .ge 61, 3, 12, 70), (12, .aload_n 0, 1, 13, 0), (13, .getfield 54, 3, 16, 0), (16, .iload_n 2, 1, 17, 0), (17, .iaload, 1, 18, 0), (18, .istore_n 3, 1, 19, 0), (19, .iload_n 3, 1, 20, 0), (20, .bipush 12, 2, 22, 0), (22, .if_icmp .lt 32, 3, 25, 54), (25, .aload_n 0, 1, 26, 0), (26, .getfield 84, 3, 29, 0), (29, .iload_n 1, 1, 30, 0), (30, .iconst 1, 1, 31, 0), (31, .isub, 1, 32, 0), (32, .iaload, 1, 33, 0), (33, .iload_n 3, 1, 34, 0), (34, .if_icmp .ne 5, 3, 37, 39), (37, .iconst 0, 1, 38, 0), (38, .ireturn, 1, 39, 0), (39, .iinc 1 (-1), 3, 42, 0), (42, .aload_n 0, 1, 43, 0), (43, .getfield 84, 3, 46, 0), (46, .iload_n 1, 1, 47, 0), (47, .iconst 1, 1, 48, 0), (48, .isub, 1, 49, 0), (49, .iload_n 3, 1, 50, 0), (50, .iastore, 1, 51, 0), (51, .goto 13, 3, 54, 64), (54, .aload_n 0, 1, 55, 0), (55, .getfield 84, 3, 58, 0), (58, .iload_n 1, 1, 59, 0), (59, .iconst 0, 1, 60, 0), (60, .iastore, 1, 61, 0)] = true := by decide +kernel
set_option maxRecDepth 20000 in
theorem k_X10_isNormal_1 : ckD cX10_isNormal [(61, .iinc 1 1, 3, 64, 0), (64, .iinc 2 1, 3, 67, 0), (67, .goto (-63), 3, 70, 4), (70, .iconst 1, 1, 71, 0), (71, .ireturn, 1, 72, 0)] = true := by decide +kernel
def f_X10_isNormal_A4 (M_4 : Mm) : Option (Int32 × Mm) := some ((1 : Int32), M_4)
def f_X10_isNormal_J64 (x2_2 : Int32) (p1_8 : Int32) (M_9 : Mm) : Option ((Int32 × Int32 × Mm) ⊕ (Mm ⊕ (Int32 × Mm))) := lt1 (x2_2 + 1) fun x2_10 => some (.inl (p1_8, x2_10, M_9))
def f_X10_isNormal_L4 (x1_1 : Int32) (x2_2 : Int32) (M_3 : Mm) : Option ((Int32 × Int32 × Mm) ⊕ (Mm ⊕ (Int32 × Mm))) := if (f_X10_rowSize M_3) ≤ x2_2 then some (.inr (.inl M_3)) else rdI 23 M_3 83 x2_2 fun v_6 => if v_6 < (12 : Int32) then wrI 23 M_3 93 x1_1 (0 : Int32) fun M_12 => lt1 (x1_1 + 1) fun x1_14 => f_X10_isNormal_J64 x2_2 x1_14 M_12 else rdI 23 M_3 93 (x1_1 - (1 : Int32)) fun v_15 => if v_15 = v_6 then some (.inr (.inr ((0 : Int32), M_3))) else lt1 (x1_1 + (-1)) fun x1_18 => wrI 23 M_3 93 (x1_18 - (1 : Int32)) v_6 fun M_19 => f_X10_isNormal_J64 x2_2 x1_18 M_19
def f_X10_isNormal  (M : Mm) : Option (Int32 × Mm) := (loop (fun v => f_X10_isNormal_L4 v.1 v.2.1 v.2.2) FU ((0 : Int32), (0 : Int32), M)).bind fun x => Sum.elim (fun z => f_X10_isNormal_A4 z) (fun o => some o) x
set_option maxRecDepth 100000 in
set_option maxHeartbeats 4000000 in
theorem t_X10_isNormal {E : Ev} {l : Launch} (htr : l.stackTraces = false) (M : Mm) (r : (Int32 × Mm)) (hf : f_X10_isNormal M = some r) : CM E l 1 0 0 yX10_isNormal cX10_isNormal 4 (some .boolean) [.ref (E.1 + 69)] M (some (.int r.1)) r.2 := by
  refine CM.of htr (by decide +kernel) (Nat.le_of_ble_eq_true rfl) ?_
  intro K hE hL hl hR0 C hr hRv
  subst hE
  subst hl
  have C : Cx K cX10_isNormal RX10 1 := C
  have hB : (0 : Nat) ≤ K.1.R.cells ∧ 0 ≤ K.1.R.slots := ⟨Nat.zero_le _, Nat.zero_le _⟩
  have hL1 : 1 < K.2.2.1 := by rw [hL]; decide
  have hL2 : 2 < K.2.2.1 := by rw [hL]; decide
  have hL3 : 3 < K.2.2.1 := by rw [hL]; decide
  show G K (0, 0) 0 [(0, .ref (K.2.1.1 + 69))] [] M
  unfold f_X10_isNormal at hf
  refine g_iconst (v := (0 : Int32)) C (ckD_get k_X10_isNormal_0 0 rfl) (by decide) ?_
  refine g_istore_n (lv' := [(1, _), (0, _)]) C (ckD_get k_X10_isNormal_0 1 rfl) rfl hL1 rfl ?_
  refine g_iconst (v := (0 : Int32)) C (ckD_get k_X10_isNormal_0 2 rfl) (by decide) ?_
  refine g_istore_n (lv' := [(2, _), (1, _), (0, _)]) C (ckD_get k_X10_isNormal_0 3 rfl) rfl hL2 rfl ?_
  refine G.sub [2, 1, 0] rfl ?_
  obtain ⟨xx_4, hx_4, hf⟩ := bd_e hf
  have hE_4 : ∀ (M_4 : Mm), xx_4 = .inl M_4 → G K (0, 0) 70 [] [] M_4 := by
    intro M_4 ex
    subst ex
    have hf : f_X10_isNormal_A4 M_4 = some r := hf
    unfold f_X10_isNormal_A4 at hf
    refine g_iconst (v := (1 : Int32)) C (ckD_get k_X10_isNormal_1 3 rfl) (by decide) ?_
    cases hf
    exact g_zret C (ckD_get k_X10_isNormal_1 4 rfl) hr rfl hRv (Nat.le_refl _) (Nat.le_refl _)
  have hO_4 : ∀ o, xx_4 = .inr o → o = r := by
    intro o eo
    subst eo
    have hf : some o = some r := hf
    cases hf
    rfl
  refine loop_e (x := xx_4) (P := fun (v : (Int32 × Int32 × Mm)) => G K (0, 0) 4 [(0, .ref (K.2.1.1 + 69)), (1, .int v.1), (2, .int v.2.1)] [] v.2.2) ?_ FU _ hx_4
  intro v rr_4 hf hn_4 hz_4
  obtain ⟨x1_1, x2_2, M_3⟩ := v
  have hf : f_X10_isNormal_L4 x1_1 x2_2 M_3 = some rr_4 := hf
  show G K (0, 0) 4 [(0, .ref (K.2.1.1 + 69)), (1, .int x1_1), (2, .int x2_2)] [] M_3
  unfold f_X10_isNormal_L4 at hf
  refine g_iload_n 2 C (ckD_get k_X10_isNormal_0 4 rfl) rfl rfl ?_
  refine g_aload_n 0 C (ckD_get k_X10_isNormal_0 5 rfl) rfl rfl ?_
  refine n_cV [] [.int x2_2] C (ckD_get k_X10_isNormal_0 6 rfl) vk_X10_175 (t_X10_rowSize C.tr _ _ rfl) T69 rfl rfl (Nat.le_of_ble_eq_true rfl) (by decide) hB rfl ?_
  refine g_icmp_ge C (ckD_get k_X10_isNormal_0 7 rfl) (fun c_5 => ?_) (fun c_5 => ?_)
  · have hf := if_t hf c_5
    refine G.sub [] rfl ?_
    cases hf
    exact hE_4 _ (hz_4 _ rfl).symm
  · have hf := if_f hf c_5
    refine g_aload_n 0 C (ckD_get k_X10_isNormal_0 8 rfl) rfl rfl ?_
    refine g_getR C (ckD_get k_X10_isNormal_0 9 rfl) fk_X10_54 T69 rfl ?_
    refine g_iload_n 2 C (ckD_get k_X10_isNormal_0 10 rfl) rfl rfl ?_
    obtain ⟨v_6, hi_7, ev_6, hf⟩ := rdI_e hf
    refine n_iald C (ckD_get k_X10_isNormal_0 11 rfl) T83 hi_7 ev_6 ?_
    refine g_istore_n (lv' := [(3, _), (0, _), (1, _), (2, _)]) C (ckD_get k_X10_isNormal_0 12 rfl) rfl hL3 rfl ?_
    refine g_iload_n 0 C (ckD_get k_X10_isNormal_0 13 rfl) rfl rfl ?_
    refine g_bipush (v := (12 : Int32)) C (ckD_get k_X10_isNormal_0 14 rfl) (by decide) ?_
    have hJ_64 : ∀ (p1_8 : Int32) (M_9 : Mm), f_X10_isNormal_J64 x2_2 p1_8 M_9 = some rr_4 → G K (0, 0) 64 [(0, .ref (K.2.1.1 + 69)), (1, .int p1_8), (2, .int x2_2)] [] M_9 := by
      intro p1_8 M_9 hf
      unfold f_X10_isNormal_J64 at hf
      obtain ⟨x2_10, ex2_10, hf⟩ := lt_e hf
      refine g_iinc (lv' := [(2, _), (0, _), (1, _)]) 2 C (ckD_get k_X10_isNormal_1 1 rfl) rfl ex2_10 hL2 rfl ?_
      refine g_goto C (ckD_get k_X10_isNormal_1 2 rfl) ?_
      refine G.sub [1, 2, 0] rfl ?_
      cases hf
      exact hn_4 _ rfl
    refine g_icmp_lt C (ckD_get k_X10_isNormal_0 15 rfl) (fun c_11 => ?_) (fun c_11 => ?_)
    · have hf := if_t hf c_11
      refine g_aload_n 1 C (ckD_get k_X10_isNormal_0 35 rfl) rfl rfl ?_
      refine g_getR C (ckD_get k_X10_isNormal_0 36 rfl) fk_X10_84 T69 rfl ?_
      refine g_iload_n 2 C (ckD_get k_X10_isNormal_0 37 rfl) rfl rfl ?_
      refine g_iconst (v := (0 : Int32)) C (ckD_get k_X10_isNormal_0 38 rfl) (by decide) ?_
      obtain ⟨M_12, hi_13, eM_12, hf⟩ := wrI_e hf
      refine n_iast C (ckD_get k_X10_isNormal_0 39 rfl) T93 hi_13 eM_12 ?_
      obtain ⟨x1_14, ex1_14, hf⟩ := lt_e hf
      refine g_iinc (lv' := [(1, _), (3, _), (0, _), (2, _)]) 2 C (ckD_get k_X10_isNormal_1 0 rfl) rfl ex1_14 hL1 rfl ?_
      refine G.sub [2, 0, 3] rfl ?_
      exact hJ_64 _ _ hf
    · have hf := if_f hf c_11
      refine g_aload_n 1 C (ckD_get k_X10_isNormal_0 16 rfl) rfl rfl ?_
      refine g_getR C (ckD_get k_X10_isNormal_0 17 rfl) fk_X10_84 T69 rfl ?_
      refine g_iload_n 2 C (ckD_get k_X10_isNormal_0 18 rfl) rfl rfl ?_
      refine g_iconst (v := (1 : Int32)) C (ckD_get k_X10_isNormal_0 19 rfl) (by decide) ?_
      refine g_isub C (ckD_get k_X10_isNormal_0 20 rfl) ?_
      obtain ⟨v_15, hi_16, ev_15, hf⟩ := rdI_e hf
      refine n_iald C (ckD_get k_X10_isNormal_0 21 rfl) T93 hi_16 ev_15 ?_
      refine g_iload_n 0 C (ckD_get k_X10_isNormal_0 22 rfl) rfl rfl ?_
      refine g_icmp_ne C (ckD_get k_X10_isNormal_0 23 rfl) (fun c_17 => ?_) (fun c_17 => ?_)
      · have hf := if_f hf c_17
        obtain ⟨x1_18, ex1_18, hf⟩ := lt_e hf
        refine g_iinc (lv' := [(1, _), (3, _), (0, _), (2, _)]) 2 C (ckD_get k_X10_isNormal_0 26 rfl) rfl ex1_18 hL1 rfl ?_
        refine g_aload_n 2 C (ckD_get k_X10_isNormal_0 27 rfl) rfl rfl ?_
        refine g_getR C (ckD_get k_X10_isNormal_0 28 rfl) fk_X10_84 T69 rfl ?_
        refine g_iload_n 0 C (ckD_get k_X10_isNormal_0 29 rfl) rfl rfl ?_
        refine g_iconst (v := (1 : Int32)) C (ckD_get k_X10_isNormal_0 30 rfl) (by decide) ?_
        refine g_isub C (ckD_get k_X10_isNormal_0 31 rfl) ?_
        refine g_iload_n 1 C (ckD_get k_X10_isNormal_0 32 rfl) rfl rfl ?_
        obtain ⟨M_19, hi_20, eM_19, hf⟩ := wrI_e hf
        refine n_iast C (ckD_get k_X10_isNormal_0 33 rfl) T93 hi_20 eM_19 ?_
        refine g_goto C (ckD_get k_X10_isNormal_0 34 rfl) ?_
        refine G.sub [2, 0, 3] rfl ?_
        exact hJ_64 _ _ hf
      · have hf := if_t hf c_17
        refine g_iconst (v := (0 : Int32)) C (ckD_get k_X10_isNormal_0 24 rfl) (by decide) ?_
        cases hf
        cases hO_4 _ (hz_4 _ rfl).symm
        exact g_zret C (ckD_get k_X10_isNormal_0 25 rfl) hr rfl hRv (Nat.le_refl _) (Nat.le_refl _)

set_option maxRecDepth 20000 in
theorem k_X10_tryRows_0 : ckD cX10_tryRows [(0, .aload_n 0, 1, 1, 0), (1, .invokevirtual 175, 3, 4, 0), (4, .iload_n 1, 1, 5, 0), (5, .isub, 1, 6, 0), (6, .istore 4, 2, 8, 0), (8, .iload_n 3, 1, 9, 0), (9, .iload 4, 2, 11, 0), (11, .iconst 1, 1, 12, 0), (12, .iadd, 1, 13, 0), (13, .if_icmp .le 4, 3, 16, 17), (16, .return_, 1, 17, 0), (17, .iload 4, 2, 19, 0), (19, .ifCond .ne 89, 3, 22, 108), (22, .iload_n 3, 1, 23, 0), (23, .iconst 1, 1, 24, 0), (24, .if_icmp .ne 10, 3, 27, 34), (27, .aload_n 0, 1, 28, 0), (28, .invokevirtual 294, 3, 31, 0), (31, .ifCond .ne 4, 3, 34, 35), (34, .return_, 1, 35, 0), (35, .iconst 0, 1, 36, 0), (36, .istore 5, 2, 38, 0), (38, .iload 5, 2, 40, 0), (40, .aload_n 0, 1, 41, 0), (41, .invokevirtual 175, 3, 44, 0), (44, .if_icmp .ge 23, 3, 47, 67), (47, .aload_n 0, 1, 48, 0), (48, .getfield 39, 3, 51, 0), (51, .iload 5, 2, 53, 0), (53, .aload_n 0, 1, 54, 0), (54, .getfield 54, 3, 57, 0), (57, .iload 5, 2, 59, 0), (59, .iaload, 1, 60, 0), (60, .iastore, 1, 61, 0), (61, .iinc 5 1, 3, 64, 0), (64, .goto (-26), 3, 67, 38), (67, .aload_n 0, 1, 68, 0), (68, .iconst 2, 1, 69, 0), (69, .invokevirtual 287, 3, 72, 0), (72, .ifCond .eq 35, 3, 75, 107)] = true := by decide +kernel
set_option maxRecDepth 20000 in
theorem k_X10_tryRows_1 : ckD cX10_tryRows [(75, .iconst 0, 1, 76, 0), (76, .istore 5, 2, 78, 0), (78, .iload 5, 2, 80, 0), (80, .aload_n 0, 1, 81, 0), (81, .invokevirtual 175, 3, 84, 0), (84, .if_icmp .ge 23, 3, 87, 107), (87, .aload_n 0, 1, 88, 0), (88, .getfield 99, 3, 91, 0), (91, .iload 5, 2, 93, 0), (93, .aload_n 0, 1, 94, 0), (94, .getfield 39, 3, 97, 0), (97, .iload 5, 2, 99, 0), (99, .iaload, 1, 100, 0), (100, .iastore, 1, 101, 0), (101, .iinc 5 1, 3, 104, 0), (104, .goto (-26), 3, 107, 78), (107, .return_, 1, 108, 0), (108, .iconst 0, 1, 109, 0), (109, .istore 5, 2, 111, 0), (111, .iload 5, 2, 113, 0), (113, .aload_n 0, 1, 114, 0), (114, .getfield 124, 3, 117, 0), (117, .if_icmp .ge 46, 3, 120, 163), (120, .iload_n 2, 1, 121, 0), (121, .iload 5, 2, 123, 0), (123, .ishr, 1, 124, 0), (124, .iconst 1, 1, 125, 0), (125, .iand, 1, 126, 0), (126, .iconst 1, 1, 127, 0), (127, .if_icmp .ne 6, 3, 130, 133), (130, .goto 27, 3, 133, 157), (133, .aload_n 0, 1, 134, 0), (134, .getfield 54, 3, 137, 0), (137, .iload_n 1, 1, 138, 0), (138, .iload 5, 2, 140, 0), (140, .iastore, 1, 141, 0), (141, .aload_n 0, 1, 142, 0), (142, .iload_n 1, 1, 143, 0), (143, .iconst 1, 1, 144, 0), (144, .iadd, 1, 145, 0)] = true := by decide +kernel
set_option maxRecDepth 20000 in
theorem k_X10_tryRows_2 : ckD cX10_tryRows [(145, .iload_n 2, 1, 146, 0), (146, .iconst 1, 1, 147, 0), (147, .iload 5, 2, 149, 0), (149, .ishl, 1, 150, 0), (150, .ior, 1, 151, 0), (151, .iload_n 3, 1, 152, 0), (152, .iconst 1, 1, 153, 0), (153, .iadd, 1, 154, 0), (154, .invokevirtual 297, 3, 157, 0), (157, .iinc 5 1, 3, 160, 0), (160, .goto (-49), 3, 163, 111), (163, .bipush 12, 2, 165, 0), (165, .istore 5, 2, 167, 0), (167, .iload 5, 2, 169, 0), (169, .bipush 13, 2, 171, 0), (171, .if_icmp .gt 33, 3, 174, 204), (174, .iload_n 3, 1, 175, 0), (175, .iconst 1, 1, 176, 0), (176, .if_icmp .le 28, 3, 179, 204), (179, .aload_n 0, 1, 180, 0), (180, .getfield 54, 3, 183, 0), (183, .iload_n 1, 1, 184, 0), (184, .iload 5, 2, 186, 0), (186, .iastore, 1, 187, 0), (187, .aload_n 0, 1, 188, 0), (188, .iload_n 1, 1, 189, 0), (189, .iconst 1, 1, 190, 0), (190, .iadd, 1, 191, 0), (191, .iload_n 2, 1, 192, 0), (192, .iload_n 3, 1, 193, 0), (193, .iconst 1, 1, 194, 0), (194, .isub, 1, 195, 0), (195, .invokevirtual 297, 3, 198, 0), (198, .iinc 5 1, 3, 201, 0), (201, .goto (-34), 3, 204, 167), (204, .return_, 1, 205, 0)] = true := by decide +kernel
def f_X10_tryRows_A167 (M_9 : Mm) : Option Mm := some M_9
def f_X10_tryRows_L167 (a1 : Int32) (a2 : Int32) (a3 : Int32) (F : Int32 → Int32 → Int32 → Mm → Option Mm) (x5_7 : Int32) (M_8 : Mm) : Option ((Int32 × Mm) ⊕ Mm) := if (13 : Int32) < x5_7 then some (.inr M_8) else if a3 ≤ (1 : Int32) then some (.inr M_8) else wrI 23 M_8 83 a1 x5_7 fun M_12 => (F (a1 + (1 : Int32)) a2 (a3 - (1 : Int32)) M_12).bind fun M_15 => lt1 (x5_7 + 1) fun x5_16 => some (.inl (x5_16, M_15))
def f_X10_tryRows_A111 (a1 : Int32) (a2 : Int32) (a3 : Int32) (F : Int32 → Int32 → Int32 → Mm → Option Mm) (M_6 : Mm) : Option Mm := (loop (fun v => f_X10_tryRows_L167 a1 a2 a3 F v.1 v.2) FU ((12 : Int32), M_6)).bind fun z => f_X10_tryRows_A167 z
def f_X10_tryRows_J157 (x5_4 : Int32) (M_18 : Mm) : Option ((Int32 × Mm) ⊕ Mm) := lt1 (x5_4 + 1) fun x5_19 => some (.inl (x5_19, M_18))
def f_X10_tryRows_L111 (a1 : Int32) (a2 : Int32) (a3 : Int32) (F : Int32 → Int32 → Int32 → Mm → Option Mm) (x5_4 : Int32) (M_5 : Mm) : Option ((Int32 × Mm) ⊕ Mm) := if (M_5.1 69 1) ≤ x5_4 then some (.inr M_5) else if ((a2 >>> (x5_4 &&& 31)) &&& (1 : Int32)) = (1 : Int32) then f_X10_tryRows_J157 x5_4 M_5 else wrI 23 M_5 83 a1 x5_4 fun M_21 => (F (a1 + (1 : Int32)) (a2 ||| ((1 : Int32) <<< (x5_4 &&& 31))) (a3 + (1 : Int32)) M_21).bind fun M_24 => f_X10_tryRows_J157 x5_4 M_24
def f_X10_tryRows_A78 (M_39 : Mm) : Option Mm := some M_39
def f_X10_tryRows_L78 (x5_37 : Int32) (M_38 : Mm) : Option ((Int32 × Mm) ⊕ Mm) := if (f_X10_rowSize M_38) ≤ x5_37 then some (.inr M_38) else rdI 23 M_38 78 x5_37 fun v_41 => wrI 23 M_38 98 x5_37 v_41 fun M_43 => lt1 (x5_37 + 1) fun x5_45 => some (.inl (x5_45, M_43))
def f_X10_tryRows_A38 (M_32 : Mm) : Option Mm := bd2 (f_X10_tryTurned (2 : Int32) M_32) fun r_35 M_34 => if r_35 = 0 then some M_34 else (loop (fun v => f_X10_tryRows_L78 v.1 v.2) FU ((0 : Int32), M_34)).bind fun z => f_X10_tryRows_A78 z
def f_X10_tryRows_L38 (x5_30 : Int32) (M_31 : Mm) : Option ((Int32 × Mm) ⊕ Mm) := if (f_X10_rowSize M_31) ≤ x5_30 then some (.inr M_31) else rdI 23 M_31 83 x5_30 fun v_47 => wrI 23 M_31 78 x5_30 v_47 fun M_49 => lt1 (x5_30 + 1) fun x5_51 => some (.inl (x5_51, M_49))
def f_X10_tryRows_B (F : Int32 → Int32 → Int32 → Mm → Option Mm) (a1 : Int32) (a2 : Int32) (a3 : Int32) (M : Mm) : Option Mm := lt1 ((f_X10_rowSize M) - a1) fun x4_1 => if a3 ≤ (x4_1 + (1 : Int32)) then (if x4_1 = 0 then (if a3 = (1 : Int32) then bd2 (f_X10_isNormal M) fun r_28 M_27 => if r_28 = 0 then some M_27 else (loop (fun v => f_X10_tryRows_L38 v.1 v.2) FU ((0 : Int32), M_27)).bind fun z => f_X10_tryRows_A38 z else some M) else (loop (fun v => f_X10_tryRows_L111 a1 a2 a3 F v.1 v.2) FU ((0 : Int32), M)).bind fun z => f_X10_tryRows_A111 a1 a2 a3 F z) else some M
def f_X10_tryRows : Nat → Int32 → Int32 → Int32 → Mm → Option Mm
  | 0 => fun _ _ _ _ => none
  | n + 1 => f_X10_tryRows_B (f_X10_tryRows n)
set_option maxRecDepth 100000 in
set_option maxHeartbeats 4000000 in
theorem t_X10_tryRows {E : Ev} {l : Launch} (htr : l.stackTraces = false) : ∀ (n : Nat) (a1 : Int32) (a2 : Int32) (a3 : Int32) (M : Mm) (r : Mm), f_X10_tryRows n a1 a2 a3 M = some r → CM E l (36 + 1 * n) 0 0 yX10_tryRows cX10_tryRows 6 none [.ref (E.1 + 69), .int a1, .int a2, .int a3] M none r := by
  intro n
  induction n with
  | zero => intro a1 a2 a3 M r hf; cases hf
  | succ n ih =>
    intro a1 a2 a3 M r hf
    have hf : f_X10_tryRows_B (f_X10_tryRows n) a1 a2 a3 M = some r := hf
    generalize f_X10_tryRows n = F at hf ih
    refine CM.of htr (by decide +kernel) (Nat.le_of_ble_eq_true rfl) ?_
    intro K hE hL hl hR0 C hr hRv
    subst hE
    subst hl
    have C : Cx K cX10_tryRows RX10 (36 + 1 * (n + 1)) := C
    have hB : (0 : Nat) ≤ K.1.R.cells ∧ 0 ≤ K.1.R.slots := ⟨Nat.zero_le _, Nat.zero_le _⟩
    have hL4 : 4 < K.2.2.1 := by rw [hL]; decide
    have hL5 : 5 < K.2.2.1 := by rw [hL]; decide
    show G K (0, 0) 0 [(0, .ref (K.2.1.1 + 69)), (1, .int a1), (2, .int a2), (3, .int a3)] [] M
    unfold f_X10_tryRows_B at hf
    refine g_aload_n 0 C (ckD_get k_X10_tryRows_0 0 rfl) rfl rfl ?_
    refine n_cV [] [] C (ckD_get k_X10_tryRows_0 1 rfl) vk_X10_175 (t_X10_rowSize C.tr _ _ rfl) T69 rfl rfl (Nat.le_of_ble_eq_true rfl) (by omega) hB rfl ?_
    refine g_iload_n 1 C (ckD_get k_X10_tryRows_0 2 rfl) rfl rfl ?_
    refine g_isub C (ckD_get k_X10_tryRows_0 3 rfl) ?_
    obtain ⟨x4_1, ex4_1, hf⟩ := lt_e hf
    refine topI ex4_1 ?_
    refine g_istore (lv' := [(4, _), (0, _), (1, _), (2, _), (3, _)]) C (ckD_get k_X10_tryRows_0 4 rfl) hL4 rfl ?_
    refine g_iload_n 4 C (ckD_get k_X10_tryRows_0 5 rfl) rfl rfl ?_
    refine g_iload 0 C (ckD_get k_X10_tryRows_0 6 rfl) rfl ?_
    refine g_iconst (v := (1 : Int32)) C (ckD_get k_X10_tryRows_0 7 rfl) (by decide) ?_
    refine g_iadd C (ckD_get k_X10_tryRows_0 8 rfl) ?_
    refine g_icmp_le C (ckD_get k_X10_tryRows_0 9 rfl) (fun c_2 => ?_) (fun c_2 => ?_)
    · have hf := if_t hf c_2
      refine g_iload 0 C (ckD_get k_X10_tryRows_0 11 rfl) rfl ?_
      refine g_if_ne C (ckD_get k_X10_tryRows_0 12 rfl) (fun c_3 => ?_) (fun c_3 => ?_)
      · have hf := if_f hf c_3
        refine g_iconst (v := (0 : Int32)) C (ckD_get k_X10_tryRows_1 17 rfl) (by decide) ?_
        refine g_istore (lv' := [(5, _), (4, _), (0, _), (1, _), (2, _), (3, _)]) C (ckD_get k_X10_tryRows_1 18 rfl) hL5 rfl ?_
        refine G.sub [2, 3, 4, 5, 0] rfl ?_
        obtain ⟨M_6, hx_111, hf⟩ := bd_e hf
        have hE_111 : G K (0, 0) 163 [(0, .ref (K.2.1.1 + 69)), (1, .int a1), (2, .int a2), (3, .int a3)] [] M_6 := by
          have hf : f_X10_tryRows_A111 a1 a2 a3 F M_6 = some r := hf
          unfold f_X10_tryRows_A111 at hf
          refine g_bipush (v := (12 : Int32)) C (ckD_get k_X10_tryRows_2 11 rfl) (by decide) ?_
          refine g_istore (lv' := [(5, _), (0, _), (1, _), (2, _), (3, _)]) C (ckD_get k_X10_tryRows_2 12 rfl) hL5 rfl ?_
          refine G.sub [1, 2, 3, 4, 0] rfl ?_
          obtain ⟨M_9, hx_167, hf⟩ := bd_e hf
          have hE_167 : G K (0, 0) 204 [] [] M_9 := by
            have hf : f_X10_tryRows_A167 M_9 = some r := hf
            unfold f_X10_tryRows_A167 at hf
            cases hf
            exact g_vret C (ckD_get k_X10_tryRows_2 35 rfl) hr hRv (Nat.le_refl _) (Nat.le_refl _)
          refine loop_e (x := M_9) (P := fun (v : (Int32 × Mm)) => G K (0, 0) 167 [(0, .ref (K.2.1.1 + 69)), (1, .int a1), (2, .int a2), (3, .int a3), (5, .int v.1)] [] v.2) ?_ FU _ hx_167
          intro v rr_167 hf hn_167 hz_167
          obtain ⟨x5_7, M_8⟩ := v
          have hf : f_X10_tryRows_L167 a1 a2 a3 F x5_7 M_8 = some rr_167 := hf
          show G K (0, 0) 167 [(0, .ref (K.2.1.1 + 69)), (1, .int a1), (2, .int a2), (3, .int a3), (5, .int x5_7)] [] M_8
          unfold f_X10_tryRows_L167 at hf
          refine g_iload 4 C (ckD_get k_X10_tryRows_2 13 rfl) rfl ?_
          refine g_bipush (v := (13 : Int32)) C (ckD_get k_X10_tryRows_2 14 rfl) (by decide) ?_
          refine g_icmp_gt C (ckD_get k_X10_tryRows_2 15 rfl) (fun c_10 => ?_) (fun c_10 => ?_)
          · have hf := if_t hf c_10
            refine G.sub [] rfl ?_
            cases hf
            cases hz_167 _ rfl
            exact hE_167
          · have hf := if_f hf c_10
            refine g_iload_n 3 C (ckD_get k_X10_tryRows_2 16 rfl) rfl rfl ?_
            refine g_iconst (v := (1 : Int32)) C (ckD_get k_X10_tryRows_2 17 rfl) (by decide) ?_
            refine g_icmp_le C (ckD_get k_X10_tryRows_2 18 rfl) (fun c_11 => ?_) (fun c_11 => ?_)
            · have hf := if_t hf c_11
              refine G.sub [] rfl ?_
              cases hf
              cases hz_167 _ rfl
              exact hE_167
            · have hf := if_f hf c_11
              refine g_aload_n 0 C (ckD_get k_X10_tryRows_2 19 rfl) rfl rfl ?_
              refine g_getR C (ckD_get k_X10_tryRows_2 20 rfl) fk_X10_54 T69 rfl ?_
              refine g_iload_n 1 C (ckD_get k_X10_tryRows_2 21 rfl) rfl rfl ?_
              refine g_iload 4 C (ckD_get k_X10_tryRows_2 22 rfl) rfl ?_
              obtain ⟨M_12, hi_13, eM_12, hf⟩ := wrI_e hf
              refine n_iast C (ckD_get k_X10_tryRows_2 23 rfl) T83 hi_13 eM_12 ?_
              refine g_aload_n 0 C (ckD_get k_X10_tryRows_2 24 rfl) rfl rfl ?_
              refine g_iload_n 1 C (ckD_get k_X10_tryRows_2 25 rfl) rfl rfl ?_
              refine g_iconst (v := (1 : Int32)) C (ckD_get k_X10_tryRows_2 26 rfl) (by decide) ?_
              refine g_iadd C (ckD_get k_X10_tryRows_2 27 rfl) ?_
              refine g_iload_n 2 C (ckD_get k_X10_tryRows_2 28 rfl) rfl rfl ?_
              refine g_iload_n 3 C (ckD_get k_X10_tryRows_2 29 rfl) rfl rfl ?_
              refine g_iconst (v := (1 : Int32)) C (ckD_get k_X10_tryRows_2 30 rfl) (by decide) ?_
              refine g_isub C (ckD_get k_X10_tryRows_2 31 rfl) ?_
              obtain ⟨M_15, hr_14, hf⟩ := bd_e hf
              refine n_cV [.int (a1 + (1 : Int32)), .int a2, .int (a3 - (1 : Int32))] [] C (ckD_get k_X10_tryRows_2 32 rfl) vk_X10_297 (ih _ _ _ _ _ hr_14) T69 rfl rfl (Nat.le_of_ble_eq_true rfl) (by omega) hB rfl ?_
              obtain ⟨x5_16, ex5_16, hf⟩ := lt_e hf
              refine g_iinc (lv' := [(5, _), (0, _), (1, _), (2, _), (3, _)]) 4 C (ckD_get k_X10_tryRows_2 33 rfl) rfl ex5_16 hL5 rfl ?_
              refine g_goto C (ckD_get k_X10_tryRows_2 34 rfl) ?_
              refine G.sub [1, 2, 3, 4, 0] rfl ?_
              cases hf
              exact hn_167 _ rfl
        refine loop_e (x := M_6) (P := fun (v : (Int32 × Mm)) => G K (0, 0) 111 [(0, .ref (K.2.1.1 + 69)), (1, .int a1), (2, .int a2), (3, .int a3), (5, .int v.1)] [] v.2) ?_ FU _ hx_111
        intro v rr_111 hf hn_111 hz_111
        obtain ⟨x5_4, M_5⟩ := v
        have hf : f_X10_tryRows_L111 a1 a2 a3 F x5_4 M_5 = some rr_111 := hf
        show G K (0, 0) 111 [(0, .ref (K.2.1.1 + 69)), (1, .int a1), (2, .int a2), (3, .int a3), (5, .int x5_4)] [] M_5
        unfold f_X10_tryRows_L111 at hf
        refine g_iload 4 C (ckD_get k_X10_tryRows_1 19 rfl) rfl ?_
        refine g_aload_n 0 C (ckD_get k_X10_tryRows_1 20 rfl) rfl rfl ?_
        refine g_getI C (ckD_get k_X10_tryRows_1 21 rfl) fk_X10_124 T69 rfl ?_
        refine g_icmp_ge C (ckD_get k_X10_tryRows_1 22 rfl) (fun c_17 => ?_) (fun c_17 => ?_)
        · have hf := if_t hf c_17
          refine G.sub [0, 1, 2, 3] rfl ?_
          cases hf
          cases hz_111 _ rfl
          exact hE_111
        · have hf := if_f hf c_17
          refine g_iload_n 2 C (ckD_get k_X10_tryRows_1 23 rfl) rfl rfl ?_
          refine g_iload 4 C (ckD_get k_X10_tryRows_1 24 rfl) rfl ?_
          refine g_ishr C (ckD_get k_X10_tryRows_1 25 rfl) ?_
          refine g_iconst (v := (1 : Int32)) C (ckD_get k_X10_tryRows_1 26 rfl) (by decide) ?_
          refine g_iand C (ckD_get k_X10_tryRows_1 27 rfl) ?_
          refine g_iconst (v := (1 : Int32)) C (ckD_get k_X10_tryRows_1 28 rfl) (by decide) ?_
          have hJ_157 : ∀ (M_18 : Mm), f_X10_tryRows_J157 x5_4 M_18 = some rr_111 → G K (0, 0) 157 [(0, .ref (K.2.1.1 + 69)), (1, .int a1), (2, .int a2), (3, .int a3), (5, .int x5_4)] [] M_18 := by
            intro M_18 hf
            unfold f_X10_tryRows_J157 at hf
            obtain ⟨x5_19, ex5_19, hf⟩ := lt_e hf
            refine g_iinc (lv' := [(5, _), (0, _), (1, _), (2, _), (3, _)]) 4 C (ckD_get k_X10_tryRows_2 9 rfl) rfl ex5_19 hL5 rfl ?_
            refine g_goto C (ckD_get k_X10_tryRows_2 10 rfl) ?_
            refine G.sub [1, 2, 3, 4, 0] rfl ?_
            cases hf
            exact hn_111 _ rfl
          refine g_icmp_ne C (ckD_get k_X10_tryRows_1 29 rfl) (fun c_20 => ?_) (fun c_20 => ?_)
          · have hf := if_f hf c_20
            refine g_aload_n 0 C (ckD_get k_X10_tryRows_1 31 rfl) rfl rfl ?_
            refine g_getR C (ckD_get k_X10_tryRows_1 32 rfl) fk_X10_54 T69 rfl ?_
            refine g_iload_n 1 C (ckD_get k_X10_tryRows_1 33 rfl) rfl rfl ?_
            refine g_iload 4 C (ckD_get k_X10_tryRows_1 34 rfl) rfl ?_
            obtain ⟨M_21, hi_22, eM_21, hf⟩ := wrI_e hf
            refine n_iast C (ckD_get k_X10_tryRows_1 35 rfl) T83 hi_22 eM_21 ?_
            refine g_aload_n 0 C (ckD_get k_X10_tryRows_1 36 rfl) rfl rfl ?_
            refine g_iload_n 1 C (ckD_get k_X10_tryRows_1 37 rfl) rfl rfl ?_
            refine g_iconst (v := (1 : Int32)) C (ckD_get k_X10_tryRows_1 38 rfl) (by decide) ?_
            refine g_iadd C (ckD_get k_X10_tryRows_1 39 rfl) ?_
            refine g_iload_n 2 C (ckD_get k_X10_tryRows_2 0 rfl) rfl rfl ?_
            refine g_iconst (v := (1 : Int32)) C (ckD_get k_X10_tryRows_2 1 rfl) (by decide) ?_
            refine g_iload 4 C (ckD_get k_X10_tryRows_2 2 rfl) rfl ?_
            refine g_ishl C (ckD_get k_X10_tryRows_2 3 rfl) ?_
            refine g_ior C (ckD_get k_X10_tryRows_2 4 rfl) ?_
            refine g_iload_n 3 C (ckD_get k_X10_tryRows_2 5 rfl) rfl rfl ?_
            refine g_iconst (v := (1 : Int32)) C (ckD_get k_X10_tryRows_2 6 rfl) (by decide) ?_
            refine g_iadd C (ckD_get k_X10_tryRows_2 7 rfl) ?_
            obtain ⟨M_24, hr_23, hf⟩ := bd_e hf
            refine n_cV [.int (a1 + (1 : Int32)), .int (a2 ||| ((1 : Int32) <<< (x5_4 &&& 31))), .int (a3 + (1 : Int32))] [] C (ckD_get k_X10_tryRows_2 8 rfl) vk_X10_297 (ih _ _ _ _ _ hr_23) T69 rfl rfl (Nat.le_of_ble_eq_true rfl) (by omega) hB rfl ?_
            exact hJ_157 _ hf
          · have hf := if_t hf c_20
            refine g_goto C (ckD_get k_X10_tryRows_1 30 rfl) ?_
            exact hJ_157 _ hf
      · have hf := if_t hf c_3
        refine g_iload_n 4 C (ckD_get k_X10_tryRows_0 13 rfl) rfl rfl ?_
        refine g_iconst (v := (1 : Int32)) C (ckD_get k_X10_tryRows_0 14 rfl) (by decide) ?_
        refine g_icmp_ne C (ckD_get k_X10_tryRows_0 15 rfl) (fun c_25 => ?_) (fun c_25 => ?_)
        · have hf := if_f hf c_25
          cases hf
          exact g_vret C (ckD_get k_X10_tryRows_0 19 rfl) hr hRv (Nat.le_refl _) (Nat.le_refl _)
        · have hf := if_t hf c_25
          refine g_aload_n 1 C (ckD_get k_X10_tryRows_0 16 rfl) rfl rfl ?_
          obtain ⟨r_28, M_27, hr_26, hf⟩ := bd2_e hf
          refine n_cV [] [] C (ckD_get k_X10_tryRows_0 17 rfl) vk_X10_294 (t_X10_isNormal C.tr _ _ hr_26) T69 rfl rfl (Nat.le_of_ble_eq_true rfl) (by omega) hB rfl ?_
          refine g_if_ne C (ckD_get k_X10_tryRows_0 18 rfl) (fun c_29 => ?_) (fun c_29 => ?_)
          · have hf := if_f hf c_29
            refine g_iconst (v := (0 : Int32)) C (ckD_get k_X10_tryRows_0 20 rfl) (by decide) ?_
            refine g_istore (lv' := [(5, _), (4, _), (0, _), (1, _), (2, _), (3, _)]) C (ckD_get k_X10_tryRows_0 21 rfl) hL5 rfl ?_
            refine G.sub [2, 0] rfl ?_
            obtain ⟨M_32, hx_38, hf⟩ := bd_e hf
            have hE_38 : G K (0, 0) 67 [(0, .ref (K.2.1.1 + 69))] [] M_32 := by
              have hf : f_X10_tryRows_A38 M_32 = some r := hf
              unfold f_X10_tryRows_A38 at hf
              refine g_aload_n 0 C (ckD_get k_X10_tryRows_0 36 rfl) rfl rfl ?_
              refine g_iconst (v := (2 : Int32)) C (ckD_get k_X10_tryRows_0 37 rfl) (by decide) ?_
              obtain ⟨r_35, M_34, hr_33, hf⟩ := bd2_e hf
              refine n_cV [.int (2 : Int32)] [] C (ckD_get k_X10_tryRows_0 38 rfl) vk_X10_287 (t_X10_tryTurned C.tr _ _ _ hr_33) T69 rfl rfl (Nat.le_of_ble_eq_true rfl) (by omega) hB rfl ?_
              refine g_if_eq C (ckD_get k_X10_tryRows_0 39 rfl) (fun c_36 => ?_) (fun c_36 => ?_)
              · have hf := if_t hf c_36
                cases hf
                exact g_vret C (ckD_get k_X10_tryRows_1 16 rfl) hr hRv (Nat.le_refl _) (Nat.le_refl _)
              · have hf := if_f hf c_36
                refine g_iconst (v := (0 : Int32)) C (ckD_get k_X10_tryRows_1 0 rfl) (by decide) ?_
                refine g_istore (lv' := [(5, _), (0, _)]) C (ckD_get k_X10_tryRows_1 1 rfl) hL5 rfl ?_
                refine G.sub [1, 0] rfl ?_
                obtain ⟨M_39, hx_78, hf⟩ := bd_e hf
                have hE_78 : G K (0, 0) 107 [] [] M_39 := by
                  have hf : f_X10_tryRows_A78 M_39 = some r := hf
                  unfold f_X10_tryRows_A78 at hf
                  cases hf
                  exact g_vret C (ckD_get k_X10_tryRows_1 16 rfl) hr hRv (Nat.le_refl _) (Nat.le_refl _)
                refine loop_e (x := M_39) (P := fun (v : (Int32 × Mm)) => G K (0, 0) 78 [(0, .ref (K.2.1.1 + 69)), (5, .int v.1)] [] v.2) ?_ FU _ hx_78
                intro v rr_78 hf hn_78 hz_78
                obtain ⟨x5_37, M_38⟩ := v
                have hf : f_X10_tryRows_L78 x5_37 M_38 = some rr_78 := hf
                show G K (0, 0) 78 [(0, .ref (K.2.1.1 + 69)), (5, .int x5_37)] [] M_38
                unfold f_X10_tryRows_L78 at hf
                refine g_iload 1 C (ckD_get k_X10_tryRows_1 2 rfl) rfl ?_
                refine g_aload_n 0 C (ckD_get k_X10_tryRows_1 3 rfl) rfl rfl ?_
                refine n_cV [] [.int x5_37] C (ckD_get k_X10_tryRows_1 4 rfl) vk_X10_175 (t_X10_rowSize C.tr _ _ rfl) T69 rfl rfl (Nat.le_of_ble_eq_true rfl) (by omega) hB rfl ?_
                refine g_icmp_ge C (ckD_get k_X10_tryRows_1 5 rfl) (fun c_40 => ?_) (fun c_40 => ?_)
                · have hf := if_t hf c_40
                  refine G.sub [] rfl ?_
                  cases hf
                  cases hz_78 _ rfl
                  exact hE_78
                · have hf := if_f hf c_40
                  refine g_aload_n 0 C (ckD_get k_X10_tryRows_1 6 rfl) rfl rfl ?_
                  refine g_getR C (ckD_get k_X10_tryRows_1 7 rfl) fk_X10_99 T69 rfl ?_
                  refine g_iload 1 C (ckD_get k_X10_tryRows_1 8 rfl) rfl ?_
                  refine g_aload_n 0 C (ckD_get k_X10_tryRows_1 9 rfl) rfl rfl ?_
                  refine g_getR C (ckD_get k_X10_tryRows_1 10 rfl) fk_X10_39 T69 rfl ?_
                  refine g_iload 1 C (ckD_get k_X10_tryRows_1 11 rfl) rfl ?_
                  obtain ⟨v_41, hi_42, ev_41, hf⟩ := rdI_e hf
                  refine n_iald C (ckD_get k_X10_tryRows_1 12 rfl) T78 hi_42 ev_41 ?_
                  obtain ⟨M_43, hi_44, eM_43, hf⟩ := wrI_e hf
                  refine n_iast C (ckD_get k_X10_tryRows_1 13 rfl) T98 hi_44 eM_43 ?_
                  obtain ⟨x5_45, ex5_45, hf⟩ := lt_e hf
                  refine g_iinc (lv' := [(5, _), (0, _)]) 1 C (ckD_get k_X10_tryRows_1 14 rfl) rfl ex5_45 hL5 rfl ?_
                  refine g_goto C (ckD_get k_X10_tryRows_1 15 rfl) ?_
                  refine G.sub [1, 0] rfl ?_
                  cases hf
                  exact hn_78 _ rfl
            refine loop_e (x := M_32) (P := fun (v : (Int32 × Mm)) => G K (0, 0) 38 [(0, .ref (K.2.1.1 + 69)), (5, .int v.1)] [] v.2) ?_ FU _ hx_38
            intro v rr_38 hf hn_38 hz_38
            obtain ⟨x5_30, M_31⟩ := v
            have hf : f_X10_tryRows_L38 x5_30 M_31 = some rr_38 := hf
            show G K (0, 0) 38 [(0, .ref (K.2.1.1 + 69)), (5, .int x5_30)] [] M_31
            unfold f_X10_tryRows_L38 at hf
            refine g_iload 1 C (ckD_get k_X10_tryRows_0 22 rfl) rfl ?_
            refine g_aload_n 0 C (ckD_get k_X10_tryRows_0 23 rfl) rfl rfl ?_
            refine n_cV [] [.int x5_30] C (ckD_get k_X10_tryRows_0 24 rfl) vk_X10_175 (t_X10_rowSize C.tr _ _ rfl) T69 rfl rfl (Nat.le_of_ble_eq_true rfl) (by omega) hB rfl ?_
            refine g_icmp_ge C (ckD_get k_X10_tryRows_0 25 rfl) (fun c_46 => ?_) (fun c_46 => ?_)
            · have hf := if_t hf c_46
              refine G.sub [0] rfl ?_
              cases hf
              cases hz_38 _ rfl
              exact hE_38
            · have hf := if_f hf c_46
              refine g_aload_n 0 C (ckD_get k_X10_tryRows_0 26 rfl) rfl rfl ?_
              refine g_getR C (ckD_get k_X10_tryRows_0 27 rfl) fk_X10_39 T69 rfl ?_
              refine g_iload 1 C (ckD_get k_X10_tryRows_0 28 rfl) rfl ?_
              refine g_aload_n 0 C (ckD_get k_X10_tryRows_0 29 rfl) rfl rfl ?_
              refine g_getR C (ckD_get k_X10_tryRows_0 30 rfl) fk_X10_54 T69 rfl ?_
              refine g_iload 1 C (ckD_get k_X10_tryRows_0 31 rfl) rfl ?_
              obtain ⟨v_47, hi_48, ev_47, hf⟩ := rdI_e hf
              refine n_iald C (ckD_get k_X10_tryRows_0 32 rfl) T83 hi_48 ev_47 ?_
              obtain ⟨M_49, hi_50, eM_49, hf⟩ := wrI_e hf
              refine n_iast C (ckD_get k_X10_tryRows_0 33 rfl) T78 hi_50 eM_49 ?_
              obtain ⟨x5_51, ex5_51, hf⟩ := lt_e hf
              refine g_iinc (lv' := [(5, _), (0, _)]) 1 C (ckD_get k_X10_tryRows_0 34 rfl) rfl ex5_51 hL5 rfl ?_
              refine g_goto C (ckD_get k_X10_tryRows_0 35 rfl) ?_
              refine G.sub [1, 0] rfl ?_
              cases hf
              exact hn_38 _ rfl
          · have hf := if_t hf c_29
            cases hf
            exact g_vret C (ckD_get k_X10_tryRows_0 19 rfl) hr hRv (Nat.le_refl _) (Nat.le_refl _)
    · have hf := if_f hf c_2
      cases hf
      exact g_vret C (ckD_get k_X10_tryRows_0 10 rfl) hr hRv (Nat.le_refl _) (Nat.le_refl _)

set_option maxRecDepth 20000 in
theorem k_X10_makeTree_0 : ckD cX10_makeTree [(0, .aload_n 0, 1, 1, 0), (1, .iconst 0, 1, 2, 0), (2, .putfield 301, 3, 5, 0), (5, .iconst 1, 1, 6, 0), (6, .istore_n 1, 1, 7, 0), (7, .aload_n 0, 1, 8, 0), (8, .aload_n 0, 1, 9, 0), (9, .getfield 48, 3, 12, 0), (12, .iconst 0, 1, 13, 0), (13, .iaload, 1, 14, 0), (14, .putfield 198, 3, 17, 0), (17, .iconst 0, 1, 18, 0), (18, .istore_n 2, 1, 19, 0), (19, .iload_n 2, 1, 20, 0), (20, .aload_n 0, 1, 21, 0), (21, .getfield 124, 3, 24, 0), (24, .if_icmp .ge 30, 3, 27, 54), (27, .aload_n 0, 1, 28, 0), (28, .getfield 48, 3, 31, 0), (31, .iload_n 2, 1, 32, 0), (32, .iaload, 1, 33, 0), (33, .istore_n 3, 1, 34, 0), (34, .aload_n 0, 1, 35, 0), (35, .getfield 42, 3, 38, 0), (38, .iload_n 3, 1, 39, 0), (39, .iconst (-1), 1, 40, 0), (40, .iastore, 1, 41, 0), (41, .aload_n 0, 1, 42, 0), (42, .getfield 45, 3, 45, 0), (45, .iload_n 3, 1, 46, 0), (46, .iconst (-1), 1, 47, 0), (47, .iastore, 1, 48, 0), (48, .iinc 2 1, 3, 51, 0), (51, .goto (-32), 3, 54, 19), (54, .iconst 0, 1, 55, 0), (55, .istore_n 2, 1, 56, 0), (56, .iload_n 2, 1, 57, 0), (57, .aload_n 0, 1, 58, 0), (58, .getfield 124, 3, 61, 0), (61, .if_icmp .ge 155, 3, 64, 216)] = true := by decide +kernel
set_option maxRecDepth 20000 in
theorem k_X10_makeTree_1 : ckD cX10_makeTree [(64, .aload_n 0, 1, 65, 0), (65, .getfield 48, 3, 68, 0), (68, .iload_n 2, 1, 69, 0), (69, .iaload, 1, 70, 0), (70, .istore_n 3, 1, 71, 0), (71, .iload_n 2, 1, 72, 0), (72, .ifCond .le 63, 3, 75, 135), (75, .aload_n 0, 1, 76, 0), (76, .getfield 301, 3, 79, 0), (79, .ifCond .ne 5, 3, 82, 84), (82, .iconst 0, 1, 83, 0), (83, .ireturn, 1, 84, 0), (84, .aload_n 0, 1, 85, 0), (85, .dup, 1, 86, 0), (86, .getfield 301, 3, 89, 0), (89, .iconst 1, 1, 90, 0), (90, .isub, 1, 91, 0), (91, .putfield 301, 3, 94, 0), (94, .aload_n 0, 1, 95, 0), (95, .getfield 108, 3, 98, 0), (98, .aload_n 0, 1, 99, 0), (99, .getfield 301, 3, 102, 0), (102, .iaload, 1, 103, 0), (103, .istore 4, 2, 105, 0), (105, .iload 4, 2, 107, 0), (107, .iconst 2, 1, 108, 0), (108, .irem, 1, 109, 0), (109, .ifCond .ne 16, 3, 112, 125), (112, .aload_n 0, 1, 113, 0), (113, .getfield 42, 3, 116, 0), (116, .iload 4, 2, 118, 0), (118, .iconst 2, 1, 119, 0), (119, .idiv, 1, 120, 0), (120, .iload_n 3, 1, 121, 0), (121, .iastore, 1, 122, 0), (122, .goto 13, 3, 125, 135), (125, .aload_n 0, 1, 126, 0), (126, .getfield 45, 3, 129, 0), (129, .iload 4, 2, 131, 0), (131, .iconst 2, 1, 132, 0)] = true := by decide +kernel
set_option maxRecDepth 20000 in
theorem k_X10_makeTree_2 : ckD cX10_makeTree [(132, .idiv, 1, 133, 0), (133, .iload_n 3, 1, 134, 0), (134, .iastore, 1, 135, 0), (135, .aload_n 0, 1, 136, 0), (136, .getfield 105, 3, 139, 0), (139, .iload_n 2, 1, 140, 0), (140, .iaload, 1, 141, 0), (141, .ifCond .eq 13, 3, 144, 154), (144, .aload_n 0, 1, 145, 0), (145, .getfield 105, 3, 148, 0), (148, .iload_n 2, 1, 149, 0), (149, .iaload, 1, 150, 0), (150, .iconst 2, 1, 151, 0), (151, .if_icmp .ne 27, 3, 154, 178), (154, .aload_n 0, 1, 155, 0), (155, .getfield 108, 3, 158, 0), (158, .aload_n 0, 1, 159, 0), (159, .getfield 301, 3, 162, 0), (162, .iconst 2, 1, 163, 0), (163, .iload_n 3, 1, 164, 0), (164, .imul, 1, 165, 0), (165, .iconst 1, 1, 166, 0), (166, .iadd, 1, 167, 0), (167, .iastore, 1, 168, 0), (168, .aload_n 0, 1, 169, 0), (169, .dup, 1, 170, 0), (170, .getfield 301, 3, 173, 0), (173, .iconst 1, 1, 174, 0), (174, .iadd, 1, 175, 0), (175, .putfield 301, 3, 178, 0), (178, .aload_n 0, 1, 179, 0), (179, .getfield 105, 3, 182, 0), (182, .iload_n 2, 1, 183, 0), (183, .iaload, 1, 184, 0), (184, .iconst 2, 1, 185, 0), (185, .if_icmp .ge 25, 3, 188, 210), (188, .aload_n 0, 1, 189, 0), (189, .getfield 108, 3, 192, 0), (192, .aload_n 0, 1, 193, 0), (193, .getfield 301, 3, 196, 0)] = true := by decide +kernel
set_option maxRecDepth 20000 in
theorem k_X10_makeTree_3 : ckD cX10_makeTree [(196, .iconst 2, 1, 197, 0), (197, .iload_n 3, 1, 198, 0), (198, .imul, 1, 199, 0), (199, .iastore, 1, 200, 0), (200, .aload_n 0, 1, 201, 0), (201, .dup, 1, 202, 0), (202, .getfield 301, 3, 205, 0), (205, .iconst 1, 1, 206, 0), (206, .iadd, 1, 207, 0), (207, .putfield 301, 3, 210, 0), (210, .iinc 2 1, 3, 213, 0), (213, .goto (-157), 3, 216, 56), (216, .aload_n 0, 1, 217, 0), (217, .getfield 301, 3, 220, 0), (220, .ifCond .ne 7, 3, 223, 227), (223, .iconst 1, 1, 224, 0), (224, .goto 4, 3, 227, 228), (227, .iconst 0, 1, 228, 0), (228, .ireturn, 1, 229, 0)] = true := by decide +kernel
def f_X10_makeTree_A56 (M_10 : Mm) : Option (Int32 × Mm) := if (M_10.1 69 47) = 0 then some ((1 : Int32), M_10) else some ((0 : Int32), M_10)
def f_X10_makeTree_J210 (x2_8 : Int32) (M_21 : Mm) : Option ((Int32 × Mm) ⊕ (Mm ⊕ (Int32 × Mm))) := lt1 (x2_8 + 1) fun x2_22 => some (.inl (x2_22, M_21))
def f_X10_makeTree_J178 (x2_8 : Int32) (v_13 : Int32) (M_18 : Mm) : Option ((Int32 × Mm) ⊕ (Mm ⊕ (Int32 × Mm))) := rdI 12 M_18 100 x2_8 fun v_19 => if (2 : Int32) ≤ v_19 then f_X10_makeTree_J210 x2_8 M_18 else wrI 24 M_18 101 (M_18.1 69 47) ((2 : Int32) * v_13) fun M_24 => lt1 (wi M_24 69 47 ((M_24.1 69 47) + (1 : Int32))) fun M_26 => f_X10_makeTree_J210 x2_8 M_26
def f_X10_makeTree_J154 (x2_8 : Int32) (v_13 : Int32) (M_15 : Mm) (_ : Unit) : Option ((Int32 × Mm) ⊕ (Mm ⊕ (Int32 × Mm))) := wrI 24 M_15 101 (M_15.1 69 47) (((2 : Int32) * v_13) + (1 : Int32)) fun M_27 => lt1 (wi M_27 69 47 ((M_27.1 69 47) + (1 : Int32))) fun M_29 => f_X10_makeTree_J178 x2_8 v_13 M_29
def f_X10_makeTree_J135 (x2_8 : Int32) (v_13 : Int32) (M_15 : Mm) : Option ((Int32 × Mm) ⊕ (Mm ⊕ (Int32 × Mm))) := rdI 12 M_15 100 x2_8 fun v_16 => if v_16 = 0 then f_X10_makeTree_J154 x2_8 v_13 M_15 () else rdI 12 M_15 100 x2_8 fun v_31 => if v_31 = (2 : Int32) then f_X10_makeTree_J154 x2_8 v_13 M_15 () else f_X10_makeTree_J178 x2_8 v_13 M_15
def f_X10_makeTree_L56 (x2_8 : Int32) (M_9 : Mm) : Option ((Int32 × Mm) ⊕ (Mm ⊕ (Int32 × Mm))) := if (M_9.1 69 1) ≤ x2_8 then some (.inr (.inl M_9)) else rdI 12 M_9 81 x2_8 fun v_13 => if x2_8 ≤ 0 then f_X10_makeTree_J135 x2_8 v_13 M_9 else if (M_9.1 69 47) = 0 then some (.inr (.inr ((0 : Int32), M_9))) else lt1 (wi M_9 69 47 ((M_9.1 69 47) - (1 : Int32))) fun M_36 => rdI 24 M_36 101 (M_36.1 69 47) fun v_37 => if (v_37 - v_37 / (2 : Int32) * (2 : Int32)) = 0 then wrI 12 M_36 79 (v_37 / (2 : Int32)) v_13 fun M_45 => f_X10_makeTree_J135 x2_8 v_13 M_45 else wrI 12 M_36 80 (v_37 / (2 : Int32)) v_13 fun M_42 => f_X10_makeTree_J135 x2_8 v_13 M_42
def f_X10_makeTree_A19 (M_7 : Mm) : Option (Int32 × Mm) := (loop (fun v => f_X10_makeTree_L56 v.1 v.2) FU ((0 : Int32), M_7)).bind fun x => Sum.elim (fun z => f_X10_makeTree_A56 z) (fun o => some o) x
def f_X10_makeTree_L19 (x2_5 : Int32) (M_6 : Mm) : Option ((Int32 × Mm) ⊕ Mm) := if (M_6.1 69 1) ≤ x2_5 then some (.inr M_6) else rdI 12 M_6 81 x2_5 fun v_48 => wrI 12 M_6 79 v_48 (-1 : Int32) fun M_50 => wrI 12 M_50 80 v_48 (-1 : Int32) fun M_52 => lt1 (x2_5 + 1) fun x2_54 => some (.inl (x2_54, M_52))
def f_X10_makeTree  (M : Mm) : Option (Int32 × Mm) := lt1 (wi M 69 47 (0 : Int32)) fun M_1 => rdI 12 M_1 81 (0 : Int32) fun v_2 => lt1 (wi M_1 69 8 v_2) fun M_4 => (loop (fun v => f_X10_makeTree_L19 v.1 v.2) FU ((0 : Int32), M_4)).bind fun z => f_X10_makeTree_A19 z
set_option maxRecDepth 100000 in
set_option maxHeartbeats 4000000 in
theorem t_X10_makeTree {E : Ev} {l : Launch} (htr : l.stackTraces = false) (M : Mm) (r : (Int32 × Mm)) (hf : f_X10_makeTree M = some r) : CM E l 0 0 0 yX10_makeTree cX10_makeTree 5 (some .boolean) [.ref (E.1 + 69)] M (some (.int r.1)) r.2 := by
  refine CM.of htr (by decide +kernel) (Nat.le_of_ble_eq_true rfl) ?_
  intro K hE hL hl hR0 C hr hRv
  subst hE
  subst hl
  have C : Cx K cX10_makeTree RX10 0 := C
  have hB : (0 : Nat) ≤ K.1.R.cells ∧ 0 ≤ K.1.R.slots := ⟨Nat.zero_le _, Nat.zero_le _⟩
  have hL1 : 1 < K.2.2.1 := by rw [hL]; decide
  have hL2 : 2 < K.2.2.1 := by rw [hL]; decide
  have hL3 : 3 < K.2.2.1 := by rw [hL]; decide
  have hL4 : 4 < K.2.2.1 := by rw [hL]; decide
  show G K (0, 0) 0 [(0, .ref (K.2.1.1 + 69))] [] M
  unfold f_X10_makeTree at hf
  refine g_aload_n 0 C (ckD_get k_X10_makeTree_0 0 rfl) rfl rfl ?_
  refine g_iconst (v := (0 : Int32)) C (ckD_get k_X10_makeTree_0 1 rfl) (by decide) ?_
  obtain ⟨M_1, eM_1, hf⟩ := lt_e hf
  refine g_putI C (ckD_get k_X10_makeTree_0 2 rfl) fk_X10_301 T69 rfl ?_
  refine memI eM_1 ?_
  refine g_iconst (v := (1 : Int32)) C (ckD_get k_X10_makeTree_0 3 rfl) (by decide) ?_
  refine g_istore_n (lv' := [(1, _), (0, _)]) C (ckD_get k_X10_makeTree_0 4 rfl) rfl hL1 rfl ?_
  refine g_aload_n 1 C (ckD_get k_X10_makeTree_0 5 rfl) rfl rfl ?_
  refine g_aload_n 1 C (ckD_get k_X10_makeTree_0 6 rfl) rfl rfl ?_
  refine g_getR C (ckD_get k_X10_makeTree_0 7 rfl) fk_X10_48 T69 rfl ?_
  refine g_iconst (v := (0 : Int32)) C (ckD_get k_X10_makeTree_0 8 rfl) (by decide) ?_
  obtain ⟨v_2, hi_3, ev_2, hf⟩ := rdI_e hf
  refine n_iald C (ckD_get k_X10_makeTree_0 9 rfl) T81 hi_3 ev_2 ?_
  obtain ⟨M_4, eM_4, hf⟩ := lt_e hf
  refine g_putI C (ckD_get k_X10_makeTree_0 10 rfl) fk_X10_198 T69 rfl ?_
  refine memI eM_4 ?_
  refine g_iconst (v := (0 : Int32)) C (ckD_get k_X10_makeTree_0 11 rfl) (by decide) ?_
  refine g_istore_n (lv' := [(2, _), (1, _), (0, _)]) C (ckD_get k_X10_makeTree_0 12 rfl) rfl hL2 rfl ?_
  refine G.sub [2, 0] rfl ?_
  obtain ⟨M_7, hx_19, hf⟩ := bd_e hf
  have hE_19 : G K (0, 0) 54 [(0, .ref (K.2.1.1 + 69))] [] M_7 := by
    have hf : f_X10_makeTree_A19 M_7 = some r := hf
    unfold f_X10_makeTree_A19 at hf
    refine g_iconst (v := (0 : Int32)) C (ckD_get k_X10_makeTree_0 34 rfl) (by decide) ?_
    refine g_istore_n (lv' := [(2, _), (0, _)]) C (ckD_get k_X10_makeTree_0 35 rfl) rfl hL2 rfl ?_
    refine G.sub [1, 0] rfl ?_
    obtain ⟨xx_56, hx_56, hf⟩ := bd_e hf
    have hE_56 : ∀ (M_10 : Mm), xx_56 = .inl M_10 → G K (0, 0) 216 [(0, .ref (K.2.1.1 + 69))] [] M_10 := by
      intro M_10 ex
      subst ex
      have hf : f_X10_makeTree_A56 M_10 = some r := hf
      unfold f_X10_makeTree_A56 at hf
      refine g_aload_n 0 C (ckD_get k_X10_makeTree_3 12 rfl) rfl rfl ?_
      refine g_getI C (ckD_get k_X10_makeTree_3 13 rfl) fk_X10_301 T69 rfl ?_
      refine g_if_ne C (ckD_get k_X10_makeTree_3 14 rfl) (fun c_11 => ?_) (fun c_11 => ?_)
      · have hf := if_f hf c_11
        refine g_iconst (v := (0 : Int32)) C (ckD_get k_X10_makeTree_3 17 rfl) (by decide) ?_
        cases hf
        exact g_zret C (ckD_get k_X10_makeTree_3 18 rfl) hr rfl hRv (Nat.le_refl _) (Nat.le_refl _)
      · have hf := if_t hf c_11
        refine g_iconst (v := (1 : Int32)) C (ckD_get k_X10_makeTree_3 15 rfl) (by decide) ?_
        refine g_goto C (ckD_get k_X10_makeTree_3 16 rfl) ?_
        cases hf
        exact g_zret C (ckD_get k_X10_makeTree_3 18 rfl) hr rfl hRv (Nat.le_refl _) (Nat.le_refl _)
    have hO_56 : ∀ o, xx_56 = .inr o → o = r := by
      intro o eo
      subst eo
      have hf : some o = some r := hf
      cases hf
      rfl
    refine loop_e (x := xx_56) (P := fun (v : (Int32 × Mm)) => G K (0, 0) 56 [(0, .ref (K.2.1.1 + 69)), (2, .int v.1)] [] v.2) ?_ FU _ hx_56
    intro v rr_56 hf hn_56 hz_56
    obtain ⟨x2_8, M_9⟩ := v
    have hf : f_X10_makeTree_L56 x2_8 M_9 = some rr_56 := hf
    show G K (0, 0) 56 [(0, .ref (K.2.1.1 + 69)), (2, .int x2_8)] [] M_9
    unfold f_X10_makeTree_L56 at hf
    refine g_iload_n 1 C (ckD_get k_X10_makeTree_0 36 rfl) rfl rfl ?_
    refine g_aload_n 0 C (ckD_get k_X10_makeTree_0 37 rfl) rfl rfl ?_
    refine g_getI C (ckD_get k_X10_makeTree_0 38 rfl) fk_X10_124 T69 rfl ?_
    refine g_icmp_ge C (ckD_get k_X10_makeTree_0 39 rfl) (fun c_12 => ?_) (fun c_12 => ?_)
    · have hf := if_t hf c_12
      refine G.sub [0] rfl ?_
      cases hf
      exact hE_56 _ (hz_56 _ rfl).symm
    · have hf := if_f hf c_12
      refine g_aload_n 0 C (ckD_get k_X10_makeTree_1 0 rfl) rfl rfl ?_
      refine g_getR C (ckD_get k_X10_makeTree_1 1 rfl) fk_X10_48 T69 rfl ?_
      refine g_iload_n 1 C (ckD_get k_X10_makeTree_1 2 rfl) rfl rfl ?_
      obtain ⟨v_13, hi_14, ev_13, hf⟩ := rdI_e hf
      refine n_iald C (ckD_get k_X10_makeTree_1 3 rfl) T81 hi_14 ev_13 ?_
      refine g_istore_n (lv' := [(3, _), (0, _), (2, _)]) C (ckD_get k_X10_makeTree_1 4 rfl) rfl hL3 rfl ?_
      refine g_iload_n 2 C (ckD_get k_X10_makeTree_1 5 rfl) rfl rfl ?_
      have hJ_135 : ∀ (M_15 : Mm), f_X10_makeTree_J135 x2_8 v_13 M_15 = some rr_56 → G K (0, 0) 135 [(0, .ref (K.2.1.1 + 69)), (2, .int x2_8), (3, .int v_13)] [] M_15 := by
        intro M_15 hf
        unfold f_X10_makeTree_J135 at hf
        refine g_aload_n 0 C (ckD_get k_X10_makeTree_2 3 rfl) rfl rfl ?_
        refine g_getR C (ckD_get k_X10_makeTree_2 4 rfl) fk_X10_105 T69 rfl ?_
        refine g_iload_n 1 C (ckD_get k_X10_makeTree_2 5 rfl) rfl rfl ?_
        obtain ⟨v_16, hi_17, ev_16, hf⟩ := rdI_e hf
        refine n_iald C (ckD_get k_X10_makeTree_2 6 rfl) T100 hi_17 ev_16 ?_
        have hJ_178 : ∀ (M_18 : Mm), f_X10_makeTree_J178 x2_8 v_13 M_18 = some rr_56 → G K (0, 0) 178 [(0, .ref (K.2.1.1 + 69)), (2, .int x2_8), (3, .int v_13)] [] M_18 := by
          intro M_18 hf
          unfold f_X10_makeTree_J178 at hf
          refine g_aload_n 0 C (ckD_get k_X10_makeTree_2 30 rfl) rfl rfl ?_
          refine g_getR C (ckD_get k_X10_makeTree_2 31 rfl) fk_X10_105 T69 rfl ?_
          refine g_iload_n 1 C (ckD_get k_X10_makeTree_2 32 rfl) rfl rfl ?_
          obtain ⟨v_19, hi_20, ev_19, hf⟩ := rdI_e hf
          refine n_iald C (ckD_get k_X10_makeTree_2 33 rfl) T100 hi_20 ev_19 ?_
          refine g_iconst (v := (2 : Int32)) C (ckD_get k_X10_makeTree_2 34 rfl) (by decide) ?_
          have hJ_210 : ∀ (M_21 : Mm), f_X10_makeTree_J210 x2_8 M_21 = some rr_56 → G K (0, 0) 210 [(0, .ref (K.2.1.1 + 69)), (2, .int x2_8)] [] M_21 := by
            intro M_21 hf
            unfold f_X10_makeTree_J210 at hf
            obtain ⟨x2_22, ex2_22, hf⟩ := lt_e hf
            refine g_iinc (lv' := [(2, _), (0, _)]) 1 C (ckD_get k_X10_makeTree_3 10 rfl) rfl ex2_22 hL2 rfl ?_
            refine g_goto C (ckD_get k_X10_makeTree_3 11 rfl) ?_
            refine G.sub [1, 0] rfl ?_
            cases hf
            exact hn_56 _ rfl
          refine g_icmp_ge C (ckD_get k_X10_makeTree_2 35 rfl) (fun c_23 => ?_) (fun c_23 => ?_)
          · have hf := if_t hf c_23
            refine G.sub [0, 1] rfl ?_
            exact hJ_210 _ hf
          · have hf := if_f hf c_23
            refine g_aload_n 0 C (ckD_get k_X10_makeTree_2 36 rfl) rfl rfl ?_
            refine g_getR C (ckD_get k_X10_makeTree_2 37 rfl) fk_X10_108 T69 rfl ?_
            refine g_aload_n 0 C (ckD_get k_X10_makeTree_2 38 rfl) rfl rfl ?_
            refine g_getI C (ckD_get k_X10_makeTree_2 39 rfl) fk_X10_301 T69 rfl ?_
            refine g_iconst (v := (2 : Int32)) C (ckD_get k_X10_makeTree_3 0 rfl) (by decide) ?_
            refine g_iload_n 2 C (ckD_get k_X10_makeTree_3 1 rfl) rfl rfl ?_
            refine g_imul C (ckD_get k_X10_makeTree_3 2 rfl) ?_
            obtain ⟨M_24, hi_25, eM_24, hf⟩ := wrI_e hf
            refine n_iast C (ckD_get k_X10_makeTree_3 3 rfl) T101 hi_25 eM_24 ?_
            refine g_aload_n 0 C (ckD_get k_X10_makeTree_3 4 rfl) rfl rfl ?_
            refine g_dup C (ckD_get k_X10_makeTree_3 5 rfl) rfl ?_
            refine g_getI C (ckD_get k_X10_makeTree_3 6 rfl) fk_X10_301 T69 rfl ?_
            refine g_iconst (v := (1 : Int32)) C (ckD_get k_X10_makeTree_3 7 rfl) (by decide) ?_
            refine g_iadd C (ckD_get k_X10_makeTree_3 8 rfl) ?_
            obtain ⟨M_26, eM_26, hf⟩ := lt_e hf
            refine g_putI C (ckD_get k_X10_makeTree_3 9 rfl) fk_X10_301 T69 rfl ?_
            refine memI eM_26 ?_
            refine G.sub [0, 1] rfl ?_
            exact hJ_210 _ hf
        have hJ_154 : ∀ (_ : Unit), f_X10_makeTree_J154 x2_8 v_13 M_15 () = some rr_56 → G K (0, 0) 154 [(0, .ref (K.2.1.1 + 69)), (2, .int x2_8), (3, .int v_13)] [] M_15 := by
          intro _ hf
          unfold f_X10_makeTree_J154 at hf
          refine g_aload_n 0 C (ckD_get k_X10_makeTree_2 14 rfl) rfl rfl ?_
          refine g_getR C (ckD_get k_X10_makeTree_2 15 rfl) fk_X10_108 T69 rfl ?_
          refine g_aload_n 0 C (ckD_get k_X10_makeTree_2 16 rfl) rfl rfl ?_
          refine g_getI C (ckD_get k_X10_makeTree_2 17 rfl) fk_X10_301 T69 rfl ?_
          refine g_iconst (v := (2 : Int32)) C (ckD_get k_X10_makeTree_2 18 rfl) (by decide) ?_
          refine g_iload_n 2 C (ckD_get k_X10_makeTree_2 19 rfl) rfl rfl ?_
          refine g_imul C (ckD_get k_X10_makeTree_2 20 rfl) ?_
          refine g_iconst (v := (1 : Int32)) C (ckD_get k_X10_makeTree_2 21 rfl) (by decide) ?_
          refine g_iadd C (ckD_get k_X10_makeTree_2 22 rfl) ?_
          obtain ⟨M_27, hi_28, eM_27, hf⟩ := wrI_e hf
          refine n_iast C (ckD_get k_X10_makeTree_2 23 rfl) T101 hi_28 eM_27 ?_
          refine g_aload_n 0 C (ckD_get k_X10_makeTree_2 24 rfl) rfl rfl ?_
          refine g_dup C (ckD_get k_X10_makeTree_2 25 rfl) rfl ?_
          refine g_getI C (ckD_get k_X10_makeTree_2 26 rfl) fk_X10_301 T69 rfl ?_
          refine g_iconst (v := (1 : Int32)) C (ckD_get k_X10_makeTree_2 27 rfl) (by decide) ?_
          refine g_iadd C (ckD_get k_X10_makeTree_2 28 rfl) ?_
          obtain ⟨M_29, eM_29, hf⟩ := lt_e hf
          refine g_putI C (ckD_get k_X10_makeTree_2 29 rfl) fk_X10_301 T69 rfl ?_
          refine memI eM_29 ?_
          exact hJ_178 _ hf
        refine g_if_eq C (ckD_get k_X10_makeTree_2 7 rfl) (fun c_30 => ?_) (fun c_30 => ?_)
        · have hf := if_t hf c_30
          exact hJ_154 () hf
        · have hf := if_f hf c_30
          refine g_aload_n 0 C (ckD_get k_X10_makeTree_2 8 rfl) rfl rfl ?_
          refine g_getR C (ckD_get k_X10_makeTree_2 9 rfl) fk_X10_105 T69 rfl ?_
          refine g_iload_n 1 C (ckD_get k_X10_makeTree_2 10 rfl) rfl rfl ?_
          obtain ⟨v_31, hi_32, ev_31, hf⟩ := rdI_e hf
          refine n_iald C (ckD_get k_X10_makeTree_2 11 rfl) T100 hi_32 ev_31 ?_
          refine g_iconst (v := (2 : Int32)) C (ckD_get k_X10_makeTree_2 12 rfl) (by decide) ?_
          refine g_icmp_ne C (ckD_get k_X10_makeTree_2 13 rfl) (fun c_33 => ?_) (fun c_33 => ?_)
          · have hf := if_f hf c_33
            exact hJ_178 _ hf
          · have hf := if_t hf c_33
            exact hJ_154 () hf
      refine g_if_le C (ckD_get k_X10_makeTree_1 6 rfl) (fun c_34 => ?_) (fun c_34 => ?_)
      · have hf := if_t hf c_34
        refine G.sub [1, 2, 0] rfl ?_
        exact hJ_135 _ hf
      · have hf := if_f hf c_34
        refine g_aload_n 1 C (ckD_get k_X10_makeTree_1 7 rfl) rfl rfl ?_
        refine g_getI C (ckD_get k_X10_makeTree_1 8 rfl) fk_X10_301 T69 rfl ?_
        refine g_if_ne C (ckD_get k_X10_makeTree_1 9 rfl) (fun c_35 => ?_) (fun c_35 => ?_)
        · have hf := if_f hf c_35
          refine g_aload_n 1 C (ckD_get k_X10_makeTree_1 12 rfl) rfl rfl ?_
          refine g_dup C (ckD_get k_X10_makeTree_1 13 rfl) rfl ?_
          refine g_getI C (ckD_get k_X10_makeTree_1 14 rfl) fk_X10_301 T69 rfl ?_
          refine g_iconst (v := (1 : Int32)) C (ckD_get k_X10_makeTree_1 15 rfl) (by decide) ?_
          refine g_isub C (ckD_get k_X10_makeTree_1 16 rfl) ?_
          obtain ⟨M_36, eM_36, hf⟩ := lt_e hf
          refine g_putI C (ckD_get k_X10_makeTree_1 17 rfl) fk_X10_301 T69 rfl ?_
          refine memI eM_36 ?_
          refine g_aload_n 1 C (ckD_get k_X10_makeTree_1 18 rfl) rfl rfl ?_
          refine g_getR C (ckD_get k_X10_makeTree_1 19 rfl) fk_X10_108 T69 rfl ?_
          refine g_aload_n 1 C (ckD_get k_X10_makeTree_1 20 rfl) rfl rfl ?_
          refine g_getI C (ckD_get k_X10_makeTree_1 21 rfl) fk_X10_301 T69 rfl ?_
          obtain ⟨v_37, hi_38, ev_37, hf⟩ := rdI_e hf
          refine n_iald C (ckD_get k_X10_makeTree_1 22 rfl) T101 hi_38 ev_37 ?_
          refine g_istore (lv' := [(4, _), (3, _), (0, _), (2, _)]) C (ckD_get k_X10_makeTree_1 23 rfl) hL4 rfl ?_
          refine g_iload 0 C (ckD_get k_X10_makeTree_1 24 rfl) rfl ?_
          refine g_iconst (v := (2 : Int32)) C (ckD_get k_X10_makeTree_1 25 rfl) (by decide) ?_
          refine g_irem C (ckD_get k_X10_makeTree_1 26 rfl) (by decide) ?_
          refine g_if_ne C (ckD_get k_X10_makeTree_1 27 rfl) (fun c_40 => ?_) (fun c_40 => ?_)
          · have hf := if_f hf c_40
            refine g_aload_n 2 C (ckD_get k_X10_makeTree_1 36 rfl) rfl rfl ?_
            refine g_getR C (ckD_get k_X10_makeTree_1 37 rfl) fk_X10_45 T69 rfl ?_
            refine g_iload 0 C (ckD_get k_X10_makeTree_1 38 rfl) rfl ?_
            refine g_iconst (v := (2 : Int32)) C (ckD_get k_X10_makeTree_1 39 rfl) (by decide) ?_
            refine g_idiv C (ckD_get k_X10_makeTree_2 0 rfl) (by decide) ?_
            refine g_iload_n 1 C (ckD_get k_X10_makeTree_2 1 rfl) rfl rfl ?_
            obtain ⟨M_42, hi_43, eM_42, hf⟩ := wrI_e hf
            refine n_iast C (ckD_get k_X10_makeTree_2 2 rfl) T80 hi_43 eM_42 ?_
            refine G.sub [2, 3, 1] rfl ?_
            exact hJ_135 _ hf
          · have hf := if_t hf c_40
            refine g_aload_n 2 C (ckD_get k_X10_makeTree_1 28 rfl) rfl rfl ?_
            refine g_getR C (ckD_get k_X10_makeTree_1 29 rfl) fk_X10_42 T69 rfl ?_
            refine g_iload 0 C (ckD_get k_X10_makeTree_1 30 rfl) rfl ?_
            refine g_iconst (v := (2 : Int32)) C (ckD_get k_X10_makeTree_1 31 rfl) (by decide) ?_
            refine g_idiv C (ckD_get k_X10_makeTree_1 32 rfl) (by decide) ?_
            refine g_iload_n 1 C (ckD_get k_X10_makeTree_1 33 rfl) rfl rfl ?_
            obtain ⟨M_45, hi_46, eM_45, hf⟩ := wrI_e hf
            refine n_iast C (ckD_get k_X10_makeTree_1 34 rfl) T79 hi_46 eM_45 ?_
            refine g_goto C (ckD_get k_X10_makeTree_1 35 rfl) ?_
            refine G.sub [2, 3, 1] rfl ?_
            exact hJ_135 _ hf
        · have hf := if_t hf c_35
          refine g_iconst (v := (0 : Int32)) C (ckD_get k_X10_makeTree_1 10 rfl) (by decide) ?_
          cases hf
          cases hO_56 _ (hz_56 _ rfl).symm
          exact g_zret C (ckD_get k_X10_makeTree_1 11 rfl) hr rfl hRv (Nat.le_refl _) (Nat.le_refl _)
  refine loop_e (x := M_7) (P := fun (v : (Int32 × Mm)) => G K (0, 0) 19 [(0, .ref (K.2.1.1 + 69)), (2, .int v.1)] [] v.2) ?_ FU _ hx_19
  intro v rr_19 hf hn_19 hz_19
  obtain ⟨x2_5, M_6⟩ := v
  have hf : f_X10_makeTree_L19 x2_5 M_6 = some rr_19 := hf
  show G K (0, 0) 19 [(0, .ref (K.2.1.1 + 69)), (2, .int x2_5)] [] M_6
  unfold f_X10_makeTree_L19 at hf
  refine g_iload_n 1 C (ckD_get k_X10_makeTree_0 13 rfl) rfl rfl ?_
  refine g_aload_n 0 C (ckD_get k_X10_makeTree_0 14 rfl) rfl rfl ?_
  refine g_getI C (ckD_get k_X10_makeTree_0 15 rfl) fk_X10_124 T69 rfl ?_
  refine g_icmp_ge C (ckD_get k_X10_makeTree_0 16 rfl) (fun c_47 => ?_) (fun c_47 => ?_)
  · have hf := if_t hf c_47
    refine G.sub [0] rfl ?_
    cases hf
    cases hz_19 _ rfl
    exact hE_19
  · have hf := if_f hf c_47
    refine g_aload_n 0 C (ckD_get k_X10_makeTree_0 17 rfl) rfl rfl ?_
    refine g_getR C (ckD_get k_X10_makeTree_0 18 rfl) fk_X10_48 T69 rfl ?_
    refine g_iload_n 1 C (ckD_get k_X10_makeTree_0 19 rfl) rfl rfl ?_
    obtain ⟨v_48, hi_49, ev_48, hf⟩ := rdI_e hf
    refine n_iald C (ckD_get k_X10_makeTree_0 20 rfl) T81 hi_49 ev_48 ?_
    refine g_istore_n (lv' := [(3, _), (0, _), (2, _)]) C (ckD_get k_X10_makeTree_0 21 rfl) rfl hL3 rfl ?_
    refine g_aload_n 1 C (ckD_get k_X10_makeTree_0 22 rfl) rfl rfl ?_
    refine g_getR C (ckD_get k_X10_makeTree_0 23 rfl) fk_X10_42 T69 rfl ?_
    refine g_iload_n 0 C (ckD_get k_X10_makeTree_0 24 rfl) rfl rfl ?_
    refine g_iconst (v := (-1 : Int32)) C (ckD_get k_X10_makeTree_0 25 rfl) (by decide) ?_
    obtain ⟨M_50, hi_51, eM_50, hf⟩ := wrI_e hf
    refine n_iast C (ckD_get k_X10_makeTree_0 26 rfl) T79 hi_51 eM_50 ?_
    refine g_aload_n 1 C (ckD_get k_X10_makeTree_0 27 rfl) rfl rfl ?_
    refine g_getR C (ckD_get k_X10_makeTree_0 28 rfl) fk_X10_45 T69 rfl ?_
    refine g_iload_n 0 C (ckD_get k_X10_makeTree_0 29 rfl) rfl rfl ?_
    refine g_iconst (v := (-1 : Int32)) C (ckD_get k_X10_makeTree_0 30 rfl) (by decide) ?_
    obtain ⟨M_52, hi_53, eM_52, hf⟩ := wrI_e hf
    refine n_iast C (ckD_get k_X10_makeTree_0 31 rfl) T80 hi_53 eM_52 ?_
    obtain ⟨x2_54, ex2_54, hf⟩ := lt_e hf
    refine g_iinc (lv' := [(2, _), (3, _), (0, _)]) 2 C (ckD_get k_X10_makeTree_0 32 rfl) rfl ex2_54 hL2 rfl ?_
    refine g_goto C (ckD_get k_X10_makeTree_0 33 rfl) ?_
    refine G.sub [2, 0] rfl ?_
    cases hf
    exact hn_19 _ rfl

set_option maxRecDepth 20000 in
theorem k_X10_leastTree_0 : ckD cX10_leastTree [(0, .aload_n 0, 1, 1, 0), (1, .aload_n 0, 1, 2, 0), (2, .getfield 48, 3, 5, 0), (5, .invokevirtual 284, 3, 8, 0), (8, .iconst 1, 1, 9, 0), (9, .istore_n 1, 1, 10, 0), (10, .iload_n 1, 1, 11, 0), (11, .ifCond .eq 144, 3, 14, 155), (14, .iconst 1, 1, 15, 0), (15, .iconst 2, 1, 16, 0), (16, .aload_n 0, 1, 17, 0), (17, .getfield 124, 3, 20, 0), (20, .imul, 1, 21, 0), (21, .ishl, 1, 22, 0), (22, .istore_n 2, 1, 23, 0), (23, .iconst 0, 1, 24, 0), (24, .istore_n 3, 1, 25, 0), (25, .iload_n 3, 1, 26, 0), (26, .iload_n 2, 1, 27, 0), (27, .if_icmp .ge 113, 3, 30, 140), (30, .iconst 0, 1, 31, 0), (31, .istore 4, 2, 33, 0), (33, .iload 4, 2, 35, 0), (35, .aload_n 0, 1, 36, 0), (36, .getfield 124, 3, 39, 0), (39, .if_icmp .ge 31, 3, 42, 70), (42, .aload_n 0, 1, 43, 0), (43, .getfield 105, 3, 46, 0), (46, .iload 4, 2, 48, 0), (48, .iload_n 3, 1, 49, 0), (49, .iconst 2, 1, 50, 0), (50, .aload_n 0, 1, 51, 0), (51, .getfield 124, 3, 54, 0), (54, .iconst 1, 1, 55, 0), (55, .isub, 1, 56, 0), (56, .iload 4, 2, 58, 0), (58, .isub, 1, 59, 0), (59, .imul, 1, 60, 0), (60, .ishr, 1, 61, 0), (61, .iconst 3, 1, 62, 0)] = true := by decide +kernel
set_option maxRecDepth 20000 in
theorem k_X10_leastTree_1 : ckD cX10_leastTree [(62, .iand, 1, 63, 0), (63, .iastore, 1, 64, 0), (64, .iinc 4 1, 3, 67, 0), (67, .goto (-34), 3, 70, 33), (70, .aload_n 0, 1, 71, 0), (71, .invokevirtual 304, 3, 74, 0), (74, .ifCond .eq 60, 3, 77, 134), (77, .aload_n 0, 1, 78, 0), (78, .iconst 3, 1, 79, 0), (79, .invokevirtual 287, 3, 82, 0), (82, .ifCond .ne 6, 3, 85, 88), (85, .goto 49, 3, 88, 134), (88, .iconst 0, 1, 89, 0), (89, .istore 4, 2, 91, 0), (91, .iload 4, 2, 93, 0), (93, .aload_n 0, 1, 94, 0), (94, .getfield 124, 3, 97, 0), (97, .if_icmp .ge 37, 3, 100, 134), (100, .aload_n 0, 1, 101, 0), (101, .getfield 99, 3, 104, 0), (104, .iload 4, 2, 106, 0), (106, .aload_n 0, 1, 107, 0), (107, .getfield 48, 3, 110, 0), (110, .iload 4, 2, 112, 0), (112, .iaload, 1, 113, 0), (113, .iastore, 1, 114, 0), (114, .aload_n 0, 1, 115, 0), (115, .getfield 111, 3, 118, 0), (118, .iload 4, 2, 120, 0), (120, .aload_n 0, 1, 121, 0), (121, .getfield 105, 3, 124, 0), (124, .iload 4, 2, 126, 0), (126, .iaload, 1, 127, 0), (127, .iastore, 1, 128, 0), (128, .iinc 4 1, 3, 131, 0), (131, .goto (-40), 3, 134, 91), (134, .iinc 3 1, 3, 137, 0), (137, .goto (-112), 3, 140, 25), (140, .aload_n 0, 1, 141, 0), (141, .getfield 48, 3, 144, 0)] = true := by decide +kernel
set_option maxRecDepth 20000 in
theorem k_X10_leastTree_2 : ckD cX10_leastTree [(144, .aload_n 0, 1, 145, 0), (145, .getfield 124, 3, 148, 0), (148, .invokestatic 290, 3, 151, 0), (151, .istore_n 1, 1, 152, 0), (152, .goto (-142), 3, 155, 10), (155, .iconst 0, 1, 156, 0), (156, .istore_n 2, 1, 157, 0), (157, .iload_n 2, 1, 158, 0), (158, .aload_n 0, 1, 159, 0), (159, .getfield 124, 3, 162, 0), (162, .if_icmp .ge 33, 3, 165, 195), (165, .aload_n 0, 1, 166, 0), (166, .getfield 48, 3, 169, 0), (169, .iload_n 2, 1, 170, 0), (170, .aload_n 0, 1, 171, 0), (171, .getfield 99, 3, 174, 0), (174, .iload_n 2, 1, 175, 0), (175, .iaload, 1, 176, 0), (176, .iastore, 1, 177, 0), (177, .aload_n 0, 1, 178, 0), (178, .getfield 105, 3, 181, 0), (181, .iload_n 2, 1, 182, 0), (182, .aload_n 0, 1, 183, 0), (183, .getfield 111, 3, 186, 0), (186, .iload_n 2, 1, 187, 0), (187, .iaload, 1, 188, 0), (188, .iastore, 1, 189, 0), (189, .iinc 2 1, 3, 192, 0), (192, .goto (-35), 3, 195, 157), (195, .aload_n 0, 1, 196, 0), (196, .invokevirtual 304, 3, 199, 0), (199, .istore_n 1, 1, 200, 0), (200, .return_, 1, 201, 0)] = true := by decide +kernel
def f_X10_leastTree_A157 (M_8 : Mm) : Option Mm := bd2 (f_X10_makeTree M_8) fun r_11 M_10 => some M_10
def f_X10_leastTree_L157 (x2_6 : Int32) (M_7 : Mm) : Option ((Int32 × Mm) ⊕ Mm) := if (M_7.1 69 1) ≤ x2_6 then some (.inr M_7) else rdI 23 M_7 98 x2_6 fun v_13 => wrI 12 M_7 81 x2_6 v_13 fun M_15 => rdI 12 M_15 102 x2_6 fun v_17 => wrI 12 M_15 100 x2_6 v_17 fun M_19 => lt1 (x2_6 + 1) fun x2_21 => some (.inl (x2_21, M_19))
def f_X10_leastTree_A10 (M_5 : Mm) : Option Mm := (loop (fun v => f_X10_leastTree_L157 v.1 v.2) FU ((0 : Int32), M_5)).bind fun z => f_X10_leastTree_A157 z
def f_X10_leastTree_A25 (M_26 : Mm) : Option ((Int32 × Mm) ⊕ Mm) := bd2 (f_X10_next 81 (M_26.1 69 1) M_26) fun r_29 M_28 => some (.inl (r_29, M_28))
def f_X10_leastTree_J134 (x3_24 : Int32) (M_37 : Mm) : Option ((Int32 × Mm) ⊕ Mm) := lt1 (x3_24 + 1) fun x3_38 => some (.inl (x3_38, M_37))
def f_X10_leastTree_A91 (x3_24 : Int32) (M_46 : Mm) : Option ((Int32 × Mm) ⊕ Mm) := f_X10_leastTree_J134 x3_24 M_46
def f_X10_leastTree_L91 (x4_44 : Int32) (M_45 : Mm) : Option ((Int32 × Mm) ⊕ Mm) := if (M_45.1 69 1) ≤ x4_44 then some (.inr M_45) else rdI 12 M_45 81 x4_44 fun v_48 => wrI 23 M_45 98 x4_44 v_48 fun M_50 => rdI 12 M_50 100 x4_44 fun v_52 => wrI 12 M_50 102 x4_44 v_52 fun M_54 => lt1 (x4_44 + 1) fun x4_56 => some (.inl (x4_56, M_54))
def f_X10_leastTree_A33 (x3_24 : Int32) (M_33 : Mm) : Option ((Int32 × Mm) ⊕ Mm) := bd2 (f_X10_makeTree M_33) fun r_36 M_35 => if r_36 = 0 then f_X10_leastTree_J134 x3_24 M_35 else bd2 (f_X10_tryTurned (3 : Int32) M_35) fun r_42 M_41 => if r_42 = 0 then f_X10_leastTree_J134 x3_24 M_41 else (loop (fun v => f_X10_leastTree_L91 v.1 v.2) FU ((0 : Int32), M_41)).bind fun z => f_X10_leastTree_A91 x3_24 z
def f_X10_leastTree_L33 (x3_24 : Int32) (x4_31 : Int32) (M_32 : Mm) : Option ((Int32 × Mm) ⊕ Mm) := if (M_32.1 69 1) ≤ x4_31 then some (.inr M_32) else wrI 12 M_32 100 x4_31 ((x3_24 >>> (((2 : Int32) * (((M_32.1 69 1) - (1 : Int32)) - x4_31)) &&& 31)) &&& (3 : Int32)) fun M_58 => lt1 (x4_31 + 1) fun x4_60 => some (.inl (x4_60, M_58))
def f_X10_leastTree_L25 (x2_23 : Int32) (x3_24 : Int32) (M_25 : Mm) : Option ((Int32 × Mm) ⊕ Mm) := if x2_23 ≤ x3_24 then some (.inr M_25) else (loop (fun v => f_X10_leastTree_L33 x3_24 v.1 v.2) FU ((0 : Int32), M_25)).bind fun z => f_X10_leastTree_A33 x3_24 z
def f_X10_leastTree_L10 (x1_3 : Int32) (M_4 : Mm) : Option ((Int32 × Mm) ⊕ Mm) := if x1_3 = 0 then some (.inr M_4) else lt1 ((1 : Int32) <<< (((2 : Int32) * (M_4.1 69 1)) &&& 31)) fun x2_23 => (loop (fun v => f_X10_leastTree_L25 x2_23 v.1 v.2) FU ((0 : Int32), M_4)).bind fun z => f_X10_leastTree_A25 z
def f_X10_leastTree  (M : Mm) : Option Mm := (f_X10_first 81 M).bind fun M_2 => (loop (fun v => f_X10_leastTree_L10 v.1 v.2) FU ((1 : Int32), M_2)).bind fun z => f_X10_leastTree_A10 z
set_option maxRecDepth 100000 in
set_option maxHeartbeats 4000000 in
theorem t_X10_leastTree {E : Ev} {l : Launch} (htr : l.stackTraces = false) (M : Mm) (r : Mm) (hf : f_X10_leastTree M = some r) : CM E l 35 0 0 yX10_leastTree cX10_leastTree 5 none [.ref (E.1 + 69)] M none r := by
  refine CM.of htr (by decide +kernel) (Nat.le_of_ble_eq_true rfl) ?_
  intro K hE hL hl hR0 C hr hRv
  subst hE
  subst hl
  have C : Cx K cX10_leastTree RX10 35 := C
  have hB : (0 : Nat) ≤ K.1.R.cells ∧ 0 ≤ K.1.R.slots := ⟨Nat.zero_le _, Nat.zero_le _⟩
  have hL1 : 1 < K.2.2.1 := by rw [hL]; decide
  have hL2 : 2 < K.2.2.1 := by rw [hL]; decide
  have hL3 : 3 < K.2.2.1 := by rw [hL]; decide
  have hL4 : 4 < K.2.2.1 := by rw [hL]; decide
  show G K (0, 0) 0 [(0, .ref (K.2.1.1 + 69))] [] M
  unfold f_X10_leastTree at hf
  refine g_aload_n 0 C (ckD_get k_X10_leastTree_0 0 rfl) rfl rfl ?_
  refine g_aload_n 0 C (ckD_get k_X10_leastTree_0 1 rfl) rfl rfl ?_
  refine g_getR C (ckD_get k_X10_leastTree_0 2 rfl) fk_X10_48 T69 rfl ?_
  obtain ⟨M_2, hr_1, hf⟩ := bd_e hf
  refine n_cV [.ref (K.2.1.1 + 81)] [] C (ckD_get k_X10_leastTree_0 3 rfl) vk_X10_284 (t_X10_first C.tr _ T81 _ _ hr_1) T69 rfl rfl (Nat.le_of_ble_eq_true rfl) (by decide) hB rfl ?_
  refine g_iconst (v := (1 : Int32)) C (ckD_get k_X10_leastTree_0 4 rfl) (by decide) ?_
  refine g_istore_n (lv' := [(1, _), (0, _)]) C (ckD_get k_X10_leastTree_0 5 rfl) rfl hL1 rfl ?_
  refine G.sub [1, 0] rfl ?_
  obtain ⟨M_5, hx_10, hf⟩ := bd_e hf
  have hE_10 : G K (0, 0) 155 [(0, .ref (K.2.1.1 + 69))] [] M_5 := by
    have hf : f_X10_leastTree_A10 M_5 = some r := hf
    unfold f_X10_leastTree_A10 at hf
    refine g_iconst (v := (0 : Int32)) C (ckD_get k_X10_leastTree_2 5 rfl) (by decide) ?_
    refine g_istore_n (lv' := [(2, _), (0, _)]) C (ckD_get k_X10_leastTree_2 6 rfl) rfl hL2 rfl ?_
    refine G.sub [1, 0] rfl ?_
    obtain ⟨M_8, hx_157, hf⟩ := bd_e hf
    have hE_157 : G K (0, 0) 195 [(0, .ref (K.2.1.1 + 69))] [] M_8 := by
      have hf : f_X10_leastTree_A157 M_8 = some r := hf
      unfold f_X10_leastTree_A157 at hf
      refine g_aload_n 0 C (ckD_get k_X10_leastTree_2 29 rfl) rfl rfl ?_
      obtain ⟨r_11, M_10, hr_9, hf⟩ := bd2_e hf
      refine n_cV [] [] C (ckD_get k_X10_leastTree_2 30 rfl) vk_X10_304 (t_X10_makeTree C.tr _ _ hr_9) T69 rfl rfl (Nat.le_of_ble_eq_true rfl) (by decide) hB rfl ?_
      refine g_istore_n (lv' := [(1, _), (0, _)]) C (ckD_get k_X10_leastTree_2 31 rfl) rfl hL1 rfl ?_
      cases hf
      exact g_vret C (ckD_get k_X10_leastTree_2 32 rfl) hr hRv (Nat.le_refl _) (Nat.le_refl _)
    refine loop_e (x := M_8) (P := fun (v : (Int32 × Mm)) => G K (0, 0) 157 [(0, .ref (K.2.1.1 + 69)), (2, .int v.1)] [] v.2) ?_ FU _ hx_157
    intro v rr_157 hf hn_157 hz_157
    obtain ⟨x2_6, M_7⟩ := v
    have hf : f_X10_leastTree_L157 x2_6 M_7 = some rr_157 := hf
    show G K (0, 0) 157 [(0, .ref (K.2.1.1 + 69)), (2, .int x2_6)] [] M_7
    unfold f_X10_leastTree_L157 at hf
    refine g_iload_n 1 C (ckD_get k_X10_leastTree_2 7 rfl) rfl rfl ?_
    refine g_aload_n 0 C (ckD_get k_X10_leastTree_2 8 rfl) rfl rfl ?_
    refine g_getI C (ckD_get k_X10_leastTree_2 9 rfl) fk_X10_124 T69 rfl ?_
    refine g_icmp_ge C (ckD_get k_X10_leastTree_2 10 rfl) (fun c_12 => ?_) (fun c_12 => ?_)
    · have hf := if_t hf c_12
      refine G.sub [0] rfl ?_
      cases hf
      cases hz_157 _ rfl
      exact hE_157
    · have hf := if_f hf c_12
      refine g_aload_n 0 C (ckD_get k_X10_leastTree_2 11 rfl) rfl rfl ?_
      refine g_getR C (ckD_get k_X10_leastTree_2 12 rfl) fk_X10_48 T69 rfl ?_
      refine g_iload_n 1 C (ckD_get k_X10_leastTree_2 13 rfl) rfl rfl ?_
      refine g_aload_n 0 C (ckD_get k_X10_leastTree_2 14 rfl) rfl rfl ?_
      refine g_getR C (ckD_get k_X10_leastTree_2 15 rfl) fk_X10_99 T69 rfl ?_
      refine g_iload_n 1 C (ckD_get k_X10_leastTree_2 16 rfl) rfl rfl ?_
      obtain ⟨v_13, hi_14, ev_13, hf⟩ := rdI_e hf
      refine n_iald C (ckD_get k_X10_leastTree_2 17 rfl) T98 hi_14 ev_13 ?_
      obtain ⟨M_15, hi_16, eM_15, hf⟩ := wrI_e hf
      refine n_iast C (ckD_get k_X10_leastTree_2 18 rfl) T81 hi_16 eM_15 ?_
      refine g_aload_n 0 C (ckD_get k_X10_leastTree_2 19 rfl) rfl rfl ?_
      refine g_getR C (ckD_get k_X10_leastTree_2 20 rfl) fk_X10_105 T69 rfl ?_
      refine g_iload_n 1 C (ckD_get k_X10_leastTree_2 21 rfl) rfl rfl ?_
      refine g_aload_n 0 C (ckD_get k_X10_leastTree_2 22 rfl) rfl rfl ?_
      refine g_getR C (ckD_get k_X10_leastTree_2 23 rfl) fk_X10_111 T69 rfl ?_
      refine g_iload_n 1 C (ckD_get k_X10_leastTree_2 24 rfl) rfl rfl ?_
      obtain ⟨v_17, hi_18, ev_17, hf⟩ := rdI_e hf
      refine n_iald C (ckD_get k_X10_leastTree_2 25 rfl) T102 hi_18 ev_17 ?_
      obtain ⟨M_19, hi_20, eM_19, hf⟩ := wrI_e hf
      refine n_iast C (ckD_get k_X10_leastTree_2 26 rfl) T100 hi_20 eM_19 ?_
      obtain ⟨x2_21, ex2_21, hf⟩ := lt_e hf
      refine g_iinc (lv' := [(2, _), (0, _)]) 1 C (ckD_get k_X10_leastTree_2 27 rfl) rfl ex2_21 hL2 rfl ?_
      refine g_goto C (ckD_get k_X10_leastTree_2 28 rfl) ?_
      refine G.sub [1, 0] rfl ?_
      cases hf
      exact hn_157 _ rfl
  refine loop_e (x := M_5) (P := fun (v : (Int32 × Mm)) => G K (0, 0) 10 [(0, .ref (K.2.1.1 + 69)), (1, .int v.1)] [] v.2) ?_ FU _ hx_10
  intro v rr_10 hf hn_10 hz_10
  obtain ⟨x1_3, M_4⟩ := v
  have hf : f_X10_leastTree_L10 x1_3 M_4 = some rr_10 := hf
  show G K (0, 0) 10 [(0, .ref (K.2.1.1 + 69)), (1, .int x1_3)] [] M_4
  unfold f_X10_leastTree_L10 at hf
  refine g_iload_n 1 C (ckD_get k_X10_leastTree_0 6 rfl) rfl rfl ?_
  refine g_if_eq C (ckD_get k_X10_leastTree_0 7 rfl) (fun c_22 => ?_) (fun c_22 => ?_)
  · have hf := if_t hf c_22
    refine G.sub [0] rfl ?_
    cases hf
    cases hz_10 _ rfl
    exact hE_10
  · have hf := if_f hf c_22
    refine g_iconst (v := (1 : Int32)) C (ckD_get k_X10_leastTree_0 8 rfl) (by decide) ?_
    refine g_iconst (v := (2 : Int32)) C (ckD_get k_X10_leastTree_0 9 rfl) (by decide) ?_
    refine g_aload_n 0 C (ckD_get k_X10_leastTree_0 10 rfl) rfl rfl ?_
    refine g_getI C (ckD_get k_X10_leastTree_0 11 rfl) fk_X10_124 T69 rfl ?_
    refine g_imul C (ckD_get k_X10_leastTree_0 12 rfl) ?_
    refine g_ishl C (ckD_get k_X10_leastTree_0 13 rfl) ?_
    obtain ⟨x2_23, ex2_23, hf⟩ := lt_e hf
    refine topI ex2_23 ?_
    refine g_istore_n (lv' := [(2, _), (0, _), (1, _)]) C (ckD_get k_X10_leastTree_0 14 rfl) rfl hL2 rfl ?_
    refine g_iconst (v := (0 : Int32)) C (ckD_get k_X10_leastTree_0 15 rfl) (by decide) ?_
    refine g_istore_n (lv' := [(3, _), (2, _), (0, _), (1, _)]) C (ckD_get k_X10_leastTree_0 16 rfl) rfl hL3 rfl ?_
    refine G.sub [2, 1, 0] rfl ?_
    obtain ⟨M_26, hx_25, hf⟩ := bd_e hf
    have hE_25 : G K (0, 0) 140 [(0, .ref (K.2.1.1 + 69))] [] M_26 := by
      have hf : f_X10_leastTree_A25 M_26 = some rr_10 := hf
      unfold f_X10_leastTree_A25 at hf
      refine g_aload_n 0 C (ckD_get k_X10_leastTree_1 38 rfl) rfl rfl ?_
      refine g_getR C (ckD_get k_X10_leastTree_1 39 rfl) fk_X10_48 T69 rfl ?_
      refine g_aload_n 0 C (ckD_get k_X10_leastTree_2 0 rfl) rfl rfl ?_
      refine g_getI C (ckD_get k_X10_leastTree_2 1 rfl) fk_X10_124 T69 rfl ?_
      obtain ⟨r_29, M_28, hr_27, hf⟩ := bd2_e hf
      refine n_cS [.ref (K.2.1.1 + 81), .int (M_26.1 69 1)] [] C (ckD_get k_X10_leastTree_2 2 rfl) sk_X10_290 (t_X10_next C.tr _ T81 _ _ _ hr_27) rfl rfl (Nat.le_of_ble_eq_true rfl) (by decide) hB rfl ?_
      refine g_istore_n (lv' := [(1, _), (0, _)]) C (ckD_get k_X10_leastTree_2 3 rfl) rfl hL1 rfl ?_
      refine g_goto C (ckD_get k_X10_leastTree_2 4 rfl) ?_
      refine G.sub [1, 0] rfl ?_
      cases hf
      exact hn_10 _ rfl
    refine loop_e (x := M_26) (P := fun (v : (Int32 × Mm)) => G K (0, 0) 25 [(0, .ref (K.2.1.1 + 69)), (2, .int x2_23), (3, .int v.1)] [] v.2) ?_ FU _ hx_25
    intro v rr_25 hf hn_25 hz_25
    obtain ⟨x3_24, M_25⟩ := v
    have hf : f_X10_leastTree_L25 x2_23 x3_24 M_25 = some rr_25 := hf
    show G K (0, 0) 25 [(0, .ref (K.2.1.1 + 69)), (2, .int x2_23), (3, .int x3_24)] [] M_25
    unfold f_X10_leastTree_L25 at hf
    refine g_iload_n 2 C (ckD_get k_X10_leastTree_0 17 rfl) rfl rfl ?_
    refine g_iload_n 1 C (ckD_get k_X10_leastTree_0 18 rfl) rfl rfl ?_
    refine g_icmp_ge C (ckD_get k_X10_leastTree_0 19 rfl) (fun c_30 => ?_) (fun c_30 => ?_)
    · have hf := if_t hf c_30
      refine G.sub [0] rfl ?_
      cases hf
      cases hz_25 _ rfl
      exact hE_25
    · have hf := if_f hf c_30
      refine g_iconst (v := (0 : Int32)) C (ckD_get k_X10_leastTree_0 20 rfl) (by decide) ?_
      refine g_istore (lv' := [(4, _), (0, _), (2, _), (3, _)]) C (ckD_get k_X10_leastTree_0 21 rfl) hL4 rfl ?_
      refine G.sub [1, 2, 3, 0] rfl ?_
      obtain ⟨M_33, hx_33, hf⟩ := bd_e hf
      have hE_33 : G K (0, 0) 70 [(0, .ref (K.2.1.1 + 69)), (2, .int x2_23), (3, .int x3_24)] [] M_33 := by
        have hf : f_X10_leastTree_A33 x3_24 M_33 = some rr_25 := hf
        unfold f_X10_leastTree_A33 at hf
        refine g_aload_n 0 C (ckD_get k_X10_leastTree_1 4 rfl) rfl rfl ?_
        obtain ⟨r_36, M_35, hr_34, hf⟩ := bd2_e hf
        refine n_cV [] [] C (ckD_get k_X10_leastTree_1 5 rfl) vk_X10_304 (t_X10_makeTree C.tr _ _ hr_34) T69 rfl rfl (Nat.le_of_ble_eq_true rfl) (by decide) hB rfl ?_
        have hJ_134 : ∀ (M_37 : Mm), f_X10_leastTree_J134 x3_24 M_37 = some rr_25 → G K (0, 0) 134 [(0, .ref (K.2.1.1 + 69)), (2, .int x2_23), (3, .int x3_24)] [] M_37 := by
          intro M_37 hf
          unfold f_X10_leastTree_J134 at hf
          obtain ⟨x3_38, ex3_38, hf⟩ := lt_e hf
          refine g_iinc (lv' := [(3, _), (0, _), (2, _)]) 2 C (ckD_get k_X10_leastTree_1 36 rfl) rfl ex3_38 hL3 rfl ?_
          refine g_goto C (ckD_get k_X10_leastTree_1 37 rfl) ?_
          refine G.sub [1, 2, 0] rfl ?_
          cases hf
          exact hn_25 _ rfl
        refine g_if_eq C (ckD_get k_X10_leastTree_1 6 rfl) (fun c_39 => ?_) (fun c_39 => ?_)
        · have hf := if_t hf c_39
          exact hJ_134 _ hf
        · have hf := if_f hf c_39
          refine g_aload_n 0 C (ckD_get k_X10_leastTree_1 7 rfl) rfl rfl ?_
          refine g_iconst (v := (3 : Int32)) C (ckD_get k_X10_leastTree_1 8 rfl) (by decide) ?_
          obtain ⟨r_42, M_41, hr_40, hf⟩ := bd2_e hf
          refine n_cV [.int (3 : Int32)] [] C (ckD_get k_X10_leastTree_1 9 rfl) vk_X10_287 (t_X10_tryTurned C.tr _ _ _ hr_40) T69 rfl rfl (Nat.le_of_ble_eq_true rfl) (by decide) hB rfl ?_
          refine g_if_ne C (ckD_get k_X10_leastTree_1 10 rfl) (fun c_43 => ?_) (fun c_43 => ?_)
          · have hf := if_f hf c_43
            refine g_iconst (v := (0 : Int32)) C (ckD_get k_X10_leastTree_1 12 rfl) (by decide) ?_
            refine g_istore (lv' := [(4, _), (0, _), (2, _), (3, _)]) C (ckD_get k_X10_leastTree_1 13 rfl) hL4 rfl ?_
            refine G.sub [1, 2, 3, 0] rfl ?_
            obtain ⟨M_46, hx_91, hf⟩ := bd_e hf
            have hE_91 : G K (0, 0) 134 [(0, .ref (K.2.1.1 + 69)), (2, .int x2_23), (3, .int x3_24)] [] M_46 := by
              have hf : f_X10_leastTree_A91 x3_24 M_46 = some rr_25 := hf
              unfold f_X10_leastTree_A91 at hf
              exact hJ_134 _ hf
            refine loop_e (x := M_46) (P := fun (v : (Int32 × Mm)) => G K (0, 0) 91 [(0, .ref (K.2.1.1 + 69)), (2, .int x2_23), (3, .int x3_24), (4, .int v.1)] [] v.2) ?_ FU _ hx_91
            intro v rr_91 hf hn_91 hz_91
            obtain ⟨x4_44, M_45⟩ := v
            have hf : f_X10_leastTree_L91 x4_44 M_45 = some rr_91 := hf
            show G K (0, 0) 91 [(0, .ref (K.2.1.1 + 69)), (2, .int x2_23), (3, .int x3_24), (4, .int x4_44)] [] M_45
            unfold f_X10_leastTree_L91 at hf
            refine g_iload 3 C (ckD_get k_X10_leastTree_1 14 rfl) rfl ?_
            refine g_aload_n 0 C (ckD_get k_X10_leastTree_1 15 rfl) rfl rfl ?_
            refine g_getI C (ckD_get k_X10_leastTree_1 16 rfl) fk_X10_124 T69 rfl ?_
            refine g_icmp_ge C (ckD_get k_X10_leastTree_1 17 rfl) (fun c_47 => ?_) (fun c_47 => ?_)
            · have hf := if_t hf c_47
              refine G.sub [0, 1, 2] rfl ?_
              cases hf
              cases hz_91 _ rfl
              exact hE_91
            · have hf := if_f hf c_47
              refine g_aload_n 0 C (ckD_get k_X10_leastTree_1 18 rfl) rfl rfl ?_
              refine g_getR C (ckD_get k_X10_leastTree_1 19 rfl) fk_X10_99 T69 rfl ?_
              refine g_iload 3 C (ckD_get k_X10_leastTree_1 20 rfl) rfl ?_
              refine g_aload_n 0 C (ckD_get k_X10_leastTree_1 21 rfl) rfl rfl ?_
              refine g_getR C (ckD_get k_X10_leastTree_1 22 rfl) fk_X10_48 T69 rfl ?_
              refine g_iload 3 C (ckD_get k_X10_leastTree_1 23 rfl) rfl ?_
              obtain ⟨v_48, hi_49, ev_48, hf⟩ := rdI_e hf
              refine n_iald C (ckD_get k_X10_leastTree_1 24 rfl) T81 hi_49 ev_48 ?_
              obtain ⟨M_50, hi_51, eM_50, hf⟩ := wrI_e hf
              refine n_iast C (ckD_get k_X10_leastTree_1 25 rfl) T98 hi_51 eM_50 ?_
              refine g_aload_n 0 C (ckD_get k_X10_leastTree_1 26 rfl) rfl rfl ?_
              refine g_getR C (ckD_get k_X10_leastTree_1 27 rfl) fk_X10_111 T69 rfl ?_
              refine g_iload 3 C (ckD_get k_X10_leastTree_1 28 rfl) rfl ?_
              refine g_aload_n 0 C (ckD_get k_X10_leastTree_1 29 rfl) rfl rfl ?_
              refine g_getR C (ckD_get k_X10_leastTree_1 30 rfl) fk_X10_105 T69 rfl ?_
              refine g_iload 3 C (ckD_get k_X10_leastTree_1 31 rfl) rfl ?_
              obtain ⟨v_52, hi_53, ev_52, hf⟩ := rdI_e hf
              refine n_iald C (ckD_get k_X10_leastTree_1 32 rfl) T100 hi_53 ev_52 ?_
              obtain ⟨M_54, hi_55, eM_54, hf⟩ := wrI_e hf
              refine n_iast C (ckD_get k_X10_leastTree_1 33 rfl) T102 hi_55 eM_54 ?_
              obtain ⟨x4_56, ex4_56, hf⟩ := lt_e hf
              refine g_iinc (lv' := [(4, _), (0, _), (2, _), (3, _)]) 3 C (ckD_get k_X10_leastTree_1 34 rfl) rfl ex4_56 hL4 rfl ?_
              refine g_goto C (ckD_get k_X10_leastTree_1 35 rfl) ?_
              refine G.sub [1, 2, 3, 0] rfl ?_
              cases hf
              exact hn_91 _ rfl
          · have hf := if_t hf c_43
            refine g_goto C (ckD_get k_X10_leastTree_1 11 rfl) ?_
            exact hJ_134 _ hf
      refine loop_e (x := M_33) (P := fun (v : (Int32 × Mm)) => G K (0, 0) 33 [(0, .ref (K.2.1.1 + 69)), (2, .int x2_23), (3, .int x3_24), (4, .int v.1)] [] v.2) ?_ FU _ hx_33
      intro v rr_33 hf hn_33 hz_33
      obtain ⟨x4_31, M_32⟩ := v
      have hf : f_X10_leastTree_L33 x3_24 x4_31 M_32 = some rr_33 := hf
      show G K (0, 0) 33 [(0, .ref (K.2.1.1 + 69)), (2, .int x2_23), (3, .int x3_24), (4, .int x4_31)] [] M_32
      unfold f_X10_leastTree_L33 at hf
      refine g_iload 3 C (ckD_get k_X10_leastTree_0 22 rfl) rfl ?_
      refine g_aload_n 0 C (ckD_get k_X10_leastTree_0 23 rfl) rfl rfl ?_
      refine g_getI C (ckD_get k_X10_leastTree_0 24 rfl) fk_X10_124 T69 rfl ?_
      refine g_icmp_ge C (ckD_get k_X10_leastTree_0 25 rfl) (fun c_57 => ?_) (fun c_57 => ?_)
      · have hf := if_t hf c_57
        refine G.sub [0, 1, 2] rfl ?_
        cases hf
        cases hz_33 _ rfl
        exact hE_33
      · have hf := if_f hf c_57
        refine g_aload_n 0 C (ckD_get k_X10_leastTree_0 26 rfl) rfl rfl ?_
        refine g_getR C (ckD_get k_X10_leastTree_0 27 rfl) fk_X10_105 T69 rfl ?_
        refine g_iload 3 C (ckD_get k_X10_leastTree_0 28 rfl) rfl ?_
        refine g_iload_n 2 C (ckD_get k_X10_leastTree_0 29 rfl) rfl rfl ?_
        refine g_iconst (v := (2 : Int32)) C (ckD_get k_X10_leastTree_0 30 rfl) (by decide) ?_
        refine g_aload_n 0 C (ckD_get k_X10_leastTree_0 31 rfl) rfl rfl ?_
        refine g_getI C (ckD_get k_X10_leastTree_0 32 rfl) fk_X10_124 T69 rfl ?_
        refine g_iconst (v := (1 : Int32)) C (ckD_get k_X10_leastTree_0 33 rfl) (by decide) ?_
        refine g_isub C (ckD_get k_X10_leastTree_0 34 rfl) ?_
        refine g_iload 3 C (ckD_get k_X10_leastTree_0 35 rfl) rfl ?_
        refine g_isub C (ckD_get k_X10_leastTree_0 36 rfl) ?_
        refine g_imul C (ckD_get k_X10_leastTree_0 37 rfl) ?_
        refine g_ishr C (ckD_get k_X10_leastTree_0 38 rfl) ?_
        refine g_iconst (v := (3 : Int32)) C (ckD_get k_X10_leastTree_0 39 rfl) (by decide) ?_
        refine g_iand C (ckD_get k_X10_leastTree_1 0 rfl) ?_
        obtain ⟨M_58, hi_59, eM_58, hf⟩ := wrI_e hf
        refine n_iast C (ckD_get k_X10_leastTree_1 1 rfl) T100 hi_59 eM_58 ?_
        obtain ⟨x4_60, ex4_60, hf⟩ := lt_e hf
        refine g_iinc (lv' := [(4, _), (0, _), (2, _), (3, _)]) 3 C (ckD_get k_X10_leastTree_1 2 rfl) rfl ex4_60 hL4 rfl ?_
        refine g_goto C (ckD_get k_X10_leastTree_1 3 rfl) ?_
        refine G.sub [1, 2, 3, 0] rfl ?_
        cases hf
        exact hn_33 _ rfl

set_option maxRecDepth 20000 in
theorem k_X10_least_0 : ckD cX10_least [(0, .aload_n 0, 1, 1, 0), (1, .iconst 0, 1, 2, 0), (2, .putfield 121, 3, 5, 0), (5, .iload_n 1, 1, 6, 0), (6, .iconst 1, 1, 7, 0), (7, .if_icmp .lt 8, 3, 10, 15), (10, .iload_n 1, 1, 11, 0), (11, .iconst 3, 1, 12, 0), (12, .if_icmp .le 8, 3, 15, 20), (15, .aload_n 0, 1, 16, 0), (16, .invokevirtual 134, 3, 19, 0), (19, .ireturn, 1, 20, 0), (20, .aload_n 0, 1, 21, 0), (21, .getfield 124, 3, 24, 0), (24, .ifCond .eq 11, 3, 27, 35), (27, .aload_n 0, 1, 28, 0), (28, .getfield 124, 3, 31, 0), (31, .iconst 4, 1, 32, 0), (32, .if_icmp .le 5, 3, 35, 37), (35, .iconst (-1), 1, 36, 0), (36, .ireturn, 1, 37, 0), (37, .aload_n 0, 1, 38, 0), (38, .getfield 307, 3, 41, 0), (41, .bipush 60, 2, 43, 0), (43, .if_icmp .ne 6, 3, 46, 49), (46, .bipush (-2), 2, 48, 0), (48, .ireturn, 1, 49, 0), (49, .aload_n 0, 1, 50, 0), (50, .dup, 1, 51, 0), (51, .getfield 307, 3, 54, 0), (54, .iconst 1, 1, 55, 0), (55, .iadd, 1, 56, 0), (56, .putfield 307, 3, 59, 0), (59, .aload_n 0, 1, 60, 0), (60, .iconst (-1), 1, 61, 0), (61, .putfield 278, 3, 64, 0), (64, .iload_n 1, 1, 65, 0), (65, .iconst 1, 1, 66, 0), (66, .if_icmp .ne 10, 3, 69, 76), (69, .aload_n 0, 1, 70, 0)] = true := by decide +kernel
set_option maxRecDepth 20000 in
theorem k_X10_least_1 : ckD cX10_least [(70, .invokevirtual 310, 3, 73, 0), (73, .goto 50, 3, 76, 123), (76, .iload_n 1, 1, 77, 0), (77, .iconst 2, 1, 78, 0), (78, .if_icmp .ne 41, 3, 81, 119), (81, .aload_n 0, 1, 82, 0), (82, .iconst 0, 1, 83, 0), (83, .iconst 0, 1, 84, 0), (84, .iconst 0, 1, 85, 0), (85, .invokevirtual 297, 3, 88, 0), (88, .iconst 0, 1, 89, 0), (89, .istore_n 2, 1, 90, 0), (90, .iload_n 2, 1, 91, 0), (91, .aload_n 0, 1, 92, 0), (92, .invokevirtual 175, 3, 95, 0), (95, .if_icmp .ge 21, 3, 98, 116), (98, .aload_n 0, 1, 99, 0), (99, .getfield 39, 3, 102, 0), (102, .iload_n 2, 1, 103, 0), (103, .aload_n 0, 1, 104, 0), (104, .getfield 99, 3, 107, 0), (107, .iload_n 2, 1, 108, 0), (108, .iaload, 1, 109, 0), (109, .iastore, 1, 110, 0), (110, .iinc 2 1, 3, 113, 0), (113, .goto (-23), 3, 116, 90), (116, .goto 7, 3, 119, 123), (119, .aload_n 0, 1, 120, 0), (120, .invokevirtual 313, 3, 123, 0), (123, .aload_n 0, 1, 124, 0), (124, .aload_n 0, 1, 125, 0), (125, .getfield 281, 3, 128, 0), (128, .putfield 127, 3, 131, 0), (131, .iload_n 1, 1, 132, 0), (132, .iconst 1, 1, 133, 0), (133, .if_icmp .ne 10, 3, 136, 143), (136, .aload_n 0, 1, 137, 0), (137, .invokevirtual 172, 3, 140, 0), (140, .goto 19, 3, 143, 159), (143, .iload_n 1, 1, 144, 0)] = true := by decide +kernel
set_option maxRecDepth 20000 in
theorem k_X10_least_2 : ckD cX10_least [(144, .iconst 2, 1, 145, 0), (145, .if_icmp .ne 10, 3, 148, 155), (148, .aload_n 0, 1, 149, 0), (149, .invokevirtual 186, 3, 152, 0), (152, .goto 7, 3, 155, 159), (155, .aload_n 0, 1, 156, 0), (156, .invokevirtual 201, 3, 159, 0), (159, .aload_n 0, 1, 160, 0), (160, .getfield 278, 3, 163, 0), (163, .ireturn, 1, 164, 0)] = true := by decide +kernel
def f_X10_least_J15 (M_2 : Mm) : Option (Int32 × Mm) := lt1 (f_X10_fail M_2) fun z_5 => some (z_5.1, z_5.2)
def f_X10_least_J159 (M_15 : Mm) : Option (Int32 × Mm) := some ((M_15.1 69 39), M_15)
def f_X10_least_J123 (a1 : Int32) (M_13 : Mm) : Option (Int32 × Mm) := lt1 (wi M_13 69 7 (M_13.1 69 40)) fun M_14 => if a1 = (1 : Int32) then (f_X10_layPair M_14).bind fun M_23 => f_X10_least_J159 M_23 else if a1 = (2 : Int32) then (f_X10_layCuts M_14).bind fun M_21 => f_X10_least_J159 M_21 else (f_X10_layTree M_14).bind fun M_19 => f_X10_least_J159 M_19
def f_X10_least_A90 (a1 : Int32) (M_32 : Mm) : Option (Int32 × Mm) := f_X10_least_J123 a1 M_32
def f_X10_least_L90 (x2_30 : Int32) (M_31 : Mm) : Option ((Int32 × Mm) ⊕ Mm) := if (f_X10_rowSize M_31) ≤ x2_30 then some (.inr M_31) else rdI 23 M_31 98 x2_30 fun v_34 => wrI 23 M_31 78 x2_30 v_34 fun M_36 => lt1 (x2_30 + 1) fun x2_38 => some (.inl (x2_38, M_36))
def f_X10_least (a1 : Int32) (M : Mm) : Option (Int32 × Mm) := lt1 (wi M 69 0 (0 : Int32)) fun M_1 => if a1 < (1 : Int32) then f_X10_least_J15 M_1 else if a1 ≤ (3 : Int32) then (if (M_1.1 69 1) = 0 then some ((-1 : Int32), M_1) else if (M_1.1 69 1) ≤ (4 : Int32) then (if (M_1.1 69 41) = (60 : Int32) then some ((-2 : Int32), M_1) else lt1 (wi M_1 69 41 ((M_1.1 69 41) + (1 : Int32))) fun M_11 => lt1 (wi M_11 69 39 (-1 : Int32)) fun M_12 => if a1 = (1 : Int32) then (f_X10_leastPair M_12).bind fun M_40 => f_X10_least_J123 a1 M_40 else if a1 = (2 : Int32) then (f_X10_tryRows 30 (0 : Int32) (0 : Int32) (0 : Int32) M_12).bind fun M_29 => (loop (fun v => f_X10_least_L90 v.1 v.2) FU ((0 : Int32), M_29)).bind fun z => f_X10_least_A90 a1 z else (f_X10_leastTree M_12).bind fun M_27 => f_X10_least_J123 a1 M_27) else some ((-1 : Int32), M_1)) else f_X10_least_J15 M_1
set_option maxRecDepth 100000 in
set_option maxHeartbeats 4000000 in
theorem t_X10_least {E : Ev} {l : Launch} (htr : l.stackTraces = false) (a1 : Int32) (M : Mm) (r : (Int32 × Mm)) (hf : f_X10_least a1 M = some r) : CM E l 67 0 0 yX10_least cX10_least 3 (some .int) [.ref (E.1 + 69), .int a1] M (some (.int r.1)) r.2 := by
  refine CM.of htr (by decide +kernel) (Nat.le_of_ble_eq_true rfl) ?_
  intro K hE hL hl hR0 C hr hRv
  subst hE
  subst hl
  have C : Cx K cX10_least RX10 67 := C
  have hB : (0 : Nat) ≤ K.1.R.cells ∧ 0 ≤ K.1.R.slots := ⟨Nat.zero_le _, Nat.zero_le _⟩
  have hL2 : 2 < K.2.2.1 := by rw [hL]; decide
  show G K (0, 0) 0 [(0, .ref (K.2.1.1 + 69)), (1, .int a1)] [] M
  unfold f_X10_least at hf
  refine g_aload_n 0 C (ckD_get k_X10_least_0 0 rfl) rfl rfl ?_
  refine g_iconst (v := (0 : Int32)) C (ckD_get k_X10_least_0 1 rfl) (by decide) ?_
  obtain ⟨M_1, eM_1, hf⟩ := lt_e hf
  refine g_putI C (ckD_get k_X10_least_0 2 rfl) fk_X10_121 T69 rfl ?_
  refine memI eM_1 ?_
  refine g_iload_n 1 C (ckD_get k_X10_least_0 3 rfl) rfl rfl ?_
  refine g_iconst (v := (1 : Int32)) C (ckD_get k_X10_least_0 4 rfl) (by decide) ?_
  have hJ_15 : ∀ (M_2 : Mm), f_X10_least_J15 M_2 = some r → G K (0, 0) 15 [(0, .ref (K.2.1.1 + 69))] [] M_2 := by
    intro M_2 hf
    unfold f_X10_least_J15 at hf
    refine g_aload_n 0 C (ckD_get k_X10_least_0 9 rfl) rfl rfl ?_
    obtain ⟨z_5, ez_5, hf⟩ := lt_e hf
    refine n_cV [] [] C (ckD_get k_X10_least_0 10 rfl) vk_X10_134 (t_X10_fail C.tr _ _ ez_5) T69 rfl rfl (Nat.le_of_ble_eq_true rfl) (by decide) hB rfl ?_
    cases hf
    exact g_iret C (ckD_get k_X10_least_0 11 rfl) hr hRv (Nat.le_refl _) (Nat.le_refl _)
  refine g_icmp_lt C (ckD_get k_X10_least_0 5 rfl) (fun c_6 => ?_) (fun c_6 => ?_)
  · have hf := if_t hf c_6
    refine G.sub [0] rfl ?_
    exact hJ_15 _ hf
  · have hf := if_f hf c_6
    refine g_iload_n 1 C (ckD_get k_X10_least_0 6 rfl) rfl rfl ?_
    refine g_iconst (v := (3 : Int32)) C (ckD_get k_X10_least_0 7 rfl) (by decide) ?_
    refine g_icmp_le C (ckD_get k_X10_least_0 8 rfl) (fun c_7 => ?_) (fun c_7 => ?_)
    · have hf := if_t hf c_7
      refine g_aload_n 0 C (ckD_get k_X10_least_0 12 rfl) rfl rfl ?_
      refine g_getI C (ckD_get k_X10_least_0 13 rfl) fk_X10_124 T69 rfl ?_
      refine g_if_eq C (ckD_get k_X10_least_0 14 rfl) (fun c_8 => ?_) (fun c_8 => ?_)
      · have hf := if_t hf c_8
        refine g_iconst (v := (-1 : Int32)) C (ckD_get k_X10_least_0 19 rfl) (by decide) ?_
        cases hf
        exact g_iret C (ckD_get k_X10_least_0 20 rfl) hr hRv (Nat.le_refl _) (Nat.le_refl _)
      · have hf := if_f hf c_8
        refine g_aload_n 0 C (ckD_get k_X10_least_0 15 rfl) rfl rfl ?_
        refine g_getI C (ckD_get k_X10_least_0 16 rfl) fk_X10_124 T69 rfl ?_
        refine g_iconst (v := (4 : Int32)) C (ckD_get k_X10_least_0 17 rfl) (by decide) ?_
        refine g_icmp_le C (ckD_get k_X10_least_0 18 rfl) (fun c_9 => ?_) (fun c_9 => ?_)
        · have hf := if_t hf c_9
          refine g_aload_n 0 C (ckD_get k_X10_least_0 21 rfl) rfl rfl ?_
          refine g_getI C (ckD_get k_X10_least_0 22 rfl) fk_X10_307 T69 rfl ?_
          refine g_bipush (v := (60 : Int32)) C (ckD_get k_X10_least_0 23 rfl) (by decide) ?_
          refine g_icmp_ne C (ckD_get k_X10_least_0 24 rfl) (fun c_10 => ?_) (fun c_10 => ?_)
          · have hf := if_f hf c_10
            refine g_aload_n 0 C (ckD_get k_X10_least_0 27 rfl) rfl rfl ?_
            refine g_dup C (ckD_get k_X10_least_0 28 rfl) rfl ?_
            refine g_getI C (ckD_get k_X10_least_0 29 rfl) fk_X10_307 T69 rfl ?_
            refine g_iconst (v := (1 : Int32)) C (ckD_get k_X10_least_0 30 rfl) (by decide) ?_
            refine g_iadd C (ckD_get k_X10_least_0 31 rfl) ?_
            obtain ⟨M_11, eM_11, hf⟩ := lt_e hf
            refine g_putI C (ckD_get k_X10_least_0 32 rfl) fk_X10_307 T69 rfl ?_
            refine memI eM_11 ?_
            refine g_aload_n 0 C (ckD_get k_X10_least_0 33 rfl) rfl rfl ?_
            refine g_iconst (v := (-1 : Int32)) C (ckD_get k_X10_least_0 34 rfl) (by decide) ?_
            obtain ⟨M_12, eM_12, hf⟩ := lt_e hf
            refine g_putI C (ckD_get k_X10_least_0 35 rfl) fk_X10_278 T69 rfl ?_
            refine memI eM_12 ?_
            refine g_iload_n 1 C (ckD_get k_X10_least_0 36 rfl) rfl rfl ?_
            refine g_iconst (v := (1 : Int32)) C (ckD_get k_X10_least_0 37 rfl) (by decide) ?_
            have hJ_123 : ∀ (M_13 : Mm), f_X10_least_J123 a1 M_13 = some r → G K (0, 0) 123 [(0, .ref (K.2.1.1 + 69)), (1, .int a1)] [] M_13 := by
              intro M_13 hf
              unfold f_X10_least_J123 at hf
              refine g_aload_n 0 C (ckD_get k_X10_least_1 29 rfl) rfl rfl ?_
              refine g_aload_n 0 C (ckD_get k_X10_least_1 30 rfl) rfl rfl ?_
              refine g_getI C (ckD_get k_X10_least_1 31 rfl) fk_X10_281 T69 rfl ?_
              obtain ⟨M_14, eM_14, hf⟩ := lt_e hf
              refine g_putI C (ckD_get k_X10_least_1 32 rfl) fk_X10_127 T69 rfl ?_
              refine memI eM_14 ?_
              refine g_iload_n 1 C (ckD_get k_X10_least_1 33 rfl) rfl rfl ?_
              refine g_iconst (v := (1 : Int32)) C (ckD_get k_X10_least_1 34 rfl) (by decide) ?_
              have hJ_159 : ∀ (M_15 : Mm), f_X10_least_J159 M_15 = some r → G K (0, 0) 159 [(0, .ref (K.2.1.1 + 69))] [] M_15 := by
                intro M_15 hf
                unfold f_X10_least_J159 at hf
                refine g_aload_n 0 C (ckD_get k_X10_least_2 7 rfl) rfl rfl ?_
                refine g_getI C (ckD_get k_X10_least_2 8 rfl) fk_X10_278 T69 rfl ?_
                cases hf
                exact g_iret C (ckD_get k_X10_least_2 9 rfl) hr hRv (Nat.le_refl _) (Nat.le_refl _)
              refine g_icmp_ne C (ckD_get k_X10_least_1 35 rfl) (fun c_16 => ?_) (fun c_16 => ?_)
              · have hf := if_f hf c_16
                refine g_iload_n 1 C (ckD_get k_X10_least_1 39 rfl) rfl rfl ?_
                refine g_iconst (v := (2 : Int32)) C (ckD_get k_X10_least_2 0 rfl) (by decide) ?_
                refine g_icmp_ne C (ckD_get k_X10_least_2 1 rfl) (fun c_17 => ?_) (fun c_17 => ?_)
                · have hf := if_f hf c_17
                  refine g_aload_n 0 C (ckD_get k_X10_least_2 5 rfl) rfl rfl ?_
                  obtain ⟨M_19, hr_18, hf⟩ := bd_e hf
                  refine n_cV [] [] C (ckD_get k_X10_least_2 6 rfl) vk_X10_201 (t_X10_layTree C.tr _ _ hr_18) T69 rfl rfl (Nat.le_of_ble_eq_true rfl) (by decide) hB rfl ?_
                  refine G.sub [0] rfl ?_
                  exact hJ_159 _ hf
                · have hf := if_t hf c_17
                  refine g_aload_n 0 C (ckD_get k_X10_least_2 2 rfl) rfl rfl ?_
                  obtain ⟨M_21, hr_20, hf⟩ := bd_e hf
                  refine n_cV [] [] C (ckD_get k_X10_least_2 3 rfl) vk_X10_186 (t_X10_layCuts C.tr _ _ hr_20) T69 rfl rfl (Nat.le_of_ble_eq_true rfl) (by decide) hB rfl ?_
                  refine g_goto C (ckD_get k_X10_least_2 4 rfl) ?_
                  refine G.sub [0] rfl ?_
                  exact hJ_159 _ hf
              · have hf := if_t hf c_16
                refine g_aload_n 0 C (ckD_get k_X10_least_1 36 rfl) rfl rfl ?_
                obtain ⟨M_23, hr_22, hf⟩ := bd_e hf
                refine n_cV [] [] C (ckD_get k_X10_least_1 37 rfl) vk_X10_172 (t_X10_layPair C.tr _ _ hr_22) T69 rfl rfl (Nat.le_of_ble_eq_true rfl) (by decide) hB rfl ?_
                refine g_goto C (ckD_get k_X10_least_1 38 rfl) ?_
                refine G.sub [0] rfl ?_
                exact hJ_159 _ hf
            refine g_icmp_ne C (ckD_get k_X10_least_0 38 rfl) (fun c_24 => ?_) (fun c_24 => ?_)
            · have hf := if_f hf c_24
              refine g_iload_n 1 C (ckD_get k_X10_least_1 2 rfl) rfl rfl ?_
              refine g_iconst (v := (2 : Int32)) C (ckD_get k_X10_least_1 3 rfl) (by decide) ?_
              refine g_icmp_ne C (ckD_get k_X10_least_1 4 rfl) (fun c_25 => ?_) (fun c_25 => ?_)
              · have hf := if_f hf c_25
                refine g_aload_n 0 C (ckD_get k_X10_least_1 27 rfl) rfl rfl ?_
                obtain ⟨M_27, hr_26, hf⟩ := bd_e hf
                refine n_cV [] [] C (ckD_get k_X10_least_1 28 rfl) vk_X10_313 (t_X10_leastTree C.tr _ _ hr_26) T69 rfl rfl (Nat.le_of_ble_eq_true rfl) (by decide) hB rfl ?_
                exact hJ_123 _ hf
              · have hf := if_t hf c_25
                refine g_aload_n 0 C (ckD_get k_X10_least_1 5 rfl) rfl rfl ?_
                refine g_iconst (v := (0 : Int32)) C (ckD_get k_X10_least_1 6 rfl) (by decide) ?_
                refine g_iconst (v := (0 : Int32)) C (ckD_get k_X10_least_1 7 rfl) (by decide) ?_
                refine g_iconst (v := (0 : Int32)) C (ckD_get k_X10_least_1 8 rfl) (by decide) ?_
                obtain ⟨M_29, hr_28, hf⟩ := bd_e hf
                refine n_cV [.int (0 : Int32), .int (0 : Int32), .int (0 : Int32)] [] C (ckD_get k_X10_least_1 9 rfl) vk_X10_297 (t_X10_tryRows C.tr 30 _ _ _ _ _ hr_28) T69 rfl rfl (Nat.le_of_ble_eq_true rfl) (by decide) hB rfl ?_
                refine g_iconst (v := (0 : Int32)) C (ckD_get k_X10_least_1 10 rfl) (by decide) ?_
                refine g_istore_n (lv' := [(2, _), (0, _), (1, _)]) C (ckD_get k_X10_least_1 11 rfl) rfl hL2 rfl ?_
                refine G.sub [1, 2, 0] rfl ?_
                obtain ⟨M_32, hx_90, hf⟩ := bd_e hf
                have hE_90 : G K (0, 0) 116 [(0, .ref (K.2.1.1 + 69)), (1, .int a1)] [] M_32 := by
                  have hf : f_X10_least_A90 a1 M_32 = some r := hf
                  unfold f_X10_least_A90 at hf
                  refine g_goto C (ckD_get k_X10_least_1 26 rfl) ?_
                  exact hJ_123 _ hf
                refine loop_e (x := M_32) (P := fun (v : (Int32 × Mm)) => G K (0, 0) 90 [(0, .ref (K.2.1.1 + 69)), (1, .int a1), (2, .int v.1)] [] v.2) ?_ FU _ hx_90
                intro v rr_90 hf hn_90 hz_90
                obtain ⟨x2_30, M_31⟩ := v
                have hf : f_X10_least_L90 x2_30 M_31 = some rr_90 := hf
                show G K (0, 0) 90 [(0, .ref (K.2.1.1 + 69)), (1, .int a1), (2, .int x2_30)] [] M_31
                unfold f_X10_least_L90 at hf
                refine g_iload_n 2 C (ckD_get k_X10_least_1 12 rfl) rfl rfl ?_
                refine g_aload_n 0 C (ckD_get k_X10_least_1 13 rfl) rfl rfl ?_
                refine n_cV [] [.int x2_30] C (ckD_get k_X10_least_1 14 rfl) vk_X10_175 (t_X10_rowSize C.tr _ _ rfl) T69 rfl rfl (Nat.le_of_ble_eq_true rfl) (by decide) hB rfl ?_
                refine g_icmp_ge C (ckD_get k_X10_least_1 15 rfl) (fun c_33 => ?_) (fun c_33 => ?_)
                · have hf := if_t hf c_33
                  refine G.sub [0, 1] rfl ?_
                  cases hf
                  cases hz_90 _ rfl
                  exact hE_90
                · have hf := if_f hf c_33
                  refine g_aload_n 0 C (ckD_get k_X10_least_1 16 rfl) rfl rfl ?_
                  refine g_getR C (ckD_get k_X10_least_1 17 rfl) fk_X10_39 T69 rfl ?_
                  refine g_iload_n 2 C (ckD_get k_X10_least_1 18 rfl) rfl rfl ?_
                  refine g_aload_n 0 C (ckD_get k_X10_least_1 19 rfl) rfl rfl ?_
                  refine g_getR C (ckD_get k_X10_least_1 20 rfl) fk_X10_99 T69 rfl ?_
                  refine g_iload_n 2 C (ckD_get k_X10_least_1 21 rfl) rfl rfl ?_
                  obtain ⟨v_34, hi_35, ev_34, hf⟩ := rdI_e hf
                  refine n_iald C (ckD_get k_X10_least_1 22 rfl) T98 hi_35 ev_34 ?_
                  obtain ⟨M_36, hi_37, eM_36, hf⟩ := wrI_e hf
                  refine n_iast C (ckD_get k_X10_least_1 23 rfl) T78 hi_37 eM_36 ?_
                  obtain ⟨x2_38, ex2_38, hf⟩ := lt_e hf
                  refine g_iinc (lv' := [(2, _), (0, _), (1, _)]) 2 C (ckD_get k_X10_least_1 24 rfl) rfl ex2_38 hL2 rfl ?_
                  refine g_goto C (ckD_get k_X10_least_1 25 rfl) ?_
                  refine G.sub [1, 2, 0] rfl ?_
                  cases hf
                  exact hn_90 _ rfl
            · have hf := if_t hf c_24
              refine g_aload_n 0 C (ckD_get k_X10_least_0 39 rfl) rfl rfl ?_
              obtain ⟨M_40, hr_39, hf⟩ := bd_e hf
              refine n_cV [] [] C (ckD_get k_X10_least_1 0 rfl) vk_X10_310 (t_X10_leastPair C.tr _ _ hr_39) T69 rfl rfl (Nat.le_of_ble_eq_true rfl) (by decide) hB rfl ?_
              refine g_goto C (ckD_get k_X10_least_1 1 rfl) ?_
              exact hJ_123 _ hf
          · have hf := if_t hf c_10
            refine g_bipush (v := (-2 : Int32)) C (ckD_get k_X10_least_0 25 rfl) (by decide) ?_
            cases hf
            exact g_iret C (ckD_get k_X10_least_0 26 rfl) hr hRv (Nat.le_refl _) (Nat.le_refl _)
        · have hf := if_f hf c_9
          refine g_iconst (v := (-1 : Int32)) C (ckD_get k_X10_least_0 19 rfl) (by decide) ?_
          cases hf
          exact g_iret C (ckD_get k_X10_least_0 20 rfl) hr hRv (Nat.le_refl _) (Nat.le_refl _)
    · have hf := if_f hf c_7
      refine G.sub [0] rfl ?_
      exact hJ_15 _ hf
