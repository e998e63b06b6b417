set_option maxRecDepth 20000 in
theorem k_X4_fill_0 : ckD cX4_fill [(0, .iconst 1, 1, 1, 0), (1, .aload_n 0, 1, 2, 0), (2, .getfield 31, 3, 5, 0), (5, .ishl, 1, 6, 0), (6, .iconst 1, 1, 7, 0), (7, .isub, 1, 8, 0), (8, .istore 4, 2, 10, 0), (10, .lload_n 2, 1, 11, 0), (11, .lstore 5, 2, 13, 0), (13, .iconst 0, 1, 14, 0), (14, .istore 7, 2, 16, 0), (16, .iload 7, 2, 18, 0), (18, .aload_n 0, 1, 19, 0), (19, .getfield 31, 3, 22, 0), (22, .if_icmp .ge 73, 3, 25, 95), (25, .aload_n 0, 1, 26, 0), (26, .getfield 31, 3, 29, 0), (29, .iconst 1, 1, 30, 0), (30, .isub, 1, 31, 0), (31, .iload 7, 2, 33, 0), (33, .isub, 1, 34, 0), (34, .invokestatic 106, 3, 37, 0), (37, .lstore 8, 2, 39, 0), (39, .iconst 0, 1, 40, 0), (40, .istore 10, 2, 42, 0), (42, .lload 8, 2, 44, 0), (44, .lconst 0, 1, 45, 0), (45, .lcmp, 1, 46, 0), (46, .ifCond .le 18, 3, 49, 64), (49, .lload 5, 2, 51, 0), (51, .lload 8, 2, 53, 0), (53, .ldiv, 1, 54, 0), (54, .l2i, 1, 55, 0), (55, .istore 10, 2, 57, 0), (57, .lload 5, 2, 59, 0), (59, .lload 8, 2, 61, 0), (61, .lrem, 1, 62, 0), (62, .lstore 5, 2, 64, 0), (64, .aload_n 1, 1, 65, 0), (65, .iload 7, 2, 67, 0)] = true := by decide +kernel
set_option maxRecDepth 20000 in
theorem k_X4_fill_1 : ckD cX4_fill [(67, .aload_n 0, 1, 68, 0), (68, .iload 4, 2, 70, 0), (70, .iload 10, 2, 72, 0), (72, .invokevirtual 99, 3, 75, 0), (75, .iastore, 1, 76, 0), (76, .iload 4, 2, 78, 0), (78, .iconst 1, 1, 79, 0), (79, .aload_n 1, 1, 80, 0), (80, .iload 7, 2, 82, 0), (82, .iaload, 1, 83, 0), (83, .ishl, 1, 84, 0), (84, .iconst (-1), 1, 85, 0), (85, .ixor, 1, 86, 0), (86, .iand, 1, 87, 0), (87, .istore 4, 2, 89, 0), (89, .iinc 7 1, 3, 92, 0), (92, .goto (-76), 3, 95, 16), (95, .return_, 1, 96, 0)] = true := by decide +kernel
def f_X4_fill_A16 (M_6 : Mm) : Option Mm := some M_6
def f_X4_fill_J64 (k0 : Nat) (k1 : Nat) (x4_2 : Int32) (x7_4 : Int32) (M_5 : Mm) (p5_10 : Int64) (p10_11 : Int32) : Option ((Int32 × Int64 × Int32 × Mm) ⊕ Mm) := (f_X4_nthOf k0 x4_2 p10_11 M_5).bind fun r_13 => wrI 12 M_5 k1 x7_4 r_13 fun M_14 => rdI 12 M_14 k1 x7_4 fun v_16 => lt1 (x4_2 &&& (((1 : Int32) <<< (v_16 &&& 31)) ^^^ (-1 : Int32))) fun x4_18 => lt1 (x7_4 + 1) fun x7_19 => some (.inl (x4_18, p5_10, x7_19, M_14))
def f_X4_fill_L16 (k0 : Nat) (k1 : Nat) (x4_2 : Int32) (x5_3 : Int64) (x7_4 : Int32) (M_5 : Mm) : Option ((Int32 × Int64 × Int32 × Mm) ⊕ Mm) := if (M_5.1 k0 5) ≤ x7_4 then some (.inr M_5) else (f_X9_factorial (((M_5.1 k0 5) - (1 : Int32)) - x7_4) M_5).bind fun r_9 => if (lg_cmp r_9 (0 : Int64)) ≤ 0 then f_X4_fill_J64 k0 k1 x4_2 x7_4 M_5 x5_3 (0 : Int32) else gd (decide (¬ r_9 = 0)) <| lt1 (((x5_3 / r_9)).toInt32) fun x10_22 => gd (decide (¬ r_9 = 0)) <| lt1 (x5_3 - x5_3 / r_9 * r_9) fun x5_24 => f_X4_fill_J64 k0 k1 x4_2 x7_4 M_5 x5_24 x10_22
def f_X4_fill (k0 : Nat) (k1 : Nat) (a2 : Int64) (M : Mm) : Option Mm := lt1 (((1 : Int32) <<< ((M.1 k0 5) &&& 31)) - (1 : Int32)) fun x4_1 => (loop (fun v => f_X4_fill_L16 k0 k1 v.1 v.2.1 v.2.2.1 v.2.2.2) FU (x4_1, a2, (0 : Int32), M)).bind fun z => f_X4_fill_A16 z
set_option maxRecDepth 100000 in
set_option maxHeartbeats 4000000 in
theorem t_X4_fill {E : Ev} {l : Launch} (htr : l.stackTraces = false) (k0 : Nat) (hk0 : isOr k0) (k1 : Nat) (hk1 : LT[k1]? = some (0, 12, [])) (a2 : Int64) (M : Mm) (r : Mm) (hf : f_X4_fill k0 k1 a2 M = some r) : CM E l 2 0 0 yX4_fill cX4_fill 11 none [.ref (E.1 + k0), .ref (E.1 + k1), .long a2] M none r := by
  refine CM.of htr (by decide +kernel) (Nat.le_of_ble_eq_true rfl) ?_
  intro K hE hL hl hR0 C hr hRv
  subst hE
  subst hl
  have C : Cx K cX4_fill RX4 2 := C
  have hB : (0 : Nat) ≤ K.1.R.cells ∧ 0 ≤ K.1.R.slots := ⟨Nat.zero_le _, Nat.zero_le _⟩
  have hL4 : 4 < K.2.2.1 := by rw [hL]; decide
  have hL6 : 6 < K.2.2.1 := by rw [hL]; decide
  have hL7 : 7 < K.2.2.1 := by rw [hL]; decide
  have hL9 : 9 < K.2.2.1 := by rw [hL]; decide
  have hL10 : 10 < K.2.2.1 := by rw [hL]; decide
  show G K (0, 0) 0 [(0, .ref (K.2.1.1 + k0)), (1, .ref (K.2.1.1 + k1)), (2, .long a2)] [] M
  unfold f_X4_fill at hf
  refine g_iconst (v := (1 : Int32)) C (ckD_get k_X4_fill_0 0 rfl) (by decide) ?_
  refine g_aload_n 0 C (ckD_get k_X4_fill_0 1 rfl) rfl rfl ?_
  refine g_getI C (ckD_get k_X4_fill_0 2 rfl) fk_X4_31 (T_Or hk0) rfl ?_
  refine g_ishl C (ckD_get k_X4_fill_0 3 rfl) ?_
  refine g_iconst (v := (1 : Int32)) C (ckD_get k_X4_fill_0 4 rfl) (by decide) ?_
  refine g_isub C (ckD_get k_X4_fill_0 5 rfl) ?_
  obtain ⟨x4_1, ex4_1, hf⟩ := lt_e hf
  refine topI ex4_1 ?_
  refine g_istore (lv' := [(4, _), (0, _), (1, _), (2, _)]) C (ckD_get k_X4_fill_0 6 rfl) hL4 rfl ?_
  refine g_lload_n 3 C (ckD_get k_X4_fill_0 7 rfl) rfl rfl ?_
  refine g_lstore (lv' := [(5, _), (4, _), (0, _), (1, _), (2, _)]) C (ckD_get k_X4_fill_0 8 rfl) hL6 rfl ?_
  refine g_iconst (v := (0 : Int32)) C (ckD_get k_X4_fill_0 9 rfl) (by decide) ?_
  refine g_istore (lv' := [(7, _), (5, _), (4, _), (0, _), (1, _), (2, _)]) C (ckD_get k_X4_fill_0 10 rfl) hL7 rfl ?_
  refine G.sub [3, 4, 2, 1, 0] rfl ?_
  obtain ⟨M_6, hx_16, hf⟩ := bd_e hf
  have hE_16 : G K (0, 0) 95 [] [] M_6 := by
    have hf : f_X4_fill_A16 M_6 = some r := hf
    unfold f_X4_fill_A16 at hf
    cases hf
    exact g_vret C (ckD_get k_X4_fill_1 17 rfl) hr hRv (Nat.le_refl _) (Nat.le_refl _)
  refine loop_e (x := M_6) (P := fun (v : (Int32 × Int64 × Int32 × Mm)) => G K (0, 0) 16 [(0, .ref (K.2.1.1 + k0)), (1, .ref (K.2.1.1 + k1)), (4, .int v.1), (5, .long v.2.1), (7, .int v.2.2.1)] [] v.2.2.2) ?_ FU _ hx_16
  intro v rr_16 hf hn_16 hz_16
  obtain ⟨x4_2, x5_3, x7_4, M_5⟩ := v
  have hf : f_X4_fill_L16 k0 k1 x4_2 x5_3 x7_4 M_5 = some rr_16 := hf
  show G K (0, 0) 16 [(0, .ref (K.2.1.1 + k0)), (1, .ref (K.2.1.1 + k1)), (4, .int x4_2), (5, .long x5_3), (7, .int x7_4)] [] M_5
  unfold f_X4_fill_L16 at hf
  refine g_iload 4 C (ckD_get k_X4_fill_0 11 rfl) rfl ?_
  refine g_aload_n 0 C (ckD_get k_X4_fill_0 12 rfl) rfl rfl ?_
  refine g_getI C (ckD_get k_X4_fill_0 13 rfl) fk_X4_31 (T_Or hk0) rfl ?_
  refine g_icmp_ge C (ckD_get k_X4_fill_0 14 rfl) (fun c_7 => ?_) (fun c_7 => ?_)
  · have hf := if_t hf c_7
    refine G.sub [] rfl ?_
    cases hf
    cases hz_16 _ rfl
    exact hE_16
  · have hf := if_f hf c_7
    refine g_aload_n 0 C (ckD_get k_X4_fill_0 15 rfl) rfl rfl ?_
    refine g_getI C (ckD_get k_X4_fill_0 16 rfl) fk_X4_31 (T_Or hk0) rfl ?_
    refine g_iconst (v := (1 : Int32)) C (ckD_get k_X4_fill_0 17 rfl) (by decide) ?_
    refine g_isub C (ckD_get k_X4_fill_0 18 rfl) ?_
    refine g_iload 4 C (ckD_get k_X4_fill_0 19 rfl) rfl ?_
    refine g_isub C (ckD_get k_X4_fill_0 20 rfl) ?_
    obtain ⟨r_9, hr_8, hf⟩ := bd_e hf
    refine n_cN [.int (((M_5.1 k0 5) - (1 : Int32)) - x7_4)] [] C (ckD_get k_X4_fill_0 21 rfl) nk_X4_106 (t_X9_factorial C.tr _ _ _ hr_8) rfl rfl (Nat.le_of_ble_eq_true rfl) (by decide) hB rfl ?_
    refine g_lstore (lv' := [(8, _), (0, _), (1, _), (4, _), (5, _), (7, _)]) C (ckD_get k_X4_fill_0 22 rfl) hL9 rfl ?_
    refine g_iconst (v := (0 : Int32)) C (ckD_get k_X4_fill_0 23 rfl) (by decide) ?_
    refine g_istore (lv' := [(10, _), (8, _), (0, _), (1, _), (4, _), (5, _), (7, _)]) C (ckD_get k_X4_fill_0 24 rfl) hL10 rfl ?_
    refine g_lload 1 C (ckD_get k_X4_fill_0 25 rfl) rfl ?_
    refine g_lconst (v := (0 : Int64)) C (ckD_get k_X4_fill_0 26 rfl) (by decide) ?_
    refine g_lcmp C (ckD_get k_X4_fill_0 27 rfl) ?_
    have hJ_64 : ∀ (p5_10 : Int64) (p10_11 : Int32), f_X4_fill_J64 k0 k1 x4_2 x7_4 M_5 p5_10 p10_11 = some rr_16 → G K (0, 0) 64 [(0, .ref (K.2.1.1 + k0)), (1, .ref (K.2.1.1 + k1)), (4, .int x4_2), (5, .long p5_10), (7, .int x7_4), (10, .int p10_11)] [] M_5 := by
      intro p5_10 p10_11 hf
      unfold f_X4_fill_J64 at hf
      refine g_aload_n 1 C (ckD_get k_X4_fill_0 38 rfl) rfl rfl ?_
      refine g_iload 4 C (ckD_get k_X4_fill_0 39 rfl) rfl ?_
      refine g_aload_n 0 C (ckD_get k_X4_fill_1 0 rfl) rfl rfl ?_
      refine g_iload 2 C (ckD_get k_X4_fill_1 1 rfl) rfl ?_
      refine g_iload 5 C (ckD_get k_X4_fill_1 2 rfl) rfl ?_
      obtain ⟨r_13, hr_12, hf⟩ := bd_e hf
      refine n_cV [.int x4_2, .int p10_11] [.int x7_4, .ref (K.2.1.1 + k1)] C (ckD_get k_X4_fill_1 3 rfl) vk_X4_99 (t_X4_nthOf C.tr _ hk0 _ _ _ _ hr_12) (T_Or hk0) rfl rfl (Nat.le_of_ble_eq_true rfl) (by decide) hB rfl ?_
      obtain ⟨M_14, hi_15, eM_14, hf⟩ := wrI_e hf
      refine n_iast C (ckD_get k_X4_fill_1 4 rfl) hk1 hi_15 eM_14 ?_
      refine g_iload 2 C (ckD_get k_X4_fill_1 5 rfl) rfl ?_
      refine g_iconst (v := (1 : Int32)) C (ckD_get k_X4_fill_1 6 rfl) (by decide) ?_
      refine g_aload_n 1 C (ckD_get k_X4_fill_1 7 rfl) rfl rfl ?_
      refine g_iload 4 C (ckD_get k_X4_fill_1 8 rfl) rfl ?_
      obtain ⟨v_16, hi_17, ev_16, hf⟩ := rdI_e hf
      refine n_iald C (ckD_get k_X4_fill_1 9 rfl) hk1 hi_17 ev_16 ?_
      refine g_ishl C (ckD_get k_X4_fill_1 10 rfl) ?_
      refine g_iconst (v := (-1 : Int32)) C (ckD_get k_X4_fill_1 11 rfl) (by decide) ?_
      refine g_ixor C (ckD_get k_X4_fill_1 12 rfl) ?_
      refine g_iand C (ckD_get k_X4_fill_1 13 rfl) ?_
      obtain ⟨x4_18, ex4_18, hf⟩ := lt_e hf
      refine topI ex4_18 ?_
      refine g_istore (lv' := [(4, _), (0, _), (1, _), (5, _), (7, _), (10, _)]) C (ckD_get k_X4_fill_1 14 rfl) hL4 rfl ?_
      obtain ⟨x7_19, ex7_19, hf⟩ := lt_e hf
      refine g_iinc (lv' := [(7, _), (4, _), (0, _), (1, _), (5, _), (10, _)]) 4 C (ckD_get k_X4_fill_1 15 rfl) rfl ex7_19 hL7 rfl ?_
      refine g_goto C (ckD_get k_X4_fill_1 16 rfl) ?_
      refine G.sub [2, 3, 1, 4, 0] rfl ?_
      cases hf
      exact hn_16 _ rfl
    refine g_if_le C (ckD_get k_X4_fill_0 28 rfl) (fun c_20 => ?_) (fun c_20 => ?_)
    · have hf := if_t hf c_20
      refine G.sub [2, 3, 4, 5, 6, 0] rfl ?_
      exact hJ_64 _ _ hf
    · have hf := if_f hf c_20
      refine g_lload 5 C (ckD_get k_X4_fill_0 29 rfl) rfl ?_
      refine g_lload 1 C (ckD_get k_X4_fill_0 30 rfl) rfl ?_
      obtain ⟨hg_21, hf⟩ := gd_e hf
      refine g_ldiv C (ckD_get k_X4_fill_0 31 rfl) (of_decide_eq_true hg_21) ?_
      refine g_l2i C (ckD_get k_X4_fill_0 32 rfl) ?_
      obtain ⟨x10_22, ex10_22, hf⟩ := lt_e hf
      refine topI ex10_22 ?_
      refine g_istore (lv' := [(10, _), (8, _), (0, _), (1, _), (4, _), (5, _), (7, _)]) C (ckD_get k_X4_fill_0 33 rfl) hL10 rfl ?_
      refine g_lload 5 C (ckD_get k_X4_fill_0 34 rfl) rfl ?_
      refine g_lload 1 C (ckD_get k_X4_fill_0 35 rfl) rfl ?_
      obtain ⟨hg_23, hf⟩ := gd_e hf
      refine g_lrem C (ckD_get k_X4_fill_0 36 rfl) (of_decide_eq_true hg_23) ?_
      obtain ⟨x5_24, ex5_24, hf⟩ := lt_e hf
      refine topL ex5_24 ?_
      refine g_lstore (lv' := [(5, _), (10, _), (8, _), (0, _), (1, _), (4, _), (7, _)]) C (ckD_get k_X4_fill_0 37 rfl) hL6 rfl ?_
      refine G.sub [3, 4, 5, 0, 6, 1] rfl ?_
      exact hJ_64 _ _ hf

set_option maxRecDepth 20000 in
theorem k_X4_readNumber_0 : ckD cX4_readNumber [(0, .aload_n 0, 1, 1, 0), (1, .iload_n 3, 1, 2, 0), (2, .putfield 31, 3, 5, 0), (5, .aload_n 0, 1, 6, 0), (6, .getfield 31, 3, 9, 0), (9, .invokestatic 106, 3, 12, 0), (12, .lstore 4, 2, 14, 0), (14, .lload 4, 2, 16, 0), (16, .lconst 0, 1, 17, 0), (17, .lcmp, 1, 18, 0), (18, .ifCond .le 27, 3, 21, 45), (21, .aload_n 0, 1, 22, 0), (22, .aload_n 0, 1, 23, 0), (23, .getfield 9, 3, 26, 0), (26, .lload_n 1, 1, 27, 0), (27, .lload 4, 2, 29, 0), (29, .ldiv, 1, 30, 0), (30, .invokevirtual 110, 3, 33, 0), (33, .aload_n 0, 1, 34, 0), (34, .aload_n 0, 1, 35, 0), (35, .getfield 15, 3, 38, 0), (38, .lload_n 1, 1, 39, 0), (39, .lload 4, 2, 41, 0), (41, .lrem, 1, 42, 0), (42, .invokevirtual 110, 3, 45, 0), (45, .aload_n 0, 1, 46, 0), (46, .invokevirtual 35, 3, 49, 0), (49, .return_, 1, 50, 0)] = true := by decide +kernel
def f_X4_readNumber_J45 (k0 : Nat) (M_4 : Mm) : Option Mm := (f_X4_notePlaces k0 M_4).bind fun M_6 => some M_6
def f_X4_readNumber (k0 : Nat) (a1 : Int64) (a2 : Int32) (M : Mm) : Option Mm := lt1 (wi M k0 5 a2) fun M_1 => (f_X9_factorial (M_1.1 k0 5) M_1).bind fun r_3 => if (lg_cmp r_3 (0 : Int64)) ≤ 0 then f_X4_readNumber_J45 k0 M_1 else gd (decide (¬ r_3 = 0)) <| (f_X4_fill k0 (k0 + 1) (a1 / r_3) M_1).bind fun M_10 => gd (decide (¬ r_3 = 0)) <| (f_X4_fill k0 (k0 + 2) (a1 - a1 / r_3 * r_3) M_10).bind fun M_13 => f_X4_readNumber_J45 k0 M_13
set_option maxRecDepth 100000 in
set_option maxHeartbeats 4000000 in
theorem t_X4_readNumber {E : Ev} {l : Launch} (htr : l.stackTraces = false) (k0 : Nat) (hk0 : isOr k0) (a1 : Int64) (a2 : Int32) (M : Mm) (r : Mm) (hf : f_X4_readNumber k0 a1 a2 M = some r) : CM E l 3 0 0 yX4_readNumber cX4_readNumber 6 none [.ref (E.1 + k0), .long a1, .int a2] M none r := by
  refine CM.of htr (by decide +kernel) (Nat.le_of_ble_eq_true rfl) ?_
  intro K hE hL hl hR0 C hr hRv
  subst hE
  subst hl
  have C : Cx K cX4_readNumber RX4 3 := C
  have hB : (0 : Nat) ≤ K.1.R.cells ∧ 0 ≤ K.1.R.slots := ⟨Nat.zero_le _, Nat.zero_le _⟩
  have hL5 : 5 < K.2.2.1 := by rw [hL]; decide
  show G K (0, 0) 0 [(0, .ref (K.2.1.1 + k0)), (1, .long a1), (3, .int a2)] [] M
  unfold f_X4_readNumber at hf
  refine g_aload_n 0 C (ckD_get k_X4_readNumber_0 0 rfl) rfl rfl ?_
  refine g_iload_n 2 C (ckD_get k_X4_readNumber_0 1 rfl) rfl rfl ?_
  obtain ⟨M_1, eM_1, hf⟩ := lt_e hf
  refine g_putI C (ckD_get k_X4_readNumber_0 2 rfl) fk_X4_31 (T_Or hk0) rfl ?_
  refine memI eM_1 ?_
  refine g_aload_n 0 C (ckD_get k_X4_readNumber_0 3 rfl) rfl rfl ?_
  refine g_getI C (ckD_get k_X4_readNumber_0 4 rfl) fk_X4_31 (T_Or hk0) rfl ?_
  obtain ⟨r_3, hr_2, hf⟩ := bd_e hf
  refine n_cN [.int (M_1.1 k0 5)] [] C (ckD_get k_X4_readNumber_0 5 rfl) nk_X4_106 (t_X9_factorial C.tr _ _ _ hr_2) rfl rfl (Nat.le_of_ble_eq_true rfl) (by decide) hB rfl ?_
  refine g_lstore (lv' := [(4, _), (0, _), (1, _), (3, _)]) C (ckD_get k_X4_readNumber_0 6 rfl) hL5 rfl ?_
  refine g_lload 0 C (ckD_get k_X4_readNumber_0 7 rfl) rfl ?_
  refine g_lconst (v := (0 : Int64)) C (ckD_get k_X4_readNumber_0 8 rfl) (by decide) ?_
  refine g_lcmp C (ckD_get k_X4_readNumber_0 9 rfl) ?_
  have hJ_45 : ∀ (M_4 : Mm), f_X4_readNumber_J45 k0 M_4 = some r → G K (0, 0) 45 [(0, .ref (K.2.1.1 + k0))] [] M_4 := by
    intro M_4 hf
    unfold f_X4_readNumber_J45 at hf
    refine g_aload_n 0 C (ckD_get k_X4_readNumber_0 25 rfl) rfl rfl ?_
    obtain ⟨M_6, hr_5, hf⟩ := bd_e hf
    refine n_cV [] [] C (ckD_get k_X4_readNumber_0 26 rfl) vk_X4_35 (t_X4_notePlaces C.tr _ hk0 _ _ hr_5) (T_Or hk0) rfl rfl (Nat.le_of_ble_eq_true rfl) (by decide) hB rfl ?_
    cases hf
    exact g_vret C (ckD_get k_X4_readNumber_0 27 rfl) hr hRv (Nat.le_refl _) (Nat.le_refl _)
  refine g_if_le C (ckD_get k_X4_readNumber_0 10 rfl) (fun c_7 => ?_) (fun c_7 => ?_)
  · have hf := if_t hf c_7
    refine G.sub [1] rfl ?_
    exact hJ_45 _ hf
  · have hf := if_f hf c_7
    refine g_aload_n 1 C (ckD_get k_X4_readNumber_0 11 rfl) rfl rfl ?_
    refine g_aload_n 1 C (ckD_get k_X4_readNumber_0 12 rfl) rfl rfl ?_
    refine g_getR C (ckD_get k_X4_readNumber_0 13 rfl) fk_X4_9 (T_Or hk0) rfl ?_
    refine g_lload_n 2 C (ckD_get k_X4_readNumber_0 14 rfl) rfl rfl ?_
    refine g_lload 0 C (ckD_get k_X4_readNumber_0 15 rfl) rfl ?_
    obtain ⟨hg_8, hf⟩ := gd_e hf
    refine g_ldiv C (ckD_get k_X4_readNumber_0 16 rfl) (of_decide_eq_true hg_8) ?_
    obtain ⟨M_10, hr_9, hf⟩ := bd_e hf
    refine n_cV [.ref (K.2.1.1 + (k0 + 1)), .long (a1 / r_3)] [] C (ckD_get k_X4_readNumber_0 17 rfl) vk_X4_110 (t_X4_fill C.tr _ hk0 _ (T_Or1 hk0) _ _ _ hr_9) (T_Or hk0) rfl rfl (Nat.le_of_ble_eq_true rfl) (by decide) hB rfl ?_
    refine g_aload_n 1 C (ckD_get k_X4_readNumber_0 18 rfl) rfl rfl ?_
    refine g_aload_n 1 C (ckD_get k_X4_readNumber_0 19 rfl) rfl rfl ?_
    refine g_getR C (ckD_get k_X4_readNumber_0 20 rfl) fk_X4_15 (T_Or hk0) rfl ?_
    refine g_lload_n 2 C (ckD_get k_X4_readNumber_0 21 rfl) rfl rfl ?_
    refine g_lload 0 C (ckD_get k_X4_readNumber_0 22 rfl) rfl ?_
    obtain ⟨hg_11, hf⟩ := gd_e hf
    refine g_lrem C (ckD_get k_X4_readNumber_0 23 rfl) (of_decide_eq_true hg_11) ?_
    obtain ⟨M_13, hr_12, hf⟩ := bd_e hf
    refine n_cV [.ref (K.2.1.1 + (k0 + 2)), .long (a1 - a1 / r_3 * r_3)] [] C (ckD_get k_X4_readNumber_0 24 rfl) vk_X4_110 (t_X4_fill C.tr _ hk0 _ (T_Or2 hk0) _ _ _ hr_12) (T_Or hk0) rfl rfl (Nat.le_of_ble_eq_true rfl) (by decide) hB rfl ?_
    refine G.sub [1] rfl ?_
    exact hJ_45 _ hf

set_option maxRecDepth 20000 in
theorem k_X5_addShape_0 : ckD cX5_addShape [(0, .aload_n 0, 1, 1, 0), (1, .getfield 27, 3, 4, 0), (4, .aload_n 0, 1, 5, 0), (5, .getfield 9, 3, 8, 0), (8, .arraylength, 1, 9, 0), (9, .if_icmp .ge 33, 3, 12, 42), (12, .aload_n 0, 1, 13, 0), (13, .getfield 9, 3, 16, 0), (16, .aload_n 0, 1, 17, 0), (17, .getfield 27, 3, 20, 0), (20, .iload_n 1, 1, 21, 0), (21, .iastore, 1, 22, 0), (22, .aload_n 0, 1, 23, 0), (23, .getfield 15, 3, 26, 0), (26, .aload_n 0, 1, 27, 0), (27, .getfield 27, 3, 30, 0), (30, .iload_n 2, 1, 31, 0), (31, .iastore, 1, 32, 0), (32, .aload_n 0, 1, 33, 0), (33, .dup, 1, 34, 0), (34, .getfield 27, 3, 37, 0), (37, .iconst 1, 1, 38, 0), (38, .iadd, 1, 39, 0), (39, .putfield 27, 3, 42, 0), (42, .return_, 1, 43, 0)] = true := by decide +kernel
def f_X5_addShape (k0 : Nat) (a1 : Int32) (a2 : Int32) (M : Mm) : Option Mm := if (26 : Int32) ≤ (M.1 k0 5) then some M else wrI 26 M (k0 + 1) (M.1 k0 5) a1 fun M_2 => wrI 26 M_2 (k0 + 2) (M_2.1 k0 5) a2 fun M_4 => lt1 (wi M_4 k0 5 ((M_4.1 k0 5) + (1 : Int32))) fun M_6 => some M_6
set_option maxRecDepth 100000 in
set_option maxHeartbeats 4000000 in
theorem t_X5_addShape {E : Ev} {l : Launch} (htr : l.stackTraces = false) (k0 : Nat) (hk0 : isOu k0) (a1 : Int32) (a2 : Int32) (M : Mm) (r : Mm) (hf : f_X5_addShape k0 a1 a2 M = some r) : CM E l 0 0 0 yX5_addShape cX5_addShape 3 none [.ref (E.1 + k0), .int a1, .int a2] M none r := by
  refine CM.of htr (by decide +kernel) (Nat.le_of_ble_eq_true rfl) ?_
  intro K hE hL hl hR0 C hr hRv
  subst hE
  subst hl
  have C : Cx K cX5_addShape RX5 0 := C
  have hB : (0 : Nat) ≤ K.1.R.cells ∧ 0 ≤ K.1.R.slots := ⟨Nat.zero_le _, Nat.zero_le _⟩
  show G K (0, 0) 0 [(0, .ref (K.2.1.1 + k0)), (1, .int a1), (2, .int a2)] [] M
  unfold f_X5_addShape at hf
  refine g_aload_n 0 C (ckD_get k_X5_addShape_0 0 rfl) rfl rfl ?_
  refine g_getI C (ckD_get k_X5_addShape_0 1 rfl) fk_X5_27 (T_Ou hk0) rfl ?_
  refine g_aload_n 0 C (ckD_get k_X5_addShape_0 2 rfl) rfl rfl ?_
  refine g_getR C (ckD_get k_X5_addShape_0 3 rfl) fk_X5_9 (T_Ou hk0) rfl ?_
  refine g_alen (v := 26) C (ckD_get k_X5_addShape_0 4 rfl) (T_Ou1 hk0) (by decide) ?_
  refine g_icmp_ge C (ckD_get k_X5_addShape_0 5 rfl) (fun c_1 => ?_) (fun c_1 => ?_)
  · have hf := if_t hf c_1
    cases hf
    exact g_vret C (ckD_get k_X5_addShape_0 24 rfl) hr hRv (Nat.le_refl _) (Nat.le_refl _)
  · have hf := if_f hf c_1
    refine g_aload_n 0 C (ckD_get k_X5_addShape_0 6 rfl) rfl rfl ?_
    refine g_getR C (ckD_get k_X5_addShape_0 7 rfl) fk_X5_9 (T_Ou hk0) rfl ?_
    refine g_aload_n 0 C (ckD_get k_X5_addShape_0 8 rfl) rfl rfl ?_
    refine g_getI C (ckD_get k_X5_addShape_0 9 rfl) fk_X5_27 (T_Ou hk0) rfl ?_
    refine g_iload_n 1 C (ckD_get k_X5_addShape_0 10 rfl) rfl rfl ?_
    obtain ⟨M_2, hi_3, eM_2, hf⟩ := wrI_e hf
    refine n_iast C (ckD_get k_X5_addShape_0 11 rfl) (T_Ou1 hk0) hi_3 eM_2 ?_
    refine g_aload_n 0 C (ckD_get k_X5_addShape_0 12 rfl) rfl rfl ?_
    refine g_getR C (ckD_get k_X5_addShape_0 13 rfl) fk_X5_15 (T_Ou hk0) rfl ?_
    refine g_aload_n 0 C (ckD_get k_X5_addShape_0 14 rfl) rfl rfl ?_
    refine g_getI C (ckD_get k_X5_addShape_0 15 rfl) fk_X5_27 (T_Ou hk0) rfl ?_
    refine g_iload_n 2 C (ckD_get k_X5_addShape_0 16 rfl) rfl rfl ?_
    obtain ⟨M_4, hi_5, eM_4, hf⟩ := wrI_e hf
    refine n_iast C (ckD_get k_X5_addShape_0 17 rfl) (T_Ou2 hk0) hi_5 eM_4 ?_
    refine g_aload_n 0 C (ckD_get k_X5_addShape_0 18 rfl) rfl rfl ?_
    refine g_dup C (ckD_get k_X5_addShape_0 19 rfl) rfl ?_
    refine g_getI C (ckD_get k_X5_addShape_0 20 rfl) fk_X5_27 (T_Ou hk0) rfl ?_
    refine g_iconst (v := (1 : Int32)) C (ckD_get k_X5_addShape_0 21 rfl) (by decide) ?_
    refine g_iadd C (ckD_get k_X5_addShape_0 22 rfl) ?_
    obtain ⟨M_6, eM_6, hf⟩ := lt_e hf
    refine g_putI C (ckD_get k_X5_addShape_0 23 rfl) fk_X5_27 (T_Ou hk0) rfl ?_
    refine memI eM_6 ?_
    cases hf
    exact g_vret C (ckD_get k_X5_addShape_0 24 rfl) hr hRv (Nat.le_refl _) (Nat.le_refl _)

set_option maxRecDepth 20000 in
theorem k_X5_addBlock_0 : ckD cX5_addBlock [(0, .iload_n 3, 1, 1, 0), (1, .iconst 1, 1, 2, 0), (2, .if_icmp .ne 39, 3, 5, 41), (5, .iload_n 1, 1, 6, 0), (6, .iload_n 2, 1, 7, 0), (7, .if_icmp .eq 34, 3, 10, 41), (10, .aload_n 0, 1, 11, 0), (11, .iload_n 1, 1, 12, 0), (12, .iload_n 2, 1, 13, 0), (13, .invokestatic 68, 3, 16, 0), (16, .iload_n 1, 1, 17, 0), (17, .iload_n 2, 1, 18, 0), (18, .invokestatic 73, 3, 21, 0), (21, .invokevirtual 76, 3, 24, 0), (24, .aload_n 0, 1, 25, 0), (25, .iload_n 1, 1, 26, 0), (26, .iload_n 2, 1, 27, 0), (27, .invokestatic 73, 3, 30, 0), (30, .iload_n 1, 1, 31, 0), (31, .iload_n 2, 1, 32, 0), (32, .invokestatic 68, 3, 35, 0), (35, .invokevirtual 76, 3, 38, 0), (38, .goto 24, 3, 41, 62), (41, .iload 4, 2, 43, 0), (43, .iconst 1, 1, 44, 0), (44, .if_icmp .ne 12, 3, 47, 56), (47, .aload_n 0, 1, 48, 0), (48, .iload_n 2, 1, 49, 0), (49, .iload_n 1, 1, 50, 0), (50, .invokevirtual 76, 3, 53, 0), (53, .goto 9, 3, 56, 62), (56, .aload_n 0, 1, 57, 0), (57, .iload_n 1, 1, 58, 0), (58, .iload_n 2, 1, 59, 0), (59, .invokevirtual 76, 3, 62, 0), (62, .return_, 1, 63, 0)] = true := by decide +kernel
def f_X5_addBlock_J41 (k0 : Nat) (a1 : Int32) (a2 : Int32) (a4 : Int32) (M_1 : Mm) : Option Mm := if a4 = (1 : Int32) then (f_X5_addShape k0 a2 a1 M_1).bind fun M_6 => some M_6 else (f_X5_addShape k0 a1 a2 M_1).bind fun M_4 => some M_4
def f_X5_addBlock (k0 : Nat) (a1 : Int32) (a2 : Int32) (a3 : Int32) (a4 : Int32) (M : Mm) : Option Mm := if a3 = (1 : Int32) then (if a1 = a2 then f_X5_addBlock_J41 k0 a1 a2 a4 M else (f_X5_addShape k0 (jmin a1 a2) (jmax a1 a2) M).bind fun M_10 => (f_X5_addShape k0 (jmax a1 a2) (jmin a1 a2) M_10).bind fun M_12 => some M_12) else f_X5_addBlock_J41 k0 a1 a2 a4 M
set_option maxRecDepth 100000 in
set_option maxHeartbeats 4000000 in
theorem t_X5_addBlock {E : Ev} {l : Launch} (htr : l.stackTraces = false) (k0 : Nat) (hk0 : isOu k0) (a1 : Int32) (a2 : Int32) (a3 : Int32) (a4 : Int32) (M : Mm) (r : Mm) (hf : f_X5_addBlock k0 a1 a2 a3 a4 M = some r) : CM E l 1 0 0 yX5_addBlock cX5_addBlock 5 none [.ref (E.1 + k0), .int a1, .int a2, .int a3, .int a4] M none r := by
  refine CM.of htr (by decide +kernel) (Nat.le_of_ble_eq_true rfl) ?_
  intro K hE hL hl hR0 C hr hRv
  subst hE
  subst hl
  have C : Cx K cX5_addBlock RX5 1 := C
  have hB : (0 : Nat) ≤ K.1.R.cells ∧ 0 ≤ K.1.R.slots := ⟨Nat.zero_le _, Nat.zero_le _⟩
  show G K (0, 0) 0 [(0, .ref (K.2.1.1 + k0)), (1, .int a1), (2, .int a2), (3, .int a3), (4, .int a4)] [] M
  unfold f_X5_addBlock at hf
  refine g_iload_n 3 C (ckD_get k_X5_addBlock_0 0 rfl) rfl rfl ?_
  refine g_iconst (v := (1 : Int32)) C (ckD_get k_X5_addBlock_0 1 rfl) (by decide) ?_
  have hJ_41 : ∀ (M_1 : Mm), f_X5_addBlock_J41 k0 a1 a2 a4 M_1 = some r → G K (0, 0) 41 [(0, .ref (K.2.1.1 + k0)), (1, .int a1), (2, .int a2), (4, .int a4)] [] M_1 := by
    intro M_1 hf
    unfold f_X5_addBlock_J41 at hf
    refine g_iload 3 C (ckD_get k_X5_addBlock_0 23 rfl) rfl ?_
    refine g_iconst (v := (1 : Int32)) C (ckD_get k_X5_addBlock_0 24 rfl) (by decide) ?_
    refine g_icmp_ne C (ckD_get k_X5_addBlock_0 25 rfl) (fun c_2 => ?_) (fun c_2 => ?_)
    · have hf := if_f hf c_2
      refine g_aload_n 0 C (ckD_get k_X5_addBlock_0 31 rfl) rfl rfl ?_
      refine g_iload_n 1 C (ckD_get k_X5_addBlock_0 32 rfl) rfl rfl ?_
      refine g_iload_n 2 C (ckD_get k_X5_addBlock_0 33 rfl) rfl rfl ?_
      obtain ⟨M_4, hr_3, hf⟩ := bd_e hf
      refine n_cV [.int a1, .int a2] [] C (ckD_get k_X5_addBlock_0 34 rfl) vk_X5_76 (t_X5_addShape C.tr _ hk0 _ _ _ _ hr_3) (T_Ou hk0) rfl rfl (Nat.le_of_ble_eq_true rfl) (by decide) hB rfl ?_
      cases hf
      exact g_vret C (ckD_get k_X5_addBlock_0 35 rfl) hr hRv (Nat.le_refl _) (Nat.le_refl _)
    · have hf := if_t hf c_2
      refine g_aload_n 0 C (ckD_get k_X5_addBlock_0 26 rfl) rfl rfl ?_
      refine g_iload_n 2 C (ckD_get k_X5_addBlock_0 27 rfl) rfl rfl ?_
      refine g_iload_n 1 C (ckD_get k_X5_addBlock_0 28 rfl) rfl rfl ?_
      obtain ⟨M_6, hr_5, hf⟩ := bd_e hf
      refine n_cV [.int a2, .int a1] [] C (ckD_get k_X5_addBlock_0 29 rfl) vk_X5_76 (t_X5_addShape C.tr _ hk0 _ _ _ _ hr_5) (T_Ou hk0) rfl rfl (Nat.le_of_ble_eq_true rfl) (by decide) hB rfl ?_
      refine g_goto C (ckD_get k_X5_addBlock_0 30 rfl) ?_
      cases hf
      exact g_vret C (ckD_get k_X5_addBlock_0 35 rfl) hr hRv (Nat.le_refl _) (Nat.le_refl _)
  refine g_icmp_ne C (ckD_get k_X5_addBlock_0 2 rfl) (fun c_7 => ?_) (fun c_7 => ?_)
  · have hf := if_f hf c_7
    refine G.sub [0, 1, 2, 4] rfl ?_
    exact hJ_41 _ hf
  · have hf := if_t hf c_7
    refine g_iload_n 1 C (ckD_get k_X5_addBlock_0 3 rfl) rfl rfl ?_
    refine g_iload_n 2 C (ckD_get k_X5_addBlock_0 4 rfl) rfl rfl ?_
    refine g_icmp_eq C (ckD_get k_X5_addBlock_0 5 rfl) (fun c_8 => ?_) (fun c_8 => ?_)
    · have hf := if_t hf c_8
      refine G.sub [0, 1, 2, 4] rfl ?_
      exact hJ_41 _ hf
    · have hf := if_f hf c_8
      refine g_aload_n 0 C (ckD_get k_X5_addBlock_0 6 rfl) rfl rfl ?_
      refine g_iload_n 1 C (ckD_get k_X5_addBlock_0 7 rfl) rfl rfl ?_
      refine g_iload_n 2 C (ckD_get k_X5_addBlock_0 8 rfl) rfl rfl ?_
      refine n_mmin C (ckD_get k_X5_addBlock_0 9 rfl) mk_X5_68 (by decide) (Nat.le_of_ble_eq_true rfl) hB ?_
      refine g_iload_n 1 C (ckD_get k_X5_addBlock_0 10 rfl) rfl rfl ?_
      refine g_iload_n 2 C (ckD_get k_X5_addBlock_0 11 rfl) rfl rfl ?_
      refine n_mmax C (ckD_get k_X5_addBlock_0 12 rfl) mk_X5_73 (by decide) (Nat.le_of_ble_eq_true rfl) hB ?_
      obtain ⟨M_10, hr_9, hf⟩ := bd_e hf
      refine n_cV [.int (jmin a1 a2), .int (jmax a1 a2)] [] C (ckD_get k_X5_addBlock_0 13 rfl) vk_X5_76 (t_X5_addShape C.tr _ hk0 _ _ _ _ hr_9) (T_Ou hk0) rfl rfl (Nat.le_of_ble_eq_true rfl) (by decide) hB rfl ?_
      refine g_aload_n 0 C (ckD_get k_X5_addBlock_0 14 rfl) rfl rfl ?_
      refine g_iload_n 1 C (ckD_get k_X5_addBlock_0 15 rfl) rfl rfl ?_
      refine g_iload_n 2 C (ckD_get k_X5_addBlock_0 16 rfl) rfl rfl ?_
      refine n_mmax C (ckD_get k_X5_addBlock_0 17 rfl) mk_X5_73 (by decide) (Nat.le_of_ble_eq_true rfl) hB ?_
      refine g_iload_n 1 C (ckD_get k_X5_addBlock_0 18 rfl) rfl rfl ?_
      refine g_iload_n 2 C (ckD_get k_X5_addBlock_0 19 rfl) rfl rfl ?_
      refine n_mmin C (ckD_get k_X5_addBlock_0 20 rfl) mk_X5_68 (by decide) (Nat.le_of_ble_eq_true rfl) hB ?_
      obtain ⟨M_12, hr_11, hf⟩ := bd_e hf
      refine n_cV [.int (jmax a1 a2), .int (jmin a1 a2)] [] C (ckD_get k_X5_addBlock_0 21 rfl) vk_X5_76 (t_X5_addShape C.tr _ hk0 _ _ _ _ hr_11) (T_Ou hk0) rfl rfl (Nat.le_of_ble_eq_true rfl) (by decide) hB rfl ?_
      refine g_goto C (ckD_get k_X5_addBlock_0 22 rfl) ?_
      cases hf
      exact g_vret C (ckD_get k_X5_addBlock_0 35 rfl) hr hRv (Nat.le_refl _) (Nat.le_refl _)

set_option maxRecDepth 20000 in
theorem k_X5_joinAbove_0 : ckD cX5_joinAbove [(0, .iload_n 2, 1, 1, 0), (1, .iconst 1, 1, 2, 0), (2, .isub, 1, 3, 0), (3, .istore_n 3, 1, 4, 0), (4, .aload_n 0, 1, 5, 0), (5, .getfield 27, 3, 8, 0), (8, .iconst 1, 1, 9, 0), (9, .isub, 1, 10, 0), (10, .istore 4, 2, 12, 0), (12, .iconst 0, 1, 13, 0), (13, .istore 5, 2, 15, 0), (15, .iload_n 3, 1, 16, 0), (16, .iload_n 1, 1, 17, 0), (17, .if_icmp .lt 109, 3, 20, 126), (20, .iload 4, 2, 22, 0), (22, .iload_n 2, 1, 23, 0), (23, .if_icmp .lt 103, 3, 26, 126), (26, .iload 5, 2, 28, 0), (28, .aload_n 0, 1, 29, 0), (29, .getfield 18, 3, 32, 0), (32, .arraylength, 1, 33, 0), (33, .if_icmp .ge 93, 3, 36, 126), (36, .aload_n 0, 1, 37, 0), (37, .getfield 9, 3, 40, 0), (40, .iload_n 3, 1, 41, 0), (41, .iaload, 1, 42, 0), (42, .istore 6, 2, 44, 0), (44, .aload_n 0, 1, 45, 0), (45, .getfield 9, 3, 48, 0), (48, .iload 4, 2, 50, 0), (50, .iaload, 1, 51, 0), (51, .istore 7, 2, 53, 0), (53, .aload_n 0, 1, 54, 0), (54, .getfield 18, 3, 57, 0), (57, .iload 5, 2, 59, 0), (59, .iload 6, 2, 61, 0), (61, .iload 7, 2, 63, 0), (63, .invokestatic 73, 3, 66, 0), (66, .iastore, 1, 67, 0), (67, .aload_n 0, 1, 68, 0)] = true := by decide +kernel
set_option maxRecDepth 20000 in
theorem k_X5_joinAbove_1 : ckD cX5_joinAbove [(68, .getfield 21, 3, 71, 0), (71, .iload 5, 2, 73, 0), (73, .aload_n 0, 1, 74, 0), (74, .getfield 15, 3, 77, 0), (77, .iload_n 3, 1, 78, 0), (78, .iaload, 1, 79, 0), (79, .aload_n 0, 1, 80, 0), (80, .getfield 15, 3, 83, 0), (83, .iload 4, 2, 85, 0), (85, .iaload, 1, 86, 0), (86, .iadd, 1, 87, 0), (87, .iastore, 1, 88, 0), (88, .iinc 5 1, 3, 91, 0), (91, .iload_n 3, 1, 92, 0), (92, .iload 6, 2, 94, 0), (94, .iload 7, 2, 96, 0), (96, .if_icmp .lt 7, 3, 99, 103), (99, .iconst 1, 1, 100, 0), (100, .goto 4, 3, 103, 104), (103, .iconst 0, 1, 104, 0), (104, .isub, 1, 105, 0), (105, .istore_n 3, 1, 106, 0), (106, .iload 4, 2, 108, 0), (108, .iload 7, 2, 110, 0), (110, .iload 6, 2, 112, 0), (112, .if_icmp .lt 7, 3, 115, 119), (115, .iconst 1, 1, 116, 0), (116, .goto 4, 3, 119, 120), (119, .iconst 0, 1, 120, 0), (120, .isub, 1, 121, 0), (121, .istore 4, 2, 123, 0), (123, .goto (-108), 3, 126, 15), (126, .iload 5, 2, 128, 0), (128, .ireturn, 1, 129, 0)] = true := by decide +kernel
def f_X5_joinAbove_A15 (x5_7 : Int32) (M_8 : Mm) : Option (Int32 × Mm) := some (x5_7, M_8)
def f_X5_joinAbove_J120 (x4_4 : Int32) (M_22 : Mm) (x5_24 : Int32) (x3_26 : Int32) (s_27 : Int32) : Option ((Int32 × Int32 × Int32 × Mm) ⊕ (Int32 × Mm)) := lt1 (x4_4 - s_27) fun x4_28 => some (.inl (x3_26, x4_28, x5_24, M_22))
def f_X5_joinAbove_J104 (x3_3 : Int32) (x4_4 : Int32) (v_12 : Int32) (v_14 : Int32) (M_22 : Mm) (x5_24 : Int32) (s_25 : Int32) : Option ((Int32 × Int32 × Int32 × Mm) ⊕ (Int32 × Mm)) := lt1 (x3_3 - s_25) fun x3_26 => if v_14 < v_12 then f_X5_joinAbove_J120 x4_4 M_22 x5_24 x3_26 (0 : Int32) else f_X5_joinAbove_J120 x4_4 M_22 x5_24 x3_26 (1 : Int32)
def f_X5_joinAbove_L15 (k0 : Nat) (a1 : Int32) (a2 : Int32) (x3_3 : Int32) (x4_4 : Int32) (x5_5 : Int32) (M_6 : Mm) : Option ((Int32 × Int32 × Int32 × Mm) ⊕ (Int32 × Mm)) := if x3_3 < a1 then some (.inr (x5_5, M_6)) else if x4_4 < a2 then some (.inr (x5_5, M_6)) else if (26 : Int32) ≤ x5_5 then some (.inr (x5_5, M_6)) else rdI 26 M_6 (k0 + 1) x3_3 fun v_12 => rdI 26 M_6 (k0 + 1) x4_4 fun v_14 => wrI 26 M_6 (k0 + 3) x5_5 (jmax v_12 v_14) fun M_16 => rdI 26 M_16 (k0 + 2) x3_3 fun v_18 => rdI 26 M_16 (k0 + 2) x4_4 fun v_20 => wrI 26 M_16 (k0 + 4) x5_5 (v_18 + v_20) fun M_22 => lt1 (x5_5 + 1) fun x5_24 => if v_12 < v_14 then f_X5_joinAbove_J104 x3_3 x4_4 v_12 v_14 M_22 x5_24 (0 : Int32) else f_X5_joinAbove_J104 x3_3 x4_4 v_12 v_14 M_22 x5_24 (1 : Int32)
def f_X5_joinAbove (k0 : Nat) (a1 : Int32) (a2 : Int32) (M : Mm) : Option (Int32 × Mm) := lt1 (a2 - (1 : Int32)) fun x3_1 => lt1 ((M.1 k0 5) - (1 : Int32)) fun x4_2 => (loop (fun v => f_X5_joinAbove_L15 k0 a1 a2 v.1 v.2.1 v.2.2.1 v.2.2.2) FU (x3_1, x4_2, (0 : Int32), M)).bind fun z => f_X5_joinAbove_A15 z.1 z.2
set_option maxRecDepth 100000 in
set_option maxHeartbeats 4000000 in
theorem t_X5_joinAbove {E : Ev} {l : Launch} (htr : l.stackTraces = false) (k0 : Nat) (hk0 : isOu k0) (a1 : Int32) (a2 : Int32) (M : Mm) (r : (Int32 × Mm)) (hf : f_X5_joinAbove k0 a1 a2 M = some r) : CM E l 1 0 0 yX5_joinAbove cX5_joinAbove 8 (some .int) [.ref (E.1 + k0), .int a1, .int a2] M (some (.int r.1)) r.2 := by
  refine CM.of htr (by decide +kernel) (Nat.le_of_ble_eq_true rfl) ?_
  intro K hE hL hl hR0 C hr hRv
  subst hE
  subst hl
  have C : Cx K cX5_joinAbove RX5 1 := C
  have hB : (0 : Nat) ≤ K.1.R.cells ∧ 0 ≤ K.1.R.slots := ⟨Nat.zero_le _, Nat.zero_le _⟩
  have hL3 : 3 < K.2.2.1 := by rw [hL]; decide
  have hL4 : 4 < K.2.2.1 := by rw [hL]; decide
  have hL5 : 5 < K.2.2.1 := by rw [hL]; decide
  have hL6 : 6 < K.2.2.1 := by rw [hL]; decide
  have hL7 : 7 < K.2.2.1 := by rw [hL]; decide
  show G K (0, 0) 0 [(0, .ref (K.2.1.1 + k0)), (1, .int a1), (2, .int a2)] [] M
  unfold f_X5_joinAbove at hf
  refine g_iload_n 2 C (ckD_get k_X5_joinAbove_0 0 rfl) rfl rfl ?_
  refine g_iconst (v := (1 : Int32)) C (ckD_get k_X5_joinAbove_0 1 rfl) (by decide) ?_
  refine g_isub C (ckD_get k_X5_joinAbove_0 2 rfl) ?_
  obtain ⟨x3_1, ex3_1, hf⟩ := lt_e hf
  refine topI ex3_1 ?_
  refine g_istore_n (lv' := [(3, _), (0, _), (1, _), (2, _)]) C (ckD_get k_X5_joinAbove_0 3 rfl) rfl hL3 rfl ?_
  refine g_aload_n 1 C (ckD_get k_X5_joinAbove_0 4 rfl) rfl rfl ?_
  refine g_getI C (ckD_get k_X5_joinAbove_0 5 rfl) fk_X5_27 (T_Ou hk0) rfl ?_
  refine g_iconst (v := (1 : Int32)) C (ckD_get k_X5_joinAbove_0 6 rfl) (by decide) ?_
  refine g_isub C (ckD_get k_X5_joinAbove_0 7 rfl) ?_
  obtain ⟨x4_2, ex4_2, hf⟩ := lt_e hf
  refine topI ex4_2 ?_
  refine g_istore (lv' := [(4, _), (3, _), (0, _), (1, _), (2, _)]) C (ckD_get k_X5_joinAbove_0 8 rfl) hL4 rfl ?_
  refine g_iconst (v := (0 : Int32)) C (ckD_get k_X5_joinAbove_0 9 rfl) (by decide) ?_
  refine g_istore (lv' := [(5, _), (4, _), (3, _), (0, _), (1, _), (2, _)]) C (ckD_get k_X5_joinAbove_0 10 rfl) hL5 rfl ?_
  refine G.sub [3, 4, 5, 2, 1, 0] rfl ?_
  obtain ⟨xx_15, hx_15, hf⟩ := bd_e hf
  obtain ⟨x5_7, M_8⟩ := xx_15
  have hE_15 : G K (0, 0) 126 [(5, .int x5_7)] [] M_8 := by
    have hf : f_X5_joinAbove_A15 x5_7 M_8 = some r := hf
    unfold f_X5_joinAbove_A15 at hf
    refine g_iload 0 C (ckD_get k_X5_joinAbove_1 32 rfl) rfl ?_
    cases hf
    exact g_iret C (ckD_get k_X5_joinAbove_1 33 rfl) hr hRv (Nat.le_refl _) (Nat.le_refl _)
  refine loop_e (x := (x5_7, M_8)) (P := fun (v : (Int32 × Int32 × Int32 × Mm)) => G K (0, 0) 15 [(0, .ref (K.2.1.1 + k0)), (1, .int a1), (2, .int a2), (3, .int v.1), (4, .int v.2.1), (5, .int v.2.2.1)] [] v.2.2.2) ?_ FU _ hx_15
  intro v rr_15 hf hn_15 hz_15
  obtain ⟨x3_3, x4_4, x5_5, M_6⟩ := v
  have hf : f_X5_joinAbove_L15 k0 a1 a2 x3_3 x4_4 x5_5 M_6 = some rr_15 := hf
  show G K (0, 0) 15 [(0, .ref (K.2.1.1 + k0)), (1, .int a1), (2, .int a2), (3, .int x3_3), (4, .int x4_4), (5, .int x5_5)] [] M_6
  unfold f_X5_joinAbove_L15 at hf
  refine g_iload_n 3 C (ckD_get k_X5_joinAbove_0 11 rfl) rfl rfl ?_
  refine g_iload_n 1 C (ckD_get k_X5_joinAbove_0 12 rfl) rfl rfl ?_
  refine g_icmp_lt C (ckD_get k_X5_joinAbove_0 13 rfl) (fun c_9 => ?_) (fun c_9 => ?_)
  · have hf := if_t hf c_9
    refine G.sub [5] rfl ?_
    cases hf
    cases hz_15 _ rfl
    exact hE_15
  · have hf := if_f hf c_9
    refine g_iload 4 C (ckD_get k_X5_joinAbove_0 14 rfl) rfl ?_
    refine g_iload_n 2 C (ckD_get k_X5_joinAbove_0 15 rfl) rfl rfl ?_
    refine g_icmp_lt C (ckD_get k_X5_joinAbove_0 16 rfl) (fun c_10 => ?_) (fun c_10 => ?_)
    · have hf := if_t hf c_10
      refine G.sub [5] rfl ?_
      cases hf
      cases hz_15 _ rfl
      exact hE_15
    · have hf := if_f hf c_10
      refine g_iload 5 C (ckD_get k_X5_joinAbove_0 17 rfl) rfl ?_
      refine g_aload_n 0 C (ckD_get k_X5_joinAbove_0 18 rfl) rfl rfl ?_
      refine g_getR C (ckD_get k_X5_joinAbove_0 19 rfl) fk_X5_18 (T_Ou hk0) rfl ?_
      refine g_alen (v := 26) C (ckD_get k_X5_joinAbove_0 20 rfl) (T_Ou3 hk0) (by decide) ?_
      refine g_icmp_ge C (ckD_get k_X5_joinAbove_0 21 rfl) (fun c_11 => ?_) (fun c_11 => ?_)
      · have hf := if_t hf c_11
        refine G.sub [5] rfl ?_
        cases hf
        cases hz_15 _ rfl
        exact hE_15
      · have hf := if_f hf c_11
        refine g_aload_n 0 C (ckD_get k_X5_joinAbove_0 22 rfl) rfl rfl ?_
        refine g_getR C (ckD_get k_X5_joinAbove_0 23 rfl) fk_X5_9 (T_Ou hk0) rfl ?_
        refine g_iload_n 3 C (ckD_get k_X5_joinAbove_0 24 rfl) rfl rfl ?_
        obtain ⟨v_12, hi_13, ev_12, hf⟩ := rdI_e hf
        refine n_iald C (ckD_get k_X5_joinAbove_0 25 rfl) (T_Ou1 hk0) hi_13 ev_12 ?_
        refine g_istore (lv' := [(6, _), (0, _), (1, _), (2, _), (3, _), (4, _), (5, _)]) C (ckD_get k_X5_joinAbove_0 26 rfl) hL6 rfl ?_
        refine g_aload_n 1 C (ckD_get k_X5_joinAbove_0 27 rfl) rfl rfl ?_
        refine g_getR C (ckD_get k_X5_joinAbove_0 28 rfl) fk_X5_9 (T_Ou hk0) rfl ?_
        refine g_iload 5 C (ckD_get k_X5_joinAbove_0 29 rfl) rfl ?_
        obtain ⟨v_14, hi_15, ev_14, hf⟩ := rdI_e hf
        refine n_iald C (ckD_get k_X5_joinAbove_0 30 rfl) (T_Ou1 hk0) hi_15 ev_14 ?_
        refine g_istore (lv' := [(7, _), (6, _), (0, _), (1, _), (2, _), (3, _), (4, _), (5, _)]) C (ckD_get k_X5_joinAbove_0 31 rfl) hL7 rfl ?_
        refine g_aload_n 2 C (ckD_get k_X5_joinAbove_0 32 rfl) rfl rfl ?_
        refine g_getR C (ckD_get k_X5_joinAbove_0 33 rfl) fk_X5_18 (T_Ou hk0) rfl ?_
        refine g_iload 7 C (ckD_get k_X5_joinAbove_0 34 rfl) rfl ?_
        refine g_iload 1 C (ckD_get k_X5_joinAbove_0 35 rfl) rfl ?_
        refine g_iload 0 C (ckD_get k_X5_joinAbove_0 36 rfl) rfl ?_
        refine n_mmax C (ckD_get k_X5_joinAbove_0 37 rfl) mk_X5_73 (by decide) (Nat.le_of_ble_eq_true rfl) hB ?_
        obtain ⟨M_16, hi_17, eM_16, hf⟩ := wrI_e hf
        refine n_iast C (ckD_get k_X5_joinAbove_0 38 rfl) (T_Ou3 hk0) hi_17 eM_16 ?_
        refine g_aload_n 2 C (ckD_get k_X5_joinAbove_0 39 rfl) rfl rfl ?_
        refine g_getR C (ckD_get k_X5_joinAbove_1 0 rfl) fk_X5_21 (T_Ou hk0) rfl ?_
        refine g_iload 7 C (ckD_get k_X5_joinAbove_1 1 rfl) rfl ?_
        refine g_aload_n 2 C (ckD_get k_X5_joinAbove_1 2 rfl) rfl rfl ?_
        refine g_getR C (ckD_get k_X5_joinAbove_1 3 rfl) fk_X5_15 (T_Ou hk0) rfl ?_
        refine g_iload_n 5 C (ckD_get k_X5_joinAbove_1 4 rfl) rfl rfl ?_
        obtain ⟨v_18, hi_19, ev_18, hf⟩ := rdI_e hf
        refine n_iald C (ckD_get k_X5_joinAbove_1 5 rfl) (T_Ou2 hk0) hi_19 ev_18 ?_
        refine g_aload_n 2 C (ckD_get k_X5_joinAbove_1 6 rfl) rfl rfl ?_
        refine g_getR C (ckD_get k_X5_joinAbove_1 7 rfl) fk_X5_15 (T_Ou hk0) rfl ?_
        refine g_iload 6 C (ckD_get k_X5_joinAbove_1 8 rfl) rfl ?_
        obtain ⟨v_20, hi_21, ev_20, hf⟩ := rdI_e hf
        refine n_iald C (ckD_get k_X5_joinAbove_1 9 rfl) (T_Ou2 hk0) hi_21 ev_20 ?_
        refine g_iadd C (ckD_get k_X5_joinAbove_1 10 rfl) ?_
        obtain ⟨M_22, hi_23, eM_22, hf⟩ := wrI_e hf
        refine n_iast C (ckD_get k_X5_joinAbove_1 11 rfl) (T_Ou4 hk0) hi_23 eM_22 ?_
        obtain ⟨x5_24, ex5_24, hf⟩ := lt_e hf
        refine g_iinc (lv' := [(5, _), (7, _), (6, _), (0, _), (1, _), (2, _), (3, _), (4, _)]) 7 C (ckD_get k_X5_joinAbove_1 12 rfl) rfl ex5_24 hL5 rfl ?_
        refine g_iload_n 6 C (ckD_get k_X5_joinAbove_1 13 rfl) rfl rfl ?_
        refine g_iload 2 C (ckD_get k_X5_joinAbove_1 14 rfl) rfl ?_
        refine g_iload 1 C (ckD_get k_X5_joinAbove_1 15 rfl) rfl ?_
        have hJ_104 : ∀ (s_25 : Int32), f_X5_joinAbove_J104 x3_3 x4_4 v_12 v_14 M_22 x5_24 s_25 = some rr_15 → G K (0, 0) 104 [(0, .ref (K.2.1.1 + k0)), (1, .int a1), (2, .int a2), (4, .int x4_4), (5, .int x5_24), (6, .int v_12), (7, .int v_14)] [.int s_25, .int x3_3] M_22 := by
          intro s_25 hf
          unfold f_X5_joinAbove_J104 at hf
          refine g_isub C (ckD_get k_X5_joinAbove_1 20 rfl) ?_
          obtain ⟨x3_26, ex3_26, hf⟩ := lt_e hf
          refine topI ex3_26 ?_
          refine g_istore_n (lv' := [(3, _), (0, _), (1, _), (2, _), (4, _), (5, _), (6, _), (7, _)]) C (ckD_get k_X5_joinAbove_1 21 rfl) rfl hL3 rfl ?_
          refine g_iload 4 C (ckD_get k_X5_joinAbove_1 22 rfl) rfl ?_
          refine g_iload 7 C (ckD_get k_X5_joinAbove_1 23 rfl) rfl ?_
          refine g_iload 6 C (ckD_get k_X5_joinAbove_1 24 rfl) rfl ?_
          have hJ_120 : ∀ (s_27 : Int32), f_X5_joinAbove_J120 x4_4 M_22 x5_24 x3_26 s_27 = some rr_15 → G K (0, 0) 120 [(0, .ref (K.2.1.1 + k0)), (1, .int a1), (2, .int a2), (3, .int x3_26), (5, .int x5_24)] [.int s_27, .int x4_4] M_22 := by
            intro s_27 hf
            unfold f_X5_joinAbove_J120 at hf
            refine g_isub C (ckD_get k_X5_joinAbove_1 29 rfl) ?_
            obtain ⟨x4_28, ex4_28, hf⟩ := lt_e hf
            refine topI ex4_28 ?_
            refine g_istore (lv' := [(4, _), (0, _), (1, _), (2, _), (3, _), (5, _)]) C (ckD_get k_X5_joinAbove_1 30 rfl) hL4 rfl ?_
            refine g_goto C (ckD_get k_X5_joinAbove_1 31 rfl) ?_
            refine G.sub [1, 2, 3, 4, 0, 5] rfl ?_
            cases hf
            exact hn_15 _ rfl
          refine g_icmp_lt C (ckD_get k_X5_joinAbove_1 25 rfl) (fun c_29 => ?_) (fun c_29 => ?_)
          · have hf := if_t hf c_29
            refine g_iconst (v := (0 : Int32)) C (ckD_get k_X5_joinAbove_1 28 rfl) (by decide) ?_
            refine G.sub [1, 2, 3, 0, 5] rfl ?_
            exact hJ_120 _ hf
          · have hf := if_f hf c_29
            refine g_iconst (v := (1 : Int32)) C (ckD_get k_X5_joinAbove_1 26 rfl) (by decide) ?_
            refine g_goto C (ckD_get k_X5_joinAbove_1 27 rfl) ?_
            refine G.sub [1, 2, 3, 0, 5] rfl ?_
            exact hJ_120 _ hf
        refine g_icmp_lt C (ckD_get k_X5_joinAbove_1 16 rfl) (fun c_30 => ?_) (fun c_30 => ?_)
        · have hf := if_t hf c_30
          refine g_iconst (v := (0 : Int32)) C (ckD_get k_X5_joinAbove_1 19 rfl) (by decide) ?_
          refine G.sub [3, 4, 5, 7, 0, 2, 1] rfl ?_
          exact hJ_104 _ hf
        · have hf := if_f hf c_30
          refine g_iconst (v := (1 : Int32)) C (ckD_get k_X5_joinAbove_1 17 rfl) (by decide) ?_
          refine g_goto C (ckD_get k_X5_joinAbove_1 18 rfl) ?_
          refine G.sub [3, 4, 5, 7, 0, 2, 1] rfl ?_
          exact hJ_104 _ hf

set_option maxRecDepth 20000 in
theorem k_X5_joinBeside_0 : ckD cX5_joinBeside [(0, .iload_n 1, 1, 1, 0), (1, .istore_n 3, 1, 2, 0), (2, .iload_n 2, 1, 3, 0), (3, .istore 4, 2, 5, 0), (5, .iconst 0, 1, 6, 0), (6, .istore 5, 2, 8, 0), (8, .iload_n 3, 1, 9, 0), (9, .iload_n 2, 1, 10, 0), (10, .if_icmp .ge 112, 3, 13, 122), (13, .iload 4, 2, 15, 0), (15, .aload_n 0, 1, 16, 0), (16, .getfield 27, 3, 19, 0), (19, .if_icmp .ge 103, 3, 22, 122), (22, .iload 5, 2, 24, 0), (24, .aload_n 0, 1, 25, 0), (25, .getfield 18, 3, 28, 0), (28, .arraylength, 1, 29, 0), (29, .if_icmp .ge 93, 3, 32, 122), (32, .aload_n 0, 1, 33, 0), (33, .getfield 15, 3, 36, 0), (36, .iload_n 3, 1, 37, 0), (37, .iaload, 1, 38, 0), (38, .istore 6, 2, 40, 0), (40, .aload_n 0, 1, 41, 0), (41, .getfield 15, 3, 44, 0), (44, .iload 4, 2, 46, 0), (46, .iaload, 1, 47, 0), (47, .istore 7, 2, 49, 0), (49, .aload_n 0, 1, 50, 0), (50, .getfield 18, 3, 53, 0), (53, .iload 5, 2, 55, 0), (55, .aload_n 0, 1, 56, 0), (56, .getfield 9, 3, 59, 0), (59, .iload_n 3, 1, 60, 0), (60, .iaload, 1, 61, 0), (61, .aload_n 0, 1, 62, 0), (62, .getfield 9, 3, 65, 0), (65, .iload 4, 2, 67, 0), (67, .iaload, 1, 68, 0), (68, .iadd, 1, 69, 0)] = true := by decide +kernel
set_option maxRecDepth 20000 in
theorem k_X5_joinBeside_1 : ckD cX5_joinBeside [(69, .iastore, 1, 70, 0), (70, .aload_n 0, 1, 71, 0), (71, .getfield 21, 3, 74, 0), (74, .iload 5, 2, 76, 0), (76, .iload 6, 2, 78, 0), (78, .iload 7, 2, 80, 0), (80, .invokestatic 73, 3, 83, 0), (83, .iastore, 1, 84, 0), (84, .iinc 5 1, 3, 87, 0), (87, .iload_n 3, 1, 88, 0), (88, .iload 6, 2, 90, 0), (90, .iload 7, 2, 92, 0), (92, .if_icmp .lt 7, 3, 95, 99), (95, .iconst 1, 1, 96, 0), (96, .goto 4, 3, 99, 100), (99, .iconst 0, 1, 100, 0), (100, .iadd, 1, 101, 0), (101, .istore_n 3, 1, 102, 0), (102, .iload 4, 2, 104, 0), (104, .iload 7, 2, 106, 0), (106, .iload 6, 2, 108, 0), (108, .if_icmp .lt 7, 3, 111, 115), (111, .iconst 1, 1, 112, 0), (112, .goto 4, 3, 115, 116), (115, .iconst 0, 1, 116, 0), (116, .iadd, 1, 117, 0), (117, .istore 4, 2, 119, 0), (119, .goto (-111), 3, 122, 8), (122, .iload 5, 2, 124, 0), (124, .ireturn, 1, 125, 0)] = true := by decide +kernel
def f_X5_joinBeside_A8 (x5_5 : Int32) (M_6 : Mm) : Option (Int32 × Mm) := some (x5_5, M_6)
def f_X5_joinBeside_J116 (x4_2 : Int32) (M_20 : Mm) (x5_22 : Int32) (x3_24 : Int32) (s_25 : Int32) : Option ((Int32 × Int32 × Int32 × Mm) ⊕ (Int32 × Mm)) := lt1 (x4_2 + s_25) fun x4_26 => some (.inl (x3_24, x4_26, x5_22, M_20))
def f_X5_joinBeside_J100 (x3_1 : Int32) (x4_2 : Int32) (v_10 : Int32) (v_12 : Int32) (M_20 : Mm) (x5_22 : Int32) (s_23 : Int32) : Option ((Int32 × Int32 × Int32 × Mm) ⊕ (Int32 × Mm)) := lt1 (x3_1 + s_23) fun x3_24 => if v_12 < v_10 then f_X5_joinBeside_J116 x4_2 M_20 x5_22 x3_24 (0 : Int32) else f_X5_joinBeside_J116 x4_2 M_20 x5_22 x3_24 (1 : Int32)
def f_X5_joinBeside_L8 (k0 : Nat) (a2 : Int32) (x3_1 : Int32) (x4_2 : Int32) (x5_3 : Int32) (M_4 : Mm) : Option ((Int32 × Int32 × Int32 × Mm) ⊕ (Int32 × Mm)) := if a2 ≤ x3_1 then some (.inr (x5_3, M_4)) else if (M_4.1 k0 5) ≤ x4_2 then some (.inr (x5_3, M_4)) else if (26 : Int32) ≤ x5_3 then some (.inr (x5_3, M_4)) else rdI 26 M_4 (k0 + 2) x3_1 fun v_10 => rdI 26 M_4 (k0 + 2) x4_2 fun v_12 => rdI 26 M_4 (k0 + 1) x3_1 fun v_14 => rdI 26 M_4 (k0 + 1) x4_2 fun v_16 => wrI 26 M_4 (k0 + 3) x5_3 (v_14 + v_16) fun M_18 => wrI 26 M_18 (k0 + 4) x5_3 (jmax v_10 v_12) fun M_20 => lt1 (x5_3 + 1) fun x5_22 => if v_10 < v_12 then f_X5_joinBeside_J100 x3_1 x4_2 v_10 v_12 M_20 x5_22 (0 : Int32) else f_X5_joinBeside_J100 x3_1 x4_2 v_10 v_12 M_20 x5_22 (1 : Int32)
def f_X5_joinBeside (k0 : Nat) (a1 : Int32) (a2 : Int32) (M : Mm) : Option (Int32 × Mm) := (loop (fun v => f_X5_joinBeside_L8 k0 a2 v.1 v.2.1 v.2.2.1 v.2.2.2) FU (a1, a2, (0 : Int32), M)).bind fun z => f_X5_joinBeside_A8 z.1 z.2
set_option maxRecDepth 100000 in
set_option maxHeartbeats 4000000 in
theorem t_X5_joinBeside {E : Ev} {l : Launch} (htr : l.stackTraces = false) (k0 : Nat) (hk0 : isOu k0) (a1 : Int32) (a2 : Int32) (M : Mm) (r : (Int32 × Mm)) (hf : f_X5_joinBeside k0 a1 a2 M = some r) : CM E l 1 0 0 yX5_joinBeside cX5_joinBeside 8 (some .int) [.ref (E.1 + k0), .int a1, .int a2] M (some (.int r.1)) r.2 := by
  refine CM.of htr (by decide +kernel) (Nat.le_of_ble_eq_true rfl) ?_
  intro K hE hL hl hR0 C hr hRv
  subst hE
  subst hl
  have C : Cx K cX5_joinBeside RX5 1 := C
  have hB : (0 : Nat) ≤ K.1.R.cells ∧ 0 ≤ K.1.R.slots := ⟨Nat.zero_le _, Nat.zero_le _⟩
  have hL3 : 3 < K.2.2.1 := by rw [hL]; decide
  have hL4 : 4 < K.2.2.1 := by rw [hL]; decide
  have hL5 : 5 < K.2.2.1 := by rw [hL]; decide
  have hL6 : 6 < K.2.2.1 := by rw [hL]; decide
  have hL7 : 7 < K.2.2.1 := by rw [hL]; decide
  show G K (0, 0) 0 [(0, .ref (K.2.1.1 + k0)), (1, .int a1), (2, .int a2)] [] M
  unfold f_X5_joinBeside at hf
  refine g_iload_n 1 C (ckD_get k_X5_joinBeside_0 0 rfl) rfl rfl ?_
  refine g_istore_n (lv' := [(3, _), (0, _), (1, _), (2, _)]) C (ckD_get k_X5_joinBeside_0 1 rfl) rfl hL3 rfl ?_
  refine g_iload_n 3 C (ckD_get k_X5_joinBeside_0 2 rfl) rfl rfl ?_
  refine g_istore (lv' := [(4, _), (3, _), (0, _), (1, _), (2, _)]) C (ckD_get k_X5_joinBeside_0 3 rfl) hL4 rfl ?_
  refine g_iconst (v := (0 : Int32)) C (ckD_get k_X5_joinBeside_0 4 rfl) (by decide) ?_
  refine g_istore (lv' := [(5, _), (4, _), (3, _), (0, _), (1, _), (2, _)]) C (ckD_get k_X5_joinBeside_0 5 rfl) hL5 rfl ?_
  refine G.sub [3, 5, 2, 1, 0] rfl ?_
  obtain ⟨xx_8, hx_8, hf⟩ := bd_e hf
  obtain ⟨x5_5, M_6⟩ := xx_8
  have hE_8 : G K (0, 0) 122 [(5, .int x5_5)] [] M_6 := by
    have hf : f_X5_joinBeside_A8 x5_5 M_6 = some r := hf
    unfold f_X5_joinBeside_A8 at hf
    refine g_iload 0 C (ckD_get k_X5_joinBeside_1 28 rfl) rfl ?_
    cases hf
    exact g_iret C (ckD_get k_X5_joinBeside_1 29 rfl) hr hRv (Nat.le_refl _) (Nat.le_refl _)
  refine loop_e (x := (x5_5, M_6)) (P := fun (v : (Int32 × Int32 × Int32 × Mm)) => G K (0, 0) 8 [(0, .ref (K.2.1.1 + k0)), (2, .int a2), (3, .int v.1), (4, .int v.2.1), (5, .int v.2.2.1)] [] v.2.2.2) ?_ FU _ hx_8
  intro v rr_8 hf hn_8 hz_8
  obtain ⟨x3_1, x4_2, x5_3, M_4⟩ := v
  have hf : f_X5_joinBeside_L8 k0 a2 x3_1 x4_2 x5_3 M_4 = some rr_8 := hf
  show G K (0, 0) 8 [(0, .ref (K.2.1.1 + k0)), (2, .int a2), (3, .int x3_1), (4, .int x4_2), (5, .int x5_3)] [] M_4
  unfold f_X5_joinBeside_L8 at hf
  refine g_iload_n 2 C (ckD_get k_X5_joinBeside_0 6 rfl) rfl rfl ?_
  refine g_iload_n 1 C (ckD_get k_X5_joinBeside_0 7 rfl) rfl rfl ?_
  refine g_icmp_ge C (ckD_get k_X5_joinBeside_0 8 rfl) (fun c_7 => ?_) (fun c_7 => ?_)
  · have hf := if_t hf c_7
    refine G.sub [4] rfl ?_
    cases hf
    cases hz_8 _ rfl
    exact hE_8
  · have hf := if_f hf c_7
    refine g_iload 3 C (ckD_get k_X5_joinBeside_0 9 rfl) rfl ?_
    refine g_aload_n 0 C (ckD_get k_X5_joinBeside_0 10 rfl) rfl rfl ?_
    refine g_getI C (ckD_get k_X5_joinBeside_0 11 rfl) fk_X5_27 (T_Ou hk0) rfl ?_
    refine g_icmp_ge C (ckD_get k_X5_joinBeside_0 12 rfl) (fun c_8 => ?_) (fun c_8 => ?_)
    · have hf := if_t hf c_8
      refine G.sub [4] rfl ?_
      cases hf
      cases hz_8 _ rfl
      exact hE_8
    · have hf := if_f hf c_8
      refine g_iload 4 C (ckD_get k_X5_joinBeside_0 13 rfl) rfl ?_
      refine g_aload_n 0 C (ckD_get k_X5_joinBeside_0 14 rfl) rfl rfl ?_
      refine g_getR C (ckD_get k_X5_joinBeside_0 15 rfl) fk_X5_18 (T_Ou hk0) rfl ?_
      refine g_alen (v := 26) C (ckD_get k_X5_joinBeside_0 16 rfl) (T_Ou3 hk0) (by decide) ?_
      refine g_icmp_ge C (ckD_get k_X5_joinBeside_0 17 rfl) (fun c_9 => ?_) (fun c_9 => ?_)
      · have hf := if_t hf c_9
        refine G.sub [4] rfl ?_
        cases hf
        cases hz_8 _ rfl
        exact hE_8
      · have hf := if_f hf c_9
        refine g_aload_n 0 C (ckD_get k_X5_joinBeside_0 18 rfl) rfl rfl ?_
        refine g_getR C (ckD_get k_X5_joinBeside_0 19 rfl) fk_X5_15 (T_Ou hk0) rfl ?_
        refine g_iload_n 2 C (ckD_get k_X5_joinBeside_0 20 rfl) rfl rfl ?_
        obtain ⟨v_10, hi_11, ev_10, hf⟩ := rdI_e hf
        refine n_iald C (ckD_get k_X5_joinBeside_0 21 rfl) (T_Ou2 hk0) hi_11 ev_10 ?_
        refine g_istore (lv' := [(6, _), (0, _), (2, _), (3, _), (4, _), (5, _)]) C (ckD_get k_X5_joinBeside_0 22 rfl) hL6 rfl ?_
        refine g_aload_n 1 C (ckD_get k_X5_joinBeside_0 23 rfl) rfl rfl ?_
        refine g_getR C (ckD_get k_X5_joinBeside_0 24 rfl) fk_X5_15 (T_Ou hk0) rfl ?_
        refine g_iload 4 C (ckD_get k_X5_joinBeside_0 25 rfl) rfl ?_
        obtain ⟨v_12, hi_13, ev_12, hf⟩ := rdI_e hf
        refine n_iald C (ckD_get k_X5_joinBeside_0 26 rfl) (T_Ou2 hk0) hi_13 ev_12 ?_
        refine g_istore (lv' := [(7, _), (6, _), (0, _), (2, _), (3, _), (4, _), (5, _)]) C (ckD_get k_X5_joinBeside_0 27 rfl) hL7 rfl ?_
        refine g_aload_n 2 C (ckD_get k_X5_joinBeside_0 28 rfl) rfl rfl ?_
        refine g_getR C (ckD_get k_X5_joinBeside_0 29 rfl) fk_X5_18 (T_Ou hk0) rfl ?_
        refine g_iload 6 C (ckD_get k_X5_joinBeside_0 30 rfl) rfl ?_
        refine g_aload_n 2 C (ckD_get k_X5_joinBeside_0 31 rfl) rfl rfl ?_
        refine g_getR C (ckD_get k_X5_joinBeside_0 32 rfl) fk_X5_9 (T_Ou hk0) rfl ?_
        refine g_iload_n 4 C (ckD_get k_X5_joinBeside_0 33 rfl) rfl rfl ?_
        obtain ⟨v_14, hi_15, ev_14, hf⟩ := rdI_e hf
        refine n_iald C (ckD_get k_X5_joinBeside_0 34 rfl) (T_Ou1 hk0) hi_15 ev_14 ?_
        refine g_aload_n 2 C (ckD_get k_X5_joinBeside_0 35 rfl) rfl rfl ?_
        refine g_getR C (ckD_get k_X5_joinBeside_0 36 rfl) fk_X5_9 (T_Ou hk0) rfl ?_
        refine g_iload 5 C (ckD_get k_X5_joinBeside_0 37 rfl) rfl ?_
        obtain ⟨v_16, hi_17, ev_16, hf⟩ := rdI_e hf
        refine n_iald C (ckD_get k_X5_joinBeside_0 38 rfl) (T_Ou1 hk0) hi_17 ev_16 ?_
        refine g_iadd C (ckD_get k_X5_joinBeside_0 39 rfl) ?_
        obtain ⟨M_18, hi_19, eM_18, hf⟩ := wrI_e hf
        refine n_iast C (ckD_get k_X5_joinBeside_1 0 rfl) (T_Ou3 hk0) hi_19 eM_18 ?_
        refine g_aload_n 2 C (ckD_get k_X5_joinBeside_1 1 rfl) rfl rfl ?_
        refine g_getR C (ckD_get k_X5_joinBeside_1 2 rfl) fk_X5_21 (T_Ou hk0) rfl ?_
        refine g_iload 6 C (ckD_get k_X5_joinBeside_1 3 rfl) rfl ?_
        refine g_iload 1 C (ckD_get k_X5_joinBeside_1 4 rfl) rfl ?_
        refine g_iload 0 C (ckD_get k_X5_joinBeside_1 5 rfl) rfl ?_
        refine n_mmax C (ckD_get k_X5_joinBeside_1 6 rfl) mk_X5_73 (by decide) (Nat.le_of_ble_eq_true rfl) hB ?_
        obtain ⟨M_20, hi_21, eM_20, hf⟩ := wrI_e hf
        refine n_iast C (ckD_get k_X5_joinBeside_1 7 rfl) (T_Ou4 hk0) hi_21 eM_20 ?_
        obtain ⟨x5_22, ex5_22, hf⟩ := lt_e hf
        refine g_iinc (lv' := [(5, _), (7, _), (6, _), (0, _), (2, _), (3, _), (4, _)]) 6 C (ckD_get k_X5_joinBeside_1 8 rfl) rfl ex5_22 hL5 rfl ?_
        refine g_iload_n 5 C (ckD_get k_X5_joinBeside_1 9 rfl) rfl rfl ?_
        refine g_iload 2 C (ckD_get k_X5_joinBeside_1 10 rfl) rfl ?_
        refine g_iload 1 C (ckD_get k_X5_joinBeside_1 11 rfl) rfl ?_
        have hJ_100 : ∀ (s_23 : Int32), f_X5_joinBeside_J100 x3_1 x4_2 v_10 v_12 M_20 x5_22 s_23 = some rr_8 → G K (0, 0) 100 [(0, .ref (K.2.1.1 + k0)), (2, .int a2), (4, .int x4_2), (5, .int x5_22), (6, .int v_10), (7, .int v_12)] [.int s_23, .int x3_1] M_20 := by
          intro s_23 hf
          unfold f_X5_joinBeside_J100 at hf
          refine g_iadd C (ckD_get k_X5_joinBeside_1 16 rfl) ?_
          obtain ⟨x3_24, ex3_24, hf⟩ := lt_e hf
          refine topI ex3_24 ?_
          refine g_istore_n (lv' := [(3, _), (0, _), (2, _), (4, _), (5, _), (6, _), (7, _)]) C (ckD_get k_X5_joinBeside_1 17 rfl) rfl hL3 rfl ?_
          refine g_iload 3 C (ckD_get k_X5_joinBeside_1 18 rfl) rfl ?_
          refine g_iload 6 C (ckD_get k_X5_joinBeside_1 19 rfl) rfl ?_
          refine g_iload 5 C (ckD_get k_X5_joinBeside_1 20 rfl) rfl ?_
          have hJ_116 : ∀ (s_25 : Int32), f_X5_joinBeside_J116 x4_2 M_20 x5_22 x3_24 s_25 = some rr_8 → G K (0, 0) 116 [(0, .ref (K.2.1.1 + k0)), (2, .int a2), (3, .int x3_24), (5, .int x5_22)] [.int s_25, .int x4_2] M_20 := by
            intro s_25 hf
            unfold f_X5_joinBeside_J116 at hf
            refine g_iadd C (ckD_get k_X5_joinBeside_1 25 rfl) ?_
            obtain ⟨x4_26, ex4_26, hf⟩ := lt_e hf
            refine topI ex4_26 ?_
            refine g_istore (lv' := [(4, _), (0, _), (2, _), (3, _), (5, _)]) C (ckD_get k_X5_joinBeside_1 26 rfl) hL4 rfl ?_
            refine g_goto C (ckD_get k_X5_joinBeside_1 27 rfl) ?_
            refine G.sub [1, 2, 3, 0, 4] rfl ?_
            cases hf
            exact hn_8 _ rfl
          refine g_icmp_lt C (ckD_get k_X5_joinBeside_1 21 rfl) (fun c_27 => ?_) (fun c_27 => ?_)
          · have hf := if_t hf c_27
            refine g_iconst (v := (0 : Int32)) C (ckD_get k_X5_joinBeside_1 24 rfl) (by decide) ?_
            refine G.sub [1, 2, 0, 4] rfl ?_
            exact hJ_116 _ hf
          · have hf := if_f hf c_27
            refine g_iconst (v := (1 : Int32)) C (ckD_get k_X5_joinBeside_1 22 rfl) (by decide) ?_
            refine g_goto C (ckD_get k_X5_joinBeside_1 23 rfl) ?_
            refine G.sub [1, 2, 0, 4] rfl ?_
            exact hJ_116 _ hf
        refine g_icmp_lt C (ckD_get k_X5_joinBeside_1 12 rfl) (fun c_28 => ?_) (fun c_28 => ?_)
        · have hf := if_t hf c_28
          refine g_iconst (v := (0 : Int32)) C (ckD_get k_X5_joinBeside_1 15 rfl) (by decide) ?_
          refine G.sub [3, 4, 6, 0, 2, 1] rfl ?_
          exact hJ_100 _ hf
        · have hf := if_f hf c_28
          refine g_iconst (v := (1 : Int32)) C (ckD_get k_X5_joinBeside_1 13 rfl) (by decide) ?_
          refine g_goto C (ckD_get k_X5_joinBeside_1 14 rfl) ?_
          refine G.sub [3, 4, 6, 0, 2, 1] rfl ?_
          exact hJ_100 _ hf

set_option maxRecDepth 20000 in
theorem k_X5_takeJoined_0 : ckD cX5_takeJoined [(0, .aload_n 0, 1, 1, 0), (1, .iload_n 1, 1, 2, 0), (2, .putfield 27, 3, 5, 0), (5, .iconst 0, 1, 6, 0), (6, .istore_n 3, 1, 7, 0), (7, .iload_n 3, 1, 8, 0), (8, .iload_n 2, 1, 9, 0), (9, .if_icmp .ge 25, 3, 12, 34), (12, .aload_n 0, 1, 13, 0), (13, .aload_n 0, 1, 14, 0), (14, .getfield 18, 3, 17, 0), (17, .iload_n 3, 1, 18, 0), (18, .iaload, 1, 19, 0), (19, .aload_n 0, 1, 20, 0), (20, .getfield 21, 3, 23, 0), (23, .iload_n 3, 1, 24, 0), (24, .iaload, 1, 25, 0), (25, .invokevirtual 76, 3, 28, 0), (28, .iinc 3 1, 3, 31, 0), (31, .goto (-24), 3, 34, 7), (34, .return_, 1, 35, 0)] = true := by decide +kernel
def f_X5_takeJoined_A7 (M_4 : Mm) : Option Mm := some M_4
def f_X5_takeJoined_L7 (k0 : Nat) (a2 : Int32) (x3_2 : Int32) (M_3 : Mm) : Option ((Int32 × Mm) ⊕ Mm) := if a2 ≤ x3_2 then some (.inr M_3) else rdI 26 M_3 (k0 + 3) x3_2 fun v_6 => rdI 26 M_3 (k0 + 4) x3_2 fun v_8 => (f_X5_addShape k0 v_6 v_8 M_3).bind fun M_11 => lt1 (x3_2 + 1) fun x3_12 => some (.inl (x3_12, M_11))
def f_X5_takeJoined (k0 : Nat) (a1 : Int32) (a2 : Int32) (M : Mm) : Option Mm := lt1 (wi M k0 5 a1) fun M_1 => (loop (fun v => f_X5_takeJoined_L7 k0 a2 v.1 v.2) FU ((0 : Int32), M_1)).bind fun z => f_X5_takeJoined_A7 z
set_option maxRecDepth 100000 in
set_option maxHeartbeats 4000000 in
theorem t_X5_takeJoined {E : Ev} {l : Launch} (htr : l.stackTraces = false) (k0 : Nat) (hk0 : isOu k0) (a1 : Int32) (a2 : Int32) (M : Mm) (r : Mm) (hf : f_X5_takeJoined k0 a1 a2 M = some r) : CM E l 1 0 0 yX5_takeJoined cX5_takeJoined 4 none [.ref (E.1 + k0), .int a1, .int a2] M none r := by
  refine CM.of htr (by decide +kernel) (Nat.le_of_ble_eq_true rfl) ?_
  intro K hE hL hl hR0 C hr hRv
  subst hE
  subst hl
  have C : Cx K cX5_takeJoined RX5 1 := C
  have hB : (0 : Nat) ≤ K.1.R.cells ∧ 0 ≤ K.1.R.slots := ⟨Nat.zero_le _, Nat.zero_le _⟩
  have hL3 : 3 < K.2.2.1 := by rw [hL]; decide
  show G K (0, 0) 0 [(0, .ref (K.2.1.1 + k0)), (1, .int a1), (2, .int a2)] [] M
  unfold f_X5_takeJoined at hf
  refine g_aload_n 0 C (ckD_get k_X5_takeJoined_0 0 rfl) rfl rfl ?_
  refine g_iload_n 1 C (ckD_get k_X5_takeJoined_0 1 rfl) rfl rfl ?_
  obtain ⟨M_1, eM_1, hf⟩ := lt_e hf
  refine g_putI C (ckD_get k_X5_takeJoined_0 2 rfl) fk_X5_27 (T_Ou hk0) rfl ?_
  refine memI eM_1 ?_
  refine g_iconst (v := (0 : Int32)) C (ckD_get k_X5_takeJoined_0 3 rfl) (by decide) ?_
  refine g_istore_n (lv' := [(3, _), (0, _), (1, _), (2, _)]) C (ckD_get k_X5_takeJoined_0 4 rfl) rfl hL3 rfl ?_
  refine G.sub [1, 3, 0] rfl ?_
  obtain ⟨M_4, hx_7, hf⟩ := bd_e hf
  have hE_7 : G K (0, 0) 34 [] [] M_4 := by
    have hf : f_X5_takeJoined_A7 M_4 = some r := hf
    unfold f_X5_takeJoined_A7 at hf
    cases hf
    exact g_vret C (ckD_get k_X5_takeJoined_0 20 rfl) hr hRv (Nat.le_refl _) (Nat.le_refl _)
  refine loop_e (x := M_4) (P := fun (v : (Int32 × Mm)) => G K (0, 0) 7 [(0, .ref (K.2.1.1 + k0)), (2, .int a2), (3, .int v.1)] [] v.2) ?_ FU _ hx_7
  intro v rr_7 hf hn_7 hz_7
  obtain ⟨x3_2, M_3⟩ := v
  have hf : f_X5_takeJoined_L7 k0 a2 x3_2 M_3 = some rr_7 := hf
  show G K (0, 0) 7 [(0, .ref (K.2.1.1 + k0)), (2, .int a2), (3, .int x3_2)] [] M_3
  unfold f_X5_takeJoined_L7 at hf
  refine g_iload_n 2 C (ckD_get k_X5_takeJoined_0 5 rfl) rfl rfl ?_
  refine g_iload_n 1 C (ckD_get k_X5_takeJoined_0 6 rfl) rfl rfl ?_
  refine g_icmp_ge C (ckD_get k_X5_takeJoined_0 7 rfl) (fun c_5 => ?_) (fun c_5 => ?_)
  · have hf := if_t hf c_5
    refine G.sub [] rfl ?_
    cases hf
    cases hz_7 _ rfl
    exact hE_7
  · have hf := if_f hf c_5
    refine g_aload_n 0 C (ckD_get k_X5_takeJoined_0 8 rfl) rfl rfl ?_
    refine g_aload_n 0 C (ckD_get k_X5_takeJoined_0 9 rfl) rfl rfl ?_
    refine g_getR C (ckD_get k_X5_takeJoined_0 10 rfl) fk_X5_18 (T_Ou hk0) rfl ?_
    refine g_iload_n 2 C (ckD_get k_X5_takeJoined_0 11 rfl) rfl rfl ?_
    obtain ⟨v_6, hi_7, ev_6, hf⟩ := rdI_e hf
    refine n_iald C (ckD_get k_X5_takeJoined_0 12 rfl) (T_Ou3 hk0) hi_7 ev_6 ?_
    refine g_aload_n 0 C (ckD_get k_X5_takeJoined_0 13 rfl) rfl rfl ?_
    refine g_getR C (ckD_get k_X5_takeJoined_0 14 rfl) fk_X5_21 (T_Ou hk0) rfl ?_
    refine g_iload_n 2 C (ckD_get k_X5_takeJoined_0 15 rfl) rfl rfl ?_
    obtain ⟨v_8, hi_9, ev_8, hf⟩ := rdI_e hf
    refine n_iald C (ckD_get k_X5_takeJoined_0 16 rfl) (T_Ou4 hk0) hi_9 ev_8 ?_
    obtain ⟨M_11, hr_10, hf⟩ := bd_e hf
    refine n_cV [.int v_6, .int v_8] [] C (ckD_get k_X5_takeJoined_0 17 rfl) vk_X5_76 (t_X5_addShape C.tr _ hk0 _ _ _ _ hr_10) (T_Ou hk0) rfl rfl (Nat.le_of_ble_eq_true rfl) (by decide) hB rfl ?_
    obtain ⟨x3_12, ex3_12, hf⟩ := lt_e hf
    refine g_iinc (lv' := [(3, _), (0, _), (2, _)]) 2 C (ckD_get k_X5_takeJoined_0 18 rfl) rfl ex3_12 hL3 rfl ?_
    refine g_goto C (ckD_get k_X5_takeJoined_0 19 rfl) ?_
    refine G.sub [1, 2, 0] rfl ?_
    cases hf
    exact hn_7 _ rfl

set_option maxRecDepth 20000 in
theorem k_X5_takeJoinedBackward_0 : ckD cX5_takeJoinedBackward [(0, .aload_n 0, 1, 1, 0), (1, .iload_n 1, 1, 2, 0), (2, .putfield 27, 3, 5, 0), (5, .iload_n 2, 1, 6, 0), (6, .iconst 1, 1, 7, 0), (7, .isub, 1, 8, 0), (8, .istore_n 3, 1, 9, 0), (9, .iload_n 3, 1, 10, 0), (10, .ifCond .lt 25, 3, 13, 35), (13, .aload_n 0, 1, 14, 0), (14, .aload_n 0, 1, 15, 0), (15, .getfield 18, 3, 18, 0), (18, .iload_n 3, 1, 19, 0), (19, .iaload, 1, 20, 0), (20, .aload_n 0, 1, 21, 0), (21, .getfield 21, 3, 24, 0), (24, .iload_n 3, 1, 25, 0), (25, .iaload, 1, 26, 0), (26, .invokevirtual 76, 3, 29, 0), (29, .iinc 3 (-1), 3, 32, 0), (32, .goto (-23), 3, 35, 9), (35, .return_, 1, 36, 0)] = true := by decide +kernel
def f_X5_takeJoinedBackward_A9 (M_5 : Mm) : Option Mm := some M_5
def f_X5_takeJoinedBackward_L9 (k0 : Nat) (x3_3 : Int32) (M_4 : Mm) : Option ((Int32 × Mm) ⊕ Mm) := if x3_3 < 0 then some (.inr M_4) else rdI 26 M_4 (k0 + 3) x3_3 fun v_7 => rdI 26 M_4 (k0 + 4) x3_3 fun v_9 => (f_X5_addShape k0 v_7 v_9 M_4).bind fun M_12 => lt1 (x3_3 + (-1)) fun x3_13 => some (.inl (x3_13, M_12))
def f_X5_takeJoinedBackward (k0 : Nat) (a1 : Int32) (a2 : Int32) (M : Mm) : Option Mm := lt1 (wi M k0 5 a1) fun M_1 => lt1 (a2 - (1 : Int32)) fun x3_2 => (loop (fun v => f_X5_takeJoinedBackward_L9 k0 v.1 v.2) FU (x3_2, M_1)).bind fun z => f_X5_takeJoinedBackward_A9 z
set_option maxRecDepth 100000 in
set_option maxHeartbeats 4000000 in
theorem t_X5_takeJoinedBackward {E : Ev} {l : Launch} (htr : l.stackTraces = false) (k0 : Nat) (hk0 : isOu k0) (a1 : Int32) (a2 : Int32) (M : Mm) (r : Mm) (hf : f_X5_takeJoinedBackward k0 a1 a2 M = some r) : CM E l 1 0 0 yX5_takeJoinedBackward cX5_takeJoinedBackward 4 none [.ref (E.1 + k0), .int a1, .int a2] M none r := by
  refine CM.of htr (by decide +kernel) (Nat.le_of_ble_eq_true rfl) ?_
  intro K hE hL hl hR0 C hr hRv
  subst hE
  subst hl
  have C : Cx K cX5_takeJoinedBackward RX5 1 := C
  have hB : (0 : Nat) ≤ K.1.R.cells ∧ 0 ≤ K.1.R.slots := ⟨Nat.zero_le _, Nat.zero_le _⟩
  have hL3 : 3 < K.2.2.1 := by rw [hL]; decide
  show G K (0, 0) 0 [(0, .ref (K.2.1.1 + k0)), (1, .int a1), (2, .int a2)] [] M
  unfold f_X5_takeJoinedBackward at hf
  refine g_aload_n 0 C (ckD_get k_X5_takeJoinedBackward_0 0 rfl) rfl rfl ?_
  refine g_iload_n 1 C (ckD_get k_X5_takeJoinedBackward_0 1 rfl) rfl rfl ?_
  obtain ⟨M_1, eM_1, hf⟩ := lt_e hf
  refine g_putI C (ckD_get k_X5_takeJoinedBackward_0 2 rfl) fk_X5_27 (T_Ou hk0) rfl ?_
  refine memI eM_1 ?_
  refine g_iload_n 2 C (ckD_get k_X5_takeJoinedBackward_0 3 rfl) rfl rfl ?_
  refine g_iconst (v := (1 : Int32)) C (ckD_get k_X5_takeJoinedBackward_0 4 rfl) (by decide) ?_
  refine g_isub C (ckD_get k_X5_takeJoinedBackward_0 5 rfl) ?_
  obtain ⟨x3_2, ex3_2, hf⟩ := lt_e hf
  refine topI ex3_2 ?_
  refine g_istore_n (lv' := [(3, _), (0, _), (1, _), (2, _)]) C (ckD_get k_X5_takeJoinedBackward_0 6 rfl) rfl hL3 rfl ?_
  refine G.sub [1, 0] rfl ?_
  obtain ⟨M_5, hx_9, hf⟩ := bd_e hf
  have hE_9 : G K (0, 0) 35 [] [] M_5 := by
    have hf : f_X5_takeJoinedBackward_A9 M_5 = some r := hf
    unfold f_X5_takeJoinedBackward_A9 at hf
    cases hf
    exact g_vret C (ckD_get k_X5_takeJoinedBackward_0 21 rfl) hr hRv (Nat.le_refl _) (Nat.le_refl _)
  refine loop_e (x := M_5) (P := fun (v : (Int32 × Mm)) => G K (0, 0) 9 [(0, .ref (K.2.1.1 + k0)), (3, .int v.1)] [] v.2) ?_ FU _ hx_9
  intro v rr_9 hf hn_9 hz_9
  obtain ⟨x3_3, M_4⟩ := v
  have hf : f_X5_takeJoinedBackward_L9 k0 x3_3 M_4 = some rr_9 := hf
  show G K (0, 0) 9 [(0, .ref (K.2.1.1 + k0)), (3, .int x3_3)] [] M_4
  unfold f_X5_takeJoinedBackward_L9 at hf
  refine g_iload_n 1 C (ckD_get k_X5_takeJoinedBackward_0 7 rfl) rfl rfl ?_
  refine g_if_lt C (ckD_get k_X5_takeJoinedBackward_0 8 rfl) (fun c_6 => ?_) (fun c_6 => ?_)
  · have hf := if_t hf c_6
    refine G.sub [] rfl ?_
    cases hf
    cases hz_9 _ rfl
    exact hE_9
  · have hf := if_f hf c_6
    refine g_aload_n 0 C (ckD_get k_X5_takeJoinedBackward_0 9 rfl) rfl rfl ?_
    refine g_aload_n 0 C (ckD_get k_X5_takeJoinedBackward_0 10 rfl) rfl rfl ?_
    refine g_getR C (ckD_get k_X5_takeJoinedBackward_0 11 rfl) fk_X5_18 (T_Ou hk0) rfl ?_
    refine g_iload_n 1 C (ckD_get k_X5_takeJoinedBackward_0 12 rfl) rfl rfl ?_
    obtain ⟨v_7, hi_8, ev_7, hf⟩ := rdI_e hf
    refine n_iald C (ckD_get k_X5_takeJoinedBackward_0 13 rfl) (T_Ou3 hk0) hi_8 ev_7 ?_
    refine g_aload_n 0 C (ckD_get k_X5_takeJoinedBackward_0 14 rfl) rfl rfl ?_
    refine g_getR C (ckD_get k_X5_takeJoinedBackward_0 15 rfl) fk_X5_21 (T_Ou hk0) rfl ?_
    refine g_iload_n 1 C (ckD_get k_X5_takeJoinedBackward_0 16 rfl) rfl rfl ?_
    obtain ⟨v_9, hi_10, ev_9, hf⟩ := rdI_e hf
    refine n_iald C (ckD_get k_X5_takeJoinedBackward_0 17 rfl) (T_Ou4 hk0) hi_10 ev_9 ?_
    obtain ⟨M_12, hr_11, hf⟩ := bd_e hf
    refine n_cV [.int v_7, .int v_9] [] C (ckD_get k_X5_takeJoinedBackward_0 18 rfl) vk_X5_76 (t_X5_addShape C.tr _ hk0 _ _ _ _ hr_11) (T_Ou hk0) rfl rfl (Nat.le_of_ble_eq_true rfl) (by decide) hB rfl ?_
    obtain ⟨x3_13, ex3_13, hf⟩ := lt_e hf
    refine g_iinc (lv' := [(3, _), (0, _)]) 1 C (ckD_get k_X5_takeJoinedBackward_0 19 rfl) rfl ex3_13 hL3 rfl ?_
    refine g_goto C (ckD_get k_X5_takeJoinedBackward_0 20 rfl) ?_
    refine G.sub [1, 0] rfl ?_
    cases hf
    exact hn_9 _ rfl

set_option maxRecDepth 20000 in
theorem k_X5_draw_0 : ckD cX5_draw [(0, .aload_n 0, 1, 1, 0), (1, .iconst 0, 1, 2, 0), (2, .putfield 27, 3, 5, 0), (5, .iconst 0, 1, 6, 0), (6, .istore 5, 2, 8, 0), (8, .iconst 0, 1, 9, 0), (9, .istore 6, 2, 11, 0), (11, .iload 6, 2, 13, 0), (13, .aload_n 1, 1, 14, 0), (14, .getfield 31, 3, 17, 0), (17, .if_icmp .ge 141, 3, 20, 158), (20, .aload_n 1, 1, 21, 0), (21, .getfield 36, 3, 24, 0), (24, .iload 6, 2, 26, 0), (26, .iaload, 1, 27, 0), (27, .istore 7, 2, 29, 0), (29, .iload 7, 2, 31, 0), (31, .bipush 12, 2, 33, 0), (33, .if_icmp .ge 51, 3, 36, 84), (36, .aload_n 0, 1, 37, 0), (37, .getfield 24, 3, 40, 0), (40, .iload 5, 2, 42, 0), (42, .aload_n 0, 1, 43, 0), (43, .getfield 27, 3, 46, 0), (46, .iastore, 1, 47, 0), (47, .iinc 5 1, 3, 50, 0), (50, .aload_n 0, 1, 51, 0), (51, .aload_n 2, 1, 52, 0), (52, .getfield 39, 3, 55, 0), (55, .iload 7, 2, 57, 0), (57, .iaload, 1, 58, 0), (58, .aload_n 2, 1, 59, 0), (59, .getfield 44, 3, 62, 0), (62, .iload 7, 2, 64, 0), (64, .iaload, 1, 65, 0), (65, .iload_n 3, 1, 66, 0), (66, .iload 7, 2, 68, 0), (68, .invokestatic 47, 3, 71, 0), (71, .iload 4, 2, 73, 0), (73, .iload 7, 2, 75, 0)] = true := by decide +kernel
set_option maxRecDepth 20000 in
theorem k_X5_draw_1 : ckD cX5_draw [(75, .invokestatic 47, 3, 78, 0), (78, .invokevirtual 51, 3, 81, 0), (81, .goto 71, 3, 84, 152), (84, .iload 5, 2, 86, 0), (86, .iconst 1, 1, 87, 0), (87, .if_icmp .le 65, 3, 90, 152), (90, .iinc 5 (-1), 3, 93, 0), (93, .aload_n 0, 1, 94, 0), (94, .getfield 24, 3, 97, 0), (97, .iload 5, 2, 99, 0), (99, .iconst 1, 1, 100, 0), (100, .isub, 1, 101, 0), (101, .iaload, 1, 102, 0), (102, .istore 8, 2, 104, 0), (104, .iload 7, 2, 106, 0), (106, .bipush 12, 2, 108, 0), (108, .if_icmp .ne 25, 3, 111, 133), (111, .aload_n 0, 1, 112, 0), (112, .iload 8, 2, 114, 0), (114, .aload_n 0, 1, 115, 0), (115, .iload 8, 2, 117, 0), (117, .aload_n 0, 1, 118, 0), (118, .getfield 24, 3, 121, 0), (121, .iload 5, 2, 123, 0), (123, .iaload, 1, 124, 0), (124, .invokevirtual 55, 3, 127, 0), (127, .invokevirtual 58, 3, 130, 0), (130, .goto 22, 3, 133, 152), (133, .aload_n 0, 1, 134, 0), (134, .iload 8, 2, 136, 0), (136, .aload_n 0, 1, 137, 0), (137, .iload 8, 2, 139, 0), (139, .aload_n 0, 1, 140, 0), (140, .getfield 24, 3, 143, 0), (143, .iload 5, 2, 145, 0), (145, .iaload, 1, 146, 0), (146, .invokevirtual 62, 3, 149, 0), (149, .invokevirtual 65, 3, 152, 0), (152, .iinc 6 1, 3, 155, 0), (155, .goto (-144), 3, 158, 11)] = true := by decide +kernel
set_option maxRecDepth 20000 in
theorem k_X5_draw_2 : ckD cX5_draw [(158, .return_, 1, 159, 0)] = true := by decide +kernel
def f_X5_draw_A11 (M_5 : Mm) : Option Mm := some M_5
def f_X5_draw_J152 (x6_3 : Int32) (p5_9 : Int32) (M_10 : Mm) : Option ((Int32 × Int32 × Mm) ⊕ Mm) := lt1 (x6_3 + 1) fun x6_11 => some (.inl (p5_9, x6_11, M_10))
def f_X5_draw_L11 (k0 : Nat) (k1 : Nat) (a3 : Int32) (a4 : Int32) (x5_2 : Int32) (x6_3 : Int32) (M_4 : Mm) : Option ((Int32 × Int32 × Mm) ⊕ Mm) := if (M_4.1 k1 5) ≤ x6_3 then some (.inr M_4) else rdI 23 M_4 (k1 + 1) x6_3 fun v_7 => if (12 : Int32) ≤ v_7 then (if x5_2 ≤ (1 : Int32) then f_X5_draw_J152 x6_3 x5_2 M_4 else lt1 (x5_2 + (-1)) fun x5_14 => rdI 13 M_4 (k0 + 5) (x5_14 - (1 : Int32)) fun v_15 => if v_7 = (12 : Int32) then rdI 13 M_4 (k0 + 5) x5_14 fun v_25 => bd2 (f_X5_joinBeside k0 v_15 v_25 M_4) fun r_29 M_28 => (f_X5_takeJoined k0 v_15 r_29 M_28).bind fun M_31 => f_X5_draw_J152 x6_3 x5_14 M_31 else rdI 13 M_4 (k0 + 5) x5_14 fun v_18 => bd2 (f_X5_joinAbove k0 v_15 v_18 M_4) fun r_22 M_21 => (f_X5_takeJoinedBackward k0 v_15 r_22 M_21).bind fun M_24 => f_X5_draw_J152 x6_3 x5_14 M_24) else wrI 13 M_4 (k0 + 5) x5_2 (M_4.1 k0 5) fun M_32 => lt1 (x5_2 + 1) fun x5_34 => rdI 12 M_32 2 v_7 fun v_35 => rdI 12 M_32 3 v_7 fun v_37 => (f_X5_addBlock k0 v_35 v_37 (f_X9_bitOf a3 v_7) (f_X9_bitOf a4 v_7) M_32).bind fun M_40 => f_X5_draw_J152 x6_3 x5_34 M_40
def f_X5_draw (k0 : Nat) (k1 : Nat) (a3 : Int32) (a4 : Int32) (M : Mm) : Option Mm := lt1 (wi M k0 5 (0 : Int32)) fun M_1 => (loop (fun v => f_X5_draw_L11 k0 k1 a3 a4 v.1 v.2.1 v.2.2) FU ((0 : Int32), (0 : Int32), M_1)).bind fun z => f_X5_draw_A11 z
set_option maxRecDepth 100000 in
set_option maxHeartbeats 4000000 in
theorem t_X5_draw {E : Ev} {l : Launch} (htr : l.stackTraces = false) (k0 : Nat) (hk0 : isOu k0) (k1 : Nat) (hk1 : isRo k1) (a3 : Int32) (a4 : Int32) (M : Mm) (r : Mm) (hf : f_X5_draw k0 k1 a3 a4 M = some r) : CM E l 2 0 0 yX5_draw cX5_draw 9 none [.ref (E.1 + k0), .ref (E.1 + k1), .ref (E.1 + 1), .int a3, .int a4] M none r := by
  refine CM.of htr (by decide +kernel) (Nat.le_of_ble_eq_true rfl) ?_
  intro K hE hL hl hR0 C hr hRv
  subst hE
  subst hl
  have C : Cx K cX5_draw RX5 2 := C
  have hB : (0 : Nat) ≤ K.1.R.cells ∧ 0 ≤ K.1.R.slots := ⟨Nat.zero_le _, Nat.zero_le _⟩
  have hL5 : 5 < K.2.2.1 := by rw [hL]; decide
  have hL6 : 6 < K.2.2.1 := by rw [hL]; decide
  have hL7 : 7 < K.2.2.1 := by rw [hL]; decide
  have hL8 : 8 < K.2.2.1 := by rw [hL]; decide
  show G K (0, 0) 0 [(0, .ref (K.2.1.1 + k0)), (1, .ref (K.2.1.1 + k1)), (2, .ref (K.2.1.1 + 1)), (3, .int a3), (4, .int a4)] [] M
  unfold f_X5_draw at hf
  refine g_aload_n 0 C (ckD_get k_X5_draw_0 0 rfl) rfl rfl ?_
  refine g_iconst (v := (0 : Int32)) C (ckD_get k_X5_draw_0 1 rfl) (by decide) ?_
  obtain ⟨M_1, eM_1, hf⟩ := lt_e hf
  refine g_putI C (ckD_get k_X5_draw_0 2 rfl) fk_X5_27 (T_Ou hk0) rfl ?_
  refine memI eM_1 ?_
  refine g_iconst (v := (0 : Int32)) C (ckD_get k_X5_draw_0 3 rfl) (by decide) ?_
  refine g_istore (lv' := [(5, _), (0, _), (1, _), (2, _), (3, _), (4, _)]) C (ckD_get k_X5_draw_0 4 rfl) hL5 rfl ?_
  refine g_iconst (v := (0 : Int32)) C (ckD_get k_X5_draw_0 5 rfl) (by decide) ?_
  refine g_istore (lv' := [(6, _), (5, _), (0, _), (1, _), (2, _), (3, _), (4, _)]) C (ckD_get k_X5_draw_0 6 rfl) hL6 rfl ?_
  refine G.sub [2, 3, 4, 5, 6, 1, 0] rfl ?_
  obtain ⟨M_5, hx_11, hf⟩ := bd_e hf
  have hE_11 : G K (0, 0) 158 [] [] M_5 := by
    have hf : f_X5_draw_A11 M_5 = some r := hf
    unfold f_X5_draw_A11 at hf
    cases hf
    exact g_vret C (ckD_get k_X5_draw_2 0 rfl) hr hRv (Nat.le_refl _) (Nat.le_refl _)
  refine loop_e (x := M_5) (P := fun (v : (Int32 × Int32 × Mm)) => G K (0, 0) 11 [(0, .ref (K.2.1.1 + k0)), (1, .ref (K.2.1.1 + k1)), (2, .ref (K.2.1.1 + 1)), (3, .int a3), (4, .int a4), (5, .int v.1), (6, .int v.2.1)] [] v.2.2) ?_ FU _ hx_11
  intro v rr_11 hf hn_11 hz_11
  obtain ⟨x5_2, x6_3, M_4⟩ := v
  have hf : f_X5_draw_L11 k0 k1 a3 a4 x5_2 x6_3 M_4 = some rr_11 := hf
  show G K (0, 0) 11 [(0, .ref (K.2.1.1 + k0)), (1, .ref (K.2.1.1 + k1)), (2, .ref (K.2.1.1 + 1)), (3, .int a3), (4, .int a4), (5, .int x5_2), (6, .int x6_3)] [] M_4
  unfold f_X5_draw_L11 at hf
  refine g_iload 6 C (ckD_get k_X5_draw_0 7 rfl) rfl ?_
  refine g_aload_n 1 C (ckD_get k_X5_draw_0 8 rfl) rfl rfl ?_
  refine g_getI C (ckD_get k_X5_draw_0 9 rfl) fk_X5_31 (T_Ro hk1) rfl ?_
  refine g_icmp_ge C (ckD_get k_X5_draw_0 10 rfl) (fun c_6 => ?_) (fun c_6 => ?_)
  · have hf := if_t hf c_6
    refine G.sub [] rfl ?_
    cases hf
    cases hz_11 _ rfl
    exact hE_11
  · have hf := if_f hf c_6
    refine g_aload_n 1 C (ckD_get k_X5_draw_0 11 rfl) rfl rfl ?_
    refine g_getR C (ckD_get k_X5_draw_0 12 rfl) fk_X5_36 (T_Ro hk1) rfl ?_
    refine g_iload 6 C (ckD_get k_X5_draw_0 13 rfl) rfl ?_
    obtain ⟨v_7, hi_8, ev_7, hf⟩ := rdI_e hf
    refine n_iald C (ckD_get k_X5_draw_0 14 rfl) (T_Ro1 hk1) hi_8 ev_7 ?_
    refine g_istore (lv' := [(7, _), (0, _), (1, _), (2, _), (3, _), (4, _), (5, _), (6, _)]) C (ckD_get k_X5_draw_0 15 rfl) hL7 rfl ?_
    refine g_iload 0 C (ckD_get k_X5_draw_0 16 rfl) rfl ?_
    refine g_bipush (v := (12 : Int32)) C (ckD_get k_X5_draw_0 17 rfl) (by decide) ?_
    have hJ_152 : ∀ (p5_9 : Int32) (M_10 : Mm), f_X5_draw_J152 x6_3 p5_9 M_10 = some rr_11 → G K (0, 0) 152 [(0, .ref (K.2.1.1 + k0)), (1, .ref (K.2.1.1 + k1)), (2, .ref (K.2.1.1 + 1)), (3, .int a3), (4, .int a4), (5, .int p5_9), (6, .int x6_3)] [] M_10 := by
      intro p5_9 M_10 hf
      unfold f_X5_draw_J152 at hf
      obtain ⟨x6_11, ex6_11, hf⟩ := lt_e hf
      refine g_iinc (lv' := [(6, _), (0, _), (1, _), (2, _), (3, _), (4, _), (5, _)]) 6 C (ckD_get k_X5_draw_1 38 rfl) rfl ex6_11 hL6 rfl ?_
      refine g_goto C (ckD_get k_X5_draw_1 39 rfl) ?_
      refine G.sub [1, 2, 3, 4, 5, 6, 0] rfl ?_
      cases hf
      exact hn_11 _ rfl
    refine g_icmp_ge C (ckD_get k_X5_draw_0 18 rfl) (fun c_12 => ?_) (fun c_12 => ?_)
    · have hf := if_t hf c_12
      refine g_iload 6 C (ckD_get k_X5_draw_1 3 rfl) rfl ?_
      refine g_iconst (v := (1 : Int32)) C (ckD_get k_X5_draw_1 4 rfl) (by decide) ?_
      refine g_icmp_le C (ckD_get k_X5_draw_1 5 rfl) (fun c_13 => ?_) (fun c_13 => ?_)
      · have hf := if_t hf c_13
        refine G.sub [1, 2, 3, 4, 5, 6, 7] rfl ?_
        exact hJ_152 _ _ hf
      · have hf := if_f hf c_13
        obtain ⟨x5_14, ex5_14, hf⟩ := lt_e hf
        refine g_iinc (lv' := [(5, _), (7, _), (0, _), (1, _), (2, _), (3, _), (4, _), (6, _)]) 6 C (ckD_get k_X5_draw_1 6 rfl) rfl ex5_14 hL5 rfl ?_
        refine g_aload_n 2 C (ckD_get k_X5_draw_1 7 rfl) rfl rfl ?_
        refine g_getR C (ckD_get k_X5_draw_1 8 rfl) fk_X5_24 (T_Ou hk0) rfl ?_
        refine g_iload 0 C (ckD_get k_X5_draw_1 9 rfl) rfl ?_
        refine g_iconst (v := (1 : Int32)) C (ckD_get k_X5_draw_1 10 rfl) (by decide) ?_
        refine g_isub C (ckD_get k_X5_draw_1 11 rfl) ?_
        obtain ⟨v_15, hi_16, ev_15, hf⟩ := rdI_e hf
        refine n_iald C (ckD_get k_X5_draw_1 12 rfl) (T_Ou5 hk0) hi_16 ev_15 ?_
        refine g_istore (lv' := [(8, _), (5, _), (7, _), (0, _), (1, _), (2, _), (3, _), (4, _), (6, _)]) C (ckD_get k_X5_draw_1 13 rfl) hL8 rfl ?_
        refine g_iload 2 C (ckD_get k_X5_draw_1 14 rfl) rfl ?_
        refine g_bipush (v := (12 : Int32)) C (ckD_get k_X5_draw_1 15 rfl) (by decide) ?_
        refine g_icmp_ne C (ckD_get k_X5_draw_1 16 rfl) (fun c_17 => ?_) (fun c_17 => ?_)
        · have hf := if_f hf c_17
          refine g_aload_n 3 C (ckD_get k_X5_draw_1 28 rfl) rfl rfl ?_
          refine g_iload 0 C (ckD_get k_X5_draw_1 29 rfl) rfl ?_
          refine g_aload_n 3 C (ckD_get k_X5_draw_1 30 rfl) rfl rfl ?_
          refine g_iload 0 C (ckD_get k_X5_draw_1 31 rfl) rfl ?_
          refine g_aload_n 3 C (ckD_get k_X5_draw_1 32 rfl) rfl rfl ?_
          refine g_getR C (ckD_get k_X5_draw_1 33 rfl) fk_X5_24 (T_Ou hk0) rfl ?_
          refine g_iload 1 C (ckD_get k_X5_draw_1 34 rfl) rfl ?_
          obtain ⟨v_18, hi_19, ev_18, hf⟩ := rdI_e hf
          refine n_iald C (ckD_get k_X5_draw_1 35 rfl) (T_Ou5 hk0) hi_19 ev_18 ?_
          obtain ⟨r_22, M_21, hr_20, hf⟩ := bd2_e hf
          refine n_cV [.int v_15, .int v_18] [.int v_15, .ref (K.2.1.1 + k0)] C (ckD_get k_X5_draw_1 36 rfl) vk_X5_62 (t_X5_joinAbove C.tr _ hk0 _ _ _ _ hr_20) (T_Ou hk0) rfl rfl (Nat.le_of_ble_eq_true rfl) (by decide) hB rfl ?_
          obtain ⟨M_24, hr_23, hf⟩ := bd_e hf
          refine n_cV [.int v_15, .int r_22] [] C (ckD_get k_X5_draw_1 37 rfl) vk_X5_65 (t_X5_takeJoinedBackward C.tr _ hk0 _ _ _ _ hr_23) (T_Ou hk0) rfl rfl (Nat.le_of_ble_eq_true rfl) (by decide) hB rfl ?_
          refine G.sub [3, 4, 5, 6, 7, 1, 8] rfl ?_
          exact hJ_152 _ _ hf
        · have hf := if_t hf c_17
          refine g_aload_n 3 C (ckD_get k_X5_draw_1 17 rfl) rfl rfl ?_
          refine g_iload 0 C (ckD_get k_X5_draw_1 18 rfl) rfl ?_
          refine g_aload_n 3 C (ckD_get k_X5_draw_1 19 rfl) rfl rfl ?_
          refine g_iload 0 C (ckD_get k_X5_draw_1 20 rfl) rfl ?_
          refine g_aload_n 3 C (ckD_get k_X5_draw_1 21 rfl) rfl rfl ?_
          refine g_getR C (ckD_get k_X5_draw_1 22 rfl) fk_X5_24 (T_Ou hk0) rfl ?_
          refine g_iload 1 C (ckD_get k_X5_draw_1 23 rfl) rfl ?_
          obtain ⟨v_25, hi_26, ev_25, hf⟩ := rdI_e hf
          refine n_iald C (ckD_get k_X5_draw_1 24 rfl) (T_Ou5 hk0) hi_26 ev_25 ?_
          obtain ⟨r_29, M_28, hr_27, hf⟩ := bd2_e hf
          refine n_cV [.int v_15, .int v_25] [.int v_15, .ref (K.2.1.1 + k0)] C (ckD_get k_X5_draw_1 25 rfl) vk_X5_55 (t_X5_joinBeside C.tr _ hk0 _ _ _ _ hr_27) (T_Ou hk0) rfl rfl (Nat.le_of_ble_eq_true rfl) (by decide) hB rfl ?_
          obtain ⟨M_31, hr_30, hf⟩ := bd_e hf
          refine n_cV [.int v_15, .int r_29] [] C (ckD_get k_X5_draw_1 26 rfl) vk_X5_58 (t_X5_takeJoined C.tr _ hk0 _ _ _ _ hr_30) (T_Ou hk0) rfl rfl (Nat.le_of_ble_eq_true rfl) (by decide) hB rfl ?_
          refine g_goto C (ckD_get k_X5_draw_1 27 rfl) ?_
          refine G.sub [3, 4, 5, 6, 7, 1, 8] rfl ?_
          exact hJ_152 _ _ hf
    · have hf := if_f hf c_12
      refine g_aload_n 1 C (ckD_get k_X5_draw_0 19 rfl) rfl rfl ?_
      refine g_getR C (ckD_get k_X5_draw_0 20 rfl) fk_X5_24 (T_Ou hk0) rfl ?_
      refine g_iload 6 C (ckD_get k_X5_draw_0 21 rfl) rfl ?_
      refine g_aload_n 1 C (ckD_get k_X5_draw_0 22 rfl) rfl rfl ?_
      refine g_getI C (ckD_get k_X5_draw_0 23 rfl) fk_X5_27 (T_Ou hk0) rfl ?_
      obtain ⟨M_32, hi_33, eM_32, hf⟩ := wrI_e hf
      refine n_iast C (ckD_get k_X5_draw_0 24 rfl) (T_Ou5 hk0) hi_33 eM_32 ?_
      obtain ⟨x5_34, ex5_34, hf⟩ := lt_e hf
      refine g_iinc (lv' := [(5, _), (7, _), (0, _), (1, _), (2, _), (3, _), (4, _), (6, _)]) 6 C (ckD_get k_X5_draw_0 25 rfl) rfl ex5_34 hL5 rfl ?_
      refine g_aload_n 2 C (ckD_get k_X5_draw_0 26 rfl) rfl rfl ?_
      refine g_aload_n 4 C (ckD_get k_X5_draw_0 27 rfl) rfl rfl ?_
      refine g_getR C (ckD_get k_X5_draw_0 28 rfl) fk_X5_39 T1 rfl ?_
      refine g_iload 1 C (ckD_get k_X5_draw_0 29 rfl) rfl ?_
      obtain ⟨v_35, hi_36, ev_35, hf⟩ := rdI_e hf
      refine n_iald C (ckD_get k_X5_draw_0 30 rfl) T2 hi_36 ev_35 ?_
      refine g_aload_n 4 C (ckD_get k_X5_draw_0 31 rfl) rfl rfl ?_
      refine g_getR C (ckD_get k_X5_draw_0 32 rfl) fk_X5_44 T1 rfl ?_
      refine g_iload 1 C (ckD_get k_X5_draw_0 33 rfl) rfl ?_
      obtain ⟨v_37, hi_38, ev_37, hf⟩ := rdI_e hf
      refine n_iald C (ckD_get k_X5_draw_0 34 rfl) T3 hi_38 ev_37 ?_
      refine g_iload_n 5 C (ckD_get k_X5_draw_0 35 rfl) rfl rfl ?_
      refine g_iload 1 C (ckD_get k_X5_draw_0 36 rfl) rfl ?_
      refine n_cN [.int a3, .int v_7] [.int v_37, .int v_35, .ref (K.2.1.1 + k0)] C (ckD_get k_X5_draw_0 37 rfl) nk_X5_47 (t_X9_bitOf C.tr _ _ _ _ rfl) rfl rfl (Nat.le_of_ble_eq_true rfl) (by decide) hB rfl ?_
      refine g_iload 6 C (ckD_get k_X5_draw_0 38 rfl) rfl ?_
      refine g_iload 1 C (ckD_get k_X5_draw_0 39 rfl) rfl ?_
      refine n_cN [.int a4, .int v_7] [.int (f_X9_bitOf a3 v_7), .int v_37, .int v_35, .ref (K.2.1.1 + k0)] C (ckD_get k_X5_draw_1 0 rfl) nk_X5_47 (t_X9_bitOf C.tr _ _ _ _ rfl) rfl rfl (Nat.le_of_ble_eq_true rfl) (by decide) hB rfl ?_
      obtain ⟨M_40, hr_39, hf⟩ := bd_e hf
      refine n_cV [.int v_35, .int v_37, .int (f_X9_bitOf a3 v_7), .int (f_X9_bitOf a4 v_7)] [] C (ckD_get k_X5_draw_1 1 rfl) vk_X5_51 (t_X5_addBlock C.tr _ hk0 _ _ _ _ _ _ hr_39) (T_Ou hk0) rfl rfl (Nat.le_of_ble_eq_true rfl) (by decide) hB rfl ?_
      refine g_goto C (ckD_get k_X5_draw_1 2 rfl) ?_
      refine G.sub [2, 3, 4, 5, 6, 0, 7] rfl ?_
      exact hJ_152 _ _ hf

set_option maxRecDepth 20000 in
theorem k_X5_leastArea_0 : ckD cX5_leastArea [(0, .ldc 79, 2, 2, 0), (2, .istore_n 1, 1, 3, 0), (3, .iconst 0, 1, 4, 0), (4, .istore_n 2, 1, 5, 0), (5, .iload_n 2, 1, 6, 0), (6, .aload_n 0, 1, 7, 0), (7, .getfield 27, 3, 10, 0), (10, .if_icmp .ge 27, 3, 13, 37), (13, .iload_n 1, 1, 14, 0), (14, .aload_n 0, 1, 15, 0), (15, .getfield 9, 3, 18, 0), (18, .iload_n 2, 1, 19, 0), (19, .iaload, 1, 20, 0), (20, .aload_n 0, 1, 21, 0), (21, .getfield 15, 3, 24, 0), (24, .iload_n 2, 1, 25, 0), (25, .iaload, 1, 26, 0), (26, .imul, 1, 27, 0), (27, .invokestatic 68, 3, 30, 0), (30, .istore_n 1, 1, 31, 0), (31, .iinc 2 1, 3, 34, 0), (34, .goto (-29), 3, 37, 5), (37, .iload_n 1, 1, 38, 0), (38, .ireturn, 1, 39, 0)] = true := by decide +kernel
def f_X5_leastArea_A5 (x1_3 : Int32) : Option Int32 := some x1_3
def f_X5_leastArea_L5 (k0 : Nat) (M : Mm) (x1_1 : Int32) (x2_2 : Int32) : Option ((Int32 × Int32) ⊕ Int32) := if (M.1 k0 5) ≤ x2_2 then some (.inr x1_1) else rdI 26 M (k0 + 1) x2_2 fun v_5 => rdI 26 M (k0 + 2) x2_2 fun v_7 => lt1 (jmin x1_1 (v_5 * v_7)) fun x1_9 => lt1 (x2_2 + 1) fun x2_10 => some (.inl (x1_9, x2_10))
def f_X5_leastArea (k0 : Nat) (M : Mm) : Option Int32 := (loop (fun v => f_X5_leastArea_L5 k0 M v.1 v.2) FU ((2147483647 : Int32), (0 : Int32))).bind fun z => f_X5_leastArea_A5 z
set_option maxRecDepth 100000 in
set_option maxHeartbeats 4000000 in
theorem t_X5_leastArea {E : Ev} {l : Launch} (htr : l.stackTraces = false) (k0 : Nat) (hk0 : isOu k0) (M : Mm) (r : Int32) (hf : f_X5_leastArea k0 M = some r) : CM E l 1 0 0 yX5_leastArea cX5_leastArea 3 (some .int) [.ref (E.1 + k0)] M (some (.int r)) M := by
  refine CM.of htr (by decide +kernel) (Nat.le_of_ble_eq_true rfl) ?_
  intro K hE hL hl hR0 C hr hRv
  subst hE
  subst hl
  have C : Cx K cX5_leastArea RX5 1 := C
  have hB : (0 : Nat) ≤ K.1.R.cells ∧ 0 ≤ K.1.R.slots := ⟨Nat.zero_le _, Nat.zero_le _⟩
  have hL1 : 1 < K.2.2.1 := by rw [hL]; decide
  have hL2 : 2 < K.2.2.1 := by rw [hL]; decide
  show G K (0, 0) 0 [(0, .ref (K.2.1.1 + k0))] [] M
  unfold f_X5_leastArea at hf
  refine g_ldc C (ckD_get k_X5_leastArea_0 0 rfl) q1023 ?_
  refine g_istore_n (lv' := [(1, _), (0, _)]) C (ckD_get k_X5_leastArea_0 1 rfl) rfl hL1 rfl ?_
  refine g_iconst (v := (0 : Int32)) C (ckD_get k_X5_leastArea_0 2 rfl) (by decide) ?_
  refine g_istore_n (lv' := [(2, _), (1, _), (0, _)]) C (ckD_get k_X5_leastArea_0 3 rfl) rfl hL2 rfl ?_
  refine G.sub [2, 1, 0] rfl ?_
  obtain ⟨x1_3, hx_5, hf⟩ := bd_e hf
  have hE_5 : G K (0, 0) 37 [(1, .int x1_3)] [] M := by
    have hf : f_X5_leastArea_A5 x1_3 = some r := hf
    unfold f_X5_leastArea_A5 at hf
    refine g_iload_n 0 C (ckD_get k_X5_leastArea_0 22 rfl) rfl rfl ?_
    cases hf
    exact g_iret C (ckD_get k_X5_leastArea_0 23 rfl) hr hRv (Nat.le_refl _) (Nat.le_refl _)
  refine loop_e (x := x1_3) (P := fun (v : (Int32 × Int32)) => G K (0, 0) 5 [(0, .ref (K.2.1.1 + k0)), (1, .int v.1), (2, .int v.2)] [] M) ?_ FU _ hx_5
  intro v rr_5 hf hn_5 hz_5
  obtain ⟨x1_1, x2_2⟩ := v
  have hf : f_X5_leastArea_L5 k0 M x1_1 x2_2 = some rr_5 := hf
  show G K (0, 0) 5 [(0, .ref (K.2.1.1 + k0)), (1, .int x1_1), (2, .int x2_2)] [] M
  unfold f_X5_leastArea_L5 at hf
  refine g_iload_n 2 C (ckD_get k_X5_leastArea_0 4 rfl) rfl rfl ?_
  refine g_aload_n 0 C (ckD_get k_X5_leastArea_0 5 rfl) rfl rfl ?_
  refine g_getI C (ckD_get k_X5_leastArea_0 6 rfl) fk_X5_27 (T_Ou hk0) rfl ?_
  refine g_icmp_ge C (ckD_get k_X5_leastArea_0 7 rfl) (fun c_4 => ?_) (fun c_4 => ?_)
  · have hf := if_t hf c_4
    refine G.sub [1] rfl ?_
    cases hf
    cases hz_5 _ rfl
    exact hE_5
  · have hf := if_f hf c_4
    refine g_iload_n 1 C (ckD_get k_X5_leastArea_0 8 rfl) rfl rfl ?_
    refine g_aload_n 0 C (ckD_get k_X5_leastArea_0 9 rfl) rfl rfl ?_
    refine g_getR C (ckD_get k_X5_leastArea_0 10 rfl) fk_X5_9 (T_Ou hk0) rfl ?_
    refine g_iload_n 2 C (ckD_get k_X5_leastArea_0 11 rfl) rfl rfl ?_
    obtain ⟨v_5, hi_6, ev_5, hf⟩ := rdI_e hf
    refine n_iald C (ckD_get k_X5_leastArea_0 12 rfl) (T_Ou1 hk0) hi_6 ev_5 ?_
    refine g_aload_n 0 C (ckD_get k_X5_leastArea_0 13 rfl) rfl rfl ?_
    refine g_getR C (ckD_get k_X5_leastArea_0 14 rfl) fk_X5_15 (T_Ou hk0) rfl ?_
    refine g_iload_n 2 C (ckD_get k_X5_leastArea_0 15 rfl) rfl rfl ?_
    obtain ⟨v_7, hi_8, ev_7, hf⟩ := rdI_e hf
    refine n_iald C (ckD_get k_X5_leastArea_0 16 rfl) (T_Ou2 hk0) hi_8 ev_7 ?_
    refine g_imul C (ckD_get k_X5_leastArea_0 17 rfl) ?_
    refine n_mmin C (ckD_get k_X5_leastArea_0 18 rfl) mk_X5_68 (by decide) (Nat.le_of_ble_eq_true rfl) hB ?_
    obtain ⟨x1_9, ex1_9, hf⟩ := lt_e hf
    refine topI ex1_9 ?_
    refine g_istore_n (lv' := [(1, _), (0, _), (2, _)]) C (ckD_get k_X5_leastArea_0 19 rfl) rfl hL1 rfl ?_
    obtain ⟨x2_10, ex2_10, hf⟩ := lt_e hf
    refine g_iinc (lv' := [(2, _), (1, _), (0, _)]) 2 C (ckD_get k_X5_leastArea_0 20 rfl) rfl ex2_10 hL2 rfl ?_
    refine g_goto C (ckD_get k_X5_leastArea_0 21 rfl) ?_
    refine G.sub [2, 1, 0] rfl ?_
    cases hf
    exact hn_5 _ rfl

set_option maxRecDepth 20000 in
theorem k_X5_holds_0 : ckD cX5_holds [(0, .iconst 0, 1, 1, 0), (1, .istore_n 3, 1, 2, 0), (2, .iload_n 3, 1, 3, 0), (3, .aload_n 0, 1, 4, 0), (4, .getfield 27, 3, 7, 0), (7, .if_icmp .ge 31, 3, 10, 38), (10, .aload_n 0, 1, 11, 0), (11, .getfield 9, 3, 14, 0), (14, .iload_n 3, 1, 15, 0), (15, .iaload, 1, 16, 0), (16, .iload_n 1, 1, 17, 0), (17, .if_icmp .ne 15, 3, 20, 32), (20, .aload_n 0, 1, 21, 0), (21, .getfield 15, 3, 24, 0), (24, .iload_n 3, 1, 25, 0), (25, .iaload, 1, 26, 0), (26, .iload_n 2, 1, 27, 0), (27, .if_icmp .ne 5, 3, 30, 32), (30, .iconst 1, 1, 31, 0), (31, .ireturn, 1, 32, 0), (32, .iinc 3 1, 3, 35, 0), (35, .goto (-33), 3, 38, 2), (38, .iconst 0, 1, 39, 0), (39, .ireturn, 1, 40, 0)] = true := by decide +kernel
def f_X5_holds_A2  : Option Int32 := some (0 : Int32)
def f_X5_holds_J32 (x3_1 : Int32) (_ : Unit) : Option (Int32 ⊕ (Unit ⊕ Int32)) := lt1 (x3_1 + 1) fun x3_5 => some (.inl x3_5)
def f_X5_holds_L2 (k0 : Nat) (a1 : Int32) (a2 : Int32) (M : Mm) (x3_1 : Int32) : Option (Int32 ⊕ (Unit ⊕ Int32)) := if (M.1 k0 5) ≤ x3_1 then some (.inr (.inl ())) else rdI 26 M (k0 + 1) x3_1 fun v_3 => if v_3 = a1 then rdI 26 M (k0 + 2) x3_1 fun v_7 => if v_7 = a2 then some (.inr (.inr (1 : Int32))) else f_X5_holds_J32 x3_1 () else f_X5_holds_J32 x3_1 ()
def f_X5_holds (k0 : Nat) (a1 : Int32) (a2 : Int32) (M : Mm) : Option Int32 := (loop (fun v => f_X5_holds_L2 k0 a1 a2 M v) FU (0 : Int32)).bind fun x => Sum.elim (fun z => f_X5_holds_A2 ) (fun o => some o) x
set_option maxRecDepth 100000 in
set_option maxHeartbeats 4000000 in
theorem t_X5_holds {E : Ev} {l : Launch} (htr : l.stackTraces = false) (k0 : Nat) (hk0 : isOu k0) (a1 : Int32) (a2 : Int32) (M : Mm) (r : Int32) (hf : f_X5_holds k0 a1 a2 M = some r) : CM E l 0 0 0 yX5_holds cX5_holds 4 (some .boolean) [.ref (E.1 + k0), .int a1, .int a2] M (some (.int r)) M := by
  refine CM.of htr (by decide +kernel) (Nat.le_of_ble_eq_true rfl) ?_
  intro K hE hL hl hR0 C hr hRv
  subst hE
  subst hl
  have C : Cx K cX5_holds RX5 0 := C
  have hB : (0 : Nat) ≤ K.1.R.cells ∧ 0 ≤ K.1.R.slots := ⟨Nat.zero_le _, Nat.zero_le _⟩
  have hL3 : 3 < K.2.2.1 := by rw [hL]; decide
  show G K (0, 0) 0 [(0, .ref (K.2.1.1 + k0)), (1, .int a1), (2, .int a2)] [] M
  unfold f_X5_holds at hf
  refine g_iconst (v := (0 : Int32)) C (ckD_get k_X5_holds_0 0 rfl) (by decide) ?_
  refine g_istore_n (lv' := [(3, _), (0, _), (1, _), (2, _)]) C (ckD_get k_X5_holds_0 1 rfl) rfl hL3 rfl ?_
  refine G.sub [1, 2, 3, 0] rfl ?_
  obtain ⟨xx_2, hx_2, hf⟩ := bd_e hf
  have hE_2 : ∀ (_ : Unit), xx_2 = .inl () → G K (0, 0) 38 [] [] M := by
    intro _ ex
    subst ex
    have hf : f_X5_holds_A2  = some r := hf
    unfold f_X5_holds_A2 at hf
    refine g_iconst (v := (0 : Int32)) C (ckD_get k_X5_holds_0 22 rfl) (by decide) ?_
    cases hf
    exact g_zret C (ckD_get k_X5_holds_0 23 rfl) hr rfl hRv (Nat.le_refl _) (Nat.le_refl _)
  have hO_2 : ∀ o, xx_2 = .inr o → o = r := by
    intro o eo
    subst eo
    have hf : some o = some r := hf
    cases hf
    rfl
  refine loop_e (x := xx_2) (P := fun (v : Int32) => G K (0, 0) 2 [(0, .ref (K.2.1.1 + k0)), (1, .int a1), (2, .int a2), (3, .int v)] [] M) ?_ FU _ hx_2
  intro x3_1 rr_2 hf hn_2 hz_2
  have hf : f_X5_holds_L2 k0 a1 a2 M x3_1 = some rr_2 := hf
  show G K (0, 0) 2 [(0, .ref (K.2.1.1 + k0)), (1, .int a1), (2, .int a2), (3, .int x3_1)] [] M
  unfold f_X5_holds_L2 at hf
  refine g_iload_n 3 C (ckD_get k_X5_holds_0 2 rfl) rfl rfl ?_
  refine g_aload_n 0 C (ckD_get k_X5_holds_0 3 rfl) rfl rfl ?_
  refine g_getI C (ckD_get k_X5_holds_0 4 rfl) fk_X5_27 (T_Ou hk0) rfl ?_
  refine g_icmp_ge C (ckD_get k_X5_holds_0 5 rfl) (fun c_2 => ?_) (fun c_2 => ?_)
  · have hf := if_t hf c_2
    refine G.sub [] rfl ?_
    cases hf
    exact hE_2 () (hz_2 _ rfl).symm
  · have hf := if_f hf c_2
    refine g_aload_n 0 C (ckD_get k_X5_holds_0 6 rfl) rfl rfl ?_
    refine g_getR C (ckD_get k_X5_holds_0 7 rfl) fk_X5_9 (T_Ou hk0) rfl ?_
    refine g_iload_n 3 C (ckD_get k_X5_holds_0 8 rfl) rfl rfl ?_
    obtain ⟨v_3, hi_4, ev_3, hf⟩ := rdI_e hf
    refine n_iald C (ckD_get k_X5_holds_0 9 rfl) (T_Ou1 hk0) hi_4 ev_3 ?_
    refine g_iload_n 1 C (ckD_get k_X5_holds_0 10 rfl) rfl rfl ?_
    have hJ_32 : ∀ (_ : Unit), f_X5_holds_J32 x3_1 () = some rr_2 → G K (0, 0) 32 [(0, .ref (K.2.1.1 + k0)), (1, .int a1), (2, .int a2), (3, .int x3_1)] [] M := by
      intro _ hf
      unfold f_X5_holds_J32 at hf
      obtain ⟨x3_5, ex3_5, hf⟩ := lt_e hf
      refine g_iinc (lv' := [(3, _), (0, _), (1, _), (2, _)]) 3 C (ckD_get k_X5_holds_0 20 rfl) rfl ex3_5 hL3 rfl ?_
      refine g_goto C (ckD_get k_X5_holds_0 21 rfl) ?_
      refine G.sub [1, 2, 3, 0] rfl ?_
      cases hf
      exact hn_2 _ rfl
    refine g_icmp_ne C (ckD_get k_X5_holds_0 11 rfl) (fun c_6 => ?_) (fun c_6 => ?_)
    · have hf := if_f hf c_6
      exact hJ_32 () hf
    · have hf := if_t hf c_6
      refine g_aload_n 0 C (ckD_get k_X5_holds_0 12 rfl) rfl rfl ?_
      refine g_getR C (ckD_get k_X5_holds_0 13 rfl) fk_X5_15 (T_Ou hk0) rfl ?_
      refine g_iload_n 3 C (ckD_get k_X5_holds_0 14 rfl) rfl rfl ?_
      obtain ⟨v_7, hi_8, ev_7, hf⟩ := rdI_e hf
      refine n_iald C (ckD_get k_X5_holds_0 15 rfl) (T_Ou2 hk0) hi_8 ev_7 ?_
      refine g_iload_n 2 C (ckD_get k_X5_holds_0 16 rfl) rfl rfl ?_
      refine g_icmp_ne C (ckD_get k_X5_holds_0 17 rfl) (fun c_9 => ?_) (fun c_9 => ?_)
      · have hf := if_f hf c_9
        exact hJ_32 () hf
      · have hf := if_t hf c_9
        refine g_iconst (v := (1 : Int32)) C (ckD_get k_X5_holds_0 18 rfl) (by decide) ?_
        cases hf
        cases hO_2 _ (hz_2 _ rfl).symm
        exact g_zret C (ckD_get k_X5_holds_0 19 rfl) hr rfl hRv (Nat.le_refl _) (Nat.le_refl _)

set_option maxRecDepth 20000 in
theorem k_X5_leastTurns_0 : ckD cX5_leastTurns [(0, .aload_n 2, 1, 1, 0), (1, .getfield 80, 3, 4, 0), (4, .istore 5, 2, 6, 0), (6, .iconst 0, 1, 7, 0), (7, .istore 6, 2, 9, 0), (9, .aload_n 2, 1, 10, 0), (10, .getfield 83, 3, 13, 0), (13, .iconst 1, 1, 14, 0), (14, .isub, 1, 15, 0), (15, .istore 7, 2, 17, 0), (17, .iload 7, 2, 19, 0), (19, .ifCond .lt 60, 3, 22, 79), (22, .iload 5, 2, 24, 0), (24, .iload 7, 2, 26, 0), (26, .invokestatic 47, 3, 29, 0), (29, .iconst 1, 1, 30, 0), (30, .if_icmp .ne 43, 3, 33, 73), (33, .iload 5, 2, 35, 0), (35, .iconst 1, 1, 36, 0), (36, .iload 7, 2, 38, 0), (38, .ishl, 1, 39, 0), (39, .iconst (-1), 1, 40, 0), (40, .ixor, 1, 41, 0), (41, .iand, 1, 42, 0), (42, .istore 5, 2, 44, 0), (44, .aload_n 0, 1, 45, 0), (45, .aload_n 1, 1, 46, 0), (46, .aload_n 2, 1, 47, 0), (47, .iload 5, 2, 49, 0), (49, .iload 6, 2, 51, 0), (51, .invokevirtual 84, 3, 54, 0), (54, .aload_n 0, 1, 55, 0), (55, .iload_n 3, 1, 56, 0), (56, .iload 4, 2, 58, 0), (58, .invokevirtual 88, 3, 61, 0), (61, .ifCond .ne 12, 3, 64, 73), (64, .iload 6, 2, 66, 0), (66, .iconst 1, 1, 67, 0), (67, .iload 7, 2, 69, 0), (69, .ishl, 1, 70, 0)] = true := by decide +kernel
set_option maxRecDepth 20000 in
theorem k_X5_leastTurns_1 : ckD cX5_leastTurns [(70, .ior, 1, 71, 0), (71, .istore 6, 2, 73, 0), (73, .iinc 7 (-1), 3, 76, 0), (76, .goto (-59), 3, 79, 17), (79, .iload 6, 2, 81, 0), (81, .ireturn, 1, 82, 0)] = true := by decide +kernel
def f_X5_leastTurns_A17 (x6_7 : Int32) (M_8 : Mm) : Option (Int32 × Mm) := some (x6_7, M_8)
def f_X5_leastTurns_J73 (x7_5 : Int32) (p5_10 : Int32) (p6_11 : Int32) (M_12 : Mm) : Option ((Int32 × Int32 × Int32 × Mm) ⊕ (Int32 × Mm)) := lt1 (x7_5 + (-1)) fun x7_13 => some (.inl (p5_10, p6_11, x7_13, M_12))
def f_X5_leastTurns_L17 (k0 : Nat) (k1 : Nat) (a3 : Int32) (a4 : Int32) (x5_3 : Int32) (x6_4 : Int32) (x7_5 : Int32) (M_6 : Mm) : Option ((Int32 × Int32 × Int32 × Mm) ⊕ (Int32 × Mm)) := if x7_5 < 0 then some (.inr (x6_4, M_6)) else if (f_X9_bitOf x5_3 x7_5) = (1 : Int32) then lt1 (x5_3 &&& (((1 : Int32) <<< (x7_5 &&& 31)) ^^^ (-1 : Int32))) fun x5_15 => (f_X5_draw k0 k1 x5_15 x6_4 M_6).bind fun M_17 => (f_X5_holds k0 a3 a4 M_17).bind fun r_19 => if r_19 = 0 then lt1 (x6_4 ||| ((1 : Int32) <<< (x7_5 &&& 31))) fun x6_21 => f_X5_leastTurns_J73 x7_5 x5_15 x6_21 M_17 else f_X5_leastTurns_J73 x7_5 x5_15 x6_4 M_17 else f_X5_leastTurns_J73 x7_5 x5_3 x6_4 M_6
def f_X5_leastTurns (k0 : Nat) (k1 : Nat) (a3 : Int32) (a4 : Int32) (M : Mm) : Option (Int32 × Mm) := lt1 (M.1 1 2) fun x5_1 => lt1 ((M.1 1 3) - (1 : Int32)) fun x7_2 => (loop (fun v => f_X5_leastTurns_L17 k0 k1 a3 a4 v.1 v.2.1 v.2.2.1 v.2.2.2) FU (x5_1, (0 : Int32), x7_2, M)).bind fun z => f_X5_leastTurns_A17 z.1 z.2
set_option maxRecDepth 100000 in
set_option maxHeartbeats 4000000 in
theorem t_X5_leastTurns {E : Ev} {l : Launch} (htr : l.stackTraces = false) (k0 : Nat) (hk0 : isOu k0) (k1 : Nat) (hk1 : isRo k1) (a3 : Int32) (a4 : Int32) (M : Mm) (r : (Int32 × Mm)) (hf : f_X5_leastTurns k0 k1 a3 a4 M = some r) : CM E l 3 0 0 yX5_leastTurns cX5_leastTurns 8 (some .int) [.ref (E.1 + k0), .ref (E.1 + k1), .ref (E.1 + 1), .int a3, .int a4] M (some (.int r.1)) r.2 := by
  refine CM.of htr (by decide +kernel) (Nat.le_of_ble_eq_true rfl) ?_
  intro K hE hL hl hR0 C hr hRv
  subst hE
  subst hl
  have C : Cx K cX5_leastTurns RX5 3 := C
  have hB : (0 : Nat) ≤ K.1.R.cells ∧ 0 ≤ K.1.R.slots := ⟨Nat.zero_le _, Nat.zero_le _⟩
  have hL5 : 5 < K.2.2.1 := by rw [hL]; decide
  have hL6 : 6 < K.2.2.1 := by rw [hL]; decide
  have hL7 : 7 < K.2.2.1 := by rw [hL]; decide
  show G K (0, 0) 0 [(0, .ref (K.2.1.1 + k0)), (1, .ref (K.2.1.1 + k1)), (2, .ref (K.2.1.1 + 1)), (3, .int a3), (4, .int a4)] [] M
  unfold f_X5_leastTurns at hf
  refine g_aload_n 2 C (ckD_get k_X5_leastTurns_0 0 rfl) rfl rfl ?_
  refine g_getI C (ckD_get k_X5_leastTurns_0 1 rfl) fk_X5_80 T1 rfl ?_
  obtain ⟨x5_1, ex5_1, hf⟩ := lt_e hf
  refine topI ex5_1 ?_
  refine g_istore (lv' := [(5, _), (0, _), (1, _), (2, _), (3, _), (4, _)]) C (ckD_get k_X5_leastTurns_0 2 rfl) hL5 rfl ?_
  refine g_iconst (v := (0 : Int32)) C (ckD_get k_X5_leastTurns_0 3 rfl) (by decide) ?_
  refine g_istore (lv' := [(6, _), (5, _), (0, _), (1, _), (2, _), (3, _), (4, _)]) C (ckD_get k_X5_leastTurns_0 4 rfl) hL6 rfl ?_
  refine g_aload_n 4 C (ckD_get k_X5_leastTurns_0 5 rfl) rfl rfl ?_
  refine g_getI C (ckD_get k_X5_leastTurns_0 6 rfl) fk_X5_83 T1 rfl ?_
  refine g_iconst (v := (1 : Int32)) C (ckD_get k_X5_leastTurns_0 7 rfl) (by decide) ?_
  refine g_isub C (ckD_get k_X5_leastTurns_0 8 rfl) ?_
  obtain ⟨x7_2, ex7_2, hf⟩ := lt_e hf
  refine topI ex7_2 ?_
  refine g_istore (lv' := [(7, _), (6, _), (5, _), (0, _), (1, _), (2, _), (3, _), (4, _)]) C (ckD_get k_X5_leastTurns_0 9 rfl) hL7 rfl ?_
  refine G.sub [3, 4, 5, 6, 7, 2, 1, 0] rfl ?_
  obtain ⟨xx_17, hx_17, hf⟩ := bd_e hf
  obtain ⟨x6_7, M_8⟩ := xx_17
  have hE_17 : G K (0, 0) 79 [(6, .int x6_7)] [] M_8 := by
    have hf : f_X5_leastTurns_A17 x6_7 M_8 = some r := hf
    unfold f_X5_leastTurns_A17 at hf
    refine g_iload 0 C (ckD_get k_X5_leastTurns_1 4 rfl) rfl ?_
    cases hf
    exact g_iret C (ckD_get k_X5_leastTurns_1 5 rfl) hr hRv (Nat.le_refl _) (Nat.le_refl _)
  refine loop_e (x := (x6_7, M_8)) (P := fun (v : (Int32 × Int32 × Int32 × Mm)) => G K (0, 0) 17 [(0, .ref (K.2.1.1 + k0)), (1, .ref (K.2.1.1 + k1)), (2, .ref (K.2.1.1 + 1)), (3, .int a3), (4, .int a4), (5, .int v.1), (6, .int v.2.1), (7, .int v.2.2.1)] [] v.2.2.2) ?_ FU _ hx_17
  intro v rr_17 hf hn_17 hz_17
  obtain ⟨x5_3, x6_4, x7_5, M_6⟩ := v
  have hf : f_X5_leastTurns_L17 k0 k1 a3 a4 x5_3 x6_4 x7_5 M_6 = some rr_17 := hf
  show G K (0, 0) 17 [(0, .ref (K.2.1.1 + k0)), (1, .ref (K.2.1.1 + k1)), (2, .ref (K.2.1.1 + 1)), (3, .int a3), (4, .int a4), (5, .int x5_3), (6, .int x6_4), (7, .int x7_5)] [] M_6
  unfold f_X5_leastTurns_L17 at hf
  refine g_iload 7 C (ckD_get k_X5_leastTurns_0 10 rfl) rfl ?_
  refine g_if_lt C (ckD_get k_X5_leastTurns_0 11 rfl) (fun c_9 => ?_) (fun c_9 => ?_)
  · have hf := if_t hf c_9
    refine G.sub [6] rfl ?_
    cases hf
    cases hz_17 _ rfl
    exact hE_17
  · have hf := if_f hf c_9
    refine g_iload 5 C (ckD_get k_X5_leastTurns_0 12 rfl) rfl ?_
    refine g_iload 7 C (ckD_get k_X5_leastTurns_0 13 rfl) rfl ?_
    refine n_cN [.int x5_3, .int x7_5] [] C (ckD_get k_X5_leastTurns_0 14 rfl) nk_X5_47 (t_X9_bitOf C.tr _ _ _ _ rfl) rfl rfl (Nat.le_of_ble_eq_true rfl) (by decide) hB rfl ?_
    refine g_iconst (v := (1 : Int32)) C (ckD_get k_X5_leastTurns_0 15 rfl) (by decide) ?_
    have hJ_73 : ∀ (p5_10 : Int32) (p6_11 : Int32) (M_12 : Mm), f_X5_leastTurns_J73 x7_5 p5_10 p6_11 M_12 = some rr_17 → G K (0, 0) 73 [(0, .ref (K.2.1.1 + k0)), (1, .ref (K.2.1.1 + k1)), (2, .ref (K.2.1.1 + 1)), (3, .int a3), (4, .int a4), (5, .int p5_10), (6, .int p6_11), (7, .int x7_5)] [] M_12 := by
      intro p5_10 p6_11 M_12 hf
      unfold f_X5_leastTurns_J73 at hf
      obtain ⟨x7_13, ex7_13, hf⟩ := lt_e hf
      refine g_iinc (lv' := [(7, _), (0, _), (1, _), (2, _), (3, _), (4, _), (5, _), (6, _)]) 7 C (ckD_get k_X5_leastTurns_1 2 rfl) rfl ex7_13 hL7 rfl ?_
      refine g_goto C (ckD_get k_X5_leastTurns_1 3 rfl) ?_
      refine G.sub [1, 2, 3, 4, 5, 6, 7, 0] rfl ?_
      cases hf
      exact hn_17 _ rfl
    refine g_icmp_ne C (ckD_get k_X5_leastTurns_0 16 rfl) (fun c_14 => ?_) (fun c_14 => ?_)
    · have hf := if_f hf c_14
      exact hJ_73 _ _ _ hf
    · have hf := if_t hf c_14
      refine g_iload 5 C (ckD_get k_X5_leastTurns_0 17 rfl) rfl ?_
      refine g_iconst (v := (1 : Int32)) C (ckD_get k_X5_leastTurns_0 18 rfl) (by decide) ?_
      refine g_iload 7 C (ckD_get k_X5_leastTurns_0 19 rfl) rfl ?_
      refine g_ishl C (ckD_get k_X5_leastTurns_0 20 rfl) ?_
      refine g_iconst (v := (-1 : Int32)) C (ckD_get k_X5_leastTurns_0 21 rfl) (by decide) ?_
      refine g_ixor C (ckD_get k_X5_leastTurns_0 22 rfl) ?_
      refine g_iand C (ckD_get k_X5_leastTurns_0 23 rfl) ?_
      obtain ⟨x5_15, ex5_15, hf⟩ := lt_e hf
      refine topI ex5_15 ?_
      refine g_istore (lv' := [(5, _), (0, _), (1, _), (2, _), (3, _), (4, _), (6, _), (7, _)]) C (ckD_get k_X5_leastTurns_0 24 rfl) hL5 rfl ?_
      refine g_aload_n 1 C (ckD_get k_X5_leastTurns_0 25 rfl) rfl rfl ?_
      refine g_aload_n 2 C (ckD_get k_X5_leastTurns_0 26 rfl) rfl rfl ?_
      refine g_aload_n 3 C (ckD_get k_X5_leastTurns_0 27 rfl) rfl rfl ?_
      refine g_iload 0 C (ckD_get k_X5_leastTurns_0 28 rfl) rfl ?_
      refine g_iload 6 C (ckD_get k_X5_leastTurns_0 29 rfl) rfl ?_
      obtain ⟨M_17, hr_16, hf⟩ := bd_e hf
      refine n_cV [.ref (K.2.1.1 + k1), .ref (K.2.1.1 + 1), .int x5_15, .int x6_4] [] C (ckD_get k_X5_leastTurns_0 30 rfl) vk_X5_84 (t_X5_draw C.tr _ hk0 _ hk1 _ _ _ _ hr_16) (T_Ou hk0) rfl rfl (Nat.le_of_ble_eq_true rfl) (by decide) hB rfl ?_
      refine g_aload_n 1 C (ckD_get k_X5_leastTurns_0 31 rfl) rfl rfl ?_
      refine g_iload_n 4 C (ckD_get k_X5_leastTurns_0 32 rfl) rfl rfl ?_
      refine g_iload 5 C (ckD_get k_X5_leastTurns_0 33 rfl) rfl ?_
      obtain ⟨r_19, hr_18, hf⟩ := bd_e hf
      refine n_cV [.int a3, .int a4] [] C (ckD_get k_X5_leastTurns_0 34 rfl) vk_X5_88 (t_X5_holds C.tr _ hk0 _ _ _ _ hr_18) (T_Ou hk0) rfl rfl (Nat.le_of_ble_eq_true rfl) (by decide) hB rfl ?_
      refine g_if_ne C (ckD_get k_X5_leastTurns_0 35 rfl) (fun c_20 => ?_) (fun c_20 => ?_)
      · have hf := if_f hf c_20
        refine G.sub [1, 2, 3, 4, 5, 0, 6, 7] rfl ?_
        exact hJ_73 _ _ _ hf
      · have hf := if_t hf c_20
        refine g_iload 6 C (ckD_get k_X5_leastTurns_0 36 rfl) rfl ?_
        refine g_iconst (v := (1 : Int32)) C (ckD_get k_X5_leastTurns_0 37 rfl) (by decide) ?_
        refine g_iload 7 C (ckD_get k_X5_leastTurns_0 38 rfl) rfl ?_
        refine g_ishl C (ckD_get k_X5_leastTurns_0 39 rfl) ?_
        refine g_ior C (ckD_get k_X5_leastTurns_1 0 rfl) ?_
        obtain ⟨x6_21, ex6_21, hf⟩ := lt_e hf
        refine topI ex6_21 ?_
        refine g_istore (lv' := [(6, _), (5, _), (0, _), (1, _), (2, _), (3, _), (4, _), (7, _)]) C (ckD_get k_X5_leastTurns_1 1 rfl) hL6 rfl ?_
        refine G.sub [2, 3, 4, 5, 6, 1, 0, 7] rfl ?_
        exact hJ_73 _ _ _ hf

set_option maxRecDepth 20000 in
theorem k_X6_tokenAt_0 : ckD cX6_tokenAt [(0, .iload 4, 2, 2, 0), (2, .bipush 16, 2, 4, 0), (4, .if_icmp .ge 12, 3, 7, 16), (7, .lload_n 0, 1, 8, 0), (8, .iload 4, 2, 10, 0), (10, .invokestatic 27, 3, 13, 0), (13, .goto 12, 3, 16, 25), (16, .lload_n 2, 1, 17, 0), (17, .iload 4, 2, 19, 0), (19, .bipush 16, 2, 21, 0), (21, .isub, 1, 22, 0), (22, .invokestatic 27, 3, 25, 0), (25, .ireturn, 1, 26, 0)] = true := by decide +kernel
def f_X6_tokenAt (a0 : Int64) (a1 : Int64) (a2 : Int32) : Int32 := if (16 : Int32) ≤ a2 then (f_X9_nibble a1 (a2 - (16 : Int32))) else (f_X9_nibble a0 a2)
set_option maxRecDepth 100000 in
set_option maxHeartbeats 4000000 in
theorem t_X6_tokenAt {E : Ev} {l : Launch} (htr : l.stackTraces = false) (a0 : Int64) (a1 : Int64) (a2 : Int32) (M : Mm) (r : Int32) (hf : f_X6_tokenAt a0 a1 a2 = r) : CM E l 1 0 0 yX6_tokenAt cX6_tokenAt 5 (some .int) [.long a0, .long a1, .int a2] M (some (.int r)) M := by
  refine CM.of htr (by decide +kernel) (Nat.le_of_ble_eq_true rfl) ?_
  intro K hE hL hl hR0 C hr hRv
  subst hE
  subst hl
  have C : Cx K cX6_tokenAt RX6 1 := C
  have hB : (0 : Nat) ≤ K.1.R.cells ∧ 0 ≤ K.1.R.slots := ⟨Nat.zero_le _, Nat.zero_le _⟩
  show G K (0, 0) 0 [(0, .long a0), (2, .long a1), (4, .int a2)] [] M
  unfold f_X6_tokenAt at hf
  refine g_iload 2 C (ckD_get k_X6_tokenAt_0 0 rfl) rfl ?_
  refine g_bipush (v := (16 : Int32)) C (ckD_get k_X6_tokenAt_0 1 rfl) (by decide) ?_
  refine g_icmp_ge C (ckD_get k_X6_tokenAt_0 2 rfl) (fun c_1 => ?_) (fun c_1 => ?_)
  · have hf := if_t hf c_1
    refine g_lload_n 1 C (ckD_get k_X6_tokenAt_0 7 rfl) rfl rfl ?_
    refine g_iload 2 C (ckD_get k_X6_tokenAt_0 8 rfl) rfl ?_
    refine g_bipush (v := (16 : Int32)) C (ckD_get k_X6_tokenAt_0 9 rfl) (by decide) ?_
    refine g_isub C (ckD_get k_X6_tokenAt_0 10 rfl) ?_
    refine n_cN [.long a1, .int (a2 - (16 : Int32))] [] C (ckD_get k_X6_tokenAt_0 11 rfl) nk_X6_27 (t_X9_nibble C.tr _ _ _ _ rfl) rfl rfl (Nat.le_of_ble_eq_true rfl) (by decide) hB rfl ?_
    cases hf
    exact g_iret C (ckD_get k_X6_tokenAt_0 12 rfl) hr hRv (Nat.le_refl _) (Nat.le_refl _)
  · have hf := if_f hf c_1
    refine g_lload_n 0 C (ckD_get k_X6_tokenAt_0 3 rfl) rfl rfl ?_
    refine g_iload 2 C (ckD_get k_X6_tokenAt_0 4 rfl) rfl ?_
    refine n_cN [.long a0, .int a2] [] C (ckD_get k_X6_tokenAt_0 5 rfl) nk_X6_27 (t_X9_nibble C.tr _ _ _ _ rfl) rfl rfl (Nat.le_of_ble_eq_true rfl) (by decide) hB rfl ?_
    refine g_goto C (ckD_get k_X6_tokenAt_0 6 rfl) ?_
    cases hf
    exact g_iret C (ckD_get k_X6_tokenAt_0 12 rfl) hr hRv (Nat.le_refl _) (Nat.le_refl _)

set_option maxRecDepth 20000 in
theorem k_X6_isRow_0 : ckD cX6_isRow [(0, .iconst 0, 1, 1, 0), (1, .istore 5, 2, 3, 0), (3, .iconst 0, 1, 4, 0), (4, .istore 6, 2, 6, 0), (6, .iconst 0, 1, 7, 0), (7, .istore 7, 2, 9, 0), (9, .iload 7, 2, 11, 0), (11, .iconst 2, 1, 12, 0), (12, .iload 4, 2, 14, 0), (14, .imul, 1, 15, 0), (15, .iconst 1, 1, 16, 0), (16, .isub, 1, 17, 0), (17, .if_icmp .ge 78, 3, 20, 95), (20, .lload_n 0, 1, 21, 0), (21, .lload_n 2, 1, 22, 0), (22, .iload 7, 2, 24, 0), (24, .invokestatic 31, 3, 27, 0), (27, .istore 8, 2, 29, 0), (29, .iload 8, 2, 31, 0), (31, .iload 4, 2, 33, 0), (33, .if_icmp .ge 28, 3, 36, 61), (36, .iload 5, 2, 38, 0), (38, .iload 8, 2, 40, 0), (40, .invokestatic 35, 3, 43, 0), (43, .ifCond .ne 18, 3, 46, 61), (46, .iload 5, 2, 48, 0), (48, .iconst 1, 1, 49, 0), (49, .iload 8, 2, 51, 0), (51, .ishl, 1, 52, 0), (52, .ior, 1, 53, 0), (53, .istore 5, 2, 55, 0), (55, .iinc 6 1, 3, 58, 0), (58, .goto 31, 3, 61, 89), (61, .iload 8, 2, 63, 0), (63, .bipush 12, 2, 65, 0), (65, .if_icmp .eq 10, 3, 68, 75), (68, .iload 8, 2, 70, 0), (70, .bipush 13, 2, 72, 0), (72, .if_icmp .ne 15, 3, 75, 87), (75, .iload 6, 2, 77, 0)] = true := by decide +kernel
set_option maxRecDepth 20000 in
theorem k_X6_isRow_1 : ckD cX6_isRow [(77, .iconst 1, 1, 78, 0), (78, .if_icmp .le 9, 3, 81, 87), (81, .iinc 6 (-1), 3, 84, 0), (84, .goto 5, 3, 87, 89), (87, .iconst 0, 1, 88, 0), (88, .ireturn, 1, 89, 0), (89, .iinc 7 1, 3, 92, 0), (92, .goto (-83), 3, 95, 9), (95, .iload 6, 2, 97, 0), (97, .iconst 1, 1, 98, 0), (98, .if_icmp .ne 7, 3, 101, 105), (101, .iconst 1, 1, 102, 0), (102, .goto 4, 3, 105, 106), (105, .iconst 0, 1, 106, 0), (106, .ireturn, 1, 107, 0)] = true := by decide +kernel
def f_X6_isRow_A9 (x6_4 : Int32) : Option Int32 := if x6_4 = (1 : Int32) then some (1 : Int32) else some (0 : Int32)
def f_X6_isRow_J89 (x7_3 : Int32) (p5_8 : Int32) (p6_9 : Int32) : Option ((Int32 × Int32 × Int32) ⊕ (Int32 ⊕ Int32)) := lt1 (x7_3 + 1) fun x7_10 => some (.inl (p5_8, p6_9, x7_10))
def f_X6_isRow_J75 (x7_3 : Int32) (p5_11 : Int32) (p6_12 : Int32) (_ : Unit) : Option ((Int32 × Int32 × Int32) ⊕ (Int32 ⊕ Int32)) := if p6_12 ≤ (1 : Int32) then some (.inr (.inr (0 : Int32))) else lt1 (p6_12 + (-1)) fun x6_14 => f_X6_isRow_J89 x7_3 p5_11 x6_14
def f_X6_isRow_J61 (x7_3 : Int32) (x8_7 : Int32) (p5_11 : Int32) (p6_12 : Int32) : Option ((Int32 × Int32 × Int32) ⊕ (Int32 ⊕ Int32)) := if x8_7 = (12 : Int32) then f_X6_isRow_J75 x7_3 p5_11 p6_12 () else if x8_7 = (13 : Int32) then f_X6_isRow_J75 x7_3 p5_11 p6_12 () else some (.inr (.inr (0 : Int32)))
def f_X6_isRow_L9 (a0 : Int64) (a1 : Int64) (a2 : Int32) (x5_1 : Int32) (x6_2 : Int32) (x7_3 : Int32) : Option ((Int32 × Int32 × Int32) ⊕ (Int32 ⊕ Int32)) := if (((2 : Int32) * a2) - (1 : Int32)) ≤ x7_3 then some (.inr (.inl x6_2)) else lt1 (f_X6_tokenAt a0 a1 x7_3) fun x8_7 => if a2 ≤ x8_7 then f_X6_isRow_J61 x7_3 x8_7 x5_1 x6_2 else if (f_X9_bitOf x5_1 x8_7) = 0 then lt1 (x5_1 ||| ((1 : Int32) <<< (x8_7 &&& 31))) fun x5_19 => lt1 (x6_2 + 1) fun x6_20 => f_X6_isRow_J89 x7_3 x5_19 x6_20 else f_X6_isRow_J61 x7_3 x8_7 x5_1 x6_2
def f_X6_isRow (a0 : Int64) (a1 : Int64) (a2 : Int32) : Option Int32 := (loop (fun v => f_X6_isRow_L9 a0 a1 a2 v.1 v.2.1 v.2.2) FU ((0 : Int32), (0 : Int32), (0 : Int32))).bind fun x => Sum.elim (fun z => f_X6_isRow_A9 z) (fun o => some o) x
set_option maxRecDepth 100000 in
set_option maxHeartbeats 4000000 in
theorem t_X6_isRow {E : Ev} {l : Launch} (htr : l.stackTraces = false) (a0 : Int64) (a1 : Int64) (a2 : Int32) (M : Mm) (r : Int32) (hf : f_X6_isRow a0 a1 a2 = some r) : CM E l 2 0 0 yX6_isRow cX6_isRow 9 (some .boolean) [.long a0, .long a1, .int a2] M (some (.int r)) M := by
  refine CM.of htr (by decide +kernel) (Nat.le_of_ble_eq_true rfl) ?_
  intro K hE hL hl hR0 C hr hRv
  subst hE
  subst hl
  have C : Cx K cX6_isRow RX6 2 := C
  have hB : (0 : Nat) ≤ K.1.R.cells ∧ 0 ≤ K.1.R.slots := ⟨Nat.zero_le _, Nat.zero_le _⟩
  have hL5 : 5 < K.2.2.1 := by rw [hL]; decide
  have hL6 : 6 < K.2.2.1 := by rw [hL]; decide
  have hL7 : 7 < K.2.2.1 := by rw [hL]; decide
  have hL8 : 8 < K.2.2.1 := by rw [hL]; decide
  show G K (0, 0) 0 [(0, .long a0), (2, .long a1), (4, .int a2)] [] M
  unfold f_X6_isRow at hf
  refine g_iconst (v := (0 : Int32)) C (ckD_get k_X6_isRow_0 0 rfl) (by decide) ?_
  refine g_istore (lv' := [(5, _), (0, _), (2, _), (4, _)]) C (ckD_get k_X6_isRow_0 1 rfl) hL5 rfl ?_
  refine g_iconst (v := (0 : Int32)) C (ckD_get k_X6_isRow_0 2 rfl) (by decide) ?_
  refine g_istore (lv' := [(6, _), (5, _), (0, _), (2, _), (4, _)]) C (ckD_get k_X6_isRow_0 3 rfl) hL6 rfl ?_
  refine g_iconst (v := (0 : Int32)) C (ckD_get k_X6_isRow_0 4 rfl) (by decide) ?_
  refine g_istore (lv' := [(7, _), (6, _), (5, _), (0, _), (2, _), (4, _)]) C (ckD_get k_X6_isRow_0 5 rfl) hL7 rfl ?_
  refine G.sub [3, 4, 5, 2, 1, 0] rfl ?_
  obtain ⟨xx_9, hx_9, hf⟩ := bd_e hf
  have hE_9 : ∀ (x6_4 : Int32), xx_9 = .inl x6_4 → G K (0, 0) 95 [(6, .int x6_4)] [] M := by
    intro x6_4 ex
    subst ex
    have hf : f_X6_isRow_A9 x6_4 = some r := hf
    unfold f_X6_isRow_A9 at hf
    refine g_iload 0 C (ckD_get k_X6_isRow_1 8 rfl) rfl ?_
    refine g_iconst (v := (1 : Int32)) C (ckD_get k_X6_isRow_1 9 rfl) (by decide) ?_
    refine g_icmp_ne C (ckD_get k_X6_isRow_1 10 rfl) (fun c_5 => ?_) (fun c_5 => ?_)
    · have hf := if_f hf c_5
      refine g_iconst (v := (0 : Int32)) C (ckD_get k_X6_isRow_1 13 rfl) (by decide) ?_
      cases hf
      exact g_zret C (ckD_get k_X6_isRow_1 14 rfl) hr rfl hRv (Nat.le_refl _) (Nat.le_refl _)
    · have hf := if_t hf c_5
      refine g_iconst (v := (1 : Int32)) C (ckD_get k_X6_isRow_1 11 rfl) (by decide) ?_
      refine g_goto C (ckD_get k_X6_isRow_1 12 rfl) ?_
      cases hf
      exact g_zret C (ckD_get k_X6_isRow_1 14 rfl) hr rfl hRv (Nat.le_refl _) (Nat.le_refl _)
  have hO_9 : ∀ o, xx_9 = .inr o → o = r := by
    intro o eo
    subst eo
    have hf : some o = some r := hf
    cases hf
    rfl
  refine loop_e (x := xx_9) (P := fun (v : (Int32 × Int32 × Int32)) => G K (0, 0) 9 [(0, .long a0), (2, .long a1), (4, .int a2), (5, .int v.1), (6, .int v.2.1), (7, .int v.2.2)] [] M) ?_ FU _ hx_9
  intro v rr_9 hf hn_9 hz_9
  obtain ⟨x5_1, x6_2, x7_3⟩ := v
  have hf : f_X6_isRow_L9 a0 a1 a2 x5_1 x6_2 x7_3 = some rr_9 := hf
  show G K (0, 0) 9 [(0, .long a0), (2, .long a1), (4, .int a2), (5, .int x5_1), (6, .int x6_2), (7, .int x7_3)] [] M
  unfold f_X6_isRow_L9 at hf
  refine g_iload 5 C (ckD_get k_X6_isRow_0 6 rfl) rfl ?_
  refine g_iconst (v := (2 : Int32)) C (ckD_get k_X6_isRow_0 7 rfl) (by decide) ?_
  refine g_iload 2 C (ckD_get k_X6_isRow_0 8 rfl) rfl ?_
  refine g_imul C (ckD_get k_X6_isRow_0 9 rfl) ?_
  refine g_iconst (v := (1 : Int32)) C (ckD_get k_X6_isRow_0 10 rfl) (by decide) ?_
  refine g_isub C (ckD_get k_X6_isRow_0 11 rfl) ?_
  refine g_icmp_ge C (ckD_get k_X6_isRow_0 12 rfl) (fun c_6 => ?_) (fun c_6 => ?_)
  · have hf := if_t hf c_6
    refine G.sub [4] rfl ?_
    cases hf
    exact hE_9 _ (hz_9 _ rfl).symm
  · have hf := if_f hf c_6
    refine g_lload_n 0 C (ckD_get k_X6_isRow_0 13 rfl) rfl rfl ?_
    refine g_lload_n 1 C (ckD_get k_X6_isRow_0 14 rfl) rfl rfl ?_
    refine g_iload 5 C (ckD_get k_X6_isRow_0 15 rfl) rfl ?_
    refine n_cS [.long a0, .long a1, .int x7_3] [] C (ckD_get k_X6_isRow_0 16 rfl) sk_X6_31 (t_X6_tokenAt C.tr _ _ _ _ _ rfl) rfl rfl (Nat.le_of_ble_eq_true rfl) (by decide) hB rfl ?_
    obtain ⟨x8_7, ex8_7, hf⟩ := lt_e hf
    refine topI ex8_7 ?_
    refine g_istore (lv' := [(8, _), (0, _), (2, _), (4, _), (5, _), (6, _), (7, _)]) C (ckD_get k_X6_isRow_0 17 rfl) hL8 rfl ?_
    refine g_iload 0 C (ckD_get k_X6_isRow_0 18 rfl) rfl ?_
    refine g_iload 3 C (ckD_get k_X6_isRow_0 19 rfl) rfl ?_
    have hJ_89 : ∀ (p5_8 : Int32) (p6_9 : Int32), f_X6_isRow_J89 x7_3 p5_8 p6_9 = some rr_9 → G K (0, 0) 89 [(0, .long a0), (2, .long a1), (4, .int a2), (5, .int p5_8), (6, .int p6_9), (7, .int x7_3)] [] M := by
      intro p5_8 p6_9 hf
      unfold f_X6_isRow_J89 at hf
      obtain ⟨x7_10, ex7_10, hf⟩ := lt_e hf
      refine g_iinc (lv' := [(7, _), (0, _), (2, _), (4, _), (5, _), (6, _)]) 5 C (ckD_get k_X6_isRow_1 6 rfl) rfl ex7_10 hL7 rfl ?_
      refine g_goto C (ckD_get k_X6_isRow_1 7 rfl) ?_
      refine G.sub [1, 2, 3, 4, 5, 0] rfl ?_
      cases hf
      exact hn_9 _ rfl
    have hJ_61 : ∀ (p5_11 : Int32) (p6_12 : Int32), f_X6_isRow_J61 x7_3 x8_7 p5_11 p6_12 = some rr_9 → G K (0, 0) 61 [(0, .long a0), (2, .long a1), (4, .int a2), (5, .int p5_11), (6, .int p6_12), (7, .int x7_3), (8, .int x8_7)] [] M := by
      intro p5_11 p6_12 hf
      unfold f_X6_isRow_J61 at hf
      refine g_iload 6 C (ckD_get k_X6_isRow_0 33 rfl) rfl ?_
      refine g_bipush (v := (12 : Int32)) C (ckD_get k_X6_isRow_0 34 rfl) (by decide) ?_
      have hJ_75 : ∀ (_ : Unit), f_X6_isRow_J75 x7_3 p5_11 p6_12 () = some rr_9 → G K (0, 0) 75 [(0, .long a0), (2, .long a1), (4, .int a2), (5, .int p5_11), (6, .int p6_12), (7, .int x7_3)] [] M := by
        intro _ hf
        unfold f_X6_isRow_J75 at hf
        refine g_iload 4 C (ckD_get k_X6_isRow_0 39 rfl) rfl ?_
        refine g_iconst (v := (1 : Int32)) C (ckD_get k_X6_isRow_1 0 rfl) (by decide) ?_
        refine g_icmp_le C (ckD_get k_X6_isRow_1 1 rfl) (fun c_13 => ?_) (fun c_13 => ?_)
        · have hf := if_t hf c_13
          refine g_iconst (v := (0 : Int32)) C (ckD_get k_X6_isRow_1 4 rfl) (by decide) ?_
          cases hf
          cases hO_9 _ (hz_9 _ rfl).symm
          exact g_zret C (ckD_get k_X6_isRow_1 5 rfl) hr rfl hRv (Nat.le_refl _) (Nat.le_refl _)
        · have hf := if_f hf c_13
          obtain ⟨x6_14, ex6_14, hf⟩ := lt_e hf
          refine g_iinc (lv' := [(6, _), (0, _), (2, _), (4, _), (5, _), (7, _)]) 4 C (ckD_get k_X6_isRow_1 2 rfl) rfl ex6_14 hL6 rfl ?_
          refine g_goto C (ckD_get k_X6_isRow_1 3 rfl) ?_
          refine G.sub [1, 2, 3, 4, 0, 5] rfl ?_
          exact hJ_89 _ _ hf
      refine g_icmp_eq C (ckD_get k_X6_isRow_0 35 rfl) (fun c_15 => ?_) (fun c_15 => ?_)
      · have hf := if_t hf c_15
        refine G.sub [0, 1, 2, 3, 4, 5] rfl ?_
        exact hJ_75 () hf
      · have hf := if_f hf c_15
        refine g_iload 6 C (ckD_get k_X6_isRow_0 36 rfl) rfl ?_
        refine g_bipush (v := (13 : Int32)) C (ckD_get k_X6_isRow_0 37 rfl) (by decide) ?_
        refine g_icmp_ne C (ckD_get k_X6_isRow_0 38 rfl) (fun c_16 => ?_) (fun c_16 => ?_)
        · have hf := if_f hf c_16
          refine g_iconst (v := (0 : Int32)) C (ckD_get k_X6_isRow_1 4 rfl) (by decide) ?_
          cases hf
          cases hO_9 _ (hz_9 _ rfl).symm
          exact g_zret C (ckD_get k_X6_isRow_1 5 rfl) hr rfl hRv (Nat.le_refl _) (Nat.le_refl _)
        · have hf := if_t hf c_16
          refine G.sub [0, 1, 2, 3, 4, 5] rfl ?_
          exact hJ_75 () hf
    refine g_icmp_ge C (ckD_get k_X6_isRow_0 20 rfl) (fun c_17 => ?_) (fun c_17 => ?_)
    · have hf := if_t hf c_17
      refine G.sub [1, 2, 3, 4, 5, 6, 0] rfl ?_
      exact hJ_61 _ _ hf
    · have hf := if_f hf c_17
      refine g_iload 4 C (ckD_get k_X6_isRow_0 21 rfl) rfl ?_
      refine g_iload 0 C (ckD_get k_X6_isRow_0 22 rfl) rfl ?_
      refine n_cN [.int x5_1, .int x8_7] [] C (ckD_get k_X6_isRow_0 23 rfl) nk_X6_35 (t_X9_bitOf C.tr _ _ _ _ rfl) rfl rfl (Nat.le_of_ble_eq_true rfl) (by decide) hB rfl ?_
      refine g_if_ne C (ckD_get k_X6_isRow_0 24 rfl) (fun c_18 => ?_) (fun c_18 => ?_)
      · have hf := if_f hf c_18
        refine G.sub [1, 2, 3, 4, 5, 6, 0] rfl ?_
        exact hJ_61 _ _ hf
      · have hf := if_t hf c_18
        refine g_iload 4 C (ckD_get k_X6_isRow_0 25 rfl) rfl ?_
        refine g_iconst (v := (1 : Int32)) C (ckD_get k_X6_isRow_0 26 rfl) (by decide) ?_
        refine g_iload 0 C (ckD_get k_X6_isRow_0 27 rfl) rfl ?_
        refine g_ishl C (ckD_get k_X6_isRow_0 28 rfl) ?_
        refine g_ior C (ckD_get k_X6_isRow_0 29 rfl) ?_
        obtain ⟨x5_19, ex5_19, hf⟩ := lt_e hf
        refine topI ex5_19 ?_
        refine g_istore (lv' := [(5, _), (8, _), (0, _), (2, _), (4, _), (6, _), (7, _)]) C (ckD_get k_X6_isRow_0 30 rfl) hL5 rfl ?_
        obtain ⟨x6_20, ex6_20, hf⟩ := lt_e hf
        refine g_iinc (lv' := [(6, _), (5, _), (8, _), (0, _), (2, _), (4, _), (7, _)]) 5 C (ckD_get k_X6_isRow_0 31 rfl) rfl ex6_20 hL6 rfl ?_
        refine g_goto C (ckD_get k_X6_isRow_0 32 rfl) ?_
        refine G.sub [3, 4, 5, 1, 0, 6] rfl ?_
        exact hJ_89 _ _ hf
