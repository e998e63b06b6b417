set_option maxRecDepth 20000 in
theorem k_X6_read_0 : ckD cX6_read [(0, .aload_n 0, 1, 1, 0), (1, .iconst 2, 1, 2, 0), (2, .iload 5, 2, 4, 0), (4, .imul, 1, 5, 0), (5, .iconst 1, 1, 6, 0), (6, .isub, 1, 7, 0), (7, .putfield 39, 3, 10, 0), (10, .iconst 0, 1, 11, 0), (11, .istore 6, 2, 13, 0), (13, .iload 6, 2, 15, 0), (15, .aload_n 0, 1, 16, 0), (16, .getfield 39, 3, 19, 0), (19, .if_icmp .ge 23, 3, 22, 42), (22, .aload_n 0, 1, 23, 0), (23, .getfield 9, 3, 26, 0), (26, .iload 6, 2, 28, 0), (28, .lload_n 1, 1, 29, 0), (29, .lload_n 3, 1, 30, 0), (30, .iload 6, 2, 32, 0), (32, .invokestatic 31, 3, 35, 0), (35, .iastore, 1, 36, 0), (36, .iinc 6 1, 3, 39, 0), (39, .goto (-26), 3, 42, 13), (42, .return_, 1, 43, 0)] = true := by decide +kernel
def f_X6_read_A13 (M_4 : Mm) : Option Mm := some M_4
def f_X6_read_L13 (k0 : Nat) (a1 : Int64) (a2 : Int64) (x6_2 : Int32) (M_3 : Mm) : Option ((Int32 × Mm) ⊕ Mm) := if (M_3.1 k0 5) ≤ x6_2 then some (.inr M_3) else wrI 23 M_3 (k0 + 1) x6_2 (f_X6_tokenAt a1 a2 x6_2) fun M_6 => lt1 (x6_2 + 1) fun x6_8 => some (.inl (x6_8, M_6))
def f_X6_read (k0 : Nat) (a1 : Int64) (a2 : Int64) (a3 : Int32) (M : Mm) : Option Mm := lt1 (wi M k0 5 (((2 : Int32) * a3) - (1 : Int32))) fun M_1 => (loop (fun v => f_X6_read_L13 k0 a1 a2 v.1 v.2) FU ((0 : Int32), M_1)).bind fun z => f_X6_read_A13 z
set_option maxRecDepth 100000 in
set_option maxHeartbeats 4000000 in
theorem t_X6_read {E : Ev} {l : Launch} (htr : l.stackTraces = false) (k0 : Nat) (hk0 : isRo k0) (a1 : Int64) (a2 : Int64) (a3 : Int32) (M : Mm) (r : Mm) (hf : f_X6_read k0 a1 a2 a3 M = some r) : CM E l 2 0 0 yX6_read cX6_read 7 none [.ref (E.1 + k0), .long a1, .long a2, .int a3] M none r := by
  refine CM.of htr (by decide +kernel) (Nat.le_of_ble_eq_true rfl) ?_
  intro K hE hL hl hR0 C hr hRv
  subst hE
  subst hl
  have C : Cx K cX6_read RX6 2 := C
  have hB : (0 : Nat) ≤ K.1.R.cells ∧ 0 ≤ K.1.R.slots := ⟨Nat.zero_le _, Nat.zero_le _⟩
  have hL6 : 6 < K.2.2.1 := by rw [hL]; decide
  show G K (0, 0) 0 [(0, .ref (K.2.1.1 + k0)), (1, .long a1), (3, .long a2), (5, .int a3)] [] M
  unfold f_X6_read at hf
  refine g_aload_n 0 C (ckD_get k_X6_read_0 0 rfl) rfl rfl ?_
  refine g_iconst (v := (2 : Int32)) C (ckD_get k_X6_read_0 1 rfl) (by decide) ?_
  refine g_iload 3 C (ckD_get k_X6_read_0 2 rfl) rfl ?_
  refine g_imul C (ckD_get k_X6_read_0 3 rfl) ?_
  refine g_iconst (v := (1 : Int32)) C (ckD_get k_X6_read_0 4 rfl) (by decide) ?_
  refine g_isub C (ckD_get k_X6_read_0 5 rfl) ?_
  obtain ⟨M_1, eM_1, hf⟩ := lt_e hf
  refine g_putI C (ckD_get k_X6_read_0 6 rfl) fk_X6_39 (T_Ro hk0) rfl ?_
  refine memI eM_1 ?_
  refine g_iconst (v := (0 : Int32)) C (ckD_get k_X6_read_0 7 rfl) (by decide) ?_
  refine g_istore (lv' := [(6, _), (0, _), (1, _), (3, _), (5, _)]) C (ckD_get k_X6_read_0 8 rfl) hL6 rfl ?_
  refine G.sub [1, 2, 3, 0] rfl ?_
  obtain ⟨M_4, hx_13, hf⟩ := bd_e hf
  have hE_13 : G K (0, 0) 42 [] [] M_4 := by
    have hf : f_X6_read_A13 M_4 = some r := hf
    unfold f_X6_read_A13 at hf
    cases hf
    exact g_vret C (ckD_get k_X6_read_0 23 rfl) hr hRv (Nat.le_refl _) (Nat.le_refl _)
  refine loop_e (x := M_4) (P := fun (v : (Int32 × Mm)) => G K (0, 0) 13 [(0, .ref (K.2.1.1 + k0)), (1, .long a1), (3, .long a2), (6, .int v.1)] [] v.2) ?_ FU _ hx_13
  intro v rr_13 hf hn_13 hz_13
  obtain ⟨x6_2, M_3⟩ := v
  have hf : f_X6_read_L13 k0 a1 a2 x6_2 M_3 = some rr_13 := hf
  show G K (0, 0) 13 [(0, .ref (K.2.1.1 + k0)), (1, .long a1), (3, .long a2), (6, .int x6_2)] [] M_3
  unfold f_X6_read_L13 at hf
  refine g_iload 3 C (ckD_get k_X6_read_0 9 rfl) rfl ?_
  refine g_aload_n 0 C (ckD_get k_X6_read_0 10 rfl) rfl rfl ?_
  refine g_getI C (ckD_get k_X6_read_0 11 rfl) fk_X6_39 (T_Ro hk0) rfl ?_
  refine g_icmp_ge C (ckD_get k_X6_read_0 12 rfl) (fun c_5 => ?_) (fun c_5 => ?_)
  · have hf := if_t hf c_5
    refine G.sub [] rfl ?_
    cases hf
    cases hz_13 _ rfl
    exact hE_13
  · have hf := if_f hf c_5
    refine g_aload_n 0 C (ckD_get k_X6_read_0 13 rfl) rfl rfl ?_
    refine g_getR C (ckD_get k_X6_read_0 14 rfl) fk_X6_9 (T_Ro hk0) rfl ?_
    refine g_iload 3 C (ckD_get k_X6_read_0 15 rfl) rfl ?_
    refine g_lload_n 1 C (ckD_get k_X6_read_0 16 rfl) rfl rfl ?_
    refine g_lload_n 2 C (ckD_get k_X6_read_0 17 rfl) rfl rfl ?_
    refine g_iload 3 C (ckD_get k_X6_read_0 18 rfl) rfl ?_
    refine n_cS [.long a1, .long a2, .int x6_2] [.int x6_2, .ref (K.2.1.1 + (k0 + 1))] C (ckD_get k_X6_read_0 19 rfl) sk_X6_31 (t_X6_tokenAt C.tr _ _ _ _ _ rfl) rfl rfl (Nat.le_of_ble_eq_true rfl) (by decide) hB rfl ?_
    obtain ⟨M_6, hi_7, eM_6, hf⟩ := wrI_e hf
    refine n_iast C (ckD_get k_X6_read_0 20 rfl) (T_Ro1 hk0) hi_7 eM_6 ?_
    obtain ⟨x6_8, ex6_8, hf⟩ := lt_e hf
    refine g_iinc (lv' := [(6, _), (0, _), (1, _), (3, _)]) 3 C (ckD_get k_X6_read_0 21 rfl) rfl ex6_8 hL6 rfl ?_
    refine g_goto C (ckD_get k_X6_read_0 22 rfl) ?_
    refine G.sub [1, 2, 3, 0] rfl ?_
    cases hf
    exact hn_13 _ rfl

set_option maxRecDepth 20000 in
theorem k_X6_shift_0 : ckD cX6_shift [(0, .iconst 0, 1, 1, 0), (1, .istore_n 3, 1, 2, 0), (2, .iload_n 3, 1, 3, 0), (3, .bipush 12, 2, 5, 0), (5, .if_icmp .ge 25, 3, 8, 30), (8, .iload_n 1, 1, 9, 0), (9, .iload_n 3, 1, 10, 0), (10, .invokestatic 35, 3, 13, 0), (13, .iconst 1, 1, 14, 0), (14, .if_icmp .ne 10, 3, 17, 24), (17, .aload_n 0, 1, 18, 0), (18, .iload_n 3, 1, 19, 0), (19, .dup2, 1, 20, 0), (20, .iaload, 1, 21, 0), (21, .iload_n 2, 1, 22, 0), (22, .iadd, 1, 23, 0), (23, .iastore, 1, 24, 0), (24, .iinc 3 1, 3, 27, 0), (27, .goto (-25), 3, 30, 2), (30, .return_, 1, 31, 0)] = true := by decide +kernel
def f_X6_shift_A2 (M_3 : Mm) : Option Mm := some M_3
def f_X6_shift_J24 (x3_1 : Int32) (M_5 : Mm) : Option ((Int32 × Mm) ⊕ Mm) := lt1 (x3_1 + 1) fun x3_6 => some (.inl (x3_6, M_5))
def f_X6_shift_L2 (k0 : Nat) (a1 : Int32) (a2 : Int32) (x3_1 : Int32) (M_2 : Mm) : Option ((Int32 × Mm) ⊕ Mm) := if (12 : Int32) ≤ x3_1 then some (.inr M_2) else if (f_X9_bitOf a1 x3_1) = (1 : Int32) then rdI 12 M_2 k0 x3_1 fun v_8 => wrI 12 M_2 k0 x3_1 (v_8 + a2) fun M_10 => f_X6_shift_J24 x3_1 M_10 else f_X6_shift_J24 x3_1 M_2
def f_X6_shift (k0 : Nat) (a1 : Int32) (a2 : Int32) (M : Mm) : Option Mm := (loop (fun v => f_X6_shift_L2 k0 a1 a2 v.1 v.2) FU ((0 : Int32), M)).bind fun z => f_X6_shift_A2 z
set_option maxRecDepth 100000 in
set_option maxHeartbeats 4000000 in
theorem t_X6_shift {E : Ev} {l : Launch} (htr : l.stackTraces = false) (k0 : Nat) (hk0 : LT[k0]? = some (0, 12, [])) (a1 : Int32) (a2 : Int32) (M : Mm) (r : Mm) (hf : f_X6_shift k0 a1 a2 M = some r) : CM E l 1 0 0 yX6_shift cX6_shift 4 none [.ref (E.1 + k0), .int a1, .int a2] M none r := by
  refine CM.of htr (by decide +kernel) (Nat.le_of_ble_eq_true rfl) ?_
  intro K hE hL hl hR0 C hr hRv
  subst hE
  subst hl
  have C : Cx K cX6_shift RX6 1 := C
  have hB : (0 : Nat) ≤ K.1.R.cells ∧ 0 ≤ K.1.R.slots := ⟨Nat.zero_le _, Nat.zero_le _⟩
  have hL3 : 3 < K.2.2.1 := by rw [hL]; decide
  show G K (0, 0) 0 [(0, .ref (K.2.1.1 + k0)), (1, .int a1), (2, .int a2)] [] M
  unfold f_X6_shift at hf
  refine g_iconst (v := (0 : Int32)) C (ckD_get k_X6_shift_0 0 rfl) (by decide) ?_
  refine g_istore_n (lv' := [(3, _), (0, _), (1, _), (2, _)]) C (ckD_get k_X6_shift_0 1 rfl) rfl hL3 rfl ?_
  refine G.sub [1, 2, 3, 0] rfl ?_
  obtain ⟨M_3, hx_2, hf⟩ := bd_e hf
  have hE_2 : G K (0, 0) 30 [] [] M_3 := by
    have hf : f_X6_shift_A2 M_3 = some r := hf
    unfold f_X6_shift_A2 at hf
    cases hf
    exact g_vret C (ckD_get k_X6_shift_0 19 rfl) hr hRv (Nat.le_refl _) (Nat.le_refl _)
  refine loop_e (x := M_3) (P := fun (v : (Int32 × Mm)) => G K (0, 0) 2 [(0, .ref (K.2.1.1 + k0)), (1, .int a1), (2, .int a2), (3, .int v.1)] [] v.2) ?_ FU _ hx_2
  intro v rr_2 hf hn_2 hz_2
  obtain ⟨x3_1, M_2⟩ := v
  have hf : f_X6_shift_L2 k0 a1 a2 x3_1 M_2 = some rr_2 := hf
  show G K (0, 0) 2 [(0, .ref (K.2.1.1 + k0)), (1, .int a1), (2, .int a2), (3, .int x3_1)] [] M_2
  unfold f_X6_shift_L2 at hf
  refine g_iload_n 3 C (ckD_get k_X6_shift_0 2 rfl) rfl rfl ?_
  refine g_bipush (v := (12 : Int32)) C (ckD_get k_X6_shift_0 3 rfl) (by decide) ?_
  refine g_icmp_ge C (ckD_get k_X6_shift_0 4 rfl) (fun c_4 => ?_) (fun c_4 => ?_)
  · have hf := if_t hf c_4
    refine G.sub [] rfl ?_
    cases hf
    cases hz_2 _ rfl
    exact hE_2
  · have hf := if_f hf c_4
    refine g_iload_n 1 C (ckD_get k_X6_shift_0 5 rfl) rfl rfl ?_
    refine g_iload_n 3 C (ckD_get k_X6_shift_0 6 rfl) rfl rfl ?_
    refine n_cN [.int a1, .int x3_1] [] C (ckD_get k_X6_shift_0 7 rfl) nk_X6_35 (t_X9_bitOf C.tr _ _ _ _ rfl) rfl rfl (Nat.le_of_ble_eq_true rfl) (by decide) hB rfl ?_
    refine g_iconst (v := (1 : Int32)) C (ckD_get k_X6_shift_0 8 rfl) (by decide) ?_
    have hJ_24 : ∀ (M_5 : Mm), f_X6_shift_J24 x3_1 M_5 = some rr_2 → G K (0, 0) 24 [(0, .ref (K.2.1.1 + k0)), (1, .int a1), (2, .int a2), (3, .int x3_1)] [] M_5 := by
      intro M_5 hf
      unfold f_X6_shift_J24 at hf
      obtain ⟨x3_6, ex3_6, hf⟩ := lt_e hf
      refine g_iinc (lv' := [(3, _), (0, _), (1, _), (2, _)]) 3 C (ckD_get k_X6_shift_0 17 rfl) rfl ex3_6 hL3 rfl ?_
      refine g_goto C (ckD_get k_X6_shift_0 18 rfl) ?_
      refine G.sub [1, 2, 3, 0] rfl ?_
      cases hf
      exact hn_2 _ rfl
    refine g_icmp_ne C (ckD_get k_X6_shift_0 9 rfl) (fun c_7 => ?_) (fun c_7 => ?_)
    · have hf := if_f hf c_7
      exact hJ_24 _ hf
    · have hf := if_t hf c_7
      refine g_aload_n 0 C (ckD_get k_X6_shift_0 10 rfl) rfl rfl ?_
      refine g_iload_n 3 C (ckD_get k_X6_shift_0 11 rfl) rfl rfl ?_
      refine g_dup2 C (ckD_get k_X6_shift_0 12 rfl) rfl rfl ?_
      obtain ⟨v_8, hi_9, ev_8, hf⟩ := rdI_e hf
      refine n_iald C (ckD_get k_X6_shift_0 13 rfl) hk0 hi_9 ev_8 ?_
      refine g_iload_n 2 C (ckD_get k_X6_shift_0 14 rfl) rfl rfl ?_
      refine g_iadd C (ckD_get k_X6_shift_0 15 rfl) ?_
      obtain ⟨M_10, hi_11, eM_10, hf⟩ := wrI_e hf
      refine n_iast C (ckD_get k_X6_shift_0 16 rfl) hk0 hi_11 eM_10 ?_
      exact hJ_24 _ hf

set_option maxRecDepth 20000 in
theorem k_X6_join_0 : ckD cX6_join [(0, .iload_n 3, 1, 1, 0), (1, .iconst 1, 1, 2, 0), (2, .iadd, 1, 3, 0), (3, .istore 4, 2, 5, 0), (5, .iload_n 2, 1, 6, 0), (6, .bipush 12, 2, 8, 0), (8, .if_icmp .ne 64, 3, 11, 72), (11, .aload_n 1, 1, 12, 0), (12, .getfield 43, 3, 15, 0), (15, .aload_n 0, 1, 16, 0), (16, .getfield 18, 3, 19, 0), (19, .iload 4, 2, 21, 0), (21, .iaload, 1, 22, 0), (22, .aload_n 0, 1, 23, 0), (23, .getfield 21, 3, 26, 0), (26, .iload_n 3, 1, 27, 0), (27, .iaload, 1, 28, 0), (28, .invokestatic 61, 3, 31, 0), (31, .aload_n 0, 1, 32, 0), (32, .getfield 21, 3, 35, 0), (35, .iload_n 3, 1, 36, 0), (36, .dup2, 1, 37, 0), (37, .iaload, 1, 38, 0), (38, .aload_n 0, 1, 39, 0), (39, .getfield 21, 3, 42, 0), (42, .iload 4, 2, 44, 0), (44, .iaload, 1, 45, 0), (45, .iadd, 1, 46, 0), (46, .iastore, 1, 47, 0), (47, .aload_n 0, 1, 48, 0), (48, .getfield 24, 3, 51, 0), (51, .iload_n 3, 1, 52, 0), (52, .aload_n 0, 1, 53, 0), (53, .getfield 24, 3, 56, 0), (56, .iload_n 3, 1, 57, 0), (57, .iaload, 1, 58, 0), (58, .aload_n 0, 1, 59, 0), (59, .getfield 24, 3, 62, 0), (62, .iload 4, 2, 64, 0), (64, .iaload, 1, 65, 0)] = true := by decide +kernel
set_option maxRecDepth 20000 in
theorem k_X6_join_1 : ckD cX6_join [(65, .invokestatic 65, 3, 68, 0), (68, .iastore, 1, 69, 0), (69, .goto 61, 3, 72, 130), (72, .aload_n 1, 1, 73, 0), (73, .getfield 48, 3, 76, 0), (76, .aload_n 0, 1, 77, 0), (77, .getfield 18, 3, 80, 0), (80, .iload 4, 2, 82, 0), (82, .iaload, 1, 83, 0), (83, .aload_n 0, 1, 84, 0), (84, .getfield 24, 3, 87, 0), (87, .iload_n 3, 1, 88, 0), (88, .iaload, 1, 89, 0), (89, .invokestatic 61, 3, 92, 0), (92, .aload_n 0, 1, 93, 0), (93, .getfield 24, 3, 96, 0), (96, .iload_n 3, 1, 97, 0), (97, .dup2, 1, 98, 0), (98, .iaload, 1, 99, 0), (99, .aload_n 0, 1, 100, 0), (100, .getfield 24, 3, 103, 0), (103, .iload 4, 2, 105, 0), (105, .iaload, 1, 106, 0), (106, .iadd, 1, 107, 0), (107, .iastore, 1, 108, 0), (108, .aload_n 0, 1, 109, 0), (109, .getfield 21, 3, 112, 0), (112, .iload_n 3, 1, 113, 0), (113, .aload_n 0, 1, 114, 0), (114, .getfield 21, 3, 117, 0), (117, .iload_n 3, 1, 118, 0), (118, .iaload, 1, 119, 0), (119, .aload_n 0, 1, 120, 0), (120, .getfield 21, 3, 123, 0), (123, .iload 4, 2, 125, 0), (125, .iaload, 1, 126, 0), (126, .invokestatic 65, 3, 129, 0), (129, .iastore, 1, 130, 0), (130, .aload_n 0, 1, 131, 0), (131, .getfield 18, 3, 134, 0)] = true := by decide +kernel
set_option maxRecDepth 20000 in
theorem k_X6_join_2 : ckD cX6_join [(134, .iload_n 3, 1, 135, 0), (135, .dup2, 1, 136, 0), (136, .iaload, 1, 137, 0), (137, .aload_n 0, 1, 138, 0), (138, .getfield 18, 3, 141, 0), (141, .iload 4, 2, 143, 0), (143, .iaload, 1, 144, 0), (144, .ior, 1, 145, 0), (145, .iastore, 1, 146, 0), (146, .return_, 1, 147, 0)] = true := by decide +kernel
def f_X6_join_J130 (k0 : Nat) (a3 : Int32) (x4_1 : Int32) (M_2 : Mm) : Option Mm := rdI 12 M_2 (k0 + 3) a3 fun v_3 => rdI 12 M_2 (k0 + 3) x4_1 fun v_5 => wrI 12 M_2 (k0 + 3) a3 (v_3 ||| v_5) fun M_7 => some M_7
def f_X6_join (k0 : Nat) (k1 : Nat) (a2 : Int32) (a3 : Int32) (M : Mm) : Option Mm := lt1 (a3 + (1 : Int32)) fun x4_1 => if a2 = (12 : Int32) then rdI 12 M (k0 + 3) x4_1 fun v_28 => rdI 12 M (k0 + 4) a3 fun v_30 => (f_X6_shift (k1 + 1) v_28 v_30 M).bind fun M_33 => rdI 12 M_33 (k0 + 4) a3 fun v_34 => rdI 12 M_33 (k0 + 4) x4_1 fun v_36 => wrI 12 M_33 (k0 + 4) a3 (v_34 + v_36) fun M_38 => rdI 12 M_38 (k0 + 5) a3 fun v_40 => rdI 12 M_38 (k0 + 5) x4_1 fun v_42 => wrI 12 M_38 (k0 + 5) a3 (jmax v_40 v_42) fun M_44 => f_X6_join_J130 k0 a3 x4_1 M_44 else rdI 12 M (k0 + 3) x4_1 fun v_10 => rdI 12 M (k0 + 5) a3 fun v_12 => (f_X6_shift (k1 + 2) v_10 v_12 M).bind fun M_15 => rdI 12 M_15 (k0 + 5) a3 fun v_16 => rdI 12 M_15 (k0 + 5) x4_1 fun v_18 => wrI 12 M_15 (k0 + 5) a3 (v_16 + v_18) fun M_20 => rdI 12 M_20 (k0 + 4) a3 fun v_22 => rdI 12 M_20 (k0 + 4) x4_1 fun v_24 => wrI 12 M_20 (k0 + 4) a3 (jmax v_22 v_24) fun M_26 => f_X6_join_J130 k0 a3 x4_1 M_26
set_option maxRecDepth 100000 in
set_option maxHeartbeats 4000000 in
theorem t_X6_join {E : Ev} {l : Launch} (htr : l.stackTraces = false) (k0 : Nat) (hk0 : isRo k0) (k1 : Nat) (hk1 : isGr k1) (a2 : Int32) (a3 : Int32) (M : Mm) (r : Mm) (hf : f_X6_join k0 k1 a2 a3 M = some r) : CM E l 2 0 0 yX6_join cX6_join 5 none [.ref (E.1 + k0), .ref (E.1 + k1), .int a2, .int a3] M none r := by
  refine CM.of htr (by decide +kernel) (Nat.le_of_ble_eq_true rfl) ?_
  intro K hE hL hl hR0 C hr hRv
  subst hE
  subst hl
  have C : Cx K cX6_join RX6 2 := C
  have hB : (0 : Nat) ≤ K.1.R.cells ∧ 0 ≤ K.1.R.slots := ⟨Nat.zero_le _, Nat.zero_le _⟩
  have hL4 : 4 < K.2.2.1 := by rw [hL]; decide
  show G K (0, 0) 0 [(0, .ref (K.2.1.1 + k0)), (1, .ref (K.2.1.1 + k1)), (2, .int a2), (3, .int a3)] [] M
  unfold f_X6_join at hf
  refine g_iload_n 3 C (ckD_get k_X6_join_0 0 rfl) rfl rfl ?_
  refine g_iconst (v := (1 : Int32)) C (ckD_get k_X6_join_0 1 rfl) (by decide) ?_
  refine g_iadd C (ckD_get k_X6_join_0 2 rfl) ?_
  obtain ⟨x4_1, ex4_1, hf⟩ := lt_e hf
  refine topI ex4_1 ?_
  refine g_istore (lv' := [(4, _), (0, _), (1, _), (2, _), (3, _)]) C (ckD_get k_X6_join_0 3 rfl) hL4 rfl ?_
  refine g_iload_n 3 C (ckD_get k_X6_join_0 4 rfl) rfl rfl ?_
  refine g_bipush (v := (12 : Int32)) C (ckD_get k_X6_join_0 5 rfl) (by decide) ?_
  have hJ_130 : ∀ (M_2 : Mm), f_X6_join_J130 k0 a3 x4_1 M_2 = some r → G K (0, 0) 130 [(0, .ref (K.2.1.1 + k0)), (3, .int a3), (4, .int x4_1)] [] M_2 := by
    intro M_2 hf
    unfold f_X6_join_J130 at hf
    refine g_aload_n 0 C (ckD_get k_X6_join_1 38 rfl) rfl rfl ?_
    refine g_getR C (ckD_get k_X6_join_1 39 rfl) fk_X6_18 (T_Ro hk0) rfl ?_
    refine g_iload_n 1 C (ckD_get k_X6_join_2 0 rfl) rfl rfl ?_
    refine g_dup2 C (ckD_get k_X6_join_2 1 rfl) rfl rfl ?_
    obtain ⟨v_3, hi_4, ev_3, hf⟩ := rdI_e hf
    refine n_iald C (ckD_get k_X6_join_2 2 rfl) (T_Ro3 hk0) hi_4 ev_3 ?_
    refine g_aload_n 0 C (ckD_get k_X6_join_2 3 rfl) rfl rfl ?_
    refine g_getR C (ckD_get k_X6_join_2 4 rfl) fk_X6_18 (T_Ro hk0) rfl ?_
    refine g_iload 2 C (ckD_get k_X6_join_2 5 rfl) rfl ?_
    obtain ⟨v_5, hi_6, ev_5, hf⟩ := rdI_e hf
    refine n_iald C (ckD_get k_X6_join_2 6 rfl) (T_Ro3 hk0) hi_6 ev_5 ?_
    refine g_ior C (ckD_get k_X6_join_2 7 rfl) ?_
    obtain ⟨M_7, hi_8, eM_7, hf⟩ := wrI_e hf
    refine n_iast C (ckD_get k_X6_join_2 8 rfl) (T_Ro3 hk0) hi_8 eM_7 ?_
    cases hf
    exact g_vret C (ckD_get k_X6_join_2 9 rfl) hr hRv (Nat.le_refl _) (Nat.le_refl _)
  refine g_icmp_ne C (ckD_get k_X6_join_0 6 rfl) (fun c_9 => ?_) (fun c_9 => ?_)
  · have hf := if_f hf c_9
    refine g_aload_n 2 C (ckD_get k_X6_join_1 3 rfl) rfl rfl ?_
    refine g_getR C (ckD_get k_X6_join_1 4 rfl) fk_X6_48 (T_Gr hk1) rfl ?_
    refine g_aload_n 1 C (ckD_get k_X6_join_1 5 rfl) rfl rfl ?_
    refine g_getR C (ckD_get k_X6_join_1 6 rfl) fk_X6_18 (T_Ro hk0) rfl ?_
    refine g_iload 0 C (ckD_get k_X6_join_1 7 rfl) rfl ?_
    obtain ⟨v_10, hi_11, ev_10, hf⟩ := rdI_e hf
    refine n_iald C (ckD_get k_X6_join_1 8 rfl) (T_Ro3 hk0) hi_11 ev_10 ?_
    refine g_aload_n 1 C (ckD_get k_X6_join_1 9 rfl) rfl rfl ?_
    refine g_getR C (ckD_get k_X6_join_1 10 rfl) fk_X6_24 (T_Ro hk0) rfl ?_
    refine g_iload_n 4 C (ckD_get k_X6_join_1 11 rfl) rfl rfl ?_
    obtain ⟨v_12, hi_13, ev_12, hf⟩ := rdI_e hf
    refine n_iald C (ckD_get k_X6_join_1 12 rfl) (T_Ro5 hk0) hi_13 ev_12 ?_
    obtain ⟨M_15, hr_14, hf⟩ := bd_e hf
    refine n_cS [.ref (K.2.1.1 + (k1 + 2)), .int v_10, .int v_12] [] C (ckD_get k_X6_join_1 13 rfl) sk_X6_61 (t_X6_shift C.tr _ (T_Gr2 hk1) _ _ _ _ hr_14) rfl rfl (Nat.le_of_ble_eq_true rfl) (by decide) hB rfl ?_
    refine g_aload_n 1 C (ckD_get k_X6_join_1 14 rfl) rfl rfl ?_
    refine g_getR C (ckD_get k_X6_join_1 15 rfl) fk_X6_24 (T_Ro hk0) rfl ?_
    refine g_iload_n 4 C (ckD_get k_X6_join_1 16 rfl) rfl rfl ?_
    refine g_dup2 C (ckD_get k_X6_join_1 17 rfl) rfl rfl ?_
    obtain ⟨v_16, hi_17, ev_16, hf⟩ := rdI_e hf
    refine n_iald C (ckD_get k_X6_join_1 18 rfl) (T_Ro5 hk0) hi_17 ev_16 ?_
    refine g_aload_n 1 C (ckD_get k_X6_join_1 19 rfl) rfl rfl ?_
    refine g_getR C (ckD_get k_X6_join_1 20 rfl) fk_X6_24 (T_Ro hk0) rfl ?_
    refine g_iload 0 C (ckD_get k_X6_join_1 21 rfl) rfl ?_
    obtain ⟨v_18, hi_19, ev_18, hf⟩ := rdI_e hf
    refine n_iald C (ckD_get k_X6_join_1 22 rfl) (T_Ro5 hk0) hi_19 ev_18 ?_
    refine g_iadd C (ckD_get k_X6_join_1 23 rfl) ?_
    obtain ⟨M_20, hi_21, eM_20, hf⟩ := wrI_e hf
    refine n_iast C (ckD_get k_X6_join_1 24 rfl) (T_Ro5 hk0) hi_21 eM_20 ?_
    refine g_aload_n 1 C (ckD_get k_X6_join_1 25 rfl) rfl rfl ?_
    refine g_getR C (ckD_get k_X6_join_1 26 rfl) fk_X6_21 (T_Ro hk0) rfl ?_
    refine g_iload_n 4 C (ckD_get k_X6_join_1 27 rfl) rfl rfl ?_
    refine g_aload_n 1 C (ckD_get k_X6_join_1 28 rfl) rfl rfl ?_
    refine g_getR C (ckD_get k_X6_join_1 29 rfl) fk_X6_21 (T_Ro hk0) rfl ?_
    refine g_iload_n 4 C (ckD_get k_X6_join_1 30 rfl) rfl rfl ?_
    obtain ⟨v_22, hi_23, ev_22, hf⟩ := rdI_e hf
    refine n_iald C (ckD_get k_X6_join_1 31 rfl) (T_Ro4 hk0) hi_23 ev_22 ?_
    refine g_aload_n 1 C (ckD_get k_X6_join_1 32 rfl) rfl rfl ?_
    refine g_getR C (ckD_get k_X6_join_1 33 rfl) fk_X6_21 (T_Ro hk0) rfl ?_
    refine g_iload 0 C (ckD_get k_X6_join_1 34 rfl) rfl ?_
    obtain ⟨v_24, hi_25, ev_24, hf⟩ := rdI_e hf
    refine n_iald C (ckD_get k_X6_join_1 35 rfl) (T_Ro4 hk0) hi_25 ev_24 ?_
    refine n_mmax C (ckD_get k_X6_join_1 36 rfl) mk_X6_65 (by decide) (Nat.le_of_ble_eq_true rfl) hB ?_
    obtain ⟨M_26, hi_27, eM_26, hf⟩ := wrI_e hf
    refine n_iast C (ckD_get k_X6_join_1 37 rfl) (T_Ro4 hk0) hi_27 eM_26 ?_
    refine G.sub [1, 4, 0] rfl ?_
    exact hJ_130 _ hf
  · have hf := if_t hf c_9
    refine g_aload_n 2 C (ckD_get k_X6_join_0 7 rfl) rfl rfl ?_
    refine g_getR C (ckD_get k_X6_join_0 8 rfl) fk_X6_43 (T_Gr hk1) rfl ?_
    refine g_aload_n 1 C (ckD_get k_X6_join_0 9 rfl) rfl rfl ?_
    refine g_getR C (ckD_get k_X6_join_0 10 rfl) fk_X6_18 (T_Ro hk0) rfl ?_
    refine g_iload 0 C (ckD_get k_X6_join_0 11 rfl) rfl ?_
    obtain ⟨v_28, hi_29, ev_28, hf⟩ := rdI_e hf
    refine n_iald C (ckD_get k_X6_join_0 12 rfl) (T_Ro3 hk0) hi_29 ev_28 ?_
    refine g_aload_n 1 C (ckD_get k_X6_join_0 13 rfl) rfl rfl ?_
    refine g_getR C (ckD_get k_X6_join_0 14 rfl) fk_X6_21 (T_Ro hk0) rfl ?_
    refine g_iload_n 4 C (ckD_get k_X6_join_0 15 rfl) rfl rfl ?_
    obtain ⟨v_30, hi_31, ev_30, hf⟩ := rdI_e hf
    refine n_iald C (ckD_get k_X6_join_0 16 rfl) (T_Ro4 hk0) hi_31 ev_30 ?_
    obtain ⟨M_33, hr_32, hf⟩ := bd_e hf
    refine n_cS [.ref (K.2.1.1 + (k1 + 1)), .int v_28, .int v_30] [] C (ckD_get k_X6_join_0 17 rfl) sk_X6_61 (t_X6_shift C.tr _ (T_Gr1 hk1) _ _ _ _ hr_32) rfl rfl (Nat.le_of_ble_eq_true rfl) (by decide) hB rfl ?_
    refine g_aload_n 1 C (ckD_get k_X6_join_0 18 rfl) rfl rfl ?_
    refine g_getR C (ckD_get k_X6_join_0 19 rfl) fk_X6_21 (T_Ro hk0) rfl ?_
    refine g_iload_n 4 C (ckD_get k_X6_join_0 20 rfl) rfl rfl ?_
    refine g_dup2 C (ckD_get k_X6_join_0 21 rfl) rfl rfl ?_
    obtain ⟨v_34, hi_35, ev_34, hf⟩ := rdI_e hf
    refine n_iald C (ckD_get k_X6_join_0 22 rfl) (T_Ro4 hk0) hi_35 ev_34 ?_
    refine g_aload_n 1 C (ckD_get k_X6_join_0 23 rfl) rfl rfl ?_
    refine g_getR C (ckD_get k_X6_join_0 24 rfl) fk_X6_21 (T_Ro hk0) rfl ?_
    refine g_iload 0 C (ckD_get k_X6_join_0 25 rfl) rfl ?_
    obtain ⟨v_36, hi_37, ev_36, hf⟩ := rdI_e hf
    refine n_iald C (ckD_get k_X6_join_0 26 rfl) (T_Ro4 hk0) hi_37 ev_36 ?_
    refine g_iadd C (ckD_get k_X6_join_0 27 rfl) ?_
    obtain ⟨M_38, hi_39, eM_38, hf⟩ := wrI_e hf
    refine n_iast C (ckD_get k_X6_join_0 28 rfl) (T_Ro4 hk0) hi_39 eM_38 ?_
    refine g_aload_n 1 C (ckD_get k_X6_join_0 29 rfl) rfl rfl ?_
    refine g_getR C (ckD_get k_X6_join_0 30 rfl) fk_X6_24 (T_Ro hk0) rfl ?_
    refine g_iload_n 4 C (ckD_get k_X6_join_0 31 rfl) rfl rfl ?_
    refine g_aload_n 1 C (ckD_get k_X6_join_0 32 rfl) rfl rfl ?_
    refine g_getR C (ckD_get k_X6_join_0 33 rfl) fk_X6_24 (T_Ro hk0) rfl ?_
    refine g_iload_n 4 C (ckD_get k_X6_join_0 34 rfl) rfl rfl ?_
    obtain ⟨v_40, hi_41, ev_40, hf⟩ := rdI_e hf
    refine n_iald C (ckD_get k_X6_join_0 35 rfl) (T_Ro5 hk0) hi_41 ev_40 ?_
    refine g_aload_n 1 C (ckD_get k_X6_join_0 36 rfl) rfl rfl ?_
    refine g_getR C (ckD_get k_X6_join_0 37 rfl) fk_X6_24 (T_Ro hk0) rfl ?_
    refine g_iload 0 C (ckD_get k_X6_join_0 38 rfl) rfl ?_
    obtain ⟨v_42, hi_43, ev_42, hf⟩ := rdI_e hf
    refine n_iald C (ckD_get k_X6_join_0 39 rfl) (T_Ro5 hk0) hi_43 ev_42 ?_
    refine n_mmax C (ckD_get k_X6_join_1 0 rfl) mk_X6_65 (by decide) (Nat.le_of_ble_eq_true rfl) hB ?_
    obtain ⟨M_44, hi_45, eM_44, hf⟩ := wrI_e hf
    refine n_iast C (ckD_get k_X6_join_1 1 rfl) (T_Ro5 hk0) hi_45 eM_44 ?_
    refine g_goto C (ckD_get k_X6_join_1 2 rfl) ?_
    refine G.sub [1, 4, 0] rfl ?_
    exact hJ_130 _ hf

set_option maxRecDepth 20000 in
theorem k_X6_lay_0 : ckD cX6_lay [(0, .iconst 0, 1, 1, 0), (1, .istore_n 2, 1, 2, 0), (2, .iconst 0, 1, 3, 0), (3, .istore_n 3, 1, 4, 0), (4, .iload_n 3, 1, 5, 0), (5, .aload_n 0, 1, 6, 0), (6, .getfield 39, 3, 9, 0), (9, .if_icmp .ge 100, 3, 12, 109), (12, .aload_n 0, 1, 13, 0), (13, .getfield 9, 3, 16, 0), (16, .iload_n 3, 1, 17, 0), (17, .iaload, 1, 18, 0), (18, .istore 4, 2, 20, 0), (20, .iload 4, 2, 22, 0), (22, .bipush 12, 2, 24, 0), (24, .if_icmp .ge 61, 3, 27, 85), (27, .aload_n 1, 1, 28, 0), (28, .getfield 43, 3, 31, 0), (31, .iload 4, 2, 33, 0), (33, .iconst 0, 1, 34, 0), (34, .iastore, 1, 35, 0), (35, .aload_n 1, 1, 36, 0), (36, .getfield 48, 3, 39, 0), (39, .iload 4, 2, 41, 0), (41, .iconst 0, 1, 42, 0), (42, .iastore, 1, 43, 0), (43, .aload_n 0, 1, 44, 0), (44, .getfield 18, 3, 47, 0), (47, .iload_n 2, 1, 48, 0), (48, .iconst 1, 1, 49, 0), (49, .iload 4, 2, 51, 0), (51, .ishl, 1, 52, 0), (52, .iastore, 1, 53, 0), (53, .aload_n 0, 1, 54, 0), (54, .getfield 21, 3, 57, 0), (57, .iload_n 2, 1, 58, 0), (58, .aload_n 1, 1, 59, 0), (59, .getfield 51, 3, 62, 0), (62, .iload 4, 2, 64, 0), (64, .iaload, 1, 65, 0)] = true := by decide +kernel
set_option maxRecDepth 20000 in
theorem k_X6_lay_1 : ckD cX6_lay [(65, .iastore, 1, 66, 0), (66, .aload_n 0, 1, 67, 0), (67, .getfield 24, 3, 70, 0), (70, .iload_n 2, 1, 71, 0), (71, .aload_n 1, 1, 72, 0), (72, .getfield 54, 3, 75, 0), (75, .iload 4, 2, 77, 0), (77, .iaload, 1, 78, 0), (78, .iastore, 1, 79, 0), (79, .iinc 2 1, 3, 82, 0), (82, .goto 21, 3, 85, 103), (85, .iload_n 2, 1, 86, 0), (86, .iconst 1, 1, 87, 0), (87, .if_icmp .le 16, 3, 90, 103), (90, .iinc 2 (-1), 3, 93, 0), (93, .aload_n 0, 1, 94, 0), (94, .aload_n 1, 1, 95, 0), (95, .iload 4, 2, 97, 0), (97, .iload_n 2, 1, 98, 0), (98, .iconst 1, 1, 99, 0), (99, .isub, 1, 100, 0), (100, .invokevirtual 57, 3, 103, 0), (103, .iinc 3 1, 3, 106, 0), (106, .goto (-102), 3, 109, 4), (109, .return_, 1, 110, 0)] = true := by decide +kernel
def f_X6_lay_A4 (M_4 : Mm) : Option Mm := some M_4
def f_X6_lay_J103 (x3_2 : Int32) (p2_8 : Int32) (M_9 : Mm) : Option ((Int32 × Int32 × Mm) ⊕ Mm) := lt1 (x3_2 + 1) fun x3_10 => some (.inl (p2_8, x3_10, M_9))
def f_X6_lay_L4 (k0 : Nat) (k1 : Nat) (x2_1 : Int32) (x3_2 : Int32) (M_3 : Mm) : Option ((Int32 × Int32 × Mm) ⊕ Mm) := if (M_3.1 k0 5) ≤ x3_2 then some (.inr M_3) else rdI 23 M_3 (k0 + 1) x3_2 fun v_6 => if (12 : Int32) ≤ v_6 then (if x2_1 ≤ (1 : Int32) then f_X6_lay_J103 x3_2 x2_1 M_3 else lt1 (x2_1 + (-1)) fun x2_13 => (f_X6_join k0 k1 v_6 (x2_13 - (1 : Int32)) M_3).bind fun M_15 => f_X6_lay_J103 x3_2 x2_13 M_15) else wrI 12 M_3 (k1 + 1) v_6 (0 : Int32) fun M_16 => wrI 12 M_16 (k1 + 2) v_6 (0 : Int32) fun M_18 => wrI 12 M_18 (k0 + 3) x2_1 ((1 : Int32) <<< (v_6 &&& 31)) fun M_20 => rdI 12 M_20 (k1 + 3) v_6 fun v_22 => wrI 12 M_20 (k0 + 4) x2_1 v_22 fun M_24 => rdI 12 M_24 (k1 + 4) v_6 fun v_26 => wrI 12 M_24 (k0 + 5) x2_1 v_26 fun M_28 => lt1 (x2_1 + 1) fun x2_30 => f_X6_lay_J103 x3_2 x2_30 M_28
def f_X6_lay (k0 : Nat) (k1 : Nat) (M : Mm) : Option Mm := (loop (fun v => f_X6_lay_L4 k0 k1 v.1 v.2.1 v.2.2) FU ((0 : Int32), (0 : Int32), M)).bind fun z => f_X6_lay_A4 z
set_option maxRecDepth 100000 in
set_option maxHeartbeats 4000000 in
theorem t_X6_lay {E : Ev} {l : Launch} (htr : l.stackTraces = false) (k0 : Nat) (hk0 : isRo k0) (k1 : Nat) (hk1 : isGr k1) (M : Mm) (r : Mm) (hf : f_X6_lay k0 k1 M = some r) : CM E l 3 0 0 yX6_lay cX6_lay 5 none [.ref (E.1 + k0), .ref (E.1 + k1)] M none r := by
  refine CM.of htr (by decide +kernel) (Nat.le_of_ble_eq_true rfl) ?_
  intro K hE hL hl hR0 C hr hRv
  subst hE
  subst hl
  have C : Cx K cX6_lay RX6 3 := C
  have hB : (0 : Nat) ≤ K.1.R.cells ∧ 0 ≤ K.1.R.slots := ⟨Nat.zero_le _, Nat.zero_le _⟩
  have hL2 : 2 < K.2.2.1 := by rw [hL]; decide
  have hL3 : 3 < K.2.2.1 := by rw [hL]; decide
  have hL4 : 4 < K.2.2.1 := by rw [hL]; decide
  show G K (0, 0) 0 [(0, .ref (K.2.1.1 + k0)), (1, .ref (K.2.1.1 + k1))] [] M
  unfold f_X6_lay at hf
  refine g_iconst (v := (0 : Int32)) C (ckD_get k_X6_lay_0 0 rfl) (by decide) ?_
  refine g_istore_n (lv' := [(2, _), (0, _), (1, _)]) C (ckD_get k_X6_lay_0 1 rfl) rfl hL2 rfl ?_
  refine g_iconst (v := (0 : Int32)) C (ckD_get k_X6_lay_0 2 rfl) (by decide) ?_
  refine g_istore_n (lv' := [(3, _), (2, _), (0, _), (1, _)]) C (ckD_get k_X6_lay_0 3 rfl) rfl hL3 rfl ?_
  refine G.sub [2, 3, 1, 0] rfl ?_
  obtain ⟨M_4, hx_4, hf⟩ := bd_e hf
  have hE_4 : G K (0, 0) 109 [] [] M_4 := by
    have hf : f_X6_lay_A4 M_4 = some r := hf
    unfold f_X6_lay_A4 at hf
    cases hf
    exact g_vret C (ckD_get k_X6_lay_1 24 rfl) hr hRv (Nat.le_refl _) (Nat.le_refl _)
  refine loop_e (x := M_4) (P := fun (v : (Int32 × Int32 × Mm)) => G K (0, 0) 4 [(0, .ref (K.2.1.1 + k0)), (1, .ref (K.2.1.1 + k1)), (2, .int v.1), (3, .int v.2.1)] [] v.2.2) ?_ FU _ hx_4
  intro v rr_4 hf hn_4 hz_4
  obtain ⟨x2_1, x3_2, M_3⟩ := v
  have hf : f_X6_lay_L4 k0 k1 x2_1 x3_2 M_3 = some rr_4 := hf
  show G K (0, 0) 4 [(0, .ref (K.2.1.1 + k0)), (1, .ref (K.2.1.1 + k1)), (2, .int x2_1), (3, .int x3_2)] [] M_3
  unfold f_X6_lay_L4 at hf
  refine g_iload_n 3 C (ckD_get k_X6_lay_0 4 rfl) rfl rfl ?_
  refine g_aload_n 0 C (ckD_get k_X6_lay_0 5 rfl) rfl rfl ?_
  refine g_getI C (ckD_get k_X6_lay_0 6 rfl) fk_X6_39 (T_Ro hk0) rfl ?_
  refine g_icmp_ge C (ckD_get k_X6_lay_0 7 rfl) (fun c_5 => ?_) (fun c_5 => ?_)
  · have hf := if_t hf c_5
    refine G.sub [] rfl ?_
    cases hf
    cases hz_4 _ rfl
    exact hE_4
  · have hf := if_f hf c_5
    refine g_aload_n 0 C (ckD_get k_X6_lay_0 8 rfl) rfl rfl ?_
    refine g_getR C (ckD_get k_X6_lay_0 9 rfl) fk_X6_9 (T_Ro hk0) rfl ?_
    refine g_iload_n 3 C (ckD_get k_X6_lay_0 10 rfl) rfl rfl ?_
    obtain ⟨v_6, hi_7, ev_6, hf⟩ := rdI_e hf
    refine n_iald C (ckD_get k_X6_lay_0 11 rfl) (T_Ro1 hk0) hi_7 ev_6 ?_
    refine g_istore (lv' := [(4, _), (0, _), (1, _), (2, _), (3, _)]) C (ckD_get k_X6_lay_0 12 rfl) hL4 rfl ?_
    refine g_iload 0 C (ckD_get k_X6_lay_0 13 rfl) rfl ?_
    refine g_bipush (v := (12 : Int32)) C (ckD_get k_X6_lay_0 14 rfl) (by decide) ?_
    have hJ_103 : ∀ (p2_8 : Int32) (M_9 : Mm), f_X6_lay_J103 x3_2 p2_8 M_9 = some rr_4 → G K (0, 0) 103 [(0, .ref (K.2.1.1 + k0)), (1, .ref (K.2.1.1 + k1)), (2, .int p2_8), (3, .int x3_2)] [] M_9 := by
      intro p2_8 M_9 hf
      unfold f_X6_lay_J103 at hf
      obtain ⟨x3_10, ex3_10, hf⟩ := lt_e hf
      refine g_iinc (lv' := [(3, _), (0, _), (1, _), (2, _)]) 3 C (ckD_get k_X6_lay_1 22 rfl) rfl ex3_10 hL3 rfl ?_
      refine g_goto C (ckD_get k_X6_lay_1 23 rfl) ?_
      refine G.sub [1, 2, 3, 0] rfl ?_
      cases hf
      exact hn_4 _ rfl
    refine g_icmp_ge C (ckD_get k_X6_lay_0 15 rfl) (fun c_11 => ?_) (fun c_11 => ?_)
    · have hf := if_t hf c_11
      refine g_iload_n 3 C (ckD_get k_X6_lay_1 11 rfl) rfl rfl ?_
      refine g_iconst (v := (1 : Int32)) C (ckD_get k_X6_lay_1 12 rfl) (by decide) ?_
      refine g_icmp_le C (ckD_get k_X6_lay_1 13 rfl) (fun c_12 => ?_) (fun c_12 => ?_)
      · have hf := if_t hf c_12
        refine G.sub [1, 2, 3, 4] rfl ?_
        exact hJ_103 _ _ hf
      · have hf := if_f hf c_12
        obtain ⟨x2_13, ex2_13, hf⟩ := lt_e hf
        refine g_iinc (lv' := [(2, _), (4, _), (0, _), (1, _), (3, _)]) 3 C (ckD_get k_X6_lay_1 14 rfl) rfl ex2_13 hL2 rfl ?_
        refine g_aload_n 2 C (ckD_get k_X6_lay_1 15 rfl) rfl rfl ?_
        refine g_aload_n 3 C (ckD_get k_X6_lay_1 16 rfl) rfl rfl ?_
        refine g_iload 1 C (ckD_get k_X6_lay_1 17 rfl) rfl ?_
        refine g_iload_n 0 C (ckD_get k_X6_lay_1 18 rfl) rfl rfl ?_
        refine g_iconst (v := (1 : Int32)) C (ckD_get k_X6_lay_1 19 rfl) (by decide) ?_
        refine g_isub C (ckD_get k_X6_lay_1 20 rfl) ?_
        obtain ⟨M_15, hr_14, hf⟩ := bd_e hf
        refine n_cV [.ref (K.2.1.1 + k1), .int v_6, .int (x2_13 - (1 : Int32))] [] C (ckD_get k_X6_lay_1 21 rfl) vk_X6_57 (t_X6_join C.tr _ hk0 _ hk1 _ _ _ _ hr_14) (T_Ro hk0) rfl rfl (Nat.le_of_ble_eq_true rfl) (by decide) hB rfl ?_
        refine G.sub [2, 3, 0, 4] rfl ?_
        exact hJ_103 _ _ hf
    · have hf := if_f hf c_11
      refine g_aload_n 2 C (ckD_get k_X6_lay_0 16 rfl) rfl rfl ?_
      refine g_getR C (ckD_get k_X6_lay_0 17 rfl) fk_X6_43 (T_Gr hk1) rfl ?_
      refine g_iload 0 C (ckD_get k_X6_lay_0 18 rfl) rfl ?_
      refine g_iconst (v := (0 : Int32)) C (ckD_get k_X6_lay_0 19 rfl) (by decide) ?_
      obtain ⟨M_16, hi_17, eM_16, hf⟩ := wrI_e hf
      refine n_iast C (ckD_get k_X6_lay_0 20 rfl) (T_Gr1 hk1) hi_17 eM_16 ?_
      refine g_aload_n 2 C (ckD_get k_X6_lay_0 21 rfl) rfl rfl ?_
      refine g_getR C (ckD_get k_X6_lay_0 22 rfl) fk_X6_48 (T_Gr hk1) rfl ?_
      refine g_iload 0 C (ckD_get k_X6_lay_0 23 rfl) rfl ?_
      refine g_iconst (v := (0 : Int32)) C (ckD_get k_X6_lay_0 24 rfl) (by decide) ?_
      obtain ⟨M_18, hi_19, eM_18, hf⟩ := wrI_e hf
      refine n_iast C (ckD_get k_X6_lay_0 25 rfl) (T_Gr2 hk1) hi_19 eM_18 ?_
      refine g_aload_n 1 C (ckD_get k_X6_lay_0 26 rfl) rfl rfl ?_
      refine g_getR C (ckD_get k_X6_lay_0 27 rfl) fk_X6_18 (T_Ro hk0) rfl ?_
      refine g_iload_n 3 C (ckD_get k_X6_lay_0 28 rfl) rfl rfl ?_
      refine g_iconst (v := (1 : Int32)) C (ckD_get k_X6_lay_0 29 rfl) (by decide) ?_
      refine g_iload 0 C (ckD_get k_X6_lay_0 30 rfl) rfl ?_
      refine g_ishl C (ckD_get k_X6_lay_0 31 rfl) ?_
      obtain ⟨M_20, hi_21, eM_20, hf⟩ := wrI_e hf
      refine n_iast C (ckD_get k_X6_lay_0 32 rfl) (T_Ro3 hk0) hi_21 eM_20 ?_
      refine g_aload_n 1 C (ckD_get k_X6_lay_0 33 rfl) rfl rfl ?_
      refine g_getR C (ckD_get k_X6_lay_0 34 rfl) fk_X6_21 (T_Ro hk0) rfl ?_
      refine g_iload_n 3 C (ckD_get k_X6_lay_0 35 rfl) rfl rfl ?_
      refine g_aload_n 2 C (ckD_get k_X6_lay_0 36 rfl) rfl rfl ?_
      refine g_getR C (ckD_get k_X6_lay_0 37 rfl) fk_X6_51 (T_Gr hk1) rfl ?_
      refine g_iload 0 C (ckD_get k_X6_lay_0 38 rfl) rfl ?_
      obtain ⟨v_22, hi_23, ev_22, hf⟩ := rdI_e hf
      refine n_iald C (ckD_get k_X6_lay_0 39 rfl) (T_Gr3 hk1) hi_23 ev_22 ?_
      obtain ⟨M_24, hi_25, eM_24, hf⟩ := wrI_e hf
      refine n_iast C (ckD_get k_X6_lay_1 0 rfl) (T_Ro4 hk0) hi_25 eM_24 ?_
      refine g_aload_n 1 C (ckD_get k_X6_lay_1 1 rfl) rfl rfl ?_
      refine g_getR C (ckD_get k_X6_lay_1 2 rfl) fk_X6_24 (T_Ro hk0) rfl ?_
      refine g_iload_n 3 C (ckD_get k_X6_lay_1 3 rfl) rfl rfl ?_
      refine g_aload_n 2 C (ckD_get k_X6_lay_1 4 rfl) rfl rfl ?_
      refine g_getR C (ckD_get k_X6_lay_1 5 rfl) fk_X6_54 (T_Gr hk1) rfl ?_
      refine g_iload 0 C (ckD_get k_X6_lay_1 6 rfl) rfl ?_
      obtain ⟨v_26, hi_27, ev_26, hf⟩ := rdI_e hf
      refine n_iald C (ckD_get k_X6_lay_1 7 rfl) (T_Gr4 hk1) hi_27 ev_26 ?_
      obtain ⟨M_28, hi_29, eM_28, hf⟩ := wrI_e hf
      refine n_iast C (ckD_get k_X6_lay_1 8 rfl) (T_Ro5 hk0) hi_29 eM_28 ?_
      obtain ⟨x2_30, ex2_30, hf⟩ := lt_e hf
      refine g_iinc (lv' := [(2, _), (4, _), (0, _), (1, _), (3, _)]) 3 C (ckD_get k_X6_lay_1 9 rfl) rfl ex2_30 hL2 rfl ?_
      refine g_goto C (ckD_get k_X6_lay_1 10 rfl) ?_
      refine G.sub [2, 3, 0, 4] rfl ?_
      exact hJ_103 _ _ hf

set_option maxRecDepth 20000 in
theorem k_X6_countChanged_0 : ckD cX6_countChanged [(0, .iconst 0, 1, 1, 0), (1, .istore_n 1, 1, 2, 0), (2, .iconst 0, 1, 3, 0), (3, .istore_n 2, 1, 4, 0), (4, .iload_n 2, 1, 5, 0), (5, .aload_n 0, 1, 6, 0), (6, .getfield 39, 3, 9, 0), (9, .if_icmp .ge 27, 3, 12, 36), (12, .aload_n 0, 1, 13, 0), (13, .getfield 9, 3, 16, 0), (16, .iload_n 2, 1, 17, 0), (17, .iaload, 1, 18, 0), (18, .aload_n 0, 1, 19, 0), (19, .getfield 15, 3, 22, 0), (22, .iload_n 2, 1, 23, 0), (23, .iaload, 1, 24, 0), (24, .if_icmp .eq 6, 3, 27, 30), (27, .iinc 1 1, 3, 30, 0), (30, .iinc 2 1, 3, 33, 0), (33, .goto (-29), 3, 36, 4), (36, .iload_n 1, 1, 37, 0), (37, .ireturn, 1, 38, 0)] = true := by decide +kernel
def f_X6_countChanged_A4 (x1_3 : Int32) : Option Int32 := some x1_3
def f_X6_countChanged_J30 (x2_2 : Int32) (p1_9 : Int32) : Option ((Int32 × Int32) ⊕ Int32) := lt1 (x2_2 + 1) fun x2_10 => some (.inl (p1_9, x2_10))
def f_X6_countChanged_L4 (k0 : Nat) (M : Mm) (x1_1 : Int32) (x2_2 : Int32) : Option ((Int32 × Int32) ⊕ Int32) := if (M.1 k0 5) ≤ x2_2 then some (.inr x1_1) else rdI 23 M (k0 + 1) x2_2 fun v_5 => rdI 23 M (k0 + 2) x2_2 fun v_7 => if v_5 = v_7 then f_X6_countChanged_J30 x2_2 x1_1 else lt1 (x1_1 + 1) fun x1_12 => f_X6_countChanged_J30 x2_2 x1_12
def f_X6_countChanged (k0 : Nat) (M : Mm) : Option Int32 := (loop (fun v => f_X6_countChanged_L4 k0 M v.1 v.2) FU ((0 : Int32), (0 : Int32))).bind fun z => f_X6_countChanged_A4 z
set_option maxRecDepth 100000 in
set_option maxHeartbeats 4000000 in
theorem t_X6_countChanged {E : Ev} {l : Launch} (htr : l.stackTraces = false) (k0 : Nat) (hk0 : isRo k0) (M : Mm) (r : Int32) (hf : f_X6_countChanged k0 M = some r) : CM E l 0 0 0 yX6_countChanged cX6_countChanged 3 (some .int) [.ref (E.1 + k0)] M (some (.int r)) M := by
  refine CM.of htr (by decide +kernel) (Nat.le_of_ble_eq_true rfl) ?_
  intro K hE hL hl hR0 C hr hRv
  subst hE
  subst hl
  have C : Cx K cX6_countChanged RX6 0 := C
  have hB : (0 : Nat) ≤ K.1.R.cells ∧ 0 ≤ K.1.R.slots := ⟨Nat.zero_le _, Nat.zero_le _⟩
  have hL1 : 1 < K.2.2.1 := by rw [hL]; decide
  have hL2 : 2 < K.2.2.1 := by rw [hL]; decide
  show G K (0, 0) 0 [(0, .ref (K.2.1.1 + k0))] [] M
  unfold f_X6_countChanged at hf
  refine g_iconst (v := (0 : Int32)) C (ckD_get k_X6_countChanged_0 0 rfl) (by decide) ?_
  refine g_istore_n (lv' := [(1, _), (0, _)]) C (ckD_get k_X6_countChanged_0 1 rfl) rfl hL1 rfl ?_
  refine g_iconst (v := (0 : Int32)) C (ckD_get k_X6_countChanged_0 2 rfl) (by decide) ?_
  refine g_istore_n (lv' := [(2, _), (1, _), (0, _)]) C (ckD_get k_X6_countChanged_0 3 rfl) rfl hL2 rfl ?_
  refine G.sub [2, 1, 0] rfl ?_
  obtain ⟨x1_3, hx_4, hf⟩ := bd_e hf
  have hE_4 : G K (0, 0) 36 [(1, .int x1_3)] [] M := by
    have hf : f_X6_countChanged_A4 x1_3 = some r := hf
    unfold f_X6_countChanged_A4 at hf
    refine g_iload_n 0 C (ckD_get k_X6_countChanged_0 20 rfl) rfl rfl ?_
    cases hf
    exact g_iret C (ckD_get k_X6_countChanged_0 21 rfl) hr hRv (Nat.le_refl _) (Nat.le_refl _)
  refine loop_e (x := x1_3) (P := fun (v : (Int32 × Int32)) => G K (0, 0) 4 [(0, .ref (K.2.1.1 + k0)), (1, .int v.1), (2, .int v.2)] [] M) ?_ FU _ hx_4
  intro v rr_4 hf hn_4 hz_4
  obtain ⟨x1_1, x2_2⟩ := v
  have hf : f_X6_countChanged_L4 k0 M x1_1 x2_2 = some rr_4 := hf
  show G K (0, 0) 4 [(0, .ref (K.2.1.1 + k0)), (1, .int x1_1), (2, .int x2_2)] [] M
  unfold f_X6_countChanged_L4 at hf
  refine g_iload_n 2 C (ckD_get k_X6_countChanged_0 4 rfl) rfl rfl ?_
  refine g_aload_n 0 C (ckD_get k_X6_countChanged_0 5 rfl) rfl rfl ?_
  refine g_getI C (ckD_get k_X6_countChanged_0 6 rfl) fk_X6_39 (T_Ro hk0) rfl ?_
  refine g_icmp_ge C (ckD_get k_X6_countChanged_0 7 rfl) (fun c_4 => ?_) (fun c_4 => ?_)
  · have hf := if_t hf c_4
    refine G.sub [1] rfl ?_
    cases hf
    cases hz_4 _ rfl
    exact hE_4
  · have hf := if_f hf c_4
    refine g_aload_n 0 C (ckD_get k_X6_countChanged_0 8 rfl) rfl rfl ?_
    refine g_getR C (ckD_get k_X6_countChanged_0 9 rfl) fk_X6_9 (T_Ro hk0) rfl ?_
    refine g_iload_n 2 C (ckD_get k_X6_countChanged_0 10 rfl) rfl rfl ?_
    obtain ⟨v_5, hi_6, ev_5, hf⟩ := rdI_e hf
    refine n_iald C (ckD_get k_X6_countChanged_0 11 rfl) (T_Ro1 hk0) hi_6 ev_5 ?_
    refine g_aload_n 0 C (ckD_get k_X6_countChanged_0 12 rfl) rfl rfl ?_
    refine g_getR C (ckD_get k_X6_countChanged_0 13 rfl) fk_X6_15 (T_Ro hk0) rfl ?_
    refine g_iload_n 2 C (ckD_get k_X6_countChanged_0 14 rfl) rfl rfl ?_
    obtain ⟨v_7, hi_8, ev_7, hf⟩ := rdI_e hf
    refine n_iald C (ckD_get k_X6_countChanged_0 15 rfl) (T_Ro2 hk0) hi_8 ev_7 ?_
    have hJ_30 : ∀ (p1_9 : Int32), f_X6_countChanged_J30 x2_2 p1_9 = some rr_4 → G K (0, 0) 30 [(0, .ref (K.2.1.1 + k0)), (1, .int p1_9), (2, .int x2_2)] [] M := by
      intro p1_9 hf
      unfold f_X6_countChanged_J30 at hf
      obtain ⟨x2_10, ex2_10, hf⟩ := lt_e hf
      refine g_iinc (lv' := [(2, _), (0, _), (1, _)]) 2 C (ckD_get k_X6_countChanged_0 18 rfl) rfl ex2_10 hL2 rfl ?_
      refine g_goto C (ckD_get k_X6_countChanged_0 19 rfl) ?_
      refine G.sub [1, 2, 0] rfl ?_
      cases hf
      exact hn_4 _ rfl
    refine g_icmp_eq C (ckD_get k_X6_countChanged_0 16 rfl) (fun c_11 => ?_) (fun c_11 => ?_)
    · have hf := if_t hf c_11
      exact hJ_30 _ hf
    · have hf := if_f hf c_11
      obtain ⟨x1_12, ex1_12, hf⟩ := lt_e hf
      refine g_iinc (lv' := [(1, _), (0, _), (2, _)]) 1 C (ckD_get k_X6_countChanged_0 17 rfl) rfl ex1_12 hL1 rfl ?_
      refine G.sub [1, 0, 2] rfl ?_
      exact hJ_30 _ hf

set_option maxRecDepth 20000 in
theorem k_X6_firstTwice_0 : ckD cX6_firstTwice [(0, .iconst 1, 1, 1, 0), (1, .istore_n 1, 1, 2, 0), (2, .iload_n 1, 1, 3, 0), (3, .aload_n 0, 1, 4, 0), (4, .getfield 39, 3, 7, 0), (7, .if_icmp .ge 41, 3, 10, 48), (10, .aload_n 0, 1, 11, 0), (11, .getfield 9, 3, 14, 0), (14, .iload_n 1, 1, 15, 0), (15, .iaload, 1, 16, 0), (16, .bipush 12, 2, 18, 0), (18, .if_icmp .lt 24, 3, 21, 42), (21, .aload_n 0, 1, 22, 0), (22, .getfield 9, 3, 25, 0), (25, .iload_n 1, 1, 26, 0), (26, .iaload, 1, 27, 0), (27, .aload_n 0, 1, 28, 0), (28, .getfield 9, 3, 31, 0), (31, .iload_n 1, 1, 32, 0), (32, .iconst 1, 1, 33, 0), (33, .isub, 1, 34, 0), (34, .iaload, 1, 35, 0), (35, .if_icmp .ne 7, 3, 38, 42), (38, .iload_n 1, 1, 39, 0), (39, .iconst 1, 1, 40, 0), (40, .isub, 1, 41, 0), (41, .ireturn, 1, 42, 0), (42, .iinc 1 1, 3, 45, 0), (45, .goto (-43), 3, 48, 2), (48, .iconst (-1), 1, 49, 0), (49, .ireturn, 1, 50, 0)] = true := by decide +kernel
def f_X6_firstTwice_A2  : Option Int32 := some (-1 : Int32)
def f_X6_firstTwice_J42 (x1_1 : Int32) (_ : Unit) : Option (Int32 ⊕ (Unit ⊕ Int32)) := lt1 (x1_1 + 1) fun x1_5 => some (.inl x1_5)
def f_X6_firstTwice_L2 (k0 : Nat) (M : Mm) (x1_1 : Int32) : Option (Int32 ⊕ (Unit ⊕ Int32)) := if (M.1 k0 5) ≤ x1_1 then some (.inr (.inl ())) else rdI 23 M (k0 + 1) x1_1 fun v_3 => if v_3 < (12 : Int32) then f_X6_firstTwice_J42 x1_1 () else rdI 23 M (k0 + 1) x1_1 fun v_7 => rdI 23 M (k0 + 1) (x1_1 - (1 : Int32)) fun v_9 => if v_7 = v_9 then some (.inr (.inr (x1_1 - (1 : Int32)))) else f_X6_firstTwice_J42 x1_1 ()
def f_X6_firstTwice (k0 : Nat) (M : Mm) : Option Int32 := (loop (fun v => f_X6_firstTwice_L2 k0 M v) FU (1 : Int32)).bind fun x => Sum.elim (fun z => f_X6_firstTwice_A2 ) (fun o => some o) x
set_option maxRecDepth 100000 in
set_option maxHeartbeats 4000000 in
theorem t_X6_firstTwice {E : Ev} {l : Launch} (htr : l.stackTraces = false) (k0 : Nat) (hk0 : isRo k0) (M : Mm) (r : Int32) (hf : f_X6_firstTwice k0 M = some r) : CM E l 0 0 0 yX6_firstTwice cX6_firstTwice 2 (some .int) [.ref (E.1 + k0)] M (some (.int r)) M := by
  refine CM.of htr (by decide +kernel) (Nat.le_of_ble_eq_true rfl) ?_
  intro K hE hL hl hR0 C hr hRv
  subst hE
  subst hl
  have C : Cx K cX6_firstTwice RX6 0 := C
  have hB : (0 : Nat) ≤ K.1.R.cells ∧ 0 ≤ K.1.R.slots := ⟨Nat.zero_le _, Nat.zero_le _⟩
  have hL1 : 1 < K.2.2.1 := by rw [hL]; decide
  show G K (0, 0) 0 [(0, .ref (K.2.1.1 + k0))] [] M
  unfold f_X6_firstTwice at hf
  refine g_iconst (v := (1 : Int32)) C (ckD_get k_X6_firstTwice_0 0 rfl) (by decide) ?_
  refine g_istore_n (lv' := [(1, _), (0, _)]) C (ckD_get k_X6_firstTwice_0 1 rfl) rfl hL1 rfl ?_
  refine G.sub [1, 0] rfl ?_
  obtain ⟨xx_2, hx_2, hf⟩ := bd_e hf
  have hE_2 : ∀ (_ : Unit), xx_2 = .inl () → G K (0, 0) 48 [] [] M := by
    intro _ ex
    subst ex
    have hf : f_X6_firstTwice_A2  = some r := hf
    unfold f_X6_firstTwice_A2 at hf
    refine g_iconst (v := (-1 : Int32)) C (ckD_get k_X6_firstTwice_0 29 rfl) (by decide) ?_
    cases hf
    exact g_iret C (ckD_get k_X6_firstTwice_0 30 rfl) hr hRv (Nat.le_refl _) (Nat.le_refl _)
  have hO_2 : ∀ o, xx_2 = .inr o → o = r := by
    intro o eo
    subst eo
    have hf : some o = some r := hf
    cases hf
    rfl
  refine loop_e (x := xx_2) (P := fun (v : Int32) => G K (0, 0) 2 [(0, .ref (K.2.1.1 + k0)), (1, .int v)] [] M) ?_ FU _ hx_2
  intro x1_1 rr_2 hf hn_2 hz_2
  have hf : f_X6_firstTwice_L2 k0 M x1_1 = some rr_2 := hf
  show G K (0, 0) 2 [(0, .ref (K.2.1.1 + k0)), (1, .int x1_1)] [] M
  unfold f_X6_firstTwice_L2 at hf
  refine g_iload_n 1 C (ckD_get k_X6_firstTwice_0 2 rfl) rfl rfl ?_
  refine g_aload_n 0 C (ckD_get k_X6_firstTwice_0 3 rfl) rfl rfl ?_
  refine g_getI C (ckD_get k_X6_firstTwice_0 4 rfl) fk_X6_39 (T_Ro hk0) rfl ?_
  refine g_icmp_ge C (ckD_get k_X6_firstTwice_0 5 rfl) (fun c_2 => ?_) (fun c_2 => ?_)
  · have hf := if_t hf c_2
    refine G.sub [] rfl ?_
    cases hf
    exact hE_2 () (hz_2 _ rfl).symm
  · have hf := if_f hf c_2
    refine g_aload_n 0 C (ckD_get k_X6_firstTwice_0 6 rfl) rfl rfl ?_
    refine g_getR C (ckD_get k_X6_firstTwice_0 7 rfl) fk_X6_9 (T_Ro hk0) rfl ?_
    refine g_iload_n 1 C (ckD_get k_X6_firstTwice_0 8 rfl) rfl rfl ?_
    obtain ⟨v_3, hi_4, ev_3, hf⟩ := rdI_e hf
    refine n_iald C (ckD_get k_X6_firstTwice_0 9 rfl) (T_Ro1 hk0) hi_4 ev_3 ?_
    refine g_bipush (v := (12 : Int32)) C (ckD_get k_X6_firstTwice_0 10 rfl) (by decide) ?_
    have hJ_42 : ∀ (_ : Unit), f_X6_firstTwice_J42 x1_1 () = some rr_2 → G K (0, 0) 42 [(0, .ref (K.2.1.1 + k0)), (1, .int x1_1)] [] M := by
      intro _ hf
      unfold f_X6_firstTwice_J42 at hf
      obtain ⟨x1_5, ex1_5, hf⟩ := lt_e hf
      refine g_iinc (lv' := [(1, _), (0, _)]) 1 C (ckD_get k_X6_firstTwice_0 27 rfl) rfl ex1_5 hL1 rfl ?_
      refine g_goto C (ckD_get k_X6_firstTwice_0 28 rfl) ?_
      refine G.sub [1, 0] rfl ?_
      cases hf
      exact hn_2 _ rfl
    refine g_icmp_lt C (ckD_get k_X6_firstTwice_0 11 rfl) (fun c_6 => ?_) (fun c_6 => ?_)
    · have hf := if_t hf c_6
      exact hJ_42 () hf
    · have hf := if_f hf c_6
      refine g_aload_n 0 C (ckD_get k_X6_firstTwice_0 12 rfl) rfl rfl ?_
      refine g_getR C (ckD_get k_X6_firstTwice_0 13 rfl) fk_X6_9 (T_Ro hk0) rfl ?_
      refine g_iload_n 1 C (ckD_get k_X6_firstTwice_0 14 rfl) rfl rfl ?_
      obtain ⟨v_7, hi_8, ev_7, hf⟩ := rdI_e hf
      refine n_iald C (ckD_get k_X6_firstTwice_0 15 rfl) (T_Ro1 hk0) hi_8 ev_7 ?_
      refine g_aload_n 0 C (ckD_get k_X6_firstTwice_0 16 rfl) rfl rfl ?_
      refine g_getR C (ckD_get k_X6_firstTwice_0 17 rfl) fk_X6_9 (T_Ro hk0) rfl ?_
      refine g_iload_n 1 C (ckD_get k_X6_firstTwice_0 18 rfl) rfl rfl ?_
      refine g_iconst (v := (1 : Int32)) C (ckD_get k_X6_firstTwice_0 19 rfl) (by decide) ?_
      refine g_isub C (ckD_get k_X6_firstTwice_0 20 rfl) ?_
      obtain ⟨v_9, hi_10, ev_9, hf⟩ := rdI_e hf
      refine n_iald C (ckD_get k_X6_firstTwice_0 21 rfl) (T_Ro1 hk0) hi_10 ev_9 ?_
      refine g_icmp_ne C (ckD_get k_X6_firstTwice_0 22 rfl) (fun c_11 => ?_) (fun c_11 => ?_)
      · have hf := if_f hf c_11
        exact hJ_42 () hf
      · have hf := if_t hf c_11
        refine g_iload_n 1 C (ckD_get k_X6_firstTwice_0 23 rfl) rfl rfl ?_
        refine g_iconst (v := (1 : Int32)) C (ckD_get k_X6_firstTwice_0 24 rfl) (by decide) ?_
        refine g_isub C (ckD_get k_X6_firstTwice_0 25 rfl) ?_
        cases hf
        cases hO_2 _ (hz_2 _ rfl).symm
        exact g_iret C (ckD_get k_X6_firstTwice_0 26 rfl) hr hRv (Nat.le_refl _) (Nat.le_refl _)

set_option maxRecDepth 20000 in
theorem k_X6_moveForward_0 : ckD cX6_moveForward [(0, .aload_n 0, 1, 1, 0), (1, .getfield 9, 3, 4, 0), (4, .iload_n 1, 1, 5, 0), (5, .iaload, 1, 6, 0), (6, .istore_n 3, 1, 7, 0), (7, .iload_n 1, 1, 8, 0), (8, .istore 4, 2, 10, 0), (10, .iload 4, 2, 12, 0), (12, .iload_n 2, 1, 13, 0), (13, .if_icmp .le 25, 3, 16, 38), (16, .aload_n 0, 1, 17, 0), (17, .getfield 9, 3, 20, 0), (20, .iload 4, 2, 22, 0), (22, .aload_n 0, 1, 23, 0), (23, .getfield 9, 3, 26, 0), (26, .iload 4, 2, 28, 0), (28, .iconst 1, 1, 29, 0), (29, .isub, 1, 30, 0), (30, .iaload, 1, 31, 0), (31, .iastore, 1, 32, 0), (32, .iinc 4 (-1), 3, 35, 0), (35, .goto (-25), 3, 38, 10), (38, .aload_n 0, 1, 39, 0), (39, .getfield 9, 3, 42, 0), (42, .iload_n 2, 1, 43, 0), (43, .iload_n 3, 1, 44, 0), (44, .iastore, 1, 45, 0), (45, .return_, 1, 46, 0)] = true := by decide +kernel
def f_X6_moveForward_A10 (k0 : Nat) (a2 : Int32) (v_1 : Int32) (M_5 : Mm) : Option Mm := wrI 23 M_5 (k0 + 1) a2 v_1 fun M_6 => some M_6
def f_X6_moveForward_L10 (k0 : Nat) (a2 : Int32) (x4_3 : Int32) (M_4 : Mm) : Option ((Int32 × Mm) ⊕ Mm) := if x4_3 ≤ a2 then some (.inr M_4) else rdI 23 M_4 (k0 + 1) (x4_3 - (1 : Int32)) fun v_9 => wrI 23 M_4 (k0 + 1) x4_3 v_9 fun M_11 => lt1 (x4_3 + (-1)) fun x4_13 => some (.inl (x4_13, M_11))
def f_X6_moveForward (k0 : Nat) (a1 : Int32) (a2 : Int32) (M : Mm) : Option Mm := rdI 23 M (k0 + 1) a1 fun v_1 => (loop (fun v => f_X6_moveForward_L10 k0 a2 v.1 v.2) FU (a1, M)).bind fun z => f_X6_moveForward_A10 k0 a2 v_1 z
set_option maxRecDepth 100000 in
set_option maxHeartbeats 4000000 in
theorem t_X6_moveForward {E : Ev} {l : Launch} (htr : l.stackTraces = false) (k0 : Nat) (hk0 : isRo k0) (a1 : Int32) (a2 : Int32) (M : Mm) (r : Mm) (hf : f_X6_moveForward k0 a1 a2 M = some r) : CM E l 0 0 0 yX6_moveForward cX6_moveForward 5 none [.ref (E.1 + k0), .int a1, .int a2] M none r := by
  refine CM.of htr (by decide +kernel) (Nat.le_of_ble_eq_true rfl) ?_
  intro K hE hL hl hR0 C hr hRv
  subst hE
  subst hl
  have C : Cx K cX6_moveForward RX6 0 := C
  have hB : (0 : Nat) ≤ K.1.R.cells ∧ 0 ≤ K.1.R.slots := ⟨Nat.zero_le _, Nat.zero_le _⟩
  have hL3 : 3 < K.2.2.1 := by rw [hL]; decide
  have hL4 : 4 < K.2.2.1 := by rw [hL]; decide
  show G K (0, 0) 0 [(0, .ref (K.2.1.1 + k0)), (1, .int a1), (2, .int a2)] [] M
  unfold f_X6_moveForward at hf
  refine g_aload_n 0 C (ckD_get k_X6_moveForward_0 0 rfl) rfl rfl ?_
  refine g_getR C (ckD_get k_X6_moveForward_0 1 rfl) fk_X6_9 (T_Ro hk0) rfl ?_
  refine g_iload_n 1 C (ckD_get k_X6_moveForward_0 2 rfl) rfl rfl ?_
  obtain ⟨v_1, hi_2, ev_1, hf⟩ := rdI_e hf
  refine n_iald C (ckD_get k_X6_moveForward_0 3 rfl) (T_Ro1 hk0) hi_2 ev_1 ?_
  refine g_istore_n (lv' := [(3, _), (0, _), (1, _), (2, _)]) C (ckD_get k_X6_moveForward_0 4 rfl) rfl hL3 rfl ?_
  refine g_iload_n 2 C (ckD_get k_X6_moveForward_0 5 rfl) rfl rfl ?_
  refine g_istore (lv' := [(4, _), (3, _), (0, _), (1, _), (2, _)]) C (ckD_get k_X6_moveForward_0 6 rfl) hL4 rfl ?_
  refine G.sub [2, 4, 1, 0] rfl ?_
  obtain ⟨M_5, hx_10, hf⟩ := bd_e hf
  have hE_10 : G K (0, 0) 38 [(0, .ref (K.2.1.1 + k0)), (2, .int a2), (3, .int v_1)] [] M_5 := by
    have hf : f_X6_moveForward_A10 k0 a2 v_1 M_5 = some r := hf
    unfold f_X6_moveForward_A10 at hf
    refine g_aload_n 0 C (ckD_get k_X6_moveForward_0 22 rfl) rfl rfl ?_
    refine g_getR C (ckD_get k_X6_moveForward_0 23 rfl) fk_X6_9 (T_Ro hk0) rfl ?_
    refine g_iload_n 1 C (ckD_get k_X6_moveForward_0 24 rfl) rfl rfl ?_
    refine g_iload_n 2 C (ckD_get k_X6_moveForward_0 25 rfl) rfl rfl ?_
    obtain ⟨M_6, hi_7, eM_6, hf⟩ := wrI_e hf
    refine n_iast C (ckD_get k_X6_moveForward_0 26 rfl) (T_Ro1 hk0) hi_7 eM_6 ?_
    cases hf
    exact g_vret C (ckD_get k_X6_moveForward_0 27 rfl) hr hRv (Nat.le_refl _) (Nat.le_refl _)
  refine loop_e (x := M_5) (P := fun (v : (Int32 × Mm)) => G K (0, 0) 10 [(0, .ref (K.2.1.1 + k0)), (2, .int a2), (3, .int v_1), (4, .int v.1)] [] v.2) ?_ FU _ hx_10
  intro v rr_10 hf hn_10 hz_10
  obtain ⟨x4_3, M_4⟩ := v
  have hf : f_X6_moveForward_L10 k0 a2 x4_3 M_4 = some rr_10 := hf
  show G K (0, 0) 10 [(0, .ref (K.2.1.1 + k0)), (2, .int a2), (3, .int v_1), (4, .int x4_3)] [] M_4
  unfold f_X6_moveForward_L10 at hf
  refine g_iload 3 C (ckD_get k_X6_moveForward_0 7 rfl) rfl ?_
  refine g_iload_n 1 C (ckD_get k_X6_moveForward_0 8 rfl) rfl rfl ?_
  refine g_icmp_le C (ckD_get k_X6_moveForward_0 9 rfl) (fun c_8 => ?_) (fun c_8 => ?_)
  · have hf := if_t hf c_8
    refine G.sub [0, 1, 2] rfl ?_
    cases hf
    cases hz_10 _ rfl
    exact hE_10
  · have hf := if_f hf c_8
    refine g_aload_n 0 C (ckD_get k_X6_moveForward_0 10 rfl) rfl rfl ?_
    refine g_getR C (ckD_get k_X6_moveForward_0 11 rfl) fk_X6_9 (T_Ro hk0) rfl ?_
    refine g_iload 3 C (ckD_get k_X6_moveForward_0 12 rfl) rfl ?_
    refine g_aload_n 0 C (ckD_get k_X6_moveForward_0 13 rfl) rfl rfl ?_
    refine g_getR C (ckD_get k_X6_moveForward_0 14 rfl) fk_X6_9 (T_Ro hk0) rfl ?_
    refine g_iload 3 C (ckD_get k_X6_moveForward_0 15 rfl) rfl ?_
    refine g_iconst (v := (1 : Int32)) C (ckD_get k_X6_moveForward_0 16 rfl) (by decide) ?_
    refine g_isub C (ckD_get k_X6_moveForward_0 17 rfl) ?_
    obtain ⟨v_9, hi_10, ev_9, hf⟩ := rdI_e hf
    refine n_iald C (ckD_get k_X6_moveForward_0 18 rfl) (T_Ro1 hk0) hi_10 ev_9 ?_
    obtain ⟨M_11, hi_12, eM_11, hf⟩ := wrI_e hf
    refine n_iast C (ckD_get k_X6_moveForward_0 19 rfl) (T_Ro1 hk0) hi_12 eM_11 ?_
    obtain ⟨x4_13, ex4_13, hf⟩ := lt_e hf
    refine g_iinc (lv' := [(4, _), (0, _), (2, _), (3, _)]) 3 C (ckD_get k_X6_moveForward_0 20 rfl) rfl ex4_13 hL4 rfl ?_
    refine g_goto C (ckD_get k_X6_moveForward_0 21 rfl) ?_
    refine G.sub [1, 2, 3, 0] rfl ?_
    cases hf
    exact hn_10 _ rfl

set_option maxRecDepth 20000 in
theorem k_X6_startOfPart_0 : ckD cX6_startOfPart [(0, .iconst 1, 1, 1, 0), (1, .istore_n 2, 1, 2, 0), (2, .iload_n 1, 1, 3, 0), (3, .istore_n 3, 1, 4, 0), (4, .iload_n 3, 1, 5, 0), (5, .ifCond .lt 34, 3, 8, 39), (8, .iload_n 2, 1, 9, 0), (9, .aload_n 0, 1, 10, 0), (10, .getfield 9, 3, 13, 0), (13, .iload_n 3, 1, 14, 0), (14, .iaload, 1, 15, 0), (15, .bipush 12, 2, 17, 0), (17, .if_icmp .ge 7, 3, 20, 24), (20, .iconst (-1), 1, 21, 0), (21, .goto 4, 3, 24, 25), (24, .iconst 1, 1, 25, 0), (25, .iadd, 1, 26, 0), (26, .istore_n 2, 1, 27, 0), (27, .iload_n 2, 1, 28, 0), (28, .ifCond .ne 5, 3, 31, 33), (31, .iload_n 3, 1, 32, 0), (32, .ireturn, 1, 33, 0), (33, .iinc 3 (-1), 3, 36, 0), (36, .goto (-32), 3, 39, 4), (39, .iconst 0, 1, 40, 0), (40, .ireturn, 1, 41, 0)] = true := by decide +kernel
def f_X6_startOfPart_A4  : Option Int32 := some (0 : Int32)
def f_X6_startOfPart_J25 (x2_1 : Int32) (x3_2 : Int32) (s_6 : Int32) : Option ((Int32 × Int32) ⊕ (Unit ⊕ Int32)) := lt1 (x2_1 + s_6) fun x2_7 => if x2_7 = 0 then some (.inr (.inr x3_2)) else lt1 (x3_2 + (-1)) fun x3_9 => some (.inl (x2_7, x3_9))
def f_X6_startOfPart_L4 (k0 : Nat) (M : Mm) (x2_1 : Int32) (x3_2 : Int32) : Option ((Int32 × Int32) ⊕ (Unit ⊕ Int32)) := if x3_2 < 0 then some (.inr (.inl ())) else rdI 23 M (k0 + 1) x3_2 fun v_4 => if (12 : Int32) ≤ v_4 then f_X6_startOfPart_J25 x2_1 x3_2 (1 : Int32) else f_X6_startOfPart_J25 x2_1 x3_2 (-1 : Int32)
def f_X6_startOfPart (k0 : Nat) (a1 : Int32) (M : Mm) : Option Int32 := (loop (fun v => f_X6_startOfPart_L4 k0 M v.1 v.2) FU ((1 : Int32), a1)).bind fun x => Sum.elim (fun z => f_X6_startOfPart_A4 ) (fun o => some o) x
set_option maxRecDepth 100000 in
set_option maxHeartbeats 4000000 in
theorem t_X6_startOfPart {E : Ev} {l : Launch} (htr : l.stackTraces = false) (k0 : Nat) (hk0 : isRo k0) (a1 : Int32) (M : Mm) (r : Int32) (hf : f_X6_startOfPart k0 a1 M = some r) : CM E l 0 0 0 yX6_startOfPart cX6_startOfPart 4 (some .int) [.ref (E.1 + k0), .int a1] M (some (.int r)) M := by
  refine CM.of htr (by decide +kernel) (Nat.le_of_ble_eq_true rfl) ?_
  intro K hE hL hl hR0 C hr hRv
  subst hE
  subst hl
  have C : Cx K cX6_startOfPart RX6 0 := C
  have hB : (0 : Nat) ≤ K.1.R.cells ∧ 0 ≤ K.1.R.slots := ⟨Nat.zero_le _, Nat.zero_le _⟩
  have hL2 : 2 < K.2.2.1 := by rw [hL]; decide
  have hL3 : 3 < K.2.2.1 := by rw [hL]; decide
  show G K (0, 0) 0 [(0, .ref (K.2.1.1 + k0)), (1, .int a1)] [] M
  unfold f_X6_startOfPart at hf
  refine g_iconst (v := (1 : Int32)) C (ckD_get k_X6_startOfPart_0 0 rfl) (by decide) ?_
  refine g_istore_n (lv' := [(2, _), (0, _), (1, _)]) C (ckD_get k_X6_startOfPart_0 1 rfl) rfl hL2 rfl ?_
  refine g_iload_n 2 C (ckD_get k_X6_startOfPart_0 2 rfl) rfl rfl ?_
  refine g_istore_n (lv' := [(3, _), (2, _), (0, _), (1, _)]) C (ckD_get k_X6_startOfPart_0 3 rfl) rfl hL3 rfl ?_
  refine G.sub [2, 1, 0] rfl ?_
  obtain ⟨xx_4, hx_4, hf⟩ := bd_e hf
  have hE_4 : ∀ (_ : Unit), xx_4 = .inl () → G K (0, 0) 39 [] [] M := by
    intro _ ex
    subst ex
    have hf : f_X6_startOfPart_A4  = some r := hf
    unfold f_X6_startOfPart_A4 at hf
    refine g_iconst (v := (0 : Int32)) C (ckD_get k_X6_startOfPart_0 24 rfl) (by decide) ?_
    cases hf
    exact g_iret C (ckD_get k_X6_startOfPart_0 25 rfl) hr hRv (Nat.le_refl _) (Nat.le_refl _)
  have hO_4 : ∀ o, xx_4 = .inr o → o = r := by
    intro o eo
    subst eo
    have hf : some o = some r := hf
    cases hf
    rfl
  refine loop_e (x := xx_4) (P := fun (v : (Int32 × Int32)) => G K (0, 0) 4 [(0, .ref (K.2.1.1 + k0)), (2, .int v.1), (3, .int v.2)] [] M) ?_ FU _ hx_4
  intro v rr_4 hf hn_4 hz_4
  obtain ⟨x2_1, x3_2⟩ := v
  have hf : f_X6_startOfPart_L4 k0 M x2_1 x3_2 = some rr_4 := hf
  show G K (0, 0) 4 [(0, .ref (K.2.1.1 + k0)), (2, .int x2_1), (3, .int x3_2)] [] M
  unfold f_X6_startOfPart_L4 at hf
  refine g_iload_n 2 C (ckD_get k_X6_startOfPart_0 4 rfl) rfl rfl ?_
  refine g_if_lt C (ckD_get k_X6_startOfPart_0 5 rfl) (fun c_3 => ?_) (fun c_3 => ?_)
  · have hf := if_t hf c_3
    refine G.sub [] rfl ?_
    cases hf
    exact hE_4 () (hz_4 _ rfl).symm
  · have hf := if_f hf c_3
    refine g_iload_n 1 C (ckD_get k_X6_startOfPart_0 6 rfl) rfl rfl ?_
    refine g_aload_n 0 C (ckD_get k_X6_startOfPart_0 7 rfl) rfl rfl ?_
    refine g_getR C (ckD_get k_X6_startOfPart_0 8 rfl) fk_X6_9 (T_Ro hk0) rfl ?_
    refine g_iload_n 2 C (ckD_get k_X6_startOfPart_0 9 rfl) rfl rfl ?_
    obtain ⟨v_4, hi_5, ev_4, hf⟩ := rdI_e hf
    refine n_iald C (ckD_get k_X6_startOfPart_0 10 rfl) (T_Ro1 hk0) hi_5 ev_4 ?_
    refine g_bipush (v := (12 : Int32)) C (ckD_get k_X6_startOfPart_0 11 rfl) (by decide) ?_
    have hJ_25 : ∀ (s_6 : Int32), f_X6_startOfPart_J25 x2_1 x3_2 s_6 = some rr_4 → G K (0, 0) 25 [(0, .ref (K.2.1.1 + k0)), (3, .int x3_2)] [.int s_6, .int x2_1] M := by
      intro s_6 hf
      unfold f_X6_startOfPart_J25 at hf
      refine g_iadd C (ckD_get k_X6_startOfPart_0 16 rfl) ?_
      obtain ⟨x2_7, ex2_7, hf⟩ := lt_e hf
      refine topI ex2_7 ?_
      refine g_istore_n (lv' := [(2, _), (0, _), (3, _)]) C (ckD_get k_X6_startOfPart_0 17 rfl) rfl hL2 rfl ?_
      refine g_iload_n 0 C (ckD_get k_X6_startOfPart_0 18 rfl) rfl rfl ?_
      refine g_if_ne C (ckD_get k_X6_startOfPart_0 19 rfl) (fun c_8 => ?_) (fun c_8 => ?_)
      · have hf := if_f hf c_8
        obtain ⟨x3_9, ex3_9, hf⟩ := lt_e hf
        refine g_iinc (lv' := [(3, _), (2, _), (0, _)]) 2 C (ckD_get k_X6_startOfPart_0 22 rfl) rfl ex3_9 hL3 rfl ?_
        refine g_goto C (ckD_get k_X6_startOfPart_0 23 rfl) ?_
        refine G.sub [2, 1, 0] rfl ?_
        cases hf
        exact hn_4 _ rfl
      · have hf := if_t hf c_8
        refine g_iload_n 2 C (ckD_get k_X6_startOfPart_0 20 rfl) rfl rfl ?_
        cases hf
        cases hO_4 _ (hz_4 _ rfl).symm
        exact g_iret C (ckD_get k_X6_startOfPart_0 21 rfl) hr hRv (Nat.le_refl _) (Nat.le_refl _)
    refine g_icmp_ge C (ckD_get k_X6_startOfPart_0 12 rfl) (fun c_10 => ?_) (fun c_10 => ?_)
    · have hf := if_t hf c_10
      refine g_iconst (v := (1 : Int32)) C (ckD_get k_X6_startOfPart_0 15 rfl) (by decide) ?_
      refine G.sub [0, 2] rfl ?_
      exact hJ_25 _ hf
    · have hf := if_f hf c_10
      refine g_iconst (v := (-1 : Int32)) C (ckD_get k_X6_startOfPart_0 13 rfl) (by decide) ?_
      refine g_goto C (ckD_get k_X6_startOfPart_0 14 rfl) ?_
      refine G.sub [0, 2] rfl ?_
      exact hJ_25 _ hf

set_option maxRecDepth 20000 in
theorem k_X6_makeNormal_0 : ckD cX6_makeNormal [(0, .aload_n 0, 1, 1, 0), (1, .getfield 9, 3, 4, 0), (4, .iconst 0, 1, 5, 0), (5, .aload_n 0, 1, 6, 0), (6, .getfield 15, 3, 9, 0), (9, .iconst 0, 1, 10, 0), (10, .aload_n 0, 1, 11, 0), (11, .getfield 39, 3, 14, 0), (14, .invokestatic 70, 3, 17, 0), (17, .sipush 529, 3, 20, 0), (20, .istore_n 1, 1, 21, 0), (21, .iconst 0, 1, 22, 0), (22, .istore_n 2, 1, 23, 0), (23, .iload_n 2, 1, 24, 0), (24, .iload_n 1, 1, 25, 0), (25, .if_icmp .ge 34, 3, 28, 59), (28, .aload_n 0, 1, 29, 0), (29, .invokevirtual 76, 3, 32, 0), (32, .istore_n 3, 1, 33, 0), (33, .iload_n 3, 1, 34, 0), (34, .iconst (-1), 1, 35, 0), (35, .if_icmp .ne 6, 3, 38, 41), (38, .goto 21, 3, 41, 59), (41, .aload_n 0, 1, 42, 0), (42, .iload_n 3, 1, 43, 0), (43, .aload_n 0, 1, 44, 0), (44, .iload_n 3, 1, 45, 0), (45, .iconst 1, 1, 46, 0), (46, .isub, 1, 47, 0), (47, .invokevirtual 80, 3, 50, 0), (50, .invokevirtual 84, 3, 53, 0), (53, .iinc 2 1, 3, 56, 0), (56, .goto (-33), 3, 59, 23), (59, .aload_n 0, 1, 60, 0), (60, .invokevirtual 88, 3, 63, 0), (63, .ireturn, 1, 64, 0)] = true := by decide +kernel
def f_X6_makeNormal_A23 (k0 : Nat) (M_5 : Mm) : Option (Int32 × Mm) := (f_X6_countChanged k0 M_5).bind fun r_7 => some (r_7, M_5)
def f_X6_makeNormal_L23 (k0 : Nat) (x2_3 : Int32) (M_4 : Mm) : Option ((Int32 × Mm) ⊕ Mm) := if (529 : Int32) ≤ x2_3 then some (.inr M_4) else (f_X6_firstTwice k0 M_4).bind fun r_10 => if r_10 = (-1 : Int32) then some (.inr M_4) else (f_X6_startOfPart k0 (r_10 - (1 : Int32)) M_4).bind fun r_13 => (f_X6_moveForward k0 r_10 r_13 M_4).bind fun M_15 => lt1 (x2_3 + 1) fun x2_16 => some (.inl (x2_16, M_15))
def f_X6_makeNormal (k0 : Nat) (M : Mm) : Option (Int32 × Mm) := gd (decide ((¬ (0 : Int32) < 0 ∧ ¬ (0 : Int32) < 0 ∧ ¬ (M.1 k0 5) < 0) ∧ ((0 : Int32)).toNatClampNeg + ((M.1 k0 5)).toNatClampNeg ≤ 23 ∧ ((0 : Int32)).toNatClampNeg + ((M.1 k0 5)).toNatClampNeg ≤ 23)) <| lt1 (wr M (k0 + 2) (va_cpy (M.1 (k0 + 1)) (M.1 (k0 + 2)) ((0 : Int32)).toNatClampNeg ((0 : Int32)).toNatClampNeg ((M.1 k0 5)).toNatClampNeg)) fun M_1 => (loop (fun v => f_X6_makeNormal_L23 k0 v.1 v.2) FU ((0 : Int32), M_1)).bind fun z => f_X6_makeNormal_A23 k0 z
set_option maxRecDepth 100000 in
set_option maxHeartbeats 4000000 in
theorem t_X6_makeNormal {E : Ev} {l : Launch} (htr : l.stackTraces = false) (k0 : Nat) (hk0 : isRo k0) (M : Mm) (r : (Int32 × Mm)) (hf : f_X6_makeNormal k0 M = some r) : CM E l 1 0 0 yX6_makeNormal cX6_makeNormal 4 (some .int) [.ref (E.1 + k0)] M (some (.int r.1)) r.2 := by
  refine CM.of htr (by decide +kernel) (Nat.le_of_ble_eq_true rfl) ?_
  intro K hE hL hl hR0 C hr hRv
  subst hE
  subst hl
  have C : Cx K cX6_makeNormal RX6 1 := C
  have hB : (0 : Nat) ≤ K.1.R.cells ∧ 0 ≤ K.1.R.slots := ⟨Nat.zero_le _, Nat.zero_le _⟩
  have hL1 : 1 < K.2.2.1 := by rw [hL]; decide
  have hL2 : 2 < K.2.2.1 := by rw [hL]; decide
  have hL3 : 3 < K.2.2.1 := by rw [hL]; decide
  show G K (0, 0) 0 [(0, .ref (K.2.1.1 + k0))] [] M
  unfold f_X6_makeNormal at hf
  refine g_aload_n 0 C (ckD_get k_X6_makeNormal_0 0 rfl) rfl rfl ?_
  refine g_getR C (ckD_get k_X6_makeNormal_0 1 rfl) fk_X6_9 (T_Ro hk0) rfl ?_
  refine g_iconst (v := (0 : Int32)) C (ckD_get k_X6_makeNormal_0 2 rfl) (by decide) ?_
  refine g_aload_n 0 C (ckD_get k_X6_makeNormal_0 3 rfl) rfl rfl ?_
  refine g_getR C (ckD_get k_X6_makeNormal_0 4 rfl) fk_X6_15 (T_Ro hk0) rfl ?_
  refine g_iconst (v := (0 : Int32)) C (ckD_get k_X6_makeNormal_0 5 rfl) (by decide) ?_
  refine g_aload_n 0 C (ckD_get k_X6_makeNormal_0 6 rfl) rfl rfl ?_
  refine g_getI C (ckD_get k_X6_makeNormal_0 7 rfl) fk_X6_39 (T_Ro hk0) rfl ?_
  obtain ⟨hg_2, hf⟩ := gd_e hf
  have hg_2 := of_decide_eq_true hg_2
  obtain ⟨M_1, eM_1, hf⟩ := lt_e hf
  refine g_copy C (ckD_get k_X6_makeNormal_0 8 rfl) ck_X6_70 (T_Ro1 hk0) (T_Ro2 hk0) hg_2.1.1 hg_2.1.2.1 hg_2.1.2.2 hg_2.2.1 hg_2.2.2 (by decide) (Nat.le_of_ble_eq_true rfl) ?_
  refine memI eM_1 ?_
  refine g_sipush (v := (529 : Int32)) C (ckD_get k_X6_makeNormal_0 9 rfl) (by decide) ?_
  refine g_istore_n (lv' := [(1, _), (0, _)]) C (ckD_get k_X6_makeNormal_0 10 rfl) rfl hL1 rfl ?_
  refine g_iconst (v := (0 : Int32)) C (ckD_get k_X6_makeNormal_0 11 rfl) (by decide) ?_
  refine g_istore_n (lv' := [(2, _), (1, _), (0, _)]) C (ckD_get k_X6_makeNormal_0 12 rfl) rfl hL2 rfl ?_
  refine G.sub [2, 1, 0] rfl ?_
  obtain ⟨M_5, hx_23, hf⟩ := bd_e hf
  have hE_23 : G K (0, 0) 59 [(0, .ref (K.2.1.1 + k0))] [] M_5 := by
    have hf : f_X6_makeNormal_A23 k0 M_5 = some r := hf
    unfold f_X6_makeNormal_A23 at hf
    refine g_aload_n 0 C (ckD_get k_X6_makeNormal_0 33 rfl) rfl rfl ?_
    obtain ⟨r_7, hr_6, hf⟩ := bd_e hf
    refine n_cV [] [] C (ckD_get k_X6_makeNormal_0 34 rfl) vk_X6_88 (t_X6_countChanged C.tr _ hk0 _ _ hr_6) (T_Ro hk0) rfl rfl (Nat.le_of_ble_eq_true rfl) (by decide) hB rfl ?_
    cases hf
    exact g_iret C (ckD_get k_X6_makeNormal_0 35 rfl) hr hRv (Nat.le_refl _) (Nat.le_refl _)
  refine loop_e (x := M_5) (P := fun (v : (Int32 × Mm)) => G K (0, 0) 23 [(0, .ref (K.2.1.1 + k0)), (1, .int (529 : Int32)), (2, .int v.1)] [] v.2) ?_ FU _ hx_23
  intro v rr_23 hf hn_23 hz_23
  obtain ⟨x2_3, M_4⟩ := v
  have hf : f_X6_makeNormal_L23 k0 x2_3 M_4 = some rr_23 := hf
  show G K (0, 0) 23 [(0, .ref (K.2.1.1 + k0)), (1, .int (529 : Int32)), (2, .int x2_3)] [] M_4
  unfold f_X6_makeNormal_L23 at hf
  refine g_iload_n 2 C (ckD_get k_X6_makeNormal_0 13 rfl) rfl rfl ?_
  refine g_iload_n 1 C (ckD_get k_X6_makeNormal_0 14 rfl) rfl rfl ?_
  refine g_icmp_ge C (ckD_get k_X6_makeNormal_0 15 rfl) (fun c_8 => ?_) (fun c_8 => ?_)
  · have hf := if_t hf c_8
    refine G.sub [0] rfl ?_
    cases hf
    cases hz_23 _ rfl
    exact hE_23
  · have hf := if_f hf c_8
    refine g_aload_n 0 C (ckD_get k_X6_makeNormal_0 16 rfl) rfl rfl ?_
    obtain ⟨r_10, hr_9, hf⟩ := bd_e hf
    refine n_cV [] [] C (ckD_get k_X6_makeNormal_0 17 rfl) vk_X6_76 (t_X6_firstTwice C.tr _ hk0 _ _ hr_9) (T_Ro hk0) rfl rfl (Nat.le_of_ble_eq_true rfl) (by decide) hB rfl ?_
    refine g_istore_n (lv' := [(3, _), (0, _), (1, _), (2, _)]) C (ckD_get k_X6_makeNormal_0 18 rfl) rfl hL3 rfl ?_
    refine g_iload_n 0 C (ckD_get k_X6_makeNormal_0 19 rfl) rfl rfl ?_
    refine g_iconst (v := (-1 : Int32)) C (ckD_get k_X6_makeNormal_0 20 rfl) (by decide) ?_
    refine g_icmp_ne C (ckD_get k_X6_makeNormal_0 21 rfl) (fun c_11 => ?_) (fun c_11 => ?_)
    · have hf := if_f hf c_11
      refine g_aload_n 1 C (ckD_get k_X6_makeNormal_0 23 rfl) rfl rfl ?_
      refine g_iload_n 0 C (ckD_get k_X6_makeNormal_0 24 rfl) rfl rfl ?_
      refine g_aload_n 1 C (ckD_get k_X6_makeNormal_0 25 rfl) rfl rfl ?_
      refine g_iload_n 0 C (ckD_get k_X6_makeNormal_0 26 rfl) rfl rfl ?_
      refine g_iconst (v := (1 : Int32)) C (ckD_get k_X6_makeNormal_0 27 rfl) (by decide) ?_
      refine g_isub C (ckD_get k_X6_makeNormal_0 28 rfl) ?_
      obtain ⟨r_13, hr_12, hf⟩ := bd_e hf
      refine n_cV [.int (r_10 - (1 : Int32))] [.int r_10, .ref (K.2.1.1 + k0)] C (ckD_get k_X6_makeNormal_0 29 rfl) vk_X6_80 (t_X6_startOfPart C.tr _ hk0 _ _ _ hr_12) (T_Ro hk0) rfl rfl (Nat.le_of_ble_eq_true rfl) (by decide) hB rfl ?_
      obtain ⟨M_15, hr_14, hf⟩ := bd_e hf
      refine n_cV [.int r_10, .int r_13] [] C (ckD_get k_X6_makeNormal_0 30 rfl) vk_X6_84 (t_X6_moveForward C.tr _ hk0 _ _ _ _ hr_14) (T_Ro hk0) rfl rfl (Nat.le_of_ble_eq_true rfl) (by decide) hB rfl ?_
      obtain ⟨x2_16, ex2_16, hf⟩ := lt_e hf
      refine g_iinc (lv' := [(2, _), (3, _), (0, _), (1, _)]) 3 C (ckD_get k_X6_makeNormal_0 31 rfl) rfl ex2_16 hL2 rfl ?_
      refine g_goto C (ckD_get k_X6_makeNormal_0 32 rfl) ?_
      refine G.sub [2, 3, 0] rfl ?_
      cases hf
      exact hn_23 _ rfl
    · have hf := if_t hf c_11
      refine g_goto C (ckD_get k_X6_makeNormal_0 22 rfl) ?_
      refine G.sub [1] rfl ?_
      cases hf
      cases hz_23 _ rfl
      exact hE_23

set_option maxRecDepth 20000 in
theorem k_X7_forget_0 : ckD cX7_forget [(0, .iconst 0, 1, 1, 0), (1, .istore_n 1, 1, 2, 0), (2, .iload_n 1, 1, 3, 0), (3, .iconst 3, 1, 4, 0), (4, .if_icmp .gt 19, 3, 7, 23), (7, .aload_n 0, 1, 8, 0), (8, .getfield 11, 3, 11, 0), (11, .iload_n 1, 1, 12, 0), (12, .aaload, 1, 13, 0), (13, .iconst 0, 1, 14, 0), (14, .putfield 61, 3, 17, 0), (17, .iinc 1 1, 3, 20, 0), (20, .goto (-18), 3, 23, 2), (23, .return_, 1, 24, 0)] = true := by decide +kernel
def f_X7_forget_A2 (M_3 : Mm) : Option Mm := some M_3
def f_X7_forget_L2 (x1_1 : Int32) (M_2 : Mm) : Option ((Int32 × Mm) ⊕ Mm) := if (3 : Int32) < x1_1 then some (.inr M_2) else gd (decide (¬ (x1_1 < 0 ∨ 4 ≤ (x1_1).toNatClampNeg))) <| lt1 (65 + (x1_1).toNatClampNeg) fun k_5 => lt1 (wi M_2 k_5 0 (0 : Int32)) fun M_7 => lt1 (x1_1 + 1) fun x1_8 => some (.inl (x1_8, M_7))
def f_X7_forget  (M : Mm) : Option Mm := (loop (fun v => f_X7_forget_L2 v.1 v.2) FU ((0 : Int32), M)).bind fun z => f_X7_forget_A2 z
set_option maxRecDepth 100000 in
set_option maxHeartbeats 4000000 in
theorem t_X7_forget {E : Ev} {l : Launch} (htr : l.stackTraces = false) (M : Mm) (r : Mm) (hf : f_X7_forget M = some r) : CM E l 0 0 0 yX7_forget cX7_forget 2 none [.ref (E.1 + 34)] M none r := by
  refine CM.of htr (by decide +kernel) (Nat.le_of_ble_eq_true rfl) ?_
  intro K hE hL hl hR0 C hr hRv
  subst hE
  subst hl
  have C : Cx K cX7_forget RX7 0 := C
  have hB : (0 : Nat) ≤ K.1.R.cells ∧ 0 ≤ K.1.R.slots := ⟨Nat.zero_le _, Nat.zero_le _⟩
  have hL1 : 1 < K.2.2.1 := by rw [hL]; decide
  show G K (0, 0) 0 [(0, .ref (K.2.1.1 + 34))] [] M
  unfold f_X7_forget at hf
  refine g_iconst (v := (0 : Int32)) C (ckD_get k_X7_forget_0 0 rfl) (by decide) ?_
  refine g_istore_n (lv' := [(1, _), (0, _)]) C (ckD_get k_X7_forget_0 1 rfl) rfl hL1 rfl ?_
  refine G.sub [1, 0] rfl ?_
  obtain ⟨M_3, hx_2, hf⟩ := bd_e hf
  have hE_2 : G K (0, 0) 23 [] [] M_3 := by
    have hf : f_X7_forget_A2 M_3 = some r := hf
    unfold f_X7_forget_A2 at hf
    cases hf
    exact g_vret C (ckD_get k_X7_forget_0 13 rfl) hr hRv (Nat.le_refl _) (Nat.le_refl _)
  refine loop_e (x := M_3) (P := fun (v : (Int32 × Mm)) => G K (0, 0) 2 [(0, .ref (K.2.1.1 + 34)), (1, .int v.1)] [] v.2) ?_ FU _ hx_2
  intro v rr_2 hf hn_2 hz_2
  obtain ⟨x1_1, M_2⟩ := v
  have hf : f_X7_forget_L2 x1_1 M_2 = some rr_2 := hf
  show G K (0, 0) 2 [(0, .ref (K.2.1.1 + 34)), (1, .int x1_1)] [] M_2
  unfold f_X7_forget_L2 at hf
  refine g_iload_n 1 C (ckD_get k_X7_forget_0 2 rfl) rfl rfl ?_
  refine g_iconst (v := (3 : Int32)) C (ckD_get k_X7_forget_0 3 rfl) (by decide) ?_
  refine g_icmp_gt C (ckD_get k_X7_forget_0 4 rfl) (fun c_4 => ?_) (fun c_4 => ?_)
  · have hf := if_t hf c_4
    refine G.sub [] rfl ?_
    cases hf
    cases hz_2 _ rfl
    exact hE_2
  · have hf := if_f hf c_4
    refine g_aload_n 0 C (ckD_get k_X7_forget_0 5 rfl) rfl rfl ?_
    refine g_getR C (ckD_get k_X7_forget_0 6 rfl) fk_X7_11 T34 rfl ?_
    refine g_iload_n 1 C (ckD_get k_X7_forget_0 7 rfl) rfl rfl ?_
    obtain ⟨hi_6, hf⟩ := gd_e hf
    obtain ⟨k_5, ek_5, hf⟩ := lt_e hf
    have hi_6x := of_decide_eq_true hi_6
    refine g_aald C (ckD_get k_X7_forget_0 8 rfl) T35 hi_6x ?_
    refine topR ek_5 ?_
    have hkk_5 : k_5 < 200 := by have := of_decide_eq_true hi_6; omega
    have hk_5 : decide (65 ≤ k_5 ∧ k_5 < 69) = true := decide_eq_true (by have := of_decide_eq_true hi_6; omega)
    refine g_iconst (v := (0 : Int32)) C (ckD_get k_X7_forget_0 9 rfl) (by decide) ?_
    obtain ⟨M_7, eM_7, hf⟩ := lt_e hf
    refine g_putI C (ckD_get k_X7_forget_0 10 rfl) fk_X7_61 (LT_Fd hk_5) rfl ?_
    refine memI eM_7 ?_
    obtain ⟨x1_8, ex1_8, hf⟩ := lt_e hf
    refine g_iinc (lv' := [(1, _), (0, _)]) 1 C (ckD_get k_X7_forget_0 11 rfl) rfl ex1_8 hL1 rfl ?_
    refine g_goto C (ckD_get k_X7_forget_0 12 rfl) ?_
    refine G.sub [1, 0] rfl ?_
    cases hf
    exact hn_2 _ rfl

set_option maxRecDepth 20000 in
theorem k_X7_prepare_0 : ckD cX7_prepare [(0, .aload_n 0, 1, 1, 0), (1, .aload_n 0, 1, 2, 0), (2, .getfield 52, 3, 5, 0), (5, .getfield 77, 3, 8, 0), (8, .iconst 4, 1, 9, 0), (9, .invokestatic 82, 3, 12, 0), (12, .putfield 88, 3, 15, 0), (15, .aload_n 0, 1, 16, 0), (16, .aload_n 0, 1, 17, 0), (17, .getfield 52, 3, 20, 0), (20, .invokevirtual 89, 3, 23, 0), (23, .putfield 93, 3, 26, 0), (26, .aload_n 0, 1, 27, 0), (27, .aload_n 0, 1, 28, 0), (28, .getfield 52, 3, 31, 0), (31, .invokevirtual 96, 3, 34, 0), (34, .putfield 99, 3, 37, 0), (37, .aload_n 0, 1, 38, 0), (38, .getfield 57, 3, 41, 0), (41, .ldc 102, 2, 43, 0), (43, .putfield 61, 3, 46, 0), (46, .return_, 1, 47, 0)] = true := by decide +kernel
def f_X7_prepare  (M : Mm) : Option Mm := lt1 (wi M 34 8 (jmin (M.1 1 3) (4 : Int32))) fun M_1 => (f_X0_changedByTurning M_1).bind fun r_3 => lt1 (wi M_1 34 9 r_3) fun M_4 => (f_X0_area M_4).bind fun r_6 => lt1 (wi M_4 34 10 r_6) fun M_7 => lt1 ((M_7.1 34 7).toNatClampNeg) fun k_8 => gd (decide (65 ≤ k_8 ∧ k_8 < 69)) <| lt1 (wi M_7 k_8 0 (2147483647 : Int32)) fun M_9 => some M_9
set_option maxRecDepth 100000 in
set_option maxHeartbeats 4000000 in
theorem t_X7_prepare {E : Ev} {l : Launch} (htr : l.stackTraces = false) (M : Mm) (r : Mm) (hf : f_X7_prepare M = some r) : CM E l 1 0 0 yX7_prepare cX7_prepare 1 none [.ref (E.1 + 34)] M none r := by
  refine CM.of htr (by decide +kernel) (Nat.le_of_ble_eq_true rfl) ?_
  intro K hE hL hl hR0 C hr hRv
  subst hE
  subst hl
  have C : Cx K cX7_prepare RX7 1 := C
  have hB : (0 : Nat) ≤ K.1.R.cells ∧ 0 ≤ K.1.R.slots := ⟨Nat.zero_le _, Nat.zero_le _⟩
  show G K (0, 0) 0 [(0, .ref (K.2.1.1 + 34))] [] M
  unfold f_X7_prepare at hf
  refine g_aload_n 0 C (ckD_get k_X7_prepare_0 0 rfl) rfl rfl ?_
  refine g_aload_n 0 C (ckD_get k_X7_prepare_0 1 rfl) rfl rfl ?_
  refine g_getR C (ckD_get k_X7_prepare_0 2 rfl) fk_X7_52 T34 rfl ?_
  refine g_getI C (ckD_get k_X7_prepare_0 3 rfl) fk_X7_77 T1 rfl ?_
  refine g_iconst (v := (4 : Int32)) C (ckD_get k_X7_prepare_0 4 rfl) (by decide) ?_
  refine n_mmin C (ckD_get k_X7_prepare_0 5 rfl) mk_X7_82 (by decide) (Nat.le_of_ble_eq_true rfl) hB ?_
  obtain ⟨M_1, eM_1, hf⟩ := lt_e hf
  refine g_putI C (ckD_get k_X7_prepare_0 6 rfl) fk_X7_88 T34 rfl ?_
  refine memI eM_1 ?_
  refine g_aload_n 0 C (ckD_get k_X7_prepare_0 7 rfl) rfl rfl ?_
  refine g_aload_n 0 C (ckD_get k_X7_prepare_0 8 rfl) rfl rfl ?_
  refine g_getR C (ckD_get k_X7_prepare_0 9 rfl) fk_X7_52 T34 rfl ?_
  obtain ⟨r_3, hr_2, hf⟩ := bd_e hf
  refine n_cV [] [.ref (K.2.1.1 + 34)] C (ckD_get k_X7_prepare_0 10 rfl) vk_X7_89 (t_X0_changedByTurning C.tr _ _ hr_2) T1 rfl rfl (Nat.le_of_ble_eq_true rfl) (by decide) hB rfl ?_
  obtain ⟨M_4, eM_4, hf⟩ := lt_e hf
  refine g_putI C (ckD_get k_X7_prepare_0 11 rfl) fk_X7_93 T34 rfl ?_
  refine memI eM_4 ?_
  refine g_aload_n 0 C (ckD_get k_X7_prepare_0 12 rfl) rfl rfl ?_
  refine g_aload_n 0 C (ckD_get k_X7_prepare_0 13 rfl) rfl rfl ?_
  refine g_getR C (ckD_get k_X7_prepare_0 14 rfl) fk_X7_52 T34 rfl ?_
  obtain ⟨r_6, hr_5, hf⟩ := bd_e hf
  refine n_cV [] [.ref (K.2.1.1 + 34)] C (ckD_get k_X7_prepare_0 15 rfl) vk_X7_96 (t_X0_area C.tr _ _ hr_5) T1 rfl rfl (Nat.le_of_ble_eq_true rfl) (by decide) hB rfl ?_
  obtain ⟨M_7, eM_7, hf⟩ := lt_e hf
  refine g_putI C (ckD_get k_X7_prepare_0 16 rfl) fk_X7_99 T34 rfl ?_
  refine memI eM_7 ?_
  refine g_aload_n 0 C (ckD_get k_X7_prepare_0 17 rfl) rfl rfl ?_
  obtain ⟨k_8, ek_8, hf⟩ := lt_e hf
  obtain ⟨hk_8, hf⟩ := gd_e hf
  refine g_getV C (ckD_get k_X7_prepare_0 18 rfl) fk_X7_57 T34 rfl ?_
  refine topR ek_8 ?_
  refine g_ldc C (ckD_get k_X7_prepare_0 19 rfl) q1001 ?_
  obtain ⟨M_9, eM_9, hf⟩ := lt_e hf
  refine g_putI C (ckD_get k_X7_prepare_0 20 rfl) fk_X7_61 (LT_Fd hk_8) rfl ?_
  refine memI eM_9 ?_
  cases hf
  exact g_vret C (ckD_get k_X7_prepare_0 21 rfl) hr hRv (Nat.le_refl _) (Nat.le_refl _)

set_option maxRecDepth 20000 in
theorem k_X7_nextTurned_0 : ckD cX7_nextTurned [(0, .iload_n 1, 1, 1, 0), (1, .aload_n 0, 1, 2, 0), (2, .getfield 93, 3, 5, 0), (5, .isub, 1, 6, 0), (6, .aload_n 0, 1, 7, 0), (7, .getfield 93, 3, 10, 0), (10, .iand, 1, 11, 0), (11, .ireturn, 1, 12, 0)] = true := by decide +kernel
def f_X7_nextTurned (a1 : Int32) (M : Mm) : Int32 := ((a1 - (M.1 34 9)) &&& (M.1 34 9))
set_option maxRecDepth 100000 in
set_option maxHeartbeats 4000000 in
theorem t_X7_nextTurned {E : Ev} {l : Launch} (htr : l.stackTraces = false) (a1 : Int32) (M : Mm) (r : Int32) (hf : f_X7_nextTurned a1 M = r) : CM E l 0 0 0 yX7_nextTurned cX7_nextTurned 2 (some .int) [.ref (E.1 + 34), .int a1] M (some (.int r)) M := by
  refine CM.of htr (by decide +kernel) (Nat.le_of_ble_eq_true rfl) ?_
  intro K hE hL hl hR0 C hr hRv
  subst hE
  subst hl
  have C : Cx K cX7_nextTurned RX7 0 := C
  have hB : (0 : Nat) ≤ K.1.R.cells ∧ 0 ≤ K.1.R.slots := ⟨Nat.zero_le _, Nat.zero_le _⟩
  show G K (0, 0) 0 [(0, .ref (K.2.1.1 + 34)), (1, .int a1)] [] M
  unfold f_X7_nextTurned at hf
  refine g_iload_n 1 C (ckD_get k_X7_nextTurned_0 0 rfl) rfl rfl ?_
  refine g_aload_n 0 C (ckD_get k_X7_nextTurned_0 1 rfl) rfl rfl ?_
  refine g_getI C (ckD_get k_X7_nextTurned_0 2 rfl) fk_X7_93 T34 rfl ?_
  refine g_isub C (ckD_get k_X7_nextTurned_0 3 rfl) ?_
  refine g_aload_n 0 C (ckD_get k_X7_nextTurned_0 4 rfl) rfl rfl ?_
  refine g_getI C (ckD_get k_X7_nextTurned_0 5 rfl) fk_X7_93 T34 rfl ?_
  refine g_iand C (ckD_get k_X7_nextTurned_0 6 rfl) ?_
  cases hf
  exact g_iret C (ckD_get k_X7_nextTurned_0 7 rfl) hr hRv (Nat.le_refl _) (Nat.le_refl _)

def f_tlay (k g : Nat) (M : Mm) : Option Mm := if k = 11 ∨ k = 42 then f_X4_lay k g M else if k = 17 ∨ k = 48 then f_X6_lay k g M else if k = 23 ∨ k = 54 then f_X3_lay k g M else none
theorem tl_e {k g : Nat} {M r : Mm} (h : f_tlay k g M = some r) : (isOr k ∧ f_X4_lay k g M = some r) ∨ (isRo k ∧ f_X6_lay k g M = some r) ∨ (isKi k ∧ f_X3_lay k g M = some r) := by
  unfold f_tlay at h
  split at h
  · rename_i c; exact Or.inl ⟨c, h⟩
  · split at h
    · rename_i c; exact Or.inr (Or.inl ⟨c, h⟩)
    · split at h
      · rename_i c; exact Or.inr (Or.inr ⟨c, h⟩)
      · cases h
set_option maxRecDepth 20000 in
theorem k_X7_comesLower_0 : ckD cX7_comesLower [(0, .iconst 0, 1, 1, 0), (1, .istore_n 2, 1, 2, 0), (2, .iconst 0, 1, 3, 0), (3, .istore_n 3, 1, 4, 0), (4, .iconst 0, 1, 5, 0), (5, .istore 4, 2, 7, 0), (7, .iload 4, 2, 9, 0), (9, .bipush 16, 2, 11, 0), (11, .if_icmp .ge 82, 3, 14, 93), (14, .aload_n 0, 1, 15, 0), (15, .getfield 20, 3, 18, 0), (18, .aload_n 0, 1, 19, 0), (19, .getfield 52, 3, 22, 0), (22, .iload_n 3, 1, 23, 0), (23, .invokevirtual 147, 3, 26, 0), (26, .aload_n 1, 1, 27, 0), (27, .aload_n 0, 1, 28, 0), (28, .getfield 20, 3, 31, 0), (31, .invokevirtual 151, 3, 34, 0), (34, .aload_n 0, 1, 35, 0), (35, .getfield 20, 3, 38, 0), (38, .invokevirtual 157, 3, 41, 0), (41, .istore 5, 2, 43, 0), (43, .iload 5, 2, 45, 0), (45, .aload_n 0, 1, 46, 0), (46, .getfield 57, 3, 49, 0), (49, .getfield 61, 3, 52, 0), (52, .if_icmp .ge 22, 3, 55, 74), (55, .aload_n 0, 1, 56, 0), (56, .getfield 57, 3, 59, 0), (59, .iload 5, 2, 61, 0), (61, .putfield 61, 3, 64, 0), (64, .aload_n 0, 1, 65, 0), (65, .getfield 57, 3, 68, 0), (68, .iload_n 3, 1, 69, 0), (69, .putfield 158, 3, 72, 0), (72, .iconst 1, 1, 73, 0), (73, .istore_n 2, 1, 74, 0), (74, .aload_n 0, 1, 75, 0), (75, .iload_n 3, 1, 76, 0)] = true := by decide +kernel
set_option maxRecDepth 20000 in
theorem k_X7_comesLower_1 : ckD cX7_comesLower [(76, .invokevirtual 161, 3, 79, 0), (79, .istore_n 3, 1, 80, 0), (80, .iload_n 3, 1, 81, 0), (81, .ifCond .ne 6, 3, 84, 87), (84, .goto 9, 3, 87, 93), (87, .iinc 4 1, 3, 90, 0), (90, .goto (-83), 3, 93, 7), (93, .iload_n 2, 1, 94, 0), (94, .ireturn, 1, 95, 0)] = true := by decide +kernel
def f_X7_comesLower_A7 (x2_5 : Int32) (M_6 : Mm) : Option (Int32 × Mm) := gd (decide (x2_5 = 0 ∨ x2_5 = 1)) <| some (x2_5, M_6)
def f_X7_comesLower_J74 (x3_2 : Int32) (x4_3 : Int32) (p2_16 : Int32) (M_17 : Mm) : Option ((Int32 × Int32 × Int32 × Mm) ⊕ (Int32 × Mm)) := lt1 (f_X7_nextTurned x3_2 M_17) fun x3_18 => if x3_18 = 0 then some (.inr (p2_16, M_17)) else lt1 (x4_3 + 1) fun x4_20 => some (.inl (p2_16, x3_18, x4_20, M_17))
def f_X7_comesLower_L7 (k1 : Nat) (x2_1 : Int32) (x3_2 : Int32) (x4_3 : Int32) (M_4 : Mm) : Option ((Int32 × Int32 × Int32 × Mm) ⊕ (Int32 × Mm)) := if (16 : Int32) ≤ x4_3 then some (.inr (x2_1, M_4)) else (f_X2_take 36 x3_2 M_4).bind fun M_10 => (f_tlay k1 36 M_10).bind fun M_11 => (f_X2_area 36 M_11).bind fun r_14 => lt1 ((M_11.1 34 7).toNatClampNeg) fun k_15 => gd (decide (65 ≤ k_15 ∧ k_15 < 69)) <| if (M_11.1 k_15 0) ≤ r_14 then f_X7_comesLower_J74 x3_2 x4_3 x2_1 M_11 else lt1 ((M_11.1 34 7).toNatClampNeg) fun k_22 => gd (decide (65 ≤ k_22 ∧ k_22 < 69)) <| lt1 (wi M_11 k_22 0 r_14) fun M_23 => lt1 ((M_23.1 34 7).toNatClampNeg) fun k_24 => gd (decide (65 ≤ k_24 ∧ k_24 < 69)) <| lt1 (wi M_23 k_24 4 x3_2) fun M_25 => f_X7_comesLower_J74 x3_2 x4_3 (1 : Int32) M_25
def f_X7_comesLower (k1 : Nat) (M : Mm) : Option (Int32 × Mm) := (loop (fun v => f_X7_comesLower_L7 k1 v.1 v.2.1 v.2.2.1 v.2.2.2) FU ((0 : Int32), (0 : Int32), (0 : Int32), M)).bind fun z => f_X7_comesLower_A7 z.1 z.2
set_option maxRecDepth 100000 in
set_option maxHeartbeats 4000000 in
theorem t_X7_comesLower {E : Ev} {l : Launch} (htr : l.stackTraces = false) (k1 : Nat) (M : Mm) (r : (Int32 × Mm)) (hf : f_X7_comesLower k1 M = some r) : CM E l 4 0 0 yX7_comesLower cX7_comesLower 6 (some .boolean) [.ref (E.1 + 34), .ref (E.1 + k1)] M (some (.int r.1)) r.2 := by
  refine CM.of htr (by decide +kernel) (Nat.le_of_ble_eq_true rfl) ?_
  intro K hE hL hl hR0 C hr hRv
  subst hE
  subst hl
  have C : Cx K cX7_comesLower RX7 4 := C
  have hB : (0 : Nat) ≤ K.1.R.cells ∧ 0 ≤ K.1.R.slots := ⟨Nat.zero_le _, Nat.zero_le _⟩
  have hL2 : 2 < K.2.2.1 := by rw [hL]; decide
  have hL3 : 3 < K.2.2.1 := by rw [hL]; decide
  have hL4 : 4 < K.2.2.1 := by rw [hL]; decide
  have hL5 : 5 < K.2.2.1 := by rw [hL]; decide
  show G K (0, 0) 0 [(0, .ref (K.2.1.1 + 34)), (1, .ref (K.2.1.1 + k1))] [] M
  unfold f_X7_comesLower at hf
  refine g_iconst (v := (0 : Int32)) C (ckD_get k_X7_comesLower_0 0 rfl) (by decide) ?_
  refine g_istore_n (lv' := [(2, _), (0, _), (1, _)]) C (ckD_get k_X7_comesLower_0 1 rfl) rfl hL2 rfl ?_
  refine g_iconst (v := (0 : Int32)) C (ckD_get k_X7_comesLower_0 2 rfl) (by decide) ?_
  refine g_istore_n (lv' := [(3, _), (2, _), (0, _), (1, _)]) C (ckD_get k_X7_comesLower_0 3 rfl) rfl hL3 rfl ?_
  refine g_iconst (v := (0 : Int32)) C (ckD_get k_X7_comesLower_0 4 rfl) (by decide) ?_
  refine g_istore (lv' := [(4, _), (3, _), (2, _), (0, _), (1, _)]) C (ckD_get k_X7_comesLower_0 5 rfl) hL4 rfl ?_
  refine G.sub [3, 4, 2, 1, 0] rfl ?_
  obtain ⟨xx_7, hx_7, hf⟩ := bd_e hf
  obtain ⟨x2_5, M_6⟩ := xx_7
  have hE_7 : G K (0, 0) 93 [(2, .int x2_5)] [] M_6 := by
    have hf : f_X7_comesLower_A7 x2_5 M_6 = some r := hf
    unfold f_X7_comesLower_A7 at hf
    refine g_iload_n 0 C (ckD_get k_X7_comesLower_1 7 rfl) rfl rfl ?_
    obtain ⟨hg_7, hf⟩ := gd_e hf
    cases hf
    exact g_zret C (ckD_get k_X7_comesLower_1 8 rfl) hr (nz_e hg_7) hRv (Nat.le_refl _) (Nat.le_refl _)
  refine loop_e (x := (x2_5, M_6)) (P := fun (v : (Int32 × Int32 × Int32 × Mm)) => G K (0, 0) 7 [(0, .ref (K.2.1.1 + 34)), (1, .ref (K.2.1.1 + k1)), (2, .int v.1), (3, .int v.2.1), (4, .int v.2.2.1)] [] v.2.2.2) ?_ FU _ hx_7
  intro v rr_7 hf hn_7 hz_7
  obtain ⟨x2_1, x3_2, x4_3, M_4⟩ := v
  have hf : f_X7_comesLower_L7 k1 x2_1 x3_2 x4_3 M_4 = some rr_7 := hf
  show G K (0, 0) 7 [(0, .ref (K.2.1.1 + 34)), (1, .ref (K.2.1.1 + k1)), (2, .int x2_1), (3, .int x3_2), (4, .int x4_3)] [] M_4
  unfold f_X7_comesLower_L7 at hf
  refine g_iload 4 C (ckD_get k_X7_comesLower_0 6 rfl) rfl ?_
  refine g_bipush (v := (16 : Int32)) C (ckD_get k_X7_comesLower_0 7 rfl) (by decide) ?_
  refine g_icmp_ge C (ckD_get k_X7_comesLower_0 8 rfl) (fun c_8 => ?_) (fun c_8 => ?_)
  · have hf := if_t hf c_8
    refine G.sub [2] rfl ?_
    cases hf
    cases hz_7 _ rfl
    exact hE_7
  · have hf := if_f hf c_8
    refine g_aload_n 0 C (ckD_get k_X7_comesLower_0 9 rfl) rfl rfl ?_
    refine g_getR C (ckD_get k_X7_comesLower_0 10 rfl) fk_X7_20 T34 rfl ?_
    refine g_aload_n 0 C (ckD_get k_X7_comesLower_0 11 rfl) rfl rfl ?_
    refine g_getR C (ckD_get k_X7_comesLower_0 12 rfl) fk_X7_52 T34 rfl ?_
    refine g_iload_n 3 C (ckD_get k_X7_comesLower_0 13 rfl) rfl rfl ?_
    obtain ⟨M_10, hr_9, hf⟩ := bd_e hf
    refine n_cV [.ref (K.2.1.1 + 1), .int x3_2] [] C (ckD_get k_X7_comesLower_0 14 rfl) vk_X7_147 (t_X2_take C.tr _ (Or.inr rfl) _ _ _ hr_9) T36 rfl rfl (Nat.le_of_ble_eq_true rfl) (by decide) hB rfl ?_
    refine g_aload_n 1 C (ckD_get k_X7_comesLower_0 15 rfl) rfl rfl ?_
    refine g_aload_n 0 C (ckD_get k_X7_comesLower_0 16 rfl) rfl rfl ?_
    refine g_getR C (ckD_get k_X7_comesLower_0 17 rfl) fk_X7_20 T34 rfl ?_
    obtain ⟨M_11, hr_12, hf⟩ := bd_e hf
    have hcM_11 : G K (0, 0) 34 [(0, .ref (K.2.1.1 + 34)), (1, .ref (K.2.1.1 + k1)), (2, .int x2_1), (3, .int x3_2), (4, .int x4_3)] [] M_11 := by
      refine g_aload_n 0 C (ckD_get k_X7_comesLower_0 19 rfl) rfl rfl ?_
      refine g_getR C (ckD_get k_X7_comesLower_0 20 rfl) fk_X7_20 T34 rfl ?_
      obtain ⟨r_14, hr_13, hf⟩ := bd_e hf
      refine n_cV [] [] C (ckD_get k_X7_comesLower_0 21 rfl) vk_X7_157 (t_X2_area C.tr _ (Or.inr rfl) _ _ hr_13) T36 rfl rfl (Nat.le_of_ble_eq_true rfl) (by decide) hB rfl ?_
      refine g_istore (lv' := [(5, _), (0, _), (1, _), (2, _), (3, _), (4, _)]) C (ckD_get k_X7_comesLower_0 22 rfl) hL5 rfl ?_
      refine g_iload 0 C (ckD_get k_X7_comesLower_0 23 rfl) rfl ?_
      refine g_aload_n 1 C (ckD_get k_X7_comesLower_0 24 rfl) rfl rfl ?_
      obtain ⟨k_15, ek_15, hf⟩ := lt_e hf
      obtain ⟨hk_15, hf⟩ := gd_e hf
      refine g_getV C (ckD_get k_X7_comesLower_0 25 rfl) fk_X7_57 T34 rfl ?_
      refine topR ek_15 ?_
      refine g_getI C (ckD_get k_X7_comesLower_0 26 rfl) fk_X7_61 (LT_Fd hk_15) rfl ?_
      have hJ_74 : ∀ (p2_16 : Int32) (M_17 : Mm), f_X7_comesLower_J74 x3_2 x4_3 p2_16 M_17 = some rr_7 → G K (0, 0) 74 [(0, .ref (K.2.1.1 + 34)), (1, .ref (K.2.1.1 + k1)), (2, .int p2_16), (3, .int x3_2), (4, .int x4_3)] [] M_17 := by
        intro p2_16 M_17 hf
        unfold f_X7_comesLower_J74 at hf
        refine g_aload_n 0 C (ckD_get k_X7_comesLower_0 38 rfl) rfl rfl ?_
        refine g_iload_n 3 C (ckD_get k_X7_comesLower_0 39 rfl) rfl rfl ?_
        refine n_cV [.int x3_2] [] C (ckD_get k_X7_comesLower_1 0 rfl) vk_X7_161 (t_X7_nextTurned C.tr _ _ _ rfl) T34 rfl rfl (Nat.le_of_ble_eq_true rfl) (by decide) hB rfl ?_
        obtain ⟨x3_18, ex3_18, hf⟩ := lt_e hf
        refine topI ex3_18 ?_
        refine g_istore_n (lv' := [(3, _), (0, _), (1, _), (2, _), (4, _)]) C (ckD_get k_X7_comesLower_1 1 rfl) rfl hL3 rfl ?_
        refine g_iload_n 0 C (ckD_get k_X7_comesLower_1 2 rfl) rfl rfl ?_
        refine g_if_ne C (ckD_get k_X7_comesLower_1 3 rfl) (fun c_19 => ?_) (fun c_19 => ?_)
        · have hf := if_f hf c_19
          obtain ⟨x4_20, ex4_20, hf⟩ := lt_e hf
          refine g_iinc (lv' := [(4, _), (3, _), (0, _), (1, _), (2, _)]) 4 C (ckD_get k_X7_comesLower_1 5 rfl) rfl ex4_20 hL4 rfl ?_
          refine g_goto C (ckD_get k_X7_comesLower_1 6 rfl) ?_
          refine G.sub [2, 3, 4, 1, 0] rfl ?_
          cases hf
          exact hn_7 _ rfl
        · have hf := if_t hf c_19
          refine g_goto C (ckD_get k_X7_comesLower_1 4 rfl) ?_
          refine G.sub [3] rfl ?_
          cases hf
          cases hz_7 _ rfl
          exact hE_7
      refine g_icmp_ge C (ckD_get k_X7_comesLower_0 27 rfl) (fun c_21 => ?_) (fun c_21 => ?_)
      · have hf := if_t hf c_21
        refine G.sub [1, 2, 3, 4, 5] rfl ?_
        exact hJ_74 _ _ hf
      · have hf := if_f hf c_21
        refine g_aload_n 1 C (ckD_get k_X7_comesLower_0 28 rfl) rfl rfl ?_
        obtain ⟨k_22, ek_22, hf⟩ := lt_e hf
        obtain ⟨hk_22, hf⟩ := gd_e hf
        refine g_getV C (ckD_get k_X7_comesLower_0 29 rfl) fk_X7_57 T34 rfl ?_
        refine topR ek_22 ?_
        refine g_iload 0 C (ckD_get k_X7_comesLower_0 30 rfl) rfl ?_
        obtain ⟨M_23, eM_23, hf⟩ := lt_e hf
        refine g_putI C (ckD_get k_X7_comesLower_0 31 rfl) fk_X7_61 (LT_Fd hk_22) rfl ?_
        refine memI eM_23 ?_
        refine g_aload_n 1 C (ckD_get k_X7_comesLower_0 32 rfl) rfl rfl ?_
        obtain ⟨k_24, ek_24, hf⟩ := lt_e hf
        obtain ⟨hk_24, hf⟩ := gd_e hf
        refine g_getV C (ckD_get k_X7_comesLower_0 33 rfl) fk_X7_57 T34 rfl ?_
        refine topR ek_24 ?_
        refine g_iload_n 4 C (ckD_get k_X7_comesLower_0 34 rfl) rfl rfl ?_
        obtain ⟨M_25, eM_25, hf⟩ := lt_e hf
        refine g_putI C (ckD_get k_X7_comesLower_0 35 rfl) fk_X7_158 (LT_Fd hk_24) rfl ?_
        refine memI eM_25 ?_
        refine g_iconst (v := (1 : Int32)) C (ckD_get k_X7_comesLower_0 36 rfl) (by decide) ?_
        refine g_istore_n (lv' := [(2, _), (5, _), (0, _), (1, _), (3, _), (4, _)]) C (ckD_get k_X7_comesLower_0 37 rfl) rfl hL2 rfl ?_
        refine G.sub [2, 3, 0, 4, 5] rfl ?_
        exact hJ_74 _ _ hf
    rcases tl_e hr_12 with ⟨ht, hr_12⟩ | ⟨ht, hr_12⟩ | ⟨ht, hr_12⟩
    · exact n_cU [.ref (K.2.1.1 + 36)] [] C (ckD_get k_X7_comesLower_0 18 rfl) uk_X7_151_X4 (t_X4_lay C.tr _ ht _ (Or.inr rfl) _ _ hr_12) (T_Or ht) rfl rfl (Nat.le_of_ble_eq_true rfl) (by decide) hB rfl hcM_11
    · exact n_cU [.ref (K.2.1.1 + 36)] [] C (ckD_get k_X7_comesLower_0 18 rfl) uk_X7_151_X6 (t_X6_lay C.tr _ ht _ (Or.inr rfl) _ _ hr_12) (T_Ro ht) rfl rfl (Nat.le_of_ble_eq_true rfl) (by decide) hB rfl hcM_11
    · exact n_cU [.ref (K.2.1.1 + 36)] [] C (ckD_get k_X7_comesLower_0 18 rfl) uk_X7_151_X3 (t_X3_lay C.tr _ ht _ (Or.inr rfl) _ _ hr_12) (T_Ki ht) rfl rfl (Nat.le_of_ble_eq_true rfl) (by decide) hB rfl hcM_11

set_option maxRecDepth 20000 in
theorem k_X7_isDone_0 : ckD cX7_isDone [(0, .aload_n 0, 1, 1, 0), (1, .getfield 57, 3, 4, 0), (4, .getfield 61, 3, 7, 0), (7, .aload_n 0, 1, 8, 0), (8, .getfield 99, 3, 11, 0), (11, .if_icmp .ne 7, 3, 14, 18), (14, .iconst 1, 1, 15, 0), (15, .goto 4, 3, 18, 19), (18, .iconst 0, 1, 19, 0), (19, .ireturn, 1, 20, 0)] = true := by decide +kernel
def f_X7_isDone  (M : Mm) : Option Int32 := lt1 ((M.1 34 7).toNatClampNeg) fun k_1 => gd (decide (65 ≤ k_1 ∧ k_1 < 69)) <| if (M.1 k_1 0) = (M.1 34 10) then some (1 : Int32) else some (0 : Int32)
set_option maxRecDepth 100000 in
set_option maxHeartbeats 4000000 in
theorem t_X7_isDone {E : Ev} {l : Launch} (htr : l.stackTraces = false) (M : Mm) (r : Int32) (hf : f_X7_isDone M = some r) : CM E l 0 0 0 yX7_isDone cX7_isDone 1 (some .boolean) [.ref (E.1 + 34)] M (some (.int r)) M := by
  refine CM.of htr (by decide +kernel) (Nat.le_of_ble_eq_true rfl) ?_
  intro K hE hL hl hR0 C hr hRv
  subst hE
  subst hl
  have C : Cx K cX7_isDone RX7 0 := C
  have hB : (0 : Nat) ≤ K.1.R.cells ∧ 0 ≤ K.1.R.slots := ⟨Nat.zero_le _, Nat.zero_le _⟩
  show G K (0, 0) 0 [(0, .ref (K.2.1.1 + 34))] [] M
  unfold f_X7_isDone at hf
  refine g_aload_n 0 C (ckD_get k_X7_isDone_0 0 rfl) rfl rfl ?_
  obtain ⟨k_1, ek_1, hf⟩ := lt_e hf
  obtain ⟨hk_1, hf⟩ := gd_e hf
  refine g_getV C (ckD_get k_X7_isDone_0 1 rfl) fk_X7_57 T34 rfl ?_
  refine topR ek_1 ?_
  refine g_getI C (ckD_get k_X7_isDone_0 2 rfl) fk_X7_61 (LT_Fd hk_1) rfl ?_
  refine g_aload_n 0 C (ckD_get k_X7_isDone_0 3 rfl) rfl rfl ?_
  refine g_getI C (ckD_get k_X7_isDone_0 4 rfl) fk_X7_99 T34 rfl ?_
  refine g_icmp_ne C (ckD_get k_X7_isDone_0 5 rfl) (fun c_2 => ?_) (fun c_2 => ?_)
  · have hf := if_f hf c_2
    refine g_iconst (v := (0 : Int32)) C (ckD_get k_X7_isDone_0 8 rfl) (by decide) ?_
    cases hf
    exact g_zret C (ckD_get k_X7_isDone_0 9 rfl) hr rfl hRv (Nat.le_refl _) (Nat.le_refl _)
  · have hf := if_t hf c_2
    refine g_iconst (v := (1 : Int32)) C (ckD_get k_X7_isDone_0 6 rfl) (by decide) ?_
    refine g_goto C (ckD_get k_X7_isDone_0 7 rfl) ?_
    cases hf
    exact g_zret C (ckD_get k_X7_isDone_0 9 rfl) hr rfl hRv (Nat.le_refl _) (Nat.le_refl _)

set_option maxRecDepth 20000 in
theorem k_X9_pack_0 : ckD cX9_pack [(0, .ldc2_w 290, 3, 3, 0), (3, .lstore_n 3, 1, 4, 0), (4, .iconst 0, 1, 5, 0), (5, .istore 5, 2, 7, 0), (7, .iload 5, 2, 9, 0), (9, .bipush 16, 2, 11, 0), (11, .if_icmp .ge 45, 3, 14, 56), (14, .iload_n 1, 1, 15, 0), (15, .iload 5, 2, 17, 0), (17, .iadd, 1, 18, 0), (18, .iload_n 2, 1, 19, 0), (19, .if_icmp .ge 37, 3, 22, 56), (22, .lload_n 3, 1, 23, 0), (23, .ldc2_w 354, 3, 26, 0), (26, .iconst 4, 1, 27, 0), (27, .iload 5, 2, 29, 0), (29, .imul, 1, 30, 0), (30, .lshl, 1, 31, 0), (31, .ldc2_w 290, 3, 34, 0), (34, .lxor, 1, 35, 0), (35, .land, 1, 36, 0), (36, .aload_n 0, 1, 37, 0), (37, .iload_n 1, 1, 38, 0), (38, .iload 5, 2, 40, 0), (40, .iadd, 1, 41, 0), (41, .iaload, 1, 42, 0), (42, .i2l, 1, 43, 0), (43, .iconst 4, 1, 44, 0), (44, .iload 5, 2, 46, 0), (46, .imul, 1, 47, 0), (47, .lshl, 1, 48, 0), (48, .lor, 1, 49, 0), (49, .lstore_n 3, 1, 50, 0), (50, .iinc 5 1, 3, 53, 0), (53, .goto (-46), 3, 56, 7), (56, .lload_n 3, 1, 57, 0), (57, .lreturn, 1, 58, 0)] = true := by decide +kernel
def f_X9_pack_A7 (x3_3 : Int64) : Option Int64 := some x3_3
def f_X9_pack_L7 (k0 : Nat) (n0 : Nat) (a1 : Int32) (a2 : Int32) (M : Mm) (x3_1 : Int64) (x5_2 : Int32) : Option ((Int64 × Int32) ⊕ Int64) := if (16 : Int32) ≤ x5_2 then some (.inr x3_1) else if a2 ≤ (a1 + x5_2) then some (.inr x3_1) else rdI n0 M k0 (a1 + x5_2) fun v_6 => lt1 ((x3_1 &&& (((15 : Int64) <<< ((((4 : Int32) * x5_2)).toInt64 &&& 63)) ^^^ (-1 : Int64))) ||| (((v_6).toInt64) <<< ((((4 : Int32) * x5_2)).toInt64 &&& 63))) fun x3_8 => lt1 (x5_2 + 1) fun x5_9 => some (.inl (x3_8, x5_9))
def f_X9_pack (n0 : Nat) (k0 : Nat) (a1 : Int32) (a2 : Int32) (M : Mm) : Option Int64 := (loop (fun v => f_X9_pack_L7 k0 n0 a1 a2 M v.1 v.2) FU ((-1 : Int64), (0 : Int32))).bind fun z => f_X9_pack_A7 z
set_option maxRecDepth 100000 in
set_option maxHeartbeats 4000000 in
theorem t_X9_pack {E : Ev} {l : Launch} (htr : l.stackTraces = false) (n0 : Nat) (k0 : Nat) (hk0 : LT[k0]? = some (0, n0, [])) (a1 : Int32) (a2 : Int32) (M : Mm) (r : Int64) (hf : f_X9_pack n0 k0 a1 a2 M = some r) : CM E l 0 0 0 yX9_pack cX9_pack 6 (some .long) [.ref (E.1 + k0), .int a1, .int a2] M (some (.long r)) M := by
  refine CM.of htr (by decide +kernel) (Nat.le_of_ble_eq_true rfl) ?_
  intro K hE hL hl hR0 C hr hRv
  subst hE
  subst hl
  have C : Cx K cX9_pack RX9 0 := C
  have hB : (0 : Nat) ≤ K.1.R.cells ∧ 0 ≤ K.1.R.slots := ⟨Nat.zero_le _, Nat.zero_le _⟩
  have hL4 : 4 < K.2.2.1 := by rw [hL]; decide
  have hL5 : 5 < K.2.2.1 := by rw [hL]; decide
  show G K (0, 0) 0 [(0, .ref (K.2.1.1 + k0)), (1, .int a1), (2, .int a2)] [] M
  unfold f_X9_pack at hf
  refine g_ldc2 C (ckD_get k_X9_pack_0 0 rfl) q816 ?_
  refine g_lstore_n (lv' := [(3, _), (0, _), (1, _), (2, _)]) C (ckD_get k_X9_pack_0 1 rfl) rfl hL4 rfl ?_
  refine g_iconst (v := (0 : Int32)) C (ckD_get k_X9_pack_0 2 rfl) (by decide) ?_
  refine g_istore (lv' := [(5, _), (3, _), (0, _), (1, _), (2, _)]) C (ckD_get k_X9_pack_0 3 rfl) hL5 rfl ?_
  refine G.sub [2, 3, 4, 1, 0] rfl ?_
  obtain ⟨x3_3, hx_7, hf⟩ := bd_e hf
  have hE_7 : G K (0, 0) 56 [(3, .long x3_3)] [] M := by
    have hf : f_X9_pack_A7 x3_3 = some r := hf
    unfold f_X9_pack_A7 at hf
    refine g_lload_n 0 C (ckD_get k_X9_pack_0 35 rfl) rfl rfl ?_
    cases hf
    exact g_lret C (ckD_get k_X9_pack_0 36 rfl) hr hRv (Nat.le_refl _) (Nat.le_refl _)
  refine loop_e (x := x3_3) (P := fun (v : (Int64 × Int32)) => G K (0, 0) 7 [(0, .ref (K.2.1.1 + k0)), (1, .int a1), (2, .int a2), (3, .long v.1), (5, .int v.2)] [] M) ?_ FU _ hx_7
  intro v rr_7 hf hn_7 hz_7
  obtain ⟨x3_1, x5_2⟩ := v
  have hf : f_X9_pack_L7 k0 n0 a1 a2 M x3_1 x5_2 = some rr_7 := hf
  show G K (0, 0) 7 [(0, .ref (K.2.1.1 + k0)), (1, .int a1), (2, .int a2), (3, .long x3_1), (5, .int x5_2)] [] M
  unfold f_X9_pack_L7 at hf
  refine g_iload 4 C (ckD_get k_X9_pack_0 4 rfl) rfl ?_
  refine g_bipush (v := (16 : Int32)) C (ckD_get k_X9_pack_0 5 rfl) (by decide) ?_
  refine g_icmp_ge C (ckD_get k_X9_pack_0 6 rfl) (fun c_4 => ?_) (fun c_4 => ?_)
  · have hf := if_t hf c_4
    refine G.sub [3] rfl ?_
    cases hf
    cases hz_7 _ rfl
    exact hE_7
  · have hf := if_f hf c_4
    refine g_iload_n 1 C (ckD_get k_X9_pack_0 7 rfl) rfl rfl ?_
    refine g_iload 4 C (ckD_get k_X9_pack_0 8 rfl) rfl ?_
    refine g_iadd C (ckD_get k_X9_pack_0 9 rfl) ?_
    refine g_iload_n 2 C (ckD_get k_X9_pack_0 10 rfl) rfl rfl ?_
    refine g_icmp_ge C (ckD_get k_X9_pack_0 11 rfl) (fun c_5 => ?_) (fun c_5 => ?_)
    · have hf := if_t hf c_5
      refine G.sub [3] rfl ?_
      cases hf
      cases hz_7 _ rfl
      exact hE_7
    · have hf := if_f hf c_5
      refine g_lload_n 3 C (ckD_get k_X9_pack_0 12 rfl) rfl rfl ?_
      refine g_ldc2 C (ckD_get k_X9_pack_0 13 rfl) q487 ?_
      refine g_iconst (v := (4 : Int32)) C (ckD_get k_X9_pack_0 14 rfl) (by decide) ?_
      refine g_iload 4 C (ckD_get k_X9_pack_0 15 rfl) rfl ?_
      refine g_imul C (ckD_get k_X9_pack_0 16 rfl) ?_
      refine g_lshl C (ckD_get k_X9_pack_0 17 rfl) ?_
      refine g_ldc2 C (ckD_get k_X9_pack_0 18 rfl) q816 ?_
      refine g_lxor C (ckD_get k_X9_pack_0 19 rfl) ?_
      refine g_land C (ckD_get k_X9_pack_0 20 rfl) ?_
      refine g_aload_n 0 C (ckD_get k_X9_pack_0 21 rfl) rfl rfl ?_
      refine g_iload_n 1 C (ckD_get k_X9_pack_0 22 rfl) rfl rfl ?_
      refine g_iload 4 C (ckD_get k_X9_pack_0 23 rfl) rfl ?_
      refine g_iadd C (ckD_get k_X9_pack_0 24 rfl) ?_
      obtain ⟨v_6, hi_7, ev_6, hf⟩ := rdI_e hf
      refine n_iald C (ckD_get k_X9_pack_0 25 rfl) hk0 hi_7 ev_6 ?_
      refine g_i2l C (ckD_get k_X9_pack_0 26 rfl) ?_
      refine g_iconst (v := (4 : Int32)) C (ckD_get k_X9_pack_0 27 rfl) (by decide) ?_
      refine g_iload 4 C (ckD_get k_X9_pack_0 28 rfl) rfl ?_
      refine g_imul C (ckD_get k_X9_pack_0 29 rfl) ?_
      refine g_lshl C (ckD_get k_X9_pack_0 30 rfl) ?_
      refine g_lor C (ckD_get k_X9_pack_0 31 rfl) ?_
      obtain ⟨x3_8, ex3_8, hf⟩ := lt_e hf
      refine topL ex3_8 ?_
      refine g_lstore_n (lv' := [(3, _), (0, _), (1, _), (2, _), (5, _)]) C (ckD_get k_X9_pack_0 32 rfl) rfl hL4 rfl ?_
      obtain ⟨x5_9, ex5_9, hf⟩ := lt_e hf
      refine g_iinc (lv' := [(5, _), (3, _), (0, _), (1, _), (2, _)]) 4 C (ckD_get k_X9_pack_0 33 rfl) rfl ex5_9 hL5 rfl ?_
      refine g_goto C (ckD_get k_X9_pack_0 34 rfl) ?_
      refine G.sub [2, 3, 4, 1, 0] rfl ?_
      cases hf
      exact hn_7 _ rfl

set_option maxRecDepth 20000 in
theorem k_X7_tryRow_0 : ckD cX7_tryRow [(0, .aload_n 0, 1, 1, 0), (1, .invokevirtual 111, 3, 4, 0), (4, .ifCond .eq 4, 3, 7, 8), (7, .return_, 1, 8, 0), (8, .aload_n 0, 1, 9, 0), (9, .getfield 48, 3, 12, 0), (12, .aload_n 0, 1, 13, 0), (13, .getfield 34, 3, 16, 0), (16, .aload_n 0, 1, 17, 0), (17, .getfield 52, 3, 20, 0), (20, .aload_n 0, 1, 21, 0), (21, .getfield 93, 3, 24, 0), (24, .iconst 0, 1, 25, 0), (25, .invokevirtual 199, 3, 28, 0), (28, .aload_n 0, 1, 29, 0), (29, .getfield 48, 3, 32, 0), (32, .invokevirtual 203, 3, 35, 0), (35, .istore_n 1, 1, 36, 0), (36, .iload_n 1, 1, 37, 0), (37, .aload_n 0, 1, 38, 0), (38, .getfield 57, 3, 41, 0), (41, .getfield 61, 3, 44, 0), (44, .if_icmp .ge 62, 3, 47, 106), (47, .aload_n 0, 1, 48, 0), (48, .getfield 57, 3, 51, 0), (51, .iload_n 1, 1, 52, 0), (52, .putfield 61, 3, 55, 0), (55, .aload_n 0, 1, 56, 0), (56, .getfield 57, 3, 59, 0), (59, .aload_n 0, 1, 60, 0), (60, .getfield 34, 3, 63, 0), (63, .getfield 196, 3, 66, 0), (66, .iconst 0, 1, 67, 0), (67, .aload_n 0, 1, 68, 0), (68, .getfield 34, 3, 71, 0), (71, .getfield 179, 3, 74, 0), (74, .invokestatic 126, 3, 77, 0), (77, .putfield 130, 3, 80, 0), (80, .aload_n 0, 1, 81, 0), (81, .getfield 57, 3, 84, 0)] = true := by decide +kernel
set_option maxRecDepth 20000 in
theorem k_X7_tryRow_1 : ckD cX7_tryRow [(84, .aload_n 0, 1, 85, 0), (85, .getfield 34, 3, 88, 0), (88, .getfield 196, 3, 91, 0), (91, .bipush 16, 2, 93, 0), (93, .aload_n 0, 1, 94, 0), (94, .getfield 34, 3, 97, 0), (97, .getfield 179, 3, 100, 0), (100, .invokestatic 126, 3, 103, 0), (103, .putfield 137, 3, 106, 0), (106, .return_, 1, 107, 0)] = true := by decide +kernel
def f_X7_tryRow  (M : Mm) : Option Mm := (f_X7_isDone M).bind fun r_2 => if r_2 = 0 then (f_X5_draw 59 48 (M.1 34 9) (0 : Int32) M).bind fun M_5 => (f_X5_leastArea 59 M_5).bind fun r_7 => lt1 ((M_5.1 34 7).toNatClampNeg) fun k_8 => gd (decide (65 ≤ k_8 ∧ k_8 < 69)) <| if (M_5.1 k_8 0) ≤ r_7 then some M_5 else lt1 ((M_5.1 34 7).toNatClampNeg) fun k_10 => gd (decide (65 ≤ k_10 ∧ k_10 < 69)) <| lt1 (wi M_5 k_10 0 r_7) fun M_11 => lt1 ((M_11.1 34 7).toNatClampNeg) fun k_12 => gd (decide (65 ≤ k_12 ∧ k_12 < 69)) <| (f_X9_pack 23 49 (0 : Int32) (M_11.1 48 5) M_11).bind fun r_14 => lt1 (wl M_11 k_12 2 r_14) fun M_15 => lt1 ((M_15.1 34 7).toNatClampNeg) fun k_16 => gd (decide (65 ≤ k_16 ∧ k_16 < 69)) <| (f_X9_pack 23 49 (16 : Int32) (M_15.1 48 5) M_15).bind fun r_18 => lt1 (wl M_15 k_16 3 r_18) fun M_19 => some M_19 else some M
set_option maxRecDepth 100000 in
set_option maxHeartbeats 4000000 in
theorem t_X7_tryRow {E : Ev} {l : Launch} (htr : l.stackTraces = false) (M : Mm) (r : Mm) (hf : f_X7_tryRow M = some r) : CM E l 3 0 0 yX7_tryRow cX7_tryRow 2 none [.ref (E.1 + 34)] M none r := by
  refine CM.of htr (by decide +kernel) (Nat.le_of_ble_eq_true rfl) ?_
  intro K hE hL hl hR0 C hr hRv
  subst hE
  subst hl
  have C : Cx K cX7_tryRow RX7 3 := C
  have hB : (0 : Nat) ≤ K.1.R.cells ∧ 0 ≤ K.1.R.slots := ⟨Nat.zero_le _, Nat.zero_le _⟩
  have hL1 : 1 < K.2.2.1 := by rw [hL]; decide
  show G K (0, 0) 0 [(0, .ref (K.2.1.1 + 34))] [] M
  unfold f_X7_tryRow at hf
  refine g_aload_n 0 C (ckD_get k_X7_tryRow_0 0 rfl) rfl rfl ?_
  obtain ⟨r_2, hr_1, hf⟩ := bd_e hf
  refine n_cV [] [] C (ckD_get k_X7_tryRow_0 1 rfl) vk_X7_111 (t_X7_isDone C.tr _ _ hr_1) T34 rfl rfl (Nat.le_of_ble_eq_true rfl) (by decide) hB rfl ?_
  refine g_if_eq C (ckD_get k_X7_tryRow_0 2 rfl) (fun c_3 => ?_) (fun c_3 => ?_)
  · have hf := if_t hf c_3
    refine g_aload_n 0 C (ckD_get k_X7_tryRow_0 4 rfl) rfl rfl ?_
    refine g_getR C (ckD_get k_X7_tryRow_0 5 rfl) fk_X7_48 T34 rfl ?_
    refine g_aload_n 0 C (ckD_get k_X7_tryRow_0 6 rfl) rfl rfl ?_
    refine g_getR C (ckD_get k_X7_tryRow_0 7 rfl) fk_X7_34 T34 rfl ?_
    refine g_aload_n 0 C (ckD_get k_X7_tryRow_0 8 rfl) rfl rfl ?_
    refine g_getR C (ckD_get k_X7_tryRow_0 9 rfl) fk_X7_52 T34 rfl ?_
    refine g_aload_n 0 C (ckD_get k_X7_tryRow_0 10 rfl) rfl rfl ?_
    refine g_getI C (ckD_get k_X7_tryRow_0 11 rfl) fk_X7_93 T34 rfl ?_
    refine g_iconst (v := (0 : Int32)) C (ckD_get k_X7_tryRow_0 12 rfl) (by decide) ?_
    obtain ⟨M_5, hr_4, hf⟩ := bd_e hf
    refine n_cV [.ref (K.2.1.1 + 48), .ref (K.2.1.1 + 1), .int (M.1 34 9), .int (0 : Int32)] [] C (ckD_get k_X7_tryRow_0 13 rfl) vk_X7_199 (t_X5_draw C.tr _ (Or.inr rfl) _ (Or.inr rfl) _ _ _ _ hr_4) T59 rfl rfl (Nat.le_of_ble_eq_true rfl) (by decide) hB rfl ?_
    refine g_aload_n 0 C (ckD_get k_X7_tryRow_0 14 rfl) rfl rfl ?_
    refine g_getR C (ckD_get k_X7_tryRow_0 15 rfl) fk_X7_48 T34 rfl ?_
    obtain ⟨r_7, hr_6, hf⟩ := bd_e hf
    refine n_cV [] [] C (ckD_get k_X7_tryRow_0 16 rfl) vk_X7_203 (t_X5_leastArea C.tr _ (Or.inr rfl) _ _ hr_6) T59 rfl rfl (Nat.le_of_ble_eq_true rfl) (by decide) hB rfl ?_
    refine g_istore_n (lv' := [(1, _), (0, _)]) C (ckD_get k_X7_tryRow_0 17 rfl) rfl hL1 rfl ?_
    refine g_iload_n 0 C (ckD_get k_X7_tryRow_0 18 rfl) rfl rfl ?_
    refine g_aload_n 1 C (ckD_get k_X7_tryRow_0 19 rfl) rfl rfl ?_
    obtain ⟨k_8, ek_8, hf⟩ := lt_e hf
    obtain ⟨hk_8, hf⟩ := gd_e hf
    refine g_getV C (ckD_get k_X7_tryRow_0 20 rfl) fk_X7_57 T34 rfl ?_
    refine topR ek_8 ?_
    refine g_getI C (ckD_get k_X7_tryRow_0 21 rfl) fk_X7_61 (LT_Fd hk_8) rfl ?_
    refine g_icmp_ge C (ckD_get k_X7_tryRow_0 22 rfl) (fun c_9 => ?_) (fun c_9 => ?_)
    · have hf := if_t hf c_9
      cases hf
      exact g_vret C (ckD_get k_X7_tryRow_1 9 rfl) hr hRv (Nat.le_refl _) (Nat.le_refl _)
    · have hf := if_f hf c_9
      refine g_aload_n 1 C (ckD_get k_X7_tryRow_0 23 rfl) rfl rfl ?_
      obtain ⟨k_10, ek_10, hf⟩ := lt_e hf
      obtain ⟨hk_10, hf⟩ := gd_e hf
      refine g_getV C (ckD_get k_X7_tryRow_0 24 rfl) fk_X7_57 T34 rfl ?_
      refine topR ek_10 ?_
      refine g_iload_n 0 C (ckD_get k_X7_tryRow_0 25 rfl) rfl rfl ?_
      obtain ⟨M_11, eM_11, hf⟩ := lt_e hf
      refine g_putI C (ckD_get k_X7_tryRow_0 26 rfl) fk_X7_61 (LT_Fd hk_10) rfl ?_
      refine memI eM_11 ?_
      refine g_aload_n 1 C (ckD_get k_X7_tryRow_0 27 rfl) rfl rfl ?_
      obtain ⟨k_12, ek_12, hf⟩ := lt_e hf
      obtain ⟨hk_12, hf⟩ := gd_e hf
      refine g_getV C (ckD_get k_X7_tryRow_0 28 rfl) fk_X7_57 T34 rfl ?_
      refine topR ek_12 ?_
      refine g_aload_n 1 C (ckD_get k_X7_tryRow_0 29 rfl) rfl rfl ?_
      refine g_getR C (ckD_get k_X7_tryRow_0 30 rfl) fk_X7_34 T34 rfl ?_
      refine g_getR C (ckD_get k_X7_tryRow_0 31 rfl) fk_X7_196 T48 rfl ?_
      refine g_iconst (v := (0 : Int32)) C (ckD_get k_X7_tryRow_0 32 rfl) (by decide) ?_
      refine g_aload_n 1 C (ckD_get k_X7_tryRow_0 33 rfl) rfl rfl ?_
      refine g_getR C (ckD_get k_X7_tryRow_0 34 rfl) fk_X7_34 T34 rfl ?_
      refine g_getI C (ckD_get k_X7_tryRow_0 35 rfl) fk_X7_179 T48 rfl ?_
      obtain ⟨r_14, hr_13, hf⟩ := bd_e hf
      refine n_cN [.ref (K.2.1.1 + 49), .int (0 : Int32), .int (M_11.1 48 5)] [.ref (K.2.1.1 + k_12)] C (ckD_get k_X7_tryRow_0 36 rfl) nk_X7_126 (t_X9_pack C.tr _ _ T49 _ _ _ _ hr_13) rfl rfl (Nat.le_of_ble_eq_true rfl) (by decide) hB rfl ?_
      obtain ⟨M_15, eM_15, hf⟩ := lt_e hf
      refine g_putL C (ckD_get k_X7_tryRow_0 37 rfl) fk_X7_130 (LT_Fd hk_12) rfl ?_
      refine memI eM_15 ?_
      refine g_aload_n 1 C (ckD_get k_X7_tryRow_0 38 rfl) rfl rfl ?_
      obtain ⟨k_16, ek_16, hf⟩ := lt_e hf
      obtain ⟨hk_16, hf⟩ := gd_e hf
      refine g_getV C (ckD_get k_X7_tryRow_0 39 rfl) fk_X7_57 T34 rfl ?_
      refine topR ek_16 ?_
      refine g_aload_n 1 C (ckD_get k_X7_tryRow_1 0 rfl) rfl rfl ?_
      refine g_getR C (ckD_get k_X7_tryRow_1 1 rfl) fk_X7_34 T34 rfl ?_
      refine g_getR C (ckD_get k_X7_tryRow_1 2 rfl) fk_X7_196 T48 rfl ?_
      refine g_bipush (v := (16 : Int32)) C (ckD_get k_X7_tryRow_1 3 rfl) (by decide) ?_
      refine g_aload_n 1 C (ckD_get k_X7_tryRow_1 4 rfl) rfl rfl ?_
      refine g_getR C (ckD_get k_X7_tryRow_1 5 rfl) fk_X7_34 T34 rfl ?_
      refine g_getI C (ckD_get k_X7_tryRow_1 6 rfl) fk_X7_179 T48 rfl ?_
      obtain ⟨r_18, hr_17, hf⟩ := bd_e hf
      refine n_cN [.ref (K.2.1.1 + 49), .int (16 : Int32), .int (M_15.1 48 5)] [.ref (K.2.1.1 + k_16)] C (ckD_get k_X7_tryRow_1 7 rfl) nk_X7_126 (t_X9_pack C.tr _ _ T49 _ _ _ _ hr_17) rfl rfl (Nat.le_of_ble_eq_true rfl) (by decide) hB rfl ?_
      obtain ⟨M_19, eM_19, hf⟩ := lt_e hf
      refine g_putL C (ckD_get k_X7_tryRow_1 8 rfl) fk_X7_137 (LT_Fd hk_16) rfl ?_
      refine memI eM_19 ?_
      cases hf
      exact g_vret C (ckD_get k_X7_tryRow_1 9 rfl) hr hRv (Nat.le_refl _) (Nat.le_refl _)
  · have hf := if_f hf c_3
    cases hf
    exact g_vret C (ckD_get k_X7_tryRow_0 3 rfl) hr hRv (Nat.le_refl _) (Nat.le_refl _)

set_option maxRecDepth 20000 in
theorem k_X7_extend_0 : ckD cX7_extend [(0, .iload_n 1, 1, 1, 0), (1, .aload_n 0, 1, 2, 0), (2, .getfield 34, 3, 5, 0), (5, .getfield 179, 3, 8, 0), (8, .if_icmp .lt 8, 3, 11, 16), (11, .aload_n 0, 1, 12, 0), (12, .invokevirtual 190, 3, 15, 0), (15, .return_, 1, 16, 0), (16, .aload_n 0, 1, 17, 0), (17, .getfield 34, 3, 20, 0), (20, .getfield 179, 3, 23, 0), (23, .iconst 1, 1, 24, 0), (24, .isub, 1, 25, 0), (25, .iload_n 1, 1, 26, 0), (26, .isub, 1, 27, 0), (27, .istore 4, 2, 29, 0), (29, .iconst 0, 1, 30, 0), (30, .istore 5, 2, 32, 0), (32, .iload 5, 2, 34, 0), (34, .aload_n 0, 1, 35, 0), (35, .getfield 88, 3, 38, 0), (38, .if_icmp .ge 51, 3, 41, 89), (41, .iload_n 3, 1, 42, 0), (42, .iload 4, 2, 44, 0), (44, .if_icmp .gt 45, 3, 47, 89), (47, .iload_n 2, 1, 48, 0), (48, .iload 5, 2, 50, 0), (50, .invokestatic 193, 3, 53, 0), (53, .ifCond .ne 30, 3, 56, 83), (56, .aload_n 0, 1, 57, 0), (57, .getfield 34, 3, 60, 0), (60, .getfield 196, 3, 63, 0), (63, .iload_n 1, 1, 64, 0), (64, .iload 5, 2, 66, 0), (66, .iastore, 1, 67, 0), (67, .aload_n 0, 1, 68, 0), (68, .iload_n 1, 1, 69, 0), (69, .iconst 1, 1, 70, 0), (70, .iadd, 1, 71, 0), (71, .iload_n 2, 1, 72, 0)] = true := by decide +kernel
set_option maxRecDepth 20000 in
theorem k_X7_extend_1 : ckD cX7_extend [(72, .iconst 1, 1, 73, 0), (73, .iload 5, 2, 75, 0), (75, .ishl, 1, 76, 0), (76, .ior, 1, 77, 0), (77, .iload_n 3, 1, 78, 0), (78, .iconst 1, 1, 79, 0), (79, .iadd, 1, 80, 0), (80, .invokevirtual 182, 3, 83, 0), (83, .iinc 5 1, 3, 86, 0), (86, .goto (-54), 3, 89, 32), (89, .bipush 12, 2, 91, 0), (91, .istore 5, 2, 93, 0), (93, .iload 5, 2, 95, 0), (95, .bipush 13, 2, 97, 0), (97, .if_icmp .gt 52, 3, 100, 149), (100, .iload_n 3, 1, 101, 0), (101, .iconst 1, 1, 102, 0), (102, .if_icmp .le 47, 3, 105, 149), (105, .aload_n 0, 1, 106, 0), (106, .getfield 34, 3, 109, 0), (109, .getfield 196, 3, 112, 0), (112, .iload_n 1, 1, 113, 0), (113, .iconst 1, 1, 114, 0), (114, .isub, 1, 115, 0), (115, .iaload, 1, 116, 0), (116, .iload 5, 2, 118, 0), (118, .if_icmp .eq 25, 3, 121, 143), (121, .aload_n 0, 1, 122, 0), (122, .getfield 34, 3, 125, 0), (125, .getfield 196, 3, 128, 0), (128, .iload_n 1, 1, 129, 0), (129, .iload 5, 2, 131, 0), (131, .iastore, 1, 132, 0), (132, .aload_n 0, 1, 133, 0), (133, .iload_n 1, 1, 134, 0), (134, .iconst 1, 1, 135, 0), (135, .iadd, 1, 136, 0), (136, .iload_n 2, 1, 137, 0), (137, .iload_n 3, 1, 138, 0), (138, .iconst 1, 1, 139, 0)] = true := by decide +kernel
set_option maxRecDepth 20000 in
theorem k_X7_extend_2 : ckD cX7_extend [(139, .isub, 1, 140, 0), (140, .invokevirtual 182, 3, 143, 0), (143, .iinc 5 1, 3, 146, 0), (146, .goto (-53), 3, 149, 93), (149, .return_, 1, 150, 0)] = true := by decide +kernel
def f_X7_extend_A93 (M_8 : Mm) : Option Mm := some M_8
def f_X7_extend_J143 (x5_6 : Int32) (M_13 : Mm) : Option ((Int32 × Mm) ⊕ Mm) := lt1 (x5_6 + 1) fun x5_14 => some (.inl (x5_14, M_13))
def f_X7_extend_L93 (a1 : Int32) (a2 : Int32) (a3 : Int32) (F : Int32 → Int32 → Int32 → Mm → Option Mm) (x5_6 : Int32) (M_7 : Mm) : Option ((Int32 × Mm) ⊕ Mm) := if (13 : Int32) < x5_6 then some (.inr M_7) else if a3 ≤ (1 : Int32) then some (.inr M_7) else rdI 23 M_7 49 (a1 - (1 : Int32)) fun v_11 => if v_11 = x5_6 then f_X7_extend_J143 x5_6 M_7 else wrI 23 M_7 49 a1 x5_6 fun M_16 => (F (a1 + (1 : Int32)) a2 (a3 - (1 : Int32)) M_16).bind fun M_19 => f_X7_extend_J143 x5_6 M_19
def f_X7_extend_A32 (a1 : Int32) (a2 : Int32) (a3 : Int32) (F : Int32 → Int32 → Int32 → Mm → Option Mm) (M_5 : Mm) : Option Mm := (loop (fun v => f_X7_extend_L93 a1 a2 a3 F v.1 v.2) FU ((12 : Int32), M_5)).bind fun z => f_X7_extend_A93 z
def f_X7_extend_J83 (x5_3 : Int32) (M_22 : Mm) : Option ((Int32 × Mm) ⊕ Mm) := lt1 (x5_3 + 1) fun x5_23 => some (.inl (x5_23, M_22))
def f_X7_extend_L32 (a1 : Int32) (a2 : Int32) (a3 : Int32) (F : Int32 → Int32 → Int32 → Mm → Option Mm) (x4_2 : Int32) (x5_3 : Int32) (M_4 : Mm) : Option ((Int32 × Mm) ⊕ Mm) := if (M_4.1 34 8) ≤ x5_3 then some (.inr M_4) else if x4_2 < a3 then some (.inr M_4) else if (f_X9_bitOf a2 x5_3) = 0 then wrI 23 M_4 49 a1 x5_3 fun M_25 => (F (a1 + (1 : Int32)) (a2 ||| ((1 : Int32) <<< (x5_3 &&& 31))) (a3 + (1 : Int32)) M_25).bind fun M_28 => f_X7_extend_J83 x5_3 M_28 else f_X7_extend_J83 x5_3 M_4
def f_X7_extend_B (F : Int32 → Int32 → Int32 → Mm → Option Mm) (a1 : Int32) (a2 : Int32) (a3 : Int32) (M : Mm) : Option Mm := if a1 < (M.1 48 5) then lt1 (((M.1 48 5) - (1 : Int32)) - a1) fun x4_2 => (loop (fun v => f_X7_extend_L32 a1 a2 a3 F x4_2 v.1 v.2) FU ((0 : Int32), M)).bind fun z => f_X7_extend_A32 a1 a2 a3 F z else (f_X7_tryRow M).bind fun M_30 => some M_30
def f_X7_extend : Nat → Int32 → Int32 → Int32 → Mm → Option Mm
  | 0 => fun _ _ _ _ => none
  | n + 1 => f_X7_extend_B (f_X7_extend n)
set_option maxRecDepth 100000 in
set_option maxHeartbeats 4000000 in
theorem t_X7_extend {E : Ev} {l : Launch} (htr : l.stackTraces = false) : ∀ (n : Nat) (a1 : Int32) (a2 : Int32) (a3 : Int32) (M : Mm) (r : Mm), f_X7_extend n a1 a2 a3 M = some r → CM E l (5 + 1 * n) 0 0 yX7_extend cX7_extend 6 none [.ref (E.1 + 34), .int a1, .int a2, .int a3] M none r := by
  intro n
  induction n with
  | zero => intro a1 a2 a3 M r hf; cases hf
  | succ n ih =>
    intro a1 a2 a3 M r hf
    have hf : f_X7_extend_B (f_X7_extend n) a1 a2 a3 M = some r := hf
    generalize f_X7_extend n = F at hf ih
    refine CM.of htr (by decide +kernel) (Nat.le_of_ble_eq_true rfl) ?_
    intro K hE hL hl hR0 C hr hRv
    subst hE
    subst hl
    have C : Cx K cX7_extend RX7 (5 + 1 * (n + 1)) := C
    have hB : (0 : Nat) ≤ K.1.R.cells ∧ 0 ≤ K.1.R.slots := ⟨Nat.zero_le _, Nat.zero_le _⟩
    have hL4 : 4 < K.2.2.1 := by rw [hL]; decide
    have hL5 : 5 < K.2.2.1 := by rw [hL]; decide
    show G K (0, 0) 0 [(0, .ref (K.2.1.1 + 34)), (1, .int a1), (2, .int a2), (3, .int a3)] [] M
    unfold f_X7_extend_B at hf
    refine g_iload_n 1 C (ckD_get k_X7_extend_0 0 rfl) rfl rfl ?_
    refine g_aload_n 0 C (ckD_get k_X7_extend_0 1 rfl) rfl rfl ?_
    refine g_getR C (ckD_get k_X7_extend_0 2 rfl) fk_X7_34 T34 rfl ?_
    refine g_getI C (ckD_get k_X7_extend_0 3 rfl) fk_X7_179 T48 rfl ?_
    refine g_icmp_lt C (ckD_get k_X7_extend_0 4 rfl) (fun c_1 => ?_) (fun c_1 => ?_)
    · have hf := if_t hf c_1
      refine g_aload_n 0 C (ckD_get k_X7_extend_0 8 rfl) rfl rfl ?_
      refine g_getR C (ckD_get k_X7_extend_0 9 rfl) fk_X7_34 T34 rfl ?_
      refine g_getI C (ckD_get k_X7_extend_0 10 rfl) fk_X7_179 T48 rfl ?_
      refine g_iconst (v := (1 : Int32)) C (ckD_get k_X7_extend_0 11 rfl) (by decide) ?_
      refine g_isub C (ckD_get k_X7_extend_0 12 rfl) ?_
      refine g_iload_n 1 C (ckD_get k_X7_extend_0 13 rfl) rfl rfl ?_
      refine g_isub C (ckD_get k_X7_extend_0 14 rfl) ?_
      obtain ⟨x4_2, ex4_2, hf⟩ := lt_e hf
      refine topI ex4_2 ?_
      refine g_istore (lv' := [(4, _), (0, _), (1, _), (2, _), (3, _)]) C (ckD_get k_X7_extend_0 15 rfl) hL4 rfl ?_
      refine g_iconst (v := (0 : Int32)) C (ckD_get k_X7_extend_0 16 rfl) (by decide) ?_
      refine g_istore (lv' := [(5, _), (4, _), (0, _), (1, _), (2, _), (3, _)]) C (ckD_get k_X7_extend_0 17 rfl) hL5 rfl ?_
      refine G.sub [2, 3, 4, 5, 1, 0] rfl ?_
      obtain ⟨M_5, hx_32, hf⟩ := bd_e hf
      have hE_32 : G K (0, 0) 89 [(0, .ref (K.2.1.1 + 34)), (1, .int a1), (2, .int a2), (3, .int a3)] [] M_5 := by
        have hf : f_X7_extend_A32 a1 a2 a3 F M_5 = some r := hf
        unfold f_X7_extend_A32 at hf
        refine g_bipush (v := (12 : Int32)) C (ckD_get k_X7_extend_1 10 rfl) (by decide) ?_
        refine g_istore (lv' := [(5, _), (0, _), (1, _), (2, _), (3, _)]) C (ckD_get k_X7_extend_1 11 rfl) hL5 rfl ?_
        refine G.sub [1, 2, 3, 4, 0] rfl ?_
        obtain ⟨M_8, hx_93, hf⟩ := bd_e hf
        have hE_93 : G K (0, 0) 149 [] [] M_8 := by
          have hf : f_X7_extend_A93 M_8 = some r := hf
          unfold f_X7_extend_A93 at hf
          cases hf
          exact g_vret C (ckD_get k_X7_extend_2 4 rfl) hr hRv (Nat.le_refl _) (Nat.le_refl _)
        refine loop_e (x := M_8) (P := fun (v : (Int32 × Mm)) => G K (0, 0) 93 [(0, .ref (K.2.1.1 + 34)), (1, .int a1), (2, .int a2), (3, .int a3), (5, .int v.1)] [] v.2) ?_ FU _ hx_93
        intro v rr_93 hf hn_93 hz_93
        obtain ⟨x5_6, M_7⟩ := v
        have hf : f_X7_extend_L93 a1 a2 a3 F x5_6 M_7 = some rr_93 := hf
        show G K (0, 0) 93 [(0, .ref (K.2.1.1 + 34)), (1, .int a1), (2, .int a2), (3, .int a3), (5, .int x5_6)] [] M_7
        unfold f_X7_extend_L93 at hf
        refine g_iload 4 C (ckD_get k_X7_extend_1 12 rfl) rfl ?_
        refine g_bipush (v := (13 : Int32)) C (ckD_get k_X7_extend_1 13 rfl) (by decide) ?_
        refine g_icmp_gt C (ckD_get k_X7_extend_1 14 rfl) (fun c_9 => ?_) (fun c_9 => ?_)
        · have hf := if_t hf c_9
          refine G.sub [] rfl ?_
          cases hf
          cases hz_93 _ rfl
          exact hE_93
        · have hf := if_f hf c_9
          refine g_iload_n 3 C (ckD_get k_X7_extend_1 15 rfl) rfl rfl ?_
          refine g_iconst (v := (1 : Int32)) C (ckD_get k_X7_extend_1 16 rfl) (by decide) ?_
          refine g_icmp_le C (ckD_get k_X7_extend_1 17 rfl) (fun c_10 => ?_) (fun c_10 => ?_)
          · have hf := if_t hf c_10
            refine G.sub [] rfl ?_
            cases hf
            cases hz_93 _ rfl
            exact hE_93
          · have hf := if_f hf c_10
            refine g_aload_n 0 C (ckD_get k_X7_extend_1 18 rfl) rfl rfl ?_
            refine g_getR C (ckD_get k_X7_extend_1 19 rfl) fk_X7_34 T34 rfl ?_
            refine g_getR C (ckD_get k_X7_extend_1 20 rfl) fk_X7_196 T48 rfl ?_
            refine g_iload_n 1 C (ckD_get k_X7_extend_1 21 rfl) rfl rfl ?_
            refine g_iconst (v := (1 : Int32)) C (ckD_get k_X7_extend_1 22 rfl) (by decide) ?_
            refine g_isub C (ckD_get k_X7_extend_1 23 rfl) ?_
            obtain ⟨v_11, hi_12, ev_11, hf⟩ := rdI_e hf
            refine n_iald C (ckD_get k_X7_extend_1 24 rfl) T49 hi_12 ev_11 ?_
            refine g_iload 4 C (ckD_get k_X7_extend_1 25 rfl) rfl ?_
            have hJ_143 : ∀ (M_13 : Mm), f_X7_extend_J143 x5_6 M_13 = some rr_93 → G K (0, 0) 143 [(0, .ref (K.2.1.1 + 34)), (1, .int a1), (2, .int a2), (3, .int a3), (5, .int x5_6)] [] M_13 := by
              intro M_13 hf
              unfold f_X7_extend_J143 at hf
              obtain ⟨x5_14, ex5_14, hf⟩ := lt_e hf
              refine g_iinc (lv' := [(5, _), (0, _), (1, _), (2, _), (3, _)]) 4 C (ckD_get k_X7_extend_2 2 rfl) rfl ex5_14 hL5 rfl ?_
              refine g_goto C (ckD_get k_X7_extend_2 3 rfl) ?_
              refine G.sub [1, 2, 3, 4, 0] rfl ?_
              cases hf
              exact hn_93 _ rfl
            refine g_icmp_eq C (ckD_get k_X7_extend_1 26 rfl) (fun c_15 => ?_) (fun c_15 => ?_)
            · have hf := if_t hf c_15
              exact hJ_143 _ hf
            · have hf := if_f hf c_15
              refine g_aload_n 0 C (ckD_get k_X7_extend_1 27 rfl) rfl rfl ?_
              refine g_getR C (ckD_get k_X7_extend_1 28 rfl) fk_X7_34 T34 rfl ?_
              refine g_getR C (ckD_get k_X7_extend_1 29 rfl) fk_X7_196 T48 rfl ?_
              refine g_iload_n 1 C (ckD_get k_X7_extend_1 30 rfl) rfl rfl ?_
              refine g_iload 4 C (ckD_get k_X7_extend_1 31 rfl) rfl ?_
              obtain ⟨M_16, hi_17, eM_16, hf⟩ := wrI_e hf
              refine n_iast C (ckD_get k_X7_extend_1 32 rfl) T49 hi_17 eM_16 ?_
              refine g_aload_n 0 C (ckD_get k_X7_extend_1 33 rfl) rfl rfl ?_
              refine g_iload_n 1 C (ckD_get k_X7_extend_1 34 rfl) rfl rfl ?_
              refine g_iconst (v := (1 : Int32)) C (ckD_get k_X7_extend_1 35 rfl) (by decide) ?_
              refine g_iadd C (ckD_get k_X7_extend_1 36 rfl) ?_
              refine g_iload_n 2 C (ckD_get k_X7_extend_1 37 rfl) rfl rfl ?_
              refine g_iload_n 3 C (ckD_get k_X7_extend_1 38 rfl) rfl rfl ?_
              refine g_iconst (v := (1 : Int32)) C (ckD_get k_X7_extend_1 39 rfl) (by decide) ?_
              refine g_isub C (ckD_get k_X7_extend_2 0 rfl) ?_
              obtain ⟨M_19, hr_18, hf⟩ := bd_e hf
              refine n_cV [.int (a1 + (1 : Int32)), .int a2, .int (a3 - (1 : Int32))] [] C (ckD_get k_X7_extend_2 1 rfl) vk_X7_182 (ih _ _ _ _ _ hr_18) T34 rfl rfl (Nat.le_of_ble_eq_true rfl) (by omega) hB rfl ?_
              exact hJ_143 _ hf
      refine loop_e (x := M_5) (P := fun (v : (Int32 × Mm)) => G K (0, 0) 32 [(0, .ref (K.2.1.1 + 34)), (1, .int a1), (2, .int a2), (3, .int a3), (4, .int x4_2), (5, .int v.1)] [] v.2) ?_ FU _ hx_32
      intro v rr_32 hf hn_32 hz_32
      obtain ⟨x5_3, M_4⟩ := v
      have hf : f_X7_extend_L32 a1 a2 a3 F x4_2 x5_3 M_4 = some rr_32 := hf
      show G K (0, 0) 32 [(0, .ref (K.2.1.1 + 34)), (1, .int a1), (2, .int a2), (3, .int a3), (4, .int x4_2), (5, .int x5_3)] [] M_4
      unfold f_X7_extend_L32 at hf
      refine g_iload 5 C (ckD_get k_X7_extend_0 18 rfl) rfl ?_
      refine g_aload_n 0 C (ckD_get k_X7_extend_0 19 rfl) rfl rfl ?_
      refine g_getI C (ckD_get k_X7_extend_0 20 rfl) fk_X7_88 T34 rfl ?_
      refine g_icmp_ge C (ckD_get k_X7_extend_0 21 rfl) (fun c_20 => ?_) (fun c_20 => ?_)
      · have hf := if_t hf c_20
        refine G.sub [0, 1, 2, 3] rfl ?_
        cases hf
        cases hz_32 _ rfl
        exact hE_32
      · have hf := if_f hf c_20
        refine g_iload_n 3 C (ckD_get k_X7_extend_0 22 rfl) rfl rfl ?_
        refine g_iload 4 C (ckD_get k_X7_extend_0 23 rfl) rfl ?_
        refine g_icmp_gt C (ckD_get k_X7_extend_0 24 rfl) (fun c_21 => ?_) (fun c_21 => ?_)
        · have hf := if_t hf c_21
          refine G.sub [0, 1, 2, 3] rfl ?_
          cases hf
          cases hz_32 _ rfl
          exact hE_32
        · have hf := if_f hf c_21
          refine g_iload_n 2 C (ckD_get k_X7_extend_0 25 rfl) rfl rfl ?_
          refine g_iload 5 C (ckD_get k_X7_extend_0 26 rfl) rfl ?_
          refine n_cN [.int a2, .int x5_3] [] C (ckD_get k_X7_extend_0 27 rfl) nk_X7_193 (t_X9_bitOf C.tr _ _ _ _ rfl) rfl rfl (Nat.le_of_ble_eq_true rfl) (by omega) hB rfl ?_
          have hJ_83 : ∀ (M_22 : Mm), f_X7_extend_J83 x5_3 M_22 = some rr_32 → G K (0, 0) 83 [(0, .ref (K.2.1.1 + 34)), (1, .int a1), (2, .int a2), (3, .int a3), (4, .int x4_2), (5, .int x5_3)] [] M_22 := by
            intro M_22 hf
            unfold f_X7_extend_J83 at hf
            obtain ⟨x5_23, ex5_23, hf⟩ := lt_e hf
            refine g_iinc (lv' := [(5, _), (0, _), (1, _), (2, _), (3, _), (4, _)]) 5 C (ckD_get k_X7_extend_1 8 rfl) rfl ex5_23 hL5 rfl ?_
            refine g_goto C (ckD_get k_X7_extend_1 9 rfl) ?_
            refine G.sub [1, 2, 3, 4, 5, 0] rfl ?_
            cases hf
            exact hn_32 _ rfl
          refine g_if_ne C (ckD_get k_X7_extend_0 28 rfl) (fun c_24 => ?_) (fun c_24 => ?_)
          · have hf := if_f hf c_24
            exact hJ_83 _ hf
          · have hf := if_t hf c_24
            refine g_aload_n 0 C (ckD_get k_X7_extend_0 29 rfl) rfl rfl ?_
            refine g_getR C (ckD_get k_X7_extend_0 30 rfl) fk_X7_34 T34 rfl ?_
            refine g_getR C (ckD_get k_X7_extend_0 31 rfl) fk_X7_196 T48 rfl ?_
            refine g_iload_n 1 C (ckD_get k_X7_extend_0 32 rfl) rfl rfl ?_
            refine g_iload 5 C (ckD_get k_X7_extend_0 33 rfl) rfl ?_
            obtain ⟨M_25, hi_26, eM_25, hf⟩ := wrI_e hf
            refine n_iast C (ckD_get k_X7_extend_0 34 rfl) T49 hi_26 eM_25 ?_
            refine g_aload_n 0 C (ckD_get k_X7_extend_0 35 rfl) rfl rfl ?_
            refine g_iload_n 1 C (ckD_get k_X7_extend_0 36 rfl) rfl rfl ?_
            refine g_iconst (v := (1 : Int32)) C (ckD_get k_X7_extend_0 37 rfl) (by decide) ?_
            refine g_iadd C (ckD_get k_X7_extend_0 38 rfl) ?_
            refine g_iload_n 2 C (ckD_get k_X7_extend_0 39 rfl) rfl rfl ?_
            refine g_iconst (v := (1 : Int32)) C (ckD_get k_X7_extend_1 0 rfl) (by decide) ?_
            refine g_iload 5 C (ckD_get k_X7_extend_1 1 rfl) rfl ?_
            refine g_ishl C (ckD_get k_X7_extend_1 2 rfl) ?_
            refine g_ior C (ckD_get k_X7_extend_1 3 rfl) ?_
            refine g_iload_n 3 C (ckD_get k_X7_extend_1 4 rfl) rfl rfl ?_
            refine g_iconst (v := (1 : Int32)) C (ckD_get k_X7_extend_1 5 rfl) (by decide) ?_
            refine g_iadd C (ckD_get k_X7_extend_1 6 rfl) ?_
            obtain ⟨M_28, hr_27, hf⟩ := bd_e hf
            refine n_cV [.int (a1 + (1 : Int32)), .int (a2 ||| ((1 : Int32) <<< (x5_3 &&& 31))), .int (a3 + (1 : Int32))] [] C (ckD_get k_X7_extend_1 7 rfl) vk_X7_182 (ih _ _ _ _ _ hr_27) T34 rfl rfl (Nat.le_of_ble_eq_true rfl) (by omega) hB rfl ?_
            exact hJ_83 _ hf
    · have hf := if_f hf c_1
      refine g_aload_n 0 C (ckD_get k_X7_extend_0 5 rfl) rfl rfl ?_
      obtain ⟨M_30, hr_29, hf⟩ := bd_e hf
      refine n_cV [] [] C (ckD_get k_X7_extend_0 6 rfl) vk_X7_190 (t_X7_tryRow C.tr _ _ hr_29) T34 rfl rfl (Nat.le_of_ble_eq_true rfl) (by omega) hB rfl ?_
      cases hf
      exact g_vret C (ckD_get k_X7_extend_0 7 rfl) hr hRv (Nat.le_refl _) (Nat.le_refl _)
