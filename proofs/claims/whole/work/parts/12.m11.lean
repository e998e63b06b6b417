set_option maxRecDepth 20000 in
theorem k_X10_longest_0 : ckD cX10_longest [(0, .aload_n 0, 1, 1, 0), (1, .getfield 124, 3, 4, 0), (4, .iconst 1, 1, 5, 0), (5, .isub, 1, 6, 0), (6, .istore_n 3, 1, 7, 0), (7, .iload_n 3, 1, 8, 0), (8, .ifCond .lt 105, 3, 11, 113), (11, .aload_n 0, 1, 12, 0), (12, .getfield 36, 3, 15, 0), (15, .iload_n 3, 1, 16, 0), (16, .iaload, 1, 17, 0), (17, .istore 4, 2, 19, 0), (19, .iconst 0, 1, 20, 0), (20, .istore 5, 2, 22, 0), (22, .iload_n 3, 1, 23, 0), (23, .iconst 1, 1, 24, 0), (24, .iadd, 1, 25, 0), (25, .istore 6, 2, 27, 0), (27, .iload 6, 2, 29, 0), (29, .aload_n 0, 1, 30, 0), (30, .getfield 124, 3, 33, 0), (33, .if_icmp .ge 45, 3, 36, 78), (36, .aload_n 0, 1, 37, 0), (37, .iload 4, 2, 39, 0), (39, .aload_n 0, 1, 40, 0), (40, .getfield 36, 3, 43, 0), (43, .iload 6, 2, 45, 0), (45, .iaload, 1, 46, 0), (46, .iload_n 2, 1, 47, 0), (47, .invokevirtual 148, 3, 50, 0), (50, .ifCond .eq 22, 3, 53, 72), (53, .iload 5, 2, 55, 0), (55, .aload_n 0, 1, 56, 0), (56, .getfield 96, 3, 59, 0), (59, .aload_n 0, 1, 60, 0), (60, .getfield 36, 3, 63, 0), (63, .iload 6, 2, 65, 0), (65, .iaload, 1, 66, 0), (66, .iaload, 1, 67, 0), (67, .invokestatic 156, 3, 70, 0)] = true := by decide +kernel
set_option maxRecDepth 20000 in
theorem k_X10_longest_1 : ckD cX10_longest [(70, .istore 5, 2, 72, 0), (72, .iinc 6 1, 3, 75, 0), (75, .goto (-48), 3, 78, 27), (78, .aload_n 0, 1, 79, 0), (79, .getfield 96, 3, 82, 0), (82, .iload 4, 2, 84, 0), (84, .iload 5, 2, 86, 0), (86, .iload_n 2, 1, 87, 0), (87, .ifCond .eq 12, 3, 90, 99), (90, .aload_n 0, 1, 91, 0), (91, .iload 4, 2, 93, 0), (93, .invokevirtual 152, 3, 96, 0), (96, .goto 9, 3, 99, 105), (99, .aload_n 0, 1, 100, 0), (100, .iload 4, 2, 102, 0), (102, .invokevirtual 162, 3, 105, 0), (105, .iadd, 1, 106, 0), (106, .iastore, 1, 107, 0), (107, .iinc 3 (-1), 3, 110, 0), (110, .goto (-103), 3, 113, 7), (113, .aload_n 0, 1, 114, 0), (114, .getfield 96, 3, 117, 0), (117, .iload_n 1, 1, 118, 0), (118, .iaload, 1, 119, 0), (119, .ireturn, 1, 120, 0)] = true := by decide +kernel
def f_X10_longest_A7 (a1 : Int32) (M_4 : Mm) : Option (Int32 × Mm) := rdI 12 M_4 97 a1 fun v_5 => some (v_5, M_4)
def f_X10_longest_J105 (x3_2 : Int32) (M_3 : Mm) (v_8 : Int32) (x5_13 : Int32) (s_14 : Int32) : Option ((Int32 × Mm) ⊕ Mm) := wrI 12 M_3 97 v_8 (x5_13 + s_14) fun M_15 => lt1 (x3_2 + (-1)) fun x3_17 => some (.inl (x3_17, M_15))
def f_X10_longest_A27 (a2 : Int32) (x3_2 : Int32) (M_3 : Mm) (v_8 : Int32) (x5_13 : Int32) : Option ((Int32 × Mm) ⊕ Mm) := if a2 = 0 then (f_X10_high v_8 M_3).bind fun r_20 => f_X10_longest_J105 x3_2 M_3 v_8 x5_13 r_20 else (f_X10_wide v_8 M_3).bind fun r_22 => f_X10_longest_J105 x3_2 M_3 v_8 x5_13 r_22
def f_X10_longest_J72 (x6_12 : Int32) (p5_28 : Int32) : Option ((Int32 × Int32) ⊕ Int32) := lt1 (x6_12 + 1) fun x6_29 => some (.inl (p5_28, x6_29))
def f_X10_longest_L27 (a2 : Int32) (M_3 : Mm) (v_8 : Int32) (x5_11 : Int32) (x6_12 : Int32) : Option ((Int32 × Int32) ⊕ Int32) := if (M_3.1 69 1) ≤ x6_12 then some (.inr x5_11) else rdI 12 M_3 77 x6_12 fun v_24 => (f_X10_must v_8 v_24 a2 M_3).bind fun r_27 => if r_27 = 0 then f_X10_longest_J72 x6_12 x5_11 else rdI 12 M_3 77 x6_12 fun v_31 => rdI 12 M_3 97 v_31 fun v_33 => lt1 (jmax x5_11 v_33) fun x5_35 => f_X10_longest_J72 x6_12 x5_35
def f_X10_longest_L7 (a2 : Int32) (x3_2 : Int32) (M_3 : Mm) : Option ((Int32 × Mm) ⊕ Mm) := if x3_2 < 0 then some (.inr M_3) else rdI 12 M_3 77 x3_2 fun v_8 => lt1 (x3_2 + (1 : Int32)) fun x6_10 => (loop (fun v => f_X10_longest_L27 a2 M_3 v_8 v.1 v.2) FU ((0 : Int32), x6_10)).bind fun z => f_X10_longest_A27 a2 x3_2 M_3 v_8 z
def f_X10_longest (a1 : Int32) (a2 : Int32) (M : Mm) : Option (Int32 × Mm) := lt1 ((M.1 69 1) - (1 : Int32)) fun x3_1 => (loop (fun v => f_X10_longest_L7 a2 v.1 v.2) FU (x3_1, M)).bind fun z => f_X10_longest_A7 a1 z
set_option maxRecDepth 100000 in
set_option maxHeartbeats 4000000 in
theorem t_X10_longest {E : Ev} {l : Launch} (htr : l.stackTraces = false) (a1 : Int32) (a2 : Int32) (M : Mm) (r : (Int32 × Mm)) (hf : f_X10_longest a1 a2 M = some r) : CM E l 2 0 0 yX10_longest cX10_longest 7 (some .int) [.ref (E.1 + 69), .int a1, .int a2] M (some (.int r.1)) r.2 := by
  refine CM.of htr (by decide +kernel) (Nat.le_of_ble_eq_true rfl) ?_
  intro K hE hL hl hR0 C hr hRv
  subst hE
  subst hl
  have C : Cx K cX10_longest RX10 2 := C
  have hB : (0 : Nat) ≤ K.1.R.cells ∧ 0 ≤ K.1.R.slots := ⟨Nat.zero_le _, Nat.zero_le _⟩
  have hL3 : 3 < K.2.2.1 := by rw [hL]; decide
  have hL4 : 4 < K.2.2.1 := by rw [hL]; decide
  have hL5 : 5 < K.2.2.1 := by rw [hL]; decide
  have hL6 : 6 < K.2.2.1 := by rw [hL]; decide
  show G K (0, 0) 0 [(0, .ref (K.2.1.1 + 69)), (1, .int a1), (2, .int a2)] [] M
  unfold f_X10_longest at hf
  refine g_aload_n 0 C (ckD_get k_X10_longest_0 0 rfl) rfl rfl ?_
  refine g_getI C (ckD_get k_X10_longest_0 1 rfl) fk_X10_124 T69 rfl ?_
  refine g_iconst (v := (1 : Int32)) C (ckD_get k_X10_longest_0 2 rfl) (by decide) ?_
  refine g_isub C (ckD_get k_X10_longest_0 3 rfl) ?_
  obtain ⟨x3_1, ex3_1, hf⟩ := lt_e hf
  refine topI ex3_1 ?_
  refine g_istore_n (lv' := [(3, _), (0, _), (1, _), (2, _)]) C (ckD_get k_X10_longest_0 4 rfl) rfl hL3 rfl ?_
  refine G.sub [1, 2, 3, 0] rfl ?_
  obtain ⟨M_4, hx_7, hf⟩ := bd_e hf
  have hE_7 : G K (0, 0) 113 [(0, .ref (K.2.1.1 + 69)), (1, .int a1)] [] M_4 := by
    have hf : f_X10_longest_A7 a1 M_4 = some r := hf
    unfold f_X10_longest_A7 at hf
    refine g_aload_n 0 C (ckD_get k_X10_longest_1 20 rfl) rfl rfl ?_
    refine g_getR C (ckD_get k_X10_longest_1 21 rfl) fk_X10_96 T69 rfl ?_
    refine g_iload_n 1 C (ckD_get k_X10_longest_1 22 rfl) rfl rfl ?_
    obtain ⟨v_5, hi_6, ev_5, hf⟩ := rdI_e hf
    refine n_iald C (ckD_get k_X10_longest_1 23 rfl) T97 hi_6 ev_5 ?_
    cases hf
    exact g_iret C (ckD_get k_X10_longest_1 24 rfl) hr hRv (Nat.le_refl _) (Nat.le_refl _)
  refine loop_e (x := M_4) (P := fun (v : (Int32 × Mm)) => G K (0, 0) 7 [(0, .ref (K.2.1.1 + 69)), (1, .int a1), (2, .int a2), (3, .int v.1)] [] v.2) ?_ FU _ hx_7
  intro v rr_7 hf hn_7 hz_7
  obtain ⟨x3_2, M_3⟩ := v
  have hf : f_X10_longest_L7 a2 x3_2 M_3 = some rr_7 := hf
  show G K (0, 0) 7 [(0, .ref (K.2.1.1 + 69)), (1, .int a1), (2, .int a2), (3, .int x3_2)] [] M_3
  unfold f_X10_longest_L7 at hf
  refine g_iload_n 3 C (ckD_get k_X10_longest_0 5 rfl) rfl rfl ?_
  refine g_if_lt C (ckD_get k_X10_longest_0 6 rfl) (fun c_7 => ?_) (fun c_7 => ?_)
  · have hf := if_t hf c_7
    refine G.sub [0, 1] rfl ?_
    cases hf
    cases hz_7 _ rfl
    exact hE_7
  · have hf := if_f hf c_7
    refine g_aload_n 0 C (ckD_get k_X10_longest_0 7 rfl) rfl rfl ?_
    refine g_getR C (ckD_get k_X10_longest_0 8 rfl) fk_X10_36 T69 rfl ?_
    refine g_iload_n 3 C (ckD_get k_X10_longest_0 9 rfl) rfl rfl ?_
    obtain ⟨v_8, hi_9, ev_8, hf⟩ := rdI_e hf
    refine n_iald C (ckD_get k_X10_longest_0 10 rfl) T77 hi_9 ev_8 ?_
    refine g_istore (lv' := [(4, _), (0, _), (1, _), (2, _), (3, _)]) C (ckD_get k_X10_longest_0 11 rfl) hL4 rfl ?_
    refine g_iconst (v := (0 : Int32)) C (ckD_get k_X10_longest_0 12 rfl) (by decide) ?_
    refine g_istore (lv' := [(5, _), (4, _), (0, _), (1, _), (2, _), (3, _)]) C (ckD_get k_X10_longest_0 13 rfl) hL5 rfl ?_
    refine g_iload_n 5 C (ckD_get k_X10_longest_0 14 rfl) rfl rfl ?_
    refine g_iconst (v := (1 : Int32)) C (ckD_get k_X10_longest_0 15 rfl) (by decide) ?_
    refine g_iadd C (ckD_get k_X10_longest_0 16 rfl) ?_
    obtain ⟨x6_10, ex6_10, hf⟩ := lt_e hf
    refine topI ex6_10 ?_
    refine g_istore (lv' := [(6, _), (5, _), (4, _), (0, _), (1, _), (2, _), (3, _)]) C (ckD_get k_X10_longest_0 17 rfl) hL6 rfl ?_
    refine G.sub [3, 4, 5, 6, 2, 1, 0] rfl ?_
    obtain ⟨x5_13, hx_27, hf⟩ := bd_e hf
    have hE_27 : G K (0, 0) 78 [(0, .ref (K.2.1.1 + 69)), (1, .int a1), (2, .int a2), (3, .int x3_2), (4, .int v_8), (5, .int x5_13)] [] M_3 := by
      have hf : f_X10_longest_A27 a2 x3_2 M_3 v_8 x5_13 = some rr_7 := hf
      unfold f_X10_longest_A27 at hf
      refine g_aload_n 0 C (ckD_get k_X10_longest_1 3 rfl) rfl rfl ?_
      refine g_getR C (ckD_get k_X10_longest_1 4 rfl) fk_X10_96 T69 rfl ?_
      refine g_iload 4 C (ckD_get k_X10_longest_1 5 rfl) rfl ?_
      refine g_iload 5 C (ckD_get k_X10_longest_1 6 rfl) rfl ?_
      refine g_iload_n 2 C (ckD_get k_X10_longest_1 7 rfl) rfl rfl ?_
      have hJ_105 : ∀ (s_14 : Int32), f_X10_longest_J105 x3_2 M_3 v_8 x5_13 s_14 = some rr_7 → G K (0, 0) 105 [(0, .ref (K.2.1.1 + 69)), (1, .int a1), (2, .int a2), (3, .int x3_2)] [.int s_14, .int x5_13, .int v_8, .ref (K.2.1.1 + 97)] M_3 := by
        intro s_14 hf
        unfold f_X10_longest_J105 at hf
        refine g_iadd C (ckD_get k_X10_longest_1 16 rfl) ?_
        obtain ⟨M_15, hi_16, eM_15, hf⟩ := wrI_e hf
        refine n_iast C (ckD_get k_X10_longest_1 17 rfl) T97 hi_16 eM_15 ?_
        obtain ⟨x3_17, ex3_17, hf⟩ := lt_e hf
        refine g_iinc (lv' := [(3, _), (0, _), (1, _), (2, _)]) 3 C (ckD_get k_X10_longest_1 18 rfl) rfl ex3_17 hL3 rfl ?_
        refine g_goto C (ckD_get k_X10_longest_1 19 rfl) ?_
        refine G.sub [1, 2, 3, 0] rfl ?_
        cases hf
        exact hn_7 _ rfl
      refine g_if_eq C (ckD_get k_X10_longest_1 8 rfl) (fun c_18 => ?_) (fun c_18 => ?_)
      · have hf := if_t hf c_18
        refine g_aload_n 0 C (ckD_get k_X10_longest_1 13 rfl) rfl rfl ?_
        refine g_iload 4 C (ckD_get k_X10_longest_1 14 rfl) rfl ?_
        obtain ⟨r_20, hr_19, hf⟩ := bd_e hf
        refine n_cV [.int v_8] [.int x5_13, .int v_8, .ref (K.2.1.1 + 97)] C (ckD_get k_X10_longest_1 15 rfl) vk_X10_162 (t_X10_high C.tr _ _ _ hr_19) T69 rfl rfl (Nat.le_of_ble_eq_true rfl) (by decide) hB rfl ?_
        refine G.sub [0, 1, 2, 3] rfl ?_
        exact hJ_105 _ hf
      · have hf := if_f hf c_18
        refine g_aload_n 0 C (ckD_get k_X10_longest_1 9 rfl) rfl rfl ?_
        refine g_iload 4 C (ckD_get k_X10_longest_1 10 rfl) rfl ?_
        obtain ⟨r_22, hr_21, hf⟩ := bd_e hf
        refine n_cV [.int v_8] [.int x5_13, .int v_8, .ref (K.2.1.1 + 97)] C (ckD_get k_X10_longest_1 11 rfl) vk_X10_152 (t_X10_wide C.tr _ _ _ hr_21) T69 rfl rfl (Nat.le_of_ble_eq_true rfl) (by decide) hB rfl ?_
        refine g_goto C (ckD_get k_X10_longest_1 12 rfl) ?_
        refine G.sub [0, 1, 2, 3] rfl ?_
        exact hJ_105 _ hf
    refine loop_e (x := x5_13) (P := fun (v : (Int32 × Int32)) => G K (0, 0) 27 [(0, .ref (K.2.1.1 + 69)), (1, .int a1), (2, .int a2), (3, .int x3_2), (4, .int v_8), (5, .int v.1), (6, .int v.2)] [] M_3) ?_ FU _ hx_27
    intro v rr_27 hf hn_27 hz_27
    obtain ⟨x5_11, x6_12⟩ := v
    have hf : f_X10_longest_L27 a2 M_3 v_8 x5_11 x6_12 = some rr_27 := hf
    show G K (0, 0) 27 [(0, .ref (K.2.1.1 + 69)), (1, .int a1), (2, .int a2), (3, .int x3_2), (4, .int v_8), (5, .int x5_11), (6, .int x6_12)] [] M_3
    unfold f_X10_longest_L27 at hf
    refine g_iload 6 C (ckD_get k_X10_longest_0 18 rfl) rfl ?_
    refine g_aload_n 0 C (ckD_get k_X10_longest_0 19 rfl) rfl rfl ?_
    refine g_getI C (ckD_get k_X10_longest_0 20 rfl) fk_X10_124 T69 rfl ?_
    refine g_icmp_ge C (ckD_get k_X10_longest_0 21 rfl) (fun c_23 => ?_) (fun c_23 => ?_)
    · have hf := if_t hf c_23
      refine G.sub [0, 1, 2, 3, 4, 5] rfl ?_
      cases hf
      cases hz_27 _ rfl
      exact hE_27
    · have hf := if_f hf c_23
      refine g_aload_n 0 C (ckD_get k_X10_longest_0 22 rfl) rfl rfl ?_
      refine g_iload 4 C (ckD_get k_X10_longest_0 23 rfl) rfl ?_
      refine g_aload_n 0 C (ckD_get k_X10_longest_0 24 rfl) rfl rfl ?_
      refine g_getR C (ckD_get k_X10_longest_0 25 rfl) fk_X10_36 T69 rfl ?_
      refine g_iload 6 C (ckD_get k_X10_longest_0 26 rfl) rfl ?_
      obtain ⟨v_24, hi_25, ev_24, hf⟩ := rdI_e hf
      refine n_iald C (ckD_get k_X10_longest_0 27 rfl) T77 hi_25 ev_24 ?_
      refine g_iload_n 2 C (ckD_get k_X10_longest_0 28 rfl) rfl rfl ?_
      obtain ⟨r_27, hr_26, hf⟩ := bd_e hf
      refine n_cV [.int v_8, .int v_24, .int a2] [] C (ckD_get k_X10_longest_0 29 rfl) vk_X10_148 (t_X10_must C.tr _ _ _ _ _ hr_26) T69 rfl rfl (Nat.le_of_ble_eq_true rfl) (by decide) hB rfl ?_
      have hJ_72 : ∀ (p5_28 : Int32), f_X10_longest_J72 x6_12 p5_28 = some rr_27 → G K (0, 0) 72 [(0, .ref (K.2.1.1 + 69)), (1, .int a1), (2, .int a2), (3, .int x3_2), (4, .int v_8), (5, .int p5_28), (6, .int x6_12)] [] M_3 := by
        intro p5_28 hf
        unfold f_X10_longest_J72 at hf
        obtain ⟨x6_29, ex6_29, hf⟩ := lt_e hf
        refine g_iinc (lv' := [(6, _), (0, _), (1, _), (2, _), (3, _), (4, _), (5, _)]) 6 C (ckD_get k_X10_longest_1 1 rfl) rfl ex6_29 hL6 rfl ?_
        refine g_goto C (ckD_get k_X10_longest_1 2 rfl) ?_
        refine G.sub [1, 2, 3, 4, 5, 6, 0] rfl ?_
        cases hf
        exact hn_27 _ rfl
      refine g_if_eq C (ckD_get k_X10_longest_0 30 rfl) (fun c_30 => ?_) (fun c_30 => ?_)
      · have hf := if_t hf c_30
        exact hJ_72 _ hf
      · have hf := if_f hf c_30
        refine g_iload 5 C (ckD_get k_X10_longest_0 31 rfl) rfl ?_
        refine g_aload_n 0 C (ckD_get k_X10_longest_0 32 rfl) rfl rfl ?_
        refine g_getR C (ckD_get k_X10_longest_0 33 rfl) fk_X10_96 T69 rfl ?_
        refine g_aload_n 0 C (ckD_get k_X10_longest_0 34 rfl) rfl rfl ?_
        refine g_getR C (ckD_get k_X10_longest_0 35 rfl) fk_X10_36 T69 rfl ?_
        refine g_iload 6 C (ckD_get k_X10_longest_0 36 rfl) rfl ?_
        obtain ⟨v_31, hi_32, ev_31, hf⟩ := rdI_e hf
        refine n_iald C (ckD_get k_X10_longest_0 37 rfl) T77 hi_32 ev_31 ?_
        obtain ⟨v_33, hi_34, ev_33, hf⟩ := rdI_e hf
        refine n_iald C (ckD_get k_X10_longest_0 38 rfl) T97 hi_34 ev_33 ?_
        refine n_mmax C (ckD_get k_X10_longest_0 39 rfl) mk_X10_156 (by decide) (Nat.le_of_ble_eq_true rfl) hB ?_
        obtain ⟨x5_35, ex5_35, hf⟩ := lt_e hf
        refine topI ex5_35 ?_
        refine g_istore (lv' := [(5, _), (0, _), (1, _), (2, _), (3, _), (4, _), (6, _)]) C (ckD_get k_X10_longest_1 0 rfl) hL5 rfl ?_
        refine G.sub [1, 2, 3, 4, 5, 0, 6] rfl ?_
        exact hJ_72 _ hf

set_option maxRecDepth 20000 in
theorem k_X10_slack_0 : ckD cX10_slack [(0, .aload_n 0, 1, 1, 0), (1, .iconst 0, 1, 2, 0), (2, .putfield 121, 3, 5, 0), (5, .aload_n 0, 1, 6, 0), (6, .getfield 23, 3, 9, 0), (9, .iconst 1, 1, 10, 0), (10, .if_icmp .ne 20, 3, 13, 30), (13, .aload_n 0, 1, 14, 0), (14, .iload_n 1, 1, 15, 0), (15, .invokevirtual 130, 3, 18, 0), (18, .ifCond .eq 12, 3, 21, 30), (21, .iload_n 2, 1, 22, 0), (22, .ifCond .lt 8, 3, 25, 30), (25, .iload_n 2, 1, 26, 0), (26, .iconst 1, 1, 27, 0), (27, .if_icmp .le 8, 3, 30, 35), (30, .aload_n 0, 1, 31, 0), (31, .invokevirtual 134, 3, 34, 0), (34, .ireturn, 1, 35, 0), (35, .iload_n 2, 1, 36, 0), (36, .ifCond .ne 24, 3, 39, 60), (39, .aload_n 0, 1, 40, 0), (40, .invokevirtual 227, 3, 43, 0), (43, .aload_n 0, 1, 44, 0), (44, .getfield 27, 3, 47, 0), (47, .iload_n 1, 1, 48, 0), (48, .iaload, 1, 49, 0), (49, .isub, 1, 50, 0), (50, .aload_n 0, 1, 51, 0), (51, .iload_n 1, 1, 52, 0), (52, .iconst 1, 1, 53, 0), (53, .invokevirtual 240, 3, 56, 0), (56, .isub, 1, 57, 0), (57, .goto 21, 3, 60, 78), (60, .aload_n 0, 1, 61, 0), (61, .invokevirtual 230, 3, 64, 0), (64, .aload_n 0, 1, 65, 0), (65, .getfield 30, 3, 68, 0), (68, .iload_n 1, 1, 69, 0), (69, .iaload, 1, 70, 0)] = true := by decide +kernel
set_option maxRecDepth 20000 in
theorem k_X10_slack_1 : ckD cX10_slack [(70, .isub, 1, 71, 0), (71, .aload_n 0, 1, 72, 0), (72, .iload_n 1, 1, 73, 0), (73, .iconst 0, 1, 74, 0), (74, .invokevirtual 240, 3, 77, 0), (77, .isub, 1, 78, 0), (78, .ireturn, 1, 79, 0)] = true := by decide +kernel
def f_X10_slack_J30 (M_2 : Mm) : Option (Int32 × Mm) := lt1 (f_X10_fail M_2) fun z_5 => some (z_5.1, z_5.2)
def f_X10_slack (a1 : Int32) (a2 : Int32) (M : Mm) : Option (Int32 × Mm) := lt1 (wi M 69 0 (0 : Int32)) fun M_1 => if (M_1.1 69 6) = (1 : Int32) then (if (f_X10_isBlock a1 M_1) = 0 then f_X10_slack_J30 M_1 else if a2 < 0 then f_X10_slack_J30 M_1 else if a2 ≤ (1 : Int32) then (if a2 = 0 then (f_X10_allWide M_1).bind fun r_19 => rdI 12 M_1 74 a1 fun v_20 => bd2 (f_X10_longest a1 (1 : Int32) M_1) fun r_24 M_23 => some (((r_19 - v_20) - r_24), M_23) else (f_X10_allHigh M_1).bind fun r_12 => rdI 12 M_1 75 a1 fun v_13 => bd2 (f_X10_longest a1 (0 : Int32) M_1) fun r_17 M_16 => some (((r_12 - v_13) - r_17), M_16)) else f_X10_slack_J30 M_1) else f_X10_slack_J30 M_1
set_option maxRecDepth 100000 in
set_option maxHeartbeats 4000000 in
theorem t_X10_slack {E : Ev} {l : Launch} (htr : l.stackTraces = false) (a1 : Int32) (a2 : Int32) (M : Mm) (r : (Int32 × Mm)) (hf : f_X10_slack a1 a2 M = some r) : CM E l 3 0 0 yX10_slack cX10_slack 3 (some .int) [.ref (E.1 + 69), .int a1, .int a2] M (some (.int r.1)) r.2 := by
  refine CM.of htr (by decide +kernel) (Nat.le_of_ble_eq_true rfl) ?_
  intro K hE hL hl hR0 C hr hRv
  subst hE
  subst hl
  have C : Cx K cX10_slack RX10 3 := C
  have hB : (0 : Nat) ≤ K.1.R.cells ∧ 0 ≤ K.1.R.slots := ⟨Nat.zero_le _, Nat.zero_le _⟩
  show G K (0, 0) 0 [(0, .ref (K.2.1.1 + 69)), (1, .int a1), (2, .int a2)] [] M
  unfold f_X10_slack at hf
  refine g_aload_n 0 C (ckD_get k_X10_slack_0 0 rfl) rfl rfl ?_
  refine g_iconst (v := (0 : Int32)) C (ckD_get k_X10_slack_0 1 rfl) (by decide) ?_
  obtain ⟨M_1, eM_1, hf⟩ := lt_e hf
  refine g_putI C (ckD_get k_X10_slack_0 2 rfl) fk_X10_121 T69 rfl ?_
  refine memI eM_1 ?_
  refine g_aload_n 0 C (ckD_get k_X10_slack_0 3 rfl) rfl rfl ?_
  refine g_getI C (ckD_get k_X10_slack_0 4 rfl) fk_X10_23 T69 rfl ?_
  refine g_iconst (v := (1 : Int32)) C (ckD_get k_X10_slack_0 5 rfl) (by decide) ?_
  have hJ_30 : ∀ (M_2 : Mm), f_X10_slack_J30 M_2 = some r → G K (0, 0) 30 [(0, .ref (K.2.1.1 + 69))] [] M_2 := by
    intro M_2 hf
    unfold f_X10_slack_J30 at hf
    refine g_aload_n 0 C (ckD_get k_X10_slack_0 16 rfl) rfl rfl ?_
    obtain ⟨z_5, ez_5, hf⟩ := lt_e hf
    refine n_cV [] [] C (ckD_get k_X10_slack_0 17 rfl) vk_X10_134 (t_X10_fail C.tr _ _ ez_5) T69 rfl rfl (Nat.le_of_ble_eq_true rfl) (by decide) hB rfl ?_
    cases hf
    exact g_iret C (ckD_get k_X10_slack_0 18 rfl) hr hRv (Nat.le_refl _) (Nat.le_refl _)
  refine g_icmp_ne C (ckD_get k_X10_slack_0 6 rfl) (fun c_6 => ?_) (fun c_6 => ?_)
  · have hf := if_f hf c_6
    refine G.sub [0] rfl ?_
    exact hJ_30 _ hf
  · have hf := if_t hf c_6
    refine g_aload_n 0 C (ckD_get k_X10_slack_0 7 rfl) rfl rfl ?_
    refine g_iload_n 1 C (ckD_get k_X10_slack_0 8 rfl) rfl rfl ?_
    refine n_cV [.int a1] [] C (ckD_get k_X10_slack_0 9 rfl) vk_X10_130 (t_X10_isBlock C.tr _ _ _ rfl) T69 rfl rfl (Nat.le_of_ble_eq_true rfl) (by decide) hB rfl ?_
    refine g_if_eq C (ckD_get k_X10_slack_0 10 rfl) (fun c_7 => ?_) (fun c_7 => ?_)
    · have hf := if_t hf c_7
      refine G.sub [0] rfl ?_
      exact hJ_30 _ hf
    · have hf := if_f hf c_7
      refine g_iload_n 2 C (ckD_get k_X10_slack_0 11 rfl) rfl rfl ?_
      refine g_if_lt C (ckD_get k_X10_slack_0 12 rfl) (fun c_8 => ?_) (fun c_8 => ?_)
      · have hf := if_t hf c_8
        refine G.sub [0] rfl ?_
        exact hJ_30 _ hf
      · have hf := if_f hf c_8
        refine g_iload_n 2 C (ckD_get k_X10_slack_0 13 rfl) rfl rfl ?_
        refine g_iconst (v := (1 : Int32)) C (ckD_get k_X10_slack_0 14 rfl) (by decide) ?_
        refine g_icmp_le C (ckD_get k_X10_slack_0 15 rfl) (fun c_9 => ?_) (fun c_9 => ?_)
        · have hf := if_t hf c_9
          refine g_iload_n 2 C (ckD_get k_X10_slack_0 19 rfl) rfl rfl ?_
          refine g_if_ne C (ckD_get k_X10_slack_0 20 rfl) (fun c_10 => ?_) (fun c_10 => ?_)
          · have hf := if_f hf c_10
            refine g_aload_n 0 C (ckD_get k_X10_slack_0 34 rfl) rfl rfl ?_
            obtain ⟨r_12, hr_11, hf⟩ := bd_e hf
            refine n_cV [] [] C (ckD_get k_X10_slack_0 35 rfl) vk_X10_230 (t_X10_allHigh C.tr _ _ hr_11) T69 rfl rfl (Nat.le_of_ble_eq_true rfl) (by decide) hB rfl ?_
            refine g_aload_n 0 C (ckD_get k_X10_slack_0 36 rfl) rfl rfl ?_
            refine g_getR C (ckD_get k_X10_slack_0 37 rfl) fk_X10_30 T69 rfl ?_
            refine g_iload_n 1 C (ckD_get k_X10_slack_0 38 rfl) rfl rfl ?_
            obtain ⟨v_13, hi_14, ev_13, hf⟩ := rdI_e hf
            refine n_iald C (ckD_get k_X10_slack_0 39 rfl) T75 hi_14 ev_13 ?_
            refine g_isub C (ckD_get k_X10_slack_1 0 rfl) ?_
            refine g_aload_n 0 C (ckD_get k_X10_slack_1 1 rfl) rfl rfl ?_
            refine g_iload_n 1 C (ckD_get k_X10_slack_1 2 rfl) rfl rfl ?_
            refine g_iconst (v := (0 : Int32)) C (ckD_get k_X10_slack_1 3 rfl) (by decide) ?_
            obtain ⟨r_17, M_16, hr_15, hf⟩ := bd2_e hf
            refine n_cV [.int a1, .int (0 : Int32)] [.int (r_12 - v_13)] C (ckD_get k_X10_slack_1 4 rfl) vk_X10_240 (t_X10_longest C.tr _ _ _ _ hr_15) T69 rfl rfl (Nat.le_of_ble_eq_true rfl) (by decide) hB rfl ?_
            refine g_isub C (ckD_get k_X10_slack_1 5 rfl) ?_
            cases hf
            exact g_iret C (ckD_get k_X10_slack_1 6 rfl) hr hRv (Nat.le_refl _) (Nat.le_refl _)
          · have hf := if_t hf c_10
            refine g_aload_n 0 C (ckD_get k_X10_slack_0 21 rfl) rfl rfl ?_
            obtain ⟨r_19, hr_18, hf⟩ := bd_e hf
            refine n_cV [] [] C (ckD_get k_X10_slack_0 22 rfl) vk_X10_227 (t_X10_allWide C.tr _ _ hr_18) T69 rfl rfl (Nat.le_of_ble_eq_true rfl) (by decide) hB rfl ?_
            refine g_aload_n 0 C (ckD_get k_X10_slack_0 23 rfl) rfl rfl ?_
            refine g_getR C (ckD_get k_X10_slack_0 24 rfl) fk_X10_27 T69 rfl ?_
            refine g_iload_n 1 C (ckD_get k_X10_slack_0 25 rfl) rfl rfl ?_
            obtain ⟨v_20, hi_21, ev_20, hf⟩ := rdI_e hf
            refine n_iald C (ckD_get k_X10_slack_0 26 rfl) T74 hi_21 ev_20 ?_
            refine g_isub C (ckD_get k_X10_slack_0 27 rfl) ?_
            refine g_aload_n 0 C (ckD_get k_X10_slack_0 28 rfl) rfl rfl ?_
            refine g_iload_n 1 C (ckD_get k_X10_slack_0 29 rfl) rfl rfl ?_
            refine g_iconst (v := (1 : Int32)) C (ckD_get k_X10_slack_0 30 rfl) (by decide) ?_
            obtain ⟨r_24, M_23, hr_22, hf⟩ := bd2_e hf
            refine n_cV [.int a1, .int (1 : Int32)] [.int (r_19 - v_20)] C (ckD_get k_X10_slack_0 31 rfl) vk_X10_240 (t_X10_longest C.tr _ _ _ _ hr_22) T69 rfl rfl (Nat.le_of_ble_eq_true rfl) (by decide) hB rfl ?_
            refine g_isub C (ckD_get k_X10_slack_0 32 rfl) ?_
            refine g_goto C (ckD_get k_X10_slack_0 33 rfl) ?_
            cases hf
            exact g_iret C (ckD_get k_X10_slack_1 6 rfl) hr hRv (Nat.le_refl _) (Nat.le_refl _)
        · have hf := if_f hf c_9
          refine G.sub [0] rfl ?_
          exact hJ_30 _ hf

set_option maxRecDepth 20000 in
theorem k_X10_wires_0 : ckD cX10_wires [(0, .aload_n 0, 1, 1, 0), (1, .iconst 0, 1, 2, 0), (2, .putfield 121, 3, 5, 0), (5, .aload_n 0, 1, 6, 0), (6, .getfield 23, 3, 9, 0), (9, .iconst (-1), 1, 10, 0), (10, .if_icmp .ne 8, 3, 13, 18), (13, .aload_n 0, 1, 14, 0), (14, .invokevirtual 134, 3, 17, 0), (17, .ireturn, 1, 18, 0), (18, .iconst 0, 1, 19, 0), (19, .istore_n 1, 1, 20, 0), (20, .iconst 0, 1, 21, 0), (21, .istore_n 2, 1, 22, 0), (22, .iload_n 2, 1, 23, 0), (23, .bipush 20, 2, 25, 0), (25, .if_icmp .ge 172, 3, 28, 197), (28, .ldc 244, 2, 30, 0), (30, .istore_n 3, 1, 31, 0), (31, .iconst (-1), 1, 32, 0), (32, .istore 4, 2, 34, 0), (34, .ldc 244, 2, 36, 0), (36, .istore 5, 2, 38, 0), (38, .iconst (-1), 1, 39, 0), (39, .istore 6, 2, 41, 0), (41, .iconst 0, 1, 42, 0), (42, .istore 7, 2, 44, 0), (44, .iconst 0, 1, 45, 0), (45, .istore 8, 2, 47, 0), (47, .iload 8, 2, 49, 0), (49, .aload_n 0, 1, 50, 0), (50, .getfield 124, 3, 53, 0), (53, .if_icmp .ge 119, 3, 56, 172), (56, .aload_n 0, 1, 57, 0), (57, .getfield 16, 3, 60, 0), (60, .iload_n 2, 1, 61, 0), (61, .iaload, 1, 62, 0), (62, .iload 8, 2, 64, 0), (64, .ishr, 1, 65, 0), (65, .iconst 1, 1, 66, 0)] = true := by decide +kernel
set_option maxRecDepth 20000 in
theorem k_X10_wires_1 : ckD cX10_wires [(66, .iand, 1, 67, 0), (67, .ifCond .ne 6, 3, 70, 73), (70, .goto 96, 3, 73, 166), (73, .iinc 7 1, 3, 76, 0), (76, .iload_n 3, 1, 77, 0), (77, .iconst 2, 1, 78, 0), (78, .aload_n 0, 1, 79, 0), (79, .getfield 27, 3, 82, 0), (82, .iload 8, 2, 84, 0), (84, .iaload, 1, 85, 0), (85, .imul, 1, 86, 0), (86, .aload_n 0, 1, 87, 0), (87, .iload 8, 2, 89, 0), (89, .invokevirtual 152, 3, 92, 0), (92, .iadd, 1, 93, 0), (93, .invokestatic 245, 3, 96, 0), (96, .istore_n 3, 1, 97, 0), (97, .iload 4, 2, 99, 0), (99, .iconst 2, 1, 100, 0), (100, .aload_n 0, 1, 101, 0), (101, .getfield 27, 3, 104, 0), (104, .iload 8, 2, 106, 0), (106, .iaload, 1, 107, 0), (107, .imul, 1, 108, 0), (108, .aload_n 0, 1, 109, 0), (109, .iload 8, 2, 111, 0), (111, .invokevirtual 152, 3, 114, 0), (114, .iadd, 1, 115, 0), (115, .invokestatic 156, 3, 118, 0), (118, .istore 4, 2, 120, 0), (120, .iload 5, 2, 122, 0), (122, .iconst 2, 1, 123, 0), (123, .aload_n 0, 1, 124, 0), (124, .getfield 30, 3, 127, 0), (127, .iload 8, 2, 129, 0), (129, .iaload, 1, 130, 0), (130, .imul, 1, 131, 0), (131, .aload_n 0, 1, 132, 0), (132, .iload 8, 2, 134, 0), (134, .invokevirtual 162, 3, 137, 0)] = true := by decide +kernel
set_option maxRecDepth 20000 in
theorem k_X10_wires_2 : ckD cX10_wires [(137, .iadd, 1, 138, 0), (138, .invokestatic 245, 3, 141, 0), (141, .istore 5, 2, 143, 0), (143, .iload 6, 2, 145, 0), (145, .iconst 2, 1, 146, 0), (146, .aload_n 0, 1, 147, 0), (147, .getfield 30, 3, 150, 0), (150, .iload 8, 2, 152, 0), (152, .iaload, 1, 153, 0), (153, .imul, 1, 154, 0), (154, .aload_n 0, 1, 155, 0), (155, .iload 8, 2, 157, 0), (157, .invokevirtual 162, 3, 160, 0), (160, .iadd, 1, 161, 0), (161, .invokestatic 156, 3, 164, 0), (164, .istore 6, 2, 166, 0), (166, .iinc 8 1, 3, 169, 0), (169, .goto (-122), 3, 172, 47), (172, .iload 7, 2, 174, 0), (174, .iconst 1, 1, 175, 0), (175, .if_icmp .le 16, 3, 178, 191), (178, .iload_n 1, 1, 179, 0), (179, .iload 4, 2, 181, 0), (181, .iload_n 3, 1, 182, 0), (182, .isub, 1, 183, 0), (183, .iload 6, 2, 185, 0), (185, .iadd, 1, 186, 0), (186, .iload 5, 2, 188, 0), (188, .isub, 1, 189, 0), (189, .iadd, 1, 190, 0), (190, .istore_n 1, 1, 191, 0), (191, .iinc 2 1, 3, 194, 0), (194, .goto (-172), 3, 197, 22), (197, .iload_n 1, 1, 198, 0), (198, .ireturn, 1, 199, 0)] = true := by decide +kernel
def f_X10_wires_A22 (M_1 : Mm) (x1_5 : Int32) : Option (Int32 × Mm) := some (x1_5, M_1)
def f_X10_wires_J191 (x2_4 : Int32) (p1_18 : Int32) : Option ((Int32 × Int32) ⊕ Int32) := lt1 (x2_4 + 1) fun x2_19 => some (.inl (p1_18, x2_19))
def f_X10_wires_A47 (x1_3 : Int32) (x2_4 : Int32) (x3_13 : Int32) (x4_14 : Int32) (x5_15 : Int32) (x6_16 : Int32) (x7_17 : Int32) : Option ((Int32 × Int32) ⊕ Int32) := if x7_17 ≤ (1 : Int32) then f_X10_wires_J191 x2_4 x1_3 else lt1 (x1_3 + (((x4_14 - x3_13) + x6_16) - x5_15)) fun x1_21 => f_X10_wires_J191 x2_4 x1_21
def f_X10_wires_J166 (x8_12 : Int32) (p3_25 : Int32) (p4_26 : Int32) (p5_27 : Int32) (p6_28 : Int32) (p7_29 : Int32) : Option ((Int32 × Int32 × Int32 × Int32 × Int32 × Int32) ⊕ (Int32 × Int32 × Int32 × Int32 × Int32)) := lt1 (x8_12 + 1) fun x8_30 => some (.inl (p3_25, p4_26, p5_27, p6_28, p7_29, x8_30))
def f_X10_wires_L47 (M_1 : Mm) (x2_4 : Int32) (x3_7 : Int32) (x4_8 : Int32) (x5_9 : Int32) (x6_10 : Int32) (x7_11 : Int32) (x8_12 : Int32) : Option ((Int32 × Int32 × Int32 × Int32 × Int32 × Int32) ⊕ (Int32 × Int32 × Int32 × Int32 × Int32)) := if (M_1.1 69 1) ≤ x8_12 then some (.inr (x3_7, x4_8, x5_9, x6_10, x7_11)) else rdI 20 M_1 72 x2_4 fun v_23 => if ((v_23 >>> (x8_12 &&& 31)) &&& (1 : Int32)) = 0 then f_X10_wires_J166 x8_12 x3_7 x4_8 x5_9 x6_10 x7_11 else lt1 (x7_11 + 1) fun x7_32 => rdI 12 M_1 74 x8_12 fun v_33 => (f_X10_wide x8_12 M_1).bind fun r_36 => lt1 (jmin x3_7 (((2 : Int32) * v_33) + r_36)) fun x3_37 => rdI 12 M_1 74 x8_12 fun v_38 => (f_X10_wide x8_12 M_1).bind fun r_41 => lt1 (jmax x4_8 (((2 : Int32) * v_38) + r_41)) fun x4_42 => rdI 12 M_1 75 x8_12 fun v_43 => (f_X10_high x8_12 M_1).bind fun r_46 => lt1 (jmin x5_9 (((2 : Int32) * v_43) + r_46)) fun x5_47 => rdI 12 M_1 75 x8_12 fun v_48 => (f_X10_high x8_12 M_1).bind fun r_51 => lt1 (jmax x6_10 (((2 : Int32) * v_48) + r_51)) fun x6_52 => f_X10_wires_J166 x8_12 x3_37 x4_42 x5_47 x6_52 x7_32
def f_X10_wires_L22 (M_1 : Mm) (x1_3 : Int32) (x2_4 : Int32) : Option ((Int32 × Int32) ⊕ Int32) := if (20 : Int32) ≤ x2_4 then some (.inr x1_3) else (loop (fun v => f_X10_wires_L47 M_1 x2_4 v.1 v.2.1 v.2.2.1 v.2.2.2.1 v.2.2.2.2.1 v.2.2.2.2.2) FU ((1000000 : Int32), (-1 : Int32), (1000000 : Int32), (-1 : Int32), (0 : Int32), (0 : Int32))).bind fun z => f_X10_wires_A47 x1_3 x2_4 z.1 z.2.1 z.2.2.1 z.2.2.2.1 z.2.2.2.2
def f_X10_wires  (M : Mm) : Option (Int32 × Mm) := lt1 (wi M 69 0 (0 : Int32)) fun M_1 => if (M_1.1 69 6) = (-1 : Int32) then lt1 (f_X10_fail M_1) fun z_55 => some (z_55.1, z_55.2) else (loop (fun v => f_X10_wires_L22 M_1 v.1 v.2) FU ((0 : Int32), (0 : Int32))).bind fun z => f_X10_wires_A22 M_1 z
set_option maxRecDepth 100000 in
set_option maxHeartbeats 4000000 in
theorem t_X10_wires {E : Ev} {l : Launch} (htr : l.stackTraces = false) (M : Mm) (r : (Int32 × Mm)) (hf : f_X10_wires M = some r) : CM E l 1 0 0 yX10_wires cX10_wires 9 (some .int) [.ref (E.1 + 69)] M (some (.int r.1)) r.2 := by
  refine CM.of htr (by decide +kernel) (Nat.le_of_ble_eq_true rfl) ?_
  intro K hE hL hl hR0 C hr hRv
  subst hE
  subst hl
  have C : Cx K cX10_wires RX10 1 := C
  have hB : (0 : Nat) ≤ K.1.R.cells ∧ 0 ≤ K.1.R.slots := ⟨Nat.zero_le _, Nat.zero_le _⟩
  have hL1 : 1 < K.2.2.1 := by rw [hL]; decide
  have hL2 : 2 < K.2.2.1 := by rw [hL]; decide
  have hL3 : 3 < K.2.2.1 := by rw [hL]; decide
  have hL4 : 4 < K.2.2.1 := by rw [hL]; decide
  have hL5 : 5 < K.2.2.1 := by rw [hL]; decide
  have hL6 : 6 < K.2.2.1 := by rw [hL]; decide
  have hL7 : 7 < K.2.2.1 := by rw [hL]; decide
  have hL8 : 8 < K.2.2.1 := by rw [hL]; decide
  show G K (0, 0) 0 [(0, .ref (K.2.1.1 + 69))] [] M
  unfold f_X10_wires at hf
  refine g_aload_n 0 C (ckD_get k_X10_wires_0 0 rfl) rfl rfl ?_
  refine g_iconst (v := (0 : Int32)) C (ckD_get k_X10_wires_0 1 rfl) (by decide) ?_
  obtain ⟨M_1, eM_1, hf⟩ := lt_e hf
  refine g_putI C (ckD_get k_X10_wires_0 2 rfl) fk_X10_121 T69 rfl ?_
  refine memI eM_1 ?_
  refine g_aload_n 0 C (ckD_get k_X10_wires_0 3 rfl) rfl rfl ?_
  refine g_getI C (ckD_get k_X10_wires_0 4 rfl) fk_X10_23 T69 rfl ?_
  refine g_iconst (v := (-1 : Int32)) C (ckD_get k_X10_wires_0 5 rfl) (by decide) ?_
  refine g_icmp_ne C (ckD_get k_X10_wires_0 6 rfl) (fun c_2 => ?_) (fun c_2 => ?_)
  · have hf := if_f hf c_2
    refine g_iconst (v := (0 : Int32)) C (ckD_get k_X10_wires_0 10 rfl) (by decide) ?_
    refine g_istore_n (lv' := [(1, _), (0, _)]) C (ckD_get k_X10_wires_0 11 rfl) rfl hL1 rfl ?_
    refine g_iconst (v := (0 : Int32)) C (ckD_get k_X10_wires_0 12 rfl) (by decide) ?_
    refine g_istore_n (lv' := [(2, _), (1, _), (0, _)]) C (ckD_get k_X10_wires_0 13 rfl) rfl hL2 rfl ?_
    refine G.sub [2, 1, 0] rfl ?_
    obtain ⟨x1_5, hx_22, hf⟩ := bd_e hf
    have hE_22 : G K (0, 0) 197 [(1, .int x1_5)] [] M_1 := by
      have hf : f_X10_wires_A22 M_1 x1_5 = some r := hf
      unfold f_X10_wires_A22 at hf
      refine g_iload_n 0 C (ckD_get k_X10_wires_2 33 rfl) rfl rfl ?_
      cases hf
      exact g_iret C (ckD_get k_X10_wires_2 34 rfl) hr hRv (Nat.le_refl _) (Nat.le_refl _)
    refine loop_e (x := x1_5) (P := fun (v : (Int32 × Int32)) => G K (0, 0) 22 [(0, .ref (K.2.1.1 + 69)), (1, .int v.1), (2, .int v.2)] [] M_1) ?_ FU _ hx_22
    intro v rr_22 hf hn_22 hz_22
    obtain ⟨x1_3, x2_4⟩ := v
    have hf : f_X10_wires_L22 M_1 x1_3 x2_4 = some rr_22 := hf
    show G K (0, 0) 22 [(0, .ref (K.2.1.1 + 69)), (1, .int x1_3), (2, .int x2_4)] [] M_1
    unfold f_X10_wires_L22 at hf
    refine g_iload_n 2 C (ckD_get k_X10_wires_0 14 rfl) rfl rfl ?_
    refine g_bipush (v := (20 : Int32)) C (ckD_get k_X10_wires_0 15 rfl) (by decide) ?_
    refine g_icmp_ge C (ckD_get k_X10_wires_0 16 rfl) (fun c_6 => ?_) (fun c_6 => ?_)
    · have hf := if_t hf c_6
      refine G.sub [1] rfl ?_
      cases hf
      cases hz_22 _ rfl
      exact hE_22
    · have hf := if_f hf c_6
      refine g_ldc C (ckD_get k_X10_wires_0 17 rfl) q1425 ?_
      refine g_istore_n (lv' := [(3, _), (0, _), (1, _), (2, _)]) C (ckD_get k_X10_wires_0 18 rfl) rfl hL3 rfl ?_
      refine g_iconst (v := (-1 : Int32)) C (ckD_get k_X10_wires_0 19 rfl) (by decide) ?_
      refine g_istore (lv' := [(4, _), (3, _), (0, _), (1, _), (2, _)]) C (ckD_get k_X10_wires_0 20 rfl) hL4 rfl ?_
      refine g_ldc C (ckD_get k_X10_wires_0 21 rfl) q1425 ?_
      refine g_istore (lv' := [(5, _), (4, _), (3, _), (0, _), (1, _), (2, _)]) C (ckD_get k_X10_wires_0 22 rfl) hL5 rfl ?_
      refine g_iconst (v := (-1 : Int32)) C (ckD_get k_X10_wires_0 23 rfl) (by decide) ?_
      refine g_istore (lv' := [(6, _), (5, _), (4, _), (3, _), (0, _), (1, _), (2, _)]) C (ckD_get k_X10_wires_0 24 rfl) hL6 rfl ?_
      refine g_iconst (v := (0 : Int32)) C (ckD_get k_X10_wires_0 25 rfl) (by decide) ?_
      refine g_istore (lv' := [(7, _), (6, _), (5, _), (4, _), (3, _), (0, _), (1, _), (2, _)]) C (ckD_get k_X10_wires_0 26 rfl) hL7 rfl ?_
      refine g_iconst (v := (0 : Int32)) C (ckD_get k_X10_wires_0 27 rfl) (by decide) ?_
      refine g_istore (lv' := [(8, _), (7, _), (6, _), (5, _), (4, _), (3, _), (0, _), (1, _), (2, _)]) C (ckD_get k_X10_wires_0 28 rfl) hL8 rfl ?_
      refine G.sub [6, 7, 8, 5, 4, 3, 2, 1, 0] rfl ?_
      obtain ⟨xx_47, hx_47, hf⟩ := bd_e hf
      obtain ⟨x3_13, x4_14, x5_15, x6_16, x7_17⟩ := xx_47
      have hE_47 : G K (0, 0) 172 [(0, .ref (K.2.1.1 + 69)), (1, .int x1_3), (2, .int x2_4), (3, .int x3_13), (4, .int x4_14), (5, .int x5_15), (6, .int x6_16), (7, .int x7_17)] [] M_1 := by
        have hf : f_X10_wires_A47 x1_3 x2_4 x3_13 x4_14 x5_15 x6_16 x7_17 = some rr_22 := hf
        unfold f_X10_wires_A47 at hf
        refine g_iload 7 C (ckD_get k_X10_wires_2 18 rfl) rfl ?_
        refine g_iconst (v := (1 : Int32)) C (ckD_get k_X10_wires_2 19 rfl) (by decide) ?_
        have hJ_191 : ∀ (p1_18 : Int32), f_X10_wires_J191 x2_4 p1_18 = some rr_22 → G K (0, 0) 191 [(0, .ref (K.2.1.1 + 69)), (1, .int p1_18), (2, .int x2_4)] [] M_1 := by
          intro p1_18 hf
          unfold f_X10_wires_J191 at hf
          obtain ⟨x2_19, ex2_19, hf⟩ := lt_e hf
          refine g_iinc (lv' := [(2, _), (0, _), (1, _)]) 2 C (ckD_get k_X10_wires_2 31 rfl) rfl ex2_19 hL2 rfl ?_
          refine g_goto C (ckD_get k_X10_wires_2 32 rfl) ?_
          refine G.sub [1, 2, 0] rfl ?_
          cases hf
          exact hn_22 _ rfl
        refine g_icmp_le C (ckD_get k_X10_wires_2 20 rfl) (fun c_20 => ?_) (fun c_20 => ?_)
        · have hf := if_t hf c_20
          refine G.sub [0, 1, 2] rfl ?_
          exact hJ_191 _ hf
        · have hf := if_f hf c_20
          refine g_iload_n 1 C (ckD_get k_X10_wires_2 21 rfl) rfl rfl ?_
          refine g_iload 4 C (ckD_get k_X10_wires_2 22 rfl) rfl ?_
          refine g_iload_n 3 C (ckD_get k_X10_wires_2 23 rfl) rfl rfl ?_
          refine g_isub C (ckD_get k_X10_wires_2 24 rfl) ?_
          refine g_iload 6 C (ckD_get k_X10_wires_2 25 rfl) rfl ?_
          refine g_iadd C (ckD_get k_X10_wires_2 26 rfl) ?_
          refine g_iload 5 C (ckD_get k_X10_wires_2 27 rfl) rfl ?_
          refine g_isub C (ckD_get k_X10_wires_2 28 rfl) ?_
          refine g_iadd C (ckD_get k_X10_wires_2 29 rfl) ?_
          obtain ⟨x1_21, ex1_21, hf⟩ := lt_e hf
          refine topI ex1_21 ?_
          refine g_istore_n (lv' := [(1, _), (0, _), (2, _), (3, _), (4, _), (5, _), (6, _), (7, _)]) C (ckD_get k_X10_wires_2 30 rfl) rfl hL1 rfl ?_
          refine G.sub [1, 0, 2] rfl ?_
          exact hJ_191 _ hf
      refine loop_e (x := (x3_13, x4_14, x5_15, x6_16, x7_17)) (P := fun (v : (Int32 × Int32 × Int32 × Int32 × Int32 × Int32)) => G K (0, 0) 47 [(0, .ref (K.2.1.1 + 69)), (1, .int x1_3), (2, .int x2_4), (3, .int v.1), (4, .int v.2.1), (5, .int v.2.2.1), (6, .int v.2.2.2.1), (7, .int v.2.2.2.2.1), (8, .int v.2.2.2.2.2)] [] M_1) ?_ FU _ hx_47
      intro v rr_47 hf hn_47 hz_47
      obtain ⟨x3_7, x4_8, x5_9, x6_10, x7_11, x8_12⟩ := v
      have hf : f_X10_wires_L47 M_1 x2_4 x3_7 x4_8 x5_9 x6_10 x7_11 x8_12 = some rr_47 := hf
      show G K (0, 0) 47 [(0, .ref (K.2.1.1 + 69)), (1, .int x1_3), (2, .int x2_4), (3, .int x3_7), (4, .int x4_8), (5, .int x5_9), (6, .int x6_10), (7, .int x7_11), (8, .int x8_12)] [] M_1
      unfold f_X10_wires_L47 at hf
      refine g_iload 8 C (ckD_get k_X10_wires_0 29 rfl) rfl ?_
      refine g_aload_n 0 C (ckD_get k_X10_wires_0 30 rfl) rfl rfl ?_
      refine g_getI C (ckD_get k_X10_wires_0 31 rfl) fk_X10_124 T69 rfl ?_
      refine g_icmp_ge C (ckD_get k_X10_wires_0 32 rfl) (fun c_22 => ?_) (fun c_22 => ?_)
      · have hf := if_t hf c_22
        refine G.sub [0, 1, 2, 3, 4, 5, 6, 7] rfl ?_
        cases hf
        cases hz_47 _ rfl
        exact hE_47
      · have hf := if_f hf c_22
        refine g_aload_n 0 C (ckD_get k_X10_wires_0 33 rfl) rfl rfl ?_
        refine g_getR C (ckD_get k_X10_wires_0 34 rfl) fk_X10_16 T69 rfl ?_
        refine g_iload_n 2 C (ckD_get k_X10_wires_0 35 rfl) rfl rfl ?_
        obtain ⟨v_23, hi_24, ev_23, hf⟩ := rdI_e hf
        refine n_iald C (ckD_get k_X10_wires_0 36 rfl) T72 hi_24 ev_23 ?_
        refine g_iload 8 C (ckD_get k_X10_wires_0 37 rfl) rfl ?_
        refine g_ishr C (ckD_get k_X10_wires_0 38 rfl) ?_
        refine g_iconst (v := (1 : Int32)) C (ckD_get k_X10_wires_0 39 rfl) (by decide) ?_
        refine g_iand C (ckD_get k_X10_wires_1 0 rfl) ?_
        have hJ_166 : ∀ (p3_25 : Int32) (p4_26 : Int32) (p5_27 : Int32) (p6_28 : Int32) (p7_29 : Int32), f_X10_wires_J166 x8_12 p3_25 p4_26 p5_27 p6_28 p7_29 = some rr_47 → G K (0, 0) 166 [(0, .ref (K.2.1.1 + 69)), (1, .int x1_3), (2, .int x2_4), (3, .int p3_25), (4, .int p4_26), (5, .int p5_27), (6, .int p6_28), (7, .int p7_29), (8, .int x8_12)] [] M_1 := by
          intro p3_25 p4_26 p5_27 p6_28 p7_29 hf
          unfold f_X10_wires_J166 at hf
          obtain ⟨x8_30, ex8_30, hf⟩ := lt_e hf
          refine g_iinc (lv' := [(8, _), (0, _), (1, _), (2, _), (3, _), (4, _), (5, _), (6, _), (7, _)]) 8 C (ckD_get k_X10_wires_2 16 rfl) rfl ex8_30 hL8 rfl ?_
          refine g_goto C (ckD_get k_X10_wires_2 17 rfl) ?_
          refine G.sub [1, 2, 3, 4, 5, 6, 7, 8, 0] rfl ?_
          cases hf
          exact hn_47 _ rfl
        refine g_if_ne C (ckD_get k_X10_wires_1 1 rfl) (fun c_31 => ?_) (fun c_31 => ?_)
        · have hf := if_f hf c_31
          obtain ⟨x7_32, ex7_32, hf⟩ := lt_e hf
          refine g_iinc (lv' := [(7, _), (0, _), (1, _), (2, _), (3, _), (4, _), (5, _), (6, _), (8, _)]) 7 C (ckD_get k_X10_wires_1 3 rfl) rfl ex7_32 hL7 rfl ?_
          refine g_iload_n 4 C (ckD_get k_X10_wires_1 4 rfl) rfl rfl ?_
          refine g_iconst (v := (2 : Int32)) C (ckD_get k_X10_wires_1 5 rfl) (by decide) ?_
          refine g_aload_n 1 C (ckD_get k_X10_wires_1 6 rfl) rfl rfl ?_
          refine g_getR C (ckD_get k_X10_wires_1 7 rfl) fk_X10_27 T69 rfl ?_
          refine g_iload 8 C (ckD_get k_X10_wires_1 8 rfl) rfl ?_
          obtain ⟨v_33, hi_34, ev_33, hf⟩ := rdI_e hf
          refine n_iald C (ckD_get k_X10_wires_1 9 rfl) T74 hi_34 ev_33 ?_
          refine g_imul C (ckD_get k_X10_wires_1 10 rfl) ?_
          refine g_aload_n 1 C (ckD_get k_X10_wires_1 11 rfl) rfl rfl ?_
          refine g_iload 8 C (ckD_get k_X10_wires_1 12 rfl) rfl ?_
          obtain ⟨r_36, hr_35, hf⟩ := bd_e hf
          refine n_cV [.int x8_12] [.int ((2 : Int32) * v_33), .int x3_7] C (ckD_get k_X10_wires_1 13 rfl) vk_X10_152 (t_X10_wide C.tr _ _ _ hr_35) T69 rfl rfl (Nat.le_of_ble_eq_true rfl) (by decide) hB rfl ?_
          refine g_iadd C (ckD_get k_X10_wires_1 14 rfl) ?_
          refine n_mmin C (ckD_get k_X10_wires_1 15 rfl) mk_X10_245 (by decide) (Nat.le_of_ble_eq_true rfl) hB ?_
          obtain ⟨x3_37, ex3_37, hf⟩ := lt_e hf
          refine topI ex3_37 ?_
          refine g_istore_n (lv' := [(3, _), (7, _), (0, _), (1, _), (2, _), (4, _), (5, _), (6, _), (8, _)]) C (ckD_get k_X10_wires_1 16 rfl) rfl hL3 rfl ?_
          refine g_iload 5 C (ckD_get k_X10_wires_1 17 rfl) rfl ?_
          refine g_iconst (v := (2 : Int32)) C (ckD_get k_X10_wires_1 18 rfl) (by decide) ?_
          refine g_aload_n 2 C (ckD_get k_X10_wires_1 19 rfl) rfl rfl ?_
          refine g_getR C (ckD_get k_X10_wires_1 20 rfl) fk_X10_27 T69 rfl ?_
          refine g_iload 8 C (ckD_get k_X10_wires_1 21 rfl) rfl ?_
          obtain ⟨v_38, hi_39, ev_38, hf⟩ := rdI_e hf
          refine n_iald C (ckD_get k_X10_wires_1 22 rfl) T74 hi_39 ev_38 ?_
          refine g_imul C (ckD_get k_X10_wires_1 23 rfl) ?_
          refine g_aload_n 2 C (ckD_get k_X10_wires_1 24 rfl) rfl rfl ?_
          refine g_iload 8 C (ckD_get k_X10_wires_1 25 rfl) rfl ?_
          obtain ⟨r_41, hr_40, hf⟩ := bd_e hf
          refine n_cV [.int x8_12] [.int ((2 : Int32) * v_38), .int x4_8] C (ckD_get k_X10_wires_1 26 rfl) vk_X10_152 (t_X10_wide C.tr _ _ _ hr_40) T69 rfl rfl (Nat.le_of_ble_eq_true rfl) (by decide) hB rfl ?_
          refine g_iadd C (ckD_get k_X10_wires_1 27 rfl) ?_
          refine n_mmax C (ckD_get k_X10_wires_1 28 rfl) mk_X10_156 (by decide) (Nat.le_of_ble_eq_true rfl) hB ?_
          obtain ⟨x4_42, ex4_42, hf⟩ := lt_e hf
          refine topI ex4_42 ?_
          refine g_istore (lv' := [(4, _), (3, _), (7, _), (0, _), (1, _), (2, _), (5, _), (6, _), (8, _)]) C (ckD_get k_X10_wires_1 29 rfl) hL4 rfl ?_
          refine g_iload 6 C (ckD_get k_X10_wires_1 30 rfl) rfl ?_
          refine g_iconst (v := (2 : Int32)) C (ckD_get k_X10_wires_1 31 rfl) (by decide) ?_
          refine g_aload_n 3 C (ckD_get k_X10_wires_1 32 rfl) rfl rfl ?_
          refine g_getR C (ckD_get k_X10_wires_1 33 rfl) fk_X10_30 T69 rfl ?_
          refine g_iload 8 C (ckD_get k_X10_wires_1 34 rfl) rfl ?_
          obtain ⟨v_43, hi_44, ev_43, hf⟩ := rdI_e hf
          refine n_iald C (ckD_get k_X10_wires_1 35 rfl) T75 hi_44 ev_43 ?_
          refine g_imul C (ckD_get k_X10_wires_1 36 rfl) ?_
          refine g_aload_n 3 C (ckD_get k_X10_wires_1 37 rfl) rfl rfl ?_
          refine g_iload 8 C (ckD_get k_X10_wires_1 38 rfl) rfl ?_
          obtain ⟨r_46, hr_45, hf⟩ := bd_e hf
          refine n_cV [.int x8_12] [.int ((2 : Int32) * v_43), .int x5_9] C (ckD_get k_X10_wires_1 39 rfl) vk_X10_162 (t_X10_high C.tr _ _ _ hr_45) T69 rfl rfl (Nat.le_of_ble_eq_true rfl) (by decide) hB rfl ?_
          refine g_iadd C (ckD_get k_X10_wires_2 0 rfl) ?_
          refine n_mmin C (ckD_get k_X10_wires_2 1 rfl) mk_X10_245 (by decide) (Nat.le_of_ble_eq_true rfl) hB ?_
          obtain ⟨x5_47, ex5_47, hf⟩ := lt_e hf
          refine topI ex5_47 ?_
          refine g_istore (lv' := [(5, _), (4, _), (3, _), (7, _), (0, _), (1, _), (2, _), (6, _), (8, _)]) C (ckD_get k_X10_wires_2 2 rfl) hL5 rfl ?_
          refine g_iload 7 C (ckD_get k_X10_wires_2 3 rfl) rfl ?_
          refine g_iconst (v := (2 : Int32)) C (ckD_get k_X10_wires_2 4 rfl) (by decide) ?_
          refine g_aload_n 4 C (ckD_get k_X10_wires_2 5 rfl) rfl rfl ?_
          refine g_getR C (ckD_get k_X10_wires_2 6 rfl) fk_X10_30 T69 rfl ?_
          refine g_iload 8 C (ckD_get k_X10_wires_2 7 rfl) rfl ?_
          obtain ⟨v_48, hi_49, ev_48, hf⟩ := rdI_e hf
          refine n_iald C (ckD_get k_X10_wires_2 8 rfl) T75 hi_49 ev_48 ?_
          refine g_imul C (ckD_get k_X10_wires_2 9 rfl) ?_
          refine g_aload_n 4 C (ckD_get k_X10_wires_2 10 rfl) rfl rfl ?_
          refine g_iload 8 C (ckD_get k_X10_wires_2 11 rfl) rfl ?_
          obtain ⟨r_51, hr_50, hf⟩ := bd_e hf
          refine n_cV [.int x8_12] [.int ((2 : Int32) * v_48), .int x6_10] C (ckD_get k_X10_wires_2 12 rfl) vk_X10_162 (t_X10_high C.tr _ _ _ hr_50) T69 rfl rfl (Nat.le_of_ble_eq_true rfl) (by decide) hB rfl ?_
          refine g_iadd C (ckD_get k_X10_wires_2 13 rfl) ?_
          refine n_mmax C (ckD_get k_X10_wires_2 14 rfl) mk_X10_156 (by decide) (Nat.le_of_ble_eq_true rfl) hB ?_
          obtain ⟨x6_52, ex6_52, hf⟩ := lt_e hf
          refine topI ex6_52 ?_
          refine g_istore (lv' := [(6, _), (5, _), (4, _), (3, _), (7, _), (0, _), (1, _), (2, _), (8, _)]) C (ckD_get k_X10_wires_2 15 rfl) hL6 rfl ?_
          refine G.sub [5, 6, 7, 3, 2, 1, 0, 4, 8] rfl ?_
          exact hJ_166 _ _ _ _ _ hf
        · have hf := if_t hf c_31
          refine g_goto C (ckD_get k_X10_wires_1 2 rfl) ?_
          exact hJ_166 _ _ _ _ _ hf
  · have hf := if_t hf c_2
    refine g_aload_n 0 C (ckD_get k_X10_wires_0 7 rfl) rfl rfl ?_
    obtain ⟨z_55, ez_55, hf⟩ := lt_e hf
    refine n_cV [] [] C (ckD_get k_X10_wires_0 8 rfl) vk_X10_134 (t_X10_fail C.tr _ _ ez_55) T69 rfl rfl (Nat.le_of_ble_eq_true rfl) (by decide) hB rfl ?_
    cases hf
    exact g_iret C (ckD_get k_X10_wires_0 9 rfl) hr hRv (Nat.le_refl _) (Nat.le_refl _)

set_option maxRecDepth 20000 in
theorem k_X10_ahead_0 : ckD cX10_ahead [(0, .iload_n 3, 1, 1, 0), (1, .ifCond .eq 45, 3, 4, 46), (4, .aload_n 0, 1, 5, 0), (5, .iload_n 1, 1, 6, 0), (6, .iload_n 2, 1, 7, 0), (7, .invokevirtual 211, 3, 10, 0), (10, .ifCond .ne 12, 3, 13, 22), (13, .aload_n 0, 1, 14, 0), (14, .iload_n 2, 1, 15, 0), (15, .iload_n 1, 1, 16, 0), (16, .invokevirtual 215, 3, 19, 0), (19, .ifCond .eq 25, 3, 22, 44), (22, .aload_n 0, 1, 23, 0), (23, .iload_n 1, 1, 24, 0), (24, .iload_n 2, 1, 25, 0), (25, .invokevirtual 215, 3, 28, 0), (28, .ifCond .ne 16, 3, 31, 44), (31, .aload_n 0, 1, 32, 0), (32, .iload_n 2, 1, 33, 0), (33, .iload_n 1, 1, 34, 0), (34, .invokevirtual 211, 3, 37, 0), (37, .ifCond .ne 7, 3, 40, 44), (40, .iconst 1, 1, 41, 0), (41, .goto 4, 3, 44, 45), (44, .iconst 0, 1, 45, 0), (45, .ireturn, 1, 46, 0), (46, .aload_n 0, 1, 47, 0), (47, .iload_n 1, 1, 48, 0), (48, .iload_n 2, 1, 49, 0), (49, .invokevirtual 211, 3, 52, 0), (52, .ifCond .ne 12, 3, 55, 64), (55, .aload_n 0, 1, 56, 0), (56, .iload_n 1, 1, 57, 0), (57, .iload_n 2, 1, 58, 0), (58, .invokevirtual 215, 3, 61, 0), (61, .ifCond .eq 25, 3, 64, 86), (64, .aload_n 0, 1, 65, 0), (65, .iload_n 2, 1, 66, 0), (66, .iload_n 1, 1, 67, 0), (67, .invokevirtual 211, 3, 70, 0)] = true := by decide +kernel
set_option maxRecDepth 20000 in
theorem k_X10_ahead_1 : ckD cX10_ahead [(70, .ifCond .ne 16, 3, 73, 86), (73, .aload_n 0, 1, 74, 0), (74, .iload_n 2, 1, 75, 0), (75, .iload_n 1, 1, 76, 0), (76, .invokevirtual 215, 3, 79, 0), (79, .ifCond .ne 7, 3, 82, 86), (82, .iconst 1, 1, 83, 0), (83, .goto 4, 3, 86, 87), (86, .iconst 0, 1, 87, 0), (87, .ireturn, 1, 88, 0)] = true := by decide +kernel
def f_X10_ahead_J64 (a1 : Int32) (a2 : Int32) (M : Mm) (_ : Unit) : Option Int32 := (f_X10_isLeftOf a2 a1 M).bind fun r_5 => if r_5 = 0 then (f_X10_isBelow a2 a1 M).bind fun r_8 => if r_8 = 0 then some (1 : Int32) else some (0 : Int32) else some (0 : Int32)
def f_X10_ahead_J22 (a1 : Int32) (a2 : Int32) (M : Mm) (_ : Unit) : Option Int32 := (f_X10_isBelow a1 a2 M).bind fun r_17 => if r_17 = 0 then (f_X10_isLeftOf a2 a1 M).bind fun r_20 => if r_20 = 0 then some (1 : Int32) else some (0 : Int32) else some (0 : Int32)
def f_X10_ahead (a1 : Int32) (a2 : Int32) (a3 : Int32) (M : Mm) : Option Int32 := if a3 = 0 then (f_X10_isLeftOf a1 a2 M).bind fun r_3 => if r_3 = 0 then (f_X10_isBelow a1 a2 M).bind fun r_12 => if r_12 = 0 then some (0 : Int32) else f_X10_ahead_J64 a1 a2 M () else f_X10_ahead_J64 a1 a2 M () else (f_X10_isLeftOf a1 a2 M).bind fun r_15 => if r_15 = 0 then (f_X10_isBelow a2 a1 M).bind fun r_24 => if r_24 = 0 then some (0 : Int32) else f_X10_ahead_J22 a1 a2 M () else f_X10_ahead_J22 a1 a2 M ()
set_option maxRecDepth 100000 in
set_option maxHeartbeats 4000000 in
theorem t_X10_ahead {E : Ev} {l : Launch} (htr : l.stackTraces = false) (a1 : Int32) (a2 : Int32) (a3 : Int32) (M : Mm) (r : Int32) (hf : f_X10_ahead a1 a2 a3 M = some r) : CM E l 2 0 0 yX10_ahead cX10_ahead 4 (some .boolean) [.ref (E.1 + 69), .int a1, .int a2, .int a3] M (some (.int r)) M := by
  refine CM.of htr (by decide +kernel) (Nat.le_of_ble_eq_true rfl) ?_
  intro K hE hL hl hR0 C hr hRv
  subst hE
  subst hl
  have C : Cx K cX10_ahead RX10 2 := C
  have hB : (0 : Nat) ≤ K.1.R.cells ∧ 0 ≤ K.1.R.slots := ⟨Nat.zero_le _, Nat.zero_le _⟩
  show G K (0, 0) 0 [(0, .ref (K.2.1.1 + 69)), (1, .int a1), (2, .int a2), (3, .int a3)] [] M
  unfold f_X10_ahead at hf
  refine g_iload_n 3 C (ckD_get k_X10_ahead_0 0 rfl) rfl rfl ?_
  refine g_if_eq C (ckD_get k_X10_ahead_0 1 rfl) (fun c_1 => ?_) (fun c_1 => ?_)
  · have hf := if_t hf c_1
    refine g_aload_n 0 C (ckD_get k_X10_ahead_0 26 rfl) rfl rfl ?_
    refine g_iload_n 1 C (ckD_get k_X10_ahead_0 27 rfl) rfl rfl ?_
    refine g_iload_n 2 C (ckD_get k_X10_ahead_0 28 rfl) rfl rfl ?_
    obtain ⟨r_3, hr_2, hf⟩ := bd_e hf
    refine n_cV [.int a1, .int a2] [] C (ckD_get k_X10_ahead_0 29 rfl) vk_X10_211 (t_X10_isLeftOf C.tr _ _ _ _ hr_2) T69 rfl rfl (Nat.le_of_ble_eq_true rfl) (by decide) hB rfl ?_
    have hJ_64 : ∀ (_ : Unit), f_X10_ahead_J64 a1 a2 M () = some r → G K (0, 0) 64 [(0, .ref (K.2.1.1 + 69)), (1, .int a1), (2, .int a2)] [] M := by
      intro _ hf
      unfold f_X10_ahead_J64 at hf
      refine g_aload_n 0 C (ckD_get k_X10_ahead_0 36 rfl) rfl rfl ?_
      refine g_iload_n 2 C (ckD_get k_X10_ahead_0 37 rfl) rfl rfl ?_
      refine g_iload_n 1 C (ckD_get k_X10_ahead_0 38 rfl) rfl rfl ?_
      obtain ⟨r_5, hr_4, hf⟩ := bd_e hf
      refine n_cV [.int a2, .int a1] [] C (ckD_get k_X10_ahead_0 39 rfl) vk_X10_211 (t_X10_isLeftOf C.tr _ _ _ _ hr_4) T69 rfl rfl (Nat.le_of_ble_eq_true rfl) (by decide) hB rfl ?_
      refine g_if_ne C (ckD_get k_X10_ahead_1 0 rfl) (fun c_6 => ?_) (fun c_6 => ?_)
      · have hf := if_f hf c_6
        refine g_iconst (v := (0 : Int32)) C (ckD_get k_X10_ahead_1 8 rfl) (by decide) ?_
        cases hf
        exact g_zret C (ckD_get k_X10_ahead_1 9 rfl) hr rfl hRv (Nat.le_refl _) (Nat.le_refl _)
      · have hf := if_t hf c_6
        refine g_aload_n 0 C (ckD_get k_X10_ahead_1 1 rfl) rfl rfl ?_
        refine g_iload_n 2 C (ckD_get k_X10_ahead_1 2 rfl) rfl rfl ?_
        refine g_iload_n 1 C (ckD_get k_X10_ahead_1 3 rfl) rfl rfl ?_
        obtain ⟨r_8, hr_7, hf⟩ := bd_e hf
        refine n_cV [.int a2, .int a1] [] C (ckD_get k_X10_ahead_1 4 rfl) vk_X10_215 (t_X10_isBelow C.tr _ _ _ _ hr_7) T69 rfl rfl (Nat.le_of_ble_eq_true rfl) (by decide) hB rfl ?_
        refine g_if_ne C (ckD_get k_X10_ahead_1 5 rfl) (fun c_9 => ?_) (fun c_9 => ?_)
        · have hf := if_f hf c_9
          refine g_iconst (v := (0 : Int32)) C (ckD_get k_X10_ahead_1 8 rfl) (by decide) ?_
          cases hf
          exact g_zret C (ckD_get k_X10_ahead_1 9 rfl) hr rfl hRv (Nat.le_refl _) (Nat.le_refl _)
        · have hf := if_t hf c_9
          refine g_iconst (v := (1 : Int32)) C (ckD_get k_X10_ahead_1 6 rfl) (by decide) ?_
          refine g_goto C (ckD_get k_X10_ahead_1 7 rfl) ?_
          cases hf
          exact g_zret C (ckD_get k_X10_ahead_1 9 rfl) hr rfl hRv (Nat.le_refl _) (Nat.le_refl _)
    refine g_if_ne C (ckD_get k_X10_ahead_0 30 rfl) (fun c_10 => ?_) (fun c_10 => ?_)
    · have hf := if_f hf c_10
      refine G.sub [0, 1, 2] rfl ?_
      exact hJ_64 () hf
    · have hf := if_t hf c_10
      refine g_aload_n 0 C (ckD_get k_X10_ahead_0 31 rfl) rfl rfl ?_
      refine g_iload_n 1 C (ckD_get k_X10_ahead_0 32 rfl) rfl rfl ?_
      refine g_iload_n 2 C (ckD_get k_X10_ahead_0 33 rfl) rfl rfl ?_
      obtain ⟨r_12, hr_11, hf⟩ := bd_e hf
      refine n_cV [.int a1, .int a2] [] C (ckD_get k_X10_ahead_0 34 rfl) vk_X10_215 (t_X10_isBelow C.tr _ _ _ _ hr_11) T69 rfl rfl (Nat.le_of_ble_eq_true rfl) (by decide) hB rfl ?_
      refine g_if_eq C (ckD_get k_X10_ahead_0 35 rfl) (fun c_13 => ?_) (fun c_13 => ?_)
      · have hf := if_t hf c_13
        refine g_iconst (v := (0 : Int32)) C (ckD_get k_X10_ahead_1 8 rfl) (by decide) ?_
        cases hf
        exact g_zret C (ckD_get k_X10_ahead_1 9 rfl) hr rfl hRv (Nat.le_refl _) (Nat.le_refl _)
      · have hf := if_f hf c_13
        refine G.sub [0, 1, 2] rfl ?_
        exact hJ_64 () hf
  · have hf := if_f hf c_1
    refine g_aload_n 0 C (ckD_get k_X10_ahead_0 2 rfl) rfl rfl ?_
    refine g_iload_n 1 C (ckD_get k_X10_ahead_0 3 rfl) rfl rfl ?_
    refine g_iload_n 2 C (ckD_get k_X10_ahead_0 4 rfl) rfl rfl ?_
    obtain ⟨r_15, hr_14, hf⟩ := bd_e hf
    refine n_cV [.int a1, .int a2] [] C (ckD_get k_X10_ahead_0 5 rfl) vk_X10_211 (t_X10_isLeftOf C.tr _ _ _ _ hr_14) T69 rfl rfl (Nat.le_of_ble_eq_true rfl) (by decide) hB rfl ?_
    have hJ_22 : ∀ (_ : Unit), f_X10_ahead_J22 a1 a2 M () = some r → G K (0, 0) 22 [(0, .ref (K.2.1.1 + 69)), (1, .int a1), (2, .int a2)] [] M := by
      intro _ hf
      unfold f_X10_ahead_J22 at hf
      refine g_aload_n 0 C (ckD_get k_X10_ahead_0 12 rfl) rfl rfl ?_
      refine g_iload_n 1 C (ckD_get k_X10_ahead_0 13 rfl) rfl rfl ?_
      refine g_iload_n 2 C (ckD_get k_X10_ahead_0 14 rfl) rfl rfl ?_
      obtain ⟨r_17, hr_16, hf⟩ := bd_e hf
      refine n_cV [.int a1, .int a2] [] C (ckD_get k_X10_ahead_0 15 rfl) vk_X10_215 (t_X10_isBelow C.tr _ _ _ _ hr_16) T69 rfl rfl (Nat.le_of_ble_eq_true rfl) (by decide) hB rfl ?_
      refine g_if_ne C (ckD_get k_X10_ahead_0 16 rfl) (fun c_18 => ?_) (fun c_18 => ?_)
      · have hf := if_f hf c_18
        refine g_iconst (v := (0 : Int32)) C (ckD_get k_X10_ahead_0 24 rfl) (by decide) ?_
        cases hf
        exact g_zret C (ckD_get k_X10_ahead_0 25 rfl) hr rfl hRv (Nat.le_refl _) (Nat.le_refl _)
      · have hf := if_t hf c_18
        refine g_aload_n 0 C (ckD_get k_X10_ahead_0 17 rfl) rfl rfl ?_
        refine g_iload_n 2 C (ckD_get k_X10_ahead_0 18 rfl) rfl rfl ?_
        refine g_iload_n 1 C (ckD_get k_X10_ahead_0 19 rfl) rfl rfl ?_
        obtain ⟨r_20, hr_19, hf⟩ := bd_e hf
        refine n_cV [.int a2, .int a1] [] C (ckD_get k_X10_ahead_0 20 rfl) vk_X10_211 (t_X10_isLeftOf C.tr _ _ _ _ hr_19) T69 rfl rfl (Nat.le_of_ble_eq_true rfl) (by decide) hB rfl ?_
        refine g_if_ne C (ckD_get k_X10_ahead_0 21 rfl) (fun c_21 => ?_) (fun c_21 => ?_)
        · have hf := if_f hf c_21
          refine g_iconst (v := (0 : Int32)) C (ckD_get k_X10_ahead_0 24 rfl) (by decide) ?_
          cases hf
          exact g_zret C (ckD_get k_X10_ahead_0 25 rfl) hr rfl hRv (Nat.le_refl _) (Nat.le_refl _)
        · have hf := if_t hf c_21
          refine g_iconst (v := (1 : Int32)) C (ckD_get k_X10_ahead_0 22 rfl) (by decide) ?_
          refine g_goto C (ckD_get k_X10_ahead_0 23 rfl) ?_
          cases hf
          exact g_zret C (ckD_get k_X10_ahead_0 25 rfl) hr rfl hRv (Nat.le_refl _) (Nat.le_refl _)
    refine g_if_ne C (ckD_get k_X10_ahead_0 6 rfl) (fun c_22 => ?_) (fun c_22 => ?_)
    · have hf := if_f hf c_22
      refine G.sub [0, 1, 2] rfl ?_
      exact hJ_22 () hf
    · have hf := if_t hf c_22
      refine g_aload_n 0 C (ckD_get k_X10_ahead_0 7 rfl) rfl rfl ?_
      refine g_iload_n 2 C (ckD_get k_X10_ahead_0 8 rfl) rfl rfl ?_
      refine g_iload_n 1 C (ckD_get k_X10_ahead_0 9 rfl) rfl rfl ?_
      obtain ⟨r_24, hr_23, hf⟩ := bd_e hf
      refine n_cV [.int a2, .int a1] [] C (ckD_get k_X10_ahead_0 10 rfl) vk_X10_215 (t_X10_isBelow C.tr _ _ _ _ hr_23) T69 rfl rfl (Nat.le_of_ble_eq_true rfl) (by decide) hB rfl ?_
      refine g_if_eq C (ckD_get k_X10_ahead_0 11 rfl) (fun c_25 => ?_) (fun c_25 => ?_)
      · have hf := if_t hf c_25
        refine g_iconst (v := (0 : Int32)) C (ckD_get k_X10_ahead_0 24 rfl) (by decide) ?_
        cases hf
        exact g_zret C (ckD_get k_X10_ahead_0 25 rfl) hr rfl hRv (Nat.le_refl _) (Nat.le_refl _)
      · have hf := if_f hf c_25
        refine G.sub [0, 1, 2] rfl ?_
        exact hJ_22 () hf

set_option maxRecDepth 20000 in
theorem k_X10_sort_0 : ckD cX10_sort [(0, .iconst 1, 1, 1, 0), (1, .aload_n 0, 1, 2, 0), (2, .getfield 124, 3, 5, 0), (5, .ishl, 1, 6, 0), (6, .iconst 1, 1, 7, 0), (7, .isub, 1, 8, 0), (8, .istore_n 3, 1, 9, 0), (9, .iconst 0, 1, 10, 0), (10, .istore 4, 2, 12, 0), (12, .iload 4, 2, 14, 0), (14, .aload_n 0, 1, 15, 0), (15, .getfield 124, 3, 18, 0), (18, .if_icmp .ge 138, 3, 21, 156), (21, .iconst (-1), 1, 22, 0), (22, .istore 5, 2, 24, 0), (24, .aload_n 0, 1, 25, 0), (25, .getfield 124, 3, 28, 0), (28, .iconst 1, 1, 29, 0), (29, .isub, 1, 30, 0), (30, .istore 6, 2, 32, 0), (32, .iload 6, 2, 34, 0), (34, .ifCond .lt 93, 3, 37, 127), (37, .iload_n 3, 1, 38, 0), (38, .iload 6, 2, 40, 0), (40, .ishr, 1, 41, 0), (41, .iconst 1, 1, 42, 0), (42, .iand, 1, 43, 0), (43, .iconst 1, 1, 44, 0), (44, .if_icmp .ne 7, 3, 47, 51), (47, .iconst 1, 1, 48, 0), (48, .goto 4, 3, 51, 52), (51, .iconst 0, 1, 52, 0), (52, .istore 7, 2, 54, 0), (54, .iconst 0, 1, 55, 0), (55, .istore 8, 2, 57, 0), (57, .iload 8, 2, 59, 0), (59, .aload_n 0, 1, 60, 0), (60, .getfield 124, 3, 63, 0), (63, .if_icmp .ge 49, 3, 66, 112), (66, .iload 7, 2, 68, 0)] = true := by decide +kernel
set_option maxRecDepth 20000 in
theorem k_X10_sort_1 : ckD cX10_sort [(68, .ifCond .eq 44, 3, 71, 112), (71, .iload 8, 2, 73, 0), (73, .iload 6, 2, 75, 0), (75, .if_icmp .eq 24, 3, 78, 99), (78, .iload_n 3, 1, 79, 0), (79, .iload 8, 2, 81, 0), (81, .ishr, 1, 82, 0), (82, .iconst 1, 1, 83, 0), (83, .iand, 1, 84, 0), (84, .ifCond .eq 15, 3, 87, 99), (87, .aload_n 0, 1, 88, 0), (88, .iload 8, 2, 90, 0), (90, .iload 6, 2, 92, 0), (92, .iload_n 1, 1, 93, 0), (93, .invokevirtual 248, 3, 96, 0), (96, .ifCond .ne 7, 3, 99, 103), (99, .iconst 1, 1, 100, 0), (100, .goto 4, 3, 103, 104), (103, .iconst 0, 1, 104, 0), (104, .istore 7, 2, 106, 0), (106, .iinc 8 1, 3, 109, 0), (109, .goto (-52), 3, 112, 57), (112, .iload 7, 2, 114, 0), (114, .ifCond .eq 7, 3, 117, 121), (117, .iload 6, 2, 119, 0), (119, .istore 5, 2, 121, 0), (121, .iinc 6 (-1), 3, 124, 0), (124, .goto (-92), 3, 127, 32), (127, .iload 5, 2, 129, 0), (129, .iconst (-1), 1, 130, 0), (130, .if_icmp .ne 5, 3, 133, 135), (133, .iconst 0, 1, 134, 0), (134, .ireturn, 1, 135, 0), (135, .aload_n 2, 1, 136, 0), (136, .iload 4, 2, 138, 0), (138, .iload 5, 2, 140, 0), (140, .iastore, 1, 141, 0), (141, .iload_n 3, 1, 142, 0), (142, .iconst 1, 1, 143, 0), (143, .iload 5, 2, 145, 0)] = true := by decide +kernel
set_option maxRecDepth 20000 in
theorem k_X10_sort_2 : ckD cX10_sort [(145, .ishl, 1, 146, 0), (146, .iconst (-1), 1, 147, 0), (147, .ixor, 1, 148, 0), (148, .iand, 1, 149, 0), (149, .istore_n 3, 1, 150, 0), (150, .iinc 4 1, 3, 153, 0), (153, .goto (-141), 3, 156, 12), (156, .iconst 1, 1, 157, 0), (157, .ireturn, 1, 158, 0)] = true := by decide +kernel
def f_X10_sort_A12 (M_5 : Mm) : Option (Int32 × Mm) := some ((1 : Int32), M_5)
def f_X10_sort_A32 (k2 : Nat) (x3_2 : Int32) (x4_3 : Int32) (M_4 : Mm) (x5_10 : Int32) : Option ((Int32 × Int32 × Mm) ⊕ (Mm ⊕ (Int32 × Mm))) := if x5_10 = (-1 : Int32) then some (.inr (.inr ((0 : Int32), M_4))) else wrI 12 M_4 k2 x4_3 x5_10 fun M_12 => lt1 (x3_2 &&& (((1 : Int32) <<< (x5_10 &&& 31)) ^^^ (-1 : Int32))) fun x3_14 => lt1 (x4_3 + 1) fun x4_15 => some (.inl (x3_14, x4_15, M_12))
def f_X10_sort_J121 (x6_9 : Int32) (p5_21 : Int32) : Option ((Int32 × Int32) ⊕ Int32) := lt1 (x6_9 + (-1)) fun x6_22 => some (.inl (p5_21, x6_22))
def f_X10_sort_A57 (x5_8 : Int32) (x6_9 : Int32) (x7_20 : Int32) : Option ((Int32 × Int32) ⊕ Int32) := if x7_20 = 0 then f_X10_sort_J121 x6_9 x5_8 else f_X10_sort_J121 x6_9 x6_9
def f_X10_sort_J104 (x8_19 : Int32) (s_26 : Int32) : Option ((Int32 × Int32) ⊕ Int32) := lt1 (x8_19 + 1) fun x8_27 => some (.inl (s_26, x8_27))
def f_X10_sort_J99 (x8_19 : Int32) (_ : Unit) : Option ((Int32 × Int32) ⊕ Int32) := f_X10_sort_J104 x8_19 (1 : Int32)
def f_X10_sort_L57 (a1 : Int32) (x3_2 : Int32) (M_4 : Mm) (x6_9 : Int32) (x7_18 : Int32) (x8_19 : Int32) : Option ((Int32 × Int32) ⊕ Int32) := if (M_4.1 69 1) ≤ x8_19 then some (.inr x7_18) else if x7_18 = 0 then some (.inr x7_18) else if x8_19 = x6_9 then f_X10_sort_J99 x8_19 () else if ((x3_2 >>> (x8_19 &&& 31)) &&& (1 : Int32)) = 0 then f_X10_sort_J99 x8_19 () else (f_X10_ahead x8_19 x6_9 a1 M_4).bind fun r_31 => if r_31 = 0 then f_X10_sort_J99 x8_19 () else f_X10_sort_J104 x8_19 (0 : Int32)
def f_X10_sort_J52 (a1 : Int32) (x3_2 : Int32) (M_4 : Mm) (x5_8 : Int32) (x6_9 : Int32) (s_17 : Int32) : Option ((Int32 × Int32) ⊕ Int32) := (loop (fun v => f_X10_sort_L57 a1 x3_2 M_4 x6_9 v.1 v.2) FU (s_17, (0 : Int32))).bind fun z => f_X10_sort_A57 x5_8 x6_9 z
def f_X10_sort_L32 (a1 : Int32) (x3_2 : Int32) (M_4 : Mm) (x5_8 : Int32) (x6_9 : Int32) : Option ((Int32 × Int32) ⊕ Int32) := if x6_9 < 0 then some (.inr x5_8) else if ((x3_2 >>> (x6_9 &&& 31)) &&& (1 : Int32)) = (1 : Int32) then f_X10_sort_J52 a1 x3_2 M_4 x5_8 x6_9 (1 : Int32) else f_X10_sort_J52 a1 x3_2 M_4 x5_8 x6_9 (0 : Int32)
def f_X10_sort_L12 (a1 : Int32) (k2 : Nat) (x3_2 : Int32) (x4_3 : Int32) (M_4 : Mm) : Option ((Int32 × Int32 × Mm) ⊕ (Mm ⊕ (Int32 × Mm))) := if (M_4.1 69 1) ≤ x4_3 then some (.inr (.inl M_4)) else lt1 ((M_4.1 69 1) - (1 : Int32)) fun x6_7 => (loop (fun v => f_X10_sort_L32 a1 x3_2 M_4 v.1 v.2) FU ((-1 : Int32), x6_7)).bind fun z => f_X10_sort_A32 k2 x3_2 x4_3 M_4 z
def f_X10_sort (a1 : Int32) (k2 : Nat) (M : Mm) : Option (Int32 × Mm) := lt1 (((1 : Int32) <<< ((M.1 69 1) &&& 31)) - (1 : Int32)) fun x3_1 => (loop (fun v => f_X10_sort_L12 a1 k2 v.1 v.2.1 v.2.2) FU (x3_1, (0 : Int32), M)).bind fun x => Sum.elim (fun z => f_X10_sort_A12 z) (fun o => some o) x
set_option maxRecDepth 100000 in
set_option maxHeartbeats 4000000 in
theorem t_X10_sort {E : Ev} {l : Launch} (htr : l.stackTraces = false) (a1 : Int32) (k2 : Nat) (hk2 : LT[k2]? = some (0, 12, [])) (M : Mm) (r : (Int32 × Mm)) (hf : f_X10_sort a1 k2 M = some r) : CM E l 3 0 0 yX10_sort cX10_sort 9 (some .boolean) [.ref (E.1 + 69), .int a1, .ref (E.1 + k2)] M (some (.int r.1)) r.2 := by
  refine CM.of htr (by decide +kernel) (Nat.le_of_ble_eq_true rfl) ?_
  intro K hE hL hl hR0 C hr hRv
  subst hE
  subst hl
  have C : Cx K cX10_sort RX10 3 := C
  have hB : (0 : Nat) ≤ K.1.R.cells ∧ 0 ≤ K.1.R.slots := ⟨Nat.zero_le _, Nat.zero_le _⟩
  have hL3 : 3 < K.2.2.1 := by rw [hL]; decide
  have hL4 : 4 < K.2.2.1 := by rw [hL]; decide
  have hL5 : 5 < K.2.2.1 := by rw [hL]; decide
  have hL6 : 6 < K.2.2.1 := by rw [hL]; decide
  have hL7 : 7 < K.2.2.1 := by rw [hL]; decide
  have hL8 : 8 < K.2.2.1 := by rw [hL]; decide
  show G K (0, 0) 0 [(0, .ref (K.2.1.1 + 69)), (1, .int a1), (2, .ref (K.2.1.1 + k2))] [] M
  unfold f_X10_sort at hf
  refine g_iconst (v := (1 : Int32)) C (ckD_get k_X10_sort_0 0 rfl) (by decide) ?_
  refine g_aload_n 0 C (ckD_get k_X10_sort_0 1 rfl) rfl rfl ?_
  refine g_getI C (ckD_get k_X10_sort_0 2 rfl) fk_X10_124 T69 rfl ?_
  refine g_ishl C (ckD_get k_X10_sort_0 3 rfl) ?_
  refine g_iconst (v := (1 : Int32)) C (ckD_get k_X10_sort_0 4 rfl) (by decide) ?_
  refine g_isub C (ckD_get k_X10_sort_0 5 rfl) ?_
  obtain ⟨x3_1, ex3_1, hf⟩ := lt_e hf
  refine topI ex3_1 ?_
  refine g_istore_n (lv' := [(3, _), (0, _), (1, _), (2, _)]) C (ckD_get k_X10_sort_0 6 rfl) rfl hL3 rfl ?_
  refine g_iconst (v := (0 : Int32)) C (ckD_get k_X10_sort_0 7 rfl) (by decide) ?_
  refine g_istore (lv' := [(4, _), (3, _), (0, _), (1, _), (2, _)]) C (ckD_get k_X10_sort_0 8 rfl) hL4 rfl ?_
  refine G.sub [2, 3, 4, 1, 0] rfl ?_
  obtain ⟨xx_12, hx_12, hf⟩ := bd_e hf
  have hE_12 : ∀ (M_5 : Mm), xx_12 = .inl M_5 → G K (0, 0) 156 [] [] M_5 := by
    intro M_5 ex
    subst ex
    have hf : f_X10_sort_A12 M_5 = some r := hf
    unfold f_X10_sort_A12 at hf
    refine g_iconst (v := (1 : Int32)) C (ckD_get k_X10_sort_2 7 rfl) (by decide) ?_
    cases hf
    exact g_zret C (ckD_get k_X10_sort_2 8 rfl) hr rfl hRv (Nat.le_refl _) (Nat.le_refl _)
  have hO_12 : ∀ o, xx_12 = .inr o → o = r := by
    intro o eo
    subst eo
    have hf : some o = some r := hf
    cases hf
    rfl
  refine loop_e (x := xx_12) (P := fun (v : (Int32 × Int32 × Mm)) => G K (0, 0) 12 [(0, .ref (K.2.1.1 + 69)), (1, .int a1), (2, .ref (K.2.1.1 + k2)), (3, .int v.1), (4, .int v.2.1)] [] v.2.2) ?_ FU _ hx_12
  intro v rr_12 hf hn_12 hz_12
  obtain ⟨x3_2, x4_3, M_4⟩ := v
  have hf : f_X10_sort_L12 a1 k2 x3_2 x4_3 M_4 = some rr_12 := hf
  show G K (0, 0) 12 [(0, .ref (K.2.1.1 + 69)), (1, .int a1), (2, .ref (K.2.1.1 + k2)), (3, .int x3_2), (4, .int x4_3)] [] M_4
  unfold f_X10_sort_L12 at hf
  refine g_iload 4 C (ckD_get k_X10_sort_0 9 rfl) rfl ?_
  refine g_aload_n 0 C (ckD_get k_X10_sort_0 10 rfl) rfl rfl ?_
  refine g_getI C (ckD_get k_X10_sort_0 11 rfl) fk_X10_124 T69 rfl ?_
  refine g_icmp_ge C (ckD_get k_X10_sort_0 12 rfl) (fun c_6 => ?_) (fun c_6 => ?_)
  · have hf := if_t hf c_6
    refine G.sub [] rfl ?_
    cases hf
    exact hE_12 _ (hz_12 _ rfl).symm
  · have hf := if_f hf c_6
    refine g_iconst (v := (-1 : Int32)) C (ckD_get k_X10_sort_0 13 rfl) (by decide) ?_
    refine g_istore (lv' := [(5, _), (0, _), (1, _), (2, _), (3, _), (4, _)]) C (ckD_get k_X10_sort_0 14 rfl) hL5 rfl ?_
    refine g_aload_n 1 C (ckD_get k_X10_sort_0 15 rfl) rfl rfl ?_
    refine g_getI C (ckD_get k_X10_sort_0 16 rfl) fk_X10_124 T69 rfl ?_
    refine g_iconst (v := (1 : Int32)) C (ckD_get k_X10_sort_0 17 rfl) (by decide) ?_
    refine g_isub C (ckD_get k_X10_sort_0 18 rfl) ?_
    obtain ⟨x6_7, ex6_7, hf⟩ := lt_e hf
    refine topI ex6_7 ?_
    refine g_istore (lv' := [(6, _), (5, _), (0, _), (1, _), (2, _), (3, _), (4, _)]) C (ckD_get k_X10_sort_0 19 rfl) hL6 rfl ?_
    refine G.sub [2, 3, 4, 5, 6, 1, 0] rfl ?_
    obtain ⟨x5_10, hx_32, hf⟩ := bd_e hf
    have hE_32 : G K (0, 0) 127 [(0, .ref (K.2.1.1 + 69)), (1, .int a1), (2, .ref (K.2.1.1 + k2)), (3, .int x3_2), (4, .int x4_3), (5, .int x5_10)] [] M_4 := by
      have hf : f_X10_sort_A32 k2 x3_2 x4_3 M_4 x5_10 = some rr_12 := hf
      unfold f_X10_sort_A32 at hf
      refine g_iload 5 C (ckD_get k_X10_sort_1 28 rfl) rfl ?_
      refine g_iconst (v := (-1 : Int32)) C (ckD_get k_X10_sort_1 29 rfl) (by decide) ?_
      refine g_icmp_ne C (ckD_get k_X10_sort_1 30 rfl) (fun c_11 => ?_) (fun c_11 => ?_)
      · have hf := if_f hf c_11
        refine g_aload_n 2 C (ckD_get k_X10_sort_1 33 rfl) rfl rfl ?_
        refine g_iload 4 C (ckD_get k_X10_sort_1 34 rfl) rfl ?_
        refine g_iload 5 C (ckD_get k_X10_sort_1 35 rfl) rfl ?_
        obtain ⟨M_12, hi_13, eM_12, hf⟩ := wrI_e hf
        refine n_iast C (ckD_get k_X10_sort_1 36 rfl) hk2 hi_13 eM_12 ?_
        refine g_iload_n 3 C (ckD_get k_X10_sort_1 37 rfl) rfl rfl ?_
        refine g_iconst (v := (1 : Int32)) C (ckD_get k_X10_sort_1 38 rfl) (by decide) ?_
        refine g_iload 5 C (ckD_get k_X10_sort_1 39 rfl) rfl ?_
        refine g_ishl C (ckD_get k_X10_sort_2 0 rfl) ?_
        refine g_iconst (v := (-1 : Int32)) C (ckD_get k_X10_sort_2 1 rfl) (by decide) ?_
        refine g_ixor C (ckD_get k_X10_sort_2 2 rfl) ?_
        refine g_iand C (ckD_get k_X10_sort_2 3 rfl) ?_
        obtain ⟨x3_14, ex3_14, hf⟩ := lt_e hf
        refine topI ex3_14 ?_
        refine g_istore_n (lv' := [(3, _), (0, _), (1, _), (2, _), (4, _), (5, _)]) C (ckD_get k_X10_sort_2 4 rfl) rfl hL3 rfl ?_
        obtain ⟨x4_15, ex4_15, hf⟩ := lt_e hf
        refine g_iinc (lv' := [(4, _), (3, _), (0, _), (1, _), (2, _), (5, _)]) 4 C (ckD_get k_X10_sort_2 5 rfl) rfl ex4_15 hL4 rfl ?_
        refine g_goto C (ckD_get k_X10_sort_2 6 rfl) ?_
        refine G.sub [2, 3, 4, 1, 0] rfl ?_
        cases hf
        exact hn_12 _ rfl
      · have hf := if_t hf c_11
        refine g_iconst (v := (0 : Int32)) C (ckD_get k_X10_sort_1 31 rfl) (by decide) ?_
        cases hf
        cases hO_12 _ (hz_12 _ rfl).symm
        exact g_zret C (ckD_get k_X10_sort_1 32 rfl) hr rfl hRv (Nat.le_refl _) (Nat.le_refl _)
    refine loop_e (x := x5_10) (P := fun (v : (Int32 × Int32)) => G K (0, 0) 32 [(0, .ref (K.2.1.1 + 69)), (1, .int a1), (2, .ref (K.2.1.1 + k2)), (3, .int x3_2), (4, .int x4_3), (5, .int v.1), (6, .int v.2)] [] M_4) ?_ FU _ hx_32
    intro v rr_32 hf hn_32 hz_32
    obtain ⟨x5_8, x6_9⟩ := v
    have hf : f_X10_sort_L32 a1 x3_2 M_4 x5_8 x6_9 = some rr_32 := hf
    show G K (0, 0) 32 [(0, .ref (K.2.1.1 + 69)), (1, .int a1), (2, .ref (K.2.1.1 + k2)), (3, .int x3_2), (4, .int x4_3), (5, .int x5_8), (6, .int x6_9)] [] M_4
    unfold f_X10_sort_L32 at hf
    refine g_iload 6 C (ckD_get k_X10_sort_0 20 rfl) rfl ?_
    refine g_if_lt C (ckD_get k_X10_sort_0 21 rfl) (fun c_16 => ?_) (fun c_16 => ?_)
    · have hf := if_t hf c_16
      refine G.sub [0, 1, 2, 3, 4, 5] rfl ?_
      cases hf
      cases hz_32 _ rfl
      exact hE_32
    · have hf := if_f hf c_16
      refine g_iload_n 3 C (ckD_get k_X10_sort_0 22 rfl) rfl rfl ?_
      refine g_iload 6 C (ckD_get k_X10_sort_0 23 rfl) rfl ?_
      refine g_ishr C (ckD_get k_X10_sort_0 24 rfl) ?_
      refine g_iconst (v := (1 : Int32)) C (ckD_get k_X10_sort_0 25 rfl) (by decide) ?_
      refine g_iand C (ckD_get k_X10_sort_0 26 rfl) ?_
      refine g_iconst (v := (1 : Int32)) C (ckD_get k_X10_sort_0 27 rfl) (by decide) ?_
      have hJ_52 : ∀ (s_17 : Int32), f_X10_sort_J52 a1 x3_2 M_4 x5_8 x6_9 s_17 = some rr_32 → G K (0, 0) 52 [(0, .ref (K.2.1.1 + 69)), (1, .int a1), (2, .ref (K.2.1.1 + k2)), (3, .int x3_2), (4, .int x4_3), (5, .int x5_8), (6, .int x6_9)] [.int s_17] M_4 := by
        intro s_17 hf
        unfold f_X10_sort_J52 at hf
        refine g_istore (lv' := [(7, _), (0, _), (1, _), (2, _), (3, _), (4, _), (5, _), (6, _)]) C (ckD_get k_X10_sort_0 32 rfl) hL7 rfl ?_
        refine g_iconst (v := (0 : Int32)) C (ckD_get k_X10_sort_0 33 rfl) (by decide) ?_
        refine g_istore (lv' := [(8, _), (7, _), (0, _), (1, _), (2, _), (3, _), (4, _), (5, _), (6, _)]) C (ckD_get k_X10_sort_0 34 rfl) hL8 rfl ?_
        refine G.sub [2, 3, 4, 5, 6, 7, 8, 1, 0] rfl ?_
        obtain ⟨x7_20, hx_57, hf⟩ := bd_e hf
        have hE_57 : G K (0, 0) 112 [(0, .ref (K.2.1.1 + 69)), (1, .int a1), (2, .ref (K.2.1.1 + k2)), (3, .int x3_2), (4, .int x4_3), (5, .int x5_8), (6, .int x6_9), (7, .int x7_20)] [] M_4 := by
          have hf : f_X10_sort_A57 x5_8 x6_9 x7_20 = some rr_32 := hf
          unfold f_X10_sort_A57 at hf
          refine g_iload 7 C (ckD_get k_X10_sort_1 22 rfl) rfl ?_
          have hJ_121 : ∀ (p5_21 : Int32), f_X10_sort_J121 x6_9 p5_21 = some rr_32 → G K (0, 0) 121 [(0, .ref (K.2.1.1 + 69)), (1, .int a1), (2, .ref (K.2.1.1 + k2)), (3, .int x3_2), (4, .int x4_3), (5, .int p5_21), (6, .int x6_9)] [] M_4 := by
            intro p5_21 hf
            unfold f_X10_sort_J121 at hf
            obtain ⟨x6_22, ex6_22, hf⟩ := lt_e hf
            refine g_iinc (lv' := [(6, _), (0, _), (1, _), (2, _), (3, _), (4, _), (5, _)]) 6 C (ckD_get k_X10_sort_1 26 rfl) rfl ex6_22 hL6 rfl ?_
            refine g_goto C (ckD_get k_X10_sort_1 27 rfl) ?_
            refine G.sub [1, 2, 3, 4, 5, 6, 0] rfl ?_
            cases hf
            exact hn_32 _ rfl
          refine g_if_eq C (ckD_get k_X10_sort_1 23 rfl) (fun c_23 => ?_) (fun c_23 => ?_)
          · have hf := if_t hf c_23
            refine G.sub [0, 1, 2, 3, 4, 5, 6] rfl ?_
            exact hJ_121 _ hf
          · have hf := if_f hf c_23
            refine g_iload 6 C (ckD_get k_X10_sort_1 24 rfl) rfl ?_
            refine g_istore (lv' := [(5, _), (0, _), (1, _), (2, _), (3, _), (4, _), (6, _), (7, _)]) C (ckD_get k_X10_sort_1 25 rfl) hL5 rfl ?_
            refine G.sub [1, 2, 3, 4, 5, 0, 6] rfl ?_
            exact hJ_121 _ hf
        refine loop_e (x := x7_20) (P := fun (v : (Int32 × Int32)) => G K (0, 0) 57 [(0, .ref (K.2.1.1 + 69)), (1, .int a1), (2, .ref (K.2.1.1 + k2)), (3, .int x3_2), (4, .int x4_3), (5, .int x5_8), (6, .int x6_9), (7, .int v.1), (8, .int v.2)] [] M_4) ?_ FU _ hx_57
        intro v rr_57 hf hn_57 hz_57
        obtain ⟨x7_18, x8_19⟩ := v
        have hf : f_X10_sort_L57 a1 x3_2 M_4 x6_9 x7_18 x8_19 = some rr_57 := hf
        show G K (0, 0) 57 [(0, .ref (K.2.1.1 + 69)), (1, .int a1), (2, .ref (K.2.1.1 + k2)), (3, .int x3_2), (4, .int x4_3), (5, .int x5_8), (6, .int x6_9), (7, .int x7_18), (8, .int x8_19)] [] M_4
        unfold f_X10_sort_L57 at hf
        refine g_iload 8 C (ckD_get k_X10_sort_0 35 rfl) rfl ?_
        refine g_aload_n 0 C (ckD_get k_X10_sort_0 36 rfl) rfl rfl ?_
        refine g_getI C (ckD_get k_X10_sort_0 37 rfl) fk_X10_124 T69 rfl ?_
        refine g_icmp_ge C (ckD_get k_X10_sort_0 38 rfl) (fun c_24 => ?_) (fun c_24 => ?_)
        · have hf := if_t hf c_24
          refine G.sub [0, 1, 2, 3, 4, 5, 6, 7] rfl ?_
          cases hf
          cases hz_57 _ rfl
          exact hE_57
        · have hf := if_f hf c_24
          refine g_iload 7 C (ckD_get k_X10_sort_0 39 rfl) rfl ?_
          refine g_if_eq C (ckD_get k_X10_sort_1 0 rfl) (fun c_25 => ?_) (fun c_25 => ?_)
          · have hf := if_t hf c_25
            refine G.sub [0, 1, 2, 3, 4, 5, 6, 7] rfl ?_
            cases hf
            cases hz_57 _ rfl
            exact hE_57
          · have hf := if_f hf c_25
            refine g_iload 8 C (ckD_get k_X10_sort_1 1 rfl) rfl ?_
            refine g_iload 6 C (ckD_get k_X10_sort_1 2 rfl) rfl ?_
            have hJ_104 : ∀ (s_26 : Int32), f_X10_sort_J104 x8_19 s_26 = some rr_57 → G K (0, 0) 104 [(0, .ref (K.2.1.1 + 69)), (1, .int a1), (2, .ref (K.2.1.1 + k2)), (3, .int x3_2), (4, .int x4_3), (5, .int x5_8), (6, .int x6_9), (8, .int x8_19)] [.int s_26] M_4 := by
              intro s_26 hf
              unfold f_X10_sort_J104 at hf
              refine g_istore (lv' := [(7, _), (0, _), (1, _), (2, _), (3, _), (4, _), (5, _), (6, _), (8, _)]) C (ckD_get k_X10_sort_1 19 rfl) hL7 rfl ?_
              obtain ⟨x8_27, ex8_27, hf⟩ := lt_e hf
              refine g_iinc (lv' := [(8, _), (7, _), (0, _), (1, _), (2, _), (3, _), (4, _), (5, _), (6, _)]) 8 C (ckD_get k_X10_sort_1 20 rfl) rfl ex8_27 hL8 rfl ?_
              refine g_goto C (ckD_get k_X10_sort_1 21 rfl) ?_
              refine G.sub [2, 3, 4, 5, 6, 7, 8, 1, 0] rfl ?_
              cases hf
              exact hn_57 _ rfl
            have hJ_99 : ∀ (_ : Unit), f_X10_sort_J99 x8_19 () = some rr_57 → G K (0, 0) 99 [(0, .ref (K.2.1.1 + 69)), (1, .int a1), (2, .ref (K.2.1.1 + k2)), (3, .int x3_2), (4, .int x4_3), (5, .int x5_8), (6, .int x6_9), (8, .int x8_19)] [] M_4 := by
              intro _ hf
              unfold f_X10_sort_J99 at hf
              refine g_iconst (v := (1 : Int32)) C (ckD_get k_X10_sort_1 16 rfl) (by decide) ?_
              refine g_goto C (ckD_get k_X10_sort_1 17 rfl) ?_
              exact hJ_104 _ hf
            refine g_icmp_eq C (ckD_get k_X10_sort_1 3 rfl) (fun c_28 => ?_) (fun c_28 => ?_)
            · have hf := if_t hf c_28
              refine G.sub [0, 1, 2, 3, 4, 5, 6, 8] rfl ?_
              exact hJ_99 () hf
            · have hf := if_f hf c_28
              refine g_iload_n 3 C (ckD_get k_X10_sort_1 4 rfl) rfl rfl ?_
              refine g_iload 8 C (ckD_get k_X10_sort_1 5 rfl) rfl ?_
              refine g_ishr C (ckD_get k_X10_sort_1 6 rfl) ?_
              refine g_iconst (v := (1 : Int32)) C (ckD_get k_X10_sort_1 7 rfl) (by decide) ?_
              refine g_iand C (ckD_get k_X10_sort_1 8 rfl) ?_
              refine g_if_eq C (ckD_get k_X10_sort_1 9 rfl) (fun c_29 => ?_) (fun c_29 => ?_)
              · have hf := if_t hf c_29
                refine G.sub [0, 1, 2, 3, 4, 5, 6, 8] rfl ?_
                exact hJ_99 () hf
              · have hf := if_f hf c_29
                refine g_aload_n 0 C (ckD_get k_X10_sort_1 10 rfl) rfl rfl ?_
                refine g_iload 8 C (ckD_get k_X10_sort_1 11 rfl) rfl ?_
                refine g_iload 6 C (ckD_get k_X10_sort_1 12 rfl) rfl ?_
                refine g_iload_n 1 C (ckD_get k_X10_sort_1 13 rfl) rfl rfl ?_
                obtain ⟨r_31, hr_30, hf⟩ := bd_e hf
                refine n_cV [.int x8_19, .int x6_9, .int a1] [] C (ckD_get k_X10_sort_1 14 rfl) vk_X10_248 (t_X10_ahead C.tr _ _ _ _ _ hr_30) T69 rfl rfl (Nat.le_of_ble_eq_true rfl) (by decide) hB rfl ?_
                refine g_if_ne C (ckD_get k_X10_sort_1 15 rfl) (fun c_32 => ?_) (fun c_32 => ?_)
                · have hf := if_f hf c_32
                  refine g_iconst (v := (0 : Int32)) C (ckD_get k_X10_sort_1 18 rfl) (by decide) ?_
                  refine G.sub [0, 1, 2, 3, 4, 5, 6, 8] rfl ?_
                  exact hJ_104 _ hf
                · have hf := if_t hf c_32
                  refine G.sub [0, 1, 2, 3, 4, 5, 6, 8] rfl ?_
                  exact hJ_99 () hf
      refine g_icmp_ne C (ckD_get k_X10_sort_0 28 rfl) (fun c_33 => ?_) (fun c_33 => ?_)
      · have hf := if_f hf c_33
        refine g_iconst (v := (0 : Int32)) C (ckD_get k_X10_sort_0 31 rfl) (by decide) ?_
        exact hJ_52 _ hf
      · have hf := if_t hf c_33
        refine g_iconst (v := (1 : Int32)) C (ckD_get k_X10_sort_0 29 rfl) (by decide) ?_
        refine g_goto C (ckD_get k_X10_sort_0 30 rfl) ?_
        exact hJ_52 _ hf

set_option maxRecDepth 20000 in
theorem k_X10_from_0 : ckD cX10_from [(0, .aload_n 0, 1, 1, 0), (1, .iconst 0, 1, 2, 0), (2, .putfield 121, 3, 5, 0), (5, .aload_n 0, 1, 6, 0), (6, .getfield 23, 3, 9, 0), (9, .iconst (-1), 1, 10, 0), (10, .if_icmp .eq 34, 3, 13, 44), (13, .aload_n 0, 1, 14, 0), (14, .invokevirtual 233, 3, 17, 0), (17, .ifCond .ne 27, 3, 20, 44), (20, .aload_n 0, 1, 21, 0), (21, .iconst 1, 1, 22, 0), (22, .aload_n 0, 1, 23, 0), (23, .getfield 48, 3, 26, 0), (26, .invokevirtual 251, 3, 29, 0), (29, .ifCond .eq 15, 3, 32, 44), (32, .aload_n 0, 1, 33, 0), (33, .iconst 0, 1, 34, 0), (34, .aload_n 0, 1, 35, 0), (35, .getfield 51, 3, 38, 0), (38, .invokevirtual 251, 3, 41, 0), (41, .ifCond .ne 5, 3, 44, 46), (44, .iconst 0, 1, 45, 0), (45, .ireturn, 1, 46, 0), (46, .iconst 0, 1, 47, 0), (47, .istore_n 1, 1, 48, 0), (48, .iload_n 1, 1, 49, 0), (49, .aload_n 0, 1, 50, 0), (50, .getfield 124, 3, 53, 0), (53, .if_icmp .ge 33, 3, 56, 86), (56, .aload_n 0, 1, 57, 0), (57, .getfield 33, 3, 60, 0), (60, .iload_n 1, 1, 61, 0), (61, .aload_n 0, 1, 62, 0), (62, .getfield 48, 3, 65, 0), (65, .iload_n 1, 1, 66, 0), (66, .iaload, 1, 67, 0), (67, .iastore, 1, 68, 0), (68, .aload_n 0, 1, 69, 0), (69, .getfield 36, 3, 72, 0)] = true := by decide +kernel
set_option maxRecDepth 20000 in
theorem k_X10_from_1 : ckD cX10_from [(72, .iload_n 1, 1, 73, 0), (73, .aload_n 0, 1, 74, 0), (74, .getfield 51, 3, 77, 0), (77, .iload_n 1, 1, 78, 0), (78, .iaload, 1, 79, 0), (79, .iastore, 1, 80, 0), (80, .iinc 1 1, 3, 83, 0), (83, .goto (-35), 3, 86, 48), (86, .aload_n 0, 1, 87, 0), (87, .invokevirtual 172, 3, 90, 0), (90, .iconst 1, 1, 91, 0), (91, .ireturn, 1, 92, 0)] = true := by decide +kernel
def f_X10_from_A48 (M_17 : Mm) : Option (Int32 × Mm) := (f_X10_layPair M_17).bind fun M_19 => some ((1 : Int32), M_19)
def f_X10_from_L48 (x1_15 : Int32) (M_16 : Mm) : Option ((Int32 × Mm) ⊕ Mm) := if (M_16.1 69 1) ≤ x1_15 then some (.inr M_16) else rdI 12 M_16 81 x1_15 fun v_21 => wrI 12 M_16 76 x1_15 v_21 fun M_23 => rdI 12 M_23 82 x1_15 fun v_25 => wrI 12 M_23 77 x1_15 v_25 fun M_27 => lt1 (x1_15 + 1) fun x1_29 => some (.inl (x1_29, M_27))
def f_X10_from  (M : Mm) : Option (Int32 × Mm) := lt1 (wi M 69 0 (0 : Int32)) fun M_1 => if (M_1.1 69 6) = (-1 : Int32) then some ((0 : Int32), M_1) else bd2 (f_X10_clashes M_1) fun r_5 M_4 => if r_5 = 0 then bd2 (f_X10_sort (1 : Int32) 81 M_4) fun r_9 M_8 => if r_9 = 0 then some ((0 : Int32), M_8) else bd2 (f_X10_sort (0 : Int32) 82 M_8) fun r_13 M_12 => if r_13 = 0 then some ((0 : Int32), M_12) else (loop (fun v => f_X10_from_L48 v.1 v.2) FU ((0 : Int32), M_12)).bind fun z => f_X10_from_A48 z else some ((0 : Int32), M_4)
set_option maxRecDepth 100000 in
set_option maxHeartbeats 4000000 in
theorem t_X10_from {E : Ev} {l : Launch} (htr : l.stackTraces = false) (M : Mm) (r : (Int32 × Mm)) (hf : f_X10_from M = some r) : CM E l 4 0 0 yX10_from cX10_from 2 (some .boolean) [.ref (E.1 + 69)] M (some (.int r.1)) r.2 := by
  refine CM.of htr (by decide +kernel) (Nat.le_of_ble_eq_true rfl) ?_
  intro K hE hL hl hR0 C hr hRv
  subst hE
  subst hl
  have C : Cx K cX10_from RX10 4 := C
  have hB : (0 : Nat) ≤ K.1.R.cells ∧ 0 ≤ K.1.R.slots := ⟨Nat.zero_le _, Nat.zero_le _⟩
  have hL1 : 1 < K.2.2.1 := by rw [hL]; decide
  show G K (0, 0) 0 [(0, .ref (K.2.1.1 + 69))] [] M
  unfold f_X10_from at hf
  refine g_aload_n 0 C (ckD_get k_X10_from_0 0 rfl) rfl rfl ?_
  refine g_iconst (v := (0 : Int32)) C (ckD_get k_X10_from_0 1 rfl) (by decide) ?_
  obtain ⟨M_1, eM_1, hf⟩ := lt_e hf
  refine g_putI C (ckD_get k_X10_from_0 2 rfl) fk_X10_121 T69 rfl ?_
  refine memI eM_1 ?_
  refine g_aload_n 0 C (ckD_get k_X10_from_0 3 rfl) rfl rfl ?_
  refine g_getI C (ckD_get k_X10_from_0 4 rfl) fk_X10_23 T69 rfl ?_
  refine g_iconst (v := (-1 : Int32)) C (ckD_get k_X10_from_0 5 rfl) (by decide) ?_
  refine g_icmp_eq C (ckD_get k_X10_from_0 6 rfl) (fun c_2 => ?_) (fun c_2 => ?_)
  · have hf := if_t hf c_2
    refine g_iconst (v := (0 : Int32)) C (ckD_get k_X10_from_0 22 rfl) (by decide) ?_
    cases hf
    exact g_zret C (ckD_get k_X10_from_0 23 rfl) hr rfl hRv (Nat.le_refl _) (Nat.le_refl _)
  · have hf := if_f hf c_2
    refine g_aload_n 0 C (ckD_get k_X10_from_0 7 rfl) rfl rfl ?_
    obtain ⟨r_5, M_4, hr_3, hf⟩ := bd2_e hf
    refine n_cV [] [] C (ckD_get k_X10_from_0 8 rfl) vk_X10_233 (t_X10_clashes C.tr _ _ hr_3) T69 rfl rfl (Nat.le_of_ble_eq_true rfl) (by decide) hB rfl ?_
    refine g_if_ne C (ckD_get k_X10_from_0 9 rfl) (fun c_6 => ?_) (fun c_6 => ?_)
    · have hf := if_f hf c_6
      refine g_iconst (v := (0 : Int32)) C (ckD_get k_X10_from_0 22 rfl) (by decide) ?_
      cases hf
      exact g_zret C (ckD_get k_X10_from_0 23 rfl) hr rfl hRv (Nat.le_refl _) (Nat.le_refl _)
    · have hf := if_t hf c_6
      refine g_aload_n 0 C (ckD_get k_X10_from_0 10 rfl) rfl rfl ?_
      refine g_iconst (v := (1 : Int32)) C (ckD_get k_X10_from_0 11 rfl) (by decide) ?_
      refine g_aload_n 0 C (ckD_get k_X10_from_0 12 rfl) rfl rfl ?_
      refine g_getR C (ckD_get k_X10_from_0 13 rfl) fk_X10_48 T69 rfl ?_
      obtain ⟨r_9, M_8, hr_7, hf⟩ := bd2_e hf
      refine n_cV [.int (1 : Int32), .ref (K.2.1.1 + 81)] [] C (ckD_get k_X10_from_0 14 rfl) vk_X10_251 (t_X10_sort C.tr _ _ T81 _ _ hr_7) T69 rfl rfl (Nat.le_of_ble_eq_true rfl) (by decide) hB rfl ?_
      refine g_if_eq C (ckD_get k_X10_from_0 15 rfl) (fun c_10 => ?_) (fun c_10 => ?_)
      · have hf := if_t hf c_10
        refine g_iconst (v := (0 : Int32)) C (ckD_get k_X10_from_0 22 rfl) (by decide) ?_
        cases hf
        exact g_zret C (ckD_get k_X10_from_0 23 rfl) hr rfl hRv (Nat.le_refl _) (Nat.le_refl _)
      · have hf := if_f hf c_10
        refine g_aload_n 0 C (ckD_get k_X10_from_0 16 rfl) rfl rfl ?_
        refine g_iconst (v := (0 : Int32)) C (ckD_get k_X10_from_0 17 rfl) (by decide) ?_
        refine g_aload_n 0 C (ckD_get k_X10_from_0 18 rfl) rfl rfl ?_
        refine g_getR C (ckD_get k_X10_from_0 19 rfl) fk_X10_51 T69 rfl ?_
        obtain ⟨r_13, M_12, hr_11, hf⟩ := bd2_e hf
        refine n_cV [.int (0 : Int32), .ref (K.2.1.1 + 82)] [] C (ckD_get k_X10_from_0 20 rfl) vk_X10_251 (t_X10_sort C.tr _ _ T82 _ _ hr_11) T69 rfl rfl (Nat.le_of_ble_eq_true rfl) (by decide) hB rfl ?_
        refine g_if_ne C (ckD_get k_X10_from_0 21 rfl) (fun c_14 => ?_) (fun c_14 => ?_)
        · have hf := if_f hf c_14
          refine g_iconst (v := (0 : Int32)) C (ckD_get k_X10_from_0 24 rfl) (by decide) ?_
          refine g_istore_n (lv' := [(1, _), (0, _)]) C (ckD_get k_X10_from_0 25 rfl) rfl hL1 rfl ?_
          refine G.sub [1, 0] rfl ?_
          obtain ⟨M_17, hx_48, hf⟩ := bd_e hf
          have hE_48 : G K (0, 0) 86 [(0, .ref (K.2.1.1 + 69))] [] M_17 := by
            have hf : f_X10_from_A48 M_17 = some r := hf
            unfold f_X10_from_A48 at hf
            refine g_aload_n 0 C (ckD_get k_X10_from_1 8 rfl) rfl rfl ?_
            obtain ⟨M_19, hr_18, hf⟩ := bd_e hf
            refine n_cV [] [] C (ckD_get k_X10_from_1 9 rfl) vk_X10_172 (t_X10_layPair C.tr _ _ hr_18) T69 rfl rfl (Nat.le_of_ble_eq_true rfl) (by decide) hB rfl ?_
            refine g_iconst (v := (1 : Int32)) C (ckD_get k_X10_from_1 10 rfl) (by decide) ?_
            cases hf
            exact g_zret C (ckD_get k_X10_from_1 11 rfl) hr rfl hRv (Nat.le_refl _) (Nat.le_refl _)
          refine loop_e (x := M_17) (P := fun (v : (Int32 × Mm)) => G K (0, 0) 48 [(0, .ref (K.2.1.1 + 69)), (1, .int v.1)] [] v.2) ?_ FU _ hx_48
          intro v rr_48 hf hn_48 hz_48
          obtain ⟨x1_15, M_16⟩ := v
          have hf : f_X10_from_L48 x1_15 M_16 = some rr_48 := hf
          show G K (0, 0) 48 [(0, .ref (K.2.1.1 + 69)), (1, .int x1_15)] [] M_16
          unfold f_X10_from_L48 at hf
          refine g_iload_n 1 C (ckD_get k_X10_from_0 26 rfl) rfl rfl ?_
          refine g_aload_n 0 C (ckD_get k_X10_from_0 27 rfl) rfl rfl ?_
          refine g_getI C (ckD_get k_X10_from_0 28 rfl) fk_X10_124 T69 rfl ?_
          refine g_icmp_ge C (ckD_get k_X10_from_0 29 rfl) (fun c_20 => ?_) (fun c_20 => ?_)
          · have hf := if_t hf c_20
            refine G.sub [0] rfl ?_
            cases hf
            cases hz_48 _ rfl
            exact hE_48
          · have hf := if_f hf c_20
            refine g_aload_n 0 C (ckD_get k_X10_from_0 30 rfl) rfl rfl ?_
            refine g_getR C (ckD_get k_X10_from_0 31 rfl) fk_X10_33 T69 rfl ?_
            refine g_iload_n 1 C (ckD_get k_X10_from_0 32 rfl) rfl rfl ?_
            refine g_aload_n 0 C (ckD_get k_X10_from_0 33 rfl) rfl rfl ?_
            refine g_getR C (ckD_get k_X10_from_0 34 rfl) fk_X10_48 T69 rfl ?_
            refine g_iload_n 1 C (ckD_get k_X10_from_0 35 rfl) rfl rfl ?_
            obtain ⟨v_21, hi_22, ev_21, hf⟩ := rdI_e hf
            refine n_iald C (ckD_get k_X10_from_0 36 rfl) T81 hi_22 ev_21 ?_
            obtain ⟨M_23, hi_24, eM_23, hf⟩ := wrI_e hf
            refine n_iast C (ckD_get k_X10_from_0 37 rfl) T76 hi_24 eM_23 ?_
            refine g_aload_n 0 C (ckD_get k_X10_from_0 38 rfl) rfl rfl ?_
            refine g_getR C (ckD_get k_X10_from_0 39 rfl) fk_X10_36 T69 rfl ?_
            refine g_iload_n 1 C (ckD_get k_X10_from_1 0 rfl) rfl rfl ?_
            refine g_aload_n 0 C (ckD_get k_X10_from_1 1 rfl) rfl rfl ?_
            refine g_getR C (ckD_get k_X10_from_1 2 rfl) fk_X10_51 T69 rfl ?_
            refine g_iload_n 1 C (ckD_get k_X10_from_1 3 rfl) rfl rfl ?_
            obtain ⟨v_25, hi_26, ev_25, hf⟩ := rdI_e hf
            refine n_iald C (ckD_get k_X10_from_1 4 rfl) T82 hi_26 ev_25 ?_
            obtain ⟨M_27, hi_28, eM_27, hf⟩ := wrI_e hf
            refine n_iast C (ckD_get k_X10_from_1 5 rfl) T77 hi_28 eM_27 ?_
            obtain ⟨x1_29, ex1_29, hf⟩ := lt_e hf
            refine g_iinc (lv' := [(1, _), (0, _)]) 1 C (ckD_get k_X10_from_1 6 rfl) rfl ex1_29 hL1 rfl ?_
            refine g_goto C (ckD_get k_X10_from_1 7 rfl) ?_
            refine G.sub [1, 0] rfl ?_
            cases hf
            exact hn_48 _ rfl
        · have hf := if_t hf c_14
          refine g_iconst (v := (0 : Int32)) C (ckD_get k_X10_from_0 22 rfl) (by decide) ?_
          cases hf
          exact g_zret C (ckD_get k_X10_from_0 23 rfl) hr rfl hRv (Nat.le_refl _) (Nat.le_refl _)

set_option maxRecDepth 20000 in
theorem k_X10_parts_0 : ckD cX10_parts [(0, .iload_n 1, 1, 1, 0), (1, .iload_n 1, 1, 2, 0), (2, .iconst 1, 1, 3, 0), (3, .isub, 1, 4, 0), (4, .iand, 1, 5, 0), (5, .ifCond .ne 5, 3, 8, 10), (8, .iconst 1, 1, 9, 0), (9, .ireturn, 1, 10, 0), (10, .iconst 0, 1, 11, 0), (11, .istore_n 2, 1, 12, 0), (12, .iload_n 2, 1, 13, 0), (13, .aload_n 0, 1, 14, 0), (14, .getfield 124, 3, 17, 0), (17, .if_icmp .ge 217, 3, 20, 234), (20, .iload_n 1, 1, 21, 0), (21, .iload_n 2, 1, 22, 0), (22, .ishr, 1, 23, 0), (23, .iconst 1, 1, 24, 0), (24, .iand, 1, 25, 0), (25, .ifCond .ne 6, 3, 28, 31), (28, .goto 200, 3, 31, 228), (31, .iconst 0, 1, 32, 0), (32, .istore_n 3, 1, 33, 0), (33, .iload_n 3, 1, 34, 0), (34, .iconst 2, 1, 35, 0), (35, .if_icmp .ge 193, 3, 38, 228), (38, .iload_n 3, 1, 39, 0), (39, .ifCond .ne 18, 3, 42, 57), (42, .aload_n 0, 1, 43, 0), (43, .getfield 27, 3, 46, 0), (46, .iload_n 2, 1, 47, 0), (47, .iaload, 1, 48, 0), (48, .aload_n 0, 1, 49, 0), (49, .iload_n 2, 1, 50, 0), (50, .invokevirtual 152, 3, 53, 0), (53, .iadd, 1, 54, 0), (54, .goto 15, 3, 57, 69), (57, .aload_n 0, 1, 58, 0), (58, .getfield 30, 3, 61, 0), (61, .iload_n 2, 1, 62, 0)] = true := by decide +kernel
set_option maxRecDepth 20000 in
theorem k_X10_parts_1 : ckD cX10_parts [(62, .iaload, 1, 63, 0), (63, .aload_n 0, 1, 64, 0), (64, .iload_n 2, 1, 65, 0), (65, .invokevirtual 162, 3, 68, 0), (68, .iadd, 1, 69, 0), (69, .istore 4, 2, 71, 0), (71, .iconst 0, 1, 72, 0), (72, .istore 5, 2, 74, 0), (74, .iconst 0, 1, 75, 0), (75, .istore 6, 2, 77, 0), (77, .iconst 0, 1, 78, 0), (78, .istore 7, 2, 80, 0), (80, .iload 7, 2, 82, 0), (82, .aload_n 0, 1, 83, 0), (83, .getfield 124, 3, 86, 0), (86, .if_icmp .ge 97, 3, 89, 183), (89, .iload_n 1, 1, 90, 0), (90, .iload 7, 2, 92, 0), (92, .ishr, 1, 93, 0), (93, .iconst 1, 1, 94, 0), (94, .iand, 1, 95, 0), (95, .ifCond .ne 6, 3, 98, 101), (98, .goto 79, 3, 101, 177), (101, .iload_n 3, 1, 102, 0), (102, .ifCond .ne 13, 3, 105, 115), (105, .aload_n 0, 1, 106, 0), (106, .getfield 27, 3, 109, 0), (109, .iload 7, 2, 111, 0), (111, .iaload, 1, 112, 0), (112, .goto 10, 3, 115, 122), (115, .aload_n 0, 1, 116, 0), (116, .getfield 30, 3, 119, 0), (119, .iload 7, 2, 121, 0), (121, .iaload, 1, 122, 0), (122, .istore 8, 2, 124, 0), (124, .iload 8, 2, 126, 0), (126, .iload_n 3, 1, 127, 0), (127, .ifCond .ne 12, 3, 130, 139), (130, .aload_n 0, 1, 131, 0), (131, .iload 7, 2, 133, 0)] = true := by decide +kernel
set_option maxRecDepth 20000 in
theorem k_X10_parts_2 : ckD cX10_parts [(133, .invokevirtual 152, 3, 136, 0), (136, .goto 9, 3, 139, 145), (139, .aload_n 0, 1, 140, 0), (140, .iload 7, 2, 142, 0), (142, .invokevirtual 162, 3, 145, 0), (145, .iadd, 1, 146, 0), (146, .istore 9, 2, 148, 0), (148, .iload 9, 2, 150, 0), (150, .iload 4, 2, 152, 0), (152, .if_icmp .gt 15, 3, 155, 167), (155, .iload 5, 2, 157, 0), (157, .iconst 1, 1, 158, 0), (158, .iload 7, 2, 160, 0), (160, .ishl, 1, 161, 0), (161, .ior, 1, 162, 0), (162, .istore 5, 2, 164, 0), (164, .goto 13, 3, 167, 177), (167, .iload 8, 2, 169, 0), (169, .iload 4, 2, 171, 0), (171, .if_icmp .ge 6, 3, 174, 177), (174, .iconst 1, 1, 175, 0), (175, .istore 6, 2, 177, 0), (177, .iinc 7 1, 3, 180, 0), (180, .goto (-100), 3, 183, 80), (183, .iload 6, 2, 185, 0), (185, .ifCond .ne 37, 3, 188, 222), (188, .iload 5, 2, 190, 0), (190, .iload_n 1, 1, 191, 0), (191, .if_icmp .eq 31, 3, 194, 222), (194, .aload_n 0, 1, 195, 0), (195, .iload 5, 2, 197, 0), (197, .invokevirtual 255, 3, 200, 0), (200, .ifCond .eq 20, 3, 203, 220), (203, .aload_n 0, 1, 204, 0), (204, .iload_n 1, 1, 205, 0), (205, .iload 5, 2, 207, 0), (207, .iconst (-1), 1, 208, 0), (208, .ixor, 1, 209, 0), (209, .iand, 1, 210, 0), (210, .invokevirtual 255, 3, 213, 0)] = true := by decide +kernel
set_option maxRecDepth 20000 in
theorem k_X10_parts_3 : ckD cX10_parts [(213, .ifCond .eq 7, 3, 216, 220), (216, .iconst 1, 1, 217, 0), (217, .goto 4, 3, 220, 221), (220, .iconst 0, 1, 221, 0), (221, .ireturn, 1, 222, 0), (222, .iinc 3 1, 3, 225, 0), (225, .goto (-192), 3, 228, 33), (228, .iinc 2 1, 3, 231, 0), (231, .goto (-219), 3, 234, 12), (234, .iconst 0, 1, 235, 0), (235, .ireturn, 1, 236, 0)] = true := by decide +kernel
def f_X10_parts_A12  : Option Int32 := some (0 : Int32)
def f_X10_parts_J228 (x2_2 : Int32) (_ : Unit) : Option (Int32 ⊕ (Unit ⊕ Int32)) := lt1 (x2_2 + 1) fun x2_4 => some (.inl x2_4)
def f_X10_parts_A33 (x2_2 : Int32) : Option (Int32 ⊕ (Unit ⊕ Int32)) := f_X10_parts_J228 x2_2 ()
def f_X10_parts_J222 (x3_6 : Int32) (_ : Unit) : Option (Int32 ⊕ (Unit ⊕ Int32)) := lt1 (x3_6 + 1) fun x3_14 => some (.inl x3_14)
def f_X10_parts_A80 (a1 : Int32) (M : Mm) (F : Int32 → Mm → Option Int32) (x3_6 : Int32) (x5_12 : Int32) (x6_13 : Int32) : Option (Int32 ⊕ (Unit ⊕ Int32)) := if x6_13 = 0 then (if x5_12 = a1 then f_X10_parts_J222 x3_6 () else (F x5_12 M).bind fun r_18 => if r_18 = 0 then some (.inr (.inr (0 : Int32))) else (F (a1 &&& (x5_12 ^^^ (-1 : Int32))) M).bind fun r_21 => if r_21 = 0 then some (.inr (.inr (0 : Int32))) else some (.inr (.inr (1 : Int32)))) else f_X10_parts_J222 x3_6 ()
def f_X10_parts_J177 (x7_11 : Int32) (p5_24 : Int32) (p6_25 : Int32) : Option ((Int32 × Int32 × Int32) ⊕ (Int32 × Int32)) := lt1 (x7_11 + 1) fun x7_26 => some (.inl (p5_24, p6_25, x7_26))
def f_X10_parts_J145 (s_8 : Int32) (x5_9 : Int32) (x6_10 : Int32) (x7_11 : Int32) (s_28 : Int32) (s_29 : Int32) : Option ((Int32 × Int32 × Int32) ⊕ (Int32 × Int32)) := lt1 (s_28 + s_29) fun x9_30 => if s_8 < x9_30 then (if s_8 ≤ s_28 then f_X10_parts_J177 x7_11 x5_9 x6_10 else f_X10_parts_J177 x7_11 x5_9 (1 : Int32)) else lt1 (x5_9 ||| ((1 : Int32) <<< (x7_11 &&& 31))) fun x5_33 => f_X10_parts_J177 x7_11 x5_33 x6_10
def f_X10_parts_J122 (M : Mm) (x3_6 : Int32) (s_8 : Int32) (x5_9 : Int32) (x6_10 : Int32) (x7_11 : Int32) (s_28 : Int32) : Option ((Int32 × Int32 × Int32) ⊕ (Int32 × Int32)) := if x3_6 = 0 then (f_X10_wide x7_11 M).bind fun r_38 => f_X10_parts_J145 s_8 x5_9 x6_10 x7_11 s_28 r_38 else (f_X10_high x7_11 M).bind fun r_36 => f_X10_parts_J145 s_8 x5_9 x6_10 x7_11 s_28 r_36
def f_X10_parts_L80 (a1 : Int32) (M : Mm) (x3_6 : Int32) (s_8 : Int32) (x5_9 : Int32) (x6_10 : Int32) (x7_11 : Int32) : Option ((Int32 × Int32 × Int32) ⊕ (Int32 × Int32)) := if (M.1 69 1) ≤ x7_11 then some (.inr (x5_9, x6_10)) else if ((a1 >>> (x7_11 &&& 31)) &&& (1 : Int32)) = 0 then f_X10_parts_J177 x7_11 x5_9 x6_10 else if x3_6 = 0 then rdI 12 M 74 x7_11 fun v_42 => f_X10_parts_J122 M x3_6 s_8 x5_9 x6_10 x7_11 v_42 else rdI 12 M 75 x7_11 fun v_40 => f_X10_parts_J122 M x3_6 s_8 x5_9 x6_10 x7_11 v_40
def f_X10_parts_J69 (a1 : Int32) (M : Mm) (F : Int32 → Mm → Option Int32) (x3_6 : Int32) (s_8 : Int32) : Option (Int32 ⊕ (Unit ⊕ Int32)) := (loop (fun v => f_X10_parts_L80 a1 M x3_6 s_8 v.1 v.2.1 v.2.2) FU ((0 : Int32), (0 : Int32), (0 : Int32))).bind fun z => f_X10_parts_A80 a1 M F x3_6 z.1 z.2
def f_X10_parts_L33 (a1 : Int32) (M : Mm) (F : Int32 → Mm → Option Int32) (x2_2 : Int32) (x3_6 : Int32) : Option (Int32 ⊕ (Unit ⊕ Int32)) := if (2 : Int32) ≤ x3_6 then some (.inr (.inl ())) else if x3_6 = 0 then rdI 12 M 74 x2_2 fun v_49 => (f_X10_wide x2_2 M).bind fun r_52 => f_X10_parts_J69 a1 M F x3_6 ((v_49 + r_52)) else rdI 12 M 75 x2_2 fun v_45 => (f_X10_high x2_2 M).bind fun r_48 => f_X10_parts_J69 a1 M F x3_6 ((v_45 + r_48))
def f_X10_parts_L12 (a1 : Int32) (M : Mm) (F : Int32 → Mm → Option Int32) (x2_2 : Int32) : Option (Int32 ⊕ (Unit ⊕ Int32)) := if (M.1 69 1) ≤ x2_2 then some (.inr (.inl ())) else if ((a1 >>> (x2_2 &&& 31)) &&& (1 : Int32)) = 0 then f_X10_parts_J228 x2_2 () else (loop (fun v => f_X10_parts_L33 a1 M F x2_2 v) FU (0 : Int32)).bind fun x => Sum.elim (fun z => f_X10_parts_A33 x2_2 ) (fun o => some (.inr (.inr o))) x
def f_X10_parts_B (F : Int32 → Mm → Option Int32) (a1 : Int32) (M : Mm) : Option Int32 := if (a1 &&& (a1 - (1 : Int32))) = 0 then some (1 : Int32) else (loop (fun v => f_X10_parts_L12 a1 M F v) FU (0 : Int32)).bind fun x => Sum.elim (fun z => f_X10_parts_A12 ) (fun o => some o) x
def f_X10_parts : Nat → Int32 → Mm → Option Int32
  | 0 => fun _ _ => none
  | n + 1 => f_X10_parts_B (f_X10_parts n)
set_option maxRecDepth 100000 in
set_option maxHeartbeats 4000000 in
theorem t_X10_parts {E : Ev} {l : Launch} (htr : l.stackTraces = false) : ∀ (n : Nat) (a1 : Int32) (M : Mm) (r : Int32), f_X10_parts n a1 M = some r → CM E l (2 + 1 * n) 0 0 yX10_parts cX10_parts 10 (some .boolean) [.ref (E.1 + 69), .int a1] M (some (.int r)) M := by
  intro n
  induction n with
  | zero => intro a1 M r hf; cases hf
  | succ n ih =>
    intro a1 M r hf
    have hf : f_X10_parts_B (f_X10_parts n) a1 M = some r := hf
    generalize f_X10_parts n = F at hf ih
    refine CM.of htr (by decide +kernel) (Nat.le_of_ble_eq_true rfl) ?_
    intro K hE hL hl hR0 C hr hRv
    subst hE
    subst hl
    have C : Cx K cX10_parts RX10 (2 + 1 * (n + 1)) := C
    have hB : (0 : Nat) ≤ K.1.R.cells ∧ 0 ≤ K.1.R.slots := ⟨Nat.zero_le _, Nat.zero_le _⟩
    have hL2 : 2 < K.2.2.1 := by rw [hL]; decide
    have hL3 : 3 < K.2.2.1 := by rw [hL]; decide
    have hL4 : 4 < K.2.2.1 := by rw [hL]; decide
    have hL5 : 5 < K.2.2.1 := by rw [hL]; decide
    have hL6 : 6 < K.2.2.1 := by rw [hL]; decide
    have hL7 : 7 < K.2.2.1 := by rw [hL]; decide
    have hL8 : 8 < K.2.2.1 := by rw [hL]; decide
    have hL9 : 9 < K.2.2.1 := by rw [hL]; decide
    show G K (0, 0) 0 [(0, .ref (K.2.1.1 + 69)), (1, .int a1)] [] M
    unfold f_X10_parts_B at hf
    refine g_iload_n 1 C (ckD_get k_X10_parts_0 0 rfl) rfl rfl ?_
    refine g_iload_n 1 C (ckD_get k_X10_parts_0 1 rfl) rfl rfl ?_
    refine g_iconst (v := (1 : Int32)) C (ckD_get k_X10_parts_0 2 rfl) (by decide) ?_
    refine g_isub C (ckD_get k_X10_parts_0 3 rfl) ?_
    refine g_iand C (ckD_get k_X10_parts_0 4 rfl) ?_
    refine g_if_ne C (ckD_get k_X10_parts_0 5 rfl) (fun c_1 => ?_) (fun c_1 => ?_)
    · have hf := if_f hf c_1
      refine g_iconst (v := (0 : Int32)) C (ckD_get k_X10_parts_0 8 rfl) (by decide) ?_
      refine g_istore_n (lv' := [(2, _), (0, _), (1, _)]) C (ckD_get k_X10_parts_0 9 rfl) rfl hL2 rfl ?_
      refine G.sub [1, 2, 0] rfl ?_
      obtain ⟨xx_12, hx_12, hf⟩ := bd_e hf
      have hE_12 : ∀ (_ : Unit), xx_12 = .inl () → G K (0, 0) 234 [] [] M := by
        intro _ ex
        subst ex
        have hf : f_X10_parts_A12  = some r := hf
        unfold f_X10_parts_A12 at hf
        refine g_iconst (v := (0 : Int32)) C (ckD_get k_X10_parts_3 9 rfl) (by decide) ?_
        cases hf
        exact g_zret C (ckD_get k_X10_parts_3 10 rfl) hr rfl hRv (Nat.le_refl _) (Nat.le_refl _)
      have hO_12 : ∀ o, xx_12 = .inr o → o = r := by
        intro o eo
        subst eo
        have hf : some o = some r := hf
        cases hf
        rfl
      refine loop_e (x := xx_12) (P := fun (v : Int32) => G K (0, 0) 12 [(0, .ref (K.2.1.1 + 69)), (1, .int a1), (2, .int v)] [] M) ?_ FU _ hx_12
      intro x2_2 rr_12 hf hn_12 hz_12
      have hf : f_X10_parts_L12 a1 M F x2_2 = some rr_12 := hf
      show G K (0, 0) 12 [(0, .ref (K.2.1.1 + 69)), (1, .int a1), (2, .int x2_2)] [] M
      unfold f_X10_parts_L12 at hf
      refine g_iload_n 2 C (ckD_get k_X10_parts_0 10 rfl) rfl rfl ?_
      refine g_aload_n 0 C (ckD_get k_X10_parts_0 11 rfl) rfl rfl ?_
      refine g_getI C (ckD_get k_X10_parts_0 12 rfl) fk_X10_124 T69 rfl ?_
      refine g_icmp_ge C (ckD_get k_X10_parts_0 13 rfl) (fun c_3 => ?_) (fun c_3 => ?_)
      · have hf := if_t hf c_3
        refine G.sub [] rfl ?_
        cases hf
        exact hE_12 () (hz_12 _ rfl).symm
      · have hf := if_f hf c_3
        refine g_iload_n 1 C (ckD_get k_X10_parts_0 14 rfl) rfl rfl ?_
        refine g_iload_n 2 C (ckD_get k_X10_parts_0 15 rfl) rfl rfl ?_
        refine g_ishr C (ckD_get k_X10_parts_0 16 rfl) ?_
        refine g_iconst (v := (1 : Int32)) C (ckD_get k_X10_parts_0 17 rfl) (by decide) ?_
        refine g_iand C (ckD_get k_X10_parts_0 18 rfl) ?_
        have hJ_228 : ∀ (_ : Unit), f_X10_parts_J228 x2_2 () = some rr_12 → G K (0, 0) 228 [(0, .ref (K.2.1.1 + 69)), (1, .int a1), (2, .int x2_2)] [] M := by
          intro _ hf
          unfold f_X10_parts_J228 at hf
          obtain ⟨x2_4, ex2_4, hf⟩ := lt_e hf
          refine g_iinc (lv' := [(2, _), (0, _), (1, _)]) 2 C (ckD_get k_X10_parts_3 7 rfl) rfl ex2_4 hL2 rfl ?_
          refine g_goto C (ckD_get k_X10_parts_3 8 rfl) ?_
          refine G.sub [1, 2, 0] rfl ?_
          cases hf
          exact hn_12 _ rfl
        refine g_if_ne C (ckD_get k_X10_parts_0 19 rfl) (fun c_5 => ?_) (fun c_5 => ?_)
        · have hf := if_f hf c_5
          refine g_iconst (v := (0 : Int32)) C (ckD_get k_X10_parts_0 21 rfl) (by decide) ?_
          refine g_istore_n (lv' := [(3, _), (0, _), (1, _), (2, _)]) C (ckD_get k_X10_parts_0 22 rfl) rfl hL3 rfl ?_
          refine G.sub [1, 2, 3, 0] rfl ?_
          obtain ⟨xx_33, hx_33, hf⟩ := bd_e hf
          have hE_33 : ∀ (_ : Unit), xx_33 = .inl () → G K (0, 0) 228 [(0, .ref (K.2.1.1 + 69)), (1, .int a1), (2, .int x2_2)] [] M := by
            intro _ ex
            subst ex
            have hf : f_X10_parts_A33 x2_2  = some rr_12 := hf
            unfold f_X10_parts_A33 at hf
            exact hJ_228 () hf
          have hO_33 : ∀ o, xx_33 = .inr o → o = r := by
            intro o eo
            subst eo
            have hf : some (.inr (.inr o)) = some rr_12 := hf
            cases hf
            exact hO_12 _ (hz_12 _ rfl).symm
          refine loop_e (x := xx_33) (P := fun (v : Int32) => G K (0, 0) 33 [(0, .ref (K.2.1.1 + 69)), (1, .int a1), (2, .int x2_2), (3, .int v)] [] M) ?_ FU _ hx_33
          intro x3_6 rr_33 hf hn_33 hz_33
          have hf : f_X10_parts_L33 a1 M F x2_2 x3_6 = some rr_33 := hf
          show G K (0, 0) 33 [(0, .ref (K.2.1.1 + 69)), (1, .int a1), (2, .int x2_2), (3, .int x3_6)] [] M
          unfold f_X10_parts_L33 at hf
          refine g_iload_n 3 C (ckD_get k_X10_parts_0 23 rfl) rfl rfl ?_
          refine g_iconst (v := (2 : Int32)) C (ckD_get k_X10_parts_0 24 rfl) (by decide) ?_
          refine g_icmp_ge C (ckD_get k_X10_parts_0 25 rfl) (fun c_7 => ?_) (fun c_7 => ?_)
          · have hf := if_t hf c_7
            refine G.sub [0, 1, 2] rfl ?_
            cases hf
            exact hE_33 () (hz_33 _ rfl).symm
          · have hf := if_f hf c_7
            refine g_iload_n 3 C (ckD_get k_X10_parts_0 26 rfl) rfl rfl ?_
            have hJ_69 : ∀ (s_8 : Int32), f_X10_parts_J69 a1 M F x3_6 s_8 = some rr_33 → G K (0, 0) 69 [(0, .ref (K.2.1.1 + 69)), (1, .int a1), (2, .int x2_2), (3, .int x3_6)] [.int s_8] M := by
              intro s_8 hf
              unfold f_X10_parts_J69 at hf
              refine g_istore (lv' := [(4, _), (0, _), (1, _), (2, _), (3, _)]) C (ckD_get k_X10_parts_1 5 rfl) hL4 rfl ?_
              refine g_iconst (v := (0 : Int32)) C (ckD_get k_X10_parts_1 6 rfl) (by decide) ?_
              refine g_istore (lv' := [(5, _), (4, _), (0, _), (1, _), (2, _), (3, _)]) C (ckD_get k_X10_parts_1 7 rfl) hL5 rfl ?_
              refine g_iconst (v := (0 : Int32)) C (ckD_get k_X10_parts_1 8 rfl) (by decide) ?_
              refine g_istore (lv' := [(6, _), (5, _), (4, _), (0, _), (1, _), (2, _), (3, _)]) C (ckD_get k_X10_parts_1 9 rfl) hL6 rfl ?_
              refine g_iconst (v := (0 : Int32)) C (ckD_get k_X10_parts_1 10 rfl) (by decide) ?_
              refine g_istore (lv' := [(7, _), (6, _), (5, _), (4, _), (0, _), (1, _), (2, _), (3, _)]) C (ckD_get k_X10_parts_1 11 rfl) hL7 rfl ?_
              refine G.sub [4, 5, 6, 7, 3, 2, 1, 0] rfl ?_
              obtain ⟨xx_80, hx_80, hf⟩ := bd_e hf
              obtain ⟨x5_12, x6_13⟩ := xx_80
              have hE_80 : G K (0, 0) 183 [(0, .ref (K.2.1.1 + 69)), (1, .int a1), (2, .int x2_2), (3, .int x3_6), (5, .int x5_12), (6, .int x6_13)] [] M := by
                have hf : f_X10_parts_A80 a1 M F x3_6 x5_12 x6_13 = some rr_33 := hf
                unfold f_X10_parts_A80 at hf
                refine g_iload 5 C (ckD_get k_X10_parts_2 24 rfl) rfl ?_
                have hJ_222 : ∀ (_ : Unit), f_X10_parts_J222 x3_6 () = some rr_33 → G K (0, 0) 222 [(0, .ref (K.2.1.1 + 69)), (1, .int a1), (2, .int x2_2), (3, .int x3_6)] [] M := by
                  intro _ hf
                  unfold f_X10_parts_J222 at hf
                  obtain ⟨x3_14, ex3_14, hf⟩ := lt_e hf
                  refine g_iinc (lv' := [(3, _), (0, _), (1, _), (2, _)]) 3 C (ckD_get k_X10_parts_3 5 rfl) rfl ex3_14 hL3 rfl ?_
                  refine g_goto C (ckD_get k_X10_parts_3 6 rfl) ?_
                  refine G.sub [1, 2, 3, 0] rfl ?_
                  cases hf
                  exact hn_33 _ rfl
                refine g_if_ne C (ckD_get k_X10_parts_2 25 rfl) (fun c_15 => ?_) (fun c_15 => ?_)
                · have hf := if_f hf c_15
                  refine G.sub [0, 1, 2, 3] rfl ?_
                  exact hJ_222 () hf
                · have hf := if_t hf c_15
                  refine g_iload 4 C (ckD_get k_X10_parts_2 26 rfl) rfl ?_
                  refine g_iload_n 1 C (ckD_get k_X10_parts_2 27 rfl) rfl rfl ?_
                  refine g_icmp_eq C (ckD_get k_X10_parts_2 28 rfl) (fun c_16 => ?_) (fun c_16 => ?_)
                  · have hf := if_t hf c_16
                    refine G.sub [0, 1, 2, 3] rfl ?_
                    exact hJ_222 () hf
                  · have hf := if_f hf c_16
                    refine g_aload_n 0 C (ckD_get k_X10_parts_2 29 rfl) rfl rfl ?_
                    refine g_iload 4 C (ckD_get k_X10_parts_2 30 rfl) rfl ?_
                    obtain ⟨r_18, hr_17, hf⟩ := bd_e hf
                    refine n_cV [.int x5_12] [] C (ckD_get k_X10_parts_2 31 rfl) vk_X10_255 (ih _ _ _ hr_17) T69 rfl rfl (Nat.le_of_ble_eq_true rfl) (by omega) hB rfl ?_
                    refine g_if_eq C (ckD_get k_X10_parts_2 32 rfl) (fun c_19 => ?_) (fun c_19 => ?_)
                    · have hf := if_t hf c_19
                      refine g_iconst (v := (0 : Int32)) C (ckD_get k_X10_parts_3 3 rfl) (by decide) ?_
                      cases hf
                      cases hO_33 _ (hz_33 _ rfl).symm
                      exact g_zret C (ckD_get k_X10_parts_3 4 rfl) hr rfl hRv (Nat.le_refl _) (Nat.le_refl _)
                    · have hf := if_f hf c_19
                      refine g_aload_n 0 C (ckD_get k_X10_parts_2 33 rfl) rfl rfl ?_
                      refine g_iload_n 1 C (ckD_get k_X10_parts_2 34 rfl) rfl rfl ?_
                      refine g_iload 4 C (ckD_get k_X10_parts_2 35 rfl) rfl ?_
                      refine g_iconst (v := (-1 : Int32)) C (ckD_get k_X10_parts_2 36 rfl) (by decide) ?_
                      refine g_ixor C (ckD_get k_X10_parts_2 37 rfl) ?_
                      refine g_iand C (ckD_get k_X10_parts_2 38 rfl) ?_
                      obtain ⟨r_21, hr_20, hf⟩ := bd_e hf
                      refine n_cV [.int (a1 &&& (x5_12 ^^^ (-1 : Int32)))] [] C (ckD_get k_X10_parts_2 39 rfl) vk_X10_255 (ih _ _ _ hr_20) T69 rfl rfl (Nat.le_of_ble_eq_true rfl) (by omega) hB rfl ?_
                      refine g_if_eq C (ckD_get k_X10_parts_3 0 rfl) (fun c_22 => ?_) (fun c_22 => ?_)
                      · have hf := if_t hf c_22
                        refine g_iconst (v := (0 : Int32)) C (ckD_get k_X10_parts_3 3 rfl) (by decide) ?_
                        cases hf
                        cases hO_33 _ (hz_33 _ rfl).symm
                        exact g_zret C (ckD_get k_X10_parts_3 4 rfl) hr rfl hRv (Nat.le_refl _) (Nat.le_refl _)
                      · have hf := if_f hf c_22
                        refine g_iconst (v := (1 : Int32)) C (ckD_get k_X10_parts_3 1 rfl) (by decide) ?_
                        refine g_goto C (ckD_get k_X10_parts_3 2 rfl) ?_
                        cases hf
                        cases hO_33 _ (hz_33 _ rfl).symm
                        exact g_zret C (ckD_get k_X10_parts_3 4 rfl) hr rfl hRv (Nat.le_refl _) (Nat.le_refl _)
              refine loop_e (x := (x5_12, x6_13)) (P := fun (v : (Int32 × Int32 × Int32)) => G K (0, 0) 80 [(0, .ref (K.2.1.1 + 69)), (1, .int a1), (2, .int x2_2), (3, .int x3_6), (4, .int s_8), (5, .int v.1), (6, .int v.2.1), (7, .int v.2.2)] [] M) ?_ FU _ hx_80
              intro v rr_80 hf hn_80 hz_80
              obtain ⟨x5_9, x6_10, x7_11⟩ := v
              have hf : f_X10_parts_L80 a1 M x3_6 s_8 x5_9 x6_10 x7_11 = some rr_80 := hf
              show G K (0, 0) 80 [(0, .ref (K.2.1.1 + 69)), (1, .int a1), (2, .int x2_2), (3, .int x3_6), (4, .int s_8), (5, .int x5_9), (6, .int x6_10), (7, .int x7_11)] [] M
              unfold f_X10_parts_L80 at hf
              refine g_iload 7 C (ckD_get k_X10_parts_1 12 rfl) rfl ?_
              refine g_aload_n 0 C (ckD_get k_X10_parts_1 13 rfl) rfl rfl ?_
              refine g_getI C (ckD_get k_X10_parts_1 14 rfl) fk_X10_124 T69 rfl ?_
              refine g_icmp_ge C (ckD_get k_X10_parts_1 15 rfl) (fun c_23 => ?_) (fun c_23 => ?_)
              · have hf := if_t hf c_23
                refine G.sub [0, 1, 2, 3, 5, 6] rfl ?_
                cases hf
                cases hz_80 _ rfl
                exact hE_80
              · have hf := if_f hf c_23
                refine g_iload_n 1 C (ckD_get k_X10_parts_1 16 rfl) rfl rfl ?_
                refine g_iload 7 C (ckD_get k_X10_parts_1 17 rfl) rfl ?_
                refine g_ishr C (ckD_get k_X10_parts_1 18 rfl) ?_
                refine g_iconst (v := (1 : Int32)) C (ckD_get k_X10_parts_1 19 rfl) (by decide) ?_
                refine g_iand C (ckD_get k_X10_parts_1 20 rfl) ?_
                have hJ_177 : ∀ (p5_24 : Int32) (p6_25 : Int32), f_X10_parts_J177 x7_11 p5_24 p6_25 = some rr_80 → G K (0, 0) 177 [(0, .ref (K.2.1.1 + 69)), (1, .int a1), (2, .int x2_2), (3, .int x3_6), (4, .int s_8), (5, .int p5_24), (6, .int p6_25), (7, .int x7_11)] [] M := by
                  intro p5_24 p6_25 hf
                  unfold f_X10_parts_J177 at hf
                  obtain ⟨x7_26, ex7_26, hf⟩ := lt_e hf
                  refine g_iinc (lv' := [(7, _), (0, _), (1, _), (2, _), (3, _), (4, _), (5, _), (6, _)]) 7 C (ckD_get k_X10_parts_2 22 rfl) rfl ex7_26 hL7 rfl ?_
                  refine g_goto C (ckD_get k_X10_parts_2 23 rfl) ?_
                  refine G.sub [1, 2, 3, 4, 5, 6, 7, 0] rfl ?_
                  cases hf
                  exact hn_80 _ rfl
                refine g_if_ne C (ckD_get k_X10_parts_1 21 rfl) (fun c_27 => ?_) (fun c_27 => ?_)
                · have hf := if_f hf c_27
                  refine g_iload_n 3 C (ckD_get k_X10_parts_1 23 rfl) rfl rfl ?_
                  have hJ_122 : ∀ (s_28 : Int32), f_X10_parts_J122 M x3_6 s_8 x5_9 x6_10 x7_11 s_28 = some rr_80 → G K (0, 0) 122 [(0, .ref (K.2.1.1 + 69)), (1, .int a1), (2, .int x2_2), (3, .int x3_6), (4, .int s_8), (5, .int x5_9), (6, .int x6_10), (7, .int x7_11)] [.int s_28] M := by
                    intro s_28 hf
                    unfold f_X10_parts_J122 at hf
                    refine g_istore (lv' := [(8, _), (0, _), (1, _), (2, _), (3, _), (4, _), (5, _), (6, _), (7, _)]) C (ckD_get k_X10_parts_1 34 rfl) hL8 rfl ?_
                    refine g_iload 0 C (ckD_get k_X10_parts_1 35 rfl) rfl ?_
                    refine g_iload_n 4 C (ckD_get k_X10_parts_1 36 rfl) rfl rfl ?_
                    have hJ_145 : ∀ (s_29 : Int32), f_X10_parts_J145 s_8 x5_9 x6_10 x7_11 s_28 s_29 = some rr_80 → G K (0, 0) 145 [(0, .ref (K.2.1.1 + 69)), (1, .int a1), (2, .int x2_2), (3, .int x3_6), (4, .int s_8), (5, .int x5_9), (6, .int x6_10), (7, .int x7_11), (8, .int s_28)] [.int s_29, .int s_28] M := by
                      intro s_29 hf
                      unfold f_X10_parts_J145 at hf
                      refine g_iadd C (ckD_get k_X10_parts_2 5 rfl) ?_
                      obtain ⟨x9_30, ex9_30, hf⟩ := lt_e hf
                      refine topI ex9_30 ?_
                      refine g_istore (lv' := [(9, _), (0, _), (1, _), (2, _), (3, _), (4, _), (5, _), (6, _), (7, _), (8, _)]) C (ckD_get k_X10_parts_2 6 rfl) hL9 rfl ?_
                      refine g_iload 0 C (ckD_get k_X10_parts_2 7 rfl) rfl ?_
                      refine g_iload 5 C (ckD_get k_X10_parts_2 8 rfl) rfl ?_
                      refine g_icmp_gt C (ckD_get k_X10_parts_2 9 rfl) (fun c_31 => ?_) (fun c_31 => ?_)
                      · have hf := if_t hf c_31
                        refine g_iload 9 C (ckD_get k_X10_parts_2 17 rfl) rfl ?_
                        refine g_iload 5 C (ckD_get k_X10_parts_2 18 rfl) rfl ?_
                        refine g_icmp_ge C (ckD_get k_X10_parts_2 19 rfl) (fun c_32 => ?_) (fun c_32 => ?_)
                        · have hf := if_t hf c_32
                          refine G.sub [1, 2, 3, 4, 5, 6, 7, 8] rfl ?_
                          exact hJ_177 _ _ hf
                        · have hf := if_f hf c_32
                          refine g_iconst (v := (1 : Int32)) C (ckD_get k_X10_parts_2 20 rfl) (by decide) ?_
                          refine g_istore (lv' := [(6, _), (9, _), (0, _), (1, _), (2, _), (3, _), (4, _), (5, _), (7, _), (8, _)]) C (ckD_get k_X10_parts_2 21 rfl) hL6 rfl ?_
                          refine G.sub [2, 3, 4, 5, 6, 7, 0, 8] rfl ?_
                          exact hJ_177 _ _ hf
                      · have hf := if_f hf c_31
                        refine g_iload 6 C (ckD_get k_X10_parts_2 10 rfl) rfl ?_
                        refine g_iconst (v := (1 : Int32)) C (ckD_get k_X10_parts_2 11 rfl) (by decide) ?_
                        refine g_iload 8 C (ckD_get k_X10_parts_2 12 rfl) rfl ?_
                        refine g_ishl C (ckD_get k_X10_parts_2 13 rfl) ?_
                        refine g_ior C (ckD_get k_X10_parts_2 14 rfl) ?_
                        obtain ⟨x5_33, ex5_33, hf⟩ := lt_e hf
                        refine topI ex5_33 ?_
                        refine g_istore (lv' := [(5, _), (9, _), (0, _), (1, _), (2, _), (3, _), (4, _), (6, _), (7, _), (8, _)]) C (ckD_get k_X10_parts_2 15 rfl) hL5 rfl ?_
                        refine g_goto C (ckD_get k_X10_parts_2 16 rfl) ?_
                        refine G.sub [2, 3, 4, 5, 6, 0, 7, 8] rfl ?_
                        exact hJ_177 _ _ hf
                    refine g_if_ne C (ckD_get k_X10_parts_1 37 rfl) (fun c_34 => ?_) (fun c_34 => ?_)
                    · have hf := if_f hf c_34
                      refine g_aload_n 1 C (ckD_get k_X10_parts_2 2 rfl) rfl rfl ?_
                      refine g_iload 8 C (ckD_get k_X10_parts_2 3 rfl) rfl ?_
                      obtain ⟨r_36, hr_35, hf⟩ := bd_e hf
                      refine n_cV [.int x7_11] [.int s_28] C (ckD_get k_X10_parts_2 4 rfl) vk_X10_162 (t_X10_high C.tr _ _ _ hr_35) T69 rfl rfl (Nat.le_of_ble_eq_true rfl) (by omega) hB rfl ?_
                      refine G.sub [1, 2, 3, 4, 5, 6, 7, 8, 0] rfl ?_
                      exact hJ_145 _ hf
                    · have hf := if_t hf c_34
                      refine g_aload_n 1 C (ckD_get k_X10_parts_1 38 rfl) rfl rfl ?_
                      refine g_iload 8 C (ckD_get k_X10_parts_1 39 rfl) rfl ?_
                      obtain ⟨r_38, hr_37, hf⟩ := bd_e hf
                      refine n_cV [.int x7_11] [.int s_28] C (ckD_get k_X10_parts_2 0 rfl) vk_X10_152 (t_X10_wide C.tr _ _ _ hr_37) T69 rfl rfl (Nat.le_of_ble_eq_true rfl) (by omega) hB rfl ?_
                      refine g_goto C (ckD_get k_X10_parts_2 1 rfl) ?_
                      refine G.sub [1, 2, 3, 4, 5, 6, 7, 8, 0] rfl ?_
                      exact hJ_145 _ hf
                  refine g_if_ne C (ckD_get k_X10_parts_1 24 rfl) (fun c_39 => ?_) (fun c_39 => ?_)
                  · have hf := if_f hf c_39
                    refine g_aload_n 0 C (ckD_get k_X10_parts_1 30 rfl) rfl rfl ?_
                    refine g_getR C (ckD_get k_X10_parts_1 31 rfl) fk_X10_30 T69 rfl ?_
                    refine g_iload 7 C (ckD_get k_X10_parts_1 32 rfl) rfl ?_
                    obtain ⟨v_40, hi_41, ev_40, hf⟩ := rdI_e hf
                    refine n_iald C (ckD_get k_X10_parts_1 33 rfl) T75 hi_41 ev_40 ?_
                    exact hJ_122 _ hf
                  · have hf := if_t hf c_39
                    refine g_aload_n 0 C (ckD_get k_X10_parts_1 25 rfl) rfl rfl ?_
                    refine g_getR C (ckD_get k_X10_parts_1 26 rfl) fk_X10_27 T69 rfl ?_
                    refine g_iload 7 C (ckD_get k_X10_parts_1 27 rfl) rfl ?_
                    obtain ⟨v_42, hi_43, ev_42, hf⟩ := rdI_e hf
                    refine n_iald C (ckD_get k_X10_parts_1 28 rfl) T74 hi_43 ev_42 ?_
                    refine g_goto C (ckD_get k_X10_parts_1 29 rfl) ?_
                    exact hJ_122 _ hf
                · have hf := if_t hf c_27
                  refine g_goto C (ckD_get k_X10_parts_1 22 rfl) ?_
                  exact hJ_177 _ _ hf
            refine g_if_ne C (ckD_get k_X10_parts_0 27 rfl) (fun c_44 => ?_) (fun c_44 => ?_)
            · have hf := if_f hf c_44
              refine g_aload_n 0 C (ckD_get k_X10_parts_0 37 rfl) rfl rfl ?_
              refine g_getR C (ckD_get k_X10_parts_0 38 rfl) fk_X10_30 T69 rfl ?_
              refine g_iload_n 2 C (ckD_get k_X10_parts_0 39 rfl) rfl rfl ?_
              obtain ⟨v_45, hi_46, ev_45, hf⟩ := rdI_e hf
              refine n_iald C (ckD_get k_X10_parts_1 0 rfl) T75 hi_46 ev_45 ?_
              refine g_aload_n 0 C (ckD_get k_X10_parts_1 1 rfl) rfl rfl ?_
              refine g_iload_n 2 C (ckD_get k_X10_parts_1 2 rfl) rfl rfl ?_
              obtain ⟨r_48, hr_47, hf⟩ := bd_e hf
              refine n_cV [.int x2_2] [.int v_45] C (ckD_get k_X10_parts_1 3 rfl) vk_X10_162 (t_X10_high C.tr _ _ _ hr_47) T69 rfl rfl (Nat.le_of_ble_eq_true rfl) (by omega) hB rfl ?_
              refine g_iadd C (ckD_get k_X10_parts_1 4 rfl) ?_
              exact hJ_69 _ hf
            · have hf := if_t hf c_44
              refine g_aload_n 0 C (ckD_get k_X10_parts_0 28 rfl) rfl rfl ?_
              refine g_getR C (ckD_get k_X10_parts_0 29 rfl) fk_X10_27 T69 rfl ?_
              refine g_iload_n 2 C (ckD_get k_X10_parts_0 30 rfl) rfl rfl ?_
              obtain ⟨v_49, hi_50, ev_49, hf⟩ := rdI_e hf
              refine n_iald C (ckD_get k_X10_parts_0 31 rfl) T74 hi_50 ev_49 ?_
              refine g_aload_n 0 C (ckD_get k_X10_parts_0 32 rfl) rfl rfl ?_
              refine g_iload_n 2 C (ckD_get k_X10_parts_0 33 rfl) rfl rfl ?_
              obtain ⟨r_52, hr_51, hf⟩ := bd_e hf
              refine n_cV [.int x2_2] [.int v_49] C (ckD_get k_X10_parts_0 34 rfl) vk_X10_152 (t_X10_wide C.tr _ _ _ hr_51) T69 rfl rfl (Nat.le_of_ble_eq_true rfl) (by omega) hB rfl ?_
              refine g_iadd C (ckD_get k_X10_parts_0 35 rfl) ?_
              refine g_goto C (ckD_get k_X10_parts_0 36 rfl) ?_
              exact hJ_69 _ hf
        · have hf := if_t hf c_5
          refine g_goto C (ckD_get k_X10_parts_0 20 rfl) ?_
          exact hJ_228 () hf
    · have hf := if_t hf c_1
      refine g_iconst (v := (1 : Int32)) C (ckD_get k_X10_parts_0 6 rfl) (by decide) ?_
      cases hf
      exact g_zret C (ckD_get k_X10_parts_0 7 rfl) hr rfl hRv (Nat.le_refl _) (Nat.le_refl _)

set_option maxRecDepth 20000 in
theorem k_X10_isCut_0 : ckD cX10_isCut [(0, .aload_n 0, 1, 1, 0), (1, .iconst 0, 1, 2, 0), (2, .putfield 121, 3, 5, 0), (5, .aload_n 0, 1, 6, 0), (6, .getfield 23, 3, 9, 0), (9, .iconst (-1), 1, 10, 0), (10, .if_icmp .ne 10, 3, 13, 20), (13, .aload_n 0, 1, 14, 0), (14, .invokevirtual 134, 3, 17, 0), (17, .pop, 1, 18, 0), (18, .iconst 0, 1, 19, 0), (19, .ireturn, 1, 20, 0), (20, .aload_n 0, 1, 21, 0), (21, .invokevirtual 233, 3, 24, 0), (24, .ifCond .ne 22, 3, 27, 46), (27, .aload_n 0, 1, 28, 0), (28, .iconst 1, 1, 29, 0), (29, .aload_n 0, 1, 30, 0), (30, .getfield 124, 3, 33, 0), (33, .ishl, 1, 34, 0), (34, .iconst 1, 1, 35, 0), (35, .isub, 1, 36, 0), (36, .invokevirtual 255, 3, 39, 0), (39, .ifCond .eq 7, 3, 42, 46), (42, .iconst 1, 1, 43, 0), (43, .goto 4, 3, 46, 47), (46, .iconst 0, 1, 47, 0), (47, .ireturn, 1, 48, 0)] = true := by decide +kernel
def f_X10_isCut  (M : Mm) : Option (Int32 × Mm) := lt1 (wi M 69 0 (0 : Int32)) fun M_1 => if (M_1.1 69 6) = (-1 : Int32) then lt1 (f_X10_fail M_1) fun z_12 => some ((0 : Int32), z_12.2) else bd2 (f_X10_clashes M_1) fun r_5 M_4 => if r_5 = 0 then (f_X10_parts 30 (((1 : Int32) <<< ((M_4.1 69 1) &&& 31)) - (1 : Int32)) M_4).bind fun r_8 => if r_8 = 0 then some ((0 : Int32), M_4) else some ((1 : Int32), M_4) else some ((0 : Int32), M_4)
set_option maxRecDepth 100000 in
set_option maxHeartbeats 4000000 in
theorem t_X10_isCut {E : Ev} {l : Launch} (htr : l.stackTraces = false) (M : Mm) (r : (Int32 × Mm)) (hf : f_X10_isCut M = some r) : CM E l 33 0 0 yX10_isCut cX10_isCut 1 (some .boolean) [.ref (E.1 + 69)] M (some (.int r.1)) r.2 := by
  refine CM.of htr (by decide +kernel) (Nat.le_of_ble_eq_true rfl) ?_
  intro K hE hL hl hR0 C hr hRv
  subst hE
  subst hl
  have C : Cx K cX10_isCut RX10 33 := C
  have hB : (0 : Nat) ≤ K.1.R.cells ∧ 0 ≤ K.1.R.slots := ⟨Nat.zero_le _, Nat.zero_le _⟩
  show G K (0, 0) 0 [(0, .ref (K.2.1.1 + 69))] [] M
  unfold f_X10_isCut at hf
  refine g_aload_n 0 C (ckD_get k_X10_isCut_0 0 rfl) rfl rfl ?_
  refine g_iconst (v := (0 : Int32)) C (ckD_get k_X10_isCut_0 1 rfl) (by decide) ?_
  obtain ⟨M_1, eM_1, hf⟩ := lt_e hf
  refine g_putI C (ckD_get k_X10_isCut_0 2 rfl) fk_X10_121 T69 rfl ?_
  refine memI eM_1 ?_
  refine g_aload_n 0 C (ckD_get k_X10_isCut_0 3 rfl) rfl rfl ?_
  refine g_getI C (ckD_get k_X10_isCut_0 4 rfl) fk_X10_23 T69 rfl ?_
  refine g_iconst (v := (-1 : Int32)) C (ckD_get k_X10_isCut_0 5 rfl) (by decide) ?_
  refine g_icmp_ne C (ckD_get k_X10_isCut_0 6 rfl) (fun c_2 => ?_) (fun c_2 => ?_)
  · have hf := if_f hf c_2
    refine g_aload_n 0 C (ckD_get k_X10_isCut_0 12 rfl) rfl rfl ?_
    obtain ⟨r_5, M_4, hr_3, hf⟩ := bd2_e hf
    refine n_cV [] [] C (ckD_get k_X10_isCut_0 13 rfl) vk_X10_233 (t_X10_clashes C.tr _ _ hr_3) T69 rfl rfl (Nat.le_of_ble_eq_true rfl) (by decide) hB rfl ?_
    refine g_if_ne C (ckD_get k_X10_isCut_0 14 rfl) (fun c_6 => ?_) (fun c_6 => ?_)
    · have hf := if_f hf c_6
      refine g_iconst (v := (0 : Int32)) C (ckD_get k_X10_isCut_0 26 rfl) (by decide) ?_
      cases hf
      exact g_zret C (ckD_get k_X10_isCut_0 27 rfl) hr rfl hRv (Nat.le_refl _) (Nat.le_refl _)
    · have hf := if_t hf c_6
      refine g_aload_n 0 C (ckD_get k_X10_isCut_0 15 rfl) rfl rfl ?_
      refine g_iconst (v := (1 : Int32)) C (ckD_get k_X10_isCut_0 16 rfl) (by decide) ?_
      refine g_aload_n 0 C (ckD_get k_X10_isCut_0 17 rfl) rfl rfl ?_
      refine g_getI C (ckD_get k_X10_isCut_0 18 rfl) fk_X10_124 T69 rfl ?_
      refine g_ishl C (ckD_get k_X10_isCut_0 19 rfl) ?_
      refine g_iconst (v := (1 : Int32)) C (ckD_get k_X10_isCut_0 20 rfl) (by decide) ?_
      refine g_isub C (ckD_get k_X10_isCut_0 21 rfl) ?_
      obtain ⟨r_8, hr_7, hf⟩ := bd_e hf
      refine n_cV [.int (((1 : Int32) <<< ((M_4.1 69 1) &&& 31)) - (1 : Int32))] [] C (ckD_get k_X10_isCut_0 22 rfl) vk_X10_255 (t_X10_parts C.tr 30 _ _ _ hr_7) T69 rfl rfl (Nat.le_of_ble_eq_true rfl) (by decide) hB rfl ?_
      refine g_if_eq C (ckD_get k_X10_isCut_0 23 rfl) (fun c_9 => ?_) (fun c_9 => ?_)
      · have hf := if_t hf c_9
        refine g_iconst (v := (0 : Int32)) C (ckD_get k_X10_isCut_0 26 rfl) (by decide) ?_
        cases hf
        exact g_zret C (ckD_get k_X10_isCut_0 27 rfl) hr rfl hRv (Nat.le_refl _) (Nat.le_refl _)
      · have hf := if_f hf c_9
        refine g_iconst (v := (1 : Int32)) C (ckD_get k_X10_isCut_0 24 rfl) (by decide) ?_
        refine g_goto C (ckD_get k_X10_isCut_0 25 rfl) ?_
        cases hf
        exact g_zret C (ckD_get k_X10_isCut_0 27 rfl) hr rfl hRv (Nat.le_refl _) (Nat.le_refl _)
  · have hf := if_t hf c_2
    refine g_aload_n 0 C (ckD_get k_X10_isCut_0 7 rfl) rfl rfl ?_
    obtain ⟨z_12, ez_12, hf⟩ := lt_e hf
    refine n_cV [] [] C (ckD_get k_X10_isCut_0 8 rfl) vk_X10_134 (t_X10_fail C.tr _ _ ez_12) T69 rfl rfl (Nat.le_of_ble_eq_true rfl) (by decide) hB rfl ?_
    refine g_pop C (ckD_get k_X10_isCut_0 9 rfl) rfl ?_
    refine g_iconst (v := (0 : Int32)) C (ckD_get k_X10_isCut_0 10 rfl) (by decide) ?_
    cases hf
    exact g_zret C (ckD_get k_X10_isCut_0 11 rfl) hr rfl hRv (Nat.le_refl _) (Nat.le_refl _)
