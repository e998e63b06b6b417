set_option maxRecDepth 20000 in
theorem k_X10_layUnder_0 : ckD cX10_layUnder [(0, .iload_n 1, 1, 1, 0), (1, .iconst (-1), 1, 2, 0), (2, .if_icmp .ne 4, 3, 5, 6), (5, .return_, 1, 6, 0), (6, .aload_n 0, 1, 7, 0), (7, .getfield 27, 3, 10, 0), (10, .iload_n 1, 1, 11, 0), (11, .iload_n 2, 1, 12, 0), (12, .iastore, 1, 13, 0), (13, .aload_n 0, 1, 14, 0), (14, .getfield 30, 3, 17, 0), (17, .iload_n 1, 1, 18, 0), (18, .iconst 0, 1, 19, 0), (19, .iastore, 1, 20, 0), (20, .iconst 0, 1, 21, 0), (21, .istore_n 3, 1, 22, 0), (22, .iload_n 3, 1, 23, 0), (23, .aload_n 0, 1, 24, 0), (24, .getfield 204, 3, 27, 0), (27, .if_icmp .ge 81, 3, 30, 108), (30, .aload_n 0, 1, 31, 0), (31, .getfield 63, 3, 34, 0), (34, .iload_n 3, 1, 35, 0), (35, .iaload, 1, 36, 0), (36, .istore 4, 2, 38, 0), (38, .aload_n 0, 1, 39, 0), (39, .getfield 27, 3, 42, 0), (42, .iload 4, 2, 44, 0), (44, .iaload, 1, 45, 0), (45, .iload_n 2, 1, 46, 0), (46, .aload_n 0, 1, 47, 0), (47, .iload_n 1, 1, 48, 0), (48, .invokevirtual 152, 3, 51, 0), (51, .iadd, 1, 52, 0), (52, .if_icmp .ge 50, 3, 55, 102), (55, .iload_n 2, 1, 56, 0), (56, .aload_n 0, 1, 57, 0), (57, .getfield 27, 3, 60, 0), (60, .iload 4, 2, 62, 0), (62, .iaload, 1, 63, 0)] = true := by decide +kernel
set_option maxRecDepth 20000 in
theorem k_X10_layUnder_1 : ckD cX10_layUnder [(63, .aload_n 0, 1, 64, 0), (64, .iload 4, 2, 66, 0), (66, .invokevirtual 152, 3, 69, 0), (69, .iadd, 1, 70, 0), (70, .if_icmp .ge 32, 3, 73, 102), (73, .aload_n 0, 1, 74, 0), (74, .getfield 30, 3, 77, 0), (77, .iload_n 1, 1, 78, 0), (78, .aload_n 0, 1, 79, 0), (79, .getfield 30, 3, 82, 0), (82, .iload_n 1, 1, 83, 0), (83, .iaload, 1, 84, 0), (84, .aload_n 0, 1, 85, 0), (85, .getfield 30, 3, 88, 0), (88, .iload 4, 2, 90, 0), (90, .iaload, 1, 91, 0), (91, .aload_n 0, 1, 92, 0), (92, .iload 4, 2, 94, 0), (94, .invokevirtual 162, 3, 97, 0), (97, .iadd, 1, 98, 0), (98, .invokestatic 156, 3, 101, 0), (101, .iastore, 1, 102, 0), (102, .iinc 3 1, 3, 105, 0), (105, .goto (-83), 3, 108, 22), (108, .aload_n 0, 1, 109, 0), (109, .getfield 63, 3, 112, 0), (112, .aload_n 0, 1, 113, 0), (113, .getfield 204, 3, 116, 0), (116, .iload_n 1, 1, 117, 0), (117, .iastore, 1, 118, 0), (118, .aload_n 0, 1, 119, 0), (119, .dup, 1, 120, 0), (120, .getfield 204, 3, 123, 0), (123, .iconst 1, 1, 124, 0), (124, .iadd, 1, 125, 0), (125, .putfield 204, 3, 128, 0), (128, .aload_n 0, 1, 129, 0), (129, .aload_n 0, 1, 130, 0), (130, .getfield 42, 3, 133, 0), (133, .iload_n 1, 1, 134, 0)] = true := by decide +kernel
set_option maxRecDepth 20000 in
theorem k_X10_layUnder_2 : ckD cX10_layUnder [(134, .iaload, 1, 135, 0), (135, .iload_n 2, 1, 136, 0), (136, .aload_n 0, 1, 137, 0), (137, .iload_n 1, 1, 138, 0), (138, .invokevirtual 152, 3, 141, 0), (141, .iadd, 1, 142, 0), (142, .invokevirtual 207, 3, 145, 0), (145, .aload_n 0, 1, 146, 0), (146, .aload_n 0, 1, 147, 0), (147, .getfield 45, 3, 150, 0), (150, .iload_n 1, 1, 151, 0), (151, .iaload, 1, 152, 0), (152, .iload_n 2, 1, 153, 0), (153, .invokevirtual 207, 3, 156, 0), (156, .return_, 1, 157, 0)] = true := by decide +kernel
def f_X10_layUnder_A22 (a1 : Int32) (a2 : Int32) (F : Int32 → Int32 → Mm → Option Mm) (M_8 : Mm) : Option Mm := wrI 12 M_8 86 (M_8.1 69 22) a1 fun M_9 => lt1 (wi M_9 69 22 ((M_9.1 69 22) + (1 : Int32))) fun M_11 => rdI 12 M_11 79 a1 fun v_12 => (f_X10_wide a1 M_11).bind fun r_15 => (F v_12 (a2 + r_15) M_11).bind fun M_17 => rdI 12 M_17 80 a1 fun v_18 => (F v_18 a2 M_17).bind fun M_21 => some M_21
def f_X10_layUnder_J102 (x3_6 : Int32) (M_29 : Mm) : Option ((Int32 × Mm) ⊕ Mm) := lt1 (x3_6 + 1) fun x3_30 => some (.inl (x3_30, M_29))
def f_X10_layUnder_L22 (a1 : Int32) (a2 : Int32) (x3_6 : Int32) (M_7 : Mm) : Option ((Int32 × Mm) ⊕ Mm) := if (M_7.1 69 22) ≤ x3_6 then some (.inr M_7) else rdI 12 M_7 86 x3_6 fun v_23 => rdI 12 M_7 74 v_23 fun v_25 => (f_X10_wide a1 M_7).bind fun r_28 => if (a2 + r_28) ≤ v_25 then f_X10_layUnder_J102 x3_6 M_7 else rdI 12 M_7 74 v_23 fun v_32 => (f_X10_wide v_23 M_7).bind fun r_35 => if (v_32 + r_35) ≤ a2 then f_X10_layUnder_J102 x3_6 M_7 else rdI 12 M_7 75 a1 fun v_37 => rdI 12 M_7 75 v_23 fun v_39 => (f_X10_high v_23 M_7).bind fun r_42 => wrI 12 M_7 75 a1 (jmax v_37 (v_39 + r_42)) fun M_43 => f_X10_layUnder_J102 x3_6 M_43
def f_X10_layUnder_B (F : Int32 → Int32 → Mm → Option Mm) (a1 : Int32) (a2 : Int32) (M : Mm) : Option Mm := if a1 = (-1 : Int32) then some M else wrI 12 M 74 a1 a2 fun M_2 => wrI 12 M_2 75 a1 (0 : Int32) fun M_4 => (loop (fun v => f_X10_layUnder_L22 a1 a2 v.1 v.2) FU ((0 : Int32), M_4)).bind fun z => f_X10_layUnder_A22 a1 a2 F z
def f_X10_layUnder : Nat → Int32 → Int32 → Mm → Option Mm
  | 0 => fun _ _ _ => none
  | n + 1 => f_X10_layUnder_B (f_X10_layUnder n)
set_option maxRecDepth 100000 in
set_option maxHeartbeats 4000000 in
theorem t_X10_layUnder {E : Ev} {l : Launch} (htr : l.stackTraces = false) : ∀ (n : Nat) (a1 : Int32) (a2 : Int32) (M : Mm) (r : Mm), f_X10_layUnder n a1 a2 M = some r → CM E l (2 + 1 * n) 0 0 yX10_layUnder cX10_layUnder 5 none [.ref (E.1 + 69), .int a1, .int a2] M none r := by
  intro n
  induction n with
  | zero => intro a1 a2 M r hf; cases hf
  | succ n ih =>
    intro a1 a2 M r hf
    have hf : f_X10_layUnder_B (f_X10_layUnder n) a1 a2 M = some r := hf
    generalize f_X10_layUnder n = F at hf ih
    refine CM.of htr (by decide +kernel) (Nat.le_of_ble_eq_true rfl) ?_
    intro K hE hL hl hR0 C hr hRv
    subst hE
    subst hl
    have C : Cx K cX10_layUnder RX10 (2 + 1 * (n + 1)) := C
    have hB : (0 : Nat) ≤ K.1.R.cells ∧ 0 ≤ K.1.R.slots := ⟨Nat.zero_le _, Nat.zero_le _⟩
    have hL3 : 3 < K.2.2.1 := by rw [hL]; decide
    have hL4 : 4 < K.2.2.1 := by rw [hL]; decide
    show G K (0, 0) 0 [(0, .ref (K.2.1.1 + 69)), (1, .int a1), (2, .int a2)] [] M
    unfold f_X10_layUnder_B at hf
    refine g_iload_n 1 C (ckD_get k_X10_layUnder_0 0 rfl) rfl rfl ?_
    refine g_iconst (v := (-1 : Int32)) C (ckD_get k_X10_layUnder_0 1 rfl) (by decide) ?_
    refine g_icmp_ne C (ckD_get k_X10_layUnder_0 2 rfl) (fun c_1 => ?_) (fun c_1 => ?_)
    · have hf := if_f hf c_1
      refine g_aload_n 0 C (ckD_get k_X10_layUnder_0 4 rfl) rfl rfl ?_
      refine g_getR C (ckD_get k_X10_layUnder_0 5 rfl) fk_X10_27 T69 rfl ?_
      refine g_iload_n 1 C (ckD_get k_X10_layUnder_0 6 rfl) rfl rfl ?_
      refine g_iload_n 2 C (ckD_get k_X10_layUnder_0 7 rfl) rfl rfl ?_
      obtain ⟨M_2, hi_3, eM_2, hf⟩ := wrI_e hf
      refine n_iast C (ckD_get k_X10_layUnder_0 8 rfl) T74 hi_3 eM_2 ?_
      refine g_aload_n 0 C (ckD_get k_X10_layUnder_0 9 rfl) rfl rfl ?_
      refine g_getR C (ckD_get k_X10_layUnder_0 10 rfl) fk_X10_30 T69 rfl ?_
      refine g_iload_n 1 C (ckD_get k_X10_layUnder_0 11 rfl) rfl rfl ?_
      refine g_iconst (v := (0 : Int32)) C (ckD_get k_X10_layUnder_0 12 rfl) (by decide) ?_
      obtain ⟨M_4, hi_5, eM_4, hf⟩ := wrI_e hf
      refine n_iast C (ckD_get k_X10_layUnder_0 13 rfl) T75 hi_5 eM_4 ?_
      refine g_iconst (v := (0 : Int32)) C (ckD_get k_X10_layUnder_0 14 rfl) (by decide) ?_
      refine g_istore_n (lv' := [(3, _), (0, _), (1, _), (2, _)]) C (ckD_get k_X10_layUnder_0 15 rfl) rfl hL3 rfl ?_
      refine G.sub [1, 2, 3, 0] rfl ?_
      obtain ⟨M_8, hx_22, hf⟩ := bd_e hf
      have hE_22 : G K (0, 0) 108 [(0, .ref (K.2.1.1 + 69)), (1, .int a1), (2, .int a2)] [] M_8 := by
        have hf : f_X10_layUnder_A22 a1 a2 F M_8 = some r := hf
        unfold f_X10_layUnder_A22 at hf
        refine g_aload_n 0 C (ckD_get k_X10_layUnder_1 24 rfl) rfl rfl ?_
        refine g_getR C (ckD_get k_X10_layUnder_1 25 rfl) fk_X10_63 T69 rfl ?_
        refine g_aload_n 0 C (ckD_get k_X10_layUnder_1 26 rfl) rfl rfl ?_
        refine g_getI C (ckD_get k_X10_layUnder_1 27 rfl) fk_X10_204 T69 rfl ?_
        refine g_iload_n 1 C (ckD_get k_X10_layUnder_1 28 rfl) rfl rfl ?_
        obtain ⟨M_9, hi_10, eM_9, hf⟩ := wrI_e hf
        refine n_iast C (ckD_get k_X10_layUnder_1 29 rfl) T86 hi_10 eM_9 ?_
        refine g_aload_n 0 C (ckD_get k_X10_layUnder_1 30 rfl) rfl rfl ?_
        refine g_dup C (ckD_get k_X10_layUnder_1 31 rfl) rfl ?_
        refine g_getI C (ckD_get k_X10_layUnder_1 32 rfl) fk_X10_204 T69 rfl ?_
        refine g_iconst (v := (1 : Int32)) C (ckD_get k_X10_layUnder_1 33 rfl) (by decide) ?_
        refine g_iadd C (ckD_get k_X10_layUnder_1 34 rfl) ?_
        obtain ⟨M_11, eM_11, hf⟩ := lt_e hf
        refine g_putI C (ckD_get k_X10_layUnder_1 35 rfl) fk_X10_204 T69 rfl ?_
        refine memI eM_11 ?_
        refine g_aload_n 0 C (ckD_get k_X10_layUnder_1 36 rfl) rfl rfl ?_
        refine g_aload_n 0 C (ckD_get k_X10_layUnder_1 37 rfl) rfl rfl ?_
        refine g_getR C (ckD_get k_X10_layUnder_1 38 rfl) fk_X10_42 T69 rfl ?_
        refine g_iload_n 1 C (ckD_get k_X10_layUnder_1 39 rfl) rfl rfl ?_
        obtain ⟨v_12, hi_13, ev_12, hf⟩ := rdI_e hf
        refine n_iald C (ckD_get k_X10_layUnder_2 0 rfl) T79 hi_13 ev_12 ?_
        refine g_iload_n 2 C (ckD_get k_X10_layUnder_2 1 rfl) rfl rfl ?_
        refine g_aload_n 0 C (ckD_get k_X10_layUnder_2 2 rfl) rfl rfl ?_
        refine g_iload_n 1 C (ckD_get k_X10_layUnder_2 3 rfl) rfl rfl ?_
        obtain ⟨r_15, hr_14, hf⟩ := bd_e hf
        refine n_cV [.int a1] [.int a2, .int v_12, .ref (K.2.1.1 + 69)] C (ckD_get k_X10_layUnder_2 4 rfl) vk_X10_152 (t_X10_wide C.tr _ _ _ hr_14) T69 rfl rfl (Nat.le_of_ble_eq_true rfl) (by omega) hB rfl ?_
        refine g_iadd C (ckD_get k_X10_layUnder_2 5 rfl) ?_
        obtain ⟨M_17, hr_16, hf⟩ := bd_e hf
        refine n_cV [.int v_12, .int (a2 + r_15)] [] C (ckD_get k_X10_layUnder_2 6 rfl) vk_X10_207 (ih _ _ _ _ hr_16) T69 rfl rfl (Nat.le_of_ble_eq_true rfl) (by omega) hB rfl ?_
        refine g_aload_n 0 C (ckD_get k_X10_layUnder_2 7 rfl) rfl rfl ?_
        refine g_aload_n 0 C (ckD_get k_X10_layUnder_2 8 rfl) rfl rfl ?_
        refine g_getR C (ckD_get k_X10_layUnder_2 9 rfl) fk_X10_45 T69 rfl ?_
        refine g_iload_n 1 C (ckD_get k_X10_layUnder_2 10 rfl) rfl rfl ?_
        obtain ⟨v_18, hi_19, ev_18, hf⟩ := rdI_e hf
        refine n_iald C (ckD_get k_X10_layUnder_2 11 rfl) T80 hi_19 ev_18 ?_
        refine g_iload_n 2 C (ckD_get k_X10_layUnder_2 12 rfl) rfl rfl ?_
        obtain ⟨M_21, hr_20, hf⟩ := bd_e hf
        refine n_cV [.int v_18, .int a2] [] C (ckD_get k_X10_layUnder_2 13 rfl) vk_X10_207 (ih _ _ _ _ hr_20) T69 rfl rfl (Nat.le_of_ble_eq_true rfl) (by omega) hB rfl ?_
        cases hf
        exact g_vret C (ckD_get k_X10_layUnder_2 14 rfl) hr hRv (Nat.le_refl _) (Nat.le_refl _)
      refine loop_e (x := M_8) (P := fun (v : (Int32 × Mm)) => G K (0, 0) 22 [(0, .ref (K.2.1.1 + 69)), (1, .int a1), (2, .int a2), (3, .int v.1)] [] v.2) ?_ FU _ hx_22
      intro v rr_22 hf hn_22 hz_22
      obtain ⟨x3_6, M_7⟩ := v
      have hf : f_X10_layUnder_L22 a1 a2 x3_6 M_7 = some rr_22 := hf
      show G K (0, 0) 22 [(0, .ref (K.2.1.1 + 69)), (1, .int a1), (2, .int a2), (3, .int x3_6)] [] M_7
      unfold f_X10_layUnder_L22 at hf
      refine g_iload_n 3 C (ckD_get k_X10_layUnder_0 16 rfl) rfl rfl ?_
      refine g_aload_n 0 C (ckD_get k_X10_layUnder_0 17 rfl) rfl rfl ?_
      refine g_getI C (ckD_get k_X10_layUnder_0 18 rfl) fk_X10_204 T69 rfl ?_
      refine g_icmp_ge C (ckD_get k_X10_layUnder_0 19 rfl) (fun c_22 => ?_) (fun c_22 => ?_)
      · have hf := if_t hf c_22
        refine G.sub [0, 1, 2] rfl ?_
        cases hf
        cases hz_22 _ rfl
        exact hE_22
      · have hf := if_f hf c_22
        refine g_aload_n 0 C (ckD_get k_X10_layUnder_0 20 rfl) rfl rfl ?_
        refine g_getR C (ckD_get k_X10_layUnder_0 21 rfl) fk_X10_63 T69 rfl ?_
        refine g_iload_n 3 C (ckD_get k_X10_layUnder_0 22 rfl) rfl rfl ?_
        obtain ⟨v_23, hi_24, ev_23, hf⟩ := rdI_e hf
        refine n_iald C (ckD_get k_X10_layUnder_0 23 rfl) T86 hi_24 ev_23 ?_
        refine g_istore (lv' := [(4, _), (0, _), (1, _), (2, _), (3, _)]) C (ckD_get k_X10_layUnder_0 24 rfl) hL4 rfl ?_
        refine g_aload_n 1 C (ckD_get k_X10_layUnder_0 25 rfl) rfl rfl ?_
        refine g_getR C (ckD_get k_X10_layUnder_0 26 rfl) fk_X10_27 T69 rfl ?_
        refine g_iload 0 C (ckD_get k_X10_layUnder_0 27 rfl) rfl ?_
        obtain ⟨v_25, hi_26, ev_25, hf⟩ := rdI_e hf
        refine n_iald C (ckD_get k_X10_layUnder_0 28 rfl) T74 hi_26 ev_25 ?_
        refine g_iload_n 3 C (ckD_get k_X10_layUnder_0 29 rfl) rfl rfl ?_
        refine g_aload_n 1 C (ckD_get k_X10_layUnder_0 30 rfl) rfl rfl ?_
        refine g_iload_n 2 C (ckD_get k_X10_layUnder_0 31 rfl) rfl rfl ?_
        obtain ⟨r_28, hr_27, hf⟩ := bd_e hf
        refine n_cV [.int a1] [.int a2, .int v_25] C (ckD_get k_X10_layUnder_0 32 rfl) vk_X10_152 (t_X10_wide C.tr _ _ _ hr_27) T69 rfl rfl (Nat.le_of_ble_eq_true rfl) (by omega) hB rfl ?_
        refine g_iadd C (ckD_get k_X10_layUnder_0 33 rfl) ?_
        have hJ_102 : ∀ (M_29 : Mm), f_X10_layUnder_J102 x3_6 M_29 = some rr_22 → G K (0, 0) 102 [(0, .ref (K.2.1.1 + 69)), (1, .int a1), (2, .int a2), (3, .int x3_6)] [] M_29 := by
          intro M_29 hf
          unfold f_X10_layUnder_J102 at hf
          obtain ⟨x3_30, ex3_30, hf⟩ := lt_e hf
          refine g_iinc (lv' := [(3, _), (0, _), (1, _), (2, _)]) 3 C (ckD_get k_X10_layUnder_1 22 rfl) rfl ex3_30 hL3 rfl ?_
          refine g_goto C (ckD_get k_X10_layUnder_1 23 rfl) ?_
          refine G.sub [1, 2, 3, 0] rfl ?_
          cases hf
          exact hn_22 _ rfl
        refine g_icmp_ge C (ckD_get k_X10_layUnder_0 34 rfl) (fun c_31 => ?_) (fun c_31 => ?_)
        · have hf := if_t hf c_31
          refine G.sub [1, 2, 3, 4] rfl ?_
          exact hJ_102 _ hf
        · have hf := if_f hf c_31
          refine g_iload_n 3 C (ckD_get k_X10_layUnder_0 35 rfl) rfl rfl ?_
          refine g_aload_n 1 C (ckD_get k_X10_layUnder_0 36 rfl) rfl rfl ?_
          refine g_getR C (ckD_get k_X10_layUnder_0 37 rfl) fk_X10_27 T69 rfl ?_
          refine g_iload 0 C (ckD_get k_X10_layUnder_0 38 rfl) rfl ?_
          obtain ⟨v_32, hi_33, ev_32, hf⟩ := rdI_e hf
          refine n_iald C (ckD_get k_X10_layUnder_0 39 rfl) T74 hi_33 ev_32 ?_
          refine g_aload_n 1 C (ckD_get k_X10_layUnder_1 0 rfl) rfl rfl ?_
          refine g_iload 0 C (ckD_get k_X10_layUnder_1 1 rfl) rfl ?_
          obtain ⟨r_35, hr_34, hf⟩ := bd_e hf
          refine n_cV [.int v_23] [.int v_32, .int a2] C (ckD_get k_X10_layUnder_1 2 rfl) vk_X10_152 (t_X10_wide C.tr _ _ _ hr_34) T69 rfl rfl (Nat.le_of_ble_eq_true rfl) (by omega) hB rfl ?_
          refine g_iadd C (ckD_get k_X10_layUnder_1 3 rfl) ?_
          refine g_icmp_ge C (ckD_get k_X10_layUnder_1 4 rfl) (fun c_36 => ?_) (fun c_36 => ?_)
          · have hf := if_t hf c_36
            refine G.sub [1, 2, 3, 4] rfl ?_
            exact hJ_102 _ hf
          · have hf := if_f hf c_36
            refine g_aload_n 1 C (ckD_get k_X10_layUnder_1 5 rfl) rfl rfl ?_
            refine g_getR C (ckD_get k_X10_layUnder_1 6 rfl) fk_X10_30 T69 rfl ?_
            refine g_iload_n 2 C (ckD_get k_X10_layUnder_1 7 rfl) rfl rfl ?_
            refine g_aload_n 1 C (ckD_get k_X10_layUnder_1 8 rfl) rfl rfl ?_
            refine g_getR C (ckD_get k_X10_layUnder_1 9 rfl) fk_X10_30 T69 rfl ?_
            refine g_iload_n 2 C (ckD_get k_X10_layUnder_1 10 rfl) rfl rfl ?_
            obtain ⟨v_37, hi_38, ev_37, hf⟩ := rdI_e hf
            refine n_iald C (ckD_get k_X10_layUnder_1 11 rfl) T75 hi_38 ev_37 ?_
            refine g_aload_n 1 C (ckD_get k_X10_layUnder_1 12 rfl) rfl rfl ?_
            refine g_getR C (ckD_get k_X10_layUnder_1 13 rfl) fk_X10_30 T69 rfl ?_
            refine g_iload 0 C (ckD_get k_X10_layUnder_1 14 rfl) rfl ?_
            obtain ⟨v_39, hi_40, ev_39, hf⟩ := rdI_e hf
            refine n_iald C (ckD_get k_X10_layUnder_1 15 rfl) T75 hi_40 ev_39 ?_
            refine g_aload_n 1 C (ckD_get k_X10_layUnder_1 16 rfl) rfl rfl ?_
            refine g_iload 0 C (ckD_get k_X10_layUnder_1 17 rfl) rfl ?_
            obtain ⟨r_42, hr_41, hf⟩ := bd_e hf
            refine n_cV [.int v_23] [.int v_39, .int v_37, .int a1, .ref (K.2.1.1 + 75)] C (ckD_get k_X10_layUnder_1 18 rfl) vk_X10_162 (t_X10_high C.tr _ _ _ hr_41) T69 rfl rfl (Nat.le_of_ble_eq_true rfl) (by omega) hB rfl ?_
            refine g_iadd C (ckD_get k_X10_layUnder_1 19 rfl) ?_
            refine n_mmax C (ckD_get k_X10_layUnder_1 20 rfl) mk_X10_156 (by omega) (Nat.le_of_ble_eq_true rfl) hB ?_
            obtain ⟨M_43, hi_44, eM_43, hf⟩ := wrI_e hf
            refine n_iast C (ckD_get k_X10_layUnder_1 21 rfl) T75 hi_44 eM_43 ?_
            refine G.sub [1, 2, 3, 4] rfl ?_
            exact hJ_102 _ hf
    · have hf := if_t hf c_1
      cases hf
      exact g_vret C (ckD_get k_X10_layUnder_0 3 rfl) hr hRv (Nat.le_refl _) (Nat.le_refl _)

set_option maxRecDepth 20000 in
theorem k_X10_layTree_0 : ckD cX10_layTree [(0, .aload_n 0, 1, 1, 0), (1, .iconst 0, 1, 2, 0), (2, .putfield 204, 3, 5, 0), (5, .aload_n 0, 1, 6, 0), (6, .aload_n 0, 1, 7, 0), (7, .getfield 198, 3, 10, 0), (10, .iconst 0, 1, 11, 0), (11, .invokevirtual 207, 3, 14, 0), (14, .aload_n 0, 1, 15, 0), (15, .iconst 3, 1, 16, 0), (16, .putfield 23, 3, 19, 0), (19, .return_, 1, 20, 0)] = true := by decide +kernel
def f_X10_layTree  (M : Mm) : Option Mm := lt1 (wi M 69 22 (0 : Int32)) fun M_1 => (f_X10_layUnder 30 (M_1.1 69 8) (0 : Int32) M_1).bind fun M_3 => lt1 (wi M_3 69 6 (3 : Int32)) fun M_4 => some M_4
set_option maxRecDepth 100000 in
set_option maxHeartbeats 4000000 in
theorem t_X10_layTree {E : Ev} {l : Launch} (htr : l.stackTraces = false) (M : Mm) (r : Mm) (hf : f_X10_layTree M = some r) : CM E l 33 0 0 yX10_layTree cX10_layTree 1 none [.ref (E.1 + 69)] M none r := by
  refine CM.of htr (by decide +kernel) (Nat.le_of_ble_eq_true rfl) ?_
  intro K hE hL hl hR0 C hr hRv
  subst hE
  subst hl
  have C : Cx K cX10_layTree RX10 33 := C
  have hB : (0 : Nat) ≤ K.1.R.cells ∧ 0 ≤ K.1.R.slots := ⟨Nat.zero_le _, Nat.zero_le _⟩
  show G K (0, 0) 0 [(0, .ref (K.2.1.1 + 69))] [] M
  unfold f_X10_layTree at hf
  refine g_aload_n 0 C (ckD_get k_X10_layTree_0 0 rfl) rfl rfl ?_
  refine g_iconst (v := (0 : Int32)) C (ckD_get k_X10_layTree_0 1 rfl) (by decide) ?_
  obtain ⟨M_1, eM_1, hf⟩ := lt_e hf
  refine g_putI C (ckD_get k_X10_layTree_0 2 rfl) fk_X10_204 T69 rfl ?_
  refine memI eM_1 ?_
  refine g_aload_n 0 C (ckD_get k_X10_layTree_0 3 rfl) rfl rfl ?_
  refine g_aload_n 0 C (ckD_get k_X10_layTree_0 4 rfl) rfl rfl ?_
  refine g_getI C (ckD_get k_X10_layTree_0 5 rfl) fk_X10_198 T69 rfl ?_
  refine g_iconst (v := (0 : Int32)) C (ckD_get k_X10_layTree_0 6 rfl) (by decide) ?_
  obtain ⟨M_3, hr_2, hf⟩ := bd_e hf
  refine n_cV [.int (M_1.1 69 8), .int (0 : Int32)] [] C (ckD_get k_X10_layTree_0 7 rfl) vk_X10_207 (t_X10_layUnder C.tr 30 _ _ _ _ hr_2) T69 rfl rfl (Nat.le_of_ble_eq_true rfl) (by decide) hB rfl ?_
  refine g_aload_n 0 C (ckD_get k_X10_layTree_0 8 rfl) rfl rfl ?_
  refine g_iconst (v := (3 : Int32)) C (ckD_get k_X10_layTree_0 9 rfl) (by decide) ?_
  obtain ⟨M_4, eM_4, hf⟩ := lt_e hf
  refine g_putI C (ckD_get k_X10_layTree_0 10 rfl) fk_X10_23 T69 rfl ?_
  refine memI eM_4 ?_
  cases hf
  exact g_vret C (ckD_get k_X10_layTree_0 11 rfl) hr hRv (Nat.le_refl _) (Nat.le_refl _)

set_option maxRecDepth 20000 in
theorem k_X10_tree_0 : ckD cX10_tree [(0, .aload_n 0, 1, 1, 0), (1, .iconst 0, 1, 2, 0), (2, .putfield 121, 3, 5, 0), (5, .aload_n 0, 1, 6, 0), (6, .getfield 124, 3, 9, 0), (9, .ifCond .eq 11, 3, 12, 20), (12, .aload_n 0, 1, 13, 0), (13, .iload_n 1, 1, 14, 0), (14, .invokevirtual 130, 3, 17, 0), (17, .ifCond .ne 5, 3, 20, 22), (20, .iconst 0, 1, 21, 0), (21, .ireturn, 1, 22, 0), (22, .iconst 0, 1, 23, 0), (23, .istore 7, 2, 25, 0), (25, .iload 7, 2, 27, 0), (27, .aload_n 0, 1, 28, 0), (28, .getfield 124, 3, 31, 0), (31, .if_icmp .ge 70, 3, 34, 101), (34, .aload_n 0, 1, 35, 0), (35, .getfield 90, 3, 38, 0), (38, .iload 7, 2, 40, 0), (40, .aload_n 0, 1, 41, 0), (41, .lload_n 2, 1, 42, 0), (42, .iload 7, 2, 44, 0), (44, .invokestatic 140, 3, 47, 0), (47, .invokevirtual 195, 3, 50, 0), (50, .iastore, 1, 51, 0), (51, .aload_n 0, 1, 52, 0), (52, .getfield 93, 3, 55, 0), (55, .iload 7, 2, 57, 0), (57, .aload_n 0, 1, 58, 0), (58, .lload 4, 2, 60, 0), (60, .iload 7, 2, 62, 0), (62, .invokestatic 140, 3, 65, 0), (65, .invokevirtual 195, 3, 68, 0), (68, .iastore, 1, 69, 0), (69, .aload_n 0, 1, 70, 0), (70, .getfield 90, 3, 73, 0), (73, .iload 7, 2, 75, 0), (75, .iaload, 1, 76, 0)] = true := by decide +kernel
set_option maxRecDepth 20000 in
theorem k_X10_tree_1 : ckD cX10_tree [(76, .bipush (-2), 2, 78, 0), (78, .if_icmp .eq 15, 3, 81, 93), (81, .aload_n 0, 1, 82, 0), (82, .getfield 93, 3, 85, 0), (85, .iload 7, 2, 87, 0), (87, .iaload, 1, 88, 0), (88, .bipush (-2), 2, 90, 0), (90, .if_icmp .ne 5, 3, 93, 95), (93, .iconst 0, 1, 94, 0), (94, .ireturn, 1, 95, 0), (95, .iinc 7 1, 3, 98, 0), (98, .goto (-73), 3, 101, 25), (101, .aload_n 0, 1, 102, 0), (102, .iconst 0, 1, 103, 0), (103, .putfield 189, 3, 106, 0), (106, .aload_n 0, 1, 107, 0), (107, .iload_n 1, 1, 108, 0), (108, .invokevirtual 192, 3, 111, 0), (111, .aload_n 0, 1, 112, 0), (112, .getfield 124, 3, 115, 0), (115, .if_icmp .eq 5, 3, 118, 120), (118, .iconst 0, 1, 119, 0), (119, .ireturn, 1, 120, 0), (120, .iconst 0, 1, 121, 0), (121, .istore 7, 2, 123, 0), (123, .iload 7, 2, 125, 0), (125, .aload_n 0, 1, 126, 0), (126, .getfield 124, 3, 129, 0), (129, .if_icmp .ge 37, 3, 132, 166), (132, .aload_n 0, 1, 133, 0), (133, .getfield 42, 3, 136, 0), (136, .iload 7, 2, 138, 0), (138, .aload_n 0, 1, 139, 0), (139, .getfield 90, 3, 142, 0), (142, .iload 7, 2, 144, 0), (144, .iaload, 1, 145, 0), (145, .iastore, 1, 146, 0), (146, .aload_n 0, 1, 147, 0), (147, .getfield 45, 3, 150, 0), (150, .iload 7, 2, 152, 0)] = true := by decide +kernel
set_option maxRecDepth 20000 in
theorem k_X10_tree_2 : ckD cX10_tree [(152, .aload_n 0, 1, 153, 0), (153, .getfield 93, 3, 156, 0), (156, .iload 7, 2, 158, 0), (158, .iaload, 1, 159, 0), (159, .iastore, 1, 160, 0), (160, .iinc 7 1, 3, 163, 0), (163, .goto (-40), 3, 166, 123), (166, .aload_n 0, 1, 167, 0), (167, .iload_n 1, 1, 168, 0), (168, .putfield 198, 3, 171, 0), (171, .aload_n 0, 1, 172, 0), (172, .iload 6, 2, 174, 0), (174, .aload_n 0, 1, 175, 0), (175, .invokevirtual 169, 3, 178, 0), (178, .iand, 1, 179, 0), (179, .putfield 127, 3, 182, 0), (182, .aload_n 0, 1, 183, 0), (183, .invokevirtual 201, 3, 186, 0), (186, .iconst 1, 1, 187, 0), (187, .ireturn, 1, 188, 0)] = true := by decide +kernel
def f_X10_tree_A123 (a1 : Int32) (a4 : Int32) (M_14 : Mm) : Option (Int32 × Mm) := lt1 (wi M_14 69 8 a1) fun M_15 => (f_X10_turnable M_15).bind fun r_17 => lt1 (wi M_15 69 7 (a4 &&& r_17)) fun M_18 => (f_X10_layTree M_18).bind fun M_20 => some ((1 : Int32), M_20)
def f_X10_tree_L123 (x7_12 : Int32) (M_13 : Mm) : Option ((Int32 × Mm) ⊕ Mm) := if (M_13.1 69 1) ≤ x7_12 then some (.inr M_13) else rdI 12 M_13 95 x7_12 fun v_22 => wrI 12 M_13 79 x7_12 v_22 fun M_24 => rdI 12 M_24 96 x7_12 fun v_26 => wrI 12 M_24 80 x7_12 v_26 fun M_28 => lt1 (x7_12 + 1) fun x7_30 => some (.inl (x7_30, M_28))
def f_X10_tree_A25 (a1 : Int32) (a4 : Int32) (M_6 : Mm) : Option (Int32 × Mm) := lt1 (wi M_6 69 34 (0 : Int32)) fun M_7 => bd2 (f_X10_under 30 a1 M_7) fun r_10 M_9 => if r_10 = (M_9.1 69 1) then (loop (fun v => f_X10_tree_L123 v.1 v.2) FU ((0 : Int32), M_9)).bind fun z => f_X10_tree_A123 a1 a4 z else some ((0 : Int32), M_9)
def f_X10_tree_L25 (a2 : Int64) (a3 : Int64) (x7_4 : Int32) (M_5 : Mm) : Option ((Int32 × Mm) ⊕ (Mm ⊕ (Int32 × Mm))) := if (M_5.1 69 1) ≤ x7_4 then some (.inr (.inl M_5)) else wrI 12 M_5 95 x7_4 (f_X10_child (f_X10_nibble a2 x7_4) M_5) fun M_32 => wrI 12 M_32 96 x7_4 (f_X10_child (f_X10_nibble a3 x7_4) M_32) fun M_34 => rdI 12 M_34 95 x7_4 fun v_36 => if v_36 = (-2 : Int32) then some (.inr (.inr ((0 : Int32), M_34))) else rdI 12 M_34 96 x7_4 fun v_39 => if v_39 = (-2 : Int32) then some (.inr (.inr ((0 : Int32), M_34))) else lt1 (x7_4 + 1) fun x7_42 => some (.inl (x7_42, M_34))
def f_X10_tree (a1 : Int32) (a2 : Int64) (a3 : Int64) (a4 : Int32) (M : Mm) : Option (Int32 × Mm) := lt1 (wi M 69 0 (0 : Int32)) fun M_1 => if (M_1.1 69 1) = 0 then some ((0 : Int32), M_1) else if (f_X10_isBlock a1 M_1) = 0 then some ((0 : Int32), M_1) else (loop (fun v => f_X10_tree_L25 a2 a3 v.1 v.2) FU ((0 : Int32), M_1)).bind fun x => Sum.elim (fun z => f_X10_tree_A25 a1 a4 z) (fun o => some o) x
set_option maxRecDepth 100000 in
set_option maxHeartbeats 4000000 in
theorem t_X10_tree {E : Ev} {l : Launch} (htr : l.stackTraces = false) (a1 : Int32) (a2 : Int64) (a3 : Int64) (a4 : Int32) (M : Mm) (r : (Int32 × Mm)) (hf : f_X10_tree a1 a2 a3 a4 M = some r) : CM E l 34 0 0 yX10_tree cX10_tree 8 (some .boolean) [.ref (E.1 + 69), .int a1, .long a2, .long a3, .int a4] M (some (.int r.1)) r.2 := by
  refine CM.of htr (by decide +kernel) (Nat.le_of_ble_eq_true rfl) ?_
  intro K hE hL hl hR0 C hr hRv
  subst hE
  subst hl
  have C : Cx K cX10_tree RX10 34 := C
  have hB : (0 : Nat) ≤ K.1.R.cells ∧ 0 ≤ K.1.R.slots := ⟨Nat.zero_le _, Nat.zero_le _⟩
  have hL7 : 7 < K.2.2.1 := by rw [hL]; decide
  show G K (0, 0) 0 [(0, .ref (K.2.1.1 + 69)), (1, .int a1), (2, .long a2), (4, .long a3), (6, .int a4)] [] M
  unfold f_X10_tree at hf
  refine g_aload_n 0 C (ckD_get k_X10_tree_0 0 rfl) rfl rfl ?_
  refine g_iconst (v := (0 : Int32)) C (ckD_get k_X10_tree_0 1 rfl) (by decide) ?_
  obtain ⟨M_1, eM_1, hf⟩ := lt_e hf
  refine g_putI C (ckD_get k_X10_tree_0 2 rfl) fk_X10_121 T69 rfl ?_
  refine memI eM_1 ?_
  refine g_aload_n 0 C (ckD_get k_X10_tree_0 3 rfl) rfl rfl ?_
  refine g_getI C (ckD_get k_X10_tree_0 4 rfl) fk_X10_124 T69 rfl ?_
  refine g_if_eq C (ckD_get k_X10_tree_0 5 rfl) (fun c_2 => ?_) (fun c_2 => ?_)
  · have hf := if_t hf c_2
    refine g_iconst (v := (0 : Int32)) C (ckD_get k_X10_tree_0 10 rfl) (by decide) ?_
    cases hf
    exact g_zret C (ckD_get k_X10_tree_0 11 rfl) hr rfl hRv (Nat.le_refl _) (Nat.le_refl _)
  · have hf := if_f hf c_2
    refine g_aload_n 0 C (ckD_get k_X10_tree_0 6 rfl) rfl rfl ?_
    refine g_iload_n 1 C (ckD_get k_X10_tree_0 7 rfl) rfl rfl ?_
    refine n_cV [.int a1] [] C (ckD_get k_X10_tree_0 8 rfl) vk_X10_130 (t_X10_isBlock C.tr _ _ _ rfl) T69 rfl rfl (Nat.le_of_ble_eq_true rfl) (by decide) hB rfl ?_
    refine g_if_ne C (ckD_get k_X10_tree_0 9 rfl) (fun c_3 => ?_) (fun c_3 => ?_)
    · have hf := if_f hf c_3
      refine g_iconst (v := (0 : Int32)) C (ckD_get k_X10_tree_0 12 rfl) (by decide) ?_
      refine g_istore (lv' := [(7, _), (0, _), (1, _), (2, _), (4, _), (6, _)]) C (ckD_get k_X10_tree_0 13 rfl) hL7 rfl ?_
      refine G.sub [1, 2, 3, 4, 5, 0] rfl ?_
      obtain ⟨xx_25, hx_25, hf⟩ := bd_e hf
      have hE_25 : ∀ (M_6 : Mm), xx_25 = .inl M_6 → G K (0, 0) 101 [(0, .ref (K.2.1.1 + 69)), (1, .int a1), (6, .int a4)] [] M_6 := by
        intro M_6 ex
        subst ex
        have hf : f_X10_tree_A25 a1 a4 M_6 = some r := hf
        unfold f_X10_tree_A25 at hf
        refine g_aload_n 0 C (ckD_get k_X10_tree_1 12 rfl) rfl rfl ?_
        refine g_iconst (v := (0 : Int32)) C (ckD_get k_X10_tree_1 13 rfl) (by decide) ?_
        obtain ⟨M_7, eM_7, hf⟩ := lt_e hf
        refine g_putI C (ckD_get k_X10_tree_1 14 rfl) fk_X10_189 T69 rfl ?_
        refine memI eM_7 ?_
        refine g_aload_n 0 C (ckD_get k_X10_tree_1 15 rfl) rfl rfl ?_
        refine g_iload_n 1 C (ckD_get k_X10_tree_1 16 rfl) rfl rfl ?_
        obtain ⟨r_10, M_9, hr_8, hf⟩ := bd2_e hf
        refine n_cV [.int a1] [] C (ckD_get k_X10_tree_1 17 rfl) vk_X10_192 (t_X10_under C.tr 30 _ _ _ hr_8) T69 rfl rfl (Nat.le_of_ble_eq_true rfl) (by decide) hB rfl ?_
        refine g_aload_n 0 C (ckD_get k_X10_tree_1 18 rfl) rfl rfl ?_
        refine g_getI C (ckD_get k_X10_tree_1 19 rfl) fk_X10_124 T69 rfl ?_
        refine g_icmp_eq C (ckD_get k_X10_tree_1 20 rfl) (fun c_11 => ?_) (fun c_11 => ?_)
        · have hf := if_t hf c_11
          refine g_iconst (v := (0 : Int32)) C (ckD_get k_X10_tree_1 23 rfl) (by decide) ?_
          refine g_istore (lv' := [(7, _), (0, _), (1, _), (6, _)]) C (ckD_get k_X10_tree_1 24 rfl) hL7 rfl ?_
          refine G.sub [1, 2, 3, 0] rfl ?_
          obtain ⟨M_14, hx_123, hf⟩ := bd_e hf
          have hE_123 : G K (0, 0) 166 [(0, .ref (K.2.1.1 + 69)), (1, .int a1), (6, .int a4)] [] M_14 := by
            have hf : f_X10_tree_A123 a1 a4 M_14 = some r := hf
            unfold f_X10_tree_A123 at hf
            refine g_aload_n 0 C (ckD_get k_X10_tree_2 7 rfl) rfl rfl ?_
            refine g_iload_n 1 C (ckD_get k_X10_tree_2 8 rfl) rfl rfl ?_
            obtain ⟨M_15, eM_15, hf⟩ := lt_e hf
            refine g_putI C (ckD_get k_X10_tree_2 9 rfl) fk_X10_198 T69 rfl ?_
            refine memI eM_15 ?_
            refine g_aload_n 0 C (ckD_get k_X10_tree_2 10 rfl) rfl rfl ?_
            refine g_iload 2 C (ckD_get k_X10_tree_2 11 rfl) rfl ?_
            refine g_aload_n 0 C (ckD_get k_X10_tree_2 12 rfl) rfl rfl ?_
            obtain ⟨r_17, hr_16, hf⟩ := bd_e hf
            refine n_cV [] [.int a4, .ref (K.2.1.1 + 69)] C (ckD_get k_X10_tree_2 13 rfl) vk_X10_169 (t_X10_turnable C.tr _ _ hr_16) T69 rfl rfl (Nat.le_of_ble_eq_true rfl) (by decide) hB rfl ?_
            refine g_iand C (ckD_get k_X10_tree_2 14 rfl) ?_
            obtain ⟨M_18, eM_18, hf⟩ := lt_e hf
            refine g_putI C (ckD_get k_X10_tree_2 15 rfl) fk_X10_127 T69 rfl ?_
            refine memI eM_18 ?_
            refine g_aload_n 0 C (ckD_get k_X10_tree_2 16 rfl) rfl rfl ?_
            obtain ⟨M_20, hr_19, hf⟩ := bd_e hf
            refine n_cV [] [] C (ckD_get k_X10_tree_2 17 rfl) vk_X10_201 (t_X10_layTree C.tr _ _ hr_19) T69 rfl rfl (Nat.le_of_ble_eq_true rfl) (by decide) hB rfl ?_
            refine g_iconst (v := (1 : Int32)) C (ckD_get k_X10_tree_2 18 rfl) (by decide) ?_
            cases hf
            exact g_zret C (ckD_get k_X10_tree_2 19 rfl) hr rfl hRv (Nat.le_refl _) (Nat.le_refl _)
          refine loop_e (x := M_14) (P := fun (v : (Int32 × Mm)) => G K (0, 0) 123 [(0, .ref (K.2.1.1 + 69)), (1, .int a1), (6, .int a4), (7, .int v.1)] [] v.2) ?_ FU _ hx_123
          intro v rr_123 hf hn_123 hz_123
          obtain ⟨x7_12, M_13⟩ := v
          have hf : f_X10_tree_L123 x7_12 M_13 = some rr_123 := hf
          show G K (0, 0) 123 [(0, .ref (K.2.1.1 + 69)), (1, .int a1), (6, .int a4), (7, .int x7_12)] [] M_13
          unfold f_X10_tree_L123 at hf
          refine g_iload 3 C (ckD_get k_X10_tree_1 25 rfl) rfl ?_
          refine g_aload_n 0 C (ckD_get k_X10_tree_1 26 rfl) rfl rfl ?_
          refine g_getI C (ckD_get k_X10_tree_1 27 rfl) fk_X10_124 T69 rfl ?_
          refine g_icmp_ge C (ckD_get k_X10_tree_1 28 rfl) (fun c_21 => ?_) (fun c_21 => ?_)
          · have hf := if_t hf c_21
            refine G.sub [0, 1, 2] rfl ?_
            cases hf
            cases hz_123 _ rfl
            exact hE_123
          · have hf := if_f hf c_21
            refine g_aload_n 0 C (ckD_get k_X10_tree_1 29 rfl) rfl rfl ?_
            refine g_getR C (ckD_get k_X10_tree_1 30 rfl) fk_X10_42 T69 rfl ?_
            refine g_iload 3 C (ckD_get k_X10_tree_1 31 rfl) rfl ?_
            refine g_aload_n 0 C (ckD_get k_X10_tree_1 32 rfl) rfl rfl ?_
            refine g_getR C (ckD_get k_X10_tree_1 33 rfl) fk_X10_90 T69 rfl ?_
            refine g_iload 3 C (ckD_get k_X10_tree_1 34 rfl) rfl ?_
            obtain ⟨v_22, hi_23, ev_22, hf⟩ := rdI_e hf
            refine n_iald C (ckD_get k_X10_tree_1 35 rfl) T95 hi_23 ev_22 ?_
            obtain ⟨M_24, hi_25, eM_24, hf⟩ := wrI_e hf
            refine n_iast C (ckD_get k_X10_tree_1 36 rfl) T79 hi_25 eM_24 ?_
            refine g_aload_n 0 C (ckD_get k_X10_tree_1 37 rfl) rfl rfl ?_
            refine g_getR C (ckD_get k_X10_tree_1 38 rfl) fk_X10_45 T69 rfl ?_
            refine g_iload 3 C (ckD_get k_X10_tree_1 39 rfl) rfl ?_
            refine g_aload_n 0 C (ckD_get k_X10_tree_2 0 rfl) rfl rfl ?_
            refine g_getR C (ckD_get k_X10_tree_2 1 rfl) fk_X10_93 T69 rfl ?_
            refine g_iload 3 C (ckD_get k_X10_tree_2 2 rfl) rfl ?_
            obtain ⟨v_26, hi_27, ev_26, hf⟩ := rdI_e hf
            refine n_iald C (ckD_get k_X10_tree_2 3 rfl) T96 hi_27 ev_26 ?_
            obtain ⟨M_28, hi_29, eM_28, hf⟩ := wrI_e hf
            refine n_iast C (ckD_get k_X10_tree_2 4 rfl) T80 hi_29 eM_28 ?_
            obtain ⟨x7_30, ex7_30, hf⟩ := lt_e hf
            refine g_iinc (lv' := [(7, _), (0, _), (1, _), (6, _)]) 3 C (ckD_get k_X10_tree_2 5 rfl) rfl ex7_30 hL7 rfl ?_
            refine g_goto C (ckD_get k_X10_tree_2 6 rfl) ?_
            refine G.sub [1, 2, 3, 0] rfl ?_
            cases hf
            exact hn_123 _ rfl
        · have hf := if_f hf c_11
          refine g_iconst (v := (0 : Int32)) C (ckD_get k_X10_tree_1 21 rfl) (by decide) ?_
          cases hf
          exact g_zret C (ckD_get k_X10_tree_1 22 rfl) hr rfl hRv (Nat.le_refl _) (Nat.le_refl _)
      have hO_25 : ∀ o, xx_25 = .inr o → o = r := by
        intro o eo
        subst eo
        have hf : some o = some r := hf
        cases hf
        rfl
      refine loop_e (x := xx_25) (P := fun (v : (Int32 × Mm)) => G K (0, 0) 25 [(0, .ref (K.2.1.1 + 69)), (1, .int a1), (2, .long a2), (4, .long a3), (6, .int a4), (7, .int v.1)] [] v.2) ?_ FU _ hx_25
      intro v rr_25 hf hn_25 hz_25
      obtain ⟨x7_4, M_5⟩ := v
      have hf : f_X10_tree_L25 a2 a3 x7_4 M_5 = some rr_25 := hf
      show G K (0, 0) 25 [(0, .ref (K.2.1.1 + 69)), (1, .int a1), (2, .long a2), (4, .long a3), (6, .int a4), (7, .int x7_4)] [] M_5
      unfold f_X10_tree_L25 at hf
      refine g_iload 5 C (ckD_get k_X10_tree_0 14 rfl) rfl ?_
      refine g_aload_n 0 C (ckD_get k_X10_tree_0 15 rfl) rfl rfl ?_
      refine g_getI C (ckD_get k_X10_tree_0 16 rfl) fk_X10_124 T69 rfl ?_
      refine g_icmp_ge C (ckD_get k_X10_tree_0 17 rfl) (fun c_31 => ?_) (fun c_31 => ?_)
      · have hf := if_t hf c_31
        refine G.sub [0, 1, 4] rfl ?_
        cases hf
        exact hE_25 _ (hz_25 _ rfl).symm
      · have hf := if_f hf c_31
        refine g_aload_n 0 C (ckD_get k_X10_tree_0 18 rfl) rfl rfl ?_
        refine g_getR C (ckD_get k_X10_tree_0 19 rfl) fk_X10_90 T69 rfl ?_
        refine g_iload 5 C (ckD_get k_X10_tree_0 20 rfl) rfl ?_
        refine g_aload_n 0 C (ckD_get k_X10_tree_0 21 rfl) rfl rfl ?_
        refine g_lload_n 2 C (ckD_get k_X10_tree_0 22 rfl) rfl rfl ?_
        refine g_iload 5 C (ckD_get k_X10_tree_0 23 rfl) rfl ?_
        refine n_cS [.long a2, .int x7_4] [.ref (K.2.1.1 + 69), .int x7_4, .ref (K.2.1.1 + 95)] C (ckD_get k_X10_tree_0 24 rfl) sk_X10_140 (t_X10_nibble C.tr _ _ _ _ rfl) rfl rfl (Nat.le_of_ble_eq_true rfl) (by decide) hB rfl ?_
        refine n_cV [.int (f_X10_nibble a2 x7_4)] [.int x7_4, .ref (K.2.1.1 + 95)] C (ckD_get k_X10_tree_0 25 rfl) vk_X10_195 (t_X10_child C.tr _ _ _ rfl) T69 rfl rfl (Nat.le_of_ble_eq_true rfl) (by decide) hB rfl ?_
        obtain ⟨M_32, hi_33, eM_32, hf⟩ := wrI_e hf
        refine n_iast C (ckD_get k_X10_tree_0 26 rfl) T95 hi_33 eM_32 ?_
        refine g_aload_n 0 C (ckD_get k_X10_tree_0 27 rfl) rfl rfl ?_
        refine g_getR C (ckD_get k_X10_tree_0 28 rfl) fk_X10_93 T69 rfl ?_
        refine g_iload 5 C (ckD_get k_X10_tree_0 29 rfl) rfl ?_
        refine g_aload_n 0 C (ckD_get k_X10_tree_0 30 rfl) rfl rfl ?_
        refine g_lload 3 C (ckD_get k_X10_tree_0 31 rfl) rfl ?_
        refine g_iload 5 C (ckD_get k_X10_tree_0 32 rfl) rfl ?_
        refine n_cS [.long a3, .int x7_4] [.ref (K.2.1.1 + 69), .int x7_4, .ref (K.2.1.1 + 96)] C (ckD_get k_X10_tree_0 33 rfl) sk_X10_140 (t_X10_nibble C.tr _ _ _ _ rfl) rfl rfl (Nat.le_of_ble_eq_true rfl) (by decide) hB rfl ?_
        refine n_cV [.int (f_X10_nibble a3 x7_4)] [.int x7_4, .ref (K.2.1.1 + 96)] C (ckD_get k_X10_tree_0 34 rfl) vk_X10_195 (t_X10_child C.tr _ _ _ rfl) T69 rfl rfl (Nat.le_of_ble_eq_true rfl) (by decide) hB rfl ?_
        obtain ⟨M_34, hi_35, eM_34, hf⟩ := wrI_e hf
        refine n_iast C (ckD_get k_X10_tree_0 35 rfl) T96 hi_35 eM_34 ?_
        refine g_aload_n 0 C (ckD_get k_X10_tree_0 36 rfl) rfl rfl ?_
        refine g_getR C (ckD_get k_X10_tree_0 37 rfl) fk_X10_90 T69 rfl ?_
        refine g_iload 5 C (ckD_get k_X10_tree_0 38 rfl) rfl ?_
        obtain ⟨v_36, hi_37, ev_36, hf⟩ := rdI_e hf
        refine n_iald C (ckD_get k_X10_tree_0 39 rfl) T95 hi_37 ev_36 ?_
        refine g_bipush (v := (-2 : Int32)) C (ckD_get k_X10_tree_1 0 rfl) (by decide) ?_
        refine g_icmp_eq C (ckD_get k_X10_tree_1 1 rfl) (fun c_38 => ?_) (fun c_38 => ?_)
        · have hf := if_t hf c_38
          refine g_iconst (v := (0 : Int32)) C (ckD_get k_X10_tree_1 8 rfl) (by decide) ?_
          cases hf
          cases hO_25 _ (hz_25 _ rfl).symm
          exact g_zret C (ckD_get k_X10_tree_1 9 rfl) hr rfl hRv (Nat.le_refl _) (Nat.le_refl _)
        · have hf := if_f hf c_38
          refine g_aload_n 0 C (ckD_get k_X10_tree_1 2 rfl) rfl rfl ?_
          refine g_getR C (ckD_get k_X10_tree_1 3 rfl) fk_X10_93 T69 rfl ?_
          refine g_iload 5 C (ckD_get k_X10_tree_1 4 rfl) rfl ?_
          obtain ⟨v_39, hi_40, ev_39, hf⟩ := rdI_e hf
          refine n_iald C (ckD_get k_X10_tree_1 5 rfl) T96 hi_40 ev_39 ?_
          refine g_bipush (v := (-2 : Int32)) C (ckD_get k_X10_tree_1 6 rfl) (by decide) ?_
          refine g_icmp_ne C (ckD_get k_X10_tree_1 7 rfl) (fun c_41 => ?_) (fun c_41 => ?_)
          · have hf := if_f hf c_41
            obtain ⟨x7_42, ex7_42, hf⟩ := lt_e hf
            refine g_iinc (lv' := [(7, _), (0, _), (1, _), (2, _), (4, _), (6, _)]) 5 C (ckD_get k_X10_tree_1 10 rfl) rfl ex7_42 hL7 rfl ?_
            refine g_goto C (ckD_get k_X10_tree_1 11 rfl) ?_
            refine G.sub [1, 2, 3, 4, 5, 0] rfl ?_
            cases hf
            exact hn_25 _ rfl
          · have hf := if_t hf c_41
            refine g_iconst (v := (0 : Int32)) C (ckD_get k_X10_tree_1 8 rfl) (by decide) ?_
            cases hf
            cases hO_25 _ (hz_25 _ rfl).symm
            exact g_zret C (ckD_get k_X10_tree_1 9 rfl) hr rfl hRv (Nat.le_refl _) (Nat.le_refl _)
    · have hf := if_t hf c_3
      refine g_iconst (v := (0 : Int32)) C (ckD_get k_X10_tree_0 10 rfl) (by decide) ?_
      cases hf
      exact g_zret C (ckD_get k_X10_tree_0 11 rfl) hr rfl hRv (Nat.le_refl _) (Nat.le_refl _)

set_option maxRecDepth 20000 in
theorem k_X10_allWide_0 : ckD cX10_allWide [(0, .iconst 0, 1, 1, 0), (1, .istore_n 1, 1, 2, 0), (2, .iconst 0, 1, 3, 0), (3, .istore_n 2, 1, 4, 0), (4, .iload_n 2, 1, 5, 0), (5, .aload_n 0, 1, 6, 0), (6, .getfield 124, 3, 9, 0), (9, .if_icmp .ge 26, 3, 12, 35), (12, .iload_n 1, 1, 13, 0), (13, .aload_n 0, 1, 14, 0), (14, .getfield 27, 3, 17, 0), (17, .iload_n 2, 1, 18, 0), (18, .iaload, 1, 19, 0), (19, .aload_n 0, 1, 20, 0), (20, .iload_n 2, 1, 21, 0), (21, .invokevirtual 152, 3, 24, 0), (24, .iadd, 1, 25, 0), (25, .invokestatic 156, 3, 28, 0), (28, .istore_n 1, 1, 29, 0), (29, .iinc 2 1, 3, 32, 0), (32, .goto (-28), 3, 35, 4), (35, .iload_n 1, 1, 36, 0), (36, .ireturn, 1, 37, 0)] = true := by decide +kernel
def f_X10_allWide_A4 (x1_3 : Int32) : Option Int32 := some x1_3
def f_X10_allWide_L4 (M : Mm) (x1_1 : Int32) (x2_2 : Int32) : Option ((Int32 × Int32) ⊕ Int32) := if (M.1 69 1) ≤ x2_2 then some (.inr x1_1) else rdI 12 M 74 x2_2 fun v_5 => (f_X10_wide x2_2 M).bind fun r_8 => lt1 (jmax x1_1 (v_5 + r_8)) fun x1_9 => lt1 (x2_2 + 1) fun x2_10 => some (.inl (x1_9, x2_10))
def f_X10_allWide  (M : Mm) : Option Int32 := (loop (fun v => f_X10_allWide_L4 M v.1 v.2) FU ((0 : Int32), (0 : Int32))).bind fun z => f_X10_allWide_A4 z
set_option maxRecDepth 100000 in
set_option maxHeartbeats 4000000 in
theorem t_X10_allWide {E : Ev} {l : Launch} (htr : l.stackTraces = false) (M : Mm) (r : Int32) (hf : f_X10_allWide M = some r) : CM E l 1 0 0 yX10_allWide cX10_allWide 3 (some .int) [.ref (E.1 + 69)] M (some (.int r)) M := by
  refine CM.of htr (by decide +kernel) (Nat.le_of_ble_eq_true rfl) ?_
  intro K hE hL hl hR0 C hr hRv
  subst hE
  subst hl
  have C : Cx K cX10_allWide RX10 1 := C
  have hB : (0 : Nat) ≤ K.1.R.cells ∧ 0 ≤ K.1.R.slots := ⟨Nat.zero_le _, Nat.zero_le _⟩
  have hL1 : 1 < K.2.2.1 := by rw [hL]; decide
  have hL2 : 2 < K.2.2.1 := by rw [hL]; decide
  show G K (0, 0) 0 [(0, .ref (K.2.1.1 + 69))] [] M
  unfold f_X10_allWide at hf
  refine g_iconst (v := (0 : Int32)) C (ckD_get k_X10_allWide_0 0 rfl) (by decide) ?_
  refine g_istore_n (lv' := [(1, _), (0, _)]) C (ckD_get k_X10_allWide_0 1 rfl) rfl hL1 rfl ?_
  refine g_iconst (v := (0 : Int32)) C (ckD_get k_X10_allWide_0 2 rfl) (by decide) ?_
  refine g_istore_n (lv' := [(2, _), (1, _), (0, _)]) C (ckD_get k_X10_allWide_0 3 rfl) rfl hL2 rfl ?_
  refine G.sub [2, 1, 0] rfl ?_
  obtain ⟨x1_3, hx_4, hf⟩ := bd_e hf
  have hE_4 : G K (0, 0) 35 [(1, .int x1_3)] [] M := by
    have hf : f_X10_allWide_A4 x1_3 = some r := hf
    unfold f_X10_allWide_A4 at hf
    refine g_iload_n 0 C (ckD_get k_X10_allWide_0 21 rfl) rfl rfl ?_
    cases hf
    exact g_iret C (ckD_get k_X10_allWide_0 22 rfl) hr hRv (Nat.le_refl _) (Nat.le_refl _)
  refine loop_e (x := x1_3) (P := fun (v : (Int32 × Int32)) => G K (0, 0) 4 [(0, .ref (K.2.1.1 + 69)), (1, .int v.1), (2, .int v.2)] [] M) ?_ FU _ hx_4
  intro v rr_4 hf hn_4 hz_4
  obtain ⟨x1_1, x2_2⟩ := v
  have hf : f_X10_allWide_L4 M x1_1 x2_2 = some rr_4 := hf
  show G K (0, 0) 4 [(0, .ref (K.2.1.1 + 69)), (1, .int x1_1), (2, .int x2_2)] [] M
  unfold f_X10_allWide_L4 at hf
  refine g_iload_n 2 C (ckD_get k_X10_allWide_0 4 rfl) rfl rfl ?_
  refine g_aload_n 0 C (ckD_get k_X10_allWide_0 5 rfl) rfl rfl ?_
  refine g_getI C (ckD_get k_X10_allWide_0 6 rfl) fk_X10_124 T69 rfl ?_
  refine g_icmp_ge C (ckD_get k_X10_allWide_0 7 rfl) (fun c_4 => ?_) (fun c_4 => ?_)
  · have hf := if_t hf c_4
    refine G.sub [1] rfl ?_
    cases hf
    cases hz_4 _ rfl
    exact hE_4
  · have hf := if_f hf c_4
    refine g_iload_n 1 C (ckD_get k_X10_allWide_0 8 rfl) rfl rfl ?_
    refine g_aload_n 0 C (ckD_get k_X10_allWide_0 9 rfl) rfl rfl ?_
    refine g_getR C (ckD_get k_X10_allWide_0 10 rfl) fk_X10_27 T69 rfl ?_
    refine g_iload_n 2 C (ckD_get k_X10_allWide_0 11 rfl) rfl rfl ?_
    obtain ⟨v_5, hi_6, ev_5, hf⟩ := rdI_e hf
    refine n_iald C (ckD_get k_X10_allWide_0 12 rfl) T74 hi_6 ev_5 ?_
    refine g_aload_n 0 C (ckD_get k_X10_allWide_0 13 rfl) rfl rfl ?_
    refine g_iload_n 2 C (ckD_get k_X10_allWide_0 14 rfl) rfl rfl ?_
    obtain ⟨r_8, hr_7, hf⟩ := bd_e hf
    refine n_cV [.int x2_2] [.int v_5, .int x1_1] C (ckD_get k_X10_allWide_0 15 rfl) vk_X10_152 (t_X10_wide C.tr _ _ _ hr_7) T69 rfl rfl (Nat.le_of_ble_eq_true rfl) (by decide) hB rfl ?_
    refine g_iadd C (ckD_get k_X10_allWide_0 16 rfl) ?_
    refine n_mmax C (ckD_get k_X10_allWide_0 17 rfl) mk_X10_156 (by decide) (Nat.le_of_ble_eq_true rfl) hB ?_
    obtain ⟨x1_9, ex1_9, hf⟩ := lt_e hf
    refine topI ex1_9 ?_
    refine g_istore_n (lv' := [(1, _), (0, _), (2, _)]) C (ckD_get k_X10_allWide_0 18 rfl) rfl hL1 rfl ?_
    obtain ⟨x2_10, ex2_10, hf⟩ := lt_e hf
    refine g_iinc (lv' := [(2, _), (1, _), (0, _)]) 2 C (ckD_get k_X10_allWide_0 19 rfl) rfl ex2_10 hL2 rfl ?_
    refine g_goto C (ckD_get k_X10_allWide_0 20 rfl) ?_
    refine G.sub [2, 1, 0] rfl ?_
    cases hf
    exact hn_4 _ rfl

set_option maxRecDepth 20000 in
theorem k_X10_allHigh_0 : ckD cX10_allHigh [(0, .iconst 0, 1, 1, 0), (1, .istore_n 1, 1, 2, 0), (2, .iconst 0, 1, 3, 0), (3, .istore_n 2, 1, 4, 0), (4, .iload_n 2, 1, 5, 0), (5, .aload_n 0, 1, 6, 0), (6, .getfield 124, 3, 9, 0), (9, .if_icmp .ge 26, 3, 12, 35), (12, .iload_n 1, 1, 13, 0), (13, .aload_n 0, 1, 14, 0), (14, .getfield 30, 3, 17, 0), (17, .iload_n 2, 1, 18, 0), (18, .iaload, 1, 19, 0), (19, .aload_n 0, 1, 20, 0), (20, .iload_n 2, 1, 21, 0), (21, .invokevirtual 162, 3, 24, 0), (24, .iadd, 1, 25, 0), (25, .invokestatic 156, 3, 28, 0), (28, .istore_n 1, 1, 29, 0), (29, .iinc 2 1, 3, 32, 0), (32, .goto (-28), 3, 35, 4), (35, .iload_n 1, 1, 36, 0), (36, .ireturn, 1, 37, 0)] = true := by decide +kernel
def f_X10_allHigh_A4 (x1_3 : Int32) : Option Int32 := some x1_3
def f_X10_allHigh_L4 (M : Mm) (x1_1 : Int32) (x2_2 : Int32) : Option ((Int32 × Int32) ⊕ Int32) := if (M.1 69 1) ≤ x2_2 then some (.inr x1_1) else rdI 12 M 75 x2_2 fun v_5 => (f_X10_high x2_2 M).bind fun r_8 => lt1 (jmax x1_1 (v_5 + r_8)) fun x1_9 => lt1 (x2_2 + 1) fun x2_10 => some (.inl (x1_9, x2_10))
def f_X10_allHigh  (M : Mm) : Option Int32 := (loop (fun v => f_X10_allHigh_L4 M v.1 v.2) FU ((0 : Int32), (0 : Int32))).bind fun z => f_X10_allHigh_A4 z
set_option maxRecDepth 100000 in
set_option maxHeartbeats 4000000 in
theorem t_X10_allHigh {E : Ev} {l : Launch} (htr : l.stackTraces = false) (M : Mm) (r : Int32) (hf : f_X10_allHigh M = some r) : CM E l 1 0 0 yX10_allHigh cX10_allHigh 3 (some .int) [.ref (E.1 + 69)] M (some (.int r)) M := by
  refine CM.of htr (by decide +kernel) (Nat.le_of_ble_eq_true rfl) ?_
  intro K hE hL hl hR0 C hr hRv
  subst hE
  subst hl
  have C : Cx K cX10_allHigh RX10 1 := C
  have hB : (0 : Nat) ≤ K.1.R.cells ∧ 0 ≤ K.1.R.slots := ⟨Nat.zero_le _, Nat.zero_le _⟩
  have hL1 : 1 < K.2.2.1 := by rw [hL]; decide
  have hL2 : 2 < K.2.2.1 := by rw [hL]; decide
  show G K (0, 0) 0 [(0, .ref (K.2.1.1 + 69))] [] M
  unfold f_X10_allHigh at hf
  refine g_iconst (v := (0 : Int32)) C (ckD_get k_X10_allHigh_0 0 rfl) (by decide) ?_
  refine g_istore_n (lv' := [(1, _), (0, _)]) C (ckD_get k_X10_allHigh_0 1 rfl) rfl hL1 rfl ?_
  refine g_iconst (v := (0 : Int32)) C (ckD_get k_X10_allHigh_0 2 rfl) (by decide) ?_
  refine g_istore_n (lv' := [(2, _), (1, _), (0, _)]) C (ckD_get k_X10_allHigh_0 3 rfl) rfl hL2 rfl ?_
  refine G.sub [2, 1, 0] rfl ?_
  obtain ⟨x1_3, hx_4, hf⟩ := bd_e hf
  have hE_4 : G K (0, 0) 35 [(1, .int x1_3)] [] M := by
    have hf : f_X10_allHigh_A4 x1_3 = some r := hf
    unfold f_X10_allHigh_A4 at hf
    refine g_iload_n 0 C (ckD_get k_X10_allHigh_0 21 rfl) rfl rfl ?_
    cases hf
    exact g_iret C (ckD_get k_X10_allHigh_0 22 rfl) hr hRv (Nat.le_refl _) (Nat.le_refl _)
  refine loop_e (x := x1_3) (P := fun (v : (Int32 × Int32)) => G K (0, 0) 4 [(0, .ref (K.2.1.1 + 69)), (1, .int v.1), (2, .int v.2)] [] M) ?_ FU _ hx_4
  intro v rr_4 hf hn_4 hz_4
  obtain ⟨x1_1, x2_2⟩ := v
  have hf : f_X10_allHigh_L4 M x1_1 x2_2 = some rr_4 := hf
  show G K (0, 0) 4 [(0, .ref (K.2.1.1 + 69)), (1, .int x1_1), (2, .int x2_2)] [] M
  unfold f_X10_allHigh_L4 at hf
  refine g_iload_n 2 C (ckD_get k_X10_allHigh_0 4 rfl) rfl rfl ?_
  refine g_aload_n 0 C (ckD_get k_X10_allHigh_0 5 rfl) rfl rfl ?_
  refine g_getI C (ckD_get k_X10_allHigh_0 6 rfl) fk_X10_124 T69 rfl ?_
  refine g_icmp_ge C (ckD_get k_X10_allHigh_0 7 rfl) (fun c_4 => ?_) (fun c_4 => ?_)
  · have hf := if_t hf c_4
    refine G.sub [1] rfl ?_
    cases hf
    cases hz_4 _ rfl
    exact hE_4
  · have hf := if_f hf c_4
    refine g_iload_n 1 C (ckD_get k_X10_allHigh_0 8 rfl) rfl rfl ?_
    refine g_aload_n 0 C (ckD_get k_X10_allHigh_0 9 rfl) rfl rfl ?_
    refine g_getR C (ckD_get k_X10_allHigh_0 10 rfl) fk_X10_30 T69 rfl ?_
    refine g_iload_n 2 C (ckD_get k_X10_allHigh_0 11 rfl) rfl rfl ?_
    obtain ⟨v_5, hi_6, ev_5, hf⟩ := rdI_e hf
    refine n_iald C (ckD_get k_X10_allHigh_0 12 rfl) T75 hi_6 ev_5 ?_
    refine g_aload_n 0 C (ckD_get k_X10_allHigh_0 13 rfl) rfl rfl ?_
    refine g_iload_n 2 C (ckD_get k_X10_allHigh_0 14 rfl) rfl rfl ?_
    obtain ⟨r_8, hr_7, hf⟩ := bd_e hf
    refine n_cV [.int x2_2] [.int v_5, .int x1_1] C (ckD_get k_X10_allHigh_0 15 rfl) vk_X10_162 (t_X10_high C.tr _ _ _ hr_7) T69 rfl rfl (Nat.le_of_ble_eq_true rfl) (by decide) hB rfl ?_
    refine g_iadd C (ckD_get k_X10_allHigh_0 16 rfl) ?_
    refine n_mmax C (ckD_get k_X10_allHigh_0 17 rfl) mk_X10_156 (by decide) (Nat.le_of_ble_eq_true rfl) hB ?_
    obtain ⟨x1_9, ex1_9, hf⟩ := lt_e hf
    refine topI ex1_9 ?_
    refine g_istore_n (lv' := [(1, _), (0, _), (2, _)]) C (ckD_get k_X10_allHigh_0 18 rfl) rfl hL1 rfl ?_
    obtain ⟨x2_10, ex2_10, hf⟩ := lt_e hf
    refine g_iinc (lv' := [(2, _), (1, _), (0, _)]) 2 C (ckD_get k_X10_allHigh_0 19 rfl) rfl ex2_10 hL2 rfl ?_
    refine g_goto C (ckD_get k_X10_allHigh_0 20 rfl) ?_
    refine G.sub [2, 1, 0] rfl ?_
    cases hf
    exact hn_4 _ rfl

set_option maxRecDepth 20000 in
theorem k_X10_isLeftOf_0 : ckD cX10_isLeftOf [(0, .aload_n 0, 1, 1, 0), (1, .getfield 27, 3, 4, 0), (4, .iload_n 1, 1, 5, 0), (5, .iaload, 1, 6, 0), (6, .aload_n 0, 1, 7, 0), (7, .iload_n 1, 1, 8, 0), (8, .invokevirtual 152, 3, 11, 0), (11, .iadd, 1, 12, 0), (12, .aload_n 0, 1, 13, 0), (13, .getfield 27, 3, 16, 0), (16, .iload_n 2, 1, 17, 0), (17, .iaload, 1, 18, 0), (18, .if_icmp .gt 7, 3, 21, 25), (21, .iconst 1, 1, 22, 0), (22, .goto 4, 3, 25, 26), (25, .iconst 0, 1, 26, 0), (26, .ireturn, 1, 27, 0)] = true := by decide +kernel
def f_X10_isLeftOf (a1 : Int32) (a2 : Int32) (M : Mm) : Option Int32 := rdI 12 M 74 a1 fun v_1 => (f_X10_wide a1 M).bind fun r_4 => rdI 12 M 74 a2 fun v_5 => if v_5 < (v_1 + r_4) then some (0 : Int32) else some (1 : Int32)
set_option maxRecDepth 100000 in
set_option maxHeartbeats 4000000 in
theorem t_X10_isLeftOf {E : Ev} {l : Launch} (htr : l.stackTraces = false) (a1 : Int32) (a2 : Int32) (M : Mm) (r : Int32) (hf : f_X10_isLeftOf a1 a2 M = some r) : CM E l 1 0 0 yX10_isLeftOf cX10_isLeftOf 3 (some .boolean) [.ref (E.1 + 69), .int a1, .int a2] M (some (.int r)) M := by
  refine CM.of htr (by decide +kernel) (Nat.le_of_ble_eq_true rfl) ?_
  intro K hE hL hl hR0 C hr hRv
  subst hE
  subst hl
  have C : Cx K cX10_isLeftOf RX10 1 := C
  have hB : (0 : Nat) ≤ K.1.R.cells ∧ 0 ≤ K.1.R.slots := ⟨Nat.zero_le _, Nat.zero_le _⟩
  show G K (0, 0) 0 [(0, .ref (K.2.1.1 + 69)), (1, .int a1), (2, .int a2)] [] M
  unfold f_X10_isLeftOf at hf
  refine g_aload_n 0 C (ckD_get k_X10_isLeftOf_0 0 rfl) rfl rfl ?_
  refine g_getR C (ckD_get k_X10_isLeftOf_0 1 rfl) fk_X10_27 T69 rfl ?_
  refine g_iload_n 1 C (ckD_get k_X10_isLeftOf_0 2 rfl) rfl rfl ?_
  obtain ⟨v_1, hi_2, ev_1, hf⟩ := rdI_e hf
  refine n_iald C (ckD_get k_X10_isLeftOf_0 3 rfl) T74 hi_2 ev_1 ?_
  refine g_aload_n 0 C (ckD_get k_X10_isLeftOf_0 4 rfl) rfl rfl ?_
  refine g_iload_n 1 C (ckD_get k_X10_isLeftOf_0 5 rfl) rfl rfl ?_
  obtain ⟨r_4, hr_3, hf⟩ := bd_e hf
  refine n_cV [.int a1] [.int v_1] C (ckD_get k_X10_isLeftOf_0 6 rfl) vk_X10_152 (t_X10_wide C.tr _ _ _ hr_3) T69 rfl rfl (Nat.le_of_ble_eq_true rfl) (by decide) hB rfl ?_
  refine g_iadd C (ckD_get k_X10_isLeftOf_0 7 rfl) ?_
  refine g_aload_n 0 C (ckD_get k_X10_isLeftOf_0 8 rfl) rfl rfl ?_
  refine g_getR C (ckD_get k_X10_isLeftOf_0 9 rfl) fk_X10_27 T69 rfl ?_
  refine g_iload_n 2 C (ckD_get k_X10_isLeftOf_0 10 rfl) rfl rfl ?_
  obtain ⟨v_5, hi_6, ev_5, hf⟩ := rdI_e hf
  refine n_iald C (ckD_get k_X10_isLeftOf_0 11 rfl) T74 hi_6 ev_5 ?_
  refine g_icmp_gt C (ckD_get k_X10_isLeftOf_0 12 rfl) (fun c_7 => ?_) (fun c_7 => ?_)
  · have hf := if_t hf c_7
    refine g_iconst (v := (0 : Int32)) C (ckD_get k_X10_isLeftOf_0 15 rfl) (by decide) ?_
    cases hf
    exact g_zret C (ckD_get k_X10_isLeftOf_0 16 rfl) hr rfl hRv (Nat.le_refl _) (Nat.le_refl _)
  · have hf := if_f hf c_7
    refine g_iconst (v := (1 : Int32)) C (ckD_get k_X10_isLeftOf_0 13 rfl) (by decide) ?_
    refine g_goto C (ckD_get k_X10_isLeftOf_0 14 rfl) ?_
    cases hf
    exact g_zret C (ckD_get k_X10_isLeftOf_0 16 rfl) hr rfl hRv (Nat.le_refl _) (Nat.le_refl _)

set_option maxRecDepth 20000 in
theorem k_X10_isBelow_0 : ckD cX10_isBelow [(0, .aload_n 0, 1, 1, 0), (1, .getfield 30, 3, 4, 0), (4, .iload_n 1, 1, 5, 0), (5, .iaload, 1, 6, 0), (6, .aload_n 0, 1, 7, 0), (7, .iload_n 1, 1, 8, 0), (8, .invokevirtual 162, 3, 11, 0), (11, .iadd, 1, 12, 0), (12, .aload_n 0, 1, 13, 0), (13, .getfield 30, 3, 16, 0), (16, .iload_n 2, 1, 17, 0), (17, .iaload, 1, 18, 0), (18, .if_icmp .gt 7, 3, 21, 25), (21, .iconst 1, 1, 22, 0), (22, .goto 4, 3, 25, 26), (25, .iconst 0, 1, 26, 0), (26, .ireturn, 1, 27, 0)] = true := by decide +kernel
def f_X10_isBelow (a1 : Int32) (a2 : Int32) (M : Mm) : Option Int32 := rdI 12 M 75 a1 fun v_1 => (f_X10_high a1 M).bind fun r_4 => rdI 12 M 75 a2 fun v_5 => if v_5 < (v_1 + r_4) then some (0 : Int32) else some (1 : Int32)
set_option maxRecDepth 100000 in
set_option maxHeartbeats 4000000 in
theorem t_X10_isBelow {E : Ev} {l : Launch} (htr : l.stackTraces = false) (a1 : Int32) (a2 : Int32) (M : Mm) (r : Int32) (hf : f_X10_isBelow a1 a2 M = some r) : CM E l 1 0 0 yX10_isBelow cX10_isBelow 3 (some .boolean) [.ref (E.1 + 69), .int a1, .int a2] M (some (.int r)) M := by
  refine CM.of htr (by decide +kernel) (Nat.le_of_ble_eq_true rfl) ?_
  intro K hE hL hl hR0 C hr hRv
  subst hE
  subst hl
  have C : Cx K cX10_isBelow RX10 1 := C
  have hB : (0 : Nat) ≤ K.1.R.cells ∧ 0 ≤ K.1.R.slots := ⟨Nat.zero_le _, Nat.zero_le _⟩
  show G K (0, 0) 0 [(0, .ref (K.2.1.1 + 69)), (1, .int a1), (2, .int a2)] [] M
  unfold f_X10_isBelow at hf
  refine g_aload_n 0 C (ckD_get k_X10_isBelow_0 0 rfl) rfl rfl ?_
  refine g_getR C (ckD_get k_X10_isBelow_0 1 rfl) fk_X10_30 T69 rfl ?_
  refine g_iload_n 1 C (ckD_get k_X10_isBelow_0 2 rfl) rfl rfl ?_
  obtain ⟨v_1, hi_2, ev_1, hf⟩ := rdI_e hf
  refine n_iald C (ckD_get k_X10_isBelow_0 3 rfl) T75 hi_2 ev_1 ?_
  refine g_aload_n 0 C (ckD_get k_X10_isBelow_0 4 rfl) rfl rfl ?_
  refine g_iload_n 1 C (ckD_get k_X10_isBelow_0 5 rfl) rfl rfl ?_
  obtain ⟨r_4, hr_3, hf⟩ := bd_e hf
  refine n_cV [.int a1] [.int v_1] C (ckD_get k_X10_isBelow_0 6 rfl) vk_X10_162 (t_X10_high C.tr _ _ _ hr_3) T69 rfl rfl (Nat.le_of_ble_eq_true rfl) (by decide) hB rfl ?_
  refine g_iadd C (ckD_get k_X10_isBelow_0 7 rfl) ?_
  refine g_aload_n 0 C (ckD_get k_X10_isBelow_0 8 rfl) rfl rfl ?_
  refine g_getR C (ckD_get k_X10_isBelow_0 9 rfl) fk_X10_30 T69 rfl ?_
  refine g_iload_n 2 C (ckD_get k_X10_isBelow_0 10 rfl) rfl rfl ?_
  obtain ⟨v_5, hi_6, ev_5, hf⟩ := rdI_e hf
  refine n_iald C (ckD_get k_X10_isBelow_0 11 rfl) T75 hi_6 ev_5 ?_
  refine g_icmp_gt C (ckD_get k_X10_isBelow_0 12 rfl) (fun c_7 => ?_) (fun c_7 => ?_)
  · have hf := if_t hf c_7
    refine g_iconst (v := (0 : Int32)) C (ckD_get k_X10_isBelow_0 15 rfl) (by decide) ?_
    cases hf
    exact g_zret C (ckD_get k_X10_isBelow_0 16 rfl) hr rfl hRv (Nat.le_refl _) (Nat.le_refl _)
  · have hf := if_f hf c_7
    refine g_iconst (v := (1 : Int32)) C (ckD_get k_X10_isBelow_0 13 rfl) (by decide) ?_
    refine g_goto C (ckD_get k_X10_isBelow_0 14 rfl) ?_
    cases hf
    exact g_zret C (ckD_get k_X10_isBelow_0 16 rfl) hr rfl hRv (Nat.le_refl _) (Nat.le_refl _)

set_option maxRecDepth 20000 in
theorem k_X10_clash_0 : ckD cX10_clash [(0, .aload_n 0, 1, 1, 0), (1, .iload_n 1, 1, 2, 0), (2, .iload_n 2, 1, 3, 0), (3, .invokevirtual 211, 3, 6, 0), (6, .ifCond .ne 34, 3, 9, 40), (9, .aload_n 0, 1, 10, 0), (10, .iload_n 2, 1, 11, 0), (11, .iload_n 1, 1, 12, 0), (12, .invokevirtual 211, 3, 15, 0), (15, .ifCond .ne 25, 3, 18, 40), (18, .aload_n 0, 1, 19, 0), (19, .iload_n 1, 1, 20, 0), (20, .iload_n 2, 1, 21, 0), (21, .invokevirtual 215, 3, 24, 0), (24, .ifCond .ne 16, 3, 27, 40), (27, .aload_n 0, 1, 28, 0), (28, .iload_n 2, 1, 29, 0), (29, .iload_n 1, 1, 30, 0), (30, .invokevirtual 215, 3, 33, 0), (33, .ifCond .ne 7, 3, 36, 40), (36, .iconst 1, 1, 37, 0), (37, .goto 4, 3, 40, 41), (40, .iconst 0, 1, 41, 0), (41, .ireturn, 1, 42, 0)] = true := by decide +kernel
def f_X10_clash (a1 : Int32) (a2 : Int32) (M : Mm) : Option Int32 := (f_X10_isLeftOf a1 a2 M).bind fun r_2 => if r_2 = 0 then (f_X10_isLeftOf a2 a1 M).bind fun r_5 => if r_5 = 0 then (f_X10_isBelow a1 a2 M).bind fun r_8 => if r_8 = 0 then (f_X10_isBelow a2 a1 M).bind fun r_11 => if r_11 = 0 then some (1 : Int32) else some (0 : Int32) else some (0 : Int32) else some (0 : Int32) else some (0 : Int32)
set_option maxRecDepth 100000 in
set_option maxHeartbeats 4000000 in
theorem t_X10_clash {E : Ev} {l : Launch} (htr : l.stackTraces = false) (a1 : Int32) (a2 : Int32) (M : Mm) (r : Int32) (hf : f_X10_clash a1 a2 M = some r) : CM E l 2 0 0 yX10_clash cX10_clash 3 (some .boolean) [.ref (E.1 + 69), .int a1, .int a2] M (some (.int r)) M := by
  refine CM.of htr (by decide +kernel) (Nat.le_of_ble_eq_true rfl) ?_
  intro K hE hL hl hR0 C hr hRv
  subst hE
  subst hl
  have C : Cx K cX10_clash RX10 2 := C
  have hB : (0 : Nat) ≤ K.1.R.cells ∧ 0 ≤ K.1.R.slots := ⟨Nat.zero_le _, Nat.zero_le _⟩
  show G K (0, 0) 0 [(0, .ref (K.2.1.1 + 69)), (1, .int a1), (2, .int a2)] [] M
  unfold f_X10_clash at hf
  refine g_aload_n 0 C (ckD_get k_X10_clash_0 0 rfl) rfl rfl ?_
  refine g_iload_n 1 C (ckD_get k_X10_clash_0 1 rfl) rfl rfl ?_
  refine g_iload_n 2 C (ckD_get k_X10_clash_0 2 rfl) rfl rfl ?_
  obtain ⟨r_2, hr_1, hf⟩ := bd_e hf
  refine n_cV [.int a1, .int a2] [] C (ckD_get k_X10_clash_0 3 rfl) vk_X10_211 (t_X10_isLeftOf C.tr _ _ _ _ hr_1) T69 rfl rfl (Nat.le_of_ble_eq_true rfl) (by decide) hB rfl ?_
  refine g_if_ne C (ckD_get k_X10_clash_0 4 rfl) (fun c_3 => ?_) (fun c_3 => ?_)
  · have hf := if_f hf c_3
    refine g_iconst (v := (0 : Int32)) C (ckD_get k_X10_clash_0 22 rfl) (by decide) ?_
    cases hf
    exact g_zret C (ckD_get k_X10_clash_0 23 rfl) hr rfl hRv (Nat.le_refl _) (Nat.le_refl _)
  · have hf := if_t hf c_3
    refine g_aload_n 0 C (ckD_get k_X10_clash_0 5 rfl) rfl rfl ?_
    refine g_iload_n 2 C (ckD_get k_X10_clash_0 6 rfl) rfl rfl ?_
    refine g_iload_n 1 C (ckD_get k_X10_clash_0 7 rfl) rfl rfl ?_
    obtain ⟨r_5, hr_4, hf⟩ := bd_e hf
    refine n_cV [.int a2, .int a1] [] C (ckD_get k_X10_clash_0 8 rfl) vk_X10_211 (t_X10_isLeftOf C.tr _ _ _ _ hr_4) T69 rfl rfl (Nat.le_of_ble_eq_true rfl) (by decide) hB rfl ?_
    refine g_if_ne C (ckD_get k_X10_clash_0 9 rfl) (fun c_6 => ?_) (fun c_6 => ?_)
    · have hf := if_f hf c_6
      refine g_iconst (v := (0 : Int32)) C (ckD_get k_X10_clash_0 22 rfl) (by decide) ?_
      cases hf
      exact g_zret C (ckD_get k_X10_clash_0 23 rfl) hr rfl hRv (Nat.le_refl _) (Nat.le_refl _)
    · have hf := if_t hf c_6
      refine g_aload_n 0 C (ckD_get k_X10_clash_0 10 rfl) rfl rfl ?_
      refine g_iload_n 1 C (ckD_get k_X10_clash_0 11 rfl) rfl rfl ?_
      refine g_iload_n 2 C (ckD_get k_X10_clash_0 12 rfl) rfl rfl ?_
      obtain ⟨r_8, hr_7, hf⟩ := bd_e hf
      refine n_cV [.int a1, .int a2] [] C (ckD_get k_X10_clash_0 13 rfl) vk_X10_215 (t_X10_isBelow C.tr _ _ _ _ hr_7) T69 rfl rfl (Nat.le_of_ble_eq_true rfl) (by decide) hB rfl ?_
      refine g_if_ne C (ckD_get k_X10_clash_0 14 rfl) (fun c_9 => ?_) (fun c_9 => ?_)
      · have hf := if_f hf c_9
        refine g_iconst (v := (0 : Int32)) C (ckD_get k_X10_clash_0 22 rfl) (by decide) ?_
        cases hf
        exact g_zret C (ckD_get k_X10_clash_0 23 rfl) hr rfl hRv (Nat.le_refl _) (Nat.le_refl _)
      · have hf := if_t hf c_9
        refine g_aload_n 0 C (ckD_get k_X10_clash_0 15 rfl) rfl rfl ?_
        refine g_iload_n 2 C (ckD_get k_X10_clash_0 16 rfl) rfl rfl ?_
        refine g_iload_n 1 C (ckD_get k_X10_clash_0 17 rfl) rfl rfl ?_
        obtain ⟨r_11, hr_10, hf⟩ := bd_e hf
        refine n_cV [.int a2, .int a1] [] C (ckD_get k_X10_clash_0 18 rfl) vk_X10_215 (t_X10_isBelow C.tr _ _ _ _ hr_10) T69 rfl rfl (Nat.le_of_ble_eq_true rfl) (by decide) hB rfl ?_
        refine g_if_ne C (ckD_get k_X10_clash_0 19 rfl) (fun c_12 => ?_) (fun c_12 => ?_)
        · have hf := if_f hf c_12
          refine g_iconst (v := (0 : Int32)) C (ckD_get k_X10_clash_0 22 rfl) (by decide) ?_
          cases hf
          exact g_zret C (ckD_get k_X10_clash_0 23 rfl) hr rfl hRv (Nat.le_refl _) (Nat.le_refl _)
        · have hf := if_t hf c_12
          refine g_iconst (v := (1 : Int32)) C (ckD_get k_X10_clash_0 20 rfl) (by decide) ?_
          refine g_goto C (ckD_get k_X10_clash_0 21 rfl) ?_
          cases hf
          exact g_zret C (ckD_get k_X10_clash_0 23 rfl) hr rfl hRv (Nat.le_refl _) (Nat.le_refl _)

set_option maxRecDepth 20000 in
theorem k_X10_clashes_0 : ckD cX10_clashes [(0, .aload_n 0, 1, 1, 0), (1, .iconst (-1), 1, 2, 0), (2, .putfield 218, 3, 5, 0), (5, .aload_n 0, 1, 6, 0), (6, .iconst (-1), 1, 7, 0), (7, .putfield 221, 3, 10, 0), (10, .iconst 0, 1, 11, 0), (11, .istore_n 1, 1, 12, 0), (12, .iload_n 1, 1, 13, 0), (13, .aload_n 0, 1, 14, 0), (14, .getfield 124, 3, 17, 0), (17, .if_icmp .ge 57, 3, 20, 74), (20, .iload_n 1, 1, 21, 0), (21, .iconst 1, 1, 22, 0), (22, .iadd, 1, 23, 0), (23, .istore_n 2, 1, 24, 0), (24, .iload_n 2, 1, 25, 0), (25, .aload_n 0, 1, 26, 0), (26, .getfield 124, 3, 29, 0), (29, .if_icmp .ge 39, 3, 32, 68), (32, .aload_n 0, 1, 33, 0), (33, .getfield 218, 3, 36, 0), (36, .iconst (-1), 1, 37, 0), (37, .if_icmp .ne 25, 3, 40, 62), (40, .aload_n 0, 1, 41, 0), (41, .iload_n 1, 1, 42, 0), (42, .iload_n 2, 1, 43, 0), (43, .invokevirtual 224, 3, 46, 0), (46, .ifCond .ne 6, 3, 49, 52), (49, .goto 13, 3, 52, 62), (52, .aload_n 0, 1, 53, 0), (53, .iload_n 1, 1, 54, 0), (54, .putfield 218, 3, 57, 0), (57, .aload_n 0, 1, 58, 0), (58, .iload_n 2, 1, 59, 0), (59, .putfield 221, 3, 62, 0), (62, .iinc 2 1, 3, 65, 0), (65, .goto (-41), 3, 68, 24), (68, .iinc 1 1, 3, 71, 0), (71, .goto (-59), 3, 74, 12)] = true := by decide +kernel
set_option maxRecDepth 20000 in
theorem k_X10_clashes_1 : ckD cX10_clashes [(74, .aload_n 0, 1, 75, 0), (75, .getfield 218, 3, 78, 0), (78, .iconst (-1), 1, 79, 0), (79, .if_icmp .eq 7, 3, 82, 86), (82, .iconst 1, 1, 83, 0), (83, .goto 4, 3, 86, 87), (86, .iconst 0, 1, 87, 0), (87, .ireturn, 1, 88, 0)] = true := by decide +kernel
def f_X10_clashes_A12 (M_5 : Mm) : Option (Int32 × Mm) := if (M_5.1 69 35) = (-1 : Int32) then some ((0 : Int32), M_5) else some ((1 : Int32), M_5)
def f_X10_clashes_A24 (x1_3 : Int32) (M_11 : Mm) : Option ((Int32 × Mm) ⊕ Mm) := lt1 (x1_3 + 1) fun x1_12 => some (.inl (x1_12, M_11))
def f_X10_clashes_J62 (x2_9 : Int32) (M_14 : Mm) : Option ((Int32 × Mm) ⊕ Mm) := lt1 (x2_9 + 1) fun x2_15 => some (.inl (x2_15, M_14))
def f_X10_clashes_L24 (x1_3 : Int32) (x2_9 : Int32) (M_10 : Mm) : Option ((Int32 × Mm) ⊕ Mm) := if (M_10.1 69 1) ≤ x2_9 then some (.inr M_10) else if (M_10.1 69 35) = (-1 : Int32) then (f_X10_clash x1_3 x2_9 M_10).bind fun r_18 => if r_18 = 0 then f_X10_clashes_J62 x2_9 M_10 else lt1 (wi M_10 69 35 x1_3) fun M_20 => lt1 (wi M_20 69 36 x2_9) fun M_21 => f_X10_clashes_J62 x2_9 M_21 else f_X10_clashes_J62 x2_9 M_10
def f_X10_clashes_L12 (x1_3 : Int32) (M_4 : Mm) : Option ((Int32 × Mm) ⊕ Mm) := if (M_4.1 69 1) ≤ x1_3 then some (.inr M_4) else lt1 (x1_3 + (1 : Int32)) fun x2_8 => (loop (fun v => f_X10_clashes_L24 x1_3 v.1 v.2) FU (x2_8, M_4)).bind fun z => f_X10_clashes_A24 x1_3 z
def f_X10_clashes  (M : Mm) : Option (Int32 × Mm) := lt1 (wi M 69 35 (-1 : Int32)) fun M_1 => lt1 (wi M_1 69 36 (-1 : Int32)) fun M_2 => (loop (fun v => f_X10_clashes_L12 v.1 v.2) FU ((0 : Int32), M_2)).bind fun z => f_X10_clashes_A12 z
set_option maxRecDepth 100000 in
set_option maxHeartbeats 4000000 in
theorem t_X10_clashes {E : Ev} {l : Launch} (htr : l.stackTraces = false) (M : Mm) (r : (Int32 × Mm)) (hf : f_X10_clashes M = some r) : CM E l 3 0 0 yX10_clashes cX10_clashes 3 (some .boolean) [.ref (E.1 + 69)] M (some (.int r.1)) r.2 := by
  refine CM.of htr (by decide +kernel) (Nat.le_of_ble_eq_true rfl) ?_
  intro K hE hL hl hR0 C hr hRv
  subst hE
  subst hl
  have C : Cx K cX10_clashes RX10 3 := C
  have hB : (0 : Nat) ≤ K.1.R.cells ∧ 0 ≤ K.1.R.slots := ⟨Nat.zero_le _, Nat.zero_le _⟩
  have hL1 : 1 < K.2.2.1 := by rw [hL]; decide
  have hL2 : 2 < K.2.2.1 := by rw [hL]; decide
  show G K (0, 0) 0 [(0, .ref (K.2.1.1 + 69))] [] M
  unfold f_X10_clashes at hf
  refine g_aload_n 0 C (ckD_get k_X10_clashes_0 0 rfl) rfl rfl ?_
  refine g_iconst (v := (-1 : Int32)) C (ckD_get k_X10_clashes_0 1 rfl) (by decide) ?_
  obtain ⟨M_1, eM_1, hf⟩ := lt_e hf
  refine g_putI C (ckD_get k_X10_clashes_0 2 rfl) fk_X10_218 T69 rfl ?_
  refine memI eM_1 ?_
  refine g_aload_n 0 C (ckD_get k_X10_clashes_0 3 rfl) rfl rfl ?_
  refine g_iconst (v := (-1 : Int32)) C (ckD_get k_X10_clashes_0 4 rfl) (by decide) ?_
  obtain ⟨M_2, eM_2, hf⟩ := lt_e hf
  refine g_putI C (ckD_get k_X10_clashes_0 5 rfl) fk_X10_221 T69 rfl ?_
  refine memI eM_2 ?_
  refine g_iconst (v := (0 : Int32)) C (ckD_get k_X10_clashes_0 6 rfl) (by decide) ?_
  refine g_istore_n (lv' := [(1, _), (0, _)]) C (ckD_get k_X10_clashes_0 7 rfl) rfl hL1 rfl ?_
  refine G.sub [1, 0] rfl ?_
  obtain ⟨M_5, hx_12, hf⟩ := bd_e hf
  have hE_12 : G K (0, 0) 74 [(0, .ref (K.2.1.1 + 69))] [] M_5 := by
    have hf : f_X10_clashes_A12 M_5 = some r := hf
    unfold f_X10_clashes_A12 at hf
    refine g_aload_n 0 C (ckD_get k_X10_clashes_1 0 rfl) rfl rfl ?_
    refine g_getI C (ckD_get k_X10_clashes_1 1 rfl) fk_X10_218 T69 rfl ?_
    refine g_iconst (v := (-1 : Int32)) C (ckD_get k_X10_clashes_1 2 rfl) (by decide) ?_
    refine g_icmp_eq C (ckD_get k_X10_clashes_1 3 rfl) (fun c_6 => ?_) (fun c_6 => ?_)
    · have hf := if_t hf c_6
      refine g_iconst (v := (0 : Int32)) C (ckD_get k_X10_clashes_1 6 rfl) (by decide) ?_
      cases hf
      exact g_zret C (ckD_get k_X10_clashes_1 7 rfl) hr rfl hRv (Nat.le_refl _) (Nat.le_refl _)
    · have hf := if_f hf c_6
      refine g_iconst (v := (1 : Int32)) C (ckD_get k_X10_clashes_1 4 rfl) (by decide) ?_
      refine g_goto C (ckD_get k_X10_clashes_1 5 rfl) ?_
      cases hf
      exact g_zret C (ckD_get k_X10_clashes_1 7 rfl) hr rfl hRv (Nat.le_refl _) (Nat.le_refl _)
  refine loop_e (x := M_5) (P := fun (v : (Int32 × Mm)) => G K (0, 0) 12 [(0, .ref (K.2.1.1 + 69)), (1, .int v.1)] [] v.2) ?_ FU _ hx_12
  intro v rr_12 hf hn_12 hz_12
  obtain ⟨x1_3, M_4⟩ := v
  have hf : f_X10_clashes_L12 x1_3 M_4 = some rr_12 := hf
  show G K (0, 0) 12 [(0, .ref (K.2.1.1 + 69)), (1, .int x1_3)] [] M_4
  unfold f_X10_clashes_L12 at hf
  refine g_iload_n 1 C (ckD_get k_X10_clashes_0 8 rfl) rfl rfl ?_
  refine g_aload_n 0 C (ckD_get k_X10_clashes_0 9 rfl) rfl rfl ?_
  refine g_getI C (ckD_get k_X10_clashes_0 10 rfl) fk_X10_124 T69 rfl ?_
  refine g_icmp_ge C (ckD_get k_X10_clashes_0 11 rfl) (fun c_7 => ?_) (fun c_7 => ?_)
  · have hf := if_t hf c_7
    refine G.sub [0] rfl ?_
    cases hf
    cases hz_12 _ rfl
    exact hE_12
  · have hf := if_f hf c_7
    refine g_iload_n 1 C (ckD_get k_X10_clashes_0 12 rfl) rfl rfl ?_
    refine g_iconst (v := (1 : Int32)) C (ckD_get k_X10_clashes_0 13 rfl) (by decide) ?_
    refine g_iadd C (ckD_get k_X10_clashes_0 14 rfl) ?_
    obtain ⟨x2_8, ex2_8, hf⟩ := lt_e hf
    refine topI ex2_8 ?_
    refine g_istore_n (lv' := [(2, _), (0, _), (1, _)]) C (ckD_get k_X10_clashes_0 15 rfl) rfl hL2 rfl ?_
    refine G.sub [1, 2, 0] rfl ?_
    obtain ⟨M_11, hx_24, hf⟩ := bd_e hf
    have hE_24 : G K (0, 0) 68 [(0, .ref (K.2.1.1 + 69)), (1, .int x1_3)] [] M_11 := by
      have hf : f_X10_clashes_A24 x1_3 M_11 = some rr_12 := hf
      unfold f_X10_clashes_A24 at hf
      obtain ⟨x1_12, ex1_12, hf⟩ := lt_e hf
      refine g_iinc (lv' := [(1, _), (0, _)]) 1 C (ckD_get k_X10_clashes_0 38 rfl) rfl ex1_12 hL1 rfl ?_
      refine g_goto C (ckD_get k_X10_clashes_0 39 rfl) ?_
      refine G.sub [1, 0] rfl ?_
      cases hf
      exact hn_12 _ rfl
    refine loop_e (x := M_11) (P := fun (v : (Int32 × Mm)) => G K (0, 0) 24 [(0, .ref (K.2.1.1 + 69)), (1, .int x1_3), (2, .int v.1)] [] v.2) ?_ FU _ hx_24
    intro v rr_24 hf hn_24 hz_24
    obtain ⟨x2_9, M_10⟩ := v
    have hf : f_X10_clashes_L24 x1_3 x2_9 M_10 = some rr_24 := hf
    show G K (0, 0) 24 [(0, .ref (K.2.1.1 + 69)), (1, .int x1_3), (2, .int x2_9)] [] M_10
    unfold f_X10_clashes_L24 at hf
    refine g_iload_n 2 C (ckD_get k_X10_clashes_0 16 rfl) rfl rfl ?_
    refine g_aload_n 0 C (ckD_get k_X10_clashes_0 17 rfl) rfl rfl ?_
    refine g_getI C (ckD_get k_X10_clashes_0 18 rfl) fk_X10_124 T69 rfl ?_
    refine g_icmp_ge C (ckD_get k_X10_clashes_0 19 rfl) (fun c_13 => ?_) (fun c_13 => ?_)
    · have hf := if_t hf c_13
      refine G.sub [0, 1] rfl ?_
      cases hf
      cases hz_24 _ rfl
      exact hE_24
    · have hf := if_f hf c_13
      refine g_aload_n 0 C (ckD_get k_X10_clashes_0 20 rfl) rfl rfl ?_
      refine g_getI C (ckD_get k_X10_clashes_0 21 rfl) fk_X10_218 T69 rfl ?_
      refine g_iconst (v := (-1 : Int32)) C (ckD_get k_X10_clashes_0 22 rfl) (by decide) ?_
      have hJ_62 : ∀ (M_14 : Mm), f_X10_clashes_J62 x2_9 M_14 = some rr_24 → G K (0, 0) 62 [(0, .ref (K.2.1.1 + 69)), (1, .int x1_3), (2, .int x2_9)] [] M_14 := by
        intro M_14 hf
        unfold f_X10_clashes_J62 at hf
        obtain ⟨x2_15, ex2_15, hf⟩ := lt_e hf
        refine g_iinc (lv' := [(2, _), (0, _), (1, _)]) 2 C (ckD_get k_X10_clashes_0 36 rfl) rfl ex2_15 hL2 rfl ?_
        refine g_goto C (ckD_get k_X10_clashes_0 37 rfl) ?_
        refine G.sub [1, 2, 0] rfl ?_
        cases hf
        exact hn_24 _ rfl
      refine g_icmp_ne C (ckD_get k_X10_clashes_0 23 rfl) (fun c_16 => ?_) (fun c_16 => ?_)
      · have hf := if_f hf c_16
        exact hJ_62 _ hf
      · have hf := if_t hf c_16
        refine g_aload_n 0 C (ckD_get k_X10_clashes_0 24 rfl) rfl rfl ?_
        refine g_iload_n 1 C (ckD_get k_X10_clashes_0 25 rfl) rfl rfl ?_
        refine g_iload_n 2 C (ckD_get k_X10_clashes_0 26 rfl) rfl rfl ?_
        obtain ⟨r_18, hr_17, hf⟩ := bd_e hf
        refine n_cV [.int x1_3, .int x2_9] [] C (ckD_get k_X10_clashes_0 27 rfl) vk_X10_224 (t_X10_clash C.tr _ _ _ _ hr_17) T69 rfl rfl (Nat.le_of_ble_eq_true rfl) (by decide) hB rfl ?_
        refine g_if_ne C (ckD_get k_X10_clashes_0 28 rfl) (fun c_19 => ?_) (fun c_19 => ?_)
        · have hf := if_f hf c_19
          refine g_aload_n 0 C (ckD_get k_X10_clashes_0 30 rfl) rfl rfl ?_
          refine g_iload_n 1 C (ckD_get k_X10_clashes_0 31 rfl) rfl rfl ?_
          obtain ⟨M_20, eM_20, hf⟩ := lt_e hf
          refine g_putI C (ckD_get k_X10_clashes_0 32 rfl) fk_X10_218 T69 rfl ?_
          refine memI eM_20 ?_
          refine g_aload_n 0 C (ckD_get k_X10_clashes_0 33 rfl) rfl rfl ?_
          refine g_iload_n 2 C (ckD_get k_X10_clashes_0 34 rfl) rfl rfl ?_
          obtain ⟨M_21, eM_21, hf⟩ := lt_e hf
          refine g_putI C (ckD_get k_X10_clashes_0 35 rfl) fk_X10_221 T69 rfl ?_
          refine memI eM_21 ?_
          exact hJ_62 _ hf
        · have hf := if_t hf c_19
          refine g_goto C (ckD_get k_X10_clashes_0 29 rfl) ?_
          exact hJ_62 _ hf

set_option maxRecDepth 20000 in
theorem k_X10_about_0 : ckD cX10_about [(0, .aload_n 0, 1, 1, 0), (1, .iconst 0, 1, 2, 0), (2, .putfield 121, 3, 5, 0), (5, .aload_n 0, 1, 6, 0), (6, .getfield 23, 3, 9, 0), (9, .iconst (-1), 1, 10, 0), (10, .if_icmp .eq 13, 3, 13, 23), (13, .iload_n 1, 1, 14, 0), (14, .ifCond .lt 9, 3, 17, 23), (17, .iload_n 1, 1, 18, 0), (18, .bipush 7, 2, 20, 0), (20, .if_icmp .le 8, 3, 23, 28), (23, .aload_n 0, 1, 24, 0), (24, .invokevirtual 134, 3, 27, 0), (27, .ireturn, 1, 28, 0), (28, .aload_n 0, 1, 29, 0), (29, .invokevirtual 227, 3, 32, 0), (32, .aload_n 0, 1, 33, 0), (33, .invokevirtual 230, 3, 36, 0), (36, .imul, 1, 37, 0), (37, .istore_n 2, 1, 38, 0), (38, .aload_n 0, 1, 39, 0), (39, .invokevirtual 233, 3, 42, 0), (42, .istore_n 3, 1, 43, 0), (43, .iload_n 1, 1, 44, 0), (44, .tableswitch 120 0 6 #[44, 49, 54, 59, 61, 105, 115], 44, 88, 0), (88, .aload_n 0, 1, 89, 0), (89, .getfield 23, 3, 92, 0), (92, .ireturn, 1, 93, 0), (93, .aload_n 0, 1, 94, 0), (94, .invokevirtual 227, 3, 97, 0), (97, .ireturn, 1, 98, 0), (98, .aload_n 0, 1, 99, 0), (99, .invokevirtual 230, 3, 102, 0), (102, .ireturn, 1, 103, 0), (103, .iload_n 2, 1, 104, 0), (104, .ireturn, 1, 105, 0), (105, .iload_n 2, 1, 106, 0), (106, .istore 4, 2, 108, 0), (108, .iconst 0, 1, 109, 0)] = true := by decide +kernel
set_option maxRecDepth 20000 in
theorem k_X10_about_1 : ckD cX10_about [(109, .istore 5, 2, 111, 0), (111, .iload 5, 2, 113, 0), (113, .aload_n 0, 1, 114, 0), (114, .getfield 124, 3, 117, 0), (117, .if_icmp .ge 29, 3, 120, 146), (120, .iload 4, 2, 122, 0), (122, .aload_n 0, 1, 123, 0), (123, .getfield 9, 3, 126, 0), (126, .iload 5, 2, 128, 0), (128, .iaload, 1, 129, 0), (129, .aload_n 0, 1, 130, 0), (130, .getfield 13, 3, 133, 0), (133, .iload 5, 2, 135, 0), (135, .iaload, 1, 136, 0), (136, .imul, 1, 137, 0), (137, .isub, 1, 138, 0), (138, .istore 4, 2, 140, 0), (140, .iinc 5 1, 3, 143, 0), (143, .goto (-32), 3, 146, 111), (146, .iload 4, 2, 148, 0), (148, .ireturn, 1, 149, 0), (149, .iload_n 3, 1, 150, 0), (150, .ifCond .eq 7, 3, 153, 157), (153, .iconst 0, 1, 154, 0), (154, .goto 4, 3, 157, 158), (157, .iconst 1, 1, 158, 0), (158, .ireturn, 1, 159, 0), (159, .aload_n 0, 1, 160, 0), (160, .getfield 218, 3, 163, 0), (163, .ireturn, 1, 164, 0), (164, .aload_n 0, 1, 165, 0), (165, .getfield 221, 3, 168, 0), (168, .ireturn, 1, 169, 0)] = true := by decide +kernel
def f_X10_about_J23 (M_2 : Mm) : Option (Int32 × Mm) := lt1 (f_X10_fail M_2) fun z_5 => some (z_5.1, z_5.2)
def f_X10_about_A111 (M_15 : Mm) (x4_28 : Int32) : Option (Int32 × Mm) := some (x4_28, M_15)
def f_X10_about_L111 (M_15 : Mm) (x4_26 : Int32) (x5_27 : Int32) : Option ((Int32 × Int32) ⊕ Int32) := if (M_15.1 69 1) ≤ x5_27 then some (.inr x4_26) else rdI 12 M_15 70 x5_27 fun v_30 => rdI 12 M_15 71 x5_27 fun v_32 => lt1 (x4_26 - (v_30 * v_32)) fun x4_34 => lt1 (x5_27 + 1) fun x5_35 => some (.inl (x4_34, x5_35))
def f_X10_about (a1 : Int32) (M : Mm) : Option (Int32 × Mm) := lt1 (wi M 69 0 (0 : Int32)) fun M_1 => if (M_1.1 69 6) = (-1 : Int32) then f_X10_about_J23 M_1 else if a1 < 0 then f_X10_about_J23 M_1 else if a1 ≤ (7 : Int32) then (f_X10_allWide M_1).bind fun r_10 => (f_X10_allHigh M_1).bind fun r_12 => lt1 (r_10 * r_12) fun x2_13 => bd2 (f_X10_clashes M_1) fun r_16 M_15 => if a1 = (0 : Int32) then (some ((M_15.1 69 6), M_15)) else if a1 = (1 : Int32) then ((f_X10_allWide M_15).bind fun r_20 => some (r_20, M_15)) else if a1 = (2 : Int32) then ((f_X10_allHigh M_15).bind fun r_23 => some (r_23, M_15)) else if a1 = (3 : Int32) then (some (x2_13, M_15)) else if a1 = (4 : Int32) then ((loop (fun v => f_X10_about_L111 M_15 v.1 v.2) FU (x2_13, (0 : Int32))).bind fun z => f_X10_about_A111 M_15 z) else if a1 = (5 : Int32) then (if r_16 = 0 then some ((1 : Int32), M_15) else some ((0 : Int32), M_15)) else if a1 = (6 : Int32) then (some ((M_15.1 69 35), M_15)) else (some ((M_15.1 69 36), M_15)) else f_X10_about_J23 M_1
set_option maxRecDepth 100000 in
set_option maxHeartbeats 4000000 in
theorem t_X10_about {E : Ev} {l : Launch} (htr : l.stackTraces = false) (a1 : Int32) (M : Mm) (r : (Int32 × Mm)) (hf : f_X10_about a1 M = some r) : CM E l 4 0 0 yX10_about cX10_about 6 (some .int) [.ref (E.1 + 69), .int a1] M (some (.int r.1)) r.2 := by
  refine CM.of htr (by decide +kernel) (Nat.le_of_ble_eq_true rfl) ?_
  intro K hE hL hl hR0 C hr hRv
  subst hE
  subst hl
  have C : Cx K cX10_about RX10 4 := C
  have hB : (0 : Nat) ≤ K.1.R.cells ∧ 0 ≤ K.1.R.slots := ⟨Nat.zero_le _, Nat.zero_le _⟩
  have hL2 : 2 < K.2.2.1 := by rw [hL]; decide
  have hL3 : 3 < K.2.2.1 := by rw [hL]; decide
  have hL4 : 4 < K.2.2.1 := by rw [hL]; decide
  have hL5 : 5 < K.2.2.1 := by rw [hL]; decide
  show G K (0, 0) 0 [(0, .ref (K.2.1.1 + 69)), (1, .int a1)] [] M
  unfold f_X10_about at hf
  refine g_aload_n 0 C (ckD_get k_X10_about_0 0 rfl) rfl rfl ?_
  refine g_iconst (v := (0 : Int32)) C (ckD_get k_X10_about_0 1 rfl) (by decide) ?_
  obtain ⟨M_1, eM_1, hf⟩ := lt_e hf
  refine g_putI C (ckD_get k_X10_about_0 2 rfl) fk_X10_121 T69 rfl ?_
  refine memI eM_1 ?_
  refine g_aload_n 0 C (ckD_get k_X10_about_0 3 rfl) rfl rfl ?_
  refine g_getI C (ckD_get k_X10_about_0 4 rfl) fk_X10_23 T69 rfl ?_
  refine g_iconst (v := (-1 : Int32)) C (ckD_get k_X10_about_0 5 rfl) (by decide) ?_
  have hJ_23 : ∀ (M_2 : Mm), f_X10_about_J23 M_2 = some r → G K (0, 0) 23 [(0, .ref (K.2.1.1 + 69))] [] M_2 := by
    intro M_2 hf
    unfold f_X10_about_J23 at hf
    refine g_aload_n 0 C (ckD_get k_X10_about_0 12 rfl) rfl rfl ?_
    obtain ⟨z_5, ez_5, hf⟩ := lt_e hf
    refine n_cV [] [] C (ckD_get k_X10_about_0 13 rfl) vk_X10_134 (t_X10_fail C.tr _ _ ez_5) T69 rfl rfl (Nat.le_of_ble_eq_true rfl) (by decide) hB rfl ?_
    cases hf
    exact g_iret C (ckD_get k_X10_about_0 14 rfl) hr hRv (Nat.le_refl _) (Nat.le_refl _)
  refine g_icmp_eq C (ckD_get k_X10_about_0 6 rfl) (fun c_6 => ?_) (fun c_6 => ?_)
  · have hf := if_t hf c_6
    refine G.sub [0] rfl ?_
    exact hJ_23 _ hf
  · have hf := if_f hf c_6
    refine g_iload_n 1 C (ckD_get k_X10_about_0 7 rfl) rfl rfl ?_
    refine g_if_lt C (ckD_get k_X10_about_0 8 rfl) (fun c_7 => ?_) (fun c_7 => ?_)
    · have hf := if_t hf c_7
      refine G.sub [0] rfl ?_
      exact hJ_23 _ hf
    · have hf := if_f hf c_7
      refine g_iload_n 1 C (ckD_get k_X10_about_0 9 rfl) rfl rfl ?_
      refine g_bipush (v := (7 : Int32)) C (ckD_get k_X10_about_0 10 rfl) (by decide) ?_
      refine g_icmp_le C (ckD_get k_X10_about_0 11 rfl) (fun c_8 => ?_) (fun c_8 => ?_)
      · have hf := if_t hf c_8
        refine g_aload_n 0 C (ckD_get k_X10_about_0 15 rfl) rfl rfl ?_
        obtain ⟨r_10, hr_9, hf⟩ := bd_e hf
        refine n_cV [] [] C (ckD_get k_X10_about_0 16 rfl) vk_X10_227 (t_X10_allWide C.tr _ _ hr_9) T69 rfl rfl (Nat.le_of_ble_eq_true rfl) (by decide) hB rfl ?_
        refine g_aload_n 0 C (ckD_get k_X10_about_0 17 rfl) rfl rfl ?_
        obtain ⟨r_12, hr_11, hf⟩ := bd_e hf
        refine n_cV [] [.int r_10] C (ckD_get k_X10_about_0 18 rfl) vk_X10_230 (t_X10_allHigh C.tr _ _ hr_11) T69 rfl rfl (Nat.le_of_ble_eq_true rfl) (by decide) hB rfl ?_
        refine g_imul C (ckD_get k_X10_about_0 19 rfl) ?_
        obtain ⟨x2_13, ex2_13, hf⟩ := lt_e hf
        refine topI ex2_13 ?_
        refine g_istore_n (lv' := [(2, _), (0, _), (1, _)]) C (ckD_get k_X10_about_0 20 rfl) rfl hL2 rfl ?_
        refine g_aload_n 1 C (ckD_get k_X10_about_0 21 rfl) rfl rfl ?_
        obtain ⟨r_16, M_15, hr_14, hf⟩ := bd2_e hf
        refine n_cV [] [] C (ckD_get k_X10_about_0 22 rfl) vk_X10_233 (t_X10_clashes C.tr _ _ hr_14) T69 rfl rfl (Nat.le_of_ble_eq_true rfl) (by decide) hB rfl ?_
        refine g_istore_n (lv' := [(3, _), (2, _), (0, _), (1, _)]) C (ckD_get k_X10_about_0 23 rfl) rfl hL3 rfl ?_
        refine g_iload_n 3 C (ckD_get k_X10_about_0 24 rfl) rfl rfl ?_
        by_cases c_17 : a1 = (0 : Int32)
        · have hf := if_t hf c_17
          refine g_tabIn (t := 88) C (ckD_get k_X10_about_0 25 rfl) (by rw [c_17]; decide) (by rw [c_17]; decide) (by rw [c_17] <;> rfl) (by decide) ?_
          refine g_aload_n 2 C (ckD_get k_X10_about_0 26 rfl) rfl rfl ?_
          refine g_getI C (ckD_get k_X10_about_0 27 rfl) fk_X10_23 T69 rfl ?_
          cases hf
          exact g_iret C (ckD_get k_X10_about_0 28 rfl) hr hRv (Nat.le_refl _) (Nat.le_refl _)
        · have hf := if_f hf c_17
          by_cases c_18 : a1 = (1 : Int32)
          · have hf := if_t hf c_18
            refine g_tabIn (t := 93) C (ckD_get k_X10_about_0 25 rfl) (by rw [c_18]; decide) (by rw [c_18]; decide) (by rw [c_18] <;> rfl) (by decide) ?_
            refine g_aload_n 2 C (ckD_get k_X10_about_0 29 rfl) rfl rfl ?_
            obtain ⟨r_20, hr_19, hf⟩ := bd_e hf
            refine n_cV [] [] C (ckD_get k_X10_about_0 30 rfl) vk_X10_227 (t_X10_allWide C.tr _ _ hr_19) T69 rfl rfl (Nat.le_of_ble_eq_true rfl) (by decide) hB rfl ?_
            cases hf
            exact g_iret C (ckD_get k_X10_about_0 31 rfl) hr hRv (Nat.le_refl _) (Nat.le_refl _)
          · have hf := if_f hf c_18
            by_cases c_21 : a1 = (2 : Int32)
            · have hf := if_t hf c_21
              refine g_tabIn (t := 98) C (ckD_get k_X10_about_0 25 rfl) (by rw [c_21]; decide) (by rw [c_21]; decide) (by rw [c_21] <;> rfl) (by decide) ?_
              refine g_aload_n 2 C (ckD_get k_X10_about_0 32 rfl) rfl rfl ?_
              obtain ⟨r_23, hr_22, hf⟩ := bd_e hf
              refine n_cV [] [] C (ckD_get k_X10_about_0 33 rfl) vk_X10_230 (t_X10_allHigh C.tr _ _ hr_22) T69 rfl rfl (Nat.le_of_ble_eq_true rfl) (by decide) hB rfl ?_
              cases hf
              exact g_iret C (ckD_get k_X10_about_0 34 rfl) hr hRv (Nat.le_refl _) (Nat.le_refl _)
            · have hf := if_f hf c_21
              by_cases c_24 : a1 = (3 : Int32)
              · have hf := if_t hf c_24
                refine g_tabIn (t := 103) C (ckD_get k_X10_about_0 25 rfl) (by rw [c_24]; decide) (by rw [c_24]; decide) (by rw [c_24] <;> rfl) (by decide) ?_
                refine g_iload_n 1 C (ckD_get k_X10_about_0 35 rfl) rfl rfl ?_
                cases hf
                exact g_iret C (ckD_get k_X10_about_0 36 rfl) hr hRv (Nat.le_refl _) (Nat.le_refl _)
              · have hf := if_f hf c_24
                by_cases c_25 : a1 = (4 : Int32)
                · have hf := if_t hf c_25
                  refine g_tabIn (t := 105) C (ckD_get k_X10_about_0 25 rfl) (by rw [c_25]; decide) (by rw [c_25]; decide) (by rw [c_25] <;> rfl) (by decide) ?_
                  refine g_iload_n 1 C (ckD_get k_X10_about_0 37 rfl) rfl rfl ?_
                  refine g_istore (lv' := [(4, _), (3, _), (2, _), (0, _), (1, _)]) C (ckD_get k_X10_about_0 38 rfl) hL4 rfl ?_
                  refine g_iconst (v := (0 : Int32)) C (ckD_get k_X10_about_0 39 rfl) (by decide) ?_
                  refine g_istore (lv' := [(5, _), (4, _), (3, _), (2, _), (0, _), (1, _)]) C (ckD_get k_X10_about_1 0 rfl) hL5 rfl ?_
                  refine G.sub [4, 1, 0] rfl ?_
                  obtain ⟨x4_28, hx_111, hf⟩ := bd_e hf
                  have hE_111 : G K (0, 0) 146 [(4, .int x4_28)] [] M_15 := by
                    have hf : f_X10_about_A111 M_15 x4_28 = some r := hf
                    unfold f_X10_about_A111 at hf
                    refine g_iload 0 C (ckD_get k_X10_about_1 19 rfl) rfl ?_
                    cases hf
                    exact g_iret C (ckD_get k_X10_about_1 20 rfl) hr hRv (Nat.le_refl _) (Nat.le_refl _)
                  refine loop_e (x := x4_28) (P := fun (v : (Int32 × Int32)) => G K (0, 0) 111 [(0, .ref (K.2.1.1 + 69)), (4, .int v.1), (5, .int v.2)] [] M_15) ?_ FU _ hx_111
                  intro v rr_111 hf hn_111 hz_111
                  obtain ⟨x4_26, x5_27⟩ := v
                  have hf : f_X10_about_L111 M_15 x4_26 x5_27 = some rr_111 := hf
                  show G K (0, 0) 111 [(0, .ref (K.2.1.1 + 69)), (4, .int x4_26), (5, .int x5_27)] [] M_15
                  unfold f_X10_about_L111 at hf
                  refine g_iload 2 C (ckD_get k_X10_about_1 1 rfl) rfl ?_
                  refine g_aload_n 0 C (ckD_get k_X10_about_1 2 rfl) rfl rfl ?_
                  refine g_getI C (ckD_get k_X10_about_1 3 rfl) fk_X10_124 T69 rfl ?_
                  refine g_icmp_ge C (ckD_get k_X10_about_1 4 rfl) (fun c_29 => ?_) (fun c_29 => ?_)
                  · have hf := if_t hf c_29
                    refine G.sub [1] rfl ?_
                    cases hf
                    cases hz_111 _ rfl
                    exact hE_111
                  · have hf := if_f hf c_29
                    refine g_iload 1 C (ckD_get k_X10_about_1 5 rfl) rfl ?_
                    refine g_aload_n 0 C (ckD_get k_X10_about_1 6 rfl) rfl rfl ?_
                    refine g_getR C (ckD_get k_X10_about_1 7 rfl) fk_X10_9 T69 rfl ?_
                    refine g_iload 2 C (ckD_get k_X10_about_1 8 rfl) rfl ?_
                    obtain ⟨v_30, hi_31, ev_30, hf⟩ := rdI_e hf
                    refine n_iald C (ckD_get k_X10_about_1 9 rfl) T70 hi_31 ev_30 ?_
                    refine g_aload_n 0 C (ckD_get k_X10_about_1 10 rfl) rfl rfl ?_
                    refine g_getR C (ckD_get k_X10_about_1 11 rfl) fk_X10_13 T69 rfl ?_
                    refine g_iload 2 C (ckD_get k_X10_about_1 12 rfl) rfl ?_
                    obtain ⟨v_32, hi_33, ev_32, hf⟩ := rdI_e hf
                    refine n_iald C (ckD_get k_X10_about_1 13 rfl) T71 hi_33 ev_32 ?_
                    refine g_imul C (ckD_get k_X10_about_1 14 rfl) ?_
                    refine g_isub C (ckD_get k_X10_about_1 15 rfl) ?_
                    obtain ⟨x4_34, ex4_34, hf⟩ := lt_e hf
                    refine topI ex4_34 ?_
                    refine g_istore (lv' := [(4, _), (0, _), (5, _)]) C (ckD_get k_X10_about_1 16 rfl) hL4 rfl ?_
                    obtain ⟨x5_35, ex5_35, hf⟩ := lt_e hf
                    refine g_iinc (lv' := [(5, _), (4, _), (0, _)]) 2 C (ckD_get k_X10_about_1 17 rfl) rfl ex5_35 hL5 rfl ?_
                    refine g_goto C (ckD_get k_X10_about_1 18 rfl) ?_
                    refine G.sub [2, 1, 0] rfl ?_
                    cases hf
                    exact hn_111 _ rfl
                · have hf := if_f hf c_25
                  by_cases c_36 : a1 = (5 : Int32)
                  · have hf := if_t hf c_36
                    refine g_tabIn (t := 149) C (ckD_get k_X10_about_0 25 rfl) (by rw [c_36]; decide) (by rw [c_36]; decide) (by rw [c_36] <;> rfl) (by decide) ?_
                    refine g_iload_n 0 C (ckD_get k_X10_about_1 21 rfl) rfl rfl ?_
                    refine g_if_eq C (ckD_get k_X10_about_1 22 rfl) (fun c_37 => ?_) (fun c_37 => ?_)
                    · have hf := if_t hf c_37
                      refine g_iconst (v := (1 : Int32)) C (ckD_get k_X10_about_1 25 rfl) (by decide) ?_
                      cases hf
                      exact g_iret C (ckD_get k_X10_about_1 26 rfl) hr hRv (Nat.le_refl _) (Nat.le_refl _)
                    · have hf := if_f hf c_37
                      refine g_iconst (v := (0 : Int32)) C (ckD_get k_X10_about_1 23 rfl) (by decide) ?_
                      refine g_goto C (ckD_get k_X10_about_1 24 rfl) ?_
                      cases hf
                      exact g_iret C (ckD_get k_X10_about_1 26 rfl) hr hRv (Nat.le_refl _) (Nat.le_refl _)
                  · have hf := if_f hf c_36
                    by_cases c_38 : a1 = (6 : Int32)
                    · have hf := if_t hf c_38
                      refine g_tabIn (t := 159) C (ckD_get k_X10_about_0 25 rfl) (by rw [c_38]; decide) (by rw [c_38]; decide) (by rw [c_38] <;> rfl) (by decide) ?_
                      refine g_aload_n 2 C (ckD_get k_X10_about_1 27 rfl) rfl rfl ?_
                      refine g_getI C (ckD_get k_X10_about_1 28 rfl) fk_X10_218 T69 rfl ?_
                      cases hf
                      exact g_iret C (ckD_get k_X10_about_1 29 rfl) hr hRv (Nat.le_refl _) (Nat.le_refl _)
                    · have hf := if_f hf c_38
                      have ic_17 := i32_ne (n := 0) c_17 (by decide)
                      have ic_18 := i32_ne (n := 1) c_18 (by decide)
                      have ic_21 := i32_ne (n := 2) c_21 (by decide)
                      have ic_24 := i32_ne (n := 3) c_24 (by decide)
                      have ic_25 := i32_ne (n := 4) c_25 (by decide)
                      have ic_36 := i32_ne (n := 5) c_36 (by decide)
                      have ic_38 := i32_ne (n := 6) c_38 (by decide)
                      refine g_tabOut (t := 164) C (ckD_get k_X10_about_0 25 rfl) (by omega) (by decide) ?_
                      refine g_aload_n 2 C (ckD_get k_X10_about_1 30 rfl) rfl rfl ?_
                      refine g_getI C (ckD_get k_X10_about_1 31 rfl) fk_X10_221 T69 rfl ?_
                      cases hf
                      exact g_iret C (ckD_get k_X10_about_1 32 rfl) hr hRv (Nat.le_refl _) (Nat.le_refl _)
      · have hf := if_f hf c_8
        refine G.sub [0] rfl ?_
        exact hJ_23 _ hf

set_option maxRecDepth 20000 in
theorem k_X10_at_0 : ckD cX10_at [(0, .aload_n 0, 1, 1, 0), (1, .iconst 0, 1, 2, 0), (2, .putfield 121, 3, 5, 0), (5, .aload_n 0, 1, 6, 0), (6, .getfield 23, 3, 9, 0), (9, .iconst (-1), 1, 10, 0), (10, .if_icmp .eq 20, 3, 13, 30), (13, .aload_n 0, 1, 14, 0), (14, .iload_n 1, 1, 15, 0), (15, .invokevirtual 130, 3, 18, 0), (18, .ifCond .eq 12, 3, 21, 30), (21, .iload_n 2, 1, 22, 0), (22, .ifCond .lt 8, 3, 25, 30), (25, .iload_n 2, 1, 26, 0), (26, .iconst 4, 1, 27, 0), (27, .if_icmp .le 8, 3, 30, 35), (30, .aload_n 0, 1, 31, 0), (31, .invokevirtual 134, 3, 34, 0), (34, .ireturn, 1, 35, 0), (35, .iload_n 2, 1, 36, 0), (36, .ifCond .ne 12, 3, 39, 48), (39, .aload_n 0, 1, 40, 0), (40, .getfield 27, 3, 43, 0), (43, .iload_n 1, 1, 44, 0), (44, .iaload, 1, 45, 0), (45, .goto 51, 3, 48, 96), (48, .iload_n 2, 1, 49, 0), (49, .iconst 1, 1, 50, 0), (50, .if_icmp .ne 12, 3, 53, 62), (53, .aload_n 0, 1, 54, 0), (54, .getfield 30, 3, 57, 0), (57, .iload_n 1, 1, 58, 0), (58, .iaload, 1, 59, 0), (59, .goto 37, 3, 62, 96), (62, .iload_n 2, 1, 63, 0), (63, .iconst 2, 1, 64, 0), (64, .if_icmp .ne 11, 3, 67, 75), (67, .aload_n 0, 1, 68, 0), (68, .iload_n 1, 1, 69, 0), (69, .invokevirtual 152, 3, 72, 0)] = true := by decide +kernel
set_option maxRecDepth 20000 in
theorem k_X10_at_1 : ckD cX10_at [(72, .goto 24, 3, 75, 96), (75, .iload_n 2, 1, 76, 0), (76, .iconst 3, 1, 77, 0), (77, .if_icmp .ne 11, 3, 80, 88), (80, .aload_n 0, 1, 81, 0), (81, .iload_n 1, 1, 82, 0), (82, .invokevirtual 162, 3, 85, 0), (85, .goto 11, 3, 88, 96), (88, .aload_n 0, 1, 89, 0), (89, .getfield 127, 3, 92, 0), (92, .iload_n 1, 1, 93, 0), (93, .ishr, 1, 94, 0), (94, .iconst 1, 1, 95, 0), (95, .iand, 1, 96, 0), (96, .ireturn, 1, 97, 0)] = true := by decide +kernel
def f_X10_at_J30 (M_1 : Mm) (_ : Unit) : Option (Int32 × Mm) := lt1 (f_X10_fail M_1) fun z_4 => some (z_4.1, z_4.2)
def f_X10_at (a1 : Int32) (a2 : Int32) (M : Mm) : Option (Int32 × Mm) := lt1 (wi M 69 0 (0 : Int32)) fun M_1 => if (M_1.1 69 6) = (-1 : Int32) then f_X10_at_J30 M_1 () else if (f_X10_isBlock a1 M_1) = 0 then f_X10_at_J30 M_1 () else if a2 < 0 then f_X10_at_J30 M_1 () else if a2 ≤ (4 : Int32) then (if a2 = 0 then rdI 12 M_1 74 a1 fun v_19 => some (v_19, M_1) else if a2 = (1 : Int32) then rdI 12 M_1 75 a1 fun v_17 => some (v_17, M_1) else if a2 = (2 : Int32) then (f_X10_wide a1 M_1).bind fun r_16 => some (r_16, M_1) else if a2 = (3 : Int32) then (f_X10_high a1 M_1).bind fun r_14 => some (r_14, M_1) else some ((((M_1.1 69 7) >>> (a1 &&& 31)) &&& (1 : Int32)), M_1)) else f_X10_at_J30 M_1 ()
set_option maxRecDepth 100000 in
set_option maxHeartbeats 4000000 in
theorem t_X10_at {E : Ev} {l : Launch} (htr : l.stackTraces = false) (a1 : Int32) (a2 : Int32) (M : Mm) (r : (Int32 × Mm)) (hf : f_X10_at a1 a2 M = some r) : CM E l 1 0 0 yX10_at cX10_at 3 (some .int) [.ref (E.1 + 69), .int a1, .int a2] M (some (.int r.1)) r.2 := by
  refine CM.of htr (by decide +kernel) (Nat.le_of_ble_eq_true rfl) ?_
  intro K hE hL hl hR0 C hr hRv
  subst hE
  subst hl
  have C : Cx K cX10_at RX10 1 := C
  have hB : (0 : Nat) ≤ K.1.R.cells ∧ 0 ≤ K.1.R.slots := ⟨Nat.zero_le _, Nat.zero_le _⟩
  show G K (0, 0) 0 [(0, .ref (K.2.1.1 + 69)), (1, .int a1), (2, .int a2)] [] M
  unfold f_X10_at at hf
  refine g_aload_n 0 C (ckD_get k_X10_at_0 0 rfl) rfl rfl ?_
  refine g_iconst (v := (0 : Int32)) C (ckD_get k_X10_at_0 1 rfl) (by decide) ?_
  obtain ⟨M_1, eM_1, hf⟩ := lt_e hf
  refine g_putI C (ckD_get k_X10_at_0 2 rfl) fk_X10_121 T69 rfl ?_
  refine memI eM_1 ?_
  refine g_aload_n 0 C (ckD_get k_X10_at_0 3 rfl) rfl rfl ?_
  refine g_getI C (ckD_get k_X10_at_0 4 rfl) fk_X10_23 T69 rfl ?_
  refine g_iconst (v := (-1 : Int32)) C (ckD_get k_X10_at_0 5 rfl) (by decide) ?_
  have hJ_30 : ∀ (_ : Unit), f_X10_at_J30 M_1 () = some r → G K (0, 0) 30 [(0, .ref (K.2.1.1 + 69))] [] M_1 := by
    intro _ hf
    unfold f_X10_at_J30 at hf
    refine g_aload_n 0 C (ckD_get k_X10_at_0 16 rfl) rfl rfl ?_
    obtain ⟨z_4, ez_4, hf⟩ := lt_e hf
    refine n_cV [] [] C (ckD_get k_X10_at_0 17 rfl) vk_X10_134 (t_X10_fail C.tr _ _ ez_4) T69 rfl rfl (Nat.le_of_ble_eq_true rfl) (by decide) hB rfl ?_
    cases hf
    exact g_iret C (ckD_get k_X10_at_0 18 rfl) hr hRv (Nat.le_refl _) (Nat.le_refl _)
  refine g_icmp_eq C (ckD_get k_X10_at_0 6 rfl) (fun c_5 => ?_) (fun c_5 => ?_)
  · have hf := if_t hf c_5
    refine G.sub [0] rfl ?_
    exact hJ_30 () hf
  · have hf := if_f hf c_5
    refine g_aload_n 0 C (ckD_get k_X10_at_0 7 rfl) rfl rfl ?_
    refine g_iload_n 1 C (ckD_get k_X10_at_0 8 rfl) rfl rfl ?_
    refine n_cV [.int a1] [] C (ckD_get k_X10_at_0 9 rfl) vk_X10_130 (t_X10_isBlock C.tr _ _ _ rfl) T69 rfl rfl (Nat.le_of_ble_eq_true rfl) (by decide) hB rfl ?_
    refine g_if_eq C (ckD_get k_X10_at_0 10 rfl) (fun c_6 => ?_) (fun c_6 => ?_)
    · have hf := if_t hf c_6
      refine G.sub [0] rfl ?_
      exact hJ_30 () hf
    · have hf := if_f hf c_6
      refine g_iload_n 2 C (ckD_get k_X10_at_0 11 rfl) rfl rfl ?_
      refine g_if_lt C (ckD_get k_X10_at_0 12 rfl) (fun c_7 => ?_) (fun c_7 => ?_)
      · have hf := if_t hf c_7
        refine G.sub [0] rfl ?_
        exact hJ_30 () hf
      · have hf := if_f hf c_7
        refine g_iload_n 2 C (ckD_get k_X10_at_0 13 rfl) rfl rfl ?_
        refine g_iconst (v := (4 : Int32)) C (ckD_get k_X10_at_0 14 rfl) (by decide) ?_
        refine g_icmp_le C (ckD_get k_X10_at_0 15 rfl) (fun c_8 => ?_) (fun c_8 => ?_)
        · have hf := if_t hf c_8
          refine g_iload_n 2 C (ckD_get k_X10_at_0 19 rfl) rfl rfl ?_
          refine g_if_ne C (ckD_get k_X10_at_0 20 rfl) (fun c_9 => ?_) (fun c_9 => ?_)
          · have hf := if_f hf c_9
            refine g_iload_n 2 C (ckD_get k_X10_at_0 26 rfl) rfl rfl ?_
            refine g_iconst (v := (1 : Int32)) C (ckD_get k_X10_at_0 27 rfl) (by decide) ?_
            refine g_icmp_ne C (ckD_get k_X10_at_0 28 rfl) (fun c_10 => ?_) (fun c_10 => ?_)
            · have hf := if_f hf c_10
              refine g_iload_n 2 C (ckD_get k_X10_at_0 34 rfl) rfl rfl ?_
              refine g_iconst (v := (2 : Int32)) C (ckD_get k_X10_at_0 35 rfl) (by decide) ?_
              refine g_icmp_ne C (ckD_get k_X10_at_0 36 rfl) (fun c_11 => ?_) (fun c_11 => ?_)
              · have hf := if_f hf c_11
                refine g_iload_n 2 C (ckD_get k_X10_at_1 1 rfl) rfl rfl ?_
                refine g_iconst (v := (3 : Int32)) C (ckD_get k_X10_at_1 2 rfl) (by decide) ?_
                refine g_icmp_ne C (ckD_get k_X10_at_1 3 rfl) (fun c_12 => ?_) (fun c_12 => ?_)
                · have hf := if_f hf c_12
                  refine g_aload_n 0 C (ckD_get k_X10_at_1 8 rfl) rfl rfl ?_
                  refine g_getI C (ckD_get k_X10_at_1 9 rfl) fk_X10_127 T69 rfl ?_
                  refine g_iload_n 1 C (ckD_get k_X10_at_1 10 rfl) rfl rfl ?_
                  refine g_ishr C (ckD_get k_X10_at_1 11 rfl) ?_
                  refine g_iconst (v := (1 : Int32)) C (ckD_get k_X10_at_1 12 rfl) (by decide) ?_
                  refine g_iand C (ckD_get k_X10_at_1 13 rfl) ?_
                  cases hf
                  exact g_iret C (ckD_get k_X10_at_1 14 rfl) hr hRv (Nat.le_refl _) (Nat.le_refl _)
                · have hf := if_t hf c_12
                  refine g_aload_n 0 C (ckD_get k_X10_at_1 4 rfl) rfl rfl ?_
                  refine g_iload_n 1 C (ckD_get k_X10_at_1 5 rfl) rfl rfl ?_
                  obtain ⟨r_14, hr_13, hf⟩ := bd_e hf
                  refine n_cV [.int a1] [] C (ckD_get k_X10_at_1 6 rfl) vk_X10_162 (t_X10_high C.tr _ _ _ hr_13) T69 rfl rfl (Nat.le_of_ble_eq_true rfl) (by decide) hB rfl ?_
                  refine g_goto C (ckD_get k_X10_at_1 7 rfl) ?_
                  cases hf
                  exact g_iret C (ckD_get k_X10_at_1 14 rfl) hr hRv (Nat.le_refl _) (Nat.le_refl _)
              · have hf := if_t hf c_11
                refine g_aload_n 0 C (ckD_get k_X10_at_0 37 rfl) rfl rfl ?_
                refine g_iload_n 1 C (ckD_get k_X10_at_0 38 rfl) rfl rfl ?_
                obtain ⟨r_16, hr_15, hf⟩ := bd_e hf
                refine n_cV [.int a1] [] C (ckD_get k_X10_at_0 39 rfl) vk_X10_152 (t_X10_wide C.tr _ _ _ hr_15) T69 rfl rfl (Nat.le_of_ble_eq_true rfl) (by decide) hB rfl ?_
                refine g_goto C (ckD_get k_X10_at_1 0 rfl) ?_
                cases hf
                exact g_iret C (ckD_get k_X10_at_1 14 rfl) hr hRv (Nat.le_refl _) (Nat.le_refl _)
            · have hf := if_t hf c_10
              refine g_aload_n 0 C (ckD_get k_X10_at_0 29 rfl) rfl rfl ?_
              refine g_getR C (ckD_get k_X10_at_0 30 rfl) fk_X10_30 T69 rfl ?_
              refine g_iload_n 1 C (ckD_get k_X10_at_0 31 rfl) rfl rfl ?_
              obtain ⟨v_17, hi_18, ev_17, hf⟩ := rdI_e hf
              refine n_iald C (ckD_get k_X10_at_0 32 rfl) T75 hi_18 ev_17 ?_
              refine g_goto C (ckD_get k_X10_at_0 33 rfl) ?_
              cases hf
              exact g_iret C (ckD_get k_X10_at_1 14 rfl) hr hRv (Nat.le_refl _) (Nat.le_refl _)
          · have hf := if_t hf c_9
            refine g_aload_n 0 C (ckD_get k_X10_at_0 21 rfl) rfl rfl ?_
            refine g_getR C (ckD_get k_X10_at_0 22 rfl) fk_X10_27 T69 rfl ?_
            refine g_iload_n 1 C (ckD_get k_X10_at_0 23 rfl) rfl rfl ?_
            obtain ⟨v_19, hi_20, ev_19, hf⟩ := rdI_e hf
            refine n_iald C (ckD_get k_X10_at_0 24 rfl) T74 hi_20 ev_19 ?_
            refine g_goto C (ckD_get k_X10_at_0 25 rfl) ?_
            cases hf
            exact g_iret C (ckD_get k_X10_at_1 14 rfl) hr hRv (Nat.le_refl _) (Nat.le_refl _)
        · have hf := if_f hf c_8
          refine G.sub [0] rfl ?_
          exact hJ_30 () hf

set_option maxRecDepth 20000 in
theorem k_X10_packed_0 : ckD cX10_packed [(0, .lconst 0, 1, 1, 0), (1, .lstore 5, 2, 3, 0), (3, .bipush 15, 2, 5, 0), (5, .istore 7, 2, 7, 0), (7, .iload 7, 2, 9, 0), (9, .ifCond .lt 46, 3, 12, 55), (12, .lload 5, 2, 14, 0), (14, .iconst 4, 1, 15, 0), (15, .lshl, 1, 16, 0), (16, .iload_n 2, 1, 17, 0), (17, .iload 7, 2, 19, 0), (19, .iadd, 1, 20, 0), (20, .iload_n 3, 1, 21, 0), (21, .if_icmp .ge 22, 3, 24, 43), (24, .iload 7, 2, 26, 0), (26, .iload 4, 2, 28, 0), (28, .if_icmp .ge 15, 3, 31, 43), (31, .aload_n 1, 1, 32, 0), (32, .iload_n 2, 1, 33, 0), (33, .iload 7, 2, 35, 0), (35, .iadd, 1, 36, 0), (36, .iaload, 1, 37, 0), (37, .bipush 15, 2, 39, 0), (39, .iand, 1, 40, 0), (40, .goto 5, 3, 43, 45), (43, .bipush 15, 2, 45, 0), (45, .i2l, 1, 46, 0), (46, .lor, 1, 47, 0), (47, .lstore 5, 2, 49, 0), (49, .iinc 7 (-1), 3, 52, 0), (52, .goto (-45), 3, 55, 7), (55, .lload 5, 2, 57, 0), (57, .lreturn, 1, 58, 0)] = true := by decide +kernel
def f_X10_packed_A7 (x5_3 : Int64) : Option Int64 := some x5_3
def f_X10_packed_J45 (x5_1 : Int64) (x7_2 : Int32) (s_5 : Int32) : Option ((Int64 × Int32) ⊕ Int64) := lt1 ((x5_1 <<< (((4 : Int32)).toInt64 &&& 63)) ||| ((s_5).toInt64)) fun x5_6 => lt1 (x7_2 + (-1)) fun x7_7 => some (.inl (x5_6, x7_7))
def f_X10_packed_J43 (x5_1 : Int64) (x7_2 : Int32) (_ : Unit) : Option ((Int64 × Int32) ⊕ Int64) := f_X10_packed_J45 x5_1 x7_2 (15 : Int32)
def f_X10_packed_L7 (k1 : Nat) (n1 : Nat) (a2 : Int32) (a3 : Int32) (a4 : Int32) (M : Mm) (x5_1 : Int64) (x7_2 : Int32) : Option ((Int64 × Int32) ⊕ Int64) := if x7_2 < 0 then some (.inr x5_1) else if a3 ≤ (a2 + x7_2) then f_X10_packed_J43 x5_1 x7_2 () else if a4 ≤ x7_2 then f_X10_packed_J43 x5_1 x7_2 () else rdI n1 M k1 (a2 + x7_2) fun v_10 => f_X10_packed_J45 x5_1 x7_2 ((v_10 &&& (15 : Int32)))
def f_X10_packed (n1 : Nat) (k1 : Nat) (a2 : Int32) (a3 : Int32) (a4 : Int32) (M : Mm) : Option Int64 := (loop (fun v => f_X10_packed_L7 k1 n1 a2 a3 a4 M v.1 v.2) FU ((0 : Int64), (15 : Int32))).bind fun z => f_X10_packed_A7 z
set_option maxRecDepth 100000 in
set_option maxHeartbeats 4000000 in
theorem t_X10_packed {E : Ev} {l : Launch} (htr : l.stackTraces = false) (n1 : Nat) (k1 : Nat) (hk1 : LT[k1]? = some (0, n1, [])) (a2 : Int32) (a3 : Int32) (a4 : Int32) (M : Mm) (r : Int64) (hf : f_X10_packed n1 k1 a2 a3 a4 M = some r) : CM E l 0 0 0 yX10_packed cX10_packed 8 (some .long) [.ref (E.1 + 69), .ref (E.1 + k1), .int a2, .int a3, .int a4] M (some (.long r)) M := by
  refine CM.of htr (by decide +kernel) (Nat.le_of_ble_eq_true rfl) ?_
  intro K hE hL hl hR0 C hr hRv
  subst hE
  subst hl
  have C : Cx K cX10_packed RX10 0 := C
  have hB : (0 : Nat) ≤ K.1.R.cells ∧ 0 ≤ K.1.R.slots := ⟨Nat.zero_le _, Nat.zero_le _⟩
  have hL6 : 6 < K.2.2.1 := by rw [hL]; decide
  have hL7 : 7 < K.2.2.1 := by rw [hL]; decide
  show G K (0, 0) 0 [(0, .ref (K.2.1.1 + 69)), (1, .ref (K.2.1.1 + k1)), (2, .int a2), (3, .int a3), (4, .int a4)] [] M
  unfold f_X10_packed at hf
  refine g_lconst (v := (0 : Int64)) C (ckD_get k_X10_packed_0 0 rfl) (by decide) ?_
  refine g_lstore (lv' := [(5, _), (0, _), (1, _), (2, _), (3, _), (4, _)]) C (ckD_get k_X10_packed_0 1 rfl) hL6 rfl ?_
  refine g_bipush (v := (15 : Int32)) C (ckD_get k_X10_packed_0 2 rfl) (by decide) ?_
  refine g_istore (lv' := [(7, _), (5, _), (0, _), (1, _), (2, _), (3, _), (4, _)]) C (ckD_get k_X10_packed_0 3 rfl) hL7 rfl ?_
  refine G.sub [3, 4, 5, 6, 1, 0] rfl ?_
  obtain ⟨x5_3, hx_7, hf⟩ := bd_e hf
  have hE_7 : G K (0, 0) 55 [(5, .long x5_3)] [] M := by
    have hf : f_X10_packed_A7 x5_3 = some r := hf
    unfold f_X10_packed_A7 at hf
    refine g_lload 0 C (ckD_get k_X10_packed_0 31 rfl) rfl ?_
    cases hf
    exact g_lret C (ckD_get k_X10_packed_0 32 rfl) hr hRv (Nat.le_refl _) (Nat.le_refl _)
  refine loop_e (x := x5_3) (P := fun (v : (Int64 × Int32)) => G K (0, 0) 7 [(1, .ref (K.2.1.1 + k1)), (2, .int a2), (3, .int a3), (4, .int a4), (5, .long v.1), (7, .int v.2)] [] M) ?_ FU _ hx_7
  intro v rr_7 hf hn_7 hz_7
  obtain ⟨x5_1, x7_2⟩ := v
  have hf : f_X10_packed_L7 k1 n1 a2 a3 a4 M x5_1 x7_2 = some rr_7 := hf
  show G K (0, 0) 7 [(1, .ref (K.2.1.1 + k1)), (2, .int a2), (3, .int a3), (4, .int a4), (5, .long x5_1), (7, .int x7_2)] [] M
  unfold f_X10_packed_L7 at hf
  refine g_iload 5 C (ckD_get k_X10_packed_0 4 rfl) rfl ?_
  refine g_if_lt C (ckD_get k_X10_packed_0 5 rfl) (fun c_4 => ?_) (fun c_4 => ?_)
  · have hf := if_t hf c_4
    refine G.sub [4] rfl ?_
    cases hf
    cases hz_7 _ rfl
    exact hE_7
  · have hf := if_f hf c_4
    refine g_lload 4 C (ckD_get k_X10_packed_0 6 rfl) rfl ?_
    refine g_iconst (v := (4 : Int32)) C (ckD_get k_X10_packed_0 7 rfl) (by decide) ?_
    refine g_lshl C (ckD_get k_X10_packed_0 8 rfl) ?_
    refine g_iload_n 1 C (ckD_get k_X10_packed_0 9 rfl) rfl rfl ?_
    refine g_iload 5 C (ckD_get k_X10_packed_0 10 rfl) rfl ?_
    refine g_iadd C (ckD_get k_X10_packed_0 11 rfl) ?_
    refine g_iload_n 2 C (ckD_get k_X10_packed_0 12 rfl) rfl rfl ?_
    have hJ_45 : ∀ (s_5 : Int32), f_X10_packed_J45 x5_1 x7_2 s_5 = some rr_7 → G K (0, 0) 45 [(1, .ref (K.2.1.1 + k1)), (2, .int a2), (3, .int a3), (4, .int a4), (7, .int x7_2)] [.int s_5, .long (x5_1 <<< (((4 : Int32)).toInt64 &&& 63))] M := by
      intro s_5 hf
      unfold f_X10_packed_J45 at hf
      refine g_i2l C (ckD_get k_X10_packed_0 26 rfl) ?_
      refine g_lor C (ckD_get k_X10_packed_0 27 rfl) ?_
      obtain ⟨x5_6, ex5_6, hf⟩ := lt_e hf
      refine topL ex5_6 ?_
      refine g_lstore (lv' := [(5, _), (1, _), (2, _), (3, _), (4, _), (7, _)]) C (ckD_get k_X10_packed_0 28 rfl) hL6 rfl ?_
      obtain ⟨x7_7, ex7_7, hf⟩ := lt_e hf
      refine g_iinc (lv' := [(7, _), (5, _), (1, _), (2, _), (3, _), (4, _)]) 5 C (ckD_get k_X10_packed_0 29 rfl) rfl ex7_7 hL7 rfl ?_
      refine g_goto C (ckD_get k_X10_packed_0 30 rfl) ?_
      refine G.sub [2, 3, 4, 5, 1, 0] rfl ?_
      cases hf
      exact hn_7 _ rfl
    have hJ_43 : ∀ (_ : Unit), f_X10_packed_J43 x5_1 x7_2 () = some rr_7 → G K (0, 0) 43 [(1, .ref (K.2.1.1 + k1)), (2, .int a2), (3, .int a3), (4, .int a4), (7, .int x7_2)] [.long (x5_1 <<< (((4 : Int32)).toInt64 &&& 63))] M := by
      intro _ hf
      unfold f_X10_packed_J43 at hf
      refine g_bipush (v := (15 : Int32)) C (ckD_get k_X10_packed_0 25 rfl) (by decide) ?_
      exact hJ_45 _ hf
    refine g_icmp_ge C (ckD_get k_X10_packed_0 13 rfl) (fun c_8 => ?_) (fun c_8 => ?_)
    · have hf := if_t hf c_8
      refine G.sub [0, 1, 2, 3, 5] rfl ?_
      exact hJ_43 () hf
    · have hf := if_f hf c_8
      refine g_iload 5 C (ckD_get k_X10_packed_0 14 rfl) rfl ?_
      refine g_iload 3 C (ckD_get k_X10_packed_0 15 rfl) rfl ?_
      refine g_icmp_ge C (ckD_get k_X10_packed_0 16 rfl) (fun c_9 => ?_) (fun c_9 => ?_)
      · have hf := if_t hf c_9
        refine G.sub [0, 1, 2, 3, 5] rfl ?_
        exact hJ_43 () hf
      · have hf := if_f hf c_9
        refine g_aload_n 0 C (ckD_get k_X10_packed_0 17 rfl) rfl rfl ?_
        refine g_iload_n 1 C (ckD_get k_X10_packed_0 18 rfl) rfl rfl ?_
        refine g_iload 5 C (ckD_get k_X10_packed_0 19 rfl) rfl ?_
        refine g_iadd C (ckD_get k_X10_packed_0 20 rfl) ?_
        obtain ⟨v_10, hi_11, ev_10, hf⟩ := rdI_e hf
        refine n_iald C (ckD_get k_X10_packed_0 21 rfl) hk1 hi_11 ev_10 ?_
        refine g_bipush (v := (15 : Int32)) C (ckD_get k_X10_packed_0 22 rfl) (by decide) ?_
        refine g_iand C (ckD_get k_X10_packed_0 23 rfl) ?_
        refine g_goto C (ckD_get k_X10_packed_0 24 rfl) ?_
        refine G.sub [0, 1, 2, 3, 5] rfl ?_
        exact hJ_45 _ hf

set_option maxRecDepth 20000 in
theorem k_X10_told_0 : ckD cX10_told [(0, .aload_n 0, 1, 1, 0), (1, .iconst 0, 1, 2, 0), (2, .putfield 121, 3, 5, 0), (5, .aload_n 0, 1, 6, 0), (6, .getfield 23, 3, 9, 0), (9, .iconst 1, 1, 10, 0), (10, .if_icmp .ne 12, 3, 13, 22), (13, .iload_n 1, 1, 14, 0), (14, .ifCond .eq 45, 3, 17, 59), (17, .iload_n 1, 1, 18, 0), (18, .iconst 1, 1, 19, 0), (19, .if_icmp .eq 40, 3, 22, 59), (22, .aload_n 0, 1, 23, 0), (23, .getfield 23, 3, 26, 0), (26, .iconst 2, 1, 27, 0), (27, .if_icmp .ne 13, 3, 30, 40), (30, .iload_n 1, 1, 31, 0), (31, .iconst 2, 1, 32, 0), (32, .if_icmp .eq 27, 3, 35, 59), (35, .iload_n 1, 1, 36, 0), (36, .iconst 3, 1, 37, 0), (37, .if_icmp .eq 22, 3, 40, 59), (40, .aload_n 0, 1, 41, 0), (41, .getfield 23, 3, 44, 0), (44, .iconst 3, 1, 45, 0), (45, .if_icmp .ne 18, 3, 48, 63), (48, .iload_n 1, 1, 49, 0), (49, .iconst 4, 1, 50, 0), (50, .if_icmp .lt 13, 3, 53, 63), (53, .iload_n 1, 1, 54, 0), (54, .bipush 6, 2, 56, 0), (56, .if_icmp .gt 7, 3, 59, 63), (59, .iconst 1, 1, 60, 0), (60, .goto 4, 3, 63, 64), (63, .iconst 0, 1, 64, 0), (64, .istore_n 2, 1, 65, 0), (65, .iload_n 2, 1, 66, 0), (66, .ifCond .ne 9, 3, 69, 75), (69, .aload_n 0, 1, 70, 0), (70, .invokevirtual 134, 3, 73, 0)] = true := by decide +kernel
set_option maxRecDepth 20000 in
theorem k_X10_told_1 : ckD cX10_told [(73, .i2l, 1, 74, 0), (74, .lreturn, 1, 75, 0), (75, .iload_n 1, 1, 76, 0), (76, .tableswitch 137 0 5 #[40, 56, 72, 88, 105, 121], 40, 116, 0), (116, .aload_n 0, 1, 117, 0), (117, .aload_n 0, 1, 118, 0), (118, .getfield 33, 3, 121, 0), (121, .iconst 0, 1, 122, 0), (122, .aload_n 0, 1, 123, 0), (123, .getfield 124, 3, 126, 0), (126, .bipush 16, 2, 128, 0), (128, .invokevirtual 236, 3, 131, 0), (131, .lreturn, 1, 132, 0), (132, .aload_n 0, 1, 133, 0), (133, .aload_n 0, 1, 134, 0), (134, .getfield 36, 3, 137, 0), (137, .iconst 0, 1, 138, 0), (138, .aload_n 0, 1, 139, 0), (139, .getfield 124, 3, 142, 0), (142, .bipush 16, 2, 144, 0), (144, .invokevirtual 236, 3, 147, 0), (147, .lreturn, 1, 148, 0), (148, .aload_n 0, 1, 149, 0), (149, .aload_n 0, 1, 150, 0), (150, .getfield 39, 3, 153, 0), (153, .iconst 0, 1, 154, 0), (154, .aload_n 0, 1, 155, 0), (155, .invokevirtual 175, 3, 158, 0), (158, .bipush 16, 2, 160, 0), (160, .invokevirtual 236, 3, 163, 0), (163, .lreturn, 1, 164, 0), (164, .aload_n 0, 1, 165, 0), (165, .aload_n 0, 1, 166, 0), (166, .getfield 39, 3, 169, 0), (169, .bipush 16, 2, 171, 0), (171, .aload_n 0, 1, 172, 0), (172, .invokevirtual 175, 3, 175, 0), (175, .bipush 16, 2, 177, 0), (177, .invokevirtual 236, 3, 180, 0), (180, .lreturn, 1, 181, 0)] = true := by decide +kernel
set_option maxRecDepth 20000 in
theorem k_X10_told_2 : ckD cX10_told [(181, .aload_n 0, 1, 182, 0), (182, .aload_n 0, 1, 183, 0), (183, .getfield 42, 3, 186, 0), (186, .iconst 0, 1, 187, 0), (187, .aload_n 0, 1, 188, 0), (188, .getfield 124, 3, 191, 0), (191, .bipush 16, 2, 193, 0), (193, .invokevirtual 236, 3, 196, 0), (196, .lreturn, 1, 197, 0), (197, .aload_n 0, 1, 198, 0), (198, .aload_n 0, 1, 199, 0), (199, .getfield 45, 3, 202, 0), (202, .iconst 0, 1, 203, 0), (203, .aload_n 0, 1, 204, 0), (204, .getfield 124, 3, 207, 0), (207, .bipush 16, 2, 209, 0), (209, .invokevirtual 236, 3, 212, 0), (212, .lreturn, 1, 213, 0), (213, .aload_n 0, 1, 214, 0), (214, .getfield 198, 3, 217, 0), (217, .i2l, 1, 218, 0), (218, .lreturn, 1, 219, 0)] = true := by decide +kernel
def f_X10_told_J64 (a1 : Int32) (M_1 : Mm) (s_2 : Int32) : Option (Int64 × Mm) := if s_2 = 0 then lt1 (f_X10_fail M_1) fun z_24 => some (((z_24.1).toInt64), z_24.2) else if a1 = (0 : Int32) then ((f_X10_packed 12 76 (0 : Int32) (M_1.1 69 1) (16 : Int32) M_1).bind fun r_6 => some (r_6, M_1)) else if a1 = (1 : Int32) then ((f_X10_packed 12 77 (0 : Int32) (M_1.1 69 1) (16 : Int32) M_1).bind fun r_9 => some (r_9, M_1)) else if a1 = (2 : Int32) then ((f_X10_packed 23 78 (0 : Int32) (f_X10_rowSize M_1) (16 : Int32) M_1).bind fun r_12 => some (r_12, M_1)) else if a1 = (3 : Int32) then ((f_X10_packed 23 78 (16 : Int32) (f_X10_rowSize M_1) (16 : Int32) M_1).bind fun r_15 => some (r_15, M_1)) else if a1 = (4 : Int32) then ((f_X10_packed 12 79 (0 : Int32) (M_1.1 69 1) (16 : Int32) M_1).bind fun r_18 => some (r_18, M_1)) else if a1 = (5 : Int32) then ((f_X10_packed 12 80 (0 : Int32) (M_1.1 69 1) (16 : Int32) M_1).bind fun r_21 => some (r_21, M_1)) else (some ((((M_1.1 69 8)).toInt64), M_1))
def f_X10_told_J59 (a1 : Int32) (M_1 : Mm) (_ : Unit) : Option (Int64 × Mm) := f_X10_told_J64 a1 M_1 (1 : Int32)
def f_X10_told_J63 (a1 : Int32) (M_1 : Mm) (_ : Unit) : Option (Int64 × Mm) := f_X10_told_J64 a1 M_1 (0 : Int32)
def f_X10_told_J40 (a1 : Int32) (M_1 : Mm) (_ : Unit) : Option (Int64 × Mm) := if (M_1.1 69 6) = (3 : Int32) then (if a1 < (4 : Int32) then f_X10_told_J63 a1 M_1 () else if (6 : Int32) < a1 then f_X10_told_J63 a1 M_1 () else f_X10_told_J59 a1 M_1 ()) else f_X10_told_J63 a1 M_1 ()
def f_X10_told_J22 (a1 : Int32) (M_1 : Mm) (_ : Unit) : Option (Int64 × Mm) := if (M_1.1 69 6) = (2 : Int32) then (if a1 = (2 : Int32) then f_X10_told_J59 a1 M_1 () else if a1 = (3 : Int32) then f_X10_told_J59 a1 M_1 () else f_X10_told_J40 a1 M_1 ()) else f_X10_told_J40 a1 M_1 ()
def f_X10_told (a1 : Int32) (M : Mm) : Option (Int64 × Mm) := lt1 (wi M 69 0 (0 : Int32)) fun M_1 => if (M_1.1 69 6) = (1 : Int32) then (if a1 = 0 then f_X10_told_J59 a1 M_1 () else if a1 = (1 : Int32) then f_X10_told_J59 a1 M_1 () else f_X10_told_J22 a1 M_1 ()) else f_X10_told_J22 a1 M_1 ()
set_option maxRecDepth 100000 in
set_option maxHeartbeats 4000000 in
theorem t_X10_told {E : Ev} {l : Launch} (htr : l.stackTraces = false) (a1 : Int32) (M : Mm) (r : (Int64 × Mm)) (hf : f_X10_told a1 M = some r) : CM E l 1 0 0 yX10_told cX10_told 3 (some .long) [.ref (E.1 + 69), .int a1] M (some (.long r.1)) r.2 := by
  refine CM.of htr (by decide +kernel) (Nat.le_of_ble_eq_true rfl) ?_
  intro K hE hL hl hR0 C hr hRv
  subst hE
  subst hl
  have C : Cx K cX10_told RX10 1 := C
  have hB : (0 : Nat) ≤ K.1.R.cells ∧ 0 ≤ K.1.R.slots := ⟨Nat.zero_le _, Nat.zero_le _⟩
  have hL2 : 2 < K.2.2.1 := by rw [hL]; decide
  show G K (0, 0) 0 [(0, .ref (K.2.1.1 + 69)), (1, .int a1)] [] M
  unfold f_X10_told at hf
  refine g_aload_n 0 C (ckD_get k_X10_told_0 0 rfl) rfl rfl ?_
  refine g_iconst (v := (0 : Int32)) C (ckD_get k_X10_told_0 1 rfl) (by decide) ?_
  obtain ⟨M_1, eM_1, hf⟩ := lt_e hf
  refine g_putI C (ckD_get k_X10_told_0 2 rfl) fk_X10_121 T69 rfl ?_
  refine memI eM_1 ?_
  refine g_aload_n 0 C (ckD_get k_X10_told_0 3 rfl) rfl rfl ?_
  refine g_getI C (ckD_get k_X10_told_0 4 rfl) fk_X10_23 T69 rfl ?_
  refine g_iconst (v := (1 : Int32)) C (ckD_get k_X10_told_0 5 rfl) (by decide) ?_
  have hJ_64 : ∀ (s_2 : Int32), f_X10_told_J64 a1 M_1 s_2 = some r → G K (0, 0) 64 [(0, .ref (K.2.1.1 + 69)), (1, .int a1)] [.int s_2] M_1 := by
    intro s_2 hf
    unfold f_X10_told_J64 at hf
    refine g_istore_n (lv' := [(2, _), (0, _), (1, _)]) C (ckD_get k_X10_told_0 35 rfl) rfl hL2 rfl ?_
    refine g_iload_n 0 C (ckD_get k_X10_told_0 36 rfl) rfl rfl ?_
    refine g_if_ne C (ckD_get k_X10_told_0 37 rfl) (fun c_3 => ?_) (fun c_3 => ?_)
    · have hf := if_f hf c_3
      refine g_iload_n 2 C (ckD_get k_X10_told_1 2 rfl) rfl rfl ?_
      by_cases c_4 : a1 = (0 : Int32)
      · have hf := if_t hf c_4
        refine g_tabIn (t := 116) C (ckD_get k_X10_told_1 3 rfl) (by rw [c_4]; decide) (by rw [c_4]; decide) (by rw [c_4] <;> rfl) (by decide) ?_
        refine g_aload_n 1 C (ckD_get k_X10_told_1 4 rfl) rfl rfl ?_
        refine g_aload_n 1 C (ckD_get k_X10_told_1 5 rfl) rfl rfl ?_
        refine g_getR C (ckD_get k_X10_told_1 6 rfl) fk_X10_33 T69 rfl ?_
        refine g_iconst (v := (0 : Int32)) C (ckD_get k_X10_told_1 7 rfl) (by decide) ?_
        refine g_aload_n 1 C (ckD_get k_X10_told_1 8 rfl) rfl rfl ?_
        refine g_getI C (ckD_get k_X10_told_1 9 rfl) fk_X10_124 T69 rfl ?_
        refine g_bipush (v := (16 : Int32)) C (ckD_get k_X10_told_1 10 rfl) (by decide) ?_
        obtain ⟨r_6, hr_5, hf⟩ := bd_e hf
        refine n_cV [.ref (K.2.1.1 + 76), .int (0 : Int32), .int (M_1.1 69 1), .int (16 : Int32)] [] C (ckD_get k_X10_told_1 11 rfl) vk_X10_236 (t_X10_packed C.tr _ _ T76 _ _ _ _ _ hr_5) T69 rfl rfl (Nat.le_of_ble_eq_true rfl) (by decide) hB rfl ?_
        cases hf
        exact g_lret C (ckD_get k_X10_told_1 12 rfl) hr hRv (Nat.le_refl _) (Nat.le_refl _)
      · have hf := if_f hf c_4
        by_cases c_7 : a1 = (1 : Int32)
        · have hf := if_t hf c_7
          refine g_tabIn (t := 132) C (ckD_get k_X10_told_1 3 rfl) (by rw [c_7]; decide) (by rw [c_7]; decide) (by rw [c_7] <;> rfl) (by decide) ?_
          refine g_aload_n 1 C (ckD_get k_X10_told_1 13 rfl) rfl rfl ?_
          refine g_aload_n 1 C (ckD_get k_X10_told_1 14 rfl) rfl rfl ?_
          refine g_getR C (ckD_get k_X10_told_1 15 rfl) fk_X10_36 T69 rfl ?_
          refine g_iconst (v := (0 : Int32)) C (ckD_get k_X10_told_1 16 rfl) (by decide) ?_
          refine g_aload_n 1 C (ckD_get k_X10_told_1 17 rfl) rfl rfl ?_
          refine g_getI C (ckD_get k_X10_told_1 18 rfl) fk_X10_124 T69 rfl ?_
          refine g_bipush (v := (16 : Int32)) C (ckD_get k_X10_told_1 19 rfl) (by decide) ?_
          obtain ⟨r_9, hr_8, hf⟩ := bd_e hf
          refine n_cV [.ref (K.2.1.1 + 77), .int (0 : Int32), .int (M_1.1 69 1), .int (16 : Int32)] [] C (ckD_get k_X10_told_1 20 rfl) vk_X10_236 (t_X10_packed C.tr _ _ T77 _ _ _ _ _ hr_8) T69 rfl rfl (Nat.le_of_ble_eq_true rfl) (by decide) hB rfl ?_
          cases hf
          exact g_lret C (ckD_get k_X10_told_1 21 rfl) hr hRv (Nat.le_refl _) (Nat.le_refl _)
        · have hf := if_f hf c_7
          by_cases c_10 : a1 = (2 : Int32)
          · have hf := if_t hf c_10
            refine g_tabIn (t := 148) C (ckD_get k_X10_told_1 3 rfl) (by rw [c_10]; decide) (by rw [c_10]; decide) (by rw [c_10] <;> rfl) (by decide) ?_
            refine g_aload_n 1 C (ckD_get k_X10_told_1 22 rfl) rfl rfl ?_
            refine g_aload_n 1 C (ckD_get k_X10_told_1 23 rfl) rfl rfl ?_
            refine g_getR C (ckD_get k_X10_told_1 24 rfl) fk_X10_39 T69 rfl ?_
            refine g_iconst (v := (0 : Int32)) C (ckD_get k_X10_told_1 25 rfl) (by decide) ?_
            refine g_aload_n 1 C (ckD_get k_X10_told_1 26 rfl) rfl rfl ?_
            refine n_cV [] [.int (0 : Int32), .ref (K.2.1.1 + 78), .ref (K.2.1.1 + 69)] C (ckD_get k_X10_told_1 27 rfl) vk_X10_175 (t_X10_rowSize C.tr _ _ rfl) T69 rfl rfl (Nat.le_of_ble_eq_true rfl) (by decide) hB rfl ?_
            refine g_bipush (v := (16 : Int32)) C (ckD_get k_X10_told_1 28 rfl) (by decide) ?_
            obtain ⟨r_12, hr_11, hf⟩ := bd_e hf
            refine n_cV [.ref (K.2.1.1 + 78), .int (0 : Int32), .int (f_X10_rowSize M_1), .int (16 : Int32)] [] C (ckD_get k_X10_told_1 29 rfl) vk_X10_236 (t_X10_packed C.tr _ _ T78 _ _ _ _ _ hr_11) T69 rfl rfl (Nat.le_of_ble_eq_true rfl) (by decide) hB rfl ?_
            cases hf
            exact g_lret C (ckD_get k_X10_told_1 30 rfl) hr hRv (Nat.le_refl _) (Nat.le_refl _)
          · have hf := if_f hf c_10
            by_cases c_13 : a1 = (3 : Int32)
            · have hf := if_t hf c_13
              refine g_tabIn (t := 164) C (ckD_get k_X10_told_1 3 rfl) (by rw [c_13]; decide) (by rw [c_13]; decide) (by rw [c_13] <;> rfl) (by decide) ?_
              refine g_aload_n 1 C (ckD_get k_X10_told_1 31 rfl) rfl rfl ?_
              refine g_aload_n 1 C (ckD_get k_X10_told_1 32 rfl) rfl rfl ?_
              refine g_getR C (ckD_get k_X10_told_1 33 rfl) fk_X10_39 T69 rfl ?_
              refine g_bipush (v := (16 : Int32)) C (ckD_get k_X10_told_1 34 rfl) (by decide) ?_
              refine g_aload_n 1 C (ckD_get k_X10_told_1 35 rfl) rfl rfl ?_
              refine n_cV [] [.int (16 : Int32), .ref (K.2.1.1 + 78), .ref (K.2.1.1 + 69)] C (ckD_get k_X10_told_1 36 rfl) vk_X10_175 (t_X10_rowSize C.tr _ _ rfl) T69 rfl rfl (Nat.le_of_ble_eq_true rfl) (by decide) hB rfl ?_
              refine g_bipush (v := (16 : Int32)) C (ckD_get k_X10_told_1 37 rfl) (by decide) ?_
              obtain ⟨r_15, hr_14, hf⟩ := bd_e hf
              refine n_cV [.ref (K.2.1.1 + 78), .int (16 : Int32), .int (f_X10_rowSize M_1), .int (16 : Int32)] [] C (ckD_get k_X10_told_1 38 rfl) vk_X10_236 (t_X10_packed C.tr _ _ T78 _ _ _ _ _ hr_14) T69 rfl rfl (Nat.le_of_ble_eq_true rfl) (by decide) hB rfl ?_
              cases hf
              exact g_lret C (ckD_get k_X10_told_1 39 rfl) hr hRv (Nat.le_refl _) (Nat.le_refl _)
            · have hf := if_f hf c_13
              by_cases c_16 : a1 = (4 : Int32)
              · have hf := if_t hf c_16
                refine g_tabIn (t := 181) C (ckD_get k_X10_told_1 3 rfl) (by rw [c_16]; decide) (by rw [c_16]; decide) (by rw [c_16] <;> rfl) (by decide) ?_
                refine g_aload_n 1 C (ckD_get k_X10_told_2 0 rfl) rfl rfl ?_
                refine g_aload_n 1 C (ckD_get k_X10_told_2 1 rfl) rfl rfl ?_
                refine g_getR C (ckD_get k_X10_told_2 2 rfl) fk_X10_42 T69 rfl ?_
                refine g_iconst (v := (0 : Int32)) C (ckD_get k_X10_told_2 3 rfl) (by decide) ?_
                refine g_aload_n 1 C (ckD_get k_X10_told_2 4 rfl) rfl rfl ?_
                refine g_getI C (ckD_get k_X10_told_2 5 rfl) fk_X10_124 T69 rfl ?_
                refine g_bipush (v := (16 : Int32)) C (ckD_get k_X10_told_2 6 rfl) (by decide) ?_
                obtain ⟨r_18, hr_17, hf⟩ := bd_e hf
                refine n_cV [.ref (K.2.1.1 + 79), .int (0 : Int32), .int (M_1.1 69 1), .int (16 : Int32)] [] C (ckD_get k_X10_told_2 7 rfl) vk_X10_236 (t_X10_packed C.tr _ _ T79 _ _ _ _ _ hr_17) T69 rfl rfl (Nat.le_of_ble_eq_true rfl) (by decide) hB rfl ?_
                cases hf
                exact g_lret C (ckD_get k_X10_told_2 8 rfl) hr hRv (Nat.le_refl _) (Nat.le_refl _)
              · have hf := if_f hf c_16
                by_cases c_19 : a1 = (5 : Int32)
                · have hf := if_t hf c_19
                  refine g_tabIn (t := 197) C (ckD_get k_X10_told_1 3 rfl) (by rw [c_19]; decide) (by rw [c_19]; decide) (by rw [c_19] <;> rfl) (by decide) ?_
                  refine g_aload_n 1 C (ckD_get k_X10_told_2 9 rfl) rfl rfl ?_
                  refine g_aload_n 1 C (ckD_get k_X10_told_2 10 rfl) rfl rfl ?_
                  refine g_getR C (ckD_get k_X10_told_2 11 rfl) fk_X10_45 T69 rfl ?_
                  refine g_iconst (v := (0 : Int32)) C (ckD_get k_X10_told_2 12 rfl) (by decide) ?_
                  refine g_aload_n 1 C (ckD_get k_X10_told_2 13 rfl) rfl rfl ?_
                  refine g_getI C (ckD_get k_X10_told_2 14 rfl) fk_X10_124 T69 rfl ?_
                  refine g_bipush (v := (16 : Int32)) C (ckD_get k_X10_told_2 15 rfl) (by decide) ?_
                  obtain ⟨r_21, hr_20, hf⟩ := bd_e hf
                  refine n_cV [.ref (K.2.1.1 + 80), .int (0 : Int32), .int (M_1.1 69 1), .int (16 : Int32)] [] C (ckD_get k_X10_told_2 16 rfl) vk_X10_236 (t_X10_packed C.tr _ _ T80 _ _ _ _ _ hr_20) T69 rfl rfl (Nat.le_of_ble_eq_true rfl) (by decide) hB rfl ?_
                  cases hf
                  exact g_lret C (ckD_get k_X10_told_2 17 rfl) hr hRv (Nat.le_refl _) (Nat.le_refl _)
                · have hf := if_f hf c_19
                  have ic_4 := i32_ne (n := 0) c_4 (by decide)
                  have ic_7 := i32_ne (n := 1) c_7 (by decide)
                  have ic_10 := i32_ne (n := 2) c_10 (by decide)
                  have ic_13 := i32_ne (n := 3) c_13 (by decide)
                  have ic_16 := i32_ne (n := 4) c_16 (by decide)
                  have ic_19 := i32_ne (n := 5) c_19 (by decide)
                  refine g_tabOut (t := 213) C (ckD_get k_X10_told_1 3 rfl) (by omega) (by decide) ?_
                  refine g_aload_n 1 C (ckD_get k_X10_told_2 18 rfl) rfl rfl ?_
                  refine g_getI C (ckD_get k_X10_told_2 19 rfl) fk_X10_198 T69 rfl ?_
                  refine g_i2l C (ckD_get k_X10_told_2 20 rfl) ?_
                  cases hf
                  exact g_lret C (ckD_get k_X10_told_2 21 rfl) hr hRv (Nat.le_refl _) (Nat.le_refl _)
    · have hf := if_t hf c_3
      refine g_aload_n 1 C (ckD_get k_X10_told_0 38 rfl) rfl rfl ?_
      obtain ⟨z_24, ez_24, hf⟩ := lt_e hf
      refine n_cV [] [] C (ckD_get k_X10_told_0 39 rfl) vk_X10_134 (t_X10_fail C.tr _ _ ez_24) T69 rfl rfl (Nat.le_of_ble_eq_true rfl) (by decide) hB rfl ?_
      refine g_i2l C (ckD_get k_X10_told_1 0 rfl) ?_
      cases hf
      exact g_lret C (ckD_get k_X10_told_1 1 rfl) hr hRv (Nat.le_refl _) (Nat.le_refl _)
  have hJ_59 : ∀ (_ : Unit), f_X10_told_J59 a1 M_1 () = some r → G K (0, 0) 59 [(0, .ref (K.2.1.1 + 69)), (1, .int a1)] [] M_1 := by
    intro _ hf
    unfold f_X10_told_J59 at hf
    refine g_iconst (v := (1 : Int32)) C (ckD_get k_X10_told_0 32 rfl) (by decide) ?_
    refine g_goto C (ckD_get k_X10_told_0 33 rfl) ?_
    exact hJ_64 _ hf
  have hJ_22 : ∀ (_ : Unit), f_X10_told_J22 a1 M_1 () = some r → G K (0, 0) 22 [(0, .ref (K.2.1.1 + 69)), (1, .int a1)] [] M_1 := by
    intro _ hf
    unfold f_X10_told_J22 at hf
    refine g_aload_n 0 C (ckD_get k_X10_told_0 12 rfl) rfl rfl ?_
    refine g_getI C (ckD_get k_X10_told_0 13 rfl) fk_X10_23 T69 rfl ?_
    refine g_iconst (v := (2 : Int32)) C (ckD_get k_X10_told_0 14 rfl) (by decide) ?_
    have hJ_40 : ∀ (_ : Unit), f_X10_told_J40 a1 M_1 () = some r → G K (0, 0) 40 [(0, .ref (K.2.1.1 + 69)), (1, .int a1)] [] M_1 := by
      intro _ hf
      unfold f_X10_told_J40 at hf
      refine g_aload_n 0 C (ckD_get k_X10_told_0 22 rfl) rfl rfl ?_
      refine g_getI C (ckD_get k_X10_told_0 23 rfl) fk_X10_23 T69 rfl ?_
      refine g_iconst (v := (3 : Int32)) C (ckD_get k_X10_told_0 24 rfl) (by decide) ?_
      have hJ_63 : ∀ (_ : Unit), f_X10_told_J63 a1 M_1 () = some r → G K (0, 0) 63 [(0, .ref (K.2.1.1 + 69)), (1, .int a1)] [] M_1 := by
        intro _ hf
        unfold f_X10_told_J63 at hf
        refine g_iconst (v := (0 : Int32)) C (ckD_get k_X10_told_0 34 rfl) (by decide) ?_
        exact hJ_64 _ hf
      refine g_icmp_ne C (ckD_get k_X10_told_0 25 rfl) (fun c_25 => ?_) (fun c_25 => ?_)
      · have hf := if_f hf c_25
        exact hJ_63 () hf
      · have hf := if_t hf c_25
        refine g_iload_n 1 C (ckD_get k_X10_told_0 26 rfl) rfl rfl ?_
        refine g_iconst (v := (4 : Int32)) C (ckD_get k_X10_told_0 27 rfl) (by decide) ?_
        refine g_icmp_lt C (ckD_get k_X10_told_0 28 rfl) (fun c_26 => ?_) (fun c_26 => ?_)
        · have hf := if_t hf c_26
          exact hJ_63 () hf
        · have hf := if_f hf c_26
          refine g_iload_n 1 C (ckD_get k_X10_told_0 29 rfl) rfl rfl ?_
          refine g_bipush (v := (6 : Int32)) C (ckD_get k_X10_told_0 30 rfl) (by decide) ?_
          refine g_icmp_gt C (ckD_get k_X10_told_0 31 rfl) (fun c_27 => ?_) (fun c_27 => ?_)
          · have hf := if_t hf c_27
            exact hJ_63 () hf
          · have hf := if_f hf c_27
            exact hJ_59 () hf
    refine g_icmp_ne C (ckD_get k_X10_told_0 15 rfl) (fun c_28 => ?_) (fun c_28 => ?_)
    · have hf := if_f hf c_28
      exact hJ_40 () hf
    · have hf := if_t hf c_28
      refine g_iload_n 1 C (ckD_get k_X10_told_0 16 rfl) rfl rfl ?_
      refine g_iconst (v := (2 : Int32)) C (ckD_get k_X10_told_0 17 rfl) (by decide) ?_
      refine g_icmp_eq C (ckD_get k_X10_told_0 18 rfl) (fun c_29 => ?_) (fun c_29 => ?_)
      · have hf := if_t hf c_29
        exact hJ_59 () hf
      · have hf := if_f hf c_29
        refine g_iload_n 1 C (ckD_get k_X10_told_0 19 rfl) rfl rfl ?_
        refine g_iconst (v := (3 : Int32)) C (ckD_get k_X10_told_0 20 rfl) (by decide) ?_
        refine g_icmp_eq C (ckD_get k_X10_told_0 21 rfl) (fun c_30 => ?_) (fun c_30 => ?_)
        · have hf := if_t hf c_30
          exact hJ_59 () hf
        · have hf := if_f hf c_30
          exact hJ_40 () hf
  refine g_icmp_ne C (ckD_get k_X10_told_0 6 rfl) (fun c_31 => ?_) (fun c_31 => ?_)
  · have hf := if_f hf c_31
    exact hJ_22 () hf
  · have hf := if_t hf c_31
    refine g_iload_n 1 C (ckD_get k_X10_told_0 7 rfl) rfl rfl ?_
    refine g_if_eq C (ckD_get k_X10_told_0 8 rfl) (fun c_32 => ?_) (fun c_32 => ?_)
    · have hf := if_t hf c_32
      exact hJ_59 () hf
    · have hf := if_f hf c_32
      refine g_iload_n 1 C (ckD_get k_X10_told_0 9 rfl) rfl rfl ?_
      refine g_iconst (v := (1 : Int32)) C (ckD_get k_X10_told_0 10 rfl) (by decide) ?_
      refine g_icmp_eq C (ckD_get k_X10_told_0 11 rfl) (fun c_33 => ?_) (fun c_33 => ?_)
      · have hf := if_t hf c_33
        exact hJ_59 () hf
      · have hf := if_f hf c_33
        exact hJ_22 () hf
