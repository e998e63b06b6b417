set_option maxRecDepth 20000 in
theorem k_X10_tellPart_0 : ckD cX10_tellPart [(0, .aload_n 0, 1, 1, 0), (1, .getfield 87, 3, 4, 0), (4, .iload_n 1, 1, 5, 0), (5, .iaload, 1, 6, 0), (6, .bipush 12, 2, 8, 0), (8, .if_icmp .ge 29, 3, 11, 37), (11, .aload_n 0, 1, 12, 0), (12, .getfield 54, 3, 15, 0), (15, .aload_n 0, 1, 16, 0), (16, .getfield 258, 3, 19, 0), (19, .aload_n 0, 1, 20, 0), (20, .getfield 87, 3, 23, 0), (23, .iload_n 1, 1, 24, 0), (24, .iaload, 1, 25, 0), (25, .iastore, 1, 26, 0), (26, .aload_n 0, 1, 27, 0), (27, .dup, 1, 28, 0), (28, .getfield 258, 3, 31, 0), (31, .iconst 1, 1, 32, 0), (32, .iadd, 1, 33, 0), (33, .putfield 258, 3, 36, 0), (36, .return_, 1, 37, 0), (37, .aload_n 0, 1, 38, 0), (38, .iload_n 1, 1, 39, 0), (39, .aload_n 0, 1, 40, 0), (40, .getfield 87, 3, 43, 0), (43, .iload_n 1, 1, 44, 0), (44, .iaload, 1, 45, 0), (45, .iconst 1, 1, 46, 0), (46, .invokevirtual 261, 3, 49, 0), (49, .return_, 1, 50, 0)] = true := by decide +kernel
def f_X10_tellPart_B (F : Int32 → Int32 → Int32 → Mm → Option Mm) (a1 : Int32) (M : Mm) : Option Mm := rdI 23 M 94 a1 fun v_1 => if (12 : Int32) ≤ v_1 then rdI 23 M 94 a1 fun v_4 => (F a1 v_4 (1 : Int32) M).bind fun M_7 => some M_7 else rdI 23 M 94 a1 fun v_8 => wrI 23 M 83 (M.1 69 38) v_8 fun M_10 => lt1 (wi M_10 69 38 ((M_10.1 69 38) + (1 : Int32))) fun M_12 => some M_12
set_option maxRecDepth 100000 in
set_option maxHeartbeats 4000000 in
theorem t_X10_tellPart_B {E : Ev} {l : Launch} (htr : l.stackTraces = false) (F : Int32 → Int32 → Int32 → Mm → Option Mm) (d9 : Nat) (ih : ∀ (a1 : Int32) (a2 : Int32) (a3 : Int32) (M : Mm) (r : Mm), F a1 a2 a3 M = some r → CM E l d9 0 0 yX10_tellChain cX10_tellChain 4 none [.ref (E.1 + 69), .int a1, .int a2, .int a3] M none r) (a1 : Int32) (M : Mm) (r : Mm) (hf : f_X10_tellPart_B F a1 M = some r) : CM E l (d9 + 1) 0 0 yX10_tellPart cX10_tellPart 2 none [.ref (E.1 + 69), .int a1] M none r := by
  refine CM.of htr (by decide +kernel) (Nat.le_of_ble_eq_true rfl) ?_
  intro K hE hL hl hR0 C hr hRv
  subst hE
  subst hl
  have C : Cx K cX10_tellPart RX10 (d9 + 1) := C
  have hB : (0 : Nat) ≤ K.1.R.cells ∧ 0 ≤ K.1.R.slots := ⟨Nat.zero_le _, Nat.zero_le _⟩
  show G K (0, 0) 0 [(0, .ref (K.2.1.1 + 69)), (1, .int a1)] [] M
  unfold f_X10_tellPart_B at hf
  refine g_aload_n 0 C (ckD_get k_X10_tellPart_0 0 rfl) rfl rfl ?_
  refine g_getR C (ckD_get k_X10_tellPart_0 1 rfl) fk_X10_87 T69 rfl ?_
  refine g_iload_n 1 C (ckD_get k_X10_tellPart_0 2 rfl) rfl rfl ?_
  obtain ⟨v_1, hi_2, ev_1, hf⟩ := rdI_e hf
  refine n_iald C (ckD_get k_X10_tellPart_0 3 rfl) T94 hi_2 ev_1 ?_
  refine g_bipush (v := (12 : Int32)) C (ckD_get k_X10_tellPart_0 4 rfl) (by decide) ?_
  refine g_icmp_ge C (ckD_get k_X10_tellPart_0 5 rfl) (fun c_3 => ?_) (fun c_3 => ?_)
  · have hf := if_t hf c_3
    refine g_aload_n 0 C (ckD_get k_X10_tellPart_0 22 rfl) rfl rfl ?_
    refine g_iload_n 1 C (ckD_get k_X10_tellPart_0 23 rfl) rfl rfl ?_
    refine g_aload_n 0 C (ckD_get k_X10_tellPart_0 24 rfl) rfl rfl ?_
    refine g_getR C (ckD_get k_X10_tellPart_0 25 rfl) fk_X10_87 T69 rfl ?_
    refine g_iload_n 1 C (ckD_get k_X10_tellPart_0 26 rfl) rfl rfl ?_
    obtain ⟨v_4, hi_5, ev_4, hf⟩ := rdI_e hf
    refine n_iald C (ckD_get k_X10_tellPart_0 27 rfl) T94 hi_5 ev_4 ?_
    refine g_iconst (v := (1 : Int32)) C (ckD_get k_X10_tellPart_0 28 rfl) (by decide) ?_
    obtain ⟨M_7, hr_6, hf⟩ := bd_e hf
    refine n_cV [.int a1, .int v_4, .int (1 : Int32)] [] C (ckD_get k_X10_tellPart_0 29 rfl) vk_X10_261 (ih _ _ _ _ _ hr_6) T69 rfl rfl (Nat.le_of_ble_eq_true rfl) (by omega) hB rfl ?_
    cases hf
    exact g_vret C (ckD_get k_X10_tellPart_0 30 rfl) hr hRv (Nat.le_refl _) (Nat.le_refl _)
  · have hf := if_f hf c_3
    refine g_aload_n 0 C (ckD_get k_X10_tellPart_0 6 rfl) rfl rfl ?_
    refine g_getR C (ckD_get k_X10_tellPart_0 7 rfl) fk_X10_54 T69 rfl ?_
    refine g_aload_n 0 C (ckD_get k_X10_tellPart_0 8 rfl) rfl rfl ?_
    refine g_getI C (ckD_get k_X10_tellPart_0 9 rfl) fk_X10_258 T69 rfl ?_
    refine g_aload_n 0 C (ckD_get k_X10_tellPart_0 10 rfl) rfl rfl ?_
    refine g_getR C (ckD_get k_X10_tellPart_0 11 rfl) fk_X10_87 T69 rfl ?_
    refine g_iload_n 1 C (ckD_get k_X10_tellPart_0 12 rfl) rfl rfl ?_
    obtain ⟨v_8, hi_9, ev_8, hf⟩ := rdI_e hf
    refine n_iald C (ckD_get k_X10_tellPart_0 13 rfl) T94 hi_9 ev_8 ?_
    obtain ⟨M_10, hi_11, eM_10, hf⟩ := wrI_e hf
    refine n_iast C (ckD_get k_X10_tellPart_0 14 rfl) T83 hi_11 eM_10 ?_
    refine g_aload_n 0 C (ckD_get k_X10_tellPart_0 15 rfl) rfl rfl ?_
    refine g_dup C (ckD_get k_X10_tellPart_0 16 rfl) rfl ?_
    refine g_getI C (ckD_get k_X10_tellPart_0 17 rfl) fk_X10_258 T69 rfl ?_
    refine g_iconst (v := (1 : Int32)) C (ckD_get k_X10_tellPart_0 18 rfl) (by decide) ?_
    refine g_iadd C (ckD_get k_X10_tellPart_0 19 rfl) ?_
    obtain ⟨M_12, eM_12, hf⟩ := lt_e hf
    refine g_putI C (ckD_get k_X10_tellPart_0 20 rfl) fk_X10_258 T69 rfl ?_
    refine memI eM_12 ?_
    cases hf
    exact g_vret C (ckD_get k_X10_tellPart_0 21 rfl) hr hRv (Nat.le_refl _) (Nat.le_refl _)

set_option maxRecDepth 20000 in
theorem k_X10_tellChain_0 : ckD cX10_tellChain [(0, .aload_n 0, 1, 1, 0), (1, .getfield 87, 3, 4, 0), (4, .iload_n 1, 1, 5, 0), (5, .iaload, 1, 6, 0), (6, .iload_n 2, 1, 7, 0), (7, .if_icmp .ne 28, 3, 10, 35), (10, .aload_n 0, 1, 11, 0), (11, .aload_n 0, 1, 12, 0), (12, .getfield 66, 3, 15, 0), (15, .iload_n 1, 1, 16, 0), (16, .iaload, 1, 17, 0), (17, .iload_n 2, 1, 18, 0), (18, .iload_n 3, 1, 19, 0), (19, .invokevirtual 261, 3, 22, 0), (22, .aload_n 0, 1, 23, 0), (23, .aload_n 0, 1, 24, 0), (24, .getfield 69, 3, 27, 0), (27, .iload_n 1, 1, 28, 0), (28, .iaload, 1, 29, 0), (29, .iload_n 2, 1, 30, 0), (30, .iconst 0, 1, 31, 0), (31, .invokevirtual 261, 3, 34, 0), (34, .return_, 1, 35, 0), (35, .aload_n 0, 1, 36, 0), (36, .iload_n 1, 1, 37, 0), (37, .invokevirtual 265, 3, 40, 0), (40, .iload_n 3, 1, 41, 0), (41, .ifCond .ne 23, 3, 44, 64), (44, .aload_n 0, 1, 45, 0), (45, .getfield 54, 3, 48, 0), (48, .aload_n 0, 1, 49, 0), (49, .getfield 258, 3, 52, 0), (52, .iload_n 2, 1, 53, 0), (53, .iastore, 1, 54, 0), (54, .aload_n 0, 1, 55, 0), (55, .dup, 1, 56, 0), (56, .getfield 258, 3, 59, 0), (59, .iconst 1, 1, 60, 0), (60, .iadd, 1, 61, 0), (61, .putfield 258, 3, 64, 0)] = true := by decide +kernel
set_option maxRecDepth 20000 in
theorem k_X10_tellChain_1 : ckD cX10_tellChain [(64, .return_, 1, 65, 0)] = true := by decide +kernel
def f_X10_tellChain_B (F : Int32 → Int32 → Int32 → Mm → Option Mm) (a1 : Int32) (a2 : Int32) (a3 : Int32) (M : Mm) : Option Mm := rdI 23 M 94 a1 fun v_1 => if v_1 = a2 then rdI 23 M 87 a1 fun v_10 => (F v_10 a2 a3 M).bind fun M_13 => rdI 23 M_13 88 a1 fun v_14 => (F v_14 a2 (0 : Int32) M_13).bind fun M_17 => some M_17 else (f_X10_tellPart_B F a1 M).bind fun M_5 => if a3 = 0 then wrI 23 M_5 83 (M_5.1 69 38) a2 fun M_7 => lt1 (wi M_7 69 38 ((M_7.1 69 38) + (1 : Int32))) fun M_9 => some M_9 else some M_5
def f_X10_tellChain : Nat → Int32 → Int32 → Int32 → Mm → Option Mm
  | 0 => fun _ _ _ _ => none
  | n + 1 => f_X10_tellChain_B (f_X10_tellChain n)
set_option maxRecDepth 100000 in
set_option maxHeartbeats 4000000 in
theorem t_X10_tellChain {E : Ev} {l : Launch} (htr : l.stackTraces = false) : ∀ (n : Nat) (a1 : Int32) (a2 : Int32) (a3 : Int32) (M : Mm) (r : Mm), f_X10_tellChain n a1 a2 a3 M = some r → CM E l (1 + 2 * n) 0 0 yX10_tellChain cX10_tellChain 4 none [.ref (E.1 + 69), .int a1, .int a2, .int a3] M none r := by
  intro n
  induction n with
  | zero => intro a1 a2 a3 M r hf; cases hf
  | succ n ih =>
    intro a1 a2 a3 M r hf
    have hf : f_X10_tellChain_B (f_X10_tellChain n) a1 a2 a3 M = some r := hf
    generalize f_X10_tellChain n = F at hf ih
    refine CM.of htr (by decide +kernel) (Nat.le_of_ble_eq_true rfl) ?_
    intro K hE hL hl hR0 C hr hRv
    subst hE
    subst hl
    have C : Cx K cX10_tellChain RX10 (1 + 2 * (n + 1)) := C
    have hB : (0 : Nat) ≤ K.1.R.cells ∧ 0 ≤ K.1.R.slots := ⟨Nat.zero_le _, Nat.zero_le _⟩
    show G K (0, 0) 0 [(0, .ref (K.2.1.1 + 69)), (1, .int a1), (2, .int a2), (3, .int a3)] [] M
    unfold f_X10_tellChain_B at hf
    refine g_aload_n 0 C (ckD_get k_X10_tellChain_0 0 rfl) rfl rfl ?_
    refine g_getR C (ckD_get k_X10_tellChain_0 1 rfl) fk_X10_87 T69 rfl ?_
    refine g_iload_n 1 C (ckD_get k_X10_tellChain_0 2 rfl) rfl rfl ?_
    obtain ⟨v_1, hi_2, ev_1, hf⟩ := rdI_e hf
    refine n_iald C (ckD_get k_X10_tellChain_0 3 rfl) T94 hi_2 ev_1 ?_
    refine g_iload_n 2 C (ckD_get k_X10_tellChain_0 4 rfl) rfl rfl ?_
    refine g_icmp_ne C (ckD_get k_X10_tellChain_0 5 rfl) (fun c_3 => ?_) (fun c_3 => ?_)
    · have hf := if_f hf c_3
      refine g_aload_n 0 C (ckD_get k_X10_tellChain_0 23 rfl) rfl rfl ?_
      refine g_iload_n 1 C (ckD_get k_X10_tellChain_0 24 rfl) rfl rfl ?_
      obtain ⟨M_5, hr_4, hf⟩ := bd_e hf
      refine n_cV [.int a1] [] C (ckD_get k_X10_tellChain_0 25 rfl) vk_X10_265 (t_X10_tellPart_B C.tr F _ ih _ _ _ hr_4) T69 rfl rfl (Nat.le_of_ble_eq_true rfl) (by omega) hB rfl ?_
      refine g_iload_n 3 C (ckD_get k_X10_tellChain_0 26 rfl) rfl rfl ?_
      refine g_if_ne C (ckD_get k_X10_tellChain_0 27 rfl) (fun c_6 => ?_) (fun c_6 => ?_)
      · have hf := if_f hf c_6
        cases hf
        exact g_vret C (ckD_get k_X10_tellChain_1 0 rfl) hr hRv (Nat.le_refl _) (Nat.le_refl _)
      · have hf := if_t hf c_6
        refine g_aload_n 0 C (ckD_get k_X10_tellChain_0 28 rfl) rfl rfl ?_
        refine g_getR C (ckD_get k_X10_tellChain_0 29 rfl) fk_X10_54 T69 rfl ?_
        refine g_aload_n 0 C (ckD_get k_X10_tellChain_0 30 rfl) rfl rfl ?_
        refine g_getI C (ckD_get k_X10_tellChain_0 31 rfl) fk_X10_258 T69 rfl ?_
        refine g_iload_n 2 C (ckD_get k_X10_tellChain_0 32 rfl) rfl rfl ?_
        obtain ⟨M_7, hi_8, eM_7, hf⟩ := wrI_e hf
        refine n_iast C (ckD_get k_X10_tellChain_0 33 rfl) T83 hi_8 eM_7 ?_
        refine g_aload_n 0 C (ckD_get k_X10_tellChain_0 34 rfl) rfl rfl ?_
        refine g_dup C (ckD_get k_X10_tellChain_0 35 rfl) rfl ?_
        refine g_getI C (ckD_get k_X10_tellChain_0 36 rfl) fk_X10_258 T69 rfl ?_
        refine g_iconst (v := (1 : Int32)) C (ckD_get k_X10_tellChain_0 37 rfl) (by decide) ?_
        refine g_iadd C (ckD_get k_X10_tellChain_0 38 rfl) ?_
        obtain ⟨M_9, eM_9, hf⟩ := lt_e hf
        refine g_putI C (ckD_get k_X10_tellChain_0 39 rfl) fk_X10_258 T69 rfl ?_
        refine memI eM_9 ?_
        cases hf
        exact g_vret C (ckD_get k_X10_tellChain_1 0 rfl) hr hRv (Nat.le_refl _) (Nat.le_refl _)
    · have hf := if_t hf c_3
      refine g_aload_n 0 C (ckD_get k_X10_tellChain_0 6 rfl) rfl rfl ?_
      refine g_aload_n 0 C (ckD_get k_X10_tellChain_0 7 rfl) rfl rfl ?_
      refine g_getR C (ckD_get k_X10_tellChain_0 8 rfl) fk_X10_66 T69 rfl ?_
      refine g_iload_n 1 C (ckD_get k_X10_tellChain_0 9 rfl) rfl rfl ?_
      obtain ⟨v_10, hi_11, ev_10, hf⟩ := rdI_e hf
      refine n_iald C (ckD_get k_X10_tellChain_0 10 rfl) T87 hi_11 ev_10 ?_
      refine g_iload_n 2 C (ckD_get k_X10_tellChain_0 11 rfl) rfl rfl ?_
      refine g_iload_n 3 C (ckD_get k_X10_tellChain_0 12 rfl) rfl rfl ?_
      obtain ⟨M_13, hr_12, hf⟩ := bd_e hf
      refine n_cV [.int v_10, .int a2, .int a3] [] C (ckD_get k_X10_tellChain_0 13 rfl) vk_X10_261 (ih _ _ _ _ _ hr_12) T69 rfl rfl (Nat.le_of_ble_eq_true rfl) (by omega) hB rfl ?_
      refine g_aload_n 0 C (ckD_get k_X10_tellChain_0 14 rfl) rfl rfl ?_
      refine g_aload_n 0 C (ckD_get k_X10_tellChain_0 15 rfl) rfl rfl ?_
      refine g_getR C (ckD_get k_X10_tellChain_0 16 rfl) fk_X10_69 T69 rfl ?_
      refine g_iload_n 1 C (ckD_get k_X10_tellChain_0 17 rfl) rfl rfl ?_
      obtain ⟨v_14, hi_15, ev_14, hf⟩ := rdI_e hf
      refine n_iald C (ckD_get k_X10_tellChain_0 18 rfl) T88 hi_15 ev_14 ?_
      refine g_iload_n 2 C (ckD_get k_X10_tellChain_0 19 rfl) rfl rfl ?_
      refine g_iconst (v := (0 : Int32)) C (ckD_get k_X10_tellChain_0 20 rfl) (by decide) ?_
      obtain ⟨M_17, hr_16, hf⟩ := bd_e hf
      refine n_cV [.int v_14, .int a2, .int (0 : Int32)] [] C (ckD_get k_X10_tellChain_0 21 rfl) vk_X10_261 (ih _ _ _ _ _ hr_16) T69 rfl rfl (Nat.le_of_ble_eq_true rfl) (by omega) hB rfl ?_
      cases hf
      exact g_vret C (ckD_get k_X10_tellChain_0 22 rfl) hr hRv (Nat.le_refl _) (Nat.le_refl _)
def f_X10_tellPart (a1 : Int32) (M : Mm) : Option Mm := f_X10_tellPart_B (f_X10_tellChain 60) a1 M
theorem t_X10_tellPart {E : Ev} {l : Launch} (htr : l.stackTraces = false) (a1 : Int32) (M : Mm) (r : Mm) (hf : f_X10_tellPart a1 M = some r) : CM E l 122 0 0 yX10_tellPart cX10_tellPart 2 none [.ref (E.1 + 69), .int a1] M none r := t_X10_tellPart_B htr (f_X10_tellChain 60) _ (t_X10_tellChain htr 60) a1 M r hf

set_option maxRecDepth 20000 in
theorem k_X10_normal_0 : ckD cX10_normal [(0, .aload_n 0, 1, 1, 0), (1, .iconst 0, 1, 2, 0), (2, .putfield 121, 3, 5, 0), (5, .aload_n 0, 1, 6, 0), (6, .getfield 23, 3, 9, 0), (9, .iconst 2, 1, 10, 0), (10, .if_icmp .eq 8, 3, 13, 18), (13, .aload_n 0, 1, 14, 0), (14, .invokevirtual 134, 3, 17, 0), (17, .ireturn, 1, 18, 0), (18, .aload_n 0, 1, 19, 0), (19, .aload_n 0, 1, 20, 0), (20, .getfield 39, 3, 23, 0), (23, .invokevirtual 178, 3, 26, 0), (26, .aload_n 0, 1, 27, 0), (27, .iconst 0, 1, 28, 0), (28, .putfield 258, 3, 31, 0), (31, .aload_n 0, 1, 32, 0), (32, .aload_n 0, 1, 33, 0), (33, .invokevirtual 175, 3, 36, 0), (36, .iconst 1, 1, 37, 0), (37, .isub, 1, 38, 0), (38, .invokevirtual 265, 3, 41, 0), (41, .iconst 0, 1, 42, 0), (42, .istore_n 1, 1, 43, 0), (43, .iconst 0, 1, 44, 0), (44, .istore_n 2, 1, 45, 0), (45, .iload_n 2, 1, 46, 0), (46, .aload_n 0, 1, 47, 0), (47, .invokevirtual 175, 3, 50, 0), (50, .if_icmp .ge 39, 3, 53, 89), (53, .aload_n 0, 1, 54, 0), (54, .getfield 54, 3, 57, 0), (57, .iload_n 2, 1, 58, 0), (58, .iaload, 1, 59, 0), (59, .aload_n 0, 1, 60, 0), (60, .getfield 39, 3, 63, 0), (63, .iload_n 2, 1, 64, 0), (64, .iaload, 1, 65, 0), (65, .if_icmp .eq 6, 3, 68, 71)] = true := by decide +kernel
set_option maxRecDepth 20000 in
theorem k_X10_normal_1 : ckD cX10_normal [(68, .iinc 1 1, 3, 71, 0), (71, .aload_n 0, 1, 72, 0), (72, .getfield 39, 3, 75, 0), (75, .iload_n 2, 1, 76, 0), (76, .aload_n 0, 1, 77, 0), (77, .getfield 54, 3, 80, 0), (80, .iload_n 2, 1, 81, 0), (81, .iaload, 1, 82, 0), (82, .iastore, 1, 83, 0), (83, .iinc 2 1, 3, 86, 0), (86, .goto (-41), 3, 89, 45), (89, .iload_n 1, 1, 90, 0), (90, .ireturn, 1, 91, 0)] = true := by decide +kernel
def f_X10_normal_A45 (x1_11 : Int32) (M_12 : Mm) : Option (Int32 × Mm) := some (x1_11, M_12)
def f_X10_normal_J71 (x2_9 : Int32) (M_10 : Mm) (p1_18 : Int32) : Option ((Int32 × Int32 × Mm) ⊕ (Int32 × Mm)) := rdI 23 M_10 83 x2_9 fun v_19 => wrI 23 M_10 78 x2_9 v_19 fun M_21 => lt1 (x2_9 + 1) fun x2_23 => some (.inl (p1_18, x2_23, M_21))
def f_X10_normal_L45 (x1_8 : Int32) (x2_9 : Int32) (M_10 : Mm) : Option ((Int32 × Int32 × Mm) ⊕ (Int32 × Mm)) := if (f_X10_rowSize M_10) ≤ x2_9 then some (.inr (x1_8, M_10)) else rdI 23 M_10 83 x2_9 fun v_14 => rdI 23 M_10 78 x2_9 fun v_16 => if v_14 = v_16 then f_X10_normal_J71 x2_9 M_10 x1_8 else lt1 (x1_8 + 1) fun x1_25 => f_X10_normal_J71 x2_9 M_10 x1_25
def f_X10_normal  (M : Mm) : Option (Int32 × Mm) := lt1 (wi M 69 0 (0 : Int32)) fun M_1 => if (M_1.1 69 6) = (2 : Int32) then (f_X10_makeParts 78 M_1).bind fun M_4 => lt1 (wi M_4 69 38 (0 : Int32)) fun M_5 => (f_X10_tellPart ((f_X10_rowSize M_5) - (1 : Int32)) M_5).bind fun M_7 => (loop (fun v => f_X10_normal_L45 v.1 v.2.1 v.2.2) FU ((0 : Int32), (0 : Int32), M_7)).bind fun z => f_X10_normal_A45 z.1 z.2 else lt1 (f_X10_fail M_1) fun z_28 => some (z_28.1, z_28.2)
set_option maxRecDepth 100000 in
set_option maxHeartbeats 4000000 in
theorem t_X10_normal {E : Ev} {l : Launch} (htr : l.stackTraces = false) (M : Mm) (r : (Int32 × Mm)) (hf : f_X10_normal M = some r) : CM E l 123 0 0 yX10_normal cX10_normal 3 (some .int) [.ref (E.1 + 69)] M (some (.int r.1)) r.2 := by
  refine CM.of htr (by decide +kernel) (Nat.le_of_ble_eq_true rfl) ?_
  intro K hE hL hl hR0 C hr hRv
  subst hE
  subst hl
  have C : Cx K cX10_normal RX10 123 := C
  have hB : (0 : Nat) ≤ K.1.R.cells ∧ 0 ≤ K.1.R.slots := ⟨Nat.zero_le _, Nat.zero_le _⟩
  have hL1 : 1 < K.2.2.1 := by rw [hL]; decide
  have hL2 : 2 < K.2.2.1 := by rw [hL]; decide
  show G K (0, 0) 0 [(0, .ref (K.2.1.1 + 69))] [] M
  unfold f_X10_normal at hf
  refine g_aload_n 0 C (ckD_get k_X10_normal_0 0 rfl) rfl rfl ?_
  refine g_iconst (v := (0 : Int32)) C (ckD_get k_X10_normal_0 1 rfl) (by decide) ?_
  obtain ⟨M_1, eM_1, hf⟩ := lt_e hf
  refine g_putI C (ckD_get k_X10_normal_0 2 rfl) fk_X10_121 T69 rfl ?_
  refine memI eM_1 ?_
  refine g_aload_n 0 C (ckD_get k_X10_normal_0 3 rfl) rfl rfl ?_
  refine g_getI C (ckD_get k_X10_normal_0 4 rfl) fk_X10_23 T69 rfl ?_
  refine g_iconst (v := (2 : Int32)) C (ckD_get k_X10_normal_0 5 rfl) (by decide) ?_
  refine g_icmp_eq C (ckD_get k_X10_normal_0 6 rfl) (fun c_2 => ?_) (fun c_2 => ?_)
  · have hf := if_t hf c_2
    refine g_aload_n 0 C (ckD_get k_X10_normal_0 10 rfl) rfl rfl ?_
    refine g_aload_n 0 C (ckD_get k_X10_normal_0 11 rfl) rfl rfl ?_
    refine g_getR C (ckD_get k_X10_normal_0 12 rfl) fk_X10_39 T69 rfl ?_
    obtain ⟨M_4, hr_3, hf⟩ := bd_e hf
    refine n_cV [.ref (K.2.1.1 + 78)] [] C (ckD_get k_X10_normal_0 13 rfl) vk_X10_178 (t_X10_makeParts C.tr _ T78 _ _ hr_3) T69 rfl rfl (Nat.le_of_ble_eq_true rfl) (by decide) hB rfl ?_
    refine g_aload_n 0 C (ckD_get k_X10_normal_0 14 rfl) rfl rfl ?_
    refine g_iconst (v := (0 : Int32)) C (ckD_get k_X10_normal_0 15 rfl) (by decide) ?_
    obtain ⟨M_5, eM_5, hf⟩ := lt_e hf
    refine g_putI C (ckD_get k_X10_normal_0 16 rfl) fk_X10_258 T69 rfl ?_
    refine memI eM_5 ?_
    refine g_aload_n 0 C (ckD_get k_X10_normal_0 17 rfl) rfl rfl ?_
    refine g_aload_n 0 C (ckD_get k_X10_normal_0 18 rfl) rfl rfl ?_
    refine n_cV [] [.ref (K.2.1.1 + 69)] C (ckD_get k_X10_normal_0 19 rfl) vk_X10_175 (t_X10_rowSize C.tr _ _ rfl) T69 rfl rfl (Nat.le_of_ble_eq_true rfl) (by decide) hB rfl ?_
    refine g_iconst (v := (1 : Int32)) C (ckD_get k_X10_normal_0 20 rfl) (by decide) ?_
    refine g_isub C (ckD_get k_X10_normal_0 21 rfl) ?_
    obtain ⟨M_7, hr_6, hf⟩ := bd_e hf
    refine n_cV [.int ((f_X10_rowSize M_5) - (1 : Int32))] [] C (ckD_get k_X10_normal_0 22 rfl) vk_X10_265 (t_X10_tellPart C.tr _ _ _ hr_6) T69 rfl rfl (Nat.le_of_ble_eq_true rfl) (by decide) hB rfl ?_
    refine g_iconst (v := (0 : Int32)) C (ckD_get k_X10_normal_0 23 rfl) (by decide) ?_
    refine g_istore_n (lv' := [(1, _), (0, _)]) C (ckD_get k_X10_normal_0 24 rfl) rfl hL1 rfl ?_
    refine g_iconst (v := (0 : Int32)) C (ckD_get k_X10_normal_0 25 rfl) (by decide) ?_
    refine g_istore_n (lv' := [(2, _), (1, _), (0, _)]) C (ckD_get k_X10_normal_0 26 rfl) rfl hL2 rfl ?_
    refine G.sub [2, 1, 0] rfl ?_
    obtain ⟨xx_45, hx_45, hf⟩ := bd_e hf
    obtain ⟨x1_11, M_12⟩ := xx_45
    have hE_45 : G K (0, 0) 89 [(1, .int x1_11)] [] M_12 := by
      have hf : f_X10_normal_A45 x1_11 M_12 = some r := hf
      unfold f_X10_normal_A45 at hf
      refine g_iload_n 0 C (ckD_get k_X10_normal_1 11 rfl) rfl rfl ?_
      cases hf
      exact g_iret C (ckD_get k_X10_normal_1 12 rfl) hr hRv (Nat.le_refl _) (Nat.le_refl _)
    refine loop_e (x := (x1_11, M_12)) (P := fun (v : (Int32 × Int32 × Mm)) => G K (0, 0) 45 [(0, .ref (K.2.1.1 + 69)), (1, .int v.1), (2, .int v.2.1)] [] v.2.2) ?_ FU _ hx_45
    intro v rr_45 hf hn_45 hz_45
    obtain ⟨x1_8, x2_9, M_10⟩ := v
    have hf : f_X10_normal_L45 x1_8 x2_9 M_10 = some rr_45 := hf
    show G K (0, 0) 45 [(0, .ref (K.2.1.1 + 69)), (1, .int x1_8), (2, .int x2_9)] [] M_10
    unfold f_X10_normal_L45 at hf
    refine g_iload_n 2 C (ckD_get k_X10_normal_0 27 rfl) rfl rfl ?_
    refine g_aload_n 0 C (ckD_get k_X10_normal_0 28 rfl) rfl rfl ?_
    refine n_cV [] [.int x2_9] C (ckD_get k_X10_normal_0 29 rfl) vk_X10_175 (t_X10_rowSize C.tr _ _ rfl) T69 rfl rfl (Nat.le_of_ble_eq_true rfl) (by decide) hB rfl ?_
    refine g_icmp_ge C (ckD_get k_X10_normal_0 30 rfl) (fun c_13 => ?_) (fun c_13 => ?_)
    · have hf := if_t hf c_13
      refine G.sub [1] rfl ?_
      cases hf
      cases hz_45 _ rfl
      exact hE_45
    · have hf := if_f hf c_13
      refine g_aload_n 0 C (ckD_get k_X10_normal_0 31 rfl) rfl rfl ?_
      refine g_getR C (ckD_get k_X10_normal_0 32 rfl) fk_X10_54 T69 rfl ?_
      refine g_iload_n 2 C (ckD_get k_X10_normal_0 33 rfl) rfl rfl ?_
      obtain ⟨v_14, hi_15, ev_14, hf⟩ := rdI_e hf
      refine n_iald C (ckD_get k_X10_normal_0 34 rfl) T83 hi_15 ev_14 ?_
      refine g_aload_n 0 C (ckD_get k_X10_normal_0 35 rfl) rfl rfl ?_
      refine g_getR C (ckD_get k_X10_normal_0 36 rfl) fk_X10_39 T69 rfl ?_
      refine g_iload_n 2 C (ckD_get k_X10_normal_0 37 rfl) rfl rfl ?_
      obtain ⟨v_16, hi_17, ev_16, hf⟩ := rdI_e hf
      refine n_iald C (ckD_get k_X10_normal_0 38 rfl) T78 hi_17 ev_16 ?_
      have hJ_71 : ∀ (p1_18 : Int32), f_X10_normal_J71 x2_9 M_10 p1_18 = some rr_45 → G K (0, 0) 71 [(0, .ref (K.2.1.1 + 69)), (1, .int p1_18), (2, .int x2_9)] [] M_10 := by
        intro p1_18 hf
        unfold f_X10_normal_J71 at hf
        refine g_aload_n 0 C (ckD_get k_X10_normal_1 1 rfl) rfl rfl ?_
        refine g_getR C (ckD_get k_X10_normal_1 2 rfl) fk_X10_39 T69 rfl ?_
        refine g_iload_n 2 C (ckD_get k_X10_normal_1 3 rfl) rfl rfl ?_
        refine g_aload_n 0 C (ckD_get k_X10_normal_1 4 rfl) rfl rfl ?_
        refine g_getR C (ckD_get k_X10_normal_1 5 rfl) fk_X10_54 T69 rfl ?_
        refine g_iload_n 2 C (ckD_get k_X10_normal_1 6 rfl) rfl rfl ?_
        obtain ⟨v_19, hi_20, ev_19, hf⟩ := rdI_e hf
        refine n_iald C (ckD_get k_X10_normal_1 7 rfl) T83 hi_20 ev_19 ?_
        obtain ⟨M_21, hi_22, eM_21, hf⟩ := wrI_e hf
        refine n_iast C (ckD_get k_X10_normal_1 8 rfl) T78 hi_22 eM_21 ?_
        obtain ⟨x2_23, ex2_23, hf⟩ := lt_e hf
        refine g_iinc (lv' := [(2, _), (0, _), (1, _)]) 2 C (ckD_get k_X10_normal_1 9 rfl) rfl ex2_23 hL2 rfl ?_
        refine g_goto C (ckD_get k_X10_normal_1 10 rfl) ?_
        refine G.sub [1, 2, 0] rfl ?_
        cases hf
        exact hn_45 _ rfl
      refine g_icmp_eq C (ckD_get k_X10_normal_0 39 rfl) (fun c_24 => ?_) (fun c_24 => ?_)
      · have hf := if_t hf c_24
        exact hJ_71 _ hf
      · have hf := if_f hf c_24
        obtain ⟨x1_25, ex1_25, hf⟩ := lt_e hf
        refine g_iinc (lv' := [(1, _), (0, _), (2, _)]) 1 C (ckD_get k_X10_normal_1 0 rfl) rfl ex1_25 hL1 rfl ?_
        refine G.sub [1, 0, 2] rfl ?_
        exact hJ_71 _ hf
  · have hf := if_f hf c_2
    refine g_aload_n 0 C (ckD_get k_X10_normal_0 7 rfl) rfl rfl ?_
    obtain ⟨z_28, ez_28, hf⟩ := lt_e hf
    refine n_cV [] [] C (ckD_get k_X10_normal_0 8 rfl) vk_X10_134 (t_X10_fail C.tr _ _ ez_28) T69 rfl rfl (Nat.le_of_ble_eq_true rfl) (by decide) hB rfl ?_
    cases hf
    exact g_iret C (ckD_get k_X10_normal_0 9 rfl) hr hRv (Nat.le_refl _) (Nat.le_refl _)

set_option maxRecDepth 20000 in
theorem k_X10_add_0 : ckD cX10_add [(0, .iconst 0, 1, 1, 0), (1, .istore_n 3, 1, 2, 0), (2, .iload_n 3, 1, 3, 0), (3, .aload_n 0, 1, 4, 0), (4, .getfield 269, 3, 7, 0), (7, .if_icmp .ge 30, 3, 10, 37), (10, .aload_n 0, 1, 11, 0), (11, .getfield 57, 3, 14, 0), (14, .iload_n 3, 1, 15, 0), (15, .iaload, 1, 16, 0), (16, .iload_n 1, 1, 17, 0), (17, .if_icmp .gt 14, 3, 20, 31), (20, .aload_n 0, 1, 21, 0), (21, .getfield 60, 3, 24, 0), (24, .iload_n 3, 1, 25, 0), (25, .iaload, 1, 26, 0), (26, .iload_n 2, 1, 27, 0), (27, .if_icmp .gt 4, 3, 30, 31), (30, .return_, 1, 31, 0), (31, .iinc 3 1, 3, 34, 0), (34, .goto (-32), 3, 37, 2), (37, .iconst 0, 1, 38, 0), (38, .istore_n 3, 1, 39, 0), (39, .iconst 0, 1, 40, 0), (40, .istore 4, 2, 42, 0), (42, .iload 4, 2, 44, 0), (44, .aload_n 0, 1, 45, 0), (45, .getfield 269, 3, 48, 0), (48, .if_icmp .ge 63, 3, 51, 111), (51, .aload_n 0, 1, 52, 0), (52, .getfield 57, 3, 55, 0), (55, .iload 4, 2, 57, 0), (57, .iaload, 1, 58, 0), (58, .iload_n 1, 1, 59, 0), (59, .if_icmp .lt 17, 3, 62, 76), (62, .aload_n 0, 1, 63, 0), (63, .getfield 60, 3, 66, 0), (66, .iload 4, 2, 68, 0), (68, .iaload, 1, 69, 0), (69, .iload_n 2, 1, 70, 0)] = true := by decide +kernel
set_option maxRecDepth 20000 in
theorem k_X10_add_1 : ckD cX10_add [(70, .if_icmp .lt 6, 3, 73, 76), (73, .goto 32, 3, 76, 105), (76, .aload_n 0, 1, 77, 0), (77, .getfield 57, 3, 80, 0), (80, .iload_n 3, 1, 81, 0), (81, .aload_n 0, 1, 82, 0), (82, .getfield 57, 3, 85, 0), (85, .iload 4, 2, 87, 0), (87, .iaload, 1, 88, 0), (88, .iastore, 1, 89, 0), (89, .aload_n 0, 1, 90, 0), (90, .getfield 60, 3, 93, 0), (93, .iload_n 3, 1, 94, 0), (94, .aload_n 0, 1, 95, 0), (95, .getfield 60, 3, 98, 0), (98, .iload 4, 2, 100, 0), (100, .iaload, 1, 101, 0), (101, .iastore, 1, 102, 0), (102, .iinc 3 1, 3, 105, 0), (105, .iinc 4 1, 3, 108, 0), (108, .goto (-66), 3, 111, 42), (111, .aload_n 0, 1, 112, 0), (112, .iload_n 3, 1, 113, 0), (113, .putfield 269, 3, 116, 0), (116, .iload_n 3, 1, 117, 0), (117, .ifCond .le 49, 3, 120, 166), (120, .aload_n 0, 1, 121, 0), (121, .getfield 57, 3, 124, 0), (124, .iload_n 3, 1, 125, 0), (125, .iconst 1, 1, 126, 0), (126, .isub, 1, 127, 0), (127, .iaload, 1, 128, 0), (128, .iload_n 1, 1, 129, 0), (129, .if_icmp .le 37, 3, 132, 166), (132, .aload_n 0, 1, 133, 0), (133, .getfield 57, 3, 136, 0), (136, .iload_n 3, 1, 137, 0), (137, .aload_n 0, 1, 138, 0), (138, .getfield 57, 3, 141, 0), (141, .iload_n 3, 1, 142, 0)] = true := by decide +kernel
set_option maxRecDepth 20000 in
theorem k_X10_add_2 : ckD cX10_add [(142, .iconst 1, 1, 143, 0), (143, .isub, 1, 144, 0), (144, .iaload, 1, 145, 0), (145, .iastore, 1, 146, 0), (146, .aload_n 0, 1, 147, 0), (147, .getfield 60, 3, 150, 0), (150, .iload_n 3, 1, 151, 0), (151, .aload_n 0, 1, 152, 0), (152, .getfield 60, 3, 155, 0), (155, .iload_n 3, 1, 156, 0), (156, .iconst 1, 1, 157, 0), (157, .isub, 1, 158, 0), (158, .iaload, 1, 159, 0), (159, .iastore, 1, 160, 0), (160, .iinc 3 (-1), 3, 163, 0), (163, .goto (-47), 3, 166, 116), (166, .aload_n 0, 1, 167, 0), (167, .getfield 57, 3, 170, 0), (170, .iload_n 3, 1, 171, 0), (171, .iload_n 1, 1, 172, 0), (172, .iastore, 1, 173, 0), (173, .aload_n 0, 1, 174, 0), (174, .getfield 60, 3, 177, 0), (177, .iload_n 3, 1, 178, 0), (178, .iload_n 2, 1, 179, 0), (179, .iastore, 1, 180, 0), (180, .aload_n 0, 1, 181, 0), (181, .dup, 1, 182, 0), (182, .getfield 269, 3, 185, 0), (185, .iconst 1, 1, 186, 0), (186, .iadd, 1, 187, 0), (187, .putfield 269, 3, 190, 0), (190, .return_, 1, 191, 0)] = true := by decide +kernel
def f_X10_add_A116 (a1 : Int32) (a2 : Int32) (x3_10 : Int32) (M_11 : Mm) : Option Mm := wrI 4096 M_11 84 x3_10 a1 fun M_12 => wrI 4096 M_12 85 x3_10 a2 fun M_14 => lt1 (wi M_14 69 21 ((M_14.1 69 21) + (1 : Int32))) fun M_16 => some M_16
def f_X10_add_L116 (a1 : Int32) (x3_8 : Int32) (M_9 : Mm) : Option ((Int32 × Mm) ⊕ (Int32 × Mm)) := if x3_8 ≤ 0 then some (.inr (x3_8, M_9)) else rdI 4096 M_9 84 (x3_8 - (1 : Int32)) fun v_18 => if v_18 ≤ a1 then some (.inr (x3_8, M_9)) else rdI 4096 M_9 84 (x3_8 - (1 : Int32)) fun v_21 => wrI 4096 M_9 84 x3_8 v_21 fun M_23 => rdI 4096 M_23 85 (x3_8 - (1 : Int32)) fun v_25 => wrI 4096 M_23 85 x3_8 v_25 fun M_27 => lt1 (x3_8 + (-1)) fun x3_29 => some (.inl (x3_29, M_27))
def f_X10_add_A42 (a1 : Int32) (a2 : Int32) (x3_5 : Int32) (M_6 : Mm) : Option Mm := lt1 (wi M_6 69 21 x3_5) fun M_7 => (loop (fun v => f_X10_add_L116 a1 v.1 v.2) FU (x3_5, M_7)).bind fun z => f_X10_add_A116 a1 a2 z.1 z.2
def f_X10_add_J105 (x4_3 : Int32) (p3_33 : Int32) (M_34 : Mm) : Option ((Int32 × Int32 × Mm) ⊕ (Int32 × Mm)) := lt1 (x4_3 + 1) fun x4_35 => some (.inl (p3_33, x4_35, M_34))
def f_X10_add_J76 (x3_2 : Int32) (x4_3 : Int32) (M_4 : Mm) (_ : Unit) : Option ((Int32 × Int32 × Mm) ⊕ (Int32 × Mm)) := rdI 4096 M_4 84 x4_3 fun v_36 => wrI 4096 M_4 84 x3_2 v_36 fun M_38 => rdI 4096 M_38 85 x4_3 fun v_40 => wrI 4096 M_38 85 x3_2 v_40 fun M_42 => lt1 (x3_2 + 1) fun x3_44 => f_X10_add_J105 x4_3 x3_44 M_42
def f_X10_add_L42 (a1 : Int32) (a2 : Int32) (x3_2 : Int32) (x4_3 : Int32) (M_4 : Mm) : Option ((Int32 × Int32 × Mm) ⊕ (Int32 × Mm)) := if (M_4.1 69 21) ≤ x4_3 then some (.inr (x3_2, M_4)) else rdI 4096 M_4 84 x4_3 fun v_31 => if v_31 < a1 then f_X10_add_J76 x3_2 x4_3 M_4 () else rdI 4096 M_4 85 x4_3 fun v_46 => if v_46 < a2 then f_X10_add_J76 x3_2 x4_3 M_4 () else f_X10_add_J105 x4_3 x3_2 M_4
def f_X10_add_A2 (a1 : Int32) (a2 : Int32) (M : Mm) : Option Mm := (loop (fun v => f_X10_add_L42 a1 a2 v.1 v.2.1 v.2.2) FU ((0 : Int32), (0 : Int32), M)).bind fun z => f_X10_add_A42 a1 a2 z.1 z.2
def f_X10_add_J31 (x3_1 : Int32) (_ : Unit) : Option (Int32 ⊕ (Unit ⊕ Mm)) := lt1 (x3_1 + 1) fun x3_52 => some (.inl x3_52)
def f_X10_add_L2 (a1 : Int32) (a2 : Int32) (M : Mm) (x3_1 : Int32) : Option (Int32 ⊕ (Unit ⊕ Mm)) := if (M.1 69 21) ≤ x3_1 then some (.inr (.inl ())) else rdI 4096 M 84 x3_1 fun v_50 => if a1 < v_50 then f_X10_add_J31 x3_1 () else rdI 4096 M 85 x3_1 fun v_54 => if a2 < v_54 then f_X10_add_J31 x3_1 () else some (.inr (.inr M))
def f_X10_add (a1 : Int32) (a2 : Int32) (M : Mm) : Option Mm := (loop (fun v => f_X10_add_L2 a1 a2 M v) FU (0 : Int32)).bind fun x => Sum.elim (fun z => f_X10_add_A2 a1 a2 M ) (fun o => some o) x
set_option maxRecDepth 100000 in
set_option maxHeartbeats 4000000 in
theorem t_X10_add {E : Ev} {l : Launch} (htr : l.stackTraces = false) (a1 : Int32) (a2 : Int32) (M : Mm) (r : Mm) (hf : f_X10_add a1 a2 M = some r) : CM E l 0 0 0 yX10_add cX10_add 5 none [.ref (E.1 + 69), .int a1, .int a2] M none r := by
  refine CM.of htr (by decide +kernel) (Nat.le_of_ble_eq_true rfl) ?_
  intro K hE hL hl hR0 C hr hRv
  subst hE
  subst hl
  have C : Cx K cX10_add RX10 0 := C
  have hB : (0 : Nat) ≤ K.1.R.cells ∧ 0 ≤ K.1.R.slots := ⟨Nat.zero_le _, Nat.zero_le _⟩
  have hL3 : 3 < K.2.2.1 := by rw [hL]; decide
  have hL4 : 4 < K.2.2.1 := by rw [hL]; decide
  show G K (0, 0) 0 [(0, .ref (K.2.1.1 + 69)), (1, .int a1), (2, .int a2)] [] M
  unfold f_X10_add at hf
  refine g_iconst (v := (0 : Int32)) C (ckD_get k_X10_add_0 0 rfl) (by decide) ?_
  refine g_istore_n (lv' := [(3, _), (0, _), (1, _), (2, _)]) C (ckD_get k_X10_add_0 1 rfl) rfl hL3 rfl ?_
  refine G.sub [1, 2, 3, 0] rfl ?_
  obtain ⟨xx_2, hx_2, hf⟩ := bd_e hf
  have hE_2 : ∀ (_ : Unit), xx_2 = .inl () → G K (0, 0) 37 [(0, .ref (K.2.1.1 + 69)), (1, .int a1), (2, .int a2)] [] M := by
    intro _ ex
    subst ex
    have hf : f_X10_add_A2 a1 a2 M  = some r := hf
    unfold f_X10_add_A2 at hf
    refine g_iconst (v := (0 : Int32)) C (ckD_get k_X10_add_0 21 rfl) (by decide) ?_
    refine g_istore_n (lv' := [(3, _), (0, _), (1, _), (2, _)]) C (ckD_get k_X10_add_0 22 rfl) rfl hL3 rfl ?_
    refine g_iconst (v := (0 : Int32)) C (ckD_get k_X10_add_0 23 rfl) (by decide) ?_
    refine g_istore (lv' := [(4, _), (3, _), (0, _), (1, _), (2, _)]) C (ckD_get k_X10_add_0 24 rfl) hL4 rfl ?_
    refine G.sub [2, 3, 4, 1, 0] rfl ?_
    obtain ⟨xx_42, hx_42, hf⟩ := bd_e hf
    obtain ⟨x3_5, M_6⟩ := xx_42
    have hE_42 : G K (0, 0) 111 [(0, .ref (K.2.1.1 + 69)), (1, .int a1), (2, .int a2), (3, .int x3_5)] [] M_6 := by
      have hf : f_X10_add_A42 a1 a2 x3_5 M_6 = some r := hf
      unfold f_X10_add_A42 at hf
      refine g_aload_n 0 C (ckD_get k_X10_add_1 21 rfl) rfl rfl ?_
      refine g_iload_n 3 C (ckD_get k_X10_add_1 22 rfl) rfl rfl ?_
      obtain ⟨M_7, eM_7, hf⟩ := lt_e hf
      refine g_putI C (ckD_get k_X10_add_1 23 rfl) fk_X10_269 T69 rfl ?_
      refine memI eM_7 ?_
      obtain ⟨xx_116, hx_116, hf⟩ := bd_e hf
      obtain ⟨x3_10, M_11⟩ := xx_116
      have hE_116 : G K (0, 0) 166 [(0, .ref (K.2.1.1 + 69)), (1, .int a1), (2, .int a2), (3, .int x3_10)] [] M_11 := by
        have hf : f_X10_add_A116 a1 a2 x3_10 M_11 = some r := hf
        unfold f_X10_add_A116 at hf
        refine g_aload_n 0 C (ckD_get k_X10_add_2 16 rfl) rfl rfl ?_
        refine g_getR C (ckD_get k_X10_add_2 17 rfl) fk_X10_57 T69 rfl ?_
        refine g_iload_n 3 C (ckD_get k_X10_add_2 18 rfl) rfl rfl ?_
        refine g_iload_n 1 C (ckD_get k_X10_add_2 19 rfl) rfl rfl ?_
        obtain ⟨M_12, hi_13, eM_12, hf⟩ := wrI_e hf
        refine n_iast C (ckD_get k_X10_add_2 20 rfl) T84 hi_13 eM_12 ?_
        refine g_aload_n 0 C (ckD_get k_X10_add_2 21 rfl) rfl rfl ?_
        refine g_getR C (ckD_get k_X10_add_2 22 rfl) fk_X10_60 T69 rfl ?_
        refine g_iload_n 3 C (ckD_get k_X10_add_2 23 rfl) rfl rfl ?_
        refine g_iload_n 2 C (ckD_get k_X10_add_2 24 rfl) rfl rfl ?_
        obtain ⟨M_14, hi_15, eM_14, hf⟩ := wrI_e hf
        refine n_iast C (ckD_get k_X10_add_2 25 rfl) T85 hi_15 eM_14 ?_
        refine g_aload_n 0 C (ckD_get k_X10_add_2 26 rfl) rfl rfl ?_
        refine g_dup C (ckD_get k_X10_add_2 27 rfl) rfl ?_
        refine g_getI C (ckD_get k_X10_add_2 28 rfl) fk_X10_269 T69 rfl ?_
        refine g_iconst (v := (1 : Int32)) C (ckD_get k_X10_add_2 29 rfl) (by decide) ?_
        refine g_iadd C (ckD_get k_X10_add_2 30 rfl) ?_
        obtain ⟨M_16, eM_16, hf⟩ := lt_e hf
        refine g_putI C (ckD_get k_X10_add_2 31 rfl) fk_X10_269 T69 rfl ?_
        refine memI eM_16 ?_
        cases hf
        exact g_vret C (ckD_get k_X10_add_2 32 rfl) hr hRv (Nat.le_refl _) (Nat.le_refl _)
      refine loop_e (x := (x3_10, M_11)) (P := fun (v : (Int32 × Mm)) => G K (0, 0) 116 [(0, .ref (K.2.1.1 + 69)), (1, .int a1), (2, .int a2), (3, .int v.1)] [] v.2) ?_ FU _ hx_116
      intro v rr_116 hf hn_116 hz_116
      obtain ⟨x3_8, M_9⟩ := v
      have hf : f_X10_add_L116 a1 x3_8 M_9 = some rr_116 := hf
      show G K (0, 0) 116 [(0, .ref (K.2.1.1 + 69)), (1, .int a1), (2, .int a2), (3, .int x3_8)] [] M_9
      unfold f_X10_add_L116 at hf
      refine g_iload_n 3 C (ckD_get k_X10_add_1 24 rfl) rfl rfl ?_
      refine g_if_le C (ckD_get k_X10_add_1 25 rfl) (fun c_17 => ?_) (fun c_17 => ?_)
      · have hf := if_t hf c_17
        cases hf
        cases hz_116 _ rfl
        exact hE_116
      · have hf := if_f hf c_17
        refine g_aload_n 0 C (ckD_get k_X10_add_1 26 rfl) rfl rfl ?_
        refine g_getR C (ckD_get k_X10_add_1 27 rfl) fk_X10_57 T69 rfl ?_
        refine g_iload_n 3 C (ckD_get k_X10_add_1 28 rfl) rfl rfl ?_
        refine g_iconst (v := (1 : Int32)) C (ckD_get k_X10_add_1 29 rfl) (by decide) ?_
        refine g_isub C (ckD_get k_X10_add_1 30 rfl) ?_
        obtain ⟨v_18, hi_19, ev_18, hf⟩ := rdI_e hf
        refine n_iald C (ckD_get k_X10_add_1 31 rfl) T84 hi_19 ev_18 ?_
        refine g_iload_n 1 C (ckD_get k_X10_add_1 32 rfl) rfl rfl ?_
        refine g_icmp_le C (ckD_get k_X10_add_1 33 rfl) (fun c_20 => ?_) (fun c_20 => ?_)
        · have hf := if_t hf c_20
          cases hf
          cases hz_116 _ rfl
          exact hE_116
        · have hf := if_f hf c_20
          refine g_aload_n 0 C (ckD_get k_X10_add_1 34 rfl) rfl rfl ?_
          refine g_getR C (ckD_get k_X10_add_1 35 rfl) fk_X10_57 T69 rfl ?_
          refine g_iload_n 3 C (ckD_get k_X10_add_1 36 rfl) rfl rfl ?_
          refine g_aload_n 0 C (ckD_get k_X10_add_1 37 rfl) rfl rfl ?_
          refine g_getR C (ckD_get k_X10_add_1 38 rfl) fk_X10_57 T69 rfl ?_
          refine g_iload_n 3 C (ckD_get k_X10_add_1 39 rfl) rfl rfl ?_
          refine g_iconst (v := (1 : Int32)) C (ckD_get k_X10_add_2 0 rfl) (by decide) ?_
          refine g_isub C (ckD_get k_X10_add_2 1 rfl) ?_
          obtain ⟨v_21, hi_22, ev_21, hf⟩ := rdI_e hf
          refine n_iald C (ckD_get k_X10_add_2 2 rfl) T84 hi_22 ev_21 ?_
          obtain ⟨M_23, hi_24, eM_23, hf⟩ := wrI_e hf
          refine n_iast C (ckD_get k_X10_add_2 3 rfl) T84 hi_24 eM_23 ?_
          refine g_aload_n 0 C (ckD_get k_X10_add_2 4 rfl) rfl rfl ?_
          refine g_getR C (ckD_get k_X10_add_2 5 rfl) fk_X10_60 T69 rfl ?_
          refine g_iload_n 3 C (ckD_get k_X10_add_2 6 rfl) rfl rfl ?_
          refine g_aload_n 0 C (ckD_get k_X10_add_2 7 rfl) rfl rfl ?_
          refine g_getR C (ckD_get k_X10_add_2 8 rfl) fk_X10_60 T69 rfl ?_
          refine g_iload_n 3 C (ckD_get k_X10_add_2 9 rfl) rfl rfl ?_
          refine g_iconst (v := (1 : Int32)) C (ckD_get k_X10_add_2 10 rfl) (by decide) ?_
          refine g_isub C (ckD_get k_X10_add_2 11 rfl) ?_
          obtain ⟨v_25, hi_26, ev_25, hf⟩ := rdI_e hf
          refine n_iald C (ckD_get k_X10_add_2 12 rfl) T85 hi_26 ev_25 ?_
          obtain ⟨M_27, hi_28, eM_27, hf⟩ := wrI_e hf
          refine n_iast C (ckD_get k_X10_add_2 13 rfl) T85 hi_28 eM_27 ?_
          obtain ⟨x3_29, ex3_29, hf⟩ := lt_e hf
          refine g_iinc (lv' := [(3, _), (0, _), (1, _), (2, _)]) 3 C (ckD_get k_X10_add_2 14 rfl) rfl ex3_29 hL3 rfl ?_
          refine g_goto C (ckD_get k_X10_add_2 15 rfl) ?_
          refine G.sub [1, 2, 3, 0] rfl ?_
          cases hf
          exact hn_116 _ rfl
    refine loop_e (x := (x3_5, M_6)) (P := fun (v : (Int32 × Int32 × Mm)) => G K (0, 0) 42 [(0, .ref (K.2.1.1 + 69)), (1, .int a1), (2, .int a2), (3, .int v.1), (4, .int v.2.1)] [] v.2.2) ?_ FU _ hx_42
    intro v rr_42 hf hn_42 hz_42
    obtain ⟨x3_2, x4_3, M_4⟩ := v
    have hf : f_X10_add_L42 a1 a2 x3_2 x4_3 M_4 = some rr_42 := hf
    show G K (0, 0) 42 [(0, .ref (K.2.1.1 + 69)), (1, .int a1), (2, .int a2), (3, .int x3_2), (4, .int x4_3)] [] M_4
    unfold f_X10_add_L42 at hf
    refine g_iload 4 C (ckD_get k_X10_add_0 25 rfl) rfl ?_
    refine g_aload_n 0 C (ckD_get k_X10_add_0 26 rfl) rfl rfl ?_
    refine g_getI C (ckD_get k_X10_add_0 27 rfl) fk_X10_269 T69 rfl ?_
    refine g_icmp_ge C (ckD_get k_X10_add_0 28 rfl) (fun c_30 => ?_) (fun c_30 => ?_)
    · have hf := if_t hf c_30
      refine G.sub [0, 1, 2, 3] rfl ?_
      cases hf
      cases hz_42 _ rfl
      exact hE_42
    · have hf := if_f hf c_30
      refine g_aload_n 0 C (ckD_get k_X10_add_0 29 rfl) rfl rfl ?_
      refine g_getR C (ckD_get k_X10_add_0 30 rfl) fk_X10_57 T69 rfl ?_
      refine g_iload 4 C (ckD_get k_X10_add_0 31 rfl) rfl ?_
      obtain ⟨v_31, hi_32, ev_31, hf⟩ := rdI_e hf
      refine n_iald C (ckD_get k_X10_add_0 32 rfl) T84 hi_32 ev_31 ?_
      refine g_iload_n 1 C (ckD_get k_X10_add_0 33 rfl) rfl rfl ?_
      have hJ_105 : ∀ (p3_33 : Int32) (M_34 : Mm), f_X10_add_J105 x4_3 p3_33 M_34 = some rr_42 → G K (0, 0) 105 [(0, .ref (K.2.1.1 + 69)), (1, .int a1), (2, .int a2), (3, .int p3_33), (4, .int x4_3)] [] M_34 := by
        intro p3_33 M_34 hf
        unfold f_X10_add_J105 at hf
        obtain ⟨x4_35, ex4_35, hf⟩ := lt_e hf
        refine g_iinc (lv' := [(4, _), (0, _), (1, _), (2, _), (3, _)]) 4 C (ckD_get k_X10_add_1 19 rfl) rfl ex4_35 hL4 rfl ?_
        refine g_goto C (ckD_get k_X10_add_1 20 rfl) ?_
        refine G.sub [1, 2, 3, 4, 0] rfl ?_
        cases hf
        exact hn_42 _ rfl
      have hJ_76 : ∀ (_ : Unit), f_X10_add_J76 x3_2 x4_3 M_4 () = some rr_42 → G K (0, 0) 76 [(0, .ref (K.2.1.1 + 69)), (1, .int a1), (2, .int a2), (3, .int x3_2), (4, .int x4_3)] [] M_4 := by
        intro _ hf
        unfold f_X10_add_J76 at hf
        refine g_aload_n 0 C (ckD_get k_X10_add_1 2 rfl) rfl rfl ?_
        refine g_getR C (ckD_get k_X10_add_1 3 rfl) fk_X10_57 T69 rfl ?_
        refine g_iload_n 3 C (ckD_get k_X10_add_1 4 rfl) rfl rfl ?_
        refine g_aload_n 0 C (ckD_get k_X10_add_1 5 rfl) rfl rfl ?_
        refine g_getR C (ckD_get k_X10_add_1 6 rfl) fk_X10_57 T69 rfl ?_
        refine g_iload 4 C (ckD_get k_X10_add_1 7 rfl) rfl ?_
        obtain ⟨v_36, hi_37, ev_36, hf⟩ := rdI_e hf
        refine n_iald C (ckD_get k_X10_add_1 8 rfl) T84 hi_37 ev_36 ?_
        obtain ⟨M_38, hi_39, eM_38, hf⟩ := wrI_e hf
        refine n_iast C (ckD_get k_X10_add_1 9 rfl) T84 hi_39 eM_38 ?_
        refine g_aload_n 0 C (ckD_get k_X10_add_1 10 rfl) rfl rfl ?_
        refine g_getR C (ckD_get k_X10_add_1 11 rfl) fk_X10_60 T69 rfl ?_
        refine g_iload_n 3 C (ckD_get k_X10_add_1 12 rfl) rfl rfl ?_
        refine g_aload_n 0 C (ckD_get k_X10_add_1 13 rfl) rfl rfl ?_
        refine g_getR C (ckD_get k_X10_add_1 14 rfl) fk_X10_60 T69 rfl ?_
        refine g_iload 4 C (ckD_get k_X10_add_1 15 rfl) rfl ?_
        obtain ⟨v_40, hi_41, ev_40, hf⟩ := rdI_e hf
        refine n_iald C (ckD_get k_X10_add_1 16 rfl) T85 hi_41 ev_40 ?_
        obtain ⟨M_42, hi_43, eM_42, hf⟩ := wrI_e hf
        refine n_iast C (ckD_get k_X10_add_1 17 rfl) T85 hi_43 eM_42 ?_
        obtain ⟨x3_44, ex3_44, hf⟩ := lt_e hf
        refine g_iinc (lv' := [(3, _), (0, _), (1, _), (2, _), (4, _)]) 3 C (ckD_get k_X10_add_1 18 rfl) rfl ex3_44 hL3 rfl ?_
        refine G.sub [1, 2, 3, 0, 4] rfl ?_
        exact hJ_105 _ _ hf
      refine g_icmp_lt C (ckD_get k_X10_add_0 34 rfl) (fun c_45 => ?_) (fun c_45 => ?_)
      · have hf := if_t hf c_45
        exact hJ_76 () hf
      · have hf := if_f hf c_45
        refine g_aload_n 0 C (ckD_get k_X10_add_0 35 rfl) rfl rfl ?_
        refine g_getR C (ckD_get k_X10_add_0 36 rfl) fk_X10_60 T69 rfl ?_
        refine g_iload 4 C (ckD_get k_X10_add_0 37 rfl) rfl ?_
        obtain ⟨v_46, hi_47, ev_46, hf⟩ := rdI_e hf
        refine n_iald C (ckD_get k_X10_add_0 38 rfl) T85 hi_47 ev_46 ?_
        refine g_iload_n 2 C (ckD_get k_X10_add_0 39 rfl) rfl rfl ?_
        refine g_icmp_lt C (ckD_get k_X10_add_1 0 rfl) (fun c_48 => ?_) (fun c_48 => ?_)
        · have hf := if_t hf c_48
          exact hJ_76 () hf
        · have hf := if_f hf c_48
          refine g_goto C (ckD_get k_X10_add_1 1 rfl) ?_
          exact hJ_105 _ _ hf
  have hO_2 : ∀ o, xx_2 = .inr o → o = r := by
    intro o eo
    subst eo
    have hf : some o = some r := hf
    cases hf
    rfl
  refine loop_e (x := xx_2) (P := fun (v : Int32) => G K (0, 0) 2 [(0, .ref (K.2.1.1 + 69)), (1, .int a1), (2, .int a2), (3, .int v)] [] M) ?_ FU _ hx_2
  intro x3_1 rr_2 hf hn_2 hz_2
  have hf : f_X10_add_L2 a1 a2 M x3_1 = some rr_2 := hf
  show G K (0, 0) 2 [(0, .ref (K.2.1.1 + 69)), (1, .int a1), (2, .int a2), (3, .int x3_1)] [] M
  unfold f_X10_add_L2 at hf
  refine g_iload_n 3 C (ckD_get k_X10_add_0 2 rfl) rfl rfl ?_
  refine g_aload_n 0 C (ckD_get k_X10_add_0 3 rfl) rfl rfl ?_
  refine g_getI C (ckD_get k_X10_add_0 4 rfl) fk_X10_269 T69 rfl ?_
  refine g_icmp_ge C (ckD_get k_X10_add_0 5 rfl) (fun c_49 => ?_) (fun c_49 => ?_)
  · have hf := if_t hf c_49
    refine G.sub [0, 1, 2] rfl ?_
    cases hf
    exact hE_2 () (hz_2 _ rfl).symm
  · have hf := if_f hf c_49
    refine g_aload_n 0 C (ckD_get k_X10_add_0 6 rfl) rfl rfl ?_
    refine g_getR C (ckD_get k_X10_add_0 7 rfl) fk_X10_57 T69 rfl ?_
    refine g_iload_n 3 C (ckD_get k_X10_add_0 8 rfl) rfl rfl ?_
    obtain ⟨v_50, hi_51, ev_50, hf⟩ := rdI_e hf
    refine n_iald C (ckD_get k_X10_add_0 9 rfl) T84 hi_51 ev_50 ?_
    refine g_iload_n 1 C (ckD_get k_X10_add_0 10 rfl) rfl rfl ?_
    have hJ_31 : ∀ (_ : Unit), f_X10_add_J31 x3_1 () = some rr_2 → G K (0, 0) 31 [(0, .ref (K.2.1.1 + 69)), (1, .int a1), (2, .int a2), (3, .int x3_1)] [] M := by
      intro _ hf
      unfold f_X10_add_J31 at hf
      obtain ⟨x3_52, ex3_52, hf⟩ := lt_e hf
      refine g_iinc (lv' := [(3, _), (0, _), (1, _), (2, _)]) 3 C (ckD_get k_X10_add_0 19 rfl) rfl ex3_52 hL3 rfl ?_
      refine g_goto C (ckD_get k_X10_add_0 20 rfl) ?_
      refine G.sub [1, 2, 3, 0] rfl ?_
      cases hf
      exact hn_2 _ rfl
    refine g_icmp_gt C (ckD_get k_X10_add_0 11 rfl) (fun c_53 => ?_) (fun c_53 => ?_)
    · have hf := if_t hf c_53
      exact hJ_31 () hf
    · have hf := if_f hf c_53
      refine g_aload_n 0 C (ckD_get k_X10_add_0 12 rfl) rfl rfl ?_
      refine g_getR C (ckD_get k_X10_add_0 13 rfl) fk_X10_60 T69 rfl ?_
      refine g_iload_n 3 C (ckD_get k_X10_add_0 14 rfl) rfl rfl ?_
      obtain ⟨v_54, hi_55, ev_54, hf⟩ := rdI_e hf
      refine n_iald C (ckD_get k_X10_add_0 15 rfl) T85 hi_55 ev_54 ?_
      refine g_iload_n 2 C (ckD_get k_X10_add_0 16 rfl) rfl rfl ?_
      refine g_icmp_gt C (ckD_get k_X10_add_0 17 rfl) (fun c_56 => ?_) (fun c_56 => ?_)
      · have hf := if_t hf c_56
        exact hJ_31 () hf
      · have hf := if_f hf c_56
        cases hf
        cases hO_2 _ (hz_2 _ rfl).symm
        exact g_vret C (ckD_get k_X10_add_0 18 rfl) hr hRv (Nat.le_refl _) (Nat.le_refl _)

set_option maxRecDepth 20000 in
theorem k_X10_findCurve_0 : ckD cX10_findCurve [(0, .aload_n 0, 1, 1, 0), (1, .getfield 127, 3, 4, 0), (4, .istore_n 1, 1, 5, 0), (5, .aload_n 0, 1, 6, 0), (6, .invokevirtual 169, 3, 9, 0), (9, .istore_n 2, 1, 10, 0), (10, .aload_n 0, 1, 11, 0), (11, .iconst 0, 1, 12, 0), (12, .putfield 269, 3, 15, 0), (15, .iconst 0, 1, 16, 0), (16, .istore_n 3, 1, 17, 0), (17, .iload_n 3, 1, 18, 0), (18, .iload_n 2, 1, 19, 0), (19, .if_icmp .gt 59, 3, 22, 78), (22, .iload_n 3, 1, 23, 0), (23, .iload_n 2, 1, 24, 0), (24, .iconst (-1), 1, 25, 0), (25, .ixor, 1, 26, 0), (26, .iand, 1, 27, 0), (27, .ifCond .eq 6, 3, 30, 33), (30, .goto 42, 3, 33, 72), (33, .aload_n 0, 1, 34, 0), (34, .iload_n 3, 1, 35, 0), (35, .putfield 127, 3, 38, 0), (38, .aload_n 0, 1, 39, 0), (39, .aload_n 0, 1, 40, 0), (40, .getfield 39, 3, 43, 0), (43, .invokevirtual 178, 3, 46, 0), (46, .aload_n 0, 1, 47, 0), (47, .aload_n 0, 1, 48, 0), (48, .getfield 72, 3, 51, 0), (51, .aload_n 0, 1, 52, 0), (52, .invokevirtual 175, 3, 55, 0), (55, .iconst 1, 1, 56, 0), (56, .isub, 1, 57, 0), (57, .iaload, 1, 58, 0), (58, .aload_n 0, 1, 59, 0), (59, .getfield 75, 3, 62, 0), (62, .aload_n 0, 1, 63, 0), (63, .invokevirtual 175, 3, 66, 0)] = true := by decide +kernel
set_option maxRecDepth 20000 in
theorem k_X10_findCurve_1 : ckD cX10_findCurve [(66, .iconst 1, 1, 67, 0), (67, .isub, 1, 68, 0), (68, .iaload, 1, 69, 0), (69, .invokevirtual 272, 3, 72, 0), (72, .iinc 3 1, 3, 75, 0), (75, .goto (-58), 3, 78, 17), (78, .aload_n 0, 1, 79, 0), (79, .iload_n 1, 1, 80, 0), (80, .putfield 127, 3, 83, 0), (83, .return_, 1, 84, 0)] = true := by decide +kernel
def f_X10_findCurve_A17 (x1_1 : Int32) (M_7 : Mm) : Option Mm := lt1 (wi M_7 69 7 x1_1) fun M_8 => some M_8
def f_X10_findCurve_J72 (x3_5 : Int32) (M_10 : Mm) : Option ((Int32 × Mm) ⊕ Mm) := lt1 (x3_5 + 1) fun x3_11 => some (.inl (x3_11, M_10))
def f_X10_findCurve_L17 (r_3 : Int32) (x3_5 : Int32) (M_6 : Mm) : Option ((Int32 × Mm) ⊕ Mm) := if r_3 < x3_5 then some (.inr M_6) else if (x3_5 &&& (r_3 ^^^ (-1 : Int32))) = 0 then lt1 (wi M_6 69 7 x3_5) fun M_13 => (f_X10_makeParts 78 M_13).bind fun M_15 => rdI 23 M_15 89 ((f_X10_rowSize M_15) - (1 : Int32)) fun v_16 => rdI 23 M_15 90 ((f_X10_rowSize M_15) - (1 : Int32)) fun v_18 => (f_X10_add v_16 v_18 M_15).bind fun M_21 => f_X10_findCurve_J72 x3_5 M_21 else f_X10_findCurve_J72 x3_5 M_6
def f_X10_findCurve  (M : Mm) : Option Mm := lt1 (M.1 69 7) fun x1_1 => (f_X10_turnable M).bind fun r_3 => lt1 (wi M 69 21 (0 : Int32)) fun M_4 => (loop (fun v => f_X10_findCurve_L17 r_3 v.1 v.2) FU ((0 : Int32), M_4)).bind fun z => f_X10_findCurve_A17 x1_1 z
set_option maxRecDepth 100000 in
set_option maxHeartbeats 4000000 in
theorem t_X10_findCurve {E : Ev} {l : Launch} (htr : l.stackTraces = false) (M : Mm) (r : Mm) (hf : f_X10_findCurve M = some r) : CM E l 2 0 0 yX10_findCurve cX10_findCurve 4 none [.ref (E.1 + 69)] M none r := by
  refine CM.of htr (by decide +kernel) (Nat.le_of_ble_eq_true rfl) ?_
  intro K hE hL hl hR0 C hr hRv
  subst hE
  subst hl
  have C : Cx K cX10_findCurve RX10 2 := C
  have hB : (0 : Nat) ≤ K.1.R.cells ∧ 0 ≤ K.1.R.slots := ⟨Nat.zero_le _, Nat.zero_le _⟩
  have hL1 : 1 < K.2.2.1 := by rw [hL]; decide
  have hL2 : 2 < K.2.2.1 := by rw [hL]; decide
  have hL3 : 3 < K.2.2.1 := by rw [hL]; decide
  show G K (0, 0) 0 [(0, .ref (K.2.1.1 + 69))] [] M
  unfold f_X10_findCurve at hf
  refine g_aload_n 0 C (ckD_get k_X10_findCurve_0 0 rfl) rfl rfl ?_
  refine g_getI C (ckD_get k_X10_findCurve_0 1 rfl) fk_X10_127 T69 rfl ?_
  obtain ⟨x1_1, ex1_1, hf⟩ := lt_e hf
  refine topI ex1_1 ?_
  refine g_istore_n (lv' := [(1, _), (0, _)]) C (ckD_get k_X10_findCurve_0 2 rfl) rfl hL1 rfl ?_
  refine g_aload_n 1 C (ckD_get k_X10_findCurve_0 3 rfl) rfl rfl ?_
  obtain ⟨r_3, hr_2, hf⟩ := bd_e hf
  refine n_cV [] [] C (ckD_get k_X10_findCurve_0 4 rfl) vk_X10_169 (t_X10_turnable C.tr _ _ hr_2) T69 rfl rfl (Nat.le_of_ble_eq_true rfl) (by decide) hB rfl ?_
  refine g_istore_n (lv' := [(2, _), (1, _), (0, _)]) C (ckD_get k_X10_findCurve_0 5 rfl) rfl hL2 rfl ?_
  refine g_aload_n 2 C (ckD_get k_X10_findCurve_0 6 rfl) rfl rfl ?_
  refine g_iconst (v := (0 : Int32)) C (ckD_get k_X10_findCurve_0 7 rfl) (by decide) ?_
  obtain ⟨M_4, eM_4, hf⟩ := lt_e hf
  refine g_putI C (ckD_get k_X10_findCurve_0 8 rfl) fk_X10_269 T69 rfl ?_
  refine memI eM_4 ?_
  refine g_iconst (v := (0 : Int32)) C (ckD_get k_X10_findCurve_0 9 rfl) (by decide) ?_
  refine g_istore_n (lv' := [(3, _), (2, _), (1, _), (0, _)]) C (ckD_get k_X10_findCurve_0 10 rfl) rfl hL3 rfl ?_
  refine G.sub [3, 2, 1, 0] rfl ?_
  obtain ⟨M_7, hx_17, hf⟩ := bd_e hf
  have hE_17 : G K (0, 0) 78 [(0, .ref (K.2.1.1 + 69)), (1, .int x1_1)] [] M_7 := by
    have hf : f_X10_findCurve_A17 x1_1 M_7 = some r := hf
    unfold f_X10_findCurve_A17 at hf
    refine g_aload_n 0 C (ckD_get k_X10_findCurve_1 6 rfl) rfl rfl ?_
    refine g_iload_n 1 C (ckD_get k_X10_findCurve_1 7 rfl) rfl rfl ?_
    obtain ⟨M_8, eM_8, hf⟩ := lt_e hf
    refine g_putI C (ckD_get k_X10_findCurve_1 8 rfl) fk_X10_127 T69 rfl ?_
    refine memI eM_8 ?_
    cases hf
    exact g_vret C (ckD_get k_X10_findCurve_1 9 rfl) hr hRv (Nat.le_refl _) (Nat.le_refl _)
  refine loop_e (x := M_7) (P := fun (v : (Int32 × Mm)) => G K (0, 0) 17 [(0, .ref (K.2.1.1 + 69)), (1, .int x1_1), (2, .int r_3), (3, .int v.1)] [] v.2) ?_ FU _ hx_17
  intro v rr_17 hf hn_17 hz_17
  obtain ⟨x3_5, M_6⟩ := v
  have hf : f_X10_findCurve_L17 r_3 x3_5 M_6 = some rr_17 := hf
  show G K (0, 0) 17 [(0, .ref (K.2.1.1 + 69)), (1, .int x1_1), (2, .int r_3), (3, .int x3_5)] [] M_6
  unfold f_X10_findCurve_L17 at hf
  refine g_iload_n 3 C (ckD_get k_X10_findCurve_0 11 rfl) rfl rfl ?_
  refine g_iload_n 2 C (ckD_get k_X10_findCurve_0 12 rfl) rfl rfl ?_
  refine g_icmp_gt C (ckD_get k_X10_findCurve_0 13 rfl) (fun c_9 => ?_) (fun c_9 => ?_)
  · have hf := if_t hf c_9
    refine G.sub [0, 1] rfl ?_
    cases hf
    cases hz_17 _ rfl
    exact hE_17
  · have hf := if_f hf c_9
    refine g_iload_n 3 C (ckD_get k_X10_findCurve_0 14 rfl) rfl rfl ?_
    refine g_iload_n 2 C (ckD_get k_X10_findCurve_0 15 rfl) rfl rfl ?_
    refine g_iconst (v := (-1 : Int32)) C (ckD_get k_X10_findCurve_0 16 rfl) (by decide) ?_
    refine g_ixor C (ckD_get k_X10_findCurve_0 17 rfl) ?_
    refine g_iand C (ckD_get k_X10_findCurve_0 18 rfl) ?_
    have hJ_72 : ∀ (M_10 : Mm), f_X10_findCurve_J72 x3_5 M_10 = some rr_17 → G K (0, 0) 72 [(0, .ref (K.2.1.1 + 69)), (1, .int x1_1), (2, .int r_3), (3, .int x3_5)] [] M_10 := by
      intro M_10 hf
      unfold f_X10_findCurve_J72 at hf
      obtain ⟨x3_11, ex3_11, hf⟩ := lt_e hf
      refine g_iinc (lv' := [(3, _), (0, _), (1, _), (2, _)]) 3 C (ckD_get k_X10_findCurve_1 4 rfl) rfl ex3_11 hL3 rfl ?_
      refine g_goto C (ckD_get k_X10_findCurve_1 5 rfl) ?_
      refine G.sub [1, 2, 3, 0] rfl ?_
      cases hf
      exact hn_17 _ rfl
    refine g_if_eq C (ckD_get k_X10_findCurve_0 19 rfl) (fun c_12 => ?_) (fun c_12 => ?_)
    · have hf := if_t hf c_12
      refine g_aload_n 0 C (ckD_get k_X10_findCurve_0 21 rfl) rfl rfl ?_
      refine g_iload_n 3 C (ckD_get k_X10_findCurve_0 22 rfl) rfl rfl ?_
      obtain ⟨M_13, eM_13, hf⟩ := lt_e hf
      refine g_putI C (ckD_get k_X10_findCurve_0 23 rfl) fk_X10_127 T69 rfl ?_
      refine memI eM_13 ?_
      refine g_aload_n 0 C (ckD_get k_X10_findCurve_0 24 rfl) rfl rfl ?_
      refine g_aload_n 0 C (ckD_get k_X10_findCurve_0 25 rfl) rfl rfl ?_
      refine g_getR C (ckD_get k_X10_findCurve_0 26 rfl) fk_X10_39 T69 rfl ?_
      obtain ⟨M_15, hr_14, hf⟩ := bd_e hf
      refine n_cV [.ref (K.2.1.1 + 78)] [] C (ckD_get k_X10_findCurve_0 27 rfl) vk_X10_178 (t_X10_makeParts C.tr _ T78 _ _ hr_14) T69 rfl rfl (Nat.le_of_ble_eq_true rfl) (by decide) hB rfl ?_
      refine g_aload_n 0 C (ckD_get k_X10_findCurve_0 28 rfl) rfl rfl ?_
      refine g_aload_n 0 C (ckD_get k_X10_findCurve_0 29 rfl) rfl rfl ?_
      refine g_getR C (ckD_get k_X10_findCurve_0 30 rfl) fk_X10_72 T69 rfl ?_
      refine g_aload_n 0 C (ckD_get k_X10_findCurve_0 31 rfl) rfl rfl ?_
      refine n_cV [] [.ref (K.2.1.1 + 89), .ref (K.2.1.1 + 69)] C (ckD_get k_X10_findCurve_0 32 rfl) vk_X10_175 (t_X10_rowSize C.tr _ _ rfl) T69 rfl rfl (Nat.le_of_ble_eq_true rfl) (by decide) hB rfl ?_
      refine g_iconst (v := (1 : Int32)) C (ckD_get k_X10_findCurve_0 33 rfl) (by decide) ?_
      refine g_isub C (ckD_get k_X10_findCurve_0 34 rfl) ?_
      obtain ⟨v_16, hi_17, ev_16, hf⟩ := rdI_e hf
      refine n_iald C (ckD_get k_X10_findCurve_0 35 rfl) T89 hi_17 ev_16 ?_
      refine g_aload_n 0 C (ckD_get k_X10_findCurve_0 36 rfl) rfl rfl ?_
      refine g_getR C (ckD_get k_X10_findCurve_0 37 rfl) fk_X10_75 T69 rfl ?_
      refine g_aload_n 0 C (ckD_get k_X10_findCurve_0 38 rfl) rfl rfl ?_
      refine n_cV [] [.ref (K.2.1.1 + 90), .int v_16, .ref (K.2.1.1 + 69)] C (ckD_get k_X10_findCurve_0 39 rfl) vk_X10_175 (t_X10_rowSize C.tr _ _ rfl) T69 rfl rfl (Nat.le_of_ble_eq_true rfl) (by decide) hB rfl ?_
      refine g_iconst (v := (1 : Int32)) C (ckD_get k_X10_findCurve_1 0 rfl) (by decide) ?_
      refine g_isub C (ckD_get k_X10_findCurve_1 1 rfl) ?_
      obtain ⟨v_18, hi_19, ev_18, hf⟩ := rdI_e hf
      refine n_iald C (ckD_get k_X10_findCurve_1 2 rfl) T90 hi_19 ev_18 ?_
      obtain ⟨M_21, hr_20, hf⟩ := bd_e hf
      refine n_cV [.int v_16, .int v_18] [] C (ckD_get k_X10_findCurve_1 3 rfl) vk_X10_272 (t_X10_add C.tr _ _ _ _ hr_20) T69 rfl rfl (Nat.le_of_ble_eq_true rfl) (by decide) hB rfl ?_
      exact hJ_72 _ hf
    · have hf := if_f hf c_12
      refine g_goto C (ckD_get k_X10_findCurve_0 20 rfl) ?_
      exact hJ_72 _ hf

set_option maxRecDepth 20000 in
theorem k_X10_curve_0 : ckD cX10_curve [(0, .aload_n 0, 1, 1, 0), (1, .iconst 0, 1, 2, 0), (2, .putfield 121, 3, 5, 0), (5, .aload_n 0, 1, 6, 0), (6, .getfield 23, 3, 9, 0), (9, .iconst 2, 1, 10, 0), (10, .if_icmp .eq 8, 3, 13, 18), (13, .aload_n 0, 1, 14, 0), (14, .invokevirtual 134, 3, 17, 0), (17, .ireturn, 1, 18, 0), (18, .aload_n 0, 1, 19, 0), (19, .invokevirtual 275, 3, 22, 0), (22, .aload_n 0, 1, 23, 0), (23, .getfield 269, 3, 26, 0), (26, .ireturn, 1, 27, 0)] = true := by decide +kernel
def f_X10_curve  (M : Mm) : Option (Int32 × Mm) := lt1 (wi M 69 0 (0 : Int32)) fun M_1 => if (M_1.1 69 6) = (2 : Int32) then (f_X10_findCurve M_1).bind fun M_4 => some ((M_4.1 69 21), M_4) else lt1 (f_X10_fail M_1) fun z_7 => some (z_7.1, z_7.2)
set_option maxRecDepth 100000 in
set_option maxHeartbeats 4000000 in
theorem t_X10_curve {E : Ev} {l : Launch} (htr : l.stackTraces = false) (M : Mm) (r : (Int32 × Mm)) (hf : f_X10_curve M = some r) : CM E l 3 0 0 yX10_curve cX10_curve 1 (some .int) [.ref (E.1 + 69)] M (some (.int r.1)) r.2 := by
  refine CM.of htr (by decide +kernel) (Nat.le_of_ble_eq_true rfl) ?_
  intro K hE hL hl hR0 C hr hRv
  subst hE
  subst hl
  have C : Cx K cX10_curve RX10 3 := C
  have hB : (0 : Nat) ≤ K.1.R.cells ∧ 0 ≤ K.1.R.slots := ⟨Nat.zero_le _, Nat.zero_le _⟩
  show G K (0, 0) 0 [(0, .ref (K.2.1.1 + 69))] [] M
  unfold f_X10_curve at hf
  refine g_aload_n 0 C (ckD_get k_X10_curve_0 0 rfl) rfl rfl ?_
  refine g_iconst (v := (0 : Int32)) C (ckD_get k_X10_curve_0 1 rfl) (by decide) ?_
  obtain ⟨M_1, eM_1, hf⟩ := lt_e hf
  refine g_putI C (ckD_get k_X10_curve_0 2 rfl) fk_X10_121 T69 rfl ?_
  refine memI eM_1 ?_
  refine g_aload_n 0 C (ckD_get k_X10_curve_0 3 rfl) rfl rfl ?_
  refine g_getI C (ckD_get k_X10_curve_0 4 rfl) fk_X10_23 T69 rfl ?_
  refine g_iconst (v := (2 : Int32)) C (ckD_get k_X10_curve_0 5 rfl) (by decide) ?_
  refine g_icmp_eq C (ckD_get k_X10_curve_0 6 rfl) (fun c_2 => ?_) (fun c_2 => ?_)
  · have hf := if_t hf c_2
    refine g_aload_n 0 C (ckD_get k_X10_curve_0 10 rfl) rfl rfl ?_
    obtain ⟨M_4, hr_3, hf⟩ := bd_e hf
    refine n_cV [] [] C (ckD_get k_X10_curve_0 11 rfl) vk_X10_275 (t_X10_findCurve C.tr _ _ hr_3) T69 rfl rfl (Nat.le_of_ble_eq_true rfl) (by decide) hB rfl ?_
    refine g_aload_n 0 C (ckD_get k_X10_curve_0 12 rfl) rfl rfl ?_
    refine g_getI C (ckD_get k_X10_curve_0 13 rfl) fk_X10_269 T69 rfl ?_
    cases hf
    exact g_iret C (ckD_get k_X10_curve_0 14 rfl) hr hRv (Nat.le_refl _) (Nat.le_refl _)
  · have hf := if_f hf c_2
    refine g_aload_n 0 C (ckD_get k_X10_curve_0 7 rfl) rfl rfl ?_
    obtain ⟨z_7, ez_7, hf⟩ := lt_e hf
    refine n_cV [] [] C (ckD_get k_X10_curve_0 8 rfl) vk_X10_134 (t_X10_fail C.tr _ _ ez_7) T69 rfl rfl (Nat.le_of_ble_eq_true rfl) (by decide) hB rfl ?_
    cases hf
    exact g_iret C (ckD_get k_X10_curve_0 9 rfl) hr hRv (Nat.le_refl _) (Nat.le_refl _)

set_option maxRecDepth 20000 in
theorem k_X10_shape_0 : ckD cX10_shape [(0, .aload_n 0, 1, 1, 0), (1, .iconst 0, 1, 2, 0), (2, .putfield 121, 3, 5, 0), (5, .aload_n 0, 1, 6, 0), (6, .getfield 23, 3, 9, 0), (9, .iconst 2, 1, 10, 0), (10, .if_icmp .ne 16, 3, 13, 26), (13, .iload_n 1, 1, 14, 0), (14, .ifCond .lt 12, 3, 17, 26), (17, .iload_n 2, 1, 18, 0), (18, .ifCond .lt 8, 3, 21, 26), (21, .iload_n 2, 1, 22, 0), (22, .iconst 1, 1, 23, 0), (23, .if_icmp .le 8, 3, 26, 31), (26, .aload_n 0, 1, 27, 0), (27, .invokevirtual 134, 3, 30, 0), (30, .ireturn, 1, 31, 0), (31, .aload_n 0, 1, 32, 0), (32, .invokevirtual 275, 3, 35, 0), (35, .iload_n 1, 1, 36, 0), (36, .aload_n 0, 1, 37, 0), (37, .getfield 269, 3, 40, 0), (40, .if_icmp .lt 10, 3, 43, 50), (43, .aload_n 0, 1, 44, 0), (44, .invokevirtual 134, 3, 47, 0), (47, .goto 22, 3, 50, 69), (50, .iload_n 2, 1, 51, 0), (51, .ifCond .ne 12, 3, 54, 63), (54, .aload_n 0, 1, 55, 0), (55, .getfield 57, 3, 58, 0), (58, .iload_n 1, 1, 59, 0), (59, .iaload, 1, 60, 0), (60, .goto 9, 3, 63, 69), (63, .aload_n 0, 1, 64, 0), (64, .getfield 60, 3, 67, 0), (67, .iload_n 1, 1, 68, 0), (68, .iaload, 1, 69, 0), (69, .ireturn, 1, 70, 0)] = true := by decide +kernel
def f_X10_shape_J26 (M_2 : Mm) : Option (Int32 × Mm) := lt1 (f_X10_fail M_2) fun z_5 => some (z_5.1, z_5.2)
def f_X10_shape (a1 : Int32) (a2 : Int32) (M : Mm) : Option (Int32 × Mm) := lt1 (wi M 69 0 (0 : Int32)) fun M_1 => if (M_1.1 69 6) = (2 : Int32) then (if a1 < 0 then f_X10_shape_J26 M_1 else if a2 < 0 then f_X10_shape_J26 M_1 else if a2 ≤ (1 : Int32) then (f_X10_findCurve M_1).bind fun M_11 => if a1 < (M_11.1 69 21) then (if a2 = 0 then rdI 4096 M_11 84 a1 fun v_16 => some (v_16, M_11) else rdI 4096 M_11 85 a1 fun v_14 => some (v_14, M_11)) else lt1 (f_X10_fail M_11) fun z_20 => some (z_20.1, z_20.2) else f_X10_shape_J26 M_1) else f_X10_shape_J26 M_1
set_option maxRecDepth 100000 in
set_option maxHeartbeats 4000000 in
theorem t_X10_shape {E : Ev} {l : Launch} (htr : l.stackTraces = false) (a1 : Int32) (a2 : Int32) (M : Mm) (r : (Int32 × Mm)) (hf : f_X10_shape a1 a2 M = some r) : CM E l 3 0 0 yX10_shape cX10_shape 3 (some .int) [.ref (E.1 + 69), .int a1, .int a2] M (some (.int r.1)) r.2 := by
  refine CM.of htr (by decide +kernel) (Nat.le_of_ble_eq_true rfl) ?_
  intro K hE hL hl hR0 C hr hRv
  subst hE
  subst hl
  have C : Cx K cX10_shape RX10 3 := C
  have hB : (0 : Nat) ≤ K.1.R.cells ∧ 0 ≤ K.1.R.slots := ⟨Nat.zero_le _, Nat.zero_le _⟩
  show G K (0, 0) 0 [(0, .ref (K.2.1.1 + 69)), (1, .int a1), (2, .int a2)] [] M
  unfold f_X10_shape at hf
  refine g_aload_n 0 C (ckD_get k_X10_shape_0 0 rfl) rfl rfl ?_
  refine g_iconst (v := (0 : Int32)) C (ckD_get k_X10_shape_0 1 rfl) (by decide) ?_
  obtain ⟨M_1, eM_1, hf⟩ := lt_e hf
  refine g_putI C (ckD_get k_X10_shape_0 2 rfl) fk_X10_121 T69 rfl ?_
  refine memI eM_1 ?_
  refine g_aload_n 0 C (ckD_get k_X10_shape_0 3 rfl) rfl rfl ?_
  refine g_getI C (ckD_get k_X10_shape_0 4 rfl) fk_X10_23 T69 rfl ?_
  refine g_iconst (v := (2 : Int32)) C (ckD_get k_X10_shape_0 5 rfl) (by decide) ?_
  have hJ_26 : ∀ (M_2 : Mm), f_X10_shape_J26 M_2 = some r → G K (0, 0) 26 [(0, .ref (K.2.1.1 + 69))] [] M_2 := by
    intro M_2 hf
    unfold f_X10_shape_J26 at hf
    refine g_aload_n 0 C (ckD_get k_X10_shape_0 14 rfl) rfl rfl ?_
    obtain ⟨z_5, ez_5, hf⟩ := lt_e hf
    refine n_cV [] [] C (ckD_get k_X10_shape_0 15 rfl) vk_X10_134 (t_X10_fail C.tr _ _ ez_5) T69 rfl rfl (Nat.le_of_ble_eq_true rfl) (by decide) hB rfl ?_
    cases hf
    exact g_iret C (ckD_get k_X10_shape_0 16 rfl) hr hRv (Nat.le_refl _) (Nat.le_refl _)
  refine g_icmp_ne C (ckD_get k_X10_shape_0 6 rfl) (fun c_6 => ?_) (fun c_6 => ?_)
  · have hf := if_f hf c_6
    refine G.sub [0] rfl ?_
    exact hJ_26 _ hf
  · have hf := if_t hf c_6
    refine g_iload_n 1 C (ckD_get k_X10_shape_0 7 rfl) rfl rfl ?_
    refine g_if_lt C (ckD_get k_X10_shape_0 8 rfl) (fun c_7 => ?_) (fun c_7 => ?_)
    · have hf := if_t hf c_7
      refine G.sub [0] rfl ?_
      exact hJ_26 _ hf
    · have hf := if_f hf c_7
      refine g_iload_n 2 C (ckD_get k_X10_shape_0 9 rfl) rfl rfl ?_
      refine g_if_lt C (ckD_get k_X10_shape_0 10 rfl) (fun c_8 => ?_) (fun c_8 => ?_)
      · have hf := if_t hf c_8
        refine G.sub [0] rfl ?_
        exact hJ_26 _ hf
      · have hf := if_f hf c_8
        refine g_iload_n 2 C (ckD_get k_X10_shape_0 11 rfl) rfl rfl ?_
        refine g_iconst (v := (1 : Int32)) C (ckD_get k_X10_shape_0 12 rfl) (by decide) ?_
        refine g_icmp_le C (ckD_get k_X10_shape_0 13 rfl) (fun c_9 => ?_) (fun c_9 => ?_)
        · have hf := if_t hf c_9
          refine g_aload_n 0 C (ckD_get k_X10_shape_0 17 rfl) rfl rfl ?_
          obtain ⟨M_11, hr_10, hf⟩ := bd_e hf
          refine n_cV [] [] C (ckD_get k_X10_shape_0 18 rfl) vk_X10_275 (t_X10_findCurve C.tr _ _ hr_10) T69 rfl rfl (Nat.le_of_ble_eq_true rfl) (by decide) hB rfl ?_
          refine g_iload_n 1 C (ckD_get k_X10_shape_0 19 rfl) rfl rfl ?_
          refine g_aload_n 0 C (ckD_get k_X10_shape_0 20 rfl) rfl rfl ?_
          refine g_getI C (ckD_get k_X10_shape_0 21 rfl) fk_X10_269 T69 rfl ?_
          refine g_icmp_lt C (ckD_get k_X10_shape_0 22 rfl) (fun c_12 => ?_) (fun c_12 => ?_)
          · have hf := if_t hf c_12
            refine g_iload_n 2 C (ckD_get k_X10_shape_0 26 rfl) rfl rfl ?_
            refine g_if_ne C (ckD_get k_X10_shape_0 27 rfl) (fun c_13 => ?_) (fun c_13 => ?_)
            · have hf := if_f hf c_13
              refine g_aload_n 0 C (ckD_get k_X10_shape_0 33 rfl) rfl rfl ?_
              refine g_getR C (ckD_get k_X10_shape_0 34 rfl) fk_X10_60 T69 rfl ?_
              refine g_iload_n 1 C (ckD_get k_X10_shape_0 35 rfl) rfl rfl ?_
              obtain ⟨v_14, hi_15, ev_14, hf⟩ := rdI_e hf
              refine n_iald C (ckD_get k_X10_shape_0 36 rfl) T85 hi_15 ev_14 ?_
              cases hf
              exact g_iret C (ckD_get k_X10_shape_0 37 rfl) hr hRv (Nat.le_refl _) (Nat.le_refl _)
            · have hf := if_t hf c_13
              refine g_aload_n 0 C (ckD_get k_X10_shape_0 28 rfl) rfl rfl ?_
              refine g_getR C (ckD_get k_X10_shape_0 29 rfl) fk_X10_57 T69 rfl ?_
              refine g_iload_n 1 C (ckD_get k_X10_shape_0 30 rfl) rfl rfl ?_
              obtain ⟨v_16, hi_17, ev_16, hf⟩ := rdI_e hf
              refine n_iald C (ckD_get k_X10_shape_0 31 rfl) T84 hi_17 ev_16 ?_
              refine g_goto C (ckD_get k_X10_shape_0 32 rfl) ?_
              cases hf
              exact g_iret C (ckD_get k_X10_shape_0 37 rfl) hr hRv (Nat.le_refl _) (Nat.le_refl _)
          · have hf := if_f hf c_12
            refine g_aload_n 0 C (ckD_get k_X10_shape_0 23 rfl) rfl rfl ?_
            obtain ⟨z_20, ez_20, hf⟩ := lt_e hf
            refine n_cV [] [] C (ckD_get k_X10_shape_0 24 rfl) vk_X10_134 (t_X10_fail C.tr _ _ ez_20) T69 rfl rfl (Nat.le_of_ble_eq_true rfl) (by decide) hB rfl ?_
            refine g_goto C (ckD_get k_X10_shape_0 25 rfl) ?_
            cases hf
            exact g_iret C (ckD_get k_X10_shape_0 37 rfl) hr hRv (Nat.le_refl _) (Nat.le_refl _)
        · have hf := if_f hf c_9
          refine G.sub [0] rfl ?_
          exact hJ_26 _ hf

set_option maxRecDepth 20000 in
theorem k_X10_best_0 : ckD cX10_best [(0, .aload_n 0, 1, 1, 0), (1, .iconst 0, 1, 2, 0), (2, .putfield 121, 3, 5, 0), (5, .aload_n 0, 1, 6, 0), (6, .getfield 23, 3, 9, 0), (9, .iconst 2, 1, 10, 0), (10, .if_icmp .ne 7, 3, 13, 17), (13, .iload_n 1, 1, 14, 0), (14, .ifCond .ge 8, 3, 17, 22), (17, .aload_n 0, 1, 18, 0), (18, .invokevirtual 134, 3, 21, 0), (21, .ireturn, 1, 22, 0), (22, .aload_n 0, 1, 23, 0), (23, .invokevirtual 275, 3, 26, 0), (26, .iload_n 1, 1, 27, 0), (27, .aload_n 0, 1, 28, 0), (28, .getfield 269, 3, 31, 0), (31, .if_icmp .lt 8, 3, 34, 39), (34, .aload_n 0, 1, 35, 0), (35, .invokevirtual 134, 3, 38, 0), (38, .ireturn, 1, 39, 0), (39, .aload_n 0, 1, 40, 0), (40, .invokevirtual 169, 3, 43, 0), (43, .istore_n 2, 1, 44, 0), (44, .iconst 0, 1, 45, 0), (45, .istore_n 3, 1, 46, 0), (46, .iload_n 3, 1, 47, 0), (47, .iload_n 2, 1, 48, 0), (48, .if_icmp .gt 79, 3, 51, 127), (51, .iload_n 3, 1, 52, 0), (52, .iload_n 2, 1, 53, 0), (53, .iconst (-1), 1, 54, 0), (54, .ixor, 1, 55, 0), (55, .iand, 1, 56, 0), (56, .ifCond .eq 6, 3, 59, 62), (59, .goto 62, 3, 62, 121), (62, .aload_n 0, 1, 63, 0), (63, .iload_n 3, 1, 64, 0), (64, .putfield 127, 3, 67, 0), (67, .aload_n 0, 1, 68, 0)] = true := by decide +kernel
set_option maxRecDepth 20000 in
theorem k_X10_best_1 : ckD cX10_best [(68, .aload_n 0, 1, 69, 0), (69, .getfield 39, 3, 72, 0), (72, .invokevirtual 178, 3, 75, 0), (75, .aload_n 0, 1, 76, 0), (76, .getfield 72, 3, 79, 0), (79, .aload_n 0, 1, 80, 0), (80, .invokevirtual 175, 3, 83, 0), (83, .iconst 1, 1, 84, 0), (84, .isub, 1, 85, 0), (85, .iaload, 1, 86, 0), (86, .aload_n 0, 1, 87, 0), (87, .getfield 57, 3, 90, 0), (90, .iload_n 1, 1, 91, 0), (91, .iaload, 1, 92, 0), (92, .if_icmp .ne 29, 3, 95, 121), (95, .aload_n 0, 1, 96, 0), (96, .getfield 75, 3, 99, 0), (99, .aload_n 0, 1, 100, 0), (100, .invokevirtual 175, 3, 103, 0), (103, .iconst 1, 1, 104, 0), (104, .isub, 1, 105, 0), (105, .iaload, 1, 106, 0), (106, .aload_n 0, 1, 107, 0), (107, .getfield 60, 3, 110, 0), (110, .iload_n 1, 1, 111, 0), (111, .iaload, 1, 112, 0), (112, .if_icmp .ne 9, 3, 115, 121), (115, .aload_n 0, 1, 116, 0), (116, .invokevirtual 186, 3, 119, 0), (119, .iload_n 3, 1, 120, 0), (120, .ireturn, 1, 121, 0), (121, .iinc 3 1, 3, 124, 0), (124, .goto (-78), 3, 127, 46), (127, .iconst 0, 1, 128, 0), (128, .ireturn, 1, 129, 0)] = true := by decide +kernel
def f_X10_best_J17 (M_2 : Mm) : Option (Int32 × Mm) := lt1 (f_X10_fail M_2) fun z_5 => some (z_5.1, z_5.2)
def f_X10_best_A46 (M_15 : Mm) : Option (Int32 × Mm) := some ((0 : Int32), M_15)
def f_X10_best_J121 (x3_13 : Int32) (M_17 : Mm) : Option ((Int32 × Mm) ⊕ (Mm ⊕ (Int32 × Mm))) := lt1 (x3_13 + 1) fun x3_18 => some (.inl (x3_18, M_17))
def f_X10_best_L46 (a1 : Int32) (r_12 : Int32) (x3_13 : Int32) (M_14 : Mm) : Option ((Int32 × Mm) ⊕ (Mm ⊕ (Int32 × Mm))) := if r_12 < x3_13 then some (.inr (.inl M_14)) else if (x3_13 &&& (r_12 ^^^ (-1 : Int32))) = 0 then lt1 (wi M_14 69 7 x3_13) fun M_20 => (f_X10_makeParts 78 M_20).bind fun M_22 => rdI 23 M_22 89 ((f_X10_rowSize M_22) - (1 : Int32)) fun v_23 => rdI 4096 M_22 84 a1 fun v_25 => if v_23 = v_25 then rdI 23 M_22 90 ((f_X10_rowSize M_22) - (1 : Int32)) fun v_28 => rdI 4096 M_22 85 a1 fun v_30 => if v_28 = v_30 then (f_X10_layCuts M_22).bind fun M_34 => some (.inr (.inr (x3_13, M_34))) else f_X10_best_J121 x3_13 M_22 else f_X10_best_J121 x3_13 M_22 else f_X10_best_J121 x3_13 M_14
def f_X10_best (a1 : Int32) (M : Mm) : Option (Int32 × Mm) := lt1 (wi M 69 0 (0 : Int32)) fun M_1 => if (M_1.1 69 6) = (2 : Int32) then (if 0 ≤ a1 then (f_X10_findCurve M_1).bind fun M_9 => if a1 < (M_9.1 69 21) then (f_X10_turnable M_9).bind fun r_12 => (loop (fun v => f_X10_best_L46 a1 r_12 v.1 v.2) FU ((0 : Int32), M_9)).bind fun x => Sum.elim (fun z => f_X10_best_A46 z) (fun o => some o) x else lt1 (f_X10_fail M_9) fun z_37 => some (z_37.1, z_37.2) else f_X10_best_J17 M_1) else f_X10_best_J17 M_1
set_option maxRecDepth 100000 in
set_option maxHeartbeats 4000000 in
theorem t_X10_best {E : Ev} {l : Launch} (htr : l.stackTraces = false) (a1 : Int32) (M : Mm) (r : (Int32 × Mm)) (hf : f_X10_best a1 M = some r) : CM E l 3 0 0 yX10_best cX10_best 4 (some .int) [.ref (E.1 + 69), .int a1] M (some (.int r.1)) r.2 := by
  refine CM.of htr (by decide +kernel) (Nat.le_of_ble_eq_true rfl) ?_
  intro K hE hL hl hR0 C hr hRv
  subst hE
  subst hl
  have C : Cx K cX10_best RX10 3 := C
  have hB : (0 : Nat) ≤ K.1.R.cells ∧ 0 ≤ K.1.R.slots := ⟨Nat.zero_le _, Nat.zero_le _⟩
  have hL2 : 2 < K.2.2.1 := by rw [hL]; decide
  have hL3 : 3 < K.2.2.1 := by rw [hL]; decide
  show G K (0, 0) 0 [(0, .ref (K.2.1.1 + 69)), (1, .int a1)] [] M
  unfold f_X10_best at hf
  refine g_aload_n 0 C (ckD_get k_X10_best_0 0 rfl) rfl rfl ?_
  refine g_iconst (v := (0 : Int32)) C (ckD_get k_X10_best_0 1 rfl) (by decide) ?_
  obtain ⟨M_1, eM_1, hf⟩ := lt_e hf
  refine g_putI C (ckD_get k_X10_best_0 2 rfl) fk_X10_121 T69 rfl ?_
  refine memI eM_1 ?_
  refine g_aload_n 0 C (ckD_get k_X10_best_0 3 rfl) rfl rfl ?_
  refine g_getI C (ckD_get k_X10_best_0 4 rfl) fk_X10_23 T69 rfl ?_
  refine g_iconst (v := (2 : Int32)) C (ckD_get k_X10_best_0 5 rfl) (by decide) ?_
  have hJ_17 : ∀ (M_2 : Mm), f_X10_best_J17 M_2 = some r → G K (0, 0) 17 [(0, .ref (K.2.1.1 + 69))] [] M_2 := by
    intro M_2 hf
    unfold f_X10_best_J17 at hf
    refine g_aload_n 0 C (ckD_get k_X10_best_0 9 rfl) rfl rfl ?_
    obtain ⟨z_5, ez_5, hf⟩ := lt_e hf
    refine n_cV [] [] C (ckD_get k_X10_best_0 10 rfl) vk_X10_134 (t_X10_fail C.tr _ _ ez_5) T69 rfl rfl (Nat.le_of_ble_eq_true rfl) (by decide) hB rfl ?_
    cases hf
    exact g_iret C (ckD_get k_X10_best_0 11 rfl) hr hRv (Nat.le_refl _) (Nat.le_refl _)
  refine g_icmp_ne C (ckD_get k_X10_best_0 6 rfl) (fun c_6 => ?_) (fun c_6 => ?_)
  · have hf := if_f hf c_6
    refine G.sub [0] rfl ?_
    exact hJ_17 _ hf
  · have hf := if_t hf c_6
    refine g_iload_n 1 C (ckD_get k_X10_best_0 7 rfl) rfl rfl ?_
    refine g_if_ge C (ckD_get k_X10_best_0 8 rfl) (fun c_7 => ?_) (fun c_7 => ?_)
    · have hf := if_t hf c_7
      refine g_aload_n 0 C (ckD_get k_X10_best_0 12 rfl) rfl rfl ?_
      obtain ⟨M_9, hr_8, hf⟩ := bd_e hf
      refine n_cV [] [] C (ckD_get k_X10_best_0 13 rfl) vk_X10_275 (t_X10_findCurve C.tr _ _ hr_8) T69 rfl rfl (Nat.le_of_ble_eq_true rfl) (by decide) hB rfl ?_
      refine g_iload_n 1 C (ckD_get k_X10_best_0 14 rfl) rfl rfl ?_
      refine g_aload_n 0 C (ckD_get k_X10_best_0 15 rfl) rfl rfl ?_
      refine g_getI C (ckD_get k_X10_best_0 16 rfl) fk_X10_269 T69 rfl ?_
      refine g_icmp_lt C (ckD_get k_X10_best_0 17 rfl) (fun c_10 => ?_) (fun c_10 => ?_)
      · have hf := if_t hf c_10
        refine g_aload_n 0 C (ckD_get k_X10_best_0 21 rfl) rfl rfl ?_
        obtain ⟨r_12, hr_11, hf⟩ := bd_e hf
        refine n_cV [] [] C (ckD_get k_X10_best_0 22 rfl) vk_X10_169 (t_X10_turnable C.tr _ _ hr_11) T69 rfl rfl (Nat.le_of_ble_eq_true rfl) (by decide) hB rfl ?_
        refine g_istore_n (lv' := [(2, _), (0, _), (1, _)]) C (ckD_get k_X10_best_0 23 rfl) rfl hL2 rfl ?_
        refine g_iconst (v := (0 : Int32)) C (ckD_get k_X10_best_0 24 rfl) (by decide) ?_
        refine g_istore_n (lv' := [(3, _), (2, _), (0, _), (1, _)]) C (ckD_get k_X10_best_0 25 rfl) rfl hL3 rfl ?_
        refine G.sub [2, 3, 1, 0] rfl ?_
        obtain ⟨xx_46, hx_46, hf⟩ := bd_e hf
        have hE_46 : ∀ (M_15 : Mm), xx_46 = .inl M_15 → G K (0, 0) 127 [] [] M_15 := by
          intro M_15 ex
          subst ex
          have hf : f_X10_best_A46 M_15 = some r := hf
          unfold f_X10_best_A46 at hf
          refine g_iconst (v := (0 : Int32)) C (ckD_get k_X10_best_1 33 rfl) (by decide) ?_
          cases hf
          exact g_iret C (ckD_get k_X10_best_1 34 rfl) hr hRv (Nat.le_refl _) (Nat.le_refl _)
        have hO_46 : ∀ o, xx_46 = .inr o → o = r := by
          intro o eo
          subst eo
          have hf : some o = some r := hf
          cases hf
          rfl
        refine loop_e (x := xx_46) (P := fun (v : (Int32 × Mm)) => G K (0, 0) 46 [(0, .ref (K.2.1.1 + 69)), (1, .int a1), (2, .int r_12), (3, .int v.1)] [] v.2) ?_ FU _ hx_46
        intro v rr_46 hf hn_46 hz_46
        obtain ⟨x3_13, M_14⟩ := v
        have hf : f_X10_best_L46 a1 r_12 x3_13 M_14 = some rr_46 := hf
        show G K (0, 0) 46 [(0, .ref (K.2.1.1 + 69)), (1, .int a1), (2, .int r_12), (3, .int x3_13)] [] M_14
        unfold f_X10_best_L46 at hf
        refine g_iload_n 3 C (ckD_get k_X10_best_0 26 rfl) rfl rfl ?_
        refine g_iload_n 2 C (ckD_get k_X10_best_0 27 rfl) rfl rfl ?_
        refine g_icmp_gt C (ckD_get k_X10_best_0 28 rfl) (fun c_16 => ?_) (fun c_16 => ?_)
        · have hf := if_t hf c_16
          refine G.sub [] rfl ?_
          cases hf
          exact hE_46 _ (hz_46 _ rfl).symm
        · have hf := if_f hf c_16
          refine g_iload_n 3 C (ckD_get k_X10_best_0 29 rfl) rfl rfl ?_
          refine g_iload_n 2 C (ckD_get k_X10_best_0 30 rfl) rfl rfl ?_
          refine g_iconst (v := (-1 : Int32)) C (ckD_get k_X10_best_0 31 rfl) (by decide) ?_
          refine g_ixor C (ckD_get k_X10_best_0 32 rfl) ?_
          refine g_iand C (ckD_get k_X10_best_0 33 rfl) ?_
          have hJ_121 : ∀ (M_17 : Mm), f_X10_best_J121 x3_13 M_17 = some rr_46 → G K (0, 0) 121 [(0, .ref (K.2.1.1 + 69)), (1, .int a1), (2, .int r_12), (3, .int x3_13)] [] M_17 := by
            intro M_17 hf
            unfold f_X10_best_J121 at hf
            obtain ⟨x3_18, ex3_18, hf⟩ := lt_e hf
            refine g_iinc (lv' := [(3, _), (0, _), (1, _), (2, _)]) 3 C (ckD_get k_X10_best_1 31 rfl) rfl ex3_18 hL3 rfl ?_
            refine g_goto C (ckD_get k_X10_best_1 32 rfl) ?_
            refine G.sub [1, 2, 3, 0] rfl ?_
            cases hf
            exact hn_46 _ rfl
          refine g_if_eq C (ckD_get k_X10_best_0 34 rfl) (fun c_19 => ?_) (fun c_19 => ?_)
          · have hf := if_t hf c_19
            refine g_aload_n 0 C (ckD_get k_X10_best_0 36 rfl) rfl rfl ?_
            refine g_iload_n 3 C (ckD_get k_X10_best_0 37 rfl) rfl rfl ?_
            obtain ⟨M_20, eM_20, hf⟩ := lt_e hf
            refine g_putI C (ckD_get k_X10_best_0 38 rfl) fk_X10_127 T69 rfl ?_
            refine memI eM_20 ?_
            refine g_aload_n 0 C (ckD_get k_X10_best_0 39 rfl) rfl rfl ?_
            refine g_aload_n 0 C (ckD_get k_X10_best_1 0 rfl) rfl rfl ?_
            refine g_getR C (ckD_get k_X10_best_1 1 rfl) fk_X10_39 T69 rfl ?_
            obtain ⟨M_22, hr_21, hf⟩ := bd_e hf
            refine n_cV [.ref (K.2.1.1 + 78)] [] C (ckD_get k_X10_best_1 2 rfl) vk_X10_178 (t_X10_makeParts C.tr _ T78 _ _ hr_21) T69 rfl rfl (Nat.le_of_ble_eq_true rfl) (by decide) hB rfl ?_
            refine g_aload_n 0 C (ckD_get k_X10_best_1 3 rfl) rfl rfl ?_
            refine g_getR C (ckD_get k_X10_best_1 4 rfl) fk_X10_72 T69 rfl ?_
            refine g_aload_n 0 C (ckD_get k_X10_best_1 5 rfl) rfl rfl ?_
            refine n_cV [] [.ref (K.2.1.1 + 89)] C (ckD_get k_X10_best_1 6 rfl) vk_X10_175 (t_X10_rowSize C.tr _ _ rfl) T69 rfl rfl (Nat.le_of_ble_eq_true rfl) (by decide) hB rfl ?_
            refine g_iconst (v := (1 : Int32)) C (ckD_get k_X10_best_1 7 rfl) (by decide) ?_
            refine g_isub C (ckD_get k_X10_best_1 8 rfl) ?_
            obtain ⟨v_23, hi_24, ev_23, hf⟩ := rdI_e hf
            refine n_iald C (ckD_get k_X10_best_1 9 rfl) T89 hi_24 ev_23 ?_
            refine g_aload_n 0 C (ckD_get k_X10_best_1 10 rfl) rfl rfl ?_
            refine g_getR C (ckD_get k_X10_best_1 11 rfl) fk_X10_57 T69 rfl ?_
            refine g_iload_n 1 C (ckD_get k_X10_best_1 12 rfl) rfl rfl ?_
            obtain ⟨v_25, hi_26, ev_25, hf⟩ := rdI_e hf
            refine n_iald C (ckD_get k_X10_best_1 13 rfl) T84 hi_26 ev_25 ?_
            refine g_icmp_ne C (ckD_get k_X10_best_1 14 rfl) (fun c_27 => ?_) (fun c_27 => ?_)
            · have hf := if_f hf c_27
              exact hJ_121 _ hf
            · have hf := if_t hf c_27
              refine g_aload_n 0 C (ckD_get k_X10_best_1 15 rfl) rfl rfl ?_
              refine g_getR C (ckD_get k_X10_best_1 16 rfl) fk_X10_75 T69 rfl ?_
              refine g_aload_n 0 C (ckD_get k_X10_best_1 17 rfl) rfl rfl ?_
              refine n_cV [] [.ref (K.2.1.1 + 90)] C (ckD_get k_X10_best_1 18 rfl) vk_X10_175 (t_X10_rowSize C.tr _ _ rfl) T69 rfl rfl (Nat.le_of_ble_eq_true rfl) (by decide) hB rfl ?_
              refine g_iconst (v := (1 : Int32)) C (ckD_get k_X10_best_1 19 rfl) (by decide) ?_
              refine g_isub C (ckD_get k_X10_best_1 20 rfl) ?_
              obtain ⟨v_28, hi_29, ev_28, hf⟩ := rdI_e hf
              refine n_iald C (ckD_get k_X10_best_1 21 rfl) T90 hi_29 ev_28 ?_
              refine g_aload_n 0 C (ckD_get k_X10_best_1 22 rfl) rfl rfl ?_
              refine g_getR C (ckD_get k_X10_best_1 23 rfl) fk_X10_60 T69 rfl ?_
              refine g_iload_n 1 C (ckD_get k_X10_best_1 24 rfl) rfl rfl ?_
              obtain ⟨v_30, hi_31, ev_30, hf⟩ := rdI_e hf
              refine n_iald C (ckD_get k_X10_best_1 25 rfl) T85 hi_31 ev_30 ?_
              refine g_icmp_ne C (ckD_get k_X10_best_1 26 rfl) (fun c_32 => ?_) (fun c_32 => ?_)
              · have hf := if_f hf c_32
                exact hJ_121 _ hf
              · have hf := if_t hf c_32
                refine g_aload_n 0 C (ckD_get k_X10_best_1 27 rfl) rfl rfl ?_
                obtain ⟨M_34, hr_33, hf⟩ := bd_e hf
                refine n_cV [] [] C (ckD_get k_X10_best_1 28 rfl) vk_X10_186 (t_X10_layCuts C.tr _ _ hr_33) T69 rfl rfl (Nat.le_of_ble_eq_true rfl) (by decide) hB rfl ?_
                refine g_iload_n 3 C (ckD_get k_X10_best_1 29 rfl) rfl rfl ?_
                cases hf
                cases hO_46 _ (hz_46 _ rfl).symm
                exact g_iret C (ckD_get k_X10_best_1 30 rfl) hr hRv (Nat.le_refl _) (Nat.le_refl _)
          · have hf := if_f hf c_19
            refine g_goto C (ckD_get k_X10_best_0 35 rfl) ?_
            exact hJ_121 _ hf
      · have hf := if_f hf c_10
        refine g_aload_n 0 C (ckD_get k_X10_best_0 18 rfl) rfl rfl ?_
        obtain ⟨z_37, ez_37, hf⟩ := lt_e hf
        refine n_cV [] [] C (ckD_get k_X10_best_0 19 rfl) vk_X10_134 (t_X10_fail C.tr _ _ ez_37) T69 rfl rfl (Nat.le_of_ble_eq_true rfl) (by decide) hB rfl ?_
        cases hf
        exact g_iret C (ckD_get k_X10_best_0 20 rfl) hr hRv (Nat.le_refl _) (Nat.le_refl _)
    · have hf := if_f hf c_7
      refine G.sub [0] rfl ?_
      exact hJ_17 _ hf

set_option maxRecDepth 20000 in
theorem k_X10_swap_0 : ckD cX10_swap [(0, .aload_n 0, 1, 1, 0), (1, .iconst 0, 1, 2, 0), (2, .putfield 121, 3, 5, 0), (5, .aload_n 0, 1, 6, 0), (6, .getfield 23, 3, 9, 0), (9, .iconst 1, 1, 10, 0), (10, .if_icmp .ne 36, 3, 13, 46), (13, .iload_n 1, 1, 14, 0), (14, .ifCond .lt 32, 3, 17, 46), (17, .iload_n 1, 1, 18, 0), (18, .iconst 1, 1, 19, 0), (19, .if_icmp .gt 27, 3, 22, 46), (22, .iload_n 2, 1, 23, 0), (23, .ifCond .lt 23, 3, 26, 46), (26, .iload_n 2, 1, 27, 0), (27, .aload_n 0, 1, 28, 0), (28, .getfield 124, 3, 31, 0), (31, .if_icmp .ge 15, 3, 34, 46), (34, .iload_n 3, 1, 35, 0), (35, .ifCond .lt 11, 3, 38, 46), (38, .iload_n 3, 1, 39, 0), (39, .aload_n 0, 1, 40, 0), (40, .getfield 124, 3, 43, 0), (43, .if_icmp .lt 5, 3, 46, 48), (46, .iconst 0, 1, 47, 0), (47, .ireturn, 1, 48, 0), (48, .iload_n 1, 1, 49, 0), (49, .ifCond .ne 10, 3, 52, 59), (52, .aload_n 0, 1, 53, 0), (53, .getfield 33, 3, 56, 0), (56, .goto 7, 3, 59, 63), (59, .aload_n 0, 1, 60, 0), (60, .getfield 36, 3, 63, 0), (63, .astore 4, 2, 65, 0), (65, .aload 4, 2, 67, 0), (67, .iload_n 2, 1, 68, 0), (68, .iaload, 1, 69, 0), (69, .istore 5, 2, 71, 0), (71, .aload 4, 2, 73, 0), (73, .iload_n 2, 1, 74, 0)] = true := by decide +kernel
set_option maxRecDepth 20000 in
theorem k_X10_swap_1 : ckD cX10_swap [(74, .aload 4, 2, 76, 0), (76, .iload_n 3, 1, 77, 0), (77, .iaload, 1, 78, 0), (78, .iastore, 1, 79, 0), (79, .aload 4, 2, 81, 0), (81, .iload_n 3, 1, 82, 0), (82, .iload 5, 2, 84, 0), (84, .iastore, 1, 85, 0), (85, .aload_n 0, 1, 86, 0), (86, .invokevirtual 172, 3, 89, 0), (89, .iconst 1, 1, 90, 0), (90, .ireturn, 1, 91, 0)] = true := by decide +kernel
def f_X10_swap (a1 : Int32) (a2 : Int32) (a3 : Int32) (M : Mm) : Option (Int32 × Mm) := lt1 (wi M 69 0 (0 : Int32)) fun M_1 => if (M_1.1 69 6) = (1 : Int32) then (if a1 < 0 then some ((0 : Int32), M_1) else if (1 : Int32) < a1 then some ((0 : Int32), M_1) else if a2 < 0 then some ((0 : Int32), M_1) else if (M_1.1 69 1) ≤ a2 then some ((0 : Int32), M_1) else if a3 < 0 then some ((0 : Int32), M_1) else if a3 < (M_1.1 69 1) then (if a1 = 0 then rdI 12 M_1 76 a2 fun v_20 => rdI 12 M_1 76 a3 fun v_22 => wrI 12 M_1 76 a2 v_22 fun M_24 => wrI 12 M_24 76 a3 v_20 fun M_26 => (f_X10_layPair M_26).bind fun M_29 => some ((1 : Int32), M_29) else rdI 12 M_1 77 a2 fun v_10 => rdI 12 M_1 77 a3 fun v_12 => wrI 12 M_1 77 a2 v_12 fun M_14 => wrI 12 M_14 77 a3 v_10 fun M_16 => (f_X10_layPair M_16).bind fun M_19 => some ((1 : Int32), M_19)) else some ((0 : Int32), M_1)) else some ((0 : Int32), M_1)
set_option maxRecDepth 100000 in
set_option maxHeartbeats 4000000 in
theorem t_X10_swap {E : Ev} {l : Launch} (htr : l.stackTraces = false) (a1 : Int32) (a2 : Int32) (a3 : Int32) (M : Mm) (r : (Int32 × Mm)) (hf : f_X10_swap a1 a2 a3 M = some r) : CM E l 3 0 0 yX10_swap cX10_swap 6 (some .boolean) [.ref (E.1 + 69), .int a1, .int a2, .int a3] M (some (.int r.1)) r.2 := by
  refine CM.of htr (by decide +kernel) (Nat.le_of_ble_eq_true rfl) ?_
  intro K hE hL hl hR0 C hr hRv
  subst hE
  subst hl
  have C : Cx K cX10_swap RX10 3 := C
  have hB : (0 : Nat) ≤ K.1.R.cells ∧ 0 ≤ K.1.R.slots := ⟨Nat.zero_le _, Nat.zero_le _⟩
  have hL4 : 4 < K.2.2.1 := by rw [hL]; decide
  have hL5 : 5 < K.2.2.1 := by rw [hL]; decide
  show G K (0, 0) 0 [(0, .ref (K.2.1.1 + 69)), (1, .int a1), (2, .int a2), (3, .int a3)] [] M
  unfold f_X10_swap at hf
  refine g_aload_n 0 C (ckD_get k_X10_swap_0 0 rfl) rfl rfl ?_
  refine g_iconst (v := (0 : Int32)) C (ckD_get k_X10_swap_0 1 rfl) (by decide) ?_
  obtain ⟨M_1, eM_1, hf⟩ := lt_e hf
  refine g_putI C (ckD_get k_X10_swap_0 2 rfl) fk_X10_121 T69 rfl ?_
  refine memI eM_1 ?_
  refine g_aload_n 0 C (ckD_get k_X10_swap_0 3 rfl) rfl rfl ?_
  refine g_getI C (ckD_get k_X10_swap_0 4 rfl) fk_X10_23 T69 rfl ?_
  refine g_iconst (v := (1 : Int32)) C (ckD_get k_X10_swap_0 5 rfl) (by decide) ?_
  refine g_icmp_ne C (ckD_get k_X10_swap_0 6 rfl) (fun c_2 => ?_) (fun c_2 => ?_)
  · have hf := if_f hf c_2
    refine g_iconst (v := (0 : Int32)) C (ckD_get k_X10_swap_0 24 rfl) (by decide) ?_
    cases hf
    exact g_zret C (ckD_get k_X10_swap_0 25 rfl) hr rfl hRv (Nat.le_refl _) (Nat.le_refl _)
  · have hf := if_t hf c_2
    refine g_iload_n 1 C (ckD_get k_X10_swap_0 7 rfl) rfl rfl ?_
    refine g_if_lt C (ckD_get k_X10_swap_0 8 rfl) (fun c_3 => ?_) (fun c_3 => ?_)
    · have hf := if_t hf c_3
      refine g_iconst (v := (0 : Int32)) C (ckD_get k_X10_swap_0 24 rfl) (by decide) ?_
      cases hf
      exact g_zret C (ckD_get k_X10_swap_0 25 rfl) hr rfl hRv (Nat.le_refl _) (Nat.le_refl _)
    · have hf := if_f hf c_3
      refine g_iload_n 1 C (ckD_get k_X10_swap_0 9 rfl) rfl rfl ?_
      refine g_iconst (v := (1 : Int32)) C (ckD_get k_X10_swap_0 10 rfl) (by decide) ?_
      refine g_icmp_gt C (ckD_get k_X10_swap_0 11 rfl) (fun c_4 => ?_) (fun c_4 => ?_)
      · have hf := if_t hf c_4
        refine g_iconst (v := (0 : Int32)) C (ckD_get k_X10_swap_0 24 rfl) (by decide) ?_
        cases hf
        exact g_zret C (ckD_get k_X10_swap_0 25 rfl) hr rfl hRv (Nat.le_refl _) (Nat.le_refl _)
      · have hf := if_f hf c_4
        refine g_iload_n 2 C (ckD_get k_X10_swap_0 12 rfl) rfl rfl ?_
        refine g_if_lt C (ckD_get k_X10_swap_0 13 rfl) (fun c_5 => ?_) (fun c_5 => ?_)
        · have hf := if_t hf c_5
          refine g_iconst (v := (0 : Int32)) C (ckD_get k_X10_swap_0 24 rfl) (by decide) ?_
          cases hf
          exact g_zret C (ckD_get k_X10_swap_0 25 rfl) hr rfl hRv (Nat.le_refl _) (Nat.le_refl _)
        · have hf := if_f hf c_5
          refine g_iload_n 2 C (ckD_get k_X10_swap_0 14 rfl) rfl rfl ?_
          refine g_aload_n 0 C (ckD_get k_X10_swap_0 15 rfl) rfl rfl ?_
          refine g_getI C (ckD_get k_X10_swap_0 16 rfl) fk_X10_124 T69 rfl ?_
          refine g_icmp_ge C (ckD_get k_X10_swap_0 17 rfl) (fun c_6 => ?_) (fun c_6 => ?_)
          · have hf := if_t hf c_6
            refine g_iconst (v := (0 : Int32)) C (ckD_get k_X10_swap_0 24 rfl) (by decide) ?_
            cases hf
            exact g_zret C (ckD_get k_X10_swap_0 25 rfl) hr rfl hRv (Nat.le_refl _) (Nat.le_refl _)
          · have hf := if_f hf c_6
            refine g_iload_n 3 C (ckD_get k_X10_swap_0 18 rfl) rfl rfl ?_
            refine g_if_lt C (ckD_get k_X10_swap_0 19 rfl) (fun c_7 => ?_) (fun c_7 => ?_)
            · have hf := if_t hf c_7
              refine g_iconst (v := (0 : Int32)) C (ckD_get k_X10_swap_0 24 rfl) (by decide) ?_
              cases hf
              exact g_zret C (ckD_get k_X10_swap_0 25 rfl) hr rfl hRv (Nat.le_refl _) (Nat.le_refl _)
            · have hf := if_f hf c_7
              refine g_iload_n 3 C (ckD_get k_X10_swap_0 20 rfl) rfl rfl ?_
              refine g_aload_n 0 C (ckD_get k_X10_swap_0 21 rfl) rfl rfl ?_
              refine g_getI C (ckD_get k_X10_swap_0 22 rfl) fk_X10_124 T69 rfl ?_
              refine g_icmp_lt C (ckD_get k_X10_swap_0 23 rfl) (fun c_8 => ?_) (fun c_8 => ?_)
              · have hf := if_t hf c_8
                refine g_iload_n 1 C (ckD_get k_X10_swap_0 26 rfl) rfl rfl ?_
                refine g_if_ne C (ckD_get k_X10_swap_0 27 rfl) (fun c_9 => ?_) (fun c_9 => ?_)
                · have hf := if_f hf c_9
                  refine g_aload_n 0 C (ckD_get k_X10_swap_0 31 rfl) rfl rfl ?_
                  refine g_getR C (ckD_get k_X10_swap_0 32 rfl) fk_X10_36 T69 rfl ?_
                  refine g_astore (lv' := [(4, _), (0, _), (1, _), (2, _), (3, _)]) C (ckD_get k_X10_swap_0 33 rfl) hL4 rfl ?_
                  refine g_aload 0 C (ckD_get k_X10_swap_0 34 rfl) rfl ?_
                  refine g_iload_n 3 C (ckD_get k_X10_swap_0 35 rfl) rfl rfl ?_
                  obtain ⟨v_10, hi_11, ev_10, hf⟩ := rdI_e hf
                  refine n_iald C (ckD_get k_X10_swap_0 36 rfl) T77 hi_11 ev_10 ?_
                  refine g_istore (lv' := [(5, _), (4, _), (0, _), (1, _), (2, _), (3, _)]) C (ckD_get k_X10_swap_0 37 rfl) hL5 rfl ?_
                  refine g_aload 1 C (ckD_get k_X10_swap_0 38 rfl) rfl ?_
                  refine g_iload_n 4 C (ckD_get k_X10_swap_0 39 rfl) rfl rfl ?_
                  refine g_aload 1 C (ckD_get k_X10_swap_1 0 rfl) rfl ?_
                  refine g_iload_n 5 C (ckD_get k_X10_swap_1 1 rfl) rfl rfl ?_
                  obtain ⟨v_12, hi_13, ev_12, hf⟩ := rdI_e hf
                  refine n_iald C (ckD_get k_X10_swap_1 2 rfl) T77 hi_13 ev_12 ?_
                  obtain ⟨M_14, hi_15, eM_14, hf⟩ := wrI_e hf
                  refine n_iast C (ckD_get k_X10_swap_1 3 rfl) T77 hi_15 eM_14 ?_
                  refine g_aload 1 C (ckD_get k_X10_swap_1 4 rfl) rfl ?_
                  refine g_iload_n 5 C (ckD_get k_X10_swap_1 5 rfl) rfl rfl ?_
                  refine g_iload 0 C (ckD_get k_X10_swap_1 6 rfl) rfl ?_
                  obtain ⟨M_16, hi_17, eM_16, hf⟩ := wrI_e hf
                  refine n_iast C (ckD_get k_X10_swap_1 7 rfl) T77 hi_17 eM_16 ?_
                  refine g_aload_n 2 C (ckD_get k_X10_swap_1 8 rfl) rfl rfl ?_
                  obtain ⟨M_19, hr_18, hf⟩ := bd_e hf
                  refine n_cV [] [] C (ckD_get k_X10_swap_1 9 rfl) vk_X10_172 (t_X10_layPair C.tr _ _ hr_18) T69 rfl rfl (Nat.le_of_ble_eq_true rfl) (by decide) hB rfl ?_
                  refine g_iconst (v := (1 : Int32)) C (ckD_get k_X10_swap_1 10 rfl) (by decide) ?_
                  cases hf
                  exact g_zret C (ckD_get k_X10_swap_1 11 rfl) hr rfl hRv (Nat.le_refl _) (Nat.le_refl _)
                · have hf := if_t hf c_9
                  refine g_aload_n 0 C (ckD_get k_X10_swap_0 28 rfl) rfl rfl ?_
                  refine g_getR C (ckD_get k_X10_swap_0 29 rfl) fk_X10_33 T69 rfl ?_
                  refine g_goto C (ckD_get k_X10_swap_0 30 rfl) ?_
                  refine g_astore (lv' := [(4, _), (0, _), (1, _), (2, _), (3, _)]) C (ckD_get k_X10_swap_0 33 rfl) hL4 rfl ?_
                  refine g_aload 0 C (ckD_get k_X10_swap_0 34 rfl) rfl ?_
                  refine g_iload_n 3 C (ckD_get k_X10_swap_0 35 rfl) rfl rfl ?_
                  obtain ⟨v_20, hi_21, ev_20, hf⟩ := rdI_e hf
                  refine n_iald C (ckD_get k_X10_swap_0 36 rfl) T76 hi_21 ev_20 ?_
                  refine g_istore (lv' := [(5, _), (4, _), (0, _), (1, _), (2, _), (3, _)]) C (ckD_get k_X10_swap_0 37 rfl) hL5 rfl ?_
                  refine g_aload 1 C (ckD_get k_X10_swap_0 38 rfl) rfl ?_
                  refine g_iload_n 4 C (ckD_get k_X10_swap_0 39 rfl) rfl rfl ?_
                  refine g_aload 1 C (ckD_get k_X10_swap_1 0 rfl) rfl ?_
                  refine g_iload_n 5 C (ckD_get k_X10_swap_1 1 rfl) rfl rfl ?_
                  obtain ⟨v_22, hi_23, ev_22, hf⟩ := rdI_e hf
                  refine n_iald C (ckD_get k_X10_swap_1 2 rfl) T76 hi_23 ev_22 ?_
                  obtain ⟨M_24, hi_25, eM_24, hf⟩ := wrI_e hf
                  refine n_iast C (ckD_get k_X10_swap_1 3 rfl) T76 hi_25 eM_24 ?_
                  refine g_aload 1 C (ckD_get k_X10_swap_1 4 rfl) rfl ?_
                  refine g_iload_n 5 C (ckD_get k_X10_swap_1 5 rfl) rfl rfl ?_
                  refine g_iload 0 C (ckD_get k_X10_swap_1 6 rfl) rfl ?_
                  obtain ⟨M_26, hi_27, eM_26, hf⟩ := wrI_e hf
                  refine n_iast C (ckD_get k_X10_swap_1 7 rfl) T76 hi_27 eM_26 ?_
                  refine g_aload_n 2 C (ckD_get k_X10_swap_1 8 rfl) rfl rfl ?_
                  obtain ⟨M_29, hr_28, hf⟩ := bd_e hf
                  refine n_cV [] [] C (ckD_get k_X10_swap_1 9 rfl) vk_X10_172 (t_X10_layPair C.tr _ _ hr_28) T69 rfl rfl (Nat.le_of_ble_eq_true rfl) (by decide) hB rfl ?_
                  refine g_iconst (v := (1 : Int32)) C (ckD_get k_X10_swap_1 10 rfl) (by decide) ?_
                  cases hf
                  exact g_zret C (ckD_get k_X10_swap_1 11 rfl) hr rfl hRv (Nat.le_refl _) (Nat.le_refl _)
              · have hf := if_f hf c_8
                refine g_iconst (v := (0 : Int32)) C (ckD_get k_X10_swap_0 24 rfl) (by decide) ?_
                cases hf
                exact g_zret C (ckD_get k_X10_swap_0 25 rfl) hr rfl hRv (Nat.le_refl _) (Nat.le_refl _)

set_option maxRecDepth 20000 in
theorem k_X10_tryTurned_0 : ckD cX10_tryTurned [(0, .aload_n 0, 1, 1, 0), (1, .invokevirtual 169, 3, 4, 0), (4, .istore_n 2, 1, 5, 0), (5, .iconst 0, 1, 6, 0), (6, .istore_n 3, 1, 7, 0), (7, .iconst 0, 1, 8, 0), (8, .istore 4, 2, 10, 0), (10, .iload 4, 2, 12, 0), (12, .iload_n 2, 1, 13, 0), (13, .if_icmp .gt 100, 3, 16, 113), (16, .iload 4, 2, 18, 0), (18, .iload_n 2, 1, 19, 0), (19, .iconst (-1), 1, 20, 0), (20, .ixor, 1, 21, 0), (21, .iand, 1, 22, 0), (22, .ifCond .eq 6, 3, 25, 28), (25, .goto 82, 3, 28, 107), (28, .aload_n 0, 1, 29, 0), (29, .iload 4, 2, 31, 0), (31, .putfield 127, 3, 34, 0), (34, .iload_n 1, 1, 35, 0), (35, .iconst 1, 1, 36, 0), (36, .if_icmp .ne 10, 3, 39, 46), (39, .aload_n 0, 1, 40, 0), (40, .invokevirtual 172, 3, 43, 0), (43, .goto 19, 3, 46, 62), (46, .iload_n 1, 1, 47, 0), (47, .iconst 2, 1, 48, 0), (48, .if_icmp .ne 10, 3, 51, 58), (51, .aload_n 0, 1, 52, 0), (52, .invokevirtual 186, 3, 55, 0), (55, .goto 7, 3, 58, 62), (58, .aload_n 0, 1, 59, 0), (59, .invokevirtual 201, 3, 62, 0), (62, .aload_n 0, 1, 63, 0), (63, .invokevirtual 227, 3, 66, 0), (66, .aload_n 0, 1, 67, 0), (67, .invokevirtual 230, 3, 70, 0), (70, .imul, 1, 71, 0), (71, .istore 5, 2, 73, 0)] = true := by decide +kernel
set_option maxRecDepth 20000 in
theorem k_X10_tryTurned_1 : ckD cX10_tryTurned [(73, .aload_n 0, 1, 74, 0), (74, .getfield 278, 3, 77, 0), (77, .iconst (-1), 1, 78, 0), (78, .if_icmp .eq 15, 3, 81, 93), (81, .iload 5, 2, 83, 0), (83, .aload_n 0, 1, 84, 0), (84, .getfield 278, 3, 87, 0), (87, .if_icmp .lt 6, 3, 90, 93), (90, .goto 17, 3, 93, 107), (93, .aload_n 0, 1, 94, 0), (94, .iload 5, 2, 96, 0), (96, .putfield 278, 3, 99, 0), (99, .aload_n 0, 1, 100, 0), (100, .iload 4, 2, 102, 0), (102, .putfield 281, 3, 105, 0), (105, .iconst 1, 1, 106, 0), (106, .istore_n 3, 1, 107, 0), (107, .iinc 4 1, 3, 110, 0), (110, .goto (-100), 3, 113, 10), (113, .iload_n 3, 1, 114, 0), (114, .ireturn, 1, 115, 0)] = true := by decide +kernel
def f_X10_tryTurned_A10 (x3_6 : Int32) (M_7 : Mm) : Option (Int32 × Mm) := gd (decide (x3_6 = 0 ∨ x3_6 = 1)) <| some (x3_6, M_7)
def f_X10_tryTurned_J107 (x4_4 : Int32) (p3_10 : Int32) (M_11 : Mm) : Option ((Int32 × Int32 × Mm) ⊕ (Int32 × Mm)) := lt1 (x4_4 + 1) fun x4_12 => some (.inl (p3_10, x4_12, M_11))
def f_X10_tryTurned_J93 (x4_4 : Int32) (M_15 : Mm) (x5_20 : Int32) (_ : Unit) : Option ((Int32 × Int32 × Mm) ⊕ (Int32 × Mm)) := lt1 (wi M_15 69 39 x5_20) fun M_21 => lt1 (wi M_21 69 40 x4_4) fun M_22 => f_X10_tryTurned_J107 x4_4 (1 : Int32) M_22
def f_X10_tryTurned_J62 (x3_3 : Int32) (x4_4 : Int32) (M_15 : Mm) : Option ((Int32 × Int32 × Mm) ⊕ (Int32 × Mm)) := (f_X10_allWide M_15).bind fun r_17 => (f_X10_allHigh M_15).bind fun r_19 => lt1 (r_17 * r_19) fun x5_20 => if (M_15.1 69 39) = (-1 : Int32) then f_X10_tryTurned_J93 x4_4 M_15 x5_20 () else if x5_20 < (M_15.1 69 39) then f_X10_tryTurned_J93 x4_4 M_15 x5_20 () else f_X10_tryTurned_J107 x4_4 x3_3 M_15
def f_X10_tryTurned_L10 (a1 : Int32) (r_2 : Int32) (x3_3 : Int32) (x4_4 : Int32) (M_5 : Mm) : Option ((Int32 × Int32 × Mm) ⊕ (Int32 × Mm)) := if r_2 < x4_4 then some (.inr (x3_3, M_5)) else if (x4_4 &&& (r_2 ^^^ (-1 : Int32))) = 0 then lt1 (wi M_5 69 7 x4_4) fun M_14 => if a1 = (1 : Int32) then (f_X10_layPair M_14).bind fun M_32 => f_X10_tryTurned_J62 x3_3 x4_4 M_32 else if a1 = (2 : Int32) then (f_X10_layCuts M_14).bind fun M_30 => f_X10_tryTurned_J62 x3_3 x4_4 M_30 else (f_X10_layTree M_14).bind fun M_28 => f_X10_tryTurned_J62 x3_3 x4_4 M_28 else f_X10_tryTurned_J107 x4_4 x3_3 M_5
def f_X10_tryTurned (a1 : Int32) (M : Mm) : Option (Int32 × Mm) := (f_X10_turnable M).bind fun r_2 => (loop (fun v => f_X10_tryTurned_L10 a1 r_2 v.1 v.2.1 v.2.2) FU ((0 : Int32), (0 : Int32), M)).bind fun z => f_X10_tryTurned_A10 z.1 z.2
set_option maxRecDepth 100000 in
set_option maxHeartbeats 4000000 in
theorem t_X10_tryTurned {E : Ev} {l : Launch} (htr : l.stackTraces = false) (a1 : Int32) (M : Mm) (r : (Int32 × Mm)) (hf : f_X10_tryTurned a1 M = some r) : CM E l 34 0 0 yX10_tryTurned cX10_tryTurned 6 (some .boolean) [.ref (E.1 + 69), .int a1] M (some (.int r.1)) r.2 := by
  refine CM.of htr (by decide +kernel) (Nat.le_of_ble_eq_true rfl) ?_
  intro K hE hL hl hR0 C hr hRv
  subst hE
  subst hl
  have C : Cx K cX10_tryTurned RX10 34 := C
  have hB : (0 : Nat) ≤ K.1.R.cells ∧ 0 ≤ K.1.R.slots := ⟨Nat.zero_le _, Nat.zero_le _⟩
  have hL2 : 2 < K.2.2.1 := by rw [hL]; decide
  have hL3 : 3 < K.2.2.1 := by rw [hL]; decide
  have hL4 : 4 < K.2.2.1 := by rw [hL]; decide
  have hL5 : 5 < K.2.2.1 := by rw [hL]; decide
  show G K (0, 0) 0 [(0, .ref (K.2.1.1 + 69)), (1, .int a1)] [] M
  unfold f_X10_tryTurned at hf
  refine g_aload_n 0 C (ckD_get k_X10_tryTurned_0 0 rfl) rfl rfl ?_
  obtain ⟨r_2, hr_1, hf⟩ := bd_e hf
  refine n_cV [] [] C (ckD_get k_X10_tryTurned_0 1 rfl) vk_X10_169 (t_X10_turnable C.tr _ _ hr_1) T69 rfl rfl (Nat.le_of_ble_eq_true rfl) (by decide) hB rfl ?_
  refine g_istore_n (lv' := [(2, _), (0, _), (1, _)]) C (ckD_get k_X10_tryTurned_0 2 rfl) rfl hL2 rfl ?_
  refine g_iconst (v := (0 : Int32)) C (ckD_get k_X10_tryTurned_0 3 rfl) (by decide) ?_
  refine g_istore_n (lv' := [(3, _), (2, _), (0, _), (1, _)]) C (ckD_get k_X10_tryTurned_0 4 rfl) rfl hL3 rfl ?_
  refine g_iconst (v := (0 : Int32)) C (ckD_get k_X10_tryTurned_0 5 rfl) (by decide) ?_
  refine g_istore (lv' := [(4, _), (3, _), (2, _), (0, _), (1, _)]) C (ckD_get k_X10_tryTurned_0 6 rfl) hL4 rfl ?_
  refine G.sub [3, 4, 2, 1, 0] rfl ?_
  obtain ⟨xx_10, hx_10, hf⟩ := bd_e hf
  obtain ⟨x3_6, M_7⟩ := xx_10
  have hE_10 : G K (0, 0) 113 [(3, .int x3_6)] [] M_7 := by
    have hf : f_X10_tryTurned_A10 x3_6 M_7 = some r := hf
    unfold f_X10_tryTurned_A10 at hf
    refine g_iload_n 0 C (ckD_get k_X10_tryTurned_1 19 rfl) rfl rfl ?_
    obtain ⟨hg_8, hf⟩ := gd_e hf
    cases hf
    exact g_zret C (ckD_get k_X10_tryTurned_1 20 rfl) hr (nz_e hg_8) hRv (Nat.le_refl _) (Nat.le_refl _)
  refine loop_e (x := (x3_6, M_7)) (P := fun (v : (Int32 × Int32 × Mm)) => G K (0, 0) 10 [(0, .ref (K.2.1.1 + 69)), (1, .int a1), (2, .int r_2), (3, .int v.1), (4, .int v.2.1)] [] v.2.2) ?_ FU _ hx_10
  intro v rr_10 hf hn_10 hz_10
  obtain ⟨x3_3, x4_4, M_5⟩ := v
  have hf : f_X10_tryTurned_L10 a1 r_2 x3_3 x4_4 M_5 = some rr_10 := hf
  show G K (0, 0) 10 [(0, .ref (K.2.1.1 + 69)), (1, .int a1), (2, .int r_2), (3, .int x3_3), (4, .int x4_4)] [] M_5
  unfold f_X10_tryTurned_L10 at hf
  refine g_iload 4 C (ckD_get k_X10_tryTurned_0 7 rfl) rfl ?_
  refine g_iload_n 2 C (ckD_get k_X10_tryTurned_0 8 rfl) rfl rfl ?_
  refine g_icmp_gt C (ckD_get k_X10_tryTurned_0 9 rfl) (fun c_9 => ?_) (fun c_9 => ?_)
  · have hf := if_t hf c_9
    refine G.sub [3] rfl ?_
    cases hf
    cases hz_10 _ rfl
    exact hE_10
  · have hf := if_f hf c_9
    refine g_iload 4 C (ckD_get k_X10_tryTurned_0 10 rfl) rfl ?_
    refine g_iload_n 2 C (ckD_get k_X10_tryTurned_0 11 rfl) rfl rfl ?_
    refine g_iconst (v := (-1 : Int32)) C (ckD_get k_X10_tryTurned_0 12 rfl) (by decide) ?_
    refine g_ixor C (ckD_get k_X10_tryTurned_0 13 rfl) ?_
    refine g_iand C (ckD_get k_X10_tryTurned_0 14 rfl) ?_
    have hJ_107 : ∀ (p3_10 : Int32) (M_11 : Mm), f_X10_tryTurned_J107 x4_4 p3_10 M_11 = some rr_10 → G K (0, 0) 107 [(0, .ref (K.2.1.1 + 69)), (1, .int a1), (2, .int r_2), (3, .int p3_10), (4, .int x4_4)] [] M_11 := by
      intro p3_10 M_11 hf
      unfold f_X10_tryTurned_J107 at hf
      obtain ⟨x4_12, ex4_12, hf⟩ := lt_e hf
      refine g_iinc (lv' := [(4, _), (0, _), (1, _), (2, _), (3, _)]) 4 C (ckD_get k_X10_tryTurned_1 17 rfl) rfl ex4_12 hL4 rfl ?_
      refine g_goto C (ckD_get k_X10_tryTurned_1 18 rfl) ?_
      refine G.sub [1, 2, 3, 4, 0] rfl ?_
      cases hf
      exact hn_10 _ rfl
    refine g_if_eq C (ckD_get k_X10_tryTurned_0 15 rfl) (fun c_13 => ?_) (fun c_13 => ?_)
    · have hf := if_t hf c_13
      refine g_aload_n 0 C (ckD_get k_X10_tryTurned_0 17 rfl) rfl rfl ?_
      refine g_iload 4 C (ckD_get k_X10_tryTurned_0 18 rfl) rfl ?_
      obtain ⟨M_14, eM_14, hf⟩ := lt_e hf
      refine g_putI C (ckD_get k_X10_tryTurned_0 19 rfl) fk_X10_127 T69 rfl ?_
      refine memI eM_14 ?_
      refine g_iload_n 1 C (ckD_get k_X10_tryTurned_0 20 rfl) rfl rfl ?_
      refine g_iconst (v := (1 : Int32)) C (ckD_get k_X10_tryTurned_0 21 rfl) (by decide) ?_
      have hJ_62 : ∀ (M_15 : Mm), f_X10_tryTurned_J62 x3_3 x4_4 M_15 = some rr_10 → G K (0, 0) 62 [(0, .ref (K.2.1.1 + 69)), (1, .int a1), (2, .int r_2), (3, .int x3_3), (4, .int x4_4)] [] M_15 := by
        intro M_15 hf
        unfold f_X10_tryTurned_J62 at hf
        refine g_aload_n 0 C (ckD_get k_X10_tryTurned_0 34 rfl) rfl rfl ?_
        obtain ⟨r_17, hr_16, hf⟩ := bd_e hf
        refine n_cV [] [] C (ckD_get k_X10_tryTurned_0 35 rfl) vk_X10_227 (t_X10_allWide C.tr _ _ hr_16) T69 rfl rfl (Nat.le_of_ble_eq_true rfl) (by decide) hB rfl ?_
        refine g_aload_n 0 C (ckD_get k_X10_tryTurned_0 36 rfl) rfl rfl ?_
        obtain ⟨r_19, hr_18, hf⟩ := bd_e hf
        refine n_cV [] [.int r_17] C (ckD_get k_X10_tryTurned_0 37 rfl) vk_X10_230 (t_X10_allHigh C.tr _ _ hr_18) T69 rfl rfl (Nat.le_of_ble_eq_true rfl) (by decide) hB rfl ?_
        refine g_imul C (ckD_get k_X10_tryTurned_0 38 rfl) ?_
        obtain ⟨x5_20, ex5_20, hf⟩ := lt_e hf
        refine topI ex5_20 ?_
        refine g_istore (lv' := [(5, _), (0, _), (1, _), (2, _), (3, _), (4, _)]) C (ckD_get k_X10_tryTurned_0 39 rfl) hL5 rfl ?_
        refine g_aload_n 1 C (ckD_get k_X10_tryTurned_1 0 rfl) rfl rfl ?_
        refine g_getI C (ckD_get k_X10_tryTurned_1 1 rfl) fk_X10_278 T69 rfl ?_
        refine g_iconst (v := (-1 : Int32)) C (ckD_get k_X10_tryTurned_1 2 rfl) (by decide) ?_
        have hJ_93 : ∀ (_ : Unit), f_X10_tryTurned_J93 x4_4 M_15 x5_20 () = some rr_10 → G K (0, 0) 93 [(0, .ref (K.2.1.1 + 69)), (1, .int a1), (2, .int r_2), (4, .int x4_4), (5, .int x5_20)] [] M_15 := by
          intro _ hf
          unfold f_X10_tryTurned_J93 at hf
          refine g_aload_n 0 C (ckD_get k_X10_tryTurned_1 9 rfl) rfl rfl ?_
          refine g_iload 4 C (ckD_get k_X10_tryTurned_1 10 rfl) rfl ?_
          obtain ⟨M_21, eM_21, hf⟩ := lt_e hf
          refine g_putI C (ckD_get k_X10_tryTurned_1 11 rfl) fk_X10_278 T69 rfl ?_
          refine memI eM_21 ?_
          refine g_aload_n 0 C (ckD_get k_X10_tryTurned_1 12 rfl) rfl rfl ?_
          refine g_iload 3 C (ckD_get k_X10_tryTurned_1 13 rfl) rfl ?_
          obtain ⟨M_22, eM_22, hf⟩ := lt_e hf
          refine g_putI C (ckD_get k_X10_tryTurned_1 14 rfl) fk_X10_281 T69 rfl ?_
          refine memI eM_22 ?_
          refine g_iconst (v := (1 : Int32)) C (ckD_get k_X10_tryTurned_1 15 rfl) (by decide) ?_
          refine g_istore_n (lv' := [(3, _), (0, _), (1, _), (2, _), (4, _), (5, _)]) C (ckD_get k_X10_tryTurned_1 16 rfl) rfl hL3 rfl ?_
          refine G.sub [1, 2, 3, 0, 4] rfl ?_
          exact hJ_107 _ _ hf
        refine g_icmp_eq C (ckD_get k_X10_tryTurned_1 3 rfl) (fun c_23 => ?_) (fun c_23 => ?_)
        · have hf := if_t hf c_23
          refine G.sub [1, 2, 3, 5, 0] rfl ?_
          exact hJ_93 () hf
        · have hf := if_f hf c_23
          refine g_iload 0 C (ckD_get k_X10_tryTurned_1 4 rfl) rfl ?_
          refine g_aload_n 1 C (ckD_get k_X10_tryTurned_1 5 rfl) rfl rfl ?_
          refine g_getI C (ckD_get k_X10_tryTurned_1 6 rfl) fk_X10_278 T69 rfl ?_
          refine g_icmp_lt C (ckD_get k_X10_tryTurned_1 7 rfl) (fun c_24 => ?_) (fun c_24 => ?_)
          · have hf := if_t hf c_24
            refine G.sub [1, 2, 3, 5, 0] rfl ?_
            exact hJ_93 () hf
          · have hf := if_f hf c_24
            refine g_goto C (ckD_get k_X10_tryTurned_1 8 rfl) ?_
            refine G.sub [1, 2, 3, 4, 5] rfl ?_
            exact hJ_107 _ _ hf
      refine g_icmp_ne C (ckD_get k_X10_tryTurned_0 22 rfl) (fun c_25 => ?_) (fun c_25 => ?_)
      · have hf := if_f hf c_25
        refine g_iload_n 1 C (ckD_get k_X10_tryTurned_0 26 rfl) rfl rfl ?_
        refine g_iconst (v := (2 : Int32)) C (ckD_get k_X10_tryTurned_0 27 rfl) (by decide) ?_
        refine g_icmp_ne C (ckD_get k_X10_tryTurned_0 28 rfl) (fun c_26 => ?_) (fun c_26 => ?_)
        · have hf := if_f hf c_26
          refine g_aload_n 0 C (ckD_get k_X10_tryTurned_0 32 rfl) rfl rfl ?_
          obtain ⟨M_28, hr_27, hf⟩ := bd_e hf
          refine n_cV [] [] C (ckD_get k_X10_tryTurned_0 33 rfl) vk_X10_201 (t_X10_layTree C.tr _ _ hr_27) T69 rfl rfl (Nat.le_of_ble_eq_true rfl) (by decide) hB rfl ?_
          exact hJ_62 _ hf
        · have hf := if_t hf c_26
          refine g_aload_n 0 C (ckD_get k_X10_tryTurned_0 29 rfl) rfl rfl ?_
          obtain ⟨M_30, hr_29, hf⟩ := bd_e hf
          refine n_cV [] [] C (ckD_get k_X10_tryTurned_0 30 rfl) vk_X10_186 (t_X10_layCuts C.tr _ _ hr_29) T69 rfl rfl (Nat.le_of_ble_eq_true rfl) (by decide) hB rfl ?_
          refine g_goto C (ckD_get k_X10_tryTurned_0 31 rfl) ?_
          exact hJ_62 _ hf
      · have hf := if_t hf c_25
        refine g_aload_n 0 C (ckD_get k_X10_tryTurned_0 23 rfl) rfl rfl ?_
        obtain ⟨M_32, hr_31, hf⟩ := bd_e hf
        refine n_cV [] [] C (ckD_get k_X10_tryTurned_0 24 rfl) vk_X10_172 (t_X10_layPair C.tr _ _ hr_31) T69 rfl rfl (Nat.le_of_ble_eq_true rfl) (by decide) hB rfl ?_
        refine g_goto C (ckD_get k_X10_tryTurned_0 25 rfl) ?_
        exact hJ_62 _ hf
    · have hf := if_f hf c_13
      refine g_goto C (ckD_get k_X10_tryTurned_0 16 rfl) ?_
      exact hJ_107 _ _ hf

set_option maxRecDepth 20000 in
theorem k_X10_next_0 : ckD cX10_next [(0, .iload_n 1, 1, 1, 0), (1, .iconst 2, 1, 2, 0), (2, .isub, 1, 3, 0), (3, .istore_n 2, 1, 4, 0), (4, .iload_n 2, 1, 5, 0), (5, .ifCond .lt 20, 3, 8, 25), (8, .aload_n 0, 1, 9, 0), (9, .iload_n 2, 1, 10, 0), (10, .iaload, 1, 11, 0), (11, .aload_n 0, 1, 12, 0), (12, .iload_n 2, 1, 13, 0), (13, .iconst 1, 1, 14, 0), (14, .iadd, 1, 15, 0), (15, .iaload, 1, 16, 0), (16, .if_icmp .le 9, 3, 19, 25), (19, .iinc 2 (-1), 3, 22, 0), (22, .goto (-18), 3, 25, 4), (25, .iload_n 2, 1, 26, 0), (26, .ifCond .ge 5, 3, 29, 31), (29, .iconst 0, 1, 30, 0), (30, .ireturn, 1, 31, 0), (31, .iload_n 1, 1, 32, 0), (32, .iconst 1, 1, 33, 0), (33, .isub, 1, 34, 0), (34, .istore_n 3, 1, 35, 0), (35, .aload_n 0, 1, 36, 0), (36, .iload_n 3, 1, 37, 0), (37, .iaload, 1, 38, 0), (38, .aload_n 0, 1, 39, 0), (39, .iload_n 2, 1, 40, 0), (40, .iaload, 1, 41, 0), (41, .if_icmp .ge 9, 3, 44, 50), (44, .iinc 3 (-1), 3, 47, 0), (47, .goto (-12), 3, 50, 35), (50, .aload_n 0, 1, 51, 0), (51, .iload_n 2, 1, 52, 0), (52, .iaload, 1, 53, 0), (53, .istore 4, 2, 55, 0), (55, .aload_n 0, 1, 56, 0), (56, .iload_n 2, 1, 57, 0)] = true := by decide +kernel
set_option maxRecDepth 20000 in
theorem k_X10_next_1 : ckD cX10_next [(57, .aload_n 0, 1, 58, 0), (58, .iload_n 3, 1, 59, 0), (59, .iaload, 1, 60, 0), (60, .iastore, 1, 61, 0), (61, .aload_n 0, 1, 62, 0), (62, .iload_n 3, 1, 63, 0), (63, .iload 4, 2, 65, 0), (65, .iastore, 1, 66, 0), (66, .iload_n 2, 1, 67, 0), (67, .iconst 1, 1, 68, 0), (68, .iadd, 1, 69, 0), (69, .istore 5, 2, 71, 0), (71, .iload_n 1, 1, 72, 0), (72, .iconst 1, 1, 73, 0), (73, .isub, 1, 74, 0), (74, .istore 6, 2, 76, 0), (76, .iload 5, 2, 78, 0), (78, .iload 6, 2, 80, 0), (80, .if_icmp .ge 32, 3, 83, 112), (83, .aload_n 0, 1, 84, 0), (84, .iload 5, 2, 86, 0), (86, .iaload, 1, 87, 0), (87, .istore 4, 2, 89, 0), (89, .aload_n 0, 1, 90, 0), (90, .iload 5, 2, 92, 0), (92, .aload_n 0, 1, 93, 0), (93, .iload 6, 2, 95, 0), (95, .iaload, 1, 96, 0), (96, .iastore, 1, 97, 0), (97, .aload_n 0, 1, 98, 0), (98, .iload 6, 2, 100, 0), (100, .iload 4, 2, 102, 0), (102, .iastore, 1, 103, 0), (103, .iinc 5 1, 3, 106, 0), (106, .iinc 6 (-1), 3, 109, 0), (109, .goto (-33), 3, 112, 76), (112, .iconst 1, 1, 113, 0), (113, .ireturn, 1, 114, 0)] = true := by decide +kernel
def f_X10_next_A76 (M_21 : Mm) : Option (Int32 × Mm) := some ((1 : Int32), M_21)
def f_X10_next_L76 (k0 : Nat) (x5_18 : Int32) (x6_19 : Int32) (M_20 : Mm) : Option ((Int32 × Int32 × Mm) ⊕ Mm) := if x6_19 ≤ x5_18 then some (.inr M_20) else rdI 12 M_20 k0 x5_18 fun v_23 => rdI 12 M_20 k0 x6_19 fun v_25 => wrI 12 M_20 k0 x5_18 v_25 fun M_27 => wrI 12 M_27 k0 x6_19 v_23 fun M_29 => lt1 (x5_18 + 1) fun x5_31 => lt1 (x6_19 + (-1)) fun x6_32 => some (.inl (x5_31, x6_32, M_29))
def f_X10_next_A35 (k0 : Nat) (a1 : Int32) (M : Mm) (x2_3 : Int32) (x3_7 : Int32) : Option (Int32 × Mm) := rdI 12 M k0 x2_3 fun v_8 => rdI 12 M k0 x3_7 fun v_10 => wrI 12 M k0 x2_3 v_10 fun M_12 => wrI 12 M_12 k0 x3_7 v_8 fun M_14 => lt1 (x2_3 + (1 : Int32)) fun x5_16 => lt1 (a1 - (1 : Int32)) fun x6_17 => (loop (fun v => f_X10_next_L76 k0 v.1 v.2.1 v.2.2) FU (x5_16, x6_17, M_14)).bind fun z => f_X10_next_A76 z
def f_X10_next_L35 (k0 : Nat) (M : Mm) (x2_3 : Int32) (x3_6 : Int32) : Option (Int32 ⊕ Int32) := rdI 12 M k0 x3_6 fun v_33 => rdI 12 M k0 x2_3 fun v_35 => if v_35 ≤ v_33 then some (.inr x3_6) else lt1 (x3_6 + (-1)) fun x3_38 => some (.inl x3_38)
def f_X10_next_A4 (k0 : Nat) (a1 : Int32) (M : Mm) (x2_3 : Int32) : Option (Int32 × Mm) := if 0 ≤ x2_3 then lt1 (a1 - (1 : Int32)) fun x3_5 => (loop (fun v => f_X10_next_L35 k0 M x2_3 v) FU x3_5).bind fun z => f_X10_next_A35 k0 a1 M x2_3 z else some ((0 : Int32), M)
def f_X10_next_L4 (k0 : Nat) (M : Mm) (x2_2 : Int32) : Option (Int32 ⊕ Int32) := if x2_2 < 0 then some (.inr x2_2) else rdI 12 M k0 x2_2 fun v_40 => rdI 12 M k0 (x2_2 + (1 : Int32)) fun v_42 => if v_40 ≤ v_42 then some (.inr x2_2) else lt1 (x2_2 + (-1)) fun x2_45 => some (.inl x2_45)
def f_X10_next (k0 : Nat) (a1 : Int32) (M : Mm) : Option (Int32 × Mm) := lt1 (a1 - (2 : Int32)) fun x2_1 => (loop (fun v => f_X10_next_L4 k0 M v) FU x2_1).bind fun z => f_X10_next_A4 k0 a1 M z
set_option maxRecDepth 100000 in
set_option maxHeartbeats 4000000 in
theorem t_X10_next {E : Ev} {l : Launch} (htr : l.stackTraces = false) (k0 : Nat) (hk0 : LT[k0]? = some (0, 12, [])) (a1 : Int32) (M : Mm) (r : (Int32 × Mm)) (hf : f_X10_next k0 a1 M = some r) : CM E l 0 0 0 yX10_next cX10_next 7 (some .boolean) [.ref (E.1 + k0), .int a1] M (some (.int r.1)) r.2 := by
  refine CM.of htr (by decide +kernel) (Nat.le_of_ble_eq_true rfl) ?_
  intro K hE hL hl hR0 C hr hRv
  subst hE
  subst hl
  have C : Cx K cX10_next RX10 0 := C
  have hB : (0 : Nat) ≤ K.1.R.cells ∧ 0 ≤ K.1.R.slots := ⟨Nat.zero_le _, Nat.zero_le _⟩
  have hL2 : 2 < K.2.2.1 := by rw [hL]; decide
  have hL3 : 3 < K.2.2.1 := by rw [hL]; decide
  have hL4 : 4 < K.2.2.1 := by rw [hL]; decide
  have hL5 : 5 < K.2.2.1 := by rw [hL]; decide
  have hL6 : 6 < K.2.2.1 := by rw [hL]; decide
  show G K (0, 0) 0 [(0, .ref (K.2.1.1 + k0)), (1, .int a1)] [] M
  unfold f_X10_next at hf
  refine g_iload_n 1 C (ckD_get k_X10_next_0 0 rfl) rfl rfl ?_
  refine g_iconst (v := (2 : Int32)) C (ckD_get k_X10_next_0 1 rfl) (by decide) ?_
  refine g_isub C (ckD_get k_X10_next_0 2 rfl) ?_
  obtain ⟨x2_1, ex2_1, hf⟩ := lt_e hf
  refine topI ex2_1 ?_
  refine g_istore_n (lv' := [(2, _), (0, _), (1, _)]) C (ckD_get k_X10_next_0 3 rfl) rfl hL2 rfl ?_
  refine G.sub [1, 2, 0] rfl ?_
  obtain ⟨x2_3, hx_4, hf⟩ := bd_e hf
  have hE_4 : G K (0, 0) 25 [(0, .ref (K.2.1.1 + k0)), (1, .int a1), (2, .int x2_3)] [] M := by
    have hf : f_X10_next_A4 k0 a1 M x2_3 = some r := hf
    unfold f_X10_next_A4 at hf
    refine g_iload_n 2 C (ckD_get k_X10_next_0 17 rfl) rfl rfl ?_
    refine g_if_ge C (ckD_get k_X10_next_0 18 rfl) (fun c_4 => ?_) (fun c_4 => ?_)
    · have hf := if_t hf c_4
      refine g_iload_n 1 C (ckD_get k_X10_next_0 21 rfl) rfl rfl ?_
      refine g_iconst (v := (1 : Int32)) C (ckD_get k_X10_next_0 22 rfl) (by decide) ?_
      refine g_isub C (ckD_get k_X10_next_0 23 rfl) ?_
      obtain ⟨x3_5, ex3_5, hf⟩ := lt_e hf
      refine topI ex3_5 ?_
      refine g_istore_n (lv' := [(3, _), (0, _), (1, _), (2, _)]) C (ckD_get k_X10_next_0 24 rfl) rfl hL3 rfl ?_
      refine G.sub [1, 2, 3, 0] rfl ?_
      obtain ⟨x3_7, hx_35, hf⟩ := bd_e hf
      have hE_35 : G K (0, 0) 50 [(0, .ref (K.2.1.1 + k0)), (1, .int a1), (2, .int x2_3), (3, .int x3_7)] [] M := by
        have hf : f_X10_next_A35 k0 a1 M x2_3 x3_7 = some r := hf
        unfold f_X10_next_A35 at hf
        refine g_aload_n 0 C (ckD_get k_X10_next_0 34 rfl) rfl rfl ?_
        refine g_iload_n 2 C (ckD_get k_X10_next_0 35 rfl) rfl rfl ?_
        obtain ⟨v_8, hi_9, ev_8, hf⟩ := rdI_e hf
        refine n_iald C (ckD_get k_X10_next_0 36 rfl) hk0 hi_9 ev_8 ?_
        refine g_istore (lv' := [(4, _), (0, _), (1, _), (2, _), (3, _)]) C (ckD_get k_X10_next_0 37 rfl) hL4 rfl ?_
        refine g_aload_n 1 C (ckD_get k_X10_next_0 38 rfl) rfl rfl ?_
        refine g_iload_n 3 C (ckD_get k_X10_next_0 39 rfl) rfl rfl ?_
        refine g_aload_n 1 C (ckD_get k_X10_next_1 0 rfl) rfl rfl ?_
        refine g_iload_n 4 C (ckD_get k_X10_next_1 1 rfl) rfl rfl ?_
        obtain ⟨v_10, hi_11, ev_10, hf⟩ := rdI_e hf
        refine n_iald C (ckD_get k_X10_next_1 2 rfl) hk0 hi_11 ev_10 ?_
        obtain ⟨M_12, hi_13, eM_12, hf⟩ := wrI_e hf
        refine n_iast C (ckD_get k_X10_next_1 3 rfl) hk0 hi_13 eM_12 ?_
        refine g_aload_n 1 C (ckD_get k_X10_next_1 4 rfl) rfl rfl ?_
        refine g_iload_n 4 C (ckD_get k_X10_next_1 5 rfl) rfl rfl ?_
        refine g_iload 0 C (ckD_get k_X10_next_1 6 rfl) rfl ?_
        obtain ⟨M_14, hi_15, eM_14, hf⟩ := wrI_e hf
        refine n_iast C (ckD_get k_X10_next_1 7 rfl) hk0 hi_15 eM_14 ?_
        refine g_iload_n 3 C (ckD_get k_X10_next_1 8 rfl) rfl rfl ?_
        refine g_iconst (v := (1 : Int32)) C (ckD_get k_X10_next_1 9 rfl) (by decide) ?_
        refine g_iadd C (ckD_get k_X10_next_1 10 rfl) ?_
        obtain ⟨x5_16, ex5_16, hf⟩ := lt_e hf
        refine topI ex5_16 ?_
        refine g_istore (lv' := [(5, _), (4, _), (0, _), (1, _), (2, _), (3, _)]) C (ckD_get k_X10_next_1 11 rfl) hL5 rfl ?_
        refine g_iload_n 3 C (ckD_get k_X10_next_1 12 rfl) rfl rfl ?_
        refine g_iconst (v := (1 : Int32)) C (ckD_get k_X10_next_1 13 rfl) (by decide) ?_
        refine g_isub C (ckD_get k_X10_next_1 14 rfl) ?_
        obtain ⟨x6_17, ex6_17, hf⟩ := lt_e hf
        refine topI ex6_17 ?_
        refine g_istore (lv' := [(6, _), (5, _), (4, _), (0, _), (1, _), (2, _), (3, _)]) C (ckD_get k_X10_next_1 15 rfl) hL6 rfl ?_
        refine G.sub [3, 1, 0] rfl ?_
        obtain ⟨M_21, hx_76, hf⟩ := bd_e hf
        have hE_76 : G K (0, 0) 112 [] [] M_21 := by
          have hf : f_X10_next_A76 M_21 = some r := hf
          unfold f_X10_next_A76 at hf
          refine g_iconst (v := (1 : Int32)) C (ckD_get k_X10_next_1 36 rfl) (by decide) ?_
          cases hf
          exact g_zret C (ckD_get k_X10_next_1 37 rfl) hr rfl hRv (Nat.le_refl _) (Nat.le_refl _)
        refine loop_e (x := M_21) (P := fun (v : (Int32 × Int32 × Mm)) => G K (0, 0) 76 [(0, .ref (K.2.1.1 + k0)), (5, .int v.1), (6, .int v.2.1)] [] v.2.2) ?_ FU _ hx_76
        intro v rr_76 hf hn_76 hz_76
        obtain ⟨x5_18, x6_19, M_20⟩ := v
        have hf : f_X10_next_L76 k0 x5_18 x6_19 M_20 = some rr_76 := hf
        show G K (0, 0) 76 [(0, .ref (K.2.1.1 + k0)), (5, .int x5_18), (6, .int x6_19)] [] M_20
        unfold f_X10_next_L76 at hf
        refine g_iload 1 C (ckD_get k_X10_next_1 16 rfl) rfl ?_
        refine g_iload 2 C (ckD_get k_X10_next_1 17 rfl) rfl ?_
        refine g_icmp_ge C (ckD_get k_X10_next_1 18 rfl) (fun c_22 => ?_) (fun c_22 => ?_)
        · have hf := if_t hf c_22
          refine G.sub [] rfl ?_
          cases hf
          cases hz_76 _ rfl
          exact hE_76
        · have hf := if_f hf c_22
          refine g_aload_n 0 C (ckD_get k_X10_next_1 19 rfl) rfl rfl ?_
          refine g_iload 1 C (ckD_get k_X10_next_1 20 rfl) rfl ?_
          obtain ⟨v_23, hi_24, ev_23, hf⟩ := rdI_e hf
          refine n_iald C (ckD_get k_X10_next_1 21 rfl) hk0 hi_24 ev_23 ?_
          refine g_istore (lv' := [(4, _), (0, _), (5, _), (6, _)]) C (ckD_get k_X10_next_1 22 rfl) hL4 rfl ?_
          refine g_aload_n 1 C (ckD_get k_X10_next_1 23 rfl) rfl rfl ?_
          refine g_iload 2 C (ckD_get k_X10_next_1 24 rfl) rfl ?_
          refine g_aload_n 1 C (ckD_get k_X10_next_1 25 rfl) rfl rfl ?_
          refine g_iload 3 C (ckD_get k_X10_next_1 26 rfl) rfl ?_
          obtain ⟨v_25, hi_26, ev_25, hf⟩ := rdI_e hf
          refine n_iald C (ckD_get k_X10_next_1 27 rfl) hk0 hi_26 ev_25 ?_
          obtain ⟨M_27, hi_28, eM_27, hf⟩ := wrI_e hf
          refine n_iast C (ckD_get k_X10_next_1 28 rfl) hk0 hi_28 eM_27 ?_
          refine g_aload_n 1 C (ckD_get k_X10_next_1 29 rfl) rfl rfl ?_
          refine g_iload 3 C (ckD_get k_X10_next_1 30 rfl) rfl ?_
          refine g_iload 0 C (ckD_get k_X10_next_1 31 rfl) rfl ?_
          obtain ⟨M_29, hi_30, eM_29, hf⟩ := wrI_e hf
          refine n_iast C (ckD_get k_X10_next_1 32 rfl) hk0 hi_30 eM_29 ?_
          obtain ⟨x5_31, ex5_31, hf⟩ := lt_e hf
          refine g_iinc (lv' := [(5, _), (4, _), (0, _), (6, _)]) 2 C (ckD_get k_X10_next_1 33 rfl) rfl ex5_31 hL5 rfl ?_
          obtain ⟨x6_32, ex6_32, hf⟩ := lt_e hf
          refine g_iinc (lv' := [(6, _), (5, _), (4, _), (0, _)]) 3 C (ckD_get k_X10_next_1 34 rfl) rfl ex6_32 hL6 rfl ?_
          refine g_goto C (ckD_get k_X10_next_1 35 rfl) ?_
          refine G.sub [3, 1, 0] rfl ?_
          cases hf
          exact hn_76 _ rfl
      refine loop_e (x := x3_7) (P := fun (v : Int32) => G K (0, 0) 35 [(0, .ref (K.2.1.1 + k0)), (1, .int a1), (2, .int x2_3), (3, .int v)] [] M) ?_ FU _ hx_35
      intro x3_6 rr_35 hf hn_35 hz_35
      have hf : f_X10_next_L35 k0 M x2_3 x3_6 = some rr_35 := hf
      show G K (0, 0) 35 [(0, .ref (K.2.1.1 + k0)), (1, .int a1), (2, .int x2_3), (3, .int x3_6)] [] M
      unfold f_X10_next_L35 at hf
      refine g_aload_n 0 C (ckD_get k_X10_next_0 25 rfl) rfl rfl ?_
      refine g_iload_n 3 C (ckD_get k_X10_next_0 26 rfl) rfl rfl ?_
      obtain ⟨v_33, hi_34, ev_33, hf⟩ := rdI_e hf
      refine n_iald C (ckD_get k_X10_next_0 27 rfl) hk0 hi_34 ev_33 ?_
      refine g_aload_n 0 C (ckD_get k_X10_next_0 28 rfl) rfl rfl ?_
      refine g_iload_n 2 C (ckD_get k_X10_next_0 29 rfl) rfl rfl ?_
      obtain ⟨v_35, hi_36, ev_35, hf⟩ := rdI_e hf
      refine n_iald C (ckD_get k_X10_next_0 30 rfl) hk0 hi_36 ev_35 ?_
      refine g_icmp_ge C (ckD_get k_X10_next_0 31 rfl) (fun c_37 => ?_) (fun c_37 => ?_)
      · have hf := if_t hf c_37
        cases hf
        cases hz_35 _ rfl
        exact hE_35
      · have hf := if_f hf c_37
        obtain ⟨x3_38, ex3_38, hf⟩ := lt_e hf
        refine g_iinc (lv' := [(3, _), (0, _), (1, _), (2, _)]) 3 C (ckD_get k_X10_next_0 32 rfl) rfl ex3_38 hL3 rfl ?_
        refine g_goto C (ckD_get k_X10_next_0 33 rfl) ?_
        refine G.sub [1, 2, 3, 0] rfl ?_
        cases hf
        exact hn_35 _ rfl
    · have hf := if_f hf c_4
      refine g_iconst (v := (0 : Int32)) C (ckD_get k_X10_next_0 19 rfl) (by decide) ?_
      cases hf
      exact g_zret C (ckD_get k_X10_next_0 20 rfl) hr rfl hRv (Nat.le_refl _) (Nat.le_refl _)
  refine loop_e (x := x2_3) (P := fun (v : Int32) => G K (0, 0) 4 [(0, .ref (K.2.1.1 + k0)), (1, .int a1), (2, .int v)] [] M) ?_ FU _ hx_4
  intro x2_2 rr_4 hf hn_4 hz_4
  have hf : f_X10_next_L4 k0 M x2_2 = some rr_4 := hf
  show G K (0, 0) 4 [(0, .ref (K.2.1.1 + k0)), (1, .int a1), (2, .int x2_2)] [] M
  unfold f_X10_next_L4 at hf
  refine g_iload_n 2 C (ckD_get k_X10_next_0 4 rfl) rfl rfl ?_
  refine g_if_lt C (ckD_get k_X10_next_0 5 rfl) (fun c_39 => ?_) (fun c_39 => ?_)
  · have hf := if_t hf c_39
    cases hf
    cases hz_4 _ rfl
    exact hE_4
  · have hf := if_f hf c_39
    refine g_aload_n 0 C (ckD_get k_X10_next_0 6 rfl) rfl rfl ?_
    refine g_iload_n 2 C (ckD_get k_X10_next_0 7 rfl) rfl rfl ?_
    obtain ⟨v_40, hi_41, ev_40, hf⟩ := rdI_e hf
    refine n_iald C (ckD_get k_X10_next_0 8 rfl) hk0 hi_41 ev_40 ?_
    refine g_aload_n 0 C (ckD_get k_X10_next_0 9 rfl) rfl rfl ?_
    refine g_iload_n 2 C (ckD_get k_X10_next_0 10 rfl) rfl rfl ?_
    refine g_iconst (v := (1 : Int32)) C (ckD_get k_X10_next_0 11 rfl) (by decide) ?_
    refine g_iadd C (ckD_get k_X10_next_0 12 rfl) ?_
    obtain ⟨v_42, hi_43, ev_42, hf⟩ := rdI_e hf
    refine n_iald C (ckD_get k_X10_next_0 13 rfl) hk0 hi_43 ev_42 ?_
    refine g_icmp_le C (ckD_get k_X10_next_0 14 rfl) (fun c_44 => ?_) (fun c_44 => ?_)
    · have hf := if_t hf c_44
      cases hf
      cases hz_4 _ rfl
      exact hE_4
    · have hf := if_f hf c_44
      obtain ⟨x2_45, ex2_45, hf⟩ := lt_e hf
      refine g_iinc (lv' := [(2, _), (0, _), (1, _)]) 2 C (ckD_get k_X10_next_0 15 rfl) rfl ex2_45 hL2 rfl ?_
      refine g_goto C (ckD_get k_X10_next_0 16 rfl) ?_
      refine G.sub [1, 2, 0] rfl ?_
      cases hf
      exact hn_4 _ rfl
