set_option maxRecDepth 20000 in
theorem k_X2_partOf_0 : ckD cX2_partOf [(0, .iconst 0, 1, 1, 0), (1, .istore_n 2, 1, 2, 0), (2, .iload_n 2, 1, 3, 0), (3, .aload_n 0, 1, 4, 0), (4, .getfield 33, 3, 7, 0), (7, .if_icmp .ge 82, 3, 10, 89), (10, .iload_n 1, 1, 11, 0), (11, .iload_n 2, 1, 12, 0), (12, .invokestatic 47, 3, 15, 0), (15, .iconst 1, 1, 16, 0), (16, .if_icmp .ne 67, 3, 19, 83), (19, .aload_n 0, 1, 20, 0), (20, .iload_n 1, 1, 21, 0), (21, .aload_n 0, 1, 22, 0), (22, .getfield 9, 3, 25, 0), (25, .aload_n 0, 1, 26, 0), (26, .getfield 18, 3, 29, 0), (29, .aload_n 0, 1, 30, 0), (30, .getfield 9, 3, 33, 0), (33, .iload_n 2, 1, 34, 0), (34, .iaload, 1, 35, 0), (35, .aload_n 0, 1, 36, 0), (36, .getfield 18, 3, 39, 0), (39, .iload_n 2, 1, 40, 0), (40, .iaload, 1, 41, 0), (41, .iadd, 1, 42, 0), (42, .invokevirtual 89, 3, 45, 0), (45, .istore_n 3, 1, 46, 0), (46, .iload_n 3, 1, 47, 0), (47, .ifCond .ne 30, 3, 50, 77), (50, .aload_n 0, 1, 51, 0), (51, .iload_n 1, 1, 52, 0), (52, .aload_n 0, 1, 53, 0), (53, .getfield 15, 3, 56, 0), (56, .aload_n 0, 1, 57, 0), (57, .getfield 21, 3, 60, 0), (60, .aload_n 0, 1, 61, 0), (61, .getfield 15, 3, 64, 0), (64, .iload_n 2, 1, 65, 0), (65, .iaload, 1, 66, 0)] = true := by decide +kernel
set_option maxRecDepth 20000 in
theorem k_X2_partOf_1 : ckD cX2_partOf [(66, .aload_n 0, 1, 67, 0), (67, .getfield 21, 3, 70, 0), (70, .iload_n 2, 1, 71, 0), (71, .iaload, 1, 72, 0), (72, .iadd, 1, 73, 0), (73, .invokevirtual 89, 3, 76, 0), (76, .istore_n 3, 1, 77, 0), (77, .iload_n 3, 1, 78, 0), (78, .ifCond .eq 5, 3, 81, 83), (81, .iload_n 3, 1, 82, 0), (82, .ireturn, 1, 83, 0), (83, .iinc 2 1, 3, 86, 0), (86, .goto (-84), 3, 89, 2), (89, .iconst 0, 1, 90, 0), (90, .ireturn, 1, 91, 0)] = true := by decide +kernel
def f_X2_partOf_A2  : Option Int32 := some (0 : Int32)
def f_X2_partOf_J83 (x2_1 : Int32) (_ : Unit) : Option (Int32 ⊕ (Unit ⊕ Int32)) := lt1 (x2_1 + 1) fun x2_3 => some (.inl x2_3)
def f_X2_partOf_J77 (x2_1 : Int32) (p3_11 : Int32) : Option (Int32 ⊕ (Unit ⊕ Int32)) := if p3_11 = 0 then f_X2_partOf_J83 x2_1 () else some (.inr (.inr p3_11))
def f_X2_partOf_L2 (k0 : Nat) (a1 : Int32) (M : Mm) (x2_1 : Int32) : Option (Int32 ⊕ (Unit ⊕ Int32)) := if (M.1 k0 6) ≤ x2_1 then some (.inr (.inl ())) else if (f_X9_bitOf a1 x2_1) = (1 : Int32) then rdI 12 M (k0 + 1) x2_1 fun v_5 => rdI 12 M (k0 + 3) x2_1 fun v_7 => (f_X2_partAt k0 a1 (k0 + 1) (k0 + 3) (v_5 + v_7) M).bind fun r_10 => if r_10 = 0 then rdI 12 M (k0 + 2) x2_1 fun v_14 => rdI 12 M (k0 + 4) x2_1 fun v_16 => (f_X2_partAt k0 a1 (k0 + 2) (k0 + 4) (v_14 + v_16) M).bind fun r_19 => f_X2_partOf_J77 x2_1 r_19 else f_X2_partOf_J77 x2_1 r_10 else f_X2_partOf_J83 x2_1 ()
def f_X2_partOf (k0 : Nat) (a1 : Int32) (M : Mm) : Option Int32 := (loop (fun v => f_X2_partOf_L2 k0 a1 M v) FU (0 : Int32)).bind fun x => Sum.elim (fun z => f_X2_partOf_A2 ) (fun o => some o) x
set_option maxRecDepth 100000 in
set_option maxHeartbeats 4000000 in
theorem t_X2_partOf {E : Ev} {l : Launch} (htr : l.stackTraces = false) (k0 : Nat) (hk0 : isGr k0) (a1 : Int32) (M : Mm) (r : Int32) (hf : f_X2_partOf k0 a1 M = some r) : CM E l 2 0 0 yX2_partOf cX2_partOf 4 (some .int) [.ref (E.1 + k0), .int a1] M (some (.int r)) M := by
  refine CM.of htr (by decide +kernel) (Nat.le_of_ble_eq_true rfl) ?_
  intro K hE hL hl hR0 C hr hRv
  subst hE
  subst hl
  have C : Cx K cX2_partOf RX2 2 := C
  have hB : (0 : Nat) ≤ K.1.R.cells ∧ 0 ≤ K.1.R.slots := ⟨Nat.zero_le _, Nat.zero_le _⟩
  have hL2 : 2 < K.2.2.1 := by rw [hL]; decide
  have hL3 : 3 < K.2.2.1 := by rw [hL]; decide
  show G K (0, 0) 0 [(0, .ref (K.2.1.1 + k0)), (1, .int a1)] [] M
  unfold f_X2_partOf at hf
  refine g_iconst (v := (0 : Int32)) C (ckD_get k_X2_partOf_0 0 rfl) (by decide) ?_
  refine g_istore_n (lv' := [(2, _), (0, _), (1, _)]) C (ckD_get k_X2_partOf_0 1 rfl) rfl hL2 rfl ?_
  refine G.sub [1, 2, 0] rfl ?_
  obtain ⟨xx_2, hx_2, hf⟩ := bd_e hf
  have hE_2 : ∀ (_ : Unit), xx_2 = .inl () → G K (0, 0) 89 [] [] M := by
    intro _ ex
    subst ex
    have hf : f_X2_partOf_A2  = some r := hf
    unfold f_X2_partOf_A2 at hf
    refine g_iconst (v := (0 : Int32)) C (ckD_get k_X2_partOf_1 13 rfl) (by decide) ?_
    cases hf
    exact g_iret C (ckD_get k_X2_partOf_1 14 rfl) hr hRv (Nat.le_refl _) (Nat.le_refl _)
  have hO_2 : ∀ o, xx_2 = .inr o → o = r := by
    intro o eo
    subst eo
    have hf : some o = some r := hf
    cases hf
    rfl
  refine loop_e (x := xx_2) (P := fun (v : Int32) => G K (0, 0) 2 [(0, .ref (K.2.1.1 + k0)), (1, .int a1), (2, .int v)] [] M) ?_ FU _ hx_2
  intro x2_1 rr_2 hf hn_2 hz_2
  have hf : f_X2_partOf_L2 k0 a1 M x2_1 = some rr_2 := hf
  show G K (0, 0) 2 [(0, .ref (K.2.1.1 + k0)), (1, .int a1), (2, .int x2_1)] [] M
  unfold f_X2_partOf_L2 at hf
  refine g_iload_n 2 C (ckD_get k_X2_partOf_0 2 rfl) rfl rfl ?_
  refine g_aload_n 0 C (ckD_get k_X2_partOf_0 3 rfl) rfl rfl ?_
  refine g_getI C (ckD_get k_X2_partOf_0 4 rfl) fk_X2_33 (T_Gr hk0) rfl ?_
  refine g_icmp_ge C (ckD_get k_X2_partOf_0 5 rfl) (fun c_2 => ?_) (fun c_2 => ?_)
  · have hf := if_t hf c_2
    refine G.sub [] rfl ?_
    cases hf
    exact hE_2 () (hz_2 _ rfl).symm
  · have hf := if_f hf c_2
    refine g_iload_n 1 C (ckD_get k_X2_partOf_0 6 rfl) rfl rfl ?_
    refine g_iload_n 2 C (ckD_get k_X2_partOf_0 7 rfl) rfl rfl ?_
    refine n_cN [.int a1, .int x2_1] [] C (ckD_get k_X2_partOf_0 8 rfl) nk_X2_47 (t_X9_bitOf C.tr _ _ _ _ rfl) rfl rfl (Nat.le_of_ble_eq_true rfl) (by decide) hB rfl ?_
    refine g_iconst (v := (1 : Int32)) C (ckD_get k_X2_partOf_0 9 rfl) (by decide) ?_
    have hJ_83 : ∀ (_ : Unit), f_X2_partOf_J83 x2_1 () = some rr_2 → G K (0, 0) 83 [(0, .ref (K.2.1.1 + k0)), (1, .int a1), (2, .int x2_1)] [] M := by
      intro _ hf
      unfold f_X2_partOf_J83 at hf
      obtain ⟨x2_3, ex2_3, hf⟩ := lt_e hf
      refine g_iinc (lv' := [(2, _), (0, _), (1, _)]) 2 C (ckD_get k_X2_partOf_1 11 rfl) rfl ex2_3 hL2 rfl ?_
      refine g_goto C (ckD_get k_X2_partOf_1 12 rfl) ?_
      refine G.sub [1, 2, 0] rfl ?_
      cases hf
      exact hn_2 _ rfl
    refine g_icmp_ne C (ckD_get k_X2_partOf_0 10 rfl) (fun c_4 => ?_) (fun c_4 => ?_)
    · have hf := if_f hf c_4
      exact hJ_83 () hf
    · have hf := if_t hf c_4
      refine g_aload_n 0 C (ckD_get k_X2_partOf_0 11 rfl) rfl rfl ?_
      refine g_iload_n 1 C (ckD_get k_X2_partOf_0 12 rfl) rfl rfl ?_
      refine g_aload_n 0 C (ckD_get k_X2_partOf_0 13 rfl) rfl rfl ?_
      refine g_getR C (ckD_get k_X2_partOf_0 14 rfl) fk_X2_9 (T_Gr hk0) rfl ?_
      refine g_aload_n 0 C (ckD_get k_X2_partOf_0 15 rfl) rfl rfl ?_
      refine g_getR C (ckD_get k_X2_partOf_0 16 rfl) fk_X2_18 (T_Gr hk0) rfl ?_
      refine g_aload_n 0 C (ckD_get k_X2_partOf_0 17 rfl) rfl rfl ?_
      refine g_getR C (ckD_get k_X2_partOf_0 18 rfl) fk_X2_9 (T_Gr hk0) rfl ?_
      refine g_iload_n 2 C (ckD_get k_X2_partOf_0 19 rfl) rfl rfl ?_
      obtain ⟨v_5, hi_6, ev_5, hf⟩ := rdI_e hf
      refine n_iald C (ckD_get k_X2_partOf_0 20 rfl) (T_Gr1 hk0) hi_6 ev_5 ?_
      refine g_aload_n 0 C (ckD_get k_X2_partOf_0 21 rfl) rfl rfl ?_
      refine g_getR C (ckD_get k_X2_partOf_0 22 rfl) fk_X2_18 (T_Gr hk0) rfl ?_
      refine g_iload_n 2 C (ckD_get k_X2_partOf_0 23 rfl) rfl rfl ?_
      obtain ⟨v_7, hi_8, ev_7, hf⟩ := rdI_e hf
      refine n_iald C (ckD_get k_X2_partOf_0 24 rfl) (T_Gr3 hk0) hi_8 ev_7 ?_
      refine g_iadd C (ckD_get k_X2_partOf_0 25 rfl) ?_
      obtain ⟨r_10, hr_9, hf⟩ := bd_e hf
      refine n_cV [.int a1, .ref (K.2.1.1 + (k0 + 1)), .ref (K.2.1.1 + (k0 + 3)), .int (v_5 + v_7)] [] C (ckD_get k_X2_partOf_0 26 rfl) vk_X2_89 (t_X2_partAt C.tr _ hk0 _ _ (T_Gr1 hk0) _ (T_Gr3 hk0) _ _ _ hr_9) (T_Gr hk0) rfl rfl (Nat.le_of_ble_eq_true rfl) (by decide) hB rfl ?_
      refine g_istore_n (lv' := [(3, _), (0, _), (1, _), (2, _)]) C (ckD_get k_X2_partOf_0 27 rfl) rfl hL3 rfl ?_
      refine g_iload_n 0 C (ckD_get k_X2_partOf_0 28 rfl) rfl rfl ?_
      have hJ_77 : ∀ (p3_11 : Int32), f_X2_partOf_J77 x2_1 p3_11 = some rr_2 → G K (0, 0) 77 [(0, .ref (K.2.1.1 + k0)), (1, .int a1), (2, .int x2_1), (3, .int p3_11)] [] M := by
        intro p3_11 hf
        unfold f_X2_partOf_J77 at hf
        refine g_iload_n 3 C (ckD_get k_X2_partOf_1 7 rfl) rfl rfl ?_
        refine g_if_eq C (ckD_get k_X2_partOf_1 8 rfl) (fun c_12 => ?_) (fun c_12 => ?_)
        · have hf := if_t hf c_12
          refine G.sub [0, 1, 2] rfl ?_
          exact hJ_83 () hf
        · have hf := if_f hf c_12
          refine g_iload_n 3 C (ckD_get k_X2_partOf_1 9 rfl) rfl rfl ?_
          cases hf
          cases hO_2 _ (hz_2 _ rfl).symm
          exact g_iret C (ckD_get k_X2_partOf_1 10 rfl) hr hRv (Nat.le_refl _) (Nat.le_refl _)
      refine g_if_ne C (ckD_get k_X2_partOf_0 29 rfl) (fun c_13 => ?_) (fun c_13 => ?_)
      · have hf := if_f hf c_13
        refine G.sub [1, 2, 3, 0] rfl ?_
        exact hJ_77 _ hf
      · have hf := if_t hf c_13
        refine g_aload_n 1 C (ckD_get k_X2_partOf_0 30 rfl) rfl rfl ?_
        refine g_iload_n 2 C (ckD_get k_X2_partOf_0 31 rfl) rfl rfl ?_
        refine g_aload_n 1 C (ckD_get k_X2_partOf_0 32 rfl) rfl rfl ?_
        refine g_getR C (ckD_get k_X2_partOf_0 33 rfl) fk_X2_15 (T_Gr hk0) rfl ?_
        refine g_aload_n 1 C (ckD_get k_X2_partOf_0 34 rfl) rfl rfl ?_
        refine g_getR C (ckD_get k_X2_partOf_0 35 rfl) fk_X2_21 (T_Gr hk0) rfl ?_
        refine g_aload_n 1 C (ckD_get k_X2_partOf_0 36 rfl) rfl rfl ?_
        refine g_getR C (ckD_get k_X2_partOf_0 37 rfl) fk_X2_15 (T_Gr hk0) rfl ?_
        refine g_iload_n 3 C (ckD_get k_X2_partOf_0 38 rfl) rfl rfl ?_
        obtain ⟨v_14, hi_15, ev_14, hf⟩ := rdI_e hf
        refine n_iald C (ckD_get k_X2_partOf_0 39 rfl) (T_Gr2 hk0) hi_15 ev_14 ?_
        refine g_aload_n 1 C (ckD_get k_X2_partOf_1 0 rfl) rfl rfl ?_
        refine g_getR C (ckD_get k_X2_partOf_1 1 rfl) fk_X2_21 (T_Gr hk0) rfl ?_
        refine g_iload_n 3 C (ckD_get k_X2_partOf_1 2 rfl) rfl rfl ?_
        obtain ⟨v_16, hi_17, ev_16, hf⟩ := rdI_e hf
        refine n_iald C (ckD_get k_X2_partOf_1 3 rfl) (T_Gr4 hk0) hi_17 ev_16 ?_
        refine g_iadd C (ckD_get k_X2_partOf_1 4 rfl) ?_
        obtain ⟨r_19, hr_18, hf⟩ := bd_e hf
        refine n_cV [.int a1, .ref (K.2.1.1 + (k0 + 2)), .ref (K.2.1.1 + (k0 + 4)), .int (v_14 + v_16)] [] C (ckD_get k_X2_partOf_1 5 rfl) vk_X2_89 (t_X2_partAt C.tr _ hk0 _ _ (T_Gr2 hk0) _ (T_Gr4 hk0) _ _ _ hr_18) (T_Gr hk0) rfl rfl (Nat.le_of_ble_eq_true rfl) (by decide) hB rfl ?_
        refine g_istore_n (lv' := [(3, _), (0, _), (1, _), (2, _)]) C (ckD_get k_X2_partOf_1 6 rfl) rfl hL3 rfl ?_
        refine G.sub [1, 2, 3, 0] rfl ?_
        exact hJ_77 _ hf

set_option maxRecDepth 20000 in
theorem k_X2_canBeParted_0 : ckD cX2_canBeParted [(0, .iconst 1, 1, 1, 0), (1, .istore_n 1, 1, 2, 0), (2, .aload_n 0, 1, 3, 0), (3, .getfield 24, 3, 6, 0), (6, .iconst 0, 1, 7, 0), (7, .iconst 1, 1, 8, 0), (8, .aload_n 0, 1, 9, 0), (9, .getfield 33, 3, 12, 0), (12, .ishl, 1, 13, 0), (13, .iconst 1, 1, 14, 0), (14, .isub, 1, 15, 0), (15, .iastore, 1, 16, 0), (16, .iconst 0, 1, 17, 0), (17, .istore_n 2, 1, 18, 0), (18, .iload_n 2, 1, 19, 0), (19, .bipush 24, 2, 21, 0), (21, .if_icmp .ge 81, 3, 24, 102), (24, .iload_n 1, 1, 25, 0), (25, .ifCond .le 77, 3, 28, 102), (28, .iinc 1 (-1), 3, 31, 0), (31, .aload_n 0, 1, 32, 0), (32, .getfield 24, 3, 35, 0), (35, .iload_n 1, 1, 36, 0), (36, .iaload, 1, 37, 0), (37, .istore_n 3, 1, 38, 0), (38, .iload_n 3, 1, 39, 0), (39, .invokestatic 72, 3, 42, 0), (42, .iconst 1, 1, 43, 0), (43, .if_icmp .le 53, 3, 46, 96), (46, .aload_n 0, 1, 47, 0), (47, .iload_n 3, 1, 48, 0), (48, .invokevirtual 86, 3, 51, 0), (51, .istore 4, 2, 53, 0), (53, .iload 4, 2, 55, 0), (55, .ifCond .eq 14, 3, 58, 69), (58, .iload_n 1, 1, 59, 0), (59, .iconst 2, 1, 60, 0), (60, .iadd, 1, 61, 0), (61, .aload_n 0, 1, 62, 0), (62, .getfield 24, 3, 65, 0)] = true := by decide +kernel
set_option maxRecDepth 20000 in
theorem k_X2_canBeParted_1 : ckD cX2_canBeParted [(65, .arraylength, 1, 66, 0), (66, .if_icmp .le 5, 3, 69, 71), (69, .iconst 0, 1, 70, 0), (70, .ireturn, 1, 71, 0), (71, .aload_n 0, 1, 72, 0), (72, .getfield 24, 3, 75, 0), (75, .iload_n 1, 1, 76, 0), (76, .iload 4, 2, 78, 0), (78, .iastore, 1, 79, 0), (79, .aload_n 0, 1, 80, 0), (80, .getfield 24, 3, 83, 0), (83, .iload_n 1, 1, 84, 0), (84, .iconst 1, 1, 85, 0), (85, .iadd, 1, 86, 0), (86, .iload_n 3, 1, 87, 0), (87, .iload 4, 2, 89, 0), (89, .iconst (-1), 1, 90, 0), (90, .ixor, 1, 91, 0), (91, .iand, 1, 92, 0), (92, .iastore, 1, 93, 0), (93, .iinc 1 2, 3, 96, 0), (96, .iinc 2 1, 3, 99, 0), (99, .goto (-81), 3, 102, 18), (102, .iconst 1, 1, 103, 0), (103, .ireturn, 1, 104, 0)] = true := by decide +kernel
def f_X2_canBeParted_A18 (M_6 : Mm) : Option (Int32 × Mm) := some ((1 : Int32), M_6)
def f_X2_canBeParted_J96 (x2_4 : Int32) (p1_12 : Int32) (M_13 : Mm) : Option ((Int32 × Int32 × Mm) ⊕ (Mm ⊕ (Int32 × Mm))) := lt1 (x2_4 + 1) fun x2_14 => some (.inl (p1_12, x2_14, M_13))
def f_X2_canBeParted_L18 (k0 : Nat) (x1_3 : Int32) (x2_4 : Int32) (M_5 : Mm) : Option ((Int32 × Int32 × Mm) ⊕ (Mm ⊕ (Int32 × Mm))) := if (24 : Int32) ≤ x2_4 then some (.inr (.inl M_5)) else if x1_3 ≤ 0 then some (.inr (.inl M_5)) else lt1 (x1_3 + (-1)) fun x1_9 => rdI 13 M_5 (k0 + 5) x1_9 fun v_10 => if (f_J6_bitCount_0f7a4 v_10) ≤ (1 : Int32) then f_X2_canBeParted_J96 x2_4 x1_9 M_5 else (f_X2_partOf k0 v_10 M_5).bind fun r_17 => if r_17 = 0 then some (.inr (.inr ((0 : Int32), M_5))) else if (x1_9 + (2 : Int32)) ≤ (13 : Int32) then wrI 13 M_5 (k0 + 5) x1_9 r_17 fun M_20 => wrI 13 M_20 (k0 + 5) (x1_9 + (1 : Int32)) (v_10 &&& (r_17 ^^^ (-1 : Int32))) fun M_22 => lt1 (x1_9 + 2) fun x1_24 => f_X2_canBeParted_J96 x2_4 x1_24 M_22 else some (.inr (.inr ((0 : Int32), M_5)))
def f_X2_canBeParted (k0 : Nat) (M : Mm) : Option (Int32 × Mm) := wrI 13 M (k0 + 5) (0 : Int32) (((1 : Int32) <<< ((M.1 k0 6) &&& 31)) - (1 : Int32)) fun M_1 => (loop (fun v => f_X2_canBeParted_L18 k0 v.1 v.2.1 v.2.2) FU ((1 : Int32), (0 : Int32), M_1)).bind fun x => Sum.elim (fun z => f_X2_canBeParted_A18 z) (fun o => some o) x
set_option maxRecDepth 100000 in
set_option maxHeartbeats 4000000 in
theorem t_X2_canBeParted {E : Ev} {l : Launch} (htr : l.stackTraces = false) (k0 : Nat) (hk0 : isGr k0) (M : Mm) (r : (Int32 × Mm)) (hf : f_X2_canBeParted k0 M = some r) : CM E l 3 0 0 yX2_canBeParted cX2_canBeParted 5 (some .boolean) [.ref (E.1 + k0)] M (some (.int r.1)) r.2 := by
  refine CM.of htr (by decide +kernel) (Nat.le_of_ble_eq_true rfl) ?_
  intro K hE hL hl hR0 C hr hRv
  subst hE
  subst hl
  have C : Cx K cX2_canBeParted RX2 3 := C
  have hB : (0 : Nat) ≤ K.1.R.cells ∧ 0 ≤ K.1.R.slots := ⟨Nat.zero_le _, Nat.zero_le _⟩
  have hL1 : 1 < K.2.2.1 := by rw [hL]; decide
  have hL2 : 2 < K.2.2.1 := by rw [hL]; decide
  have hL3 : 3 < K.2.2.1 := by rw [hL]; decide
  have hL4 : 4 < K.2.2.1 := by rw [hL]; decide
  show G K (0, 0) 0 [(0, .ref (K.2.1.1 + k0))] [] M
  unfold f_X2_canBeParted at hf
  refine g_iconst (v := (1 : Int32)) C (ckD_get k_X2_canBeParted_0 0 rfl) (by decide) ?_
  refine g_istore_n (lv' := [(1, _), (0, _)]) C (ckD_get k_X2_canBeParted_0 1 rfl) rfl hL1 rfl ?_
  refine g_aload_n 1 C (ckD_get k_X2_canBeParted_0 2 rfl) rfl rfl ?_
  refine g_getR C (ckD_get k_X2_canBeParted_0 3 rfl) fk_X2_24 (T_Gr hk0) rfl ?_
  refine g_iconst (v := (0 : Int32)) C (ckD_get k_X2_canBeParted_0 4 rfl) (by decide) ?_
  refine g_iconst (v := (1 : Int32)) C (ckD_get k_X2_canBeParted_0 5 rfl) (by decide) ?_
  refine g_aload_n 1 C (ckD_get k_X2_canBeParted_0 6 rfl) rfl rfl ?_
  refine g_getI C (ckD_get k_X2_canBeParted_0 7 rfl) fk_X2_33 (T_Gr hk0) rfl ?_
  refine g_ishl C (ckD_get k_X2_canBeParted_0 8 rfl) ?_
  refine g_iconst (v := (1 : Int32)) C (ckD_get k_X2_canBeParted_0 9 rfl) (by decide) ?_
  refine g_isub C (ckD_get k_X2_canBeParted_0 10 rfl) ?_
  obtain ⟨M_1, hi_2, eM_1, hf⟩ := wrI_e hf
  refine n_iast C (ckD_get k_X2_canBeParted_0 11 rfl) (T_Gr5 hk0) hi_2 eM_1 ?_
  refine g_iconst (v := (0 : Int32)) C (ckD_get k_X2_canBeParted_0 12 rfl) (by decide) ?_
  refine g_istore_n (lv' := [(2, _), (1, _), (0, _)]) C (ckD_get k_X2_canBeParted_0 13 rfl) rfl hL2 rfl ?_
  refine G.sub [2, 1, 0] rfl ?_
  obtain ⟨xx_18, hx_18, hf⟩ := bd_e hf
  have hE_18 : ∀ (M_6 : Mm), xx_18 = .inl M_6 → G K (0, 0) 102 [] [] M_6 := by
    intro M_6 ex
    subst ex
    have hf : f_X2_canBeParted_A18 M_6 = some r := hf
    unfold f_X2_canBeParted_A18 at hf
    refine g_iconst (v := (1 : Int32)) C (ckD_get k_X2_canBeParted_1 23 rfl) (by decide) ?_
    cases hf
    exact g_zret C (ckD_get k_X2_canBeParted_1 24 rfl) hr rfl hRv (Nat.le_refl _) (Nat.le_refl _)
  have hO_18 : ∀ o, xx_18 = .inr o → o = r := by
    intro o eo
    subst eo
    have hf : some o = some r := hf
    cases hf
    rfl
  refine loop_e (x := xx_18) (P := fun (v : (Int32 × Int32 × Mm)) => G K (0, 0) 18 [(0, .ref (K.2.1.1 + k0)), (1, .int v.1), (2, .int v.2.1)] [] v.2.2) ?_ FU _ hx_18
  intro v rr_18 hf hn_18 hz_18
  obtain ⟨x1_3, x2_4, M_5⟩ := v
  have hf : f_X2_canBeParted_L18 k0 x1_3 x2_4 M_5 = some rr_18 := hf
  show G K (0, 0) 18 [(0, .ref (K.2.1.1 + k0)), (1, .int x1_3), (2, .int x2_4)] [] M_5
  unfold f_X2_canBeParted_L18 at hf
  refine g_iload_n 2 C (ckD_get k_X2_canBeParted_0 14 rfl) rfl rfl ?_
  refine g_bipush (v := (24 : Int32)) C (ckD_get k_X2_canBeParted_0 15 rfl) (by decide) ?_
  refine g_icmp_ge C (ckD_get k_X2_canBeParted_0 16 rfl) (fun c_7 => ?_) (fun c_7 => ?_)
  · have hf := if_t hf c_7
    refine G.sub [] rfl ?_
    cases hf
    exact hE_18 _ (hz_18 _ rfl).symm
  · have hf := if_f hf c_7
    refine g_iload_n 1 C (ckD_get k_X2_canBeParted_0 17 rfl) rfl rfl ?_
    refine g_if_le C (ckD_get k_X2_canBeParted_0 18 rfl) (fun c_8 => ?_) (fun c_8 => ?_)
    · have hf := if_t hf c_8
      refine G.sub [] rfl ?_
      cases hf
      exact hE_18 _ (hz_18 _ rfl).symm
    · have hf := if_f hf c_8
      obtain ⟨x1_9, ex1_9, hf⟩ := lt_e hf
      refine g_iinc (lv' := [(1, _), (0, _), (2, _)]) 1 C (ckD_get k_X2_canBeParted_0 19 rfl) rfl ex1_9 hL1 rfl ?_
      refine g_aload_n 1 C (ckD_get k_X2_canBeParted_0 20 rfl) rfl rfl ?_
      refine g_getR C (ckD_get k_X2_canBeParted_0 21 rfl) fk_X2_24 (T_Gr hk0) rfl ?_
      refine g_iload_n 0 C (ckD_get k_X2_canBeParted_0 22 rfl) rfl rfl ?_
      obtain ⟨v_10, hi_11, ev_10, hf⟩ := rdI_e hf
      refine n_iald C (ckD_get k_X2_canBeParted_0 23 rfl) (T_Gr5 hk0) hi_11 ev_10 ?_
      refine g_istore_n (lv' := [(3, _), (1, _), (0, _), (2, _)]) C (ckD_get k_X2_canBeParted_0 24 rfl) rfl hL3 rfl ?_
      refine g_iload_n 0 C (ckD_get k_X2_canBeParted_0 25 rfl) rfl rfl ?_
      refine n_cS [.int v_10] [] C (ckD_get k_X2_canBeParted_0 26 rfl) sk_X2_72 (t_J6_bitCount_0f7a4 C.tr _ _ _ rfl) rfl rfl (Nat.le_of_ble_eq_true rfl) (by decide) hB rfl ?_
      refine g_iconst (v := (1 : Int32)) C (ckD_get k_X2_canBeParted_0 27 rfl) (by decide) ?_
      have hJ_96 : ∀ (p1_12 : Int32) (M_13 : Mm), f_X2_canBeParted_J96 x2_4 p1_12 M_13 = some rr_18 → G K (0, 0) 96 [(0, .ref (K.2.1.1 + k0)), (1, .int p1_12), (2, .int x2_4)] [] M_13 := by
        intro p1_12 M_13 hf
        unfold f_X2_canBeParted_J96 at hf
        obtain ⟨x2_14, ex2_14, hf⟩ := lt_e hf
        refine g_iinc (lv' := [(2, _), (0, _), (1, _)]) 2 C (ckD_get k_X2_canBeParted_1 21 rfl) rfl ex2_14 hL2 rfl ?_
        refine g_goto C (ckD_get k_X2_canBeParted_1 22 rfl) ?_
        refine G.sub [1, 2, 0] rfl ?_
        cases hf
        exact hn_18 _ rfl
      refine g_icmp_le C (ckD_get k_X2_canBeParted_0 28 rfl) (fun c_15 => ?_) (fun c_15 => ?_)
      · have hf := if_t hf c_15
        refine G.sub [2, 1, 3] rfl ?_
        exact hJ_96 _ _ hf
      · have hf := if_f hf c_15
        refine g_aload_n 2 C (ckD_get k_X2_canBeParted_0 29 rfl) rfl rfl ?_
        refine g_iload_n 0 C (ckD_get k_X2_canBeParted_0 30 rfl) rfl rfl ?_
        obtain ⟨r_17, hr_16, hf⟩ := bd_e hf
        refine n_cV [.int v_10] [] C (ckD_get k_X2_canBeParted_0 31 rfl) vk_X2_86 (t_X2_partOf C.tr _ hk0 _ _ _ hr_16) (T_Gr hk0) rfl rfl (Nat.le_of_ble_eq_true rfl) (by decide) hB rfl ?_
        refine g_istore (lv' := [(4, _), (3, _), (1, _), (0, _), (2, _)]) C (ckD_get k_X2_canBeParted_0 32 rfl) hL4 rfl ?_
        refine g_iload 0 C (ckD_get k_X2_canBeParted_0 33 rfl) rfl ?_
        refine g_if_eq C (ckD_get k_X2_canBeParted_0 34 rfl) (fun c_18 => ?_) (fun c_18 => ?_)
        · have hf := if_t hf c_18
          refine g_iconst (v := (0 : Int32)) C (ckD_get k_X2_canBeParted_1 2 rfl) (by decide) ?_
          cases hf
          cases hO_18 _ (hz_18 _ rfl).symm
          exact g_zret C (ckD_get k_X2_canBeParted_1 3 rfl) hr rfl hRv (Nat.le_refl _) (Nat.le_refl _)
        · have hf := if_f hf c_18
          refine g_iload_n 2 C (ckD_get k_X2_canBeParted_0 35 rfl) rfl rfl ?_
          refine g_iconst (v := (2 : Int32)) C (ckD_get k_X2_canBeParted_0 36 rfl) (by decide) ?_
          refine g_iadd C (ckD_get k_X2_canBeParted_0 37 rfl) ?_
          refine g_aload_n 3 C (ckD_get k_X2_canBeParted_0 38 rfl) rfl rfl ?_
          refine g_getR C (ckD_get k_X2_canBeParted_0 39 rfl) fk_X2_24 (T_Gr hk0) rfl ?_
          refine g_alen (v := 13) C (ckD_get k_X2_canBeParted_1 0 rfl) (T_Gr5 hk0) (by decide) ?_
          refine g_icmp_le C (ckD_get k_X2_canBeParted_1 1 rfl) (fun c_19 => ?_) (fun c_19 => ?_)
          · have hf := if_t hf c_19
            refine g_aload_n 3 C (ckD_get k_X2_canBeParted_1 4 rfl) rfl rfl ?_
            refine g_getR C (ckD_get k_X2_canBeParted_1 5 rfl) fk_X2_24 (T_Gr hk0) rfl ?_
            refine g_iload_n 2 C (ckD_get k_X2_canBeParted_1 6 rfl) rfl rfl ?_
            refine g_iload 0 C (ckD_get k_X2_canBeParted_1 7 rfl) rfl ?_
            obtain ⟨M_20, hi_21, eM_20, hf⟩ := wrI_e hf
            refine n_iast C (ckD_get k_X2_canBeParted_1 8 rfl) (T_Gr5 hk0) hi_21 eM_20 ?_
            refine g_aload_n 3 C (ckD_get k_X2_canBeParted_1 9 rfl) rfl rfl ?_
            refine g_getR C (ckD_get k_X2_canBeParted_1 10 rfl) fk_X2_24 (T_Gr hk0) rfl ?_
            refine g_iload_n 2 C (ckD_get k_X2_canBeParted_1 11 rfl) rfl rfl ?_
            refine g_iconst (v := (1 : Int32)) C (ckD_get k_X2_canBeParted_1 12 rfl) (by decide) ?_
            refine g_iadd C (ckD_get k_X2_canBeParted_1 13 rfl) ?_
            refine g_iload_n 1 C (ckD_get k_X2_canBeParted_1 14 rfl) rfl rfl ?_
            refine g_iload 0 C (ckD_get k_X2_canBeParted_1 15 rfl) rfl ?_
            refine g_iconst (v := (-1 : Int32)) C (ckD_get k_X2_canBeParted_1 16 rfl) (by decide) ?_
            refine g_ixor C (ckD_get k_X2_canBeParted_1 17 rfl) ?_
            refine g_iand C (ckD_get k_X2_canBeParted_1 18 rfl) ?_
            obtain ⟨M_22, hi_23, eM_22, hf⟩ := wrI_e hf
            refine n_iast C (ckD_get k_X2_canBeParted_1 19 rfl) (T_Gr5 hk0) hi_23 eM_22 ?_
            obtain ⟨x1_24, ex1_24, hf⟩ := lt_e hf
            refine g_iinc (lv' := [(1, _), (4, _), (3, _), (0, _), (2, _)]) 2 C (ckD_get k_X2_canBeParted_1 20 rfl) rfl ex1_24 hL1 rfl ?_
            refine G.sub [3, 0, 4] rfl ?_
            exact hJ_96 _ _ hf
          · have hf := if_f hf c_19
            refine g_iconst (v := (0 : Int32)) C (ckD_get k_X2_canBeParted_1 2 rfl) (by decide) ?_
            cases hf
            cases hO_18 _ (hz_18 _ rfl).symm
            exact g_zret C (ckD_get k_X2_canBeParted_1 3 rfl) hr rfl hRv (Nat.le_refl _) (Nat.le_refl _)

set_option maxRecDepth 20000 in
theorem k_X3_isChild_0 : ckD cX3_isChild [(0, .iload_n 0, 1, 1, 0), (1, .iload_n 1, 1, 2, 0), (2, .if_icmp .lt 9, 3, 5, 11), (5, .iload_n 0, 1, 6, 0), (6, .bipush 15, 2, 8, 0), (8, .if_icmp .ne 7, 3, 11, 15), (11, .iconst 1, 1, 12, 0), (12, .goto 4, 3, 15, 16), (15, .iconst 0, 1, 16, 0), (16, .ireturn, 1, 17, 0)] = true := by decide +kernel
def f_X3_isChild (a0 : Int32) (a1 : Int32) : Int32 := if a0 < a1 then (1 : Int32) else if a0 = (15 : Int32) then (1 : Int32) else (0 : Int32)
set_option maxRecDepth 100000 in
set_option maxHeartbeats 4000000 in
theorem t_X3_isChild {E : Ev} {l : Launch} (htr : l.stackTraces = false) (a0 : Int32) (a1 : Int32) (M : Mm) (r : Int32) (hf : f_X3_isChild a0 a1 = r) : CM E l 0 0 0 yX3_isChild cX3_isChild 2 (some .boolean) [.int a0, .int a1] M (some (.int r)) M := by
  refine CM.of htr (by decide +kernel) (Nat.le_of_ble_eq_true rfl) ?_
  intro K hE hL hl hR0 C hr hRv
  subst hE
  subst hl
  have C : Cx K cX3_isChild RX3 0 := C
  have hB : (0 : Nat) ≤ K.1.R.cells ∧ 0 ≤ K.1.R.slots := ⟨Nat.zero_le _, Nat.zero_le _⟩
  show G K (0, 0) 0 [(0, .int a0), (1, .int a1)] [] M
  unfold f_X3_isChild at hf
  refine g_iload_n 0 C (ckD_get k_X3_isChild_0 0 rfl) rfl rfl ?_
  refine g_iload_n 1 C (ckD_get k_X3_isChild_0 1 rfl) rfl rfl ?_
  refine g_icmp_lt C (ckD_get k_X3_isChild_0 2 rfl) (fun c_1 => ?_) (fun c_1 => ?_)
  · have hf := if_t hf c_1
    refine g_iconst (v := (1 : Int32)) C (ckD_get k_X3_isChild_0 6 rfl) (by decide) ?_
    refine g_goto C (ckD_get k_X3_isChild_0 7 rfl) ?_
    cases hf
    exact g_zret C (ckD_get k_X3_isChild_0 9 rfl) hr rfl hRv (Nat.le_refl _) (Nat.le_refl _)
  · have hf := if_f hf c_1
    refine g_iload_n 0 C (ckD_get k_X3_isChild_0 3 rfl) rfl rfl ?_
    refine g_bipush (v := (15 : Int32)) C (ckD_get k_X3_isChild_0 4 rfl) (by decide) ?_
    refine g_icmp_ne C (ckD_get k_X3_isChild_0 5 rfl) (fun c_2 => ?_) (fun c_2 => ?_)
    · have hf := if_f hf c_2
      refine g_iconst (v := (0 : Int32)) C (ckD_get k_X3_isChild_0 8 rfl) (by decide) ?_
      cases hf
      exact g_zret C (ckD_get k_X3_isChild_0 9 rfl) hr rfl hRv (Nat.le_refl _) (Nat.le_refl _)
    · have hf := if_t hf c_2
      refine g_iconst (v := (1 : Int32)) C (ckD_get k_X3_isChild_0 6 rfl) (by decide) ?_
      refine g_goto C (ckD_get k_X3_isChild_0 7 rfl) ?_
      cases hf
      exact g_zret C (ckD_get k_X3_isChild_0 9 rfl) hr rfl hRv (Nat.le_refl _) (Nat.le_refl _)

set_option maxRecDepth 20000 in
theorem k_X9_nibble_0 : ckD cX9_nibble [(0, .lload_n 0, 1, 1, 0), (1, .iconst 4, 1, 2, 0), (2, .iload_n 2, 1, 3, 0), (3, .imul, 1, 4, 0), (4, .lshr, 1, 5, 0), (5, .ldc2_w 354, 3, 8, 0), (8, .land, 1, 9, 0), (9, .l2i, 1, 10, 0), (10, .ireturn, 1, 11, 0)] = true := by decide +kernel
def f_X9_nibble (a0 : Int64) (a1 : Int32) : Int32 := ((((a0 >>> ((((4 : Int32) * a1)).toInt64 &&& 63)) &&& (15 : Int64))).toInt32)
set_option maxRecDepth 100000 in
set_option maxHeartbeats 4000000 in
theorem t_X9_nibble {E : Ev} {l : Launch} (htr : l.stackTraces = false) (a0 : Int64) (a1 : Int32) (M : Mm) (r : Int32) (hf : f_X9_nibble a0 a1 = r) : CM E l 0 0 0 yX9_nibble cX9_nibble 3 (some .int) [.long a0, .int a1] M (some (.int r)) M := by
  refine CM.of htr (by decide +kernel) (Nat.le_of_ble_eq_true rfl) ?_
  intro K hE hL hl hR0 C hr hRv
  subst hE
  subst hl
  have C : Cx K cX9_nibble RX9 0 := C
  have hB : (0 : Nat) ≤ K.1.R.cells ∧ 0 ≤ K.1.R.slots := ⟨Nat.zero_le _, Nat.zero_le _⟩
  show G K (0, 0) 0 [(0, .long a0), (2, .int a1)] [] M
  unfold f_X9_nibble at hf
  refine g_lload_n 0 C (ckD_get k_X9_nibble_0 0 rfl) rfl rfl ?_
  refine g_iconst (v := (4 : Int32)) C (ckD_get k_X9_nibble_0 1 rfl) (by decide) ?_
  refine g_iload_n 1 C (ckD_get k_X9_nibble_0 2 rfl) rfl rfl ?_
  refine g_imul C (ckD_get k_X9_nibble_0 3 rfl) ?_
  refine g_lshr C (ckD_get k_X9_nibble_0 4 rfl) ?_
  refine g_ldc2 C (ckD_get k_X9_nibble_0 5 rfl) q487 ?_
  refine g_land C (ckD_get k_X9_nibble_0 6 rfl) ?_
  refine g_l2i C (ckD_get k_X9_nibble_0 7 rfl) ?_
  cases hf
  exact g_iret C (ckD_get k_X9_nibble_0 8 rfl) hr hRv (Nat.le_refl _) (Nat.le_refl _)

set_option maxRecDepth 20000 in
theorem k_X3_metFrom_0 : ckD cX3_metFrom [(0, .iconst 1, 1, 1, 0), (1, .iload_n 0, 1, 2, 0), (2, .ishl, 1, 3, 0), (3, .istore 6, 2, 5, 0), (5, .iconst 1, 1, 6, 0), (6, .istore 7, 2, 8, 0), (8, .iload 7, 2, 10, 0), (10, .iload 5, 2, 12, 0), (12, .if_icmp .ge 69, 3, 15, 81), (15, .iconst 0, 1, 16, 0), (16, .istore 8, 2, 18, 0), (18, .iload 8, 2, 20, 0), (20, .iload 5, 2, 22, 0), (22, .if_icmp .ge 42, 3, 25, 64), (25, .iload 6, 2, 27, 0), (27, .iload 8, 2, 29, 0), (29, .invokestatic 36, 3, 32, 0), (32, .iconst 1, 1, 33, 0), (33, .if_icmp .ne 25, 3, 36, 58), (36, .iload 6, 2, 38, 0), (38, .iconst 1, 1, 39, 0), (39, .lload_n 1, 1, 40, 0), (40, .iload 8, 2, 42, 0), (42, .invokestatic 24, 3, 45, 0), (45, .ishl, 1, 46, 0), (46, .iconst 1, 1, 47, 0), (47, .lload_n 3, 1, 48, 0), (48, .iload 8, 2, 50, 0), (50, .invokestatic 24, 3, 53, 0), (53, .ishl, 1, 54, 0), (54, .ior, 1, 55, 0), (55, .ior, 1, 56, 0), (56, .istore 6, 2, 58, 0), (58, .iinc 8 1, 3, 61, 0), (61, .goto (-43), 3, 64, 18), (64, .iload 6, 2, 66, 0), (66, .iconst 1, 1, 67, 0), (67, .iload 5, 2, 69, 0), (69, .ishl, 1, 70, 0), (70, .iconst 1, 1, 71, 0)] = true := by decide +kernel
set_option maxRecDepth 20000 in
theorem k_X3_metFrom_1 : ckD cX3_metFrom [(71, .isub, 1, 72, 0), (72, .iand, 1, 73, 0), (73, .istore 6, 2, 75, 0), (75, .iinc 7 1, 3, 78, 0), (78, .goto (-70), 3, 81, 8), (81, .iload 6, 2, 83, 0), (83, .ireturn, 1, 84, 0)] = true := by decide +kernel
def f_X3_metFrom_A8 (x6_4 : Int32) : Option Int32 := some x6_4
def f_X3_metFrom_A18 (a3 : Int32) (x7_3 : Int32) (x6_8 : Int32) : Option ((Int32 × Int32) ⊕ Int32) := lt1 (x6_8 &&& (((1 : Int32) <<< (a3 &&& 31)) - (1 : Int32))) fun x6_9 => lt1 (x7_3 + 1) fun x7_10 => some (.inl (x6_9, x7_10))
def f_X3_metFrom_J58 (x8_7 : Int32) (p6_12 : Int32) : Option ((Int32 × Int32) ⊕ Int32) := lt1 (x8_7 + 1) fun x8_13 => some (.inl (p6_12, x8_13))
def f_X3_metFrom_L18 (a1 : Int64) (a2 : Int64) (a3 : Int32) (x6_6 : Int32) (x8_7 : Int32) : Option ((Int32 × Int32) ⊕ Int32) := if a3 ≤ x8_7 then some (.inr x6_6) else if (f_X9_bitOf x6_6 x8_7) = (1 : Int32) then lt1 (x6_6 ||| (((1 : Int32) <<< ((f_X9_nibble a1 x8_7) &&& 31)) ||| ((1 : Int32) <<< ((f_X9_nibble a2 x8_7) &&& 31)))) fun x6_15 => f_X3_metFrom_J58 x8_7 x6_15 else f_X3_metFrom_J58 x8_7 x6_6
def f_X3_metFrom_L8 (a1 : Int64) (a2 : Int64) (a3 : Int32) (x6_2 : Int32) (x7_3 : Int32) : Option ((Int32 × Int32) ⊕ Int32) := if a3 ≤ x7_3 then some (.inr x6_2) else (loop (fun v => f_X3_metFrom_L18 a1 a2 a3 v.1 v.2) FU (x6_2, (0 : Int32))).bind fun z => f_X3_metFrom_A18 a3 x7_3 z
def f_X3_metFrom (a0 : Int32) (a1 : Int64) (a2 : Int64) (a3 : Int32) : Option Int32 := lt1 ((1 : Int32) <<< (a0 &&& 31)) fun x6_1 => (loop (fun v => f_X3_metFrom_L8 a1 a2 a3 v.1 v.2) FU (x6_1, (1 : Int32))).bind fun z => f_X3_metFrom_A8 z
set_option maxRecDepth 100000 in
set_option maxHeartbeats 4000000 in
theorem t_X3_metFrom {E : Ev} {l : Launch} (htr : l.stackTraces = false) (a0 : Int32) (a1 : Int64) (a2 : Int64) (a3 : Int32) (M : Mm) (r : Int32) (hf : f_X3_metFrom a0 a1 a2 a3 = some r) : CM E l 1 0 0 yX3_metFrom cX3_metFrom 9 (some .int) [.int a0, .long a1, .long a2, .int a3] M (some (.int r)) M := by
  refine CM.of htr (by decide +kernel) (Nat.le_of_ble_eq_true rfl) ?_
  intro K hE hL hl hR0 C hr hRv
  subst hE
  subst hl
  have C : Cx K cX3_metFrom RX3 1 := C
  have hB : (0 : Nat) ≤ K.1.R.cells ∧ 0 ≤ K.1.R.slots := ⟨Nat.zero_le _, Nat.zero_le _⟩
  have hL6 : 6 < K.2.2.1 := by rw [hL]; decide
  have hL7 : 7 < K.2.2.1 := by rw [hL]; decide
  have hL8 : 8 < K.2.2.1 := by rw [hL]; decide
  show G K (0, 0) 0 [(0, .int a0), (1, .long a1), (3, .long a2), (5, .int a3)] [] M
  unfold f_X3_metFrom at hf
  refine g_iconst (v := (1 : Int32)) C (ckD_get k_X3_metFrom_0 0 rfl) (by decide) ?_
  refine g_iload_n 0 C (ckD_get k_X3_metFrom_0 1 rfl) rfl rfl ?_
  refine g_ishl C (ckD_get k_X3_metFrom_0 2 rfl) ?_
  obtain ⟨x6_1, ex6_1, hf⟩ := lt_e hf
  refine topI ex6_1 ?_
  refine g_istore (lv' := [(6, _), (0, _), (1, _), (3, _), (5, _)]) C (ckD_get k_X3_metFrom_0 3 rfl) hL6 rfl ?_
  refine g_iconst (v := (1 : Int32)) C (ckD_get k_X3_metFrom_0 4 rfl) (by decide) ?_
  refine g_istore (lv' := [(7, _), (6, _), (0, _), (1, _), (3, _), (5, _)]) C (ckD_get k_X3_metFrom_0 5 rfl) hL7 rfl ?_
  refine G.sub [3, 4, 5, 1, 0] rfl ?_
  obtain ⟨x6_4, hx_8, hf⟩ := bd_e hf
  have hE_8 : G K (0, 0) 81 [(6, .int x6_4)] [] M := by
    have hf : f_X3_metFrom_A8 x6_4 = some r := hf
    unfold f_X3_metFrom_A8 at hf
    refine g_iload 0 C (ckD_get k_X3_metFrom_1 5 rfl) rfl ?_
    cases hf
    exact g_iret C (ckD_get k_X3_metFrom_1 6 rfl) hr hRv (Nat.le_refl _) (Nat.le_refl _)
  refine loop_e (x := x6_4) (P := fun (v : (Int32 × Int32)) => G K (0, 0) 8 [(1, .long a1), (3, .long a2), (5, .int a3), (6, .int v.1), (7, .int v.2)] [] M) ?_ FU _ hx_8
  intro v rr_8 hf hn_8 hz_8
  obtain ⟨x6_2, x7_3⟩ := v
  have hf : f_X3_metFrom_L8 a1 a2 a3 x6_2 x7_3 = some rr_8 := hf
  show G K (0, 0) 8 [(1, .long a1), (3, .long a2), (5, .int a3), (6, .int x6_2), (7, .int x7_3)] [] M
  unfold f_X3_metFrom_L8 at hf
  refine g_iload 4 C (ckD_get k_X3_metFrom_0 6 rfl) rfl ?_
  refine g_iload 2 C (ckD_get k_X3_metFrom_0 7 rfl) rfl ?_
  refine g_icmp_ge C (ckD_get k_X3_metFrom_0 8 rfl) (fun c_5 => ?_) (fun c_5 => ?_)
  · have hf := if_t hf c_5
    refine G.sub [3] rfl ?_
    cases hf
    cases hz_8 _ rfl
    exact hE_8
  · have hf := if_f hf c_5
    refine g_iconst (v := (0 : Int32)) C (ckD_get k_X3_metFrom_0 9 rfl) (by decide) ?_
    refine g_istore (lv' := [(8, _), (1, _), (3, _), (5, _), (6, _), (7, _)]) C (ckD_get k_X3_metFrom_0 10 rfl) hL8 rfl ?_
    refine G.sub [1, 2, 3, 4, 5, 0] rfl ?_
    obtain ⟨x6_8, hx_18, hf⟩ := bd_e hf
    have hE_18 : G K (0, 0) 64 [(1, .long a1), (3, .long a2), (5, .int a3), (6, .int x6_8), (7, .int x7_3)] [] M := by
      have hf : f_X3_metFrom_A18 a3 x7_3 x6_8 = some rr_8 := hf
      unfold f_X3_metFrom_A18 at hf
      refine g_iload 3 C (ckD_get k_X3_metFrom_0 35 rfl) rfl ?_
      refine g_iconst (v := (1 : Int32)) C (ckD_get k_X3_metFrom_0 36 rfl) (by decide) ?_
      refine g_iload 2 C (ckD_get k_X3_metFrom_0 37 rfl) rfl ?_
      refine g_ishl C (ckD_get k_X3_metFrom_0 38 rfl) ?_
      refine g_iconst (v := (1 : Int32)) C (ckD_get k_X3_metFrom_0 39 rfl) (by decide) ?_
      refine g_isub C (ckD_get k_X3_metFrom_1 0 rfl) ?_
      refine g_iand C (ckD_get k_X3_metFrom_1 1 rfl) ?_
      obtain ⟨x6_9, ex6_9, hf⟩ := lt_e hf
      refine topI ex6_9 ?_
      refine g_istore (lv' := [(6, _), (1, _), (3, _), (5, _), (7, _)]) C (ckD_get k_X3_metFrom_1 2 rfl) hL6 rfl ?_
      obtain ⟨x7_10, ex7_10, hf⟩ := lt_e hf
      refine g_iinc (lv' := [(7, _), (6, _), (1, _), (3, _), (5, _)]) 4 C (ckD_get k_X3_metFrom_1 3 rfl) rfl ex7_10 hL7 rfl ?_
      refine g_goto C (ckD_get k_X3_metFrom_1 4 rfl) ?_
      refine G.sub [2, 3, 4, 1, 0] rfl ?_
      cases hf
      exact hn_8 _ rfl
    refine loop_e (x := x6_8) (P := fun (v : (Int32 × Int32)) => G K (0, 0) 18 [(1, .long a1), (3, .long a2), (5, .int a3), (6, .int v.1), (7, .int x7_3), (8, .int v.2)] [] M) ?_ FU _ hx_18
    intro v rr_18 hf hn_18 hz_18
    obtain ⟨x6_6, x8_7⟩ := v
    have hf : f_X3_metFrom_L18 a1 a2 a3 x6_6 x8_7 = some rr_18 := hf
    show G K (0, 0) 18 [(1, .long a1), (3, .long a2), (5, .int a3), (6, .int x6_6), (7, .int x7_3), (8, .int x8_7)] [] M
    unfold f_X3_metFrom_L18 at hf
    refine g_iload 5 C (ckD_get k_X3_metFrom_0 11 rfl) rfl ?_
    refine g_iload 2 C (ckD_get k_X3_metFrom_0 12 rfl) rfl ?_
    refine g_icmp_ge C (ckD_get k_X3_metFrom_0 13 rfl) (fun c_11 => ?_) (fun c_11 => ?_)
    · have hf := if_t hf c_11
      refine G.sub [0, 1, 2, 3, 4] rfl ?_
      cases hf
      cases hz_18 _ rfl
      exact hE_18
    · have hf := if_f hf c_11
      refine g_iload 3 C (ckD_get k_X3_metFrom_0 14 rfl) rfl ?_
      refine g_iload 5 C (ckD_get k_X3_metFrom_0 15 rfl) rfl ?_
      refine n_cN [.int x6_6, .int x8_7] [] C (ckD_get k_X3_metFrom_0 16 rfl) nk_X3_36 (t_X9_bitOf C.tr _ _ _ _ rfl) rfl rfl (Nat.le_of_ble_eq_true rfl) (by decide) hB rfl ?_
      refine g_iconst (v := (1 : Int32)) C (ckD_get k_X3_metFrom_0 17 rfl) (by decide) ?_
      have hJ_58 : ∀ (p6_12 : Int32), f_X3_metFrom_J58 x8_7 p6_12 = some rr_18 → G K (0, 0) 58 [(1, .long a1), (3, .long a2), (5, .int a3), (6, .int p6_12), (7, .int x7_3), (8, .int x8_7)] [] M := by
        intro p6_12 hf
        unfold f_X3_metFrom_J58 at hf
        obtain ⟨x8_13, ex8_13, hf⟩ := lt_e hf
        refine g_iinc (lv' := [(8, _), (1, _), (3, _), (5, _), (6, _), (7, _)]) 5 C (ckD_get k_X3_metFrom_0 33 rfl) rfl ex8_13 hL8 rfl ?_
        refine g_goto C (ckD_get k_X3_metFrom_0 34 rfl) ?_
        refine G.sub [1, 2, 3, 4, 5, 0] rfl ?_
        cases hf
        exact hn_18 _ rfl
      refine g_icmp_ne C (ckD_get k_X3_metFrom_0 18 rfl) (fun c_14 => ?_) (fun c_14 => ?_)
      · have hf := if_f hf c_14
        exact hJ_58 _ hf
      · have hf := if_t hf c_14
        refine g_iload 3 C (ckD_get k_X3_metFrom_0 19 rfl) rfl ?_
        refine g_iconst (v := (1 : Int32)) C (ckD_get k_X3_metFrom_0 20 rfl) (by decide) ?_
        refine g_lload_n 0 C (ckD_get k_X3_metFrom_0 21 rfl) rfl rfl ?_
        refine g_iload 5 C (ckD_get k_X3_metFrom_0 22 rfl) rfl ?_
        refine n_cN [.long a1, .int x8_7] [.int (1 : Int32), .int x6_6] C (ckD_get k_X3_metFrom_0 23 rfl) nk_X3_24 (t_X9_nibble C.tr _ _ _ _ rfl) rfl rfl (Nat.le_of_ble_eq_true rfl) (by decide) hB rfl ?_
        refine g_ishl C (ckD_get k_X3_metFrom_0 24 rfl) ?_
        refine g_iconst (v := (1 : Int32)) C (ckD_get k_X3_metFrom_0 25 rfl) (by decide) ?_
        refine g_lload_n 1 C (ckD_get k_X3_metFrom_0 26 rfl) rfl rfl ?_
        refine g_iload 5 C (ckD_get k_X3_metFrom_0 27 rfl) rfl ?_
        refine n_cN [.long a2, .int x8_7] [.int (1 : Int32), .int ((1 : Int32) <<< ((f_X9_nibble a1 x8_7) &&& 31)), .int x6_6] C (ckD_get k_X3_metFrom_0 28 rfl) nk_X3_24 (t_X9_nibble C.tr _ _ _ _ rfl) rfl rfl (Nat.le_of_ble_eq_true rfl) (by decide) hB rfl ?_
        refine g_ishl C (ckD_get k_X3_metFrom_0 29 rfl) ?_
        refine g_ior C (ckD_get k_X3_metFrom_0 30 rfl) ?_
        refine g_ior C (ckD_get k_X3_metFrom_0 31 rfl) ?_
        obtain ⟨x6_15, ex6_15, hf⟩ := lt_e hf
        refine topI ex6_15 ?_
        refine g_istore (lv' := [(6, _), (1, _), (3, _), (5, _), (7, _), (8, _)]) C (ckD_get k_X3_metFrom_0 32 rfl) hL6 rfl ?_
        refine G.sub [1, 2, 3, 0, 4, 5] rfl ?_
        exact hJ_58 _ hf

set_option maxRecDepth 20000 in
theorem k_X3_isTree_0 : ckD cX3_isTree [(0, .iload_n 0, 1, 1, 0), (1, .ifCond .lt 9, 3, 4, 10), (4, .iload_n 0, 1, 5, 0), (5, .iload 5, 2, 7, 0), (7, .if_icmp .lt 5, 3, 10, 12), (10, .iconst 0, 1, 11, 0), (11, .ireturn, 1, 12, 0), (12, .iconst 0, 1, 13, 0), (13, .istore 6, 2, 15, 0), (15, .iconst 0, 1, 16, 0), (16, .istore 7, 2, 18, 0), (18, .iload 7, 2, 20, 0), (20, .iload 5, 2, 22, 0), (22, .if_icmp .ge 77, 3, 25, 99), (25, .lload_n 1, 1, 26, 0), (26, .iload 7, 2, 28, 0), (28, .invokestatic 24, 3, 31, 0), (31, .istore 8, 2, 33, 0), (33, .lload_n 3, 1, 34, 0), (34, .iload 7, 2, 36, 0), (36, .invokestatic 24, 3, 39, 0), (39, .istore 9, 2, 41, 0), (41, .iload 8, 2, 43, 0), (43, .iload 5, 2, 45, 0), (45, .invokestatic 28, 3, 48, 0), (48, .ifCond .eq 13, 3, 51, 61), (51, .iload 9, 2, 53, 0), (53, .iload 5, 2, 55, 0), (55, .invokestatic 28, 3, 58, 0), (58, .ifCond .ne 5, 3, 61, 63), (61, .iconst 0, 1, 62, 0), (62, .ireturn, 1, 63, 0), (63, .iload 6, 2, 65, 0), (65, .iload 8, 2, 67, 0), (67, .bipush 15, 2, 69, 0), (69, .if_icmp .ne 7, 3, 72, 76), (72, .iconst 0, 1, 73, 0), (73, .goto 4, 3, 76, 77), (76, .iconst 1, 1, 77, 0), (77, .iload 9, 2, 79, 0)] = true := by decide +kernel
set_option maxRecDepth 20000 in
theorem k_X3_isTree_1 : ckD cX3_isTree [(79, .bipush 15, 2, 81, 0), (81, .if_icmp .ne 7, 3, 84, 88), (84, .iconst 0, 1, 85, 0), (85, .goto 4, 3, 88, 89), (88, .iconst 1, 1, 89, 0), (89, .iadd, 1, 90, 0), (90, .iadd, 1, 91, 0), (91, .istore 6, 2, 93, 0), (93, .iinc 7 1, 3, 96, 0), (96, .goto (-78), 3, 99, 18), (99, .iload 6, 2, 101, 0), (101, .iload 5, 2, 103, 0), (103, .iconst 1, 1, 104, 0), (104, .isub, 1, 105, 0), (105, .if_icmp .ne 24, 3, 108, 129), (108, .iload_n 0, 1, 109, 0), (109, .lload_n 1, 1, 110, 0), (110, .lload_n 3, 1, 111, 0), (111, .iload 5, 2, 113, 0), (113, .invokestatic 32, 3, 116, 0), (116, .iconst 1, 1, 117, 0), (117, .iload 5, 2, 119, 0), (119, .ishl, 1, 120, 0), (120, .iconst 1, 1, 121, 0), (121, .isub, 1, 122, 0), (122, .if_icmp .ne 7, 3, 125, 129), (125, .iconst 1, 1, 126, 0), (126, .goto 4, 3, 129, 130), (129, .iconst 0, 1, 130, 0), (130, .ireturn, 1, 131, 0)] = true := by decide +kernel
def f_X3_isTree_A18 (a0 : Int32) (a1 : Int64) (a2 : Int64) (a3 : Int32) (x6_5 : Int32) : Option Int32 := if x6_5 = (a3 - (1 : Int32)) then (f_X3_metFrom a0 a1 a2 a3).bind fun r_8 => if r_8 = (((1 : Int32) <<< (a3 &&& 31)) - (1 : Int32)) then some (1 : Int32) else some (0 : Int32) else some (0 : Int32)
def f_X3_isTree_J89 (x6_3 : Int32) (x7_4 : Int32) (s_15 : Int32) (s_16 : Int32) : Option ((Int32 × Int32) ⊕ (Int32 ⊕ Int32)) := lt1 (x6_3 + (s_15 + s_16)) fun x6_17 => lt1 (x7_4 + 1) fun x7_18 => some (.inl (x6_17, x7_18))
def f_X3_isTree_J77 (x6_3 : Int32) (x7_4 : Int32) (x9_12 : Int32) (s_15 : Int32) : Option ((Int32 × Int32) ⊕ (Int32 ⊕ Int32)) := if x9_12 = (15 : Int32) then f_X3_isTree_J89 x6_3 x7_4 s_15 (0 : Int32) else f_X3_isTree_J89 x6_3 x7_4 s_15 (1 : Int32)
def f_X3_isTree_L18 (a1 : Int64) (a2 : Int64) (a3 : Int32) (x6_3 : Int32) (x7_4 : Int32) : Option ((Int32 × Int32) ⊕ (Int32 ⊕ Int32)) := if a3 ≤ x7_4 then some (.inr (.inl x6_3)) else lt1 (f_X9_nibble a1 x7_4) fun x8_11 => lt1 (f_X9_nibble a2 x7_4) fun x9_12 => if (f_X3_isChild x8_11 a3) = 0 then some (.inr (.inr (0 : Int32))) else if (f_X3_isChild x9_12 a3) = 0 then some (.inr (.inr (0 : Int32))) else if x8_11 = (15 : Int32) then f_X3_isTree_J77 x6_3 x7_4 x9_12 (0 : Int32) else f_X3_isTree_J77 x6_3 x7_4 x9_12 (1 : Int32)
def f_X3_isTree (a0 : Int32) (a1 : Int64) (a2 : Int64) (a3 : Int32) : Option Int32 := if a0 < 0 then some (0 : Int32) else if a0 < a3 then (loop (fun v => f_X3_isTree_L18 a1 a2 a3 v.1 v.2) FU ((0 : Int32), (0 : Int32))).bind fun x => Sum.elim (fun z => f_X3_isTree_A18 a0 a1 a2 a3 z) (fun o => some o) x else some (0 : Int32)
set_option maxRecDepth 100000 in
set_option maxHeartbeats 4000000 in
theorem t_X3_isTree {E : Ev} {l : Launch} (htr : l.stackTraces = false) (a0 : Int32) (a1 : Int64) (a2 : Int64) (a3 : Int32) (M : Mm) (r : Int32) (hf : f_X3_isTree a0 a1 a2 a3 = some r) : CM E l 2 0 0 yX3_isTree cX3_isTree 10 (some .boolean) [.int a0, .long a1, .long a2, .int a3] M (some (.int r)) M := by
  refine CM.of htr (by decide +kernel) (Nat.le_of_ble_eq_true rfl) ?_
  intro K hE hL hl hR0 C hr hRv
  subst hE
  subst hl
  have C : Cx K cX3_isTree RX3 2 := C
  have hB : (0 : Nat) ≤ K.1.R.cells ∧ 0 ≤ K.1.R.slots := ⟨Nat.zero_le _, Nat.zero_le _⟩
  have hL6 : 6 < K.2.2.1 := by rw [hL]; decide
  have hL7 : 7 < K.2.2.1 := by rw [hL]; decide
  have hL8 : 8 < K.2.2.1 := by rw [hL]; decide
  have hL9 : 9 < K.2.2.1 := by rw [hL]; decide
  show G K (0, 0) 0 [(0, .int a0), (1, .long a1), (3, .long a2), (5, .int a3)] [] M
  unfold f_X3_isTree at hf
  refine g_iload_n 0 C (ckD_get k_X3_isTree_0 0 rfl) rfl rfl ?_
  refine g_if_lt C (ckD_get k_X3_isTree_0 1 rfl) (fun c_1 => ?_) (fun c_1 => ?_)
  · have hf := if_t hf c_1
    refine g_iconst (v := (0 : Int32)) C (ckD_get k_X3_isTree_0 5 rfl) (by decide) ?_
    cases hf
    exact g_zret C (ckD_get k_X3_isTree_0 6 rfl) hr rfl hRv (Nat.le_refl _) (Nat.le_refl _)
  · have hf := if_f hf c_1
    refine g_iload_n 0 C (ckD_get k_X3_isTree_0 2 rfl) rfl rfl ?_
    refine g_iload 3 C (ckD_get k_X3_isTree_0 3 rfl) rfl ?_
    refine g_icmp_lt C (ckD_get k_X3_isTree_0 4 rfl) (fun c_2 => ?_) (fun c_2 => ?_)
    · have hf := if_t hf c_2
      refine g_iconst (v := (0 : Int32)) C (ckD_get k_X3_isTree_0 7 rfl) (by decide) ?_
      refine g_istore (lv' := [(6, _), (0, _), (1, _), (3, _), (5, _)]) C (ckD_get k_X3_isTree_0 8 rfl) hL6 rfl ?_
      refine g_iconst (v := (0 : Int32)) C (ckD_get k_X3_isTree_0 9 rfl) (by decide) ?_
      refine g_istore (lv' := [(7, _), (6, _), (0, _), (1, _), (3, _), (5, _)]) C (ckD_get k_X3_isTree_0 10 rfl) hL7 rfl ?_
      refine G.sub [2, 3, 4, 5, 1, 0] rfl ?_
      obtain ⟨xx_18, hx_18, hf⟩ := bd_e hf
      have hE_18 : ∀ (x6_5 : Int32), xx_18 = .inl x6_5 → G K (0, 0) 99 [(0, .int a0), (1, .long a1), (3, .long a2), (5, .int a3), (6, .int x6_5)] [] M := by
        intro x6_5 ex
        subst ex
        have hf : f_X3_isTree_A18 a0 a1 a2 a3 x6_5 = some r := hf
        unfold f_X3_isTree_A18 at hf
        refine g_iload 4 C (ckD_get k_X3_isTree_1 10 rfl) rfl ?_
        refine g_iload 3 C (ckD_get k_X3_isTree_1 11 rfl) rfl ?_
        refine g_iconst (v := (1 : Int32)) C (ckD_get k_X3_isTree_1 12 rfl) (by decide) ?_
        refine g_isub C (ckD_get k_X3_isTree_1 13 rfl) ?_
        refine g_icmp_ne C (ckD_get k_X3_isTree_1 14 rfl) (fun c_6 => ?_) (fun c_6 => ?_)
        · have hf := if_f hf c_6
          refine g_iconst (v := (0 : Int32)) C (ckD_get k_X3_isTree_1 28 rfl) (by decide) ?_
          cases hf
          exact g_zret C (ckD_get k_X3_isTree_1 29 rfl) hr rfl hRv (Nat.le_refl _) (Nat.le_refl _)
        · have hf := if_t hf c_6
          refine g_iload_n 0 C (ckD_get k_X3_isTree_1 15 rfl) rfl rfl ?_
          refine g_lload_n 1 C (ckD_get k_X3_isTree_1 16 rfl) rfl rfl ?_
          refine g_lload_n 2 C (ckD_get k_X3_isTree_1 17 rfl) rfl rfl ?_
          refine g_iload 3 C (ckD_get k_X3_isTree_1 18 rfl) rfl ?_
          obtain ⟨r_8, hr_7, hf⟩ := bd_e hf
          refine n_cS [.int a0, .long a1, .long a2, .int a3] [] C (ckD_get k_X3_isTree_1 19 rfl) sk_X3_32 (t_X3_metFrom C.tr _ _ _ _ _ _ hr_7) rfl rfl (Nat.le_of_ble_eq_true rfl) (by decide) hB rfl ?_
          refine g_iconst (v := (1 : Int32)) C (ckD_get k_X3_isTree_1 20 rfl) (by decide) ?_
          refine g_iload 3 C (ckD_get k_X3_isTree_1 21 rfl) rfl ?_
          refine g_ishl C (ckD_get k_X3_isTree_1 22 rfl) ?_
          refine g_iconst (v := (1 : Int32)) C (ckD_get k_X3_isTree_1 23 rfl) (by decide) ?_
          refine g_isub C (ckD_get k_X3_isTree_1 24 rfl) ?_
          refine g_icmp_ne C (ckD_get k_X3_isTree_1 25 rfl) (fun c_9 => ?_) (fun c_9 => ?_)
          · have hf := if_f hf c_9
            refine g_iconst (v := (0 : Int32)) C (ckD_get k_X3_isTree_1 28 rfl) (by decide) ?_
            cases hf
            exact g_zret C (ckD_get k_X3_isTree_1 29 rfl) hr rfl hRv (Nat.le_refl _) (Nat.le_refl _)
          · have hf := if_t hf c_9
            refine g_iconst (v := (1 : Int32)) C (ckD_get k_X3_isTree_1 26 rfl) (by decide) ?_
            refine g_goto C (ckD_get k_X3_isTree_1 27 rfl) ?_
            cases hf
            exact g_zret C (ckD_get k_X3_isTree_1 29 rfl) hr rfl hRv (Nat.le_refl _) (Nat.le_refl _)
      have hO_18 : ∀ o, xx_18 = .inr o → o = r := by
        intro o eo
        subst eo
        have hf : some o = some r := hf
        cases hf
        rfl
      refine loop_e (x := xx_18) (P := fun (v : (Int32 × Int32)) => G K (0, 0) 18 [(0, .int a0), (1, .long a1), (3, .long a2), (5, .int a3), (6, .int v.1), (7, .int v.2)] [] M) ?_ FU _ hx_18
      intro v rr_18 hf hn_18 hz_18
      obtain ⟨x6_3, x7_4⟩ := v
      have hf : f_X3_isTree_L18 a1 a2 a3 x6_3 x7_4 = some rr_18 := hf
      show G K (0, 0) 18 [(0, .int a0), (1, .long a1), (3, .long a2), (5, .int a3), (6, .int x6_3), (7, .int x7_4)] [] M
      unfold f_X3_isTree_L18 at hf
      refine g_iload 5 C (ckD_get k_X3_isTree_0 11 rfl) rfl ?_
      refine g_iload 3 C (ckD_get k_X3_isTree_0 12 rfl) rfl ?_
      refine g_icmp_ge C (ckD_get k_X3_isTree_0 13 rfl) (fun c_10 => ?_) (fun c_10 => ?_)
      · have hf := if_t hf c_10
        refine G.sub [0, 1, 2, 3, 4] rfl ?_
        cases hf
        exact hE_18 _ (hz_18 _ rfl).symm
      · have hf := if_f hf c_10
        refine g_lload_n 1 C (ckD_get k_X3_isTree_0 14 rfl) rfl rfl ?_
        refine g_iload 5 C (ckD_get k_X3_isTree_0 15 rfl) rfl ?_
        refine n_cN [.long a1, .int x7_4] [] C (ckD_get k_X3_isTree_0 16 rfl) nk_X3_24 (t_X9_nibble C.tr _ _ _ _ rfl) rfl rfl (Nat.le_of_ble_eq_true rfl) (by decide) hB rfl ?_
        obtain ⟨x8_11, ex8_11, hf⟩ := lt_e hf
        refine topI ex8_11 ?_
        refine g_istore (lv' := [(8, _), (0, _), (1, _), (3, _), (5, _), (6, _), (7, _)]) C (ckD_get k_X3_isTree_0 17 rfl) hL8 rfl ?_
        refine g_lload_n 3 C (ckD_get k_X3_isTree_0 18 rfl) rfl rfl ?_
        refine g_iload 6 C (ckD_get k_X3_isTree_0 19 rfl) rfl ?_
        refine n_cN [.long a2, .int x7_4] [] C (ckD_get k_X3_isTree_0 20 rfl) nk_X3_24 (t_X9_nibble C.tr _ _ _ _ rfl) rfl rfl (Nat.le_of_ble_eq_true rfl) (by decide) hB rfl ?_
        obtain ⟨x9_12, ex9_12, hf⟩ := lt_e hf
        refine topI ex9_12 ?_
        refine g_istore (lv' := [(9, _), (8, _), (0, _), (1, _), (3, _), (5, _), (6, _), (7, _)]) C (ckD_get k_X3_isTree_0 21 rfl) hL9 rfl ?_
        refine g_iload 1 C (ckD_get k_X3_isTree_0 22 rfl) rfl ?_
        refine g_iload 5 C (ckD_get k_X3_isTree_0 23 rfl) rfl ?_
        refine n_cS [.int x8_11, .int a3] [] C (ckD_get k_X3_isTree_0 24 rfl) sk_X3_28 (t_X3_isChild C.tr _ _ _ _ rfl) rfl rfl (Nat.le_of_ble_eq_true rfl) (by decide) hB rfl ?_
        refine g_if_eq C (ckD_get k_X3_isTree_0 25 rfl) (fun c_13 => ?_) (fun c_13 => ?_)
        · have hf := if_t hf c_13
          refine g_iconst (v := (0 : Int32)) C (ckD_get k_X3_isTree_0 30 rfl) (by decide) ?_
          cases hf
          cases hO_18 _ (hz_18 _ rfl).symm
          exact g_zret C (ckD_get k_X3_isTree_0 31 rfl) hr rfl hRv (Nat.le_refl _) (Nat.le_refl _)
        · have hf := if_f hf c_13
          refine g_iload 0 C (ckD_get k_X3_isTree_0 26 rfl) rfl ?_
          refine g_iload 5 C (ckD_get k_X3_isTree_0 27 rfl) rfl ?_
          refine n_cS [.int x9_12, .int a3] [] C (ckD_get k_X3_isTree_0 28 rfl) sk_X3_28 (t_X3_isChild C.tr _ _ _ _ rfl) rfl rfl (Nat.le_of_ble_eq_true rfl) (by decide) hB rfl ?_
          refine g_if_ne C (ckD_get k_X3_isTree_0 29 rfl) (fun c_14 => ?_) (fun c_14 => ?_)
          · have hf := if_f hf c_14
            refine g_iload 6 C (ckD_get k_X3_isTree_0 32 rfl) rfl ?_
            refine g_iload 1 C (ckD_get k_X3_isTree_0 33 rfl) rfl ?_
            refine g_bipush (v := (15 : Int32)) C (ckD_get k_X3_isTree_0 34 rfl) (by decide) ?_
            have hJ_77 : ∀ (s_15 : Int32), f_X3_isTree_J77 x6_3 x7_4 x9_12 s_15 = some rr_18 → G K (0, 0) 77 [(0, .int a0), (1, .long a1), (3, .long a2), (5, .int a3), (7, .int x7_4), (9, .int x9_12)] [.int s_15, .int x6_3] M := by
              intro s_15 hf
              unfold f_X3_isTree_J77 at hf
              refine g_iload 5 C (ckD_get k_X3_isTree_0 39 rfl) rfl ?_
              refine g_bipush (v := (15 : Int32)) C (ckD_get k_X3_isTree_1 0 rfl) (by decide) ?_
              have hJ_89 : ∀ (s_16 : Int32), f_X3_isTree_J89 x6_3 x7_4 s_15 s_16 = some rr_18 → G K (0, 0) 89 [(0, .int a0), (1, .long a1), (3, .long a2), (5, .int a3), (7, .int x7_4)] [.int s_16, .int s_15, .int x6_3] M := by
                intro s_16 hf
                unfold f_X3_isTree_J89 at hf
                refine g_iadd C (ckD_get k_X3_isTree_1 5 rfl) ?_
                refine g_iadd C (ckD_get k_X3_isTree_1 6 rfl) ?_
                obtain ⟨x6_17, ex6_17, hf⟩ := lt_e hf
                refine topI ex6_17 ?_
                refine g_istore (lv' := [(6, _), (0, _), (1, _), (3, _), (5, _), (7, _)]) C (ckD_get k_X3_isTree_1 7 rfl) hL6 rfl ?_
                obtain ⟨x7_18, ex7_18, hf⟩ := lt_e hf
                refine g_iinc (lv' := [(7, _), (6, _), (0, _), (1, _), (3, _), (5, _)]) 5 C (ckD_get k_X3_isTree_1 8 rfl) rfl ex7_18 hL7 rfl ?_
                refine g_goto C (ckD_get k_X3_isTree_1 9 rfl) ?_
                refine G.sub [2, 3, 4, 5, 1, 0] rfl ?_
                cases hf
                exact hn_18 _ rfl
              refine g_icmp_ne C (ckD_get k_X3_isTree_1 1 rfl) (fun c_19 => ?_) (fun c_19 => ?_)
              · have hf := if_f hf c_19
                refine g_iconst (v := (1 : Int32)) C (ckD_get k_X3_isTree_1 4 rfl) (by decide) ?_
                refine G.sub [0, 1, 2, 3, 4] rfl ?_
                exact hJ_89 _ hf
              · have hf := if_t hf c_19
                refine g_iconst (v := (0 : Int32)) C (ckD_get k_X3_isTree_1 2 rfl) (by decide) ?_
                refine g_goto C (ckD_get k_X3_isTree_1 3 rfl) ?_
                refine G.sub [0, 1, 2, 3, 4] rfl ?_
                exact hJ_89 _ hf
            refine g_icmp_ne C (ckD_get k_X3_isTree_0 35 rfl) (fun c_20 => ?_) (fun c_20 => ?_)
            · have hf := if_f hf c_20
              refine g_iconst (v := (1 : Int32)) C (ckD_get k_X3_isTree_0 38 rfl) (by decide) ?_
              refine G.sub [2, 3, 4, 5, 7, 0] rfl ?_
              exact hJ_77 _ hf
            · have hf := if_t hf c_20
              refine g_iconst (v := (0 : Int32)) C (ckD_get k_X3_isTree_0 36 rfl) (by decide) ?_
              refine g_goto C (ckD_get k_X3_isTree_0 37 rfl) ?_
              refine G.sub [2, 3, 4, 5, 7, 0] rfl ?_
              exact hJ_77 _ hf
          · have hf := if_t hf c_14
            refine g_iconst (v := (0 : Int32)) C (ckD_get k_X3_isTree_0 30 rfl) (by decide) ?_
            cases hf
            cases hO_18 _ (hz_18 _ rfl).symm
            exact g_zret C (ckD_get k_X3_isTree_0 31 rfl) hr rfl hRv (Nat.le_refl _) (Nat.le_refl _)
    · have hf := if_f hf c_2
      refine g_iconst (v := (0 : Int32)) C (ckD_get k_X3_isTree_0 5 rfl) (by decide) ?_
      cases hf
      exact g_zret C (ckD_get k_X3_isTree_0 6 rfl) hr rfl hRv (Nat.le_refl _) (Nat.le_refl _)

set_option maxRecDepth 20000 in
theorem k_X3_read_0 : ckD cX3_read [(0, .aload_n 0, 1, 1, 0), (1, .iload 6, 2, 3, 0), (3, .putfield 40, 3, 6, 0), (6, .aload_n 0, 1, 7, 0), (7, .iload_n 1, 1, 8, 0), (8, .putfield 44, 3, 11, 0), (11, .iconst 0, 1, 12, 0), (12, .istore 7, 2, 14, 0), (14, .iload 7, 2, 16, 0), (16, .aload_n 0, 1, 17, 0), (17, .getfield 40, 3, 20, 0), (20, .if_icmp .ge 36, 3, 23, 56), (23, .aload_n 0, 1, 24, 0), (24, .getfield 9, 3, 27, 0), (27, .iload 7, 2, 29, 0), (29, .lload_n 2, 1, 30, 0), (30, .iload 7, 2, 32, 0), (32, .invokestatic 24, 3, 35, 0), (35, .iastore, 1, 36, 0), (36, .aload_n 0, 1, 37, 0), (37, .getfield 15, 3, 40, 0), (40, .iload 7, 2, 42, 0), (42, .lload 4, 2, 44, 0), (44, .iload 7, 2, 46, 0), (46, .invokestatic 24, 3, 49, 0), (49, .iastore, 1, 50, 0), (50, .iinc 7 1, 3, 53, 0), (53, .goto (-39), 3, 56, 14), (56, .return_, 1, 57, 0)] = true := by decide +kernel
def f_X3_read_A14 (M_5 : Mm) : Option Mm := some M_5
def f_X3_read_L14 (k0 : Nat) (a2 : Int64) (a3 : Int64) (x7_3 : Int32) (M_4 : Mm) : Option ((Int32 × Mm) ⊕ Mm) := if (M_4.1 k0 5) ≤ x7_3 then some (.inr M_4) else wrI 12 M_4 (k0 + 1) x7_3 (f_X9_nibble a2 x7_3) fun M_7 => wrI 12 M_7 (k0 + 2) x7_3 (f_X9_nibble a3 x7_3) fun M_9 => lt1 (x7_3 + 1) fun x7_11 => some (.inl (x7_11, M_9))
def f_X3_read (k0 : Nat) (a1 : Int32) (a2 : Int64) (a3 : Int64) (a4 : Int32) (M : Mm) : Option Mm := lt1 (wi M k0 5 a4) fun M_1 => lt1 (wi M_1 k0 4 a1) fun M_2 => (loop (fun v => f_X3_read_L14 k0 a2 a3 v.1 v.2) FU ((0 : Int32), M_2)).bind fun z => f_X3_read_A14 z
set_option maxRecDepth 100000 in
set_option maxHeartbeats 4000000 in
theorem t_X3_read {E : Ev} {l : Launch} (htr : l.stackTraces = false) (k0 : Nat) (hk0 : isKi k0) (a1 : Int32) (a2 : Int64) (a3 : Int64) (a4 : Int32) (M : Mm) (r : Mm) (hf : f_X3_read k0 a1 a2 a3 a4 M = some r) : CM E l 1 0 0 yX3_read cX3_read 8 none [.ref (E.1 + k0), .int a1, .long a2, .long a3, .int a4] M none r := by
  refine CM.of htr (by decide +kernel) (Nat.le_of_ble_eq_true rfl) ?_
  intro K hE hL hl hR0 C hr hRv
  subst hE
  subst hl
  have C : Cx K cX3_read RX3 1 := C
  have hB : (0 : Nat) ≤ K.1.R.cells ∧ 0 ≤ K.1.R.slots := ⟨Nat.zero_le _, Nat.zero_le _⟩
  have hL7 : 7 < K.2.2.1 := by rw [hL]; decide
  show G K (0, 0) 0 [(0, .ref (K.2.1.1 + k0)), (1, .int a1), (2, .long a2), (4, .long a3), (6, .int a4)] [] M
  unfold f_X3_read at hf
  refine g_aload_n 0 C (ckD_get k_X3_read_0 0 rfl) rfl rfl ?_
  refine g_iload 4 C (ckD_get k_X3_read_0 1 rfl) rfl ?_
  obtain ⟨M_1, eM_1, hf⟩ := lt_e hf
  refine g_putI C (ckD_get k_X3_read_0 2 rfl) fk_X3_40 (T_Ki hk0) rfl ?_
  refine memI eM_1 ?_
  refine g_aload_n 0 C (ckD_get k_X3_read_0 3 rfl) rfl rfl ?_
  refine g_iload_n 1 C (ckD_get k_X3_read_0 4 rfl) rfl rfl ?_
  obtain ⟨M_2, eM_2, hf⟩ := lt_e hf
  refine g_putI C (ckD_get k_X3_read_0 5 rfl) fk_X3_44 (T_Ki hk0) rfl ?_
  refine memI eM_2 ?_
  refine g_iconst (v := (0 : Int32)) C (ckD_get k_X3_read_0 6 rfl) (by decide) ?_
  refine g_istore (lv' := [(7, _), (0, _), (1, _), (2, _), (4, _), (6, _)]) C (ckD_get k_X3_read_0 7 rfl) hL7 rfl ?_
  refine G.sub [1, 3, 4, 0] rfl ?_
  obtain ⟨M_5, hx_14, hf⟩ := bd_e hf
  have hE_14 : G K (0, 0) 56 [] [] M_5 := by
    have hf : f_X3_read_A14 M_5 = some r := hf
    unfold f_X3_read_A14 at hf
    cases hf
    exact g_vret C (ckD_get k_X3_read_0 28 rfl) hr hRv (Nat.le_refl _) (Nat.le_refl _)
  refine loop_e (x := M_5) (P := fun (v : (Int32 × Mm)) => G K (0, 0) 14 [(0, .ref (K.2.1.1 + k0)), (2, .long a2), (4, .long a3), (7, .int v.1)] [] v.2) ?_ FU _ hx_14
  intro v rr_14 hf hn_14 hz_14
  obtain ⟨x7_3, M_4⟩ := v
  have hf : f_X3_read_L14 k0 a2 a3 x7_3 M_4 = some rr_14 := hf
  show G K (0, 0) 14 [(0, .ref (K.2.1.1 + k0)), (2, .long a2), (4, .long a3), (7, .int x7_3)] [] M_4
  unfold f_X3_read_L14 at hf
  refine g_iload 3 C (ckD_get k_X3_read_0 8 rfl) rfl ?_
  refine g_aload_n 0 C (ckD_get k_X3_read_0 9 rfl) rfl rfl ?_
  refine g_getI C (ckD_get k_X3_read_0 10 rfl) fk_X3_40 (T_Ki hk0) rfl ?_
  refine g_icmp_ge C (ckD_get k_X3_read_0 11 rfl) (fun c_6 => ?_) (fun c_6 => ?_)
  · have hf := if_t hf c_6
    refine G.sub [] rfl ?_
    cases hf
    cases hz_14 _ rfl
    exact hE_14
  · have hf := if_f hf c_6
    refine g_aload_n 0 C (ckD_get k_X3_read_0 12 rfl) rfl rfl ?_
    refine g_getR C (ckD_get k_X3_read_0 13 rfl) fk_X3_9 (T_Ki hk0) rfl ?_
    refine g_iload 3 C (ckD_get k_X3_read_0 14 rfl) rfl ?_
    refine g_lload_n 1 C (ckD_get k_X3_read_0 15 rfl) rfl rfl ?_
    refine g_iload 3 C (ckD_get k_X3_read_0 16 rfl) rfl ?_
    refine n_cN [.long a2, .int x7_3] [.int x7_3, .ref (K.2.1.1 + (k0 + 1))] C (ckD_get k_X3_read_0 17 rfl) nk_X3_24 (t_X9_nibble C.tr _ _ _ _ rfl) rfl rfl (Nat.le_of_ble_eq_true rfl) (by decide) hB rfl ?_
    obtain ⟨M_7, hi_8, eM_7, hf⟩ := wrI_e hf
    refine n_iast C (ckD_get k_X3_read_0 18 rfl) (T_Ki1 hk0) hi_8 eM_7 ?_
    refine g_aload_n 0 C (ckD_get k_X3_read_0 19 rfl) rfl rfl ?_
    refine g_getR C (ckD_get k_X3_read_0 20 rfl) fk_X3_15 (T_Ki hk0) rfl ?_
    refine g_iload 3 C (ckD_get k_X3_read_0 21 rfl) rfl ?_
    refine g_lload 2 C (ckD_get k_X3_read_0 22 rfl) rfl ?_
    refine g_iload 3 C (ckD_get k_X3_read_0 23 rfl) rfl ?_
    refine n_cN [.long a3, .int x7_3] [.int x7_3, .ref (K.2.1.1 + (k0 + 2))] C (ckD_get k_X3_read_0 24 rfl) nk_X3_24 (t_X9_nibble C.tr _ _ _ _ rfl) rfl rfl (Nat.le_of_ble_eq_true rfl) (by decide) hB rfl ?_
    obtain ⟨M_9, hi_10, eM_9, hf⟩ := wrI_e hf
    refine n_iast C (ckD_get k_X3_read_0 25 rfl) (T_Ki2 hk0) hi_10 eM_9 ?_
    obtain ⟨x7_11, ex7_11, hf⟩ := lt_e hf
    refine g_iinc (lv' := [(7, _), (0, _), (2, _), (4, _)]) 3 C (ckD_get k_X3_read_0 26 rfl) rfl ex7_11 hL7 rfl ?_
    refine g_goto C (ckD_get k_X3_read_0 27 rfl) ?_
    refine G.sub [1, 2, 3, 0] rfl ?_
    cases hf
    exact hn_14 _ rfl

set_option maxRecDepth 20000 in
theorem k_X3_attach_0 : ckD cX3_attach [(0, .iload_n 1, 1, 1, 0), (1, .iconst 1, 1, 2, 0), (2, .ishr, 1, 3, 0), (3, .istore_n 3, 1, 4, 0), (4, .iload_n 1, 1, 5, 0), (5, .iconst 1, 1, 6, 0), (6, .iand, 1, 7, 0), (7, .ifCond .ne 13, 3, 10, 20), (10, .aload_n 0, 1, 11, 0), (11, .getfield 9, 3, 14, 0), (14, .iload_n 3, 1, 15, 0), (15, .iload_n 2, 1, 16, 0), (16, .iastore, 1, 17, 0), (17, .goto 10, 3, 20, 27), (20, .aload_n 0, 1, 21, 0), (21, .getfield 15, 3, 24, 0), (24, .iload_n 3, 1, 25, 0), (25, .iload_n 2, 1, 26, 0), (26, .iastore, 1, 27, 0), (27, .return_, 1, 28, 0)] = true := by decide +kernel
def f_X3_attach (k0 : Nat) (a1 : Int32) (a2 : Int32) (M : Mm) : Option Mm := lt1 (a1 >>> ((1 : Int32) &&& 31)) fun x3_1 => if (a1 &&& (1 : Int32)) = 0 then wrI 12 M (k0 + 1) x3_1 a2 fun M_5 => some M_5 else wrI 12 M (k0 + 2) x3_1 a2 fun M_3 => some M_3
set_option maxRecDepth 100000 in
set_option maxHeartbeats 4000000 in
theorem t_X3_attach {E : Ev} {l : Launch} (htr : l.stackTraces = false) (k0 : Nat) (hk0 : isKi k0) (a1 : Int32) (a2 : Int32) (M : Mm) (r : Mm) (hf : f_X3_attach k0 a1 a2 M = some r) : CM E l 0 0 0 yX3_attach cX3_attach 4 none [.ref (E.1 + k0), .int a1, .int a2] M none r := by
  refine CM.of htr (by decide +kernel) (Nat.le_of_ble_eq_true rfl) ?_
  intro K hE hL hl hR0 C hr hRv
  subst hE
  subst hl
  have C : Cx K cX3_attach RX3 0 := C
  have hB : (0 : Nat) ≤ K.1.R.cells ∧ 0 ≤ K.1.R.slots := ⟨Nat.zero_le _, Nat.zero_le _⟩
  have hL3 : 3 < K.2.2.1 := by rw [hL]; decide
  show G K (0, 0) 0 [(0, .ref (K.2.1.1 + k0)), (1, .int a1), (2, .int a2)] [] M
  unfold f_X3_attach at hf
  refine g_iload_n 1 C (ckD_get k_X3_attach_0 0 rfl) rfl rfl ?_
  refine g_iconst (v := (1 : Int32)) C (ckD_get k_X3_attach_0 1 rfl) (by decide) ?_
  refine g_ishr C (ckD_get k_X3_attach_0 2 rfl) ?_
  obtain ⟨x3_1, ex3_1, hf⟩ := lt_e hf
  refine topI ex3_1 ?_
  refine g_istore_n (lv' := [(3, _), (0, _), (1, _), (2, _)]) C (ckD_get k_X3_attach_0 3 rfl) rfl hL3 rfl ?_
  refine g_iload_n 2 C (ckD_get k_X3_attach_0 4 rfl) rfl rfl ?_
  refine g_iconst (v := (1 : Int32)) C (ckD_get k_X3_attach_0 5 rfl) (by decide) ?_
  refine g_iand C (ckD_get k_X3_attach_0 6 rfl) ?_
  refine g_if_ne C (ckD_get k_X3_attach_0 7 rfl) (fun c_2 => ?_) (fun c_2 => ?_)
  · have hf := if_f hf c_2
    refine g_aload_n 1 C (ckD_get k_X3_attach_0 14 rfl) rfl rfl ?_
    refine g_getR C (ckD_get k_X3_attach_0 15 rfl) fk_X3_15 (T_Ki hk0) rfl ?_
    refine g_iload_n 0 C (ckD_get k_X3_attach_0 16 rfl) rfl rfl ?_
    refine g_iload_n 3 C (ckD_get k_X3_attach_0 17 rfl) rfl rfl ?_
    obtain ⟨M_3, hi_4, eM_3, hf⟩ := wrI_e hf
    refine n_iast C (ckD_get k_X3_attach_0 18 rfl) (T_Ki2 hk0) hi_4 eM_3 ?_
    cases hf
    exact g_vret C (ckD_get k_X3_attach_0 19 rfl) hr hRv (Nat.le_refl _) (Nat.le_refl _)
  · have hf := if_t hf c_2
    refine g_aload_n 1 C (ckD_get k_X3_attach_0 8 rfl) rfl rfl ?_
    refine g_getR C (ckD_get k_X3_attach_0 9 rfl) fk_X3_9 (T_Ki hk0) rfl ?_
    refine g_iload_n 0 C (ckD_get k_X3_attach_0 10 rfl) rfl rfl ?_
    refine g_iload_n 3 C (ckD_get k_X3_attach_0 11 rfl) rfl rfl ?_
    obtain ⟨M_5, hi_6, eM_5, hf⟩ := wrI_e hf
    refine n_iast C (ckD_get k_X3_attach_0 12 rfl) (T_Ki1 hk0) hi_6 eM_5 ?_
    refine g_goto C (ckD_get k_X3_attach_0 13 rfl) ?_
    cases hf
    exact g_vret C (ckD_get k_X3_attach_0 19 rfl) hr hRv (Nat.le_refl _) (Nat.le_refl _)

set_option maxRecDepth 20000 in
theorem k_X3_grow_0 : ckD cX3_grow [(0, .aload_n 0, 1, 1, 0), (1, .iload_n 2, 1, 2, 0), (2, .putfield 40, 3, 5, 0), (5, .aload_n 0, 1, 6, 0), (6, .aload_n 1, 1, 7, 0), (7, .iconst 0, 1, 8, 0), (8, .iaload, 1, 9, 0), (9, .putfield 44, 3, 12, 0), (12, .iconst 0, 1, 13, 0), (13, .istore 4, 2, 15, 0), (15, .iconst 0, 1, 16, 0), (16, .istore 5, 2, 18, 0), (18, .iload 5, 2, 20, 0), (20, .aload_n 0, 1, 21, 0), (21, .getfield 40, 3, 24, 0), (24, .if_icmp .ge 130, 3, 27, 154), (27, .aload_n 1, 1, 28, 0), (28, .iload 5, 2, 30, 0), (30, .iaload, 1, 31, 0), (31, .istore 6, 2, 33, 0), (33, .aload_n 0, 1, 34, 0), (34, .getfield 9, 3, 37, 0), (37, .iload 6, 2, 39, 0), (39, .bipush 15, 2, 41, 0), (41, .iastore, 1, 42, 0), (42, .aload_n 0, 1, 43, 0), (43, .getfield 15, 3, 46, 0), (46, .iload 6, 2, 48, 0), (48, .bipush 15, 2, 50, 0), (50, .iastore, 1, 51, 0), (51, .iload 5, 2, 53, 0), (53, .ifCond .le 26, 3, 56, 79), (56, .iload 4, 2, 58, 0), (58, .ifCond .ne 5, 3, 61, 63), (61, .iconst 0, 1, 62, 0), (62, .ireturn, 1, 63, 0), (63, .iinc 4 (-1), 3, 66, 0), (66, .aload_n 0, 1, 67, 0), (67, .aload_n 0, 1, 68, 0), (68, .getfield 18, 3, 71, 0)] = true := by decide +kernel
set_option maxRecDepth 20000 in
theorem k_X3_grow_1 : ckD cX3_grow [(71, .iload 4, 2, 73, 0), (73, .iaload, 1, 74, 0), (74, .iload 6, 2, 76, 0), (76, .invokevirtual 47, 3, 79, 0), (79, .iload_n 3, 1, 80, 0), (80, .iconst 2, 1, 81, 0), (81, .aload_n 0, 1, 82, 0), (82, .getfield 40, 3, 85, 0), (85, .iconst 1, 1, 86, 0), (86, .isub, 1, 87, 0), (87, .iload 5, 2, 89, 0), (89, .isub, 1, 90, 0), (90, .imul, 1, 91, 0), (91, .ishr, 1, 92, 0), (92, .iconst 3, 1, 93, 0), (93, .iand, 1, 94, 0), (94, .istore 7, 2, 96, 0), (96, .iload 7, 2, 98, 0), (98, .ifCond .eq 9, 3, 101, 107), (101, .iload 7, 2, 103, 0), (103, .iconst 2, 1, 104, 0), (104, .if_icmp .ne 19, 3, 107, 123), (107, .aload_n 0, 1, 108, 0), (108, .getfield 18, 3, 111, 0), (111, .iload 4, 2, 113, 0), (113, .iinc 4 1, 3, 116, 0), (116, .iload 6, 2, 118, 0), (118, .iconst 1, 1, 119, 0), (119, .ishl, 1, 120, 0), (120, .iconst 1, 1, 121, 0), (121, .ior, 1, 122, 0), (122, .iastore, 1, 123, 0), (123, .iload 7, 2, 125, 0), (125, .ifCond .eq 9, 3, 128, 134), (128, .iload 7, 2, 130, 0), (130, .iconst 1, 1, 131, 0), (131, .if_icmp .ne 17, 3, 134, 148), (134, .aload_n 0, 1, 135, 0), (135, .getfield 18, 3, 138, 0), (138, .iload 4, 2, 140, 0)] = true := by decide +kernel
set_option maxRecDepth 20000 in
theorem k_X3_grow_2 : ckD cX3_grow [(140, .iinc 4 1, 3, 143, 0), (143, .iload 6, 2, 145, 0), (145, .iconst 1, 1, 146, 0), (146, .ishl, 1, 147, 0), (147, .iastore, 1, 148, 0), (148, .iinc 5 1, 3, 151, 0), (151, .goto (-133), 3, 154, 18), (154, .iload 4, 2, 156, 0), (156, .ifCond .ne 7, 3, 159, 163), (159, .iconst 1, 1, 160, 0), (160, .goto 4, 3, 163, 164), (163, .iconst 0, 1, 164, 0), (164, .ireturn, 1, 165, 0)] = true := by decide +kernel
def f_X3_grow_A18 (x4_8 : Int32) (M_9 : Mm) : Option (Int32 × Mm) := if x4_8 = 0 then some ((1 : Int32), M_9) else some ((0 : Int32), M_9)
def f_X3_grow_J148 (x5_6 : Int32) (p4_23 : Int32) (M_24 : Mm) : Option ((Int32 × Int32 × Mm) ⊕ ((Int32 × Mm) ⊕ (Int32 × Mm))) := lt1 (x5_6 + 1) fun x5_25 => some (.inl (p4_23, x5_25, M_24))
def f_X3_grow_J134 (k0 : Nat) (x5_6 : Int32) (v_12 : Int32) (p4_21 : Int32) (M_22 : Mm) (_ : Unit) : Option ((Int32 × Int32 × Mm) ⊕ ((Int32 × Mm) ⊕ (Int32 × Mm))) := lt1 (p4_21 + 1) fun x4_26 => wrI 24 M_22 (k0 + 3) p4_21 (v_12 <<< ((1 : Int32) &&& 31)) fun M_27 => f_X3_grow_J148 x5_6 x4_26 M_27
def f_X3_grow_J123 (k0 : Nat) (x5_6 : Int32) (v_12 : Int32) (x7_20 : Int32) (p4_21 : Int32) (M_22 : Mm) : Option ((Int32 × Int32 × Mm) ⊕ ((Int32 × Mm) ⊕ (Int32 × Mm))) := if x7_20 = 0 then f_X3_grow_J134 k0 x5_6 v_12 p4_21 M_22 () else if x7_20 = (1 : Int32) then f_X3_grow_J134 k0 x5_6 v_12 p4_21 M_22 () else f_X3_grow_J148 x5_6 p4_21 M_22
def f_X3_grow_J107 (k0 : Nat) (x5_6 : Int32) (v_12 : Int32) (p4_18 : Int32) (M_19 : Mm) (x7_20 : Int32) (_ : Unit) : Option ((Int32 × Int32 × Mm) ⊕ ((Int32 × Mm) ⊕ (Int32 × Mm))) := lt1 (p4_18 + 1) fun x4_31 => wrI 24 M_19 (k0 + 3) p4_18 ((v_12 <<< ((1 : Int32) &&& 31)) ||| (1 : Int32)) fun M_32 => f_X3_grow_J123 k0 x5_6 v_12 x7_20 x4_31 M_32
def f_X3_grow_J79 (k0 : Nat) (a3 : Int32) (x5_6 : Int32) (v_12 : Int32) (p4_18 : Int32) (M_19 : Mm) : Option ((Int32 × Int32 × Mm) ⊕ ((Int32 × Mm) ⊕ (Int32 × Mm))) := lt1 ((a3 >>> (((2 : Int32) * (((M_19.1 k0 5) - (1 : Int32)) - x5_6)) &&& 31)) &&& (3 : Int32)) fun x7_20 => if x7_20 = 0 then f_X3_grow_J107 k0 x5_6 v_12 p4_18 M_19 x7_20 () else if x7_20 = (2 : Int32) then f_X3_grow_J107 k0 x5_6 v_12 p4_18 M_19 x7_20 () else f_X3_grow_J123 k0 x5_6 v_12 x7_20 p4_18 M_19
def f_X3_grow_L18 (k0 : Nat) (k1 : Nat) (a3 : Int32) (x4_5 : Int32) (x5_6 : Int32) (M_7 : Mm) : Option ((Int32 × Int32 × Mm) ⊕ ((Int32 × Mm) ⊕ (Int32 × Mm))) := if (M_7.1 k0 5) ≤ x5_6 then some (.inr (.inl (x4_5, M_7))) else rdI 12 M_7 k1 x5_6 fun v_12 => wrI 12 M_7 (k0 + 1) v_12 (15 : Int32) fun M_14 => wrI 12 M_14 (k0 + 2) v_12 (15 : Int32) fun M_16 => if x5_6 ≤ 0 then f_X3_grow_J79 k0 a3 x5_6 v_12 x4_5 M_16 else if x4_5 = 0 then some (.inr (.inr ((0 : Int32), M_16))) else lt1 (x4_5 + (-1)) fun x4_38 => rdI 24 M_16 (k0 + 3) x4_38 fun v_39 => (f_X3_attach k0 v_39 v_12 M_16).bind fun M_42 => f_X3_grow_J79 k0 a3 x5_6 v_12 x4_38 M_42
def f_X3_grow (k0 : Nat) (k1 : Nat) (a2 : Int32) (a3 : Int32) (M : Mm) : Option (Int32 × Mm) := lt1 (wi M k0 5 a2) fun M_1 => rdI 12 M_1 k1 (0 : Int32) fun v_2 => lt1 (wi M_1 k0 4 v_2) fun M_4 => (loop (fun v => f_X3_grow_L18 k0 k1 a3 v.1 v.2.1 v.2.2) FU ((0 : Int32), (0 : Int32), M_4)).bind fun x => Sum.elim (fun z => f_X3_grow_A18 z.1 z.2) (fun o => some o) x
set_option maxRecDepth 100000 in
set_option maxHeartbeats 4000000 in
theorem t_X3_grow {E : Ev} {l : Launch} (htr : l.stackTraces = false) (k0 : Nat) (hk0 : isKi k0) (k1 : Nat) (hk1 : LT[k1]? = some (0, 12, [])) (a2 : Int32) (a3 : Int32) (M : Mm) (r : (Int32 × Mm)) (hf : f_X3_grow k0 k1 a2 a3 M = some r) : CM E l 1 0 0 yX3_grow cX3_grow 8 (some .boolean) [.ref (E.1 + k0), .ref (E.1 + k1), .int a2, .int a3] M (some (.int r.1)) r.2 := by
  refine CM.of htr (by decide +kernel) (Nat.le_of_ble_eq_true rfl) ?_
  intro K hE hL hl hR0 C hr hRv
  subst hE
  subst hl
  have C : Cx K cX3_grow RX3 1 := C
  have hB : (0 : Nat) ≤ K.1.R.cells ∧ 0 ≤ K.1.R.slots := ⟨Nat.zero_le _, Nat.zero_le _⟩
  have hL4 : 4 < K.2.2.1 := by rw [hL]; decide
  have hL5 : 5 < K.2.2.1 := by rw [hL]; decide
  have hL6 : 6 < K.2.2.1 := by rw [hL]; decide
  have hL7 : 7 < K.2.2.1 := by rw [hL]; decide
  show G K (0, 0) 0 [(0, .ref (K.2.1.1 + k0)), (1, .ref (K.2.1.1 + k1)), (2, .int a2), (3, .int a3)] [] M
  unfold f_X3_grow at hf
  refine g_aload_n 0 C (ckD_get k_X3_grow_0 0 rfl) rfl rfl ?_
  refine g_iload_n 2 C (ckD_get k_X3_grow_0 1 rfl) rfl rfl ?_
  obtain ⟨M_1, eM_1, hf⟩ := lt_e hf
  refine g_putI C (ckD_get k_X3_grow_0 2 rfl) fk_X3_40 (T_Ki hk0) rfl ?_
  refine memI eM_1 ?_
  refine g_aload_n 0 C (ckD_get k_X3_grow_0 3 rfl) rfl rfl ?_
  refine g_aload_n 1 C (ckD_get k_X3_grow_0 4 rfl) rfl rfl ?_
  refine g_iconst (v := (0 : Int32)) C (ckD_get k_X3_grow_0 5 rfl) (by decide) ?_
  obtain ⟨v_2, hi_3, ev_2, hf⟩ := rdI_e hf
  refine n_iald C (ckD_get k_X3_grow_0 6 rfl) hk1 hi_3 ev_2 ?_
  obtain ⟨M_4, eM_4, hf⟩ := lt_e hf
  refine g_putI C (ckD_get k_X3_grow_0 7 rfl) fk_X3_44 (T_Ki hk0) rfl ?_
  refine memI eM_4 ?_
  refine g_iconst (v := (0 : Int32)) C (ckD_get k_X3_grow_0 8 rfl) (by decide) ?_
  refine g_istore (lv' := [(4, _), (0, _), (1, _), (2, _), (3, _)]) C (ckD_get k_X3_grow_0 9 rfl) hL4 rfl ?_
  refine g_iconst (v := (0 : Int32)) C (ckD_get k_X3_grow_0 10 rfl) (by decide) ?_
  refine g_istore (lv' := [(5, _), (4, _), (0, _), (1, _), (2, _), (3, _)]) C (ckD_get k_X3_grow_0 11 rfl) hL5 rfl ?_
  refine G.sub [2, 3, 5, 1, 0] rfl ?_
  obtain ⟨xx_18, hx_18, hf⟩ := bd_e hf
  have hE_18 : ∀ (x4_8 : Int32) (M_9 : Mm), xx_18 = .inl (x4_8, M_9) → G K (0, 0) 154 [(4, .int x4_8)] [] M_9 := by
    intro x4_8 M_9 ex
    subst ex
    have hf : f_X3_grow_A18 x4_8 M_9 = some r := hf
    unfold f_X3_grow_A18 at hf
    refine g_iload 0 C (ckD_get k_X3_grow_2 7 rfl) rfl ?_
    refine g_if_ne C (ckD_get k_X3_grow_2 8 rfl) (fun c_10 => ?_) (fun c_10 => ?_)
    · have hf := if_f hf c_10
      refine g_iconst (v := (0 : Int32)) C (ckD_get k_X3_grow_2 11 rfl) (by decide) ?_
      cases hf
      exact g_zret C (ckD_get k_X3_grow_2 12 rfl) hr rfl hRv (Nat.le_refl _) (Nat.le_refl _)
    · have hf := if_t hf c_10
      refine g_iconst (v := (1 : Int32)) C (ckD_get k_X3_grow_2 9 rfl) (by decide) ?_
      refine g_goto C (ckD_get k_X3_grow_2 10 rfl) ?_
      cases hf
      exact g_zret C (ckD_get k_X3_grow_2 12 rfl) hr rfl hRv (Nat.le_refl _) (Nat.le_refl _)
  have hO_18 : ∀ o, xx_18 = .inr o → o = r := by
    intro o eo
    subst eo
    have hf : some o = some r := hf
    cases hf
    rfl
  refine loop_e (x := xx_18) (P := fun (v : (Int32 × Int32 × Mm)) => G K (0, 0) 18 [(0, .ref (K.2.1.1 + k0)), (1, .ref (K.2.1.1 + k1)), (3, .int a3), (4, .int v.1), (5, .int v.2.1)] [] v.2.2) ?_ FU _ hx_18
  intro v rr_18 hf hn_18 hz_18
  obtain ⟨x4_5, x5_6, M_7⟩ := v
  have hf : f_X3_grow_L18 k0 k1 a3 x4_5 x5_6 M_7 = some rr_18 := hf
  show G K (0, 0) 18 [(0, .ref (K.2.1.1 + k0)), (1, .ref (K.2.1.1 + k1)), (3, .int a3), (4, .int x4_5), (5, .int x5_6)] [] M_7
  unfold f_X3_grow_L18 at hf
  refine g_iload 4 C (ckD_get k_X3_grow_0 12 rfl) rfl ?_
  refine g_aload_n 0 C (ckD_get k_X3_grow_0 13 rfl) rfl rfl ?_
  refine g_getI C (ckD_get k_X3_grow_0 14 rfl) fk_X3_40 (T_Ki hk0) rfl ?_
  refine g_icmp_ge C (ckD_get k_X3_grow_0 15 rfl) (fun c_11 => ?_) (fun c_11 => ?_)
  · have hf := if_t hf c_11
    refine G.sub [3] rfl ?_
    cases hf
    exact hE_18 _ _ (hz_18 _ rfl).symm
  · have hf := if_f hf c_11
    refine g_aload_n 1 C (ckD_get k_X3_grow_0 16 rfl) rfl rfl ?_
    refine g_iload 4 C (ckD_get k_X3_grow_0 17 rfl) rfl ?_
    obtain ⟨v_12, hi_13, ev_12, hf⟩ := rdI_e hf
    refine n_iald C (ckD_get k_X3_grow_0 18 rfl) hk1 hi_13 ev_12 ?_
    refine g_istore (lv' := [(6, _), (0, _), (1, _), (3, _), (4, _), (5, _)]) C (ckD_get k_X3_grow_0 19 rfl) hL6 rfl ?_
    refine g_aload_n 1 C (ckD_get k_X3_grow_0 20 rfl) rfl rfl ?_
    refine g_getR C (ckD_get k_X3_grow_0 21 rfl) fk_X3_9 (T_Ki hk0) rfl ?_
    refine g_iload 0 C (ckD_get k_X3_grow_0 22 rfl) rfl ?_
    refine g_bipush (v := (15 : Int32)) C (ckD_get k_X3_grow_0 23 rfl) (by decide) ?_
    obtain ⟨M_14, hi_15, eM_14, hf⟩ := wrI_e hf
    refine n_iast C (ckD_get k_X3_grow_0 24 rfl) (T_Ki1 hk0) hi_15 eM_14 ?_
    refine g_aload_n 1 C (ckD_get k_X3_grow_0 25 rfl) rfl rfl ?_
    refine g_getR C (ckD_get k_X3_grow_0 26 rfl) fk_X3_15 (T_Ki hk0) rfl ?_
    refine g_iload 0 C (ckD_get k_X3_grow_0 27 rfl) rfl ?_
    refine g_bipush (v := (15 : Int32)) C (ckD_get k_X3_grow_0 28 rfl) (by decide) ?_
    obtain ⟨M_16, hi_17, eM_16, hf⟩ := wrI_e hf
    refine n_iast C (ckD_get k_X3_grow_0 29 rfl) (T_Ki2 hk0) hi_17 eM_16 ?_
    refine g_iload 5 C (ckD_get k_X3_grow_0 30 rfl) rfl ?_
    have hJ_79 : ∀ (p4_18 : Int32) (M_19 : Mm), f_X3_grow_J79 k0 a3 x5_6 v_12 p4_18 M_19 = some rr_18 → G K (0, 0) 79 [(0, .ref (K.2.1.1 + k0)), (1, .ref (K.2.1.1 + k1)), (3, .int a3), (4, .int p4_18), (5, .int x5_6), (6, .int v_12)] [] M_19 := by
      intro p4_18 M_19 hf
      unfold f_X3_grow_J79 at hf
      refine g_iload_n 2 C (ckD_get k_X3_grow_1 4 rfl) rfl rfl ?_
      refine g_iconst (v := (2 : Int32)) C (ckD_get k_X3_grow_1 5 rfl) (by decide) ?_
      refine g_aload_n 0 C (ckD_get k_X3_grow_1 6 rfl) rfl rfl ?_
      refine g_getI C (ckD_get k_X3_grow_1 7 rfl) fk_X3_40 (T_Ki hk0) rfl ?_
      refine g_iconst (v := (1 : Int32)) C (ckD_get k_X3_grow_1 8 rfl) (by decide) ?_
      refine g_isub C (ckD_get k_X3_grow_1 9 rfl) ?_
      refine g_iload 4 C (ckD_get k_X3_grow_1 10 rfl) rfl ?_
      refine g_isub C (ckD_get k_X3_grow_1 11 rfl) ?_
      refine g_imul C (ckD_get k_X3_grow_1 12 rfl) ?_
      refine g_ishr C (ckD_get k_X3_grow_1 13 rfl) ?_
      refine g_iconst (v := (3 : Int32)) C (ckD_get k_X3_grow_1 14 rfl) (by decide) ?_
      refine g_iand C (ckD_get k_X3_grow_1 15 rfl) ?_
      obtain ⟨x7_20, ex7_20, hf⟩ := lt_e hf
      refine topI ex7_20 ?_
      refine g_istore (lv' := [(7, _), (0, _), (1, _), (3, _), (4, _), (5, _), (6, _)]) C (ckD_get k_X3_grow_1 16 rfl) hL7 rfl ?_
      refine g_iload 0 C (ckD_get k_X3_grow_1 17 rfl) rfl ?_
      have hJ_123 : ∀ (p4_21 : Int32) (M_22 : Mm), f_X3_grow_J123 k0 x5_6 v_12 x7_20 p4_21 M_22 = some rr_18 → G K (0, 0) 123 [(0, .ref (K.2.1.1 + k0)), (1, .ref (K.2.1.1 + k1)), (3, .int a3), (4, .int p4_21), (5, .int x5_6), (6, .int v_12), (7, .int x7_20)] [] M_22 := by
        intro p4_21 M_22 hf
        unfold f_X3_grow_J123 at hf
        refine g_iload 6 C (ckD_get k_X3_grow_1 32 rfl) rfl ?_
        have hJ_148 : ∀ (p4_23 : Int32) (M_24 : Mm), f_X3_grow_J148 x5_6 p4_23 M_24 = some rr_18 → G K (0, 0) 148 [(0, .ref (K.2.1.1 + k0)), (1, .ref (K.2.1.1 + k1)), (3, .int a3), (4, .int p4_23), (5, .int x5_6)] [] M_24 := by
          intro p4_23 M_24 hf
          unfold f_X3_grow_J148 at hf
          obtain ⟨x5_25, ex5_25, hf⟩ := lt_e hf
          refine g_iinc (lv' := [(5, _), (0, _), (1, _), (3, _), (4, _)]) 4 C (ckD_get k_X3_grow_2 5 rfl) rfl ex5_25 hL5 rfl ?_
          refine g_goto C (ckD_get k_X3_grow_2 6 rfl) ?_
          refine G.sub [1, 2, 3, 4, 0] rfl ?_
          cases hf
          exact hn_18 _ rfl
        have hJ_134 : ∀ (_ : Unit), f_X3_grow_J134 k0 x5_6 v_12 p4_21 M_22 () = some rr_18 → G K (0, 0) 134 [(0, .ref (K.2.1.1 + k0)), (1, .ref (K.2.1.1 + k1)), (3, .int a3), (4, .int p4_21), (5, .int x5_6), (6, .int v_12)] [] M_22 := by
          intro _ hf
          unfold f_X3_grow_J134 at hf
          refine g_aload_n 0 C (ckD_get k_X3_grow_1 37 rfl) rfl rfl ?_
          refine g_getR C (ckD_get k_X3_grow_1 38 rfl) fk_X3_18 (T_Ki hk0) rfl ?_
          refine g_iload 3 C (ckD_get k_X3_grow_1 39 rfl) rfl ?_
          obtain ⟨x4_26, ex4_26, hf⟩ := lt_e hf
          refine g_iinc (lv' := [(4, _), (0, _), (1, _), (3, _), (5, _), (6, _)]) 3 C (ckD_get k_X3_grow_2 0 rfl) rfl ex4_26 hL4 rfl ?_
          refine g_iload 5 C (ckD_get k_X3_grow_2 1 rfl) rfl ?_
          refine g_iconst (v := (1 : Int32)) C (ckD_get k_X3_grow_2 2 rfl) (by decide) ?_
          refine g_ishl C (ckD_get k_X3_grow_2 3 rfl) ?_
          obtain ⟨M_27, hi_28, eM_27, hf⟩ := wrI_e hf
          refine n_iast C (ckD_get k_X3_grow_2 4 rfl) (T_Ki3 hk0) hi_28 eM_27 ?_
          refine G.sub [1, 2, 3, 0, 4] rfl ?_
          exact hJ_148 _ _ hf
        refine g_if_eq C (ckD_get k_X3_grow_1 33 rfl) (fun c_29 => ?_) (fun c_29 => ?_)
        · have hf := if_t hf c_29
          refine G.sub [0, 1, 2, 3, 4, 5] rfl ?_
          exact hJ_134 () hf
        · have hf := if_f hf c_29
          refine g_iload 6 C (ckD_get k_X3_grow_1 34 rfl) rfl ?_
          refine g_iconst (v := (1 : Int32)) C (ckD_get k_X3_grow_1 35 rfl) (by decide) ?_
          refine g_icmp_ne C (ckD_get k_X3_grow_1 36 rfl) (fun c_30 => ?_) (fun c_30 => ?_)
          · have hf := if_f hf c_30
            refine G.sub [0, 1, 2, 3, 4] rfl ?_
            exact hJ_148 _ _ hf
          · have hf := if_t hf c_30
            refine G.sub [0, 1, 2, 3, 4, 5] rfl ?_
            exact hJ_134 () hf
      have hJ_107 : ∀ (_ : Unit), f_X3_grow_J107 k0 x5_6 v_12 p4_18 M_19 x7_20 () = some rr_18 → G K (0, 0) 107 [(0, .ref (K.2.1.1 + k0)), (1, .ref (K.2.1.1 + k1)), (3, .int a3), (4, .int p4_18), (5, .int x5_6), (6, .int v_12), (7, .int x7_20)] [] M_19 := by
        intro _ hf
        unfold f_X3_grow_J107 at hf
        refine g_aload_n 0 C (ckD_get k_X3_grow_1 22 rfl) rfl rfl ?_
        refine g_getR C (ckD_get k_X3_grow_1 23 rfl) fk_X3_18 (T_Ki hk0) rfl ?_
        refine g_iload 3 C (ckD_get k_X3_grow_1 24 rfl) rfl ?_
        obtain ⟨x4_31, ex4_31, hf⟩ := lt_e hf
        refine g_iinc (lv' := [(4, _), (0, _), (1, _), (3, _), (5, _), (6, _), (7, _)]) 3 C (ckD_get k_X3_grow_1 25 rfl) rfl ex4_31 hL4 rfl ?_
        refine g_iload 5 C (ckD_get k_X3_grow_1 26 rfl) rfl ?_
        refine g_iconst (v := (1 : Int32)) C (ckD_get k_X3_grow_1 27 rfl) (by decide) ?_
        refine g_ishl C (ckD_get k_X3_grow_1 28 rfl) ?_
        refine g_iconst (v := (1 : Int32)) C (ckD_get k_X3_grow_1 29 rfl) (by decide) ?_
        refine g_ior C (ckD_get k_X3_grow_1 30 rfl) ?_
        obtain ⟨M_32, hi_33, eM_32, hf⟩ := wrI_e hf
        refine n_iast C (ckD_get k_X3_grow_1 31 rfl) (T_Ki3 hk0) hi_33 eM_32 ?_
        refine G.sub [1, 2, 3, 0, 4, 5, 6] rfl ?_
        exact hJ_123 _ _ hf
      refine g_if_eq C (ckD_get k_X3_grow_1 18 rfl) (fun c_34 => ?_) (fun c_34 => ?_)
      · have hf := if_t hf c_34
        refine G.sub [1, 2, 3, 4, 5, 6, 0] rfl ?_
        exact hJ_107 () hf
      · have hf := if_f hf c_34
        refine g_iload 0 C (ckD_get k_X3_grow_1 19 rfl) rfl ?_
        refine g_iconst (v := (2 : Int32)) C (ckD_get k_X3_grow_1 20 rfl) (by decide) ?_
        refine g_icmp_ne C (ckD_get k_X3_grow_1 21 rfl) (fun c_35 => ?_) (fun c_35 => ?_)
        · have hf := if_f hf c_35
          refine G.sub [1, 2, 3, 4, 5, 6, 0] rfl ?_
          exact hJ_123 _ _ hf
        · have hf := if_t hf c_35
          refine G.sub [1, 2, 3, 4, 5, 6, 0] rfl ?_
          exact hJ_107 () hf
    refine g_if_le C (ckD_get k_X3_grow_0 31 rfl) (fun c_36 => ?_) (fun c_36 => ?_)
    · have hf := if_t hf c_36
      refine G.sub [1, 2, 3, 4, 5, 0] rfl ?_
      exact hJ_79 _ _ hf
    · have hf := if_f hf c_36
      refine g_iload 4 C (ckD_get k_X3_grow_0 32 rfl) rfl ?_
      refine g_if_ne C (ckD_get k_X3_grow_0 33 rfl) (fun c_37 => ?_) (fun c_37 => ?_)
      · have hf := if_f hf c_37
        obtain ⟨x4_38, ex4_38, hf⟩ := lt_e hf
        refine g_iinc (lv' := [(4, _), (6, _), (0, _), (1, _), (3, _), (5, _)]) 4 C (ckD_get k_X3_grow_0 36 rfl) rfl ex4_38 hL4 rfl ?_
        refine g_aload_n 2 C (ckD_get k_X3_grow_0 37 rfl) rfl rfl ?_
        refine g_aload_n 2 C (ckD_get k_X3_grow_0 38 rfl) rfl rfl ?_
        refine g_getR C (ckD_get k_X3_grow_0 39 rfl) fk_X3_18 (T_Ki hk0) rfl ?_
        refine g_iload 0 C (ckD_get k_X3_grow_1 0 rfl) rfl ?_
        obtain ⟨v_39, hi_40, ev_39, hf⟩ := rdI_e hf
        refine n_iald C (ckD_get k_X3_grow_1 1 rfl) (T_Ki3 hk0) hi_40 ev_39 ?_
        refine g_iload 1 C (ckD_get k_X3_grow_1 2 rfl) rfl ?_
        obtain ⟨M_42, hr_41, hf⟩ := bd_e hf
        refine n_cV [.int v_39, .int v_12] [] C (ckD_get k_X3_grow_1 3 rfl) vk_X3_47 (t_X3_attach C.tr _ hk0 _ _ _ _ hr_41) (T_Ki hk0) rfl rfl (Nat.le_of_ble_eq_true rfl) (by decide) hB rfl ?_
        refine G.sub [2, 3, 4, 0, 5, 1] rfl ?_
        exact hJ_79 _ _ hf
      · have hf := if_t hf c_37
        refine g_iconst (v := (0 : Int32)) C (ckD_get k_X3_grow_0 34 rfl) (by decide) ?_
        cases hf
        cases hO_18 _ (hz_18 _ rfl).symm
        exact g_zret C (ckD_get k_X3_grow_0 35 rfl) hr rfl hRv (Nat.le_refl _) (Nat.le_refl _)

set_option maxRecDepth 20000 in
theorem k_X3_topUnder_0 : ckD cX3_topUnder [(0, .iconst 0, 1, 1, 0), (1, .istore 4, 2, 3, 0), (3, .iconst 0, 1, 4, 0), (4, .istore 5, 2, 6, 0), (6, .iload 5, 2, 8, 0), (8, .iload_n 3, 1, 9, 0), (9, .if_icmp .ge 60, 3, 12, 69), (12, .aload_n 0, 1, 13, 0), (13, .getfield 21, 3, 16, 0), (16, .iload 5, 2, 18, 0), (18, .iaload, 1, 19, 0), (19, .istore 6, 2, 21, 0), (21, .aload_n 1, 1, 22, 0), (22, .iload 6, 2, 24, 0), (24, .iload_n 2, 1, 25, 0), (25, .invokevirtual 66, 3, 28, 0), (28, .ifCond .ne 35, 3, 31, 63), (31, .aload_n 1, 1, 32, 0), (32, .iload_n 2, 1, 33, 0), (33, .iload 6, 2, 35, 0), (35, .invokevirtual 66, 3, 38, 0), (38, .ifCond .ne 25, 3, 41, 63), (41, .iload 4, 2, 43, 0), (43, .aload_n 1, 1, 44, 0), (44, .getfield 56, 3, 47, 0), (47, .iload 6, 2, 49, 0), (49, .iaload, 1, 50, 0), (50, .aload_n 1, 1, 51, 0), (51, .getfield 69, 3, 54, 0), (54, .iload 6, 2, 56, 0), (56, .iaload, 1, 57, 0), (57, .iadd, 1, 58, 0), (58, .invokestatic 72, 3, 61, 0), (61, .istore 4, 2, 63, 0), (63, .iinc 5 1, 3, 66, 0), (66, .goto (-60), 3, 69, 6), (69, .iload 4, 2, 71, 0), (71, .ireturn, 1, 72, 0)] = true := by decide +kernel
def f_X3_topUnder_A6 (x4_3 : Int32) : Option Int32 := some x4_3
def f_X3_topUnder_J63 (x5_2 : Int32) (p4_9 : Int32) : Option ((Int32 × Int32) ⊕ Int32) := lt1 (x5_2 + 1) fun x5_10 => some (.inl (p4_9, x5_10))
def f_X3_topUnder_L6 (k0 : Nat) (k1 : Nat) (a2 : Int32) (a3 : Int32) (M : Mm) (x4_1 : Int32) (x5_2 : Int32) : Option ((Int32 × Int32) ⊕ Int32) := if a3 ≤ x5_2 then some (.inr x4_1) else rdI 12 M (k0 + 4) x5_2 fun v_5 => (f_X2_isLeft k1 v_5 a2 M).bind fun r_8 => if r_8 = 0 then (f_X2_isLeft k1 a2 v_5 M).bind fun r_13 => if r_13 = 0 then rdI 12 M (k1 + 2) v_5 fun v_15 => rdI 12 M (k1 + 4) v_5 fun v_17 => lt1 (jmax x4_1 (v_15 + v_17)) fun x4_19 => f_X3_topUnder_J63 x5_2 x4_19 else f_X3_topUnder_J63 x5_2 x4_1 else f_X3_topUnder_J63 x5_2 x4_1
def f_X3_topUnder (k0 : Nat) (k1 : Nat) (a2 : Int32) (a3 : Int32) (M : Mm) : Option Int32 := (loop (fun v => f_X3_topUnder_L6 k0 k1 a2 a3 M v.1 v.2) FU ((0 : Int32), (0 : Int32))).bind fun z => f_X3_topUnder_A6 z
set_option maxRecDepth 100000 in
set_option maxHeartbeats 4000000 in
theorem t_X3_topUnder {E : Ev} {l : Launch} (htr : l.stackTraces = false) (k0 : Nat) (hk0 : isKi k0) (k1 : Nat) (hk1 : isGr k1) (a2 : Int32) (a3 : Int32) (M : Mm) (r : Int32) (hf : f_X3_topUnder k0 k1 a2 a3 M = some r) : CM E l 1 0 0 yX3_topUnder cX3_topUnder 7 (some .int) [.ref (E.1 + k0), .ref (E.1 + k1), .int a2, .int a3] M (some (.int r)) M := by
  refine CM.of htr (by decide +kernel) (Nat.le_of_ble_eq_true rfl) ?_
  intro K hE hL hl hR0 C hr hRv
  subst hE
  subst hl
  have C : Cx K cX3_topUnder RX3 1 := C
  have hB : (0 : Nat) ≤ K.1.R.cells ∧ 0 ≤ K.1.R.slots := ⟨Nat.zero_le _, Nat.zero_le _⟩
  have hL4 : 4 < K.2.2.1 := by rw [hL]; decide
  have hL5 : 5 < K.2.2.1 := by rw [hL]; decide
  have hL6 : 6 < K.2.2.1 := by rw [hL]; decide
  show G K (0, 0) 0 [(0, .ref (K.2.1.1 + k0)), (1, .ref (K.2.1.1 + k1)), (2, .int a2), (3, .int a3)] [] M
  unfold f_X3_topUnder at hf
  refine g_iconst (v := (0 : Int32)) C (ckD_get k_X3_topUnder_0 0 rfl) (by decide) ?_
  refine g_istore (lv' := [(4, _), (0, _), (1, _), (2, _), (3, _)]) C (ckD_get k_X3_topUnder_0 1 rfl) hL4 rfl ?_
  refine g_iconst (v := (0 : Int32)) C (ckD_get k_X3_topUnder_0 2 rfl) (by decide) ?_
  refine g_istore (lv' := [(5, _), (4, _), (0, _), (1, _), (2, _), (3, _)]) C (ckD_get k_X3_topUnder_0 3 rfl) hL5 rfl ?_
  refine G.sub [2, 3, 4, 5, 1, 0] rfl ?_
  obtain ⟨x4_3, hx_6, hf⟩ := bd_e hf
  have hE_6 : G K (0, 0) 69 [(4, .int x4_3)] [] M := by
    have hf : f_X3_topUnder_A6 x4_3 = some r := hf
    unfold f_X3_topUnder_A6 at hf
    refine g_iload 0 C (ckD_get k_X3_topUnder_0 36 rfl) rfl ?_
    cases hf
    exact g_iret C (ckD_get k_X3_topUnder_0 37 rfl) hr hRv (Nat.le_refl _) (Nat.le_refl _)
  refine loop_e (x := x4_3) (P := fun (v : (Int32 × Int32)) => G K (0, 0) 6 [(0, .ref (K.2.1.1 + k0)), (1, .ref (K.2.1.1 + k1)), (2, .int a2), (3, .int a3), (4, .int v.1), (5, .int v.2)] [] M) ?_ FU _ hx_6
  intro v rr_6 hf hn_6 hz_6
  obtain ⟨x4_1, x5_2⟩ := v
  have hf : f_X3_topUnder_L6 k0 k1 a2 a3 M x4_1 x5_2 = some rr_6 := hf
  show G K (0, 0) 6 [(0, .ref (K.2.1.1 + k0)), (1, .ref (K.2.1.1 + k1)), (2, .int a2), (3, .int a3), (4, .int x4_1), (5, .int x5_2)] [] M
  unfold f_X3_topUnder_L6 at hf
  refine g_iload 5 C (ckD_get k_X3_topUnder_0 4 rfl) rfl ?_
  refine g_iload_n 3 C (ckD_get k_X3_topUnder_0 5 rfl) rfl rfl ?_
  refine g_icmp_ge C (ckD_get k_X3_topUnder_0 6 rfl) (fun c_4 => ?_) (fun c_4 => ?_)
  · have hf := if_t hf c_4
    refine G.sub [4] rfl ?_
    cases hf
    cases hz_6 _ rfl
    exact hE_6
  · have hf := if_f hf c_4
    refine g_aload_n 0 C (ckD_get k_X3_topUnder_0 7 rfl) rfl rfl ?_
    refine g_getR C (ckD_get k_X3_topUnder_0 8 rfl) fk_X3_21 (T_Ki hk0) rfl ?_
    refine g_iload 5 C (ckD_get k_X3_topUnder_0 9 rfl) rfl ?_
    obtain ⟨v_5, hi_6, ev_5, hf⟩ := rdI_e hf
    refine n_iald C (ckD_get k_X3_topUnder_0 10 rfl) (T_Ki4 hk0) hi_6 ev_5 ?_
    refine g_istore (lv' := [(6, _), (0, _), (1, _), (2, _), (3, _), (4, _), (5, _)]) C (ckD_get k_X3_topUnder_0 11 rfl) hL6 rfl ?_
    refine g_aload_n 2 C (ckD_get k_X3_topUnder_0 12 rfl) rfl rfl ?_
    refine g_iload 0 C (ckD_get k_X3_topUnder_0 13 rfl) rfl ?_
    refine g_iload_n 3 C (ckD_get k_X3_topUnder_0 14 rfl) rfl rfl ?_
    obtain ⟨r_8, hr_7, hf⟩ := bd_e hf
    refine n_cV [.int v_5, .int a2] [] C (ckD_get k_X3_topUnder_0 15 rfl) vk_X3_66 (t_X2_isLeft C.tr _ hk1 _ _ _ _ hr_7) (T_Gr hk1) rfl rfl (Nat.le_of_ble_eq_true rfl) (by decide) hB rfl ?_
    have hJ_63 : ∀ (p4_9 : Int32), f_X3_topUnder_J63 x5_2 p4_9 = some rr_6 → G K (0, 0) 63 [(0, .ref (K.2.1.1 + k0)), (1, .ref (K.2.1.1 + k1)), (2, .int a2), (3, .int a3), (4, .int p4_9), (5, .int x5_2)] [] M := by
      intro p4_9 hf
      unfold f_X3_topUnder_J63 at hf
      obtain ⟨x5_10, ex5_10, hf⟩ := lt_e hf
      refine g_iinc (lv' := [(5, _), (0, _), (1, _), (2, _), (3, _), (4, _)]) 5 C (ckD_get k_X3_topUnder_0 34 rfl) rfl ex5_10 hL5 rfl ?_
      refine g_goto C (ckD_get k_X3_topUnder_0 35 rfl) ?_
      refine G.sub [1, 2, 3, 4, 5, 0] rfl ?_
      cases hf
      exact hn_6 _ rfl
    refine g_if_ne C (ckD_get k_X3_topUnder_0 16 rfl) (fun c_11 => ?_) (fun c_11 => ?_)
    · have hf := if_f hf c_11
      refine G.sub [1, 2, 3, 4, 5, 6] rfl ?_
      exact hJ_63 _ hf
    · have hf := if_t hf c_11
      refine g_aload_n 2 C (ckD_get k_X3_topUnder_0 17 rfl) rfl rfl ?_
      refine g_iload_n 3 C (ckD_get k_X3_topUnder_0 18 rfl) rfl rfl ?_
      refine g_iload 0 C (ckD_get k_X3_topUnder_0 19 rfl) rfl ?_
      obtain ⟨r_13, hr_12, hf⟩ := bd_e hf
      refine n_cV [.int a2, .int v_5] [] C (ckD_get k_X3_topUnder_0 20 rfl) vk_X3_66 (t_X2_isLeft C.tr _ hk1 _ _ _ _ hr_12) (T_Gr hk1) rfl rfl (Nat.le_of_ble_eq_true rfl) (by decide) hB rfl ?_
      refine g_if_ne C (ckD_get k_X3_topUnder_0 21 rfl) (fun c_14 => ?_) (fun c_14 => ?_)
      · have hf := if_f hf c_14
        refine G.sub [1, 2, 3, 4, 5, 6] rfl ?_
        exact hJ_63 _ hf
      · have hf := if_t hf c_14
        refine g_iload 5 C (ckD_get k_X3_topUnder_0 22 rfl) rfl ?_
        refine g_aload_n 2 C (ckD_get k_X3_topUnder_0 23 rfl) rfl rfl ?_
        refine g_getR C (ckD_get k_X3_topUnder_0 24 rfl) fk_X3_56 (T_Gr hk1) rfl ?_
        refine g_iload 0 C (ckD_get k_X3_topUnder_0 25 rfl) rfl ?_
        obtain ⟨v_15, hi_16, ev_15, hf⟩ := rdI_e hf
        refine n_iald C (ckD_get k_X3_topUnder_0 26 rfl) (T_Gr2 hk1) hi_16 ev_15 ?_
        refine g_aload_n 2 C (ckD_get k_X3_topUnder_0 27 rfl) rfl rfl ?_
        refine g_getR C (ckD_get k_X3_topUnder_0 28 rfl) fk_X3_69 (T_Gr hk1) rfl ?_
        refine g_iload 0 C (ckD_get k_X3_topUnder_0 29 rfl) rfl ?_
        obtain ⟨v_17, hi_18, ev_17, hf⟩ := rdI_e hf
        refine n_iald C (ckD_get k_X3_topUnder_0 30 rfl) (T_Gr4 hk1) hi_18 ev_17 ?_
        refine g_iadd C (ckD_get k_X3_topUnder_0 31 rfl) ?_
        refine n_mmax C (ckD_get k_X3_topUnder_0 32 rfl) mk_X3_72 (by decide) (Nat.le_of_ble_eq_true rfl) hB ?_
        obtain ⟨x4_19, ex4_19, hf⟩ := lt_e hf
        refine topI ex4_19 ?_
        refine g_istore (lv' := [(4, _), (6, _), (0, _), (1, _), (2, _), (3, _), (5, _)]) C (ckD_get k_X3_topUnder_0 33 rfl) hL4 rfl ?_
        refine G.sub [2, 3, 4, 5, 0, 6] rfl ?_
        exact hJ_63 _ hf

set_option maxRecDepth 20000 in
theorem k_X3_lay_0 : ckD cX3_lay [(0, .iconst 1, 1, 1, 0), (1, .istore_n 2, 1, 2, 0), (2, .aload_n 0, 1, 3, 0), (3, .getfield 18, 3, 6, 0), (6, .iconst 0, 1, 7, 0), (7, .aload_n 0, 1, 8, 0), (8, .getfield 44, 3, 11, 0), (11, .iastore, 1, 12, 0), (12, .aload_n 1, 1, 13, 0), (13, .getfield 51, 3, 16, 0), (16, .aload_n 0, 1, 17, 0), (17, .getfield 44, 3, 20, 0), (20, .iconst 0, 1, 21, 0), (21, .iastore, 1, 22, 0), (22, .iconst 0, 1, 23, 0), (23, .istore_n 3, 1, 24, 0), (24, .iload_n 3, 1, 25, 0), (25, .aload_n 0, 1, 26, 0), (26, .getfield 40, 3, 29, 0), (29, .if_icmp .ge 149, 3, 32, 178), (32, .iload_n 2, 1, 33, 0), (33, .ifCond .le 145, 3, 36, 178), (36, .iinc 2 (-1), 3, 39, 0), (39, .aload_n 0, 1, 40, 0), (40, .getfield 18, 3, 43, 0), (43, .iload_n 2, 1, 44, 0), (44, .iaload, 1, 45, 0), (45, .istore 4, 2, 47, 0), (47, .aload_n 1, 1, 48, 0), (48, .getfield 56, 3, 51, 0), (51, .iload 4, 2, 53, 0), (53, .aload_n 0, 1, 54, 0), (54, .aload_n 1, 1, 55, 0), (55, .iload 4, 2, 57, 0), (57, .iload_n 3, 1, 58, 0), (58, .invokevirtual 59, 3, 61, 0), (61, .iastore, 1, 62, 0), (62, .aload_n 0, 1, 63, 0), (63, .getfield 21, 3, 66, 0), (66, .iload_n 3, 1, 67, 0)] = true := by decide +kernel
set_option maxRecDepth 20000 in
theorem k_X3_lay_1 : ckD cX3_lay [(67, .iload 4, 2, 69, 0), (69, .iastore, 1, 70, 0), (70, .aload_n 0, 1, 71, 0), (71, .getfield 15, 3, 74, 0), (74, .iload 4, 2, 76, 0), (76, .iaload, 1, 77, 0), (77, .bipush 15, 2, 79, 0), (79, .if_icmp .eq 38, 3, 82, 117), (82, .aload_n 1, 1, 83, 0), (83, .getfield 51, 3, 86, 0), (86, .aload_n 0, 1, 87, 0), (87, .getfield 15, 3, 90, 0), (90, .iload 4, 2, 92, 0), (92, .iaload, 1, 93, 0), (93, .aload_n 1, 1, 94, 0), (94, .getfield 51, 3, 97, 0), (97, .iload 4, 2, 99, 0), (99, .iaload, 1, 100, 0), (100, .iastore, 1, 101, 0), (101, .aload_n 0, 1, 102, 0), (102, .getfield 18, 3, 105, 0), (105, .iload_n 2, 1, 106, 0), (106, .iinc 2 1, 3, 109, 0), (109, .aload_n 0, 1, 110, 0), (110, .getfield 15, 3, 113, 0), (113, .iload 4, 2, 115, 0), (115, .iaload, 1, 116, 0), (116, .iastore, 1, 117, 0), (117, .aload_n 0, 1, 118, 0), (118, .getfield 9, 3, 121, 0), (121, .iload 4, 2, 123, 0), (123, .iaload, 1, 124, 0), (124, .bipush 15, 2, 126, 0), (126, .if_icmp .eq 46, 3, 129, 172), (129, .aload_n 1, 1, 130, 0), (130, .getfield 51, 3, 133, 0), (133, .aload_n 0, 1, 134, 0), (134, .getfield 9, 3, 137, 0), (137, .iload 4, 2, 139, 0), (139, .iaload, 1, 140, 0)] = true := by decide +kernel
set_option maxRecDepth 20000 in
theorem k_X3_lay_2 : ckD cX3_lay [(140, .aload_n 1, 1, 141, 0), (141, .getfield 51, 3, 144, 0), (144, .iload 4, 2, 146, 0), (146, .iaload, 1, 147, 0), (147, .aload_n 1, 1, 148, 0), (148, .getfield 63, 3, 151, 0), (151, .iload 4, 2, 153, 0), (153, .iaload, 1, 154, 0), (154, .iadd, 1, 155, 0), (155, .iastore, 1, 156, 0), (156, .aload_n 0, 1, 157, 0), (157, .getfield 18, 3, 160, 0), (160, .iload_n 2, 1, 161, 0), (161, .iinc 2 1, 3, 164, 0), (164, .aload_n 0, 1, 165, 0), (165, .getfield 9, 3, 168, 0), (168, .iload 4, 2, 170, 0), (170, .iaload, 1, 171, 0), (171, .iastore, 1, 172, 0), (172, .iinc 3 1, 3, 175, 0), (175, .goto (-151), 3, 178, 24), (178, .return_, 1, 179, 0)] = true := by decide +kernel
def f_X3_lay_A24 (M_8 : Mm) : Option Mm := some M_8
def f_X3_lay_J172 (x3_6 : Int32) (p2_26 : Int32) (M_27 : Mm) : Option ((Int32 × Int32 × Mm) ⊕ Mm) := lt1 (x3_6 + 1) fun x3_28 => some (.inl (p2_26, x3_28, M_27))
def f_X3_lay_J117 (k0 : Nat) (k1 : Nat) (x3_6 : Int32) (v_12 : Int32) (p2_22 : Int32) (M_23 : Mm) : Option ((Int32 × Int32 × Mm) ⊕ Mm) := rdI 12 M_23 (k0 + 1) v_12 fun v_24 => if v_24 = (15 : Int32) then f_X3_lay_J172 x3_6 p2_22 M_23 else rdI 12 M_23 (k0 + 1) v_12 fun v_30 => rdI 12 M_23 (k1 + 1) v_12 fun v_32 => rdI 12 M_23 (k1 + 3) v_12 fun v_34 => wrI 12 M_23 (k1 + 1) v_30 (v_32 + v_34) fun M_36 => lt1 (p2_22 + 1) fun x2_38 => rdI 12 M_36 (k0 + 1) v_12 fun v_39 => wrI 24 M_36 (k0 + 3) p2_22 v_39 fun M_41 => f_X3_lay_J172 x3_6 x2_38 M_41
def f_X3_lay_L24 (k0 : Nat) (k1 : Nat) (x2_5 : Int32) (x3_6 : Int32) (M_7 : Mm) : Option ((Int32 × Int32 × Mm) ⊕ Mm) := if (M_7.1 k0 5) ≤ x3_6 then some (.inr M_7) else if x2_5 ≤ 0 then some (.inr M_7) else lt1 (x2_5 + (-1)) fun x2_11 => rdI 24 M_7 (k0 + 3) x2_11 fun v_12 => (f_X3_topUnder k0 k1 v_12 x3_6 M_7).bind fun r_15 => wrI 12 M_7 (k1 + 2) v_12 r_15 fun M_16 => wrI 12 M_16 (k0 + 4) x3_6 v_12 fun M_18 => rdI 12 M_18 (k0 + 2) v_12 fun v_20 => if v_20 = (15 : Int32) then f_X3_lay_J117 k0 k1 x3_6 v_12 x2_11 M_18 else rdI 12 M_18 (k0 + 2) v_12 fun v_44 => rdI 12 M_18 (k1 + 1) v_12 fun v_46 => wrI 12 M_18 (k1 + 1) v_44 v_46 fun M_48 => lt1 (x2_11 + 1) fun x2_50 => rdI 12 M_48 (k0 + 2) v_12 fun v_51 => wrI 24 M_48 (k0 + 3) x2_11 v_51 fun M_53 => f_X3_lay_J117 k0 k1 x3_6 v_12 x2_50 M_53
def f_X3_lay (k0 : Nat) (k1 : Nat) (M : Mm) : Option Mm := wrI 24 M (k0 + 3) (0 : Int32) (M.1 k0 4) fun M_1 => wrI 12 M_1 (k1 + 1) (M_1.1 k0 4) (0 : Int32) fun M_3 => (loop (fun v => f_X3_lay_L24 k0 k1 v.1 v.2.1 v.2.2) FU ((1 : Int32), (0 : Int32), M_3)).bind fun z => f_X3_lay_A24 z
set_option maxRecDepth 100000 in
set_option maxHeartbeats 4000000 in
theorem t_X3_lay {E : Ev} {l : Launch} (htr : l.stackTraces = false) (k0 : Nat) (hk0 : isKi k0) (k1 : Nat) (hk1 : isGr k1) (M : Mm) (r : Mm) (hf : f_X3_lay k0 k1 M = some r) : CM E l 2 0 0 yX3_lay cX3_lay 5 none [.ref (E.1 + k0), .ref (E.1 + k1)] M none r := by
  refine CM.of htr (by decide +kernel) (Nat.le_of_ble_eq_true rfl) ?_
  intro K hE hL hl hR0 C hr hRv
  subst hE
  subst hl
  have C : Cx K cX3_lay RX3 2 := C
  have hB : (0 : Nat) ≤ K.1.R.cells ∧ 0 ≤ K.1.R.slots := ⟨Nat.zero_le _, Nat.zero_le _⟩
  have hL2 : 2 < K.2.2.1 := by rw [hL]; decide
  have hL3 : 3 < K.2.2.1 := by rw [hL]; decide
  have hL4 : 4 < K.2.2.1 := by rw [hL]; decide
  show G K (0, 0) 0 [(0, .ref (K.2.1.1 + k0)), (1, .ref (K.2.1.1 + k1))] [] M
  unfold f_X3_lay at hf
  refine g_iconst (v := (1 : Int32)) C (ckD_get k_X3_lay_0 0 rfl) (by decide) ?_
  refine g_istore_n (lv' := [(2, _), (0, _), (1, _)]) C (ckD_get k_X3_lay_0 1 rfl) rfl hL2 rfl ?_
  refine g_aload_n 1 C (ckD_get k_X3_lay_0 2 rfl) rfl rfl ?_
  refine g_getR C (ckD_get k_X3_lay_0 3 rfl) fk_X3_18 (T_Ki hk0) rfl ?_
  refine g_iconst (v := (0 : Int32)) C (ckD_get k_X3_lay_0 4 rfl) (by decide) ?_
  refine g_aload_n 1 C (ckD_get k_X3_lay_0 5 rfl) rfl rfl ?_
  refine g_getI C (ckD_get k_X3_lay_0 6 rfl) fk_X3_44 (T_Ki hk0) rfl ?_
  obtain ⟨M_1, hi_2, eM_1, hf⟩ := wrI_e hf
  refine n_iast C (ckD_get k_X3_lay_0 7 rfl) (T_Ki3 hk0) hi_2 eM_1 ?_
  refine g_aload_n 2 C (ckD_get k_X3_lay_0 8 rfl) rfl rfl ?_
  refine g_getR C (ckD_get k_X3_lay_0 9 rfl) fk_X3_51 (T_Gr hk1) rfl ?_
  refine g_aload_n 1 C (ckD_get k_X3_lay_0 10 rfl) rfl rfl ?_
  refine g_getI C (ckD_get k_X3_lay_0 11 rfl) fk_X3_44 (T_Ki hk0) rfl ?_
  refine g_iconst (v := (0 : Int32)) C (ckD_get k_X3_lay_0 12 rfl) (by decide) ?_
  obtain ⟨M_3, hi_4, eM_3, hf⟩ := wrI_e hf
  refine n_iast C (ckD_get k_X3_lay_0 13 rfl) (T_Gr1 hk1) hi_4 eM_3 ?_
  refine g_iconst (v := (0 : Int32)) C (ckD_get k_X3_lay_0 14 rfl) (by decide) ?_
  refine g_istore_n (lv' := [(3, _), (2, _), (0, _), (1, _)]) C (ckD_get k_X3_lay_0 15 rfl) rfl hL3 rfl ?_
  refine G.sub [2, 3, 1, 0] rfl ?_
  obtain ⟨M_8, hx_24, hf⟩ := bd_e hf
  have hE_24 : G K (0, 0) 178 [] [] M_8 := by
    have hf : f_X3_lay_A24 M_8 = some r := hf
    unfold f_X3_lay_A24 at hf
    cases hf
    exact g_vret C (ckD_get k_X3_lay_2 21 rfl) hr hRv (Nat.le_refl _) (Nat.le_refl _)
  refine loop_e (x := M_8) (P := fun (v : (Int32 × Int32 × Mm)) => G K (0, 0) 24 [(0, .ref (K.2.1.1 + k0)), (1, .ref (K.2.1.1 + k1)), (2, .int v.1), (3, .int v.2.1)] [] v.2.2) ?_ FU _ hx_24
  intro v rr_24 hf hn_24 hz_24
  obtain ⟨x2_5, x3_6, M_7⟩ := v
  have hf : f_X3_lay_L24 k0 k1 x2_5 x3_6 M_7 = some rr_24 := hf
  show G K (0, 0) 24 [(0, .ref (K.2.1.1 + k0)), (1, .ref (K.2.1.1 + k1)), (2, .int x2_5), (3, .int x3_6)] [] M_7
  unfold f_X3_lay_L24 at hf
  refine g_iload_n 3 C (ckD_get k_X3_lay_0 16 rfl) rfl rfl ?_
  refine g_aload_n 0 C (ckD_get k_X3_lay_0 17 rfl) rfl rfl ?_
  refine g_getI C (ckD_get k_X3_lay_0 18 rfl) fk_X3_40 (T_Ki hk0) rfl ?_
  refine g_icmp_ge C (ckD_get k_X3_lay_0 19 rfl) (fun c_9 => ?_) (fun c_9 => ?_)
  · have hf := if_t hf c_9
    refine G.sub [] rfl ?_
    cases hf
    cases hz_24 _ rfl
    exact hE_24
  · have hf := if_f hf c_9
    refine g_iload_n 2 C (ckD_get k_X3_lay_0 20 rfl) rfl rfl ?_
    refine g_if_le C (ckD_get k_X3_lay_0 21 rfl) (fun c_10 => ?_) (fun c_10 => ?_)
    · have hf := if_t hf c_10
      refine G.sub [] rfl ?_
      cases hf
      cases hz_24 _ rfl
      exact hE_24
    · have hf := if_f hf c_10
      obtain ⟨x2_11, ex2_11, hf⟩ := lt_e hf
      refine g_iinc (lv' := [(2, _), (0, _), (1, _), (3, _)]) 2 C (ckD_get k_X3_lay_0 22 rfl) rfl ex2_11 hL2 rfl ?_
      refine g_aload_n 1 C (ckD_get k_X3_lay_0 23 rfl) rfl rfl ?_
      refine g_getR C (ckD_get k_X3_lay_0 24 rfl) fk_X3_18 (T_Ki hk0) rfl ?_
      refine g_iload_n 0 C (ckD_get k_X3_lay_0 25 rfl) rfl rfl ?_
      obtain ⟨v_12, hi_13, ev_12, hf⟩ := rdI_e hf
      refine n_iald C (ckD_get k_X3_lay_0 26 rfl) (T_Ki3 hk0) hi_13 ev_12 ?_
      refine g_istore (lv' := [(4, _), (2, _), (0, _), (1, _), (3, _)]) C (ckD_get k_X3_lay_0 27 rfl) hL4 rfl ?_
      refine g_aload_n 3 C (ckD_get k_X3_lay_0 28 rfl) rfl rfl ?_
      refine g_getR C (ckD_get k_X3_lay_0 29 rfl) fk_X3_56 (T_Gr hk1) rfl ?_
      refine g_iload 0 C (ckD_get k_X3_lay_0 30 rfl) rfl ?_
      refine g_aload_n 2 C (ckD_get k_X3_lay_0 31 rfl) rfl rfl ?_
      refine g_aload_n 3 C (ckD_get k_X3_lay_0 32 rfl) rfl rfl ?_
      refine g_iload 0 C (ckD_get k_X3_lay_0 33 rfl) rfl ?_
      refine g_iload_n 4 C (ckD_get k_X3_lay_0 34 rfl) rfl rfl ?_
      obtain ⟨r_15, hr_14, hf⟩ := bd_e hf
      refine n_cV [.ref (K.2.1.1 + k1), .int v_12, .int x3_6] [.int v_12, .ref (K.2.1.1 + (k1 + 2))] C (ckD_get k_X3_lay_0 35 rfl) vk_X3_59 (t_X3_topUnder C.tr _ hk0 _ hk1 _ _ _ _ hr_14) (T_Ki hk0) rfl rfl (Nat.le_of_ble_eq_true rfl) (by decide) hB rfl ?_
      obtain ⟨M_16, hi_17, eM_16, hf⟩ := wrI_e hf
      refine n_iast C (ckD_get k_X3_lay_0 36 rfl) (T_Gr2 hk1) hi_17 eM_16 ?_
      refine g_aload_n 2 C (ckD_get k_X3_lay_0 37 rfl) rfl rfl ?_
      refine g_getR C (ckD_get k_X3_lay_0 38 rfl) fk_X3_21 (T_Ki hk0) rfl ?_
      refine g_iload_n 4 C (ckD_get k_X3_lay_0 39 rfl) rfl rfl ?_
      refine g_iload 0 C (ckD_get k_X3_lay_1 0 rfl) rfl ?_
      obtain ⟨M_18, hi_19, eM_18, hf⟩ := wrI_e hf
      refine n_iast C (ckD_get k_X3_lay_1 1 rfl) (T_Ki4 hk0) hi_19 eM_18 ?_
      refine g_aload_n 2 C (ckD_get k_X3_lay_1 2 rfl) rfl rfl ?_
      refine g_getR C (ckD_get k_X3_lay_1 3 rfl) fk_X3_15 (T_Ki hk0) rfl ?_
      refine g_iload 0 C (ckD_get k_X3_lay_1 4 rfl) rfl ?_
      obtain ⟨v_20, hi_21, ev_20, hf⟩ := rdI_e hf
      refine n_iald C (ckD_get k_X3_lay_1 5 rfl) (T_Ki2 hk0) hi_21 ev_20 ?_
      refine g_bipush (v := (15 : Int32)) C (ckD_get k_X3_lay_1 6 rfl) (by decide) ?_
      have hJ_117 : ∀ (p2_22 : Int32) (M_23 : Mm), f_X3_lay_J117 k0 k1 x3_6 v_12 p2_22 M_23 = some rr_24 → G K (0, 0) 117 [(0, .ref (K.2.1.1 + k0)), (1, .ref (K.2.1.1 + k1)), (2, .int p2_22), (3, .int x3_6), (4, .int v_12)] [] M_23 := by
        intro p2_22 M_23 hf
        unfold f_X3_lay_J117 at hf
        refine g_aload_n 0 C (ckD_get k_X3_lay_1 28 rfl) rfl rfl ?_
        refine g_getR C (ckD_get k_X3_lay_1 29 rfl) fk_X3_9 (T_Ki hk0) rfl ?_
        refine g_iload 4 C (ckD_get k_X3_lay_1 30 rfl) rfl ?_
        obtain ⟨v_24, hi_25, ev_24, hf⟩ := rdI_e hf
        refine n_iald C (ckD_get k_X3_lay_1 31 rfl) (T_Ki1 hk0) hi_25 ev_24 ?_
        refine g_bipush (v := (15 : Int32)) C (ckD_get k_X3_lay_1 32 rfl) (by decide) ?_
        have hJ_172 : ∀ (p2_26 : Int32) (M_27 : Mm), f_X3_lay_J172 x3_6 p2_26 M_27 = some rr_24 → G K (0, 0) 172 [(0, .ref (K.2.1.1 + k0)), (1, .ref (K.2.1.1 + k1)), (2, .int p2_26), (3, .int x3_6)] [] M_27 := by
          intro p2_26 M_27 hf
          unfold f_X3_lay_J172 at hf
          obtain ⟨x3_28, ex3_28, hf⟩ := lt_e hf
          refine g_iinc (lv' := [(3, _), (0, _), (1, _), (2, _)]) 3 C (ckD_get k_X3_lay_2 19 rfl) rfl ex3_28 hL3 rfl ?_
          refine g_goto C (ckD_get k_X3_lay_2 20 rfl) ?_
          refine G.sub [1, 2, 3, 0] rfl ?_
          cases hf
          exact hn_24 _ rfl
        refine g_icmp_eq C (ckD_get k_X3_lay_1 33 rfl) (fun c_29 => ?_) (fun c_29 => ?_)
        · have hf := if_t hf c_29
          refine G.sub [0, 1, 2, 3] rfl ?_
          exact hJ_172 _ _ hf
        · have hf := if_f hf c_29
          refine g_aload_n 1 C (ckD_get k_X3_lay_1 34 rfl) rfl rfl ?_
          refine g_getR C (ckD_get k_X3_lay_1 35 rfl) fk_X3_51 (T_Gr hk1) rfl ?_
          refine g_aload_n 0 C (ckD_get k_X3_lay_1 36 rfl) rfl rfl ?_
          refine g_getR C (ckD_get k_X3_lay_1 37 rfl) fk_X3_9 (T_Ki hk0) rfl ?_
          refine g_iload 4 C (ckD_get k_X3_lay_1 38 rfl) rfl ?_
          obtain ⟨v_30, hi_31, ev_30, hf⟩ := rdI_e hf
          refine n_iald C (ckD_get k_X3_lay_1 39 rfl) (T_Ki1 hk0) hi_31 ev_30 ?_
          refine g_aload_n 1 C (ckD_get k_X3_lay_2 0 rfl) rfl rfl ?_
          refine g_getR C (ckD_get k_X3_lay_2 1 rfl) fk_X3_51 (T_Gr hk1) rfl ?_
          refine g_iload 4 C (ckD_get k_X3_lay_2 2 rfl) rfl ?_
          obtain ⟨v_32, hi_33, ev_32, hf⟩ := rdI_e hf
          refine n_iald C (ckD_get k_X3_lay_2 3 rfl) (T_Gr1 hk1) hi_33 ev_32 ?_
          refine g_aload_n 1 C (ckD_get k_X3_lay_2 4 rfl) rfl rfl ?_
          refine g_getR C (ckD_get k_X3_lay_2 5 rfl) fk_X3_63 (T_Gr hk1) rfl ?_
          refine g_iload 4 C (ckD_get k_X3_lay_2 6 rfl) rfl ?_
          obtain ⟨v_34, hi_35, ev_34, hf⟩ := rdI_e hf
          refine n_iald C (ckD_get k_X3_lay_2 7 rfl) (T_Gr3 hk1) hi_35 ev_34 ?_
          refine g_iadd C (ckD_get k_X3_lay_2 8 rfl) ?_
          obtain ⟨M_36, hi_37, eM_36, hf⟩ := wrI_e hf
          refine n_iast C (ckD_get k_X3_lay_2 9 rfl) (T_Gr1 hk1) hi_37 eM_36 ?_
          refine g_aload_n 0 C (ckD_get k_X3_lay_2 10 rfl) rfl rfl ?_
          refine g_getR C (ckD_get k_X3_lay_2 11 rfl) fk_X3_18 (T_Ki hk0) rfl ?_
          refine g_iload_n 2 C (ckD_get k_X3_lay_2 12 rfl) rfl rfl ?_
          obtain ⟨x2_38, ex2_38, hf⟩ := lt_e hf
          refine g_iinc (lv' := [(2, _), (0, _), (1, _), (3, _), (4, _)]) 2 C (ckD_get k_X3_lay_2 13 rfl) rfl ex2_38 hL2 rfl ?_
          refine g_aload_n 1 C (ckD_get k_X3_lay_2 14 rfl) rfl rfl ?_
          refine g_getR C (ckD_get k_X3_lay_2 15 rfl) fk_X3_9 (T_Ki hk0) rfl ?_
          refine g_iload 4 C (ckD_get k_X3_lay_2 16 rfl) rfl ?_
          obtain ⟨v_39, hi_40, ev_39, hf⟩ := rdI_e hf
          refine n_iald C (ckD_get k_X3_lay_2 17 rfl) (T_Ki1 hk0) hi_40 ev_39 ?_
          obtain ⟨M_41, hi_42, eM_41, hf⟩ := wrI_e hf
          refine n_iast C (ckD_get k_X3_lay_2 18 rfl) (T_Ki3 hk0) hi_42 eM_41 ?_
          refine G.sub [1, 2, 0, 3] rfl ?_
          exact hJ_172 _ _ hf
      refine g_icmp_eq C (ckD_get k_X3_lay_1 7 rfl) (fun c_43 => ?_) (fun c_43 => ?_)
      · have hf := if_t hf c_43
        refine G.sub [2, 3, 1, 4, 0] rfl ?_
        exact hJ_117 _ _ hf
      · have hf := if_f hf c_43
        refine g_aload_n 3 C (ckD_get k_X3_lay_1 8 rfl) rfl rfl ?_
        refine g_getR C (ckD_get k_X3_lay_1 9 rfl) fk_X3_51 (T_Gr hk1) rfl ?_
        refine g_aload_n 2 C (ckD_get k_X3_lay_1 10 rfl) rfl rfl ?_
        refine g_getR C (ckD_get k_X3_lay_1 11 rfl) fk_X3_15 (T_Ki hk0) rfl ?_
        refine g_iload 0 C (ckD_get k_X3_lay_1 12 rfl) rfl ?_
        obtain ⟨v_44, hi_45, ev_44, hf⟩ := rdI_e hf
        refine n_iald C (ckD_get k_X3_lay_1 13 rfl) (T_Ki2 hk0) hi_45 ev_44 ?_
        refine g_aload_n 3 C (ckD_get k_X3_lay_1 14 rfl) rfl rfl ?_
        refine g_getR C (ckD_get k_X3_lay_1 15 rfl) fk_X3_51 (T_Gr hk1) rfl ?_
        refine g_iload 0 C (ckD_get k_X3_lay_1 16 rfl) rfl ?_
        obtain ⟨v_46, hi_47, ev_46, hf⟩ := rdI_e hf
        refine n_iald C (ckD_get k_X3_lay_1 17 rfl) (T_Gr1 hk1) hi_47 ev_46 ?_
        obtain ⟨M_48, hi_49, eM_48, hf⟩ := wrI_e hf
        refine n_iast C (ckD_get k_X3_lay_1 18 rfl) (T_Gr1 hk1) hi_49 eM_48 ?_
        refine g_aload_n 2 C (ckD_get k_X3_lay_1 19 rfl) rfl rfl ?_
        refine g_getR C (ckD_get k_X3_lay_1 20 rfl) fk_X3_18 (T_Ki hk0) rfl ?_
        refine g_iload_n 1 C (ckD_get k_X3_lay_1 21 rfl) rfl rfl ?_
        obtain ⟨x2_50, ex2_50, hf⟩ := lt_e hf
        refine g_iinc (lv' := [(2, _), (4, _), (0, _), (1, _), (3, _)]) 1 C (ckD_get k_X3_lay_1 22 rfl) rfl ex2_50 hL2 rfl ?_
        refine g_aload_n 2 C (ckD_get k_X3_lay_1 23 rfl) rfl rfl ?_
        refine g_getR C (ckD_get k_X3_lay_1 24 rfl) fk_X3_15 (T_Ki hk0) rfl ?_
        refine g_iload 1 C (ckD_get k_X3_lay_1 25 rfl) rfl ?_
        obtain ⟨v_51, hi_52, ev_51, hf⟩ := rdI_e hf
        refine n_iald C (ckD_get k_X3_lay_1 26 rfl) (T_Ki2 hk0) hi_52 ev_51 ?_
        obtain ⟨M_53, hi_54, eM_53, hf⟩ := wrI_e hf
        refine n_iast C (ckD_get k_X3_lay_1 27 rfl) (T_Ki3 hk0) hi_54 eM_53 ?_
        refine G.sub [2, 3, 0, 4, 1] rfl ?_
        exact hJ_117 _ _ hf

set_option maxRecDepth 20000 in
theorem k_X4_isOrder_0 : ckD cX4_isOrder [(0, .iconst 0, 1, 1, 0), (1, .istore_n 3, 1, 2, 0), (2, .iconst 0, 1, 3, 0), (3, .istore 4, 2, 5, 0), (5, .iload 4, 2, 7, 0), (7, .iload_n 2, 1, 8, 0), (8, .if_icmp .ge 32, 3, 11, 40), (11, .lload_n 0, 1, 12, 0), (12, .iload 4, 2, 14, 0), (14, .invokestatic 27, 3, 17, 0), (17, .istore 5, 2, 19, 0), (19, .iload 5, 2, 21, 0), (21, .iload_n 2, 1, 22, 0), (22, .if_icmp .lt 5, 3, 25, 27), (25, .iconst 0, 1, 26, 0), (26, .ireturn, 1, 27, 0), (27, .iload_n 3, 1, 28, 0), (28, .iconst 1, 1, 29, 0), (29, .iload 5, 2, 31, 0), (31, .ishl, 1, 32, 0), (32, .ior, 1, 33, 0), (33, .istore_n 3, 1, 34, 0), (34, .iinc 4 1, 3, 37, 0), (37, .goto (-32), 3, 40, 5), (40, .iload_n 3, 1, 41, 0), (41, .iconst 1, 1, 42, 0), (42, .iload_n 2, 1, 43, 0), (43, .ishl, 1, 44, 0), (44, .iconst 1, 1, 45, 0), (45, .isub, 1, 46, 0), (46, .if_icmp .ne 7, 3, 49, 53), (49, .iconst 1, 1, 50, 0), (50, .goto 4, 3, 53, 54), (53, .iconst 0, 1, 54, 0), (54, .ireturn, 1, 55, 0)] = true := by decide +kernel
def f_X4_isOrder_A5 (a1 : Int32) (x3_3 : Int32) : Option Int32 := if x3_3 = (((1 : Int32) <<< (a1 &&& 31)) - (1 : Int32)) then some (1 : Int32) else some (0 : Int32)
def f_X4_isOrder_L5 (a0 : Int64) (a1 : Int32) (x3_1 : Int32) (x4_2 : Int32) : Option ((Int32 × Int32) ⊕ (Int32 ⊕ Int32)) := if a1 ≤ x4_2 then some (.inr (.inl x3_1)) else lt1 (f_X9_nibble a0 x4_2) fun x5_6 => if x5_6 < a1 then lt1 (x3_1 ||| ((1 : Int32) <<< (x5_6 &&& 31))) fun x3_8 => lt1 (x4_2 + 1) fun x4_9 => some (.inl (x3_8, x4_9)) else some (.inr (.inr (0 : Int32)))
def f_X4_isOrder (a0 : Int64) (a1 : Int32) : Option Int32 := (loop (fun v => f_X4_isOrder_L5 a0 a1 v.1 v.2) FU ((0 : Int32), (0 : Int32))).bind fun x => Sum.elim (fun z => f_X4_isOrder_A5 a1 z) (fun o => some o) x
set_option maxRecDepth 100000 in
set_option maxHeartbeats 4000000 in
theorem t_X4_isOrder {E : Ev} {l : Launch} (htr : l.stackTraces = false) (a0 : Int64) (a1 : Int32) (M : Mm) (r : Int32) (hf : f_X4_isOrder a0 a1 = some r) : CM E l 1 0 0 yX4_isOrder cX4_isOrder 6 (some .boolean) [.long a0, .int a1] M (some (.int r)) M := by
  refine CM.of htr (by decide +kernel) (Nat.le_of_ble_eq_true rfl) ?_
  intro K hE hL hl hR0 C hr hRv
  subst hE
  subst hl
  have C : Cx K cX4_isOrder RX4 1 := C
  have hB : (0 : Nat) ≤ K.1.R.cells ∧ 0 ≤ K.1.R.slots := ⟨Nat.zero_le _, Nat.zero_le _⟩
  have hL3 : 3 < K.2.2.1 := by rw [hL]; decide
  have hL4 : 4 < K.2.2.1 := by rw [hL]; decide
  have hL5 : 5 < K.2.2.1 := by rw [hL]; decide
  show G K (0, 0) 0 [(0, .long a0), (2, .int a1)] [] M
  unfold f_X4_isOrder at hf
  refine g_iconst (v := (0 : Int32)) C (ckD_get k_X4_isOrder_0 0 rfl) (by decide) ?_
  refine g_istore_n (lv' := [(3, _), (0, _), (2, _)]) C (ckD_get k_X4_isOrder_0 1 rfl) rfl hL3 rfl ?_
  refine g_iconst (v := (0 : Int32)) C (ckD_get k_X4_isOrder_0 2 rfl) (by decide) ?_
  refine g_istore (lv' := [(4, _), (3, _), (0, _), (2, _)]) C (ckD_get k_X4_isOrder_0 3 rfl) hL4 rfl ?_
  refine G.sub [2, 3, 1, 0] rfl ?_
  obtain ⟨xx_5, hx_5, hf⟩ := bd_e hf
  have hE_5 : ∀ (x3_3 : Int32), xx_5 = .inl x3_3 → G K (0, 0) 40 [(2, .int a1), (3, .int x3_3)] [] M := by
    intro x3_3 ex
    subst ex
    have hf : f_X4_isOrder_A5 a1 x3_3 = some r := hf
    unfold f_X4_isOrder_A5 at hf
    refine g_iload_n 1 C (ckD_get k_X4_isOrder_0 24 rfl) rfl rfl ?_
    refine g_iconst (v := (1 : Int32)) C (ckD_get k_X4_isOrder_0 25 rfl) (by decide) ?_
    refine g_iload_n 0 C (ckD_get k_X4_isOrder_0 26 rfl) rfl rfl ?_
    refine g_ishl C (ckD_get k_X4_isOrder_0 27 rfl) ?_
    refine g_iconst (v := (1 : Int32)) C (ckD_get k_X4_isOrder_0 28 rfl) (by decide) ?_
    refine g_isub C (ckD_get k_X4_isOrder_0 29 rfl) ?_
    refine g_icmp_ne C (ckD_get k_X4_isOrder_0 30 rfl) (fun c_4 => ?_) (fun c_4 => ?_)
    · have hf := if_f hf c_4
      refine g_iconst (v := (0 : Int32)) C (ckD_get k_X4_isOrder_0 33 rfl) (by decide) ?_
      cases hf
      exact g_zret C (ckD_get k_X4_isOrder_0 34 rfl) hr rfl hRv (Nat.le_refl _) (Nat.le_refl _)
    · have hf := if_t hf c_4
      refine g_iconst (v := (1 : Int32)) C (ckD_get k_X4_isOrder_0 31 rfl) (by decide) ?_
      refine g_goto C (ckD_get k_X4_isOrder_0 32 rfl) ?_
      cases hf
      exact g_zret C (ckD_get k_X4_isOrder_0 34 rfl) hr rfl hRv (Nat.le_refl _) (Nat.le_refl _)
  have hO_5 : ∀ o, xx_5 = .inr o → o = r := by
    intro o eo
    subst eo
    have hf : some o = some r := hf
    cases hf
    rfl
  refine loop_e (x := xx_5) (P := fun (v : (Int32 × Int32)) => G K (0, 0) 5 [(0, .long a0), (2, .int a1), (3, .int v.1), (4, .int v.2)] [] M) ?_ FU _ hx_5
  intro v rr_5 hf hn_5 hz_5
  obtain ⟨x3_1, x4_2⟩ := v
  have hf : f_X4_isOrder_L5 a0 a1 x3_1 x4_2 = some rr_5 := hf
  show G K (0, 0) 5 [(0, .long a0), (2, .int a1), (3, .int x3_1), (4, .int x4_2)] [] M
  unfold f_X4_isOrder_L5 at hf
  refine g_iload 3 C (ckD_get k_X4_isOrder_0 4 rfl) rfl ?_
  refine g_iload_n 1 C (ckD_get k_X4_isOrder_0 5 rfl) rfl rfl ?_
  refine g_icmp_ge C (ckD_get k_X4_isOrder_0 6 rfl) (fun c_5 => ?_) (fun c_5 => ?_)
  · have hf := if_t hf c_5
    refine G.sub [1, 2] rfl ?_
    cases hf
    exact hE_5 _ (hz_5 _ rfl).symm
  · have hf := if_f hf c_5
    refine g_lload_n 0 C (ckD_get k_X4_isOrder_0 7 rfl) rfl rfl ?_
    refine g_iload 3 C (ckD_get k_X4_isOrder_0 8 rfl) rfl ?_
    refine n_cN [.long a0, .int x4_2] [] C (ckD_get k_X4_isOrder_0 9 rfl) nk_X4_27 (t_X9_nibble C.tr _ _ _ _ rfl) rfl rfl (Nat.le_of_ble_eq_true rfl) (by decide) hB rfl ?_
    obtain ⟨x5_6, ex5_6, hf⟩ := lt_e hf
    refine topI ex5_6 ?_
    refine g_istore (lv' := [(5, _), (0, _), (2, _), (3, _), (4, _)]) C (ckD_get k_X4_isOrder_0 10 rfl) hL5 rfl ?_
    refine g_iload 0 C (ckD_get k_X4_isOrder_0 11 rfl) rfl ?_
    refine g_iload_n 2 C (ckD_get k_X4_isOrder_0 12 rfl) rfl rfl ?_
    refine g_icmp_lt C (ckD_get k_X4_isOrder_0 13 rfl) (fun c_7 => ?_) (fun c_7 => ?_)
    · have hf := if_t hf c_7
      refine g_iload_n 3 C (ckD_get k_X4_isOrder_0 16 rfl) rfl rfl ?_
      refine g_iconst (v := (1 : Int32)) C (ckD_get k_X4_isOrder_0 17 rfl) (by decide) ?_
      refine g_iload 0 C (ckD_get k_X4_isOrder_0 18 rfl) rfl ?_
      refine g_ishl C (ckD_get k_X4_isOrder_0 19 rfl) ?_
      refine g_ior C (ckD_get k_X4_isOrder_0 20 rfl) ?_
      obtain ⟨x3_8, ex3_8, hf⟩ := lt_e hf
      refine topI ex3_8 ?_
      refine g_istore_n (lv' := [(3, _), (5, _), (0, _), (2, _), (4, _)]) C (ckD_get k_X4_isOrder_0 21 rfl) rfl hL3 rfl ?_
      obtain ⟨x4_9, ex4_9, hf⟩ := lt_e hf
      refine g_iinc (lv' := [(4, _), (3, _), (5, _), (0, _), (2, _)]) 4 C (ckD_get k_X4_isOrder_0 22 rfl) rfl ex4_9 hL4 rfl ?_
      refine g_goto C (ckD_get k_X4_isOrder_0 23 rfl) ?_
      refine G.sub [3, 4, 1, 0] rfl ?_
      cases hf
      exact hn_5 _ rfl
    · have hf := if_f hf c_7
      refine g_iconst (v := (0 : Int32)) C (ckD_get k_X4_isOrder_0 14 rfl) (by decide) ?_
      cases hf
      cases hO_5 _ (hz_5 _ rfl).symm
      exact g_zret C (ckD_get k_X4_isOrder_0 15 rfl) hr rfl hRv (Nat.le_refl _) (Nat.le_refl _)
