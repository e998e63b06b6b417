theorem q649 : Cond.methodLink RL 7 yX9_side ∈ RQ := RQ_in 649 (by decide +kernel) (by decide +kernel)
theorem q650 : Cond.instanceMethod yX9_side ∈ RQ := RQ_in 650 (by decide +kernel) (by decide +kernel)
theorem q651 : Cond.selects RX9 yX9_side yX9_side ∈ RQ := RQ_in 651 (by decide +kernel) (by decide +kernel)
theorem q652 : Cond.code yX9_side cX9_side 3 (some .int) ∈ RQ := RQ_in 652 (by decide +kernel) (by decide +kernel)
theorem vk_L_7 : VK RL 7 8 yX9_side cX9_side 3 (some .int) 2 := ⟨RX9, TX9, 10, rfl, rfl, q649, q650, q651, q88, q652, ⟨by decide +kernel, by decide +kernel⟩, by decide +kernel, by decide⟩
theorem q648 : Cond.classLink RL 13 "java/util/NoSuchElementException" ∈ RQ := RQ_in 648 (by decide +kernel) (by decide +kernel)
theorem qh659 : Cond.castable "java/util/NoSuchElementException" "java/util/NoSuchElementException" ∈ HWs := HW_in 659 (by decide +kernel) (by decide +kernel)
theorem q728 : Cond.methodLink RL 15 yX9_net ∈ RQ := RQ_in 728 (by decide +kernel) (by decide +kernel)
theorem q729 : Cond.instanceMethod yX9_net ∈ RQ := RQ_in 729 (by decide +kernel) (by decide +kernel)
theorem q730 : Cond.selects RX9 yX9_net yX9_net ∈ RQ := RQ_in 730 (by decide +kernel) (by decide +kernel)
theorem q731 : Cond.code yX9_net cX9_net 3 (some .int) ∈ RQ := RQ_in 731 (by decide +kernel) (by decide +kernel)
theorem vk_L_15 : VK RL 15 8 yX9_net cX9_net 3 (some .int) 2 := ⟨RX9, TX9, 10, rfl, rfl, q728, q729, q730, q88, q731, ⟨by decide +kernel, by decide +kernel⟩, by decide +kernel, by decide⟩
theorem q742 : Cond.methodLink RL 18 yX9_put ∈ RQ := RQ_in 742 (by decide +kernel) (by decide +kernel)
theorem q743 : Cond.instanceMethod yX9_put ∈ RQ := RQ_in 743 (by decide +kernel) (by decide +kernel)
theorem q744 : Cond.selects RX9 yX9_put yX9_put ∈ RQ := RQ_in 744 (by decide +kernel) (by decide +kernel)
theorem q745 : Cond.code yX9_put cX9_put 5 (some .boolean) ∈ RQ := RQ_in 745 (by decide +kernel) (by decide +kernel)
theorem vk_L_18 : VK RL 18 8 yX9_put cX9_put 5 (some .boolean) 4 := ⟨RX9, TX9, 10, rfl, rfl, q742, q743, q744, q88, q745, ⟨by decide +kernel, by decide +kernel⟩, by decide +kernel, by decide⟩
theorem q756 : Cond.methodLink RL 22 yX9_about ∈ RQ := RQ_in 756 (by decide +kernel) (by decide +kernel)
theorem q757 : Cond.instanceMethod yX9_about ∈ RQ := RQ_in 757 (by decide +kernel) (by decide +kernel)
theorem q758 : Cond.selects RX9 yX9_about yX9_about ∈ RQ := RQ_in 758 (by decide +kernel) (by decide +kernel)
theorem q759 : Cond.code yX9_about cX9_about 2 (some .int) ∈ RQ := RQ_in 759 (by decide +kernel) (by decide +kernel)
theorem vk_L_22 : VK RL 22 8 yX9_about cX9_about 2 (some .int) 1 := ⟨RX9, TX9, 10, rfl, rfl, q756, q757, q758, q88, q759, ⟨by decide +kernel, by decide +kernel⟩, by decide +kernel, by decide⟩
theorem q796 : Cond.methodLink RL 26 yX9_at ∈ RQ := RQ_in 796 (by decide +kernel) (by decide +kernel)
theorem q797 : Cond.instanceMethod yX9_at ∈ RQ := RQ_in 797 (by decide +kernel) (by decide +kernel)
theorem q798 : Cond.selects RX9 yX9_at yX9_at ∈ RQ := RQ_in 798 (by decide +kernel) (by decide +kernel)
theorem q799 : Cond.code yX9_at cX9_at 3 (some .int) ∈ RQ := RQ_in 799 (by decide +kernel) (by decide +kernel)
theorem vk_L_26 : VK RL 26 8 yX9_at cX9_at 3 (some .int) 2 := ⟨RX9, TX9, 10, rfl, rfl, q796, q797, q798, q88, q799, ⟨by decide +kernel, by decide +kernel⟩, by decide +kernel, by decide⟩
theorem q804 : Cond.methodLink RL 29 yX9_told ∈ RQ := RQ_in 804 (by decide +kernel) (by decide +kernel)
theorem q805 : Cond.instanceMethod yX9_told ∈ RQ := RQ_in 805 (by decide +kernel) (by decide +kernel)
theorem q806 : Cond.selects RX9 yX9_told yX9_told ∈ RQ := RQ_in 806 (by decide +kernel) (by decide +kernel)
theorem q807 : Cond.code yX9_told cX9_told 2 (some .long) ∈ RQ := RQ_in 807 (by decide +kernel) (by decide +kernel)
theorem vk_L_29 : VK RL 29 8 yX9_told cX9_told 2 (some .long) 1 := ⟨RX9, TX9, 10, rfl, rfl, q804, q805, q806, q88, q807, ⟨by decide +kernel, by decide +kernel⟩, by decide +kernel, by decide⟩
theorem q821 : Cond.methodLink RL 33 yX9_slack ∈ RQ := RQ_in 821 (by decide +kernel) (by decide +kernel)
theorem q822 : Cond.instanceMethod yX9_slack ∈ RQ := RQ_in 822 (by decide +kernel) (by decide +kernel)
theorem q823 : Cond.selects RX9 yX9_slack yX9_slack ∈ RQ := RQ_in 823 (by decide +kernel) (by decide +kernel)
theorem q824 : Cond.code yX9_slack cX9_slack 3 (some .int) ∈ RQ := RQ_in 824 (by decide +kernel) (by decide +kernel)
theorem vk_L_33 : VK RL 33 8 yX9_slack cX9_slack 3 (some .int) 2 := ⟨RX9, TX9, 10, rfl, rfl, q821, q822, q823, q88, q824, ⟨by decide +kernel, by decide +kernel⟩, by decide +kernel, by decide⟩
theorem q843 : Cond.methodLink RL 36 yX9_wires ∈ RQ := RQ_in 843 (by decide +kernel) (by decide +kernel)
theorem q844 : Cond.instanceMethod yX9_wires ∈ RQ := RQ_in 844 (by decide +kernel) (by decide +kernel)
theorem q845 : Cond.selects RX9 yX9_wires yX9_wires ∈ RQ := RQ_in 845 (by decide +kernel) (by decide +kernel)
theorem q846 : Cond.code yX9_wires cX9_wires 3 (some .int) ∈ RQ := RQ_in 846 (by decide +kernel) (by decide +kernel)
theorem vk_L_36 : VK RL 36 8 yX9_wires cX9_wires 3 (some .int) 0 := ⟨RX9, TX9, 10, rfl, rfl, q843, q844, q845, q88, q846, ⟨by decide +kernel, by decide +kernel⟩, by decide +kernel, by decide⟩
theorem q863 : Cond.methodLink RL 40 yX9_isCut ∈ RQ := RQ_in 863 (by decide +kernel) (by decide +kernel)
theorem q864 : Cond.instanceMethod yX9_isCut ∈ RQ := RQ_in 864 (by decide +kernel) (by decide +kernel)
theorem q865 : Cond.selects RX9 yX9_isCut yX9_isCut ∈ RQ := RQ_in 865 (by decide +kernel) (by decide +kernel)
theorem q866 : Cond.code yX9_isCut cX9_isCut 1 (some .boolean) ∈ RQ := RQ_in 866 (by decide +kernel) (by decide +kernel)
theorem vk_L_40 : VK RL 40 8 yX9_isCut cX9_isCut 1 (some .boolean) 0 := ⟨RX9, TX9, 10, rfl, rfl, q863, q864, q865, q88, q866, ⟨by decide +kernel, by decide +kernel⟩, by decide +kernel, by decide⟩
theorem q882 : Cond.methodLink RL 44 yX9_normal ∈ RQ := RQ_in 882 (by decide +kernel) (by decide +kernel)
theorem q883 : Cond.instanceMethod yX9_normal ∈ RQ := RQ_in 883 (by decide +kernel) (by decide +kernel)
theorem q884 : Cond.selects RX9 yX9_normal yX9_normal ∈ RQ := RQ_in 884 (by decide +kernel) (by decide +kernel)
theorem q885 : Cond.code yX9_normal cX9_normal 1 (some .int) ∈ RQ := RQ_in 885 (by decide +kernel) (by decide +kernel)
theorem vk_L_44 : VK RL 44 8 yX9_normal cX9_normal 1 (some .int) 0 := ⟨RX9, TX9, 10, rfl, rfl, q882, q883, q884, q88, q885, ⟨by decide +kernel, by decide +kernel⟩, by decide +kernel, by decide⟩
theorem q912 : Cond.methodLink RL 47 yX9_curve ∈ RQ := RQ_in 912 (by decide +kernel) (by decide +kernel)
theorem q913 : Cond.instanceMethod yX9_curve ∈ RQ := RQ_in 913 (by decide +kernel) (by decide +kernel)
theorem q914 : Cond.selects RX9 yX9_curve yX9_curve ∈ RQ := RQ_in 914 (by decide +kernel) (by decide +kernel)
theorem q915 : Cond.code yX9_curve cX9_curve 1 (some .int) ∈ RQ := RQ_in 915 (by decide +kernel) (by decide +kernel)
theorem vk_L_47 : VK RL 47 8 yX9_curve cX9_curve 1 (some .int) 0 := ⟨RX9, TX9, 10, rfl, rfl, q912, q913, q914, q88, q915, ⟨by decide +kernel, by decide +kernel⟩, by decide +kernel, by decide⟩
theorem q950 : Cond.methodLink RL 50 yX9_shape ∈ RQ := RQ_in 950 (by decide +kernel) (by decide +kernel)
theorem q951 : Cond.instanceMethod yX9_shape ∈ RQ := RQ_in 951 (by decide +kernel) (by decide +kernel)
theorem q952 : Cond.selects RX9 yX9_shape yX9_shape ∈ RQ := RQ_in 952 (by decide +kernel) (by decide +kernel)
theorem q953 : Cond.code yX9_shape cX9_shape 3 (some .int) ∈ RQ := RQ_in 953 (by decide +kernel) (by decide +kernel)
theorem vk_L_50 : VK RL 50 8 yX9_shape cX9_shape 3 (some .int) 2 := ⟨RX9, TX9, 10, rfl, rfl, q950, q951, q952, q88, q953, ⟨by decide +kernel, by decide +kernel⟩, by decide +kernel, by decide⟩
theorem q963 : Cond.methodLink RL 53 yX9_best ∈ RQ := RQ_in 963 (by decide +kernel) (by decide +kernel)
theorem q964 : Cond.instanceMethod yX9_best ∈ RQ := RQ_in 964 (by decide +kernel) (by decide +kernel)
theorem q965 : Cond.selects RX9 yX9_best yX9_best ∈ RQ := RQ_in 965 (by decide +kernel) (by decide +kernel)
theorem q966 : Cond.code yX9_best cX9_best 3 (some .int) ∈ RQ := RQ_in 966 (by decide +kernel) (by decide +kernel)
theorem vk_L_53 : VK RL 53 8 yX9_best cX9_best 3 (some .int) 1 := ⟨RX9, TX9, 10, rfl, rfl, q963, q964, q965, q88, q966, ⟨by decide +kernel, by decide +kernel⟩, by decide +kernel, by decide⟩
theorem q979 : Cond.methodLink RL 56 yX9_least ∈ RQ := RQ_in 979 (by decide +kernel) (by decide +kernel)
theorem q980 : Cond.instanceMethod yX9_least ∈ RQ := RQ_in 980 (by decide +kernel) (by decide +kernel)
theorem q981 : Cond.selects RX9 yX9_least yX9_least ∈ RQ := RQ_in 981 (by decide +kernel) (by decide +kernel)
theorem q982 : Cond.code yX9_least cX9_least 3 (some .int) ∈ RQ := RQ_in 982 (by decide +kernel) (by decide +kernel)
theorem vk_L_56 : VK RL 56 8 yX9_least cX9_least 3 (some .int) 1 := ⟨RX9, TX9, 10, rfl, rfl, q979, q980, q981, q88, q982, ⟨by decide +kernel, by decide +kernel⟩, by decide +kernel, by decide⟩
theorem q1079 : Cond.methodLink RL 59 yX9_count ∈ RQ := RQ_in 1079 (by decide +kernel) (by decide +kernel)
theorem q1080 : Cond.instanceMethod yX9_count ∈ RQ := RQ_in 1080 (by decide +kernel) (by decide +kernel)
theorem q1081 : Cond.selects RX9 yX9_count yX9_count ∈ RQ := RQ_in 1081 (by decide +kernel) (by decide +kernel)
theorem q1082 : Cond.code yX9_count cX9_count 5 (some .long) ∈ RQ := RQ_in 1082 (by decide +kernel) (by decide +kernel)
theorem vk_L_59 : VK RL 59 8 yX9_count cX9_count 5 (some .long) 2 := ⟨RX9, TX9, 10, rfl, rfl, q1079, q1080, q1081, q88, q1082, ⟨by decide +kernel, by decide +kernel⟩, by decide +kernel, by decide⟩
theorem q1090 : Cond.methodLink RL 63 yX9_rank ∈ RQ := RQ_in 1090 (by decide +kernel) (by decide +kernel)
theorem q1091 : Cond.instanceMethod yX9_rank ∈ RQ := RQ_in 1091 (by decide +kernel) (by decide +kernel)
theorem q1092 : Cond.selects RX9 yX9_rank yX9_rank ∈ RQ := RQ_in 1092 (by decide +kernel) (by decide +kernel)
theorem q1093 : Cond.code yX9_rank cX9_rank 1 (some .long) ∈ RQ := RQ_in 1093 (by decide +kernel) (by decide +kernel)
theorem vk_L_63 : VK RL 63 8 yX9_rank cX9_rank 1 (some .long) 0 := ⟨RX9, TX9, 10, rfl, rfl, q1090, q1091, q1092, q88, q1093, ⟨by decide +kernel, by decide +kernel⟩, by decide +kernel, by decide⟩
set_option maxRecDepth 20000 in
theorem k_L_side_0 : ckD cL_side [(0, .aload_n 3, 1, 1, 0), (1, .iconst 0, 1, 2, 0), (2, .aload_n 0, 1, 3, 0), (3, .iload_n 1, 1, 4, 0), (4, .iload_n 2, 1, 5, 0), (5, .invokevirtual 7, 3, 8, 0), (8, .i2l, 1, 9, 0), (9, .lastore, 1, 10, 0), (10, .goto 7, 3, 13, 17), (13, .astore 4, 2, 15, 0), (15, .iconst 1, 1, 16, 0), (16, .ireturn, 1, 17, 0), (17, .iconst 0, 1, 18, 0), (18, .ireturn, 1, 19, 0)] = true := by decide +kernel
def f_L_side (a1 : Int32) (a2 : Int32) (M : Mm) : Option (Int32 × Mm) := (f_X9_side a1 a2 M).bind fun o_2 => tr1 o_2 (some ((1 : Int32), M)) fun r_3 => wrL 1 M 105 (0 : Int32) ((r_3).toInt64) fun M_4 => some ((0 : Int32), M_4)
set_option maxRecDepth 100000 in
set_option maxHeartbeats 4000000 in
theorem t_L_side {E : Ev} {l : Launch} (htr : l.stackTraces = false) (a1 : Int32) (a2 : Int32) (M : Mm) (r : (Int32 × Mm)) (hf : f_L_side a1 a2 M = some r) : CW E l 8 2 12 yL_side cL_side 5 (some .int) [((0), (10), (13), (13))] [.ref (E.1 + 0), .int a1, .int a2, .ref (E.1 + 105)] M (some (.int r.1)) r.2 := by
  refine CW.of htr (by decide +kernel) (Nat.le_of_ble_eq_true rfl) ?_
  intro K hE hL hl hR0 C hr hT hRv
  subst hE
  subst hl
  have C : Cx K cL_side RL 8 := C
  have hRc : 2 ≤ K.1.R.cells ∧ 12 ≤ K.1.R.slots := by rw [hR0]; exact ⟨Nat.le_refl _, Nat.le_refl _⟩
  have hL4 : 4 < K.2.2.1 := by rw [hL]; decide
  show G K (0, 0) 0 [(0, .ref (K.2.1.1 + 0)), (1, .int a1), (2, .int a2), (3, .ref (K.2.1.1 + 105))] [] M
  unfold f_L_side at hf
  refine g_aload_n 3 C (ckD_get k_L_side_0 0 rfl) rfl rfl ?_
  refine g_iconst (v := (0 : Int32)) C (ckD_get k_L_side_0 1 rfl) (by decide) ?_
  refine g_aload_n 0 C (ckD_get k_L_side_0 2 rfl) rfl rfl ?_
  refine g_iload_n 1 C (ckD_get k_L_side_0 3 rfl) rfl rfl ?_
  refine g_iload_n 2 C (ckD_get k_L_side_0 4 rfl) rfl rfl ?_
  obtain ⟨o_2, hr_1, hf⟩ := bd_e hf
  cases o_2 with
  | none =>
    have hf := tr_n hf rfl
    refine n_cVCt [.int a1, .int a2] [.int (0 : Int32), .ref (K.2.1.1 + 105)] C (ckD_get k_L_side_0 5 rfl) vk_L_7 (t_X9_side C.tr _ _ _ _ hr_1) T0 rfl rfl (Nat.le_of_ble_eq_true rfl) (by decide) hRc hT rfl (by decide) q648 qh659 rfl ?_
    intro qq
    refine g_astore (lv' := [(4, _), (0, _), (1, _), (2, _), (3, _)]) C (ckD_get k_L_side_0 9 rfl) hL4 rfl ?_
    refine g_iconst (v := (1 : Int32)) C (ckD_get k_L_side_0 10 rfl) (by decide) ?_
    cases hf
    exact g_iret C (ckD_get k_L_side_0 11 rfl) hr hRv (by decide) (by decide)
  | some r_3 =>
    have hf := tr_s hf rfl
    refine n_cVCr [.int a1, .int a2] [.int (0 : Int32), .ref (K.2.1.1 + 105)] C (ckD_get k_L_side_0 5 rfl) vk_L_7 (t_X9_side C.tr _ _ _ _ hr_1) T0 rfl rfl (Nat.le_of_ble_eq_true rfl) (by decide) hRc hT rfl (by decide) q648 qh659 rfl rfl ?_
    refine g_i2l C (ckD_get k_L_side_0 6 rfl) ?_
    obtain ⟨M_4, hi_5, eM_4, hf⟩ := wrL_e hf
    refine n_last C (ckD_get k_L_side_0 7 rfl) T105 hi_5 eM_4 ?_
    refine g_goto C (ckD_get k_L_side_0 8 rfl) ?_
    refine g_iconst (v := (0 : Int32)) C (ckD_get k_L_side_0 12 rfl) (by decide) ?_
    cases hf
    exact g_iret C (ckD_get k_L_side_0 13 rfl) hr hRv (by decide) (by decide)

set_option maxRecDepth 20000 in
theorem k_L_net_0 : ckD cL_net [(0, .aload_n 3, 1, 1, 0), (1, .iconst 0, 1, 2, 0), (2, .aload_n 0, 1, 3, 0), (3, .iload_n 1, 1, 4, 0), (4, .iload_n 2, 1, 5, 0), (5, .invokevirtual 15, 3, 8, 0), (8, .i2l, 1, 9, 0), (9, .lastore, 1, 10, 0), (10, .goto 7, 3, 13, 17), (13, .astore 4, 2, 15, 0), (15, .iconst 1, 1, 16, 0), (16, .ireturn, 1, 17, 0), (17, .iconst 0, 1, 18, 0), (18, .ireturn, 1, 19, 0)] = true := by decide +kernel
def f_L_net (a1 : Int32) (a2 : Int32) (M : Mm) : Option (Int32 × Mm) := bd2 (f_X9_net a1 a2 M) fun o_2 M_3 => tr1 o_2 (some ((1 : Int32), M_3)) fun r_4 => wrL 1 M_3 105 (0 : Int32) ((r_4).toInt64) fun M_5 => some ((0 : Int32), M_5)
set_option maxRecDepth 100000 in
set_option maxHeartbeats 4000000 in
theorem t_L_net {E : Ev} {l : Launch} (htr : l.stackTraces = false) (a1 : Int32) (a2 : Int32) (M : Mm) (r : (Int32 × Mm)) (hf : f_L_net a1 a2 M = some r) : CW E l 7 1 6 yL_net cL_net 5 (some .int) [((0), (10), (13), (13))] [.ref (E.1 + 0), .int a1, .int a2, .ref (E.1 + 105)] M (some (.int r.1)) r.2 := by
  refine CW.of htr (by decide +kernel) (Nat.le_of_ble_eq_true rfl) ?_
  intro K hE hL hl hR0 C hr hT hRv
  subst hE
  subst hl
  have C : Cx K cL_net RL 7 := C
  have hRc : 1 ≤ K.1.R.cells ∧ 6 ≤ K.1.R.slots := by rw [hR0]; exact ⟨Nat.le_refl _, Nat.le_refl _⟩
  have hL4 : 4 < K.2.2.1 := by rw [hL]; decide
  show G K (0, 0) 0 [(0, .ref (K.2.1.1 + 0)), (1, .int a1), (2, .int a2), (3, .ref (K.2.1.1 + 105))] [] M
  unfold f_L_net at hf
  refine g_aload_n 3 C (ckD_get k_L_net_0 0 rfl) rfl rfl ?_
  refine g_iconst (v := (0 : Int32)) C (ckD_get k_L_net_0 1 rfl) (by decide) ?_
  refine g_aload_n 0 C (ckD_get k_L_net_0 2 rfl) rfl rfl ?_
  refine g_iload_n 1 C (ckD_get k_L_net_0 3 rfl) rfl rfl ?_
  refine g_iload_n 2 C (ckD_get k_L_net_0 4 rfl) rfl rfl ?_
  obtain ⟨o_2, M_3, hr_1, hf⟩ := bd2_e hf
  cases o_2 with
  | none =>
    have hf := tr_n hf rfl
    refine n_cVCt [.int a1, .int a2] [.int (0 : Int32), .ref (K.2.1.1 + 105)] C (ckD_get k_L_net_0 5 rfl) vk_L_15 (t_X9_net C.tr _ _ _ _ hr_1) T0 rfl rfl (Nat.le_of_ble_eq_true rfl) (by decide) hRc hT rfl (by decide) q648 qh659 rfl ?_
    intro qq
    refine g_astore (lv' := [(4, _), (0, _), (1, _), (2, _), (3, _)]) C (ckD_get k_L_net_0 9 rfl) hL4 rfl ?_
    refine g_iconst (v := (1 : Int32)) C (ckD_get k_L_net_0 10 rfl) (by decide) ?_
    cases hf
    exact g_iret C (ckD_get k_L_net_0 11 rfl) hr hRv (by decide) (by decide)
  | some r_4 =>
    have hf := tr_s hf rfl
    refine n_cVCr [.int a1, .int a2] [.int (0 : Int32), .ref (K.2.1.1 + 105)] C (ckD_get k_L_net_0 5 rfl) vk_L_15 (t_X9_net C.tr _ _ _ _ hr_1) T0 rfl rfl (Nat.le_of_ble_eq_true rfl) (by decide) hRc hT rfl (by decide) q648 qh659 rfl rfl ?_
    refine g_i2l C (ckD_get k_L_net_0 6 rfl) ?_
    obtain ⟨M_5, hi_6, eM_5, hf⟩ := wrL_e hf
    refine n_last C (ckD_get k_L_net_0 7 rfl) T105 hi_6 eM_5 ?_
    refine g_goto C (ckD_get k_L_net_0 8 rfl) ?_
    refine g_iconst (v := (0 : Int32)) C (ckD_get k_L_net_0 12 rfl) (by decide) ?_
    cases hf
    exact g_iret C (ckD_get k_L_net_0 13 rfl) hr hRv (by decide) (by decide)

set_option maxRecDepth 20000 in
theorem k_L_put_0 : ckD cL_put [(0, .aload 5, 2, 2, 0), (2, .iconst 0, 1, 3, 0), (3, .aload_n 0, 1, 4, 0), (4, .iload_n 1, 1, 5, 0), (5, .iload_n 2, 1, 6, 0), (6, .iload_n 3, 1, 7, 0), (7, .iload 4, 2, 9, 0), (9, .invokevirtual 18, 3, 12, 0), (12, .ifCond .eq 7, 3, 15, 19), (15, .lconst 1, 1, 16, 0), (16, .goto 4, 3, 19, 20), (19, .lconst 0, 1, 20, 0), (20, .lastore, 1, 21, 0), (21, .goto 7, 3, 24, 28), (24, .astore 6, 2, 26, 0), (26, .iconst 1, 1, 27, 0), (27, .ireturn, 1, 28, 0), (28, .iconst 0, 1, 29, 0), (29, .ireturn, 1, 30, 0)] = true := by decide +kernel
def f_L_put_J20 (M_3 : Mm) (s_5 : Int64) : Option (Int32 × Mm) := wrL 1 M_3 105 (0 : Int32) s_5 fun M_6 => some ((0 : Int32), M_6)
def f_L_put (a1 : Int32) (a2 : Int32) (a3 : Int32) (a4 : Int32) (M : Mm) : Option (Int32 × Mm) := bd2 (f_X9_put a1 a2 a3 a4 M) fun o_2 M_3 => tr1 o_2 (some ((1 : Int32), M_3)) fun r_4 => if r_4 = 0 then f_L_put_J20 M_3 (0 : Int64) else f_L_put_J20 M_3 (1 : Int64)
set_option maxRecDepth 100000 in
set_option maxHeartbeats 4000000 in
theorem t_L_put {E : Ev} {l : Launch} (htr : l.stackTraces = false) (a1 : Int32) (a2 : Int32) (a3 : Int32) (a4 : Int32) (M : Mm) (r : (Int32 × Mm)) (hf : f_L_put a1 a2 a3 a4 M = some r) : CW E l 8 1 6 yL_put cL_put 7 (some .int) [((0), (21), (24), (13))] [.ref (E.1 + 0), .int a1, .int a2, .int a3, .int a4, .ref (E.1 + 105)] M (some (.int r.1)) r.2 := by
  refine CW.of htr (by decide +kernel) (Nat.le_of_ble_eq_true rfl) ?_
  intro K hE hL hl hR0 C hr hT hRv
  subst hE
  subst hl
  have C : Cx K cL_put RL 8 := C
  have hRc : 1 ≤ K.1.R.cells ∧ 6 ≤ K.1.R.slots := by rw [hR0]; exact ⟨Nat.le_refl _, Nat.le_refl _⟩
  have hL6 : 6 < K.2.2.1 := by rw [hL]; decide
  show G K (0, 0) 0 [(0, .ref (K.2.1.1 + 0)), (1, .int a1), (2, .int a2), (3, .int a3), (4, .int a4), (5, .ref (K.2.1.1 + 105))] [] M
  unfold f_L_put at hf
  refine g_aload 5 C (ckD_get k_L_put_0 0 rfl) rfl ?_
  refine g_iconst (v := (0 : Int32)) C (ckD_get k_L_put_0 1 rfl) (by decide) ?_
  refine g_aload_n 0 C (ckD_get k_L_put_0 2 rfl) rfl rfl ?_
  refine g_iload_n 1 C (ckD_get k_L_put_0 3 rfl) rfl rfl ?_
  refine g_iload_n 2 C (ckD_get k_L_put_0 4 rfl) rfl rfl ?_
  refine g_iload_n 3 C (ckD_get k_L_put_0 5 rfl) rfl rfl ?_
  refine g_iload 4 C (ckD_get k_L_put_0 6 rfl) rfl ?_
  obtain ⟨o_2, M_3, hr_1, hf⟩ := bd2_e hf
  cases o_2 with
  | none =>
    have hf := tr_n hf rfl
    refine n_cVCt [.int a1, .int a2, .int a3, .int a4] [.int (0 : Int32), .ref (K.2.1.1 + 105)] C (ckD_get k_L_put_0 7 rfl) vk_L_18 (t_X9_put C.tr _ _ _ _ _ _ hr_1) T0 rfl rfl (Nat.le_of_ble_eq_true rfl) (by decide) hRc hT rfl (by decide) q648 qh659 rfl ?_
    intro qq
    refine g_astore (lv' := [(6, _), (0, _), (1, _), (2, _), (3, _), (4, _), (5, _)]) C (ckD_get k_L_put_0 14 rfl) hL6 rfl ?_
    refine g_iconst (v := (1 : Int32)) C (ckD_get k_L_put_0 15 rfl) (by decide) ?_
    cases hf
    exact g_iret C (ckD_get k_L_put_0 16 rfl) hr hRv (by decide) (by decide)
  | some r_4 =>
    have hf := tr_s hf rfl
    refine n_cVCr [.int a1, .int a2, .int a3, .int a4] [.int (0 : Int32), .ref (K.2.1.1 + 105)] C (ckD_get k_L_put_0 7 rfl) vk_L_18 (t_X9_put C.tr _ _ _ _ _ _ hr_1) T0 rfl rfl (Nat.le_of_ble_eq_true rfl) (by decide) hRc hT rfl (by decide) q648 qh659 rfl rfl ?_
    have hJ_20 : ∀ (s_5 : Int64), f_L_put_J20 M_3 s_5 = some r → G K (1, 6) 20 [] [.long s_5, .int (0 : Int32), .ref (K.2.1.1 + 105)] M_3 := by
      intro s_5 hf
      unfold f_L_put_J20 at hf
      obtain ⟨M_6, hi_7, eM_6, hf⟩ := wrL_e hf
      refine n_last C (ckD_get k_L_put_0 12 rfl) T105 hi_7 eM_6 ?_
      refine g_goto C (ckD_get k_L_put_0 13 rfl) ?_
      refine g_iconst (v := (0 : Int32)) C (ckD_get k_L_put_0 17 rfl) (by decide) ?_
      cases hf
      exact g_iret C (ckD_get k_L_put_0 18 rfl) hr hRv (by decide) (by decide)
    refine g_if_eq C (ckD_get k_L_put_0 8 rfl) (fun c_8 => ?_) (fun c_8 => ?_)
    · have hf := if_t hf c_8
      refine g_lconst (v := (0 : Int64)) C (ckD_get k_L_put_0 11 rfl) (by decide) ?_
      refine G.sub [] rfl ?_
      exact hJ_20 _ hf
    · have hf := if_f hf c_8
      refine g_lconst (v := (1 : Int64)) C (ckD_get k_L_put_0 9 rfl) (by decide) ?_
      refine g_goto C (ckD_get k_L_put_0 10 rfl) ?_
      refine G.sub [] rfl ?_
      exact hJ_20 _ hf

set_option maxRecDepth 20000 in
theorem k_L_about_0 : ckD cL_about [(0, .aload_n 2, 1, 1, 0), (1, .iconst 0, 1, 2, 0), (2, .aload_n 0, 1, 3, 0), (3, .iload_n 1, 1, 4, 0), (4, .invokevirtual 22, 3, 7, 0), (7, .i2l, 1, 8, 0), (8, .lastore, 1, 9, 0), (9, .goto 6, 3, 12, 15), (12, .astore_n 3, 1, 13, 0), (13, .iconst 1, 1, 14, 0), (14, .ireturn, 1, 15, 0), (15, .iconst 0, 1, 16, 0), (16, .ireturn, 1, 17, 0)] = true := by decide +kernel
def f_L_about (a1 : Int32) (M : Mm) : Option (Int32 × Mm) := (f_X9_about a1 M).bind fun o_2 => tr1 o_2 (some ((1 : Int32), M)) fun r_3 => wrL 1 M 105 (0 : Int32) ((r_3).toInt64) fun M_4 => some ((0 : Int32), M_4)
set_option maxRecDepth 100000 in
set_option maxHeartbeats 4000000 in
theorem t_L_about {E : Ev} {l : Launch} (htr : l.stackTraces = false) (a1 : Int32) (M : Mm) (r : (Int32 × Mm)) (hf : f_L_about a1 M = some r) : CW E l 8 2 12 yL_about cL_about 4 (some .int) [((0), (9), (12), (13))] [.ref (E.1 + 0), .int a1, .ref (E.1 + 105)] M (some (.int r.1)) r.2 := by
  refine CW.of htr (by decide +kernel) (Nat.le_of_ble_eq_true rfl) ?_
  intro K hE hL hl hR0 C hr hT hRv
  subst hE
  subst hl
  have C : Cx K cL_about RL 8 := C
  have hRc : 2 ≤ K.1.R.cells ∧ 12 ≤ K.1.R.slots := by rw [hR0]; exact ⟨Nat.le_refl _, Nat.le_refl _⟩
  have hL3 : 3 < K.2.2.1 := by rw [hL]; decide
  show G K (0, 0) 0 [(0, .ref (K.2.1.1 + 0)), (1, .int a1), (2, .ref (K.2.1.1 + 105))] [] M
  unfold f_L_about at hf
  refine g_aload_n 2 C (ckD_get k_L_about_0 0 rfl) rfl rfl ?_
  refine g_iconst (v := (0 : Int32)) C (ckD_get k_L_about_0 1 rfl) (by decide) ?_
  refine g_aload_n 0 C (ckD_get k_L_about_0 2 rfl) rfl rfl ?_
  refine g_iload_n 1 C (ckD_get k_L_about_0 3 rfl) rfl rfl ?_
  obtain ⟨o_2, hr_1, hf⟩ := bd_e hf
  cases o_2 with
  | none =>
    have hf := tr_n hf rfl
    refine n_cVCt [.int a1] [.int (0 : Int32), .ref (K.2.1.1 + 105)] C (ckD_get k_L_about_0 4 rfl) vk_L_22 (t_X9_about C.tr _ _ _ hr_1) T0 rfl rfl (Nat.le_of_ble_eq_true rfl) (by decide) hRc hT rfl (by decide) q648 qh659 rfl ?_
    intro qq
    refine g_astore_n (lv' := [(3, _), (0, _), (1, _), (2, _)]) C (ckD_get k_L_about_0 8 rfl) rfl hL3 rfl ?_
    refine g_iconst (v := (1 : Int32)) C (ckD_get k_L_about_0 9 rfl) (by decide) ?_
    cases hf
    exact g_iret C (ckD_get k_L_about_0 10 rfl) hr hRv (by decide) (by decide)
  | some r_3 =>
    have hf := tr_s hf rfl
    refine n_cVCr [.int a1] [.int (0 : Int32), .ref (K.2.1.1 + 105)] C (ckD_get k_L_about_0 4 rfl) vk_L_22 (t_X9_about C.tr _ _ _ hr_1) T0 rfl rfl (Nat.le_of_ble_eq_true rfl) (by decide) hRc hT rfl (by decide) q648 qh659 rfl rfl ?_
    refine g_i2l C (ckD_get k_L_about_0 5 rfl) ?_
    obtain ⟨M_4, hi_5, eM_4, hf⟩ := wrL_e hf
    refine n_last C (ckD_get k_L_about_0 6 rfl) T105 hi_5 eM_4 ?_
    refine g_goto C (ckD_get k_L_about_0 7 rfl) ?_
    refine g_iconst (v := (0 : Int32)) C (ckD_get k_L_about_0 11 rfl) (by decide) ?_
    cases hf
    exact g_iret C (ckD_get k_L_about_0 12 rfl) hr hRv (by decide) (by decide)

set_option maxRecDepth 20000 in
theorem k_L_at_0 : ckD cL_at [(0, .aload_n 3, 1, 1, 0), (1, .iconst 0, 1, 2, 0), (2, .aload_n 0, 1, 3, 0), (3, .iload_n 1, 1, 4, 0), (4, .iload_n 2, 1, 5, 0), (5, .invokevirtual 26, 3, 8, 0), (8, .i2l, 1, 9, 0), (9, .lastore, 1, 10, 0), (10, .goto 7, 3, 13, 17), (13, .astore 4, 2, 15, 0), (15, .iconst 1, 1, 16, 0), (16, .ireturn, 1, 17, 0), (17, .iconst 0, 1, 18, 0), (18, .ireturn, 1, 19, 0)] = true := by decide +kernel
def f_L_at (a1 : Int32) (a2 : Int32) (M : Mm) : Option (Int32 × Mm) := (f_X9_at a1 a2 M).bind fun o_2 => tr1 o_2 (some ((1 : Int32), M)) fun r_3 => wrL 1 M 105 (0 : Int32) ((r_3).toInt64) fun M_4 => some ((0 : Int32), M_4)
set_option maxRecDepth 100000 in
set_option maxHeartbeats 4000000 in
theorem t_L_at {E : Ev} {l : Launch} (htr : l.stackTraces = false) (a1 : Int32) (a2 : Int32) (M : Mm) (r : (Int32 × Mm)) (hf : f_L_at a1 a2 M = some r) : CW E l 8 3 18 yL_at cL_at 5 (some .int) [((0), (10), (13), (13))] [.ref (E.1 + 0), .int a1, .int a2, .ref (E.1 + 105)] M (some (.int r.1)) r.2 := by
  refine CW.of htr (by decide +kernel) (Nat.le_of_ble_eq_true rfl) ?_
  intro K hE hL hl hR0 C hr hT hRv
  subst hE
  subst hl
  have C : Cx K cL_at RL 8 := C
  have hRc : 3 ≤ K.1.R.cells ∧ 18 ≤ K.1.R.slots := by rw [hR0]; exact ⟨Nat.le_refl _, Nat.le_refl _⟩
  have hL4 : 4 < K.2.2.1 := by rw [hL]; decide
  show G K (0, 0) 0 [(0, .ref (K.2.1.1 + 0)), (1, .int a1), (2, .int a2), (3, .ref (K.2.1.1 + 105))] [] M
  unfold f_L_at at hf
  refine g_aload_n 3 C (ckD_get k_L_at_0 0 rfl) rfl rfl ?_
  refine g_iconst (v := (0 : Int32)) C (ckD_get k_L_at_0 1 rfl) (by decide) ?_
  refine g_aload_n 0 C (ckD_get k_L_at_0 2 rfl) rfl rfl ?_
  refine g_iload_n 1 C (ckD_get k_L_at_0 3 rfl) rfl rfl ?_
  refine g_iload_n 2 C (ckD_get k_L_at_0 4 rfl) rfl rfl ?_
  obtain ⟨o_2, hr_1, hf⟩ := bd_e hf
  cases o_2 with
  | none =>
    have hf := tr_n hf rfl
    refine n_cVCt [.int a1, .int a2] [.int (0 : Int32), .ref (K.2.1.1 + 105)] C (ckD_get k_L_at_0 5 rfl) vk_L_26 (t_X9_at C.tr _ _ _ _ hr_1) T0 rfl rfl (Nat.le_of_ble_eq_true rfl) (by decide) hRc hT rfl (by decide) q648 qh659 rfl ?_
    intro qq
    refine g_astore (lv' := [(4, _), (0, _), (1, _), (2, _), (3, _)]) C (ckD_get k_L_at_0 9 rfl) hL4 rfl ?_
    refine g_iconst (v := (1 : Int32)) C (ckD_get k_L_at_0 10 rfl) (by decide) ?_
    cases hf
    exact g_iret C (ckD_get k_L_at_0 11 rfl) hr hRv (by decide) (by decide)
  | some r_3 =>
    have hf := tr_s hf rfl
    refine n_cVCr [.int a1, .int a2] [.int (0 : Int32), .ref (K.2.1.1 + 105)] C (ckD_get k_L_at_0 5 rfl) vk_L_26 (t_X9_at C.tr _ _ _ _ hr_1) T0 rfl rfl (Nat.le_of_ble_eq_true rfl) (by decide) hRc hT rfl (by decide) q648 qh659 rfl rfl ?_
    refine g_i2l C (ckD_get k_L_at_0 6 rfl) ?_
    obtain ⟨M_4, hi_5, eM_4, hf⟩ := wrL_e hf
    refine n_last C (ckD_get k_L_at_0 7 rfl) T105 hi_5 eM_4 ?_
    refine g_goto C (ckD_get k_L_at_0 8 rfl) ?_
    refine g_iconst (v := (0 : Int32)) C (ckD_get k_L_at_0 12 rfl) (by decide) ?_
    cases hf
    exact g_iret C (ckD_get k_L_at_0 13 rfl) hr hRv (by decide) (by decide)

set_option maxRecDepth 20000 in
theorem k_L_told_0 : ckD cL_told [(0, .aload_n 2, 1, 1, 0), (1, .iconst 0, 1, 2, 0), (2, .aload_n 0, 1, 3, 0), (3, .iload_n 1, 1, 4, 0), (4, .invokevirtual 29, 3, 7, 0), (7, .lastore, 1, 8, 0), (8, .goto 6, 3, 11, 14), (11, .astore_n 3, 1, 12, 0), (12, .iconst 1, 1, 13, 0), (13, .ireturn, 1, 14, 0), (14, .iconst 0, 1, 15, 0), (15, .ireturn, 1, 16, 0)] = true := by decide +kernel
def f_L_told (a1 : Int32) (M : Mm) : Option (Int32 × Mm) := (f_X9_told a1 M).bind fun o_2 => tr1 o_2 (some ((1 : Int32), M)) fun r_3 => wrL 1 M 105 (0 : Int32) r_3 fun M_4 => some ((0 : Int32), M_4)
set_option maxRecDepth 100000 in
set_option maxHeartbeats 4000000 in
theorem t_L_told {E : Ev} {l : Launch} (htr : l.stackTraces = false) (a1 : Int32) (M : Mm) (r : (Int32 × Mm)) (hf : f_L_told a1 M = some r) : CW E l 8 1 6 yL_told cL_told 4 (some .int) [((0), (8), (11), (13))] [.ref (E.1 + 0), .int a1, .ref (E.1 + 105)] M (some (.int r.1)) r.2 := by
  refine CW.of htr (by decide +kernel) (Nat.le_of_ble_eq_true rfl) ?_
  intro K hE hL hl hR0 C hr hT hRv
  subst hE
  subst hl
  have C : Cx K cL_told RL 8 := C
  have hRc : 1 ≤ K.1.R.cells ∧ 6 ≤ K.1.R.slots := by rw [hR0]; exact ⟨Nat.le_refl _, Nat.le_refl _⟩
  have hL3 : 3 < K.2.2.1 := by rw [hL]; decide
  show G K (0, 0) 0 [(0, .ref (K.2.1.1 + 0)), (1, .int a1), (2, .ref (K.2.1.1 + 105))] [] M
  unfold f_L_told at hf
  refine g_aload_n 2 C (ckD_get k_L_told_0 0 rfl) rfl rfl ?_
  refine g_iconst (v := (0 : Int32)) C (ckD_get k_L_told_0 1 rfl) (by decide) ?_
  refine g_aload_n 0 C (ckD_get k_L_told_0 2 rfl) rfl rfl ?_
  refine g_iload_n 1 C (ckD_get k_L_told_0 3 rfl) rfl rfl ?_
  obtain ⟨o_2, hr_1, hf⟩ := bd_e hf
  cases o_2 with
  | none =>
    have hf := tr_n hf rfl
    refine n_cVCt [.int a1] [.int (0 : Int32), .ref (K.2.1.1 + 105)] C (ckD_get k_L_told_0 4 rfl) vk_L_29 (t_X9_told C.tr _ _ _ hr_1) T0 rfl rfl (Nat.le_of_ble_eq_true rfl) (by decide) hRc hT rfl (by decide) q648 qh659 rfl ?_
    intro qq
    refine g_astore_n (lv' := [(3, _), (0, _), (1, _), (2, _)]) C (ckD_get k_L_told_0 7 rfl) rfl hL3 rfl ?_
    refine g_iconst (v := (1 : Int32)) C (ckD_get k_L_told_0 8 rfl) (by decide) ?_
    cases hf
    exact g_iret C (ckD_get k_L_told_0 9 rfl) hr hRv (by decide) (by decide)
  | some r_3 =>
    have hf := tr_s hf rfl
    refine n_cVCr [.int a1] [.int (0 : Int32), .ref (K.2.1.1 + 105)] C (ckD_get k_L_told_0 4 rfl) vk_L_29 (t_X9_told C.tr _ _ _ hr_1) T0 rfl rfl (Nat.le_of_ble_eq_true rfl) (by decide) hRc hT rfl (by decide) q648 qh659 rfl rfl ?_
    obtain ⟨M_4, hi_5, eM_4, hf⟩ := wrL_e hf
    refine n_last C (ckD_get k_L_told_0 5 rfl) T105 hi_5 eM_4 ?_
    refine g_goto C (ckD_get k_L_told_0 6 rfl) ?_
    refine g_iconst (v := (0 : Int32)) C (ckD_get k_L_told_0 10 rfl) (by decide) ?_
    cases hf
    exact g_iret C (ckD_get k_L_told_0 11 rfl) hr hRv (by decide) (by decide)

set_option maxRecDepth 20000 in
theorem k_L_slack_0 : ckD cL_slack [(0, .aload_n 3, 1, 1, 0), (1, .iconst 0, 1, 2, 0), (2, .aload_n 0, 1, 3, 0), (3, .iload_n 1, 1, 4, 0), (4, .iload_n 2, 1, 5, 0), (5, .invokevirtual 33, 3, 8, 0), (8, .i2l, 1, 9, 0), (9, .lastore, 1, 10, 0), (10, .goto 7, 3, 13, 17), (13, .astore 4, 2, 15, 0), (15, .iconst 1, 1, 16, 0), (16, .ireturn, 1, 17, 0), (17, .iconst 0, 1, 18, 0), (18, .ireturn, 1, 19, 0)] = true := by decide +kernel
def f_L_slack (a1 : Int32) (a2 : Int32) (M : Mm) : Option (Int32 × Mm) := bd2 (f_X9_slack a1 a2 M) fun o_2 M_3 => tr1 o_2 (some ((1 : Int32), M_3)) fun r_4 => wrL 1 M_3 105 (0 : Int32) ((r_4).toInt64) fun M_5 => some ((0 : Int32), M_5)
set_option maxRecDepth 100000 in
set_option maxHeartbeats 4000000 in
theorem t_L_slack {E : Ev} {l : Launch} (htr : l.stackTraces = false) (a1 : Int32) (a2 : Int32) (M : Mm) (r : (Int32 × Mm)) (hf : f_L_slack a1 a2 M = some r) : CW E l 8 3 18 yL_slack cL_slack 5 (some .int) [((0), (10), (13), (13))] [.ref (E.1 + 0), .int a1, .int a2, .ref (E.1 + 105)] M (some (.int r.1)) r.2 := by
  refine CW.of htr (by decide +kernel) (Nat.le_of_ble_eq_true rfl) ?_
  intro K hE hL hl hR0 C hr hT hRv
  subst hE
  subst hl
  have C : Cx K cL_slack RL 8 := C
  have hRc : 3 ≤ K.1.R.cells ∧ 18 ≤ K.1.R.slots := by rw [hR0]; exact ⟨Nat.le_refl _, Nat.le_refl _⟩
  have hL4 : 4 < K.2.2.1 := by rw [hL]; decide
  show G K (0, 0) 0 [(0, .ref (K.2.1.1 + 0)), (1, .int a1), (2, .int a2), (3, .ref (K.2.1.1 + 105))] [] M
  unfold f_L_slack at hf
  refine g_aload_n 3 C (ckD_get k_L_slack_0 0 rfl) rfl rfl ?_
  refine g_iconst (v := (0 : Int32)) C (ckD_get k_L_slack_0 1 rfl) (by decide) ?_
  refine g_aload_n 0 C (ckD_get k_L_slack_0 2 rfl) rfl rfl ?_
  refine g_iload_n 1 C (ckD_get k_L_slack_0 3 rfl) rfl rfl ?_
  refine g_iload_n 2 C (ckD_get k_L_slack_0 4 rfl) rfl rfl ?_
  obtain ⟨o_2, M_3, hr_1, hf⟩ := bd2_e hf
  cases o_2 with
  | none =>
    have hf := tr_n hf rfl
    refine n_cVCt [.int a1, .int a2] [.int (0 : Int32), .ref (K.2.1.1 + 105)] C (ckD_get k_L_slack_0 5 rfl) vk_L_33 (t_X9_slack C.tr _ _ _ _ hr_1) T0 rfl rfl (Nat.le_of_ble_eq_true rfl) (by decide) hRc hT rfl (by decide) q648 qh659 rfl ?_
    intro qq
    refine g_astore (lv' := [(4, _), (0, _), (1, _), (2, _), (3, _)]) C (ckD_get k_L_slack_0 9 rfl) hL4 rfl ?_
    refine g_iconst (v := (1 : Int32)) C (ckD_get k_L_slack_0 10 rfl) (by decide) ?_
    cases hf
    exact g_iret C (ckD_get k_L_slack_0 11 rfl) hr hRv (by decide) (by decide)
  | some r_4 =>
    have hf := tr_s hf rfl
    refine n_cVCr [.int a1, .int a2] [.int (0 : Int32), .ref (K.2.1.1 + 105)] C (ckD_get k_L_slack_0 5 rfl) vk_L_33 (t_X9_slack C.tr _ _ _ _ hr_1) T0 rfl rfl (Nat.le_of_ble_eq_true rfl) (by decide) hRc hT rfl (by decide) q648 qh659 rfl rfl ?_
    refine g_i2l C (ckD_get k_L_slack_0 6 rfl) ?_
    obtain ⟨M_5, hi_6, eM_5, hf⟩ := wrL_e hf
    refine n_last C (ckD_get k_L_slack_0 7 rfl) T105 hi_6 eM_5 ?_
    refine g_goto C (ckD_get k_L_slack_0 8 rfl) ?_
    refine g_iconst (v := (0 : Int32)) C (ckD_get k_L_slack_0 12 rfl) (by decide) ?_
    cases hf
    exact g_iret C (ckD_get k_L_slack_0 13 rfl) hr hRv (by decide) (by decide)

set_option maxRecDepth 20000 in
theorem k_L_wires_0 : ckD cL_wires [(0, .aload_n 1, 1, 1, 0), (1, .iconst 0, 1, 2, 0), (2, .aload_n 0, 1, 3, 0), (3, .invokevirtual 36, 3, 6, 0), (6, .i2l, 1, 7, 0), (7, .lastore, 1, 8, 0), (8, .goto 6, 3, 11, 14), (11, .astore_n 2, 1, 12, 0), (12, .iconst 1, 1, 13, 0), (13, .ireturn, 1, 14, 0), (14, .iconst 0, 1, 15, 0), (15, .ireturn, 1, 16, 0)] = true := by decide +kernel
def f_L_wires  (M : Mm) : Option (Int32 × Mm) := (f_X9_wires M).bind fun o_2 => tr1 o_2 (some ((1 : Int32), M)) fun r_3 => wrL 1 M 105 (0 : Int32) ((r_3).toInt64) fun M_4 => some ((0 : Int32), M_4)
set_option maxRecDepth 100000 in
set_option maxHeartbeats 4000000 in
theorem t_L_wires {E : Ev} {l : Launch} (htr : l.stackTraces = false) (M : Mm) (r : (Int32 × Mm)) (hf : f_L_wires M = some r) : CW E l 8 1 6 yL_wires cL_wires 3 (some .int) [((0), (8), (11), (13))] [.ref (E.1 + 0), .ref (E.1 + 105)] M (some (.int r.1)) r.2 := by
  refine CW.of htr (by decide +kernel) (Nat.le_of_ble_eq_true rfl) ?_
  intro K hE hL hl hR0 C hr hT hRv
  subst hE
  subst hl
  have C : Cx K cL_wires RL 8 := C
  have hRc : 1 ≤ K.1.R.cells ∧ 6 ≤ K.1.R.slots := by rw [hR0]; exact ⟨Nat.le_refl _, Nat.le_refl _⟩
  have hL2 : 2 < K.2.2.1 := by rw [hL]; decide
  show G K (0, 0) 0 [(0, .ref (K.2.1.1 + 0)), (1, .ref (K.2.1.1 + 105))] [] M
  unfold f_L_wires at hf
  refine g_aload_n 1 C (ckD_get k_L_wires_0 0 rfl) rfl rfl ?_
  refine g_iconst (v := (0 : Int32)) C (ckD_get k_L_wires_0 1 rfl) (by decide) ?_
  refine g_aload_n 0 C (ckD_get k_L_wires_0 2 rfl) rfl rfl ?_
  obtain ⟨o_2, hr_1, hf⟩ := bd_e hf
  cases o_2 with
  | none =>
    have hf := tr_n hf rfl
    refine n_cVCt [] [.int (0 : Int32), .ref (K.2.1.1 + 105)] C (ckD_get k_L_wires_0 3 rfl) vk_L_36 (t_X9_wires C.tr _ _ hr_1) T0 rfl rfl (Nat.le_of_ble_eq_true rfl) (by decide) hRc hT rfl (by decide) q648 qh659 rfl ?_
    intro qq
    refine g_astore_n (lv' := [(2, _), (0, _), (1, _)]) C (ckD_get k_L_wires_0 7 rfl) rfl hL2 rfl ?_
    refine g_iconst (v := (1 : Int32)) C (ckD_get k_L_wires_0 8 rfl) (by decide) ?_
    cases hf
    exact g_iret C (ckD_get k_L_wires_0 9 rfl) hr hRv (by decide) (by decide)
  | some r_3 =>
    have hf := tr_s hf rfl
    refine n_cVCr [] [.int (0 : Int32), .ref (K.2.1.1 + 105)] C (ckD_get k_L_wires_0 3 rfl) vk_L_36 (t_X9_wires C.tr _ _ hr_1) T0 rfl rfl (Nat.le_of_ble_eq_true rfl) (by decide) hRc hT rfl (by decide) q648 qh659 rfl rfl ?_
    refine g_i2l C (ckD_get k_L_wires_0 4 rfl) ?_
    obtain ⟨M_4, hi_5, eM_4, hf⟩ := wrL_e hf
    refine n_last C (ckD_get k_L_wires_0 5 rfl) T105 hi_5 eM_4 ?_
    refine g_goto C (ckD_get k_L_wires_0 6 rfl) ?_
    refine g_iconst (v := (0 : Int32)) C (ckD_get k_L_wires_0 10 rfl) (by decide) ?_
    cases hf
    exact g_iret C (ckD_get k_L_wires_0 11 rfl) hr hRv (by decide) (by decide)

set_option maxRecDepth 20000 in
theorem k_L_isCut_0 : ckD cL_isCut [(0, .aload_n 1, 1, 1, 0), (1, .iconst 0, 1, 2, 0), (2, .aload_n 0, 1, 3, 0), (3, .invokevirtual 40, 3, 6, 0), (6, .ifCond .eq 7, 3, 9, 13), (9, .lconst 1, 1, 10, 0), (10, .goto 4, 3, 13, 14), (13, .lconst 0, 1, 14, 0), (14, .lastore, 1, 15, 0), (15, .goto 6, 3, 18, 21), (18, .astore_n 2, 1, 19, 0), (19, .iconst 1, 1, 20, 0), (20, .ireturn, 1, 21, 0), (21, .iconst 0, 1, 22, 0), (22, .ireturn, 1, 23, 0)] = true := by decide +kernel
def f_L_isCut_J14 (M_3 : Mm) (s_5 : Int64) : Option (Int32 × Mm) := wrL 1 M_3 105 (0 : Int32) s_5 fun M_6 => some ((0 : Int32), M_6)
def f_L_isCut  (M : Mm) : Option (Int32 × Mm) := bd2 (f_X9_isCut M) fun o_2 M_3 => tr1 o_2 (some ((1 : Int32), M_3)) fun r_4 => if r_4 = 0 then f_L_isCut_J14 M_3 (0 : Int64) else f_L_isCut_J14 M_3 (1 : Int64)
set_option maxRecDepth 100000 in
set_option maxHeartbeats 4000000 in
theorem t_L_isCut {E : Ev} {l : Launch} (htr : l.stackTraces = false) (M : Mm) (r : (Int32 × Mm)) (hf : f_L_isCut M = some r) : CW E l 8 1 6 yL_isCut cL_isCut 3 (some .int) [((0), (15), (18), (13))] [.ref (E.1 + 0), .ref (E.1 + 105)] M (some (.int r.1)) r.2 := by
  refine CW.of htr (by decide +kernel) (Nat.le_of_ble_eq_true rfl) ?_
  intro K hE hL hl hR0 C hr hT hRv
  subst hE
  subst hl
  have C : Cx K cL_isCut RL 8 := C
  have hRc : 1 ≤ K.1.R.cells ∧ 6 ≤ K.1.R.slots := by rw [hR0]; exact ⟨Nat.le_refl _, Nat.le_refl _⟩
  have hL2 : 2 < K.2.2.1 := by rw [hL]; decide
  show G K (0, 0) 0 [(0, .ref (K.2.1.1 + 0)), (1, .ref (K.2.1.1 + 105))] [] M
  unfold f_L_isCut at hf
  refine g_aload_n 1 C (ckD_get k_L_isCut_0 0 rfl) rfl rfl ?_
  refine g_iconst (v := (0 : Int32)) C (ckD_get k_L_isCut_0 1 rfl) (by decide) ?_
  refine g_aload_n 0 C (ckD_get k_L_isCut_0 2 rfl) rfl rfl ?_
  obtain ⟨o_2, M_3, hr_1, hf⟩ := bd2_e hf
  cases o_2 with
  | none =>
    have hf := tr_n hf rfl
    refine n_cVCt [] [.int (0 : Int32), .ref (K.2.1.1 + 105)] C (ckD_get k_L_isCut_0 3 rfl) vk_L_40 (t_X9_isCut C.tr _ _ hr_1) T0 rfl rfl (Nat.le_of_ble_eq_true rfl) (by decide) hRc hT rfl (by decide) q648 qh659 rfl ?_
    intro qq
    refine g_astore_n (lv' := [(2, _), (0, _), (1, _)]) C (ckD_get k_L_isCut_0 10 rfl) rfl hL2 rfl ?_
    refine g_iconst (v := (1 : Int32)) C (ckD_get k_L_isCut_0 11 rfl) (by decide) ?_
    cases hf
    exact g_iret C (ckD_get k_L_isCut_0 12 rfl) hr hRv (by decide) (by decide)
  | some r_4 =>
    have hf := tr_s hf rfl
    refine n_cVCr [] [.int (0 : Int32), .ref (K.2.1.1 + 105)] C (ckD_get k_L_isCut_0 3 rfl) vk_L_40 (t_X9_isCut C.tr _ _ hr_1) T0 rfl rfl (Nat.le_of_ble_eq_true rfl) (by decide) hRc hT rfl (by decide) q648 qh659 rfl rfl ?_
    have hJ_14 : ∀ (s_5 : Int64), f_L_isCut_J14 M_3 s_5 = some r → G K (1, 6) 14 [] [.long s_5, .int (0 : Int32), .ref (K.2.1.1 + 105)] M_3 := by
      intro s_5 hf
      unfold f_L_isCut_J14 at hf
      obtain ⟨M_6, hi_7, eM_6, hf⟩ := wrL_e hf
      refine n_last C (ckD_get k_L_isCut_0 8 rfl) T105 hi_7 eM_6 ?_
      refine g_goto C (ckD_get k_L_isCut_0 9 rfl) ?_
      refine g_iconst (v := (0 : Int32)) C (ckD_get k_L_isCut_0 13 rfl) (by decide) ?_
      cases hf
      exact g_iret C (ckD_get k_L_isCut_0 14 rfl) hr hRv (by decide) (by decide)
    refine g_if_eq C (ckD_get k_L_isCut_0 4 rfl) (fun c_8 => ?_) (fun c_8 => ?_)
    · have hf := if_t hf c_8
      refine g_lconst (v := (0 : Int64)) C (ckD_get k_L_isCut_0 7 rfl) (by decide) ?_
      refine G.sub [] rfl ?_
      exact hJ_14 _ hf
    · have hf := if_f hf c_8
      refine g_lconst (v := (1 : Int64)) C (ckD_get k_L_isCut_0 5 rfl) (by decide) ?_
      refine g_goto C (ckD_get k_L_isCut_0 6 rfl) ?_
      refine G.sub [] rfl ?_
      exact hJ_14 _ hf

set_option maxRecDepth 20000 in
theorem k_L_normal_0 : ckD cL_normal [(0, .aload_n 1, 1, 1, 0), (1, .iconst 0, 1, 2, 0), (2, .aload_n 0, 1, 3, 0), (3, .invokevirtual 44, 3, 6, 0), (6, .i2l, 1, 7, 0), (7, .lastore, 1, 8, 0), (8, .goto 6, 3, 11, 14), (11, .astore_n 2, 1, 12, 0), (12, .iconst 1, 1, 13, 0), (13, .ireturn, 1, 14, 0), (14, .iconst 0, 1, 15, 0), (15, .ireturn, 1, 16, 0)] = true := by decide +kernel
def f_L_normal  (M : Mm) : Option (Int32 × Mm) := bd2 (f_X9_normal M) fun o_2 M_3 => tr1 o_2 (some ((1 : Int32), M_3)) fun r_4 => wrL 1 M_3 105 (0 : Int32) ((r_4).toInt64) fun M_5 => some ((0 : Int32), M_5)
set_option maxRecDepth 100000 in
set_option maxHeartbeats 4000000 in
theorem t_L_normal {E : Ev} {l : Launch} (htr : l.stackTraces = false) (M : Mm) (r : (Int32 × Mm)) (hf : f_L_normal M = some r) : CW E l 8 1 6 yL_normal cL_normal 3 (some .int) [((0), (8), (11), (13))] [.ref (E.1 + 0), .ref (E.1 + 105)] M (some (.int r.1)) r.2 := by
  refine CW.of htr (by decide +kernel) (Nat.le_of_ble_eq_true rfl) ?_
  intro K hE hL hl hR0 C hr hT hRv
  subst hE
  subst hl
  have C : Cx K cL_normal RL 8 := C
  have hRc : 1 ≤ K.1.R.cells ∧ 6 ≤ K.1.R.slots := by rw [hR0]; exact ⟨Nat.le_refl _, Nat.le_refl _⟩
  have hL2 : 2 < K.2.2.1 := by rw [hL]; decide
  show G K (0, 0) 0 [(0, .ref (K.2.1.1 + 0)), (1, .ref (K.2.1.1 + 105))] [] M
  unfold f_L_normal at hf
  refine g_aload_n 1 C (ckD_get k_L_normal_0 0 rfl) rfl rfl ?_
  refine g_iconst (v := (0 : Int32)) C (ckD_get k_L_normal_0 1 rfl) (by decide) ?_
  refine g_aload_n 0 C (ckD_get k_L_normal_0 2 rfl) rfl rfl ?_
  obtain ⟨o_2, M_3, hr_1, hf⟩ := bd2_e hf
  cases o_2 with
  | none =>
    have hf := tr_n hf rfl
    refine n_cVCt [] [.int (0 : Int32), .ref (K.2.1.1 + 105)] C (ckD_get k_L_normal_0 3 rfl) vk_L_44 (t_X9_normal C.tr _ _ hr_1) T0 rfl rfl (Nat.le_of_ble_eq_true rfl) (by decide) hRc hT rfl (by decide) q648 qh659 rfl ?_
    intro qq
    refine g_astore_n (lv' := [(2, _), (0, _), (1, _)]) C (ckD_get k_L_normal_0 7 rfl) rfl hL2 rfl ?_
    refine g_iconst (v := (1 : Int32)) C (ckD_get k_L_normal_0 8 rfl) (by decide) ?_
    cases hf
    exact g_iret C (ckD_get k_L_normal_0 9 rfl) hr hRv (by decide) (by decide)
  | some r_4 =>
    have hf := tr_s hf rfl
    refine n_cVCr [] [.int (0 : Int32), .ref (K.2.1.1 + 105)] C (ckD_get k_L_normal_0 3 rfl) vk_L_44 (t_X9_normal C.tr _ _ hr_1) T0 rfl rfl (Nat.le_of_ble_eq_true rfl) (by decide) hRc hT rfl (by decide) q648 qh659 rfl rfl ?_
    refine g_i2l C (ckD_get k_L_normal_0 4 rfl) ?_
    obtain ⟨M_5, hi_6, eM_5, hf⟩ := wrL_e hf
    refine n_last C (ckD_get k_L_normal_0 5 rfl) T105 hi_6 eM_5 ?_
    refine g_goto C (ckD_get k_L_normal_0 6 rfl) ?_
    refine g_iconst (v := (0 : Int32)) C (ckD_get k_L_normal_0 10 rfl) (by decide) ?_
    cases hf
    exact g_iret C (ckD_get k_L_normal_0 11 rfl) hr hRv (by decide) (by decide)

set_option maxRecDepth 20000 in
theorem k_L_curve_0 : ckD cL_curve [(0, .aload_n 1, 1, 1, 0), (1, .iconst 0, 1, 2, 0), (2, .aload_n 0, 1, 3, 0), (3, .invokevirtual 47, 3, 6, 0), (6, .i2l, 1, 7, 0), (7, .lastore, 1, 8, 0), (8, .goto 6, 3, 11, 14), (11, .astore_n 2, 1, 12, 0), (12, .iconst 1, 1, 13, 0), (13, .ireturn, 1, 14, 0), (14, .iconst 0, 1, 15, 0), (15, .ireturn, 1, 16, 0)] = true := by decide +kernel
def f_L_curve  (M : Mm) : Option (Int32 × Mm) := bd2 (f_X9_curve M) fun o_2 M_3 => tr1 o_2 (some ((1 : Int32), M_3)) fun r_4 => wrL 1 M_3 105 (0 : Int32) ((r_4).toInt64) fun M_5 => some ((0 : Int32), M_5)
set_option maxRecDepth 100000 in
set_option maxHeartbeats 4000000 in
theorem t_L_curve {E : Ev} {l : Launch} (htr : l.stackTraces = false) (M : Mm) (r : (Int32 × Mm)) (hf : f_L_curve M = some r) : CW E l 8 1 6 yL_curve cL_curve 3 (some .int) [((0), (8), (11), (13))] [.ref (E.1 + 0), .ref (E.1 + 105)] M (some (.int r.1)) r.2 := by
  refine CW.of htr (by decide +kernel) (Nat.le_of_ble_eq_true rfl) ?_
  intro K hE hL hl hR0 C hr hT hRv
  subst hE
  subst hl
  have C : Cx K cL_curve RL 8 := C
  have hRc : 1 ≤ K.1.R.cells ∧ 6 ≤ K.1.R.slots := by rw [hR0]; exact ⟨Nat.le_refl _, Nat.le_refl _⟩
  have hL2 : 2 < K.2.2.1 := by rw [hL]; decide
  show G K (0, 0) 0 [(0, .ref (K.2.1.1 + 0)), (1, .ref (K.2.1.1 + 105))] [] M
  unfold f_L_curve at hf
  refine g_aload_n 1 C (ckD_get k_L_curve_0 0 rfl) rfl rfl ?_
  refine g_iconst (v := (0 : Int32)) C (ckD_get k_L_curve_0 1 rfl) (by decide) ?_
  refine g_aload_n 0 C (ckD_get k_L_curve_0 2 rfl) rfl rfl ?_
  obtain ⟨o_2, M_3, hr_1, hf⟩ := bd2_e hf
  cases o_2 with
  | none =>
    have hf := tr_n hf rfl
    refine n_cVCt [] [.int (0 : Int32), .ref (K.2.1.1 + 105)] C (ckD_get k_L_curve_0 3 rfl) vk_L_47 (t_X9_curve C.tr _ _ hr_1) T0 rfl rfl (Nat.le_of_ble_eq_true rfl) (by decide) hRc hT rfl (by decide) q648 qh659 rfl ?_
    intro qq
    refine g_astore_n (lv' := [(2, _), (0, _), (1, _)]) C (ckD_get k_L_curve_0 7 rfl) rfl hL2 rfl ?_
    refine g_iconst (v := (1 : Int32)) C (ckD_get k_L_curve_0 8 rfl) (by decide) ?_
    cases hf
    exact g_iret C (ckD_get k_L_curve_0 9 rfl) hr hRv (by decide) (by decide)
  | some r_4 =>
    have hf := tr_s hf rfl
    refine n_cVCr [] [.int (0 : Int32), .ref (K.2.1.1 + 105)] C (ckD_get k_L_curve_0 3 rfl) vk_L_47 (t_X9_curve C.tr _ _ hr_1) T0 rfl rfl (Nat.le_of_ble_eq_true rfl) (by decide) hRc hT rfl (by decide) q648 qh659 rfl rfl ?_
    refine g_i2l C (ckD_get k_L_curve_0 4 rfl) ?_
    obtain ⟨M_5, hi_6, eM_5, hf⟩ := wrL_e hf
    refine n_last C (ckD_get k_L_curve_0 5 rfl) T105 hi_6 eM_5 ?_
    refine g_goto C (ckD_get k_L_curve_0 6 rfl) ?_
    refine g_iconst (v := (0 : Int32)) C (ckD_get k_L_curve_0 10 rfl) (by decide) ?_
    cases hf
    exact g_iret C (ckD_get k_L_curve_0 11 rfl) hr hRv (by decide) (by decide)

set_option maxRecDepth 20000 in
theorem k_L_shape_0 : ckD cL_shape [(0, .aload_n 3, 1, 1, 0), (1, .iconst 0, 1, 2, 0), (2, .aload_n 0, 1, 3, 0), (3, .iload_n 1, 1, 4, 0), (4, .iload_n 2, 1, 5, 0), (5, .invokevirtual 50, 3, 8, 0), (8, .i2l, 1, 9, 0), (9, .lastore, 1, 10, 0), (10, .goto 7, 3, 13, 17), (13, .astore 4, 2, 15, 0), (15, .iconst 1, 1, 16, 0), (16, .ireturn, 1, 17, 0), (17, .iconst 0, 1, 18, 0), (18, .ireturn, 1, 19, 0)] = true := by decide +kernel
def f_L_shape (a1 : Int32) (a2 : Int32) (M : Mm) : Option (Int32 × Mm) := bd2 (f_X9_shape a1 a2 M) fun o_2 M_3 => tr1 o_2 (some ((1 : Int32), M_3)) fun r_4 => wrL 1 M_3 105 (0 : Int32) ((r_4).toInt64) fun M_5 => some ((0 : Int32), M_5)
set_option maxRecDepth 100000 in
set_option maxHeartbeats 4000000 in
theorem t_L_shape {E : Ev} {l : Launch} (htr : l.stackTraces = false) (a1 : Int32) (a2 : Int32) (M : Mm) (r : (Int32 × Mm)) (hf : f_L_shape a1 a2 M = some r) : CW E l 9 3 18 yL_shape cL_shape 5 (some .int) [((0), (10), (13), (13))] [.ref (E.1 + 0), .int a1, .int a2, .ref (E.1 + 105)] M (some (.int r.1)) r.2 := by
  refine CW.of htr (by decide +kernel) (Nat.le_of_ble_eq_true rfl) ?_
  intro K hE hL hl hR0 C hr hT hRv
  subst hE
  subst hl
  have C : Cx K cL_shape RL 9 := C
  have hRc : 3 ≤ K.1.R.cells ∧ 18 ≤ K.1.R.slots := by rw [hR0]; exact ⟨Nat.le_refl _, Nat.le_refl _⟩
  have hL4 : 4 < K.2.2.1 := by rw [hL]; decide
  show G K (0, 0) 0 [(0, .ref (K.2.1.1 + 0)), (1, .int a1), (2, .int a2), (3, .ref (K.2.1.1 + 105))] [] M
  unfold f_L_shape at hf
  refine g_aload_n 3 C (ckD_get k_L_shape_0 0 rfl) rfl rfl ?_
  refine g_iconst (v := (0 : Int32)) C (ckD_get k_L_shape_0 1 rfl) (by decide) ?_
  refine g_aload_n 0 C (ckD_get k_L_shape_0 2 rfl) rfl rfl ?_
  refine g_iload_n 1 C (ckD_get k_L_shape_0 3 rfl) rfl rfl ?_
  refine g_iload_n 2 C (ckD_get k_L_shape_0 4 rfl) rfl rfl ?_
  obtain ⟨o_2, M_3, hr_1, hf⟩ := bd2_e hf
  cases o_2 with
  | none =>
    have hf := tr_n hf rfl
    refine n_cVCt [.int a1, .int a2] [.int (0 : Int32), .ref (K.2.1.1 + 105)] C (ckD_get k_L_shape_0 5 rfl) vk_L_50 (t_X9_shape C.tr _ _ _ _ hr_1) T0 rfl rfl (Nat.le_of_ble_eq_true rfl) (by decide) hRc hT rfl (by decide) q648 qh659 rfl ?_
    intro qq
    refine g_astore (lv' := [(4, _), (0, _), (1, _), (2, _), (3, _)]) C (ckD_get k_L_shape_0 9 rfl) hL4 rfl ?_
    refine g_iconst (v := (1 : Int32)) C (ckD_get k_L_shape_0 10 rfl) (by decide) ?_
    cases hf
    exact g_iret C (ckD_get k_L_shape_0 11 rfl) hr hRv (by decide) (by decide)
  | some r_4 =>
    have hf := tr_s hf rfl
    refine n_cVCr [.int a1, .int a2] [.int (0 : Int32), .ref (K.2.1.1 + 105)] C (ckD_get k_L_shape_0 5 rfl) vk_L_50 (t_X9_shape C.tr _ _ _ _ hr_1) T0 rfl rfl (Nat.le_of_ble_eq_true rfl) (by decide) hRc hT rfl (by decide) q648 qh659 rfl rfl ?_
    refine g_i2l C (ckD_get k_L_shape_0 6 rfl) ?_
    obtain ⟨M_5, hi_6, eM_5, hf⟩ := wrL_e hf
    refine n_last C (ckD_get k_L_shape_0 7 rfl) T105 hi_6 eM_5 ?_
    refine g_goto C (ckD_get k_L_shape_0 8 rfl) ?_
    refine g_iconst (v := (0 : Int32)) C (ckD_get k_L_shape_0 12 rfl) (by decide) ?_
    cases hf
    exact g_iret C (ckD_get k_L_shape_0 13 rfl) hr hRv (by decide) (by decide)

set_option maxRecDepth 20000 in
theorem k_L_best_0 : ckD cL_best [(0, .aload_n 2, 1, 1, 0), (1, .iconst 0, 1, 2, 0), (2, .aload_n 0, 1, 3, 0), (3, .iload_n 1, 1, 4, 0), (4, .invokevirtual 53, 3, 7, 0), (7, .i2l, 1, 8, 0), (8, .lastore, 1, 9, 0), (9, .goto 6, 3, 12, 15), (12, .astore_n 3, 1, 13, 0), (13, .iconst 1, 1, 14, 0), (14, .ireturn, 1, 15, 0), (15, .iconst 0, 1, 16, 0), (16, .ireturn, 1, 17, 0)] = true := by decide +kernel
def f_L_best (a1 : Int32) (M : Mm) : Option (Int32 × Mm) := bd2 (f_X9_best a1 M) fun o_2 M_3 => tr1 o_2 (some ((1 : Int32), M_3)) fun r_4 => wrL 1 M_3 105 (0 : Int32) ((r_4).toInt64) fun M_5 => some ((0 : Int32), M_5)
set_option maxRecDepth 100000 in
set_option maxHeartbeats 4000000 in
theorem t_L_best {E : Ev} {l : Launch} (htr : l.stackTraces = false) (a1 : Int32) (M : Mm) (r : (Int32 × Mm)) (hf : f_L_best a1 M = some r) : CW E l 9 2 12 yL_best cL_best 4 (some .int) [((0), (9), (12), (13))] [.ref (E.1 + 0), .int a1, .ref (E.1 + 105)] M (some (.int r.1)) r.2 := by
  refine CW.of htr (by decide +kernel) (Nat.le_of_ble_eq_true rfl) ?_
  intro K hE hL hl hR0 C hr hT hRv
  subst hE
  subst hl
  have C : Cx K cL_best RL 9 := C
  have hRc : 2 ≤ K.1.R.cells ∧ 12 ≤ K.1.R.slots := by rw [hR0]; exact ⟨Nat.le_refl _, Nat.le_refl _⟩
  have hL3 : 3 < K.2.2.1 := by rw [hL]; decide
  show G K (0, 0) 0 [(0, .ref (K.2.1.1 + 0)), (1, .int a1), (2, .ref (K.2.1.1 + 105))] [] M
  unfold f_L_best at hf
  refine g_aload_n 2 C (ckD_get k_L_best_0 0 rfl) rfl rfl ?_
  refine g_iconst (v := (0 : Int32)) C (ckD_get k_L_best_0 1 rfl) (by decide) ?_
  refine g_aload_n 0 C (ckD_get k_L_best_0 2 rfl) rfl rfl ?_
  refine g_iload_n 1 C (ckD_get k_L_best_0 3 rfl) rfl rfl ?_
  obtain ⟨o_2, M_3, hr_1, hf⟩ := bd2_e hf
  cases o_2 with
  | none =>
    have hf := tr_n hf rfl
    refine n_cVCt [.int a1] [.int (0 : Int32), .ref (K.2.1.1 + 105)] C (ckD_get k_L_best_0 4 rfl) vk_L_53 (t_X9_best C.tr _ _ _ hr_1) T0 rfl rfl (Nat.le_of_ble_eq_true rfl) (by decide) hRc hT rfl (by decide) q648 qh659 rfl ?_
    intro qq
    refine g_astore_n (lv' := [(3, _), (0, _), (1, _), (2, _)]) C (ckD_get k_L_best_0 8 rfl) rfl hL3 rfl ?_
    refine g_iconst (v := (1 : Int32)) C (ckD_get k_L_best_0 9 rfl) (by decide) ?_
    cases hf
    exact g_iret C (ckD_get k_L_best_0 10 rfl) hr hRv (by decide) (by decide)
  | some r_4 =>
    have hf := tr_s hf rfl
    refine n_cVCr [.int a1] [.int (0 : Int32), .ref (K.2.1.1 + 105)] C (ckD_get k_L_best_0 4 rfl) vk_L_53 (t_X9_best C.tr _ _ _ hr_1) T0 rfl rfl (Nat.le_of_ble_eq_true rfl) (by decide) hRc hT rfl (by decide) q648 qh659 rfl rfl ?_
    refine g_i2l C (ckD_get k_L_best_0 5 rfl) ?_
    obtain ⟨M_5, hi_6, eM_5, hf⟩ := wrL_e hf
    refine n_last C (ckD_get k_L_best_0 6 rfl) T105 hi_6 eM_5 ?_
    refine g_goto C (ckD_get k_L_best_0 7 rfl) ?_
    refine g_iconst (v := (0 : Int32)) C (ckD_get k_L_best_0 11 rfl) (by decide) ?_
    cases hf
    exact g_iret C (ckD_get k_L_best_0 12 rfl) hr hRv (by decide) (by decide)

set_option maxRecDepth 20000 in
theorem k_L_least_0 : ckD cL_least [(0, .aload_n 2, 1, 1, 0), (1, .iconst 0, 1, 2, 0), (2, .aload_n 0, 1, 3, 0), (3, .iload_n 1, 1, 4, 0), (4, .invokevirtual 56, 3, 7, 0), (7, .i2l, 1, 8, 0), (8, .lastore, 1, 9, 0), (9, .goto 6, 3, 12, 15), (12, .astore_n 3, 1, 13, 0), (13, .iconst 1, 1, 14, 0), (14, .ireturn, 1, 15, 0), (15, .iconst 0, 1, 16, 0), (16, .ireturn, 1, 17, 0)] = true := by decide +kernel
def f_L_least (a1 : Int32) (M : Mm) : Option (Int32 × Mm) := bd2 (f_X9_least a1 M) fun o_2 M_3 => tr1 o_2 (some ((1 : Int32), M_3)) fun r_4 => wrL 1 M_3 105 (0 : Int32) ((r_4).toInt64) fun M_5 => some ((0 : Int32), M_5)
set_option maxRecDepth 100000 in
set_option maxHeartbeats 4000000 in
theorem t_L_least {E : Ev} {l : Launch} (htr : l.stackTraces = false) (a1 : Int32) (M : Mm) (r : (Int32 × Mm)) (hf : f_L_least a1 M = some r) : CW E l 39 1 6 yL_least cL_least 4 (some .int) [((0), (9), (12), (13))] [.ref (E.1 + 0), .int a1, .ref (E.1 + 105)] M (some (.int r.1)) r.2 := by
  refine CW.of htr (by decide +kernel) (Nat.le_of_ble_eq_true rfl) ?_
  intro K hE hL hl hR0 C hr hT hRv
  subst hE
  subst hl
  have C : Cx K cL_least RL 39 := C
  have hRc : 1 ≤ K.1.R.cells ∧ 6 ≤ K.1.R.slots := by rw [hR0]; exact ⟨Nat.le_refl _, Nat.le_refl _⟩
  have hL3 : 3 < K.2.2.1 := by rw [hL]; decide
  show G K (0, 0) 0 [(0, .ref (K.2.1.1 + 0)), (1, .int a1), (2, .ref (K.2.1.1 + 105))] [] M
  unfold f_L_least at hf
  refine g_aload_n 2 C (ckD_get k_L_least_0 0 rfl) rfl rfl ?_
  refine g_iconst (v := (0 : Int32)) C (ckD_get k_L_least_0 1 rfl) (by decide) ?_
  refine g_aload_n 0 C (ckD_get k_L_least_0 2 rfl) rfl rfl ?_
  refine g_iload_n 1 C (ckD_get k_L_least_0 3 rfl) rfl rfl ?_
  obtain ⟨o_2, M_3, hr_1, hf⟩ := bd2_e hf
  cases o_2 with
  | none =>
    have hf := tr_n hf rfl
    refine n_cVCt [.int a1] [.int (0 : Int32), .ref (K.2.1.1 + 105)] C (ckD_get k_L_least_0 4 rfl) vk_L_56 (t_X9_least C.tr _ _ _ hr_1) T0 rfl rfl (Nat.le_of_ble_eq_true rfl) (by decide) hRc hT rfl (by decide) q648 qh659 rfl ?_
    intro qq
    refine g_astore_n (lv' := [(3, _), (0, _), (1, _), (2, _)]) C (ckD_get k_L_least_0 8 rfl) rfl hL3 rfl ?_
    refine g_iconst (v := (1 : Int32)) C (ckD_get k_L_least_0 9 rfl) (by decide) ?_
    cases hf
    exact g_iret C (ckD_get k_L_least_0 10 rfl) hr hRv (by decide) (by decide)
  | some r_4 =>
    have hf := tr_s hf rfl
    refine n_cVCr [.int a1] [.int (0 : Int32), .ref (K.2.1.1 + 105)] C (ckD_get k_L_least_0 4 rfl) vk_L_56 (t_X9_least C.tr _ _ _ hr_1) T0 rfl rfl (Nat.le_of_ble_eq_true rfl) (by decide) hRc hT rfl (by decide) q648 qh659 rfl rfl ?_
    refine g_i2l C (ckD_get k_L_least_0 5 rfl) ?_
    obtain ⟨M_5, hi_6, eM_5, hf⟩ := wrL_e hf
    refine n_last C (ckD_get k_L_least_0 6 rfl) T105 hi_6 eM_5 ?_
    refine g_goto C (ckD_get k_L_least_0 7 rfl) ?_
    refine g_iconst (v := (0 : Int32)) C (ckD_get k_L_least_0 11 rfl) (by decide) ?_
    cases hf
    exact g_iret C (ckD_get k_L_least_0 12 rfl) hr hRv (by decide) (by decide)

set_option maxRecDepth 20000 in
theorem k_L_count_0 : ckD cL_count [(0, .aload_n 3, 1, 1, 0), (1, .iconst 0, 1, 2, 0), (2, .aload_n 0, 1, 3, 0), (3, .iload_n 1, 1, 4, 0), (4, .iload_n 2, 1, 5, 0), (5, .invokevirtual 59, 3, 8, 0), (8, .lastore, 1, 9, 0), (9, .goto 7, 3, 12, 16), (12, .astore 4, 2, 14, 0), (14, .iconst 1, 1, 15, 0), (15, .ireturn, 1, 16, 0), (16, .iconst 0, 1, 17, 0), (17, .ireturn, 1, 18, 0)] = true := by decide +kernel
def f_L_count (a1 : Int32) (a2 : Int32) (M : Mm) : Option (Int32 × Mm) := (f_X9_count a1 a2 M).bind fun o_2 => tr1 o_2 (some ((1 : Int32), M)) fun r_3 => wrL 1 M 105 (0 : Int32) r_3 fun M_4 => some ((0 : Int32), M_4)
set_option maxRecDepth 100000 in
set_option maxHeartbeats 4000000 in
theorem t_L_count {E : Ev} {l : Launch} (htr : l.stackTraces = false) (a1 : Int32) (a2 : Int32) (M : Mm) (r : (Int32 × Mm)) (hf : f_L_count a1 a2 M = some r) : CW E l 8 1 6 yL_count cL_count 5 (some .int) [((0), (9), (12), (13))] [.ref (E.1 + 0), .int a1, .int a2, .ref (E.1 + 105)] M (some (.int r.1)) r.2 := by
  refine CW.of htr (by decide +kernel) (Nat.le_of_ble_eq_true rfl) ?_
  intro K hE hL hl hR0 C hr hT hRv
  subst hE
  subst hl
  have C : Cx K cL_count RL 8 := C
  have hRc : 1 ≤ K.1.R.cells ∧ 6 ≤ K.1.R.slots := by rw [hR0]; exact ⟨Nat.le_refl _, Nat.le_refl _⟩
  have hL4 : 4 < K.2.2.1 := by rw [hL]; decide
  show G K (0, 0) 0 [(0, .ref (K.2.1.1 + 0)), (1, .int a1), (2, .int a2), (3, .ref (K.2.1.1 + 105))] [] M
  unfold f_L_count at hf
  refine g_aload_n 3 C (ckD_get k_L_count_0 0 rfl) rfl rfl ?_
  refine g_iconst (v := (0 : Int32)) C (ckD_get k_L_count_0 1 rfl) (by decide) ?_
  refine g_aload_n 0 C (ckD_get k_L_count_0 2 rfl) rfl rfl ?_
  refine g_iload_n 1 C (ckD_get k_L_count_0 3 rfl) rfl rfl ?_
  refine g_iload_n 2 C (ckD_get k_L_count_0 4 rfl) rfl rfl ?_
  obtain ⟨o_2, hr_1, hf⟩ := bd_e hf
  cases o_2 with
  | none =>
    have hf := tr_n hf rfl
    refine n_cVCt [.int a1, .int a2] [.int (0 : Int32), .ref (K.2.1.1 + 105)] C (ckD_get k_L_count_0 5 rfl) vk_L_59 (t_X9_count C.tr _ _ _ _ hr_1) T0 rfl rfl (Nat.le_of_ble_eq_true rfl) (by decide) hRc hT rfl (by decide) q648 qh659 rfl ?_
    intro qq
    refine g_astore (lv' := [(4, _), (0, _), (1, _), (2, _), (3, _)]) C (ckD_get k_L_count_0 8 rfl) hL4 rfl ?_
    refine g_iconst (v := (1 : Int32)) C (ckD_get k_L_count_0 9 rfl) (by decide) ?_
    cases hf
    exact g_iret C (ckD_get k_L_count_0 10 rfl) hr hRv (by decide) (by decide)
  | some r_3 =>
    have hf := tr_s hf rfl
    refine n_cVCr [.int a1, .int a2] [.int (0 : Int32), .ref (K.2.1.1 + 105)] C (ckD_get k_L_count_0 5 rfl) vk_L_59 (t_X9_count C.tr _ _ _ _ hr_1) T0 rfl rfl (Nat.le_of_ble_eq_true rfl) (by decide) hRc hT rfl (by decide) q648 qh659 rfl rfl ?_
    obtain ⟨M_4, hi_5, eM_4, hf⟩ := wrL_e hf
    refine n_last C (ckD_get k_L_count_0 6 rfl) T105 hi_5 eM_4 ?_
    refine g_goto C (ckD_get k_L_count_0 7 rfl) ?_
    refine g_iconst (v := (0 : Int32)) C (ckD_get k_L_count_0 11 rfl) (by decide) ?_
    cases hf
    exact g_iret C (ckD_get k_L_count_0 12 rfl) hr hRv (by decide) (by decide)

set_option maxRecDepth 20000 in
theorem k_L_rank_0 : ckD cL_rank [(0, .aload_n 1, 1, 1, 0), (1, .iconst 0, 1, 2, 0), (2, .aload_n 0, 1, 3, 0), (3, .invokevirtual 63, 3, 6, 0), (6, .lastore, 1, 7, 0), (7, .goto 6, 3, 10, 13), (10, .astore_n 2, 1, 11, 0), (11, .iconst 1, 1, 12, 0), (12, .ireturn, 1, 13, 0), (13, .iconst 0, 1, 14, 0), (14, .ireturn, 1, 15, 0)] = true := by decide +kernel
def f_L_rank  (M : Mm) : Option (Int32 × Mm) := (f_X9_rank M).bind fun o_2 => tr1 o_2 (some ((1 : Int32), M)) fun r_3 => wrL 1 M 105 (0 : Int32) r_3 fun M_4 => some ((0 : Int32), M_4)
set_option maxRecDepth 100000 in
set_option maxHeartbeats 4000000 in
theorem t_L_rank {E : Ev} {l : Launch} (htr : l.stackTraces = false) (M : Mm) (r : (Int32 × Mm)) (hf : f_L_rank M = some r) : CW E l 8 1 6 yL_rank cL_rank 3 (some .int) [((0), (7), (10), (13))] [.ref (E.1 + 0), .ref (E.1 + 105)] M (some (.int r.1)) r.2 := by
  refine CW.of htr (by decide +kernel) (Nat.le_of_ble_eq_true rfl) ?_
  intro K hE hL hl hR0 C hr hT hRv
  subst hE
  subst hl
  have C : Cx K cL_rank RL 8 := C
  have hRc : 1 ≤ K.1.R.cells ∧ 6 ≤ K.1.R.slots := by rw [hR0]; exact ⟨Nat.le_refl _, Nat.le_refl _⟩
  have hL2 : 2 < K.2.2.1 := by rw [hL]; decide
  show G K (0, 0) 0 [(0, .ref (K.2.1.1 + 0)), (1, .ref (K.2.1.1 + 105))] [] M
  unfold f_L_rank at hf
  refine g_aload_n 1 C (ckD_get k_L_rank_0 0 rfl) rfl rfl ?_
  refine g_iconst (v := (0 : Int32)) C (ckD_get k_L_rank_0 1 rfl) (by decide) ?_
  refine g_aload_n 0 C (ckD_get k_L_rank_0 2 rfl) rfl rfl ?_
  obtain ⟨o_2, hr_1, hf⟩ := bd_e hf
  cases o_2 with
  | none =>
    have hf := tr_n hf rfl
    refine n_cVCt [] [.int (0 : Int32), .ref (K.2.1.1 + 105)] C (ckD_get k_L_rank_0 3 rfl) vk_L_63 (t_X9_rank C.tr _ _ hr_1) T0 rfl rfl (Nat.le_of_ble_eq_true rfl) (by decide) hRc hT rfl (by decide) q648 qh659 rfl ?_
    intro qq
    refine g_astore_n (lv' := [(2, _), (0, _), (1, _)]) C (ckD_get k_L_rank_0 6 rfl) rfl hL2 rfl ?_
    refine g_iconst (v := (1 : Int32)) C (ckD_get k_L_rank_0 7 rfl) (by decide) ?_
    cases hf
    exact g_iret C (ckD_get k_L_rank_0 8 rfl) hr hRv (by decide) (by decide)
  | some r_3 =>
    have hf := tr_s hf rfl
    refine n_cVCr [] [.int (0 : Int32), .ref (K.2.1.1 + 105)] C (ckD_get k_L_rank_0 3 rfl) vk_L_63 (t_X9_rank C.tr _ _ hr_1) T0 rfl rfl (Nat.le_of_ble_eq_true rfl) (by decide) hRc hT rfl (by decide) q648 qh659 rfl rfl ?_
    obtain ⟨M_4, hi_5, eM_4, hf⟩ := wrL_e hf
    refine n_last C (ckD_get k_L_rank_0 4 rfl) T105 hi_5 eM_4 ?_
    refine g_goto C (ckD_get k_L_rank_0 5 rfl) ?_
    refine g_iconst (v := (0 : Int32)) C (ckD_get k_L_rank_0 9 rfl) (by decide) ?_
    cases hf
    exact g_iret C (ckD_get k_L_rank_0 10 rfl) hr hRv (by decide) (by decide)

