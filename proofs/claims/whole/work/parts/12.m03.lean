set_option maxRecDepth 20000 in
theorem k_X4_notePlaces_0 : ckD cX4_notePlaces [(0, .iconst 0, 1, 1, 0), (1, .istore_n 1, 1, 2, 0), (2, .iload_n 1, 1, 3, 0), (3, .aload_n 0, 1, 4, 0), (4, .getfield 31, 3, 7, 0), (7, .if_icmp .ge 21, 3, 10, 28), (10, .aload_n 0, 1, 11, 0), (11, .getfield 18, 3, 14, 0), (14, .aload_n 0, 1, 15, 0), (15, .getfield 9, 3, 18, 0), (18, .iload_n 1, 1, 19, 0), (19, .iaload, 1, 20, 0), (20, .iload_n 1, 1, 21, 0), (21, .iastore, 1, 22, 0), (22, .iinc 1 1, 3, 25, 0), (25, .goto (-23), 3, 28, 2), (28, .return_, 1, 29, 0)] = true := by decide +kernel
def f_X4_notePlaces_A2 (M_3 : Mm) : Option Mm := some M_3
def f_X4_notePlaces_L2 (k0 : Nat) (x1_1 : Int32) (M_2 : Mm) : Option ((Int32 × Mm) ⊕ Mm) := if (M_2.1 k0 5) ≤ x1_1 then some (.inr M_2) else rdI 12 M_2 (k0 + 1) x1_1 fun v_5 => wrI 12 M_2 (k0 + 3) v_5 x1_1 fun M_7 => lt1 (x1_1 + 1) fun x1_9 => some (.inl (x1_9, M_7))
def f_X4_notePlaces (k0 : Nat) (M : Mm) : Option Mm := (loop (fun v => f_X4_notePlaces_L2 k0 v.1 v.2) FU ((0 : Int32), M)).bind fun z => f_X4_notePlaces_A2 z
set_option maxRecDepth 100000 in
set_option maxHeartbeats 4000000 in
theorem t_X4_notePlaces {E : Ev} {l : Launch} (htr : l.stackTraces = false) (k0 : Nat) (hk0 : isOr k0) (M : Mm) (r : Mm) (hf : f_X4_notePlaces k0 M = some r) : CM E l 0 0 0 yX4_notePlaces cX4_notePlaces 2 none [.ref (E.1 + k0)] M none r := by
  refine CM.of htr (by decide +kernel) (Nat.le_of_ble_eq_true rfl) ?_
  intro K hE hL hl hR0 C hr hRv
  subst hE
  subst hl
  have C : Cx K cX4_notePlaces RX4 0 := C
  have hB : (0 : Nat) ≤ K.1.R.cells ∧ 0 ≤ K.1.R.slots := ⟨Nat.zero_le _, Nat.zero_le _⟩
  have hL1 : 1 < K.2.2.1 := by rw [hL]; decide
  show G K (0, 0) 0 [(0, .ref (K.2.1.1 + k0))] [] M
  unfold f_X4_notePlaces at hf
  refine g_iconst (v := (0 : Int32)) C (ckD_get k_X4_notePlaces_0 0 rfl) (by decide) ?_
  refine g_istore_n (lv' := [(1, _), (0, _)]) C (ckD_get k_X4_notePlaces_0 1 rfl) rfl hL1 rfl ?_
  refine G.sub [1, 0] rfl ?_
  obtain ⟨M_3, hx_2, hf⟩ := bd_e hf
  have hE_2 : G K (0, 0) 28 [] [] M_3 := by
    have hf : f_X4_notePlaces_A2 M_3 = some r := hf
    unfold f_X4_notePlaces_A2 at hf
    cases hf
    exact g_vret C (ckD_get k_X4_notePlaces_0 16 rfl) hr hRv (Nat.le_refl _) (Nat.le_refl _)
  refine loop_e (x := M_3) (P := fun (v : (Int32 × Mm)) => G K (0, 0) 2 [(0, .ref (K.2.1.1 + k0)), (1, .int v.1)] [] v.2) ?_ FU _ hx_2
  intro v rr_2 hf hn_2 hz_2
  obtain ⟨x1_1, M_2⟩ := v
  have hf : f_X4_notePlaces_L2 k0 x1_1 M_2 = some rr_2 := hf
  show G K (0, 0) 2 [(0, .ref (K.2.1.1 + k0)), (1, .int x1_1)] [] M_2
  unfold f_X4_notePlaces_L2 at hf
  refine g_iload_n 1 C (ckD_get k_X4_notePlaces_0 2 rfl) rfl rfl ?_
  refine g_aload_n 0 C (ckD_get k_X4_notePlaces_0 3 rfl) rfl rfl ?_
  refine g_getI C (ckD_get k_X4_notePlaces_0 4 rfl) fk_X4_31 (T_Or hk0) rfl ?_
  refine g_icmp_ge C (ckD_get k_X4_notePlaces_0 5 rfl) (fun c_4 => ?_) (fun c_4 => ?_)
  · have hf := if_t hf c_4
    refine G.sub [] rfl ?_
    cases hf
    cases hz_2 _ rfl
    exact hE_2
  · have hf := if_f hf c_4
    refine g_aload_n 0 C (ckD_get k_X4_notePlaces_0 6 rfl) rfl rfl ?_
    refine g_getR C (ckD_get k_X4_notePlaces_0 7 rfl) fk_X4_18 (T_Or hk0) rfl ?_
    refine g_aload_n 0 C (ckD_get k_X4_notePlaces_0 8 rfl) rfl rfl ?_
    refine g_getR C (ckD_get k_X4_notePlaces_0 9 rfl) fk_X4_9 (T_Or hk0) rfl ?_
    refine g_iload_n 1 C (ckD_get k_X4_notePlaces_0 10 rfl) rfl rfl ?_
    obtain ⟨v_5, hi_6, ev_5, hf⟩ := rdI_e hf
    refine n_iald C (ckD_get k_X4_notePlaces_0 11 rfl) (T_Or1 hk0) hi_6 ev_5 ?_
    refine g_iload_n 1 C (ckD_get k_X4_notePlaces_0 12 rfl) rfl rfl ?_
    obtain ⟨M_7, hi_8, eM_7, hf⟩ := wrI_e hf
    refine n_iast C (ckD_get k_X4_notePlaces_0 13 rfl) (T_Or3 hk0) hi_8 eM_7 ?_
    obtain ⟨x1_9, ex1_9, hf⟩ := lt_e hf
    refine g_iinc (lv' := [(1, _), (0, _)]) 1 C (ckD_get k_X4_notePlaces_0 14 rfl) rfl ex1_9 hL1 rfl ?_
    refine g_goto C (ckD_get k_X4_notePlaces_0 15 rfl) ?_
    refine G.sub [1, 0] rfl ?_
    cases hf
    exact hn_2 _ rfl

set_option maxRecDepth 20000 in
theorem k_X4_read_0 : ckD cX4_read [(0, .aload_n 0, 1, 1, 0), (1, .iload 5, 2, 3, 0), (3, .putfield 31, 3, 6, 0), (6, .iconst 0, 1, 7, 0), (7, .istore 6, 2, 9, 0), (9, .iload 6, 2, 11, 0), (11, .aload_n 0, 1, 12, 0), (12, .getfield 31, 3, 15, 0), (15, .if_icmp .ge 35, 3, 18, 50), (18, .aload_n 0, 1, 19, 0), (19, .getfield 9, 3, 22, 0), (22, .iload 6, 2, 24, 0), (24, .lload_n 1, 1, 25, 0), (25, .iload 6, 2, 27, 0), (27, .invokestatic 27, 3, 30, 0), (30, .iastore, 1, 31, 0), (31, .aload_n 0, 1, 32, 0), (32, .getfield 15, 3, 35, 0), (35, .iload 6, 2, 37, 0), (37, .lload_n 3, 1, 38, 0), (38, .iload 6, 2, 40, 0), (40, .invokestatic 27, 3, 43, 0), (43, .iastore, 1, 44, 0), (44, .iinc 6 1, 3, 47, 0), (47, .goto (-38), 3, 50, 9), (50, .aload_n 0, 1, 51, 0), (51, .invokevirtual 35, 3, 54, 0), (54, .return_, 1, 55, 0)] = true := by decide +kernel
def f_X4_read_A9 (k0 : Nat) (M_4 : Mm) : Option Mm := (f_X4_notePlaces k0 M_4).bind fun M_6 => some M_6
def f_X4_read_L9 (k0 : Nat) (a1 : Int64) (a2 : Int64) (x6_2 : Int32) (M_3 : Mm) : Option ((Int32 × Mm) ⊕ Mm) := if (M_3.1 k0 5) ≤ x6_2 then some (.inr M_3) else wrI 12 M_3 (k0 + 1) x6_2 (f_X9_nibble a1 x6_2) fun M_8 => wrI 12 M_8 (k0 + 2) x6_2 (f_X9_nibble a2 x6_2) fun M_10 => lt1 (x6_2 + 1) fun x6_12 => some (.inl (x6_12, M_10))
def f_X4_read (k0 : Nat) (a1 : Int64) (a2 : Int64) (a3 : Int32) (M : Mm) : Option Mm := lt1 (wi M k0 5 a3) fun M_1 => (loop (fun v => f_X4_read_L9 k0 a1 a2 v.1 v.2) FU ((0 : Int32), M_1)).bind fun z => f_X4_read_A9 k0 z
set_option maxRecDepth 100000 in
set_option maxHeartbeats 4000000 in
theorem t_X4_read {E : Ev} {l : Launch} (htr : l.stackTraces = false) (k0 : Nat) (hk0 : isOr k0) (a1 : Int64) (a2 : Int64) (a3 : Int32) (M : Mm) (r : Mm) (hf : f_X4_read k0 a1 a2 a3 M = some r) : CM E l 1 0 0 yX4_read cX4_read 7 none [.ref (E.1 + k0), .long a1, .long a2, .int a3] M none r := by
  refine CM.of htr (by decide +kernel) (Nat.le_of_ble_eq_true rfl) ?_
  intro K hE hL hl hR0 C hr hRv
  subst hE
  subst hl
  have C : Cx K cX4_read RX4 1 := C
  have hB : (0 : Nat) ≤ K.1.R.cells ∧ 0 ≤ K.1.R.slots := ⟨Nat.zero_le _, Nat.zero_le _⟩
  have hL6 : 6 < K.2.2.1 := by rw [hL]; decide
  show G K (0, 0) 0 [(0, .ref (K.2.1.1 + k0)), (1, .long a1), (3, .long a2), (5, .int a3)] [] M
  unfold f_X4_read at hf
  refine g_aload_n 0 C (ckD_get k_X4_read_0 0 rfl) rfl rfl ?_
  refine g_iload 3 C (ckD_get k_X4_read_0 1 rfl) rfl ?_
  obtain ⟨M_1, eM_1, hf⟩ := lt_e hf
  refine g_putI C (ckD_get k_X4_read_0 2 rfl) fk_X4_31 (T_Or hk0) rfl ?_
  refine memI eM_1 ?_
  refine g_iconst (v := (0 : Int32)) C (ckD_get k_X4_read_0 3 rfl) (by decide) ?_
  refine g_istore (lv' := [(6, _), (0, _), (1, _), (3, _), (5, _)]) C (ckD_get k_X4_read_0 4 rfl) hL6 rfl ?_
  refine G.sub [1, 2, 3, 0] rfl ?_
  obtain ⟨M_4, hx_9, hf⟩ := bd_e hf
  have hE_9 : G K (0, 0) 50 [(0, .ref (K.2.1.1 + k0))] [] M_4 := by
    have hf : f_X4_read_A9 k0 M_4 = some r := hf
    unfold f_X4_read_A9 at hf
    refine g_aload_n 0 C (ckD_get k_X4_read_0 25 rfl) rfl rfl ?_
    obtain ⟨M_6, hr_5, hf⟩ := bd_e hf
    refine n_cV [] [] C (ckD_get k_X4_read_0 26 rfl) vk_X4_35 (t_X4_notePlaces C.tr _ hk0 _ _ hr_5) (T_Or hk0) rfl rfl (Nat.le_of_ble_eq_true rfl) (by decide) hB rfl ?_
    cases hf
    exact g_vret C (ckD_get k_X4_read_0 27 rfl) hr hRv (Nat.le_refl _) (Nat.le_refl _)
  refine loop_e (x := M_4) (P := fun (v : (Int32 × Mm)) => G K (0, 0) 9 [(0, .ref (K.2.1.1 + k0)), (1, .long a1), (3, .long a2), (6, .int v.1)] [] v.2) ?_ FU _ hx_9
  intro v rr_9 hf hn_9 hz_9
  obtain ⟨x6_2, M_3⟩ := v
  have hf : f_X4_read_L9 k0 a1 a2 x6_2 M_3 = some rr_9 := hf
  show G K (0, 0) 9 [(0, .ref (K.2.1.1 + k0)), (1, .long a1), (3, .long a2), (6, .int x6_2)] [] M_3
  unfold f_X4_read_L9 at hf
  refine g_iload 3 C (ckD_get k_X4_read_0 5 rfl) rfl ?_
  refine g_aload_n 0 C (ckD_get k_X4_read_0 6 rfl) rfl rfl ?_
  refine g_getI C (ckD_get k_X4_read_0 7 rfl) fk_X4_31 (T_Or hk0) rfl ?_
  refine g_icmp_ge C (ckD_get k_X4_read_0 8 rfl) (fun c_7 => ?_) (fun c_7 => ?_)
  · have hf := if_t hf c_7
    refine G.sub [0] rfl ?_
    cases hf
    cases hz_9 _ rfl
    exact hE_9
  · have hf := if_f hf c_7
    refine g_aload_n 0 C (ckD_get k_X4_read_0 9 rfl) rfl rfl ?_
    refine g_getR C (ckD_get k_X4_read_0 10 rfl) fk_X4_9 (T_Or hk0) rfl ?_
    refine g_iload 3 C (ckD_get k_X4_read_0 11 rfl) rfl ?_
    refine g_lload_n 1 C (ckD_get k_X4_read_0 12 rfl) rfl rfl ?_
    refine g_iload 3 C (ckD_get k_X4_read_0 13 rfl) rfl ?_
    refine n_cN [.long a1, .int x6_2] [.int x6_2, .ref (K.2.1.1 + (k0 + 1))] C (ckD_get k_X4_read_0 14 rfl) nk_X4_27 (t_X9_nibble C.tr _ _ _ _ rfl) rfl rfl (Nat.le_of_ble_eq_true rfl) (by decide) hB rfl ?_
    obtain ⟨M_8, hi_9, eM_8, hf⟩ := wrI_e hf
    refine n_iast C (ckD_get k_X4_read_0 15 rfl) (T_Or1 hk0) hi_9 eM_8 ?_
    refine g_aload_n 0 C (ckD_get k_X4_read_0 16 rfl) rfl rfl ?_
    refine g_getR C (ckD_get k_X4_read_0 17 rfl) fk_X4_15 (T_Or hk0) rfl ?_
    refine g_iload 3 C (ckD_get k_X4_read_0 18 rfl) rfl ?_
    refine g_lload_n 2 C (ckD_get k_X4_read_0 19 rfl) rfl rfl ?_
    refine g_iload 3 C (ckD_get k_X4_read_0 20 rfl) rfl ?_
    refine n_cN [.long a2, .int x6_2] [.int x6_2, .ref (K.2.1.1 + (k0 + 2))] C (ckD_get k_X4_read_0 21 rfl) nk_X4_27 (t_X9_nibble C.tr _ _ _ _ rfl) rfl rfl (Nat.le_of_ble_eq_true rfl) (by decide) hB rfl ?_
    obtain ⟨M_10, hi_11, eM_10, hf⟩ := wrI_e hf
    refine n_iast C (ckD_get k_X4_read_0 22 rfl) (T_Or2 hk0) hi_11 eM_10 ?_
    obtain ⟨x6_12, ex6_12, hf⟩ := lt_e hf
    refine g_iinc (lv' := [(6, _), (0, _), (1, _), (3, _)]) 3 C (ckD_get k_X4_read_0 23 rfl) rfl ex6_12 hL6 rfl ?_
    refine g_goto C (ckD_get k_X4_read_0 24 rfl) ?_
    refine G.sub [1, 2, 3, 0] rfl ?_
    cases hf
    exact hn_9 _ rfl

set_option maxRecDepth 20000 in
theorem k_X4_begin_0 : ckD cX4_begin [(0, .aload_n 0, 1, 1, 0), (1, .iload_n 1, 1, 2, 0), (2, .putfield 31, 3, 5, 0), (5, .iconst 0, 1, 6, 0), (6, .istore_n 2, 1, 7, 0), (7, .iload_n 2, 1, 8, 0), (8, .aload_n 0, 1, 9, 0), (9, .getfield 31, 3, 12, 0), (12, .if_icmp .ge 23, 3, 15, 35), (15, .aload_n 0, 1, 16, 0), (16, .getfield 9, 3, 19, 0), (19, .iload_n 2, 1, 20, 0), (20, .iload_n 2, 1, 21, 0), (21, .iastore, 1, 22, 0), (22, .aload_n 0, 1, 23, 0), (23, .getfield 15, 3, 26, 0), (26, .iload_n 2, 1, 27, 0), (27, .iload_n 2, 1, 28, 0), (28, .iastore, 1, 29, 0), (29, .iinc 2 1, 3, 32, 0), (32, .goto (-25), 3, 35, 7), (35, .aload_n 0, 1, 36, 0), (36, .invokevirtual 35, 3, 39, 0), (39, .return_, 1, 40, 0)] = true := by decide +kernel
def f_X4_begin_A7 (k0 : Nat) (M_4 : Mm) : Option Mm := (f_X4_notePlaces k0 M_4).bind fun M_6 => some M_6
def f_X4_begin_L7 (k0 : Nat) (x2_2 : Int32) (M_3 : Mm) : Option ((Int32 × Mm) ⊕ Mm) := if (M_3.1 k0 5) ≤ x2_2 then some (.inr M_3) else wrI 12 M_3 (k0 + 1) x2_2 x2_2 fun M_8 => wrI 12 M_8 (k0 + 2) x2_2 x2_2 fun M_10 => lt1 (x2_2 + 1) fun x2_12 => some (.inl (x2_12, M_10))
def f_X4_begin (k0 : Nat) (a1 : Int32) (M : Mm) : Option Mm := lt1 (wi M k0 5 a1) fun M_1 => (loop (fun v => f_X4_begin_L7 k0 v.1 v.2) FU ((0 : Int32), M_1)).bind fun z => f_X4_begin_A7 k0 z
set_option maxRecDepth 100000 in
set_option maxHeartbeats 4000000 in
theorem t_X4_begin {E : Ev} {l : Launch} (htr : l.stackTraces = false) (k0 : Nat) (hk0 : isOr k0) (a1 : Int32) (M : Mm) (r : Mm) (hf : f_X4_begin k0 a1 M = some r) : CM E l 1 0 0 yX4_begin cX4_begin 3 none [.ref (E.1 + k0), .int a1] M none r := by
  refine CM.of htr (by decide +kernel) (Nat.le_of_ble_eq_true rfl) ?_
  intro K hE hL hl hR0 C hr hRv
  subst hE
  subst hl
  have C : Cx K cX4_begin RX4 1 := C
  have hB : (0 : Nat) ≤ K.1.R.cells ∧ 0 ≤ K.1.R.slots := ⟨Nat.zero_le _, Nat.zero_le _⟩
  have hL2 : 2 < K.2.2.1 := by rw [hL]; decide
  show G K (0, 0) 0 [(0, .ref (K.2.1.1 + k0)), (1, .int a1)] [] M
  unfold f_X4_begin at hf
  refine g_aload_n 0 C (ckD_get k_X4_begin_0 0 rfl) rfl rfl ?_
  refine g_iload_n 1 C (ckD_get k_X4_begin_0 1 rfl) rfl rfl ?_
  obtain ⟨M_1, eM_1, hf⟩ := lt_e hf
  refine g_putI C (ckD_get k_X4_begin_0 2 rfl) fk_X4_31 (T_Or hk0) rfl ?_
  refine memI eM_1 ?_
  refine g_iconst (v := (0 : Int32)) C (ckD_get k_X4_begin_0 3 rfl) (by decide) ?_
  refine g_istore_n (lv' := [(2, _), (0, _), (1, _)]) C (ckD_get k_X4_begin_0 4 rfl) rfl hL2 rfl ?_
  refine G.sub [1, 0] rfl ?_
  obtain ⟨M_4, hx_7, hf⟩ := bd_e hf
  have hE_7 : G K (0, 0) 35 [(0, .ref (K.2.1.1 + k0))] [] M_4 := by
    have hf : f_X4_begin_A7 k0 M_4 = some r := hf
    unfold f_X4_begin_A7 at hf
    refine g_aload_n 0 C (ckD_get k_X4_begin_0 21 rfl) rfl rfl ?_
    obtain ⟨M_6, hr_5, hf⟩ := bd_e hf
    refine n_cV [] [] C (ckD_get k_X4_begin_0 22 rfl) vk_X4_35 (t_X4_notePlaces C.tr _ hk0 _ _ hr_5) (T_Or hk0) rfl rfl (Nat.le_of_ble_eq_true rfl) (by decide) hB rfl ?_
    cases hf
    exact g_vret C (ckD_get k_X4_begin_0 23 rfl) hr hRv (Nat.le_refl _) (Nat.le_refl _)
  refine loop_e (x := M_4) (P := fun (v : (Int32 × Mm)) => G K (0, 0) 7 [(0, .ref (K.2.1.1 + k0)), (2, .int v.1)] [] v.2) ?_ FU _ hx_7
  intro v rr_7 hf hn_7 hz_7
  obtain ⟨x2_2, M_3⟩ := v
  have hf : f_X4_begin_L7 k0 x2_2 M_3 = some rr_7 := hf
  show G K (0, 0) 7 [(0, .ref (K.2.1.1 + k0)), (2, .int x2_2)] [] M_3
  unfold f_X4_begin_L7 at hf
  refine g_iload_n 1 C (ckD_get k_X4_begin_0 5 rfl) rfl rfl ?_
  refine g_aload_n 0 C (ckD_get k_X4_begin_0 6 rfl) rfl rfl ?_
  refine g_getI C (ckD_get k_X4_begin_0 7 rfl) fk_X4_31 (T_Or hk0) rfl ?_
  refine g_icmp_ge C (ckD_get k_X4_begin_0 8 rfl) (fun c_7 => ?_) (fun c_7 => ?_)
  · have hf := if_t hf c_7
    refine G.sub [0] rfl ?_
    cases hf
    cases hz_7 _ rfl
    exact hE_7
  · have hf := if_f hf c_7
    refine g_aload_n 0 C (ckD_get k_X4_begin_0 9 rfl) rfl rfl ?_
    refine g_getR C (ckD_get k_X4_begin_0 10 rfl) fk_X4_9 (T_Or hk0) rfl ?_
    refine g_iload_n 1 C (ckD_get k_X4_begin_0 11 rfl) rfl rfl ?_
    refine g_iload_n 1 C (ckD_get k_X4_begin_0 12 rfl) rfl rfl ?_
    obtain ⟨M_8, hi_9, eM_8, hf⟩ := wrI_e hf
    refine n_iast C (ckD_get k_X4_begin_0 13 rfl) (T_Or1 hk0) hi_9 eM_8 ?_
    refine g_aload_n 0 C (ckD_get k_X4_begin_0 14 rfl) rfl rfl ?_
    refine g_getR C (ckD_get k_X4_begin_0 15 rfl) fk_X4_15 (T_Or hk0) rfl ?_
    refine g_iload_n 1 C (ckD_get k_X4_begin_0 16 rfl) rfl rfl ?_
    refine g_iload_n 1 C (ckD_get k_X4_begin_0 17 rfl) rfl rfl ?_
    obtain ⟨M_10, hi_11, eM_10, hf⟩ := wrI_e hf
    refine n_iast C (ckD_get k_X4_begin_0 18 rfl) (T_Or2 hk0) hi_11 eM_10 ?_
    obtain ⟨x2_12, ex2_12, hf⟩ := lt_e hf
    refine g_iinc (lv' := [(2, _), (0, _)]) 1 C (ckD_get k_X4_begin_0 19 rfl) rfl ex2_12 hL2 rfl ?_
    refine g_goto C (ckD_get k_X4_begin_0 20 rfl) ?_
    refine G.sub [1, 0] rfl ?_
    cases hf
    exact hn_7 _ rfl

set_option maxRecDepth 20000 in
theorem k_X9_exchange_0 : ckD cX9_exchange [(0, .aload_n 0, 1, 1, 0), (1, .iload_n 1, 1, 2, 0), (2, .iaload, 1, 3, 0), (3, .istore_n 3, 1, 4, 0), (4, .aload_n 0, 1, 5, 0), (5, .iload_n 1, 1, 6, 0), (6, .aload_n 0, 1, 7, 0), (7, .iload_n 2, 1, 8, 0), (8, .iaload, 1, 9, 0), (9, .iastore, 1, 10, 0), (10, .aload_n 0, 1, 11, 0), (11, .iload_n 2, 1, 12, 0), (12, .iload_n 3, 1, 13, 0), (13, .iastore, 1, 14, 0), (14, .return_, 1, 15, 0)] = true := by decide +kernel
def f_X9_exchange (k0 : Nat) (a1 : Int32) (a2 : Int32) (M : Mm) : Option Mm := rdI 12 M k0 a1 fun v_1 => rdI 12 M k0 a2 fun v_3 => wrI 12 M k0 a1 v_3 fun M_5 => wrI 12 M_5 k0 a2 v_1 fun M_7 => some M_7
set_option maxRecDepth 100000 in
set_option maxHeartbeats 4000000 in
theorem t_X9_exchange {E : Ev} {l : Launch} (htr : l.stackTraces = false) (k0 : Nat) (hk0 : LT[k0]? = some (0, 12, [])) (a1 : Int32) (a2 : Int32) (M : Mm) (r : Mm) (hf : f_X9_exchange k0 a1 a2 M = some r) : CM E l 0 0 0 yX9_exchange cX9_exchange 4 none [.ref (E.1 + k0), .int a1, .int a2] M none r := by
  refine CM.of htr (by decide +kernel) (Nat.le_of_ble_eq_true rfl) ?_
  intro K hE hL hl hR0 C hr hRv
  subst hE
  subst hl
  have C : Cx K cX9_exchange RX9 0 := C
  have hB : (0 : Nat) ≤ K.1.R.cells ∧ 0 ≤ K.1.R.slots := ⟨Nat.zero_le _, Nat.zero_le _⟩
  have hL3 : 3 < K.2.2.1 := by rw [hL]; decide
  show G K (0, 0) 0 [(0, .ref (K.2.1.1 + k0)), (1, .int a1), (2, .int a2)] [] M
  unfold f_X9_exchange at hf
  refine g_aload_n 0 C (ckD_get k_X9_exchange_0 0 rfl) rfl rfl ?_
  refine g_iload_n 1 C (ckD_get k_X9_exchange_0 1 rfl) rfl rfl ?_
  obtain ⟨v_1, hi_2, ev_1, hf⟩ := rdI_e hf
  refine n_iald C (ckD_get k_X9_exchange_0 2 rfl) hk0 hi_2 ev_1 ?_
  refine g_istore_n (lv' := [(3, _), (0, _), (1, _), (2, _)]) C (ckD_get k_X9_exchange_0 3 rfl) rfl hL3 rfl ?_
  refine g_aload_n 1 C (ckD_get k_X9_exchange_0 4 rfl) rfl rfl ?_
  refine g_iload_n 2 C (ckD_get k_X9_exchange_0 5 rfl) rfl rfl ?_
  refine g_aload_n 1 C (ckD_get k_X9_exchange_0 6 rfl) rfl rfl ?_
  refine g_iload_n 3 C (ckD_get k_X9_exchange_0 7 rfl) rfl rfl ?_
  obtain ⟨v_3, hi_4, ev_3, hf⟩ := rdI_e hf
  refine n_iald C (ckD_get k_X9_exchange_0 8 rfl) hk0 hi_4 ev_3 ?_
  obtain ⟨M_5, hi_6, eM_5, hf⟩ := wrI_e hf
  refine n_iast C (ckD_get k_X9_exchange_0 9 rfl) hk0 hi_6 eM_5 ?_
  refine g_aload_n 1 C (ckD_get k_X9_exchange_0 10 rfl) rfl rfl ?_
  refine g_iload_n 3 C (ckD_get k_X9_exchange_0 11 rfl) rfl rfl ?_
  refine g_iload_n 0 C (ckD_get k_X9_exchange_0 12 rfl) rfl rfl ?_
  obtain ⟨M_7, hi_8, eM_7, hf⟩ := wrI_e hf
  refine n_iast C (ckD_get k_X9_exchange_0 13 rfl) hk0 hi_8 eM_7 ?_
  cases hf
  exact g_vret C (ckD_get k_X9_exchange_0 14 rfl) hr hRv (Nat.le_refl _) (Nat.le_refl _)

set_option maxRecDepth 20000 in
theorem k_X4_exchangeIn_0 : ckD cX4_exchangeIn [(0, .iload_n 1, 1, 1, 0), (1, .ifCond .ne 10, 3, 4, 11), (4, .aload_n 0, 1, 5, 0), (5, .getfield 9, 3, 8, 0), (8, .goto 7, 3, 11, 15), (11, .aload_n 0, 1, 12, 0), (12, .getfield 15, 3, 15, 0), (15, .iload_n 2, 1, 16, 0), (16, .iload_n 3, 1, 17, 0), (17, .invokestatic 38, 3, 20, 0), (20, .aload_n 0, 1, 21, 0), (21, .invokevirtual 35, 3, 24, 0), (24, .return_, 1, 25, 0)] = true := by decide +kernel
def f_X4_exchangeIn (k0 : Nat) (a1 : Int32) (a2 : Int32) (a3 : Int32) (M : Mm) : Option Mm := if a1 = 0 then (f_X9_exchange (k0 + 1) a2 a3 M).bind fun M_7 => (f_X4_notePlaces k0 M_7).bind fun M_9 => some M_9 else (f_X9_exchange (k0 + 2) a2 a3 M).bind fun M_3 => (f_X4_notePlaces k0 M_3).bind fun M_5 => some M_5
set_option maxRecDepth 100000 in
set_option maxHeartbeats 4000000 in
theorem t_X4_exchangeIn {E : Ev} {l : Launch} (htr : l.stackTraces = false) (k0 : Nat) (hk0 : isOr k0) (a1 : Int32) (a2 : Int32) (a3 : Int32) (M : Mm) (r : Mm) (hf : f_X4_exchangeIn k0 a1 a2 a3 M = some r) : CM E l 1 0 0 yX4_exchangeIn cX4_exchangeIn 4 none [.ref (E.1 + k0), .int a1, .int a2, .int a3] M none r := by
  refine CM.of htr (by decide +kernel) (Nat.le_of_ble_eq_true rfl) ?_
  intro K hE hL hl hR0 C hr hRv
  subst hE
  subst hl
  have C : Cx K cX4_exchangeIn RX4 1 := C
  have hB : (0 : Nat) ≤ K.1.R.cells ∧ 0 ≤ K.1.R.slots := ⟨Nat.zero_le _, Nat.zero_le _⟩
  show G K (0, 0) 0 [(0, .ref (K.2.1.1 + k0)), (1, .int a1), (2, .int a2), (3, .int a3)] [] M
  unfold f_X4_exchangeIn at hf
  refine g_iload_n 1 C (ckD_get k_X4_exchangeIn_0 0 rfl) rfl rfl ?_
  refine g_if_ne C (ckD_get k_X4_exchangeIn_0 1 rfl) (fun c_1 => ?_) (fun c_1 => ?_)
  · have hf := if_f hf c_1
    refine g_aload_n 0 C (ckD_get k_X4_exchangeIn_0 5 rfl) rfl rfl ?_
    refine g_getR C (ckD_get k_X4_exchangeIn_0 6 rfl) fk_X4_15 (T_Or hk0) rfl ?_
    refine g_iload_n 2 C (ckD_get k_X4_exchangeIn_0 7 rfl) rfl rfl ?_
    refine g_iload_n 3 C (ckD_get k_X4_exchangeIn_0 8 rfl) rfl rfl ?_
    obtain ⟨M_3, hr_2, hf⟩ := bd_e hf
    refine n_cN [.ref (K.2.1.1 + (k0 + 2)), .int a2, .int a3] [] C (ckD_get k_X4_exchangeIn_0 9 rfl) nk_X4_38 (t_X9_exchange C.tr _ (T_Or2 hk0) _ _ _ _ hr_2) rfl rfl (Nat.le_of_ble_eq_true rfl) (by decide) hB rfl ?_
    refine g_aload_n 0 C (ckD_get k_X4_exchangeIn_0 10 rfl) rfl rfl ?_
    obtain ⟨M_5, hr_4, hf⟩ := bd_e hf
    refine n_cV [] [] C (ckD_get k_X4_exchangeIn_0 11 rfl) vk_X4_35 (t_X4_notePlaces C.tr _ hk0 _ _ hr_4) (T_Or hk0) rfl rfl (Nat.le_of_ble_eq_true rfl) (by decide) hB rfl ?_
    cases hf
    exact g_vret C (ckD_get k_X4_exchangeIn_0 12 rfl) hr hRv (Nat.le_refl _) (Nat.le_refl _)
  · have hf := if_t hf c_1
    refine g_aload_n 0 C (ckD_get k_X4_exchangeIn_0 2 rfl) rfl rfl ?_
    refine g_getR C (ckD_get k_X4_exchangeIn_0 3 rfl) fk_X4_9 (T_Or hk0) rfl ?_
    refine g_goto C (ckD_get k_X4_exchangeIn_0 4 rfl) ?_
    refine g_iload_n 2 C (ckD_get k_X4_exchangeIn_0 7 rfl) rfl rfl ?_
    refine g_iload_n 3 C (ckD_get k_X4_exchangeIn_0 8 rfl) rfl rfl ?_
    obtain ⟨M_7, hr_6, hf⟩ := bd_e hf
    refine n_cN [.ref (K.2.1.1 + (k0 + 1)), .int a2, .int a3] [] C (ckD_get k_X4_exchangeIn_0 9 rfl) nk_X4_38 (t_X9_exchange C.tr _ (T_Or1 hk0) _ _ _ _ hr_6) rfl rfl (Nat.le_of_ble_eq_true rfl) (by decide) hB rfl ?_
    refine g_aload_n 0 C (ckD_get k_X4_exchangeIn_0 10 rfl) rfl rfl ?_
    obtain ⟨M_9, hr_8, hf⟩ := bd_e hf
    refine n_cV [] [] C (ckD_get k_X4_exchangeIn_0 11 rfl) vk_X4_35 (t_X4_notePlaces C.tr _ hk0 _ _ hr_8) (T_Or hk0) rfl rfl (Nat.le_of_ble_eq_true rfl) (by decide) hB rfl ?_
    cases hf
    exact g_vret C (ckD_get k_X4_exchangeIn_0 12 rfl) hr hRv (Nat.le_refl _) (Nat.le_refl _)

set_option maxRecDepth 20000 in
theorem k_X4_lay_0 : ckD cX4_lay [(0, .iconst 0, 1, 1, 0), (1, .istore_n 2, 1, 2, 0), (2, .iload_n 2, 1, 3, 0), (3, .aload_n 0, 1, 4, 0), (4, .getfield 31, 3, 7, 0), (7, .if_icmp .ge 125, 3, 10, 132), (10, .aload_n 0, 1, 11, 0), (11, .getfield 15, 3, 14, 0), (14, .iload_n 2, 1, 15, 0), (15, .iaload, 1, 16, 0), (16, .istore_n 3, 1, 17, 0), (17, .iconst 0, 1, 18, 0), (18, .istore 4, 2, 20, 0), (20, .iconst 0, 1, 21, 0), (21, .istore 5, 2, 23, 0), (23, .iconst 0, 1, 24, 0), (24, .istore 6, 2, 26, 0), (26, .iload 6, 2, 28, 0), (28, .iload_n 2, 1, 29, 0), (29, .if_icmp .ge 81, 3, 32, 110), (32, .aload_n 0, 1, 33, 0), (33, .getfield 15, 3, 36, 0), (36, .iload 6, 2, 38, 0), (38, .iaload, 1, 39, 0), (39, .istore 7, 2, 41, 0), (41, .aload_n 0, 1, 42, 0), (42, .getfield 18, 3, 45, 0), (45, .iload 7, 2, 47, 0), (47, .iaload, 1, 48, 0), (48, .aload_n 0, 1, 49, 0), (49, .getfield 18, 3, 52, 0), (52, .iload_n 3, 1, 53, 0), (53, .iaload, 1, 54, 0), (54, .if_icmp .ge 28, 3, 57, 82), (57, .iload 4, 2, 59, 0), (59, .aload_n 1, 1, 60, 0), (60, .getfield 42, 3, 63, 0), (63, .iload 7, 2, 65, 0), (65, .iaload, 1, 66, 0), (66, .aload_n 1, 1, 67, 0)] = true := by decide +kernel
set_option maxRecDepth 20000 in
theorem k_X4_lay_1 : ckD cX4_lay [(67, .getfield 47, 3, 70, 0), (70, .iload 7, 2, 72, 0), (72, .iaload, 1, 73, 0), (73, .iadd, 1, 74, 0), (74, .invokestatic 50, 3, 77, 0), (77, .istore 4, 2, 79, 0), (79, .goto 25, 3, 82, 104), (82, .iload 5, 2, 84, 0), (84, .aload_n 1, 1, 85, 0), (85, .getfield 56, 3, 88, 0), (88, .iload 7, 2, 90, 0), (90, .iaload, 1, 91, 0), (91, .aload_n 1, 1, 92, 0), (92, .getfield 59, 3, 95, 0), (95, .iload 7, 2, 97, 0), (97, .iaload, 1, 98, 0), (98, .iadd, 1, 99, 0), (99, .invokestatic 50, 3, 102, 0), (102, .istore 5, 2, 104, 0), (104, .iinc 6 1, 3, 107, 0), (107, .goto (-81), 3, 110, 26), (110, .aload_n 1, 1, 111, 0), (111, .getfield 42, 3, 114, 0), (114, .iload_n 3, 1, 115, 0), (115, .iload 4, 2, 117, 0), (117, .iastore, 1, 118, 0), (118, .aload_n 1, 1, 119, 0), (119, .getfield 56, 3, 122, 0), (122, .iload_n 3, 1, 123, 0), (123, .iload 5, 2, 125, 0), (125, .iastore, 1, 126, 0), (126, .iinc 2 1, 3, 129, 0), (129, .goto (-127), 3, 132, 2), (132, .return_, 1, 133, 0)] = true := by decide +kernel
def f_X4_lay_A2 (M_3 : Mm) : Option Mm := some M_3
def f_X4_lay_A26 (k1 : Nat) (x2_1 : Int32) (M_2 : Mm) (v_5 : Int32) (x4_10 : Int32) (x5_11 : Int32) : Option ((Int32 × Mm) ⊕ Mm) := wrI 12 M_2 (k1 + 1) v_5 x4_10 fun M_12 => wrI 12 M_12 (k1 + 2) v_5 x5_11 fun M_14 => lt1 (x2_1 + 1) fun x2_16 => some (.inl (x2_16, M_14))
def f_X4_lay_J104 (x6_9 : Int32) (p4_24 : Int32) (p5_25 : Int32) : Option ((Int32 × Int32 × Int32) ⊕ (Int32 × Int32)) := lt1 (x6_9 + 1) fun x6_26 => some (.inl (p4_24, p5_25, x6_26))
def f_X4_lay_L26 (k0 : Nat) (k1 : Nat) (x2_1 : Int32) (M_2 : Mm) (v_5 : Int32) (x4_7 : Int32) (x5_8 : Int32) (x6_9 : Int32) : Option ((Int32 × Int32 × Int32) ⊕ (Int32 × Int32)) := if x2_1 ≤ x6_9 then some (.inr (x4_7, x5_8)) else rdI 12 M_2 (k0 + 2) x6_9 fun v_18 => rdI 12 M_2 (k0 + 3) v_18 fun v_20 => rdI 12 M_2 (k0 + 3) v_5 fun v_22 => if v_22 ≤ v_20 then rdI 12 M_2 (k1 + 2) v_18 fun v_28 => rdI 12 M_2 (k1 + 4) v_18 fun v_30 => lt1 (jmax x5_8 (v_28 + v_30)) fun x5_32 => f_X4_lay_J104 x6_9 x4_7 x5_32 else rdI 12 M_2 (k1 + 1) v_18 fun v_33 => rdI 12 M_2 (k1 + 3) v_18 fun v_35 => lt1 (jmax x4_7 (v_33 + v_35)) fun x4_37 => f_X4_lay_J104 x6_9 x4_37 x5_8
def f_X4_lay_L2 (k0 : Nat) (k1 : Nat) (x2_1 : Int32) (M_2 : Mm) : Option ((Int32 × Mm) ⊕ Mm) := if (M_2.1 k0 5) ≤ x2_1 then some (.inr M_2) else rdI 12 M_2 (k0 + 2) x2_1 fun v_5 => (loop (fun v => f_X4_lay_L26 k0 k1 x2_1 M_2 v_5 v.1 v.2.1 v.2.2) FU ((0 : Int32), (0 : Int32), (0 : Int32))).bind fun z => f_X4_lay_A26 k1 x2_1 M_2 v_5 z.1 z.2
def f_X4_lay (k0 : Nat) (k1 : Nat) (M : Mm) : Option Mm := (loop (fun v => f_X4_lay_L2 k0 k1 v.1 v.2) FU ((0 : Int32), M)).bind fun z => f_X4_lay_A2 z
set_option maxRecDepth 100000 in
set_option maxHeartbeats 4000000 in
theorem t_X4_lay {E : Ev} {l : Launch} (htr : l.stackTraces = false) (k0 : Nat) (hk0 : isOr k0) (k1 : Nat) (hk1 : isGr k1) (M : Mm) (r : Mm) (hf : f_X4_lay k0 k1 M = some r) : CM E l 1 0 0 yX4_lay cX4_lay 8 none [.ref (E.1 + k0), .ref (E.1 + k1)] M none r := by
  refine CM.of htr (by decide +kernel) (Nat.le_of_ble_eq_true rfl) ?_
  intro K hE hL hl hR0 C hr hRv
  subst hE
  subst hl
  have C : Cx K cX4_lay RX4 1 := C
  have hB : (0 : Nat) ≤ K.1.R.cells ∧ 0 ≤ K.1.R.slots := ⟨Nat.zero_le _, Nat.zero_le _⟩
  have hL2 : 2 < K.2.2.1 := by rw [hL]; decide
  have hL3 : 3 < K.2.2.1 := by rw [hL]; decide
  have hL4 : 4 < K.2.2.1 := by rw [hL]; decide
  have hL5 : 5 < K.2.2.1 := by rw [hL]; decide
  have hL6 : 6 < K.2.2.1 := by rw [hL]; decide
  have hL7 : 7 < K.2.2.1 := by rw [hL]; decide
  show G K (0, 0) 0 [(0, .ref (K.2.1.1 + k0)), (1, .ref (K.2.1.1 + k1))] [] M
  unfold f_X4_lay at hf
  refine g_iconst (v := (0 : Int32)) C (ckD_get k_X4_lay_0 0 rfl) (by decide) ?_
  refine g_istore_n (lv' := [(2, _), (0, _), (1, _)]) C (ckD_get k_X4_lay_0 1 rfl) rfl hL2 rfl ?_
  refine G.sub [1, 2, 0] rfl ?_
  obtain ⟨M_3, hx_2, hf⟩ := bd_e hf
  have hE_2 : G K (0, 0) 132 [] [] M_3 := by
    have hf : f_X4_lay_A2 M_3 = some r := hf
    unfold f_X4_lay_A2 at hf
    cases hf
    exact g_vret C (ckD_get k_X4_lay_1 33 rfl) hr hRv (Nat.le_refl _) (Nat.le_refl _)
  refine loop_e (x := M_3) (P := fun (v : (Int32 × Mm)) => G K (0, 0) 2 [(0, .ref (K.2.1.1 + k0)), (1, .ref (K.2.1.1 + k1)), (2, .int v.1)] [] v.2) ?_ FU _ hx_2
  intro v rr_2 hf hn_2 hz_2
  obtain ⟨x2_1, M_2⟩ := v
  have hf : f_X4_lay_L2 k0 k1 x2_1 M_2 = some rr_2 := hf
  show G K (0, 0) 2 [(0, .ref (K.2.1.1 + k0)), (1, .ref (K.2.1.1 + k1)), (2, .int x2_1)] [] M_2
  unfold f_X4_lay_L2 at hf
  refine g_iload_n 2 C (ckD_get k_X4_lay_0 2 rfl) rfl rfl ?_
  refine g_aload_n 0 C (ckD_get k_X4_lay_0 3 rfl) rfl rfl ?_
  refine g_getI C (ckD_get k_X4_lay_0 4 rfl) fk_X4_31 (T_Or hk0) rfl ?_
  refine g_icmp_ge C (ckD_get k_X4_lay_0 5 rfl) (fun c_4 => ?_) (fun c_4 => ?_)
  · have hf := if_t hf c_4
    refine G.sub [] rfl ?_
    cases hf
    cases hz_2 _ rfl
    exact hE_2
  · have hf := if_f hf c_4
    refine g_aload_n 0 C (ckD_get k_X4_lay_0 6 rfl) rfl rfl ?_
    refine g_getR C (ckD_get k_X4_lay_0 7 rfl) fk_X4_15 (T_Or hk0) rfl ?_
    refine g_iload_n 2 C (ckD_get k_X4_lay_0 8 rfl) rfl rfl ?_
    obtain ⟨v_5, hi_6, ev_5, hf⟩ := rdI_e hf
    refine n_iald C (ckD_get k_X4_lay_0 9 rfl) (T_Or2 hk0) hi_6 ev_5 ?_
    refine g_istore_n (lv' := [(3, _), (0, _), (1, _), (2, _)]) C (ckD_get k_X4_lay_0 10 rfl) rfl hL3 rfl ?_
    refine g_iconst (v := (0 : Int32)) C (ckD_get k_X4_lay_0 11 rfl) (by decide) ?_
    refine g_istore (lv' := [(4, _), (3, _), (0, _), (1, _), (2, _)]) C (ckD_get k_X4_lay_0 12 rfl) hL4 rfl ?_
    refine g_iconst (v := (0 : Int32)) C (ckD_get k_X4_lay_0 13 rfl) (by decide) ?_
    refine g_istore (lv' := [(5, _), (4, _), (3, _), (0, _), (1, _), (2, _)]) C (ckD_get k_X4_lay_0 14 rfl) hL5 rfl ?_
    refine g_iconst (v := (0 : Int32)) C (ckD_get k_X4_lay_0 15 rfl) (by decide) ?_
    refine g_istore (lv' := [(6, _), (5, _), (4, _), (3, _), (0, _), (1, _), (2, _)]) C (ckD_get k_X4_lay_0 16 rfl) hL6 rfl ?_
    refine G.sub [4, 5, 6, 3, 2, 1, 0] rfl ?_
    obtain ⟨xx_26, hx_26, hf⟩ := bd_e hf
    obtain ⟨x4_10, x5_11⟩ := xx_26
    have hE_26 : G K (0, 0) 110 [(0, .ref (K.2.1.1 + k0)), (1, .ref (K.2.1.1 + k1)), (2, .int x2_1), (3, .int v_5), (4, .int x4_10), (5, .int x5_11)] [] M_2 := by
      have hf : f_X4_lay_A26 k1 x2_1 M_2 v_5 x4_10 x5_11 = some rr_2 := hf
      unfold f_X4_lay_A26 at hf
      refine g_aload_n 1 C (ckD_get k_X4_lay_1 21 rfl) rfl rfl ?_
      refine g_getR C (ckD_get k_X4_lay_1 22 rfl) fk_X4_42 (T_Gr hk1) rfl ?_
      refine g_iload_n 3 C (ckD_get k_X4_lay_1 23 rfl) rfl rfl ?_
      refine g_iload 4 C (ckD_get k_X4_lay_1 24 rfl) rfl ?_
      obtain ⟨M_12, hi_13, eM_12, hf⟩ := wrI_e hf
      refine n_iast C (ckD_get k_X4_lay_1 25 rfl) (T_Gr1 hk1) hi_13 eM_12 ?_
      refine g_aload_n 1 C (ckD_get k_X4_lay_1 26 rfl) rfl rfl ?_
      refine g_getR C (ckD_get k_X4_lay_1 27 rfl) fk_X4_56 (T_Gr hk1) rfl ?_
      refine g_iload_n 3 C (ckD_get k_X4_lay_1 28 rfl) rfl rfl ?_
      refine g_iload 5 C (ckD_get k_X4_lay_1 29 rfl) rfl ?_
      obtain ⟨M_14, hi_15, eM_14, hf⟩ := wrI_e hf
      refine n_iast C (ckD_get k_X4_lay_1 30 rfl) (T_Gr2 hk1) hi_15 eM_14 ?_
      obtain ⟨x2_16, ex2_16, hf⟩ := lt_e hf
      refine g_iinc (lv' := [(2, _), (0, _), (1, _), (3, _), (4, _), (5, _)]) 2 C (ckD_get k_X4_lay_1 31 rfl) rfl ex2_16 hL2 rfl ?_
      refine g_goto C (ckD_get k_X4_lay_1 32 rfl) ?_
      refine G.sub [1, 2, 0] rfl ?_
      cases hf
      exact hn_2 _ rfl
    refine loop_e (x := (x4_10, x5_11)) (P := fun (v : (Int32 × Int32 × Int32)) => G K (0, 0) 26 [(0, .ref (K.2.1.1 + k0)), (1, .ref (K.2.1.1 + k1)), (2, .int x2_1), (3, .int v_5), (4, .int v.1), (5, .int v.2.1), (6, .int v.2.2)] [] M_2) ?_ FU _ hx_26
    intro v rr_26 hf hn_26 hz_26
    obtain ⟨x4_7, x5_8, x6_9⟩ := v
    have hf : f_X4_lay_L26 k0 k1 x2_1 M_2 v_5 x4_7 x5_8 x6_9 = some rr_26 := hf
    show G K (0, 0) 26 [(0, .ref (K.2.1.1 + k0)), (1, .ref (K.2.1.1 + k1)), (2, .int x2_1), (3, .int v_5), (4, .int x4_7), (5, .int x5_8), (6, .int x6_9)] [] M_2
    unfold f_X4_lay_L26 at hf
    refine g_iload 6 C (ckD_get k_X4_lay_0 17 rfl) rfl ?_
    refine g_iload_n 2 C (ckD_get k_X4_lay_0 18 rfl) rfl rfl ?_
    refine g_icmp_ge C (ckD_get k_X4_lay_0 19 rfl) (fun c_17 => ?_) (fun c_17 => ?_)
    · have hf := if_t hf c_17
      refine G.sub [0, 1, 2, 3, 4, 5] rfl ?_
      cases hf
      cases hz_26 _ rfl
      exact hE_26
    · have hf := if_f hf c_17
      refine g_aload_n 0 C (ckD_get k_X4_lay_0 20 rfl) rfl rfl ?_
      refine g_getR C (ckD_get k_X4_lay_0 21 rfl) fk_X4_15 (T_Or hk0) rfl ?_
      refine g_iload 6 C (ckD_get k_X4_lay_0 22 rfl) rfl ?_
      obtain ⟨v_18, hi_19, ev_18, hf⟩ := rdI_e hf
      refine n_iald C (ckD_get k_X4_lay_0 23 rfl) (T_Or2 hk0) hi_19 ev_18 ?_
      refine g_istore (lv' := [(7, _), (0, _), (1, _), (2, _), (3, _), (4, _), (5, _), (6, _)]) C (ckD_get k_X4_lay_0 24 rfl) hL7 rfl ?_
      refine g_aload_n 1 C (ckD_get k_X4_lay_0 25 rfl) rfl rfl ?_
      refine g_getR C (ckD_get k_X4_lay_0 26 rfl) fk_X4_18 (T_Or hk0) rfl ?_
      refine g_iload 0 C (ckD_get k_X4_lay_0 27 rfl) rfl ?_
      obtain ⟨v_20, hi_21, ev_20, hf⟩ := rdI_e hf
      refine n_iald C (ckD_get k_X4_lay_0 28 rfl) (T_Or3 hk0) hi_21 ev_20 ?_
      refine g_aload_n 1 C (ckD_get k_X4_lay_0 29 rfl) rfl rfl ?_
      refine g_getR C (ckD_get k_X4_lay_0 30 rfl) fk_X4_18 (T_Or hk0) rfl ?_
      refine g_iload_n 4 C (ckD_get k_X4_lay_0 31 rfl) rfl rfl ?_
      obtain ⟨v_22, hi_23, ev_22, hf⟩ := rdI_e hf
      refine n_iald C (ckD_get k_X4_lay_0 32 rfl) (T_Or3 hk0) hi_23 ev_22 ?_
      have hJ_104 : ∀ (p4_24 : Int32) (p5_25 : Int32), f_X4_lay_J104 x6_9 p4_24 p5_25 = some rr_26 → G K (0, 0) 104 [(0, .ref (K.2.1.1 + k0)), (1, .ref (K.2.1.1 + k1)), (2, .int x2_1), (3, .int v_5), (4, .int p4_24), (5, .int p5_25), (6, .int x6_9)] [] M_2 := by
        intro p4_24 p5_25 hf
        unfold f_X4_lay_J104 at hf
        obtain ⟨x6_26, ex6_26, hf⟩ := lt_e hf
        refine g_iinc (lv' := [(6, _), (0, _), (1, _), (2, _), (3, _), (4, _), (5, _)]) 6 C (ckD_get k_X4_lay_1 19 rfl) rfl ex6_26 hL6 rfl ?_
        refine g_goto C (ckD_get k_X4_lay_1 20 rfl) ?_
        refine G.sub [1, 2, 3, 4, 5, 6, 0] rfl ?_
        cases hf
        exact hn_26 _ rfl
      refine g_icmp_ge C (ckD_get k_X4_lay_0 33 rfl) (fun c_27 => ?_) (fun c_27 => ?_)
      · have hf := if_t hf c_27
        refine g_iload 6 C (ckD_get k_X4_lay_1 7 rfl) rfl ?_
        refine g_aload_n 2 C (ckD_get k_X4_lay_1 8 rfl) rfl rfl ?_
        refine g_getR C (ckD_get k_X4_lay_1 9 rfl) fk_X4_56 (T_Gr hk1) rfl ?_
        refine g_iload 0 C (ckD_get k_X4_lay_1 10 rfl) rfl ?_
        obtain ⟨v_28, hi_29, ev_28, hf⟩ := rdI_e hf
        refine n_iald C (ckD_get k_X4_lay_1 11 rfl) (T_Gr2 hk1) hi_29 ev_28 ?_
        refine g_aload_n 2 C (ckD_get k_X4_lay_1 12 rfl) rfl rfl ?_
        refine g_getR C (ckD_get k_X4_lay_1 13 rfl) fk_X4_59 (T_Gr hk1) rfl ?_
        refine g_iload 0 C (ckD_get k_X4_lay_1 14 rfl) rfl ?_
        obtain ⟨v_30, hi_31, ev_30, hf⟩ := rdI_e hf
        refine n_iald C (ckD_get k_X4_lay_1 15 rfl) (T_Gr4 hk1) hi_31 ev_30 ?_
        refine g_iadd C (ckD_get k_X4_lay_1 16 rfl) ?_
        refine n_mmax C (ckD_get k_X4_lay_1 17 rfl) mk_X4_50 (by decide) (Nat.le_of_ble_eq_true rfl) hB ?_
        obtain ⟨x5_32, ex5_32, hf⟩ := lt_e hf
        refine topI ex5_32 ?_
        refine g_istore (lv' := [(5, _), (7, _), (0, _), (1, _), (2, _), (3, _), (4, _), (6, _)]) C (ckD_get k_X4_lay_1 18 rfl) hL5 rfl ?_
        refine G.sub [2, 3, 4, 5, 6, 0, 7] rfl ?_
        exact hJ_104 _ _ hf
      · have hf := if_f hf c_27
        refine g_iload 5 C (ckD_get k_X4_lay_0 34 rfl) rfl ?_
        refine g_aload_n 2 C (ckD_get k_X4_lay_0 35 rfl) rfl rfl ?_
        refine g_getR C (ckD_get k_X4_lay_0 36 rfl) fk_X4_42 (T_Gr hk1) rfl ?_
        refine g_iload 0 C (ckD_get k_X4_lay_0 37 rfl) rfl ?_
        obtain ⟨v_33, hi_34, ev_33, hf⟩ := rdI_e hf
        refine n_iald C (ckD_get k_X4_lay_0 38 rfl) (T_Gr1 hk1) hi_34 ev_33 ?_
        refine g_aload_n 2 C (ckD_get k_X4_lay_0 39 rfl) rfl rfl ?_
        refine g_getR C (ckD_get k_X4_lay_1 0 rfl) fk_X4_47 (T_Gr hk1) rfl ?_
        refine g_iload 0 C (ckD_get k_X4_lay_1 1 rfl) rfl ?_
        obtain ⟨v_35, hi_36, ev_35, hf⟩ := rdI_e hf
        refine n_iald C (ckD_get k_X4_lay_1 2 rfl) (T_Gr3 hk1) hi_36 ev_35 ?_
        refine g_iadd C (ckD_get k_X4_lay_1 3 rfl) ?_
        refine n_mmax C (ckD_get k_X4_lay_1 4 rfl) mk_X4_50 (by decide) (Nat.le_of_ble_eq_true rfl) hB ?_
        obtain ⟨x4_37, ex4_37, hf⟩ := lt_e hf
        refine topI ex4_37 ?_
        refine g_istore (lv' := [(4, _), (7, _), (0, _), (1, _), (2, _), (3, _), (5, _), (6, _)]) C (ckD_get k_X4_lay_1 5 rfl) hL4 rfl ?_
        refine g_goto C (ckD_get k_X4_lay_1 6 rfl) ?_
        refine G.sub [2, 3, 4, 5, 0, 6, 7] rfl ?_
        exact hJ_104 _ _ hf

set_option maxRecDepth 20000 in
theorem k_X4_measureChains_0 : ckD cX4_measureChains [(0, .aload_n 0, 1, 1, 0), (1, .getfield 31, 3, 4, 0), (4, .iconst 1, 1, 5, 0), (5, .isub, 1, 6, 0), (6, .istore_n 3, 1, 7, 0), (7, .iload_n 3, 1, 8, 0), (8, .ifCond .lt 103, 3, 11, 111), (11, .aload_n 0, 1, 12, 0), (12, .getfield 15, 3, 15, 0), (15, .iload_n 3, 1, 16, 0), (16, .iaload, 1, 17, 0), (17, .istore 4, 2, 19, 0), (19, .iconst 0, 1, 20, 0), (20, .istore 5, 2, 22, 0), (22, .iload_n 3, 1, 23, 0), (23, .iconst 1, 1, 24, 0), (24, .iadd, 1, 25, 0), (25, .istore 6, 2, 27, 0), (27, .iload 6, 2, 29, 0), (29, .aload_n 0, 1, 30, 0), (30, .getfield 31, 3, 33, 0), (33, .if_icmp .ge 58, 3, 36, 91), (36, .aload_n 0, 1, 37, 0), (37, .getfield 15, 3, 40, 0), (40, .iload 6, 2, 42, 0), (42, .iaload, 1, 43, 0), (43, .istore 7, 2, 45, 0), (45, .aload_n 0, 1, 46, 0), (46, .getfield 18, 3, 49, 0), (49, .iload 4, 2, 51, 0), (51, .iaload, 1, 52, 0), (52, .aload_n 0, 1, 53, 0), (53, .getfield 18, 3, 56, 0), (56, .iload 7, 2, 58, 0), (58, .iaload, 1, 59, 0), (59, .if_icmp .ge 7, 3, 62, 66), (62, .iconst 1, 1, 63, 0), (63, .goto 4, 3, 66, 67), (66, .iconst 0, 1, 67, 0), (67, .iload_n 2, 1, 68, 0)] = true := by decide +kernel
set_option maxRecDepth 20000 in
theorem k_X4_measureChains_1 : ckD cX4_measureChains [(68, .if_icmp .ne 17, 3, 71, 85), (71, .iload 5, 2, 73, 0), (73, .aload_n 0, 1, 74, 0), (74, .getfield 21, 3, 77, 0), (77, .iload 7, 2, 79, 0), (79, .iaload, 1, 80, 0), (80, .invokestatic 50, 3, 83, 0), (83, .istore 5, 2, 85, 0), (85, .iinc 6 1, 3, 88, 0), (88, .goto (-61), 3, 91, 27), (91, .aload_n 0, 1, 92, 0), (92, .getfield 21, 3, 95, 0), (95, .iload 4, 2, 97, 0), (97, .aload_n 1, 1, 98, 0), (98, .iload 4, 2, 100, 0), (100, .iaload, 1, 101, 0), (101, .iload 5, 2, 103, 0), (103, .iadd, 1, 104, 0), (104, .iastore, 1, 105, 0), (105, .iinc 3 (-1), 3, 108, 0), (108, .goto (-101), 3, 111, 7), (111, .return_, 1, 112, 0)] = true := by decide +kernel
def f_X4_measureChains_A7 (M_4 : Mm) : Option Mm := some M_4
def f_X4_measureChains_A27 (k0 : Nat) (k1 : Nat) (x3_2 : Int32) (M_3 : Mm) (v_6 : Int32) (x5_11 : Int32) : Option ((Int32 × Mm) ⊕ Mm) := rdI 12 M_3 k1 v_6 fun v_12 => wrI 12 M_3 (k0 + 4) v_6 (v_12 + x5_11) fun M_14 => lt1 (x3_2 + (-1)) fun x3_16 => some (.inl (x3_16, M_14))
def f_X4_measureChains_J85 (x6_10 : Int32) (p5_25 : Int32) : Option ((Int32 × Int32) ⊕ Int32) := lt1 (x6_10 + 1) fun x6_26 => some (.inl (p5_25, x6_26))
def f_X4_measureChains_J67 (k0 : Nat) (a2 : Int32) (M_3 : Mm) (x5_9 : Int32) (x6_10 : Int32) (v_18 : Int32) (s_24 : Int32) : Option ((Int32 × Int32) ⊕ Int32) := if s_24 = a2 then rdI 12 M_3 (k0 + 4) v_18 fun v_28 => lt1 (jmax x5_9 v_28) fun x5_30 => f_X4_measureChains_J85 x6_10 x5_30 else f_X4_measureChains_J85 x6_10 x5_9
def f_X4_measureChains_L27 (k0 : Nat) (a2 : Int32) (M_3 : Mm) (v_6 : Int32) (x5_9 : Int32) (x6_10 : Int32) : Option ((Int32 × Int32) ⊕ Int32) := if (M_3.1 k0 5) ≤ x6_10 then some (.inr x5_9) else rdI 12 M_3 (k0 + 2) x6_10 fun v_18 => rdI 12 M_3 (k0 + 3) v_6 fun v_20 => rdI 12 M_3 (k0 + 3) v_18 fun v_22 => if v_22 ≤ v_20 then f_X4_measureChains_J67 k0 a2 M_3 x5_9 x6_10 v_18 (0 : Int32) else f_X4_measureChains_J67 k0 a2 M_3 x5_9 x6_10 v_18 (1 : Int32)
def f_X4_measureChains_L7 (k0 : Nat) (k1 : Nat) (a2 : Int32) (x3_2 : Int32) (M_3 : Mm) : Option ((Int32 × Mm) ⊕ Mm) := if x3_2 < 0 then some (.inr M_3) else rdI 12 M_3 (k0 + 2) x3_2 fun v_6 => lt1 (x3_2 + (1 : Int32)) fun x6_8 => (loop (fun v => f_X4_measureChains_L27 k0 a2 M_3 v_6 v.1 v.2) FU ((0 : Int32), x6_8)).bind fun z => f_X4_measureChains_A27 k0 k1 x3_2 M_3 v_6 z
def f_X4_measureChains (k0 : Nat) (k1 : Nat) (a2 : Int32) (M : Mm) : Option Mm := lt1 ((M.1 k0 5) - (1 : Int32)) fun x3_1 => (loop (fun v => f_X4_measureChains_L7 k0 k1 a2 v.1 v.2) FU (x3_1, M)).bind fun z => f_X4_measureChains_A7 z
set_option maxRecDepth 100000 in
set_option maxHeartbeats 4000000 in
theorem t_X4_measureChains {E : Ev} {l : Launch} (htr : l.stackTraces = false) (k0 : Nat) (hk0 : isOr k0) (k1 : Nat) (hk1 : LT[k1]? = some (0, 12, [])) (a2 : Int32) (M : Mm) (r : Mm) (hf : f_X4_measureChains k0 k1 a2 M = some r) : CM E l 1 0 0 yX4_measureChains cX4_measureChains 8 none [.ref (E.1 + k0), .ref (E.1 + k1), .int a2] M none r := by
  refine CM.of htr (by decide +kernel) (Nat.le_of_ble_eq_true rfl) ?_
  intro K hE hL hl hR0 C hr hRv
  subst hE
  subst hl
  have C : Cx K cX4_measureChains RX4 1 := C
  have hB : (0 : Nat) ≤ K.1.R.cells ∧ 0 ≤ K.1.R.slots := ⟨Nat.zero_le _, Nat.zero_le _⟩
  have hL3 : 3 < K.2.2.1 := by rw [hL]; decide
  have hL4 : 4 < K.2.2.1 := by rw [hL]; decide
  have hL5 : 5 < K.2.2.1 := by rw [hL]; decide
  have hL6 : 6 < K.2.2.1 := by rw [hL]; decide
  have hL7 : 7 < K.2.2.1 := by rw [hL]; decide
  show G K (0, 0) 0 [(0, .ref (K.2.1.1 + k0)), (1, .ref (K.2.1.1 + k1)), (2, .int a2)] [] M
  unfold f_X4_measureChains at hf
  refine g_aload_n 0 C (ckD_get k_X4_measureChains_0 0 rfl) rfl rfl ?_
  refine g_getI C (ckD_get k_X4_measureChains_0 1 rfl) fk_X4_31 (T_Or hk0) rfl ?_
  refine g_iconst (v := (1 : Int32)) C (ckD_get k_X4_measureChains_0 2 rfl) (by decide) ?_
  refine g_isub C (ckD_get k_X4_measureChains_0 3 rfl) ?_
  obtain ⟨x3_1, ex3_1, hf⟩ := lt_e hf
  refine topI ex3_1 ?_
  refine g_istore_n (lv' := [(3, _), (0, _), (1, _), (2, _)]) C (ckD_get k_X4_measureChains_0 4 rfl) rfl hL3 rfl ?_
  refine G.sub [1, 2, 3, 0] rfl ?_
  obtain ⟨M_4, hx_7, hf⟩ := bd_e hf
  have hE_7 : G K (0, 0) 111 [] [] M_4 := by
    have hf : f_X4_measureChains_A7 M_4 = some r := hf
    unfold f_X4_measureChains_A7 at hf
    cases hf
    exact g_vret C (ckD_get k_X4_measureChains_1 21 rfl) hr hRv (Nat.le_refl _) (Nat.le_refl _)
  refine loop_e (x := M_4) (P := fun (v : (Int32 × Mm)) => G K (0, 0) 7 [(0, .ref (K.2.1.1 + k0)), (1, .ref (K.2.1.1 + k1)), (2, .int a2), (3, .int v.1)] [] v.2) ?_ FU _ hx_7
  intro v rr_7 hf hn_7 hz_7
  obtain ⟨x3_2, M_3⟩ := v
  have hf : f_X4_measureChains_L7 k0 k1 a2 x3_2 M_3 = some rr_7 := hf
  show G K (0, 0) 7 [(0, .ref (K.2.1.1 + k0)), (1, .ref (K.2.1.1 + k1)), (2, .int a2), (3, .int x3_2)] [] M_3
  unfold f_X4_measureChains_L7 at hf
  refine g_iload_n 3 C (ckD_get k_X4_measureChains_0 5 rfl) rfl rfl ?_
  refine g_if_lt C (ckD_get k_X4_measureChains_0 6 rfl) (fun c_5 => ?_) (fun c_5 => ?_)
  · have hf := if_t hf c_5
    refine G.sub [] rfl ?_
    cases hf
    cases hz_7 _ rfl
    exact hE_7
  · have hf := if_f hf c_5
    refine g_aload_n 0 C (ckD_get k_X4_measureChains_0 7 rfl) rfl rfl ?_
    refine g_getR C (ckD_get k_X4_measureChains_0 8 rfl) fk_X4_15 (T_Or hk0) rfl ?_
    refine g_iload_n 3 C (ckD_get k_X4_measureChains_0 9 rfl) rfl rfl ?_
    obtain ⟨v_6, hi_7, ev_6, hf⟩ := rdI_e hf
    refine n_iald C (ckD_get k_X4_measureChains_0 10 rfl) (T_Or2 hk0) hi_7 ev_6 ?_
    refine g_istore (lv' := [(4, _), (0, _), (1, _), (2, _), (3, _)]) C (ckD_get k_X4_measureChains_0 11 rfl) hL4 rfl ?_
    refine g_iconst (v := (0 : Int32)) C (ckD_get k_X4_measureChains_0 12 rfl) (by decide) ?_
    refine g_istore (lv' := [(5, _), (4, _), (0, _), (1, _), (2, _), (3, _)]) C (ckD_get k_X4_measureChains_0 13 rfl) hL5 rfl ?_
    refine g_iload_n 5 C (ckD_get k_X4_measureChains_0 14 rfl) rfl rfl ?_
    refine g_iconst (v := (1 : Int32)) C (ckD_get k_X4_measureChains_0 15 rfl) (by decide) ?_
    refine g_iadd C (ckD_get k_X4_measureChains_0 16 rfl) ?_
    obtain ⟨x6_8, ex6_8, hf⟩ := lt_e hf
    refine topI ex6_8 ?_
    refine g_istore (lv' := [(6, _), (5, _), (4, _), (0, _), (1, _), (2, _), (3, _)]) C (ckD_get k_X4_measureChains_0 17 rfl) hL6 rfl ?_
    refine G.sub [3, 4, 5, 6, 2, 1, 0] rfl ?_
    obtain ⟨x5_11, hx_27, hf⟩ := bd_e hf
    have hE_27 : G K (0, 0) 91 [(0, .ref (K.2.1.1 + k0)), (1, .ref (K.2.1.1 + k1)), (2, .int a2), (3, .int x3_2), (4, .int v_6), (5, .int x5_11)] [] M_3 := by
      have hf : f_X4_measureChains_A27 k0 k1 x3_2 M_3 v_6 x5_11 = some rr_7 := hf
      unfold f_X4_measureChains_A27 at hf
      refine g_aload_n 0 C (ckD_get k_X4_measureChains_1 10 rfl) rfl rfl ?_
      refine g_getR C (ckD_get k_X4_measureChains_1 11 rfl) fk_X4_21 (T_Or hk0) rfl ?_
      refine g_iload 4 C (ckD_get k_X4_measureChains_1 12 rfl) rfl ?_
      refine g_aload_n 1 C (ckD_get k_X4_measureChains_1 13 rfl) rfl rfl ?_
      refine g_iload 4 C (ckD_get k_X4_measureChains_1 14 rfl) rfl ?_
      obtain ⟨v_12, hi_13, ev_12, hf⟩ := rdI_e hf
      refine n_iald C (ckD_get k_X4_measureChains_1 15 rfl) hk1 hi_13 ev_12 ?_
      refine g_iload 5 C (ckD_get k_X4_measureChains_1 16 rfl) rfl ?_
      refine g_iadd C (ckD_get k_X4_measureChains_1 17 rfl) ?_
      obtain ⟨M_14, hi_15, eM_14, hf⟩ := wrI_e hf
      refine n_iast C (ckD_get k_X4_measureChains_1 18 rfl) (T_Or4 hk0) hi_15 eM_14 ?_
      obtain ⟨x3_16, ex3_16, hf⟩ := lt_e hf
      refine g_iinc (lv' := [(3, _), (0, _), (1, _), (2, _), (4, _), (5, _)]) 3 C (ckD_get k_X4_measureChains_1 19 rfl) rfl ex3_16 hL3 rfl ?_
      refine g_goto C (ckD_get k_X4_measureChains_1 20 rfl) ?_
      refine G.sub [1, 2, 3, 0] rfl ?_
      cases hf
      exact hn_7 _ rfl
    refine loop_e (x := x5_11) (P := fun (v : (Int32 × Int32)) => G K (0, 0) 27 [(0, .ref (K.2.1.1 + k0)), (1, .ref (K.2.1.1 + k1)), (2, .int a2), (3, .int x3_2), (4, .int v_6), (5, .int v.1), (6, .int v.2)] [] M_3) ?_ FU _ hx_27
    intro v rr_27 hf hn_27 hz_27
    obtain ⟨x5_9, x6_10⟩ := v
    have hf : f_X4_measureChains_L27 k0 a2 M_3 v_6 x5_9 x6_10 = some rr_27 := hf
    show G K (0, 0) 27 [(0, .ref (K.2.1.1 + k0)), (1, .ref (K.2.1.1 + k1)), (2, .int a2), (3, .int x3_2), (4, .int v_6), (5, .int x5_9), (6, .int x6_10)] [] M_3
    unfold f_X4_measureChains_L27 at hf
    refine g_iload 6 C (ckD_get k_X4_measureChains_0 18 rfl) rfl ?_
    refine g_aload_n 0 C (ckD_get k_X4_measureChains_0 19 rfl) rfl rfl ?_
    refine g_getI C (ckD_get k_X4_measureChains_0 20 rfl) fk_X4_31 (T_Or hk0) rfl ?_
    refine g_icmp_ge C (ckD_get k_X4_measureChains_0 21 rfl) (fun c_17 => ?_) (fun c_17 => ?_)
    · have hf := if_t hf c_17
      refine G.sub [0, 1, 2, 3, 4, 5] rfl ?_
      cases hf
      cases hz_27 _ rfl
      exact hE_27
    · have hf := if_f hf c_17
      refine g_aload_n 0 C (ckD_get k_X4_measureChains_0 22 rfl) rfl rfl ?_
      refine g_getR C (ckD_get k_X4_measureChains_0 23 rfl) fk_X4_15 (T_Or hk0) rfl ?_
      refine g_iload 6 C (ckD_get k_X4_measureChains_0 24 rfl) rfl ?_
      obtain ⟨v_18, hi_19, ev_18, hf⟩ := rdI_e hf
      refine n_iald C (ckD_get k_X4_measureChains_0 25 rfl) (T_Or2 hk0) hi_19 ev_18 ?_
      refine g_istore (lv' := [(7, _), (0, _), (1, _), (2, _), (3, _), (4, _), (5, _), (6, _)]) C (ckD_get k_X4_measureChains_0 26 rfl) hL7 rfl ?_
      refine g_aload_n 1 C (ckD_get k_X4_measureChains_0 27 rfl) rfl rfl ?_
      refine g_getR C (ckD_get k_X4_measureChains_0 28 rfl) fk_X4_18 (T_Or hk0) rfl ?_
      refine g_iload 5 C (ckD_get k_X4_measureChains_0 29 rfl) rfl ?_
      obtain ⟨v_20, hi_21, ev_20, hf⟩ := rdI_e hf
      refine n_iald C (ckD_get k_X4_measureChains_0 30 rfl) (T_Or3 hk0) hi_21 ev_20 ?_
      refine g_aload_n 1 C (ckD_get k_X4_measureChains_0 31 rfl) rfl rfl ?_
      refine g_getR C (ckD_get k_X4_measureChains_0 32 rfl) fk_X4_18 (T_Or hk0) rfl ?_
      refine g_iload 0 C (ckD_get k_X4_measureChains_0 33 rfl) rfl ?_
      obtain ⟨v_22, hi_23, ev_22, hf⟩ := rdI_e hf
      refine n_iald C (ckD_get k_X4_measureChains_0 34 rfl) (T_Or3 hk0) hi_23 ev_22 ?_
      have hJ_67 : ∀ (s_24 : Int32), f_X4_measureChains_J67 k0 a2 M_3 x5_9 x6_10 v_18 s_24 = some rr_27 → G K (0, 0) 67 [(0, .ref (K.2.1.1 + k0)), (1, .ref (K.2.1.1 + k1)), (2, .int a2), (3, .int x3_2), (4, .int v_6), (5, .int x5_9), (6, .int x6_10), (7, .int v_18)] [.int s_24] M_3 := by
        intro s_24 hf
        unfold f_X4_measureChains_J67 at hf
        refine g_iload_n 2 C (ckD_get k_X4_measureChains_0 39 rfl) rfl rfl ?_
        have hJ_85 : ∀ (p5_25 : Int32), f_X4_measureChains_J85 x6_10 p5_25 = some rr_27 → G K (0, 0) 85 [(0, .ref (K.2.1.1 + k0)), (1, .ref (K.2.1.1 + k1)), (2, .int a2), (3, .int x3_2), (4, .int v_6), (5, .int p5_25), (6, .int x6_10)] [] M_3 := by
          intro p5_25 hf
          unfold f_X4_measureChains_J85 at hf
          obtain ⟨x6_26, ex6_26, hf⟩ := lt_e hf
          refine g_iinc (lv' := [(6, _), (0, _), (1, _), (2, _), (3, _), (4, _), (5, _)]) 6 C (ckD_get k_X4_measureChains_1 8 rfl) rfl ex6_26 hL6 rfl ?_
          refine g_goto C (ckD_get k_X4_measureChains_1 9 rfl) ?_
          refine G.sub [1, 2, 3, 4, 5, 6, 0] rfl ?_
          cases hf
          exact hn_27 _ rfl
        refine g_icmp_ne C (ckD_get k_X4_measureChains_1 0 rfl) (fun c_27 => ?_) (fun c_27 => ?_)
        · have hf := if_f hf c_27
          refine G.sub [0, 1, 2, 3, 4, 5, 6] rfl ?_
          exact hJ_85 _ hf
        · have hf := if_t hf c_27
          refine g_iload 5 C (ckD_get k_X4_measureChains_1 1 rfl) rfl ?_
          refine g_aload_n 0 C (ckD_get k_X4_measureChains_1 2 rfl) rfl rfl ?_
          refine g_getR C (ckD_get k_X4_measureChains_1 3 rfl) fk_X4_21 (T_Or hk0) rfl ?_
          refine g_iload 7 C (ckD_get k_X4_measureChains_1 4 rfl) rfl ?_
          obtain ⟨v_28, hi_29, ev_28, hf⟩ := rdI_e hf
          refine n_iald C (ckD_get k_X4_measureChains_1 5 rfl) (T_Or4 hk0) hi_29 ev_28 ?_
          refine n_mmax C (ckD_get k_X4_measureChains_1 6 rfl) mk_X4_50 (by decide) (Nat.le_of_ble_eq_true rfl) hB ?_
          obtain ⟨x5_30, ex5_30, hf⟩ := lt_e hf
          refine topI ex5_30 ?_
          refine g_istore (lv' := [(5, _), (0, _), (1, _), (2, _), (3, _), (4, _), (6, _), (7, _)]) C (ckD_get k_X4_measureChains_1 7 rfl) hL5 rfl ?_
          refine G.sub [1, 2, 3, 4, 5, 0, 6] rfl ?_
          exact hJ_85 _ hf
      refine g_icmp_ge C (ckD_get k_X4_measureChains_0 35 rfl) (fun c_31 => ?_) (fun c_31 => ?_)
      · have hf := if_t hf c_31
        refine g_iconst (v := (0 : Int32)) C (ckD_get k_X4_measureChains_0 38 rfl) (by decide) ?_
        refine G.sub [1, 2, 3, 4, 5, 6, 7, 0] rfl ?_
        exact hJ_67 _ hf
      · have hf := if_f hf c_31
        refine g_iconst (v := (1 : Int32)) C (ckD_get k_X4_measureChains_0 36 rfl) (by decide) ?_
        refine g_goto C (ckD_get k_X4_measureChains_0 37 rfl) ?_
        refine G.sub [1, 2, 3, 4, 5, 6, 7, 0] rfl ?_
        exact hJ_67 _ hf

set_option maxRecDepth 20000 in
theorem k_X4_roomRight_0 : ckD cX4_roomRight [(0, .aload_n 0, 1, 1, 0), (1, .aload_n 1, 1, 2, 0), (2, .getfield 47, 3, 5, 0), (5, .iconst 1, 1, 6, 0), (6, .invokevirtual 62, 3, 9, 0), (9, .aload_n 1, 1, 10, 0), (10, .invokevirtual 66, 3, 13, 0), (13, .aload_n 1, 1, 14, 0), (14, .getfield 42, 3, 17, 0), (17, .iload_n 2, 1, 18, 0), (18, .iaload, 1, 19, 0), (19, .isub, 1, 20, 0), (20, .aload_n 0, 1, 21, 0), (21, .getfield 21, 3, 24, 0), (24, .iload_n 2, 1, 25, 0), (25, .iaload, 1, 26, 0), (26, .isub, 1, 27, 0), (27, .ireturn, 1, 28, 0)] = true := by decide +kernel
def f_X4_roomRight (k0 : Nat) (k1 : Nat) (a2 : Int32) (M : Mm) : Option (Int32 × Mm) := (f_X4_measureChains k0 (k1 + 3) (1 : Int32) M).bind fun M_2 => (f_X2_wide k1 M_2).bind fun r_4 => rdI 12 M_2 (k1 + 1) a2 fun v_5 => rdI 12 M_2 (k0 + 4) a2 fun v_7 => some (((r_4 - v_5) - v_7), M_2)
set_option maxRecDepth 100000 in
set_option maxHeartbeats 4000000 in
theorem t_X4_roomRight {E : Ev} {l : Launch} (htr : l.stackTraces = false) (k0 : Nat) (hk0 : isOr k0) (k1 : Nat) (hk1 : isGr k1) (a2 : Int32) (M : Mm) (r : (Int32 × Mm)) (hf : f_X4_roomRight k0 k1 a2 M = some r) : CM E l 3 0 0 yX4_roomRight cX4_roomRight 3 (some .int) [.ref (E.1 + k0), .ref (E.1 + k1), .int a2] M (some (.int r.1)) r.2 := by
  refine CM.of htr (by decide +kernel) (Nat.le_of_ble_eq_true rfl) ?_
  intro K hE hL hl hR0 C hr hRv
  subst hE
  subst hl
  have C : Cx K cX4_roomRight RX4 3 := C
  have hB : (0 : Nat) ≤ K.1.R.cells ∧ 0 ≤ K.1.R.slots := ⟨Nat.zero_le _, Nat.zero_le _⟩
  show G K (0, 0) 0 [(0, .ref (K.2.1.1 + k0)), (1, .ref (K.2.1.1 + k1)), (2, .int a2)] [] M
  unfold f_X4_roomRight at hf
  refine g_aload_n 0 C (ckD_get k_X4_roomRight_0 0 rfl) rfl rfl ?_
  refine g_aload_n 1 C (ckD_get k_X4_roomRight_0 1 rfl) rfl rfl ?_
  refine g_getR C (ckD_get k_X4_roomRight_0 2 rfl) fk_X4_47 (T_Gr hk1) rfl ?_
  refine g_iconst (v := (1 : Int32)) C (ckD_get k_X4_roomRight_0 3 rfl) (by decide) ?_
  obtain ⟨M_2, hr_1, hf⟩ := bd_e hf
  refine n_cV [.ref (K.2.1.1 + (k1 + 3)), .int (1 : Int32)] [] C (ckD_get k_X4_roomRight_0 4 rfl) vk_X4_62 (t_X4_measureChains C.tr _ hk0 _ (T_Gr3 hk1) _ _ _ hr_1) (T_Or hk0) rfl rfl (Nat.le_of_ble_eq_true rfl) (by decide) hB rfl ?_
  refine g_aload_n 1 C (ckD_get k_X4_roomRight_0 5 rfl) rfl rfl ?_
  obtain ⟨r_4, hr_3, hf⟩ := bd_e hf
  refine n_cV [] [] C (ckD_get k_X4_roomRight_0 6 rfl) vk_X4_66 (t_X2_wide C.tr _ hk1 _ _ hr_3) (T_Gr hk1) rfl rfl (Nat.le_of_ble_eq_true rfl) (by decide) hB rfl ?_
  refine g_aload_n 1 C (ckD_get k_X4_roomRight_0 7 rfl) rfl rfl ?_
  refine g_getR C (ckD_get k_X4_roomRight_0 8 rfl) fk_X4_42 (T_Gr hk1) rfl ?_
  refine g_iload_n 2 C (ckD_get k_X4_roomRight_0 9 rfl) rfl rfl ?_
  obtain ⟨v_5, hi_6, ev_5, hf⟩ := rdI_e hf
  refine n_iald C (ckD_get k_X4_roomRight_0 10 rfl) (T_Gr1 hk1) hi_6 ev_5 ?_
  refine g_isub C (ckD_get k_X4_roomRight_0 11 rfl) ?_
  refine g_aload_n 0 C (ckD_get k_X4_roomRight_0 12 rfl) rfl rfl ?_
  refine g_getR C (ckD_get k_X4_roomRight_0 13 rfl) fk_X4_21 (T_Or hk0) rfl ?_
  refine g_iload_n 2 C (ckD_get k_X4_roomRight_0 14 rfl) rfl rfl ?_
  obtain ⟨v_7, hi_8, ev_7, hf⟩ := rdI_e hf
  refine n_iald C (ckD_get k_X4_roomRight_0 15 rfl) (T_Or4 hk0) hi_8 ev_7 ?_
  refine g_isub C (ckD_get k_X4_roomRight_0 16 rfl) ?_
  cases hf
  exact g_iret C (ckD_get k_X4_roomRight_0 17 rfl) hr hRv (Nat.le_refl _) (Nat.le_refl _)

set_option maxRecDepth 20000 in
theorem k_X4_roomUp_0 : ckD cX4_roomUp [(0, .aload_n 0, 1, 1, 0), (1, .aload_n 1, 1, 2, 0), (2, .getfield 59, 3, 5, 0), (5, .iconst 0, 1, 6, 0), (6, .invokevirtual 62, 3, 9, 0), (9, .aload_n 1, 1, 10, 0), (10, .invokevirtual 70, 3, 13, 0), (13, .aload_n 1, 1, 14, 0), (14, .getfield 56, 3, 17, 0), (17, .iload_n 2, 1, 18, 0), (18, .iaload, 1, 19, 0), (19, .isub, 1, 20, 0), (20, .aload_n 0, 1, 21, 0), (21, .getfield 21, 3, 24, 0), (24, .iload_n 2, 1, 25, 0), (25, .iaload, 1, 26, 0), (26, .isub, 1, 27, 0), (27, .ireturn, 1, 28, 0)] = true := by decide +kernel
def f_X4_roomUp (k0 : Nat) (k1 : Nat) (a2 : Int32) (M : Mm) : Option (Int32 × Mm) := (f_X4_measureChains k0 (k1 + 4) (0 : Int32) M).bind fun M_2 => (f_X2_high k1 M_2).bind fun r_4 => rdI 12 M_2 (k1 + 2) a2 fun v_5 => rdI 12 M_2 (k0 + 4) a2 fun v_7 => some (((r_4 - v_5) - v_7), M_2)
set_option maxRecDepth 100000 in
set_option maxHeartbeats 4000000 in
theorem t_X4_roomUp {E : Ev} {l : Launch} (htr : l.stackTraces = false) (k0 : Nat) (hk0 : isOr k0) (k1 : Nat) (hk1 : isGr k1) (a2 : Int32) (M : Mm) (r : (Int32 × Mm)) (hf : f_X4_roomUp k0 k1 a2 M = some r) : CM E l 3 0 0 yX4_roomUp cX4_roomUp 3 (some .int) [.ref (E.1 + k0), .ref (E.1 + k1), .int a2] M (some (.int r.1)) r.2 := by
  refine CM.of htr (by decide +kernel) (Nat.le_of_ble_eq_true rfl) ?_
  intro K hE hL hl hR0 C hr hRv
  subst hE
  subst hl
  have C : Cx K cX4_roomUp RX4 3 := C
  have hB : (0 : Nat) ≤ K.1.R.cells ∧ 0 ≤ K.1.R.slots := ⟨Nat.zero_le _, Nat.zero_le _⟩
  show G K (0, 0) 0 [(0, .ref (K.2.1.1 + k0)), (1, .ref (K.2.1.1 + k1)), (2, .int a2)] [] M
  unfold f_X4_roomUp at hf
  refine g_aload_n 0 C (ckD_get k_X4_roomUp_0 0 rfl) rfl rfl ?_
  refine g_aload_n 1 C (ckD_get k_X4_roomUp_0 1 rfl) rfl rfl ?_
  refine g_getR C (ckD_get k_X4_roomUp_0 2 rfl) fk_X4_59 (T_Gr hk1) rfl ?_
  refine g_iconst (v := (0 : Int32)) C (ckD_get k_X4_roomUp_0 3 rfl) (by decide) ?_
  obtain ⟨M_2, hr_1, hf⟩ := bd_e hf
  refine n_cV [.ref (K.2.1.1 + (k1 + 4)), .int (0 : Int32)] [] C (ckD_get k_X4_roomUp_0 4 rfl) vk_X4_62 (t_X4_measureChains C.tr _ hk0 _ (T_Gr4 hk1) _ _ _ hr_1) (T_Or hk0) rfl rfl (Nat.le_of_ble_eq_true rfl) (by decide) hB rfl ?_
  refine g_aload_n 1 C (ckD_get k_X4_roomUp_0 5 rfl) rfl rfl ?_
  obtain ⟨r_4, hr_3, hf⟩ := bd_e hf
  refine n_cV [] [] C (ckD_get k_X4_roomUp_0 6 rfl) vk_X4_70 (t_X2_high C.tr _ hk1 _ _ hr_3) (T_Gr hk1) rfl rfl (Nat.le_of_ble_eq_true rfl) (by decide) hB rfl ?_
  refine g_aload_n 1 C (ckD_get k_X4_roomUp_0 7 rfl) rfl rfl ?_
  refine g_getR C (ckD_get k_X4_roomUp_0 8 rfl) fk_X4_56 (T_Gr hk1) rfl ?_
  refine g_iload_n 2 C (ckD_get k_X4_roomUp_0 9 rfl) rfl rfl ?_
  obtain ⟨v_5, hi_6, ev_5, hf⟩ := rdI_e hf
  refine n_iald C (ckD_get k_X4_roomUp_0 10 rfl) (T_Gr2 hk1) hi_6 ev_5 ?_
  refine g_isub C (ckD_get k_X4_roomUp_0 11 rfl) ?_
  refine g_aload_n 0 C (ckD_get k_X4_roomUp_0 12 rfl) rfl rfl ?_
  refine g_getR C (ckD_get k_X4_roomUp_0 13 rfl) fk_X4_21 (T_Or hk0) rfl ?_
  refine g_iload_n 2 C (ckD_get k_X4_roomUp_0 14 rfl) rfl rfl ?_
  obtain ⟨v_7, hi_8, ev_7, hf⟩ := rdI_e hf
  refine n_iald C (ckD_get k_X4_roomUp_0 15 rfl) (T_Or4 hk0) hi_8 ev_7 ?_
  refine g_isub C (ckD_get k_X4_roomUp_0 16 rfl) ?_
  cases hf
  exact g_iret C (ckD_get k_X4_roomUp_0 17 rfl) hr hRv (Nat.le_refl _) (Nat.le_refl _)

set_option maxRecDepth 20000 in
theorem k_X4_noteAheadInOne_0 : ckD cX4_noteAheadInOne [(0, .iconst 0, 1, 1, 0), (1, .istore_n 2, 1, 2, 0), (2, .iload_n 2, 1, 3, 0), (3, .aload_n 0, 1, 4, 0), (4, .getfield 31, 3, 7, 0), (7, .if_icmp .ge 92, 3, 10, 99), (10, .aload_n 0, 1, 11, 0), (11, .getfield 24, 3, 14, 0), (14, .iload_n 2, 1, 15, 0), (15, .iconst 0, 1, 16, 0), (16, .iastore, 1, 17, 0), (17, .iconst 0, 1, 18, 0), (18, .istore_n 3, 1, 19, 0), (19, .iload_n 3, 1, 20, 0), (20, .aload_n 0, 1, 21, 0), (21, .getfield 31, 3, 24, 0), (24, .if_icmp .ge 69, 3, 27, 93), (27, .aload_n 1, 1, 28, 0), (28, .iload_n 3, 1, 29, 0), (29, .iload_n 2, 1, 30, 0), (30, .invokevirtual 85, 3, 33, 0), (33, .ifCond .ne 12, 3, 36, 45), (36, .aload_n 1, 1, 37, 0), (37, .iload_n 2, 1, 38, 0), (38, .iload_n 3, 1, 39, 0), (39, .invokevirtual 89, 3, 42, 0), (42, .ifCond .eq 7, 3, 45, 49), (45, .iconst 1, 1, 46, 0), (46, .goto 4, 3, 49, 50), (49, .iconst 0, 1, 50, 0), (50, .istore 4, 2, 52, 0), (52, .iload 4, 2, 54, 0), (54, .ifCond .eq 33, 3, 57, 87), (57, .aload_n 1, 1, 58, 0), (58, .iload_n 3, 1, 59, 0), (59, .iload_n 2, 1, 60, 0), (60, .invokevirtual 89, 3, 63, 0), (63, .ifCond .ne 24, 3, 66, 87), (66, .aload_n 1, 1, 67, 0), (67, .iload_n 2, 1, 68, 0)] = true := by decide +kernel
set_option maxRecDepth 20000 in
theorem k_X4_noteAheadInOne_1 : ckD cX4_noteAheadInOne [(68, .iload_n 3, 1, 69, 0), (69, .invokevirtual 85, 3, 72, 0), (72, .ifCond .ne 15, 3, 75, 87), (75, .aload_n 0, 1, 76, 0), (76, .getfield 24, 3, 79, 0), (79, .iload_n 2, 1, 80, 0), (80, .dup2, 1, 81, 0), (81, .iaload, 1, 82, 0), (82, .iconst 1, 1, 83, 0), (83, .iload_n 3, 1, 84, 0), (84, .ishl, 1, 85, 0), (85, .ior, 1, 86, 0), (86, .iastore, 1, 87, 0), (87, .iinc 3 1, 3, 90, 0), (90, .goto (-71), 3, 93, 19), (93, .iinc 2 1, 3, 96, 0), (96, .goto (-94), 3, 99, 2), (99, .return_, 1, 100, 0)] = true := by decide +kernel
def f_X4_noteAheadInOne_A2 (M_3 : Mm) : Option Mm := some M_3
def f_X4_noteAheadInOne_A19 (x2_1 : Int32) (M_9 : Mm) : Option ((Int32 × Mm) ⊕ Mm) := lt1 (x2_1 + 1) fun x2_10 => some (.inl (x2_10, M_9))
def f_X4_noteAheadInOne_J87 (x3_7 : Int32) (M_15 : Mm) : Option ((Int32 × Mm) ⊕ Mm) := lt1 (x3_7 + 1) fun x3_16 => some (.inl (x3_16, M_15))
def f_X4_noteAheadInOne_J50 (k0 : Nat) (k1 : Nat) (x2_1 : Int32) (x3_7 : Int32) (M_8 : Mm) (s_14 : Int32) : Option ((Int32 × Mm) ⊕ Mm) := if s_14 = 0 then f_X4_noteAheadInOne_J87 x3_7 M_8 else (f_X2_isBelow k1 x3_7 x2_1 M_8).bind fun r_19 => if r_19 = 0 then (f_X2_isLeft k1 x2_1 x3_7 M_8).bind fun r_22 => if r_22 = 0 then rdI 12 M_8 (k0 + 5) x2_1 fun v_24 => wrI 12 M_8 (k0 + 5) x2_1 (v_24 ||| ((1 : Int32) <<< (x3_7 &&& 31))) fun M_26 => f_X4_noteAheadInOne_J87 x3_7 M_26 else f_X4_noteAheadInOne_J87 x3_7 M_8 else f_X4_noteAheadInOne_J87 x3_7 M_8
def f_X4_noteAheadInOne_J45 (k0 : Nat) (k1 : Nat) (x2_1 : Int32) (x3_7 : Int32) (M_8 : Mm) (_ : Unit) : Option ((Int32 × Mm) ⊕ Mm) := f_X4_noteAheadInOne_J50 k0 k1 x2_1 x3_7 M_8 (1 : Int32)
def f_X4_noteAheadInOne_L19 (k0 : Nat) (k1 : Nat) (x2_1 : Int32) (x3_7 : Int32) (M_8 : Mm) : Option ((Int32 × Mm) ⊕ Mm) := if (M_8.1 k0 5) ≤ x3_7 then some (.inr M_8) else (f_X2_isLeft k1 x3_7 x2_1 M_8).bind fun r_13 => if r_13 = 0 then (f_X2_isBelow k1 x2_1 x3_7 M_8).bind fun r_30 => if r_30 = 0 then f_X4_noteAheadInOne_J50 k0 k1 x2_1 x3_7 M_8 (0 : Int32) else f_X4_noteAheadInOne_J45 k0 k1 x2_1 x3_7 M_8 () else f_X4_noteAheadInOne_J45 k0 k1 x2_1 x3_7 M_8 ()
def f_X4_noteAheadInOne_L2 (k0 : Nat) (k1 : Nat) (x2_1 : Int32) (M_2 : Mm) : Option ((Int32 × Mm) ⊕ Mm) := if (M_2.1 k0 5) ≤ x2_1 then some (.inr M_2) else wrI 12 M_2 (k0 + 5) x2_1 (0 : Int32) fun M_5 => (loop (fun v => f_X4_noteAheadInOne_L19 k0 k1 x2_1 v.1 v.2) FU ((0 : Int32), M_5)).bind fun z => f_X4_noteAheadInOne_A19 x2_1 z
def f_X4_noteAheadInOne (k0 : Nat) (k1 : Nat) (M : Mm) : Option Mm := (loop (fun v => f_X4_noteAheadInOne_L2 k0 k1 v.1 v.2) FU ((0 : Int32), M)).bind fun z => f_X4_noteAheadInOne_A2 z
set_option maxRecDepth 100000 in
set_option maxHeartbeats 4000000 in
theorem t_X4_noteAheadInOne {E : Ev} {l : Launch} (htr : l.stackTraces = false) (k0 : Nat) (hk0 : isOr k0) (k1 : Nat) (hk1 : isGr k1) (M : Mm) (r : Mm) (hf : f_X4_noteAheadInOne k0 k1 M = some r) : CM E l 1 0 0 yX4_noteAheadInOne cX4_noteAheadInOne 5 none [.ref (E.1 + k0), .ref (E.1 + k1)] M none r := by
  refine CM.of htr (by decide +kernel) (Nat.le_of_ble_eq_true rfl) ?_
  intro K hE hL hl hR0 C hr hRv
  subst hE
  subst hl
  have C : Cx K cX4_noteAheadInOne RX4 1 := C
  have hB : (0 : Nat) ≤ K.1.R.cells ∧ 0 ≤ K.1.R.slots := ⟨Nat.zero_le _, Nat.zero_le _⟩
  have hL2 : 2 < K.2.2.1 := by rw [hL]; decide
  have hL3 : 3 < K.2.2.1 := by rw [hL]; decide
  have hL4 : 4 < K.2.2.1 := by rw [hL]; decide
  show G K (0, 0) 0 [(0, .ref (K.2.1.1 + k0)), (1, .ref (K.2.1.1 + k1))] [] M
  unfold f_X4_noteAheadInOne at hf
  refine g_iconst (v := (0 : Int32)) C (ckD_get k_X4_noteAheadInOne_0 0 rfl) (by decide) ?_
  refine g_istore_n (lv' := [(2, _), (0, _), (1, _)]) C (ckD_get k_X4_noteAheadInOne_0 1 rfl) rfl hL2 rfl ?_
  refine G.sub [1, 2, 0] rfl ?_
  obtain ⟨M_3, hx_2, hf⟩ := bd_e hf
  have hE_2 : G K (0, 0) 99 [] [] M_3 := by
    have hf : f_X4_noteAheadInOne_A2 M_3 = some r := hf
    unfold f_X4_noteAheadInOne_A2 at hf
    cases hf
    exact g_vret C (ckD_get k_X4_noteAheadInOne_1 17 rfl) hr hRv (Nat.le_refl _) (Nat.le_refl _)
  refine loop_e (x := M_3) (P := fun (v : (Int32 × Mm)) => G K (0, 0) 2 [(0, .ref (K.2.1.1 + k0)), (1, .ref (K.2.1.1 + k1)), (2, .int v.1)] [] v.2) ?_ FU _ hx_2
  intro v rr_2 hf hn_2 hz_2
  obtain ⟨x2_1, M_2⟩ := v
  have hf : f_X4_noteAheadInOne_L2 k0 k1 x2_1 M_2 = some rr_2 := hf
  show G K (0, 0) 2 [(0, .ref (K.2.1.1 + k0)), (1, .ref (K.2.1.1 + k1)), (2, .int x2_1)] [] M_2
  unfold f_X4_noteAheadInOne_L2 at hf
  refine g_iload_n 2 C (ckD_get k_X4_noteAheadInOne_0 2 rfl) rfl rfl ?_
  refine g_aload_n 0 C (ckD_get k_X4_noteAheadInOne_0 3 rfl) rfl rfl ?_
  refine g_getI C (ckD_get k_X4_noteAheadInOne_0 4 rfl) fk_X4_31 (T_Or hk0) rfl ?_
  refine g_icmp_ge C (ckD_get k_X4_noteAheadInOne_0 5 rfl) (fun c_4 => ?_) (fun c_4 => ?_)
  · have hf := if_t hf c_4
    refine G.sub [] rfl ?_
    cases hf
    cases hz_2 _ rfl
    exact hE_2
  · have hf := if_f hf c_4
    refine g_aload_n 0 C (ckD_get k_X4_noteAheadInOne_0 6 rfl) rfl rfl ?_
    refine g_getR C (ckD_get k_X4_noteAheadInOne_0 7 rfl) fk_X4_24 (T_Or hk0) rfl ?_
    refine g_iload_n 2 C (ckD_get k_X4_noteAheadInOne_0 8 rfl) rfl rfl ?_
    refine g_iconst (v := (0 : Int32)) C (ckD_get k_X4_noteAheadInOne_0 9 rfl) (by decide) ?_
    obtain ⟨M_5, hi_6, eM_5, hf⟩ := wrI_e hf
    refine n_iast C (ckD_get k_X4_noteAheadInOne_0 10 rfl) (T_Or5 hk0) hi_6 eM_5 ?_
    refine g_iconst (v := (0 : Int32)) C (ckD_get k_X4_noteAheadInOne_0 11 rfl) (by decide) ?_
    refine g_istore_n (lv' := [(3, _), (0, _), (1, _), (2, _)]) C (ckD_get k_X4_noteAheadInOne_0 12 rfl) rfl hL3 rfl ?_
    refine G.sub [1, 2, 3, 0] rfl ?_
    obtain ⟨M_9, hx_19, hf⟩ := bd_e hf
    have hE_19 : G K (0, 0) 93 [(0, .ref (K.2.1.1 + k0)), (1, .ref (K.2.1.1 + k1)), (2, .int x2_1)] [] M_9 := by
      have hf : f_X4_noteAheadInOne_A19 x2_1 M_9 = some rr_2 := hf
      unfold f_X4_noteAheadInOne_A19 at hf
      obtain ⟨x2_10, ex2_10, hf⟩ := lt_e hf
      refine g_iinc (lv' := [(2, _), (0, _), (1, _)]) 2 C (ckD_get k_X4_noteAheadInOne_1 15 rfl) rfl ex2_10 hL2 rfl ?_
      refine g_goto C (ckD_get k_X4_noteAheadInOne_1 16 rfl) ?_
      refine G.sub [1, 2, 0] rfl ?_
      cases hf
      exact hn_2 _ rfl
    refine loop_e (x := M_9) (P := fun (v : (Int32 × Mm)) => G K (0, 0) 19 [(0, .ref (K.2.1.1 + k0)), (1, .ref (K.2.1.1 + k1)), (2, .int x2_1), (3, .int v.1)] [] v.2) ?_ FU _ hx_19
    intro v rr_19 hf hn_19 hz_19
    obtain ⟨x3_7, M_8⟩ := v
    have hf : f_X4_noteAheadInOne_L19 k0 k1 x2_1 x3_7 M_8 = some rr_19 := hf
    show G K (0, 0) 19 [(0, .ref (K.2.1.1 + k0)), (1, .ref (K.2.1.1 + k1)), (2, .int x2_1), (3, .int x3_7)] [] M_8
    unfold f_X4_noteAheadInOne_L19 at hf
    refine g_iload_n 3 C (ckD_get k_X4_noteAheadInOne_0 13 rfl) rfl rfl ?_
    refine g_aload_n 0 C (ckD_get k_X4_noteAheadInOne_0 14 rfl) rfl rfl ?_
    refine g_getI C (ckD_get k_X4_noteAheadInOne_0 15 rfl) fk_X4_31 (T_Or hk0) rfl ?_
    refine g_icmp_ge C (ckD_get k_X4_noteAheadInOne_0 16 rfl) (fun c_11 => ?_) (fun c_11 => ?_)
    · have hf := if_t hf c_11
      refine G.sub [0, 1, 2] rfl ?_
      cases hf
      cases hz_19 _ rfl
      exact hE_19
    · have hf := if_f hf c_11
      refine g_aload_n 1 C (ckD_get k_X4_noteAheadInOne_0 17 rfl) rfl rfl ?_
      refine g_iload_n 3 C (ckD_get k_X4_noteAheadInOne_0 18 rfl) rfl rfl ?_
      refine g_iload_n 2 C (ckD_get k_X4_noteAheadInOne_0 19 rfl) rfl rfl ?_
      obtain ⟨r_13, hr_12, hf⟩ := bd_e hf
      refine n_cV [.int x3_7, .int x2_1] [] C (ckD_get k_X4_noteAheadInOne_0 20 rfl) vk_X4_85 (t_X2_isLeft C.tr _ hk1 _ _ _ _ hr_12) (T_Gr hk1) rfl rfl (Nat.le_of_ble_eq_true rfl) (by decide) hB rfl ?_
      have hJ_50 : ∀ (s_14 : Int32), f_X4_noteAheadInOne_J50 k0 k1 x2_1 x3_7 M_8 s_14 = some rr_19 → G K (0, 0) 50 [(0, .ref (K.2.1.1 + k0)), (1, .ref (K.2.1.1 + k1)), (2, .int x2_1), (3, .int x3_7)] [.int s_14] M_8 := by
        intro s_14 hf
        unfold f_X4_noteAheadInOne_J50 at hf
        refine g_istore (lv' := [(4, _), (0, _), (1, _), (2, _), (3, _)]) C (ckD_get k_X4_noteAheadInOne_0 30 rfl) hL4 rfl ?_
        refine g_iload 0 C (ckD_get k_X4_noteAheadInOne_0 31 rfl) rfl ?_
        have hJ_87 : ∀ (M_15 : Mm), f_X4_noteAheadInOne_J87 x3_7 M_15 = some rr_19 → G K (0, 0) 87 [(0, .ref (K.2.1.1 + k0)), (1, .ref (K.2.1.1 + k1)), (2, .int x2_1), (3, .int x3_7)] [] M_15 := by
          intro M_15 hf
          unfold f_X4_noteAheadInOne_J87 at hf
          obtain ⟨x3_16, ex3_16, hf⟩ := lt_e hf
          refine g_iinc (lv' := [(3, _), (0, _), (1, _), (2, _)]) 3 C (ckD_get k_X4_noteAheadInOne_1 13 rfl) rfl ex3_16 hL3 rfl ?_
          refine g_goto C (ckD_get k_X4_noteAheadInOne_1 14 rfl) ?_
          refine G.sub [1, 2, 3, 0] rfl ?_
          cases hf
          exact hn_19 _ rfl
        refine g_if_eq C (ckD_get k_X4_noteAheadInOne_0 32 rfl) (fun c_17 => ?_) (fun c_17 => ?_)
        · have hf := if_t hf c_17
          refine G.sub [1, 2, 3, 4] rfl ?_
          exact hJ_87 _ hf
        · have hf := if_f hf c_17
          refine g_aload_n 2 C (ckD_get k_X4_noteAheadInOne_0 33 rfl) rfl rfl ?_
          refine g_iload_n 4 C (ckD_get k_X4_noteAheadInOne_0 34 rfl) rfl rfl ?_
          refine g_iload_n 3 C (ckD_get k_X4_noteAheadInOne_0 35 rfl) rfl rfl ?_
          obtain ⟨r_19, hr_18, hf⟩ := bd_e hf
          refine n_cV [.int x3_7, .int x2_1] [] C (ckD_get k_X4_noteAheadInOne_0 36 rfl) vk_X4_89 (t_X2_isBelow C.tr _ hk1 _ _ _ _ hr_18) (T_Gr hk1) rfl rfl (Nat.le_of_ble_eq_true rfl) (by decide) hB rfl ?_
          refine g_if_ne C (ckD_get k_X4_noteAheadInOne_0 37 rfl) (fun c_20 => ?_) (fun c_20 => ?_)
          · have hf := if_f hf c_20
            refine G.sub [1, 2, 3, 4] rfl ?_
            exact hJ_87 _ hf
          · have hf := if_t hf c_20
            refine g_aload_n 2 C (ckD_get k_X4_noteAheadInOne_0 38 rfl) rfl rfl ?_
            refine g_iload_n 3 C (ckD_get k_X4_noteAheadInOne_0 39 rfl) rfl rfl ?_
            refine g_iload_n 4 C (ckD_get k_X4_noteAheadInOne_1 0 rfl) rfl rfl ?_
            obtain ⟨r_22, hr_21, hf⟩ := bd_e hf
            refine n_cV [.int x2_1, .int x3_7] [] C (ckD_get k_X4_noteAheadInOne_1 1 rfl) vk_X4_85 (t_X2_isLeft C.tr _ hk1 _ _ _ _ hr_21) (T_Gr hk1) rfl rfl (Nat.le_of_ble_eq_true rfl) (by decide) hB rfl ?_
            refine g_if_ne C (ckD_get k_X4_noteAheadInOne_1 2 rfl) (fun c_23 => ?_) (fun c_23 => ?_)
            · have hf := if_f hf c_23
              refine G.sub [1, 2, 3, 4] rfl ?_
              exact hJ_87 _ hf
            · have hf := if_t hf c_23
              refine g_aload_n 1 C (ckD_get k_X4_noteAheadInOne_1 3 rfl) rfl rfl ?_
              refine g_getR C (ckD_get k_X4_noteAheadInOne_1 4 rfl) fk_X4_24 (T_Or hk0) rfl ?_
              refine g_iload_n 3 C (ckD_get k_X4_noteAheadInOne_1 5 rfl) rfl rfl ?_
              refine g_dup2 C (ckD_get k_X4_noteAheadInOne_1 6 rfl) rfl rfl ?_
              obtain ⟨v_24, hi_25, ev_24, hf⟩ := rdI_e hf
              refine n_iald C (ckD_get k_X4_noteAheadInOne_1 7 rfl) (T_Or5 hk0) hi_25 ev_24 ?_
              refine g_iconst (v := (1 : Int32)) C (ckD_get k_X4_noteAheadInOne_1 8 rfl) (by decide) ?_
              refine g_iload_n 4 C (ckD_get k_X4_noteAheadInOne_1 9 rfl) rfl rfl ?_
              refine g_ishl C (ckD_get k_X4_noteAheadInOne_1 10 rfl) ?_
              refine g_ior C (ckD_get k_X4_noteAheadInOne_1 11 rfl) ?_
              obtain ⟨M_26, hi_27, eM_26, hf⟩ := wrI_e hf
              refine n_iast C (ckD_get k_X4_noteAheadInOne_1 12 rfl) (T_Or5 hk0) hi_27 eM_26 ?_
              refine G.sub [1, 2, 3, 4] rfl ?_
              exact hJ_87 _ hf
      have hJ_45 : ∀ (_ : Unit), f_X4_noteAheadInOne_J45 k0 k1 x2_1 x3_7 M_8 () = some rr_19 → G K (0, 0) 45 [(0, .ref (K.2.1.1 + k0)), (1, .ref (K.2.1.1 + k1)), (2, .int x2_1), (3, .int x3_7)] [] M_8 := by
        intro _ hf
        unfold f_X4_noteAheadInOne_J45 at hf
        refine g_iconst (v := (1 : Int32)) C (ckD_get k_X4_noteAheadInOne_0 27 rfl) (by decide) ?_
        refine g_goto C (ckD_get k_X4_noteAheadInOne_0 28 rfl) ?_
        exact hJ_50 _ hf
      refine g_if_ne C (ckD_get k_X4_noteAheadInOne_0 21 rfl) (fun c_28 => ?_) (fun c_28 => ?_)
      · have hf := if_f hf c_28
        exact hJ_45 () hf
      · have hf := if_t hf c_28
        refine g_aload_n 1 C (ckD_get k_X4_noteAheadInOne_0 22 rfl) rfl rfl ?_
        refine g_iload_n 2 C (ckD_get k_X4_noteAheadInOne_0 23 rfl) rfl rfl ?_
        refine g_iload_n 3 C (ckD_get k_X4_noteAheadInOne_0 24 rfl) rfl rfl ?_
        obtain ⟨r_30, hr_29, hf⟩ := bd_e hf
        refine n_cV [.int x2_1, .int x3_7] [] C (ckD_get k_X4_noteAheadInOne_0 25 rfl) vk_X4_89 (t_X2_isBelow C.tr _ hk1 _ _ _ _ hr_29) (T_Gr hk1) rfl rfl (Nat.le_of_ble_eq_true rfl) (by decide) hB rfl ?_
        refine g_if_eq C (ckD_get k_X4_noteAheadInOne_0 26 rfl) (fun c_31 => ?_) (fun c_31 => ?_)
        · have hf := if_t hf c_31
          refine g_iconst (v := (0 : Int32)) C (ckD_get k_X4_noteAheadInOne_0 29 rfl) (by decide) ?_
          exact hJ_50 _ hf
        · have hf := if_f hf c_31
          exact hJ_45 () hf

set_option maxRecDepth 20000 in
theorem k_X4_noteAheadInTwo_0 : ckD cX4_noteAheadInTwo [(0, .iconst 0, 1, 1, 0), (1, .istore_n 2, 1, 2, 0), (2, .iload_n 2, 1, 3, 0), (3, .aload_n 0, 1, 4, 0), (4, .getfield 31, 3, 7, 0), (7, .if_icmp .ge 92, 3, 10, 99), (10, .aload_n 0, 1, 11, 0), (11, .getfield 24, 3, 14, 0), (14, .iload_n 2, 1, 15, 0), (15, .iconst 0, 1, 16, 0), (16, .iastore, 1, 17, 0), (17, .iconst 0, 1, 18, 0), (18, .istore_n 3, 1, 19, 0), (19, .iload_n 3, 1, 20, 0), (20, .aload_n 0, 1, 21, 0), (21, .getfield 31, 3, 24, 0), (24, .if_icmp .ge 69, 3, 27, 93), (27, .aload_n 1, 1, 28, 0), (28, .iload_n 3, 1, 29, 0), (29, .iload_n 2, 1, 30, 0), (30, .invokevirtual 85, 3, 33, 0), (33, .ifCond .ne 12, 3, 36, 45), (36, .aload_n 1, 1, 37, 0), (37, .iload_n 3, 1, 38, 0), (38, .iload_n 2, 1, 39, 0), (39, .invokevirtual 89, 3, 42, 0), (42, .ifCond .eq 7, 3, 45, 49), (45, .iconst 1, 1, 46, 0), (46, .goto 4, 3, 49, 50), (49, .iconst 0, 1, 50, 0), (50, .istore 4, 2, 52, 0), (52, .iload 4, 2, 54, 0), (54, .ifCond .eq 33, 3, 57, 87), (57, .aload_n 1, 1, 58, 0), (58, .iload_n 2, 1, 59, 0), (59, .iload_n 3, 1, 60, 0), (60, .invokevirtual 85, 3, 63, 0), (63, .ifCond .ne 24, 3, 66, 87), (66, .aload_n 1, 1, 67, 0), (67, .iload_n 2, 1, 68, 0)] = true := by decide +kernel
set_option maxRecDepth 20000 in
theorem k_X4_noteAheadInTwo_1 : ckD cX4_noteAheadInTwo [(68, .iload_n 3, 1, 69, 0), (69, .invokevirtual 89, 3, 72, 0), (72, .ifCond .ne 15, 3, 75, 87), (75, .aload_n 0, 1, 76, 0), (76, .getfield 24, 3, 79, 0), (79, .iload_n 2, 1, 80, 0), (80, .dup2, 1, 81, 0), (81, .iaload, 1, 82, 0), (82, .iconst 1, 1, 83, 0), (83, .iload_n 3, 1, 84, 0), (84, .ishl, 1, 85, 0), (85, .ior, 1, 86, 0), (86, .iastore, 1, 87, 0), (87, .iinc 3 1, 3, 90, 0), (90, .goto (-71), 3, 93, 19), (93, .iinc 2 1, 3, 96, 0), (96, .goto (-94), 3, 99, 2), (99, .return_, 1, 100, 0)] = true := by decide +kernel
def f_X4_noteAheadInTwo_A2 (M_3 : Mm) : Option Mm := some M_3
def f_X4_noteAheadInTwo_A19 (x2_1 : Int32) (M_9 : Mm) : Option ((Int32 × Mm) ⊕ Mm) := lt1 (x2_1 + 1) fun x2_10 => some (.inl (x2_10, M_9))
def f_X4_noteAheadInTwo_J87 (x3_7 : Int32) (M_15 : Mm) : Option ((Int32 × Mm) ⊕ Mm) := lt1 (x3_7 + 1) fun x3_16 => some (.inl (x3_16, M_15))
def f_X4_noteAheadInTwo_J50 (k0 : Nat) (k1 : Nat) (x2_1 : Int32) (x3_7 : Int32) (M_8 : Mm) (s_14 : Int32) : Option ((Int32 × Mm) ⊕ Mm) := if s_14 = 0 then f_X4_noteAheadInTwo_J87 x3_7 M_8 else (f_X2_isLeft k1 x2_1 x3_7 M_8).bind fun r_19 => if r_19 = 0 then (f_X2_isBelow k1 x2_1 x3_7 M_8).bind fun r_22 => if r_22 = 0 then rdI 12 M_8 (k0 + 5) x2_1 fun v_24 => wrI 12 M_8 (k0 + 5) x2_1 (v_24 ||| ((1 : Int32) <<< (x3_7 &&& 31))) fun M_26 => f_X4_noteAheadInTwo_J87 x3_7 M_26 else f_X4_noteAheadInTwo_J87 x3_7 M_8 else f_X4_noteAheadInTwo_J87 x3_7 M_8
def f_X4_noteAheadInTwo_J45 (k0 : Nat) (k1 : Nat) (x2_1 : Int32) (x3_7 : Int32) (M_8 : Mm) (_ : Unit) : Option ((Int32 × Mm) ⊕ Mm) := f_X4_noteAheadInTwo_J50 k0 k1 x2_1 x3_7 M_8 (1 : Int32)
def f_X4_noteAheadInTwo_L19 (k0 : Nat) (k1 : Nat) (x2_1 : Int32) (x3_7 : Int32) (M_8 : Mm) : Option ((Int32 × Mm) ⊕ Mm) := if (M_8.1 k0 5) ≤ x3_7 then some (.inr M_8) else (f_X2_isLeft k1 x3_7 x2_1 M_8).bind fun r_13 => if r_13 = 0 then (f_X2_isBelow k1 x3_7 x2_1 M_8).bind fun r_30 => if r_30 = 0 then f_X4_noteAheadInTwo_J50 k0 k1 x2_1 x3_7 M_8 (0 : Int32) else f_X4_noteAheadInTwo_J45 k0 k1 x2_1 x3_7 M_8 () else f_X4_noteAheadInTwo_J45 k0 k1 x2_1 x3_7 M_8 ()
def f_X4_noteAheadInTwo_L2 (k0 : Nat) (k1 : Nat) (x2_1 : Int32) (M_2 : Mm) : Option ((Int32 × Mm) ⊕ Mm) := if (M_2.1 k0 5) ≤ x2_1 then some (.inr M_2) else wrI 12 M_2 (k0 + 5) x2_1 (0 : Int32) fun M_5 => (loop (fun v => f_X4_noteAheadInTwo_L19 k0 k1 x2_1 v.1 v.2) FU ((0 : Int32), M_5)).bind fun z => f_X4_noteAheadInTwo_A19 x2_1 z
def f_X4_noteAheadInTwo (k0 : Nat) (k1 : Nat) (M : Mm) : Option Mm := (loop (fun v => f_X4_noteAheadInTwo_L2 k0 k1 v.1 v.2) FU ((0 : Int32), M)).bind fun z => f_X4_noteAheadInTwo_A2 z
set_option maxRecDepth 100000 in
set_option maxHeartbeats 4000000 in
theorem t_X4_noteAheadInTwo {E : Ev} {l : Launch} (htr : l.stackTraces = false) (k0 : Nat) (hk0 : isOr k0) (k1 : Nat) (hk1 : isGr k1) (M : Mm) (r : Mm) (hf : f_X4_noteAheadInTwo k0 k1 M = some r) : CM E l 1 0 0 yX4_noteAheadInTwo cX4_noteAheadInTwo 5 none [.ref (E.1 + k0), .ref (E.1 + k1)] M none r := by
  refine CM.of htr (by decide +kernel) (Nat.le_of_ble_eq_true rfl) ?_
  intro K hE hL hl hR0 C hr hRv
  subst hE
  subst hl
  have C : Cx K cX4_noteAheadInTwo RX4 1 := C
  have hB : (0 : Nat) ≤ K.1.R.cells ∧ 0 ≤ K.1.R.slots := ⟨Nat.zero_le _, Nat.zero_le _⟩
  have hL2 : 2 < K.2.2.1 := by rw [hL]; decide
  have hL3 : 3 < K.2.2.1 := by rw [hL]; decide
  have hL4 : 4 < K.2.2.1 := by rw [hL]; decide
  show G K (0, 0) 0 [(0, .ref (K.2.1.1 + k0)), (1, .ref (K.2.1.1 + k1))] [] M
  unfold f_X4_noteAheadInTwo at hf
  refine g_iconst (v := (0 : Int32)) C (ckD_get k_X4_noteAheadInTwo_0 0 rfl) (by decide) ?_
  refine g_istore_n (lv' := [(2, _), (0, _), (1, _)]) C (ckD_get k_X4_noteAheadInTwo_0 1 rfl) rfl hL2 rfl ?_
  refine G.sub [1, 2, 0] rfl ?_
  obtain ⟨M_3, hx_2, hf⟩ := bd_e hf
  have hE_2 : G K (0, 0) 99 [] [] M_3 := by
    have hf : f_X4_noteAheadInTwo_A2 M_3 = some r := hf
    unfold f_X4_noteAheadInTwo_A2 at hf
    cases hf
    exact g_vret C (ckD_get k_X4_noteAheadInTwo_1 17 rfl) hr hRv (Nat.le_refl _) (Nat.le_refl _)
  refine loop_e (x := M_3) (P := fun (v : (Int32 × Mm)) => G K (0, 0) 2 [(0, .ref (K.2.1.1 + k0)), (1, .ref (K.2.1.1 + k1)), (2, .int v.1)] [] v.2) ?_ FU _ hx_2
  intro v rr_2 hf hn_2 hz_2
  obtain ⟨x2_1, M_2⟩ := v
  have hf : f_X4_noteAheadInTwo_L2 k0 k1 x2_1 M_2 = some rr_2 := hf
  show G K (0, 0) 2 [(0, .ref (K.2.1.1 + k0)), (1, .ref (K.2.1.1 + k1)), (2, .int x2_1)] [] M_2
  unfold f_X4_noteAheadInTwo_L2 at hf
  refine g_iload_n 2 C (ckD_get k_X4_noteAheadInTwo_0 2 rfl) rfl rfl ?_
  refine g_aload_n 0 C (ckD_get k_X4_noteAheadInTwo_0 3 rfl) rfl rfl ?_
  refine g_getI C (ckD_get k_X4_noteAheadInTwo_0 4 rfl) fk_X4_31 (T_Or hk0) rfl ?_
  refine g_icmp_ge C (ckD_get k_X4_noteAheadInTwo_0 5 rfl) (fun c_4 => ?_) (fun c_4 => ?_)
  · have hf := if_t hf c_4
    refine G.sub [] rfl ?_
    cases hf
    cases hz_2 _ rfl
    exact hE_2
  · have hf := if_f hf c_4
    refine g_aload_n 0 C (ckD_get k_X4_noteAheadInTwo_0 6 rfl) rfl rfl ?_
    refine g_getR C (ckD_get k_X4_noteAheadInTwo_0 7 rfl) fk_X4_24 (T_Or hk0) rfl ?_
    refine g_iload_n 2 C (ckD_get k_X4_noteAheadInTwo_0 8 rfl) rfl rfl ?_
    refine g_iconst (v := (0 : Int32)) C (ckD_get k_X4_noteAheadInTwo_0 9 rfl) (by decide) ?_
    obtain ⟨M_5, hi_6, eM_5, hf⟩ := wrI_e hf
    refine n_iast C (ckD_get k_X4_noteAheadInTwo_0 10 rfl) (T_Or5 hk0) hi_6 eM_5 ?_
    refine g_iconst (v := (0 : Int32)) C (ckD_get k_X4_noteAheadInTwo_0 11 rfl) (by decide) ?_
    refine g_istore_n (lv' := [(3, _), (0, _), (1, _), (2, _)]) C (ckD_get k_X4_noteAheadInTwo_0 12 rfl) rfl hL3 rfl ?_
    refine G.sub [1, 2, 3, 0] rfl ?_
    obtain ⟨M_9, hx_19, hf⟩ := bd_e hf
    have hE_19 : G K (0, 0) 93 [(0, .ref (K.2.1.1 + k0)), (1, .ref (K.2.1.1 + k1)), (2, .int x2_1)] [] M_9 := by
      have hf : f_X4_noteAheadInTwo_A19 x2_1 M_9 = some rr_2 := hf
      unfold f_X4_noteAheadInTwo_A19 at hf
      obtain ⟨x2_10, ex2_10, hf⟩ := lt_e hf
      refine g_iinc (lv' := [(2, _), (0, _), (1, _)]) 2 C (ckD_get k_X4_noteAheadInTwo_1 15 rfl) rfl ex2_10 hL2 rfl ?_
      refine g_goto C (ckD_get k_X4_noteAheadInTwo_1 16 rfl) ?_
      refine G.sub [1, 2, 0] rfl ?_
      cases hf
      exact hn_2 _ rfl
    refine loop_e (x := M_9) (P := fun (v : (Int32 × Mm)) => G K (0, 0) 19 [(0, .ref (K.2.1.1 + k0)), (1, .ref (K.2.1.1 + k1)), (2, .int x2_1), (3, .int v.1)] [] v.2) ?_ FU _ hx_19
    intro v rr_19 hf hn_19 hz_19
    obtain ⟨x3_7, M_8⟩ := v
    have hf : f_X4_noteAheadInTwo_L19 k0 k1 x2_1 x3_7 M_8 = some rr_19 := hf
    show G K (0, 0) 19 [(0, .ref (K.2.1.1 + k0)), (1, .ref (K.2.1.1 + k1)), (2, .int x2_1), (3, .int x3_7)] [] M_8
    unfold f_X4_noteAheadInTwo_L19 at hf
    refine g_iload_n 3 C (ckD_get k_X4_noteAheadInTwo_0 13 rfl) rfl rfl ?_
    refine g_aload_n 0 C (ckD_get k_X4_noteAheadInTwo_0 14 rfl) rfl rfl ?_
    refine g_getI C (ckD_get k_X4_noteAheadInTwo_0 15 rfl) fk_X4_31 (T_Or hk0) rfl ?_
    refine g_icmp_ge C (ckD_get k_X4_noteAheadInTwo_0 16 rfl) (fun c_11 => ?_) (fun c_11 => ?_)
    · have hf := if_t hf c_11
      refine G.sub [0, 1, 2] rfl ?_
      cases hf
      cases hz_19 _ rfl
      exact hE_19
    · have hf := if_f hf c_11
      refine g_aload_n 1 C (ckD_get k_X4_noteAheadInTwo_0 17 rfl) rfl rfl ?_
      refine g_iload_n 3 C (ckD_get k_X4_noteAheadInTwo_0 18 rfl) rfl rfl ?_
      refine g_iload_n 2 C (ckD_get k_X4_noteAheadInTwo_0 19 rfl) rfl rfl ?_
      obtain ⟨r_13, hr_12, hf⟩ := bd_e hf
      refine n_cV [.int x3_7, .int x2_1] [] C (ckD_get k_X4_noteAheadInTwo_0 20 rfl) vk_X4_85 (t_X2_isLeft C.tr _ hk1 _ _ _ _ hr_12) (T_Gr hk1) rfl rfl (Nat.le_of_ble_eq_true rfl) (by decide) hB rfl ?_
      have hJ_50 : ∀ (s_14 : Int32), f_X4_noteAheadInTwo_J50 k0 k1 x2_1 x3_7 M_8 s_14 = some rr_19 → G K (0, 0) 50 [(0, .ref (K.2.1.1 + k0)), (1, .ref (K.2.1.1 + k1)), (2, .int x2_1), (3, .int x3_7)] [.int s_14] M_8 := by
        intro s_14 hf
        unfold f_X4_noteAheadInTwo_J50 at hf
        refine g_istore (lv' := [(4, _), (0, _), (1, _), (2, _), (3, _)]) C (ckD_get k_X4_noteAheadInTwo_0 30 rfl) hL4 rfl ?_
        refine g_iload 0 C (ckD_get k_X4_noteAheadInTwo_0 31 rfl) rfl ?_
        have hJ_87 : ∀ (M_15 : Mm), f_X4_noteAheadInTwo_J87 x3_7 M_15 = some rr_19 → G K (0, 0) 87 [(0, .ref (K.2.1.1 + k0)), (1, .ref (K.2.1.1 + k1)), (2, .int x2_1), (3, .int x3_7)] [] M_15 := by
          intro M_15 hf
          unfold f_X4_noteAheadInTwo_J87 at hf
          obtain ⟨x3_16, ex3_16, hf⟩ := lt_e hf
          refine g_iinc (lv' := [(3, _), (0, _), (1, _), (2, _)]) 3 C (ckD_get k_X4_noteAheadInTwo_1 13 rfl) rfl ex3_16 hL3 rfl ?_
          refine g_goto C (ckD_get k_X4_noteAheadInTwo_1 14 rfl) ?_
          refine G.sub [1, 2, 3, 0] rfl ?_
          cases hf
          exact hn_19 _ rfl
        refine g_if_eq C (ckD_get k_X4_noteAheadInTwo_0 32 rfl) (fun c_17 => ?_) (fun c_17 => ?_)
        · have hf := if_t hf c_17
          refine G.sub [1, 2, 3, 4] rfl ?_
          exact hJ_87 _ hf
        · have hf := if_f hf c_17
          refine g_aload_n 2 C (ckD_get k_X4_noteAheadInTwo_0 33 rfl) rfl rfl ?_
          refine g_iload_n 3 C (ckD_get k_X4_noteAheadInTwo_0 34 rfl) rfl rfl ?_
          refine g_iload_n 4 C (ckD_get k_X4_noteAheadInTwo_0 35 rfl) rfl rfl ?_
          obtain ⟨r_19, hr_18, hf⟩ := bd_e hf
          refine n_cV [.int x2_1, .int x3_7] [] C (ckD_get k_X4_noteAheadInTwo_0 36 rfl) vk_X4_85 (t_X2_isLeft C.tr _ hk1 _ _ _ _ hr_18) (T_Gr hk1) rfl rfl (Nat.le_of_ble_eq_true rfl) (by decide) hB rfl ?_
          refine g_if_ne C (ckD_get k_X4_noteAheadInTwo_0 37 rfl) (fun c_20 => ?_) (fun c_20 => ?_)
          · have hf := if_f hf c_20
            refine G.sub [1, 2, 3, 4] rfl ?_
            exact hJ_87 _ hf
          · have hf := if_t hf c_20
            refine g_aload_n 2 C (ckD_get k_X4_noteAheadInTwo_0 38 rfl) rfl rfl ?_
            refine g_iload_n 3 C (ckD_get k_X4_noteAheadInTwo_0 39 rfl) rfl rfl ?_
            refine g_iload_n 4 C (ckD_get k_X4_noteAheadInTwo_1 0 rfl) rfl rfl ?_
            obtain ⟨r_22, hr_21, hf⟩ := bd_e hf
            refine n_cV [.int x2_1, .int x3_7] [] C (ckD_get k_X4_noteAheadInTwo_1 1 rfl) vk_X4_89 (t_X2_isBelow C.tr _ hk1 _ _ _ _ hr_21) (T_Gr hk1) rfl rfl (Nat.le_of_ble_eq_true rfl) (by decide) hB rfl ?_
            refine g_if_ne C (ckD_get k_X4_noteAheadInTwo_1 2 rfl) (fun c_23 => ?_) (fun c_23 => ?_)
            · have hf := if_f hf c_23
              refine G.sub [1, 2, 3, 4] rfl ?_
              exact hJ_87 _ hf
            · have hf := if_t hf c_23
              refine g_aload_n 1 C (ckD_get k_X4_noteAheadInTwo_1 3 rfl) rfl rfl ?_
              refine g_getR C (ckD_get k_X4_noteAheadInTwo_1 4 rfl) fk_X4_24 (T_Or hk0) rfl ?_
              refine g_iload_n 3 C (ckD_get k_X4_noteAheadInTwo_1 5 rfl) rfl rfl ?_
              refine g_dup2 C (ckD_get k_X4_noteAheadInTwo_1 6 rfl) rfl rfl ?_
              obtain ⟨v_24, hi_25, ev_24, hf⟩ := rdI_e hf
              refine n_iald C (ckD_get k_X4_noteAheadInTwo_1 7 rfl) (T_Or5 hk0) hi_25 ev_24 ?_
              refine g_iconst (v := (1 : Int32)) C (ckD_get k_X4_noteAheadInTwo_1 8 rfl) (by decide) ?_
              refine g_iload_n 4 C (ckD_get k_X4_noteAheadInTwo_1 9 rfl) rfl rfl ?_
              refine g_ishl C (ckD_get k_X4_noteAheadInTwo_1 10 rfl) ?_
              refine g_ior C (ckD_get k_X4_noteAheadInTwo_1 11 rfl) ?_
              obtain ⟨M_26, hi_27, eM_26, hf⟩ := wrI_e hf
              refine n_iast C (ckD_get k_X4_noteAheadInTwo_1 12 rfl) (T_Or5 hk0) hi_27 eM_26 ?_
              refine G.sub [1, 2, 3, 4] rfl ?_
              exact hJ_87 _ hf
      have hJ_45 : ∀ (_ : Unit), f_X4_noteAheadInTwo_J45 k0 k1 x2_1 x3_7 M_8 () = some rr_19 → G K (0, 0) 45 [(0, .ref (K.2.1.1 + k0)), (1, .ref (K.2.1.1 + k1)), (2, .int x2_1), (3, .int x3_7)] [] M_8 := by
        intro _ hf
        unfold f_X4_noteAheadInTwo_J45 at hf
        refine g_iconst (v := (1 : Int32)) C (ckD_get k_X4_noteAheadInTwo_0 27 rfl) (by decide) ?_
        refine g_goto C (ckD_get k_X4_noteAheadInTwo_0 28 rfl) ?_
        exact hJ_50 _ hf
      refine g_if_ne C (ckD_get k_X4_noteAheadInTwo_0 21 rfl) (fun c_28 => ?_) (fun c_28 => ?_)
      · have hf := if_f hf c_28
        exact hJ_45 () hf
      · have hf := if_t hf c_28
        refine g_aload_n 1 C (ckD_get k_X4_noteAheadInTwo_0 22 rfl) rfl rfl ?_
        refine g_iload_n 3 C (ckD_get k_X4_noteAheadInTwo_0 23 rfl) rfl rfl ?_
        refine g_iload_n 2 C (ckD_get k_X4_noteAheadInTwo_0 24 rfl) rfl rfl ?_
        obtain ⟨r_30, hr_29, hf⟩ := bd_e hf
        refine n_cV [.int x3_7, .int x2_1] [] C (ckD_get k_X4_noteAheadInTwo_0 25 rfl) vk_X4_89 (t_X2_isBelow C.tr _ hk1 _ _ _ _ hr_29) (T_Gr hk1) rfl rfl (Nat.le_of_ble_eq_true rfl) (by decide) hB rfl ?_
        refine g_if_eq C (ckD_get k_X4_noteAheadInTwo_0 26 rfl) (fun c_31 => ?_) (fun c_31 => ?_)
        · have hf := if_t hf c_31
          refine g_iconst (v := (0 : Int32)) C (ckD_get k_X4_noteAheadInTwo_0 29 rfl) (by decide) ?_
          exact hJ_50 _ hf
        · have hf := if_f hf c_31
          exact hJ_45 () hf

set_option maxRecDepth 20000 in
theorem k_X4_nthOf_0 : ckD cX4_nthOf [(0, .iconst 0, 1, 1, 0), (1, .istore_n 3, 1, 2, 0), (2, .iconst 0, 1, 3, 0), (3, .istore 4, 2, 5, 0), (5, .iload 4, 2, 7, 0), (7, .aload_n 0, 1, 8, 0), (8, .getfield 31, 3, 11, 0), (11, .if_icmp .ge 30, 3, 14, 41), (14, .iload_n 1, 1, 15, 0), (15, .iload 4, 2, 17, 0), (17, .invokestatic 96, 3, 20, 0), (20, .iconst 1, 1, 21, 0), (21, .if_icmp .ne 14, 3, 24, 35), (24, .iload_n 3, 1, 25, 0), (25, .iload_n 2, 1, 26, 0), (26, .if_icmp .ne 6, 3, 29, 32), (29, .iload 4, 2, 31, 0), (31, .ireturn, 1, 32, 0), (32, .iinc 3 1, 3, 35, 0), (35, .iinc 4 1, 3, 38, 0), (38, .goto (-33), 3, 41, 5), (41, .iconst 0, 1, 42, 0), (42, .ireturn, 1, 43, 0)] = true := by decide +kernel
def f_X4_nthOf_A5  : Option Int32 := some (0 : Int32)
def f_X4_nthOf_J35 (x4_2 : Int32) (p3_4 : Int32) : Option ((Int32 × Int32) ⊕ (Unit ⊕ Int32)) := lt1 (x4_2 + 1) fun x4_5 => some (.inl (p3_4, x4_5))
def f_X4_nthOf_L5 (k0 : Nat) (a1 : Int32) (a2 : Int32) (M : Mm) (x3_1 : Int32) (x4_2 : Int32) : Option ((Int32 × Int32) ⊕ (Unit ⊕ Int32)) := if (M.1 k0 5) ≤ x4_2 then some (.inr (.inl ())) else if (f_X9_bitOf a1 x4_2) = (1 : Int32) then (if x3_1 = a2 then some (.inr (.inr x4_2)) else lt1 (x3_1 + 1) fun x3_8 => f_X4_nthOf_J35 x4_2 x3_8) else f_X4_nthOf_J35 x4_2 x3_1
def f_X4_nthOf (k0 : Nat) (a1 : Int32) (a2 : Int32) (M : Mm) : Option Int32 := (loop (fun v => f_X4_nthOf_L5 k0 a1 a2 M v.1 v.2) FU ((0 : Int32), (0 : Int32))).bind fun x => Sum.elim (fun z => f_X4_nthOf_A5 ) (fun o => some o) x
set_option maxRecDepth 100000 in
set_option maxHeartbeats 4000000 in
theorem t_X4_nthOf {E : Ev} {l : Launch} (htr : l.stackTraces = false) (k0 : Nat) (hk0 : isOr k0) (a1 : Int32) (a2 : Int32) (M : Mm) (r : Int32) (hf : f_X4_nthOf k0 a1 a2 M = some r) : CM E l 1 0 0 yX4_nthOf cX4_nthOf 5 (some .int) [.ref (E.1 + k0), .int a1, .int a2] M (some (.int r)) M := by
  refine CM.of htr (by decide +kernel) (Nat.le_of_ble_eq_true rfl) ?_
  intro K hE hL hl hR0 C hr hRv
  subst hE
  subst hl
  have C : Cx K cX4_nthOf RX4 1 := C
  have hB : (0 : Nat) ≤ K.1.R.cells ∧ 0 ≤ K.1.R.slots := ⟨Nat.zero_le _, Nat.zero_le _⟩
  have hL3 : 3 < K.2.2.1 := by rw [hL]; decide
  have hL4 : 4 < K.2.2.1 := by rw [hL]; decide
  show G K (0, 0) 0 [(0, .ref (K.2.1.1 + k0)), (1, .int a1), (2, .int a2)] [] M
  unfold f_X4_nthOf at hf
  refine g_iconst (v := (0 : Int32)) C (ckD_get k_X4_nthOf_0 0 rfl) (by decide) ?_
  refine g_istore_n (lv' := [(3, _), (0, _), (1, _), (2, _)]) C (ckD_get k_X4_nthOf_0 1 rfl) rfl hL3 rfl ?_
  refine g_iconst (v := (0 : Int32)) C (ckD_get k_X4_nthOf_0 2 rfl) (by decide) ?_
  refine g_istore (lv' := [(4, _), (3, _), (0, _), (1, _), (2, _)]) C (ckD_get k_X4_nthOf_0 3 rfl) hL4 rfl ?_
  refine G.sub [2, 3, 4, 1, 0] rfl ?_
  obtain ⟨xx_5, hx_5, hf⟩ := bd_e hf
  have hE_5 : ∀ (_ : Unit), xx_5 = .inl () → G K (0, 0) 41 [] [] M := by
    intro _ ex
    subst ex
    have hf : f_X4_nthOf_A5  = some r := hf
    unfold f_X4_nthOf_A5 at hf
    refine g_iconst (v := (0 : Int32)) C (ckD_get k_X4_nthOf_0 21 rfl) (by decide) ?_
    cases hf
    exact g_iret C (ckD_get k_X4_nthOf_0 22 rfl) hr hRv (Nat.le_refl _) (Nat.le_refl _)
  have hO_5 : ∀ o, xx_5 = .inr o → o = r := by
    intro o eo
    subst eo
    have hf : some o = some r := hf
    cases hf
    rfl
  refine loop_e (x := xx_5) (P := fun (v : (Int32 × Int32)) => G K (0, 0) 5 [(0, .ref (K.2.1.1 + k0)), (1, .int a1), (2, .int a2), (3, .int v.1), (4, .int v.2)] [] M) ?_ FU _ hx_5
  intro v rr_5 hf hn_5 hz_5
  obtain ⟨x3_1, x4_2⟩ := v
  have hf : f_X4_nthOf_L5 k0 a1 a2 M x3_1 x4_2 = some rr_5 := hf
  show G K (0, 0) 5 [(0, .ref (K.2.1.1 + k0)), (1, .int a1), (2, .int a2), (3, .int x3_1), (4, .int x4_2)] [] M
  unfold f_X4_nthOf_L5 at hf
  refine g_iload 4 C (ckD_get k_X4_nthOf_0 4 rfl) rfl ?_
  refine g_aload_n 0 C (ckD_get k_X4_nthOf_0 5 rfl) rfl rfl ?_
  refine g_getI C (ckD_get k_X4_nthOf_0 6 rfl) fk_X4_31 (T_Or hk0) rfl ?_
  refine g_icmp_ge C (ckD_get k_X4_nthOf_0 7 rfl) (fun c_3 => ?_) (fun c_3 => ?_)
  · have hf := if_t hf c_3
    refine G.sub [] rfl ?_
    cases hf
    exact hE_5 () (hz_5 _ rfl).symm
  · have hf := if_f hf c_3
    refine g_iload_n 1 C (ckD_get k_X4_nthOf_0 8 rfl) rfl rfl ?_
    refine g_iload 4 C (ckD_get k_X4_nthOf_0 9 rfl) rfl ?_
    refine n_cN [.int a1, .int x4_2] [] C (ckD_get k_X4_nthOf_0 10 rfl) nk_X4_96 (t_X9_bitOf C.tr _ _ _ _ rfl) rfl rfl (Nat.le_of_ble_eq_true rfl) (by decide) hB rfl ?_
    refine g_iconst (v := (1 : Int32)) C (ckD_get k_X4_nthOf_0 11 rfl) (by decide) ?_
    have hJ_35 : ∀ (p3_4 : Int32), f_X4_nthOf_J35 x4_2 p3_4 = some rr_5 → G K (0, 0) 35 [(0, .ref (K.2.1.1 + k0)), (1, .int a1), (2, .int a2), (3, .int p3_4), (4, .int x4_2)] [] M := by
      intro p3_4 hf
      unfold f_X4_nthOf_J35 at hf
      obtain ⟨x4_5, ex4_5, hf⟩ := lt_e hf
      refine g_iinc (lv' := [(4, _), (0, _), (1, _), (2, _), (3, _)]) 4 C (ckD_get k_X4_nthOf_0 19 rfl) rfl ex4_5 hL4 rfl ?_
      refine g_goto C (ckD_get k_X4_nthOf_0 20 rfl) ?_
      refine G.sub [1, 2, 3, 4, 0] rfl ?_
      cases hf
      exact hn_5 _ rfl
    refine g_icmp_ne C (ckD_get k_X4_nthOf_0 12 rfl) (fun c_6 => ?_) (fun c_6 => ?_)
    · have hf := if_f hf c_6
      exact hJ_35 _ hf
    · have hf := if_t hf c_6
      refine g_iload_n 3 C (ckD_get k_X4_nthOf_0 13 rfl) rfl rfl ?_
      refine g_iload_n 2 C (ckD_get k_X4_nthOf_0 14 rfl) rfl rfl ?_
      refine g_icmp_ne C (ckD_get k_X4_nthOf_0 15 rfl) (fun c_7 => ?_) (fun c_7 => ?_)
      · have hf := if_f hf c_7
        obtain ⟨x3_8, ex3_8, hf⟩ := lt_e hf
        refine g_iinc (lv' := [(3, _), (0, _), (1, _), (2, _), (4, _)]) 3 C (ckD_get k_X4_nthOf_0 18 rfl) rfl ex3_8 hL3 rfl ?_
        refine G.sub [1, 2, 3, 0, 4] rfl ?_
        exact hJ_35 _ hf
      · have hf := if_t hf c_7
        refine g_iload 4 C (ckD_get k_X4_nthOf_0 16 rfl) rfl ?_
        cases hf
        cases hO_5 _ (hz_5 _ rfl).symm
        exact g_iret C (ckD_get k_X4_nthOf_0 17 rfl) hr hRv (Nat.le_refl _) (Nat.le_refl _)

set_option maxRecDepth 20000 in
theorem k_X4_firstFree_0 : ckD cX4_firstFree [(0, .iconst 0, 1, 1, 0), (1, .istore_n 2, 1, 2, 0), (2, .iload_n 2, 1, 3, 0), (3, .aload_n 0, 1, 4, 0), (4, .getfield 31, 3, 7, 0), (7, .if_icmp .ge 31, 3, 10, 38), (10, .iload_n 1, 1, 11, 0), (11, .iload_n 2, 1, 12, 0), (12, .invokestatic 96, 3, 15, 0), (15, .iconst 1, 1, 16, 0), (16, .if_icmp .ne 16, 3, 19, 32), (19, .aload_n 0, 1, 20, 0), (20, .getfield 24, 3, 23, 0), (23, .iload_n 2, 1, 24, 0), (24, .iaload, 1, 25, 0), (25, .iload_n 1, 1, 26, 0), (26, .iand, 1, 27, 0), (27, .ifCond .ne 5, 3, 30, 32), (30, .iload_n 2, 1, 31, 0), (31, .ireturn, 1, 32, 0), (32, .iinc 2 1, 3, 35, 0), (35, .goto (-33), 3, 38, 2), (38, .aload_n 0, 1, 39, 0), (39, .iload_n 1, 1, 40, 0), (40, .iconst 0, 1, 41, 0), (41, .invokevirtual 99, 3, 44, 0), (44, .ireturn, 1, 45, 0)] = true := by decide +kernel
def f_X4_firstFree_A2 (k0 : Nat) (a1 : Int32) (M : Mm) : Option Int32 := (f_X4_nthOf k0 a1 (0 : Int32) M).bind fun r_3 => some r_3
def f_X4_firstFree_J32 (x2_1 : Int32) (_ : Unit) : Option (Int32 ⊕ (Unit ⊕ Int32)) := lt1 (x2_1 + 1) fun x2_5 => some (.inl x2_5)
def f_X4_firstFree_L2 (k0 : Nat) (a1 : Int32) (M : Mm) (x2_1 : Int32) : Option (Int32 ⊕ (Unit ⊕ Int32)) := if (M.1 k0 5) ≤ x2_1 then some (.inr (.inl ())) else if (f_X9_bitOf a1 x2_1) = (1 : Int32) then rdI 12 M (k0 + 5) x2_1 fun v_7 => if (v_7 &&& a1) = 0 then some (.inr (.inr x2_1)) else f_X4_firstFree_J32 x2_1 () else f_X4_firstFree_J32 x2_1 ()
def f_X4_firstFree (k0 : Nat) (a1 : Int32) (M : Mm) : Option Int32 := (loop (fun v => f_X4_firstFree_L2 k0 a1 M v) FU (0 : Int32)).bind fun x => Sum.elim (fun z => f_X4_firstFree_A2 k0 a1 M ) (fun o => some o) x
set_option maxRecDepth 100000 in
set_option maxHeartbeats 4000000 in
theorem t_X4_firstFree {E : Ev} {l : Launch} (htr : l.stackTraces = false) (k0 : Nat) (hk0 : isOr k0) (a1 : Int32) (M : Mm) (r : Int32) (hf : f_X4_firstFree k0 a1 M = some r) : CM E l 2 0 0 yX4_firstFree cX4_firstFree 3 (some .int) [.ref (E.1 + k0), .int a1] M (some (.int r)) M := by
  refine CM.of htr (by decide +kernel) (Nat.le_of_ble_eq_true rfl) ?_
  intro K hE hL hl hR0 C hr hRv
  subst hE
  subst hl
  have C : Cx K cX4_firstFree RX4 2 := C
  have hB : (0 : Nat) ≤ K.1.R.cells ∧ 0 ≤ K.1.R.slots := ⟨Nat.zero_le _, Nat.zero_le _⟩
  have hL2 : 2 < K.2.2.1 := by rw [hL]; decide
  show G K (0, 0) 0 [(0, .ref (K.2.1.1 + k0)), (1, .int a1)] [] M
  unfold f_X4_firstFree at hf
  refine g_iconst (v := (0 : Int32)) C (ckD_get k_X4_firstFree_0 0 rfl) (by decide) ?_
  refine g_istore_n (lv' := [(2, _), (0, _), (1, _)]) C (ckD_get k_X4_firstFree_0 1 rfl) rfl hL2 rfl ?_
  refine G.sub [1, 2, 0] rfl ?_
  obtain ⟨xx_2, hx_2, hf⟩ := bd_e hf
  have hE_2 : ∀ (_ : Unit), xx_2 = .inl () → G K (0, 0) 38 [(0, .ref (K.2.1.1 + k0)), (1, .int a1)] [] M := by
    intro _ ex
    subst ex
    have hf : f_X4_firstFree_A2 k0 a1 M  = some r := hf
    unfold f_X4_firstFree_A2 at hf
    refine g_aload_n 0 C (ckD_get k_X4_firstFree_0 22 rfl) rfl rfl ?_
    refine g_iload_n 1 C (ckD_get k_X4_firstFree_0 23 rfl) rfl rfl ?_
    refine g_iconst (v := (0 : Int32)) C (ckD_get k_X4_firstFree_0 24 rfl) (by decide) ?_
    obtain ⟨r_3, hr_2, hf⟩ := bd_e hf
    refine n_cV [.int a1, .int (0 : Int32)] [] C (ckD_get k_X4_firstFree_0 25 rfl) vk_X4_99 (t_X4_nthOf C.tr _ hk0 _ _ _ _ hr_2) (T_Or hk0) rfl rfl (Nat.le_of_ble_eq_true rfl) (by decide) hB rfl ?_
    cases hf
    exact g_iret C (ckD_get k_X4_firstFree_0 26 rfl) hr hRv (Nat.le_refl _) (Nat.le_refl _)
  have hO_2 : ∀ o, xx_2 = .inr o → o = r := by
    intro o eo
    subst eo
    have hf : some o = some r := hf
    cases hf
    rfl
  refine loop_e (x := xx_2) (P := fun (v : Int32) => G K (0, 0) 2 [(0, .ref (K.2.1.1 + k0)), (1, .int a1), (2, .int v)] [] M) ?_ FU _ hx_2
  intro x2_1 rr_2 hf hn_2 hz_2
  have hf : f_X4_firstFree_L2 k0 a1 M x2_1 = some rr_2 := hf
  show G K (0, 0) 2 [(0, .ref (K.2.1.1 + k0)), (1, .int a1), (2, .int x2_1)] [] M
  unfold f_X4_firstFree_L2 at hf
  refine g_iload_n 2 C (ckD_get k_X4_firstFree_0 2 rfl) rfl rfl ?_
  refine g_aload_n 0 C (ckD_get k_X4_firstFree_0 3 rfl) rfl rfl ?_
  refine g_getI C (ckD_get k_X4_firstFree_0 4 rfl) fk_X4_31 (T_Or hk0) rfl ?_
  refine g_icmp_ge C (ckD_get k_X4_firstFree_0 5 rfl) (fun c_4 => ?_) (fun c_4 => ?_)
  · have hf := if_t hf c_4
    refine G.sub [0, 1] rfl ?_
    cases hf
    exact hE_2 () (hz_2 _ rfl).symm
  · have hf := if_f hf c_4
    refine g_iload_n 1 C (ckD_get k_X4_firstFree_0 6 rfl) rfl rfl ?_
    refine g_iload_n 2 C (ckD_get k_X4_firstFree_0 7 rfl) rfl rfl ?_
    refine n_cN [.int a1, .int x2_1] [] C (ckD_get k_X4_firstFree_0 8 rfl) nk_X4_96 (t_X9_bitOf C.tr _ _ _ _ rfl) rfl rfl (Nat.le_of_ble_eq_true rfl) (by decide) hB rfl ?_
    refine g_iconst (v := (1 : Int32)) C (ckD_get k_X4_firstFree_0 9 rfl) (by decide) ?_
    have hJ_32 : ∀ (_ : Unit), f_X4_firstFree_J32 x2_1 () = some rr_2 → G K (0, 0) 32 [(0, .ref (K.2.1.1 + k0)), (1, .int a1), (2, .int x2_1)] [] M := by
      intro _ hf
      unfold f_X4_firstFree_J32 at hf
      obtain ⟨x2_5, ex2_5, hf⟩ := lt_e hf
      refine g_iinc (lv' := [(2, _), (0, _), (1, _)]) 2 C (ckD_get k_X4_firstFree_0 20 rfl) rfl ex2_5 hL2 rfl ?_
      refine g_goto C (ckD_get k_X4_firstFree_0 21 rfl) ?_
      refine G.sub [1, 2, 0] rfl ?_
      cases hf
      exact hn_2 _ rfl
    refine g_icmp_ne C (ckD_get k_X4_firstFree_0 10 rfl) (fun c_6 => ?_) (fun c_6 => ?_)
    · have hf := if_f hf c_6
      exact hJ_32 () hf
    · have hf := if_t hf c_6
      refine g_aload_n 0 C (ckD_get k_X4_firstFree_0 11 rfl) rfl rfl ?_
      refine g_getR C (ckD_get k_X4_firstFree_0 12 rfl) fk_X4_24 (T_Or hk0) rfl ?_
      refine g_iload_n 2 C (ckD_get k_X4_firstFree_0 13 rfl) rfl rfl ?_
      obtain ⟨v_7, hi_8, ev_7, hf⟩ := rdI_e hf
      refine n_iald C (ckD_get k_X4_firstFree_0 14 rfl) (T_Or5 hk0) hi_8 ev_7 ?_
      refine g_iload_n 1 C (ckD_get k_X4_firstFree_0 15 rfl) rfl rfl ?_
      refine g_iand C (ckD_get k_X4_firstFree_0 16 rfl) ?_
      refine g_if_ne C (ckD_get k_X4_firstFree_0 17 rfl) (fun c_9 => ?_) (fun c_9 => ?_)
      · have hf := if_f hf c_9
        exact hJ_32 () hf
      · have hf := if_t hf c_9
        refine g_iload_n 2 C (ckD_get k_X4_firstFree_0 18 rfl) rfl rfl ?_
        cases hf
        cases hO_2 _ (hz_2 _ rfl).symm
        exact g_iret C (ckD_get k_X4_firstFree_0 19 rfl) hr hRv (Nat.le_refl _) (Nat.le_refl _)

set_option maxRecDepth 20000 in
theorem k_X4_sortOut_0 : ckD cX4_sortOut [(0, .iconst 1, 1, 1, 0), (1, .aload_n 0, 1, 2, 0), (2, .getfield 31, 3, 5, 0), (5, .ishl, 1, 6, 0), (6, .iconst 1, 1, 7, 0), (7, .isub, 1, 8, 0), (8, .istore_n 2, 1, 9, 0), (9, .iconst 0, 1, 10, 0), (10, .istore_n 3, 1, 11, 0), (11, .iload_n 3, 1, 12, 0), (12, .aload_n 0, 1, 13, 0), (13, .getfield 31, 3, 16, 0), (16, .if_icmp .ge 27, 3, 19, 43), (19, .aload_n 1, 1, 20, 0), (20, .iload_n 3, 1, 21, 0), (21, .aload_n 0, 1, 22, 0), (22, .iload_n 2, 1, 23, 0), (23, .invokevirtual 92, 3, 26, 0), (26, .iastore, 1, 27, 0), (27, .iload_n 2, 1, 28, 0), (28, .iconst 1, 1, 29, 0), (29, .aload_n 1, 1, 30, 0), (30, .iload_n 3, 1, 31, 0), (31, .iaload, 1, 32, 0), (32, .ishl, 1, 33, 0), (33, .iconst (-1), 1, 34, 0), (34, .ixor, 1, 35, 0), (35, .iand, 1, 36, 0), (36, .istore_n 2, 1, 37, 0), (37, .iinc 3 1, 3, 40, 0), (40, .goto (-29), 3, 43, 11), (43, .return_, 1, 44, 0)] = true := by decide +kernel
def f_X4_sortOut_A11 (M_5 : Mm) : Option Mm := some M_5
def f_X4_sortOut_L11 (k0 : Nat) (k1 : Nat) (x2_2 : Int32) (x3_3 : Int32) (M_4 : Mm) : Option ((Int32 × Int32 × Mm) ⊕ Mm) := if (M_4.1 k0 5) ≤ x3_3 then some (.inr M_4) else (f_X4_firstFree k0 x2_2 M_4).bind fun r_8 => wrI 12 M_4 k1 x3_3 r_8 fun M_9 => rdI 12 M_9 k1 x3_3 fun v_11 => lt1 (x2_2 &&& (((1 : Int32) <<< (v_11 &&& 31)) ^^^ (-1 : Int32))) fun x2_13 => lt1 (x3_3 + 1) fun x3_14 => some (.inl (x2_13, x3_14, M_9))
def f_X4_sortOut (k0 : Nat) (k1 : Nat) (M : Mm) : Option Mm := lt1 (((1 : Int32) <<< ((M.1 k0 5) &&& 31)) - (1 : Int32)) fun x2_1 => (loop (fun v => f_X4_sortOut_L11 k0 k1 v.1 v.2.1 v.2.2) FU (x2_1, (0 : Int32), M)).bind fun z => f_X4_sortOut_A11 z
set_option maxRecDepth 100000 in
set_option maxHeartbeats 4000000 in
theorem t_X4_sortOut {E : Ev} {l : Launch} (htr : l.stackTraces = false) (k0 : Nat) (hk0 : isOr k0) (k1 : Nat) (hk1 : LT[k1]? = some (0, 12, [])) (M : Mm) (r : Mm) (hf : f_X4_sortOut k0 k1 M = some r) : CM E l 3 0 0 yX4_sortOut cX4_sortOut 4 none [.ref (E.1 + k0), .ref (E.1 + k1)] M none r := by
  refine CM.of htr (by decide +kernel) (Nat.le_of_ble_eq_true rfl) ?_
  intro K hE hL hl hR0 C hr hRv
  subst hE
  subst hl
  have C : Cx K cX4_sortOut RX4 3 := C
  have hB : (0 : Nat) ≤ K.1.R.cells ∧ 0 ≤ K.1.R.slots := ⟨Nat.zero_le _, Nat.zero_le _⟩
  have hL2 : 2 < K.2.2.1 := by rw [hL]; decide
  have hL3 : 3 < K.2.2.1 := by rw [hL]; decide
  show G K (0, 0) 0 [(0, .ref (K.2.1.1 + k0)), (1, .ref (K.2.1.1 + k1))] [] M
  unfold f_X4_sortOut at hf
  refine g_iconst (v := (1 : Int32)) C (ckD_get k_X4_sortOut_0 0 rfl) (by decide) ?_
  refine g_aload_n 0 C (ckD_get k_X4_sortOut_0 1 rfl) rfl rfl ?_
  refine g_getI C (ckD_get k_X4_sortOut_0 2 rfl) fk_X4_31 (T_Or hk0) rfl ?_
  refine g_ishl C (ckD_get k_X4_sortOut_0 3 rfl) ?_
  refine g_iconst (v := (1 : Int32)) C (ckD_get k_X4_sortOut_0 4 rfl) (by decide) ?_
  refine g_isub C (ckD_get k_X4_sortOut_0 5 rfl) ?_
  obtain ⟨x2_1, ex2_1, hf⟩ := lt_e hf
  refine topI ex2_1 ?_
  refine g_istore_n (lv' := [(2, _), (0, _), (1, _)]) C (ckD_get k_X4_sortOut_0 6 rfl) rfl hL2 rfl ?_
  refine g_iconst (v := (0 : Int32)) C (ckD_get k_X4_sortOut_0 7 rfl) (by decide) ?_
  refine g_istore_n (lv' := [(3, _), (2, _), (0, _), (1, _)]) C (ckD_get k_X4_sortOut_0 8 rfl) rfl hL3 rfl ?_
  refine G.sub [2, 3, 1, 0] rfl ?_
  obtain ⟨M_5, hx_11, hf⟩ := bd_e hf
  have hE_11 : G K (0, 0) 43 [] [] M_5 := by
    have hf : f_X4_sortOut_A11 M_5 = some r := hf
    unfold f_X4_sortOut_A11 at hf
    cases hf
    exact g_vret C (ckD_get k_X4_sortOut_0 31 rfl) hr hRv (Nat.le_refl _) (Nat.le_refl _)
  refine loop_e (x := M_5) (P := fun (v : (Int32 × Int32 × Mm)) => G K (0, 0) 11 [(0, .ref (K.2.1.1 + k0)), (1, .ref (K.2.1.1 + k1)), (2, .int v.1), (3, .int v.2.1)] [] v.2.2) ?_ FU _ hx_11
  intro v rr_11 hf hn_11 hz_11
  obtain ⟨x2_2, x3_3, M_4⟩ := v
  have hf : f_X4_sortOut_L11 k0 k1 x2_2 x3_3 M_4 = some rr_11 := hf
  show G K (0, 0) 11 [(0, .ref (K.2.1.1 + k0)), (1, .ref (K.2.1.1 + k1)), (2, .int x2_2), (3, .int x3_3)] [] M_4
  unfold f_X4_sortOut_L11 at hf
  refine g_iload_n 3 C (ckD_get k_X4_sortOut_0 9 rfl) rfl rfl ?_
  refine g_aload_n 0 C (ckD_get k_X4_sortOut_0 10 rfl) rfl rfl ?_
  refine g_getI C (ckD_get k_X4_sortOut_0 11 rfl) fk_X4_31 (T_Or hk0) rfl ?_
  refine g_icmp_ge C (ckD_get k_X4_sortOut_0 12 rfl) (fun c_6 => ?_) (fun c_6 => ?_)
  · have hf := if_t hf c_6
    refine G.sub [] rfl ?_
    cases hf
    cases hz_11 _ rfl
    exact hE_11
  · have hf := if_f hf c_6
    refine g_aload_n 1 C (ckD_get k_X4_sortOut_0 13 rfl) rfl rfl ?_
    refine g_iload_n 3 C (ckD_get k_X4_sortOut_0 14 rfl) rfl rfl ?_
    refine g_aload_n 0 C (ckD_get k_X4_sortOut_0 15 rfl) rfl rfl ?_
    refine g_iload_n 2 C (ckD_get k_X4_sortOut_0 16 rfl) rfl rfl ?_
    obtain ⟨r_8, hr_7, hf⟩ := bd_e hf
    refine n_cV [.int x2_2] [.int x3_3, .ref (K.2.1.1 + k1)] C (ckD_get k_X4_sortOut_0 17 rfl) vk_X4_92 (t_X4_firstFree C.tr _ hk0 _ _ _ hr_7) (T_Or hk0) rfl rfl (Nat.le_of_ble_eq_true rfl) (by decide) hB rfl ?_
    obtain ⟨M_9, hi_10, eM_9, hf⟩ := wrI_e hf
    refine n_iast C (ckD_get k_X4_sortOut_0 18 rfl) hk1 hi_10 eM_9 ?_
    refine g_iload_n 2 C (ckD_get k_X4_sortOut_0 19 rfl) rfl rfl ?_
    refine g_iconst (v := (1 : Int32)) C (ckD_get k_X4_sortOut_0 20 rfl) (by decide) ?_
    refine g_aload_n 1 C (ckD_get k_X4_sortOut_0 21 rfl) rfl rfl ?_
    refine g_iload_n 3 C (ckD_get k_X4_sortOut_0 22 rfl) rfl rfl ?_
    obtain ⟨v_11, hi_12, ev_11, hf⟩ := rdI_e hf
    refine n_iald C (ckD_get k_X4_sortOut_0 23 rfl) hk1 hi_12 ev_11 ?_
    refine g_ishl C (ckD_get k_X4_sortOut_0 24 rfl) ?_
    refine g_iconst (v := (-1 : Int32)) C (ckD_get k_X4_sortOut_0 25 rfl) (by decide) ?_
    refine g_ixor C (ckD_get k_X4_sortOut_0 26 rfl) ?_
    refine g_iand C (ckD_get k_X4_sortOut_0 27 rfl) ?_
    obtain ⟨x2_13, ex2_13, hf⟩ := lt_e hf
    refine topI ex2_13 ?_
    refine g_istore_n (lv' := [(2, _), (0, _), (1, _), (3, _)]) C (ckD_get k_X4_sortOut_0 28 rfl) rfl hL2 rfl ?_
    obtain ⟨x3_14, ex3_14, hf⟩ := lt_e hf
    refine g_iinc (lv' := [(3, _), (2, _), (0, _), (1, _)]) 3 C (ckD_get k_X4_sortOut_0 29 rfl) rfl ex3_14 hL3 rfl ?_
    refine g_goto C (ckD_get k_X4_sortOut_0 30 rfl) ?_
    refine G.sub [2, 3, 1, 0] rfl ?_
    cases hf
    exact hn_11 _ rfl

set_option maxRecDepth 20000 in
theorem k_X4_readPlaces_0 : ckD cX4_readPlaces [(0, .aload_n 0, 1, 1, 0), (1, .aload_n 1, 1, 2, 0), (2, .getfield 73, 3, 5, 0), (5, .putfield 31, 3, 8, 0), (8, .aload_n 0, 1, 9, 0), (9, .aload_n 1, 1, 10, 0), (10, .invokevirtual 74, 3, 13, 0), (13, .aload_n 0, 1, 14, 0), (14, .aload_n 0, 1, 15, 0), (15, .getfield 9, 3, 18, 0), (18, .invokevirtual 78, 3, 21, 0), (21, .aload_n 0, 1, 22, 0), (22, .aload_n 1, 1, 23, 0), (23, .invokevirtual 82, 3, 26, 0), (26, .aload_n 0, 1, 27, 0), (27, .aload_n 0, 1, 28, 0), (28, .getfield 15, 3, 31, 0), (31, .invokevirtual 78, 3, 34, 0), (34, .aload_n 0, 1, 35, 0), (35, .invokevirtual 35, 3, 38, 0), (38, .return_, 1, 39, 0)] = true := by decide +kernel
def f_X4_readPlaces (k0 : Nat) (k1 : Nat) (M : Mm) : Option Mm := lt1 (wi M k0 5 (M.1 k1 6)) fun M_1 => (f_X4_noteAheadInOne k0 k1 M_1).bind fun M_3 => (f_X4_sortOut k0 (k0 + 1) M_3).bind fun M_5 => (f_X4_noteAheadInTwo k0 k1 M_5).bind fun M_7 => (f_X4_sortOut k0 (k0 + 2) M_7).bind fun M_9 => (f_X4_notePlaces k0 M_9).bind fun M_11 => some M_11
set_option maxRecDepth 100000 in
set_option maxHeartbeats 4000000 in
theorem t_X4_readPlaces {E : Ev} {l : Launch} (htr : l.stackTraces = false) (k0 : Nat) (hk0 : isOr k0) (k1 : Nat) (hk1 : isGr k1) (M : Mm) (r : Mm) (hf : f_X4_readPlaces k0 k1 M = some r) : CM E l 4 0 0 yX4_readPlaces cX4_readPlaces 2 none [.ref (E.1 + k0), .ref (E.1 + k1)] M none r := by
  refine CM.of htr (by decide +kernel) (Nat.le_of_ble_eq_true rfl) ?_
  intro K hE hL hl hR0 C hr hRv
  subst hE
  subst hl
  have C : Cx K cX4_readPlaces RX4 4 := C
  have hB : (0 : Nat) ≤ K.1.R.cells ∧ 0 ≤ K.1.R.slots := ⟨Nat.zero_le _, Nat.zero_le _⟩
  show G K (0, 0) 0 [(0, .ref (K.2.1.1 + k0)), (1, .ref (K.2.1.1 + k1))] [] M
  unfold f_X4_readPlaces at hf
  refine g_aload_n 0 C (ckD_get k_X4_readPlaces_0 0 rfl) rfl rfl ?_
  refine g_aload_n 1 C (ckD_get k_X4_readPlaces_0 1 rfl) rfl rfl ?_
  refine g_getI C (ckD_get k_X4_readPlaces_0 2 rfl) fk_X4_73 (T_Gr hk1) rfl ?_
  obtain ⟨M_1, eM_1, hf⟩ := lt_e hf
  refine g_putI C (ckD_get k_X4_readPlaces_0 3 rfl) fk_X4_31 (T_Or hk0) rfl ?_
  refine memI eM_1 ?_
  refine g_aload_n 0 C (ckD_get k_X4_readPlaces_0 4 rfl) rfl rfl ?_
  refine g_aload_n 1 C (ckD_get k_X4_readPlaces_0 5 rfl) rfl rfl ?_
  obtain ⟨M_3, hr_2, hf⟩ := bd_e hf
  refine n_cV [.ref (K.2.1.1 + k1)] [] C (ckD_get k_X4_readPlaces_0 6 rfl) vk_X4_74 (t_X4_noteAheadInOne C.tr _ hk0 _ hk1 _ _ hr_2) (T_Or hk0) rfl rfl (Nat.le_of_ble_eq_true rfl) (by decide) hB rfl ?_
  refine g_aload_n 0 C (ckD_get k_X4_readPlaces_0 7 rfl) rfl rfl ?_
  refine g_aload_n 0 C (ckD_get k_X4_readPlaces_0 8 rfl) rfl rfl ?_
  refine g_getR C (ckD_get k_X4_readPlaces_0 9 rfl) fk_X4_9 (T_Or hk0) rfl ?_
  obtain ⟨M_5, hr_4, hf⟩ := bd_e hf
  refine n_cV [.ref (K.2.1.1 + (k0 + 1))] [] C (ckD_get k_X4_readPlaces_0 10 rfl) vk_X4_78 (t_X4_sortOut C.tr _ hk0 _ (T_Or1 hk0) _ _ hr_4) (T_Or hk0) rfl rfl (Nat.le_of_ble_eq_true rfl) (by decide) hB rfl ?_
  refine g_aload_n 0 C (ckD_get k_X4_readPlaces_0 11 rfl) rfl rfl ?_
  refine g_aload_n 1 C (ckD_get k_X4_readPlaces_0 12 rfl) rfl rfl ?_
  obtain ⟨M_7, hr_6, hf⟩ := bd_e hf
  refine n_cV [.ref (K.2.1.1 + k1)] [] C (ckD_get k_X4_readPlaces_0 13 rfl) vk_X4_82 (t_X4_noteAheadInTwo C.tr _ hk0 _ hk1 _ _ hr_6) (T_Or hk0) rfl rfl (Nat.le_of_ble_eq_true rfl) (by decide) hB rfl ?_
  refine g_aload_n 0 C (ckD_get k_X4_readPlaces_0 14 rfl) rfl rfl ?_
  refine g_aload_n 0 C (ckD_get k_X4_readPlaces_0 15 rfl) rfl rfl ?_
  refine g_getR C (ckD_get k_X4_readPlaces_0 16 rfl) fk_X4_15 (T_Or hk0) rfl ?_
  obtain ⟨M_9, hr_8, hf⟩ := bd_e hf
  refine n_cV [.ref (K.2.1.1 + (k0 + 2))] [] C (ckD_get k_X4_readPlaces_0 17 rfl) vk_X4_78 (t_X4_sortOut C.tr _ hk0 _ (T_Or2 hk0) _ _ hr_8) (T_Or hk0) rfl rfl (Nat.le_of_ble_eq_true rfl) (by decide) hB rfl ?_
  refine g_aload_n 0 C (ckD_get k_X4_readPlaces_0 18 rfl) rfl rfl ?_
  obtain ⟨M_11, hr_10, hf⟩ := bd_e hf
  refine n_cV [] [] C (ckD_get k_X4_readPlaces_0 19 rfl) vk_X4_35 (t_X4_notePlaces C.tr _ hk0 _ _ hr_10) (T_Or hk0) rfl rfl (Nat.le_of_ble_eq_true rfl) (by decide) hB rfl ?_
  cases hf
  exact g_vret C (ckD_get k_X4_readPlaces_0 20 rfl) hr hRv (Nat.le_refl _) (Nat.le_refl _)

set_option maxRecDepth 20000 in
theorem k_X4_numberOf_0 : ckD cX4_numberOf [(0, .lconst 0, 1, 1, 0), (1, .lstore_n 2, 1, 2, 0), (2, .iconst 0, 1, 3, 0), (3, .istore 4, 2, 5, 0), (5, .iload 4, 2, 7, 0), (7, .aload_n 0, 1, 8, 0), (8, .getfield 31, 3, 11, 0), (11, .if_icmp .ge 62, 3, 14, 73), (14, .iconst 0, 1, 15, 0), (15, .istore 5, 2, 17, 0), (17, .iload 4, 2, 19, 0), (19, .iconst 1, 1, 20, 0), (20, .iadd, 1, 21, 0), (21, .istore 6, 2, 23, 0), (23, .iload 6, 2, 25, 0), (25, .aload_n 0, 1, 26, 0), (26, .getfield 31, 3, 29, 0), (29, .if_icmp .ge 23, 3, 32, 52), (32, .aload_n 1, 1, 33, 0), (33, .iload 6, 2, 35, 0), (35, .iaload, 1, 36, 0), (36, .aload_n 1, 1, 37, 0), (37, .iload 4, 2, 39, 0), (39, .iaload, 1, 40, 0), (40, .if_icmp .ge 6, 3, 43, 46), (43, .iinc 5 1, 3, 46, 0), (46, .iinc 6 1, 3, 49, 0), (49, .goto (-26), 3, 52, 23), (52, .lload_n 2, 1, 53, 0), (53, .aload_n 0, 1, 54, 0), (54, .getfield 31, 3, 57, 0), (57, .iload 4, 2, 59, 0), (59, .isub, 1, 60, 0), (60, .i2l, 1, 61, 0), (61, .lmul, 1, 62, 0), (62, .iload 5, 2, 64, 0), (64, .i2l, 1, 65, 0), (65, .ladd, 1, 66, 0), (66, .lstore_n 2, 1, 67, 0), (67, .iinc 4 1, 3, 70, 0)] = true := by decide +kernel
set_option maxRecDepth 20000 in
theorem k_X4_numberOf_1 : ckD cX4_numberOf [(70, .goto (-65), 3, 73, 5), (73, .lload_n 2, 1, 74, 0), (74, .lreturn, 1, 75, 0)] = true := by decide +kernel
def f_X4_numberOf_A5 (x2_3 : Int64) : Option Int64 := some x2_3
def f_X4_numberOf_A23 (k0 : Nat) (M : Mm) (x2_1 : Int64) (x4_2 : Int32) (x5_8 : Int32) : Option ((Int64 × Int32) ⊕ Int64) := lt1 ((x2_1 * ((((M.1 k0 5) - x4_2)).toInt64)) + ((x5_8).toInt64)) fun x2_9 => lt1 (x4_2 + 1) fun x4_10 => some (.inl (x2_9, x4_10))
def f_X4_numberOf_J46 (x6_7 : Int32) (p5_16 : Int32) : Option ((Int32 × Int32) ⊕ Int32) := lt1 (x6_7 + 1) fun x6_17 => some (.inl (p5_16, x6_17))
def f_X4_numberOf_L23 (k0 : Nat) (k1 : Nat) (M : Mm) (x4_2 : Int32) (x5_6 : Int32) (x6_7 : Int32) : Option ((Int32 × Int32) ⊕ Int32) := if (M.1 k0 5) ≤ x6_7 then some (.inr x5_6) else rdI 12 M k1 x6_7 fun v_12 => rdI 12 M k1 x4_2 fun v_14 => if v_14 ≤ v_12 then f_X4_numberOf_J46 x6_7 x5_6 else lt1 (x5_6 + 1) fun x5_19 => f_X4_numberOf_J46 x6_7 x5_19
def f_X4_numberOf_L5 (k0 : Nat) (k1 : Nat) (M : Mm) (x2_1 : Int64) (x4_2 : Int32) : Option ((Int64 × Int32) ⊕ Int64) := if (M.1 k0 5) ≤ x4_2 then some (.inr x2_1) else lt1 (x4_2 + (1 : Int32)) fun x6_5 => (loop (fun v => f_X4_numberOf_L23 k0 k1 M x4_2 v.1 v.2) FU ((0 : Int32), x6_5)).bind fun z => f_X4_numberOf_A23 k0 M x2_1 x4_2 z
def f_X4_numberOf (k0 : Nat) (k1 : Nat) (M : Mm) : Option Int64 := (loop (fun v => f_X4_numberOf_L5 k0 k1 M v.1 v.2) FU ((0 : Int64), (0 : Int32))).bind fun z => f_X4_numberOf_A5 z
set_option maxRecDepth 100000 in
set_option maxHeartbeats 4000000 in
theorem t_X4_numberOf {E : Ev} {l : Launch} (htr : l.stackTraces = false) (k0 : Nat) (hk0 : isOr k0) (k1 : Nat) (hk1 : LT[k1]? = some (0, 12, [])) (M : Mm) (r : Int64) (hf : f_X4_numberOf k0 k1 M = some r) : CM E l 0 0 0 yX4_numberOf cX4_numberOf 7 (some .long) [.ref (E.1 + k0), .ref (E.1 + k1)] M (some (.long r)) M := by
  refine CM.of htr (by decide +kernel) (Nat.le_of_ble_eq_true rfl) ?_
  intro K hE hL hl hR0 C hr hRv
  subst hE
  subst hl
  have C : Cx K cX4_numberOf RX4 0 := C
  have hB : (0 : Nat) ≤ K.1.R.cells ∧ 0 ≤ K.1.R.slots := ⟨Nat.zero_le _, Nat.zero_le _⟩
  have hL3 : 3 < K.2.2.1 := by rw [hL]; decide
  have hL4 : 4 < K.2.2.1 := by rw [hL]; decide
  have hL5 : 5 < K.2.2.1 := by rw [hL]; decide
  have hL6 : 6 < K.2.2.1 := by rw [hL]; decide
  show G K (0, 0) 0 [(0, .ref (K.2.1.1 + k0)), (1, .ref (K.2.1.1 + k1))] [] M
  unfold f_X4_numberOf at hf
  refine g_lconst (v := (0 : Int64)) C (ckD_get k_X4_numberOf_0 0 rfl) (by decide) ?_
  refine g_lstore_n (lv' := [(2, _), (0, _), (1, _)]) C (ckD_get k_X4_numberOf_0 1 rfl) rfl hL3 rfl ?_
  refine g_iconst (v := (0 : Int32)) C (ckD_get k_X4_numberOf_0 2 rfl) (by decide) ?_
  refine g_istore (lv' := [(4, _), (2, _), (0, _), (1, _)]) C (ckD_get k_X4_numberOf_0 3 rfl) hL4 rfl ?_
  refine G.sub [2, 3, 1, 0] rfl ?_
  obtain ⟨x2_3, hx_5, hf⟩ := bd_e hf
  have hE_5 : G K (0, 0) 73 [(2, .long x2_3)] [] M := by
    have hf : f_X4_numberOf_A5 x2_3 = some r := hf
    unfold f_X4_numberOf_A5 at hf
    refine g_lload_n 0 C (ckD_get k_X4_numberOf_1 1 rfl) rfl rfl ?_
    cases hf
    exact g_lret C (ckD_get k_X4_numberOf_1 2 rfl) hr hRv (Nat.le_refl _) (Nat.le_refl _)
  refine loop_e (x := x2_3) (P := fun (v : (Int64 × Int32)) => G K (0, 0) 5 [(0, .ref (K.2.1.1 + k0)), (1, .ref (K.2.1.1 + k1)), (2, .long v.1), (4, .int v.2)] [] M) ?_ FU _ hx_5
  intro v rr_5 hf hn_5 hz_5
  obtain ⟨x2_1, x4_2⟩ := v
  have hf : f_X4_numberOf_L5 k0 k1 M x2_1 x4_2 = some rr_5 := hf
  show G K (0, 0) 5 [(0, .ref (K.2.1.1 + k0)), (1, .ref (K.2.1.1 + k1)), (2, .long x2_1), (4, .int x4_2)] [] M
  unfold f_X4_numberOf_L5 at hf
  refine g_iload 3 C (ckD_get k_X4_numberOf_0 4 rfl) rfl ?_
  refine g_aload_n 0 C (ckD_get k_X4_numberOf_0 5 rfl) rfl rfl ?_
  refine g_getI C (ckD_get k_X4_numberOf_0 6 rfl) fk_X4_31 (T_Or hk0) rfl ?_
  refine g_icmp_ge C (ckD_get k_X4_numberOf_0 7 rfl) (fun c_4 => ?_) (fun c_4 => ?_)
  · have hf := if_t hf c_4
    refine G.sub [2] rfl ?_
    cases hf
    cases hz_5 _ rfl
    exact hE_5
  · have hf := if_f hf c_4
    refine g_iconst (v := (0 : Int32)) C (ckD_get k_X4_numberOf_0 8 rfl) (by decide) ?_
    refine g_istore (lv' := [(5, _), (0, _), (1, _), (2, _), (4, _)]) C (ckD_get k_X4_numberOf_0 9 rfl) hL5 rfl ?_
    refine g_iload 4 C (ckD_get k_X4_numberOf_0 10 rfl) rfl ?_
    refine g_iconst (v := (1 : Int32)) C (ckD_get k_X4_numberOf_0 11 rfl) (by decide) ?_
    refine g_iadd C (ckD_get k_X4_numberOf_0 12 rfl) ?_
    obtain ⟨x6_5, ex6_5, hf⟩ := lt_e hf
    refine topI ex6_5 ?_
    refine g_istore (lv' := [(6, _), (5, _), (0, _), (1, _), (2, _), (4, _)]) C (ckD_get k_X4_numberOf_0 13 rfl) hL6 rfl ?_
    refine G.sub [2, 3, 4, 5, 1, 0] rfl ?_
    obtain ⟨x5_8, hx_23, hf⟩ := bd_e hf
    have hE_23 : G K (0, 0) 52 [(0, .ref (K.2.1.1 + k0)), (1, .ref (K.2.1.1 + k1)), (2, .long x2_1), (4, .int x4_2), (5, .int x5_8)] [] M := by
      have hf : f_X4_numberOf_A23 k0 M x2_1 x4_2 x5_8 = some rr_5 := hf
      unfold f_X4_numberOf_A23 at hf
      refine g_lload_n 2 C (ckD_get k_X4_numberOf_0 28 rfl) rfl rfl ?_
      refine g_aload_n 0 C (ckD_get k_X4_numberOf_0 29 rfl) rfl rfl ?_
      refine g_getI C (ckD_get k_X4_numberOf_0 30 rfl) fk_X4_31 (T_Or hk0) rfl ?_
      refine g_iload 3 C (ckD_get k_X4_numberOf_0 31 rfl) rfl ?_
      refine g_isub C (ckD_get k_X4_numberOf_0 32 rfl) ?_
      refine g_i2l C (ckD_get k_X4_numberOf_0 33 rfl) ?_
      refine g_lmul C (ckD_get k_X4_numberOf_0 34 rfl) ?_
      refine g_iload 4 C (ckD_get k_X4_numberOf_0 35 rfl) rfl ?_
      refine g_i2l C (ckD_get k_X4_numberOf_0 36 rfl) ?_
      refine g_ladd C (ckD_get k_X4_numberOf_0 37 rfl) ?_
      obtain ⟨x2_9, ex2_9, hf⟩ := lt_e hf
      refine topL ex2_9 ?_
      refine g_lstore_n (lv' := [(2, _), (0, _), (1, _), (4, _), (5, _)]) C (ckD_get k_X4_numberOf_0 38 rfl) rfl hL3 rfl ?_
      obtain ⟨x4_10, ex4_10, hf⟩ := lt_e hf
      refine g_iinc (lv' := [(4, _), (2, _), (0, _), (1, _), (5, _)]) 3 C (ckD_get k_X4_numberOf_0 39 rfl) rfl ex4_10 hL4 rfl ?_
      refine g_goto C (ckD_get k_X4_numberOf_1 0 rfl) ?_
      refine G.sub [2, 3, 1, 0] rfl ?_
      cases hf
      exact hn_5 _ rfl
    refine loop_e (x := x5_8) (P := fun (v : (Int32 × Int32)) => G K (0, 0) 23 [(0, .ref (K.2.1.1 + k0)), (1, .ref (K.2.1.1 + k1)), (2, .long x2_1), (4, .int x4_2), (5, .int v.1), (6, .int v.2)] [] M) ?_ FU _ hx_23
    intro v rr_23 hf hn_23 hz_23
    obtain ⟨x5_6, x6_7⟩ := v
    have hf : f_X4_numberOf_L23 k0 k1 M x4_2 x5_6 x6_7 = some rr_23 := hf
    show G K (0, 0) 23 [(0, .ref (K.2.1.1 + k0)), (1, .ref (K.2.1.1 + k1)), (2, .long x2_1), (4, .int x4_2), (5, .int x5_6), (6, .int x6_7)] [] M
    unfold f_X4_numberOf_L23 at hf
    refine g_iload 5 C (ckD_get k_X4_numberOf_0 14 rfl) rfl ?_
    refine g_aload_n 0 C (ckD_get k_X4_numberOf_0 15 rfl) rfl rfl ?_
    refine g_getI C (ckD_get k_X4_numberOf_0 16 rfl) fk_X4_31 (T_Or hk0) rfl ?_
    refine g_icmp_ge C (ckD_get k_X4_numberOf_0 17 rfl) (fun c_11 => ?_) (fun c_11 => ?_)
    · have hf := if_t hf c_11
      refine G.sub [0, 1, 2, 3, 4] rfl ?_
      cases hf
      cases hz_23 _ rfl
      exact hE_23
    · have hf := if_f hf c_11
      refine g_aload_n 1 C (ckD_get k_X4_numberOf_0 18 rfl) rfl rfl ?_
      refine g_iload 5 C (ckD_get k_X4_numberOf_0 19 rfl) rfl ?_
      obtain ⟨v_12, hi_13, ev_12, hf⟩ := rdI_e hf
      refine n_iald C (ckD_get k_X4_numberOf_0 20 rfl) hk1 hi_13 ev_12 ?_
      refine g_aload_n 1 C (ckD_get k_X4_numberOf_0 21 rfl) rfl rfl ?_
      refine g_iload 3 C (ckD_get k_X4_numberOf_0 22 rfl) rfl ?_
      obtain ⟨v_14, hi_15, ev_14, hf⟩ := rdI_e hf
      refine n_iald C (ckD_get k_X4_numberOf_0 23 rfl) hk1 hi_15 ev_14 ?_
      have hJ_46 : ∀ (p5_16 : Int32), f_X4_numberOf_J46 x6_7 p5_16 = some rr_23 → G K (0, 0) 46 [(0, .ref (K.2.1.1 + k0)), (1, .ref (K.2.1.1 + k1)), (2, .long x2_1), (4, .int x4_2), (5, .int p5_16), (6, .int x6_7)] [] M := by
        intro p5_16 hf
        unfold f_X4_numberOf_J46 at hf
        obtain ⟨x6_17, ex6_17, hf⟩ := lt_e hf
        refine g_iinc (lv' := [(6, _), (0, _), (1, _), (2, _), (4, _), (5, _)]) 5 C (ckD_get k_X4_numberOf_0 26 rfl) rfl ex6_17 hL6 rfl ?_
        refine g_goto C (ckD_get k_X4_numberOf_0 27 rfl) ?_
        refine G.sub [1, 2, 3, 4, 5, 0] rfl ?_
        cases hf
        exact hn_23 _ rfl
      refine g_icmp_ge C (ckD_get k_X4_numberOf_0 24 rfl) (fun c_18 => ?_) (fun c_18 => ?_)
      · have hf := if_t hf c_18
        exact hJ_46 _ hf
      · have hf := if_f hf c_18
        obtain ⟨x5_19, ex5_19, hf⟩ := lt_e hf
        refine g_iinc (lv' := [(5, _), (0, _), (1, _), (2, _), (4, _), (6, _)]) 4 C (ckD_get k_X4_numberOf_0 25 rfl) rfl ex5_19 hL5 rfl ?_
        refine G.sub [1, 2, 3, 4, 0, 5] rfl ?_
        exact hJ_46 _ hf

set_option maxRecDepth 20000 in
theorem k_X9_factorial_0 : ckD cX9_factorial [(0, .iload_n 0, 1, 1, 0), (1, .ifCond .lt 19, 3, 4, 20), (4, .iload_n 0, 1, 5, 0), (5, .getstatic 351, 3, 8, 0), (8, .arraylength, 1, 9, 0), (9, .if_icmp .ge 11, 3, 12, 20), (12, .getstatic 351, 3, 15, 0), (15, .iload_n 0, 1, 16, 0), (16, .laload, 1, 17, 0), (17, .goto 4, 3, 20, 21), (20, .lconst 1, 1, 21, 0), (21, .lreturn, 1, 22, 0)] = true := by decide +kernel
def f_X9_factorial (a0 : Int32) (M : Mm) : Option Int64 := if a0 < 0 then some (1 : Int64) else if (13 : Int32) ≤ a0 then some (1 : Int64) else rdS FA1 a0 fun v_3 => some v_3
set_option maxRecDepth 100000 in
set_option maxHeartbeats 4000000 in
theorem t_X9_factorial {E : Ev} {l : Launch} (htr : l.stackTraces = false) (a0 : Int32) (M : Mm) (r : Int64) (hf : f_X9_factorial a0 M = some r) : CM E l 0 0 0 yX9_factorial cX9_factorial 1 (some .long) [.int a0] M (some (.long r)) M := by
  refine CM.of htr (by decide +kernel) (Nat.le_of_ble_eq_true rfl) ?_
  intro K hE hL hl hR0 C hr hRv
  subst hE
  subst hl
  have C : Cx K cX9_factorial RX9 0 := C
  have hB : (0 : Nat) ≤ K.1.R.cells ∧ 0 ≤ K.1.R.slots := ⟨Nat.zero_le _, Nat.zero_le _⟩
  show G K (0, 0) 0 [(0, .int a0)] [] M
  unfold f_X9_factorial at hf
  refine g_iload_n 0 C (ckD_get k_X9_factorial_0 0 rfl) rfl rfl ?_
  refine g_if_lt C (ckD_get k_X9_factorial_0 1 rfl) (fun c_1 => ?_) (fun c_1 => ?_)
  · have hf := if_t hf c_1
    refine g_lconst (v := (1 : Int64)) C (ckD_get k_X9_factorial_0 10 rfl) (by decide) ?_
    cases hf
    exact g_lret C (ckD_get k_X9_factorial_0 11 rfl) hr hRv (Nat.le_refl _) (Nat.le_refl _)
  · have hf := if_f hf c_1
    refine g_iload_n 0 C (ckD_get k_X9_factorial_0 2 rfl) rfl rfl ?_
    refine g_gets C (ckD_get k_X9_factorial_0 3 rfl) C.iv.2.2.1.1 q634 ?_
    refine g_tlen (v := 13) C (ckD_get k_X9_factorial_0 4 rfl) C.iv.2.2.1.2 (by decide) ?_
    refine g_icmp_ge C (ckD_get k_X9_factorial_0 5 rfl) (fun c_2 => ?_) (fun c_2 => ?_)
    · have hf := if_t hf c_2
      refine g_lconst (v := (1 : Int64)) C (ckD_get k_X9_factorial_0 10 rfl) (by decide) ?_
      cases hf
      exact g_lret C (ckD_get k_X9_factorial_0 11 rfl) hr hRv (Nat.le_refl _) (Nat.le_refl _)
    · have hf := if_f hf c_2
      refine g_gets C (ckD_get k_X9_factorial_0 6 rfl) C.iv.2.2.1.1 q634 ?_
      refine g_iload_n 0 C (ckD_get k_X9_factorial_0 7 rfl) rfl rfl ?_
      obtain ⟨v_3, hi_4, ev_3, hf⟩ := rdS_e hf
      refine g_tl C (ckD_get k_X9_factorial_0 8 rfl) C.iv.2.2.1.2 hi_4 ev_3 ?_
      refine g_goto C (ckD_get k_X9_factorial_0 9 rfl) ?_
      cases hf
      exact g_lret C (ckD_get k_X9_factorial_0 11 rfl) hr hRv (Nat.le_refl _) (Nat.le_refl _)

set_option maxRecDepth 20000 in
theorem k_X4_number_0 : ckD cX4_number [(0, .aload_n 0, 1, 1, 0), (1, .aload_n 0, 1, 2, 0), (2, .getfield 9, 3, 5, 0), (5, .invokevirtual 102, 3, 8, 0), (8, .aload_n 0, 1, 9, 0), (9, .getfield 31, 3, 12, 0), (12, .invokestatic 106, 3, 15, 0), (15, .lmul, 1, 16, 0), (16, .aload_n 0, 1, 17, 0), (17, .aload_n 0, 1, 18, 0), (18, .getfield 15, 3, 21, 0), (21, .invokevirtual 102, 3, 24, 0), (24, .ladd, 1, 25, 0), (25, .lreturn, 1, 26, 0)] = true := by decide +kernel
def f_X4_number (k0 : Nat) (M : Mm) : Option Int64 := (f_X4_numberOf k0 (k0 + 1) M).bind fun r_2 => (f_X9_factorial (M.1 k0 5) M).bind fun r_4 => (f_X4_numberOf k0 (k0 + 2) M).bind fun r_6 => some ((r_2 * r_4) + r_6)
set_option maxRecDepth 100000 in
set_option maxHeartbeats 4000000 in
theorem t_X4_number {E : Ev} {l : Launch} (htr : l.stackTraces = false) (k0 : Nat) (hk0 : isOr k0) (M : Mm) (r : Int64) (hf : f_X4_number k0 M = some r) : CM E l 1 0 0 yX4_number cX4_number 1 (some .long) [.ref (E.1 + k0)] M (some (.long r)) M := by
  refine CM.of htr (by decide +kernel) (Nat.le_of_ble_eq_true rfl) ?_
  intro K hE hL hl hR0 C hr hRv
  subst hE
  subst hl
  have C : Cx K cX4_number RX4 1 := C
  have hB : (0 : Nat) ≤ K.1.R.cells ∧ 0 ≤ K.1.R.slots := ⟨Nat.zero_le _, Nat.zero_le _⟩
  show G K (0, 0) 0 [(0, .ref (K.2.1.1 + k0))] [] M
  unfold f_X4_number at hf
  refine g_aload_n 0 C (ckD_get k_X4_number_0 0 rfl) rfl rfl ?_
  refine g_aload_n 0 C (ckD_get k_X4_number_0 1 rfl) rfl rfl ?_
  refine g_getR C (ckD_get k_X4_number_0 2 rfl) fk_X4_9 (T_Or hk0) rfl ?_
  obtain ⟨r_2, hr_1, hf⟩ := bd_e hf
  refine n_cV [.ref (K.2.1.1 + (k0 + 1))] [] C (ckD_get k_X4_number_0 3 rfl) vk_X4_102 (t_X4_numberOf C.tr _ hk0 _ (T_Or1 hk0) _ _ hr_1) (T_Or hk0) rfl rfl (Nat.le_of_ble_eq_true rfl) (by decide) hB rfl ?_
  refine g_aload_n 0 C (ckD_get k_X4_number_0 4 rfl) rfl rfl ?_
  refine g_getI C (ckD_get k_X4_number_0 5 rfl) fk_X4_31 (T_Or hk0) rfl ?_
  obtain ⟨r_4, hr_3, hf⟩ := bd_e hf
  refine n_cN [.int (M.1 k0 5)] [.long r_2] C (ckD_get k_X4_number_0 6 rfl) nk_X4_106 (t_X9_factorial C.tr _ _ _ hr_3) rfl rfl (Nat.le_of_ble_eq_true rfl) (by decide) hB rfl ?_
  refine g_lmul C (ckD_get k_X4_number_0 7 rfl) ?_
  refine g_aload_n 0 C (ckD_get k_X4_number_0 8 rfl) rfl rfl ?_
  refine g_aload_n 0 C (ckD_get k_X4_number_0 9 rfl) rfl rfl ?_
  refine g_getR C (ckD_get k_X4_number_0 10 rfl) fk_X4_15 (T_Or hk0) rfl ?_
  obtain ⟨r_6, hr_5, hf⟩ := bd_e hf
  refine n_cV [.ref (K.2.1.1 + (k0 + 2))] [.long (r_2 * r_4)] C (ckD_get k_X4_number_0 11 rfl) vk_X4_102 (t_X4_numberOf C.tr _ hk0 _ (T_Or2 hk0) _ _ hr_5) (T_Or hk0) rfl rfl (Nat.le_of_ble_eq_true rfl) (by decide) hB rfl ?_
  refine g_ladd C (ckD_get k_X4_number_0 12 rfl) ?_
  cases hf
  exact g_lret C (ckD_get k_X4_number_0 13 rfl) hr hRv (Nat.le_refl _) (Nat.le_refl _)
