def f_law_J1690 (i : Int32) (M : Mm) : Option (Option (Int32 × Mm)) := lt1 (i + 7) fun x4_1 => some (some (x4_1, M))
set_option maxRecDepth 100000 in
set_option maxHeartbeats 40000000 in
theorem law_end {K : Kx} {b L : Nat} {xs : Nat → Int32} (C : Cx K cL_law RL 124) (hL : K.2.2.1 = 8) (hX : Sx K b L xs) (i : Int32) (M : Mm) (cA cB : Nat) (rr : Option (Int32 × Mm)) (hf : f_law_J1690 i M = some rr) (hn : ∀ (i' : Int32) (M' : Mm), rr = some (i', M') → G K (cA + 8, cB + 48) 23 [(0, .ref b), (1, .ref (K.2.1.1 + 0)), (2, .ref (K.2.1.1 + 69)), (3, .ref (K.2.1.1 + 105)), (4, .int i')] [] M') : G K (cA + 8, cB + 48) 1690 [(0, .ref b), (1, .ref (K.2.1.1 + 0)), (2, .ref (K.2.1.1 + 69)), (3, .ref (K.2.1.1 + 105)), (4, .int i)] [] M := by
  have hL4 : 4 < K.2.2.1 := by rw [hL]; decide
  unfold f_law_J1690 at hf
  obtain ⟨x4_1, ex4_1, hf⟩ := lt_e hf
  refine g_iinc (lv' := [(4, _), (0, _), (1, _), (2, _), (3, _)]) 4 C (ckD_get k_L_law_26 5 rfl) rfl ex4_1 hL4 rfl ?_
  refine g_goto C (ckD_get k_L_law_26 6 rfl) ?_
  refine G.sub [1, 2, 3, 4, 0] rfl ?_
  refine G.wid (cs' := (cA + 8, cB + 48)) (by show cA + 8 ≤ cA + 8; omega) (by show cB + 48 ≤ cB + 48; omega) ?_
  cases hf
  exact hn _ _ rfl
def f_law_J213 (i : Int32) (M_10 : Mm) (r_11 : Int32) (v_12 : Int32) (v_14 : Int32) (s_18 : Int32) : Option (Option (Int32 × Mm)) := bd2 (f_X10_block v_12 v_14 s_18 M_10) fun r_21 M_20 => if r_11 = r_21 then f_law_J1690 i M_20 else none
def f_law_J183 (xs : Nat → Int32) (L : Nat) (M : Mm) (i : Int32) (v_2 : Int32) (v_4 : Int32) (s_8 : Int32) : Option (Option (Int32 × Mm)) := bd2 (f_X9_block v_2 v_4 s_8 M) fun r_11 M_10 => rdX L xs (i + (1 : Int32)) fun v_12 => rdX L xs (i + (2 : Int32)) fun v_14 => rdX L xs (i + (3 : Int32)) fun v_16 => if v_16 = 0 then f_law_J213 i M_10 r_11 v_12 v_14 (0 : Int32) else f_law_J213 i M_10 r_11 v_12 v_14 (1 : Int32)
def f_arm_0 (xs : Nat → Int32) (L : Nat) (i : Int32) (M : Mm) : Option (Option (Int32 × Mm)) := rdX L xs (i + (1 : Int32)) fun v_2 => rdX L xs (i + (2 : Int32)) fun v_4 => rdX L xs (i + (3 : Int32)) fun v_6 => if v_6 = 0 then f_law_J183 xs L M i v_2 v_4 (0 : Int32) else f_law_J183 xs L M i v_2 v_4 (1 : Int32)
set_option maxRecDepth 100000 in
set_option maxHeartbeats 40000000 in
theorem law_arm_0 {K : Kx} {b L : Nat} {xs : Nat → Int32} (C : Cx K cL_law RL 124) (hL : K.2.2.1 = 8) (hX : Sx K b L xs) (i : Int32) (M : Mm) (cA cB : Nat) (hcs : cA + 8 ≤ K.1.R.cells ∧ cB + 48 ≤ K.1.R.slots) (rr : Option (Int32 × Mm)) (hf : f_arm_0 xs L i M = some rr) (hn : ∀ (i' : Int32) (M' : Mm), rr = some (i', M') → G K (cA + 8, cB + 48) 23 [(0, .ref b), (1, .ref (K.2.1.1 + 0)), (2, .ref (K.2.1.1 + 69)), (3, .ref (K.2.1.1 + 105)), (4, .int i')] [] M') : G K (cA, cB) 156 [(0, .ref b), (1, .ref (K.2.1.1 + 0)), (2, .ref (K.2.1.1 + 69)), (3, .ref (K.2.1.1 + 105)), (4, .int i)] [] M := by
  have hJ_1690 : ∀ (M' : Mm), f_law_J1690 i M' = some rr → G K (cA + 8, cB + 48) 1690 [(0, .ref b), (1, .ref (K.2.1.1 + 0)), (2, .ref (K.2.1.1 + 69)), (3, .ref (K.2.1.1 + 105)), (4, .int i)] [] M' := fun M' hf => law_end C hL hX i M' cA cB rr hf hn
  unfold f_arm_0 at hf
  refine g_aload_n 1 C (ckD_get k_L_law_0 25 rfl) rfl rfl ?_
  refine g_aload_n 0 C (ckD_get k_L_law_0 26 rfl) rfl rfl ?_
  refine g_iload 4 C (ckD_get k_L_law_0 27 rfl) rfl ?_
  refine g_iconst (v := (1 : Int32)) C (ckD_get k_L_law_0 28 rfl) (by decide) ?_
  refine g_iadd C (ckD_get k_L_law_0 29 rfl) ?_
  obtain ⟨v_2, hi_3, ev_2, hf⟩ := rdX_e hf
  refine g_sld hX C (ckD_get k_L_law_0 30 rfl) hi_3 ev_2 ?_
  refine g_aload_n 0 C (ckD_get k_L_law_0 31 rfl) rfl rfl ?_
  refine g_iload 4 C (ckD_get k_L_law_0 32 rfl) rfl ?_
  refine g_iconst (v := (2 : Int32)) C (ckD_get k_L_law_0 33 rfl) (by decide) ?_
  refine g_iadd C (ckD_get k_L_law_0 34 rfl) ?_
  obtain ⟨v_4, hi_5, ev_4, hf⟩ := rdX_e hf
  refine g_sld hX C (ckD_get k_L_law_0 35 rfl) hi_5 ev_4 ?_
  refine g_aload_n 0 C (ckD_get k_L_law_0 36 rfl) rfl rfl ?_
  refine g_iload 4 C (ckD_get k_L_law_0 37 rfl) rfl ?_
  refine g_iconst (v := (3 : Int32)) C (ckD_get k_L_law_0 38 rfl) (by decide) ?_
  refine g_iadd C (ckD_get k_L_law_0 39 rfl) ?_
  obtain ⟨v_6, hi_7, ev_6, hf⟩ := rdX_e hf
  refine g_sld hX C (ckD_get k_L_law_1 0 rfl) hi_7 ev_6 ?_
  have hJ_183 : ∀ (s_8 : Int32), f_law_J183 xs L M i v_2 v_4 s_8 = some rr → G K (cA + 0, cB + 0) 183 [(0, .ref b), (1, .ref (K.2.1.1 + 0)), (2, .ref (K.2.1.1 + 69)), (3, .ref (K.2.1.1 + 105)), (4, .int i)] [.int s_8, .int v_4, .int v_2, .ref (K.2.1.1 + 0)] M := by
    intro s_8 hf
    unfold f_law_J183 at hf
    obtain ⟨r_11, M_10, hr_9, hf⟩ := bd2_e hf
    refine n_cV [.int v_2, .int v_4, .int s_8] [] C (ckD_get k_L_law_1 5 rfl) vk_L_71 (t_X9_block C.tr _ _ _ _ _ hr_9) T0 rfl rfl (Nat.le_of_ble_eq_true rfl) (by decide) ⟨by have := hcs.1; show cA + 0 ≤ _; omega, by have := hcs.2; show cB + 0 ≤ _; omega⟩ rfl ?_
    refine g_aload_n 2 C (ckD_get k_L_law_1 6 rfl) rfl rfl ?_
    refine g_aload_n 0 C (ckD_get k_L_law_1 7 rfl) rfl rfl ?_
    refine g_iload 4 C (ckD_get k_L_law_1 8 rfl) rfl ?_
    refine g_iconst (v := (1 : Int32)) C (ckD_get k_L_law_1 9 rfl) (by decide) ?_
    refine g_iadd C (ckD_get k_L_law_1 10 rfl) ?_
    obtain ⟨v_12, hi_13, ev_12, hf⟩ := rdX_e hf
    refine g_sld hX C (ckD_get k_L_law_1 11 rfl) hi_13 ev_12 ?_
    refine g_aload_n 0 C (ckD_get k_L_law_1 12 rfl) rfl rfl ?_
    refine g_iload 4 C (ckD_get k_L_law_1 13 rfl) rfl ?_
    refine g_iconst (v := (2 : Int32)) C (ckD_get k_L_law_1 14 rfl) (by decide) ?_
    refine g_iadd C (ckD_get k_L_law_1 15 rfl) ?_
    obtain ⟨v_14, hi_15, ev_14, hf⟩ := rdX_e hf
    refine g_sld hX C (ckD_get k_L_law_1 16 rfl) hi_15 ev_14 ?_
    refine g_aload_n 0 C (ckD_get k_L_law_1 17 rfl) rfl rfl ?_
    refine g_iload 4 C (ckD_get k_L_law_1 18 rfl) rfl ?_
    refine g_iconst (v := (3 : Int32)) C (ckD_get k_L_law_1 19 rfl) (by decide) ?_
    refine g_iadd C (ckD_get k_L_law_1 20 rfl) ?_
    obtain ⟨v_16, hi_17, ev_16, hf⟩ := rdX_e hf
    refine g_sld hX C (ckD_get k_L_law_1 21 rfl) hi_17 ev_16 ?_
    have hJ_213 : ∀ (s_18 : Int32), f_law_J213 i M_10 r_11 v_12 v_14 s_18 = some rr → G K (cA + 0, cB + 0) 213 [(0, .ref b), (1, .ref (K.2.1.1 + 0)), (2, .ref (K.2.1.1 + 69)), (3, .ref (K.2.1.1 + 105)), (4, .int i)] [.int s_18, .int v_14, .int v_12, .ref (K.2.1.1 + 69), .int r_11] M_10 := by
      intro s_18 hf
      unfold f_law_J213 at hf
      obtain ⟨r_21, M_20, hr_19, hf⟩ := bd2_e hf
      refine n_cV [.int v_12, .int v_14, .int s_18] [.int r_11] C (ckD_get k_L_law_1 26 rfl) vk_L_75 (t_X10_block C.tr _ _ _ _ _ hr_19) T69 rfl rfl (Nat.le_of_ble_eq_true rfl) (by decide) ⟨by have := hcs.1; show cA + 0 ≤ _; omega, by have := hcs.2; show cB + 0 ≤ _; omega⟩ rfl ?_
      refine g_icmp_eq C (ckD_get k_L_law_1 27 rfl) (fun c_22 => ?_) (fun c_22 => ?_)
      · have hf := if_t hf c_22
        refine G.wid (cs' := (cA + 8, cB + 48)) (by show cA + 0 ≤ cA + 8; omega) (by show cB + 0 ≤ cB + 48; omega) ?_
        exact hJ_1690 _ hf
      · have hf := if_f hf c_22
        cases hf
    refine g_if_eq C (ckD_get k_L_law_1 22 rfl) (fun c_23 => ?_) (fun c_23 => ?_)
    · have hf := if_t hf c_23
      refine g_iconst (v := (0 : Int32)) C (ckD_get k_L_law_1 25 rfl) (by decide) ?_
      exact hJ_213 _ hf
    · have hf := if_f hf c_23
      refine g_iconst (v := (1 : Int32)) C (ckD_get k_L_law_1 23 rfl) (by decide) ?_
      refine g_goto C (ckD_get k_L_law_1 24 rfl) ?_
      exact hJ_213 _ hf
  refine g_if_eq C (ckD_get k_L_law_1 1 rfl) (fun c_24 => ?_) (fun c_24 => ?_)
  · have hf := if_t hf c_24
    refine g_iconst (v := (0 : Int32)) C (ckD_get k_L_law_1 4 rfl) (by decide) ?_
    exact hJ_183 _ hf
  · have hf := if_f hf c_24
    refine g_iconst (v := (1 : Int32)) C (ckD_get k_L_law_1 2 rfl) (by decide) ?_
    refine g_goto C (ckD_get k_L_law_1 3 rfl) ?_
    exact hJ_183 _ hf
def f_arm_1 (xs : Nat → Int32) (L : Nat) (i : Int32) (M : Mm) : Option (Option (Int32 × Mm)) := bd2 (f_X9_less M) fun r_27 M_26 => bd2 (f_X10_less M_26) fun r_30 M_29 => if r_27 = r_30 then f_law_J1690 i M_29 else none
set_option maxRecDepth 100000 in
set_option maxHeartbeats 40000000 in
theorem law_arm_1 {K : Kx} {b L : Nat} {xs : Nat → Int32} (C : Cx K cL_law RL 124) (hL : K.2.2.1 = 8) (hX : Sx K b L xs) (i : Int32) (M : Mm) (cA cB : Nat) (hcs : cA + 8 ≤ K.1.R.cells ∧ cB + 48 ≤ K.1.R.slots) (rr : Option (Int32 × Mm)) (hf : f_arm_1 xs L i M = some rr) (hn : ∀ (i' : Int32) (M' : Mm), rr = some (i', M') → G K (cA + 8, cB + 48) 23 [(0, .ref b), (1, .ref (K.2.1.1 + 0)), (2, .ref (K.2.1.1 + 69)), (3, .ref (K.2.1.1 + 105)), (4, .int i')] [] M') : G K (cA, cB) 221 [(0, .ref b), (1, .ref (K.2.1.1 + 0)), (2, .ref (K.2.1.1 + 69)), (3, .ref (K.2.1.1 + 105)), (4, .int i)] [] M := by
  have hJ_1690 : ∀ (M' : Mm), f_law_J1690 i M' = some rr → G K (cA + 8, cB + 48) 1690 [(0, .ref b), (1, .ref (K.2.1.1 + 0)), (2, .ref (K.2.1.1 + 69)), (3, .ref (K.2.1.1 + 105)), (4, .int i)] [] M' := fun M' hf => law_end C hL hX i M' cA cB rr hf hn
  unfold f_arm_1 at hf
  refine g_aload_n 1 C (ckD_get k_L_law_1 30 rfl) rfl rfl ?_
  obtain ⟨r_27, M_26, hr_25, hf⟩ := bd2_e hf
  refine n_cV [] [] C (ckD_get k_L_law_1 31 rfl) vk_L_76 (t_X9_less C.tr _ _ hr_25) T0 rfl rfl (Nat.le_of_ble_eq_true rfl) (by decide) ⟨by have := hcs.1; show cA + 0 ≤ _; omega, by have := hcs.2; show cB + 0 ≤ _; omega⟩ rfl ?_
  refine g_aload_n 2 C (ckD_get k_L_law_1 32 rfl) rfl rfl ?_
  obtain ⟨r_30, M_29, hr_28, hf⟩ := bd2_e hf
  refine n_cV [] [.int r_27] C (ckD_get k_L_law_1 33 rfl) vk_L_79 (t_X10_less C.tr _ _ hr_28) T69 rfl rfl (Nat.le_of_ble_eq_true rfl) (by decide) ⟨by have := hcs.1; show cA + 0 ≤ _; omega, by have := hcs.2; show cB + 0 ≤ _; omega⟩ rfl ?_
  refine g_icmp_eq C (ckD_get k_L_law_1 34 rfl) (fun c_31 => ?_) (fun c_31 => ?_)
  · have hf := if_t hf c_31
    refine G.wid (cs' := (cA + 8, cB + 48)) (by show cA + 0 ≤ cA + 8; omega) (by show cB + 0 ≤ cB + 48; omega) ?_
    exact hJ_1690 _ hf
  · have hf := if_f hf c_31
    cases hf
def f_law_J299 (i : Int32) (M_44 : Mm) (_ : Unit) : Option (Option (Int32 × Mm)) := f_law_J1690 i M_44
def f_arm_2 (xs : Nat → Int32) (L : Nat) (i : Int32) (M : Mm) : Option (Option (Int32 × Mm)) := rdX L xs (i + (1 : Int32)) fun v_32 => rdX L xs (i + (2 : Int32)) fun v_34 => bd2 (f_L_side v_32 v_34 M) fun r_36 M_37 => rdX L xs (i + (1 : Int32)) fun v_39 => rdX L xs (i + (2 : Int32)) fun v_41 => bd2 (f_X10_side v_39 v_41 M_37) fun r_45 M_44 => if (f_X10_thrown M_44) = r_36 then (if r_36 = 0 then rdL 1 M_44 105 (0 : Int32) fun v_48 => if (lg_cmp v_48 ((r_45).toInt64)) = 0 then f_law_J299 i M_44 () else none else f_law_J299 i M_44 ()) else none
set_option maxRecDepth 100000 in
set_option maxHeartbeats 40000000 in
theorem law_arm_2 {K : Kx} {b L : Nat} {xs : Nat → Int32} (C : Cx K cL_law RL 124) (hL : K.2.2.1 = 8) (hX : Sx K b L xs) (i : Int32) (M : Mm) (cA cB : Nat) (hcs : cA + 8 ≤ K.1.R.cells ∧ cB + 48 ≤ K.1.R.slots) (rr : Option (Int32 × Mm)) (hf : f_arm_2 xs L i M = some rr) (hn : ∀ (i' : Int32) (M' : Mm), rr = some (i', M') → G K (cA + 8, cB + 48) 23 [(0, .ref b), (1, .ref (K.2.1.1 + 0)), (2, .ref (K.2.1.1 + 69)), (3, .ref (K.2.1.1 + 105)), (4, .int i')] [] M') : G K (cA, cB) 234 [(0, .ref b), (1, .ref (K.2.1.1 + 0)), (2, .ref (K.2.1.1 + 69)), (3, .ref (K.2.1.1 + 105)), (4, .int i)] [] M := by
  have hL5 : 5 < K.2.2.1 := by rw [hL]; decide
  have hL6 : 6 < K.2.2.1 := by rw [hL]; decide
  have hJ_1690 : ∀ (M' : Mm), f_law_J1690 i M' = some rr → G K (cA + 8, cB + 48) 1690 [(0, .ref b), (1, .ref (K.2.1.1 + 0)), (2, .ref (K.2.1.1 + 69)), (3, .ref (K.2.1.1 + 105)), (4, .int i)] [] M' := fun M' hf => law_end C hL hX i M' cA cB rr hf hn
  unfold f_arm_2 at hf
  refine g_aload_n 1 C (ckD_get k_L_law_1 37 rfl) rfl rfl ?_
  refine g_aload_n 0 C (ckD_get k_L_law_1 38 rfl) rfl rfl ?_
  refine g_iload 4 C (ckD_get k_L_law_1 39 rfl) rfl ?_
  refine g_iconst (v := (1 : Int32)) C (ckD_get k_L_law_2 0 rfl) (by decide) ?_
  refine g_iadd C (ckD_get k_L_law_2 1 rfl) ?_
  obtain ⟨v_32, hi_33, ev_32, hf⟩ := rdX_e hf
  refine g_sld hX C (ckD_get k_L_law_2 2 rfl) hi_33 ev_32 ?_
  refine g_aload_n 0 C (ckD_get k_L_law_2 3 rfl) rfl rfl ?_
  refine g_iload 4 C (ckD_get k_L_law_2 4 rfl) rfl ?_
  refine g_iconst (v := (2 : Int32)) C (ckD_get k_L_law_2 5 rfl) (by decide) ?_
  refine g_iadd C (ckD_get k_L_law_2 6 rfl) ?_
  obtain ⟨v_34, hi_35, ev_34, hf⟩ := rdX_e hf
  refine g_sld hX C (ckD_get k_L_law_2 7 rfl) hi_35 ev_34 ?_
  refine g_aload_n 3 C (ckD_get k_L_law_2 8 rfl) rfl rfl ?_
  obtain ⟨r_36, M_37, hr_38, hf⟩ := bd2_e hf
  refine g_cSW [.ref (K.2.1.1 + 0), .int v_32, .int v_34, .ref (K.2.1.1 + 105)] [] C (ckD_get k_L_law_2 9 rfl) wk_L_80 (t_L_side C.tr _ _ _ _ hr_38) rfl rfl (Nat.le_of_ble_eq_true rfl) (by decide) ⟨by have := hcs.1; show cA + 2 ≤ _; omega, by have := hcs.2; show cB + 12 ≤ _; omega⟩ rfl ?_
  refine g_istore (lv' := [(5, _), (0, _), (1, _), (2, _), (3, _), (4, _)]) C (ckD_get k_L_law_2 10 rfl) hL5 rfl ?_
  refine g_aload_n 3 C (ckD_get k_L_law_2 11 rfl) rfl rfl ?_
  refine g_aload_n 1 C (ckD_get k_L_law_2 12 rfl) rfl rfl ?_
  refine g_iload 5 C (ckD_get k_L_law_2 13 rfl) rfl ?_
  refine g_iconst (v := (1 : Int32)) C (ckD_get k_L_law_2 14 rfl) (by decide) ?_
  refine g_iadd C (ckD_get k_L_law_2 15 rfl) ?_
  obtain ⟨v_39, hi_40, ev_39, hf⟩ := rdX_e hf
  refine g_sld hX C (ckD_get k_L_law_2 16 rfl) hi_40 ev_39 ?_
  refine g_aload_n 1 C (ckD_get k_L_law_2 17 rfl) rfl rfl ?_
  refine g_iload 5 C (ckD_get k_L_law_2 18 rfl) rfl ?_
  refine g_iconst (v := (2 : Int32)) C (ckD_get k_L_law_2 19 rfl) (by decide) ?_
  refine g_iadd C (ckD_get k_L_law_2 20 rfl) ?_
  obtain ⟨v_41, hi_42, ev_41, hf⟩ := rdX_e hf
  refine g_sld hX C (ckD_get k_L_law_2 21 rfl) hi_42 ev_41 ?_
  obtain ⟨r_45, M_44, hr_43, hf⟩ := bd2_e hf
  refine n_cV [.int v_39, .int v_41] [] C (ckD_get k_L_law_2 22 rfl) vk_L_85 (t_X10_side C.tr _ _ _ _ hr_43) T69 rfl rfl (Nat.le_of_ble_eq_true rfl) (by decide) ⟨by have := hcs.1; show cA + 2 ≤ _; omega, by have := hcs.2; show cB + 12 ≤ _; omega⟩ rfl ?_
  refine g_istore (lv' := [(6, _), (5, _), (0, _), (1, _), (2, _), (3, _), (4, _)]) C (ckD_get k_L_law_2 23 rfl) hL6 rfl ?_
  refine g_aload_n 4 C (ckD_get k_L_law_2 24 rfl) rfl rfl ?_
  refine n_cV [] [] C (ckD_get k_L_law_2 25 rfl) vk_L_86 (t_X10_thrown C.tr _ _ rfl) T69 rfl rfl (Nat.le_of_ble_eq_true rfl) (by decide) ⟨by have := hcs.1; show cA + 2 ≤ _; omega, by have := hcs.2; show cB + 12 ≤ _; omega⟩ rfl ?_
  refine g_iload 1 C (ckD_get k_L_law_2 26 rfl) rfl ?_
  refine g_icmp_eq C (ckD_get k_L_law_2 27 rfl) (fun c_46 => ?_) (fun c_46 => ?_)
  · have hf := if_t hf c_46
    refine g_iload 1 C (ckD_get k_L_law_2 30 rfl) rfl ?_
    have hJ_299 : ∀ (_ : Unit), f_law_J299 i M_44 () = some rr → G K (cA + 2, cB + 12) 299 [(0, .ref b), (1, .ref (K.2.1.1 + 0)), (2, .ref (K.2.1.1 + 69)), (3, .ref (K.2.1.1 + 105)), (4, .int i)] [] M_44 := by
      intro _ hf
      unfold f_law_J299 at hf
      refine g_goto C (ckD_get k_L_law_3 1 rfl) ?_
      refine G.wid (cs' := (cA + 8, cB + 48)) (by show cA + 2 ≤ cA + 8; omega) (by show cB + 12 ≤ cB + 48; omega) ?_
      exact hJ_1690 _ hf
    refine g_if_ne C (ckD_get k_L_law_2 31 rfl) (fun c_47 => ?_) (fun c_47 => ?_)
    · have hf := if_f hf c_47
      refine G.sub [2, 3, 4, 5, 6] rfl ?_
      exact hJ_299 () hf
    · have hf := if_t hf c_47
      refine g_aload_n 5 C (ckD_get k_L_law_2 32 rfl) rfl rfl ?_
      refine g_iconst (v := (0 : Int32)) C (ckD_get k_L_law_2 33 rfl) (by decide) ?_
      obtain ⟨v_48, hi_49, ev_48, hf⟩ := rdL_e hf
      refine n_lald C (ckD_get k_L_law_2 34 rfl) T105 hi_49 ev_48 ?_
      refine g_iload 0 C (ckD_get k_L_law_2 35 rfl) rfl ?_
      refine g_i2l C (ckD_get k_L_law_2 36 rfl) ?_
      refine g_lcmp C (ckD_get k_L_law_2 37 rfl) ?_
      refine g_if_eq C (ckD_get k_L_law_2 38 rfl) (fun c_50 => ?_) (fun c_50 => ?_)
      · have hf := if_t hf c_50
        refine G.sub [2, 3, 4, 5, 6] rfl ?_
        exact hJ_299 () hf
      · have hf := if_f hf c_50
        cases hf
  · have hf := if_f hf c_46
    cases hf
def f_law_J367 (i : Int32) (M_63 : Mm) (_ : Unit) : Option (Option (Int32 × Mm)) := f_law_J1690 i M_63
def f_arm_3 (xs : Nat → Int32) (L : Nat) (i : Int32) (M : Mm) : Option (Option (Int32 × Mm)) := rdX L xs (i + (1 : Int32)) fun v_51 => rdX L xs (i + (2 : Int32)) fun v_53 => bd2 (f_L_net v_51 v_53 M) fun r_55 M_56 => rdX L xs (i + (1 : Int32)) fun v_58 => rdX L xs (i + (2 : Int32)) fun v_60 => bd2 (f_X10_net v_58 v_60 M_56) fun r_64 M_63 => if (f_X10_thrown M_63) = r_55 then (if r_55 = 0 then rdL 1 M_63 105 (0 : Int32) fun v_67 => if (lg_cmp v_67 ((r_64).toInt64)) = 0 then f_law_J367 i M_63 () else none else f_law_J367 i M_63 ()) else none
set_option maxRecDepth 100000 in
set_option maxHeartbeats 40000000 in
theorem law_arm_3 {K : Kx} {b L : Nat} {xs : Nat → Int32} (C : Cx K cL_law RL 124) (hL : K.2.2.1 = 8) (hX : Sx K b L xs) (i : Int32) (M : Mm) (cA cB : Nat) (hcs : cA + 8 ≤ K.1.R.cells ∧ cB + 48 ≤ K.1.R.slots) (rr : Option (Int32 × Mm)) (hf : f_arm_3 xs L i M = some rr) (hn : ∀ (i' : Int32) (M' : Mm), rr = some (i', M') → G K (cA + 8, cB + 48) 23 [(0, .ref b), (1, .ref (K.2.1.1 + 0)), (2, .ref (K.2.1.1 + 69)), (3, .ref (K.2.1.1 + 105)), (4, .int i')] [] M') : G K (cA, cB) 302 [(0, .ref b), (1, .ref (K.2.1.1 + 0)), (2, .ref (K.2.1.1 + 69)), (3, .ref (K.2.1.1 + 105)), (4, .int i)] [] M := by
  have hL5 : 5 < K.2.2.1 := by rw [hL]; decide
  have hL6 : 6 < K.2.2.1 := by rw [hL]; decide
  have hJ_1690 : ∀ (M' : Mm), f_law_J1690 i M' = some rr → G K (cA + 8, cB + 48) 1690 [(0, .ref b), (1, .ref (K.2.1.1 + 0)), (2, .ref (K.2.1.1 + 69)), (3, .ref (K.2.1.1 + 105)), (4, .int i)] [] M' := fun M' hf => law_end C hL hX i M' cA cB rr hf hn
  unfold f_arm_3 at hf
  refine g_aload_n 1 C (ckD_get k_L_law_3 2 rfl) rfl rfl ?_
  refine g_aload_n 0 C (ckD_get k_L_law_3 3 rfl) rfl rfl ?_
  refine g_iload 4 C (ckD_get k_L_law_3 4 rfl) rfl ?_
  refine g_iconst (v := (1 : Int32)) C (ckD_get k_L_law_3 5 rfl) (by decide) ?_
  refine g_iadd C (ckD_get k_L_law_3 6 rfl) ?_
  obtain ⟨v_51, hi_52, ev_51, hf⟩ := rdX_e hf
  refine g_sld hX C (ckD_get k_L_law_3 7 rfl) hi_52 ev_51 ?_
  refine g_aload_n 0 C (ckD_get k_L_law_3 8 rfl) rfl rfl ?_
  refine g_iload 4 C (ckD_get k_L_law_3 9 rfl) rfl ?_
  refine g_iconst (v := (2 : Int32)) C (ckD_get k_L_law_3 10 rfl) (by decide) ?_
  refine g_iadd C (ckD_get k_L_law_3 11 rfl) ?_
  obtain ⟨v_53, hi_54, ev_53, hf⟩ := rdX_e hf
  refine g_sld hX C (ckD_get k_L_law_3 12 rfl) hi_54 ev_53 ?_
  refine g_aload_n 3 C (ckD_get k_L_law_3 13 rfl) rfl rfl ?_
  obtain ⟨r_55, M_56, hr_57, hf⟩ := bd2_e hf
  refine g_cSW [.ref (K.2.1.1 + 0), .int v_51, .int v_53, .ref (K.2.1.1 + 105)] [] C (ckD_get k_L_law_3 14 rfl) wk_L_89 (t_L_net C.tr _ _ _ _ hr_57) rfl rfl (Nat.le_of_ble_eq_true rfl) (by decide) ⟨by have := hcs.1; show cA + 1 ≤ _; omega, by have := hcs.2; show cB + 6 ≤ _; omega⟩ rfl ?_
  refine g_istore (lv' := [(5, _), (0, _), (1, _), (2, _), (3, _), (4, _)]) C (ckD_get k_L_law_3 15 rfl) hL5 rfl ?_
  refine g_aload_n 3 C (ckD_get k_L_law_3 16 rfl) rfl rfl ?_
  refine g_aload_n 1 C (ckD_get k_L_law_3 17 rfl) rfl rfl ?_
  refine g_iload 5 C (ckD_get k_L_law_3 18 rfl) rfl ?_
  refine g_iconst (v := (1 : Int32)) C (ckD_get k_L_law_3 19 rfl) (by decide) ?_
  refine g_iadd C (ckD_get k_L_law_3 20 rfl) ?_
  obtain ⟨v_58, hi_59, ev_58, hf⟩ := rdX_e hf
  refine g_sld hX C (ckD_get k_L_law_3 21 rfl) hi_59 ev_58 ?_
  refine g_aload_n 1 C (ckD_get k_L_law_3 22 rfl) rfl rfl ?_
  refine g_iload 5 C (ckD_get k_L_law_3 23 rfl) rfl ?_
  refine g_iconst (v := (2 : Int32)) C (ckD_get k_L_law_3 24 rfl) (by decide) ?_
  refine g_iadd C (ckD_get k_L_law_3 25 rfl) ?_
  obtain ⟨v_60, hi_61, ev_60, hf⟩ := rdX_e hf
  refine g_sld hX C (ckD_get k_L_law_3 26 rfl) hi_61 ev_60 ?_
  obtain ⟨r_64, M_63, hr_62, hf⟩ := bd2_e hf
  refine n_cV [.int v_58, .int v_60] [] C (ckD_get k_L_law_3 27 rfl) vk_L_91 (t_X10_net C.tr _ _ _ _ hr_62) T69 rfl rfl (Nat.le_of_ble_eq_true rfl) (by decide) ⟨by have := hcs.1; show cA + 1 ≤ _; omega, by have := hcs.2; show cB + 6 ≤ _; omega⟩ rfl ?_
  refine g_istore (lv' := [(6, _), (5, _), (0, _), (1, _), (2, _), (3, _), (4, _)]) C (ckD_get k_L_law_3 28 rfl) hL6 rfl ?_
  refine g_aload_n 4 C (ckD_get k_L_law_3 29 rfl) rfl rfl ?_
  refine n_cV [] [] C (ckD_get k_L_law_3 30 rfl) vk_L_86 (t_X10_thrown C.tr _ _ rfl) T69 rfl rfl (Nat.le_of_ble_eq_true rfl) (by decide) ⟨by have := hcs.1; show cA + 1 ≤ _; omega, by have := hcs.2; show cB + 6 ≤ _; omega⟩ rfl ?_
  refine g_iload 1 C (ckD_get k_L_law_3 31 rfl) rfl ?_
  refine g_icmp_eq C (ckD_get k_L_law_3 32 rfl) (fun c_65 => ?_) (fun c_65 => ?_)
  · have hf := if_t hf c_65
    refine g_iload 1 C (ckD_get k_L_law_3 35 rfl) rfl ?_
    have hJ_367 : ∀ (_ : Unit), f_law_J367 i M_63 () = some rr → G K (cA + 1, cB + 6) 367 [(0, .ref b), (1, .ref (K.2.1.1 + 0)), (2, .ref (K.2.1.1 + 69)), (3, .ref (K.2.1.1 + 105)), (4, .int i)] [] M_63 := by
      intro _ hf
      unfold f_law_J367 at hf
      refine g_goto C (ckD_get k_L_law_4 6 rfl) ?_
      refine G.wid (cs' := (cA + 8, cB + 48)) (by show cA + 1 ≤ cA + 8; omega) (by show cB + 6 ≤ cB + 48; omega) ?_
      exact hJ_1690 _ hf
    refine g_if_ne C (ckD_get k_L_law_3 36 rfl) (fun c_66 => ?_) (fun c_66 => ?_)
    · have hf := if_f hf c_66
      refine G.sub [2, 3, 4, 5, 6] rfl ?_
      exact hJ_367 () hf
    · have hf := if_t hf c_66
      refine g_aload_n 5 C (ckD_get k_L_law_3 37 rfl) rfl rfl ?_
      refine g_iconst (v := (0 : Int32)) C (ckD_get k_L_law_3 38 rfl) (by decide) ?_
      obtain ⟨v_67, hi_68, ev_67, hf⟩ := rdL_e hf
      refine n_lald C (ckD_get k_L_law_3 39 rfl) T105 hi_68 ev_67 ?_
      refine g_iload 0 C (ckD_get k_L_law_4 0 rfl) rfl ?_
      refine g_i2l C (ckD_get k_L_law_4 1 rfl) ?_
      refine g_lcmp C (ckD_get k_L_law_4 2 rfl) ?_
      refine g_if_eq C (ckD_get k_L_law_4 3 rfl) (fun c_69 => ?_) (fun c_69 => ?_)
      · have hf := if_t hf c_69
        refine G.sub [2, 3, 4, 5, 6] rfl ?_
        exact hJ_367 () hf
      · have hf := if_f hf c_69
        cases hf
  · have hf := if_f hf c_65
    cases hf
def f_arm_4 (xs : Nat → Int32) (L : Nat) (i : Int32) (M : Mm) : Option (Option (Int32 × Mm)) := bd2 (f_X9_places M) fun r_72 M_71 => bd2 (f_X10_places M_71) fun r_75 M_74 => if r_72 = r_75 then f_law_J1690 i M_74 else none
set_option maxRecDepth 100000 in
set_option maxHeartbeats 40000000 in
theorem law_arm_4 {K : Kx} {b L : Nat} {xs : Nat → Int32} (C : Cx K cL_law RL 124) (hL : K.2.2.1 = 8) (hX : Sx K b L xs) (i : Int32) (M : Mm) (cA cB : Nat) (hcs : cA + 8 ≤ K.1.R.cells ∧ cB + 48 ≤ K.1.R.slots) (rr : Option (Int32 × Mm)) (hf : f_arm_4 xs L i M = some rr) (hn : ∀ (i' : Int32) (M' : Mm), rr = some (i', M') → G K (cA + 8, cB + 48) 23 [(0, .ref b), (1, .ref (K.2.1.1 + 0)), (2, .ref (K.2.1.1 + 69)), (3, .ref (K.2.1.1 + 105)), (4, .int i')] [] M') : G K (cA, cB) 370 [(0, .ref b), (1, .ref (K.2.1.1 + 0)), (2, .ref (K.2.1.1 + 69)), (3, .ref (K.2.1.1 + 105)), (4, .int i)] [] M := by
  have hJ_1690 : ∀ (M' : Mm), f_law_J1690 i M' = some rr → G K (cA + 8, cB + 48) 1690 [(0, .ref b), (1, .ref (K.2.1.1 + 0)), (2, .ref (K.2.1.1 + 69)), (3, .ref (K.2.1.1 + 105)), (4, .int i)] [] M' := fun M' hf => law_end C hL hX i M' cA cB rr hf hn
  unfold f_arm_4 at hf
  refine g_aload_n 1 C (ckD_get k_L_law_4 7 rfl) rfl rfl ?_
  obtain ⟨r_72, M_71, hr_70, hf⟩ := bd2_e hf
  refine n_cV [] [] C (ckD_get k_L_law_4 8 rfl) vk_L_92 (t_X9_places C.tr _ _ hr_70) T0 rfl rfl (Nat.le_of_ble_eq_true rfl) (by decide) ⟨by have := hcs.1; show cA + 0 ≤ _; omega, by have := hcs.2; show cB + 0 ≤ _; omega⟩ rfl ?_
  refine g_aload_n 2 C (ckD_get k_L_law_4 9 rfl) rfl rfl ?_
  obtain ⟨r_75, M_74, hr_73, hf⟩ := bd2_e hf
  refine n_cV [] [.int r_72] C (ckD_get k_L_law_4 10 rfl) vk_L_95 (t_X10_places C.tr _ _ hr_73) T69 rfl rfl (Nat.le_of_ble_eq_true rfl) (by decide) ⟨by have := hcs.1; show cA + 0 ≤ _; omega, by have := hcs.2; show cB + 0 ≤ _; omega⟩ rfl ?_
  refine g_icmp_eq C (ckD_get k_L_law_4 11 rfl) (fun c_76 => ?_) (fun c_76 => ?_)
  · have hf := if_t hf c_76
    refine G.wid (cs' := (cA + 8, cB + 48)) (by show cA + 0 ≤ cA + 8; omega) (by show cB + 0 ≤ cB + 48; omega) ?_
    exact hJ_1690 _ hf
  · have hf := if_f hf c_76
    cases hf
def f_law_J495 (i : Int32) (M_99 : Mm) (_ : Unit) : Option (Option (Int32 × Mm)) := f_law_J1690 i M_99
def f_law_J489 (i : Int32) (M_99 : Mm) (v_103 : Int64) (s_105 : Int64) : Option (Option (Int32 × Mm)) := if (lg_cmp v_103 s_105) = 0 then f_law_J495 i M_99 () else none
def f_law_J455 (i : Int32) (r_86 : Int32) (M_87 : Mm) (v_89 : Int32) (v_91 : Int32) (v_93 : Int32) (s_97 : Int32) : Option (Option (Int32 × Mm)) := bd2 (f_X10_put v_89 v_91 v_93 s_97 M_87) fun r_100 M_99 => if (f_X10_thrown M_99) = r_86 then (if r_86 = 0 then rdL 1 M_99 105 (0 : Int32) fun v_103 => if r_100 = 0 then f_law_J489 i M_99 v_103 (0 : Int64) else f_law_J489 i M_99 v_103 (1 : Int64) else f_law_J495 i M_99 ()) else none
def f_law_J416 (xs : Nat → Int32) (L : Nat) (M : Mm) (i : Int32) (v_77 : Int32) (v_79 : Int32) (v_81 : Int32) (s_85 : Int32) : Option (Option (Int32 × Mm)) := bd2 (f_L_put v_77 v_79 v_81 s_85 M) fun r_86 M_87 => rdX L xs (i + (1 : Int32)) fun v_89 => rdX L xs (i + (2 : Int32)) fun v_91 => rdX L xs (i + (3 : Int32)) fun v_93 => rdX L xs (i + (4 : Int32)) fun v_95 => if v_95 = 0 then f_law_J455 i r_86 M_87 v_89 v_91 v_93 (0 : Int32) else f_law_J455 i r_86 M_87 v_89 v_91 v_93 (1 : Int32)
def f_arm_5 (xs : Nat → Int32) (L : Nat) (i : Int32) (M : Mm) : Option (Option (Int32 × Mm)) := rdX L xs (i + (1 : Int32)) fun v_77 => rdX L xs (i + (2 : Int32)) fun v_79 => rdX L xs (i + (3 : Int32)) fun v_81 => rdX L xs (i + (4 : Int32)) fun v_83 => if v_83 = 0 then f_law_J416 xs L M i v_77 v_79 v_81 (0 : Int32) else f_law_J416 xs L M i v_77 v_79 v_81 (1 : Int32)
set_option maxRecDepth 100000 in
set_option maxHeartbeats 40000000 in
theorem law_arm_5 {K : Kx} {b L : Nat} {xs : Nat → Int32} (C : Cx K cL_law RL 124) (hL : K.2.2.1 = 8) (hX : Sx K b L xs) (i : Int32) (M : Mm) (cA cB : Nat) (hcs : cA + 8 ≤ K.1.R.cells ∧ cB + 48 ≤ K.1.R.slots) (rr : Option (Int32 × Mm)) (hf : f_arm_5 xs L i M = some rr) (hn : ∀ (i' : Int32) (M' : Mm), rr = some (i', M') → G K (cA + 8, cB + 48) 23 [(0, .ref b), (1, .ref (K.2.1.1 + 0)), (2, .ref (K.2.1.1 + 69)), (3, .ref (K.2.1.1 + 105)), (4, .int i')] [] M') : G K (cA, cB) 383 [(0, .ref b), (1, .ref (K.2.1.1 + 0)), (2, .ref (K.2.1.1 + 69)), (3, .ref (K.2.1.1 + 105)), (4, .int i)] [] M := by
  have hL5 : 5 < K.2.2.1 := by rw [hL]; decide
  have hL6 : 6 < K.2.2.1 := by rw [hL]; decide
  have hJ_1690 : ∀ (M' : Mm), f_law_J1690 i M' = some rr → G K (cA + 8, cB + 48) 1690 [(0, .ref b), (1, .ref (K.2.1.1 + 0)), (2, .ref (K.2.1.1 + 69)), (3, .ref (K.2.1.1 + 105)), (4, .int i)] [] M' := fun M' hf => law_end C hL hX i M' cA cB rr hf hn
  unfold f_arm_5 at hf
  refine g_aload_n 1 C (ckD_get k_L_law_4 14 rfl) rfl rfl ?_
  refine g_aload_n 0 C (ckD_get k_L_law_4 15 rfl) rfl rfl ?_
  refine g_iload 4 C (ckD_get k_L_law_4 16 rfl) rfl ?_
  refine g_iconst (v := (1 : Int32)) C (ckD_get k_L_law_4 17 rfl) (by decide) ?_
  refine g_iadd C (ckD_get k_L_law_4 18 rfl) ?_
  obtain ⟨v_77, hi_78, ev_77, hf⟩ := rdX_e hf
  refine g_sld hX C (ckD_get k_L_law_4 19 rfl) hi_78 ev_77 ?_
  refine g_aload_n 0 C (ckD_get k_L_law_4 20 rfl) rfl rfl ?_
  refine g_iload 4 C (ckD_get k_L_law_4 21 rfl) rfl ?_
  refine g_iconst (v := (2 : Int32)) C (ckD_get k_L_law_4 22 rfl) (by decide) ?_
  refine g_iadd C (ckD_get k_L_law_4 23 rfl) ?_
  obtain ⟨v_79, hi_80, ev_79, hf⟩ := rdX_e hf
  refine g_sld hX C (ckD_get k_L_law_4 24 rfl) hi_80 ev_79 ?_
  refine g_aload_n 0 C (ckD_get k_L_law_4 25 rfl) rfl rfl ?_
  refine g_iload 4 C (ckD_get k_L_law_4 26 rfl) rfl ?_
  refine g_iconst (v := (3 : Int32)) C (ckD_get k_L_law_4 27 rfl) (by decide) ?_
  refine g_iadd C (ckD_get k_L_law_4 28 rfl) ?_
  obtain ⟨v_81, hi_82, ev_81, hf⟩ := rdX_e hf
  refine g_sld hX C (ckD_get k_L_law_4 29 rfl) hi_82 ev_81 ?_
  refine g_aload_n 0 C (ckD_get k_L_law_4 30 rfl) rfl rfl ?_
  refine g_iload 4 C (ckD_get k_L_law_4 31 rfl) rfl ?_
  refine g_iconst (v := (4 : Int32)) C (ckD_get k_L_law_4 32 rfl) (by decide) ?_
  refine g_iadd C (ckD_get k_L_law_4 33 rfl) ?_
  obtain ⟨v_83, hi_84, ev_83, hf⟩ := rdX_e hf
  refine g_sld hX C (ckD_get k_L_law_4 34 rfl) hi_84 ev_83 ?_
  have hJ_416 : ∀ (s_85 : Int32), f_law_J416 xs L M i v_77 v_79 v_81 s_85 = some rr → G K (cA + 0, cB + 0) 416 [(0, .ref b), (1, .ref (K.2.1.1 + 0)), (2, .ref (K.2.1.1 + 69)), (3, .ref (K.2.1.1 + 105)), (4, .int i)] [.int s_85, .int v_81, .int v_79, .int v_77, .ref (K.2.1.1 + 0)] M := by
    intro s_85 hf
    unfold f_law_J416 at hf
    refine g_aload_n 3 C (ckD_get k_L_law_4 39 rfl) rfl rfl ?_
    obtain ⟨r_86, M_87, hr_88, hf⟩ := bd2_e hf
    refine g_cSW [.ref (K.2.1.1 + 0), .int v_77, .int v_79, .int v_81, .int s_85, .ref (K.2.1.1 + 105)] [] C (ckD_get k_L_law_5 0 rfl) wk_L_96 (t_L_put C.tr _ _ _ _ _ _ hr_88) rfl rfl (Nat.le_of_ble_eq_true rfl) (by decide) ⟨by have := hcs.1; show cA + 1 ≤ _; omega, by have := hcs.2; show cB + 6 ≤ _; omega⟩ rfl ?_
    refine g_istore (lv' := [(5, _), (0, _), (1, _), (2, _), (3, _), (4, _)]) C (ckD_get k_L_law_5 1 rfl) hL5 rfl ?_
    refine g_aload_n 3 C (ckD_get k_L_law_5 2 rfl) rfl rfl ?_
    refine g_aload_n 1 C (ckD_get k_L_law_5 3 rfl) rfl rfl ?_
    refine g_iload 5 C (ckD_get k_L_law_5 4 rfl) rfl ?_
    refine g_iconst (v := (1 : Int32)) C (ckD_get k_L_law_5 5 rfl) (by decide) ?_
    refine g_iadd C (ckD_get k_L_law_5 6 rfl) ?_
    obtain ⟨v_89, hi_90, ev_89, hf⟩ := rdX_e hf
    refine g_sld hX C (ckD_get k_L_law_5 7 rfl) hi_90 ev_89 ?_
    refine g_aload_n 1 C (ckD_get k_L_law_5 8 rfl) rfl rfl ?_
    refine g_iload 5 C (ckD_get k_L_law_5 9 rfl) rfl ?_
    refine g_iconst (v := (2 : Int32)) C (ckD_get k_L_law_5 10 rfl) (by decide) ?_
    refine g_iadd C (ckD_get k_L_law_5 11 rfl) ?_
    obtain ⟨v_91, hi_92, ev_91, hf⟩ := rdX_e hf
    refine g_sld hX C (ckD_get k_L_law_5 12 rfl) hi_92 ev_91 ?_
    refine g_aload_n 1 C (ckD_get k_L_law_5 13 rfl) rfl rfl ?_
    refine g_iload 5 C (ckD_get k_L_law_5 14 rfl) rfl ?_
    refine g_iconst (v := (3 : Int32)) C (ckD_get k_L_law_5 15 rfl) (by decide) ?_
    refine g_iadd C (ckD_get k_L_law_5 16 rfl) ?_
    obtain ⟨v_93, hi_94, ev_93, hf⟩ := rdX_e hf
    refine g_sld hX C (ckD_get k_L_law_5 17 rfl) hi_94 ev_93 ?_
    refine g_aload_n 1 C (ckD_get k_L_law_5 18 rfl) rfl rfl ?_
    refine g_iload 5 C (ckD_get k_L_law_5 19 rfl) rfl ?_
    refine g_iconst (v := (4 : Int32)) C (ckD_get k_L_law_5 20 rfl) (by decide) ?_
    refine g_iadd C (ckD_get k_L_law_5 21 rfl) ?_
    obtain ⟨v_95, hi_96, ev_95, hf⟩ := rdX_e hf
    refine g_sld hX C (ckD_get k_L_law_5 22 rfl) hi_96 ev_95 ?_
    have hJ_455 : ∀ (s_97 : Int32), f_law_J455 i r_86 M_87 v_89 v_91 v_93 s_97 = some rr → G K (cA + 1, cB + 6) 455 [(0, .ref b), (1, .ref (K.2.1.1 + 0)), (2, .ref (K.2.1.1 + 69)), (3, .ref (K.2.1.1 + 105)), (4, .int i), (5, .int r_86)] [.int s_97, .int v_93, .int v_91, .int v_89, .ref (K.2.1.1 + 69)] M_87 := by
      intro s_97 hf
      unfold f_law_J455 at hf
      obtain ⟨r_100, M_99, hr_98, hf⟩ := bd2_e hf
      refine n_cV [.int v_89, .int v_91, .int v_93, .int s_97] [] C (ckD_get k_L_law_5 27 rfl) vk_L_99 (t_X10_put C.tr _ _ _ _ _ _ hr_98) T69 rfl rfl (Nat.le_of_ble_eq_true rfl) (by decide) ⟨by have := hcs.1; show cA + 1 ≤ _; omega, by have := hcs.2; show cB + 6 ≤ _; omega⟩ rfl ?_
      refine g_istore (lv' := [(6, _), (0, _), (1, _), (2, _), (3, _), (4, _), (5, _)]) C (ckD_get k_L_law_5 28 rfl) hL6 rfl ?_
      refine g_aload_n 3 C (ckD_get k_L_law_5 29 rfl) rfl rfl ?_
      refine n_cV [] [] C (ckD_get k_L_law_5 30 rfl) vk_L_86 (t_X10_thrown C.tr _ _ rfl) T69 rfl rfl (Nat.le_of_ble_eq_true rfl) (by decide) ⟨by have := hcs.1; show cA + 1 ≤ _; omega, by have := hcs.2; show cB + 6 ≤ _; omega⟩ rfl ?_
      refine g_iload 6 C (ckD_get k_L_law_5 31 rfl) rfl ?_
      refine g_icmp_eq C (ckD_get k_L_law_5 32 rfl) (fun c_101 => ?_) (fun c_101 => ?_)
      · have hf := if_t hf c_101
        refine g_iload 6 C (ckD_get k_L_law_5 35 rfl) rfl ?_
        have hJ_495 : ∀ (_ : Unit), f_law_J495 i M_99 () = some rr → G K (cA + 1, cB + 6) 495 [(0, .ref b), (1, .ref (K.2.1.1 + 0)), (2, .ref (K.2.1.1 + 69)), (3, .ref (K.2.1.1 + 105)), (4, .int i)] [] M_99 := by
          intro _ hf
          unfold f_law_J495 at hf
          refine g_goto C (ckD_get k_L_law_6 9 rfl) ?_
          refine G.wid (cs' := (cA + 8, cB + 48)) (by show cA + 1 ≤ cA + 8; omega) (by show cB + 6 ≤ cB + 48; omega) ?_
          exact hJ_1690 _ hf
        refine g_if_ne C (ckD_get k_L_law_5 36 rfl) (fun c_102 => ?_) (fun c_102 => ?_)
        · have hf := if_f hf c_102
          refine G.sub [1, 2, 3, 4, 5] rfl ?_
          exact hJ_495 () hf
        · have hf := if_t hf c_102
          refine g_aload_n 4 C (ckD_get k_L_law_5 37 rfl) rfl rfl ?_
          refine g_iconst (v := (0 : Int32)) C (ckD_get k_L_law_5 38 rfl) (by decide) ?_
          obtain ⟨v_103, hi_104, ev_103, hf⟩ := rdL_e hf
          refine n_lald C (ckD_get k_L_law_5 39 rfl) T105 hi_104 ev_103 ?_
          refine g_iload 0 C (ckD_get k_L_law_6 0 rfl) rfl ?_
          have hJ_489 : ∀ (s_105 : Int64), f_law_J489 i M_99 v_103 s_105 = some rr → G K (cA + 1, cB + 6) 489 [(0, .ref b), (1, .ref (K.2.1.1 + 0)), (2, .ref (K.2.1.1 + 69)), (3, .ref (K.2.1.1 + 105)), (4, .int i)] [.long s_105, .long v_103] M_99 := by
            intro s_105 hf
            unfold f_law_J489 at hf
            refine g_lcmp C (ckD_get k_L_law_6 5 rfl) ?_
            refine g_if_eq C (ckD_get k_L_law_6 6 rfl) (fun c_106 => ?_) (fun c_106 => ?_)
            · have hf := if_t hf c_106
              exact hJ_495 () hf
            · have hf := if_f hf c_106
              cases hf
          refine g_if_eq C (ckD_get k_L_law_6 1 rfl) (fun c_107 => ?_) (fun c_107 => ?_)
          · have hf := if_t hf c_107
            refine g_lconst (v := (0 : Int64)) C (ckD_get k_L_law_6 4 rfl) (by decide) ?_
            refine G.sub [1, 2, 3, 4, 5] rfl ?_
            exact hJ_489 _ hf
          · have hf := if_f hf c_107
            refine g_lconst (v := (1 : Int64)) C (ckD_get k_L_law_6 2 rfl) (by decide) ?_
            refine g_goto C (ckD_get k_L_law_6 3 rfl) ?_
            refine G.sub [1, 2, 3, 4, 5] rfl ?_
            exact hJ_489 _ hf
      · have hf := if_f hf c_101
        cases hf
    refine g_if_eq C (ckD_get k_L_law_5 23 rfl) (fun c_108 => ?_) (fun c_108 => ?_)
    · have hf := if_t hf c_108
      refine g_iconst (v := (0 : Int32)) C (ckD_get k_L_law_5 26 rfl) (by decide) ?_
      refine G.sub [1, 2, 3, 4, 5, 0] rfl ?_
      exact hJ_455 _ hf
    · have hf := if_f hf c_108
      refine g_iconst (v := (1 : Int32)) C (ckD_get k_L_law_5 24 rfl) (by decide) ?_
      refine g_goto C (ckD_get k_L_law_5 25 rfl) ?_
      refine G.sub [1, 2, 3, 4, 5, 0] rfl ?_
      exact hJ_455 _ hf
  refine g_if_eq C (ckD_get k_L_law_4 35 rfl) (fun c_109 => ?_) (fun c_109 => ?_)
  · have hf := if_t hf c_109
    refine g_iconst (v := (0 : Int32)) C (ckD_get k_L_law_4 38 rfl) (by decide) ?_
    exact hJ_416 _ hf
  · have hf := if_f hf c_109
    refine g_iconst (v := (1 : Int32)) C (ckD_get k_L_law_4 36 rfl) (by decide) ?_
    refine g_goto C (ckD_get k_L_law_4 37 rfl) ?_
    exact hJ_416 _ hf
def f_arm_6 (xs : Nat → Int32) (L : Nat) (i : Int32) (M : Mm) : Option (Option (Int32 × Mm)) := rdX L xs (i + (1 : Int32)) fun v_110 => rdX L xs (i + (2 : Int32)) fun v_112 => rdX L xs (i + (3 : Int32)) fun v_114 => rdX L xs (i + (4 : Int32)) fun v_116 => rdX L xs (i + (5 : Int32)) fun v_118 => bd2 (f_X9_pair ((((v_110).toInt64) <<< (((32 : Int32)).toInt64 &&& 63)) ||| (((v_112).toInt64) &&& (4294967295 : Int64))) ((((v_114).toInt64) <<< (((32 : Int32)).toInt64 &&& 63)) ||| (((v_116).toInt64) &&& (4294967295 : Int64))) v_118 M) fun r_122 M_121 => rdX L xs (i + (1 : Int32)) fun v_123 => rdX L xs (i + (2 : Int32)) fun v_125 => rdX L xs (i + (3 : Int32)) fun v_127 => rdX L xs (i + (4 : Int32)) fun v_129 => rdX L xs (i + (5 : Int32)) fun v_131 => bd2 (f_X10_pair ((((v_123).toInt64) <<< (((32 : Int32)).toInt64 &&& 63)) ||| (((v_125).toInt64) &&& (4294967295 : Int64))) ((((v_127).toInt64) <<< (((32 : Int32)).toInt64 &&& 63)) ||| (((v_129).toInt64) &&& (4294967295 : Int64))) v_131 M_121) fun r_135 M_134 => if r_122 = r_135 then f_law_J1690 i M_134 else none
set_option maxRecDepth 100000 in
set_option maxHeartbeats 40000000 in
theorem law_arm_6 {K : Kx} {b L : Nat} {xs : Nat → Int32} (C : Cx K cL_law RL 124) (hL : K.2.2.1 = 8) (hX : Sx K b L xs) (i : Int32) (M : Mm) (cA cB : Nat) (hcs : cA + 8 ≤ K.1.R.cells ∧ cB + 48 ≤ K.1.R.slots) (rr : Option (Int32 × Mm)) (hf : f_arm_6 xs L i M = some rr) (hn : ∀ (i' : Int32) (M' : Mm), rr = some (i', M') → G K (cA + 8, cB + 48) 23 [(0, .ref b), (1, .ref (K.2.1.1 + 0)), (2, .ref (K.2.1.1 + 69)), (3, .ref (K.2.1.1 + 105)), (4, .int i')] [] M') : G K (cA, cB) 498 [(0, .ref b), (1, .ref (K.2.1.1 + 0)), (2, .ref (K.2.1.1 + 69)), (3, .ref (K.2.1.1 + 105)), (4, .int i)] [] M := by
  have hJ_1690 : ∀ (M' : Mm), f_law_J1690 i M' = some rr → G K (cA + 8, cB + 48) 1690 [(0, .ref b), (1, .ref (K.2.1.1 + 0)), (2, .ref (K.2.1.1 + 69)), (3, .ref (K.2.1.1 + 105)), (4, .int i)] [] M' := fun M' hf => law_end C hL hX i M' cA cB rr hf hn
  unfold f_arm_6 at hf
  refine g_aload_n 1 C (ckD_get k_L_law_6 10 rfl) rfl rfl ?_
  refine g_aload_n 0 C (ckD_get k_L_law_6 11 rfl) rfl rfl ?_
  refine g_iload 4 C (ckD_get k_L_law_6 12 rfl) rfl ?_
  refine g_iconst (v := (1 : Int32)) C (ckD_get k_L_law_6 13 rfl) (by decide) ?_
  refine g_iadd C (ckD_get k_L_law_6 14 rfl) ?_
  obtain ⟨v_110, hi_111, ev_110, hf⟩ := rdX_e hf
  refine g_sld hX C (ckD_get k_L_law_6 15 rfl) hi_111 ev_110 ?_
  refine g_i2l C (ckD_get k_L_law_6 16 rfl) ?_
  refine g_bipush (v := (32 : Int32)) C (ckD_get k_L_law_6 17 rfl) (by decide) ?_
  refine g_lshl C (ckD_get k_L_law_6 18 rfl) ?_
  refine g_aload_n 0 C (ckD_get k_L_law_6 19 rfl) rfl rfl ?_
  refine g_iload 4 C (ckD_get k_L_law_6 20 rfl) rfl ?_
  refine g_iconst (v := (2 : Int32)) C (ckD_get k_L_law_6 21 rfl) (by decide) ?_
  refine g_iadd C (ckD_get k_L_law_6 22 rfl) ?_
  obtain ⟨v_112, hi_113, ev_112, hf⟩ := rdX_e hf
  refine g_sld hX C (ckD_get k_L_law_6 23 rfl) hi_113 ev_112 ?_
  refine g_i2l C (ckD_get k_L_law_6 24 rfl) ?_
  refine g_ldc2 C (ckD_get k_L_law_6 25 rfl) q1543 ?_
  refine g_land C (ckD_get k_L_law_6 26 rfl) ?_
  refine g_lor C (ckD_get k_L_law_6 27 rfl) ?_
  refine g_aload_n 0 C (ckD_get k_L_law_6 28 rfl) rfl rfl ?_
  refine g_iload 4 C (ckD_get k_L_law_6 29 rfl) rfl ?_
  refine g_iconst (v := (3 : Int32)) C (ckD_get k_L_law_6 30 rfl) (by decide) ?_
  refine g_iadd C (ckD_get k_L_law_6 31 rfl) ?_
  obtain ⟨v_114, hi_115, ev_114, hf⟩ := rdX_e hf
  refine g_sld hX C (ckD_get k_L_law_6 32 rfl) hi_115 ev_114 ?_
  refine g_i2l C (ckD_get k_L_law_6 33 rfl) ?_
  refine g_bipush (v := (32 : Int32)) C (ckD_get k_L_law_6 34 rfl) (by decide) ?_
  refine g_lshl C (ckD_get k_L_law_6 35 rfl) ?_
  refine g_aload_n 0 C (ckD_get k_L_law_6 36 rfl) rfl rfl ?_
  refine g_iload 4 C (ckD_get k_L_law_6 37 rfl) rfl ?_
  refine g_iconst (v := (4 : Int32)) C (ckD_get k_L_law_6 38 rfl) (by decide) ?_
  refine g_iadd C (ckD_get k_L_law_6 39 rfl) ?_
  obtain ⟨v_116, hi_117, ev_116, hf⟩ := rdX_e hf
  refine g_sld hX C (ckD_get k_L_law_7 0 rfl) hi_117 ev_116 ?_
  refine g_i2l C (ckD_get k_L_law_7 1 rfl) ?_
  refine g_ldc2 C (ckD_get k_L_law_7 2 rfl) q1543 ?_
  refine g_land C (ckD_get k_L_law_7 3 rfl) ?_
  refine g_lor C (ckD_get k_L_law_7 4 rfl) ?_
  refine g_aload_n 0 C (ckD_get k_L_law_7 5 rfl) rfl rfl ?_
  refine g_iload 4 C (ckD_get k_L_law_7 6 rfl) rfl ?_
  refine g_iconst (v := (5 : Int32)) C (ckD_get k_L_law_7 7 rfl) (by decide) ?_
  refine g_iadd C (ckD_get k_L_law_7 8 rfl) ?_
  obtain ⟨v_118, hi_119, ev_118, hf⟩ := rdX_e hf
  refine g_sld hX C (ckD_get k_L_law_7 9 rfl) hi_119 ev_118 ?_
  obtain ⟨r_122, M_121, hr_120, hf⟩ := bd2_e hf
  refine n_cV [.long ((((v_110).toInt64) <<< (((32 : Int32)).toInt64 &&& 63)) ||| (((v_112).toInt64) &&& (4294967295 : Int64))), .long ((((v_114).toInt64) <<< (((32 : Int32)).toInt64 &&& 63)) ||| (((v_116).toInt64) &&& (4294967295 : Int64))), .int v_118] [] C (ckD_get k_L_law_7 10 rfl) vk_L_102 (t_X9_pair C.tr _ _ _ _ _ hr_120) T0 rfl rfl (Nat.le_of_ble_eq_true rfl) (by decide) ⟨by have := hcs.1; show cA + 0 ≤ _; omega, by have := hcs.2; show cB + 0 ≤ _; omega⟩ rfl ?_
  refine g_aload_n 2 C (ckD_get k_L_law_7 11 rfl) rfl rfl ?_
  refine g_aload_n 0 C (ckD_get k_L_law_7 12 rfl) rfl rfl ?_
  refine g_iload 4 C (ckD_get k_L_law_7 13 rfl) rfl ?_
  refine g_iconst (v := (1 : Int32)) C (ckD_get k_L_law_7 14 rfl) (by decide) ?_
  refine g_iadd C (ckD_get k_L_law_7 15 rfl) ?_
  obtain ⟨v_123, hi_124, ev_123, hf⟩ := rdX_e hf
  refine g_sld hX C (ckD_get k_L_law_7 16 rfl) hi_124 ev_123 ?_
  refine g_i2l C (ckD_get k_L_law_7 17 rfl) ?_
  refine g_bipush (v := (32 : Int32)) C (ckD_get k_L_law_7 18 rfl) (by decide) ?_
  refine g_lshl C (ckD_get k_L_law_7 19 rfl) ?_
  refine g_aload_n 0 C (ckD_get k_L_law_7 20 rfl) rfl rfl ?_
  refine g_iload 4 C (ckD_get k_L_law_7 21 rfl) rfl ?_
  refine g_iconst (v := (2 : Int32)) C (ckD_get k_L_law_7 22 rfl) (by decide) ?_
  refine g_iadd C (ckD_get k_L_law_7 23 rfl) ?_
  obtain ⟨v_125, hi_126, ev_125, hf⟩ := rdX_e hf
  refine g_sld hX C (ckD_get k_L_law_7 24 rfl) hi_126 ev_125 ?_
  refine g_i2l C (ckD_get k_L_law_7 25 rfl) ?_
  refine g_ldc2 C (ckD_get k_L_law_7 26 rfl) q1543 ?_
  refine g_land C (ckD_get k_L_law_7 27 rfl) ?_
  refine g_lor C (ckD_get k_L_law_7 28 rfl) ?_
  refine g_aload_n 0 C (ckD_get k_L_law_7 29 rfl) rfl rfl ?_
  refine g_iload 4 C (ckD_get k_L_law_7 30 rfl) rfl ?_
  refine g_iconst (v := (3 : Int32)) C (ckD_get k_L_law_7 31 rfl) (by decide) ?_
  refine g_iadd C (ckD_get k_L_law_7 32 rfl) ?_
  obtain ⟨v_127, hi_128, ev_127, hf⟩ := rdX_e hf
  refine g_sld hX C (ckD_get k_L_law_7 33 rfl) hi_128 ev_127 ?_
  refine g_i2l C (ckD_get k_L_law_7 34 rfl) ?_
  refine g_bipush (v := (32 : Int32)) C (ckD_get k_L_law_7 35 rfl) (by decide) ?_
  refine g_lshl C (ckD_get k_L_law_7 36 rfl) ?_
  refine g_aload_n 0 C (ckD_get k_L_law_7 37 rfl) rfl rfl ?_
  refine g_iload 4 C (ckD_get k_L_law_7 38 rfl) rfl ?_
  refine g_iconst (v := (4 : Int32)) C (ckD_get k_L_law_7 39 rfl) (by decide) ?_
  refine g_iadd C (ckD_get k_L_law_8 0 rfl) ?_
  obtain ⟨v_129, hi_130, ev_129, hf⟩ := rdX_e hf
  refine g_sld hX C (ckD_get k_L_law_8 1 rfl) hi_130 ev_129 ?_
  refine g_i2l C (ckD_get k_L_law_8 2 rfl) ?_
  refine g_ldc2 C (ckD_get k_L_law_8 3 rfl) q1543 ?_
  refine g_land C (ckD_get k_L_law_8 4 rfl) ?_
  refine g_lor C (ckD_get k_L_law_8 5 rfl) ?_
  refine g_aload_n 0 C (ckD_get k_L_law_8 6 rfl) rfl rfl ?_
  refine g_iload 4 C (ckD_get k_L_law_8 7 rfl) rfl ?_
  refine g_iconst (v := (5 : Int32)) C (ckD_get k_L_law_8 8 rfl) (by decide) ?_
  refine g_iadd C (ckD_get k_L_law_8 9 rfl) ?_
  obtain ⟨v_131, hi_132, ev_131, hf⟩ := rdX_e hf
  refine g_sld hX C (ckD_get k_L_law_8 10 rfl) hi_132 ev_131 ?_
  obtain ⟨r_135, M_134, hr_133, hf⟩ := bd2_e hf
  refine n_cV [.long ((((v_123).toInt64) <<< (((32 : Int32)).toInt64 &&& 63)) ||| (((v_125).toInt64) &&& (4294967295 : Int64))), .long ((((v_127).toInt64) <<< (((32 : Int32)).toInt64 &&& 63)) ||| (((v_129).toInt64) &&& (4294967295 : Int64))), .int v_131] [.int r_122] C (ckD_get k_L_law_8 11 rfl) vk_L_106 (t_X10_pair C.tr _ _ _ _ _ hr_133) T69 rfl rfl (Nat.le_of_ble_eq_true rfl) (by decide) ⟨by have := hcs.1; show cA + 0 ≤ _; omega, by have := hcs.2; show cB + 0 ≤ _; omega⟩ rfl ?_
  refine g_icmp_eq C (ckD_get k_L_law_8 12 rfl) (fun c_136 => ?_) (fun c_136 => ?_)
  · have hf := if_t hf c_136
    refine G.wid (cs' := (cA + 8, cB + 48)) (by show cA + 0 ≤ cA + 8; omega) (by show cB + 0 ≤ cB + 48; omega) ?_
    exact hJ_1690 _ hf
  · have hf := if_f hf c_136
    cases hf
def f_arm_7 (xs : Nat → Int32) (L : Nat) (i : Int32) (M : Mm) : Option (Option (Int32 × Mm)) := rdX L xs (i + (1 : Int32)) fun v_137 => rdX L xs (i + (2 : Int32)) fun v_139 => rdX L xs (i + (3 : Int32)) fun v_141 => rdX L xs (i + (4 : Int32)) fun v_143 => rdX L xs (i + (5 : Int32)) fun v_145 => bd2 (f_X9_cuts ((((v_137).toInt64) <<< (((32 : Int32)).toInt64 &&& 63)) ||| (((v_139).toInt64) &&& (4294967295 : Int64))) ((((v_141).toInt64) <<< (((32 : Int32)).toInt64 &&& 63)) ||| (((v_143).toInt64) &&& (4294967295 : Int64))) v_145 M) fun r_149 M_148 => rdX L xs (i + (1 : Int32)) fun v_150 => rdX L xs (i + (2 : Int32)) fun v_152 => rdX L xs (i + (3 : Int32)) fun v_154 => rdX L xs (i + (4 : Int32)) fun v_156 => rdX L xs (i + (5 : Int32)) fun v_158 => bd2 (f_X10_cuts ((((v_150).toInt64) <<< (((32 : Int32)).toInt64 &&& 63)) ||| (((v_152).toInt64) &&& (4294967295 : Int64))) ((((v_154).toInt64) <<< (((32 : Int32)).toInt64 &&& 63)) ||| (((v_156).toInt64) &&& (4294967295 : Int64))) v_158 M_148) fun r_162 M_161 => if r_149 = r_162 then f_law_J1690 i M_161 else none
set_option maxRecDepth 100000 in
set_option maxHeartbeats 40000000 in
theorem law_arm_7 {K : Kx} {b L : Nat} {xs : Nat → Int32} (C : Cx K cL_law RL 124) (hL : K.2.2.1 = 8) (hX : Sx K b L xs) (i : Int32) (M : Mm) (cA cB : Nat) (hcs : cA + 8 ≤ K.1.R.cells ∧ cB + 48 ≤ K.1.R.slots) (rr : Option (Int32 × Mm)) (hf : f_arm_7 xs L i M = some rr) (hn : ∀ (i' : Int32) (M' : Mm), rr = some (i', M') → G K (cA + 8, cB + 48) 23 [(0, .ref b), (1, .ref (K.2.1.1 + 0)), (2, .ref (K.2.1.1 + 69)), (3, .ref (K.2.1.1 + 105)), (4, .int i')] [] M') : G K (cA, cB) 611 [(0, .ref b), (1, .ref (K.2.1.1 + 0)), (2, .ref (K.2.1.1 + 69)), (3, .ref (K.2.1.1 + 105)), (4, .int i)] [] M := by
  have hJ_1690 : ∀ (M' : Mm), f_law_J1690 i M' = some rr → G K (cA + 8, cB + 48) 1690 [(0, .ref b), (1, .ref (K.2.1.1 + 0)), (2, .ref (K.2.1.1 + 69)), (3, .ref (K.2.1.1 + 105)), (4, .int i)] [] M' := fun M' hf => law_end C hL hX i M' cA cB rr hf hn
  unfold f_arm_7 at hf
  refine g_aload_n 1 C (ckD_get k_L_law_8 15 rfl) rfl rfl ?_
  refine g_aload_n 0 C (ckD_get k_L_law_8 16 rfl) rfl rfl ?_
  refine g_iload 4 C (ckD_get k_L_law_8 17 rfl) rfl ?_
  refine g_iconst (v := (1 : Int32)) C (ckD_get k_L_law_8 18 rfl) (by decide) ?_
  refine g_iadd C (ckD_get k_L_law_8 19 rfl) ?_
  obtain ⟨v_137, hi_138, ev_137, hf⟩ := rdX_e hf
  refine g_sld hX C (ckD_get k_L_law_8 20 rfl) hi_138 ev_137 ?_
  refine g_i2l C (ckD_get k_L_law_8 21 rfl) ?_
  refine g_bipush (v := (32 : Int32)) C (ckD_get k_L_law_8 22 rfl) (by decide) ?_
  refine g_lshl C (ckD_get k_L_law_8 23 rfl) ?_
  refine g_aload_n 0 C (ckD_get k_L_law_8 24 rfl) rfl rfl ?_
  refine g_iload 4 C (ckD_get k_L_law_8 25 rfl) rfl ?_
  refine g_iconst (v := (2 : Int32)) C (ckD_get k_L_law_8 26 rfl) (by decide) ?_
  refine g_iadd C (ckD_get k_L_law_8 27 rfl) ?_
  obtain ⟨v_139, hi_140, ev_139, hf⟩ := rdX_e hf
  refine g_sld hX C (ckD_get k_L_law_8 28 rfl) hi_140 ev_139 ?_
  refine g_i2l C (ckD_get k_L_law_8 29 rfl) ?_
  refine g_ldc2 C (ckD_get k_L_law_8 30 rfl) q1543 ?_
  refine g_land C (ckD_get k_L_law_8 31 rfl) ?_
  refine g_lor C (ckD_get k_L_law_8 32 rfl) ?_
  refine g_aload_n 0 C (ckD_get k_L_law_8 33 rfl) rfl rfl ?_
  refine g_iload 4 C (ckD_get k_L_law_8 34 rfl) rfl ?_
  refine g_iconst (v := (3 : Int32)) C (ckD_get k_L_law_8 35 rfl) (by decide) ?_
  refine g_iadd C (ckD_get k_L_law_8 36 rfl) ?_
  obtain ⟨v_141, hi_142, ev_141, hf⟩ := rdX_e hf
  refine g_sld hX C (ckD_get k_L_law_8 37 rfl) hi_142 ev_141 ?_
  refine g_i2l C (ckD_get k_L_law_8 38 rfl) ?_
  refine g_bipush (v := (32 : Int32)) C (ckD_get k_L_law_8 39 rfl) (by decide) ?_
  refine g_lshl C (ckD_get k_L_law_9 0 rfl) ?_
  refine g_aload_n 0 C (ckD_get k_L_law_9 1 rfl) rfl rfl ?_
  refine g_iload 4 C (ckD_get k_L_law_9 2 rfl) rfl ?_
  refine g_iconst (v := (4 : Int32)) C (ckD_get k_L_law_9 3 rfl) (by decide) ?_
  refine g_iadd C (ckD_get k_L_law_9 4 rfl) ?_
  obtain ⟨v_143, hi_144, ev_143, hf⟩ := rdX_e hf
  refine g_sld hX C (ckD_get k_L_law_9 5 rfl) hi_144 ev_143 ?_
  refine g_i2l C (ckD_get k_L_law_9 6 rfl) ?_
  refine g_ldc2 C (ckD_get k_L_law_9 7 rfl) q1543 ?_
  refine g_land C (ckD_get k_L_law_9 8 rfl) ?_
  refine g_lor C (ckD_get k_L_law_9 9 rfl) ?_
  refine g_aload_n 0 C (ckD_get k_L_law_9 10 rfl) rfl rfl ?_
  refine g_iload 4 C (ckD_get k_L_law_9 11 rfl) rfl ?_
  refine g_iconst (v := (5 : Int32)) C (ckD_get k_L_law_9 12 rfl) (by decide) ?_
  refine g_iadd C (ckD_get k_L_law_9 13 rfl) ?_
  obtain ⟨v_145, hi_146, ev_145, hf⟩ := rdX_e hf
  refine g_sld hX C (ckD_get k_L_law_9 14 rfl) hi_146 ev_145 ?_
  obtain ⟨r_149, M_148, hr_147, hf⟩ := bd2_e hf
  refine n_cV [.long ((((v_137).toInt64) <<< (((32 : Int32)).toInt64 &&& 63)) ||| (((v_139).toInt64) &&& (4294967295 : Int64))), .long ((((v_141).toInt64) <<< (((32 : Int32)).toInt64 &&& 63)) ||| (((v_143).toInt64) &&& (4294967295 : Int64))), .int v_145] [] C (ckD_get k_L_law_9 15 rfl) vk_L_107 (t_X9_cuts C.tr _ _ _ _ _ hr_147) T0 rfl rfl (Nat.le_of_ble_eq_true rfl) (by decide) ⟨by have := hcs.1; show cA + 0 ≤ _; omega, by have := hcs.2; show cB + 0 ≤ _; omega⟩ rfl ?_
  refine g_aload_n 2 C (ckD_get k_L_law_9 16 rfl) rfl rfl ?_
  refine g_aload_n 0 C (ckD_get k_L_law_9 17 rfl) rfl rfl ?_
  refine g_iload 4 C (ckD_get k_L_law_9 18 rfl) rfl ?_
  refine g_iconst (v := (1 : Int32)) C (ckD_get k_L_law_9 19 rfl) (by decide) ?_
  refine g_iadd C (ckD_get k_L_law_9 20 rfl) ?_
  obtain ⟨v_150, hi_151, ev_150, hf⟩ := rdX_e hf
  refine g_sld hX C (ckD_get k_L_law_9 21 rfl) hi_151 ev_150 ?_
  refine g_i2l C (ckD_get k_L_law_9 22 rfl) ?_
  refine g_bipush (v := (32 : Int32)) C (ckD_get k_L_law_9 23 rfl) (by decide) ?_
  refine g_lshl C (ckD_get k_L_law_9 24 rfl) ?_
  refine g_aload_n 0 C (ckD_get k_L_law_9 25 rfl) rfl rfl ?_
  refine g_iload 4 C (ckD_get k_L_law_9 26 rfl) rfl ?_
  refine g_iconst (v := (2 : Int32)) C (ckD_get k_L_law_9 27 rfl) (by decide) ?_
  refine g_iadd C (ckD_get k_L_law_9 28 rfl) ?_
  obtain ⟨v_152, hi_153, ev_152, hf⟩ := rdX_e hf
  refine g_sld hX C (ckD_get k_L_law_9 29 rfl) hi_153 ev_152 ?_
  refine g_i2l C (ckD_get k_L_law_9 30 rfl) ?_
  refine g_ldc2 C (ckD_get k_L_law_9 31 rfl) q1543 ?_
  refine g_land C (ckD_get k_L_law_9 32 rfl) ?_
  refine g_lor C (ckD_get k_L_law_9 33 rfl) ?_
  refine g_aload_n 0 C (ckD_get k_L_law_9 34 rfl) rfl rfl ?_
  refine g_iload 4 C (ckD_get k_L_law_9 35 rfl) rfl ?_
  refine g_iconst (v := (3 : Int32)) C (ckD_get k_L_law_9 36 rfl) (by decide) ?_
  refine g_iadd C (ckD_get k_L_law_9 37 rfl) ?_
  obtain ⟨v_154, hi_155, ev_154, hf⟩ := rdX_e hf
  refine g_sld hX C (ckD_get k_L_law_9 38 rfl) hi_155 ev_154 ?_
  refine g_i2l C (ckD_get k_L_law_9 39 rfl) ?_
  refine g_bipush (v := (32 : Int32)) C (ckD_get k_L_law_10 0 rfl) (by decide) ?_
  refine g_lshl C (ckD_get k_L_law_10 1 rfl) ?_
  refine g_aload_n 0 C (ckD_get k_L_law_10 2 rfl) rfl rfl ?_
  refine g_iload 4 C (ckD_get k_L_law_10 3 rfl) rfl ?_
  refine g_iconst (v := (4 : Int32)) C (ckD_get k_L_law_10 4 rfl) (by decide) ?_
  refine g_iadd C (ckD_get k_L_law_10 5 rfl) ?_
  obtain ⟨v_156, hi_157, ev_156, hf⟩ := rdX_e hf
  refine g_sld hX C (ckD_get k_L_law_10 6 rfl) hi_157 ev_156 ?_
  refine g_i2l C (ckD_get k_L_law_10 7 rfl) ?_
  refine g_ldc2 C (ckD_get k_L_law_10 8 rfl) q1543 ?_
  refine g_land C (ckD_get k_L_law_10 9 rfl) ?_
  refine g_lor C (ckD_get k_L_law_10 10 rfl) ?_
  refine g_aload_n 0 C (ckD_get k_L_law_10 11 rfl) rfl rfl ?_
  refine g_iload 4 C (ckD_get k_L_law_10 12 rfl) rfl ?_
  refine g_iconst (v := (5 : Int32)) C (ckD_get k_L_law_10 13 rfl) (by decide) ?_
  refine g_iadd C (ckD_get k_L_law_10 14 rfl) ?_
  obtain ⟨v_158, hi_159, ev_158, hf⟩ := rdX_e hf
  refine g_sld hX C (ckD_get k_L_law_10 15 rfl) hi_159 ev_158 ?_
  obtain ⟨r_162, M_161, hr_160, hf⟩ := bd2_e hf
  refine n_cV [.long ((((v_150).toInt64) <<< (((32 : Int32)).toInt64 &&& 63)) ||| (((v_152).toInt64) &&& (4294967295 : Int64))), .long ((((v_154).toInt64) <<< (((32 : Int32)).toInt64 &&& 63)) ||| (((v_156).toInt64) &&& (4294967295 : Int64))), .int v_158] [.int r_149] C (ckD_get k_L_law_10 16 rfl) vk_L_110 (t_X10_cuts C.tr _ _ _ _ _ hr_160) T69 rfl rfl (Nat.le_of_ble_eq_true rfl) (by decide) ⟨by have := hcs.1; show cA + 0 ≤ _; omega, by have := hcs.2; show cB + 0 ≤ _; omega⟩ rfl ?_
  refine g_icmp_eq C (ckD_get k_L_law_10 17 rfl) (fun c_163 => ?_) (fun c_163 => ?_)
  · have hf := if_t hf c_163
    refine G.wid (cs' := (cA + 8, cB + 48)) (by show cA + 0 ≤ cA + 8; omega) (by show cB + 0 ≤ cB + 48; omega) ?_
    exact hJ_1690 _ hf
  · have hf := if_f hf c_163
    cases hf
def f_arm_8 (xs : Nat → Int32) (L : Nat) (i : Int32) (M : Mm) : Option (Option (Int32 × Mm)) := rdX L xs (i + (1 : Int32)) fun v_164 => rdX L xs (i + (2 : Int32)) fun v_166 => rdX L xs (i + (3 : Int32)) fun v_168 => rdX L xs (i + (4 : Int32)) fun v_170 => rdX L xs (i + (5 : Int32)) fun v_172 => rdX L xs (i + (6 : Int32)) fun v_174 => bd2 (f_X9_tree v_164 ((((v_166).toInt64) <<< (((32 : Int32)).toInt64 &&& 63)) ||| (((v_168).toInt64) &&& (4294967295 : Int64))) ((((v_170).toInt64) <<< (((32 : Int32)).toInt64 &&& 63)) ||| (((v_172).toInt64) &&& (4294967295 : Int64))) v_174 M) fun r_178 M_177 => rdX L xs (i + (1 : Int32)) fun v_179 => rdX L xs (i + (2 : Int32)) fun v_181 => rdX L xs (i + (3 : Int32)) fun v_183 => rdX L xs (i + (4 : Int32)) fun v_185 => rdX L xs (i + (5 : Int32)) fun v_187 => rdX L xs (i + (6 : Int32)) fun v_189 => bd2 (f_X10_tree v_179 ((((v_181).toInt64) <<< (((32 : Int32)).toInt64 &&& 63)) ||| (((v_183).toInt64) &&& (4294967295 : Int64))) ((((v_185).toInt64) <<< (((32 : Int32)).toInt64 &&& 63)) ||| (((v_187).toInt64) &&& (4294967295 : Int64))) v_189 M_177) fun r_193 M_192 => if r_178 = r_193 then f_law_J1690 i M_192 else none
set_option maxRecDepth 100000 in
set_option maxHeartbeats 40000000 in
theorem law_arm_8 {K : Kx} {b L : Nat} {xs : Nat → Int32} (C : Cx K cL_law RL 124) (hL : K.2.2.1 = 8) (hX : Sx K b L xs) (i : Int32) (M : Mm) (cA cB : Nat) (hcs : cA + 8 ≤ K.1.R.cells ∧ cB + 48 ≤ K.1.R.slots) (rr : Option (Int32 × Mm)) (hf : f_arm_8 xs L i M = some rr) (hn : ∀ (i' : Int32) (M' : Mm), rr = some (i', M') → G K (cA + 8, cB + 48) 23 [(0, .ref b), (1, .ref (K.2.1.1 + 0)), (2, .ref (K.2.1.1 + 69)), (3, .ref (K.2.1.1 + 105)), (4, .int i')] [] M') : G K (cA, cB) 724 [(0, .ref b), (1, .ref (K.2.1.1 + 0)), (2, .ref (K.2.1.1 + 69)), (3, .ref (K.2.1.1 + 105)), (4, .int i)] [] M := by
  have hJ_1690 : ∀ (M' : Mm), f_law_J1690 i M' = some rr → G K (cA + 8, cB + 48) 1690 [(0, .ref b), (1, .ref (K.2.1.1 + 0)), (2, .ref (K.2.1.1 + 69)), (3, .ref (K.2.1.1 + 105)), (4, .int i)] [] M' := fun M' hf => law_end C hL hX i M' cA cB rr hf hn
  unfold f_arm_8 at hf
  refine g_aload_n 1 C (ckD_get k_L_law_10 20 rfl) rfl rfl ?_
  refine g_aload_n 0 C (ckD_get k_L_law_10 21 rfl) rfl rfl ?_
  refine g_iload 4 C (ckD_get k_L_law_10 22 rfl) rfl ?_
  refine g_iconst (v := (1 : Int32)) C (ckD_get k_L_law_10 23 rfl) (by decide) ?_
  refine g_iadd C (ckD_get k_L_law_10 24 rfl) ?_
  obtain ⟨v_164, hi_165, ev_164, hf⟩ := rdX_e hf
  refine g_sld hX C (ckD_get k_L_law_10 25 rfl) hi_165 ev_164 ?_
  refine g_aload_n 0 C (ckD_get k_L_law_10 26 rfl) rfl rfl ?_
  refine g_iload 4 C (ckD_get k_L_law_10 27 rfl) rfl ?_
  refine g_iconst (v := (2 : Int32)) C (ckD_get k_L_law_10 28 rfl) (by decide) ?_
  refine g_iadd C (ckD_get k_L_law_10 29 rfl) ?_
  obtain ⟨v_166, hi_167, ev_166, hf⟩ := rdX_e hf
  refine g_sld hX C (ckD_get k_L_law_10 30 rfl) hi_167 ev_166 ?_
  refine g_i2l C (ckD_get k_L_law_10 31 rfl) ?_
  refine g_bipush (v := (32 : Int32)) C (ckD_get k_L_law_10 32 rfl) (by decide) ?_
  refine g_lshl C (ckD_get k_L_law_10 33 rfl) ?_
  refine g_aload_n 0 C (ckD_get k_L_law_10 34 rfl) rfl rfl ?_
  refine g_iload 4 C (ckD_get k_L_law_10 35 rfl) rfl ?_
  refine g_iconst (v := (3 : Int32)) C (ckD_get k_L_law_10 36 rfl) (by decide) ?_
  refine g_iadd C (ckD_get k_L_law_10 37 rfl) ?_
  obtain ⟨v_168, hi_169, ev_168, hf⟩ := rdX_e hf
  refine g_sld hX C (ckD_get k_L_law_10 38 rfl) hi_169 ev_168 ?_
  refine g_i2l C (ckD_get k_L_law_10 39 rfl) ?_
  refine g_ldc2 C (ckD_get k_L_law_11 0 rfl) q1543 ?_
  refine g_land C (ckD_get k_L_law_11 1 rfl) ?_
  refine g_lor C (ckD_get k_L_law_11 2 rfl) ?_
  refine g_aload_n 0 C (ckD_get k_L_law_11 3 rfl) rfl rfl ?_
  refine g_iload 4 C (ckD_get k_L_law_11 4 rfl) rfl ?_
  refine g_iconst (v := (4 : Int32)) C (ckD_get k_L_law_11 5 rfl) (by decide) ?_
  refine g_iadd C (ckD_get k_L_law_11 6 rfl) ?_
  obtain ⟨v_170, hi_171, ev_170, hf⟩ := rdX_e hf
  refine g_sld hX C (ckD_get k_L_law_11 7 rfl) hi_171 ev_170 ?_
  refine g_i2l C (ckD_get k_L_law_11 8 rfl) ?_
  refine g_bipush (v := (32 : Int32)) C (ckD_get k_L_law_11 9 rfl) (by decide) ?_
  refine g_lshl C (ckD_get k_L_law_11 10 rfl) ?_
  refine g_aload_n 0 C (ckD_get k_L_law_11 11 rfl) rfl rfl ?_
  refine g_iload 4 C (ckD_get k_L_law_11 12 rfl) rfl ?_
  refine g_iconst (v := (5 : Int32)) C (ckD_get k_L_law_11 13 rfl) (by decide) ?_
  refine g_iadd C (ckD_get k_L_law_11 14 rfl) ?_
  obtain ⟨v_172, hi_173, ev_172, hf⟩ := rdX_e hf
  refine g_sld hX C (ckD_get k_L_law_11 15 rfl) hi_173 ev_172 ?_
  refine g_i2l C (ckD_get k_L_law_11 16 rfl) ?_
  refine g_ldc2 C (ckD_get k_L_law_11 17 rfl) q1543 ?_
  refine g_land C (ckD_get k_L_law_11 18 rfl) ?_
  refine g_lor C (ckD_get k_L_law_11 19 rfl) ?_
  refine g_aload_n 0 C (ckD_get k_L_law_11 20 rfl) rfl rfl ?_
  refine g_iload 4 C (ckD_get k_L_law_11 21 rfl) rfl ?_
  refine g_bipush (v := (6 : Int32)) C (ckD_get k_L_law_11 22 rfl) (by decide) ?_
  refine g_iadd C (ckD_get k_L_law_11 23 rfl) ?_
  obtain ⟨v_174, hi_175, ev_174, hf⟩ := rdX_e hf
  refine g_sld hX C (ckD_get k_L_law_11 24 rfl) hi_175 ev_174 ?_
  obtain ⟨r_178, M_177, hr_176, hf⟩ := bd2_e hf
  refine n_cV [.int v_164, .long ((((v_166).toInt64) <<< (((32 : Int32)).toInt64 &&& 63)) ||| (((v_168).toInt64) &&& (4294967295 : Int64))), .long ((((v_170).toInt64) <<< (((32 : Int32)).toInt64 &&& 63)) ||| (((v_172).toInt64) &&& (4294967295 : Int64))), .int v_174] [] C (ckD_get k_L_law_11 25 rfl) vk_L_111 (t_X9_tree C.tr _ _ _ _ _ _ hr_176) T0 rfl rfl (Nat.le_of_ble_eq_true rfl) (by decide) ⟨by have := hcs.1; show cA + 0 ≤ _; omega, by have := hcs.2; show cB + 0 ≤ _; omega⟩ rfl ?_
  refine g_aload_n 2 C (ckD_get k_L_law_11 26 rfl) rfl rfl ?_
  refine g_aload_n 0 C (ckD_get k_L_law_11 27 rfl) rfl rfl ?_
  refine g_iload 4 C (ckD_get k_L_law_11 28 rfl) rfl ?_
  refine g_iconst (v := (1 : Int32)) C (ckD_get k_L_law_11 29 rfl) (by decide) ?_
  refine g_iadd C (ckD_get k_L_law_11 30 rfl) ?_
  obtain ⟨v_179, hi_180, ev_179, hf⟩ := rdX_e hf
  refine g_sld hX C (ckD_get k_L_law_11 31 rfl) hi_180 ev_179 ?_
  refine g_aload_n 0 C (ckD_get k_L_law_11 32 rfl) rfl rfl ?_
  refine g_iload 4 C (ckD_get k_L_law_11 33 rfl) rfl ?_
  refine g_iconst (v := (2 : Int32)) C (ckD_get k_L_law_11 34 rfl) (by decide) ?_
  refine g_iadd C (ckD_get k_L_law_11 35 rfl) ?_
  obtain ⟨v_181, hi_182, ev_181, hf⟩ := rdX_e hf
  refine g_sld hX C (ckD_get k_L_law_11 36 rfl) hi_182 ev_181 ?_
  refine g_i2l C (ckD_get k_L_law_11 37 rfl) ?_
  refine g_bipush (v := (32 : Int32)) C (ckD_get k_L_law_11 38 rfl) (by decide) ?_
  refine g_lshl C (ckD_get k_L_law_11 39 rfl) ?_
  refine g_aload_n 0 C (ckD_get k_L_law_12 0 rfl) rfl rfl ?_
  refine g_iload 4 C (ckD_get k_L_law_12 1 rfl) rfl ?_
  refine g_iconst (v := (3 : Int32)) C (ckD_get k_L_law_12 2 rfl) (by decide) ?_
  refine g_iadd C (ckD_get k_L_law_12 3 rfl) ?_
  obtain ⟨v_183, hi_184, ev_183, hf⟩ := rdX_e hf
  refine g_sld hX C (ckD_get k_L_law_12 4 rfl) hi_184 ev_183 ?_
  refine g_i2l C (ckD_get k_L_law_12 5 rfl) ?_
  refine g_ldc2 C (ckD_get k_L_law_12 6 rfl) q1543 ?_
  refine g_land C (ckD_get k_L_law_12 7 rfl) ?_
  refine g_lor C (ckD_get k_L_law_12 8 rfl) ?_
  refine g_aload_n 0 C (ckD_get k_L_law_12 9 rfl) rfl rfl ?_
  refine g_iload 4 C (ckD_get k_L_law_12 10 rfl) rfl ?_
  refine g_iconst (v := (4 : Int32)) C (ckD_get k_L_law_12 11 rfl) (by decide) ?_
  refine g_iadd C (ckD_get k_L_law_12 12 rfl) ?_
  obtain ⟨v_185, hi_186, ev_185, hf⟩ := rdX_e hf
  refine g_sld hX C (ckD_get k_L_law_12 13 rfl) hi_186 ev_185 ?_
  refine g_i2l C (ckD_get k_L_law_12 14 rfl) ?_
  refine g_bipush (v := (32 : Int32)) C (ckD_get k_L_law_12 15 rfl) (by decide) ?_
  refine g_lshl C (ckD_get k_L_law_12 16 rfl) ?_
  refine g_aload_n 0 C (ckD_get k_L_law_12 17 rfl) rfl rfl ?_
  refine g_iload 4 C (ckD_get k_L_law_12 18 rfl) rfl ?_
  refine g_iconst (v := (5 : Int32)) C (ckD_get k_L_law_12 19 rfl) (by decide) ?_
  refine g_iadd C (ckD_get k_L_law_12 20 rfl) ?_
  obtain ⟨v_187, hi_188, ev_187, hf⟩ := rdX_e hf
  refine g_sld hX C (ckD_get k_L_law_12 21 rfl) hi_188 ev_187 ?_
  refine g_i2l C (ckD_get k_L_law_12 22 rfl) ?_
  refine g_ldc2 C (ckD_get k_L_law_12 23 rfl) q1543 ?_
  refine g_land C (ckD_get k_L_law_12 24 rfl) ?_
  refine g_lor C (ckD_get k_L_law_12 25 rfl) ?_
  refine g_aload_n 0 C (ckD_get k_L_law_12 26 rfl) rfl rfl ?_
  refine g_iload 4 C (ckD_get k_L_law_12 27 rfl) rfl ?_
  refine g_bipush (v := (6 : Int32)) C (ckD_get k_L_law_12 28 rfl) (by decide) ?_
  refine g_iadd C (ckD_get k_L_law_12 29 rfl) ?_
  obtain ⟨v_189, hi_190, ev_189, hf⟩ := rdX_e hf
  refine g_sld hX C (ckD_get k_L_law_12 30 rfl) hi_190 ev_189 ?_
  obtain ⟨r_193, M_192, hr_191, hf⟩ := bd2_e hf
  refine n_cV [.int v_179, .long ((((v_181).toInt64) <<< (((32 : Int32)).toInt64 &&& 63)) ||| (((v_183).toInt64) &&& (4294967295 : Int64))), .long ((((v_185).toInt64) <<< (((32 : Int32)).toInt64 &&& 63)) ||| (((v_187).toInt64) &&& (4294967295 : Int64))), .int v_189] [.int r_178] C (ckD_get k_L_law_12 31 rfl) vk_L_115 (t_X10_tree C.tr _ _ _ _ _ _ hr_191) T69 rfl rfl (Nat.le_of_ble_eq_true rfl) (by decide) ⟨by have := hcs.1; show cA + 0 ≤ _; omega, by have := hcs.2; show cB + 0 ≤ _; omega⟩ rfl ?_
  refine g_icmp_eq C (ckD_get k_L_law_12 32 rfl) (fun c_194 => ?_) (fun c_194 => ?_)
  · have hf := if_t hf c_194
    refine G.wid (cs' := (cA + 8, cB + 48)) (by show cA + 0 ≤ cA + 8; omega) (by show cB + 0 ≤ cB + 48; omega) ?_
    exact hJ_1690 _ hf
  · have hf := if_f hf c_194
    cases hf
def f_law_J904 (i : Int32) (M_203 : Mm) (_ : Unit) : Option (Option (Int32 × Mm)) := f_law_J1690 i M_203
def f_arm_9 (xs : Nat → Int32) (L : Nat) (i : Int32) (M : Mm) : Option (Option (Int32 × Mm)) := rdX L xs (i + (1 : Int32)) fun v_195 => bd2 (f_L_about v_195 M) fun r_197 M_198 => rdX L xs (i + (1 : Int32)) fun v_200 => bd2 (f_X10_about v_200 M_198) fun r_204 M_203 => if (f_X10_thrown M_203) = r_197 then (if r_197 = 0 then rdL 1 M_203 105 (0 : Int32) fun v_207 => if (lg_cmp v_207 ((r_204).toInt64)) = 0 then f_law_J904 i M_203 () else none else f_law_J904 i M_203 ()) else none
set_option maxRecDepth 100000 in
set_option maxHeartbeats 40000000 in
theorem law_arm_9 {K : Kx} {b L : Nat} {xs : Nat → Int32} (C : Cx K cL_law RL 124) (hL : K.2.2.1 = 8) (hX : Sx K b L xs) (i : Int32) (M : Mm) (cA cB : Nat) (hcs : cA + 8 ≤ K.1.R.cells ∧ cB + 48 ≤ K.1.R.slots) (rr : Option (Int32 × Mm)) (hf : f_arm_9 xs L i M = some rr) (hn : ∀ (i' : Int32) (M' : Mm), rr = some (i', M') → G K (cA + 8, cB + 48) 23 [(0, .ref b), (1, .ref (K.2.1.1 + 0)), (2, .ref (K.2.1.1 + 69)), (3, .ref (K.2.1.1 + 105)), (4, .int i')] [] M') : G K (cA, cB) 851 [(0, .ref b), (1, .ref (K.2.1.1 + 0)), (2, .ref (K.2.1.1 + 69)), (3, .ref (K.2.1.1 + 105)), (4, .int i)] [] M := by
  have hL5 : 5 < K.2.2.1 := by rw [hL]; decide
  have hL6 : 6 < K.2.2.1 := by rw [hL]; decide
  have hJ_1690 : ∀ (M' : Mm), f_law_J1690 i M' = some rr → G K (cA + 8, cB + 48) 1690 [(0, .ref b), (1, .ref (K.2.1.1 + 0)), (2, .ref (K.2.1.1 + 69)), (3, .ref (K.2.1.1 + 105)), (4, .int i)] [] M' := fun M' hf => law_end C hL hX i M' cA cB rr hf hn
  unfold f_arm_9 at hf
  refine g_aload_n 1 C (ckD_get k_L_law_12 35 rfl) rfl rfl ?_
  refine g_aload_n 0 C (ckD_get k_L_law_12 36 rfl) rfl rfl ?_
  refine g_iload 4 C (ckD_get k_L_law_12 37 rfl) rfl ?_
  refine g_iconst (v := (1 : Int32)) C (ckD_get k_L_law_12 38 rfl) (by decide) ?_
  refine g_iadd C (ckD_get k_L_law_12 39 rfl) ?_
  obtain ⟨v_195, hi_196, ev_195, hf⟩ := rdX_e hf
  refine g_sld hX C (ckD_get k_L_law_13 0 rfl) hi_196 ev_195 ?_
  refine g_aload_n 3 C (ckD_get k_L_law_13 1 rfl) rfl rfl ?_
  obtain ⟨r_197, M_198, hr_199, hf⟩ := bd2_e hf
  refine g_cSW [.ref (K.2.1.1 + 0), .int v_195, .ref (K.2.1.1 + 105)] [] C (ckD_get k_L_law_13 2 rfl) wk_L_116 (t_L_about C.tr _ _ _ hr_199) rfl rfl (Nat.le_of_ble_eq_true rfl) (by decide) ⟨by have := hcs.1; show cA + 2 ≤ _; omega, by have := hcs.2; show cB + 12 ≤ _; omega⟩ rfl ?_
  refine g_istore (lv' := [(5, _), (0, _), (1, _), (2, _), (3, _), (4, _)]) C (ckD_get k_L_law_13 3 rfl) hL5 rfl ?_
  refine g_aload_n 3 C (ckD_get k_L_law_13 4 rfl) rfl rfl ?_
  refine g_aload_n 1 C (ckD_get k_L_law_13 5 rfl) rfl rfl ?_
  refine g_iload 5 C (ckD_get k_L_law_13 6 rfl) rfl ?_
  refine g_iconst (v := (1 : Int32)) C (ckD_get k_L_law_13 7 rfl) (by decide) ?_
  refine g_iadd C (ckD_get k_L_law_13 8 rfl) ?_
  obtain ⟨v_200, hi_201, ev_200, hf⟩ := rdX_e hf
  refine g_sld hX C (ckD_get k_L_law_13 9 rfl) hi_201 ev_200 ?_
  obtain ⟨r_204, M_203, hr_202, hf⟩ := bd2_e hf
  refine n_cV [.int v_200] [] C (ckD_get k_L_law_13 10 rfl) vk_L_119 (t_X10_about C.tr _ _ _ hr_202) T69 rfl rfl (Nat.le_of_ble_eq_true rfl) (by decide) ⟨by have := hcs.1; show cA + 2 ≤ _; omega, by have := hcs.2; show cB + 12 ≤ _; omega⟩ rfl ?_
  refine g_istore (lv' := [(6, _), (5, _), (0, _), (1, _), (2, _), (3, _), (4, _)]) C (ckD_get k_L_law_13 11 rfl) hL6 rfl ?_
  refine g_aload_n 4 C (ckD_get k_L_law_13 12 rfl) rfl rfl ?_
  refine n_cV [] [] C (ckD_get k_L_law_13 13 rfl) vk_L_86 (t_X10_thrown C.tr _ _ rfl) T69 rfl rfl (Nat.le_of_ble_eq_true rfl) (by decide) ⟨by have := hcs.1; show cA + 2 ≤ _; omega, by have := hcs.2; show cB + 12 ≤ _; omega⟩ rfl ?_
  refine g_iload 1 C (ckD_get k_L_law_13 14 rfl) rfl ?_
  refine g_icmp_eq C (ckD_get k_L_law_13 15 rfl) (fun c_205 => ?_) (fun c_205 => ?_)
  · have hf := if_t hf c_205
    refine g_iload 1 C (ckD_get k_L_law_13 18 rfl) rfl ?_
    have hJ_904 : ∀ (_ : Unit), f_law_J904 i M_203 () = some rr → G K (cA + 2, cB + 12) 904 [(0, .ref b), (1, .ref (K.2.1.1 + 0)), (2, .ref (K.2.1.1 + 69)), (3, .ref (K.2.1.1 + 105)), (4, .int i)] [] M_203 := by
      intro _ hf
      unfold f_law_J904 at hf
      refine g_goto C (ckD_get k_L_law_13 29 rfl) ?_
      refine G.wid (cs' := (cA + 8, cB + 48)) (by show cA + 2 ≤ cA + 8; omega) (by show cB + 12 ≤ cB + 48; omega) ?_
      exact hJ_1690 _ hf
    refine g_if_ne C (ckD_get k_L_law_13 19 rfl) (fun c_206 => ?_) (fun c_206 => ?_)
    · have hf := if_f hf c_206
      refine G.sub [2, 3, 4, 5, 6] rfl ?_
      exact hJ_904 () hf
    · have hf := if_t hf c_206
      refine g_aload_n 5 C (ckD_get k_L_law_13 20 rfl) rfl rfl ?_
      refine g_iconst (v := (0 : Int32)) C (ckD_get k_L_law_13 21 rfl) (by decide) ?_
      obtain ⟨v_207, hi_208, ev_207, hf⟩ := rdL_e hf
      refine n_lald C (ckD_get k_L_law_13 22 rfl) T105 hi_208 ev_207 ?_
      refine g_iload 0 C (ckD_get k_L_law_13 23 rfl) rfl ?_
      refine g_i2l C (ckD_get k_L_law_13 24 rfl) ?_
      refine g_lcmp C (ckD_get k_L_law_13 25 rfl) ?_
      refine g_if_eq C (ckD_get k_L_law_13 26 rfl) (fun c_209 => ?_) (fun c_209 => ?_)
      · have hf := if_t hf c_209
        refine G.sub [2, 3, 4, 5, 6] rfl ?_
        exact hJ_904 () hf
      · have hf := if_f hf c_209
        cases hf
  · have hf := if_f hf c_205
    cases hf
def f_law_J972 (i : Int32) (M_222 : Mm) (_ : Unit) : Option (Option (Int32 × Mm)) := f_law_J1690 i M_222
def f_arm_10 (xs : Nat → Int32) (L : Nat) (i : Int32) (M : Mm) : Option (Option (Int32 × Mm)) := rdX L xs (i + (1 : Int32)) fun v_210 => rdX L xs (i + (2 : Int32)) fun v_212 => bd2 (f_L_at v_210 v_212 M) fun r_214 M_215 => rdX L xs (i + (1 : Int32)) fun v_217 => rdX L xs (i + (2 : Int32)) fun v_219 => bd2 (f_X10_at v_217 v_219 M_215) fun r_223 M_222 => if (f_X10_thrown M_222) = r_214 then (if r_214 = 0 then rdL 1 M_222 105 (0 : Int32) fun v_226 => if (lg_cmp v_226 ((r_223).toInt64)) = 0 then f_law_J972 i M_222 () else none else f_law_J972 i M_222 ()) else none
set_option maxRecDepth 100000 in
set_option maxHeartbeats 40000000 in
theorem law_arm_10 {K : Kx} {b L : Nat} {xs : Nat → Int32} (C : Cx K cL_law RL 124) (hL : K.2.2.1 = 8) (hX : Sx K b L xs) (i : Int32) (M : Mm) (cA cB : Nat) (hcs : cA + 8 ≤ K.1.R.cells ∧ cB + 48 ≤ K.1.R.slots) (rr : Option (Int32 × Mm)) (hf : f_arm_10 xs L i M = some rr) (hn : ∀ (i' : Int32) (M' : Mm), rr = some (i', M') → G K (cA + 8, cB + 48) 23 [(0, .ref b), (1, .ref (K.2.1.1 + 0)), (2, .ref (K.2.1.1 + 69)), (3, .ref (K.2.1.1 + 105)), (4, .int i')] [] M') : G K (cA, cB) 907 [(0, .ref b), (1, .ref (K.2.1.1 + 0)), (2, .ref (K.2.1.1 + 69)), (3, .ref (K.2.1.1 + 105)), (4, .int i)] [] M := by
  have hL5 : 5 < K.2.2.1 := by rw [hL]; decide
  have hL6 : 6 < K.2.2.1 := by rw [hL]; decide
  have hJ_1690 : ∀ (M' : Mm), f_law_J1690 i M' = some rr → G K (cA + 8, cB + 48) 1690 [(0, .ref b), (1, .ref (K.2.1.1 + 0)), (2, .ref (K.2.1.1 + 69)), (3, .ref (K.2.1.1 + 105)), (4, .int i)] [] M' := fun M' hf => law_end C hL hX i M' cA cB rr hf hn
  unfold f_arm_10 at hf
  refine g_aload_n 1 C (ckD_get k_L_law_13 30 rfl) rfl rfl ?_
  refine g_aload_n 0 C (ckD_get k_L_law_13 31 rfl) rfl rfl ?_
  refine g_iload 4 C (ckD_get k_L_law_13 32 rfl) rfl ?_
  refine g_iconst (v := (1 : Int32)) C (ckD_get k_L_law_13 33 rfl) (by decide) ?_
  refine g_iadd C (ckD_get k_L_law_13 34 rfl) ?_
  obtain ⟨v_210, hi_211, ev_210, hf⟩ := rdX_e hf
  refine g_sld hX C (ckD_get k_L_law_13 35 rfl) hi_211 ev_210 ?_
  refine g_aload_n 0 C (ckD_get k_L_law_13 36 rfl) rfl rfl ?_
  refine g_iload 4 C (ckD_get k_L_law_13 37 rfl) rfl ?_
  refine g_iconst (v := (2 : Int32)) C (ckD_get k_L_law_13 38 rfl) (by decide) ?_
  refine g_iadd C (ckD_get k_L_law_13 39 rfl) ?_
  obtain ⟨v_212, hi_213, ev_212, hf⟩ := rdX_e hf
  refine g_sld hX C (ckD_get k_L_law_14 0 rfl) hi_213 ev_212 ?_
  refine g_aload_n 3 C (ckD_get k_L_law_14 1 rfl) rfl rfl ?_
  obtain ⟨r_214, M_215, hr_216, hf⟩ := bd2_e hf
  refine g_cSW [.ref (K.2.1.1 + 0), .int v_210, .int v_212, .ref (K.2.1.1 + 105)] [] C (ckD_get k_L_law_14 2 rfl) wk_L_120 (t_L_at C.tr _ _ _ _ hr_216) rfl rfl (Nat.le_of_ble_eq_true rfl) (by decide) ⟨by have := hcs.1; show cA + 3 ≤ _; omega, by have := hcs.2; show cB + 18 ≤ _; omega⟩ rfl ?_
  refine g_istore (lv' := [(5, _), (0, _), (1, _), (2, _), (3, _), (4, _)]) C (ckD_get k_L_law_14 3 rfl) hL5 rfl ?_
  refine g_aload_n 3 C (ckD_get k_L_law_14 4 rfl) rfl rfl ?_
  refine g_aload_n 1 C (ckD_get k_L_law_14 5 rfl) rfl rfl ?_
  refine g_iload 5 C (ckD_get k_L_law_14 6 rfl) rfl ?_
  refine g_iconst (v := (1 : Int32)) C (ckD_get k_L_law_14 7 rfl) (by decide) ?_
  refine g_iadd C (ckD_get k_L_law_14 8 rfl) ?_
  obtain ⟨v_217, hi_218, ev_217, hf⟩ := rdX_e hf
  refine g_sld hX C (ckD_get k_L_law_14 9 rfl) hi_218 ev_217 ?_
  refine g_aload_n 1 C (ckD_get k_L_law_14 10 rfl) rfl rfl ?_
  refine g_iload 5 C (ckD_get k_L_law_14 11 rfl) rfl ?_
  refine g_iconst (v := (2 : Int32)) C (ckD_get k_L_law_14 12 rfl) (by decide) ?_
  refine g_iadd C (ckD_get k_L_law_14 13 rfl) ?_
  obtain ⟨v_219, hi_220, ev_219, hf⟩ := rdX_e hf
  refine g_sld hX C (ckD_get k_L_law_14 14 rfl) hi_220 ev_219 ?_
  obtain ⟨r_223, M_222, hr_221, hf⟩ := bd2_e hf
  refine n_cV [.int v_217, .int v_219] [] C (ckD_get k_L_law_14 15 rfl) vk_L_122 (t_X10_at C.tr _ _ _ _ hr_221) T69 rfl rfl (Nat.le_of_ble_eq_true rfl) (by decide) ⟨by have := hcs.1; show cA + 3 ≤ _; omega, by have := hcs.2; show cB + 18 ≤ _; omega⟩ rfl ?_
  refine g_istore (lv' := [(6, _), (5, _), (0, _), (1, _), (2, _), (3, _), (4, _)]) C (ckD_get k_L_law_14 16 rfl) hL6 rfl ?_
  refine g_aload_n 4 C (ckD_get k_L_law_14 17 rfl) rfl rfl ?_
  refine n_cV [] [] C (ckD_get k_L_law_14 18 rfl) vk_L_86 (t_X10_thrown C.tr _ _ rfl) T69 rfl rfl (Nat.le_of_ble_eq_true rfl) (by decide) ⟨by have := hcs.1; show cA + 3 ≤ _; omega, by have := hcs.2; show cB + 18 ≤ _; omega⟩ rfl ?_
  refine g_iload 1 C (ckD_get k_L_law_14 19 rfl) rfl ?_
  refine g_icmp_eq C (ckD_get k_L_law_14 20 rfl) (fun c_224 => ?_) (fun c_224 => ?_)
  · have hf := if_t hf c_224
    refine g_iload 1 C (ckD_get k_L_law_14 23 rfl) rfl ?_
    have hJ_972 : ∀ (_ : Unit), f_law_J972 i M_222 () = some rr → G K (cA + 3, cB + 18) 972 [(0, .ref b), (1, .ref (K.2.1.1 + 0)), (2, .ref (K.2.1.1 + 69)), (3, .ref (K.2.1.1 + 105)), (4, .int i)] [] M_222 := by
      intro _ hf
      unfold f_law_J972 at hf
      refine g_goto C (ckD_get k_L_law_14 34 rfl) ?_
      refine G.wid (cs' := (cA + 8, cB + 48)) (by show cA + 3 ≤ cA + 8; omega) (by show cB + 18 ≤ cB + 48; omega) ?_
      exact hJ_1690 _ hf
    refine g_if_ne C (ckD_get k_L_law_14 24 rfl) (fun c_225 => ?_) (fun c_225 => ?_)
    · have hf := if_f hf c_225
      refine G.sub [2, 3, 4, 5, 6] rfl ?_
      exact hJ_972 () hf
    · have hf := if_t hf c_225
      refine g_aload_n 5 C (ckD_get k_L_law_14 25 rfl) rfl rfl ?_
      refine g_iconst (v := (0 : Int32)) C (ckD_get k_L_law_14 26 rfl) (by decide) ?_
      obtain ⟨v_226, hi_227, ev_226, hf⟩ := rdL_e hf
      refine n_lald C (ckD_get k_L_law_14 27 rfl) T105 hi_227 ev_226 ?_
      refine g_iload 0 C (ckD_get k_L_law_14 28 rfl) rfl ?_
      refine g_i2l C (ckD_get k_L_law_14 29 rfl) ?_
      refine g_lcmp C (ckD_get k_L_law_14 30 rfl) ?_
      refine g_if_eq C (ckD_get k_L_law_14 31 rfl) (fun c_228 => ?_) (fun c_228 => ?_)
      · have hf := if_t hf c_228
        refine G.sub [2, 3, 4, 5, 6] rfl ?_
        exact hJ_972 () hf
      · have hf := if_f hf c_228
        cases hf
  · have hf := if_f hf c_224
    cases hf
def f_law_J1027 (i : Int32) (M_237 : Mm) (_ : Unit) : Option (Option (Int32 × Mm)) := f_law_J1690 i M_237
def f_arm_11 (xs : Nat → Int32) (L : Nat) (i : Int32) (M : Mm) : Option (Option (Int32 × Mm)) := rdX L xs (i + (1 : Int32)) fun v_229 => bd2 (f_L_told v_229 M) fun r_231 M_232 => rdX L xs (i + (1 : Int32)) fun v_234 => bd2 (f_X10_told v_234 M_232) fun r_238 M_237 => if (f_X10_thrown M_237) = r_231 then (if r_231 = 0 then rdL 1 M_237 105 (0 : Int32) fun v_241 => if (lg_cmp v_241 r_238) = 0 then f_law_J1027 i M_237 () else none else f_law_J1027 i M_237 ()) else none
set_option maxRecDepth 100000 in
set_option maxHeartbeats 40000000 in
theorem law_arm_11 {K : Kx} {b L : Nat} {xs : Nat → Int32} (C : Cx K cL_law RL 124) (hL : K.2.2.1 = 8) (hX : Sx K b L xs) (i : Int32) (M : Mm) (cA cB : Nat) (hcs : cA + 8 ≤ K.1.R.cells ∧ cB + 48 ≤ K.1.R.slots) (rr : Option (Int32 × Mm)) (hf : f_arm_11 xs L i M = some rr) (hn : ∀ (i' : Int32) (M' : Mm), rr = some (i', M') → G K (cA + 8, cB + 48) 23 [(0, .ref b), (1, .ref (K.2.1.1 + 0)), (2, .ref (K.2.1.1 + 69)), (3, .ref (K.2.1.1 + 105)), (4, .int i')] [] M') : G K (cA, cB) 975 [(0, .ref b), (1, .ref (K.2.1.1 + 0)), (2, .ref (K.2.1.1 + 69)), (3, .ref (K.2.1.1 + 105)), (4, .int i)] [] M := by
  have hL5 : 5 < K.2.2.1 := by rw [hL]; decide
  have hL7 : 7 < K.2.2.1 := by rw [hL]; decide
  have hJ_1690 : ∀ (M' : Mm), f_law_J1690 i M' = some rr → G K (cA + 8, cB + 48) 1690 [(0, .ref b), (1, .ref (K.2.1.1 + 0)), (2, .ref (K.2.1.1 + 69)), (3, .ref (K.2.1.1 + 105)), (4, .int i)] [] M' := fun M' hf => law_end C hL hX i M' cA cB rr hf hn
  unfold f_arm_11 at hf
  refine g_aload_n 1 C (ckD_get k_L_law_14 35 rfl) rfl rfl ?_
  refine g_aload_n 0 C (ckD_get k_L_law_14 36 rfl) rfl rfl ?_
  refine g_iload 4 C (ckD_get k_L_law_14 37 rfl) rfl ?_
  refine g_iconst (v := (1 : Int32)) C (ckD_get k_L_law_14 38 rfl) (by decide) ?_
  refine g_iadd C (ckD_get k_L_law_14 39 rfl) ?_
  obtain ⟨v_229, hi_230, ev_229, hf⟩ := rdX_e hf
  refine g_sld hX C (ckD_get k_L_law_15 0 rfl) hi_230 ev_229 ?_
  refine g_aload_n 3 C (ckD_get k_L_law_15 1 rfl) rfl rfl ?_
  obtain ⟨r_231, M_232, hr_233, hf⟩ := bd2_e hf
  refine g_cSW [.ref (K.2.1.1 + 0), .int v_229, .ref (K.2.1.1 + 105)] [] C (ckD_get k_L_law_15 2 rfl) wk_L_123 (t_L_told C.tr _ _ _ hr_233) rfl rfl (Nat.le_of_ble_eq_true rfl) (by decide) ⟨by have := hcs.1; show cA + 1 ≤ _; omega, by have := hcs.2; show cB + 6 ≤ _; omega⟩ rfl ?_
  refine g_istore (lv' := [(5, _), (0, _), (1, _), (2, _), (3, _), (4, _)]) C (ckD_get k_L_law_15 3 rfl) hL5 rfl ?_
  refine g_aload_n 3 C (ckD_get k_L_law_15 4 rfl) rfl rfl ?_
  refine g_aload_n 1 C (ckD_get k_L_law_15 5 rfl) rfl rfl ?_
  refine g_iload 5 C (ckD_get k_L_law_15 6 rfl) rfl ?_
  refine g_iconst (v := (1 : Int32)) C (ckD_get k_L_law_15 7 rfl) (by decide) ?_
  refine g_iadd C (ckD_get k_L_law_15 8 rfl) ?_
  obtain ⟨v_234, hi_235, ev_234, hf⟩ := rdX_e hf
  refine g_sld hX C (ckD_get k_L_law_15 9 rfl) hi_235 ev_234 ?_
  obtain ⟨r_238, M_237, hr_236, hf⟩ := bd2_e hf
  refine n_cV [.int v_234] [] C (ckD_get k_L_law_15 10 rfl) vk_L_125 (t_X10_told C.tr _ _ _ hr_236) T69 rfl rfl (Nat.le_of_ble_eq_true rfl) (by decide) ⟨by have := hcs.1; show cA + 1 ≤ _; omega, by have := hcs.2; show cB + 6 ≤ _; omega⟩ rfl ?_
  refine g_lstore (lv' := [(6, _), (5, _), (0, _), (1, _), (2, _), (3, _), (4, _)]) C (ckD_get k_L_law_15 11 rfl) hL7 rfl ?_
  refine g_aload_n 4 C (ckD_get k_L_law_15 12 rfl) rfl rfl ?_
  refine n_cV [] [] C (ckD_get k_L_law_15 13 rfl) vk_L_86 (t_X10_thrown C.tr _ _ rfl) T69 rfl rfl (Nat.le_of_ble_eq_true rfl) (by decide) ⟨by have := hcs.1; show cA + 1 ≤ _; omega, by have := hcs.2; show cB + 6 ≤ _; omega⟩ rfl ?_
  refine g_iload 1 C (ckD_get k_L_law_15 14 rfl) rfl ?_
  refine g_icmp_eq C (ckD_get k_L_law_15 15 rfl) (fun c_239 => ?_) (fun c_239 => ?_)
  · have hf := if_t hf c_239
    refine g_iload 1 C (ckD_get k_L_law_15 18 rfl) rfl ?_
    have hJ_1027 : ∀ (_ : Unit), f_law_J1027 i M_237 () = some rr → G K (cA + 1, cB + 6) 1027 [(0, .ref b), (1, .ref (K.2.1.1 + 0)), (2, .ref (K.2.1.1 + 69)), (3, .ref (K.2.1.1 + 105)), (4, .int i)] [] M_237 := by
      intro _ hf
      unfold f_law_J1027 at hf
      refine g_goto C (ckD_get k_L_law_15 28 rfl) ?_
      refine G.wid (cs' := (cA + 8, cB + 48)) (by show cA + 1 ≤ cA + 8; omega) (by show cB + 6 ≤ cB + 48; omega) ?_
      exact hJ_1690 _ hf
    refine g_if_ne C (ckD_get k_L_law_15 19 rfl) (fun c_240 => ?_) (fun c_240 => ?_)
    · have hf := if_f hf c_240
      refine G.sub [2, 3, 4, 5, 6] rfl ?_
      exact hJ_1027 () hf
    · have hf := if_t hf c_240
      refine g_aload_n 5 C (ckD_get k_L_law_15 20 rfl) rfl rfl ?_
      refine g_iconst (v := (0 : Int32)) C (ckD_get k_L_law_15 21 rfl) (by decide) ?_
      obtain ⟨v_241, hi_242, ev_241, hf⟩ := rdL_e hf
      refine n_lald C (ckD_get k_L_law_15 22 rfl) T105 hi_242 ev_241 ?_
      refine g_lload 0 C (ckD_get k_L_law_15 23 rfl) rfl ?_
      refine g_lcmp C (ckD_get k_L_law_15 24 rfl) ?_
      refine g_if_eq C (ckD_get k_L_law_15 25 rfl) (fun c_243 => ?_) (fun c_243 => ?_)
      · have hf := if_t hf c_243
        refine G.sub [2, 3, 4, 5, 6] rfl ?_
        exact hJ_1027 () hf
      · have hf := if_f hf c_243
        cases hf
  · have hf := if_f hf c_239
    cases hf
def f_law_J1095 (i : Int32) (M_256 : Mm) (_ : Unit) : Option (Option (Int32 × Mm)) := f_law_J1690 i M_256
def f_arm_12 (xs : Nat → Int32) (L : Nat) (i : Int32) (M : Mm) : Option (Option (Int32 × Mm)) := rdX L xs (i + (1 : Int32)) fun v_244 => rdX L xs (i + (2 : Int32)) fun v_246 => bd2 (f_L_slack v_244 v_246 M) fun r_248 M_249 => rdX L xs (i + (1 : Int32)) fun v_251 => rdX L xs (i + (2 : Int32)) fun v_253 => bd2 (f_X10_slack v_251 v_253 M_249) fun r_257 M_256 => if (f_X10_thrown M_256) = r_248 then (if r_248 = 0 then rdL 1 M_256 105 (0 : Int32) fun v_260 => if (lg_cmp v_260 ((r_257).toInt64)) = 0 then f_law_J1095 i M_256 () else none else f_law_J1095 i M_256 ()) else none
set_option maxRecDepth 100000 in
set_option maxHeartbeats 40000000 in
theorem law_arm_12 {K : Kx} {b L : Nat} {xs : Nat → Int32} (C : Cx K cL_law RL 124) (hL : K.2.2.1 = 8) (hX : Sx K b L xs) (i : Int32) (M : Mm) (cA cB : Nat) (hcs : cA + 8 ≤ K.1.R.cells ∧ cB + 48 ≤ K.1.R.slots) (rr : Option (Int32 × Mm)) (hf : f_arm_12 xs L i M = some rr) (hn : ∀ (i' : Int32) (M' : Mm), rr = some (i', M') → G K (cA + 8, cB + 48) 23 [(0, .ref b), (1, .ref (K.2.1.1 + 0)), (2, .ref (K.2.1.1 + 69)), (3, .ref (K.2.1.1 + 105)), (4, .int i')] [] M') : G K (cA, cB) 1030 [(0, .ref b), (1, .ref (K.2.1.1 + 0)), (2, .ref (K.2.1.1 + 69)), (3, .ref (K.2.1.1 + 105)), (4, .int i)] [] M := by
  have hL5 : 5 < K.2.2.1 := by rw [hL]; decide
  have hL6 : 6 < K.2.2.1 := by rw [hL]; decide
  have hJ_1690 : ∀ (M' : Mm), f_law_J1690 i M' = some rr → G K (cA + 8, cB + 48) 1690 [(0, .ref b), (1, .ref (K.2.1.1 + 0)), (2, .ref (K.2.1.1 + 69)), (3, .ref (K.2.1.1 + 105)), (4, .int i)] [] M' := fun M' hf => law_end C hL hX i M' cA cB rr hf hn
  unfold f_arm_12 at hf
  refine g_aload_n 1 C (ckD_get k_L_law_15 29 rfl) rfl rfl ?_
  refine g_aload_n 0 C (ckD_get k_L_law_15 30 rfl) rfl rfl ?_
  refine g_iload 4 C (ckD_get k_L_law_15 31 rfl) rfl ?_
  refine g_iconst (v := (1 : Int32)) C (ckD_get k_L_law_15 32 rfl) (by decide) ?_
  refine g_iadd C (ckD_get k_L_law_15 33 rfl) ?_
  obtain ⟨v_244, hi_245, ev_244, hf⟩ := rdX_e hf
  refine g_sld hX C (ckD_get k_L_law_15 34 rfl) hi_245 ev_244 ?_
  refine g_aload_n 0 C (ckD_get k_L_law_15 35 rfl) rfl rfl ?_
  refine g_iload 4 C (ckD_get k_L_law_15 36 rfl) rfl ?_
  refine g_iconst (v := (2 : Int32)) C (ckD_get k_L_law_15 37 rfl) (by decide) ?_
  refine g_iadd C (ckD_get k_L_law_15 38 rfl) ?_
  obtain ⟨v_246, hi_247, ev_246, hf⟩ := rdX_e hf
  refine g_sld hX C (ckD_get k_L_law_15 39 rfl) hi_247 ev_246 ?_
  refine g_aload_n 3 C (ckD_get k_L_law_16 0 rfl) rfl rfl ?_
  obtain ⟨r_248, M_249, hr_250, hf⟩ := bd2_e hf
  refine g_cSW [.ref (K.2.1.1 + 0), .int v_244, .int v_246, .ref (K.2.1.1 + 105)] [] C (ckD_get k_L_law_16 1 rfl) wk_L_126 (t_L_slack C.tr _ _ _ _ hr_250) rfl rfl (Nat.le_of_ble_eq_true rfl) (by decide) ⟨by have := hcs.1; show cA + 3 ≤ _; omega, by have := hcs.2; show cB + 18 ≤ _; omega⟩ rfl ?_
  refine g_istore (lv' := [(5, _), (0, _), (1, _), (2, _), (3, _), (4, _)]) C (ckD_get k_L_law_16 2 rfl) hL5 rfl ?_
  refine g_aload_n 3 C (ckD_get k_L_law_16 3 rfl) rfl rfl ?_
  refine g_aload_n 1 C (ckD_get k_L_law_16 4 rfl) rfl rfl ?_
  refine g_iload 5 C (ckD_get k_L_law_16 5 rfl) rfl ?_
  refine g_iconst (v := (1 : Int32)) C (ckD_get k_L_law_16 6 rfl) (by decide) ?_
  refine g_iadd C (ckD_get k_L_law_16 7 rfl) ?_
  obtain ⟨v_251, hi_252, ev_251, hf⟩ := rdX_e hf
  refine g_sld hX C (ckD_get k_L_law_16 8 rfl) hi_252 ev_251 ?_
  refine g_aload_n 1 C (ckD_get k_L_law_16 9 rfl) rfl rfl ?_
  refine g_iload 5 C (ckD_get k_L_law_16 10 rfl) rfl ?_
  refine g_iconst (v := (2 : Int32)) C (ckD_get k_L_law_16 11 rfl) (by decide) ?_
  refine g_iadd C (ckD_get k_L_law_16 12 rfl) ?_
  obtain ⟨v_253, hi_254, ev_253, hf⟩ := rdX_e hf
  refine g_sld hX C (ckD_get k_L_law_16 13 rfl) hi_254 ev_253 ?_
  obtain ⟨r_257, M_256, hr_255, hf⟩ := bd2_e hf
  refine n_cV [.int v_251, .int v_253] [] C (ckD_get k_L_law_16 14 rfl) vk_L_128 (t_X10_slack C.tr _ _ _ _ hr_255) T69 rfl rfl (Nat.le_of_ble_eq_true rfl) (by decide) ⟨by have := hcs.1; show cA + 3 ≤ _; omega, by have := hcs.2; show cB + 18 ≤ _; omega⟩ rfl ?_
  refine g_istore (lv' := [(6, _), (5, _), (0, _), (1, _), (2, _), (3, _), (4, _)]) C (ckD_get k_L_law_16 15 rfl) hL6 rfl ?_
  refine g_aload_n 4 C (ckD_get k_L_law_16 16 rfl) rfl rfl ?_
  refine n_cV [] [] C (ckD_get k_L_law_16 17 rfl) vk_L_86 (t_X10_thrown C.tr _ _ rfl) T69 rfl rfl (Nat.le_of_ble_eq_true rfl) (by decide) ⟨by have := hcs.1; show cA + 3 ≤ _; omega, by have := hcs.2; show cB + 18 ≤ _; omega⟩ rfl ?_
  refine g_iload 1 C (ckD_get k_L_law_16 18 rfl) rfl ?_
  refine g_icmp_eq C (ckD_get k_L_law_16 19 rfl) (fun c_258 => ?_) (fun c_258 => ?_)
  · have hf := if_t hf c_258
    refine g_iload 1 C (ckD_get k_L_law_16 22 rfl) rfl ?_
    have hJ_1095 : ∀ (_ : Unit), f_law_J1095 i M_256 () = some rr → G K (cA + 3, cB + 18) 1095 [(0, .ref b), (1, .ref (K.2.1.1 + 0)), (2, .ref (K.2.1.1 + 69)), (3, .ref (K.2.1.1 + 105)), (4, .int i)] [] M_256 := by
      intro _ hf
      unfold f_law_J1095 at hf
      refine g_goto C (ckD_get k_L_law_16 33 rfl) ?_
      refine G.wid (cs' := (cA + 8, cB + 48)) (by show cA + 3 ≤ cA + 8; omega) (by show cB + 18 ≤ cB + 48; omega) ?_
      exact hJ_1690 _ hf
    refine g_if_ne C (ckD_get k_L_law_16 23 rfl) (fun c_259 => ?_) (fun c_259 => ?_)
    · have hf := if_f hf c_259
      refine G.sub [2, 3, 4, 5, 6] rfl ?_
      exact hJ_1095 () hf
    · have hf := if_t hf c_259
      refine g_aload_n 5 C (ckD_get k_L_law_16 24 rfl) rfl rfl ?_
      refine g_iconst (v := (0 : Int32)) C (ckD_get k_L_law_16 25 rfl) (by decide) ?_
      obtain ⟨v_260, hi_261, ev_260, hf⟩ := rdL_e hf
      refine n_lald C (ckD_get k_L_law_16 26 rfl) T105 hi_261 ev_260 ?_
      refine g_iload 0 C (ckD_get k_L_law_16 27 rfl) rfl ?_
      refine g_i2l C (ckD_get k_L_law_16 28 rfl) ?_
      refine g_lcmp C (ckD_get k_L_law_16 29 rfl) ?_
      refine g_if_eq C (ckD_get k_L_law_16 30 rfl) (fun c_262 => ?_) (fun c_262 => ?_)
      · have hf := if_t hf c_262
        refine G.sub [2, 3, 4, 5, 6] rfl ?_
        exact hJ_1095 () hf
      · have hf := if_f hf c_262
        cases hf
  · have hf := if_f hf c_258
    cases hf
def f_law_J1139 (i : Int32) (M_267 : Mm) (_ : Unit) : Option (Option (Int32 × Mm)) := f_law_J1690 i M_267
def f_arm_13 (xs : Nat → Int32) (L : Nat) (i : Int32) (M : Mm) : Option (Option (Int32 × Mm)) := bd2 (f_L_wires M) fun r_263 M_264 => bd2 (f_X10_wires M_264) fun r_268 M_267 => if (f_X10_thrown M_267) = r_263 then (if r_263 = 0 then rdL 1 M_267 105 (0 : Int32) fun v_271 => if (lg_cmp v_271 ((r_268).toInt64)) = 0 then f_law_J1139 i M_267 () else none else f_law_J1139 i M_267 ()) else none
set_option maxRecDepth 100000 in
set_option maxHeartbeats 40000000 in
theorem law_arm_13 {K : Kx} {b L : Nat} {xs : Nat → Int32} (C : Cx K cL_law RL 124) (hL : K.2.2.1 = 8) (hX : Sx K b L xs) (i : Int32) (M : Mm) (cA cB : Nat) (hcs : cA + 8 ≤ K.1.R.cells ∧ cB + 48 ≤ K.1.R.slots) (rr : Option (Int32 × Mm)) (hf : f_arm_13 xs L i M = some rr) (hn : ∀ (i' : Int32) (M' : Mm), rr = some (i', M') → G K (cA + 8, cB + 48) 23 [(0, .ref b), (1, .ref (K.2.1.1 + 0)), (2, .ref (K.2.1.1 + 69)), (3, .ref (K.2.1.1 + 105)), (4, .int i')] [] M') : G K (cA, cB) 1098 [(0, .ref b), (1, .ref (K.2.1.1 + 0)), (2, .ref (K.2.1.1 + 69)), (3, .ref (K.2.1.1 + 105)), (4, .int i)] [] M := by
  have hL5 : 5 < K.2.2.1 := by rw [hL]; decide
  have hL6 : 6 < K.2.2.1 := by rw [hL]; decide
  have hJ_1690 : ∀ (M' : Mm), f_law_J1690 i M' = some rr → G K (cA + 8, cB + 48) 1690 [(0, .ref b), (1, .ref (K.2.1.1 + 0)), (2, .ref (K.2.1.1 + 69)), (3, .ref (K.2.1.1 + 105)), (4, .int i)] [] M' := fun M' hf => law_end C hL hX i M' cA cB rr hf hn
  unfold f_arm_13 at hf
  refine g_aload_n 1 C (ckD_get k_L_law_16 34 rfl) rfl rfl ?_
  refine g_aload_n 3 C (ckD_get k_L_law_16 35 rfl) rfl rfl ?_
  obtain ⟨r_263, M_264, hr_265, hf⟩ := bd2_e hf
  refine g_cSW [.ref (K.2.1.1 + 0), .ref (K.2.1.1 + 105)] [] C (ckD_get k_L_law_16 36 rfl) wk_L_129 (t_L_wires C.tr  _ _ hr_265) rfl rfl (Nat.le_of_ble_eq_true rfl) (by decide) ⟨by have := hcs.1; show cA + 1 ≤ _; omega, by have := hcs.2; show cB + 6 ≤ _; omega⟩ rfl ?_
  refine g_istore (lv' := [(5, _), (0, _), (1, _), (2, _), (3, _), (4, _)]) C (ckD_get k_L_law_16 37 rfl) hL5 rfl ?_
  refine g_aload_n 3 C (ckD_get k_L_law_16 38 rfl) rfl rfl ?_
  obtain ⟨r_268, M_267, hr_266, hf⟩ := bd2_e hf
  refine n_cV [] [] C (ckD_get k_L_law_16 39 rfl) vk_L_132 (t_X10_wires C.tr _ _ hr_266) T69 rfl rfl (Nat.le_of_ble_eq_true rfl) (by decide) ⟨by have := hcs.1; show cA + 1 ≤ _; omega, by have := hcs.2; show cB + 6 ≤ _; omega⟩ rfl ?_
  refine g_istore (lv' := [(6, _), (5, _), (0, _), (1, _), (2, _), (3, _), (4, _)]) C (ckD_get k_L_law_17 0 rfl) hL6 rfl ?_
  refine g_aload_n 4 C (ckD_get k_L_law_17 1 rfl) rfl rfl ?_
  refine n_cV [] [] C (ckD_get k_L_law_17 2 rfl) vk_L_86 (t_X10_thrown C.tr _ _ rfl) T69 rfl rfl (Nat.le_of_ble_eq_true rfl) (by decide) ⟨by have := hcs.1; show cA + 1 ≤ _; omega, by have := hcs.2; show cB + 6 ≤ _; omega⟩ rfl ?_
  refine g_iload 1 C (ckD_get k_L_law_17 3 rfl) rfl ?_
  refine g_icmp_eq C (ckD_get k_L_law_17 4 rfl) (fun c_269 => ?_) (fun c_269 => ?_)
  · have hf := if_t hf c_269
    refine g_iload 1 C (ckD_get k_L_law_17 7 rfl) rfl ?_
    have hJ_1139 : ∀ (_ : Unit), f_law_J1139 i M_267 () = some rr → G K (cA + 1, cB + 6) 1139 [(0, .ref b), (1, .ref (K.2.1.1 + 0)), (2, .ref (K.2.1.1 + 69)), (3, .ref (K.2.1.1 + 105)), (4, .int i)] [] M_267 := by
      intro _ hf
      unfold f_law_J1139 at hf
      refine g_goto C (ckD_get k_L_law_17 18 rfl) ?_
      refine G.wid (cs' := (cA + 8, cB + 48)) (by show cA + 1 ≤ cA + 8; omega) (by show cB + 6 ≤ cB + 48; omega) ?_
      exact hJ_1690 _ hf
    refine g_if_ne C (ckD_get k_L_law_17 8 rfl) (fun c_270 => ?_) (fun c_270 => ?_)
    · have hf := if_f hf c_270
      refine G.sub [2, 3, 4, 5, 6] rfl ?_
      exact hJ_1139 () hf
    · have hf := if_t hf c_270
      refine g_aload_n 5 C (ckD_get k_L_law_17 9 rfl) rfl rfl ?_
      refine g_iconst (v := (0 : Int32)) C (ckD_get k_L_law_17 10 rfl) (by decide) ?_
      obtain ⟨v_271, hi_272, ev_271, hf⟩ := rdL_e hf
      refine n_lald C (ckD_get k_L_law_17 11 rfl) T105 hi_272 ev_271 ?_
      refine g_iload 0 C (ckD_get k_L_law_17 12 rfl) rfl ?_
      refine g_i2l C (ckD_get k_L_law_17 13 rfl) ?_
      refine g_lcmp C (ckD_get k_L_law_17 14 rfl) ?_
      refine g_if_eq C (ckD_get k_L_law_17 15 rfl) (fun c_273 => ?_) (fun c_273 => ?_)
      · have hf := if_t hf c_273
        refine G.sub [2, 3, 4, 5, 6] rfl ?_
        exact hJ_1139 () hf
      · have hf := if_f hf c_273
        cases hf
  · have hf := if_f hf c_269
    cases hf
def f_arm_14 (xs : Nat → Int32) (L : Nat) (i : Int32) (M : Mm) : Option (Option (Int32 × Mm)) := bd2 (f_X9_from M) fun r_276 M_275 => bd2 (f_X10_from M_275) fun r_279 M_278 => if r_276 = r_279 then f_law_J1690 i M_278 else none
set_option maxRecDepth 100000 in
set_option maxHeartbeats 40000000 in
theorem law_arm_14 {K : Kx} {b L : Nat} {xs : Nat → Int32} (C : Cx K cL_law RL 124) (hL : K.2.2.1 = 8) (hX : Sx K b L xs) (i : Int32) (M : Mm) (cA cB : Nat) (hcs : cA + 8 ≤ K.1.R.cells ∧ cB + 48 ≤ K.1.R.slots) (rr : Option (Int32 × Mm)) (hf : f_arm_14 xs L i M = some rr) (hn : ∀ (i' : Int32) (M' : Mm), rr = some (i', M') → G K (cA + 8, cB + 48) 23 [(0, .ref b), (1, .ref (K.2.1.1 + 0)), (2, .ref (K.2.1.1 + 69)), (3, .ref (K.2.1.1 + 105)), (4, .int i')] [] M') : G K (cA, cB) 1142 [(0, .ref b), (1, .ref (K.2.1.1 + 0)), (2, .ref (K.2.1.1 + 69)), (3, .ref (K.2.1.1 + 105)), (4, .int i)] [] M := by
  have hJ_1690 : ∀ (M' : Mm), f_law_J1690 i M' = some rr → G K (cA + 8, cB + 48) 1690 [(0, .ref b), (1, .ref (K.2.1.1 + 0)), (2, .ref (K.2.1.1 + 69)), (3, .ref (K.2.1.1 + 105)), (4, .int i)] [] M' := fun M' hf => law_end C hL hX i M' cA cB rr hf hn
  unfold f_arm_14 at hf
  refine g_aload_n 1 C (ckD_get k_L_law_17 19 rfl) rfl rfl ?_
  obtain ⟨r_276, M_275, hr_274, hf⟩ := bd2_e hf
  refine n_cV [] [] C (ckD_get k_L_law_17 20 rfl) vk_L_133 (t_X9_from C.tr _ _ hr_274) T0 rfl rfl (Nat.le_of_ble_eq_true rfl) (by decide) ⟨by have := hcs.1; show cA + 0 ≤ _; omega, by have := hcs.2; show cB + 0 ≤ _; omega⟩ rfl ?_
  refine g_aload_n 2 C (ckD_get k_L_law_17 21 rfl) rfl rfl ?_
  obtain ⟨r_279, M_278, hr_277, hf⟩ := bd2_e hf
  refine n_cV [] [.int r_276] C (ckD_get k_L_law_17 22 rfl) vk_L_136 (t_X10_from C.tr _ _ hr_277) T69 rfl rfl (Nat.le_of_ble_eq_true rfl) (by decide) ⟨by have := hcs.1; show cA + 0 ≤ _; omega, by have := hcs.2; show cB + 0 ≤ _; omega⟩ rfl ?_
  refine g_icmp_eq C (ckD_get k_L_law_17 23 rfl) (fun c_280 => ?_) (fun c_280 => ?_)
  · have hf := if_t hf c_280
    refine G.wid (cs' := (cA + 8, cB + 48)) (by show cA + 0 ≤ cA + 8; omega) (by show cB + 0 ≤ cB + 48; omega) ?_
    exact hJ_1690 _ hf
  · have hf := if_f hf c_280
    cases hf
def f_law_J1203 (i : Int32) (M_285 : Mm) (_ : Unit) : Option (Option (Int32 × Mm)) := f_law_J1690 i M_285
def f_law_J1197 (i : Int32) (M_285 : Mm) (v_289 : Int64) (s_291 : Int64) : Option (Option (Int32 × Mm)) := if (lg_cmp v_289 s_291) = 0 then f_law_J1203 i M_285 () else none
def f_arm_15 (xs : Nat → Int32) (L : Nat) (i : Int32) (M : Mm) : Option (Option (Int32 × Mm)) := bd2 (f_L_isCut M) fun r_281 M_282 => bd2 (f_X10_isCut M_282) fun r_286 M_285 => if (f_X10_thrown M_285) = r_281 then (if r_281 = 0 then rdL 1 M_285 105 (0 : Int32) fun v_289 => if r_286 = 0 then f_law_J1197 i M_285 v_289 (0 : Int64) else f_law_J1197 i M_285 v_289 (1 : Int64) else f_law_J1203 i M_285 ()) else none
set_option maxRecDepth 100000 in
set_option maxHeartbeats 40000000 in
theorem law_arm_15 {K : Kx} {b L : Nat} {xs : Nat → Int32} (C : Cx K cL_law RL 124) (hL : K.2.2.1 = 8) (hX : Sx K b L xs) (i : Int32) (M : Mm) (cA cB : Nat) (hcs : cA + 8 ≤ K.1.R.cells ∧ cB + 48 ≤ K.1.R.slots) (rr : Option (Int32 × Mm)) (hf : f_arm_15 xs L i M = some rr) (hn : ∀ (i' : Int32) (M' : Mm), rr = some (i', M') → G K (cA + 8, cB + 48) 23 [(0, .ref b), (1, .ref (K.2.1.1 + 0)), (2, .ref (K.2.1.1 + 69)), (3, .ref (K.2.1.1 + 105)), (4, .int i')] [] M') : G K (cA, cB) 1155 [(0, .ref b), (1, .ref (K.2.1.1 + 0)), (2, .ref (K.2.1.1 + 69)), (3, .ref (K.2.1.1 + 105)), (4, .int i)] [] M := by
  have hL5 : 5 < K.2.2.1 := by rw [hL]; decide
  have hL6 : 6 < K.2.2.1 := by rw [hL]; decide
  have hJ_1690 : ∀ (M' : Mm), f_law_J1690 i M' = some rr → G K (cA + 8, cB + 48) 1690 [(0, .ref b), (1, .ref (K.2.1.1 + 0)), (2, .ref (K.2.1.1 + 69)), (3, .ref (K.2.1.1 + 105)), (4, .int i)] [] M' := fun M' hf => law_end C hL hX i M' cA cB rr hf hn
  unfold f_arm_15 at hf
  refine g_aload_n 1 C (ckD_get k_L_law_17 26 rfl) rfl rfl ?_
  refine g_aload_n 3 C (ckD_get k_L_law_17 27 rfl) rfl rfl ?_
  obtain ⟨r_281, M_282, hr_283, hf⟩ := bd2_e hf
  refine g_cSW [.ref (K.2.1.1 + 0), .ref (K.2.1.1 + 105)] [] C (ckD_get k_L_law_17 28 rfl) wk_L_137 (t_L_isCut C.tr  _ _ hr_283) rfl rfl (Nat.le_of_ble_eq_true rfl) (by decide) ⟨by have := hcs.1; show cA + 1 ≤ _; omega, by have := hcs.2; show cB + 6 ≤ _; omega⟩ rfl ?_
  refine g_istore (lv' := [(5, _), (0, _), (1, _), (2, _), (3, _), (4, _)]) C (ckD_get k_L_law_17 29 rfl) hL5 rfl ?_
  refine g_aload_n 3 C (ckD_get k_L_law_17 30 rfl) rfl rfl ?_
  obtain ⟨r_286, M_285, hr_284, hf⟩ := bd2_e hf
  refine n_cV [] [] C (ckD_get k_L_law_17 31 rfl) vk_L_139 (t_X10_isCut C.tr _ _ hr_284) T69 rfl rfl (Nat.le_of_ble_eq_true rfl) (by decide) ⟨by have := hcs.1; show cA + 1 ≤ _; omega, by have := hcs.2; show cB + 6 ≤ _; omega⟩ rfl ?_
  refine g_istore (lv' := [(6, _), (5, _), (0, _), (1, _), (2, _), (3, _), (4, _)]) C (ckD_get k_L_law_17 32 rfl) hL6 rfl ?_
  refine g_aload_n 4 C (ckD_get k_L_law_17 33 rfl) rfl rfl ?_
  refine n_cV [] [] C (ckD_get k_L_law_17 34 rfl) vk_L_86 (t_X10_thrown C.tr _ _ rfl) T69 rfl rfl (Nat.le_of_ble_eq_true rfl) (by decide) ⟨by have := hcs.1; show cA + 1 ≤ _; omega, by have := hcs.2; show cB + 6 ≤ _; omega⟩ rfl ?_
  refine g_iload 1 C (ckD_get k_L_law_17 35 rfl) rfl ?_
  refine g_icmp_eq C (ckD_get k_L_law_17 36 rfl) (fun c_287 => ?_) (fun c_287 => ?_)
  · have hf := if_t hf c_287
    refine g_iload 1 C (ckD_get k_L_law_17 39 rfl) rfl ?_
    have hJ_1203 : ∀ (_ : Unit), f_law_J1203 i M_285 () = some rr → G K (cA + 1, cB + 6) 1203 [(0, .ref b), (1, .ref (K.2.1.1 + 0)), (2, .ref (K.2.1.1 + 69)), (3, .ref (K.2.1.1 + 105)), (4, .int i)] [] M_285 := by
      intro _ hf
      unfold f_law_J1203 at hf
      refine g_goto C (ckD_get k_L_law_18 13 rfl) ?_
      refine G.wid (cs' := (cA + 8, cB + 48)) (by show cA + 1 ≤ cA + 8; omega) (by show cB + 6 ≤ cB + 48; omega) ?_
      exact hJ_1690 _ hf
    refine g_if_ne C (ckD_get k_L_law_18 0 rfl) (fun c_288 => ?_) (fun c_288 => ?_)
    · have hf := if_f hf c_288
      refine G.sub [2, 3, 4, 5, 6] rfl ?_
      exact hJ_1203 () hf
    · have hf := if_t hf c_288
      refine g_aload_n 5 C (ckD_get k_L_law_18 1 rfl) rfl rfl ?_
      refine g_iconst (v := (0 : Int32)) C (ckD_get k_L_law_18 2 rfl) (by decide) ?_
      obtain ⟨v_289, hi_290, ev_289, hf⟩ := rdL_e hf
      refine n_lald C (ckD_get k_L_law_18 3 rfl) T105 hi_290 ev_289 ?_
      refine g_iload 0 C (ckD_get k_L_law_18 4 rfl) rfl ?_
      have hJ_1197 : ∀ (s_291 : Int64), f_law_J1197 i M_285 v_289 s_291 = some rr → G K (cA + 1, cB + 6) 1197 [(0, .ref b), (1, .ref (K.2.1.1 + 0)), (2, .ref (K.2.1.1 + 69)), (3, .ref (K.2.1.1 + 105)), (4, .int i)] [.long s_291, .long v_289] M_285 := by
        intro s_291 hf
        unfold f_law_J1197 at hf
        refine g_lcmp C (ckD_get k_L_law_18 9 rfl) ?_
        refine g_if_eq C (ckD_get k_L_law_18 10 rfl) (fun c_292 => ?_) (fun c_292 => ?_)
        · have hf := if_t hf c_292
          exact hJ_1203 () hf
        · have hf := if_f hf c_292
          cases hf
      refine g_if_eq C (ckD_get k_L_law_18 5 rfl) (fun c_293 => ?_) (fun c_293 => ?_)
      · have hf := if_t hf c_293
        refine g_lconst (v := (0 : Int64)) C (ckD_get k_L_law_18 8 rfl) (by decide) ?_
        refine G.sub [2, 3, 4, 5, 6] rfl ?_
        exact hJ_1197 _ hf
      · have hf := if_f hf c_293
        refine g_lconst (v := (1 : Int64)) C (ckD_get k_L_law_18 6 rfl) (by decide) ?_
        refine g_goto C (ckD_get k_L_law_18 7 rfl) ?_
        refine G.sub [2, 3, 4, 5, 6] rfl ?_
        exact hJ_1197 _ hf
  · have hf := if_f hf c_287
    cases hf
def f_law_J1247 (i : Int32) (M_298 : Mm) (_ : Unit) : Option (Option (Int32 × Mm)) := f_law_J1690 i M_298
def f_arm_16 (xs : Nat → Int32) (L : Nat) (i : Int32) (M : Mm) : Option (Option (Int32 × Mm)) := bd2 (f_L_normal M) fun r_294 M_295 => bd2 (f_X10_normal M_295) fun r_299 M_298 => if (f_X10_thrown M_298) = r_294 then (if r_294 = 0 then rdL 1 M_298 105 (0 : Int32) fun v_302 => if (lg_cmp v_302 ((r_299).toInt64)) = 0 then f_law_J1247 i M_298 () else none else f_law_J1247 i M_298 ()) else none
set_option maxRecDepth 100000 in
set_option maxHeartbeats 40000000 in
theorem law_arm_16 {K : Kx} {b L : Nat} {xs : Nat → Int32} (C : Cx K cL_law RL 124) (hL : K.2.2.1 = 8) (hX : Sx K b L xs) (i : Int32) (M : Mm) (cA cB : Nat) (hcs : cA + 8 ≤ K.1.R.cells ∧ cB + 48 ≤ K.1.R.slots) (rr : Option (Int32 × Mm)) (hf : f_arm_16 xs L i M = some rr) (hn : ∀ (i' : Int32) (M' : Mm), rr = some (i', M') → G K (cA + 8, cB + 48) 23 [(0, .ref b), (1, .ref (K.2.1.1 + 0)), (2, .ref (K.2.1.1 + 69)), (3, .ref (K.2.1.1 + 105)), (4, .int i')] [] M') : G K (cA, cB) 1206 [(0, .ref b), (1, .ref (K.2.1.1 + 0)), (2, .ref (K.2.1.1 + 69)), (3, .ref (K.2.1.1 + 105)), (4, .int i)] [] M := by
  have hL5 : 5 < K.2.2.1 := by rw [hL]; decide
  have hL6 : 6 < K.2.2.1 := by rw [hL]; decide
  have hJ_1690 : ∀ (M' : Mm), f_law_J1690 i M' = some rr → G K (cA + 8, cB + 48) 1690 [(0, .ref b), (1, .ref (K.2.1.1 + 0)), (2, .ref (K.2.1.1 + 69)), (3, .ref (K.2.1.1 + 105)), (4, .int i)] [] M' := fun M' hf => law_end C hL hX i M' cA cB rr hf hn
  unfold f_arm_16 at hf
  refine g_aload_n 1 C (ckD_get k_L_law_18 14 rfl) rfl rfl ?_
  refine g_aload_n 3 C (ckD_get k_L_law_18 15 rfl) rfl rfl ?_
  obtain ⟨r_294, M_295, hr_296, hf⟩ := bd2_e hf
  refine g_cSW [.ref (K.2.1.1 + 0), .ref (K.2.1.1 + 105)] [] C (ckD_get k_L_law_18 16 rfl) wk_L_140 (t_L_normal C.tr  _ _ hr_296) rfl rfl (Nat.le_of_ble_eq_true rfl) (by decide) ⟨by have := hcs.1; show cA + 1 ≤ _; omega, by have := hcs.2; show cB + 6 ≤ _; omega⟩ rfl ?_
  refine g_istore (lv' := [(5, _), (0, _), (1, _), (2, _), (3, _), (4, _)]) C (ckD_get k_L_law_18 17 rfl) hL5 rfl ?_
  refine g_aload_n 3 C (ckD_get k_L_law_18 18 rfl) rfl rfl ?_
  obtain ⟨r_299, M_298, hr_297, hf⟩ := bd2_e hf
  refine n_cV [] [] C (ckD_get k_L_law_18 19 rfl) vk_L_142 (t_X10_normal C.tr _ _ hr_297) T69 rfl rfl (Nat.le_of_ble_eq_true rfl) (by decide) ⟨by have := hcs.1; show cA + 1 ≤ _; omega, by have := hcs.2; show cB + 6 ≤ _; omega⟩ rfl ?_
  refine g_istore (lv' := [(6, _), (5, _), (0, _), (1, _), (2, _), (3, _), (4, _)]) C (ckD_get k_L_law_18 20 rfl) hL6 rfl ?_
  refine g_aload_n 4 C (ckD_get k_L_law_18 21 rfl) rfl rfl ?_
  refine n_cV [] [] C (ckD_get k_L_law_18 22 rfl) vk_L_86 (t_X10_thrown C.tr _ _ rfl) T69 rfl rfl (Nat.le_of_ble_eq_true rfl) (by decide) ⟨by have := hcs.1; show cA + 1 ≤ _; omega, by have := hcs.2; show cB + 6 ≤ _; omega⟩ rfl ?_
  refine g_iload 1 C (ckD_get k_L_law_18 23 rfl) rfl ?_
  refine g_icmp_eq C (ckD_get k_L_law_18 24 rfl) (fun c_300 => ?_) (fun c_300 => ?_)
  · have hf := if_t hf c_300
    refine g_iload 1 C (ckD_get k_L_law_18 27 rfl) rfl ?_
    have hJ_1247 : ∀ (_ : Unit), f_law_J1247 i M_298 () = some rr → G K (cA + 1, cB + 6) 1247 [(0, .ref b), (1, .ref (K.2.1.1 + 0)), (2, .ref (K.2.1.1 + 69)), (3, .ref (K.2.1.1 + 105)), (4, .int i)] [] M_298 := by
      intro _ hf
      unfold f_law_J1247 at hf
      refine g_goto C (ckD_get k_L_law_18 38 rfl) ?_
      refine G.wid (cs' := (cA + 8, cB + 48)) (by show cA + 1 ≤ cA + 8; omega) (by show cB + 6 ≤ cB + 48; omega) ?_
      exact hJ_1690 _ hf
    refine g_if_ne C (ckD_get k_L_law_18 28 rfl) (fun c_301 => ?_) (fun c_301 => ?_)
    · have hf := if_f hf c_301
      refine G.sub [2, 3, 4, 5, 6] rfl ?_
      exact hJ_1247 () hf
    · have hf := if_t hf c_301
      refine g_aload_n 5 C (ckD_get k_L_law_18 29 rfl) rfl rfl ?_
      refine g_iconst (v := (0 : Int32)) C (ckD_get k_L_law_18 30 rfl) (by decide) ?_
      obtain ⟨v_302, hi_303, ev_302, hf⟩ := rdL_e hf
      refine n_lald C (ckD_get k_L_law_18 31 rfl) T105 hi_303 ev_302 ?_
      refine g_iload 0 C (ckD_get k_L_law_18 32 rfl) rfl ?_
      refine g_i2l C (ckD_get k_L_law_18 33 rfl) ?_
      refine g_lcmp C (ckD_get k_L_law_18 34 rfl) ?_
      refine g_if_eq C (ckD_get k_L_law_18 35 rfl) (fun c_304 => ?_) (fun c_304 => ?_)
      · have hf := if_t hf c_304
        refine G.sub [2, 3, 4, 5, 6] rfl ?_
        exact hJ_1247 () hf
      · have hf := if_f hf c_304
        cases hf
  · have hf := if_f hf c_300
    cases hf
def f_law_J1291 (i : Int32) (M_309 : Mm) (_ : Unit) : Option (Option (Int32 × Mm)) := f_law_J1690 i M_309
def f_arm_17 (xs : Nat → Int32) (L : Nat) (i : Int32) (M : Mm) : Option (Option (Int32 × Mm)) := bd2 (f_L_curve M) fun r_305 M_306 => bd2 (f_X10_curve M_306) fun r_310 M_309 => if (f_X10_thrown M_309) = r_305 then (if r_305 = 0 then rdL 1 M_309 105 (0 : Int32) fun v_313 => if (lg_cmp v_313 ((r_310).toInt64)) = 0 then f_law_J1291 i M_309 () else none else f_law_J1291 i M_309 ()) else none
set_option maxRecDepth 100000 in
set_option maxHeartbeats 40000000 in
theorem law_arm_17 {K : Kx} {b L : Nat} {xs : Nat → Int32} (C : Cx K cL_law RL 124) (hL : K.2.2.1 = 8) (hX : Sx K b L xs) (i : Int32) (M : Mm) (cA cB : Nat) (hcs : cA + 8 ≤ K.1.R.cells ∧ cB + 48 ≤ K.1.R.slots) (rr : Option (Int32 × Mm)) (hf : f_arm_17 xs L i M = some rr) (hn : ∀ (i' : Int32) (M' : Mm), rr = some (i', M') → G K (cA + 8, cB + 48) 23 [(0, .ref b), (1, .ref (K.2.1.1 + 0)), (2, .ref (K.2.1.1 + 69)), (3, .ref (K.2.1.1 + 105)), (4, .int i')] [] M') : G K (cA, cB) 1250 [(0, .ref b), (1, .ref (K.2.1.1 + 0)), (2, .ref (K.2.1.1 + 69)), (3, .ref (K.2.1.1 + 105)), (4, .int i)] [] M := by
  have hL5 : 5 < K.2.2.1 := by rw [hL]; decide
  have hL6 : 6 < K.2.2.1 := by rw [hL]; decide
  have hJ_1690 : ∀ (M' : Mm), f_law_J1690 i M' = some rr → G K (cA + 8, cB + 48) 1690 [(0, .ref b), (1, .ref (K.2.1.1 + 0)), (2, .ref (K.2.1.1 + 69)), (3, .ref (K.2.1.1 + 105)), (4, .int i)] [] M' := fun M' hf => law_end C hL hX i M' cA cB rr hf hn
  unfold f_arm_17 at hf
  refine g_aload_n 1 C (ckD_get k_L_law_18 39 rfl) rfl rfl ?_
  refine g_aload_n 3 C (ckD_get k_L_law_19 0 rfl) rfl rfl ?_
  obtain ⟨r_305, M_306, hr_307, hf⟩ := bd2_e hf
  refine g_cSW [.ref (K.2.1.1 + 0), .ref (K.2.1.1 + 105)] [] C (ckD_get k_L_law_19 1 rfl) wk_L_143 (t_L_curve C.tr  _ _ hr_307) rfl rfl (Nat.le_of_ble_eq_true rfl) (by decide) ⟨by have := hcs.1; show cA + 1 ≤ _; omega, by have := hcs.2; show cB + 6 ≤ _; omega⟩ rfl ?_
  refine g_istore (lv' := [(5, _), (0, _), (1, _), (2, _), (3, _), (4, _)]) C (ckD_get k_L_law_19 2 rfl) hL5 rfl ?_
  refine g_aload_n 3 C (ckD_get k_L_law_19 3 rfl) rfl rfl ?_
  obtain ⟨r_310, M_309, hr_308, hf⟩ := bd2_e hf
  refine n_cV [] [] C (ckD_get k_L_law_19 4 rfl) vk_L_145 (t_X10_curve C.tr _ _ hr_308) T69 rfl rfl (Nat.le_of_ble_eq_true rfl) (by decide) ⟨by have := hcs.1; show cA + 1 ≤ _; omega, by have := hcs.2; show cB + 6 ≤ _; omega⟩ rfl ?_
  refine g_istore (lv' := [(6, _), (5, _), (0, _), (1, _), (2, _), (3, _), (4, _)]) C (ckD_get k_L_law_19 5 rfl) hL6 rfl ?_
  refine g_aload_n 4 C (ckD_get k_L_law_19 6 rfl) rfl rfl ?_
  refine n_cV [] [] C (ckD_get k_L_law_19 7 rfl) vk_L_86 (t_X10_thrown C.tr _ _ rfl) T69 rfl rfl (Nat.le_of_ble_eq_true rfl) (by decide) ⟨by have := hcs.1; show cA + 1 ≤ _; omega, by have := hcs.2; show cB + 6 ≤ _; omega⟩ rfl ?_
  refine g_iload 1 C (ckD_get k_L_law_19 8 rfl) rfl ?_
  refine g_icmp_eq C (ckD_get k_L_law_19 9 rfl) (fun c_311 => ?_) (fun c_311 => ?_)
  · have hf := if_t hf c_311
    refine g_iload 1 C (ckD_get k_L_law_19 12 rfl) rfl ?_
    have hJ_1291 : ∀ (_ : Unit), f_law_J1291 i M_309 () = some rr → G K (cA + 1, cB + 6) 1291 [(0, .ref b), (1, .ref (K.2.1.1 + 0)), (2, .ref (K.2.1.1 + 69)), (3, .ref (K.2.1.1 + 105)), (4, .int i)] [] M_309 := by
      intro _ hf
      unfold f_law_J1291 at hf
      refine g_goto C (ckD_get k_L_law_19 23 rfl) ?_
      refine G.wid (cs' := (cA + 8, cB + 48)) (by show cA + 1 ≤ cA + 8; omega) (by show cB + 6 ≤ cB + 48; omega) ?_
      exact hJ_1690 _ hf
    refine g_if_ne C (ckD_get k_L_law_19 13 rfl) (fun c_312 => ?_) (fun c_312 => ?_)
    · have hf := if_f hf c_312
      refine G.sub [2, 3, 4, 5, 6] rfl ?_
      exact hJ_1291 () hf
    · have hf := if_t hf c_312
      refine g_aload_n 5 C (ckD_get k_L_law_19 14 rfl) rfl rfl ?_
      refine g_iconst (v := (0 : Int32)) C (ckD_get k_L_law_19 15 rfl) (by decide) ?_
      obtain ⟨v_313, hi_314, ev_313, hf⟩ := rdL_e hf
      refine n_lald C (ckD_get k_L_law_19 16 rfl) T105 hi_314 ev_313 ?_
      refine g_iload 0 C (ckD_get k_L_law_19 17 rfl) rfl ?_
      refine g_i2l C (ckD_get k_L_law_19 18 rfl) ?_
      refine g_lcmp C (ckD_get k_L_law_19 19 rfl) ?_
      refine g_if_eq C (ckD_get k_L_law_19 20 rfl) (fun c_315 => ?_) (fun c_315 => ?_)
      · have hf := if_t hf c_315
        refine G.sub [2, 3, 4, 5, 6] rfl ?_
        exact hJ_1291 () hf
      · have hf := if_f hf c_315
        cases hf
  · have hf := if_f hf c_311
    cases hf
def f_law_J1359 (i : Int32) (M_328 : Mm) (_ : Unit) : Option (Option (Int32 × Mm)) := f_law_J1690 i M_328
def f_arm_18 (xs : Nat → Int32) (L : Nat) (i : Int32) (M : Mm) : Option (Option (Int32 × Mm)) := rdX L xs (i + (1 : Int32)) fun v_316 => rdX L xs (i + (2 : Int32)) fun v_318 => bd2 (f_L_shape v_316 v_318 M) fun r_320 M_321 => rdX L xs (i + (1 : Int32)) fun v_323 => rdX L xs (i + (2 : Int32)) fun v_325 => bd2 (f_X10_shape v_323 v_325 M_321) fun r_329 M_328 => if (f_X10_thrown M_328) = r_320 then (if r_320 = 0 then rdL 1 M_328 105 (0 : Int32) fun v_332 => if (lg_cmp v_332 ((r_329).toInt64)) = 0 then f_law_J1359 i M_328 () else none else f_law_J1359 i M_328 ()) else none
set_option maxRecDepth 100000 in
set_option maxHeartbeats 40000000 in
theorem law_arm_18 {K : Kx} {b L : Nat} {xs : Nat → Int32} (C : Cx K cL_law RL 124) (hL : K.2.2.1 = 8) (hX : Sx K b L xs) (i : Int32) (M : Mm) (cA cB : Nat) (hcs : cA + 8 ≤ K.1.R.cells ∧ cB + 48 ≤ K.1.R.slots) (rr : Option (Int32 × Mm)) (hf : f_arm_18 xs L i M = some rr) (hn : ∀ (i' : Int32) (M' : Mm), rr = some (i', M') → G K (cA + 8, cB + 48) 23 [(0, .ref b), (1, .ref (K.2.1.1 + 0)), (2, .ref (K.2.1.1 + 69)), (3, .ref (K.2.1.1 + 105)), (4, .int i')] [] M') : G K (cA, cB) 1294 [(0, .ref b), (1, .ref (K.2.1.1 + 0)), (2, .ref (K.2.1.1 + 69)), (3, .ref (K.2.1.1 + 105)), (4, .int i)] [] M := by
  have hL5 : 5 < K.2.2.1 := by rw [hL]; decide
  have hL6 : 6 < K.2.2.1 := by rw [hL]; decide
  have hJ_1690 : ∀ (M' : Mm), f_law_J1690 i M' = some rr → G K (cA + 8, cB + 48) 1690 [(0, .ref b), (1, .ref (K.2.1.1 + 0)), (2, .ref (K.2.1.1 + 69)), (3, .ref (K.2.1.1 + 105)), (4, .int i)] [] M' := fun M' hf => law_end C hL hX i M' cA cB rr hf hn
  unfold f_arm_18 at hf
  refine g_aload_n 1 C (ckD_get k_L_law_19 24 rfl) rfl rfl ?_
  refine g_aload_n 0 C (ckD_get k_L_law_19 25 rfl) rfl rfl ?_
  refine g_iload 4 C (ckD_get k_L_law_19 26 rfl) rfl ?_
  refine g_iconst (v := (1 : Int32)) C (ckD_get k_L_law_19 27 rfl) (by decide) ?_
  refine g_iadd C (ckD_get k_L_law_19 28 rfl) ?_
  obtain ⟨v_316, hi_317, ev_316, hf⟩ := rdX_e hf
  refine g_sld hX C (ckD_get k_L_law_19 29 rfl) hi_317 ev_316 ?_
  refine g_aload_n 0 C (ckD_get k_L_law_19 30 rfl) rfl rfl ?_
  refine g_iload 4 C (ckD_get k_L_law_19 31 rfl) rfl ?_
  refine g_iconst (v := (2 : Int32)) C (ckD_get k_L_law_19 32 rfl) (by decide) ?_
  refine g_iadd C (ckD_get k_L_law_19 33 rfl) ?_
  obtain ⟨v_318, hi_319, ev_318, hf⟩ := rdX_e hf
  refine g_sld hX C (ckD_get k_L_law_19 34 rfl) hi_319 ev_318 ?_
  refine g_aload_n 3 C (ckD_get k_L_law_19 35 rfl) rfl rfl ?_
  obtain ⟨r_320, M_321, hr_322, hf⟩ := bd2_e hf
  refine g_cSW [.ref (K.2.1.1 + 0), .int v_316, .int v_318, .ref (K.2.1.1 + 105)] [] C (ckD_get k_L_law_19 36 rfl) wk_L_146 (t_L_shape C.tr _ _ _ _ hr_322) rfl rfl (Nat.le_of_ble_eq_true rfl) (by decide) ⟨by have := hcs.1; show cA + 3 ≤ _; omega, by have := hcs.2; show cB + 18 ≤ _; omega⟩ rfl ?_
  refine g_istore (lv' := [(5, _), (0, _), (1, _), (2, _), (3, _), (4, _)]) C (ckD_get k_L_law_19 37 rfl) hL5 rfl ?_
  refine g_aload_n 3 C (ckD_get k_L_law_19 38 rfl) rfl rfl ?_
  refine g_aload_n 1 C (ckD_get k_L_law_19 39 rfl) rfl rfl ?_
  refine g_iload 5 C (ckD_get k_L_law_20 0 rfl) rfl ?_
  refine g_iconst (v := (1 : Int32)) C (ckD_get k_L_law_20 1 rfl) (by decide) ?_
  refine g_iadd C (ckD_get k_L_law_20 2 rfl) ?_
  obtain ⟨v_323, hi_324, ev_323, hf⟩ := rdX_e hf
  refine g_sld hX C (ckD_get k_L_law_20 3 rfl) hi_324 ev_323 ?_
  refine g_aload_n 1 C (ckD_get k_L_law_20 4 rfl) rfl rfl ?_
  refine g_iload 5 C (ckD_get k_L_law_20 5 rfl) rfl ?_
  refine g_iconst (v := (2 : Int32)) C (ckD_get k_L_law_20 6 rfl) (by decide) ?_
  refine g_iadd C (ckD_get k_L_law_20 7 rfl) ?_
  obtain ⟨v_325, hi_326, ev_325, hf⟩ := rdX_e hf
  refine g_sld hX C (ckD_get k_L_law_20 8 rfl) hi_326 ev_325 ?_
  obtain ⟨r_329, M_328, hr_327, hf⟩ := bd2_e hf
  refine n_cV [.int v_323, .int v_325] [] C (ckD_get k_L_law_20 9 rfl) vk_L_148 (t_X10_shape C.tr _ _ _ _ hr_327) T69 rfl rfl (Nat.le_of_ble_eq_true rfl) (by decide) ⟨by have := hcs.1; show cA + 3 ≤ _; omega, by have := hcs.2; show cB + 18 ≤ _; omega⟩ rfl ?_
  refine g_istore (lv' := [(6, _), (5, _), (0, _), (1, _), (2, _), (3, _), (4, _)]) C (ckD_get k_L_law_20 10 rfl) hL6 rfl ?_
  refine g_aload_n 4 C (ckD_get k_L_law_20 11 rfl) rfl rfl ?_
  refine n_cV [] [] C (ckD_get k_L_law_20 12 rfl) vk_L_86 (t_X10_thrown C.tr _ _ rfl) T69 rfl rfl (Nat.le_of_ble_eq_true rfl) (by decide) ⟨by have := hcs.1; show cA + 3 ≤ _; omega, by have := hcs.2; show cB + 18 ≤ _; omega⟩ rfl ?_
  refine g_iload 1 C (ckD_get k_L_law_20 13 rfl) rfl ?_
  refine g_icmp_eq C (ckD_get k_L_law_20 14 rfl) (fun c_330 => ?_) (fun c_330 => ?_)
  · have hf := if_t hf c_330
    refine g_iload 1 C (ckD_get k_L_law_20 17 rfl) rfl ?_
    have hJ_1359 : ∀ (_ : Unit), f_law_J1359 i M_328 () = some rr → G K (cA + 3, cB + 18) 1359 [(0, .ref b), (1, .ref (K.2.1.1 + 0)), (2, .ref (K.2.1.1 + 69)), (3, .ref (K.2.1.1 + 105)), (4, .int i)] [] M_328 := by
      intro _ hf
      unfold f_law_J1359 at hf
      refine g_goto C (ckD_get k_L_law_20 28 rfl) ?_
      refine G.wid (cs' := (cA + 8, cB + 48)) (by show cA + 3 ≤ cA + 8; omega) (by show cB + 18 ≤ cB + 48; omega) ?_
      exact hJ_1690 _ hf
    refine g_if_ne C (ckD_get k_L_law_20 18 rfl) (fun c_331 => ?_) (fun c_331 => ?_)
    · have hf := if_f hf c_331
      refine G.sub [2, 3, 4, 5, 6] rfl ?_
      exact hJ_1359 () hf
    · have hf := if_t hf c_331
      refine g_aload_n 5 C (ckD_get k_L_law_20 19 rfl) rfl rfl ?_
      refine g_iconst (v := (0 : Int32)) C (ckD_get k_L_law_20 20 rfl) (by decide) ?_
      obtain ⟨v_332, hi_333, ev_332, hf⟩ := rdL_e hf
      refine n_lald C (ckD_get k_L_law_20 21 rfl) T105 hi_333 ev_332 ?_
      refine g_iload 0 C (ckD_get k_L_law_20 22 rfl) rfl ?_
      refine g_i2l C (ckD_get k_L_law_20 23 rfl) ?_
      refine g_lcmp C (ckD_get k_L_law_20 24 rfl) ?_
      refine g_if_eq C (ckD_get k_L_law_20 25 rfl) (fun c_334 => ?_) (fun c_334 => ?_)
      · have hf := if_t hf c_334
        refine G.sub [2, 3, 4, 5, 6] rfl ?_
        exact hJ_1359 () hf
      · have hf := if_f hf c_334
        cases hf
  · have hf := if_f hf c_330
    cases hf
def f_law_J1415 (i : Int32) (M_343 : Mm) (_ : Unit) : Option (Option (Int32 × Mm)) := f_law_J1690 i M_343
def f_arm_19 (xs : Nat → Int32) (L : Nat) (i : Int32) (M : Mm) : Option (Option (Int32 × Mm)) := rdX L xs (i + (1 : Int32)) fun v_335 => bd2 (f_L_best v_335 M) fun r_337 M_338 => rdX L xs (i + (1 : Int32)) fun v_340 => bd2 (f_X10_best v_340 M_338) fun r_344 M_343 => if (f_X10_thrown M_343) = r_337 then (if r_337 = 0 then rdL 1 M_343 105 (0 : Int32) fun v_347 => if (lg_cmp v_347 ((r_344).toInt64)) = 0 then f_law_J1415 i M_343 () else none else f_law_J1415 i M_343 ()) else none
set_option maxRecDepth 100000 in
set_option maxHeartbeats 40000000 in
theorem law_arm_19 {K : Kx} {b L : Nat} {xs : Nat → Int32} (C : Cx K cL_law RL 124) (hL : K.2.2.1 = 8) (hX : Sx K b L xs) (i : Int32) (M : Mm) (cA cB : Nat) (hcs : cA + 8 ≤ K.1.R.cells ∧ cB + 48 ≤ K.1.R.slots) (rr : Option (Int32 × Mm)) (hf : f_arm_19 xs L i M = some rr) (hn : ∀ (i' : Int32) (M' : Mm), rr = some (i', M') → G K (cA + 8, cB + 48) 23 [(0, .ref b), (1, .ref (K.2.1.1 + 0)), (2, .ref (K.2.1.1 + 69)), (3, .ref (K.2.1.1 + 105)), (4, .int i')] [] M') : G K (cA, cB) 1362 [(0, .ref b), (1, .ref (K.2.1.1 + 0)), (2, .ref (K.2.1.1 + 69)), (3, .ref (K.2.1.1 + 105)), (4, .int i)] [] M := by
  have hL5 : 5 < K.2.2.1 := by rw [hL]; decide
  have hL6 : 6 < K.2.2.1 := by rw [hL]; decide
  have hJ_1690 : ∀ (M' : Mm), f_law_J1690 i M' = some rr → G K (cA + 8, cB + 48) 1690 [(0, .ref b), (1, .ref (K.2.1.1 + 0)), (2, .ref (K.2.1.1 + 69)), (3, .ref (K.2.1.1 + 105)), (4, .int i)] [] M' := fun M' hf => law_end C hL hX i M' cA cB rr hf hn
  unfold f_arm_19 at hf
  refine g_aload_n 1 C (ckD_get k_L_law_20 29 rfl) rfl rfl ?_
  refine g_aload_n 0 C (ckD_get k_L_law_20 30 rfl) rfl rfl ?_
  refine g_iload 4 C (ckD_get k_L_law_20 31 rfl) rfl ?_
  refine g_iconst (v := (1 : Int32)) C (ckD_get k_L_law_20 32 rfl) (by decide) ?_
  refine g_iadd C (ckD_get k_L_law_20 33 rfl) ?_
  obtain ⟨v_335, hi_336, ev_335, hf⟩ := rdX_e hf
  refine g_sld hX C (ckD_get k_L_law_20 34 rfl) hi_336 ev_335 ?_
  refine g_aload_n 3 C (ckD_get k_L_law_20 35 rfl) rfl rfl ?_
  obtain ⟨r_337, M_338, hr_339, hf⟩ := bd2_e hf
  refine g_cSW [.ref (K.2.1.1 + 0), .int v_335, .ref (K.2.1.1 + 105)] [] C (ckD_get k_L_law_20 36 rfl) wk_L_149 (t_L_best C.tr _ _ _ hr_339) rfl rfl (Nat.le_of_ble_eq_true rfl) (by decide) ⟨by have := hcs.1; show cA + 2 ≤ _; omega, by have := hcs.2; show cB + 12 ≤ _; omega⟩ rfl ?_
  refine g_istore (lv' := [(5, _), (0, _), (1, _), (2, _), (3, _), (4, _)]) C (ckD_get k_L_law_20 37 rfl) hL5 rfl ?_
  refine g_aload_n 3 C (ckD_get k_L_law_20 38 rfl) rfl rfl ?_
  refine g_aload_n 1 C (ckD_get k_L_law_20 39 rfl) rfl rfl ?_
  refine g_iload 5 C (ckD_get k_L_law_21 0 rfl) rfl ?_
  refine g_iconst (v := (1 : Int32)) C (ckD_get k_L_law_21 1 rfl) (by decide) ?_
  refine g_iadd C (ckD_get k_L_law_21 2 rfl) ?_
  obtain ⟨v_340, hi_341, ev_340, hf⟩ := rdX_e hf
  refine g_sld hX C (ckD_get k_L_law_21 3 rfl) hi_341 ev_340 ?_
  obtain ⟨r_344, M_343, hr_342, hf⟩ := bd2_e hf
  refine n_cV [.int v_340] [] C (ckD_get k_L_law_21 4 rfl) vk_L_151 (t_X10_best C.tr _ _ _ hr_342) T69 rfl rfl (Nat.le_of_ble_eq_true rfl) (by decide) ⟨by have := hcs.1; show cA + 2 ≤ _; omega, by have := hcs.2; show cB + 12 ≤ _; omega⟩ rfl ?_
  refine g_istore (lv' := [(6, _), (5, _), (0, _), (1, _), (2, _), (3, _), (4, _)]) C (ckD_get k_L_law_21 5 rfl) hL6 rfl ?_
  refine g_aload_n 4 C (ckD_get k_L_law_21 6 rfl) rfl rfl ?_
  refine n_cV [] [] C (ckD_get k_L_law_21 7 rfl) vk_L_86 (t_X10_thrown C.tr _ _ rfl) T69 rfl rfl (Nat.le_of_ble_eq_true rfl) (by decide) ⟨by have := hcs.1; show cA + 2 ≤ _; omega, by have := hcs.2; show cB + 12 ≤ _; omega⟩ rfl ?_
  refine g_iload 1 C (ckD_get k_L_law_21 8 rfl) rfl ?_
  refine g_icmp_eq C (ckD_get k_L_law_21 9 rfl) (fun c_345 => ?_) (fun c_345 => ?_)
  · have hf := if_t hf c_345
    refine g_iload 1 C (ckD_get k_L_law_21 12 rfl) rfl ?_
    have hJ_1415 : ∀ (_ : Unit), f_law_J1415 i M_343 () = some rr → G K (cA + 2, cB + 12) 1415 [(0, .ref b), (1, .ref (K.2.1.1 + 0)), (2, .ref (K.2.1.1 + 69)), (3, .ref (K.2.1.1 + 105)), (4, .int i)] [] M_343 := by
      intro _ hf
      unfold f_law_J1415 at hf
      refine g_goto C (ckD_get k_L_law_21 23 rfl) ?_
      refine G.wid (cs' := (cA + 8, cB + 48)) (by show cA + 2 ≤ cA + 8; omega) (by show cB + 12 ≤ cB + 48; omega) ?_
      exact hJ_1690 _ hf
    refine g_if_ne C (ckD_get k_L_law_21 13 rfl) (fun c_346 => ?_) (fun c_346 => ?_)
    · have hf := if_f hf c_346
      refine G.sub [2, 3, 4, 5, 6] rfl ?_
      exact hJ_1415 () hf
    · have hf := if_t hf c_346
      refine g_aload_n 5 C (ckD_get k_L_law_21 14 rfl) rfl rfl ?_
      refine g_iconst (v := (0 : Int32)) C (ckD_get k_L_law_21 15 rfl) (by decide) ?_
      obtain ⟨v_347, hi_348, ev_347, hf⟩ := rdL_e hf
      refine n_lald C (ckD_get k_L_law_21 16 rfl) T105 hi_348 ev_347 ?_
      refine g_iload 0 C (ckD_get k_L_law_21 17 rfl) rfl ?_
      refine g_i2l C (ckD_get k_L_law_21 18 rfl) ?_
      refine g_lcmp C (ckD_get k_L_law_21 19 rfl) ?_
      refine g_if_eq C (ckD_get k_L_law_21 20 rfl) (fun c_349 => ?_) (fun c_349 => ?_)
      · have hf := if_t hf c_349
        refine G.sub [2, 3, 4, 5, 6] rfl ?_
        exact hJ_1415 () hf
      · have hf := if_f hf c_349
        cases hf
  · have hf := if_f hf c_345
    cases hf
def f_arm_20 (xs : Nat → Int32) (L : Nat) (i : Int32) (M : Mm) : Option (Option (Int32 × Mm)) := rdX L xs (i + (1 : Int32)) fun v_350 => rdX L xs (i + (2 : Int32)) fun v_352 => rdX L xs (i + (3 : Int32)) fun v_354 => bd2 (f_X9_swap v_350 v_352 v_354 M) fun r_358 M_357 => rdX L xs (i + (1 : Int32)) fun v_359 => rdX L xs (i + (2 : Int32)) fun v_361 => rdX L xs (i + (3 : Int32)) fun v_363 => bd2 (f_X10_swap v_359 v_361 v_363 M_357) fun r_367 M_366 => if r_358 = r_367 then f_law_J1690 i M_366 else none
set_option maxRecDepth 100000 in
set_option maxHeartbeats 40000000 in
theorem law_arm_20 {K : Kx} {b L : Nat} {xs : Nat → Int32} (C : Cx K cL_law RL 124) (hL : K.2.2.1 = 8) (hX : Sx K b L xs) (i : Int32) (M : Mm) (cA cB : Nat) (hcs : cA + 8 ≤ K.1.R.cells ∧ cB + 48 ≤ K.1.R.slots) (rr : Option (Int32 × Mm)) (hf : f_arm_20 xs L i M = some rr) (hn : ∀ (i' : Int32) (M' : Mm), rr = some (i', M') → G K (cA + 8, cB + 48) 23 [(0, .ref b), (1, .ref (K.2.1.1 + 0)), (2, .ref (K.2.1.1 + 69)), (3, .ref (K.2.1.1 + 105)), (4, .int i')] [] M') : G K (cA, cB) 1418 [(0, .ref b), (1, .ref (K.2.1.1 + 0)), (2, .ref (K.2.1.1 + 69)), (3, .ref (K.2.1.1 + 105)), (4, .int i)] [] M := by
  have hJ_1690 : ∀ (M' : Mm), f_law_J1690 i M' = some rr → G K (cA + 8, cB + 48) 1690 [(0, .ref b), (1, .ref (K.2.1.1 + 0)), (2, .ref (K.2.1.1 + 69)), (3, .ref (K.2.1.1 + 105)), (4, .int i)] [] M' := fun M' hf => law_end C hL hX i M' cA cB rr hf hn
  unfold f_arm_20 at hf
  refine g_aload_n 1 C (ckD_get k_L_law_21 24 rfl) rfl rfl ?_
  refine g_aload_n 0 C (ckD_get k_L_law_21 25 rfl) rfl rfl ?_
  refine g_iload 4 C (ckD_get k_L_law_21 26 rfl) rfl ?_
  refine g_iconst (v := (1 : Int32)) C (ckD_get k_L_law_21 27 rfl) (by decide) ?_
  refine g_iadd C (ckD_get k_L_law_21 28 rfl) ?_
  obtain ⟨v_350, hi_351, ev_350, hf⟩ := rdX_e hf
  refine g_sld hX C (ckD_get k_L_law_21 29 rfl) hi_351 ev_350 ?_
  refine g_aload_n 0 C (ckD_get k_L_law_21 30 rfl) rfl rfl ?_
  refine g_iload 4 C (ckD_get k_L_law_21 31 rfl) rfl ?_
  refine g_iconst (v := (2 : Int32)) C (ckD_get k_L_law_21 32 rfl) (by decide) ?_
  refine g_iadd C (ckD_get k_L_law_21 33 rfl) ?_
  obtain ⟨v_352, hi_353, ev_352, hf⟩ := rdX_e hf
  refine g_sld hX C (ckD_get k_L_law_21 34 rfl) hi_353 ev_352 ?_
  refine g_aload_n 0 C (ckD_get k_L_law_21 35 rfl) rfl rfl ?_
  refine g_iload 4 C (ckD_get k_L_law_21 36 rfl) rfl ?_
  refine g_iconst (v := (3 : Int32)) C (ckD_get k_L_law_21 37 rfl) (by decide) ?_
  refine g_iadd C (ckD_get k_L_law_21 38 rfl) ?_
  obtain ⟨v_354, hi_355, ev_354, hf⟩ := rdX_e hf
  refine g_sld hX C (ckD_get k_L_law_21 39 rfl) hi_355 ev_354 ?_
  obtain ⟨r_358, M_357, hr_356, hf⟩ := bd2_e hf
  refine n_cV [.int v_350, .int v_352, .int v_354] [] C (ckD_get k_L_law_22 0 rfl) vk_L_152 (t_X9_swap C.tr _ _ _ _ _ hr_356) T0 rfl rfl (Nat.le_of_ble_eq_true rfl) (by decide) ⟨by have := hcs.1; show cA + 0 ≤ _; omega, by have := hcs.2; show cB + 0 ≤ _; omega⟩ rfl ?_
  refine g_aload_n 2 C (ckD_get k_L_law_22 1 rfl) rfl rfl ?_
  refine g_aload_n 0 C (ckD_get k_L_law_22 2 rfl) rfl rfl ?_
  refine g_iload 4 C (ckD_get k_L_law_22 3 rfl) rfl ?_
  refine g_iconst (v := (1 : Int32)) C (ckD_get k_L_law_22 4 rfl) (by decide) ?_
  refine g_iadd C (ckD_get k_L_law_22 5 rfl) ?_
  obtain ⟨v_359, hi_360, ev_359, hf⟩ := rdX_e hf
  refine g_sld hX C (ckD_get k_L_law_22 6 rfl) hi_360 ev_359 ?_
  refine g_aload_n 0 C (ckD_get k_L_law_22 7 rfl) rfl rfl ?_
  refine g_iload 4 C (ckD_get k_L_law_22 8 rfl) rfl ?_
  refine g_iconst (v := (2 : Int32)) C (ckD_get k_L_law_22 9 rfl) (by decide) ?_
  refine g_iadd C (ckD_get k_L_law_22 10 rfl) ?_
  obtain ⟨v_361, hi_362, ev_361, hf⟩ := rdX_e hf
  refine g_sld hX C (ckD_get k_L_law_22 11 rfl) hi_362 ev_361 ?_
  refine g_aload_n 0 C (ckD_get k_L_law_22 12 rfl) rfl rfl ?_
  refine g_iload 4 C (ckD_get k_L_law_22 13 rfl) rfl ?_
  refine g_iconst (v := (3 : Int32)) C (ckD_get k_L_law_22 14 rfl) (by decide) ?_
  refine g_iadd C (ckD_get k_L_law_22 15 rfl) ?_
  obtain ⟨v_363, hi_364, ev_363, hf⟩ := rdX_e hf
  refine g_sld hX C (ckD_get k_L_law_22 16 rfl) hi_364 ev_363 ?_
  obtain ⟨r_367, M_366, hr_365, hf⟩ := bd2_e hf
  refine n_cV [.int v_359, .int v_361, .int v_363] [.int r_358] C (ckD_get k_L_law_22 17 rfl) vk_L_156 (t_X10_swap C.tr _ _ _ _ _ hr_365) T69 rfl rfl (Nat.le_of_ble_eq_true rfl) (by decide) ⟨by have := hcs.1; show cA + 0 ≤ _; omega, by have := hcs.2; show cB + 0 ≤ _; omega⟩ rfl ?_
  refine g_icmp_eq C (ckD_get k_L_law_22 18 rfl) (fun c_368 => ?_) (fun c_368 => ?_)
  · have hf := if_t hf c_368
    refine G.wid (cs' := (cA + 8, cB + 48)) (by show cA + 0 ≤ cA + 8; omega) (by show cB + 0 ≤ cB + 48; omega) ?_
    exact hJ_1690 _ hf
  · have hf := if_f hf c_368
    cases hf
def f_law_J1520 (i : Int32) (M_377 : Mm) (_ : Unit) : Option (Option (Int32 × Mm)) := f_law_J1690 i M_377
def f_arm_21 (xs : Nat → Int32) (L : Nat) (i : Int32) (M : Mm) : Option (Option (Int32 × Mm)) := rdX L xs (i + (1 : Int32)) fun v_369 => bd2 (f_L_least v_369 M) fun r_371 M_372 => rdX L xs (i + (1 : Int32)) fun v_374 => bd2 (f_X10_least v_374 M_372) fun r_378 M_377 => if (f_X10_thrown M_377) = r_371 then (if r_371 = 0 then rdL 1 M_377 105 (0 : Int32) fun v_381 => if (lg_cmp v_381 ((r_378).toInt64)) = 0 then f_law_J1520 i M_377 () else none else f_law_J1520 i M_377 ()) else none
set_option maxRecDepth 100000 in
set_option maxHeartbeats 40000000 in
theorem law_arm_21 {K : Kx} {b L : Nat} {xs : Nat → Int32} (C : Cx K cL_law RL 124) (hL : K.2.2.1 = 8) (hX : Sx K b L xs) (i : Int32) (M : Mm) (cA cB : Nat) (hcs : cA + 8 ≤ K.1.R.cells ∧ cB + 48 ≤ K.1.R.slots) (rr : Option (Int32 × Mm)) (hf : f_arm_21 xs L i M = some rr) (hn : ∀ (i' : Int32) (M' : Mm), rr = some (i', M') → G K (cA + 8, cB + 48) 23 [(0, .ref b), (1, .ref (K.2.1.1 + 0)), (2, .ref (K.2.1.1 + 69)), (3, .ref (K.2.1.1 + 105)), (4, .int i')] [] M') : G K (cA, cB) 1467 [(0, .ref b), (1, .ref (K.2.1.1 + 0)), (2, .ref (K.2.1.1 + 69)), (3, .ref (K.2.1.1 + 105)), (4, .int i)] [] M := by
  have hL5 : 5 < K.2.2.1 := by rw [hL]; decide
  have hL6 : 6 < K.2.2.1 := by rw [hL]; decide
  have hJ_1690 : ∀ (M' : Mm), f_law_J1690 i M' = some rr → G K (cA + 8, cB + 48) 1690 [(0, .ref b), (1, .ref (K.2.1.1 + 0)), (2, .ref (K.2.1.1 + 69)), (3, .ref (K.2.1.1 + 105)), (4, .int i)] [] M' := fun M' hf => law_end C hL hX i M' cA cB rr hf hn
  unfold f_arm_21 at hf
  refine g_aload_n 1 C (ckD_get k_L_law_22 21 rfl) rfl rfl ?_
  refine g_aload_n 0 C (ckD_get k_L_law_22 22 rfl) rfl rfl ?_
  refine g_iload 4 C (ckD_get k_L_law_22 23 rfl) rfl ?_
  refine g_iconst (v := (1 : Int32)) C (ckD_get k_L_law_22 24 rfl) (by decide) ?_
  refine g_iadd C (ckD_get k_L_law_22 25 rfl) ?_
  obtain ⟨v_369, hi_370, ev_369, hf⟩ := rdX_e hf
  refine g_sld hX C (ckD_get k_L_law_22 26 rfl) hi_370 ev_369 ?_
  refine g_aload_n 3 C (ckD_get k_L_law_22 27 rfl) rfl rfl ?_
  obtain ⟨r_371, M_372, hr_373, hf⟩ := bd2_e hf
  refine g_cSW [.ref (K.2.1.1 + 0), .int v_369, .ref (K.2.1.1 + 105)] [] C (ckD_get k_L_law_22 28 rfl) wk_L_157 (t_L_least C.tr _ _ _ hr_373) rfl rfl (Nat.le_of_ble_eq_true rfl) (by decide) ⟨by have := hcs.1; show cA + 1 ≤ _; omega, by have := hcs.2; show cB + 6 ≤ _; omega⟩ rfl ?_
  refine g_istore (lv' := [(5, _), (0, _), (1, _), (2, _), (3, _), (4, _)]) C (ckD_get k_L_law_22 29 rfl) hL5 rfl ?_
  refine g_aload_n 3 C (ckD_get k_L_law_22 30 rfl) rfl rfl ?_
  refine g_aload_n 1 C (ckD_get k_L_law_22 31 rfl) rfl rfl ?_
  refine g_iload 5 C (ckD_get k_L_law_22 32 rfl) rfl ?_
  refine g_iconst (v := (1 : Int32)) C (ckD_get k_L_law_22 33 rfl) (by decide) ?_
  refine g_iadd C (ckD_get k_L_law_22 34 rfl) ?_
  obtain ⟨v_374, hi_375, ev_374, hf⟩ := rdX_e hf
  refine g_sld hX C (ckD_get k_L_law_22 35 rfl) hi_375 ev_374 ?_
  obtain ⟨r_378, M_377, hr_376, hf⟩ := bd2_e hf
  refine n_cV [.int v_374] [] C (ckD_get k_L_law_22 36 rfl) vk_L_159 (t_X10_least C.tr _ _ _ hr_376) T69 rfl rfl (Nat.le_of_ble_eq_true rfl) (by decide) ⟨by have := hcs.1; show cA + 1 ≤ _; omega, by have := hcs.2; show cB + 6 ≤ _; omega⟩ rfl ?_
  refine g_istore (lv' := [(6, _), (5, _), (0, _), (1, _), (2, _), (3, _), (4, _)]) C (ckD_get k_L_law_22 37 rfl) hL6 rfl ?_
  refine g_aload_n 4 C (ckD_get k_L_law_22 38 rfl) rfl rfl ?_
  refine n_cV [] [] C (ckD_get k_L_law_22 39 rfl) vk_L_86 (t_X10_thrown C.tr _ _ rfl) T69 rfl rfl (Nat.le_of_ble_eq_true rfl) (by decide) ⟨by have := hcs.1; show cA + 1 ≤ _; omega, by have := hcs.2; show cB + 6 ≤ _; omega⟩ rfl ?_
  refine g_iload 1 C (ckD_get k_L_law_23 0 rfl) rfl ?_
  refine g_icmp_eq C (ckD_get k_L_law_23 1 rfl) (fun c_379 => ?_) (fun c_379 => ?_)
  · have hf := if_t hf c_379
    refine g_iload 1 C (ckD_get k_L_law_23 4 rfl) rfl ?_
    have hJ_1520 : ∀ (_ : Unit), f_law_J1520 i M_377 () = some rr → G K (cA + 1, cB + 6) 1520 [(0, .ref b), (1, .ref (K.2.1.1 + 0)), (2, .ref (K.2.1.1 + 69)), (3, .ref (K.2.1.1 + 105)), (4, .int i)] [] M_377 := by
      intro _ hf
      unfold f_law_J1520 at hf
      refine g_goto C (ckD_get k_L_law_23 15 rfl) ?_
      refine G.wid (cs' := (cA + 8, cB + 48)) (by show cA + 1 ≤ cA + 8; omega) (by show cB + 6 ≤ cB + 48; omega) ?_
      exact hJ_1690 _ hf
    refine g_if_ne C (ckD_get k_L_law_23 5 rfl) (fun c_380 => ?_) (fun c_380 => ?_)
    · have hf := if_f hf c_380
      refine G.sub [2, 3, 4, 5, 6] rfl ?_
      exact hJ_1520 () hf
    · have hf := if_t hf c_380
      refine g_aload_n 5 C (ckD_get k_L_law_23 6 rfl) rfl rfl ?_
      refine g_iconst (v := (0 : Int32)) C (ckD_get k_L_law_23 7 rfl) (by decide) ?_
      obtain ⟨v_381, hi_382, ev_381, hf⟩ := rdL_e hf
      refine n_lald C (ckD_get k_L_law_23 8 rfl) T105 hi_382 ev_381 ?_
      refine g_iload 0 C (ckD_get k_L_law_23 9 rfl) rfl ?_
      refine g_i2l C (ckD_get k_L_law_23 10 rfl) ?_
      refine g_lcmp C (ckD_get k_L_law_23 11 rfl) ?_
      refine g_if_eq C (ckD_get k_L_law_23 12 rfl) (fun c_383 => ?_) (fun c_383 => ?_)
      · have hf := if_t hf c_383
        refine G.sub [2, 3, 4, 5, 6] rfl ?_
        exact hJ_1520 () hf
      · have hf := if_f hf c_383
        cases hf
  · have hf := if_f hf c_379
    cases hf
def f_law_J1587 (i : Int32) (M_396 : Mm) (_ : Unit) : Option (Option (Int32 × Mm)) := f_law_J1690 i M_396
def f_arm_22 (xs : Nat → Int32) (L : Nat) (i : Int32) (M : Mm) : Option (Option (Int32 × Mm)) := rdX L xs (i + (1 : Int32)) fun v_384 => rdX L xs (i + (2 : Int32)) fun v_386 => bd2 (f_L_count v_384 v_386 M) fun r_388 M_389 => rdX L xs (i + (1 : Int32)) fun v_391 => rdX L xs (i + (2 : Int32)) fun v_393 => bd2 (f_X10_count v_391 v_393 M_389) fun r_397 M_396 => if (f_X10_thrown M_396) = r_388 then (if r_388 = 0 then rdL 1 M_396 105 (0 : Int32) fun v_400 => if (lg_cmp v_400 r_397) = 0 then f_law_J1587 i M_396 () else none else f_law_J1587 i M_396 ()) else none
set_option maxRecDepth 100000 in
set_option maxHeartbeats 40000000 in
theorem law_arm_22 {K : Kx} {b L : Nat} {xs : Nat → Int32} (C : Cx K cL_law RL 124) (hL : K.2.2.1 = 8) (hX : Sx K b L xs) (i : Int32) (M : Mm) (cA cB : Nat) (hcs : cA + 8 ≤ K.1.R.cells ∧ cB + 48 ≤ K.1.R.slots) (rr : Option (Int32 × Mm)) (hf : f_arm_22 xs L i M = some rr) (hn : ∀ (i' : Int32) (M' : Mm), rr = some (i', M') → G K (cA + 8, cB + 48) 23 [(0, .ref b), (1, .ref (K.2.1.1 + 0)), (2, .ref (K.2.1.1 + 69)), (3, .ref (K.2.1.1 + 105)), (4, .int i')] [] M') : G K (cA, cB) 1523 [(0, .ref b), (1, .ref (K.2.1.1 + 0)), (2, .ref (K.2.1.1 + 69)), (3, .ref (K.2.1.1 + 105)), (4, .int i)] [] M := by
  have hL5 : 5 < K.2.2.1 := by rw [hL]; decide
  have hL7 : 7 < K.2.2.1 := by rw [hL]; decide
  have hJ_1690 : ∀ (M' : Mm), f_law_J1690 i M' = some rr → G K (cA + 8, cB + 48) 1690 [(0, .ref b), (1, .ref (K.2.1.1 + 0)), (2, .ref (K.2.1.1 + 69)), (3, .ref (K.2.1.1 + 105)), (4, .int i)] [] M' := fun M' hf => law_end C hL hX i M' cA cB rr hf hn
  unfold f_arm_22 at hf
  refine g_aload_n 1 C (ckD_get k_L_law_23 16 rfl) rfl rfl ?_
  refine g_aload_n 0 C (ckD_get k_L_law_23 17 rfl) rfl rfl ?_
  refine g_iload 4 C (ckD_get k_L_law_23 18 rfl) rfl ?_
  refine g_iconst (v := (1 : Int32)) C (ckD_get k_L_law_23 19 rfl) (by decide) ?_
  refine g_iadd C (ckD_get k_L_law_23 20 rfl) ?_
  obtain ⟨v_384, hi_385, ev_384, hf⟩ := rdX_e hf
  refine g_sld hX C (ckD_get k_L_law_23 21 rfl) hi_385 ev_384 ?_
  refine g_aload_n 0 C (ckD_get k_L_law_23 22 rfl) rfl rfl ?_
  refine g_iload 4 C (ckD_get k_L_law_23 23 rfl) rfl ?_
  refine g_iconst (v := (2 : Int32)) C (ckD_get k_L_law_23 24 rfl) (by decide) ?_
  refine g_iadd C (ckD_get k_L_law_23 25 rfl) ?_
  obtain ⟨v_386, hi_387, ev_386, hf⟩ := rdX_e hf
  refine g_sld hX C (ckD_get k_L_law_23 26 rfl) hi_387 ev_386 ?_
  refine g_aload_n 3 C (ckD_get k_L_law_23 27 rfl) rfl rfl ?_
  obtain ⟨r_388, M_389, hr_390, hf⟩ := bd2_e hf
  refine g_cSW [.ref (K.2.1.1 + 0), .int v_384, .int v_386, .ref (K.2.1.1 + 105)] [] C (ckD_get k_L_law_23 28 rfl) wk_L_160 (t_L_count C.tr _ _ _ _ hr_390) rfl rfl (Nat.le_of_ble_eq_true rfl) (by decide) ⟨by have := hcs.1; show cA + 1 ≤ _; omega, by have := hcs.2; show cB + 6 ≤ _; omega⟩ rfl ?_
  refine g_istore (lv' := [(5, _), (0, _), (1, _), (2, _), (3, _), (4, _)]) C (ckD_get k_L_law_23 29 rfl) hL5 rfl ?_
  refine g_aload_n 3 C (ckD_get k_L_law_23 30 rfl) rfl rfl ?_
  refine g_aload_n 1 C (ckD_get k_L_law_23 31 rfl) rfl rfl ?_
  refine g_iload 5 C (ckD_get k_L_law_23 32 rfl) rfl ?_
  refine g_iconst (v := (1 : Int32)) C (ckD_get k_L_law_23 33 rfl) (by decide) ?_
  refine g_iadd C (ckD_get k_L_law_23 34 rfl) ?_
  obtain ⟨v_391, hi_392, ev_391, hf⟩ := rdX_e hf
  refine g_sld hX C (ckD_get k_L_law_23 35 rfl) hi_392 ev_391 ?_
  refine g_aload_n 1 C (ckD_get k_L_law_23 36 rfl) rfl rfl ?_
  refine g_iload 5 C (ckD_get k_L_law_23 37 rfl) rfl ?_
  refine g_iconst (v := (2 : Int32)) C (ckD_get k_L_law_23 38 rfl) (by decide) ?_
  refine g_iadd C (ckD_get k_L_law_23 39 rfl) ?_
  obtain ⟨v_393, hi_394, ev_393, hf⟩ := rdX_e hf
  refine g_sld hX C (ckD_get k_L_law_24 0 rfl) hi_394 ev_393 ?_
  obtain ⟨r_397, M_396, hr_395, hf⟩ := bd2_e hf
  refine n_cV [.int v_391, .int v_393] [] C (ckD_get k_L_law_24 1 rfl) vk_L_162 (t_X10_count C.tr _ _ _ _ hr_395) T69 rfl rfl (Nat.le_of_ble_eq_true rfl) (by decide) ⟨by have := hcs.1; show cA + 1 ≤ _; omega, by have := hcs.2; show cB + 6 ≤ _; omega⟩ rfl ?_
  refine g_lstore (lv' := [(6, _), (5, _), (0, _), (1, _), (2, _), (3, _), (4, _)]) C (ckD_get k_L_law_24 2 rfl) hL7 rfl ?_
  refine g_aload_n 4 C (ckD_get k_L_law_24 3 rfl) rfl rfl ?_
  refine n_cV [] [] C (ckD_get k_L_law_24 4 rfl) vk_L_86 (t_X10_thrown C.tr _ _ rfl) T69 rfl rfl (Nat.le_of_ble_eq_true rfl) (by decide) ⟨by have := hcs.1; show cA + 1 ≤ _; omega, by have := hcs.2; show cB + 6 ≤ _; omega⟩ rfl ?_
  refine g_iload 1 C (ckD_get k_L_law_24 5 rfl) rfl ?_
  refine g_icmp_eq C (ckD_get k_L_law_24 6 rfl) (fun c_398 => ?_) (fun c_398 => ?_)
  · have hf := if_t hf c_398
    refine g_iload 1 C (ckD_get k_L_law_24 9 rfl) rfl ?_
    have hJ_1587 : ∀ (_ : Unit), f_law_J1587 i M_396 () = some rr → G K (cA + 1, cB + 6) 1587 [(0, .ref b), (1, .ref (K.2.1.1 + 0)), (2, .ref (K.2.1.1 + 69)), (3, .ref (K.2.1.1 + 105)), (4, .int i)] [] M_396 := by
      intro _ hf
      unfold f_law_J1587 at hf
      refine g_goto C (ckD_get k_L_law_24 19 rfl) ?_
      refine G.wid (cs' := (cA + 8, cB + 48)) (by show cA + 1 ≤ cA + 8; omega) (by show cB + 6 ≤ cB + 48; omega) ?_
      exact hJ_1690 _ hf
    refine g_if_ne C (ckD_get k_L_law_24 10 rfl) (fun c_399 => ?_) (fun c_399 => ?_)
    · have hf := if_f hf c_399
      refine G.sub [2, 3, 4, 5, 6] rfl ?_
      exact hJ_1587 () hf
    · have hf := if_t hf c_399
      refine g_aload_n 5 C (ckD_get k_L_law_24 11 rfl) rfl rfl ?_
      refine g_iconst (v := (0 : Int32)) C (ckD_get k_L_law_24 12 rfl) (by decide) ?_
      obtain ⟨v_400, hi_401, ev_400, hf⟩ := rdL_e hf
      refine n_lald C (ckD_get k_L_law_24 13 rfl) T105 hi_401 ev_400 ?_
      refine g_lload 0 C (ckD_get k_L_law_24 14 rfl) rfl ?_
      refine g_lcmp C (ckD_get k_L_law_24 15 rfl) ?_
      refine g_if_eq C (ckD_get k_L_law_24 16 rfl) (fun c_402 => ?_) (fun c_402 => ?_)
      · have hf := if_t hf c_402
        refine G.sub [2, 3, 4, 5, 6] rfl ?_
        exact hJ_1587 () hf
      · have hf := if_f hf c_402
        cases hf
  · have hf := if_f hf c_398
    cases hf
def f_law_J1630 (i : Int32) (M_407 : Mm) (_ : Unit) : Option (Option (Int32 × Mm)) := f_law_J1690 i M_407
def f_arm_23 (xs : Nat → Int32) (L : Nat) (i : Int32) (M : Mm) : Option (Option (Int32 × Mm)) := bd2 (f_L_rank M) fun r_403 M_404 => bd2 (f_X10_rank M_404) fun r_408 M_407 => if (f_X10_thrown M_407) = r_403 then (if r_403 = 0 then rdL 1 M_407 105 (0 : Int32) fun v_411 => if (lg_cmp v_411 r_408) = 0 then f_law_J1630 i M_407 () else none else f_law_J1630 i M_407 ()) else none
set_option maxRecDepth 100000 in
set_option maxHeartbeats 40000000 in
theorem law_arm_23 {K : Kx} {b L : Nat} {xs : Nat → Int32} (C : Cx K cL_law RL 124) (hL : K.2.2.1 = 8) (hX : Sx K b L xs) (i : Int32) (M : Mm) (cA cB : Nat) (hcs : cA + 8 ≤ K.1.R.cells ∧ cB + 48 ≤ K.1.R.slots) (rr : Option (Int32 × Mm)) (hf : f_arm_23 xs L i M = some rr) (hn : ∀ (i' : Int32) (M' : Mm), rr = some (i', M') → G K (cA + 8, cB + 48) 23 [(0, .ref b), (1, .ref (K.2.1.1 + 0)), (2, .ref (K.2.1.1 + 69)), (3, .ref (K.2.1.1 + 105)), (4, .int i')] [] M') : G K (cA, cB) 1590 [(0, .ref b), (1, .ref (K.2.1.1 + 0)), (2, .ref (K.2.1.1 + 69)), (3, .ref (K.2.1.1 + 105)), (4, .int i)] [] M := by
  have hL5 : 5 < K.2.2.1 := by rw [hL]; decide
  have hL7 : 7 < K.2.2.1 := by rw [hL]; decide
  have hJ_1690 : ∀ (M' : Mm), f_law_J1690 i M' = some rr → G K (cA + 8, cB + 48) 1690 [(0, .ref b), (1, .ref (K.2.1.1 + 0)), (2, .ref (K.2.1.1 + 69)), (3, .ref (K.2.1.1 + 105)), (4, .int i)] [] M' := fun M' hf => law_end C hL hX i M' cA cB rr hf hn
  unfold f_arm_23 at hf
  refine g_aload_n 1 C (ckD_get k_L_law_24 20 rfl) rfl rfl ?_
  refine g_aload_n 3 C (ckD_get k_L_law_24 21 rfl) rfl rfl ?_
  obtain ⟨r_403, M_404, hr_405, hf⟩ := bd2_e hf
  refine g_cSW [.ref (K.2.1.1 + 0), .ref (K.2.1.1 + 105)] [] C (ckD_get k_L_law_24 22 rfl) wk_L_163 (t_L_rank C.tr  _ _ hr_405) rfl rfl (Nat.le_of_ble_eq_true rfl) (by decide) ⟨by have := hcs.1; show cA + 1 ≤ _; omega, by have := hcs.2; show cB + 6 ≤ _; omega⟩ rfl ?_
  refine g_istore (lv' := [(5, _), (0, _), (1, _), (2, _), (3, _), (4, _)]) C (ckD_get k_L_law_24 23 rfl) hL5 rfl ?_
  refine g_aload_n 3 C (ckD_get k_L_law_24 24 rfl) rfl rfl ?_
  obtain ⟨r_408, M_407, hr_406, hf⟩ := bd2_e hf
  refine n_cV [] [] C (ckD_get k_L_law_24 25 rfl) vk_L_165 (t_X10_rank C.tr _ _ hr_406) T69 rfl rfl (Nat.le_of_ble_eq_true rfl) (by decide) ⟨by have := hcs.1; show cA + 1 ≤ _; omega, by have := hcs.2; show cB + 6 ≤ _; omega⟩ rfl ?_
  refine g_lstore (lv' := [(6, _), (5, _), (0, _), (1, _), (2, _), (3, _), (4, _)]) C (ckD_get k_L_law_24 26 rfl) hL7 rfl ?_
  refine g_aload_n 4 C (ckD_get k_L_law_24 27 rfl) rfl rfl ?_
  refine n_cV [] [] C (ckD_get k_L_law_24 28 rfl) vk_L_86 (t_X10_thrown C.tr _ _ rfl) T69 rfl rfl (Nat.le_of_ble_eq_true rfl) (by decide) ⟨by have := hcs.1; show cA + 1 ≤ _; omega, by have := hcs.2; show cB + 6 ≤ _; omega⟩ rfl ?_
  refine g_iload 1 C (ckD_get k_L_law_24 29 rfl) rfl ?_
  refine g_icmp_eq C (ckD_get k_L_law_24 30 rfl) (fun c_409 => ?_) (fun c_409 => ?_)
  · have hf := if_t hf c_409
    refine g_iload 1 C (ckD_get k_L_law_24 33 rfl) rfl ?_
    have hJ_1630 : ∀ (_ : Unit), f_law_J1630 i M_407 () = some rr → G K (cA + 1, cB + 6) 1630 [(0, .ref b), (1, .ref (K.2.1.1 + 0)), (2, .ref (K.2.1.1 + 69)), (3, .ref (K.2.1.1 + 105)), (4, .int i)] [] M_407 := by
      intro _ hf
      unfold f_law_J1630 at hf
      refine g_goto C (ckD_get k_L_law_25 3 rfl) ?_
      refine G.wid (cs' := (cA + 8, cB + 48)) (by show cA + 1 ≤ cA + 8; omega) (by show cB + 6 ≤ cB + 48; omega) ?_
      exact hJ_1690 _ hf
    refine g_if_ne C (ckD_get k_L_law_24 34 rfl) (fun c_410 => ?_) (fun c_410 => ?_)
    · have hf := if_f hf c_410
      refine G.sub [2, 3, 4, 5, 6] rfl ?_
      exact hJ_1630 () hf
    · have hf := if_t hf c_410
      refine g_aload_n 5 C (ckD_get k_L_law_24 35 rfl) rfl rfl ?_
      refine g_iconst (v := (0 : Int32)) C (ckD_get k_L_law_24 36 rfl) (by decide) ?_
      obtain ⟨v_411, hi_412, ev_411, hf⟩ := rdL_e hf
      refine n_lald C (ckD_get k_L_law_24 37 rfl) T105 hi_412 ev_411 ?_
      refine g_lload 0 C (ckD_get k_L_law_24 38 rfl) rfl ?_
      refine g_lcmp C (ckD_get k_L_law_24 39 rfl) ?_
      refine g_if_eq C (ckD_get k_L_law_25 0 rfl) (fun c_413 => ?_) (fun c_413 => ?_)
      · have hf := if_t hf c_413
        refine G.sub [2, 3, 4, 5, 6] rfl ?_
        exact hJ_1630 () hf
      · have hf := if_f hf c_413
        cases hf
  · have hf := if_f hf c_409
    cases hf
def f_arm_24 (xs : Nat → Int32) (L : Nat) (i : Int32) (M : Mm) : Option (Option (Int32 × Mm)) := rdX L xs (i + (1 : Int32)) fun v_414 => rdX L xs (i + (2 : Int32)) fun v_416 => bd2 (f_X9_of ((((v_414).toInt64) <<< (((32 : Int32)).toInt64 &&& 63)) ||| (((v_416).toInt64) &&& (4294967295 : Int64))) M) fun r_420 M_419 => rdX L xs (i + (1 : Int32)) fun v_421 => rdX L xs (i + (2 : Int32)) fun v_423 => bd2 (f_X10_of ((((v_421).toInt64) <<< (((32 : Int32)).toInt64 &&& 63)) ||| (((v_423).toInt64) &&& (4294967295 : Int64))) M_419) fun r_427 M_426 => if r_420 = r_427 then f_law_J1690 i M_426 else none
set_option maxRecDepth 100000 in
set_option maxHeartbeats 40000000 in
theorem law_arm_24 {K : Kx} {b L : Nat} {xs : Nat → Int32} (C : Cx K cL_law RL 124) (hL : K.2.2.1 = 8) (hX : Sx K b L xs) (i : Int32) (M : Mm) (cA cB : Nat) (hcs : cA + 8 ≤ K.1.R.cells ∧ cB + 48 ≤ K.1.R.slots) (rr : Option (Int32 × Mm)) (hf : f_arm_24 xs L i M = some rr) (hn : ∀ (i' : Int32) (M' : Mm), rr = some (i', M') → G K (cA + 8, cB + 48) 23 [(0, .ref b), (1, .ref (K.2.1.1 + 0)), (2, .ref (K.2.1.1 + 69)), (3, .ref (K.2.1.1 + 105)), (4, .int i')] [] M') : G K (cA, cB) 1633 [(0, .ref b), (1, .ref (K.2.1.1 + 0)), (2, .ref (K.2.1.1 + 69)), (3, .ref (K.2.1.1 + 105)), (4, .int i)] [] M := by
  have hJ_1690 : ∀ (M' : Mm), f_law_J1690 i M' = some rr → G K (cA + 8, cB + 48) 1690 [(0, .ref b), (1, .ref (K.2.1.1 + 0)), (2, .ref (K.2.1.1 + 69)), (3, .ref (K.2.1.1 + 105)), (4, .int i)] [] M' := fun M' hf => law_end C hL hX i M' cA cB rr hf hn
  unfold f_arm_24 at hf
  refine g_aload_n 1 C (ckD_get k_L_law_25 4 rfl) rfl rfl ?_
  refine g_aload_n 0 C (ckD_get k_L_law_25 5 rfl) rfl rfl ?_
  refine g_iload 4 C (ckD_get k_L_law_25 6 rfl) rfl ?_
  refine g_iconst (v := (1 : Int32)) C (ckD_get k_L_law_25 7 rfl) (by decide) ?_
  refine g_iadd C (ckD_get k_L_law_25 8 rfl) ?_
  obtain ⟨v_414, hi_415, ev_414, hf⟩ := rdX_e hf
  refine g_sld hX C (ckD_get k_L_law_25 9 rfl) hi_415 ev_414 ?_
  refine g_i2l C (ckD_get k_L_law_25 10 rfl) ?_
  refine g_bipush (v := (32 : Int32)) C (ckD_get k_L_law_25 11 rfl) (by decide) ?_
  refine g_lshl C (ckD_get k_L_law_25 12 rfl) ?_
  refine g_aload_n 0 C (ckD_get k_L_law_25 13 rfl) rfl rfl ?_
  refine g_iload 4 C (ckD_get k_L_law_25 14 rfl) rfl ?_
  refine g_iconst (v := (2 : Int32)) C (ckD_get k_L_law_25 15 rfl) (by decide) ?_
  refine g_iadd C (ckD_get k_L_law_25 16 rfl) ?_
  obtain ⟨v_416, hi_417, ev_416, hf⟩ := rdX_e hf
  refine g_sld hX C (ckD_get k_L_law_25 17 rfl) hi_417 ev_416 ?_
  refine g_i2l C (ckD_get k_L_law_25 18 rfl) ?_
  refine g_ldc2 C (ckD_get k_L_law_25 19 rfl) q1543 ?_
  refine g_land C (ckD_get k_L_law_25 20 rfl) ?_
  refine g_lor C (ckD_get k_L_law_25 21 rfl) ?_
  obtain ⟨r_420, M_419, hr_418, hf⟩ := bd2_e hf
  refine n_cV [.long ((((v_414).toInt64) <<< (((32 : Int32)).toInt64 &&& 63)) ||| (((v_416).toInt64) &&& (4294967295 : Int64)))] [] C (ckD_get k_L_law_25 22 rfl) vk_L_166 (t_X9_of C.tr _ _ _ hr_418) T0 rfl rfl (Nat.le_of_ble_eq_true rfl) (by decide) ⟨by have := hcs.1; show cA + 0 ≤ _; omega, by have := hcs.2; show cB + 0 ≤ _; omega⟩ rfl ?_
  refine g_aload_n 2 C (ckD_get k_L_law_25 23 rfl) rfl rfl ?_
  refine g_aload_n 0 C (ckD_get k_L_law_25 24 rfl) rfl rfl ?_
  refine g_iload 4 C (ckD_get k_L_law_25 25 rfl) rfl ?_
  refine g_iconst (v := (1 : Int32)) C (ckD_get k_L_law_25 26 rfl) (by decide) ?_
  refine g_iadd C (ckD_get k_L_law_25 27 rfl) ?_
  obtain ⟨v_421, hi_422, ev_421, hf⟩ := rdX_e hf
  refine g_sld hX C (ckD_get k_L_law_25 28 rfl) hi_422 ev_421 ?_
  refine g_i2l C (ckD_get k_L_law_25 29 rfl) ?_
  refine g_bipush (v := (32 : Int32)) C (ckD_get k_L_law_25 30 rfl) (by decide) ?_
  refine g_lshl C (ckD_get k_L_law_25 31 rfl) ?_
  refine g_aload_n 0 C (ckD_get k_L_law_25 32 rfl) rfl rfl ?_
  refine g_iload 4 C (ckD_get k_L_law_25 33 rfl) rfl ?_
  refine g_iconst (v := (2 : Int32)) C (ckD_get k_L_law_25 34 rfl) (by decide) ?_
  refine g_iadd C (ckD_get k_L_law_25 35 rfl) ?_
  obtain ⟨v_423, hi_424, ev_423, hf⟩ := rdX_e hf
  refine g_sld hX C (ckD_get k_L_law_25 36 rfl) hi_424 ev_423 ?_
  refine g_i2l C (ckD_get k_L_law_25 37 rfl) ?_
  refine g_ldc2 C (ckD_get k_L_law_25 38 rfl) q1543 ?_
  refine g_land C (ckD_get k_L_law_25 39 rfl) ?_
  refine g_lor C (ckD_get k_L_law_26 0 rfl) ?_
  obtain ⟨r_427, M_426, hr_425, hf⟩ := bd2_e hf
  refine n_cV [.long ((((v_421).toInt64) <<< (((32 : Int32)).toInt64 &&& 63)) ||| (((v_423).toInt64) &&& (4294967295 : Int64)))] [.int r_420] C (ckD_get k_L_law_26 1 rfl) vk_L_170 (t_X10_of C.tr _ _ _ hr_425) T69 rfl rfl (Nat.le_of_ble_eq_true rfl) (by decide) ⟨by have := hcs.1; show cA + 0 ≤ _; omega, by have := hcs.2; show cB + 0 ≤ _; omega⟩ rfl ?_
  refine g_icmp_eq C (ckD_get k_L_law_26 2 rfl) (fun c_428 => ?_) (fun c_428 => ?_)
  · have hf := if_t hf c_428
    refine G.wid (cs' := (cA + 8, cB + 48)) (by show cA + 0 ≤ cA + 8; omega) (by show cB + 0 ≤ cB + 48; omega) ?_
    exact hJ_1690 _ hf
  · have hf := if_f hf c_428
    cases hf
def f_turn (xs : Nat → Int32) (L : Nat) (i : Int32) (M : Mm) : Option (Option (Int32 × Mm)) := if ((Int32.ofNat L) - (7 : Int32)) < i then some none else rdX L xs i fun v_430 => lt1 (v_430 &&& (31 : Int32)) fun sw_432 => if sw_432 = (0 : Int32) then (f_arm_0 xs L i M) else if sw_432 = (1 : Int32) then (f_arm_1 xs L i M) else if sw_432 = (2 : Int32) then (f_arm_2 xs L i M) else if sw_432 = (3 : Int32) then (f_arm_3 xs L i M) else if sw_432 = (4 : Int32) then (f_arm_4 xs L i M) else if sw_432 = (5 : Int32) then (f_arm_5 xs L i M) else if sw_432 = (6 : Int32) then (f_arm_6 xs L i M) else if sw_432 = (7 : Int32) then (f_arm_7 xs L i M) else if sw_432 = (8 : Int32) then (f_arm_8 xs L i M) else if sw_432 = (9 : Int32) then (f_arm_9 xs L i M) else if sw_432 = (10 : Int32) then (f_arm_10 xs L i M) else if sw_432 = (11 : Int32) then (f_arm_11 xs L i M) else if sw_432 = (12 : Int32) then (f_arm_12 xs L i M) else if sw_432 = (13 : Int32) then (f_arm_13 xs L i M) else if sw_432 = (14 : Int32) then (f_arm_14 xs L i M) else if sw_432 = (15 : Int32) then (f_arm_15 xs L i M) else if sw_432 = (16 : Int32) then (f_arm_16 xs L i M) else if sw_432 = (17 : Int32) then (f_arm_17 xs L i M) else if sw_432 = (18 : Int32) then (f_arm_18 xs L i M) else if sw_432 = (19 : Int32) then (f_arm_19 xs L i M) else if sw_432 = (20 : Int32) then (f_arm_20 xs L i M) else if sw_432 = (21 : Int32) then (f_arm_21 xs L i M) else if sw_432 = (22 : Int32) then (f_arm_22 xs L i M) else if sw_432 = (23 : Int32) then (f_arm_23 xs L i M) else if sw_432 = (24 : Int32) then (f_arm_24 xs L i M) else (f_law_J1690 i M)
set_option maxRecDepth 100000 in
set_option maxHeartbeats 40000000 in
theorem law_turn {K : Kx} {b L : Nat} {xs : Nat → Int32} (C : Cx K cL_law RL 124) (hL : K.2.2.1 = 8) (hX : Sx K b L xs) (i : Int32) (M : Mm) (cA cB : Nat) (hcs : cA + 8 ≤ K.1.R.cells ∧ cB + 48 ≤ K.1.R.slots) (rr : Option (Int32 × Mm)) (hf : f_turn xs L i M = some rr) (hn : ∀ (i' : Int32) (M' : Mm), rr = some (i', M') → G K (cA + 8, cB + 48) 23 [(0, .ref b), (1, .ref (K.2.1.1 + 0)), (2, .ref (K.2.1.1 + 69)), (3, .ref (K.2.1.1 + 105)), (4, .int i')] [] M') (hx : rr = none → G K (cA, cB) 1696 [(0, .ref b), (1, .ref (K.2.1.1 + 0)), (2, .ref (K.2.1.1 + 69)), (3, .ref (K.2.1.1 + 105)), (4, .int i)] [] M) : G K (cA, cB) 23 [(0, .ref b), (1, .ref (K.2.1.1 + 0)), (2, .ref (K.2.1.1 + 69)), (3, .ref (K.2.1.1 + 105)), (4, .int i)] [] M := by
  unfold f_turn at hf
  refine g_iload 4 C (ckD_get k_L_law_0 13 rfl) rfl ?_
  refine g_aload_n 0 C (ckD_get k_L_law_0 14 rfl) rfl rfl ?_
  refine g_slen hX C (ckD_get k_L_law_0 15 rfl) ?_
  refine g_bipush (v := (7 : Int32)) C (ckD_get k_L_law_0 16 rfl) (by decide) ?_
  refine g_isub C (ckD_get k_L_law_0 17 rfl) ?_
  refine g_icmp_gt C (ckD_get k_L_law_0 18 rfl) (fun c_429 => ?_) (fun c_429 => ?_)
  · have hf := if_t hf c_429
    cases hf
    exact hx rfl
  · have hf := if_f hf c_429
    refine g_aload_n 0 C (ckD_get k_L_law_0 19 rfl) rfl rfl ?_
    refine g_iload 4 C (ckD_get k_L_law_0 20 rfl) rfl ?_
    obtain ⟨v_430, hi_431, ev_430, hf⟩ := rdX_e hf
    refine g_sld hX C (ckD_get k_L_law_0 21 rfl) hi_431 ev_430 ?_
    refine g_bipush (v := (31 : Int32)) C (ckD_get k_L_law_0 22 rfl) (by decide) ?_
    refine g_iand C (ckD_get k_L_law_0 23 rfl) ?_
    obtain ⟨sw_432, esw_432, hf⟩ := lt_e hf
    refine topI esw_432 ?_
    by_cases c_433 : sw_432 = (0 : Int32)
    · have hf := if_t hf c_433
      refine g_tabIn (t := 156) C (ckD_get k_L_law_0 24 rfl) (by rw [c_433]; decide) (by rw [c_433]; decide) (by rw [c_433] <;> rfl) (by decide) ?_
      exact law_arm_0 C hL hX i M cA cB hcs rr hf hn
    · have hf := if_f hf c_433
      by_cases c_434 : sw_432 = (1 : Int32)
      · have hf := if_t hf c_434
        refine g_tabIn (t := 221) C (ckD_get k_L_law_0 24 rfl) (by rw [c_434]; decide) (by rw [c_434]; decide) (by rw [c_434] <;> rfl) (by decide) ?_
        exact law_arm_1 C hL hX i M cA cB hcs rr hf hn
      · have hf := if_f hf c_434
        by_cases c_435 : sw_432 = (2 : Int32)
        · have hf := if_t hf c_435
          refine g_tabIn (t := 234) C (ckD_get k_L_law_0 24 rfl) (by rw [c_435]; decide) (by rw [c_435]; decide) (by rw [c_435] <;> rfl) (by decide) ?_
          exact law_arm_2 C hL hX i M cA cB hcs rr hf hn
        · have hf := if_f hf c_435
          by_cases c_436 : sw_432 = (3 : Int32)
          · have hf := if_t hf c_436
            refine g_tabIn (t := 302) C (ckD_get k_L_law_0 24 rfl) (by rw [c_436]; decide) (by rw [c_436]; decide) (by rw [c_436] <;> rfl) (by decide) ?_
            exact law_arm_3 C hL hX i M cA cB hcs rr hf hn
          · have hf := if_f hf c_436
            by_cases c_437 : sw_432 = (4 : Int32)
            · have hf := if_t hf c_437
              refine g_tabIn (t := 370) C (ckD_get k_L_law_0 24 rfl) (by rw [c_437]; decide) (by rw [c_437]; decide) (by rw [c_437] <;> rfl) (by decide) ?_
              exact law_arm_4 C hL hX i M cA cB hcs rr hf hn
            · have hf := if_f hf c_437
              by_cases c_438 : sw_432 = (5 : Int32)
              · have hf := if_t hf c_438
                refine g_tabIn (t := 383) C (ckD_get k_L_law_0 24 rfl) (by rw [c_438]; decide) (by rw [c_438]; decide) (by rw [c_438] <;> rfl) (by decide) ?_
                exact law_arm_5 C hL hX i M cA cB hcs rr hf hn
              · have hf := if_f hf c_438
                by_cases c_439 : sw_432 = (6 : Int32)
                · have hf := if_t hf c_439
                  refine g_tabIn (t := 498) C (ckD_get k_L_law_0 24 rfl) (by rw [c_439]; decide) (by rw [c_439]; decide) (by rw [c_439] <;> rfl) (by decide) ?_
                  exact law_arm_6 C hL hX i M cA cB hcs rr hf hn
                · have hf := if_f hf c_439
                  by_cases c_440 : sw_432 = (7 : Int32)
                  · have hf := if_t hf c_440
                    refine g_tabIn (t := 611) C (ckD_get k_L_law_0 24 rfl) (by rw [c_440]; decide) (by rw [c_440]; decide) (by rw [c_440] <;> rfl) (by decide) ?_
                    exact law_arm_7 C hL hX i M cA cB hcs rr hf hn
                  · have hf := if_f hf c_440
                    by_cases c_441 : sw_432 = (8 : Int32)
                    · have hf := if_t hf c_441
                      refine g_tabIn (t := 724) C (ckD_get k_L_law_0 24 rfl) (by rw [c_441]; decide) (by rw [c_441]; decide) (by rw [c_441] <;> rfl) (by decide) ?_
                      exact law_arm_8 C hL hX i M cA cB hcs rr hf hn
                    · have hf := if_f hf c_441
                      by_cases c_442 : sw_432 = (9 : Int32)
                      · have hf := if_t hf c_442
                        refine g_tabIn (t := 851) C (ckD_get k_L_law_0 24 rfl) (by rw [c_442]; decide) (by rw [c_442]; decide) (by rw [c_442] <;> rfl) (by decide) ?_
                        exact law_arm_9 C hL hX i M cA cB hcs rr hf hn
                      · have hf := if_f hf c_442
                        by_cases c_443 : sw_432 = (10 : Int32)
                        · have hf := if_t hf c_443
                          refine g_tabIn (t := 907) C (ckD_get k_L_law_0 24 rfl) (by rw [c_443]; decide) (by rw [c_443]; decide) (by rw [c_443] <;> rfl) (by decide) ?_
                          exact law_arm_10 C hL hX i M cA cB hcs rr hf hn
                        · have hf := if_f hf c_443
                          by_cases c_444 : sw_432 = (11 : Int32)
                          · have hf := if_t hf c_444
                            refine g_tabIn (t := 975) C (ckD_get k_L_law_0 24 rfl) (by rw [c_444]; decide) (by rw [c_444]; decide) (by rw [c_444] <;> rfl) (by decide) ?_
                            exact law_arm_11 C hL hX i M cA cB hcs rr hf hn
                          · have hf := if_f hf c_444
                            by_cases c_445 : sw_432 = (12 : Int32)
                            · have hf := if_t hf c_445
                              refine g_tabIn (t := 1030) C (ckD_get k_L_law_0 24 rfl) (by rw [c_445]; decide) (by rw [c_445]; decide) (by rw [c_445] <;> rfl) (by decide) ?_
                              exact law_arm_12 C hL hX i M cA cB hcs rr hf hn
                            · have hf := if_f hf c_445
                              by_cases c_446 : sw_432 = (13 : Int32)
                              · have hf := if_t hf c_446
                                refine g_tabIn (t := 1098) C (ckD_get k_L_law_0 24 rfl) (by rw [c_446]; decide) (by rw [c_446]; decide) (by rw [c_446] <;> rfl) (by decide) ?_
                                exact law_arm_13 C hL hX i M cA cB hcs rr hf hn
                              · have hf := if_f hf c_446
                                by_cases c_447 : sw_432 = (14 : Int32)
                                · have hf := if_t hf c_447
                                  refine g_tabIn (t := 1142) C (ckD_get k_L_law_0 24 rfl) (by rw [c_447]; decide) (by rw [c_447]; decide) (by rw [c_447] <;> rfl) (by decide) ?_
                                  exact law_arm_14 C hL hX i M cA cB hcs rr hf hn
                                · have hf := if_f hf c_447
                                  by_cases c_448 : sw_432 = (15 : Int32)
                                  · have hf := if_t hf c_448
                                    refine g_tabIn (t := 1155) C (ckD_get k_L_law_0 24 rfl) (by rw [c_448]; decide) (by rw [c_448]; decide) (by rw [c_448] <;> rfl) (by decide) ?_
                                    exact law_arm_15 C hL hX i M cA cB hcs rr hf hn
                                  · have hf := if_f hf c_448
                                    by_cases c_449 : sw_432 = (16 : Int32)
                                    · have hf := if_t hf c_449
                                      refine g_tabIn (t := 1206) C (ckD_get k_L_law_0 24 rfl) (by rw [c_449]; decide) (by rw [c_449]; decide) (by rw [c_449] <;> rfl) (by decide) ?_
                                      exact law_arm_16 C hL hX i M cA cB hcs rr hf hn
                                    · have hf := if_f hf c_449
                                      by_cases c_450 : sw_432 = (17 : Int32)
                                      · have hf := if_t hf c_450
                                        refine g_tabIn (t := 1250) C (ckD_get k_L_law_0 24 rfl) (by rw [c_450]; decide) (by rw [c_450]; decide) (by rw [c_450] <;> rfl) (by decide) ?_
                                        exact law_arm_17 C hL hX i M cA cB hcs rr hf hn
                                      · have hf := if_f hf c_450
                                        by_cases c_451 : sw_432 = (18 : Int32)
                                        · have hf := if_t hf c_451
                                          refine g_tabIn (t := 1294) C (ckD_get k_L_law_0 24 rfl) (by rw [c_451]; decide) (by rw [c_451]; decide) (by rw [c_451] <;> rfl) (by decide) ?_
                                          exact law_arm_18 C hL hX i M cA cB hcs rr hf hn
                                        · have hf := if_f hf c_451
                                          by_cases c_452 : sw_432 = (19 : Int32)
                                          · have hf := if_t hf c_452
                                            refine g_tabIn (t := 1362) C (ckD_get k_L_law_0 24 rfl) (by rw [c_452]; decide) (by rw [c_452]; decide) (by rw [c_452] <;> rfl) (by decide) ?_
                                            exact law_arm_19 C hL hX i M cA cB hcs rr hf hn
                                          · have hf := if_f hf c_452
                                            by_cases c_453 : sw_432 = (20 : Int32)
                                            · have hf := if_t hf c_453
                                              refine g_tabIn (t := 1418) C (ckD_get k_L_law_0 24 rfl) (by rw [c_453]; decide) (by rw [c_453]; decide) (by rw [c_453] <;> rfl) (by decide) ?_
                                              exact law_arm_20 C hL hX i M cA cB hcs rr hf hn
                                            · have hf := if_f hf c_453
                                              by_cases c_454 : sw_432 = (21 : Int32)
                                              · have hf := if_t hf c_454
                                                refine g_tabIn (t := 1467) C (ckD_get k_L_law_0 24 rfl) (by rw [c_454]; decide) (by rw [c_454]; decide) (by rw [c_454] <;> rfl) (by decide) ?_
                                                exact law_arm_21 C hL hX i M cA cB hcs rr hf hn
                                              · have hf := if_f hf c_454
                                                by_cases c_455 : sw_432 = (22 : Int32)
                                                · have hf := if_t hf c_455
                                                  refine g_tabIn (t := 1523) C (ckD_get k_L_law_0 24 rfl) (by rw [c_455]; decide) (by rw [c_455]; decide) (by rw [c_455] <;> rfl) (by decide) ?_
                                                  exact law_arm_22 C hL hX i M cA cB hcs rr hf hn
                                                · have hf := if_f hf c_455
                                                  by_cases c_456 : sw_432 = (23 : Int32)
                                                  · have hf := if_t hf c_456
                                                    refine g_tabIn (t := 1590) C (ckD_get k_L_law_0 24 rfl) (by rw [c_456]; decide) (by rw [c_456]; decide) (by rw [c_456] <;> rfl) (by decide) ?_
                                                    exact law_arm_23 C hL hX i M cA cB hcs rr hf hn
                                                  · have hf := if_f hf c_456
                                                    by_cases c_457 : sw_432 = (24 : Int32)
                                                    · have hf := if_t hf c_457
                                                      refine g_tabIn (t := 1633) C (ckD_get k_L_law_0 24 rfl) (by rw [c_457]; decide) (by rw [c_457]; decide) (by rw [c_457] <;> rfl) (by decide) ?_
                                                      exact law_arm_24 C hL hX i M cA cB hcs rr hf hn
                                                    · have hf := if_f hf c_457
                                                      have ic_433 := i32_ne (n := 0) c_433 (by decide)
                                                      have ic_434 := i32_ne (n := 1) c_434 (by decide)
                                                      have ic_435 := i32_ne (n := 2) c_435 (by decide)
                                                      have ic_436 := i32_ne (n := 3) c_436 (by decide)
                                                      have ic_437 := i32_ne (n := 4) c_437 (by decide)
                                                      have ic_438 := i32_ne (n := 5) c_438 (by decide)
                                                      have ic_439 := i32_ne (n := 6) c_439 (by decide)
                                                      have ic_440 := i32_ne (n := 7) c_440 (by decide)
                                                      have ic_441 := i32_ne (n := 8) c_441 (by decide)
                                                      have ic_442 := i32_ne (n := 9) c_442 (by decide)
                                                      have ic_443 := i32_ne (n := 10) c_443 (by decide)
                                                      have ic_444 := i32_ne (n := 11) c_444 (by decide)
                                                      have ic_445 := i32_ne (n := 12) c_445 (by decide)
                                                      have ic_446 := i32_ne (n := 13) c_446 (by decide)
                                                      have ic_447 := i32_ne (n := 14) c_447 (by decide)
                                                      have ic_448 := i32_ne (n := 15) c_448 (by decide)
                                                      have ic_449 := i32_ne (n := 16) c_449 (by decide)
                                                      have ic_450 := i32_ne (n := 17) c_450 (by decide)
                                                      have ic_451 := i32_ne (n := 18) c_451 (by decide)
                                                      have ic_452 := i32_ne (n := 19) c_452 (by decide)
                                                      have ic_453 := i32_ne (n := 20) c_453 (by decide)
                                                      have ic_454 := i32_ne (n := 21) c_454 (by decide)
                                                      have ic_455 := i32_ne (n := 22) c_455 (by decide)
                                                      have ic_456 := i32_ne (n := 23) c_456 (by decide)
                                                      have ic_457 := i32_ne (n := 24) c_457 (by decide)
                                                      refine g_tabOut (t := 1690) C (ckD_get k_L_law_0 24 rfl) (by omega) (by decide) ?_
                                                      refine G.wid (cs' := (cA + 8, cB + 48)) (by show cA + 0 ≤ cA + 8; omega) (by show cB + 0 ≤ cB + 48; omega) ?_
                                                      exact law_end C hL hX i M cA cB rr hf hn
