/-! less -/
def lss (A : Abs) : Abs := mkA (A.n - 1) (A.tb &&& (2 ^ (A.n - 1) - 1)) A.td A.s A.ro (-1) A.w A.h (fun k => A.nt k &&& (2 ^ (A.n - 1) - 1)) A.x A.y A.one A.two A.tk A.lf A.rt
theorem pz_ev {M : Mm} {n : Nat} (h : M.1 1 3 = nI n) (hn : n ≤ 12) : f_X0_everyone M = nI (2 ^ n - 1) := by
  unfold f_X0_everyone
  have := Nat.two_pow_pos n
  rw [h, pz_shl1 (by omega), pz_1, pz_sub (by omega)]
theorem c_less {F : Abs → Nat → Mm → Prop} {M : Mm} {A : Abs} (hA : AOK A) (hC : CI F M A) :
    (A.n = 0 → f_X9_less M = some (m1, M)) ∧ (0 < A.n → Wp (f_X9_less M) (fun r => r.1 = nI (A.n - 1) ∧ CI F r.2 (lss A) ∧ Fr SC M r.2)) := by
  have hn := hA.n
  refine ⟨fun h => ?_, fun h => ?_⟩
  · unfold f_X9_less
    rw [hC.n]
    simp (disch := first | assumption | omega) only [↓pz_n1, pz_mm, pz_mm', pz_lt1, pz_bd, pz_bd2, pz_tn, pz_ts, pz_0, pz_1, pz_2, pz_3, pz_4, pz_12, pz_13, pz_15, pz_16, pz_20, pz_23, pz_24, pz_200, pz_rd, pz_wr, pz_add, pz_mul, pz_sub, pz_le, pz_lt, pz_eq, pz_max, pz_min, pz_cl, pz_and, pz_or, pz_shl, pz_clr, pz_bit, pz_ff, pz_tt, h]
  · unfold f_X9_less f_X9_endLaying
    rw [hC.n]
    have h0 : ¬ A.n = 0 := by omega
    simp (disch := first | assumption | omega) only [↓pz_n1, pz_mm, pz_mm', pz_lt1, pz_bd, pz_bd2, pz_tn, pz_ts, pz_0, pz_1, pz_2, pz_3, pz_4, pz_12, pz_13, pz_15, pz_16, pz_20, pz_23, pz_24, pz_200, pz_rd, pz_wr, pz_add, pz_mul, pz_sub, pz_le, pz_lt, pz_eq, pz_max, pz_min, pz_cl, pz_and, pz_or, pz_shl, pz_clr, pz_bit, pz_ff, pz_tt, fg_eq, h0]
    generalize hM' : wi (wi (wi (wi (wi M 0 8 m1) 65 0 (nI 0)) 66 0 (nI 0)) 67 0 (nI 0)) 68 0 (nI 0) = M'
    have f1 : M'.1 1 = M.1 1 := by subst hM'; rfl
    have f2 : M'.1 2 = M.1 2 := by subst hM'; rfl
    have f3 : M'.1 3 = M.1 3 := by subst hM'; rfl
    have f4 : M'.1 4 = M.1 4 := by subst hM'; rfl
    have f0 : M'.1 0 = upd (M.1 0) 8 m1 := by subst hM'; rfl
    have f5 : ∀ k, k < 4 → M'.1 (65 + k) 0 = 0 := by
      subst hM'
      intro k hk
      match k with
      | 0 => rfl
      | 1 => rfl
      | 2 => rfl
      | 3 => rfl
      | k + 4 => omega
    have f6 : Fr SC M M' := by
      subst hM'
      exact ((((Fr.rf.w (show SC 0 by unfold SC; omega)).w (show SC 65 by unfold SC; omega)).w (show SC 66 by unfold SC; omega)).w (show SC 67 by unfold SC; omega)).w (show SC 68 by unfold SC; omega)
    have hd : f_X0_drop M' = wi (wi M' 1 3 (nI (A.n - 1))) 1 2 (nI (A.tb &&& (2 ^ (A.n - 1) - 1))) := by
      unfold f_X0_drop
      have e1 : M'.1 1 3 = nI A.n := by rw [f1]; exact hC.n
      have e2 : (wi M' 1 3 (nI (A.n - 1))).1 1 2 = nI A.tb := by
        show M'.1 1 2 = _
        rw [f1]; exact hC.tb
      have e3 : f_X0_everyone (wi M' 1 3 (nI (A.n - 1))) = nI (2 ^ (A.n - 1) - 1) := pz_ev rfl (by omega)
      simp (disch := first | assumption | omega) only [↓pz_n1, pz_mm, pz_mm', pz_lt1, pz_bd, pz_bd2, pz_tn, pz_ts, pz_0, pz_1, pz_2, pz_3, pz_4, pz_12, pz_13, pz_15, pz_16, pz_20, pz_23, pz_24, pz_200, pz_rd, pz_wr, pz_add, pz_mul, pz_sub, pz_le, pz_lt, pz_eq, pz_max, pz_min, pz_cl, pz_and, pz_or, pz_shl, pz_clr, pz_bit, pz_ff, pz_tt, e1, e2, e3]
    rw [hd]
    generalize hM2 : wi (wi M' 1 3 (nI (A.n - 1))) 1 2 (nI (A.tb &&& (2 ^ (A.n - 1) - 1))) = M2
    have g1 : M2.1 1 3 = nI (A.n - 1) := by subst hM2; rfl
    have g2 : M2.1 1 2 = nI (A.tb &&& (2 ^ (A.n - 1) - 1)) := by subst hM2; rfl
    have gk : ∀ k, k ≠ 1 → M2.1 k = M'.1 k := by subst hM2; intro k hk; rw [wi_n _ _ _ hk, wi_n _ _ _ hk]
    have g6 : Fr SC M M2 := by subst hM2; exact (f6.w (show SC 1 by unfold SC; omega)).w (show SC 1 by unfold SC; omega)
    refine wp_b (P := fun z => (∀ j, z.1 4 j = if j < 20 then nI (A.nt j &&& (2 ^ (A.n - 1) - 1)) else M2.1 4 j) ∧ (∀ k, k ≠ 4 → z.1 k = M2.1 k) ∧ Fr SC M z) ?_ ?_
    · refine wp_l (fun i (v : Int32 × Mm) => v.1 = nI i ∧ (∀ j, v.2.1 4 j = if j < i then nI (A.nt j &&& (2 ^ (A.n - 1) - 1)) else M2.1 4 j) ∧ (∀ k, k ≠ 4 → v.2.1 k = M2.1 k) ∧ Fr SC M v.2) 20 (fu_lt (by omega)) ?_ ?_ ⟨rfl, ?_, fun _ _ => rfl, g6⟩
      · rintro i ⟨v, M3⟩ hi ⟨h1, h2, h3, h4⟩
        have h1 : v = nI i := h1
        subst h1
        unfold f_X9_less_L25
        have e1 : M3.1 4 i = nI (A.nt i) := by
          have : M3.1 4 i = _ := h2 i
          rw [this]
          rw [if_neg (by omega), gk 4 (by decide), f4]
          exact hC.nt i hi
        have e2 : f_X0_everyone M3 = nI (2 ^ (A.n - 1) - 1) := pz_ev (by have : M3.1 1 = _ := h3 1 (by decide); rw [this]; exact g1) (by omega)
        have hi' : ¬ 20 ≤ i := by omega
        simp (disch := first | assumption | omega) only [↓pz_n1, pz_mm, pz_mm', pz_lt1, pz_bd, pz_bd2, pz_tn, pz_ts, pz_0, pz_1, pz_2, pz_3, pz_4, pz_12, pz_13, pz_15, pz_16, pz_20, pz_23, pz_24, pz_200, pz_rd, pz_wr, pz_add, pz_mul, pz_sub, pz_le, pz_lt, pz_eq, pz_max, pz_min, pz_cl, pz_and, pz_or, pz_shl, pz_clr, pz_bit, pz_ff, pz_tt, e1, e2, hi']
        refine wp_s (Or.inl ⟨_, rfl, rfl, ?_, fun k hk => ?_, h4.w (show SC 4 by unfold SC; omega)⟩)
        · intro j
          show (wi M3 4 i _).1 4 j = _
          rw [wi_at]
          have : M3.1 4 j = _ := h2 j
          rw [this]
          by_cases e : j = i
          · subst e; simp
          · by_cases e2 : j < i
            · simp [e, e2, show j < i + 1 by omega]
            · simp [e, e2, show ¬ j < i + 1 by omega]
        · show (wi M3 4 i _).1 k = _
          rw [wi_n _ _ _ hk]; exact h3 k hk
      · rintro ⟨v, M3⟩ ⟨h1, h2, h3, h4⟩
        have h1 : v = nI 20 := h1
        subst h1
        unfold f_X9_less_L25
        simp (disch := first | assumption | omega) only [↓pz_n1, pz_mm, pz_mm', pz_lt1, pz_bd, pz_bd2, pz_tn, pz_ts, pz_0, pz_1, pz_2, pz_3, pz_4, pz_12, pz_13, pz_15, pz_16, pz_20, pz_23, pz_24, pz_200, pz_rd, pz_wr, pz_add, pz_mul, pz_sub, pz_le, pz_lt, pz_eq, pz_max, pz_min, pz_cl, pz_and, pz_or, pz_shl, pz_clr, pz_bit, pz_ff, pz_tt]
        rw [if_pos (by omega)]
        exact wp_s ⟨_, rfl, h2, h3, h4⟩
      · intro j; rw [if_neg (by omega)]
    · rintro z ⟨h1, h2, h3⟩
      unfold f_X9_less_A25
      refine wp_s ⟨?_, CI.non rfl ?_ ?_ ?_ ?_ ?_ ?_ ?_ ?_, h3⟩
      · show z.1 1 3 = _
        rw [h2 1 (by decide)]; exact g1
      · show z.1 0 8 = _
        rw [h2 0 (by decide), gk 0 (by decide), f0]; rfl
      · show z.1 0 9 = _
        rw [h2 0 (by decide), gk 0 (by decide), f0]; exact hC.s
      · show z.1 1 3 = _
        rw [h2 1 (by decide)]; exact g1
      · show z.1 1 2 = _
        rw [h2 1 (by decide)]; exact g2
      · exact (hC.w.sub (show A.n - 1 ≤ A.n by omega)).eq (by show z.1 2 = _; rw [h2 2 (by decide), gk 2 (by decide), f2])
      · exact (hC.h.sub (show A.n - 1 ≤ A.n by omega)).eq (by show z.1 3 = _; rw [h2 3 (by decide), gk 3 (by decide), f3])
      · intro j hj
        show z.1 4 j = _
        rw [h1, if_pos hj]; rfl
      · intro k hk
        show z.1 (65 + k) 0 = 0
        rw [h2 _ (by omega), gk _ (by omega)]; exact f5 k hk
theorem r_less {M : Mm} {A : Abs} (hA : AOK A) (hR : RI M A) :
    (A.n = 0 → f_X10_less M = some (m1, wi M 69 0 (nI 0))) ∧ (0 < A.n → Wp (f_X10_less M) (fun r => r.1 = nI (A.n - 1) ∧ RI r.2 (lss A) ∧ Fr SR M r.2)) := by
  have hn := hA.n
  have e1 : (wi M 69 0 (nI 0)).1 69 1 = nI A.n := hR.n
  refine ⟨fun h => ?_, fun h => ?_⟩
  · unfold f_X10_less
    simp (disch := first | assumption | omega) only [↓pz_n1, pz_mm, pz_mm', pz_lt1, pz_bd, pz_bd2, pz_tn, pz_ts, pz_0, pz_1, pz_2, pz_3, pz_4, pz_12, pz_13, pz_15, pz_16, pz_20, pz_23, pz_24, pz_200, pz_rd, pz_wr, pz_add, pz_mul, pz_sub, pz_le, pz_lt, pz_eq, pz_max, pz_min, pz_cl, pz_and, pz_or, pz_shl, pz_clr, pz_bit, pz_ff, pz_tt, e1, h]
  · unfold f_X10_less
    have h0 : ¬ A.n = 0 := by omega
    simp (disch := first | assumption | omega) only [↓pz_n1, pz_mm, pz_mm', pz_lt1, pz_bd, pz_bd2, pz_tn, pz_ts, pz_0, pz_1, pz_2, pz_3, pz_4, pz_12, pz_13, pz_15, pz_16, pz_20, pz_23, pz_24, pz_200, pz_rd, pz_wr, pz_add, pz_mul, pz_sub, pz_le, pz_lt, pz_eq, pz_max, pz_min, pz_cl, pz_and, pz_or, pz_shl, pz_clr, pz_bit, pz_ff, pz_tt, e1, h0]
    generalize hM2 : wi (wi M 69 0 (nI 0)) 69 1 (nI (A.n - 1)) = M2
    have g1 : M2.1 69 1 = nI (A.n - 1) := by subst hM2; rfl
    have gs : M2.1 69 41 = nI A.s := by subst hM2; exact hR.s
    have gk : ∀ k, k ≠ 69 → M2.1 k = M.1 k := by subst hM2; intro k hk; rw [wi_n _ _ _ hk, wi_n _ _ _ hk]
    have g6 : Fr SR M M2 := by subst hM2; exact fr69.w ⟨by decide, by decide⟩
    have hp := Nat.two_pow_pos (A.n - 1)
    refine wp_b (P := fun z => (∀ j, z.1 72 j = if j < 20 then nI (A.nt j &&& (2 ^ (A.n - 1) - 1)) else M2.1 72 j) ∧ (∀ k, k ≠ 72 → z.1 k = M2.1 k) ∧ Fr SR M z) ?_ ?_
    · refine wp_l (fun i (v : Int32 × Mm) => v.1 = nI i ∧ (∀ j, v.2.1 72 j = if j < i then nI (A.nt j &&& (2 ^ (A.n - 1) - 1)) else M2.1 72 j) ∧ (∀ k, k ≠ 72 → v.2.1 k = M2.1 k) ∧ Fr SR M v.2) 20 (fu_lt (by omega)) ?_ ?_ ⟨rfl, ?_, fun _ _ => rfl, g6⟩
      · rintro i ⟨v, M3⟩ hi ⟨h1, h2, h3, h4⟩
        have h1 : v = nI i := h1
        subst h1
        unfold f_X10_less_L26
        have e1 : M3.1 72 i = nI (A.nt i) := by
          have : M3.1 72 i = _ := h2 i
          rw [this]
          rw [if_neg (by omega), gk 72 (by decide)]
          exact hR.nt i hi
        have e2 : M3.1 69 1 = nI (A.n - 1) := by have : M3.1 69 = _ := h3 69 (by decide); rw [this]; exact g1
        have hi' : ¬ 20 ≤ i := by omega
        simp (disch := first | assumption | omega) only [↓pz_n1, pz_mm, pz_mm', pz_lt1, pz_bd, pz_bd2, pz_tn, pz_ts, pz_0, pz_1, pz_2, pz_3, pz_4, pz_12, pz_13, pz_15, pz_16, pz_20, pz_23, pz_24, pz_200, pz_rd, pz_wr, pz_add, pz_mul, pz_sub, pz_le, pz_lt, pz_eq, pz_max, pz_min, pz_cl, pz_and, pz_or, pz_shl, pz_clr, pz_bit, pz_ff, pz_tt, e1, e2, hi']
        refine wp_s (Or.inl ⟨_, rfl, rfl, ?_, fun k hk => ?_, h4.w ⟨by decide, by decide⟩⟩)
        · intro j
          show (wi M3 72 i _).1 72 j = _
          rw [wi_at]
          have : M3.1 72 j = _ := h2 j
          rw [this]
          by_cases e : j = i
          · subst e; simp
          · by_cases e2 : j < i
            · simp [e, e2, show j < i + 1 by omega]
            · simp [e, e2, show ¬ j < i + 1 by omega]
        · show (wi M3 72 i _).1 k = _
          rw [wi_n _ _ _ hk]; exact h3 k hk
      · rintro ⟨v, M3⟩ ⟨h1, h2, h3, h4⟩
        have h1 : v = nI 20 := h1
        subst h1
        unfold f_X10_less_L26
        simp (disch := first | assumption | omega) only [↓pz_n1, pz_mm, pz_mm', pz_lt1, pz_bd, pz_bd2, pz_tn, pz_ts, pz_0, pz_1, pz_2, pz_3, pz_4, pz_12, pz_13, pz_15, pz_16, pz_20, pz_23, pz_24, pz_200, pz_rd, pz_wr, pz_add, pz_mul, pz_sub, pz_le, pz_lt, pz_eq, pz_max, pz_min, pz_cl, pz_and, pz_or, pz_shl, pz_clr, pz_bit, pz_ff, pz_tt]
        rw [if_pos (by omega)]
        exact wp_s ⟨_, rfl, h2, h3, h4⟩
      · intro j; rw [if_neg (by omega)]
    · rintro z ⟨h1, h2, h3⟩
      unfold f_X10_less_A26
      have z69 : z.1 69 = M2.1 69 := h2 69 (by decide)
      refine wp_s ⟨?_, RI.non rfl rfl ?_ ?_ ?_ ?_ ?_ ?_, h3.w ⟨by decide, by decide⟩⟩
      · show z.1 69 1 = _
        rw [z69]; exact g1
      · show z.1 69 41 = _
        rw [z69]; exact gs
      · show z.1 69 1 = _
        rw [z69]; exact g1
      · exact (hR.w.sub (show A.n - 1 ≤ A.n by omega)).eq (by show z.1 70 = _; rw [h2 70 (by decide), gk 70 (by decide)])
      · exact (hR.h.sub (show A.n - 1 ≤ A.n by omega)).eq (by show z.1 71 = _; rw [h2 71 (by decide), gk 71 (by decide)])
      · have : IA M 73 (A.n - 1) (fun b => ((A.tb &&& (2 ^ (A.n - 1) - 1)).testBit b).toNat) := (hR.tb.sub (show A.n - 1 ≤ A.n by omega)).cg (fun j hj => by
          rw [Nat.testBit_and, Nat.testBit_two_pow_sub_one]
          simp [hj])
        exact this.eq (by show z.1 73 = _; rw [h2 73 (by decide), gk 73 (by decide)])
      · intro j hj
        show z.1 72 j = _
        rw [h1, if_pos hj]; rfl
theorem and_mask_lt (a m : Nat) : a &&& (2 ^ m - 1) < 2 ^ m := and_lt' (by have := Nat.two_pow_pos m; omega)
theorem AOK.lss {A : Abs} (hA : AOK A) : AOK (lss A) := by
  have := hA.n
  exact AOK.non rfl (by show A.n - 1 ≤ 12; omega) (fun b hb => hA.w b (by have : b < A.n - 1 := hb; omega)) (fun b hb => hA.h b (by have : b < A.n - 1 := hb; omega)) (and_mask_lt _ _) (fun k hk => and_mask_lt _ _) hA.s
theorem arm_1 {F : Abs → Nat → Mm → Prop} (hF : FOK F) {xs : Nat → Int32} {L n : Nat} {M : Mm} (hI : Inv F M) : Nx F n (f_arm_1 xs L (nI n) M) := by
  obtain ⟨A, hA, hC, hR⟩ := hI
  unfold f_arm_1
  by_cases h0 : A.n = 0
  · rw [(c_less hA hC).1 h0]
    simp (disch := first | assumption | omega) only [↓pz_n1, pz_mm, pz_mm', pz_lt1, pz_bd, pz_bd2, pz_tn, pz_ts, pz_0, pz_1, pz_2, pz_3, pz_4, pz_12, pz_13, pz_15, pz_16, pz_20, pz_23, pz_24, pz_200, pz_rd, pz_wr, pz_add, pz_mul, pz_sub, pz_le, pz_lt, pz_eq, pz_max, pz_min, pz_cl, pz_and, pz_or, pz_shl, pz_clr, pz_bit, pz_ff, pz_tt]
    rw [(r_less hA hR).1 h0]
    simp (disch := first | assumption | omega) only [↓pz_n1, pz_mm, pz_mm', pz_lt1, pz_bd, pz_bd2, pz_tn, pz_ts, pz_0, pz_1, pz_2, pz_3, pz_4, pz_12, pz_13, pz_15, pz_16, pz_20, pz_23, pz_24, pz_200, pz_rd, pz_wr, pz_add, pz_mul, pz_sub, pz_le, pz_lt, pz_eq, pz_max, pz_min, pz_cl, pz_and, pz_or, pz_shl, pz_clr, pz_bit, pz_ff, pz_tt]
    exact nx_end ⟨A, hA, hC.fr hF (S := SR) fr69 (fun _ h => fr_apart' h), hR.code _⟩
  · obtain ⟨⟨r1, M1⟩, e1, hr1, hC1, hf1⟩ := (c_less hA hC).2 (by omega)
    obtain ⟨⟨r2, M2⟩, e2, hr2, hR2, hf2⟩ := (r_less hA (hR.fr hf1 (fun _ h => fr_apart h))).2 (by omega)
    rw [e1]
    simp (disch := first | assumption | omega) only [↓pz_n1, pz_mm, pz_mm', pz_lt1, pz_bd, pz_bd2, pz_tn, pz_ts, pz_0, pz_1, pz_2, pz_3, pz_4, pz_12, pz_13, pz_15, pz_16, pz_20, pz_23, pz_24, pz_200, pz_rd, pz_wr, pz_add, pz_mul, pz_sub, pz_le, pz_lt, pz_eq, pz_max, pz_min, pz_cl, pz_and, pz_or, pz_shl, pz_clr, pz_bit, pz_ff, pz_tt]
    rw [e2]
    simp (disch := first | assumption | omega) only [↓pz_n1, pz_mm, pz_mm', pz_lt1, pz_bd, pz_bd2, pz_tn, pz_ts, pz_0, pz_1, pz_2, pz_3, pz_4, pz_12, pz_13, pz_15, pz_16, pz_20, pz_23, pz_24, pz_200, pz_rd, pz_wr, pz_add, pz_mul, pz_sub, pz_le, pz_lt, pz_eq, pz_max, pz_min, pz_cl, pz_and, pz_or, pz_shl, pz_clr, pz_bit, pz_ff, pz_tt]
    rw [if_pos (hr1.trans hr2.symm)]
    exact nx_end (inv_step hF hA.lss hC1 hR2 hf2)
