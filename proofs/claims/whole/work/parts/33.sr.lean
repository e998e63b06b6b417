theorem or_bit {tb n t b : Nat} (h : tb < 2 ^ n) (ht : t < 2) (hb : b < n + 1) : (tb ||| t * 2 ^ n).testBit b = if b = n then decide (t = 1) else tb.testBit b := by
  rw [Nat.testBit_or]
  rcases (by omega : t = 0 ∨ t = 1) with rfl | rfl
  · rw [Nat.zero_mul, Nat.zero_testBit, Bool.or_false]
    split
    · rename_i e; subst e; rw [tb_lt h (Nat.le_refl _)]; rfl
    · rfl
  · rw [Nat.one_mul, Nat.testBit_two_pow]
    split
    · rename_i e; subst e; simp
    · have : ¬ n = b := by omega
      simp [this]
theorem nar_b : ∀ t, t < 2 → vp_nar .boolean (nI t) = nI t := by decide +kernel
theorem r_block {M : Mm} {A : Abs} (hA : AOK A) (hR : RI M A) (a b : Int32) (t : Nat) (ht : t < 2) :
    (A.n = 12 ∨ sideNo a ∨ sideNo b → f_X10_block a b (nI t) M = some (m1, wi M 69 0 (nI 0))) ∧
    (∀ u v, A.n < 12 → 1 ≤ u → u ≤ 200 → 1 ≤ v → v ≤ 200 → Wp (f_X10_block (nI u) (nI v) (nI t) M) (fun r => r.1 = nI A.n ∧ RI r.2 (blk A u v t) ∧ Fr SR M r.2)) := by
  have hn := hA.n
  have e1 : (wi M 69 0 (nI 0)).1 69 1 = nI A.n := hR.n
  refine ⟨fun h => ?_, fun u v h12 hu1 hu2 hv1 hv2 => ?_⟩
  · unfold f_X10_block
    simp (disch := first | assumption | omega) only [↓pz_n1, pz_mm, pz_mm', pz_lt1, pz_bd, pz_bd2, pz_tn, pz_ts, pz_0, pz_1, pz_2, pz_3, pz_4, pz_12, pz_13, pz_15, pz_16, pz_20, pz_23, pz_24, pz_200, pz_rd, pz_wr, pz_add, pz_mul, pz_sub, pz_le, pz_lt, pz_eq, pz_max, pz_min, pz_cl, pz_and, pz_or, pz_shl, pz_clr, pz_bit, pz_ff, pz_tt]
    rw [e1]
    simp (disch := first | assumption | omega) only [↓pz_n1, pz_mm, pz_mm', pz_lt1, pz_bd, pz_bd2, pz_tn, pz_ts, pz_0, pz_1, pz_2, pz_3, pz_4, pz_12, pz_13, pz_15, pz_16, pz_20, pz_23, pz_24, pz_200, pz_rd, pz_wr, pz_add, pz_mul, pz_sub, pz_le, pz_lt, pz_eq, pz_max, pz_min, pz_cl, pz_and, pz_or, pz_shl, pz_clr, pz_bit, pz_ff, pz_tt]
    by_cases h12 : A.n = 12
    · rw [if_pos h12]
    · rw [if_neg h12]
      unfold sideNo at h
      rw [i32_1, i32_200, i32_1, i32_200] at h
      have e1 : (a < nI 1) ↔ a.toInt < 1 := i32_1
      have e2 : (b < nI 1) ↔ b.toInt < 1 := i32_1
      have e3 : (nI 200 < a) ↔ 200 < a.toInt := i32_200
      have e4 : (b ≤ nI 200) ↔ b.toInt ≤ 200 := i32_le200
      simp only [e1, e2, e3, e4]
      repeat' split
      all_goals first | rfl | omega
  · unfold f_X10_block
    simp (disch := first | assumption | omega) only [↓pz_n1, pz_mm, pz_mm', pz_lt1, pz_bd, pz_bd2, pz_tn, pz_ts, pz_0, pz_1, pz_2, pz_3, pz_4, pz_12, pz_13, pz_15, pz_16, pz_20, pz_23, pz_24, pz_200, pz_rd, pz_wr, pz_add, pz_mul, pz_sub, pz_le, pz_lt, pz_eq, pz_max, pz_min, pz_cl, pz_and, pz_or, pz_shl, pz_clr, pz_bit, pz_ff, pz_tt]
    rw [e1]
    have e2 : (wi (wi M 69 0 (nI 0)) 70 A.n (nI u)).1 69 1 = nI A.n := hR.n
    have e3 : (wi (wi (wi M 69 0 (nI 0)) 70 A.n (nI u)) 71 A.n (nI v)).1 69 1 = nI A.n := hR.n
    have e4 : (wi (wi (wi (wi M 69 0 (nI 0)) 70 A.n (nI u)) 71 A.n (nI v)) 73 A.n (nI t)).1 69 1 = nI A.n := hR.n
    have q1 : ¬ A.n = 12 := by omega
    have q2 : ¬ u < 1 := by omega
    have q3 : ¬ 200 < u := by omega
    have q4 : ¬ v < 1 := by omega
    simp (disch := first | assumption | omega) only [↓pz_n1, pz_mm, pz_mm', pz_lt1, pz_bd, pz_bd2, pz_tn, pz_ts, pz_0, pz_1, pz_2, pz_3, pz_4, pz_12, pz_13, pz_15, pz_16, pz_20, pz_23, pz_24, pz_200, pz_rd, pz_wr, pz_add, pz_mul, pz_sub, pz_le, pz_lt, pz_eq, pz_max, pz_min, pz_cl, pz_and, pz_or, pz_shl, pz_clr, pz_bit, pz_ff, pz_tt, e2, e3, e4, nar_b t ht, q1, q2, q3, q4, hv2]
    have sr : ∀ k, 69 ≤ k → k ≤ 104 → SR k := fun k h1 h2 => ⟨h1, h2⟩
    refine wp_s ⟨?_, RI.non rfl rfl hR.s rfl ?_ ?_ ?_ (hR.nt.eq rfl), ?_⟩
    · show nI (A.n + 1) - nI 1 = _
      rw [pz_sub (by omega)]; rfl
    · exact IA.eq (M := wi M 70 A.n (nI u)) (IA.ext hR.w) rfl
    · exact IA.eq (M := wi M 71 A.n (nI v)) (IA.ext hR.h) rfl
    · have h : IA (wi M 73 A.n (nI t)) 73 (A.n + 1) (fun b => ((A.tb ||| t * 2 ^ A.n).testBit b).toNat) := by
        intro j hj
        rw [wi_at]
        show _ = nI ((A.tb ||| t * 2 ^ A.n).testBit j).toNat
        rw [or_bit hA.tb ht hj]
        by_cases e : j = A.n
        · rw [if_pos e, if_pos e]
          rcases (by omega : t = 0 ∨ t = 1) with rfl | rfl <;> rfl
        · rw [if_neg e, if_neg e]; exact hR.tb j (by omega)
      exact IA.eq h rfl
    · exact (((((Fr.rf.w (sr _ (by decide) (by decide))).w (sr _ (by decide) (by decide))).w (sr _ (by decide) (by decide))).w (sr _ (by decide) (by decide))).w (sr _ (by decide) (by decide))).w (sr _ (by decide) (by decide))
