/-! the number of bits -/
def bcn (m n : Nat) : Nat := smn (fun b => (m.testBit b).toNat) n
theorem bcn_ext {m n : Nat} (h : m < 2 ^ n) : ∀ k, n ≤ k → bcn m k = bcn m n
  | 0, hk => by have : n = 0 := by omega
                rw [this]
  | k + 1, hk => by
    by_cases e : n = k + 1
    · rw [e]
    · show bcn m k + (m.testBit k).toNat = _
      rw [bcn_ext h k (by omega), tb_lt h (by omega : n ≤ k)]
      rfl
set_option maxRecDepth 100000 in
theorem bc_tab : ∀ a, a < 64 → ∀ b, b < 64 → f_J6_bitCount_0f7a4 (nI (64 * a + b)) = nI (bcn (64 * a + b) 12) := by decide +kernel
theorem pz_bc {m n : Nat} (h : m < 2 ^ n) (hn : n ≤ 12) : f_J6_bitCount_0f7a4 (nI m) = nI (bcn m n) := by
  have h1 := p12 h hn
  have h2 := bc_tab (m / 64) (by omega) (m % 64) (by omega)
  rw [Nat.div_add_mod, bcn_ext h 12 hn] at h2
  exact h2
theorem bcn_le (m : Nat) : ∀ n, bcn m n ≤ n
  | 0 => Nat.le_refl _
  | n + 1 => by
    have := bcn_le m n
    have := bool_lt (m.testBit n)
    show bcn m n + (m.testBit n).toNat ≤ n + 1
    omega
/-! net -/
def ntS (A : Abs) (k v : Nat) : Abs := mkA A.n A.tb A.td A.s A.ro A.kd A.w A.h (fset A.nt k v) A.x A.y A.one A.two A.tk A.lf A.rt
theorem AOK.nts {A : Abs} (h : AOK A) {k v : Nat} (hv : v < 2 ^ A.n) : AOK (ntS A k v) := by
  refine ⟨h.n, h.w, h.h, h.tb, fun j hj => ?_, h.s, h.kd, h.ly, h.k1, h.k2, h.k3⟩
  show fset A.nt k v j < 2 ^ A.n
  unfold fset
  split
  · exact hv
  · exact h.nt j hj
theorem ev_eq {M : Mm} {n : Nat} (h : M.1 1 3 = nI n) (hn : n ≤ 12) : f_X0_everyone M = nI (2 ^ n - 1) := pz_ev h hn
theorem IA.set {M : Mm} {k n i x : Nat} {a : Nat → Nat} (h : IA M k n a) : IA (wi M k i (nI x)) k n (fset a i x) := h.w
theorem arm_3 {F : Abs → Nat → Mm → Prop} (hF : FOK F) {xs : Nat → Int32} {L n : Nat} {M : Mm} (hL : L ≤ 3584) (hn : n + 7 ≤ L) (hI : Inv F M) : Nx F n (f_arm_3 xs L (nI n) M) := by
  obtain ⟨A, hA, hC, hR⟩ := hI
  have hn12 := hA.n
  have hp := Nat.two_pow_pos A.n
  have hp2 := pow_lt31 hn12
  unfold f_arm_3
  simp (disch := first | assumption | omega) only [↓pz_n1, pz_mm, pz_mm', ↓pz_lt1, ↓pz_bd, ↓pz_bd2, ↓pz_tn, ↓pz_ts, pz_0, pz_1, pz_2, pz_3, pz_4, pz_12, pz_13, pz_15, pz_16, pz_20, pz_23, pz_24, pz_200, ↓pz_rd, ↓pz_wr, pz_add, pz_mul, pz_sub, pz_le, pz_lt, pz_eq, pz_max, pz_min, pz_cl, pz_and, pz_or, pz_shl, pz_clr, pz_bit, pz_ff, pz_tt, pz_5, pz_6, pz_7, pz_10000, pz_sb, pz_b0, pz_b1, pz_rdX]
  generalize xs (n + 1) = a
  generalize xs (n + 2) = c
  have key : ∃ o A', AOK A' ∧ Wp (f_X9_net a c M) (fun r => r.1 = o ∧ CI F r.2 A' ∧ Fr SC M r.2) ∧ ∀ M1, RI M1 A → RQr M1 A' o (f_X10_net a c M1) := by
    unfold f_X9_net f_X10_net f_X9_net_J10 f_X10_net_J15 f_X10_fail
    rcases sw_of a (k := 19) (by omega) with ⟨k, hk, rfl⟩ | ⟨ha, _⟩
    · have hlt : msk c (2 ^ A.n - 1) < 2 ^ A.n := msk_lt (by omega)
      generalize hm : msk c (2 ^ A.n - 1) = m at hlt
      refine ⟨some (nI (bcn m A.n)), ntS A k m, hA.nts hlt, ?_, fun M1 h => ?_⟩
      · have e1 : c &&& nI (2 ^ A.n - 1) = nI m := by rw [pz_msk, hm]
        have hk1 : ¬ k < 0 := by omega
        have hk2 : k < 20 := by omega
        have e2 : ∀ v : Int32, (wi M 4 k v).1 4 k = v := fun v => by rw [wi_at, if_pos rfl]
        simp (disch := first | assumption | omega) only [↓pz_n1, pz_mm, pz_mm', ↓pz_lt1, ↓pz_bd, ↓pz_bd2, ↓pz_tn, ↓pz_ts, pz_0, pz_1, pz_2, pz_3, pz_4, pz_12, pz_13, pz_15, pz_16, pz_20, pz_23, pz_24, pz_200, ↓pz_rd, ↓pz_wr, pz_add, pz_mul, pz_sub, pz_le, pz_lt, pz_eq, pz_max, pz_min, pz_cl, pz_and, pz_or, pz_shl, pz_clr, pz_bit, pz_ff, pz_tt, pz_5, pz_6, pz_7, pz_10000, pz_sb, pz_b0, pz_b1, hk1, hk2, ev_eq hC.n hn12, e1, e2, pz_bc hlt hn12]
        refine wp_s ⟨rfl, ⟨hC.kd, hC.s, hC.n, hC.tb, hC.w.eq rfl, hC.h.eq rfl, hC.nt.set, hC.gd, hC.k1, hC.k2, hC.k3, fun j hj => ?_⟩, Fr.rf.w (show SC 4 by unfold SC; omega)⟩
        have hne : 65 + j ≠ 4 := by omega
        rw [wi_n _ _ _ hne]
        rcases hC.fn j hj with h1 | h1
        · exact Or.inl h1
        · exact Or.inr (hF A _ j M _ hj h1 rfl rfl rfl rfl (wi_n _ _ _ hne) rfl)
      · have e1 : c &&& nI (2 ^ A.n - 1) = nI m := by rw [pz_msk, hm]
        have hk1 : ¬ k < 0 := by omega
        have hk2 : k < 20 := by omega
        have hk2 : k < 20 := by omega
        have e3 : (wi M1 69 0 (nI 0)).1 69 1 = nI A.n := h.n
        simp (disch := first | assumption | omega) only [↓pz_n1, pz_mm, pz_mm', ↓pz_lt1, ↓pz_bd, ↓pz_bd2, ↓pz_tn, ↓pz_ts, pz_0, pz_1, pz_2, pz_3, pz_4, pz_12, pz_13, pz_15, pz_16, pz_20, pz_23, pz_24, pz_200, ↓pz_rd, ↓pz_wr, pz_add, pz_mul, pz_sub, pz_le, pz_lt, pz_eq, pz_max, pz_min, pz_cl, pz_and, pz_or, pz_shl, pz_clr, pz_bit, pz_ff, pz_tt, pz_5, pz_6, pz_7, pz_10000, pz_sb, pz_b0, pz_b1, hk1, hk2, e3, e1]
        generalize hM2 : wi (wi M1 69 0 (nI 0)) 72 k (nI m) = M2
        have e4 : M2.1 69 1 = nI A.n := by subst hM2; exact h.n
        have e5 : M2.1 72 k = nI m := by subst hM2; rw [wi_at, if_pos rfl]
        have e6 : loop (fun v => f_X10_net_L41 (nI k) M2 v.1 v.2) FU (nI 0, nI 0) = some (nI (bcn m A.n)) := by
          have hm31 : m < 2147483648 := by have := p12 hlt hn12; omega
          refine lp_n (fun i => (nI (bcn m i), nI i)) A.n (fu_lt (by omega)) (fun i hi => ?_) ?_
          · show f_X10_net_L41 _ M2 (nI (bcn m i)) (nI i) = _
            unfold f_X10_net_L41
            have h1 : ¬ A.n ≤ i := by omega
            simp (disch := first | assumption | omega) only [↓pz_n1, pz_mm, pz_mm', ↓pz_lt1, ↓pz_bd, ↓pz_bd2, ↓pz_tn, ↓pz_ts, pz_0, pz_1, pz_2, pz_3, pz_4, pz_12, pz_13, pz_15, pz_16, pz_20, pz_23, pz_24, pz_200, ↓pz_rd, ↓pz_wr, pz_add, pz_mul, pz_sub, pz_le, pz_lt, pz_eq, pz_max, pz_min, pz_cl, pz_and, pz_or, pz_shl, pz_clr, pz_bit, pz_ff, pz_tt, pz_5, pz_6, pz_7, pz_10000, pz_sb, pz_b0, pz_b1, e4, e5, h1]
            rfl
          · show f_X10_net_L41 _ M2 (nI (bcn m A.n)) (nI A.n) = _
            unfold f_X10_net_L41
            simp (disch := first | assumption | omega) only [↓pz_n1, pz_mm, pz_mm', ↓pz_lt1, ↓pz_bd, ↓pz_bd2, ↓pz_tn, ↓pz_ts, pz_0, pz_1, pz_2, pz_3, pz_4, pz_12, pz_13, pz_15, pz_16, pz_20, pz_23, pz_24, pz_200, ↓pz_rd, ↓pz_wr, pz_add, pz_mul, pz_sub, pz_le, pz_lt, pz_eq, pz_max, pz_min, pz_cl, pz_and, pz_or, pz_shl, pz_clr, pz_bit, pz_ff, pz_tt, pz_5, pz_6, pz_7, pz_10000, pz_sb, pz_b0, pz_b1, e4]
            rw [if_pos (Nat.le_refl _)]
        rw [e6]
        simp (disch := first | assumption | omega) only [↓pz_n1, pz_mm, pz_mm', ↓pz_lt1, ↓pz_bd, ↓pz_bd2, ↓pz_tn, ↓pz_ts, pz_0, pz_1, pz_2, pz_3, pz_4, pz_12, pz_13, pz_15, pz_16, pz_20, pz_23, pz_24, pz_200, ↓pz_rd, ↓pz_wr, pz_add, pz_mul, pz_sub, pz_le, pz_lt, pz_eq, pz_max, pz_min, pz_cl, pz_and, pz_or, pz_shl, pz_clr, pz_bit, pz_ff, pz_tt, pz_5, pz_6, pz_7, pz_10000, pz_sb, pz_b0, pz_b1]
        unfold f_X10_net_A41
        subst hM2
        refine wp_s ⟨⟨h.kd, h.s, h.n, h.w.eq rfl, h.h.eq rfl, h.tb.eq rfl, ?_, h.gd, h.k1, h.k2, h.k3⟩, fr69.w ⟨by decide, by decide⟩, Or.inr ⟨_, rfl, rfl, rfl⟩⟩
        exact IA.set (M := wi M1 69 0 (nI 0)) (h.nt.eq rfl)
    · have ha' : a < nI 0 ∨ ¬ a < nI 20 := by
        rcases ha with h | ⟨h, _, h0⟩
        · exact Or.inl h
        · obtain ⟨j, hj, rfl⟩ := nI_of h0
          rw [pz_le hj (by omega)] at h
          exact Or.inr (by rw [pz_lt hj (by omega)]; omega)
      refine ⟨none, A, hA, ?_, fun M1 h => ?_⟩
      · simp (disch := first | assumption | omega) only [↓pz_n1, pz_mm, pz_mm', ↓pz_lt1, ↓pz_bd, ↓pz_bd2, ↓pz_tn, ↓pz_ts, pz_0, pz_1, pz_2, pz_3, pz_4, pz_12, pz_13, pz_15, pz_16, pz_20, pz_23, pz_24, pz_200, ↓pz_rd, ↓pz_wr, pz_add, pz_mul, pz_sub, pz_le, pz_lt, pz_eq, pz_max, pz_min, pz_cl, pz_and, pz_or, pz_shl, pz_clr, pz_bit, pz_ff, pz_tt, pz_5, pz_6, pz_7, pz_10000, pz_sb, pz_b0, pz_b1]
        rcases ha' with h | h
        · rw [if_pos h]; exact wp_s ⟨rfl, hC, Fr.rf⟩
        · rw [if_neg h]; split <;> exact wp_s ⟨rfl, hC, Fr.rf⟩
      · simp (disch := first | assumption | omega) only [↓pz_n1, pz_mm, pz_mm', ↓pz_lt1, ↓pz_bd, ↓pz_bd2, ↓pz_tn, ↓pz_ts, pz_0, pz_1, pz_2, pz_3, pz_4, pz_12, pz_13, pz_15, pz_16, pz_20, pz_23, pz_24, pz_200, ↓pz_rd, ↓pz_wr, pz_add, pz_mul, pz_sub, pz_le, pz_lt, pz_eq, pz_max, pz_min, pz_cl, pz_and, pz_or, pz_shl, pz_clr, pz_bit, pz_ff, pz_tt, pz_5, pz_6, pz_7, pz_10000, pz_sb, pz_b0, pz_b1]
        rcases ha' with h1 | h1
        · rw [if_pos h1]; exact rq_fail h _
        · rw [if_neg h1]; split <;> exact rq_fail h _
  obtain ⟨o, A', hA', e1, e2⟩ := key
  exact arm_w hF Int32.toInt64 o hA' hR (lq_m hF Int32.toInt64 e1) e2 (fun _ => rfl)
