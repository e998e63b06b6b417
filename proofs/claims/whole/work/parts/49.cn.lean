/-! long numbers; rank, count -/
def lI (n : Nat) : Int64 := Int64.ofNat n
theorem lI_add (a b : Nat) : lI a + lI b = lI (a + b) := (Int64.ofNat_add a b).symm
theorem lI_mul (a b : Nat) : lI a * lI b = lI (a * b) := (Int64.ofNat_mul a b).symm
theorem lI_toInt {a : Nat} (h : a < 9223372036854775808) : (lI a).toInt = a := Int64.toInt_ofNat_of_lt h
theorem nI_long {a : Nat} (h : a < 2147483648) : (nI a).toInt64 = lI a := by
  apply Int64.toInt_inj.mp
  rw [Int32.toInt_toInt64, nI_toInt h, lI_toInt (by omega)]
theorem lI_0 : (0 : Int64) = lI 0 := by decide
theorem lI_1 : (1 : Int64) = lI 1 := by decide
theorem lI_2 : (2 : Int64) = lI 2 := by decide
theorem pz_10' : (10 : Int32) = nI 10 := pz_10
def fac : Nat → Nat
  | 0 => 1
  | n + 1 => (n + 1) * fac n
theorem fa_c : ∀ n, n < 13 → FA1.getD n 0 = lI (fac n) := by decide +kernel
theorem fac_r : ∀ n, n < 13 → f_X10_factorial (nI n) = some (lI (fac n)) := by decide +kernel
theorem fac_9 {M : Mm} {n : Nat} (h : n < 13) : f_X9_factorial (nI n) M = some (lI (fac n)) := by
  unfold f_X9_factorial
  rw [if_neg (by rw [pz_0, pz_lt (by omega) (by omega)]; omega), if_neg (by rw [pz_13, pz_le (by omega) (by omega)]; omega), pz_rdS (by show n < 13; omega) (by decide), fa_c n h]
/-- how many behind i are lesser -/
def lsr (r : Nat → Nat) (i : Nat) : Nat → Nat
  | 0 => 0
  | k + 1 => lsr r i k + if r (i + 1 + k) < r i then 1 else 0
theorem lsr_le (r : Nat → Nat) (i : Nat) : ∀ k, lsr r i k ≤ k
  | 0 => Nat.le_refl _
  | k + 1 => by
    have := lsr_le r i k
    show lsr r i k + (if r (i + 1 + k) < r i then 1 else 0) ≤ k + 1
    split <;> omega
def hor (r : Nat → Nat) (n : Nat) : Nat → Nat
  | 0 => 0
  | i + 1 => hor r n i * (n - i) + lsr r i (n - 1 - i)
def rks (r : Nat → Nat) (n : Nat) : Nat → Nat
  | 0 => 0
  | i + 1 => rks r n i + lsr r i (n - 1 - i) * fac (n - 1 - i)
theorem hor_rks (r : Nat → Nat) (n : Nat) : ∀ i, i ≤ n → hor r n i * fac (n - i) = rks r n i
  | 0, _ => by show 0 * _ = 0; rw [Nat.zero_mul]
  | i + 1, h => by
    have ih := hor_rks r n i (by omega)
    show (hor r n i * (n - i) + lsr r i (n - 1 - i)) * fac (n - (i + 1)) = rks r n i + lsr r i (n - 1 - i) * fac (n - 1 - i)
    have e1 : n - i = (n - (i + 1)) + 1 := by omega
    have e2 : n - 1 - i = n - (i + 1) := by omega
    have e3 : fac (n - i) = (n - i) * fac (n - (i + 1)) := by rw [e1]; rfl
    rw [← ih, e3, e2, Nat.add_mul, Nat.mul_assoc]
theorem no_ok {M : Mm} {k0 k1 n : Nat} {r : Nat → Nat} (hn : n ≤ 12) (h5 : M.1 k0 5 = nI n) (e : IA M k1 n r) (hr : ∀ i, i < n → r i < 12) : f_X4_numberOf k0 k1 M = some (lI (hor r n n)) := by
  unfold f_X4_numberOf f_X4_numberOf_A5
  have lp : loop (fun v => f_X4_numberOf_L5 k0 k1 M v.1 v.2) FU (lI 0, nI 0) = some (lI (hor r n n)) := by
    refine lp_n (fun i => (lI (hor r n i), nI i)) n (fu_lt (by omega)) (fun i hi => ?_) ?_
    · show f_X4_numberOf_L5 k0 k1 M (lI (hor r n i)) (nI i) = some (Sum.inl (lI (hor r n i * (n - i) + lsr r i (n - 1 - i)), nI (i + 1)))
      unfold f_X4_numberOf_L5
      have q1 : ¬ n ≤ i := by omega
      have lq : loop (fun v => f_X4_numberOf_L23 k0 k1 M (nI i) v.1 v.2) FU (nI 0, nI (i + 1)) = some (nI (lsr r i (n - 1 - i))) := by
        refine lp_n (fun k => (nI (lsr r i k), nI (i + 1 + k))) (n - 1 - i) (fu_lt (by omega)) (fun k hk => ?_) ?_
        · show f_X4_numberOf_L23 k0 k1 M (nI i) (nI (lsr r i k)) (nI (i + 1 + k)) = some (Sum.inl (nI (lsr r i k + if r (i + 1 + k) < r i then 1 else 0), nI (i + 1 + k + 1)))
          unfold f_X4_numberOf_L23 f_X4_numberOf_J46
          have x1 : ¬ n ≤ i + 1 + k := by omega
          have b1 := hr i hi
          have b2 := hr (i + 1 + k) (by omega)
          simp (disch := first | assumption | omega) only [↓pz_n1, pz_mm, pz_mm', ↓pz_lt1, ↓pz_bd, ↓pz_bd2, ↓pz_tn, ↓pz_ts, pz_0, pz_1, pz_2, pz_3, pz_4, pz_12, pz_13, pz_15, pz_16, pz_20, pz_23, pz_24, pz_200, ↓pz_rd, ↓pz_wr, pz_add, pz_mul, pz_sub, pz_le, pz_lt, pz_eq, pz_max, pz_min, pz_cl, pz_and, pz_or, pz_shl, pz_clr, pz_bit, pz_ff, pz_tt, pz_5, pz_6, pz_7, pz_10000, pz_sb, pz_b0, pz_b1, h5, x1, e i hi, e (i + 1 + k) (by omega)]
          by_cases q : r (i + 1 + k) < r i
          · rw [if_neg (by omega), if_pos q]
          · rw [if_pos (by omega), if_neg q]; rfl
        · show f_X4_numberOf_L23 k0 k1 M (nI i) (nI (lsr r i (n - 1 - i))) (nI (i + 1 + (n - 1 - i))) = _
          unfold f_X4_numberOf_L23
          rw [h5, if_pos ((nI_leI (by omega) (by omega)).mpr (by omega))]
      have := lsr_le r i (n - 1 - i)
      simp (disch := first | assumption | omega) only [↓pz_n1, pz_mm, pz_mm', ↓pz_lt1, ↓pz_bd, ↓pz_bd2, ↓pz_tn, ↓pz_ts, pz_0, pz_1, pz_2, pz_3, pz_4, pz_12, pz_13, pz_15, pz_16, pz_20, pz_23, pz_24, pz_200, ↓pz_rd, ↓pz_wr, pz_add, pz_mul, pz_sub, pz_le, pz_lt, pz_eq, pz_max, pz_min, pz_cl, pz_and, pz_or, pz_shl, pz_clr, pz_bit, pz_ff, pz_tt, pz_5, pz_6, pz_7, pz_10000, pz_sb, pz_b0, pz_b1, h5, q1]
      rw [lq]
      unfold f_X4_numberOf_A23
      simp (disch := first | assumption | omega) only [↓pz_n1, pz_mm, pz_mm', ↓pz_lt1, ↓pz_bd, ↓pz_bd2, ↓pz_tn, ↓pz_ts, pz_0, pz_1, pz_2, pz_3, pz_4, pz_12, pz_13, pz_15, pz_16, pz_20, pz_23, pz_24, pz_200, ↓pz_rd, ↓pz_wr, pz_add, pz_mul, pz_sub, pz_le, pz_lt, pz_eq, pz_max, pz_min, pz_cl, pz_and, pz_or, pz_shl, pz_clr, pz_bit, pz_ff, pz_tt, pz_5, pz_6, pz_7, pz_10000, pz_sb, pz_b0, pz_b1, h5]
      rw [nI_long (by omega), nI_long (by omega), lI_mul, lI_add]
    · show f_X4_numberOf_L5 k0 k1 M (lI (hor r n n)) (nI n) = _
      unfold f_X4_numberOf_L5
      rw [h5, if_pos ((nI_leI (by omega) (by omega)).mpr (Nat.le_refl _))]
  rw [lI_0, pz_0, lp]; rfl
theorem rk_ok {M : Mm} {k1 n : Nat} {r : Nat → Nat} (hn : n ≤ 12) (h1 : M.1 69 1 = nI n) (e : IA M k1 n r) (hr : ∀ i, i < n → r i < 12) : f_X10_rankOf k1 M = some (lI (rks r n n)) := by
  unfold f_X10_rankOf f_X10_rankOf_A5
  have lp : loop (fun v => f_X10_rankOf_L5 k1 M v.1 v.2) FU (lI 0, nI 0) = some (lI (rks r n n)) := by
    refine lp_n (fun i => (lI (rks r n i), nI i)) n (fu_lt (by omega)) (fun i hi => ?_) ?_
    · show f_X10_rankOf_L5 k1 M (lI (rks r n i)) (nI i) = some (Sum.inl (lI (rks r n i + lsr r i (n - 1 - i) * fac (n - 1 - i)), nI (i + 1)))
      unfold f_X10_rankOf_L5
      have q1 : ¬ n ≤ i := by omega
      have lq : loop (fun v => f_X10_rankOf_L23 k1 M (nI i) v.1 v.2) FU (nI 0, nI (i + 1)) = some (nI (lsr r i (n - 1 - i))) := by
        refine lp_n (fun k => (nI (lsr r i k), nI (i + 1 + k))) (n - 1 - i) (fu_lt (by omega)) (fun k hk => ?_) ?_
        · show f_X10_rankOf_L23 k1 M (nI i) (nI (lsr r i k)) (nI (i + 1 + k)) = some (Sum.inl (nI (lsr r i k + if r (i + 1 + k) < r i then 1 else 0), nI (i + 1 + k + 1)))
          unfold f_X10_rankOf_L23 f_X10_rankOf_J50
          have x1 : ¬ n ≤ i + 1 + k := by omega
          have b1 := hr i hi
          have b2 := hr (i + 1 + k) (by omega)
          simp (disch := first | assumption | omega) only [↓pz_n1, pz_mm, pz_mm', ↓pz_lt1, ↓pz_bd, ↓pz_bd2, ↓pz_tn, ↓pz_ts, pz_0, pz_1, pz_2, pz_3, pz_4, pz_12, pz_13, pz_15, pz_16, pz_20, pz_23, pz_24, pz_200, ↓pz_rd, ↓pz_wr, pz_add, pz_mul, pz_sub, pz_le, pz_lt, pz_eq, pz_max, pz_min, pz_cl, pz_and, pz_or, pz_shl, pz_clr, pz_bit, pz_ff, pz_tt, pz_5, pz_6, pz_7, pz_10000, pz_sb, pz_b0, pz_b1, h1, x1, e i hi, e (i + 1 + k) (by omega)]
          by_cases q : r (i + 1 + k) < r i
          · rw [if_neg (by omega), if_pos q]
          · rw [if_pos (by omega), if_neg q]
        · show f_X10_rankOf_L23 k1 M (nI i) (nI (lsr r i (n - 1 - i))) (nI (i + 1 + (n - 1 - i))) = _
          unfold f_X10_rankOf_L23
          rw [h1, if_pos ((nI_leI (by omega) (by omega)).mpr (by omega))]
      have := lsr_le r i (n - 1 - i)
      simp (disch := first | assumption | omega) only [↓pz_n1, pz_mm, pz_mm', ↓pz_lt1, ↓pz_bd, ↓pz_bd2, ↓pz_tn, ↓pz_ts, pz_0, pz_1, pz_2, pz_3, pz_4, pz_12, pz_13, pz_15, pz_16, pz_20, pz_23, pz_24, pz_200, ↓pz_rd, ↓pz_wr, pz_add, pz_mul, pz_sub, pz_le, pz_lt, pz_eq, pz_max, pz_min, pz_cl, pz_and, pz_or, pz_shl, pz_clr, pz_bit, pz_ff, pz_tt, pz_5, pz_6, pz_7, pz_10000, pz_sb, pz_b0, pz_b1, h1, q1]
      rw [lq]
      unfold f_X10_rankOf_A23
      simp (disch := first | assumption | omega) only [↓pz_n1, pz_mm, pz_mm', ↓pz_lt1, ↓pz_bd, ↓pz_bd2, ↓pz_tn, ↓pz_ts, pz_0, pz_1, pz_2, pz_3, pz_4, pz_12, pz_13, pz_15, pz_16, pz_20, pz_23, pz_24, pz_200, ↓pz_rd, ↓pz_wr, pz_add, pz_mul, pz_sub, pz_le, pz_lt, pz_eq, pz_max, pz_min, pz_cl, pz_and, pz_or, pz_shl, pz_clr, pz_bit, pz_ff, pz_tt, pz_5, pz_6, pz_7, pz_10000, pz_sb, pz_b0, pz_b1, h1]
      rw [fac_r _ (by omega), nI_long (by omega)]
      simp (disch := first | assumption | omega) only [↓pz_n1, pz_mm, pz_mm', ↓pz_lt1, ↓pz_bd, ↓pz_bd2, ↓pz_tn, ↓pz_ts, pz_0, pz_1, pz_2, pz_3, pz_4, pz_12, pz_13, pz_15, pz_16, pz_20, pz_23, pz_24, pz_200, ↓pz_rd, ↓pz_wr, pz_add, pz_mul, pz_sub, pz_le, pz_lt, pz_eq, pz_max, pz_min, pz_cl, pz_and, pz_or, pz_shl, pz_clr, pz_bit, pz_ff, pz_tt, pz_5, pz_6, pz_7, pz_10000, pz_sb, pz_b0, pz_b1]
      rw [lI_mul, lI_add]
    · show f_X10_rankOf_L5 k1 M (lI (rks r n n)) (nI n) = _
      unfold f_X10_rankOf_L5
      rw [h1, if_pos ((nI_leI (by omega) (by omega)).mpr (Nat.le_refl _))]
  rw [lI_0, pz_0, lp]; rfl
theorem arm_23 {F : Abs → Nat → Mm → Prop} (hF : FOK F) {xs : Nat → Int32} {L n : Nat} {M : Mm} (hI : Inv F M) : Nx F n (f_arm_23 xs L (nI n) M) := by
  obtain ⟨A, hA, hC, hR⟩ := hI
  have hn12 := hA.n
  unfold f_arm_23
  have key : ∃ o, f_X9_rank M = some o ∧ ∀ M1, RI M1 A → RQr M1 A o (f_X10_rank M1) := by
    unfold f_X9_rank
    by_cases hk : A.kd = nI 1
    · have e1 : f_X9_needKind (1 : Int32) M = some () := nk_y (hC.kd.trans hk)
      obtain ⟨p1, p2⟩ := hA.k1 hk
      obtain ⟨o5, o1, o2, o3⟩ := hC.k1 hk
      have b1 : ∀ i, i < A.n → A.one i < 12 := fun i hi => by have := p1.1 i hi; omega
      have b2 : ∀ i, i < A.n → A.two i < 12 := fun i hi => by have := p2.1 i hi; omega
      unfold f_X4_number
      rw [e1, pz_lt1, pz_ts, no_ok (k1 := 11 + 1) hn12 o5 o1 b1, pz_bd, o5, fac_9 (by omega), pz_bd, no_ok (k1 := 11 + 2) hn12 o5 o2 b2, pz_bd, pz_bd]
      refine ⟨_, rfl, fun M1 h => ?_⟩
      unfold f_X10_rank
      have e2 : (wi M1 69 0 (nI 0)).1 69 6 = nI 1 := h.kd.trans hk
      have e3 : (wi M1 69 0 (nI 0)).1 69 1 = nI A.n := h.n
      have o1' := h.k1 hk
      rw [pz_0, pz_lt1, e2, if_pos pz_1.symm, rk_ok hn12 e3 (IA.eq o1'.1 rfl) b1, pz_bd, e3, fac_r _ (by omega), pz_bd, rk_ok hn12 e3 (IA.eq o1'.2 rfl) b2, pz_bd]
      have x1 := hor_rks A.one A.n A.n (Nat.le_refl _)
      have x2 := hor_rks A.two A.n A.n (Nat.le_refl _)
      rw [Nat.sub_self] at x1 x2
      have x1 : hor A.one A.n A.n * 1 = _ := x1
      have x2 : hor A.two A.n A.n * 1 = _ := x2
      rw [← x1, ← x2, Nat.mul_one, Nat.mul_one]
      exact rq_val h _
    · have e1 : f_X9_needKind (1 : Int32) M = none := nk_n (by rw [hC.kd]; exact hk)
      rw [e1]
      refine ⟨_, rfl, fun M1 h => ?_⟩
      unfold f_X10_rank f_X10_fail
      have e2 : (wi M1 69 0 (nI 0)).1 69 6 = A.kd := h.kd
      rw [pz_0, pz_1, pz_lt1, e2, if_neg hk]
      exact rq_fail h _
  obtain ⟨o, e1, e2⟩ := key
  have := arm_w hF (fun v => v) o (n := n) hA hR (lq_p hF (fun v => v) hC e1) e2 (J := f_law_J1630 (nI n)) (fun _ => rfl)
  rw [← pz_0] at this
  exact this
