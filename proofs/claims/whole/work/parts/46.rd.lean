/-! numbers read from longs; pair -/
theorem np_ok {M : Mm} {k0 n : Nat} {one : Nat → Nat} (hn : n ≤ 12) (h5 : M.1 k0 5 = nI n) (o1 : IA M (k0 + 1) n one) (p1 : PermN n one) : Wp (f_X4_notePlaces k0 M) (fun M' => IA M' (k0 + 3) n (fun b => ps one b n) ∧ Fr (SB (k0 + 3) (k0 + 3)) M M') := by
  unfold f_X4_notePlaces f_X4_notePlaces_A2
  simp (disch := first | assumption | omega) only [↓pz_n1, pz_mm, pz_mm', ↓pz_lt1, ↓pz_bd, ↓pz_bd2, ↓pz_tn, ↓pz_ts, pz_0, pz_1, pz_2, pz_3, pz_4, pz_12, pz_13, pz_15, pz_16, pz_20, pz_23, pz_24, pz_200, ↓pz_rd, ↓pz_wr, pz_add, pz_mul, pz_sub, pz_le, pz_lt, pz_eq, pz_max, pz_min, pz_cl, pz_and, pz_or, pz_shl, pz_clr, pz_bit, pz_ff, pz_tt, pz_5, pz_6, pz_7, pz_10000, pz_sb, pz_b0, pz_b1]
  refine wp_b (wp_for (step := fun v => f_X4_notePlaces_L2 k0 v.1 v.2) (fun i M' => (∀ j, j < i → M'.1 (k0 + 3) (one j) = nI j) ∧ Fr (SB (k0 + 3) (k0 + 3)) M M') n (by omega) ?_ ?_ ⟨fun j hj => by omega, Fr.rf⟩) ?_
  · rintro i M1 hi ⟨a1, a2⟩
    show Wp (f_X4_notePlaces_L2 k0 (nI i) M1) _
    unfold f_X4_notePlaces_L2
    have q : ∀ k, k < k0 + 3 → M1.1 k = M.1 k := fun k hk => a2.1 k (fun h => by unfold SB at h; omega)
    have c5 : M1.1 k0 5 = nI n := by rw [q _ (by omega)]; exact h5
    have c1 : M1.1 (k0 + 1) i = nI (one i) := by rw [q _ (by omega)]; exact o1 i hi
    have h1 : ¬ n ≤ i := by omega
    have h2 := p1.1 i hi
    simp (disch := first | assumption | omega) only [↓pz_n1, pz_mm, pz_mm', ↓pz_lt1, ↓pz_bd, ↓pz_bd2, ↓pz_tn, ↓pz_ts, pz_0, pz_1, pz_2, pz_3, pz_4, pz_12, pz_13, pz_15, pz_16, pz_20, pz_23, pz_24, pz_200, ↓pz_rd, ↓pz_wr, pz_add, pz_mul, pz_sub, pz_le, pz_lt, pz_eq, pz_max, pz_min, pz_cl, pz_and, pz_or, pz_shl, pz_clr, pz_bit, pz_ff, pz_tt, pz_5, pz_6, pz_7, pz_10000, pz_sb, pz_b0, pz_b1, c5, c1, h1]
    refine wp_s ⟨_, rfl, fun j hj => ?_, a2.w ⟨by omega, by omega⟩⟩
    rw [wi_at]
    by_cases e : one j = one i
    · rw [if_pos e, p1.2 j i (by omega) hi e]
    · rw [if_neg e]
      exact a1 j (by have : j ≠ i := fun q => e (by rw [q]); omega)
  · rintro M1 ⟨a1, a2⟩
    show f_X4_notePlaces_L2 k0 (nI n) M1 = _
    unfold f_X4_notePlaces_L2
    have c5 : M1.1 k0 5 = nI n := by rw [a2.1 _ (fun h => by unfold SB at h; omega)]; exact h5
    rw [c5, if_pos ((nI_leI (by omega) (by omega)).mpr (Nat.le_refl _))]
  · rintro M1 ⟨a1, a2⟩
    refine wp_s ⟨fun b hb => ?_, a2⟩
    have h := p1.pl hb
    have := a1 _ h.1
    rw [h.2] at this
    exact this
def nib (a : Int64) (i : Nat) : Nat := (f_X9_nibble a (nI i)).toBitVec.toNat
theorem nib_e (a : Int64) (i : Nat) : f_X9_nibble a (nI i) = nI (nib a i) := (nI_bits _).symm
theorem nib_r (a : Int64) (i : Nat) : f_X10_nibble a (nI i) = nI (nib a i) := nib_e a i
theorem to32 (x : Int64) {j : Nat} (hj : j < 32) : bt x.toInt32 j = bl x j := by
  unfold bt bl
  show (x.toBitVec.signExtend 32).getLsbD j = _
  rw [BitVec.getLsbD_signExtend]
  simp [hj, show j < 64 by omega]
theorem nib_b (a : Int64) {i j : Nat} (hi : i < 16) (hj : j < 32) : (nib a i).testBit j = (decide (j < 4) && bl a (4 * i + j)) := by
  have h : (nib a i).testBit j = bt (f_X9_nibble a (nI i)) j := by
    rw [nib_e, bt_nI _ _ hj]
  rw [h]
  unfold f_X9_nibble
  rw [to32 _ hj, l_and, l_15 j (by omega), pz_4, pz_mul]
  by_cases q : j < 4
  · rw [l_shr (by omega) _ (by omega)]
    simp [q]
  · simp [q]
theorem nib_lt (a : Int64) {i : Nat} (hi : i < 16) : nib a i < 16 := by
  refine lt_of_bits (n := 4) fun j hj => ?_
  by_cases q : j < 32
  · rw [nib_b a hi q]
    simp [show ¬ j < 4 by omega]
  · refine tb_lt (n := 32) ?_ (by omega)
    exact (f_X9_nibble a (nI i)).toBitVec.isLt
theorem P64.nib {v : Int64} {d : Nat → Nat} (h : P64 v d) {i : Nat} (hi : i < 16) (hd : d i < 16) : nib v i = d i := by
  refine bits_ext (n := 4) (nib_lt v hi) hd fun j hj => ?_
  rw [nib_b v hi (by omega), h _ (by omega)]
  have e1 : (4 * i + j) / 4 = i := by omega
  have e2 : (4 * i + j) % 4 = j := by omega
  rw [e1, e2]
  simp [hj]
theorem full_iff {n s : Nat} (hs : s < 2 ^ n) : s = 2 ^ n - 1 ↔ ∀ b, b < n → s.testBit b = true := by
  have hp := Nat.two_pow_pos n
  constructor
  · rintro rfl b hb
    rw [Nat.testBit_two_pow_sub_one]; simp [hb]
  · intro h
    refine bits_ext hs (by omega) fun i hi => ?_
    rw [h i hi, Nat.testBit_two_pow_sub_one]; simp [hi]
theorem isord {n : Nat} (hn : n ≤ 12) (a : Int64) : (PermN n (nib a) → f_X4_isOrder a (nI n) = some (nI 1)) ∧ (¬ PermN n (nib a) → f_X4_isOrder a (nI n) = some (nI 0)) := by
  have hp := Nat.two_pow_pos n
  have hp2 := pow_lt31 hn
  have key : Wp (f_X4_isOrder a (nI n)) (fun r => (PermN n (nib a) ∧ r = nI 1) ∨ (¬ PermN n (nib a) ∧ r = nI 0)) := by
    unfold f_X4_isOrder
    refine wp_b (P := fun r => (∃ s, r = .inl (nI s) ∧ s < 2 ^ n ∧ (∀ k, k < n → nib a k < n) ∧ ∀ b, s.testBit b = true ↔ ∃ k, k < n ∧ nib a k = b) ∨ (¬ PermN n (nib a) ∧ r = .inr (nI 0))) ?_ ?_
    · refine wp_l (fun i (v : Int32 × Int32) => v.2 = nI i ∧ ∃ s, v.1 = nI s ∧ s < 2 ^ n ∧ (∀ k, k < i → nib a k < n) ∧ ∀ b, s.testBit b = true ↔ ∃ k, k < i ∧ nib a k = b) n (fu_lt (by omega)) ?_ ?_ ⟨pz_0, 0, pz_0, hp, fun k hk => by omega, fun b => by rw [Nat.zero_testBit]; exact ⟨fun h => absurd h (by decide), fun ⟨k, hk, _⟩ => by omega⟩⟩
      · rintro i ⟨v, c⟩ hi ⟨h1, s, h2, h3, h4, h5⟩
        have h1 : c = nI i := h1
        have h2 : v = nI s := h2
        subst h1 h2
        show Wp (f_X4_isOrder_L5 a (nI n) (nI s) (nI i)) _
        unfold f_X4_isOrder_L5
        have q1 : ¬ n ≤ i := by omega
        have q2 := nib_lt a (show i < 16 by omega)
        have q3 := p12 h3 hn
        rw [nib_e]
        simp (disch := first | assumption | omega) only [↓pz_n1, pz_mm, pz_mm', ↓pz_lt1, ↓pz_bd, ↓pz_bd2, ↓pz_tn, ↓pz_ts, pz_0, pz_1, pz_2, pz_3, pz_4, pz_12, pz_13, pz_15, pz_16, pz_20, pz_23, pz_24, pz_200, ↓pz_rd, ↓pz_wr, pz_add, pz_mul, pz_sub, pz_le, pz_lt, pz_eq, pz_max, pz_min, pz_cl, pz_and, pz_or, pz_shl, pz_clr, pz_bit, pz_ff, pz_tt, pz_5, pz_6, pz_7, pz_10000, pz_sb, pz_b0, pz_b1, q1]
        by_cases hlt : nib a i < n
        · rw [if_pos hlt]
          refine wp_s (Or.inl ⟨_, rfl, rfl, _, rfl, or_lt h3 (Nat.pow_lt_pow_right (by omega) hlt), fun k hk => ?_, fun b => ?_⟩)
          · by_cases e : k = i
            · rw [e]; exact hlt
            · exact h4 k (by omega)
          · rw [Nat.testBit_or, Nat.testBit_two_pow, Bool.or_eq_true, h5 b, decide_eq_true_iff]
            constructor
            · rintro (⟨k, hk, e⟩ | e)
              · exact ⟨k, by omega, e⟩
              · exact ⟨i, by omega, e⟩
            · rintro ⟨k, hk, e⟩
              by_cases q : k = i
              · right; rw [← e, q]
              · left; exact ⟨k, by omega, e⟩
        · rw [if_neg hlt]
          exact wp_s (Or.inr ⟨_, rfl, Or.inr ⟨fun h => hlt (h.1 i hi), rfl⟩⟩)
      · rintro ⟨v, c⟩ ⟨h1, s, h2, h3, h4, h5⟩
        have h1 : c = nI n := h1
        have h2 : v = nI s := h2
        subst h1 h2
        show Wp (f_X4_isOrder_L5 a (nI n) (nI s) (nI n)) _
        unfold f_X4_isOrder_L5
        rw [if_pos ((nI_leI (by omega) (by omega)).mpr (Nat.le_refl _))]
        exact wp_s ⟨_, rfl, Or.inl ⟨s, rfl, h3, h4, h5⟩⟩
    · rintro r (⟨s, rfl, h3, h4, h5⟩ | ⟨h, rfl⟩)
      · show Wp (f_X4_isOrder_A5 (nI n) (nI s)) _
        unfold f_X4_isOrder_A5
        have q3 := p12 h3 hn
        simp (disch := first | assumption | omega) only [↓pz_n1, pz_mm, pz_mm', ↓pz_lt1, ↓pz_bd, ↓pz_bd2, ↓pz_tn, ↓pz_ts, pz_0, pz_1, pz_2, pz_3, pz_4, pz_12, pz_13, pz_15, pz_16, pz_20, pz_23, pz_24, pz_200, ↓pz_rd, ↓pz_wr, pz_add, pz_mul, pz_sub, pz_le, pz_lt, pz_eq, pz_max, pz_min, pz_cl, pz_and, pz_or, pz_shl, pz_clr, pz_bit, pz_ff, pz_tt, pz_5, pz_6, pz_7, pz_10000, pz_sb, pz_b0, pz_b1]
        by_cases e : s = 2 ^ n - 1
        · rw [if_pos e]
          refine wp_s (Or.inl ⟨PermN.of_sur h4 fun b hb => (h5 b).mp ((full_iff h3).mp e b hb), rfl⟩)
        · rw [if_neg e]
          refine wp_s (Or.inr ⟨fun h => e ((full_iff h3).mpr fun b hb => (h5 b).mpr (h.sur hb)), rfl⟩)
      · exact wp_s (Or.inr ⟨h, rfl⟩)
  obtain ⟨r, e, h⟩ := key
  constructor
  · intro hP
    rcases h with ⟨_, h⟩ | ⟨h, _⟩
    · rw [e, h]
    · exact absurd hP h
  · intro hP
    rcases h with ⟨h, _⟩ | ⟨_, h⟩
    · exact absurd h hP
    · rw [e, h]
theorem ro_ok {M : Mm} {n k2 : Nat} (hn : n ≤ 12) (hk : k2 ≠ 69) (r1 : M.1 69 1 = nI n) (a : Int64) : Wp (f_X10_readOrder a k2 M) (fun r => ((PermN n (nib a) ∧ r.1 = nI 1 ∧ IA r.2 k2 n (nib a)) ∨ (¬ PermN n (nib a) ∧ r.1 = nI 0)) ∧ Fr (SB k2 k2) M r.2) := by
  unfold f_X10_readOrder
  have hp := Nat.two_pow_pos n
  refine wp_b (P := fun r => (∃ M', r = .inl M' ∧ PermN n (nib a) ∧ IA M' k2 n (nib a) ∧ Fr (SB k2 k2) M M') ∨ (∃ M', ¬ PermN n (nib a) ∧ r = .inr (nI 0, M') ∧ Fr (SB k2 k2) M M')) ?_ ?_
  · refine wp_l (fun i (v : Int32 × Int32 × Mm) => v.2.1 = nI i ∧ IA v.2.2 k2 i (nib a) ∧ Fr (SB k2 k2) M v.2.2 ∧ ∃ s, v.1 = nI s ∧ s < 2 ^ n ∧ PermN i (fun k => k) ∧ (∀ k, k < i → nib a k < n) ∧ (∀ j k, j < i → k < i → nib a j = nib a k → j = k) ∧ ∀ b, s.testBit b = true ↔ ∃ k, k < i ∧ nib a k = b) n (fu_lt (by omega)) ?_ ?_ ⟨pz_0, IA.nil, Fr.rf, 0, pz_0, hp, ⟨fun i hi => hi, fun _ _ _ _ h => h⟩, fun k hk => by omega, fun j k hj => by omega, fun b => by rw [Nat.zero_testBit]; exact ⟨fun h => absurd h (by decide), fun ⟨k, hk, _⟩ => by omega⟩⟩
    · rintro i ⟨v, c, M1⟩ hi ⟨h1, h6, h7, s, h2, h3, h8, h4, h9, h5⟩
      have h1 : c = nI i := h1
      have h2 : v = nI s := h2
      subst h1 h2
      have h6 : IA M1 k2 i (nib a) := h6
      have h7 : Fr (SB k2 k2) M M1 := h7
      show Wp (f_X10_readOrder_L6 a k2 (nI s) (nI i) M1) _
      unfold f_X10_readOrder_L6
      have q1 : ¬ n ≤ i := by omega
      have q2 := nib_lt a (show i < 16 by omega)
      have q3 := p12 h3 hn
      have c1 : M1.1 69 1 = nI n := by rw [h7.1 69 (fun h => by unfold SB at h; omega)]; exact r1
      have c2 : ∀ v, (wi M1 k2 i v).1 69 1 = nI n := fun v => by rw [wi_n _ _ _ (Ne.symm hk)]; exact c1
      have c3 : ∀ v, (wi M1 k2 i v).1 k2 i = v := fun v => by rw [wi_at, if_pos rfl]
      have f1 : ∀ v, Fr (SB k2 k2) M (wi M1 k2 i v) := fun v => h7.w ⟨by omega, by omega⟩
      rw [nib_r]
      simp (disch := first | assumption | omega) only [↓pz_n1, pz_mm, pz_mm', ↓pz_lt1, ↓pz_bd, ↓pz_bd2, ↓pz_tn, ↓pz_ts, pz_0, pz_1, pz_2, pz_3, pz_4, pz_12, pz_13, pz_15, pz_16, pz_20, pz_23, pz_24, pz_200, ↓pz_rd, ↓pz_wr, pz_add, pz_mul, pz_sub, pz_le, pz_lt, pz_eq, pz_max, pz_min, pz_cl, pz_and, pz_or, pz_shl, pz_clr, pz_bit, pz_ff, pz_tt, pz_5, pz_6, pz_7, pz_10000, pz_sb, pz_b0, pz_b1, q1, c1, c2, c3]
      by_cases hlt : n ≤ nib a i
      · rw [if_pos hlt]
        exact wp_s (Or.inr ⟨_, rfl, Or.inr ⟨_, fun h => by have := h.1 i hi; omega, rfl, f1 _⟩⟩)
      · rw [if_neg hlt]
        by_cases hb : s.testBit (nib a i) = true
        · rw [if_pos hb]
          refine wp_s (Or.inr ⟨_, rfl, Or.inr ⟨_, fun h => ?_, rfl, f1 _⟩⟩)
          obtain ⟨k, hk, e⟩ := (h5 _).mp hb
          have := h.2 k i (by omega) hi e
          omega
        · rw [if_neg hb]
          refine wp_s (Or.inl ⟨_, rfl, rfl, h6.snoc rfl, f1 _, _, rfl, or_lt h3 (Nat.pow_lt_pow_right (by omega) (by omega)), ⟨fun i hi => hi, fun _ _ _ _ h => h⟩, fun k hk => ?_, fun j k hj hk e => ?_, fun b => ?_⟩)
          · by_cases e : k = i
            · rw [e]; omega
            · exact h4 k (by omega)
          · by_cases e1 : j = i
            · by_cases e2 : k = i
              · omega
              · exact absurd ((h5 _).mpr ⟨k, by omega, by rw [← e, e1]⟩) hb
            · by_cases e2 : k = i
              · exact absurd ((h5 _).mpr ⟨j, by omega, by rw [e, e2]⟩) hb
              · exact h9 j k (by omega) (by omega) e
          · rw [Nat.testBit_or, Nat.testBit_two_pow, Bool.or_eq_true, h5 b, decide_eq_true_iff]
            constructor
            · rintro (⟨k, hk, e⟩ | e)
              · exact ⟨k, by omega, e⟩
              · exact ⟨i, by omega, e⟩
            · rintro ⟨k, hk, e⟩
              by_cases q : k = i
              · right; rw [← e, q]
              · left; exact ⟨k, by omega, e⟩
    · rintro ⟨v, c, M1⟩ ⟨h1, h6, h7, s, h2, h3, h8, h4, h9, h5⟩
      have h1 : c = nI n := h1
      subst h1
      have h7 : Fr (SB k2 k2) M M1 := h7
      have c1 : M1.1 69 1 = nI n := by rw [h7.1 69 (fun h => by unfold SB at h; omega)]; exact r1
      show Wp (f_X10_readOrder_L6 a k2 v (nI n) M1) _
      unfold f_X10_readOrder_L6
      rw [c1, if_pos ((nI_leI (by omega) (by omega)).mpr (Nat.le_refl _))]
      exact wp_s ⟨_, rfl, Or.inl ⟨M1, rfl, ⟨h4, h9⟩, h6, h7⟩⟩
  · rintro r (⟨M', rfl, h1, h2, h3⟩ | ⟨M', h1, rfl, h3⟩)
    · exact wp_s ⟨Or.inl ⟨h1, pz_1, h2⟩, h3⟩
    · exact wp_s ⟨Or.inr ⟨h1, rfl⟩, h3⟩
theorem tb_s (tb i : Nat) : tb % 2 ^ (i + 1) = if tb.testBit i then tb % 2 ^ i ||| 2 ^ i else tb % 2 ^ i := by
  apply Nat.eq_of_testBit_eq
  intro j
  rw [Nat.testBit_mod_two_pow]
  split
  · rename_i h
    rw [Nat.testBit_or, Nat.testBit_mod_two_pow, Nat.testBit_two_pow]
    by_cases e : j = i
    · subst e; simp [h]
    · by_cases q : j < i
      · simp [q, show j < i + 1 by omega, show ¬ i = j by omega]
      · simp [q, show ¬ j < i + 1 by omega, show ¬ i = j by omega]
  · rename_i h
    rw [Nat.testBit_mod_two_pow]
    by_cases e : j = i
    · subst e; simp [h]
    · have : (j < i + 1) = (j < i) := propext (by omega)
      simp only [this]
theorem tbl_ok {M : Mm} {n tb : Nat} (hn : n ≤ 12) (ht : tb < 2 ^ n) (r1 : M.1 69 1 = nI n) (r73 : IA M 73 n (fun b => (tb.testBit b).toNat)) : f_X10_turnable M = some (nI tb) := by
  unfold f_X10_turnable f_X10_turnable_A4
  have lp : loop (fun v => f_X10_turnable_L4 M v.1 v.2) FU (nI 0, nI 0) = some (nI tb) := by
    have e0 : nI 0 = nI (tb % 2 ^ 0) := by rw [Nat.pow_zero, Nat.mod_one]
    have en : nI tb = nI (tb % 2 ^ n) := by rw [Nat.mod_eq_of_lt ht]
    have : loop (fun v => f_X10_turnable_L4 M v.1 v.2) FU (nI (tb % 2 ^ 0), nI 0) = some (nI (tb % 2 ^ n)) := by
      refine lp_n (fun i => (nI (tb % 2 ^ i), nI i)) n (fu_lt (by omega)) (fun i hi => ?_) ?_
      · show f_X10_turnable_L4 M (nI (tb % 2 ^ i)) (nI i) = some (Sum.inl (nI (tb % 2 ^ (i + 1)), nI (i + 1)))
        unfold f_X10_turnable_L4 f_X10_turnable_J27
        have q1 : ¬ n ≤ i := by omega
        rw [tb_s]
        have r := r73 i hi
        have r : M.1 73 i = nI (tb.testBit i).toNat := r
        simp (disch := first | assumption | omega) only [↓pz_n1, pz_mm, pz_mm', ↓pz_lt1, ↓pz_bd, ↓pz_bd2, ↓pz_tn, ↓pz_ts, pz_0, pz_1, pz_2, pz_3, pz_4, pz_12, pz_13, pz_15, pz_16, pz_20, pz_23, pz_24, pz_200, ↓pz_rd, ↓pz_wr, pz_add, pz_mul, pz_sub, pz_le, pz_lt, pz_eq, pz_max, pz_min, pz_cl, pz_and, pz_or, pz_shl, pz_clr, pz_bit, pz_ff, pz_tt, pz_5, pz_6, pz_7, pz_10000, pz_sb, pz_b0, pz_b1, r1, q1, r]
        by_cases q : tb.testBit i = true
        · rw [q, if_pos rfl]
          rfl
        · rw [if_neg q]
          rw [Bool.not_eq_true] at q
          rw [q]
          rfl
      · show f_X10_turnable_L4 M (nI (tb % 2 ^ n)) (nI n) = _
        unfold f_X10_turnable_L4
        rw [r1, if_pos ((nI_leI (by omega) (by omega)).mpr (Nat.le_refl _))]
    rw [← e0, ← en] at this
    exact this
  rw [pz_0, lp]; rfl
