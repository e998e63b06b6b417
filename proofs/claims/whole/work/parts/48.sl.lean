/-! slack -/
def chx (W two pos : Nat → Nat) (lf : Bool) (n : Nat) : Nat → Nat → Nat
  | 0 => fun _ => 0
  | s + 1 => fset (chx W two pos lf n s) (two (n - 1 - s)) (W (two (n - 1 - s)) + mxn (fun k => if decide (pos (two (n - 1 - s)) < pos (two (n - 1 - s + 1 + k))) = lf then chx W two pos lf n s (two (n - 1 - s + 1 + k)) else 0) s)
def chf (W two pos : Nat → Nat) (lf : Bool) (n s k : Nat) : Nat := if decide (pos (two (n - 1 - s)) < pos (two (n - 1 - s + 1 + k))) = lf then chx W two pos lf n s (two (n - 1 - s + 1 + k)) else 0
theorem chx_s (W two pos : Nat → Nat) (lf : Bool) (n s : Nat) : chx W two pos lf n (s + 1) = fset (chx W two pos lf n s) (two (n - 1 - s)) (W (two (n - 1 - s)) + mxn (chf W two pos lf n s) s) := rfl
theorem chx_le {W two pos : Nat → Nat} {lf : Bool} {n : Nat} (h : ∀ i, i < n → W (two i) ≤ 200) : ∀ {s : Nat}, s ≤ n → ∀ b, chx W two pos lf n s b ≤ 200 * s
  | 0, _, b => Nat.zero_le _
  | s + 1, hs, b => by
    have ih := chx_le (W := W) (two := two) (pos := pos) (lf := lf) (n := n) h (s := s) (by omega)
    rw [chx_s]
    unfold fset
    split
    · have h1 := h (n - 1 - s) (by omega)
      have h2 : mxn (chf W two pos lf n s) s ≤ 200 * s := mxn_le fun k hk => by
        unfold chf
        have := ih (two (n - 1 - s + 1 + k))
        split <;> omega
      omega
    · have := ih b; omega
theorem chf_m {W two pos : Nat → Nat} {lf : Bool} {n s k : Nat} (h : ∀ i, i < n → W (two i) ≤ 200) (hs : s ≤ n) : mxn (chf W two pos lf n s) k ≤ 200 * s := mxn_le fun k hk => by
  unfold chf
  have := chx_le (W := W) (two := two) (pos := pos) (lf := lf) h hs (two (n - 1 - s + 1 + k))
  split <;> omega
theorem pz_e10 : ((1 : Nat) = 0) = False := eq_false (by decide)
theorem pz_e01 : ((0 : Nat) = 1) = False := eq_false (by decide)
theorem mc_ok {M : Mm} {k0 k1 n t : Nat} {two pos W : Nat → Nat} (hn : n ≤ 12) (h1n : 1 ≤ n) (hk : k1 < k0) (ht : t < 2) (h5 : M.1 k0 5 = nI n) (e2 : IA M (k0 + 2) n two) (p2 : PermN n two) (ep : IA M (k0 + 3) n pos) (hp : ∀ b, b < n → pos b < 12) (eW : IA M k1 n W) (hW : ∀ b, b < n → 1 ≤ W b ∧ W b ≤ 200) :
    Wp (f_X4_measureChains k0 k1 (nI t) M) (fun M' => IA M' (k0 + 4) n (chx W two pos (decide (t = 1)) n n) ∧ Fr (SB (k0 + 4) (k0 + 4)) M M') := by
  unfold f_X4_measureChains f_X4_measureChains_A7
  have hW2 : ∀ i, i < n → W (two i) ≤ 200 := fun i hi => (hW _ (p2.1 i hi)).2
  generalize hlf : decide (t = 1) = lf
  simp (disch := first | assumption | omega) only [↓pz_n1, pz_mm, pz_mm', ↓pz_lt1, ↓pz_bd, ↓pz_bd2, ↓pz_tn, ↓pz_ts, pz_0, pz_1, pz_2, pz_3, pz_4, pz_12, pz_13, pz_15, pz_16, pz_20, pz_23, pz_24, pz_200, ↓pz_rd, ↓pz_wr, pz_add, pz_mul, pz_sub, pz_le, pz_lt, pz_eq, pz_max, pz_min, pz_cl, pz_and, pz_or, pz_shl, pz_clr, pz_bit, pz_ff, pz_tt, pz_5, pz_6, pz_7, pz_10000, pz_sb, pz_b0, pz_b1, h5]
  refine wp_b (P := fun M' => (∀ i, i < n → M'.1 (k0 + 4) (two i) = nI (chx W two pos lf n n (two i))) ∧ Fr (SB (k0 + 4) (k0 + 4)) M M') ?_ ?_
  · refine wp_l (fun s (v : Int32 × Mm) => v.1 = dn n s ∧ (∀ i, n - s ≤ i → i < n → v.2.1 (k0 + 4) (two i) = nI (chx W two pos lf n s (two i))) ∧ Fr (SB (k0 + 4) (k0 + 4)) M v.2) n (fu_lt (by omega)) ?_ ?_ ⟨?_, fun i h1 h2 => by omega, Fr.rf⟩
    · rintro s ⟨v, M1⟩ hs ⟨h1, h2, h3⟩
      have h1 : v = dn n s := h1
      rw [dn_y hs] at h1
      subst h1
      have h2 : ∀ i, n - s ≤ i → i < n → M1.1 (k0 + 4) (two i) = nI (chx W two pos lf n s (two i)) := h2
      have h3 : Fr (SB (k0 + 4) (k0 + 4)) M M1 := h3
      have q : ∀ k, k < k0 + 4 → M1.1 k = M.1 k := fun k hk => h3.1 k (fun h => by unfold SB at h; omega)
      have c5 : M1.1 k0 5 = nI n := by rw [q _ (by omega)]; exact h5
      have c2 : IA M1 (k0 + 2) n two := e2.eq (q _ (by omega))
      have c3 : IA M1 (k0 + 3) n pos := ep.eq (q _ (by omega))
      have cW : IA M1 k1 n W := eW.eq (q _ (by omega))
      have hi : n - 1 - s < n := by omega
      have bi := p2.1 _ hi
      have bpi := hp _ bi
      show Wp (f_X4_measureChains_L7 k0 k1 (nI t) (nI (n - 1 - s)) M1) _
      unfold f_X4_measureChains_L7
      have lp : loop (fun v => f_X4_measureChains_L27 k0 (nI t) M1 (nI (two (n - 1 - s))) v.1 v.2) FU (nI 0, nI (n - 1 - s + 1)) = some (nI (mxn (chf W two pos lf n s) s)) := by
        refine lp_n (fun k => (nI (mxn (chf W two pos lf n s) k), nI (n - 1 - s + 1 + k))) s (fu_lt (by omega)) (fun k hk => ?_) ?_
        · show f_X4_measureChains_L27 k0 (nI t) M1 (nI (two (n - 1 - s))) (nI (mxn (chf W two pos lf n s) k)) (nI (n - 1 - s + 1 + k)) = some (Sum.inl (nI (max (mxn (chf W two pos lf n s) k) (chf W two pos lf n s k)), nI (n - 1 - s + 1 + k + 1)))
          unfold f_X4_measureChains_L27 f_X4_measureChains_J67 f_X4_measureChains_J85
          have x1 : ¬ n ≤ n - 1 - s + 1 + k := by omega
          have bj := p2.1 (n - 1 - s + 1 + k) (by omega)
          have bpj := hp _ bj
          have r := h2 (n - 1 - s + 1 + k) (by omega) (by omega)
          have m1' := chf_m (W := W) (two := two) (pos := pos) (lf := lf) (n := n) (s := s) (k := k) hW2 (by omega)
          have m2' := chx_le (W := W) (two := two) (pos := pos) (lf := lf) (n := n) hW2 (s := s) (by omega) (two (n - 1 - s + 1 + k))
          have ec : chf W two pos lf n s k = if decide (pos (two (n - 1 - s)) < pos (two (n - 1 - s + 1 + k))) = lf then chx W two pos lf n s (two (n - 1 - s + 1 + k)) else 0 := rfl
          simp (disch := first | assumption | omega) only [↓pz_n1, pz_mm, pz_mm', ↓pz_lt1, ↓pz_bd, ↓pz_bd2, ↓pz_tn, ↓pz_ts, pz_0, pz_1, pz_2, pz_3, pz_4, pz_12, pz_13, pz_15, pz_16, pz_20, pz_23, pz_24, pz_200, ↓pz_rd, ↓pz_wr, pz_add, pz_mul, pz_sub, pz_le, pz_lt, pz_eq, pz_max, pz_min, pz_cl, pz_and, pz_or, pz_shl, pz_clr, pz_bit, pz_ff, pz_tt, pz_5, pz_6, pz_7, pz_10000, pz_sb, pz_b0, pz_b1, c5, x1, c2 _ (show n - 1 - s + 1 + k < n by omega), c3 _ bi, c3 _ bj, r]
          by_cases hlt : pos (two (n - 1 - s)) < pos (two (n - 1 - s + 1 + k))
          · rw [if_neg (by omega)]
            rw [decide_eq_true hlt] at ec
            rcases (by omega : t = 0 ∨ t = 1) with rfl | rfl
            · have : lf = false := by rw [← hlf]; rfl
              subst this
              rw [if_neg (by decide)] at ec
              rw [ec, Nat.max_zero, if_neg (by decide)]
            · have : lf = true := by rw [← hlf]; rfl
              subst this
              rw [if_pos rfl] at ec
              rw [ec, if_pos rfl]
          · rw [if_pos (by omega)]
            rw [decide_eq_false hlt] at ec
            rcases (by omega : t = 0 ∨ t = 1) with rfl | rfl
            · have : lf = false := by rw [← hlf]; rfl
              subst this
              rw [if_pos rfl] at ec
              rw [ec, if_pos rfl]
            · have : lf = true := by rw [← hlf]; rfl
              subst this
              rw [if_neg (by decide)] at ec
              rw [ec, Nat.max_zero, if_neg (by decide)]
        · show f_X4_measureChains_L27 k0 (nI t) M1 (nI (two (n - 1 - s))) (nI (mxn (chf W two pos lf n s) s)) (nI (n - 1 - s + 1 + s)) = _
          unfold f_X4_measureChains_L27
          rw [c5, if_pos ((nI_leI (by omega) (by omega)).mpr (by omega))]
      simp (disch := first | assumption | omega) only [↓pz_n1, pz_mm, pz_mm', ↓pz_lt1, ↓pz_bd, ↓pz_bd2, ↓pz_tn, ↓pz_ts, pz_0, pz_1, pz_2, pz_3, pz_4, pz_12, pz_13, pz_15, pz_16, pz_20, pz_23, pz_24, pz_200, ↓pz_rd, ↓pz_wr, pz_add, pz_mul, pz_sub, pz_le, pz_lt, pz_eq, pz_max, pz_min, pz_cl, pz_and, pz_or, pz_shl, pz_clr, pz_bit, pz_ff, pz_tt, pz_5, pz_6, pz_7, pz_10000, pz_sb, pz_b0, pz_b1, pz_nl, c2 _ hi]
      rw [lp]
      unfold f_X4_measureChains_A27
      simp (disch := first | assumption | omega) only [↓pz_n1, pz_mm, pz_mm', ↓pz_lt1, ↓pz_bd, ↓pz_bd2, ↓pz_tn, ↓pz_ts, pz_0, pz_1, pz_2, pz_3, pz_4, pz_12, pz_13, pz_15, pz_16, pz_20, pz_23, pz_24, pz_200, ↓pz_rd, ↓pz_wr, pz_add, pz_mul, pz_sub, pz_le, pz_lt, pz_eq, pz_max, pz_min, pz_cl, pz_and, pz_or, pz_shl, pz_clr, pz_bit, pz_ff, pz_tt, pz_5, pz_6, pz_7, pz_10000, pz_sb, pz_b0, pz_b1, cW _ bi]
      refine wp_s (Or.inl ⟨_, rfl, dn_s hs, fun i a1 a2 => ?_, h3.w ⟨by omega, by omega⟩⟩)
      show (wi M1 (k0 + 4) (two (n - 1 - s)) _).1 (k0 + 4) (two i) = _
      rw [wi_at, chx_s]
      unfold fset
      by_cases e : two i = two (n - 1 - s)
      · rw [if_pos e, if_pos e]
      · rw [if_neg e, if_neg e]
        exact h2 i (by have : i ≠ n - 1 - s := fun q => e (by rw [q]); omega) a2
    · rintro ⟨v, M1⟩ ⟨h1, h2, h3⟩
      have h1 : v = dn n n := h1
      rw [dn_n] at h1
      subst h1
      show Wp (f_X4_measureChains_L7 k0 k1 (nI t) m1 M1) _
      unfold f_X4_measureChains_L7
      rw [pz_0, if_pos (by decide)]
      exact wp_s ⟨_, rfl, fun i hi => h2 i (by omega) hi, h3⟩
    · show nI (n - 1) = dn n 0
      rw [dn_y (by omega)]; rfl
  · rintro M' ⟨h1, h2⟩
    refine wp_s ⟨fun b hb => ?_, h2⟩
    obtain ⟨i, hi, rfl⟩ := p2.sur hb
    exact h1 i hi
theorem lo_ok {M : Mm} {n t td b : Nat} {one two w h : Nat → Nat} (hn : n ≤ 12) (h1n : 1 ≤ n) (ht : t < 2) (htd : td < 4096) (hw : ∀ b, b < n → 1 ≤ w b ∧ w b ≤ 200) (hh : ∀ b, b < n → 1 ≤ h b ∧ h b ≤ 200) (r1 : M.1 69 1 = nI n) (r7 : M.1 69 7 = nI td) (r70 : IA M 70 n w) (r71 : IA M 71 n h) (e1 : IA M 76 n one) (e2 : IA M 77 n two) (p1 : PermN n one) (p2 : PermN n two) (hb : b < n) :
    Wp (f_X10_longest (nI b) (nI t) M) (fun r => r.1 = nI (chx (if t = 0 then swd h w td else swd w h td) two (fun b => ps one b n) (decide (t = 1)) n n b) ∧ Fr (SB 97 97) M r.2) := by
  unfold f_X10_longest f_X10_longest_A7
  generalize hWW : (if t = 0 then swd h w td else swd w h td) = W
  have hW : ∀ b, b < n → 1 ≤ W b ∧ W b ≤ 200 := fun b hb => by
    subst hWW
    split
    · exact swd_le hh hw hb
    · exact swd_le hw hh hb
  have hW2 : ∀ i, i < n → W (two i) ≤ 200 := fun i hi => (hW _ (p2.1 i hi)).2
  generalize hlf : decide (t = 1) = lf
  generalize hpos : (fun b => ps one b n) = pos
  have epos : ∀ b, ps one b n = pos b := fun b => by rw [← hpos]
  simp (disch := first | assumption | omega) only [↓pz_n1, pz_mm, pz_mm', ↓pz_lt1, ↓pz_bd, ↓pz_bd2, ↓pz_tn, ↓pz_ts, pz_0, pz_1, pz_2, pz_3, pz_4, pz_12, pz_13, pz_15, pz_16, pz_20, pz_23, pz_24, pz_200, ↓pz_rd, ↓pz_wr, pz_add, pz_mul, pz_sub, pz_le, pz_lt, pz_eq, pz_max, pz_min, pz_cl, pz_and, pz_or, pz_shl, pz_clr, pz_bit, pz_ff, pz_tt, pz_5, pz_6, pz_7, pz_10000, pz_sb, pz_b0, pz_b1, r1]
  refine wp_b (P := fun M' => (∀ i, i < n → M'.1 97 (two i) = nI (chx W two pos lf n n (two i))) ∧ Fr (SB 97 97) M M') ?_ ?_
  · refine wp_l (fun s (v : Int32 × Mm) => v.1 = dn n s ∧ (∀ i, n - s ≤ i → i < n → v.2.1 97 (two i) = nI (chx W two pos lf n s (two i))) ∧ Fr (SB 97 97) M v.2) n (fu_lt (by omega)) ?_ ?_ ⟨?_, fun i h1 h2 => by omega, Fr.rf⟩
    · rintro s ⟨v, M1⟩ hs ⟨h1, h2, h3⟩
      have h1 : v = dn n s := h1
      rw [dn_y hs] at h1
      subst h1
      have h2 : ∀ i, n - s ≤ i → i < n → M1.1 97 (two i) = nI (chx W two pos lf n s (two i)) := h2
      have h3 : Fr (SB 97 97) M M1 := h3
      have q : ∀ k, k ≠ 97 → M1.1 k = M.1 k := fun k hk => h3.1 k (fun h => by unfold SB at h; omega)
      have c1 : M1.1 69 1 = nI n := by rw [q _ (by omega)]; exact r1
      have c7 : M1.1 69 7 = nI td := by rw [q _ (by omega)]; exact r7
      have c70 : IA M1 70 n w := r70.eq (q _ (by omega))
      have c71 : IA M1 71 n h := r71.eq (q _ (by omega))
      have d1 : IA M1 76 n one := e1.eq (q _ (by omega))
      have d2 : IA M1 77 n two := e2.eq (q _ (by omega))
      have hi : n - 1 - s < n := by omega
      have bi := p2.1 _ hi
      show Wp (f_X10_longest_L7 (nI t) (nI (n - 1 - s)) M1) _
      unfold f_X10_longest_L7
      have lp : loop (fun v => f_X10_longest_L27 (nI t) M1 (nI (two (n - 1 - s))) v.1 v.2) FU (nI 0, nI (n - 1 - s + 1)) = some (nI (mxn (chf W two pos lf n s) s)) := by
        refine lp_n (fun k => (nI (mxn (chf W two pos lf n s) k), nI (n - 1 - s + 1 + k))) s (fu_lt (by omega)) (fun k hk => ?_) ?_
        · show f_X10_longest_L27 (nI t) M1 (nI (two (n - 1 - s))) (nI (mxn (chf W two pos lf n s) k)) (nI (n - 1 - s + 1 + k)) = some (Sum.inl (nI (max (mxn (chf W two pos lf n s) k) (chf W two pos lf n s k)), nI (n - 1 - s + 1 + k + 1)))
          unfold f_X10_longest_L27 f_X10_longest_J72
          have x1 : ¬ n ≤ n - 1 - s + 1 + k := by omega
          have bj := p2.1 (n - 1 - s + 1 + k) (by omega)
          have r := h2 (n - 1 - s + 1 + k) (by omega) (by omega)
          have m1' := chf_m (W := W) (two := two) (pos := pos) (lf := lf) (n := n) (s := s) (k := k) hW2 (by omega)
          have m2' := chx_le (W := W) (two := two) (pos := pos) (lf := lf) (n := n) hW2 (s := s) (by omega) (two (n - 1 - s + 1 + k))
          have ec : chf W two pos lf n s k = if decide (pos (two (n - 1 - s)) < pos (two (n - 1 - s + 1 + k))) = lf then chx W two pos lf n s (two (n - 1 - s + 1 + k)) else 0 := rfl
          have em := must_ok (i := n - 1 - s) (j := n - 1 - s + 1 + k) hn d1 d2 p1 p2 (by omega) (by omega) ht
          rw [epos, epos] at em
          have eb : ((decide (pos (two (n - 1 - s)) < pos (two (n - 1 - s + 1 + k)))).toNat = t) ↔ (decide (pos (two (n - 1 - s)) < pos (two (n - 1 - s + 1 + k))) = lf) := by
            rw [← hlf]
            generalize decide (pos (two (n - 1 - s)) < pos (two (n - 1 - s + 1 + k))) = z
            rcases (by omega : t = 0 ∨ t = 1) with rfl | rfl <;> cases z <;> decide
          by_cases hz : decide (pos (two (n - 1 - s)) < pos (two (n - 1 - s + 1 + k))) = lf
          · rw [if_pos (eb.mpr hz)] at em
            rw [if_pos hz] at ec
            simp (disch := first | assumption | omega) only [↓pz_n1, pz_mm, pz_mm', ↓pz_lt1, ↓pz_bd, ↓pz_bd2, ↓pz_tn, ↓pz_ts, pz_0, pz_1, pz_2, pz_3, pz_4, pz_12, pz_13, pz_15, pz_16, pz_20, pz_23, pz_24, pz_200, ↓pz_rd, ↓pz_wr, pz_add, pz_mul, pz_sub, pz_le, pz_lt, pz_eq, pz_max, pz_min, pz_cl, pz_and, pz_or, pz_shl, pz_clr, pz_bit, pz_ff, pz_tt, pz_5, pz_6, pz_7, pz_10000, pz_sb, pz_b0, pz_b1, c1, x1, d2 _ (show n - 1 - s + 1 + k < n by omega), ↓bde em, r, pz_e10]
            rw [ec]
          · rw [if_neg (fun h => hz (eb.mp h))] at em
            rw [if_neg hz] at ec
            simp (disch := first | assumption | omega) only [↓pz_n1, pz_mm, pz_mm', ↓pz_lt1, ↓pz_bd, ↓pz_bd2, ↓pz_tn, ↓pz_ts, pz_0, pz_1, pz_2, pz_3, pz_4, pz_12, pz_13, pz_15, pz_16, pz_20, pz_23, pz_24, pz_200, ↓pz_rd, ↓pz_wr, pz_add, pz_mul, pz_sub, pz_le, pz_lt, pz_eq, pz_max, pz_min, pz_cl, pz_and, pz_or, pz_shl, pz_clr, pz_bit, pz_ff, pz_tt, pz_5, pz_6, pz_7, pz_10000, pz_sb, pz_b0, pz_b1, c1, x1, d2 _ (show n - 1 - s + 1 + k < n by omega), ↓bde em]
            rw [ec, Nat.max_zero]
        · show f_X10_longest_L27 (nI t) M1 (nI (two (n - 1 - s))) (nI (mxn (chf W two pos lf n s) s)) (nI (n - 1 - s + 1 + s)) = _
          unfold f_X10_longest_L27
          rw [c1, if_pos ((nI_leI (by omega) (by omega)).mpr (by omega))]
      have z0 : ¬ n - 1 - s < 0 := by omega
      simp (disch := first | assumption | omega) only [↓pz_n1, pz_mm, pz_mm', ↓pz_lt1, ↓pz_bd, ↓pz_bd2, ↓pz_tn, ↓pz_ts, pz_0, pz_1, pz_2, pz_3, pz_4, pz_12, pz_13, pz_15, pz_16, pz_20, pz_23, pz_24, pz_200, ↓pz_rd, ↓pz_wr, pz_add, pz_mul, pz_sub, pz_le, pz_lt, pz_eq, pz_max, pz_min, pz_cl, pz_and, pz_or, pz_shl, pz_clr, pz_bit, pz_ff, pz_tt, pz_5, pz_6, pz_7, pz_10000, pz_sb, pz_b0, pz_b1, z0, d2 _ hi]
      rw [lp]
      unfold f_X10_longest_A27 f_X10_longest_J105
      have fin : Wp (wrI 12 M1 97 (nI (two (n - 1 - s))) (nI (mxn (chf W two pos lf n s) s) + nI (W (two (n - 1 - s)))) fun M_15 => lt1 (nI (n - 1 - s) + -1) fun x3_17 => (some (.inl (x3_17, M_15)) : Option ((Int32 × Mm) ⊕ Mm))) (fun r => (∃ w, r = .inl w ∧ w.1 = dn n (s + 1) ∧ (∀ i, n - (s + 1) ≤ i → i < n → w.2.1 97 (two i) = nI (chx W two pos lf n (s + 1) (two i))) ∧ Fr (SB 97 97) M w.2) ∨ ∃ x, r = .inr x ∧ (∀ i, i < n → x.1 97 (two i) = nI (chx W two pos lf n n (two i))) ∧ Fr (SB 97 97) M x) := by
        simp (disch := first | assumption | omega) only [↓pz_n1, pz_mm, pz_mm', ↓pz_lt1, ↓pz_bd, ↓pz_bd2, ↓pz_tn, ↓pz_ts, pz_0, pz_1, pz_2, pz_3, pz_4, pz_12, pz_13, pz_15, pz_16, pz_20, pz_23, pz_24, pz_200, ↓pz_rd, ↓pz_wr, pz_add, pz_mul, pz_sub, pz_le, pz_lt, pz_eq, pz_max, pz_min, pz_cl, pz_and, pz_or, pz_shl, pz_clr, pz_bit, pz_ff, pz_tt, pz_5, pz_6, pz_7, pz_10000, pz_sb, pz_b0, pz_b1]
        refine wp_s (Or.inl ⟨_, rfl, dn_s hs, fun i a1 a2 => ?_, h3.w ⟨by omega, by omega⟩⟩)
        show (wi M1 97 (two (n - 1 - s)) _).1 97 (two i) = _
        rw [wi_at, chx_s]
        unfold fset
        by_cases e : two i = two (n - 1 - s)
        · rw [if_pos e, if_pos e, Nat.add_comm]
        · rw [if_neg e, if_neg e]
          exact h2 i (by have : i ≠ n - 1 - s := fun q => e (by rw [q]); omega) a2
      rw [pz_bd, pz_0]
      rcases (by omega : t = 0 ∨ t = 1) with rfl | rfl
      · rw [if_pos rfl, pz_rh c7 htd c70 c71 bi hn, pz_bd]
        rw [if_pos rfl] at hWW
        rw [hWW]; exact fin
      · rw [if_neg (by decide), pz_rw c7 htd c70 c71 bi hn, pz_bd]
        rw [if_neg (by decide)] at hWW
        rw [hWW]; exact fin
    · rintro ⟨v, M1⟩ ⟨h1, h2, h3⟩
      have h1 : v = dn n n := h1
      rw [dn_n] at h1
      subst h1
      show Wp (f_X10_longest_L7 (nI t) m1 M1) _
      unfold f_X10_longest_L7
      rw [pz_0, if_pos (by decide)]
      exact wp_s ⟨_, rfl, fun i hi => h2 i (by omega) hi, h3⟩
    · show nI (n - 1) = dn n 0
      rw [dn_y (by omega)]; rfl
  · rintro M' ⟨h1, h2⟩
    obtain ⟨i, hi, rfl⟩ := p2.sur hb
    simp (disch := first | assumption | omega) only [↓pz_n1, pz_mm, pz_mm', ↓pz_lt1, ↓pz_bd, ↓pz_bd2, ↓pz_tn, ↓pz_ts, pz_0, pz_1, pz_2, pz_3, pz_4, pz_12, pz_13, pz_15, pz_16, pz_20, pz_23, pz_24, pz_200, ↓pz_rd, ↓pz_wr, pz_add, pz_mul, pz_sub, pz_le, pz_lt, pz_eq, pz_max, pz_min, pz_cl, pz_and, pz_or, pz_shl, pz_clr, pz_bit, pz_ff, pz_tt, pz_5, pz_6, pz_7, pz_10000, pz_sb, pz_b0, pz_b1, h1 i hi]
    exact wp_s ⟨rfl, h2⟩
theorem scr_of {M M' : Mm} {k : Nat} (h : Fr (SB k k) M M') (hk : 81 ≤ k ∧ k ≤ 104) : Scr M M' := ⟨fun j h1 h2 => h.1 j (fun q => by unfold SB at q; omega), by rw [show M'.1 69 = M.1 69 from h.1 69 (fun q => by unfold SB at q; omega)]; exact ⟨rfl, rfl, rfl, rfl, rfl⟩, fun j hj => h.2 j (fun q => by unfold SB at q; omega)⟩
/-- the class's scratch: chains, ahead, groups, outline and the search's own rooms -/
theorem CI.k15 {F : Abs → Nat → Mm → Prop} (hF : FOK F) {M M' : Mm} {A : Abs} (hC : CI F M A) {S : Nat → Prop} (hf : Fr S M M') (hs : ∀ k, S k → k = 10 ∨ k = 15 ∨ k = 16 ∨ (19 ≤ k ∧ k ≤ 22) ∨ (26 ≤ k ∧ k ≤ 33)) : CI F M' A := by
  have q : ∀ k, k ≤ 9 ∨ (11 ≤ k ∧ k ≤ 14) ∨ k = 17 ∨ k = 18 ∨ (23 ≤ k ∧ k ≤ 25) ∨ 34 ≤ k → M'.1 k = M.1 k := fun k hk => hf.1 k (fun h => by have := hs k h; omega)
  refine ⟨?_, ?_, ?_, ?_, hC.w.eq (q _ (by omega)), hC.h.eq (q _ (by omega)), hC.nt.eq (q _ (by omega)), fun hk => ?_, fun hk => ?_, fun hk => ?_, fun hk => ?_, fun k hk => ?_⟩
  · rw [q 0 (by omega)]; exact hC.kd
  · rw [q 0 (by omega)]; exact hC.s
  · rw [q 1 (by omega)]; exact hC.n
  · rw [q 1 (by omega)]; exact hC.tb
  · obtain ⟨a, b, c, d, f, g⟩ := hC.gd hk
    rw [q 5 (by omega)]; exact ⟨a, b, c.eq (q _ (by omega)), d.eq (q _ (by omega)), f.eq (q _ (by omega)), g.eq (q _ (by omega))⟩
  · obtain ⟨a, b, c, d⟩ := hC.k1 hk
    rw [q 11 (by omega), q 14 (by omega)]; exact ⟨a, b.eq (q _ (by omega)), c.eq (q _ (by omega)), d⟩
  · obtain ⟨a, b⟩ := hC.k2 hk
    rw [q 17 (by omega)]; exact ⟨a, b.eq (q _ (by omega))⟩
  · obtain ⟨a, b, c, d⟩ := hC.k3 hk
    rw [q 23 (by omega)]; exact ⟨a, b, c.eq (q _ (by omega)), d.eq (q _ (by omega))⟩
  · rw [q (65 + k) (by omega)]
    rcases hC.fn k hk with h1 | h1
    · exact Or.inl h1
    · exact Or.inr (hF A A k M M' hk h1 rfl rfl rfl rfl (q _ (by omega)) (hf.2 _ (fun h => by have := hs _ h; omega)))
theorem arm_12 {F : Abs → Nat → Mm → Prop} (hF : FOK F) {xs : Nat → Int32} {L n : Nat} {M : Mm} (hL : L ≤ 3584) (hn : n + 7 ≤ L) (hI : Inv F M) : Nx F n (f_arm_12 xs L (nI n) M) := by
  obtain ⟨A, hA, hC, hR⟩ := hI
  have hn12 := hA.n
  unfold f_arm_12
  simp (disch := first | assumption | omega) only [↓pz_n1, pz_mm, pz_mm', ↓pz_lt1, ↓pz_bd, ↓pz_bd2, ↓pz_tn, ↓pz_ts, pz_0, pz_1, pz_2, pz_3, pz_4, pz_12, pz_13, pz_15, pz_16, pz_20, pz_23, pz_24, pz_200, ↓pz_rd, ↓pz_wr, pz_add, pz_mul, pz_sub, pz_le, pz_lt, pz_eq, pz_max, pz_min, pz_cl, pz_and, pz_or, pz_shl, pz_clr, pz_bit, pz_ff, pz_tt, pz_5, pz_6, pz_7, pz_10000, pz_sb, pz_b0, pz_b1, pz_rdX]
  generalize xs (n + 1) = a
  generalize xs (n + 2) = c
  have key : ∃ o, Wp (f_X9_slack a c M) (fun r => r.1 = o ∧ CI F r.2 A ∧ Fr SC M r.2) ∧ ∀ M1, RI M1 A → RQr M1 A o (f_X10_slack a c M1) := by
    have ek : ∀ M1, RI M1 A → (wi M1 69 0 (nI 0)).1 69 6 = A.kd := fun M1 h => h.kd
    have en : ∀ M1, RI M1 A → (wi M1 69 0 (nI 0)).1 69 1 = nI A.n := fun M1 h => h.n
    unfold f_X9_slack
    by_cases hk : A.kd = nI 1
    · have hkn : A.kd ≠ -1 := by rw [hk]; decide
      have e1 : f_X9_needKind (1 : Int32) M = some () := nk_y (hC.kd.trans hk)
      rw [e1]
      rcases isb a hn12 with ⟨b, hb, rfl⟩ | ha
      · rw [nb_y hC.n hn12 hb]
        have g := hA.gb hkn
        have cg := hC.cg hkn
        obtain ⟨p1, p2⟩ := hA.k1 hk
        obtain ⟨o5, o1, o2, o3⟩ := hC.k1 hk
        have l1 := (hA.ly hkn).1
        have o3' : IA M 14 A.n (fun b => ps A.one b A.n) := fun b hb => by
          have h := p1.pl hb
          have := o3 _ h.1
          rw [h.2] at this
          exact this
        have hp : ∀ b, b < A.n → (fun b => ps A.one b A.n) b < 12 := fun b hb => by have := (p1.pl hb).1; show ps A.one b A.n < 12; omega
        rcases sw_of c (k := 1) (by omega) with ⟨t, ht, rfl⟩ | ⟨hc1, hc2⟩
        · rcases (by omega : t = 0 ∨ t = 1) with rfl | rfl
          · refine ⟨some (nI (rch A.x (swd A.w A.h A.td) A.n) - nI (A.x b) - nI (chx (swd A.w A.h A.td) A.two (fun b => ps A.one b A.n) true A.n A.n b)), ?_, fun M1 h => ?_⟩
            · simp (disch := first | assumption | omega) only [↓pz_n1, pz_mm, pz_mm', ↓pz_lt1, ↓pz_bd, ↓pz_bd2, ↓pz_tn, ↓pz_ts, pz_0, pz_1, pz_2, pz_3, pz_4, pz_12, pz_13, pz_15, pz_16, pz_20, pz_23, pz_24, pz_200, ↓pz_rd, ↓pz_wr, pz_add, pz_mul, pz_sub, pz_le, pz_lt, pz_eq, pz_max, pz_min, pz_cl, pz_and, pz_or, pz_shl, pz_clr, pz_bit, pz_ff, pz_tt, pz_5, pz_6, pz_7, pz_10000, pz_sb, pz_b0, pz_b1]
              unfold f_X4_roomRight f_X2_wide
              refine wp_b2 (P := fun r => r.1 = nI (rch A.x (swd A.w A.h A.td) A.n) - nI (A.x b) - nI (chx (swd A.w A.h A.td) A.two (fun b => ps A.one b A.n) true A.n A.n b) ∧ CI F r.2 A ∧ Fr SC M r.2) ?_ (fun v M2 h => wp_s ⟨congrArg some h.1, h.2⟩)
              rw [pz_1]
              refine wp_b (mc_ok (k0 := 11) (k1 := 8) (t := 1) hn12 l1 (by omega) (by omega) o5 o2 p2 o3' hp cg.w (fun b hb => g.sw hb)) ?_
              rintro M2 ⟨b1, b2⟩
              have q : ∀ k, k ≠ 15 → M2.1 k = M.1 k := fun k hk => b2.1 k (fun h => by unfold SB at h; omega)
              have w1 : f_X2_reach 5 (5 + 1) (5 + 3) M2 = _ := reach_ok (by rw [q 5 (by omega)]; exact cg.n) hn12 (cg.x.eq (q 6 (by omega))) (cg.w.eq (q 8 (by omega))) g.x (fun b hb => g.sw hb)
              have x1 : M2.1 6 b = nI (A.x b) := by rw [q 6 (by omega)]; exact cg.x b hb
              have c1 : M2.1 15 b = nI (chx (swd A.w A.h A.td) A.two (fun b => ps A.one b A.n) true A.n A.n b) := b1 b hb
              rw [w1, pz_bd, pz_bd, pz_rd (by omega) (by omega), pz_rd (by omega) (by omega)]
              refine wp_s ⟨?_, hC.k15 hF b2 (fun k h => by unfold SB at h; omega), b2.mono (fun k h => by unfold SB at h; unfold SC; omega)⟩
              show nI _ - M2.1 6 b - M2.1 15 b = _
              rw [x1, c1]
            · unfold f_X10_slack
              have e1 := (ek M1 h).trans hk
              have s1 : Scr M1 (wi M1 69 0 (nI 0)) := Scr.rf.w (by omega)
              have r1 := (h.rg hkn).scr s1
              have o1' := h.k1 hk
              obtain ⟨⟨v, M2⟩, e2, h2, f2⟩ := lo_ok (t := 1) hn12 l1 (by omega) g.td hA.w hA.h r1.n r1.td r1.w r1.h (IA.eq o1'.1 rfl) (IA.eq o1'.2 rfl) p1 p2 hb
              have h2 : v = _ := h2
              rw [pz_lt1, pz_0, e1, if_pos pz_1.symm, ib_y (en M1 h) hn12 hb, if_neg (by decide), if_neg (by decide), if_pos (by decide), if_pos rfl, raw_ok g r1, pz_bd, pz_rd (by omega) (by omega), r1.x b hb, pz_1, e2, pz_bd2, h2]
              exact wp_s ⟨h.scr (s1.tr (scr_of f2 (by omega))), (s1.tr (scr_of f2 (by omega))).fr, Or.inr ⟨_, rfl, by rw [f2.1 69 (fun h => by unfold SB at h; omega)]; rfl, rfl⟩⟩
          · refine ⟨some (nI (rch A.y (swd A.h A.w A.td) A.n) - nI (A.y b) - nI (chx (swd A.h A.w A.td) A.two (fun b => ps A.one b A.n) false A.n A.n b)), ?_, fun M1 h => ?_⟩
            · simp (disch := first | assumption | omega) only [↓pz_n1, pz_mm, pz_mm', ↓pz_lt1, ↓pz_bd, ↓pz_bd2, ↓pz_tn, ↓pz_ts, pz_0, pz_1, pz_2, pz_3, pz_4, pz_12, pz_13, pz_15, pz_16, pz_20, pz_23, pz_24, pz_200, ↓pz_rd, ↓pz_wr, pz_add, pz_mul, pz_sub, pz_le, pz_lt, pz_eq, pz_max, pz_min, pz_cl, pz_and, pz_or, pz_shl, pz_clr, pz_bit, pz_ff, pz_tt, pz_5, pz_6, pz_7, pz_10000, pz_sb, pz_b0, pz_b1, pz_e10]
              unfold f_X4_roomUp f_X2_high
              refine wp_b2 (P := fun r => r.1 = nI (rch A.y (swd A.h A.w A.td) A.n) - nI (A.y b) - nI (chx (swd A.h A.w A.td) A.two (fun b => ps A.one b A.n) false A.n A.n b) ∧ CI F r.2 A ∧ Fr SC M r.2) ?_ (fun v M2 h => wp_s ⟨congrArg some h.1, h.2⟩)
              rw [pz_0]
              refine wp_b (mc_ok (k0 := 11) (k1 := 9) (t := 0) hn12 l1 (by omega) (by omega) o5 o2 p2 o3' hp cg.h (fun b hb => g.sh hb)) ?_
              rintro M2 ⟨b1, b2⟩
              have q : ∀ k, k ≠ 15 → M2.1 k = M.1 k := fun k hk => b2.1 k (fun h => by unfold SB at h; omega)
              have w1 : f_X2_reach 5 (5 + 2) (5 + 4) M2 = _ := reach_ok (by rw [q 5 (by omega)]; exact cg.n) hn12 (cg.y.eq (q 7 (by omega))) (cg.h.eq (q 9 (by omega))) g.y (fun b hb => g.sh hb)
              have x1 : M2.1 7 b = nI (A.y b) := by rw [q 7 (by omega)]; exact cg.y b hb
              have c1 : M2.1 15 b = nI (chx (swd A.h A.w A.td) A.two (fun b => ps A.one b A.n) false A.n A.n b) := b1 b hb
              rw [w1, pz_bd, pz_bd, pz_rd (by omega) (by omega), pz_rd (by omega) (by omega)]
              refine wp_s ⟨?_, hC.k15 hF b2 (fun k h => by unfold SB at h; omega), b2.mono (fun k h => by unfold SB at h; unfold SC; omega)⟩
              show nI _ - M2.1 7 b - M2.1 15 b = _
              rw [x1, c1]
            · unfold f_X10_slack
              have e1 := (ek M1 h).trans hk
              have s1 : Scr M1 (wi M1 69 0 (nI 0)) := Scr.rf.w (by omega)
              have r1 := (h.rg hkn).scr s1
              have o1' := h.k1 hk
              obtain ⟨⟨v, M2⟩, e2, h2, f2⟩ := lo_ok (t := 0) hn12 l1 (by omega) g.td hA.w hA.h r1.n r1.td r1.w r1.h (IA.eq o1'.1 rfl) (IA.eq o1'.2 rfl) p1 p2 hb
              have h2 : v = _ := h2
              rw [pz_lt1, pz_0, e1, if_pos pz_1.symm, ib_y (en M1 h) hn12 hb, if_neg (by decide), if_neg (by decide), if_pos (by decide), if_neg (by decide), rah_ok g r1, pz_bd, pz_rd (by omega) (by omega), r1.y b hb, e2, pz_bd2, h2]
              exact wp_s ⟨h.scr (s1.tr (scr_of f2 (by omega))), (s1.tr (scr_of f2 (by omega))).fr, Or.inr ⟨_, rfl, by rw [f2.1 69 (fun h => by unfold SB at h; omega)]; rfl, rfl⟩⟩
        · refine ⟨none, ?_, fun M1 h => ?_⟩
          · rw [pz_lt1, pz_ts, pz_lt1, pz_ts, pz_0, pz_1, if_neg (hc2 0 (by omega)), if_neg (hc2 1 (by omega))]
            exact wp_s ⟨rfl, hC, Fr.rf⟩
          · unfold f_X10_slack f_X10_slack_J30 f_X10_fail
            have e1 := (ek M1 h).trans hk
            rw [pz_lt1, pz_0, e1, if_pos pz_1.symm, ib_y (en M1 h) hn12 hb, if_neg (by decide), pz_1]
            rcases hc1 with h1 | ⟨h1, _, h2⟩
            · rw [if_pos h1]; exact rq_fail h _
            · rw [if_neg h2, if_neg h1]; exact rq_fail h _
      · refine ⟨none, ?_, fun M1 h => ?_⟩
        · rw [nb_n hC.n ha]
          exact wp_s ⟨rfl, hC, Fr.rf⟩
        · unfold f_X10_slack f_X10_slack_J30 f_X10_fail
          have e1 := (ek M1 h).trans hk
          rw [pz_lt1, pz_0, e1, if_pos pz_1.symm, ib_n (en M1 h) ha, if_pos rfl, pz_1]
          exact rq_fail h _
    · refine ⟨none, ?_, fun M1 h => ?_⟩
      · have e1 : f_X9_needKind (1 : Int32) M = none := nk_n (by rw [hC.kd]; exact hk)
        rw [e1]
        exact wp_s ⟨rfl, hC, Fr.rf⟩
      · unfold f_X10_slack f_X10_slack_J30 f_X10_fail
        rw [pz_lt1, pz_1, pz_0, ek M1 h, if_neg hk]
        exact rq_fail h _
  obtain ⟨o, e1, e2⟩ := key
  exact arm_w hF Int32.toInt64 o hA hR (lq_m hF Int32.toInt64 e1) e2 (fun _ => rfl)
