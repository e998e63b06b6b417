/-! wires -/
def lw (d : Nat) (f : Nat → Nat) (m : Nat) : Nat → Nat
  | 0 => d
  | i + 1 => if m.testBit i then min (lw d f m i) (f i) else lw d f m i
def hg (f : Nat → Nat) (m : Nat) : Nat → Nat
  | 0 => 0
  | i + 1 => if m.testBit i then max (hg f m i) (f i) else hg f m i
theorem lw_le {d : Nat} {f : Nat → Nat} {m : Nat} : ∀ {i}, lw d f m i ≤ d
  | 0 => Nat.le_refl _
  | i + 1 => by
    have := lw_le (d := d) (f := f) (m := m) (i := i)
    show (if m.testBit i then min (lw d f m i) (f i) else lw d f m i) ≤ d
    split <;> omega
theorem hg_le {f : Nat → Nat} {m B : Nat} : ∀ {i}, (∀ j, j < i → f j ≤ B) → hg f m i ≤ B
  | 0, _ => Nat.zero_le _
  | i + 1, h => by
    have := hg_le (f := f) (m := m) (i := i) (fun j hj => h j (by omega))
    have := h i (by omega)
    show (if m.testBit i then max (hg f m i) (f i) else hg f m i) ≤ B
    split <;> omega
theorem bcn_s (m i : Nat) : bcn m (i + 1) = bcn m i + (m.testBit i).toNat := rfl
theorem lw_z {d : Nat} {f : Nat → Nat} {m : Nat} : ∀ {i}, bcn m i = 0 → lw d f m i = d
  | 0, _ => rfl
  | i + 1, h => by
    rw [bcn_s] at h
    have h2 := lw_z (d := d) (f := f) (m := m) (i := i) (by omega)
    show (if m.testBit i then min (lw d f m i) (f i) else lw d f m i) = d
    cases e : m.testBit i
    · exact h2
    · rw [e] at h; exact absurd h (by show ¬ (bcn m i + 1 = 0); omega)
theorem lw_eq {d e : Nat} {f : Nat → Nat} {m : Nat} : ∀ {i}, (∀ j, j < i → f j ≤ d ∧ f j ≤ e) → bcn m i ≠ 0 → lw d f m i = lw e f m i ∧ lw d f m i ≤ hg f m i
  | 0, _, h => absurd rfl h
  | i + 1, hf, h => by
    rw [bcn_s] at h
    show (if m.testBit i then min (lw d f m i) (f i) else lw d f m i) = (if m.testBit i then min (lw e f m i) (f i) else lw e f m i) ∧ (if m.testBit i then min (lw d f m i) (f i) else lw d f m i) ≤ (if m.testBit i then max (hg f m i) (f i) else hg f m i)
    have hi := hf i (by omega)
    by_cases hz : bcn m i = 0
    · cases q : m.testBit i
      · rw [q, hz] at h; exact absurd rfl h
      · rw [lw_z hz, lw_z hz]
        simp only [if_true]
        omega
    · have ih := lw_eq (d := d) (e := e) (f := f) (m := m) (i := i) (fun j hj => hf j (by omega)) hz
      split
      · omega
      · exact ih
def hgI (f : Nat → Nat) (m i : Nat) : Int32 := if bcn m i = 0 then m1 else nI (hg f m i)
theorem hg_z {f : Nat → Nat} {m : Nat} : ∀ {i}, bcn m i = 0 → hg f m i = 0
  | 0, _ => rfl
  | i + 1, h => by
    rw [bcn_s] at h
    have h2 := hg_z (f := f) (m := m) (i := i) (by omega)
    show (if m.testBit i then max (hg f m i) (f i) else hg f m i) = 0
    cases e : m.testBit i
    · exact h2
    · rw [e] at h; exact absurd h (by show ¬ (bcn m i + 1 = 0); omega)
theorem jm_m1 {a : Nat} (h : a < 2147483648) : jmax m1 (nI a) = nI a := by
  unfold jmax
  rw [if_pos]
  rw [Int32.lt_iff_toInt_lt, nI_toInt h]
  show (-1 : Int) < a
  omega
theorem hgI_s {f : Nat → Nat} {m i : Nat} (hm : m.testBit i = true) (hf : ∀ j, j ≤ i → f j < 2147483648) : jmax (hgI f m i) (nI (f i)) = hgI f m (i + 1) := by
  have hfi := hf i (by omega)
  have e1 : bcn m (i + 1) ≠ 0 := by rw [bcn_s, hm]; show bcn m i + 1 ≠ 0; omega
  have e2 : hg f m (i + 1) = max (hg f m i) (f i) := by
    show (if m.testBit i then max (hg f m i) (f i) else hg f m i) = _
    rw [hm]; rfl
  unfold hgI
  rw [if_neg e1, e2]
  by_cases hz : bcn m i = 0
  · rw [if_pos hz, jm_m1 hfi, hg_z hz, Nat.zero_max]
  · rw [if_neg hz]
    have : hg f m i ≤ 2147483647 := hg_le (fun j hj => by have := hf j (by omega); omega)
    rw [pz_max (by omega) hfi]
theorem hgI_n {f : Nat → Nat} {m i : Nat} (hm : m.testBit i = false) : hgI f m i = hgI f m (i + 1) := by
  unfold hgI
  rw [bcn_s, hm]
  show _ = if bcn m i + 0 = 0 then m1 else nI (if m.testBit i = true then max (hg f m i) (f i) else hg f m i)
  rw [hm]; rfl
theorem pz_B : (2147483647 : Int32) = nI 2147483647 := Int32.toInt_inj.mp (by decide)
theorem pz_M : (1000000 : Int32) = nI 1000000 := Int32.toInt_inj.mp (by decide)
def mid (x w : Nat → Nat) (b : Nat) : Nat := 2 * x b + w b
theorem span_l0 {M : Mm} {k0 k2 k3 n m : Nat} {x w : Nat → Nat} {d : Nat} (h1 : ∀ i, i < n → f_X2_span_L10 k0 (nI m) k2 k3 M (nI (lw d (mid x w) m i)) (nI (hg (mid x w) m i)) (nI i) = some (Sum.inl (nI (lw d (mid x w) m (i + 1)), nI (hg (mid x w) m (i + 1)), nI (i + 1)))) (h2 : f_X2_span_L10 k0 (nI m) k2 k3 M (nI (lw d (mid x w) m n)) (nI (hg (mid x w) m n)) (nI n) = some (Sum.inr (nI (lw d (mid x w) m n), nI (hg (mid x w) m n)))) (hn : n ≤ 12) : loop (fun v => f_X2_span_L10 k0 (nI m) k2 k3 M v.1 v.2.1 v.2.2) FU (nI d, nI 0, nI 0) = some (nI (lw d (mid x w) m n), nI (hg (mid x w) m n)) := 
  lp_n (fun i => (nI (lw d (mid x w) m i), nI (hg (mid x w) m i), nI i)) n (fu_lt (by omega)) h1 h2
theorem span_l1 {M : Mm} {k0 k2 k3 n m i : Nat} {x w : Nat → Nat} {d : Nat} (h6 : M.1 k0 6 = nI n) (hn : n ≤ 12) (hm : m < 4096) (ex : IA M k2 n x) (ew : IA M k3 n w) (hmid : ∀ j, j < n → mid x w j ≤ 20200)  (hd : d < 2147483648) (hi : i < n) : f_X2_span_L10 k0 (nI m) k2 k3 M (nI (lw d (mid x w) m i)) (nI (hg (mid x w) m i)) (nI i) = some (Sum.inl (nI (lw d (mid x w) m (i + 1)), nI (hg (mid x w) m (i + 1)), nI (i + 1))) := by
  have h1 : ¬ n ≤ i := by omega
  have h2 := hmid i hi
  have h3 := lw_le (d := d) (f := mid x w) (m := m) (i := i)
  have h4 := hg_le (f := mid x w) (m := m) (i := i) (B := 20200) (fun j hj => hmid j (by omega))
  have e1 : lw d (mid x w) m (i + 1) = if m.testBit i = true then min (lw d (mid x w) m i) (mid x w i) else lw d (mid x w) m i := rfl
  have e2 : hg (mid x w) m (i + 1) = if m.testBit i = true then max (hg (mid x w) m i) (mid x w i) else hg (mid x w) m i := rfl
  rw [e1, e2]
  generalize lw d (mid x w) m i = p at h3
  generalize hg (mid x w) m i = q at h4
  have h5 : 2 * x i + w i = mid x w i := rfl
  rw [← h5] at h2 ⊢
  unfold f_X2_span_L10 f_X2_span_J60
  simp (disch := first | assumption | omega) only [↓pz_n1, pz_mm, pz_mm', ↓pz_lt1, ↓pz_bd, ↓pz_bd2, ↓pz_tn, ↓pz_ts, pz_0, pz_1, pz_2, pz_3, pz_4, pz_12, pz_13, pz_15, pz_16, pz_20, pz_23, pz_24, pz_200, ↓pz_rd, ↓pz_wr, pz_add, pz_mul, pz_sub, pz_le, pz_lt, pz_eq, pz_max, pz_min, pz_cl, pz_and, pz_or, pz_shl, pz_clr, pz_bit, pz_ff, pz_tt, pz_5, pz_6, pz_7, pz_10000, pz_sb, pz_b0, pz_b1, h6, h1, ex i hi, ew i hi]
  by_cases q : m.testBit i = true
  · rw [if_pos q, if_pos q, if_pos q]
  · rw [if_neg q, if_neg q, if_neg q]
theorem span_lp {M : Mm} {k0 k2 k3 n m : Nat} {x w : Nat → Nat} (h6 : M.1 k0 6 = nI n) (hn : n ≤ 12) (hm : m < 4096) (ex : IA M k2 n x) (ew : IA M k3 n w) (hmid : ∀ j, j < n → mid x w j ≤ 20200) {d : Nat} (hd : d < 2147483648) : loop (fun v => f_X2_span_L10 k0 (nI m) k2 k3 M v.1 v.2.1 v.2.2) FU (nI d, nI 0, nI 0) = some (nI (lw d (mid x w) m n), nI (hg (mid x w) m n)) := by
  have h1 : nI n ≤ nI n := (nI_leI (by omega) (by omega)).mpr (Nat.le_refl _)
  refine span_l0 (fun i hi => span_l1 h6 hn hm ex ew hmid hd hi) ?_ hn
  unfold f_X2_span_L10
  rw [h6, if_pos h1]
theorem span_en {a b c : Nat} (h : a = b) (h2 : a ≤ c) : (some (nI a, nI c) : Option (Int32 × Int32)).bind (fun z => f_X2_span_A10 z.1 z.2) = some (nI (c - b)) := by
  unfold f_X2_span_A10
  subst h
  rw [pz_bd]
  show some (nI c - nI a) = _
  rw [pz_sub h2]
theorem span_ok {M : Mm} {k0 k2 k3 n m : Nat} {x w : Nat → Nat} (h6 : M.1 k0 6 = nI n) (hn : n ≤ 12) (hm : m < 4096) (ex : IA M k2 n x) (ew : IA M k3 n w) (hx : ∀ b, b < n → x b ≤ 10000) (hw : ∀ b, b < n → 1 ≤ w b ∧ w b ≤ 200) (hb : bcn m n ≠ 0) : f_X2_span k0 (nI m) k2 k3 M = some (nI (hg (mid x w) m n - lw 1000000 (mid x w) m n)) := by
  have hmid : ∀ j, j < n → mid x w j ≤ 20200 := fun j hj => by have := hx j hj; have := hw j hj; unfold mid; omega
  have h := lw_eq (d := 2147483647) (e := 1000000) (f := mid x w) (m := m) (i := n) (fun j hj => by have := hmid j hj; omega) hb
  unfold f_X2_span
  rw [pz_B, pz_0, span_lp h6 hn hm ex ew hmid (by omega)]
  exact span_en h.1 h.2
theorem arm_13 {F : Abs → Nat → Mm → Prop} (hF : FOK F) {xs : Nat → Int32} {L n : Nat} {M : Mm} (hI : Inv F M) : Nx F n (f_arm_13 xs L (nI n) M) := by
  obtain ⟨A, hA, hC, hR⟩ := hI
  have hn12 := hA.n
  unfold f_arm_13
  have key : ∃ o, f_X9_wires M = some o ∧ ∀ M1, RI M1 A → RQr M1 A o (f_X10_wires M1) := by
    unfold f_X9_wires f_X10_wires f_X10_fail
    have ek : ∀ M1, RI M1 A → (wi M1 69 0 (nI 0)).1 69 6 = A.kd := fun M1 h => h.kd
    by_cases hk : A.kd = -1
    · rw [nl_n (hC.kd.trans hk)]
      simp (disch := first | assumption | omega) only [↓pz_n1, pz_mm, pz_mm', ↓pz_lt1, ↓pz_bd, ↓pz_bd2, ↓pz_tn, ↓pz_ts, pz_0, pz_1, pz_2, pz_3, pz_4, pz_12, pz_13, pz_15, pz_16, pz_20, pz_23, pz_24, pz_200, ↓pz_rd, ↓pz_wr, pz_add, pz_mul, pz_sub, pz_le, pz_lt, pz_eq, pz_max, pz_min, pz_cl, pz_and, pz_or, pz_shl, pz_clr, pz_bit, pz_ff, pz_tt, pz_5, pz_6, pz_7, pz_10000, pz_sb, pz_b0, pz_b1]
      refine ⟨_, rfl, fun M1 h => ?_⟩
      have : (wi M1 69 0 (nI 0)).1 69 6 = m1 := (ek M1 h).trans hk
      simp (disch := first | assumption | omega) only [↓pz_n1, pz_mm, pz_mm', ↓pz_lt1, ↓pz_bd, ↓pz_bd2, ↓pz_tn, ↓pz_ts, pz_0, pz_1, pz_2, pz_3, pz_4, pz_12, pz_13, pz_15, pz_16, pz_20, pz_23, pz_24, pz_200, ↓pz_rd, ↓pz_wr, pz_add, pz_mul, pz_sub, pz_le, pz_lt, pz_eq, pz_max, pz_min, pz_cl, pz_and, pz_or, pz_shl, pz_clr, pz_bit, pz_ff, pz_tt, pz_5, pz_6, pz_7, pz_10000, pz_sb, pz_b0, pz_b1, this]
      exact rq_fail h _
    · have hk' : ¬ A.kd = m1 := hk
      rw [nl_y (by rw [hC.kd]; exact hk)]
      have g := hA.gb hk
      have cg := hC.cg hk
      generalize hX : mid A.x (swd A.w A.h A.td) = X
      generalize hY : mid A.y (swd A.h A.w A.td) = Y
      have bX : ∀ j, j < A.n → X j ≤ 20200 := fun j hj => by subst hX; have := g.x j hj; have := g.sw hj; unfold mid; omega
      have bY : ∀ j, j < A.n → Y j ≤ 20200 := fun j hj => by subst hY; have := g.y j hj; have := g.sh hj; unfold mid; omega
      have box : ∀ m, m < 2 ^ A.n → f_X2_boxAround 5 (nI m) M = some (nI (if 2 ≤ bcn m A.n then (hg X m A.n - lw 1000000 X m A.n) + (hg Y m A.n - lw 1000000 Y m A.n) else 0)) := by
        intro m hm
        have hm12 := p12 hm hn12
        have hb := bcn_le m A.n
        unfold f_X2_boxAround
        rw [pz_bc hm hn12]
        simp (disch := first | assumption | omega) only [↓pz_n1, pz_mm, pz_mm', ↓pz_lt1, ↓pz_bd, ↓pz_bd2, ↓pz_tn, ↓pz_ts, pz_0, pz_1, pz_2, pz_3, pz_4, pz_12, pz_13, pz_15, pz_16, pz_20, pz_23, pz_24, pz_200, ↓pz_rd, ↓pz_wr, pz_add, pz_mul, pz_sub, pz_le, pz_lt, pz_eq, pz_max, pz_min, pz_cl, pz_and, pz_or, pz_shl, pz_clr, pz_bit, pz_ff, pz_tt, pz_5, pz_6, pz_7, pz_10000, pz_sb, pz_b0, pz_b1]
        by_cases h2 : 2 ≤ bcn m A.n
        · rw [if_pos h2, if_pos h2, span_ok cg.n hn12 hm12 cg.x cg.w g.x (fun b hb => g.sw hb) (by omega), span_ok cg.n hn12 hm12 cg.y cg.h g.y (fun b hb => g.sh hb) (by omega), hX, hY]
          simp (disch := first | assumption | omega) only [↓pz_n1, pz_mm, pz_mm', ↓pz_lt1, ↓pz_bd, ↓pz_bd2, ↓pz_tn, ↓pz_ts, pz_0, pz_1, pz_2, pz_3, pz_4, pz_12, pz_13, pz_15, pz_16, pz_20, pz_23, pz_24, pz_200, ↓pz_rd, ↓pz_wr, pz_add, pz_mul, pz_sub, pz_le, pz_lt, pz_eq, pz_max, pz_min, pz_cl, pz_and, pz_or, pz_shl, pz_clr, pz_bit, pz_ff, pz_tt, pz_5, pz_6, pz_7, pz_10000, pz_sb, pz_b0, pz_b1]
        · rw [if_neg h2, if_neg h2]
      generalize hB : (fun k => if 2 ≤ bcn (A.nt k) A.n then (hg X (A.nt k) A.n - lw 1000000 X (A.nt k) A.n) + (hg Y (A.nt k) A.n - lw 1000000 Y (A.nt k) A.n) else 0) = B
      have e1 : loop (fun v => f_X9_wires_L8 M v.1 v.2) FU (nI 0, nI 0) = some (nI (smn B 20)) := by
        refine lp_n (fun i => (nI (smn B i), nI i)) 20 (fu_lt (by omega)) (fun i hi => ?_) ?_
        · show f_X9_wires_L8 M (nI (smn B i)) (nI i) = _
          unfold f_X9_wires_L8
          have h1 : ¬ 20 ≤ i := by omega
          simp (disch := first | assumption | omega) only [↓pz_n1, pz_mm, pz_mm', ↓pz_lt1, ↓pz_bd, ↓pz_bd2, ↓pz_tn, ↓pz_ts, pz_0, pz_1, pz_2, pz_3, pz_4, pz_12, pz_13, pz_15, pz_16, pz_20, pz_23, pz_24, pz_200, ↓pz_rd, ↓pz_wr, pz_add, pz_mul, pz_sub, pz_le, pz_lt, pz_eq, pz_max, pz_min, pz_cl, pz_and, pz_or, pz_shl, pz_clr, pz_bit, pz_ff, pz_tt, pz_5, pz_6, pz_7, pz_10000, pz_sb, pz_b0, pz_b1, h1, hC.nt i hi, box (A.nt i) (hA.nt i hi)]
          subst hB
          rfl
        · show f_X9_wires_L8 M (nI (smn B 20)) (nI 20) = _
          unfold f_X9_wires_L8
          simp (disch := first | assumption | omega) only [↓pz_n1, pz_mm, pz_mm', ↓pz_lt1, ↓pz_bd, ↓pz_bd2, ↓pz_tn, ↓pz_ts, pz_0, pz_1, pz_2, pz_3, pz_4, pz_12, pz_13, pz_15, pz_16, pz_20, pz_23, pz_24, pz_200, ↓pz_rd, ↓pz_wr, pz_add, pz_mul, pz_sub, pz_le, pz_lt, pz_eq, pz_max, pz_min, pz_cl, pz_and, pz_or, pz_shl, pz_clr, pz_bit, pz_ff, pz_tt, pz_5, pz_6, pz_7, pz_10000, pz_sb, pz_b0, pz_b1]
          rfl
      simp (disch := first | assumption | omega) only [↓pz_n1, pz_mm, pz_mm', ↓pz_lt1, ↓pz_bd, ↓pz_bd2, ↓pz_tn, ↓pz_ts, pz_0, pz_1, pz_2, pz_3, pz_4, pz_12, pz_13, pz_15, pz_16, pz_20, pz_23, pz_24, pz_200, ↓pz_rd, ↓pz_wr, pz_add, pz_mul, pz_sub, pz_le, pz_lt, pz_eq, pz_max, pz_min, pz_cl, pz_and, pz_or, pz_shl, pz_clr, pz_bit, pz_ff, pz_tt, pz_5, pz_6, pz_7, pz_10000, pz_sb, pz_b0, pz_b1]
      rw [e1]
      unfold f_X9_wires_A8
      simp (disch := first | assumption | omega) only [↓pz_n1, pz_mm, pz_mm', ↓pz_lt1, ↓pz_bd, ↓pz_bd2, ↓pz_tn, ↓pz_ts, pz_0, pz_1, pz_2, pz_3, pz_4, pz_12, pz_13, pz_15, pz_16, pz_20, pz_23, pz_24, pz_200, ↓pz_rd, ↓pz_wr, pz_add, pz_mul, pz_sub, pz_le, pz_lt, pz_eq, pz_max, pz_min, pz_cl, pz_and, pz_or, pz_shl, pz_clr, pz_bit, pz_ff, pz_tt, pz_5, pz_6, pz_7, pz_10000, pz_sb, pz_b0, pz_b1]
      refine ⟨_, rfl, fun M1 h => ?_⟩
      rw [ek M1 h, if_neg hk']
      generalize hM2 : wi M1 69 0 (nI 0) = M2
      have rg : RG M2 A.n A.td A.w A.h A.x A.y := by subst hM2; exact (h.rg hk).scr (Scr.rf.w (by omega))
      have nt : IA M2 72 20 A.nt := by subst hM2; exact h.nt.eq rfl
      have e2 : loop (fun v => f_X10_wires_L22 M2 v.1 v.2) FU (nI 0, nI 0) = some (nI (smn B 20)) := by
        refine lp_n (fun i => (nI (smn B i), nI i)) 20 (fu_lt (by omega)) (fun i hi => ?_) ?_
        · show f_X10_wires_L22 M2 (nI (smn B i)) (nI i) = _
          unfold f_X10_wires_L22
          have h1 : ¬ 20 ≤ i := by omega
          have hm := hA.nt i hi
          have hm12 := p12 hm hn12
          have nti := nt i hi
          have hsB : smn B (i + 1) = smn B i + (if 2 ≤ bcn (A.nt i) A.n then (hg X (A.nt i) A.n - lw 1000000 X (A.nt i) A.n) + (hg Y (A.nt i) A.n - lw 1000000 Y (A.nt i) A.n) else 0) := by subst hB; rfl
          rw [hsB]
          generalize A.nt i = m at hm hm12 nti
          have e3 : loop (fun v => f_X10_wires_L47 M2 (nI i) v.1 v.2.1 v.2.2.1 v.2.2.2.1 v.2.2.2.2.1 v.2.2.2.2.2) FU (nI 1000000, m1, nI 1000000, m1, nI 0, nI 0) = some (nI (lw 1000000 X m A.n), hgI X m A.n, nI (lw 1000000 Y m A.n), hgI Y m A.n, nI (bcn m A.n)) := by
            refine lp_n (fun j => (nI (lw 1000000 X m j), hgI X m j, nI (lw 1000000 Y m j), hgI Y m j, nI (bcn m j), nI j)) A.n (fu_lt (by omega)) (fun j hj => ?_) ?_
            · show f_X10_wires_L47 M2 (nI i) (nI (lw 1000000 X m j)) (hgI X m j) (nI (lw 1000000 Y m j)) (hgI Y m j) (nI (bcn m j)) (nI j) = _
              unfold f_X10_wires_L47 f_X10_wires_J166
              have h2 : ¬ A.n ≤ j := by omega
              have b1 := bX j hj
              have b2 := bY j hj
              have b3 := lw_le (d := 1000000) (f := X) (m := m) (i := j)
              have b4 := lw_le (d := 1000000) (f := Y) (m := m) (i := j)
              have x1 : 2 * A.x j + swd A.w A.h A.td j = X j := by subst hX; rfl
              have y1 : 2 * A.y j + swd A.h A.w A.td j = Y j := by subst hY; rfl
              simp (disch := first | assumption | omega) only [↓pz_n1, pz_mm, pz_mm', ↓pz_lt1, ↓pz_bd, ↓pz_bd2, ↓pz_tn, ↓pz_ts, pz_0, pz_1, pz_2, pz_3, pz_4, pz_12, pz_13, pz_15, pz_16, pz_20, pz_23, pz_24, pz_200, ↓pz_rd, ↓pz_wr, pz_add, pz_mul, pz_sub, pz_le, pz_lt, pz_eq, pz_max, pz_min, pz_cl, pz_and, pz_or, pz_shl, pz_clr, pz_bit, pz_ff, pz_tt, pz_5, pz_6, pz_7, pz_10000, pz_sb, pz_b0, pz_b1, rg.n, h2, nti, rg.x j hj, rg.y j hj, pz_rw rg.td g.td rg.w rg.h hj hn12, pz_rh rg.td g.td rg.w rg.h hj hn12, x1, y1]
              simp only [lw, bcn_s]
              split
              · rename_i q
                rw [q, hgI_n q, hgI_n q]; rfl
              · rename_i q
                rw [Bool.not_eq_false] at q
                rw [q, hgI_s q (fun k hk => by have := bX k (by omega); omega), hgI_s q (fun k hk => by have := bY k (by omega); omega)]; rfl
            · show f_X10_wires_L47 M2 (nI i) (nI (lw 1000000 X m A.n)) (hgI X m A.n) (nI (lw 1000000 Y m A.n)) (hgI Y m A.n) (nI (bcn m A.n)) (nI A.n) = _
              unfold f_X10_wires_L47
              have h2 : A.n ≤ A.n := Nat.le_refl _
              simp (disch := first | assumption | omega) only [↓pz_n1, pz_mm, pz_mm', ↓pz_lt1, ↓pz_bd, ↓pz_bd2, ↓pz_tn, ↓pz_ts, pz_0, pz_1, pz_2, pz_3, pz_4, pz_12, pz_13, pz_15, pz_16, pz_20, pz_23, pz_24, pz_200, ↓pz_rd, ↓pz_wr, pz_add, pz_mul, pz_sub, pz_le, pz_lt, pz_eq, pz_max, pz_min, pz_cl, pz_and, pz_or, pz_shl, pz_clr, pz_bit, pz_ff, pz_tt, pz_5, pz_6, pz_7, pz_10000, pz_sb, pz_b0, pz_b1, rg.n, h2]
          simp (disch := first | assumption | omega) only [↓pz_n1, pz_mm, pz_mm', ↓pz_lt1, ↓pz_bd, ↓pz_bd2, ↓pz_tn, ↓pz_ts, pz_0, pz_1, pz_2, pz_3, pz_4, pz_12, pz_13, pz_15, pz_16, pz_20, pz_23, pz_24, pz_200, ↓pz_rd, ↓pz_wr, pz_add, pz_mul, pz_sub, pz_le, pz_lt, pz_eq, pz_max, pz_min, pz_cl, pz_and, pz_or, pz_shl, pz_clr, pz_bit, pz_ff, pz_tt, pz_5, pz_6, pz_7, pz_10000, pz_sb, pz_b0, pz_b1, h1, pz_M]
          rw [e3]
          unfold f_X10_wires_A47 f_X10_wires_J191
          have hb := bcn_le m A.n
          simp (disch := first | assumption | omega) only [↓pz_n1, pz_mm, pz_mm', ↓pz_lt1, ↓pz_bd, ↓pz_bd2, ↓pz_tn, ↓pz_ts, pz_0, pz_1, pz_2, pz_3, pz_4, pz_12, pz_13, pz_15, pz_16, pz_20, pz_23, pz_24, pz_200, ↓pz_rd, ↓pz_wr, pz_add, pz_mul, pz_sub, pz_le, pz_lt, pz_eq, pz_max, pz_min, pz_cl, pz_and, pz_or, pz_shl, pz_clr, pz_bit, pz_ff, pz_tt, pz_5, pz_6, pz_7, pz_10000, pz_sb, pz_b0, pz_b1]
          by_cases h2 : 2 ≤ bcn m A.n
          · have h3 : ¬ bcn m A.n ≤ 1 := by omega
            rw [if_neg h3, if_pos h2]
            unfold hgI
            rw [if_neg (by omega), if_neg (by omega)]
            have q1 := (lw_eq (d := 1000000) (e := 1000000) (f := X) (m := m) (i := A.n) (fun j hj => by have := bX j hj; omega) (by omega)).2
            have q2 := (lw_eq (d := 1000000) (e := 1000000) (f := Y) (m := m) (i := A.n) (fun j hj => by have := bY j hj; omega) (by omega)).2
            simp (disch := first | assumption | omega) only [↓pz_n1, pz_mm, pz_mm', ↓pz_lt1, ↓pz_bd, ↓pz_bd2, ↓pz_tn, ↓pz_ts, pz_0, pz_1, pz_2, pz_3, pz_4, pz_12, pz_13, pz_15, pz_16, pz_20, pz_23, pz_24, pz_200, ↓pz_rd, ↓pz_wr, pz_add, pz_mul, pz_sub, pz_le, pz_lt, pz_eq, pz_max, pz_min, pz_cl, pz_and, pz_or, pz_shl, pz_clr, pz_bit, pz_ff, pz_tt, pz_5, pz_6, pz_7, pz_10000, pz_sb, pz_b0, pz_b1]
            congr 5
            omega
          · have h3 : bcn m A.n ≤ 1 := by omega
            rw [if_pos h3, if_neg h2]; rfl
        · show f_X10_wires_L22 M2 (nI (smn B 20)) (nI 20) = _
          unfold f_X10_wires_L22
          simp (disch := first | assumption | omega) only [↓pz_n1, pz_mm, pz_mm', ↓pz_lt1, ↓pz_bd, ↓pz_bd2, ↓pz_tn, ↓pz_ts, pz_0, pz_1, pz_2, pz_3, pz_4, pz_12, pz_13, pz_15, pz_16, pz_20, pz_23, pz_24, pz_200, ↓pz_rd, ↓pz_wr, pz_add, pz_mul, pz_sub, pz_le, pz_lt, pz_eq, pz_max, pz_min, pz_cl, pz_and, pz_or, pz_shl, pz_clr, pz_bit, pz_ff, pz_tt, pz_5, pz_6, pz_7, pz_10000, pz_sb, pz_b0, pz_b1]
          rfl
      rw [e2]
      unfold f_X10_wires_A22
      simp (disch := first | assumption | omega) only [↓pz_n1, pz_mm, pz_mm', ↓pz_lt1, ↓pz_bd, ↓pz_bd2, ↓pz_tn, ↓pz_ts, pz_0, pz_1, pz_2, pz_3, pz_4, pz_12, pz_13, pz_15, pz_16, pz_20, pz_23, pz_24, pz_200, ↓pz_rd, ↓pz_wr, pz_add, pz_mul, pz_sub, pz_le, pz_lt, pz_eq, pz_max, pz_min, pz_cl, pz_and, pz_or, pz_shl, pz_clr, pz_bit, pz_ff, pz_tt, pz_5, pz_6, pz_7, pz_10000, pz_sb, pz_b0, pz_b1]
      subst hM2
      exact rq_val h _
  obtain ⟨o, e1, e2⟩ := key
  have := arm_w hF Int32.toInt64 o (n := n) hA hR (lq_p hF Int32.toInt64 hC e1) e2 (J := f_law_J1139 (nI n)) (fun _ => rfl)
  rw [← pz_0] at this
  exact this
