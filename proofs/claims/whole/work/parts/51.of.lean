/-! of -/
theorem bcn_cg {m k n : Nat} (h : ∀ i, i < n → m.testBit i = k.testBit i) : bcn m n = bcn k n := smn_cg (fun i hi => by rw [h i hi])
theorem bcn_mono (m : Nat) {a : Nat} : ∀ {b : Nat}, a ≤ b → bcn m a ≤ bcn m b
  | 0, h => by have : a = 0 := by omega
               rw [this]; exact Nat.le_refl _
  | b + 1, h => by
    by_cases e : a = b + 1
    · rw [e]; exact Nat.le_refl _
    · have := bcn_mono m (a := a) (b := b) (by omega)
      rw [bcn_s]; omega
theorem bcn_clr {m b : Nat} (hb : m.testBit b = true) : ∀ {n : Nat}, b < n → bcn (clr m (2 ^ b)) n + 1 = bcn m n
  | 0, h => by omega
  | n + 1, h => by
    have hc : ∀ i, (clr m (2 ^ b)).testBit i = if i = b then false else m.testBit i := fun i => by
      rw [clr_bit, Nat.testBit_two_pow]
      by_cases e : i = b
      · subst e; simp
      · have : ¬ b = i := fun h => e h.symm
        simp [e, this]
    rw [bcn_s, bcn_s]
    by_cases e : b = n
    · subst e
      rw [bcn_cg (m := clr m (2 ^ b)) (k := m) (n := b) (fun i hi => by rw [hc, if_neg (by omega)]), hc, if_pos rfl, hb]
      rfl
    · have := bcn_clr hb (n := n) (by omega)
      rw [hc n, if_neg (by omega)]
      omega
theorem nth_ex {m s : Nat} : ∀ {n : Nat}, s < bcn m n → ∃ b, b < n ∧ m.testBit b = true ∧ bcn m b = s
  | 0, h => by have : s < 0 := h
               omega
  | n + 1, h => by
    by_cases q : s < bcn m n
    · obtain ⟨b, h1, h2⟩ := nth_ex q
      exact ⟨b, by omega, h2⟩
    · rw [bcn_s] at h
      have := bool_lt (m.testBit n)
      cases e : m.testBit n
      · rw [e] at h; exact absurd h (by show ¬ s < bcn m n + 0; omega)
      · rw [e] at h
        have h : s < bcn m n + 1 := h
        exact ⟨n, by omega, e, by omega⟩
theorem nth_lt {m b c : Nat} (hb : m.testBit b = true) (h : b < c) : bcn m b < bcn m c := by
  have h1 := bcn_mono m (a := b + 1) (b := c) (by omega)
  rw [bcn_s, hb] at h1
  have h1 : bcn m b + 1 ≤ bcn m c := h1
  omega
theorem nth_un {m b c : Nat} (hb : m.testBit b = true) (hc : m.testBit c = true) (h : bcn m b = bcn m c) : b = c := by
  rcases Nat.lt_trichotomy b c with q | q | q
  · have := nth_lt hb q; omega
  · exact q
  · have := nth_lt hc q; omega
def nthF (m s : Nat) : Nat → Nat
  | 0 => 0
  | n + 1 => if m.testBit n = true ∧ bcn m n = s then n else nthF m s n
theorem nthF_ok {m s : Nat} : ∀ {n : Nat}, s < bcn m n → nthF m s n < n ∧ m.testBit (nthF m s n) = true ∧ bcn m (nthF m s n) = s := by
  intro n h
  have key : ∀ {n : Nat}, (∃ b, b < n ∧ m.testBit b = true ∧ bcn m b = s) → nthF m s n < n ∧ m.testBit (nthF m s n) = true ∧ bcn m (nthF m s n) = s := by
    intro n
    induction n with
    | zero => rintro ⟨b, hb, _⟩; omega
    | succ n ih =>
      rintro ⟨b, hb, h1, h2⟩
      show (if m.testBit n = true ∧ bcn m n = s then n else nthF m s n) < n + 1 ∧ m.testBit (if m.testBit n = true ∧ bcn m n = s then n else nthF m s n) = true ∧ bcn m (if m.testBit n = true ∧ bcn m n = s then n else nthF m s n) = s
      by_cases e : m.testBit n = true ∧ bcn m n = s
      · rw [if_pos e]; exact ⟨by omega, e.1, e.2⟩
      · rw [if_neg e]
        have hne : b ≠ n := fun q => e (by rw [← q]; exact ⟨h1, h2⟩)
        have := ih ⟨b, by omega, h1, h2⟩
        exact ⟨by omega, this.2⟩
  exact key (nth_ex h)
theorem nthc_ok {M : Mm} {k0 n m b : Nat} (hn : n ≤ 12) (h5 : M.1 k0 5 = nI n) (hm : m < 4096) (hb : b < n) (h1 : m.testBit b = true) : f_X4_nthOf k0 (nI m) (nI (bcn m b)) M = some (nI b) := by
  unfold f_X4_nthOf
  have hbn := bcn_le m b
  have lp : loop (fun v => f_X4_nthOf_L5 k0 (nI m) (nI (bcn m b)) M v.1 v.2) FU (nI 0, nI 0) = some (.inr (nI b)) := by
    refine lp_n (fun i => (nI (bcn m i), nI i)) b (fu_lt (by omega)) (fun i hi => ?_) ?_
    · show f_X4_nthOf_L5 k0 (nI m) (nI (bcn m b)) M (nI (bcn m i)) (nI i) = some (Sum.inl (nI (bcn m i + (m.testBit i).toNat), nI (i + 1)))
      unfold f_X4_nthOf_L5 f_X4_nthOf_J35
      have q1 : ¬ n ≤ i := by omega
      have hbi := bcn_le m i
      simp (disch := first | assumption | omega) only [↓pz_n1, pz_mm, pz_mm', ↓pz_lt1, ↓pz_bd, ↓pz_bd2, ↓pz_tn, ↓pz_ts, pz_0, pz_1, pz_2, pz_3, pz_4, pz_12, pz_13, pz_15, pz_16, pz_20, pz_23, pz_24, pz_200, ↓pz_rd, ↓pz_wr, pz_add, pz_mul, pz_sub, pz_le, pz_lt, pz_eq, pz_max, pz_min, pz_cl, pz_and, pz_or, pz_shl, pz_clr, pz_bit, pz_ff, pz_tt, pz_5, pz_6, pz_7, pz_10000, pz_sb, pz_b0, pz_b1, h5, q1]
      by_cases q : m.testBit i = true
      · have := nth_lt q hi
        rw [if_pos q, if_neg (by omega), q]; rfl
      · rw [if_neg q]
        rw [Bool.not_eq_true] at q
        rw [q]; rfl
    · show f_X4_nthOf_L5 k0 (nI m) (nI (bcn m b)) M (nI (bcn m b)) (nI b) = _
      unfold f_X4_nthOf_L5
      have q1 : ¬ n ≤ b := by omega
      simp (disch := first | assumption | omega) only [↓pz_n1, pz_mm, pz_mm', ↓pz_lt1, ↓pz_bd, ↓pz_bd2, ↓pz_tn, ↓pz_ts, pz_0, pz_1, pz_2, pz_3, pz_4, pz_12, pz_13, pz_15, pz_16, pz_20, pz_23, pz_24, pz_200, ↓pz_rd, ↓pz_wr, pz_add, pz_mul, pz_sub, pz_le, pz_lt, pz_eq, pz_max, pz_min, pz_cl, pz_and, pz_or, pz_shl, pz_clr, pz_bit, pz_ff, pz_tt, pz_5, pz_6, pz_7, pz_10000, pz_sb, pz_b0, pz_b1, h5, q1, h1]
  rw [pz_0, lp]; rfl
theorem nthr_ok {m b s : Nat} (hm : m < 4096) (hb : b < 12) (h1 : m.testBit b = true) (hs : s = bcn m b) : loop (fun v => f_X10_orderOf_L57 (nI m) v.1 v.2) FU (nI s, nI 0) = some (nI b) := by
  subst hs
  have hbn := bcn_le m b
  have e0 : nI (bcn m b) = nI (bcn m b - bcn m 0) := by rfl
  have lp : loop (fun v => f_X10_orderOf_L57 (nI m) v.1 v.2) FU (nI (bcn m b - bcn m 0), nI 0) = some (nI b) := by
    refine lp_n (fun i => (nI (bcn m b - bcn m i), nI i)) b (fu_lt (by omega)) (fun i hi => ?_) ?_
    · show f_X10_orderOf_L57 (nI m) (nI (bcn m b - bcn m i)) (nI i) = some (Sum.inl (nI (bcn m b - (bcn m i + (m.testBit i).toNat)), nI (i + 1)))
      unfold f_X10_orderOf_L57 f_X10_orderOf_J72 f_X10_orderOf_J86
      have hbi := bcn_mono m (a := i) (b := b) (by omega)
      by_cases q : m.testBit i = true
      · have := nth_lt q hi
        have q0 : 0 < bcn m b - bcn m i := by omega
        simp (disch := first | assumption | omega) only [↓pz_n1, pz_mm, pz_mm', ↓pz_lt1, ↓pz_bd, ↓pz_bd2, ↓pz_tn, ↓pz_ts, pz_0, pz_1, pz_2, pz_3, pz_4, pz_12, pz_13, pz_15, pz_16, pz_20, pz_23, pz_24, pz_200, ↓pz_rd, ↓pz_wr, pz_add, pz_mul, pz_sub, pz_le, pz_lt, pz_eq, pz_max, pz_min, pz_cl, pz_and, pz_or, pz_shl, pz_clr, pz_bit, pz_ff, pz_tt, pz_5, pz_6, pz_7, pz_10000, pz_sb, pz_b0, pz_b1, q0, q]
        rw [pz_dec (by omega), Nat.sub_sub]; rfl
      · have qq := q
        rw [Bool.not_eq_true] at q
        simp (disch := first | assumption | omega) only [↓pz_n1, pz_mm, pz_mm', ↓pz_lt1, ↓pz_bd, ↓pz_bd2, ↓pz_tn, ↓pz_ts, pz_0, pz_1, pz_2, pz_3, pz_4, pz_12, pz_13, pz_15, pz_16, pz_20, pz_23, pz_24, pz_200, ↓pz_rd, ↓pz_wr, pz_add, pz_mul, pz_sub, pz_le, pz_lt, pz_eq, pz_max, pz_min, pz_cl, pz_and, pz_or, pz_shl, pz_clr, pz_bit, pz_ff, pz_tt, pz_5, pz_6, pz_7, pz_10000, pz_sb, pz_b0, pz_b1, q]
        have e2 : (false = true) = False := by simp
        simp only [e2, if_false, if_true]
        split <;> rfl
    · show f_X10_orderOf_L57 (nI m) (nI (bcn m b - bcn m b)) (nI b) = _
      unfold f_X10_orderOf_L57
      rw [Nat.sub_self]
      simp (disch := first | assumption | omega) only [↓pz_n1, pz_mm, pz_mm', ↓pz_lt1, ↓pz_bd, ↓pz_bd2, ↓pz_tn, ↓pz_ts, pz_0, pz_1, pz_2, pz_3, pz_4, pz_12, pz_13, pz_15, pz_16, pz_20, pz_23, pz_24, pz_200, ↓pz_rd, ↓pz_wr, pz_add, pz_mul, pz_sub, pz_le, pz_lt, pz_eq, pz_max, pz_min, pz_cl, pz_and, pz_or, pz_shl, pz_clr, pz_bit, pz_ff, pz_tt, pz_5, pz_6, pz_7, pz_10000, pz_sb, pz_b0, pz_b1, h1]
      rfl
  rw [e0]; exact lp
theorem fac_pos : ∀ n, 1 ≤ fac n
  | 0 => Nat.le_refl _
  | n + 1 => Nat.mul_pos (by omega) (fac_pos n)
theorem fac_le : ∀ n, n < 13 → fac n ≤ 479001600 := by decide +kernel
def oms (n r : Nat) : Nat → Nat × Nat
  | 0 => (2 ^ n - 1, r)
  | i + 1 => (clr (oms n r i).1 (2 ^ nthF (oms n r i).1 ((oms n r i).2 / fac (n - 1 - i)) n), (oms n r i).2 % fac (n - 1 - i))
def ordN (n r i : Nat) : Nat := nthF (oms n r i).1 ((oms n r i).2 / fac (n - 1 - i)) n
theorem oms_s (n r i : Nat) : oms n r (i + 1) = (clr (oms n r i).1 (2 ^ ordN n r i), (oms n r i).2 % fac (n - 1 - i)) := rfl
theorem bcn_full (n : Nat) : ∀ k, k ≤ n → bcn (2 ^ n - 1) k = k
  | 0, _ => rfl
  | k + 1, h => by
    rw [bcn_s, bcn_full n k (by omega), Nat.testBit_two_pow_sub_one]
    simp [show k < n by omega]
theorem oms_inv {n r : Nat} (hr : r < fac n) : ∀ i, i ≤ n → bcn (oms n r i).1 n = n - i ∧ (oms n r i).1 < 2 ^ n ∧ (oms n r i).2 < fac (n - i)
  | 0, _ => ⟨bcn_full n n (Nat.le_refl _), by have := Nat.two_pow_pos n; show 2 ^ n - 1 < 2 ^ n; omega, hr⟩
  | i + 1, h => by
    obtain ⟨h1, h2, h3⟩ := oms_inv hr i (by omega)
    have hf : fac (n - i) = (n - i) * fac (n - 1 - i) := by
      have : n - i = (n - 1 - i) + 1 := by omega
      rw [this]; rfl
    have hs : (oms n r i).2 / fac (n - 1 - i) < bcn (oms n r i).1 n := by
      rw [h1, Nat.div_lt_iff_lt_mul (fac_pos _)]
      rw [hf] at h3; exact h3
    obtain ⟨c1, c2, c3⟩ := nthF_ok hs
    rw [oms_s]
    refine ⟨?_, clr_lt h2, ?_⟩
    · have := bcn_clr c2 c1
      show bcn (clr (oms n r i).1 (2 ^ ordN n r i)) n = _
      unfold ordN
      omega
    · show (oms n r i).2 % fac (n - 1 - i) < fac (n - (i + 1))
      rw [show n - (i + 1) = n - 1 - i by omega]
      exact Nat.mod_lt _ (fac_pos _)
theorem ord_ok {n r : Nat} (hr : r < fac n) {i : Nat} (hi : i < n) : ordN n r i < n ∧ (oms n r i).1.testBit (ordN n r i) = true ∧ bcn (oms n r i).1 (ordN n r i) = (oms n r i).2 / fac (n - 1 - i) := by
  obtain ⟨h1, h2, h3⟩ := oms_inv hr i (by omega)
  have hf : fac (n - i) = (n - i) * fac (n - 1 - i) := by
    have : n - i = (n - 1 - i) + 1 := by omega
    rw [this]; rfl
  have hs : (oms n r i).2 / fac (n - 1 - i) < bcn (oms n r i).1 n := by
    rw [h1, Nat.div_lt_iff_lt_mul (fac_pos _)]
    rw [hf] at h3; exact h3
  exact nthF_ok hs
theorem oms_gone {n r i : Nat} : ∀ {j}, i < j → (oms n r j).1.testBit (ordN n r i) = false
  | 0, h => by omega
  | j + 1, h => by
    rw [oms_s, clr_bit]
    by_cases e : i = j
    · subst e
      rw [Nat.testBit_two_pow]; simp
    · rw [oms_gone (j := j) (by omega)]; rfl
theorem ord_perm {n r : Nat} (hr : r < fac n) : PermN n (ordN n r) := by
  refine ⟨fun i hi => (ord_ok hr hi).1, fun i j hi hj e => ?_⟩
  rcases Nat.lt_trichotomy i j with q | q | q
  · have h1 := oms_gone (n := n) (r := r) q
    rw [e, (ord_ok hr hj).2.1] at h1
    cases h1
  · exact q
  · have h1 := oms_gone (n := n) (r := r) q
    rw [← e, (ord_ok hr hi).2.1] at h1
    cases h1
theorem lI_div {a b : Nat} (ha : a < 9223372036854775808) (hb : b < 9223372036854775808) (h0 : 1 ≤ b) : lI a / lI b = lI (a / b) := by
  apply Int64.toInt_inj.mp
  have hne : lI b ≠ -1 := fun e => by
    have := congrArg Int64.toInt e
    rw [lI_toInt hb] at this
    have e1 : (-1 : Int64).toInt = -1 := rfl
    omega
  have hq : a / b ≤ a := Nat.div_le_self a b
  rw [Int64.toInt_div_of_ne_right _ _ hne, lI_toInt ha, lI_toInt hb, lI_toInt (by omega)]
  exact (Int.ofNat_tdiv a b).symm
theorem lI_sub {a b : Nat} (h : b ≤ a) : lI a - lI b = lI (a - b) := (Int64.ofNat_sub a b h).symm
theorem lI_mod {a b : Nat} (ha : a < 9223372036854775808) (hb : b < 9223372036854775808) (h0 : 1 ≤ b) : lI a - lI a / lI b * lI b = lI (a % b) := by
  have h := Nat.div_add_mod a b
  rw [Nat.mul_comm] at h
  rw [lI_div ha hb h0, lI_mul, lI_sub (by omega)]
  congr 1
  omega
theorem lI_32 {k : Nat} : (lI k).toInt32 = nI k := by
  apply b_ext
  intro i hi
  rw [to32 _ hi, bt_nI _ _ hi]
  unfold bl lI
  show (BitVec.ofNat 64 k).getLsbD i = _
  rw [BitVec.getLsbD_ofNat]
  simp [show i < 64 by omega]
theorem lI_ne0 {b : Nat} (hb : b < 9223372036854775808) (h0 : 1 ≤ b) : ¬ lI b = 0 := fun e => by
  have := congrArg Int64.toInt e
  rw [lI_toInt hb] at this
  have e1 : (0 : Int64).toInt = 0 := rfl
  omega
theorem lg_neg (x y : Int64) : (lg_cmp x y < 0) ↔ x < y := by
  unfold lg_cmp
  by_cases h1 : x > y
  · rw [if_pos h1]
    have h1 : y < x := h1
    rw [Int64.lt_iff_toInt_lt] at h1 ⊢
    constructor
    · intro h; exact absurd h (by decide)
    · intro h; omega
  · rw [if_neg h1]
    by_cases h2 : x = y
    · rw [if_pos h2, h2]
      constructor
      · intro h; exact absurd h (by decide)
      · intro h; exact absurd h Int64.lt_irrefl
    · rw [if_neg h2]
      have h1 : ¬ y < x := h1
      rw [Int64.lt_iff_toInt_lt] at h1 ⊢
      have h3 : x.toInt ≠ y.toInt := fun e => h2 (Int64.toInt_inj.mp e)
      constructor
      · intro _; omega
      · intro _; decide
theorem lg_pos {b : Nat} (hb : b < 9223372036854775808) (h0 : 1 ≤ b) : ¬ lg_cmp (lI b) 0 ≤ 0 := by
  unfold lg_cmp
  rw [if_pos (by
    show (0 : Int64) < lI b
    rw [Int64.lt_iff_toInt_lt, lI_toInt hb]
    have e1 : (0 : Int64).toInt = 0 := rfl
    omega)]
  decide
theorem mask_of {M : Mm} {n : Nat} (hn : n ≤ 12) : ((1 : Int32) <<< (nI n &&& 31)) - (1 : Int32) = nI (2 ^ n - 1) := by
  have hp := Nat.two_pow_pos n
  rw [pz_shl1 (by omega), pz_1, pz_sub (by omega)]
theorem fill_ok {M : Mm} {k0 k1 n r : Nat} (hn : n ≤ 12) (hk : k1 ≠ k0) (h5 : M.1 k0 5 = nI n) (hr : r < fac n) : Wp (f_X4_fill k0 k1 (lI r) M) (fun M' => IA M' k1 n (ordN n r) ∧ Fr (SB k1 k1) M M') := by
  unfold f_X4_fill f_X4_fill_A16
  have hfn := fac_le n (by omega)
  rw [h5, mask_of (M := M) hn, pz_lt1, pz_0]
  refine wp_b (P := fun M' => IA M' k1 n (ordN n r) ∧ Fr (SB k1 k1) M M') ?_ (fun M' h => wp_s h)
  refine wp_l (fun i (v : Int32 × Int64 × Int32 × Mm) => v.1 = nI (oms n r i).1 ∧ v.2.1 = lI (oms n r i).2 ∧ v.2.2.1 = nI i ∧ IA v.2.2.2 k1 i (ordN n r) ∧ Fr (SB k1 k1) M v.2.2.2) n (fu_lt (by omega)) ?_ ?_ ⟨rfl, rfl, rfl, IA.nil, Fr.rf⟩
  · rintro i ⟨x4, x5, x7, M1⟩ hi ⟨a1, a2, a3, a4, a5⟩
    have a1 : x4 = nI (oms n r i).1 := a1
    have a2 : x5 = lI (oms n r i).2 := a2
    have a3 : x7 = nI i := a3
    subst a1 a2 a3
    have a4 : IA M1 k1 i (ordN n r) := a4
    have a5 : Fr (SB k1 k1) M M1 := a5
    show Wp (f_X4_fill_L16 k0 k1 (nI (oms n r i).1) (lI (oms n r i).2) (nI i) M1) _
    obtain ⟨o1, o2, o3⟩ := ord_ok hr hi
    obtain ⟨i1, i2, i3⟩ := oms_inv hr i (by omega)
    have i4 := p12 i2 hn
    have f1 := fac_le (n - i) (by omega)
    have f2 := fac_le (n - 1 - i) (by omega)
    have f3 := fac_pos (n - 1 - i)
    have c5 : M1.1 k0 5 = nI n := by rw [a5.1 k0 (fun h => by unfold SB at h; omega)]; exact h5
    unfold f_X4_fill_L16 f_X4_fill_J64
    rw [c5, if_neg (by rw [pz_le (by omega) (by omega)]; omega), pz_n1, pz_1, pz_sub (by omega), pz_sub (by omega), fac_9 (by omega), pz_bd, if_neg (lg_pos (by omega) f3), pz_gd (lI_ne0 (by omega) f3), pz_lt1, pz_gd (lI_ne0 (by omega) f3), pz_lt1, lI_mod (by omega) (by omega) f3, lI_div (by omega) (by omega) f3, lI_32, ← o3, nthc_ok hn c5 i4 o1 o2, pz_bd, pz_wr (by omega) (by omega), pz_rd (by omega) (by omega), wi_at, if_pos rfl, pz_lt1, pz_lt1, pz_shl (by omega), pz_clr, pz_add]
    refine wp_s (Or.inl ⟨_, rfl, rfl, rfl, rfl, a4.snoc rfl, a5.w ⟨by omega, by omega⟩⟩)
  · rintro ⟨x4, x5, x7, M1⟩ ⟨a1, a2, a3, a4, a5⟩
    have a3 : x7 = nI n := a3
    subst a3
    have a5 : Fr (SB k1 k1) M M1 := a5
    have c5 : M1.1 k0 5 = nI n := by rw [a5.1 k0 (fun h => by unfold SB at h; omega)]; exact h5
    show Wp (f_X4_fill_L16 k0 k1 x4 x5 (nI n) M1) _
    unfold f_X4_fill_L16
    rw [c5, if_pos ((nI_leI (by omega) (by omega)).mpr (Nat.le_refl _))]
    exact wp_s ⟨_, rfl, a4, a5⟩
theorem oo_ok {M : Mm} {k2 n r : Nat} (hn : n ≤ 12) (hk : k2 ≠ 69) (h1 : M.1 69 1 = nI n) (hr : r < fac n) : Wp (f_X10_orderOf (lI r) k2 M) (fun M' => IA M' k2 n (ordN n r) ∧ Fr (SB k2 k2) M M') := by
  unfold f_X10_orderOf f_X10_orderOf_A16
  have hfn := fac_le n (by omega)
  rw [h1, mask_of (M := M) hn, pz_lt1, pz_0]
  refine wp_b (P := fun M' => IA M' k2 n (ordN n r) ∧ Fr (SB k2 k2) M M') ?_ (fun M' h => wp_s h)
  refine wp_l (fun i (v : Int64 × Int32 × Int32 × Mm) => v.2.1 = nI (oms n r i).1 ∧ v.1 = lI (oms n r i).2 ∧ v.2.2.1 = nI i ∧ IA v.2.2.2 k2 i (ordN n r) ∧ Fr (SB k2 k2) M v.2.2.2) n (fu_lt (by omega)) ?_ ?_ ⟨rfl, rfl, rfl, IA.nil, Fr.rf⟩
  · rintro i ⟨x4, x6, x7, M1⟩ hi ⟨a1, a2, a3, a4, a5⟩
    have a1 : x6 = nI (oms n r i).1 := a1
    have a2 : x4 = lI (oms n r i).2 := a2
    have a3 : x7 = nI i := a3
    subst a1 a2 a3
    have a4 : IA M1 k2 i (ordN n r) := a4
    have a5 : Fr (SB k2 k2) M M1 := a5
    show Wp (f_X10_orderOf_L16 k2 (lI (oms n r i).2) (nI (oms n r i).1) (nI i) M1) _
    obtain ⟨o1, o2, o3⟩ := ord_ok hr hi
    obtain ⟨i1, i2, i3⟩ := oms_inv hr i (by omega)
    have i4 := p12 i2 hn
    have f1 := fac_le (n - i) (by omega)
    have f2 := fac_le (n - 1 - i) (by omega)
    have f3 := fac_pos (n - 1 - i)
    have c1 : M1.1 69 1 = nI n := by rw [a5.1 69 (fun h => by unfold SB at h; omega)]; exact h1
    unfold f_X10_orderOf_L16 f_X10_orderOf_A57
    rw [c1, if_neg (by rw [pz_le (by omega) (by omega)]; omega), pz_n1, pz_1, pz_sub (by omega), pz_sub (by omega), fac_r _ (by omega), pz_bd, pz_gd (lI_ne0 (by omega) f3), pz_lt1, pz_gd (lI_ne0 (by omega) f3), pz_lt1, lI_mod (by omega) (by omega) f3, lI_div (by omega) (by omega) f3, lI_32, pz_0, nthr_ok i4 (by omega) o2 o3.symm, pz_bd, pz_wr (by omega) (by omega), pz_lt1, pz_lt1, pz_shl (by omega), pz_clr, pz_add]
    refine wp_s (Or.inl ⟨_, rfl, rfl, rfl, rfl, a4.snoc rfl, a5.w ⟨by omega, by omega⟩⟩)
  · rintro ⟨x4, x6, x7, M1⟩ ⟨a1, a2, a3, a4, a5⟩
    have a3 : x7 = nI n := a3
    subst a3
    have a5 : Fr (SB k2 k2) M M1 := a5
    have c1 : M1.1 69 1 = nI n := by rw [a5.1 69 (fun h => by unfold SB at h; omega)]; exact h1
    show Wp (f_X10_orderOf_L16 k2 x4 x6 (nI n) M1) _
    unfold f_X10_orderOf_L16
    rw [c1, if_pos ((nI_leI (by omega) (by omega)).mpr (Nat.le_refl _))]
    exact wp_s ⟨_, rfl, a4, a5⟩
theorem both_of {F : Abs → Nat → Mm → Prop} (hF : FOK F) {n : Nat} {M : Mm} {A : Abs} (hA : AOK A) (hC : CI F M A) (hR : RI M A) (a : Int64) : Nx F n (bd2 (f_X9_of a M) fun r M1 => bd2 (f_X10_of a M1) fun r2 M2 => if r = r2 then f_law_J1690 (nI n) M2 else none) := by
  have hn := hA.n
  have f1 := fac_le A.n (by omega)
  have f3 := fac_pos A.n
  have ff : fac A.n * fac A.n ≤ 479001600 * 479001600 := Nat.mul_le_mul f1 f1
  have hc : f_X9_of a M = if A.n = 0 then some (nI 0, M) else if a < 0 then some (nI 0, M) else if a < lI (fac A.n * fac A.n) then (f_X4_readNumber 11 a (nI A.n) M).bind fun M_7 => (f_X9_layOut 11 (nI 1) (nI 0) M_7).bind fun M_9 => some (nI 1, M_9) else some (nI 0, M) := by
    unfold f_X9_of
    rw [hC.n, fac_9 (by omega), pz_bd, lI_mul]
    simp only [lg_neg]
    rw [pz_0, pz_1]
    simp (disch := omega) only [pz_eq]
  have no : (A.n = 0 ∨ a < 0 ∨ ¬ a < lI (fac A.n * fac A.n)) → Nx F n (bd2 (f_X9_of a M) fun r M1 => bd2 (f_X10_of a M1) fun r2 M2 => if r = r2 then f_law_J1690 (nI n) M2 else none) := by
    intro h
    refine arm_n hF (v := nI 0) hA hR (wp_e (a := (nI 0, M)) ?_ ⟨rfl, hC, Fr.rf⟩) (fun M1 h1 => wp_e (a := (nI 0, wi M1 69 0 (nI 0))) ?_ ⟨rfl, h1.code _, fr69⟩)
    · rw [hc]
      rcases h with h | h | h
      · rw [if_pos h]
      · rw [if_pos h]; split <;> rfl
      · rw [if_neg h]; split <;> first | rfl | (split <;> rfl)
    · unfold f_X10_of
      have e1 : (wi M1 69 0 (nI 0)).1 69 1 = nI A.n := h1.n
      rw [pz_0, pz_lt1, e1, fac_r _ (by omega), pz_bd, pz_bd, lI_mul]
      rw [← pz_0]
      simp only [lg_neg]
      rw [pz_0]
      simp (disch := omega) only [pz_eq]
      rcases h with h | h | h
      · rw [if_pos h]
      · rw [if_pos h]; split <;> rfl
      · rw [if_neg h]; split <;> first | rfl | (split <;> rfl)
  by_cases h0 : A.n = 0
  · exact no (Or.inl h0)
  · by_cases h1 : a < 0
    · exact no (Or.inr (Or.inl h1))
    · by_cases h2 : a < lI (fac A.n * fac A.n)
      · obtain ⟨r, hr, rfl⟩ : ∃ r, r < fac A.n * fac A.n ∧ a = lI r := by
          rw [Int64.lt_iff_toInt_lt] at h1 h2
          rw [lI_toInt (by omega)] at h2
          have e0 : (0 : Int64).toInt = 0 := rfl
          refine ⟨a.toInt.toNat, by omega, Int64.toInt_inj.mp ?_⟩
          rw [lI_toInt (by omega)]
          omega
        have q1 : r / fac A.n < fac A.n := (Nat.div_lt_iff_lt_mul f3).mpr hr
        have q2 : r % fac A.n < fac A.n := Nat.mod_lt _ f3
        have p1 := ord_perm q1
        have p2 := ord_perm q2
        refine arm_n hF (v := nI 1) (A' := prS A 0 (ordN A.n (r / fac A.n)) (ordN A.n (r % fac A.n))) (hA.prs (by omega) (Nat.zero_and _) p1 p2) hR ?_ (fun M1 h => ?_)
        · rw [hc, if_neg h0, if_neg h1, if_pos h2]
          unfold f_X4_readNumber f_X4_readNumber_J45
          rw [pz_lt1]
          have c5 : (wi M 11 5 (nI A.n)).1 11 5 = nI A.n := rfl
          rw [c5, fac_9 (by omega), pz_bd, if_neg (lg_pos (by omega) f3), pz_gd (lI_ne0 (by omega) f3), lI_mod (by omega) (by omega) f3, lI_div (by omega) (by omega) f3]
          refine wp_b (P := fun M2 => Fr (SB 5 33) M M2 ∧ M2.1 11 5 = nI A.n ∧ IA M2 12 A.n (ordN A.n (r / fac A.n)) ∧ IA M2 13 A.n (ordN A.n (r % fac A.n)) ∧ IA M2 14 A.n (fun b => ps (ordN A.n (r / fac A.n)) b A.n)) ?_ ?_
          · refine wp_b (fill_ok (k0 := 11) (k1 := 11 + 1) hn (by omega) c5 q1) ?_
            rintro M2 ⟨a1, a2⟩
            have z2 : ∀ k, k ≠ 12 → M2.1 k = (wi M 11 5 (nI A.n)).1 k := fun k hk => a2.1 k (fun h => by unfold SB at h; omega)
            have d5 : M2.1 11 5 = nI A.n := by rw [z2 11 (by omega)]; exact c5
            rw [pz_gd (lI_ne0 (by omega) f3)]
            refine wp_b (fill_ok (k0 := 11) (k1 := 11 + 2) hn (by omega) d5 q2) ?_
            rintro M3 ⟨b1, b2⟩
            have z3 : ∀ k, k ≠ 13 → M3.1 k = M2.1 k := fun k hk => b2.1 k (fun h => by unfold SB at h; omega)
            have e5 : M3.1 11 5 = nI A.n := by rw [z3 11 (by omega)]; exact d5
            have e1 : IA M3 12 A.n (ordN A.n (r / fac A.n)) := IA.eq a1 (z3 12 (by omega))
            refine wp_b (np_ok (k0 := 11) hn e5 e1 p1) ?_
            rintro M4 ⟨g1, g2⟩
            have z4 : ∀ k, k ≠ 14 → M4.1 k = M3.1 k := fun k hk => g2.1 k (fun h => by unfold SB at h; omega)
            refine wp_s ⟨(((Fr.rf.w ⟨by omega, by omega⟩).tr (a2.mono (fun k h => ⟨Nat.le_trans (by omega) h.1, Nat.le_trans h.2 (by omega)⟩))).tr (b2.mono (fun k h => ⟨Nat.le_trans (by omega) h.1, Nat.le_trans h.2 (by omega)⟩))).tr (g2.mono (fun k h => ⟨Nat.le_trans (by omega) h.1, Nat.le_trans h.2 (by omega)⟩)), by rw [z4 11 (by omega)]; exact e5, e1.eq (z4 12 (by omega)), IA.eq b1 (z4 13 (by omega)), g1⟩
          · rintro M2 ⟨a1, a2, a3, a4, a5⟩
            have h := c_layp hF hA hC a1 p1 p2 a2 a3 a4 a5 (nI 0)
            rw [msk_0] at h
            exact wp_b h (fun M3 h3 => wp_s ⟨rfl, h3.1, h3.2⟩)
        · unfold f_X10_of
          have e1 : (wi M1 69 0 (nI 0)).1 69 1 = nI A.n := h.n
          have n0 : ¬ nI A.n = (0 : Int32) := by rw [pz_0, pz_eq (by omega) (by omega)]; exact h0
          rw [pz_lt1, pz_0, e1, ← pz_0, if_neg n0, if_neg (fun q => h1 ((lg_neg _ _).mp q)), fac_r _ (by omega), pz_bd, pz_bd, lI_mul, if_pos ((lg_neg _ _).mpr h2), pz_bd, pz_gd (lI_ne0 (by omega) f3), lI_div (by omega) (by omega) f3, pz_0]
          refine wp_b (oo_ok (k2 := 76) hn (by omega) e1 q1) ?_
          rintro M2 ⟨a1, a2⟩
          have z2 : ∀ k, k ≠ 76 → M2.1 k = (wi M1 69 0 (nI 0)).1 k := fun k hk => a2.1 k (fun h => by unfold SB at h; omega)
          have e2 : M2.1 69 1 = nI A.n := by rw [z2 69 (by omega)]; exact e1
          rw [e2, fac_r _ (by omega), pz_bd, pz_gd (lI_ne0 (by omega) f3), lI_mod (by omega) (by omega) f3]
          refine wp_b (oo_ok (k2 := 77) hn (by omega) e2 q2) ?_
          rintro M3 ⟨b1, b2⟩
          have z3 : ∀ k, k ≠ 77 → M3.1 k = M2.1 k := fun k hk => b2.1 k (fun h => by unfold SB at h; omega)
          rw [pz_lt1]
          refine wp_b (r_layp hA h (M := wi M3 69 7 (nI 0)) (td := 0) (((((Fr.rf.w (Or.inl rfl)).tr (a2.mono (fun k h => Or.inr (by unfold SB at h; omega)))).tr (b2.mono (fun k h => Or.inr (by unfold SB at h; omega)))).w (Or.inl rfl))) p1 p2 ?_ ?_ rfl (Nat.zero_and _) ?_ ?_) (fun M4 h4 => wp_s ⟨pz_1, h4.1, h4.2.1⟩)
          · show M3.1 69 1 = _
            rw [z3 69 (by omega)]; exact e2
          · show M3.1 69 41 = _
            rw [z3 69 (by omega), z2 69 (by omega)]; exact h.s
          · exact IA.eq a1 (z3 76 (by omega))
          · exact IA.eq b1 rfl
      · exact no (Or.inr (Or.inr h2))
theorem arm_24 {F : Abs → Nat → Mm → Prop} (hF : FOK F) {xs : Nat → Int32} {L n : Nat} {M : Mm} (hL : L ≤ 3584) (hn : n + 7 ≤ L) (hI : Inv F M) : Nx F n (f_arm_24 xs L (nI n) M) := by
  obtain ⟨A, hA, hC, hR⟩ := hI
  unfold f_arm_24
  simp (disch := omega) only [pz_rdX, pz_1, pz_2, pz_add]
  exact both_of hF hA hC hR _
