/-! sixteen numbers in a long; told -/
def bl (x : Int64) (i : Nat) : Bool := x.toBitVec.getLsbD i
theorem l_ext {x y : Int64} (h : ∀ i, i < 64 → bl x i = bl y i) : x = y := Int64.toBitVec_inj.mp (BitVec.eq_of_getLsbD_eq (fun i hi => h i hi))
theorem l_or (x y : Int64) (i : Nat) : bl (x ||| y) i = (bl x i || bl y i) := by unfold bl; rw [Int64.toBitVec_or, BitVec.getLsbD_or]
theorem l_and (x y : Int64) (i : Nat) : bl (x &&& y) i = (bl x i && bl y i) := by unfold bl; rw [Int64.toBitVec_and, BitVec.getLsbD_and]
theorem l_xor (x y : Int64) (i : Nat) : bl (x ^^^ y) i = (bl x i ^^ bl y i) := by unfold bl; rw [Int64.toBitVec_xor, BitVec.getLsbD_xor]
theorem l_m1 : ∀ i, i < 64 → bl (-1) i = true := by decide +kernel
theorem l_z : ∀ i, i < 64 → bl 0 i = false := by decide +kernel
theorem l_15 : ∀ i, i < 64 → bl 15 i = decide (i < 4) := by decide +kernel
theorem sh64 : ∀ n, n < 64 → (((nI n).toInt64 &&& 63).toBitVec.smod 64).toNat = n := by decide +kernel
theorem l_shl {n : Nat} (hn : n < 64) (x : Int64) {i : Nat} (hi : i < 64) : bl (x <<< ((nI n).toInt64 &&& 63)) i = (decide (n ≤ i) && bl x (i - n)) := by
  unfold bl
  rw [Int64.toBitVec_shiftLeft]
  show (x.toBitVec <<< (((nI n).toInt64 &&& 63).toBitVec.smod 64).toNat).getLsbD i = _
  rw [sh64 n hn, BitVec.getLsbD_shiftLeft]
  rcases Nat.lt_or_ge i n with h | h
  · simp [h, Nat.not_le.mpr h]
  · simp [hi, h, Nat.not_lt.mpr h]
theorem l_shr {n : Nat} (hn : n < 64) (x : Int64) {i : Nat} (hi : n + i < 64) : bl (x >>> ((nI n).toInt64 &&& 63)) i = bl x (n + i) := by
  unfold bl
  rw [Int64.toBitVec_shiftRight]
  show (x.toBitVec.sshiftRight (((nI n).toInt64 &&& 63).toBitVec.smod 64).toNat).getLsbD i = _
  rw [sh64 n hn, BitVec.getLsbD_sshiftRight]
  simp [hi]
  omega
theorem l_nI : ∀ d, d < 16 → ∀ i, i < 64 → bl (nI d).toInt64 i = d.testBit i := by decide +kernel
/-- the long with these sixteen numbers -/
def P64 (v : Int64) (d : Nat → Nat) : Prop := ∀ j, j < 64 → bl v j = (d (j / 4)).testBit (j % 4)
theorem P64.un {v u : Int64} {d e : Nat → Nat} (h1 : P64 v d) (h2 : P64 u e) (h : ∀ i, i < 16 → d i = e i) : v = u := l_ext fun i hi => by rw [h1 i hi, h2 i hi, h (i / 4) (by omega)]
theorem tb16 {d i : Nat} (h : d < 16) (hi : 4 ≤ i) : d.testBit i = false := tb_lt (n := 4) h hi
theorem pack_ok {M : Mm} {n0 k0 a e : Nat} {d : Nat → Nat} (hn : n0 ≤ 23) (ha : a ≤ 16) (he : e ≤ n0) (hd : ∀ i, i < e → M.1 k0 i = nI (d i) ∧ d i < 16) : Wp (f_X9_pack n0 k0 (nI a) (nI e) M) (fun v => P64 v (fun i => if a + i < e then d (a + i) else 15)) := by
  unfold f_X9_pack f_X9_pack_A7
  refine wp_b (P := fun v => P64 v (fun i => if a + i < e then d (a + i) else 15)) ?_ (fun v h => wp_s h)
  have t15 : ∀ r, r < 4 → Nat.testBit 15 r = true := by decide +kernel
  refine wp_l (fun i (v : Int64 × Int32) => v.2 = nI i ∧ i ≤ 16 ∧ (i = 0 ∨ a + i ≤ e) ∧ ∀ j, j < 64 → bl v.1 j = if j / 4 < i then (d (a + j / 4)).testBit (j % 4) else true) (if 16 ≤ e - a then 16 else e - a) (fu_lt (by split <;> omega)) ?_ ?_ ⟨pz_0, by omega, Or.inl rfl, fun j hj => by rw [if_neg (by omega)]; exact l_m1 j hj⟩
  · rintro i ⟨v, c⟩ hi ⟨h1, h2, h3, h4⟩
    have h1 : c = nI i := h1
    subst h1
    have h4 : ∀ j, j < 64 → bl v j = if j / 4 < i then (d (a + j / 4)).testBit (j % 4) else true := h4
    have hi2 : i < 16 ∧ a + i < e := by split at hi <;> omega
    have c1 : ¬ 16 ≤ i := by omega
    have c2 : ¬ e ≤ a + i := by omega
    show Wp (f_X9_pack_L7 k0 n0 (nI a) (nI e) M v (nI i)) _
    unfold f_X9_pack_L7
    obtain ⟨d1, d2⟩ := hd (a + i) hi2.2
    simp (disch := first | assumption | omega) only [↓pz_n1, pz_mm, pz_mm', ↓pz_lt1, ↓pz_bd, ↓pz_bd2, ↓pz_tn, ↓pz_ts, pz_0, pz_1, pz_2, pz_3, pz_4, pz_12, pz_13, pz_15, pz_16, pz_20, pz_23, pz_24, pz_200, ↓pz_rd, ↓pz_wr, pz_add, pz_mul, pz_sub, pz_le, pz_lt, pz_eq, pz_max, pz_min, pz_cl, pz_and, pz_or, pz_shl, pz_clr, pz_bit, pz_ff, pz_tt, pz_5, pz_6, pz_7, pz_10000, pz_sb, pz_b0, pz_b1, c1, c2, d1]
    refine wp_s (Or.inl ⟨_, rfl, rfl, by omega, Or.inr (by omega), fun j hj => ?_⟩)
    show bl ((v &&& ((15 <<< ((nI (4 * i)).toInt64 &&& 63)) ^^^ -1)) ||| ((nI (d (a + i))).toInt64 <<< ((nI (4 * i)).toInt64 &&& 63))) j = _
    rw [l_or, l_and, l_xor, l_shl (by omega) _ hj, l_shl (by omega) _ hj, l_m1 j hj, h4 j hj]
    by_cases q1 : j / 4 < i
    · have q2 : ¬ 4 * i ≤ j := by omega
      simp [q1, q2, show j / 4 < i + 1 by omega]
    · have q2 : 4 * i ≤ j := by omega
      rw [l_15 _ (by omega), l_nI _ d2 _ (by omega)]
      by_cases q3 : j / 4 < i + 1
      · have q4 : j / 4 = i := by omega
        have q5 : j - 4 * i = j % 4 := by omega
        simp [q1, q2, q3, q4, q5, show j % 4 < 4 by omega]
      · rw [tb16 d2 (by omega : 4 ≤ j - 4 * i)]
        simp [q1, q2, q3]
        omega
  · rintro ⟨v, c⟩ ⟨h1, h2, h3, h4⟩
    have h1 : c = nI (if 16 ≤ e - a then 16 else e - a) := h1
    subst h1
    have h4 : ∀ j, j < 64 → bl v j = if j / 4 < (if 16 ≤ e - a then 16 else e - a) then (d (a + j / 4)).testBit (j % 4) else true := h4
    show Wp (f_X9_pack_L7 k0 n0 (nI a) (nI e) M v (nI (if 16 ≤ e - a then 16 else e - a))) _
    unfold f_X9_pack_L7
    have fin : P64 v (fun i => if a + i < e then d (a + i) else 15) := by
      intro j hj
      rw [h4 j hj]
      show _ = (if a + j / 4 < e then d (a + j / 4) else 15).testBit (j % 4)
      by_cases q : a + j / 4 < e
      · rw [if_pos q, if_pos (by split <;> omega)]
      · rw [if_neg q, if_neg (by split <;> omega), t15 _ (by omega)]
    by_cases q : 16 ≤ e - a
    · rw [if_pos q]
      simp (disch := first | assumption | omega) only [↓pz_n1, pz_mm, pz_mm', ↓pz_lt1, ↓pz_bd, ↓pz_bd2, ↓pz_tn, ↓pz_ts, pz_0, pz_1, pz_2, pz_3, pz_4, pz_12, pz_13, pz_15, pz_16, pz_20, pz_23, pz_24, pz_200, ↓pz_rd, ↓pz_wr, pz_add, pz_mul, pz_sub, pz_le, pz_lt, pz_eq, pz_max, pz_min, pz_cl, pz_and, pz_or, pz_shl, pz_clr, pz_bit, pz_ff, pz_tt, pz_5, pz_6, pz_7, pz_10000, pz_sb, pz_b0, pz_b1]
      rw [if_pos (Nat.le_refl _)]
      exact wp_s ⟨_, rfl, fin⟩
    · rw [if_neg q]
      simp (disch := first | assumption | omega) only [↓pz_n1, pz_mm, pz_mm', ↓pz_lt1, ↓pz_bd, ↓pz_bd2, ↓pz_tn, ↓pz_ts, pz_0, pz_1, pz_2, pz_3, pz_4, pz_12, pz_13, pz_15, pz_16, pz_20, pz_23, pz_24, pz_200, ↓pz_rd, ↓pz_wr, pz_add, pz_mul, pz_sub, pz_le, pz_lt, pz_eq, pz_max, pz_min, pz_cl, pz_and, pz_or, pz_shl, pz_clr, pz_bit, pz_ff, pz_tt, pz_5, pz_6, pz_7, pz_10000, pz_sb, pz_b0, pz_b1]
      rw [if_neg (by omega), if_pos (by omega)]
      exact wp_s ⟨_, rfl, fin⟩
/-- a counter that falls to -1 -/
def dn (N i : Nat) : Int32 := if i < N then nI (N - 1 - i) else m1
theorem dn_y {N i : Nat} (h : i < N) : dn N i = nI (N - 1 - i) := if_pos h
theorem dn_n (N : Nat) : dn N N = m1 := if_neg (by omega)
theorem pz_m0 : nI 0 + m1 = m1 := by decide
theorem pz_dec {k : Nat} (h : 1 ≤ k) : nI k + m1 = nI (k - 1) := by
  have e : nI k = nI (k - 1) + nI 1 := by rw [pz_add]; congr 1; omega
  have h2 : nI 1 + m1 = nI 0 := by decide
  rw [e, Int32.add_assoc, h2, pz_add]; rfl
theorem dn_s {N i : Nat} (h : i < N) : nI (N - 1 - i) + m1 = dn N (i + 1) := by
  by_cases q : i + 1 < N
  · rw [dn_y q, pz_dec (by omega)]
    exact congrArg nI (by omega)
  · have e : N - 1 - i = 0 := by omega
    have e2 : i + 1 = N := by omega
    rw [e, e2, dn_n, pz_m0]
theorem pz_ml : (m1 < nI 0) = True := eq_true (by decide)
theorem pz_nl {a : Nat} (h : a < 2147483648) : (nI a < nI 0) = False := by rw [pz_lt h (by omega)]; simp
theorem packed_ok {M : Mm} {n1 k1 a e : Nat} {d : Nat → Nat} (hn : n1 ≤ 23) (ha : a ≤ 16) (he : e ≤ n1) (hd : ∀ i, i < e → M.1 k1 i &&& nI 15 = nI (d i) ∧ d i < 16) : Wp (f_X10_packed n1 k1 (nI a) (nI e) (nI 16) M) (fun v => P64 v (fun i => if a + i < e then d (a + i) else 15)) := by
  unfold f_X10_packed f_X10_packed_A7
  refine wp_b (P := fun v => P64 v (fun i => if a + i < e then d (a + i) else 15)) ?_ (fun v h => wp_s h)
  refine wp_l (fun i (v : Int64 × Int32) => v.2 = dn 16 i ∧ ∀ j, j < 64 → bl v.1 j = (decide (j < 4 * i) && (if a + (16 - i + j / 4) < e then d (a + (16 - i + j / 4)) else 15).testBit (j % 4))) 16 (fu_lt (by omega)) ?_ ?_ ⟨by rw [dn_y (by omega)]; exact pz_15, fun j hj => by rw [l_z j hj]; simp⟩
  · rintro i ⟨v, c⟩ hi ⟨h1, h4⟩
    have h1 : c = dn 16 i := h1
    rw [dn_y hi] at h1
    subst h1
    show Wp (f_X10_packed_L7 k1 n1 (nI a) (nI e) (nI 16) M v (nI (16 - 1 - i))) _
    unfold f_X10_packed_L7 f_X10_packed_J43 f_X10_packed_J45
    have key : ∀ s, s < 16 → s = (if a + (15 - i) < e then d (a + (15 - i)) else 15) → Wp (some (Sum.inl ((v <<< ((nI 4).toInt64 &&& 63)) ||| (nI s).toInt64, nI (16 - 1 - i) + m1)) : Option ((Int64 × Int32) ⊕ Int64)) (fun r => (∃ w, r = .inl w ∧ w.2 = dn 16 (i + 1) ∧ ∀ j, j < 64 → bl w.1 j = (decide (j < 4 * (i + 1)) && (if a + (16 - (i + 1) + j / 4) < e then d (a + (16 - (i + 1) + j / 4)) else 15).testBit (j % 4))) ∨ ∃ x, r = .inr x ∧ P64 x (fun i => if a + i < e then d (a + i) else 15)) := by
      intro s hs es
      refine wp_s (Or.inl ⟨_, rfl, dn_s hi, fun j hj => ?_⟩)
      show bl ((v <<< ((nI 4).toInt64 &&& 63)) ||| (nI s).toInt64) j = _
      rw [l_or, l_shl (by omega) _ hj, l_nI _ hs _ hj]
      by_cases q : 4 ≤ j
      · have h5 : bl v (j - 4) = _ := h4 (j - 4) (by omega)
        rw [h5, tb16 hs q, Bool.or_false]
        have e1 : 16 - i + (j - 4) / 4 = 16 - (i + 1) + j / 4 := by omega
        have e2 : (j - 4) % 4 = j % 4 := by omega
        rw [e1, e2]
        have e3 : decide (j - 4 < 4 * i) = decide (j < 4 * (i + 1)) := decide_eq_decide.mpr (by omega)
        rw [e3]
        simp [q]
      · have e1 : 16 - (i + 1) + j / 4 = 15 - i := by omega
        have e2 : j % 4 = j := by omega
        rw [e1, ← es, e2]
        simp [q, show j < 4 * (i + 1) by omega]
    have x16 : ∀ x : Int32, x &&& (15 : Int32) = x &&& nI 15 := fun x => by rw [pz_15]
    simp (disch := first | assumption | omega) only [↓pz_n1, pz_mm, pz_mm', ↓pz_lt1, ↓pz_bd, ↓pz_bd2, ↓pz_tn, ↓pz_ts, pz_0, pz_1, pz_2, pz_3, pz_4, pz_12, pz_13, pz_15, pz_16, pz_20, pz_23, pz_24, pz_200, ↓pz_rd, ↓pz_wr, pz_add, pz_mul, pz_sub, pz_le, pz_lt, pz_eq, pz_max, pz_min, pz_cl, pz_and, pz_or, pz_shl, pz_clr, pz_bit, pz_ff, pz_tt, pz_5, pz_6, pz_7, pz_10000, pz_sb, pz_b0, pz_b1, pz_nl]
    by_cases q : a + (15 - i) < e
    · obtain ⟨d1, d2⟩ := hd (a + (15 - i)) q
      have q1 : ¬ e ≤ a + (16 - 1 - i) := by omega
      have q2 : ¬ 16 ≤ 16 - 1 - i := by omega
      have e3 : 16 - 1 - i = 15 - i := by omega
      rw [if_neg q1, if_neg q2, e3, d1]
      exact key _ d2 (by rw [if_pos q])
    · have q1 : e ≤ a + (16 - 1 - i) := by omega
      rw [if_pos q1]
      exact key 15 (by omega) (by rw [if_neg q])
  · rintro ⟨v, c⟩ ⟨h1, h4⟩
    have h1 : c = dn 16 16 := h1
    rw [dn_n] at h1
    subst h1
    show Wp (f_X10_packed_L7 k1 n1 (nI a) (nI e) (nI 16) M v m1) _
    unfold f_X10_packed_L7
    simp (disch := first | assumption | omega) only [↓pz_n1, pz_mm, pz_mm', ↓pz_lt1, ↓pz_bd, ↓pz_bd2, ↓pz_tn, ↓pz_ts, pz_0, pz_1, pz_2, pz_3, pz_4, pz_12, pz_13, pz_15, pz_16, pz_20, pz_23, pz_24, pz_200, ↓pz_rd, ↓pz_wr, pz_add, pz_mul, pz_sub, pz_le, pz_lt, pz_eq, pz_max, pz_min, pz_cl, pz_and, pz_or, pz_shl, pz_clr, pz_bit, pz_ff, pz_tt, pz_5, pz_6, pz_7, pz_10000, pz_sb, pz_b0, pz_b1, pz_ml]
    refine wp_s ⟨_, rfl, fun j hj => ?_⟩
    have h5 : bl v j = _ := h4 j hj
    rw [h5]
    have e1 : 16 - 16 + j / 4 = j / 4 := by omega
    rw [e1]
    simp
    omega
theorem nk_y {M : Mm} {k : Int32} (h : M.1 0 8 = k) : f_X9_needKind k M = some () := by unfold f_X9_needKind; rw [if_pos h]
theorem nk_n {M : Mm} {k : Int32} (h : M.1 0 8 ≠ k) : f_X9_needKind k M = none := by unfold f_X9_needKind; rw [if_neg h]
/-- class and reference pack the same -/
theorem both_pack {M M1 : Mm} {A : Abs} {n0 k0 n1 k1 a e : Nat} {d : Nat → Nat} (h : RI M1 A) (hn0 : n0 ≤ 23) (hn1 : n1 ≤ 23) (ha : a ≤ 16) (he0 : e ≤ n0) (he1 : e ≤ n1) (hd : ∀ i, i < e → M.1 k0 i = nI (d i) ∧ d i < 16) (hd1 : ∀ i, i < e → M1.1 k1 i &&& nI 15 = nI (d i)) (hk : k1 ≠ 69) :
    ∀ v, f_X9_pack n0 k0 (nI a) (nI e) M = some v → RQr M1 A (some v) ((f_X10_packed n1 k1 (nI a) (nI e) (nI 16) (wi M1 69 0 (nI 0))).bind fun r_6 => some (r_6, wi M1 69 0 (nI 0))) := by
  intro v ev
  obtain ⟨v', ev', hv'⟩ := pack_ok (M := M) hn0 ha he0 hd
  rw [ev] at ev'
  cases ev'
  obtain ⟨u, eu, hu⟩ := packed_ok (M := wi M1 69 0 (nI 0)) (n1 := n1) (k1 := k1) (d := d) hn1 ha he1 (fun i hi => ⟨by rw [wi_n _ _ _ hk]; exact hd1 i hi, (hd i hi).2⟩)
  rw [eu, pz_bd, hv'.un hu (fun i _ => rfl)]
  exact rq_val h _
theorem and15 : ∀ d, d < 16 → nI d &&& nI 15 = nI d := by decide +kernel
theorem and15' {v d : Nat} (h : d < 12 ∨ d = 15) (e : v = 0) : (if d = 15 then (-1 : Int32) else nI d) &&& nI 15 = nI d := by
  rcases h with h | h
  · rw [if_neg (by omega)]; exact and15 d (by omega)
  · rw [if_pos h, h]; decide
theorem post_lt {e : Ex} (h : Ex.ok e) : ∀ t ∈ Ex.post e, t < 14 := by
  induction e with
  | leaf b => intro t ht; have : t = b := by simpa [Ex.post] using ht
              subst this; have : t < 12 := h; omega
  | branch k a b iha ihb =>
    intro t ht
    obtain ⟨h1, h2, h3⟩ := h
    simp only [Ex.post, List.mem_append, List.mem_singleton] at ht
    rcases ht with (ht | ht) | ht
    · exact iha h2 t ht
    · exact ihb h3 t ht
    · omega
theorem RowOK.lt {n : Nat} {tk : Nat → Nat} (h : RowOK n tk) : ∀ i, i < 2 * n - 1 → tk i < 14 := by
  obtain ⟨e, h1, h2, _⟩ := h
  intro i hi
  refine post_lt h1 _ ?_
  rw [h2]
  unfold fnl
  exact List.mem_map.mpr ⟨i, List.mem_range.mpr hi, rfl⟩
def toldG (kd c : Int32) : Prop := (kd = nI 1 ∧ (c = nI 0 ∨ c = nI 1)) ∨ (kd = nI 2 ∧ (c = nI 2 ∨ c = nI 3)) ∨ (kd = nI 3 ∧ ¬ c < nI 4 ∧ ¬ nI 6 < c)
theorem rt_y {M : Mm} {c : Int32} (h : toldG (M.1 69 6) c) : f_X10_told c M = f_X10_told_J64 c (wi M 69 0 (nI 0)) (nI 1) := by
  unfold f_X10_told f_X10_told_J22 f_X10_told_J40 f_X10_told_J59
  have e : (wi M 69 0 (nI 0)).1 69 6 = M.1 69 6 := rfl
  rw [pz_0, pz_lt1, e]
  simp only [pz_1, pz_2, pz_3, pz_4, pz_6]
  unfold toldG at h
  generalize M.1 69 6 = kd at h
  rcases h with ⟨h1, h2⟩ | ⟨h1, h2⟩ | ⟨h1, h2, h3⟩
  · rw [if_pos h1]
    rcases h2 with h2 | h2
    · rw [if_pos h2]
    · rw [h2, if_neg (by decide), if_pos rfl]
  · rw [h1, if_neg (by decide), if_pos rfl]
    rcases h2 with h2 | h2
    · rw [if_pos h2]
    · rw [h2, if_neg (by decide), if_pos rfl]
  · rw [h1, if_neg (by decide), if_neg (by decide), if_pos rfl, if_neg h2, if_neg h3]
theorem rt_n {M : Mm} {A : Abs} {c : Int32} (hR : RI M A) (h : ¬ toldG A.kd c) : RQr M A none (f_X10_told c M) := by
  have e : f_X10_told c M = f_X10_told_J63 c (wi M 69 0 (nI 0)) () := by
    unfold f_X10_told f_X10_told_J22 f_X10_told_J40
    have e : (wi M 69 0 (nI 0)).1 69 6 = A.kd := hR.kd
    rw [pz_0, pz_lt1, e]
    simp only [pz_1, pz_2, pz_3, pz_4, pz_6]
    unfold toldG at h
    generalize A.kd = kd at h
    by_cases k1 : kd = nI 1
    · have c0 : ¬ c = nI 0 := fun q => h (Or.inl ⟨k1, Or.inl q⟩)
      have c1 : ¬ c = nI 1 := fun q => h (Or.inl ⟨k1, Or.inr q⟩)
      rw [if_pos k1, if_neg c0, if_neg c1, k1, if_neg (by decide), if_neg (by decide)]
    · rw [if_neg k1]
      by_cases k2 : kd = nI 2
      · have c0 : ¬ c = nI 2 := fun q => h (Or.inr (Or.inl ⟨k2, Or.inl q⟩))
        have c1 : ¬ c = nI 3 := fun q => h (Or.inr (Or.inl ⟨k2, Or.inr q⟩))
        rw [if_pos k2, if_neg c0, if_neg c1, k2, if_neg (by decide)]
      · rw [if_neg k2]
        by_cases k3 : kd = nI 3
        · rw [if_pos k3]
          by_cases c4 : c < nI 4
          · rw [if_pos c4]
          · rw [if_neg c4]
            by_cases c6 : nI 6 < c
            · rw [if_pos c6]
            · exact absurd (Or.inr (Or.inr ⟨k3, c4, c6⟩)) h
        · rw [if_neg k3]
  rw [e]
  unfold f_X10_told_J63 f_X10_told_J64 f_X10_fail
  simp (disch := first | assumption | omega) only [↓pz_n1, pz_mm, pz_mm', ↓pz_lt1, ↓pz_bd, ↓pz_bd2, ↓pz_tn, ↓pz_ts, pz_0, pz_1, pz_2, pz_3, pz_4, pz_12, pz_13, pz_15, pz_16, pz_20, pz_23, pz_24, pz_200, ↓pz_rd, ↓pz_wr, pz_add, pz_mul, pz_sub, pz_le, pz_lt, pz_eq, pz_max, pz_min, pz_cl, pz_and, pz_or, pz_shl, pz_clr, pz_bit, pz_ff, pz_tt, pz_5, pz_6, pz_7, pz_10000, pz_sb, pz_b0, pz_b1]
  exact rq_fail hR _
theorem arm_11 {F : Abs → Nat → Mm → Prop} (hF : FOK F) {xs : Nat → Int32} {L n : Nat} {M : Mm} (hL : L ≤ 3584) (hn : n + 7 ≤ L) (hI : Inv F M) : Nx F n (f_arm_11 xs L (nI n) M) := by
  obtain ⟨A, hA, hC, hR⟩ := hI
  have hn12 := hA.n
  unfold f_arm_11
  simp (disch := first | assumption | omega) only [↓pz_n1, pz_mm, pz_mm', ↓pz_lt1, ↓pz_bd, ↓pz_bd2, ↓pz_tn, ↓pz_ts, pz_0, pz_1, pz_2, pz_3, pz_4, pz_12, pz_13, pz_15, pz_16, pz_20, pz_23, pz_24, pz_200, ↓pz_rd, ↓pz_wr, pz_add, pz_mul, pz_sub, pz_le, pz_lt, pz_eq, pz_max, pz_min, pz_cl, pz_and, pz_or, pz_shl, pz_clr, pz_bit, pz_ff, pz_tt, pz_5, pz_6, pz_7, pz_10000, pz_sb, pz_b0, pz_b1, pz_rdX]
  generalize xs (n + 1) = c
  have key : ∃ o, f_X9_told c M = some o ∧ ∀ M1, RI M1 A → RQr M1 A o (f_X10_told c M1) := by
    have ek : ∀ M1, RI M1 A → (wi M1 69 0 (nI 0)).1 69 6 = A.kd := fun M1 h => h.kd
    have en : ∀ M1, RI M1 A → (wi M1 69 0 (nI 0)).1 69 1 = nI A.n := fun M1 h => h.n
    have er : ∀ M1, RI M1 A → 1 ≤ A.n → f_X10_rowSize (wi M1 69 0 (nI 0)) = nI (2 * A.n - 1) := fun M1 h h1 => by
      unfold f_X10_rowSize
      rw [en M1 h]
      simp (disch := first | assumption | omega) only [↓pz_n1, pz_mm, pz_mm', ↓pz_lt1, ↓pz_bd, ↓pz_bd2, ↓pz_tn, ↓pz_ts, pz_0, pz_1, pz_2, pz_3, pz_4, pz_12, pz_13, pz_15, pz_16, pz_20, pz_23, pz_24, pz_200, ↓pz_rd, ↓pz_wr, pz_add, pz_mul, pz_sub, pz_le, pz_lt, pz_eq, pz_max, pz_min, pz_cl, pz_and, pz_or, pz_shl, pz_clr, pz_bit, pz_ff, pz_tt, pz_5, pz_6, pz_7, pz_10000, pz_sb, pz_b0, pz_b1]
    have kx := hA.kd
    rw [pz_n1, pz_0, pz_1, pz_2, pz_3] at kx
    have x01 : ¬ nI 0 = nI 1 := by decide
    unfold f_X9_told
    rcases sw_of c (k := 6) (by omega) with ⟨j, hj, rfl⟩ | ⟨hc1, hc2⟩
    · rcases (by omega : j = 0 ∨ j = 1 ∨ j = 2 ∨ j = 3 ∨ j = 4 ∨ j = 5 ∨ j = 6) with rfl | rfl | rfl | rfl | rfl | rfl | rfl
      · by_cases hk : A.kd = nI 1
        · have q := hC.k1 hk
          obtain ⟨v, ev, _⟩ := pack_ok (M := M) (n0 := 12) (k0 := 12) (a := 0) (e := A.n) (d := A.one) (by omega) (by omega) hn12 (fun i hi => ⟨q.2.1 i hi, by have := (hA.k1 hk).1.1 i hi; omega⟩)
          have e1 : f_X9_needKind (nI 1) M = some () := nk_y (hC.kd.trans hk)
          simp (disch := first | assumption | omega) only [↓pz_n1, pz_mm, pz_mm', ↓pz_lt1, ↓pz_bd, ↓pz_bd2, ↓pz_tn, ↓pz_ts, pz_0, pz_1, pz_2, pz_3, pz_4, pz_12, pz_13, pz_15, pz_16, pz_20, pz_23, pz_24, pz_200, ↓pz_rd, ↓pz_wr, pz_add, pz_mul, pz_sub, pz_le, pz_lt, pz_eq, pz_max, pz_min, pz_cl, pz_and, pz_or, pz_shl, pz_clr, pz_bit, pz_ff, pz_tt, pz_5, pz_6, pz_7, pz_10000, pz_sb, pz_b0, pz_b1, e1, q.1, ev]
          refine ⟨_, rfl, fun M1 h => ?_⟩
          rw [rt_y (Or.inl ⟨h.kd.trans hk, Or.inl rfl⟩)]
          unfold f_X10_told_J64
          simp (disch := first | assumption | omega) only [↓pz_n1, pz_mm, pz_mm', ↓pz_lt1, ↓pz_bd, ↓pz_bd2, ↓pz_tn, ↓pz_ts, pz_0, pz_1, pz_2, pz_3, pz_4, pz_12, pz_13, pz_15, pz_16, pz_20, pz_23, pz_24, pz_200, ↓pz_rd, ↓pz_wr, pz_add, pz_mul, pz_sub, pz_le, pz_lt, pz_eq, pz_max, pz_min, pz_cl, pz_and, pz_or, pz_shl, pz_clr, pz_bit, pz_ff, pz_tt, pz_5, pz_6, pz_7, pz_10000, pz_sb, pz_b0, pz_b1, en M1 h]
          exact both_pack h (by omega) (by omega) (by omega) hn12 hn12 (fun i hi => ⟨q.2.1 i hi, by have := (hA.k1 hk).1.1 i hi; omega⟩) (fun i hi => by rw [(h.k1 hk).1 i hi]; exact and15 _ (by have := (hA.k1 hk).1.1 i hi; omega)) (by omega) v ev
        · have e1 : f_X9_needKind (nI 1) M = none := nk_n (by rw [hC.kd]; exact hk)
          simp (disch := first | assumption | omega) only [↓pz_n1, pz_mm, pz_mm', ↓pz_lt1, ↓pz_bd, ↓pz_bd2, ↓pz_tn, ↓pz_ts, pz_0, pz_1, pz_2, pz_3, pz_4, pz_12, pz_13, pz_15, pz_16, pz_20, pz_23, pz_24, pz_200, ↓pz_rd, ↓pz_wr, pz_add, pz_mul, pz_sub, pz_le, pz_lt, pz_eq, pz_max, pz_min, pz_cl, pz_and, pz_or, pz_shl, pz_clr, pz_bit, pz_ff, pz_tt, pz_5, pz_6, pz_7, pz_10000, pz_sb, pz_b0, pz_b1, e1]
          refine ⟨_, rfl, fun M1 h => ?_⟩
          exact rt_n h (fun q => by unfold toldG at q; rcases q with ⟨q, q2 | q2⟩ | ⟨q, q2 | q2⟩ | ⟨q, q2, q3⟩ <;> first | exact hk q | exact absurd q2 (by decide) | exact absurd q3 (by decide))
      · by_cases hk : A.kd = nI 1
        · have q := hC.k1 hk
          obtain ⟨v, ev, _⟩ := pack_ok (M := M) (n0 := 12) (k0 := 13) (a := 0) (e := A.n) (d := A.two) (by omega) (by omega) hn12 (fun i hi => ⟨q.2.2.1 i hi, by have := (hA.k1 hk).2.1 i hi; omega⟩)
          have e1 : f_X9_needKind (nI 1) M = some () := nk_y (hC.kd.trans hk)
          simp (disch := first | assumption | omega) only [↓pz_n1, pz_mm, pz_mm', ↓pz_lt1, ↓pz_bd, ↓pz_bd2, ↓pz_tn, ↓pz_ts, pz_0, pz_1, pz_2, pz_3, pz_4, pz_12, pz_13, pz_15, pz_16, pz_20, pz_23, pz_24, pz_200, ↓pz_rd, ↓pz_wr, pz_add, pz_mul, pz_sub, pz_le, pz_lt, pz_eq, pz_max, pz_min, pz_cl, pz_and, pz_or, pz_shl, pz_clr, pz_bit, pz_ff, pz_tt, pz_5, pz_6, pz_7, pz_10000, pz_sb, pz_b0, pz_b1, e1, q.1, ev]
          refine ⟨_, rfl, fun M1 h => ?_⟩
          rw [rt_y (Or.inl ⟨h.kd.trans hk, Or.inr rfl⟩)]
          unfold f_X10_told_J64
          simp (disch := first | assumption | omega) only [↓pz_n1, pz_mm, pz_mm', ↓pz_lt1, ↓pz_bd, ↓pz_bd2, ↓pz_tn, ↓pz_ts, pz_0, pz_1, pz_2, pz_3, pz_4, pz_12, pz_13, pz_15, pz_16, pz_20, pz_23, pz_24, pz_200, ↓pz_rd, ↓pz_wr, pz_add, pz_mul, pz_sub, pz_le, pz_lt, pz_eq, pz_max, pz_min, pz_cl, pz_and, pz_or, pz_shl, pz_clr, pz_bit, pz_ff, pz_tt, pz_5, pz_6, pz_7, pz_10000, pz_sb, pz_b0, pz_b1, en M1 h]
          exact both_pack h (by omega) (by omega) (by omega) hn12 hn12 (fun i hi => ⟨q.2.2.1 i hi, by have := (hA.k1 hk).2.1 i hi; omega⟩) (fun i hi => by rw [(h.k1 hk).2 i hi]; exact and15 _ (by have := (hA.k1 hk).2.1 i hi; omega)) (by omega) v ev
        · have e1 : f_X9_needKind (nI 1) M = none := nk_n (by rw [hC.kd]; exact hk)
          simp (disch := first | assumption | omega) only [↓pz_n1, pz_mm, pz_mm', ↓pz_lt1, ↓pz_bd, ↓pz_bd2, ↓pz_tn, ↓pz_ts, pz_0, pz_1, pz_2, pz_3, pz_4, pz_12, pz_13, pz_15, pz_16, pz_20, pz_23, pz_24, pz_200, ↓pz_rd, ↓pz_wr, pz_add, pz_mul, pz_sub, pz_le, pz_lt, pz_eq, pz_max, pz_min, pz_cl, pz_and, pz_or, pz_shl, pz_clr, pz_bit, pz_ff, pz_tt, pz_5, pz_6, pz_7, pz_10000, pz_sb, pz_b0, pz_b1, e1]
          refine ⟨_, rfl, fun M1 h => ?_⟩
          exact rt_n h (fun q => by unfold toldG at q; rcases q with ⟨q, q2 | q2⟩ | ⟨q, q2 | q2⟩ | ⟨q, q2, q3⟩ <;> first | exact hk q | exact absurd q2 (by decide) | exact absurd q3 (by decide))
      · by_cases hk : A.kd = nI 2
        · have q := hC.k2 hk
          have l := (hA.k2 hk).lt
          have h1 := (hA.ly (by rw [hk]; decide)).1
          obtain ⟨v, ev, _⟩ := pack_ok (M := M) (n0 := 23) (k0 := 18) (a := 0) (e := 2 * A.n - 1) (d := A.tk) (by omega) (by omega) (by omega) (fun i hi => ⟨q.2 i hi, by have := l i hi; omega⟩)
          have e1 : f_X9_needKind (nI 2) M = some () := nk_y (hC.kd.trans hk)
          simp (disch := first | assumption | omega) only [↓pz_n1, pz_mm, pz_mm', ↓pz_lt1, ↓pz_bd, ↓pz_bd2, ↓pz_tn, ↓pz_ts, pz_0, pz_1, pz_2, pz_3, pz_4, pz_12, pz_13, pz_15, pz_16, pz_20, pz_23, pz_24, pz_200, ↓pz_rd, ↓pz_wr, pz_add, pz_mul, pz_sub, pz_le, pz_lt, pz_eq, pz_max, pz_min, pz_cl, pz_and, pz_or, pz_shl, pz_clr, pz_bit, pz_ff, pz_tt, pz_5, pz_6, pz_7, pz_10000, pz_sb, pz_b0, pz_b1, e1, q.1, ev]
          refine ⟨_, rfl, fun M1 h => ?_⟩
          rw [rt_y (Or.inr (Or.inl ⟨h.kd.trans hk, Or.inl rfl⟩))]
          unfold f_X10_told_J64
          simp (disch := first | assumption | omega) only [↓pz_n1, pz_mm, pz_mm', ↓pz_lt1, ↓pz_bd, ↓pz_bd2, ↓pz_tn, ↓pz_ts, pz_0, pz_1, pz_2, pz_3, pz_4, pz_12, pz_13, pz_15, pz_16, pz_20, pz_23, pz_24, pz_200, ↓pz_rd, ↓pz_wr, pz_add, pz_mul, pz_sub, pz_le, pz_lt, pz_eq, pz_max, pz_min, pz_cl, pz_and, pz_or, pz_shl, pz_clr, pz_bit, pz_ff, pz_tt, pz_5, pz_6, pz_7, pz_10000, pz_sb, pz_b0, pz_b1, er M1 h h1]
          exact both_pack h (by omega) (by omega) (by omega) (by omega) (by omega) (fun i hi => ⟨q.2 i hi, by have := l i hi; omega⟩) (fun i hi => by rw [h.k2 hk i hi]; exact and15 _ (by have := l i hi; omega)) (by omega) v ev
        · have e1 : f_X9_needKind (nI 2) M = none := nk_n (by rw [hC.kd]; exact hk)
          simp (disch := first | assumption | omega) only [↓pz_n1, pz_mm, pz_mm', ↓pz_lt1, ↓pz_bd, ↓pz_bd2, ↓pz_tn, ↓pz_ts, pz_0, pz_1, pz_2, pz_3, pz_4, pz_12, pz_13, pz_15, pz_16, pz_20, pz_23, pz_24, pz_200, ↓pz_rd, ↓pz_wr, pz_add, pz_mul, pz_sub, pz_le, pz_lt, pz_eq, pz_max, pz_min, pz_cl, pz_and, pz_or, pz_shl, pz_clr, pz_bit, pz_ff, pz_tt, pz_5, pz_6, pz_7, pz_10000, pz_sb, pz_b0, pz_b1, e1]
          refine ⟨_, rfl, fun M1 h => ?_⟩
          exact rt_n h (fun q => by unfold toldG at q; rcases q with ⟨q, q2 | q2⟩ | ⟨q, q2 | q2⟩ | ⟨q, q2, q3⟩ <;> first | exact hk q | exact absurd q2 (by decide) | exact absurd q3 (by decide))
      · by_cases hk : A.kd = nI 2
        · have q := hC.k2 hk
          have l := (hA.k2 hk).lt
          have h1 := (hA.ly (by rw [hk]; decide)).1
          obtain ⟨v, ev, _⟩ := pack_ok (M := M) (n0 := 23) (k0 := 18) (a := 16) (e := 2 * A.n - 1) (d := A.tk) (by omega) (by omega) (by omega) (fun i hi => ⟨q.2 i hi, by have := l i hi; omega⟩)
          have e1 : f_X9_needKind (nI 2) M = some () := nk_y (hC.kd.trans hk)
          simp (disch := first | assumption | omega) only [↓pz_n1, pz_mm, pz_mm', ↓pz_lt1, ↓pz_bd, ↓pz_bd2, ↓pz_tn, ↓pz_ts, pz_0, pz_1, pz_2, pz_3, pz_4, pz_12, pz_13, pz_15, pz_16, pz_20, pz_23, pz_24, pz_200, ↓pz_rd, ↓pz_wr, pz_add, pz_mul, pz_sub, pz_le, pz_lt, pz_eq, pz_max, pz_min, pz_cl, pz_and, pz_or, pz_shl, pz_clr, pz_bit, pz_ff, pz_tt, pz_5, pz_6, pz_7, pz_10000, pz_sb, pz_b0, pz_b1, e1, q.1, ev]
          refine ⟨_, rfl, fun M1 h => ?_⟩
          rw [rt_y (Or.inr (Or.inl ⟨h.kd.trans hk, Or.inr rfl⟩))]
          unfold f_X10_told_J64
          simp (disch := first | assumption | omega) only [↓pz_n1, pz_mm, pz_mm', ↓pz_lt1, ↓pz_bd, ↓pz_bd2, ↓pz_tn, ↓pz_ts, pz_0, pz_1, pz_2, pz_3, pz_4, pz_12, pz_13, pz_15, pz_16, pz_20, pz_23, pz_24, pz_200, ↓pz_rd, ↓pz_wr, pz_add, pz_mul, pz_sub, pz_le, pz_lt, pz_eq, pz_max, pz_min, pz_cl, pz_and, pz_or, pz_shl, pz_clr, pz_bit, pz_ff, pz_tt, pz_5, pz_6, pz_7, pz_10000, pz_sb, pz_b0, pz_b1, er M1 h h1]
          exact both_pack h (by omega) (by omega) (by omega) (by omega) (by omega) (fun i hi => ⟨q.2 i hi, by have := l i hi; omega⟩) (fun i hi => by rw [h.k2 hk i hi]; exact and15 _ (by have := l i hi; omega)) (by omega) v ev
        · have e1 : f_X9_needKind (nI 2) M = none := nk_n (by rw [hC.kd]; exact hk)
          simp (disch := first | assumption | omega) only [↓pz_n1, pz_mm, pz_mm', ↓pz_lt1, ↓pz_bd, ↓pz_bd2, ↓pz_tn, ↓pz_ts, pz_0, pz_1, pz_2, pz_3, pz_4, pz_12, pz_13, pz_15, pz_16, pz_20, pz_23, pz_24, pz_200, ↓pz_rd, ↓pz_wr, pz_add, pz_mul, pz_sub, pz_le, pz_lt, pz_eq, pz_max, pz_min, pz_cl, pz_and, pz_or, pz_shl, pz_clr, pz_bit, pz_ff, pz_tt, pz_5, pz_6, pz_7, pz_10000, pz_sb, pz_b0, pz_b1, e1]
          refine ⟨_, rfl, fun M1 h => ?_⟩
          exact rt_n h (fun q => by unfold toldG at q; rcases q with ⟨q, q2 | q2⟩ | ⟨q, q2 | q2⟩ | ⟨q, q2, q3⟩ <;> first | exact hk q | exact absurd q2 (by decide) | exact absurd q3 (by decide))
      · by_cases hk : A.kd = nI 3
        · have q := hC.k3 hk
          have l := (hA.k3 hk).2
          obtain ⟨v, ev, _⟩ := pack_ok (M := M) (n0 := 12) (k0 := 24) (a := 0) (e := A.n) (d := A.lf) (by omega) (by omega) hn12 (fun i hi => ⟨q.2.2.1 i hi, by have := (l i hi).1; omega⟩)
          have e1 : f_X9_needKind (nI 3) M = some () := nk_y (hC.kd.trans hk)
          simp (disch := first | assumption | omega) only [↓pz_n1, pz_mm, pz_mm', ↓pz_lt1, ↓pz_bd, ↓pz_bd2, ↓pz_tn, ↓pz_ts, pz_0, pz_1, pz_2, pz_3, pz_4, pz_12, pz_13, pz_15, pz_16, pz_20, pz_23, pz_24, pz_200, ↓pz_rd, ↓pz_wr, pz_add, pz_mul, pz_sub, pz_le, pz_lt, pz_eq, pz_max, pz_min, pz_cl, pz_and, pz_or, pz_shl, pz_clr, pz_bit, pz_ff, pz_tt, pz_5, pz_6, pz_7, pz_10000, pz_sb, pz_b0, pz_b1, e1, q.1, ev]
          refine ⟨_, rfl, fun M1 h => ?_⟩
          rw [rt_y (Or.inr (Or.inr ⟨h.kd.trans hk, by decide, by decide⟩))]
          unfold f_X10_told_J64
          simp (disch := first | assumption | omega) only [↓pz_n1, pz_mm, pz_mm', ↓pz_lt1, ↓pz_bd, ↓pz_bd2, ↓pz_tn, ↓pz_ts, pz_0, pz_1, pz_2, pz_3, pz_4, pz_12, pz_13, pz_15, pz_16, pz_20, pz_23, pz_24, pz_200, ↓pz_rd, ↓pz_wr, pz_add, pz_mul, pz_sub, pz_le, pz_lt, pz_eq, pz_max, pz_min, pz_cl, pz_and, pz_or, pz_shl, pz_clr, pz_bit, pz_ff, pz_tt, pz_5, pz_6, pz_7, pz_10000, pz_sb, pz_b0, pz_b1, en M1 h]
          exact both_pack h (by omega) (by omega) (by omega) hn12 hn12 (fun i hi => ⟨q.2.2.1 i hi, by have := (l i hi).1; omega⟩) (fun i hi => by rw [((h.k3 hk).2 i hi).1]; exact and15' (v := 0) (by have := (l i hi).1; omega) rfl) (by omega) v ev
        · have e1 : f_X9_needKind (nI 3) M = none := nk_n (by rw [hC.kd]; exact hk)
          simp (disch := first | assumption | omega) only [↓pz_n1, pz_mm, pz_mm', ↓pz_lt1, ↓pz_bd, ↓pz_bd2, ↓pz_tn, ↓pz_ts, pz_0, pz_1, pz_2, pz_3, pz_4, pz_12, pz_13, pz_15, pz_16, pz_20, pz_23, pz_24, pz_200, ↓pz_rd, ↓pz_wr, pz_add, pz_mul, pz_sub, pz_le, pz_lt, pz_eq, pz_max, pz_min, pz_cl, pz_and, pz_or, pz_shl, pz_clr, pz_bit, pz_ff, pz_tt, pz_5, pz_6, pz_7, pz_10000, pz_sb, pz_b0, pz_b1, e1]
          refine ⟨_, rfl, fun M1 h => ?_⟩
          exact rt_n h (fun q => by unfold toldG at q; rcases q with ⟨q, q2 | q2⟩ | ⟨q, q2 | q2⟩ | ⟨q, q2, q3⟩ <;> first | exact hk q | exact absurd q2 (by decide) | exact absurd q3 (by decide))
      · by_cases hk : A.kd = nI 3
        · have q := hC.k3 hk
          have l := (hA.k3 hk).2
          obtain ⟨v, ev, _⟩ := pack_ok (M := M) (n0 := 12) (k0 := 25) (a := 0) (e := A.n) (d := A.rt) (by omega) (by omega) hn12 (fun i hi => ⟨q.2.2.2 i hi, by have := (l i hi).2; omega⟩)
          have e1 : f_X9_needKind (nI 3) M = some () := nk_y (hC.kd.trans hk)
          simp (disch := first | assumption | omega) only [↓pz_n1, pz_mm, pz_mm', ↓pz_lt1, ↓pz_bd, ↓pz_bd2, ↓pz_tn, ↓pz_ts, pz_0, pz_1, pz_2, pz_3, pz_4, pz_12, pz_13, pz_15, pz_16, pz_20, pz_23, pz_24, pz_200, ↓pz_rd, ↓pz_wr, pz_add, pz_mul, pz_sub, pz_le, pz_lt, pz_eq, pz_max, pz_min, pz_cl, pz_and, pz_or, pz_shl, pz_clr, pz_bit, pz_ff, pz_tt, pz_5, pz_6, pz_7, pz_10000, pz_sb, pz_b0, pz_b1, e1, q.1, ev]
          refine ⟨_, rfl, fun M1 h => ?_⟩
          rw [rt_y (Or.inr (Or.inr ⟨h.kd.trans hk, by decide, by decide⟩))]
          unfold f_X10_told_J64
          simp (disch := first | assumption | omega) only [↓pz_n1, pz_mm, pz_mm', ↓pz_lt1, ↓pz_bd, ↓pz_bd2, ↓pz_tn, ↓pz_ts, pz_0, pz_1, pz_2, pz_3, pz_4, pz_12, pz_13, pz_15, pz_16, pz_20, pz_23, pz_24, pz_200, ↓pz_rd, ↓pz_wr, pz_add, pz_mul, pz_sub, pz_le, pz_lt, pz_eq, pz_max, pz_min, pz_cl, pz_and, pz_or, pz_shl, pz_clr, pz_bit, pz_ff, pz_tt, pz_5, pz_6, pz_7, pz_10000, pz_sb, pz_b0, pz_b1, en M1 h]
          exact both_pack h (by omega) (by omega) (by omega) hn12 hn12 (fun i hi => ⟨q.2.2.2 i hi, by have := (l i hi).2; omega⟩) (fun i hi => by rw [((h.k3 hk).2 i hi).2]; exact and15' (v := 0) (by have := (l i hi).2; omega) rfl) (by omega) v ev
        · have e1 : f_X9_needKind (nI 3) M = none := nk_n (by rw [hC.kd]; exact hk)
          simp (disch := first | assumption | omega) only [↓pz_n1, pz_mm, pz_mm', ↓pz_lt1, ↓pz_bd, ↓pz_bd2, ↓pz_tn, ↓pz_ts, pz_0, pz_1, pz_2, pz_3, pz_4, pz_12, pz_13, pz_15, pz_16, pz_20, pz_23, pz_24, pz_200, ↓pz_rd, ↓pz_wr, pz_add, pz_mul, pz_sub, pz_le, pz_lt, pz_eq, pz_max, pz_min, pz_cl, pz_and, pz_or, pz_shl, pz_clr, pz_bit, pz_ff, pz_tt, pz_5, pz_6, pz_7, pz_10000, pz_sb, pz_b0, pz_b1, e1]
          refine ⟨_, rfl, fun M1 h => ?_⟩
          exact rt_n h (fun q => by unfold toldG at q; rcases q with ⟨q, q2 | q2⟩ | ⟨q, q2 | q2⟩ | ⟨q, q2, q3⟩ <;> first | exact hk q | exact absurd q2 (by decide) | exact absurd q3 (by decide))
      · by_cases hk : A.kd = nI 3
        · have q := hC.k3 hk
          have e1 : f_X9_needKind (nI 3) M = some () := nk_y (hC.kd.trans hk)
          simp (disch := first | assumption | omega) only [↓pz_n1, pz_mm, pz_mm', ↓pz_lt1, ↓pz_bd, ↓pz_bd2, ↓pz_tn, ↓pz_ts, pz_0, pz_1, pz_2, pz_3, pz_4, pz_12, pz_13, pz_15, pz_16, pz_20, pz_23, pz_24, pz_200, ↓pz_rd, ↓pz_wr, pz_add, pz_mul, pz_sub, pz_le, pz_lt, pz_eq, pz_max, pz_min, pz_cl, pz_and, pz_or, pz_shl, pz_clr, pz_bit, pz_ff, pz_tt, pz_5, pz_6, pz_7, pz_10000, pz_sb, pz_b0, pz_b1, e1, q.2.1]
          refine ⟨_, rfl, fun M1 h => ?_⟩
          rw [rt_y (Or.inr (Or.inr ⟨h.kd.trans hk, by decide, by decide⟩))]
          unfold f_X10_told_J64
          have e3 : (wi M1 69 0 (nI 0)).1 69 8 = nI A.ro := (h.k3 hk).1
          simp (disch := first | assumption | omega) only [↓pz_n1, pz_mm, pz_mm', ↓pz_lt1, ↓pz_bd, ↓pz_bd2, ↓pz_tn, ↓pz_ts, pz_0, pz_1, pz_2, pz_3, pz_4, pz_12, pz_13, pz_15, pz_16, pz_20, pz_23, pz_24, pz_200, ↓pz_rd, ↓pz_wr, pz_add, pz_mul, pz_sub, pz_le, pz_lt, pz_eq, pz_max, pz_min, pz_cl, pz_and, pz_or, pz_shl, pz_clr, pz_bit, pz_ff, pz_tt, pz_5, pz_6, pz_7, pz_10000, pz_sb, pz_b0, pz_b1, e3]
          exact rq_val h _
        · have e1 : f_X9_needKind (nI 3) M = none := nk_n (by rw [hC.kd]; exact hk)
          simp (disch := first | assumption | omega) only [↓pz_n1, pz_mm, pz_mm', ↓pz_lt1, ↓pz_bd, ↓pz_bd2, ↓pz_tn, ↓pz_ts, pz_0, pz_1, pz_2, pz_3, pz_4, pz_12, pz_13, pz_15, pz_16, pz_20, pz_23, pz_24, pz_200, ↓pz_rd, ↓pz_wr, pz_add, pz_mul, pz_sub, pz_le, pz_lt, pz_eq, pz_max, pz_min, pz_cl, pz_and, pz_or, pz_shl, pz_clr, pz_bit, pz_ff, pz_tt, pz_5, pz_6, pz_7, pz_10000, pz_sb, pz_b0, pz_b1, e1]
          refine ⟨_, rfl, fun M1 h => ?_⟩
          exact rt_n h (fun q => by unfold toldG at q; rcases q with ⟨q, q2 | q2⟩ | ⟨q, q2 | q2⟩ | ⟨q, q2, q3⟩ <;> first | exact hk q | exact absurd q2 (by decide) | exact absurd q3 (by decide))
    · simp only [pz_0, pz_1, pz_2, pz_3, pz_4, pz_5, pz_6]
      rw [if_neg (hc2 0 (by omega)), if_neg (hc2 1 (by omega)), if_neg (hc2 2 (by omega)), if_neg (hc2 3 (by omega)), if_neg (hc2 4 (by omega)), if_neg (hc2 5 (by omega)), if_neg (hc2 6 (by omega))]
      refine ⟨_, rfl, fun M1 h => rt_n h (fun q => ?_)⟩
      unfold toldG at q
      rcases q with ⟨_, q | q⟩ | ⟨_, q | q⟩ | ⟨_, q2, q3⟩
      · exact hc2 0 (by omega) q
      · exact hc2 1 (by omega) q
      · exact hc2 2 (by omega) q
      · exact hc2 3 (by omega) q
      · rcases hc1 with h | ⟨_, h, _⟩
        · refine q2 ?_
          rw [Int32.lt_iff_toInt_lt] at h ⊢
          have e0 : (nI 0).toInt = 0 := rfl
          have e4 : (nI 4).toInt = 4 := rfl
          omega
        · exact q3 h
  obtain ⟨o, e1, e2⟩ := key
  exact arm_w hF (fun v => v) o hA hR (lq_p hF (fun v => v) hC e1) e2 (fun _ => rfl)
