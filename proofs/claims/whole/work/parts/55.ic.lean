/-! isCut: lines that part a group -/
def lowN (pl ln : Nat → Nat) (m line : Nat) : Nat → Nat
  | 0 => 0
  | i + 1 => if m.testBit i = true ∧ pl i + ln i ≤ line then lowN pl ln m line i ||| 2 ^ i else lowN pl ln m line i
def thrN (pl ln : Nat → Nat) (m line : Nat) : Nat → Bool
  | 0 => false
  | i + 1 => thrN pl ln m line i || (m.testBit i && decide (line < pl i + ln i) && decide (pl i < line))
def sp1 (pl ln : Nat → Nat) (m line n : Nat) : Nat := if thrN pl ln m line n = true then 0 else if lowN pl ln m line n = m then 0 else lowN pl ln m line n
def spb (x y W H : Nat → Nat) (n m b : Nat) : Nat := if m.testBit b = true then (if sp1 x W m (x b + W b) n = 0 then sp1 y H m (y b + H b) n else sp1 x W m (x b + W b) n) else 0
def fstv (f : Nat → Nat) : Nat → Nat
  | 0 => 0
  | n + 1 => if fstv f n = 0 then f n else fstv f n
theorem thrN_up {pl ln : Nat → Nat} {m line i : Nat} (h : thrN pl ln m line i = true) : ∀ {n}, i ≤ n → thrN pl ln m line n = true
  | 0, hn => by have : i = 0 := by omega
                rw [← this]; exact h
  | n + 1, hn => by
    by_cases e : i = n + 1
    · rw [← e]; exact h
    · show (thrN pl ln m line n || _) = true
      rw [thrN_up h (n := n) (by omega)]; rfl
theorem lowN_bit {pl ln : Nat → Nat} {m line : Nat} : ∀ {i} (a : Nat), (lowN pl ln m line i).testBit a = (decide (a < i) && m.testBit a && decide (pl a + ln a ≤ line))
  | 0, a => by show Nat.testBit 0 a = _; rw [Nat.zero_testBit]; simp
  | i + 1, a => by
    have ih := lowN_bit (pl := pl) (ln := ln) (m := m) (line := line) (i := i) a
    show (if m.testBit i = true ∧ pl i + ln i ≤ line then lowN pl ln m line i ||| 2 ^ i else lowN pl ln m line i).testBit a = _
    by_cases e : a = i
    · subst e
      split
      · rename_i q
        rw [Nat.testBit_or, Nat.testBit_two_pow]
        simp [q.1, q.2]
      · rename_i q
        rw [ih]
        cases hm : m.testBit a
        · simp
        · have : ¬ pl a + ln a ≤ line := fun h => q ⟨hm, h⟩
          simp [this]
    · have h1 : decide (a < i + 1) = decide (a < i) := decide_eq_decide.mpr (by omega)
      split
      · rw [Nat.testBit_or, Nat.testBit_two_pow, ih, h1]
        simp [show ¬ i = a by omega]
      · rw [ih, h1]
theorem lowN_lt {pl ln : Nat → Nat} {m line i n : Nat} (hi : i ≤ n) : lowN pl ln m line i < 2 ^ n := lt_of_bits fun a ha => by rw [lowN_bit]; simp [show ¬ a < i by omega]
theorem bcn_split {m s : Nat} (h : ∀ a, s.testBit a = true → m.testBit a = true) : ∀ n, bcn s n + bcn (clr m s) n = bcn m n
  | 0 => rfl
  | n + 1 => by
    have ih := bcn_split h n
    rw [bcn_s, bcn_s, bcn_s, clr_bit]
    have := h n
    cases e1 : s.testBit n <;> cases e2 : m.testBit n
    · simp; exact ih
    · simp; omega
    · rw [e1, e2] at this; exact absurd (this rfl) (by decide)
    · simp; omega
theorem bcn_pos {m n : Nat} (hm : m < 2 ^ n) (h0 : m ≠ 0) : 1 ≤ bcn m n := by
  refine Classical.byContradiction fun q => h0 ?_
  refine bits_ext hm (Nat.two_pow_pos n) fun i hi => ?_
  rw [Nat.zero_testBit]
  cases e : m.testBit i
  · rfl
  · have := nth_lt e hi
    omega
/-- what a split is -/
theorem fstv_ok {f : Nat → Nat} : ∀ {n}, fstv f n ≠ 0 → ∃ b, b < n ∧ f b = fstv f n
  | 0, h => absurd rfl h
  | n + 1, h => by
    have e : fstv f (n + 1) = if fstv f n = 0 then f n else fstv f n := rfl
    by_cases q : fstv f n = 0
    · rw [if_pos q] at e
      exact ⟨n, by omega, e.symm⟩
    · rw [if_neg q] at e
      obtain ⟨b, h1, h2⟩ := fstv_ok q
      exact ⟨b, by omega, by rw [h2, e]⟩
theorem fstv_up {f : Nat → Nat} {i : Nat} : ∀ {n}, i ≤ n → fstv f i ≠ 0 → fstv f n = fstv f i
  | 0, h, _ => by have : i = 0 := by omega
                  rw [this]
  | n + 1, h, q => by
    by_cases e : i = n + 1
    · rw [e]
    · have := fstv_up (f := f) (n := n) (by omega) q
      show (if fstv f n = 0 then f n else fstv f n) = _
      rw [if_neg (by rw [this]; exact q), this]
theorem sp1_ok {pl ln : Nat → Nat} {m line n : Nat} (h : sp1 pl ln m line n ≠ 0) : sp1 pl ln m line n < 2 ^ n ∧ sp1 pl ln m line n ≠ m ∧ ∀ a, (sp1 pl ln m line n).testBit a = true → m.testBit a = true := by
  unfold sp1 at h ⊢
  split at h
  · exact absurd rfl h
  · rename_i q1
    rw [if_neg q1]
    split at h
    · exact absurd rfl h
    · rename_i q2
      rw [if_neg q2]
      refine ⟨lowN_lt (Nat.le_refl _), q2, fun a ha => ?_⟩
      rw [lowN_bit] at ha
      cases e : m.testBit a
      · rw [e] at ha; simp at ha
      · rfl
theorem spb_ok {x y W H : Nat → Nat} {n m b : Nat} (h : spb x y W H n m b ≠ 0) : spb x y W H n m b < 2 ^ n ∧ spb x y W H n m b ≠ m ∧ ∀ a, (spb x y W H n m b).testBit a = true → m.testBit a = true := by
  unfold spb at h ⊢
  split at h
  · rename_i q1
    rw [if_pos q1]
    split at h
    · rename_i q2
      rw [if_pos q2]; exact sp1_ok h
    · rename_i q2
      rw [if_neg q2]; exact sp1_ok q2
  · exact absurd rfl h
def spl (x y W H : Nat → Nat) (n m : Nat) : Nat := fstv (spb x y W H n m) n
theorem spl_ok {x y W H : Nat → Nat} {n m : Nat} (hm : m < 2 ^ n) (h : spl x y W H n m ≠ 0) : spl x y W H n m < 2 ^ n ∧ bcn (spl x y W H n m) n + bcn (clr m (spl x y W H n m)) n = bcn m n ∧ 1 ≤ bcn (spl x y W H n m) n ∧ 1 ≤ bcn (clr m (spl x y W H n m)) n ∧ clr m (spl x y W H n m) < 2 ^ n := by
  obtain ⟨b, _, e⟩ := fstv_ok h
  have e : spb x y W H n m b = spl x y W H n m := e
  have h2 : spb x y W H n m b ≠ 0 := by rw [e]; exact h
  obtain ⟨a1, a2, a3⟩ := spb_ok h2
  rw [e] at a1 a2 a3
  refine ⟨a1, bcn_split a3 n, bcn_pos a1 h, bcn_pos (clr_lt hm) (fun q => a2 ?_), clr_lt hm⟩
  refine bits_ext a1 hm fun i hi => ?_
  have := congrArg (·.testBit i) q
  simp only [clr_bit, Nat.zero_testBit] at this
  have h3 := a3 i
  cases e1 : (spl x y W H n m).testBit i <;> cases e2 : m.testBit i
  · rfl
  · rw [e1, e2] at this; exact absurd this (by decide)
  · exact absurd (h3 e1) (by rw [e2]; decide)
  · rfl
/-- whether a group can be parted -/
def PT (x y W H : Nat → Nat) (n : Nat) : Nat → Nat → Bool
  | 0, _ => false
  | k + 1, m => if bcn m n ≤ 1 then true else if spl x y W H n m = 0 then false else PT x y W H n k (spl x y W H n m) && PT x y W H n k (clr m (spl x y W H n m))
theorem PT_s {x y W H : Nat → Nat} {n : Nat} : ∀ {k m}, m < 2 ^ n → 1 ≤ k → bcn m n ≤ k → PT x y W H n k m = PT x y W H n (k + 1) m
  | 0, m, _, h, _ => by omega
  | k + 1, m, hm, _, hb => by
    show (if bcn m n ≤ 1 then true else if spl x y W H n m = 0 then false else PT x y W H n k (spl x y W H n m) && PT x y W H n k (clr m (spl x y W H n m))) = (if bcn m n ≤ 1 then true else if spl x y W H n m = 0 then false else PT x y W H n (k + 1) (spl x y W H n m) && PT x y W H n (k + 1) (clr m (spl x y W H n m)))
    by_cases h1 : bcn m n ≤ 1
    · rw [if_pos h1, if_pos h1]
    · rw [if_neg h1, if_neg h1]
      by_cases h2 : spl x y W H n m = 0
      · rw [if_pos h2, if_pos h2]
      · rw [if_neg h2, if_neg h2]
        obtain ⟨a1, a2, a3, a4, a5⟩ := spl_ok hm h2
        rw [PT_s a1 (by omega) (by omega), PT_s a5 (by omega) (by omega)]
theorem PT_e {x y W H : Nat → Nat} {n m : Nat} (hm : m < 2 ^ n) : ∀ {j k}, 1 ≤ k → bcn m n ≤ k → PT x y W H n k m = PT x y W H n (k + j) m
  | 0, k, _, _ => rfl
  | j + 1, k, h1, h2 => by
    rw [PT_e hm (j := j) h1 h2, PT_s hm (by omega) (by omega)]; rfl
/-! the class -/
theorem pat_ok {M : Mm} {k0 k2 k3 n m line : Nat} {pl ln : Nat → Nat} (hn : n ≤ 12) (h6 : M.1 k0 6 = nI n) (hm : m < 2 ^ n) (hl : line ≤ 20000) (ep : IA M k2 n pl) (el : IA M k3 n ln) (hp : ∀ b, b < n → pl b ≤ 10000) (hq : ∀ b, b < n → 1 ≤ ln b ∧ ln b ≤ 200) : f_X2_partAt k0 (nI m) k2 k3 (nI line) M = some (nI (sp1 pl ln m line n)) := by
  have hm2 := p12 hm hn
  have key : Wp (f_X2_partAt k0 (nI m) k2 k3 (nI line) M) (fun r => r = nI (sp1 pl ln m line n)) := by
    unfold f_X2_partAt
    refine wp_b (P := fun r => (r = .inl (nI (lowN pl ln m line n)) ∧ thrN pl ln m line n = false) ∨ (r = .inr (nI 0) ∧ thrN pl ln m line n = true)) ?_ ?_
    · refine wp_l (fun i (v : Int32 × Int32) => v.1 = nI (lowN pl ln m line i) ∧ v.2 = nI i ∧ thrN pl ln m line i = false) n (fu_lt (by omega)) ?_ ?_ ⟨pz_0, pz_0, rfl⟩
      · rintro i ⟨v, c⟩ hi ⟨a1, a2, a3⟩
        have a1 : v = nI (lowN pl ln m line i) := a1
        have a2 : c = nI i := a2
        subst a1 a2
        show Wp (f_X2_partAt_L6 k0 (nI m) k2 k3 (nI line) M (nI (lowN pl ln m line i)) (nI i)) _
        unfold f_X2_partAt_L6 f_X2_partAt_J62
        have q1 : ¬ n ≤ i := by omega
        have q2 := hp i hi
        have q3 := hq i hi
        have e1 : lowN pl ln m line (i + 1) = if m.testBit i = true ∧ pl i + ln i ≤ line then lowN pl ln m line i ||| 2 ^ i else lowN pl ln m line i := rfl
        have e2 : thrN pl ln m line (i + 1) = (thrN pl ln m line i || (m.testBit i && decide (line < pl i + ln i) && decide (pl i < line))) := rfl
        rw [a3] at e2
        simp (disch := first | assumption | omega) only [↓pz_n1, pz_mm, pz_mm', ↓pz_lt1, ↓pz_bd, ↓pz_bd2, ↓pz_tn, ↓pz_ts, pz_0, pz_1, pz_2, pz_3, pz_4, pz_12, pz_13, pz_15, pz_16, pz_20, pz_23, pz_24, pz_200, ↓pz_rd, ↓pz_wr, pz_add, pz_mul, pz_sub, pz_le, pz_lt, pz_eq, pz_max, pz_min, pz_cl, pz_and, pz_or, pz_shl, pz_clr, pz_bit, pz_ff, pz_tt, pz_5, pz_6, pz_7, pz_10000, pz_sb, pz_b0, pz_b1, h6, q1, ep i hi, el i hi]
        by_cases hb : m.testBit i = true
        · rw [if_pos hb]
          rw [hb] at e2
          by_cases h1 : line < pl i + ln i
          · rw [if_pos h1]
            rw [if_neg (by omega)] at e1
            by_cases h2 : line ≤ pl i
            · rw [if_pos h2]
              refine wp_s (Or.inl ⟨_, rfl, by rw [e1], rfl, ?_⟩)
              rw [e2]; simp; omega
            · rw [if_neg h2]
              refine wp_s (Or.inr ⟨_, rfl, Or.inr ⟨rfl, thrN_up (i := i + 1) ?_ (by omega)⟩⟩)
              rw [e2]; simp; omega
          · rw [if_neg h1]
            rw [if_pos ⟨hb, by omega⟩] at e1
            refine wp_s (Or.inl ⟨_, rfl, by rw [e1], rfl, ?_⟩)
            rw [e2]; simp; omega
        · rw [if_neg hb]
          rw [if_neg (fun q => hb q.1)] at e1
          refine wp_s (Or.inl ⟨_, rfl, by rw [e1], rfl, ?_⟩)
          rw [Bool.not_eq_true] at hb
          rw [e2, hb]; rfl
      · rintro ⟨v, c⟩ ⟨a1, a2, a3⟩
        have a1 : v = nI (lowN pl ln m line n) := a1
        have a2 : c = nI n := a2
        subst a1 a2
        show Wp (f_X2_partAt_L6 k0 (nI m) k2 k3 (nI line) M (nI (lowN pl ln m line n)) (nI n)) _
        unfold f_X2_partAt_L6
        rw [h6, if_pos ((nI_leI (by omega) (by omega)).mpr (Nat.le_refl _))]
        exact wp_s ⟨_, rfl, Or.inl ⟨rfl, a3⟩⟩
    · have hlow := p12 (lowN_lt (pl := pl) (ln := ln) (m := m) (line := line) (Nat.le_refl n)) hn
      rintro r (⟨rfl, h⟩ | ⟨rfl, h⟩)
      · show Wp (f_X2_partAt_A6 (nI m) (nI (lowN pl ln m line n))) _
        unfold f_X2_partAt_A6 sp1
        rw [h, if_neg (show ¬ false = true by decide)]
        by_cases e : lowN pl ln m line n = m
        · rw [if_pos (congrArg nI e), if_pos e]; exact wp_s pz_0
        · rw [if_neg (by rw [pz_eq (by omega) (by omega)]; exact e), if_neg e]; exact wp_s rfl
      · refine wp_s ?_
        unfold sp1
        rw [if_pos h]
  obtain ⟨r, e, h⟩ := key
  rw [e, h]
theorem pof_ok {M : Mm} {k0 n td m : Nat} {w h x y : Nat → Nat} (g : GB n td w h x y) (c : CG M k0 n td w h x y) (hm : m < 2 ^ n) : f_X2_partOf k0 (nI m) M = some (nI (spl x y (swd w h td) (swd h w td) n m)) := by
  have hn := g.n
  have hm2 := p12 hm hn
  generalize hf : spb x y (swd w h td) (swd h w td) n m = f
  have key : Wp (f_X2_partOf k0 (nI m) M) (fun r => r = nI (fstv f n)) := by
    unfold f_X2_partOf
    refine wp_b (P := fun r => (r = .inl () ∧ fstv f n = 0) ∨ ∃ s, r = .inr (nI s) ∧ s = fstv f n) ?_ ?_
    · refine wp_l (fun i (v : Int32) => v = nI i ∧ fstv f i = 0) n (fu_lt (by omega)) ?_ ?_ ⟨pz_0, rfl⟩
      · rintro i v hi ⟨rfl, a1⟩
        show Wp (f_X2_partOf_L2 k0 (nI m) M (nI i)) _
        unfold f_X2_partOf_L2 f_X2_partOf_J83
        have q1 : ¬ n ≤ i := by omega
        have q2 := g.x i hi
        have q3 := g.y i hi
        have q4 := g.sw hi
        have q5 := g.sh hi
        have e1 : fstv f (i + 1) = f i := by
          show (if fstv f i = 0 then f i else fstv f i) = _
          rw [if_pos a1]
        have e2 : f i = if m.testBit i = true then (if sp1 x (swd w h td) m (x i + swd w h td i) n = 0 then sp1 y (swd h w td) m (y i + swd h w td i) n else sp1 x (swd w h td) m (x i + swd w h td i) n) else 0 := by rw [← hf]; rfl
        have fin : ∀ s, s < 4096 → f i = s → Wp (f_X2_partOf_J77 (nI i) (nI s)) (fun r => (∃ w, r = .inl w ∧ w = nI (i + 1) ∧ fstv f (i + 1) = 0) ∨ ∃ z, r = .inr z ∧ ((z = .inl () ∧ fstv f n = 0) ∨ ∃ s, z = .inr (nI s) ∧ s = fstv f n)) := by
          intro s hs es
          unfold f_X2_partOf_J77 f_X2_partOf_J83
          simp (disch := first | assumption | omega) only [↓pz_n1, pz_mm, pz_mm', ↓pz_lt1, ↓pz_bd, ↓pz_bd2, ↓pz_tn, ↓pz_ts, pz_0, pz_1, pz_2, pz_3, pz_4, pz_12, pz_13, pz_15, pz_16, pz_20, pz_23, pz_24, pz_200, ↓pz_rd, ↓pz_wr, pz_add, pz_mul, pz_sub, pz_le, pz_lt, pz_eq, pz_max, pz_min, pz_cl, pz_and, pz_or, pz_shl, pz_clr, pz_bit, pz_ff, pz_tt, pz_5, pz_6, pz_7, pz_10000, pz_sb, pz_b0, pz_b1]
          by_cases h0 : s = 0
          · rw [if_pos h0]
            exact wp_s (Or.inl ⟨_, rfl, rfl, by rw [e1, es, h0]⟩)
          · rw [if_neg h0]
            refine wp_s (Or.inr ⟨_, rfl, Or.inr ⟨s, rfl, ?_⟩⟩)
            rw [fstv_up (i := i + 1) (by omega) (by rw [e1, es]; exact h0), e1, es]
        have b1 := p12 (show sp1 x (swd w h td) m (x i + swd w h td i) n < 2 ^ n by
          by_cases q : sp1 x (swd w h td) m (x i + swd w h td i) n = 0
          · rw [q]; exact Nat.two_pow_pos n
          · exact (sp1_ok q).1) hn
        have b2 := p12 (show sp1 y (swd h w td) m (y i + swd h w td i) n < 2 ^ n by
          by_cases q : sp1 y (swd h w td) m (y i + swd h w td i) n = 0
          · rw [q]; exact Nat.two_pow_pos n
          · exact (sp1_ok q).1) hn
        simp (disch := first | assumption | omega) only [↓pz_n1, pz_mm, pz_mm', ↓pz_lt1, ↓pz_bd, ↓pz_bd2, ↓pz_tn, ↓pz_ts, pz_0, pz_1, pz_2, pz_3, pz_4, pz_12, pz_13, pz_15, pz_16, pz_20, pz_23, pz_24, pz_200, ↓pz_rd, ↓pz_wr, pz_add, pz_mul, pz_sub, pz_le, pz_lt, pz_eq, pz_max, pz_min, pz_cl, pz_and, pz_or, pz_shl, pz_clr, pz_bit, pz_ff, pz_tt, pz_5, pz_6, pz_7, pz_10000, pz_sb, pz_b0, pz_b1, c.n, q1, c.x i hi, c.y i hi, c.w i hi, c.h i hi]
        by_cases hb : m.testBit i = true
        · rw [if_pos hb, pat_ok hn c.n hm (by omega) c.x c.w g.x (fun b hb => g.sw hb), pz_bd]
          rw [if_pos hb] at e2
          by_cases h1 : sp1 x (swd w h td) m (x i + swd w h td i) n = 0
          · rw [if_pos h1] at e2
            rw [if_pos (by rw [h1]), pat_ok hn c.n hm (by omega) c.y c.h g.y (fun b hb => g.sh hb), pz_bd]
            exact fin _ b2 e2
          · rw [if_neg h1] at e2
            rw [if_neg (by rw [pz_eq (by omega) (by omega)]; exact h1)]
            exact fin _ b1 e2
        · rw [if_neg hb]
          rw [if_neg hb] at e2
          exact wp_s (Or.inl ⟨_, rfl, rfl, by rw [e1, e2]⟩)
      · rintro v ⟨rfl, a1⟩
        show Wp (f_X2_partOf_L2 k0 (nI m) M (nI n)) _
        unfold f_X2_partOf_L2
        rw [c.n, if_pos ((nI_leI (by omega) (by omega)).mpr (Nat.le_refl _))]
        exact wp_s ⟨_, rfl, Or.inl ⟨rfl, a1⟩⟩
    · rintro r (⟨rfl, h⟩ | ⟨s, rfl, h⟩)
      · exact wp_s (by rw [h]; exact pz_0)
      · exact wp_s (by rw [h])
  obtain ⟨r, e, h⟩ := key
  rw [e, h]
  unfold spl
  rw [hf]
