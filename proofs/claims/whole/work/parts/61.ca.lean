/-! cuts: the arm -/
theorem rst_s {n : Nat} {tk : Nat → Nat} {i s p : Nat} (h : rst n tk i = some (s, p)) : rst n tk (i + 1) = if tk i < n ∧ s.testBit (tk i) = false then some (s ||| 2 ^ tk i, p + 1) else if (tk i = 12 ∨ tk i = 13) ∧ 1 < p then some (s, p - 1) else none := by
  show (rst n tk i).bind _ = _
  rw [h]; rfl
theorem cir_ok {n : Nat} (hn : n ≤ 12) (h1 : 1 ≤ n) (a b : Int64) : (IsRow n (tkn a b) → f_X6_isRow a b (nI n) = some (nI 1)) ∧ (¬ IsRow n (tkn a b) → f_X6_isRow a b (nI n) = some (nI 0)) := by
  have key : Wp (f_X6_isRow a b (nI n)) (fun r => (IsRow n (tkn a b) ∧ r = nI 1) ∨ (¬ IsRow n (tkn a b) ∧ r = nI 0)) := by
    unfold f_X6_isRow
    refine wp_b (P := fun r => (∃ s p, r = .inl (nI p) ∧ p < 100 ∧ rst n (tkn a b) (2 * n - 1) = some (s, p)) ∨ (r = .inr (nI 0) ∧ rst n (tkn a b) (2 * n - 1) = none)) ?_ ?_
    · refine wp_l (fun i (v : Int32 × Int32 × Int32) => v.2.2 = nI i ∧ ∃ s p, v.1 = nI s ∧ v.2.1 = nI p ∧ rst n (tkn a b) i = some (s, p)) (2 * n - 1) (fu_lt (by omega)) ?_ ?_ ⟨pz_0, 0, 0, pz_0, pz_0, rfl⟩
      · rintro i ⟨x5, x6, x7⟩ hi ⟨a1, s, p, a2, a3, a4⟩
        have a1 : x7 = nI i := a1
        have a2 : x5 = nI s := a2
        have a3 : x6 = nI p := a3
        subst a1 a2 a3
        obtain ⟨es, l1, l2, l3, l4, l5, l6, l7, l8⟩ := rst_ex hn a4
        have l9 := p12 l7 hn
        have rs := rst_s a4
        have tl := tkn_lt a b (show i < 32 by omega)
        show Wp (f_X6_isRow_L9 a b (nI n) (nI s) (nI p) (nI i)) _
        have J61 : ¬ (tkn a b i < n ∧ s.testBit (tkn a b i) = false) → Wp (f_X6_isRow_J61 (nI i) (nI (tkn a b i)) (nI s) (nI p)) (fun r => (∃ w, r = .inl w ∧ w.2.2 = nI (i + 1) ∧ ∃ s p, w.1 = nI s ∧ w.2.1 = nI p ∧ rst n (tkn a b) (i + 1) = some (s, p)) ∨ ∃ x, r = .inr x ∧ ((∃ s p, x = .inl (nI p) ∧ p < 100 ∧ rst n (tkn a b) (2 * n - 1) = some (s, p)) ∨ (x = .inr (nI 0) ∧ rst n (tkn a b) (2 * n - 1) = none))) := by
          intro q
          rw [if_neg q] at rs
          unfold f_X6_isRow_J61
          have J75 : (tkn a b i = 12 ∨ tkn a b i = 13) → Wp (f_X6_isRow_J75 (nI i) (nI s) (nI p) ()) (fun r => (∃ w, r = .inl w ∧ w.2.2 = nI (i + 1) ∧ ∃ s p, w.1 = nI s ∧ w.2.1 = nI p ∧ rst n (tkn a b) (i + 1) = some (s, p)) ∨ ∃ x, r = .inr x ∧ ((∃ s p, x = .inl (nI p) ∧ p < 100 ∧ rst n (tkn a b) (2 * n - 1) = some (s, p)) ∨ (x = .inr (nI 0) ∧ rst n (tkn a b) (2 * n - 1) = none))) := by
            intro ht
            unfold f_X6_isRow_J75 f_X6_isRow_J89
            rw [pz_n1, pz_1]
            by_cases hp : p ≤ 1
            · rw [if_pos (by rw [pz_le (by omega) (by omega)]; exact hp)]
              rw [if_neg (fun z => by have := z.2; omega)] at rs
              exact wp_s (Or.inr ⟨_, rfl, Or.inr ⟨pz_0 ▸ rfl, rst_none rs (by omega)⟩⟩)
            · rw [if_neg (by rw [pz_le (by omega) (by omega)]; exact hp), pz_lt1, pz_dec (by omega), pz_lt1, pz_add]
              rw [if_pos ⟨ht, by omega⟩] at rs
              exact wp_s (Or.inl ⟨_, rfl, rfl, s, p - 1, rfl, rfl, rs⟩)
          rw [pz_12, pz_13]
          by_cases t1 : tkn a b i = 12
          · rw [if_pos (by rw [t1])]; exact J75 (Or.inl t1)
          · rw [if_neg (by rw [pz_eq (by omega) (by omega)]; exact t1)]
            by_cases t2 : tkn a b i = 13
            · rw [if_pos (by rw [t2])]; exact J75 (Or.inr t2)
            · rw [if_neg (by rw [pz_eq (by omega) (by omega)]; exact t2)]
              rw [if_neg (fun z => by have := z.1; omega)] at rs
              exact wp_s (Or.inr ⟨_, rfl, Or.inr ⟨pz_0 ▸ rfl, rst_none rs (by omega)⟩⟩)
        unfold f_X6_isRow_L9 f_X6_isRow_J89
        rw [pz_2, pz_mul, pz_1, pz_sub (by omega), if_neg (by rw [pz_le (by omega) (by omega)]; omega), pz_lt1, tkn_e a b (by omega)]
        by_cases t0 : n ≤ tkn a b i
        · rw [if_pos (by rw [pz_le (by omega) (by omega)]; exact t0)]
          exact J61 (fun z => by have := z.1; omega)
        · rw [if_neg (by rw [pz_le (by omega) (by omega)]; exact t0), pz_bit (by omega) (by omega), pz_0]
          by_cases hb : s.testBit (tkn a b i) = false
          · rw [if_pos (by rw [hb]; rfl), pz_lt1, pz_lt1, pz_lt1, pz_shl (by omega), pz_or, pz_add, pz_add]
            rw [if_pos ⟨by omega, hb⟩] at rs
            exact wp_s (Or.inl ⟨_, rfl, rfl, _, _, rfl, rfl, rs⟩)
          · rw [if_neg (by rw [pz_b0]; exact hb)]
            exact J61 (fun z => hb z.2)
      · rintro ⟨x5, x6, x7⟩ ⟨a1, s, p, a2, a3, a4⟩
        have a1 : x7 = nI (2 * n - 1) := a1
        have a3 : x6 = nI p := a3
        subst a1 a3
        obtain ⟨es, l1, l2, l3, l4, l5, l6, l7, l8⟩ := rst_ex hn a4
        show Wp (f_X6_isRow_L9 a b (nI n) x5 (nI p) (nI (2 * n - 1))) _
        unfold f_X6_isRow_L9
        rw [pz_2, pz_mul, pz_1, pz_sub (by omega), if_pos ((nI_leI (by omega) (by omega)).mpr (Nat.le_refl _))]
        exact wp_s ⟨_, rfl, Or.inl ⟨s, p, rfl, by omega, a4⟩⟩
    · rintro r (⟨s, p, rfl, hp, h⟩ | ⟨rfl, h⟩)
      · show Wp (f_X6_isRow_A9 (nI p)) _
        unfold f_X6_isRow_A9
        rw [pz_1, pz_0]
        by_cases e : p = 1
        · rw [if_pos (by rw [e])]
          subst e
          exact wp_s (Or.inl ⟨⟨s, h⟩, rfl⟩)
        · rw [if_neg (by rw [pz_eq (by omega) (by omega)]; exact e)]
          refine wp_s (Or.inr ⟨fun ⟨s', h'⟩ => ?_, rfl⟩)
          rw [h] at h'
          cases h'
          exact e rfl
      · refine wp_s (Or.inr ⟨fun ⟨s', h'⟩ => ?_, rfl⟩)
        rw [h] at h'; cases h'
  obtain ⟨r, e, h⟩ := key
  constructor
  · intro hP
    rcases h with ⟨_, h⟩ | ⟨h, _⟩
    · rw [e, h]
    · exact absurd hP h
  · intro hP
    rcases h with ⟨h, _⟩ | ⟨_, h⟩
    · exact absurd h hP
    · rw [e, h]
theorem rir_ok {M : Mm} {n : Nat} {tk : Nat → Nat} (hn : n ≤ 12) (h1 : 1 ≤ n) (r1 : M.1 69 1 = nI n) (ht : IA M 83 (2 * n - 1) tk) (hl : ∀ i, i < 2 * n - 1 → tk i < 16) : (IsRow n tk → f_X10_isRow M = some (nI 1)) ∧ (¬ IsRow n tk → f_X10_isRow M = some (nI 0)) := by
  have key : Wp (f_X10_isRow M) (fun r => (IsRow n tk ∧ r = nI 1) ∨ (¬ IsRow n tk ∧ r = nI 0)) := by
    unfold f_X10_isRow
    refine wp_b (P := fun r => (∃ s p, r = .inl (nI p) ∧ p < 100 ∧ rst n tk (2 * n - 1) = some (s, p)) ∨ (r = .inr (nI 0) ∧ rst n tk (2 * n - 1) = none)) ?_ ?_
    · refine wp_l (fun i (v : Int32 × Int32 × Int32) => v.2.2 = nI i ∧ ∃ s p, v.1 = nI s ∧ v.2.1 = nI p ∧ rst n tk i = some (s, p)) (2 * n - 1) (fu_lt (by omega)) ?_ ?_ ⟨pz_0, 0, 0, pz_0, pz_0, rfl⟩
      · rintro i ⟨x1, x2, x3⟩ hi ⟨a1, s, p, a2, a3, a4⟩
        have a1 : x3 = nI i := a1
        have a2 : x1 = nI s := a2
        have a3 : x2 = nI p := a3
        subst a1 a2 a3
        obtain ⟨es, l1, l2, l3, l4, l5, l6, l7, l8⟩ := rst_ex hn a4
        have l9 := p12 l7 hn
        have rs := rst_s a4
        have tl := hl i hi
        have dead : rst n tk (i + 1) = none → Wp (some (Sum.inr (Sum.inr (nI 0))) : Option ((Int32 × Int32 × Int32) ⊕ (Int32 ⊕ Int32))) (fun r => (∃ w, r = .inl w ∧ w.2.2 = nI (i + 1) ∧ ∃ s p, w.1 = nI s ∧ w.2.1 = nI p ∧ rst n tk (i + 1) = some (s, p)) ∨ ∃ x, r = .inr x ∧ ((∃ s p, x = .inl (nI p) ∧ p < 100 ∧ rst n tk (2 * n - 1) = some (s, p)) ∨ (x = .inr (nI 0) ∧ rst n tk (2 * n - 1) = none))) := fun z => wp_s (Or.inr ⟨_, rfl, Or.inr ⟨rfl, rst_none z (by omega)⟩⟩)
        show Wp (f_X10_isRow_L6 M (nI s) (nI p) (nI i)) _
        unfold f_X10_isRow_L6 f_X10_isRow_J80
        rw [rs_eq r1 h1, if_neg (by rw [pz_le (by omega) (by omega)]; omega), pz_rd (by omega) (by omega), ht i hi, pz_12, pz_13, pz_2, pz_0, pz_n1, pz_1]
        by_cases t0 : 12 ≤ tk i
        · rw [if_pos (by rw [pz_le (by omega) (by omega)]; exact t0)]
          rw [if_neg (fun z => by have := z.1; omega)] at rs
          by_cases t1 : 13 < tk i
          · rw [if_pos (by rw [pz_lt (by omega) (by omega)]; exact t1)]
            rw [if_neg (fun z => by have := z.1; omega)] at rs
            exact dead rs
          · rw [if_neg (by rw [pz_lt (by omega) (by omega)]; exact t1)]
            by_cases hp : 2 ≤ p
            · rw [if_pos (by rw [pz_le (by omega) (by omega)]; exact hp), pz_lt1, pz_dec (by omega), pz_lt1, pz_add]
              rw [if_pos ⟨by omega, by omega⟩] at rs
              exact wp_s (Or.inl ⟨_, rfl, rfl, s, p - 1, rfl, rfl, rs⟩)
            · rw [if_neg (by rw [pz_le (by omega) (by omega)]; exact hp)]
              rw [if_neg (fun z => by have := z.2; omega)] at rs
              exact dead rs
        · rw [if_neg (by rw [pz_le (by omega) (by omega)]; exact t0), r1]
          by_cases t1 : n ≤ tk i
          · rw [if_pos (by rw [pz_le (by omega) (by omega)]; exact t1)]
            rw [if_neg (fun z => by have := z.1; omega), if_neg (fun z => by have := z.1; omega)] at rs
            exact dead rs
          · rw [if_neg (by rw [pz_le (by omega) (by omega)]; exact t1), pz_sb (by omega) (by omega)]
            by_cases hb : s.testBit (tk i) = true
            · rw [if_pos (by rw [hb]; rfl)]
              rw [if_neg (fun z => by rw [hb] at z; exact absurd z.2 (by decide)), if_neg (fun z => by have := z.1; omega)] at rs
              exact dead rs
            · rw [if_neg (by rw [pz_b1]; exact hb), pz_lt1, pz_lt1, pz_lt1, pz_shl (by omega), pz_or, pz_add, pz_add]
              rw [if_pos ⟨by omega, by rw [Bool.not_eq_true] at hb; exact hb⟩] at rs
              exact wp_s (Or.inl ⟨_, rfl, rfl, _, _, rfl, rfl, rs⟩)
      · rintro ⟨x1, x2, x3⟩ ⟨a1, s, p, a2, a3, a4⟩
        have a1 : x3 = nI (2 * n - 1) := a1
        have a3 : x2 = nI p := a3
        subst a1 a3
        obtain ⟨es, l1, l2, l3, l4, l5, l6, l7, l8⟩ := rst_ex hn a4
        show Wp (f_X10_isRow_L6 M x1 (nI p) (nI (2 * n - 1))) _
        unfold f_X10_isRow_L6
        rw [rs_eq r1 h1, if_pos ((nI_leI (by omega) (by omega)).mpr (Nat.le_refl _))]
        exact wp_s ⟨_, rfl, Or.inl ⟨s, p, rfl, by omega, a4⟩⟩
    · rintro r (⟨s, p, rfl, hp, h⟩ | ⟨rfl, h⟩)
      · show Wp (f_X10_isRow_A6 (nI p)) _
        unfold f_X10_isRow_A6
        rw [pz_1, pz_0]
        by_cases e : p = 1
        · rw [if_pos (by rw [e])]
          subst e
          exact wp_s (Or.inl ⟨⟨s, h⟩, rfl⟩)
        · rw [if_neg (by rw [pz_eq (by omega) (by omega)]; exact e)]
          refine wp_s (Or.inr ⟨fun ⟨s', h'⟩ => ?_, rfl⟩)
          rw [h] at h'
          cases h'
          exact e rfl
      · refine wp_s (Or.inr ⟨fun ⟨s', h'⟩ => ?_, rfl⟩)
        rw [h] at h'; cases h'
  obtain ⟨r, e, h⟩ := key
  constructor
  · intro hP
    rcases h with ⟨_, h⟩ | ⟨h, _⟩
    · rw [e, h]
    · exact absurd hP h
  · intro hP
    rcases h with ⟨h, _⟩ | ⟨_, h⟩
    · exact absurd h hP
    · rw [e, h]
theorem crr_ok {M : Mm} {k0 n : Nat} (hn : n ≤ 12) (h1 : 1 ≤ n) (a b : Int64) : Wp (f_X6_read k0 a b (nI n) M) (fun M' => M'.1 k0 5 = nI (2 * n - 1) ∧ IA M' (k0 + 1) (2 * n - 1) (tkn a b) ∧ Fr (SB k0 (k0 + 1)) M M') := by
  unfold f_X6_read f_X6_read_A13
  rw [pz_2, pz_mul, pz_1, pz_sub (by omega), pz_lt1, pz_0]
  refine wp_b (wp_for (step := fun v => f_X6_read_L13 k0 a b v.1 v.2) (fun i M' => M'.1 k0 5 = nI (2 * n - 1) ∧ IA M' (k0 + 1) i (tkn a b) ∧ Fr (SB k0 (k0 + 1)) M M') (2 * n - 1) (by omega) ?_ ?_ ⟨by rw [wi_at, if_pos rfl], IA.nil, Fr.rf.w ⟨by omega, by omega⟩⟩) (fun M' h => wp_s h)
  · rintro i M1 hi ⟨a1, a2, a3⟩
    show Wp (f_X6_read_L13 k0 a b (nI i) M1) _
    unfold f_X6_read_L13
    rw [a1, if_neg (by rw [pz_le (by omega) (by omega)]; omega), tkn_e a b (by omega), pz_wr (by omega) (by omega), pz_lt1, pz_1, pz_add]
    exact wp_s ⟨_, rfl, by rw [wi_n _ _ _ (by omega)]; exact a1, a2.snoc rfl, a3.w ⟨by omega, by omega⟩⟩
  · rintro M1 ⟨a1, a2, a3⟩
    show f_X6_read_L13 k0 a b (nI (2 * n - 1)) M1 = _
    unfold f_X6_read_L13
    rw [a1, if_pos ((nI_leI (by omega) (by omega)).mpr (Nat.le_refl _))]
theorem c_cuts {F : Abs → Nat → Mm → Prop} (hF : FOK F) {M : Mm} {A : Abs} (hA : AOK A) (hC : CI F M A) (a b : Int64) (x : Int32) :
    (A.n = 0 ∨ ¬ IsRow A.n (tkn a b) → f_X9_cuts a b x M = some (nI 0, M)) ∧
    (A.n ≠ 0 → IsRow A.n (tkn a b) → ∀ e, RowE A.n (tkn a b) e → Wp (f_X9_cuts a b x M) (fun r => r.1 = nI 1 ∧ CI F r.2 (ctS A (msk x A.tb) (tkn a b) e) ∧ Fr SC M r.2)) := by
  have hn := hA.n
  unfold f_X9_cuts
  rw [hC.n, pz_0]
  constructor
  · intro h
    by_cases h0 : A.n = 0
    · rw [if_pos (by rw [h0])]
    · rw [if_neg (by rw [pz_eq (by omega) (by omega)]; exact h0)]
      rcases h with h | h
      · exact absurd h h0
      · rw [(cir_ok hn (by omega) a b).2 h, pz_bd, if_pos rfl]
  · intro h0 hr e he
    rw [if_neg (by rw [pz_eq (by omega) (by omega)]; exact h0), (cir_ok hn (by omega) a b).1 hr, pz_bd, if_neg (by decide), pz_2, pz_1]
    refine wp_b (crr_ok hn (by omega) a b) ?_
    rintro M1 ⟨a1, a2, a3⟩
    refine wp_b (c_layc hF hA (by omega) hC (a3.mono (fun k h => ⟨Nat.le_trans (by omega) h.1, Nat.le_trans h.2 (by omega)⟩)) he a1 a2 x) ?_
    rintro M2 ⟨b1, b2⟩
    exact wp_s ⟨rfl, b1, b2⟩
theorem r_cuts {M : Mm} {A : Abs} (hA : AOK A) (hR : RI M A) (a b : Int64) (x : Int32) :
    (A.n = 0 ∨ ¬ IsRow A.n (tkn a b) → Wp (f_X10_cuts a b x M) (fun r => r.1 = nI 0 ∧ RI r.2 A ∧ Fr SR M r.2)) ∧
    (A.n ≠ 0 → IsRow A.n (tkn a b) → ∀ e, RowE A.n (tkn a b) e → Wp (f_X10_cuts a b x M) (fun r => r.1 = nI 1 ∧ RI r.2 (ctS A (msk x A.tb) (tkn a b) e) ∧ Fr SR M r.2)) := by
  have hn := hA.n
  unfold f_X10_cuts
  rw [pz_0, pz_lt1]
  generalize hM1 : wi M 69 0 (nI 0) = M1
  have s1 : Scr M M1 := by subst hM1; exact Scr.rf.w (by omega)
  have r1 : M1.1 69 1 = nI A.n := s1.2.1.1.trans hR.n
  rw [r1]
  by_cases h0 : A.n = 0
  · rw [if_pos (by rw [h0])]
    exact ⟨fun _ => wp_s ⟨rfl, hR.scr s1, s1.fr⟩, fun h => absurd h0 h⟩
  · rw [if_neg (by rw [pz_eq (by omega) (by omega)]; exact h0)]
    have rd : Wp (loop (fun v => f_X10_cuts_L17 a b v.1 v.2) FU (nI 0, M1)) (fun M' => IA M' 83 (2 * A.n - 1) (tkn a b) ∧ Fr (SB 83 83) M1 M') := by
      refine wp_for (step := fun v => f_X10_cuts_L17 a b v.1 v.2) (fun i M' => IA M' 83 i (tkn a b) ∧ Fr (SB 83 83) M1 M') (2 * A.n - 1) (by omega) ?_ ?_ ⟨IA.nil, Fr.rf⟩
      · rintro i M2 hi ⟨a1, a2⟩
        have c1 : M2.1 69 1 = nI A.n := by rw [a2.1 69 (fun h => by unfold SB at h; omega)]; exact r1
        show Wp (f_X10_cuts_L17 a b (nI i) M2) _
        unfold f_X10_cuts_L17 f_X10_cuts_J57
        have fin : ∀ v : Int32, v = nI (tkn a b i) → Wp (wrI 23 M2 83 (nI i) v fun M_25 => lt1 (nI i + 1) fun x6_27 => (some (.inl (x6_27, M_25)) : Option ((Int32 × Mm) ⊕ Mm))) (fun r => ∃ M', r = .inl (nI (i + 1), M') ∧ IA M' 83 (i + 1) (tkn a b) ∧ Fr (SB 83 83) M1 M') := by
          rintro v rfl
          rw [pz_wr (by omega) (by omega), pz_lt1, pz_1, pz_add]
          exact wp_s ⟨_, rfl, a1.snoc rfl, a2.w ⟨by omega, by omega⟩⟩
        rw [rs_eq c1 (by omega), if_neg (by rw [pz_le (by omega) (by omega)]; omega), pz_16]
        by_cases q : i < 16
        · rw [if_neg (by rw [pz_le (by omega) (by omega)]; omega), nib_r]
          exact fin _ (by unfold tkn; rw [if_pos q])
        · rw [if_pos (by rw [pz_le (by omega) (by omega)]; omega), pz_sub (by omega), nib_r]
          exact fin _ (by unfold tkn; rw [if_neg q])
      · rintro M2 ⟨a1, a2⟩
        have c1 : M2.1 69 1 = nI A.n := by rw [a2.1 69 (fun h => by unfold SB at h; omega)]; exact r1
        show f_X10_cuts_L17 a b (nI (2 * A.n - 1)) M2 = _
        unfold f_X10_cuts_L17
        rw [rs_eq c1 (by omega), if_pos ((nI_leI (by omega) (by omega)).mpr (Nat.le_refl _))]
    obtain ⟨M2, e2, t2, f2⟩ := rd
    have s2 : Scr M M2 := s1.tr (scr_of f2 (by omega))
    have r2 : M2.1 69 1 = nI A.n := s2.2.1.1.trans hR.n
    rw [e2, pz_bd]
    unfold f_X10_cuts_A17
    have ir := rir_ok hn (by omega) r2 t2 (fun i hi => tkn_lt a b (by omega))
    constructor
    · intro h
      rcases h with h | h
      · exact absurd h h0
      · rw [ir.2 h, pz_bd, pz_0, if_pos rfl]
        exact wp_s ⟨rfl, hR.scr s2, s2.fr⟩
    · intro _ hr e he
      rw [ir.1 hr, pz_bd, pz_0, if_neg (by decide)]
      refine wp_b (wp_for (step := fun v => f_X10_cuts_L76 v.1 v.2) (fun i M' => M'.1 69 = M2.1 69 ∧ IA M' 78 i (tkn a b) ∧ M'.1 83 = M2.1 83 ∧ Fr SRw M M') (2 * A.n - 1) (by omega) ?_ ?_ ⟨rfl, IA.nil, rfl, s2.fw⟩) ?_
      · rintro i M4 hi ⟨b1, b2, b3, b4⟩
        show Wp (f_X10_cuts_L76 (nI i) M4) _
        unfold f_X10_cuts_L76
        have c1 : M4.1 69 1 = nI A.n := by rw [b1]; exact r2
        rw [rs_eq c1 (by omega), if_neg (by rw [pz_le (by omega) (by omega)]; omega), pz_rd (by omega) (by omega), b3, t2 i hi, pz_wr (by omega) (by omega), pz_lt1, pz_1, pz_add]
        exact wp_s ⟨_, rfl, b1, b2.snoc rfl, b3, b4.w (Or.inr ⟨by omega, by omega⟩)⟩
      · rintro M4 ⟨b1, b2, b3, b4⟩
        show f_X10_cuts_L76 (nI (2 * A.n - 1)) M4 = _
        unfold f_X10_cuts_L76
        have c1 : M4.1 69 1 = nI A.n := by rw [b1]; exact r2
        rw [rs_eq c1 (by omega), if_pos ((nI_leI (by omega) (by omega)).mpr (Nat.le_refl _))]
      · rintro M4 ⟨b1, b2, b3, b4⟩
        unfold f_X10_cuts_A76
        have c1 : M4.1 69 1 = nI A.n := by rw [b1]; exact r2
        have c73 : IA M4 73 A.n (fun b => (A.tb.testBit b).toNat) := hR.tb.eq (b4.1 73 (fun h => by unfold SRw at h; omega))
        rw [tbl_ok hn hA.tb c1 c73, pz_bd, pz_msk, pz_lt1]
        refine wp_b (r_layc hA (by omega) hR (M := wi M4 69 7 (nI (msk x A.tb))) (b4.w (Or.inl rfl)) he c1 ?_ rfl (msk_sub _ _) (b2.eq rfl)) ?_
        · show M4.1 69 41 = _
          rw [b1]; exact s2.2.1.2.2.2.2.trans hR.s
        · rintro M5 ⟨d1, d2, _⟩
          exact wp_s ⟨pz_1, d1, d2⟩
theorem both_cuts {F : Abs → Nat → Mm → Prop} (hF : FOK F) {n : Nat} {M : Mm} {A : Abs} (hA : AOK A) (hC : CI F M A) (hR : RI M A) (a b : Int64) (x : Int32) : Nx F n (bd2 (f_X9_cuts a b x M) fun r M1 => bd2 (f_X10_cuts a b x M1) fun r2 M2 => if r = r2 then f_law_J1690 (nI n) M2 else none) := by
  have hn := hA.n
  by_cases h : A.n = 0 ∨ ¬ IsRow A.n (tkn a b)
  · exact arm_n hF (v := nI 0) hA hR (wp_e ((c_cuts hF hA hC a b x).1 h) ⟨rfl, hC, Fr.rf⟩) (fun M1 h1 => (r_cuts hA h1 a b x).1 h)
  · have h0 : A.n ≠ 0 := fun q => h (Or.inl q)
    have hr : IsRow A.n (tkn a b) := Classical.byContradiction fun q => h (Or.inr q)
    obtain ⟨s, hs⟩ := hr
    obtain ⟨e, he⟩ := rst_row hn (by omega) hs
    exact arm_n hF (v := nI 1) (hA.cts (by omega) (msk_sub _ _) he) hR ((c_cuts hF hA hC a b x).2 h0 ⟨s, hs⟩ e he) (fun M1 h1 => (r_cuts hA h1 a b x).2 h0 ⟨s, hs⟩ e he)
theorem arm_7 {F : Abs → Nat → Mm → Prop} (hF : FOK F) {xs : Nat → Int32} {L n : Nat} {M : Mm} (hL : L ≤ 3584) (hn : n + 7 ≤ L) (hI : Inv F M) : Nx F n (f_arm_7 xs L (nI n) M) := by
  obtain ⟨A, hA, hC, hR⟩ := hI
  unfold f_arm_7
  simp (disch := omega) only [pz_rdX, pz_1, pz_2, pz_3, pz_4, pz_5, pz_add]
  exact both_cuts hF hA hC hR _ _ _
