/-! the first clash; about -/
def ck (a b : Nat) : Int32 := (nI a <<< ((4 : Int32) &&& 31)) ||| nI b
theorem ck_ok : ∀ a, a < 12 → ∀ b, b < 12 → ck a b ≠ m1 ∧ f_X2_firstOf (ck a b) = nI a ∧ f_X2_secondOf (ck a b) = nI b := by decide +kernel
theorem fc_ok {M : Mm} {k0 n td : Nat} {w h x y : Nat → Nat} (g : GB n td w h x y) (c : CG M k0 n td w h x y) : Wp (f_X2_firstClash k0 M) (fun r => (r = m1 ∧ NC n (Cl x y (swd w h td) (swd h w td))) ∨ ∃ a b, r = ck a b ∧ FC n (Cl x y (swd w h td) (swd h w td)) a b) := by
  have hn := g.n
  have hd := fun a b (ha : a < n) (hb : b < n) => dc_ok g c ha hb
  generalize Cl x y (swd w h td) (swd h w td) = P at hd
  unfold f_X2_firstClash
  refine wp_b (P := fun r => (r = .inl () ∧ NC n P) ∨ ∃ a b, r = .inr (ck a b) ∧ FC n P a b) ?_ ?_
  · refine wp_l (fun i (v : Int32) => v = nI i ∧ ∀ a' b', a' < i → a' < b' → b' < n → ¬ P a' b') n (fu_lt (by omega)) ?_ ?_ ⟨pz_0, fun a' b' h => by omega⟩
    · rintro i v hi ⟨rfl, hP⟩
      show Wp (f_X2_firstClash_L2 k0 M (nI i)) _
      unfold f_X2_firstClash_L2
      have h1 : ¬ n ≤ i := by omega
      simp (disch := first | assumption | omega) only [↓pz_n1, pz_mm, pz_mm', ↓pz_lt1, ↓pz_bd, ↓pz_bd2, ↓pz_tn, ↓pz_ts, pz_0, pz_1, pz_2, pz_3, pz_4, pz_12, pz_13, pz_15, pz_16, pz_20, pz_23, pz_24, pz_200, ↓pz_rd, ↓pz_wr, pz_add, pz_mul, pz_sub, pz_le, pz_lt, pz_eq, pz_max, pz_min, pz_cl, pz_and, pz_or, pz_shl, pz_clr, pz_bit, pz_ff, pz_tt, pz_5, pz_6, pz_7, pz_10000, pz_sb, pz_b0, pz_b1, c.n, h1]
      refine wp_b (P := fun r => (r = .inl () ∧ ∀ b', i < b' → b' < n → ¬ P i b') ∨ ∃ b, r = .inr (ck i b) ∧ FC n P i b) ?_ ?_
      · refine wp_l (fun j (v : Int32) => v = nI (i + 1 + j) ∧ ∀ b', i < b' → b' < i + 1 + j → ¬ P i b') (n - (i + 1)) (fu_lt (by omega)) ?_ ?_ ⟨rfl, fun b' h => by omega⟩
        · rintro j v hj ⟨rfl, hP2⟩
          show Wp (f_X2_firstClash_L14 k0 M (nI i) (nI (i + 1 + j))) _
          unfold f_X2_firstClash_L14
          have h2 : ¬ n ≤ i + 1 + j := by omega
          simp (disch := first | assumption | omega) only [↓pz_n1, pz_mm, pz_mm', ↓pz_lt1, ↓pz_bd, ↓pz_bd2, ↓pz_tn, ↓pz_ts, pz_0, pz_1, pz_2, pz_3, pz_4, pz_12, pz_13, pz_15, pz_16, pz_20, pz_23, pz_24, pz_200, ↓pz_rd, ↓pz_wr, pz_add, pz_mul, pz_sub, pz_le, pz_lt, pz_eq, pz_max, pz_min, pz_cl, pz_and, pz_or, pz_shl, pz_clr, pz_bit, pz_ff, pz_tt, pz_5, pz_6, pz_7, pz_10000, pz_sb, pz_b0, pz_b1, c.n, h2]
          by_cases hp : P i (i + 1 + j)
          · rw [(hd i (i + 1 + j) hi (by omega)).1 hp]
            simp (disch := first | assumption | omega) only [↓pz_n1, pz_mm, pz_mm', ↓pz_lt1, ↓pz_bd, ↓pz_bd2, ↓pz_tn, ↓pz_ts, pz_0, pz_1, pz_2, pz_3, pz_4, pz_12, pz_13, pz_15, pz_16, pz_20, pz_23, pz_24, pz_200, ↓pz_rd, ↓pz_wr, pz_add, pz_mul, pz_sub, pz_le, pz_lt, pz_eq, pz_max, pz_min, pz_cl, pz_and, pz_or, pz_shl, pz_clr, pz_bit, pz_ff, pz_tt, pz_5, pz_6, pz_7, pz_10000, pz_sb, pz_b0, pz_b1]
            refine wp_s (Or.inr ⟨_, rfl, Or.inr ⟨i + 1 + j, rfl, by omega, by omega, hp, fun a' b' h1 h2 h3 => ?_⟩⟩)
            rcases h3 with h3 | ⟨h3, h4⟩
            · exact hP a' b' h3 h1 h2
            · subst h3; exact hP2 b' (by assumption) h4
          · rw [(hd i (i + 1 + j) hi (by omega)).2 hp]
            simp (disch := first | assumption | omega) only [↓pz_n1, pz_mm, pz_mm', ↓pz_lt1, ↓pz_bd, ↓pz_bd2, ↓pz_tn, ↓pz_ts, pz_0, pz_1, pz_2, pz_3, pz_4, pz_12, pz_13, pz_15, pz_16, pz_20, pz_23, pz_24, pz_200, ↓pz_rd, ↓pz_wr, pz_add, pz_mul, pz_sub, pz_le, pz_lt, pz_eq, pz_max, pz_min, pz_cl, pz_and, pz_or, pz_shl, pz_clr, pz_bit, pz_ff, pz_tt, pz_5, pz_6, pz_7, pz_10000, pz_sb, pz_b0, pz_b1]
            refine wp_s (Or.inl ⟨_, rfl, rfl, fun b' h1 h2 => ?_⟩)
            by_cases e : b' = i + 1 + j
            · rw [e]; exact hp
            · exact hP2 b' h1 (by omega)
        · rintro v ⟨rfl, hP2⟩
          show Wp (f_X2_firstClash_L14 k0 M (nI i) (nI (i + 1 + (n - (i + 1))))) _
          unfold f_X2_firstClash_L14
          have h2 : n ≤ i + 1 + (n - (i + 1)) := by omega
          simp (disch := first | assumption | omega) only [↓pz_n1, pz_mm, pz_mm', ↓pz_lt1, ↓pz_bd, ↓pz_bd2, ↓pz_tn, ↓pz_ts, pz_0, pz_1, pz_2, pz_3, pz_4, pz_12, pz_13, pz_15, pz_16, pz_20, pz_23, pz_24, pz_200, ↓pz_rd, ↓pz_wr, pz_add, pz_mul, pz_sub, pz_le, pz_lt, pz_eq, pz_max, pz_min, pz_cl, pz_and, pz_or, pz_shl, pz_clr, pz_bit, pz_ff, pz_tt, pz_5, pz_6, pz_7, pz_10000, pz_sb, pz_b0, pz_b1, c.n, h2]
          exact wp_s ⟨_, rfl, Or.inl ⟨rfl, fun b' h1 h2 => hP2 b' h1 (by omega)⟩⟩
      · rintro r (⟨rfl, hr⟩ | ⟨b, rfl, hr⟩)
        · show Wp (f_X2_firstClash_A14 (nI i)) _
          unfold f_X2_firstClash_A14
          simp (disch := first | assumption | omega) only [↓pz_n1, pz_mm, pz_mm', ↓pz_lt1, ↓pz_bd, ↓pz_bd2, ↓pz_tn, ↓pz_ts, pz_0, pz_1, pz_2, pz_3, pz_4, pz_12, pz_13, pz_15, pz_16, pz_20, pz_23, pz_24, pz_200, ↓pz_rd, ↓pz_wr, pz_add, pz_mul, pz_sub, pz_le, pz_lt, pz_eq, pz_max, pz_min, pz_cl, pz_and, pz_or, pz_shl, pz_clr, pz_bit, pz_ff, pz_tt, pz_5, pz_6, pz_7, pz_10000, pz_sb, pz_b0, pz_b1]
          refine wp_s (Or.inl ⟨_, rfl, rfl, fun a' b' h1 h2 h3 => ?_⟩)
          by_cases e : a' = i
          · subst e; exact hr b' h2 h3
          · exact hP a' b' (by omega) h2 h3
        · exact wp_s (Or.inr ⟨_, rfl, Or.inr ⟨i, b, rfl, hr⟩⟩)
    · rintro v ⟨rfl, hP⟩
      show Wp (f_X2_firstClash_L2 k0 M (nI n)) _
      unfold f_X2_firstClash_L2
      have h1 : n ≤ n := Nat.le_refl _
      simp (disch := first | assumption | omega) only [↓pz_n1, pz_mm, pz_mm', ↓pz_lt1, ↓pz_bd, ↓pz_bd2, ↓pz_tn, ↓pz_ts, pz_0, pz_1, pz_2, pz_3, pz_4, pz_12, pz_13, pz_15, pz_16, pz_20, pz_23, pz_24, pz_200, ↓pz_rd, ↓pz_wr, pz_add, pz_mul, pz_sub, pz_le, pz_lt, pz_eq, pz_max, pz_min, pz_cl, pz_and, pz_or, pz_shl, pz_clr, pz_bit, pz_ff, pz_tt, pz_5, pz_6, pz_7, pz_10000, pz_sb, pz_b0, pz_b1, c.n, h1]
      exact wp_s ⟨_, rfl, Or.inl ⟨rfl, fun a b h1 h2 => hP a b (by omega) h1 h2⟩⟩
  · rintro r (⟨rfl, hr⟩ | ⟨a, b, rfl, hr⟩)
    · exact wp_s (Or.inl ⟨pz_n1, hr⟩)
    · exact wp_s (Or.inr ⟨a, b, rfl, hr⟩)
/-- the reference's scratch cells alone are written -/
def Scr (M M' : Mm) : Prop := (∀ k, k ≠ 69 → k ≤ 80 ∨ 105 ≤ k → M'.1 k = M.1 k) ∧ (M'.1 69 1 = M.1 69 1 ∧ M'.1 69 6 = M.1 69 6 ∧ M'.1 69 7 = M.1 69 7 ∧ M'.1 69 8 = M.1 69 8 ∧ M'.1 69 41 = M.1 69 41) ∧ ∀ k, k ≤ 80 ∨ 105 ≤ k → M'.2 k = M.2 k
theorem Scr.rf {M : Mm} : Scr M M := ⟨fun _ _ _ => rfl, ⟨rfl, rfl, rfl, rfl, rfl⟩, fun _ _ => rfl⟩
theorem Scr.tr {M M' M'' : Mm} (h : Scr M M') (h2 : Scr M' M'') : Scr M M'' := by
  obtain ⟨a, ⟨b1, b2, b3, b4, b5⟩, c⟩ := h
  obtain ⟨d, ⟨e1, e2, e3, e4, e5⟩, f⟩ := h2
  exact ⟨fun k h1 h2 => (d k h1 h2).trans (a k h1 h2), ⟨e1.trans b1, e2.trans b2, e3.trans b3, e4.trans b4, e5.trans b5⟩, fun k hk => (f k hk).trans (c k hk)⟩
theorem Scr.w {M M' : Mm} (h : Scr M M') {i : Nat} {v : Int32} (hi : i ≠ 1 ∧ i ≠ 6 ∧ i ≠ 7 ∧ i ≠ 8 ∧ i ≠ 41) : Scr M (wi M' 69 i v) := by
  refine h.tr ⟨fun k h1 _ => wi_n _ _ _ h1, ⟨?_, ?_, ?_, ?_, ?_⟩, fun _ _ => rfl⟩
  all_goals (rw [wi_at, if_neg (by omega)])
theorem Scr.a {M M' : Mm} (h : Scr M M') {k i : Nat} {v : Int32} (hk : 81 ≤ k ∧ k ≤ 104) : Scr M (wi M' k i v) := by
  have e : (wi M' k i v).1 69 = M'.1 69 := wi_n _ _ _ (by omega)
  refine h.tr ⟨fun j _ h2 => wi_n _ _ _ (by omega), ⟨?_, ?_, ?_, ?_, ?_⟩, fun _ _ => rfl⟩
  all_goals rw [e]
theorem Scr.fr {M M' : Mm} (h : Scr M M') : Fr SR M M' := ⟨fun k hk => h.1 k (fun e => hk (by rw [e]; exact ⟨by decide, by decide⟩)) (by unfold SR at hk; omega), fun k hk => h.2.2 k (by unfold SR at hk; omega)⟩
theorem Scr.fw {M M' : Mm} (h : Scr M M') : Fr SRw M M' := ⟨fun k hk => h.1 k (fun e => hk (Or.inl e)) (by unfold SRw at hk; omega), fun k hk => h.2.2 k (by unfold SRw at hk; omega)⟩
theorem RI.scr {M M' : Mm} {A : Abs} (hR : RI M A) (h : Scr M M') : RI M' A := by
  obtain ⟨a, ⟨b1, b6, b7, b8, b41⟩, c⟩ := h
  have e : ∀ k, 70 ≤ k → k ≤ 80 → M'.1 k = M.1 k := fun k h1 h2 => a k (by omega) (Or.inl h2)
  refine ⟨b6.trans hR.kd, b41.trans hR.s, b1.trans hR.n, hR.w.eq (e _ (by omega) (by omega)), hR.h.eq (e _ (by omega) (by omega)), hR.tb.eq (e _ (by omega) (by omega)), hR.nt.eq (e _ (by omega) (by omega)), fun hk => ?_, fun hk => ?_, fun hk => ?_, fun hk => ?_⟩
  · exact ⟨b7.trans (hR.gd hk).1, (hR.gd hk).2.1.eq (e _ (by omega) (by omega)), (hR.gd hk).2.2.eq (e _ (by omega) (by omega))⟩
  · exact ⟨(hR.k1 hk).1.eq (e _ (by omega) (by omega)), (hR.k1 hk).2.eq (e _ (by omega) (by omega))⟩
  · exact (hR.k2 hk).eq (e _ (by omega) (by omega))
  · rw [e 79 (by omega) (by omega), e 80 (by omega) (by omega)]
    exact ⟨b8.trans (hR.k3 hk).1, (hR.k3 hk).2⟩
theorem RG.scr {M M' : Mm} {n td : Nat} {w h x y : Nat → Nat} (r : RG M n td w h x y) (hs : Scr M M') : RG M' n td w h x y := by
  obtain ⟨a, ⟨b1, b6, b7, b8, b41⟩, c⟩ := hs
  have e : ∀ k, 70 ≤ k → k ≤ 80 → M'.1 k = M.1 k := fun k h1 h2 => a k (by omega) (Or.inl h2)
  exact ⟨b1.trans r.n, b7.trans r.td, r.w.eq (e _ (by omega) (by omega)), r.h.eq (e _ (by omega) (by omega)), r.x.eq (e _ (by omega) (by omega)), r.y.eq (e _ (by omega) (by omega))⟩
def FoundC (n : Nat) (P : Nat → Nat → Prop) (M : Mm) : Prop := ∃ a b, M.1 69 35 = nI a ∧ M.1 69 36 = nI b ∧ FC n P a b
theorem rcs_ok {M : Mm} {n td : Nat} {w h x y : Nat → Nat} (g : GB n td w h x y) (c : RG M n td w h x y) : Wp (f_X10_clashes M) (fun r => Scr M r.2 ∧ r.2.1 69 0 = M.1 69 0 ∧ ((r.1 = nI 0 ∧ r.2.1 69 35 = m1 ∧ r.2.1 69 36 = m1 ∧ NC n (Cl x y (swd w h td) (swd h w td))) ∨ (r.1 = nI 1 ∧ FoundC n (Cl x y (swd w h td) (swd h w td)) r.2))) := by
  have hn := g.n
  have hd := fun M1 (hs : Scr M M1) a b (ha : a < n) (hb : b < n) => rc_ok g (c.scr hs) ha hb
  generalize Cl x y (swd w h td) (swd h w td) = P at hd
  unfold f_X10_clashes f_X10_clashes_A12
  simp (disch := first | assumption | omega) only [↓pz_n1, pz_mm, pz_mm', ↓pz_lt1, ↓pz_bd, ↓pz_bd2, ↓pz_tn, ↓pz_ts, pz_0, pz_1, pz_2, pz_3, pz_4, pz_12, pz_13, pz_15, pz_16, pz_20, pz_23, pz_24, pz_200, ↓pz_rd, ↓pz_wr, pz_add, pz_mul, pz_sub, pz_le, pz_lt, pz_eq, pz_max, pz_min, pz_cl, pz_and, pz_or, pz_shl, pz_clr, pz_bit, pz_ff, pz_tt, pz_5, pz_6, pz_7, pz_10000, pz_sb, pz_b0, pz_b1]
  have s0 : Scr M (wi (wi M 69 35 m1) 69 36 m1) := (Scr.rf.w (by omega)).w (by omega)
  refine wp_b (wp_for (step := fun v => f_X10_clashes_L12 v.1 v.2) (fun i M1 => Scr M M1 ∧ M1.1 69 0 = M.1 69 0 ∧ ((M1.1 69 35 = m1 ∧ M1.1 69 36 = m1 ∧ ∀ a' b', a' < i → a' < b' → b' < n → ¬ P a' b') ∨ FoundC n P M1)) n (by omega) ?_ ?_ ⟨s0, rfl, Or.inl ⟨rfl, rfl, fun a' b' h => by omega⟩⟩) ?_
  · rintro i M1 hi ⟨hs, h0, hr⟩
    show Wp (f_X10_clashes_L12 (nI i) M1) _
    unfold f_X10_clashes_L12
    have h1 : ¬ n ≤ i := by omega
    simp (disch := first | assumption | omega) only [↓pz_n1, pz_mm, pz_mm', ↓pz_lt1, ↓pz_bd, ↓pz_bd2, ↓pz_tn, ↓pz_ts, pz_0, pz_1, pz_2, pz_3, pz_4, pz_12, pz_13, pz_15, pz_16, pz_20, pz_23, pz_24, pz_200, ↓pz_rd, ↓pz_wr, pz_add, pz_mul, pz_sub, pz_le, pz_lt, pz_eq, pz_max, pz_min, pz_cl, pz_and, pz_or, pz_shl, pz_clr, pz_bit, pz_ff, pz_tt, pz_5, pz_6, pz_7, pz_10000, pz_sb, pz_b0, pz_b1, (c.scr hs).n, h1]
    refine wp_b (P := fun M2 => Scr M M2 ∧ M2.1 69 0 = M.1 69 0 ∧ ((M2.1 69 35 = m1 ∧ M2.1 69 36 = m1 ∧ ∀ a' b', a' < i + 1 → a' < b' → b' < n → ¬ P a' b') ∨ FoundC n P M2)) ?_ ?_
    · refine wp_l (fun j (v : Int32 × Mm) => v.1 = nI (i + 1 + j) ∧ Scr M v.2 ∧ v.2.1 69 0 = M.1 69 0 ∧ ((v.2.1 69 35 = m1 ∧ v.2.1 69 36 = m1 ∧ ∀ a' b', a' < i ∨ a' = i ∧ b' < i + 1 + j → a' < b' → b' < n → ¬ P a' b') ∨ FoundC n P v.2)) (n - (i + 1)) (fu_lt (by omega)) ?_ ?_ ⟨rfl, hs, h0, ?_⟩
      · rintro j ⟨v, M2⟩ hj ⟨hv, hs2, h02, hr2⟩
        have hv : v = nI (i + 1 + j) := hv
        subst hv
        have hs2 : Scr M M2 := hs2
        have h02 : M2.1 69 0 = M.1 69 0 := h02
        show Wp (f_X10_clashes_L24 (nI i) (nI (i + 1 + j)) M2) _
        unfold f_X10_clashes_L24 f_X10_clashes_J62
        have h2 : ¬ n ≤ i + 1 + j := by omega
        simp (disch := first | assumption | omega) only [↓pz_n1, pz_mm, pz_mm', ↓pz_lt1, ↓pz_bd, ↓pz_bd2, ↓pz_tn, ↓pz_ts, pz_0, pz_1, pz_2, pz_3, pz_4, pz_12, pz_13, pz_15, pz_16, pz_20, pz_23, pz_24, pz_200, ↓pz_rd, ↓pz_wr, pz_add, pz_mul, pz_sub, pz_le, pz_lt, pz_eq, pz_max, pz_min, pz_cl, pz_and, pz_or, pz_shl, pz_clr, pz_bit, pz_ff, pz_tt, pz_5, pz_6, pz_7, pz_10000, pz_sb, pz_b0, pz_b1, (c.scr hs2).n, h2]
        rcases hr2 with ⟨q1, q2, q3⟩ | ⟨a, b, q1, q2, q3⟩
        · have q1 : M2.1 69 35 = m1 := q1
          have q2 : M2.1 69 36 = m1 := q2
          simp (disch := first | assumption | omega) only [↓pz_n1, pz_mm, pz_mm', ↓pz_lt1, ↓pz_bd, ↓pz_bd2, ↓pz_tn, ↓pz_ts, pz_0, pz_1, pz_2, pz_3, pz_4, pz_12, pz_13, pz_15, pz_16, pz_20, pz_23, pz_24, pz_200, ↓pz_rd, ↓pz_wr, pz_add, pz_mul, pz_sub, pz_le, pz_lt, pz_eq, pz_max, pz_min, pz_cl, pz_and, pz_or, pz_shl, pz_clr, pz_bit, pz_ff, pz_tt, pz_5, pz_6, pz_7, pz_10000, pz_sb, pz_b0, pz_b1, q1]
          by_cases hp : P i (i + 1 + j)
          · rw [(hd M2 hs2 i (i + 1 + j) hi (by omega)).1 hp]
            simp (disch := first | assumption | omega) only [↓pz_n1, pz_mm, pz_mm', ↓pz_lt1, ↓pz_bd, ↓pz_bd2, ↓pz_tn, ↓pz_ts, pz_0, pz_1, pz_2, pz_3, pz_4, pz_12, pz_13, pz_15, pz_16, pz_20, pz_23, pz_24, pz_200, ↓pz_rd, ↓pz_wr, pz_add, pz_mul, pz_sub, pz_le, pz_lt, pz_eq, pz_max, pz_min, pz_cl, pz_and, pz_or, pz_shl, pz_clr, pz_bit, pz_ff, pz_tt, pz_5, pz_6, pz_7, pz_10000, pz_sb, pz_b0, pz_b1]
            refine wp_s (Or.inl ⟨_, rfl, rfl, (hs2.w (by omega)).w (by omega), h02, Or.inr ⟨i, i + 1 + j, rfl, rfl, by omega, by omega, hp, fun a' b' h1 h2 h3 => q3 a' b' h3 h1 h2⟩⟩)
          · rw [(hd M2 hs2 i (i + 1 + j) hi (by omega)).2 hp]
            simp (disch := first | assumption | omega) only [↓pz_n1, pz_mm, pz_mm', ↓pz_lt1, ↓pz_bd, ↓pz_bd2, ↓pz_tn, ↓pz_ts, pz_0, pz_1, pz_2, pz_3, pz_4, pz_12, pz_13, pz_15, pz_16, pz_20, pz_23, pz_24, pz_200, ↓pz_rd, ↓pz_wr, pz_add, pz_mul, pz_sub, pz_le, pz_lt, pz_eq, pz_max, pz_min, pz_cl, pz_and, pz_or, pz_shl, pz_clr, pz_bit, pz_ff, pz_tt, pz_5, pz_6, pz_7, pz_10000, pz_sb, pz_b0, pz_b1]
            refine wp_s (Or.inl ⟨_, rfl, rfl, hs2, h02, Or.inl ⟨q1, q2, fun a' b' h1 h2 h3 => ?_⟩⟩)
            by_cases e : a' = i ∧ b' = i + 1 + j
            · rw [e.1, e.2]; exact hp
            · exact q3 a' b' (by omega) h2 h3
        · have q1 : M2.1 69 35 = nI a := q1
          have h3 := q3.1
          have h4 := q3.2.1
          simp (disch := first | assumption | omega) only [↓pz_n1, pz_mm, pz_mm', ↓pz_lt1, ↓pz_bd, ↓pz_bd2, ↓pz_tn, ↓pz_ts, pz_0, pz_1, pz_2, pz_3, pz_4, pz_12, pz_13, pz_15, pz_16, pz_20, pz_23, pz_24, pz_200, ↓pz_rd, ↓pz_wr, pz_add, pz_mul, pz_sub, pz_le, pz_lt, pz_eq, pz_max, pz_min, pz_cl, pz_and, pz_or, pz_shl, pz_clr, pz_bit, pz_ff, pz_tt, pz_5, pz_6, pz_7, pz_10000, pz_sb, pz_b0, pz_b1, q1]
          exact wp_s (Or.inl ⟨_, rfl, rfl, hs2, h02, Or.inr ⟨a, b, q1, q2, q3⟩⟩)
      · rintro ⟨v, M2⟩ ⟨hv, hs2, h02, hr2⟩
        have hv : v = nI (i + 1 + (n - (i + 1))) := hv
        subst hv
        have hs2 : Scr M M2 := hs2
        show Wp (f_X10_clashes_L24 (nI i) (nI (i + 1 + (n - (i + 1)))) M2) _
        unfold f_X10_clashes_L24
        have h2 : n ≤ i + 1 + (n - (i + 1)) := by omega
        simp (disch := first | assumption | omega) only [↓pz_n1, pz_mm, pz_mm', ↓pz_lt1, ↓pz_bd, ↓pz_bd2, ↓pz_tn, ↓pz_ts, pz_0, pz_1, pz_2, pz_3, pz_4, pz_12, pz_13, pz_15, pz_16, pz_20, pz_23, pz_24, pz_200, ↓pz_rd, ↓pz_wr, pz_add, pz_mul, pz_sub, pz_le, pz_lt, pz_eq, pz_max, pz_min, pz_cl, pz_and, pz_or, pz_shl, pz_clr, pz_bit, pz_ff, pz_tt, pz_5, pz_6, pz_7, pz_10000, pz_sb, pz_b0, pz_b1, (c.scr hs2).n, h2]
        refine wp_s ⟨_, rfl, hs2, h02, ?_⟩
        rcases hr2 with ⟨q1, q2, q3⟩ | q
        · exact Or.inl ⟨q1, q2, fun a' b' h1 h2 h3 => q3 a' b' (by omega) h2 h3⟩
        · exact Or.inr q
      · rcases hr with ⟨q1, q2, q3⟩ | q
        · exact Or.inl ⟨q1, q2, fun a' b' h1 h2 h3 => q3 a' b' (by omega) h2 h3⟩
        · exact Or.inr q
    · rintro M2 ⟨hs2, h02, hr2⟩
      unfold f_X10_clashes_A24
      simp (disch := first | assumption | omega) only [↓pz_n1, pz_mm, pz_mm', ↓pz_lt1, ↓pz_bd, ↓pz_bd2, ↓pz_tn, ↓pz_ts, pz_0, pz_1, pz_2, pz_3, pz_4, pz_12, pz_13, pz_15, pz_16, pz_20, pz_23, pz_24, pz_200, ↓pz_rd, ↓pz_wr, pz_add, pz_mul, pz_sub, pz_le, pz_lt, pz_eq, pz_max, pz_min, pz_cl, pz_and, pz_or, pz_shl, pz_clr, pz_bit, pz_ff, pz_tt, pz_5, pz_6, pz_7, pz_10000, pz_sb, pz_b0, pz_b1]
      exact wp_s ⟨_, rfl, hs2, h02, hr2⟩
  · rintro M1 ⟨hs, h0, hr⟩
    show f_X10_clashes_L12 (nI n) M1 = _
    unfold f_X10_clashes_L12
    have h1 : n ≤ n := Nat.le_refl _
    simp (disch := first | assumption | omega) only [↓pz_n1, pz_mm, pz_mm', ↓pz_lt1, ↓pz_bd, ↓pz_bd2, ↓pz_tn, ↓pz_ts, pz_0, pz_1, pz_2, pz_3, pz_4, pz_12, pz_13, pz_15, pz_16, pz_20, pz_23, pz_24, pz_200, ↓pz_rd, ↓pz_wr, pz_add, pz_mul, pz_sub, pz_le, pz_lt, pz_eq, pz_max, pz_min, pz_cl, pz_and, pz_or, pz_shl, pz_clr, pz_bit, pz_ff, pz_tt, pz_5, pz_6, pz_7, pz_10000, pz_sb, pz_b0, pz_b1, (c.scr hs).n, h1]
  · rintro M1 ⟨hs, h0, hr⟩
    rcases hr with ⟨q1, q2, q3⟩ | ⟨a, b, q1, q2, q3⟩
    · simp (disch := first | assumption | omega) only [↓pz_n1, pz_mm, pz_mm', ↓pz_lt1, ↓pz_bd, ↓pz_bd2, ↓pz_tn, ↓pz_ts, pz_0, pz_1, pz_2, pz_3, pz_4, pz_12, pz_13, pz_15, pz_16, pz_20, pz_23, pz_24, pz_200, ↓pz_rd, ↓pz_wr, pz_add, pz_mul, pz_sub, pz_le, pz_lt, pz_eq, pz_max, pz_min, pz_cl, pz_and, pz_or, pz_shl, pz_clr, pz_bit, pz_ff, pz_tt, pz_5, pz_6, pz_7, pz_10000, pz_sb, pz_b0, pz_b1, q1]
      exact wp_s ⟨hs, h0, Or.inl ⟨rfl, q1, q2, fun a b h1 h2 => q3 a b (by omega) h1 h2⟩⟩
    · have h3 := q3.1
      have h4 := q3.2.1
      simp (disch := first | assumption | omega) only [↓pz_n1, pz_mm, pz_mm', ↓pz_lt1, ↓pz_bd, ↓pz_bd2, ↓pz_tn, ↓pz_ts, pz_0, pz_1, pz_2, pz_3, pz_4, pz_12, pz_13, pz_15, pz_16, pz_20, pz_23, pz_24, pz_200, ↓pz_rd, ↓pz_wr, pz_add, pz_mul, pz_sub, pz_le, pz_lt, pz_eq, pz_max, pz_min, pz_cl, pz_and, pz_or, pz_shl, pz_clr, pz_bit, pz_ff, pz_tt, pz_5, pz_6, pz_7, pz_10000, pz_sb, pz_b0, pz_b1, q1]
      exact wp_s ⟨hs, h0, Or.inr ⟨rfl, a, b, q1, q2, q3⟩⟩
theorem sub3 (a : Int32) (b c : Nat) : a - nI b - nI c = a - nI (b + c) := by
  rw [← pz_add]
  apply Int32.toBitVec_inj.mp
  simp only [Int32.toBitVec_sub, Int32.toBitVec_add]
  generalize a.toBitVec = x
  generalize (nI b).toBitVec = y
  generalize (nI c).toBitVec = z
  rw [BitVec.sub_eq_add_neg, BitVec.sub_eq_add_neg, BitVec.sub_eq_add_neg, BitVec.neg_add, BitVec.sub_eq_add_neg, BitVec.add_assoc]
theorem arm_9 {F : Abs → Nat → Mm → Prop} (hF : FOK F) {xs : Nat → Int32} {L n : Nat} {M : Mm} (hL : L ≤ 3584) (hn : n + 7 ≤ L) (hI : Inv F M) : Nx F n (f_arm_9 xs L (nI n) M) := by
  obtain ⟨A, hA, hC, hR⟩ := hI
  have hn12 := hA.n
  unfold f_arm_9
  simp (disch := first | assumption | omega) only [↓pz_n1, pz_mm, pz_mm', ↓pz_lt1, ↓pz_bd, ↓pz_bd2, ↓pz_tn, ↓pz_ts, pz_0, pz_1, pz_2, pz_3, pz_4, pz_12, pz_13, pz_15, pz_16, pz_20, pz_23, pz_24, pz_200, ↓pz_rd, ↓pz_wr, pz_add, pz_mul, pz_sub, pz_le, pz_lt, pz_eq, pz_max, pz_min, pz_cl, pz_and, pz_or, pz_shl, pz_clr, pz_bit, pz_ff, pz_tt, pz_5, pz_6, pz_7, pz_10000, pz_sb, pz_b0, pz_b1, pz_rdX]
  generalize xs (n + 1) = c
  have key : ∃ o, f_X9_about c M = some o ∧ ∀ M1, RI M1 A → RQr M1 A o (f_X10_about c M1) := by
    unfold f_X9_about
    have ek : ∀ M1, RI M1 A → (wi M1 69 0 (nI 0)).1 69 6 = A.kd := fun M1 h => h.kd
    by_cases hk : A.kd = -1
    · rw [nl_n (hC.kd.trans hk)]
      simp (disch := first | assumption | omega) only [↓pz_n1, pz_mm, pz_mm', ↓pz_lt1, ↓pz_bd, ↓pz_bd2, ↓pz_tn, ↓pz_ts, pz_0, pz_1, pz_2, pz_3, pz_4, pz_12, pz_13, pz_15, pz_16, pz_20, pz_23, pz_24, pz_200, ↓pz_rd, ↓pz_wr, pz_add, pz_mul, pz_sub, pz_le, pz_lt, pz_eq, pz_max, pz_min, pz_cl, pz_and, pz_or, pz_shl, pz_clr, pz_bit, pz_ff, pz_tt, pz_5, pz_6, pz_7, pz_10000, pz_sb, pz_b0, pz_b1]
      refine ⟨_, rfl, fun M1 h => ?_⟩
      have : (wi M1 69 0 (nI 0)).1 69 6 = m1 := (ek M1 h).trans hk
      unfold f_X10_about f_X10_about_J23 f_X10_fail
      rw [pz_0]
      simp (disch := first | assumption | omega) only [↓pz_n1, pz_mm, pz_mm', ↓pz_lt1, ↓pz_bd, ↓pz_bd2, ↓pz_tn, ↓pz_ts, pz_0, pz_1, pz_2, pz_3, pz_4, pz_12, pz_13, pz_15, pz_16, pz_20, pz_23, pz_24, pz_200, ↓pz_rd, ↓pz_wr, pz_add, pz_mul, pz_sub, pz_le, pz_lt, pz_eq, pz_max, pz_min, pz_cl, pz_and, pz_or, pz_shl, pz_clr, pz_bit, pz_ff, pz_tt, pz_5, pz_6, pz_7, pz_10000, pz_sb, pz_b0, pz_b1, this]
      exact rq_fail h _
    · have hk' : ¬ A.kd = m1 := hk
      rw [nl_y (by rw [hC.kd]; exact hk)]
      have g := hA.gb hk
      have cg := hC.cg hk
      obtain ⟨fr, fe, fh⟩ := fc_ok g cg
      have wide : f_X2_wide 5 M = some (nI (rch A.x (swd A.w A.h A.td) A.n)) := by
        unfold f_X2_wide
        rw [reach_ok cg.n hn12 cg.x cg.w g.x (fun b hb => g.sw hb)]; rfl
      have high : f_X2_high 5 M = some (nI (rch A.y (swd A.h A.w A.td) A.n)) := by
        unfold f_X2_high
        rw [reach_ok cg.n hn12 cg.y cg.h g.y (fun b hb => g.sh hb)]; rfl
      have area : f_X2_area 5 M = _ := area_ok cg.n hn12 cg.x cg.w cg.y cg.h g.x (fun b hb => g.sw hb) g.y (fun b hb => g.sh hb)
      have bare : f_X0_area M = _ := barea_ok hC.n hn12 hC.w hC.h
      have ref : ∀ M1, RI M1 A → ∃ r M2, Scr M1 M2 ∧ M2.1 69 0 = nI 0 ∧ RG M2 A.n A.td A.w A.h A.x A.y ∧ f_X10_allWide (wi M1 69 0 (nI 0)) = some (nI (rch A.x (swd A.w A.h A.td) A.n)) ∧ f_X10_allHigh (wi M1 69 0 (nI 0)) = some (nI (rch A.y (swd A.h A.w A.td) A.n)) ∧ f_X10_clashes (wi M1 69 0 (nI 0)) = some (r, M2) ∧ ((fr = m1 ∧ r = nI 0 ∧ M2.1 69 35 = m1 ∧ M2.1 69 36 = m1) ∨ ∃ a b, a < 12 ∧ b < 12 ∧ fr = ck a b ∧ r = nI 1 ∧ M2.1 69 35 = nI a ∧ M2.1 69 36 = nI b) := by
        intro M1 h
        have s1 : Scr M1 (wi M1 69 0 (nI 0)) := Scr.rf.w (by omega)
        have r1 := (h.rg hk).scr s1
        obtain ⟨⟨r, M2⟩, e, s2, z2, h2⟩ := rcs_ok g r1
        refine ⟨r, M2, s1.tr s2, z2.trans rfl, r1.scr s2, raw_ok g r1, rah_ok g r1, e, ?_⟩
        rcases fh with ⟨f1, f2⟩ | ⟨a, b, f1, f2⟩
        · rcases h2 with ⟨b1, b2, b3, b4⟩ | ⟨b1, a', b', b2, b3, b4⟩
          · exact Or.inl ⟨f1, b1, b2, b3⟩
          · exact (b4.nc f2).elim
        · rcases h2 with ⟨b1, b2, b3, b4⟩ | ⟨b1, a', b', b2, b3, b4⟩
          · exact (f2.nc b4).elim
          · obtain ⟨rfl, rfl⟩ := f2.un b4
            exact Or.inr ⟨a, b, by have := f2.1; have := f2.2.1; omega, by have := f2.2.1; omega, f1, b1, b2, b3⟩
      have fin : ∀ M1 M2 : Mm, RI M1 A → Scr M1 M2 → M2.1 69 0 = nI 0 → ∀ v : Int32, RQr M1 A (some v) (some (v, M2)) := fun M1 M2 h s z v => wp_s ⟨h.scr s, s.fr, Or.inr ⟨v, rfl, z, rfl⟩⟩
      rcases sw_of c (k := 7) (by omega) with ⟨j, hj, rfl⟩ | ⟨hc1, hc2⟩
      · rcases (by omega : j = 0 ∨ j = 1 ∨ j = 2 ∨ j = 3 ∨ j = 4 ∨ j = 5 ∨ j = 6 ∨ j = 7) with rfl | rfl | rfl | rfl | rfl | rfl | rfl | rfl
        · simp (disch := first | assumption | omega) only [↓pz_n1, pz_mm, pz_mm', ↓pz_lt1, ↓pz_bd, ↓pz_bd2, ↓pz_tn, ↓pz_ts, pz_0, pz_1, pz_2, pz_3, pz_4, pz_12, pz_13, pz_15, pz_16, pz_20, pz_23, pz_24, pz_200, ↓pz_rd, ↓pz_wr, pz_add, pz_mul, pz_sub, pz_le, pz_lt, pz_eq, pz_max, pz_min, pz_cl, pz_and, pz_or, pz_shl, pz_clr, pz_bit, pz_ff, pz_tt, pz_5, pz_6, pz_7, pz_10000, pz_sb, pz_b0, pz_b1, hC.kd]
          refine ⟨_, rfl, fun M1 h => ?_⟩
          obtain ⟨r, M2, s, z, rg, e1, e2, e3, e4⟩ := ref M1 h
          have k2 : M2.1 69 6 = A.kd := s.2.1.2.1.trans h.kd
          unfold f_X10_about f_X10_about_J23 f_X10_fail
          rw [pz_0]
          simp (disch := first | assumption | omega) only [↓pz_n1, pz_mm, pz_mm', ↓pz_lt1, ↓pz_bd, ↓pz_bd2, ↓pz_tn, ↓pz_ts, pz_0, pz_1, pz_2, pz_3, pz_4, pz_12, pz_13, pz_15, pz_16, pz_20, pz_23, pz_24, pz_200, ↓pz_rd, ↓pz_wr, pz_add, pz_mul, pz_sub, pz_le, pz_lt, pz_eq, pz_max, pz_min, pz_cl, pz_and, pz_or, pz_shl, pz_clr, pz_bit, pz_ff, pz_tt, pz_5, pz_6, pz_7, pz_10000, pz_sb, pz_b0, pz_b1, ek M1 h, hk', ↓bde e1, ↓bde e2, ↓bde2 e3, k2]
          exact fin M1 M2 h s z _
        · simp (disch := first | assumption | omega) only [↓pz_n1, pz_mm, pz_mm', ↓pz_lt1, ↓pz_bd, ↓pz_bd2, ↓pz_tn, ↓pz_ts, pz_0, pz_1, pz_2, pz_3, pz_4, pz_12, pz_13, pz_15, pz_16, pz_20, pz_23, pz_24, pz_200, ↓pz_rd, ↓pz_wr, pz_add, pz_mul, pz_sub, pz_le, pz_lt, pz_eq, pz_max, pz_min, pz_cl, pz_and, pz_or, pz_shl, pz_clr, pz_bit, pz_ff, pz_tt, pz_5, pz_6, pz_7, pz_10000, pz_sb, pz_b0, pz_b1, ↓bde wide]
          refine ⟨_, rfl, fun M1 h => ?_⟩
          obtain ⟨r, M2, s, z, rg, e1, e2, e3, e4⟩ := ref M1 h
          unfold f_X10_about f_X10_about_J23 f_X10_fail
          rw [pz_0]
          simp (disch := first | assumption | omega) only [↓pz_n1, pz_mm, pz_mm', ↓pz_lt1, ↓pz_bd, ↓pz_bd2, ↓pz_tn, ↓pz_ts, pz_0, pz_1, pz_2, pz_3, pz_4, pz_12, pz_13, pz_15, pz_16, pz_20, pz_23, pz_24, pz_200, ↓pz_rd, ↓pz_wr, pz_add, pz_mul, pz_sub, pz_le, pz_lt, pz_eq, pz_max, pz_min, pz_cl, pz_and, pz_or, pz_shl, pz_clr, pz_bit, pz_ff, pz_tt, pz_5, pz_6, pz_7, pz_10000, pz_sb, pz_b0, pz_b1, ek M1 h, hk', ↓bde e1, ↓bde e2, ↓bde2 e3, ↓bde (raw_ok g rg)]
          exact fin M1 M2 h s z _
        · simp (disch := first | assumption | omega) only [↓pz_n1, pz_mm, pz_mm', ↓pz_lt1, ↓pz_bd, ↓pz_bd2, ↓pz_tn, ↓pz_ts, pz_0, pz_1, pz_2, pz_3, pz_4, pz_12, pz_13, pz_15, pz_16, pz_20, pz_23, pz_24, pz_200, ↓pz_rd, ↓pz_wr, pz_add, pz_mul, pz_sub, pz_le, pz_lt, pz_eq, pz_max, pz_min, pz_cl, pz_and, pz_or, pz_shl, pz_clr, pz_bit, pz_ff, pz_tt, pz_5, pz_6, pz_7, pz_10000, pz_sb, pz_b0, pz_b1, ↓bde high]
          refine ⟨_, rfl, fun M1 h => ?_⟩
          obtain ⟨r, M2, s, z, rg, e1, e2, e3, e4⟩ := ref M1 h
          unfold f_X10_about f_X10_about_J23 f_X10_fail
          rw [pz_0]
          simp (disch := first | assumption | omega) only [↓pz_n1, pz_mm, pz_mm', ↓pz_lt1, ↓pz_bd, ↓pz_bd2, ↓pz_tn, ↓pz_ts, pz_0, pz_1, pz_2, pz_3, pz_4, pz_12, pz_13, pz_15, pz_16, pz_20, pz_23, pz_24, pz_200, ↓pz_rd, ↓pz_wr, pz_add, pz_mul, pz_sub, pz_le, pz_lt, pz_eq, pz_max, pz_min, pz_cl, pz_and, pz_or, pz_shl, pz_clr, pz_bit, pz_ff, pz_tt, pz_5, pz_6, pz_7, pz_10000, pz_sb, pz_b0, pz_b1, ek M1 h, hk', ↓bde e1, ↓bde e2, ↓bde2 e3, ↓bde (rah_ok g rg)]
          exact fin M1 M2 h s z _
        · simp (disch := first | assumption | omega) only [↓pz_n1, pz_mm, pz_mm', ↓pz_lt1, ↓pz_bd, ↓pz_bd2, ↓pz_tn, ↓pz_ts, pz_0, pz_1, pz_2, pz_3, pz_4, pz_12, pz_13, pz_15, pz_16, pz_20, pz_23, pz_24, pz_200, ↓pz_rd, ↓pz_wr, pz_add, pz_mul, pz_sub, pz_le, pz_lt, pz_eq, pz_max, pz_min, pz_cl, pz_and, pz_or, pz_shl, pz_clr, pz_bit, pz_ff, pz_tt, pz_5, pz_6, pz_7, pz_10000, pz_sb, pz_b0, pz_b1, ↓bde area]
          refine ⟨_, rfl, fun M1 h => ?_⟩
          obtain ⟨r, M2, s, z, rg, e1, e2, e3, e4⟩ := ref M1 h
          unfold f_X10_about f_X10_about_J23 f_X10_fail
          rw [pz_0]
          simp (disch := first | assumption | omega) only [↓pz_n1, pz_mm, pz_mm', ↓pz_lt1, ↓pz_bd, ↓pz_bd2, ↓pz_tn, ↓pz_ts, pz_0, pz_1, pz_2, pz_3, pz_4, pz_12, pz_13, pz_15, pz_16, pz_20, pz_23, pz_24, pz_200, ↓pz_rd, ↓pz_wr, pz_add, pz_mul, pz_sub, pz_le, pz_lt, pz_eq, pz_max, pz_min, pz_cl, pz_and, pz_or, pz_shl, pz_clr, pz_bit, pz_ff, pz_tt, pz_5, pz_6, pz_7, pz_10000, pz_sb, pz_b0, pz_b1, ek M1 h, hk', ↓bde e1, ↓bde e2, ↓bde2 e3]
          exact fin M1 M2 h s z _
        · rw [area, bare]
          simp only [pz_bd, pz_ts, pz_lt1, pz_0, pz_1, pz_2, pz_3, pz_4]
          rw [if_neg (by decide), if_neg (by decide), if_neg (by decide), if_neg (by decide), if_pos trivial]
          refine ⟨_, rfl, fun M1 h => ?_⟩
          obtain ⟨r, M2, s, z, rg, e1, e2, e3, e4⟩ := ref M1 h
          unfold f_X10_about f_X10_about_J23 f_X10_fail
          rw [pz_0]
          simp (disch := first | assumption | omega) only [↓pz_n1, pz_mm, pz_mm', ↓pz_lt1, ↓pz_bd, ↓pz_bd2, ↓pz_tn, ↓pz_ts, pz_0, pz_1, pz_2, pz_3, pz_4, pz_12, pz_13, pz_15, pz_16, pz_20, pz_23, pz_24, pz_200, ↓pz_rd, ↓pz_wr, pz_add, pz_mul, pz_sub, pz_le, pz_lt, pz_eq, pz_max, pz_min, pz_cl, pz_and, pz_or, pz_shl, pz_clr, pz_bit, pz_ff, pz_tt, pz_5, pz_6, pz_7, pz_10000, pz_sb, pz_b0, pz_b1, ek M1 h, hk', ↓bde e1, ↓bde e2, ↓bde2 e3]
          generalize hG : rch A.x (swd A.w A.h A.td) A.n * rch A.y (swd A.h A.w A.td) A.n = G
          have e5 : loop (fun v => f_X10_about_L111 M2 v.1 v.2) FU (nI G, nI 0) = some (nI G - nI (bar A.w A.h A.n)) := by
            have := lp_n (step := fun v => f_X10_about_L111 M2 v.1 v.2) (fun i => (nI G - nI (bar A.w A.h i), nI i)) A.n (x := nI G - nI (bar A.w A.h A.n)) (fu_lt (by omega)) (fun i hi => ?_) ?_
            · have e : nI G - nI (bar A.w A.h 0) = nI G := by show nI G - nI 0 = nI G; rw [pz_sub (by omega)]; rfl
              rw [e] at this
              exact this
            · show f_X10_about_L111 M2 (nI G - nI (bar A.w A.h i)) (nI i) = _
              unfold f_X10_about_L111
              have h1 : ¬ A.n ≤ i := by omega
              simp (disch := first | assumption | omega) only [↓pz_n1, pz_mm, pz_mm', ↓pz_lt1, ↓pz_bd, ↓pz_bd2, ↓pz_tn, ↓pz_ts, pz_0, pz_1, pz_2, pz_3, pz_4, pz_12, pz_13, pz_15, pz_16, pz_20, pz_23, pz_24, pz_200, ↓pz_rd, ↓pz_wr, pz_add, pz_mul, pz_sub, pz_le, pz_lt, pz_eq, pz_max, pz_min, pz_cl, pz_and, pz_or, pz_shl, pz_clr, pz_bit, pz_ff, pz_tt, pz_5, pz_6, pz_7, pz_10000, pz_sb, pz_b0, pz_b1, rg.n, h1, rg.w i hi, rg.h i hi, sub3]
              rfl
            · show f_X10_about_L111 M2 (nI G - nI (bar A.w A.h A.n)) (nI A.n) = _
              unfold f_X10_about_L111
              have h1 : A.n ≤ A.n := Nat.le_refl _
              simp (disch := first | assumption | omega) only [↓pz_n1, pz_mm, pz_mm', ↓pz_lt1, ↓pz_bd, ↓pz_bd2, ↓pz_tn, ↓pz_ts, pz_0, pz_1, pz_2, pz_3, pz_4, pz_12, pz_13, pz_15, pz_16, pz_20, pz_23, pz_24, pz_200, ↓pz_rd, ↓pz_wr, pz_add, pz_mul, pz_sub, pz_le, pz_lt, pz_eq, pz_max, pz_min, pz_cl, pz_and, pz_or, pz_shl, pz_clr, pz_bit, pz_ff, pz_tt, pz_5, pz_6, pz_7, pz_10000, pz_sb, pz_b0, pz_b1, rg.n, h1]
          rw [e5]
          unfold f_X10_about_A111
          simp (disch := first | assumption | omega) only [↓pz_n1, pz_mm, pz_mm', ↓pz_lt1, ↓pz_bd, ↓pz_bd2, ↓pz_tn, ↓pz_ts, pz_0, pz_1, pz_2, pz_3, pz_4, pz_12, pz_13, pz_15, pz_16, pz_20, pz_23, pz_24, pz_200, ↓pz_rd, ↓pz_wr, pz_add, pz_mul, pz_sub, pz_le, pz_lt, pz_eq, pz_max, pz_min, pz_cl, pz_and, pz_or, pz_shl, pz_clr, pz_bit, pz_ff, pz_tt, pz_5, pz_6, pz_7, pz_10000, pz_sb, pz_b0, pz_b1]
          exact fin M1 M2 h s z _
        · simp (disch := first | assumption | omega) only [↓pz_n1, pz_mm, pz_mm', ↓pz_lt1, ↓pz_bd, ↓pz_bd2, ↓pz_tn, ↓pz_ts, pz_0, pz_1, pz_2, pz_3, pz_4, pz_12, pz_13, pz_15, pz_16, pz_20, pz_23, pz_24, pz_200, ↓pz_rd, ↓pz_wr, pz_add, pz_mul, pz_sub, pz_le, pz_lt, pz_eq, pz_max, pz_min, pz_cl, pz_and, pz_or, pz_shl, pz_clr, pz_bit, pz_ff, pz_tt, pz_5, pz_6, pz_7, pz_10000, pz_sb, pz_b0, pz_b1, ↓bde fe]
          by_cases hf : fr = m1
          · rw [if_pos hf]
            refine ⟨_, rfl, fun M1 h => ?_⟩
            obtain ⟨r, M2, s, z, rg, e1, e2, e3, e4⟩ := ref M1 h
            rcases e4 with ⟨f1, f2, f3, f4⟩ | ⟨a, b, ha, hb, f1, f2, f3, f4⟩
            · unfold f_X10_about f_X10_about_J23 f_X10_fail
              rw [pz_0]
              simp (disch := first | assumption | omega) only [↓pz_n1, pz_mm, pz_mm', ↓pz_lt1, ↓pz_bd, ↓pz_bd2, ↓pz_tn, ↓pz_ts, pz_0, pz_1, pz_2, pz_3, pz_4, pz_12, pz_13, pz_15, pz_16, pz_20, pz_23, pz_24, pz_200, ↓pz_rd, ↓pz_wr, pz_add, pz_mul, pz_sub, pz_le, pz_lt, pz_eq, pz_max, pz_min, pz_cl, pz_and, pz_or, pz_shl, pz_clr, pz_bit, pz_ff, pz_tt, pz_5, pz_6, pz_7, pz_10000, pz_sb, pz_b0, pz_b1, ek M1 h, hk', ↓bde e1, ↓bde e2, ↓bde2 e3, f2]
              exact fin M1 M2 h s z _
            · rw [f1] at hf
              exact absurd hf (ck_ok a ha b hb).1
          · rw [if_neg hf]
            refine ⟨_, rfl, fun M1 h => ?_⟩
            obtain ⟨r, M2, s, z, rg, e1, e2, e3, e4⟩ := ref M1 h
            rcases e4 with ⟨f1, f2, f3, f4⟩ | ⟨a, b, ha, hb, f1, f2, f3, f4⟩
            · exact absurd f1 hf
            · unfold f_X10_about f_X10_about_J23 f_X10_fail
              rw [pz_0]
              simp (disch := first | assumption | omega) only [↓pz_n1, pz_mm, pz_mm', ↓pz_lt1, ↓pz_bd, ↓pz_bd2, ↓pz_tn, ↓pz_ts, pz_0, pz_1, pz_2, pz_3, pz_4, pz_12, pz_13, pz_15, pz_16, pz_20, pz_23, pz_24, pz_200, ↓pz_rd, ↓pz_wr, pz_add, pz_mul, pz_sub, pz_le, pz_lt, pz_eq, pz_max, pz_min, pz_cl, pz_and, pz_or, pz_shl, pz_clr, pz_bit, pz_ff, pz_tt, pz_5, pz_6, pz_7, pz_10000, pz_sb, pz_b0, pz_b1, ek M1 h, hk', ↓bde e1, ↓bde e2, ↓bde2 e3, f2]
              exact fin M1 M2 h s z _
        · simp (disch := first | assumption | omega) only [↓pz_n1, pz_mm, pz_mm', ↓pz_lt1, ↓pz_bd, ↓pz_bd2, ↓pz_tn, ↓pz_ts, pz_0, pz_1, pz_2, pz_3, pz_4, pz_12, pz_13, pz_15, pz_16, pz_20, pz_23, pz_24, pz_200, ↓pz_rd, ↓pz_wr, pz_add, pz_mul, pz_sub, pz_le, pz_lt, pz_eq, pz_max, pz_min, pz_cl, pz_and, pz_or, pz_shl, pz_clr, pz_bit, pz_ff, pz_tt, pz_5, pz_6, pz_7, pz_10000, pz_sb, pz_b0, pz_b1, ↓bde fe]
          refine ⟨_, rfl, fun M1 h => ?_⟩
          obtain ⟨r, M2, s, z, rg, e1, e2, e3, e4⟩ := ref M1 h
          unfold f_X10_about f_X10_about_J23 f_X10_fail
          rw [pz_0]
          simp (disch := first | assumption | omega) only [↓pz_n1, pz_mm, pz_mm', ↓pz_lt1, ↓pz_bd, ↓pz_bd2, ↓pz_tn, ↓pz_ts, pz_0, pz_1, pz_2, pz_3, pz_4, pz_12, pz_13, pz_15, pz_16, pz_20, pz_23, pz_24, pz_200, ↓pz_rd, ↓pz_wr, pz_add, pz_mul, pz_sub, pz_le, pz_lt, pz_eq, pz_max, pz_min, pz_cl, pz_and, pz_or, pz_shl, pz_clr, pz_bit, pz_ff, pz_tt, pz_5, pz_6, pz_7, pz_10000, pz_sb, pz_b0, pz_b1, ek M1 h, hk', ↓bde e1, ↓bde e2, ↓bde2 e3]
          rcases e4 with ⟨f1, f2, f3, f4⟩ | ⟨a, b, ha, hb, f1, f2, f3, f4⟩
          · rw [f1, f3]; exact fin M1 M2 h s z _
          · rw [f1, f3, (ck_ok a ha b hb).2.1]; exact fin M1 M2 h s z _
        · simp (disch := first | assumption | omega) only [↓pz_n1, pz_mm, pz_mm', ↓pz_lt1, ↓pz_bd, ↓pz_bd2, ↓pz_tn, ↓pz_ts, pz_0, pz_1, pz_2, pz_3, pz_4, pz_12, pz_13, pz_15, pz_16, pz_20, pz_23, pz_24, pz_200, ↓pz_rd, ↓pz_wr, pz_add, pz_mul, pz_sub, pz_le, pz_lt, pz_eq, pz_max, pz_min, pz_cl, pz_and, pz_or, pz_shl, pz_clr, pz_bit, pz_ff, pz_tt, pz_5, pz_6, pz_7, pz_10000, pz_sb, pz_b0, pz_b1, ↓bde fe]
          refine ⟨_, rfl, fun M1 h => ?_⟩
          obtain ⟨r, M2, s, z, rg, e1, e2, e3, e4⟩ := ref M1 h
          unfold f_X10_about f_X10_about_J23 f_X10_fail
          rw [pz_0]
          simp (disch := first | assumption | omega) only [↓pz_n1, pz_mm, pz_mm', ↓pz_lt1, ↓pz_bd, ↓pz_bd2, ↓pz_tn, ↓pz_ts, pz_0, pz_1, pz_2, pz_3, pz_4, pz_12, pz_13, pz_15, pz_16, pz_20, pz_23, pz_24, pz_200, ↓pz_rd, ↓pz_wr, pz_add, pz_mul, pz_sub, pz_le, pz_lt, pz_eq, pz_max, pz_min, pz_cl, pz_and, pz_or, pz_shl, pz_clr, pz_bit, pz_ff, pz_tt, pz_5, pz_6, pz_7, pz_10000, pz_sb, pz_b0, pz_b1, ek M1 h, hk', ↓bde e1, ↓bde e2, ↓bde2 e3]
          rcases e4 with ⟨f1, f2, f3, f4⟩ | ⟨a, b, ha, hb, f1, f2, f3, f4⟩
          · rw [f1, f4]; exact fin M1 M2 h s z _
          · rw [f1, f4, (ck_ok a ha b hb).2.2]; exact fin M1 M2 h s z _
      · simp (disch := first | assumption | omega) only [↓pz_n1, pz_mm, pz_mm', ↓pz_lt1, ↓pz_bd, ↓pz_bd2, ↓pz_tn, ↓pz_ts, pz_0, pz_1, pz_2, pz_3, pz_4, pz_12, pz_13, pz_15, pz_16, pz_20, pz_23, pz_24, pz_200, ↓pz_rd, ↓pz_wr, pz_add, pz_mul, pz_sub, pz_le, pz_lt, pz_eq, pz_max, pz_min, pz_cl, pz_and, pz_or, pz_shl, pz_clr, pz_bit, pz_ff, pz_tt, pz_5, pz_6, pz_7, pz_10000, pz_sb, pz_b0, pz_b1]
        rw [if_neg (hc2 0 (by omega)), if_neg (hc2 1 (by omega)), if_neg (hc2 2 (by omega)), if_neg (hc2 3 (by omega)), if_neg (hc2 4 (by omega)), if_neg (hc2 5 (by omega)), if_neg (hc2 6 (by omega)), if_neg (hc2 7 (by omega))]
        refine ⟨_, rfl, fun M1 h => ?_⟩
        unfold f_X10_about f_X10_about_J23 f_X10_fail
        rw [pz_0]
        simp (disch := first | assumption | omega) only [↓pz_n1, pz_mm, pz_mm', ↓pz_lt1, ↓pz_bd, ↓pz_bd2, ↓pz_tn, ↓pz_ts, pz_0, pz_1, pz_2, pz_3, pz_4, pz_12, pz_13, pz_15, pz_16, pz_20, pz_23, pz_24, pz_200, ↓pz_rd, ↓pz_wr, pz_add, pz_mul, pz_sub, pz_le, pz_lt, pz_eq, pz_max, pz_min, pz_cl, pz_and, pz_or, pz_shl, pz_clr, pz_bit, pz_ff, pz_tt, pz_5, pz_6, pz_7, pz_10000, pz_sb, pz_b0, pz_b1, ek M1 h, hk']
        rcases hc1 with h1 | ⟨h1, _, h2⟩
        · rw [if_pos h1]; exact rq_fail h _
        · rw [if_neg h2, if_neg h1]; exact rq_fail h _
  obtain ⟨o, e1, e2⟩ := key
  exact arm_w hF Int32.toInt64 o hA hR (lq_p hF Int32.toInt64 hC e1) e2 (fun _ => rfl)
