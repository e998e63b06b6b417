/-! the simple calls: block, less, side, net, places, put -/
theorem pz_shl {b : Nat} (hb : b < 31) : nI 1 <<< (nI b &&& 31) = nI (2 ^ b) := pz_shl1 hb
theorem pz_ff {α : Type} (a b : α) : (if False then a else b) = b := if_neg id
theorem pz_tt {α : Type} (a b : α) : (if True then a else b) = a := if_pos trivial
theorem swd_le {w h : Nat → Nat} {n td b B : Nat} (hw : ∀ b, b < n → 1 ≤ w b ∧ w b ≤ B) (hh : ∀ b, b < n → 1 ≤ h b ∧ h b ≤ B) (hb : b < n) : 1 ≤ swd w h td b ∧ swd w h td b ≤ B := by
  unfold swd
  split
  · exact hh b hb
  · exact hw b hb
theorem fg_eq (M : Mm) : f_X7_forget M = some (wi (wi (wi (wi M 65 0 0) 66 0 0) 67 0 0) 68 0 0) := by
  unfold f_X7_forget
  have h : loop (fun v => f_X7_forget_L2 v.1 v.2) FU ((0 : Int32), M) = some (wi (wi (wi (wi M 65 0 0) 66 0 0) 67 0 0) 68 0 0) := by
    refine lp_n (step := fun v => f_X7_forget_L2 v.1 v.2) (fun i => match i with | 0 => (0, M) | 1 => (1, wi M 65 0 0) | 2 => (2, wi (wi M 65 0 0) 66 0 0) | 3 => (3, wi (wi (wi M 65 0 0) 66 0 0) 67 0 0) | _ => (4, wi (wi (wi (wi M 65 0 0) 66 0 0) 67 0 0) 68 0 0)) 4 (fu_lt (by omega)) (fun i hi => ?_) rfl
    match i with
    | 0 => rfl
    | 1 => rfl
    | 2 => rfl
    | 3 => rfl
    | k + 4 => omega
  rw [h]; rfl
theorem pz_side (a : Int32) : f_X9_isSide a = if a < 1 ∨ 200 < a then 0 else 1 := by
  unfold f_X9_isSide
  have e1 : (a < 1) ↔ a.toInt < 1 := by rw [Int32.lt_iff_toInt_lt]; rfl
  have e2 : (1 ≤ a) ↔ 1 ≤ a.toInt := by rw [Int32.le_iff_toInt_le]; rfl
  have e3 : (200 < a) ↔ 200 < a.toInt := by rw [Int32.lt_iff_toInt_lt]; rfl
  have e4 : (a ≤ 200) ↔ a.toInt ≤ 200 := by rw [Int32.le_iff_toInt_le]; rfl
  simp only [e1, e2, e3, e4]
  repeat' split
  all_goals first | rfl | omega
theorem i32_1 {a : Int32} : (a < 1) ↔ a.toInt < 1 := by rw [Int32.lt_iff_toInt_lt]; rfl
theorem i32_200 {a : Int32} : (200 < a) ↔ 200 < a.toInt := by rw [Int32.lt_iff_toInt_lt]; rfl
theorem i32_le200 {a : Int32} : (a ≤ 200) ↔ a.toInt ≤ 200 := by rw [Int32.le_iff_toInt_le]; rfl
/-- a side that may be -/
def sideNo (a : Int32) : Prop := a < 1 ∨ 200 < a
theorem side_of {a : Int32} (h : ¬ sideNo a) : ∃ v, 1 ≤ v ∧ v ≤ 200 ∧ a = nI v := by
  unfold sideNo at h
  rw [i32_1, i32_200] at h
  have h0 : ¬ a < 0 := by
    rw [Int32.lt_iff_toInt_lt]
    show ¬ a.toInt < 0
    omega
  obtain ⟨v, hv, rfl⟩ := nI_of h0
  rw [nI_toInt hv] at h
  exact ⟨v, by omega, by omega, rfl⟩
def fset (f : Nat → Nat) (i v : Nat) : Nat → Nat := fun j => if j = i then v else f j
theorem fset_eq (f : Nat → Nat) (i v : Nat) : fset f i v i = v := if_pos rfl
theorem fset_ne {f : Nat → Nat} {i v j : Nat} (h : j ≠ i) : fset f i v j = f j := if_neg h
theorem IA.ext {M : Mm} {k n x : Nat} {a : Nat → Nat} (h : IA M k n a) : IA (wi M k n (nI x)) k (n + 1) (fset a n x) := fun j hj => by
  rw [wi_at]
  by_cases e : j = n
  · rw [if_pos e, e, fset_eq]
  · rw [if_neg e, fset_ne e]; exact h j (by omega)
theorem IA.sub {M : Mm} {k n m : Nat} {a : Nat → Nat} (h : IA M k n a) (hm : m ≤ n) : IA M k m a := fun j hj => h j (by omega)
theorem CI.non {F : Abs → Nat → Mm → Prop} {M : Mm} {A : Abs} (hk : A.kd = -1) (k : M.1 0 8 = A.kd) (s : M.1 0 9 = nI A.s) (n : M.1 1 3 = nI A.n) (tb : M.1 1 2 = nI A.tb) (w : IA M 2 A.n A.w) (h : IA M 3 A.n A.h) (nt : IA M 4 20 A.nt) (fn : ∀ k, k < 4 → M.1 (65 + k) 0 = 0) : CI F M A :=
  ⟨k, s, n, tb, w, h, nt, fun q => absurd hk q, fun q => by rw [hk] at q; exact absurd q (by decide), fun q => by rw [hk] at q; exact absurd q (by decide), fun q => by rw [hk] at q; exact absurd q (by decide), fun k hk => Or.inl (fn k hk)⟩
theorem RI.non {M : Mm} {A : Abs} (hk : A.kd = -1) (k : M.1 69 6 = A.kd) (s : M.1 69 41 = nI A.s) (n : M.1 69 1 = nI A.n) (w : IA M 70 A.n A.w) (h : IA M 71 A.n A.h) (tb : IA M 73 A.n (fun b => (A.tb.testBit b).toNat)) (nt : IA M 72 20 A.nt) : RI M A :=
  ⟨k, s, n, w, h, tb, nt, fun q => absurd hk q, fun q => by rw [hk] at q; exact absurd q (by decide), fun q => by rw [hk] at q; exact absurd q (by decide), fun q => by rw [hk] at q; exact absurd q (by decide)⟩
def blk (A : Abs) (a b t : Nat) : Abs := mkA (A.n + 1) (A.tb ||| t * 2 ^ A.n) A.td A.s A.ro (-1) (fset A.w A.n a) (fset A.h A.n b) A.nt A.x A.y A.one A.two A.tk A.lf A.rt
theorem Fr.lit {M : Mm} : Fr SC M M := Fr.rf
theorem c_block {F : Abs → Nat → Mm → Prop} {M : Mm} {A : Abs} (hA : AOK A) (hC : CI F M A) (a b : Int32) (t : Nat) (ht : t < 2) :
    (A.n = 12 ∨ sideNo a ∨ sideNo b → f_X9_block a b (nI t) M = some (-1, M)) ∧
    (∀ u v, A.n < 12 → 1 ≤ u → u ≤ 200 → 1 ≤ v → v ≤ 200 → Wp (f_X9_block (nI u) (nI v) (nI t) M) (fun r => r.1 = nI A.n ∧ CI F r.2 (blk A u v t) ∧ Fr SC M r.2)) := by
  have hn := hA.n
  refine ⟨fun h => ?_, fun u v h12 hu1 hu2 hv1 hv2 => ?_⟩
  · unfold f_X9_block
    rw [hC.n, pz_side, pz_side]
    simp (disch := first | assumption | omega) only [↓pz_n1, pz_mm, pz_mm', pz_lt1, pz_bd, pz_bd2, pz_tn, pz_ts, pz_0, pz_1, pz_2, pz_3, pz_4, pz_12, pz_13, pz_15, pz_16, pz_20, pz_23, pz_24, pz_200, pz_rd, pz_wr, pz_add, pz_mul, pz_sub, pz_le, pz_lt, pz_eq, pz_max, pz_min, pz_cl, pz_and, pz_or, pz_shl, pz_clr, pz_bit, pz_ff, pz_tt]
    by_cases h12 : 12 ≤ A.n
    · rw [if_pos h12]
    · rw [if_neg h12]
      rcases h with h | h | h
      · omega
      · unfold sideNo at h
        rw [pz_1, pz_200] at h
        rw [if_pos h, if_pos rfl]
      · unfold sideNo at h
        rw [pz_1, pz_200] at h
        rw [if_pos h, if_pos rfl]
        split <;> rfl
  · unfold f_X9_block f_X9_endLaying
    have ha' : ¬ (nI u < 1 ∨ 200 < nI u) := by rw [pz_1, pz_200, pz_lt (by omega) (by omega), pz_lt (by omega) (by omega)]; omega
    have hb' : ¬ (nI v < 1 ∨ 200 < nI v) := by rw [pz_1, pz_200, pz_lt (by omega) (by omega), pz_lt (by omega) (by omega)]; omega
    rw [hC.n, pz_side, pz_side, if_neg ha', if_neg hb']
    simp (disch := first | assumption | omega) only [↓pz_n1, pz_mm, pz_mm', pz_lt1, pz_bd, pz_bd2, pz_tn, pz_ts, pz_0, pz_1, pz_2, pz_3, pz_4, pz_12, pz_13, pz_15, pz_16, pz_20, pz_23, pz_24, pz_200, pz_rd, pz_wr, pz_add, pz_mul, pz_sub, pz_le, pz_lt, pz_eq, pz_max, pz_min, pz_cl, pz_and, pz_or, pz_shl, pz_clr, pz_bit, pz_ff, pz_tt, fg_eq]
    rw [if_neg (by omega), if_neg (by omega), if_neg (by omega)]
    unfold f_X0_add
    have e13 : ∀ M' : Mm, M' = wi (wi (wi (wi (wi M 0 8 m1) 65 0 (nI 0)) 66 0 (nI 0)) 67 0 (nI 0)) 68 0 (nI 0) → M'.1 1 = M.1 1 ∧ M'.1 2 = M.1 2 ∧ M'.1 3 = M.1 3 ∧ M'.1 4 = M.1 4 ∧ M'.1 0 = upd (M.1 0) 8 m1 ∧ (∀ k, k < 4 → M'.1 (65 + k) 0 = 0) ∧ Fr SC M M' := by
      rintro M' rfl
      refine ⟨rfl, rfl, rfl, rfl, rfl, fun k hk => ?_, ?_⟩
      · match k with
        | 0 => rfl
        | 1 => rfl
        | 2 => rfl
        | 3 => rfl
        | k + 4 => omega
      · exact ((((Fr.rf.w (show SC 0 by unfold SC; omega)).w (show SC 65 by unfold SC; omega)).w (show SC 66 by unfold SC; omega)).w (show SC 67 by unfold SC; omega)).w (show SC 68 by unfold SC; omega)
    generalize hM' : wi (wi (wi (wi (wi M 0 8 m1) 65 0 (nI 0)) 66 0 (nI 0)) 67 0 (nI 0)) 68 0 (nI 0) = M'
    obtain ⟨f1, f2, f3, f4, f0, f5, f6⟩ := e13 M' hM'.symm
    have g1 : M'.1 1 3 = nI A.n := by rw [f1]; exact hC.n
    simp (disch := first | assumption | omega) only [↓pz_n1, pz_mm, pz_mm', pz_lt1, pz_bd, pz_bd2, pz_tn, pz_ts, pz_0, pz_1, pz_2, pz_3, pz_4, pz_12, pz_13, pz_15, pz_16, pz_20, pz_23, pz_24, pz_200, pz_rd, pz_wr, pz_add, pz_mul, pz_sub, pz_le, pz_lt, pz_eq, pz_max, pz_min, pz_cl, pz_and, pz_or, pz_shl, pz_clr, pz_bit, pz_ff, pz_tt, g1]
    rw [if_neg (by omega)]
    have hJ : ∀ t' : Nat, t' < 2 → Wp (f_X0_add_J43 (nI A.n) (wi (wi M' 2 A.n (nI u)) 3 A.n (nI v)) (nI t')) (fun r => r.1 = nI A.n ∧ CI F r.2 (blk A u v t') ∧ Fr SC M r.2) := by
      intro t' ht'
      unfold f_X0_add_J43
      have e1 : nI t' <<< (nI A.n &&& 31) = nI (t' * 2 ^ A.n) := by
        rcases (by omega : t' = 0 ∨ t' = 1) with rfl | rfl
        · rw [Nat.zero_mul]
          exact (by decide +kernel : ∀ n, n < 13 → nI 0 <<< (nI n &&& 31) = nI 0) A.n (by omega)
        · rw [Nat.one_mul]; exact pz_shl (by omega)
      have e2 : (wi (wi M' 2 A.n (nI u)) 3 A.n (nI v)).1 1 2 = nI A.tb := by
        show M'.1 1 2 = _
        rw [f1]; exact hC.tb
      simp (disch := first | assumption | omega) only [↓pz_n1, pz_mm, pz_mm', pz_lt1, pz_bd, pz_bd2, pz_tn, pz_ts, pz_0, pz_1, pz_2, pz_3, pz_4, pz_12, pz_13, pz_15, pz_16, pz_20, pz_23, pz_24, pz_200, pz_rd, pz_wr, pz_add, pz_mul, pz_sub, pz_le, pz_lt, pz_eq, pz_max, pz_min, pz_cl, pz_and, pz_or, pz_shl, pz_clr, pz_bit, pz_ff, pz_tt, e1, e2]
      refine wp_s ⟨rfl, CI.non rfl ?_ ?_ ?_ ?_ ?_ ?_ ?_ ?_, ?_⟩
      · show M'.1 0 8 = -1
        rw [f0]; rfl
      · show M'.1 0 9 = _
        rw [f0]; exact hC.s
      · show M'.1 1 3 + nI 1 = _
        rw [g1, pz_add]; rfl
      · rfl
      · exact IA.eq (M := wi M' 2 A.n (nI u)) (IA.ext (hC.w.eq f2)) rfl
      · exact IA.eq (M := wi (wi M' 2 A.n (nI u)) 3 A.n (nI v)) (IA.ext (hC.h.eq f3)) rfl
      · exact hC.nt.eq f4
      · intro k hk
        have : 65 + k ≠ 1 ∧ 65 + k ≠ 2 ∧ 65 + k ≠ 3 := by omega
        rw [wi_n _ _ _ this.1, wi_n _ _ _ this.1, wi_n _ _ _ this.2.2, wi_n _ _ _ this.2.1]
        exact f5 k hk
      · exact (((f6.w (show SC 2 by unfold SC; omega)).w (show SC 3 by unfold SC; omega)).w (show SC 1 by unfold SC; omega)).w (show SC 1 by unfold SC; omega)
    rcases (by omega : t = 0 ∨ t = 1) with rfl | rfl
    · simp only [if_true]
      exact wp_b2 (hJ 0 (by omega)) (fun r M2 h => wp_s h)
    · rw [if_neg (by omega)]
      exact wp_b2 (hJ 1 (by omega)) (fun r M2 h => wp_s h)
