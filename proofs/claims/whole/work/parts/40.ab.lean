/-! grounds read: reach, area, clashes; about -/
def GB (n td : Nat) (w h x y : Nat → Nat) : Prop :=
  (n ≤ 12) ∧
  (td < 4096) ∧
  (∀ b, b < n → 1 ≤ w b ∧ w b ≤ 200) ∧
  (∀ b, b < n → 1 ≤ h b ∧ h b ≤ 200) ∧
  (∀ b, b < n → x b ≤ 10000) ∧
  (∀ b, b < n → y b ≤ 10000)
theorem GB.n {n td : Nat} {w h x y : Nat → Nat} (hh_ : GB n td w h x y) : n ≤ 12 := hh_.1
theorem GB.td {n td : Nat} {w h x y : Nat → Nat} (hh_ : GB n td w h x y) : td < 4096 := hh_.2.1
theorem GB.w {n td : Nat} {w h x y : Nat → Nat} (hh_ : GB n td w h x y) : ∀ b, b < n → 1 ≤ w b ∧ w b ≤ 200 := hh_.2.2.1
theorem GB.h {n td : Nat} {w h x y : Nat → Nat} (hh_ : GB n td w h x y) : ∀ b, b < n → 1 ≤ h b ∧ h b ≤ 200 := hh_.2.2.2.1
theorem GB.x {n td : Nat} {w h x y : Nat → Nat} (hh_ : GB n td w h x y) : ∀ b, b < n → x b ≤ 10000 := hh_.2.2.2.2.1
theorem GB.y {n td : Nat} {w h x y : Nat → Nat} (hh_ : GB n td w h x y) : ∀ b, b < n → y b ≤ 10000 := hh_.2.2.2.2.2
def RG (M : Mm) (n td : Nat) (w h x y : Nat → Nat) : Prop :=
  (M.1 69 1 = nI n) ∧
  (M.1 69 7 = nI td) ∧
  (IA M 70 n w) ∧
  (IA M 71 n h) ∧
  (IA M 74 n x) ∧
  (IA M 75 n y)
theorem RG.n {M : Mm} {n td : Nat} {w h x y : Nat → Nat} (hh_ : RG M n td w h x y) : M.1 69 1 = nI n := hh_.1
theorem RG.td {M : Mm} {n td : Nat} {w h x y : Nat → Nat} (hh_ : RG M n td w h x y) : M.1 69 7 = nI td := hh_.2.1
theorem RG.w {M : Mm} {n td : Nat} {w h x y : Nat → Nat} (hh_ : RG M n td w h x y) : IA M 70 n w := hh_.2.2.1
theorem RG.h {M : Mm} {n td : Nat} {w h x y : Nat → Nat} (hh_ : RG M n td w h x y) : IA M 71 n h := hh_.2.2.2.1
theorem RG.x {M : Mm} {n td : Nat} {w h x y : Nat → Nat} (hh_ : RG M n td w h x y) : IA M 74 n x := hh_.2.2.2.2.1
theorem RG.y {M : Mm} {n td : Nat} {w h x y : Nat → Nat} (hh_ : RG M n td w h x y) : IA M 75 n y := hh_.2.2.2.2.2
def CG (M : Mm) (k0 n td : Nat) (w h x y : Nat → Nat) : Prop :=
  (M.1 k0 6 = nI n) ∧
  (M.1 k0 5 = nI td) ∧
  (IA M (k0 + 1) n x) ∧
  (IA M (k0 + 2) n y) ∧
  (IA M (k0 + 3) n (swd w h td)) ∧
  (IA M (k0 + 4) n (swd h w td))
theorem CG.n {M : Mm} {k0 n td : Nat} {w h x y : Nat → Nat} (hh_ : CG M k0 n td w h x y) : M.1 k0 6 = nI n := hh_.1
theorem CG.td {M : Mm} {k0 n td : Nat} {w h x y : Nat → Nat} (hh_ : CG M k0 n td w h x y) : M.1 k0 5 = nI td := hh_.2.1
theorem CG.x {M : Mm} {k0 n td : Nat} {w h x y : Nat → Nat} (hh_ : CG M k0 n td w h x y) : IA M (k0 + 1) n x := hh_.2.2.1
theorem CG.y {M : Mm} {k0 n td : Nat} {w h x y : Nat → Nat} (hh_ : CG M k0 n td w h x y) : IA M (k0 + 2) n y := hh_.2.2.2.1
theorem CG.w {M : Mm} {k0 n td : Nat} {w h x y : Nat → Nat} (hh_ : CG M k0 n td w h x y) : IA M (k0 + 3) n (swd w h td) := hh_.2.2.2.2.1
theorem CG.h {M : Mm} {k0 n td : Nat} {w h x y : Nat → Nat} (hh_ : CG M k0 n td w h x y) : IA M (k0 + 4) n (swd h w td) := hh_.2.2.2.2.2
theorem GB.sw {n td : Nat} {w h x y : Nat → Nat} (g : GB n td w h x y) {b : Nat} (hb : b < n) : 1 ≤ swd w h td b ∧ swd w h td b ≤ 200 := swd_le g.w g.h hb
theorem GB.sh {n td : Nat} {w h x y : Nat → Nat} (g : GB n td w h x y) {b : Nat} (hb : b < n) : 1 ≤ swd h w td b ∧ swd h w td b ≤ 200 := swd_le g.h g.w hb
theorem AOK.gb {A : Abs} (hA : AOK A) (hk : A.kd ≠ -1) : GB A.n A.td A.w A.h A.x A.y := by
  obtain ⟨l1, l2, l3, l4⟩ := hA.ly hk
  exact ⟨hA.n, p12 (sub_lt l2 hA.tb) hA.n, hA.w, hA.h, l3, l4⟩
theorem CI.cg {F : Abs → Nat → Mm → Prop} {M : Mm} {A : Abs} (h : CI F M A) (hk : A.kd ≠ -1) : CG M 5 A.n A.td A.w A.h A.x A.y := by
  obtain ⟨g1, g2, g3, g4, g5, g6⟩ := h.gd hk
  exact ⟨g1, g2, g3, g4, g5, g6⟩
theorem RI.rg {M : Mm} {A : Abs} (h : RI M A) (hk : A.kd ≠ -1) : RG M A.n A.td A.w A.h A.x A.y := ⟨h.n, (h.gd hk).1, h.w, h.h, (h.gd hk).2.1, (h.gd hk).2.2⟩
/-- how far places and lengths reach -/
def rch (x w : Nat → Nat) (n : Nat) : Nat := mxn (fun b => x b + w b) n
theorem rch_le {x w : Nat → Nat} {n : Nat} (hx : ∀ b, b < n → x b ≤ 10000) (hw : ∀ b, b < n → 1 ≤ w b ∧ w b ≤ 200) : ∀ {i}, i ≤ n → rch x w i ≤ 10200 := fun {i} hi => mxn_le fun b hb => by have := hx b (by omega); have := hw b (by omega); omega
theorem reach_ok {M : Mm} {k0 k1 k2 n : Nat} {x w : Nat → Nat} (h6 : M.1 k0 6 = nI n) (hn : n ≤ 12) (ex : IA M k1 n x) (ew : IA M k2 n w) (hx : ∀ b, b < n → x b ≤ 10000) (hw : ∀ b, b < n → 1 ≤ w b ∧ w b ≤ 200) : f_X2_reach k0 k1 k2 M = some (nI (rch x w n)) := by
  unfold f_X2_reach
  have e : loop (fun v => f_X2_reach_L5 k0 k1 k2 M v.1 v.2) FU (nI 0, nI 0) = some (nI (rch x w n)) := by
    refine lp_n (fun i => (nI (rch x w i), nI i)) n (fu_lt (by omega)) (fun i hi => ?_) ?_
    · show f_X2_reach_L5 k0 k1 k2 M (nI (rch x w i)) (nI i) = _
      unfold f_X2_reach_L5
      have h1 : ¬ n ≤ i := by omega
      have h2 := rch_le hx hw (i := i) (by omega)
      have h3 := hx i hi
      have h4 := hw i hi
      simp (disch := first | assumption | omega) only [↓pz_n1, pz_mm, pz_mm', ↓pz_lt1, ↓pz_bd, ↓pz_bd2, ↓pz_tn, ↓pz_ts, pz_0, pz_1, pz_2, pz_3, pz_4, pz_12, pz_13, pz_15, pz_16, pz_20, pz_23, pz_24, pz_200, ↓pz_rd, ↓pz_wr, pz_add, pz_mul, pz_sub, pz_le, pz_lt, pz_eq, pz_max, pz_min, pz_cl, pz_and, pz_or, pz_shl, pz_clr, pz_bit, pz_ff, pz_tt, pz_5, pz_6, pz_7, pz_10000, pz_sb, pz_b0, pz_b1, h6, h1, ex i hi, ew i hi]
      rfl
    · show f_X2_reach_L5 k0 k1 k2 M (nI (rch x w n)) (nI n) = _
      unfold f_X2_reach_L5
      simp (disch := first | assumption | omega) only [↓pz_n1, pz_mm, pz_mm', ↓pz_lt1, ↓pz_bd, ↓pz_bd2, ↓pz_tn, ↓pz_ts, pz_0, pz_1, pz_2, pz_3, pz_4, pz_12, pz_13, pz_15, pz_16, pz_20, pz_23, pz_24, pz_200, ↓pz_rd, ↓pz_wr, pz_add, pz_mul, pz_sub, pz_le, pz_lt, pz_eq, pz_max, pz_min, pz_cl, pz_and, pz_or, pz_shl, pz_clr, pz_bit, pz_ff, pz_tt, pz_5, pz_6, pz_7, pz_10000, pz_sb, pz_b0, pz_b1, h6]
      rw [if_pos (Nat.le_refl _)]
  simp (disch := first | assumption | omega) only [↓pz_n1, pz_mm, pz_mm', ↓pz_lt1, ↓pz_bd, ↓pz_bd2, ↓pz_tn, ↓pz_ts, pz_0, pz_1, pz_2, pz_3, pz_4, pz_12, pz_13, pz_15, pz_16, pz_20, pz_23, pz_24, pz_200, ↓pz_rd, ↓pz_wr, pz_add, pz_mul, pz_sub, pz_le, pz_lt, pz_eq, pz_max, pz_min, pz_cl, pz_and, pz_or, pz_shl, pz_clr, pz_bit, pz_ff, pz_tt, pz_5, pz_6, pz_7, pz_10000, pz_sb, pz_b0, pz_b1]
  rw [e]; rfl
theorem area_ok {M : Mm} {k0 n : Nat} {x w y h : Nat → Nat} (h6 : M.1 k0 6 = nI n) (hn : n ≤ 12) (ex : IA M (k0 + 1) n x) (ew : IA M (k0 + 3) n w) (ey : IA M (k0 + 2) n y) (eh : IA M (k0 + 4) n h) (hx : ∀ b, b < n → x b ≤ 10000) (hw : ∀ b, b < n → 1 ≤ w b ∧ w b ≤ 200) (hy : ∀ b, b < n → y b ≤ 10000) (hh : ∀ b, b < n → 1 ≤ h b ∧ h b ≤ 200) : f_X2_area k0 M = some (nI (rch x w n * rch y h n)) := by
  unfold f_X2_area
  have e : loop (fun v => f_X2_area_L6 k0 M v.1 v.2.1 v.2.2) FU (nI 0, nI 0, nI 0) = some (nI (rch x w n), nI (rch y h n)) := by
    refine lp_n (fun i => (nI (rch x w i), nI (rch y h i), nI i)) n (fu_lt (by omega)) (fun i hi => ?_) ?_
    · show f_X2_area_L6 k0 M (nI (rch x w i)) (nI (rch y h i)) (nI i) = _
      unfold f_X2_area_L6
      have h1 : ¬ n ≤ i := by omega
      have h2 := rch_le hx hw (i := i) (by omega)
      have h2' := rch_le hy hh (i := i) (by omega)
      have h3 := hx i hi
      have h4 := hw i hi
      have h5 := hy i hi
      have h6' := hh i hi
      simp (disch := first | assumption | omega) only [↓pz_n1, pz_mm, pz_mm', ↓pz_lt1, ↓pz_bd, ↓pz_bd2, ↓pz_tn, ↓pz_ts, pz_0, pz_1, pz_2, pz_3, pz_4, pz_12, pz_13, pz_15, pz_16, pz_20, pz_23, pz_24, pz_200, ↓pz_rd, ↓pz_wr, pz_add, pz_mul, pz_sub, pz_le, pz_lt, pz_eq, pz_max, pz_min, pz_cl, pz_and, pz_or, pz_shl, pz_clr, pz_bit, pz_ff, pz_tt, pz_5, pz_6, pz_7, pz_10000, pz_sb, pz_b0, pz_b1, h6, h1, ex i hi, ew i hi, ey i hi, eh i hi]
      rfl
    · show f_X2_area_L6 k0 M (nI (rch x w n)) (nI (rch y h n)) (nI n) = _
      unfold f_X2_area_L6
      simp (disch := first | assumption | omega) only [↓pz_n1, pz_mm, pz_mm', ↓pz_lt1, ↓pz_bd, ↓pz_bd2, ↓pz_tn, ↓pz_ts, pz_0, pz_1, pz_2, pz_3, pz_4, pz_12, pz_13, pz_15, pz_16, pz_20, pz_23, pz_24, pz_200, ↓pz_rd, ↓pz_wr, pz_add, pz_mul, pz_sub, pz_le, pz_lt, pz_eq, pz_max, pz_min, pz_cl, pz_and, pz_or, pz_shl, pz_clr, pz_bit, pz_ff, pz_tt, pz_5, pz_6, pz_7, pz_10000, pz_sb, pz_b0, pz_b1, h6]
      rw [if_pos (Nat.le_refl _)]
  simp (disch := first | assumption | omega) only [↓pz_n1, pz_mm, pz_mm', ↓pz_lt1, ↓pz_bd, ↓pz_bd2, ↓pz_tn, ↓pz_ts, pz_0, pz_1, pz_2, pz_3, pz_4, pz_12, pz_13, pz_15, pz_16, pz_20, pz_23, pz_24, pz_200, ↓pz_rd, ↓pz_wr, pz_add, pz_mul, pz_sub, pz_le, pz_lt, pz_eq, pz_max, pz_min, pz_cl, pz_and, pz_or, pz_shl, pz_clr, pz_bit, pz_ff, pz_tt, pz_5, pz_6, pz_7, pz_10000, pz_sb, pz_b0, pz_b1]
  rw [e]
  unfold f_X2_area_A6
  simp (disch := first | assumption | omega) only [↓pz_n1, pz_mm, pz_mm', ↓pz_lt1, ↓pz_bd, ↓pz_bd2, ↓pz_tn, ↓pz_ts, pz_0, pz_1, pz_2, pz_3, pz_4, pz_12, pz_13, pz_15, pz_16, pz_20, pz_23, pz_24, pz_200, ↓pz_rd, ↓pz_wr, pz_add, pz_mul, pz_sub, pz_le, pz_lt, pz_eq, pz_max, pz_min, pz_cl, pz_and, pz_or, pz_shl, pz_clr, pz_bit, pz_ff, pz_tt, pz_5, pz_6, pz_7, pz_10000, pz_sb, pz_b0, pz_b1]
def bar (w h : Nat → Nat) (n : Nat) : Nat := smn (fun b => w b * h b) n
theorem barea_ok {M : Mm} {n : Nat} {w h : Nat → Nat} (h3 : M.1 1 3 = nI n) (hn : n ≤ 12) (ew : IA M 2 n w) (eh : IA M 3 n h) : f_X0_area M = some (nI (bar w h n)) := by
  unfold f_X0_area
  have e : loop (fun v => f_X0_area_L4 M v.1 v.2) FU (nI 0, nI 0) = some (nI (bar w h n)) := by
    refine lp_n (fun i => (nI (bar w h i), nI i)) n (fu_lt (by omega)) (fun i hi => ?_) ?_
    · show f_X0_area_L4 M (nI (bar w h i)) (nI i) = _
      unfold f_X0_area_L4
      have h1 : ¬ n ≤ i := by omega
      simp (disch := first | assumption | omega) only [↓pz_n1, pz_mm, pz_mm', ↓pz_lt1, ↓pz_bd, ↓pz_bd2, ↓pz_tn, ↓pz_ts, pz_0, pz_1, pz_2, pz_3, pz_4, pz_12, pz_13, pz_15, pz_16, pz_20, pz_23, pz_24, pz_200, ↓pz_rd, ↓pz_wr, pz_add, pz_mul, pz_sub, pz_le, pz_lt, pz_eq, pz_max, pz_min, pz_cl, pz_and, pz_or, pz_shl, pz_clr, pz_bit, pz_ff, pz_tt, pz_5, pz_6, pz_7, pz_10000, pz_sb, pz_b0, pz_b1, h3, h1, ew i hi, eh i hi]
      rfl
    · show f_X0_area_L4 M (nI (bar w h n)) (nI n) = _
      unfold f_X0_area_L4
      simp (disch := first | assumption | omega) only [↓pz_n1, pz_mm, pz_mm', ↓pz_lt1, ↓pz_bd, ↓pz_bd2, ↓pz_tn, ↓pz_ts, pz_0, pz_1, pz_2, pz_3, pz_4, pz_12, pz_13, pz_15, pz_16, pz_20, pz_23, pz_24, pz_200, ↓pz_rd, ↓pz_wr, pz_add, pz_mul, pz_sub, pz_le, pz_lt, pz_eq, pz_max, pz_min, pz_cl, pz_and, pz_or, pz_shl, pz_clr, pz_bit, pz_ff, pz_tt, pz_5, pz_6, pz_7, pz_10000, pz_sb, pz_b0, pz_b1, h3]
      rw [if_pos (Nat.le_refl _)]
  simp (disch := first | assumption | omega) only [↓pz_n1, pz_mm, pz_mm', ↓pz_lt1, ↓pz_bd, ↓pz_bd2, ↓pz_tn, ↓pz_ts, pz_0, pz_1, pz_2, pz_3, pz_4, pz_12, pz_13, pz_15, pz_16, pz_20, pz_23, pz_24, pz_200, ↓pz_rd, ↓pz_wr, pz_add, pz_mul, pz_sub, pz_le, pz_lt, pz_eq, pz_max, pz_min, pz_cl, pz_and, pz_or, pz_shl, pz_clr, pz_bit, pz_ff, pz_tt, pz_5, pz_6, pz_7, pz_10000, pz_sb, pz_b0, pz_b1]
  rw [e]; rfl
theorem raw_ok {M : Mm} {n td : Nat} {w h x y : Nat → Nat} (g : GB n td w h x y) (r : RG M n td w h x y) : f_X10_allWide M = some (nI (rch x (swd w h td) n)) := by
  unfold f_X10_allWide
  have hn := g.n
  have e : loop (fun v => f_X10_allWide_L4 M v.1 v.2) FU (nI 0, nI 0) = some (nI (rch x (swd w h td) n)) := by
    refine lp_n (fun i => (nI (rch x (swd w h td) i), nI i)) n (fu_lt (by omega)) (fun i hi => ?_) ?_
    · show f_X10_allWide_L4 M (nI (rch x (swd w h td) i)) (nI i) = _
      unfold f_X10_allWide_L4
      have h1 : ¬ n ≤ i := by omega
      have h2 : rch x (swd w h td) i ≤ 10200 := rch_le g.x (fun b hb => g.sw hb) (by omega)
      have h3 := g.x i hi
      have h4 := g.sw hi
      simp (disch := first | assumption | omega) only [↓pz_n1, pz_mm, pz_mm', ↓pz_lt1, ↓pz_bd, ↓pz_bd2, ↓pz_tn, ↓pz_ts, pz_0, pz_1, pz_2, pz_3, pz_4, pz_12, pz_13, pz_15, pz_16, pz_20, pz_23, pz_24, pz_200, ↓pz_rd, ↓pz_wr, pz_add, pz_mul, pz_sub, pz_le, pz_lt, pz_eq, pz_max, pz_min, pz_cl, pz_and, pz_or, pz_shl, pz_clr, pz_bit, pz_ff, pz_tt, pz_5, pz_6, pz_7, pz_10000, pz_sb, pz_b0, pz_b1, r.n, h1, r.x i hi, pz_rw r.td g.td r.w r.h hi hn]
      rfl
    · show f_X10_allWide_L4 M (nI (rch x (swd w h td) n)) (nI n) = _
      unfold f_X10_allWide_L4
      simp (disch := first | assumption | omega) only [↓pz_n1, pz_mm, pz_mm', ↓pz_lt1, ↓pz_bd, ↓pz_bd2, ↓pz_tn, ↓pz_ts, pz_0, pz_1, pz_2, pz_3, pz_4, pz_12, pz_13, pz_15, pz_16, pz_20, pz_23, pz_24, pz_200, ↓pz_rd, ↓pz_wr, pz_add, pz_mul, pz_sub, pz_le, pz_lt, pz_eq, pz_max, pz_min, pz_cl, pz_and, pz_or, pz_shl, pz_clr, pz_bit, pz_ff, pz_tt, pz_5, pz_6, pz_7, pz_10000, pz_sb, pz_b0, pz_b1, r.n]
      rw [if_pos (Nat.le_refl _)]
  simp (disch := first | assumption | omega) only [↓pz_n1, pz_mm, pz_mm', ↓pz_lt1, ↓pz_bd, ↓pz_bd2, ↓pz_tn, ↓pz_ts, pz_0, pz_1, pz_2, pz_3, pz_4, pz_12, pz_13, pz_15, pz_16, pz_20, pz_23, pz_24, pz_200, ↓pz_rd, ↓pz_wr, pz_add, pz_mul, pz_sub, pz_le, pz_lt, pz_eq, pz_max, pz_min, pz_cl, pz_and, pz_or, pz_shl, pz_clr, pz_bit, pz_ff, pz_tt, pz_5, pz_6, pz_7, pz_10000, pz_sb, pz_b0, pz_b1]
  rw [e]; rfl
theorem rah_ok {M : Mm} {n td : Nat} {w h x y : Nat → Nat} (g : GB n td w h x y) (r : RG M n td w h x y) : f_X10_allHigh M = some (nI (rch y (swd h w td) n)) := by
  unfold f_X10_allHigh
  have hn := g.n
  have e : loop (fun v => f_X10_allHigh_L4 M v.1 v.2) FU (nI 0, nI 0) = some (nI (rch y (swd h w td) n)) := by
    refine lp_n (fun i => (nI (rch y (swd h w td) i), nI i)) n (fu_lt (by omega)) (fun i hi => ?_) ?_
    · show f_X10_allHigh_L4 M (nI (rch y (swd h w td) i)) (nI i) = _
      unfold f_X10_allHigh_L4
      have h1 : ¬ n ≤ i := by omega
      have h2 : rch y (swd h w td) i ≤ 10200 := rch_le g.y (fun b hb => g.sh hb) (by omega)
      have h3 := g.y i hi
      have h4 := g.sh hi
      simp (disch := first | assumption | omega) only [↓pz_n1, pz_mm, pz_mm', ↓pz_lt1, ↓pz_bd, ↓pz_bd2, ↓pz_tn, ↓pz_ts, pz_0, pz_1, pz_2, pz_3, pz_4, pz_12, pz_13, pz_15, pz_16, pz_20, pz_23, pz_24, pz_200, ↓pz_rd, ↓pz_wr, pz_add, pz_mul, pz_sub, pz_le, pz_lt, pz_eq, pz_max, pz_min, pz_cl, pz_and, pz_or, pz_shl, pz_clr, pz_bit, pz_ff, pz_tt, pz_5, pz_6, pz_7, pz_10000, pz_sb, pz_b0, pz_b1, r.n, h1, r.y i hi, pz_rh r.td g.td r.w r.h hi hn]
      rfl
    · show f_X10_allHigh_L4 M (nI (rch y (swd h w td) n)) (nI n) = _
      unfold f_X10_allHigh_L4
      simp (disch := first | assumption | omega) only [↓pz_n1, pz_mm, pz_mm', ↓pz_lt1, ↓pz_bd, ↓pz_bd2, ↓pz_tn, ↓pz_ts, pz_0, pz_1, pz_2, pz_3, pz_4, pz_12, pz_13, pz_15, pz_16, pz_20, pz_23, pz_24, pz_200, ↓pz_rd, ↓pz_wr, pz_add, pz_mul, pz_sub, pz_le, pz_lt, pz_eq, pz_max, pz_min, pz_cl, pz_and, pz_or, pz_shl, pz_clr, pz_bit, pz_ff, pz_tt, pz_5, pz_6, pz_7, pz_10000, pz_sb, pz_b0, pz_b1, r.n]
      rw [if_pos (Nat.le_refl _)]
  simp (disch := first | assumption | omega) only [↓pz_n1, pz_mm, pz_mm', ↓pz_lt1, ↓pz_bd, ↓pz_bd2, ↓pz_tn, ↓pz_ts, pz_0, pz_1, pz_2, pz_3, pz_4, pz_12, pz_13, pz_15, pz_16, pz_20, pz_23, pz_24, pz_200, ↓pz_rd, ↓pz_wr, pz_add, pz_mul, pz_sub, pz_le, pz_lt, pz_eq, pz_max, pz_min, pz_cl, pz_and, pz_or, pz_shl, pz_clr, pz_bit, pz_ff, pz_tt, pz_5, pz_6, pz_7, pz_10000, pz_sb, pz_b0, pz_b1]
  rw [e]; rfl
/-! clashes -/
def Lf (x w : Nat → Nat) (a b : Nat) : Prop := x a + w a ≤ x b
def Cl (x y w h : Nat → Nat) (a b : Nat) : Prop := ¬ x a + w a ≤ x b ∧ ¬ x b + w b ≤ x a ∧ ¬ y a + h a ≤ y b ∧ ¬ y b + h b ≤ y a
def FC (n : Nat) (P : Nat → Nat → Prop) (a b : Nat) : Prop := a < b ∧ b < n ∧ P a b ∧ ∀ a' b', a' < b' → b' < n → (a' < a ∨ a' = a ∧ b' < b) → ¬ P a' b'
def NC (n : Nat) (P : Nat → Nat → Prop) : Prop := ∀ a b, a < b → b < n → ¬ P a b
theorem FC.un {n : Nat} {P : Nat → Nat → Prop} {a b c d : Nat} (h1 : FC n P a b) (h2 : FC n P c d) : a = c ∧ b = d := by
  obtain ⟨a1, a2, a3, a4⟩ := h1
  obtain ⟨b1, b2, b3, b4⟩ := h2
  by_cases e1 : a < c ∨ a = c ∧ b < d
  · exact absurd a3 (b4 a b a1 a2 e1)
  · by_cases e2 : c < a ∨ c = a ∧ d < b
    · exact absurd b3 (a4 c d b1 b2 e2)
    · omega
theorem FC.nc {n : Nat} {P : Nat → Nat → Prop} {a b : Nat} (h1 : FC n P a b) (h2 : NC n P) : False := h2 a b h1.1 h1.2.1 h1.2.2.1
theorem pz_d1 (p : Prop) [Decidable p] : (nI (decide p).toNat = nI 1) = p := by rw [pz_b1]; exact propext decide_eq_true_iff
theorem pz_d0 (p : Prop) [Decidable p] : (nI (decide p).toNat = nI 0) = ¬ p := by rw [pz_b0]; exact propext decide_eq_false_iff_not
theorem il_ok {M : Mm} {k0 n a b : Nat} {x w : Nat → Nat} (ex : IA M (k0 + 1) n x) (ew : IA M (k0 + 3) n w) (hn : n ≤ 12) (ha : a < n) (hb : b < n) (hx : ∀ b, b < n → x b ≤ 10000) (hw : ∀ b, b < n → 1 ≤ w b ∧ w b ≤ 200) : f_X2_isLeft k0 (nI a) (nI b) M = some (nI (decide (x a + w a ≤ x b)).toNat) := by
  unfold f_X2_isLeft
  have h1 := hx a ha
  have h2 := hx b hb
  have h3 := hw a ha
  simp (disch := first | assumption | omega) only [↓pz_n1, pz_mm, pz_mm', ↓pz_lt1, ↓pz_bd, ↓pz_bd2, ↓pz_tn, ↓pz_ts, pz_0, pz_1, pz_2, pz_3, pz_4, pz_12, pz_13, pz_15, pz_16, pz_20, pz_23, pz_24, pz_200, ↓pz_rd, ↓pz_wr, pz_add, pz_mul, pz_sub, pz_le, pz_lt, pz_eq, pz_max, pz_min, pz_cl, pz_and, pz_or, pz_shl, pz_clr, pz_bit, pz_ff, pz_tt, pz_5, pz_6, pz_7, pz_10000, pz_sb, pz_b0, pz_b1, ex a ha, ex b hb, ew a ha]
  by_cases q : x b < x a + w a
  · rw [if_pos q, decide_eq_false (by omega)]; rfl
  · rw [if_neg q, decide_eq_true (by omega)]; rfl
theorem ib_ok {M : Mm} {k0 n a b : Nat} {x w : Nat → Nat} (ex : IA M (k0 + 2) n x) (ew : IA M (k0 + 4) n w) (hn : n ≤ 12) (ha : a < n) (hb : b < n) (hx : ∀ b, b < n → x b ≤ 10000) (hw : ∀ b, b < n → 1 ≤ w b ∧ w b ≤ 200) : f_X2_isBelow k0 (nI a) (nI b) M = some (nI (decide (x a + w a ≤ x b)).toNat) := by
  unfold f_X2_isBelow
  have h1 := hx a ha
  have h2 := hx b hb
  have h3 := hw a ha
  simp (disch := first | assumption | omega) only [↓pz_n1, pz_mm, pz_mm', ↓pz_lt1, ↓pz_bd, ↓pz_bd2, ↓pz_tn, ↓pz_ts, pz_0, pz_1, pz_2, pz_3, pz_4, pz_12, pz_13, pz_15, pz_16, pz_20, pz_23, pz_24, pz_200, ↓pz_rd, ↓pz_wr, pz_add, pz_mul, pz_sub, pz_le, pz_lt, pz_eq, pz_max, pz_min, pz_cl, pz_and, pz_or, pz_shl, pz_clr, pz_bit, pz_ff, pz_tt, pz_5, pz_6, pz_7, pz_10000, pz_sb, pz_b0, pz_b1, ex a ha, ex b hb, ew a ha]
  by_cases q : x b < x a + w a
  · rw [if_pos q, decide_eq_false (by omega)]; rfl
  · rw [if_neg q, decide_eq_true (by omega)]; rfl
theorem rl_ok {M : Mm} {n td a b : Nat} {w h x y : Nat → Nat} (g : GB n td w h x y) (r : RG M n td w h x y) (ha : a < n) (hb : b < n) : f_X10_isLeftOf (nI a) (nI b) M = some (nI (decide (x a + swd w h td a ≤ x b)).toNat) := by
  unfold f_X10_isLeftOf
  have hn := g.n
  have h1 := g.x a ha
  have h2 := g.x b hb
  have h3 := g.sw ha
  simp (disch := first | assumption | omega) only [↓pz_n1, pz_mm, pz_mm', ↓pz_lt1, ↓pz_bd, ↓pz_bd2, ↓pz_tn, ↓pz_ts, pz_0, pz_1, pz_2, pz_3, pz_4, pz_12, pz_13, pz_15, pz_16, pz_20, pz_23, pz_24, pz_200, ↓pz_rd, ↓pz_wr, pz_add, pz_mul, pz_sub, pz_le, pz_lt, pz_eq, pz_max, pz_min, pz_cl, pz_and, pz_or, pz_shl, pz_clr, pz_bit, pz_ff, pz_tt, pz_5, pz_6, pz_7, pz_10000, pz_sb, pz_b0, pz_b1, r.x a ha, r.x b hb, pz_rw r.td g.td r.w r.h ha hn]
  by_cases q : x b < x a + swd w h td a
  · rw [if_pos q, decide_eq_false (by omega)]; rfl
  · rw [if_neg q, decide_eq_true (by omega)]; rfl
theorem rb_ok {M : Mm} {n td a b : Nat} {w h x y : Nat → Nat} (g : GB n td w h x y) (r : RG M n td w h x y) (ha : a < n) (hb : b < n) : f_X10_isBelow (nI a) (nI b) M = some (nI (decide (y a + swd h w td a ≤ y b)).toNat) := by
  unfold f_X10_isBelow
  have hn := g.n
  have h1 := g.y a ha
  have h2 := g.y b hb
  have h3 := g.sh ha
  simp (disch := first | assumption | omega) only [↓pz_n1, pz_mm, pz_mm', ↓pz_lt1, ↓pz_bd, ↓pz_bd2, ↓pz_tn, ↓pz_ts, pz_0, pz_1, pz_2, pz_3, pz_4, pz_12, pz_13, pz_15, pz_16, pz_20, pz_23, pz_24, pz_200, ↓pz_rd, ↓pz_wr, pz_add, pz_mul, pz_sub, pz_le, pz_lt, pz_eq, pz_max, pz_min, pz_cl, pz_and, pz_or, pz_shl, pz_clr, pz_bit, pz_ff, pz_tt, pz_5, pz_6, pz_7, pz_10000, pz_sb, pz_b0, pz_b1, r.y a ha, r.y b hb, pz_rh r.td g.td r.w r.h ha hn]
  by_cases q : y b < y a + swd h w td a
  · rw [if_pos q, decide_eq_false (by omega)]; rfl
  · rw [if_neg q, decide_eq_true (by omega)]; rfl
theorem dc_ok {M : Mm} {k0 n td a b : Nat} {w h x y : Nat → Nat} (g : GB n td w h x y) (c : CG M k0 n td w h x y) (ha : a < n) (hb : b < n) : (Cl x y (swd w h td) (swd h w td) a b → f_X2_doClash k0 (nI a) (nI b) M = some (nI 1)) ∧ (¬ Cl x y (swd w h td) (swd h w td) a b → f_X2_doClash k0 (nI a) (nI b) M = some (nI 0)) := by
  unfold f_X2_doClash Cl
  have hn := g.n
  rw [il_ok c.x c.w hn ha hb g.x (fun b hb => g.sw hb), il_ok c.x c.w hn hb ha g.x (fun b hb => g.sw hb), ib_ok c.y c.h hn ha hb g.y (fun b hb => g.sh hb), ib_ok c.y c.h hn hb ha g.y (fun b hb => g.sh hb)]
  simp only [pz_bd, pz_0, pz_1, pz_d0]
  constructor
  · rintro ⟨h1, h2, h3, h4⟩
    rw [if_pos h1, if_pos h2, if_pos h3, if_pos h4]
  · intro hno
    by_cases h1 : ¬ x a + swd w h td a ≤ x b
    · rw [if_pos h1]
      by_cases h2 : ¬ x b + swd w h td b ≤ x a
      · rw [if_pos h2]
        by_cases h3 : ¬ y a + swd h w td a ≤ y b
        · rw [if_pos h3]
          by_cases h4 : ¬ y b + swd h w td b ≤ y a
          · exact absurd ⟨h1, h2, h3, h4⟩ hno
          · rw [if_neg h4]
        · rw [if_neg h3]
      · rw [if_neg h2]
    · rw [if_neg h1]
theorem rc_ok {M : Mm} {n td a b : Nat} {w h x y : Nat → Nat} (g : GB n td w h x y) (c : RG M n td w h x y) (ha : a < n) (hb : b < n) : (Cl x y (swd w h td) (swd h w td) a b → f_X10_clash (nI a) (nI b) M = some (nI 1)) ∧ (¬ Cl x y (swd w h td) (swd h w td) a b → f_X10_clash (nI a) (nI b) M = some (nI 0)) := by
  unfold f_X10_clash Cl
  have hn := g.n
  rw [rl_ok g c ha hb, rl_ok g c hb ha, rb_ok g c ha hb, rb_ok g c hb ha]
  simp only [pz_bd, pz_0, pz_1, pz_d0]
  constructor
  · rintro ⟨h1, h2, h3, h4⟩
    rw [if_pos h1, if_pos h2, if_pos h3, if_pos h4]
  · intro hno
    by_cases h1 : ¬ x a + swd w h td a ≤ x b
    · rw [if_pos h1]
      by_cases h2 : ¬ x b + swd w h td b ≤ x a
      · rw [if_pos h2]
        by_cases h3 : ¬ y a + swd h w td a ≤ y b
        · rw [if_pos h3]
          by_cases h4 : ¬ y b + swd h w td b ≤ y a
          · exact absurd ⟨h1, h2, h3, h4⟩ hno
          · rw [if_neg h4]
        · rw [if_neg h3]
      · rw [if_neg h2]
    · rw [if_neg h1]
