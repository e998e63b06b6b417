/-! helpers of the arms -/
theorem pz_5 : (5 : Int32) = nI 5 := Int32.toInt_inj.mp (by decide)
theorem pz_6 : (6 : Int32) = nI 6 := Int32.toInt_inj.mp (by decide)
theorem pz_10000 : (10000 : Int32) = nI 10000 := Int32.toInt_inj.mp (by decide)
theorem pz_sb {a b : Nat} (ha : a < 2147483648) (hb : b < 31) : (nI a >>> (nI b &&& 31)) &&& nI 1 = nI (a.testBit b).toNat := pz_bit ha hb
theorem pz_b1 (x : Bool) : (nI x.toNat = nI 1) = (x = true) := by
  apply propext
  cases x
  · exact ⟨fun h => absurd h (by decide), fun h => nomatch h⟩
  · exact ⟨fun _ => rfl, fun _ => rfl⟩
theorem pz_b0 (x : Bool) : (nI x.toNat = nI 0) = (x = false) := by
  apply propext
  cases x
  · exact ⟨fun _ => rfl, fun _ => rfl⟩
  · exact ⟨fun h => absurd h (by decide), fun h => nomatch h⟩
theorem bde {α β : Type} {x : Option α} {a : α} (h : x = some a) (f : α → Option β) : x.bind f = f a := by rw [h]; rfl
theorem bde2 {α β γ : Type} {x : Option (α × β)} {a : α} {b : β} (h : x = some (a, b)) (f : α → β → Option γ) : bd2 x f = f a b := by rw [h]; rfl
theorem bool_lt (x : Bool) : x.toNat < 2 := by cases x <;> decide
def SB (lo hi k : Nat) : Prop := lo ≤ k ∧ k ≤ hi
def SCO (k : Nat) : Prop := k < 69 ∨ k = 105
theorem lg_self (v : Int64) : lg_cmp v v = 0 := by
  unfold lg_cmp
  rw [if_neg (by exact Int64.lt_irrefl), if_pos rfl]
def LQ (F : Abs → Nat → Mm → Prop) (M : Mm) (A' : Abs) (o : Option Int64) (x : Option (Int32 × Mm)) : Prop := Wp x fun r => CI F r.2 A' ∧ Fr SCO M r.2 ∧ ((o = none ∧ r.1 = nI 1) ∨ ∃ v, o = some v ∧ r.1 = nI 0 ∧ r.2.2 105 0 = v)
def RQr {α : Type} (M : Mm) (A' : Abs) (o : Option α) (x : Option (α × Mm)) : Prop := Wp x fun r => RI r.2 A' ∧ Fr SR M r.2 ∧ ((o = none ∧ r.2.1 69 0 = nI 1) ∨ ∃ v, o = some v ∧ r.2.1 69 0 = nI 0 ∧ r.1 = v)
theorem sco_sr {k : Nat} (h : SCO k) : ¬ SR k := fun h2 => by unfold SCO at h; unfold SR at h2; omega
theorem sr_105 : ¬ SR 105 := fun h => by unfold SR at h; omega
theorem so_sc {k : Nat} (h : SO k) : ¬ SC k := fun h2 => by unfold SO at h; unfold SC at h2; omega
theorem arm_w {F : Abs → Nat → Mm → Prop} (hF : FOK F) {α : Type} (c : α → Int64) (o : Option α) {n : Nat} {M : Mm} {A A' : Abs} {xL : Option (Int32 × Mm)} {xR : Mm → Option (α × Mm)} {J : Mm → Unit → Option (Option (Int32 × Mm))} (hA' : AOK A') (hR : RI M A) (hL : LQ F M A' (o.map c) xL) (hX : ∀ M1, RI M1 A → RQr M1 A' o (xR M1)) (hJ : ∀ M, J M () = f_law_J1690 (nI n) M) :
    Nx F n (bd2 xL fun r M1 => bd2 (xR M1) fun r2 M2 => if f_X10_thrown M2 = r then (if r = nI 0 then rdL 1 M2 105 (nI 0) fun v => if lg_cmp v (c r2) = nI 0 then J M2 () else none else J M2 ()) else none) := by
  obtain ⟨⟨r, M1⟩, rfl, hC1, hf1, h1⟩ := hL
  obtain ⟨⟨r2, M2⟩, e2, hR2, hf2, h2⟩ := hX M1 (hR.fr hf1 (fun _ h => sco_sr h))
  have hI : Inv F M2 := inv_step hF hA' hC1 hR2 hf2
  rw [pz_bd2, e2, pz_bd2]
  unfold f_X10_thrown
  rcases h1 with ⟨ho, h1⟩ | ⟨v, ho, h1, h1'⟩
  · rcases h2 with ⟨_, h2⟩ | ⟨v, hv, _⟩
    · have h1 : r = nI 1 := h1
      have h2 : M2.1 69 0 = nI 1 := h2
      rw [h2, h1, if_pos rfl, if_neg (by decide), hJ]
      exact nx_end hI
    · rw [hv] at ho; cases ho
  · rcases h2 with ⟨hv, _⟩ | ⟨u, hv, h2, h2'⟩
    · rw [hv] at ho; cases ho
    · have h1 : r = nI 0 := h1
      have h2 : M2.1 69 0 = nI 0 := h2
      have h2' : r2 = u := h2'
      have h1' : M1.2 105 0 = v := h1'
      rw [hv] at ho
      have ho : c u = v := Option.some.inj ho
      rw [h2, h1, if_pos rfl, if_pos rfl, pz_rdL (by omega) (by omega), show M2.2 105 = M1.2 105 from hf2.2 105 sr_105, h1', h2', ho, lg_self, if_pos (by decide), hJ]
      exact nx_end hI
theorem lq_p {F : Abs → Nat → Mm → Prop} (hF : FOK F) {α : Type} (c : α → Int64) {M : Mm} {A : Abs} (hC : CI F M A) {o : Option α} {y : Option (Option α)} (e : y = some o) : LQ F M A (o.map c) (y.bind fun o_2 => tr1 o_2 (some ((1 : Int32), M)) fun r => wrL 1 M 105 (0 : Int32) (c r) fun M4 => some ((0 : Int32), M4)) := by
  subst e
  cases o with
  | none => exact wp_s ⟨hC, Fr.rf, Or.inl ⟨rfl, rfl⟩⟩
  | some v =>
    rw [pz_bd, pz_ts, pz_0, pz_wrL (by omega) (by omega)]
    exact wp_s ⟨hC.fr hF (S := SO) (Fr.rf.l rfl) (fun _ h => so_sc h), Fr.rf.l (Or.inr rfl), Or.inr ⟨_, rfl, rfl, by show (wl M 105 0 (c v)).2 105 0 = c v; rfl⟩⟩
theorem lq_m {F : Abs → Nat → Mm → Prop} (hF : FOK F) {α : Type} (c : α → Int64) {M : Mm} {A' : Abs} {o : Option α} {y : Option (Option α × Mm)} (h : Wp y (fun r => r.1 = o ∧ CI F r.2 A' ∧ Fr SC M r.2)) : LQ F M A' (o.map c) (bd2 y fun o_2 M3 => tr1 o_2 (some ((1 : Int32), M3)) fun r => wrL 1 M3 105 (0 : Int32) (c r) fun M5 => some ((0 : Int32), M5)) := by
  obtain ⟨⟨o2, M3⟩, rfl, e, hC, hf⟩ := h
  have e : o2 = o := e
  subst e
  have hf' : Fr SCO M M3 := hf.mono (fun k h => Or.inl h)
  cases o2 with
  | none => exact wp_s ⟨hC, hf', Or.inl ⟨rfl, rfl⟩⟩
  | some v =>
    rw [pz_bd2, pz_ts, pz_0, pz_wrL (by omega) (by omega)]
    exact wp_s ⟨hC.fr hF (S := SO) (Fr.rf.l rfl) (fun _ h => so_sc h), hf'.l (Or.inr rfl), Or.inr ⟨_, rfl, rfl, by show (wl M3 105 0 (c v)).2 105 0 = c v; rfl⟩⟩
theorem arm_n {F : Abs → Nat → Mm → Prop} (hF : FOK F) {n : Nat} {M : Mm} {A A' : Abs} {v : Int32} {xC : Option (Int32 × Mm)} {xR : Mm → Option (Int32 × Mm)} (hA' : AOK A') (hR : RI M A) (hC : Wp xC (fun r => r.1 = v ∧ CI F r.2 A' ∧ Fr SC M r.2)) (hX : ∀ M1, RI M1 A → Wp (xR M1) (fun r => r.1 = v ∧ RI r.2 A' ∧ Fr SR M1 r.2)) :
    Nx F n (bd2 xC fun r M1 => bd2 (xR M1) fun r2 M2 => if r = r2 then f_law_J1690 (nI n) M2 else none) := by
  obtain ⟨⟨r, M1⟩, rfl, e1, hC1, hf1⟩ := hC
  obtain ⟨⟨r2, M2⟩, e2, e3, hR2, hf2⟩ := hX M1 (hR.fr hf1 (fun _ h => fr_apart h))
  have e1 : r = v := e1
  have e3 : r2 = v := e3
  rw [pz_bd2, e2, pz_bd2, e1, e3, if_pos rfl]
  exact nx_end (inv_step hF hA' hC1 hR2 hf2)
theorem rq_fail {α : Type} {M : Mm} {A : Abs} (h : RI M A) (v : α) : RQr M A none (some (v, wi (wi M 69 0 (nI 0)) 69 0 (nI 1))) := wp_s ⟨(h.code _).code _, fr69.w ⟨by decide, by decide⟩, Or.inl ⟨rfl, rfl⟩⟩
theorem rq_val {α : Type} {M : Mm} {A : Abs} (h : RI M A) (v : α) : RQr M A (some v) (some (v, wi M 69 0 (nI 0))) := wp_s ⟨h.code _, fr69, Or.inr ⟨v, rfl, rfl, rfl⟩⟩
/-! a block or none -/
theorem isb (a : Int32) {n : Nat} (hn : n ≤ 12) : (∃ b, b < n ∧ a = nI b) ∨ (a < nI 0 ∨ nI n ≤ a) := by
  by_cases h0 : a < nI 0
  · exact Or.inr (Or.inl h0)
  · by_cases h1 : nI n ≤ a
    · exact Or.inr (Or.inr h1)
    · exact Or.inl (pz_of h0 h1 (by omega))
theorem has_y {M : Mm} {n b : Nat} (h : M.1 1 3 = nI n) (hn : n ≤ 12) (hb : b < n) : f_X0_has (nI b) M = nI 1 := by
  unfold f_X0_has
  rw [h]
  simp (disch := first | assumption | omega) only [↓pz_n1, pz_mm, pz_mm', ↓pz_lt1, ↓pz_bd, ↓pz_bd2, ↓pz_tn, ↓pz_ts, pz_0, pz_1, pz_2, pz_3, pz_4, pz_12, pz_13, pz_15, pz_16, pz_20, pz_23, pz_24, pz_200, ↓pz_rd, ↓pz_wr, pz_add, pz_mul, pz_sub, pz_le, pz_lt, pz_eq, pz_max, pz_min, pz_cl, pz_and, pz_or, pz_shl, pz_clr, pz_bit, pz_ff, pz_tt, pz_5, pz_6, pz_7, pz_10000, pz_sb, pz_b0, pz_b1]
  rw [if_neg (by omega), if_neg (by omega)]
theorem has_n {M : Mm} {n : Nat} {a : Int32} (h : M.1 1 3 = nI n) (ha : a < nI 0 ∨ nI n ≤ a) : f_X0_has a M = nI 0 := by
  unfold f_X0_has
  rw [h]
  simp (disch := first | assumption | omega) only [↓pz_n1, pz_mm, pz_mm', ↓pz_lt1, ↓pz_bd, ↓pz_bd2, ↓pz_tn, ↓pz_ts, pz_0, pz_1, pz_2, pz_3, pz_4, pz_12, pz_13, pz_15, pz_16, pz_20, pz_23, pz_24, pz_200, ↓pz_rd, ↓pz_wr, pz_add, pz_mul, pz_sub, pz_le, pz_lt, pz_eq, pz_max, pz_min, pz_cl, pz_and, pz_or, pz_shl, pz_clr, pz_bit, pz_ff, pz_tt, pz_5, pz_6, pz_7, pz_10000, pz_sb, pz_b0, pz_b1]
  rcases ha with ha | ha
  · rw [if_pos ha]
  · rw [if_pos ha]; split <;> rfl
theorem nb_y {M : Mm} {n b : Nat} (h : M.1 1 3 = nI n) (hn : n ≤ 12) (hb : b < n) : f_X9_needBlock (nI b) M = some () := by
  unfold f_X9_needBlock
  rw [has_y h hn hb, if_neg (by decide)]
theorem nb_n {M : Mm} {n : Nat} {a : Int32} (h : M.1 1 3 = nI n) (ha : a < nI 0 ∨ nI n ≤ a) : f_X9_needBlock a M = none := by
  unfold f_X9_needBlock
  rw [has_n h ha, if_pos (by decide)]
theorem ib_y {M : Mm} {n b : Nat} (h : M.1 69 1 = nI n) (hn : n ≤ 12) (hb : b < n) : f_X10_isBlock (nI b) M = nI 1 := by
  unfold f_X10_isBlock
  rw [h]
  simp (disch := first | assumption | omega) only [↓pz_n1, pz_mm, pz_mm', ↓pz_lt1, ↓pz_bd, ↓pz_bd2, ↓pz_tn, ↓pz_ts, pz_0, pz_1, pz_2, pz_3, pz_4, pz_12, pz_13, pz_15, pz_16, pz_20, pz_23, pz_24, pz_200, ↓pz_rd, ↓pz_wr, pz_add, pz_mul, pz_sub, pz_le, pz_lt, pz_eq, pz_max, pz_min, pz_cl, pz_and, pz_or, pz_shl, pz_clr, pz_bit, pz_ff, pz_tt, pz_5, pz_6, pz_7, pz_10000, pz_sb, pz_b0, pz_b1]
  rw [if_neg (by omega), if_neg (by omega)]
theorem ib_n {M : Mm} {n : Nat} {a : Int32} (h : M.1 69 1 = nI n) (ha : a < nI 0 ∨ nI n ≤ a) : f_X10_isBlock a M = nI 0 := by
  unfold f_X10_isBlock
  rw [h]
  simp (disch := first | assumption | omega) only [↓pz_n1, pz_mm, pz_mm', ↓pz_lt1, ↓pz_bd, ↓pz_bd2, ↓pz_tn, ↓pz_ts, pz_0, pz_1, pz_2, pz_3, pz_4, pz_12, pz_13, pz_15, pz_16, pz_20, pz_23, pz_24, pz_200, ↓pz_rd, ↓pz_wr, pz_add, pz_mul, pz_sub, pz_le, pz_lt, pz_eq, pz_max, pz_min, pz_cl, pz_and, pz_or, pz_shl, pz_clr, pz_bit, pz_ff, pz_tt, pz_5, pz_6, pz_7, pz_10000, pz_sb, pz_b0, pz_b1]
  rcases ha with ha | ha
  · rw [if_pos ha]
  · rw [if_pos ha]; split <;> rfl
theorem sw_of (a : Int32) {k : Nat} (hk : k < 100000) : (∃ j, j ≤ k ∧ a = nI j) ∨ ((a < nI 0 ∨ (¬ a ≤ nI k ∧ nI k < a ∧ ¬ a < nI 0)) ∧ ∀ j, j ≤ k → ¬ a = nI j) := by
  by_cases h0 : a < nI 0
  · refine Or.inr ⟨Or.inl h0, fun j hj e => ?_⟩
    rw [e, pz_lt (by omega) (by omega)] at h0
    omega
  · obtain ⟨j, hj, rfl⟩ := nI_of h0
    by_cases h1 : j ≤ k
    · exact Or.inl ⟨j, h1, rfl⟩
    · refine Or.inr ⟨Or.inr ⟨?_, ?_, h0⟩, fun i hi e => ?_⟩
      · rw [pz_le hj (by omega)]; exact h1
      · rw [pz_lt (by omega) hj]; omega
      · rw [pz_eq hj (by omega)] at e; omega
/-! masks -/
def msk (x : Int32) (t : Nat) : Nat := x.toBitVec.toNat &&& t
theorem nI_bits (x : Int32) : nI x.toBitVec.toNat = x := Int32.toBitVec_inj.mp (by show BitVec.ofNat 32 x.toBitVec.toNat = _; rw [BitVec.ofNat_toNat]; exact BitVec.setWidth_eq _)
theorem pz_msk (x : Int32) (t : Nat) : x &&& nI t = nI (msk x t) := by
  have := pz_and x.toBitVec.toNat t
  rw [nI_bits] at this
  exact this
theorem msk_lt {x : Int32} {t n : Nat} (h : t < 2 ^ n) : msk x t < 2 ^ n := and_lt' h
theorem msk_sub (x : Int32) (t : Nat) : msk x t &&& t = msk x t := by unfold msk; rw [Nat.and_assoc, Nat.and_self]
theorem sub_lt {td tb n : Nat} (h : td &&& tb = td) (ht : tb < 2 ^ n) : td < 2 ^ n := by rw [← h]; exact and_lt' ht
theorem p12 {a n : Nat} (h : a < 2 ^ n) (hn : n ≤ 12) : a < 4096 := Nat.lt_of_lt_of_le h (pow_lt31 hn)
theorem msk_0 (t : Nat) : msk (nI 0) t = 0 := by show 0 &&& t = 0; exact Nat.zero_and t
/-! loops over a memory and a counter -/
theorem wp_for {step : Int32 × Mm → Option ((Int32 × Mm) ⊕ Mm)} (I : Nat → Mm → Prop) (n : Nat) (hn : n < 1000000) {M : Mm} (h : ∀ i M, i < n → I i M → Wp (step (nI i, M)) (fun r => ∃ M', r = .inl (nI (i + 1), M') ∧ I (i + 1) M')) (hx : ∀ M, I n M → step (nI n, M) = some (.inr M)) (h0 : I 0 M) : Wp (loop step FU (nI 0, M)) (I n) := by
  refine wp_l (fun i v => v.1 = nI i ∧ I i v.2) n (fu_lt hn) ?_ ?_ ⟨rfl, h0⟩
  · rintro i ⟨v, M1⟩ hi ⟨h1, h2⟩
    have h1 : v = nI i := h1
    subst h1
    exact wp_m (h i M1 hi h2) (fun r ⟨M', e, h⟩ => Or.inl ⟨_, e, rfl, h⟩)
  · rintro ⟨v, M1⟩ ⟨h1, h2⟩
    have h1 : v = nI n := h1
    subst h1
    exact wp_e (hx M1 h2) ⟨M1, rfl, h2⟩
/-! side -/
theorem arm_2 {F : Abs → Nat → Mm → Prop} (hF : FOK F) {xs : Nat → Int32} {L n : Nat} {M : Mm} (hL : L ≤ 3584) (hn : n + 7 ≤ L) (hI : Inv F M) : Nx F n (f_arm_2 xs L (nI n) M) := by
  obtain ⟨A, hA, hC, hR⟩ := hI
  have hn12 := hA.n
  unfold f_arm_2
  simp (disch := first | assumption | omega) only [↓pz_n1, pz_mm, pz_mm', ↓pz_lt1, ↓pz_bd, ↓pz_bd2, ↓pz_tn, ↓pz_ts, pz_0, pz_1, pz_2, pz_3, pz_4, pz_12, pz_13, pz_15, pz_16, pz_20, pz_23, pz_24, pz_200, ↓pz_rd, ↓pz_wr, pz_add, pz_mul, pz_sub, pz_le, pz_lt, pz_eq, pz_max, pz_min, pz_cl, pz_and, pz_or, pz_shl, pz_clr, pz_bit, pz_ff, pz_tt, pz_5, pz_6, pz_7, pz_10000, pz_sb, pz_b0, pz_b1, pz_rdX]
  generalize xs (n + 1) = a
  generalize xs (n + 2) = c
  have key : ∃ o, f_X9_side a c M = some o ∧ ∀ M1, RI M1 A → RQr M1 A o (f_X10_side a c M1) := by
    unfold f_X9_side f_X10_side f_X10_side_J22 f_X10_fail
    have en : ∀ M1, RI M1 A → (wi M1 69 0 (nI 0)).1 69 1 = nI A.n := fun M1 h => h.n
    rcases isb a hn12 with ⟨b, hb, rfl⟩ | ha
    · rw [nb_y hC.n hn12 hb]
      have htb := p12 hA.tb hn12
      rcases sw_of c (k := 2) (by omega) with ⟨j, hj, rfl⟩ | ⟨hc1, hc2⟩
      · rcases (by omega : j = 0 ∨ j = 1 ∨ j = 2) with rfl | rfl | rfl
        · simp (disch := first | assumption | omega) only [↓pz_n1, pz_mm, pz_mm', ↓pz_lt1, ↓pz_bd, ↓pz_bd2, ↓pz_tn, ↓pz_ts, pz_0, pz_1, pz_2, pz_3, pz_4, pz_12, pz_13, pz_15, pz_16, pz_20, pz_23, pz_24, pz_200, ↓pz_rd, ↓pz_wr, pz_add, pz_mul, pz_sub, pz_le, pz_lt, pz_eq, pz_max, pz_min, pz_cl, pz_and, pz_or, pz_shl, pz_clr, pz_bit, pz_ff, pz_tt, pz_5, pz_6, pz_7, pz_10000, pz_sb, pz_b0, pz_b1]
          refine ⟨_, rfl, fun M1 h => ?_⟩
          have e1 : (wi M1 69 0 (nI 0)).1 70 b = nI (A.w b) := h.w b hb
          rw [ib_y (en M1 h) hn12 hb]
          simp (disch := first | assumption | omega) only [↓pz_n1, pz_mm, pz_mm', ↓pz_lt1, ↓pz_bd, ↓pz_bd2, ↓pz_tn, ↓pz_ts, pz_0, pz_1, pz_2, pz_3, pz_4, pz_12, pz_13, pz_15, pz_16, pz_20, pz_23, pz_24, pz_200, ↓pz_rd, ↓pz_wr, pz_add, pz_mul, pz_sub, pz_le, pz_lt, pz_eq, pz_max, pz_min, pz_cl, pz_and, pz_or, pz_shl, pz_clr, pz_bit, pz_ff, pz_tt, pz_5, pz_6, pz_7, pz_10000, pz_sb, pz_b0, pz_b1, e1, hC.w b hb]
          exact rq_val h _
        · simp (disch := first | assumption | omega) only [↓pz_n1, pz_mm, pz_mm', ↓pz_lt1, ↓pz_bd, ↓pz_bd2, ↓pz_tn, ↓pz_ts, pz_0, pz_1, pz_2, pz_3, pz_4, pz_12, pz_13, pz_15, pz_16, pz_20, pz_23, pz_24, pz_200, ↓pz_rd, ↓pz_wr, pz_add, pz_mul, pz_sub, pz_le, pz_lt, pz_eq, pz_max, pz_min, pz_cl, pz_and, pz_or, pz_shl, pz_clr, pz_bit, pz_ff, pz_tt, pz_5, pz_6, pz_7, pz_10000, pz_sb, pz_b0, pz_b1]
          refine ⟨_, rfl, fun M1 h => ?_⟩
          have e1 : (wi M1 69 0 (nI 0)).1 71 b = nI (A.h b) := h.h b hb
          rw [ib_y (en M1 h) hn12 hb]
          simp (disch := first | assumption | omega) only [↓pz_n1, pz_mm, pz_mm', ↓pz_lt1, ↓pz_bd, ↓pz_bd2, ↓pz_tn, ↓pz_ts, pz_0, pz_1, pz_2, pz_3, pz_4, pz_12, pz_13, pz_15, pz_16, pz_20, pz_23, pz_24, pz_200, ↓pz_rd, ↓pz_wr, pz_add, pz_mul, pz_sub, pz_le, pz_lt, pz_eq, pz_max, pz_min, pz_cl, pz_and, pz_or, pz_shl, pz_clr, pz_bit, pz_ff, pz_tt, pz_5, pz_6, pz_7, pz_10000, pz_sb, pz_b0, pz_b1, e1, hC.h b hb]
          exact rq_val h _
        · simp (disch := first | assumption | omega) only [↓pz_n1, pz_mm, pz_mm', ↓pz_lt1, ↓pz_bd, ↓pz_bd2, ↓pz_tn, ↓pz_ts, pz_0, pz_1, pz_2, pz_3, pz_4, pz_12, pz_13, pz_15, pz_16, pz_20, pz_23, pz_24, pz_200, ↓pz_rd, ↓pz_wr, pz_add, pz_mul, pz_sub, pz_le, pz_lt, pz_eq, pz_max, pz_min, pz_cl, pz_and, pz_or, pz_shl, pz_clr, pz_bit, pz_ff, pz_tt, pz_5, pz_6, pz_7, pz_10000, pz_sb, pz_b0, pz_b1, hC.tb]
          refine ⟨_, rfl, fun M1 h => ?_⟩
          have e1 : (wi M1 69 0 (nI 0)).1 73 b = nI (A.tb.testBit b).toNat := h.tb b hb
          rw [ib_y (en M1 h) hn12 hb]
          simp (disch := first | assumption | omega) only [↓pz_n1, pz_mm, pz_mm', ↓pz_lt1, ↓pz_bd, ↓pz_bd2, ↓pz_tn, ↓pz_ts, pz_0, pz_1, pz_2, pz_3, pz_4, pz_12, pz_13, pz_15, pz_16, pz_20, pz_23, pz_24, pz_200, ↓pz_rd, ↓pz_wr, pz_add, pz_mul, pz_sub, pz_le, pz_lt, pz_eq, pz_max, pz_min, pz_cl, pz_and, pz_or, pz_shl, pz_clr, pz_bit, pz_ff, pz_tt, pz_5, pz_6, pz_7, pz_10000, pz_sb, pz_b0, pz_b1, e1]
          cases A.tb.testBit b
          · exact rq_val h _
          · exact rq_val h _
      · simp (disch := first | assumption | omega) only [↓pz_n1, pz_mm, pz_mm', ↓pz_lt1, ↓pz_bd, ↓pz_bd2, ↓pz_tn, ↓pz_ts, pz_0, pz_1, pz_2, pz_3, pz_4, pz_12, pz_13, pz_15, pz_16, pz_20, pz_23, pz_24, pz_200, ↓pz_rd, ↓pz_wr, pz_add, pz_mul, pz_sub, pz_le, pz_lt, pz_eq, pz_max, pz_min, pz_cl, pz_and, pz_or, pz_shl, pz_clr, pz_bit, pz_ff, pz_tt, pz_5, pz_6, pz_7, pz_10000, pz_sb, pz_b0, pz_b1]
        rw [if_neg (hc2 0 (by omega)), if_neg (hc2 1 (by omega)), if_neg (hc2 2 (by omega))]
        refine ⟨_, rfl, fun M1 h => ?_⟩
        rw [ib_y (en M1 h) hn12 hb]
        simp (disch := first | assumption | omega) only [↓pz_n1, pz_mm, pz_mm', ↓pz_lt1, ↓pz_bd, ↓pz_bd2, ↓pz_tn, ↓pz_ts, pz_0, pz_1, pz_2, pz_3, pz_4, pz_12, pz_13, pz_15, pz_16, pz_20, pz_23, pz_24, pz_200, ↓pz_rd, ↓pz_wr, pz_add, pz_mul, pz_sub, pz_le, pz_lt, pz_eq, pz_max, pz_min, pz_cl, pz_and, pz_or, pz_shl, pz_clr, pz_bit, pz_ff, pz_tt, pz_5, pz_6, pz_7, pz_10000, pz_sb, pz_b0, pz_b1]
        rcases hc1 with h1 | ⟨h1, _, _⟩
        · rw [if_pos h1]; exact rq_fail h _
        · rw [if_neg h1]
          split <;> exact rq_fail h _
    · rw [nb_n hC.n ha]
      simp (disch := first | assumption | omega) only [↓pz_n1, pz_mm, pz_mm', ↓pz_lt1, ↓pz_bd, ↓pz_bd2, ↓pz_tn, ↓pz_ts, pz_0, pz_1, pz_2, pz_3, pz_4, pz_12, pz_13, pz_15, pz_16, pz_20, pz_23, pz_24, pz_200, ↓pz_rd, ↓pz_wr, pz_add, pz_mul, pz_sub, pz_le, pz_lt, pz_eq, pz_max, pz_min, pz_cl, pz_and, pz_or, pz_shl, pz_clr, pz_bit, pz_ff, pz_tt, pz_5, pz_6, pz_7, pz_10000, pz_sb, pz_b0, pz_b1]
      refine ⟨_, rfl, fun M1 h => ?_⟩
      rw [ib_n (en M1 h) ha]
      simp (disch := first | assumption | omega) only [↓pz_n1, pz_mm, pz_mm', ↓pz_lt1, ↓pz_bd, ↓pz_bd2, ↓pz_tn, ↓pz_ts, pz_0, pz_1, pz_2, pz_3, pz_4, pz_12, pz_13, pz_15, pz_16, pz_20, pz_23, pz_24, pz_200, ↓pz_rd, ↓pz_wr, pz_add, pz_mul, pz_sub, pz_le, pz_lt, pz_eq, pz_max, pz_min, pz_cl, pz_and, pz_or, pz_shl, pz_clr, pz_bit, pz_ff, pz_tt, pz_5, pz_6, pz_7, pz_10000, pz_sb, pz_b0, pz_b1]
      exact rq_fail h _
  obtain ⟨o, e1, e2⟩ := key
  exact arm_w hF Int32.toInt64 o hA hR (lq_p hF Int32.toInt64 hC e1) e2 (fun _ => rfl)
