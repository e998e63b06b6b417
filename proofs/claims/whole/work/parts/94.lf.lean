/-! least: what is found, and how it is laid -/
theorem wp_an {α : Type} {x : Option α} {P Q : α → Prop} (h1 : Wp x P) (h2 : Wp x Q) : Wp x (fun a => P a ∧ Q a) := by
  obtain ⟨a, e, p⟩ := h1
  obtain ⟨b, e', q⟩ := h2
  rw [e] at e'
  cases e'
  exact ⟨a, e, p, q⟩
theorem lop_fr {F : Abs → Nat → Mm → Prop} {M M0 : Mm} {A : Abs} (hA : AOK A) (hC : CI F M0 A) (hf : Fr (SB 5 33) M0 M) {one two : Nat → Nat} (p1 : PermN A.n one) (p2 : PermN A.n two) (o5 : M.1 11 5 = nI A.n) (o2 : IA M 13 A.n two) (o3 : IA M 14 A.n (fun b => ps one b A.n)) (x : Int32) :
    Wp (f_X9_layOut 11 (nI 1) x M) (fun M' => Fr (SB 0 33) M M') := by
  have hn := hA.n
  have q : ∀ k, k < 5 → M.1 k = M0.1 k := fun k hk => hf.1 k (fun h => by unfold SB at h; omega)
  unfold f_X9_layOut f_tlay
  refine wp_b (take_ok (n := A.n) (tb := A.tb) (w := A.w) (h := A.h) (by omega) hn (by rw [q 1 (by omega)]; exact hC.n) (by rw [q 1 (by omega)]; exact hC.tb) hA.tb (hC.w.eq (q 2 (by omega))) (hC.h.eq (q 3 (by omega))) x) ?_
  rintro M1 ⟨a1, a2, a3, a4, a5⟩
  rw [if_pos (Or.inl rfl)]
  have q1 : ∀ k, 11 ≤ k → M1.1 k = M.1 k := fun k hk => a5.1 k (fun h => by unfold SB at h; omega)
  refine wp_b (lay_ok (k0 := 11) (k1 := 5) (pos := fun b => ps one b A.n) hn (by omega) (by rw [q1 11 (by omega)]; exact o5) (o2.eq (q1 13 (by omega))) p2 (o3.eq (q1 14 (by omega))) (fun b hb => by have := (p1.pl hb).1; show ps one b A.n < 12; omega) a3 a4 (fun b hb => swd_le hA.w hA.h hb) (fun b hb => swd_le hA.h hA.w hb)) ?_
  rintro M2 ⟨b1, b2, b3⟩
  rw [pz_lt1]
  exact wp_s (((a5.mono (fun k h => by unfold SB at h ⊢; omega)).tr (b3.mono (fun k h => by unfold SB at h ⊢; omega))).w ⟨by omega, by omega⟩)
theorem pair_fr {F : Abs → Nat → Mm → Prop} {M : Mm} {A : Abs} (hA : AOK A) (hC : CI F M A) (a b : Int64) (x : Int32) (h0 : A.n ≠ 0) (ha : PermN A.n (nib a)) (hb : PermN A.n (nib b)) : Wp (f_X9_pair a b x M) (fun r => Fr (SB 0 33) M r.2) := by
  have hn := hA.n
  unfold f_X9_pair
  rw [pz_lt1, hC.n, pz_0]
  simp (disch := omega) only [pz_eq]
  rw [if_neg h0, (isord hn a).1 ha, (isord hn b).1 hb]
  simp (disch := first | assumption | omega) only [↓pz_n1, pz_mm, pz_mm', ↓pz_lt1, ↓pz_bd, ↓pz_bd2, ↓pz_tn, ↓pz_ts, pz_0, pz_1, pz_2, pz_3, pz_4, pz_12, pz_13, pz_15, pz_16, pz_20, pz_23, pz_24, pz_200, ↓pz_rd, ↓pz_wr, pz_add, pz_mul, pz_sub, pz_le, pz_lt, pz_eq, pz_max, pz_min, pz_cl, pz_and, pz_or, pz_shl, pz_clr, pz_bit, pz_ff, pz_tt, pz_5, pz_6, pz_7, pz_10000, pz_sb, pz_b0, pz_b1]
  refine wp_b (crd_ok hn a b ha) ?_
  rintro M1 ⟨a1, a2, a3, a4, a5⟩
  refine wp_b (lop_fr hA hC (a5.mono (fun k h => ⟨Nat.le_trans (by omega) h.1, Nat.le_trans h.2 (by omega)⟩)) ha hb a1 a3 a4 x) ?_
  intro M2 b1
  exact wp_s ((a5.mono (fun k h => by unfold SB at h ⊢; omega)).tr b1)
theorem loc_fr {F : Abs → Nat → Mm → Prop} {M M0 : Mm} {A : Abs} (hA : AOK A) (h1 : 1 ≤ A.n) (hC : CI F M0 A) (hf : Fr (SB 5 33) M0 M) {tk : Nat → Nat} {e : Ex} (hR : RowE A.n tk e) (o5 : M.1 17 5 = nI (2 * A.n - 1)) (o1 : IA M 18 (2 * A.n - 1) tk) (x : Int32) :
    Wp (f_X9_layOut 17 (nI 2) x M) (fun M' => Fr (SB 0 33) M M') := by
  have hn := hA.n
  have q : ∀ k, k < 5 → M.1 k = M0.1 k := fun k hk => hf.1 k (fun h => by unfold SB at h; omega)
  unfold f_X9_layOut f_tlay
  refine wp_b (take_ok (n := A.n) (tb := A.tb) (w := A.w) (h := A.h) (by omega) hn (by rw [q 1 (by omega)]; exact hC.n) (by rw [q 1 (by omega)]; exact hC.tb) hA.tb (hC.w.eq (q 2 (by omega))) (hC.h.eq (q 3 (by omega))) x) ?_
  rintro M1 ⟨a1, a2, a3, a4, a5⟩
  rw [if_neg (by omega), if_pos (Or.inl rfl)]
  have q1 : ∀ k, 11 ≤ k → M1.1 k = M.1 k := fun k hk => a5.1 k (fun h => by unfold SB at h; omega)
  refine wp_b (clay_ok (k0 := 17) (k1 := 5) hn h1 (by omega) hR (fun b hb => swd_le hA.w hA.h hb) (fun b hb => swd_le hA.h hA.w hb) (by rw [q1 17 (by omega)]; exact o5) (o1.eq (q1 18 (by omega))) a3 a4) ?_
  rintro M2 ⟨b1, b2, b3⟩
  rw [pz_lt1]
  exact wp_s (((a5.mono (fun k h => by unfold SB at h ⊢; omega)).tr (b3.mono (fun k h => by unfold SRo at h; unfold SB; omega))).w ⟨by omega, by omega⟩)
theorem cuts_fr {F : Abs → Nat → Mm → Prop} {M : Mm} {A : Abs} (hA : AOK A) (hC : CI F M A) (a b : Int64) (x : Int32) (h0 : A.n ≠ 0) (hr : IsRow A.n (tkn a b)) {e : Ex} (he : RowE A.n (tkn a b) e) : Wp (f_X9_cuts a b x M) (fun r => Fr (SB 0 33) M r.2) := by
  have hn := hA.n
  unfold f_X9_cuts
  rw [hC.n, pz_0]
  rw [if_neg (by rw [pz_eq (by omega) (by omega)]; exact h0), (cir_ok hn (by omega) a b).1 hr, pz_bd, if_neg (by decide), pz_2, pz_1]
  refine wp_b (crr_ok hn (by omega) a b) ?_
  rintro M1 ⟨a1, a2, a3⟩
  refine wp_b (loc_fr hA (by omega) hC (a3.mono (fun k h => ⟨Nat.le_trans (by omega) h.1, Nat.le_trans h.2 (by omega)⟩)) he a1 a2 x) ?_
  intro M2 b1
  exact wp_s ((a3.mono (fun k h => by unfold SB at h ⊢; omega)).tr b1)
theorem lot_fr {F : Abs → Nat → Mm → Prop} {M M0 : Mm} {A : Abs} (hA : AOK A) (hC : CI F M0 A) (hf : Fr (SB 5 33) M0 M) {r : Nat} {lf rt : Nat → Nat} {e : Ex} (hE : TrE A.n r lf rt e) (o5 : M.1 23 5 = nI A.n) (o4 : M.1 23 4 = nI r) (o1 : IA M 24 A.n lf) (o2 : IA M 25 A.n rt) (x : Int32) :
    Wp (f_X9_layOut 23 (nI 3) x M) (fun M' => Fr (SB 0 33) M M') := by
  have hn := hA.n
  have q : ∀ k, k < 5 → M.1 k = M0.1 k := fun k hk => hf.1 k (fun h => by unfold SB at h; omega)
  unfold f_X9_layOut f_tlay
  refine wp_b (take_ok (n := A.n) (tb := A.tb) (w := A.w) (h := A.h) (by omega) hn (by rw [q 1 (by omega)]; exact hC.n) (by rw [q 1 (by omega)]; exact hC.tb) hA.tb (hC.w.eq (q 2 (by omega))) (hC.h.eq (q 3 (by omega))) x) ?_
  rintro M1 ⟨a1, a2, a3, a4, a5⟩
  rw [if_neg (by omega), if_neg (by omega), if_pos (Or.inl rfl)]
  have q1 : ∀ k, 11 ≤ k → M1.1 k = M.1 k := fun k hk => a5.1 k (fun h => by unfold SB at h; omega)
  have t := hE.ly hn (W := swd A.w A.h (msk x A.tb)) (H := swd A.h A.w (msk x A.tb)) (fun b hb => swd_le hA.w hA.h hb) (fun b hb => swd_le hA.h hA.w hb)
  refine wp_b (cty_ok (k0 := 23) (k1 := 5) t (by omega) hE.2.1 hE.2.2.1 hE.pt (hE.xt _) hE.2.2.2.2.2 hE.2.2.2.2.1 (by rw [q1 23 (by omega)]; exact o4) (by rw [q1 23 (by omega)]; exact o5) (o1.eq (q1 24 (by omega))) (o2.eq (q1 25 (by omega))) a3 a4) ?_
  rintro M2 ⟨b1, b2, b3⟩
  rw [pz_lt1]
  exact wp_s (((a5.mono (fun k h => by unfold SB at h ⊢; omega)).tr (b3.mono (fun k h => by unfold STl at h; unfold SB; omega))).w ⟨by omega, by omega⟩)
theorem tree_fr {F : Abs → Nat → Mm → Prop} {M : Mm} {A : Abs} (hA : AOK A) (hC : CI F M A) (a b : Int64) (x : Int32) {r : Nat} (hr : r < A.n) (h : TOK A.n r (nib a) (nib b)) {e : Ex} (he : TrE A.n r (nib a) (nib b) e) : Wp (f_X9_tree (nI r) a b x M) (fun v => Fr (SB 0 33) M v.2) := by
  have hn := hA.n
  unfold f_X9_tree
  rw [hC.n, pz_0]
  rw [if_neg (by rw [pz_eq (by omega) (by omega)]; omega), (cit_ok hn hr a b).1 h, pz_bd, if_neg (by decide), pz_3, pz_1]
  refine wp_b (crk_ok hn a b) ?_
  rintro M1 ⟨a1, a2, a3, a4, a5⟩
  refine wp_b (lot_fr hA hC (a5.mono (fun k h => ⟨Nat.le_trans (by omega) h.1, Nat.le_trans h.2 (by omega)⟩)) he a1 a2 a3 a4 x) ?_
  intro M2 b1
  exact wp_s ((a5.mono (fun k h => by unfold SB at h ⊢; omega)).tr b1)
/-! what a find's cell says -/
def Fnd (A : Abs) (k : Nat) (M : Mm) : Prop := 1 ≤ A.n ∧ A.n ≤ 4 ∧
  ((k = 1 ∧ ∃ t u, Bst (gP A.n A.w A.h) A.tb (List.range (fac A.n * fac A.n)) t u ∧ M.1 66 0 = nI (gP A.n A.w A.h t u) ∧ DP A.n 66 M t u) ∨
   (k = 2 ∧ ∃ r u, Bst (gC A.n A.w A.h) A.tb (NR A.n) r u ∧ M.1 67 0 = nI (gC A.n A.w A.h r u) ∧ M.1 67 4 = nI u ∧ DC A.n 67 M r u) ∨
   (k = 3 ∧ ∃ t u, Bst (gT A.n A.w A.h) A.tb (VT A.n (fac A.n * 4 ^ A.n)) t u ∧ M.1 68 0 = nI (gT A.n A.w A.h t u) ∧ DT A.n 68 M t u))
theorem fok_fnd : FOK Fnd := by
  intro A A' k M M' hk h en et ew eh e1 e2
  unfold Fnd at h ⊢
  rw [en, et, ew, eh]
  obtain ⟨a, b, c⟩ := h
  refine ⟨a, b, ?_⟩
  rcases c with ⟨rfl, t, u, c1, c2, c3⟩ | ⟨rfl, t, u, c1, c2, c3, c4⟩ | ⟨rfl, t, u, c1, c2, c3⟩
  · have e1 : M'.1 66 = M.1 66 := e1
    have e2 : M'.2 66 = M.2 66 := e2
    exact Or.inl ⟨rfl, t, u, c1, by rw [e1]; exact c2, c3.eq e1 e2⟩
  · have e1 : M'.1 67 = M.1 67 := e1
    have e2 : M'.2 67 = M.2 67 := e2
    exact Or.inr (Or.inl ⟨rfl, t, u, c1, by rw [e1]; exact c2, by rw [e1]; exact c3, c4.eq e2⟩)
  · have e1 : M'.1 68 = M.1 68 := e1
    have e2 : M'.2 68 = M.2 68 := e2
    exact Or.inr (Or.inr ⟨rfl, t, u, c1, by rw [e1]; exact c2, c3.eq e1 e2⟩)
/-! those that turning changes -/
def cbt (w h : Nat → Nat) (tb : Nat) : Nat → Nat
  | 0 => tb
  | i + 1 => if w i = h i then clr (cbt w h tb i) (2 ^ i) else cbt w h tb i
theorem cbt_bit (w h : Nat → Nat) (tb b : Nat) : ∀ i, (cbt w h tb i).testBit b = (tb.testBit b && !(decide (b < i) && decide (w b = h b)))
  | 0 => by show tb.testBit b = _; simp
  | i + 1 => by
    show (if w i = h i then clr (cbt w h tb i) (2 ^ i) else cbt w h tb i).testBit b = _
    by_cases q : w i = h i
    · rw [if_pos q, clr_bit, cbt_bit w h tb b i, Nat.testBit_two_pow]
      by_cases e : i = b
      · subst e
        simp [q]
      · have : decide (b < i + 1) = decide (b < i) := by rw [decide_eq_decide]; omega
        rw [this, decide_eq_false e]; simp
    · rw [if_neg q, cbt_bit w h tb b i]
      by_cases e : i = b
      · subst e
        simp [q]
      · have : decide (b < i + 1) = decide (b < i) := by rw [decide_eq_decide]; omega
        rw [this]
theorem cbt_lt {w h : Nat → Nat} {tb n i : Nat} (ht : tb < 2 ^ n) : cbt w h tb i < 2 ^ n := lt_of_bits fun b hb => by rw [cbt_bit, tb_lt ht hb]; rfl
theorem cbt_ok {M : Mm} {n tb : Nat} {w h : Nat → Nat} (hn : n ≤ 12) (ht : tb < 2 ^ n) (h3 : M.1 1 3 = nI n) (h2 : M.1 1 2 = nI tb) (ew : IA M 2 n w) (eh : IA M 3 n h) (hw : ∀ b, b < n → 1 ≤ w b ∧ w b ≤ 200) (hh : ∀ b, b < n → 1 ≤ h b ∧ h b ≤ 200) : f_X0_changedByTurning M = some (nI (cbt w h tb n)) := by
  unfold f_X0_changedByTurning
  rw [h2, pz_lt1, pz_0]
  have e : loop (fun v => f_X0_changedByTurning_L7 M v.1 v.2) FU (nI tb, nI 0) = some (nI (cbt w h tb n)) := by
    refine lp_n (fun i => (nI (cbt w h tb i), nI i)) n (fu_lt (by omega)) (fun i hi => ?_) ?_
    · show f_X0_changedByTurning_L7 M (nI (cbt w h tb i)) (nI i) = some (.inl (nI (if w i = h i then clr (cbt w h tb i) (2 ^ i) else cbt w h tb i), nI (i + 1)))
      have b1 := hw i hi
      have b2 := hh i hi
      unfold f_X0_changedByTurning_L7 f_X0_changedByTurning_J38
      rw [h3, if_neg (by rw [pz_le (by omega) (by omega)]; omega), pz_rd (by omega) (by omega), ew i hi, pz_rd (by omega) (by omega), eh i hi, pz_n1, pz_1, pz_shl (by omega), pz_clr, pz_lt1, pz_add, pz_lt1, pz_lt1]
      by_cases q : w i = h i
      · rw [if_pos (by rw [q]), if_pos q]
      · rw [if_neg (by rw [pz_eq (by omega) (by omega)]; exact q), if_neg q]
    · show f_X0_changedByTurning_L7 M (nI (cbt w h tb n)) (nI n) = _
      unfold f_X0_changedByTurning_L7
      rw [h3, if_pos ((nI_leI (by omega) (by omega)).mpr (Nat.le_refl _))]
  rw [e]
  rfl
theorem cbt_sq {w h : Nat → Nat} {tb n : Nat} (ht : tb < 2 ^ n) (v : Nat) (hv : v &&& tb = v) : swd w h v = swd w h (v &&& cbt w h tb n) ∧ swd h w v = swd h w (v &&& cbt w h tb n) := by
  have key : ∀ b, (v.testBit b = (v &&& cbt w h tb n).testBit b) ∨ w b = h b := by
    intro b
    rw [Nat.testBit_and, cbt_bit]
    by_cases q : w b = h b
    · exact Or.inr q
    · refine Or.inl ?_
      rw [decide_eq_false q]
      cases e : tb.testBit b
      · rw [sub_bit hv e]; rfl
      · simp
  constructor
  · funext b
    unfold swd
    rcases key b with e | e
    · rw [e]
    · rw [e]; split <;> split <;> rfl
  · funext b
    unfold swd
    rcases key b with e | e
    · rw [e]
    · rw [e]; split <;> split <;> rfl
theorem AOK.sy {A : Abs} (hA : AOK A) (h1 : 1 ≤ A.n) (h4 : A.n ≤ 4) {kf : Nat} (hk : 65 ≤ kf ∧ kf < 69) : SY A.n A.tb (cbt A.w A.h A.tb A.n) (bar A.w A.h A.n) kf A.w A.h := by
  refine ⟨h1, h4, hA.tb, ?_, hA.w, hA.h, rfl, fun v hv => cbt_sq hA.tb v hv, hk⟩
  refine Nat.eq_of_testBit_eq fun b => ?_
  rw [Nat.testBit_and, cbt_bit]
  cases A.tb.testBit b <;> simp
