/-! put, at -/
def cb (r : Int32) : Int64 := if r = nI 0 then 0 else 1
def ptd (td b t : Nat) : Nat := if t = 0 then clr td (2 ^ b) else td ||| 2 ^ b
theorem ptd_bit (td b t i : Nat) : (ptd td b t).testBit i = if i = b then decide (t ≠ 0) else td.testBit i := by
  unfold ptd
  by_cases ht : t = 0
  · rw [if_pos ht, clr_bit, Nat.testBit_two_pow]
    by_cases e : i = b
    · subst e; simp [ht]
    · have : ¬ b = i := fun h => e h.symm
      simp [e, this]
  · rw [if_neg ht, Nat.testBit_or, Nat.testBit_two_pow]
    by_cases e : i = b
    · subst e; simp [ht]
    · have : ¬ b = i := fun h => e h.symm
      simp [e, this]
theorem ptd_or (td b : Nat) : clr td (2 ^ b) ||| 2 ^ b = td ||| 2 ^ b := by
  apply Nat.eq_of_testBit_eq
  intro i
  rw [Nat.testBit_or, Nat.testBit_or, clr_bit]
  cases td.testBit i <;> cases (2 ^ b).testBit i <;> rfl
theorem ptd_sub {td tb b t : Nat} (h : td &&& tb = td) (ht : t = 0 ∨ tb.testBit b = true) : ptd td b t &&& tb = ptd td b t := by
  apply Nat.eq_of_testBit_eq
  intro i
  rw [Nat.testBit_and, ptd_bit]
  have h2 := congrArg (·.testBit i) h
  simp only [Nat.testBit_and] at h2
  split
  · rename_i e
    subst e
    rcases ht with ht | ht
    · simp [ht]
    · simp [ht]
  · exact h2
theorem pz_or0 (a : Nat) : a ||| 0 = a := Nat.or_zero a
theorem cput_eq (a b c d : Int32) (M : Mm) : f_L_put a b c d M = bd2 (f_X9_put a b c d M) fun o_2 M3 => tr1 o_2 (some ((1 : Int32), M3)) fun r => wrL 1 M3 105 (0 : Int32) (cb r) fun M5 => some ((0 : Int32), M5) := by
  unfold f_L_put f_L_put_J20 cb
  congr 1
  funext o M3
  cases o with
  | none => rfl
  | some r =>
    rw [pz_ts, pz_ts, ← pz_0]
    split <;> rfl
theorem lput_eq (i r : Int32) (M : Mm) (a b c d : Int32) : f_law_J455 i r M a b c d = bd2 (f_X10_put a b c d M) fun r2 M2 => if f_X10_thrown M2 = r then (if r = nI 0 then rdL 1 M2 105 (nI 0) fun v => if lg_cmp v (cb r2) = nI 0 then f_law_J495 i M2 () else none else f_law_J495 i M2 ()) else none := by
  unfold f_law_J455 f_law_J489 cb
  congr 1
  funext r2 M2
  rw [← pz_0]
  congr 1
  congr 1
  congr 1
  funext v
  split <;> rfl
theorem swd_pt {w h : Nat → Nat} {td b t j : Nat} (hj : j ≠ b) : swd w h (ptd td b t) j = swd w h td j := by
  unfold swd
  rw [ptd_bit, if_neg hj]
theorem IA.pt {M M' : Mm} {k n b td t : Nat} {w h : Nat → Nat} (hI : IA M k n (swd w h td)) (e : M'.1 k = upd (M.1 k) b (nI (swd w h (ptd td b t) b))) : IA M' k n (swd w h (ptd td b t)) := fun j hj => by
  rw [e]
  by_cases q : j = b
  · subst q; unfold upd; rw [if_pos rfl]
  · unfold upd
    rw [if_neg q, swd_pt q]; exact hI j hj
theorem pl_y {a : Nat} (h : a ≤ 10000) : f_X9_isPlace (nI a) = nI 1 := by
  unfold f_X9_isPlace
  simp (disch := first | assumption | omega) only [↓pz_n1, pz_mm, pz_mm', ↓pz_lt1, ↓pz_bd, ↓pz_bd2, ↓pz_tn, ↓pz_ts, pz_0, pz_1, pz_2, pz_3, pz_4, pz_12, pz_13, pz_15, pz_16, pz_20, pz_23, pz_24, pz_200, ↓pz_rd, ↓pz_wr, pz_add, pz_mul, pz_sub, pz_le, pz_lt, pz_eq, pz_max, pz_min, pz_cl, pz_and, pz_or, pz_shl, pz_clr, pz_bit, pz_ff, pz_tt, pz_5, pz_6, pz_7, pz_10000, pz_sb, pz_b0, pz_b1]
  rw [if_neg (by omega), if_neg (by omega)]
theorem pl_n {a : Int32} (h : a < nI 0 ∨ (¬ a ≤ nI 10000 ∧ nI 10000 < a ∧ ¬ a < nI 0)) : f_X9_isPlace a = nI 0 := by
  unfold f_X9_isPlace
  simp (disch := first | assumption | omega) only [↓pz_n1, pz_mm, pz_mm', ↓pz_lt1, ↓pz_bd, ↓pz_bd2, ↓pz_tn, ↓pz_ts, pz_0, pz_1, pz_2, pz_3, pz_4, pz_12, pz_13, pz_15, pz_16, pz_20, pz_23, pz_24, pz_200, ↓pz_rd, ↓pz_wr, pz_add, pz_mul, pz_sub, pz_le, pz_lt, pz_eq, pz_max, pz_min, pz_cl, pz_and, pz_or, pz_shl, pz_clr, pz_bit, pz_ff, pz_tt, pz_5, pz_6, pz_7, pz_10000, pz_sb, pz_b0, pz_b1]
  rcases h with h | ⟨_, h, h'⟩
  · rw [if_pos h]
  · rw [if_neg h', if_pos h]
theorem put_key {F : Abs → Nat → Mm → Prop} (hF : FOK F) {M : Mm} {A : Abs} (hA : AOK A) (hC : CI F M A) (a c d : Int32) (t : Nat) (ht : t < 2) : ∃ o A', AOK A' ∧ Wp (f_X9_put a c d (nI t) M) (fun r => r.1 = o ∧ CI F r.2 A' ∧ Fr SC M r.2) ∧ ∀ M1, RI M1 A → RQr M1 A' o (f_X10_put a c d (nI t) M1) := by
  have hn12 := hA.n
  have htb := p12 hA.tb hn12
  have en : ∀ M1, RI M1 A → (wi M1 69 0 (nI 0)).1 69 1 = nI A.n := fun M1 h => h.n
  have ek : ∀ M1, RI M1 A → (wi M1 69 0 (nI 0)).1 69 6 = A.kd := fun M1 h => h.kd
  unfold f_X9_put f_X10_put f_X10_fail
  rcases isb a hn12 with ⟨b, hb, rfl⟩ | ha
  · rw [nb_y hC.n hn12 hb]
    by_cases hk : A.kd = nI 0
    · rcases sw_of c (k := 10000) (by omega) with ⟨x, hx, rfl⟩ | ⟨hc, _⟩
      · rcases sw_of d (k := 10000) (by omega) with ⟨y, hy, rfl⟩ | ⟨hd, _⟩
        · by_cases hno : t = 0 ∨ A.tb.testBit b = true
          · have hkn : A.kd ≠ -1 := by rw [hk]; decide
            obtain ⟨l1, l2, l3, l4⟩ := hA.ly hkn
            have htd := p12 (sub_lt l2 hA.tb) hn12
            have htd2 : ptd A.td b t < 4096 := p12 (sub_lt (ptd_sub l2 hno) hA.tb) hn12
            refine ⟨some (nI 1), plS A (ptd A.td b t) (fset A.x b x) (fset A.y b y), AOK.zero rfl hA.n hA.w hA.h hA.tb hA.nt hA.s ⟨l1, ptd_sub l2 hno, ?_, ?_⟩, ?_, fun M1 h => ?_⟩
            · intro j hj
              show fset A.x b x j ≤ 10000
              unfold fset; split
              · exact hx
              · exact l3 j hj
            · intro j hj
              show fset A.y b y j ≤ 10000
              unfold fset; split
              · exact hy
              · exact l4 j hj
            · obtain ⟨g1, g2, g3, g4, g5, g6⟩ := hC.gd hkn
              have hJ : Wp (f_X9_put_J49 (nI b) (nI x) (nI y) (nI t) M ()) (fun r => r.1 = some (nI 1) ∧ CI F r.2 (plS A (ptd A.td b t) (fset A.x b x) (fset A.y b y)) ∧ Fr SC M r.2) := by
                unfold f_X9_put_J49 f_X2_turn
                simp (disch := first | assumption | omega) only [↓pz_n1, pz_mm, pz_mm', ↓pz_lt1, ↓pz_bd, ↓pz_bd2, ↓pz_tn, ↓pz_ts, pz_0, pz_1, pz_2, pz_3, pz_4, pz_12, pz_13, pz_15, pz_16, pz_20, pz_23, pz_24, pz_200, ↓pz_rd, ↓pz_wr, pz_add, pz_mul, pz_sub, pz_le, pz_lt, pz_eq, pz_max, pz_min, pz_cl, pz_and, pz_or, pz_shl, pz_clr, pz_bit, pz_ff, pz_tt, pz_5, pz_6, pz_7, pz_10000, pz_sb, pz_b0, pz_b1]
                have hJ2 : Wp (f_X2_turn_J26 5 (nI b) (wi (wi M 6 b (nI x)) 7 b (nI y)) (nI (ptd A.td b t))) (fun M' => CI F M' (plS A (ptd A.td b t) (fset A.x b x) (fset A.y b y)) ∧ Fr SC M M') := by
                  unfold f_X2_turn_J26
                  simp (disch := first | assumption | omega) only [↓pz_n1, pz_mm, pz_mm', ↓pz_lt1, ↓pz_bd, ↓pz_bd2, ↓pz_tn, ↓pz_ts, pz_0, pz_1, pz_2, pz_3, pz_4, pz_12, pz_13, pz_15, pz_16, pz_20, pz_23, pz_24, pz_200, ↓pz_rd, ↓pz_wr, pz_add, pz_mul, pz_sub, pz_le, pz_lt, pz_eq, pz_max, pz_min, pz_cl, pz_and, pz_or, pz_shl, pz_clr, pz_bit, pz_ff, pz_tt, pz_5, pz_6, pz_7, pz_10000, pz_sb, pz_b0, pz_b1]
                  rw [ss_ok (M := wi (wi (wi M 6 b (nI x)) 7 b (nI y)) 5 5 (nI (ptd A.td b t))) (k0 := 5) (b := b) (w := A.w) (h := A.h) (td := ptd A.td b t) (by omega) (by omega) rfl htd2 (hC.w b hb) (hC.h b hb)]
                  simp (disch := first | assumption | omega) only [↓pz_n1, pz_mm, pz_mm', ↓pz_lt1, ↓pz_bd, ↓pz_bd2, ↓pz_tn, ↓pz_ts, pz_0, pz_1, pz_2, pz_3, pz_4, pz_12, pz_13, pz_15, pz_16, pz_20, pz_23, pz_24, pz_200, ↓pz_rd, ↓pz_wr, pz_add, pz_mul, pz_sub, pz_le, pz_lt, pz_eq, pz_max, pz_min, pz_cl, pz_and, pz_or, pz_shl, pz_clr, pz_bit, pz_ff, pz_tt, pz_5, pz_6, pz_7, pz_10000, pz_sb, pz_b0, pz_b1]
                  refine wp_s ⟨?_, ((((Fr.rf.w (show SC 6 by unfold SC; omega)).w (show SC 7 by unfold SC; omega)).w (show SC 5 by unfold SC; omega)).w (show SC 8 by unfold SC; omega)).w (show SC 9 by unfold SC; omega)⟩
                  generalize hM4 : wi (wi (wi (wi (wi M 6 b (nI x)) 7 b (nI y)) 5 5 (nI (ptd A.td b t))) (5 + 3) b (nI (swd A.w A.h (ptd A.td b t) b))) (5 + 4) b (nI (swd A.h A.w (ptd A.td b t) b)) = M4
                  have hself : CI F (wi M4 0 8 (nI 0)) (plS A (ptd A.td b t) (fset A.x b x) (fset A.y b y)) := by
                    refine hC.pl hF ?_ ⟨?_, ?_, ?_, ?_, ?_, ?_⟩
                    · subst hM4
                      exact ((((Fr.rf.w ⟨by omega, by omega⟩).w ⟨by omega, by omega⟩).w ⟨by omega, by omega⟩).w ⟨by omega, by omega⟩).w ⟨by omega, by omega⟩
                    · subst hM4; exact g1
                    · subst hM4; rfl
                    · subst hM4; exact IA.eq (M := wi M 6 b (nI x)) g3.set rfl
                    · subst hM4; exact IA.eq (M := wi M 7 b (nI y)) g4.set rfl
                    · subst hM4; exact g5.pt rfl
                    · subst hM4; exact g6.pt rfl
                  have e8 : M4.1 0 8 = nI 0 := by subst hM4; exact hC.kd.trans hk
                  have : wi M4 0 8 (nI 0) = M4 := by
                    refine Prod.ext ?_ rfl
                    funext k j
                    rw [wi_1]
                    split
                    · rename_i q; rw [q.1, q.2, e8]
                    · rfl
                  rw [← this]; exact hself
                have e5 : (wi (wi M 6 b (nI x)) 7 b (nI y)).1 5 5 = nI A.td := g2
                rcases (by omega : t = 0 ∨ t = 1) with rfl | rfl
                · simp (disch := first | assumption | omega) only [↓pz_n1, pz_mm, pz_mm', ↓pz_lt1, ↓pz_bd, ↓pz_bd2, ↓pz_tn, ↓pz_ts, pz_0, pz_1, pz_2, pz_3, pz_4, pz_12, pz_13, pz_15, pz_16, pz_20, pz_23, pz_24, pz_200, ↓pz_rd, ↓pz_wr, pz_add, pz_mul, pz_sub, pz_le, pz_lt, pz_eq, pz_max, pz_min, pz_cl, pz_and, pz_or, pz_shl, pz_clr, pz_bit, pz_ff, pz_tt, pz_5, pz_6, pz_7, pz_10000, pz_sb, pz_b0, pz_b1, e5]
                  exact wp_b hJ2 (fun M' h => wp_s ⟨rfl, h.1, h.2⟩)
                · simp (disch := first | assumption | omega) only [↓pz_n1, pz_mm, pz_mm', ↓pz_lt1, ↓pz_bd, ↓pz_bd2, ↓pz_tn, ↓pz_ts, pz_0, pz_1, pz_2, pz_3, pz_4, pz_12, pz_13, pz_15, pz_16, pz_20, pz_23, pz_24, pz_200, ↓pz_rd, ↓pz_wr, pz_add, pz_mul, pz_sub, pz_le, pz_lt, pz_eq, pz_max, pz_min, pz_cl, pz_and, pz_or, pz_shl, pz_clr, pz_bit, pz_ff, pz_tt, pz_5, pz_6, pz_7, pz_10000, pz_sb, pz_b0, pz_b1, e5]
                  exact wp_b hJ2 (fun M' h => wp_s ⟨rfl, h.1, h.2⟩)
              rw [pl_y hx, pl_y hy]
              simp (disch := first | assumption | omega) only [↓pz_n1, pz_mm, pz_mm', ↓pz_lt1, ↓pz_bd, ↓pz_bd2, ↓pz_tn, ↓pz_ts, pz_0, pz_1, pz_2, pz_3, pz_4, pz_12, pz_13, pz_15, pz_16, pz_20, pz_23, pz_24, pz_200, ↓pz_rd, ↓pz_wr, pz_add, pz_mul, pz_sub, pz_le, pz_lt, pz_eq, pz_max, pz_min, pz_cl, pz_and, pz_or, pz_shl, pz_clr, pz_bit, pz_ff, pz_tt, pz_5, pz_6, pz_7, pz_10000, pz_sb, pz_b0, pz_b1, hC.kd, hk, hC.tb]
              rcases (by omega : t = 0 ∨ t = 1) with rfl | rfl
              · simp (disch := first | assumption | omega) only [↓pz_n1, pz_mm, pz_mm', ↓pz_lt1, ↓pz_bd, ↓pz_bd2, ↓pz_tn, ↓pz_ts, pz_0, pz_1, pz_2, pz_3, pz_4, pz_12, pz_13, pz_15, pz_16, pz_20, pz_23, pz_24, pz_200, ↓pz_rd, ↓pz_wr, pz_add, pz_mul, pz_sub, pz_le, pz_lt, pz_eq, pz_max, pz_min, pz_cl, pz_and, pz_or, pz_shl, pz_clr, pz_bit, pz_ff, pz_tt, pz_5, pz_6, pz_7, pz_10000, pz_sb, pz_b0, pz_b1]; exact hJ
              · rcases hno with hno | hno
                · omega
                · simp (disch := first | assumption | omega) only [↓pz_n1, pz_mm, pz_mm', ↓pz_lt1, ↓pz_bd, ↓pz_bd2, ↓pz_tn, ↓pz_ts, pz_0, pz_1, pz_2, pz_3, pz_4, pz_12, pz_13, pz_15, pz_16, pz_20, pz_23, pz_24, pz_200, ↓pz_rd, ↓pz_wr, pz_add, pz_mul, pz_sub, pz_le, pz_lt, pz_eq, pz_max, pz_min, pz_cl, pz_and, pz_or, pz_shl, pz_clr, pz_bit, pz_ff, pz_tt, pz_5, pz_6, pz_7, pz_10000, pz_sb, pz_b0, pz_b1, hno]; exact hJ
            · have g := h.gd hkn
              have eib := ib_y (en M1 h) hn12 hb
              have x1 : ¬ x < 0 := by omega
              have x2 : ¬ 10000 < x := by omega
              have y1 : ¬ y < 0 := by omega
              have y2 : ¬ 10000 < y := by omega
              have e73 : (wi M1 69 0 (nI 0)).1 73 b = nI (A.tb.testBit b).toNat := h.tb b hb
              have e7 : (wi (wi (wi M1 69 0 (nI 0)) 74 b (nI x)) 75 b (nI y)).1 69 7 = nI A.td := g.1
              have fin : RQr M1 (plS A (ptd A.td b t) (fset A.x b x) (fset A.y b y)) (some (nI 1)) (some (nI 1, wi (wi (wi (wi M1 69 0 (nI 0)) 74 b (nI x)) 75 b (nI y)) 69 7 (nI (ptd A.td b t)))) := by
                refine wp_s ⟨?_, ((fr69.w ⟨by decide, by decide⟩).w ⟨by decide, by decide⟩).w ⟨by decide, by decide⟩, Or.inr ⟨_, rfl, rfl, rfl⟩⟩
                refine h.pl ((((Fr.rf.w (Or.inl rfl)).w (Or.inr ⟨by omega, by omega⟩)).w (Or.inr ⟨by omega, by omega⟩)).w (Or.inl rfl)) h.n h.s (h.kd.trans hk) ⟨rfl, ?_, ?_⟩
                · exact IA.eq (M := wi M1 74 b (nI x)) g.2.1.set rfl
                · exact IA.eq (M := wi M1 75 b (nI y)) g.2.2.set rfl
              rcases (by omega : t = 0 ∨ t = 1) with rfl | rfl
              · unfold f_X10_put_J65 f_X10_put_J102
                simp (disch := first | assumption | omega) only [↓pz_n1, pz_mm, pz_mm', ↓pz_lt1, ↓pz_bd, ↓pz_bd2, ↓pz_tn, ↓pz_ts, pz_0, pz_1, pz_2, pz_3, pz_4, pz_12, pz_13, pz_15, pz_16, pz_20, pz_23, pz_24, pz_200, ↓pz_rd, ↓pz_wr, pz_add, pz_mul, pz_sub, pz_le, pz_lt, pz_eq, pz_max, pz_min, pz_cl, pz_and, pz_or, pz_shl, pz_clr, pz_bit, pz_ff, pz_tt, pz_5, pz_6, pz_7, pz_10000, pz_sb, pz_b0, pz_b1, eib, ek M1 h, hk, x1, x2, y1, y2, e7, pz_or0]
                exact fin
              · rcases hno with hno | hno
                · omega
                · unfold f_X10_put_J65 f_X10_put_J102
                  simp (disch := first | assumption | omega) only [↓pz_n1, pz_mm, pz_mm', ↓pz_lt1, ↓pz_bd, ↓pz_bd2, ↓pz_tn, ↓pz_ts, pz_0, pz_1, pz_2, pz_3, pz_4, pz_12, pz_13, pz_15, pz_16, pz_20, pz_23, pz_24, pz_200, ↓pz_rd, ↓pz_wr, pz_add, pz_mul, pz_sub, pz_le, pz_lt, pz_eq, pz_max, pz_min, pz_cl, pz_and, pz_or, pz_shl, pz_clr, pz_bit, pz_ff, pz_tt, pz_5, pz_6, pz_7, pz_10000, pz_sb, pz_b0, pz_b1, eib, ek M1 h, hk, x1, x2, y1, y2, e7, e73, hno, ptd_or]
                  exact fin
          · have ht1 : t = 1 := by
              have : t ≠ 0 := fun h => hno (Or.inl h)
              omega
            subst ht1
            have hbf : A.tb.testBit b = false := by
              cases e : A.tb.testBit b
              · rfl
              · exact absurd (Or.inr e) hno
            refine ⟨some (nI 0), A, hA, ?_, fun M1 h => ?_⟩
            · rw [pl_y hx, pl_y hy]
              simp (disch := first | assumption | omega) only [↓pz_n1, pz_mm, pz_mm', ↓pz_lt1, ↓pz_bd, ↓pz_bd2, ↓pz_tn, ↓pz_ts, pz_0, pz_1, pz_2, pz_3, pz_4, pz_12, pz_13, pz_15, pz_16, pz_20, pz_23, pz_24, pz_200, ↓pz_rd, ↓pz_wr, pz_add, pz_mul, pz_sub, pz_le, pz_lt, pz_eq, pz_max, pz_min, pz_cl, pz_and, pz_or, pz_shl, pz_clr, pz_bit, pz_ff, pz_tt, pz_5, pz_6, pz_7, pz_10000, pz_sb, pz_b0, pz_b1, hC.kd, hk, hC.tb, hbf]
              exact wp_s ⟨rfl, hC, Fr.rf⟩
            · have eib := ib_y (en M1 h) hn12 hb
              have x1 : ¬ x < 0 := by omega
              have x2 : ¬ 10000 < x := by omega
              have y1 : ¬ y < 0 := by omega
              have y2 : ¬ 10000 < y := by omega
              have e73 : (wi M1 69 0 (nI 0)).1 73 b = nI (A.tb.testBit b).toNat := h.tb b hb
              simp (disch := first | assumption | omega) only [↓pz_n1, pz_mm, pz_mm', ↓pz_lt1, ↓pz_bd, ↓pz_bd2, ↓pz_tn, ↓pz_ts, pz_0, pz_1, pz_2, pz_3, pz_4, pz_12, pz_13, pz_15, pz_16, pz_20, pz_23, pz_24, pz_200, ↓pz_rd, ↓pz_wr, pz_add, pz_mul, pz_sub, pz_le, pz_lt, pz_eq, pz_max, pz_min, pz_cl, pz_and, pz_or, pz_shl, pz_clr, pz_bit, pz_ff, pz_tt, pz_5, pz_6, pz_7, pz_10000, pz_sb, pz_b0, pz_b1, eib, ek M1 h, hk, x1, x2, y1, y2, e73, hbf]
              exact rq_val h _
        · refine ⟨some (nI 0), A, hA, ?_, fun M1 h => ?_⟩
          · rw [pl_y hx, pl_n hd]
            simp (disch := first | assumption | omega) only [↓pz_n1, pz_mm, pz_mm', ↓pz_lt1, ↓pz_bd, ↓pz_bd2, ↓pz_tn, ↓pz_ts, pz_0, pz_1, pz_2, pz_3, pz_4, pz_12, pz_13, pz_15, pz_16, pz_20, pz_23, pz_24, pz_200, ↓pz_rd, ↓pz_wr, pz_add, pz_mul, pz_sub, pz_le, pz_lt, pz_eq, pz_max, pz_min, pz_cl, pz_and, pz_or, pz_shl, pz_clr, pz_bit, pz_ff, pz_tt, pz_5, pz_6, pz_7, pz_10000, pz_sb, pz_b0, pz_b1, hC.kd, hk]
            exact wp_s ⟨rfl, hC, Fr.rf⟩
          · have eib := ib_y (en M1 h) hn12 hb
            have x1 : ¬ x < 0 := by omega
            have x2 : ¬ 10000 < x := by omega
            simp (disch := first | assumption | omega) only [↓pz_n1, pz_mm, pz_mm', ↓pz_lt1, ↓pz_bd, ↓pz_bd2, ↓pz_tn, ↓pz_ts, pz_0, pz_1, pz_2, pz_3, pz_4, pz_12, pz_13, pz_15, pz_16, pz_20, pz_23, pz_24, pz_200, ↓pz_rd, ↓pz_wr, pz_add, pz_mul, pz_sub, pz_le, pz_lt, pz_eq, pz_max, pz_min, pz_cl, pz_and, pz_or, pz_shl, pz_clr, pz_bit, pz_ff, pz_tt, pz_5, pz_6, pz_7, pz_10000, pz_sb, pz_b0, pz_b1, eib, ek M1 h, hk, x1, x2]
            rcases hd with h1 | ⟨_, h1, h2⟩
            · rw [if_pos h1]; exact rq_val h _
            · rw [if_neg h2, if_pos h1]; exact rq_val h _
      · refine ⟨some (nI 0), A, hA, ?_, fun M1 h => ?_⟩
        · rw [pl_n hc]
          simp (disch := first | assumption | omega) only [↓pz_n1, pz_mm, pz_mm', ↓pz_lt1, ↓pz_bd, ↓pz_bd2, ↓pz_tn, ↓pz_ts, pz_0, pz_1, pz_2, pz_3, pz_4, pz_12, pz_13, pz_15, pz_16, pz_20, pz_23, pz_24, pz_200, ↓pz_rd, ↓pz_wr, pz_add, pz_mul, pz_sub, pz_le, pz_lt, pz_eq, pz_max, pz_min, pz_cl, pz_and, pz_or, pz_shl, pz_clr, pz_bit, pz_ff, pz_tt, pz_5, pz_6, pz_7, pz_10000, pz_sb, pz_b0, pz_b1, hC.kd, hk]
          exact wp_s ⟨rfl, hC, Fr.rf⟩
        · have eib := ib_y (en M1 h) hn12 hb
          simp (disch := first | assumption | omega) only [↓pz_n1, pz_mm, pz_mm', ↓pz_lt1, ↓pz_bd, ↓pz_bd2, ↓pz_tn, ↓pz_ts, pz_0, pz_1, pz_2, pz_3, pz_4, pz_12, pz_13, pz_15, pz_16, pz_20, pz_23, pz_24, pz_200, ↓pz_rd, ↓pz_wr, pz_add, pz_mul, pz_sub, pz_le, pz_lt, pz_eq, pz_max, pz_min, pz_cl, pz_and, pz_or, pz_shl, pz_clr, pz_bit, pz_ff, pz_tt, pz_5, pz_6, pz_7, pz_10000, pz_sb, pz_b0, pz_b1, eib, ek M1 h, hk]
          rcases hc with h1 | ⟨_, h1, h2⟩
          · rw [if_pos h1]; exact rq_val h _
          · rw [if_neg h2, if_pos h1]; exact rq_val h _
    · refine ⟨some (nI 0), A, hA, ?_, fun M1 h => ?_⟩
      · simp (disch := first | assumption | omega) only [↓pz_n1, pz_mm, pz_mm', ↓pz_lt1, ↓pz_bd, ↓pz_bd2, ↓pz_tn, ↓pz_ts, pz_0, pz_1, pz_2, pz_3, pz_4, pz_12, pz_13, pz_15, pz_16, pz_20, pz_23, pz_24, pz_200, ↓pz_rd, ↓pz_wr, pz_add, pz_mul, pz_sub, pz_le, pz_lt, pz_eq, pz_max, pz_min, pz_cl, pz_and, pz_or, pz_shl, pz_clr, pz_bit, pz_ff, pz_tt, pz_5, pz_6, pz_7, pz_10000, pz_sb, pz_b0, pz_b1, hC.kd]
        rw [if_neg hk]
        exact wp_s ⟨rfl, hC, Fr.rf⟩
      · have eib := ib_y (en M1 h) hn12 hb
        simp (disch := first | assumption | omega) only [↓pz_n1, pz_mm, pz_mm', ↓pz_lt1, ↓pz_bd, ↓pz_bd2, ↓pz_tn, ↓pz_ts, pz_0, pz_1, pz_2, pz_3, pz_4, pz_12, pz_13, pz_15, pz_16, pz_20, pz_23, pz_24, pz_200, ↓pz_rd, ↓pz_wr, pz_add, pz_mul, pz_sub, pz_le, pz_lt, pz_eq, pz_max, pz_min, pz_cl, pz_and, pz_or, pz_shl, pz_clr, pz_bit, pz_ff, pz_tt, pz_5, pz_6, pz_7, pz_10000, pz_sb, pz_b0, pz_b1, eib, ek M1 h]
        rw [if_neg hk]
        exact rq_val h _
  · refine ⟨none, A, hA, ?_, fun M1 h => ?_⟩
    · rw [nb_n hC.n ha]
      simp (disch := first | assumption | omega) only [↓pz_n1, pz_mm, pz_mm', ↓pz_lt1, ↓pz_bd, ↓pz_bd2, ↓pz_tn, ↓pz_ts, pz_0, pz_1, pz_2, pz_3, pz_4, pz_12, pz_13, pz_15, pz_16, pz_20, pz_23, pz_24, pz_200, ↓pz_rd, ↓pz_wr, pz_add, pz_mul, pz_sub, pz_le, pz_lt, pz_eq, pz_max, pz_min, pz_cl, pz_and, pz_or, pz_shl, pz_clr, pz_bit, pz_ff, pz_tt, pz_5, pz_6, pz_7, pz_10000, pz_sb, pz_b0, pz_b1]
      exact wp_s ⟨rfl, hC, Fr.rf⟩
    · simp (disch := first | assumption | omega) only [↓pz_n1, pz_mm, pz_mm', ↓pz_lt1, ↓pz_bd, ↓pz_bd2, ↓pz_tn, ↓pz_ts, pz_0, pz_1, pz_2, pz_3, pz_4, pz_12, pz_13, pz_15, pz_16, pz_20, pz_23, pz_24, pz_200, ↓pz_rd, ↓pz_wr, pz_add, pz_mul, pz_sub, pz_le, pz_lt, pz_eq, pz_max, pz_min, pz_cl, pz_and, pz_or, pz_shl, pz_clr, pz_bit, pz_ff, pz_tt, pz_5, pz_6, pz_7, pz_10000, pz_sb, pz_b0, pz_b1, ib_n (en M1 h) ha]
      exact rq_fail h _
theorem arm_5 {F : Abs → Nat → Mm → Prop} (hF : FOK F) {xs : Nat → Int32} {L n : Nat} {M : Mm} (hL : L ≤ 3584) (hn : n + 7 ≤ L) (hI : Inv F M) : Nx F n (f_arm_5 xs L (nI n) M) := by
  obtain ⟨A, hA, hC, hR⟩ := hI
  have key : ∀ t, t < 2 → (t = 0 ↔ xs (n + 4) = nI 0) → Nx F n (f_law_J416 xs L M (nI n) (xs (n + 1)) (xs (n + 2)) (xs (n + 3)) (nI t)) := by
    intro t ht he
    obtain ⟨o, A', hA', h1, h2⟩ := put_key hF hA hC (xs (n + 1)) (xs (n + 2)) (xs (n + 3)) t ht
    have h3 := arm_w hF cb o (n := n) hA' hR (lq_m hF cb h1) h2 (J := f_law_J495 (nI n)) (fun _ => rfl)
    unfold f_law_J416
    rw [cput_eq]
    simp (disch := first | assumption | omega) only [↓pz_n1, pz_mm, pz_mm', ↓pz_lt1, ↓pz_bd, ↓pz_bd2, ↓pz_tn, ↓pz_ts, pz_0, pz_1, pz_2, pz_3, pz_4, pz_12, pz_13, pz_15, pz_16, pz_20, pz_23, pz_24, pz_200, ↓pz_rd, ↓pz_wr, pz_add, pz_mul, pz_sub, pz_le, pz_lt, pz_eq, pz_max, pz_min, pz_cl, pz_and, pz_or, pz_shl, pz_clr, pz_bit, pz_ff, pz_tt, pz_5, pz_6, pz_7, pz_10000, pz_sb, pz_b0, pz_b1, pz_rdX]
    have e : ∀ (r : Int32) (M : Mm), (if xs (n + 4) = nI 0 then f_law_J455 (nI n) r M (xs (n + 1)) (xs (n + 2)) (xs (n + 3)) (nI 0) else f_law_J455 (nI n) r M (xs (n + 1)) (xs (n + 2)) (xs (n + 3)) (nI 1)) = f_law_J455 (nI n) r M (xs (n + 1)) (xs (n + 2)) (xs (n + 3)) (nI t) := by
      intro r M
      rcases (by omega : t = 0 ∨ t = 1) with rfl | rfl
      · rw [if_pos (he.mp rfl)]
      · rw [if_neg (fun q => by have := he.mpr q; omega)]
    simp only [e]
    simp only [lput_eq]
    rw [pz_0, pz_1] at h3
    exact h3
  unfold f_arm_5
  simp (disch := first | assumption | omega) only [↓pz_n1, pz_mm, pz_mm', ↓pz_lt1, ↓pz_bd, ↓pz_bd2, ↓pz_tn, ↓pz_ts, pz_0, pz_1, pz_2, pz_3, pz_4, pz_12, pz_13, pz_15, pz_16, pz_20, pz_23, pz_24, pz_200, ↓pz_rd, ↓pz_wr, pz_add, pz_mul, pz_sub, pz_le, pz_lt, pz_eq, pz_max, pz_min, pz_cl, pz_and, pz_or, pz_shl, pz_clr, pz_bit, pz_ff, pz_tt, pz_5, pz_6, pz_7, pz_10000, pz_sb, pz_b0, pz_b1, pz_rdX]
  by_cases h0 : xs (n + 4) = nI 0
  · rw [if_pos h0]; exact key 0 (by omega) ⟨fun _ => h0, fun _ => rfl⟩
  · rw [if_neg h0]; exact key 1 (by omega) ⟨fun h => by omega, fun h => absurd h h0⟩
/-! the sides as the reference reads them; at -/
theorem pz_rw {M : Mm} {n td b : Nat} {w h : Nat → Nat} (h7 : M.1 69 7 = nI td) (ht : td < 4096) (hw : IA M 70 n w) (hh : IA M 71 n h) (hb : b < n) (hn : n ≤ 12) : f_X10_wide (nI b) M = some (nI (swd w h td b)) := by
  unfold f_X10_wide swd
  simp (disch := first | assumption | omega) only [↓pz_n1, pz_mm, pz_mm', ↓pz_lt1, ↓pz_bd, ↓pz_bd2, ↓pz_tn, ↓pz_ts, pz_0, pz_1, pz_2, pz_3, pz_4, pz_12, pz_13, pz_15, pz_16, pz_20, pz_23, pz_24, pz_200, ↓pz_rd, ↓pz_wr, pz_add, pz_mul, pz_sub, pz_le, pz_lt, pz_eq, pz_max, pz_min, pz_cl, pz_and, pz_or, pz_shl, pz_clr, pz_bit, pz_ff, pz_tt, pz_5, pz_6, pz_7, pz_10000, pz_sb, pz_b0, pz_b1, h7, hw b hb, hh b hb]
  cases td.testBit b <;> rfl
theorem pz_rh {M : Mm} {n td b : Nat} {w h : Nat → Nat} (h7 : M.1 69 7 = nI td) (ht : td < 4096) (hw : IA M 70 n w) (hh : IA M 71 n h) (hb : b < n) (hn : n ≤ 12) : f_X10_high (nI b) M = some (nI (swd h w td b)) := by
  unfold f_X10_high swd
  simp (disch := first | assumption | omega) only [↓pz_n1, pz_mm, pz_mm', ↓pz_lt1, ↓pz_bd, ↓pz_bd2, ↓pz_tn, ↓pz_ts, pz_0, pz_1, pz_2, pz_3, pz_4, pz_12, pz_13, pz_15, pz_16, pz_20, pz_23, pz_24, pz_200, ↓pz_rd, ↓pz_wr, pz_add, pz_mul, pz_sub, pz_le, pz_lt, pz_eq, pz_max, pz_min, pz_cl, pz_and, pz_or, pz_shl, pz_clr, pz_bit, pz_ff, pz_tt, pz_5, pz_6, pz_7, pz_10000, pz_sb, pz_b0, pz_b1, h7, hw b hb, hh b hb]
  cases td.testBit b <;> rfl
theorem nl_n {M : Mm} (h : M.1 0 8 = -1) : f_X9_needLaying M = none := by
  unfold f_X9_needLaying
  rw [if_pos h]
theorem nl_y {M : Mm} (h : M.1 0 8 ≠ -1) : f_X9_needLaying M = some () := by
  unfold f_X9_needLaying
  rw [if_neg h]
theorem arm_10 {F : Abs → Nat → Mm → Prop} (hF : FOK F) {xs : Nat → Int32} {L n : Nat} {M : Mm} (hL : L ≤ 3584) (hn : n + 7 ≤ L) (hI : Inv F M) : Nx F n (f_arm_10 xs L (nI n) M) := by
  obtain ⟨A, hA, hC, hR⟩ := hI
  have hn12 := hA.n
  unfold f_arm_10
  simp (disch := first | assumption | omega) only [↓pz_n1, pz_mm, pz_mm', ↓pz_lt1, ↓pz_bd, ↓pz_bd2, ↓pz_tn, ↓pz_ts, pz_0, pz_1, pz_2, pz_3, pz_4, pz_12, pz_13, pz_15, pz_16, pz_20, pz_23, pz_24, pz_200, ↓pz_rd, ↓pz_wr, pz_add, pz_mul, pz_sub, pz_le, pz_lt, pz_eq, pz_max, pz_min, pz_cl, pz_and, pz_or, pz_shl, pz_clr, pz_bit, pz_ff, pz_tt, pz_5, pz_6, pz_7, pz_10000, pz_sb, pz_b0, pz_b1, pz_rdX]
  generalize xs (n + 1) = a
  generalize xs (n + 2) = c
  have key : ∃ o, f_X9_at a c M = some o ∧ ∀ M1, RI M1 A → RQr M1 A o (f_X10_at a c M1) := by
    unfold f_X9_at f_X10_at f_X10_at_J30 f_X10_fail
    have en : ∀ M1, RI M1 A → (wi M1 69 0 (nI 0)).1 69 1 = nI A.n := fun M1 h => h.n
    have ek : ∀ M1, RI M1 A → (wi M1 69 0 (nI 0)).1 69 6 = A.kd := fun M1 h => h.kd
    by_cases hk : A.kd = -1
    · rw [nl_n (hC.kd.trans hk)]
      simp (disch := first | assumption | omega) only [↓pz_n1, pz_mm, pz_mm', ↓pz_lt1, ↓pz_bd, ↓pz_bd2, ↓pz_tn, ↓pz_ts, pz_0, pz_1, pz_2, pz_3, pz_4, pz_12, pz_13, pz_15, pz_16, pz_20, pz_23, pz_24, pz_200, ↓pz_rd, ↓pz_wr, pz_add, pz_mul, pz_sub, pz_le, pz_lt, pz_eq, pz_max, pz_min, pz_cl, pz_and, pz_or, pz_shl, pz_clr, pz_bit, pz_ff, pz_tt, pz_5, pz_6, pz_7, pz_10000, pz_sb, pz_b0, pz_b1]
      refine ⟨_, rfl, fun M1 h => ?_⟩
      have : (wi M1 69 0 (nI 0)).1 69 6 = m1 := (ek M1 h).trans hk
      simp (disch := first | assumption | omega) only [↓pz_n1, pz_mm, pz_mm', ↓pz_lt1, ↓pz_bd, ↓pz_bd2, ↓pz_tn, ↓pz_ts, pz_0, pz_1, pz_2, pz_3, pz_4, pz_12, pz_13, pz_15, pz_16, pz_20, pz_23, pz_24, pz_200, ↓pz_rd, ↓pz_wr, pz_add, pz_mul, pz_sub, pz_le, pz_lt, pz_eq, pz_max, pz_min, pz_cl, pz_and, pz_or, pz_shl, pz_clr, pz_bit, pz_ff, pz_tt, pz_5, pz_6, pz_7, pz_10000, pz_sb, pz_b0, pz_b1, this]
      exact rq_fail h _
    · have hk' : ¬ A.kd = m1 := hk
      rw [nl_y (by rw [hC.kd]; exact hk)]
      obtain ⟨g1, g2, g3, g4, g5, g6⟩ := hC.gd hk
      obtain ⟨l1, l2, l3, l4⟩ := hA.ly hk
      have htd := p12 (sub_lt l2 hA.tb) hn12
      rcases isb a hn12 with ⟨b, hb, rfl⟩ | ha
      · rw [nb_y hC.n hn12 hb]
        have com : ∀ M1, RI M1 A → ∀ (o : Option Int32) (X : Option (Int32 × Mm)), RQr M1 A o (if c < nI 0 then f_X10_at_J30 (wi M1 69 0 (nI 0)) () else X) → True := fun _ _ _ _ _ => trivial
        rcases sw_of c (k := 4) (by omega) with ⟨j, hj, rfl⟩ | ⟨hc1, hc2⟩
        · rcases (by omega : j = 0 ∨ j = 1 ∨ j = 2 ∨ j = 3 ∨ j = 4) with rfl | rfl | rfl | rfl | rfl
          · simp (disch := first | assumption | omega) only [↓pz_n1, pz_mm, pz_mm', ↓pz_lt1, ↓pz_bd, ↓pz_bd2, ↓pz_tn, ↓pz_ts, pz_0, pz_1, pz_2, pz_3, pz_4, pz_12, pz_13, pz_15, pz_16, pz_20, pz_23, pz_24, pz_200, ↓pz_rd, ↓pz_wr, pz_add, pz_mul, pz_sub, pz_le, pz_lt, pz_eq, pz_max, pz_min, pz_cl, pz_and, pz_or, pz_shl, pz_clr, pz_bit, pz_ff, pz_tt, pz_5, pz_6, pz_7, pz_10000, pz_sb, pz_b0, pz_b1, g3 b hb]
            refine ⟨_, rfl, fun M1 h => ?_⟩
            have e1 : (wi M1 69 0 (nI 0)).1 74 b = nI (A.x b) := (h.gd hk).2.1 b hb
            rw [ib_y (en M1 h) hn12 hb, ek M1 h, if_neg hk']
            simp (disch := first | assumption | omega) only [↓pz_n1, pz_mm, pz_mm', ↓pz_lt1, ↓pz_bd, ↓pz_bd2, ↓pz_tn, ↓pz_ts, pz_0, pz_1, pz_2, pz_3, pz_4, pz_12, pz_13, pz_15, pz_16, pz_20, pz_23, pz_24, pz_200, ↓pz_rd, ↓pz_wr, pz_add, pz_mul, pz_sub, pz_le, pz_lt, pz_eq, pz_max, pz_min, pz_cl, pz_and, pz_or, pz_shl, pz_clr, pz_bit, pz_ff, pz_tt, pz_5, pz_6, pz_7, pz_10000, pz_sb, pz_b0, pz_b1, e1]
            exact rq_val h _
          · simp (disch := first | assumption | omega) only [↓pz_n1, pz_mm, pz_mm', ↓pz_lt1, ↓pz_bd, ↓pz_bd2, ↓pz_tn, ↓pz_ts, pz_0, pz_1, pz_2, pz_3, pz_4, pz_12, pz_13, pz_15, pz_16, pz_20, pz_23, pz_24, pz_200, ↓pz_rd, ↓pz_wr, pz_add, pz_mul, pz_sub, pz_le, pz_lt, pz_eq, pz_max, pz_min, pz_cl, pz_and, pz_or, pz_shl, pz_clr, pz_bit, pz_ff, pz_tt, pz_5, pz_6, pz_7, pz_10000, pz_sb, pz_b0, pz_b1, g4 b hb]
            refine ⟨_, rfl, fun M1 h => ?_⟩
            have e1 : (wi M1 69 0 (nI 0)).1 75 b = nI (A.y b) := (h.gd hk).2.2 b hb
            rw [ib_y (en M1 h) hn12 hb, ek M1 h, if_neg hk']
            simp (disch := first | assumption | omega) only [↓pz_n1, pz_mm, pz_mm', ↓pz_lt1, ↓pz_bd, ↓pz_bd2, ↓pz_tn, ↓pz_ts, pz_0, pz_1, pz_2, pz_3, pz_4, pz_12, pz_13, pz_15, pz_16, pz_20, pz_23, pz_24, pz_200, ↓pz_rd, ↓pz_wr, pz_add, pz_mul, pz_sub, pz_le, pz_lt, pz_eq, pz_max, pz_min, pz_cl, pz_and, pz_or, pz_shl, pz_clr, pz_bit, pz_ff, pz_tt, pz_5, pz_6, pz_7, pz_10000, pz_sb, pz_b0, pz_b1, e1]
            exact rq_val h _
          · simp (disch := first | assumption | omega) only [↓pz_n1, pz_mm, pz_mm', ↓pz_lt1, ↓pz_bd, ↓pz_bd2, ↓pz_tn, ↓pz_ts, pz_0, pz_1, pz_2, pz_3, pz_4, pz_12, pz_13, pz_15, pz_16, pz_20, pz_23, pz_24, pz_200, ↓pz_rd, ↓pz_wr, pz_add, pz_mul, pz_sub, pz_le, pz_lt, pz_eq, pz_max, pz_min, pz_cl, pz_and, pz_or, pz_shl, pz_clr, pz_bit, pz_ff, pz_tt, pz_5, pz_6, pz_7, pz_10000, pz_sb, pz_b0, pz_b1, g5 b hb]
            refine ⟨_, rfl, fun M1 h => ?_⟩
            have e1 := pz_rw (M := wi M1 69 0 (nI 0)) (h.gd hk).1 htd (h.w.eq rfl) (h.h.eq rfl) hb hn12
            rw [ib_y (en M1 h) hn12 hb, ek M1 h, if_neg hk']
            simp (disch := first | assumption | omega) only [↓pz_n1, pz_mm, pz_mm', ↓pz_lt1, ↓pz_bd, ↓pz_bd2, ↓pz_tn, ↓pz_ts, pz_0, pz_1, pz_2, pz_3, pz_4, pz_12, pz_13, pz_15, pz_16, pz_20, pz_23, pz_24, pz_200, ↓pz_rd, ↓pz_wr, pz_add, pz_mul, pz_sub, pz_le, pz_lt, pz_eq, pz_max, pz_min, pz_cl, pz_and, pz_or, pz_shl, pz_clr, pz_bit, pz_ff, pz_tt, pz_5, pz_6, pz_7, pz_10000, pz_sb, pz_b0, pz_b1, e1]
            exact rq_val h _
          · simp (disch := first | assumption | omega) only [↓pz_n1, pz_mm, pz_mm', ↓pz_lt1, ↓pz_bd, ↓pz_bd2, ↓pz_tn, ↓pz_ts, pz_0, pz_1, pz_2, pz_3, pz_4, pz_12, pz_13, pz_15, pz_16, pz_20, pz_23, pz_24, pz_200, ↓pz_rd, ↓pz_wr, pz_add, pz_mul, pz_sub, pz_le, pz_lt, pz_eq, pz_max, pz_min, pz_cl, pz_and, pz_or, pz_shl, pz_clr, pz_bit, pz_ff, pz_tt, pz_5, pz_6, pz_7, pz_10000, pz_sb, pz_b0, pz_b1, g6 b hb]
            refine ⟨_, rfl, fun M1 h => ?_⟩
            have e1 := pz_rh (M := wi M1 69 0 (nI 0)) (h.gd hk).1 htd (h.w.eq rfl) (h.h.eq rfl) hb hn12
            rw [ib_y (en M1 h) hn12 hb, ek M1 h, if_neg hk']
            simp (disch := first | assumption | omega) only [↓pz_n1, pz_mm, pz_mm', ↓pz_lt1, ↓pz_bd, ↓pz_bd2, ↓pz_tn, ↓pz_ts, pz_0, pz_1, pz_2, pz_3, pz_4, pz_12, pz_13, pz_15, pz_16, pz_20, pz_23, pz_24, pz_200, ↓pz_rd, ↓pz_wr, pz_add, pz_mul, pz_sub, pz_le, pz_lt, pz_eq, pz_max, pz_min, pz_cl, pz_and, pz_or, pz_shl, pz_clr, pz_bit, pz_ff, pz_tt, pz_5, pz_6, pz_7, pz_10000, pz_sb, pz_b0, pz_b1, e1]
            exact rq_val h _
          · simp (disch := first | assumption | omega) only [↓pz_n1, pz_mm, pz_mm', ↓pz_lt1, ↓pz_bd, ↓pz_bd2, ↓pz_tn, ↓pz_ts, pz_0, pz_1, pz_2, pz_3, pz_4, pz_12, pz_13, pz_15, pz_16, pz_20, pz_23, pz_24, pz_200, ↓pz_rd, ↓pz_wr, pz_add, pz_mul, pz_sub, pz_le, pz_lt, pz_eq, pz_max, pz_min, pz_cl, pz_and, pz_or, pz_shl, pz_clr, pz_bit, pz_ff, pz_tt, pz_5, pz_6, pz_7, pz_10000, pz_sb, pz_b0, pz_b1, g2]
            refine ⟨_, rfl, fun M1 h => ?_⟩
            have e1 : (wi M1 69 0 (nI 0)).1 69 7 = nI A.td := (h.gd hk).1
            rw [ib_y (en M1 h) hn12 hb, ek M1 h, if_neg hk']
            simp (disch := first | assumption | omega) only [↓pz_n1, pz_mm, pz_mm', ↓pz_lt1, ↓pz_bd, ↓pz_bd2, ↓pz_tn, ↓pz_ts, pz_0, pz_1, pz_2, pz_3, pz_4, pz_12, pz_13, pz_15, pz_16, pz_20, pz_23, pz_24, pz_200, ↓pz_rd, ↓pz_wr, pz_add, pz_mul, pz_sub, pz_le, pz_lt, pz_eq, pz_max, pz_min, pz_cl, pz_and, pz_or, pz_shl, pz_clr, pz_bit, pz_ff, pz_tt, pz_5, pz_6, pz_7, pz_10000, pz_sb, pz_b0, pz_b1, e1]
            exact rq_val h _
        · simp (disch := first | assumption | omega) only [↓pz_n1, pz_mm, pz_mm', ↓pz_lt1, ↓pz_bd, ↓pz_bd2, ↓pz_tn, ↓pz_ts, pz_0, pz_1, pz_2, pz_3, pz_4, pz_12, pz_13, pz_15, pz_16, pz_20, pz_23, pz_24, pz_200, ↓pz_rd, ↓pz_wr, pz_add, pz_mul, pz_sub, pz_le, pz_lt, pz_eq, pz_max, pz_min, pz_cl, pz_and, pz_or, pz_shl, pz_clr, pz_bit, pz_ff, pz_tt, pz_5, pz_6, pz_7, pz_10000, pz_sb, pz_b0, pz_b1]
          rw [if_neg (hc2 0 (by omega)), if_neg (hc2 1 (by omega)), if_neg (hc2 2 (by omega)), if_neg (hc2 3 (by omega)), if_neg (hc2 4 (by omega))]
          refine ⟨_, rfl, fun M1 h => ?_⟩
          rw [ib_y (en M1 h) hn12 hb, ek M1 h, if_neg hk']
          simp (disch := first | assumption | omega) only [↓pz_n1, pz_mm, pz_mm', ↓pz_lt1, ↓pz_bd, ↓pz_bd2, ↓pz_tn, ↓pz_ts, pz_0, pz_1, pz_2, pz_3, pz_4, pz_12, pz_13, pz_15, pz_16, pz_20, pz_23, pz_24, pz_200, ↓pz_rd, ↓pz_wr, pz_add, pz_mul, pz_sub, pz_le, pz_lt, pz_eq, pz_max, pz_min, pz_cl, pz_and, pz_or, pz_shl, pz_clr, pz_bit, pz_ff, pz_tt, pz_5, pz_6, pz_7, pz_10000, pz_sb, pz_b0, pz_b1]
          rcases hc1 with h1 | ⟨h1, _, h2⟩
          · rw [if_pos h1]; exact rq_fail h _
          · rw [if_neg h2, if_neg h1]; exact rq_fail h _
      · rw [nb_n hC.n ha]
        simp (disch := first | assumption | omega) only [↓pz_n1, pz_mm, pz_mm', ↓pz_lt1, ↓pz_bd, ↓pz_bd2, ↓pz_tn, ↓pz_ts, pz_0, pz_1, pz_2, pz_3, pz_4, pz_12, pz_13, pz_15, pz_16, pz_20, pz_23, pz_24, pz_200, ↓pz_rd, ↓pz_wr, pz_add, pz_mul, pz_sub, pz_le, pz_lt, pz_eq, pz_max, pz_min, pz_cl, pz_and, pz_or, pz_shl, pz_clr, pz_bit, pz_ff, pz_tt, pz_5, pz_6, pz_7, pz_10000, pz_sb, pz_b0, pz_b1]
        refine ⟨_, rfl, fun M1 h => ?_⟩
        rw [ib_n (en M1 h) ha, ek M1 h, if_neg hk']
        simp (disch := first | assumption | omega) only [↓pz_n1, pz_mm, pz_mm', ↓pz_lt1, ↓pz_bd, ↓pz_bd2, ↓pz_tn, ↓pz_ts, pz_0, pz_1, pz_2, pz_3, pz_4, pz_12, pz_13, pz_15, pz_16, pz_20, pz_23, pz_24, pz_200, ↓pz_rd, ↓pz_wr, pz_add, pz_mul, pz_sub, pz_le, pz_lt, pz_eq, pz_max, pz_min, pz_cl, pz_and, pz_or, pz_shl, pz_clr, pz_bit, pz_ff, pz_tt, pz_5, pz_6, pz_7, pz_10000, pz_sb, pz_b0, pz_b1]
        exact rq_fail h _
  obtain ⟨o, e1, e2⟩ := key
  exact arm_w hF Int32.toInt64 o hA hR (lq_p hF Int32.toInt64 hC e1) e2 (fun _ => rfl)
