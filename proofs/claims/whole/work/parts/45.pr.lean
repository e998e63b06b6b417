/-! the reference's laying of a pair -/
/-- the reference's cells but x, y and the kind stay -/
def KeepR (M M' : Mm) : Prop := (∀ k, k ≠ 69 → k ≠ 74 → k ≠ 75 → M'.1 k = M.1 k) ∧ (∀ j, j ≠ 6 → M'.1 69 j = M.1 69 j) ∧ M'.2 = M.2
theorem KeepR.fr {M M' : Mm} (h : KeepR M M') : Fr SRw M M' := ⟨fun k hk => h.1 k (fun e => hk (Or.inl e)) (fun e => hk (Or.inr (by omega))) (fun e => hk (Or.inr (by omega))), fun k _ => by rw [h.2.2]⟩
theorem rlay_ok {M : Mm} {n td : Nat} {w h one two : Nat → Nat} (hn : n ≤ 12) (htd : td < 4096) (hw : ∀ b, b < n → 1 ≤ w b ∧ w b ≤ 200) (hh : ∀ b, b < n → 1 ≤ h b ∧ h b ≤ 200) (r1 : M.1 69 1 = nI n) (r7 : M.1 69 7 = nI td) (r70 : IA M 70 n w) (r71 : IA M 71 n h) (e1 : IA M 76 n one) (e2 : IA M 77 n two) (p1 : PermN n one) (p2 : PermN n two) :
    Wp (f_X10_layPair M) (fun M' => IA M' 74 n (lpx (swd w h td) two (fun b => ps one b n) true n) ∧ IA M' 75 n (lpx (swd h w td) two (fun b => ps one b n) false n) ∧ M'.1 69 6 = nI 1 ∧ KeepR M M') := by
  generalize hW : swd w h td = W
  generalize hH : swd h w td = H
  have bW : ∀ b, b < n → 1 ≤ W b ∧ W b ≤ 200 := fun b hb => by subst hW; exact swd_le hw hh hb
  have bH : ∀ b, b < n → 1 ≤ H b ∧ H b ≤ 200 := fun b hb => by subst hH; exact swd_le hh hw hb
  generalize hpos : (fun b => ps one b n) = pos
  have epos : ∀ b, ps one b n = pos b := fun b => by rw [← hpos]
  unfold f_X10_layPair f_X10_layPair_A2
  simp (disch := first | assumption | omega) only [↓pz_n1, pz_mm, pz_mm', ↓pz_lt1, ↓pz_bd, ↓pz_bd2, ↓pz_tn, ↓pz_ts, pz_0, pz_1, pz_2, pz_3, pz_4, pz_12, pz_13, pz_15, pz_16, pz_20, pz_23, pz_24, pz_200, ↓pz_rd, ↓pz_wr, pz_add, pz_mul, pz_sub, pz_le, pz_lt, pz_eq, pz_max, pz_min, pz_cl, pz_and, pz_or, pz_shl, pz_clr, pz_bit, pz_ff, pz_tt, pz_5, pz_6, pz_7, pz_10000, pz_sb, pz_b0, pz_b1]
  refine wp_b (wp_for (step := fun v => f_X10_layPair_L2 v.1 v.2) (fun j M' => (∀ i, i < j → M'.1 74 (two i) = nI (lpx W two pos true j (two i))) ∧ (∀ i, i < j → M'.1 75 (two i) = nI (lpx H two pos false j (two i))) ∧ (∀ k, k ≠ 74 → k ≠ 75 → M'.1 k = M.1 k) ∧ M'.2 = M.2) n (by omega) ?_ ?_ ⟨fun i hi => by omega, fun i hi => by omega, fun _ _ _ => rfl, rfl⟩) ?_
  · rintro j M1 hj ⟨a1, a2, a3, a4⟩
    show Wp (f_X10_layPair_L2 (nI j) M1) _
    unfold f_X10_layPair_L2
    have h1 : ¬ n ≤ j := by omega
    have c1 : M1.1 69 1 = nI n := by rw [a3 69 (by omega) (by omega)]; exact r1
    have c2 : IA M1 77 n two := e2.eq (a3 77 (by omega) (by omega))
    have bj := p2.1 j hj
    simp (disch := first | assumption | omega) only [↓pz_n1, pz_mm, pz_mm', ↓pz_lt1, ↓pz_bd, ↓pz_bd2, ↓pz_tn, ↓pz_ts, pz_0, pz_1, pz_2, pz_3, pz_4, pz_12, pz_13, pz_15, pz_16, pz_20, pz_23, pz_24, pz_200, ↓pz_rd, ↓pz_wr, pz_add, pz_mul, pz_sub, pz_le, pz_lt, pz_eq, pz_max, pz_min, pz_cl, pz_and, pz_or, pz_shl, pz_clr, pz_bit, pz_ff, pz_tt, pz_5, pz_6, pz_7, pz_10000, pz_sb, pz_b0, pz_b1, c1, h1, c2 j hj]
    have hW2 : ∀ i, i < j → W (two i) ≤ 200 := fun i hi => (bW _ (p2.1 i (by omega))).2
    have hH2 : ∀ i, i < j → H (two i) ≤ 200 := fun i hi => (bH _ (p2.1 i (by omega))).2
    refine wp_b (wp_for (step := fun v => f_X10_layPair_L33 (nI j) (nI (two j)) v.1 v.2) (fun i M' => M'.1 74 (two j) = nI (mxn (lpf W two pos true j) i) ∧ M'.1 75 (two j) = nI (mxn (lpf H two pos false j) i) ∧ (∀ i, i < j → M'.1 74 (two i) = nI (lpx W two pos true j (two i))) ∧ (∀ i, i < j → M'.1 75 (two i) = nI (lpx H two pos false j (two i))) ∧ (∀ k, k ≠ 74 → k ≠ 75 → M'.1 k = M.1 k) ∧ M'.2 = M.2) j (by omega) ?_ ?_ ⟨?_, ?_, ?_, ?_, ?_, a4⟩) ?_
    · rintro i M2 hi ⟨b1, b2, b3, b4, b5, b6⟩
      show Wp (f_X10_layPair_L33 (nI j) (nI (two j)) (nI i) M2) _
      unfold f_X10_layPair_L33 f_X10_layPair_J118
      have d1 : IA M2 76 n one := e1.eq (b5 76 (by omega) (by omega))
      have d2 : IA M2 77 n two := e2.eq (b5 77 (by omega) (by omega))
      have d7 : M2.1 69 7 = nI td := by rw [b5 69 (by omega) (by omega)]; exact r7
      have dw : IA M2 70 n w := r70.eq (b5 70 (by omega) (by omega))
      have dh : IA M2 71 n h := r71.eq (b5 71 (by omega) (by omega))
      have bi := p2.1 i (by omega)
      have em := must_ok hn d1 d2 p1 p2 hi hj (t := 1) (by omega)
      rw [epos, epos] at em
      have eW := pz_rw d7 htd dw dh bi hn
      have eH := pz_rh d7 htd dw dh bi hn
      rw [hW] at eW
      rw [hH] at eH
      have q1 : ¬ j ≤ i := by omega
      have m1' := lpf_m (W := W) (two := two) (pos := pos) (lf := true) hW2 (show i ≤ j by omega)
      have m2' := lpf_m (W := H) (two := two) (pos := pos) (lf := false) hH2 (show i ≤ j by omega)
      have m3 := lpx_le (W := W) (two := two) (pos := pos) (lf := true) (j := j) hW2 (two i)
      have m4 := lpx_le (W := H) (two := two) (pos := pos) (lf := false) (j := j) hH2 (two i)
      have m5 := hW2 i hi
      have m6 := hH2 i hi
      have x1 := b3 i hi
      have x2 := b4 i hi
      have hne : ∀ i, i < j → two i ≠ two j := fun i hi e => by have := p2.2 i j (by omega) hj e; omega
      by_cases hlt : pos (two i) < pos (two j)
      · rw [decide_eq_true hlt] at em
        have em : f_X10_must (nI (two i)) (nI (two j)) (nI 1) M2 = some (nI 1) := em
        simp (disch := first | assumption | omega) only [↓pz_n1, pz_mm, pz_mm', ↓pz_lt1, ↓pz_bd, ↓pz_bd2, ↓pz_tn, ↓pz_ts, pz_0, pz_1, pz_2, pz_3, pz_4, pz_12, pz_13, pz_15, pz_16, pz_20, pz_23, pz_24, pz_200, ↓pz_rd, ↓pz_wr, pz_add, pz_mul, pz_sub, pz_le, pz_lt, pz_eq, pz_max, pz_min, pz_cl, pz_and, pz_or, pz_shl, pz_clr, pz_bit, pz_ff, pz_tt, pz_5, pz_6, pz_7, pz_10000, pz_sb, pz_b0, pz_b1, q1, d2 i (by omega), ↓bde em, b1, x1, ↓bde eW]
        refine wp_s ⟨_, rfl, ?_, ?_, fun k hk => ?_, fun k hk => b4 k hk, fun k h1 h2 => ?_, b6⟩
        · rw [wi_at, if_pos rfl, mxn_s, (lpf_y hlt).1]
        · show M2.1 75 (two j) = _
          rw [mxn_s, (lpf_y hlt).2, Nat.max_zero]; exact b2
        · rw [wi_at, if_neg (hne k hk)]; exact b3 k hk
        · rw [wi_n _ _ _ h1]; exact b5 k h1 h2
      · rw [decide_eq_false hlt] at em
        have em : f_X10_must (nI (two i)) (nI (two j)) (nI 1) M2 = some (nI 0) := em
        simp (disch := first | assumption | omega) only [↓pz_n1, pz_mm, pz_mm', ↓pz_lt1, ↓pz_bd, ↓pz_bd2, ↓pz_tn, ↓pz_ts, pz_0, pz_1, pz_2, pz_3, pz_4, pz_12, pz_13, pz_15, pz_16, pz_20, pz_23, pz_24, pz_200, ↓pz_rd, ↓pz_wr, pz_add, pz_mul, pz_sub, pz_le, pz_lt, pz_eq, pz_max, pz_min, pz_cl, pz_and, pz_or, pz_shl, pz_clr, pz_bit, pz_ff, pz_tt, pz_5, pz_6, pz_7, pz_10000, pz_sb, pz_b0, pz_b1, q1, d2 i (by omega), ↓bde em, b2, x2, ↓bde eH]
        refine wp_s ⟨_, rfl, ?_, ?_, fun k hk => b3 k hk, fun k hk => ?_, fun k h1 h2 => ?_, b6⟩
        · show M2.1 74 (two j) = _
          rw [mxn_s, (lpf_n hlt).2, Nat.max_zero]; exact b1
        · rw [wi_at, if_pos rfl, mxn_s, (lpf_n hlt).1]
        · rw [wi_at, if_neg (hne k hk)]; exact b4 k hk
        · rw [wi_n _ _ _ h2]; exact b5 k h1 h2
    · rintro M2 ⟨b1, b2, b3, b4, b5, b6⟩
      show f_X10_layPair_L33 (nI j) (nI (two j)) (nI j) M2 = _
      unfold f_X10_layPair_L33
      rw [if_pos ((nI_leI (by omega) (by omega)).mpr (Nat.le_refl _))]
    · rw [wi_n _ _ _ (by decide), wi_at, if_pos rfl]; rfl
    · rw [wi_at, if_pos rfl]; rfl
    · intro i hi
      rw [wi_n _ _ _ (by decide), wi_at, if_neg (fun e => by have := p2.2 i j (by omega) hj e; omega)]
      exact a1 i hi
    · intro i hi
      rw [wi_at, if_neg (fun e => by have := p2.2 i j (by omega) hj e; omega), wi_n _ _ _ (by decide)]
      exact a2 i hi
    · intro k h1 h2
      rw [wi_n _ _ _ h2, wi_n _ _ _ h1]
      exact a3 k h1 h2
    · rintro M2 ⟨b1, b2, b3, b4, b5, b6⟩
      unfold f_X10_layPair_A33
      simp (disch := first | assumption | omega) only [↓pz_n1, pz_mm, pz_mm', ↓pz_lt1, ↓pz_bd, ↓pz_bd2, ↓pz_tn, ↓pz_ts, pz_0, pz_1, pz_2, pz_3, pz_4, pz_12, pz_13, pz_15, pz_16, pz_20, pz_23, pz_24, pz_200, ↓pz_rd, ↓pz_wr, pz_add, pz_mul, pz_sub, pz_le, pz_lt, pz_eq, pz_max, pz_min, pz_cl, pz_and, pz_or, pz_shl, pz_clr, pz_bit, pz_ff, pz_tt, pz_5, pz_6, pz_7, pz_10000, pz_sb, pz_b0, pz_b1]
      refine wp_s ⟨_, rfl, fun i hi => ?_, fun i hi => ?_, b5, b6⟩
      · rw [lpx_s]
        unfold fset
        by_cases e : two i = two j
        · rw [if_pos e, e]; exact b1
        · rw [if_neg e]; exact b3 i (by have : i ≠ j := fun q => e (by rw [q]); omega)
      · rw [lpx_s]
        unfold fset
        by_cases e : two i = two j
        · rw [if_pos e, e]; exact b2
        · rw [if_neg e]; exact b4 i (by have : i ≠ j := fun q => e (by rw [q]); omega)
  · rintro M1 ⟨a1, a2, a3, a4⟩
    show f_X10_layPair_L2 (nI n) M1 = _
    unfold f_X10_layPair_L2
    have c1 : M1.1 69 1 = nI n := by rw [a3 69 (by omega) (by omega)]; exact r1
    rw [c1, if_pos ((nI_leI (by omega) (by omega)).mpr (Nat.le_refl _))]
  · rintro M1 ⟨a1, a2, a3, a4⟩
    refine wp_s ⟨?_, ?_, rfl, fun k h1 h2 h3 => ?_, fun k hk => ?_, a4⟩
    · intro b hb
      obtain ⟨i, hi, rfl⟩ := p2.sur hb
      exact a1 i hi
    · intro b hb
      obtain ⟨i, hi, rfl⟩ := p2.sur hb
      exact a2 i hi
    · rw [wi_n _ _ _ h1]; exact a3 k h2 h3
    · rw [wi_at, if_neg hk, a3 69 (by omega) (by omega)]
/-- a laying of a pair -/
def prS (A : Abs) (td : Nat) (one two : Nat → Nat) : Abs := mkA A.n A.tb td A.s A.ro 1 A.w A.h A.nt (lpx (swd A.w A.h td) two (fun b => ps one b A.n) true A.n) (lpx (swd A.h A.w td) two (fun b => ps one b A.n) false A.n) one two A.tk A.lf A.rt
theorem lpx_b {A : Abs} (hA : AOK A) {w h : Nat → Nat} (hw : ∀ b, b < A.n → 1 ≤ w b ∧ w b ≤ 200) (hh : ∀ b, b < A.n → 1 ≤ h b ∧ h b ≤ 200) {td : Nat} {two pos : Nat → Nat} {lf : Bool} (p2 : PermN A.n two) (b : Nat) : lpx (swd w h td) two pos lf A.n b ≤ 10000 := by
  have hn := hA.n
  have := lpx_le (W := swd w h td) (two := two) (pos := pos) (lf := lf) (j := A.n) (fun i hi => (swd_le hw hh (p2.1 i hi)).2) b
  omega
theorem AOK.prs {A : Abs} (hA : AOK A) (h1 : 1 ≤ A.n) {td : Nat} {one two : Nat → Nat} (ht : td &&& A.tb = td) (p1 : PermN A.n one) (p2 : PermN A.n two) : AOK (prS A td one two) :=
  ⟨hA.n, hA.w, hA.h, hA.tb, hA.nt, hA.s, Or.inr (Or.inr (Or.inl rfl)), fun _ => ⟨h1, ht, fun b _ => lpx_b hA hA.w hA.h p2 b, fun b _ => lpx_b hA hA.h hA.w p2 b⟩, fun _ => ⟨p1, p2⟩, fun q => absurd q (by show ¬ (1 : Int32) = 2; decide), fun q => absurd q (by show ¬ (1 : Int32) = 3; decide)⟩
/-- the class lays a pair -/
theorem c_layp {F : Abs → Nat → Mm → Prop} (hF : FOK F) {M M0 : Mm} {A : Abs} (hA : AOK A) (hC : CI F M0 A) (hf : Fr (SB 5 33) M0 M) {one two : Nat → Nat} (p1 : PermN A.n one) (p2 : PermN A.n two) (o5 : M.1 11 5 = nI A.n) (o1 : IA M 12 A.n one) (o2 : IA M 13 A.n two) (o3 : IA M 14 A.n (fun b => ps one b A.n)) (x : Int32) :
    Wp (f_X9_layOut 11 (nI 1) x M) (fun M' => CI F M' (prS A (msk x A.tb) one two) ∧ Fr SC M0 M') := by
  have hn := hA.n
  have q : ∀ k, k < 5 → M.1 k = M0.1 k := fun k hk => hf.1 k (fun h => by unfold SB at h; omega)
  unfold f_X9_layOut f_tlay
  refine wp_b (take_ok (n := A.n) (tb := A.tb) (w := A.w) (h := A.h) (by omega) hn (by rw [q 1 (by omega)]; exact hC.n) (by rw [q 1 (by omega)]; exact hC.tb) hA.tb (hC.w.eq (q 2 (by omega))) (hC.h.eq (q 3 (by omega))) x) ?_
  rintro M1 ⟨a1, a2, a3, a4, a5⟩
  rw [if_pos (Or.inl rfl)]
  have q1 : ∀ k, 11 ≤ k → M1.1 k = M.1 k := fun k hk => a5.1 k (fun h => by unfold SB at h; omega)
  refine wp_b (lay_ok (k0 := 11) (k1 := 5) (pos := fun b => ps one b A.n) hn (by omega) (by rw [q1 11 (by omega)]; exact o5) (o2.eq (q1 13 (by omega))) p2 (o3.eq (q1 14 (by omega))) (fun b hb => by have := (p1.pl hb).1; show ps one b A.n < 12; omega) a3 a4 (fun b hb => swd_le hA.w hA.h hb) (fun b hb => swd_le hA.h hA.w hb)) ?_
  rintro M2 ⟨b1, b2, b3⟩
  have q2 : ∀ k, k < 6 ∨ 7 < k → M2.1 k = M1.1 k := fun k hk => b3.1 k (fun h => by unfold SB at h; omega)
  have f2 : Fr (SB 5 33) M0 M2 := (hf.tr (a5.mono (fun k h => ⟨h.1, Nat.le_trans h.2 (by omega)⟩))).tr (b3.mono (fun k h => ⟨Nat.le_trans (by omega) h.1, Nat.le_trans h.2 (by omega)⟩))
  rw [pz_lt1]
  refine wp_s ⟨CI.nw hF (A' := prS A (msk x A.tb) one two) hC ⟨rfl, rfl, rfl, rfl, rfl, rfl⟩ f2 (fun _ => ⟨?_, ?_, b1, b2, a3.eq (q2 8 (by omega)), a4.eq (q2 9 (by omega))⟩) (fun _ => ⟨?_, ?_, ?_, ?_⟩) (fun h => absurd h (by show ¬ (1 : Int32) = 2; decide)) (fun h => absurd h (by show ¬ (1 : Int32) = 3; decide)), (f2.mono (fun k h => sb_sc h (by omega))).w (show SC 0 by unfold SC; omega)⟩
  · rw [q2 5 (by omega)]; exact a1
  · rw [q2 5 (by omega)]; exact a2
  · rw [q2 11 (by omega), q1 11 (by omega)]; exact o5
  · exact (o1.eq (q1 12 (by omega))).eq (q2 12 (by omega))
  · exact (o2.eq (q1 13 (by omega))).eq (q2 13 (by omega))
  · intro i hi
    have hi : i < A.n := hi
    show M2.1 14 (one i) = nI i
    rw [q2 14 (by omega), q1 14 (by omega), o3 _ (p1.1 i hi)]
    show nI (ps one (one i) A.n) = _
    rw [p1.pse hi]
/-- the reference lays a pair -/
theorem r_layp {M M0 : Mm} {A : Abs} (hA : AOK A) (hR : RI M0 A) (hf : Fr SRw M0 M) {one two : Nat → Nat} {td : Nat} (p1 : PermN A.n one) (p2 : PermN A.n two) (r1 : M.1 69 1 = nI A.n) (r41 : M.1 69 41 = nI A.s) (r7 : M.1 69 7 = nI td) (ht : td &&& A.tb = td) (o1 : IA M 76 A.n one) (o2 : IA M 77 A.n two) :
    Wp (f_X10_layPair M) (fun M' => RI M' (prS A td one two) ∧ Fr SR M0 M' ∧ M'.1 69 0 = M.1 69 0) := by
  have hn := hA.n
  have q : ∀ k, 70 ≤ k ∧ k ≤ 73 → M.1 k = M0.1 k := fun k hk => hf.1 k (fun h => by unfold SRw at h; omega)
  refine wp_m (rlay_ok (one := one) (two := two) hn (p12 (sub_lt ht hA.tb) hn) hA.w hA.h r1 r7 (hR.w.eq (q 70 (by omega))) (hR.h.eq (q 71 (by omega))) o1 o2 p1 p2) ?_
  rintro M' ⟨a1, a2, a3, a4⟩
  have f2 : Fr SRw M0 M' := hf.tr a4.fr
  refine ⟨RI.nw (A' := prS A td one two) hR ⟨rfl, rfl, rfl, rfl, rfl, rfl⟩ f2 ?_ ?_ a3 (fun _ => ⟨?_, a1, a2⟩) (fun _ => ⟨?_, ?_⟩) (fun h => absurd h (by show ¬ (1 : Int32) = 2; decide)) (fun h => absurd h (by show ¬ (1 : Int32) = 3; decide)), f2.mono (fun k h => srw_sr h), a4.2.1 0 (by omega)⟩
  · rw [a4.2.1 1 (by omega)]; exact r1
  · rw [a4.2.1 41 (by omega)]; exact r41
  · rw [a4.2.1 7 (by omega)]; exact r7
  · exact o1.eq (a4.1 76 (by omega) (by omega) (by omega))
  · exact o2.eq (a4.1 77 (by omega) (by omega) (by omega))
