/-! the ground: sides, taking, places, put, at -/
theorem IA.snoc {M : Mm} {k n x : Nat} {a : Nat → Nat} (h : IA M k n a) (e : x = a n) : IA (wi M k n (nI x)) k (n + 1) a := fun j hj => by
  rw [wi_at]
  by_cases q : j = n
  · rw [if_pos q, q, e]
  · rw [if_neg q]; exact h j (by omega)
theorem IA.nil {M : Mm} {k : Nat} {a : Nat → Nat} : IA M k 0 a := fun j hj => by omega
theorem ss_ok {M : Mm} {k0 b td : Nat} {w h : Nat → Nat} (hk : 5 ≤ k0) (hb : b < 12) (h5 : M.1 k0 5 = nI td) (ht : td < 4096) (hw : M.1 2 b = nI (w b)) (hh : M.1 3 b = nI (h b)) : f_X2_setSides k0 (nI b) M = some (wi (wi M (k0 + 3) b (nI (swd w h td b))) (k0 + 4) b (nI (swd h w td b))) := by
  unfold f_X2_setSides f_X2_setSides_J17 f_X2_setSides_J42 f_X2_setSides_J67
  have q2 : (2 : Nat) ≠ k0 + 3 := by omega
  have q3 : (3 : Nat) ≠ k0 + 3 := by omega
  have e2 : ∀ v : Int32, (wi M (k0 + 3) b v).1 2 b = nI (w b) := fun v => by rw [wi_n _ _ _ q2]; exact hw
  have e3 : ∀ v : Int32, (wi M (k0 + 3) b v).1 3 b = nI (h b) := fun v => by rw [wi_n _ _ _ q3]; exact hh
  unfold swd
  simp (disch := first | assumption | omega) only [↓pz_n1, pz_mm, pz_mm', ↓pz_lt1, ↓pz_bd, ↓pz_bd2, ↓pz_tn, ↓pz_ts, pz_0, pz_1, pz_2, pz_3, pz_4, pz_12, pz_13, pz_15, pz_16, pz_20, pz_23, pz_24, pz_200, ↓pz_rd, ↓pz_wr, pz_add, pz_mul, pz_sub, pz_le, pz_lt, pz_eq, pz_max, pz_min, pz_cl, pz_and, pz_or, pz_shl, pz_clr, pz_bit, pz_ff, pz_tt, pz_5, pz_6, pz_7, pz_10000, pz_sb, pz_b0, pz_b1, h5, hw, hh, e2, e3]
  cases td.testBit b <;> rfl
theorem take_ok {M : Mm} {k0 n tb : Nat} {w h : Nat → Nat} (hk : 5 ≤ k0) (hn : n ≤ 12) (h1 : M.1 1 3 = nI n) (h2 : M.1 1 2 = nI tb) (ht : tb < 2 ^ n) (hw : IA M 2 n w) (hh : IA M 3 n h) (x : Int32) :
    Wp (f_X2_take k0 x M) (fun M' => M'.1 k0 6 = nI n ∧ M'.1 k0 5 = nI (msk x tb) ∧ IA M' (k0 + 3) n (swd w h (msk x tb)) ∧ IA M' (k0 + 4) n (swd h w (msk x tb)) ∧ Fr (SB k0 (k0 + 5)) M M') := by
  unfold f_X2_take f_X2_take_A20
  have q1 : (1 : Nat) ≠ k0 := by omega
  have e1 : (wi M k0 6 (nI n)).1 1 2 = nI tb := by rw [wi_n _ _ _ q1]; exact h2
  simp (disch := first | assumption | omega) only [↓pz_n1, pz_mm, pz_mm', ↓pz_lt1, ↓pz_bd, ↓pz_bd2, ↓pz_tn, ↓pz_ts, pz_0, pz_1, pz_2, pz_3, pz_4, pz_12, pz_13, pz_15, pz_16, pz_20, pz_23, pz_24, pz_200, ↓pz_rd, ↓pz_wr, pz_add, pz_mul, pz_sub, pz_le, pz_lt, pz_eq, pz_max, pz_min, pz_cl, pz_and, pz_or, pz_shl, pz_clr, pz_bit, pz_ff, pz_tt, pz_5, pz_6, pz_7, pz_10000, pz_sb, pz_b0, pz_b1, h1, e1, pz_msk]
  have htd : msk x tb < 4096 := p12 (msk_lt ht) hn
  generalize msk x tb = td at htd
  refine wp_b (wp_for (step := fun v => f_X2_take_L20 k0 v.1 v.2) (fun i M' => M'.1 k0 6 = nI n ∧ M'.1 k0 5 = nI td ∧ IA M' (k0 + 3) i (swd w h td) ∧ IA M' (k0 + 4) i (swd h w td) ∧ Fr (SB k0 (k0 + 5)) M M') n (by omega) ?_ ?_ ⟨?_, ?_, IA.nil, IA.nil, (Fr.rf.w ⟨by omega, by omega⟩).w ⟨by omega, by omega⟩⟩) (fun M' h => wp_s h)
  · rintro i M1 hi ⟨a1, a2, a3, a4, a5⟩
    show Wp (f_X2_take_L20 k0 (nI i) M1) _
    unfold f_X2_take_L20
    have b2 : M1.1 2 i = nI (w i) := by rw [a5.1 2 (fun h => by unfold SB at h; omega)]; exact hw i hi
    have b3 : M1.1 3 i = nI (h i) := by rw [a5.1 3 (fun h => by unfold SB at h; omega)]; exact hh i hi
    have c1 : ¬ n ≤ i := by omega
    rw [ss_ok hk (by omega) a2 htd b2 b3]
    simp (disch := first | assumption | omega) only [↓pz_n1, pz_mm, pz_mm', ↓pz_lt1, ↓pz_bd, ↓pz_bd2, ↓pz_tn, ↓pz_ts, pz_0, pz_1, pz_2, pz_3, pz_4, pz_12, pz_13, pz_15, pz_16, pz_20, pz_23, pz_24, pz_200, ↓pz_rd, ↓pz_wr, pz_add, pz_mul, pz_sub, pz_le, pz_lt, pz_eq, pz_max, pz_min, pz_cl, pz_and, pz_or, pz_shl, pz_clr, pz_bit, pz_ff, pz_tt, pz_5, pz_6, pz_7, pz_10000, pz_sb, pz_b0, pz_b1, a1, c1]
    have r1 : k0 ≠ k0 + 4 := by omega
    have r2 : k0 ≠ k0 + 3 := by omega
    have r3 : k0 + 3 ≠ k0 + 4 := by omega
    refine wp_s ⟨_, rfl, ?_, ?_, (a3.snoc rfl).wn r3, (a4.wn (Ne.symm r3)).snoc rfl, (a5.w ⟨by omega, by omega⟩).w ⟨by omega, by omega⟩⟩
    · rw [wi_n _ _ _ r1, wi_n _ _ _ r2]; exact a1
    · rw [wi_n _ _ _ r1, wi_n _ _ _ r2]; exact a2
  · rintro M1 ⟨a1, a2, a3, a4, a5⟩
    show f_X2_take_L20 k0 (nI n) M1 = _
    unfold f_X2_take_L20
    simp (disch := first | assumption | omega) only [↓pz_n1, pz_mm, pz_mm', ↓pz_lt1, ↓pz_bd, ↓pz_bd2, ↓pz_tn, ↓pz_ts, pz_0, pz_1, pz_2, pz_3, pz_4, pz_12, pz_13, pz_15, pz_16, pz_20, pz_23, pz_24, pz_200, ↓pz_rd, ↓pz_wr, pz_add, pz_mul, pz_sub, pz_le, pz_lt, pz_eq, pz_max, pz_min, pz_cl, pz_and, pz_or, pz_shl, pz_clr, pz_bit, pz_ff, pz_tt, pz_5, pz_6, pz_7, pz_10000, pz_sb, pz_b0, pz_b1, a1]
    rw [if_pos (Nat.le_refl _)]
  · rw [wi_1, if_neg (by omega), wi_1, if_pos ⟨rfl, rfl⟩]
  · rw [wi_1, if_pos ⟨rfl, rfl⟩]
/-- the class after a laying: cells 5..33 and the kind are written -/
theorem CI.nw {F : Abs → Nat → Mm → Prop} (hF : FOK F) {M M1 : Mm} {A A' : Abs} (hC : CI F M A) (e : A'.n = A.n ∧ A'.tb = A.tb ∧ A'.w = A.w ∧ A'.h = A.h ∧ A'.nt = A.nt ∧ A'.s = A.s) (hf : Fr (SB 5 33) M M1)
    (gd : A'.kd ≠ -1 → M1.1 5 6 = nI A'.n ∧ M1.1 5 5 = nI A'.td ∧ IA M1 6 A'.n A'.x ∧ IA M1 7 A'.n A'.y ∧ IA M1 8 A'.n (swd A'.w A'.h A'.td) ∧ IA M1 9 A'.n (swd A'.h A'.w A'.td))
    (k1 : A'.kd = 1 → M1.1 11 5 = nI A'.n ∧ IA M1 12 A'.n A'.one ∧ IA M1 13 A'.n A'.two ∧ ∀ i, i < A'.n → M1.1 14 (A'.one i) = nI i)
    (k2 : A'.kd = 2 → M1.1 17 5 = nI (2 * A'.n - 1) ∧ IA M1 18 (2 * A'.n - 1) A'.tk)
    (k3 : A'.kd = 3 → M1.1 23 5 = nI A'.n ∧ M1.1 23 4 = nI A'.ro ∧ IA M1 24 A'.n A'.lf ∧ IA M1 25 A'.n A'.rt) : CI F (wi M1 0 8 A'.kd) A' := by
  obtain ⟨e1, e2, e3, e4, e5, e6⟩ := e
  have q : ∀ k, k < 5 ∨ 33 < k → M1.1 k = M.1 k := fun k hk => hf.1 k (fun h => by unfold SB at h; omega)
  refine ⟨rfl, ?_, ?_, ?_, ?_, ?_, ?_, fun h => ?_, fun h => ?_, fun h => ?_, fun h => ?_, fun k hk => ?_⟩
  · show M1.1 0 9 = _
    rw [q 0 (by omega), e6]; exact hC.s
  · show M1.1 1 3 = _
    rw [q 1 (by omega), e1]; exact hC.n
  · show M1.1 1 2 = _
    rw [q 1 (by omega), e2]; exact hC.tb
  · rw [e1, e3]; exact hC.w.eq (q 2 (by omega))
  · rw [e1, e4]; exact hC.h.eq (q 3 (by omega))
  · rw [e5]; exact hC.nt.eq (q 4 (by omega))
  · exact gd h
  · exact k1 h
  · exact k2 h
  · exact k3 h
  · have hne : 65 + k ≠ 0 := by omega
    rw [wi_n _ _ _ hne, q _ (by omega)]
    rcases hC.fn k hk with h1 | h1
    · exact Or.inl h1
    · exact Or.inr (hF A A' k M _ hk h1 e1 e2 e3 e4 (by rw [wi_n _ _ _ hne, q _ (by omega)]) (hf.2 _ (fun h => by unfold SB at h; omega)))
def SRw (k : Nat) : Prop := k = 69 ∨ (74 ≤ k ∧ k ≤ 104)
theorem srw_sr {k : Nat} (h : SRw k) : SR k := by unfold SRw at h; unfold SR; omega
theorem RI.nw {M M' : Mm} {A A' : Abs} (hR : RI M A) (e : A'.n = A.n ∧ A'.tb = A.tb ∧ A'.w = A.w ∧ A'.h = A.h ∧ A'.nt = A.nt ∧ A'.s = A.s) (hf : Fr SRw M M') (e1 : M'.1 69 1 = nI A.n) (e41 : M'.1 69 41 = nI A.s) (kd : M'.1 69 6 = A'.kd)
    (gd : A'.kd ≠ -1 → M'.1 69 7 = nI A'.td ∧ IA M' 74 A'.n A'.x ∧ IA M' 75 A'.n A'.y) (k1 : A'.kd = 1 → IA M' 76 A'.n A'.one ∧ IA M' 77 A'.n A'.two) (k2 : A'.kd = 2 → IA M' 78 (2 * A'.n - 1) A'.tk)
    (k3 : A'.kd = 3 → M'.1 69 8 = nI A'.ro ∧ ∀ b, b < A'.n → M'.1 79 b = (if A'.lf b = 15 then -1 else nI (A'.lf b)) ∧ M'.1 80 b = (if A'.rt b = 15 then -1 else nI (A'.rt b))) : RI M' A' := by
  obtain ⟨f1, f2, f3, f4, f5, f6⟩ := e
  have q : ∀ k, 70 ≤ k ∧ k ≤ 73 → M'.1 k = M.1 k := fun k hk => hf.1 k (fun h => by unfold SRw at h; omega)
  refine ⟨kd, ?_, ?_, ?_, ?_, ?_, ?_, gd, k1, k2, k3⟩
  · rw [f6]; exact e41
  · rw [f1]; exact e1
  · rw [f1, f3]; exact hR.w.eq (q 70 (by omega))
  · rw [f1, f4]; exact hR.h.eq (q 71 (by omega))
  · rw [f1, f2]; exact hR.tb.eq (q 73 (by omega))
  · rw [f5]; exact hR.nt.eq (q 72 (by omega))
theorem AOK.zero {A : Abs} (hk : A.kd = 0) (n : A.n ≤ 12) (w : ∀ b, b < A.n → 1 ≤ A.w b ∧ A.w b ≤ 200) (h : ∀ b, b < A.n → 1 ≤ A.h b ∧ A.h b ≤ 200) (tb : A.tb < 2 ^ A.n) (nt : ∀ k, k < 20 → A.nt k < 2 ^ A.n) (s : A.s ≤ 60) (ly : 1 ≤ A.n ∧ A.td &&& A.tb = A.td ∧ (∀ b, b < A.n → A.x b ≤ 10000) ∧ ∀ b, b < A.n → A.y b ≤ 10000) : AOK A :=
  ⟨n, w, h, tb, nt, s, Or.inr (Or.inl hk), fun _ => ly, fun q => by rw [hk] at q; exact absurd q (by decide), fun q => by rw [hk] at q; exact absurd q (by decide), fun q => by rw [hk] at q; exact absurd q (by decide)⟩
/-- a laying of places -/
def plS (A : Abs) (td : Nat) (x y : Nat → Nat) : Abs := mkA A.n A.tb td A.s A.ro 0 A.w A.h A.nt x y A.one A.two A.tk A.lf A.rt
def plc (A : Abs) : Abs := if A.kd = -1 then plS A 0 (fun _ => 0) (fun _ => 0) else plS A A.td A.x A.y
theorem AOK.plcs {A : Abs} (hA : AOK A) (h0 : A.n ≠ 0) : AOK (plc A) := by
  unfold plc
  split
  · exact AOK.zero rfl hA.n hA.w hA.h hA.tb hA.nt hA.s ⟨by show 1 ≤ A.n; omega, Nat.zero_and _, fun _ _ => Nat.zero_le _, fun _ _ => Nat.zero_le _⟩
  · rename_i h
    exact AOK.zero rfl hA.n hA.w hA.h hA.tb hA.nt hA.s (hA.ly h)
theorem CI.pl {F : Abs → Nat → Mm → Prop} (hF : FOK F) {M M1 : Mm} {A : Abs} (hC : CI F M A) {td : Nat} {x y : Nat → Nat} (hf : Fr (SB 5 33) M M1) (gd : M1.1 5 6 = nI A.n ∧ M1.1 5 5 = nI td ∧ IA M1 6 A.n x ∧ IA M1 7 A.n y ∧ IA M1 8 A.n (swd A.w A.h td) ∧ IA M1 9 A.n (swd A.h A.w td)) : CI F (wi M1 0 8 (nI 0)) (plS A td x y) :=
  CI.nw hF (A' := plS A td x y) hC ⟨rfl, rfl, rfl, rfl, rfl, rfl⟩ hf (fun _ => gd) (fun h => absurd h (by show ¬ (0 : Int32) = 1; decide)) (fun h => absurd h (by show ¬ (0 : Int32) = 2; decide)) (fun h => absurd h (by show ¬ (0 : Int32) = 3; decide))
theorem RI.pl {M M' : Mm} {A : Abs} (hR : RI M A) {td : Nat} {x y : Nat → Nat} (hf : Fr SRw M M') (e1 : M'.1 69 1 = nI A.n) (e41 : M'.1 69 41 = nI A.s) (kd : M'.1 69 6 = nI 0) (gd : M'.1 69 7 = nI td ∧ IA M' 74 A.n x ∧ IA M' 75 A.n y) : RI M' (plS A td x y) :=
  RI.nw (A' := plS A td x y) hR ⟨rfl, rfl, rfl, rfl, rfl, rfl⟩ hf e1 e41 kd (fun _ => gd) (fun h => absurd h (by show ¬ (0 : Int32) = 1; decide)) (fun h => absurd h (by show ¬ (0 : Int32) = 2; decide)) (fun h => absurd h (by show ¬ (0 : Int32) = 3; decide))
theorem sb_sc {lo hi k : Nat} (h : SB lo hi k) (hh : hi ≤ 68) : SC k := by unfold SB at h; unfold SC; omega
theorem c_places {F : Abs → Nat → Mm → Prop} (hF : FOK F) {M : Mm} {A : Abs} (hA : AOK A) (hC : CI F M A) (h0 : A.n ≠ 0) : Wp (f_X9_places M) (fun r => r.1 = nI 1 ∧ CI F r.2 (plc A) ∧ Fr SC M r.2) := by
  have hn := hA.n
  unfold f_X9_places f_X9_places_J31 plc
  simp (disch := first | assumption | omega) only [↓pz_n1, pz_mm, pz_mm', ↓pz_lt1, ↓pz_bd, ↓pz_bd2, ↓pz_tn, ↓pz_ts, pz_0, pz_1, pz_2, pz_3, pz_4, pz_12, pz_13, pz_15, pz_16, pz_20, pz_23, pz_24, pz_200, ↓pz_rd, ↓pz_wr, pz_add, pz_mul, pz_sub, pz_le, pz_lt, pz_eq, pz_max, pz_min, pz_cl, pz_and, pz_or, pz_shl, pz_clr, pz_bit, pz_ff, pz_tt, pz_5, pz_6, pz_7, pz_10000, pz_sb, pz_b0, pz_b1, hC.n, h0, hC.kd]
  by_cases hk : A.kd = -1
  · rw [if_pos (show A.kd = m1 from hk), if_pos (show A.kd = m1 from hk)]
    unfold f_X2_gather f_X2_gather_A8
    simp (disch := first | assumption | omega) only [↓pz_n1, pz_mm, pz_mm', ↓pz_lt1, ↓pz_bd, ↓pz_bd2, ↓pz_tn, ↓pz_ts, pz_0, pz_1, pz_2, pz_3, pz_4, pz_12, pz_13, pz_15, pz_16, pz_20, pz_23, pz_24, pz_200, ↓pz_rd, ↓pz_wr, pz_add, pz_mul, pz_sub, pz_le, pz_lt, pz_eq, pz_max, pz_min, pz_cl, pz_and, pz_or, pz_shl, pz_clr, pz_bit, pz_ff, pz_tt, pz_5, pz_6, pz_7, pz_10000, pz_sb, pz_b0, pz_b1]
    refine wp_b (P := fun M1 => Fr (SB 5 33) M M1 ∧ M1.1 5 6 = nI A.n ∧ M1.1 5 5 = nI 0 ∧ IA M1 6 A.n (fun _ => 0) ∧ IA M1 7 A.n (fun _ => 0) ∧ IA M1 8 A.n (swd A.w A.h 0) ∧ IA M1 9 A.n (swd A.h A.w 0)) ?_ ?_
    · refine wp_b (take_ok (by omega) hn hC.n hC.tb hA.tb hC.w hC.h (nI 0)) ?_
      rintro M1 ⟨a1, a2, a3, a4, a5⟩
      rw [msk_0] at a2 a3 a4
      refine wp_b (wp_for (step := fun v => f_X2_gather_L8 5 v.1 v.2) (fun i M' => M'.1 5 6 = nI A.n ∧ M'.1 5 5 = nI 0 ∧ IA M' 6 i (fun _ => 0) ∧ IA M' 7 i (fun _ => 0) ∧ IA M' 8 A.n (swd A.w A.h 0) ∧ IA M' 9 A.n (swd A.h A.w 0) ∧ Fr (SB 5 33) M M') A.n (by omega) ?_ ?_ ⟨a1, a2, IA.nil, IA.nil, a3, a4, a5.mono (fun k h => ⟨h.1, Nat.le_trans h.2 (by omega)⟩)⟩) (fun M' h => wp_s ⟨h.2.2.2.2.2.2, h.1, h.2.1, h.2.2.1, h.2.2.2.1, h.2.2.2.2.1, h.2.2.2.2.2.1⟩)
      · rintro i M2 hi ⟨b1, b2, b3, b4, b5, b6, b7⟩
        show Wp (f_X2_gather_L8 5 (nI i) M2) _
        unfold f_X2_gather_L8
        have c1 : ¬ A.n ≤ i := by omega
        simp (disch := first | assumption | omega) only [↓pz_n1, pz_mm, pz_mm', ↓pz_lt1, ↓pz_bd, ↓pz_bd2, ↓pz_tn, ↓pz_ts, pz_0, pz_1, pz_2, pz_3, pz_4, pz_12, pz_13, pz_15, pz_16, pz_20, pz_23, pz_24, pz_200, ↓pz_rd, ↓pz_wr, pz_add, pz_mul, pz_sub, pz_le, pz_lt, pz_eq, pz_max, pz_min, pz_cl, pz_and, pz_or, pz_shl, pz_clr, pz_bit, pz_ff, pz_tt, pz_5, pz_6, pz_7, pz_10000, pz_sb, pz_b0, pz_b1, b1, c1]
        exact wp_s ⟨_, rfl, b1, b2, ((b3.snoc rfl).eq rfl), (IA.eq (M := wi M2 7 i (nI 0)) (b4.snoc rfl) rfl), b5.eq rfl, b6.eq rfl, (b7.w ⟨by omega, by omega⟩).w ⟨by omega, by omega⟩⟩
      · rintro M2 ⟨b1, b2, b3, b4, b5, b6, b7⟩
        show f_X2_gather_L8 5 (nI A.n) M2 = _
        unfold f_X2_gather_L8
        simp (disch := first | assumption | omega) only [↓pz_n1, pz_mm, pz_mm', ↓pz_lt1, ↓pz_bd, ↓pz_bd2, ↓pz_tn, ↓pz_ts, pz_0, pz_1, pz_2, pz_3, pz_4, pz_12, pz_13, pz_15, pz_16, pz_20, pz_23, pz_24, pz_200, ↓pz_rd, ↓pz_wr, pz_add, pz_mul, pz_sub, pz_le, pz_lt, pz_eq, pz_max, pz_min, pz_cl, pz_and, pz_or, pz_shl, pz_clr, pz_bit, pz_ff, pz_tt, pz_5, pz_6, pz_7, pz_10000, pz_sb, pz_b0, pz_b1, b1]
        rw [if_pos (Nat.le_refl _)]
    · rintro M1 ⟨b7, b⟩
      exact wp_s ⟨rfl, hC.pl hF b7 b, (b7.mono (fun k h => sb_sc h (by omega))).w (show SC 0 by unfold SC; omega)⟩
  · have hk' : ¬ A.kd = m1 := hk
    rw [if_neg hk', if_neg hk']
    exact wp_s ⟨rfl, hC.pl hF Fr.rf (hC.gd hk), Fr.rf.w (show SC 0 by unfold SC; omega)⟩
theorem r_places {M : Mm} {A : Abs} (hA : AOK A) (hR : RI M A) (h0 : A.n ≠ 0) : Wp (f_X10_places M) (fun r => r.1 = nI 1 ∧ RI r.2 (plc A) ∧ Fr SR M r.2) := by
  have hn := hA.n
  unfold f_X10_places f_X10_places_A16 f_X10_places_J65 plc
  have e1 : (wi M 69 0 (nI 0)).1 69 1 = nI A.n := hR.n
  simp (disch := first | assumption | omega) only [↓pz_n1, pz_mm, pz_mm', ↓pz_lt1, ↓pz_bd, ↓pz_bd2, ↓pz_tn, ↓pz_ts, pz_0, pz_1, pz_2, pz_3, pz_4, pz_12, pz_13, pz_15, pz_16, pz_20, pz_23, pz_24, pz_200, ↓pz_rd, ↓pz_wr, pz_add, pz_mul, pz_sub, pz_le, pz_lt, pz_eq, pz_max, pz_min, pz_cl, pz_and, pz_or, pz_shl, pz_clr, pz_bit, pz_ff, pz_tt, pz_5, pz_6, pz_7, pz_10000, pz_sb, pz_b0, pz_b1, e1, h0]
  by_cases hk : A.kd = -1
  · rw [if_pos (show A.kd = m1 from hk)]
    refine wp_b (wp_for (step := fun v => f_X10_places_L16 v.1 v.2) (fun i M' => M'.1 69 = (wi M 69 0 (nI 0)).1 69 ∧ IA M' 74 i (fun _ => 0) ∧ IA M' 75 i (fun _ => 0) ∧ Fr SRw M M') A.n (by omega) ?_ ?_ ⟨rfl, IA.nil, IA.nil, Fr.rf.w (Or.inl rfl)⟩) ?_
    · rintro i M2 hi ⟨b1, b2, b3, b4⟩
      show Wp (f_X10_places_L16 (nI i) M2) _
      unfold f_X10_places_L16
      have c1 : ¬ A.n ≤ i := by omega
      have c2 : M2.1 69 1 = nI A.n := by rw [b1]; exact hR.n
      have c3 : M2.1 69 6 = m1 := by rw [b1]; exact hR.kd.trans hk
      simp (disch := first | assumption | omega) only [↓pz_n1, pz_mm, pz_mm', ↓pz_lt1, ↓pz_bd, ↓pz_bd2, ↓pz_tn, ↓pz_ts, pz_0, pz_1, pz_2, pz_3, pz_4, pz_12, pz_13, pz_15, pz_16, pz_20, pz_23, pz_24, pz_200, ↓pz_rd, ↓pz_wr, pz_add, pz_mul, pz_sub, pz_le, pz_lt, pz_eq, pz_max, pz_min, pz_cl, pz_and, pz_or, pz_shl, pz_clr, pz_bit, pz_ff, pz_tt, pz_5, pz_6, pz_7, pz_10000, pz_sb, pz_b0, pz_b1, c2, c1, c3]
      exact wp_s ⟨_, rfl, b1, ((b2.snoc rfl).eq rfl), (IA.eq (M := wi M2 75 i (nI 0)) (b3.snoc rfl) rfl), (b4.w (Or.inr ⟨by omega, by omega⟩)).w (Or.inr ⟨by omega, by omega⟩)⟩
    · rintro M2 ⟨b1, b2, b3, b4⟩
      show f_X10_places_L16 (nI A.n) M2 = _
      unfold f_X10_places_L16
      have c2 : M2.1 69 1 = nI A.n := by rw [b1]; exact hR.n
      simp (disch := first | assumption | omega) only [↓pz_n1, pz_mm, pz_mm', ↓pz_lt1, ↓pz_bd, ↓pz_bd2, ↓pz_tn, ↓pz_ts, pz_0, pz_1, pz_2, pz_3, pz_4, pz_12, pz_13, pz_15, pz_16, pz_20, pz_23, pz_24, pz_200, ↓pz_rd, ↓pz_wr, pz_add, pz_mul, pz_sub, pz_le, pz_lt, pz_eq, pz_max, pz_min, pz_cl, pz_and, pz_or, pz_shl, pz_clr, pz_bit, pz_ff, pz_tt, pz_5, pz_6, pz_7, pz_10000, pz_sb, pz_b0, pz_b1, c2]
      rw [if_pos (Nat.le_refl _)]
    · rintro M2 ⟨b1, b2, b3, b4⟩
      have c3 : M2.1 69 6 = m1 := by rw [b1]; exact hR.kd.trans hk
      simp (disch := first | assumption | omega) only [↓pz_n1, pz_mm, pz_mm', ↓pz_lt1, ↓pz_bd, ↓pz_bd2, ↓pz_tn, ↓pz_ts, pz_0, pz_1, pz_2, pz_3, pz_4, pz_12, pz_13, pz_15, pz_16, pz_20, pz_23, pz_24, pz_200, ↓pz_rd, ↓pz_wr, pz_add, pz_mul, pz_sub, pz_le, pz_lt, pz_eq, pz_max, pz_min, pz_cl, pz_and, pz_or, pz_shl, pz_clr, pz_bit, pz_ff, pz_tt, pz_5, pz_6, pz_7, pz_10000, pz_sb, pz_b0, pz_b1, c3]
      refine wp_s ⟨rfl, hR.pl ((b4.w (Or.inl rfl)).w (Or.inl rfl)) ?_ ?_ rfl ⟨rfl, b2.eq rfl, b3.eq rfl⟩, ((b4.mono (fun k h => srw_sr h)).w ⟨by decide, by decide⟩).w ⟨by decide, by decide⟩⟩
      · show M2.1 69 1 = _
        rw [b1]; exact hR.n
      · show M2.1 69 41 = _
        rw [b1]; exact hR.s
  · have hk' : ¬ A.kd = m1 := hk
    rw [if_neg hk']
    have e2 : (wi M 69 0 (nI 0)).1 69 6 = A.kd := hR.kd
    have e3 : loop (fun v => f_X10_places_L16 v.1 v.2) FU (nI 0, wi M 69 0 (nI 0)) = some (wi M 69 0 (nI 0)) := by
      refine lp_n (step := fun v => f_X10_places_L16 v.1 v.2) (fun _ => (nI 0, wi M 69 0 (nI 0))) 0 (fu_lt (by omega)) (fun i hi => by omega) ?_
      show f_X10_places_L16 (nI 0) (wi M 69 0 (nI 0)) = _
      unfold f_X10_places_L16
      have h0' : ¬ A.n ≤ 0 := by omega
      simp (disch := first | assumption | omega) only [↓pz_n1, pz_mm, pz_mm', ↓pz_lt1, ↓pz_bd, ↓pz_bd2, ↓pz_tn, ↓pz_ts, pz_0, pz_1, pz_2, pz_3, pz_4, pz_12, pz_13, pz_15, pz_16, pz_20, pz_23, pz_24, pz_200, ↓pz_rd, ↓pz_wr, pz_add, pz_mul, pz_sub, pz_le, pz_lt, pz_eq, pz_max, pz_min, pz_cl, pz_and, pz_or, pz_shl, pz_clr, pz_bit, pz_ff, pz_tt, pz_5, pz_6, pz_7, pz_10000, pz_sb, pz_b0, pz_b1, e1, e2, h0']
      rw [if_neg hk']
    rw [e3]
    simp (disch := first | assumption | omega) only [↓pz_n1, pz_mm, pz_mm', ↓pz_lt1, ↓pz_bd, ↓pz_bd2, ↓pz_tn, ↓pz_ts, pz_0, pz_1, pz_2, pz_3, pz_4, pz_12, pz_13, pz_15, pz_16, pz_20, pz_23, pz_24, pz_200, ↓pz_rd, ↓pz_wr, pz_add, pz_mul, pz_sub, pz_le, pz_lt, pz_eq, pz_max, pz_min, pz_cl, pz_and, pz_or, pz_shl, pz_clr, pz_bit, pz_ff, pz_tt, pz_5, pz_6, pz_7, pz_10000, pz_sb, pz_b0, pz_b1, e2]
    rw [if_neg hk']
    exact wp_s ⟨rfl, hR.pl ((Fr.rf.w (Or.inl rfl)).w (Or.inl rfl)) hR.n hR.s rfl ⟨(hR.gd hk).1, (hR.gd hk).2.1.eq rfl, (hR.gd hk).2.2.eq rfl⟩, fr69.w ⟨by decide, by decide⟩⟩
theorem arm_4 {F : Abs → Nat → Mm → Prop} (hF : FOK F) {xs : Nat → Int32} {L n : Nat} {M : Mm} (hI : Inv F M) : Nx F n (f_arm_4 xs L (nI n) M) := by
  obtain ⟨A, hA, hC, hR⟩ := hI
  have hn12 := hA.n
  unfold f_arm_4
  by_cases h0 : A.n = 0
  · refine arm_n hF (v := nI 0) hA hR ?_ (fun M1 h => ?_)
    · unfold f_X9_places
      simp (disch := first | assumption | omega) only [↓pz_n1, pz_mm, pz_mm', ↓pz_lt1, ↓pz_bd, ↓pz_bd2, ↓pz_tn, ↓pz_ts, pz_0, pz_1, pz_2, pz_3, pz_4, pz_12, pz_13, pz_15, pz_16, pz_20, pz_23, pz_24, pz_200, ↓pz_rd, ↓pz_wr, pz_add, pz_mul, pz_sub, pz_le, pz_lt, pz_eq, pz_max, pz_min, pz_cl, pz_and, pz_or, pz_shl, pz_clr, pz_bit, pz_ff, pz_tt, pz_5, pz_6, pz_7, pz_10000, pz_sb, pz_b0, pz_b1, hC.n, h0]
      exact wp_s ⟨rfl, hC, Fr.rf⟩
    · unfold f_X10_places
      have e1 : (wi M1 69 0 (nI 0)).1 69 1 = nI A.n := h.n
      simp (disch := first | assumption | omega) only [↓pz_n1, pz_mm, pz_mm', ↓pz_lt1, ↓pz_bd, ↓pz_bd2, ↓pz_tn, ↓pz_ts, pz_0, pz_1, pz_2, pz_3, pz_4, pz_12, pz_13, pz_15, pz_16, pz_20, pz_23, pz_24, pz_200, ↓pz_rd, ↓pz_wr, pz_add, pz_mul, pz_sub, pz_le, pz_lt, pz_eq, pz_max, pz_min, pz_cl, pz_and, pz_or, pz_shl, pz_clr, pz_bit, pz_ff, pz_tt, pz_5, pz_6, pz_7, pz_10000, pz_sb, pz_b0, pz_b1, e1, h0]
      exact wp_s ⟨rfl, h.code _, fr69⟩
  · exact arm_n hF (v := nI 1) (hA.plcs h0) hR (c_places hF hA hC h0) (fun M1 h => r_places hA h h0)
