/-! pair, swap -/
theorem crd_ok {M : Mm} {k0 n : Nat} (hn : n ≤ 12) (a b : Int64) (p1 : PermN n (nib a)) : Wp (f_X4_read k0 a b (nI n) M) (fun M' => M'.1 k0 5 = nI n ∧ IA M' (k0 + 1) n (nib a) ∧ IA M' (k0 + 2) n (nib b) ∧ IA M' (k0 + 3) n (fun c => ps (nib a) c n) ∧ Fr (SB k0 (k0 + 3)) M M') := by
  unfold f_X4_read f_X4_read_A9
  simp (disch := first | assumption | omega) only [↓pz_n1, pz_mm, pz_mm', ↓pz_lt1, ↓pz_bd, ↓pz_bd2, ↓pz_tn, ↓pz_ts, pz_0, pz_1, pz_2, pz_3, pz_4, pz_12, pz_13, pz_15, pz_16, pz_20, pz_23, pz_24, pz_200, ↓pz_rd, ↓pz_wr, pz_add, pz_mul, pz_sub, pz_le, pz_lt, pz_eq, pz_max, pz_min, pz_cl, pz_and, pz_or, pz_shl, pz_clr, pz_bit, pz_ff, pz_tt, pz_5, pz_6, pz_7, pz_10000, pz_sb, pz_b0, pz_b1]
  refine wp_b (wp_for (step := fun v => f_X4_read_L9 k0 a b v.1 v.2) (fun i M' => M'.1 k0 5 = nI n ∧ IA M' (k0 + 1) i (nib a) ∧ IA M' (k0 + 2) i (nib b) ∧ Fr (SB k0 (k0 + 3)) M M') n (by omega) ?_ ?_ ⟨?_, IA.nil, IA.nil, Fr.rf.w ⟨by omega, by omega⟩⟩) ?_
  · rintro i M1 hi ⟨a1, a2, a3, a4⟩
    show Wp (f_X4_read_L9 k0 a b (nI i) M1) _
    unfold f_X4_read_L9
    have h1 : ¬ n ≤ i := by omega
    rw [nib_e, nib_e]
    simp (disch := first | assumption | omega) only [↓pz_n1, pz_mm, pz_mm', ↓pz_lt1, ↓pz_bd, ↓pz_bd2, ↓pz_tn, ↓pz_ts, pz_0, pz_1, pz_2, pz_3, pz_4, pz_12, pz_13, pz_15, pz_16, pz_20, pz_23, pz_24, pz_200, ↓pz_rd, ↓pz_wr, pz_add, pz_mul, pz_sub, pz_le, pz_lt, pz_eq, pz_max, pz_min, pz_cl, pz_and, pz_or, pz_shl, pz_clr, pz_bit, pz_ff, pz_tt, pz_5, pz_6, pz_7, pz_10000, pz_sb, pz_b0, pz_b1, a1, h1]
    have r1 : k0 ≠ k0 + 2 := by omega
    have r2 : k0 ≠ k0 + 1 := by omega
    have r3 : k0 + 1 ≠ k0 + 2 := by omega
    refine wp_s ⟨_, rfl, ?_, (a2.snoc rfl).wn r3, (a3.wn (Ne.symm r3)).snoc rfl, (a4.w ⟨by omega, by omega⟩).w ⟨by omega, by omega⟩⟩
    rw [wi_n _ _ _ r1, wi_n _ _ _ r2]; exact a1
  · rintro M1 ⟨a1, a2, a3, a4⟩
    show f_X4_read_L9 k0 a b (nI n) M1 = _
    unfold f_X4_read_L9
    rw [a1, if_pos ((nI_leI (by omega) (by omega)).mpr (Nat.le_refl _))]
  · rw [wi_at, if_pos rfl]
  · rintro M1 ⟨a1, a2, a3, a4⟩
    refine wp_b (np_ok hn a1 a2 p1) ?_
    rintro M2 ⟨b1, b2⟩
    have q : ∀ k, k < k0 + 3 → M2.1 k = M1.1 k := fun k hk => b2.1 k (fun h => by unfold SB at h; omega)
    refine wp_s ⟨?_, a2.eq (q _ (by omega)), a3.eq (q _ (by omega)), b1, a4.tr (b2.mono (fun k h => ⟨Nat.le_trans (by omega) h.1, h.2⟩))⟩
    rw [q _ (by omega)]; exact a1
theorem c_pair {F : Abs → Nat → Mm → Prop} (hF : FOK F) {M : Mm} {A : Abs} (hA : AOK A) (hC : CI F M A) (a b : Int64) (x : Int32) :
    (A.n = 0 ∨ ¬ PermN A.n (nib a) ∨ ¬ PermN A.n (nib b) → f_X9_pair a b x M = some (nI 0, M)) ∧
    (A.n ≠ 0 → PermN A.n (nib a) → PermN A.n (nib b) → Wp (f_X9_pair a b x M) (fun r => r.1 = nI 1 ∧ CI F r.2 (prS A (msk x A.tb) (nib a) (nib b)) ∧ Fr SC M r.2)) := by
  have hn := hA.n
  unfold f_X9_pair
  rw [pz_lt1, hC.n, pz_0]
  simp (disch := omega) only [pz_eq]
  constructor
  · intro h
    by_cases h0 : A.n = 0
    · rw [if_pos h0]
    · rw [if_neg h0]
      by_cases ha : PermN A.n (nib a)
      · have hb : ¬ PermN A.n (nib b) := by
          rcases h with h | h | h
          · exact absurd h h0
          · exact absurd ha h
          · exact h
        rw [(isord hn a).1 ha, (isord hn b).2 hb]
        rfl
      · rw [(isord hn a).2 ha]
        simp (disch := first | assumption | omega) only [↓pz_n1, pz_mm, pz_mm', ↓pz_lt1, ↓pz_bd, ↓pz_bd2, ↓pz_tn, ↓pz_ts, pz_0, pz_1, pz_2, pz_3, pz_4, pz_12, pz_13, pz_15, pz_16, pz_20, pz_23, pz_24, pz_200, ↓pz_rd, ↓pz_wr, pz_add, pz_mul, pz_sub, pz_le, pz_lt, pz_eq, pz_max, pz_min, pz_cl, pz_and, pz_or, pz_shl, pz_clr, pz_bit, pz_ff, pz_tt, pz_5, pz_6, pz_7, pz_10000, pz_sb, pz_b0, pz_b1]
  · intro h0 ha hb
    rw [if_neg h0, (isord hn a).1 ha, (isord hn b).1 hb]
    simp (disch := first | assumption | omega) only [↓pz_n1, pz_mm, pz_mm', ↓pz_lt1, ↓pz_bd, ↓pz_bd2, ↓pz_tn, ↓pz_ts, pz_0, pz_1, pz_2, pz_3, pz_4, pz_12, pz_13, pz_15, pz_16, pz_20, pz_23, pz_24, pz_200, ↓pz_rd, ↓pz_wr, pz_add, pz_mul, pz_sub, pz_le, pz_lt, pz_eq, pz_max, pz_min, pz_cl, pz_and, pz_or, pz_shl, pz_clr, pz_bit, pz_ff, pz_tt, pz_5, pz_6, pz_7, pz_10000, pz_sb, pz_b0, pz_b1]
    refine wp_b (crd_ok hn a b ha) ?_
    rintro M1 ⟨a1, a2, a3, a4, a5⟩
    refine wp_b (c_layp hF hA hC (a5.mono (fun k h => ⟨Nat.le_trans (by omega) h.1, Nat.le_trans h.2 (by omega)⟩)) ha hb a1 a2 a3 a4 x) ?_
    rintro M2 ⟨b1, b2⟩
    exact wp_s ⟨rfl, b1, b2⟩
theorem r_pair {M : Mm} {A : Abs} (hA : AOK A) (hR : RI M A) (a b : Int64) (x : Int32) :
    (A.n = 0 ∨ ¬ PermN A.n (nib a) ∨ ¬ PermN A.n (nib b) → Wp (f_X10_pair a b x M) (fun r => r.1 = nI 0 ∧ RI r.2 A ∧ Fr SR M r.2)) ∧
    (A.n ≠ 0 → PermN A.n (nib a) → PermN A.n (nib b) → Wp (f_X10_pair a b x M) (fun r => r.1 = nI 1 ∧ RI r.2 (prS A (msk x A.tb) (nib a) (nib b)) ∧ Fr SR M r.2)) := by
  have hn := hA.n
  unfold f_X10_pair
  rw [pz_lt1, pz_0]
  generalize hM1 : wi M 69 0 (nI 0) = M1
  have s1 : Scr M M1 := by subst hM1; exact Scr.rf.w (by omega)
  have r1 : M1.1 69 1 = nI A.n := s1.2.1.1.trans hR.n
  rw [r1]
  simp (disch := omega) only [pz_eq]
  obtain ⟨⟨v1, M2⟩, e2, h2, f2⟩ := ro_ok (k2 := 81) hn (by omega) r1 a
  have s2 : Scr M M2 := s1.tr ⟨fun k h1 h2 => f2.1 k (fun h => by unfold SB at h; omega), by rw [show M2.1 69 = M1.1 69 from f2.1 69 (fun h => by unfold SB at h; omega)]; exact ⟨rfl, rfl, rfl, rfl, rfl⟩, fun k hk => f2.2 k (fun h => by unfold SB at h; omega)⟩
  have r2 : M2.1 69 1 = nI A.n := s2.2.1.1.trans hR.n
  obtain ⟨⟨v2, M3⟩, e3, h3, f3⟩ := ro_ok (k2 := 82) hn (by omega) r2 b
  have s3 : Scr M M3 := s2.tr ⟨fun k h1 h2 => f3.1 k (fun h => by unfold SB at h; omega), by rw [show M3.1 69 = M2.1 69 from f3.1 69 (fun h => by unfold SB at h; omega)]; exact ⟨rfl, rfl, rfl, rfl, rfl⟩, fun k hk => f3.2 k (fun h => by unfold SB at h; omega)⟩
  rw [e2]
  simp only [pz_bd2, e3]
  constructor
  · intro h
    by_cases h0 : A.n = 0
    · rw [if_pos h0]
      exact wp_s ⟨rfl, hR.scr s1, s1.fr⟩
    · rw [if_neg h0]
      rcases h2 with ⟨ha, h2, _⟩ | ⟨_, h2⟩
      · have h2 : v1 = nI 1 := h2
        rw [h2, if_neg (by decide)]
        rcases h3 with ⟨hb, h3, _⟩ | ⟨_, h3⟩
        · rcases h with h | h | h
          · exact absurd h h0
          · exact absurd ha h
          · exact absurd hb h
        · have h3 : v2 = nI 0 := h3
          rw [h3, if_pos rfl]
          exact wp_s ⟨rfl, hR.scr s3, s3.fr⟩
      · have h2 : v1 = nI 0 := h2
        rw [h2, if_pos rfl]
        exact wp_s ⟨rfl, hR.scr s2, s2.fr⟩
  · intro h0 ha hb
    rcases h2 with ⟨_, h2, i1⟩ | ⟨h2, _⟩
    · rcases h3 with ⟨_, h3, i2⟩ | ⟨h3, _⟩
      · have h2 : v1 = nI 1 := h2
        have h3 : v2 = nI 1 := h3
        have i2 : IA M3 82 A.n (nib b) := i2
        have i1 : IA M3 81 A.n (nib a) := IA.eq (M := M2) i1 (f3.1 81 (fun h => by unfold SB at h; omega))
        rw [if_neg h0, h2, if_neg (by decide), h3, if_neg (by decide)]
        have r3 : M3.1 69 1 = nI A.n := s3.2.1.1.trans hR.n
        refine wp_b (wp_for (step := fun v => f_X10_pair_L41 v.1 v.2) (fun i M' => M'.1 69 = M3.1 69 ∧ IA M' 76 i (nib a) ∧ IA M' 77 i (nib b) ∧ M'.1 81 = M3.1 81 ∧ M'.1 82 = M3.1 82 ∧ M'.1 73 = M3.1 73 ∧ Fr SRw M M') A.n (by omega) ?_ ?_ ⟨rfl, IA.nil, IA.nil, rfl, rfl, rfl, ?_⟩) ?_
        · rintro i M4 hi ⟨b1, b2, b3, b4, b5, b7, b6⟩
          show Wp (f_X10_pair_L41 (nI i) M4) _
          unfold f_X10_pair_L41
          have c1 : M4.1 69 1 = nI A.n := by rw [b1]; exact r3
          have c2 : M4.1 81 i = nI (nib a i) := by rw [b4]; exact i1 i hi
          have c3 : ∀ v, (wi M4 76 i v).1 82 i = nI (nib b i) := fun v => by
            show M4.1 82 i = _
            rw [b5]; exact i2 i hi
          have h1 : ¬ A.n ≤ i := by omega
          simp (disch := first | assumption | omega) only [↓pz_n1, pz_mm, pz_mm', ↓pz_lt1, ↓pz_bd, ↓pz_bd2, ↓pz_tn, ↓pz_ts, pz_0, pz_1, pz_2, pz_3, pz_4, pz_12, pz_13, pz_15, pz_16, pz_20, pz_23, pz_24, pz_200, ↓pz_rd, ↓pz_wr, pz_add, pz_mul, pz_sub, pz_le, pz_lt, pz_eq, pz_max, pz_min, pz_cl, pz_and, pz_or, pz_shl, pz_clr, pz_bit, pz_ff, pz_tt, pz_5, pz_6, pz_7, pz_10000, pz_sb, pz_b0, pz_b1, c1, h1, c2, c3]
          exact wp_s ⟨_, rfl, b1, (b2.snoc rfl).eq rfl, IA.eq (M := wi M4 77 i (nI (nib b i))) (b3.snoc rfl) rfl, b4, b5, b7, (b6.w (Or.inr ⟨by omega, by omega⟩)).w (Or.inr ⟨by omega, by omega⟩)⟩
        · rintro M4 ⟨b1, b2, b3, b4, b5, b6⟩
          show f_X10_pair_L41 (nI A.n) M4 = _
          unfold f_X10_pair_L41
          have c1 : M4.1 69 1 = nI A.n := by rw [b1]; exact r3
          rw [c1, if_pos ((nI_leI (by omega) (by omega)).mpr (Nat.le_refl _))]
        · exact s3.fw
        · rintro M4 ⟨b1, b2, b3, b4, b5, b7, b6⟩
          unfold f_X10_pair_A41
          have c1 : M4.1 69 1 = nI A.n := by rw [b1]; exact r3
          have c73 : IA M4 73 A.n (fun b => (A.tb.testBit b).toNat) := hR.tb.eq (b6.1 73 (fun h => by unfold SRw at h; omega))
          rw [tbl_ok hn hA.tb c1 c73, pz_bd, pz_msk, pz_lt1]
          refine wp_b (r_layp hA hR (M := wi M4 69 7 (nI (msk x A.tb))) (b6.w (Or.inl rfl)) ha hb c1 ?_ rfl (msk_sub _ _) (b2.eq rfl) (b3.eq rfl)) ?_
          · show M4.1 69 41 = _
            rw [b1]; exact s3.2.1.2.2.2.2.trans hR.s
          · rintro M5 ⟨d1, d2, _⟩
            exact wp_s ⟨pz_1, d1, d2⟩
      · exact absurd hb h3
    · exact absurd ha h2
theorem both_pair {F : Abs → Nat → Mm → Prop} (hF : FOK F) {n : Nat} {M : Mm} {A : Abs} (hA : AOK A) (hC : CI F M A) (hR : RI M A) (a b : Int64) (x : Int32) : Nx F n (bd2 (f_X9_pair a b x M) fun r M1 => bd2 (f_X10_pair a b x M1) fun r2 M2 => if r = r2 then f_law_J1690 (nI n) M2 else none) := by
  by_cases h : A.n = 0 ∨ ¬ PermN A.n (nib a) ∨ ¬ PermN A.n (nib b)
  · exact arm_n hF (v := nI 0) hA hR (wp_e ((c_pair hF hA hC a b x).1 h) ⟨rfl, hC, Fr.rf⟩) (fun M1 h1 => (r_pair hA h1 a b x).1 h)
  · have h0 : A.n ≠ 0 := fun q => h (Or.inl q)
    have ha : PermN A.n (nib a) := Classical.byContradiction fun q => h (Or.inr (Or.inl q))
    have hb : PermN A.n (nib b) := Classical.byContradiction fun q => h (Or.inr (Or.inr q))
    exact arm_n hF (v := nI 1) (hA.prs (by omega) (msk_sub _ _) ha hb) hR ((c_pair hF hA hC a b x).2 h0 ha hb) (fun M1 h1 => (r_pair hA h1 a b x).2 h0 ha hb)
theorem arm_6 {F : Abs → Nat → Mm → Prop} (hF : FOK F) {xs : Nat → Int32} {L n : Nat} {M : Mm} (hL : L ≤ 3584) (hn : n + 7 ≤ L) (hI : Inv F M) : Nx F n (f_arm_6 xs L (nI n) M) := by
  obtain ⟨A, hA, hC, hR⟩ := hI
  unfold f_arm_6
  simp (disch := omega) only [pz_rdX, pz_1, pz_2, pz_3, pz_4, pz_5, pz_add]
  exact both_pair hF hA hC hR _ _ _
/-! swap -/
def exS (f : Nat → Nat) (i j : Nat) : Nat → Nat := fset (fset f i (f j)) j (f i)
theorem exS_at (f : Nat → Nat) (i j k : Nat) : exS f i j k = f (if k = j then i else if k = i then j else k) := by
  unfold exS fset
  by_cases h1 : k = j
  · rw [if_pos h1, if_pos h1]
  · rw [if_neg h1, if_neg h1]
    by_cases h2 : k = i
    · rw [if_pos h2, if_pos h2]
    · rw [if_neg h2, if_neg h2]
theorem PermN.ex {n : Nat} {f : Nat → Nat} (h : PermN n f) {i j : Nat} (hi : i < n) (hj : j < n) : PermN n (exS f i j) := by
  refine ⟨fun k hk => ?_, fun k l hk hl e => ?_⟩
  · rw [exS_at]
    exact h.1 _ (by split <;> first | omega | (split <;> omega))
  · rw [exS_at, exS_at] at e
    have := h.2 _ _ (by split <;> first | omega | (split <;> omega)) (by split <;> first | omega | (split <;> omega)) e
    by_cases k1 : k = j
    · by_cases l1 : l = j
      · omega
      · rw [if_pos k1, if_neg l1] at this
        by_cases l2 : l = i
        · rw [if_pos l2] at this; omega
        · rw [if_neg l2] at this; omega
    · rw [if_neg k1] at this
      by_cases k2 : k = i
      · rw [if_pos k2] at this
        by_cases l1 : l = j
        · rw [if_pos l1] at this; omega
        · rw [if_neg l1] at this
          by_cases l2 : l = i
          · omega
          · rw [if_neg l2] at this; omega
      · rw [if_neg k2] at this
        by_cases l1 : l = j
        · rw [if_pos l1] at this; omega
        · rw [if_neg l1] at this
          by_cases l2 : l = i
          · rw [if_pos l2] at this; omega
          · rw [if_neg l2] at this; omega
theorem xc_ok {M : Mm} {k n i j : Nat} {f : Nat → Nat} (hn : n ≤ 12) (e : IA M k n f) (hi : i < n) (hj : j < n) : ∃ M', f_X9_exchange k (nI i) (nI j) M = some M' ∧ IA M' k n (exS f i j) ∧ Fr (SB k k) M M' := by
  unfold f_X9_exchange
  simp (disch := first | assumption | omega) only [↓pz_n1, pz_mm, pz_mm', ↓pz_lt1, ↓pz_bd, ↓pz_bd2, ↓pz_tn, ↓pz_ts, pz_0, pz_1, pz_2, pz_3, pz_4, pz_12, pz_13, pz_15, pz_16, pz_20, pz_23, pz_24, pz_200, ↓pz_rd, ↓pz_wr, pz_add, pz_mul, pz_sub, pz_le, pz_lt, pz_eq, pz_max, pz_min, pz_cl, pz_and, pz_or, pz_shl, pz_clr, pz_bit, pz_ff, pz_tt, pz_5, pz_6, pz_7, pz_10000, pz_sb, pz_b0, pz_b1, e i hi, e j hj]
  refine ⟨_, rfl, ?_, (Fr.rf.w ⟨by omega, by omega⟩).w ⟨by omega, by omega⟩⟩
  exact IA.set (IA.set e)
theorem msk_nI {td tb : Nat} (h : td &&& tb = td) (ht : td < 4096) : msk (nI td) tb = td := by
  unfold msk
  have : (nI td).toBitVec.toNat = td := by
    show (BitVec.ofNat 32 td).toNat = td
    rw [BitVec.toNat_ofNat]; omega
  rw [this]; exact h
theorem c_swap {F : Abs → Nat → Mm → Prop} (hF : FOK F) {M : Mm} {A : Abs} (hA : AOK A) (hC : CI F M A) (hk : A.kd = nI 1) {i j t : Nat} (hi : i < A.n) (hj : j < A.n) (ht : t < 2) :
    Wp (f_X9_swap_J43 (nI t) (nI i) (nI j) M ()) (fun r => r.1 = nI 1 ∧ CI F r.2 (prS A A.td (if t = 0 then exS A.one i j else A.one) (if t = 0 then A.two else exS A.two i j)) ∧ Fr SC M r.2) := by
  have hn := hA.n
  have hkn : A.kd ≠ -1 := by rw [hk]; decide
  obtain ⟨p1, p2⟩ := hA.k1 hk
  obtain ⟨o5, o1, o2, o3⟩ := hC.k1 hk
  obtain ⟨l1, l2, _, _⟩ := hA.ly hkn
  have htd := p12 (sub_lt l2 hA.tb) hn
  have g5 := (hC.gd hkn).2.1
  have fin : ∀ M1 (one two : Nat → Nat), Fr (SB 5 33) M M1 → M1.1 5 5 = nI A.td → M1.1 11 5 = nI A.n → IA M1 12 A.n one → IA M1 13 A.n two → PermN A.n one → PermN A.n two → Wp ((f_X4_notePlaces 11 M1).bind fun M_9 => some M_9) (fun M2 => Wp ((f_X9_layOut 11 (nI 1) (M2.1 5 5) M2).bind fun M_7 => some (nI 1, M_7)) (fun r => r.1 = nI 1 ∧ CI F r.2 (prS A A.td one two) ∧ Fr SC M r.2)) := by
    intro M1 one two f1 z5 z11 z12 z13 q1 q2
    refine wp_b (np_ok hn z11 z12 q1) ?_
    rintro M2 ⟨b1, b2⟩
    have q : ∀ k, k < 14 → M2.1 k = M1.1 k := fun k hk => b2.1 k (fun h => by unfold SB at h; omega)
    refine wp_s ?_
    have h := c_layp hF hA hC (M := M2) (one := one) (two := two) (f1.tr (b2.mono (fun k h => ⟨Nat.le_trans (by omega) h.1, Nat.le_trans h.2 (by omega)⟩))) q1 q2 (by rw [q 11 (by omega)]; exact z11) (z12.eq (q 12 (by omega))) (z13.eq (q 13 (by omega))) b1 (M2.1 5 5)
    have e5 : M2.1 5 5 = nI A.td := by rw [q 5 (by omega)]; exact z5
    rw [e5] at h ⊢
    rw [msk_nI l2 htd] at h
    exact wp_b h (fun M3 h3 => wp_s ⟨rfl, h3.1, h3.2⟩)
  have comb : ∀ (X : Option Mm) (P : Mm → Prop) (Y : Mm → Option (Int32 × Mm)), Wp X (fun M2 => Wp (Y M2) (fun r => r.1 = nI 1 ∧ CI F r.2 (prS A A.td (if t = 0 then exS A.one i j else A.one) (if t = 0 then A.two else exS A.two i j)) ∧ Fr SC M r.2)) → Wp (X.bind Y) (fun r => r.1 = nI 1 ∧ CI F r.2 (prS A A.td (if t = 0 then exS A.one i j else A.one) (if t = 0 then A.two else exS A.two i j)) ∧ Fr SC M r.2) := fun X P Y h => wp_b h (fun a h => h)
  unfold f_X9_swap_J43 f_X4_exchangeIn
  rw [pz_0, pz_1]
  refine comb _ (fun _ => True) _ ?_
  rcases (by omega : t = 0 ∨ t = 1) with rfl | rfl
  · rw [if_pos rfl]
    obtain ⟨M1, e1, i1, f1⟩ := xc_ok hn o1 hi hj
    have q : ∀ k, k ≠ 12 → M1.1 k = M.1 k := fun k hk => f1.1 k (fun h => by unfold SB at h; omega)
    have e1 : f_X9_exchange (11 + 1) (nI i) (nI j) M = some M1 := e1
    rw [e1, pz_bd]
    exact fin M1 _ _ (f1.mono (fun k h => ⟨Nat.le_trans (by omega) h.1, Nat.le_trans h.2 (by omega)⟩)) (by rw [q 5 (by omega)]; exact g5) (by rw [q 11 (by omega)]; exact o5) i1 (o2.eq (q 13 (by omega))) (p1.ex hi hj) p2
  · rw [if_neg (by decide)]
    obtain ⟨M1, e1, i1, f1⟩ := xc_ok hn o2 hi hj
    have q : ∀ k, k ≠ 13 → M1.1 k = M.1 k := fun k hk => f1.1 k (fun h => by unfold SB at h; omega)
    have e1 : f_X9_exchange (11 + 2) (nI i) (nI j) M = some M1 := e1
    rw [e1, pz_bd]
    exact fin M1 _ _ (f1.mono (fun k h => ⟨Nat.le_trans (by omega) h.1, Nat.le_trans h.2 (by omega)⟩)) (by rw [q 5 (by omega)]; exact g5) (by rw [q 11 (by omega)]; exact o5) (o1.eq (q 12 (by omega))) i1 p1 (p2.ex hi hj)
theorem arm_20 {F : Abs → Nat → Mm → Prop} (hF : FOK F) {xs : Nat → Int32} {L n : Nat} {M : Mm} (hL : L ≤ 3584) (hn : n + 7 ≤ L) (hI : Inv F M) : Nx F n (f_arm_20 xs L (nI n) M) := by
  obtain ⟨A, hA, hC, hR⟩ := hI
  have hn12 := hA.n
  unfold f_arm_20
  simp (disch := omega) only [pz_rdX, pz_1, pz_2, pz_3, pz_add]
  generalize xs (n + 1) = c
  generalize xs (n + 2) = a
  generalize xs (n + 3) = b
  have no : (f_X9_swap c a b M = some (nI 0, M)) → (∀ M1, RI M1 A → f_X10_swap c a b M1 = some (nI 0, wi M1 69 0 (nI 0))) → Nx F n (bd2 (f_X9_swap c a b M) fun r M1 => bd2 (f_X10_swap c a b M1) fun r2 M2 => if r = r2 then f_law_J1690 (nI n) M2 else none) := fun h1 h2 =>
    arm_n hF (v := nI 0) hA hR (wp_e h1 ⟨rfl, hC, Fr.rf⟩) (fun M1 h => wp_e (h2 M1 h) ⟨rfl, h.code _, fr69⟩)
  have ek : ∀ M1, RI M1 A → (wi M1 69 0 (nI 0)).1 69 6 = A.kd := fun M1 h => h.kd
  have en : ∀ M1, RI M1 A → (wi M1 69 0 (nI 0)).1 69 1 = nI A.n := fun M1 h => h.n
  by_cases hk : A.kd = nI 1
  · rcases isb a hn12 with ⟨i, hi, rfl⟩ | ha
    · rcases isb b hn12 with ⟨j, hj, rfl⟩ | hb
      · rcases sw_of c (k := 1) (by omega) with ⟨t, ht, rfl⟩ | ⟨hc1, hc2⟩
        · have hkn : A.kd ≠ -1 := by rw [hk]; decide
          obtain ⟨p1, p2⟩ := hA.k1 hk
          obtain ⟨l1, l2, _, _⟩ := hA.ly hkn
          have htd := p12 (sub_lt l2 hA.tb) hn12
          have q1 : PermN A.n (if t = 0 then exS A.one i j else A.one) := by split <;> first | exact p1 | exact p1.ex hi hj
          have q2 : PermN A.n (if t = 0 then A.two else exS A.two i j) := by split <;> first | exact p2 | exact p2.ex hi hj
          refine arm_n hF (v := nI 1) (hA.prs l1 l2 q1 q2) hR ?_ (fun M1 h => ?_)
          · have hs := c_swap hF hA hC hk hi hj (show t < 2 by omega)
            unfold f_X9_swap
            rw [has_y hC.n hn12 hi, has_y hC.n hn12 hj, hC.kd, hk]
            rcases (by omega : t = 0 ∨ t = 1) with rfl | rfl
            · simp (disch := first | assumption | omega) only [↓pz_n1, pz_mm, pz_mm', ↓pz_lt1, ↓pz_bd, ↓pz_bd2, ↓pz_tn, ↓pz_ts, pz_0, pz_1, pz_2, pz_3, pz_4, pz_12, pz_13, pz_15, pz_16, pz_20, pz_23, pz_24, pz_200, ↓pz_rd, ↓pz_wr, pz_add, pz_mul, pz_sub, pz_le, pz_lt, pz_eq, pz_max, pz_min, pz_cl, pz_and, pz_or, pz_shl, pz_clr, pz_bit, pz_ff, pz_tt, pz_5, pz_6, pz_7, pz_10000, pz_sb, pz_b0, pz_b1]; exact hs
            · simp (disch := first | assumption | omega) only [↓pz_n1, pz_mm, pz_mm', ↓pz_lt1, ↓pz_bd, ↓pz_bd2, ↓pz_tn, ↓pz_ts, pz_0, pz_1, pz_2, pz_3, pz_4, pz_12, pz_13, pz_15, pz_16, pz_20, pz_23, pz_24, pz_200, ↓pz_rd, ↓pz_wr, pz_add, pz_mul, pz_sub, pz_le, pz_lt, pz_eq, pz_max, pz_min, pz_cl, pz_and, pz_or, pz_shl, pz_clr, pz_bit, pz_ff, pz_tt, pz_5, pz_6, pz_7, pz_10000, pz_sb, pz_b0, pz_b1]; exact hs
          · unfold f_X10_swap
            have x1 : ¬ i < 0 := by omega
            have x2 : ¬ A.n ≤ i := by omega
            have x3 : ¬ j < 0 := by omega
            have ek1 : (wi M1 69 0 (nI 0)).1 69 6 = nI 1 := (ek M1 h).trans hk
            obtain ⟨o1, o2⟩ := h.k1 hk
            have fr1 : Fr SRw M1 (wi M1 69 0 (nI 0)) := Fr.rf.w (Or.inl rfl)
            have g1 := h.gd hkn
            have c1 : (wi M1 69 0 (nI 0)).1 76 i = nI (A.one i) := o1 i hi
            have c2 : (wi M1 69 0 (nI 0)).1 76 j = nI (A.one j) := o1 j hj
            have c3 : (wi M1 69 0 (nI 0)).1 77 i = nI (A.two i) := o2 i hi
            have c4 : (wi M1 69 0 (nI 0)).1 77 j = nI (A.two j) := o2 j hj
            rcases (by omega : t = 0 ∨ t = 1) with rfl | rfl
            · simp (disch := first | assumption | omega) only [↓pz_n1, pz_mm, pz_mm', ↓pz_lt1, ↓pz_bd, ↓pz_bd2, ↓pz_tn, ↓pz_ts, pz_0, pz_1, pz_2, pz_3, pz_4, pz_12, pz_13, pz_15, pz_16, pz_20, pz_23, pz_24, pz_200, ↓pz_rd, ↓pz_wr, pz_add, pz_mul, pz_sub, pz_le, pz_lt, pz_eq, pz_max, pz_min, pz_cl, pz_and, pz_or, pz_shl, pz_clr, pz_bit, pz_ff, pz_tt, pz_5, pz_6, pz_7, pz_10000, pz_sb, pz_b0, pz_b1, ek1, en M1 h, x1, x2, x3, hj, c1, c2]
              refine wp_b (r_layp hA h (M := wi (wi (wi M1 69 0 (nI 0)) 76 i (nI (A.one j))) 76 j (nI (A.one i))) (td := A.td) ((fr1.w (Or.inr ⟨by omega, by omega⟩)).w (Or.inr ⟨by omega, by omega⟩)) (p1.ex hi hj) p2 h.n h.s g1.1 l2 ?_ (o2.eq rfl)) (fun M3 h3 => wp_s ⟨rfl, h3.1, h3.2.1⟩)
              exact IA.set (IA.set (M := wi M1 69 0 (nI 0)) (o1.eq rfl))
            · simp (disch := first | assumption | omega) only [↓pz_n1, pz_mm, pz_mm', ↓pz_lt1, ↓pz_bd, ↓pz_bd2, ↓pz_tn, ↓pz_ts, pz_0, pz_1, pz_2, pz_3, pz_4, pz_12, pz_13, pz_15, pz_16, pz_20, pz_23, pz_24, pz_200, ↓pz_rd, ↓pz_wr, pz_add, pz_mul, pz_sub, pz_le, pz_lt, pz_eq, pz_max, pz_min, pz_cl, pz_and, pz_or, pz_shl, pz_clr, pz_bit, pz_ff, pz_tt, pz_5, pz_6, pz_7, pz_10000, pz_sb, pz_b0, pz_b1, ek1, en M1 h, x1, x2, x3, hj, c3, c4]
              refine wp_b (r_layp hA h (M := wi (wi (wi M1 69 0 (nI 0)) 77 i (nI (A.two j))) 77 j (nI (A.two i))) (td := A.td) ((fr1.w (Or.inr ⟨by omega, by omega⟩)).w (Or.inr ⟨by omega, by omega⟩)) p1 (p2.ex hi hj) h.n h.s g1.1 l2 (o1.eq rfl) ?_) (fun M3 h3 => wp_s ⟨rfl, h3.1, h3.2.1⟩)
              exact IA.set (IA.set (M := wi M1 69 0 (nI 0)) (o2.eq rfl))
        · refine no ?_ (fun M1 h => ?_)
          · unfold f_X9_swap
            rw [has_y hC.n hn12 hi, has_y hC.n hn12 hj, hC.kd, hk]
            simp (disch := first | assumption | omega) only [↓pz_n1, pz_mm, pz_mm', ↓pz_lt1, ↓pz_bd, ↓pz_bd2, ↓pz_tn, ↓pz_ts, pz_0, pz_1, pz_2, pz_3, pz_4, pz_12, pz_13, pz_15, pz_16, pz_20, pz_23, pz_24, pz_200, ↓pz_rd, ↓pz_wr, pz_add, pz_mul, pz_sub, pz_le, pz_lt, pz_eq, pz_max, pz_min, pz_cl, pz_and, pz_or, pz_shl, pz_clr, pz_bit, pz_ff, pz_tt, pz_5, pz_6, pz_7, pz_10000, pz_sb, pz_b0, pz_b1]
            rw [if_neg (hc2 0 (by omega)), if_neg (hc2 1 (by omega))]
            rfl
          · unfold f_X10_swap
            have ek1 : (wi M1 69 0 (nI 0)).1 69 6 = nI 1 := (ek M1 h).trans hk
            simp (disch := first | assumption | omega) only [↓pz_n1, pz_mm, pz_mm', ↓pz_lt1, ↓pz_bd, ↓pz_bd2, ↓pz_tn, ↓pz_ts, pz_0, pz_1, pz_2, pz_3, pz_4, pz_12, pz_13, pz_15, pz_16, pz_20, pz_23, pz_24, pz_200, ↓pz_rd, ↓pz_wr, pz_add, pz_mul, pz_sub, pz_le, pz_lt, pz_eq, pz_max, pz_min, pz_cl, pz_and, pz_or, pz_shl, pz_clr, pz_bit, pz_ff, pz_tt, pz_5, pz_6, pz_7, pz_10000, pz_sb, pz_b0, pz_b1, ek1]
            rcases hc1 with h1 | ⟨_, h1, h2⟩
            · rw [if_pos h1]
            · rw [if_neg h2, if_pos h1]
      · refine no ?_ (fun M1 h => ?_)
        · unfold f_X9_swap
          rw [has_y hC.n hn12 hi, has_n hC.n hb, hC.kd, hk]
          rfl
        · unfold f_X10_swap
          have x1 : ¬ i < 0 := by omega
          have x2 : ¬ A.n ≤ i := by omega
          have ek1 : (wi M1 69 0 (nI 0)).1 69 6 = nI 1 := (ek M1 h).trans hk
          rw [pz_lt1, pz_0, ek1, if_pos pz_1.symm, en M1 h]
          have hb' : b < nI 0 ∨ ¬ b < nI A.n := by
            rcases hb with q | q
            · exact Or.inl q
            · exact Or.inr (Int32.not_lt.mpr q)
          by_cases y1 : c < nI 0
          · rw [if_pos y1]
          · rw [if_neg y1]
            by_cases y2 : (1 : Int32) < c
            · rw [if_pos y2]
            · rw [if_neg y2, if_neg (by rw [pz_lt (by omega) (by omega)]; exact x1), if_neg (by rw [pz_le (by omega) (by omega)]; exact x2)]
              rcases hb' with q | q
              · rw [if_pos q]
              · rw [if_neg q]
                split <;> rfl
    · refine no ?_ (fun M1 h => ?_)
      · unfold f_X9_swap
        rw [has_n hC.n ha, hC.kd, hk]
        simp (disch := first | assumption | omega) only [↓pz_n1, pz_mm, pz_mm', ↓pz_lt1, ↓pz_bd, ↓pz_bd2, ↓pz_tn, ↓pz_ts, pz_0, pz_1, pz_2, pz_3, pz_4, pz_12, pz_13, pz_15, pz_16, pz_20, pz_23, pz_24, pz_200, ↓pz_rd, ↓pz_wr, pz_add, pz_mul, pz_sub, pz_le, pz_lt, pz_eq, pz_max, pz_min, pz_cl, pz_and, pz_or, pz_shl, pz_clr, pz_bit, pz_ff, pz_tt, pz_5, pz_6, pz_7, pz_10000, pz_sb, pz_b0, pz_b1]
      · unfold f_X10_swap
        have ek1 : (wi M1 69 0 (nI 0)).1 69 6 = nI 1 := (ek M1 h).trans hk
        rw [pz_lt1, pz_0, ek1, if_pos pz_1.symm, en M1 h]
        by_cases y1 : c < nI 0
        · rw [if_pos y1]
        · rw [if_neg y1]
          by_cases y2 : (1 : Int32) < c
          · rw [if_pos y2]
          · rw [if_neg y2]
            rcases ha with q | q
            · rw [if_pos q]
            · rw [if_pos q]
              split <;> rfl
  · refine no ?_ (fun M1 h => ?_)
    · unfold f_X9_swap
      rw [hC.kd, pz_1, pz_0, if_neg hk]
    · unfold f_X10_swap
      rw [pz_lt1, pz_1, pz_0, ek M1 h, if_neg hk]
