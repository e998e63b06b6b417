/-! count -/
def tT (i : Nat) : Nat := [1, 1, 2, 5, 14, 42, 132, 429, 1430, 4862, 16796].getD i 0
def tC (i : Nat) : Nat := [0, 1, 2, 6, 22, 90, 394, 1806, 8558, 41586, 206098].getD i 0
def tB (i : Nat) : Nat := [0, 0, 1, 3, 11, 45, 197, 903, 4279, 20793, 103049].getD i 0
def tB' (i : Nat) : Nat := if i = 1 then 1 else tB i
theorem tT_s : ∀ i, i < 11 → 1 ≤ i → smn (fun a => tT a * tT (i - 1 - a)) i = tT i := by decide +kernel
theorem tB_s : ∀ i, i < 11 → 2 ≤ i → smn (fun a => tC (1 + a) * tB' (i - (1 + a))) (i - 1) = tB i ∧ 2 * tB i = tC i := by decide +kernel
theorem fa_3 : ∀ i, i < 11 → 1 ≤ i → FA3.getD i 0 = lI (tT i) := by decide +kernel
theorem fa_2 : ∀ i, i < 11 → FA2.getD i 0 = lI (tC i) := by decide +kernel
theorem wl_at (M : Mm) (k i : Nat) (v : Int64) (j : Nat) : (wl M k i v).2 k j = if j = i then v else M.2 k j := by rw [wl_k]; rfl
/-- only these long cells are written -/
def LK (M M' : Mm) : Prop := M'.1 = M.1 ∧ ∀ k, k ≠ 103 → k ≠ 104 → M'.2 k = M.2 k
theorem LK.rf {M : Mm} : LK M M := ⟨rfl, fun _ _ _ => rfl⟩
theorem LK.w {M M' : Mm} (h : LK M M') {k i : Nat} {v : Int64} (hk : k = 103 ∨ k = 104) : LK M (wl M' k i v) := ⟨h.1, fun j h1 h2 => by rw [wl_n _ _ _ (by omega)]; exact h.2 j h1 h2⟩
theorem RI.lk {M M' : Mm} {A : Abs} (h : RI M A) (hl : LK M M') : RI M' A := by
  have e : ∀ k, M'.1 k = M.1 k := fun k => by rw [hl.1]
  exact ⟨by rw [e]; exact h.kd, by rw [e]; exact h.s, by rw [e]; exact h.n, h.w.eq (e _), h.h.eq (e _), h.tb.eq (e _), h.nt.eq (e _), fun q => by rw [e]; exact ⟨(h.gd q).1, (h.gd q).2.1.eq (e _), (h.gd q).2.2.eq (e _)⟩, fun q => ⟨(h.k1 q).1.eq (e _), (h.k1 q).2.eq (e _)⟩, fun q => (h.k2 q).eq (e _), fun q => by rw [e, e, e]; exact h.k3 q⟩
theorem LK.fr {M M' : Mm} (hl : LK M M') : Fr SR M M' := ⟨fun k _ => by rw [hl.1], fun k hk => hl.2 k (fun e => hk (by rw [e]; exact ⟨by decide, by decide⟩)) (fun e => hk (by rw [e]; exact ⟨by decide, by decide⟩))⟩
theorem ctT_ok {M : Mm} {m : Nat} (hm : m ≤ 10) (h1 : 1 ≤ m) : Wp (wrL 11 M 103 (nI 0) (lI 1) fun M_47 => (loop (fun v => f_X10_count_L65 (nI m) v.1 v.2) FU (nI 1, M_47)).bind fun z => f_X10_count_A65 (nI m) z) (fun r => r.1 = lI (fac m * tT m) ∧ LK M r.2) := by
  rw [pz_wrL (by omega) (by omega)]
  refine wp_b (P := fun M' => M'.2 103 m = lI (tT m) ∧ LK M M') ?_ ?_
  · refine wp_l (fun s (v : Int32 × Mm) => v.1 = nI (1 + s) ∧ (∀ j, j ≤ s → v.2.2 103 j = lI (tT j)) ∧ LK M v.2) m (fu_lt (by omega)) ?_ ?_ ⟨rfl, fun j hj => ?_, LK.rf.w (Or.inl rfl)⟩
    · rintro s ⟨v, M1⟩ hs ⟨a1, a2, a3⟩
      have a1 : v = nI (1 + s) := a1
      subst a1
      have a2 : ∀ j, j ≤ s → M1.2 103 j = lI (tT j) := a2
      show Wp (f_X10_count_L65 (nI m) (nI (1 + s)) M1) _
      unfold f_X10_count_L65
      have q1 : ¬ m < 1 + s := by omega
      rw [if_neg (by rw [pz_lt (by omega) (by omega)]; exact q1), pz_wrL (by omega) (by omega), pz_0, lI_0]
      refine wp_b (wp_for (step := fun v => f_X10_count_L80 (nI (1 + s)) v.1 v.2) (fun a M' => M'.2 103 (1 + s) = lI (smn (fun a => tT a * tT (1 + s - 1 - a)) a) ∧ (∀ j, j ≤ s → M'.2 103 j = lI (tT j)) ∧ LK M M') (1 + s) (by omega) ?_ ?_ ⟨?_, fun j hj => ?_, LK.w a3 (Or.inl rfl)⟩) ?_
      · rintro a M2 ha ⟨b1, b2, b3⟩
        show Wp (f_X10_count_L80 (nI (1 + s)) (nI a) M2) _
        unfold f_X10_count_L80
        rw [if_neg (by rw [pz_le (by omega) (by omega)]; omega), pz_rdL (by omega) (by omega), pz_rdL (by omega) (by omega), pz_1, pz_sub (by omega), pz_sub (by omega), pz_rdL (by omega) (by omega), pz_wrL (by omega) (by omega), pz_lt1, pz_add, b1, b2 a (by omega), b2 (1 + s - 1 - a) (by omega), lI_mul, lI_add]
        refine wp_s ⟨_, rfl, ?_, fun j hj => ?_, b3.w (Or.inl rfl)⟩
        · rw [wl_at, if_pos rfl]; rfl
        · rw [wl_at, if_neg (by omega)]; exact b2 j hj
      · rintro M2 ⟨b1, b2, b3⟩
        show f_X10_count_L80 (nI (1 + s)) (nI (1 + s)) M2 = _
        unfold f_X10_count_L80
        rw [if_pos ((nI_leI (by omega) (by omega)).mpr (Nat.le_refl _))]
      · rw [wl_at, if_pos rfl]; rfl
      · rw [wl_at, if_neg (by omega)]; exact a2 j hj
      · rintro M2 ⟨b1, b2, b3⟩
        unfold f_X10_count_A80
        rw [pz_lt1, pz_1, pz_add]
        rw [tT_s (1 + s) (by omega) (by omega)] at b1
        refine wp_s (Or.inl ⟨_, rfl, rfl, fun j hj => ?_, b3⟩)
        by_cases e : j = 1 + s
        · rw [e]; exact b1
        · exact b2 j (by omega)
    · rintro ⟨v, M1⟩ ⟨a1, a2, a3⟩
      have a1 : v = nI (1 + m) := a1
      subst a1
      show Wp (f_X10_count_L65 (nI m) (nI (1 + m)) M1) _
      unfold f_X10_count_L65
      rw [if_pos (by rw [pz_lt (by omega) (by omega)]; omega)]
      exact wp_s ⟨_, rfl, a2 m (by omega), a3⟩
    · show (wl M 103 0 (lI 1)).2 103 j = _
      have : j = 0 := by omega
      rw [wl_at, if_pos this, this]; rfl
  · rintro M' ⟨a1, a2⟩
    unfold f_X10_count_A65
    rw [fac_r m (by omega), pz_bd, pz_rdL (by omega) (by omega), a1, lI_mul]
    exact wp_s ⟨rfl, a2⟩
theorem ctC_ok {M : Mm} {m : Nat} (hm : m ≤ 10) (h1 : 1 ≤ m) : Wp (wrL 11 M 103 (nI 1) (lI 1) fun M_12 => wrL 11 M_12 104 (nI 1) (lI 0) fun M_14 => (loop (fun v => f_X10_count_L154 (nI m) v.1 v.2) FU (nI 2, M_14)).bind fun z => f_X10_count_A154 (nI m) z) (fun r => r.1 = lI (fac m * tC m) ∧ LK M r.2) := by
  rw [pz_wrL (by omega) (by omega), pz_wrL (by omega) (by omega)]
  refine wp_b (P := fun M' => M'.2 103 m = lI (tC m) ∧ LK M M') ?_ ?_
  · refine wp_l (fun s (v : Int32 × Mm) => v.1 = nI (2 + s) ∧ (∀ j, 1 ≤ j → j ≤ 1 + s → v.2.2 103 j = lI (tC j) ∧ v.2.2 104 j = lI (tB j)) ∧ LK M v.2) (m - 1) (fu_lt (by omega)) ?_ ?_ ⟨rfl, fun j h1 hj => ?_, (LK.rf.w (Or.inl rfl)).w (Or.inr rfl)⟩
    · rintro s ⟨v, M1⟩ hs ⟨a1, a2, a3⟩
      have a1 : v = nI (2 + s) := a1
      subst a1
      have a2 : ∀ j, 1 ≤ j → j ≤ 1 + s → M1.2 103 j = lI (tC j) ∧ M1.2 104 j = lI (tB j) := a2
      show Wp (f_X10_count_L154 (nI m) (nI (2 + s)) M1) _
      unfold f_X10_count_L154
      rw [if_neg (by rw [pz_lt (by omega) (by omega)]; omega), pz_wrL (by omega) (by omega), pz_1, lI_0]
      refine wp_b (P := fun M' => M'.2 104 (2 + s) = lI (tB (2 + s)) ∧ (∀ j, 1 ≤ j → j ≤ 1 + s → M'.2 103 j = lI (tC j) ∧ M'.2 104 j = lI (tB j)) ∧ LK M M') ?_ ?_
      · refine wp_l (fun a (v : Int32 × Mm) => v.1 = nI (1 + a) ∧ v.2.2 104 (2 + s) = lI (smn (fun a => tC (1 + a) * tB' (2 + s - (1 + a))) a) ∧ (∀ j, 1 ≤ j → j ≤ 1 + s → v.2.2 103 j = lI (tC j) ∧ v.2.2 104 j = lI (tB j)) ∧ LK M v.2) (1 + s) (fu_lt (by omega)) ?_ ?_ ⟨rfl, ?_, fun j h1 hj => ?_, LK.w a3 (Or.inr rfl)⟩
        · rintro a ⟨v, M2⟩ ha ⟨b0, b1, b2, b3⟩
          have b0 : v = nI (1 + a) := b0
          subst b0
          have b1 : M2.2 104 (2 + s) = lI (smn (fun a => tC (1 + a) * tB' (2 + s - (1 + a))) a) := b1
          have b2 : ∀ j, 1 ≤ j → j ≤ 1 + s → M2.2 103 j = lI (tC j) ∧ M2.2 104 j = lI (tB j) := b2
          show Wp (f_X10_count_L169 (nI (2 + s)) (nI (1 + a)) M2) _
          unfold f_X10_count_L169
          have fin : ∀ z, z = tB' (2 + s - (1 + a)) → Wp (f_X10_count_J212 (nI (2 + s)) (nI (1 + a)) M2 (lI (smn (fun a => tC (1 + a) * tB' (2 + s - (1 + a))) a)) (lI (tC (1 + a))) (lI z)) (fun r => (∃ w, r = .inl w ∧ w.1 = nI (1 + (a + 1)) ∧ w.2.2 104 (2 + s) = lI (smn (fun a => tC (1 + a) * tB' (2 + s - (1 + a))) (a + 1)) ∧ (∀ j, 1 ≤ j → j ≤ 1 + s → w.2.2 103 j = lI (tC j) ∧ w.2.2 104 j = lI (tB j)) ∧ LK M w.2) ∨ ∃ x, r = .inr x ∧ x.2 104 (2 + s) = lI (tB (2 + s)) ∧ (∀ j, 1 ≤ j → j ≤ 1 + s → x.2 103 j = lI (tC j) ∧ x.2 104 j = lI (tB j)) ∧ LK M x) := by
            rintro z rfl
            unfold f_X10_count_J212
            rw [pz_wrL (by omega) (by omega), pz_lt1, pz_1, pz_add, lI_mul, lI_add]
            refine wp_s (Or.inl ⟨_, rfl, rfl, ?_, fun j h1 hj => ?_, LK.w b3 (Or.inr rfl)⟩)
            · show (wl M2 104 (2 + s) _).2 104 (2 + s) = _
              rw [wl_at, if_pos rfl]; rfl
            · show (wl M2 104 (2 + s) _).2 103 j = _ ∧ (wl M2 104 (2 + s) _).2 104 j = _
              rw [wl_at, if_neg (by omega)]
              exact b2 j h1 hj
          rw [if_neg (by rw [pz_le (by omega) (by omega)]; omega), pz_lt1, pz_sub (by omega), pz_rdL (by omega) (by omega), pz_rdL (by omega) (by omega), b1, (b2 (1 + a) (by omega) (by omega)).1, pz_1]
          by_cases e : 2 + s - (1 + a) = 1
          · rw [if_pos (by rw [e]), lI_1]
            exact fin 1 (by rw [e]; rfl)
          · rw [if_neg (by rw [pz_eq (by omega) (by omega)]; exact e), pz_rdL (by omega) (by omega), (b2 (2 + s - (1 + a)) (by omega) (by omega)).2]
            exact fin _ (by unfold tB'; rw [if_neg e])
        · rintro ⟨v, M2⟩ ⟨b0, b1, b2, b3⟩
          have b0 : v = nI (1 + (1 + s)) := b0
          subst b0
          show Wp (f_X10_count_L169 (nI (2 + s)) (nI (1 + (1 + s))) M2) _
          unfold f_X10_count_L169
          rw [if_pos ((nI_leI (by omega) (by omega)).mpr (by omega))]
          have b1 : M2.2 104 (2 + s) = lI (smn (fun a => tC (1 + a) * tB' (2 + s - (1 + a))) (1 + s)) := b1
          have e := (tB_s (2 + s) (by omega) (by omega)).1
          rw [show 2 + s - 1 = 1 + s by omega] at e
          rw [e] at b1
          exact wp_s ⟨_, rfl, b1, b2, b3⟩
        · show (wl M1 104 (2 + s) _).2 104 (2 + s) = _
          rw [wl_at, if_pos rfl]; rfl
        · show (wl M1 104 (2 + s) _).2 103 j = _ ∧ (wl M1 104 (2 + s) _).2 104 j = _
          rw [wl_at, if_neg (by omega)]
          exact a2 j h1 hj
      · rintro M2 ⟨b1, b2, b3⟩
        unfold f_X10_count_A169
        rw [pz_rdL (by omega) (by omega), pz_wrL (by omega) (by omega), pz_lt1, pz_1, pz_add, b1, lI_2, lI_mul, (tB_s (2 + s) (by omega) (by omega)).2]
        refine wp_s (Or.inl ⟨_, rfl, rfl, fun j h1 hj => ?_, LK.w b3 (Or.inl rfl)⟩)
        show (wl M2 103 (2 + s) _).2 103 j = _ ∧ (wl M2 103 (2 + s) _).2 104 j = _
        rw [wl_at]
        by_cases e : j = 2 + s
        · rw [if_pos e, e]; exact ⟨rfl, b1⟩
        · rw [if_neg e]; exact b2 j h1 (by omega)
    · rintro ⟨v, M1⟩ ⟨a1, a2, a3⟩
      have a1 : v = nI (2 + (m - 1)) := a1
      subst a1
      show Wp (f_X10_count_L154 (nI m) (nI (2 + (m - 1))) M1) _
      unfold f_X10_count_L154
      rw [if_pos (by rw [pz_lt (by omega) (by omega)]; omega)]
      exact wp_s ⟨_, rfl, (a2 m (by omega) (by omega)).1, a3⟩
    · have : j = 1 := by omega
      subst this
      exact ⟨rfl, rfl⟩
  · rintro M' ⟨a1, a2⟩
    unfold f_X10_count_A154
    rw [fac_r m (by omega), pz_bd, pz_rdL (by omega) (by omega), a1, lI_mul]
    exact wp_s ⟨rfl, a2⟩
theorem arm_22 {F : Abs → Nat → Mm → Prop} (hF : FOK F) {xs : Nat → Int32} {L n : Nat} {M : Mm} (hL : L ≤ 3584) (hn : n + 7 ≤ L) (hI : Inv F M) : Nx F n (f_arm_22 xs L (nI n) M) := by
  obtain ⟨A, hA, hC, hR⟩ := hI
  have hn12 := hA.n
  unfold f_arm_22
  simp (disch := first | assumption | omega) only [↓pz_n1, pz_mm, pz_mm', ↓pz_lt1, ↓pz_bd, ↓pz_bd2, ↓pz_tn, ↓pz_ts, pz_0, pz_1, pz_2, pz_3, pz_4, pz_12, pz_13, pz_15, pz_16, pz_20, pz_23, pz_24, pz_200, ↓pz_rd, ↓pz_wr, pz_add, pz_mul, pz_sub, pz_le, pz_lt, pz_eq, pz_max, pz_min, pz_cl, pz_and, pz_or, pz_shl, pz_clr, pz_bit, pz_ff, pz_tt, pz_5, pz_6, pz_7, pz_10000, pz_sb, pz_b0, pz_b1, pz_rdX]
  generalize xs (n + 1) = a
  generalize xs (n + 2) = c
  have key : ∃ o, f_X9_count a c M = some o ∧ ∀ M1, RI M1 A → RQr M1 A o (f_X10_count a c M1) := by
    unfold f_X9_count f_X9_needCountable f_X9_count_J52
    rcases sw_of a (k := 3) (by omega) with ⟨j, hj, rfl⟩ | ⟨ha1, ha2⟩
    · by_cases hj0 : j = 0
      · subst hj0
        refine ⟨none, rfl, fun M1 h => ?_⟩
        unfold f_X10_count f_X10_count_J15 f_X10_fail
        rw [pz_lt1, pz_0, if_pos (by decide)]
        exact rq_fail h _
      · have e1 : (if nI j = (1 : Int32) then some () else if nI j = (2 : Int32) then some () else if nI j = (3 : Int32) then some () else none) = some () := by
          rcases (by omega : j = 1 ∨ j = 2 ∨ j = 3) with rfl | rfl | rfl <;> rfl
        rw [e1, pz_lt1, pz_ts]
        have r1 : ∀ (M1 : Mm), f_X10_count (nI j) c M1 = (if c < (1 : Int32) then some ((-1 : Int64), wi M1 69 0 (nI 0)) else if c ≤ (10 : Int32) then (if nI j = (1 : Int32) then (f_X10_factorial c).bind fun r_74 => (f_X10_factorial c).bind fun r_76 => some ((r_74 * r_76), wi M1 69 0 (nI 0)) else if nI j = (3 : Int32) then wrL 11 (wi M1 69 0 (nI 0)) 103 (0 : Int32) (1 : Int64) fun M_47 => (loop (fun v => f_X10_count_L65 c v.1 v.2) FU ((1 : Int32), M_47)).bind fun z => f_X10_count_A65 c z else wrL 11 (wi M1 69 0 (nI 0)) 103 (1 : Int32) (1 : Int64) fun M_12 => wrL 11 M_12 104 (1 : Int32) (0 : Int64) fun M_14 => (loop (fun v => f_X10_count_L154 c v.1 v.2) FU ((2 : Int32), M_14)).bind fun z => f_X10_count_A154 c z) else some ((-1 : Int64), wi M1 69 0 (nI 0))) := by
          intro M1
          unfold f_X10_count
          rw [pz_lt1]
          have q1 : ¬ nI j < (1 : Int32) := by rw [pz_1, pz_lt (by omega) (by omega)]; omega
          have q2 : nI j ≤ (3 : Int32) := by rw [pz_3, pz_le (by omega) (by omega)]; omega
          rw [if_neg q1, if_pos q2, pz_0]
        rcases sw_of c (k := 10) (by omega) with ⟨m, hm, rfl⟩ | ⟨hc1, hc2⟩
        · by_cases hm0 : m = 0
          · subst hm0
            refine ⟨some (-1), rfl, fun M1 h => ?_⟩
            rw [r1, if_pos (by decide)]
            exact rq_val h _
          · have q1 : ¬ nI m < (1 : Int32) := by rw [pz_1, pz_lt (by omega) (by omega)]; omega
            have q2 : nI m ≤ (10 : Int32) := by rw [pz_10, pz_le (by omega) (by omega)]; omega
            rw [if_neg q1, if_pos q2, fac_9 (by omega), pz_bd]
            rcases (by omega : j = 1 ∨ j = 2 ∨ j = 3) with rfl | rfl | rfl
            · rw [if_pos (by decide)]
              refine ⟨_, rfl, fun M1 h => ?_⟩
              rw [r1, if_neg q1, if_pos q2, if_pos (by decide), fac_r m (by omega), pz_bd, pz_bd]
              exact rq_val h _
            · rw [if_neg (by decide), if_pos (by decide), pz_rdS (by show m < 11; omega) (by decide), fa_2 m (by omega), lI_mul]
              refine ⟨_, rfl, fun M1 h => ?_⟩
              rw [r1, if_neg q1, if_pos q2, if_neg (by decide), if_neg (by decide), pz_1, pz_2, lI_1, lI_0]
              refine wp_m (ctC_ok hm (by omega)) ?_
              rintro ⟨v, M2⟩ ⟨b1, b2⟩
              exact ⟨(h.code _).lk b2, fr69.tr b2.fr, Or.inr ⟨_, rfl, by show M2.1 69 0 = _; rw [b2.1]; rfl, b1⟩⟩
            · rw [if_neg (by decide), if_neg (by decide), pz_rdS (by show m < 11; omega) (by decide), fa_3 m (by omega) (by omega), lI_mul]
              refine ⟨_, rfl, fun M1 h => ?_⟩
              rw [r1, if_neg q1, if_pos q2, if_neg (by decide), if_pos (by decide), pz_1, pz_0, lI_1]
              refine wp_m (ctT_ok hm (by omega)) ?_
              rintro ⟨v, M2⟩ ⟨b1, b2⟩
              exact ⟨(h.code _).lk b2, fr69.tr b2.fr, Or.inr ⟨_, rfl, by show M2.1 69 0 = _; rw [b2.1]; rfl, b1⟩⟩
        · refine ⟨some (-1), ?_, fun M1 h => ?_⟩
          · rcases hc1 with q | ⟨q, _, _⟩
            · rw [if_pos (by rw [Int32.lt_iff_toInt_lt] at q ⊢; have e0 : (nI 0).toInt = 0 := rfl; have e4 : (1 : Int32).toInt = 1 := rfl; omega)]
            · rw [pz_10, if_neg q]; split <;> rfl
          · rw [r1]
            rcases hc1 with q | ⟨q, _, _⟩
            · rw [if_pos (by rw [Int32.lt_iff_toInt_lt] at q ⊢; have e0 : (nI 0).toInt = 0 := rfl; have e4 : (1 : Int32).toInt = 1 := rfl; omega)]
              exact rq_val h _
            · rw [pz_10, if_neg q]
              split <;> exact rq_val h _
    · refine ⟨none, ?_, fun M1 h => ?_⟩
      · rw [pz_1, pz_2, pz_3, if_neg (ha2 1 (by omega)), if_neg (ha2 2 (by omega)), if_neg (ha2 3 (by omega))]
        rfl
      · unfold f_X10_count f_X10_count_J15 f_X10_fail
        rw [pz_lt1, pz_0]
        rcases ha1 with q | ⟨q, _, _⟩
        · rw [if_pos (by rw [Int32.lt_iff_toInt_lt] at q ⊢; have e0 : (nI 0).toInt = 0 := rfl; have e4 : (1 : Int32).toInt = 1 := rfl; omega)]
          exact rq_fail h _
        · rw [pz_3, if_neg q]
          split <;> exact rq_fail h _
  obtain ⟨o, e1, e2⟩ := key
  exact arm_w hF (fun v => v) o hA hR (lq_p hF (fun v => v) hC e1) e2 (fun _ => rfl)
