/-! shape and best -/
theorem rq_fl {α : Type} {M M' : Mm} {A : Abs} (h : RI M A) (s : Scr M M') (v : α) : RQr M A none (some (v, wi M' 69 0 (nI 1))) := wp_s ⟨(h.scr s).code _, (s.w (i := 0) (by omega)).fr, Or.inl ⟨rfl, rfl⟩⟩
theorem isl (a : Int32) {n : Nat} (hn : n < 100000) : (∃ b, b < n ∧ a = nI b) ∨ (a < nI 0 ∨ (¬ a < nI 0 ∧ ¬ a < nI n)) := by
  by_cases h0 : a < nI 0
  · exact Or.inr (Or.inl h0)
  · obtain ⟨j, hj, rfl⟩ := nI_of h0
    by_cases h1 : j < n
    · exact Or.inl ⟨j, h1, rfl⟩
    · refine Or.inr (Or.inr ⟨h0, ?_⟩)
      rw [pz_lt hj (by omega)]; exact h1
theorem getD_mem {L : List Sh} {i : Nat} (h : i < L.length) : L.getD i (0, 0) ∈ L := by
  rw [List.getD_eq_getElem?_getD, List.getElem?_eq_getElem h]
  exact List.getElem_mem h
theorem dw_ok {F : Abs → Nat → Mm → Prop} (hF : FOK F) {M : Mm} {A : Abs} {e : Ex} (hA : AOK A) (hC : CI F M A) (hk : A.kd = 2) (hE : RowE A.n A.tk e) (h1 : 1 ≤ A.n) (a : Int32) :
    Wp (f_X9_drawWith a M) (fun r => Fr (SB 28 33) M r.2 ∧ CI F r.2 A ∧ ((r.1 = some () ∧ ARl r.2 29 30 0 (lc A.w A.h A.tb 0 e) ∧ ∃ b, b < (lc A.w A.h A.tb 0 e).length ∧ a = nI b) ∨ (r.1 = none ∧ (a < nI 0 ∨ (¬ a < nI 0 ∧ ¬ a < nI (lc A.w A.h A.tb 0 e).length))))) := by
  have hl := lc_len (w := A.w) (h := A.h) (op := A.tb) (td := 0) e hE.2.2.1
  have hll : (Ex.lvs e).length = A.n := hE.2.2.2.2
  have hn := hA.n
  unfold f_X9_drawWith f_X9_drawWith_J43
  rw [nk_y (hC.kd.trans hk), pz_lt1, pz_ts, pz_0]
  refine wp_b (c_draw hF hA hC hk hE h1) ?_
  rintro M' ⟨a1, a2, a3, a4⟩
  rw [a2]
  rcases isl a (n := (lc A.w A.h A.tb 0 e).length) (by omega) with ⟨b, hb, rfl⟩ | q | ⟨q1, q2⟩
  · rw [if_neg (by rw [pz_lt (by omega) (by omega)]; omega), if_pos (by rw [pz_lt (by omega) (by omega)]; exact hb)]
    exact wp_s ⟨a3, a4, Or.inl ⟨rfl, a1, b, hb, rfl⟩⟩
  · rw [if_pos q]
    exact wp_s ⟨a3, a4, Or.inr ⟨rfl, Or.inl q⟩⟩
  · rw [if_neg q1, if_neg q2]
    exact wp_s ⟨a3, a4, Or.inr ⟨rfl, Or.inr ⟨q1, q2⟩⟩⟩
theorem c_shape {F : Abs → Nat → Mm → Prop} (hF : FOK F) {M : Mm} {A : Abs} {e : Ex} (hA : AOK A) (hC : CI F M A) (hk : A.kd = 2) (hE : RowE A.n A.tk e) (h1 : 1 ≤ A.n) (a b : Int32) :
    (∀ i, i < (lc A.w A.h A.tb 0 e).length → a = nI i → b = nI 0 → Wp (f_X9_shape a b M) (fun r => r.1 = some (nI ((lc A.w A.h A.tb 0 e).getD i (0, 0)).1) ∧ CI F r.2 A ∧ Fr SC M r.2)) ∧
    (∀ i, i < (lc A.w A.h A.tb 0 e).length → a = nI i → b = nI 1 → Wp (f_X9_shape a b M) (fun r => r.1 = some (nI ((lc A.w A.h A.tb 0 e).getD i (0, 0)).2) ∧ CI F r.2 A ∧ Fr SC M r.2)) ∧
    ((a < nI 0 ∨ (¬ a < nI 0 ∧ ¬ a < nI (lc A.w A.h A.tb 0 e).length)) ∨ (¬ b = nI 0 ∧ ¬ b = nI 1) → Wp (f_X9_shape a b M) (fun r => r.1 = none ∧ CI F r.2 A ∧ Fr SC M r.2)) := by
  have hl := lc_len (w := A.w) (h := A.h) (op := A.tb) (td := 0) e hE.2.2.1
  have hll : (Ex.lvs e).length = A.n := hE.2.2.2.2
  have hn := hA.n
  have sc : ∀ {k}, SB 28 33 k → SC k := fun h => sb_sc h (by omega)
  refine ⟨fun i hi ea eb => ?_, fun i hi ea eb => ?_, fun hbad => ?_⟩
  · subst ea eb
    unfold f_X9_shape
    refine wp_b2 (dw_ok hF hA hC hk hE h1 (nI i)) ?_
    rintro o M' ⟨a1, a2, ⟨a3, a4, _⟩ | ⟨a3, a4⟩⟩
    · have a3 : o = some () := a3
      have a4 : ARl M' 29 30 0 (lc A.w A.h A.tb 0 e) := a4
      rw [a3, pz_ts, pz_0, if_pos rfl, pz_rd (by omega) (by omega)]
      have := (a4.get hi).1
      rw [Nat.zero_add] at this
      exact wp_s ⟨by rw [this], a2, a1.mono (fun k h => sc h)⟩
    · rw [pz_lt (by omega) (by omega), pz_lt (by omega) (by omega)] at a4
      omega
  · subst ea eb
    unfold f_X9_shape
    refine wp_b2 (dw_ok hF hA hC hk hE h1 (nI i)) ?_
    rintro o M' ⟨a1, a2, ⟨a3, a4, _⟩ | ⟨a3, a4⟩⟩
    · have a3 : o = some () := a3
      have a4 : ARl M' 29 30 0 (lc A.w A.h A.tb 0 e) := a4
      rw [a3, pz_ts, pz_0, if_neg (by decide), pz_1, if_pos rfl, pz_rd (by omega) (by omega)]
      have := (a4.get hi).2
      rw [Nat.zero_add] at this
      exact wp_s ⟨by rw [this], a2, a1.mono (fun k h => sc h)⟩
    · rw [pz_lt (by omega) (by omega), pz_lt (by omega) (by omega)] at a4
      omega
  · unfold f_X9_shape
    refine wp_b2 (dw_ok hF hA hC hk hE h1 a) ?_
    rintro o M' ⟨a1, a2, ⟨a3, a4, i, hi, a5⟩ | ⟨a3, a4⟩⟩
    · have a3 : o = some () := a3
      subst a5
      rcases hbad with q | ⟨q1, q2⟩
      · rw [pz_lt (by omega) (by omega), pz_lt (by omega) (by omega)] at q
        omega
      · rw [a3, pz_ts, pz_0, if_neg q1, pz_1, if_neg q2]
        exact wp_s ⟨rfl, a2, a1.mono (fun k h => sc h)⟩
    · have a3 : o = none := a3
      rw [a3, pz_tn]
      exact wp_s ⟨rfl, a2, a1.mono (fun k h => sc h)⟩
theorem r_shape {M : Mm} {A : Abs} {e : Ex} (hA : AOK A) (hR : RI M A) (hk : A.kd = 2) (hE : RowE A.n A.tk e) (h1 : 1 ≤ A.n) (a b : Int32) :
    (∀ i, i < (lc A.w A.h A.tb 0 e).length → a = nI i → b = nI 0 → RQr M A (some (nI ((lc A.w A.h A.tb 0 e).getD i (0, 0)).1)) (f_X10_shape a b M)) ∧
    (∀ i, i < (lc A.w A.h A.tb 0 e).length → a = nI i → b = nI 1 → RQr M A (some (nI ((lc A.w A.h A.tb 0 e).getD i (0, 0)).2)) (f_X10_shape a b M)) ∧
    ((a < nI 0 ∨ (¬ a < nI 0 ∧ ¬ a < nI (lc A.w A.h A.tb 0 e).length)) ∨ (b < nI 0 ∨ (¬ b ≤ nI 1 ∧ nI 1 < b ∧ ¬ b < nI 0)) → RQr M A none (f_X10_shape a b M)) := by
  have hl := lc_len (w := A.w) (h := A.h) (op := A.tb) (td := 0) e hE.2.2.1
  have hll : (Ex.lvs e).length = A.n := hE.2.2.2.2
  have hn := hA.n
  refine ⟨fun i hi ea eb => ?_, fun i hi ea eb => ?_, fun hbad => ?_⟩
  · subst ea eb
    unfold f_X10_shape f_X10_shape_J26 RQr
    rw [pz_lt1, if_pos (show (wi M 69 0 0).1 69 6 = 2 from hR.kd.trans hk), pz_0, pz_1, if_neg (by rw [pz_lt (by omega) (by omega)]; omega), if_neg (show ¬ nI 0 < nI 0 by decide), if_pos (show nI 0 ≤ nI 1 by decide)]
    refine wp_b (r_find hA hR hk hE h1) ?_
    rintro M' ⟨a1, a2, a3, a4, _⟩
    rw [a1.n, if_pos (by rw [pz_lt (by omega) (by omega)]; exact hi), if_pos rfl, pz_rd (by omega) (by omega)]
    have := (a1.a.get hi).1
    rw [Nat.zero_add] at this
    exact wp_s ⟨a2, a3, Or.inr ⟨_, rfl, a4, this⟩⟩
  · subst ea eb
    unfold f_X10_shape f_X10_shape_J26 RQr
    rw [pz_lt1, if_pos (show (wi M 69 0 0).1 69 6 = 2 from hR.kd.trans hk), pz_0, pz_1, if_neg (by rw [pz_lt (by omega) (by omega)]; omega), if_neg (show ¬ nI 1 < nI 0 by decide), if_pos (show nI 1 ≤ nI 1 by decide)]
    refine wp_b (r_find hA hR hk hE h1) ?_
    rintro M' ⟨a1, a2, a3, a4, _⟩
    rw [a1.n, if_pos (by rw [pz_lt (by omega) (by omega)]; exact hi), if_neg (show ¬ nI 1 = nI 0 by decide), pz_rd (by omega) (by omega)]
    have := (a1.a.get hi).2
    rw [Nat.zero_add] at this
    exact wp_s ⟨a2, a3, Or.inr ⟨_, rfl, a4, this⟩⟩
  · unfold f_X10_shape f_X10_shape_J26
    rw [pz_lt1, if_pos (show (wi M 69 0 0).1 69 6 = 2 from hR.kd.trans hk), pz_0, pz_1]
    unfold f_X10_fail
    simp only [pz_lt1]
    rw [pz_1]
    by_cases q1 : a < nI 0
    · rw [if_pos q1]; exact rq_fail hR _
    · rw [if_neg q1]
      by_cases q2 : b < nI 0
      · rw [if_pos q2]; exact rq_fail hR _
      · rw [if_neg q2]
        by_cases q3 : b ≤ nI 1
        · rw [if_pos q3]
          have q4 : ¬ a < nI (lc A.w A.h A.tb 0 e).length := by
            rcases hbad with (y | y) | (y | y)
            · exact absurd y q1
            · exact y.2
            · exact absurd y q2
            · exact absurd q3 y.1
          obtain ⟨M', em, a1, a2, a3, a4, a5⟩ := r_find hA hR hk hE h1
          rw [em, pz_bd, a1.n, if_neg q4]
          exact rq_fl hR a5 _
        · rw [if_neg q3]; exact rq_fail hR _
theorem arm_18 {F : Abs → Nat → Mm → Prop} (hF : FOK F) {xs : Nat → Int32} {L n : Nat} {M : Mm} (hL : L ≤ 3584) (hn : n + 7 ≤ L) (hI : Inv F M) : Nx F n (f_arm_18 xs L (nI n) M) := by
  obtain ⟨A, hA, hC, hR⟩ := hI
  unfold f_arm_18 f_L_shape
  rw [pz_1, pz_2, pz_add, pz_add, pz_rdX (by omega) hL, pz_rdX (by omega) hL]
  simp only [fun f : Int32 → Option (Option (Int32 × Mm)) => pz_rdX (f := f) (xs := xs) (L := L) (m := n + 1) (by omega) hL, fun f : Int32 → Option (Option (Int32 × Mm)) => pz_rdX (f := f) (xs := xs) (L := L) (m := n + 2) (by omega) hL]
  generalize xs (n + 1) = a
  generalize xs (n + 2) = b
  rw [← pz_1]
  by_cases hk : A.kd = 2
  · obtain ⟨e, hE⟩ := hA.k2 hk
    obtain ⟨h1, _⟩ := hA.ly (by rw [hk]; decide)
    have hl := lc_len (w := A.w) (h := A.h) (op := A.tb) (td := 0) e hE.2.2.1
    have hll : (Ex.lvs e).length = A.n := hE.2.2.2.2
    have hn12 := hA.n
    rcases isl a (n := (lc A.w A.h A.tb 0 e).length) (by omega) with ⟨i, hi, ea⟩ | q
    · rcases sw_of b (k := 1) (by omega) with ⟨j, hj, eb⟩ | ⟨q, q2⟩
      · rcases (show j = 0 ∨ j = 1 by omega) with z | z
        · subst z
          exact arm_w hF Int32.toInt64 (some (nI ((lc A.w A.h A.tb 0 e).getD i (0, 0)).1)) hA hR (lq_m hF _ ((c_shape hF hA hC hk hE h1 a b).1 i hi ea eb)) (fun M1 h => (r_shape hA h hk hE h1 a b).1 i hi ea eb) (fun _ => rfl)
        · subst z
          exact arm_w hF Int32.toInt64 (some (nI ((lc A.w A.h A.tb 0 e).getD i (0, 0)).2)) hA hR (lq_m hF _ ((c_shape hF hA hC hk hE h1 a b).2.1 i hi ea eb)) (fun M1 h => (r_shape hA h hk hE h1 a b).2.1 i hi ea eb) (fun _ => rfl)
      · exact arm_w hF Int32.toInt64 none hA hR (lq_m hF _ ((c_shape hF hA hC hk hE h1 a b).2.2 (Or.inr ⟨q2 0 (by omega), q2 1 (by omega)⟩))) (fun M1 h => (r_shape hA h hk hE h1 a b).2.2 (Or.inr q)) (fun _ => rfl)
    · exact arm_w hF Int32.toInt64 none hA hR (lq_m hF _ ((c_shape hF hA hC hk hE h1 a b).2.2 (Or.inl q))) (fun M1 h => (r_shape hA h hk hE h1 a b).2.2 (Or.inl q)) (fun _ => rfl)
  · refine arm_w hF Int32.toInt64 none hA hR (lq_m hF _ ?_) (fun M1 h => ?_) (fun _ => rfl)
    · unfold f_X9_shape f_X9_drawWith
      rw [nk_n (by rw [hC.kd]; exact hk), pz_lt1, pz_tn, pz_bd2, pz_tn]
      exact wp_s ⟨rfl, hC, Fr.rf⟩
    · unfold f_X10_shape f_X10_shape_J26
      rw [pz_lt1, if_neg (show ¬ (wi M1 69 0 0).1 69 6 = 2 from fun q => hk (h.kd.symm.trans q)), pz_lt1]
      exact rq_fail h _
