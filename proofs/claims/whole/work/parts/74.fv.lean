/-! the reference finds the curve -/
def shp (w h : Nat → Nat) (e : Ex) (u : Nat) : Sh := (exw (swd w h u) (swd h w u) e, exh (swd w h u) (swd h w u) e)
def KC (M M' : Mm) : Prop := (∀ k, k ≠ 69 → k ≠ 84 → k ≠ 85 → ¬ SMp k → M'.1 k = M.1 k) ∧ (∀ j, j ≠ 21 → j ≠ 7 → M'.1 69 j = M.1 69 j) ∧ ∀ k, ¬ SMp k → M'.2 k = M.2 k
theorem KC.rf {M : Mm} : KC M M := ⟨fun _ _ _ _ _ => rfl, fun _ _ _ => rfl, fun _ _ => rfl⟩
theorem KC.tr {M M' M'' : Mm} (h : KC M M') (h2 : KC M' M'') : KC M M'' := ⟨fun k a b c d => (h2.1 k a b c d).trans (h.1 k a b c d), fun j hj hk => (h2.2.1 j hj hk).trans (h.2.1 j hj hk), fun k hk => (h2.2.2 k hk).trans (h.2.2 k hk)⟩
theorem KC.w {M : Mm} {i : Nat} {v : Int32} (hi : i = 21 ∨ i = 7) : KC M (wi M 69 i v) := ⟨fun k a _ _ _ => wi_n _ _ _ a, fun j hj hk => by rw [wi_at, if_neg (by omega)], fun _ _ => rfl⟩
theorem KC.mp {M M' : Mm} (h : Fr SMp M M') : KC M M' := ⟨fun k _ _ _ d => h.1 k d, fun j _ _ => by rw [h.1 69 (by unfold SMp; omega)], fun k hk => h.2 k hk⟩
theorem KC.ad {M M' : Mm} (h : KpA M M') : KC M M' := ⟨fun k a b c _ => h.1 k a b c, fun j hj _ => h.2.1 j hj, fun k _ => by rw [h.2.2]⟩
theorem clr_0 {a m : Nat} : clr a m = 0 ↔ a &&& m = a := by
  constructor
  · intro h
    refine Nat.eq_of_testBit_eq fun i => ?_
    have := clr_bit a m i
    rw [h, Nat.zero_testBit] at this
    rw [Nat.testBit_and]
    cases e1 : a.testBit i <;> cases e2 : m.testBit i <;> rw [e1, e2] at this <;> first | rfl | cases this
  · intro h
    unfold clr
    rw [h, Nat.xor_self]
theorem RSh.eq {L : List Sh} {M M' : Mm} (h : RSh L M) (e1 : M'.1 69 21 = M.1 69 21) (e2 : M'.1 84 = M.1 84) (e3 : M'.1 85 = M.1 85) : RSh L M' := ⟨by rw [e1]; exact h.n, h.a.fr (fun j _ _ => by rw [e2, e3]; exact ⟨rfl, rfl⟩)⟩
theorem shs_sub {w h : Nat → Nat} {tb : Nat} {e : Ex} (p : Sh) : ShS w h tb 0 e p ↔ ∃ u, u < tb + 1 ∧ u &&& tb = u ∧ p = shp w h e u := by
  constructor
  · rintro ⟨u, h1, rfl⟩
    refine ⟨u &&& tb, Nat.lt_succ_of_le Nat.and_le_right, by rw [Nat.and_assoc, Nat.and_self], ?_⟩
    have := exwh_cg (W := swd w h u) (H := swd h w u) (W' := swd w h (u &&& tb)) (H' := swd h w (u &&& tb)) e (fun b hb => by
      refine swd_cg ?_
      rw [Nat.testBit_and]
      cases e1 : tb.testBit b
      · rw [h1 b hb e1, Nat.zero_testBit]; rfl
      · rw [Bool.and_true])
    unfold shp
    rw [this.1, this.2]
  · rintro ⟨u, _, h2, rfl⟩
    refine ⟨u, fun b _ hb => ?_, rfl⟩
    rw [← h2, Nat.testBit_and, hb, Bool.and_false, Nat.zero_testBit]
theorem shp_bd {w h : Nat → Nat} {n : Nat} {e : Ex} {u : Nat} (hl : (Ex.lvs e).length ≤ 12) (hm : ∀ b ∈ Ex.lvs e, b < n) (hw : ∀ b, b < n → 1 ≤ w b ∧ w b ≤ 200) (hh : ∀ b, b < n → 1 ≤ h b ∧ h b ≤ 200) : (shp w h e u).1 ≤ 2400 ∧ (shp w h e u).2 ≤ 2400 := by
  have h1 := exw_le (W := swd w h u) (H := swd h w u) e (fun c hc => swd_le hw hh (hm c hc))
  have h2 := exh_le (W := swd w h u) (H := swd h w u) e (fun c hc => swd_le hh hw (hm c hc))
  show exw (swd w h u) (swd h w u) e ≤ 2400 ∧ exh (swd w h u) (swd h w u) e ≤ 2400
  omega
/-- the sides of the whole row, turned by u -/
theorem rt_ok {M : Mm} {n u : Nat} {w h tk : Nat → Nat} {e : Ex} (hn : n ≤ 12) (h1n : 1 ≤ n) (hu : u < 4096) (hw : ∀ b, b < n → 1 ≤ w b ∧ w b ≤ 200) (hh : ∀ b, b < n → 1 ≤ h b ∧ h b ≤ 200) (hR : RowE n tk e) (r1 : M.1 69 1 = nI n) (r70 : IA M 70 n w) (r71 : IA M 71 n h) (ht : IA M 78 (2 * n - 1) tk) :
    Wp (f_X10_makeParts 78 (wi M 69 7 (nI u))) (fun M' => M'.1 89 (2 * n - 1 - 1) = nI (shp w h e u).1 ∧ M'.1 90 (2 * n - 1 - 1) = nI (shp w h e u).2 ∧ Fr SMp (wi M 69 7 (nI u)) M') := by
  obtain ⟨hat, hz⟩ := hR.rat
  refine wp_m (mp_ok (td := u) hn h1n hu hw hh hR r1 (by rw [wi_at, if_pos rfl]) (r70.wn (by omega)) (r71.wn (by omega)) (ht.wn (by omega))) ?_
  rintro M' ⟨a, b⟩
  have := a.wh
  rw [Nat.zero_add, hz] at this
  exact ⟨this.1, this.2, b⟩
theorem fv_ok {M : Mm} {n tb : Nat} {w h tk : Nat → Nat} {e : Ex} (hn : n ≤ 12) (h1n : 1 ≤ n) (htb : tb < 2 ^ n) (hw : ∀ b, b < n → 1 ≤ w b ∧ w b ≤ 200) (hh : ∀ b, b < n → 1 ≤ h b ∧ h b ≤ 200) (hR : RowE n tk e) (r1 : M.1 69 1 = nI n) (r70 : IA M 70 n w) (r71 : IA M 71 n h) (r73 : IA M 73 n (fun b => (tb.testBit b).toNat)) (ht : IA M 78 (2 * n - 1) tk) :
    Wp (f_X10_findCurve M) (fun M' => RSh (lc w h tb 0 e) M' ∧ KC M M' ∧ M'.1 69 7 = M.1 69 7) := by
  have hll : (Ex.lvs e).length = n := hR.2.2.2.2
  have h4 := p12 htb hn
  unfold f_X10_findCurve
  rw [pz_lt1, bde (tbl_ok hn htb r1 r73), pz_lt1, pz_0]
  refine wp_b (P := fun M' => RSh (lc w h tb 0 e) M' ∧ KC M M') ?_ ?_
  · refine wp_l (fun i (v : Int32 × Mm) => v.1 = nI i ∧ (∃ L, Frn (fun p => ∃ u, u < i ∧ u &&& tb = u ∧ p = shp w h e u) L ∧ LBd L ∧ RSh L v.2) ∧ KC M v.2) (tb + 1) (fu_lt (by omega)) ?_ ?_ ⟨rfl, ⟨[], ⟨List.Pairwise.nil, fun p hp => (by cases hp), fun q hq => (by obtain ⟨u, h1, _⟩ := hq; omega)⟩, fun p hp => (by cases hp), ⟨rfl, trivial⟩⟩, KC.w (Or.inl rfl)⟩
    · rintro i ⟨v, M1⟩ hi ⟨a1, ⟨L, f1, f2, f3⟩, a3⟩
      have a1 : v = nI i := a1
      subst a1
      have f3 : RSh L M1 := f3
      have a3 : KC M M1 := a3
      show Wp (f_X10_findCurve_L17 (nI tb) (nI i) M1) _
      unfold f_X10_findCurve_L17
      rw [if_neg (by rw [pz_lt (by omega) (by omega)]; omega), pz_n1, pz_clr, pz_0]
      have J : ∀ N, f_X10_findCurve_J72 (nI i) N = some (.inl (nI (i + 1), N)) := fun N => by
        unfold f_X10_findCurve_J72; rw [pz_lt1, pz_1, pz_add]
      have hc4 : clr i tb < 4096 := clr_lt (n := 12) (by omega)
      by_cases z : clr i tb = 0
      · rw [if_pos (by rw [z]), pz_lt1]
        have c1 : M1.1 69 1 = nI n := by rw [a3.2.1 1 (by omega) (by omega)]; exact r1
        have q : ∀ k, k ≠ 69 → k ≠ 84 → k ≠ 85 → ¬ SMp k → M1.1 k = M.1 k := a3.1
        refine wp_b (rt_ok (u := i) hn h1n (by omega) hw hh hR c1 (r70.eq (q 70 (by omega) (by omega) (by omega) (by unfold SMp; omega))) (r71.eq (q 71 (by omega) (by omega) (by omega) (by unfold SMp; omega))) (ht.eq (q 78 (by omega) (by omega) (by omega) (by unfold SMp; omega)))) ?_
        rintro M2 ⟨b1, b2, b3⟩
        have c2 : M2.1 69 = (wi M1 69 7 (nI i)).1 69 := b3.1 69 (by unfold SMp; omega)
        have c3 : M2.1 69 1 = nI n := by rw [c2]; exact c1
        rw [rs_eq c3 h1n, pz_1, pz_sub (by omega), pz_rd (by omega) (by omega), b1, pz_rd (by omega) (by omega), b2]
        have f4 : RSh L M2 := RSh.eq f3 (by rw [c2]; rfl) (b3.1 84 (by unfold SMp; omega)) (b3.1 85 (by unfold SMp; omega))
        refine wp_b (add_ok f1 f2 (shp_bd (u := i) (n := n) (e := e) (by omega) hR.2.2.2.1 hw hh) f4) ?_
        rintro M3 ⟨L', g1, g2, g3, g4⟩
        rw [J]
        refine wp_s (Or.inl ⟨_, rfl, rfl, ⟨L', g1.cg (fun p => ?_), g2, g3⟩, ((a3.tr (KC.w (Or.inr rfl))).tr (KC.mp b3)).tr (KC.ad g4)⟩)
        constructor
        · rintro (⟨u, h1, h2, h3⟩ | h3)
          · exact ⟨u, by omega, h2, h3⟩
          · exact ⟨i, by omega, clr_0.mp z, h3⟩
        · rintro ⟨u, h1, h2, h3⟩
          by_cases hu : u = i
          · subst hu; exact Or.inr h3
          · exact Or.inl ⟨u, by omega, h2, h3⟩
      · rw [if_neg (by rw [pz_eq (by omega) (by omega)]; exact z), J]
        refine wp_s (Or.inl ⟨_, rfl, rfl, ⟨L, f1.cg (fun p => ?_), f2, f3⟩, a3⟩)
        constructor
        · rintro ⟨u, h1, h2, h3⟩
          exact ⟨u, by omega, h2, h3⟩
        · rintro ⟨u, h1, h2, h3⟩
          by_cases hu : u = i
          · subst hu; exact absurd (clr_0.mpr h2) z
          · exact ⟨u, by omega, h2, h3⟩
    · rintro ⟨v, M1⟩ ⟨a1, ⟨L, f1, f2, f3⟩, a3⟩
      have a1 : v = nI (tb + 1) := a1
      subst a1
      show Wp (f_X10_findCurve_L17 (nI tb) (nI (tb + 1)) M1) _
      unfold f_X10_findCurve_L17
      rw [if_pos ((nI_ltI (by omega) (by omega)).mpr (by omega))]
      have : L = lc w h tb 0 e := Frn.un (f1.cg (fun p => (shs_sub p).symm)) (lc_frn e hR.2.2.1)
      rw [← this]
      exact wp_s ⟨_, rfl, f3, a3⟩
  · rintro M1 ⟨a1, a2⟩
    unfold f_X10_findCurve_A17
    rw [pz_lt1]
    exact wp_s ⟨RSh.eq a1 rfl rfl rfl, a2.tr (KC.w (Or.inr rfl)), by rw [wi_at, if_pos rfl]⟩
theorem KC.scr {M M' : Mm} (h : KC M M') (e : M'.1 69 7 = M.1 69 7) : Scr M M' := ⟨fun k hk h2 => h.1 k hk (by omega) (by omega) (by unfold SMp; omega), ⟨h.2.1 1 (by omega) (by omega), h.2.1 6 (by omega) (by omega), e, h.2.1 8 (by omega) (by omega), h.2.1 41 (by omega) (by omega)⟩, fun k hk => h.2.2 k (by unfold SMp; omega)⟩
theorem c_draw {F : Abs → Nat → Mm → Prop} (hF : FOK F) {M : Mm} {A : Abs} {e : Ex} (hA : AOK A) (hC : CI F M A) (hk : A.kd = 2) (hE : RowE A.n A.tk e) (h1 : 1 ≤ A.n) :
    Wp (f_X5_draw 28 17 (M.1 1 2) (nI 0) M) (fun M' => ARl M' 29 30 0 (lc A.w A.h A.tb 0 e) ∧ M'.1 28 5 = nI (lc A.w A.h A.tb 0 e).length ∧ Fr (SB 28 33) M M' ∧ CI F M' A) := by
  obtain ⟨a, b⟩ := hC.k2 hk
  rw [hC.tb]
  refine wp_m (dr_ok (k0 := 28) (k1 := 17) hA.n h1 (by omega) (by omega) (p12 hA.tb hA.n) (by omega) hA.w hA.h hE a b hC.w hC.h) ?_
  rintro M' ⟨a1, a2, a3⟩
  exact ⟨a1, a2, a3, hC.k15 hF a3 (fun k hk => by unfold SB at hk; omega)⟩
theorem r_find {M : Mm} {A : Abs} {e : Ex} (hA : AOK A) (hR : RI M A) (hk : A.kd = 2) (hE : RowE A.n A.tk e) (h1 : 1 ≤ A.n) :
    Wp (f_X10_findCurve (wi M 69 0 (nI 0))) (fun M' => RSh (lc A.w A.h A.tb 0 e) M' ∧ RI M' A ∧ Fr SR M M' ∧ M'.1 69 0 = nI 0 ∧ Scr M M') := by
  have hR' := hR.code (nI 0)
  refine wp_m (fv_ok hA.n h1 hA.tb hA.w hA.h hE hR'.n hR'.w hR'.h hR'.tb (hR'.k2 hk)) ?_
  rintro M' ⟨a1, a2, a3⟩
  have s := (Scr.rf (M := M)).w (i := 0) (v := nI 0) (by omega)
  have s2 := s.tr (a2.scr a3)
  refine ⟨a1, hR.scr s2, s2.fr, ?_, s2⟩
  rw [a2.2.1 0 (by omega) (by omega)]; rfl
theorem arm_17 {F : Abs → Nat → Mm → Prop} (hF : FOK F) {xs : Nat → Int32} {L n : Nat} {M : Mm} (hI : Inv F M) : Nx F n (f_arm_17 xs L (nI n) M) := by
  obtain ⟨A, hA, hC, hR⟩ := hI
  unfold f_arm_17 f_L_curve
  by_cases hk : A.kd = 2
  · obtain ⟨e, hE⟩ := hA.k2 hk
    obtain ⟨h1, _⟩ := hA.ly (by rw [hk]; decide)
    refine arm_w hF Int32.toInt64 (some (nI (lc A.w A.h A.tb 0 e).length)) hA hR (lq_m hF _ ?_) (fun M1 h => ?_) (fun _ => rfl)
    · unfold f_X9_curve
      rw [nk_y (hC.kd.trans hk), pz_lt1, pz_ts, pz_0]
      refine wp_b (c_draw hF hA hC hk hE h1) ?_
      rintro M' ⟨a1, a2, a3, a4⟩
      rw [a2]
      exact wp_s ⟨rfl, a4, a3.mono (fun k h => sb_sc h (by omega))⟩
    · unfold f_X10_curve
      rw [pz_lt1, if_pos (show (wi M1 69 0 0).1 69 6 = 2 from h.kd.trans hk), pz_0]
      refine wp_b (r_find hA h hk hE h1) ?_
      rintro M' ⟨a1, a2, a3, a4, _⟩
      exact wp_s ⟨a2, a3, Or.inr ⟨_, rfl, a4, a1.n⟩⟩
  · refine arm_w hF Int32.toInt64 none hA hR (lq_m hF _ ?_) (fun M1 h => ?_) (fun _ => rfl)
    · unfold f_X9_curve
      rw [nk_n (by rw [hC.kd]; exact hk), pz_lt1, pz_tn]
      exact wp_s ⟨rfl, hC, Fr.rf⟩
    · unfold f_X10_curve
      rw [pz_lt1, if_neg (show ¬ (wi M1 69 0 0).1 69 6 = 2 from fun q => hk (h.kd.symm.trans q)), pz_lt1]
      exact rq_fail h _
