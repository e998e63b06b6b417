/-! from: the arm -/
theorem rp_ok {M : Mm} {n td : Nat} {w h x y : Nat → Nat} (g : GB n td w h x y) (c : CG M 5 n td w h x y) (hc : NC n (Cl x y (swd w h td) (swd h w td))) : Wp (f_X4_readPlaces 11 5 M) (fun M' => M'.1 11 5 = nI n ∧ (∃ o mk, IA M' 12 n o ∧ SoO (Ah1 x y (swd w h td) (swd h w td)) n o mk n ∧ IA M' 14 n (fun b => ps o b n)) ∧ (∃ o mk, IA M' 13 n o ∧ SoO (Ah2 x y (swd w h td) (swd h w td)) n o mk n) ∧ Fr (SB 11 16) M M') := by
  have hn := g.n
  unfold f_X4_readPlaces
  rw [pz_lt1, c.n]
  have f0 : Fr (SB 11 16) M (wi M 11 5 (nI n)) := Fr.rf.w ⟨by omega, by omega⟩
  have A1 := al1 (td := td) (fun b hb => (g.sw hb).1) (fun b hb => (g.sh hb).1) hc
  have A2 := al2 (td := td) (fun b hb => (g.sw hb).1) (fun b hb => (g.sh hb).1) hc
  refine wp_b (nao_ok (k0 := 11) (k1 := 5) g (c.fr f0 (fun k h => by unfold SB at h; omega)) (by omega) rfl) ?_
  rintro M1 ⟨⟨f1, a1, a2⟩, a3⟩
  have z1 : M1.1 11 5 = nI n := by rw [a3.1 11 (fun h => by unfold SB at h; omega)]; rfl
  have fr1 : Fr (SB 11 16) M M1 := f0.tr (a3.mono (fun k h => by unfold SB at h; unfold SB; omega))
  refine wp_b (so_ok (k0 := 11) (k1 := 11 + 1) hn (by omega) z1 a1 a2 A1) ?_
  rintro M2 ⟨⟨o1, mk1, b1, b2⟩, b3⟩
  have z2 : M2.1 11 5 = nI n := by rw [b3.1 11 (fun h => by unfold SB at h; omega)]; exact z1
  have fr2 : Fr (SB 11 16) M M2 := fr1.tr (b3.mono (fun k h => by unfold SB at h; unfold SB; omega))
  refine wp_b (nat_ok (k0 := 11) (k1 := 5) g (c.fr fr2 (fun k h => by unfold SB at h; omega)) (by omega) z2) ?_
  rintro M3 ⟨⟨f2, c1, c2⟩, c3⟩
  have z3 : M3.1 11 5 = nI n := by rw [c3.1 11 (fun h => by unfold SB at h; omega)]; exact z2
  have fr3 : Fr (SB 11 16) M M3 := fr2.tr (c3.mono (fun k h => by unfold SB at h; unfold SB; omega))
  refine wp_b (so_ok (k0 := 11) (k1 := 11 + 2) hn (by omega) z3 c1 c2 A2) ?_
  rintro M4 ⟨⟨o2, mk2, d1, d2⟩, d3⟩
  have z4 : M4.1 11 5 = nI n := by rw [d3.1 11 (fun h => by unfold SB at h; omega)]; exact z3
  have fr4 : Fr (SB 11 16) M M4 := fr3.tr (d3.mono (fun k h => by unfold SB at h; unfold SB; omega))
  have e1 : IA M4 12 n o1 := (IA.eq b1 (c3.1 12 (fun h => by unfold SB at h; omega))).eq (d3.1 12 (fun h => by unfold SB at h; omega))
  refine wp_b (np_ok (k0 := 11) hn z4 e1 b2.perm) ?_
  rintro M5 ⟨g1, g2⟩
  have q : ∀ k, k ≠ 14 → M5.1 k = M4.1 k := fun k hk => g2.1 k (fun h => by unfold SB at h; omega)
  exact wp_s ⟨by rw [q 11 (by omega)]; exact z4, ⟨o1, mk1, e1.eq (q 12 (by omega)), b2, g1⟩, ⟨o2, mk2, IA.eq d1 (q 13 (by omega)), d2⟩, fr4.tr (g2.mono (fun k h => by unfold SB at h; unfold SB; omega))⟩
theorem arm_14 {F : Abs → Nat → Mm → Prop} (hF : FOK F) {xs : Nat → Int32} {L n : Nat} {M : Mm} (hI : Inv F M) : Nx F n (f_arm_14 xs L (nI n) M) := by
  obtain ⟨A, hA, hC, hR⟩ := hI
  have hn12 := hA.n
  unfold f_arm_14
  have ek : ∀ M1, RI M1 A → (wi M1 69 0 (nI 0)).1 69 6 = A.kd := fun M1 h => h.kd
  by_cases hk : A.kd = -1
  · refine arm_n hF (v := nI 0) hA hR (wp_e (a := (nI 0, M)) ?_ ⟨rfl, hC, Fr.rf⟩) (fun M1 h1 => wp_e (a := (nI 0, wi M1 69 0 (nI 0))) ?_ ⟨rfl, h1.code _, fr69⟩)
    · unfold f_X9_from
      rw [hC.kd, if_pos hk, pz_0]
    · unfold f_X10_from
      rw [pz_0, pz_lt1, ek M1 h1, if_pos hk]
  · have g := hA.gb hk
    have cg := hC.cg hk
    obtain ⟨l1, l2, _, _⟩ := hA.ly hk
    have s1 : ∀ M1, Scr M1 (wi M1 69 0 (nI 0)) := fun M1 => Scr.rf.w (by omega)
    obtain ⟨fr, fe, fh⟩ := fc_ok g cg
    rcases fh with ⟨f1, f2⟩ | ⟨a, b, f1, f2⟩
    · obtain ⟨M2, e2, z5, ⟨o1, mk1, i1, j1, i3⟩, ⟨o2, mk2, i2, j2⟩, fr2⟩ := rp_ok g cg f2
      have p1 := j1.perm
      have p2 := j2.perm
      refine arm_n hF (v := nI 1) (A' := prS A A.td o1 o2) (hA.prs l1 l2 p1 p2) hR ?_ (fun M1 h1 => ?_)
      · unfold f_X9_from
        rw [hC.kd, if_neg hk, fe, pz_bd, f1, if_pos pz_n1.symm, e2, pz_bd]
        have hl := c_layp hF hA hC (M := M2) (fr2.mono (fun k h => by unfold SB at h; unfold SB; omega)) p1 p2 z5 i1 i2 i3 (M2.1 5 5)
        have e5 : M2.1 5 5 = nI A.td := by rw [fr2.1 5 (fun h => by unfold SB at h; omega)]; exact cg.td
        rw [e5] at hl ⊢
        rw [msk_nI l2 g.td] at hl
        rw [pz_1]
        exact wp_b hl (fun M3 h3 => wp_s ⟨rfl, h3.1, h3.2⟩)
      · unfold f_X10_from
        rw [pz_0, pz_lt1, ek M1 h1, if_neg hk, pz_1]
        have rg := (h1.rg hk).scr (s1 M1)
        obtain ⟨⟨r, M3⟩, e3, s3, z3, h3⟩ := rcs_ok g rg
        have sc3 : Scr M1 M3 := (s1 M1).tr s3
        have r3 : r = nI 0 := by
          rcases h3 with ⟨b1, _⟩ | ⟨_, b4⟩
          · exact b1
          · obtain ⟨_, _, _, _, b5⟩ := b4
            exact (b5.nc f2).elim
        rw [e3, pz_bd2, r3, if_pos rfl]
        have rg3 := (h1.rg hk).scr sc3
        have A1 := al1 (td := A.td) (fun b hb => (g.sw hb).1) (fun b hb => (g.sh hb).1) f2
        have A2 := al2 (td := A.td) (fun b hb => (g.sw hb).1) (fun b hb => (g.sh hb).1) f2
        obtain ⟨⟨r4, M4⟩, e4, q4, ⟨o1', mk1', i1', j1'⟩, fr4⟩ := rso_ok (t := 1) (k2 := 81) hn12 l1 (by omega) rg3.n (fun b hb => ah1_self (g.sw hb).1 (g.sh hb).1) (fun M' hs a b ha hb => ra1_s g (rg3.scr hs) ha hb) A1
        have q4 : r4 = nI 1 := q4
        have sc4 : Scr M1 M4 := sc3.tr (scr_of fr4 (by omega))
        have rg4 := (h1.rg hk).scr sc4
        obtain ⟨⟨r5, M5⟩, e5, q5, ⟨o2', mk2', i2', j2'⟩, fr5⟩ := rso_ok (t := 0) (k2 := 82) hn12 l1 (by omega) rg4.n (fun b hb => ah2_self (g.sw hb).1 (g.sh hb).1) (fun M' hs a b ha hb => ra2_s g (rg4.scr hs) ha hb) A2
        have q5 : r5 = nI 1 := q5
        have sc5 : Scr M1 M5 := sc4.tr (scr_of fr5 (by omega))
        rw [e4, pz_bd2, q4, if_neg (by decide), e5, pz_bd2, q5, if_neg (by decide)]
        have i1'' : IA M5 81 A.n o1 := (IA.eq (M := M4) i1' (fr5.1 81 (fun h => by unfold SB at h; omega))).cg (fun j hj => j1'.un j1 j hj)
        have i2'' : IA M5 82 A.n o2 := IA.cg (M := M5) i2' (fun j hj => j2'.un j2 j hj)
        have r5' : M5.1 69 1 = nI A.n := sc5.2.1.1.trans h1.n
        have fl5 : Fr SRw M1 M5 := sc5.fw
        refine wp_b (wp_for (step := fun v => f_X10_from_L48 v.1 v.2) (fun i M' => M'.1 69 = M5.1 69 ∧ IA M' 76 i o1 ∧ IA M' 77 i o2 ∧ M'.1 81 = M5.1 81 ∧ M'.1 82 = M5.1 82 ∧ Fr SRw M1 M') A.n (by omega) ?_ ?_ ⟨rfl, IA.nil, IA.nil, rfl, rfl, fl5⟩) ?_
        · rintro i M6 hi ⟨b1, b2, b3, b4, b5, b6⟩
          show Wp (f_X10_from_L48 (nI i) M6) _
          unfold f_X10_from_L48
          have c1 : M6.1 69 1 = nI A.n := by rw [b1]; exact r5'
          have c2 : M6.1 81 i = nI (o1 i) := by rw [b4]; exact i1'' i hi
          have c3 : ∀ v, (wi M6 76 i v).1 82 i = nI (o2 i) := fun v => by
            show M6.1 82 i = _
            rw [b5]; exact i2'' i hi
          have h1 : ¬ A.n ≤ i := by omega
          simp (disch := first | assumption | omega) only [↓pz_n1, pz_mm, pz_mm', ↓pz_lt1, ↓pz_bd, ↓pz_bd2, ↓pz_tn, ↓pz_ts, pz_0, pz_1, pz_2, pz_3, pz_4, pz_12, pz_13, pz_15, pz_16, pz_20, pz_23, pz_24, pz_200, ↓pz_rd, ↓pz_wr, pz_add, pz_mul, pz_sub, pz_le, pz_lt, pz_eq, pz_max, pz_min, pz_cl, pz_and, pz_or, pz_shl, pz_clr, pz_bit, pz_ff, pz_tt, pz_5, pz_6, pz_7, pz_10000, pz_sb, pz_b0, pz_b1, c1, h1, c2, c3]
          exact wp_s ⟨_, rfl, b1, (b2.snoc rfl).eq rfl, IA.eq (M := wi M6 77 i (nI (o2 i))) (b3.snoc rfl) rfl, b4, b5, (b6.w (Or.inr ⟨by omega, by omega⟩)).w (Or.inr ⟨by omega, by omega⟩)⟩
        · rintro M6 ⟨b1, b2, b3, b4, b5, b6⟩
          show f_X10_from_L48 (nI A.n) M6 = _
          unfold f_X10_from_L48
          have c1 : M6.1 69 1 = nI A.n := by rw [b1]; exact r5'
          rw [c1, if_pos ((nI_leI (by omega) (by omega)).mpr (Nat.le_refl _))]
        · rintro M6 ⟨b1, b2, b3, b4, b5, b6⟩
          unfold f_X10_from_A48
          refine wp_b (r_layp hA h1 (M := M6) (td := A.td) b6 p1 p2 (by rw [b1]; exact r5') (by rw [b1]; exact sc5.2.1.2.2.2.2.trans h1.s) (by rw [b1]; exact sc5.2.1.2.2.1.trans (h1.gd hk).1) l2 b2 b3) (fun M7 h7 => wp_s ⟨pz_1, h7.1, h7.2.1⟩)
    · refine arm_n hF (v := nI 0) hA hR (wp_e (a := (nI 0, M)) ?_ ⟨rfl, hC, Fr.rf⟩) (fun M1 h1 => ?_)
      · unfold f_X9_from
        have q1 := f2.1
        have q2 := f2.2.1
        rw [hC.kd, if_neg hk, fe, pz_bd, f1, if_neg (show ¬ ck a b = -1 from (ck_ok a (by omega) b (by omega)).1), pz_0]
      · unfold f_X10_from
        rw [pz_0, pz_lt1, ek M1 h1, if_neg hk]
        have rg := (h1.rg hk).scr (s1 M1)
        obtain ⟨⟨r, M3⟩, e3, s3, z3, h3⟩ := rcs_ok g rg
        have r3 : r = nI 1 := by
          rcases h3 with ⟨_, _, _, b1⟩ | ⟨b1, _⟩
          · exact (f2.nc b1).elim
          · exact b1
        rw [e3, pz_bd2, r3, if_neg (by decide)]
        exact wp_s ⟨rfl, h1.scr ((s1 M1).tr s3), ((s1 M1).tr s3).fr⟩
