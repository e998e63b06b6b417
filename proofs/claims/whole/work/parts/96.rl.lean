/-! the reference's least, and the arm -/
def rl0 (A : Abs) (M : Mm) : Mm := wi (wi (wi M 69 0 (nI 0)) 69 41 (nI (A.s + 1))) 69 39 m1
theorem RI.ls {M : Mm} {A : Abs} (h : RI M A) : RI (rl0 A M) (lsA A) := ⟨h.kd, rfl, h.n, h.w.eq rfl, h.h.eq rfl, h.tb.eq rfl, h.nt.eq rfl, fun k => ⟨(h.gd k).1, (h.gd k).2.1.eq rfl, (h.gd k).2.2.eq rfl⟩, fun k => ⟨(h.k1 k).1.eq rfl, (h.k1 k).2.eq rfl⟩, fun k => (h.k2 k).eq rfl, fun k => h.k3 k⟩
theorem rl_fr {M : Mm} {A : Abs} : Fr SR M (rl0 A M) := ((fr69.w ⟨by decide, by decide⟩).w ⟨by decide, by decide⟩)
theorem AOK.sz {A : Abs} (hA : AOK A) (h1 : 1 ≤ A.n) (h4 : A.n ≤ 4) : SZ A.n A.tb A.w A.h := ⟨h1, h4, hA.tb, hA.w, hA.h⟩
theorem RI.rx {M : Mm} {A : Abs} (h : RI M A) : RX M A.n A.tb A.w A.h := ⟨h.n, h.w, h.h, h.tb⟩
theorem rl_go {M : Mm} {A : Abs} {k : Nat} (hk : k = 1 ∨ k = 2 ∨ k = 3) (hR : RI M A) (h1 : 1 ≤ A.n) (h4 : A.n ≤ 4) (hs : A.s < 60) : f_X10_least (nI k) M = if nI k = (1 : Int32) then (f_X10_leastPair (rl0 A M)).bind fun M_40 => f_X10_least_J123 (nI k) M_40 else if nI k = (2 : Int32) then (f_X10_tryRows 30 (0 : Int32) (0 : Int32) (0 : Int32) (rl0 A M)).bind fun M_29 => (loop (fun v => f_X10_least_L90 v.1 v.2) FU ((0 : Int32), M_29)).bind fun z => f_X10_least_A90 (nI k) z else (f_X10_leastTree (rl0 A M)).bind fun M_27 => f_X10_least_J123 (nI k) M_27 := by
  unfold f_X10_least
  have e1 : (wi M 69 0 (0 : Int32)).1 69 1 = nI A.n := hR.n
  have e41 : (wi M 69 0 (0 : Int32)).1 69 41 = nI A.s := hR.s
  rw [pz_lt1, if_neg (by rw [pz_1, pz_lt (by omega) (by omega)]; omega), if_pos (by rw [pz_3, pz_le (by omega) (by omega)]; omega), e1, if_neg (by rw [pz_eq0 (by omega)]; omega), if_pos (by rw [pz_4, pz_le (by omega) (by omega)]; exact h4), e41, if_neg (by rw [pz_60, pz_eq (by omega) (by omega)]; omega), pz_lt1, pz_lt1]
  have em : wi (wi (wi M 69 0 (0 : Int32)) 69 41 (nI A.s + 1)) 69 39 (-1) = rl0 A M := by
    unfold rl0
    rw [pz_n1, pz_1, pz_add, pz_0]
  rw [em]
theorem rl1 {M : Mm} {A : Abs} (hA : AOK A) (hR : RI M A) (h1 : 1 ≤ A.n) (h4 : A.n ≤ 4) (hs : A.s < 60) {t u : Nat} {a b : Int64} (hB : Bst (gP A.n A.w A.h) A.tb (List.range (fac A.n * fac A.n)) t u) (ha : ∀ i, i < A.n → nib a i = ordN A.n (t / fac A.n) i) (hb : ∀ i, i < A.n → nib b i = ordN A.n (t % fac A.n) i) : RQr M (prS (lsA A) u (nib a) (nib b)) (some (nI (gP A.n A.w A.h t u))) (f_X10_least (nI 1) M) := by
  have hA1 := hA.ls hs
  have fb := fac_bd h4
  have hn := hA.n
  have hR1 := hR.ls
  rw [rl_go (Or.inl rfl) hR h1 h4 hs, if_pos (show nI 1 = 1 from rfl)]
  unfold RQr
  refine wp_b (rps_ok (hA.sz h1 h4) hR1.rx rfl) ?_
  rintro M1 ⟨ks, t', u', b1, b2, b3, b4, b5⟩
  obtain ⟨et, eu⟩ := b1.un hB
  subst et eu
  have tl := List.mem_range.mp hB.mem
  have o1 : t' / fac A.n < fac A.n := Nat.div_lt_of_lt_mul tl
  have o2 : t' % fac A.n < fac A.n := Nat.mod_lt _ (by omega)
  have p1 : PermN A.n (nib a) := (ord_perm o1).cg ha
  have p2 : PermN A.n (nib b) := (ord_perm o2).cg hb
  have hu := hB.1.1
  unfold f_X10_least_J123 f_X10_least_J159
  rw [b3, pz_lt1, if_pos (show nI 1 = 1 from rfl)]
  generalize hM2 : wi M1 69 7 (nI u') = M2
  have m2 : ∀ k, k ≠ 69 → M2.1 k = M1.1 k := fun k hk => by rw [← hM2]; exact wi_n _ _ _ hk
  have m69 : ∀ j, j ≠ 7 → M2.1 69 j = M1.1 69 j := fun j hj => by rw [← hM2, wi_at, if_neg hj]
  have r7 : M2.1 69 7 = nI u' := by rw [← hM2, wi_at, if_pos rfl]
  have fw : Fr SRw (rl0 A M) M2 := by rw [← hM2]; exact ks.fw.w (Or.inl rfl)
  have e76 : IA M2 76 A.n (nib a) := (b4.eq (m2 76 (by omega))).cg (fun i hi => (ha i hi).symm)
  have e77 : IA M2 77 A.n (nib b) := (b5.eq (m2 77 (by omega))).cg (fun i hi => (hb i hi).symm)
  have r1 : M2.1 69 1 = nI A.n := by rw [m69 1 (by omega), ks.2.1 1 (by omega)]; exact hR1.n
  have r41 : M2.1 69 41 = nI (A.s + 1) := by rw [m69 41 (by omega), ks.2.1 41 (by omega)]; exact hR1.s
  have r0 : M2.1 69 0 = nI 0 := by rw [m69 0 (by omega), ks.2.1 0 (by omega)]; rfl
  have hw : IA M2 70 A.n A.w := (hR1.w.eq (ks.1 70 (by omega))).eq (m2 70 (by omega))
  have hh : IA M2 71 A.n A.h := (hR1.h.eq (ks.1 71 (by omega))).eq (m2 71 (by omega))
  refine wp_b (wp_an (r_layp (A := lsA A) hA1 hR1 fw (td := u') p1 p2 r1 r41 r7 hu e76 e77) (rlay_ok hn (p12 (sub_lt hu hA.tb) hn) hA.w hA.h r1 r7 hw hh e76 e77 p1 p2)) ?_
  rintro M3 ⟨⟨c1, c2, c3⟩, _, _, _, c4⟩
  refine wp_s ⟨c1, rl_fr.tr c2, Or.inr ⟨_, rfl, c3.trans r0, ?_⟩⟩
  show M3.1 69 39 = _
  rw [c4.2.1 39 (by omega), m69 39 (by omega), b2]
theorem rl2 {M : Mm} {A : Abs} (hA : AOK A) (hR : RI M A) (h1 : 1 ≤ A.n) (h4 : A.n ≤ 4) (hs : A.s < 60) {r : List Nat} {u : Nat} {a b : Int64} (hB : Bst (gC A.n A.w A.h) A.tb (NR A.n) r u) (ha : ∀ i, i < 2 * A.n - 1 → tkn a b i = rowF r i) : RQr M (ctS (lsA A) u (tkn a b) (rE A.n r)) (some (nI (gC A.n A.w A.h r u))) (f_X10_least (nI 2) M) := by
  have hA1 := hA.ls hs
  have hn := hA.n
  have hR1 := hR.ls
  rw [rl_go (Or.inr (Or.inl rfl)) hR h1 h4 hs, if_neg (show ¬ nI 2 = 1 from by decide), if_pos (show nI 2 = 2 from by decide), pz_0]
  unfold RQr
  refine wp_b (rcs_ok' (hA.sz h1 h4) hR1.rx rfl) ?_
  rintro M1 ⟨ks, r', u', b1, b2, b3, b4⟩
  obtain ⟨et, eu⟩ := b1.un hB
  subst et eu
  have hr := NR_mem h1 h4 hB.mem
  have hE := (rE_ok h1 h4 hr).cg ha
  have hu := hB.1.1
  refine wp_b (rc_c3 h1 h4 ((ks.rx hR1.rx).n) b4) ?_
  rintro M2' ⟨d1, d2⟩
  have q2 : ∀ k, k ≠ 78 → M2'.1 k = M1.1 k := fun k hk => d2.1 k (fun h => by unfold SB at h; omega)
  have ks2 : KS (rl0 A M) M2' := ks.tr (KS.sb d2 (by omega) (by omega))
  unfold f_X10_least_A90 f_X10_least_J123 f_X10_least_J159
  rw [q2 69 (by omega), b3, pz_lt1, if_neg (show ¬ nI 2 = 1 from by decide), if_pos (show nI 2 = 2 from by decide)]
  generalize hM2 : wi M2' 69 7 (nI u') = M2
  have m2 : ∀ k, k ≠ 69 → M2.1 k = M2'.1 k := fun k hk => by rw [← hM2]; exact wi_n _ _ _ hk
  have m69 : ∀ j, j ≠ 7 → M2.1 69 j = M2'.1 69 j := fun j hj => by rw [← hM2, wi_at, if_neg hj]
  have r7 : M2.1 69 7 = nI u' := by rw [← hM2, wi_at, if_pos rfl]
  have fw : Fr SRw (rl0 A M) M2 := by rw [← hM2]; exact ks2.fw.w (Or.inl rfl)
  have e78 : IA M2 78 (2 * A.n - 1) (tkn a b) := (d1.eq (m2 78 (by omega))).cg (fun i hi => (ha i hi).symm)
  have r1 : M2.1 69 1 = nI A.n := by rw [m69 1 (by omega), ks2.2.1 1 (by omega)]; exact hR1.n
  have r41 : M2.1 69 41 = nI (A.s + 1) := by rw [m69 41 (by omega), ks2.2.1 41 (by omega)]; exact hR1.s
  have r0 : M2.1 69 0 = nI 0 := by rw [m69 0 (by omega), ks2.2.1 0 (by omega)]; rfl
  refine wp_b (r_layc (A := lsA A) hA1 h1 hR1 fw (td := u') hE r1 r41 r7 hu e78) ?_
  rintro M3 ⟨c1, c2, c3⟩
  refine wp_s ⟨c1, rl_fr.tr c2, Or.inr ⟨_, rfl, (c3 0 (by omega)).trans r0, ?_⟩⟩
  show M3.1 69 39 = _
  rw [c3 39 (by omega), m69 39 (by omega), q2 69 (by omega), b2]
theorem rl3 {M : Mm} {A : Abs} (hA : AOK A) (hR : RI M A) (h1 : 1 ≤ A.n) (h4 : A.n ≤ 4) (hs : A.s < 60) {t u : Nat} {a b : Int64} (hB : Bst (gT A.n A.w A.h) A.tb (VT A.n (fac A.n * 4 ^ A.n)) t u) (ha : ∀ i, i < A.n → nib a i = lfT A.n t i ∧ nib b i = rtT A.n t i) : RQr M (trS (lsA A) u (roT A.n t) (nib a) (nib b) (tE A.n t)) (some (nI (gT A.n A.w A.h t u))) (f_X10_least (nI 3) M) := by
  have hA1 := hA.ls hs
  have hn := hA.n
  have hR1 := hR.ls
  rw [rl_go (Or.inr (Or.inr rfl)) hR h1 h4 hs, if_neg (show ¬ nI 3 = 1 from by decide), if_neg (show ¬ nI 3 = 2 from by decide)]
  unfold RQr
  refine wp_b (rts_ok (hA.sz h1 h4) hR1.rx rfl) ?_
  rintro M1 ⟨ks, t', u', b1, b2, b3, b4, b5, b6⟩
  obtain ⟨et, eu⟩ := b1.un hB
  subst et eu
  obtain ⟨tl, tv'⟩ := VT_mem hB.mem
  have hE := (tE_ok h1 h4 tl tv').cg ha
  have hu := hB.1.1
  unfold f_X10_least_J123 f_X10_least_J159
  rw [b3, pz_lt1, if_neg (show ¬ nI 3 = 1 from by decide), if_neg (show ¬ nI 3 = 2 from by decide)]
  generalize hM2 : wi M1 69 7 (nI u') = M2
  have m2 : ∀ k, k ≠ 69 → M2.1 k = M1.1 k := fun k hk => by rw [← hM2]; exact wi_n _ _ _ hk
  have m69 : ∀ j, j ≠ 7 → M2.1 69 j = M1.1 69 j := fun j hj => by rw [← hM2, wi_at, if_neg hj]
  have r7 : M2.1 69 7 = nI u' := by rw [← hM2, wi_at, if_pos rfl]
  have fw : Fr SRw (rl0 A M) M2 := by rw [← hM2]; exact ks.fw.w (Or.inl rfl)
  have r1 : M2.1 69 1 = nI A.n := by rw [m69 1 (by omega), ks.2.1 1 (by omega)]; exact hR1.n
  have r41 : M2.1 69 41 = nI (A.s + 1) := by rw [m69 41 (by omega), ks.2.1 41 (by omega)]; exact hR1.s
  have r0 : M2.1 69 0 = nI 0 := by rw [m69 0 (by omega), ks.2.1 0 (by omega)]; rfl
  refine wp_b (r_layt (A := lsA A) hA1 hR1 fw (td := u') hE r1 r41 r7 (by rw [m69 8 (by omega)]; exact b4) hu (fun b hb => by rw [m2 79 (by omega), b5 b hb, (ha b hb).1]) (fun b hb => by rw [m2 80 (by omega), b6 b hb, (ha b hb).2])) ?_
  rintro M3 ⟨c1, c2, c3⟩
  refine wp_s ⟨c1, rl_fr.tr c2, Or.inr ⟨_, rfl, (c3 0 (by omega) (by omega)).trans r0, ?_⟩⟩
  show M3.1 69 39 = _
  rw [c3 39 (by omega) (by omega), m69 39 (by omega), b2]
theorem least_same {M : Mm} {A : Abs} {k : Nat} {v : Int32} (hk : k = 1 ∨ k = 2 ∨ k = 3) (hA : AOK A) (hC : CI Fnd M A) (hv : (A.n = 0 ∧ v = -1) ∨ (4 < A.n ∧ v = -1) ∨ (1 ≤ A.n ∧ A.n ≤ 4 ∧ A.s = 60 ∧ v = -2)) : f_X9_least (nI k) M = some (some v, M) ∧ ∀ M1, RI M1 A → f_X10_least (nI k) M1 = some (v, wi M1 69 0 (nI 0)) := by
  have hn := hA.n
  have hs := hA.s
  have nc : f_X9_needCountable (nI k) = some () := by
    unfold f_X9_needCountable
    rcases hk with rfl | rfl | rfl
    · exact if_pos rfl
    · rw [if_neg (by decide)]; exact if_pos rfl
    · rw [if_neg (by decide), if_neg (by decide)]; exact if_pos rfl
  constructor
  · unfold f_X9_least
    rw [nc, pz_lt1, pz_ts, hC.n, hC.s]
    rcases hv with ⟨h, rfl⟩ | ⟨h, rfl⟩ | ⟨h, h', h'', rfl⟩
    · rw [if_pos (by rw [h]; rfl)]
    · rw [if_neg (by rw [pz_eq0 (by omega)]; omega), if_neg (by rw [pz_4, pz_le (by omega) (by omega)]; omega)]
    · rw [if_neg (by rw [pz_eq0 (by omega)]; omega), if_pos (by rw [pz_4, pz_le (by omega) (by omega)]; omega), if_neg (by rw [pz_60, pz_lt (by omega) (by omega)]; omega)]
  · intro M1 hR
    have e1 : (wi M1 69 0 (0 : Int32)).1 69 1 = nI A.n := hR.n
    have e41 : (wi M1 69 0 (0 : Int32)).1 69 41 = nI A.s := hR.s
    unfold f_X10_least
    rw [pz_lt1, if_neg (by rw [pz_1, pz_lt (by omega) (by omega)]; omega), if_pos (by rw [pz_3, pz_le (by omega) (by omega)]; omega), e1, e41]
    rcases hv with ⟨h, rfl⟩ | ⟨h, rfl⟩ | ⟨h, h', h'', rfl⟩
    · rw [if_pos (by rw [h]; rfl)]; rfl
    · rw [if_neg (by rw [pz_eq0 (by omega)]; omega), if_neg (by rw [pz_4, pz_le (by omega) (by omega)]; omega)]; rfl
    · rw [if_neg (by rw [pz_eq0 (by omega)]; omega), if_pos (by rw [pz_4, pz_le (by omega) (by omega)]; omega), if_pos (by rw [pz_60, h''])]; rfl
theorem arm_21 {xs : Nat → Int32} {L n : Nat} {M : Mm} (hL : L ≤ 3584) (hn : n + 7 ≤ L) (hI : Inv Fnd M) : Nx Fnd n (f_arm_21 xs L (nI n) M) := by
  obtain ⟨A, hA, hC, hR⟩ := hI
  have hF := fok_fnd
  unfold f_arm_21 f_L_least
  rw [pz_1, pz_add, pz_rdX (by omega) hL]
  simp only [fun f : Int32 → Option (Option (Int32 × Mm)) => pz_rdX (f := f) (xs := xs) (L := L) (m := n + 1) (by omega) hL]
  generalize xs (n + 1) = a
  rw [← pz_1]
  have good : ∀ k, k = 1 ∨ k = 2 ∨ k = 3 → a = nI k → Nx Fnd n (bd2 (bd2 (f_X9_least a M) fun o_2 M_3 => tr1 o_2 (some ((1 : Int32), M_3)) fun r_4 => wrL 1 M_3 105 (0 : Int32) ((r_4).toInt64) fun M_5 => some ((0 : Int32), M_5)) fun r_371 M_372 => bd2 (f_X10_least a M_372) fun r_378 M_377 => if (f_X10_thrown M_377) = r_371 then (if r_371 = 0 then rdL 1 M_377 105 (0 : Int32) fun v_381 => if (lg_cmp v_381 ((r_378).toInt64)) = 0 then f_law_J1520 (nI n) M_377 () else none else f_law_J1520 (nI n) M_377 ()) else none) := by
    intro k hk ea
    subst ea
    by_cases hs : (A.n = 0 ∨ 4 < A.n) ∨ (1 ≤ A.n ∧ A.n ≤ 4 ∧ A.s = 60)
    · have hv : ∃ v : Int32, (A.n = 0 ∧ v = -1) ∨ (4 < A.n ∧ v = -1) ∨ (1 ≤ A.n ∧ A.n ≤ 4 ∧ A.s = 60 ∧ v = -2) := by
        rcases hs with (h | h) | ⟨h, h', h''⟩
        · exact ⟨-1, Or.inl ⟨h, rfl⟩⟩
        · exact ⟨-1, Or.inr (Or.inl ⟨h, rfl⟩)⟩
        · exact ⟨-2, Or.inr (Or.inr ⟨h, h', h'', rfl⟩)⟩
      obtain ⟨v, hv⟩ := hv
      obtain ⟨e1, e2⟩ := least_same hk hA hC hv
      exact arm_w hF Int32.toInt64 (some v) hA hR (lq_m hF _ (wp_e e1 ⟨rfl, hC, Fr.rf⟩)) (fun M1 h => by rw [e2 M1 h]; exact rq_val h _) (fun _ => rfl)
    · have hs60 := hA.s
      have h1 : 1 ≤ A.n := by omega
      have h4 : A.n ≤ 4 := by omega
      have hs' : A.s < 60 := by omega
      have hA1 := hA.ls hs'
      rcases hk with rfl | rfl | rfl
      · obtain ⟨rr, e, t, u, a, b, c1, c2, c3, c4, c5, c6⟩ := cl1 hA hC h1 h4 hs'
        have tl := List.mem_range.mp c1.mem
        have fb := fac_bd h4
        have p1 : PermN A.n (nib a) := (ord_perm (Nat.div_lt_of_lt_mul tl)).cg c2
        have p2 : PermN A.n (nib b) := (ord_perm (Nat.mod_lt t (show 0 < fac A.n by omega))).cg c3
        exact arm_w hF Int32.toInt64 (some (nI (gP A.n A.w A.h t u))) (hA1.prs h1 c1.1.1 p1 p2) hR (lq_m hF _ ⟨rr, e, c4, c5, c6⟩) (fun M1 h => rl1 hA h h1 h4 hs' c1 c2 c3) (fun _ => rfl)
      · obtain ⟨rr, e, r, u, a, b, c1, c2, c4, c5, c6⟩ := cl2 hA hC h1 h4 hs'
        have hE := (rE_ok h1 h4 (NR_mem h1 h4 c1.mem)).cg c2
        exact arm_w hF Int32.toInt64 (some (nI (gC A.n A.w A.h r u))) (hA1.cts h1 c1.1.1 hE) hR (lq_m hF _ ⟨rr, e, c4, c5, c6⟩) (fun M1 h => rl2 hA h h1 h4 hs' c1 c2) (fun _ => rfl)
      · obtain ⟨rr, e, t, u, a, b, c1, c2, c4, c5, c6⟩ := cl3 hA hC h1 h4 hs'
        obtain ⟨tl, tv'⟩ := VT_mem c1.mem
        have hE := (tE_ok h1 h4 tl tv').cg c2
        exact arm_w hF Int32.toInt64 (some (nI (gT A.n A.w A.h t u))) (hA1.trs c1.1.1 hE) hR (lq_m hF _ ⟨rr, e, c4, c5, c6⟩) (fun M1 h => rl3 hA h h1 h4 hs' c1 c2) (fun _ => rfl)
  rcases sw_of a (k := 3) (by omega) with ⟨j, hj, ea⟩ | ⟨q, q2⟩
  · by_cases j0 : j = 0
    · subst j0
      subst ea
      refine arm_w hF Int32.toInt64 none hA hR (lq_m hF _ ?_) (fun M1 h => ?_) (fun _ => rfl)
      · unfold f_X9_least f_X9_needCountable
        rw [if_neg (by decide), if_neg (by decide), if_neg (by decide), pz_lt1, pz_tn]
        exact wp_s ⟨rfl, hC, Fr.rf⟩
      · unfold f_X10_least f_X10_least_J15
        rw [pz_lt1, if_pos (by decide), pz_lt1]
        exact rq_fail h _
    · exact good j (by omega) ea
  · refine arm_w hF Int32.toInt64 none hA hR (lq_m hF _ ?_) (fun M1 h => ?_) (fun _ => rfl)
    · unfold f_X9_least f_X9_needCountable
      rw [if_neg (show ¬ a = 1 from q2 1 (by omega)), if_neg (show ¬ a = 2 from fun e => q2 2 (by omega) (e.trans pz_2)), if_neg (show ¬ a = 3 from fun e => q2 3 (by omega) (e.trans pz_3)), pz_lt1, pz_tn]
      exact wp_s ⟨rfl, hC, Fr.rf⟩
    · unfold f_X10_least f_X10_least_J15 f_X10_fail
      rw [pz_lt1]
      by_cases q1 : a < 1
      · rw [if_pos q1, pz_lt1, pz_lt1]
        exact rq_fail h _
      · rw [if_neg q1]
        have q3 : ¬ a ≤ 3 := by
          rcases q with q | q
          · exact absurd (Int32.lt_trans q (by decide)) q1
          · exact q.1
        rw [if_neg q3, pz_lt1, pz_lt1]
        exact rq_fail h _
