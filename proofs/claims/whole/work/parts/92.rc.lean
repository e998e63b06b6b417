/-! the reference searches cuts -/
theorem rcl_ok {M : Mm} {n tb u : Nat} {w h tk : Nat → Nat} {e : Ex} (y : SZ n tb w h) (x : RX M n tb w h) (hE : RowE n tk e) (o1 : IA M 78 (2 * n - 1) tk) (hu : u &&& tb = u) (h7 : M.1 69 7 = nI u) :
    Wp (f_rlay 2 M) (fun M2 => KU M M2 ∧ ∃ a b, f_X10_allWide M2 = some (nI a) ∧ f_X10_allHigh M2 = some (nI b) ∧ a * b = exw (swd w h u) (swd h w u) e * exh (swd w h u) (swd h w u) e) := by
  have hn : n ≤ 12 := by have := y.n4; omega
  have gb := ex_bd hn hE (y.sw u) (y.sh u)
  have gw := hE.gw (W := swd w h u) (H := swd h w u)
  unfold f_rlay
  rw [if_neg (by omega), if_pos rfl]
  refine wp_m (lc_ok hn y.n1 (y.u4 hu) y.w y.h hE x.n h7 x.w x.h o1) ?_
  rintro M' ⟨a1, a2, a3, a4, a5, a6⟩
  have gB : GB n u w h (fun c => exx (swd w h u) (swd h w u) c e) (fun c => exy (swd w h u) (swd h w u) c e) := ⟨hn, y.u4 hu, y.w, y.h, gb.2.2.1, gb.2.2.2.1⟩
  have rg : RG M' n u w h (fun c => exx (swd w h u) (swd h w u) c e) (fun c => exy (swd w h u) (swd h w u) c e) := ⟨by rw [a4 1 (by omega)]; exact x.n, by rw [a4 7 (by omega)]; exact h7, x.w.eq (a5 70 (by omega) (by omega) (by omega) (by omega)), x.h.eq (a5 71 (by omega) (by omega) (by omega) (by omega)), a1, a2⟩
  refine ⟨⟨⟨fun k h1 h2 => a5 k h1 (fun e => h2 (Or.inl e)) (fun e => h2 (Or.inr (Or.inl e))) (by unfold SLr at h2; omega), fun j h6 _ _ _ _ => a4 j h6, fun k hk => a6 k hk⟩, a4 39 (by omega), a4 40 (by omega)⟩, _, _, raw_ok gB rg, rah_ok gB rg, ?_⟩
  rw [gw.1, gw.2]
theorem nst_none {tk : Nat → Nat} {i : Nat} (h : nst tk i = none) : ∀ {j}, i ≤ j → nst tk j = none
  | 0, q => by have : i = 0 := by omega
               rw [← this]; exact h
  | j + 1, q => by
    by_cases e : i = j + 1
    · rw [← e]; exact h
    · show (nst tk j).bind _ = none
      rw [nst_none h (j := j) (by omega)]; rfl
theorem rin_ok {M : Mm} {n : Nat} {tk : Nat → Nat} {sf : Nat × Nat} (h1 : 1 ≤ n) (h4 : n ≤ 4) (r1 : M.1 69 1 = nI n) (o : IA M 83 (2 * n - 1) tk) (hb : ∀ i, i < 2 * n - 1 → tk i < 14) (hr : rst n tk (2 * n - 1) = some sf) :
    Wp (f_X10_isNormal M) (fun r => Fr (SB 93 93) M r.2 ∧ ((r.1 = nI 1 ∧ (nst tk (2 * n - 1)).isSome = true) ∨ (r.1 = nI 0 ∧ (nst tk (2 * n - 1)).isSome = false))) := by
  unfold f_X10_isNormal
  rw [pz_0]
  refine wp_b (P := fun x => (∃ N, x = .inl N ∧ Fr (SB 93 93) M N ∧ (nst tk (2 * n - 1)).isSome = true) ∨ (∃ N, x = .inr (nI 0, N) ∧ Fr (SB 93 93) M N ∧ (nst tk (2 * n - 1)).isSome = false)) ?_ ?_
  · refine wp_l (fun i (v : Int32 × Int32 × Mm) => ∃ s p st, rst n tk i = some (s, p) ∧ nst tk i = some (p, st) ∧ v.1 = nI p ∧ v.2.1 = nI i ∧ (∀ j, j < p → v.2.2.1 93 j = nI (st j)) ∧ p ≤ i ∧ (∀ j, st j < 14) ∧ Fr (SB 93 93) M v.2.2) (2 * n - 1) (fu_lt (by omega)) ?_ ?_ ⟨0, 0, fun _ => 0, rfl, rfl, rfl, rfl, fun j hj => by omega, Nat.le_refl _, fun _ => by show 0 < 14; omega, Fr.rf⟩
    · rintro i ⟨x1, x2, M1⟩ hi ⟨s, p, st, a1, a2, a3, a4, a5, a6, a7, a8⟩
      have a3 : x1 = nI p := a3
      have a4 : x2 = nI i := a4
      subst a3 a4
      have a5 : ∀ j, j < p → M1.1 93 j = nI (st j) := a5
      have a8 : Fr (SB 93 93) M M1 := a8
      have q : ∀ k, k ≠ 93 → M1.1 k = M.1 k := fun k hk => a8.1 k (fun h => by unfold SB at h; omega)
      have bi := hb i hi
      have rs := rst_s a1
      have ns : nst tk (i + 1) = if tk i < 12 then some (p + 1, fset st p 0) else if st (p - 1) = tk i then none else some (p - 1, fset st (p - 1 - 1) (tk i)) := by
        show (nst tk i).bind _ = _
        rw [a2]; rfl
      have J : ∀ (x : Nat) (N : Mm), f_X10_isNormal_J64 (nI i) (nI x) N = some (.inl (nI x, nI (i + 1), N)) := fun x N => by
        unfold f_X10_isNormal_J64; rw [pz_1, pz_add, pz_lt1]
      show Wp (f_X10_isNormal_L4 (nI p) (nI i) M1) _
      unfold f_X10_isNormal_L4
      have c1 : M1.1 69 1 = nI n := by rw [q 69 (by omega)]; exact r1
      rw [rs_eq c1 h1, if_neg (by rw [pz_le (by omega) (by omega)]; omega), pz_rd (by omega) (by omega), q 83 (by omega), o i hi, pz_12]
      have some1 : ∃ z, rst n tk (i + 1) = some z := by
        cases e : rst n tk (i + 1) with
        | none => rw [rst_none e (j := 2 * n - 1) (by omega)] at hr; cases hr
        | some z => exact ⟨z, rfl⟩
      obtain ⟨z, hz⟩ := some1
      by_cases zt : tk i < 12
      · rw [if_pos (by rw [pz_lt (by omega) (by omega)]; exact zt), pz_0, pz_wr (by omega) (by omega), pz_1, pz_add, pz_lt1, J]
        rw [if_pos zt] at ns
        have hz2 : z = (s ||| 2 ^ tk i, p + 1) := by
          rw [rs] at hz
          by_cases w1 : tk i < n ∧ s.testBit (tk i) = false
          · rw [if_pos w1] at hz; exact (Option.some.inj hz).symm
          · rw [if_neg w1, if_neg (by omega)] at hz; cases hz
        refine wp_s (Or.inl ⟨_, rfl, s ||| 2 ^ tk i, p + 1, fset st p 0, by rw [hz, hz2], ns, rfl, rfl, fun j hj => ?_, by omega, fun j => ?_, a8.w ⟨Nat.le_refl _, Nat.le_refl _⟩⟩)
        · show (wi M1 93 p (nI 0)).1 93 j = nI (fset st p 0 j)
          rw [wi_at]
          by_cases e : j = p
          · rw [if_pos e, e, fset_eq]
          · rw [if_neg e, fset_ne e]; exact a5 j (by omega)
        · unfold fset
          split
          · omega
          · exact a7 j
      · rw [if_neg (by rw [pz_lt (by omega) (by omega)]; exact zt)]
        rw [if_neg zt] at ns
        have hp2 : 1 < p ∧ z = (s, p - 1) := by
          rw [rs, if_neg (by omega)] at hz
          by_cases w1 : (tk i = 12 ∨ tk i = 13) ∧ 1 < p
          · rw [if_pos w1] at hz; exact ⟨w1.2, (Option.some.inj hz).symm⟩
          · rw [if_neg w1] at hz; cases hz
        have b7 := a7 (p - 1)
        rw [pz_n1, pz_1, pz_sub (by omega), pz_rd (by omega) (by omega), a5 (p - 1) (by omega)]
        by_cases zs : st (p - 1) = tk i
        · rw [if_pos (by rw [zs])]
          rw [if_pos zs] at ns
          refine wp_s (Or.inr ⟨_, rfl, Or.inr ⟨M1, by rw [pz_0], a8, ?_⟩⟩)
          rw [nst_none ns (j := 2 * n - 1) (by omega)]; rfl
        · rw [if_neg (by rw [pz_eq (by omega) (by omega)]; exact zs), pz_dec (by omega), pz_lt1, pz_sub (by omega), pz_wr (by omega) (by omega), J]
          rw [if_neg zs] at ns
          refine wp_s (Or.inl ⟨_, rfl, s, p - 1, fset st (p - 1 - 1) (tk i), by rw [hz, hp2.2], ns, rfl, rfl, fun j hj => ?_, by omega, fun j => ?_, a8.w ⟨Nat.le_refl _, Nat.le_refl _⟩⟩)
          · show (wi M1 93 (p - 1 - 1) (nI (tk i))).1 93 j = nI (fset st (p - 1 - 1) (tk i) j)
            rw [wi_at]
            by_cases e : j = p - 1 - 1
            · rw [if_pos e, e, fset_eq]
            · rw [if_neg e, fset_ne e]; exact a5 j (by omega)
          · unfold fset
            split
            · exact bi
            · exact a7 j
    · rintro ⟨x1, x2, M1⟩ ⟨s, p, st, a1, a2, a3, a4, a5, a6, a7, a8⟩
      have a4 : x2 = nI (2 * n - 1) := a4
      subst a4
      have a8 : Fr (SB 93 93) M M1 := a8
      show Wp (f_X10_isNormal_L4 x1 (nI (2 * n - 1)) M1) _
      unfold f_X10_isNormal_L4
      have c1 : M1.1 69 1 = nI n := by rw [a8.1 69 (fun h => by unfold SB at h; omega)]; exact r1
      rw [rs_eq c1 h1, if_pos ((nI_leI (by omega) (by omega)).mpr (Nat.le_refl _))]
      exact wp_s ⟨_, rfl, Or.inl ⟨M1, rfl, a8, by rw [a2]; rfl⟩⟩
  · rintro x (⟨N, rfl, a1, a2⟩ | ⟨N, rfl, a1, a2⟩)
    · exact wp_s ⟨a1, Or.inl ⟨pz_1, a2⟩⟩
    · exact wp_s ⟨a1, Or.inr ⟨rfl, a2⟩⟩
def RDC (n : Nat) (M : Mm) (r : List Nat) (u : Nat) : Prop := M.1 69 40 = nI u ∧ IA M 98 (2 * n - 1) (rowF r)
theorem RDC.eq {n : Nat} {M M' : Mm} {r : List Nat} {u : Nat} (h : RDC n M r u) (e : M'.1 69 40 = M.1 69 40) (e1 : M'.1 98 = M.1 98) : RDC n M' r u := ⟨by rw [e]; exact h.1, h.2.eq e1⟩
def REI (M0 : Mm) (n tb : Nat) (w h : Nat → Nat) (pre : List Nat) (M : Mm) : Prop :=
  (RX M n tb w h) ∧
  (∀ j, j < pre.length → M.1 83 j = nI (rowF pre j)) ∧
  (KS M0 M)
theorem REI.x {M0 : Mm} {n tb : Nat} {w h : Nat → Nat} {pre : List Nat} {M : Mm} (hh_ : REI M0 n tb w h pre M) : RX M n tb w h := hh_.1
theorem REI.tk {M0 : Mm} {n tb : Nat} {w h : Nat → Nat} {pre : List Nat} {M : Mm} (hh_ : REI M0 n tb w h pre M) : ∀ j, j < pre.length → M.1 83 j = nI (rowF pre j) := hh_.2.1
theorem REI.ks {M0 : Mm} {n tb : Nat} {w h : Nat → Nat} {pre : List Nat} {M : Mm} (hh_ : REI M0 n tb w h pre M) : KS M0 M := hh_.2.2
theorem REI.cut {M0 : Mm} {n tb : Nat} {w h : Nat → Nat} {pre : List Nat} {t : Nat} {M : Mm} (p : REI M0 n tb w h (pre ++ [t]) M) : REI M0 n tb w h pre M :=
  ⟨p.x, fun j hj => by rw [p.tk j (by rw [len_1]; omega), rowF_l hj], p.ks⟩
theorem REI.ext {M0 : Mm} {n tb : Nat} {w h : Nat → Nat} {pre : List Nat} {M : Mm} (p : REI M0 n tb w h pre M) (t : Nat) : REI M0 n tb w h (pre ++ [t]) (wi M 83 pre.length (nI t)) := by
  refine ⟨(KS.rf.w (Or.inl ⟨by omega, by omega⟩)).rx p.x, fun j hj => ?_, p.ks.w (Or.inl ⟨by omega, by omega⟩)⟩
  rw [len_1] at hj
  rw [wi_at]
  by_cases e : j = pre.length
  · rw [if_pos e, e, rowF_r]
  · rw [if_neg e, rowF_l (by omega)]; exact p.tk j (by omega)
theorem rc_c1 {M : Mm} {n : Nat} {tk : Nat → Nat} (h1 : 1 ≤ n) (h4 : n ≤ 4) (r1 : M.1 69 1 = nI n) (o : IA M 83 (2 * n - 1) tk) : Wp (loop (fun v => f_X10_tryRows_L38 v.1 v.2) FU (nI 0, M)) (fun M' => IA M' 78 (2 * n - 1) tk ∧ Fr (SB 78 78) M M') := by
  refine wp_for (step := fun v => f_X10_tryRows_L38 v.1 v.2) (fun i M' => IA M' 78 i tk ∧ Fr (SB 78 78) M M') (2 * n - 1) (by omega) ?_ ?_ ⟨IA.nil, Fr.rf⟩
  · rintro i M1 hi ⟨a1, a2⟩
    have q : ∀ k, k ≠ 78 → M1.1 k = M.1 k := fun k hk => a2.1 k (fun h => by unfold SB at h; omega)
    show Wp (f_X10_tryRows_L38 (nI i) M1) _
    unfold f_X10_tryRows_L38
    rw [rs_eq (by rw [q 69 (by omega)]; exact r1) h1, if_neg (by rw [pz_le (by omega) (by omega)]; omega), pz_rd (by omega) (by omega), q 83 (by omega), o i hi, pz_wr (by omega) (by omega), pz_lt1, pz_1, pz_add]
    exact wp_s ⟨_, rfl, a1.snoc rfl, a2.w ⟨Nat.le_refl _, Nat.le_refl _⟩⟩
  · rintro M1 ⟨a1, a2⟩
    show f_X10_tryRows_L38 (nI (2 * n - 1)) M1 = _
    unfold f_X10_tryRows_L38
    rw [rs_eq (by rw [a2.1 69 (fun h => by unfold SB at h; omega)]; exact r1) h1, if_pos ((nI_leI (by omega) (by omega)).mpr (Nat.le_refl _))]
theorem rc_c2 {M : Mm} {n : Nat} {tk : Nat → Nat} (h1 : 1 ≤ n) (h4 : n ≤ 4) (r1 : M.1 69 1 = nI n) (o : IA M 78 (2 * n - 1) tk) : Wp (loop (fun v => f_X10_tryRows_L78 v.1 v.2) FU (nI 0, M)) (fun M' => IA M' 98 (2 * n - 1) tk ∧ Fr (SB 98 98) M M') := by
  refine wp_for (step := fun v => f_X10_tryRows_L78 v.1 v.2) (fun i M' => IA M' 98 i tk ∧ Fr (SB 98 98) M M') (2 * n - 1) (by omega) ?_ ?_ ⟨IA.nil, Fr.rf⟩
  · rintro i M1 hi ⟨a1, a2⟩
    have q : ∀ k, k ≠ 98 → M1.1 k = M.1 k := fun k hk => a2.1 k (fun h => by unfold SB at h; omega)
    show Wp (f_X10_tryRows_L78 (nI i) M1) _
    unfold f_X10_tryRows_L78
    rw [rs_eq (by rw [q 69 (by omega)]; exact r1) h1, if_neg (by rw [pz_le (by omega) (by omega)]; omega), pz_rd (by omega) (by omega), q 78 (by omega), o i hi, pz_wr (by omega) (by omega), pz_lt1, pz_1, pz_add]
    exact wp_s ⟨_, rfl, a1.snoc rfl, a2.w ⟨Nat.le_refl _, Nat.le_refl _⟩⟩
  · rintro M1 ⟨a1, a2⟩
    show f_X10_tryRows_L78 (nI (2 * n - 1)) M1 = _
    unfold f_X10_tryRows_L78
    rw [rs_eq (by rw [a2.1 69 (fun h => by unfold SB at h; omega)]; exact r1) h1, if_pos ((nI_leI (by omega) (by omega)).mpr (Nat.le_refl _))]
theorem rc_c3 {M : Mm} {n : Nat} {tk : Nat → Nat} (h1 : 1 ≤ n) (h4 : n ≤ 4) (r1 : M.1 69 1 = nI n) (o : IA M 98 (2 * n - 1) tk) : Wp (loop (fun v => f_X10_least_L90 v.1 v.2) FU (nI 0, M)) (fun M' => IA M' 78 (2 * n - 1) tk ∧ Fr (SB 78 78) M M') := by
  refine wp_for (step := fun v => f_X10_least_L90 v.1 v.2) (fun i M' => IA M' 78 i tk ∧ Fr (SB 78 78) M M') (2 * n - 1) (by omega) ?_ ?_ ⟨IA.nil, Fr.rf⟩
  · rintro i M1 hi ⟨a1, a2⟩
    have q : ∀ k, k ≠ 78 → M1.1 k = M.1 k := fun k hk => a2.1 k (fun h => by unfold SB at h; omega)
    show Wp (f_X10_least_L90 (nI i) M1) _
    unfold f_X10_least_L90
    rw [rs_eq (by rw [q 69 (by omega)]; exact r1) h1, if_neg (by rw [pz_le (by omega) (by omega)]; omega), pz_rd (by omega) (by omega), q 98 (by omega), o i hi, pz_wr (by omega) (by omega), pz_lt1, pz_1, pz_add]
    exact wp_s ⟨_, rfl, a1.snoc rfl, a2.w ⟨Nat.le_refl _, Nat.le_refl _⟩⟩
  · rintro M1 ⟨a1, a2⟩
    show f_X10_least_L90 (nI (2 * n - 1)) M1 = _
    unfold f_X10_least_L90
    rw [rs_eq (by rw [a2.1 69 (fun h => by unfold SB at h; omega)]; exact r1) h1, if_pos ((nI_leI (by omega) (by omega)).mpr (Nat.le_refl _))]
theorem rlf_ok {M0 : Mm} {n tb : Nat} {w h : Nat → Nat} {pre : List Nat} {V : List (List Nat)} {M : Mm} (y : SZ n tb w h) (p : REI M0 n tb w h pre M) (hp : pre ∈ NA n) (cs : RF (gC n w h) tb (RDC n) V M) :
    Wp (bd2 (f_X10_isNormal M) fun r_28 M_27 => if r_28 = 0 then some M_27 else (loop (fun v => f_X10_tryRows_L38 v.1 v.2) FU (nI 0, M_27)).bind fun z => f_X10_tryRows_A38 z) (fun M' => REI M0 n tb w h pre M' ∧ RF (gC n w h) tb (RDC n) (V ++ [pre].filter (nrmB n)) M') := by
  have h1 := y.n1
  have h4 := y.n4
  have ok := NA_ok h1 h4 hp
  have hE := rE_ok h1 h4 hp
  have gbd : ∀ u, gC n w h pre u < 2147483647 := fun u => (ex_bd (by omega) hE (y.sw u) (y.sh u)).2.2.2.2
  have o83 : IA M 83 (2 * n - 1) (rowF pre) := fun j hj => p.tk j (by rw [ok.1]; exact hj)
  refine wp_b2 (rin_ok h1 h4 p.x.n o83 ok.2.2.1 ok.2.1) ?_
  rintro r M1 ⟨fr, hr⟩
  have fr : Fr (SB 93 93) M M1 := fr
  have q : ∀ k, k ≠ 93 → M1.1 k = M.1 k := fun k hk => fr.1 k (fun h => by unfold SB at h; omega)
  have ks1 : KS M M1 := KS.sb fr (by omega) (by omega)
  have p1 : REI M0 n tb w h pre M1 := ⟨ks1.rx p.x, fun j hj => by rw [q 83 (by omega)]; exact p.tk j hj, p.ks.tr ks1⟩
  have cs1 : RF (gC n w h) tb (RDC n) V M1 := cs.eq (by rw [q 69 (by omega)]) (fun t u d => d.eq (by rw [q 69 (by omega)]) (q 98 (by omega)))
  rcases hr with ⟨r1, hn⟩ | ⟨r0, hn⟩
  · have r1 : r = nI 1 := r1
    rw [r1, pz_0, if_neg (by decide), List.filter_cons_of_pos (show nrmB n pre = true from hn), List.filter_nil]
    refine wp_b (rc_c1 h1 h4 p1.x.n (o83.eq (q 83 (by omega)))) ?_
    rintro M2 ⟨a1, a2⟩
    have q2 : ∀ k, k ≠ 78 → M2.1 k = M1.1 k := fun k hk => a2.1 k (fun h => by unfold SB at h; omega)
    have ks2 : KS M1 M2 := KS.sb a2 (by omega) (by omega)
    have x2 := ks2.rx p1.x
    obtain ⟨G, g1, g2⟩ := cs1.eq (M' := M2) (by rw [q2 69 (by omega)]) (fun t u d => d.eq (by rw [q2 69 (by omega)]) (q2 98 (by omega)))
    unfold f_X10_tryRows_A38
    rw [pz_2]
    refine wp_b2 (tt_ok (kk := 2) (n := n) (tb := tb) (G := G) (f := gC n w h pre) (Or.inr (Or.inl rfl)) (by omega) y.tb x2.n x2.tb g1 gbd (fun M3 u hu K h7 => rcl_ok y ((KS.kt K).rx x2) hE (a1.eq (K.1 78 (by omega) (by unfold SLr; omega))) hu h7)) ?_
    rintro r M3 ⟨K, ⟨r0, b1, b2, b3⟩ | ⟨r1, u, b1, b2, b3, b4⟩⟩
    · have r0 : r = nI 0 := r0
      have K : KT M2 M3 := K
      rw [r0, pz_0, if_pos rfl]
      refine wp_s ⟨⟨(KS.kt K).rx x2, fun j hj => ?_, (p1.ks.tr ks2).tr (KS.kt K)⟩, RF.tt g2 g1 (gbd 0) b1 b2 (fun s u d => d.eq b3 (K.1 98 (by omega) (by unfold SLr; omega)))⟩
      rw [K.1 83 (by omega) (by unfold SLr; omega), q2 83 (by omega)]; exact p1.tk j hj
    · have r1 : r = nI 1 := r1
      have K : KT M2 M3 := K
      have b3 : M3.1 69 39 = nI (gC n w h pre u) := b3
      have b4 : M3.1 69 40 = nI u := b4
      have x3 := (KS.kt K).rx x2
      rw [r1, pz_0, if_neg (by decide)]
      refine wp_b (rc_c2 h1 h4 x3.n (a1.eq (K.1 78 (by omega) (by unfold SLr; omega)))) ?_
      rintro M4 ⟨c1, c2⟩
      have q4 : ∀ k, k ≠ 98 → M4.1 k = M3.1 k := fun k hk => c2.1 k (fun h => by unfold SB at h; omega)
      have ks4 : KS M3 M4 := KS.sb c2 (by omega) (by omega)
      refine wp_s ⟨⟨ks4.rx x3, fun j hj => ?_, ((p1.ks.tr ks2).tr (KS.kt K)).tr ks4⟩, gC n w h pre u, Or.inr ⟨by rw [q4 69 (by omega)]; exact b3, gbd u⟩, g2.nw b1 b2 ⟨by rw [q4 69 (by omega)]; exact b4, c1⟩⟩
      rw [q4 83 (by omega), K.1 83 (by omega) (by unfold SLr; omega), q2 83 (by omega)]; exact p1.tk j hj
  · have r0 : r = nI 0 := r0
    rw [r0, pz_0, if_pos rfl, List.filter_cons_of_neg (show ¬ nrmB n pre = true from fun e => by rw [show nrmB n pre = false from hn] at e; cases e), List.filter_nil, List.append_nil]
    exact wp_s ⟨p1, cs1⟩
