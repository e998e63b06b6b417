/-! the class's least -/
theorem prep_ok {M : Mm} {A : Abs} {kf : Nat} (hA : AOK A) (h4 : A.n ≤ 4) (hk : 65 ≤ kf ∧ kf < 69) (n3 : M.1 1 3 = nI A.n) (t2 : M.1 1 2 = nI A.tb) (ew : IA M 2 A.n A.w) (eh : IA M 3 A.n A.h) (h7 : M.1 34 7 = nI kf) : Wp (f_X7_prepare M) (fun M' => SX M' A.n A.tb (cbt A.w A.h A.tb A.n) (bar A.w A.h A.n) kf A.w A.h ∧ M'.1 kf 0 = nI 2147483647 ∧ Fr (SSr kf) M M') := by
  have hn := hA.n
  unfold f_X7_prepare
  rw [n3, pz_4, pz_min (by omega) (by omega), show min A.n 4 = A.n by omega, pz_lt1]
  have c1 : f_X0_changedByTurning (wi M 34 8 (nI A.n)) = some (nI (cbt A.w A.h A.tb A.n)) := cbt_ok hn hA.tb n3 t2 (ew.eq rfl) (eh.eq rfl) hA.w hA.h
  rw [c1, pz_bd, pz_lt1]
  have c2 : f_X0_area (wi (wi M 34 8 (nI A.n)) 34 9 (nI (cbt A.w A.h A.tb A.n))) = some (nI (bar A.w A.h A.n)) := barea_ok n3 hn (ew.eq rfl) (eh.eq rfl)
  rw [c2, pz_bd, pz_lt1]
  generalize hM2 : wi (wi (wi M 34 8 (nI A.n)) 34 9 (nI (cbt A.w A.h A.tb A.n))) 34 10 (nI (bar A.w A.h A.n)) = M2
  have m2 : ∀ k, k ≠ 34 → M2.1 k = M.1 k := fun k hk => by rw [← hM2, wi_n _ _ _ hk, wi_n _ _ _ hk, wi_n _ _ _ hk]
  have s7 : M2.1 34 7 = nI kf := by rw [← hM2]; exact h7
  have s8 : M2.1 34 8 = nI A.n := by rw [← hM2]; rfl
  have s9 : M2.1 34 9 = nI (cbt A.w A.h A.tb A.n) := by rw [← hM2]; rfl
  have s10 : M2.1 34 10 = nI (bar A.w A.h A.n) := by rw [← hM2]; rfl
  have fr2 : Fr (SSr kf) M M2 := by
    rw [← hM2]
    exact ((Fr.rf.w (Or.inl ⟨by omega, by omega⟩)).w (Or.inl ⟨by omega, by omega⟩)).w (Or.inl ⟨by omega, by omega⟩)
  have h7' : (M2.1 34 7).toNatClampNeg = kf := by rw [s7, pz_cl (by omega)]
  rw [h7', pz_lt1, pz_gd hk, pz_lt1, pz_B]
  have x2 : SX M2 A.n A.tb (cbt A.w A.h A.tb A.n) (bar A.w A.h A.n) kf A.w A.h := ⟨by rw [m2 1 (by omega)]; exact n3, by rw [m2 1 (by omega)]; exact t2, ew.eq (m2 2 (by omega)), eh.eq (m2 3 (by omega)), s7, s8, s9, s10⟩
  exact wp_s ⟨x2.eq (fun k hk' => wi_n _ _ _ (by omega)), by rw [wi_at, if_pos rfl], fr2.w (Or.inr rfl)⟩
theorem fnd_ok {M : Mm} {A : Abs} {k : Nat} (hk : k = 1 ∨ k = 2 ∨ k = 3) (hA : AOK A) (hC : CI Fnd M A) (h1 : 1 ≤ A.n) (h4 : A.n ≤ 4) : Wp (f_X7_find (nI k) M) (fun r => r.1 = 65 + k ∧ Fr (SSr (65 + k)) M r.2 ∧ Fnd A k r.2) := by
  have hkf : 65 ≤ 65 + k ∧ 65 + k < 69 := by omega
  have y := hA.sy h1 h4 hkf
  unfold f_X7_find
  rw [pz_1, if_neg (by rw [pz_lt (by omega) (by omega)]; omega), pz_3, if_neg (by rw [pz_lt (by omega) (by omega)]; omega)]
  unfold f_X7_find_J20
  rw [pz_gd (nI_in (show k < 4 by omega) (by omega)), pz_cl (by omega), pz_lt1]
  show Wp (lt1 (wi M 34 7 (nI (65 + k))) _) _
  rw [pz_lt1]
  generalize hM1 : wi M 34 7 (nI (65 + k)) = M1
  have m1' : ∀ j, j ≠ 34 → M1.1 j = M.1 j := fun j hj => by rw [← hM1]; exact wi_n _ _ _ hj
  have s7 : M1.1 34 7 = nI (65 + k) := by rw [← hM1, wi_at, if_pos rfl]
  have h7 : (M1.1 34 7).toNatClampNeg = 65 + k := by rw [s7, pz_cl (by omega)]
  have fr1 : Fr (SSr (65 + k)) M M1 := by rw [← hM1]; exact Fr.rf.w (Or.inl ⟨by omega, by omega⟩)
  have m2' : M1.2 = M.2 := by rw [← hM1]; rfl
  rw [h7, pz_lt1, pz_gd hkf, m1' (65 + k) (by omega)]
  have J : ∀ N : Mm, N.1 34 7 = nI (65 + k) → Fr (SSr (65 + k)) M N → Fnd A k N → Wp (f_X7_find_J66 N) (fun r => r.1 = 65 + k ∧ Fr (SSr (65 + k)) M r.2 ∧ Fnd A k r.2) := by
    intro N n7 n1 n2
    unfold f_X7_find_J66
    rw [show (N.1 34 7).toNatClampNeg = 65 + k by rw [n7, pz_cl (by omega)], pz_lt1, pz_gd hkf]
    exact wp_s ⟨rfl, n1, n2⟩
  by_cases z : M.1 (65 + k) 0 = 0
  · rw [if_pos z]
    refine wp_b (prep_ok hA h4 hkf (by rw [m1' 1 (by omega)]; exact hC.n) (by rw [m1' 1 (by omega)]; exact hC.tb) (hC.w.eq (m1' 2 (by omega))) (hC.h.eq (m1' 3 (by omega))) s7) ?_
    rintro M2 ⟨x2, g2, f2⟩
    rw [pz_2]
    rcases hk with rfl | rfl | rfl
    · rw [if_neg (by decide), if_neg (by decide)]
      refine wp_b (sps_ok y x2 g2) ?_
      rintro M3 ⟨f3, s3, G, g1, g3, g4⟩
      have fb := fac_bd h4
      have hne : List.range (fac A.n * fac A.n) ≠ [] := fun e => by
        have := congrArg List.length e
        rw [List.length_range] at this
        have : 1 * 1 ≤ fac A.n * fac A.n := Nat.mul_le_mul fb.1 fb.1
        simp only [List.length_nil] at *
        omega
      obtain ⟨t, u, b1, b2, b3⟩ := g4.get hne
      exact J M3 s3 ((fr1.tr f2).tr f3) ⟨h1, h4, Or.inl ⟨rfl, t, u, b1, by rw [← b2]; exact g1, b3⟩⟩
    · rw [if_pos rfl]
      refine wp_b (scs_ok y x2 g2) ?_
      rintro M3 ⟨f3, s3, r, u, b1, b2, b3, b4⟩
      exact J M3 s3 ((fr1.tr f2).tr f3) ⟨h1, h4, Or.inr (Or.inl ⟨rfl, r, u, b1, b2, b3, b4⟩)⟩
    · rw [if_neg (by decide), if_pos (show nI 3 = 3 from by decide)]
      refine wp_b (sts_ok y x2 g2) ?_
      rintro M3 ⟨f3, s3, G, g1, g3, g4⟩
      obtain ⟨t, u, b1, b2, b3⟩ := g4.get (VT_ne h1 h4)
      exact J M3 s3 ((fr1.tr f2).tr f3) ⟨h1, h4, Or.inr (Or.inr ⟨rfl, t, u, b1, by rw [← b2]; exact g1, b3⟩)⟩
  · rw [if_neg z]
    refine J M1 s7 fr1 ?_
    rcases hC.fn k (by omega) with e | e
    · exact absurd e z
    · exact fok_fnd A A k M M1 (by omega) e rfl rfl rfl rfl (m1' _ (by omega)) (by rw [m2'])
theorem CI.fd {M M' : Mm} {A : Abs} {k : Nat} (hC : CI Fnd M A) (hk : k < 4) (fr : Fr (SSr (65 + k)) M M') (hf : Fnd A k M') : CI Fnd M' A := by
  have q : ∀ j, j < 34 → M'.1 j = M.1 j := fun j hj => fr.1 j (fun h => by unfold SSr at h; omega)
  refine ⟨?_, ?_, ?_, ?_, hC.w.eq (q 2 (by omega)), hC.h.eq (q 3 (by omega)), hC.nt.eq (q 4 (by omega)), fun h => ?_, fun h => ?_, fun h => ?_, fun h => ?_, fun j hj => ?_⟩
  · rw [q 0 (by omega)]; exact hC.kd
  · rw [q 0 (by omega)]; exact hC.s
  · rw [q 1 (by omega)]; exact hC.n
  · rw [q 1 (by omega)]; exact hC.tb
  · obtain ⟨a, b, c, d, e, f⟩ := hC.gd h
    rw [q 5 (by omega)]; exact ⟨a, b, c.eq (q 6 (by omega)), d.eq (q 7 (by omega)), e.eq (q 8 (by omega)), f.eq (q 9 (by omega))⟩
  · obtain ⟨a, b, c, d⟩ := hC.k1 h
    rw [q 11 (by omega), q 14 (by omega)]; exact ⟨a, b.eq (q 12 (by omega)), c.eq (q 13 (by omega)), d⟩
  · obtain ⟨a, b⟩ := hC.k2 h
    rw [q 17 (by omega)]; exact ⟨a, b.eq (q 18 (by omega))⟩
  · obtain ⟨a, b, c, d⟩ := hC.k3 h
    rw [q 23 (by omega)]; exact ⟨a, b, c.eq (q 24 (by omega)), d.eq (q 25 (by omega))⟩
  · by_cases e : j = k
    · subst e; exact Or.inr hf
    · have e1 : M'.1 (65 + j) = M.1 (65 + j) := fr.1 _ (fun h => by unfold SSr at h; omega)
      have e2 : M'.2 (65 + j) = M.2 (65 + j) := fr.2 _ (fun h => by unfold SSr at h; omega)
      rcases hC.fn j hj with h | h
      · exact Or.inl (by rw [e1]; exact h)
      · exact Or.inr (fok_fnd A A j M M' hj h rfl rfl rfl rfl e1 e2)
def lsA (A : Abs) : Abs := mkA A.n A.tb A.td (A.s + 1) A.ro A.kd A.w A.h A.nt A.x A.y A.one A.two A.tk A.lf A.rt
theorem AOK.ls {A : Abs} (h : AOK A) (hs : A.s < 60) : AOK (lsA A) := ⟨h.n, h.w, h.h, h.tb, h.nt, by show A.s + 1 ≤ 60; omega, h.kd, h.ly, h.k1, h.k2, h.k3⟩
theorem CI.ls {F : Abs → Nat → Mm → Prop} (hF : FOK F) {M : Mm} {A : Abs} (h : CI F M A) : CI F (wi M 0 9 (nI (A.s + 1))) (lsA A) := by
  refine ⟨h.kd, rfl, h.n, h.tb, h.w.eq rfl, h.h.eq rfl, h.nt.eq rfl, h.gd, h.k1, h.k2, h.k3, fun k hk => ?_⟩
  have e : (wi M 0 9 (nI (A.s + 1))).1 (65 + k) = M.1 (65 + k) := wi_n _ _ _ (by omega)
  rw [e]
  rcases h.fn k hk with q | q
  · exact Or.inl q
  · exact Or.inr (hF A (lsA A) k M _ hk q rfl rfl rfl rfl e rfl)
theorem ssr_sc {kf k : Nat} (hk : 65 ≤ kf ∧ kf < 69) (h : SSr kf k) : SC k := by unfold SSr at h; unfold SC; omega
theorem cl_pre {M : Mm} {A : Abs} {k : Nat} (hk : k = 1 ∨ k = 2 ∨ k = 3) (hA : AOK A) (hC : CI Fnd M A) (h1 : 1 ≤ A.n) (h4 : A.n ≤ 4) (hs : A.s < 60) {Q : Option Int32 × Mm → Prop} (hQ : ∀ M9, CI Fnd M9 (lsA A) → Fnd (lsA A) k M9 → Fr SC M M9 → Wp ((f_X9_layFound (nI k) (65 + k) M9).bind fun M_12 => some ((some (M_12.1 (65 + k) 0)), M_12)) Q) : Wp (f_X9_least (nI k) M) Q := by
  have nc : f_X9_needCountable (nI k) = some () := by
    unfold f_X9_needCountable
    rcases hk with rfl | rfl | rfl
    · exact if_pos rfl
    · rw [if_neg (by decide)]; exact if_pos rfl
    · rw [if_neg (by decide), if_neg (by decide)]; exact if_pos rfl
  unfold f_X9_least
  rw [nc, pz_lt1, pz_ts, hC.n, pz_0, if_neg (by rw [pz_eq (by omega) (by omega)]; omega), pz_4, if_pos (by rw [pz_le (by omega) (by omega)]; exact h4), hC.s, pz_60, if_pos (by rw [pz_lt (by omega) (by omega)]; exact hs), pz_1, pz_add, pz_lt1]
  have hC1 := hC.ls fok_fnd
  refine wp_b2 (fnd_ok hk (hA.ls hs) hC1 h1 h4) ?_
  rintro r M9 ⟨a1, a2, a3⟩
  have a1 : r = 65 + k := a1
  subst a1
  have a2 : Fr (SSr (65 + k)) (wi M 0 9 (nI (A.s + 1))) M9 := a2
  have a3 : Fnd (lsA A) k M9 := a3
  rw [pz_gd (show 65 ≤ 65 + k ∧ 65 + k < 69 by omega)]
  exact hQ M9 (hC1.fd (by omega) a2 a3) a3 ((Fr.rf.w (show SC 0 by unfold SC; omega)).tr (a2.mono (fun j h => ssr_sc (by omega) h)))
theorem pk_nib {n : Nat} {a : Nat → Nat} {v : Int64} (hn : n ≤ 12) (h : P64 v (pk n a)) (ha : ∀ i, i < n → a i < 16) : ∀ i, i < n → nib v i = a i := fun i hi => by
  have e : pk n a i = a i := if_pos hi
  rw [h.nib (by omega) (by rw [e]; exact ha i hi), e]
theorem cl1 {M : Mm} {A : Abs} (hA : AOK A) (hC : CI Fnd M A) (h1 : 1 ≤ A.n) (h4 : A.n ≤ 4) (hs : A.s < 60) : Wp (f_X9_least (nI 1) M) (fun r => ∃ t u, ∃ a b : Int64, Bst (gP A.n A.w A.h) A.tb (List.range (fac A.n * fac A.n)) t u ∧ (∀ i, i < A.n → nib a i = ordN A.n (t / fac A.n) i) ∧ (∀ i, i < A.n → nib b i = ordN A.n (t % fac A.n) i) ∧ r.1 = some (nI (gP A.n A.w A.h t u)) ∧ CI Fnd r.2 (prS (lsA A) u (nib a) (nib b)) ∧ Fr SC M r.2) := by
  refine cl_pre (Or.inl rfl) hA hC h1 h4 hs ?_
  intro M9 c9 f9 fr9
  have hA1 := hA.ls hs
  have fb := fac_bd h4
  obtain ⟨_, _, ⟨_, t, u, b1, b2, b3⟩ | ⟨q, _⟩ | ⟨q, _⟩⟩ := f9
  · have b1 : Bst (gP A.n A.w A.h) A.tb (List.range (fac A.n * fac A.n)) t u := b1
    have b2 : M9.1 66 0 = nI (gP A.n A.w A.h t u) := b2
    have b3 : DP A.n 66 M9 t u := b3
    have tl := List.mem_range.mp b1.mem
    have o1 : t / fac A.n < fac A.n := Nat.div_lt_of_lt_mul tl
    have o2 : t % fac A.n < fac A.n := Nat.mod_lt _ (by omega)
    have n1 := pk_nib (n := A.n) (by omega) b3.2.1 (fun i hi => by have := ord12 h4 o1 i hi; omega)
    have n2 := pk_nib (n := A.n) (by omega) b3.2.2 (fun i hi => by have := ord12 h4 o2 i hi; omega)
    have p1 : PermN A.n (nib (M9.2 66 2)) := (ord_perm o1).cg n1
    have p2 : PermN A.n (nib (M9.2 66 3)) := (ord_perm o2).cg n2
    have hu := b1.1.1
    unfold f_X9_layFound
    rw [pz_1, if_pos rfl, b3.1]
    have cp := wp_an ((c_pair fok_fnd hA1 c9 (M9.2 66 2) (M9.2 66 3) (nI u)).2 (by show A.n ≠ 0; omega) p1 p2) (pair_fr hA1 c9 (M9.2 66 2) (M9.2 66 3) (nI u) (by show A.n ≠ 0; omega) p1 p2)
    obtain ⟨⟨r, M10⟩, e, ⟨_, d2, d3⟩, d4⟩ := cp
    have d4 : Fr (SB 0 33) M9 M10 := d4
    rw [e, pz_bd2, pz_bd]
    have em : msk (nI u) (lsA A).tb = u := msk_nI hu (p12 (sub_lt hu hA.tb) hA.n)
    rw [em] at d2
    refine wp_s ⟨t, u, M9.2 66 2, M9.2 66 3, b1, n1, n2, ?_, d2, fr9.tr d3⟩
    show some (M10.1 66 0) = _
    rw [d4.1 66 (fun h => by unfold SB at h; omega), b2]
  · omega
  · omega
theorem rst_cg {n : Nat} {tk tk' : Nat → Nat} : ∀ {i}, (∀ j, j < i → tk' j = tk j) → rst n tk' i = rst n tk i
  | 0, _ => rfl
  | i + 1, h => by
    show (rst n tk' i).bind _ = (rst n tk i).bind _
    rw [rst_cg (fun j hj => h j (by omega)), h i (by omega)]
theorem cl2 {M : Mm} {A : Abs} (hA : AOK A) (hC : CI Fnd M A) (h1 : 1 ≤ A.n) (h4 : A.n ≤ 4) (hs : A.s < 60) : Wp (f_X9_least (nI 2) M) (fun v => ∃ r u, ∃ a b : Int64, Bst (gC A.n A.w A.h) A.tb (NR A.n) r u ∧ (∀ i, i < 2 * A.n - 1 → tkn a b i = rowF r i) ∧ v.1 = some (nI (gC A.n A.w A.h r u)) ∧ CI Fnd v.2 (ctS (lsA A) u (tkn a b) (rE A.n r)) ∧ Fr SC M v.2) := by
  refine cl_pre (Or.inr (Or.inl rfl)) hA hC h1 h4 hs ?_
  intro M9 c9 f9 fr9
  have hA1 := hA.ls hs
  obtain ⟨_, _, ⟨q, _⟩ | ⟨_, r, u, b1, b2, b3, b4⟩ | ⟨q, _⟩⟩ := f9
  · omega
  · have b1 : Bst (gC A.n A.w A.h) A.tb (NR A.n) r u := b1
    have b2 : M9.1 67 0 = nI (gC A.n A.w A.h r u) := b2
    have b4 : DC A.n 67 M9 r u := b4
    have hr := NR_mem h1 h4 b1.mem
    have ok := NA_ok h1 h4 hr
    have tk := b4.tk h4 ok.2.2.1
    have hE := (rE_ok h1 h4 hr).cg tk
    have iR : IsRow A.n (tkn (M9.2 67 2) (M9.2 67 3)) := ⟨_, (rst_cg tk).trans ok.2.1⟩
    have hu := b1.1.1
    unfold f_X9_layFound
    rw [pz_1, if_neg (by decide), pz_2, if_pos rfl, b3]
    have cp := wp_an ((c_cuts fok_fnd hA1 c9 (M9.2 67 2) (M9.2 67 3) (nI u)).2 (by show A.n ≠ 0; omega) iR (rE A.n r) hE) (cuts_fr hA1 c9 (M9.2 67 2) (M9.2 67 3) (nI u) (by show A.n ≠ 0; omega) iR hE)
    obtain ⟨⟨r', M10⟩, e, ⟨_, d2, d3⟩, d4⟩ := cp
    have d4 : Fr (SB 0 33) M9 M10 := d4
    rw [e, pz_bd2, pz_bd]
    have em : msk (nI u) (lsA A).tb = u := msk_nI hu (p12 (sub_lt hu hA.tb) hA.n)
    rw [em] at d2
    refine wp_s ⟨r, u, M9.2 67 2, M9.2 67 3, b1, tk, ?_, d2, fr9.tr d3⟩
    show some (M10.1 67 0) = _
    rw [d4.1 67 (fun h => by unfold SB at h; omega), b2]
  · omega
theorem dfs_cg {n : Nat} {lf rt lf' rt' : Nat → Nat} (hv : TVa lf rt n) (h : ∀ b, b < n → lf' b = lf b ∧ rt' b = rt b) : ∀ (k c m : Nat), (c < n ∨ c = 15) → dfs lf' rt' k c m = dfs lf rt k c m
  | 0, c, m, _ => rfl
  | k + 1, c, m, hc => by
    show (if c = 15 then (m, 0) else if m.testBit c = true then (m, 1) else ((dfs lf' rt' k (rt' c) (dfs lf' rt' k (lf' c) (m ||| 2 ^ c)).1).1, (dfs lf' rt' k (lf' c) (m ||| 2 ^ c)).2 + (dfs lf' rt' k (rt' c) (dfs lf' rt' k (lf' c) (m ||| 2 ^ c)).1).2)) = (if c = 15 then (m, 0) else if m.testBit c = true then (m, 1) else ((dfs lf rt k (rt c) (dfs lf rt k (lf c) (m ||| 2 ^ c)).1).1, (dfs lf rt k (lf c) (m ||| 2 ^ c)).2 + (dfs lf rt k (rt c) (dfs lf rt k (lf c) (m ||| 2 ^ c)).1).2))
    by_cases e : c = 15
    · rw [if_pos e, if_pos e]
    · have hcn : c < n := by omega
      obtain ⟨v1, v2⟩ := hv c hcn
      rw [if_neg e, if_neg e, (h c hcn).1, (h c hcn).2, dfs_cg hv h k (lf c) _ v1, dfs_cg hv h k (rt c) _ v2]
theorem TR_cg {n : Nat} {lf rt lf' rt' : Nat → Nat} (h : ∀ b, b < n → lf' b = lf b ∧ rt' b = rt b) : ∀ (e : Ex) (c : Nat), (∀ b ∈ nd e, b < n) → TR lf rt e c → TR lf' rt' e c
  | .leaf _, c, _, ht => ht
  | .branch b l r, c, hm, ht => by
    obtain ⟨t1, t2, t3, t4⟩ := ht
    have hb := h b (hm b (List.mem_cons.mpr (Or.inl rfl)))
    refine ⟨t1, t2, ?_, ?_⟩
    · rw [hb.1]; exact TR_cg h l _ (fun x hx => hm x (List.mem_cons.mpr (Or.inr (List.mem_append.mpr (Or.inl hx))))) t3
    · rw [hb.2]; exact TR_cg h r _ (fun x hx => hm x (List.mem_cons.mpr (Or.inr (List.mem_append.mpr (Or.inr hx))))) t4
theorem TrE.cg {n r : Nat} {lf rt lf' rt' : Nat → Nat} {e : Ex} (hE : TrE n r lf rt e) (h : ∀ b, b < n → lf' b = lf b ∧ rt' b = rt b) : TrE n r lf' rt' e :=
  ⟨fun b hb => by rw [(h b hb).1, (h b hb).2]; exact hE.1 b hb, hE.2.1, TR_cg h e r hE.2.2.2.2.1 hE.2.2.1, hE.2.2.2⟩
theorem TOK.cg {n r : Nat} {lf rt lf' rt' : Nat → Nat} (hT : TOK n r lf rt) (hr : r < n) (h : ∀ b, b < n → lf' b = lf b ∧ rt' b = rt b) : TOK n r lf' rt' := by
  obtain ⟨a, b, c⟩ := hT
  refine ⟨fun x hx => by rw [(h x hx).1, (h x hx).2]; exact a x hx, ?_, ?_⟩
  · rw [dfs_cg a h 30 r 0 (Or.inl hr)]; exact b
  · rw [dfs_cg a h 30 r 0 (Or.inl hr)]; exact c
theorem cl3 {M : Mm} {A : Abs} (hA : AOK A) (hC : CI Fnd M A) (h1 : 1 ≤ A.n) (h4 : A.n ≤ 4) (hs : A.s < 60) : Wp (f_X9_least (nI 3) M) (fun v => ∃ t u, ∃ a b : Int64, Bst (gT A.n A.w A.h) A.tb (VT A.n (fac A.n * 4 ^ A.n)) t u ∧ (∀ i, i < A.n → nib a i = lfT A.n t i ∧ nib b i = rtT A.n t i) ∧ v.1 = some (nI (gT A.n A.w A.h t u)) ∧ CI Fnd v.2 (trS (lsA A) u (roT A.n t) (nib a) (nib b) (tE A.n t)) ∧ Fr SC M v.2) := by
  refine cl_pre (Or.inr (Or.inr rfl)) hA hC h1 h4 hs ?_
  intro M9 c9 f9 fr9
  have hA1 := hA.ls hs
  have pb := p4_bd h4
  obtain ⟨_, _, ⟨q, _⟩ | ⟨q, _⟩ | ⟨_, t, u, b1, b2, b3⟩⟩ := f9
  · omega
  · omega
  · have b1 : Bst (gT A.n A.w A.h) A.tb (VT A.n (fac A.n * 4 ^ A.n)) t u := b1
    have b2 : M9.1 68 0 = nI (gT A.n A.w A.h t u) := b2
    have b3 : DT A.n 68 M9 t u := b3
    obtain ⟨tl, tv'⟩ := VT_mem b1.mem
    have hE := tE_ok h1 h4 tl tv'
    have ho : t / 4 ^ A.n < fac A.n := Nat.div_lt_of_lt_mul (by rw [Nat.mul_comm]; exact tl)
    have hf : t % 4 ^ A.n < 4 ^ A.n := Nat.mod_lt _ (by omega)
    have hro : roT A.n t < A.n := hE.2.1
    have hv : ∀ i, i < A.n → lfT A.n t i < 16 ∧ rtT A.n t i < 16 := fun i hi => by
      have := hE.1 i hi
      omega
    have tok : TOK A.n (roT A.n t) (lfT A.n t) (rtT A.n t) := by
      cases e : ztT A.n t with
      | none => unfold vT at tv'; rw [e] at tv'; cases tv'
      | some z =>
        have v := vT_of e
        have := gck_ok h1 h4 ho hf e (v.1.mp tv')
        rw [v.2.1, v.2.2]; exact this
    have n1 := pk_nib (n := A.n) (by omega) b3.2.2.1 (fun i hi => (hv i hi).1)
    have n2 := pk_nib (n := A.n) (by omega) b3.2.2.2 (fun i hi => (hv i hi).2)
    have nn : ∀ i, i < A.n → nib (M9.2 68 2) i = lfT A.n t i ∧ nib (M9.2 68 3) i = rtT A.n t i := fun i hi => ⟨n1 i hi, n2 i hi⟩
    have hE' := hE.cg nn
    have tok' := tok.cg hro nn
    have hu := b1.1.1
    unfold f_X9_layFound
    rw [pz_1, if_neg (by decide), pz_2, if_neg (by decide), b3.1, b3.2.1]
    have cp := wp_an ((c_tree fok_fnd hA1 c9 (M9.2 68 2) (M9.2 68 3) (nI u)).2.2 (roT A.n t) hro tok' (tE A.n t) hE') (tree_fr hA1 c9 (M9.2 68 2) (M9.2 68 3) (nI u) hro tok' hE')
    obtain ⟨⟨r', M10⟩, e, ⟨_, d2, d3⟩, d4⟩ := cp
    have d4 : Fr (SB 0 33) M9 M10 := d4
    rw [e, pz_bd2, pz_bd]
    have em : msk (nI u) (lsA A).tb = u := msk_nI hu (p12 (sub_lt hu hA.tb) hA.n)
    rw [em] at d2
    refine wp_s ⟨t, u, M9.2 68 2, M9.2 68 3, b1, nn, ?_, d2, fr9.tr d3⟩
    show some (M10.1 68 0) = _
    rw [d4.1 68 (fun h => by unfold SB at h; omega), b2]
