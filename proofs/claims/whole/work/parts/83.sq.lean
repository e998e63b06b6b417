/-! .. its loops -/
theorem lg_ge {a b : Nat} (ha : a < 1000000) (hb : b < 1000000) : ((0 : Int32) ≤ lg_cmp (lI a) (lI b)) ↔ b ≤ a := by
  rw [← Int32.not_lt, lg_neg, Int64.lt_iff_toInt_lt, lI_toInt (by omega), lI_toInt (by omega)]
  omega
theorem fac_bd {n : Nat} (h : n ≤ 4) : 1 ≤ fac n ∧ fac n ≤ 24 := (by decide +kernel : ∀ n, n < 5 → 1 ≤ fac n ∧ fac n ≤ 24) n (by omega)
theorem SY.flb {n tb tc fl kf : Nat} {w h : Nat → Nat} (y : SY n tb tc fl kf w h) : fl < 2147483647 := by
  have h4 := y.n4
  have : bar w h n ≤ n * 40000 := smn_le fun b hb => Nat.le_trans (Nat.mul_le_mul (y.w b hb).2 (y.h b hb).2) (by decide)
  have := y.fl
  omega
theorem idn {M : Mm} {kf fl G : Nat} (hkf : 65 ≤ kf ∧ kf < 69) (s7 : M.1 34 7 = nI kf) (s10 : M.1 34 10 = nI fl) (hG : M.1 kf 0 = nI G) (b1 : G < 2147483648) (b2 : fl < 2147483648) : (G = fl → f_X7_isDone M = some (nI 1)) ∧ (G ≠ fl → f_X7_isDone M = some (nI 0)) := by
  have h7 : (M.1 34 7).toNatClampNeg = kf := by rw [s7, pz_cl (by omega)]
  unfold f_X7_isDone
  rw [h7, pz_lt1, pz_gd hkf, hG, s10]
  constructor
  · intro e; rw [e, if_pos rfl]; rfl
  · intro e; rw [if_neg (by rw [pz_eq b1 b2]; exact e)]; rfl
theorem KL.ssr {kf : Nat} {M M' : Mm} (h : KL kf M M') : Fr (SSr kf) M M' := ⟨fun k hk => h.1 k (fun q => hk (by unfold SLy at q; unfold SSr; omega)) (fun e => hk (Or.inr e)), fun k hk => h.2 k (fun q => hk (by unfold SLy at q; unfold SSr; omega))⟩
theorem PI.mk' {M0 : Mm} {n tb tc fl kf : Nat} {w h : Nat → Nat} {i j T S : Nat} {M M' : Mm} (hk : 65 ≤ kf) (p : PI M0 n tb tc fl kf w h i j T M) (e : ∀ k, ¬ SLy k → k ≠ kf → M'.1 k = M.1 k) (fr : Fr (SSr kf) M M') (cs : CF (gP n w h) tb kf (DP n kf) (List.range S) M') : PI M0 n tb tc fl kf w h i j S M' := by
  have q : ∀ k, k < 36 ∨ (42 ≤ k ∧ k ≤ 50) → M'.1 k = M.1 k := fun k hk => e k (by unfold SLy; omega) (by omega)
  exact ⟨p.x.eq (fun k hk => q k (by omega)), by rw [q 42 (by omega)]; exact p.o5, p.o1.eq (q 43 (by omega)), p.o2.eq (q 44 (by omega)), p.o3.eq (q 45 (by omega)), p.fr.tr fr, cs⟩
theorem gP_bd {n tb tc fl kf : Nat} {w h : Nat → Nat} (y : SY n tb tc fl kf w h) {i j : Nat} (hj : j < fac n) (u : Nat) : gP n w h (i * fac n + j) u < 2147483647 := by
  rw [gP_e hj]
  exact gp_bd (by have := y.n4; omega) (ord_perm hj) (y.sw u) (y.sh u)
theorem sp_in {M0 : Mm} {n tb tc fl kf : Nat} {w h : Nat → Nat} {i j : Nat} {M : Mm} (y : SY n tb tc fl kf w h) (p : PI M0 n tb tc fl kf w h i j (i * fac n + j) M) (hi : i < fac n) (hj : j < fac n) :
    Wp (f_X7_searchPairs_L37 (lI (fac n)) (lI j) M) (fun r => ∃ M', r = .inl (lI (j + 1), M') ∧ PI M0 n tb tc fl kf w h i (nxi n j) (i * fac n + j + 1) M') := by
  have h1 := y.n1
  have h4 := y.n4
  have hk := y.kf
  have fb := fac_bd h4
  have hJ : ∀ M1, PI M0 n tb tc fl kf w h i j (i * fac n + j + 1) M1 → Wp (f_X7_searchPairs_J106 (lI j) M1) (fun r => ∃ M', r = .inl (lI (j + 1), M') ∧ PI M0 n tb tc fl kf w h i (nxi n j) (i * fac n + j + 1) M') := by
    intro M1 p1
    unfold f_X7_searchPairs_J106
    refine wp_b (p1.n44 y hj) ?_
    intro M2 p2
    rw [lI_1, lI_add, pz_lt1]
    exact wp_s ⟨M2, rfl, p2⟩
  obtain ⟨G, g1, g2, g3⟩ := p.cs
  unfold f_X7_searchPairs_L37
  rw [if_neg (by rw [lg_ge (by omega) (by omega)]; omega), pz_0]
  have bd : ∀ s ∈ [i * fac n + j], gP n w h s 0 < 2147483647 := fun s hs => by rw [List.mem_singleton.mp hs]; exact gP_bd y hj 0
  rcases mbf h1 h4 p.x.s8 p.o1 p.o2 (ord12 h4 hi) (ord12 h4 hj) with ⟨e, hno⟩ | e
  · rw [e, pz_bd, if_pos rfl]
    refine hJ M (p.mk' hk.1 (fun _ _ _ => rfl) Fr.rf ⟨G, g1, g2, ?_⟩)
    rw [List.range_succ]
    refine g3.skip (fun s hs v hv => ?_) bd (fun t u d => d)
    rw [List.mem_singleton.mp hs]
    obtain ⟨s', s1, s2⟩ := pdom (w := w) (h := h) h1 h4 hi hj hno
    rw [← s2 v]
    exact g3.lo s' (List.mem_range.mpr s1) v hv
  · rw [e, pz_bd, if_neg (by decide)]
    have hs : ∀ v, v &&& tb = v → gP n w h (i * fac n + j) v = gP n w h (i * fac n + j) (v &&& tc) := fun v hv => by
      rw [gP_e hj, gP_e hj, (y.sq v hv).1, (y.sq v hv).2]
    refine wp_b2 (cl_ok (k1 := 42) (kf := kf) (tc := tc) (G := G) (f := gP n w h (i * fac n + j)) hk p.x.s7 p.x.s9 y.p16.2 g1 g2 (gP_bd y hj) (fun M1 u hu K => by
      rw [gP_e hj]
      exact prl_ok y p.x K p.o5 p.o2 p.o3 (ord_perm hi) (ord_perm hj) hu)) ?_
    rintro r M1 ⟨K, ⟨r0, a1, a2⟩ | ⟨r1, u, a1, a2, a3, a4, a5⟩⟩
    · have r0 : r = nI 0 := r0
      have a2 : M1.1 kf = M.1 kf := a2
      have K : KL kf M M1 := K
      have a2' : M1.2 kf = M.2 kf := K.2 kf (by unfold SLy; omega)
      rw [r0, if_pos rfl]
      refine hJ M1 (p.mk' hk.1 K.1 K.ssr ⟨G, by rw [a2]; exact g1, g2, ?_⟩)
      rw [List.range_succ]
      refine g3.skip (fun s hs' v hv => ?_) bd (fun t u d => d.eq a2 a2')
      rw [List.mem_singleton.mp hs', hs v hv]
      exact a1 _ (by rw [Nat.and_assoc, Nat.and_self])
    · have r1 : r = nI 1 := r1
      have K : KL kf M M1 := K
      have a3 : M1.1 kf 0 = nI (gP n w h (i * fac n + j) u) := a3
      have a4 : M1.1 kf 4 = nI u := a4
      have q : ∀ k, k < 36 ∨ (42 ≤ k ∧ k ≤ 50) → M1.1 k = M.1 k := fun k hk => K.1 k (by unfold SLy; omega) (by omega)
      have h7 : (M1.1 34 7).toNatClampNeg = kf := by rw [q 34 (by omega), p.x.s7, pz_cl (by omega)]
      have h8 : M1.1 34 8 = nI n := by rw [q 34 (by omega)]; exact p.x.s8
      rw [r1, if_neg (by decide), h7, pz_lt1, pz_gd hk, h8]
      refine wp_b (pk_ok (by omega) (p.o1.eq (q 43 (by omega))) (fun k hk => by have := ord12 h4 hi k hk; omega)) ?_
      intro a ha
      rw [pz_lt1]
      have h7' : ((wl M1 kf 2 a).1 34 7).toNatClampNeg = kf := h7
      have h8' : (wl M1 kf 2 a).1 34 8 = nI n := h8
      rw [h7', pz_lt1, pz_gd hk, h8']
      refine wp_b (pk_ok (M := wl M1 kf 2 a) (by omega) (IA.eq (M := M1) (p.o2.eq (q 44 (by omega))) rfl) (fun k hk => by have := ord12 h4 hj k hk; omega)) ?_
      intro b hb
      rw [pz_lt1]
      have fr : Fr (SSr kf) M (wl (wl M1 kf 2 a) kf 3 b) := (K.ssr.l (Or.inr rfl)).l (Or.inr rfl)
      refine hJ _ (p.mk' hk.1 (fun k h1 h2 => K.1 k h1 h2) fr ⟨_, a3, by have := gP_bd (w := w) (h := h) y (i := i) hj u; omega, ?_⟩)
      rw [List.range_succ]
      refine g3.nw (a1.sq hs y.tc) a2 ⟨a4, ?_, ?_⟩
      · rw [(dvm hj).1, wl_at, if_neg (by omega), wl_at, if_pos rfl]; exact ha
      · rw [(dvm hj).2, wl_at, if_pos rfl]; exact hb
theorem sp_out {M0 : Mm} {n tb tc fl kf : Nat} {w h : Nat → Nat} {i : Nat} {M : Mm} (y : SY n tb tc fl kf w h) (p : PI M0 n tb tc fl kf w h i 0 (i * fac n) M) (hi : i < fac n) :
    Wp (f_X7_searchPairs_L21 (lI (fac n)) (lI i) M) (fun r => (∃ M', r = .inl (lI (i + 1), M') ∧ PI M0 n tb tc fl kf w h (nxi n i) 0 ((i + 1) * fac n) M') ∨ ∃ M', r = .inr M' ∧ Fr (SSr kf) M0 M' ∧ M'.1 34 7 = nI kf ∧ CF (gP n w h) tb kf (DP n kf) (List.range (fac n * fac n)) M') := by
  have h1 := y.n1
  have h4 := y.n4
  have hk := y.kf
  have fb := fac_bd h4
  obtain ⟨G, g1, g2, g3⟩ := p.cs
  unfold f_X7_searchPairs_L21
  have id := idn hk p.x.s7 p.x.s10 g1 g2 (by have := y.flb; omega)
  rw [if_neg (by rw [lg_ge (by omega) (by omega)]; omega), pz_0, lI_0]
  by_cases z : G = fl
  · rw [id.1 z, pz_bd, if_neg (by decide)]
    refine wp_s (Or.inr ⟨M, rfl, p.fr, p.x.s7, G, g1, g2, ?_⟩)
    have hsplit : List.range (fac n * fac n) = List.range (i * fac n) ++ (List.range (fac n * fac n - i * fac n)).map (i * fac n + ·) := by
      rw [← List.range_add]
      congr 1
      have : i * fac n ≤ fac n * fac n := Nat.mul_le_mul_right _ (by omega)
      omega
    have hmem : ∀ s ∈ (List.range (fac n * fac n - i * fac n)).map (i * fac n + ·), s / fac n < fac n ∧ s % fac n < fac n := by
      intro s hs
      obtain ⟨k, hk, rfl⟩ := List.mem_map.mp hs
      have hk := List.mem_range.mp hk
      exact ⟨Nat.div_lt_of_lt_mul (by omega), Nat.mod_lt _ (by omega)⟩
    rw [hsplit]
    refine g3.skip (fun s hs v hv => ?_) (fun s hs => ?_) (fun t u d => d)
    · obtain ⟨m1', m2'⟩ := hmem s hs
      rw [z, y.fl, ← bar_swd w h v n]
      exact gp_fl (ord_perm m1') (ord_perm m2')
    · obtain ⟨m1', m2'⟩ := hmem s hs
      exact gp_bd (by omega) (ord_perm m2') (y.sw 0) (y.sh 0)
  · rw [id.2 z, pz_bd, if_pos rfl]
    refine wp_b (P := fun M' => PI M0 n tb tc fl kf w h i 0 ((i + 1) * fac n) M') ?_ ?_
    · refine wp_l (fun j (v : Int64 × Mm) => v.1 = lI j ∧ PI M0 n tb tc fl kf w h i (if j = fac n then 0 else j) (i * fac n + j) v.2) (fac n) (fu_lt (by omega)) ?_ ?_ ⟨rfl, by rw [if_neg (by omega)]; exact p⟩
      · rintro j ⟨v, M1⟩ hj ⟨a1, a2⟩
        have a1 : v = lI j := a1
        subst a1
        rw [if_neg (by omega)] at a2
        refine wp_m (sp_in y a2 hi hj) ?_
        rintro r ⟨M', rfl, p'⟩
        exact Or.inl ⟨_, rfl, rfl, p'⟩
      · rintro ⟨v, M1⟩ ⟨a1, a2⟩
        have a1 : v = lI (fac n) := a1
        subst a1
        rw [if_pos rfl] at a2
        show Wp (f_X7_searchPairs_L37 (lI (fac n)) (lI (fac n)) M1) _
        unfold f_X7_searchPairs_L37
        rw [if_pos (by rw [lg_ge (by omega) (by omega)]; exact Nat.le_refl _)]
        refine wp_s ⟨M1, rfl, ?_⟩
        rw [Nat.succ_mul]; exact a2
    · intro M1 p1
      unfold f_X7_searchPairs_A37
      obtain ⟨M2, e2, p2⟩ := p1.n43 y hi
      have e3 : ((f_X7_nextOrder 43 M1).bind fun M_16 => (f_X4_notePlaces 42 M_16).bind fun M_18 => lt1 (lI i + (1 : Int64)) fun x3_19 => (some (.inl (x3_19, M_18)) : Option ((Int64 × Mm) ⊕ Mm))) = some (.inl (lI (i + 1), M2)) := by
        rw [← Option.bind_assoc, e2, pz_bd, lI_1, lI_add, pz_lt1]
      rw [e3]
      exact wp_s (Or.inl ⟨M2, rfl, p2⟩)
theorem bg_ok {M : Mm} {n : Nat} (h1 : 1 ≤ n) (h4 : n ≤ 4) : Wp (f_X4_begin 42 (nI n) M) (fun M' => M'.1 42 5 = nI n ∧ IA M' 43 n (ordN n 0) ∧ IA M' 44 n (ordN n 0) ∧ IA M' 45 n (fun b => ps (ordN n 0) b n) ∧ Fr (SB 42 45) M M') := by
  have ft := (fi_tab n (by omega) h1).1
  unfold f_X4_begin
  rw [pz_lt1, pz_0]
  refine wp_b (wp_for (step := fun v => f_X4_begin_L7 42 v.1 v.2) (fun i M' => M'.1 42 5 = nI n ∧ IA M' 43 i (fun k => k) ∧ IA M' 44 i (fun k => k) ∧ Fr (SB 42 45) M M') n (by omega) ?_ ?_ ⟨by rw [wi_at, if_pos rfl], IA.nil, IA.nil, Fr.rf.w ⟨by omega, by omega⟩⟩) ?_
  · rintro i M1 hi ⟨a1, a2, a3, a4⟩
    show Wp (f_X4_begin_L7 42 (nI i) M1) _
    unfold f_X4_begin_L7
    rw [a1, if_neg (by rw [pz_le (by omega) (by omega)]; omega), pz_wr (by omega) (by omega), pz_wr (by omega) (by omega), pz_lt1, pz_1, pz_add]
    exact wp_s ⟨_, rfl, a1, (a2.snoc rfl).wn (by omega), (a3.wn (by omega)).snoc rfl, (a4.w ⟨by omega, by omega⟩).w ⟨by omega, by omega⟩⟩
  · rintro M1 ⟨a1, a2, a3, a4⟩
    show f_X4_begin_L7 42 (nI n) M1 = _
    unfold f_X4_begin_L7
    rw [a1, if_pos ((nI_leI (by omega) (by omega)).mpr (Nat.le_refl _))]
  · rintro M1 ⟨a1, a2, a3, a4⟩
    have a2 : IA M1 43 n (ordN n 0) := a2.cg (fun k hk => (ft k hk).symm)
    have a3 : IA M1 44 n (ordN n 0) := a3.cg (fun k hk => (ft k hk).symm)
    have hp : PermN n (ordN n 0) := ord_perm (by have := fac_bd h4; omega)
    unfold f_X4_begin_A7
    refine wp_b (np_ok (k0 := 42) (n := n) (by omega) a1 a2 hp) ?_
    rintro M2 ⟨b1, b2⟩
    have q : ∀ k, k ≠ 45 → M2.1 k = M1.1 k := fun k hk => b2.1 k (fun h => by unfold SB at h; omega)
    exact wp_s ⟨by rw [q 42 (by omega)]; exact a1, a2.eq (q 43 (by omega)), a3.eq (q 44 (by omega)), b1, a4.tr (b2.mono (fun k h => by unfold SB at h ⊢; omega))⟩
theorem sps_ok {M : Mm} {n tb tc fl kf : Nat} {w h : Nat → Nat} (y : SY n tb tc fl kf w h) (x : SX M n tb tc fl kf w h) (hG : M.1 kf 0 = nI 2147483647) : Wp (f_X7_searchPairs M) (fun M' => Fr (SSr kf) M M' ∧ M'.1 34 7 = nI kf ∧ CF (gP n w h) tb kf (DP n kf) (List.range (fac n * fac n)) M') := by
  have h1 := y.n1
  have h4 := y.n4
  have hk := y.kf
  have fb := fac_bd h4
  unfold f_X7_searchPairs
  rw [x.s8, bde (fac_9 (by omega))]
  refine wp_b (bg_ok h1 h4) ?_
  rintro M1 ⟨a1, a2, a3, a4, a5⟩
  have q : ∀ k, k < 42 ∨ 45 < k → M1.1 k = M.1 k := fun k hk => a5.1 k (fun h => by unfold SB at h; omega)
  have fr1 : Fr (SSr kf) M M1 := a5.mono (fun k h => by unfold SB at h; unfold SSr; omega)
  rw [lI_0]
  refine wp_b (P := fun M' => Fr (SSr kf) M M' ∧ M'.1 34 7 = nI kf ∧ CF (gP n w h) tb kf (DP n kf) (List.range (fac n * fac n)) M') ?_ (fun M' hM => wp_s hM)
  refine wp_l (fun i (v : Int64 × Mm) => v.1 = lI i ∧ PI M n tb tc fl kf w h (if i = fac n then 0 else i) 0 (i * fac n) v.2) (fac n) (fu_lt (by omega)) ?_ ?_ ⟨rfl, ?_⟩
  · rintro i ⟨v, M2⟩ hi ⟨b1, b2⟩
    have b1 : v = lI i := b1
    subst b1
    rw [if_neg (by omega)] at b2
    refine wp_m (sp_out y b2 hi) ?_
    rintro r (⟨M', rfl, p'⟩ | ⟨M', rfl, p1, p2⟩)
    · exact Or.inl ⟨_, rfl, rfl, p'⟩
    · exact Or.inr ⟨_, rfl, p1, p2⟩
  · rintro ⟨v, M2⟩ ⟨b1, b2⟩
    have b1 : v = lI (fac n) := b1
    subst b1
    show Wp (f_X7_searchPairs_L21 (lI (fac n)) (lI (fac n)) M2) _
    unfold f_X7_searchPairs_L21
    rw [if_pos (by rw [lg_ge (by omega) (by omega)]; exact Nat.le_refl _)]
    exact wp_s ⟨M2, rfl, b2.fr, b2.x.s7, b2.cs⟩
  · rw [if_neg (by omega), Nat.zero_mul]
    exact ⟨x.eq (fun k hk => q k (by omega)), a1, a2, a3, a4, fr1, 2147483647, by rw [q kf (by omega)]; exact hG, by omega, Or.inl ⟨rfl, rfl⟩⟩
