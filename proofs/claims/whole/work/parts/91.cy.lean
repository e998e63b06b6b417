/-! .. and turns the first best row -/
theorem RowE.cg {n : Nat} {tk tk' : Nat → Nat} {e : Ex} (h : RowE n tk e) (q : ∀ i, i < 2 * n - 1 → tk' i = tk i) : RowE n tk' e := by
  refine ⟨h.1, ?_, h.2.2⟩
  rw [h.2.1]
  unfold fnl
  refine List.map_congr_left fun i hi => ?_
  exact (q i (List.mem_range.mp hi)).symm
theorem crl_ok {M M1 : Mm} {n tb tc fl kf u : Nat} {w h tk : Nat → Nat} {e : Ex} (y : SY n tb tc fl kf w h) (x : SX M n tb tc fl kf w h) (K : KL kf M M1) (hE : RowE n tk e) (o5 : M.1 48 5 = nI (2 * n - 1)) (o1 : IA M 49 (2 * n - 1) tk) (hu : u &&& tc = u) :
    Wp (f_X2_take 36 (nI u) M1) (fun M2 => Wp (f_tlay 48 36 M2) (fun M3 => f_X2_area 36 M3 = some (nI (exw (swd w h u) (swd h w u) e * exh (swd w h u) (swd h w u) e)) ∧ Fr SLy M1 M3)) := by
  have hn : n ≤ 12 := by have := y.n4; omega
  have kf := y.kf
  have q : ∀ k, k < 36 ∨ (48 ≤ k ∧ k ≤ 50) → M1.1 k = M.1 k := fun k hk => K.1 k (by unfold SLy; omega) (by omega)
  have hm : msk (nI u) tb = u := msk_nI (y.sub hu) (by have := sub_le hu; have := y.p16; omega)
  refine wp_m (take_ok (k0 := 36) (n := n) (tb := tb) (w := w) (h := h) (by omega) hn (by rw [q 1 (by omega)]; exact x.n) (by rw [q 1 (by omega)]; exact x.tb) y.tb (x.w.eq (q 2 (by omega))) (x.h.eq (q 3 (by omega))) (nI u)) ?_
  rintro M2 ⟨a1, a2, a3, a4, a5⟩
  rw [hm] at a2 a3 a4
  have q2 : ∀ k, 42 ≤ k → M2.1 k = M1.1 k := fun k hk => a5.1 k (fun h => by unfold SB at h; omega)
  unfold f_tlay
  rw [if_neg (by omega), if_pos (Or.inr rfl)]
  have gb := ex_bd hn hE (y.sw u) (y.sh u)
  refine wp_m (clay_ok (k0 := 48) (k1 := 36) hn y.n1 (by omega) hE (y.sw u) (y.sh u) (by rw [q2 48 (by omega), q 48 (by omega)]; exact o5) ((o1.eq (q 49 (by omega))).eq (q2 49 (by omega))) a3 a4) ?_
  rintro M3 ⟨b1, b2, b3⟩
  have q3 : ∀ k, k = 36 ∨ k = 39 ∨ k = 40 → M3.1 k = M2.1 k := fun k hk => b3.1 k (fun h => by unfold SRo at h; omega)
  have ar := area_ok (k0 := 36) (by rw [q3 36 (by omega)]; exact a1) hn b1 (a3.eq (q3 39 (by omega))) b2 (a4.eq (q3 40 (by omega))) gb.2.2.1 (y.sw u) gb.2.2.2.1 (y.sh u)
  have gw := hE.gw (W := swd w h u) (H := swd h w u)
  rw [gw.1, gw.2] at ar
  exact ⟨ar, (a5.mono (fun k h => by unfold SB at h; unfold SLy; omega)).tr (b3.mono (fun k h => by unfold SRo at h; unfold SLy; omega))⟩
theorem DC.tk {n kf : Nat} {M : Mm} {r : List Nat} {u : Nat} (h4 : n ≤ 4) (hb : ∀ i, i < 2 * n - 1 → rowF r i < 14) (d : DC n kf M r u) : ∀ i, i < 2 * n - 1 → tkn (M.2 kf 2) (M.2 kf 3) i = rowF r i := fun i hi => by
  unfold tkn
  rw [if_pos (by omega)]
  have e : pkR (2 * n - 1) (rowF r) 0 i = rowF r i := by
    unfold pkR
    rw [Nat.zero_add, if_pos hi]
  have := hb i hi
  rw [d.1.nib (by omega) (by rw [e]; omega), e]
theorem scs_ok {M : Mm} {n tb tc fl kf : Nat} {w h : Nat → Nat} (y : SY n tb tc fl kf w h) (x : SX M n tb tc fl kf w h) (hG : M.1 kf 0 = nI 2147483647) : Wp (f_X7_searchCuts M) (fun M' => Fr (SSr kf) M M' ∧ M'.1 34 7 = nI kf ∧ ∃ r u, Bst (gC n w h) tb (NR n) r u ∧ M'.1 kf 0 = nI (gC n w h r u) ∧ M'.1 kf 4 = nI u ∧ DC n kf M' r u) := by
  have h1 := y.n1
  have h4 := y.n4
  have hk := y.kf
  unfold f_X7_searchCuts
  rw [x.s8, pz_2, pz_mul, pz_1, pz_sub (by omega), pz_lt1, pz_0]
  generalize hM1 : wi M 48 5 (nI (2 * n - 1)) = M1
  have m1' : ∀ k, k ≠ 48 → M1.1 k = M.1 k := fun k hk => by rw [← hM1]; exact wi_n _ _ _ hk
  have e1 : EI M n tb tc fl kf w h [] M1 := ⟨x.eq (fun k hk => m1' k (by omega)), by rw [← hM1, wi_at, if_pos rfl], fun j hj => by have : j < 0 := hj; omega, by rw [← hM1]; exact Fr.rf.w (Or.inl ⟨by omega, by omega⟩)⟩
  have c1 : CF (gC n w h) tb kf (DC n kf) [] M1 := ⟨2147483647, by rw [m1' kf (by omega)]; exact hG, by omega, Or.inl ⟨rfl, rfl⟩⟩
  refine wp_b (ext_ok y 30 [] 0 0 [] M1 e1 c1 (Nat.two_pow_pos n) (fun j hj => by have : j < 0 := hj; omega) (Nat.le_refl _) (Nat.zero_le _) (by show 2 * n - 1 - 0 < 30; omega) (fun r hr => hr)) ?_
  rintro M2 ⟨e2, G, g1, g2, g3⟩
  have g3 : CS (gC n w h) tb (NR n) G (DC n kf M2) := g3
  obtain ⟨r, u, b1, b2, b3⟩ := g3.get (nr_ne n (by omega) h1)
  have hr : r ∈ NA n := NR_mem h1 h4 b1.mem
  have ok := NA_ok h1 h4 hr
  have hE := (rE_ok h1 h4 hr).cg (b3.tk h4 ok.2.2.1)
  have h7 : (M2.1 34 7).toNatClampNeg = kf := by rw [e2.x.s7, pz_cl (by omega)]
  rw [h7, pz_lt1, pz_gd hk, pz_lt1, pz_gd hk, e2.x.s8]
  refine wp_b (crr_ok (k0 := 48) (by omega) h1 (M2.2 kf 2) (M2.2 kf 3)) ?_
  rintro M3 ⟨d1, d2, d3⟩
  have q3 : ∀ k, k ≠ 48 → k ≠ 49 → M3.1 k = M2.1 k := fun k h1 h2 => d3.1 k (fun h => by unfold SB at h; omega)
  have q32 : M3.2 kf = M2.2 kf := d3.2 kf (fun h => by unfold SB at h; omega)
  have h7' : (M3.1 34 7).toNatClampNeg = kf := by rw [q3 34 (by omega) (by omega)]; exact h7
  rw [h7', pz_lt1, pz_gd hk, pz_lt1, pz_B]
  generalize hM4 : wi M3 kf 0 (nI 2147483647) = M4
  have m4 : ∀ k, k ≠ kf → M4.1 k = M3.1 k := fun k hk => by rw [← hM4]; exact wi_n _ _ _ hk
  have m42 : M4.2 = M3.2 := by rw [← hM4]; rfl
  have fr4 : Fr (SSr kf) M M4 := by
    rw [← hM4]
    exact (e2.fr.tr (d3.mono (fun k h => by unfold SB at h; unfold SSr; omega))).w (Or.inr rfl)
  have x4 : SX M4 n tb tc fl kf w h := e2.x.eq (fun k hk => by rw [m4 k (by omega), q3 k (by omega) (by omega)])
  have hs : ∀ v, v &&& tb = v → gC n w h r v = gC n w h r (v &&& tc) := fun v hv => by
    unfold gC
    rw [(y.sq v hv).1, (y.sq v hv).2]
  have gbd : ∀ u, gC n w h r u < 2147483647 := fun u => (ex_bd (by omega) hE (y.sw u) (y.sh u)).2.2.2.2
  refine wp_b2 (cl_ok (k1 := 48) (kf := kf) (tc := tc) (G := 2147483647) (f := gC n w h r) hk x4.s7 x4.s9 y.p16.2 (by rw [← hM4, wi_at, if_pos rfl]) (by omega) gbd (fun M5 v hv K => crl_ok y x4 K hE (by rw [m4 48 (by omega)]; exact d1) (d2.eq (m4 49 (by omega))) hv)) ?_
  rintro r' M5 ⟨K, ⟨r0, a1, a2⟩ | ⟨r1, u', a1, a2, a3, a4, a5⟩⟩
  · have := a1 0 (Nat.zero_and _)
    have := gbd 0
    omega
  · have K : KL kf M4 M5 := K
    have a3 : M5.1 kf 0 = nI (gC n w h r u') := a3
    have a4 : M5.1 kf 4 = nI u' := a4
    have eu : u' = u := (a1.sq hs y.tc).un b1.1
    subst eu
    refine wp_s ⟨fr4.tr K.ssr, by rw [K.1 34 (by unfold SLy; omega) (by omega)]; exact x4.s7, r, u', b1, a3, a4, b3.eq ?_⟩
    show M5.2 kf = M2.2 kf
    rw [K.2 kf (by unfold SLy; omega), m42, q32]
