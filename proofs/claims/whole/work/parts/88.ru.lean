/-! the reference searches trees -/
theorem rtl_ok {M : Mm} {n tb u r : Nat} {w h lf rt : Nat → Nat} {e : Ex} (y : SZ n tb w h) (x : RX M n tb w h) (hE : TrE n r lf rt e) (r8 : M.1 69 8 = nI r) (o1 : ∀ b, b < n → M.1 79 b = cv (lf b)) (o2 : ∀ b, b < n → M.1 80 b = cv (rt b)) (hu : u &&& tb = u) (h7 : M.1 69 7 = nI u) :
    Wp (f_rlay 3 M) (fun M2 => KU M M2 ∧ ∃ a b, f_X10_allWide M2 = some (nI a) ∧ f_X10_allHigh M2 = some (nI b) ∧ a * b = gt n e (swd w h u) (swd h w u)) := by
  have hn : n ≤ 12 := by have := y.n4; omega
  have hr := hE.2.1
  have t := hE.ly hn (y.sw u) (y.sh u)
  have gb := gt_bd hE hn (y.sw u) (y.sh u)
  unfold f_rlay
  rw [if_neg (by omega), if_neg (by omega)]
  unfold f_X10_layTree
  have e8 : (wi M 69 22 (nI 0)).1 69 8 = cv r := by
    show M.1 69 8 = _
    rw [r8, cv_n (by omega)]
  rw [pz_0, pz_lt1, e8]
  refine wp_b (rlu_ok t (y.u4 hu) e 30 r 0 0 (wi M 69 22 (nI 0)) hE.2.2.1 (Or.inl hr) hE.pt (hE.xt _) (by rw [hE.2.2.2.2.2]; omega) (by rw [hE.2.2.2.2.2]; omega) (by omega) h7 (IA.eq x.w rfl) (IA.eq x.h rfl) o1 o2 ⟨rfl, fun j hj => by omega, fun j hj => by omega, fun j hj => by omega⟩) ?_
  rintro M1 ⟨d1, k1⟩
  rw [hE.2.2.2.2.2, Nat.zero_add] at d1
  rw [pz_lt1, pz_3]
  have f69 : ∀ j, j ≠ 6 → j ≠ 22 → (wi M1 69 6 (nI 3)).1 69 j = M.1 69 j := fun j h1 h2 => by rw [wi_at, if_neg h1, k1.2.1 j h2, wi_at, if_neg h2]
  have fk : ∀ k, k ≠ 69 → k ≠ 74 → k ≠ 75 → k ≠ 86 → (wi M1 69 6 (nI 3)).1 k = M.1 k := fun k a b c d => by rw [wi_n _ _ _ a, k1.1 k a b c d, wi_n _ _ _ a]
  have gB : GB n u w h (tX (swd w h u) e) (tY (swd w h u) (swd h w u) e n) := ⟨hn, y.u4 hu, y.w, y.h, gb.1, gb.2.1⟩
  have rg : RG (wi M1 69 6 (nI 3)) n u w h (tX (swd w h u) e) (tY (swd w h u) (swd h w u) e n) := by
    refine ⟨by rw [f69 1 (by omega) (by omega)]; exact x.n, by rw [f69 7 (by omega) (by omega)]; exact h7, x.w.eq (fk 70 (by omega) (by omega) (by omega) (by omega)), x.h.eq (fk 71 (by omega) (by omega) (by omega) (by omega)), ?_, ?_⟩
    · intro b hb
      obtain ⟨j, hj, rfl⟩ := hE.perm.sur hb
      exact d1.x j hj
    · intro b hb
      obtain ⟨j, hj, rfl⟩ := hE.perm.sur hb
      exact d1.y j hj
  refine wp_s ⟨⟨⟨fun k h1 h2 => fk k h1 (fun e => h2 (Or.inl e)) (fun e => h2 (Or.inr (Or.inl e))) (fun e => h2 (Or.inr (Or.inr (by omega)))), fun j h6 _ h22 _ _ => f69 j h6 h22, fun k _ => ?_⟩, f69 39 (by omega) (by omega), f69 40 (by omega) (by omega)⟩, _, _, raw_ok gB rg, rah_ok gB rg, rfl⟩
  show M1.2 k = _
  rw [k1.2.2]; rfl
theorem KS.km {M M' : Mm} (h : KM M M') : KS M M' := ⟨fun k hk => h.1 k (by omega) (by omega) (by omega) (by omega), fun j hj => h.2.1 j (by omega) (by omega), fun k _ => by rw [h.2.2]⟩
def RDT (n : Nat) (M : Mm) (t u : Nat) : Prop := M.1 69 40 = nI u ∧ IA M 98 n (ordN n (t / 4 ^ n)) ∧ IA M 102 n (cdF n (t % 4 ^ n))
theorem RDT.eq {n : Nat} {M M' : Mm} {t u : Nat} (h : RDT n M t u) (e : M'.1 69 40 = M.1 69 40) (e1 : M'.1 98 = M.1 98) (e2 : M'.1 102 = M.1 102) : RDT n M' t u := ⟨by rw [e]; exact h.1, h.2.1.eq e1, h.2.2.eq e2⟩
def RTI (M0 : Mm) (n tb : Nat) (w h : Nat → Nat) (o T : Nat) (M : Mm) : Prop :=
  (RX M n tb w h) ∧
  (IA M 81 n (ordN n o)) ∧
  (KS M0 M) ∧
  (RF (gT n w h) tb (RDT n) (VT n T) M)
theorem RTI.x {M0 : Mm} {n tb : Nat} {w h : Nat → Nat} {o T : Nat} {M : Mm} (hh_ : RTI M0 n tb w h o T M) : RX M n tb w h := hh_.1
theorem RTI.o1 {M0 : Mm} {n tb : Nat} {w h : Nat → Nat} {o T : Nat} {M : Mm} (hh_ : RTI M0 n tb w h o T M) : IA M 81 n (ordN n o) := hh_.2.1
theorem RTI.ks {M0 : Mm} {n tb : Nat} {w h : Nat → Nat} {o T : Nat} {M : Mm} (hh_ : RTI M0 n tb w h o T M) : KS M0 M := hh_.2.2.1
theorem RTI.cs {M0 : Mm} {n tb : Nat} {w h : Nat → Nat} {o T : Nat} {M : Mm} (hh_ : RTI M0 n tb w h o T M) : RF (gT n w h) tb (RDT n) (VT n T) M := hh_.2.2.2
theorem RTI.kp {M0 : Mm} {n tb : Nat} {w h : Nat → Nat} {o T : Nat} {M M' : Mm} (p : RTI M0 n tb w h o T M) (ks : KS M M') (e81 : M'.1 81 = M.1 81) (e98 : M'.1 98 = M.1 98) (e102 : M'.1 102 = M.1 102) (e39 : M'.1 69 39 = M.1 69 39) (e40 : M'.1 69 40 = M.1 69 40) : RTI M0 n tb w h o T M' :=
  ⟨ks.rx p.x, p.o1.eq e81, p.ks.tr ks, p.cs.eq e39 (fun t u d => d.eq e40 e98 e102)⟩
theorem RTI.n81 {M0 : Mm} {n tb : Nat} {w h : Nat → Nat} {o T : Nat} {M : Mm} (y : SZ n tb w h) (p : RTI M0 n tb w h o T M) (ho : o < fac n) : Wp (f_X10_next 81 (nI n) M) (fun r => r.1 = (if o + 1 = fac n then nI 0 else nI 1) ∧ RTI M0 n tb w h (if o + 1 = fac n then fac n - 1 else o + 1) T r.2) := by
  have h4 := y.n4
  have nt := nx_tab n (by omega) y.n1 o ho
  have rn := rnx_ok (k1 := 81) y.n1 (by omega) p.o1 (ord12 h4 ho)
  by_cases e : o + 1 = fac n
  · rw [rn.2 (nt.2.mpr e), if_pos e, if_pos e, show fac n - 1 = o by omega]
    exact wp_s ⟨rfl, p⟩
  · rw [if_neg e, if_neg e]
    refine wp_m (rn.1 (fun z => e (nt.2.mp z))) ?_
    rintro ⟨r, M'⟩ ⟨a1, a2, a3⟩
    have q : ∀ k, k ≠ 81 → M'.1 k = M.1 k := fun k hk => a3.1 k (fun h => by unfold SB at h; omega)
    have a2 : IA M' 81 n (nxF n (ordN n o)) := a2
    have ks : KS M M' := KS.sb a3 (by omega) (by omega)
    refine ⟨a1, ks.rx p.x, a2.cg (fun k hk => ?_), p.ks.tr ks, p.cs.eq (by rw [q 69 (by omega)]) (fun t u d => d.eq (by rw [q 69 (by omega)]) (q 98 (by omega)) (q 102 (by omega)))⟩
    rw [nt.1 k hk, if_neg e]
theorem rcd_ok {M : Mm} {n f : Nat} (h4 : n ≤ 4) (hf : f < 4 ^ n) (r1 : M.1 69 1 = nI n) : Wp (loop (fun v => f_X10_leastTree_L33 (nI f) v.1 v.2) FU (nI 0, M)) (fun M' => IA M' 100 n (cdF n f) ∧ Fr (SB 100 100) M M') := by
  refine wp_for (step := fun v => f_X10_leastTree_L33 (nI f) v.1 v.2) (fun i M' => IA M' 100 i (cdF n f) ∧ Fr (SB 100 100) M M') n (by omega) ?_ ?_ ⟨IA.nil, Fr.rf⟩
  · rintro i M1 hi ⟨a1, a2⟩
    show Wp (f_X10_leastTree_L33 (nI f) (nI i) M1) _
    unfold f_X10_leastTree_L33
    rw [a2.1 69 (fun h => by unfold SB at h; omega), r1, if_neg (by rw [pz_le (by omega) (by omega)]; omega), pz_1, pz_2, pz_3, cd_ok h4 hf hi, pz_wr (by omega) (by omega), pz_lt1, pz_add]
    exact wp_s ⟨_, rfl, a1.snoc rfl, a2.w ⟨Nat.le_refl _, Nat.le_refl _⟩⟩
  · rintro M1 ⟨a1, a2⟩
    show f_X10_leastTree_L33 (nI f) (nI n) M1 = _
    unfold f_X10_leastTree_L33
    rw [a2.1 69 (fun h => by unfold SB at h; omega), r1, if_pos ((nI_leI (by omega) (by omega)).mpr (Nat.le_refl _))]
theorem rt_cp {M : Mm} {n : Nat} {one two : Nat → Nat} (h4 : n ≤ 4) (r1 : M.1 69 1 = nI n) (o1 : IA M 81 n one) (o2 : IA M 100 n two) : Wp (loop (fun v => f_X10_leastTree_L91 v.1 v.2) FU (nI 0, M)) (fun M' => IA M' 98 n one ∧ IA M' 102 n two ∧ ∀ k, k ≠ 98 → k ≠ 102 → M'.1 k = M.1 k ∧ M'.2 k = M.2 k) := by
  refine wp_for (step := fun v => f_X10_leastTree_L91 v.1 v.2) (fun i M' => IA M' 98 i one ∧ IA M' 102 i two ∧ ∀ k, k ≠ 98 → k ≠ 102 → M'.1 k = M.1 k ∧ M'.2 k = M.2 k) n (by omega) ?_ ?_ ⟨IA.nil, IA.nil, fun _ _ _ => ⟨rfl, rfl⟩⟩
  · rintro i M1 hi ⟨a1, a2, a3⟩
    have q : ∀ k, k ≠ 98 → k ≠ 102 → M1.1 k = M.1 k := fun k h1 h2 => (a3 k h1 h2).1
    show Wp (f_X10_leastTree_L91 (nI i) M1) _
    unfold f_X10_leastTree_L91
    rw [q 69 (by omega) (by omega), r1, if_neg (by rw [pz_le (by omega) (by omega)]; omega), pz_rd (by omega) (by omega), q 81 (by omega) (by omega), o1 i hi, pz_wr (by omega) (by omega), pz_rd (by omega) (by omega), wi_n _ _ _ (show 100 ≠ 98 by omega), q 100 (by omega) (by omega), o2 i hi, pz_wr (by omega) (by omega), pz_lt1, pz_1, pz_add]
    refine wp_s ⟨_, rfl, (a1.snoc rfl).wn (by omega), (a2.wn (by omega)).snoc rfl, fun k h1 h2 => ⟨?_, (a3 k h1 h2).2⟩⟩
    rw [wi_n _ _ _ h2, wi_n _ _ _ h1]; exact q k h1 h2
  · rintro M1 ⟨a1, a2, a3⟩
    show f_X10_leastTree_L91 (nI n) M1 = _
    unfold f_X10_leastTree_L91
    rw [(a3 69 (by omega) (by omega)).1, r1, if_pos ((nI_leI (by omega) (by omega)).mpr (Nat.le_refl _))]
theorem rt_bk {M : Mm} {n : Nat} {one two : Nat → Nat} (h4 : n ≤ 4) (r1 : M.1 69 1 = nI n) (o1 : IA M 98 n one) (o2 : IA M 102 n two) : Wp (loop (fun v => f_X10_leastTree_L157 v.1 v.2) FU (nI 0, M)) (fun M' => IA M' 81 n one ∧ IA M' 100 n two ∧ ∀ k, k ≠ 81 → k ≠ 100 → M'.1 k = M.1 k ∧ M'.2 k = M.2 k) := by
  refine wp_for (step := fun v => f_X10_leastTree_L157 v.1 v.2) (fun i M' => IA M' 81 i one ∧ IA M' 100 i two ∧ ∀ k, k ≠ 81 → k ≠ 100 → M'.1 k = M.1 k ∧ M'.2 k = M.2 k) n (by omega) ?_ ?_ ⟨IA.nil, IA.nil, fun _ _ _ => ⟨rfl, rfl⟩⟩
  · rintro i M1 hi ⟨a1, a2, a3⟩
    have q : ∀ k, k ≠ 81 → k ≠ 100 → M1.1 k = M.1 k := fun k h1 h2 => (a3 k h1 h2).1
    show Wp (f_X10_leastTree_L157 (nI i) M1) _
    unfold f_X10_leastTree_L157
    rw [q 69 (by omega) (by omega), r1, if_neg (by rw [pz_le (by omega) (by omega)]; omega), pz_rd (by omega) (by omega), q 98 (by omega) (by omega), o1 i hi, pz_wr (by omega) (by omega), pz_rd (by omega) (by omega), wi_n _ _ _ (show 102 ≠ 81 by omega), q 102 (by omega) (by omega), o2 i hi, pz_wr (by omega) (by omega), pz_lt1, pz_1, pz_add]
    refine wp_s ⟨_, rfl, (a1.snoc rfl).wn (by omega), (a2.wn (by omega)).snoc rfl, fun k h1 h2 => ⟨?_, (a3 k h1 h2).2⟩⟩
    rw [wi_n _ _ _ h2, wi_n _ _ _ h1]; exact q k h1 h2
  · rintro M1 ⟨a1, a2, a3⟩
    show f_X10_leastTree_L157 (nI n) M1 = _
    unfold f_X10_leastTree_L157
    rw [(a3 69 (by omega) (by omega)).1, r1, if_pos ((nI_leI (by omega) (by omega)).mpr (Nat.le_refl _))]
theorem KS.k2 {M M' : Mm} {a b : Nat} (h : ∀ k, k ≠ a → k ≠ b → M'.1 k = M.1 k ∧ M'.2 k = M.2 k) (ha : 74 ≤ a ∧ a ≤ 104) (hb : 74 ≤ b ∧ b ≤ 104) : KS M M' := ⟨fun k hk => (h k (by omega) (by omega)).1, fun j _ => by rw [(h 69 (by omega) (by omega)).1], fun k hk => (h k (by omega) (by omega)).2⟩
theorem RGr.all {n f o : Nat} {M0 M : Mm} {z : Gz} {t : Nat} (ho : o < fac n) (hf : f < 4 ^ n) (ht : t = o * 4 ^ n + f) (hz : gst n f (ordN n o) n = some z) (g : RGr n f (ordN n o) M0 z M) : M.1 69 8 = nI (roT n t) ∧ (∀ b, b < n → M.1 79 b = cv (lfT n t b)) ∧ ∀ b, b < n → M.1 80 b = cv (rtT n t b) := by
  have ze := ztT_e (n := n) (o := o) hf
  rw [← ht] at ze
  have vz := vT_of (ze.1.trans hz)
  refine ⟨by rw [ze.2]; exact g.r8, fun b hb => ?_, fun b hb => ?_⟩
  · obtain ⟨k, k1, k2⟩ := (ord_perm ho).sur hb
    rw [← k2, vz.2.1]; exact (g.lr k k1).1
  · obtain ⟨k, k1, k2⟩ := (ord_perm ho).sur hb
    rw [← k2, vz.2.2]; exact (g.lr k k1).2
theorem rt_in {M0 : Mm} {n tb : Nat} {w h : Nat → Nat} {o f : Nat} {M : Mm} (y : SZ n tb w h) (p : RTI M0 n tb w h o (o * 4 ^ n + f) M) (ho : o < fac n) (hf : f < 4 ^ n) :
    Wp (f_X10_leastTree_L25 (nI (4 ^ n)) (nI f) M) (fun r => ∃ M', r = .inl (nI (f + 1), M') ∧ RTI M0 n tb w h o (o * 4 ^ n + f + 1) M') := by
  have h1 := y.n1
  have h4 := y.n4
  have fb := p4_bd h4
  have ze := ztT_e (n := n) (o := o) hf
  have tlt := lex_l2 ho hf
  have hJ : ∀ M1, RTI M0 n tb w h o (o * 4 ^ n + f + 1) M1 → Wp (f_X10_leastTree_J134 (nI f) M1) (fun r => ∃ M', r = .inl (nI (f + 1), M') ∧ RTI M0 n tb w h o (o * 4 ^ n + f + 1) M') := by
    intro M1 p1
    unfold f_X10_leastTree_J134
    rw [pz_1, pz_add, pz_lt1]
    exact wp_s ⟨M1, rfl, p1⟩
  unfold f_X10_leastTree_L25
  rw [if_neg (by rw [pz_le (by omega) (by omega)]; omega), pz_0]
  refine wp_b (rcd_ok h4 hf p.x.n) ?_
  rintro M1 ⟨a1, a2⟩
  have q1 : ∀ k, k ≠ 100 → M1.1 k = M.1 k := fun k hk => a2.1 k (fun h => by unfold SB at h; omega)
  have p1 : RTI M0 n tb w h o (o * 4 ^ n + f) M1 := p.kp (KS.sb a2 (by omega) (by omega)) (q1 81 (by omega)) (q1 98 (by omega)) (q1 102 (by omega)) (by rw [q1 69 (by omega)]) (by rw [q1 69 (by omega)])
  unfold f_X10_leastTree_A33
  have hdv := dvm (i := o) hf
  generalize ht : o * 4 ^ n + f = t at *
  refine wp_b2 (rmt_ok (f := f) h1 h4 (ord_perm ho) p1.x.n p1.o1 (fun i hi => a1 i hi)) ?_
  rintro r M2 ⟨km, ⟨r1, z, z1, z2, z3, z4⟩ | ⟨r0, hz⟩⟩
  · have r1 : r = nI 1 := r1
    have km : KM M1 M2 := km
    have z4 : RGr n f (ordN n o) M1 z M2 := z4
    have p2 : RTI M0 n tb w h o t M2 := p1.kp (KS.km km) (km.1 81 (by omega) (by omega) (by omega) (by omega)) (km.1 98 (by omega) (by omega) (by omega) (by omega)) (km.1 102 (by omega) (by omega) (by omega) (by omega)) (km.2.1 39 (by omega) (by omega)) (km.2.1 40 (by omega) (by omega))
    have vz := vT_of (ze.1.trans z1)
    have hv : vT n t = true := vz.1.mpr z2
    have hE := tE_ok h1 h4 tlt hv
    obtain ⟨l8, l1, l2⟩ := z4.all ho hf ht.symm z1
    obtain ⟨G, g1, g2⟩ := p2.cs
    have gbd : ∀ u, gT n w h t u < 2147483647 := fun u => (gt_bd hE (by omega) (y.sw u) (y.sh u)).2.2
    rw [r1, pz_0, if_neg (by decide), pz_3]
    refine wp_b2 (tt_ok (kk := 3) (n := n) (tb := tb) (G := G) (f := gT n w h t) (Or.inr (Or.inr rfl)) (by omega) y.tb p2.x.n p2.x.tb g1 gbd (fun M3 u hu K h7 => rtl_ok y ((KS.kt K).rx p2.x) hE (by rw [K.2.1 8 (by omega) (by omega) (by omega) (by omega) (by omega)]; exact l8) (fun b hb => by rw [K.1 79 (by omega) (by unfold SLr; omega)]; exact l1 b hb) (fun b hb => by rw [K.1 80 (by omega) (by unfold SLr; omega)]; exact l2 b hb) hu h7)) ?_
    rintro r M3 ⟨K, ⟨r0, b1, b2, b3⟩ | ⟨r1, u, b1, b2, b3, b4⟩⟩
    · have r0 : r = nI 0 := r0
      have K : KT M2 M3 := K
      rw [r0, if_pos rfl]
      refine hJ M3 ⟨(KS.kt K).rx p2.x, p2.o1.eq (K.1 81 (by omega) (by unfold SLr; omega)), p2.ks.tr (KS.kt K), ?_⟩
      rw [VT_y hv]
      exact RF.tt g2 g1 (gbd 0) b1 b2 (fun s u d => d.eq b3 (K.1 98 (by omega) (by unfold SLr; omega)) (K.1 102 (by omega) (by unfold SLr; omega)))
    · have r1 : r = nI 1 := r1
      have K : KT M2 M3 := K
      have b3 : M3.1 69 39 = nI (gT n w h t u) := b3
      have b4 : M3.1 69 40 = nI u := b4
      have o1 := p2.o1.eq (K.1 81 (by omega) (by unfold SLr; omega))
      have c100 : IA M3 100 n (cdF n f) := (a1.eq (km.1 100 (by omega) (by omega) (by omega) (by omega))).eq (K.1 100 (by omega) (by unfold SLr; omega))
      have x3 := (KS.kt K).rx p2.x
      rw [r1, if_neg (by decide)]
      refine wp_b (rt_cp h4 x3.n o1 c100) ?_
      rintro M4 ⟨c1, c2, c3⟩
      have q4 : ∀ k, k ≠ 98 → k ≠ 102 → M4.1 k = M3.1 k := fun k h1 h2 => (c3 k h1 h2).1
      have ks4 : KS M3 M4 := KS.k2 c3 (by omega) (by omega)
      unfold f_X10_leastTree_A91
      refine hJ M4 ⟨ks4.rx x3, o1.eq (q4 81 (by omega) (by omega)), (p2.ks.tr (KS.kt K)).tr ks4, gT n w h t u, Or.inr ⟨by rw [q4 69 (by omega) (by omega)]; exact b3, gbd u⟩, ?_⟩
      rw [VT_y hv]
      refine g2.nw b1 b2 ⟨by rw [q4 69 (by omega) (by omega)]; exact b4, ?_, ?_⟩
      · rw [hdv.1]; exact c1
      · rw [hdv.2]; exact c2
  · have r0 : r = nI 0 := r0
    have km : KM M1 M2 := km
    have p2 : RTI M0 n tb w h o t M2 := p1.kp (KS.km km) (km.1 81 (by omega) (by omega) (by omega) (by omega)) (km.1 98 (by omega) (by omega) (by omega) (by omega)) (km.1 102 (by omega) (by omega) (by omega) (by omega)) (km.2.1 39 (by omega) (by omega)) (km.2.1 40 (by omega) (by omega))
    have hv : vT n t = false := vT_n (fun z hz' => hz z (ze.1.symm.trans hz'))
    rw [r0, pz_0, if_pos rfl]
    refine hJ M2 ⟨p2.x, p2.o1, p2.ks, ?_⟩
    rw [VT_n hv]
    exact p2.cs
theorem rt_out {M0 : Mm} {n tb : Nat} {w h : Nat → Nat} {o : Nat} {M : Mm} (y : SZ n tb w h) (p : RTI M0 n tb w h o (o * 4 ^ n) M) (ho : o < fac n) :
    Wp (f_X10_leastTree_L10 (nI 1) M) (fun r => ∃ M', r = .inl ((if o + 1 = fac n then nI 0 else nI 1), M') ∧ RTI M0 n tb w h (if o + 1 = fac n then fac n - 1 else o + 1) ((o + 1) * 4 ^ n) M') := by
  have h4 := y.n4
  have pb := p4_bd h4
  unfold f_X10_leastTree_L10
  rw [p.x.n, p4_tab n (by omega), pz_0, if_neg (by decide), pz_lt1]
  refine wp_b (P := fun M' => RTI M0 n tb w h o ((o + 1) * 4 ^ n) M') ?_ ?_
  · refine wp_l (fun f (v : Int32 × Mm) => v.1 = nI f ∧ RTI M0 n tb w h o (o * 4 ^ n + f) v.2) (4 ^ n) (fu_lt (by omega)) ?_ ?_ ⟨rfl, p⟩
    · rintro f ⟨v, M1⟩ hf ⟨a1, a2⟩
      have a1 : v = nI f := a1
      subst a1
      refine wp_m (rt_in y a2 ho hf) ?_
      rintro r ⟨M', rfl, p'⟩
      exact Or.inl ⟨_, rfl, rfl, p'⟩
    · rintro ⟨v, M1⟩ ⟨a1, a2⟩
      have a1 : v = nI (4 ^ n) := a1
      subst a1
      have a2 : RTI M0 n tb w h o (o * 4 ^ n + 4 ^ n) M1 := a2
      show Wp (f_X10_leastTree_L25 (nI (4 ^ n)) (nI (4 ^ n)) M1) _
      unfold f_X10_leastTree_L25
      rw [if_pos ((nI_leI (by omega) (by omega)).mpr (Nat.le_refl _))]
      refine wp_s ⟨M1, rfl, ?_⟩
      rw [Nat.succ_mul]; exact a2
  · intro M2 p2
    unfold f_X10_leastTree_A25
    rw [p2.x.n]
    refine wp_b2 (p2.n81 y ho) ?_
    rintro r M3 ⟨c1, c2⟩
    have c1 : r = _ := c1
    rw [c1]
    exact wp_s ⟨M3, rfl, c2⟩
def tv (n : Nat) : Nat := [0, 3, 7, 23, 87].getD n 0
set_option maxRecDepth 100000 in
theorem tv_tab : ∀ n, n < 5 → 1 ≤ n → vT n (tv n) = true ∧ tv n < fac n * 4 ^ n := by decide +kernel
theorem VT_ne {n : Nat} (h1 : 1 ≤ n) (h4 : n ≤ 4) : VT n (fac n * 4 ^ n) ≠ [] := fun e => by
  have t := tv_tab n (by omega) h1
  have : tv n ∈ VT n (fac n * 4 ^ n) := List.mem_filter.mpr ⟨List.mem_range.mpr t.2, t.1⟩
  rw [e] at this
  cases this
theorem rts_ok {M : Mm} {n tb : Nat} {w h : Nat → Nat} (y : SZ n tb w h) (x : RX M n tb w h) (h39 : M.1 69 39 = m1) : Wp (f_X10_leastTree M) (fun M' => KS M M' ∧ ∃ t u, Bst (gT n w h) tb (VT n (fac n * 4 ^ n)) t u ∧ M'.1 69 39 = nI (gT n w h t u) ∧ M'.1 69 40 = nI u ∧ M'.1 69 8 = nI (roT n t) ∧ (∀ b, b < n → M'.1 79 b = cv (lfT n t b)) ∧ ∀ b, b < n → M'.1 80 b = cv (rtT n t b)) := by
  have h1 := y.n1
  have h4 := y.n4
  have fb := fac_bd h4
  have pb := p4_bd h4
  unfold f_X10_leastTree
  refine wp_b (rfi_ok (k1 := 81) h1 h4 (by omega) x.n) ?_
  rintro M1 ⟨a1, a2⟩
  have q : ∀ k, k ≠ 81 → M1.1 k = M.1 k := fun k hk => a2.1 k (fun h => by unfold SB at h; omega)
  have ks1 : KS M M1 := KS.sb a2 (by omega) (by omega)
  rw [pz_1]
  have p0 : RTI M n tb w h 0 (0 * 4 ^ n) M1 := ⟨ks1.rx x, a1, ks1, 2147483647, Or.inl ⟨by rw [q 69 (by omega)]; exact h39, rfl⟩, Or.inl ⟨by rw [Nat.zero_mul]; rfl, rfl⟩⟩
  refine wp_b (P := fun M' => ∃ i, RTI M n tb w h i (fac n * 4 ^ n) M') ?_ ?_
  · refine wp_l (fun i (v : Int32 × Mm) => v.1 = (if i = fac n then nI 0 else nI 1) ∧ RTI M n tb w h (if i = fac n then fac n - 1 else i) (i * 4 ^ n) v.2) (fac n) (fu_lt (by omega)) ?_ ?_ ⟨by rw [if_neg (by omega)], by rw [if_neg (by omega)]; exact p0⟩
    · rintro i ⟨v, M2⟩ hi ⟨b1, b2⟩
      have b1 : v = (if i = fac n then nI 0 else nI 1) := b1
      rw [if_neg (by omega)] at b1 b2
      subst b1
      refine wp_m (rt_out y b2 hi) ?_
      rintro r ⟨M', rfl, p'⟩
      exact Or.inl ⟨_, rfl, rfl, p'⟩
    · rintro ⟨v, M2⟩ ⟨b1, b2⟩
      have b1 : v = (if fac n = fac n then nI 0 else nI 1) := b1
      rw [if_pos rfl] at b1
      subst b1
      show Wp (f_X10_leastTree_L10 (nI 0) M2) _
      unfold f_X10_leastTree_L10
      rw [pz_0, if_pos rfl]
      exact wp_s ⟨M2, rfl, _, b2⟩
  · rintro M2 ⟨i, p2⟩
    obtain ⟨G, g1, g2⟩ := p2.cs
    obtain ⟨t, u, t1, t2, t3⟩ := g2.get (VT_ne h1 h4)
    obtain ⟨tl, tv'⟩ := VT_mem t1.mem
    have hE := tE_ok h1 h4 tl tv'
    have ho : t / 4 ^ n < fac n := Nat.div_lt_of_lt_mul (by rw [Nat.mul_comm]; exact tl)
    have hf : t % 4 ^ n < 4 ^ n := Nat.mod_lt _ (by omega)
    have hte : t = t / 4 ^ n * 4 ^ n + t % 4 ^ n := by
      have := Nat.div_add_mod t (4 ^ n)
      rw [Nat.mul_comm] at this
      exact this.symm
    have c39 : M2.1 69 39 = nI (gT n w h t u) := by
      rcases g1 with ⟨_, e⟩ | ⟨e, _⟩
      · have : gT n w h t u < 2147483647 := (gt_bd hE (by omega) (y.sw u) (y.sh u)).2.2
        omega
      · rw [e, t2]
    unfold f_X10_leastTree_A10
    rw [pz_0]
    refine wp_b (rt_bk h4 p2.x.n t3.2.1 t3.2.2) ?_
    rintro M3 ⟨d1, d2, d3⟩
    have q3 : ∀ k, k ≠ 81 → k ≠ 100 → M3.1 k = M2.1 k := fun k h1 h2 => (d3 k h1 h2).1
    have ks3 : KS M2 M3 := KS.k2 d3 (by omega) (by omega)
    unfold f_X10_leastTree_A157
    refine wp_b2 (rmt_ok (f := t % 4 ^ n) h1 h4 (ord_perm ho) (ks3.rx p2.x).n d1 (fun i hi => d2 i hi)) ?_
    rintro r M4 ⟨km, ⟨r1, z, z1, z2, z3, z4⟩ | ⟨r0, hz⟩⟩
    · have km : KM M3 M4 := km
      obtain ⟨l8, l1, l2⟩ := RGr.all ho hf hte z1 z4
      exact wp_s ⟨(p2.ks.tr ks3).tr (KS.km km), t, u, t1, by rw [km.2.1 39 (by omega) (by omega), q3 69 (by omega) (by omega)]; exact c39, by rw [km.2.1 40 (by omega) (by omega), q3 69 (by omega) (by omega)]; exact t3.1, l8, l1, l2⟩
    · have : vT n t = false := vT_n hz
      rw [this] at tv'
      cases tv'
