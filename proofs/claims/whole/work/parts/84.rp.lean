/-! the reference searches pairs -/
def SZ (n tb : Nat) (w h : Nat → Nat) : Prop :=
  (1 ≤ n) ∧
  (n ≤ 4) ∧
  (tb < 2 ^ n) ∧
  (∀ b, b < n → 1 ≤ w b ∧ w b ≤ 200) ∧
  (∀ b, b < n → 1 ≤ h b ∧ h b ≤ 200)
theorem SZ.n1 {n tb : Nat} {w h : Nat → Nat} (hh_ : SZ n tb w h) : 1 ≤ n := hh_.1
theorem SZ.n4 {n tb : Nat} {w h : Nat → Nat} (hh_ : SZ n tb w h) : n ≤ 4 := hh_.2.1
theorem SZ.tb {n tb : Nat} {w h : Nat → Nat} (hh_ : SZ n tb w h) : tb < 2 ^ n := hh_.2.2.1
theorem SZ.w {n tb : Nat} {w h : Nat → Nat} (hh_ : SZ n tb w h) : ∀ b, b < n → 1 ≤ w b ∧ w b ≤ 200 := hh_.2.2.2.1
theorem SZ.h {n tb : Nat} {w h : Nat → Nat} (hh_ : SZ n tb w h) : ∀ b, b < n → 1 ≤ h b ∧ h b ≤ 200 := hh_.2.2.2.2
theorem SZ.sw {n tb : Nat} {w h : Nat → Nat} (y : SZ n tb w h) (u : Nat) : ∀ b, b < n → 1 ≤ swd w h u b ∧ swd w h u b ≤ 200 := fun b hb => swd_le y.w y.h hb
theorem SZ.sh {n tb : Nat} {w h : Nat → Nat} (y : SZ n tb w h) (u : Nat) : ∀ b, b < n → 1 ≤ swd h w u b ∧ swd h w u b ≤ 200 := fun b hb => swd_le y.h y.w hb
theorem SZ.u4 {n tb : Nat} {w h : Nat → Nat} (y : SZ n tb w h) {u : Nat} (hu : u &&& tb = u) : u < 4096 := p12 (sub_lt hu y.tb) (by have := y.n4; omega)
def RX (M : Mm) (n tb : Nat) (w h : Nat → Nat) : Prop :=
  (M.1 69 1 = nI n) ∧
  (IA M 70 n w) ∧
  (IA M 71 n h) ∧
  (IA M 73 n (fun b => (tb.testBit b).toNat))
theorem RX.n {M : Mm} {n tb : Nat} {w h : Nat → Nat} (hh_ : RX M n tb w h) : M.1 69 1 = nI n := hh_.1
theorem RX.w {M : Mm} {n tb : Nat} {w h : Nat → Nat} (hh_ : RX M n tb w h) : IA M 70 n w := hh_.2.1
theorem RX.h {M : Mm} {n tb : Nat} {w h : Nat → Nat} (hh_ : RX M n tb w h) : IA M 71 n h := hh_.2.2.1
theorem RX.tb {M : Mm} {n tb : Nat} {w h : Nat → Nat} (hh_ : RX M n tb w h) : IA M 73 n (fun b => (tb.testBit b).toNat) := hh_.2.2.2
def KS (M M' : Mm) : Prop := (∀ k, k < 69 ∨ (70 ≤ k ∧ k ≤ 73) ∨ 104 < k → M'.1 k = M.1 k) ∧ (∀ j, j = 0 ∨ j = 1 ∨ j = 41 → M'.1 69 j = M.1 69 j) ∧ ∀ k, k < 74 ∨ 104 < k → M'.2 k = M.2 k
theorem KS.rf {M : Mm} : KS M M := ⟨fun _ _ => rfl, fun _ _ => rfl, fun _ _ => rfl⟩
theorem KS.tr {M M' M'' : Mm} (h : KS M M') (h2 : KS M' M'') : KS M M'' := ⟨fun k a => (h2.1 k a).trans (h.1 k a), fun j a => (h2.2.1 j a).trans (h.2.1 j a), fun k a => (h2.2.2 k a).trans (h.2.2 k a)⟩
theorem KS.kt {M M' : Mm} (h : KT M M') : KS M M' := ⟨fun k hk => h.1 k (by omega) (by unfold SLr; omega), fun j hj => h.2.1 j (by omega) (by omega) (by omega) (by omega) (by omega), fun k hk => h.2.2 k (by omega)⟩
theorem KS.sb {k1 k2 : Nat} {M M' : Mm} (h : Fr (SB k1 k2) M M') (h1 : 74 ≤ k1) (h2 : k2 ≤ 104) : KS M M' := ⟨fun k hk => h.1 k (fun q => by unfold SB at q; omega), fun j _ => by rw [h.1 69 (fun q => by unfold SB at q; omega)], fun k hk => h.2 k (fun q => by unfold SB at q; omega)⟩
theorem KS.w {M M' : Mm} (h : KS M M') {k i : Nat} {v : Int32} (hk : (74 ≤ k ∧ k ≤ 104) ∨ (k = 69 ∧ i ≠ 0 ∧ i ≠ 1 ∧ i ≠ 41)) : KS M (wi M' k i v) := by
  refine ⟨fun j hj => ?_, fun j hj => ?_, h.2.2⟩
  · rw [wi_n _ _ _ (by omega)]; exact h.1 j hj
  · rw [wi_1, if_neg (by omega)]; exact h.2.1 j hj
theorem KS.rx {M M' : Mm} {n tb : Nat} {w h : Nat → Nat} (k : KS M M') (x : RX M n tb w h) : RX M' n tb w h := ⟨by rw [k.2.1 1 (by omega)]; exact x.n, x.w.eq (k.1 70 (by omega)), x.h.eq (k.1 71 (by omega)), x.tb.eq (k.1 73 (by omega))⟩
theorem KS.fw {M M' : Mm} (h : KS M M') : Fr SRw M M' := ⟨fun k hk => h.1 k (by unfold SRw at hk; omega), fun k hk => h.2.2 k (by unfold SRw at hk; omega)⟩
/-- the reference's find -/
def RF {τ : Type} (g : τ → Nat → Nat) (tb : Nat) (D : Mm → τ → Nat → Prop) (V : List τ) (M : Mm) : Prop := ∃ G, ((M.1 69 39 = m1 ∧ G = 2147483647) ∨ (M.1 69 39 = nI G ∧ G < 2147483647)) ∧ CS g tb V G (D M)
theorem RF.eq {τ : Type} {g : τ → Nat → Nat} {tb : Nat} {D : Mm → τ → Nat → Prop} {V : List τ} {M M' : Mm} (h : RF g tb D V M) (e : M'.1 69 39 = M.1 69 39) (hd : ∀ t u, D M t u → D M' t u) : RF g tb D V M' := by
  obtain ⟨G, a, b⟩ := h
  exact ⟨G, by rw [e]; exact a, b.mp hd⟩
/-- a telling tried -/
theorem RF.tt {τ : Type} {g : τ → Nat → Nat} {tb : Nat} {D E : Mm → τ → Nat → Prop} {V : List τ} {M M' : Mm} {t : τ} {G : Nat} (h : CS g tb V G (D M)) (hG : (M.1 69 39 = m1 ∧ G = 2147483647) ∨ (M.1 69 39 = nI G ∧ G < 2147483647)) (hb : g t 0 < 2147483647) (h0 : ∀ u, u &&& tb = u → G ≤ g t u) (e : M'.1 69 39 = M.1 69 39) (hd : ∀ s u, D M s u → E M' s u) : RF g tb E (V ++ [t]) M' :=
  ⟨G, by rw [e]; exact hG, h.skip (fun s hs v hv => by rw [List.mem_singleton.mp hs]; exact h0 v hv) (fun s hs => by rw [List.mem_singleton.mp hs]; exact hb) hd⟩
def RDP (n : Nat) (M : Mm) (t u : Nat) : Prop := M.1 69 40 = nI u ∧ IA M 98 n (ordN n (t / fac n)) ∧ IA M 99 n (ordN n (t % fac n))
theorem RDP.eq {n : Nat} {M M' : Mm} {t u : Nat} (h : RDP n M t u) (e : M'.1 69 40 = M.1 69 40) (e1 : M'.1 98 = M.1 98) (e2 : M'.1 99 = M.1 99) : RDP n M' t u := ⟨by rw [e]; exact h.1, h.2.1.eq e1, h.2.2.eq e2⟩
def RPI (M0 : Mm) (n tb : Nat) (w h : Nat → Nat) (i j T : Nat) (M : Mm) : Prop :=
  (RX M n tb w h) ∧
  (IA M 76 n (ordN n i)) ∧
  (IA M 77 n (ordN n j)) ∧
  (KS M0 M) ∧
  (RF (gP n w h) tb (RDP n) (List.range T) M)
theorem RPI.x {M0 : Mm} {n tb : Nat} {w h : Nat → Nat} {i j T : Nat} {M : Mm} (hh_ : RPI M0 n tb w h i j T M) : RX M n tb w h := hh_.1
theorem RPI.o1 {M0 : Mm} {n tb : Nat} {w h : Nat → Nat} {i j T : Nat} {M : Mm} (hh_ : RPI M0 n tb w h i j T M) : IA M 76 n (ordN n i) := hh_.2.1
theorem RPI.o2 {M0 : Mm} {n tb : Nat} {w h : Nat → Nat} {i j T : Nat} {M : Mm} (hh_ : RPI M0 n tb w h i j T M) : IA M 77 n (ordN n j) := hh_.2.2.1
theorem RPI.ks {M0 : Mm} {n tb : Nat} {w h : Nat → Nat} {i j T : Nat} {M : Mm} (hh_ : RPI M0 n tb w h i j T M) : KS M0 M := hh_.2.2.2.1
theorem RPI.cs {M0 : Mm} {n tb : Nat} {w h : Nat → Nat} {i j T : Nat} {M : Mm} (hh_ : RPI M0 n tb w h i j T M) : RF (gP n w h) tb (RDP n) (List.range T) M := hh_.2.2.2.2
def RPO (M0 : Mm) (n tb : Nat) (w h : Nat → Nat) (i T : Nat) (M : Mm) : Prop :=
  (RX M n tb w h) ∧
  (IA M 76 n (ordN n i)) ∧
  (KS M0 M) ∧
  (RF (gP n w h) tb (RDP n) (List.range T) M)
theorem RPO.x {M0 : Mm} {n tb : Nat} {w h : Nat → Nat} {i T : Nat} {M : Mm} (hh_ : RPO M0 n tb w h i T M) : RX M n tb w h := hh_.1
theorem RPO.o1 {M0 : Mm} {n tb : Nat} {w h : Nat → Nat} {i T : Nat} {M : Mm} (hh_ : RPO M0 n tb w h i T M) : IA M 76 n (ordN n i) := hh_.2.1
theorem RPO.ks {M0 : Mm} {n tb : Nat} {w h : Nat → Nat} {i T : Nat} {M : Mm} (hh_ : RPO M0 n tb w h i T M) : KS M0 M := hh_.2.2.1
theorem RPO.cs {M0 : Mm} {n tb : Nat} {w h : Nat → Nat} {i T : Nat} {M : Mm} (hh_ : RPO M0 n tb w h i T M) : RF (gP n w h) tb (RDP n) (List.range T) M := hh_.2.2.2
theorem rgP_bd {n tb : Nat} {w h : Nat → Nat} (y : SZ n tb w h) {i j : Nat} (hj : j < fac n) (u : Nat) : gP n w h (i * fac n + j) u < 2147483647 := by
  rw [gP_e hj]
  exact gp_bd (by have := y.n4; omega) (ord_perm hj) (y.sw u) (y.sh u)
theorem rpl_ok {M : Mm} {n tb u : Nat} {w h one two : Nat → Nat} (y : SZ n tb w h) (x : RX M n tb w h) (o1 : IA M 76 n one) (o2 : IA M 77 n two) (p1 : PermN n one) (p2 : PermN n two) (hu : u &&& tb = u) (h7 : M.1 69 7 = nI u) :
    Wp (f_rlay 1 M) (fun M2 => KU M M2 ∧ ∃ a b, f_X10_allWide M2 = some (nI a) ∧ f_X10_allHigh M2 = some (nI b) ∧ a * b = gp one two n (swd w h u) (swd h w u)) := by
  have hn : n ≤ 12 := by have := y.n4; omega
  unfold f_rlay
  rw [if_pos rfl]
  refine wp_m (rlay_ok hn (y.u4 hu) y.w y.h x.n h7 x.w x.h o1 o2 p1 p2) ?_
  rintro M' ⟨a1, a2, a3, k1, k2, k3⟩
  have gb : GB n u w h (lpx (swd w h u) two (fun b => ps one b n) true n) (lpx (swd h w u) two (fun b => ps one b n) false n) := ⟨hn, y.u4 hu, y.w, y.h, fun b _ => lp_bd hn (y.sw u) p2 b, fun b _ => lp_bd hn (y.sh u) p2 b⟩
  have rg : RG M' n u w h (lpx (swd w h u) two (fun b => ps one b n) true n) (lpx (swd h w u) two (fun b => ps one b n) false n) := ⟨by rw [k2 1 (by omega)]; exact x.n, by rw [k2 7 (by omega)]; exact h7, x.w.eq (k1 70 (by omega) (by omega) (by omega)), x.h.eq (k1 71 (by omega) (by omega) (by omega)), a1, a2⟩
  exact ⟨⟨⟨fun k h1 h2 => k1 k h1 (fun e => h2 (Or.inl e)) (fun e => h2 (Or.inr (Or.inl e))), fun j h6 _ _ _ _ => k2 j h6, fun k _ => by rw [k3]⟩, k2 39 (by omega), k2 40 (by omega)⟩, _, _, raw_ok gb rg, rah_ok gb rg, rfl⟩
theorem RPI.n77 {M0 : Mm} {n tb : Nat} {w h : Nat → Nat} {i j T : Nat} {M : Mm} (y : SZ n tb w h) (p : RPI M0 n tb w h i j T M) (hj : j < fac n) : Wp (f_X10_next 77 (nI n) M) (fun r => r.1 = (if j + 1 = fac n then nI 0 else nI 1) ∧ RPI M0 n tb w h i (if j + 1 = fac n then fac n - 1 else j + 1) T r.2) := by
  have h4 := y.n4
  have nt := nx_tab n (by omega) y.n1 j hj
  have rn := rnx_ok (k1 := 77) y.n1 (by omega) p.o2 (ord12 h4 hj)
  by_cases e : j + 1 = fac n
  · rw [rn.2 (nt.2.mpr e), if_pos e, if_pos e, show fac n - 1 = j by omega]
    exact wp_s ⟨rfl, p⟩
  · rw [if_neg e, if_neg e]
    refine wp_m (rn.1 (fun z => e (nt.2.mp z))) ?_
    rintro ⟨r, M'⟩ ⟨a1, a2, a3⟩
    have q : ∀ k, k ≠ 77 → M'.1 k = M.1 k := fun k hk => a3.1 k (fun h => by unfold SB at h; omega)
    have a2 : IA M' 77 n (nxF n (ordN n j)) := a2
    have ks : KS M M' := KS.sb a3 (by omega) (by omega)
    refine ⟨a1, ks.rx p.x, p.o1.eq (q 76 (by omega)), a2.cg (fun k hk => ?_), p.ks.tr ks, p.cs.eq (by rw [q 69 (by omega)]) (fun t u d => d.eq (by rw [q 69 (by omega)]) (q 98 (by omega)) (q 99 (by omega)))⟩
    rw [nt.1 k hk, if_neg e]
theorem RPI.n76 {M0 : Mm} {n tb : Nat} {w h : Nat → Nat} {i j T : Nat} {M : Mm} (y : SZ n tb w h) (p : RPI M0 n tb w h i j T M) (hi : i < fac n) : Wp (f_X10_next 76 (nI n) M) (fun r => r.1 = (if i + 1 = fac n then nI 0 else nI 1) ∧ RPI M0 n tb w h (if i + 1 = fac n then fac n - 1 else i + 1) j T r.2) := by
  have h4 := y.n4
  have nt := nx_tab n (by omega) y.n1 i hi
  have rn := rnx_ok (k1 := 76) y.n1 (by omega) p.o1 (ord12 h4 hi)
  by_cases e : i + 1 = fac n
  · rw [rn.2 (nt.2.mpr e), if_pos e, if_pos e, show fac n - 1 = i by omega]
    exact wp_s ⟨rfl, p⟩
  · rw [if_neg e, if_neg e]
    refine wp_m (rn.1 (fun z => e (nt.2.mp z))) ?_
    rintro ⟨r, M'⟩ ⟨a1, a2, a3⟩
    have q : ∀ k, k ≠ 76 → M'.1 k = M.1 k := fun k hk => a3.1 k (fun h => by unfold SB at h; omega)
    have a2 : IA M' 76 n (nxF n (ordN n i)) := a2
    have ks : KS M M' := KS.sb a3 (by omega) (by omega)
    refine ⟨a1, ks.rx p.x, a2.cg (fun k hk => ?_), p.o2.eq (q 77 (by omega)), p.ks.tr ks, p.cs.eq (by rw [q 69 (by omega)]) (fun t u d => d.eq (by rw [q 69 (by omega)]) (q 98 (by omega)) (q 99 (by omega)))⟩
    rw [nt.1 k hk, if_neg e]
theorem rfi_ok {M : Mm} {k1 n : Nat} (h1 : 1 ≤ n) (h4 : n ≤ 4) (hk : k1 ≠ 69) (r1 : M.1 69 1 = nI n) : Wp (f_X10_first k1 M) (fun M' => IA M' k1 n (ordN n 0) ∧ Fr (SB k1 k1) M M') := by
  have ft := (fi_tab n (by omega) h1).1
  unfold f_X10_first
  rw [pz_0]
  refine wp_b (wp_for (step := fun v => f_X10_first_L2 k1 v.1 v.2) (fun i M' => IA M' k1 i (fun k => k) ∧ Fr (SB k1 k1) M M') n (by omega) ?_ ?_ ⟨IA.nil, Fr.rf⟩) ?_
  · rintro i M1 hi ⟨a1, a2⟩
    show Wp (f_X10_first_L2 k1 (nI i) M1) _
    unfold f_X10_first_L2
    rw [a2.1 69 (fun h => by unfold SB at h; omega), r1, if_neg (by rw [pz_le (by omega) (by omega)]; omega), pz_wr (by omega) (by omega), pz_lt1, pz_1, pz_add]
    exact wp_s ⟨_, rfl, a1.snoc rfl, a2.w ⟨Nat.le_refl _, Nat.le_refl _⟩⟩
  · rintro M1 ⟨a1, a2⟩
    show f_X10_first_L2 k1 (nI n) M1 = _
    unfold f_X10_first_L2
    rw [a2.1 69 (fun h => by unfold SB at h; omega), r1, if_pos ((nI_leI (by omega) (by omega)).mpr (Nat.le_refl _))]
  · rintro M1 ⟨a1, a2⟩
    exact wp_s ⟨a1.cg (fun k hk => (ft k hk).symm), a2⟩
theorem rp_cp {M : Mm} {n : Nat} {one two : Nat → Nat} (h4 : n ≤ 4) (r1 : M.1 69 1 = nI n) (o1 : IA M 76 n one) (o2 : IA M 77 n two) : Wp (loop (fun v => f_X10_leastPair_L38 v.1 v.2) FU (nI 0, M)) (fun M' => IA M' 98 n one ∧ IA M' 99 n two ∧ Fr (SB 98 99) M M') := by
  refine wp_for (step := fun v => f_X10_leastPair_L38 v.1 v.2) (fun i M' => IA M' 98 i one ∧ IA M' 99 i two ∧ Fr (SB 98 99) M M') n (by omega) ?_ ?_ ⟨IA.nil, IA.nil, Fr.rf⟩
  · rintro i M1 hi ⟨a1, a2, a3⟩
    have q : ∀ k, k < 98 → M1.1 k = M.1 k := fun k hk => a3.1 k (fun h => by unfold SB at h; omega)
    show Wp (f_X10_leastPair_L38 (nI i) M1) _
    unfold f_X10_leastPair_L38
    rw [q 69 (by omega), r1, if_neg (by rw [pz_le (by omega) (by omega)]; omega), pz_rd (by omega) (by omega), q 76 (by omega), o1 i hi, pz_wr (by omega) (by omega), pz_rd (by omega) (by omega), wi_n _ _ _ (show 77 ≠ 98 by omega), q 77 (by omega), o2 i hi, pz_wr (by omega) (by omega), pz_lt1, pz_1, pz_add]
    exact wp_s ⟨_, rfl, (a1.snoc rfl).wn (by omega), (a2.wn (by omega)).snoc rfl, (a3.w ⟨by omega, by omega⟩).w ⟨by omega, by omega⟩⟩
  · rintro M1 ⟨a1, a2, a3⟩
    show f_X10_leastPair_L38 (nI n) M1 = _
    unfold f_X10_leastPair_L38
    rw [a3.1 69 (fun h => by unfold SB at h; omega), r1, if_pos ((nI_leI (by omega) (by omega)).mpr (Nat.le_refl _))]
theorem rp_bk {M : Mm} {n : Nat} {one two : Nat → Nat} (h4 : n ≤ 4) (r1 : M.1 69 1 = nI n) (o1 : IA M 98 n one) (o2 : IA M 99 n two) : Wp (loop (fun v => f_X10_leastPair_L108 v.1 v.2) FU (nI 0, M)) (fun M' => IA M' 76 n one ∧ IA M' 77 n two ∧ Fr (SB 76 77) M M') := by
  refine wp_for (step := fun v => f_X10_leastPair_L108 v.1 v.2) (fun i M' => IA M' 76 i one ∧ IA M' 77 i two ∧ Fr (SB 76 77) M M') n (by omega) ?_ ?_ ⟨IA.nil, IA.nil, Fr.rf⟩
  · rintro i M1 hi ⟨a1, a2, a3⟩
    have q : ∀ k, k < 76 ∨ 77 < k → M1.1 k = M.1 k := fun k hk => a3.1 k (fun h => by unfold SB at h; omega)
    show Wp (f_X10_leastPair_L108 (nI i) M1) _
    unfold f_X10_leastPair_L108
    rw [q 69 (by omega), r1, if_neg (by rw [pz_le (by omega) (by omega)]; omega), pz_rd (by omega) (by omega), q 98 (by omega), o1 i hi, pz_wr (by omega) (by omega), pz_rd (by omega) (by omega), wi_n _ _ _ (show 99 ≠ 76 by omega), q 99 (by omega), o2 i hi, pz_wr (by omega) (by omega), pz_lt1, pz_1, pz_add]
    exact wp_s ⟨_, rfl, (a1.snoc rfl).wn (by omega), (a2.wn (by omega)).snoc rfl, (a3.w ⟨by omega, by omega⟩).w ⟨by omega, by omega⟩⟩
  · rintro M1 ⟨a1, a2, a3⟩
    show f_X10_leastPair_L108 (nI n) M1 = _
    unfold f_X10_leastPair_L108
    rw [a3.1 69 (fun h => by unfold SB at h; omega), r1, if_pos ((nI_leI (by omega) (by omega)).mpr (Nat.le_refl _))]
theorem rp_in {M0 : Mm} {n tb : Nat} {w h : Nat → Nat} {i j : Nat} {M : Mm} (y : SZ n tb w h) (p : RPI M0 n tb w h i j (i * fac n + j) M) (hi : i < fac n) (hj : j < fac n) :
    Wp (f_X10_leastPair_L24 (nI 1) M) (fun r => ∃ M', r = .inl ((if j + 1 = fac n then nI 0 else nI 1), M') ∧ RPI M0 n tb w h i (if j + 1 = fac n then fac n - 1 else j + 1) (i * fac n + j + 1) M') := by
  have h4 := y.n4
  have hJ : ∀ M1, RPI M0 n tb w h i j (i * fac n + j + 1) M1 → Wp (f_X10_leastPair_J76 M1) (fun r => ∃ M', r = .inl ((if j + 1 = fac n then nI 0 else nI 1), M') ∧ RPI M0 n tb w h i (if j + 1 = fac n then fac n - 1 else j + 1) (i * fac n + j + 1) M') := by
    intro M1 p1
    unfold f_X10_leastPair_J76
    rw [p1.x.n]
    refine wp_b2 (p1.n77 y hj) ?_
    rintro r M2 ⟨b1, b2⟩
    have b1 : r = _ := b1
    rw [b1]
    exact wp_s ⟨M2, rfl, b2⟩
  obtain ⟨G, g1, g2⟩ := p.cs
  unfold f_X10_leastPair_L24
  rw [pz_0, if_neg (by decide), pz_1]
  refine wp_b2 (tt_ok (kk := 1) (n := n) (tb := tb) (G := G) (f := gP n w h (i * fac n + j)) (Or.inl rfl) (by omega) y.tb p.x.n p.x.tb g1 (rgP_bd y hj) (fun M1 u hu K h7 => by
    rw [gP_e hj]
    exact rpl_ok y ((KS.kt K).rx p.x) (p.o1.eq (K.1 76 (by omega) (by unfold SLr; omega))) (p.o2.eq (K.1 77 (by omega) (by unfold SLr; omega))) (ord_perm hi) (ord_perm hj) hu h7)) ?_
  rintro r M1 ⟨K, ⟨r0, a1, a2, a3⟩ | ⟨r1, u, a1, a2, a3, a4⟩⟩
  · have r0 : r = nI 0 := r0
    have K : KT M M1 := K
    rw [r0, if_pos rfl]
    refine hJ M1 ⟨(KS.kt K).rx p.x, p.o1.eq (K.1 76 (by omega) (by unfold SLr; omega)), p.o2.eq (K.1 77 (by omega) (by unfold SLr; omega)), p.ks.tr (KS.kt K), ?_⟩
    rw [List.range_succ]
    exact RF.tt g2 g1 (rgP_bd y hj 0) a1 a2 (fun s u d => d.eq a3 (K.1 98 (by omega) (by unfold SLr; omega)) (K.1 99 (by omega) (by unfold SLr; omega)))
  · have r1 : r = nI 1 := r1
    have K : KT M M1 := K
    have a3 : M1.1 69 39 = nI (gP n w h (i * fac n + j) u) := a3
    have a4 : M1.1 69 40 = nI u := a4
    have o1 := p.o1.eq (K.1 76 (by omega) (by unfold SLr; omega))
    have o2 := p.o2.eq (K.1 77 (by omega) (by unfold SLr; omega))
    have x1 := (KS.kt K).rx p.x
    rw [r1, if_neg (by decide)]
    refine wp_b (rp_cp h4 x1.n o1 o2) ?_
    rintro M2 ⟨b1, b2, b3⟩
    have q : ∀ k, k < 98 → M2.1 k = M1.1 k := fun k hk => b3.1 k (fun h => by unfold SB at h; omega)
    have ks2 : KS M1 M2 := KS.sb b3 (by omega) (by omega)
    unfold f_X10_leastPair_A38
    refine hJ M2 ⟨ks2.rx x1, o1.eq (q 76 (by omega)), o2.eq (q 77 (by omega)), (p.ks.tr (KS.kt K)).tr ks2, gP n w h (i * fac n + j) u, Or.inr ⟨by rw [q 69 (by omega)]; exact a3, rgP_bd y hj u⟩, ?_⟩
    rw [List.range_succ]
    refine g2.nw a1 a2 ⟨by rw [q 69 (by omega)]; exact a4, ?_, ?_⟩
    · rw [(dvm hj).1]; exact b1
    · rw [(dvm hj).2]; exact b2
theorem rp_out {M0 : Mm} {n tb : Nat} {w h : Nat → Nat} {i : Nat} {M : Mm} (y : SZ n tb w h) (p : RPO M0 n tb w h i (i * fac n) M) (hi : i < fac n) :
    Wp (f_X10_leastPair_L10 (nI 1) M) (fun r => ∃ M', r = .inl ((if i + 1 = fac n then nI 0 else nI 1), M') ∧ RPO M0 n tb w h (if i + 1 = fac n then fac n - 1 else i + 1) ((i + 1) * fac n) M') := by
  have h4 := y.n4
  have fb := fac_bd h4
  unfold f_X10_leastPair_L10
  rw [pz_0, if_neg (by decide), pz_1]
  refine wp_b (rfi_ok (k1 := 77) y.n1 h4 (by omega) p.x.n) ?_
  rintro M1 ⟨a1, a2⟩
  have q : ∀ k, k ≠ 77 → M1.1 k = M.1 k := fun k hk => a2.1 k (fun h => by unfold SB at h; omega)
  have ks1 : KS M M1 := KS.sb a2 (by omega) (by omega)
  have p1 : RPI M0 n tb w h i 0 (i * fac n) M1 := ⟨ks1.rx p.x, p.o1.eq (q 76 (by omega)), a1, p.ks.tr ks1, p.cs.eq (by rw [q 69 (by omega)]) (fun t u d => d.eq (by rw [q 69 (by omega)]) (q 98 (by omega)) (q 99 (by omega)))⟩
  refine wp_b (P := fun M' => RPI M0 n tb w h i (fac n - 1) ((i + 1) * fac n) M') ?_ ?_
  · refine wp_l (fun j (v : Int32 × Mm) => v.1 = (if j = fac n then nI 0 else nI 1) ∧ RPI M0 n tb w h i (if j = fac n then fac n - 1 else j) (i * fac n + j) v.2) (fac n) (fu_lt (by omega)) ?_ ?_ ⟨by rw [if_neg (by omega)], by rw [if_neg (by omega)]; exact p1⟩
    · rintro j ⟨v, M2⟩ hj ⟨b1, b2⟩
      have b1 : v = (if j = fac n then nI 0 else nI 1) := b1
      rw [if_neg (by omega)] at b1 b2
      subst b1
      refine wp_m (rp_in y b2 hi hj) ?_
      rintro r ⟨M', rfl, p'⟩
      exact Or.inl ⟨_, rfl, rfl, p'⟩
    · rintro ⟨v, M2⟩ ⟨b1, b2⟩
      have b1 : v = (if fac n = fac n then nI 0 else nI 1) := b1
      rw [if_pos rfl] at b1 b2
      subst b1
      show Wp (f_X10_leastPair_L24 (nI 0) M2) _
      unfold f_X10_leastPair_L24
      rw [pz_0, if_pos rfl]
      refine wp_s ⟨M2, rfl, ?_⟩
      rw [Nat.succ_mul]; exact b2
  · intro M2 p2
    unfold f_X10_leastPair_A24
    rw [p2.x.n]
    refine wp_b2 (p2.n76 y hi) ?_
    rintro r M3 ⟨c1, c2⟩
    have c1 : r = _ := c1
    rw [c1]
    exact wp_s ⟨M3, rfl, c2.x, c2.o1, c2.ks, c2.cs⟩
theorem CS.get {τ : Type} {g : τ → Nat → Nat} {tb : Nat} {V : List τ} {G : Nat} {D : τ → Nat → Prop} (h : CS g tb V G D) (hV : V ≠ []) : ∃ t u, Bst g tb V t u ∧ G = g t u ∧ D t u := by
  rcases h with ⟨e, _⟩ | h
  · exact absurd e hV
  · exact h
theorem rps_ok {M : Mm} {n tb : Nat} {w h : Nat → Nat} (y : SZ n tb w h) (x : RX M n tb w h) (h39 : M.1 69 39 = m1) : Wp (f_X10_leastPair M) (fun M' => KS M M' ∧ ∃ t u, Bst (gP n w h) tb (List.range (fac n * fac n)) t u ∧ M'.1 69 39 = nI (gP n w h t u) ∧ M'.1 69 40 = nI u ∧ IA M' 76 n (ordN n (t / fac n)) ∧ IA M' 77 n (ordN n (t % fac n))) := by
  have h1 := y.n1
  have h4 := y.n4
  have fb := fac_bd h4
  unfold f_X10_leastPair
  refine wp_b (rfi_ok (k1 := 76) h1 h4 (by omega) x.n) ?_
  rintro M1 ⟨a1, a2⟩
  have q : ∀ k, k ≠ 76 → M1.1 k = M.1 k := fun k hk => a2.1 k (fun h => by unfold SB at h; omega)
  have ks1 : KS M M1 := KS.sb a2 (by omega) (by omega)
  rw [pz_1]
  have p0 : RPO M n tb w h 0 (0 * fac n) M1 := ⟨ks1.rx x, a1, ks1, 2147483647, Or.inl ⟨by rw [q 69 (by omega)]; exact h39, rfl⟩, Or.inl ⟨by rw [Nat.zero_mul]; rfl, rfl⟩⟩
  refine wp_b (P := fun M' => ∃ i, RPO M n tb w h i (fac n * fac n) M') ?_ ?_
  · refine wp_l (fun i (v : Int32 × Mm) => v.1 = (if i = fac n then nI 0 else nI 1) ∧ RPO M n tb w h (if i = fac n then fac n - 1 else i) (i * fac n) v.2) (fac n) (fu_lt (by omega)) ?_ ?_ ⟨by rw [if_neg (by omega)], by rw [if_neg (by omega)]; exact p0⟩
    · rintro i ⟨v, M2⟩ hi ⟨b1, b2⟩
      have b1 : v = (if i = fac n then nI 0 else nI 1) := b1
      rw [if_neg (by omega)] at b1 b2
      subst b1
      refine wp_m (rp_out y b2 hi) ?_
      rintro r ⟨M', rfl, p'⟩
      exact Or.inl ⟨_, rfl, rfl, p'⟩
    · rintro ⟨v, M2⟩ ⟨b1, b2⟩
      have b1 : v = (if fac n = fac n then nI 0 else nI 1) := b1
      rw [if_pos rfl] at b1
      subst b1
      show Wp (f_X10_leastPair_L10 (nI 0) M2) _
      unfold f_X10_leastPair_L10
      rw [pz_0, if_pos rfl]
      exact wp_s ⟨M2, rfl, _, b2⟩
  · rintro M2 ⟨i, p2⟩
    obtain ⟨G, g1, g2⟩ := p2.cs
    have hne : List.range (fac n * fac n) ≠ [] := fun e => by
      have := congrArg List.length e
      rw [List.length_range] at this
      have : 1 * 1 ≤ fac n * fac n := Nat.mul_le_mul fb.1 fb.1
      simp only [List.length_nil] at *
      omega
    obtain ⟨t, u, t1, t2, t3⟩ := g2.get hne
    have c39 : M2.1 69 39 = nI (gP n w h t u) := by
      rcases g1 with ⟨_, e⟩ | ⟨e, _⟩
      · have tm := List.mem_range.mp t1.mem
        have := gp_bd (one := ordN n (t / fac n)) (two := ordN n (t % fac n)) (n := n) (W := swd w h u) (H := swd h w u) (by omega) (ord_perm (Nat.mod_lt _ (by omega))) (y.sw u) (y.sh u)
        have : gP n w h t u < 2147483647 := this
        omega
      · rw [e, t2]
    unfold f_X10_leastPair_A10
    rw [pz_0]
    refine wp_b (rp_bk h4 p2.x.n t3.2.1 t3.2.2) ?_
    rintro M3 ⟨d1, d2, d3⟩
    have q3 : ∀ k, k < 76 ∨ 77 < k → M3.1 k = M2.1 k := fun k hk => d3.1 k (fun h => by unfold SB at h; omega)
    exact wp_s ⟨p2.ks.tr (KS.sb d3 (by omega) (by omega)), t, u, t1, by rw [q3 69 (by omega)]; exact c39, by rw [q3 69 (by omega)]; exact t3.1, d1, d2⟩
