/-! the class searches pairs -/
def SX (M : Mm) (n tb tc fl kf : Nat) (w h : Nat → Nat) : Prop :=
  (M.1 1 3 = nI n) ∧
  (M.1 1 2 = nI tb) ∧
  (IA M 2 n w) ∧
  (IA M 3 n h) ∧
  (M.1 34 7 = nI kf) ∧
  (M.1 34 8 = nI n) ∧
  (M.1 34 9 = nI tc) ∧
  (M.1 34 10 = nI fl)
theorem SX.n {M : Mm} {n tb tc fl kf : Nat} {w h : Nat → Nat} (hh_ : SX M n tb tc fl kf w h) : M.1 1 3 = nI n := hh_.1
theorem SX.tb {M : Mm} {n tb tc fl kf : Nat} {w h : Nat → Nat} (hh_ : SX M n tb tc fl kf w h) : M.1 1 2 = nI tb := hh_.2.1
theorem SX.w {M : Mm} {n tb tc fl kf : Nat} {w h : Nat → Nat} (hh_ : SX M n tb tc fl kf w h) : IA M 2 n w := hh_.2.2.1
theorem SX.h {M : Mm} {n tb tc fl kf : Nat} {w h : Nat → Nat} (hh_ : SX M n tb tc fl kf w h) : IA M 3 n h := hh_.2.2.2.1
theorem SX.s7 {M : Mm} {n tb tc fl kf : Nat} {w h : Nat → Nat} (hh_ : SX M n tb tc fl kf w h) : M.1 34 7 = nI kf := hh_.2.2.2.2.1
theorem SX.s8 {M : Mm} {n tb tc fl kf : Nat} {w h : Nat → Nat} (hh_ : SX M n tb tc fl kf w h) : M.1 34 8 = nI n := hh_.2.2.2.2.2.1
theorem SX.s9 {M : Mm} {n tb tc fl kf : Nat} {w h : Nat → Nat} (hh_ : SX M n tb tc fl kf w h) : M.1 34 9 = nI tc := hh_.2.2.2.2.2.2.1
theorem SX.s10 {M : Mm} {n tb tc fl kf : Nat} {w h : Nat → Nat} (hh_ : SX M n tb tc fl kf w h) : M.1 34 10 = nI fl := hh_.2.2.2.2.2.2.2
def SY (n tb tc fl kf : Nat) (w h : Nat → Nat) : Prop :=
  (1 ≤ n) ∧
  (n ≤ 4) ∧
  (tb < 2 ^ n) ∧
  (tc &&& tb = tc) ∧
  (∀ b, b < n → 1 ≤ w b ∧ w b ≤ 200) ∧
  (∀ b, b < n → 1 ≤ h b ∧ h b ≤ 200) ∧
  (fl = bar w h n) ∧
  (∀ v, v &&& tb = v → swd w h v = swd w h (v &&& tc) ∧ swd h w v = swd h w (v &&& tc)) ∧
  (65 ≤ kf ∧ kf < 69)
theorem SY.n1 {n tb tc fl kf : Nat} {w h : Nat → Nat} (hh_ : SY n tb tc fl kf w h) : 1 ≤ n := hh_.1
theorem SY.n4 {n tb tc fl kf : Nat} {w h : Nat → Nat} (hh_ : SY n tb tc fl kf w h) : n ≤ 4 := hh_.2.1
theorem SY.tb {n tb tc fl kf : Nat} {w h : Nat → Nat} (hh_ : SY n tb tc fl kf w h) : tb < 2 ^ n := hh_.2.2.1
theorem SY.tc {n tb tc fl kf : Nat} {w h : Nat → Nat} (hh_ : SY n tb tc fl kf w h) : tc &&& tb = tc := hh_.2.2.2.1
theorem SY.w {n tb tc fl kf : Nat} {w h : Nat → Nat} (hh_ : SY n tb tc fl kf w h) : ∀ b, b < n → 1 ≤ w b ∧ w b ≤ 200 := hh_.2.2.2.2.1
theorem SY.h {n tb tc fl kf : Nat} {w h : Nat → Nat} (hh_ : SY n tb tc fl kf w h) : ∀ b, b < n → 1 ≤ h b ∧ h b ≤ 200 := hh_.2.2.2.2.2.1
theorem SY.fl {n tb tc fl kf : Nat} {w h : Nat → Nat} (hh_ : SY n tb tc fl kf w h) : fl = bar w h n := hh_.2.2.2.2.2.2.1
theorem SY.sq {n tb tc fl kf : Nat} {w h : Nat → Nat} (hh_ : SY n tb tc fl kf w h) : ∀ v, v &&& tb = v → swd w h v = swd w h (v &&& tc) ∧ swd h w v = swd h w (v &&& tc) := hh_.2.2.2.2.2.2.2.1
theorem SY.kf {n tb tc fl kf : Nat} {w h : Nat → Nat} (hh_ : SY n tb tc fl kf w h) : 65 ≤ kf ∧ kf < 69 := hh_.2.2.2.2.2.2.2.2
theorem SX.eq {M M' : Mm} {n tb tc fl kf : Nat} {w h : Nat → Nat} (x : SX M n tb tc fl kf w h) (e : ∀ k, k = 1 ∨ k = 2 ∨ k = 3 ∨ k = 34 → M'.1 k = M.1 k) : SX M' n tb tc fl kf w h := by
  have e1 := e 1 (by omega)
  have e34 := e 34 (by omega)
  exact ⟨by rw [e1]; exact x.n, by rw [e1]; exact x.tb, x.w.eq (e 2 (by omega)), x.h.eq (e 3 (by omega)), by rw [e34]; exact x.s7, by rw [e34]; exact x.s8, by rw [e34]; exact x.s9, by rw [e34]; exact x.s10⟩
theorem SY.p16 {n tb tc fl kf : Nat} {w h : Nat → Nat} (y : SY n tb tc fl kf w h) : tb < 16 ∧ tc < 16 := by
  have h1 := sub_lt y.tc y.tb
  have h2 := y.tb
  have h3 : 2 ^ n ≤ 2 ^ 4 := Nat.pow_le_pow_right (by decide) y.n4
  omega
theorem SY.sub {n tb tc fl kf : Nat} {w h : Nat → Nat} (y : SY n tb tc fl kf w h) {u : Nat} (hu : u &&& tc = u) : u &&& tb = u := by rw [← hu, Nat.and_assoc, y.tc]
theorem SY.sw {n tb tc fl kf : Nat} {w h : Nat → Nat} (y : SY n tb tc fl kf w h) (u : Nat) : ∀ b, b < n → 1 ≤ swd w h u b ∧ swd w h u b ≤ 200 := fun b hb => swd_le y.w y.h hb
theorem SY.sh {n tb tc fl kf : Nat} {w h : Nat → Nat} (y : SY n tb tc fl kf w h) (u : Nat) : ∀ b, b < n → 1 ≤ swd h w u b ∧ swd h w u b ≤ 200 := fun b hb => swd_le y.h y.w hb
theorem lp_bd {n : Nat} {W two pos : Nat → Nat} {lf : Bool} (hn : n ≤ 12) (hW : ∀ b, b < n → 1 ≤ W b ∧ W b ≤ 200) (p2 : PermN n two) (b : Nat) : lpx W two pos lf n b ≤ 10000 := by
  have := lpx_le (W := W) (two := two) (pos := pos) (lf := lf) (j := n) (fun i hi => (hW _ (p2.1 i hi)).2) b
  omega
theorem mul_bd {a b : Nat} (ha : a ≤ 10200) (hb : b ≤ 10200) : a * b < 2147483647 := Nat.lt_of_le_of_lt (Nat.mul_le_mul ha hb) (by decide)
theorem gp_bd {n : Nat} {one two W H : Nat → Nat} (hn : n ≤ 12) (p2 : PermN n two) (hW : ∀ b, b < n → 1 ≤ W b ∧ W b ≤ 200) (hH : ∀ b, b < n → 1 ≤ H b ∧ H b ≤ 200) : gp one two n W H < 2147483647 :=
  mul_bd (rch_le (fun b _ => lp_bd hn hW p2 b) hW (Nat.le_refl _)) (rch_le (fun b _ => lp_bd hn hH p2 b) hH (Nat.le_refl _))
theorem prl_ok {M M1 : Mm} {n tb tc fl kf u : Nat} {w h one two : Nat → Nat} (y : SY n tb tc fl kf w h) (x : SX M n tb tc fl kf w h) (K : KL kf M M1) (o5 : M.1 42 5 = nI n) (o2 : IA M 44 n two) (o3 : IA M 45 n (fun b => ps one b n)) (p1 : PermN n one) (p2 : PermN n two) (hu : u &&& tc = u) :
    Wp (f_X2_take 36 (nI u) M1) (fun M2 => Wp (f_tlay 42 36 M2) (fun M3 => f_X2_area 36 M3 = some (nI (gp one two n (swd w h u) (swd h w u))) ∧ Fr SLy M1 M3)) := by
  have hn : n ≤ 12 := by have := y.n4; omega
  have kf := y.kf
  have q : ∀ k, k < 36 ∨ (42 ≤ k ∧ k ≤ 50) → M1.1 k = M.1 k := fun k hk => K.1 k (by unfold SLy; omega) (by omega)
  have hm : msk (nI u) tb = u := msk_nI (y.sub hu) (by have := sub_le hu; have := y.p16; omega)
  refine wp_m (take_ok (k0 := 36) (n := n) (tb := tb) (w := w) (h := h) (by omega) hn (by rw [q 1 (by omega)]; exact x.n) (by rw [q 1 (by omega)]; exact x.tb) y.tb (x.w.eq (q 2 (by omega))) (x.h.eq (q 3 (by omega))) (nI u)) ?_
  rintro M2 ⟨a1, a2, a3, a4, a5⟩
  rw [hm] at a2 a3 a4
  have q2 : ∀ k, 42 ≤ k → M2.1 k = M1.1 k := fun k hk => a5.1 k (fun h => by unfold SB at h; omega)
  unfold f_tlay
  rw [if_pos (Or.inr rfl)]
  refine wp_m (lay_ok (k0 := 42) (k1 := 36) (pos := fun b => ps one b n) hn (by omega) (by rw [q2 42 (by omega), q 42 (by omega)]; exact o5) ((o2.eq (q 44 (by omega))).eq (q2 44 (by omega))) p2 ((o3.eq (q 45 (by omega))).eq (q2 45 (by omega))) (fun b hb => by have := (p1.pl hb).1; show ps one b n < 12; omega) a3 a4 (y.sw u) (y.sh u)) ?_
  rintro M3 ⟨b1, b2, b3⟩
  have q3 : ∀ k, k < 37 ∨ 38 < k → M3.1 k = M2.1 k := fun k hk => b3.1 k (fun h => by unfold SB at h; omega)
  refine ⟨area_ok (k0 := 36) (by rw [q3 36 (by omega)]; exact a1) hn b1 (a3.eq (q3 39 (by omega))) b2 (a4.eq (q3 40 (by omega))) (fun b _ => lp_bd hn (y.sw u) p2 b) (y.sw u) (fun b _ => lp_bd hn (y.sh u) p2 b) (y.sh u), (a5.mono (fun k h => by unfold SB at h; unfold SLy; omega)).tr (b3.mono (fun k h => by unfold SB at h; unfold SLy; omega))⟩
/-! tellings of pairs by their number -/
def gP (n : Nat) (w h : Nat → Nat) (t u : Nat) : Nat := gp (ordN n (t / fac n)) (ordN n (t % fac n)) n (swd w h u) (swd h w u)
theorem dvm {F i j : Nat} (hj : j < F) : (i * F + j) / F = i ∧ (i * F + j) % F = j := by
  have h0 : 0 < F := by omega
  rw [Nat.mul_comm, Nat.mul_add_div h0, Nat.div_eq_of_lt hj, Nat.mul_add_mod, Nat.mod_eq_of_lt hj]
  exact ⟨Nat.add_zero i, rfl⟩
theorem gP_e {n i j : Nat} {w h : Nat → Nat} (hj : j < fac n) (u : Nat) : gP n w h (i * fac n + j) u = gp (ordN n i) (ordN n j) n (swd w h u) (swd h w u) := by
  unfold gP
  rw [(dvm hj).1, (dvm hj).2]
theorem lex_lt {F i j k l : Nat} (h : k < i) (hl : l < F) : k * F + l < i * F + j := by
  have : (k + 1) * F ≤ i * F := Nat.mul_le_mul_right F h
  rw [Nat.succ_mul] at this
  omega
theorem pdom {n i j : Nat} {w h : Nat → Nat} (h1 : 1 ≤ n) (h4 : n ≤ 4) (hi : i < fac n) (hj : j < fac n) (hno : ordN n i (n - 1) < ordN n i 0 ∨ ordN n j 0 < ordN n i 0 ∨ ordN n j (n - 1) < ordN n i 0) : ∃ s, s < i * fac n + j ∧ ∀ u, gP n w h s u = gP n w h (i * fac n + j) u := by
  have ri := rv_tab n (by omega) h1 i hi
  have rj := rv_tab n (by omega) h1 j hj
  have ft := (fi_tab n (by omega) h1).2
  have pi_ := ord_perm hi
  have pj := ord_perm hj
  have pri := ord_perm ri.1
  have prj := ord_perm rj.1
  rcases hno with q | q | q
  · have : rvi n i < i := ft _ ri.1 i hi (by rw [ri.2 0 (by omega), Nat.sub_zero]; exact q)
    refine ⟨rvi n i * fac n + rvi n j, lex_lt this rj.1, fun u => ?_⟩
    rw [gP_e rj.1, gP_e hj]
    exact gp_rv h1 pi_ pj pri prj ri.2 rj.2
  · have : j < i := ft j hj i hi q
    refine ⟨j * fac n + i, lex_lt this hi, fun u => ?_⟩
    rw [gP_e hi, gP_e hj]
    exact gp_sw h1 pi_ pj
  · have : rvi n j < i := ft _ rj.1 i hi (by rw [rj.2 0 (by omega), Nat.sub_zero]; exact q)
    refine ⟨rvi n j * fac n + rvi n i, lex_lt this ri.1, fun u => ?_⟩
    rw [gP_e ri.1, gP_e hj]
    exact (gp_rv h1 pj pi_ prj pri rj.2 ri.2).trans (gp_sw h1 pi_ pj)
def pk (n : Nat) (a : Nat → Nat) (i : Nat) : Nat := if i < n then a i else 15
theorem pk_ok {M : Mm} {k0 n : Nat} {a : Nat → Nat} (hn : n ≤ 12) (e : IA M k0 n a) (ha : ∀ i, i < n → a i < 16) : Wp (f_X9_pack 12 k0 (nI 0) (nI n) M) (fun v => P64 v (pk n a)) := by
  refine wp_m (pack_ok (n0 := 12) (a := 0) (e := n) (d := a) (by omega) (by omega) hn (fun i hi => ⟨e i hi, ha i hi⟩)) ?_
  intro v hv
  have : (fun i => if 0 + i < n then a (0 + i) else 15) = pk n a := by
    funext i
    rw [Nat.zero_add]; rfl
  rw [this] at hv
  exact hv
def DP (n kf : Nat) (M : Mm) (t u : Nat) : Prop := M.1 kf 4 = nI u ∧ P64 (M.2 kf 2) (pk n (ordN n (t / fac n))) ∧ P64 (M.2 kf 3) (pk n (ordN n (t % fac n)))
def SSr (kf k : Nat) : Prop := (34 ≤ k ∧ k ≤ 64) ∨ k = kf
/-- the find's cell: G, and what it says of the best of V -/
def CF {τ : Type} (g : τ → Nat → Nat) (tb kf : Nat) (D : Mm → τ → Nat → Prop) (V : List τ) (M : Mm) : Prop := ∃ G, M.1 kf 0 = nI G ∧ G < 2147483648 ∧ CS g tb V G (D M)
def PI (M0 : Mm) (n tb tc fl kf : Nat) (w h : Nat → Nat) (i j T : Nat) (M : Mm) : Prop :=
  (SX M n tb tc fl kf w h) ∧
  (M.1 42 5 = nI n) ∧
  (IA M 43 n (ordN n i)) ∧
  (IA M 44 n (ordN n j)) ∧
  (IA M 45 n (fun b => ps (ordN n i) b n)) ∧
  (Fr (SSr kf) M0 M) ∧
  (CF (gP n w h) tb kf (DP n kf) (List.range T) M)
theorem PI.x {M0 : Mm} {n tb tc fl kf : Nat} {w h : Nat → Nat} {i j T : Nat} {M : Mm} (hh_ : PI M0 n tb tc fl kf w h i j T M) : SX M n tb tc fl kf w h := hh_.1
theorem PI.o5 {M0 : Mm} {n tb tc fl kf : Nat} {w h : Nat → Nat} {i j T : Nat} {M : Mm} (hh_ : PI M0 n tb tc fl kf w h i j T M) : M.1 42 5 = nI n := hh_.2.1
theorem PI.o1 {M0 : Mm} {n tb tc fl kf : Nat} {w h : Nat → Nat} {i j T : Nat} {M : Mm} (hh_ : PI M0 n tb tc fl kf w h i j T M) : IA M 43 n (ordN n i) := hh_.2.2.1
theorem PI.o2 {M0 : Mm} {n tb tc fl kf : Nat} {w h : Nat → Nat} {i j T : Nat} {M : Mm} (hh_ : PI M0 n tb tc fl kf w h i j T M) : IA M 44 n (ordN n j) := hh_.2.2.2.1
theorem PI.o3 {M0 : Mm} {n tb tc fl kf : Nat} {w h : Nat → Nat} {i j T : Nat} {M : Mm} (hh_ : PI M0 n tb tc fl kf w h i j T M) : IA M 45 n (fun b => ps (ordN n i) b n) := hh_.2.2.2.2.1
theorem PI.fr {M0 : Mm} {n tb tc fl kf : Nat} {w h : Nat → Nat} {i j T : Nat} {M : Mm} (hh_ : PI M0 n tb tc fl kf w h i j T M) : Fr (SSr kf) M0 M := hh_.2.2.2.2.2.1
theorem PI.cs {M0 : Mm} {n tb tc fl kf : Nat} {w h : Nat → Nat} {i j T : Nat} {M : Mm} (hh_ : PI M0 n tb tc fl kf w h i j T M) : CF (gP n w h) tb kf (DP n kf) (List.range T) M := hh_.2.2.2.2.2.2
def nxi (n i : Nat) : Nat := if i + 1 = fac n then 0 else i + 1
theorem CF.eq {τ : Type} {g : τ → Nat → Nat} {tb kf : Nat} {D : Mm → τ → Nat → Prop} {V : List τ} {M M' : Mm} (h : CF g tb kf D V M) (e : M'.1 kf = M.1 kf) (hd : ∀ t u, D M t u → D M' t u) : CF g tb kf D V M' := by
  obtain ⟨G, a, b, c⟩ := h
  exact ⟨G, by rw [e]; exact a, b, c.mp hd⟩
theorem DP.eq {n kf : Nat} {M M' : Mm} {t u : Nat} (h : DP n kf M t u) (e : M'.1 kf = M.1 kf) (e2 : M'.2 kf = M.2 kf) : DP n kf M' t u := by
  unfold DP
  rw [e, e2]; exact h
theorem ord12 {n i : Nat} (h4 : n ≤ 4) (hi : i < fac n) : ∀ k, k < n → ordN n i k < 12 := fun k hk => by have := (ord_perm hi).1 k hk; omega
theorem PI.n44 {M0 : Mm} {n tb tc fl kf : Nat} {w h : Nat → Nat} {i j T : Nat} {M : Mm} (y : SY n tb tc fl kf w h) (p : PI M0 n tb tc fl kf w h i j T M) (hj : j < fac n) : Wp (f_X7_nextOrder 44 M) (fun M' => PI M0 n tb tc fl kf w h i (nxi n j) T M') := by
  have h4 := y.n4
  have hk := y.kf
  refine wp_m (nxo_ok (k1 := 44) y.n1 (by omega) (by omega) p.x.s8 p.o2 (ord12 h4 hj)) ?_
  rintro M' ⟨a1, a2⟩
  have q : ∀ k, k ≠ 44 → M'.1 k = M.1 k := fun k hk => a2.1 k (fun h => by unfold SB at h; omega)
  have qf := q kf (by omega)
  have qf2 : M'.2 kf = M.2 kf := a2.2 kf (fun h => by unfold SB at h; omega)
  exact ⟨p.x.eq (fun k hk => q k (by omega)), by rw [q 42 (by omega)]; exact p.o5, p.o1.eq (q 43 (by omega)), a1.cg (fun k hk => (nx_tab n (by omega) y.n1 j hj).1 k hk), p.o3.eq (q 45 (by omega)), p.fr.tr (a2.mono (fun k h => by unfold SB at h; unfold SSr; omega)), p.cs.eq qf (fun t u d => d.eq qf qf2)⟩
theorem PI.n43 {M0 : Mm} {n tb tc fl kf : Nat} {w h : Nat → Nat} {i j T : Nat} {M : Mm} (y : SY n tb tc fl kf w h) (p : PI M0 n tb tc fl kf w h i j T M) (hi : i < fac n) : Wp ((f_X7_nextOrder 43 M).bind fun M_16 => f_X4_notePlaces 42 M_16) (fun M' => PI M0 n tb tc fl kf w h (nxi n i) j T M') := by
  have h4 := y.n4
  have hk := y.kf
  refine wp_b (nxo_ok (k1 := 43) y.n1 (by omega) (by omega) p.x.s8 p.o1 (ord12 h4 hi)) ?_
  rintro M1 ⟨a1, a2⟩
  have q : ∀ k, k ≠ 43 → M1.1 k = M.1 k := fun k hk => a2.1 k (fun h => by unfold SB at h; omega)
  have a1 : IA M1 43 n (ordN n (nxi n i)) := a1.cg (fun k hk => (nx_tab n (by omega) y.n1 i hi).1 k hk)
  have hni : nxi n i < fac n := by unfold nxi; split <;> omega
  refine wp_m (np_ok (k0 := 42) (n := n) (by omega) (by rw [q 42 (by omega)]; exact p.o5) a1 (ord_perm hni)) ?_
  rintro M' ⟨b1, b2⟩
  have q2 : ∀ k, k ≠ 45 → M'.1 k = M1.1 k := fun k hk => b2.1 k (fun h => by unfold SB at h; omega)
  have qf : M'.1 kf = M.1 kf := (q2 kf (by omega)).trans (q kf (by omega))
  have qf2 : M'.2 kf = M.2 kf := (b2.2 kf (fun h => by unfold SB at h; omega)).trans (a2.2 kf (fun h => by unfold SB at h; omega))
  exact ⟨p.x.eq (fun k hk => (q2 k (by omega)).trans (q k (by omega))), by rw [q2 42 (by omega), q 42 (by omega)]; exact p.o5, a1.eq (q2 43 (by omega)), (p.o2.eq (q 44 (by omega))).eq (q2 44 (by omega)), b1, (p.fr.tr (a2.mono (fun k h => by unfold SB at h; unfold SSr; omega))).tr (b2.mono (fun k h => by unfold SB at h; unfold SSr; omega)), p.cs.eq qf (fun t u d => d.eq qf qf2)⟩
theorem mbf {M : Mm} {n : Nat} {one two : Nat → Nat} (h1 : 1 ≤ n) (h4 : n ≤ 4) (s8 : M.1 34 8 = nI n) (o1 : IA M 43 n one) (o2 : IA M 44 n two) (b1 : ∀ k, k < n → one k < 12) (b2 : ∀ k, k < n → two k < 12) : (f_X7_mayBeFirst M = some (nI 0) ∧ (one (n - 1) < one 0 ∨ two 0 < one 0 ∨ two (n - 1) < one 0)) ∨ f_X7_mayBeFirst M = some (nI 1) := by
  have c1 := b1 0 (by omega)
  have c2 := b1 (n - 1) (by omega)
  have c3 := b2 0 (by omega)
  have c4 := b2 (n - 1) (by omega)
  unfold f_X7_mayBeFirst
  rw [s8, pz_0, pz_1, pz_sub h1]
  simp only [pz_rd (show 0 < 12 by omega) (show 12 < 2147483648 by omega), pz_rd (show n - 1 < 12 by omega) (show 12 < 2147483648 by omega), o1 0 (by omega), o1 (n - 1) (by omega), o2 0 (by omega), o2 (n - 1) (by omega), pz_lt (show one (n - 1) < 2147483648 by omega) (show one 0 < 2147483648 by omega), pz_lt (show two 0 < 2147483648 by omega) (show one 0 < 2147483648 by omega), pz_lt (show two (n - 1) < 2147483648 by omega) (show one 0 < 2147483648 by omega)]
  by_cases q1 : one (n - 1) < one 0
  · rw [if_pos q1]; exact Or.inl ⟨rfl, Or.inl q1⟩
  · rw [if_neg q1]
    by_cases q2 : two 0 < one 0
    · rw [if_pos q2]; exact Or.inl ⟨rfl, Or.inr (Or.inl q2)⟩
    · rw [if_neg q2]
      by_cases q3 : two (n - 1) < one 0
      · rw [if_pos q3]; exact Or.inl ⟨rfl, Or.inr (Or.inr q3)⟩
      · rw [if_neg q3]; exact Or.inr rfl
