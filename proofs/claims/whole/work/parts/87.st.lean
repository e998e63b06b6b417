/-! the class searches trees -/
def ztT (n t : Nat) : Option Gz := gst n (t % 4 ^ n) (ordN n (t / 4 ^ n)) n
def vT (n t : Nat) : Bool := match ztT n t with
  | some z => decide (z.1 = 0)
  | none => false
def lfT (n t : Nat) : Nat → Nat := match ztT n t with
  | some z => z.2.2.1
  | none => fun _ => 15
def rtT (n t : Nat) : Nat → Nat := match ztT n t with
  | some z => z.2.2.2
  | none => fun _ => 15
def roT (n t : Nat) : Nat := ordN n (t / 4 ^ n) 0
noncomputable def tE (n t : Nat) : Ex := @Classical.epsilon Ex ⟨.leaf 0⟩ (fun e => TrE n (roT n t) (lfT n t) (rtT n t) e)
theorem vT_of {n t : Nat} {z : Gz} (h : ztT n t = some z) : (vT n t = true ↔ z.1 = 0) ∧ lfT n t = z.2.2.1 ∧ rtT n t = z.2.2.2 := by
  unfold vT lfT rtT
  rw [h]
  exact ⟨decide_eq_true_iff, rfl, rfl⟩
theorem vT_n {n t : Nat} (h : ∀ z, ztT n t = some z → z.1 ≠ 0) : vT n t = false := by
  cases e : ztT n t with
  | none => unfold vT; rw [e]
  | some z =>
    cases e2 : vT n t
    · rfl
    · exact absurd ((vT_of e).1.mp e2) (h z e)
theorem ztT_e {n o f : Nat} (hf : f < 4 ^ n) : ztT n (o * 4 ^ n + f) = gst n f (ordN n o) n ∧ roT n (o * 4 ^ n + f) = ordN n o 0 := by
  unfold ztT roT
  rw [(dvm hf).1, (dvm hf).2]
  exact ⟨rfl, rfl⟩
theorem tE_ok {n t : Nat} (h1 : 1 ≤ n) (h4 : n ≤ 4) (ht : t < fac n * 4 ^ n) (hv : vT n t = true) : TrE n (roT n t) (lfT n t) (rtT n t) (tE n t) := by
  have hp : 0 < 4 ^ n := Nat.pow_pos (by decide)
  have ho : t / 4 ^ n < fac n := Nat.div_lt_of_lt_mul (by rw [Nat.mul_comm]; exact ht)
  have hf : t % 4 ^ n < 4 ^ n := Nat.mod_lt _ hp
  have hro := (ord_perm ho).1 0 (by omega)
  cases e : ztT n t with
  | none => unfold vT at hv; rw [e] at hv; cases hv
  | some z =>
    have v := vT_of e
    have tk := gck_ok h1 h4 ho hf e (v.1.mp hv)
    obtain ⟨ex, hex⟩ := tok_e (by omega) hro tk
    have : ∃ e, TrE n (roT n t) (lfT n t) (rtT n t) e := ⟨ex, by rw [v.2.1, v.2.2]; exact hex⟩
    exact Classical.epsilon_spec this
noncomputable def gT (n : Nat) (w h : Nat → Nat) (t u : Nat) : Nat := gt n (tE n t) (swd w h u) (swd h w u)
def VT (n T : Nat) : List Nat := (List.range T).filter (vT n)
theorem VT_y {n T : Nat} (h : vT n T = true) : VT n (T + 1) = VT n T ++ [T] := by
  unfold VT
  rw [List.range_succ, List.filter_append, List.filter_cons_of_pos h, List.filter_nil]
theorem VT_n {n T : Nat} (h : vT n T = false) : VT n (T + 1) = VT n T := by
  unfold VT
  rw [List.range_succ, List.filter_append, List.filter_cons_of_neg (by rw [h]; decide), List.filter_nil, List.append_nil]
theorem VT_mem {n T t : Nat} (h : t ∈ VT n T) : t < T ∧ vT n t = true := by
  obtain ⟨a, b⟩ := List.mem_filter.mp h
  exact ⟨List.mem_range.mp a, b⟩
theorem gt_bd {n r : Nat} {lf rt W H : Nat → Nat} {e : Ex} (hE : TrE n r lf rt e) (hn : n ≤ 12) (hW : ∀ b, b < n → 1 ≤ W b ∧ W b ≤ 200) (hH : ∀ b, b < n → 1 ≤ H b ∧ H b ≤ 200) : (∀ b, b < n → tX W e b ≤ 10000) ∧ (∀ b, b < n → tY W H e n b ≤ 10000) ∧ gt n e W H < 2147483647 := by
  have t := hE.ly hn hW hH
  have hx : ∀ b, b < n → tX W e b ≤ 10000 := fun b hb => by have := t.X b hb; omega
  have hy : ∀ b, b < n → tY W H e n b ≤ 10000 := fun b hb => by
    obtain ⟨j, hj, rfl⟩ := hE.perm.sur hb
    have := t.y hj
    omega
  exact ⟨hx, hy, mul_bd (rch_le hx hW (Nat.le_refl _)) (rch_le hy hH (Nat.le_refl _))⟩
theorem trl_ok {M M1 : Mm} {n tb tc fl kf u r : Nat} {w h lf rt : Nat → Nat} {e : Ex} (y : SY n tb tc fl kf w h) (x : SX M n tb tc fl kf w h) (K : KL kf M M1) (hE : TrE n r lf rt e) (o4 : M.1 54 4 = nI r) (o5 : M.1 54 5 = nI n) (o1 : IA M 55 n lf) (o2 : IA M 56 n rt) (hu : u &&& tc = u) :
    Wp (f_X2_take 36 (nI u) M1) (fun M2 => Wp (f_tlay 54 36 M2) (fun M3 => f_X2_area 36 M3 = some (nI (gt n e (swd w h u) (swd h w u))) ∧ Fr SLy M1 M3)) := by
  have hn : n ≤ 12 := by have := y.n4; omega
  have kf := y.kf
  have q : ∀ k, k < 36 ∨ (54 ≤ k ∧ k ≤ 56) → M1.1 k = M.1 k := fun k hk => K.1 k (by unfold SLy; omega) (by omega)
  have hm : msk (nI u) tb = u := msk_nI (y.sub hu) (by have := sub_le hu; have := y.p16; omega)
  refine wp_m (take_ok (k0 := 36) (n := n) (tb := tb) (w := w) (h := h) (by omega) hn (by rw [q 1 (by omega)]; exact x.n) (by rw [q 1 (by omega)]; exact x.tb) y.tb (x.w.eq (q 2 (by omega))) (x.h.eq (q 3 (by omega))) (nI u)) ?_
  rintro M2 ⟨a1, a2, a3, a4, a5⟩
  rw [hm] at a2 a3 a4
  have q2 : ∀ k, 42 ≤ k → M2.1 k = M1.1 k := fun k hk => a5.1 k (fun h => by unfold SB at h; omega)
  unfold f_tlay
  rw [if_neg (by omega), if_neg (by omega), if_pos (Or.inr rfl)]
  have gb := gt_bd hE hn (y.sw u) (y.sh u)
  refine wp_m (cty_ok (k0 := 54) (k1 := 36) (hE.ly hn (y.sw u) (y.sh u)) (by omega) hE.2.1 hE.2.2.1 hE.pt (hE.xt _) hE.2.2.2.2.2 hE.2.2.2.2.1 (by rw [q2 54 (by omega), q 54 (by omega)]; exact o4) (by rw [q2 54 (by omega), q 54 (by omega)]; exact o5) ((o1.eq (q 55 (by omega))).eq (q2 55 (by omega))) ((o2.eq (q 56 (by omega))).eq (q2 56 (by omega))) a3 a4) ?_
  rintro M3 ⟨b1, b2, b3⟩
  have q3 : ∀ k, k = 36 ∨ k = 39 ∨ k = 40 → M3.1 k = M2.1 k := fun k hk => b3.1 k (fun h => by unfold STl at h; omega)
  refine ⟨area_ok (k0 := 36) (by rw [q3 36 (by omega)]; exact a1) hn b1 (a3.eq (q3 39 (by omega))) b2 (a4.eq (q3 40 (by omega))) gb.1 (y.sw u) gb.2.1 (y.sh u), (a5.mono (fun k h => by unfold SB at h; unfold SLy; omega)).tr (b3.mono (fun k h => by unfold STl at h; unfold SLy; omega))⟩
def DT (n kf : Nat) (M : Mm) (t u : Nat) : Prop := M.1 kf 4 = nI u ∧ M.1 kf 1 = nI (roT n t) ∧ P64 (M.2 kf 2) (pk n (lfT n t)) ∧ P64 (M.2 kf 3) (pk n (rtT n t))
theorem DT.eq {n kf : Nat} {M M' : Mm} {t u : Nat} (h : DT n kf M t u) (e : M'.1 kf = M.1 kf) (e2 : M'.2 kf = M.2 kf) : DT n kf M' t u := by
  unfold DT
  rw [e, e2]; exact h
def TI (M0 : Mm) (n tb tc fl kf : Nat) (w h : Nat → Nat) (o T : Nat) (M : Mm) : Prop :=
  (SX M n tb tc fl kf w h) ∧
  (IA M 43 n (ordN n o)) ∧
  (Fr (SSr kf) M0 M) ∧
  (CF (gT n w h) tb kf (DT n kf) (VT n T) M)
theorem TI.x {M0 : Mm} {n tb tc fl kf : Nat} {w h : Nat → Nat} {o T : Nat} {M : Mm} (hh_ : TI M0 n tb tc fl kf w h o T M) : SX M n tb tc fl kf w h := hh_.1
theorem TI.o1 {M0 : Mm} {n tb tc fl kf : Nat} {w h : Nat → Nat} {o T : Nat} {M : Mm} (hh_ : TI M0 n tb tc fl kf w h o T M) : IA M 43 n (ordN n o) := hh_.2.1
theorem TI.fr {M0 : Mm} {n tb tc fl kf : Nat} {w h : Nat → Nat} {o T : Nat} {M : Mm} (hh_ : TI M0 n tb tc fl kf w h o T M) : Fr (SSr kf) M0 M := hh_.2.2.1
theorem TI.cs {M0 : Mm} {n tb tc fl kf : Nat} {w h : Nat → Nat} {o T : Nat} {M : Mm} (hh_ : TI M0 n tb tc fl kf w h o T M) : CF (gT n w h) tb kf (DT n kf) (VT n T) M := hh_.2.2.2
theorem TI.mk' {M0 : Mm} {n tb tc fl kf : Nat} {w h : Nat → Nat} {o T S : Nat} {M M' : Mm} (p : TI M0 n tb tc fl kf w h o T M) (e : ∀ k, k < 36 ∨ (42 ≤ k ∧ k ≤ 50) → M'.1 k = M.1 k) (fr : Fr (SSr kf) M M') (cs : CF (gT n w h) tb kf (DT n kf) (VT n S) M') : TI M0 n tb tc fl kf w h o S M' :=
  ⟨p.x.eq (fun k hk => e k (by omega)), p.o1.eq (e 43 (by omega)), p.fr.tr fr, cs⟩
theorem TI.n43 {M0 : Mm} {n tb tc fl kf : Nat} {w h : Nat → Nat} {o T : Nat} {M : Mm} (y : SY n tb tc fl kf w h) (p : TI M0 n tb tc fl kf w h o T M) (ho : o < fac n) : Wp (f_X7_nextOrder 43 M) (fun M' => TI M0 n tb tc fl kf w h (nxi n o) T M') := by
  have h4 := y.n4
  have hk := y.kf
  refine wp_m (nxo_ok (k1 := 43) y.n1 (by omega) (by omega) p.x.s8 p.o1 (ord12 h4 ho)) ?_
  rintro M' ⟨a1, a2⟩
  have q : ∀ k, k ≠ 43 → M'.1 k = M.1 k := fun k hk => a2.1 k (fun h => by unfold SB at h; omega)
  have qf := q kf (by omega)
  have qf2 : M'.2 kf = M.2 kf := a2.2 kf (fun h => by unfold SB at h; omega)
  exact ⟨p.x.eq (fun k hk => q k (by omega)), a1.cg (fun k hk => (nx_tab n (by omega) y.n1 o ho).1 k hk), p.fr.tr (a2.mono (fun k h => by unfold SB at h; unfold SSr; omega)), p.cs.eq qf (fun t u d => d.eq qf qf2)⟩
theorem p4_tab : ∀ n, n < 5 → (1 : Int32) <<< ((2 * nI n) &&& 31) = nI (4 ^ n) := by decide +kernel
theorem p4_bd {n : Nat} (h : n ≤ 4) : 1 ≤ 4 ^ n ∧ 4 ^ n ≤ 256 := ⟨Nat.pow_pos (by decide), Nat.le_trans (Nat.pow_le_pow_right (by decide) h) (by decide)⟩
theorem lex_l2 {F G o f : Nat} (h : o < F) (hf : f < G) : o * G + f < F * G := by
  have : (o + 1) * G ≤ F * G := Nat.mul_le_mul_right G h
  rw [Nat.succ_mul] at this
  omega
theorem st_in {M0 : Mm} {n tb tc fl kf : Nat} {w h : Nat → Nat} {o f : Nat} {M : Mm} (y : SY n tb tc fl kf w h) (p : TI M0 n tb tc fl kf w h o (o * 4 ^ n + f) M) (ho : o < fac n) (hf : f < 4 ^ n) :
    Wp (f_X7_searchTrees_L37 (nI f) M) (fun r => ∃ M', r = .inl (nI (f + 1), M') ∧ TI M0 n tb tc fl kf w h o (o * 4 ^ n + f + 1) M') := by
  have h1 := y.n1
  have h4 := y.n4
  have hk := y.kf
  have fb := p4_bd h4
  have ze := ztT_e (n := n) (o := o) hf
  have tlt := lex_l2 ho hf
  have hJ : ∀ M1, TI M0 n tb tc fl kf w h o (o * 4 ^ n + f + 1) M1 → Wp (f_X7_searchTrees_J142 (nI f) M1) (fun r => ∃ M', r = .inl (nI (f + 1), M') ∧ TI M0 n tb tc fl kf w h o (o * 4 ^ n + f + 1) M') := by
    intro M1 p1
    unfold f_X7_searchTrees_J142
    rw [pz_1, pz_add, pz_lt1]
    exact wp_s ⟨M1, rfl, p1⟩
  unfold f_X7_searchTrees_L37
  rw [p.x.s8, p4_tab n (by omega), if_neg (by rw [pz_le (by omega) (by omega)]; omega), pz_0]
  generalize ht : o * 4 ^ n + f = t at *
  refine wp_b2 (cgw_ok h1 h4 hf (ord_perm ho) p.o1) ?_
  rintro r M1 ⟨fr1, ⟨r1, z, z1, z2, z3, z4⟩ | ⟨r0, hz⟩⟩
  · have r1 : r = nI 1 := r1
    have z4 : CGr n f (ordN n o) M n z M1 := z4
    have fr1 : Fr (SB 54 57) M M1 := fr1
    have q : ∀ k, k < 54 ∨ 57 < k → M1.1 k = M.1 k := fun k hk => fr1.1 k (fun h => by unfold SB at h; omega)
    have q2 : ∀ k, k < 54 ∨ 57 < k → M1.2 k = M.2 k := fun k hk => fr1.2 k (fun h => by unfold SB at h; omega)
    have vz := vT_of (ze.1.trans z1)
    have hv : vT n t = true := vz.1.mpr z2
    have hE := tE_ok h1 h4 tlt hv
    have p1 : TI M0 n tb tc fl kf w h o t M1 := p.mk' (fun k hk => q k (by omega)) (fr1.mono (fun k h => by unfold SB at h; unfold SSr; omega)) (p.cs.eq (q kf (by omega)) (fun t u d => d.eq (q kf (by omega)) (q2 kf (by omega))))
    have l1 : IA M1 55 n (lfT n t) := fun b hb => by
      obtain ⟨k, k1, k2⟩ := (ord_perm ho).sur hb
      rw [← k2, vz.2.1]; exact (z4.lr k k1).1
    have l2 : IA M1 56 n (rtT n t) := fun b hb => by
      obtain ⟨k, k1, k2⟩ := (ord_perm ho).sur hb
      rw [← k2, vz.2.2]; exact (z4.lr k k1).2
    have l4 : M1.1 54 4 = nI (roT n t) := by rw [ze.2]; exact z4.h4
    obtain ⟨G, g1, g2, g3⟩ := p1.cs
    have hs : ∀ v, v &&& tb = v → gT n w h t v = gT n w h t (v &&& tc) := fun v hv => by
      unfold gT
      rw [(y.sq v hv).1, (y.sq v hv).2]
    have gbd : ∀ u, gT n w h t u < 2147483647 := fun u => (gt_bd hE (by omega) (y.sw u) (y.sh u)).2.2
    rw [r1, if_neg (by decide)]
    refine wp_b2 (cl_ok (k1 := 54) (kf := kf) (tc := tc) (G := G) (f := gT n w h t) hk p1.x.s7 p1.x.s9 y.p16.2 g1 g2 gbd (fun M2 u hu K => trl_ok y p1.x K hE l4 z4.h5 l1 l2 hu)) ?_
    rintro r M2 ⟨K, ⟨r0, a1, a2⟩ | ⟨r1, u, a1, a2, a3, a4, a5⟩⟩
    · have r0 : r = nI 0 := r0
      have a2 : M2.1 kf = M1.1 kf := a2
      have K : KL kf M1 M2 := K
      have a2' : M2.2 kf = M1.2 kf := K.2 kf (by unfold SLy; omega)
      rw [r0, if_pos rfl]
      refine hJ M2 (p1.mk' (fun k hk => K.1 k (by unfold SLy; omega) (by omega)) K.ssr ⟨G, by rw [a2]; exact g1, g2, ?_⟩)
      rw [VT_y hv]
      refine g3.skip (fun s hs' v hv => ?_) (fun s hs' => by rw [List.mem_singleton.mp hs']; exact gbd 0) (fun t u d => d.eq a2 a2')
      rw [List.mem_singleton.mp hs', hs v hv]
      exact a1 _ (by rw [Nat.and_assoc, Nat.and_self])
    · have r1 : r = nI 1 := r1
      have K : KL kf M1 M2 := K
      have a3 : M2.1 kf 0 = nI (gT n w h t u) := a3
      have a4 : M2.1 kf 4 = nI u := a4
      have qk : ∀ k, k < 36 ∨ (42 ≤ k ∧ k ≤ 50) ∨ (54 ≤ k ∧ k ≤ 56) → M2.1 k = M1.1 k := fun k hk => K.1 k (by unfold SLy; omega) (by omega)
      have c34 : ∀ v : Int32, ((wi M2 kf 1 v).1 34 7).toNatClampNeg = kf := fun v => by rw [wi_n _ _ _ (show 34 ≠ kf by omega), qk 34 (by omega), p1.x.s7, pz_cl (by omega)]
      have h7 : (M2.1 34 7).toNatClampNeg = kf := by rw [qk 34 (by omega), p1.x.s7, pz_cl (by omega)]
      have h8 : ∀ v : Int32, (wi M2 kf 1 v).1 34 8 = nI n := fun v => by rw [wi_n _ _ _ (show 34 ≠ kf by omega), qk 34 (by omega)]; exact p1.x.s8
      rw [r1, if_neg (by decide), h7, pz_lt1, pz_gd hk, qk 54 (by omega), l4, pz_lt1, c34, pz_lt1, pz_gd hk, h8]
      generalize hM3 : wi M2 kf 1 (nI (roT n t)) = M3
      have m3 : ∀ k, k ≠ kf → M3.1 k = M2.1 k := fun k hk => by rw [← hM3]; exact wi_n _ _ _ hk
      have m34 : (M3.1 34 7).toNatClampNeg = kf := by rw [← hM3]; exact c34 _
      have m38 : M3.1 34 8 = nI n := by rw [← hM3]; exact h8 _
      have b16 : ∀ k, lfT n t k < 16 ∧ rtT n t k < 16 := fun k => by rw [vz.2.1, vz.2.2]; exact z3.bd k
      have l1' : IA M3 55 n (lfT n t) := (l1.eq (qk 55 (by omega))).eq (m3 55 (by omega))
      have l2' : IA M3 56 n (rtT n t) := (l2.eq (qk 56 (by omega))).eq (m3 56 (by omega))
      refine wp_b (pk_ok (by omega) l1' (fun k _ => (b16 k).1)) ?_
      intro a ha
      rw [pz_lt1]
      have m34' : ((wl M3 kf 2 a).1 34 7).toNatClampNeg = kf := m34
      have m38' : (wl M3 kf 2 a).1 34 8 = nI n := m38
      rw [m34', pz_lt1, pz_gd hk, m38']
      refine wp_b (pk_ok (M := wl M3 kf 2 a) (by omega) (IA.eq (M := M3) l2' rfl) (fun k _ => (b16 k).2)) ?_
      intro b hb
      rw [pz_lt1]
      have fr : Fr (SSr kf) M1 (wl (wl M3 kf 2 a) kf 3 b) := by
        refine ((?_ : Fr (SSr kf) M1 M3).l (Or.inr rfl)).l (Or.inr rfl)
        rw [← hM3]
        exact K.ssr.w (Or.inr rfl)
      refine hJ _ (p1.mk' (fun k hk => (m3 k (by omega)).trans (qk k (by omega))) fr ⟨gT n w h t u, ?_, by have := gbd u; omega, ?_⟩)
      · show M3.1 kf 0 = _
        rw [← hM3, wi_at, if_neg (by omega)]; exact a3
      · rw [VT_y hv]
        refine g3.nw (a1.sq hs y.tc) a2 ⟨?_, ?_, ?_, ?_⟩
        · show M3.1 kf 4 = _
          rw [← hM3, wi_at, if_neg (by omega)]; exact a4
        · show M3.1 kf 1 = _
          rw [← hM3, wi_at, if_pos rfl]
        · rw [wl_at, if_neg (by omega), wl_at, if_pos rfl]; exact ha
        · rw [wl_at, if_pos rfl]; exact hb
  · have r0 : r = nI 0 := r0
    have fr1 : Fr (SB 54 57) M M1 := fr1
    have q : ∀ k, k < 54 ∨ 57 < k → M1.1 k = M.1 k := fun k hk => fr1.1 k (fun h => by unfold SB at h; omega)
    have q2 : ∀ k, k < 54 ∨ 57 < k → M1.2 k = M.2 k := fun k hk => fr1.2 k (fun h => by unfold SB at h; omega)
    have hv : vT n t = false := vT_n (fun z hz' => hz z (ze.1.symm.trans hz'))
    rw [r0, if_pos rfl]
    refine hJ M1 (p.mk' (fun k hk => q k (by omega)) (fr1.mono (fun k h => by unfold SB at h; unfold SSr; omega)) ?_)
    rw [VT_n hv]
    exact p.cs.eq (q kf (by omega)) (fun t u d => d.eq (q kf (by omega)) (q2 kf (by omega)))
theorem st_out {M0 : Mm} {n tb tc fl kf : Nat} {w h : Nat → Nat} {o : Nat} {M : Mm} (y : SY n tb tc fl kf w h) (p : TI M0 n tb tc fl kf w h o (o * 4 ^ n) M) (ho : o < fac n) :
    Wp (f_X7_searchTrees_L21 (lI (fac n)) (lI o) M) (fun r => (∃ M', r = .inl (lI (o + 1), M') ∧ TI M0 n tb tc fl kf w h (nxi n o) ((o + 1) * 4 ^ n) M') ∨ ∃ M', r = .inr M' ∧ Fr (SSr kf) M0 M' ∧ M'.1 34 7 = nI kf ∧ CF (gT n w h) tb kf (DT n kf) (VT n (fac n * 4 ^ n)) M') := by
  have h1 := y.n1
  have h4 := y.n4
  have hk := y.kf
  have fb := fac_bd h4
  have pb := p4_bd h4
  obtain ⟨G, g1, g2, g3⟩ := p.cs
  unfold f_X7_searchTrees_L21
  have id := idn hk p.x.s7 p.x.s10 g1 g2 (by have := y.flb; omega)
  rw [if_neg (by rw [lg_ge (by omega) (by omega)]; omega), pz_0]
  by_cases z : G = fl
  · rw [id.1 z, pz_bd, if_neg (by decide)]
    refine wp_s (Or.inr ⟨M, rfl, p.fr, p.x.s7, G, g1, g2, ?_⟩)
    have hsplit : VT n (fac n * 4 ^ n) = VT n (o * 4 ^ n) ++ ((List.range (fac n * 4 ^ n - o * 4 ^ n)).map (o * 4 ^ n + ·)).filter (vT n) := by
      unfold VT
      rw [← List.filter_append, ← List.range_add]
      congr 2
      have : o * 4 ^ n ≤ fac n * 4 ^ n := Nat.mul_le_mul_right _ (by omega)
      omega
    have hmem : ∀ s ∈ ((List.range (fac n * 4 ^ n - o * 4 ^ n)).map (o * 4 ^ n + ·)).filter (vT n), TrE n (roT n s) (lfT n s) (rtT n s) (tE n s) := by
      intro s hs
      obtain ⟨s1, s2⟩ := List.mem_filter.mp hs
      obtain ⟨k, hk, rfl⟩ := List.mem_map.mp s1
      have hk := List.mem_range.mp hk
      exact tE_ok h1 h4 (by omega) s2
    rw [hsplit]
    refine g3.skip (fun s hs v hv => ?_) (fun s hs => ?_) (fun t u d => d)
    · rw [z, y.fl, ← bar_swd w h v n]
      exact gt_fl (hmem s hs)
    · exact (gt_bd (hmem s hs) (by omega) (y.sw 0) (y.sh 0)).2.2
  · rw [id.2 z, pz_bd, if_pos rfl]
    refine wp_b (P := fun M' => TI M0 n tb tc fl kf w h o ((o + 1) * 4 ^ n) M') ?_ ?_
    · refine wp_l (fun f (v : Int32 × Mm) => v.1 = nI f ∧ TI M0 n tb tc fl kf w h o (o * 4 ^ n + f) v.2) (4 ^ n) (fu_lt (by omega)) ?_ ?_ ⟨rfl, p⟩
      · rintro f ⟨v, M1⟩ hf ⟨a1, a2⟩
        have a1 : v = nI f := a1
        subst a1
        refine wp_m (st_in y a2 ho hf) ?_
        rintro r ⟨M', rfl, p'⟩
        exact Or.inl ⟨_, rfl, rfl, p'⟩
      · rintro ⟨v, M1⟩ ⟨a1, a2⟩
        have a1 : v = nI (4 ^ n) := a1
        subst a1
        have a2 : TI M0 n tb tc fl kf w h o (o * 4 ^ n + 4 ^ n) M1 := a2
        show Wp (f_X7_searchTrees_L37 (nI (4 ^ n)) M1) _
        unfold f_X7_searchTrees_L37
        rw [a2.x.s8, p4_tab n (by omega), if_pos ((nI_leI (by omega) (by omega)).mpr (Nat.le_refl _))]
        refine wp_s ⟨M1, rfl, ?_⟩
        rw [Nat.succ_mul]; exact a2
    · intro M1 p1
      unfold f_X7_searchTrees_A37
      refine wp_b (p1.n43 y ho) ?_
      intro M2 p2
      rw [lI_1, lI_add, pz_lt1]
      exact wp_s (Or.inl ⟨M2, rfl, p2⟩)
theorem sts_ok {M : Mm} {n tb tc fl kf : Nat} {w h : Nat → Nat} (y : SY n tb tc fl kf w h) (x : SX M n tb tc fl kf w h) (hG : M.1 kf 0 = nI 2147483647) : Wp (f_X7_searchTrees M) (fun M' => Fr (SSr kf) M M' ∧ M'.1 34 7 = nI kf ∧ CF (gT n w h) tb kf (DT n kf) (VT n (fac n * 4 ^ n)) M') := by
  have h1 := y.n1
  have h4 := y.n4
  have hk := y.kf
  have fb := fac_bd h4
  unfold f_X7_searchTrees
  rw [x.s8, bde (fac_9 (by omega))]
  refine wp_b (bg_ok h1 h4) ?_
  rintro M1 ⟨a1, a2, a3, a4, a5⟩
  have q : ∀ k, k < 42 ∨ 45 < k → M1.1 k = M.1 k := fun k hk => a5.1 k (fun h => by unfold SB at h; omega)
  have fr1 : Fr (SSr kf) M M1 := a5.mono (fun k h => by unfold SB at h; unfold SSr; omega)
  rw [lI_0]
  refine wp_b (P := fun M' => Fr (SSr kf) M M' ∧ M'.1 34 7 = nI kf ∧ CF (gT n w h) tb kf (DT n kf) (VT n (fac n * 4 ^ n)) M') ?_ (fun M' hM => wp_s hM)
  refine wp_l (fun i (v : Int64 × Mm) => v.1 = lI i ∧ TI M n tb tc fl kf w h (if i = fac n then 0 else i) (i * 4 ^ n) v.2) (fac n) (fu_lt (by omega)) ?_ ?_ ⟨rfl, ?_⟩
  · rintro i ⟨v, M2⟩ hi ⟨b1, b2⟩
    have b1 : v = lI i := b1
    subst b1
    rw [if_neg (by omega)] at b2
    refine wp_m (st_out y b2 hi) ?_
    rintro r (⟨M', rfl, p'⟩ | ⟨M', rfl, p1, p2⟩)
    · exact Or.inl ⟨_, rfl, rfl, p'⟩
    · exact Or.inr ⟨_, rfl, p1, p2⟩
  · rintro ⟨v, M2⟩ ⟨b1, b2⟩
    have b1 : v = lI (fac n) := b1
    subst b1
    show Wp (f_X7_searchTrees_L21 (lI (fac n)) (lI (fac n)) M2) _
    unfold f_X7_searchTrees_L21
    rw [if_pos (by rw [lg_ge (by omega) (by omega)]; exact Nat.le_refl _)]
    exact wp_s ⟨M2, rfl, b2.fr, b2.x.s7, b2.cs⟩
  · rw [if_neg (by omega), Nat.zero_mul]
    exact ⟨x.eq (fun k hk => q k (by omega)), a2, fr1, 2147483647, by rw [q kf (by omega)]; exact hG, by omega, Or.inl ⟨rfl, rfl⟩⟩
