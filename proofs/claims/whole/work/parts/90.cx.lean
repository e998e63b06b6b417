/-! the class searches cuts -/
def pkR (L : Nat) (a : Nat → Nat) (s i : Nat) : Nat := if s + i < L then a (s + i) else 15
def DC (n kf : Nat) (M : Mm) (r : List Nat) (_ : Nat) : Prop := P64 (M.2 kf 2) (pkR (2 * n - 1) (rowF r) 0) ∧ P64 (M.2 kf 3) (pkR (2 * n - 1) (rowF r) 16)
theorem DC.eq {n kf : Nat} {M M' : Mm} {r : List Nat} {u : Nat} (h : DC n kf M r u) (e2 : M'.2 kf = M.2 kf) : DC n kf M' r u := by
  unfold DC
  rw [e2]; exact h
def EI (M0 : Mm) (n tb tc fl kf : Nat) (w h : Nat → Nat) (pre : List Nat) (M : Mm) : Prop :=
  (SX M n tb tc fl kf w h) ∧
  (M.1 48 5 = nI (2 * n - 1)) ∧
  (∀ j, j < pre.length → M.1 49 j = nI (rowF pre j)) ∧
  (Fr (SSr kf) M0 M)
theorem EI.x {M0 : Mm} {n tb tc fl kf : Nat} {w h : Nat → Nat} {pre : List Nat} {M : Mm} (hh_ : EI M0 n tb tc fl kf w h pre M) : SX M n tb tc fl kf w h := hh_.1
theorem EI.h5 {M0 : Mm} {n tb tc fl kf : Nat} {w h : Nat → Nat} {pre : List Nat} {M : Mm} (hh_ : EI M0 n tb tc fl kf w h pre M) : M.1 48 5 = nI (2 * n - 1) := hh_.2.1
theorem EI.tk {M0 : Mm} {n tb tc fl kf : Nat} {w h : Nat → Nat} {pre : List Nat} {M : Mm} (hh_ : EI M0 n tb tc fl kf w h pre M) : ∀ j, j < pre.length → M.1 49 j = nI (rowF pre j) := hh_.2.2.1
theorem EI.fr {M0 : Mm} {n tb tc fl kf : Nat} {w h : Nat → Nat} {pre : List Nat} {M : Mm} (hh_ : EI M0 n tb tc fl kf w h pre M) : Fr (SSr kf) M0 M := hh_.2.2.2
theorem rowF_l {r : List Nat} {t j : Nat} (h : j < r.length) : rowF (r ++ [t]) j = rowF r j := by
  unfold rowF
  rw [List.getD_eq_getElem?_getD, List.getD_eq_getElem?_getD, List.getElem?_append_left h]
theorem rowF_r {r : List Nat} {t : Nat} : rowF (r ++ [t]) r.length = t := by
  unfold rowF
  rw [List.getD_eq_getElem?_getD, List.getElem?_append_right (Nat.le_refl _), Nat.sub_self]; rfl
theorem len_1 {r : List Nat} {t : Nat} : (r ++ [t]).length = r.length + 1 := by rw [List.length_append]; rfl
theorem bd_1 {r : List Nat} {t : Nat} (h : ∀ j, j < r.length → rowF r j < 14) (ht : t < 14) : ∀ j, j < (r ++ [t]).length → rowF (r ++ [t]) j < 14 := fun j hj => by
  rw [len_1] at hj
  by_cases e : j = r.length
  · rw [e, rowF_r]; exact ht
  · rw [rowF_l (by omega)]; exact h j (by omega)
theorem EI.cut {M0 : Mm} {n tb tc fl kf : Nat} {w h : Nat → Nat} {pre : List Nat} {t : Nat} {M : Mm} (p : EI M0 n tb tc fl kf w h (pre ++ [t]) M) : EI M0 n tb tc fl kf w h pre M :=
  ⟨p.x, p.h5, fun j hj => by rw [p.tk j (by rw [len_1]; omega), rowF_l hj], p.fr⟩
theorem EI.ext {M0 : Mm} {n tb tc fl kf : Nat} {w h : Nat → Nat} {pre : List Nat} {M : Mm} (p : EI M0 n tb tc fl kf w h pre M) (t : Nat) : EI M0 n tb tc fl kf w h (pre ++ [t]) (wi M 49 pre.length (nI t)) := by
  refine ⟨p.x.eq (fun k hk => wi_n _ _ _ (by omega)), p.h5, fun j hj => ?_, p.fr.w (Or.inl ⟨by omega, by omega⟩)⟩
  rw [len_1] at hj
  rw [wi_at]
  by_cases e : j = pre.length
  · rw [if_pos e, e, rowF_r]
  · rw [if_neg e, rowF_l (by omega)]; exact p.tk j (by omega)
theorem EI.kp {M0 : Mm} {n tb tc fl kf : Nat} {w h : Nat → Nat} {pre : List Nat} {M M' : Mm} (p : EI M0 n tb tc fl kf w h pre M) (e : ∀ k, k = 1 ∨ k = 2 ∨ k = 3 ∨ k = 34 ∨ k = 48 ∨ k = 49 → M'.1 k = M.1 k) (fr : Fr (SSr kf) M M') : EI M0 n tb tc fl kf w h pre M' :=
  ⟨p.x.eq (fun k hk => e k (by omega)), by rw [e 48 (by omega)]; exact p.h5, fun j hj => by rw [e 49 (by omega)]; exact p.tk j hj, p.fr.tr fr⟩
theorem pr_ok {M : Mm} {L s : Nat} {a : Nat → Nat} (hL : L ≤ 23) (hs : s ≤ 16) (e : ∀ j, j < L → M.1 49 j = nI (a j)) (ha : ∀ i, i < L → a i < 14) : Wp (f_X9_pack 23 49 (nI s) (nI L) M) (fun v => P64 v (pkR L a s)) :=
  pack_ok (n0 := 23) (a := s) (e := L) (d := a) (by omega) hs hL (fun i hi => ⟨e i hi, by have := ha i hi; omega⟩)
theorem try_ok {M0 : Mm} {n tb tc fl kf : Nat} {w h : Nat → Nat} {pre : List Nat} {V : List (List Nat)} {M : Mm} (y : SY n tb tc fl kf w h) (p : EI M0 n tb tc fl kf w h pre M) (hp : pre ∈ NA n) (cs : CF (gC n w h) tb kf (DC n kf) V M) : Wp (f_X7_tryRow M) (fun M' => EI M0 n tb tc fl kf w h pre M' ∧ CF (gC n w h) tb kf (DC n kf) (V ++ [pre]) M') := by
  have h1 := y.n1
  have h4 := y.n4
  have hk := y.kf
  have ok := NA_ok h1 h4 hp
  have hE := rE_ok h1 h4 hp
  obtain ⟨G, g1, g2, g3⟩ := cs
  have id := idn hk p.x.s7 p.x.s10 g1 g2 (by have := y.flb; omega)
  have gbd : ∀ u, gC n w h pre u < 2147483647 := fun u => (ex_bd (by omega) hE (y.sw u) (y.sh u)).2.2.2.2
  have hb : ∀ s ∈ [pre], gC n w h s 0 < 2147483647 := fun s hs => by rw [List.mem_singleton.mp hs]; exact gbd 0
  unfold f_X7_tryRow
  by_cases z : G = fl
  · rw [id.1 z, pz_bd, pz_0, if_neg (by decide)]
    refine wp_s ⟨p, G, g1, g2, g3.skip (fun s hs v hv => ?_) hb (fun t u d => d)⟩
    rw [List.mem_singleton.mp hs, z, y.fl, ← bar_swd w h v n]
    exact gc_fl hE
  · rw [id.2 z, pz_bd, pz_0, if_pos rfl, p.x.s9]
    have tka : IA M 49 (2 * n - 1) (rowF pre) := fun j hj => p.tk j (by rw [ok.1]; exact hj)
    refine wp_b (dr_ok (k0 := 59) (k1 := 48) (op := tc) (td := 0) (by omega) h1 (by omega) (by omega) (by have := y.p16; omega) (by omega) y.w y.h hE p.h5 tka p.x.w p.x.h) ?_
    rintro M1 ⟨a1, a2, a3⟩
    have q : ∀ k, k < 59 ∨ 64 < k → M1.1 k = M.1 k := fun k hk => a3.1 k (fun h => by unfold SB at h; omega)
    have q2 : M1.2 kf = M.2 kf := a3.2 kf (fun h => by unfold SB at h; omega)
    have fr1 : Fr (SSr kf) M M1 := a3.mono (fun k h => by unfold SB at h; unfold SSr; omega)
    have p1 : EI M0 n tb tc fl kf w h pre M1 := p.kp (fun k hk => q k (by omega)) fr1
    have ln := lc_len (w := w) (h := h) (op := tc) (td := 0) (rE n pre) hE.2.2.1
    have hl : (Ex.lvs (rE n pre)).length = n := hE.2.2.2.2
    obtain ⟨u, u1, u2⟩ := la_fm (tc := tc) (w := w) (h := h) (by omega) hE y.w y.h
    have h7 : (M1.1 34 7).toNatClampNeg = kf := by rw [p1.x.s7, pz_cl (by omega)]
    have gu := gbd u
    have u2 : mnn (arS (lc w h tc 0 (rE n pre))) (lc w h tc 0 (rE n pre)).length = gC n w h pre u := u2
    have u1 : FM (gC n w h pre) tc u := u1
    have hs : ∀ v, v &&& tb = v → gC n w h pre v = gC n w h pre (v &&& tc) := fun v hv => by
      unfold gC
      rw [(y.sq v hv).1, (y.sq v hv).2]
    rw [bde (la_ok a2 a1 (lc_bd hE.2.2.1 (by omega) hE.2.2.2.1 y.w y.h) (by omega)), u2, h7, pz_lt1, pz_gd hk, q kf (by omega), g1]
    by_cases zz : G ≤ gC n w h pre u
    · rw [if_pos (by rw [pz_le (by omega) (by omega)]; exact zz)]
      refine wp_s ⟨p1, G, by rw [q kf (by omega)]; exact g1, g2, g3.skip (fun s hs' v hv => ?_) hb (fun t u d => d.eq q2)⟩
      rw [List.mem_singleton.mp hs', hs v hv]
      have := (u1.2 (v &&& tc) (by rw [Nat.and_assoc, Nat.and_self])).1
      omega
    · rw [if_neg (by rw [pz_le (by omega) (by omega)]; exact zz), pz_lt1, pz_gd hk, pz_lt1]
      generalize hM2 : wi M1 kf 0 (nI (gC n w h pre u)) = M2
      have m2 : ∀ k, k ≠ kf → M2.1 k = M1.1 k := fun k hk => by rw [← hM2]; exact wi_n _ _ _ hk
      have h7' : (M2.1 34 7).toNatClampNeg = kf := by rw [m2 34 (by omega)]; exact h7
      have h5' : M2.1 48 5 = nI (2 * n - 1) := by rw [m2 48 (by omega)]; exact p1.h5
      have tk2 : ∀ j, j < 2 * n - 1 → M2.1 49 j = nI (rowF pre j) := fun j hj => by rw [m2 49 (by omega)]; exact p1.tk j (by rw [ok.1]; exact hj)
      rw [h7', pz_lt1, pz_gd hk, h5']
      refine wp_b (pr_ok (by omega) (by omega) tk2 ok.2.2.1) ?_
      intro a ha
      have h7'' : ((wl M2 kf 2 a).1 34 7).toNatClampNeg = kf := h7'
      have h5'' : (wl M2 kf 2 a).1 48 5 = nI (2 * n - 1) := h5'
      rw [pz_lt1, h7'', pz_lt1, pz_gd hk, h5'', pz_16]
      refine wp_b (pr_ok (M := wl M2 kf 2 a) (by omega) (by omega) tk2 ok.2.2.1) ?_
      intro b hb'
      rw [pz_lt1]
      have fr2 : Fr (SSr kf) M1 (wl (wl M2 kf 2 a) kf 3 b) := by
        refine ((?_ : Fr (SSr kf) M1 M2).l (Or.inr rfl)).l (Or.inr rfl)
        rw [← hM2]
        exact Fr.rf.w (Or.inr rfl)
      refine wp_s ⟨p1.kp (fun k hk => m2 k (by omega)) fr2, gC n w h pre u, ?_, by omega, g3.nw (u1.sq hs y.tc) (by omega) ⟨?_, ?_⟩⟩
      · show M2.1 kf 0 = _
        rw [← hM2, wi_at, if_pos rfl]
      · rw [wl_at, if_neg (by omega), wl_at, if_pos rfl]; exact ha
      · rw [wl_at, if_pos rfl]; exact hb'
theorem fm_s {α : Type} (g : Nat → List α) (i : Nat) : (List.range (i + 1)).flatMap g = (List.range i).flatMap g ++ g i := by
  rw [List.range_succ, List.flatMap_append]
  congr 1
  rw [List.flatMap_cons, List.flatMap_nil, List.append_nil]
theorem ext_ok {M0 : Mm} {n tb tc fl kf : Nat} {w h : Nat → Nat} (y : SY n tb tc fl kf w h) : ∀ (k : Nat) (pre : List Nat) (us p : Nat) (V : List (List Nat)) (M : Mm), EI M0 n tb tc fl kf w h pre M → CF (gC n w h) tb kf (DC n kf) V M → us < 2 ^ n → (∀ j, j < pre.length → rowF pre j < 14) → p ≤ pre.length → pre.length ≤ 2 * n - 1 → 2 * n - 1 - pre.length < k → (∀ r ∈ enC n k pre us p, r ∈ NR n) →
    Wp (f_X7_extend k (nI pre.length) (nI us) (nI p) M) (fun M' => EI M0 n tb tc fl kf w h pre M' ∧ CF (gC n w h) tb kf (DC n kf) (V ++ enC n k pre us p) M')
  | 0, pre, us, p, V, M, _, _, _, _, _, _, hk, _ => by omega
  | k + 1, pre, us, p, V, M, e, cs, hus, hbd, hp, hl, hk, hr => by
    have h1 := y.n1
    have h4 := y.n4
    have hkf := y.kf
    have us4 : us < 4096 := p12 hus (by omega)
    show Wp (f_X7_extend_B (f_X7_extend k) (nI pre.length) (nI us) (nI p) M) _
    unfold f_X7_extend_B
    rw [e.h5]
    have en : enC n (k + 1) pre us p = if 2 * n - 1 ≤ pre.length then [pre] else
      (if p ≤ 2 * n - 1 - 1 - pre.length then (List.range n).flatMap (fun b => if us.testBit b = true then [] else enC n k (pre ++ [b]) (us ||| 2 ^ b) (p + 1)) else []) ++
      (if 1 < p then (List.range 2).flatMap (fun i => if rowF pre (pre.length - 1) = 12 + i then [] else enC n k (pre ++ [12 + i]) us (p - 1)) else []) := rfl
    by_cases z : 2 * n - 1 ≤ pre.length
    · rw [if_neg (by rw [pz_lt (by omega) (by omega)]; omega)]
      rw [if_pos z] at en
      rw [en] at hr ⊢
      refine wp_b (try_ok y e (NR_mem h1 h4 (hr pre (List.mem_singleton.mpr rfl))) cs) ?_
      intro M1 hM1
      exact wp_s hM1
    · rw [if_pos (by rw [pz_lt (by omega) (by omega)]; omega), pz_1, pz_sub (by omega), pz_sub (by omega), pz_lt1, pz_0]
      rw [if_neg z] at en
      rw [en] at hr ⊢
      generalize hg1 : (fun b => if us.testBit b = true then [] else enC n k (pre ++ [b]) (us ||| 2 ^ b) (p + 1)) = ga at *
      generalize hg2 : (fun i => if rowF pre (pre.length - 1) = 12 + i then [] else enC n k (pre ++ [12 + i]) us (p - 1)) = gb at *
      -- the numbers
      refine wp_b (P := fun M' => EI M0 n tb tc fl kf w h pre M' ∧ CF (gC n w h) tb kf (DC n kf) (V ++ (if p ≤ 2 * n - 1 - 1 - pre.length then (List.range n).flatMap ga else [])) M') ?_ ?_
      · by_cases zp : p ≤ 2 * n - 1 - 1 - pre.length
        · rw [if_pos zp] at hr ⊢
          refine wp_l (fun i (v : Int32 × Mm) => v.1 = nI i ∧ EI M0 n tb tc fl kf w h pre v.2 ∧ CF (gC n w h) tb kf (DC n kf) (V ++ (List.range i).flatMap ga) v.2) n (fu_lt (by omega)) ?_ ?_ ⟨rfl, e, by rw [List.range_zero, List.flatMap_nil, List.append_nil]; exact cs⟩
          · rintro i ⟨v, M1⟩ hi ⟨a1, a2, a3⟩
            have a1 : v = nI i := a1
            subst a1
            have a2 : EI M0 n tb tc fl kf w h pre M1 := a2
            have a3 : CF (gC n w h) tb kf (DC n kf) (V ++ (List.range i).flatMap ga) M1 := a3
            have hgi : ga i = if us.testBit i = true then [] else enC n k (pre ++ [i]) (us ||| 2 ^ i) (p + 1) := by rw [← hg1]
            have J : ∀ N, f_X7_extend_J83 (nI i) N = some (.inl (nI (i + 1), N)) := fun N => by
              unfold f_X7_extend_J83; rw [pz_1, pz_add, pz_lt1]
            show Wp (f_X7_extend_L32 (nI pre.length) (nI us) (nI p) (f_X7_extend k) (nI (2 * n - 1 - 1 - pre.length)) (nI i) M1) _
            unfold f_X7_extend_L32
            rw [a2.x.s8, if_neg (by rw [pz_le (by omega) (by omega)]; omega), if_neg (by rw [pz_lt (by omega) (by omega)]; omega), pz_bit (by omega) (by omega), pz_0]
            by_cases zb : us.testBit i = true
            · rw [if_neg (by rw [zb]; decide), J]
              refine wp_s (Or.inl ⟨_, rfl, rfl, a2, ?_⟩)
              rw [fm_s, hgi, if_pos zb, List.append_nil]; exact a3
            · have zb' : us.testBit i = false := by cases e1 : us.testBit i <;> simp_all
              rw [if_pos (by rw [zb']; rfl), pz_wr (by omega) (by omega), pz_1, pz_add, pz_shl (by omega), pz_or, pz_add]
              rw [if_neg zb] at hgi
              have cs2 : CF (gC n w h) tb kf (DC n kf) (V ++ (List.range i).flatMap ga) (wi M1 49 pre.length (nI i)) := a3.eq (wi_n _ _ _ (by omega)) (fun t u d => d.eq rfl)
              have ih := ext_ok y k (pre ++ [i]) (us ||| 2 ^ i) (p + 1) _ _ (a2.ext i) cs2 (or_lt hus (Nat.pow_lt_pow_right (by decide) hi)) (bd_1 hbd (by omega)) (by rw [len_1]; omega) (by rw [len_1]; omega) (by rw [len_1]; omega) (fun r hrr => hr r (List.mem_append.mpr (Or.inl (List.mem_flatMap.mpr ⟨i, List.mem_range.mpr hi, by rw [hgi]; exact hrr⟩))))
              rw [len_1] at ih
              refine wp_b ih ?_
              rintro M2 ⟨b1, b2⟩
              rw [J]
              refine wp_s (Or.inl ⟨_, rfl, rfl, b1.cut, ?_⟩)
              rw [fm_s, hgi, ← List.append_assoc]; exact b2
          · rintro ⟨v, M1⟩ ⟨a1, a2, a3⟩
            have a1 : v = nI n := a1
            subst a1
            have a2 : EI M0 n tb tc fl kf w h pre M1 := a2
            show Wp (f_X7_extend_L32 (nI pre.length) (nI us) (nI p) (f_X7_extend k) (nI (2 * n - 1 - 1 - pre.length)) (nI n) M1) _
            unfold f_X7_extend_L32
            rw [a2.x.s8, if_pos ((nI_leI (by omega) (by omega)).mpr (Nat.le_refl _))]
            exact wp_s ⟨M1, rfl, a2, a3⟩
        · rw [if_neg zp, List.append_nil]
          refine wp_e (lp_n (step := fun v : Int32 × Mm => f_X7_extend_L32 (nI pre.length) (nI us) (nI p) (f_X7_extend k) (nI (2 * n - 1 - 1 - pre.length)) v.1 v.2) (fun _ => (nI 0, M)) 0 (fu_lt (by omega)) (fun i hi => by omega) ?_) ⟨e, cs⟩
          show f_X7_extend_L32 (nI pre.length) (nI us) (nI p) (f_X7_extend k) (nI (2 * n - 1 - 1 - pre.length)) (nI 0) M = _
          unfold f_X7_extend_L32
          rw [e.x.s8, if_neg (by rw [pz_le (by omega) (by omega)]; omega), if_pos (by rw [pz_lt (by omega) (by omega)]; omega)]
      -- the joints
      · rintro M1 ⟨e1, cs1⟩
        unfold f_X7_extend_A32
        rw [pz_12]
        generalize hV : V ++ (if p ≤ 2 * n - 1 - 1 - pre.length then (List.range n).flatMap ga else []) = V1 at cs1
        rw [← List.append_assoc, hV]
        refine wp_b (P := fun M' => EI M0 n tb tc fl kf w h pre M' ∧ CF (gC n w h) tb kf (DC n kf) (V1 ++ (if 1 < p then (List.range 2).flatMap gb else [])) M') ?_ (fun M' hM => wp_s hM)
        by_cases zp : 1 < p
        · rw [if_pos zp] at hr ⊢
          refine wp_l (fun i (v : Int32 × Mm) => v.1 = nI (12 + i) ∧ EI M0 n tb tc fl kf w h pre v.2 ∧ CF (gC n w h) tb kf (DC n kf) (V1 ++ (List.range i).flatMap gb) v.2) 2 (fu_lt (by omega)) ?_ ?_ ⟨rfl, e1, by rw [List.range_zero, List.flatMap_nil, List.append_nil]; exact cs1⟩
          · rintro i ⟨v, M2⟩ hi ⟨a1, a2, a3⟩
            have a1 : v = nI (12 + i) := a1
            subst a1
            have a2 : EI M0 n tb tc fl kf w h pre M2 := a2
            have a3 : CF (gC n w h) tb kf (DC n kf) (V1 ++ (List.range i).flatMap gb) M2 := a3
            have hgi : gb i = if rowF pre (pre.length - 1) = 12 + i then [] else enC n k (pre ++ [12 + i]) us (p - 1) := by rw [← hg2]
            have J : ∀ N, f_X7_extend_J143 (nI (12 + i)) N = some (.inl (nI (12 + (i + 1)), N)) := fun N => by
              unfold f_X7_extend_J143; rw [pz_1, pz_add, pz_lt1]; rfl
            show Wp (f_X7_extend_L93 (nI pre.length) (nI us) (nI p) (f_X7_extend k) (nI (12 + i)) M2) _
            unfold f_X7_extend_L93
            rw [pz_13, if_neg (by rw [pz_lt (by omega) (by omega)]; omega), pz_1, if_neg (by rw [pz_le (by omega) (by omega)]; omega), pz_sub (by omega), pz_rd (by omega) (by omega), a2.tk (pre.length - 1) (by omega)]
            have lastb := hbd (pre.length - 1) (by omega)
            by_cases zb : rowF pre (pre.length - 1) = 12 + i
            · rw [if_pos (by rw [zb]), J]
              refine wp_s (Or.inl ⟨_, rfl, rfl, a2, ?_⟩)
              rw [fm_s, hgi, if_pos zb, List.append_nil]; exact a3
            · rw [if_neg (by rw [pz_eq (by omega) (by omega)]; exact zb), pz_wr (by omega) (by omega), pz_add, pz_sub (by omega)]
              rw [if_neg zb] at hgi
              have cs2 : CF (gC n w h) tb kf (DC n kf) (V1 ++ (List.range i).flatMap gb) (wi M2 49 pre.length (nI (12 + i))) := a3.eq (wi_n _ _ _ (by omega)) (fun t u d => d.eq rfl)
              have ih := ext_ok y k (pre ++ [12 + i]) us (p - 1) _ _ (a2.ext (12 + i)) cs2 hus (bd_1 hbd (by omega)) (by rw [len_1]; omega) (by rw [len_1]; omega) (by rw [len_1]; omega) (fun r hrr => hr r (List.mem_append.mpr (Or.inr (List.mem_flatMap.mpr ⟨i, List.mem_range.mpr hi, by rw [hgi]; exact hrr⟩))))
              rw [len_1] at ih
              refine wp_b ih ?_
              rintro M3 ⟨b1, b2⟩
              rw [J]
              refine wp_s (Or.inl ⟨_, rfl, rfl, b1.cut, ?_⟩)
              rw [fm_s, hgi, ← List.append_assoc]; exact b2
          · rintro ⟨v, M2⟩ ⟨a1, a2, a3⟩
            have a1 : v = nI (12 + 2) := a1
            subst a1
            show Wp (f_X7_extend_L93 (nI pre.length) (nI us) (nI p) (f_X7_extend k) (nI (12 + 2)) M2) _
            unfold f_X7_extend_L93
            rw [pz_13, if_pos (by decide)]
            exact wp_s ⟨M2, rfl, a2, a3⟩
        · rw [if_neg zp, List.append_nil]
          refine wp_e (lp_n (step := fun v : Int32 × Mm => f_X7_extend_L93 (nI pre.length) (nI us) (nI p) (f_X7_extend k) v.1 v.2) (fun _ => (nI 12, M1)) 0 (fu_lt (by omega)) (fun i hi => by omega) ?_) ⟨e1, cs1⟩
          show f_X7_extend_L93 (nI pre.length) (nI us) (nI p) (f_X7_extend k) (nI 12) M1 = _
          unfold f_X7_extend_L93
          rw [pz_13, if_neg (by decide), pz_1, if_pos (by rw [pz_le (by omega) (by omega)]; omega)]
