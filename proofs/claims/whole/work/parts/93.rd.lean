/-! .. all rows -/
theorem rrw_ok {M0 : Mm} {n tb : Nat} {w h : Nat → Nat} (y : SZ n tb w h) : ∀ (k : Nat) (pre : List Nat) (us p : Nat) (V : List (List Nat)) (M : Mm), REI M0 n tb w h pre M → RF (gC n w h) tb (RDC n) V M → us < 2 ^ n → p ≤ pre.length → pre.length ≤ 2 * n - 1 → 2 * n - 1 - pre.length < k → (∀ r ∈ enA n k pre us p, r ∈ NA n) →
    Wp (f_X10_tryRows k (nI pre.length) (nI us) (nI p) M) (fun M' => REI M0 n tb w h pre M' ∧ RF (gC n w h) tb (RDC n) (V ++ (enA n k pre us p).filter (nrmB n)) M')
  | 0, pre, us, p, V, M, _, _, _, _, _, hk, _ => by omega
  | k + 1, pre, us, p, V, M, e, cs, hus, hp, hl, hk, hr => by
    have h1 := y.n1
    have h4 := y.n4
    have us4 : us < 4096 := p12 hus (by omega)
    show Wp (f_X10_tryRows_B (f_X10_tryRows k) (nI pre.length) (nI us) (nI p) M) _
    unfold f_X10_tryRows_B
    rw [rs_eq e.x.n h1, pz_sub hl, pz_lt1, pz_1, pz_add, pz_0]
    have en : enA n (k + 1) pre us p = if 2 * n - 1 - pre.length + 1 < p then [] else if 2 * n - 1 ≤ pre.length then (if p = 1 then [pre] else []) else
      (List.range n).flatMap (fun b => if us.testBit b = true then [] else enA n k (pre ++ [b]) (us ||| 2 ^ b) (p + 1)) ++
      (if 1 < p then (List.range 2).flatMap (fun i => enA n k (pre ++ [12 + i]) us (p - 1)) else []) := rfl
    by_cases z0 : 2 * n - 1 - pre.length + 1 < p
    · rw [if_neg (by rw [pz_le (by omega) (by omega)]; omega)]
      rw [if_pos z0] at en
      rw [en, List.filter_nil, List.append_nil]
      exact wp_s ⟨e, cs⟩
    · rw [if_pos (by rw [pz_le (by omega) (by omega)]; omega)]
      rw [if_neg z0] at en
      by_cases z : 2 * n - 1 ≤ pre.length
      · rw [if_pos z] at en
        rw [if_pos (by rw [show 2 * n - 1 - pre.length = 0 by omega])]
        by_cases z1 : p = 1
        · rw [if_pos z1] at en
          rw [en] at hr ⊢
          rw [if_pos (by rw [z1])]
          exact rlf_ok y e (hr pre (List.mem_singleton.mpr rfl)) cs
        · rw [if_neg z1] at en
          rw [en, List.filter_nil, List.append_nil, if_neg (by rw [pz_eq (by omega) (by omega)]; exact z1)]
          exact wp_s ⟨e, cs⟩
      · rw [if_neg z] at en
        rw [if_neg (by rw [pz_eq (by omega) (by omega)]; omega)]
        rw [en] at hr ⊢
        generalize hg1 : (fun b => if us.testBit b = true then [] else enA n k (pre ++ [b]) (us ||| 2 ^ b) (p + 1)) = ga at *
        generalize hg2 : (fun i => enA n k (pre ++ [12 + i]) us (p - 1)) = gb at *
        refine wp_b (P := fun M' => REI M0 n tb w h pre M' ∧ RF (gC n w h) tb (RDC n) (V ++ ((List.range n).flatMap ga).filter (nrmB n)) M') ?_ ?_
        · refine wp_l (fun i (v : Int32 × Mm) => v.1 = nI i ∧ REI M0 n tb w h pre v.2 ∧ RF (gC n w h) tb (RDC n) (V ++ ((List.range i).flatMap ga).filter (nrmB n)) v.2) n (fu_lt (by omega)) ?_ ?_ ⟨rfl, e, by rw [List.range_zero, List.flatMap_nil, List.filter_nil, List.append_nil]; exact cs⟩
          · rintro i ⟨v, M1⟩ hi ⟨a1, a2, a3⟩
            have a1 : v = nI i := a1
            subst a1
            have a2 : REI M0 n tb w h pre M1 := a2
            have a3 : RF (gC n w h) tb (RDC n) (V ++ ((List.range i).flatMap ga).filter (nrmB n)) M1 := a3
            have hgi : ga i = if us.testBit i = true then [] else enA n k (pre ++ [i]) (us ||| 2 ^ i) (p + 1) := by rw [← hg1]
            have J : ∀ N, f_X10_tryRows_J157 (nI i) N = some (.inl (nI (i + 1), N)) := fun N => by
              unfold f_X10_tryRows_J157; rw [pz_1, pz_add, pz_lt1]
            show Wp (f_X10_tryRows_L111 (nI pre.length) (nI us) (nI p) (f_X10_tryRows k) (nI i) M1) _
            unfold f_X10_tryRows_L111
            rw [a2.x.n, if_neg (by rw [pz_le (by omega) (by omega)]; omega), pz_1, pz_sb (by omega) (by omega)]
            by_cases zb : us.testBit i = true
            · rw [if_pos (by rw [zb]; rfl), J]
              refine wp_s (Or.inl ⟨_, rfl, rfl, a2, ?_⟩)
              rw [fm_s, hgi, if_pos zb, List.append_nil]; exact a3
            · have zb' : us.testBit i = false := by cases e1 : us.testBit i <;> simp_all
              rw [if_neg (by rw [zb']; decide), pz_wr (by omega) (by omega), pz_add, pz_shl (by omega), pz_or, pz_add]
              rw [if_neg zb] at hgi
              have cs2 : RF (gC n w h) tb (RDC n) (V ++ ((List.range i).flatMap ga).filter (nrmB n)) (wi M1 83 pre.length (nI i)) := a3.eq rfl (fun t u d => d.eq rfl rfl)
              have ih := rrw_ok y k (pre ++ [i]) (us ||| 2 ^ i) (p + 1) _ _ (a2.ext i) cs2 (or_lt hus (Nat.pow_lt_pow_right (by decide) hi)) (by rw [len_1]; omega) (by rw [len_1]; omega) (by rw [len_1]; omega) (fun r hrr => hr r (List.mem_append.mpr (Or.inl (List.mem_flatMap.mpr ⟨i, List.mem_range.mpr hi, by rw [hgi]; exact hrr⟩))))
              rw [len_1] at ih
              refine wp_b ih ?_
              rintro M2 ⟨b1, b2⟩
              rw [J]
              refine wp_s (Or.inl ⟨_, rfl, rfl, b1.cut, ?_⟩)
              rw [fm_s, hgi, List.filter_append, ← List.append_assoc]; exact b2
          · rintro ⟨v, M1⟩ ⟨a1, a2, a3⟩
            have a1 : v = nI n := a1
            subst a1
            have a2 : REI M0 n tb w h pre M1 := a2
            show Wp (f_X10_tryRows_L111 (nI pre.length) (nI us) (nI p) (f_X10_tryRows k) (nI n) M1) _
            unfold f_X10_tryRows_L111
            rw [a2.x.n, if_pos ((nI_leI (by omega) (by omega)).mpr (Nat.le_refl _))]
            exact wp_s ⟨M1, rfl, a2, a3⟩
        · rintro M1 ⟨e1, cs1⟩
          unfold f_X10_tryRows_A111
          rw [pz_12]
          generalize hV : V ++ ((List.range n).flatMap ga).filter (nrmB n) = V1 at cs1
          rw [List.filter_append, ← List.append_assoc, hV]
          refine wp_b (P := fun M' => REI M0 n tb w h pre M' ∧ RF (gC n w h) tb (RDC n) (V1 ++ (if 1 < p then (List.range 2).flatMap gb else []).filter (nrmB n)) M') ?_ (fun M' hM => wp_s hM)
          by_cases zp : 1 < p
          · rw [if_pos zp] at hr ⊢
            refine wp_l (fun i (v : Int32 × Mm) => v.1 = nI (12 + i) ∧ REI M0 n tb w h pre v.2 ∧ RF (gC n w h) tb (RDC n) (V1 ++ ((List.range i).flatMap gb).filter (nrmB n)) v.2) 2 (fu_lt (by omega)) ?_ ?_ ⟨rfl, e1, by rw [List.range_zero, List.flatMap_nil, List.filter_nil, List.append_nil]; exact cs1⟩
            · rintro i ⟨v, M2⟩ hi ⟨a1, a2, a3⟩
              have a1 : v = nI (12 + i) := a1
              subst a1
              have a2 : REI M0 n tb w h pre M2 := a2
              have a3 : RF (gC n w h) tb (RDC n) (V1 ++ ((List.range i).flatMap gb).filter (nrmB n)) M2 := a3
              have hgi : gb i = enA n k (pre ++ [12 + i]) us (p - 1) := by rw [← hg2]
              show Wp (f_X10_tryRows_L167 (nI pre.length) (nI us) (nI p) (f_X10_tryRows k) (nI (12 + i)) M2) _
              unfold f_X10_tryRows_L167
              rw [pz_13, if_neg (by rw [pz_lt (by omega) (by omega)]; omega), pz_1, if_neg (by rw [pz_le (by omega) (by omega)]; omega), pz_wr (by omega) (by omega), pz_add, pz_sub (by omega)]
              have cs2 : RF (gC n w h) tb (RDC n) (V1 ++ ((List.range i).flatMap gb).filter (nrmB n)) (wi M2 83 pre.length (nI (12 + i))) := a3.eq rfl (fun t u d => d.eq rfl rfl)
              have ih := rrw_ok y k (pre ++ [12 + i]) us (p - 1) _ _ (a2.ext (12 + i)) cs2 hus (by rw [len_1]; omega) (by rw [len_1]; omega) (by rw [len_1]; omega) (fun r hrr => hr r (List.mem_append.mpr (Or.inr (List.mem_flatMap.mpr ⟨i, List.mem_range.mpr hi, by rw [hgi]; exact hrr⟩))))
              rw [len_1] at ih
              refine wp_b ih ?_
              rintro M3 ⟨b1, b2⟩
              rw [pz_add, pz_lt1]
              refine wp_s (Or.inl ⟨_, rfl, rfl, b1.cut, ?_⟩)
              rw [fm_s, hgi, List.filter_append, ← List.append_assoc]; exact b2
            · rintro ⟨v, M2⟩ ⟨a1, a2, a3⟩
              have a1 : v = nI (12 + 2) := a1
              subst a1
              show Wp (f_X10_tryRows_L167 (nI pre.length) (nI us) (nI p) (f_X10_tryRows k) (nI (12 + 2)) M2) _
              unfold f_X10_tryRows_L167
              rw [pz_13, if_pos (by decide)]
              exact wp_s ⟨M2, rfl, a2, a3⟩
          · rw [if_neg zp, List.filter_nil, List.append_nil]
            refine wp_e (lp_n (step := fun v : Int32 × Mm => f_X10_tryRows_L167 (nI pre.length) (nI us) (nI p) (f_X10_tryRows k) v.1 v.2) (fun _ => (nI 12, M1)) 0 (fu_lt (by omega)) (fun i hi => by omega) ?_) ⟨e1, cs1⟩
            show f_X10_tryRows_L167 (nI pre.length) (nI us) (nI p) (f_X10_tryRows k) (nI 12) M1 = _
            unfold f_X10_tryRows_L167
            rw [pz_13, if_neg (by decide), pz_1, if_pos (by rw [pz_le (by omega) (by omega)]; omega)]
theorem rcs_ok' {M : Mm} {n tb : Nat} {w h : Nat → Nat} (y : SZ n tb w h) (x : RX M n tb w h) (h39 : M.1 69 39 = m1) : Wp (f_X10_tryRows 30 (nI 0) (nI 0) (nI 0) M) (fun M' => KS M M' ∧ ∃ r u, Bst (gC n w h) tb (NR n) r u ∧ M'.1 69 39 = nI (gC n w h r u) ∧ M'.1 69 40 = nI u ∧ IA M' 98 (2 * n - 1) (rowF r)) := by
  have h1 := y.n1
  have h4 := y.n4
  have c0 : RF (gC n w h) tb (RDC n) [] M := ⟨2147483647, Or.inl ⟨h39, rfl⟩, Or.inl ⟨rfl, rfl⟩⟩
  refine wp_m (rrw_ok (M0 := M) y 30 [] 0 0 [] M ⟨x, fun j hj => by have : j < 0 := hj; omega, KS.rf⟩ c0 (Nat.two_pow_pos n) (Nat.le_refl _) (Nat.zero_le _) (by show 2 * n - 1 - 0 < 30; omega) (fun r hr => hr)) ?_
  rintro M' ⟨e, G, g1, g2⟩
  have g2 : CS (gC n w h) tb ((NA n).filter (nrmB n)) G (RDC n M') := g2
  rw [← nr_tab n (by omega) h1] at g2
  obtain ⟨r, u, b1, b2, b3⟩ := g2.get (nr_ne n (by omega) h1)
  have hE := rE_ok h1 h4 (NR_mem h1 h4 b1.mem)
  refine ⟨e.ks, r, u, b1, ?_, b3.1, b3.2⟩
  rcases g1 with ⟨_, q⟩ | ⟨q, _⟩
  · have : gC n w h r u < 2147483647 := (ex_bd (by omega) hE (y.sw u) (y.sh u)).2.2.2.2
    omega
  · rw [q, b2]
