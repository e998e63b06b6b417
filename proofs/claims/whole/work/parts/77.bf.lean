/-! best: both sides -/
theorem c_best {F : Abs → Nat → Mm → Prop} (hF : FOK F) {M : Mm} {A : Abs} {e : Ex} (hA : AOK A) (hC : CI F M A) (hk : A.kd = 2) (hE : RowE A.n A.tk e) (h1 : 1 ≤ A.n) {i us : Nat} (hi : i < (lc A.w A.h A.tb 0 e).length) (hs : SolL A.w A.h A.tb e ((lc A.w A.h A.tb 0 e).getD i (0, 0)) us) :
    Wp (f_X9_best (nI i) M) (fun r => r.1 = some (nI us) ∧ CI F r.2 (ctS A us A.tk e) ∧ Fr SC M r.2) := by
  have hl := lc_len (w := A.w) (h := A.h) (op := A.tb) (td := 0) e hE.2.2.1
  have hll : (Ex.lvs e).length = A.n := hE.2.2.2.2
  have hn := hA.n
  have hus := p12 (sub_lt hs.1.1 hA.tb) hn
  unfold f_X9_best
  refine wp_b2 (dw_ok hF hA hC hk hE h1 (nI i)) ?_
  rintro o M1 ⟨a1, a2, ⟨a3, a4, _⟩ | ⟨a3, a4⟩⟩
  · have a3 : o = some () := a3
    have a4 : ARl M1 29 30 0 (lc A.w A.h A.tb 0 e) := a4
    have a2 : CI F M1 A := a2
    have g := a4.get hi
    rw [Nat.zero_add] at g
    rw [a3, pz_ts, pz_rd (by omega) (by omega), pz_rd (by omega) (by omega), g.1, g.2]
    obtain ⟨b1, b2⟩ := a2.k2 hk
    refine wp_b2 (lt_ok (k0 := 28) (k1 := 17) hn h1 (by omega) (by omega) hA.tb hA.w hA.h hE b1 b2 a2.w a2.h a2.tb a2.n (getD_mem hi) hs) ?_
    rintro r M2 ⟨c1, c2⟩
    have c1 : r = nI us := c1
    have c2 : Fr (SB 28 33) M1 M2 := c2
    subst c1
    rw [pz_2]
    refine wp_b (c_layc hF hA h1 a2 (c2.mono (fun k h => by unfold SB at h ⊢; omega)) hE (by rw [c2.1 17 (fun h => by unfold SB at h; omega)]; exact b1) (b2.eq (c2.1 18 (fun h => by unfold SB at h; omega))) (nI us)) ?_
    rintro M3 ⟨d1, d2⟩
    rw [msk_nI hs.1.1 hus] at d1
    exact wp_s ⟨rfl, d1, (a1.mono (fun k h => sb_sc h (by omega))).tr d2⟩
  · rw [pz_lt (by omega) (by omega), pz_lt (by omega) (by omega)] at a4
    omega
def KB (M M' : Mm) : Prop := (∀ k, k ≠ 69 → ¬ SMp k → M'.1 k = M.1 k) ∧ (∀ j, j ≠ 7 → M'.1 69 j = M.1 69 j) ∧ ∀ k, ¬ SMp k → M'.2 k = M.2 k
theorem KB.rf {M : Mm} : KB M M := ⟨fun _ _ _ => rfl, fun _ _ => rfl, fun _ _ => rfl⟩
theorem KB.st {M M1 M2 : Mm} {v : Int32} (h : KB M M1) (h2 : Fr SMp (wi M1 69 7 v) M2) : KB M M2 := by
  refine ⟨fun k a b => ?_, fun j hj => ?_, fun k hk => ?_⟩
  · rw [h2.1 k b, wi_n _ _ _ a]; exact h.1 k a b
  · rw [h2.1 69 (by unfold SMp; omega), wi_at, if_neg hj]; exact h.2.1 j hj
  · rw [h2.2 k hk]; exact h.2.2 k hk
theorem KB.fw {M M' : Mm} (h : KB M M') : Fr SRw M M' := ⟨fun k hk => h.1 k (fun e => hk (Or.inl e)) (fun q => hk (by unfold SMp at q; unfold SRw; omega)), fun k hk => h.2.2 k (fun q => hk (by unfold SMp at q; unfold SRw; omega))⟩
theorem sub_le {u tb : Nat} (h : u &&& tb = u) : u ≤ tb := by rw [← h]; exact Nat.and_le_right
theorem r_best {M : Mm} {A : Abs} {e : Ex} (hA : AOK A) (hR : RI M A) (hk : A.kd = 2) (hE : RowE A.n A.tk e) (h1 : 1 ≤ A.n) {i us : Nat} (hi : i < (lc A.w A.h A.tb 0 e).length) (hs : SolL A.w A.h A.tb e ((lc A.w A.h A.tb 0 e).getD i (0, 0)) us) :
    RQr M (ctS A us A.tk e) (some (nI us)) (f_X10_best (nI i) M) := by
  have hl := lc_len (w := A.w) (h := A.h) (op := A.tb) (td := 0) e hE.2.2.1
  have hll : (Ex.lvs e).length = A.n := hE.2.2.2.2
  have hn := hA.n
  have htb := p12 hA.tb hn
  have hut := sub_le hs.1.1
  have hpb := lc_bd (op := A.tb) (td := 0) hE.2.2.1 (by omega) hE.2.2.2.1 hA.w hA.h _ (getD_mem hi)
  unfold f_X10_best RQr
  rw [pz_lt1, if_pos (show (wi M 69 0 0).1 69 6 = 2 from hR.kd.trans hk), pz_0, if_pos (by rw [pz_le (by omega) (by omega)]; omega)]
  refine wp_b (r_find hA hR hk hE h1) ?_
  rintro M9 ⟨a1, a2, a3, a4, a5⟩
  rw [a1.n, if_pos (by rw [pz_lt (by omega) (by omega)]; exact hi), bde (tbl_ok hn hA.tb a2.n a2.tb)]
  have g := a1.a.get hi
  rw [Nat.zero_add] at g
  generalize hp : (lc A.w A.h A.tb 0 e).getD i (0, 0) = p at *
  refine wp_b (P := fun x => ∃ M', x = .inr (nI us, M') ∧ RI M' (ctS A us A.tk e) ∧ Fr SR M M' ∧ M'.1 69 0 = nI 0) ?_ ?_
  · refine wp_l (fun j (v : Int32 × Mm) => v.1 = nI j ∧ KB M9 v.2) us (fu_lt (by omega)) ?_ ?_ ⟨rfl, KB.rf⟩
    · rintro j ⟨v, M1⟩ hj ⟨b1, b2⟩
      have b1 : v = nI j := b1
      subst b1
      have b2 : KB M9 M1 := b2
      have q : ∀ k, k ≠ 69 → ¬ SMp k → M1.1 k = M9.1 k := b2.1
      show Wp (f_X10_best_L46 (nI i) (nI A.tb) (nI j) M1) _
      unfold f_X10_best_L46 f_X10_best_J121
      rw [if_neg (by rw [pz_lt (by omega) (by omega)]; omega), pz_n1, pz_clr, pz_0]
      have cl : clr j A.tb < 4096 := clr_lt (n := 12) (by omega)
      by_cases z : clr j A.tb = 0
      · rw [if_pos (by rw [z]), pz_lt1]
        have c1 : M1.1 69 1 = nI A.n := by rw [b2.2.1 1 (by omega)]; exact a2.n
        refine wp_b (rt_ok (u := j) hn h1 (by omega) hA.w hA.h hE c1 (a2.w.eq (q 70 (by omega) (by unfold SMp; omega))) (a2.h.eq (q 71 (by omega) (by unfold SMp; omega))) ((a2.k2 hk).eq (q 78 (by omega) (by unfold SMp; omega)))) ?_
        rintro M2 ⟨d1, d2, d3⟩
        have b3 := b2.st d3
        have c2 : M2.1 69 1 = nI A.n := by rw [b3.2.1 1 (by omega)]; exact a2.n
        have sb := shp_bd (u := j) (w := A.w) (h := A.h) (n := A.n) (e := e) (by omega) hE.2.2.2.1 hA.w hA.h
        rw [rs_eq c2 h1, pz_1, pz_sub (by omega), pz_rd (by omega) (by omega), d1, pz_rd (by omega) (by omega), b3.1 84 (by omega) (by unfold SMp; omega), g.1, pz_rd (by omega) (by omega), d2, pz_rd (by omega) (by omega), b3.1 85 (by omega) (by unfold SMp; omega), g.2, pz_lt1, pz_add]
        have nx : Wp (some (Sum.inl (nI (j + 1), M2)) : Option ((Int32 × Mm) ⊕ (Mm ⊕ (Int32 × Mm)))) (fun r => (∃ w, r = .inl w ∧ w.1 = nI (j + 1) ∧ KB M9 w.2) ∨ ∃ x, r = .inr x ∧ ∃ M', x = .inr (nI us, M') ∧ RI M' (ctS A us A.tk e) ∧ Fr SR M M' ∧ M'.1 69 0 = nI 0) := wp_s (Or.inl ⟨_, rfl, rfl, b3⟩)
        by_cases z1 : (shp A.w A.h e j).1 = p.1
        · rw [if_pos (by rw [z1])]
          by_cases z2 : (shp A.w A.h e j).2 = p.2
          · exact absurd ⟨clr_0.mp z, Prod.ext z1 z2⟩ (hs.2 j hj)
          · rw [if_neg (by rw [pz_eq (by omega) (by omega)]; exact z2)]
            exact nx
        · rw [if_neg (by rw [pz_eq (by omega) (by omega)]; exact z1)]
          exact nx
      · rw [if_neg (by rw [pz_eq (by omega) (by omega)]; exact z), pz_lt1, pz_1, pz_add]
        exact wp_s (Or.inl ⟨_, rfl, rfl, b2⟩)
    · rintro ⟨v, M1⟩ ⟨b1, b2⟩
      have b1 : v = nI us := b1
      subst b1
      have b2 : KB M9 M1 := b2
      have q : ∀ k, k ≠ 69 → ¬ SMp k → M1.1 k = M9.1 k := b2.1
      show Wp (f_X10_best_L46 (nI i) (nI A.tb) (nI us) M1) _
      unfold f_X10_best_L46
      have z : clr us A.tb = 0 := clr_0.mpr hs.1.1
      rw [if_neg (by rw [pz_lt (by omega) (by omega)]; omega), pz_n1, pz_clr, pz_0, if_pos (by rw [z]), pz_lt1]
      have c1 : M1.1 69 1 = nI A.n := by rw [b2.2.1 1 (by omega)]; exact a2.n
      refine wp_b (rt_ok (u := us) hn h1 (by omega) hA.w hA.h hE c1 (a2.w.eq (q 70 (by omega) (by unfold SMp; omega))) (a2.h.eq (q 71 (by omega) (by unfold SMp; omega))) ((a2.k2 hk).eq (q 78 (by omega) (by unfold SMp; omega)))) ?_
      rintro M2 ⟨d1, d2, d3⟩
      have b3 := b2.st d3
      have c2 : M2.1 69 1 = nI A.n := by rw [b3.2.1 1 (by omega)]; exact a2.n
      have c7 : M2.1 69 7 = nI us := by rw [d3.1 69 (by unfold SMp; omega), wi_at, if_pos rfl]
      rw [rs_eq c2 h1, pz_1, pz_sub (by omega), pz_rd (by omega) (by omega), d1, pz_rd (by omega) (by omega), b3.1 84 (by omega) (by unfold SMp; omega), g.1, if_pos (by rw [hs.1.2]), pz_rd (by omega) (by omega), d2, pz_rd (by omega) (by omega), b3.1 85 (by omega) (by unfold SMp; omega), g.2, if_pos (by rw [hs.1.2])]
      refine wp_b (r_layc hA h1 hR (a5.fw.tr b3.fw) (td := us) hE c2 (by rw [b3.2.1 41 (by omega)]; exact a2.s) c7 hs.1.1 ((a2.k2 hk).eq (b3.1 78 (by omega) (by unfold SMp; omega)))) ?_
      rintro M3 ⟨f1, f2, f3⟩
      refine wp_s ⟨_, rfl, _, rfl, f1, f2, ?_⟩
      rw [f3 0 (by omega), b3.2.1 0 (by omega)]; exact a4
  · rintro x ⟨M', rfl, f1, f2, f3⟩
    exact wp_s ⟨f1, f2, Or.inr ⟨_, rfl, f3, rfl⟩⟩
theorem arm_19 {F : Abs → Nat → Mm → Prop} (hF : FOK F) {xs : Nat → Int32} {L n : Nat} {M : Mm} (hL : L ≤ 3584) (hn : n + 7 ≤ L) (hI : Inv F M) : Nx F n (f_arm_19 xs L (nI n) M) := by
  obtain ⟨A, hA, hC, hR⟩ := hI
  unfold f_arm_19 f_L_best
  rw [pz_1, pz_add, pz_rdX (by omega) hL]
  simp only [fun f : Int32 → Option (Option (Int32 × Mm)) => pz_rdX (f := f) (xs := xs) (L := L) (m := n + 1) (by omega) hL]
  generalize xs (n + 1) = a
  rw [← pz_1]
  by_cases hk : A.kd = 2
  · obtain ⟨e, hE⟩ := hA.k2 hk
    obtain ⟨h1, _⟩ := hA.ly (by rw [hk]; decide)
    have hl := lc_len (w := A.w) (h := A.h) (op := A.tb) (td := 0) e hE.2.2.1
    have hll : (Ex.lvs e).length = A.n := hE.2.2.2.2
    have hn12 := hA.n
    rcases isl a (n := (lc A.w A.h A.tb 0 e).length) (by omega) with ⟨i, hi, ea⟩ | q
    · subst ea
      obtain ⟨us, hs⟩ := sol_ex hE.2.2.1 (getD_mem hi)
      exact arm_w hF Int32.toInt64 (some (nI us)) (hA.cts h1 hs.1.1 hE) hR (lq_m hF _ (c_best hF hA hC hk hE h1 hi hs)) (fun M1 h => r_best hA h hk hE h1 hi hs) (fun _ => rfl)
    · refine arm_w hF Int32.toInt64 none hA hR (lq_m hF _ ?_) (fun M1 h => ?_) (fun _ => rfl)
      · unfold f_X9_best
        refine wp_b2 (dw_ok hF hA hC hk hE h1 a) ?_
        rintro o M' ⟨a1, a2, ⟨a3, a4, i, hi, a5⟩ | ⟨a3, a4⟩⟩
        · subst a5
          rw [pz_lt (by omega) (by omega), pz_lt (by omega) (by omega)] at q
          omega
        · have a3 : o = none := a3
          rw [a3, pz_tn]
          exact wp_s ⟨rfl, a2, a1.mono (fun k h => sb_sc h (by omega))⟩
      · unfold f_X10_best f_X10_best_J17 f_X10_fail
        rw [pz_lt1, if_pos (show (wi M1 69 0 0).1 69 6 = 2 from h.kd.trans hk), pz_0, pz_1]
        by_cases q1 : a < nI 0
        · have q2 : ¬ nI 0 ≤ a := Int32.not_le.mpr q1
          rw [if_neg q2]
          simp only [pz_lt1]
          exact rq_fail h _
        · have q2 : nI 0 ≤ a := Int32.not_lt.mp q1
          rw [if_pos q2]
          obtain ⟨M', em, a1, a2, a3, a4, a5⟩ := r_find hA h hk hE h1
          have q3 : ¬ a < nI (lc A.w A.h A.tb 0 e).length := by
            rcases q with y | y
            · exact absurd y q1
            · exact y.2
          rw [em, pz_bd, a1.n, if_neg q3]
          simp only [pz_lt1]
          exact rq_fl h a5 _
  · refine arm_w hF Int32.toInt64 none hA hR (lq_m hF _ ?_) (fun M1 h => ?_) (fun _ => rfl)
    · unfold f_X9_best f_X9_drawWith
      rw [nk_n (by rw [hC.kd]; exact hk), pz_lt1, pz_tn, pz_bd2, pz_tn]
      exact wp_s ⟨rfl, hC, Fr.rf⟩
    · unfold f_X10_best f_X10_best_J17
      rw [pz_lt1, if_neg (show ¬ (wi M1 69 0 0).1 69 6 = 2 from fun q => hk (h.kd.symm.trans q)), pz_lt1]
      exact rq_fail h _
