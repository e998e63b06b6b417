/-! the reference makes a tree -/
def KM (M M' : Mm) : Prop := (∀ k, k ≠ 69 → k ≠ 79 → k ≠ 80 → k ≠ 101 → M'.1 k = M.1 k) ∧ (∀ j, j ≠ 47 → j ≠ 8 → M'.1 69 j = M.1 69 j) ∧ M'.2 = M.2
theorem KM.rf {M : Mm} : KM M M := ⟨fun _ _ _ _ _ => rfl, fun _ _ _ => rfl, rfl⟩
theorem KM.w {M M' : Mm} (h : KM M M') {k i : Nat} {v : Int32} (hk : k = 79 ∨ k = 80 ∨ k = 101 ∨ (k = 69 ∧ (i = 47 ∨ i = 8))) : KM M (wi M' k i v) := by
  refine ⟨fun j a b c d => ?_, fun j a b => ?_, h.2.2⟩
  · rw [wi_n _ _ _ (by omega)]; exact h.1 j a b c d
  · rw [wi_1, if_neg (by omega)]; exact h.2.1 j a b
def RGr (n f : Nat) (ord : Nat → Nat) (M0 : Mm) (z : Gz) (M : Mm) : Prop :=
  (∀ j, j < z.1 → M.1 101 j = nI (z.2.1 j)) ∧
  (M.1 69 47 = nI z.1) ∧
  (∀ k, k < n → M.1 79 (ord k) = cv (z.2.2.1 (ord k)) ∧ M.1 80 (ord k) = cv (z.2.2.2 (ord k))) ∧
  (M.1 69 8 = nI (ord 0)) ∧
  (KM M0 M)
theorem RGr.op {n f : Nat} {ord : Nat → Nat} {M0 : Mm} {z : Gz} {M : Mm} (hh_ : RGr n f ord M0 z M) : ∀ j, j < z.1 → M.1 101 j = nI (z.2.1 j) := hh_.1
theorem RGr.s {n f : Nat} {ord : Nat → Nat} {M0 : Mm} {z : Gz} {M : Mm} (hh_ : RGr n f ord M0 z M) : M.1 69 47 = nI z.1 := hh_.2.1
theorem RGr.lr {n f : Nat} {ord : Nat → Nat} {M0 : Mm} {z : Gz} {M : Mm} (hh_ : RGr n f ord M0 z M) : ∀ k, k < n → M.1 79 (ord k) = cv (z.2.2.1 (ord k)) ∧ M.1 80 (ord k) = cv (z.2.2.2 (ord k)) := hh_.2.2.1
theorem RGr.r8 {n f : Nat} {ord : Nat → Nat} {M0 : Mm} {z : Gz} {M : Mm} (hh_ : RGr n f ord M0 z M) : M.1 69 8 = nI (ord 0) := hh_.2.2.2.1
theorem RGr.fr {n f : Nat} {ord : Nat → Nat} {M0 : Mm} {z : Gz} {M : Mm} (hh_ : RGr n f ord M0 z M) : KM M0 M := hh_.2.2.2.2
theorem cv_n {b : Nat} (h : b < 12) : cv b = nI b := if_neg (by omega)
theorem j135_ok {n f i : Nat} {ord : Nat → Nat} {M0 M : Mm} {y : Gz} (hp : PermN n ord) (h4 : n ≤ 4) (hi : i < n) (w : GIw n ord i y) (hc : M0.1 100 i = nI (cdF n f i)) (g : RGr n f ord M0 y M) :
    Wp (f_X10_makeTree_J135 (nI i) (nI (ord i)) M) (fun r => ∃ M', r = .inl (nI (i + 1), M') ∧ RGr n f ord M0 (gp2 (cdF n f i) (ord i) (gp1 (cdF n f i) (ord i) y)) M') := by
  have hs := w.s
  have hb := hp.1 i hi
  have cl : cdF n f i < 4 := Nat.mod_lt _ (by omega)
  have J210 : ∀ (N : Mm), f_X10_makeTree_J210 (nI i) N = some (.inl (nI (i + 1), N)) := fun N => by
    unfold f_X10_makeTree_J210; rw [pz_lt1, pz_1, pz_add]
  have c100 : ∀ {z : Gz} {N : Mm}, RGr n f ord M0 z N → N.1 100 i = nI (cdF n f i) := fun gz => by rw [gz.fr.1 100 (by omega) (by omega) (by omega) (by omega)]; exact hc
  have push : ∀ (z : Gz) (N : Mm) (v : Nat), z.1 ≤ i + 1 → RGr n f ord M0 z N → RGr n f ord M0 (z.1 + 1, fset z.2.1 z.1 v, z.2.2) (wi (wi N 101 z.1 (nI v)) 69 47 (nI (z.1 + 1))) := by
    intro z N v hz gz
    refine ⟨fun j hj => ?_, by rw [wi_at, if_pos rfl], fun k hk => gz.lr k hk, gz.r8, (gz.fr.w (by omega)).w (by omega)⟩
    have hj : j < z.1 + 1 := hj
    show (wi N 101 z.1 (nI v)).1 101 j = nI (fset z.2.1 z.1 v j)
    rw [wi_at]
    by_cases e : j = z.1
    · rw [if_pos e, e, fset_eq]
    · rw [if_neg e, fset_ne e]; exact gz.op j (by omega)
  have s101 : ∀ {z : Gz} {N : Mm} (v : Int32), RGr n f ord M0 z N → (wi N 101 z.1 v).1 69 47 = nI z.1 := fun v gz => by rw [wi_n _ _ _ (by omega)]; exact gz.s
  have p2 : ∀ (z : Gz) (N : Mm), z.1 ≤ i + 1 → RGr n f ord M0 z N → Wp (f_X10_makeTree_J178 (nI i) (nI (ord i)) N) (fun r => ∃ M', r = .inl (nI (i + 1), M') ∧ RGr n f ord M0 (gp2 (cdF n f i) (ord i) z) M') := by
    intro z N hz gz
    unfold f_X10_makeTree_J178 gp2
    rw [pz_rd (by omega) (by omega), c100 gz, gz.s, pz_2, pz_mul, pz_wr (by omega) (by omega), s101 _ gz, pz_1, pz_add, pz_lt1, J210, J210]
    by_cases q : cdF n f i = 0 ∨ cdF n f i = 1
    · rw [if_neg (by rw [pz_le (by omega) (by omega)]; omega), if_pos q]
      exact wp_s ⟨_, rfl, push z N _ hz gz⟩
    · rw [if_pos (by rw [pz_le (by omega) (by omega)]; omega), if_neg q]
      exact wp_s ⟨_, rfl, gz⟩
  unfold f_X10_makeTree_J135
  rw [pz_rd (by omega) (by omega), c100 g, pz_rd (by omega) (by omega), c100 g, pz_0, pz_2]
  have pp : f_X10_makeTree_J154 (nI i) (nI (ord i)) M () = f_X10_makeTree_J178 (nI i) (nI (ord i)) (wi (wi M 101 y.1 (nI (2 * ord i + 1))) 69 47 (nI (y.1 + 1))) := by
    unfold f_X10_makeTree_J154
    rw [g.s, pz_2, pz_mul, pz_1, pz_add, pz_wr (by omega) (by omega), s101 _ g, pz_add, pz_lt1]
  rw [pp]
  by_cases q0 : cdF n f i = 0 ∨ cdF n f i = 2
  · have e1 : gp1 (cdF n f i) (ord i) y = (y.1 + 1, fset y.2.1 y.1 (2 * ord i + 1), y.2.2) := if_pos q0
    have := p2 (y.1 + 1, fset y.2.1 y.1 (2 * ord i + 1), y.2.2) _ (by show y.1 + 1 ≤ i + 1; omega) (push y M _ (by omega) g)
    rw [e1]
    rcases q0 with q0 | q0
    · rw [if_pos (by rw [q0])]; exact this
    · rw [if_neg (by rw [q0]; decide), if_pos (by rw [q0])]; exact this
  · have e1 : gp1 (cdF n f i) (ord i) y = y := if_neg q0
    rw [e1, if_neg (by rw [pz_eq (by omega) (by omega)]; omega), if_neg (by rw [pz_eq (by omega) (by omega)]; omega)]
    exact p2 y M (by omega) g
theorem gst_none {n f : Nat} {ord : Nat → Nat} {i : Nat} (h : gst n f ord i = none) : ∀ m, gst n f ord (i + m) = none
  | 0 => h
  | m + 1 => by
    show (gst n f ord (i + m)).bind _ = none
    rw [gst_none h m]; rfl
theorem rmt_ok {M : Mm} {n f : Nat} {ord : Nat → Nat} (h1 : 1 ≤ n) (h4 : n ≤ 4) (hp : PermN n ord) (r1 : M.1 69 1 = nI n) (o : IA M 81 n ord) (hc : ∀ i, i < n → M.1 100 i = nI (cdF n f i)) :
    Wp (f_X10_makeTree M) (fun r => KM M r.2 ∧ ((r.1 = nI 1 ∧ ∃ z, gst n f ord n = some z ∧ z.1 = 0 ∧ GIv n ord n z ∧ RGr n f ord M z r.2) ∨ (r.1 = nI 0 ∧ ∀ z, gst n f ord n = some z → z.1 ≠ 0))) := by
  unfold f_X10_makeTree
  rw [pz_lt1, pz_0, pz_rd (by omega) (by omega), wi_n _ _ _ (show 81 ≠ 69 by omega), o 0 (by omega), pz_lt1]
  refine wp_b (P := fun N => RGr n f ord M (0, fun _ => 0, fun _ => 15, fun _ => 15) N) ?_ ?_
  · refine wp_m (wp_for (step := fun v => f_X10_makeTree_L19 v.1 v.2) (fun i M' => (∀ k, k < i → M'.1 79 (ord k) = m1 ∧ M'.1 80 (ord k) = m1) ∧ M'.1 69 47 = nI 0 ∧ M'.1 69 8 = nI (ord 0) ∧ KM M M') n (by omega) ?_ ?_ ⟨fun k hk => by omega, by rw [wi_1, if_neg (by omega), wi_at, if_pos rfl], by rw [wi_at, if_pos rfl], (KM.rf.w (by omega)).w (by omega)⟩) ?_
    · rintro i M1 hi ⟨a1, a2, a3, a4⟩
      have hb := hp.1 i hi
      show Wp (f_X10_makeTree_L19 (nI i) M1) _
      unfold f_X10_makeTree_L19
      have e81 : M1.1 81 i = nI (ord i) := by rw [a4.1 81 (by omega) (by omega) (by omega) (by omega)]; exact o i hi
      rw [a4.2.1 1 (by omega) (by omega), r1, if_neg (by rw [pz_le (by omega) (by omega)]; omega), pz_rd (by omega) (by omega), e81, pz_n1, pz_wr (by omega) (by omega), pz_wr (by omega) (by omega), pz_lt1, pz_1, pz_add]
      refine wp_s ⟨_, rfl, fun k hk => ?_, a2, a3, (a4.w (by omega)).w (by omega)⟩
      rw [wi_n _ _ _ (show 79 ≠ 80 by omega), wi_at, wi_at, wi_n _ _ _ (show 80 ≠ 79 by omega)]
      by_cases e : ord k = ord i
      · rw [if_pos e, if_pos e]; exact ⟨rfl, rfl⟩
      · rw [if_neg e, if_neg e]
        refine a1 k ?_
        have : k ≠ i := fun q => e (by rw [q])
        omega
    · rintro M1 ⟨a1, a2, a3, a4⟩
      show f_X10_makeTree_L19 (nI n) M1 = _
      unfold f_X10_makeTree_L19
      rw [a4.2.1 1 (by omega) (by omega), r1, if_pos ((nI_leI (by omega) (by omega)).mpr (Nat.le_refl _))]
    · rintro M1 ⟨a1, a2, a3, a4⟩
      exact ⟨fun j hj => by have : j < 0 := hj; omega, a2, fun k hk => a1 k hk, a3, a4⟩
  · intro N0 gr0
    unfold f_X10_makeTree_A19
    rw [pz_0]
    refine wp_b (P := fun x => (∃ z N, x = .inl N ∧ gst n f ord n = some z ∧ GIv n ord n z ∧ RGr n f ord M z N) ∨ (∃ N, x = .inr (nI 0, N) ∧ gst n f ord n = none ∧ KM M N)) ?_ ?_
    · refine wp_l (fun i (v : Int32 × Mm) => ∃ z, v.1 = nI i ∧ gst n f ord i = some z ∧ (i = 0 → z.1 = 0) ∧ GIv n ord i z ∧ RGr n f ord M z v.2) n (fu_lt (by omega)) ?_ ?_ ⟨(0, fun _ => 0, fun _ => 15, fun _ => 15), rfl, rfl, fun _ => rfl, g0_iv, gr0⟩
      · rintro i ⟨x2, M1⟩ hi ⟨z, a2, a3, a0, a4, a5⟩
        have a2 : x2 = nI i := a2
        subst a2
        have a5 : RGr n f ord M z M1 := a5
        have hb := hp.1 i hi
        have hs := a4.s
        have gs : gst n f ord (i + 1) = (gat i (ord i) z).bind fun y => some (gp2 (cdF n f i) (ord i) (gp1 (cdF n f i) (ord i) y)) := by
          show (gst n f ord i).bind _ = _
          rw [a3]; rfl
        show Wp (f_X10_makeTree_L56 (nI i) M1) _
        unfold f_X10_makeTree_L56
        have o1 : M1.1 81 i = nI (ord i) := by rw [a5.fr.1 81 (by omega) (by omega) (by omega) (by omega)]; exact o i hi
        rw [a5.fr.2.1 1 (by omega) (by omega), r1, if_neg (by rw [pz_le (by omega) (by omega)]; omega), pz_rd (by omega) (by omega), o1, pz_0]
        have fin : ∀ (y : Gz) (N : Mm), gat i (ord i) z = some y → RGr n f ord M y N → Wp (f_X10_makeTree_J135 (nI i) (nI (ord i)) N) (fun r => (∃ w, r = .inl w ∧ ∃ z, w.1 = nI (i + 1) ∧ gst n f ord (i + 1) = some z ∧ (i + 1 = 0 → z.1 = 0) ∧ GIv n ord (i + 1) z ∧ RGr n f ord M z w.2) ∨ ∃ x, r = .inr x ∧ ((∃ z N, x = .inl N ∧ gst n f ord n = some z ∧ GIv n ord n z ∧ RGr n f ord M z N) ∨ (∃ N, x = .inr (nI 0, N) ∧ gst n f ord n = none ∧ KM M N))) := by
          intro y N ey gy
          have w := gat_iv hp h4 hi a4 a0 ey
          refine wp_m (j135_ok hp h4 hi w (hc i hi) gy) ?_
          rintro r ⟨M', rfl, g'⟩
          refine Or.inl ⟨_, rfl, _, rfl, ?_, fun h => by omega, gp_iv w, g'⟩
          rw [gs, ey]; rfl
        by_cases q : i = 0
        · rw [if_pos (by rw [q]; decide)]
          exact fin z M1 (if_pos q) a5
        · rw [if_neg (by rw [pz_le (by omega) (by omega)]; omega), a5.s]
          by_cases q2 : z.1 = 0
          · rw [if_pos (by rw [q2])]
            have gn : gst n f ord (i + 1) = none := by
              rw [gs]
              unfold gat
              rw [if_neg q, if_pos q2]; rfl
            have := gst_none gn (n - (i + 1))
            rw [show i + 1 + (n - (i + 1)) = n by omega] at this
            exact wp_s (Or.inr ⟨_, rfl, Or.inr ⟨M1, rfl, this, a5.fr⟩⟩)
          · have e47 : ∀ v : Int32, (wi M1 69 47 v).1 69 47 = v := fun v => by rw [wi_at, if_pos rfl]
            rw [if_neg (by rw [pz_eq (by omega) (by omega)]; exact q2), pz_1, pz_sub (by omega), pz_lt1, e47, pz_rd (by omega) (by omega), wi_n _ _ _ (show 101 ≠ 69 by omega), a5.op (z.1 - 1) (by omega)]
            obtain ⟨k, hk, ek⟩ := a4.op (z.1 - 1) (by omega)
            have hkn := hp.1 k (by omega)
            have tt := at_tab (z.2.1 (z.1 - 1)) (by omega)
            rw [pz_2, tt.2.2.1, tt.2.2.2, ek]
            have ee : gat i (ord i) z = if z.2.1 (z.1 - 1) % 2 = 0 then some (z.1 - 1, z.2.1, fset z.2.2.1 (ord k) (ord i), z.2.2.2) else some (z.1 - 1, z.2.1, z.2.2.1, fset z.2.2.2 (ord k) (ord i)) := by
              unfold gat
              rw [if_neg q, if_neg q2, ek]
            by_cases q3 : z.2.1 (z.1 - 1) % 2 = 0
            · rw [if_pos (by rw [q3]), pz_wr (by omega) (by omega)]
              rw [if_pos q3] at ee
              refine fin (z.1 - 1, z.2.1, fset z.2.2.1 (ord k) (ord i), z.2.2.2) (wi (wi M1 69 47 (nI (z.1 - 1))) 79 (ord k) (nI (ord i))) ee ⟨fun j hj => a5.op j (by have : j < z.1 - 1 := hj; omega), by rw [wi_n _ _ _ (by omega)]; exact e47 _, fun k' hk' => ⟨?_, (a5.lr k' hk').2⟩, a5.r8, (a5.fr.w (by omega)).w (by omega)⟩
              show (wi (wi M1 69 47 (nI (z.1 - 1))) 79 (ord k) (nI (ord i))).1 79 (ord k') = cv (fset z.2.2.1 (ord k) (ord i) (ord k'))
              rw [wi_at]
              by_cases e : ord k' = ord k
              · rw [if_pos e, e, fset_eq, cv_n (by omega)]
              · rw [if_neg e, fset_ne e, wi_n _ _ _ (show 79 ≠ 69 by omega)]; exact (a5.lr k' hk').1
            · rw [if_neg (by rw [pz_eq (by omega) (by omega)]; exact q3), pz_wr (by omega) (by omega)]
              rw [if_neg q3] at ee
              refine fin (z.1 - 1, z.2.1, z.2.2.1, fset z.2.2.2 (ord k) (ord i)) (wi (wi M1 69 47 (nI (z.1 - 1))) 80 (ord k) (nI (ord i))) ee ⟨fun j hj => a5.op j (by have : j < z.1 - 1 := hj; omega), by rw [wi_n _ _ _ (by omega)]; exact e47 _, fun k' hk' => ⟨(a5.lr k' hk').1, ?_⟩, a5.r8, (a5.fr.w (by omega)).w (by omega)⟩
              show (wi (wi M1 69 47 (nI (z.1 - 1))) 80 (ord k) (nI (ord i))).1 80 (ord k') = cv (fset z.2.2.2 (ord k) (ord i) (ord k'))
              rw [wi_at]
              by_cases e : ord k' = ord k
              · rw [if_pos e, e, fset_eq, cv_n (by omega)]
              · rw [if_neg e, fset_ne e, wi_n _ _ _ (show 80 ≠ 69 by omega)]; exact (a5.lr k' hk').2
      · rintro ⟨x2, M1⟩ ⟨z, a2, a3, a0, a4, a5⟩
        have a2 : x2 = nI n := a2
        subst a2
        have a5 : RGr n f ord M z M1 := a5
        show Wp (f_X10_makeTree_L56 (nI n) M1) _
        unfold f_X10_makeTree_L56
        rw [a5.fr.2.1 1 (by omega) (by omega), r1, if_pos ((nI_leI (by omega) (by omega)).mpr (Nat.le_refl _))]
        exact wp_s ⟨_, rfl, Or.inl ⟨z, M1, rfl, a3, a4, a5⟩⟩
    · rintro x (⟨z, N, rfl, a3, a4, a5⟩ | ⟨N, rfl, a3, a4⟩)
      · show Wp (f_X10_makeTree_A56 N) _
        unfold f_X10_makeTree_A56
        have hs := a4.s
        rw [a5.s, pz_0, pz_1]
        by_cases q : z.1 = 0
        · rw [if_pos (by rw [q])]
          exact wp_s ⟨a5.fr, Or.inl ⟨rfl, z, a3, q, a4, a5⟩⟩
        · rw [if_neg (by rw [pz_eq (by omega) (by omega)]; exact q)]
          refine wp_s ⟨a5.fr, Or.inr ⟨rfl, fun z' hz' => ?_⟩⟩
          rw [a3] at hz'
          cases hz'
          exact q
      · refine wp_s ⟨a4, Or.inr ⟨rfl, fun z' hz' => ?_⟩⟩
        rw [a3] at hz'
        cases hz'
