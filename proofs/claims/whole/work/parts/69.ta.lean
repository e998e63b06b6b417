/-! tree: the arm -/
def tP (e : Ex) (j : Nat) : Nat := (nd e).getD j 0
def tX (W : Nat → Nat) (e : Ex) : Nat → Nat := txf W e 0 (fun _ => 0)
def tY (W H : Nat → Nat) (e : Ex) (n : Nat) : Nat → Nat := lty (tP e) (tX W e) W H n
/-- the tree of a telling -/
def TrE (n r : Nat) (lf rt : Nat → Nat) (e : Ex) : Prop := TVa lf rt n ∧ r < n ∧ TR lf rt e r ∧ (nd e).Nodup ∧ (∀ b ∈ nd e, b < n) ∧ (nd e).length = n
theorem tok_e {n r : Nat} {lf rt : Nat → Nat} (hn : n ≤ 12) (hr : r < n) (h : TOK n r lf rt) : ∃ e, TrE n r lf rt e := by
  obtain ⟨hv, h0, hb⟩ := h
  obtain ⟨e, e1, e2, e3, e4, e5⟩ := dfs_tree hv hn 30 r 0 (Nat.two_pow_pos n) (Or.inl hr) (by omega) h0
  rw [hb, bcn_0] at e5
  exact ⟨e, hv, hr, e1, e2, fun b hb => (e3 b hb).1, by omega⟩
theorem tP_get {e : Ex} {j : Nat} (h : j < (nd e).length) : (nd e)[j]? = some (tP e j) := by
  unfold tP
  rw [List.getD_eq_getElem?_getD, List.getElem?_eq_getElem h]; rfl
theorem TrE.perm {n r : Nat} {lf rt : Nat → Nat} {e : Ex} (h : TrE n r lf rt e) : PermN n (tP e) := by
  obtain ⟨_, _, _, h2, h3, h4⟩ := h
  refine ⟨fun i hi => h3 _ (List.mem_of_getElem? (tP_get (by omega))), fun i j hi hj q => ?_⟩
  have hpw := List.pairwise_iff_getElem.mp h2
  have g : ∀ i, (hi : i < n) → tP e i = (nd e)[i]'(by omega) := fun i hi => by
    have := tP_get (e := e) (j := i) (by omega)
    rw [List.getElem?_eq_getElem (by omega)] at this
    exact (Option.some.inj this).symm
  rw [g i hi, g j hj] at q
  rcases Nat.lt_trichotomy i j with z | z | z
  · exact absurd q (hpw i j (by omega) (by omega) z)
  · exact z
  · exact absurd q.symm (hpw j i (by omega) (by omega) z)
theorem TrE.mem {n r : Nat} {lf rt : Nat → Nat} {e : Ex} (h : TrE n r lf rt e) {b : Nat} (hb : b < n) : b ∈ nd e := by
  obtain ⟨i, hi, rfl⟩ := h.perm.sur hb
  exact List.mem_of_getElem? (tP_get (by have := h.2.2.2.2.2; omega))
theorem TrE.ly {n r : Nat} {lf rt W H : Nat → Nat} {e : Ex} (h : TrE n r lf rt e) (hn : n ≤ 12) (hW : ∀ b, b < n → 1 ≤ W b ∧ W b ≤ 200) (hH : ∀ b, b < n → 1 ≤ H b ∧ H b ≤ 200) : TLy n lf rt (tP e) (tX W e) (tY W H e n) W H := by
  refine ⟨hn, h.perm, lty_ye h.perm, hW, hH, fun b hb => ?_, h.1⟩
  have := Xt_le e 0 (txf_ok (W := W) e 0 (fun _ => 0) h.2.2.2.1) (fun c hc => (hW c (h.2.2.2.2.1 c hc)).2) b (h.mem hb)
  rw [h.2.2.2.2.2] at this
  show txf W e 0 (fun _ => 0) b ≤ 2400
  omega
theorem TrE.pt {n r : Nat} {lf rt : Nat → Nat} {e : Ex} (h : TrE n r lf rt e) : Pt (tP e) 0 e := Pt_of e 0 fun j hj => by rw [Nat.zero_add]; exact tP_get hj
theorem TrE.xt {n r : Nat} {lf rt : Nat → Nat} {e : Ex} (h : TrE n r lf rt e) (W : Nat → Nat) : Xt (tX W e) W 0 e := txf_ok e 0 _ h.2.2.2.1
def trS (A : Abs) (td r : Nat) (lf rt : Nat → Nat) (e : Ex) : Abs := mkA A.n A.tb td A.s r 3 A.w A.h A.nt (tX (swd A.w A.h td) e) (tY (swd A.w A.h td) (swd A.h A.w td) e A.n) A.one A.two A.tk lf rt
theorem AOK.trs {A : Abs} (hA : AOK A) {td r : Nat} {lf rt : Nat → Nat} {e : Ex} (ht : td &&& A.tb = td) (h : TrE A.n r lf rt e) : AOK (trS A td r lf rt e) := by
  have t := h.ly hA.n (W := swd A.w A.h td) (H := swd A.h A.w td) (fun b hb => swd_le hA.w hA.h hb) (fun b hb => swd_le hA.h hA.w hb)
  have hr := h.2.1
  refine ⟨hA.n, hA.w, hA.h, hA.tb, hA.nt, hA.s, Or.inr (Or.inr (Or.inr (Or.inr rfl))), fun _ => ⟨by show 1 ≤ A.n; omega, ht, fun b hb => ?_, fun b hb => ?_⟩, fun q => absurd q (by show ¬ (3 : Int32) = 1; decide), fun q => absurd q (by show ¬ (3 : Int32) = 2; decide), fun _ => ⟨hr, h.1⟩⟩
  · have := t.X b hb
    show tX (swd A.w A.h td) e b ≤ 10000
    omega
  · obtain ⟨j, hj, rfl⟩ := h.perm.sur hb
    have := t.y hj
    show tY (swd A.w A.h td) (swd A.h A.w td) e A.n (tP e j) ≤ 10000
    omega
theorem c_layt {F : Abs → Nat → Mm → Prop} (hF : FOK F) {M M0 : Mm} {A : Abs} (hA : AOK A) (hC : CI F M0 A) (hf : Fr (SB 5 33) M0 M) {r : Nat} {lf rt : Nat → Nat} {e : Ex} (hE : TrE A.n r lf rt e) (o5 : M.1 23 5 = nI A.n) (o4 : M.1 23 4 = nI r) (o1 : IA M 24 A.n lf) (o2 : IA M 25 A.n rt) (x : Int32) :
    Wp (f_X9_layOut 23 (nI 3) x M) (fun M' => CI F M' (trS A (msk x A.tb) r lf rt e) ∧ Fr SC M0 M') := by
  have hn := hA.n
  have q : ∀ k, k < 5 → M.1 k = M0.1 k := fun k hk => hf.1 k (fun h => by unfold SB at h; omega)
  unfold f_X9_layOut f_tlay
  refine wp_b (take_ok (n := A.n) (tb := A.tb) (w := A.w) (h := A.h) (by omega) hn (by rw [q 1 (by omega)]; exact hC.n) (by rw [q 1 (by omega)]; exact hC.tb) hA.tb (hC.w.eq (q 2 (by omega))) (hC.h.eq (q 3 (by omega))) x) ?_
  rintro M1 ⟨a1, a2, a3, a4, a5⟩
  rw [if_neg (by omega), if_neg (by omega), if_pos (Or.inl rfl)]
  have q1 : ∀ k, 11 ≤ k → M1.1 k = M.1 k := fun k hk => a5.1 k (fun h => by unfold SB at h; omega)
  have t := hE.ly hn (W := swd A.w A.h (msk x A.tb)) (H := swd A.h A.w (msk x A.tb)) (fun b hb => swd_le hA.w hA.h hb) (fun b hb => swd_le hA.h hA.w hb)
  refine wp_b (cty_ok (k0 := 23) (k1 := 5) t (by omega) hE.2.1 hE.2.2.1 hE.pt (hE.xt _) hE.2.2.2.2.2 hE.2.2.2.2.1 (by rw [q1 23 (by omega)]; exact o4) (by rw [q1 23 (by omega)]; exact o5) (o1.eq (q1 24 (by omega))) (o2.eq (q1 25 (by omega))) a3 a4) ?_
  rintro M2 ⟨b1, b2, b3⟩
  have q2 : ∀ k, ¬ STl 23 5 k → M2.1 k = M1.1 k := fun k hk => b3.1 k hk
  have f2 : Fr (SB 5 33) M0 M2 := (hf.tr (a5.mono (fun k h => ⟨h.1, Nat.le_trans h.2 (by omega)⟩))).tr (b3.mono (fun k h => by unfold STl at h; unfold SB; omega))
  rw [pz_lt1]
  refine wp_s ⟨CI.nw hF (A' := trS A (msk x A.tb) r lf rt e) hC ⟨rfl, rfl, rfl, rfl, rfl, rfl⟩ f2 (fun _ => ⟨?_, ?_, b1, b2, a3.eq (q2 8 (by unfold STl; omega)), a4.eq (q2 9 (by unfold STl; omega))⟩) (fun h => absurd h (by show ¬ (3 : Int32) = 1; decide)) (fun h => absurd h (by show ¬ (3 : Int32) = 2; decide)) (fun _ => ⟨?_, ?_, ?_, ?_⟩), (f2.mono (fun k h => sb_sc h (by omega))).w (show SC 0 by unfold SC; omega)⟩
  · rw [q2 5 (by unfold STl; omega)]; exact a1
  · rw [q2 5 (by unfold STl; omega)]; exact a2
  · rw [q2 23 (by unfold STl; omega), q1 23 (by omega)]; exact o5
  · rw [q2 23 (by unfold STl; omega), q1 23 (by omega)]; exact o4
  · exact (o1.eq (q1 24 (by omega))).eq (q2 24 (by unfold STl; omega))
  · exact (o2.eq (q1 25 (by omega))).eq (q2 25 (by unfold STl; omega))
theorem r_layt {M M0 : Mm} {A : Abs} (hA : AOK A) (hR : RI M0 A) (hf : Fr SRw M0 M) {r td : Nat} {lf rt : Nat → Nat} {e : Ex} (hE : TrE A.n r lf rt e) (r1 : M.1 69 1 = nI A.n) (r41 : M.1 69 41 = nI A.s) (r7 : M.1 69 7 = nI td) (r8 : M.1 69 8 = nI r) (ht : td &&& A.tb = td) (o1 : ∀ b, b < A.n → M.1 79 b = cv (lf b)) (o2 : ∀ b, b < A.n → M.1 80 b = cv (rt b)) :
    Wp (f_X10_layTree M) (fun M' => RI M' (trS A td r lf rt e) ∧ Fr SR M0 M' ∧ ∀ j, j ≠ 6 → j ≠ 22 → M'.1 69 j = M.1 69 j) := by
  have hn := hA.n
  have hr := hE.2.1
  have q : ∀ k, 70 ≤ k ∧ k ≤ 73 → M.1 k = M0.1 k := fun k hk => hf.1 k (fun h => by unfold SRw at h; omega)
  have t := hE.ly hn (W := swd A.w A.h td) (H := swd A.h A.w td) (fun b hb => swd_le hA.w hA.h hb) (fun b hb => swd_le hA.h hA.w hb)
  unfold f_X10_layTree
  have e8 : (wi M 69 22 (nI 0)).1 69 8 = cv r := by
    show M.1 69 8 = _
    rw [r8]; unfold cv; rw [if_neg (by omega)]
  rw [pz_0, pz_lt1, e8]
  refine wp_b (rlu_ok t (p12 (sub_lt ht hA.tb) hn) e 30 r 0 0 (wi M 69 22 (nI 0)) hE.2.2.1 (Or.inl hr) hE.pt (hE.xt _) (by rw [hE.2.2.2.2.2]; omega) (by rw [hE.2.2.2.2.2]; omega) (by omega) r7 (IA.eq (hR.w.eq (q 70 (by omega))) rfl) (IA.eq (hR.h.eq (q 71 (by omega))) rfl) o1 o2 ⟨rfl, fun j hj => by omega, fun j hj => by omega, fun j hj => by omega⟩) ?_
  rintro M1 ⟨d1, k1⟩
  rw [hE.2.2.2.2.2, Nat.zero_add] at d1
  rw [pz_lt1, pz_3]
  have f69 : ∀ j, j ≠ 6 → j ≠ 22 → (wi M1 69 6 (nI 3)).1 69 j = M.1 69 j := fun j h1 h2 => by rw [wi_at, if_neg h1, k1.2.1 j h2, wi_at, if_neg h2]
  have f2 : Fr SRw M0 (wi M1 69 6 (nI 3)) := hf.tr ⟨fun k hk => by rw [wi_n _ _ _ (fun e => hk (Or.inl e)), k1.1 k (fun e => hk (Or.inl e)) (fun e => hk (Or.inr (by omega))) (fun e => hk (Or.inr (by omega))) (fun e => hk (Or.inr (by omega))), wi_n _ _ _ (fun e => hk (Or.inl e))], fun k _ => by show M1.2 k = _; rw [k1.2.2]; rfl⟩
  refine wp_s ⟨RI.nw (A' := trS A td r lf rt e) hR ⟨rfl, rfl, rfl, rfl, rfl, rfl⟩ f2 ?_ ?_ rfl (fun _ => ⟨?_, ?_, ?_⟩) (fun h => absurd h (by show ¬ (3 : Int32) = 1; decide)) (fun h => absurd h (by show ¬ (3 : Int32) = 2; decide)) (fun _ => ⟨?_, fun b hb => ⟨?_, ?_⟩⟩), f2.mono (fun k h => srw_sr h), f69⟩
  · rw [f69 1 (by omega) (by omega)]; exact r1
  · rw [f69 41 (by omega) (by omega)]; exact r41
  · rw [f69 7 (by omega) (by omega)]; exact r7
  · intro b hb
    obtain ⟨j, hj, rfl⟩ := hE.perm.sur hb
    exact d1.x j hj
  · intro b hb
    obtain ⟨j, hj, rfl⟩ := hE.perm.sur hb
    exact d1.y j hj
  · rw [f69 8 (by omega) (by omega)]; exact r8
  · have hb : b < A.n := hb
    show M1.1 79 b = _
    rw [k1.1 79 (by omega) (by omega) (by omega) (by omega)]
    exact o1 b hb
  · have hb : b < A.n := hb
    show M1.1 80 b = _
    rw [k1.1 80 (by omega) (by omega) (by omega) (by omega)]
    exact o2 b hb
theorem crk_ok {M : Mm} {k0 n r : Nat} (hn : n ≤ 12) (a b : Int64) : Wp (f_X3_read k0 (nI r) a b (nI n) M) (fun M' => M'.1 k0 5 = nI n ∧ M'.1 k0 4 = nI r ∧ IA M' (k0 + 1) n (nib a) ∧ IA M' (k0 + 2) n (nib b) ∧ Fr (SB k0 (k0 + 2)) M M') := by
  unfold f_X3_read f_X3_read_A14
  rw [pz_lt1, pz_lt1, pz_0]
  refine wp_b (wp_for (step := fun v => f_X3_read_L14 k0 a b v.1 v.2) (fun i M' => M'.1 k0 5 = nI n ∧ M'.1 k0 4 = nI r ∧ IA M' (k0 + 1) i (nib a) ∧ IA M' (k0 + 2) i (nib b) ∧ Fr (SB k0 (k0 + 2)) M M') n (by omega) ?_ ?_ ⟨?_, ?_, IA.nil, IA.nil, (Fr.rf.w ⟨by omega, by omega⟩).w ⟨by omega, by omega⟩⟩) (fun M' h => wp_s h)
  · rintro i M1 hi ⟨a1, a0, a2, a3, a4⟩
    show Wp (f_X3_read_L14 k0 a b (nI i) M1) _
    unfold f_X3_read_L14
    rw [a1, if_neg (by rw [pz_le (by omega) (by omega)]; omega), nib_e, nib_e, pz_wr (by omega) (by omega), pz_wr (by omega) (by omega), pz_lt1, pz_1, pz_add]
    exact wp_s ⟨_, rfl, by rw [wi_n _ _ _ (by omega), wi_n _ _ _ (by omega)]; exact a1, by rw [wi_n _ _ _ (by omega), wi_n _ _ _ (by omega)]; exact a0, (a2.snoc rfl).wn (by omega), (a3.wn (by omega)).snoc rfl, (a4.w ⟨by omega, by omega⟩).w ⟨by omega, by omega⟩⟩
  · rintro M1 ⟨a1, a0, a2, a3, a4⟩
    show f_X3_read_L14 k0 a b (nI n) M1 = _
    unfold f_X3_read_L14
    rw [a1, if_pos ((nI_leI (by omega) (by omega)).mpr (Nat.le_refl _))]
  · rw [wi_at, if_neg (by omega), wi_at, if_pos rfl]
  · rw [wi_at, if_pos rfl]
theorem c_tree {F : Abs → Nat → Mm → Prop} (hF : FOK F) {M : Mm} {A : Abs} (hA : AOK A) (hC : CI F M A) (a b : Int64) (x : Int32) :
    (∀ c : Int32, A.n = 0 ∨ (c < nI 0 ∨ nI A.n ≤ c) → f_X9_tree c a b x M = some (nI 0, M)) ∧ (∀ r, r < A.n → ¬ TOK A.n r (nib a) (nib b) → f_X9_tree (nI r) a b x M = some (nI 0, M)) ∧
    (∀ r, r < A.n → TOK A.n r (nib a) (nib b) → ∀ e, TrE A.n r (nib a) (nib b) e → Wp (f_X9_tree (nI r) a b x M) (fun v => v.1 = nI 1 ∧ CI F v.2 (trS A (msk x A.tb) r (nib a) (nib b) e) ∧ Fr SC M v.2)) := by
  have hn := hA.n
  unfold f_X9_tree
  rw [hC.n, pz_0]
  refine ⟨fun c h => ?_, fun r hr h => ?_, fun r hr h e he => ?_⟩
  · by_cases h0 : A.n = 0
    · rw [if_pos (by rw [h0])]
    · rw [if_neg (by rw [pz_eq (by omega) (by omega)]; exact h0)]
      have : f_X3_isTree c a b (nI A.n) = some (nI 0) := by
        unfold f_X3_isTree
        rw [pz_0]
        rcases h with h | h | h
        · exact absurd h h0
        · rw [if_pos h]
        · rw [if_neg (Int32.not_lt.mpr h)]
          split <;> rfl
      rw [this, pz_bd, if_pos rfl]
  · rw [if_neg (by rw [pz_eq (by omega) (by omega)]; omega), (cit_ok hn hr a b).2 h, pz_bd, if_pos rfl]
  · rw [if_neg (by rw [pz_eq (by omega) (by omega)]; omega), (cit_ok hn hr a b).1 h, pz_bd, if_neg (by decide), pz_3, pz_1]
    refine wp_b (crk_ok hn a b) ?_
    rintro M1 ⟨a1, a2, a3, a4, a5⟩
    refine wp_b (c_layt hF hA hC (a5.mono (fun k h => ⟨Nat.le_trans (by omega) h.1, Nat.le_trans h.2 (by omega)⟩)) he a1 a2 a3 a4 x) ?_
    rintro M2 ⟨b1, b2⟩
    exact wp_s ⟨rfl, b1, b2⟩
theorem chd_ok {M : Mm} {n v : Nat} (hn : n ≤ 12) (hv : v < 16) (r1 : M.1 69 1 = nI n) : ((v < n ∨ v = 15) → f_X10_child (nI v) M = cv v) ∧ (¬ (v < n ∨ v = 15) → f_X10_child (nI v) M = -2) := by
  unfold f_X10_child cv
  rw [pz_15, r1]
  constructor
  · intro h
    by_cases z : v = 15
    · rw [if_pos (by rw [z]), if_pos z]
    · rw [if_neg (by rw [pz_eq (by omega) (by omega)]; exact z), if_neg z, if_neg (by rw [pz_le (by omega) (by omega)]; omega)]
  · intro h
    rw [if_neg (by rw [pz_eq (by omega) (by omega)]; omega), if_pos (by rw [pz_le (by omega) (by omega)]; omega)]
theorem cv_n2 {v : Nat} (h : v < 16) : ¬ cv v = -2 := by
  have : ∀ v, v < 16 → ¬ cv v = -2 := by decide +kernel
  exact this v h
theorem r_tree {M : Mm} {A : Abs} (hA : AOK A) (hR : RI M A) (a b : Int64) (x : Int32) :
    (∀ c : Int32, A.n = 0 ∨ (c < nI 0 ∨ nI A.n ≤ c) → Wp (f_X10_tree c a b x M) (fun v => v.1 = nI 0 ∧ RI v.2 A ∧ Fr SR M v.2)) ∧ (∀ r, r < A.n → ¬ TOK A.n r (nib a) (nib b) → Wp (f_X10_tree (nI r) a b x M) (fun v => v.1 = nI 0 ∧ RI v.2 A ∧ Fr SR M v.2)) ∧
    (∀ r, r < A.n → TOK A.n r (nib a) (nib b) → ∀ e, TrE A.n r (nib a) (nib b) e → Wp (f_X10_tree (nI r) a b x M) (fun v => v.1 = nI 1 ∧ RI v.2 (trS A (msk x A.tb) r (nib a) (nib b) e) ∧ Fr SR M v.2)) := by
  have hn := hA.n
  unfold f_X10_tree
  rw [pz_0]
  simp only [pz_lt1]
  generalize hM1 : wi M 69 0 (nI 0) = M1
  have s1 : Scr M M1 := by subst hM1; exact Scr.rf.w (by omega)
  have r1 : M1.1 69 1 = nI A.n := s1.2.1.1.trans hR.n
  rw [r1]
  have rd : 0 < A.n → Wp (loop (fun v => f_X10_tree_L25 a b v.1 v.2) FU (nI 0, M1)) (fun z => (∃ M', z = .inl M' ∧ TVa (nib a) (nib b) A.n ∧ (∀ c, c < A.n → M'.1 95 c = cv (nib a c)) ∧ (∀ c, c < A.n → M'.1 96 c = cv (nib b c)) ∧ Fr (SB 95 96) M1 M') ∨ ∃ M', z = .inr (nI 0, M') ∧ ¬ TVa (nib a) (nib b) A.n ∧ Fr (SB 95 96) M1 M') := by
    intro h0
    refine wp_l (fun i (v : Int32 × Mm) => v.1 = nI i ∧ (∀ c, c < i → ((nib a c < A.n ∨ nib a c = 15) ∧ (nib b c < A.n ∨ nib b c = 15)) ∧ v.2.1 95 c = cv (nib a c) ∧ v.2.1 96 c = cv (nib b c)) ∧ Fr (SB 95 96) M1 v.2) A.n (fu_lt (by omega)) ?_ ?_ ⟨rfl, fun c hc => by omega, Fr.rf⟩
    · rintro i ⟨v, M2⟩ hi ⟨a1, a2, a3⟩
      have a1 : v = nI i := a1
      subst a1
      have a2 : ∀ c, c < i → ((nib a c < A.n ∨ nib a c = 15) ∧ (nib b c < A.n ∨ nib b c = 15)) ∧ M2.1 95 c = cv (nib a c) ∧ M2.1 96 c = cv (nib b c) := a2
      have a3 : Fr (SB 95 96) M1 M2 := a3
      have c1 : M2.1 69 1 = nI A.n := by rw [a3.1 69 (fun h => by unfold SB at h; omega)]; exact r1
      have n1 := nib_lt a (show i < 16 by omega)
      have n2 := nib_lt b (show i < 16 by omega)
      have g1 := chd_ok (M := M2) hn n1 c1
      have g2 := fun v => chd_ok (M := wi M2 95 i v) hn n2 c1
      have c95 : ∀ u v, (wi (wi M2 95 i u) 96 i v).1 95 i = u := fun u v => by rw [wi_n _ _ _ (by omega), wi_at, if_pos rfl]
      have c96 : ∀ u v, (wi (wi M2 95 i u) 96 i v).1 96 i = v := fun u v => by rw [wi_at, if_pos rfl]
      have ff : ∀ u v, Fr (SB 95 96) M1 (wi (wi M2 95 i u) 96 i v) := fun u v => (a3.w ⟨by omega, by omega⟩).w ⟨by omega, by omega⟩
      show Wp (f_X10_tree_L25 a b (nI i) M2) _
      unfold f_X10_tree_L25
      rw [c1, if_neg (by rw [pz_le (by omega) (by omega)]; omega), nib_r, nib_r, pz_wr (by omega) (by omega), pz_wr (by omega) (by omega), pz_rd (by omega) (by omega), c95, pz_rd (by omega) (by omega), c96, pz_lt1, pz_1, pz_add]
      by_cases z1 : nib a i < A.n ∨ nib a i = 15
      · rw [g1.1 z1, if_neg (cv_n2 n1)]
        by_cases z2 : nib b i < A.n ∨ nib b i = 15
        · rw [(g2 _).1 z2, if_neg (cv_n2 n2)]
          refine wp_s (Or.inl ⟨_, rfl, rfl, fun c hc => ?_, ff _ _⟩)
          by_cases e : c = i
          · rw [e]; exact ⟨⟨z1, z2⟩, c95 _ _, c96 _ _⟩
          · have := a2 c (by omega)
            refine ⟨this.1, ?_, ?_⟩
            · show (wi (wi M2 95 i _) 96 i _).1 95 c = _
              rw [wi_n _ _ _ (by omega), wi_at, if_neg e]; exact this.2.1
            · show (wi (wi M2 95 i _) 96 i _).1 96 c = _
              rw [wi_at, if_neg e, wi_n _ _ _ (by omega)]; exact this.2.2
        · rw [(g2 _).2 z2, if_pos rfl]
          exact wp_s (Or.inr ⟨_, rfl, Or.inr ⟨_, rfl, fun q => z2 (q i hi).2, ff _ _⟩⟩)
      · rw [g1.2 z1, if_pos rfl]
        exact wp_s (Or.inr ⟨_, rfl, Or.inr ⟨_, rfl, fun q => z1 (q i hi).1, ff _ _⟩⟩)
    · rintro ⟨v, M2⟩ ⟨a1, a2, a3⟩
      have a1 : v = nI A.n := a1
      subst a1
      have a3 : Fr (SB 95 96) M1 M2 := a3
      have c1 : M2.1 69 1 = nI A.n := by rw [a3.1 69 (fun h => by unfold SB at h; omega)]; exact r1
      show Wp (f_X10_tree_L25 a b (nI A.n) M2) _
      unfold f_X10_tree_L25
      rw [c1, if_pos ((nI_leI (by omega) (by omega)).mpr (Nat.le_refl _))]
      exact wp_s ⟨_, rfl, Or.inl ⟨M2, rfl, fun c hc => (a2 c hc).1, fun c hc => (a2 c hc).2.1, fun c hc => (a2 c hc).2.2, a3⟩⟩
  have scr2 : ∀ M', Fr (SB 95 96) M1 M' → Scr M M' := fun M' f => s1.tr ⟨fun k h1 h2 => f.1 k (fun h => by unfold SB at h; omega), by rw [show M'.1 69 = M1.1 69 from f.1 69 (fun h => by unfold SB at h; omega)]; exact ⟨rfl, rfl, rfl, rfl, rfl⟩, fun k hk => f.2 k (fun h => by unfold SB at h; omega)⟩
  -- the walk
  have walk : ∀ r, r < A.n → ∀ M2, TVa (nib a) (nib b) A.n → (∀ c, c < A.n → M2.1 95 c = cv (nib a c)) → (∀ c, c < A.n → M2.1 96 c = cv (nib b c)) → Fr (SB 95 96) M1 M2 → ∃ v M3, f_X10_under 30 (nI r) (wi M2 69 34 (nI 0)) = some (v, M3) ∧ (v = nI A.n ↔ TOK A.n r (nib a) (nib b)) ∧ FrU M2 M3 := by
    intro r hr M2 hv e95 e96 f2
    have hu := und_ok hv hn 30 r 0 (wi M2 69 34 (nI 0)) (by omega) (Nat.two_pow_pos _) (Or.inl hr) (by omega) rfl e95 e96
    rw [show cv r = nI r by unfold cv; rw [if_neg (by omega)]] at hu
    obtain ⟨⟨v, M3⟩, ev, hh, ff⟩ := hu
    have ff : FrU (wi M2 69 34 (nI 0)) M3 := ff
    refine ⟨v, M3, ev, ?_, fun k hk => (ff.1 k hk).trans (wi_n _ _ _ hk), fun j hj => (ff.2.1 j hj).trans (by rw [wi_at, if_neg hj]), ff.2.2⟩
    unfold TOK
    have bq := bcn_le (dfs (nib a) (nib b) 30 r 0).1 A.n
    rcases hh with ⟨z1, z2, _⟩ | ⟨z1, x, z2, z3, z4⟩
    · have z2 : v = _ := z2
      rw [z2, bcn_0, Nat.sub_zero, pz_eq (by omega) (by omega)]
      exact ⟨fun q => ⟨hv, z1, q⟩, fun q => q.2.2⟩
    · have z2 : v = nI x := z2
      rw [z2, pz_eq (by omega) (by omega)]
      exact ⟨fun q => by omega, fun q => by have := q.2.1; omega⟩
  have rej : ∀ r, r < A.n → ¬ TOK A.n r (nib a) (nib b) → Wp ((loop (fun v => f_X10_tree_L25 a b v.1 v.2) FU (nI 0, M1)).bind fun x_1 => Sum.elim (fun z => f_X10_tree_A25 (nI r) x z) (fun o => some o) x_1) (fun v => v.1 = nI 0 ∧ RI v.2 A ∧ Fr SR M v.2) := by
    intro r hr hno
    refine wp_b (rd (by omega)) ?_
    rintro z (⟨M2, rfl, hv, e95, e96, f2⟩ | ⟨M2, rfl, hv, f2⟩)
    · show Wp (f_X10_tree_A25 (nI r) x M2) _
      unfold f_X10_tree_A25
      obtain ⟨v, M3, ev, iff, ff⟩ := walk r hr M2 hv e95 e96 f2
      have sc2 := scr2 M2 f2
      have sc3 : Scr M M3 := sc2.tr ⟨fun k h1 _ => ff.1 k h1, ⟨ff.2.1 1 (by omega), ff.2.1 6 (by omega), ff.2.1 7 (by omega), ff.2.1 8 (by omega), ff.2.1 41 (by omega)⟩, fun k _ => by rw [ff.2.2]⟩
      rw [pz_0, pz_lt1, ev, pz_bd2, sc3.2.1.1.trans hR.n, if_neg (fun q => hno (iff.mp q))]
      exact wp_s ⟨rfl, hR.scr sc3, sc3.fr⟩
    · exact wp_s ⟨rfl, hR.scr (scr2 M2 f2), (scr2 M2 f2).fr⟩
  refine ⟨fun c h => ?_, fun r hr h => ?_, fun r hr h e he => ?_⟩
  · by_cases h0 : A.n = 0
    · rw [if_pos (by rw [h0])]
      exact wp_s ⟨rfl, hR.scr s1, s1.fr⟩
    · rw [if_neg (by rw [pz_eq (by omega) (by omega)]; exact h0)]
      rcases h with h | h
      · exact absurd h h0
      · rw [ib_n r1 h, if_pos rfl]
        exact wp_s ⟨rfl, hR.scr s1, s1.fr⟩
  · rw [if_neg (by rw [pz_eq (by omega) (by omega)]; omega), ib_y r1 hn hr, if_neg (by decide)]
    exact rej r hr h
  · rw [if_neg (by rw [pz_eq (by omega) (by omega)]; omega), ib_y r1 hn hr, if_neg (by decide)]
    refine wp_b (rd (by omega)) ?_
    rintro z (⟨M2, rfl, hv, e95, e96, f2⟩ | ⟨M2, rfl, hv, f2⟩)
    · show Wp (f_X10_tree_A25 (nI r) x M2) _
      unfold f_X10_tree_A25
      obtain ⟨v, M3, ev, iff, ff⟩ := walk r hr M2 hv e95 e96 f2
      have sc2 := scr2 M2 f2
      have sc3 : Scr M M3 := sc2.tr ⟨fun k h1 _ => ff.1 k h1, ⟨ff.2.1 1 (by omega), ff.2.1 6 (by omega), ff.2.1 7 (by omega), ff.2.1 8 (by omega), ff.2.1 41 (by omega)⟩, fun k _ => by rw [ff.2.2]⟩
      have r3 : M3.1 69 1 = nI A.n := sc3.2.1.1.trans hR.n
      rw [pz_0, pz_lt1, ev, pz_bd2, r3, if_pos (iff.mpr h)]
      refine wp_b (wp_for (step := fun v => f_X10_tree_L123 v.1 v.2) (fun i M' => M'.1 69 = M3.1 69 ∧ (∀ c, c < i → M'.1 79 c = cv (nib a c) ∧ M'.1 80 c = cv (nib b c)) ∧ M'.1 95 = M3.1 95 ∧ M'.1 96 = M3.1 96 ∧ Fr SRw M M') A.n (by omega) ?_ ?_ ⟨rfl, fun c hc => by omega, rfl, rfl, sc3.fw⟩) ?_
      · rintro i M4 hi ⟨b1, b2, b3, b4, b5⟩
        show Wp (f_X10_tree_L123 (nI i) M4) _
        unfold f_X10_tree_L123
        have c1 : M4.1 69 1 = nI A.n := by rw [b1]; exact r3
        have c2 : M4.1 95 i = cv (nib a i) := by rw [b3, ff.1 95 (by omega)]; exact e95 i hi
        have c3 : ∀ v, (wi M4 79 i v).1 96 i = cv (nib b i) := fun v => by
          show M4.1 96 i = _
          rw [b4, ff.1 96 (by omega)]; exact e96 i hi
        rw [c1, if_neg (by rw [pz_le (by omega) (by omega)]; omega), pz_rd (by omega) (by omega), c2, pz_wr (by omega) (by omega), pz_rd (by omega) (by omega), c3, pz_wr (by omega) (by omega), pz_lt1, pz_1, pz_add]
        refine wp_s ⟨_, rfl, b1, fun c hc => ?_, b3, b4, (b5.w (Or.inr ⟨by omega, by omega⟩)).w (Or.inr ⟨by omega, by omega⟩)⟩
        rw [wi_n _ _ _ (by omega), wi_at, wi_at, wi_n _ _ _ (by omega)]
        by_cases z : c = i
        · rw [if_pos z, if_pos z, z]; exact ⟨rfl, rfl⟩
        · rw [if_neg z, if_neg z]; exact b2 c (by omega)
      · rintro M4 ⟨b1, b2, b3, b4, b5⟩
        show f_X10_tree_L123 (nI A.n) M4 = _
        unfold f_X10_tree_L123
        have c1 : M4.1 69 1 = nI A.n := by rw [b1]; exact r3
        rw [c1, if_pos ((nI_leI (by omega) (by omega)).mpr (Nat.le_refl _))]
      · rintro M4 ⟨b1, b2, b3, b4, b5⟩
        unfold f_X10_tree_A123
        have c1 : (wi M4 69 8 (nI r)).1 69 1 = nI A.n := by
          show M4.1 69 1 = _
          rw [b1]; exact r3
        have c73 : IA (wi M4 69 8 (nI r)) 73 A.n (fun b => (A.tb.testBit b).toNat) := IA.eq (hR.tb.eq (b5.1 73 (fun h => by unfold SRw at h; omega))) rfl
        rw [pz_lt1, tbl_ok hn hA.tb c1 c73, pz_bd, pz_msk, pz_lt1]
        refine wp_b (r_layt hA hR (M := wi (wi M4 69 8 (nI r)) 69 7 (nI (msk x A.tb))) ((b5.w (Or.inl rfl)).w (Or.inl rfl)) he c1 ?_ rfl rfl (msk_sub _ _) (fun c hc => (b2 c hc).1) (fun c hc => (b2 c hc).2)) ?_
        · show M4.1 69 41 = _
          rw [b1]; exact sc3.2.1.2.2.2.2.trans hR.s
        · rintro M5 ⟨d1, d2, _⟩
          exact wp_s ⟨pz_1, d1, d2⟩
    · exact absurd h.1 hv
theorem both_tree {F : Abs → Nat → Mm → Prop} (hF : FOK F) {n : Nat} {M : Mm} {A : Abs} (hA : AOK A) (hC : CI F M A) (hR : RI M A) (c : Int32) (a b : Int64) (x : Int32) : Nx F n (bd2 (f_X9_tree c a b x M) fun r M1 => bd2 (f_X10_tree c a b x M1) fun r2 M2 => if r = r2 then f_law_J1690 (nI n) M2 else none) := by
  have hn := hA.n
  by_cases h : A.n = 0 ∨ (c < nI 0 ∨ nI A.n ≤ c)
  · exact arm_n hF (v := nI 0) hA hR (wp_e ((c_tree hF hA hC a b x).1 c h) ⟨rfl, hC, Fr.rf⟩) (fun M1 h1 => (r_tree hA h1 a b x).1 c h)
  · rcases isb c hn with ⟨r, hr, rfl⟩ | q
    · by_cases ht : TOK A.n r (nib a) (nib b)
      · obtain ⟨e, he⟩ := tok_e hn hr ht
        exact arm_n hF (v := nI 1) (hA.trs (msk_sub _ _) he) hR ((c_tree hF hA hC a b x).2.2 r hr ht e he) (fun M1 h1 => (r_tree hA h1 a b x).2.2 r hr ht e he)
      · exact arm_n hF (v := nI 0) hA hR (wp_e ((c_tree hF hA hC a b x).2.1 r hr ht) ⟨rfl, hC, Fr.rf⟩) (fun M1 h1 => (r_tree hA h1 a b x).2.1 r hr ht)
    · exact absurd (Or.inr q) h
theorem arm_8 {F : Abs → Nat → Mm → Prop} (hF : FOK F) {xs : Nat → Int32} {L n : Nat} {M : Mm} (hL : L ≤ 3584) (hn : n + 7 ≤ L) (hI : Inv F M) : Nx F n (f_arm_8 xs L (nI n) M) := by
  obtain ⟨A, hA, hC, hR⟩ := hI
  unfold f_arm_8
  simp (disch := omega) only [pz_rdX, pz_1, pz_2, pz_3, pz_4, pz_5, pz_6, pz_add]
  exact both_tree hF hA hC hR _ _ _ _
