/-! normal: the reference, the arm -/
def TcP (l : List Nat) (q : Nat) (M M' : Mm) : Prop :=
  (M'.1 69 38 = nI (q + l.length)) ∧
  (∀ j, j < l.length → M'.1 83 (q + j) = nI (l.getD j 0)) ∧
  (∀ j, j < q → M'.1 83 j = M.1 83 j) ∧
  (∀ j, j ≠ 38 → M'.1 69 j = M.1 69 j) ∧
  (∀ k, k ≠ 83 → k ≠ 69 → M'.1 k = M.1 k) ∧
  (M'.2 = M.2)
theorem TcP.t {l : List Nat} {q : Nat} {M M' : Mm} (hh_ : TcP l q M M') : M'.1 69 38 = nI (q + l.length) := hh_.1
theorem TcP.r {l : List Nat} {q : Nat} {M M' : Mm} (hh_ : TcP l q M M') : ∀ j, j < l.length → M'.1 83 (q + j) = nI (l.getD j 0) := hh_.2.1
theorem TcP.o {l : List Nat} {q : Nat} {M M' : Mm} (hh_ : TcP l q M M') : ∀ j, j < q → M'.1 83 j = M.1 83 j := hh_.2.2.1
theorem TcP.f {l : List Nat} {q : Nat} {M M' : Mm} (hh_ : TcP l q M M') : ∀ j, j ≠ 38 → M'.1 69 j = M.1 69 j := hh_.2.2.2.1
theorem TcP.k {l : List Nat} {q : Nat} {M M' : Mm} (hh_ : TcP l q M M') : ∀ k, k ≠ 83 → k ≠ 69 → M'.1 k = M.1 k := hh_.2.2.2.2.1
theorem TcP.l {l : List Nat} {q : Nat} {M M' : Mm} (hh_ : TcP l q M M') : M'.2 = M.2 := hh_.2.2.2.2.2
theorem TcP.app {l1 l2 : List Nat} {q : Nat} {M M1 M2 : Mm} (h1 : TcP l1 q M M1) (h2 : TcP l2 (q + l1.length) M1 M2) : TcP (l1 ++ l2) q M M2 := by
  refine ⟨?_, fun j hj => ?_, fun j hj => (h2.o j (by omega)).trans (h1.o j hj), fun j hj => (h2.f j hj).trans (h1.f j hj), fun k k1 k2 => (h2.k k k1 k2).trans (h1.k k k1 k2), h2.l.trans h1.l⟩
  · rw [h2.t, List.length_append, Nat.add_assoc]
  · rw [List.length_append] at hj
    by_cases z : j < l1.length
    · rw [h2.o _ (by omega), h1.r j z]
      congr 1
      rw [List.getD_eq_getElem?_getD, List.getD_eq_getElem?_getD, List.getElem?_append_left z]
    · have := h2.r (j - l1.length) (by omega)
      rw [show q + l1.length + (j - l1.length) = q + j by omega] at this
      rw [this]
      congr 1
      rw [List.getD_eq_getElem?_getD, List.getD_eq_getElem?_getD, List.getElem?_append_right (by omega)]
theorem TcP.one {M : Mm} {q b : Nat} (h : M.1 69 38 = nI q) : TcP [b] q M (wi (wi M 83 q (nI b)) 69 38 (nI (q + 1))) := by
  refine ⟨rfl, fun j hj => ?_, fun j hj => ?_, fun j hj => ?_, fun k k1 k2 => ?_, rfl⟩
  · have hj : j < 1 := hj
    have : j = 0 := by omega
    subst this
    rw [wi_n _ _ _ (by omega), Nat.add_zero, wi_at, if_pos rfl]; rfl
  · rw [wi_n _ _ _ (by omega), wi_at, if_neg (by omega)]
  · rw [wi_at, if_neg hj, wi_n _ _ _ (by omega)]
  · rw [wi_n _ _ _ k2, wi_n _ _ _ k1]
theorem emit_ok {M : Mm} {q b : Nat} (h : M.1 69 38 = nI q) (hq : q < 23) : (wrI 23 M 83 (M.1 69 38) (nI b) fun M_10 => lt1 (wi M_10 69 38 ((M_10.1 69 38) + (1 : Int32))) fun M_12 => some M_12) = some (wi (wi M 83 q (nI b)) 69 38 (nI (q + 1))) := by
  have e : ∀ v, (wi M 83 q v).1 69 38 = nI q := fun v => h
  rw [h, pz_wr (by omega) (by omega), pz_lt1, e, pz_1, pz_add]
theorem tl_seg {W H : Nat → Nat} {n L : Nat} {tk : Nat → Nat} (hn : n ≤ 12) (hL : L ≤ 23) : ∀ (e : Ex) (lo t fu q : Nat) (f : Bool) (M : Mm), ExG n tk L lo e → MRec W H M lo e → 2 * (Ex.lvs e).length ≤ fu → 12 ≤ t → t < 100 → M.1 69 38 = nI q → q + (tc e t f).length ≤ 23 →
    Wp (f_X10_tellChain fu (nI (lo + exz e - 1)) (nI t) (nI f.toNat) M) (fun M' => TcP (tc e t f) q M M')
  | .leaf b, lo, t, fu, q, f, M, hG, hr, hfu, ht, ht2, h38, hq => by
    have hfu : 2 * 1 ≤ fu := hfu
    obtain ⟨g, rfl⟩ : ∃ g, fu = g + 1 := ⟨fu - 1, by omega⟩
    have hb : b < n := hG.lt b (List.mem_singleton.mpr rfl)
    obtain ⟨h1, h2, h3⟩ := hr
    have hlen : lo + 1 ≤ L := hG.len
    rw [tc_len] at hq
    have hq : q + (1 + (if f = true then 0 else 1)) ≤ 23 := hq
    show Wp (f_X10_tellChain_B (f_X10_tellChain g) (nI lo) (nI t) (nI f.toNat) M) _
    unfold f_X10_tellChain_B f_X10_tellPart_B
    rw [pz_rd (by omega) (by omega), h1, if_neg (by rw [pz_eq (by omega) (by omega)]; omega), pz_rd (by omega) (by omega), h1, pz_12, if_neg (by rw [pz_le (by omega) (by omega)]; omega), pz_rd (by omega) (by omega), h1, emit_ok h38 (by omega), pz_bd, pz_0]
    cases f
    · rw [if_pos (show nI false.toNat = nI 0 from rfl), emit_ok (q := q + 1) rfl (by simp at hq; omega)]
      exact wp_s ((TcP.one h38).app (TcP.one (q := q + 1) rfl))
    · rw [if_neg (show ¬ nI true.toNat = nI 0 by decide)]
      exact wp_s (TcP.one h38)
  | .branch s a b, lo, t, fu, q, f, M, hG, hr, hfu, ht, ht2, h38, hq => by
    have la := lvs_pos a
    have lb := lvs_pos b
    have za := exz_pos a
    have zb := exz_pos b
    have hfu : 2 * (Ex.lvs a ++ Ex.lvs b).length ≤ fu := hfu
    rw [List.length_append] at hfu
    obtain ⟨g, rfl⟩ : ∃ g, fu = g + 1 := ⟨fu - 1, by omega⟩
    obtain ⟨g2, rfl⟩ : ∃ g2, g = g2 + 1 := ⟨g - 1, by omega⟩
    obtain ⟨ra, rb, h3, h4, h5, h6, h7⟩ := hr
    have hlen : lo + (exz a + exz b + 1) ≤ L := hG.len
    have hs := hG.ok.1
    rw [tc_len] at hq
    have hq : q + (exz a + exz b + 1 + (if f = true then 0 else 1)) ≤ 23 := hq
    rw [show lo + exz (Lean.RArray.branch s a b) - 1 = lo + exz a + exz b by show lo + (exz a + exz b + 1) - 1 = _; omega]
    generalize hhi : lo + exz a + exz b = hi at *
    -- the chain itself
    have chain : ∀ (g : Nat) (f : Bool), 2 * ((Ex.lvs a).length + (Ex.lvs b).length) ≤ g + 2 → q + (exz a + exz b + 1 + (if f = true then 0 else 1)) ≤ 23 → Wp (rdI 23 M 87 (nI hi) fun v_10 => (f_X10_tellChain g v_10 (nI s) (nI f.toNat) M).bind fun M_13 => rdI 23 M_13 88 (nI hi) fun v_14 => (f_X10_tellChain g v_14 (nI s) (nI 0) M_13).bind fun M_17 => some M_17) (fun M' => TcP (tc a s f ++ tc b s false) q M M') := by
      intro g f hg hq
      have l1 := tc_len a s f
      have l2 := tc_len b s false
      rw [if_neg (by decide)] at l2
      rw [pz_rd (by omega) (by omega), h4]
      refine wp_b (tl_seg hn hL a lo s g q f M hG.l ra (by omega) (by omega) (by omega) h38 (by rw [l1]; omega)) ?_
      intro M1 p1
      have q1 : ∀ k, k ≠ 83 → k ≠ 69 → M1.1 k = M.1 k := p1.k
      rw [pz_rd (by omega) (by omega), q1 88 (by omega) (by omega), h5, show hi - 1 = lo + exz a + exz b - 1 by omega]
      refine wp_b (tl_seg hn hL b (lo + exz a) s g (q + (tc a s f).length) false M1 hG.r (MRec.fr b _ rb (fun k hk j _ _ => by rw [q1 k (by omega) (by omega)])) (by omega) (by omega) (by omega) p1.t (by rw [l1, l2]; omega)) ?_
      intro M2 p2
      exact wp_s (p1.app p2)
    show Wp (f_X10_tellChain_B (f_X10_tellChain (g2 + 1)) (nI hi) (nI t) (nI f.toNat) M) _
    unfold f_X10_tellChain_B f_X10_tellPart_B
    rw [pz_rd (by omega) (by omega), h3, pz_0]
    by_cases e : s = t
    · subst e
      rw [if_pos rfl]
      have : tc (.branch s a b) s f = tc a s f ++ tc b s false := by show (if s = s then _ else _) = _; rw [if_pos rfl]
      rw [this]
      exact chain (g2 + 1) f (by omega) hq
    · rw [if_neg (by rw [pz_eq (by omega) (by omega)]; exact e), pz_rd (by omega) (by omega), h3, pz_12, if_pos (by rw [pz_le (by omega) (by omega)]; omega), pz_rd (by omega) (by omega), h3, pz_1]
      have : tc (.branch s a b) t f = (tc a s true ++ tc b s false) ++ (if f = true then [] else [t]) := by show (if s = t then _ else _) = _; rw [if_neg e]
      rw [this]
      have inner : Wp (f_X10_tellChain (g2 + 1) (nI hi) (nI s) (nI 1) M) (fun M' => TcP (tc a s true ++ tc b s false) q M M') := by
        show Wp (f_X10_tellChain_B (f_X10_tellChain g2) (nI hi) (nI s) (nI true.toNat) M) _
        unfold f_X10_tellChain_B
        rw [pz_rd (by omega) (by omega), h3, if_pos rfl, pz_0]
        exact chain g2 true (by omega) (by simp; split at hq <;> omega)
      obtain ⟨M1, e1, p1⟩ := inner
      rw [e1, pz_bd, pz_bd]
      cases f
      · rw [if_pos (show nI false.toNat = nI 0 from rfl), ← pz_1, emit_ok p1.t (by rw [List.length_append, tc_len, tc_len]; simp at hq; simp; omega)]
        exact wp_s (p1.app (TcP.one p1.t))
      · rw [if_neg (show ¬ nI true.toNat = nI 0 by decide)]
        show Wp (some M1) (fun M' => TcP (tc a s true ++ tc b s false ++ []) q M M')
        rw [List.append_nil]
        exact wp_s p1
theorem tp_ok {M : Mm} {W H : Nat → Nat} {n : Nat} {tk : Nat → Nat} {e : Ex} (hn : n ≤ 12) (h1n : 1 ≤ n) (hR : RowE n tk e) (hr : MRec W H M 0 e) (h38 : M.1 69 38 = nI 0) : Wp (f_X10_tellPart (nI (2 * n - 1 - 1)) M) (fun M' => TcP (tp e) 0 M M') := by
  obtain ⟨hat, hz⟩ := hR.rat
  have hl : (Ex.lvs e).length = n := hR.2.2.2.2
  have hG : ExG n tk (2 * n - 1) 0 e := ⟨hR.1, hR.2.2.1, hR.2.2.2.1, hat, by omega⟩
  unfold f_X10_tellPart f_X10_tellPart_B
  match e, hR, hr, hat, hz, hl, hG with
  | .leaf b, hR, hr, hat, hz, hl, hG =>
    obtain ⟨h1, h2, h3⟩ := hr
    have hb : b < n := hG.lt b (List.mem_singleton.mpr rfl)
    have hz : 1 = 2 * n - 1 := hz
    rw [show 2 * n - 1 - 1 = 0 by omega, pz_rd (by omega) (by omega), h1, pz_12, if_neg (by rw [pz_le (by omega) (by omega)]; omega), pz_rd (by omega) (by omega), h1, emit_ok h38 (by omega)]
    exact wp_s (TcP.one h38)
  | .branch s a b, hR, hr, hat, hz, hl, hG =>
    have hs := hG.ok.1
    have h3 : M.1 94 (2 * n - 1 - 1) = nI s := by
      have := hr.2.2.1
      rw [show 0 + exz a + exz b = 2 * n - 1 - 1 by have : exz a + exz b + 1 = 2 * n - 1 := hz; omega] at this
      exact this
    have hts : tp (.branch s a b) = tc (.branch s a b) s true := by
      show (if s = 99 then _ else (tc a s true ++ tc b s false) ++ []) = (if s = s then tc a s true ++ tc b s false else _)
      rw [if_neg (by omega), if_pos rfl, List.append_nil]
    rw [pz_rd (by omega) (by omega), h3, pz_12, if_pos (by rw [pz_le (by omega) (by omega)]; omega), pz_rd (by omega) (by omega), h3, pz_1, hts]
    have := tl_seg (W := W) (H := H) (tk := tk) hn (show 2 * n - 1 ≤ 23 by omega) (.branch s a b) 0 s 60 0 true M hG hr (by omega) (by omega) (by omega) h38 (by rw [tc_len, hz]; simp; omega)
    rw [hz, Nat.zero_add] at this
    exact wp_b this (fun M' h => wp_s h)
def nmS (A : Abs) (tk : Nat → Nat) : Abs := mkA A.n A.tb A.td A.s A.ro A.kd A.w A.h A.nt A.x A.y A.one A.two tk A.lf A.rt
theorem arm_16 {F : Abs → Nat → Mm → Prop} (hF : FOK F) {xs : Nat → Int32} {L n : Nat} {M : Mm} (hI : Inv F M) : Nx F n (f_arm_16 xs L (nI n) M) := by
  obtain ⟨A, hA, hC, hR⟩ := hI
  have hn12 := hA.n
  unfold f_arm_16
  have key : ∃ o A', AOK A' ∧ Wp (f_X9_normal M) (fun r => r.1 = o ∧ CI F r.2 A' ∧ Fr SC M r.2) ∧ ∀ M1, RI M1 A → RQr M1 A' o (f_X10_normal M1) := by
    unfold f_X9_normal f_X10_normal f_X10_fail
    by_cases hk : A.kd = nI 2
    · have e1 : f_X9_needKind (2 : Int32) M = some () := nk_y (hC.kd.trans hk)
      have hkn : A.kd ≠ -1 := by rw [hk]; decide
      have l1 := (hA.ly hkn).1
      obtain ⟨e, he⟩ := hA.k2 hk
      obtain ⟨o5, o1⟩ := hC.k2 hk
      obtain ⟨hat, hz⟩ := he.rat
      have tl : ∀ i, i < 2 * A.n - 1 → A.tk i < 14 := fun i hi => exA_tl hat he.1 i (by omega) (by omega)
      obtain ⟨e', he', hm⟩ := mn_ok (k0 := 17) hn12 l1 he o5 o1
      obtain ⟨hat', hz'⟩ := he'.rat
      have tl' : ∀ i, i < 2 * A.n - 1 → tpF e i < 14 := fun i hi => exA_tl hat' he'.1 i (by omega) (by omega)
      refine ⟨some (nI (chg (tpF e) A.tk (2 * A.n - 1))), nmS A (tpF e), ⟨hA.n, hA.w, hA.h, hA.tb, hA.nt, hA.s, hA.kd, hA.ly, hA.k1, fun _ => ⟨e', he'⟩, hA.k3⟩, ?_, fun M1 h => ?_⟩
      · rw [e1, pz_lt1, pz_ts]
        refine wp_b2 hm ?_
        rintro v M2 ⟨a1, a2, a3⟩
        have a1 : v = _ := a1
        have q : ∀ k, k ≠ 18 → k ≠ 19 → M2.1 k = M.1 k := fun k k1 k2 => a3.1 k (fun h => by unfold SB at h; omega)
        refine wp_s ⟨congrArg some a1, ⟨?_, ?_, ?_, ?_, hC.w.eq (q 2 (by omega) (by omega)), hC.h.eq (q 3 (by omega) (by omega)), hC.nt.eq (q 4 (by omega) (by omega)), fun hh => ?_, fun hh => ?_, fun hh => ?_, fun hh => ?_, fun j hj => ?_⟩, a3.mono (fun k h => by unfold SB at h; unfold SC; omega)⟩
        · show M2.1 0 8 = _
          rw [q 0 (by omega) (by omega)]; exact hC.kd
        · show M2.1 0 9 = _
          rw [q 0 (by omega) (by omega)]; exact hC.s
        · show M2.1 1 3 = _
          rw [q 1 (by omega) (by omega)]; exact hC.n
        · show M2.1 1 2 = _
          rw [q 1 (by omega) (by omega)]; exact hC.tb
        · obtain ⟨g1, g2, g3, g4, g5, g6⟩ := hC.gd hh
          show M2.1 5 6 = _ ∧ M2.1 5 5 = _ ∧ _
          rw [q 5 (by omega) (by omega)]
          exact ⟨g1, g2, g3.eq (q 6 (by omega) (by omega)), g4.eq (q 7 (by omega) (by omega)), g5.eq (q 8 (by omega) (by omega)), g6.eq (q 9 (by omega) (by omega))⟩
        · have hh : A.kd = 1 := hh
          rw [hk] at hh; exact absurd hh (by decide)
        · exact ⟨by show M2.1 17 5 = _; rw [q 17 (by omega) (by omega)]; exact o5, a2⟩
        · have hh : A.kd = 3 := hh
          rw [hk] at hh; exact absurd hh (by decide)
        · show M2.1 (65 + j) 0 = 0 ∨ _
          rw [q (65 + j) (by omega) (by omega)]
          rcases hC.fn j hj with h1 | h1
          · exact Or.inl h1
          · exact Or.inr (hF A _ j M _ hj h1 rfl rfl rfl rfl (q _ (by omega) (by omega)) (a3.2 _ (fun h => by unfold SB at h; omega)))
      · have e2 : (wi M1 69 0 (nI 0)).1 69 6 = nI 2 := h.kd.trans hk
        have s1 : Scr M1 (wi M1 69 0 (nI 0)) := Scr.rf.w (by omega)
        have rg := (h.rg hkn).scr s1
        have g := hA.gb hkn
        rw [pz_0, pz_lt1, e2, if_pos pz_2.symm]
        refine wp_b (mp_ok hn12 l1 g.td hA.w hA.h he rg.n rg.td rg.w rg.h (IA.eq (h.k2 hk) rfl)) ?_
        rintro M2 ⟨a1, a2⟩
        have q2 : ∀ k, ¬ SMp k → M2.1 k = (wi M1 69 0 (nI 0)).1 k := fun k hk => a2.1 k hk
        have r2 : (wi M2 69 38 (nI 0)).1 69 1 = nI A.n := by
          show M2.1 69 1 = _
          rw [q2 69 (by unfold SMp; omega)]; exact rg.n
        rw [pz_lt1, rs_eq r2 l1, pz_1, pz_sub (by omega)]
        refine wp_b (tp_ok (M := wi M2 69 38 (nI 0)) hn12 l1 he (MRec.fr e 0 a1 (fun k hk j _ _ => by rw [wi_n _ _ _ (by omega)])) rfl) ?_
        intro M3 p3
        have lt : (tp e).length = 2 * A.n - 1 := by unfold tp; rw [tc_len, hz]; simp
        have row : IA M3 83 (2 * A.n - 1) (tpF e) := fun j hj => by
          have := p3.r j (by omega)
          rw [Nat.zero_add] at this
          exact this
        have sc3 : Scr M1 M3 := by
          refine s1.tr ?_
          have f69 : ∀ j, j ≠ 38 → M3.1 69 j = (wi M1 69 0 (nI 0)).1 69 j := fun j hj => by
            rw [p3.f j hj, wi_at, if_neg hj, q2 69 (by unfold SMp; omega)]
          refine ⟨fun k k1 k2 => ?_, ⟨f69 1 (by omega), f69 6 (by omega), f69 7 (by omega), f69 8 (by omega), f69 41 (by omega)⟩, fun k hk => ?_⟩
          · rw [p3.k k (by omega) k1, wi_n _ _ _ k1, q2 k (by unfold SMp; omega)]
          · rw [p3.l]
            show M2.2 k = _
            exact a2.2 k (by unfold SMp; omega)
        have c0 : M3.1 69 0 = nI 0 := by
          rw [p3.f 0 (by omega), wi_at, if_neg (by omega), q2 69 (by unfold SMp; omega)]; rfl
        refine wp_b (P := fun z => z.1 = nI (chg (tpF e) A.tk (2 * A.n - 1)) ∧ IA z.2 78 (2 * A.n - 1) (tpF e) ∧ Fr (SB 78 78) M3 z.2) ?_ ?_
        · refine wp_l (fun i (v : Int32 × Int32 × Mm) => v.1 = nI (chg (tpF e) A.tk i) ∧ v.2.1 = nI i ∧ (∀ j, j < 2 * A.n - 1 → v.2.2.1 78 j = nI (if j < i then tpF e j else A.tk j)) ∧ Fr (SB 78 78) M3 v.2.2) (2 * A.n - 1) (fu_lt (by omega)) ?_ ?_ ⟨rfl, rfl, fun j hj => ?_, Fr.rf⟩
          · rintro i ⟨x1, x2, M4⟩ hi ⟨b1, b2, b3, b4⟩
            have b1 : x1 = nI (chg (tpF e) A.tk i) := b1
            have b2 : x2 = nI i := b2
            subst b1 b2
            have b3 : ∀ j, j < 2 * A.n - 1 → M4.1 78 j = nI (if j < i then tpF e j else A.tk j) := b3
            have b4 : Fr (SB 78 78) M3 M4 := b4
            have q4 : ∀ k, k ≠ 78 → M4.1 k = M3.1 k := fun k hk => b4.1 k (fun h => by unfold SB at h; omega)
            have c1 : M4.1 69 1 = nI A.n := by rw [q4 69 (by omega)]; exact sc3.2.1.1.trans h.n
            have c2 : M4.1 83 i = nI (tpF e i) := by rw [q4 83 (by omega)]; exact row i hi
            have c3 := b3 i hi
            rw [if_neg (by omega)] at c3
            have t1 := tl i hi
            have t2 := tl' i hi
            have fin : ∀ c, c = chg (tpF e) A.tk (i + 1) → Wp (f_X10_normal_J71 (nI i) M4 (nI c)) (fun r => (∃ w, r = .inl w ∧ w.1 = nI (chg (tpF e) A.tk (i + 1)) ∧ w.2.1 = nI (i + 1) ∧ (∀ j, j < 2 * A.n - 1 → w.2.2.1 78 j = nI (if j < i + 1 then tpF e j else A.tk j)) ∧ Fr (SB 78 78) M3 w.2.2) ∨ ∃ x, r = .inr x ∧ x.1 = nI (chg (tpF e) A.tk (2 * A.n - 1)) ∧ IA x.2 78 (2 * A.n - 1) (tpF e) ∧ Fr (SB 78 78) M3 x.2) := by
              rintro c rfl
              unfold f_X10_normal_J71
              rw [pz_rd (by omega) (by omega), c2, pz_wr (by omega) (by omega), pz_lt1, pz_1, pz_add]
              refine wp_s (Or.inl ⟨_, rfl, rfl, rfl, fun j hj => ?_, Fr.w b4 ⟨by omega, by omega⟩⟩)
              show (wi M4 78 i _).1 78 j = _
              rw [wi_at]
              by_cases z : j = i
              · rw [if_pos z, if_pos (by omega), z]
              · rw [if_neg z, b3 j hj]
                by_cases y : j < i
                · rw [if_pos y, if_pos (by omega)]
                · rw [if_neg y, if_neg (by omega)]
            show Wp (f_X10_normal_L45 (nI (chg (tpF e) A.tk i)) (nI i) M4) _
            unfold f_X10_normal_L45
            rw [rs_eq c1 l1, if_neg (by rw [pz_le (by omega) (by omega)]; omega), pz_rd (by omega) (by omega), c2, pz_rd (by omega) (by omega), c3]
            by_cases z : tpF e i = A.tk i
            · rw [if_pos (by rw [z])]
              exact fin _ (by show _ = chg (tpF e) A.tk i + (if tpF e i = A.tk i then 0 else 1); rw [if_pos z]; rfl)
            · rw [if_neg (by rw [pz_eq (by omega) (by omega)]; exact z), pz_lt1, pz_1, pz_add]
              exact fin _ (by show _ = chg (tpF e) A.tk i + (if tpF e i = A.tk i then 0 else 1); rw [if_neg z])
          · rintro ⟨x1, x2, M4⟩ ⟨b1, b2, b3, b4⟩
            have b1 : x1 = nI (chg (tpF e) A.tk (2 * A.n - 1)) := b1
            have b2 : x2 = nI (2 * A.n - 1) := b2
            subst b1 b2
            have b4 : Fr (SB 78 78) M3 M4 := b4
            have c1 : M4.1 69 1 = nI A.n := by rw [b4.1 69 (fun h => by unfold SB at h; omega)]; exact sc3.2.1.1.trans h.n
            show Wp (f_X10_normal_L45 (nI (chg (tpF e) A.tk (2 * A.n - 1))) (nI (2 * A.n - 1)) M4) _
            unfold f_X10_normal_L45
            rw [rs_eq c1 l1, if_pos ((nI_leI (by omega) (by omega)).mpr (Nat.le_refl _))]
            refine wp_s ⟨_, rfl, rfl, fun j hj => ?_, b4⟩
            have := b3 j hj
            rw [if_pos hj] at this
            exact this
          · rw [if_neg (by omega)]
            show M3.1 78 j = _
            rw [sc3.1 78 (by omega) (by omega)]
            exact h.k2 hk j hj
        · rintro ⟨v, M4⟩ ⟨b1, b2, b3⟩
          have b1 : v = _ := b1
          have b2 : IA M4 78 (2 * A.n - 1) (tpF e) := b2
          have b3 : Fr (SB 78 78) M3 M4 := b3
          unfold f_X10_normal_A45
          have q4 : ∀ k, k ≠ 78 → M4.1 k = M3.1 k := fun k hk => b3.1 k (fun h => by unfold SB at h; omega)
          have h3 := h.scr sc3
          have fr4 : Fr SR M1 M4 := sc3.fr.tr (b3.mono (fun k h => by unfold SB at h; unfold SR; omega))
          refine wp_s ⟨⟨?_, ?_, ?_, h3.w.eq (q4 70 (by omega)), h3.h.eq (q4 71 (by omega)), h3.tb.eq (q4 73 (by omega)), h3.nt.eq (q4 72 (by omega)), fun hh => ?_, fun hh => ?_, fun hh => b2, fun hh => ?_⟩, fr4, Or.inr ⟨_, rfl, ?_, b1⟩⟩
          · show M4.1 69 6 = _
            rw [q4 69 (by omega)]; exact h3.kd
          · show M4.1 69 41 = _
            rw [q4 69 (by omega)]; exact h3.s
          · show M4.1 69 1 = _
            rw [q4 69 (by omega)]; exact h3.n
          · show M4.1 69 7 = _ ∧ _
            rw [q4 69 (by omega)]
            exact ⟨(h3.gd hh).1, (h3.gd hh).2.1.eq (q4 74 (by omega)), (h3.gd hh).2.2.eq (q4 75 (by omega))⟩
          · have hh : A.kd = 1 := hh
            rw [hk] at hh; exact absurd hh (by decide)
          · have hh : A.kd = 3 := hh
            rw [hk] at hh; exact absurd hh (by decide)
          · show M4.1 69 0 = _
            rw [q4 69 (by omega)]; exact c0
    · refine ⟨none, A, hA, ?_, fun M1 h => ?_⟩
      · have e1 : f_X9_needKind (2 : Int32) M = none := nk_n (by rw [hC.kd]; exact hk)
        rw [e1]
        exact wp_s ⟨rfl, hC, Fr.rf⟩
      · have e2 : (wi M1 69 0 (nI 0)).1 69 6 = A.kd := h.kd
        rw [pz_0, pz_lt1, e2, pz_2, if_neg hk]
        exact rq_fail h _
  obtain ⟨o, A', hA', h1, h2⟩ := key
  have := arm_w hF Int32.toInt64 o (n := n) hA' hR (lq_m hF Int32.toInt64 h1) h2 (J := f_law_J1247 (nI n)) (fun _ => rfl)
  rw [← pz_0] at this
  exact this
