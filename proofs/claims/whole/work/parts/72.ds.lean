/-! the class draws an outline -/
theorem lc_bd {w h : Nat → Nat} {op td n : Nat} {e : Ex} (hd : (Ex.lvs e).Nodup) (hl : (Ex.lvs e).length ≤ 12) (hm : ∀ b ∈ Ex.lvs e, b < n) (hw : ∀ b, b < n → 1 ≤ w b ∧ w b ≤ 200) (hh : ∀ b, b < n → 1 ≤ h b ∧ h b ≤ 200) : LBd (lc w h op td e) := fun p hp => by
  obtain ⟨u, _, rfl⟩ := (lc_frn (w := w) (h := h) (op := op) (td := td) e hd).2.1 p hp
  have h1 := exw_le (W := swd w h u) (H := swd h w u) e (fun c hc => swd_le hw hh (hm c hc))
  have h2 := exh_le (W := swd w h u) (H := swd h w u) e (fun c hc => swd_le hh hw (hm c hc))
  show exw (swd w h u) (swd h w u) e ≤ 2400 ∧ exh (swd w h u) (swd h w u) e ≤ 2400
  omega
theorem swr_bd {L : List Sh} (h : LBd L) : LBd (swr L) := fun p hp => by
  have := h _ (swr_mem.mp hp)
  exact ⟨this.2, this.1⟩
def DrP (k0 p z : Nat) (L : List Sh) (M M' : Mm) : Prop :=
  (ARl M' (k0 + 1) (k0 + 2) z L) ∧
  (M'.1 k0 5 = nI (z + L.length)) ∧
  (∀ j, j < z → M'.1 (k0 + 1) j = M.1 (k0 + 1) j ∧ M'.1 (k0 + 2) j = M.1 (k0 + 2) j) ∧
  (M'.1 (k0 + 5) p = nI z) ∧
  (∀ j, j < p → M'.1 (k0 + 5) j = M.1 (k0 + 5) j) ∧
  (∀ k, k < k0 ∨ k0 + 5 < k → M'.1 k = M.1 k) ∧
  (∀ k, k < k0 ∨ k0 + 5 < k → M'.2 k = M.2 k)
theorem DrP.a {k0 p z : Nat} {L : List Sh} {M M' : Mm} (hh_ : DrP k0 p z L M M') : ARl M' (k0 + 1) (k0 + 2) z L := hh_.1
theorem DrP.s {k0 p z : Nat} {L : List Sh} {M M' : Mm} (hh_ : DrP k0 p z L M M') : M'.1 k0 5 = nI (z + L.length) := hh_.2.1
theorem DrP.o {k0 p z : Nat} {L : List Sh} {M M' : Mm} (hh_ : DrP k0 p z L M M') : ∀ j, j < z → M'.1 (k0 + 1) j = M.1 (k0 + 1) j ∧ M'.1 (k0 + 2) j = M.1 (k0 + 2) j := hh_.2.2.1
theorem DrP.t {k0 p z : Nat} {L : List Sh} {M M' : Mm} (hh_ : DrP k0 p z L M M') : M'.1 (k0 + 5) p = nI z := hh_.2.2.2.1
theorem DrP.u {k0 p z : Nat} {L : List Sh} {M M' : Mm} (hh_ : DrP k0 p z L M M') : ∀ j, j < p → M'.1 (k0 + 5) j = M.1 (k0 + 5) j := hh_.2.2.2.2.1
theorem DrP.k {k0 p z : Nat} {L : List Sh} {M M' : Mm} (hh_ : DrP k0 p z L M M') : ∀ k, k < k0 ∨ k0 + 5 < k → M'.1 k = M.1 k := hh_.2.2.2.2.2.1
theorem DrP.l {k0 p z : Nat} {L : List Sh} {M M' : Mm} (hh_ : DrP k0 p z L M M') : ∀ k, k < k0 ∨ k0 + 5 < k → M'.2 k = M.2 k := hh_.2.2.2.2.2.2
theorem ab_ok {M : Mm} {k0 z b : Nat} {w h : Nat → Nat} {op td : Nat} (h5 : M.1 k0 5 = nI z) (hz : z + 2 ≤ 26) (hw : w b ≤ 200) (hh : h b ≤ 200) : Wp (f_X5_addBlock k0 (nI (w b)) (nI (h b)) (nI (op.testBit b).toNat) (nI (td.testBit b).toNat) M) (fun M' => TkP k0 z (lcl w h op td b) M M') := by
  have t0 : TkP k0 z [] M M := ⟨trivial, h5, fun _ _ => ⟨rfl, rfl⟩, fun _ _ _ _ => rfl, rfl⟩
  unfold f_X5_addBlock f_X5_addBlock_J41 lcl
  have J : ¬ (op.testBit b = true ∧ w b ≠ h b) → Wp (if nI (td.testBit b).toNat = nI 1 then (f_X5_addShape k0 (nI (h b)) (nI (w b)) M).bind fun M_6 => some M_6 else (f_X5_addShape k0 (nI (w b)) (nI (h b)) M).bind fun M_4 => some M_4) (fun M' => TkP k0 z (if op.testBit b = true ∧ w b ≠ h b then [(min (w b) (h b), max (w b) (h b)), (max (w b) (h b), min (w b) (h b))] else if td.testBit b = true then [(h b, w b)] else [(w b, h b)]) M M') := by
    intro q
    rw [if_neg q]
    by_cases ht : td.testBit b = true
    · rw [if_pos (by rw [ht]; rfl), if_pos ht, as_ok h5 (by omega), pz_bd]
      exact wp_s (t0.add _ _)
    · rw [if_neg (by rw [pz_b1]; exact ht), if_neg ht, as_ok h5 (by omega), pz_bd]
      exact wp_s (t0.add _ _)
  rw [pz_1]
  by_cases ho : op.testBit b = true
  · rw [if_pos (by rw [ho]; rfl)]
    by_cases e : w b = h b
    · rw [if_pos (by rw [e])]
      exact J (fun q => q.2 e)
    · rw [if_neg (by rw [pz_eq (by omega) (by omega)]; exact e), pz_min (by omega) (by omega), pz_max (by omega) (by omega), as_ok h5 (by omega), pz_bd]
      have t1 := t0.add (min (w b) (h b)) (max (w b) (h b))
      rw [as_ok (z := z + 1) (by rw [wi_at, if_pos rfl]) (by omega), pz_bd, if_pos ⟨ho, e⟩]
      exact wp_s (t1.add _ _)
  · rw [if_neg (by rw [pz_b1]; exact ho)]
    exact J (fun q => ho q.1)
theorem dr_seg {k0 k1 n L op td : Nat} {w h tk : Nat → Nat} (hn : n ≤ 12) (hL : L ≤ 23) (hk : k1 + 5 < k0) (hk1 : 3 < k1) (ho : op < 4096) (htd : td < 4096) (hw : ∀ b, b < n → 1 ≤ w b ∧ w b ≤ 200) (hh : ∀ b, b < n → 1 ≤ h b ∧ h b ≤ 200) : ∀ (e : Ex) (lo p z : Nat) (M : Mm), ExG n tk L lo e → p + (Ex.lvs e).length ≤ 12 → z + 2 * (Ex.lvs e).length ≤ 24 → M.1 k1 5 = nI L → IA M (k1 + 1) L tk → IA M 2 n w → IA M 3 n h → M.1 k0 5 = nI z →
    ∃ M', stp (fun v : Int32 × Int32 × Mm => f_X5_draw_L11 k0 k1 (nI op) (nI td) v.1 v.2.1 v.2.2) (exz e) (nI p, nI lo, M) (nI (p + 1), nI (lo + exz e), M') ∧ DrP k0 p z (lc w h op td e) M M'
  | .leaf b, lo, p, z, M, hG, hp, hz, h5, ht, ew, eh, hs => by
    have hb : b < n := hG.lt b (List.mem_singleton.mpr rfl)
    have hat : tk lo = b := hG.ax
    have hlen : lo + 1 ≤ L := hG.len
    have hp : p + 1 ≤ 12 := hp
    have hz : z + 2 * 1 ≤ 24 := hz
    have bw := hw b hb
    have bh := hh b hb
    have e5 : (wi M (k0 + 5) p (nI z)).1 k0 5 = nI z := by rw [wi_n _ _ _ (by omega)]; exact hs
    obtain ⟨M', ea, ta⟩ := ab_ok (M := wi (M) (k0 + 5) p (nI z)) (b := b) (w := w) (h := h) (op := op) (td := td) e5 (by omega) bw.2 bh.2
    refine ⟨M', stp_1 ?_, ⟨ta.a, ta.s, fun j hj => ⟨?_, ?_⟩, ?_, fun j hj => ?_, fun k hk => ?_, fun k _ => by rw [ta.l]; rfl⟩⟩
    · show f_X5_draw_L11 k0 k1 (nI op) (nI td) (nI p) (nI lo) M = _
      unfold f_X5_draw_L11 f_X5_draw_J152
      rw [h5, if_neg (by rw [pz_le (by omega) (by omega)]; omega), pz_rd (by omega) (by omega), ht lo (by omega), hat, pz_12, if_neg (by rw [pz_le (by omega) (by omega)]; omega), hs, pz_wr (by omega) (by omega), pz_lt1, pz_rd (by omega) (by omega), wi_n _ _ _ (by omega), ew b hb, pz_rd (by omega) (by omega), wi_n _ _ _ (by omega), eh b hb, pz_bit (by omega) (by omega), pz_bit (by omega) (by omega), ea, pz_bd, pz_lt1, pz_1, pz_add, pz_add]
      rfl
    · rw [(ta.o j hj).1, wi_n _ _ _ (by omega)]
    · rw [(ta.o j hj).2, wi_n _ _ _ (by omega)]
    · rw [ta.k _ (by omega) (by omega) (by omega), wi_at, if_pos rfl]
    · rw [ta.k _ (by omega) (by omega) (by omega), wi_at, if_neg (by omega)]
    · rw [ta.k _ (by omega) (by omega) (by omega), wi_n _ _ _ (by omega)]
  | .branch t a b, lo, p, z, M, hG, hp, hz, h5, ht, ew, eh, hs => by
    have la := lvs_pos a
    have lb := lvs_pos b
    have hp : p + (Ex.lvs a ++ Ex.lvs b).length ≤ 12 := hp
    have hz : z + 2 * (Ex.lvs a ++ Ex.lvs b).length ≤ 24 := hz
    rw [List.length_append] at hp hz
    have hlen : lo + (exz a + exz b + 1) ≤ L := hG.len
    obtain ⟨M1, s1, r1⟩ := dr_seg hn hL hk hk1 ho htd hw hh a lo p z M hG.l (by omega) (by omega) h5 ht ew eh hs
    have na := lc_len (w := w) (h := h) (op := op) (td := td) a hG.l.nd
    have nb := lc_len (w := w) (h := h) (op := op) (td := td) b hG.r.nd
    have ba := lc_bd (op := op) (td := td) hG.l.nd (by omega) hG.l.lt hw hh
    have bb := lc_bd (op := op) (td := td) hG.r.nd (by omega) hG.r.lt hw hh
    have he : lc w h op td (.branch t a b) = if t = 12 then jb (lc w h op td a) (lc w h op td b) else swr (jb (swr (lc w h op td a)) (swr (lc w h op td b))) := rfl
    generalize hla : lc w h op td a = A at *
    obtain ⟨M2, s2, r2⟩ := dr_seg hn hL hk hk1 ho htd hw hh b (lo + exz a) (p + 1) (z + A.length) M1 hG.r (by omega) (by omega) (by rw [r1.k _ (by omega)]; exact h5) (ht.eq (r1.k _ (by omega))) (ew.eq (r1.k _ (by omega))) (eh.eq (r1.k _ (by omega))) r1.s
    generalize hlb : lc w h op td b = B at *
    have q2 : ∀ k, k < k0 ∨ k0 + 5 < k → M2.1 k = M.1 k := fun k hk => (r2.k k hk).trans (r1.k k hk)
    have arA : ARl M2 (k0 + 1) (k0 + 2) z A := r1.a.fr (fun j _ j2 => r2.o j (by omega))
    have t1 : M2.1 (k0 + 5) p = nI z := (r2.u p (by omega)).trans r1.t
    have t2 : M2.1 (k0 + 5) (p + 1) = nI (z + A.length) := r2.t
    have neA : A ≠ [] := fun e => by rw [e] at na; exact absurd na.1 (by decide)
    have neB : B ≠ [] := fun e => by rw [e] at nb; exact absurd nb.1 (by decide)
    have hat : tk (lo + exz a + exz b) = t := hG.ax.2.2
    have htt := hG.ok.1
    -- the joint
    have joint : ∀ (J : List Sh) (M3 M4 : Mm), Fr (SB (k0 + 3) (k0 + 4)) M2 M3 → TkP k0 z J M3 M4 → DrP k0 p z J M M4 := by
      intro J M3 M4 f3 t4
      have f3' : ∀ k, k < k0 + 3 ∨ k0 + 4 < k → M3.1 k = M2.1 k := fun k hk => f3.1 k (fun h => by unfold SB at h; omega)
      refine ⟨t4.a, t4.s, fun j hj => ?_, ?_, fun j hj => ?_, fun k hk => ?_, fun k hk => ?_⟩
      · rw [(t4.o j hj).1, (t4.o j hj).2, f3' _ (by omega), f3' _ (by omega), (r2.o j (by omega)).1, (r2.o j (by omega)).2]
        exact r1.o j hj
      · rw [t4.k _ (by omega) (by omega) (by omega), f3' _ (by omega)]; exact t1
      · rw [t4.k _ (by omega) (by omega) (by omega), f3' _ (by omega), r2.u j (by omega), r1.u j hj]
      · rw [t4.k _ (by omega) (by omega) (by omega), f3' _ (by omega)]; exact q2 k hk
      · rw [t4.l, f3.2 k (fun h => by unfold SB at h; omega), r2.l k hk, r1.l k hk]
    have e5 : M2.1 k0 5 = nI (z + A.length + B.length) := r2.s
    have fin : ∃ M4, f_X5_draw_L11 k0 k1 (nI op) (nI td) (nI (p + 1 + 1)) (nI (lo + exz a + exz b)) M2 = some (.inl (nI (p + 1), nI (lo + exz a + exz b + 1), M4)) ∧ DrP k0 p z (lc w h op td (.branch t a b)) M M4 := by
      unfold f_X5_draw_L11 f_X5_draw_J152
      rw [q2 k1 (by omega), h5, if_neg (by rw [pz_le (by omega) (by omega)]; omega), pz_rd (by omega) (by omega), q2 (k1 + 1) (by omega), ht _ (by omega), hat, pz_12, if_pos (by rw [pz_le (by omega) (by omega)]; omega), pz_n1, pz_1, if_neg (by rw [pz_le (by omega) (by omega)]; omega), pz_lt1, pz_dec (by omega), show p + 1 + 1 - 1 = p + 1 by omega, pz_sub (by omega), show p + 1 - 1 = p by omega, pz_rd (by omega) (by omega), t1, he]
      rcases htt with rfl | rfl
      · rw [if_pos rfl, pz_rd (by omega) (by omega), t2, if_pos rfl]
        have hjl := jbf_len (k := A.length + B.length) neA neB
        obtain ⟨m, v, M3, m1', st, e, a3, _, f3⟩ := jb_seg (k0 := k0) (z1 := z + A.length) (z2 := z + A.length + B.length) (by omega) (by omega) (A.length + B.length) A B z (z + A.length) 0 M2 (Nat.le_refl _) arA rfl r2.a rfl e5 ba bb (by omega)
        unfold f_X5_joinBeside f_X5_joinBeside_A8
        rw [pz_0, stp_end e st (fu_lt (by omega)), pz_bd]
        show ∃ M4, ((f_X5_takeJoined k0 (nI z) (nI (0 + (jb A B).length)) M3).bind fun M_31 => lt1 (nI (lo + exz a + exz b) + nI 1) fun x6_11 => some (Sum.inl (nI (p + 1), x6_11, M_31))) = _ ∧ _
        rw [Nat.zero_add]
        obtain ⟨M4, e4, t4⟩ := tj_ok (k0 := k0) (z := z) (J := jb A B) (by show z + (jbf _ _ _).length ≤ 26; omega) a3
        rw [e4, pz_bd, pz_lt1, pz_add]
        exact ⟨M4, rfl, joint _ M3 M4 f3 t4⟩
      · rw [if_neg (by decide), pz_rd (by omega) (by omega), t2, if_neg (by decide)]
        have sA := swr_len A
        have sB := swr_len B
        have hjl := jbf_len (k := (swr A).length + (swr B).length) (l1 := swr A) (l2 := swr B) (fun e => by rw [e] at sA; simp at sA; omega) (fun e => by rw [e] at sB; simp at sB; omega)
        have hjp : 1 ≤ (jb (swr A) (swr B)).length := by
          obtain ⟨x, hx⟩ := List.exists_mem_of_ne_nil _ (show swr A ≠ [] from fun e => by rw [e] at sA; simp at sA; omega)
          obtain ⟨y, hy⟩ := List.exists_mem_of_ne_nil _ (show swr B ≠ [] from fun e => by rw [e] at sB; simp at sB; omega)
          have hA := (lc_frn (w := w) (h := h) (op := op) (td := td) a hG.l.nd).1
          have hB := (lc_frn (w := w) (h := h) (op := op) (td := td) b hG.r.nd).1
          rw [hla] at hA
          rw [hlb] at hB
          obtain ⟨r, hr, _⟩ := jbf_dom (swr_srt hA) (swr_srt hB) (Nat.le_refl _) x y hx hy
          exact List.length_pos_of_mem hr
        obtain ⟨m, v, M3, m1', st, e, a3, _, f3⟩ := ja_seg (k0 := k0) (z0 := z) (z1 := z + A.length) (by omega) (by omega) ((swr A).length + (swr B).length) (swr A) (swr B) 0 M2 (Nat.le_refl _) arA.b r2.a.b (by omega) (by omega) (swr_bd ba) (swr_bd bb) (by omega)
        unfold f_X5_joinAbove f_X5_joinAbove_A15
        rw [e5, pz_lt1, pz_lt1, pz_0, pz_1, pz_s1, pz_s1]
        rw [sA, sB] at st
        rw [stp_end e st (fu_lt (by omega)), pz_bd]
        show ∃ M4, ((f_X5_takeJoinedBackward k0 (nI z) (nI (0 + (jb (swr A) (swr B)).length)) M3).bind fun M_24 => lt1 (nI (lo + exz a + exz b) + nI 1) fun x6_11 => some (Sum.inl (nI (p + 1), x6_11, M_24))) = _ ∧ _
        rw [Nat.zero_add]
        obtain ⟨M4, e4, t4⟩ := tjb_ok (k0 := k0) (z := z) (J := jb (swr A) (swr B)) (by show z + (jbf _ _ _).length ≤ 26; omega) hjp a3
        rw [e4, pz_bd, pz_lt1, pz_add]
        exact ⟨M4, rfl, joint _ M3 M4 f3 t4⟩
    obtain ⟨M4, e4, d4⟩ := fin
    refine ⟨M4, ?_, d4⟩
    have := stp_tr (stp_tr s1 s2) (stp_1 (step := fun v : Int32 × Int32 × Mm => f_X5_draw_L11 k0 k1 (nI op) (nI td) v.1 v.2.1 v.2.2) (v := (nI (p + 1 + 1), nI (lo + exz a + exz b), M2)) e4)
    rw [show lo + exz (Lean.RArray.branch t a b) = lo + exz a + exz b + 1 by show lo + (exz a + exz b + 1) = _; omega]
    exact this
theorem dr_ok {M : Mm} {k0 k1 n op td : Nat} {w h tk : Nat → Nat} {e : Ex} (hn : n ≤ 12) (h1n : 1 ≤ n) (hk : k1 + 5 < k0) (hk1 : 3 < k1) (ho : op < 4096) (htd : td < 4096) (hw : ∀ b, b < n → 1 ≤ w b ∧ w b ≤ 200) (hh : ∀ b, b < n → 1 ≤ h b ∧ h b ≤ 200) (hR : RowE n tk e) (h5 : M.1 k1 5 = nI (2 * n - 1)) (ht : IA M (k1 + 1) (2 * n - 1) tk) (ew : IA M 2 n w) (eh : IA M 3 n h) :
    Wp (f_X5_draw k0 k1 (nI op) (nI td) M) (fun M' => ARl M' (k0 + 1) (k0 + 2) 0 (lc w h op td e) ∧ M'.1 k0 5 = nI (lc w h op td e).length ∧ Fr (SB k0 (k0 + 5)) M M') := by
  obtain ⟨hat, hz⟩ := hR.rat
  have hll : (Ex.lvs e).length = n := hR.2.2.2.2
  unfold f_X5_draw f_X5_draw_A11
  rw [pz_0, pz_lt1]
  have q1 : ∀ k, k ≠ k0 → (wi M k0 5 (nI 0)).1 k = M.1 k := fun k hk => wi_n _ _ _ hk
  obtain ⟨M', s, r⟩ := dr_seg (k0 := k0) (k1 := k1) (op := op) (td := td) (tk := tk) (L := 2 * n - 1) hn (by omega) hk hk1 ho htd hw hh e 0 0 0 (wi M k0 5 (nI 0)) ⟨hR.1, hR.2.2.1, hR.2.2.2.1, hat, by omega⟩ (by omega) (by omega) (by rw [q1 _ (by omega)]; exact h5) (ht.eq (q1 _ (by omega))) (ew.eq (q1 _ (by omega))) (eh.eq (q1 _ (by omega))) (by rw [wi_at, if_pos rfl])
  have h5' : M'.1 k1 5 = nI (2 * n - 1) := by rw [r.k _ (by omega), q1 _ (by omega)]; exact h5
  have lp : loop (fun v : Int32 × Int32 × Mm => f_X5_draw_L11 k0 k1 (nI op) (nI td) v.1 v.2.1 v.2.2) FU (nI 0, nI 0, wi M k0 5 (nI 0)) = some M' := by
    refine stp_end (w := (nI (0 + 1), nI (0 + exz e), M')) ?_ s (fu_lt (by omega))
    show f_X5_draw_L11 k0 k1 (nI op) (nI td) (nI (0 + 1)) (nI (0 + exz e)) M' = _
    unfold f_X5_draw_L11
    rw [h5', if_pos ((nI_leI (by omega) (by omega)).mpr (by omega))]
  rw [lp]
  refine wp_s ⟨r.a, by rw [r.s, Nat.zero_add], fun k hk => ?_, fun k hk => ?_⟩
  · rw [r.k k (by unfold SB at hk; omega), q1 k (fun e => hk (by unfold SB; omega))]
  · rw [r.l k (by unfold SB at hk; omega)]; rfl
