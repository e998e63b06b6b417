/-! the reference lays a row of cuts -/
def MRec (W H : Nat → Nat) (M : Mm) : Nat → Ex → Prop
  | lo, .leaf b => M.1 94 lo = nI b ∧ M.1 89 lo = nI (W b) ∧ M.1 90 lo = nI (H b)
  | lo, .branch t a b => MRec W H M lo a ∧ MRec W H M (lo + exz a) b ∧ M.1 94 (lo + exz a + exz b) = nI t ∧ M.1 87 (lo + exz a + exz b) = nI (lo + exz a - 1) ∧ M.1 88 (lo + exz a + exz b) = nI (lo + exz a + exz b - 1) ∧ M.1 89 (lo + exz a + exz b) = nI (exw W H (.branch t a b)) ∧ M.1 90 (lo + exz a + exz b) = nI (exh W H (.branch t a b))
theorem MRec.fr {W H : Nat → Nat} {M M' : Mm} : ∀ (e : Ex) (lo : Nat), MRec W H M lo e → (∀ k, k = 87 ∨ k = 88 ∨ k = 89 ∨ k = 90 ∨ k = 94 → ∀ j, lo ≤ j → j < lo + exz e → M'.1 k j = M.1 k j) → MRec W H M' lo e
  | .leaf b, lo, h, q => by
    obtain ⟨h1, h2, h3⟩ := h
    have z : lo < lo + exz (.leaf b) := by show lo < lo + 1; omega
    exact ⟨(q 94 (by omega) lo (by omega) z).trans h1, (q 89 (by omega) lo (by omega) z).trans h2, (q 90 (by omega) lo (by omega) z).trans h3⟩
  | .branch t a b, lo, h, q => by
    obtain ⟨h1, h2, h3, h4, h5, h6, h7⟩ := h
    have q : ∀ k, k = 87 ∨ k = 88 ∨ k = 89 ∨ k = 90 ∨ k = 94 → ∀ j, lo ≤ j → j < lo + (exz a + exz b + 1) → M'.1 k j = M.1 k j := q
    exact ⟨MRec.fr a lo h1 (fun k hk j j1 j2 => q k hk j j1 (by omega)), MRec.fr b _ h2 (fun k hk j j1 j2 => q k hk j (by omega) (by omega)), (q 94 (by omega) _ (by omega) (by omega)).trans h3, (q 87 (by omega) _ (by omega) (by omega)).trans h4, (q 88 (by omega) _ (by omega) (by omega)).trans h5, (q 89 (by omega) _ (by omega) (by omega)).trans h6, (q 90 (by omega) _ (by omega) (by omega)).trans h7⟩
theorem MRec.wh {W H : Nat → Nat} {M : Mm} : ∀ {e : Ex} {lo : Nat}, MRec W H M lo e → M.1 89 (lo + exz e - 1) = nI (exw W H e) ∧ M.1 90 (lo + exz e - 1) = nI (exh W H e)
  | .leaf b, lo, h => ⟨h.2.1, h.2.2⟩
  | .branch t a b, lo, h => by
    obtain ⟨h1, h2, h3, h4, h5, h6, h7⟩ := h
    rw [show lo + exz (Lean.RArray.branch t a b) - 1 = lo + exz a + exz b by show lo + (exz a + exz b + 1) - 1 = _; omega]
    exact ⟨h6, h7⟩
def SMp (k : Nat) : Prop := (87 ≤ k ∧ k ≤ 90) ∨ k = 93 ∨ k = 94
def MpP (W H : Nat → Nat) (e : Ex) (lo p : Nat) (M M' : Mm) : Prop :=
  (MRec W H M' lo e) ∧
  (M'.1 93 p = nI (lo + exz e - 1)) ∧
  (∀ j, j < p → M'.1 93 j = M.1 93 j) ∧
  (∀ k, k = 87 ∨ k = 88 ∨ k = 89 ∨ k = 90 ∨ k = 94 → ∀ j, j < lo → M'.1 k j = M.1 k j) ∧
  (Fr SMp M M')
theorem MpP.r {W H : Nat → Nat} {e : Ex} {lo p : Nat} {M M' : Mm} (hh_ : MpP W H e lo p M M') : MRec W H M' lo e := hh_.1
theorem MpP.t {W H : Nat → Nat} {e : Ex} {lo p : Nat} {M M' : Mm} (hh_ : MpP W H e lo p M M') : M'.1 93 p = nI (lo + exz e - 1) := hh_.2.1
theorem MpP.s {W H : Nat → Nat} {e : Ex} {lo p : Nat} {M M' : Mm} (hh_ : MpP W H e lo p M M') : ∀ j, j < p → M'.1 93 j = M.1 93 j := hh_.2.2.1
theorem MpP.o {W H : Nat → Nat} {e : Ex} {lo p : Nat} {M M' : Mm} (hh_ : MpP W H e lo p M M') : ∀ k, k = 87 ∨ k = 88 ∨ k = 89 ∨ k = 90 ∨ k = 94 → ∀ j, j < lo → M'.1 k j = M.1 k j := hh_.2.2.2.1
theorem MpP.f {W H : Nat → Nat} {e : Ex} {lo p : Nat} {M M' : Mm} (hh_ : MpP W H e lo p M M') : Fr SMp M M' := hh_.2.2.2.2
theorem rs_eq {M : Mm} {n : Nat} (h1 : M.1 69 1 = nI n) (h1n : 1 ≤ n) : f_X10_rowSize M = nI (2 * n - 1) := by
  unfold f_X10_rowSize
  rw [h1, pz_2, pz_mul, pz_1, pz_sub (by omega)]
theorem pz_n2 {p : Nat} (h : 2 ≤ p) : nI p + (-2 : Int32) = nI (p - 2) := by
  have e : nI p = nI (p - 2) + nI 2 := by rw [pz_add]; congr 1; omega
  have h2 : nI 2 + (-2 : Int32) = nI 0 := by decide
  rw [e, Int32.add_assoc, h2, pz_add]; rfl
theorem mp_seg {k1 n td : Nat} {w h tk : Nat → Nat} (hk1 : k1 = 78) (hn : n ≤ 12) (h1n : 1 ≤ n) (htd : td < 4096) (hw : ∀ b, b < n → 1 ≤ w b ∧ w b ≤ 200) (hh : ∀ b, b < n → 1 ≤ h b ∧ h b ≤ 200) : ∀ (e : Ex) (lo p : Nat) (M : Mm), ExG n tk (2 * n - 1) lo e → p + (Ex.lvs e).length ≤ 12 → M.1 69 1 = nI n → M.1 69 7 = nI td → IA M 70 n w → IA M 71 n h → IA M k1 (2 * n - 1) tk →
    ∃ M', stp (fun v : Int32 × Int32 × Mm => f_X10_makeParts_L4 k1 v.1 v.2.1 v.2.2) (exz e) (nI p, nI lo, M) (nI (p + 1), nI (lo + exz e), M') ∧ MpP (swd w h td) (swd h w td) e lo p M M'
  | .leaf b, lo, p, M, hG, hp, r1, r7, rw70, rw71, ht => by
    subst hk1
    have hb : b < n := hG.lt b (List.mem_singleton.mpr rfl)
    have hat : tk lo = b := hG.ax
    have hlen : lo + 1 ≤ 2 * n - 1 := hG.len
    have hp : p + 1 ≤ 12 := hp
    refine ⟨wi (wi (wi (wi M 94 lo (nI b)) 89 lo (nI (swd w h td b))) 90 lo (nI (swd h w td b))) 93 p (nI lo), stp_1 ?_, ?_⟩
    · show f_X10_makeParts_L4 78 (nI p) (nI lo) M = _
      unfold f_X10_makeParts_L4 f_X10_makeParts_J192
      have e1 : f_X10_wide (nI b) (wi M 94 lo (nI b)) = some (nI (swd w h td b)) := pz_rw (n := n) (td := td) r7 htd (rw70.eq rfl) (rw71.eq rfl) hb hn
      have e2 : f_X10_high (nI b) (wi (wi M 94 lo (nI b)) 89 lo (nI (swd w h td b))) = some (nI (swd h w td b)) := pz_rh (n := n) (td := td) r7 htd (rw70.eq rfl) (rw71.eq rfl) hb hn
      rw [rs_eq r1 h1n, if_neg (by rw [pz_le (by omega) (by omega)]; omega), pz_rd (by omega) (by omega), ht lo (by omega), hat, pz_wr (by omega) (by omega), pz_12, if_neg (by rw [pz_le (by omega) (by omega)]; omega), e1, pz_bd, pz_wr (by omega) (by omega), e2, pz_bd, pz_wr (by omega) (by omega), pz_wr (by omega) (by omega), pz_lt1, pz_lt1, pz_1, pz_add, pz_add]
      rfl
    · refine ⟨⟨?_, ?_, ?_⟩, ?_, fun j hj => ?_, fun k hk j hj => ?_, ?_⟩
      · show (wi (wi (wi (wi M 94 lo _) 89 lo _) 90 lo _) 93 p _).1 94 lo = _
        rw [wi_n _ _ _ (by omega), wi_n _ _ _ (by omega), wi_n _ _ _ (by omega), wi_at, if_pos rfl]
      · rw [wi_n _ _ _ (by omega), wi_n _ _ _ (by omega), wi_at, if_pos rfl]
      · rw [wi_n _ _ _ (by omega), wi_at, if_pos rfl]
      · rw [wi_at, if_pos rfl]; rfl
      · rw [wi_at, if_neg (by omega), wi_n _ _ _ (by omega), wi_n _ _ _ (by omega), wi_n _ _ _ (by omega)]
      · rw [wi_1, if_neg (by omega), wi_1, if_neg (by omega), wi_1, if_neg (by omega), wi_1, if_neg (by omega)]
      · exact (((Fr.rf.w (by unfold SMp; omega)).w (by unfold SMp; omega)).w (by unfold SMp; omega)).w (by unfold SMp; omega)
  | .branch t a b, lo, p, M, hG, hp, r1, r7, rw70, rw71, ht => by
    have la := lvs_pos a
    have lb := lvs_pos b
    have za := exz_pos a
    have zb := exz_pos b
    have hp : p + (Ex.lvs a ++ Ex.lvs b).length ≤ 12 := hp
    rw [List.length_append] at hp
    have hlen : lo + (exz a + exz b + 1) ≤ 2 * n - 1 := hG.len
    obtain ⟨M1, s1, p1⟩ := mp_seg hk1 hn h1n htd hw hh a lo p M hG.l (by omega) r1 r7 rw70 rw71 ht
    have q1 : ∀ k, ¬ SMp k → M1.1 k = M.1 k := fun k hk => p1.f.1 k hk
    obtain ⟨M2, s2, p2⟩ := mp_seg hk1 hn h1n htd hw hh b (lo + exz a) (p + 1) M1 hG.r (by omega) (by rw [q1 _ (by unfold SMp; omega)]; exact r1) (by rw [q1 _ (by unfold SMp; omega)]; exact r7) (rw70.eq (q1 _ (by unfold SMp; omega))) (rw71.eq (q1 _ (by unfold SMp; omega))) (ht.eq (q1 _ (by unfold SMp; omega)))
    have q2 : ∀ k, ¬ SMp k → M2.1 k = M.1 k := fun k hk => (p2.f.1 k hk).trans (q1 k hk)
    have ra := MRec.fr a lo p1.r (M' := M2) (fun k hk j j1 j2 => p2.o k hk j j2)
    have rb := p2.r
    have wha := ra.wh
    have whb := rb.wh
    have ta : M2.1 93 p = nI (lo + exz a - 1) := (p2.s p (by omega)).trans p1.t
    have tb : M2.1 93 (p + 1) = nI (lo + exz a + exz b - 1) := p2.t
    have bd : ∀ z : Ex, (∀ c ∈ Ex.lvs z, c < n) → (Ex.lvs z).length ≤ 12 → exw (swd w h td) (swd h w td) z ≤ 2400 ∧ exh (swd w h td) (swd h w td) z ≤ 2400 := fun z hz hl => by
      have h1 := exw_le (W := swd w h td) (H := swd h w td) z (fun c hc => swd_le hw hh (hz c hc))
      have h2 := exh_le (W := swd w h td) (H := swd h w td) z (fun c hc => swd_le hh hw (hz c hc))
      omega
    have ba := bd a hG.l.lt (by omega)
    have bb := bd b hG.r.lt (by omega)
    generalize hhi : lo + exz a + exz b = hi at *
    refine ⟨wi (wi (wi (wi (wi (wi M2 94 hi (nI t)) 87 hi (nI (lo + exz a - 1))) 88 hi (nI (hi - 1))) 89 hi (nI (exw (swd w h td) (swd h w td) (.branch t a b)))) 90 hi (nI (exh (swd w h td) (swd h w td) (.branch t a b)))) 93 p (nI hi), ?_, ?_⟩
    · have s12 := stp_tr s1 s2
      have s3 : stp (fun v : Int32 × Int32 × Mm => f_X10_makeParts_L4 k1 v.1 v.2.1 v.2.2) 1 (nI (p + 1 + 1), nI hi, M2) (nI (p + 1), nI (hi + 1), wi (wi (wi (wi (wi (wi M2 94 hi (nI t)) 87 hi (nI (lo + exz a - 1))) 88 hi (nI (hi - 1))) 89 hi (nI (exw (swd w h td) (swd h w td) (.branch t a b)))) 90 hi (nI (exh (swd w h td) (swd h w td) (.branch t a b)))) 93 p (nI hi)) := by
        refine stp_1 ?_
        show f_X10_makeParts_L4 k1 (nI (p + 1 + 1)) (nI hi) M2 = _
        unfold f_X10_makeParts_L4 f_X10_makeParts_J143 f_X10_makeParts_J191 f_X10_makeParts_J192
        have hat : tk hi = t := by rw [← hhi]; exact hG.ax.2.2
        have htt := hG.ok.1
        have r1' : M2.1 69 1 = nI n := by rw [q2 _ (by unfold SMp; omega)]; exact r1
        have k1t : M2.1 k1 hi = nI t := by rw [q2 k1 (by unfold SMp; omega), ht hi (by omega), hat]
        rw [rs_eq r1' h1n, if_neg (by rw [pz_le (by omega) (by omega)]; omega), pz_rd (by omega) (by omega), k1t, pz_wr (by omega) (by omega), pz_12, if_pos (by rw [pz_le (by omega) (by omega)]; omega), pz_lt1, pz_n2 (by omega), show p + 1 + 1 - 2 = p by omega, pz_1, pz_add, pz_rd (by omega) (by omega), wi_n _ _ _ (by omega), ta, pz_rd (by omega) (by omega), wi_n _ _ _ (by omega), tb, pz_wr (by omega) (by omega), pz_wr (by omega) (by omega)]
        have a89 : ∀ v1 v2 v3, (wi (wi (wi M2 94 hi v1) 87 hi v2) 88 hi v3).1 89 = M2.1 89 := fun _ _ _ => rfl
        have a90 : ∀ v1 v2 v3 v4, (wi (wi (wi (wi M2 94 hi v1) 87 hi v2) 88 hi v3) 89 hi v4).1 90 = M2.1 90 := fun _ _ _ _ => rfl
        have wb1 : M2.1 89 (hi - 1) = nI (exw (swd w h td) (swd h w td) b) := whb.1
        have wb2 : M2.1 90 (hi - 1) = nI (exh (swd w h td) (swd h w td) b) := whb.2
        rcases htt with rfl | rfl
        · rw [if_pos rfl, pz_rd (by omega) (by omega), a89, wha.1, pz_rd (by omega) (by omega), a89, wb1, pz_add, pz_wr (by omega) (by omega), if_pos rfl, pz_rd (by omega) (by omega), a90, wha.2, pz_rd (by omega) (by omega), a90, wb2, pz_max (by omega) (by omega), pz_wr (by omega) (by omega), pz_wr (by omega) (by omega), pz_lt1, pz_lt1, pz_add]
          rfl
        · rw [if_neg (by decide), pz_rd (by omega) (by omega), a89, wha.1, pz_rd (by omega) (by omega), a89, wb1, pz_max (by omega) (by omega), pz_wr (by omega) (by omega), if_neg (by decide), pz_rd (by omega) (by omega), a90, wha.2, pz_rd (by omega) (by omega), a90, wb2, pz_add, pz_wr (by omega) (by omega), pz_wr (by omega) (by omega), pz_lt1, pz_lt1, pz_add]
          rfl
      have := stp_tr s12 s3
      rw [show lo + exz (Lean.RArray.branch t a b) = hi + 1 by show lo + (exz a + exz b + 1) = _; omega]
      exact this
    · have un : ∀ k, k = 87 ∨ k = 88 ∨ k = 89 ∨ k = 90 ∨ k = 94 → ∀ j, j ≠ hi → (wi (wi (wi (wi (wi (wi M2 94 hi (nI t)) 87 hi (nI (lo + exz a - 1))) 88 hi (nI (hi - 1))) 89 hi (nI (exw (swd w h td) (swd h w td) (.branch t a b)))) 90 hi (nI (exh (swd w h td) (swd h w td) (.branch t a b)))) 93 p (nI hi)).1 k j = M2.1 k j := fun k hk j hj => by
        rw [wi_1, if_neg (by omega), wi_1, if_neg (by omega), wi_1, if_neg (by omega), wi_1, if_neg (by omega), wi_1, if_neg (by omega), wi_1, if_neg (by omega)]
      refine ⟨⟨MRec.fr a lo ra (fun k hk j j1 j2 => un k hk j (by omega)), MRec.fr b _ rb (fun k hk j j1 j2 => un k hk j (by omega)), ?_, ?_, ?_, ?_, ?_⟩, ?_, fun j hj => ?_, fun k hk j hj => ?_, ?_⟩
      · rw [hhi, wi_1, if_neg (by omega), wi_1, if_neg (by omega), wi_1, if_neg (by omega), wi_1, if_neg (by omega), wi_1, if_neg (by omega), wi_at, if_pos rfl]
      · rw [hhi, wi_1, if_neg (by omega), wi_1, if_neg (by omega), wi_1, if_neg (by omega), wi_1, if_neg (by omega), wi_at, if_pos rfl]
      · rw [hhi, wi_1, if_neg (by omega), wi_1, if_neg (by omega), wi_1, if_neg (by omega), wi_at, if_pos rfl]
      · rw [hhi, wi_1, if_neg (by omega), wi_1, if_neg (by omega), wi_at, if_pos rfl]
      · rw [hhi, wi_1, if_neg (by omega), wi_at, if_pos rfl]
      · rw [wi_at, if_pos rfl]
        congr 1
        show hi = lo + (exz a + exz b + 1) - 1
        omega
      · rw [wi_at, if_neg (by omega), wi_n _ _ _ (by omega), wi_n _ _ _ (by omega), wi_n _ _ _ (by omega), wi_n _ _ _ (by omega), wi_n _ _ _ (by omega), p2.s j (by omega), p1.s j hj]
      · rw [un k hk j (by omega), p2.o k hk j (by omega), p1.o k hk j hj]
      · exact ((((((p1.f.tr p2.f).w (by unfold SMp; omega)).w (by unfold SMp; omega)).w (by unfold SMp; omega)).w (by unfold SMp; omega)).w (by unfold SMp; omega)).w (by unfold SMp; omega)
theorem mp_ok {M : Mm} {n td : Nat} {w h tk : Nat → Nat} {e : Ex} (hn : n ≤ 12) (h1n : 1 ≤ n) (htd : td < 4096) (hw : ∀ b, b < n → 1 ≤ w b ∧ w b ≤ 200) (hh : ∀ b, b < n → 1 ≤ h b ∧ h b ≤ 200) (hR : RowE n tk e) (r1 : M.1 69 1 = nI n) (r7 : M.1 69 7 = nI td) (r70 : IA M 70 n w) (r71 : IA M 71 n h) (ht : IA M 78 (2 * n - 1) tk) :
    Wp (f_X10_makeParts 78 M) (fun M' => MRec (swd w h td) (swd h w td) M' 0 e ∧ Fr SMp M M') := by
  obtain ⟨hat, hz⟩ := hR.rat
  have hll : (Ex.lvs e).length = n := hR.2.2.2.2
  obtain ⟨M', s, r⟩ := mp_seg (k1 := 78) rfl hn h1n htd hw hh e 0 0 M ⟨hR.1, hR.2.2.1, hR.2.2.2.1, hat, by omega⟩ (by omega) r1 r7 r70 r71 ht
  have r1' : M'.1 69 1 = nI n := by rw [r.f.1 69 (by unfold SMp; omega)]; exact r1
  have lp : loop (fun v : Int32 × Int32 × Mm => f_X10_makeParts_L4 78 v.1 v.2.1 v.2.2) FU (nI 0, nI 0, M) = some M' := by
    refine stp_end (w := (nI (0 + 1), nI (0 + exz e), M')) ?_ s (fu_lt (by omega))
    show f_X10_makeParts_L4 78 (nI (0 + 1)) (nI (0 + exz e)) M' = _
    unfold f_X10_makeParts_L4
    rw [rs_eq r1' h1n, if_pos ((nI_leI (by omega) (by omega)).mpr (by omega))]
  unfold f_X10_makeParts f_X10_makeParts_A4
  rw [pz_0, lp]
  exact wp_s ⟨r.r, r.f⟩
/-! downward -/
def SDn (k : Nat) : Prop := k = 74 ∨ k = 75 ∨ k = 91 ∨ k = 92
def DnP (W H : Nat → Nat) (e : Ex) (lo X Y : Nat) (M M' : Mm) : Prop :=
  (∀ c ∈ Ex.lvs e, M'.1 74 c = nI (X + exx W H c e)) ∧
  (∀ c ∈ Ex.lvs e, M'.1 75 c = nI (Y + exy W H c e)) ∧
  (∀ c, ¬ c ∈ Ex.lvs e → M'.1 74 c = M.1 74 c) ∧
  (∀ c, ¬ c ∈ Ex.lvs e → M'.1 75 c = M.1 75 c) ∧
  (∀ j, j < lo → M'.1 91 j = M.1 91 j ∧ M'.1 92 j = M.1 92 j) ∧
  (Fr SDn M M')
theorem DnP.x {W H : Nat → Nat} {e : Ex} {lo X Y : Nat} {M M' : Mm} (hh_ : DnP W H e lo X Y M M') : ∀ c ∈ Ex.lvs e, M'.1 74 c = nI (X + exx W H c e) := hh_.1
theorem DnP.y {W H : Nat → Nat} {e : Ex} {lo X Y : Nat} {M M' : Mm} (hh_ : DnP W H e lo X Y M M') : ∀ c ∈ Ex.lvs e, M'.1 75 c = nI (Y + exy W H c e) := hh_.2.1
theorem DnP.x' {W H : Nat → Nat} {e : Ex} {lo X Y : Nat} {M M' : Mm} (hh_ : DnP W H e lo X Y M M') : ∀ c, ¬ c ∈ Ex.lvs e → M'.1 74 c = M.1 74 c := hh_.2.2.1
theorem DnP.y' {W H : Nat → Nat} {e : Ex} {lo X Y : Nat} {M M' : Mm} (hh_ : DnP W H e lo X Y M M') : ∀ c, ¬ c ∈ Ex.lvs e → M'.1 75 c = M.1 75 c := hh_.2.2.2.1
theorem DnP.o {W H : Nat → Nat} {e : Ex} {lo X Y : Nat} {M M' : Mm} (hh_ : DnP W H e lo X Y M M') : ∀ j, j < lo → M'.1 91 j = M.1 91 j ∧ M'.1 92 j = M.1 92 j := hh_.2.2.2.2.1
theorem DnP.f {W H : Nat → Nat} {e : Ex} {lo X Y : Nat} {M M' : Mm} (hh_ : DnP W H e lo X Y M M') : Fr SDn M M' := hh_.2.2.2.2.2
theorem dn_seg {n L : Nat} {W H tk : Nat → Nat} (hn : n ≤ 12) (hL : L ≤ 23) : ∀ (e : Ex) (lo X Y : Nat) (M : Mm), ExG n tk L lo e → MRec W H M lo e → M.1 91 (lo + exz e - 1) = nI X → M.1 92 (lo + exz e - 1) = nI Y →
    ∃ M', stp (fun v : Int32 × Mm => f_X10_layCuts_L31 v.1 v.2) (exz e) (nI (lo + exz e - 1), M) (nI lo + m1, M') ∧ DnP W H e lo X Y M M'
  | .leaf b, lo, X, Y, M, hG, hr, hX, hY => by
    have hb : b < n := hG.lt b (List.mem_singleton.mpr rfl)
    have hlen : lo + 1 ≤ L := hG.len
    obtain ⟨h1, h2, h3⟩ := hr
    have hX : M.1 91 lo = nI X := hX
    have hY : M.1 92 lo = nI Y := hY
    refine ⟨wi (wi M 74 b (nI X)) 75 b (nI Y), stp_1 ?_, ?_⟩
    · show f_X10_layCuts_L31 (nI lo) M = _
      unfold f_X10_layCuts_L31 f_X10_layCuts_J179
      have e92 : (wi M 74 b (nI X)).1 92 lo = nI Y := hY
      rw [pz_0, if_neg (by rw [pz_lt (by omega) (by omega)]; omega), pz_rd (by omega) (by omega), h1, pz_12, if_neg (by rw [pz_le (by omega) (by omega)]; omega), pz_rd (by omega) (by omega), hX, pz_wr (by omega) (by omega), pz_rd (by omega) (by omega), e92, pz_wr (by omega) (by omega), pz_lt1, pz_n1]
    · have mem : ∀ c, c ∈ Ex.lvs (.leaf b) ↔ c = b := fun c => List.mem_singleton
      refine ⟨fun c hc => ?_, fun c hc => ?_, fun c hc => ?_, fun c hc => ?_, fun j hj => ⟨rfl, rfl⟩, (Fr.rf.w (by unfold SDn; omega)).w (by unfold SDn; omega)⟩
      · rw [wi_n _ _ _ (by omega), wi_at, if_pos ((mem c).mp hc)]; rfl
      · rw [wi_at, if_pos ((mem c).mp hc)]; rfl
      · rw [wi_n _ _ _ (by omega), wi_at, if_neg (fun q => hc ((mem c).mpr q))]
      · rw [wi_at, if_neg (fun q => hc ((mem c).mpr q)), wi_n _ _ _ (by omega)]
  | .branch t a b, lo, X, Y, M, hG, hr, hX, hY => by
    have za := exz_pos a
    have zb := exz_pos b
    have hlen : lo + (exz a + exz b + 1) ≤ L := hG.len
    obtain ⟨ra, rb, h3, h4, h5, h6, h7⟩ := hr
    have wha := ra.wh
    generalize hhi : lo + exz a + exz b = hi at *
    have e0 : lo + exz (Lean.RArray.branch t a b) - 1 = hi := by show lo + (exz a + exz b + 1) - 1 = _; omega
    rw [e0] at hX hY ⊢
    have hib : hi - 1 = lo + exz a + exz b - 1 := by omega
    -- the step at the joint
    generalize hM1 : wi (wi (wi (wi M 91 (lo + exz a - 1) (nI X)) 92 (lo + exz a - 1) (nI Y)) 91 (hi - 1) (nI (X + (if t = 12 then exw W H a else 0)))) 92 (hi - 1) (nI (Y + (if t = 12 then 0 else exh W H a))) = M1
    have q1 : ∀ k, k ≠ 91 → k ≠ 92 → M1.1 k = M.1 k := fun k k1 k2 => by subst hM1; rw [wi_n _ _ _ k2, wi_n _ _ _ k1, wi_n _ _ _ k2, wi_n _ _ _ k1]
    have st1 : stp (fun v : Int32 × Mm => f_X10_layCuts_L31 v.1 v.2) 1 (nI hi, M) (nI (lo + exz a + exz b - 1), M1) := by
      refine stp_1 ?_
      show f_X10_layCuts_L31 (nI hi) M = _
      unfold f_X10_layCuts_L31 f_X10_layCuts_J146 f_X10_layCuts_J177 f_X10_layCuts_J179
      have htt := hG.ok.1
      have d1 : (wi M 91 (lo + exz a - 1) (nI X)).1 92 hi = nI Y := by rw [wi_n _ _ _ (by omega)]; exact hY
      have d2 : (wi (wi M 91 (lo + exz a - 1) (nI X)) 92 (lo + exz a - 1) (nI Y)).1 91 hi = nI X := by rw [wi_n _ _ _ (by omega), wi_at, if_neg (by omega)]; exact hX
      have d3 : (wi (wi M 91 (lo + exz a - 1) (nI X)) 92 (lo + exz a - 1) (nI Y)).1 89 (lo + exz a - 1) = nI (exw W H a) := wha.1
      have d4 : ∀ v, (wi (wi (wi M 91 (lo + exz a - 1) (nI X)) 92 (lo + exz a - 1) (nI Y)) 91 (hi - 1) v).1 92 hi = nI Y := fun v => by rw [wi_n _ _ _ (by omega), wi_at, if_neg (by omega), wi_n _ _ _ (by omega)]; exact hY
      have d5 : ∀ v, (wi (wi (wi M 91 (lo + exz a - 1) (nI X)) 92 (lo + exz a - 1) (nI Y)) 91 (hi - 1) v).1 90 (lo + exz a - 1) = nI (exh W H a) := fun v => wha.2
      rw [pz_0, if_neg (by rw [pz_lt (by omega) (by omega)]; omega), pz_rd (by omega) (by omega), h3, pz_12, if_pos (by rw [pz_le (by omega) (by omega)]; omega), pz_rd (by omega) (by omega), h4, pz_rd (by omega) (by omega), h5, pz_rd (by omega) (by omega), hX, pz_wr (by omega) (by omega), pz_rd (by omega) (by omega), d1, pz_wr (by omega) (by omega), pz_rd (by omega) (by omega), d2, pz_n1, pz_13]
      rcases htt with rfl | rfl
      · rw [if_pos rfl, pz_rd (by omega) (by omega), d3, pz_add, pz_wr (by omega) (by omega), pz_rd (by omega) (by omega), d4, if_neg (by decide), pz_add, pz_wr (by omega) (by omega), pz_lt1, pz_dec (by omega), ← hM1, ← hib]
        rfl
      · rw [if_neg (by decide), pz_add, pz_wr (by omega) (by omega), pz_rd (by omega) (by omega), d4, if_pos rfl, pz_rd (by omega) (by omega), d5, pz_add, pz_wr (by omega) (by omega), pz_lt1, pz_dec (by omega), ← hM1, ← hib]
        rfl
    have xb : M1.1 91 (lo + exz a + exz b - 1) = nI (X + (if t = 12 then exw W H a else 0)) := by subst hM1; rw [← hib, wi_n _ _ _ (by omega), wi_at, if_pos rfl]
    have yb : M1.1 92 (lo + exz a + exz b - 1) = nI (Y + (if t = 12 then 0 else exh W H a)) := by subst hM1; rw [← hib, wi_at, if_pos rfl]
    have xa : M1.1 91 (lo + exz a - 1) = nI X := by subst hM1; rw [wi_n _ _ _ (by omega), wi_at, if_neg (by omega), wi_n _ _ _ (by omega), wi_at, if_pos rfl]
    have ya : M1.1 92 (lo + exz a - 1) = nI Y := by subst hM1; rw [wi_at, if_neg (by omega), wi_n _ _ _ (by omega), wi_at, if_pos rfl]
    obtain ⟨M2, s2, p2⟩ := dn_seg hn hL b (lo + exz a) _ _ M1 hG.r (MRec.fr b _ rb (fun k hk j _ _ => by rw [q1 k (by omega) (by omega)])) xb yb
    have q2 : ∀ k, ¬ SDn k → M2.1 k = M.1 k := fun k hk => (p2.f.1 k hk).trans (q1 k (fun e => hk (by unfold SDn; omega)) (fun e => hk (by unfold SDn; omega)))
    obtain ⟨M3, s3, p3⟩ := dn_seg hn hL a lo X Y M2 hG.l (MRec.fr a _ ra (fun k hk j _ _ => by rw [q2 k (by unfold SDn; omega)])) ((p2.o _ (by omega)).1.trans xa) ((p2.o _ (by omega)).2.trans ya)
    refine ⟨M3, ?_, fun c hc => ?_, fun c hc => ?_, fun c hc => ?_, fun c hc => ?_, fun j hj => ?_, ?_⟩
    · have e1 : nI (lo + exz a) + m1 = nI (lo + exz a - 1) := pz_dec (by omega)
      rw [e1] at s2
      have := stp_tr (stp_tr st1 s2) s3
      rw [show exz (Lean.RArray.branch t a b) = 1 + exz b + exz a by show exz a + exz b + 1 = _; omega]
      exact this
    · show M3.1 74 c = nI (X + if c ∈ Ex.lvs a then exx W H c a else exx W H c b + (if t = 12 then exw W H a else 0))
      by_cases z : c ∈ Ex.lvs a
      · rw [if_pos z]; exact p3.x c z
      · have hcb : c ∈ Ex.lvs b := by
          rcases List.mem_append.mp hc with h | h
          · exact absurd h z
          · exact h
        rw [if_neg z, p3.x' c z, p2.x c hcb]
        congr 1; omega
    · show M3.1 75 c = nI (Y + if c ∈ Ex.lvs a then exy W H c a else exy W H c b + (if t = 12 then 0 else exh W H a))
      by_cases z : c ∈ Ex.lvs a
      · rw [if_pos z]; exact p3.y c z
      · have hcb : c ∈ Ex.lvs b := by
          rcases List.mem_append.mp hc with h | h
          · exact absurd h z
          · exact h
        rw [if_neg z, p3.y' c z, p2.y c hcb]
        congr 1; omega
    · have na : ¬ c ∈ Ex.lvs a := fun z => hc (List.mem_append.mpr (Or.inl z))
      have nb : ¬ c ∈ Ex.lvs b := fun z => hc (List.mem_append.mpr (Or.inr z))
      rw [p3.x' c na, p2.x' c nb, q1 74 (by omega) (by omega)]
    · have na : ¬ c ∈ Ex.lvs a := fun z => hc (List.mem_append.mpr (Or.inl z))
      have nb : ¬ c ∈ Ex.lvs b := fun z => hc (List.mem_append.mpr (Or.inr z))
      rw [p3.y' c na, p2.y' c nb, q1 75 (by omega) (by omega)]
    · have o3 := p3.o j hj
      have o2 := p2.o j (by omega)
      rw [o3.1, o3.2, o2.1, o2.2]
      subst hM1
      constructor
      · rw [wi_n _ _ _ (by omega), wi_at, if_neg (by omega), wi_n _ _ _ (by omega), wi_at, if_neg (by omega)]
      · rw [wi_at, if_neg (by omega), wi_n _ _ _ (by omega), wi_at, if_neg (by omega), wi_n _ _ _ (by omega)]
    · have f1 : Fr SDn M M1 := by
        subst hM1
        exact (((Fr.rf.w (by unfold SDn; omega)).w (by unfold SDn; omega)).w (by unfold SDn; omega)).w (by unfold SDn; omega)
      exact (f1.tr p2.f).tr p3.f
