/-! the class lays a row of cuts -/
theorem shift_ok {M : Mm} {k m far : Nat} (hm : m < 4096) : Wp (f_X6_shift k (nI m) (nI far) M) (fun M' => (∀ c, M'.1 k c = if c < 12 ∧ m.testBit c = true then M.1 k c + nI far else M.1 k c) ∧ Fr (SB k k) M M') := by
  unfold f_X6_shift f_X6_shift_A2
  rw [pz_0]
  refine wp_b (wp_for (step := fun v => f_X6_shift_L2 k (nI m) (nI far) v.1 v.2) (fun i M' => (∀ c, M'.1 k c = if c < i ∧ m.testBit c = true then M.1 k c + nI far else M.1 k c) ∧ Fr (SB k k) M M') 12 (by omega) ?_ ?_ ⟨fun c => by rw [if_neg (fun q => by omega)], Fr.rf⟩) (fun M' h => wp_s h)
  · rintro i M1 hi ⟨a1, a2⟩
    show Wp (f_X6_shift_L2 k (nI m) (nI far) (nI i) M1) _
    unfold f_X6_shift_L2 f_X6_shift_J24
    rw [pz_12, if_neg (by rw [pz_le (by omega) (by omega)]; omega), pz_bit (by omega) (by omega), pz_1, pz_lt1, pz_add]
    have hai := a1 i
    rw [if_neg (fun q => by omega)] at hai
    by_cases q : m.testBit i = true
    · rw [if_pos (by rw [q]; rfl), pz_rd (by omega) (by omega), pz_wr (by omega) (by omega), hai, pz_lt1]
      refine wp_s ⟨_, rfl, fun c => ?_, a2.w ⟨by omega, by omega⟩⟩
      rw [wi_at]
      by_cases e : c = i
      · rw [if_pos e, e, if_pos ⟨by omega, q⟩]
      · rw [if_neg e, a1 c]
        by_cases z : c < i ∧ m.testBit c = true
        · rw [if_pos z, if_pos ⟨by omega, z.2⟩]
        · rw [if_neg z, if_neg (fun y => z ⟨by omega, y.2⟩)]
    · rw [if_neg (by rw [pz_b1]; exact q)]
      refine wp_s ⟨_, rfl, fun c => ?_, a2⟩
      rw [a1 c]
      by_cases z : c < i ∧ m.testBit c = true
      · rw [if_pos z, if_pos ⟨by omega, z.2⟩]
      · rw [if_neg z, if_neg (fun y => by
          by_cases e : c = i
          · rw [e] at y; exact q y.2
          · exact z ⟨by omega, y.2⟩)]
  · rintro M1 _
    show f_X6_shift_L2 k (nI m) (nI far) (nI 12) M1 = _
    unfold f_X6_shift_L2
    rw [pz_12, if_pos ((nI_leI (by omega) (by omega)).mpr (Nat.le_refl _))]
/-- the cells that the laying of a row writes -/
def SRo (k0 k1 k : Nat) : Prop := k = k1 + 1 ∨ k = k1 + 2 ∨ k = k0 + 3 ∨ k = k0 + 4 ∨ k = k0 + 5
def RoP (k0 k1 : Nat) (W H : Nat → Nat) (e : Ex) (p : Nat) (M M' : Mm) : Prop :=
  (M'.1 (k0 + 3) p = nI (exm e)) ∧
  (M'.1 (k0 + 4) p = nI (exw W H e)) ∧
  (M'.1 (k0 + 5) p = nI (exh W H e)) ∧
  (∀ c ∈ Ex.lvs e, M'.1 (k1 + 1) c = nI (exx W H c e)) ∧
  (∀ c ∈ Ex.lvs e, M'.1 (k1 + 2) c = nI (exy W H c e)) ∧
  (∀ c, ¬ c ∈ Ex.lvs e → M'.1 (k1 + 1) c = M.1 (k1 + 1) c) ∧
  (∀ c, ¬ c ∈ Ex.lvs e → M'.1 (k1 + 2) c = M.1 (k1 + 2) c) ∧
  (∀ j, j < p → M'.1 (k0 + 3) j = M.1 (k0 + 3) j ∧ M'.1 (k0 + 4) j = M.1 (k0 + 4) j ∧ M'.1 (k0 + 5) j = M.1 (k0 + 5) j) ∧
  (Fr (SRo k0 k1) M M')
theorem RoP.m {k0 k1 : Nat} {W H : Nat → Nat} {e : Ex} {p : Nat} {M M' : Mm} (hh_ : RoP k0 k1 W H e p M M') : M'.1 (k0 + 3) p = nI (exm e) := hh_.1
theorem RoP.w {k0 k1 : Nat} {W H : Nat → Nat} {e : Ex} {p : Nat} {M M' : Mm} (hh_ : RoP k0 k1 W H e p M M') : M'.1 (k0 + 4) p = nI (exw W H e) := hh_.2.1
theorem RoP.h {k0 k1 : Nat} {W H : Nat → Nat} {e : Ex} {p : Nat} {M M' : Mm} (hh_ : RoP k0 k1 W H e p M M') : M'.1 (k0 + 5) p = nI (exh W H e) := hh_.2.2.1
theorem RoP.x {k0 k1 : Nat} {W H : Nat → Nat} {e : Ex} {p : Nat} {M M' : Mm} (hh_ : RoP k0 k1 W H e p M M') : ∀ c ∈ Ex.lvs e, M'.1 (k1 + 1) c = nI (exx W H c e) := hh_.2.2.2.1
theorem RoP.y {k0 k1 : Nat} {W H : Nat → Nat} {e : Ex} {p : Nat} {M M' : Mm} (hh_ : RoP k0 k1 W H e p M M') : ∀ c ∈ Ex.lvs e, M'.1 (k1 + 2) c = nI (exy W H c e) := hh_.2.2.2.2.1
theorem RoP.x' {k0 k1 : Nat} {W H : Nat → Nat} {e : Ex} {p : Nat} {M M' : Mm} (hh_ : RoP k0 k1 W H e p M M') : ∀ c, ¬ c ∈ Ex.lvs e → M'.1 (k1 + 1) c = M.1 (k1 + 1) c := hh_.2.2.2.2.2.1
theorem RoP.y' {k0 k1 : Nat} {W H : Nat → Nat} {e : Ex} {p : Nat} {M M' : Mm} (hh_ : RoP k0 k1 W H e p M M') : ∀ c, ¬ c ∈ Ex.lvs e → M'.1 (k1 + 2) c = M.1 (k1 + 2) c := hh_.2.2.2.2.2.2.1
theorem RoP.s {k0 k1 : Nat} {W H : Nat → Nat} {e : Ex} {p : Nat} {M M' : Mm} (hh_ : RoP k0 k1 W H e p M M') : ∀ j, j < p → M'.1 (k0 + 3) j = M.1 (k0 + 3) j ∧ M'.1 (k0 + 4) j = M.1 (k0 + 4) j ∧ M'.1 (k0 + 5) j = M.1 (k0 + 5) j := hh_.2.2.2.2.2.2.2.1
theorem RoP.f {k0 k1 : Nat} {W H : Nat → Nat} {e : Ex} {p : Nat} {M M' : Mm} (hh_ : RoP k0 k1 W H e p M M') : Fr (SRo k0 k1) M M' := hh_.2.2.2.2.2.2.2.2
theorem join_ok {M0 M1 M2 : Mm} {k0 k1 p t : Nat} {W H : Nat → Nat} {a b : Ex} (hk : k1 + 5 < k0) (hp : p + 1 < 12) (ht : t = 12 ∨ t = 13) (hd : ∀ c ∈ Ex.lvs a, ¬ c ∈ Ex.lvs b) (h12 : ∀ c ∈ Ex.lvs b, c < 12) (wa : exw W H a ≤ 2400 ∧ exh W H a ≤ 2400) (wb : exw W H b ≤ 2400 ∧ exh W H b ≤ 2400) (h1 : RoP k0 k1 W H a p M0 M1) (h2 : RoP k0 k1 W H b (p + 1) M1 M2) :
    Wp (f_X6_join k0 k1 (nI t) (nI p) M2) (fun M' => RoP k0 k1 W H (.branch t a b) p M0 M') := by
  have sp := h2.s p (by omega)
  have m1 : M2.1 (k0 + 3) p = nI (exm a) := sp.1.trans h1.m
  have w1 : M2.1 (k0 + 4) p = nI (exw W H a) := sp.2.1.trans h1.w
  have hh1 : M2.1 (k0 + 5) p = nI (exh W H a) := sp.2.2.trans h1.h
  have lt := p12 (exm_lt h12) (Nat.le_refl 12)
  have ebit : ∀ c, (exm b).testBit c = true ↔ c ∈ Ex.lvs b := fun c => by rw [exm_bit]; exact decide_eq_true_iff
  have b12 : ∀ c, (c < 12 ∧ (exm b).testBit c = true) ↔ c ∈ Ex.lvs b := fun c => ⟨fun q => (ebit c).mp q.2, fun q => ⟨h12 c q, (ebit c).mpr q⟩⟩
  have ff := h1.f.tr h2.f
  unfold f_X6_join f_X6_join_J130
  rw [pz_1, pz_12, pz_lt1, pz_add]
  rcases ht with rfl | rfl
  · rw [if_pos rfl, pz_rd (by omega) (by omega), h2.m, pz_rd (by omega) (by omega), w1]
    refine wp_b (shift_ok (k := k1 + 1) lt) ?_
    rintro M3 ⟨a1, a2⟩
    have q : ∀ k, k ≠ k1 + 1 → M3.1 k = M2.1 k := fun k hk => a2.1 k (fun h => by unfold SB at h; omega)
    rw [pz_rd (by omega) (by omega), q _ (by omega), w1, pz_rd (by omega) (by omega), q _ (by omega), h2.w, pz_add, pz_wr (by omega) (by omega), pz_rd (by omega) (by omega), wi_n _ _ _ (by omega), q _ (by omega), hh1, pz_rd (by omega) (by omega), wi_n _ _ _ (by omega), q _ (by omega), h2.h, pz_max (by omega) (by omega), pz_wr (by omega) (by omega), pz_rd (by omega) (by omega), wi_n _ _ _ (by omega), wi_n _ _ _ (by omega), q _ (by omega), m1, pz_rd (by omega) (by omega), wi_n _ _ _ (by omega), wi_n _ _ _ (by omega), q _ (by omega), h2.m, pz_or, pz_wr (by omega) (by omega)]
    refine wp_s ⟨?_, ?_, ?_, fun c hc => ?_, fun c hc => ?_, fun c hc => ?_, fun c hc => ?_, fun j hj => ⟨?_, ?_, ?_⟩, ?_⟩
    · rw [wi_at, if_pos rfl]; rfl
    · rw [wi_n _ _ _ (by omega), wi_n _ _ _ (by omega), wi_at, if_pos rfl]; rfl
    · rw [wi_n _ _ _ (by omega), wi_at, if_pos rfl]; rfl
    · rw [wi_n _ _ _ (by omega), wi_n _ _ _ (by omega), wi_n _ _ _ (by omega), a1 c]
      show _ = nI (if c ∈ Ex.lvs a then exx W H c a else exx W H c b + exw W H a)
      by_cases z : c ∈ Ex.lvs a
      · rw [if_pos z, if_neg (fun y => hd c z ((b12 c).mp y)), h2.x' c (hd c z), h1.x c z]
      · have zb : c ∈ Ex.lvs b := by
          rcases List.mem_append.mp hc with h | h
          · exact absurd h z
          · exact h
        rw [if_neg z, if_pos ((b12 c).mpr zb), h2.x c zb, pz_add]
    · rw [wi_n _ _ _ (by omega), wi_n _ _ _ (by omega), wi_n _ _ _ (by omega), q _ (by omega)]
      show _ = nI (if c ∈ Ex.lvs a then exy W H c a else exy W H c b + 0)
      by_cases z : c ∈ Ex.lvs a
      · rw [if_pos z, h2.y' c (hd c z), h1.y c z]
      · have zb : c ∈ Ex.lvs b := by
          rcases List.mem_append.mp hc with h | h
          · exact absurd h z
          · exact h
        rw [if_neg z, h2.y c zb]; rfl
    · rw [wi_n _ _ _ (by omega), wi_n _ _ _ (by omega), wi_n _ _ _ (by omega), a1 c]
      have na : ¬ c ∈ Ex.lvs a := fun z => hc (List.mem_append.mpr (Or.inl z))
      have nb : ¬ c ∈ Ex.lvs b := fun z => hc (List.mem_append.mpr (Or.inr z))
      rw [if_neg (fun y => nb ((b12 c).mp y)), h2.x' c nb, h1.x' c na]
    · rw [wi_n _ _ _ (by omega), wi_n _ _ _ (by omega), wi_n _ _ _ (by omega), q _ (by omega)]
      have na : ¬ c ∈ Ex.lvs a := fun z => hc (List.mem_append.mpr (Or.inl z))
      have nb : ¬ c ∈ Ex.lvs b := fun z => hc (List.mem_append.mpr (Or.inr z))
      rw [h2.y' c nb, h1.y' c na]
    · rw [wi_at, if_neg (by omega), wi_n _ _ _ (by omega), wi_n _ _ _ (by omega), q _ (by omega), (h2.s j (by omega)).1, (h1.s j hj).1]
    · rw [wi_n _ _ _ (by omega), wi_n _ _ _ (by omega), wi_at, if_neg (by omega), q _ (by omega), (h2.s j (by omega)).2.1, (h1.s j hj).2.1]
    · rw [wi_n _ _ _ (by omega), wi_at, if_neg (by omega), wi_n _ _ _ (by omega), q _ (by omega), (h2.s j (by omega)).2.2, (h1.s j hj).2.2]
    · exact (((ff.tr (a2.mono (fun k h => Or.inl (by unfold SB at h; omega)))).w (by unfold SRo; omega)).w (by unfold SRo; omega)).w (by unfold SRo; omega)
  · rw [if_neg (by decide), pz_rd (by omega) (by omega), h2.m, pz_rd (by omega) (by omega), hh1]
    refine wp_b (shift_ok (k := k1 + 2) lt) ?_
    rintro M3 ⟨a1, a2⟩
    have q : ∀ k, k ≠ k1 + 2 → M3.1 k = M2.1 k := fun k hk => a2.1 k (fun h => by unfold SB at h; omega)
    rw [pz_rd (by omega) (by omega), q _ (by omega), hh1, pz_rd (by omega) (by omega), q _ (by omega), h2.h, pz_add, pz_wr (by omega) (by omega), pz_rd (by omega) (by omega), wi_n _ _ _ (by omega), q _ (by omega), w1, pz_rd (by omega) (by omega), wi_n _ _ _ (by omega), q _ (by omega), h2.w, pz_max (by omega) (by omega), pz_wr (by omega) (by omega), pz_rd (by omega) (by omega), wi_n _ _ _ (by omega), wi_n _ _ _ (by omega), q _ (by omega), m1, pz_rd (by omega) (by omega), wi_n _ _ _ (by omega), wi_n _ _ _ (by omega), q _ (by omega), h2.m, pz_or, pz_wr (by omega) (by omega)]
    refine wp_s ⟨?_, ?_, ?_, fun c hc => ?_, fun c hc => ?_, fun c hc => ?_, fun c hc => ?_, fun j hj => ⟨?_, ?_, ?_⟩, ?_⟩
    · rw [wi_at, if_pos rfl]; rfl
    · rw [wi_n _ _ _ (by omega), wi_at, if_pos rfl]; rfl
    · rw [wi_n _ _ _ (by omega), wi_n _ _ _ (by omega), wi_at, if_pos rfl]; rfl
    · rw [wi_n _ _ _ (by omega), wi_n _ _ _ (by omega), wi_n _ _ _ (by omega), q _ (by omega)]
      show _ = nI (if c ∈ Ex.lvs a then exx W H c a else exx W H c b + 0)
      by_cases z : c ∈ Ex.lvs a
      · rw [if_pos z, h2.x' c (hd c z), h1.x c z]
      · have zb : c ∈ Ex.lvs b := by
          rcases List.mem_append.mp hc with h | h
          · exact absurd h z
          · exact h
        rw [if_neg z, h2.x c zb]; rfl
    · rw [wi_n _ _ _ (by omega), wi_n _ _ _ (by omega), wi_n _ _ _ (by omega), a1 c]
      show _ = nI (if c ∈ Ex.lvs a then exy W H c a else exy W H c b + exh W H a)
      by_cases z : c ∈ Ex.lvs a
      · rw [if_pos z, if_neg (fun y => hd c z ((b12 c).mp y)), h2.y' c (hd c z), h1.y c z]
      · have zb : c ∈ Ex.lvs b := by
          rcases List.mem_append.mp hc with h | h
          · exact absurd h z
          · exact h
        rw [if_neg z, if_pos ((b12 c).mpr zb), h2.y c zb, pz_add]
    · rw [wi_n _ _ _ (by omega), wi_n _ _ _ (by omega), wi_n _ _ _ (by omega), q _ (by omega)]
      have na : ¬ c ∈ Ex.lvs a := fun z => hc (List.mem_append.mpr (Or.inl z))
      have nb : ¬ c ∈ Ex.lvs b := fun z => hc (List.mem_append.mpr (Or.inr z))
      rw [h2.x' c nb, h1.x' c na]
    · rw [wi_n _ _ _ (by omega), wi_n _ _ _ (by omega), wi_n _ _ _ (by omega), a1 c]
      have na : ¬ c ∈ Ex.lvs a := fun z => hc (List.mem_append.mpr (Or.inl z))
      have nb : ¬ c ∈ Ex.lvs b := fun z => hc (List.mem_append.mpr (Or.inr z))
      rw [if_neg (fun y => nb ((b12 c).mp y)), h2.y' c nb, h1.y' c na]
    · rw [wi_at, if_neg (by omega), wi_n _ _ _ (by omega), wi_n _ _ _ (by omega), q _ (by omega), (h2.s j (by omega)).1, (h1.s j hj).1]
    · rw [wi_n _ _ _ (by omega), wi_at, if_neg (by omega), wi_n _ _ _ (by omega), q _ (by omega), (h2.s j (by omega)).2.1, (h1.s j hj).2.1]
    · rw [wi_n _ _ _ (by omega), wi_n _ _ _ (by omega), wi_at, if_neg (by omega), q _ (by omega), (h2.s j (by omega)).2.2, (h1.s j hj).2.2]
    · exact (((ff.tr (a2.mono (fun k h => Or.inr (Or.inl (by unfold SB at h; omega))))).w (by unfold SRo; omega)).w (by unfold SRo; omega)).w (by unfold SRo; omega)
/-- what a stretch of a row keeps to -/
def ExG (n : Nat) (tk : Nat → Nat) (L lo : Nat) (e : Ex) : Prop :=
  (Ex.ok e) ∧
  ((Ex.lvs e).Nodup) ∧
  (∀ b ∈ Ex.lvs e, b < n) ∧
  (exA tk lo e) ∧
  (lo + exz e ≤ L)
theorem ExG.ok {n : Nat} {tk : Nat → Nat} {L lo : Nat} {e : Ex} (hh_ : ExG n tk L lo e) : Ex.ok e := hh_.1
theorem ExG.nd {n : Nat} {tk : Nat → Nat} {L lo : Nat} {e : Ex} (hh_ : ExG n tk L lo e) : (Ex.lvs e).Nodup := hh_.2.1
theorem ExG.lt {n : Nat} {tk : Nat → Nat} {L lo : Nat} {e : Ex} (hh_ : ExG n tk L lo e) : ∀ b ∈ Ex.lvs e, b < n := hh_.2.2.1
theorem ExG.ax {n : Nat} {tk : Nat → Nat} {L lo : Nat} {e : Ex} (hh_ : ExG n tk L lo e) : exA tk lo e := hh_.2.2.2.1
theorem ExG.len {n : Nat} {tk : Nat → Nat} {L lo : Nat} {e : Ex} (hh_ : ExG n tk L lo e) : lo + exz e ≤ L := hh_.2.2.2.2
theorem ExG.l {n : Nat} {tk : Nat → Nat} {L lo t : Nat} {a b : Ex} (h : ExG n tk L lo (.branch t a b)) : ExG n tk L lo a := by
  have h1 : (Ex.lvs a ++ Ex.lvs b).Nodup := h.nd
  have h2 : lo + (exz a + exz b + 1) ≤ L := h.len
  exact ⟨h.ok.2.1, (List.nodup_append.mp h1).1, fun c hc => h.lt c (List.mem_append.mpr (Or.inl hc)), h.ax.1, by omega⟩
theorem ExG.r {n : Nat} {tk : Nat → Nat} {L lo t : Nat} {a b : Ex} (h : ExG n tk L lo (.branch t a b)) : ExG n tk L (lo + exz a) b := by
  have h1 : (Ex.lvs a ++ Ex.lvs b).Nodup := h.nd
  have h2 : lo + (exz a + exz b + 1) ≤ L := h.len
  exact ⟨h.ok.2.2, (List.nodup_append.mp h1).2.1, fun c hc => h.lt c (List.mem_append.mpr (Or.inr hc)), h.ax.2.1, by omega⟩
theorem ExG.d {n : Nat} {tk : Nat → Nat} {L lo t : Nat} {a b : Ex} (h : ExG n tk L lo (.branch t a b)) : ∀ c ∈ Ex.lvs a, ¬ c ∈ Ex.lvs b := by
  have h1 : (Ex.lvs a ++ Ex.lvs b).Nodup := h.nd
  exact fun c h2 h3 => (List.nodup_append.mp h1).2.2 c h2 c h3 rfl
theorem lvs_pos (e : Ex) : 1 ≤ (Ex.lvs e).length := by
  have := exz_lvs e
  have := exz_pos e
  omega
theorem clay_seg {k0 k1 n L : Nat} {W H tk : Nat → Nat} (hn : n ≤ 12) (hL : L ≤ 23) (hk : k1 + 5 < k0) (hW : ∀ b, b < n → 1 ≤ W b ∧ W b ≤ 200) (hH : ∀ b, b < n → 1 ≤ H b ∧ H b ≤ 200) : ∀ (e : Ex) (lo p : Nat) (M : Mm), ExG n tk L lo e → p + (Ex.lvs e).length ≤ 12 → M.1 k0 5 = nI L → IA M (k0 + 1) L tk → IA M (k1 + 3) n W → IA M (k1 + 4) n H →
    ∃ M', stp (fun v : Int32 × Int32 × Mm => f_X6_lay_L4 k0 k1 v.1 v.2.1 v.2.2) (exz e) (nI p, nI lo, M) (nI (p + 1), nI (lo + exz e), M') ∧ RoP k0 k1 W H e p M M'
  | .leaf b, lo, p, M, hG, hp, h5, ht, eW, eH => by
    have hb : b < n := hG.lt b (List.mem_singleton.mpr rfl)
    have hat : tk lo = b := hG.ax
    have hlen : lo + 1 ≤ L := hG.len
    have hp : p + 1 ≤ 12 := hp
    refine ⟨wi (wi (wi (wi (wi M (k1 + 1) b (nI 0)) (k1 + 2) b (nI 0)) (k0 + 3) p (nI (2 ^ b))) (k0 + 4) p (nI (W b))) (k0 + 5) p (nI (H b)), stp_1 ?_, ?_⟩
    · show f_X6_lay_L4 k0 k1 (nI p) (nI lo) M = _
      unfold f_X6_lay_L4 f_X6_lay_J103
      rw [h5, if_neg (by rw [pz_le (by omega) (by omega)]; omega), pz_rd (by omega) (by omega), ht lo (by omega), hat, pz_12, if_neg (by rw [pz_le (by omega) (by omega)]; omega), pz_0, pz_wr (by omega) (by omega), pz_wr (by omega) (by omega), pz_1, pz_shl (by omega), pz_wr (by omega) (by omega), pz_rd (by omega) (by omega), wi_n _ _ _ (by omega), wi_n _ _ _ (by omega), wi_n _ _ _ (by omega), eW b hb, pz_wr (by omega) (by omega), pz_rd (by omega) (by omega), wi_n _ _ _ (by omega), wi_n _ _ _ (by omega), wi_n _ _ _ (by omega), wi_n _ _ _ (by omega), eH b hb, pz_wr (by omega) (by omega), pz_lt1, pz_lt1, pz_add, pz_add]
      rfl
    · have mem : ∀ c, c ∈ Ex.lvs (.leaf b) ↔ c = b := fun c => List.mem_singleton
      refine ⟨?_, ?_, ?_, fun c hc => ?_, fun c hc => ?_, fun c hc => ?_, fun c hc => ?_, fun j hj => ⟨?_, ?_, ?_⟩, ?_⟩
      · rw [wi_n _ _ _ (by omega), wi_n _ _ _ (by omega), wi_at, if_pos rfl]; rfl
      · rw [wi_n _ _ _ (by omega), wi_at, if_pos rfl]; rfl
      · rw [wi_at, if_pos rfl]; rfl
      · rw [wi_n _ _ _ (by omega), wi_n _ _ _ (by omega), wi_n _ _ _ (by omega), wi_n _ _ _ (by omega), wi_at, if_pos ((mem c).mp hc)]; rfl
      · rw [wi_n _ _ _ (by omega), wi_n _ _ _ (by omega), wi_n _ _ _ (by omega), wi_at, if_pos ((mem c).mp hc)]; rfl
      · rw [wi_n _ _ _ (by omega), wi_n _ _ _ (by omega), wi_n _ _ _ (by omega), wi_n _ _ _ (by omega), wi_at, if_neg (fun q => hc ((mem c).mpr q))]
      · rw [wi_n _ _ _ (by omega), wi_n _ _ _ (by omega), wi_n _ _ _ (by omega), wi_at, if_neg (fun q => hc ((mem c).mpr q)), wi_n _ _ _ (by omega)]
      · rw [wi_n _ _ _ (by omega), wi_n _ _ _ (by omega), wi_at, if_neg (by omega), wi_n _ _ _ (by omega), wi_n _ _ _ (by omega)]
      · rw [wi_n _ _ _ (by omega), wi_at, if_neg (by omega), wi_n _ _ _ (by omega), wi_n _ _ _ (by omega), wi_n _ _ _ (by omega)]
      · rw [wi_at, if_neg (by omega), wi_n _ _ _ (by omega), wi_n _ _ _ (by omega), wi_n _ _ _ (by omega), wi_n _ _ _ (by omega)]
      · exact ((((Fr.rf.w (by unfold SRo; omega)).w (by unfold SRo; omega)).w (by unfold SRo; omega)).w (by unfold SRo; omega)).w (by unfold SRo; omega)
  | .branch t a b, lo, p, M, hG, hp, h5, ht, eW, eH => by
    have la := lvs_pos a
    have lb := lvs_pos b
    have hp : p + (Ex.lvs a ++ Ex.lvs b).length ≤ 12 := hp
    rw [List.length_append] at hp
    have hlen : lo + (exz a + exz b + 1) ≤ L := hG.len
    obtain ⟨M1, s1, r1⟩ := clay_seg hn hL hk hW hH a lo p M hG.l (by omega) h5 ht eW eH
    have q1 : ∀ k, ¬ SRo k0 k1 k → M1.1 k = M.1 k := fun k hk => r1.f.1 k hk
    obtain ⟨M2, s2, r2⟩ := clay_seg hn hL hk hW hH b (lo + exz a) (p + 1) M1 hG.r (by omega) (by rw [q1 _ (by unfold SRo; omega)]; exact h5) (ht.eq (q1 _ (by unfold SRo; omega))) (eW.eq (q1 _ (by unfold SRo; omega))) (eH.eq (q1 _ (by unfold SRo; omega)))
    have q2 : ∀ k, ¬ SRo k0 k1 k → M2.1 k = M.1 k := fun k hk => (r2.f.1 k hk).trans (q1 k hk)
    have bd : ∀ z : Ex, (∀ c ∈ Ex.lvs z, c < n) → (Ex.lvs z).length ≤ 12 → exw W H z ≤ 2400 ∧ exh W H z ≤ 2400 := fun z hz hl => by
      have h1 := exw_le (W := W) (H := H) z (fun c hc => hW c (hz c hc))
      have h2 := exh_le (W := W) (H := H) z (fun c hc => hH c (hz c hc))
      omega
    obtain ⟨M3, e3, r3⟩ := join_ok (t := t) hk (by omega) hG.ok.1 hG.d (fun c hc => by have := hG.r.lt c hc; omega) (bd a hG.l.lt (by omega)) (bd b hG.r.lt (by omega)) r1 r2
    refine ⟨M3, ?_, r3⟩
    have s12 := stp_tr s1 s2
    have s3 : stp (fun v : Int32 × Int32 × Mm => f_X6_lay_L4 k0 k1 v.1 v.2.1 v.2.2) 1 (nI (p + 1 + 1), nI (lo + exz a + exz b), M2) (nI (p + 1), nI (lo + exz a + exz b + 1), M3) := by
      refine stp_1 ?_
      show f_X6_lay_L4 k0 k1 (nI (p + 1 + 1)) (nI (lo + exz a + exz b)) M2 = _
      unfold f_X6_lay_L4 f_X6_lay_J103
      have hat : tk (lo + exz a + exz b) = t := hG.ax.2.2
      have htt := hG.ok.1
      rw [q2 k0 (by unfold SRo; omega), h5, if_neg (by rw [pz_le (by omega) (by omega)]; omega), pz_rd (by omega) (by omega), q2 (k0 + 1) (by unfold SRo; omega), ht _ (by omega), hat, pz_12, if_pos (by rw [pz_le (by omega) (by omega)]; omega), pz_n1, pz_1, if_neg (by rw [pz_le (by omega) (by omega)]; omega), pz_lt1, pz_dec (by omega), show p + 1 + 1 - 1 = p + 1 by omega, pz_sub (by omega), show p + 1 - 1 = p by omega, e3, pz_bd, pz_lt1, pz_add]
    have := stp_tr s12 s3
    rw [show lo + exz (Lean.RArray.branch t a b) = lo + exz a + exz b + 1 by show lo + (exz a + exz b + 1) = _; omega]
    exact this
theorem clay_ok {M : Mm} {k0 k1 n : Nat} {W H tk : Nat → Nat} {e : Ex} (hn : n ≤ 12) (h1n : 1 ≤ n) (hk : k1 + 5 < k0) (hR : RowE n tk e) (hW : ∀ b, b < n → 1 ≤ W b ∧ W b ≤ 200) (hH : ∀ b, b < n → 1 ≤ H b ∧ H b ≤ 200) (h5 : M.1 k0 5 = nI (2 * n - 1)) (ht : IA M (k0 + 1) (2 * n - 1) tk) (eW : IA M (k1 + 3) n W) (eH : IA M (k1 + 4) n H) :
    Wp (f_X6_lay k0 k1 M) (fun M' => IA M' (k1 + 1) n (fun c => exx W H c e) ∧ IA M' (k1 + 2) n (fun c => exy W H c e) ∧ Fr (SRo k0 k1) M M') := by
  obtain ⟨hat, hz⟩ := hR.rat
  have hll : (Ex.lvs e).length = n := hR.2.2.2.2
  obtain ⟨M', s, r⟩ := clay_seg (tk := tk) (L := 2 * n - 1) hn (by omega) hk hW hH e 0 0 M ⟨hR.1, hR.2.2.1, hR.2.2.2.1, hat, by omega⟩ (by omega) h5 ht eW eH
  have h5' : M'.1 k0 5 = nI (2 * n - 1) := by rw [r.f.1 k0 (by unfold SRo; omega)]; exact h5
  have lp : loop (fun v : Int32 × Int32 × Mm => f_X6_lay_L4 k0 k1 v.1 v.2.1 v.2.2) FU (nI 0, nI 0, M) = some M' := by
    refine stp_end (w := (nI (0 + 1), nI (0 + exz e), M')) ?_ s (fu_lt (by omega))
    show f_X6_lay_L4 k0 k1 (nI (0 + 1)) (nI (0 + exz e)) M' = _
    unfold f_X6_lay_L4
    rw [h5', if_pos ((nI_leI (by omega) (by omega)).mpr (by omega))]
  unfold f_X6_lay f_X6_lay_A4
  rw [pz_0, lp]
  exact wp_s ⟨fun c hc => r.x c (hR.mem hc), fun c hc => r.y c (hR.mem hc), r.f⟩
