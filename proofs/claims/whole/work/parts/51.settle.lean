/-! ===== the reference settles ===== -/
/-- nothing but owners, lengths and holders has changed -/
def AgQ (σ σ' : SS) : Prop := (∀ k, gI σ' k = gI σ k) ∧ (∀ k, k ≠ 0 → k ≠ 1 → k ≠ 2 → gA σ' k = gA σ k) ∧ (∀ k, gB σ' k = gB σ k) ∧ ∀ k, gL σ' k = gL σ k
theorem AgQ.rf (σ : SS) : AgQ σ σ := ⟨fun _ => rfl, fun _ _ _ _ => rfl, fun _ => rfl, fun _ => rfl⟩
theorem AgQ.tr {a b c : SS} (h1 : AgQ a b) (h2 : AgQ b c) : AgQ a c := ⟨fun k => (h2.1 k).trans (h1.1 k), fun k h0 h1' h2' => (h2.2.1 k h0 h1' h2').trans (h1.2.1 k h0 h1' h2'), fun k => (h2.2.2.1 k).trans (h1.2.2.1 k), fun k => (h2.2.2.2 k).trans (h1.2.2.2 k)⟩
theorem AgQ.m (σ : SS) (n p : Nat) (v : Int32) (hn : n < 3) : AgQ σ (sA σ n p v) := ⟨fun _ => rfl, fun k h0 h1 h2 => gA_sA_ne _ _ _ (by omega), fun _ => rfl, fun _ => rfl⟩
/-- page k is wiped out -/
def Zer (τ τ' : SS) (k : Nat) : Prop := AgQ τ τ' ∧ (∀ i, gA τ' 0 i = if i = k then iI (-1) else gA τ 0 i) ∧ (∀ j, gA τ' 1 j = if j / 64 = k then 0 else gA τ 1 j) ∧ ∀ j, gA τ' 2 j = if j / 64 = k then iI (-1) else gA τ 2 j
section SETTLE
variable {pg zn : Nat} {ow : Nat → Int} {ln kd cl : Nat → Nat} {hd : Nat → Int} {th : Nat → Bool} {sz zo pl : Nat → Nat} {bw : Nat → Int64} {τ τ' : SS}
theorem MZ.agq (h : MZ zn kd cl bw τ) (a : AgQ τ τ') : MZ zn kd cl bw τ' := by
  unfold MZ at h ⊢
  rw [a.1 1, a.2.1 3 (by omega) (by omega) (by omega), a.2.2.1 1]
  exact h
theorem MB.agq (h : MB th sz zo pl τ) (a : AgQ τ τ') : MB th sz zo pl τ' := by
  unfold MB at h ⊢
  rw [a.1 2, a.2.1 5 (by omega) (by omega) (by omega), a.2.1 6 (by omega) (by omega) (by omega), a.2.1 7 (by omega) (by omega) (by omega), a.2.1 8 (by omega) (by omega) (by omega)]
  exact h
theorem m_zero {k : Nat} (hk : k < 40) {Q : SS → Prop} (kk : ∀ τ', Zer τ τ' k → Q τ') : wX7_goBack_b85 (nI k) (nI (64 * k)) (nI (64 * k + 64)) τ Q := by
  unfold wX7_goBack_b85 wX7_goBack_b88
  refine lfp_inv (fun t => ∃ p : Nat, 64 * k ≤ p ∧ p ≤ 64 * k + 64 ∧ t.1 = nI p ∧ AgQ τ t.2 ∧ gA t.2 0 = gA τ 0 ∧ (∀ j, gA t.2 1 j = if 64 * k ≤ j ∧ j < p then 0 else gA τ 1 j) ∧ ∀ j, gA t.2 2 j = if 64 * k ≤ j ∧ j < p then iI (-1) else gA τ 2 j) (fun t => 64 * k + 64 - t.1.toNatClampNeg) ⟨64 * k, by omega, by omega, rfl, AgQ.rf τ, rfl, fun j => by rw [if_neg (by omega)], fun j => by rw [if_neg (by omega)]⟩ ?_
  rintro ⟨t1, t2⟩ X ⟨p, p1, p2, e1, ag', a0', a1', a2'⟩ hX
  have e1' : t1 = nI p := e1
  subst e1'
  have ag : AgQ τ t2 := ag'
  have a0 : gA t2 0 = gA τ 0 := a0'
  have a1 : ∀ j, gA t2 1 j = if 64 * k ≤ j ∧ j < p then 0 else gA τ 1 j := a1'
  have a2 : ∀ j, gA t2 2 j = if 64 * k ≤ j ∧ j < p then iI (-1) else gA τ 2 j := a2'
  refine ⟨fun c => ⟨vp_in_nI hk (by omega), ?_⟩, fun c => ?_⟩
  · have : p = 64 * k + 64 := by
      rcases Nat.lt_or_ge p (64 * k + 64) with w | w
      · exact absurd c (nI_ge w (by omega))
      · omega
    subst this
    rw [nI_clamp (by omega)]
    refine kk _ ⟨ag.tr (AgQ.m _ _ _ _ (by omega)), fun i => ?_, fun j => ?_, fun j => ?_⟩
    · show upd (gA t2 0) k (-1) i = _
      rw [a0]
      rfl
    · show gA t2 1 j = _
      rw [a1 j]
      by_cases w : j / 64 = k
      · rw [if_pos (by omega), if_pos w]
      · rw [if_neg (by omega), if_neg w]
    · show gA t2 2 j = _
      rw [a2 j]
      by_cases w : j / 64 = k
      · rw [if_pos (by omega), if_pos w]
      · rw [if_neg (by omega), if_neg w]
  · have hlt : p < 64 * k + 64 := by
      rcases Nat.lt_or_ge p (64 * k + 64) with w | w
      · exact w
      · exact absurd (nI_le w (by omega)) c
    have hv : vp_in (nI p) 2560 := vp_in_nI (by omega) (by omega)
    refine ⟨hv, hv, ?_⟩
    rw [show ((nI p, t2) : Int32 × SS).1 = nI p from rfl, show ((nI p, t2) : Int32 × SS).2 = t2 from rfl, nI_clamp (by omega), nI_1]
    refine hX _ ⟨p + 1, by omega, by omega, rfl, (ag.tr (AgQ.m _ _ _ _ (by omega))).tr (AgQ.m _ _ _ _ (by omega)), a0, fun j => ?_, fun j => ?_⟩ ?_
    · show upd (gA t2 1) p 0 j = _
      unfold upd
      by_cases w : j = p
      · rw [if_pos w, if_pos (by omega)]
      · rw [if_neg w, a1 j]
        by_cases w2 : 64 * k ≤ j ∧ j < p
        · rw [if_pos w2, if_pos (by omega)]
        · rw [if_neg w2, if_neg (by omega)]
    · show upd (gA t2 2) p (-1) j = _
      unfold upd
      by_cases w : j = p
      · rw [if_pos w, if_pos (by omega)]
        rfl
      · rw [if_neg w, a2 j]
        by_cases w2 : 64 * k ≤ j ∧ j < p
        · rw [if_pos w2, if_pos (by omega)]
        · rw [if_neg w2, if_neg (by omega)]
    · show 64 * k + 64 - (nI (p + 1)).toNatClampNeg < 64 * k + 64 - (nI p).toNatClampNeg
      rw [nI_clamp (by omega), nI_clamp (by omega)]
      omega
theorem m_pieceAt (hp40 : pg ≤ 40) (mg : MG pg ow ln hd τ) {a x : Nat} (hx : x < 64 * pg) (hax : a ≤ x) (hl : 0 < ln a) (hl2 : ln a < 100000) (h0 : ∀ i, a < i → i ≤ x → ln i = 0) {Q : Int32 → Prop} (k : Q (nI a)) : wX7_pieceAt (nI x) τ Q := by
  unfold wX7_pieceAt wX7_pieceAt_b2
  refine lfp_inv (fun t => ∃ i : Nat, a ≤ i ∧ i ≤ x ∧ t = nI i) (fun t => t.toNatClampNeg) ⟨x, hax, Nat.le_refl _, rfl⟩ ?_
  rintro t X ⟨i, i1, i2, rfl⟩ hX
  refine ⟨vp_in_nI (by omega) (by omega), ?_⟩
  rw [nI_clamp (by omega), (mg.2.2 i (by omega)).1]
  refine ⟨fun c => ?_, fun c => ?_⟩
  · have : i = a := by
      rcases Nat.lt_or_ge a i with w | w
      · exact absurd (by rw [h0 i w i2]; rfl) c
      · omega
    rw [this]
    exact k
  · have hia : a < i := by
      rcases Nat.lt_or_ge a i with w | w
      · exact w
      · have : i = a := by omega
        rw [this] at c
        exact absurd c (nI_ne0 hl (by omega))
    have e : nI i + -1 = nI (i - 1) := by
      rw [nI_iI, nI_iI, l_m1, iI_add]
      congr 1
      omega
    rw [e]
    refine hX _ ⟨i - 1, by omega, by omega, rfl⟩ ?_
    rw [nI_clamp (by omega), nI_clamp (by omega)]
    omega
/-- page k may go -/
def WF (pg : Nat) (ow : Nat → Int) (ln : Nat → Nat) (hd : Nat → Int) (kd : Nat → Nat) (k : Nat) : Prop := (kz kd (ow k) = 0 → ∀ j, j / 64 = k → 0 < ln j → hd j < 0) ∧ (¬ kz kd (ow k) = 0 → ∃ a, a ≤ 64 * k ∧ 0 < ln a ∧ hd a < 0 ∧ 64 * k + 64 ≤ a + ln a)
/-- page k stays -/
def WN (pg : Nat) (ow : Nat → Int) (ln : Nat → Nat) (hd : Nat → Int) (kd : Nat → Nat) (k : Nat) : Prop := (kz kd (ow k) = 0 → ∃ i, i < 64 ∧ 0 < ln (64 * k + i) ∧ 0 ≤ hd (64 * k + i)) ∧ (¬ kz kd (ow k) = 0 → ∀ a, a < 64 * pg → 0 < ln a → hd a < 0 → a ≤ 64 * k → ¬ 64 * k + 64 ≤ a + ln a)
theorem coverK (h : Tiled pg zn ow ln kd cl) {k : Nat} (hk : k < pg) (h0 : 0 ≤ ow k) (hz : ¬ kz kd (ow k) = 0) : ∃ a, a ≤ 64 * k ∧ 0 < ln a ∧ 64 * k < a + ln a ∧ ow (a / 64) = ow k := by
  by_cases h1 : kz kd (ow k) = 1
  · have := (h.2.2.2.1 k hk h0 h1).1
    exact ⟨64 * k, Nat.le_refl _, this, by omega, by rw [show 64 * k / 64 = k by omega]⟩
  · have := coverR h.2.1 h.2.2.2.2 (64 * k) (by omega) (by rw [show 64 * k / 64 = k by omega]; exact h0) (by rw [show 64 * k / 64 = k by omega]; omega)
    rw [show 64 * k / 64 = k by omega] at this
    exact this
theorem m_isWholly (h : Tiled pg zn ow ln kd cl) (hK : OkK pg zn ow ln hd th zo pl) (mg : MG pg ow ln hd τ) (mz : MZ zn kd cl bw τ) {k : Nat} (hk : k < pg) (h0 : 0 ≤ ow k) {Q : Int32 → Prop} (k1 : WF pg ow ln hd kd k → Q 1) (k0 : WN pg ow ln hd kd k → Q 0) : wX7_isWhollyFree (nI k) τ Q := by
  have hp40 := h.1.1
  have hz8 := h.1.2.1
  have ho := h.1.2.2.1 k hk
  have hk5 := (h.1.2.2.2 (ow k).toNat (by omega)).1
  have ekz : kd (ow k).toNat = kz kd (ow k) := rfl
  unfold wX7_isWhollyFree
  rw [nI_clamp (by omega), mg.2.1 k hk, clamp_iI (by omega) (by omega), (mz.2 _ (by omega)).1, ekz]
  refine ⟨vp_in_nI (by omega) (by omega), vp_in_iI (by omega) (by omega) (by omega), fun c => ?_, fun c => ?_⟩
  · have hz : ¬ kz kd (ow k) = 0 := fun w => c (by rw [w]; rfl)
    obtain ⟨a, a1, a2, a3, a4⟩ := coverK h hk h0 hz
    obtain ⟨t1, t2, t3⟩ := h.2.1 a (by omega) a2
    rw [show (64 : Int32) = nI 64 from rfl, pk_mul, nI_add]
    refine m_pieceAt hp40 mg (by omega) a1 a2 (by omega) (fun i i1 i2 => (t3 i i1 (by omega)).1) ?_
    have hv : vp_in (nI a) 2560 := vp_in_nI (by omega) (by omega)
    obtain ⟨m1, m2⟩ := mg.2.2 a (by omega)
    rw [nI_clamp (by omega), m1, m2 a2, nI_add]
    have uniq : ∀ b, b < 64 * pg → 0 < ln b → b ≤ 64 * k → 64 * k + 64 ≤ b + ln b → b = a := by
      intro b b1 b2 b3 b4
      rcases Nat.lt_trichotomy a b with w | w | w
      · have := h.2.1.dj (by omega) a2 b2 w; omega
      · exact w.symm
      · have := h.2.1.dj b1 b2 a2 w; omega
    refine ⟨hv, fun c2 => k0 ⟨fun w => absurd w hz, fun _ b b1 b2 b3 b4 b5 => ?_⟩, fun c2 => ⟨hv, fun c3 => k0 ⟨fun w => absurd w hz, fun _ b b1 b2 b3 b4 b5 => ?_⟩, fun c3 => k1 ⟨fun w => absurd w hz, fun _ => ⟨a, a1, a2, ?_, ?_⟩⟩⟩⟩
    · have := uniq b b1 b2 b4 b5
      subst this
      rcases hK.2 b b1 b2 with w | ⟨w, -⟩
      · exact c2 (by rw [w]; rfl)
      · omega
    · have := uniq b b1 b2 b4 b5
      subst this
      exact absurd c3 (nI_nlt b5 (by omega))
    · rcases hK.2 a (by omega) a2 with w | ⟨w1, w2, -⟩
      · omega
      · rw [l_m1, iI_eq (by omega) (by omega) (by omega) (by omega)] at c2
        omega
    · rcases Nat.lt_or_ge (a + ln a) (64 * k + 64) with w | w
      · exact absurd (nI_lt w (by omega)) c3
      · exact w
  · have hz : kz kd (ow k) = 0 := (nI_eq (b := 0) (by omega) (by omega)).mp c
    unfold wX7_isWhollyFree_b21 wX7_isWhollyFree_b52
    rw [show (64 : Int32) = nI 64 from rfl, pk_mul, nI_add]
    refine lfp_inv (fun t => ∃ p : Nat, 64 * k ≤ p ∧ p ≤ 64 * k + 64 ∧ (∀ j, j / 64 = k → j < p → 0 < ln j → hd j < 0) ∧ t = nI p) (fun t => 64 * k + 64 - t.toNatClampNeg) ⟨64 * k, by omega, by omega, fun j w1 w2 => by omega, rfl⟩ ?_
    rintro t X ⟨p, p1, p2, hfr, rfl⟩ hX
    refine ⟨fun c2 => k1 ⟨fun _ j hj hl => hfr j hj ?_ hl, fun w => absurd hz w⟩, fun c2 => ?_⟩
    · rcases Nat.lt_or_ge p (64 * k + 64) with w | w
      · exact absurd c2 (nI_ge w (by omega))
      · omega
    · have hlt : p < 64 * k + 64 := by
        rcases Nat.lt_or_ge p (64 * k + 64) with w | w
        · exact w
        · exact absurd (nI_le w (by omega)) c2
      have hv : vp_in (nI p) 2560 := vp_in_nI (by omega) (by omega)
      obtain ⟨m1, m2⟩ := mg.2.2 p (by omega)
      have hlb : ln p = 0 ∨ (0 < ln p ∧ p + ln p ≤ 64 * pg) := by
        rcases Nat.eq_zero_or_pos (ln p) with w | w
        · exact Or.inl w
        · exact Or.inr ⟨w, (h.2.1 p (by omega) w).2.1⟩
      have hm : 64 * k + 64 - (nI (p + 1)).toNatClampNeg < 64 * k + 64 - (nI p).toNatClampNeg := by
        rw [nI_clamp (by omega), nI_clamp (by omega)]
        omega
      rw [nI_clamp (by omega), m1, nI_1]
      refine ⟨hv, fun c3 => ?_, fun c3 => ⟨hv, ?_⟩⟩
      · have hl0 : ln p = 0 := by
          rcases hlb with w | ⟨w, w2⟩
          · exact w
          · exact absurd c3 (nI_nle w (by omega))
        exact hX _ ⟨p + 1, by omega, by omega, fun j j1 j2 j3 => hfr j j1 (by
          rcases Nat.lt_or_ge j p with w | w
          · exact w
          · have : j = p := by omega
            subst this; omega) j3, rfl⟩ hm
      · have hl0 : 0 < ln p := by
          rcases hlb with w | ⟨w, w2⟩
          · rw [w] at c3; exact absurd (by decide) c3
          · exact w
        rw [m2 hl0]
        have hr := hK.2 p (by omega) hl0
        refine ⟨fun c4 => ?_, fun c4 => k0 ⟨fun _ => ⟨p - 64 * k, by omega, ?_, ?_⟩, fun w => absurd hz w⟩⟩
        · rw [l_0, iI_lt (by omega) (by omega) (by omega) (by omega)] at c4
          exact hX _ ⟨p + 1, by omega, by omega, fun j j1 j2 j3 => by
            rcases Nat.lt_or_ge j p with w | w
            · exact hfr j j1 w j3
            · have : j = p := by omega
              subst this; exact c4, rfl⟩ hm
        · rw [show 64 * k + (p - 64 * k) = p by omega]; exact hl0
        · rw [show 64 * k + (p - 64 * k) = p by omega]
          rw [l_0, iI_lt (by omega) (by omega) (by omega) (by omega)] at c4
          omega
/-- a page has gone: what the state is then -/
theorem m_goBack (h : Tiled pg zn ow ln kd cl) (hK : OkK pg zn ow ln hd th zo pl) (mg : MG pg ow ln hd τ) (mz : MZ zn kd cl bw τ) {k : Nat} (hk : k < pg) (h0 : 0 ≤ ow k) (hw : WF pg ow ln hd kd k) {Q : SS → Prop} (k1 : ∀ τ' ow' ln', Drop pg ow ln hd kd ow' ln' k → MG pg ow' ln' hd τ' → AgQ τ τ' → Q τ') (k2 : ∀ τ' p ow' ln' hd', 2 ≤ kz kd (ow (p / 64)) → ow (p / 64) = ow k → LetGo pg ow ln hd ow' ln' hd' p k (k + 1) → MG pg ow' ln' hd' τ' → AgQ τ τ' → Q τ') : wX7_goBack (nI k) τ Q := by
  have hp40 := h.1.1
  have hz8 := h.1.2.1
  have ho := h.1.2.2.1 k hk
  have hk5 := (h.1.2.2.2 (ow k).toNat (by omega)).1
  have ekz : kd (ow k).toNat = kz kd (ow k) := rfl
  unfold wX7_goBack
  rw [nI_clamp (by omega), mg.2.1 k hk, clamp_iI (by omega) (by omega), (mz.2 _ (by omega)).1, ekz, show (64 : Int32) = nI 64 from rfl, pk_mul, nI_add]
  obtain ⟨ow', how⟩ : ∃ ow' : Nat → Int, ow' = fun i => if i = k then -1 else ow i := ⟨_, rfl⟩
  have o1 : ow' k = -1 := by rw [how]; exact if_pos rfl
  have o2 : ∀ i, i ≠ k → ow' i = ow i := fun i hi => by rw [how]; exact if_neg hi
  refine ⟨vp_in_nI (by omega) (by omega), vp_in_iI (by omega) (by omega) (by omega), fun c => ?_, fun c => ?_⟩
  · have hz : kz kd (ow k) < 2 := by
      have : nI (kz kd (ow k)) ≤ nI 1 := c
      rw [nI_leI (by omega) (by omega)] at this
      omega
    refine m_zero (by omega) (fun τ2 Z => ?_)
    obtain ⟨z1, z2, z3, z4⟩ := Z
    obtain ⟨ln', hln⟩ : ∃ ln' : Nat → Nat, ln' = fun j => if j / 64 = k then 0 else ln j := ⟨_, rfl⟩
    have e1 : ∀ j, j / 64 = k → ln' j = 0 := fun j hj => by rw [hln]; exact if_pos hj
    have e2 : ∀ j, j / 64 ≠ k → ln' j = ln j := fun j hj => by rw [hln]; exact if_neg hj
    refine k1 τ2 ow' ln' ⟨⟨hk, h0, hz, fun j hj hl => ?_⟩, o1, o2, e1, e2⟩ ⟨(z1.1 0).trans mg.1, fun i hi => ?_, fun j hj => ⟨?_, fun hl => ?_⟩⟩ z1
    · by_cases hz0 : kz kd (ow k) = 0
      · exact hw.1 hz0 j hj hl
      · obtain ⟨a, a1, a2, a3, a4⟩ := hw.2 hz0
        have : j = a := by
          rcases Nat.lt_trichotomy a j with w | w | w
          · have := h.2.1.dj (by omega) a2 hl w; omega
          · exact w.symm
          · have := h.2.1.dj (by omega) hl a2 w; omega
        rw [this]; exact a3
    · rw [z2 i]
      by_cases w : i = k
      · rw [if_pos w, w, o1]
      · rw [if_neg w, o2 i w]; exact mg.2.1 i hi
    · rw [z3 j]
      by_cases w : j / 64 = k
      · rw [if_pos w, e1 j w]; rfl
      · rw [if_neg w, e2 j w]; exact (mg.2.2 j hj).1
    · by_cases w : j / 64 = k
      · rw [e1 j w] at hl; omega
      · rw [e2 j w] at hl
        rw [z4 j, if_neg w]; exact (mg.2.2 j hj).2 hl
  · have hz : 2 ≤ kz kd (ow k) := by
      have : ¬ nI (kz kd (ow k)) ≤ nI 1 := c
      rw [nI_leI (by omega) (by omega)] at this
      omega
    obtain ⟨a, a1, a2, a3, a4⟩ := hw.2 (by omega)
    obtain ⟨t1, t2, t3⟩ := h.2.1 a (by omega) a2
    have hoa : ow (a / 64) = ow k := by
      rcases Nat.lt_or_ge a (64 * k) with u | u
      · have := (t3 (64 * k) u (by omega)).2
        rw [show 64 * k / 64 = k by omega] at this
        exact this.symm
      · rw [show a / 64 = k by omega]
    refine m_pieceAt hp40 mg (by omega) a1 a2 (by omega) (fun i i1 i2 => (t3 i i1 (by omega)).1) ?_
    have hv : vp_in (nI a) 2560 := vp_in_nI (by omega) (by omega)
    obtain ⟨m1, m2⟩ := mg.2.2 a (by omega)
    rw [nI_clamp (by omega), m1, nI_add, pk_sub a1]
    obtain ⟨ln', hln⟩ : ∃ ln' : Nat → Nat, ln' = fun j => if j = a then 64 * k - a else if j / 64 = k then 0 else if j = 64 * k + 64 ∧ 64 * k + 64 < a + ln a then a + ln a - (64 * k + 64) else ln j := ⟨_, rfl⟩
    obtain ⟨hd', hhd⟩ : ∃ hd' : Nat → Int, hd' = fun j => if j = 64 * k + 64 ∧ 64 * k + 64 < a + ln a then -1 else hd j := ⟨_, rfl⟩
    have g : LetGo pg ow ln hd ow' ln' hd' a k (k + 1) := by
      refine ⟨⟨by omega, a2, a3, a1, by omega, by omega⟩, fun i h1 h2 => ?_, fun i h1 => o2 i (by omega), ?_, fun j h1 h2 => ?_, fun h1 => ⟨?_, ?_⟩, fun j h1 h2 h3 => ?_, fun j h1 => ?_⟩
      · rw [show i = k by omega]; exact o1
      · rw [hln]; exact if_pos rfl
      · rw [hln]
        show (if j = a then _ else _) = _
        by_cases e : j = a
        · rw [if_pos e]; omega
        · rw [if_neg e, if_pos (by omega)]
      · rw [hln]
        show (if 64 * (k + 1) = a then _ else _) = _
        rw [if_neg (by omega), if_neg (by omega), if_pos (by omega)]
        omega
      · rw [hhd]; exact if_pos (by omega)
      · rw [hln]
        show (if j = a then _ else _) = _
        rw [if_neg h1, if_neg (by omega), if_neg (by omega)]
      · rw [hhd]; exact if_neg (by omega)
    have fin : ∀ τ1 : SS, AgQ τ τ1 → gA τ1 0 = gA τ 0 → (∀ j, j < 64 * pg → j / 64 ≠ k → gA τ1 1 j = nI (ln' j)) → (∀ j, j < 64 * pg → j / 64 ≠ k → 0 < ln' j → gA τ1 2 j = iI (hd' j)) → wX7_goBack_b85 (nI k) (nI (64 * k)) (nI (64 * k + 64)) τ1 Q := by
      intro τ1 ag1 g0 g1 g2
      refine m_zero (by omega) (fun τ2 Z => ?_)
      obtain ⟨z1, z2, z3, z4⟩ := Z
      have hzr : ∀ j, j / 64 = k → ln' j = 0 := fun j hj => g.2.2.2.2.1 j (by omega) (by omega)
      refine k2 τ2 a ow' ln' hd' (by rw [hoa]; exact hz) hoa g ⟨(z1.1 0).trans ((ag1.1 0).trans mg.1), fun i hi => ?_, fun j hj => ⟨?_, fun hl => ?_⟩⟩ (ag1.tr z1)
      · rw [z2 i]
        by_cases w : i = k
        · rw [if_pos w, w, o1]
        · rw [if_neg w, o2 i w, g0]; exact mg.2.1 i hi
      · rw [z3 j]
        by_cases w : j / 64 = k
        · rw [if_pos w, hzr j w]; rfl
        · rw [if_neg w]; exact g1 j hj w
      · have w : j / 64 ≠ k := fun w => by rw [hzr j w] at hl; omega
        rw [z4 j, if_neg w]; exact g2 j hj w hl
    refine ⟨hv, hv, fun c2 => ?_, fun c2 => ?_⟩
    · have hend : a + ln a ≤ 64 * k + 64 := by
        rw [nI_leI (by omega) (by omega)] at c2; exact c2
      refine fin _ (AgQ.m _ _ _ _ (by omega)) rfl (fun j hj w => ?_) (fun j hj w hl => ?_)
      · show upd (gA τ 1) a (nI (64 * k - a)) j = _
        unfold upd
        by_cases e : j = a
        · rw [if_pos e, e, g.2.2.2.1]
        · rw [if_neg e, (mg.2.2 j hj).1, g.2.2.2.2.2.2.1 j e (by omega) (by omega)]
      · show gA τ 2 j = _
        rw [g.2.2.2.2.2.2.2 j (by omega)]
        rcases g.cases h.2.1 hl with ⟨d1, -⟩ | ⟨d1, d2, -⟩ | ⟨d1, d2, d3, -⟩
        · subst d1; exact m2 a2
        · omega
        · rw [d3] at hl; exact (mg.2.2 j hj).2 hl
    · have hend : 64 * k + 64 < a + ln a := by
        rw [nI_leI (by omega) (by omega)] at c2; omega
      have hv2 : vp_in (nI (64 * k + 64)) 2560 := vp_in_nI (by omega) (by omega)
      refine ⟨hv2, hv2, fun σ84 e84 => ?_⟩
      rw [nI_clamp (by omega), pk_sub (by omega)] at e84
      subst e84
      refine fin _ (((AgQ.m _ _ _ _ (by omega)).tr (AgQ.m _ _ _ _ (by omega))).tr (AgQ.m _ _ _ _ (by omega))) rfl (fun j hj w => ?_) (fun j hj w hl => ?_)
      · show upd (upd (gA τ 1) a (nI (64 * k - a))) (64 * k + 64) (nI (a + ln a - (64 * k + 64))) j = _
        unfold upd
        by_cases e0 : j = 64 * k + 64
        · rw [if_pos e0, e0, show 64 * k + 64 = 64 * (k + 1) by omega, (g.2.2.2.2.2.1 (by omega)).1]
        · rw [if_neg e0]
          by_cases e : j = a
          · rw [if_pos e, e, g.2.2.2.1]
          · rw [if_neg e, (mg.2.2 j hj).1, g.2.2.2.2.2.2.1 j e (by omega) (by omega)]
      · show upd (gA τ 2) (64 * k + 64) (-1) j = _
        unfold upd
        by_cases e0 : j = 64 * k + 64
        · rw [if_pos e0, e0, show 64 * k + 64 = 64 * (k + 1) by omega, (g.2.2.2.2.2.1 (by omega)).2]
          rfl
        · rw [if_neg e0, g.2.2.2.2.2.2.2 j (by omega)]
          rcases g.cases h.2.1 hl with ⟨d1, -⟩ | ⟨d1, d2, -⟩ | ⟨d1, d2, d3, -⟩
          · subst d1; exact m2 a2
          · omega
          · rw [d3] at hl; exact (mg.2.2 j hj).2 hl
theorem m_settle (h : Tiled pg zn ow ln kd cl) (hK : OkK pg zn ow ln hd th zo pl) (hSz : OkSz kd cl ln th sz zo pl) (hJ : OkJ pg ow ln hd kd) (mg : MG pg ow ln hd τ) (mz : MZ zn kd cl bw τ) {Q : SS → Prop} (k : ∀ τ' ow' ln' hd', Gh pg zn ow' ln' hd' kd cl th sz zo pl → MG pg ow' ln' hd' τ' → AgQ τ τ' → (∀ s, s < 100 → th s = true → ln' (pl s) = ln (pl s)) → (∀ k, k < pg → (ow' k = -2 ↔ ow k = -2)) → Q τ') : wX7_settle τ Q := by
  have hp40 := h.1.1
  have hz8 := h.1.2.1
  unfold wX7_settle wX7_settle_b2 wX7_settle_b32
  refine lfp_inv (fun t => ∃ (k : Nat) (o : Nat → Int) (l : Nat → Nat) (d : Nat → Int), k ≤ pg ∧ Tiled pg zn o l kd cl ∧ OkK pg zn o l d th zo pl ∧ MG pg o l d t.2 ∧ AgQ τ t.2 ∧ (∀ s, s < 100 → th s = true → l (pl s) = ln (pl s)) ∧ OkJ pg o l d kd ∧ OkSetq (fun i => i < k) pg o l d kd ∧ (∀ i, i < pg → (o i = -2 ↔ ow i = -2)) ∧ t.1 = nI k) (fun t => pg - t.1.toNatClampNeg) ⟨0, ow, ln, hd, by omega, h, hK, mg, AgQ.rf τ, fun _ _ _ => rfl, hJ, ⟨fun j a b => by omega, fun j a b => by omega, fun j a b c d e f => by omega⟩, fun _ _ => Iff.rfl, rfl⟩ ?_
  rintro ⟨t1, t2⟩ X ⟨i, o, l, d, hi, hT0, hK0, mg0', ag', bl, hJ0, hS0, oo, e1⟩ hX
  have e1' : t1 = nI i := e1
  subst e1'
  have mg0 : MG pg o l d t2 := mg0'
  have ag : AgQ τ t2 := ag'
  have mz0 : MZ zn kd cl bw t2 := mz.agq ag
  rw [show ((nI i, t2) : Int32 × SS).2 = t2 from rfl, show ((nI i, t2) : Int32 × SS).1 = nI i from rfl, mg0.1]
  refine ⟨fun c => ?_, fun c => ?_⟩
  · have : i = pg := by
      rcases Nat.lt_or_ge i pg with w | w
      · exact absurd c (nI_ge w (by omega))
      · omega
    subst this
    refine k t2 o l d ⟨hT0, hK0, hSz.same bl, ⟨fun j hj h0 hz => hS0.1 j hj hj h0 hz, fun j hj h0 hz => hS0.2.1 j hj hj h0 hz, fun j hj hl hf hz a h1 h2 => hS0.2.2 j hj hl hf hz a ?_ h1 h2⟩, hJ0⟩ mg0 ag bl oo
    have := (hT0.2.1 j hj hl).2.1
    omega
  · have hlt : i < pg := by
      rcases Nat.lt_or_ge i pg with w | w
      · exact w
      · exact absurd (nI_le w (by omega)) c
    have ho := hT0.1.2.2.1 i hlt
    have hm : ∀ s : SS, pg - ((nI i + 1, s) : Int32 × SS).1.toNatClampNeg < pg - ((nI i, t2) : Int32 × SS).1.toNatClampNeg := by
      intro s
      show pg - (nI i + 1).toNatClampNeg < pg - (nI i).toNatClampNeg
      rw [nI_1, nI_clamp (by omega), nI_clamp (by omega)]
      omega
    have e1i : nI i + 1 = nI (i + 1) := nI_1 i
    have nextS : ∀ {o2 : Nat → Int} {l2 : Nat → Nat} {d2 : Nat → Int}, Tiled pg zn o2 l2 kd cl → OkSetq (fun j => j < i) pg o2 l2 d2 kd → (0 ≤ o2 i → WN pg o2 l2 d2 kd i) → OkSetq (fun j => j < i + 1) pg o2 l2 d2 kd := by
      intro o2 l2 d2 hT2 hS2 hno
      refine ⟨fun j hj hP h0 hk => ?_, fun j hj hP h0 hk => ?_, fun j hj hl hf hk a hP h1 h2 => ?_⟩
      · rcases Nat.lt_or_ge j i with u | u
        · exact hS2.1 j hj u h0 hk
        · have hji : j = i := by omega
          subst hji
          exact (hno h0).1 hk
      · rcases Nat.lt_or_ge j i with u | u
        · exact hS2.2.1 j hj u h0 hk
        · have hji : j = i := by omega
          subst hji
          rintro ⟨w1, w2⟩
          exact (hno h0).2 (by omega) (64 * j) (by omega) (by omega) w2 (Nat.le_refl _) (by omega)
      · rcases Nat.lt_or_ge a i with u | u
        · exact hS2.2.2 j hj hl hf hk a u h1 h2
        · have hai : a = i := by omega
          subst hai
          obtain ⟨t1, t2, t3⟩ := hT2.2.1 j hj hl
          have hoa : o2 a = o2 (j / 64) := by
            rcases Nat.lt_or_ge j (64 * a) with u | u
            · have := (t3 (64 * a) u (by omega)).2
              rw [show 64 * a / 64 = a by omega] at this
              exact this
            · rw [show j / 64 = a by omega]
          exact (hno (by omega)).2 (by rw [hoa]; omega) j hj hl hf h1 h2
    refine ⟨vp_in_nI (by omega) (by omega), ?_⟩
    rw [nI_clamp (by omega), mg0.2.1 i hlt]
    refine ⟨fun c2 => ?_, fun c2 => ?_⟩
    · rw [l_0, iI_lt (by omega) (by omega) (by omega) (by omega)] at c2
      exact hX _ ⟨i + 1, o, l, d, by omega, hT0, hK0, mg0, ag, bl, hJ0, nextS hT0 hS0 (fun h0 => by omega), oo, e1i⟩ (hm _)
    · rw [l_0, iI_lt (by omega) (by omega) (by omega) (by omega)] at c2
      refine m_isWholly hT0 hK0 mg0 mz0 hlt (by omega) (fun hw => ⟨fun w => absurd w (by decide), fun _ => ?_⟩) (fun hn => ⟨fun _ => ?_, fun w => absurd rfl w⟩)
      · refine m_goBack hT0 hK0 mg0 mz0 hlt (by omega) hw (fun τ3 o3 l3 g mg3 ag3 => ?_) (fun τ3 p o3 l3 d3 hz hop g mg3 ag3 => ?_)
        · obtain ⟨hK3, bl3⟩ := g.ok hK0
          have hS3 := g.set hT0.2.1 hS0
          refine hX _ ⟨i + 1, o3, l3, d, by omega, g.til hT0, hK3, mg3, ag.tr ag3, fun s hs ht => (bl3 s hs ht).trans (bl s hs ht), ?_, nextS (g.til hT0) ⟨fun j a b => hS3.1 j a (Or.inl b), fun j a b => hS3.2.1 j a (Or.inl b), fun j a b c d e f => hS3.2.2 j a b c d e (Or.inl f)⟩ (fun h0 => by rw [g.2.1] at h0; omega), fun j hj => ?_, e1i⟩ (hm _)
          · have := g.jn (P := fun _ _ => True) hT0 ⟨fun j a b c d e f _ => hJ0.1 j a b c d e f, fun j a b c d e _ => hJ0.2 j a b c d e⟩
            exact ⟨fun j a b c d e f => this.1 j a b c d e f trivial, fun j a b c d e => this.2 j a b c d e trivial⟩
          · by_cases w : j = i
            · rw [w, g.2.1]
              have := oo i hlt
              omega
            · rw [g.2.2.1 j w]; exact oo j hj
        · obtain ⟨hK3, bl3⟩ := g.ok hT0.2.1 hK0
          refine hX _ ⟨i + 1, o3, l3, d3, by omega, g.til hT0 hz, hK3, mg3, ag.tr ag3, fun s hs ht => (bl3 s hs ht).trans (bl s hs ht), g.jn hT0 hz hJ0, nextS (g.til hT0 hz) (g.set hT0.2.1 hz hS0) (fun h0 => by rw [g.2.1 i (by omega) (by omega)] at h0; omega), fun j hj => ?_, e1i⟩ (hm _)
          by_cases w : j = i
          · rw [w, g.2.1 i (by omega) (by omega)]
            have := oo i hlt
            omega
          · rw [g.2.2.1 j (by omega)]; exact oo j hj
      · exact hX _ ⟨i + 1, o, l, d, by omega, hT0, hK0, mg0, ag, bl, hJ0, nextS hT0 hS0 (fun _ => hn), oo, e1i⟩ (hm _)
end SETTLE
