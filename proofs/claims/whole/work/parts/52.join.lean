/-! ===== the reference joins ===== -/
section JOIN
variable {pg zn : Nat} {ow : Nat → Int} {ln ln' kd cl : Nat → Nat} {hd : Nat → Int} {th : Nat → Bool} {sz zo pl : Nat → Nat} {bw : Nat → Int64} {τ τ' : SS}
theorem m_isOf (hp40 : pg ≤ 40) (ho : ∀ k, k < pg → R32 (ow k)) (mg : MG pg ow ln hd τ) {p z : Nat} (hp : p < 100000) (hz : z < 1000) {Q : Int32 → Prop} (k0 : ¬ (p < 64 * pg ∧ ow (p / 64) = z) → Q 0) (k1 : p < 64 * pg → ow (p / 64) = z → Q 1) : wX7_isOf (nI p) (nI z) τ Q := by
  unfold wX7_isOf
  rw [mg.1, show (64 : Int32) = nI 64 from rfl, pk_mul, pk_div (by omega) (by omega) (by omega), nI_clamp (by omega)]
  refine ⟨fun c => absurd c (nI_pos (by omega)), fun _ => ⟨fun c => k0 (fun w => absurd c (nI_ge w.1 (by omega))), fun c => ?_⟩⟩
  have hlt : p < 64 * pg := by
    rcases Nat.lt_or_ge p (64 * pg) with w | w
    · exact w
    · exact absurd (nI_le w (by omega)) c
  have hr := ho (p / 64) (by omega)
  unfold R32 at hr
  rw [mg.2.1 _ (by omega), nI_iI z, iI_eq hr.1 hr.2 (by omega) (by omega)]
  exact ⟨vp_in_nI (by omega) (by omega), fun c2 => k0 (fun w => c2 w.2), fun c2 => k1 hlt c2⟩
theorem owR (h : Tiled pg zn ow ln kd cl) : ∀ k, k < pg → R32 (ow k) := fun k hk => by have := h.1.2.2.1 k hk; have := h.1.2.1; unfold R32; omega
theorem m_isFreeM (h : Tiled pg zn ow ln kd cl) (hK : OkK pg zn ow ln hd th zo pl) (mg : MG pg ow ln hd τ) {p z : Nat} (hp : p < 100000) (hz : z < 1000) {Q : Int32 → Prop} (k0 : ¬ (p < 64 * pg ∧ ow (p / 64) = z ∧ 0 < ln p ∧ hd p < 0) → Q 0) (k1 : p < 64 * pg → ow (p / 64) = z → 0 < ln p → hd p < 0 → Q 1) : wX7_isFreeAt (nI p) (nI z) τ Q := by
  have hp40 := h.1.1
  unfold wX7_isFreeAt
  refine m_isOf hp40 (owR h) mg hp hz (fun c => ⟨fun _ => k0 (fun w => c ⟨w.1, w.2.1⟩), fun w => absurd rfl w⟩) (fun c1 c2 => ⟨fun w => absurd w (by decide), fun _ => ?_⟩)
  obtain ⟨m1, m2⟩ := mg.2.2 p c1
  have hv : vp_in (nI p) 2560 := vp_in_nI (by omega) (by omega)
  rw [nI_clamp (by omega), m1]
  refine ⟨hv, fun c3 => k0 (fun w => ?_), fun c3 => ⟨hv, ?_⟩⟩
  · have := (h.2.1 p c1 w.2.2.1).2.1
    exact absurd c3 (nI_nle w.2.2.1 (by omega))
  · have hl : 0 < ln p := by
      rcases Nat.eq_zero_or_pos (ln p) with w | w
      · rw [w] at c3; exact absurd (by decide) c3
      · exact w
    rw [m2 hl]
    rcases hK.2 p c1 hl with w | ⟨w1, w2, -⟩
    · exact ⟨fun c4 => absurd (by rw [w]; rfl) c4, fun _ => k1 c1 c2 hl (by omega)⟩
    · refine ⟨fun _ => k0 (fun w => by omega), fun c4 => ?_⟩
      rw [l_m1, iI_eq (by omega) (by omega) (by omega) (by omega)] at c4
      omega
theorem nI_m1 {i : Nat} (h : 0 < i) : nI i + -1 = nI (i - 1) := by
  rw [nI_iI, nI_iI, l_m1, iI_add]
  congr 1
  omega
theorem m_ahead (h : Tiled pg zn ow ln kd cl) (mg : MG pg ow ln hd τ) {p z : Nat} (hp : p < 64 * pg) (hl : 0 < ln p) (hzn : z < zn) (hkz : 2 ≤ kd z) {Q : Int32 → Prop} (k0 : (∀ b, b < 64 * pg → 0 < ln b → ow (b / 64) = z → ¬ b + ln b = p) → Q (-1)) (k1 : ∀ b, b < 64 * pg → 0 < ln b → ow (b / 64) = z → b + ln b = p → Q (nI b)) : wX7_ahead (nI z) (nI p) τ Q := by
  have hp40 := h.1.1
  have hz8 := h.1.2.1
  have kzz : kz kd (z : Int) = kd z := by unfold kz; rw [Int.toNat_natCast]
  unfold wX7_ahead wX7_ahead_b4
  rcases Nat.eq_zero_or_pos p with p0 | p0
  · subst p0
    refine lfp_once (fun X => ⟨fun _ => k0 (fun b _ w1 _ w2 => by omega), fun c => absurd (by decide) c⟩)
  · rw [show (1 : Int32) = nI 1 from rfl, pk_sub p0]
    by_cases ho : ow ((p - 1) / 64) = z
    · obtain ⟨b, b1, b2, b3, b4⟩ := coverR h.2.1 h.2.2.2.2 (p - 1) (by omega) (by omega) (by rw [ho, kzz]; exact hkz)
      obtain ⟨t1, t2, t3⟩ := h.2.1 b (by omega) b2
      have hbp : b + ln b = p := by
        have := h.2.1.dj (by omega) b2 hl (show b < p by omega); omega
      refine lfp_inv (fun t => ∃ i : Nat, b ≤ i ∧ i < p ∧ t = nI i) (fun t => t.toNatClampNeg) ⟨p - 1, b1, by omega, rfl⟩ ?_
      rintro t X ⟨i, i1, i2, rfl⟩ hX
      have hoi : ow (i / 64) = z := by
        rcases Nat.lt_or_ge b i with w | w
        · rw [(t3 i w (by omega)).2, b4]; exact ho
        · rw [show i = b by omega, b4]; exact ho
      refine ⟨fun c => absurd c (nI_pos (by omega)), fun _ => m_isOf hp40 (owR h) mg (by omega) (by omega) (fun c => absurd ⟨by omega, hoi⟩ c) (fun _ _ => ⟨fun w => absurd w (by decide), fun _ => ?_⟩)⟩
      have hv : vp_in (nI i) 2560 := vp_in_nI (by omega) (by omega)
      rw [nI_clamp (by omega), (mg.2.2 i (by omega)).1, nI_add]
      refine ⟨hv, fun c => ?_, fun c => ⟨hv, fun c2 => ?_, fun c2 => ?_⟩⟩
      · have hbi : b < i := by
          rcases Nat.lt_or_ge b i with w | w
          · exact w
          · rw [show i = b by omega] at c
            exact absurd c (nI_nle b2 (by omega))
        rw [show nI i + -nI 1 = nI (i - 1) from nI_m1 (by omega)]
        refine hX _ ⟨i - 1, by omega, by omega, rfl⟩ ?_
        rw [nI_clamp (by omega), nI_clamp (by omega)]
        omega
      · have hib : i = b := by
          rcases Nat.lt_or_ge b i with w | w
          · rw [(t3 i w (by omega)).1] at c
            exact absurd (by decide) c
          · omega
        subst hib
        exact absurd (by rw [hbp]) c2
      · have hib : i = b := by
          rcases Nat.lt_or_ge b i with w | w
          · rw [(t3 i w (by omega)).1] at c
            exact absurd (by decide) c
          · omega
        subst hib
        exact k1 i (by omega) b2 (by rw [b4]; exact ho) hbp
    · refine lfp_once (fun X => ⟨fun c => absurd c (nI_pos (by omega)), fun _ => m_isOf hp40 (owR h) mg (by omega) (by omega) (fun _ => ⟨fun _ => k0 (fun b w0 w1 w2 w3 => ?_), fun w => absurd rfl w⟩) (fun _ c2 => absurd c2 ho)⟩)
      refine ho ?_
      rcases Nat.lt_or_ge b (p - 1) with u | u
      · rw [((h.2.1 b w0 w1).2.2 (p - 1) u (by omega)).2]; exact w2
      · rw [show p - 1 = b by omega]; exact w2
/-- two free pieces of a row are joined: what touches then -/
theorem mergeJ {P P' : Nat → Nat → Prop} {j q : Nat} (h : Tiled pg zn ow ln kd cl) (hj : j < 64 * pg) (hlj : 0 < ln j) (hq : q = j + ln j) (hq2 : q < 64 * pg) (hlq : 0 < ln q) (hfq : hd q < 0) (ho : ow (q / 64) = ow (j / 64)) (hz : 2 ≤ kz kd (ow (j / 64))) (e1 : ln' j = ln j + ln q) (e2 : ln' q = 0) (e3 : ∀ i, i ≠ j → i ≠ q → ln' i = ln i) (hJ : OkJq P pg ow ln hd kd) (p1 : ∀ i, i < 64 * pg → 0 < ln i → i ≠ j → i ≠ q → 2 ≤ kz kd (ow (i / 64)) → P' i (i + ln i) → P i (i + ln i)) (p2 : P' j (q + ln q) → P q (q + ln q)) (p3 : ∀ i, i < 64 * pg → 0 < ln i → kz kd (ow (i / 64)) = 1 → kz kd (ow (pair i (ln i) / 64)) = 1 → P' i (pair i (ln i)) → P i (pair i (ln i))) : OkJq P' pg ow ln' hd kd := by
  refine ⟨fun i hi hl hf hk hn ho2 hP => ?_, fun i hi hl hf hk h64 hP => ?_⟩
  · by_cases u : i = j
    · subst u
      rw [e1, show i + (ln i + ln q) = q + ln q by omega] at hn ho2 hP ⊢
      exact hJ.1 q hq2 hlq hfq (by rw [ho]; exact hk) hn (ho2.trans ho.symm) (p2 hP)
    · by_cases v : i = q
      · rw [v, e2] at hl; omega
      · rw [e3 i u v] at hl hn ho2 hP ⊢
        exact hJ.1 i hi hl hf hk hn ho2 (p1 i hi hl u v hk hP)
  · have u : i ≠ j := fun w => by rw [w] at hk; omega
    have v : i ≠ q := fun w => by rw [w, ho] at hk; omega
    rw [e3 i u v] at hl h64 hP ⊢
    have hpp := pair_page h.2.2.2.1 hi hl (h.2.1 i hi hl).1 hk h64
    have u2 : pair i (ln i) ≠ j := fun w => by rw [w] at hpp; rw [hpp] at hz; omega
    have v2 : pair i (ln i) ≠ q := fun w => by rw [w] at hpp; rw [← ho, hpp] at hz; omega
    rw [e3 _ u2 v2]
    exact hJ.2 i hi hl hf hk h64 (p3 i hi hl hk (by rw [hpp]; exact hk) hP)
/-- the reference's state after two are joined -/
theorem MG.merge {j q : Nat} (mg : MG pg ow ln hd τ) (hjq : j ≠ q) (hlj : 0 < ln j) (e1 : ln' j = ln j + ln q) (e2 : ln' q = 0) (e3 : ∀ i, i ≠ j → i ≠ q → ln' i = ln i) : MG pg ow ln' hd (sA (sA τ 1 j (nI (ln j + ln q))) 1 q 0) := by
  obtain ⟨m1, m2, m3⟩ := mg
  refine ⟨m1, m2, fun i hi => ?_⟩
  have key : upd (upd (gA τ 1) j (nI (ln j + ln q))) q 0 i = nI (ln' i) := by
    unfold upd
    by_cases u : i = q
    · rw [if_pos u, u, e2]; rfl
    · rw [if_neg u]
      by_cases v : i = j
      · rw [if_pos v, v, e1]
      · rw [if_neg v, e3 i v u]; exact (m3 i hi).1
  refine ⟨key, fun hl => ?_⟩
  show gA τ 2 i = _
  by_cases u : i = q
  · rw [u, e2] at hl; omega
  · by_cases v : i = j
    · rw [v] at hi ⊢; exact (m3 j hi).2 hlj
    · rw [e3 i v u] at hl; exact (m3 i hi).2 hl
theorem m_join (h : Tiled pg zn ow ln kd cl) (hK : OkK pg zn ow ln hd th zo pl) (mg : MG pg ow ln hd τ) {p z : Nat} (hp : p < 64 * pg) (hl : 0 < ln p) (hf : hd p < 0) (hoz : ow (p / 64) = z) (hzn : z < zn) (hkz : 2 ≤ kd z) (hJ : OkJq (fun j q => j ≠ p ∧ q ≠ p) pg ow ln hd kd) {Q : SS → Prop} (k : ∀ τ' ln', Tiled pg zn ow ln' kd cl → OkK pg zn ow ln' hd th zo pl → MG pg ow ln' hd τ' → AgQ τ τ' → (∀ s, s < 100 → th s = true → ln' (pl s) = ln (pl s)) → OkJ pg ow ln' hd kd → Q τ') : wX7_join (nI z) (nI p) τ Q := by
  have hp40 := h.1.1
  have hz8 := h.1.2.1
  have kzz : kz kd (z : Int) = kd z := by unfold kz; rw [Int.toNat_natCast]
  have hkp : 2 ≤ kz kd (ow (p / 64)) := by rw [hoz, kzz]; exact hkz
  have hvp : vp_in (nI p) 2560 := vp_in_nI (by omega) (by omega)
  -- the second half: what is ahead
  have back : ∀ (l : Nat → Nat) (τ1 : SS), Tiled pg zn ow l kd cl → OkK pg zn ow l hd th zo pl → MG pg ow l hd τ1 → AgQ τ τ1 → (∀ s, s < 100 → th s = true → l (pl s) = ln (pl s)) → 0 < l p → OkJq (fun j q => q ≠ p) pg ow l hd kd → wX7_join_b40 (nI z) (nI p) τ1 Q := by
    intro l τ1 hT1 hK1 mg1 ag1 bl1 hl1 hJ1
    unfold wX7_join_b40
    have only : ∀ b, b < 64 * pg → 0 < l b → b + l b = p → ∀ i, i < 64 * pg → 0 < l i → i ≠ b → i + l i ≠ p := by
      intro b b1 b2 b3 i i1 i2 i3 w
      rcases Nat.lt_or_ge i b with v | v
      · have := hT1.2.1.dj i1 i2 b2 v; omega
      · have := hT1.2.1.dj b1 b2 i2 (by omega); omega
    have pairNe : ∀ i, i < 64 * pg → 0 < l i → kz kd (ow (pair i (l i) / 64)) = 1 → pair i (l i) ≠ p := fun i i1 i2 i3 w => by rw [w] at i3; omega
    have full : (∀ b, b < 64 * pg → 0 < l b → hd b < 0 → ow (b / 64) = z → ¬ b + l b = p) → OkJ pg ow l hd kd := by
      intro hno
      refine ⟨fun j hj hlj hfj hk hn ho => ?_, fun j hj hlj hfj hk h64 => hJ1.2 j hj hlj hfj hk h64 (pairNe j hj hlj (by rw [pair_page hT1.2.2.2.1 hj hlj (hT1.2.1 j hj hlj).1 hk h64]; exact hk))⟩
      by_cases w : j + l j = p
      · rw [w, hoz] at ho
        exact absurd w (hno j hj hlj hfj ho.symm)
      · exact hJ1.1 j hj hlj hfj hk hn ho w
    refine m_ahead hT1 mg1 hp hl1 hzn hkz (fun hno => ⟨fun _ => ?_, fun c => absurd (by decide) c⟩) (fun b b1 b2 b3 b4 => ⟨fun c => absurd c (nI_pos (by omega)), fun _ => ⟨vp_in_nI (by omega) (by omega), ?_⟩⟩)
    · exact k τ1 l hT1 hK1 mg1 ag1 bl1 (full (fun b w1 w2 _ w3 => hno b w1 w2 w3))
    · obtain ⟨m1, m2⟩ := mg1.2.2 b b1
      rw [nI_clamp (by omega), m2 b2]
      refine ⟨fun c => ?_, fun c => ?_⟩
      · refine k τ1 l hT1 hK1 mg1 ag1 bl1 (full (fun i w1 w2 w3 w4 w5 => ?_))
        by_cases u : i = b
        · subst u
          rcases hK1.2 i w1 w2 with v | ⟨v, -⟩
          · exact c (by rw [v]; rfl)
          · omega
        · exact only b b1 b2 b4 i w1 w2 u w5
      · have hfb : hd b < 0 := by
          rcases hK1.2 b b1 b2 with v | ⟨v1, v2, -⟩
          · omega
          · rw [l_m1, iI_eq (by omega) (by omega) (by omega) (by omega)] at c
            omega
        have hvb : vp_in (nI b) 2560 := vp_in_nI (by omega) (by omega)
        rw [m1, nI_clamp (by omega), (mg1.2.2 p hp).1, nI_add]
        refine ⟨hvb, hvp, hvb, hvp, ?_⟩
        obtain ⟨l', hl'⟩ : ∃ l' : Nat → Nat, l' = fun i => if i = b then l b + l p else if i = p then 0 else l i := ⟨_, rfl⟩
        have q1 : l' b = l b + l p := by rw [hl']; show (if b = b then _ else _) = _; rw [if_pos rfl]
        have q2 : l' p = 0 := by rw [hl']; show (if p = b then _ else _) = _; rw [if_neg (by omega), if_pos rfl]
        have q3 : ∀ i, i ≠ b → i ≠ p → l' i = l i := by intro i i1 i2; rw [hl']; show (if i = b then _ else _) = _; rw [if_neg i1, if_neg i2]
        have hkb : 2 ≤ kz kd (ow (b / 64)) := by rw [b3, kzz]; exact hkz
        obtain ⟨hK2, bl2⟩ := mergeOk (ln' := l') hK1 b1 b2 hf b4.symm hfb q1 q2 q3
        have hJ2 : OkJq (fun _ _ => True) pg ow l' hd kd := mergeJ hT1 b1 b2 b4.symm hp hl1 hf (by rw [hoz, b3]) hkb q1 q2 q3 hJ1 (fun i i1 i2 i3 i4 _ _ => only b b1 b2 b4 i i1 i2 i3) (fun _ => by omega) (fun i i1 i2 i3 i4 _ => pairNe i i1 i2 i4)
        exact k _ l' (mergeRow hT1 b1 b2 b4.symm hp hl1 (by rw [hoz, b3]) hkb q1 q2 q3) hK2 (mg1.merge (by omega) b2 q1 q2 q3) ((ag1.tr (AgQ.m _ _ _ _ (by omega))).tr (AgQ.m _ _ _ _ (by omega))) (fun s hs ht => (bl2 s hs ht).trans (bl1 s hs ht)) ⟨fun j a b c d e f => hJ2.1 j a b c d e f trivial, fun j a b c d e => hJ2.2 j a b c d e trivial⟩
  unfold wX7_join
  obtain ⟨t1, t2, t3⟩ := h.2.1 p hp hl
  rw [nI_clamp (by omega), (mg.2.2 p hp).1, nI_add]
  refine ⟨hvp, m_isFreeM h hK mg (by omega) (by omega) (fun c => ⟨fun _ => ?_, fun w => absurd rfl w⟩) (fun c1 c2 c3 c4 => ⟨fun w => absurd w (by decide), fun _ => ?_⟩)⟩
  · refine back ln τ h hK mg (AgQ.rf τ) (fun _ _ _ => rfl) hl ⟨fun j hj hlj hfj hk hn ho hP => ?_, fun j hj hlj hfj hk h64 hP => hJ.2 j hj hlj hfj hk h64 ⟨fun w => by rw [w] at hk; omega, hP⟩⟩
    by_cases w : j = p
    · subst w
      rcases h.2.2.2.2.2 j hj hlj hk with ⟨r1, r2, r3⟩ | ⟨r1, r2⟩
      · rcases Int.lt_or_le (hd (j + ln j)) 0 with v | v
        · exact absurd ⟨hn, by rw [ho]; exact hoz, r3, v⟩ c
        · exact v
      · exact absurd ho (r2 hn)
    · exact hJ.1 j hj hlj hfj hk hn ho ⟨w, hP⟩
  · have hvq : vp_in (nI (p + ln p)) 2560 := vp_in_nI (by omega) (by omega)
    refine ⟨hvp, hvq, hvp, hvq, fun σ39 e39 => ?_⟩
    rw [nI_clamp (by omega), (mg.2.2 _ c1).1, nI_add] at e39
    subst e39
    obtain ⟨l', hl'⟩ : ∃ l' : Nat → Nat, l' = fun i => if i = p then ln p + ln (p + ln p) else if i = p + ln p then 0 else ln i := ⟨_, rfl⟩
    have q1 : l' p = ln p + ln (p + ln p) := by rw [hl']; show (if p = p then _ else _) = _; rw [if_pos rfl]
    have q2 : l' (p + ln p) = 0 := by rw [hl']; show (if p + ln p = p then _ else _) = _; rw [if_neg (by omega), if_pos rfl]
    have q3 : ∀ i, i ≠ p → i ≠ p + ln p → l' i = ln i := by intro i i1 i2; rw [hl']; show (if i = p then _ else _) = _; rw [if_neg i1, if_neg i2]
    obtain ⟨hK2, bl2⟩ := mergeOk (ln' := l') hK hp hl c4 rfl hf q1 q2 q3
    refine back l' _ (mergeRow h hp hl rfl c1 c3 (by rw [hoz]; exact c2) hkp q1 q2 q3) hK2 (mg.merge (by omega) hl q1 q2 q3) ((AgQ.m _ _ _ _ (by omega)).tr (AgQ.m _ _ _ _ (by omega))) bl2 (by omega) (mergeJ h hp hl rfl c1 c3 c4 (by rw [hoz]; exact c2) hkp q1 q2 q3 hJ (fun i i1 i2 i3 i4 _ hP => ⟨i3, hP⟩) (fun _ => ⟨by omega, by omega⟩) (fun i i1 i2 i3 i4 hP => ⟨fun w => by rw [w] at i3; omega, hP⟩))
end JOIN
