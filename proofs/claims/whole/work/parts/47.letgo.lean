/-! ===== the class: whole pages of a free piece go ===== -/
/-- owners of pages [a, i) set to v, nothing else -/
def OwnR (σ σ' : SS) (a i : Nat) (v : Int32) : Prop := (∀ k, gI σ' k = gI σ k) ∧ (∀ k, k ≠ 0 → gA σ' k = gA σ k) ∧ (∀ k, gB σ' k = gB σ k) ∧ (∀ k, gL σ' k = gL σ k) ∧ ∀ k, gA σ' 0 k = if a ≤ k ∧ k < i then v else gA σ 0 k
theorem OwnR.z (σ : SS) (a : Nat) (v : Int32) : OwnR σ σ a a v := ⟨fun _ => rfl, fun _ _ => rfl, fun _ => rfl, fun _ => rfl, fun k => by rw [if_neg (by omega)]⟩
theorem OwnR.s {σ σ' : SS} {a i : Nat} {v : Int32} (h : OwnR σ σ' a i v) (hi : a ≤ i) : OwnR σ (sA σ' 0 i v) a (i + 1) v := by
  obtain ⟨h1, h2, h3, h4, h5⟩ := h
  refine ⟨h1, fun k hk => (gA_sA_ne _ _ _ hk).trans (h2 k hk), h3, h4, fun k => ?_⟩
  rw [gA_sA]
  unfold upd
  by_cases e : k = i
  · rw [if_pos e, if_pos (by omega)]
  · rw [if_neg e, h5 k]
    by_cases c : a ≤ k ∧ k < i
    · rw [if_pos c, if_pos (by omega)]
    · rw [if_neg c, if_neg (by omega)]
theorem OwnR.agp {σ σ' : SS} {a i : Nat} {v : Int32} (h : OwnR σ σ' a i v) : AgP σ σ' := ⟨h.1, fun k h0 _ => h.2.1 k h0, h.2.2.1, h.2.2.2.1⟩
section LETGO
variable {pg zn : Nat} {ow : Nat → Int} {ln kd cl : Nat → Nat} {hd : Nat → Int} {th : Nat → Bool} {sz zo pl : Nat → Nat} {bw : Nat → Int64} {σ : SS}
theorem x_letGoPages (hp40 : pg ≤ 40) (hT : OkT pg ow ln) (xg : XG pg ow ln hd σ) {p : Nat} (hp : p < 64 * pg) (hl : 0 < ln p) (hf : hd p < 0) {Q : SS → Prop} (k0 : ¬ (p + 63) / 64 < (p + ln p) / 64 → Q σ) (k1 : ∀ σ' ow' ln' hd', LetGo pg ow ln hd ow' ln' hd' p ((p + 63) / 64) ((p + ln p) / 64) → XG pg ow' ln' hd' σ' → AgP σ σ' → Q σ') : wX4_letGoPages (nI p) (nI (p + ln p)) σ Q := by
  obtain ⟨t1, t2, t3⟩ := hT p hp hl
  unfold wX4_letGoPages
  rw [show (64 : Int32) = nI 64 from rfl, show (1 : Int32) = nI 1 from rfl, nI_add, pk_sub (by omega), pk_div (by omega) (by omega) (by omega), pk_div (by omega) (by omega) (by omega), show p + 64 - 1 = p + 63 by omega]
  obtain ⟨a, ha⟩ : ∃ a, a = (p + 63) / 64 := ⟨_, rfl⟩
  obtain ⟨b, hb⟩ : ∃ b, b = (p + ln p) / 64 := ⟨_, rfl⟩
  rw [← ha, ← hb] at k0 k1 ⊢
  refine ⟨fun c => ?_, fun c => k0 (fun w => c (nI_lt w (by omega)))⟩
  have hab : a < b := (nI_ltI (by omega) (by omega)).mp c
  unfold wX4_letGoPages_b26 wX4_letGoPages_b62
  have fin : ∀ σ1, OwnR σ σ1 a b (iI (-1)) → wX3_mark (nI p) (nI a * 64 - nI p) σ1 (fun σ73 => (nI (p + ln p) ≤ nI b * 64 → Q σ73) ∧ (¬ nI (p + ln p) ≤ nI b * 64 → wX3_mark (nI b * 64) (nI (p + ln p) - nI b * 64) σ73 (fun σ101 => Q σ101))) := by
    intro σ1 O
    obtain ⟨q1, q2, q3, q4, q5⟩ := id O
    rw [show (64 : Int32) = nI 64 from rfl, pk_mul, pk_mul, pk_sub (by omega), show a * 64 = 64 * a by omega, show b * 64 = 64 * b by omega]
    refine x_mark (by omega) ?_
    obtain ⟨x1, x2, x3⟩ := id xg
    have hA1 : gA σ1 1 = gA σ 1 := q2 1 (by omega)
    obtain ⟨ow', how⟩ : ∃ ow' : Nat → Int, ow' = fun k => if a ≤ k ∧ k < b then -1 else ow k := ⟨_, rfl⟩
    obtain ⟨ln', hln⟩ : ∃ ln' : Nat → Nat, ln' = fun j => if j = p then 64 * a - p else if 64 * a ≤ j ∧ j < 64 * b then 0 else if j = 64 * b ∧ 64 * b < p + ln p then p + ln p - 64 * b else ln j := ⟨_, rfl⟩
    obtain ⟨hd', hhd⟩ : ∃ hd' : Nat → Int, hd' = fun j => if j = 64 * b ∧ 64 * b < p + ln p then -1 else hd j := ⟨_, rfl⟩
    have g : LetGo pg ow ln hd ow' ln' hd' p a b := by
      refine ⟨⟨hp, hl, hf, by omega, hab, by omega⟩, fun k h1 h2 => ?_, fun k h1 => ?_, ?_, fun j h1 h2 => ?_, fun h1 => ⟨?_, ?_⟩, fun j h1 h2 h3 => ?_, fun j h1 => ?_⟩
      · rw [how]; exact if_pos ⟨h1, h2⟩
      · rw [how]; exact if_neg h1
      · rw [hln]; exact if_pos rfl
      · rw [hln]
        show (if j = p then _ else _) = _
        by_cases e : j = p
        · rw [if_pos e]; omega
        · rw [if_neg e, if_pos ⟨h1, h2⟩]
      · rw [hln]
        show (if 64 * b = p then _ else _) = _
        rw [if_neg (by omega), if_neg (by omega), if_pos ⟨rfl, h1⟩]
      · rw [hhd]; exact if_pos ⟨rfl, h1⟩
      · rw [hln]
        show (if j = p then _ else _) = _
        rw [if_neg h1, if_neg h2, if_neg (fun w => h3 w.1 w.2)]
      · rw [hhd]; exact if_neg (fun w => h1 w.1 w.2)
    have hown : ∀ σ2 : SS, gA σ2 0 = gA σ1 0 → ∀ k, k < pg → gA σ2 0 k = iI (ow' k) := by
      intro σ2 e k hk
      rw [e, q5 k, how]
      show _ = iI (if a ≤ k ∧ k < b then -1 else ow k)
      by_cases c : a ≤ k ∧ k < b
      · rw [if_pos c, if_pos c]
      · rw [if_neg c, if_neg c]; exact x2 k hk
    have hpc : ∀ (f : Nat → Int32), (∀ j, j < 64 * pg → (j = 64 * b → ¬ 64 * b < p + ln p) → f j = if j = p then nI (64 * a - p) else gA σ 1 j) → (64 * b < p + ln p → f (64 * b) = nI (p + ln p - 64 * b)) → ∀ j, j < 64 * pg → f j = iI (mkI (ln' j) (hd' j)) := by
      intro f f1 f2 j hj
      by_cases e : j = 64 * b ∧ 64 * b < p + ln p
      · obtain ⟨e1, e2⟩ := e
        subst e1
        obtain ⟨g1, g2⟩ := g.2.2.2.2.2.1 e2
        rw [f2 e2, g1, g2]
        unfold mkI
        rw [if_neg (by omega), if_pos (by omega), nI_iI]
      · have e' : j = 64 * b → ¬ 64 * b < p + ln p := fun w1 w2 => e ⟨w1, w2⟩
        rw [f1 j hj e', g.2.2.2.2.2.2.2 j e']
        by_cases c : j = p
        · rw [if_pos c, c, g.2.2.2.1]
          unfold mkI
          by_cases c2 : 64 * a - p = 0
          · rw [if_pos c2, c2]; rfl
          · rw [if_neg c2, if_pos hf, nI_iI]
        · rw [if_neg c, x3 j hj]
          by_cases c2 : 64 * a ≤ j ∧ j < 64 * b
          · rw [g.2.2.2.2.1 j c2.1 c2.2, (t3 j (by omega) (by omega)).1]
          · rw [g.2.2.2.2.2.2.1 j c c2 e']
    refine ⟨fun c2 => ?_, fun c2 => ?_⟩
    · have hnb : ¬ 64 * b < p + ln p := fun w => by
        exact absurd c2 (nI_ge w (by omega))
      refine k1 _ ow' ln' hd' g ⟨(q1 0).trans x1, hown _ (gA_sA_ne _ _ _ (by omega)), hpc _ (fun j hj _ => ?_) (fun w => absurd w hnb)⟩ (O.agp.tr (AgP.m1 _ _ _))
      rw [gA_sA, hA1]
      rfl
    · have hnb : 64 * b < p + ln p := by
        rcases Nat.lt_or_ge (64 * b) (p + ln p) with w | w
        · exact w
        · exact absurd (nI_le w (by omega)) c2
      rw [pk_sub (by omega)]
      refine x_mark (by omega) (k1 _ ow' ln' hd' g ⟨(q1 0).trans x1, hown _ ((gA_sA_ne _ _ _ (by omega)).trans (gA_sA_ne _ _ _ (by omega))), hpc _ (fun j hj hjb => ?_) (fun _ => ?_)⟩ ((O.agp.tr (AgP.m1 _ _ _)).tr (AgP.m1 _ _ _)))
      · rw [gA_sA, gA_sA, hA1]
        unfold upd
        rw [if_neg (fun w => hjb w hnb)]
      · rw [gA_sA]
        unfold upd
        rw [if_pos rfl]
  refine lfp_inv (fun t => ∃ i : Nat, a ≤ i ∧ i ≤ b ∧ t.1 = nI i ∧ OwnR σ t.2 a i (iI (-1))) (fun t => b - t.1.toNatClampNeg) ⟨a, by omega, by omega, rfl, OwnR.z σ a _⟩ ?_
  rintro ⟨t1', t2'⟩ X ⟨i, i1, i2, e1, O'⟩ hX
  have e1' : t1' = nI i := e1
  subst e1'
  have O : OwnR σ t2' a i (iI (-1)) := O'
  refine ⟨fun c2 => ?_, fun c2 => ⟨fun c3 => ?_, fun c3 => ⟨vp_in_nI ?_ (by omega), ?_⟩⟩⟩
  · have : i = b := by
      rcases Nat.lt_or_ge i b with w | w
      · exact absurd c2 (nI_ge w (by omega))
      · omega
    subst this
    exact fin t2' O
  · rw [show ((nI i, t2') : Int32 × SS).2 = t2' from rfl, O.1 0, xg.1] at c3
    have hib : i < b := by
      rcases Nat.lt_or_ge i b with w | w
      · exact w
      · exact absurd (nI_le w (by omega)) c2
    exact absurd c3 (nI_ge (show i < pg by omega) (by omega))
  · rcases Nat.lt_or_ge i b with w | w
    · omega
    · exact absurd (nI_le w (by omega)) c2
  · have hib : i < b := by
      rcases Nat.lt_or_ge i b with w | w
      · exact w
      · exact absurd (nI_le w (by omega)) c2
    refine hX _ ⟨i + 1, by omega, by omega, ?_, ?_⟩ ?_
    · show nI i + 1 = _
      rw [nI_1]
    · rw [show ((nI i, t2') : Int32 × SS).1 = nI i from rfl, nI_clamp (by omega), show (-1 : Int32) = iI (-1) from l_m1]
      exact O.s i1
    · show b - (nI i + 1).toNatClampNeg < b - (nI i).toNatClampNeg
      rw [nI_1, nI_clamp (by omega), nI_clamp (by omega)]
      omega
/-- what an act leaves to be tidied in a zone -/
def Rest (z : Nat) (pg zn : Nat) (ow : Nat → Int) (ln : Nat → Nat) (hd : Nat → Int) (kd cl : Nat → Nat) (th : Nat → Bool) (sz zo pl : Nat → Nat) : Prop := Tiled pg zn ow ln kd cl ∧ OkK pg zn ow ln hd th zo pl ∧ OkSz kd cl ln th sz zo pl ∧ OkJq (fun j _ => ¬ ow (j / 64) = z) pg ow ln hd kd ∧ OkSetq (fun k => ¬ ow k = z) pg ow ln hd kd
theorem OkSz.same {ln' : Nat → Nat} (h : OkSz kd cl ln th sz zo pl) (hl : ∀ s, s < 100 → th s = true → ln' (pl s) = ln (pl s)) : OkSz kd cl ln' th sz zo pl := by
  intro s hs ht
  rw [hl s hs ht]
  exact h s hs ht
theorem x_tidyRow {z : Nat} (hR : Rest z pg zn ow ln hd kd cl th sz zo pl) (xg : XG pg ow ln hd σ) (xb : XB ln th sz zo pl σ) (hzn : z < zn) (hkz : 2 ≤ kd z) {Q : SS → Prop} (k : ∀ σ' ow' ln' hd', Gh pg zn ow' ln' hd' kd cl th sz zo pl → XG pg ow' ln' hd' σ' → AgP σ σ' → (∀ s, s < 100 → th s = true → ln' (pl s) = ln (pl s)) → (∀ k, k < pg → (ow' k = -2 ↔ ow k = -2)) → Q σ') : wX4_tidy (nI z) σ Q := by
  obtain ⟨hT, hK, hSz, hJ, hSet⟩ := hR
  have hp40 := hT.1.1
  have hz8 := hT.1.2.1
  have kzz : kz kd (z : Int) = kd z := by unfold kz; rw [Int.toNat_natCast]
  unfold wX4_tidy
  refine x_joinT hT hK xg xb hzn hkz (fun σ1 l1 hT1 hK1 xg1 ag1 bl1 oz1 jd1 => ?_)
  have hJ1 : OkJ pg ow l1 hd kd := by
    refine ⟨fun j hj hl hf hk hn ho => ?_, fun j hj hl hf hk h64 => ?_⟩
    · by_cases u : ow (j / 64) = z
      · exact jd1 j hj hl hf u hn (ho.trans u)
      · rw [oz1 j hj u] at hl hn ho ⊢
        exact hJ.1 j hj hl hf hk hn ho u
    · have u : ¬ ow (j / 64) = z := fun w => by rw [w, kzz] at hk; omega
      have hpp := pair_page hT1.2.2.2.1 hj hl (hT1.2.1 j hj hl).1 hk h64
      rw [oz1 j hj u] at hl h64 hpp ⊢
      rw [oz1 (pair j (ln j)) (by omega) (by rw [hpp]; exact u)]
      exact hJ.2 j hj hl hf hk h64 u
  have hSet1 : OkSetq (fun k => ¬ ow k = z) pg ow l1 hd kd := by
    refine ⟨fun k hk hP h0 hkz => ?_, fun k hk hP h0 hkz => ?_, fun j hj hl hf hkz k hP h1 h2 => ?_⟩
    · obtain ⟨i, i1, i2, i3⟩ := hSet.1 k hk hP h0 hkz
      exact ⟨i, i1, by rw [oz1 _ (by omega) (by rw [show (64 * k + i) / 64 = k by omega]; exact hP)]; exact i2, i3⟩
    · rw [oz1 _ (by omega) (by rw [show 64 * k / 64 = k by omega]; exact hP)]
      exact hSet.2.1 k hk hP h0 hkz
    · obtain ⟨t1, t2, t3⟩ := hT1.2.1 j hj hl
      have hok : ow k = ow (j / 64) := by
        rcases Nat.lt_or_ge j (64 * k) with u | u
        · have := (t3 (64 * k) u (by omega)).2
          rw [show 64 * k / 64 = k by omega] at this
          exact this
        · rw [show j / 64 = k by omega]
      have u : ¬ ow (j / 64) = z := fun w => hP (hok.trans w)
      rw [oz1 j hj u] at hl h2
      exact hSet.2.2 j hj hl hf hkz k hP h1 h2
  unfold wX4_tidy_b7 wX4_tidy_b51
  refine lfp_inv (fun t => ∃ (p : Nat) (o : Nat → Int) (l : Nat → Nat) (d : Nat → Int), p ≤ 64 * pg ∧ Bd pg o l kd cl p ∧ Tiled pg zn o l kd cl ∧ OkK pg zn o l d th zo pl ∧ XG pg o l d t.2 ∧ AgP σ t.2 ∧ (∀ s, s < 100 → th s = true → l (pl s) = ln (pl s)) ∧ OkJ pg o l d kd ∧ OkSetq (fun k => ¬ ow k = z) pg o l d kd ∧ (∀ k, o k = ow k ∨ (o k = -1 ∧ ow k = z)) ∧ (∀ j, j < p → 0 < l j → d j < 0 → o (j / 64) = z → ∀ k, j ≤ 64 * k → ¬ 64 * k + 64 ≤ j + l j) ∧ t.1 = nI p) (fun t => 64 * pg - t.1.toNatClampNeg) ⟨0, ow, l1, hd, by omega, Bd_0 hT1, hT1, hK1, xg1, ag1, bl1, hJ1, hSet1, fun _ => Or.inl rfl, fun j w => by omega, rfl⟩ ?_
  rintro ⟨t1, t2⟩ X ⟨p, o, l, d, hpp, hb, hT0, hK0, xg0', ag', bl, hJ0, hS0, oo, sz0, e1⟩ hX
  have e1' : t1 = nI p := e1
  subst e1'
  have xg0 : XG pg o l d t2 := xg0'
  have ag : AgP σ t2 := ag'
  have xb0 : XB l th sz zo pl t2 := xb.agp ag bl
  refine x_places xg0 ⟨fun c => ?_, fun c => ?_⟩
  · have : p = 64 * pg := by
      rcases Nat.lt_or_ge p (64 * pg) with w | w
      · exact absurd c (nI_ge w (by omega))
      · omega
    subst this
    refine k t2 o l d ⟨hT0, hK0, hSz.same bl, ⟨fun k hk h0 hkz => ?_, fun k hk h0 hkz => ?_, fun j hj hl hf hkz k h1 h2 => ?_⟩, hJ0⟩ xg0 ag bl (fun k hk => ?_)
    · refine hS0.1 k hk (fun w => ?_) h0 hkz
      rcases oo k with v | ⟨v1, v2⟩
      · rw [v, w, kzz] at hkz; omega
      · omega
    · refine hS0.2.1 k hk (fun w => ?_) h0 hkz
      rcases oo k with v | ⟨v1, v2⟩
      · rw [v, w, kzz] at hkz; omega
      · omega
    · by_cases u : o (j / 64) = z
      · exact sz0 j hj hl hf u k h1 h2
      · refine hS0.2.2 j hj hl hf hkz k (fun w => ?_) h1 h2
        obtain ⟨t1, t2, t3⟩ := hT0.2.1 j hj hl
        have hok : o k = o (j / 64) := by
          rcases Nat.lt_or_ge j (64 * k) with v | v
          · have := (t3 (64 * k) v (by omega)).2
            rw [show 64 * k / 64 = k by omega] at this
            exact this
          · rw [show j / 64 = k by omega]
        rcases oo k with v | ⟨v1, v2⟩
        · exact u (by rw [← hok, v, w])
        · omega
    · rcases oo k with v | ⟨v1, v2⟩
      · rw [v]
      · omega
  · have hlt : p < 64 * pg := by
      rcases Nat.lt_or_ge p (64 * pg) with w | w
      · exact w
      · exact absurd (nI_le w (by omega)) c
    obtain ⟨b1, b2, b3, b4⟩ := eoBd hT0 hb hlt
    have hm : ∀ s : SS, 64 * pg - ((nI (eo o l p), s) : Int32 × SS).1.toNatClampNeg < 64 * pg - ((nI p, t2) : Int32 × SS).1.toNatClampNeg := by
      intro s
      show 64 * pg - (nI (eo o l p)).toNatClampNeg < 64 * pg - (nI p).toNatClampNeg
      rw [nI_clamp (by omega), nI_clamp (by omega)]
      omega
    have hfl := fr_le (hd := d) (z := z) hT0.2.1 hlt
    have hcut : ∀ j, j < 64 * pg → 0 < l j → o (j / 64) = z → j + l j ≤ p ∨ j = p ∨ eo o l p ≤ j := fun j h1 h2 h3 => bdCut hT0 hb hlt h1 h2 (by rw [h3, kzz]; omega)
    refine x_endOf xg0 hT0.1 hT0.2.1 hK0 xb0 hlt (x_freeAt xg0 hT0.1 hT0.2.1 hK0 hlt (by omega) ?_)
    rw [x_max b1 (by omega)]
    refine ⟨fun c2 => ?_, fun c2 => ?_⟩
    · have hfr : fr o l d z p = 0 := by
        rcases Nat.eq_zero_or_pos (fr o l d z p) with w | w
        · exact w
        · exact absurd c2 (nI_nle w (by omega))
      refine hX _ ⟨eo o l p, o, l, d, b2, b3, hT0, hK0, xg0, ag, bl, hJ0, hS0, oo, fun j h1 h2 h3 h4 => ?_, rfl⟩ (hm _)
      rcases hcut j (by omega) h2 h4 with y | y | y
      · exact sz0 j (by omega) h2 h3 h4
      · subst y
        unfold fr at hfr
        rw [if_pos ⟨h4, h3⟩] at hfr
        omega
      · omega
    · have hfr : 0 < fr o l d z p := by
        rcases Nat.eq_zero_or_pos (fr o l d z p) with w | w
        · rw [w] at c2; exact absurd (by decide) c2
        · exact w
      have hfz : o (p / 64) = z ∧ d p < 0 ∧ 0 < l p := by
        unfold fr at hfr
        split at hfr
        · next w => exact ⟨w.1, w.2, hfr⟩
        · omega
      obtain ⟨f1, f2, f3⟩ := hfz
      have heo : eo o l p = p + l p := by unfold eo; rw [if_neg (by omega), if_pos f3]
      rw [heo] at hm b1 b2 b3 b4 hcut ⊢
      refine x_letGoPages hp40 hT0.2.1 xg0 hlt f3 f2 (fun hno => ?_) (fun σ3 o3 l3 d3 g xg3 ag3 => ?_)
      · refine hX _ ⟨p + l p, o, l, d, b2, b3, hT0, hK0, xg0, ag, bl, hJ0, hS0, oo, fun j h1 h2 h3 h4 => ?_, rfl⟩ (hm _)
        rcases hcut j (by omega) h2 h4 with y | y | y
        · exact sz0 j (by omega) h2 h3 h4
        · subst y
          intro k h5 h6
          omega
        · omega
      · obtain ⟨hK3, bl3⟩ := g.ok hT0.2.1 hK0
        have hrz : 2 ≤ kz kd (o (p / 64)) := by rw [f1, kzz]; exact hkz
        obtain ⟨⟨g1, g2, g3, g4, g5, g6⟩, o1, o2, q1, q2, q3, q4, q5⟩ := id g
        have hoe : o3 ((p + l p) / 64) = o ((p + l p) / 64) := o2 _ (by omega)
        have hle : l3 (p + l p) = l (p + l p) := q4 _ (by omega) (by omega) (by omega)
        refine hX _ ⟨p + l p, o3, l3, d3, b2, ?_, g.til hT0 hrz, hK3, xg3, ag.tr ag3, fun s hs ht => (bl3 s hs ht).trans (bl s hs ht), g.jn hT0 hrz hJ0, g.set hT0.2.1 hrz hS0, fun k => ?_, fun j h1 h2 h3 h4 => ?_, rfl⟩ (hm _)
        · unfold Bd at b3 ⊢
          rw [hoe, hle]
          exact b3
        · by_cases w : (p + 63) / 64 ≤ k ∧ k < (p + l p) / 64
          · right
            refine ⟨o1 k w.1 w.2, ?_⟩
            have hok : o k = z := by
              rcases Nat.lt_or_ge p (64 * k) with v | v
              · have := ((hT0.2.1 p hlt f3).2.2 (64 * k) v (by omega)).2
                rw [show 64 * k / 64 = k by omega] at this
                exact this.trans f1
              · rw [show k = p / 64 by omega]; exact f1
            rcases oo k with v | ⟨v1, v2⟩
            · rw [← v]; exact hok
            · exact v2
          · rw [o2 k w]; exact oo k
        · rcases g.cases hT0.2.1 h2 with ⟨c1, c3, c4, c5, c6⟩ | ⟨c1, c3, c4, c5, c6⟩ | ⟨c1, c3, c4, c5, c6⟩
          · intro k h5 h6; omega
          · intro k h5 h6; omega
          · rw [c4] at h2
            rw [c5] at h3
            rw [c6] at h4
            rw [c4]
            exact sz0 j (by omega) h2 h3 h4
end LETGO
