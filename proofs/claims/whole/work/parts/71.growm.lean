/-! ===== grow where it is: the reference ===== -/
section GROWM
variable {pg zn : Nat} {ow : Nat → Int} {ln kd cl : Nat → Nat} {hd : Nat → Int} {th : Nat → Bool} {sz zo pl : Nat → Nat} {bw : Nat → Int64} {σ τ : SS}
/-- a block can have n numbers where it is -/
def InP (pg : Nat) (ow : Nat → Int) (ln : Nat → Nat) (hd : Nat → Int) (kd sz zo pl : Nat → Nat) (s n : Nat) : Prop := n = sz s ∨ kd (zo s) = 0 ∨ (kd (zo s) = 1 ∧ n ≤ ln (pl s)) ∨ (2 ≤ kd (zo s) ∧ n ≤ sz s + bhd pg ow ln hd (zo s) (pl s + ln (pl s)))
theorem x_fitsK (hg : Gh pg zn ow ln hd kd cl th sz zo pl) (xg : XG pg ow ln hd σ) (xb : XB ln th sz zo pl σ) {s n : Nat} (hs : s < 100) (ht : th s = true) (hn : sz s < n) (hn2 : n ≤ 2000) {Q : Int32 → Prop} (k1 : InP pg ow ln hd kd sz zo pl s n → Q 1) (k0 : ¬ InP pg ow ln hd kd sz zo pl s n → Q 0) : wK_fits (kp (kd (zo s))) (nI s) (nI n) σ Q := by
  obtain ⟨z1, z2, z3, z4, z5, z6, z7, z8, z9⟩ := blk hg hs ht
  obtain ⟨x4, x5, x6, x7⟩ := (xb s hs).1 ht
  have hv : vp_in (nI s) 100 := vp_in_nI hs (by omega)
  unfold InP at k1 k0
  unfold kp
  by_cases h0 : kd (zo s) = 0
  · rw [if_pos h0]
    show wX5_fits (nI s) (nI n) σ Q
    unfold wX5_fits
    exact k1 (Or.inr (Or.inl h0))
  · rw [if_neg h0]
    by_cases h1 : kd (zo s) = 1
    · rw [if_pos h1]
      show wX0_fits (nI s) (nI n) σ Q
      unfold wX0_fits
      rw [nI_clamp (by omega), x6, nI_ltI (by omega) (by omega)]
      exact ⟨hv, fun c => k0 (by omega), fun c => k1 (Or.inr (Or.inr (Or.inl ⟨h1, by omega⟩)))⟩
    · rw [if_neg h1]
      show wX4_fits (nI s) (nI n) σ Q
      unfold wX4_fits
      have hbl := (bhd_le hg (zo s) (pl s + ln (pl s))).1
      refine ⟨hv, x_freeBehind hg xg xb hs ht ?_⟩
      rw [nI_clamp (by omega), x7, pk_sub (by omega), nI_ltI (by omega) (by omega)]
      exact ⟨fun c => k0 (by omega), fun c => k1 (Or.inr (Or.inr (Or.inr ⟨by omega, by omega⟩)))⟩
theorem m_grows (hg : Gh pg zn ow ln hd kd cl th sz zo pl) (mg : MG pg ow ln hd τ) (mz : MZ zn kd cl bw τ) (mb : MB th sz zo pl τ) {s n : Nat} (hs : s < 100) (ht : th s = true) (hn : sz s ≤ n) (hnM : n ≤ mst (kd (zo s)) (cl (zo s))) {Q : Int32 → SS → Prop} (k1 : InP pg ow ln hd kd sz zo pl s n → ∀ τ' l' d', Tiled pg zn ow l' kd cl → OkK pg zn ow l' d' th zo pl → OkJ pg ow l' d' kd → l' (pl s) = ndl (kd (zo s)) (cl (zo s)) n → (∀ i, i < 100 → th i = true → i ≠ s → l' (pl i) = ln (pl i)) → MG pg ow l' d' τ' → AgQ τ τ' → Q 1 τ') (k0 : ¬ InP pg ow ln hd kd sz zo pl s n → Q 0 τ) : wX7_grows (nI s) (nI n) τ Q := by
  obtain ⟨hT, hK, hSz, hSet, hJ⟩ := id hg
  obtain ⟨z1, z2, z3, z4, z5, z6, z7, z8, z9⟩ := blk hg hs ht
  obtain ⟨a1, a2, a3, a4, a5⟩ := hK.1 s hs ht
  obtain ⟨y1, y2, y3, y4⟩ := hSz s hs ht
  obtain ⟨-, e6, e7, e8⟩ := (mb.2 s hs).1 ht
  have hM : mst (kd (zo s)) (cl (zo s)) ≤ 2000 := by
    unfold mst
    by_cases c0 : kd (zo s) = 0
    · rw [if_pos c0]; have := (hT.1.2.2.2 _ z1).2 c0; omega
    · rw [if_neg c0]; split <;> omega
  have hv : vp_in (nI s) 100 := vp_in_nI hs (by omega)
  have hvz : vp_in (nI (zo s)) 8 := vp_in_nI (by omega) (by omega)
  have hvp : vp_in (nI (pl s)) 2560 := vp_in_nI (by omega) (by omega)
  have kzz : kz kd ((zo s : Nat) : Int) = kd (zo s) := by unfold kz; rw [Int.toNat_natCast]
  have q0 : nI (kd (zo s)) = 0 ↔ kd (zo s) = 0 := nI_eq (b := 0) (by omega) (by omega)
  have q1 : nI (kd (zo s)) = 1 ↔ kd (zo s) = 1 := nI_eq (b := 1) (by omega) (by omega)
  have hne : ∀ i, i < 100 → th i = true → i ≠ s → pl i ≠ pl s := by
    intro i hi hti his w
    have := (hK.1 i hi hti).2.2.2.1
    rw [w, a4] at this
    omega
  obtain ⟨hBl, hB⟩ := bhd_le hg (zo s) (pl s + ln (pl s))
  have same : InP pg ow ln hd kd sz zo pl s n → ln (pl s) = ndl (kd (zo s)) (cl (zo s)) n → Q 1 τ := fun w1 w2 => k1 w1 τ ln hd hT hK hJ w2 (fun _ _ _ _ => rfl) mg (AgQ.rf τ)
  unfold wX7_grows
  rw [nI_clamp (show s < 2 ^ 31 by omega), e6, e7, e8, nI_clamp (show zo s < 2 ^ 31 by omega), nI_clamp (show pl s < 2 ^ 31 by omega), (mz.2 _ z1).1, q0, q1, (mg.2.2 _ a2).1, pk_sub hn, nI_add]
  refine ⟨hv, hv, hvz, fun c0 => ⟨hvz, fun c1 => ⟨hv, fun c => ⟨hvp, ?_⟩, fun c => ?_⟩, fun c1 => ⟨hvp, fun c => k0 ?_, fun c => same (Or.inr (Or.inr (Or.inl ⟨c1, ?_⟩))) ?_⟩⟩, fun c0 => same (Or.inr (Or.inl c0)) ?_⟩
  · -- of a row
    have hkz : 2 ≤ kd (zo s) := by omega
    have hlt : sz s < n := by
      rcases Nat.lt_or_ge (sz s) n with w | w
      · exact w
      · exact absurd (by rw [show n - sz s = 0 by omega]; rfl) c
    have hlen := y4 hkz
    have hno : ¬ (n - sz s ≤ bhd pg ow ln hd (zo s) (pl s + ln (pl s))) → ¬ InP pg ow ln hd kd sz zo pl s n := by
      intro w v
      unfold InP at v
      omega
    refine m_isFreeM hT hK mg (by omega) (by omega) (fun c2 => ⟨fun _ => k0 (hno (fun w => ?_)), fun w => absurd rfl w⟩) (fun c2 c3 c4 c5 => ⟨fun w => absurd w (by decide), fun _ => ⟨vp_in_nI (by omega) (by omega), ?_⟩⟩)
    · obtain ⟨b1, b2, b3, b4⟩ := hB (by omega)
      exact c2 ⟨b1, b2, by omega, b3⟩
    · have hbe : bhd pg ow ln hd (zo s) (pl s + ln (pl s)) = ln (pl s + ln (pl s)) := by
        unfold bhd fr
        rw [if_pos c2, if_pos ⟨c3, c5⟩]
      have hqb := (hT.2.1 _ c2 c4).2.1
      rw [nI_clamp (show pl s + ln (pl s) < 2 ^ 31 by omega), (mg.2.2 _ c2).1, nI_leI (by omega) (by omega)]
      refine ⟨fun c6 => ?_, fun c6 => k0 (hno (by omega))⟩
      generalize hBe : ln (pl s + ln (pl s)) = B at hbe c4 c6 hqb
      obtain ⟨L, hL⟩ : ∃ L, L = ln (pl s) + (n - sz s) := ⟨_, rfl⟩
      have eL : ndl (kd (zo s)) (cl (zo s)) n = L := by
        unfold ndl due
        rw [if_neg c0, if_neg c0, if_neg c1, hL, hlen]
        omega
      obtain ⟨rT, rK, rB, rP, rO⟩ := rsRow (p := pl s) (l := ln (pl s)) (B := B) (L := L) (z := zo s) hT hK a2 rfl a3 a5 z1 hkz (fun _ => ⟨c2, c3, c5, hBe⟩) (by omega) (by omega)
      have hkq : 2 ≤ kz kd (ow ((pl s + ln (pl s)) / 64)) := by rw [c3, kzz]; exact hkz
      have rJ : OkJ pg ow (rsL ln (pl s) (ln (pl s)) B L) (rsD hd (pl s) (ln (pl s)) B L) kd := by
        have vD : ∀ i, ¬ (i = pl s + L ∧ L < ln (pl s) + B) → rsD hd (pl s) (ln (pl s)) B L i = hd i := fun i w => by unfold rsD; rw [if_neg w]
        refine ⟨fun j hj hl hf hk hn' ho => ?_, fun j hj hl hf hk h64 => ?_⟩
        · have u : j ≠ pl s := fun w => by rw [w, vD _ (by omega), a4] at hf; omega
          by_cases v : j = pl s + L ∧ L < ln (pl s) + B
          · obtain ⟨v1, v2⟩ := v
            have vl : rsL ln (pl s) (ln (pl s)) B L j = ln (pl s) + B - L := by unfold rsL; rw [if_neg u, if_pos ⟨v1, v2⟩]
            rw [vl, v1, show pl s + L + (ln (pl s) + B - L) = pl s + ln (pl s) + B by omega] at hn' ho ⊢
            rw [vD _ (by omega)]
            have oj : ow ((pl s + L) / 64) = zo s := by
              have := ((hT.2.1 _ c2 (by omega)).2.2 (pl s + L) (by omega) (by omega)).2
              rw [this]; exact c3
            have := hJ.1 (pl s + ln (pl s)) c2 (by omega) c5 hkq (by omega) (by rw [hBe, ho, oj, c3])
            rw [hBe] at this
            exact this
          · have v3 : ¬ (j = pl s + ln (pl s) ∧ 0 < B) := fun w => by
              have : rsL ln (pl s) (ln (pl s)) B L j = 0 := by unfold rsL; rw [if_neg u, if_neg v, if_pos w]
              omega
            have vl : rsL ln (pl s) (ln (pl s)) B L j = ln j := by unfold rsL; rw [if_neg u, if_neg v, if_neg v3]
            rw [vl] at hl hn' ho ⊢
            rw [vD j v] at hf
            have hnx : j + ln j ≠ pl s + L := by
              rcases Nat.lt_or_ge j (pl s) with w | w
              · have := hT.2.1.dj hj hl a3 w; omega
              · have w2 := hT.2.1.dj a2 a3 hl (by omega)
                have := hT.2.1.dj c2 (by omega) hl (show pl s + ln (pl s) < j by omega)
                omega
            rw [vD _ (fun w => hnx w.1)]
            exact hJ.1 j hj hl hf hk hn' ho
        · have u : ¬ ow (j / 64) = zo s := fun w => by rw [w, kzz] at hk; omega
          have hpp := pair_page rT.2.2.2.1 hj hl (rT.2.1 j hj hl).1 hk h64
          obtain ⟨s1, s2⟩ := rO j hj u
          rw [s1] at hl h64 hpp ⊢
          rw [s2] at hf
          obtain ⟨u1, u2⟩ := rO (pair j (ln j)) (by omega) (by rw [hpp]; exact u)
          rw [u1, u2]
          exact hJ.2 j hj hl hf hk h64
      refine m_cut mg c2 (by omega) (by omega) (by omega) (fun τ2 l2 d2 hc mg2 ag2 => ⟨vp_in_nI (by omega) (by omega), hvp, hvp, fun σ133 e133 => ?_⟩)
      have l2p : l2 (pl s) = ln (pl s) := by
        rcases hc with ⟨-, w2, -⟩ | ⟨-, -, -, w3, -⟩
        · rw [w2]
        · exact w3 _ (by omega) (by omega)
      have eg : gA (sA τ2 1 (pl s + ln (pl s)) 0) 1 (pl s) = nI (ln (pl s)) := by
        show upd (gA τ2 1) (pl s + ln (pl s)) 0 (pl s) = _
        unfold upd
        rw [if_neg (by omega), (mg2.2.2 _ a2).1, l2p]
      rw [eg, nI_add, ← hL] at e133
      subst e133
      refine k1 ?_ _ _ _ rT rK rJ (by rw [rP, eL]) (fun i hi hti his => rB i hi hti (hne i hi hti his)) ⟨mg2.1, mg2.2.1, fun j hj => ⟨?_, fun hl => ?_⟩⟩ ((ag2.tr (AgQ.m _ _ _ _ (by omega))).tr (AgQ.m _ _ _ _ (by omega)))
      · unfold InP
        omega
      · show upd (upd (gA τ2 1) (pl s + ln (pl s)) 0) (pl s) (nI L) j = _
        unfold upd rsL
        by_cases w1 : j = pl s
        · rw [if_pos w1, if_pos w1]
        · rw [if_neg w1, if_neg w1]
          by_cases w2 : j = pl s + ln (pl s)
          · rw [if_pos w2, if_neg (by omega), if_pos ⟨w2, by omega⟩]
            rfl
          · rw [if_neg w2, (mg2.2.2 j hj).1]
            rcases hc with ⟨g1, g2, g3⟩ | ⟨g1, g2, g3, g4, g5, g6⟩
            · rw [g2, if_neg (by omega), if_neg (fun v => w2 v.1)]
            · by_cases w3 : j = pl s + L ∧ L < ln (pl s) + B
              · rw [if_pos w3, w3.1, show pl s + L = pl s + ln (pl s) + (n - sz s) by omega, g3, hBe]
                congr 1
                omega
              · rw [if_neg w3, if_neg (fun v => w2 v.1), g4 j w2 (by omega)]
      · show gA τ2 2 j = _
        unfold rsD
        rcases hc with ⟨g1, g2, g3⟩ | ⟨g1, g2, g3, g4, g5, g6⟩
        · rw [if_neg (by omega)]
          have hlj : 0 < l2 j := by
            unfold rsL at hl
            by_cases w1 : j = pl s
            · rw [w1, l2p]; omega
            · rw [if_neg w1, if_neg (by omega)] at hl
              by_cases w2 : j = pl s + ln (pl s) ∧ 0 < B
              · rw [if_pos w2] at hl; omega
              · rw [if_neg w2] at hl; rw [g2]; exact hl
          rw [(mg2.2.2 j hj).2 hlj, g3]
        · by_cases w3 : j = pl s + L ∧ L < ln (pl s) + B
          · rw [if_pos w3]
            have ej : j = pl s + ln (pl s) + (n - sz s) := by omega
            have hlj : 0 < l2 j := by rw [ej, g3]; omega
            rw [(mg2.2.2 j hj).2 hlj, ej, g5]
          · rw [if_neg w3]
            have hlj : 0 < l2 j := by
              unfold rsL at hl
              by_cases w1 : j = pl s
              · rw [w1, l2p]; omega
              · rw [if_neg w1, if_neg w3] at hl
                by_cases w2 : j = pl s + ln (pl s) ∧ 0 < B
                · rw [if_pos w2] at hl; omega
                · rw [if_neg w2] at hl
                  rw [g4 j (fun v => w2 ⟨v, by omega⟩) (by omega)]; exact hl
            rw [(mg2.2.2 j hj).2 hlj, g6 j (by omega)]
  · have hn0 : n = sz s := by
      rcases Nat.lt_or_ge (sz s) n with w | w
      · exact absurd c (nI_ne0 (show 0 < n - sz s by omega) (by omega))
      · omega
    refine same (Or.inl hn0) ?_
    unfold ndl due
    rw [if_neg c0, if_neg c0, if_neg c1, hn0]
    exact y4 (by omega)
  · rw [nI_ltI (by omega) (by omega)] at c
    unfold InP
    have := (y3 c1).1
    omega
  · rw [nI_ltI (by omega) (by omega)] at c
    omega
  · rw [nI_ltI (by omega) (by omega)] at c
    have hb := (blkLen1 hg.geo hs ht).2 c1
    have := y3 c1
    have hpw := pw_cases n
    unfold ndl due
    rw [if_neg c0, if_neg c0, if_pos c1]
    omega
  · unfold ndl
    rw [if_pos c0]
    exact (blkLen1 hg.geo hs ht).1 c0
end GROWM
