/-! ===== the class: a block changes its size where it is ===== -/
section RESX
variable {pg zn : Nat} {ow : Nat → Int} {ln kd cl : Nat → Nat} {hd : Nat → Int} {th : Nat → Bool} {sz zo pl : Nat → Nat} {bw : Nat → Int64} {σ : SS}
/-- nothing but pieces and block s's length has changed -/
def AgR (s : Nat) (σ σ' : SS) : Prop := (∀ k, gI σ' k = gI σ k) ∧ (∀ k, k ≠ 0 → k ≠ 1 → k ≠ 6 → gA σ' k = gA σ k) ∧ (∀ i, i ≠ s → gA σ' 6 i = gA σ 6 i) ∧ (∀ k, gB σ' k = gB σ k) ∧ ∀ k, gL σ' k = gL σ k
/-- how many free numbers lie behind a piece -/
def bhd (pg : Nat) (ow : Nat → Int) (ln : Nat → Nat) (hd : Nat → Int) (z q : Nat) : Nat := if q < 64 * pg then fr ow ln hd z q else 0
theorem x_freeBehind (hg : Gh pg zn ow ln hd kd cl th sz zo pl) (xg : XG pg ow ln hd σ) (xb : XB ln th sz zo pl σ) {s : Nat} (hs : s < 100) (ht : th s = true) {Q : Int32 → Prop} (k : Q (nI (bhd pg ow ln hd (zo s) (pl s + ln (pl s))))) : wX4_freeBehind (nI s) σ Q := by
  obtain ⟨hT, hK, -⟩ := id hg
  obtain ⟨z1, z2, z3, z4, z5, z6, z7, z8, z9⟩ := blk hg hs ht
  obtain ⟨x4, x5, x6, x7⟩ := (xb s hs).1 ht
  have hv : vp_in (nI s) 100 := vp_in_nI hs (by omega)
  unfold wX4_freeBehind
  rw [nI_clamp (by omega), x4, x5, x6, nI_add]
  unfold bhd at k
  refine ⟨hv, hv, hv, ?_⟩
  by_cases c : pl s + ln (pl s) < 64 * pg
  · rw [if_pos c] at k
    exact x_freeAt xg hT.1 hT.2.1 hK c (by omega) k
  · rw [if_neg c] at k
    exact x_freeOut xg hT.1.1 (by omega) (by omega) (by omega) k
theorem bhd_le (hg : Gh pg zn ow ln hd kd cl th sz zo pl) (z q : Nat) : bhd pg ow ln hd z q ≤ 2560 ∧ (0 < bhd pg ow ln hd z q → q < 64 * pg ∧ ow (q / 64) = z ∧ hd q < 0 ∧ ln q = bhd pg ow ln hd z q) := by
  unfold bhd
  have hp40 := hg.1.1.1
  by_cases c : q < 64 * pg
  · rw [if_pos c]
    have := fr_le (hd := hd) (z := z) hg.1.2.1 c
    refine ⟨by omega, fun w => ?_⟩
    obtain ⟨f1, f2, f3, f4⟩ := fr_pos w
    exact ⟨c, f1, f2, f3.symm⟩
  · rw [if_neg c]
    exact ⟨by omega, fun w => by omega⟩
theorem x_reshapeK (hg : Gh pg zn ow ln hd kd cl th sz zo pl) (xg : XG pg ow ln hd σ) (xz : XZ zn kd cl bw σ) (xb : XB ln th sz zo pl σ) {s n : Nat} (hs : s < 100) (ht : th s = true) (hn : n ≤ mst (kd (zo s)) (cl (zo s))) (hb1 : kd (zo s) = 1 → n ≤ ln (pl s)) (hb2 : 2 ≤ kd (zo s) → due (kd (zo s)) n ≤ ln (pl s) + bhd pg ow ln hd (zo s) (pl s + ln (pl s))) {Q : SS → Prop} (k : ∀ σ' l' d', Tiled pg zn ow l' kd cl → OkK pg zn ow l' d' th zo pl → XG pg ow l' d' σ' → AgR s σ σ' → l' (pl s) = (if kd (zo s) = 0 then cl (zo s) else due (kd (zo s)) n) → (∀ i, i < 100 → th i = true → i ≠ s → l' (pl i) = ln (pl i)) → OkJq (fun j _ => ¬ ow (j / 64) = zo s) pg ow l' d' kd → OkSetq (fun k => ¬ ow k = zo s) pg ow l' d' kd → gA σ' 6 s = nI (l' (pl s)) → Q σ') : wK_reshape (kp (kd (zo s))) (nI s) (nI n) σ Q := by
  obtain ⟨hT, hK, hSz, hSet, hJ⟩ := id hg
  obtain ⟨z1, z2, z3, z4, z5, z6, z7, z8, z9⟩ := blk hg hs ht
  obtain ⟨a1, a2, a3, a4, a5⟩ := hK.1 s hs ht
  obtain ⟨x4, x5, x6, x7⟩ := (xb s hs).1 ht
  have hv : vp_in (nI s) 100 := vp_in_nI hs (by omega)
  have kzz : kz kd ((zo s : Nat) : Int) = kd (zo s) := by unfold kz; rw [Int.toNat_natCast]
  have hne : ∀ i, i < 100 → th i = true → i ≠ s → pl i ≠ pl s := by
    intro i hi hti his w
    have := (hK.1 i hi hti).2.2.2.1
    rw [w, a4] at this
    omega
  have hM : mst (kd (zo s)) (cl (zo s)) ≤ 2000 := by
    unfold mst
    by_cases c0 : kd (zo s) = 0
    · rw [if_pos c0]; have := (hT.1.2.2.2 _ z1).2 c0; omega
    · rw [if_neg c0]; split <;> omega
  unfold kp
  by_cases h0 : kd (zo s) = 0
  · rw [if_pos h0]
    rw [if_pos h0] at k
    show wX5_reshape (nI s) (nI n) σ Q
    unfold wX5_reshape
    exact k σ ln hd hT hK xg ⟨fun _ => rfl, fun _ _ _ _ => rfl, fun _ _ => rfl, fun _ => rfl, fun _ => rfl⟩ ((blkLen1 hg.geo hs ht).1 h0) (fun _ _ _ _ => rfl) ⟨fun j a b c d e f _ => hJ.1 j a b c d e f, fun j a b c d e _ => hJ.2 j a b c d e⟩ ⟨fun k a b => hSet.1 k a, fun k a b => hSet.2.1 k a, fun j a b c d e f => hSet.2.2 j a b c d e⟩ x6
  · rw [if_neg h0]
    rw [if_neg h0] at k
    by_cases h1 : kd (zo s) = 1
    · rw [if_pos h1]
      have edue : due (kd (zo s)) n = pw n := by unfold due; rw [if_neg h0, if_pos h1]
      rw [edue] at k
      show wX0_reshape (nI s) (nI n) σ Q
      unfold wX0_reshape
      rw [nI_clamp (by omega), x5, x6]
      refine ⟨hv, hv, x_partOff (P := fun k => ¬ ow k = zo s) hT hK (xg.e _) a2 a3 a5 h1 (hb1 h1) ⟨fun j a b c d e f _ => hJ.1 j a b c d e f, fun j a b c d e _ => hJ.2 j a b c d e⟩ (fun _ w => w) ⟨fun k a b => hSet.1 k a, fun k a b => hSet.2.1 k a, fun j a b c d e f => hSet.2.2 j a b c d e⟩ (fun σ2 l2 d2 hT2 hK2 xg2 ag2 mp2 lp2 dp2 bl2 hJ2 hS2 => ⟨hv, ?_⟩)⟩
      refine k _ l2 d2 hT2 hK2 ⟨xg2.1, xg2.2.1, fun j hj => ?_⟩ ⟨ag2.1, fun k k0 k1 k6 => ?_, fun i hi => ?_, ag2.2.2.1, ag2.2.2.2⟩ lp2 (fun i hi hti his => bl2 i hi hti (hne i hi hti his)) ⟨fun j a b c d e f g => hJ2.1 j a b c d e f ⟨fun w => g (by rw [w]; exact a5), fun w => by rw [w, a5] at f; exact g f.symm⟩, fun j a b c d e g => hJ2.2 j a b c d e ⟨fun w => g (by rw [w]; exact a5), fun w => ?_⟩⟩ hS2 ?_
      · show gA σ2 1 j = _
        by_cases w : j = pl s
        · rw [w, mp2, xg.2.2 _ a2, lp2, dp2]
          unfold mkI
          have := pw_cases n
          rw [if_neg (by omega), if_neg (by omega), if_neg (by omega), if_neg (by omega)]
        · exact xg2.2.2 j hj w
      · rw [gA_sA_ne _ _ _ k6]
        exact ag2.2.1 k k0 k1
      · show upd (gA σ2 6) s _ i = _
        unfold upd
        rw [if_neg hi, ag2.2.1 6 (by omega) (by omega)]
      · have hpp := pair_page hT2.2.2.2.1 a b (hT2.2.1 j a b).1 d e
        rw [w] at hpp
        exact g (by rw [← hpp]; exact a5)
      · rw [gA_same, lp2]
    · rw [if_neg h1]
      have hkz : 2 ≤ kd (zo s) := by omega
      have edue : n + (if kd (zo s) = 5 then 3 else 1) = due (kd (zo s)) n := by unfold due; rw [if_neg h0, if_neg h1]
      have hL := hb2 hkz
      obtain ⟨hBl, hB⟩ := bhd_le hg (zo s) (pl s + ln (pl s))
      show wX4_reshape (nI s) (nI n) σ Q
      unfold wX4_reshape
      rw [nI_clamp (by omega), x5, x6, nI_add]
      refine ⟨hv, hv, x_freeBehind hg xg xb hs ht ?_⟩
      have hdue1 : 1 ≤ due (kd (zo s)) n := by rw [← edue]; split <;> omega
      generalize hBe : bhd pg ow ln hd (zo s) (pl s + ln (pl s)) = B at hL hBl hB
      generalize hLe : due (kd (zo s)) n = L at hL k hdue1 edue
      have hBpg : pl s + ln (pl s) + B ≤ 64 * pg := by
        rcases Nat.eq_zero_or_pos B with w | w
        · omega
        · obtain ⟨q1, q2, q3, q4⟩ := hB w
          have := (hT.2.1 _ q1 (by omega)).2.1
          omega
      obtain ⟨rT, rK, rB, rP, rO⟩ := rsRow (p := pl s) (l := ln (pl s)) (B := B) (L := L) (z := zo s) hT hK a2 rfl a3 a5 z1 hkz hB (by omega) hL
      obtain ⟨rJ, rS⟩ := restOf (z := zo s) hT rT hJ hSet rO
      have fin : ∀ σ1 : SS, (∀ k, gI σ1 k = gI σ k) → (∀ k, k ≠ 1 → gA σ1 k = gA σ k) → (∀ k, gB σ1 k = gB σ k) → (∀ k, gL σ1 k = gL σ k) → (∀ i, i < 64 * pg → gA σ1 1 i = if i = pl s + ln (pl s) ∧ 0 < B then 0 else gA σ 1 i) → wX4_reshape_b41 (nI s) (nI n) (nI (pl s + ln (pl s))) (nI B) σ1 Q := by
        intro σ1 s1 s2 s3 s4 s5
        unfold wX4_reshape_b41
        have y4 : gA σ1 4 s = nI (zo s) := by rw [s2 4 (by omega)]; exact x4
        have y5 : gA σ1 5 s = nI (pl s) := by rw [s2 5 (by omega)]; exact x5
        have xz1 : XZ zn kd cl bw σ1 := by
          unfold XZ at xz ⊢
          rw [s1 1, s2 2 (by omega), s3 1]
          exact xz
        rw [nI_clamp (by omega), y4]
        refine ⟨hv, x_aside xz1 z2 z1 z3 ⟨hv, hv, hv, ?_⟩⟩
        have eL : nI n + nI (if kd (zo s) = 5 then 3 else 1) = nI L := by rw [nI_add, edue]
        rw [eL, gA_same, show gA (sA σ1 6 s (nI L)) 5 = gA σ1 5 from rfl, y5, nI_add, nI_add, nI_leI (by omega) (by omega)]
        have agr : ∀ σ2 : SS, (∀ k, gI σ2 k = gI σ1 k) → (∀ k, k ≠ 0 → k ≠ 1 → k ≠ 6 → gA σ2 k = gA σ1 k) → (∀ i, i ≠ s → gA σ2 6 i = gA σ1 6 i) → (∀ k, gB σ2 k = gB σ1 k) → (∀ k, gL σ2 k = gL σ1 k) → AgR s σ σ2 := fun σ2 v1 v2 v3 v4 v5 => ⟨fun k => (v1 k).trans (s1 k), fun k k0 k1 k6 => (v2 k k0 k1 k6).trans (s2 k k1), fun i hi => (v3 i hi).trans (by rw [s2 6 (by omega)]), fun k => (v4 k).trans (s3 k), fun k => (v5 k).trans (s4 k)⟩
        have xgl : ∀ f : Nat → Int32, (∀ i, i < 64 * pg → f i = if i = pl s + L ∧ L < ln (pl s) + B then nI (ln (pl s) + B - L) else gA σ1 1 i) → ∀ i, i < 64 * pg → f i = iI (mkI (rsL ln (pl s) (ln (pl s)) B L i) (rsD hd (pl s) (ln (pl s)) B L i)) := by
          intro f hf i hi
          rw [hf i hi]
          unfold rsL rsD
          by_cases w1 : i = pl s
          · rw [if_neg (show ¬ (i = pl s + L ∧ L < ln (pl s) + B) by omega), if_pos w1, if_neg (show ¬ (i = pl s + L ∧ L < ln (pl s) + B) by omega), s5 i hi, if_neg (by omega), xg.2.2 i hi, w1]
            unfold mkI
            rw [if_neg (by omega), if_neg (by omega), if_neg (by omega), if_neg (by omega)]
          · rw [if_neg w1]
            by_cases w2 : i = pl s + L ∧ L < ln (pl s) + B
            · rw [if_pos w2, if_pos w2, if_pos w2]
              unfold mkI
              rw [if_neg (by omega), if_pos (by omega), nI_iI]
            · rw [if_neg w2, if_neg w2, if_neg w2, s5 i hi]
              by_cases w3 : i = pl s + ln (pl s) ∧ 0 < B
              · rw [if_pos w3, if_pos w3]
                rfl
              · rw [if_neg w3, if_neg w3]
                exact xg.2.2 i hi
        have own : ∀ σ2 : SS, gA σ2 0 = gA σ1 0 → ∀ k, k < pg → gA σ2 0 k = iI (ow k) := fun σ2 e k hk => by rw [e, s2 0 (by omega)]; exact xg.2.1 k hk
        refine ⟨fun c => ?_, fun c => ?_⟩
        · refine k _ _ _ rT rK ⟨(s1 0).trans xg.1, own _ rfl, xgl _ (fun i hi => ?_)⟩ (agr _ (fun _ => rfl) (fun k _ _ k6 => gA_sA_ne _ _ _ k6) (fun i hi => ?_) (fun _ => rfl) (fun _ => rfl)) rP (fun i hi hti his => rB i hi hti (hne i hi hti his)) rJ rS (by rw [gA_same, rP])
          · rw [if_neg (by omega)]
            rfl
          · show upd (gA σ1 6) s _ i = _
            unfold upd
            rw [if_neg hi]
        · rw [pk_sub (by omega), show pl s + ln (pl s) + B - (pl s + L) = ln (pl s) + B - L by omega]
          refine x_mark (by omega) (k _ _ _ rT rK ⟨(s1 0).trans xg.1, own _ rfl, xgl _ (fun i hi => ?_)⟩ (agr _ (fun _ => rfl) (fun k _ k1 k6 => (gA_sA_ne _ _ _ k1).trans (gA_sA_ne _ _ _ k6)) (fun i hi => ?_) (fun _ => rfl) (fun _ => rfl)) rP (fun i hi hti his => rB i hi hti (hne i hi hti his)) rJ rS ?_)
          · show upd (gA σ1 1) (pl s + L) (nI (ln (pl s) + B - L)) i = _
            unfold upd
            by_cases w : i = pl s + L
            · rw [if_pos w, if_pos ⟨w, by omega⟩]
            · rw [if_neg w, if_neg (fun v => w v.1)]
          · show upd (gA σ1 6) s _ i = _
            unfold upd
            rw [if_neg hi]
          · show upd (gA σ1 6) s (nI L) s = _
            unfold upd
            rw [if_pos rfl, rP]
      refine ⟨fun c => ?_, fun c => ?_⟩
      · have hB0 : B = 0 := by
          rcases Nat.eq_zero_or_pos B with w | w
          · exact w
          · exact absurd c (nI_nle w (by omega))
        exact fin σ (fun _ => rfl) (fun _ _ => rfl) (fun _ => rfl) (fun _ => rfl) (fun i hi => by rw [if_neg (by omega)])
      · have hB0 : 0 < B := by
          rcases Nat.eq_zero_or_pos B with w | w
          · rw [w] at c; exact absurd (by decide) c
          · exact w
        have := hB hB0
        refine x_mark (by omega) (fin _ (fun _ => rfl) (fun k k1 => gA_sA_ne _ _ _ k1) (fun _ => rfl) (fun _ => rfl) (fun i hi => ?_))
        show upd (gA σ 1) (pl s + ln (pl s)) 0 i = _
        unfold upd
        by_cases w : i = pl s + ln (pl s)
        · rw [if_pos w, if_pos ⟨w, hB0⟩]
        · rw [if_neg w, if_neg (fun v => w v.1)]
end RESX
