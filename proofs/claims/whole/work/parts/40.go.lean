section GOP
variable {pg zn : Nat} {ow : Nat → Int} {ln kd cl : Nat → Nat} {hd : Nat → Int} {th : Nat → Bool} {sz zo pl : Nat → Nat} {bw : Nat → Int64} {τ τ' : SS} {i q : Int}
theorem m_piece (hg : Gh pg zn ow ln hd kd cl th sz zo pl) (mg : MG pg ow ln hd τ) (mz : MZ zn kd cl bw τ) (mb : MB th sz zo pl τ) (hi : R32 i) (hq : R32 q) (h13 : gI τ 13 = iI i) (h14 : gI τ 14 = iI q) {p : Nat} {L : List (Nat × Nat × Nat × Nat)} (hlt : p < 64 * pg) (hlp : 0 < ln p) (h0 : ¬ kz kd (ow (p / 64)) = 0) (hl : L.length ≤ 4 * p) (G : Gs i q ow hd τ L) {Q : SS → Prop} (k : ∀ τ', AgE τ τ' → Gs i q ow hd τ' (L ++ ents ow ln hd kd sz p) → Q τ') : wX7_pieceEntries (nI p) (iI (ow (p / 64))) τ Q := by
  obtain ⟨hT0, hK, hSz, hSet, hJ⟩ := id hg
  obtain ⟨hZ, hT, hS, hB, hR⟩ := id hT0
  obtain ⟨ho, t2, -⟩ := hT p hlt hlp
  have hp40 := hZ.1
  have hzn := hZ.2.1
  have hz := hZ.2.2.1 (p / 64) (by omega)
  have hk5 := (hZ.2.2.2 (ow (p / 64)).toNat (by omega)).1
  have hwr : ∀ (e b c : Nat), whrE ow (e, b, c, p) = ow (p / 64) := by
    intro e b c
    unfold whrE
    show (if ow (p / 64) < 0 then _ else ow (p / 64)) = _
    rw [if_neg (by omega)]
  have hv : vp_in (nI p) 2560 := vp_in_nI (by omega) (by omega)
  have hvz : vp_in (iI (ow (p / 64))) 8 := vp_in_iI (by omega) (by omega) (by omega)
  have m3 := mg.2.2 p hlt
  have ekz : kd (ow (p / 64)).toNat = kz kd (ow (p / 64)) := rfl
  unfold wX7_pieceEntries wX7_pieceEntries_b34
  rw [clamp_iI (by omega) (by omega), (mz.2 _ (by omega)).1, nI_clamp (by omega), m3.1, m3.2 hlp, ekz]
  refine ⟨hv, hvz, fun c => ?_, fun c => ⟨hv, fun c2 => ?_, fun c2 => ?_⟩⟩
  · -- of a row
    have h1 : ¬ kz kd (ow (p / 64)) = 1 := fun w => c (by rw [w]; rfl)
    refine m_entry (a := p) (b := 1) (c := 2) (w := p) hi hq (by omega) G h13 h14 (by omega) (by omega) (by rfl) (by rw [hwr]) (fun τ1 G1 A1 => ?_)
    have k13 : gI τ1 13 = iI i := A1.2.1.trans h13
    have k14 : gI τ1 14 = iI q := A1.2.2.trans h14
    have mg1 : MG pg ow ln hd τ1 := mg.ag A1.1.1
    have mz1 : MZ zn kd cl bw τ1 := mz.ag A1.1.1
    have mb1 : MB th sz zo pl τ1 := mb.ag A1.1.1
    have hl1 : (L ++ [(p, 1, 2, p)]).length < 100000 := by rw [List.length_append]; show L.length + 1 < _; omega
    have epts : pts ow ln hd kd sz p = (2, 1) :: (if hd p < 0 then [(4, ln p - 1)] else if kz kd (ow (p / 64)) = 5 then [(6, 1), (3, sz (hd p).toNat), (6, 1)] else [(3, sz (hd p).toNat)]).filter (fun q => decide (0 < q.2)) := by
      unfold pts
      rw [if_neg (by omega), if_neg (by omega), if_neg (by omega)]
    have hen : ents ow ln hd kd sz p = [(p, 1, 2, p)] ++ acc p (p + 1) ((if hd p < 0 then [(4, ln p - 1)] else if kz kd (ow (p / 64)) = 5 then [(6, 1), (3, sz (hd p).toNat), (6, 1)] else [(3, sz (hd p).toNat)]).filter (fun q => decide (0 < q.2))) := by
      unfold ents
      rw [epts]
      rfl
    rw [hen] at k
    rw [← List.append_assoc] at k
    rw [(mz1.2 _ (by omega)).1, ekz]
    refine ⟨fun c2 => ⟨hvz, ?_⟩, fun c2 => ⟨hv, ?_⟩⟩
    · obtain ⟨w1, w2, w3, w4⟩ : 0 ≤ hd p ∧ hd p < 100 ∧ th (hd p).toNat = true ∧ pl (hd p).toNat = p := by
        rcases hK.2 p hlt hlp with w | w
        · rw [w] at c2; exact absurd c2 (by decide)
        · exact w
      obtain ⟨s, hs⟩ := Int.eq_ofNat_of_zero_le w1
      rw [hs] at w2 w3 w4 k ⊢
      rw [Int.toNat_natCast] at w3 w4 k
      have hs100 : s < 100 := by omega
      obtain ⟨z1, z2, z3, z4, z5, z6, z7, z8, z9⟩ := blk hg hs100 w3
      have hvs : vp_in (iI (s : Int)) 100 := vp_in_iI (by omega) (by omega) (by omega)
      have wh3 : ∀ e b : Nat, iI (s : Int) = iI (whoE hd (e, b, 3, p)) := fun e b => by
        unfold whoE; rw [if_pos (Or.inl rfl)]; show iI (s : Int) = iI (hd p); rw [hs]
      have wh6 : ∀ e b : Nat, iI (s : Int) = iI (whoE hd (e, b, 6, p)) := fun e b => by
        unfold whoE; rw [if_pos (Or.inr rfl)]; show iI (s : Int) = iI (hd p); rw [hs]
      have cs : (iI (s : Int)).toNatClampNeg = s := by
        rw [clamp_iI (by omega) (by omega), Int.toNat_natCast]
      rw [w4] at z5 z6 z7 z9
      rw [if_neg (show ¬ ((s : Nat) : Int) < 0 by omega)] at k
      rw [cs]
      refine ⟨fun c3 => ⟨hvs, ?_⟩, fun c3 => ?_⟩
      · have h5 : ¬ kz kd (ow (p / 64)) = 5 := fun w => c3 (by rw [w]; rfl)
        rw [if_neg h5] at k
        rw [((mb1.2 s hs100).1 w3).2.1]
        rw [show nI p + 1 = nI (p + 1) from nI_1 p]
        rcases Nat.eq_zero_or_pos (sz s) with u | u
        · rw [u] at k ⊢
          exact m_entry0 (k τ1 A1 (by
            show Gs i q ow hd τ1 (L ++ [(p, 1, 2, p)] ++ [])
            rw [List.append_nil]; exact G1))
        · refine m_entry (a := p + 1) (b := sz s) (c := 3) (w := p) hi hq hl1 G1 k13 k14 u (by omega) (wh3 _ _) (by rw [hwr]) (fun τ2 G2 A2 => k τ2 (A1.tr A2) ?_)
          rw [show ([(3, sz s)] : List (Nat × Nat)).filter (fun q => decide (0 < q.2)) = [(3, sz s)] by simp [u]]
          exact G2
      · have h5 : kz kd (ow (p / 64)) = 5 := (nI_eq (b := 5) (by omega) (by omega)).mp c3
        rw [if_pos h5] at k
        have ez : ow (p / 64) = zo s := by have := (hK.1 s hs100 w3).2.2.2.2; rw [w4] at this; exact this
        have ek5 : kd (zo s) = 5 := by
          have : kz kd (ow (p / 64)) = kd (zo s) := by unfold kz; rw [ez, Int.toNat_natCast]
          omega
        have z10 := z9 (by omega)
        rw [if_pos ek5] at z10
        rw [show nI p + 1 = nI (p + 1) from nI_1 p, show nI p + 2 = nI (p + 2) from nI_add p 2]
        refine m_entry (a := p + 1) (b := 1) (c := 6) (w := p) hi hq hl1 G1 k13 k14 (by omega) (by omega) (wh6 _ _) (by rw [hwr]) (fun τ2 G2 A2 => ⟨hvs, ?_⟩)
        have mb2 : MB th sz zo pl τ2 := mb1.ag A2.1.1
        have l13 : gI τ2 13 = iI i := A2.2.1.trans k13
        have l14 : gI τ2 14 = iI q := A2.2.2.trans k14
        have hl2 : (L ++ [(p, 1, 2, p)] ++ [(p + 1, 1, 6, p)]).length < 100000 := by rw [List.length_append, List.length_append]; show L.length + 1 + 1 < _; omega
        rw [((mb2.2 s hs100).1 w3).2.1]
        have last : ∀ (M : List (Nat × Nat × Nat × Nat)) (τ3 : SS), AgE τ τ3 → Gs i q ow hd τ3 M → M.length < 100000 → (∀ τ4, AgE τ τ4 → Gs i q ow hd τ4 (M ++ [(p + 2 + sz s, 1, 6, p)]) → Q τ4) → vp_in (iI (s : Int)) 100 ∧ wX7_entry (nI (p + 2) + gA τ3 6 s) 1 6 (iI (s : Int)) (iI (ow (p / 64))) τ3 (fun σ128 => Q σ128) := by
          intro M τ3 A3 G3 hM kk
          have mb3 : MB th sz zo pl τ3 := mb.ag A3.1.1
          rw [((mb3.2 s hs100).1 w3).2.1, nI_add]
          exact ⟨hvs, m_entry (a := p + 2 + sz s) (b := 1) (c := 6) (w := p) hi hq hM G3 (A3.2.1.trans h13) (A3.2.2.trans h14) (by omega) (by omega) (wh6 _ _) (by rw [hwr]) (fun τ4 G4 A4 => kk τ4 (A3.tr A4) G4)⟩
        rcases Nat.eq_zero_or_pos (sz s) with u | u
        · have last' := last (L ++ [(p, 1, 2, p)] ++ [(p + 1, 1, 6, p)]) τ2 (A1.tr A2) G2 hl2 (fun τ4 A4 G4 => k τ4 A4 (by
            rw [u] at G4 ⊢
            show Gs i q ow hd τ4 (L ++ [(p, 1, 2, p)] ++ [(p + 1, 1, 6, p), (p + 1 + 1, 1, 6, p)])
            rw [List.append_assoc (L ++ [(p, 1, 2, p)])] at G4
            exact G4))
          rw [u]
          exact m_entry0 last'
        · refine m_entry (a := p + 2) (b := sz s) (c := 3) (w := p) hi hq hl2 G2 l13 l14 u (by omega) (wh3 _ _) (by rw [hwr]) (fun τ3 G3 A3 => last _ τ3 ((A1.tr A2).tr A3) G3 (by rw [List.length_append]; show _ + 1 < 100000; rw [List.length_append, List.length_append]; show L.length + 1 + 1 + 1 < _; omega) (fun τ4 A4 G4 => k τ4 A4 ?_))
          rw [show ([(6, 1), (3, sz s), (6, 1)] : List (Nat × Nat)).filter (fun q => decide (0 < q.2)) = [(6, 1), (3, sz s), (6, 1)] by simp [u]]
          show Gs i q ow hd τ4 (L ++ [(p, 1, 2, p)] ++ [(p + 1, 1, 6, p), (p + 1 + 1, sz s, 3, p), (p + 1 + 1 + sz s, 1, 6, p)])
          rw [List.append_assoc (L ++ [(p, 1, 2, p)]), List.append_assoc (L ++ [(p, 1, 2, p)])] at G4
          exact G4
    · have h3 : hd p = -1 := by
        rcases hK.2 p hlt hlp with w | ⟨w1, w2, -⟩
        · exact w
        · exact absurd (by rw [l_0, iI_le (by omega) (by omega) (by omega) (by omega)]; exact w1) c2
      rw [if_pos (by omega)] at k
      rw [(mg1.2.2 p hlt).1, show nI p + 1 = nI (p + 1) from nI_1 p, show (1 : Int32) = nI 1 from rfl, pk_sub (by omega)]
      rcases Nat.eq_zero_or_pos (ln p - 1) with u | u
      · rw [u] at k ⊢
        exact m_entry0 (k τ1 A1 (by
            show Gs i q ow hd τ1 (L ++ [(p, 1, 2, p)] ++ [])
            rw [List.append_nil]; exact G1))
      · refine m_entry (a := p + 1) (b := ln p - 1) (c := 4) (w := p) hi hq hl1 G1 k13 k14 u (by omega) (by rfl) (by rw [hwr]) (fun τ2 G2 A2 => k τ2 (A1.tr A2) ?_)
        rw [show ([(4, ln p - 1)] : List (Nat × Nat)).filter (fun q => decide (0 < q.2)) = [(4, ln p - 1)] by simp [u]]
        exact G2
  · have h1 : kz kd (ow (p / 64)) = 1 := (nI_eq (b := 1) (by omega) (by omega)).mp c
    have h3 : ¬ hd p < 0 := by
      rcases hK.2 p hlt hlp with w | ⟨w1, w2, -⟩
      · rw [w] at c2; exact absurd c2 (by decide)
      · omega
    have hen : ents ow ln hd kd sz p = [(p, ln p, 3, p)] := by
      unfold ents pts
      rw [if_neg (by omega), if_neg (by omega), if_pos (by omega), if_neg h3]
      rfl
    rw [hen] at k
    exact m_entry (a := p) (b := ln p) (c := 3) (w := p) hi hq (by omega) G h13 h14 hlp (by omega) (by rfl) (by rw [hwr]) (fun τ1 G1 A1 => k τ1 A1 G1)
  · have h1 : kz kd (ow (p / 64)) = 1 := (nI_eq (b := 1) (by omega) (by omega)).mp c
    have h3 : hd p = -1 := by
      rcases hK.2 p hlt hlp with w | ⟨w1, w2, -⟩
      · exact w
      · exact absurd (by rw [l_0, iI_le (by omega) (by omega) (by omega) (by omega)]; exact w1) c2
    have hen : ents ow ln hd kd sz p = [(p, ln p, 4, p)] := by
      unfold ents pts
      rw [if_neg (by omega), if_neg (by omega), if_pos (by omega), if_pos (by omega)]
      rfl
    rw [hen] at k
    exact m_entry (a := p) (b := ln p) (c := 4) (w := p) hi hq (by omega) G h13 h14 hlp (by omega) (by rw [h3]; rfl) (by rw [hwr]) (fun τ1 G1 A1 => k τ1 A1 G1)
theorem m_go (hg : Gh pg zn ow ln hd kd cl th sz zo pl) (mg : MG pg ow ln hd τ) (mz : MZ zn kd cl bw τ) (mb : MB th sz zo pl τ) (hi : R32 i) (hq : R32 q) {Q : SS → Prop} (k : ∀ τ', AgF τ τ' → Gs i q ow hd τ' (wk ow ln hd kd sz (64 * pg) 0) → Q τ') : wX7_go (iI i) (iI q) τ Q := by
  obtain ⟨hT0, hK, hSz, hSet, hJ⟩ := id hg
  obtain ⟨hZ, hT, hS, hB, hR⟩ := id hT0
  have hp40 := hZ.1
  have hzn := hZ.2.1
  unfold wX7_go wX7_go_b22 wX7_go_b71 wX7_go_b121
  obtain ⟨τ0, hτ0⟩ : ∃ z, z = sI (sI (sI (sI τ 12 0) 13 (iI i)) 14 (iI q)) 15 0 := ⟨_, rfl⟩
  have A0 : AgF τ τ0 := by subst hτ0; exact ⟨⟨⟨rfl, rfl, rfl⟩, fun _ _ => rfl, rfl, rfl⟩, ⟨rfl, rfl⟩, rfl, rfl⟩
  have h13 : gI τ0 13 = iI i := by subst hτ0; rfl
  have h14 : gI τ0 14 = iI q := by subst hτ0; rfl
  have G0 : Gs i q ow hd τ0 [] := by
    subst hτ0
    exact ⟨fun _ => ⟨rfl, rfl⟩, fun r e w => absurd w (by simp [sr])⟩
  rw [← hτ0]
  refine lfp_inv (fun t => ∃ (p : Nat) (L : List (Nat × Nat × Nat × Nat)), p ≤ 64 * pg ∧ Bd pg ow ln kd cl p ∧ (p < 64 * pg → kz kd (ow (p / 64)) = 0 → 0 ≤ ow (p / 64) → p % 64 = 0) ∧ wk ow ln hd kd sz (64 * pg) 0 = L ++ wk ow ln hd kd sz (64 * pg) p ∧ L.length ≤ 4 * p ∧ t.1 = nI p ∧ Gs i q ow hd t.2 L ∧ AgE τ0 t.2) (fun t => 64 * pg - t.1.toNatClampNeg) ⟨0, [], by omega, Bd_0 hT0, fun _ _ _ => rfl, rfl, by simp, rfl, G0, AgE.rf τ0⟩ ?_
  rintro ⟨t1, t2⟩ X ⟨p, L, hpp, hb, h64, hL, hl, e1, G', A'⟩ hX
  have e1' : t1 = nI p := e1
  subst e1'
  have G : Gs i q ow hd t2 L := G'
  have A : AgE τ0 t2 := A'
  have A2 : AgF τ t2 := A0.tr A.1
  have mg2 : MG pg ow ln hd t2 := mg.ag A2.1
  have mz2 : MZ zn kd cl bw t2 := mz.ag A2.1
  have mb2 : MB th sz zo pl t2 := mb.ag A2.1
  have k13 : gI t2 13 = iI i := A.2.1.trans h13
  have k14 : gI t2 14 = iI q := A.2.2.trans h14
  rw [show ((nI p, t2) : Int32 × SS).2 = t2 from rfl, show ((nI p, t2) : Int32 × SS).1 = nI p from rfl, mg2.1, show (64 : Int32) = nI 64 from rfl, pk_mul]
  refine ⟨fun c => ?_, fun c => ⟨fun c2 => ?_, fun c2 => ?_⟩⟩
  · have : p = 64 * pg := by
      rcases Nat.lt_or_ge p (64 * pg) with w | w
      · exact absurd c (nI_ge w (by omega))
      · omega
    subst this
    rw [wk_end, List.append_nil] at hL
    rw [hL] at k
    exact k t2 A2 G
  · refine k t2 A2 ?_
    rw [hL]
    exact Gs_more G c2
  · have hlt : p < 64 * pg := by
      rcases Nat.lt_or_ge p (64 * pg) with w | w
      · exact w
      · exact absurd (nI_le w (by omega)) c
    obtain ⟨b1, b2, b3, b4⟩ := eoBd hT0 hb hlt
    have hz := hZ.2.2.1 (p / 64) (by omega)
    rw [pk_div (by omega) (by omega) (by omega), nI_clamp (by omega), mg2.2.1 _ (by omega)]
    have hstep : ∀ (e : Nat) (L2 : List (Nat × Nat × Nat × Nat)) (t4 : SS), p < e → e ≤ 64 * pg → Bd pg ow ln kd cl e → (e < 64 * pg → kz kd (ow (e / 64)) = 0 → 0 ≤ ow (e / 64) → e % 64 = 0) → wk ow ln hd kd sz (64 * pg) 0 = L2 ++ wk ow ln hd kd sz (64 * pg) e → L2.length ≤ 4 * e → Gs i q ow hd t4 L2 → AgE τ0 t4 → X (nI e, t4) := by
      intro e L2 t4 g1 g2 g3 g4 g5 g6 g7 g8
      refine hX _ ⟨e, L2, g2, g3, g4, g5, g6, rfl, g7, g8⟩ ?_
      show 64 * pg - (nI e).toNatClampNeg < 64 * pg - (nI p).toNatClampNeg
      rw [nI_clamp (by omega), nI_clamp (by omega)]
      omega
    refine ⟨vp_in_nI (by omega) (by omega), fun c3 => ?_, fun c3 => ?_⟩
    · rw [l_0, iI_le (by omega) (by omega) (by omega) (by omega)] at c3
      have hk5 := (hZ.2.2.2 (ow (p / 64)).toNat (by omega)).1
      have ekz : kd (ow (p / 64)).toNat = kz kd (ow (p / 64)) := rfl
      rw [clamp_iI (by omega) (by omega), (mz2.2 _ (by omega)).1, ekz]
      refine ⟨vp_in_iI (by omega) (by omega) (by omega), fun c4 => ?_, fun c4 => ?_⟩
      · have h0 : ¬ kz kd (ow (p / 64)) = 0 := fun w => c4 (by rw [w]; rfl)
        have hlp : 0 < ln p := by
          rcases hb with u | ⟨-, ⟨u, -⟩ | ⟨-, u | ⟨u, -⟩⟩⟩
          · omega
          · omega
          · exact u
          · exact absurd u h0
        have heo : eo ow ln p = p + ln p := by unfold eo; rw [if_neg (by omega), if_pos hlp]
        refine m_piece hg mg2 mz2 mb2 hi hq k13 k14 hlt hlp h0 hl G (fun τ3 A3 G3 => ⟨vp_in_nI (by omega) (by omega), ?_⟩)
        have mg3 := mg2.ag A3.1.1
        rw [nI_clamp (by omega), (mg3.2.2 p hlt).1, nI_add, ← heo]
        have hx4 : (ents ow ln hd kd sz p).length ≤ 4 := by
          unfold ents
          rw [acc_len]
          unfold pts
          rw [if_neg (by omega), if_neg (by omega)]
          split
          · exact Nat.le_of_ble_eq_true rfl
          · rw [List.length_cons]
            have : ∀ M : List (Nat × Nat), M.length ≤ 3 → (M.filter (fun q => decide (0 < q.2))).length + 1 ≤ 4 := fun M hM => by
              have := List.length_filter_le (fun q : Nat × Nat => decide (0 < q.2)) M
              omega
            refine this _ ?_
            split
            · exact Nat.le_of_ble_eq_true rfl
            · split
              · exact Nat.le_of_ble_eq_true rfl
              · exact Nat.le_of_ble_eq_true rfl
        refine hstep (eo ow ln p) _ τ3 b1 b2 b3 (fun g1 g2 g3 => ?_) ?_ ?_ G3 (A.tr A3)
        · rcases Nat.eq_zero_or_pos (eo ow ln p % 64) with u | u
          · exact u
          · exfalso
            have hsame : ow ((eo ow ln p - 1) / 64) = ow (p / 64) := by
              rcases Nat.lt_or_ge p (eo ow ln p - 1) with v | v
              · exact (b4 _ v (by omega)).2
              · rw [show eo ow ln p - 1 = p by omega]
            rw [show (eo ow ln p - 1) / 64 = eo ow ln p / 64 by omega] at hsame
            rw [hsame] at g2
            exact h0 g2
        · rw [hL, wk_step ow ln hd kd sz hlt b1, List.append_assoc]
        · rw [List.length_append]
          omega
      · have h0 : kz kd (ow (p / 64)) = 0 := (nI_eq (b := 0) (by omega) (by omega)).mp c4
        have hm := h64 hlt h0 c3
        refine m_slab hg mg2 hi hq k13 k14 hlt hm c3 h0 hL hl G (fun τ3 L3 A3 G3 hl3 hL3 => ?_)
        rw [nI_add]
        refine hstep (p + 64) L3 τ3 (by omega) (by omega) ?_ (fun _ _ _ => by omega) hL3 hl3 G3 (A.tr A3)
        rw [show p + 64 = 64 * (p / 64 + 1) by omega]
        refine pageBd hT0 (by omega) (fun hlt2 => ?_)
        rw [show p / 64 + 1 - 1 = p / 64 by omega]
        by_cases e : ow (p / 64) = ow (p / 64 + 1)
        · right; right; right; rw [← e]; omega
        · right; left; exact e
    · rw [l_0, iI_le (by omega) (by omega) (by omega) (by omega)] at c3
      have hm : p % 64 = 0 := by
        rcases hb with u | ⟨-, ⟨-, u⟩ | ⟨u, -⟩⟩
        · omega
        · exact u
        · omega
      have heo : eo ow ln p = p + 64 := by unfold eo; rw [if_pos (by omega)]; omega
      have fin : ∀ c : Nat, c < 2 → ents ow ln hd kd sz p = [(p, 64, c, p)] → wX7_entry (nI p) (nI 64) (nI c) (-1) (-1) t2 (fun σ73 => X (nI p + nI 64, σ73)) := by
        intro c hc hen
        refine m_entry (a := p) (b := 64) (c := c) (w := p) hi hq (by omega) G k13 k14 (by omega) (by omega) ?_ ?_ (fun τ3 G3 A3 => ?_)
        · unfold whoE
          rw [if_neg (by show ¬ (c = 3 ∨ c = 6); omega)]
          rfl
        · unfold whrE
          rw [if_pos (by show ow (p / 64) < 0; omega)]
          rfl
        · rw [nI_add, ← heo]
          refine hstep (eo ow ln p) _ τ3 b1 b2 b3 (fun _ _ _ => by omega) ?_ ?_ G3 (A.tr A3)
          · rw [hL, wk_step ow ln hd kd sz hlt b1, hen, List.append_assoc]
          · rw [List.length_append]
            show L.length + 1 ≤ _
            omega
      refine ⟨fun c4 => fin 1 (by omega) ?_, fun c4 => fin 0 (by omega) ?_⟩
      · rw [l_m1, iI_eq (by omega) (by omega) (by omega) (by omega)] at c4
        unfold ents pts
        rw [if_pos (by omega), if_neg c4, show 64 * (p / 64) + 64 - p = 64 by omega]
        rfl
      · rw [l_m1, iI_eq (by omega) (by omega) (by omega) (by omega)] at c4
        unfold ents pts
        rw [if_pos (by omega), if_pos c4, show 64 * (p / 64) + 64 - p = 64 by omega]
        rfl
end GOP
