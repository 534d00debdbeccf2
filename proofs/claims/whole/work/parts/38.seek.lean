/-! ===== the class's chart ===== -/
section CHART
variable {pg zn : Nat} {ow : Nat → Int} {ln kd cl : Nat → Nat} {hd : Nat → Int} {th : Nat → Bool} {sz zo pl : Nat → Nat} {bw : Nat → Int64} {σ σ' : SS}
theorem XG.ag (h : XG pg ow ln hd σ) (a : AgX σ σ') : XG pg ow ln hd σ' := by
  obtain ⟨⟨a1, a2⟩, a3, a4, a5⟩ := a
  unfold XG at h ⊢
  rw [a1, a3 0 (by omega), a3 1 (by omega)]
  exact h
theorem XZ.ag (h : XZ zn kd cl bw σ) (a : AgX σ σ') : XZ zn kd cl bw σ' := by
  obtain ⟨⟨a1, a2⟩, a3, a4, a5⟩ := a
  unfold XZ at h ⊢
  rw [a2, a3 2 (by omega), a5]
  exact h
theorem XB.ag (h : XB ln th sz zo pl σ) (a : AgX σ σ') : XB ln th sz zo pl σ' := by
  obtain ⟨⟨a1, a2⟩, a3, a4, a5⟩ := a
  unfold XB at h ⊢
  rw [a3 4 (by omega), a3 5 (by omega), a3 6 (by omega), a3 7 (by omega)]
  exact h
theorem x_max {p e : Nat} (h : p < e) (he : e < 100000) : (if nI p + 1 < nI e then nI e else nI p + 1) = nI e := by
  rw [nI_1]
  rcases Nat.lt_or_ge (p + 1) e with q | q
  · rw [if_pos (nI_lt q (by omega))]
  · rw [if_neg (nI_nlt q (by omega)), show e = p + 1 by omega]
theorem x_goToPart {L : List (Nat × Nat)} {p j : Nat} {q : Nat × Nat} (h : Parts σ L) (h3 : gI σ 3 = nI p) (hj : L[j]? = some q) {Q : SS → Prop} (k : ∀ σ', AgC σ σ' → gI σ' 3 = nI p → gI σ' 4 = nI (p + sumL (L.take j)) → gI σ' 5 = nI q.2 → gI σ' 6 = nI q.1 → Q σ') : wX1_goToPart (nI j) σ Q := by
  have hjl : j < L.length := (List.getElem?_eq_some_iff.mp hj).1
  have hl4 := h.2.1
  unfold wX1_goToPart wX1_goToPart_b10 wX1_goToPart_b44
  refine lfp_inv (fun t => ∃ i : Nat, i ≤ j ∧ t.1 = nI i ∧ AgC σ t.2 ∧ Parts t.2 L ∧ gI t.2 3 = nI p ∧ gI t.2 4 = nI (p + sumL (L.take i))) (fun t => j - t.1.toNatClampNeg) ⟨0, by omega, rfl, ⟨⟨⟨rfl, rfl⟩, fun _ _ => rfl, rfl, rfl⟩, rfl, rfl⟩, h, h3, h3⟩ ?_
  rintro ⟨t1, t2⟩ X ⟨i, hi, e1, A, P, g3, g4⟩ hX
  have e1' : t1 = nI i := e1
  subst e1'
  have P' : Parts t2 L := P
  have e2 : gI t2 2 = nI L.length := P'.1
  refine ⟨fun c => ?_, fun c => ⟨fun c2 => ?_, fun c2 => ⟨vp_in_nI (by omega) (by omega), ?_⟩⟩⟩
  · have : i = j := by
      rcases Nat.lt_or_ge i j with w | w
      · exact absurd c (nI_ge w (by omega))
      · omega
    subst this
    refine ⟨fun c => absurd c (nI_pos (by omega)), fun _ => ⟨fun c => ?_, fun _ => ⟨vp_in_nI (by omega) (by omega), vp_in_nI (by omega) (by omega), ?_⟩⟩⟩
    · have c' : gI t2 2 ≤ nI i := c
      rw [e2] at c'
      exact absurd c' (nI_ge hjl (by omega))
    · obtain ⟨p1, p2⟩ := P'.2.2 i q hj
      rw [nI_clamp (by omega)]
      refine k _ (A.tr ⟨⟨⟨rfl, rfl⟩, fun _ _ => rfl, rfl, rfl⟩, rfl, rfl⟩) g3 g4 p2 p1
  · have c' : gI t2 2 ≤ nI i := c2
    rw [e2] at c'
    exact absurd c' (nI_ge (by omega) (by omega))
  · have hlt : i < j := by
      rcases Nat.lt_or_ge i j with w | w
      · exact w
      · exact absurd (nI_le w (by omega)) c
    obtain ⟨x, hx⟩ : ∃ x, L[i]? = some x := ⟨L[i]'(by omega), List.getElem?_eq_getElem (by omega)⟩
    obtain ⟨p1, p2⟩ := P'.2.2 i x hx
    refine hX _ ⟨i + 1, by omega, ?_, A.tr ⟨⟨⟨rfl, rfl⟩, fun _ _ => rfl, rfl, rfl⟩, rfl, rfl⟩, P', g3, ?_⟩ ?_
    · show nI i + 1 = nI (i + 1)
      rw [nI_1]
    · show gI t2 4 + gA t2 10 (nI i).toNatClampNeg = _
      have g4' : gI t2 4 = nI (p + sumL (L.take i)) := g4
      rw [nI_clamp (by omega), p2, g4', nI_add, (sum_take L i x hx).1, Nat.add_assoc]
    · show j - (nI i + 1).toNatClampNeg < j - (nI i).toNatClampNeg
      rw [nI_1, nI_clamp (by omega), nI_clamp (by omega)]
      omega
theorem x_partWith {L : List (Nat × Nat)} {o : Nat} (h : Parts σ L) (ho : o < sumL L) (hs : sumL L < 100000) {Q : Int32 → Prop} (k : ∀ j x, L[j]? = some x → sumL (L.take j) ≤ o → o < sumL (L.take j) + x.2 → Q (nI j)) : wX1_partWith (nI o) σ Q := by
  have hl4 := h.2.1
  unfold wX1_partWith wX1_partWith_b4
  rw [h.1]
  refine lfp_inv (fun t => ∃ i : Nat, i ≤ L.length ∧ sumL (L.take i) ≤ o ∧ t = (nI (sumL (L.take i)), nI i)) (fun t => L.length - t.2.toNatClampNeg) ⟨0, by omega, by rw [List.take_zero]; exact Nat.zero_le _, rfl⟩ ?_
  rintro t X ⟨i, hi, hle, rfl⟩ hX
  refine ⟨fun c => ?_, fun c => ⟨(show vp_in (nI i) 4 from vp_in_nI ?_ (by omega)), ?_⟩⟩
  · exfalso
    have : i = L.length := by
      rcases Nat.lt_or_ge i L.length with w | w
      · exact absurd c (nI_ge w (by omega))
      · omega
    rw [this, List.take_length] at hle
    omega
  · rcases Nat.lt_or_ge i L.length with w | w
    · omega
    · exact absurd (nI_le w (by omega)) c
  · have hlt : i < L.length := by
      rcases Nat.lt_or_ge i L.length with w | w
      · exact w
      · exact absurd (nI_le w (by omega)) c
    obtain ⟨x, hx⟩ : ∃ x, L[i]? = some x := ⟨L[i]'(by omega), List.getElem?_eq_getElem (by omega)⟩
    obtain ⟨p1, p2⟩ := h.2.2 i x hx
    obtain ⟨s1, s2⟩ := sum_take L i x hx
    rw [show ((nI (sumL (L.take i)), nI i) : Int32 × Int32).2 = nI i from rfl, show ((nI (sumL (L.take i)), nI i) : Int32 × Int32).1 = nI (sumL (L.take i)) from rfl, nI_clamp (by omega), p2, nI_add]
    refine ⟨fun c2 => hX _ ⟨i + 1, by omega, ?_, ?_⟩ ?_, fun c2 => k i x hx hle ?_⟩
    · rcases Nat.lt_or_ge o (sumL (L.take (i + 1))) with w | w
      · rw [s1] at w
        exact absurd c2 (nI_ge w (by omega))
      · exact w
    · rw [s1, nI_1]
    · show L.length - (nI i + 1).toNatClampNeg < L.length - (nI i).toNatClampNeg
      rw [nI_1, nI_clamp (by omega), nI_clamp (by omega)]
      omega
    · rcases Nat.lt_or_ge o (sumL (L.take i) + x.2) with w | w
      · exact w
      · exact absurd (nI_le w (by omega)) c2
theorem x_entries (hg : Gh pg zn ow ln hd kd cl th sz zo pl) (xg : XG pg ow ln hd σ) (xz : XZ zn kd cl bw σ) (xb : XB ln th sz zo pl σ) {Q : Int32 → SS → Prop} (k : ∀ σ', AgC σ σ' → (wk ow ln hd kd sz (64 * pg) 0).length ≤ 10240 → Q (nI (wk ow ln hd kd sz (64 * pg) 0).length) σ') : wX1_entries σ Q := by
  obtain ⟨hT, hK, hSz, hSet, hJ⟩ := id hg
  have hp : pg ≤ 40 := hT.1.1
  unfold wX1_entries wX1_entries_b4
  refine lfp_inv (fun t => ∃ (p : Nat) (L : List (Nat × Nat × Nat × Nat)), p ≤ 64 * pg ∧ Bd pg ow ln kd cl p ∧ wk ow ln hd kd sz (64 * pg) 0 = L ++ wk ow ln hd kd sz (64 * pg) p ∧ L.length ≤ 4 * p ∧ t.1 = nI L.length ∧ t.2.1 = nI p ∧ AgC σ t.2.2) (fun t => 64 * pg - t.2.1.toNatClampNeg) ⟨0, [], by omega, Bd_0 hT, rfl, by simp, rfl, rfl, AgC.rf σ⟩ ?_
  rintro ⟨t1, t2, t3⟩ X ⟨p, L, hpp, hb, hL, hl, e1, e2, A⟩ hX
  have e1' : t1 = nI L.length := e1
  have e2' : t2 = nI p := e2
  have A' : AgC σ t3 := A
  subst e1' e2'
  refine x_places (xg.ag A'.1) ⟨fun c => ?_, fun c => ?_⟩
  · have : p = 64 * pg := by
      rcases Nat.lt_or_ge p (64 * pg) with q | q
      · exact absurd c (nI_ge q (by omega))
      · omega
    subst this
    rw [wk_end, List.append_nil] at hL
    rw [hL] at k
    exact k t3 A' (by omega)
  · have hlt : p < 64 * pg := by
      rcases Nat.lt_or_ge p (64 * pg) with q | q
      · exact q
      · exact absurd (nI_le q (by omega)) c
    obtain ⟨b1, b2, b3, b4⟩ := eoBd hT hb hlt
    refine x_lookAt hg (xg.ag A'.1) (xz.ag A'.1) (xb.ag A'.1) hb hlt (fun σ2 P2 A2 S2 => ?_)
    have A3 := A'.tr A2
    refine x_endOf (xg.ag A3.1) hT.1 hT.2.1 hK (xb.ag A3.1) hlt ?_
    rw [P2.1, x_max b1 (by omega)]
    have hP4 := P2.2.1
    refine hX _ ⟨eo ow ln p, L ++ ents ow ln hd kd sz p, b2, b3, ?_, ?_, ?_, rfl, A3⟩ ?_
    · rw [hL, wk_step ow ln hd kd sz hlt b1, List.append_assoc]
    · rw [List.length_append]
      unfold ents
      rw [acc_len]
      omega
    · rw [List.length_append]
      unfold ents
      rw [acc_len, ← nI_add]
    · show 64 * pg - (nI (eo ow ln p)).toNatClampNeg < 64 * pg - (nI p).toNatClampNeg
      rw [nI_clamp (by omega), nI_clamp (by omega)]
      omega
theorem x_seek (hg : Gh pg zn ow ln hd kd cl th sz zo pl) (xg : XG pg ow ln hd σ) (xz : XZ zn kd cl bw σ) (xb : XB ln th sz zo pl σ) {i : Nat} (hi : i < 2147483648) {Q : Int32 → SS → Prop} (k0 : ∀ σ', AgC σ σ' → (wk ow ln hd kd sz (64 * pg) 0)[i]? = none → Q 0 σ') (k1 : ∀ σ' e, AgC σ σ' → (wk ow ln hd kd sz (64 * pg) 0)[i]? = some e → Bd pg ow ln kd cl e.2.2.2 → e.2.2.2 < 64 * pg → gI σ' 3 = nI e.2.2.2 → gI σ' 4 = nI e.1 → gI σ' 5 = nI e.2.1 → gI σ' 6 = nI e.2.2.1 → e.1 + e.2.1 ≤ 2560 → (e.2.2.1, e.2.1) ∈ pts ow ln hd kd sz e.2.2.2 → Q 1 σ') : wX1_seek (nI i) σ Q := by
  obtain ⟨hT, hK, hSz, hSet, hJ⟩ := id hg
  have hp : pg ≤ 40 := hT.1.1
  unfold wX1_seek
  refine ⟨fun _ => ?_, fun c => absurd (by rw [l_0, nI_iI, iI_le (by omega) (by omega) (by omega) (by omega)]; omega) c⟩
  unfold wX1_seek_b10
  refine lfp_inv (fun t => ∃ (p : Nat) (L : List (Nat × Nat × Nat × Nat)), p ≤ 64 * pg ∧ Bd pg ow ln kd cl p ∧ wk ow ln hd kd sz (64 * pg) 0 = L ++ wk ow ln hd kd sz (64 * pg) p ∧ L.length ≤ 4 * p ∧ L.length ≤ i ∧ t.1 = nI L.length ∧ t.2.1 = nI p ∧ AgC σ t.2.2) (fun t => 64 * pg - t.2.1.toNatClampNeg) ⟨0, [], by omega, Bd_0 hT, rfl, by simp, by simp, rfl, rfl, AgC.rf σ⟩ ?_
  rintro ⟨t1, t2, t3⟩ X ⟨p, L, hpp, hb, hL, hl, hli, e1, e2, A⟩ hX
  have e1' : t1 = nI L.length := e1
  have e2' : t2 = nI p := e2
  have A' : AgC σ t3 := A
  subst e1' e2'
  refine x_places (xg.ag A'.1) ⟨fun c => ?_, fun c => ?_⟩
  · have : p = 64 * pg := by
      rcases Nat.lt_or_ge p (64 * pg) with q | q
      · exact absurd c (nI_ge q (by omega))
      · omega
    subst this
    rw [wk_end, List.append_nil] at hL
    refine k0 t3 A' ?_
    rw [hL]
    exact List.getElem?_eq_none hli
  · have hlt : p < 64 * pg := by
      rcases Nat.lt_or_ge p (64 * pg) with q | q
      · exact q
      · exact absurd (nI_le q (by omega)) c
    obtain ⟨b1, b2, b3, b4⟩ := eoBd hT hb hlt
    refine x_lookAt hg (xg.ag A'.1) (xz.ag A'.1) (xb.ag A'.1) hb hlt (fun σ2 P2 A2 S2 => ?_)
    have A3 := A'.tr A2
    have hP4 := P2.2.1
    have hps := pts_sum hg hb hlt
    rw [P2.1]
    show (nI L.length + nI (pts ow ln hd kd sz p).length ≤ nI i → _) ∧ (¬ nI L.length + nI (pts ow ln hd kd sz p).length ≤ nI i → _)
    rw [nI_add]
    refine ⟨fun c2 => ?_, fun c2 => ?_⟩
    · have hle : L.length + (pts ow ln hd kd sz p).length ≤ i := by
        rcases Nat.lt_or_ge i (L.length + (pts ow ln hd kd sz p).length) with q | q
        · exact absurd c2 (nI_ge q (by omega))
        · exact q
      refine x_endOf (xg.ag A3.1) hT.1 hT.2.1 hK (xb.ag A3.1) hlt ?_
      rw [x_max b1 (by omega)]
      refine hX _ ⟨eo ow ln p, L ++ ents ow ln hd kd sz p, b2, b3, ?_, ?_, ?_, ?_, rfl, A3⟩ ?_
      · rw [hL, wk_step ow ln hd kd sz hlt b1, List.append_assoc]
      · rw [List.length_append]
        unfold ents
        rw [acc_len]
        omega
      · rw [List.length_append]
        unfold ents
        rw [acc_len]
        omega
      · rw [List.length_append]
        unfold ents
        rw [acc_len]
      · show 64 * pg - (nI (eo ow ln p)).toNatClampNeg < 64 * pg - (nI p).toNatClampNeg
        rw [nI_clamp (by omega), nI_clamp (by omega)]
        omega
    · have hlt2 : i < L.length + (pts ow ln hd kd sz p).length := by
        rcases Nat.lt_or_ge i (L.length + (pts ow ln hd kd sz p).length) with q | q
        · exact q
        · exact absurd (nI_le q (by omega)) c2
      rw [pk_sub hli]
      obtain ⟨x, hx⟩ : ∃ x, (pts ow ln hd kd sz p)[i - L.length]? = some x := ⟨(pts ow ln hd kd sz p)[i - L.length]'(by omega), List.getElem?_eq_getElem (by omega)⟩
      have hs2 := (sum_take _ _ _ hx).2
      refine x_goToPart P2 S2 hx (fun σ4 A4 g3 g4 g5 g6 => k1 σ4 (p + sumL ((pts ow ln hd kd sz p).take (i - L.length)), x.2, x.1, p) (A3.tr A4) ?_ hb hlt g3 g4 g5 g6 ?_ (List.mem_of_getElem? hx))
      · rw [hL, wk_step ow ln hd kd sz hlt b1, List.getElem?_append_right hli, List.getElem?_append_left (by unfold ents; rw [acc_len]; omega)]
        unfold ents
        exact acc_get p _ _ _ _ hx
      · show p + sumL ((pts ow ln hd kd sz p).take (i - L.length)) + x.2 ≤ 2560
        omega
theorem x_kindAt (hg : Gh pg zn ow ln hd kd cl th sz zo pl) (xg : XG pg ow ln hd σ) (xz : XZ zn kd cl bw σ) (xb : XB ln th sz zo pl σ) {i : Nat} (hi : i < 64 * pg) {Q : Int32 → SS → Prop} (k : ∀ σ' r e, AgC σ σ' → sr (-1) i 0 (wk ow ln hd kd sz (64 * pg) 0) = some (r, e) → Q (nI e.2.2.1) σ') : wX1_kindAt (nI i) σ Q := by
  obtain ⟨hT, hK, hSz, hSet, hJ⟩ := id hg
  have hp : pg ≤ 40 := hT.1.1
  unfold wX1_kindAt wX1_kindAt_b2
  refine lfp_inv (fun t => ∃ (p : Nat) (L : List (Nat × Nat × Nat × Nat)), p ≤ i ∧ Bd pg ow ln kd cl p ∧ wk ow ln hd kd sz (64 * pg) 0 = L ++ wk ow ln hd kd sz (64 * pg) p ∧ (∀ e, e ∈ L → e.1 + e.2.1 ≤ p) ∧ t = nI p) (fun t => 64 * pg - t.toNatClampNeg) ⟨0, [], by omega, Bd_0 hT, rfl, fun e he => absurd he (by simp), rfl⟩ ?_
  rintro t X ⟨p, L, hpp, hb, hL, hle, rfl⟩ hX
  have hlt : p < 64 * pg := by omega
  obtain ⟨b1, b2, b3, b4⟩ := eoBd hT hb hlt
  have hps := pts_sum hg hb hlt
  refine x_places xg ⟨fun c => absurd c (nI_ge hlt (by omega)), fun c => x_endOf xg hT.1 hT.2.1 hK xb hlt ⟨fun c2 => x_endOf xg hT.1 hT.2.1 hK xb hlt ?_, fun c2 => ?_⟩⟩
  · rw [x_max b1 (by omega)]
    refine hX _ ⟨eo ow ln p, L ++ ents ow ln hd kd sz p, ?_, b3, ?_, fun e he => ?_, rfl⟩ ?_
    · rcases Nat.lt_or_ge i (eo ow ln p) with q | q
      · exact absurd c2 (nI_ge q (by omega))
      · exact q
    · rw [hL, wk_step ow ln hd kd sz hlt b1, List.append_assoc]
    · rw [List.mem_append] at he
      rcases he with he | he
      · have := hle e he
        omega
      · have := (acc_in p _ _ e he).2.1
        omega
    · rw [nI_clamp (by omega), nI_clamp (by omega)]
      omega
  · have hlt2 : i < eo ow ln p := by
      rcases Nat.lt_or_ge i (eo ow ln p) with q | q
      · exact q
      · exact absurd (nI_le q (by omega)) c2
    refine x_lookAt hg xg xz xb hb hlt (fun σ2 P2 A2 S2 => ?_)
    rw [pk_sub hpp]
    refine x_partWith P2 (by omega) (by omega) (fun j x hx h1 h2 => x_goToPart P2 S2 hx (fun σ4 A4 g3 g4 g5 g6 => ?_))
    rw [g6]
    refine k σ4 (L.length + j) (p + sumL ((pts ow ln hd kd sz p).take j), x.2, x.1, p) (A2.tr A4) ?_
    rw [hL, sr_app, sr_no (-1) i (by omega) L 0 (fun e he w => by have := hle e he; omega), wk_step ow ln hd kd sz hlt b1, sr_app]
    unfold ents
    rw [sr_acc p i _ p (0 + L.length) j x hx (by omega) (by omega), Nat.zero_add]
    rfl
end CHART
