/-! ===== the map: entries ===== -/
/-- what begins at p, as entries' kinds and lengths, in order (none of length 0) -/
def pts (ow : Nat → Int) (ln : Nat → Nat) (hd : Nat → Int) (kd sz : Nat → Nat) (p : Nat) : List (Nat × Nat) :=
  if ow (p / 64) < 0 then [(if ow (p / 64) = -1 then 0 else 1, 64 * (p / 64) + 64 - p)]
  else if ln p = 0 then [(if p % 64 = 0 then 2 else 5, eo ow ln p - p)]
  else if kz kd (ow (p / 64)) < 2 then [(if hd p < 0 then 4 else 3, ln p)]
  else (2, 1) :: (if hd p < 0 then [(4, ln p - 1)] else if kz kd (ow (p / 64)) = 5 then [(6, 1), (3, sz (hd p).toNat), (6, 1)] else [(3, sz (hd p).toNat)]).filter (fun q => decide (0 < q.2))
/-- the chart holds these parts -/
def Parts (σ : SS) (L : List (Nat × Nat)) : Prop := gI σ 2 = nI L.length ∧ L.length ≤ 4 ∧ ∀ k q, L[k]? = some q → gA σ 9 k = nI q.1 ∧ gA σ 10 k = nI q.2
/-- alike but for the chart -/
def AgC (σ σ' : SS) : Prop := AgX σ σ' ∧ gA σ' 11 = gA σ 11 ∧ gL σ' 0 = gL σ 0
theorem AgC.rf (σ : SS) : AgC σ σ := ⟨AgX.rf σ, rfl, rfl⟩
theorem AgC.tr {a b c : SS} (h1 : AgC a b) (h2 : AgC b c) : AgC a c := by
  obtain ⟨⟨⟨p1, p2⟩, p3, p4, p5⟩, p6, p7⟩ := h1
  obtain ⟨⟨⟨q1, q2⟩, q3, q4, q5⟩, q6, q7⟩ := h2
  exact ⟨⟨⟨q1.trans p1, q2.trans p2⟩, fun k hk => (q3 k hk).trans (p3 k hk), q4.trans p4, q5.trans p5⟩, q6.trans p6, q7.trans p7⟩
theorem x_addPart {σ : SS} {L : List (Nat × Nat)} (h : Parts σ L) {k n : Nat} (hn : 0 < n) (hn2 : n < 100000) (hl : L.length < 4) {Q : SS → Prop} (kk : ∀ σ', Parts σ' (L ++ [(k, n)]) → AgC σ σ' → gI σ' 3 = gI σ 3 → Q σ') : wX1_addPart (nI k) (nI n) σ Q := by
  obtain ⟨p1, p2, p3⟩ := h
  unfold wX1_addPart
  refine ⟨fun c => absurd c (nI_nle hn (by omega)), fun _ => ⟨fun c => ?_, fun c => ?_⟩⟩
  · rw [p1] at c
    exact absurd c (nI_ge hl (by decide))
  · have hv : vp_in (gI σ 2) 4 := by rw [p1]; exact vp_in_nI hl (by omega)
    refine ⟨hv, hv, fun σ' e => ?_⟩
    have e2 : σ' = sI (sA (sA σ 9 L.length (nI k)) 10 L.length (nI n)) 2 (nI (L.length + 1)) := by
      rw [e, show gI (sA σ 9 (gI σ 2).toNatClampNeg (nI k)) 2 = gI σ 2 from rfl, show gI (sA (sA σ 9 (gI σ 2).toNatClampNeg (nI k)) 10 (gI σ 2).toNatClampNeg (nI n)) 2 = gI σ 2 from rfl, p1, nI_clamp (by omega), nI_1]
    subst e2
    refine kk _ ⟨by rw [List.length_append]; rfl, by rw [List.length_append]; show L.length + 1 ≤ 4; omega, fun j q hq => ?_⟩ ⟨⟨⟨rfl, rfl⟩, fun j hj => ?_, rfl, rfl⟩, rfl, rfl⟩ rfl
    · show upd (gA σ 9) L.length (nI k) j = _ ∧ upd (gA σ 10) L.length (nI n) j = _
      unfold upd
      by_cases ej : j = L.length
      · rw [if_pos ej, if_pos ej]
        rw [ej, List.getElem?_append_right (Nat.le_refl _), Nat.sub_self] at hq
        cases hq
        exact ⟨rfl, rfl⟩
      · rw [if_neg ej, if_neg ej]
        have hlt : j < L.length := by
          have := (List.getElem?_eq_some_iff.mp hq).1
          rw [List.length_append] at this
          have : j < L.length + 1 := this
          omega
        rw [List.getElem?_append_left hlt] at hq
        exact p3 j q hq
    · rcases (show j = 0 ∨ j = 1 ∨ j = 2 ∨ j = 3 ∨ j = 4 ∨ j = 5 ∨ j = 6 ∨ j = 7 ∨ j = 8 by omega) with rfl | rfl | rfl | rfl | rfl | rfl | rfl | rfl | rfl <;> rfl
theorem x_addPart0 {σ : SS} {k : Nat} {Q : SS → Prop} (kk : Q σ) : wX1_addPart (nI k) (nI 0) σ Q := by
  unfold wX1_addPart
  exact ⟨fun _ => kk, fun c => absurd (by decide) c⟩
section LOOK
variable {pg zn : Nat} {ow : Nat → Int} {ln kd cl : Nat → Nat} {hd : Nat → Int} {th : Nat → Bool} {sz zo pl : Nat → Nat} {bw : Nat → Int64} {σ : SS}
theorem x_addRowParts (hg : Gh pg zn ow ln hd kd cl th sz zo pl) (xz : XZ zn kd cl bw σ) (xb : XB ln th sz zo pl σ) {p : Nat} (hp : p < 64 * pg) (hl : 0 < ln p) (hr : 2 ≤ kz kd (ow (p / 64))) (h0 : Parts σ []) {Q : SS → Prop} (kk : ∀ σ', Parts σ' (pts ow ln hd kd sz p) → AgC σ σ' → gI σ' 3 = gI σ 3 → Q σ') : wX1_addRowParts (iI (bk ln hd p)) (nI (ln p)) σ Q := by
  obtain ⟨⟨hZ, hT, hS, hB, hR⟩, hK, hSz, hSet, hJ⟩ := id hg
  obtain ⟨t1, t2, -⟩ := hT p hp hl
  have hp40 := hZ.1
  have epts : pts ow ln hd kd sz p = (2, 1) :: (if hd p < 0 then [(4, ln p - 1)] else if kz kd (ow (p / 64)) = 5 then [(6, 1), (3, sz (hd p).toNat), (6, 1)] else [(3, sz (hd p).toNat)]).filter (fun q => decide (0 < q.2)) := by
    unfold pts
    rw [if_neg (by omega), if_neg (by omega), if_neg (by omega)]
  rw [epts] at kk
  unfold wX1_addRowParts bk
  rw [if_neg (by omega)]
  refine x_addPart (k := 2) (n := 1) h0 (by omega) (by omega) (by decide) (fun σ1 P1 A1 S1 => ?_)
  rcases hK.2 p hp hl with w | ⟨w1, w2, w3, w4⟩
  · rw [if_pos (by omega)] at kk ⊢
    refine ⟨fun c => absurd c (by decide), fun _ => ?_⟩
    rw [show (1 : Int32) = nI 1 from rfl, pk_sub (by omega)]
    rcases Nat.eq_zero_or_pos (ln p - 1) with q | q
    · rw [q] at kk ⊢
      exact x_addPart0 (k := 4) (kk σ1 P1 A1 S1)
    · refine x_addPart (k := 4) P1 q (by omega) (by decide) (fun σ2 P2 A2 S2 => kk σ2 ?_ (A1.tr A2) (S2.trans S1))
      rw [show ([(4, ln p - 1)] : List (Nat × Nat)).filter (fun q => decide (0 < q.2)) = [(4, ln p - 1)] by simp [q]]
      exact P2
  · rw [if_neg (by omega)] at kk ⊢
    obtain ⟨s, hs⟩ := Int.eq_ofNat_of_zero_le w1
    rw [hs] at w2 w3 w4 kk ⊢
    rw [Int.toNat_natCast] at w3 w4 kk
    have hs100 : s < 100 := by omega
    obtain ⟨z1, z2, z3, z4, z5, z6, z7, z8, z9⟩ := blk hg hs100 w3
    have ez : ow (p / 64) = zo s := by have := (hK.1 s hs100 w3).2.2.2.2; rw [w4] at this; exact this
    have ekz : kz kd (ow (p / 64)) = kd (zo s) := by unfold kz; rw [ez, Int.toNat_natCast]
    rw [ekz] at hr kk
    have hv : vp_in (nI s) 100 := vp_in_nI hs100 (by omega)
    have xz1 : XZ zn kd cl bw σ1 := by
      obtain ⟨⟨⟨a1, a2⟩, a3, a4, a5⟩, -⟩ := A1
      exact ⟨a2.trans xz.1, fun z hz => by rw [a3 2 (by omega), a5]; exact xz.2 z hz⟩
    have xb1 : XB ln th sz zo pl σ1 := by
      obtain ⟨⟨⟨a1, a2⟩, a3, a4, a5⟩, -⟩ := A1
      intro t ht
      rw [a3 4 (by omega), a3 5 (by omega), a3 6 (by omega), a3 7 (by omega)]
      exact xb t ht
    refine ⟨fun _ => ?_, fun c => absurd (by rw [l_0, iI_le (by omega) (by omega) (by omega) (by omega)]; omega) c⟩
    rw [iI_nat]
    refine x_isGuarded xb1 xz1 hg hs100 w3 (fun c => ⟨fun _ => ⟨hv, ?_⟩, fun z => absurd rfl z⟩) (fun c => ⟨fun z => absurd z (by decide), fun _ => ?_⟩)
    · rw [if_neg c] at kk
      rw [nI_clamp (by omega), ((xb1 s hs100).1 w3).2.2.2]
      rcases Nat.eq_zero_or_pos (sz s) with q | q
      · rw [q] at kk ⊢
        exact x_addPart0 (k := 3) (kk σ1 P1 A1 S1)
      · refine x_addPart (k := 3) P1 q (by omega) (by decide) (fun σ2 P2 A2 S2 => kk σ2 ?_ (A1.tr A2) (S2.trans S1))
        rw [show ([(3, sz s)] : List (Nat × Nat)).filter (fun q => decide (0 < q.2)) = [(3, sz s)] by simp [q]]
        exact P2
    · rw [if_pos c] at kk
      refine x_addPart (k := 6) (n := 1) P1 (by omega) (by omega) (by decide) (fun σ2 P2 A2 S2 => ⟨hv, ?_⟩)
      have e7 : gA σ2 7 = gA σ1 7 := A2.1.2.1 7 (by omega)
      rw [nI_clamp (by omega), e7, ((xb1 s hs100).1 w3).2.2.2]
      rcases Nat.eq_zero_or_pos (sz s) with q | q
      · rw [q] at kk ⊢
        refine x_addPart0 (k := 3) (x_addPart (k := 6) (n := 1) P2 (by omega) (by omega) (by decide) (fun σ4 P4 A4 S4 => kk σ4 P4 ((A1.tr A2).tr A4) (S4.trans (S2.trans S1))))
      · refine x_addPart (k := 3) P2 q (by omega) (by decide) (fun σ3 P3 A3 S3 => x_addPart (k := 6) (n := 1) P3 (by omega) (by omega) (Nat.le_of_ble_eq_true rfl) (fun σ4 P4 A4 S4 => kk σ4 ?_ (((A1.tr A2).tr A3).tr A4) (S4.trans (S3.trans (S2.trans S1)))))
        rw [show ([(6, 1), (3, sz s), (6, 1)] : List (Nat × Nat)).filter (fun q => decide (0 < q.2)) = [(6, 1), (3, sz s), (6, 1)] by simp [q]]
        exact P4
end LOOK
