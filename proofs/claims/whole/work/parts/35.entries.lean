/-! ===== the map: entries ===== -/
/-- what begins at p, as entries' kinds and lengths, in order (none of length 0) -/
def pts (ow : Nat → Int) (ln : Nat → Nat) (hd : Nat → Int) (kd sz : Nat → Nat) (p : Nat) : List (Nat × Nat) :=
  if ow (p / 64) < 0 then [(if ow (p / 64) = -1 then 0 else 1, 64 * (p / 64) + 64 - p)]
  else if ln p = 0 then [(if p % 64 = 0 then 2 else 5, eo ow ln p - p)]
  else if kz kd (ow (p / 64)) < 2 then [(if hd p < 0 then 4 else 3, ln p)]
  else (2, 1) :: (if hd p < 0 then [(4, ln p - 1)] else if kz kd (ow (p / 64)) = 5 then [(6, 1), (3, sz (hd p).toNat), (6, 1)] else [(3, sz (hd p).toNat)]).filter (fun q => decide (0 < q.2))
/-- the chart holds these parts -/
def Parts (σ : SS) (L : List (Nat × Nat)) : Prop := gI σ 2 = nI L.length ∧ L.length ≤ 4 ∧ ∀ k q, L[k]? = some q → gA σ 9 k = nI q.1 ∧ gA σ 10 k = nI q.2
/-- alike but for the chart -/
def AgC (σ σ' : SS) : Prop := AgX σ σ' ∧ gA σ' 11 = gA σ 11 ∧ gL σ' 0 = gL σ 0
theorem AgC.rf (σ : SS) : AgC σ σ := ⟨AgX.rf σ, rfl, rfl⟩
theorem AgC.tr {a b c : SS} (h1 : AgC a b) (h2 : AgC b c) : AgC a c := by
  obtain ⟨⟨⟨p1, p2⟩, p3, p4, p5⟩, p6, p7⟩ := h1
  obtain ⟨⟨⟨q1, q2⟩, q3, q4, q5⟩, q6, q7⟩ := h2
  exact ⟨⟨⟨q1.trans p1, q2.trans p2⟩, fun k hk => (q3 k hk).trans (p3 k hk), q4.trans p4, q5.trans p5⟩, q6.trans p6, q7.trans p7⟩
theorem x_addPart {σ : SS} {L : List (Nat × Nat)} (h : Parts σ L) {k n : Nat} (hn : 0 < n) (hn2 : n < 100000) (hl : L.length < 4) {Q : SS → Prop} (kk : ∀ σ', Parts σ' (L ++ [(k, n)]) → AgC σ σ' → gI σ' 3 = gI σ 3 → Q σ') : wX1_addPart (nI k) (nI n) σ Q := by
  obtain ⟨p1, p2, p3⟩ := h
  unfold wX1_addPart
  refine ⟨fun c => absurd c (nI_nle hn (by omega)), fun _ => ⟨fun c => ?_, fun c => ?_⟩⟩
  · rw [p1] at c
    exact absurd c (nI_ge hl (by decide))
  · have hv : vp_in (gI σ 2) 4 := by rw [p1]; exact vp_in_nI hl (by omega)
    refine ⟨hv, hv, fun σ' e => ?_⟩
    have e2 : σ' = sI (sA (sA σ 9 L.length (nI k)) 10 L.length (nI n)) 2 (nI (L.length + 1)) := by
      rw [e, show gI (sA σ 9 (gI σ 2).toNatClampNeg (nI k)) 2 = gI σ 2 from rfl, show gI (sA (sA σ 9 (gI σ 2).toNatClampNeg (nI k)) 10 (gI σ 2).toNatClampNeg (nI n)) 2 = gI σ 2 from rfl, p1, nI_clamp (by omega), nI_1]
    subst e2
    refine kk _ ⟨by rw [List.length_append]; rfl, by rw [List.length_append]; show L.length + 1 ≤ 4; omega, fun j q hq => ?_⟩ ⟨⟨⟨rfl, rfl⟩, fun j hj => ?_, rfl, rfl⟩, rfl, rfl⟩ rfl
    · show upd (gA σ 9) L.length (nI k) j = _ ∧ upd (gA σ 10) L.length (nI n) j = _
      unfold upd
      by_cases ej : j = L.length
      · rw [if_pos ej, if_pos ej]
        rw [ej, List.getElem?_append_right (Nat.le_refl _), Nat.sub_self] at hq
        cases hq
        exact ⟨rfl, rfl⟩
      · rw [if_neg ej, if_neg ej]
        have hlt : j < L.length := by
          have := (List.getElem?_eq_some_iff.mp hq).1
          rw [List.length_append] at this
          have : j < L.length + 1 := this
          omega
        rw [List.getElem?_append_left hlt] at hq
        exact p3 j q hq
    · rcases (show j = 0 ∨ j = 1 ∨ j = 2 ∨ j = 3 ∨ j = 4 ∨ j = 5 ∨ j = 6 ∨ j = 7 ∨ j = 8 by omega) with rfl | rfl | rfl | rfl | rfl | rfl | rfl | rfl | rfl <;> rfl
theorem x_addPart0 {σ : SS} {k : Nat} {Q : SS → Prop} (kk : Q σ) : wX1_addPart (nI k) (nI 0) σ Q := by
  unfold wX1_addPart
  exact ⟨fun _ => kk, fun c => absurd (by decide) c⟩
