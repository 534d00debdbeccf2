section HZ
variable {zn : Nat} {kd cl : Nat → Nat} {bw : Nat → Int64} {σ τ : SS}
theorem x_hasZ (xz : XZ zn kd cl bw σ) (hz : zn ≤ 8) {a : Int} (ha : R32 a) {Q : Int32 → Prop} (k0 : a < 0 ∨ zn ≤ a → Q 0) (k1 : ∀ z : Nat, a = z → z < zn → Q 1) : wX3_hasZone (iI a) σ Q := by
  unfold R32 at ha
  unfold wX3_hasZone
  rw [xz.1]
  simp only [nI_iI]
  refine ⟨fun c => ?_, fun c => ⟨fun c2 => ?_, fun c2 => ?_⟩⟩
  · rw [l_0, iI_lt (by omega) (by omega) (by omega) (by omega)] at c; exact k0 (Or.inl c)
  · rw [iI_le (by omega) (by omega) (by omega) (by omega)] at c2; exact k0 (Or.inr c2)
  · rw [l_0, iI_lt (by omega) (by omega) (by omega) (by omega)] at c
    rw [iI_le (by omega) (by omega) (by omega) (by omega)] at c2
    exact k1 a.toNat (by omega) (by omega)
theorem m_isZ (mz : MZ zn kd cl bw τ) (hz : zn ≤ 8) {a : Int} (ha : R32 a) {Q : Int32 → Prop} (k0 : a < 0 ∨ zn ≤ a → Q 0) (k1 : ∀ z : Nat, a = z → z < zn → Q 1) : wX7_isZone (iI a) τ Q := by
  unfold R32 at ha
  unfold wX7_isZone
  rw [mz.1]
  simp only [nI_iI]
  refine ⟨fun c => ?_, fun c => ⟨fun c2 => ?_, fun c2 => ?_⟩⟩
  · rw [l_0, iI_lt (by omega) (by omega) (by omega) (by omega)] at c; exact k0 (Or.inl c)
  · rw [iI_le (by omega) (by omega) (by omega) (by omega)] at c2; exact k0 (Or.inr c2)
  · rw [l_0, iI_lt (by omega) (by omega) (by omega) (by omega)] at c
    rw [iI_le (by omega) (by omega) (by omega) (by omega)] at c2
    exact k1 a.toNat (by omega) (by omega)
end HZ
theorem s_told : stp_told II := by
  intro κ σx σm x1 x2 h
  obtain ⟨a, ha, rfl⟩ := ex_iI x1
  obtain ⟨b, hb, rfl⟩ := ex_iI x2
  obtain ⟨⟨pg, zn, ow, ln, hd, kd, cl, bw, th, sz, zo, pl, hg⟩, h2, h4⟩ := id h
  obtain ⟨g1, ⟨xg, xz, xb⟩, ⟨mg, mz, mb⟩, hraw⟩ := id hg
  have hp : pg ≤ 40 := g1.1.1.1
  have hzn : zn ≤ 8 := g1.1.1.2.1
  have ho : ∀ k, k < pg → R32 (ow k) := fun k hk => by have := g1.1.1.2.2.1 k hk; unfold R32; omega
  unfold R32 at hb
  have mk : ∀ (r : Int32) (σ' : SS), (a < 0 ∨ zn ≤ a ∨ b < 0 ∨ 3 < b → r = iI (-1) ∧ II κ σ' (ansM σm 1)) → (∀ z : Nat, a = z → z < zn → b = 0 → r = nI (kd z) ∧ II κ σ' σm) → (∀ z : Nat, a = z → z < zn → b = 1 → r = nI (cnt (fun k => decide (ow k = (z : Int))) pg) ∧ II κ σ' σm) → (∀ z : Nat, a = z → z < zn → b = 2 → r = nI (cnt (fun s => th s && decide (zo s = z)) 100) ∧ II κ σ' σm) → (∀ z : Nat, a = z → z < zn → b = 3 → r = nI (cnt (fun j => decide (0 < fr ow ln hd z j)) (64 * pg)) ∧ II κ σ' σm) → wX7_told (iI a) (iI b) σm (fun r' τ' => r = r' ∧ II κ σ' τ') := by
    intro r σ' k1 k2 k3 k4 k5
    have bad : (a < 0 ∨ zn ≤ a ∨ b < 0 ∨ 3 < b) → wX7_told_b17 σm (fun r' τ' => r = r' ∧ II κ σ' τ') := fun hc => by
      unfold wX7_told_b17
      rw [l_m1]
      exact m_answer (n := 1) (by omega) (by omega) (k1 hc)
    unfold wX7_told
    refine m_isZ mz hzn ha (fun q => ⟨fun _ => bad (by omega), fun z => absurd rfl z⟩) (fun z hz hz2 => ⟨fun q => absurd q (by decide), fun _ => ⟨fun c => ?_, fun c => ⟨fun c2 => ⟨fun c3 => ?_, fun c3 => ?_⟩, fun c2 => ?_⟩⟩⟩)
    · rw [l_0, iI_lt (by omega) (by omega) (by omega) (by omega)] at c; exact bad (by omega)
    · rw [l_0, iI_lt (by omega) (by omega) (by omega) (by omega)] at c
      rw [l_3, iI_le (by omega) (by omega) (by omega) (by omega)] at c2
      rw [l_0, iI_eq (by omega) (by omega) (by omega) (by omega)] at c3
      rcases (show b = 1 ∨ b = 2 ∨ b = 3 by omega) with rfl | rfl | rfl
      · rw [← l_1]
        exact m_told1 mg hp ho ha (by rw [hz]; exact k3 z hz hz2 rfl)
      · rw [← l_2, hz, iI_nat]
        exact m_t39 (by decide) (m_told2 mb g1 (by omega) (k4 z hz hz2 rfl))
      · rw [← l_3, hz, iI_nat]
        exact m_t39 (by decide) (m_t81 (by decide) (m_told3 mg g1 (by omega) (k5 z hz hz2 rfl)))
    · rw [l_0, iI_eq (by omega) (by omega) (by omega) (by omega)] at c3
      rw [hz, iI_nat, nI_clamp (by omega), (mz.2 z hz2).1]
      exact ⟨vp_in_nI (by omega) (by omega), k2 z hz hz2 c3⟩
    · rw [l_3, iI_le (by omega) (by omega) (by omega) (by omega)] at c2; exact bad (by omega)
  unfold wX6_told
  refine x_hasZ xz hzn ha (fun q => ⟨fun z => absurd rfl z, fun _ => ?_⟩) (fun z hz hz2 => ⟨fun _ => ⟨fun c => ?_, fun c => ?_, fun c => ?_, fun c => ?_, fun c => ?_⟩, fun q => absurd q (by decide)⟩)
  · rw [l_m1]
    exact x_tell (n := 1) (by omega) (by omega) (mk _ _ (fun _ => ⟨rfl, h.ans 1⟩) (fun z w1 w2 => by omega) (fun z w1 w2 => by omega) (fun z w1 w2 => by omega) (fun z w1 w2 => by omega))
  · rw [l_0, iI_eq (by omega) (by omega) (by omega) (by omega)] at c
    have e : iI a = nI z := by rw [hz, iI_nat]
    rw [e, nI_clamp (by omega), (xz.2 z hz2).1, ← e]
    refine ⟨by rw [e]; exact vp_in_nI (by omega) (by omega), mk _ _ (fun w => by omega) (fun z' w1 _ _ => ⟨by rw [show z' = z by omega], h⟩) (fun _ _ _ w => by omega) (fun _ _ _ w => by omega) (fun _ _ _ w => by omega)⟩
  · rw [l_1, iI_eq (by omega) (by omega) (by omega) (by omega)] at c
    exact x_pagesOf xg hp ho ha (mk _ _ (fun w => by omega) (fun _ _ _ w => by omega) (fun z' w1 _ _ => ⟨by rw [w1], h⟩) (fun _ _ _ w => by omega) (fun _ _ _ w => by omega))
  · rw [l_2, iI_eq (by omega) (by omega) (by omega) (by omega)] at c
    have e : iI a = nI z := by rw [hz, iI_nat]
    rw [e]
    refine x_blocksOf xb g1 (by omega) ?_
    rw [← e]
    exact mk _ _ (fun w => by omega) (fun _ _ _ w => by omega) (fun _ _ _ w => by omega) (fun z' w1 _ _ => ⟨by rw [show z' = z by omega], h⟩) (fun _ _ _ w => by omega)
  · rw [l_3, iI_eq (by omega) (by omega) (by omega) (by omega)] at c
    have e : iI a = nI z := by rw [hz, iI_nat]
    rw [e]
    refine x_freePiecesOf xg xb g1 (by omega) ?_
    rw [← e]
    exact mk _ _ (fun w => by omega) (fun _ _ _ w => by omega) (fun _ _ _ w => by omega) (fun _ _ _ w => by omega) (fun z' w1 _ _ => ⟨by rw [show z' = z by omega], h⟩)
  · rw [l_0, l_1, l_2, l_3, iI_eq (by omega) (by omega) (by omega) (by omega), iI_eq (by omega) (by omega) (by omega) (by omega), iI_eq (by omega) (by omega) (by omega) (by omega), iI_eq (by omega) (by omega) (by omega) (by omega)] at c
    rw [l_m1]
    exact x_tell (n := 1) (by omega) (by omega) (mk _ _ (fun _ => ⟨rfl, h.ans 1⟩) (fun _ _ _ w => by omega) (fun _ _ _ w => by omega) (fun _ _ _ w => by omega) (fun _ _ _ w => by omega))
