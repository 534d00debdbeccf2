section LOOK2
variable {pg zn : Nat} {ow : Nat → Int} {ln kd cl : Nat → Nat} {hd : Nat → Int} {th : Nat → Bool} {sz zo pl : Nat → Nat} {bw : Nat → Int64} {σ : SS}
theorem x_lookAt (hg : Gh pg zn ow ln hd kd cl th sz zo pl) (xg : XG pg ow ln hd σ) (xz : XZ zn kd cl bw σ) (xb : XB ln th sz zo pl σ) {p : Nat} (hb : Bd pg ow ln kd cl p) (hp : p < 64 * pg) {Q : SS → Prop} (kk : ∀ σ', Parts σ' (pts ow ln hd kd sz p) → AgC σ σ' → gI σ' 3 = nI p → Q σ') : wX1_lookAt (nI p) σ Q := by
  obtain ⟨hT0, hK, hSz, hSet, hJ⟩ := id hg
  obtain ⟨hZ, hT, hS, hB, hR⟩ := id hT0
  have hp40 := hZ.1
  have hzn := hZ.2.1
  have ho := hZ.2.2.1 (p / 64) (by omega)
  obtain ⟨e1, e2, e3, e4⟩ := eoBd hT0 hb hp
  obtain ⟨σ0, hσ0⟩ : ∃ z, z = sI (sI σ 3 (nI p)) 2 0 := ⟨_, rfl⟩
  have A0 : AgC σ σ0 := by subst hσ0; exact ⟨⟨⟨rfl, rfl⟩, fun _ _ => rfl, rfl, rfl⟩, rfl, rfl⟩
  have P0 : Parts σ0 [] := by subst hσ0; exact ⟨rfl, by decide, fun k q h => by simp at h⟩
  have S0 : gI σ0 3 = nI p := by subst hσ0; rfl
  have xg0 : XG pg ow ln hd σ0 := by subst hσ0; exact xg
  have xz0 : XZ zn kd cl bw σ0 := by subst hσ0; exact xz
  have xb0 : XB ln th sz zo pl σ0 := by subst hσ0; exact xb
  have one : ∀ k n : Nat, pts ow ln hd kd sz p = [(k, n)] → 0 < n → n < 100000 → wX1_addPart (nI k) (nI n) σ0 Q := fun k n hpt h1 h2 => x_addPart P0 h1 h2 (by decide) (fun σ' P' A' S' => kk σ' (by rw [hpt]; exact P') (A0.tr A') (S'.trans S0))
  unfold wX1_lookAt wX1_lookAt_b45 wX1_lookAt_b76 wX1_lookAt_b127
  rw [← hσ0]
  refine x_endOf xg0 hZ hT hK xb0 hp (x_ownerAt xg0 hp40 hp ?_)
  rw [pk_sub (by omega)]
  sorry
end LOOK2
