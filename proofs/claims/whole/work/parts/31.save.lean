/-! ===== save and back ===== -/
/-- alike in the places that are looked at -/
def AgXr (σ σ' : SS) : Prop := (gI σ' 0 = gI σ 0 ∧ gI σ' 1 = gI σ 1) ∧ (∀ k, k < 40 → gA σ' 0 k = gA σ 0 k) ∧ (∀ j, j < 2560 → gA σ' 1 j = gA σ 1 j ∧ gB σ' 0 j = gB σ 0 j) ∧ (∀ z, z < 8 → gA σ' 2 z = gA σ 2 z ∧ gB σ' 1 z = gB σ 1 z) ∧ (∀ s, s < 100 → gA σ' 3 s = gA σ 3 s ∧ gA σ' 4 s = gA σ 4 s ∧ gA σ' 5 s = gA σ 5 s ∧ gA σ' 6 s = gA σ 6 s ∧ gA σ' 7 s = gA σ 7 s) ∧ ∀ k, k < 4 → gA σ' 8 k = gA σ 8 k
def AgMr (τ τ' : SS) : Prop := (gI τ' 0 = gI τ 0 ∧ gI τ' 1 = gI τ 1 ∧ gI τ' 2 = gI τ 2) ∧ (∀ k, k < 40 → gA τ' 0 k = gA τ 0 k) ∧ (∀ j, j < 2560 → gA τ' 1 j = gA τ 1 j ∧ gA τ' 2 j = gA τ 2 j ∧ gB τ' 0 j = gB τ 0 j) ∧ (∀ z, z < 8 → gA τ' 3 z = gA τ 3 z ∧ gB τ' 1 z = gB τ 1 z) ∧ (∀ s, s < 100 → gA τ' 4 s = gA τ 4 s ∧ gA τ' 5 s = gA τ 5 s ∧ gA τ' 6 s = gA τ 6 s ∧ gA τ' 7 s = gA τ 7 s ∧ gA τ' 8 s = gA τ 8 s) ∧ ∀ k, k < 4 → gA τ' 9 k = gA τ 9 k
theorem RS.agr {σ σ' τ τ' : SS} (h : RS σ τ) (hx : AgXr σ σ') (hm : AgMr τ τ') : RS σ' τ' := by
  obtain ⟨pg, zn, ow, ln, hd, kd, cl, bw, th, sz, zo, pl, g1, ⟨xg, xz, xb⟩, ⟨mg, mz, mb⟩, r1, r2, r3⟩ := h
  obtain ⟨⟨a1, a2⟩, a3, a4, a5, a6, a7⟩ := hx
  obtain ⟨⟨b1, b2, b3⟩, b4, b5, b6, b7, b8⟩ := hm
  have hp : pg ≤ 40 := g1.1.1.1
  have hz : zn ≤ 8 := g1.1.1.2.1
  refine ⟨pg, zn, ow, ln, hd, kd, cl, bw, th, sz, zo, pl, g1, ⟨⟨by rw [a1]; exact xg.1, fun k hk => by rw [a3 k (by omega)]; exact xg.2.1 k hk, fun j hj => by rw [(a4 j (by omega)).1]; exact xg.2.2 j hj⟩, ⟨by rw [a2]; exact xz.1, fun z hz2 => by rw [(a5 z (by omega)).1, (a5 z (by omega)).2]; exact xz.2 z hz2⟩, fun s hs => by rw [(a6 s hs).2.1, (a6 s hs).2.2.1, (a6 s hs).2.2.2.1, (a6 s hs).2.2.2.2]; exact xb s hs⟩, ⟨⟨by rw [b1]; exact mg.1, fun k hk => by rw [b4 k (by omega)]; exact mg.2.1 k hk, fun j hj => by rw [(b5 j (by omega)).1, (b5 j (by omega)).2.1]; exact mg.2.2 j hj⟩, ⟨by rw [b2]; exact mz.1, fun z hz2 => by rw [(b6 z (by omega)).1, (b6 z (by omega)).2]; exact mz.2 z hz2⟩, by rw [b3]; exact mb.1, fun s hs => by rw [(b7 s hs).2.1, (b7 s hs).2.2.1, (b7 s hs).2.2.2.1, (b7 s hs).2.2.2.2]; exact mb.2 s hs⟩, fun s hs => by rw [(a6 s hs).1, (b7 s hs).1]; exact r1 s hs, fun j hj => by rw [(a4 j hj).2, (b5 j hj).2.2]; exact r2 j hj, fun k hk => by rw [a7 k hk, b8 k hk]; exact r3 k hk⟩
theorem cpy_at {α : Type} (f g : Nat → α) {n j : Nat} (h : j < n) : va_cpy f g 0 0 n j = f j := by
  unfold va_cpy
  rw [if_pos ⟨by omega, by omega⟩]
  congr 1
  omega
theorem cpyN_at {α : Type} (f g : Nat → α) {n j : Nat} (h : j < n) : cpyN n f g j = f j := by
  unfold cpyN
  rw [if_pos h]
theorem cpR_ag (σb σa : SS) : AgXr σb (cpR σb σa) := by
  refine ⟨⟨rfl, rfl⟩, fun k hk => ?_, fun j hj => ⟨?_, ?_⟩, fun z hz => ⟨?_, ?_⟩, fun s hs => ⟨?_, ?_, ?_, ?_, ?_⟩, fun k hk => ?_⟩
  · exact cpy_at (gA σb 0) (gA σa 0) hk
  · exact cpy_at (gA σb 1) (gA σa 1) hj
  · exact cpy_at (gB σb 0) (gB σa 0) hj
  · exact cpy_at (gA σb 2) (gA σa 2) hz
  · exact cpy_at (gB σb 1) (gB σa 1) hz
  · exact cpy_at (gA σb 3) (gA σa 3) hs
  · exact cpy_at (gA σb 4) (gA σa 4) hs
  · exact cpy_at (gA σb 5) (gA σa 5) hs
  · exact cpy_at (gA σb 6) (gA σa 6) hs
  · exact cpy_at (gA σb 7) (gA σa 7) hs
  · exact cpy_at (gA σb 8) (gA σa 8) hk
theorem nar_bool {x : Int32} (h : x = 0 ∨ x = 1) : vp_nar .boolean x = x := by
  rcases h with rfl | rfl <;> rfl
theorem RS.th01 {σ τ : SS} (h : RS σ τ) {s : Nat} (hs : s < 100) : gA τ 5 s = 0 ∨ gA τ 5 s = 1 := by
  obtain ⟨pg, zn, ow, ln, hd, kd, cl, bw, th, sz, zo, pl, g1, ⟨xg, xz, xb⟩, ⟨mg, mz, mb⟩, r1, r2, r3⟩ := h
  cases e : th s with
  | false => exact Or.inl ((mb.2 s hs).2 e)
  | true => exact Or.inr ((mb.2 s hs).1 e).1
