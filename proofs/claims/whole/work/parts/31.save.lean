/-! ===== save and back ===== -/
/-- alike in the places that are looked at -/
def AgXr (σ σ' : SS) : Prop := (gI σ' 0 = gI σ 0 ∧ gI σ' 1 = gI σ 1) ∧ (∀ k, k < 40 → gA σ' 0 k = gA σ 0 k) ∧ (∀ j, j < 2560 → gA σ' 1 j = gA σ 1 j ∧ gB σ' 0 j = gB σ 0 j) ∧ (∀ z, z < 8 → gA σ' 2 z = gA σ 2 z ∧ gB σ' 1 z = gB σ 1 z) ∧ (∀ s, s < 100 → gA σ' 3 s = gA σ 3 s ∧ gA σ' 4 s = gA σ 4 s ∧ gA σ' 5 s = gA σ 5 s ∧ gA σ' 6 s = gA σ 6 s ∧ gA σ' 7 s = gA σ 7 s) ∧ ∀ k, k < 4 → gA σ' 8 k = gA σ 8 k
def AgMr (τ τ' : SS) : Prop := (gI τ' 0 = gI τ 0 ∧ gI τ' 1 = gI τ 1 ∧ gI τ' 2 = gI τ 2) ∧ (∀ k, k < 40 → gA τ' 0 k = gA τ 0 k) ∧ (∀ j, j < 2560 → gA τ' 1 j = gA τ 1 j ∧ gA τ' 2 j = gA τ 2 j ∧ gB τ' 0 j = gB τ 0 j) ∧ (∀ z, z < 8 → gA τ' 3 z = gA τ 3 z ∧ gB τ' 1 z = gB τ 1 z) ∧ (∀ s, s < 100 → gA τ' 4 s = gA τ 4 s ∧ gA τ' 5 s = gA τ 5 s ∧ gA τ' 6 s = gA τ 6 s ∧ gA τ' 7 s = gA τ 7 s ∧ gA τ' 8 s = gA τ 8 s) ∧ ∀ k, k < 4 → gA τ' 9 k = gA τ 9 k
theorem RS.agr {σ σ' τ τ' : SS} (h : RS σ τ) (hx : AgXr σ σ') (hm : AgMr τ τ') : RS σ' τ' := by
  obtain ⟨pg, zn, ow, ln, hd, kd, cl, bw, th, sz, zo, pl, g1, ⟨xg, xz, xb⟩, ⟨mg, mz, mb⟩, r1, r2, r3⟩ := h
  obtain ⟨⟨a1, a2⟩, a3, a4, a5, a6, a7⟩ := hx
  obtain ⟨⟨b1, b2, b3⟩, b4, b5, b6, b7, b8⟩ := hm
  have hp : pg ≤ 40 := g1.1.1.1
  have hz : zn ≤ 8 := g1.1.1.2.1
  refine ⟨pg, zn, ow, ln, hd, kd, cl, bw, th, sz, zo, pl, g1, ⟨⟨by rw [a1]; exact xg.1, fun k hk => by rw [a3 k (by omega)]; exact xg.2.1 k hk, fun j hj => by rw [(a4 j (by omega)).1]; exact xg.2.2 j hj⟩, ⟨by rw [a2]; exact xz.1, fun z hz2 => by rw [(a5 z (by omega)).1, (a5 z (by omega)).2]; exact xz.2 z hz2⟩, fun s hs => by rw [(a6 s hs).2.1, (a6 s hs).2.2.1, (a6 s hs).2.2.2.1, (a6 s hs).2.2.2.2]; exact xb s hs⟩, ⟨⟨by rw [b1]; exact mg.1, fun k hk => by rw [b4 k (by omega)]; exact mg.2.1 k hk, fun j hj => by rw [(b5 j (by omega)).1, (b5 j (by omega)).2.1]; exact mg.2.2 j hj⟩, ⟨by rw [b2]; exact mz.1, fun z hz2 => by rw [(b6 z (by omega)).1, (b6 z (by omega)).2]; exact mz.2 z hz2⟩, by rw [b3]; exact mb.1, fun s hs => by rw [(b7 s hs).2.1, (b7 s hs).2.2.1, (b7 s hs).2.2.2.1, (b7 s hs).2.2.2.2]; exact mb.2 s hs⟩, fun s hs => by rw [(a6 s hs).1, (b7 s hs).1]; exact r1 s hs, fun j hj => by rw [(a4 j hj).2, (b5 j hj).2.2]; exact r2 j hj, fun k hk => by rw [a7 k hk, b8 k hk]; exact r3 k hk⟩
theorem cpy_at {α : Type} (f g : Nat → α) {n j : Nat} (h : j < n) : va_cpy f g 0 0 n j = f j := by
  unfold va_cpy
  rw [if_pos ⟨by omega, by omega⟩]
  congr 1
  omega
theorem cpyN_at {α : Type} (f g : Nat → α) {n j : Nat} (h : j < n) : cpyN n f g j = f j := by
  unfold cpyN
  rw [if_pos h]
theorem cpR_ag (σb σa : SS) : AgXr σb (cpR σb σa) := by
  refine ⟨⟨rfl, rfl⟩, fun k hk => ?_, fun j hj => ⟨?_, ?_⟩, fun z hz => ⟨?_, ?_⟩, fun s hs => ⟨?_, ?_, ?_, ?_, ?_⟩, fun k hk => ?_⟩
  · exact cpy_at (gA σb 0) (gA σa 0) hk
  · exact cpy_at (gA σb 1) (gA σa 1) hj
  · exact cpy_at (gB σb 0) (gB σa 0) hj
  · exact cpy_at (gA σb 2) (gA σa 2) hz
  · exact cpy_at (gB σb 1) (gB σa 1) hz
  · exact cpy_at (gA σb 3) (gA σa 3) hs
  · exact cpy_at (gA σb 4) (gA σa 4) hs
  · exact cpy_at (gA σb 5) (gA σa 5) hs
  · exact cpy_at (gA σb 6) (gA σa 6) hs
  · exact cpy_at (gA σb 7) (gA σa 7) hs
  · exact cpy_at (gA σb 8) (gA σa 8) hk
theorem nar_bool {x : Int32} (h : x = 0 ∨ x = 1) : vp_nar .boolean x = x := by
  rcases h with rfl | rfl <;> rfl
theorem RS.th01 {σ τ : SS} (h : RS σ τ) {s : Nat} (hs : s < 100) : gA τ 5 s = 0 ∨ gA τ 5 s = 1 := by
  obtain ⟨pg, zn, ow, ln, hd, kd, cl, bw, th, sz, zo, pl, g1, ⟨xg, xz, xb⟩, ⟨mg, mz, mb⟩, r1, r2, r3⟩ := h
  cases e : th s with
  | false => exact Or.inl ((mb.2 s hs).2 e)
  | true => exact Or.inr ((mb.2 s hs).1 e).1
set_option maxRecDepth 20000 in
theorem s_save : stp_save II := by
  intro κ σx σm h
  obtain ⟨h1, h2, h4⟩ := id h
  unfold wX7_save
  intro s1 e1 s2 e2 s3 e3 s4 e4 s5 e5 s6 e6 s7 e7 s8 e8 s9 e9 s10 e10 s11 e11 s12 e12 s13 e13
  have ag : AgM σm s13 ∧ gA s13 10 = gA σm 10 ∧ gL s13 0 = gL σm 0 ∧ gI s13 3 = 1 := by
    subst e1; subst e2; subst e3; subst e4; subst e5; subst e6; subst e7; subst e8; subst e9; subst e10; subst e11; subst e12; subst e13
    refine ⟨⟨⟨rfl, rfl, rfl⟩, fun k hk => ?_, rfl, rfl⟩, rfl, rfl, rfl⟩
    rcases (show k = 0 ∨ k = 1 ∨ k = 2 ∨ k = 3 ∨ k = 4 ∨ k = 5 ∨ k = 6 ∨ k = 7 ∨ k = 8 ∨ k = 9 by omega) with rfl | rfl | rfl | rfl | rfl | rfl | rfl | rfl | rfl | rfl <;> rfl
  have kv : AgMr σm (kview s13) := by
    subst e1; subst e2; subst e3; subst e4; subst e5; subst e6; subst e7; subst e8; subst e9; subst e10; subst e11; subst e12; subst e13
    refine ⟨⟨rfl, rfl, rfl⟩, fun k hk => ?_, fun j hj => ⟨?_, ?_, ?_⟩, fun z hz => ⟨?_, ?_⟩, fun s hs => ⟨?_, ?_, ?_, ?_, ?_⟩, fun k hk => ?_⟩
    · exact cpyN_at (gA σm 0) _ hk
    · exact cpyN_at (gA σm 1) _ hj
    · exact cpyN_at (gA σm 2) _ hj
    · exact cpyN_at (gB σm 0) _ hj
    · exact cpyN_at (gA σm 3) _ hz
    · exact cpyN_at (gB σm 1) _ hz
    · exact cpyN_at (gA σm 4) _ hs
    · exact (cpyN_at (fun j => vp_nar .boolean (gA σm 5 j)) _ hs).trans (nar_bool (h1.th01 hs))
    · exact cpyN_at (gA σm 6) _ hs
    · exact cpyN_at (gA σm 7) _ hs
    · exact cpyN_at (gA σm 8) _ hs
    · exact cpyN_at (gA σm 9) _ hk
  refine ⟨rfl, h1.ag (AgX.rf _) ag.1, ⟨fun k hk => by rw [ag.2.1]; exact h2.1 k hk, by rw [ag.2.2.1]; exact h2.2⟩, ⟨fun e => (by simp at e), fun σk e => ?_⟩⟩
  have e := Option.some.inj e
  rw [← e]
  exact ⟨ag.2.2.2, h1.agr (cpR_ag _ _) kv⟩
set_option maxRecDepth 20000 in
theorem s_back : stp_back II := by
  constructor
  · intro σx σm h
    rw [l_m4]
    refine x_tell (n := 4) (by omega) (by omega) ?_
    unfold wX7_back
    refine ⟨fun c => absurd (h.2.2.1 rfl) c, fun _ => ?_⟩
    rw [l_m4]
    exact m_answer (n := 4) (by omega) (by omega) ⟨rfl, h.ans 4⟩
  · intro σk σx σm h
    obtain ⟨h1, h2, h4⟩ := id h
    obtain ⟨k1, k2⟩ := h4.2 σk rfl
    unfold wX7_back
    refine ⟨fun _ => ?_, fun c => absurd (k1.symm.trans c) (by decide)⟩
    intro s1 e1 s2 e2 s3 e3 s4 e4 s5 e5 s6 e6 s7 e7 s8 e8 s9 e9 s10 e10 s11 e11 s12 e12
    have ag : AgK σm s12 ∧ gA s12 10 = gA σm 10 ∧ gL s12 0 = gL σm 0 := by
      subst e1; subst e2; subst e3; subst e4; subst e5; subst e6; subst e7; subst e8; subst e9; subst e10; subst e11; subst e12
      exact ⟨⟨rfl, rfl⟩, rfl, rfl⟩
    have kv : AgMr (kview σm) s12 := by
      subst e1; subst e2; subst e3; subst e4; subst e5; subst e6; subst e7; subst e8; subst e9; subst e10; subst e11; subst e12
      refine ⟨⟨rfl, rfl, rfl⟩, fun k hk => ?_, fun j hj => ⟨?_, ?_, ?_⟩, fun z hz => ⟨?_, ?_⟩, fun s hs => ⟨?_, ?_, ?_, ?_, ?_⟩, fun k hk => ?_⟩
      · exact cpyN_at (gA σm 11) _ hk
      · exact cpyN_at (gA σm 12) _ hj
      · exact cpyN_at (gA σm 13) _ hj
      · exact cpyN_at (gB σm 2) _ hj
      · exact cpyN_at (gA σm 14) _ hz
      · exact cpyN_at (gB σm 3) _ hz
      · exact cpyN_at (gA σm 15) _ hs
      · exact (cpyN_at (fun j => vp_nar .boolean (gA σm 16 j)) _ hs).trans (nar_bool (k2.th01 hs))
      · exact cpyN_at (gA σm 17) _ hs
      · exact cpyN_at (gA σm 18) _ hs
      · exact cpyN_at (gA σm 19) _ hs
      · exact cpyN_at (gA σm 20) _ hk
    refine ⟨rfl, k2.agr (cpR_ag _ _) kv, ⟨fun k hk => ?_, ?_⟩, h4.ag ag.1⟩
    · rw [ag.2.1]; exact h2.1 k hk
    · rw [ag.2.2]; exact h2.2
