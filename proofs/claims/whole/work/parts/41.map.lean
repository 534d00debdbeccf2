/-! ===== count, map, peek ===== -/
theorem II.ag {κ : Option SS} {σ σ' τ τ' : SS} (h : II κ σ τ) (a : AgC σ σ') (b : AgF τ τ') : II κ σ' τ' := by
  obtain ⟨h1, ⟨h2, h3⟩, h4⟩ := h
  refine ⟨h1.ag a.1 b.1, ⟨fun k hk => ?_, ?_⟩, h4.ag b.2.1⟩
  · rw [a.2.1, b.2.2.1]; exact h2 k hk
  · rw [a.2.2, b.2.2.2]; exact h3
theorem AgF.rf (τ : SS) : AgF τ τ := (AgE.rf τ).1
section MAP
variable {pg zn : Nat} {ow : Nat → Int} {ln kd cl : Nat → Nat} {hd : Nat → Int} {th : Nat → Bool} {sz zo pl : Nat → Nat} {bw : Nat → Int64} {σ τ : SS}
theorem m_count1 (mg : MG pg ow ln hd τ) (hp : pg ≤ 40) (ho : ∀ k, k < pg → R32 (ow k)) {Q : Int32 → SS → Prop} (k : Q (nI (cnt (fun k => decide (ow k = -1)) pg)) τ) : wX7_count_b43 0 0 τ Q := by
  unfold wX7_count_b43 wX7_count_b67
  rw [mg.1]
  refine lfp_inv (fun t => ∃ i : Nat, i ≤ pg ∧ t = (nI (cnt (fun k => decide (ow k = -1)) i), nI i)) (fun t => pg - t.2.toNatClampNeg) ⟨0, by omega, rfl⟩ ?_
  rintro t X ⟨i, hi, rfl⟩ hX
  refine ⟨fun c => ?_, fun c => ?_⟩
  · have : i = pg := by
      rcases Nat.lt_or_ge i pg with q | q
      · exact absurd c (nI_ge q (by omega))
      · omega
    subst this
    exact k
  · have hlt : i < pg := by
      rcases Nat.lt_or_ge i pg with q | q
      · exact q
      · exact absurd (nI_le q (by omega)) c
    have hr := ho i hlt
    unfold R32 at hr
    have hm : pg - (nI (i + 1)).toNatClampNeg < pg - (nI i).toNatClampNeg := by
      rw [nI_clamp (by omega), nI_clamp (by omega)]; omega
    refine ⟨vp_in_nI (by omega) (by omega), ?_⟩
    rw [show ((nI (cnt (fun k => decide (ow k = -1)) i), nI i) : Int32 × Int32).2 = nI i from rfl, nI_clamp (by omega), mg.2.1 i hlt, nI_1]
    refine ⟨fun c2 => hX _ ⟨i + 1, by omega, ?_⟩ hm, fun c2 => hX _ ⟨i + 1, by omega, ?_⟩ hm⟩
    · have e : ¬ ow i = -1 := fun q => c2 (by rw [q]; rfl)
      rw [cnt_step, if_neg (by simpa using e)]
      show (nI (cnt (fun k => decide (ow k = -1)) i) + nI 0, _) = _
      rw [nI_add]
    · have e : ow i = -1 := by
        rw [l_m1, iI_eq hr.1 hr.2 (by omega) (by omega)] at c2
        exact c2
      rw [cnt_step, if_pos (by simpa using e)]
      show (nI (cnt (fun k => decide (ow k = -1)) i) + 1, _) = _
      rw [nI_1]
theorem pts_who {p k n : Nat} (h : (k, n) ∈ pts ow ln hd kd sz p) (hk : k = 3 ∨ k = 6) : 0 < ln p ∧ 0 ≤ hd p := by
  unfold pts at h
  by_cases h1 : ow (p / 64) < 0
  · rw [if_pos h1, List.mem_singleton] at h
    have := congrArg Prod.fst h
    simp only at this
    split at this <;> omega
  · rw [if_neg h1] at h
    by_cases h2 : ln p = 0
    · rw [if_pos h2, List.mem_singleton] at h
      have := congrArg Prod.fst h
      simp only at this
      split at this <;> omega
    · rw [if_neg h2] at h
      refine ⟨by omega, ?_⟩
      by_cases h4 : hd p < 0
      · exfalso
        by_cases h3 : kz kd (ow (p / 64)) < 2
        · rw [if_pos h3, if_pos h4, List.mem_singleton] at h
          have := congrArg Prod.fst h
          simp only at this
          omega
        · rw [if_neg h3, if_pos h4, List.mem_cons] at h
          rcases h with h | h
          · have := congrArg Prod.fst h
            simp only at this
            omega
          · have h := (List.mem_filter.mp h).1
            rw [List.mem_singleton] at h
            have := congrArg Prod.fst h
            simp only at this
            omega
      · omega
theorem pts_kind {p k n : Nat} (h : (k, n) ∈ pts ow ln hd kd sz p) : k < 10 := by
  have key : ∀ x, x ∈ pts ow ln hd kd sz p → x.1 < 10 := by
    intro x hx
    unfold pts at hx
    split at hx
    · rw [List.mem_singleton] at hx
      subst hx
      simp only
      split <;> omega
    · split at hx
      · rw [List.mem_singleton] at hx
        subst hx
        simp only
        split <;> omega
      · split at hx
        · rw [List.mem_singleton] at hx
          subst hx
          simp only
          split <;> omega
        · rw [List.mem_cons] at hx
          rcases hx with hx | hx
          · subst hx; simp only; omega
          · have hx := (List.mem_filter.mp hx).1
            split at hx
            · rw [List.mem_singleton] at hx
              subst hx; simp only; omega
            · split at hx
              · simp only [List.mem_cons, List.not_mem_nil, or_false] at hx
                rcases hx with hx | hx | hx <;> (subst hx; simp only; omega)
              · rw [List.mem_singleton] at hx
                subst hx; simp only; omega
  exact key _ h
end MAP
theorem s_count : stp_count II := by
  intro κ σx σm x1 h
  obtain ⟨a, ha, rfl⟩ := ex_iI x1
  obtain ⟨⟨pg, zn, ow, ln, hd, kd, cl, bw, th, sz, zo, pl, hg⟩, h2, h4⟩ := id h
  obtain ⟨g1, ⟨xg, xz, xb⟩, ⟨mg, mz, mb⟩, hraw⟩ := id hg
  have hp : pg ≤ 40 := g1.1.1.1
  have ho : ∀ k, k < pg → R32 (ow k) := fun k hk => by have := g1.1.1.2.2.1 k hk; have := g1.1.1.2.1; unfold R32; omega
  unfold R32 at ha
  have e0 : iI a = 0 ↔ a = 0 := by rw [l_0]; exact iI_eq (by omega) (by omega) (by omega) (by omega)
  have e1 : iI a = 1 ↔ a = 1 := by rw [l_1]; exact iI_eq (by omega) (by omega) (by omega) (by omega)
  have e2 : iI a = 2 ↔ a = 2 := by rw [l_2]; exact iI_eq (by omega) (by omega) (by omega) (by omega)
  have e3 : iI a = 3 ↔ a = 3 := by rw [l_3]; exact iI_eq (by omega) (by omega) (by omega) (by omega)
  have e4 : iI a = 4 ↔ a = 4 := by rw [l_4]; exact iI_eq (by omega) (by omega) (by omega) (by omega)
  have mk : ∀ (r : Int32) (σ' : SS), (a = 0 → r = nI pg ∧ II κ σ' σm) → (a = 1 → r = nI (cnt (fun k => decide (ow k = -1)) pg) ∧ II κ σ' σm) → (a = 2 → r = nI zn ∧ II κ σ' σm) → (a = 3 → r = nI (cnt th 100) ∧ II κ σ' σm) → (a = 4 → ∀ τ', AgF σm τ' → r = nI (wk ow ln hd kd sz (64 * pg) 0).length ∧ II κ σ' τ') → (¬ a = 0 ∧ ¬ a = 1 ∧ ¬ a = 2 ∧ ¬ a = 3 ∧ ¬ a = 4 → r = iI (-1) ∧ II κ σ' (ansM σm 1)) → wX7_count (iI a) σm (fun r' τ' => r = r' ∧ II κ σ' τ') := by
    intro r σ' k0 k1 k2 k3 k4 k5
    unfold wX7_count
    rw [e0, e1, e2, e3, e4, mg.1, mz.1, mb.1]
    refine ⟨k0, fun c => m_count1 mg hp ho (k1 c), k2, k3, fun c => ?_, fun c => ?_⟩
    · rw [l_m1]
      refine m_go g1 mg mz mb (by unfold R32; omega) (by unfold R32; omega) (fun τ' A G => ?_)
      rw [(G.1 (sr_no (-1) (-1) (by omega) _ 0 (fun e _ w => by omega))).2]
      exact k4 c τ' A
    · rw [l_m1]
      exact m_answer (n := 1) (by omega) (by omega) (k5 c)
  unfold wX6_count
  rw [e0, e1, e2, e3, e4, xg.1, xz.1]
  refine ⟨fun c => mk _ _ (fun _ => ⟨rfl, h⟩) (by omega) (by omega) (by omega) (by omega) (by omega), fun c => ?_, fun c => mk _ _ (by omega) (by omega) (fun _ => ⟨rfl, h⟩) (by omega) (by omega) (by omega), fun c => x_blocks xb g1 (mk _ _ (by omega) (by omega) (by omega) (fun _ => ⟨rfl, h⟩) (by omega) (by omega)), fun c => x_entries g1 xg xz xb (fun σ' A _ => mk _ _ (by omega) (by omega) (by omega) (by omega) (fun _ τ' B => ⟨rfl, h.ag A B⟩) (by omega)), fun c => ?_⟩
  · rw [l_m1]
    exact x_pagesOf xg hp ho (by unfold R32; omega) (mk _ _ (by omega) (fun _ => ⟨rfl, h⟩) (by omega) (by omega) (by omega) (by omega))
  · rw [l_m1]
    exact x_tell (n := 1) (by omega) (by omega) (mk _ _ (by omega) (by omega) (by omega) (by omega) (by omega) (fun _ => ⟨rfl, h.ans 1⟩))
theorem s_peek : stp_peek II := by
  intro κ σx σm x1 h
  obtain ⟨a, ha, rfl⟩ := ex_iI x1
  obtain ⟨⟨pg, zn, ow, ln, hd, kd, cl, bw, th, sz, zo, pl, hg⟩, h2, h4⟩ := id h
  obtain ⟨g1, ⟨xg, xz, xb⟩, ⟨mg, mz, mb⟩, hraw⟩ := id hg
  have hp : pg ≤ 40 := g1.1.1.1
  have hzn := g1.1.1.2.1
  unfold R32 at ha
  have mk : ∀ (r : Int32) (σ' : SS), (a < 0 ∨ 64 * pg ≤ a → r = iI (-1) ∧ II κ σ' (ansM σm 1)) → (∀ p : Nat, a = p → p < 64 * pg → ow (p / 64) = -2 → r = iI (-2) ∧ II κ σ' (ansM σm 2)) → (∀ p : Nat, a = p → p < 64 * pg → ¬ ow (p / 64) = -2 → ∀ τ' : SS, AgF σm τ' → (∀ i e, sr (-1) p 0 (wk ow ln hd kd sz (64 * pg) 0) = some (i, e) → gI τ' 9 = nI e.2.2.1) → r = gI τ' 9 ∧ II κ σ' (sL τ' 0 (gB σx 0 p))) → wX7_peek (iI a) σm (fun r' τ' => r = r' ∧ II κ σ' τ') := by
    intro r σ' k1 k2 k3
    have bad : (a < 0 ∨ 64 * pg ≤ a) → wX7_peek_b15 σm (fun r' τ' => r = r' ∧ II κ σ' τ') := fun hc => by
      unfold wX7_peek_b15
      rw [l_m1]
      exact m_answer (n := 1) (by omega) (by omega) (k1 hc)
    unfold wX7_peek
    rw [mg.1, l_0, show (64 : Int32) = nI 64 from rfl, pk_mul]
    refine br_lt (by unfold R32; omega) ⟨fun c => bad (by omega), fun c => ?_⟩
    obtain ⟨p, rfl⟩ := Int.eq_ofNat_of_zero_le (show 0 ≤ a by omega)
    rw [nI_iI (64 * pg)]
    refine br_lt (by unfold R32; omega) ⟨fun c2 => ?_, fun c2 => bad (by omega)⟩
    rw [iI_nat, pk_div (by omega) (by omega) (by omega), nI_clamp (by omega), mg.2.1 _ (by omega)]
    have ho := g1.1.1.2.2.1 (p / 64) (by omega)
    refine ⟨vp_in_nI (by omega) (by omega), fun c3 => ?_, fun c3 => ?_⟩
    · have hne : ¬ ow (p / 64) = -2 := fun w => c3 (by rw [w]; rfl)
      rw [l_m1, ← iI_nat]
      refine m_go g1 mg mz mb (by unfold R32; omega) (by unfold R32; omega) (fun τ' A G => ⟨vp_in_iI (by omega) (by omega) (by omega), ?_⟩)
      have eB : gB τ' 0 p = gB σx 0 p := by
        have a3 : gB τ' 0 = gB σm 0 := A.1.2.2.1
        rw [a3]
        exact (hraw.2.1 p (by omega)).symm
      rw [clamp_iI (by omega) (by omega), Int.toNat_natCast, eB]
      exact k3 p rfl (by omega) hne τ' A (fun i e w => (G.2 i e w).2.2.2.2.1)
    · have hne : ow (p / 64) = -2 := by
        rw [l_m2, iI_eq (by omega) (by omega) (by omega) (by omega)] at c3
        exact c3
      rw [l_m2]
      exact m_answer (n := 2) (by omega) (by omega) (k2 p rfl (by omega) hne)
  have bad : (a < 0 ∨ 64 * pg ≤ a) → wX6_peek_b15 σx (fun r σx' => wX7_peek (iI a) σm (fun r' σm' => r = r' ∧ II κ σx' σm')) := fun hc => by
    unfold wX6_peek_b15
    rw [l_m1]
    exact x_tell (n := 1) (by omega) (by omega) (mk _ _ (fun _ => ⟨rfl, h.ans 1⟩) (fun p w1 w2 => by omega) (fun p w1 w2 => by omega))
  unfold wX6_peek
  rw [l_0]
  refine br_lt (by unfold R32; omega) ⟨fun c => bad (by omega), fun c => x_places xg ?_⟩
  obtain ⟨p, rfl⟩ := Int.eq_ofNat_of_zero_le (show 0 ≤ a by omega)
  rw [nI_iI (64 * pg)]
  refine br_lt (by unfold R32; omega) ⟨fun c2 => ?_, fun c2 => bad (by omega)⟩
  have ho := g1.1.1.2.2.1 (p / 64) (by omega)
  have hpn : iI (p : Int) = nI p := iI_nat p
  rw [hpn]
  refine x_ownerAt xg hp (by omega) ⟨fun c3 => x_numberAt (by omega) ?_, fun c3 => ?_⟩
  · have hne : ¬ ow (p / 64) = -2 := fun w => c3 (by rw [w]; rfl)
    refine x_kindAt (σ := sL σx 0 (gB σx 0 p)) g1 xg xz xb (by omega) (fun σ' i e A hs => ?_)
    rw [← hpn]
    refine mk _ _ (fun w => by omega) (fun p' w1 w2 w3 => absurd (by rw [show p = p' by omega]; exact w3) hne) (fun p' w1 w2 w3 τ' B hk => ?_)
    have : p' = p := by omega
    subst this
    refine ⟨(hk i e hs).symm, ?_⟩
    exact (h.val (gB σx 0 p')).ag A ⟨B.1, B.2.1, B.2.2.1, rfl⟩
  · have hne : ow (p / 64) = -2 := by
      rw [l_m2, iI_eq (by omega) (by omega) (by omega) (by omega)] at c3
      exact c3
    rw [l_m2, ← hpn]
    exact x_tell (n := 2) (by omega) (by omega) (mk _ _ (fun w => by omega) (fun p' w1 w2 w3 => ⟨rfl, h.ans 2⟩) (fun p' w1 w2 w3 => absurd (by rw [show p' = p by omega]; exact hne) w3))
theorem s_map : stp_map II := by
  intro κ σx σm x1 x2 h
  obtain ⟨a, ha, rfl⟩ := ex_iI x1
  obtain ⟨b, hb, rfl⟩ := ex_iI x2
  obtain ⟨⟨pg, zn, ow, ln, hd, kd, cl, bw, th, sz, zo, pl, hg⟩, h2, h4⟩ := id h
  obtain ⟨g1, ⟨xg, xz, xb⟩, ⟨mg, mz, mb⟩, hraw⟩ := id hg
  obtain ⟨hT, hK, -⟩ := id g1
  have hp : pg ≤ 40 := g1.1.1.1
  have hzn := g1.1.1.2.1
  unfold R32 at ha hb
  have e0 : iI b = 0 ↔ b = 0 := by rw [l_0]; exact iI_eq (by omega) (by omega) (by omega) (by omega)
  have e1 : iI b = 1 ↔ b = 1 := by rw [l_1]; exact iI_eq (by omega) (by omega) (by omega) (by omega)
  have e2 : iI b = 2 ↔ b = 2 := by rw [l_2]; exact iI_eq (by omega) (by omega) (by omega) (by omega)
  have e3 : iI b = 3 ↔ b = 3 := by rw [l_3]; exact iI_eq (by omega) (by omega) (by omega) (by omega)
  have c0 : iI b < 0 ↔ b < 0 := by rw [l_0]; exact iI_lt (by omega) (by omega) (by omega) (by omega)
  have c4 : 4 < iI b ↔ 4 < b := by rw [l_4]; exact iI_lt (by omega) (by omega) (by omega) (by omega)
  have c4' : iI b ≤ 4 ↔ b ≤ 4 := by rw [l_4]; exact iI_le (by omega) (by omega) (by omega) (by omega)
  have mk : ∀ (r : Int32) (σ' : SS), (a < 0 ∨ b < 0 ∨ 4 < b ∨ (wk ow ln hd kd sz (64 * pg) 0)[a.toNat]? = none → ∀ τ', AgF σm τ' → r = iI (-1) ∧ II κ σ' (ansM τ' 1)) → (∀ e, 0 ≤ a → 0 ≤ b → b ≤ 4 → (wk ow ln hd kd sz (64 * pg) 0)[a.toNat]? = some e → ∀ τ', AgF σm τ' → (R32 (whoE hd e) ∧ whoE hd e < 100 ∧ (b = 0 → r = nI e.1) ∧ (b = 1 → r = nI e.2.1) ∧ (b = 2 → r = nI e.2.2.1) ∧ (b = 3 → r = if whoE hd e < 0 then iI (-1) else 100 * (gA σm 4 (whoE hd e).toNat - 1) + iI (whoE hd e)) ∧ (b = 4 → r = iI (whrE ow e))) ∧ II κ σ' τ') → wX7_map (iI a) (iI b) σm (fun r' τ' => r = r' ∧ II κ σ' τ') := by
    intro r σ' k1 k2
    have bad : ∀ τ', AgF σm τ' → (a < 0 ∨ b < 0 ∨ 4 < b ∨ (wk ow ln hd kd sz (64 * pg) 0)[a.toNat]? = none) → wX7_map_b32 τ' (fun r' τ' => r = r' ∧ II κ σ' τ') := fun τ' A hc => by
      unfold wX7_map_b32
      rw [l_m1]
      exact m_answer (n := 1) (by omega) (by omega) (k1 hc τ' A)
    unfold wX7_map
    rw [l_0]
    refine br_le (by unfold R32; omega) ⟨fun c => ?_, fun c => ?_⟩
    · rw [show (-1 : Int32) = iI (-1) from l_m1]
      refine m_go g1 mg mz mb (by unfold R32; omega) (by unfold R32; omega) (fun τ' A G => ?_)
      have hs := sr_ix (wk ow ln hd kd sz (64 * pg) 0) a.toNat 0 (Nat.zero_le _)
      rw [Nat.sub_zero, show ((a.toNat : Nat) : Int) = a by omega] at hs
      cases hq : (wk ow ln hd kd sz (64 * pg) 0)[a.toNat]? with
      | none =>
        rw [hq] at hs
        rw [(G.1 hs).1, ← l_0]
        exact ⟨fun _ => bad τ' A (Or.inr (Or.inr (Or.inr hq))), fun z => absurd rfl z⟩
      | some e =>
        rw [hq] at hs
        obtain ⟨q15, q12, q7, q8, q9, q10, q11⟩ := G.2 a.toNat e hs
        rw [q15, ← l_0, c0, c4']
        refine ⟨fun z => absurd z (by decide), fun _ => ⟨fun cb => bad τ' A (by omega), fun cb => ⟨fun cb4 => ?_, fun cb4 => bad τ' A (by omega)⟩⟩⟩
        obtain ⟨kk, kI⟩ := k2 e c (by omega) cb4 hq τ' A
        obtain ⟨w1, w2, v0, v1, v2, v3, v4⟩ := kk
        have w1' := w1
        unfold R32 at w1'
        rw [q10]
        have end' : ∀ t0 : Int32, (b = 3 → r = t0) → wX7_map_b68 (iI b) t0 τ' (fun r' τ' => r = r' ∧ II κ σ' τ') := by
          intro t0 ht0
          unfold wX7_map_b68
          rw [e0, e1, e2, e3, q7, q8, q9, q11]
          exact ⟨fun _ => ⟨fun _ => ⟨fun _ => ⟨fun _ => ⟨v4 (by omega), kI⟩, fun z => ⟨ht0 z, kI⟩⟩, fun z => ⟨v2 z, kI⟩⟩, fun z => ⟨v1 z, kI⟩⟩, fun z => ⟨v0 z, kI⟩⟩
        rw [l_0]
        refine br_le (by unfold R32; omega) ⟨fun cw => ⟨vp_in_iI cw (by omega) (by omega), end' _ (fun hb3 => ?_)⟩, fun cw => end' _ (fun hb3 => ?_)⟩
        · rw [v3 hb3, if_neg (by omega), clamp_iI cw (by omega)]
          have : gA τ' 4 = gA σm 4 := A.1.2.1 4 (by omega)
          rw [this]
        · rw [v3 hb3, if_pos (by omega)]
    · rw [l_m1]
      exact m_answer (n := 1) (by omega) (by omega) (k1 (by omega) σm (AgF.rf σm))
  have bad : ∀ σ', AgC σx σ' → (a < 0 ∨ b < 0 ∨ 4 < b ∨ (wk ow ln hd kd sz (64 * pg) 0)[a.toNat]? = none) → wX6_map_b20 σ' (fun r σx' => wX7_map (iI a) (iI b) σm (fun r' σm' => r = r' ∧ II κ σx' σm')) := fun σ' A hc => by
    unfold wX6_map_b20
    rw [l_m1]
    refine x_tell (n := 1) (by omega) (by omega) (mk _ _ (fun _ τ' B => ⟨rfl, (h.ag A B).ans 1⟩) (fun e w1 w2 w3 w4 => ?_))
    exfalso
    rcases hc with q | q | q | q
    · omega
    · omega
    · omega
    · rw [q] at w4; exact absurd w4 (by simp)
  unfold wX6_map
  rw [c0, c4]
  refine ⟨fun c => bad σx (AgC.rf σx) (by omega), fun c => ⟨fun c2 => bad σx (AgC.rf σx) (by omega), fun c2 => ?_⟩⟩
  by_cases ha0 : a < 0
  · unfold wX1_seek
    refine ⟨fun z => ?_, fun _ => ⟨fun z => absurd rfl z, fun _ => bad σx (AgC.rf σx) (by omega)⟩⟩
    rw [l_0, iI_le (by omega) (by omega) (by omega) (by omega)] at z
    omega
  obtain ⟨i, rfl⟩ := Int.eq_ofNat_of_zero_le (show 0 ≤ a by omega)
  rw [iI_nat]
  refine x_seek g1 xg xz xb (by omega) (fun σ' A hn => ⟨fun z => absurd rfl z, fun _ => ?_⟩) (fun σ' e A hs b1 b2 q3 q4 q5 q6 hin hm => ⟨fun _ => ?_, fun z => absurd z (by decide)⟩)
  · rw [← iI_nat]
    exact bad σ' A (Or.inr (Or.inr (Or.inr (by rw [Int.toNat_natCast]; exact hn))))
  · have hwr : R32 (whoE hd e) ∧ whoE hd e < 100 ∧ (e.2.2.1 = 3 ∨ e.2.2.1 = 6 → 0 < ln e.2.2.2 ∧ 0 ≤ hd e.2.2.2 ∧ whoE hd e = hd e.2.2.2) ∧ (¬ (e.2.2.1 = 3 ∨ e.2.2.1 = 6) → whoE hd e = -1) := by
      unfold whoE
      by_cases hk : e.2.2.1 = 3 ∨ e.2.2.1 = 6
      · rw [if_pos hk]
        obtain ⟨l1, l2⟩ := pts_who hm hk
        rcases hK.2 _ b2 l1 with w | ⟨w1, w2, -⟩
        · omega
        · exact ⟨by unfold R32; omega, w2, fun _ => ⟨l1, l2, rfl⟩, fun z => absurd hk z⟩
      · rw [if_neg hk]
        exact ⟨by unfold R32; omega, by omega, fun z => absurd z hk, fun _ => rfl⟩
    obtain ⟨w1, w2, w3, w4⟩ := hwr
    have w1' := w1
    unfold R32 at w1'
    have good : ∀ r : Int32, (b = 0 → r = nI e.1) ∧ (b = 1 → r = nI e.2.1) ∧ (b = 2 → r = nI e.2.2.1) ∧ (b = 3 → r = if whoE hd e < 0 then iI (-1) else 100 * (gA σm 4 (whoE hd e).toNat - 1) + iI (whoE hd e)) ∧ (b = 4 → r = iI (whrE ow e)) → wX7_map (nI i) (iI b) σm (fun r' σm' => r = r' ∧ II κ σ' σm') := by
      intro r hr
      rw [← iI_nat]
      refine mk _ _ (fun w => ?_) (fun e' v1 v2 v3 v4 τ' B => ?_)
      · exfalso
        rcases w with q | q | q | q
        · omega
        · omega
        · omega
        · rw [Int.toNat_natCast, hs] at q; exact absurd q (by simp)
      · rw [Int.toNat_natCast, hs] at v4
        have : e = e' := by simpa using v4
        subst this
        exact ⟨⟨w1, w2, hr⟩, h.ag A B⟩
    rw [e0, e1, e2, e3, q4, q5, q6]
    refine ⟨fun z => good _ ⟨fun _ => rfl, by omega, by omega, by omega, by omega⟩, fun z => good _ ⟨by omega, fun _ => rfl, by omega, by omega, by omega⟩, fun z => good _ ⟨by omega, by omega, fun _ => rfl, by omega, by omega⟩, fun z => ?_, fun z => ?_⟩
    · have gd : ∀ r : Int32, r = (if whoE hd e < 0 then iI (-1) else 100 * (gA σm 4 (whoE hd e).toNat - 1) + iI (whoE hd e)) → wX7_map (nI i) (iI b) σm (fun r' σm' => r = r' ∧ II κ σ' σm') := fun r hr => good r ⟨by omega, by omega, by omega, fun _ => hr, by omega⟩
      have xg' := xg.ag A.1
      unfold wX1_handle wX1_handle_b29 wX1_handle_b34
      rw [q3, q6]
      refine x_blockAt xg' hT.1 hT.2.1 hK b2 ?_
      have no : ¬ (e.2.2.1 = 3 ∨ e.2.2.1 = 6) → (0 = (0 : Int32) → wX7_map (nI i) (iI b) σm (fun r' σm' => (-1 : Int32) = r' ∧ II κ σ' σm')) := fun z _ => gd _ (by rw [w4 z, if_pos (by omega)]; rfl)
      have yes : (e.2.2.1 = 3 ∨ e.2.2.1 = 6) → ((1 : Int32) = 0 → wX7_map (nI i) (iI b) σm (fun r' σm' => (-1 : Int32) = r' ∧ II κ σ' σm')) ∧ (¬ (1 : Int32) = 0 → (iI (bk ln hd e.2.2.2) < 0 → wX7_map (nI i) (iI b) σm (fun r' σm' => (-1 : Int32) = r' ∧ II κ σ' σm')) ∧ (¬ iI (bk ln hd e.2.2.2) < 0 → wX3_handleOf (iI (bk ln hd e.2.2.2)) σ' (fun r48 => wX7_map (nI i) (iI b) σm (fun r' σm' => r48 = r' ∧ II κ σ' σm')))) := by
        intro z
        obtain ⟨u1, u2, u3⟩ := w3 z
        have eb : bk ln hd e.2.2.2 = whoE hd e := by
          unfold bk
          rw [if_neg (by omega), if_neg (by omega), u3]
        rw [eb]
        refine ⟨fun w => absurd w (by decide), fun _ => ⟨fun w => ?_, fun w => ?_⟩⟩
        · rw [l_0, iI_lt (by omega) (by omega) (by omega) (by omega)] at w
          omega
        · unfold wX3_handleOf
          refine ⟨vp_in_iI (by omega) (by omega) (by omega), gd _ ?_⟩
          rw [if_neg (by omega), clamp_iI (by omega) (by omega)]
          have a3 : gA σ' 3 = gA σx 3 := A.1.2.1 3 (by omega)
          rw [a3, hraw.1 _ (by omega)]
      have hk10 : e.2.2.1 < 10 := pts_kind hm
      refine ⟨fun w => yes (Or.inl ((nI_eq (b := 3) (by omega) (by omega)).mp w)), fun w => ⟨fun w2 => ⟨no ?_, fun z => absurd rfl z⟩, fun w2 => yes (Or.inr ((nI_eq (b := 6) (by omega) (by omega)).mp w2))⟩⟩
      rintro (v | v)
      · exact w (by rw [v]; rfl)
      · exact w2 (by rw [v]; rfl)
    · have gd : ∀ r : Int32, r = iI (whrE ow e) → wX7_map (nI i) (iI b) σm (fun r' σm' => r = r' ∧ II κ σ' σm') := fun r hr => good r ⟨by omega, by omega, by omega, by omega, fun _ => hr⟩
      have ho := hT.1.2.2.1 (e.2.2.2 / 64) (by omega)
      unfold wX1_zoneNumber
      rw [q3]
      refine x_ownerAt (xg.ag A.1) hp b2 (gd _ ?_)
      unfold whrE
      rw [l_m1]
      by_cases hz : ow (e.2.2.2 / 64) < 0
      · rw [if_pos hz, if_neg (fun w => by rw [iI_lt (by omega) (by omega) (by omega) (by omega)] at w; omega)]
      · rw [if_neg hz, if_pos (by rw [iI_lt (by omega) (by omega) (by omega) (by omega)]; omega)]
