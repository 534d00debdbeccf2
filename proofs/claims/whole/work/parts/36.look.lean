section LOOK2
variable {pg zn : Nat} {ow : Nat → Int} {ln kd cl : Nat → Nat} {hd : Nat → Int} {th : Nat → Bool} {sz zo pl : Nat → Nat} {bw : Nat → Int64} {σ : SS}
theorem x_lookAt (hg : Gh pg zn ow ln hd kd cl th sz zo pl) (xg : XG pg ow ln hd σ) (xz : XZ zn kd cl bw σ) (xb : XB ln th sz zo pl σ) {p : Nat} (hb : Bd pg ow ln kd cl p) (hp : p < 64 * pg) {Q : SS → Prop} (kk : ∀ σ', Parts σ' (pts ow ln hd kd sz p) → AgC σ σ' → gI σ' 3 = nI p → Q σ') : wX1_lookAt (nI p) σ Q := by
  obtain ⟨hT0, hK, hSz, hSet, hJ⟩ := id hg
  obtain ⟨hZ, hT, hS, hB, hR⟩ := id hT0
  have hp40 := hZ.1
  have hzn := hZ.2.1
  have ho := hZ.2.2.1 (p / 64) (by omega)
  obtain ⟨e1, e2, e3, e4⟩ := eoBd hT0 hb hp
  obtain ⟨σ0, hσ0⟩ : ∃ z, z = sI (sI σ 3 (nI p)) 2 0 := ⟨_, rfl⟩
  have A0 : AgC σ σ0 := by subst hσ0; exact ⟨⟨⟨rfl, rfl⟩, fun _ _ => rfl, rfl, rfl⟩, rfl, rfl⟩
  have P0 : Parts σ0 [] := by subst hσ0; exact ⟨rfl, by decide, fun k q h => by simp at h⟩
  have S0 : gI σ0 3 = nI p := by subst hσ0; rfl
  have xg0 : XG pg ow ln hd σ0 := by subst hσ0; exact xg
  have xz0 : XZ zn kd cl bw σ0 := by subst hσ0; exact xz
  have xb0 : XB ln th sz zo pl σ0 := by subst hσ0; exact xb
  have one : ∀ k n : Nat, pts ow ln hd kd sz p = [(k, n)] → 0 < n → n < 100000 → wX1_addPart (nI k) (nI n) σ0 Q := fun k n hpt h1 h2 => x_addPart P0 h1 h2 (by decide) (fun σ' P' A' S' => kk σ' (by rw [hpt]; exact P') (A0.tr A') (S'.trans S0))
  unfold wX1_lookAt wX1_lookAt_b45 wX1_lookAt_b76 wX1_lookAt_b127
  rw [← hσ0]
  refine x_endOf xg0 hZ hT hK xb0 hp (x_ownerAt xg0 hp40 hp ?_)
  rw [pk_sub (by omega)]
  have hn1 : 0 < eo ow ln p - p := by omega
  have hn2 : eo ow ln p - p < 100000 := by omega
  have hmod : nI p - nI p / 64 * 64 = nI (p % 64) := by
    rw [show (64 : Int32) = nI 64 from rfl, pk_div (by omega) (by omega) (by omega), pk_mul, pk_sub (by omega), show p - p / 64 * 64 = p % 64 by omega]
  rw [hmod]
  refine ⟨fun c => ?_, fun c => ?_⟩
  · rw [l_0, iI_le (by omega) (by omega) (by omega) (by omega)] at c
    refine x_pieceAt xg0 hp40 hp ⟨fun c2 => ?_, fun c2 => ?_⟩
    · have hl : 0 < ln p := by
        rcases Nat.eq_zero_or_pos (ln p) with q | q
        · exact absurd (by unfold mkI; rw [if_pos q]; rfl) c2
        · exact q
      have heo : eo ow ln p - p = ln p := by unfold eo; rw [if_neg (by omega), if_pos hl]; omega
      obtain ⟨z, hz⟩ := Int.eq_ofNat_of_zero_le c
      have hzz : z < zn := by omega
      have hk5 := (hZ.2.2.2 z hzz).1
      have ekz : kz kd (ow (p / 64)) = kd z := by unfold kz; rw [hz, Int.toNat_natCast]
      rw [hz, iI_nat]
      refine x_isRowZone xz0 hzn hzz hk5 (fun r => ⟨fun _ => x_blockAt xg0 hZ hT hK hp ⟨fun c3 => one 4 _ ?_ hn1 hn2, fun c3 => one 3 _ ?_ hn1 hn2⟩, fun q => absurd rfl q⟩) (fun r => ⟨fun q => absurd q (by decide), fun _ => x_blockAt xg0 hZ hT hK hp ?_⟩)
      · have h3 : hd p < 0 := by
          rcases hK.2 p hp hl with w | ⟨w1, w2, -⟩
          · omega
          · unfold bk at c3
            rw [if_neg (by omega), if_neg (by omega), l_0, iI_lt (by omega) (by omega) (by omega) (by omega)] at c3
            omega
        unfold pts
        rw [if_neg (by omega), if_neg (by omega), if_pos (by omega), if_pos h3, heo]
      · have h3 : ¬ hd p < 0 := by
          intro w
          unfold bk at c3
          rw [if_neg (by omega), if_pos w] at c3
          exact absurd (by decide) c3
        unfold pts
        rw [if_neg (by omega), if_neg (by omega), if_pos (by omega), if_neg h3, heo]
      · rw [heo]
        exact x_addRowParts hg xz0 xb0 hp hl (by omega) P0 (fun σ' P' A' S' => kk σ' P' (A0.tr A') (S'.trans S0))
    · have hl : ln p = 0 := by
        rcases Nat.eq_zero_or_pos (ln p) with q | q
        · exact q
        · have t2 := (hT p hp q).2.1
          unfold mkI at c2
          rw [if_neg (by omega)] at c2
          rcases hK.2 p hp q with w | ⟨w1, w2, -⟩
          · rw [if_pos (by omega), l_0, iI_eq (by omega) (by omega) (by omega) (by omega)] at c2
            omega
          · rw [if_neg (by omega), l_0, iI_eq (by omega) (by omega) (by omega) (by omega)] at c2
            omega
      refine ⟨fun c3 => one 5 _ ?_ hn1 hn2, fun c3 => one 2 _ ?_ hn1 hn2⟩
      · have : ¬ p % 64 = 0 := fun w => c3 (by rw [w]; rfl)
        unfold pts
        rw [if_neg (by omega), if_pos hl, if_neg this]
      · have : p % 64 = 0 := (nI_eq (b := 0) (by omega) (by omega)).mp c3
        unfold pts
        rw [if_neg (by omega), if_pos hl, if_pos this]
  · rw [l_0, iI_le (by omega) (by omega) (by omega) (by omega)] at c
    have heo : eo ow ln p = 64 * (p / 64) + 64 := by unfold eo; rw [if_pos (by omega)]
    refine ⟨fun c2 => one 1 _ ?_ hn1 hn2, fun c2 => one 0 _ ?_ hn1 hn2⟩
    · rw [l_m1, iI_eq (by omega) (by omega) (by omega) (by omega)] at c2
      unfold pts
      rw [if_pos (by omega), if_neg c2, heo]
    · rw [l_m1, iI_eq (by omega) (by omega) (by omega) (by omega)] at c2
      unfold pts
      rw [if_pos (by omega), if_pos c2, heo]
end LOOK2
