theorem lfp_once {τ : Type} {B : (τ → Prop) → τ → Prop} {t : τ} (h : ∀ X, B X t) : lfp B t := fun X hX => hX t (h X)
section TOLDM
variable {pg zn : Nat} {ow : Nat → Int} {ln kd cl : Nat → Nat} {hd : Nat → Int} {th : Nat → Bool} {sz zo pl : Nat → Nat} {bw : Nat → Int64} {σ τ : SS}
theorem x_blocksOf (xb : XB ln th sz zo pl σ) (hg : Gh pg zn ow ln hd kd cl th sz zo pl) {z : Nat} (hz : z < 1000) {Q : Int32 → Prop} (k : Q (nI (cnt (fun s => th s && decide (zo s = z)) 100))) : wX3_blocksOf (nI z) σ Q := by
  unfold wX3_blocksOf wX3_blocksOf_b4 wX3_blocksOf_b23
  refine lfp_inv (fun t => ∃ i : Nat, i ≤ 100 ∧ t = (nI (cnt (fun s => th s && decide (zo s = z)) i), nI i)) (fun t => 100 - t.2.toNatClampNeg) ⟨0, by omega, rfl⟩ ?_
  rintro t X ⟨i, hi, rfl⟩ hX
  refine ⟨fun c => ?_, fun c => ?_⟩
  · have : i = 100 := by
      rcases Nat.lt_or_ge i 100 with q | q
      · exact absurd c (nI_ge q (by decide))
      · omega
    subst this
    exact k
  · have hlt : i < 100 := by
      rcases Nat.lt_or_ge i 100 with q | q
      · exact q
      · exact absurd (nI_le q (by omega)) c
    have hm : 100 - (nI (i + 1)).toNatClampNeg < 100 - (nI i).toNatClampNeg := by
      rw [nI_clamp (by omega), nI_clamp (by omega)]; omega
    refine ⟨vp_in_nI (by omega) (by omega), ?_⟩
    rw [show ((nI (cnt (fun s => th s && decide (zo s = z)) i), nI i) : Int32 × Int32).2 = nI i from rfl, nI_clamp (by omega), nI_1]
    have key : gA σ 4 i = nI z ↔ (th i && decide (zo i = z)) = true := by
      cases e : th i with
      | false =>
        rw [(xb i hlt).2 e, nI_iI, iI_eq (by omega) (by omega) (by omega) (by omega)]
        constructor
        · intro q; omega
        · intro q; simp at q
      | true =>
        have := zo8 hg i hlt e
        rw [((xb i hlt).1 e).1, nI_eq (by omega) (by omega)]
        simp
    refine ⟨fun c2 => hX _ ⟨i + 1, by omega, ?_⟩ hm, fun c2 => hX _ ⟨i + 1, by omega, ?_⟩ hm⟩
    · rw [cnt_step, if_neg (fun q => c2 (key.mpr q))]; rfl
    · rw [cnt_step, if_pos (key.mp c2)]
      show (nI (cnt (fun s => th s && decide (zo s = z)) i) + 1, _) = _
      rw [nI_1]
theorem m_isFreeAt (mg : MG pg ow ln hd τ) (hg : Gh pg zn ow ln hd kd cl th sz zo pl) {p z : Nat} (h : p < 64 * pg) (hz : z < 1000) {Q : Int32 → Prop} (k0 : ¬ 0 < fr ow ln hd z p → Q 0) (k1 : 0 < fr ow ln hd z p → Q 1) : wX7_isFreeAt (nI p) (nI z) τ Q := by
  obtain ⟨hT, hK, -⟩ := id hg
  have hp : pg ≤ 40 := hT.1.1
  have ho := hT.1.2.2.1 (p / 64) (by omega)
  have hzn := hT.1.2.1
  unfold wX7_isFreeAt wX7_isOf
  rw [mg.1, show (64 : Int32) = nI 64 from rfl, pk_mul, pk_div (by omega) (by omega) (by omega), nI_clamp (by omega), nI_clamp (by omega), mg.2.1 _ (by omega), (mg.2.2 p h).1]
  have hv : vp_in (nI p) 2560 := vp_in_nI (by omega) (by omega)
  refine ⟨fun c => absurd c (nI_pos (by omega)), fun _ => ⟨fun c => absurd c (nI_ge h (by omega)), fun _ => ⟨vp_in_nI (by omega) (by omega), fun c => ⟨fun _ => ?_, fun q => absurd rfl q⟩, fun c => ⟨fun q => absurd q (by decide), fun _ => ⟨hv, fun c2 => ?_, fun c2 => ⟨hv, fun c3 => ?_, fun c3 => ?_⟩⟩⟩⟩⟩⟩
  · exact k0 (fun q => by
      unfold fr at q
      rw [if_neg (fun w => c (by rw [w.1, iI_nat]))] at q
      omega)
  · have hl : ln p = 0 := by
      rcases Nat.eq_zero_or_pos (ln p) with q | q
      · exact q
      · have := (hT.2.1 p h q).2.1
        exact absurd c2 (nI_nle q (by omega))
    exact k0 (fun q => by unfold fr at q; rw [hl] at q; split at q <;> omega)
  · have hl : 0 < ln p := by
      rcases Nat.eq_zero_or_pos (ln p) with q | q
      · rw [q] at c2; exact absurd (by decide) c2
      · exact q
    rw [(mg.2.2 p h).2 hl] at c3
    refine k0 (fun q => ?_)
    unfold fr at q
    rcases hK.2 p h hl with w | ⟨w1, w2, -⟩
    · exact c3 (by rw [w]; decide)
    · rw [if_neg (fun e => by omega)] at q; omega
  · have hl : 0 < ln p := by
      rcases Nat.eq_zero_or_pos (ln p) with q | q
      · rw [q] at c2; exact absurd (by decide) c2
      · exact q
    rw [(mg.2.2 p h).2 hl, l_m1] at c3
    rw [nI_iI z, iI_eq (by omega) (by omega) (by omega) (by omega)] at c
    have hh : hd p = -1 := by
      rcases hK.2 p h hl with w | ⟨w1, w2, -⟩
      · exact w
      · exact (iI_eq (by omega) (by omega) (by omega) (by omega)).mp c3
    refine k1 ?_
    unfold fr
    rw [if_pos ⟨c, by omega⟩]
    exact hl
end TOLDM
