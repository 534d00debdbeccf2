/-! ===== told and count: what is counted ===== -/
theorem cnt_le (P : Nat → Bool) (n : Nat) : cnt P n ≤ n := by
  induction n with
  | zero => exact Nat.le_refl _
  | succ n ih => unfold cnt; split <;> omega
theorem cnt_step (P : Nat → Bool) {n : Nat} : cnt P (n + 1) = cnt P n + (if P n = true then 1 else 0) := rfl
theorem cnt_gap (P : Nat → Bool) {a b : Nat} (h : a ≤ b) (hn : ∀ i, a ≤ i → i < b → P i = false) : cnt P b = cnt P a := by
  induction b with
  | zero => rw [show a = 0 by omega]
  | succ b ih =>
    rcases Nat.lt_or_ge a (b + 1) with q | q
    · rw [cnt_step, hn b (by omega) (by omega), if_neg (by decide), ih (by omega) (fun i h1 h2 => hn i h1 (by omega))]
      rfl
    · rw [show a = b + 1 by omega]
section TOLD
variable {pg zn : Nat} {ow : Nat → Int} {ln kd cl : Nat → Nat} {hd : Nat → Int} {th : Nat → Bool} {sz zo pl : Nat → Nat} {bw : Nat → Int64} {σ : SS}
theorem x_pagesOf (xg : XG pg ow ln hd σ) (hp : pg ≤ 40) (ho : ∀ k, k < pg → R32 (ow k)) {z : Int} (hz : R32 z) {Q : Int32 → Prop} (k : Q (nI (cnt (fun k => decide (ow k = z)) pg))) : wX3_pagesOf (iI z) σ Q := by
  unfold wX3_pagesOf wX3_pagesOf_b4 wX3_pagesOf_b25
  rw [xg.1]
  refine lfp_inv (fun t => ∃ i : Nat, i ≤ pg ∧ t = (nI (cnt (fun k => decide (ow k = z)) i), nI i)) (fun t => pg - t.2.toNatClampNeg) ⟨0, by omega, rfl⟩ ?_
  rintro t X ⟨i, hi, rfl⟩ hX
  refine ⟨fun c => ?_, fun c => ?_⟩
  · have : i = pg := by
      rcases Nat.lt_or_ge i pg with q | q
      · exact absurd c (nI_ge q (by omega))
      · omega
    subst this
    exact k
  · have hlt : i < pg := by
      rcases Nat.lt_or_ge i pg with q | q
      · exact q
      · exact absurd (nI_le q (by omega)) c
    have hr := ho i hlt
    unfold R32 at hr hz
    have hm : pg - (nI (i + 1)).toNatClampNeg < pg - (nI i).toNatClampNeg := by
      rw [nI_clamp (by omega), nI_clamp (by omega)]; omega
    refine ⟨vp_in_nI (by omega) (by omega), ?_⟩
    rw [show ((nI (cnt (fun k => decide (ow k = z)) i), nI i) : Int32 × Int32).2 = nI i from rfl, nI_clamp (by omega), xg.2.1 i hlt, nI_1]
    refine ⟨fun c2 => hX _ ⟨i + 1, by omega, ?_⟩ hm, fun c2 => hX _ ⟨i + 1, by omega, ?_⟩ hm⟩
    · have e : ¬ ow i = z := fun q => c2 (by rw [q])
      rw [cnt_step, if_neg (by simpa using e)]
      rfl
    · have e : ow i = z := (iI_eq hr.1 hr.2 hz.1 hz.2).mp c2
      rw [cnt_step, if_pos (by simpa using e)]
      show (nI (cnt (fun k => decide (ow k = z)) i) + 1, _) = _
      rw [nI_1]
theorem x_blocks (xb : XB ln th sz zo pl σ) (hg : Gh pg zn ow ln hd kd cl th sz zo pl) {Q : Int32 → Prop} (k : Q (nI (cnt th 100))) : wX3_blocks σ Q := by
  unfold wX3_blocks wX3_blocks_b4 wX3_blocks_b22
  refine lfp_inv (fun t => ∃ i : Nat, i ≤ 100 ∧ t = (nI (cnt th i), nI i)) (fun t => 100 - t.2.toNatClampNeg) ⟨0, by omega, rfl⟩ ?_
  rintro t X ⟨i, hi, rfl⟩ hX
  refine ⟨fun c => ?_, fun c => ?_⟩
  · have : i = 100 := by
      rcases Nat.lt_or_ge i 100 with q | q
      · exact absurd c (nI_ge q (by decide))
      · omega
    subst this
    exact k
  · have hlt : i < 100 := by
      rcases Nat.lt_or_ge i 100 with q | q
      · exact q
      · exact absurd (nI_le q (by omega)) c
    have hm : 100 - (nI (i + 1)).toNatClampNeg < 100 - (nI i).toNatClampNeg := by
      rw [nI_clamp (by omega), nI_clamp (by omega)]; omega
    refine ⟨vp_in_nI (by omega) (by omega), ?_⟩
    rw [show ((nI (cnt th i), nI i) : Int32 × Int32).2 = nI i from rfl, nI_clamp (by omega), nI_1]
    refine ⟨fun c2 => hX _ ⟨i + 1, by omega, ?_⟩ hm, fun c2 => hX _ ⟨i + 1, by omega, ?_⟩ hm⟩
    · cases e : th i with
      | false => rw [cnt_step, e, if_neg (by decide)]; rfl
      | true =>
        rw [((xb i hlt).1 e).1] at c2
        exact absurd c2 (nI_pos (by have := zo8 hg i hlt e; omega))
    · cases e : th i with
      | false =>
        rw [(xb i hlt).2 e] at c2
        exact absurd (by decide) c2
      | true =>
        rw [cnt_step, e, if_pos rfl]
        show (nI (cnt th i) + 1, _) = _
        rw [nI_1]
theorem fr_le {z p : Nat} (hT : OkT pg ow ln) (h : p < 64 * pg) : fr ow ln hd z p ≤ 64 * pg := by
  unfold fr
  split
  · rcases Nat.eq_zero_or_pos (ln p) with q | q
    · omega
    · have := (hT p h q).2.1; omega
  · omega
theorem x_freePiecesOf (xg : XG pg ow ln hd σ) (xb : XB ln th sz zo pl σ) (hg : Gh pg zn ow ln hd kd cl th sz zo pl) {z : Nat} (hz : z < 1000) {Q : Int32 → Prop} (k : Q (nI (cnt (fun j => decide (0 < fr ow ln hd z j)) (64 * pg)))) : wX3_freePiecesOf (nI z) σ Q := by
  obtain ⟨hT, hK, hSz, hSet, hJ⟩ := id hg
  have hp : pg ≤ 40 := hT.1.1
  unfold wX3_freePiecesOf wX3_freePiecesOf_b4 wX3_freePiecesOf_b24
  refine lfp_inv (fun t => ∃ p : Nat, p ≤ 64 * pg ∧ Bd pg ow ln kd cl p ∧ t = (nI (cnt (fun j => decide (0 < fr ow ln hd z j)) p), nI p)) (fun t => 64 * pg - t.2.toNatClampNeg) ⟨0, by omega, Bd_0 hT, rfl⟩ ?_
  rintro t X ⟨p, hpp, hb, rfl⟩ hX
  refine x_places xg ⟨fun c => ?_, fun c => ?_⟩
  · have : p = 64 * pg := by
      rcases Nat.lt_or_ge p (64 * pg) with q | q
      · exact absurd c (nI_ge q (by omega))
      · omega
    subst this
    exact k
  · have hlt : p < 64 * pg := by
      rcases Nat.lt_or_ge p (64 * pg) with q | q
      · exact q
      · exact absurd (nI_le q (by omega)) c
    obtain ⟨b1, b2, b3, b4⟩ := eoBd hT hb hlt
    have hmax : (if nI p + 1 < nI (eo ow ln p) then nI (eo ow ln p) else nI p + 1) = nI (eo ow ln p) := by
      rw [nI_1]
      rcases Nat.lt_or_ge (p + 1) (eo ow ln p) with q | q
      · rw [if_pos (nI_lt q (by omega))]
      · rw [if_neg (nI_nlt q (by omega)), show eo ow ln p = p + 1 by omega]
    have hstep : cnt (fun j => decide (0 < fr ow ln hd z j)) (eo ow ln p) = cnt (fun j => decide (0 < fr ow ln hd z j)) (p + 1) := cnt_gap _ (by omega) (fun i h1 h2 => by
      have := (b4 i (by omega) h2).1
      have e : fr ow ln hd z i = 0 := by unfold fr; rw [this]; split <;> rfl
      rw [e]; rfl)
    have hm : 64 * pg - (nI (eo ow ln p)).toNatClampNeg < 64 * pg - (nI p).toNatClampNeg := by
      rw [nI_clamp (by omega), nI_clamp (by omega)]; omega
    refine x_freeAt xg hT.1 hT.2.1 hK hlt hz ⟨fun c2 => ?_, fun c2 => ?_⟩
    · refine x_endOf xg hT.1 hT.2.1 hK xb hlt ?_
      rw [hmax]
      refine hX _ ⟨eo ow ln p, b2, b3, ?_⟩ hm
      have e : ¬ 0 < fr ow ln hd z p := fun q => absurd c2 (nI_nle q (by have := fr_le (hd := hd) (z := z) hT.2.1 hlt; omega))
      rw [hstep, cnt_step, if_neg (by simpa using e)]
      rfl
    · refine x_endOf xg hT.1 hT.2.1 hK xb hlt ?_
      rw [hmax]
      refine hX _ ⟨eo ow ln p, b2, b3, ?_⟩ hm
      have e : 0 < fr ow ln hd z p := by
        rcases Nat.eq_zero_or_pos (fr ow ln hd z p) with q | q
        · rw [q] at c2; exact absurd (by decide) c2
        · exact q
      rw [hstep, cnt_step, if_pos (by simpa using e)]
      show (nI (cnt (fun j => decide (0 < fr ow ln hd z j)) p) + 1, _) = _
      rw [nI_1]
end TOLD
