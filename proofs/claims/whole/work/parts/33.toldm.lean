theorem lfp_once {τ : Type} {B : (τ → Prop) → τ → Prop} {t : τ} (h : ∀ X, B X t) : lfp B t := fun X hX => hX t (h X)
section TOLDM
variable {pg zn : Nat} {ow : Nat → Int} {ln kd cl : Nat → Nat} {hd : Nat → Int} {th : Nat → Bool} {sz zo pl : Nat → Nat} {bw : Nat → Int64} {σ τ : SS}
theorem x_blocksOf (xb : XB ln th sz zo pl σ) (hg : Gh pg zn ow ln hd kd cl th sz zo pl) {z : Nat} (hz : z < 1000) {Q : Int32 → Prop} (k : Q (nI (cnt (fun s => th s && decide (zo s = z)) 100))) : wX3_blocksOf (nI z) σ Q := by
  unfold wX3_blocksOf wX3_blocksOf_b4 wX3_blocksOf_b23
  refine lfp_inv (fun t => ∃ i : Nat, i ≤ 100 ∧ t = (nI (cnt (fun s => th s && decide (zo s = z)) i), nI i)) (fun t => 100 - t.2.toNatClampNeg) ⟨0, by omega, rfl⟩ ?_
  rintro t X ⟨i, hi, rfl⟩ hX
  refine ⟨fun c => ?_, fun c => ?_⟩
  · have : i = 100 := by
      rcases Nat.lt_or_ge i 100 with q | q
      · exact absurd c (nI_ge q (by decide))
      · omega
    subst this
    exact k
  · have hlt : i < 100 := by
      rcases Nat.lt_or_ge i 100 with q | q
      · exact q
      · exact absurd (nI_le q (by omega)) c
    have hm : 100 - (nI (i + 1)).toNatClampNeg < 100 - (nI i).toNatClampNeg := by
      rw [nI_clamp (by omega), nI_clamp (by omega)]; omega
    refine ⟨vp_in_nI (by omega) (by omega), ?_⟩
    rw [show ((nI (cnt (fun s => th s && decide (zo s = z)) i), nI i) : Int32 × Int32).2 = nI i from rfl, nI_clamp (by omega), nI_1]
    have key : gA σ 4 i = nI z ↔ (th i && decide (zo i = z)) = true := by
      cases e : th i with
      | false =>
        rw [(xb i hlt).2 e, nI_iI, iI_eq (by omega) (by omega) (by omega) (by omega)]
        constructor
        · intro q; omega
        · intro q; simp at q
      | true =>
        have := zo8 hg i hlt e
        rw [((xb i hlt).1 e).1, nI_eq (by omega) (by omega)]
        simp
    refine ⟨fun c2 => hX _ ⟨i + 1, by omega, ?_⟩ hm, fun c2 => hX _ ⟨i + 1, by omega, ?_⟩ hm⟩
    · rw [cnt_step, if_neg (fun q => c2 (key.mpr q))]; rfl
    · rw [cnt_step, if_pos (key.mp c2)]
      show (nI (cnt (fun s => th s && decide (zo s = z)) i) + 1, _) = _
      rw [nI_1]
theorem m_isFreeAt (mg : MG pg ow ln hd τ) (hg : Gh pg zn ow ln hd kd cl th sz zo pl) {p z : Nat} (h : p < 64 * pg) (hz : z < 1000) {Q : Int32 → Prop} (k0 : ¬ 0 < fr ow ln hd z p → Q 0) (k1 : 0 < fr ow ln hd z p → Q 1) : wX7_isFreeAt (nI p) (nI z) τ Q := by
  obtain ⟨hT, hK, -⟩ := id hg
  have hp : pg ≤ 40 := hT.1.1
  have ho := hT.1.2.2.1 (p / 64) (by omega)
  have hzn := hT.1.2.1
  unfold wX7_isFreeAt wX7_isOf
  rw [mg.1, show (64 : Int32) = nI 64 from rfl, pk_mul, pk_div (by omega) (by omega) (by omega), nI_clamp (by omega), nI_clamp (by omega), mg.2.1 _ (by omega), (mg.2.2 p h).1]
  have hv : vp_in (nI p) 2560 := vp_in_nI (by omega) (by omega)
  refine ⟨fun c => absurd c (nI_pos (by omega)), fun _ => ⟨fun c => absurd c (nI_ge h (by omega)), fun _ => ⟨vp_in_nI (by omega) (by omega), fun c => ⟨fun _ => ?_, fun q => absurd rfl q⟩, fun c => ⟨fun q => absurd q (by decide), fun _ => ⟨hv, fun c2 => ?_, fun c2 => ⟨hv, fun c3 => ?_, fun c3 => ?_⟩⟩⟩⟩⟩⟩
  · exact k0 (fun q => by
      unfold fr at q
      rw [if_neg (fun w => c (by rw [w.1, iI_nat]))] at q
      omega)
  · have hl : ln p = 0 := by
      rcases Nat.eq_zero_or_pos (ln p) with q | q
      · exact q
      · have := (hT.2.1 p h q).2.1
        exact absurd c2 (nI_nle q (by omega))
    exact k0 (fun q => by unfold fr at q; rw [hl] at q; split at q <;> omega)
  · have hl : 0 < ln p := by
      rcases Nat.eq_zero_or_pos (ln p) with q | q
      · rw [q] at c2; exact absurd (by decide) c2
      · exact q
    rw [(mg.2.2 p h).2 hl] at c3
    refine k0 (fun q => ?_)
    unfold fr at q
    rcases hK.2 p h hl with w | ⟨w1, w2, -⟩
    · exact c3 (by rw [w]; decide)
    · rw [if_neg (fun e => by omega)] at q; omega
  · have hl : 0 < ln p := by
      rcases Nat.eq_zero_or_pos (ln p) with q | q
      · rw [q] at c2; exact absurd (by decide) c2
      · exact q
    rw [(mg.2.2 p h).2 hl, l_m1] at c3
    rw [nI_iI z, iI_eq (by omega) (by omega) (by omega) (by omega)] at c
    have hh : hd p = -1 := by
      rcases hK.2 p h hl with w | ⟨w1, w2, -⟩
      · exact w
      · exact (iI_eq (by omega) (by omega) (by omega) (by omega)).mp c3
    refine k1 ?_
    unfold fr
    rw [if_pos ⟨c, by omega⟩]
    exact hl
end TOLDM
section TOLDR
variable {pg zn : Nat} {ow : Nat → Int} {ln kd cl : Nat → Nat} {hd : Nat → Int} {th : Nat → Bool} {sz zo pl : Nat → Nat} {bw : Nat → Int64} {τ : SS} {Q : Int32 → SS → Prop} {x1 x2 n : Int32}
theorem m_t131 (h : ¬ x2 = 3) (k : Q n τ) : wX7_told_b131 x1 x2 n 0 τ Q := by
  unfold wX7_told_b131
  exact lfp_once (fun X => ⟨fun _ => k, fun _ => ⟨fun _ => k, fun e => absurd e h⟩⟩)
theorem m_t81 (h2 : ¬ x2 = 2) (k : wX7_told_b131 x1 x2 n 0 τ Q) : wX7_told_b81 x1 x2 n 0 τ Q := by
  unfold wX7_told_b81 wX7_told_b128
  exact lfp_once (fun X => ⟨fun _ => k, fun _ => ⟨fun _ => k, fun e => absurd e h2⟩⟩)
theorem m_t39 (h1 : ¬ x2 = 1) (k : wX7_told_b81 x1 x2 n 0 τ Q) : wX7_told_b39 x1 x2 n 0 τ Q := by
  unfold wX7_told_b39 wX7_told_b78
  exact lfp_once (fun X => ⟨fun _ => k, fun _ => ⟨fun _ => k, fun e => absurd e h1⟩⟩)
theorem m_told1 (mg : MG pg ow ln hd τ) (hp : pg ≤ 40) (ho : ∀ k, k < pg → R32 (ow k)) {z : Int} (hz : R32 z) (k : Q (nI (cnt (fun k => decide (ow k = z)) pg)) τ) : wX7_told_b39 (iI z) 1 0 0 τ Q := by
  unfold wX7_told_b39 wX7_told_b78 wX7_told_b70
  rw [mg.1]
  refine lfp_inv (fun t => ∃ i : Nat, i ≤ pg ∧ t = (nI (cnt (fun k => decide (ow k = z)) i), nI i)) (fun t => pg - t.2.toNatClampNeg) ⟨0, by omega, rfl⟩ ?_
  rintro t X ⟨i, hi, rfl⟩ hX
  refine ⟨fun c => ?_, fun c => ⟨fun e => absurd rfl e, fun _ => ?_⟩⟩
  · have : i = pg := by
      rcases Nat.lt_or_ge i pg with q | q
      · exact absurd c (nI_ge q (by omega))
      · omega
    subst this
    exact m_t81 (by decide) (m_t131 (by decide) k)
  · have hlt : i < pg := by
      rcases Nat.lt_or_ge i pg with q | q
      · exact q
      · exact absurd (nI_le q (by omega)) c
    have hr := ho i hlt
    unfold R32 at hr hz
    have hm : pg - (nI (i + 1)).toNatClampNeg < pg - (nI i).toNatClampNeg := by
      rw [nI_clamp (by omega), nI_clamp (by omega)]; omega
    refine ⟨vp_in_nI (by omega) (by omega), ?_⟩
    rw [show ((nI (cnt (fun k => decide (ow k = z)) i), nI i) : Int32 × Int32).2 = nI i from rfl, nI_clamp (by omega), mg.2.1 i hlt, nI_1]
    refine ⟨fun c2 => hX _ ⟨i + 1, by omega, ?_⟩ hm, fun c2 => hX _ ⟨i + 1, by omega, ?_⟩ hm⟩
    · have e : ¬ ow i = z := fun q => c2 (by rw [q])
      rw [cnt_step, if_neg (by simpa using e)]
      show (nI (cnt (fun k => decide (ow k = z)) i) + nI 0, _) = _
      rw [nI_add]
    · have e : ow i = z := (iI_eq hr.1 hr.2 hz.1 hz.2).mp c2
      rw [cnt_step, if_pos (by simpa using e)]
      show (nI (cnt (fun k => decide (ow k = z)) i) + 1, _) = _
      rw [nI_1]
theorem m_told2 (mb : MB th sz zo pl τ) (hg : Gh pg zn ow ln hd kd cl th sz zo pl) {z : Nat} (hz : z < 1000) (k : Q (nI (cnt (fun s => th s && decide (zo s = z)) 100)) τ) : wX7_told_b81 (nI z) 2 0 0 τ Q := by
  unfold wX7_told_b81 wX7_told_b128 wX7_told_b119 wX7_told_b120
  refine lfp_inv (fun t => ∃ i : Nat, i ≤ 100 ∧ t = (nI (cnt (fun s => th s && decide (zo s = z)) i), nI i)) (fun t => 100 - t.2.toNatClampNeg) ⟨0, by omega, rfl⟩ ?_
  rintro t X ⟨i, hi, rfl⟩ hX
  refine ⟨fun c => ?_, fun c => ⟨fun e => absurd rfl e, fun _ => ?_⟩⟩
  · have : i = 100 := by
      rcases Nat.lt_or_ge i 100 with q | q
      · exact absurd c (nI_ge q (by decide))
      · omega
    subst this
    exact m_t131 (by decide) k
  · have hlt : i < 100 := by
      rcases Nat.lt_or_ge i 100 with q | q
      · exact q
      · exact absurd (nI_le q (by omega)) c
    have hm : 100 - (nI (i + 1)).toNatClampNeg < 100 - (nI i).toNatClampNeg := by
      rw [nI_clamp (by omega), nI_clamp (by omega)]; omega
    have hv : vp_in (nI i) 100 := vp_in_nI (by omega) (by omega)
    refine ⟨hv, ?_⟩
    rw [show ((nI (cnt (fun s => th s && decide (zo s = z)) i), nI i) : Int32 × Int32).2 = nI i from rfl, nI_clamp (by omega), nI_1]
    cases e : th i with
    | false =>
      rw [(mb.2 i hlt).2 e]
      refine ⟨fun _ => hX _ ⟨i + 1, by omega, ?_⟩ hm, fun q => absurd rfl q⟩
      rw [cnt_step, e, if_neg (by simp)]
      show (nI (cnt (fun s => th s && decide (zo s = z)) i) + nI 0, _) = _
      rw [nI_add]
    | true =>
      have h8 := zo8 hg i hlt e
      rw [((mb.2 i hlt).1 e).1, ((mb.2 i hlt).1 e).2.2.1]
      refine ⟨fun q => absurd q (by decide), fun _ => ⟨hv, fun c2 => hX _ ⟨i + 1, by omega, ?_⟩ hm, fun c2 => hX _ ⟨i + 1, by omega, ?_⟩ hm⟩⟩
      · have : ¬ zo i = z := fun q => c2 (by rw [q])
        rw [cnt_step, e, if_neg (by simpa using this)]
        show (nI (cnt (fun s => th s && decide (zo s = z)) i) + nI 0, _) = _
        rw [nI_add]
      · have : zo i = z := (nI_eq (by omega) (by omega)).mp c2
        rw [cnt_step, e, if_pos (by simpa using this)]
        show (nI (cnt (fun s => th s && decide (zo s = z)) i) + 1, _) = _
        rw [nI_1]
theorem m_told3 (mg : MG pg ow ln hd τ) (hg : Gh pg zn ow ln hd kd cl th sz zo pl) {z : Nat} (hz : z < 1000) (k : Q (nI (cnt (fun j => decide (0 < fr ow ln hd z j)) (64 * pg))) τ) : wX7_told_b131 (nI z) 3 0 0 τ Q := by
  have hp : pg ≤ 40 := hg.1.1.1
  unfold wX7_told_b131 wX7_told_b164
  rw [mg.1, show (64 : Int32) = nI 64 from rfl, pk_mul]
  refine lfp_inv (fun t => ∃ i : Nat, i ≤ 64 * pg ∧ t = (nI (cnt (fun j => decide (0 < fr ow ln hd z j)) i), nI i)) (fun t => 64 * pg - t.2.toNatClampNeg) ⟨0, by omega, rfl⟩ ?_
  rintro t X ⟨i, hi, rfl⟩ hX
  refine ⟨fun c => ?_, fun c => ⟨fun e => absurd rfl e, fun _ => ?_⟩⟩
  · have : i = 64 * pg := by
      rcases Nat.lt_or_ge i (64 * pg) with q | q
      · exact absurd c (nI_ge q (by omega))
      · omega
    subst this
    exact k
  · have hlt : i < 64 * pg := by
      rcases Nat.lt_or_ge i (64 * pg) with q | q
      · exact q
      · exact absurd (nI_le q (by omega)) c
    have hm : 64 * pg - (nI (i + 1)).toNatClampNeg < 64 * pg - (nI i).toNatClampNeg := by
      rw [nI_clamp (by omega), nI_clamp (by omega)]; omega
    refine m_isFreeAt mg hg hlt hz (fun e => ⟨fun _ => hX _ ⟨i + 1, by omega, ?_⟩ ?_, fun q => absurd rfl q⟩) (fun e => ⟨fun q => absurd q (by decide), fun _ => hX _ ⟨i + 1, by omega, ?_⟩ ?_⟩)
    · rw [cnt_step, if_neg (by simpa using e)]
      show (nI (cnt (fun j => decide (0 < fr ow ln hd z j)) i) + nI 0, nI i + 1) = _
      rw [nI_add, nI_1]
    · show 64 * pg - (nI i + 1).toNatClampNeg < 64 * pg - (nI i).toNatClampNeg
      rw [nI_1]; exact hm
    · rw [cnt_step, if_pos (by simpa using e)]
      show (nI (cnt (fun j => decide (0 < fr ow ln hd z j)) i) + 1, nI i + 1) = _
      rw [nI_1, nI_1]
    · show 64 * pg - (nI i + 1).toNatClampNeg < 64 * pg - (nI i).toNatClampNeg
      rw [nI_1]; exact hm
end TOLDR
