/-! ===== fill and copy ===== -/
theorem II.nums {κ : Option SS} {σ τ : SS} (h : II κ σ τ) {f g u : Nat → Int64} (hf : ∀ j, j < 2560 → f j = g j) : II κ (sBB σ 0 f) (sBB (sBB τ 4 u) 0 g) := by
  obtain ⟨⟨pg, zn, ow, ln, hd, kd, cl, bw, th, sz, zo, pl, g1, ⟨xg, xz, xb⟩, ⟨mg, mz, mb⟩, r1, r2, r3⟩, h2, h4⟩ := h
  refine ⟨⟨pg, zn, ow, ln, hd, kd, cl, bw, th, sz, zo, pl, g1, ⟨xg, ⟨xz.1, xz.2⟩, xb⟩, ⟨mg, ⟨mz.1, mz.2⟩, mb⟩, r1, fun j hj => ?_, r3⟩, ⟨h2.1, h2.2⟩, h4.ag ⟨rfl, rfl⟩⟩
  rw [gB_sBB_self, gB_sBB_self]
  exact hf j hj
theorem rng_congr {f g : Nat → Int64} {p n : Nat} {v : Int64} (h : ∀ j, j < 2560 → f j = g j) : ∀ j, j < 2560 → rng f p n v j = rng g p n v j := by
  intro j hj
  unfold rng
  by_cases e : p ≤ j ∧ j < p + n
  · rw [if_pos e, if_pos e]
  · rw [if_neg e, if_neg e]; exact h j hj
theorem sBB4_self (τ : SS) : sBB τ 4 (gB τ 4) = τ := sBB_self τ 4
theorem numEnd {pg zn : Nat} {ow : Nat → Int} {ln kd cl : Nat → Nat} {hd : Nat → Int} {th : Nat → Bool} {sz zo pl : Nat → Nat} (hg : Gh pg zn ow ln hd kd cl th sz zo pl) {s : Nat} (hs : s < 100) (ht : th s = true) : pl s + ahd (kd (zo s)) + sz s ≤ 2560 := by
  obtain ⟨z1, z2, z3, z4, z5, z6, z7, z8, z9⟩ := blk hg hs ht
  unfold ahd
  by_cases h5 : kd (zo s) = 5
  · have := z9 (by omega); rw [if_pos h5] at this ⊢; omega
  · rw [if_neg h5] at z9 ⊢
    by_cases h2 : 2 ≤ kd (zo s)
    · have := z9 h2; rw [if_pos h2]; omega
    · rw [if_neg h2]; omega
theorem s_fill : stp_fill II := by
  intro κ σx σm x1 v h
  obtain ⟨a, ha, rfl⟩ := ex_iI x1
  obtain ⟨⟨pg, zn, ow, ln, hd, kd, cl, bw, th, sz, zo, pl, hg⟩, h2, h4⟩ := id h
  obtain ⟨g1, ⟨xg, xz, xb⟩, ⟨mg, mz, mb⟩, hraw⟩ := id hg
  have ef := fnd_congr (gv := gA σx 3) (gv' := gA σm 4) th a hraw.1
  unfold wX6_fill
  refine x_ask g1 xb ha (fun n e n1 n2 => ?_) (fun s e s1 s2 => ?_)
  · rw [ef] at e ⊢
    unfold wX7_fill
    refine m_look mb ha ?_
    rw [if_pos (by omega)]
    refine ⟨fun c => absurd c (by rw [l_0, e, iI_le (by omega) (by omega) (by omega) (by omega)]; omega), fun _ => ?_⟩
    rw [e]
    exact m_answer n1 n2 ⟨rfl, h.ans n⟩
  · rw [ef] at e
    obtain ⟨z1, z2, z3, z4, z5, z6, z7, z8, z9⟩ := blk g1 s1 s2
    have hv : vp_in (nI s) 100 := vp_in_nI s1 (by omega)
    have er := handleRem ha e
    have hpl : pl s + ahd (kd (zo s)) + sz s ≤ 2560 := numEnd g1 s1 s2
    refine x_firstNumber xb xz g1 s1 s2 ⟨hv, ?_⟩
    rw [nI_clamp (by omega), ((xb s s1).1 s2).2.2.2]
    refine x_setNumbers hpl ⟨hv, ?_⟩
    rw [show gA (sBB σx 0 (rng (gB σx 0) (pl s + ahd (kd (zo s))) (sz s) v)) 7 = gA σx 7 from rfl, ((xb s s1).1 s2).2.2.2]
    unfold wX7_fill
    refine m_look mb ha ?_
    rw [if_neg (by omega), er]
    refine ⟨fun _ => ?_, fun z => absurd (by decide) z⟩
    unfold wX7_fill_b28
    rw [nI_clamp (by omega)]
    refine lfp_inv (fun t => ∃ i : Nat, i ≤ sz s ∧ t = (nI i, sBB σm 0 (rng (gB σm 0) (pl s + ahd (kd (zo s))) i v))) (fun t => sz s - t.1.toNatClampNeg) ⟨0, by omega, by rw [rng_0, sBB_self]; rfl⟩ ?_
    rintro t X ⟨i, hi, rfl⟩ hX
    have e6 : gA (sBB σm 0 (rng (gB σm 0) (pl s + ahd (kd (zo s))) i v)) 6 s = nI (sz s) := ((mb.2 s s1).1 s2).2.1
    refine ⟨hv, ?_⟩
    rw [show ((nI i, sBB σm 0 (rng (gB σm 0) (pl s + ahd (kd (zo s))) i v)) : Int32 × SS).2 = sBB σm 0 (rng (gB σm 0) (pl s + ahd (kd (zo s))) i v) from rfl, e6]
    refine ⟨fun c => ⟨hv, rfl, ?_⟩, fun c => ?_⟩
    · have hi2 : i = sz s := by
        rcases Nat.lt_or_ge i (sz s) with q | q
        · exact absurd c (nI_ge q (by omega))
        · omega
      rw [hi2]
      have := h.nums (u := gB σm 4) (rng_congr (p := pl s + ahd (kd (zo s))) (n := sz s) (v := v) hraw.2.1)
      rw [sBB4_self] at this
      exact this
    · have hlt : i < sz s := by
        rcases Nat.lt_or_ge i (sz s) with q | q
        · exact q
        · exact absurd (nI_le q (by omega)) c
      have hp := numPlace g1 s1 s2 hlt
      refine m_firstNumber (τ := sBB σm 0 (rng (gB σm 0) (pl s + ahd (kd (zo s))) i v)) mb ⟨mz.1, mz.2⟩ g1 s1 s2 ?_
      rw [show ((nI i, sBB σm 0 (rng (gB σm 0) (pl s + ahd (kd (zo s))) i v)) : Int32 × SS).1 = nI i from rfl, nI_add, nI_clamp (by omega), sB_sBB, rng_s, nI_1]
      refine ⟨vp_in_nI hp (by omega), hX _ ⟨i + 1, by omega, rfl⟩ ?_⟩
      show sz s - (nI (i + 1)).toNatClampNeg < sz s - (nI i).toNatClampNeg
      rw [nI_clamp (by omega), nI_clamp (by omega)]
      omega
/-- the first i of n numbers from sp on, at dp .. -/
theorem cpy_0 (f g : Nat → Int64) (sp dp : Nat) : va_cpy f g sp dp 0 = g := by
  funext j; unfold va_cpy; rw [if_neg (by omega)]
theorem cpy_s (f g : Nat → Int64) (sp dp i : Nat) : vp_updL (va_cpy f g sp dp i) (dp + i) (f (sp + i)) = va_cpy f g sp dp (i + 1) := by
  funext j
  unfold vp_updL va_cpy
  by_cases e : j = dp + i
  · rw [if_pos e, if_pos (by omega), e]; congr 1; omega
  · rw [if_neg e]
    by_cases e2 : dp ≤ j ∧ j < dp + i
    · rw [if_pos e2, if_pos (by omega)]
    · rw [if_neg e2, if_neg (by omega)]
theorem x_hasNumbers {pg zn : Nat} {ow : Nat → Int} {ln kd cl : Nat → Nat} {hd : Nat → Int} {th : Nat → Bool} {sz zo pl : Nat → Nat} {σ : SS} (xb : XB ln th sz zo pl σ) (hg : Gh pg zn ow ln hd kd cl th sz zo pl) {s : Nat} (hs : s < 100) (ht : th s = true) {b c : Int} (hb : R32 b) (hc : R32 c) (hc0 : 0 ≤ c) {Q : Int32 → Prop} (k0 : b < 0 ∨ sz s < b + c → Q 0) (k1 : 0 ≤ b → b + c ≤ sz s → Q 1) : wX3_hasNumbers (nI s) (iI b) (iI c) σ Q := by
  obtain ⟨z1, z2, z3, z4, z5, z6, z7, z8, z9⟩ := blk hg hs ht
  unfold R32 at hb hc
  unfold wX3_hasNumbers
  rw [nI_clamp (by omega), ((xb s hs).1 ht).2.2.2, nI_iI (sz s), iI_sub]
  refine ⟨fun e => ?_, fun e => ⟨fun e2 => ?_, fun e2 => ⟨vp_in_nI hs (by omega), fun e3 => ?_, fun e3 => ?_⟩⟩⟩
  · rw [l_0, iI_lt (by omega) (by omega) (by omega) (by omega)] at e; exact k0 (Or.inl e)
  · rw [l_0, iI_lt (by omega) (by omega) (by omega) (by omega)] at e2; omega
  · rw [iI_lt (by omega) (by omega) (by omega) (by omega)] at e3; exact k0 (Or.inr (by omega))
  · rw [l_0, iI_lt (by omega) (by omega) (by omega) (by omega)] at e
    rw [iI_lt (by omega) (by omega) (by omega) (by omega)] at e3; exact k1 (by omega) (by omega)
theorem x_copyNumbers {σ : SS} {p q n : Nat} (h1 : p + n ≤ 2560) (h2 : q + n ≤ 2560) {Q : SS → Prop} (k : Q (sBB σ 0 (va_cpy (gB σ 0) (gB σ 0) p q n))) : wX3_copyNumbers (nI p) (nI q) (nI n) σ Q := by
  unfold wX3_copyNumbers
  refine x_areThere (by omega) (by omega) (fun c => ⟨fun _ => ?_, fun z => absurd rfl z⟩) (fun c c2 => ⟨fun z => absurd z (by decide), fun _ => ?_⟩)
  · rw [show n = 0 by omega, cpy_0, sBB_self] at k; exact k
  · refine x_areThere (by omega) (by omega) (fun c => by omega) (fun _ _ => ⟨fun z => absurd z (by decide), fun _ => ⟨⟨nI_pos (by omega), nI_pos (by omega), nI_pos (by omega), ?_, ?_⟩, ?_⟩⟩)
    · rw [nI_clamp (by omega), nI_clamp (by omega)]; exact h1
    · rw [nI_clamp (by omega), nI_clamp (by omega)]; exact h2
    · rw [nI_clamp (by omega), nI_clamp (by omega), nI_clamp (by omega)]; exact k
