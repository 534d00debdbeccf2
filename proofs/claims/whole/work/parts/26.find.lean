/-! ===== handles and blocks ===== -/
/-- the block of a handle, or the finding -/
def fnd (gv : Nat → Int32) (th : Nat → Bool) (a : Int) : Int := if a < 0 then -4 else if ¬ iI (a / 100) < gv (a % 100).toNat then -4 else if th (a % 100).toNat = false then -5 else if gv (a % 100).toNat - 1 = iI (a / 100) then a % 100 else -5
theorem fnd_cases (gv : Nat → Int32) (th : Nat → Bool) (a : Int) : fnd gv th a = -4 ∨ fnd gv th a = -5 ∨ (0 ≤ a ∧ fnd gv th a = a % 100 ∧ 0 ≤ fnd gv th a ∧ fnd gv th a < 100 ∧ th (fnd gv th a).toNat = true) := by
  unfold fnd
  by_cases h1 : a < 0
  · rw [if_pos h1]; exact Or.inl rfl
  · rw [if_neg h1]
    by_cases h2 : ¬ iI (a / 100) < gv (a % 100).toNat
    · rw [if_pos h2]; exact Or.inl rfl
    · rw [if_neg h2]
      by_cases h3 : th (a % 100).toNat = false
      · rw [if_pos h3]; exact Or.inr (Or.inl rfl)
      · rw [if_neg h3]
        by_cases h4 : gv (a % 100).toNat - 1 = iI (a / 100)
        · rw [if_pos h4]
          exact Or.inr (Or.inr ⟨by omega, rfl, by omega, by omega, by simpa using h3⟩)
        · rw [if_neg h4]; exact Or.inr (Or.inl rfl)
theorem fnd_congr {gv gv' : Nat → Int32} (th : Nat → Bool) (a : Int) (h : ∀ s, s < 100 → gv s = gv' s) : fnd gv th a = fnd gv' th a := by
  unfold fnd
  by_cases h1 : a < 0
  · rw [if_pos h1, if_pos h1]
  · rw [if_neg h1, if_neg h1, h (a % 100).toNat (by omega)]
theorem rem_iI {a : Int} (h0 : 0 ≤ a) (h : a < 2147483648) : iI a - iI a / iI 100 * iI 100 = iI (a % 100) := by
  rw [iI_div h0 h (by omega) (by omega), iI_mul, iI_sub, show a - a / 100 * 100 = a % 100 by omega]
section FIND
variable {pg zn : Nat} {ow : Nat → Int} {ln kd cl : Nat → Nat} {hd : Nat → Int} {th : Nat → Bool} {sz zo pl : Nat → Nat} {bw : Nat → Int64} {σ : SS}
theorem x_find (hX : XB ln th sz zo pl σ) (hz : ∀ s, s < 100 → th s = true → zo s < 8) {a : Int} (ha : R32 a) {Q : Int32 → Prop} (k : Q (iI (fnd (gA σ 3) th a))) : wX3_find (iI a) σ Q := by
  unfold R32 at ha
  unfold fnd at k
  unfold wX3_find
  simp only [l_0, l_m4, l_m5, l_100, l_1]
  refine br_le (by unfold R32; omega) ⟨fun c => ?_, fun c => ?_⟩
  · rw [rem_iI c (by omega), iI_div c (by omega) (by omega) (by omega), clamp_iI (by omega) (by omega)]
    rw [if_neg (by omega)] at k
    have hv : vp_in (iI (a % 100)) 100 := vp_in_iI (by omega) (by omega) (by omega)
    have hs : (a % 100).toNat < 100 := by omega
    refine ⟨hv, fun c2 => ⟨hv, ?_⟩, fun c2 => ?_⟩
    · rw [if_neg (fun z => z c2)] at k
      cases e : th (a % 100).toNat with
      | false =>
        rw [if_pos e] at k
        rw [(hX _ hs).2 e]
        exact br_lt (by unfold R32; omega) ⟨fun _ => k, fun z => by omega⟩
      | true =>
        rw [if_neg (by rw [e]; simp)] at k
        rw [((hX _ hs).1 e).1, nI_iI]
        have := hz _ hs e
        refine br_lt (by unfold R32; omega) ⟨fun z => by omega, fun _ => ⟨hv, fun c3 => ?_, fun c3 => ?_⟩⟩
        · rw [← l_1] at c3; rw [if_pos c3] at k; exact k
        · rw [← l_1] at c3; rw [if_neg c3] at k; exact k
    · rw [if_pos c2] at k; exact k
  · rw [if_pos (by omega)] at k; exact k
theorem m_look {τ : SS} (hM : MB th sz zo pl τ) {a : Int} (ha : R32 a) {Q : Int32 → Prop} (k : Q (iI (if fnd (gA τ 4) th a < 0 then fnd (gA τ 4) th a else 0))) : wX7_look (iI a) τ Q := by
  unfold R32 at ha
  generalize hf : fnd (gA τ 4) th a = f at k
  unfold fnd at hf
  unfold wX7_look
  simp only [l_m4, l_m5, l_100]
  rw [l_0]
  refine br_lt (by unfold R32; omega) ⟨fun c => ?_, fun c => ?_⟩
  · rw [if_pos c] at hf; subst hf; exact k
  · rw [rem_iI (by omega) (by omega), iI_div (by omega) (by omega) (by omega) (by omega), clamp_iI (by omega) (by omega)]
    rw [if_neg c] at hf
    have hv : vp_in (iI (a % 100)) 100 := vp_in_iI (by omega) (by omega) (by omega)
    have hs : (a % 100).toNat < 100 := by omega
    refine ⟨hv, fun c2 => ⟨hv, ?_⟩, fun c2 => ?_⟩
    · rw [if_neg (fun z => z c2)] at hf
      cases e : th (a % 100).toNat with
      | false =>
        rw [if_pos e] at hf
        subst hf
        rw [(hM.2 _ hs).2 e]
        exact ⟨fun _ => k, fun z => absurd l_0 z⟩
      | true =>
        rw [if_neg (by rw [e]; simp)] at hf
        rw [((hM.2 _ hs).1 e).1]
        refine ⟨fun z => absurd z (by decide), fun _ => ⟨hv, fun c3 => ?_, fun c3 => ?_⟩⟩
        · rw [if_neg c3] at hf; subst hf; exact k
        · rw [if_pos c3] at hf; rw [if_neg (by omega)] at k; exact k
    · rw [if_pos c2] at hf; subst hf; exact k
theorem x_hasZone (hZ : XZ zn kd cl bw σ) (hz : zn ≤ 8) {z : Nat} (h : z < zn) {Q : Int32 → Prop} (k : Q 1) : wX3_hasZone (nI z) σ Q := by
  unfold wX3_hasZone
  rw [hZ.1]
  exact ⟨fun c => absurd c (nI_pos (by omega)), fun _ => ⟨fun c => absurd c (nI_ge h (by omega)), fun _ => k⟩⟩
theorem x_kindOf (hZ : XZ zn kd cl bw σ) (hz : zn ≤ 8) {z : Nat} (h : z < zn) {Q : Int32 → Prop} (k : Q (nI (kd z))) : wX3_kindOf (nI z) σ Q := by
  unfold wX3_kindOf
  refine x_hasZone hZ hz h ⟨fun c => absurd c (by decide), fun _ => ⟨vp_in_nI (by omega) (by omega), ?_⟩⟩
  rw [nI_clamp (by omega), (hZ.2 z h).1]
  exact k
theorem x_isRowZone (hZ : XZ zn kd cl bw σ) (hz : zn ≤ 8) {z : Nat} (h : z < zn) (hk : kd z ≤ 5) {Q : Int32 → Prop} (k0 : kd z < 2 → Q 0) (k1 : 2 ≤ kd z → Q 1) : wX3_isRowZone (nI z) σ Q := by
  unfold wX3_isRowZone
  refine x_kindOf hZ hz h ?_
  rw [nI_iI, l_2]
  exact br_lt (by unfold R32; omega) ⟨fun c => k0 (by omega), fun c => k1 (by omega)⟩
/-- what is known of a block that is there -/
theorem blk (hg : Gh pg zn ow ln hd kd cl th sz zo pl) {s : Nat} (hs : s < 100) (ht : th s = true) : zo s < zn ∧ zn ≤ 8 ∧ kd (zo s) ≤ 5 ∧ pg ≤ 40 ∧ pl s + ln (pl s) ≤ 64 * pg ∧ 0 < ln (pl s) ∧ sz s ≤ ln (pl s) ∧ sz s ≤ 2000 ∧ (2 ≤ kd (zo s) → ln (pl s) = sz s + (if kd (zo s) = 5 then 3 else 1)) := by
  obtain ⟨⟨hZ, hT, hS, hB, hR⟩, hK, hSz, hSet, hJ⟩ := hg
  obtain ⟨a1, a2, a3, a4, a5⟩ := hK.1 s hs ht
  obtain ⟨b1, b2, b3, b4⟩ := hSz s hs ht
  obtain ⟨t1, t2, -⟩ := hT _ a2 a3
  obtain ⟨z1, z2⟩ := hZ.2.2.2 _ a1
  refine ⟨a1, hZ.2.1, z1, hZ.1, t2, a3, ?_, b1, b4⟩
  by_cases k0 : kd (zo s) = 0
  · have hk : kz kd (ow (pl s / 64)) = 0 := by unfold kz; rw [a5]; exact k0
    have hs2 := hS (pl s / 64) (by omega) t1 hk (pl s % 64) (by omega)
    rw [show 64 * (pl s / 64) + pl s % 64 = pl s by omega, a5] at hs2
    have := b2 k0
    rw [Int.toNat_natCast] at hs2
    split at hs2 <;> omega
  · by_cases k1 : kd (zo s) = 1
    · exact (b3 k1).1
    · rw [b4 (by omega)]; split <;> omega
theorem x_isGuarded (hX : XB ln th sz zo pl σ) (hZ : XZ zn kd cl bw σ) (hg : Gh pg zn ow ln hd kd cl th sz zo pl) {s : Nat} (hs : s < 100) (ht : th s = true) {Q : Int32 → Prop} (k0 : ¬ kd (zo s) = 5 → Q 0) (k1 : kd (zo s) = 5 → Q 1) : wX3_isGuarded (nI s) σ Q := by
  obtain ⟨z1, z2, z3, -⟩ := blk hg hs ht
  unfold wX3_isGuarded
  refine ⟨vp_in_nI hs (by omega), ?_⟩
  rw [nI_clamp (by omega), ((hX s hs).1 ht).1]
  refine x_kindOf hZ z2 z1 ?_
  rw [nI_iI, l_5]
  exact br_ne (by unfold R32; omega) ⟨fun c => k0 (by omega), fun c => k1 (by omega)⟩
/-- how far behind a piece's beginning its block's numbers begin -/
def ahd (k : Nat) : Nat := if k = 5 then 2 else if 2 ≤ k then 1 else 0
theorem x_firstNumber (hX : XB ln th sz zo pl σ) (hZ : XZ zn kd cl bw σ) (hg : Gh pg zn ow ln hd kd cl th sz zo pl) {s : Nat} (hs : s < 100) (ht : th s = true) {Q : Int32 → Prop} (k : Q (nI (pl s + ahd (kd (zo s))))) : wX3_firstNumber (nI s) σ Q := by
  obtain ⟨z1, z2, z3, -⟩ := blk hg hs ht
  have hv : vp_in (nI s) 100 := vp_in_nI hs (by omega)
  obtain ⟨e1, e2, -⟩ := (hX s hs).1 ht
  unfold wX3_firstNumber wX3_firstNumber_b30
  rw [nI_clamp (by omega), e1, e2]
  unfold ahd at k
  refine x_isGuarded hX hZ hg hs ht (fun c => ⟨fun _ => ⟨hv, x_isRowZone hZ z2 z1 z3 (fun c2 => ⟨fun _ => ⟨hv, ?_⟩, fun z => absurd rfl z⟩) (fun c2 => ⟨fun z => absurd z (by decide), fun _ => ⟨hv, ?_⟩⟩)⟩, fun z => absurd rfl z⟩) (fun c => ⟨fun z => absurd z (by decide), fun _ => ⟨hv, ?_⟩⟩)
  · rw [if_neg c, if_neg (by omega)] at k
    rw [show (0 : Int32) = nI 0 from rfl, nI_add]; exact k
  · rw [if_neg c, if_pos c2] at k
    rw [show (1 : Int32) = nI 1 from rfl, nI_add]; exact k
  · rw [if_pos c] at k
    rw [show (2 : Int32) = nI 2 from rfl, nI_add]; exact k
theorem m_firstNumber {τ : SS} (hM : MB th sz zo pl τ) (hZ : MZ zn kd cl bw τ) (hg : Gh pg zn ow ln hd kd cl th sz zo pl) {s : Nat} (hs : s < 100) (ht : th s = true) {Q : Int32 → Prop} (k : Q (nI (pl s + ahd (kd (zo s))))) : wX7_firstNumber (nI s) τ Q := by
  obtain ⟨z1, z2, z3, -⟩ := blk hg hs ht
  have hv : vp_in (nI s) 100 := vp_in_nI hs (by omega)
  obtain ⟨-, -, e1, e2⟩ := (hM.2 s hs).1 ht
  unfold wX7_firstNumber wX7_firstOf
  rw [nI_clamp (by omega), e1, e2, nI_clamp (by omega), (hZ.2 _ z1).1]
  unfold ahd at k
  have hz8 : vp_in (nI (zo s)) 8 := vp_in_nI (by omega) (by omega)
  refine ⟨hv, hv, hz8, fun c => ⟨hz8, fun c2 => ?_, fun c2 => ?_⟩, fun c => ?_⟩
  · have h5 : ¬ kd (zo s) = 5 := fun z => c2 (by rw [z]; rfl)
    have h2 : 2 ≤ kd (zo s) := (nI_ltI (a := 1) (by omega) (by omega)).mp c
    rw [if_neg h5, if_pos h2] at k
    rw [nI_1]; exact k
  · have h5 : kd (zo s) = 5 := (nI_eq (b := 5) (by omega) (by omega)).mp c2
    rw [if_pos h5] at k
    rw [show (2 : Int32) = nI 2 from rfl, nI_add]; exact k
  · have h2 : ¬ 2 ≤ kd (zo s) := fun z => c (nI_lt (show 1 < kd (zo s) by omega) (by omega))
    rw [if_neg (by omega), if_neg h2] at k
    exact k
end FIND
