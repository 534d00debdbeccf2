/-! ===== the class's state by ghosts; what its small methods answer ===== -/
def R32 (a : Int) : Prop := -2147483648 ≤ a ∧ a < 2147483648
theorem br_lt {a b : Int} {A B : Prop} (h : R32 a ∧ R32 b) (k : (a < b → A) ∧ (¬ a < b → B)) : (iI a < iI b → A) ∧ (¬ iI a < iI b → B) := ⟨fun c => k.1 ((iI_lt h.1.1 h.1.2 h.2.1 h.2.2).mp c), fun c => k.2 (fun q => c ((iI_lt h.1.1 h.1.2 h.2.1 h.2.2).mpr q))⟩
theorem br_le {a b : Int} {A B : Prop} (h : R32 a ∧ R32 b) (k : (a ≤ b → A) ∧ (¬ a ≤ b → B)) : (iI a ≤ iI b → A) ∧ (¬ iI a ≤ iI b → B) := ⟨fun c => k.1 ((iI_le h.1.1 h.1.2 h.2.1 h.2.2).mp c), fun c => k.2 (fun q => c ((iI_le h.1.1 h.1.2 h.2.1 h.2.2).mpr q))⟩
theorem br_eq {a b : Int} {A B : Prop} (h : R32 a ∧ R32 b) (k : (a = b → A) ∧ (¬ a = b → B)) : (iI a = iI b → A) ∧ (¬ iI a = iI b → B) := ⟨fun c => k.1 ((iI_eq h.1.1 h.1.2 h.2.1 h.2.2).mp c), fun c => k.2 (fun q => c ((iI_eq h.1.1 h.1.2 h.2.1 h.2.2).mpr q))⟩
theorem br_ne {a b : Int} {A B : Prop} (h : R32 a ∧ R32 b) (k : (¬ a = b → A) ∧ (a = b → B)) : (¬ iI a = iI b → A) ∧ (iI a = iI b → B) := ⟨fun c => k.1 (fun q => c ((iI_eq h.1.1 h.1.2 h.2.1 h.2.2).mpr q)), fun c => k.2 ((iI_eq h.1.1 h.1.2 h.2.1 h.2.2).mp c)⟩
theorem l_0 : (0 : Int32) = iI 0 := by decide
theorem l_1 : (1 : Int32) = iI 1 := by decide
theorem l_2 : (2 : Int32) = iI 2 := by decide
theorem l_3 : (3 : Int32) = iI 3 := by decide
theorem l_4 : (4 : Int32) = iI 4 := by decide
theorem l_5 : (5 : Int32) = iI 5 := by decide
theorem l_6 : (6 : Int32) = iI 6 := by decide
theorem l_32 : (32 : Int32) = iI 32 := by decide
theorem l_64 : (64 : Int32) = iI 64 := by decide
theorem l_65 : (65 : Int32) = iI 65 := by decide
theorem l_99 : (99 : Int32) = iI 99 := by decide
theorem l_100 : (100 : Int32) = iI 100 := by decide
theorem l_2000 : (2000 : Int32) = iI 2000 := by decide
theorem l_2560 : (2560 : Int32) = iI 2560 := by decide
theorem l_m1 : (-1 : Int32) = iI (-1) := by decide
theorem l_m2 : (-2 : Int32) = iI (-2) := by decide
theorem l_m3 : (-3 : Int32) = iI (-3) := by decide
theorem l_m4 : (-4 : Int32) = iI (-4) := by decide
theorem l_m5 : (-5 : Int32) = iI (-5) := by decide
theorem l_m6 : (-6 : Int32) = iI (-6) := by decide
theorem l_m7 : (-7 : Int32) = iI (-7) := by decide
theorem l_m8 : (-8 : Int32) = iI (-8) := by decide
theorem l_m9 : (-9 : Int32) = iI (-9) := by decide
theorem l_m100 : (-100 : Int32) = iI (-100) := by decide
/-- what the class's row 'piece' holds -/
def mkI (n : Nat) (h : Int) : Int := if n = 0 then 0 else if h < 0 then n else -1 - h
def XG (pg : Nat) (ow : Nat → Int) (ln : Nat → Nat) (hd : Nat → Int) (σ : SS) : Prop := gI σ 0 = nI pg ∧ (∀ k, k < pg → gA σ 0 k = iI (ow k)) ∧ ∀ j, j < 64 * pg → gA σ 1 j = iI (mkI (ln j) (hd j))
def XZ (zn : Nat) (kd cl : Nat → Nat) (bw : Nat → Int64) (σ : SS) : Prop := gI σ 1 = nI zn ∧ ∀ z, z < zn → gA σ 2 z = nI (kd z) ∧ gB σ 1 z = bw z ∧ (kd z = 0 → bw z = lN (cl z))
def XB (ln : Nat → Nat) (th : Nat → Bool) (sz zo pl : Nat → Nat) (σ : SS) : Prop := ∀ s, s < 100 → (th s = true → gA σ 4 s = nI (zo s) ∧ gA σ 5 s = nI (pl s) ∧ gA σ 6 s = nI (ln (pl s)) ∧ gA σ 7 s = nI (sz s)) ∧ (th s = false → gA σ 4 s = iI (-1))
/-- blocks and pieces name each other -/
def OkK (pg zn : Nat) (ow : Nat → Int) (ln : Nat → Nat) (hd : Nat → Int) (th : Nat → Bool) (zo pl : Nat → Nat) : Prop := (∀ s, s < 100 → th s = true → zo s < zn ∧ pl s < 64 * pg ∧ 0 < ln (pl s) ∧ hd (pl s) = s ∧ ow (pl s / 64) = zo s) ∧ ∀ j, j < 64 * pg → 0 < ln j → hd j = -1 ∨ (0 ≤ hd j ∧ hd j < 100 ∧ th (hd j).toNat = true ∧ pl (hd j).toNat = j)
section XLEAF
variable {pg zn : Nat} {ow : Nat → Int} {ln kd cl : Nat → Nat} {hd : Nat → Int} {th : Nat → Bool} {sz zo pl : Nat → Nat} {bw : Nat → Int64} {σ : SS}
theorem x_places (hg : XG pg ow ln hd σ) {Q : Int32 → Prop} (h : Q (nI (64 * pg))) : wX3_places σ Q := by
  unfold wX3_places
  rw [hg.1, show (64 : Int32) = nI 64 from rfl, pk_mul, Nat.mul_comm]
  exact h
theorem x_ownerAt (hg : XG pg ow ln hd σ) (hp : pg ≤ 40) {p : Nat} (h : p < 64 * pg) {Q : Int32 → Prop} (k : Q (iI (ow (p / 64)))) : wX3_ownerAt (nI p) σ Q := by
  unfold wX3_ownerAt
  simp only [nI_iI, l_0]
  refine br_lt (by unfold R32; omega) ⟨fun c => by omega, fun _ => x_places hg ?_⟩
  simp only [nI_iI]
  refine br_lt (by unfold R32; omega) ⟨fun _ => ?_, fun c => by omega⟩
  rw [l_64, iI_div (by omega) (by omega) (by omega) (by omega)]
  refine ⟨vp_in_iI (by omega) (by omega) (by omega), ?_⟩
  rw [clamp_iI (by omega) (by omega), show ((p : Int) / 64).toNat = p / 64 by omega, hg.2.1 _ (by omega)]
  exact k
theorem x_ownerOut (hg : XG pg ow ln hd σ) (hp : pg ≤ 40) {p : Nat} (h : 64 * pg ≤ p) (h2 : p < 100000) {Q : Int32 → Prop} (k : Q (iI (-2))) : wX3_ownerAt (nI p) σ Q := by
  unfold wX3_ownerAt
  simp only [nI_iI, l_0, l_m2]
  refine br_lt (by unfold R32; omega) ⟨fun c => by omega, fun _ => x_places hg ?_⟩
  simp only [nI_iI]
  exact br_lt (by unfold R32; omega) ⟨fun c => by omega, fun _ => k⟩
theorem x_pieceAt (hg : XG pg ow ln hd σ) (hp : pg ≤ 40) {p : Nat} (h : p < 64 * pg) {Q : Int32 → Prop} (k : Q (iI (mkI (ln p) (hd p)))) : wX3_pieceAt (nI p) σ Q := by
  unfold wX3_pieceAt
  simp only [nI_iI, l_0, l_2560]
  refine br_lt (by unfold R32; omega) ⟨fun c => by omega, fun _ => br_le (by unfold R32; omega) ⟨fun c => by omega, fun _ => ⟨vp_in_iI (by omega) (by omega) (by omega), ?_⟩⟩⟩
  rw [clamp_iI (by omega) (by omega), show ((p : Int)).toNat = p by omega, hg.2.2 _ h]
  exact k
/-- how long the free piece of a zone is that begins at a place -/
def fr (ow : Nat → Int) (ln : Nat → Nat) (hd : Nat → Int) (z p : Nat) : Nat := if ow (p / 64) = z ∧ hd p < 0 then ln p else 0
theorem x_freeAt (hg : XG pg ow ln hd σ) (hZ : OkZ pg zn ow kd cl) (hT : OkT pg ow ln) (hK : OkK pg zn ow ln hd th zo pl) {p z : Nat} (h : p < 64 * pg) (hz : z < 1000) {Q : Int32 → Prop} (k : Q (nI (fr ow ln hd z p))) : wX3_freeAt (nI p) (nI z) σ Q := by
  have hp : pg ≤ 40 := hZ.1
  unfold wX3_freeAt
  refine x_ownerAt hg hp h ?_
  have ho := hZ.2.2.1 (p / 64) (by omega)
  have hzn := hZ.2.1
  rw [nI_iI z]
  refine br_ne (by unfold R32; omega) ⟨fun c => ?_, fun c => x_pieceAt hg hp h ?_⟩
  · unfold fr at k
    rw [if_neg (fun q => c q.1)] at k
    exact k
  · have hl : ln p = 0 ∨ (0 < ln p ∧ p + ln p ≤ 64 * pg) := by
      rcases Nat.eq_zero_or_pos (ln p) with q | q
      · exact Or.inl q
      · exact Or.inr ⟨q, (hT p h q).2.1⟩
    unfold fr at k
    rcases hl with q | ⟨q, q2⟩
    · have e : (if ow (p / 64) = (z : Int) ∧ hd p < 0 then ln p else 0) = 0 := by split <;> omega
      rw [e] at k
      rw [show mkI (ln p) (hd p) = 0 by unfold mkI; rw [if_pos q], if_neg (by decide)]
      exact k
    · rcases hK.2 p h q with w | ⟨w1, w2, -, -⟩
      · rw [if_pos ⟨c, by omega⟩] at k
        rw [show mkI (ln p) (hd p) = (ln p : Int) by unfold mkI; rw [if_neg (by omega), if_pos (by omega)], l_0, if_pos ((iI_lt (by omega) (by omega) (by omega) (by omega)).mpr (by omega)), iI_nat]
        exact k
      · rw [if_neg (fun z => by omega)] at k
        rw [show mkI (ln p) (hd p) = -1 - hd p by unfold mkI; rw [if_neg (by omega), if_neg (by omega)], l_0, if_neg (fun z => by have := (iI_lt (by omega) (by omega) (by omega) (by omega)).mp z; omega)]
        exact k
theorem x_freeOut (hg : XG pg ow ln hd σ) (hp : pg ≤ 40) {p z : Nat} (h : 64 * pg ≤ p) (h2 : p < 100000) (hz : z < 1000) {Q : Int32 → Prop} (k : Q (nI 0)) : wX3_freeAt (nI p) (nI z) σ Q := by
  unfold wX3_freeAt
  refine x_ownerOut hg hp h h2 ?_
  rw [nI_iI z]
  exact br_ne (by unfold R32; omega) ⟨fun _ => k, fun c => by omega⟩
/-- the block that begins at a place -/
def bk (ln : Nat → Nat) (hd : Nat → Int) (p : Nat) : Int := if ln p = 0 then -1 else if hd p < 0 then -1 else hd p
theorem x_blockAt (hg : XG pg ow ln hd σ) (hZ : OkZ pg zn ow kd cl) (hT : OkT pg ow ln) (hK : OkK pg zn ow ln hd th zo pl) {p : Nat} (h : p < 64 * pg) {Q : Int32 → Prop} (k : Q (iI (bk ln hd p))) : wX3_blockAt (nI p) σ Q := by
  have hp : pg ≤ 40 := hZ.1
  unfold wX3_blockAt
  refine x_pieceAt hg hp h ?_
  unfold bk at k
  simp only [l_0, l_m1, l_m100]
  rcases Nat.eq_zero_or_pos (ln p) with q | q
  · rw [if_pos q] at k
    rw [show mkI (ln p) (hd p) = 0 by unfold mkI; rw [if_pos q]]
    exact br_le (by unfold R32; omega) ⟨fun _ => k, fun c => by omega⟩
  · have q2 := (hT p h q).2.1
    rw [if_neg (by omega)] at k
    rcases hK.2 p h q with w | ⟨w1, w2, -, -⟩
    · rw [if_pos (by omega)] at k
      rw [show mkI (ln p) (hd p) = (ln p : Int) by unfold mkI; rw [if_neg (by omega), if_pos (by omega)]]
      exact br_le (by unfold R32; omega) ⟨fun _ => k, fun c => by omega⟩
    · rw [if_neg (by omega)] at k
      rw [show mkI (ln p) (hd p) = -1 - hd p by unfold mkI; rw [if_neg (by omega), if_neg (by omega)]]
      refine br_le (by unfold R32; omega) ⟨fun c => by omega, fun _ => br_lt (by unfold R32; omega) ⟨fun c => by omega, fun _ => ?_⟩⟩
      rw [iI_sub, show (-1 - (-1 - hd p) : Int) = hd p by omega]
      exact k
theorem x_endOf (hg : XG pg ow ln hd σ) (hZ : OkZ pg zn ow kd cl) (hT : OkT pg ow ln) (hK : OkK pg zn ow ln hd th zo pl) (hX : XB ln th sz zo pl σ) {p : Nat} (h : p < 64 * pg) {Q : Int32 → Prop} (k : Q (nI (eo ow ln p))) : wX3_endOf (nI p) σ Q := by
  have hp : pg ≤ 40 := hZ.1
  have ho := hZ.2.2.1 (p / 64) (by omega)
  have hzn := hZ.2.1
  unfold wX3_endOf
  refine x_ownerAt hg hp h ?_
  unfold eo at k
  simp only [nI_iI, l_0, l_64, l_1, iI_add]
  rw [iI_div (by omega) (by omega) (by omega) (by omega)]
  simp only [iI_mul, iI_sub]
  refine br_le (by unfold R32; omega) ⟨fun c => ?_, fun c => ?_⟩
  · rw [if_neg (by omega)] at k
    rw [← nI_iI]
    refine x_blockAt hg hZ hT hK h ?_
    unfold bk
    rcases Nat.eq_zero_or_pos (ln p) with q | q
    · rw [if_pos q]
      rw [if_neg (by omega)] at k
      refine br_lt (by unfold R32; omega) ⟨fun _ => x_pieceAt hg hp h ?_, fun c => by omega⟩
      rw [show mkI (ln p) (hd p) = 0 by unfold mkI; rw [if_pos q]]
      refine br_le (by unfold R32; omega) ⟨fun _ => br_ne (by unfold R32; omega) ⟨fun c2 => ?_, fun c2 => ?_⟩, fun c => by omega⟩
      · rw [if_neg (by omega), nI_iI] at k
        rw [show ((p : Int) + 64 - (p - p / 64 * 64)) = ((64 * (p / 64) + 64 : Nat) : Int) by omega]
        exact k
      · rw [if_pos (by omega), nI_iI] at k
        exact k
    · have q2 := (hT p h q).2.1
      rw [if_pos q] at k
      rw [if_neg (by omega)]
      rcases hK.2 p h q with w | ⟨w1, w2, w3, w4⟩
      · rw [if_pos (by omega)]
        refine br_lt (by unfold R32; omega) ⟨fun _ => x_pieceAt hg hp h ?_, fun c => by omega⟩
        rw [show mkI (ln p) (hd p) = (ln p : Int) by unfold mkI; rw [if_neg (by omega), if_pos (by omega)]]
        refine br_le (by unfold R32; omega) ⟨fun c => by omega, fun _ => ?_⟩
        rw [nI_iI, iI_add, show (p : Int) + (ln p : Int) = ((p + ln p : Nat) : Int) by omega, ← nI_iI]
        exact k
      · rw [if_neg (by omega)]
        refine br_lt (by unfold R32; omega) ⟨fun c => by omega, fun _ => ⟨vp_in_iI (by omega) (by omega) (by omega), ?_⟩⟩
        rw [clamp_iI (by omega) (by omega), (((hX _ (by omega)).1 w3).2.2.1), w4, nI_iI (ln p)]
        have e : (if iI 1 < iI (ln p : Int) then iI (ln p : Int) else iI 1) = iI (ln p : Int) := by
          rcases Nat.lt_or_ge 1 (ln p) with e1 | e1
          · rw [if_pos ((iI_lt (by omega) (by omega) (by omega) (by omega)).mpr (by omega))]
          · rw [if_neg (fun z => by have := (iI_lt (by omega) (by omega) (by omega) (by omega)).mp z; omega), show ln p = 1 by omega]
            rfl
        rw [e, nI_iI, iI_add, show (p : Int) + (ln p : Int) = ((p + ln p : Nat) : Int) by omega, ← nI_iI]
        exact k
  · rw [if_pos (by omega), nI_iI] at k
    rw [show ((p : Int) + 64 - (p - p / 64 * 64)) = ((64 * (p / 64) + 64 : Nat) : Int) by omega]
    exact k
end XLEAF
