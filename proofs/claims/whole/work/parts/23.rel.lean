/-! ===== the invariant between class and reference ===== -/
def MG (pg : Nat) (ow : Nat → Int) (ln : Nat → Nat) (hd : Nat → Int) (τ : SS) : Prop := gI τ 0 = nI pg ∧ (∀ k, k < pg → gA τ 0 k = iI (ow k)) ∧ ∀ j, j < 64 * pg → gA τ 1 j = nI (ln j) ∧ (0 < ln j → gA τ 2 j = iI (hd j))
def MZ (zn : Nat) (kd cl : Nat → Nat) (bw : Nat → Int64) (τ : SS) : Prop := gI τ 1 = nI zn ∧ ∀ z, z < zn → gA τ 3 z = nI (kd z) ∧ gB τ 1 z = bw z ∧ (kd z = 0 → bw z = lN (cl z))
/-- how many of the first n are there -/
def cnt (th : Nat → Bool) : Nat → Nat
  | 0 => 0
  | n + 1 => cnt th n + (if th n = true then 1 else 0)
def MB (th : Nat → Bool) (sz zo pl : Nat → Nat) (τ : SS) : Prop := gI τ 2 = nI (cnt th 100) ∧ ∀ s, s < 100 → (th s = true → gA τ 5 s = 1 ∧ gA τ 6 s = nI (sz s) ∧ gA τ 7 s = nI (zo s) ∧ gA τ 8 s = nI (pl s)) ∧ (th s = false → gA τ 5 s = 0)
def OkSz (kd cl ln : Nat → Nat) (th : Nat → Bool) (sz zo pl : Nat → Nat) : Prop := ∀ s, s < 100 → th s = true → sz s ≤ 2000 ∧ (kd (zo s) = 0 → sz s ≤ cl (zo s)) ∧ (kd (zo s) = 1 → sz s ≤ ln (pl s) ∧ (ln (pl s) = 1 ∨ ln (pl s) < 2 * sz s)) ∧ (2 ≤ kd (zo s) → ln (pl s) = sz s + (if kd (zo s) = 5 then 3 else 1))
/-- no page of a zone is wholly free -/
def OkSet (pg : Nat) (ow : Nat → Int) (ln : Nat → Nat) (hd : Nat → Int) (kd : Nat → Nat) : Prop := (∀ k, k < pg → 0 ≤ ow k → kz kd (ow k) = 0 → ∃ i, i < 64 ∧ 0 < ln (64 * k + i) ∧ 0 ≤ hd (64 * k + i)) ∧ (∀ k, k < pg → 0 ≤ ow k → kz kd (ow k) = 1 → ¬ (ln (64 * k) = 64 ∧ hd (64 * k) < 0)) ∧ ∀ j, j < 64 * pg → 0 < ln j → hd j < 0 → 2 ≤ kz kd (ow (j / 64)) → ∀ k, j ≤ 64 * k → ¬ 64 * k + 64 ≤ j + ln j
/-- the pair of a BUDDY's piece -/
def pair (j n : Nat) : Nat := if j / n % 2 = 0 then j + n else j - n
/-- nothing is left to be joined -/
def OkJ (pg : Nat) (ow : Nat → Int) (ln : Nat → Nat) (hd : Nat → Int) (kd : Nat → Nat) : Prop := (∀ j, j < 64 * pg → 0 < ln j → hd j < 0 → 2 ≤ kz kd (ow (j / 64)) → j + ln j < 64 * pg → ow ((j + ln j) / 64) = ow (j / 64) → 0 ≤ hd (j + ln j)) ∧ ∀ j, j < 64 * pg → 0 < ln j → hd j < 0 → kz kd (ow (j / 64)) = 1 → ln j < 64 → ¬ (ln (pair j (ln j)) = ln j ∧ hd (pair j (ln j)) < 0)
def Gh (pg zn : Nat) (ow : Nat → Int) (ln : Nat → Nat) (hd : Nat → Int) (kd cl : Nat → Nat) (th : Nat → Bool) (sz zo pl : Nat → Nat) : Prop := Tiled pg zn ow ln kd cl ∧ OkK pg zn ow ln hd th zo pl ∧ OkSz kd cl ln th sz zo pl ∧ OkSet pg ow ln hd kd ∧ OkJ pg ow ln hd kd
def Raw (σ τ : SS) : Prop := (∀ s, s < 100 → gA σ 3 s = gA τ 4 s) ∧ (∀ j, j < 2560 → gB σ 0 j = gB τ 0 j) ∧ ∀ k, k < 4 → gA σ 8 k = gA τ 9 k
def RSg (pg zn : Nat) (ow : Nat → Int) (ln : Nat → Nat) (hd : Nat → Int) (kd cl : Nat → Nat) (bw : Nat → Int64) (th : Nat → Bool) (sz zo pl : Nat → Nat) (σ τ : SS) : Prop := Gh pg zn ow ln hd kd cl th sz zo pl ∧ (XG pg ow ln hd σ ∧ XZ zn kd cl bw σ ∧ XB ln th sz zo pl σ) ∧ (MG pg ow ln hd τ ∧ MZ zn kd cl bw τ ∧ MB th sz zo pl τ) ∧ Raw σ τ
def RS (σ τ : SS) : Prop := ∃ (pg zn : Nat) (ow : Nat → Int) (ln : Nat → Nat) (hd : Nat → Int) (kd cl : Nat → Nat) (bw : Nat → Int64) (th : Nat → Bool) (sz zo pl : Nat → Nat), RSg pg zn ow ln hd kd cl bw th sz zo pl σ τ
def RV (σ τ : SS) : Prop := (∀ k, k < 10 → gA σ 11 k = gA τ 10 k) ∧ gL σ 0 = gL τ 0
/-- what the reference keeps, as a state -/
def kview (τ : SS) : SS := (fun k => match k with | 0 => gI τ 4 | 1 => gI τ 5 | 2 => gI τ 6 | _ => 0, fun _ => 0, fun k => match k with | 0 => gA τ 11 | 1 => gA τ 12 | 2 => gA τ 13 | 3 => gA τ 14 | 4 => gA τ 15 | 5 => gA τ 16 | 6 => gA τ 17 | 7 => gA τ 18 | 8 => gA τ 19 | 9 => gA τ 20 | _ => fun _ => 0, fun k => match k with | 0 => gB τ 2 | 1 => gB τ 3 | _ => fun _ => 0)
def KV (κ : Option SS) (τ : SS) : Prop := (κ = none → gI τ 3 = 0) ∧ ∀ σk, κ = some σk → gI τ 3 = 1 ∧ RS σk (kview τ)
def II (κ : Option SS) (σ τ : SS) : Prop := RS σ τ ∧ RV σ τ ∧ KV κ τ
/-- states alike in what the invariant looks at -/
def AgX (σ σ' : SS) : Prop := (gI σ' 0 = gI σ 0 ∧ gI σ' 1 = gI σ 1) ∧ (∀ k, k < 9 → gA σ' k = gA σ k) ∧ gB σ' 0 = gB σ 0 ∧ gB σ' 1 = gB σ 1
def AgM (τ τ' : SS) : Prop := (gI τ' 0 = gI τ 0 ∧ gI τ' 1 = gI τ 1 ∧ gI τ' 2 = gI τ 2) ∧ (∀ k, k < 10 → gA τ' k = gA τ k) ∧ gB τ' 0 = gB τ 0 ∧ gB τ' 1 = gB τ 1
def AgK (τ τ' : SS) : Prop := gI τ' 3 = gI τ 3 ∧ kview τ' = kview τ
theorem RSg.ag {pg zn : Nat} {ow : Nat → Int} {ln : Nat → Nat} {hd : Nat → Int} {kd cl : Nat → Nat} {bw : Nat → Int64} {th : Nat → Bool} {sz zo pl : Nat → Nat} {σ σ' τ τ' : SS} (h : RSg pg zn ow ln hd kd cl bw th sz zo pl σ τ) (hx : AgX σ σ') (hm : AgM τ τ') : RSg pg zn ow ln hd kd cl bw th sz zo pl σ' τ' := by
  obtain ⟨⟨a1, a2⟩, aA, a3, a4⟩ := hx
  obtain ⟨⟨b1, b2, b5⟩, bA, b3, b4⟩ := hm
  have A0 := aA 0 (by omega); have A1 := aA 1 (by omega); have A2 := aA 2 (by omega); have A3 := aA 3 (by omega); have A4 := aA 4 (by omega); have A5 := aA 5 (by omega); have A6 := aA 6 (by omega); have A7 := aA 7 (by omega); have A8 := aA 8 (by omega)
  have B0 := bA 0 (by omega); have B1 := bA 1 (by omega); have B2 := bA 2 (by omega); have B3 := bA 3 (by omega); have B4 := bA 4 (by omega); have B5 := bA 5 (by omega); have B6 := bA 6 (by omega); have B7 := bA 7 (by omega); have B8 := bA 8 (by omega); have B9 := bA 9 (by omega)
  unfold RSg XG XZ XB MG MZ MB Raw at h ⊢
  rw [a1, a2, a3, a4, A0, A1, A2, A3, A4, A5, A6, A7, A8, b1, b2, b3, b4, b5, B0, B1, B2, B3, B4, B5, B6, B7, B8, B9]
  exact h
theorem RS.ag {σ σ' τ τ' : SS} (h : RS σ τ) (hx : AgX σ σ') (hm : AgM τ τ') : RS σ' τ' := by
  obtain ⟨pg, zn, ow, ln, hd, kd, cl, bw, th, sz, zo, pl, h⟩ := h
  exact ⟨pg, zn, ow, ln, hd, kd, cl, bw, th, sz, zo, pl, h.ag hx hm⟩
theorem KV.ag {κ : Option SS} {τ τ' : SS} (h : KV κ τ) (hk : AgK τ τ') : KV κ τ' := by
  obtain ⟨k1, k2⟩ := hk
  unfold KV at h ⊢
  rw [k1, k2]
  exact h
theorem AgX.rf (σ : SS) : AgX σ σ := ⟨⟨rfl, rfl⟩, fun _ _ => rfl, rfl, rfl⟩
theorem AgM.rf (σ : SS) : AgM σ σ := ⟨⟨rfl, rfl, rfl⟩, fun _ _ => rfl, rfl, rfl⟩
theorem AgK.rf (σ : SS) : AgK σ σ := ⟨rfl, rfl⟩
theorem gA_sA_ne (σ : SS) {k j : Nat} (i : Nat) (x : Int32) (h : k ≠ j) : gA (sA σ j i x) k = gA σ k := by
  show (if k = j then _ else gA σ k) = _
  rw [if_neg h]
theorem gA_sA (σ : SS) (k i : Nat) (x : Int32) : gA (sA σ k i x) k = upd (gA σ k) i x := by
  show (if k = k then _ else gA σ k) = _
  rw [if_pos rfl]
theorem ex_iI (x : Int32) : ∃ a, R32 a ∧ x = iI a := ⟨x.toInt, ⟨Int32.le_toInt x, Int32.toInt_lt x⟩, (iI_self x).symm⟩
/-- one more finding -/
def ansX (σ : SS) (n : Nat) : SS := sA σ 11 n (gA σ 11 n + 1)
def ansM (τ : SS) (n : Nat) : SS := sA τ 10 n (gA τ 10 n + 1)
theorem x_tell {σ : SS} {n : Nat} (h1 : 1 ≤ n) (h2 : n ≤ 9) {Q : Int32 → SS → Prop} (k : Q (iI (-(n : Int))) (ansX σ n)) : wX6_tell (iI (-(n : Int))) σ Q := by
  unfold wX6_tell
  simp only [l_m1, l_m9, neg_iI, Int.neg_neg]
  refine br_lt (by unfold R32; omega) ⟨fun c => by omega, fun _ => br_lt (by unfold R32; omega) ⟨fun c => by omega, fun _ => ⟨vp_in_iI (by omega) (by omega) (by omega), vp_in_iI (by omega) (by omega) (by omega), ?_⟩⟩⟩
  rw [clamp_iI (by omega) (by omega), Int.toNat_natCast]
  exact k
theorem m_answer {τ : SS} {n : Nat} (h1 : 1 ≤ n) (h2 : n ≤ 9) {Q : Int32 → SS → Prop} (k : Q (iI (-(n : Int))) (ansM τ n)) : wX7_answer (iI (-(n : Int))) τ Q := by
  unfold wX7_answer
  simp only [l_0, neg_iI, Int.neg_neg]
  refine br_le (by unfold R32; omega) ⟨fun c => by omega, fun _ => ⟨vp_in_iI (by omega) (by omega) (by omega), vp_in_iI (by omega) (by omega) (by omega), ?_⟩⟩
  rw [clamp_iI (by omega) (by omega), Int.toNat_natCast]
  exact k
theorem m_answer0 {τ : SS} {a : Int} (h1 : 0 ≤ a) (h2 : R32 a) {Q : Int32 → SS → Prop} (k : Q (iI a) τ) : wX7_answer (iI a) τ Q := by
  unfold wX7_answer
  simp only [l_0]
  exact br_le (by unfold R32 at *; omega) ⟨fun _ => k, fun c => by omega⟩
theorem II.ans {κ : Option SS} {σ τ : SS} (h : II κ σ τ) (n : Nat) : II κ (ansX σ n) (ansM τ n) := by
  obtain ⟨h1, ⟨h2, h3⟩, h4⟩ := h
  refine ⟨h1.ag ⟨⟨rfl, rfl⟩, fun k hk => gA_sA_ne _ _ _ (by omega), rfl, rfl⟩ ⟨⟨rfl, rfl, rfl⟩, fun k hk => gA_sA_ne _ _ _ (by omega), rfl, rfl⟩, ⟨fun k hk => ?_, h3⟩, h4.ag ⟨rfl, rfl⟩⟩
  unfold ansX ansM
  rw [gA_sA, gA_sA]
  unfold upd
  by_cases e : k = n
  · rw [if_pos e, if_pos e, ← e, h2 k hk]
  · rw [if_neg e, if_neg e, h2 k hk]
theorem s_value : stp_value II := by
  intro κ σx σm h
  exact ⟨h.2.1.2, h⟩
theorem s_hold : stp_hold II := by
  intro κ σx σm x1 x2 h
  obtain ⟨a, ha, rfl⟩ := ex_iI x1
  obtain ⟨b, hb, rfl⟩ := ex_iI x2
  have fin : wX6_tell (iI (-1)) σx (fun r σx' => wX7_answer (iI (-1)) σm (fun r' σm' => r = r' ∧ II κ σx' σm')) := x_tell (n := 1) (by omega) (by omega) (m_answer (n := 1) (by omega) (by omega) ⟨rfl, h.ans 1⟩)
  unfold wX6_hold wX6_hold_b25 wX6_hold_b9 wX7_hold wX7_hold_b19
  simp only [l_0, l_4, l_3, l_99, l_m1]
  unfold R32 at ha hb
  refine br_lt (by unfold R32; omega) ⟨fun c => ?_, fun c => br_lt (by unfold R32; omega) ⟨fun c2 => br_lt (by unfold R32; omega) ⟨fun c3 => ?_, fun c3 => br_le (by unfold R32; omega) ⟨fun c4 => ?_, fun c4 => ?_⟩⟩, fun c2 => ?_⟩⟩
  · exact x_tell (n := 1) (by omega) (by omega) (br_lt (by unfold R32; omega) ⟨fun _ => m_answer (n := 1) (by omega) (by omega) ⟨rfl, h.ans 1⟩, fun z => absurd c z⟩)
  · exact x_tell (n := 1) (by omega) (by omega) (br_lt (by unfold R32; omega) ⟨fun z => absurd z c, fun _ => br_lt (by unfold R32; omega) ⟨fun z => by omega, fun _ => br_lt (by unfold R32; omega) ⟨fun _ => m_answer (n := 1) (by omega) (by omega) ⟨rfl, h.ans 1⟩, fun z => absurd c3 z⟩⟩⟩)
  · refine ⟨vp_in_iI (by omega) (by omega) (by omega), vp_in_iI (by omega) (by omega) (by omega), br_lt (by unfold R32; omega) ⟨fun z => absurd z c, fun _ => br_lt (by unfold R32; omega) ⟨fun z => by omega, fun _ => br_lt (by unfold R32; omega) ⟨fun z => absurd z c3, fun _ => br_le (by unfold R32; omega) ⟨fun _ => ⟨vp_in_iI (by omega) (by omega) (by omega), vp_in_iI (by omega) (by omega) (by omega), ?_⟩, fun z => absurd c4 z⟩⟩⟩⟩⟩
    rw [clamp_iI (by omega) (by omega)]
    obtain ⟨⟨pg, zn, ow, ln, hd, kd, cl, bw, th, sz, zo, pl, g1, ⟨x1, x2, x3⟩, ⟨m1, m2, m3⟩, r1, r2, r3⟩, h2, h4⟩ := h
    refine ⟨r3 _ (by omega), ⟨pg, zn, ow, ln, hd, kd, cl, bw, th, sz, zo, pl, g1, ⟨x1, x2, x3⟩, ⟨m1, m2, m3⟩, r1, r2, fun k hk => ?_⟩, h2, h4⟩
    rw [gA_sA, gA_sA]
    unfold upd
    by_cases e : k = a.toNat
    · rw [if_pos e, if_pos e]
    · rw [if_neg e, if_neg e, r3 k hk]
  · exact x_tell (n := 1) (by omega) (by omega) (br_lt (by unfold R32; omega) ⟨fun z => absurd z c, fun _ => br_lt (by unfold R32; omega) ⟨fun z => by omega, fun _ => br_lt (by unfold R32; omega) ⟨fun z => absurd z c3, fun _ => br_le (by unfold R32; omega) ⟨fun z => absurd z c4, fun _ => m_answer (n := 1) (by omega) (by omega) ⟨rfl, h.ans 1⟩⟩⟩⟩⟩)
  · exact x_tell (n := 1) (by omega) (by omega) (br_lt (by unfold R32; omega) ⟨fun z => absurd z c, fun _ => br_lt (by unfold R32; omega) ⟨fun _ => m_answer (n := 1) (by omega) (by omega) ⟨rfl, h.ans 1⟩, fun z => by omega⟩⟩)
