/-! ===== ghosts: what the places of all pages are =====
pg pages; ow k the owner of page k (-1 free, -2 missing, else its zone); ln j the length of the piece or slot that begins at place j (0: none does); hd j its block (-1: free); kd, cl: kind and class of a zone -/
/-- where what begins at a place ends -/
def eo (ow : Nat → Int) (ln : Nat → Nat) (j : Nat) : Nat := if ow (j / 64) < 0 then 64 * (j / 64) + 64 else if 0 < ln j then j + ln j else if j % 64 = 0 then j + 1 else 64 * (j / 64) + 64
/-- a zone's kind by a page's owner -/
def kz (kd : Nat → Nat) (z : Int) : Nat := kd z.toNat
/-- where the waste of a SLAB's page begins -/
def wst (c : Nat) : Nat := 1 + 63 / c * c
/-- the pages and zones -/
def OkZ (pg zn : Nat) (ow : Nat → Int) (kd cl : Nat → Nat) : Prop := pg ≤ 40 ∧ zn ≤ 8 ∧ (∀ k, k < pg → ow k = -1 ∨ ow k = -2 ∨ (0 ≤ ow k ∧ ow k < zn)) ∧ ∀ z, z < zn → kd z ≤ 5 ∧ (kd z = 0 → 1 ≤ cl z ∧ cl z ≤ 32)
/-- pieces lie in pages of one owner, nothing begins within one -/
def OkT (pg : Nat) (ow : Nat → Int) (ln : Nat → Nat) : Prop := ∀ j, j < 64 * pg → 0 < ln j → 0 ≤ ow (j / 64) ∧ j + ln j ≤ 64 * pg ∧ ∀ i, j < i → i < j + ln j → ln i = 0 ∧ ow (i / 64) = ow (j / 64)
/-- the slots of a SLAB's page -/
def OkS (pg : Nat) (ow : Nat → Int) (ln : Nat → Nat) (kd cl : Nat → Nat) : Prop := ∀ k, k < pg → 0 ≤ ow k → kz kd (ow k) = 0 → ∀ i, i < 64 → ln (64 * k + i) = if 1 ≤ i ∧ (i - 1) % cl (ow k).toNat = 0 ∧ i + cl (ow k).toNat ≤ 64 then cl (ow k).toNat else 0
/-- the pieces of a BUDDY's page -/
def OkB (pg : Nat) (ow : Nat → Int) (ln : Nat → Nat) (kd : Nat → Nat) : Prop := ∀ k, k < pg → 0 ≤ ow k → kz kd (ow k) = 1 → 0 < ln (64 * k) ∧ ∀ i, i < 64 → 0 < ln (64 * k + i) → (∃ e, e ≤ 6 ∧ ln (64 * k + i) = 2 ^ e) ∧ i % ln (64 * k + i) = 0 ∧ i + ln (64 * k + i) ≤ 64 ∧ (i + ln (64 * k + i) < 64 → 0 < ln (64 * k + i + ln (64 * k + i)))
/-- the pieces of the rows -/
def OkR (pg : Nat) (ow : Nat → Int) (ln : Nat → Nat) (kd : Nat → Nat) : Prop := (∀ k, k < pg → 0 ≤ ow k → 2 ≤ kz kd (ow k) → (k = 0 ∨ ow (k - 1) ≠ ow k) → 0 < ln (64 * k)) ∧ ∀ j, j < 64 * pg → 0 < ln j → 2 ≤ kz kd (ow (j / 64)) → (j + ln j < 64 * pg ∧ ow ((j + ln j) / 64) = ow (j / 64) ∧ 0 < ln (j + ln j)) ∨ ((j + ln j) % 64 = 0 ∧ (j + ln j < 64 * pg → ow ((j + ln j) / 64) ≠ ow (j / 64)))
def Tiled (pg zn : Nat) (ow : Nat → Int) (ln : Nat → Nat) (kd cl : Nat → Nat) : Prop := OkZ pg zn ow kd cl ∧ OkT pg ow ln ∧ OkS pg ow ln kd cl ∧ OkB pg ow ln kd ∧ OkR pg ow ln kd
/-- a place at which something begins -/
def Bd (pg : Nat) (ow : Nat → Int) (ln : Nat → Nat) (kd cl : Nat → Nat) (j : Nat) : Prop := j = 64 * pg ∨ (j < 64 * pg ∧ ((ow (j / 64) < 0 ∧ j % 64 = 0) ∨ (0 ≤ ow (j / 64) ∧ (0 < ln j ∨ (kz kd (ow (j / 64)) = 0 ∧ (j % 64 = 0 ∨ j % 64 = wst (cl (ow (j / 64)).toNat)))))))
theorem pageBd {pg zn : Nat} {ow : Nat → Int} {ln kd cl : Nat → Nat} (h : Tiled pg zn ow ln kd cl) {k : Nat} (hk : k ≤ pg) (hp : k < pg → k = 0 ∨ ow (k - 1) ≠ ow k ∨ ow k < 0 ∨ kz kd (ow k) < 2) : Bd pg ow ln kd cl (64 * k) := by
  obtain ⟨hZ, hT, hS, hB, hR⟩ := h
  rcases Nat.lt_or_ge k pg with q | q
  · refine Or.inr ⟨by omega, ?_⟩
    rw [show 64 * k / 64 = k by omega, show 64 * k % 64 = 0 by omega]
    rcases Int.lt_or_le (ow k) 0 with o | o
    · exact Or.inl ⟨o, rfl⟩
    · refine Or.inr ⟨o, ?_⟩
      by_cases k0 : kz kd (ow k) = 0
      · exact Or.inr ⟨k0, Or.inl rfl⟩
      · left
        by_cases k1 : kz kd (ow k) = 1
        · exact (hB k q o k1).1
        · refine hR.1 k q o (by omega) ?_
          rcases hp q with z | z | z | z
          · exact Or.inl z
          · exact Or.inr z
          · omega
          · omega
  · exact Or.inl (by omega)
theorem slot_next {c i : Nat} (hc : 1 ≤ c) (hc2 : c ≤ 32) (h1 : 1 ≤ i) (h2 : (i - 1) % c = 0) (h3 : i + c ≤ 64) : (1 ≤ i + c ∧ (i + c - 1) % c = 0 ∧ i + c + c ≤ 64) ∨ i + c = wst c := by
  obtain ⟨q, hq⟩ := Nat.dvd_of_mod_eq_zero h2
  rcases Nat.lt_or_ge 64 (i + c + c) with h | h
  · right
    unfold wst
    have : 63 / c = q + 1 := by
      rw [Nat.div_eq_iff (by omega)]
      have e1 : c * (q + 1) = c * q + c := Nat.mul_succ c q
      constructor
      · rw [Nat.mul_comm]; omega
      · rw [Nat.mul_comm]; omega
    rw [this, Nat.mul_comm (q + 1) c, Nat.mul_succ]
    omega
  · left
    refine ⟨by omega, ?_, h⟩
    rw [show i + c - 1 = (i - 1) + c by omega, Nat.add_mod_right]
    exact h2
theorem wst_le {c : Nat} (hc : 1 ≤ c) : wst c ≤ 64 := by
  unfold wst
  have := Nat.div_mul_le_self 63 c
  omega
theorem wst_gt {c : Nat} (hc : 1 ≤ c) (hc2 : c ≤ 32) : 1 < wst c := by
  unfold wst
  have : 1 ≤ 63 / c := (Nat.le_div_iff_mul_le (by omega)).mpr (by omega)
  have : 1 * c ≤ 63 / c * c := Nat.mul_le_mul_right c this
  omega
theorem slot_wst {c i : Nat} (hc : 1 ≤ c) (h : wst c ≤ i) : ¬ (1 ≤ i ∧ (i - 1) % c = 0 ∧ i + c ≤ 64) := by
  intro ⟨h1, h2, h3⟩
  unfold wst at h
  have e := Nat.div_add_mod 63 c
  have e2 := Nat.mod_lt 63 (show 0 < c by omega)
  rw [Nat.mul_comm] at e
  omega
/-- one step of the walk over all that begins -/
theorem eoBd {pg zn : Nat} {ow : Nat → Int} {ln kd cl : Nat → Nat} (h : Tiled pg zn ow ln kd cl) {p : Nat} (hb : Bd pg ow ln kd cl p) (hp : p < 64 * pg) : p < eo ow ln p ∧ eo ow ln p ≤ 64 * pg ∧ Bd pg ow ln kd cl (eo ow ln p) ∧ ∀ i, p < i → i < eo ow ln p → ln i = 0 ∧ ow (i / 64) = ow (p / 64) := by
  obtain ⟨hZ, hT, hS, hB, hR⟩ := id h
  have hk : p / 64 < pg := by omega
  rcases hb with hb | ⟨-, hb⟩
  · omega
  rcases hb with ⟨ho, hm⟩ | ⟨ho, hb⟩
  · -- no zone's
    have he : eo ow ln p = 64 * (p / 64 + 1) := by unfold eo; rw [if_pos ho]; omega
    rw [he]
    refine ⟨by omega, by omega, pageBd h (by omega) (fun hlt => ?_), fun i h1 h2 => ?_⟩
    · rw [show p / 64 + 1 - 1 = p / 64 by omega]
      by_cases e : ow (p / 64) = ow (p / 64 + 1)
      · right; right; left; omega
      · right; left; exact e
    · have hi : i / 64 = p / 64 := by omega
      rw [hi]
      refine ⟨?_, rfl⟩
      rcases Nat.eq_zero_or_pos (ln i) with q | q
      · exact q
      · have := (hT i (by omega) q).1
        rw [hi] at this
        omega
  · by_cases hl : 0 < ln p
    · -- a piece or a slot
      have he : eo ow ln p = p + ln p := by unfold eo; rw [if_neg (by omega), if_pos hl]
      rw [he]
      obtain ⟨t1, t2, t3⟩ := hT p hp hl
      refine ⟨by omega, t2, ?_, t3⟩
      by_cases k0 : kz kd (ow (p / 64)) = 0
      · -- a slot
        have hz := (hZ.2.2.1 _ hk)
        have hzn : (ow (p / 64)).toNat < zn := by omega
        obtain ⟨-, hc⟩ := hZ.2.2.2 _ hzn
        obtain ⟨hc1, hc2⟩ := hc k0
        have hs := hS _ hk ho k0 (p % 64) (by omega)
        rw [show 64 * (p / 64) + p % 64 = p by omega] at hs
        by_cases hcond : 1 ≤ p % 64 ∧ (p % 64 - 1) % cl (ow (p / 64)).toNat = 0 ∧ p % 64 + cl (ow (p / 64)).toNat ≤ 64
        · rw [if_pos hcond] at hs
          rw [hs]
          generalize hcc : cl (ow (p / 64)).toNat = c at hcond hs hc1 hc2
          rcases slot_next hc1 hc2 hcond.1 hcond.2.1 hcond.2.2 with q | q
          · have hd : (p + c) / 64 = p / 64 := by omega
            refine Or.inr ⟨by omega, Or.inr ?_⟩
            rw [hd]
            refine ⟨ho, Or.inl ?_⟩
            have hs2 := hS _ hk ho k0 (p % 64 + c) (by omega)
            rw [show 64 * (p / 64) + (p % 64 + c) = p + c by omega, hcc, if_pos q] at hs2
            omega
          · rcases Nat.lt_or_ge (wst c) 64 with w | w
            · have hd : (p + c) / 64 = p / 64 := by omega
              refine Or.inr ⟨by omega, Or.inr ?_⟩
              rw [hd]
              refine ⟨ho, Or.inr ⟨k0, Or.inr ?_⟩⟩
              rw [hcc]
              omega
            · have := wst_le hc1
              have e64 : p + c = 64 * (p / 64 + 1) := by omega
              rw [e64]
              refine pageBd h (by omega) (fun hlt => ?_)
              rw [show p / 64 + 1 - 1 = p / 64 by omega]
              by_cases e : ow (p / 64) = ow (p / 64 + 1)
              · right; right; right; rw [← e]; omega
              · right; left; exact e
        · rw [if_neg hcond] at hs
          omega
      · by_cases k1 : kz kd (ow (p / 64)) = 1
        · -- of a BUDDY
          obtain ⟨-, hb2⟩ := hB _ hk ho k1
          obtain ⟨-, -, b3, b4⟩ := hb2 (p % 64) (by omega) (by rw [show 64 * (p / 64) + p % 64 = p by omega]; exact hl)
          rw [show 64 * (p / 64) + p % 64 = p by omega] at b3 b4
          rcases Nat.lt_or_ge (p % 64 + ln p) 64 with q | q
          · have hd : (p + ln p) / 64 = p / 64 := by omega
            refine Or.inr ⟨by omega, Or.inr ?_⟩
            rw [hd]
            exact ⟨ho, Or.inl (b4 q)⟩
          · have e64 : p + ln p = 64 * (p / 64 + 1) := by omega
            rw [e64]
            refine pageBd h (by omega) (fun hlt => ?_)
            rw [show p / 64 + 1 - 1 = p / 64 by omega]
            by_cases e : ow (p / 64) = ow (p / 64 + 1)
            · right; right; right; rw [← e]; omega
            · right; left; exact e
        · -- of a row
          rcases hR.2 p hp hl (by omega) with ⟨r1, r2, r3⟩ | ⟨r1, r2⟩
          · refine Or.inr ⟨r1, Or.inr ?_⟩
            rw [r2]
            exact ⟨ho, Or.inl r3⟩
          · have e64 : p + ln p = 64 * ((p + ln p) / 64) := by omega
            rw [e64]
            refine pageBd h (by omega) (fun hlt => ?_)
            right; left
            have hlast := t3 (p + ln p - 1)
            have hz2 : ow ((p + ln p) / 64 - 1) = ow (p / 64) := by
              rw [show (p + ln p) / 64 - 1 = (p + ln p - 1) / 64 by omega]
              rcases Nat.lt_or_ge p (p + ln p - 1) with q | q
              · exact (hlast q (by omega)).2
              · rw [show p + ln p - 1 = p by omega]
            rw [hz2]
            exact fun e => r2 (by omega) e.symm
    · -- a SLAB's head or waste
      obtain ⟨k0, hm⟩ : kz kd (ow (p / 64)) = 0 ∧ (p % 64 = 0 ∨ p % 64 = wst (cl (ow (p / 64)).toNat)) := by
        rcases hb with q | q
        · exact absurd q hl
        · exact q
      have hz := (hZ.2.2.1 _ hk)
      have hzn : (ow (p / 64)).toNat < zn := by omega
      obtain ⟨-, hc⟩ := hZ.2.2.2 _ hzn
      obtain ⟨hc1, hc2⟩ := hc k0
      by_cases hm0 : p % 64 = 0
      · have he : eo ow ln p = p + 1 := by unfold eo; rw [if_neg (by omega), if_neg hl, if_pos hm0]
        rw [he]
        refine ⟨by omega, by omega, ?_, fun i h1 h2 => by omega⟩
        have hd : (p + 1) / 64 = p / 64 := by omega
        refine Or.inr ⟨by omega, Or.inr ?_⟩
        rw [hd]
        refine ⟨ho, Or.inl ?_⟩
        have hs := hS _ hk ho k0 1 (by omega)
        rw [show 64 * (p / 64) + 1 = p + 1 by omega, if_pos ⟨by omega, by simp, by omega⟩] at hs
        omega
      · have hw : p % 64 = wst (cl (ow (p / 64)).toNat) := by omega
        have he : eo ow ln p = 64 * (p / 64 + 1) := by unfold eo; rw [if_neg (by omega), if_neg hl, if_neg hm0]; omega
        rw [he]
        refine ⟨by omega, by omega, pageBd h (by omega) (fun hlt => ?_), fun i h1 h2 => ?_⟩
        · rw [show p / 64 + 1 - 1 = p / 64 by omega]
          by_cases e : ow (p / 64) = ow (p / 64 + 1)
          · right; right; right; rw [← e]; omega
          · right; left; exact e
        · have hi : i / 64 = p / 64 := by omega
          rw [hi]
          refine ⟨?_, rfl⟩
          have hs := hS _ hk ho k0 (i % 64) (by omega)
          rw [show 64 * (p / 64) + i % 64 = i by omega, if_neg (slot_wst hc1 (by omega))] at hs
          exact hs
theorem Bd_0 {pg zn : Nat} {ow : Nat → Int} {ln kd cl : Nat → Nat} (h : Tiled pg zn ow ln kd cl) : Bd pg ow ln kd cl 0 := pageBd (k := 0) h (Nat.zero_le _) (fun _ => Or.inl rfl)
theorem Bd_ln {pg : Nat} {ow : Nat → Int} {ln kd cl : Nat → Nat} {zn : Nat} (h : Tiled pg zn ow ln kd cl) {p : Nat} (hp : p < 64 * pg) (hl : 0 < ln p) : Bd pg ow ln kd cl p := Or.inr ⟨hp, Or.inr ⟨(h.2.1 p hp hl).1, Or.inl hl⟩⟩
