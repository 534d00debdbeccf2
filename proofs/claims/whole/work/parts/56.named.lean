/-! ===== the reference's search; free pages ===== -/
def pw (n : Nat) : Nat := if n ≤ 1 then 1 else if n ≤ 2 then 2 else if n ≤ 4 then 4 else if n ≤ 8 then 8 else if n ≤ 16 then 16 else if n ≤ 32 then 32 else 64
theorem pw_cases (n : Nat) : (n ≤ 1 ∧ pw n = 1) ∨ (1 < n ∧ n ≤ 2 ∧ pw n = 2) ∨ (2 < n ∧ n ≤ 4 ∧ pw n = 4) ∨ (4 < n ∧ n ≤ 8 ∧ pw n = 8) ∨ (8 < n ∧ n ≤ 16 ∧ pw n = 16) ∨ (16 < n ∧ n ≤ 32 ∧ pw n = 32) ∨ (32 < n ∧ pw n = 64) := by
  unfold pw
  repeat' split
  all_goals omega
/-- how long a piece must be for a block of size n -/
def due (k n : Nat) : Nat := if k = 0 then 0 else if k = 1 then pw n else n + (if k = 5 then 3 else 1)
theorem m_power {τ : SS} {n : Nat} (hn : n ≤ 64) {Q : Int32 → Prop} (k : Q (nI (pw n))) : wX7_power (nI n) τ Q := by
  unfold wX7_power wX7_power_b2
  refine lfp_inv (fun t => ∃ m : Nat, (m = 1 ∨ m = 2 ∨ m = 4 ∨ m = 8 ∨ m = 16 ∨ m = 32 ∨ m = 64) ∧ (m = 1 ∨ m < 2 * n) ∧ t = nI m) (fun t => 64 - t.toNatClampNeg) ⟨1, Or.inl rfl, Or.inl rfl, rfl⟩ ?_
  rintro t X ⟨m, hm, hm2, rfl⟩ hX
  rw [nI_leI (by omega) (by omega)]
  refine ⟨fun c => ?_, fun c => ?_⟩
  · have : pw n = m := by
      have := pw_cases n
      omega
    rw [← this]
    exact k
  · rw [show nI m * 2 = nI (m * 2) from pk_mul m 2]
    refine hX _ ⟨m * 2, by omega, by omega, rfl⟩ ?_
    rw [nI_clamp (by omega), nI_clamp (by omega)]
    omega
section NAMED
variable {pg zn : Nat} {ow : Nat → Int} {ln kd cl : Nat → Nat} {hd : Nat → Int} {th : Nat → Bool} {sz zo pl : Nat → Nat} {bw : Nat → Int64} {σ τ : SS} {X : Int32 × Int32 → Prop} {Q : Int32 → Prop}
theorem m_n141_1 {x1 x3 x4 x5 : Int32} (k : X (x5, x5 + 1)) : wX7_named_b141 X x1 x3 x4 x5 1 τ Q := by
  unfold wX7_named_b141 wX7_named_b179 wX7_named_b190 wX7_named_b191
  exact ⟨fun _ => ⟨fun w => absurd w (by decide), fun _ => k⟩, fun w => absurd w (by decide)⟩
theorem m_n141_0 (h : Tiled pg zn ow ln kd cl) (mg : MG pg ow ln hd τ) (mz : MZ zn kd cl bw τ) {z b p : Nat} {x4 : Int32} (hz : z < zn) (hb : b < 64 * pg) (hp : p < 64 * pg) (hlb : ln b < 100000) (hlp : ln p < 100000) (k1 : kd z = 2 ∧ ln b < ln p → X (nI p, nI p + 1)) (k0 : ¬ (kd z = 2 ∧ ln b < ln p) → X (nI b, nI p + 1)) : wX7_named_b141 X (nI z) (nI b) x4 (nI p) 0 τ Q := by
  have hp40 := h.1.1
  have hz8 := h.1.2.1
  have hk5 := (h.1.2.2.2 z hz).1
  unfold wX7_named_b141 wX7_named_b179 wX7_named_b177 wX7_named_b179 wX7_named_b190 wX7_named_b191
  rw [nI_clamp (show z < 2 ^ 31 by omega), nI_clamp (show p < 2 ^ 31 by omega), nI_clamp (show b < 2 ^ 31 by omega), (mz.2 z hz).1, (mg.2.2 p hp).1, (mg.2.2 b hb).1, nI_leI (by omega) (by omega)]
  have k2 : nI (kd z) = 2 ↔ kd z = 2 := nI_eq (b := 2) (by omega) (by omega)
  rw [k2]
  refine ⟨fun w => absurd rfl w, fun _ => ⟨vp_in_nI (by omega) (by omega), fun c => ⟨fun _ => k0 (fun w => c w.1), fun w => absurd rfl w⟩, fun c => ⟨vp_in_nI (by omega) (by omega), vp_in_nI (by omega) (by omega), fun c2 => ⟨fun _ => k0 (fun w => by omega), fun w => absurd rfl w⟩, fun c2 => ⟨fun w => absurd w (by decide), fun _ => k1 ⟨c, by omega⟩⟩⟩⟩⟩
theorem m_n91_0 (h : Tiled pg zn ow ln kd cl) (mg : MG pg ow ln hd τ) (mz : MZ zn kd cl bw τ) {z b p : Nat} {x4 : Int32} (hz : z < zn) (hb : b < 64 * pg) (hp : p < 64 * pg) (hlb : ln b < 100000) (hlp : ln p < 100000) (k1 : (kd z = 2 ∧ ln b < ln p) ∨ ((kd z = 1 ∨ kd z = 3) ∧ ln p < ln b) → X (nI p, nI p + 1)) (k0 : ¬ ((kd z = 2 ∧ ln b < ln p) ∨ ((kd z = 1 ∨ kd z = 3) ∧ ln p < ln b)) → X (nI b, nI p + 1)) : wX7_named_b91 X (nI z) (nI b) x4 (nI p) 0 τ Q := by
  have hp40 := h.1.1
  have hz8 := h.1.2.1
  have hk5 := (h.1.2.2.2 z hz).1
  have hvz : vp_in (nI z) 8 := vp_in_nI (by omega) (by omega)
  have q1 : nI (kd z) = 1 ↔ kd z = 1 := nI_eq (b := 1) (by omega) (by omega)
  have q3 : nI (kd z) = 3 ↔ kd z = 3 := nI_eq (b := 3) (by omega) (by omega)
  have mid : (kd z = 1 ∨ kd z = 3) → wX7_named_b118 X (nI z) (nI b) x4 (nI p) τ Q := by
    intro hk
    unfold wX7_named_b118 wX7_named_b139
    rw [nI_clamp (show p < 2 ^ 31 by omega), nI_clamp (show b < 2 ^ 31 by omega), (mg.2.2 p hp).1, (mg.2.2 b hb).1, nI_leI (by omega) (by omega)]
    exact ⟨vp_in_nI (by omega) (by omega), vp_in_nI (by omega) (by omega), fun c => m_n141_0 h mg mz hz hb hp hlb hlp (fun w => by omega) (fun _ => k0 (by omega)), fun c => m_n141_1 (k1 (Or.inr ⟨hk, by omega⟩))⟩
  unfold wX7_named_b91
  rw [nI_clamp (show z < 2 ^ 31 by omega), (mz.2 z hz).1, q1, q3]
  exact ⟨fun w => absurd rfl w, fun _ => ⟨hvz, fun c => mid (Or.inl c), fun c => ⟨hvz, fun c2 => m_n141_0 h mg mz hz hb hp hlb hlp (fun w => k1 (Or.inl w)) (fun w => k0 (by omega)), fun c2 => mid (Or.inr c2)⟩⟩⟩
theorem m_named (h : Tiled pg zn ow ln kd cl) (hK : OkK pg zn ow ln hd th zo pl) (mg : MG pg ow ln hd τ) (mz : MZ zn kd cl bw τ) {z n : Nat} (hz : z < zn) (hn : n ≤ 2000) (hn1 : kd z = 1 → n ≤ 64) (k : Q (iI (bst (kd z) (fr ow ln hd z) (due (kd z) n) (64 * pg)))) : wX7_named (nI z) (nI n) τ Q := by
  have hp40 := h.1.1
  have hz8 := h.1.2.1
  have hk5 := (h.1.2.2.2 z hz).1
  have hvz : vp_in (nI z) 8 := vp_in_nI (by omega) (by omega)
  have q0 : nI (kd z) = 0 ↔ kd z = 0 := nI_eq (b := 0) (by omega) (by omega)
  have q1 : nI (kd z) = 1 ↔ kd z = 1 := nI_eq (b := 1) (by omega) (by omega)
  have q5 : nI (kd z) = 5 ↔ kd z = 5 := nI_eq (b := 5) (by omega) (by omega)
  have loop : ∀ d, d < 100000 → due (kd z) n = d → wX7_named_b40 (nI z) (-1) (nI d) τ Q := by
    intro d hd2 hde
    rw [hde] at k
    unfold wX7_named_b40 wX7_named_b45 wX7_named_b191
    rw [mg.1, show (64 : Int32) = nI 64 from rfl, pk_mul]
    refine lfp_inv (fun t => ∃ p : Nat, p ≤ 64 * pg ∧ t = (iI (bst (kd z) (fr ow ln hd z) d p), nI p)) (fun t => 64 * pg - t.2.toNatClampNeg) ⟨0, by omega, rfl⟩ ?_
    rintro t X ⟨p, hpp, rfl⟩ hX
    have hbr := bst_rng (kd z) (fr ow ln hd z) d p
    refine ⟨fun c => ?_, fun c => ?_⟩
    · have : p = 64 * pg := by
        rcases Nat.lt_or_ge p (64 * pg) with w | w
        · exact absurd c (nI_ge w (by omega))
        · omega
      subst this
      exact k
    · have hlt : p < 64 * pg := by
        rcases Nat.lt_or_ge p (64 * pg) with w | w
        · exact w
        · exact absurd (nI_le w (by omega)) c
      have hlb : ∀ i, i < 64 * pg → ln i < 100000 := by
        intro i hi
        rcases Nat.eq_zero_or_pos (ln i) with w | w
        · omega
        · have := (h.2.1 i hi w).2.1; omega
      have hm : 64 * pg - (nI p + 1).toNatClampNeg < 64 * pg - (nI p).toNatClampNeg := by
        rw [nI_1, nI_clamp (by omega), nI_clamp (by omega)]
        omega
      have stay : ¬ ((0 < fr ow ln hd z p ∧ d ≤ fr ow ln hd z p) ∧ (bst (kd z) (fr ow ln hd z) d p < 0 ∨ (kd z = 2 ∧ fr ow ln hd z (bst (kd z) (fr ow ln hd z) d p).toNat < fr ow ln hd z p) ∨ ((kd z = 1 ∨ kd z = 3) ∧ fr ow ln hd z p < fr ow ln hd z (bst (kd z) (fr ow ln hd z) d p).toNat))) → X (iI (bst (kd z) (fr ow ln hd z) d p), nI p + 1) := fun hno => hX _ ⟨p + 1, by omega, by rw [bst_step, if_neg hno, nI_1]⟩ hm
      have take : ((0 < fr ow ln hd z p ∧ d ≤ fr ow ln hd z p) ∧ (bst (kd z) (fr ow ln hd z) d p < 0 ∨ (kd z = 2 ∧ fr ow ln hd z (bst (kd z) (fr ow ln hd z) d p).toNat < fr ow ln hd z p) ∨ ((kd z = 1 ∨ kd z = 3) ∧ fr ow ln hd z p < fr ow ln hd z (bst (kd z) (fr ow ln hd z) d p).toNat))) → X (nI p, nI p + 1) := fun hy => hX _ ⟨p + 1, by omega, by rw [bst_step, if_pos hy, nI_1, iI_nat]⟩ hm
      refine m_isFreeM h hK mg (by omega) (by omega) (fun c2 => ⟨fun _ => stay (fun w => ?_), fun w => absurd rfl w⟩) (fun _ c2 c3 c4 => ⟨fun w => absurd w (by decide), fun _ => ⟨vp_in_nI (by omega) (by omega), ?_⟩⟩)
      · obtain ⟨f1, f2, f3, f4⟩ := fr_pos w.1.1
        exact c2 ⟨hlt, f1, f4, f2⟩
      · have hfr : fr ow ln hd z p = ln p := by unfold fr; rw [if_pos ⟨c2, c4⟩]
        have hlp := hlb p hlt
        rw [show ((iI (bst (kd z) (fr ow ln hd z) d p), nI p) : Int32 × Int32).2 = nI p from rfl, show ((iI (bst (kd z) (fr ow ln hd z) d p), nI p) : Int32 × Int32).1 = iI (bst (kd z) (fr ow ln hd z) d p) from rfl, nI_clamp (by omega), (mg.2.2 p hlt).1, nI_leI (by omega) (by omega)]
        refine ⟨fun c5 => ?_, fun c5 => stay (fun w => by omega)⟩
        rw [show (0 : Int32) ≤ iI (bst (kd z) (fr ow ln hd z) d p) ↔ 0 ≤ bst (kd z) (fr ow ln hd z) d p from by rw [l_0]; exact iI_le (by omega) (by omega) (by omega) (by omega)]
        refine ⟨fun c6 => ?_, fun c6 => ?_⟩
        · obtain ⟨s1, s2⟩ := bst_some c6
          obtain ⟨f1, f2, f3, f4⟩ := fr_pos s1
          obtain ⟨b, hb⟩ := Int.eq_ofNat_of_zero_le c6
          rw [hb] at stay take f3 hbr ⊢
          rw [Int.toNat_natCast] at stay take f3
          rw [iI_nat] at stay ⊢
          refine m_n91_0 h mg mz hz (by omega) hlt (hlb b (by omega)) hlp (fun w => take ⟨⟨by omega, by omega⟩, Or.inr ?_⟩) (fun w => stay (fun v => w ?_))
          · rw [hfr, f3]; exact w
          · rcases v.2 with v | v
            · omega
            · rw [hfr, f3] at v; exact v
        · unfold wX7_named_b91
          exact ⟨fun _ => m_n141_1 (take ⟨⟨by omega, by omega⟩, Or.inl (by omega)⟩), fun w => absurd w (by decide)⟩
  unfold wX7_named wX7_need
  rw [nI_clamp (show z < 2 ^ 31 by omega), (mz.2 z hz).1, q0, q1, q5]
  unfold due at loop
  have hpw := pw_cases n
  refine ⟨hvz, fun c => ⟨hvz, fun c1 => ⟨hvz, fun c5 => ?_, fun c5 => ?_⟩, fun c1 => m_power (hn1 c1) (loop (pw n) (by omega) (by rw [if_neg c, if_pos c1]))⟩, fun c => loop 0 (by omega) (by rw [if_pos c])⟩
  · show wX7_named_b40 (nI z) (-1) (nI n + 1) τ Q
    rw [nI_1]
    exact loop (n + 1) (by omega) (by rw [if_neg c, if_neg c1, if_neg c5])
  · show wX7_named_b40 (nI z) (-1) (nI n + 2 + 1) τ Q
    rw [show nI n + 2 = nI (n + 2) from nI_add n 2, nI_1]
    exact loop (n + 2 + 1) (by omega) (by rw [if_neg c, if_neg c1, if_pos c5])
end NAMED
/-- pages a .. a + n - 1 are free -/
def FP (ow : Nat → Int) (pg n a : Nat) : Prop := a + n ≤ pg ∧ ∀ i, a ≤ i → i < a + n → ow i = -1
def IsFP (ow : Nat → Int) (pg n : Nat) (r : Int) : Prop := (r = -1 ∧ ∀ a, ¬ FP ow pg n a) ∨ ∃ a : Nat, r = a ∧ FP ow pg n a ∧ ∀ b, b < a → ¬ FP ow pg n b
theorem IsFP.uni {ow : Nat → Int} {pg n : Nat} {r r' : Int} (h : IsFP ow pg n r) (h' : IsFP ow pg n r') : r = r' := by
  rcases h with ⟨h1, h2⟩ | ⟨a, h1, h2, h3⟩
  · rcases h' with ⟨g1, g2⟩ | ⟨b, g1, g2, g3⟩
    · rw [h1, g1]
    · exact absurd g2 (h2 b)
  · rcases h' with ⟨g1, g2⟩ | ⟨b, g1, g2, g3⟩
    · exact absurd h2 (g2 a)
    · rcases Nat.lt_trichotomy a b with w | w | w
      · exact absurd h2 (g3 a w)
      · rw [h1, g1, w]
      · exact absurd g2 (h3 b w)
section FREE
variable {pg : Nat} {ow : Nat → Int} {ln : Nat → Nat} {hd : Nat → Int} {σ τ : SS} {Q : Int32 → Prop}
theorem x_freeRun (hp : pg ≤ 40) (ho : ∀ k, k < pg → R32 (ow k)) (xg : XG pg ow ln hd σ) {n : Nat} (hn : 0 < n) (hn2 : n < 100000) (k : ∀ r, IsFP ow pg n r → -1 ≤ r → r < 41 → Q (iI r)) : wX3_freeRun (nI n) σ Q := by
  unfold wX3_freeRun wX3_freeRun_b4 wX3_freeRun_b29
  rw [xg.1]
  refine lfp_inv (fun t => ∃ i run : Nat, i ≤ pg ∧ run ≤ i ∧ run < n ∧ (∀ x, i - run ≤ x → x < i → ow x = -1) ∧ (run < i → ¬ ow (i - run - 1) = -1) ∧ (∀ a, ¬ FP ow i n a) ∧ t = (nI run, nI i)) (fun t => pg - t.2.toNatClampNeg) ⟨0, 0, by omega, by omega, hn, fun x _ w => by omega, fun w => by omega, fun a w => by have := w.1; omega, rfl⟩ ?_
  rintro t X ⟨i, run, hi, hr, hrn, h1, h2, h3, rfl⟩ hX
  refine ⟨fun c => ?_, fun c => ?_⟩
  · have : i = pg := by
      rcases Nat.lt_or_ge i pg with q | q
      · exact absurd c (nI_ge q (by omega))
      · omega
    subst this
    exact k (-1) (Or.inl ⟨rfl, h3⟩) (by omega) (by omega)
  · have hlt : i < pg := by
      rcases Nat.lt_or_ge i pg with q | q
      · exact q
      · exact absurd (nI_le q (by omega)) c
    have hro := ho i hlt
    unfold R32 at hro
    have hm : pg - (nI (i + 1)).toNatClampNeg < pg - (nI i).toNatClampNeg := by
      rw [nI_clamp (by omega), nI_clamp (by omega)]; omega
    refine ⟨vp_in_nI (by omega) (by omega), ?_⟩
    rw [show ((nI run, nI i) : Int32 × Int32).2 = nI i from rfl, show ((nI run, nI i) : Int32 × Int32).1 = nI run from rfl, nI_clamp (by omega), xg.2.1 i hlt, nI_1, nI_1]
    refine ⟨fun c2 => ⟨fun c3 => hX _ ⟨i + 1, 0, by omega, by omega, hn, fun x w1 w2 => by omega, fun _ => ?_, fun a w => ?_, rfl⟩ hm, fun c3 => ?_⟩, fun c2 => ⟨fun c3 => hX _ ⟨i + 1, run + 1, by omega, by omega, ?_, fun x w1 w2 => ?_, fun w => ?_, fun a w => ?_, rfl⟩ hm, fun c3 => ?_⟩⟩
    · rw [show i + 1 - 0 - 1 = i by omega]
      exact fun w => c2 (by rw [w]; rfl)
    · by_cases u : a + n ≤ i
      · exact h3 a ⟨u, w.2⟩
      · have := w.2 i (by have := w.1; omega) (by omega)
        exact c2 (by rw [this]; rfl)
    · have : (0 : Nat) = n := (nI_eq (a := 0) (by omega) (by omega)).mp c3
      omega
    · rcases Nat.lt_or_ge (run + 1) n with u | u
      · exact u
      · exact absurd (by rw [show run + 1 = n by omega]) c3
    · by_cases u : x = i
      · rw [u]
        rw [l_m1, iI_eq hro.1 hro.2 (by omega) (by omega)] at c2
        exact c2
      · exact h1 x (by omega) (by omega)
    · rw [show i + 1 - (run + 1) - 1 = i - run - 1 by omega]
      exact h2 (by omega)
    · by_cases u : a + n ≤ i
      · exact h3 a ⟨u, w.2⟩
      · have hw := w.1
        have hrn1 : run + 1 < n := by
          rcases Nat.lt_or_ge (run + 1) n with v | v
          · exact v
          · exact absurd (by rw [show run + 1 = n by omega]) c3
        exact h2 (by omega) (w.2 (i - run - 1) (by omega) (by omega))
    · have hrn1 : run + 1 = n := (nI_eq (by omega) (by omega)).mp c3
      rw [nI_iI i, nI_iI n, iI_sub, l_1, iI_add, show ((i : Int) - n + 1) = ((i + 1 - n : Nat) : Int) by omega]
      have oi : ow i = -1 := by
        rw [l_m1, iI_eq hro.1 hro.2 (by omega) (by omega)] at c2
        exact c2
      refine k _ (Or.inr ⟨i + 1 - n, rfl, ⟨by omega, fun x w1 w2 => ?_⟩, fun b hb w => ?_⟩) (by omega) (by omega)
      · by_cases u : x = i
        · rw [u]; exact oi
        · exact h1 x (by omega) (by omega)
      · exact h3 b ⟨by omega, w.2⟩
theorem m_freePages (hp : pg ≤ 40) (ho : ∀ k, k < pg → R32 (ow k)) (mg : MG pg ow ln hd τ) {n : Nat} (hn : 0 < n) (hn2 : n < 100000) (k : ∀ r, IsFP ow pg n r → -1 ≤ r → r < 41 → Q (iI r)) : wX7_freePages (nI n) τ Q := by
  unfold wX7_freePages wX7_freePages_b2 wX7_freePages_b17 wX7_freePages_b44 wX7_freePages_b45
  rw [mg.1]
  refine lfp_inv (fun t => ∃ a : Nat, (∀ b, b < a → ¬ FP ow pg n b) ∧ a ≤ pg + 1 ∧ t = nI a) (fun t => pg + 1 - t.toNatClampNeg) ⟨0, fun b w => by omega, by omega, rfl⟩ ?_
  rintro t X ⟨a, h1, ha, rfl⟩ hX
  rw [nI_add, nI_ltI (by omega) (by omega)]
  refine ⟨fun c => k (-1) (Or.inl ⟨rfl, fun b w => ?_⟩) (by omega) (by omega), fun c => ?_⟩
  · rcases Nat.lt_or_ge b a with u | u
    · exact h1 b u w
    · have := w.1; omega
  · refine lfp_inv (fun t => ∃ i : Nat, a ≤ i ∧ i ≤ a + n ∧ t.2 = nI i ∧ ((t.1 = 1 ∧ ∀ x, a ≤ x → x < i → ow x = -1) ∨ (t.1 = 0 ∧ ¬ FP ow pg n a))) (fun t => a + n - t.2.toNatClampNeg) ⟨a, by omega, by omega, rfl, Or.inl ⟨rfl, fun x w1 w2 => by omega⟩⟩ ?_
    rintro ⟨u1, u2⟩ Y ⟨i, i1, i2, e2, e1'⟩ hY
    have e2' : u2 = nI i := e2
    subst e2'
    have e1 : (u1 = 1 ∧ ∀ x, a ≤ x → x < i → ow x = -1) ∨ (u1 = 0 ∧ ¬ FP ow pg n a) := e1'
    have hm : i < a + n → a + n - (nI (i + 1)).toNatClampNeg < a + n - (nI i).toNatClampNeg := by
      intro _
      rw [nI_clamp (by omega), nI_clamp (by omega)]; omega
    rw [show ((u1, nI i) : Int32 × Int32).2 = nI i from rfl, show ((u1, nI i) : Int32 × Int32).1 = u1 from rfl, nI_1, nI_1]
    rw [nI_leI (by omega) (by omega)]
    refine ⟨fun c2 => ⟨fun c3 => ?_, fun c3 => ?_⟩, fun c2 => ⟨fun c3 => ?_, fun c3 => ⟨vp_in_nI (by omega) (by omega), ?_⟩⟩⟩
    · refine hX _ ⟨a + 1, fun b hb => ?_, by omega, rfl⟩ ?_
      · by_cases u : b = a
        · rcases e1 with ⟨w, -⟩ | ⟨-, w⟩
          · rw [w] at c3; exact absurd c3 (by decide)
          · rw [u]; exact w
        · exact h1 b (by omega)
      · rw [nI_clamp (by omega), nI_clamp (by omega)]; omega
    · rcases e1 with ⟨-, w⟩ | ⟨w, -⟩
      · rw [← iI_nat]
        exact k a (Or.inr ⟨a, rfl, ⟨by omega, fun x w1 w2 => w x w1 (by omega)⟩, h1⟩) (by omega) (by omega)
      · exact absurd w c3
    · refine hY _ ⟨i + 1, by omega, by omega, rfl, Or.inr ⟨rfl, ?_⟩⟩ (hm (by omega))
      rcases e1 with ⟨w, -⟩ | ⟨-, w⟩
      · rw [w] at c3; exact absurd c3 (by decide)
      · exact w
    · have hlt : i < pg := by omega
      have hro := ho i hlt
      unfold R32 at hro
      have hall : ∀ x, a ≤ x → x < i → ow x = -1 := by
        rcases e1 with ⟨-, w⟩ | ⟨w, -⟩
        · exact w
        · exact absurd w c3
      rw [nI_clamp (by omega), mg.2.1 i hlt]
      refine ⟨fun c4 => hY _ ⟨i + 1, by omega, by omega, rfl, Or.inr ⟨rfl, fun w => ?_⟩⟩ (hm (by omega)), fun c4 => hY _ ⟨i + 1, by omega, by omega, rfl, Or.inl ⟨rfl, fun x w1 w2 => ?_⟩⟩ (hm (by omega))⟩
      · exact c4 (by rw [w.2 i i1 (by omega)]; rfl)
      · by_cases u : x = i
        · rw [u]
          rw [l_m1, iI_eq hro.1 hro.2 (by omega) (by omega)] at c4
          exact c4
        · exact hall x w1 (by omega)
theorem x_longest (hp : pg ≤ 40) (ho : ∀ k, k < pg → R32 (ow k)) (xg : XG pg ow ln hd σ) (k : ∀ L : Nat, L ≤ pg → (∀ n, 0 < n → ((∃ a, FP ow pg n a) ↔ n ≤ L)) → Q (nI L)) : wX3_longestFreeRun σ Q := by
  unfold wX3_longestFreeRun wX3_longestFreeRun_b6 wX3_longestFreeRun_b31
  rw [xg.1]
  refine lfp_inv (fun t => ∃ i run L : Nat, i ≤ pg ∧ run ≤ i ∧ L ≤ i ∧ (∀ x, i - run ≤ x → x < i → ow x = -1) ∧ (run < i → ¬ ow (i - run - 1) = -1) ∧ (∀ n, 0 < n → ((∃ a, FP ow i n a) ↔ n ≤ L)) ∧ t = (nI L, nI run, nI i)) (fun t => pg - t.2.2.toNatClampNeg) ⟨0, 0, 0, by omega, by omega, by omega, fun x _ w => by omega, fun w => by omega, fun n hn => ⟨fun ⟨a, w⟩ => by have := w.1; omega, fun w => by omega⟩, rfl⟩ ?_
  rintro t X ⟨i, run, L, hi, hr, hL, h1, h2, h3, rfl⟩ hX
  refine ⟨fun c => ?_, fun c => ?_⟩
  · have : i = pg := by
      rcases Nat.lt_or_ge i pg with q | q
      · exact absurd c (nI_ge q (by omega))
      · omega
    subst this
    exact k L hL h3
  · have hlt : i < pg := by
      rcases Nat.lt_or_ge i pg with q | q
      · exact q
      · exact absurd (nI_le q (by omega)) c
    have hro := ho i hlt
    unfold R32 at hro
    have hm : pg - (nI (i + 1)).toNatClampNeg < pg - (nI i).toNatClampNeg := by
      rw [nI_clamp (by omega), nI_clamp (by omega)]; omega
    have hmax : ∀ r : Nat, r ≤ 41 → (if nI L < nI r then nI r else nI L) = nI (max L r) := by
      intro r hr
      rcases Nat.lt_or_ge L r with w | w
      · rw [if_pos (nI_lt w (by omega)), Nat.max_eq_right (by omega)]
      · rw [if_neg (nI_nlt w (by omega)), Nat.max_eq_left w]
    refine ⟨vp_in_nI (by omega) (by omega), ?_⟩
    rw [show ((nI L, nI run, nI i) : Int32 × Int32 × Int32).2.2 = nI i from rfl, show ((nI L, nI run, nI i) : Int32 × Int32 × Int32).2.1 = nI run from rfl, show ((nI L, nI run, nI i) : Int32 × Int32 × Int32).1 = nI L from rfl, nI_clamp (by omega), xg.2.1 i hlt, nI_1, nI_1, hmax (run + 1) (by omega), show (0 : Int32) = nI 0 from rfl, hmax 0 (by omega)]
    refine ⟨fun c2 => hX _ ⟨i + 1, 0, max L 0, by omega, by omega, by omega, fun x w1 w2 => by omega, fun _ => ?_, fun n hn => ?_, rfl⟩ hm, fun c2 => hX _ ⟨i + 1, run + 1, max L (run + 1), by omega, by omega, by omega, fun x w1 w2 => ?_, fun w => ?_, fun n hn => ?_, rfl⟩ hm⟩
    · rw [show i + 1 - 0 - 1 = i by omega]
      exact fun w => c2 (by rw [w]; rfl)
    · rw [Nat.max_eq_left (by omega), ← h3 n hn]
      constructor
      · rintro ⟨a, w⟩
        refine ⟨a, ?_, w.2⟩
        rcases Nat.lt_or_ge i (a + n) with u | u
        · exact absurd (by rw [w.2 i (by have := w.1; omega) u]; rfl) c2
        · exact u
      · rintro ⟨a, w⟩
        exact ⟨a, by have := w.1; omega, w.2⟩
    · by_cases u : x = i
      · rw [u]
        rw [l_m1, iI_eq hro.1 hro.2 (by omega) (by omega)] at c2
        exact c2
      · exact h1 x (by omega) (by omega)
    · rw [show i + 1 - (run + 1) - 1 = i - run - 1 by omega]
      exact h2 (by omega)
    · have oi : ow i = -1 := by
        rw [l_m1, iI_eq hro.1 hro.2 (by omega) (by omega)] at c2
        exact c2
      constructor
      · rintro ⟨a, w⟩
        rcases Nat.lt_or_ge i (a + n) with u | u
        · have hw := w.1
          rcases Nat.lt_or_ge (run + 1) n with v | v
          · exact absurd (w.2 (i - run - 1) (by omega) (by omega)) (h2 (by omega))
          · omega
        · have := (h3 n hn).mp ⟨a, u, w.2⟩
          omega
      · intro w
        rcases Nat.lt_or_ge L n with u | u
        · refine ⟨i + 1 - n, by omega, fun x w1 w2 => ?_⟩
          by_cases v : x = i
          · rw [v]; exact oi
          · exact h1 x (by omega) (by omega)
        · obtain ⟨a, w⟩ := (h3 n hn).mpr u
          exact ⟨a, by have := w.1; omega, w.2⟩
end FREE
