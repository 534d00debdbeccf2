/-! ===== largest ===== -/
/-- the greatest size of a kind -/
def mst (k c : Nat) : Nat := if k = 0 then c else if k = 1 then 64 else 2000
/-- how many pages a block of size n needs -/
def mny (k n : Nat) : Nat := if k ≤ 1 then 1 else (due k n + 63) / 64
/-- there is a piece, or there are pages, for a block of size n -/
def Can (pg : Nat) (ow : Nat → Int) (ln : Nat → Nat) (hd : Nat → Int) (kd : Nat → Nat) (z n : Nat) : Prop := 0 ≤ bst (kd z) (fr ow ln hd z) (due (kd z) n) (64 * pg) ∨ ∃ a, FP ow pg (mny (kd z) n) a
theorem can_bst {pg : Nat} {f : Nat → Nat} {md d : Nat} : 0 ≤ bst md f d (64 * pg) ↔ ∃ p, p < 64 * pg ∧ 0 < f p ∧ d ≤ f p := by
  constructor
  · intro h
    have hr := bst_rng md f d (64 * pg)
    exact ⟨(bst md f d (64 * pg)).toNat, by omega, bst_some h⟩
  · rintro ⟨p, hp, h1, h2⟩
    rcases Int.lt_or_le (bst md f d (64 * pg)) 0 with w | w
    · exact absurd ⟨h1, h2⟩ (bst_none w p hp)
    · exact w
section LARGE
variable {pg zn : Nat} {ow : Nat → Int} {ln kd cl : Nat → Nat} {hd : Nat → Int} {th : Nat → Bool} {sz zo pl : Nat → Nat} {bw : Nat → Int64} {σ τ : SS}
theorem m_most (hz8 : zn ≤ 8) (mz : MZ zn kd cl bw τ) {z : Nat} (hz : z < zn) (hk5 : kd z ≤ 5) {Q : Int32 → Prop} (k : Q (nI (mst (kd z) (cl z)))) : wX7_most (nI z) τ Q := by
  have hvz : vp_in (nI z) 8 := vp_in_nI (by omega) (by omega)
  have q0 : nI (kd z) = 0 ↔ kd z = 0 := nI_eq (b := 0) (by omega) (by omega)
  have q1 : nI (kd z) = 1 ↔ kd z = 1 := nI_eq (b := 1) (by omega) (by omega)
  unfold wX7_most
  rw [nI_clamp (by omega), (mz.2 z hz).1, q0, q1, (mz.2 z hz).2.1]
  unfold mst at k
  refine ⟨hvz, fun c => ⟨hvz, fun c1 => ?_, fun c1 => ?_⟩, fun c => ⟨hvz, ?_⟩⟩
  · rw [if_neg c, if_neg c1] at k; exact k
  · rw [if_neg c, if_pos c1] at k; exact k
  · rw [if_pos c] at k
    rw [(mz.2 z hz).2.2 c, lN_i]
    exact k
theorem m_largest (h : Tiled pg zn ow ln kd cl) (hK : OkK pg zn ow ln hd th zo pl) (mg : MG pg ow ln hd τ) (mz : MZ zn kd cl bw τ) {z : Nat} (hz : z < zn) {Q : Int32 → SS → Prop} (k1 : ∀ n, n ≤ mst (kd z) (cl z) → Can pg ow ln hd kd z n → (∀ m, n < m → m ≤ mst (kd z) (cl z) → ¬ Can pg ow ln hd kd z m) → Q (nI n) τ) (k0 : (∀ m, m ≤ mst (kd z) (cl z) → ¬ Can pg ow ln hd kd z m) → Q (iI (-6)) (ansM τ 6)) : wX7_largest_b20 (nI z) (nI (mst (kd z) (cl z))) τ Q := by
  have hp40 := h.1.1
  have hz8 := h.1.2.1
  obtain ⟨hk5, hc⟩ := h.1.2.2.2 z hz
  have hvz : vp_in (nI z) 8 := vp_in_nI (by omega) (by omega)
  have hM : mst (kd z) (cl z) ≤ 2000 ∧ (kd z = 1 → mst (kd z) (cl z) = 64) := by
    unfold mst
    by_cases c0 : kd z = 0
    · rw [if_pos c0]; have := hc c0; omega
    · rw [if_neg c0]
      by_cases c1 : kd z = 1
      · rw [if_pos c1]; omega
      · rw [if_neg c1]; omega
  generalize mst (kd z) (cl z) = M at hM k1 k0
  have q5 : nI (kd z) = 5 ↔ kd z = 5 := nI_eq (b := 5) (by omega) (by omega)
  unfold wX7_largest_b20 wX7_largest_b54
  rw [← iI_nat M]
  refine lfp_inv (fun t => ∃ n : Int, -1 ≤ n ∧ n ≤ M ∧ (∀ m : Nat, n < m → m ≤ M → ¬ Can pg ow ln hd kd z m) ∧ t = iI n) (fun t => (t.toInt + 1).toNat) ⟨M, by omega, by omega, fun m w1 w2 => by omega, rfl⟩ ?_
  rintro t X ⟨n, n1, n2, hno, rfl⟩ hX
  rw [l_0]
  refine br_lt (by unfold R32; omega) ⟨fun c => ?_, fun c => ⟨hvz, ?_⟩⟩
  · rw [l_m6]
    exact m_answer (n := 6) (by omega) (by omega) (k0 (fun m hm => hno m (by omega) hm))
  · obtain ⟨n, rfl⟩ := Int.eq_ofNat_of_zero_le (show 0 ≤ n by omega)
    have cont : ¬ Can pg ow ln hd kd z n → X (iI (n : Int) + -1) := by
      intro hn
      rw [l_m1, iI_add]
      refine hX _ ⟨(n : Int) + -1, by omega, by omega, fun m w1 w2 => ?_, rfl⟩ ?_
      · by_cases e : m = n
        · rw [e]; exact hn
        · exact hno m (by omega) w2
      · rw [iI_toInt (by omega) (by omega), iI_toInt (by omega) (by omega)]
        omega
    have body : ∀ q, q = mny (kd z) n → 0 < q → q < 100000 → wX7_named (nI z) (iI (n : Int)) τ (fun r58 => (0 ≤ r58 → Q (iI (n : Int)) τ) ∧ (¬ 0 ≤ r58 → wX7_freePages (nI q) τ (fun r66 => (r66 < 0 → X (iI (n : Int) + -1)) ∧ (¬ r66 < 0 → Q (iI (n : Int)) τ)))) := by
      intro q hq hq0 hq2
      have hbr := bst_rng (kd z) (fr ow ln hd z) (due (kd z) n) (64 * pg)
      have yes : Can pg ow ln hd kd z n → Q (iI (n : Int)) τ := fun w => by rw [iI_nat]; exact k1 n (by omega) w (fun m w1 w2 => hno m (by omega) w2)
      have hnm : iI (n : Int) = nI n := iI_nat n
      rw [hnm] at yes cont ⊢
      refine m_named h hK mg mz hz (by omega) (fun c1 => by have := hM.2 c1; omega) ⟨fun c2 => yes (Or.inl ?_), fun c2 => m_freePages hp40 (owR h) mg hq0 hq2 (fun r hr r1 r2 => ⟨fun c3 => cont ?_, fun c3 => yes (Or.inr ?_)⟩)⟩
      · rw [l_0, iI_le (by omega) (by omega) (by omega) (by omega)] at c2
        exact c2
      · rw [l_0, iI_le (by omega) (by omega) (by omega) (by omega)] at c2
        rw [l_0, iI_lt (by omega) (by omega) (by omega) (by omega)] at c3
        rintro (w | ⟨a, w⟩)
        · exact c2 w
        · rw [← hq] at w
          rcases hr with ⟨-, h2⟩ | ⟨b, h1, -⟩
          · exact h2 a w
          · omega
      · rw [l_0, iI_lt (by omega) (by omega) (by omega) (by omega)] at c3
        rcases hr with ⟨h1, -⟩ | ⟨b, h1, h2, -⟩
        · omega
        · rw [← hq]; exact ⟨b, h2⟩
    rw [nI_clamp (by omega), (mz.2 z hz).1]
    have q1 : (1 : Int32) < nI (kd z) ↔ 1 < kd z := nI_ltI (a := 1) (by omega) (by omega)
    rw [q1]
    unfold wX7_need
    rw [nI_clamp (by omega), (mz.2 z hz).1, q5]
    refine ⟨fun c1 => ⟨hvz, fun c5 => ?_, fun c5 => ?_⟩, fun c1 => body 1 (by unfold mny; rw [if_pos (by omega)]) (by omega) (by omega)⟩
    · show wX7_named (nI z) (iI (n : Int)) τ _
      have e : (iI (n : Int) + 1 + 64 - 1) / 64 = nI ((n + 1 + 63) / 64) := by
        rw [l_1, l_64, iI_add, iI_add, iI_sub, iI_div (by omega) (by omega) (by omega) (by omega), nI_iI]
        congr 1
        omega
      rw [e]
      exact body _ (by unfold mny due; rw [if_neg (by omega), if_neg (by omega), if_neg (by omega), if_neg c5]) (by omega) (by omega)
    · show wX7_named (nI z) (iI (n : Int)) τ _
      have e : (iI (n : Int) + 2 + 1 + 64 - 1) / 64 = nI ((n + 3 + 63) / 64) := by
        rw [l_1, l_2, l_64, iI_add, iI_add, iI_add, iI_sub, iI_div (by omega) (by omega) (by omega) (by omega), nI_iI]
        congr 1
        omega
      rw [e]
      exact body _ (by unfold mny due; rw [if_neg (by omega), if_neg (by omega), if_neg (by omega), if_pos c5]) (by omega) (by omega)
theorem x_aside (xz : XZ zn kd cl bw σ) (hz8 : zn ≤ 8) {z : Nat} (hz : z < zn) (hk5 : kd z ≤ 5) {Q : Int32 → Prop} (k : Q (nI (if kd z = 5 then 3 else 1))) : wX4_aside (nI z) σ Q := by
  unfold wX4_aside
  have q5 : nI (kd z) = 5 ↔ kd z = 5 := nI_eq (b := 5) (by omega) (by omega)
  refine x_kindOf xz hz8 hz ?_
  rw [q5]
  refine ⟨fun c => ?_, fun c => ?_⟩
  · rw [if_neg c] at k; exact k
  · rw [if_pos c] at k; exact k
/-- the greatest of f below p, and of m -/
def Gr (f : Nat → Nat) (m p L : Nat) : Prop := m ≤ L ∧ (∀ i, i < p → f i ≤ L) ∧ (L = m ∨ ∃ i, i < p ∧ f i = L)
theorem Gr.next {f : Nat → Nat} {m p e L : Nat} (h : Gr f m p L) (he : p < e) (hz : ∀ i, p + 1 ≤ i → i < e → f i = 0) : Gr f m e (max L (f p)) := by
  obtain ⟨h1, h2, h3⟩ := h
  refine ⟨by omega, fun i hi => ?_, ?_⟩
  · rcases Nat.lt_trichotomy i p with w | w | w
    · have := h2 i w; omega
    · rw [w]; omega
    · rw [hz i (by omega) hi]; omega
  · rcases Nat.lt_or_ge L (f p) with w | w
    · right; exact ⟨p, he, by omega⟩
    · rw [Nat.max_eq_left w]
      rcases h3 with v | ⟨i, v1, v2⟩
      · exact Or.inl v
      · exact Or.inr ⟨i, by omega, v2⟩
theorem x_gr4 (h : Tiled pg zn ow ln kd cl) (hK : OkK pg zn ow ln hd th zo pl) (xg : XG pg ow ln hd σ) (xz : XZ zn kd cl bw σ) (xb : XB ln th sz zo pl σ) {z m : Nat} (hz : z < zn) (hm : m ≤ 2560) {Q : Int32 → Prop} (k : ∀ L, L ≤ 2560 → Gr (fr ow ln hd z) m (64 * pg) L → Q (iI (max (-1) (min ((L : Int) - (if kd z = 5 then 3 else 1 : Nat)) 2000)))) : wX4_greatest_b13 (nI z) (nI m) 0 σ Q := by
  have hp40 := h.1.1
  have hz8 := h.1.2.1
  have hk5 := (h.1.2.2.2 z hz).1
  unfold wX4_greatest_b13
  refine lfp_inv (fun t => ∃ p L : Nat, p ≤ 64 * pg ∧ Bd pg ow ln kd cl p ∧ L ≤ 2560 ∧ Gr (fr ow ln hd z) m p L ∧ t = (nI L, nI p)) (fun t => 64 * pg - t.2.toNatClampNeg) ⟨0, m, by omega, Bd_0 h, hm, ⟨Nat.le_refl _, fun i w => by omega, Or.inl rfl⟩, rfl⟩ ?_
  rintro t X ⟨p, L, hpp, hb, hL, hG, rfl⟩ hX
  refine x_places xg ⟨fun c => ?_, fun c => ?_⟩
  · have : p = 64 * pg := by
      rcases Nat.lt_or_ge p (64 * pg) with w | w
      · exact absurd c (nI_ge w (by omega))
      · omega
    subst this
    refine x_aside xz hz8 hz hk5 ?_
    have hk := k L hL hG
    have ha3 : (if kd z = 5 then 3 else 1 : Nat) ≤ 3 := by split <;> omega
    generalize (if kd z = 5 then 3 else 1 : Nat) = a at hk ha3
    have ha : nI L - nI a = iI ((L : Int) - a) := by rw [nI_iI, nI_iI, iI_sub]
    have e1 : (if (2000 : Int32) < nI L - nI a then (2000 : Int32) else nI L - nI a) = iI (min ((L : Int) - a) 2000) := by
      rw [ha, l_2000]
      by_cases w : (2000 : Int) < (L : Int) - a
      · rw [if_pos ((iI_lt (by omega) (by omega) (by omega) (by omega)).mpr w), Int.min_eq_right (by omega)]
      · rw [if_neg (fun v => w ((iI_lt (by omega) (by omega) (by omega) (by omega)).mp v)), Int.min_eq_left (by omega)]
    show Q (if (-1 : Int32) < (if (2000 : Int32) < nI L - nI a then (2000 : Int32) else nI L - nI a) then (if (2000 : Int32) < nI L - nI a then (2000 : Int32) else nI L - nI a) else -1)
    rw [e1, l_m1]
    by_cases w : (-1 : Int) < min ((L : Int) - a) 2000
    · rw [if_pos ((iI_lt (by omega) (by omega) (by omega) (by omega)).mpr w)]
      rw [Int.max_eq_right (by omega)] at hk
      exact hk
    · rw [if_neg (fun v => w ((iI_lt (by omega) (by omega) (by omega) (by omega)).mp v))]
      rw [Int.max_eq_left (by omega)] at hk
      exact hk
  · have hlt : p < 64 * pg := by
      rcases Nat.lt_or_ge p (64 * pg) with w | w
      · exact w
      · exact absurd (nI_le w (by omega)) c
    obtain ⟨b1, b2, b3, b4⟩ := eoBd h hb hlt
    have hfl := fr_le (hd := hd) (z := z) h.2.1 hlt
    refine x_freeAt xg h.1 h.2.1 hK hlt (by omega) (x_endOf xg h.1 h.2.1 hK xb hlt ?_)
    have e : (if nI L < nI (fr ow ln hd z p) then nI (fr ow ln hd z p) else nI L) = nI (max L (fr ow ln hd z p)) := by
      rcases Nat.lt_or_ge L (fr ow ln hd z p) with w | w
      · rw [if_pos (nI_lt w (by omega)), Nat.max_eq_right (by omega)]
      · rw [if_neg (nI_nlt w (by omega)), Nat.max_eq_left w]
    rw [show ((nI L, nI p) : Int32 × Int32).1 = nI L from rfl, e, x_max b1 (by omega)]
    refine hX _ ⟨eo ow ln p, max L (fr ow ln hd z p), b2, b3, by omega, hG.next b1 (fun i h1 h2 => fr_gap h hb hlt z i h1 h2), rfl⟩ ?_
    show 64 * pg - (nI (eo ow ln p)).toNatClampNeg < 64 * pg - (nI p).toNatClampNeg
    rw [nI_clamp (by omega), nI_clamp (by omega)]
    omega
theorem x_gr0 (h : Tiled pg zn ow ln kd cl) (hK : OkK pg zn ow ln hd th zo pl) (xg : XG pg ow ln hd σ) (xb : XB ln th sz zo pl σ) {z : Nat} (hz : z < zn) {Q : Int32 → Prop} (k : ∀ L, L ≤ 2560 → Gr (fr ow ln hd z) 0 (64 * pg) L → Q (if L = 0 then iI (-1) else nI L)) : wX0_greatest_b18 (nI z) 0 0 σ Q := by
  have hp40 := h.1.1
  have hz8 := h.1.2.1
  unfold wX0_greatest_b18
  refine lfp_inv (fun t => ∃ p L : Nat, p ≤ 64 * pg ∧ Bd pg ow ln kd cl p ∧ L ≤ 2560 ∧ Gr (fr ow ln hd z) 0 p L ∧ t = (nI L, nI p)) (fun t => 64 * pg - t.2.toNatClampNeg) ⟨0, 0, by omega, Bd_0 h, by omega, ⟨Nat.le_refl _, fun i w => by omega, Or.inl rfl⟩, rfl⟩ ?_
  rintro t X ⟨p, L, hpp, hb, hL, hG, rfl⟩ hX
  refine x_places xg ⟨fun c => ?_, fun c => ?_⟩
  · have : p = 64 * pg := by
      rcases Nat.lt_or_ge p (64 * pg) with w | w
      · exact absurd c (nI_ge w (by omega))
      · omega
    subst this
    have hk := k L hL hG
    rcases Nat.eq_zero_or_pos L with w | w
    · rw [if_pos w] at hk
      exact ⟨fun _ => hk, fun c2 => absurd (show nI L ≤ 0 by rw [w]; decide) c2⟩
    · rw [if_neg (by omega)] at hk
      exact ⟨fun c2 => absurd c2 (nI_nle w (by omega)), fun _ => hk⟩
  · have hlt : p < 64 * pg := by
      rcases Nat.lt_or_ge p (64 * pg) with w | w
      · exact w
      · exact absurd (nI_le w (by omega)) c
    obtain ⟨b1, b2, b3, b4⟩ := eoBd h hb hlt
    have hfl := fr_le (hd := hd) (z := z) h.2.1 hlt
    refine x_freeAt xg h.1 h.2.1 hK hlt (by omega) (x_endOf xg h.1 h.2.1 hK xb hlt ?_)
    have e : (if nI L < nI (fr ow ln hd z p) then nI (fr ow ln hd z p) else nI L) = nI (max L (fr ow ln hd z p)) := by
      rcases Nat.lt_or_ge L (fr ow ln hd z p) with w | w
      · rw [if_pos (nI_lt w (by omega)), Nat.max_eq_right (by omega)]
      · rw [if_neg (nI_nlt w (by omega)), Nat.max_eq_left w]
    rw [show ((nI L, nI p) : Int32 × Int32).1 = nI L from rfl, e, x_max b1 (by omega)]
    refine hX _ ⟨eo ow ln p, max L (fr ow ln hd z p), b2, b3, by omega, hG.next b1 (fun i h1 h2 => fr_gap h hb hlt z i h1 h2), rfl⟩ ?_
    show 64 * pg - (nI (eo ow ln p)).toNatClampNeg < 64 * pg - (nI p).toNatClampNeg
    rw [nI_clamp (by omega), nI_clamp (by omega)]
    omega
end LARGE
theorem s_largest : stp_largest II := by
  intro κ σx σm x1 h
  obtain ⟨a, ha, rfl⟩ := ex_iI x1
  obtain ⟨⟨pg, zn, ow, ln, hd, kd, cl, bw, th, sz, zo, pl, hg⟩, h2, h4⟩ := id h
  obtain ⟨g1, ⟨xg, xz, xb⟩, ⟨mg, mz, mb⟩, hraw⟩ := id hg
  obtain ⟨hT, hK, -⟩ := id g1
  have hp : pg ≤ 40 := g1.1.1.1
  have hzn : zn ≤ 8 := g1.1.1.2.1
  have mk : ∀ (r : Int32) (σ' : SS), (a < 0 ∨ zn ≤ a → r = iI (-1) ∧ II κ σ' (ansM σm 1)) → (∀ z : Nat, a = z → z < zn → ∀ n, n ≤ mst (kd z) (cl z) → Can pg ow ln hd kd z n → (∀ m, n < m → m ≤ mst (kd z) (cl z) → ¬ Can pg ow ln hd kd z m) → r = nI n ∧ II κ σ' σm) → (∀ z : Nat, a = z → z < zn → (∀ m, m ≤ mst (kd z) (cl z) → ¬ Can pg ow ln hd kd z m) → r = iI (-6) ∧ II κ σ' (ansM σm 6)) → wX7_largest (iI a) σm (fun r' τ' => r = r' ∧ II κ σ' τ') := by
    intro r σ' k1 k2 k3
    unfold wX7_largest
    refine m_isZ mz hzn ha (fun q => ⟨fun z => absurd rfl z, fun _ => ?_⟩) (fun z hz hz2 => ⟨fun _ => ?_, fun q => absurd q (by decide)⟩)
    · rw [l_m1]
      exact m_answer (n := 1) (by omega) (by omega) (k1 q)
    · rw [hz, iI_nat]
      exact m_most hzn mz hz2 (hT.1.2.2.2 z hz2).1 (m_largest hT hK mg mz hz2 (k2 z hz hz2) (k3 z hz hz2))
  unfold wX6_largest
  refine x_hasZ xz hzn ha (fun q => ⟨fun z => absurd rfl z, fun _ => ?_⟩) (fun z hz hz2 => ⟨fun _ => ?_, fun q => absurd q (by decide)⟩)
  · rw [l_m1]
    exact x_tell (n := 1) (by omega) (by omega) (mk _ _ (fun _ => ⟨rfl, h.ans 1⟩) (fun z w1 w2 => by omega) (fun z w1 w2 => by omega))
  · obtain ⟨hk5, hc⟩ := hT.1.2.2.2 z hz2
    have e : iI a = nI z := by rw [hz, iI_nat]
    have none : (∀ m, m ≤ mst (kd z) (cl z) → ¬ Can pg ow ln hd kd z m) → ∀ r : Int, r < 0 → -2147483648 ≤ r → (0 ≤ iI r → wX7_largest (iI a) σm (fun r' σm' => iI r = r' ∧ II κ σx σm')) ∧ (¬ 0 ≤ iI r → wX6_tell (-6) σx (fun r34 σ34 => wX7_largest (iI a) σm (fun r' σm' => r34 = r' ∧ II κ σ34 σm'))) := by
      intro hno r hr hr2
      rw [l_0]
      refine br_le (by unfold R32; omega) ⟨fun c => by omega, fun _ => ?_⟩
      rw [l_m6]
      exact x_tell (n := 6) (by omega) (by omega) (mk _ _ (fun w => by omega) (fun z' w1 w2 n n1 n2 => absurd n2 (by rw [show z' = z by omega] at n1 ⊢; exact hno n n1)) (fun z' w1 w2 _ => ⟨rfl, h.ans 6⟩))
    have some : ∀ n : Nat, n ≤ mst (kd z) (cl z) → n < 100000 → Can pg ow ln hd kd z n → (∀ m, n < m → m ≤ mst (kd z) (cl z) → ¬ Can pg ow ln hd kd z m) → (0 ≤ nI n → wX7_largest (iI a) σm (fun r' σm' => nI n = r' ∧ II κ σx σm')) ∧ (¬ 0 ≤ nI n → wX6_tell (-6) σx (fun r34 σ34 => wX7_largest (iI a) σm (fun r' σm' => r34 = r' ∧ II κ σ34 σm'))) := by
      intro n n1 n2 n3 n4
      refine ⟨fun _ => mk _ _ (fun w => by omega) (fun z' w1 w2 m m1 m2 m3 => ⟨?_, h⟩) (fun z' w1 w2 hno => absurd n3 (by rw [show z' = z by omega] at hno; exact hno n n1)), fun c => absurd (nI_pos' (by omega)) c⟩
      have : z' = z := by omega
      subst this
      rcases Nat.lt_trichotomy n m with w | w | w
      · exact absurd m2 (n4 m w m1)
      · rw [w]
      · exact absurd n3 (m3 n w n1)
    rw [e]
    refine x_keeperOf xz hzn hz2 hk5 ?_
    unfold kp
    rw [← e]
    by_cases h0 : kd z = 0
    · rw [if_pos h0, e]
      obtain ⟨hc1, hc2⟩ := hc h0
      have emst : mst (kd z) (cl z) = cl z := by unfold mst; rw [if_pos h0]
      have can : ∀ n, Can pg ow ln hd kd z n ↔ (0 ≤ bst 0 (fr ow ln hd z) 0 (64 * pg) ∨ ∃ b, FP ow pg 1 b) := fun n => by
        unfold Can due mny
        rw [if_pos h0, if_pos (by omega), h0]
      rw [emst] at none some
      rw [e] at none some
      show wX5_greatest (nI z) σx _
      unfold wX5_greatest wX5_greatest_b19
      have hbr := bst_rng 0 (fr ow ln hd z) 0 (64 * pg)
      refine x_lowestFree hT hK xg xb hz2 ⟨fun c => ?_, fun c => ?_⟩
      · rw [l_0, iI_le (by omega) (by omega) (by omega) (by omega)] at c
        exact x_classOf xz hzn hz2 h0 hc1 hc2 (some (cl z) (Nat.le_refl _) (by omega) ((can _).mpr (Or.inl c)) (fun m w1 w2 => by omega))
      · rw [l_0, iI_le (by omega) (by omega) (by omega) (by omega)] at c
        refine x_freeRun (n := 1) hp (owR hT) xg (by omega) (by omega) (fun r hr r1 r2 => ⟨fun c2 => ?_, fun c2 => ?_⟩)
        · rw [l_0, iI_lt (by omega) (by omega) (by omega) (by omega)] at c2
          refine none (fun m _ w => ?_) (-1) (by omega) (by omega)
          rcases (can m).mp w with w | ⟨b, w⟩
          · exact c w
          · rcases hr with ⟨-, q⟩ | ⟨b', q, -⟩
            · exact q b w
            · omega
        · rw [l_0, iI_lt (by omega) (by omega) (by omega) (by omega)] at c2
          refine x_classOf xz hzn hz2 h0 hc1 hc2 (some (cl z) (Nat.le_refl _) (by omega) ((can _).mpr (Or.inr ?_)) (fun m w1 w2 => by omega))
          rcases hr with ⟨q, -⟩ | ⟨b', -, q, -⟩
          · omega
          · exact ⟨b', q⟩
    · rw [if_neg h0]
      by_cases h1 : kd z = 1
      · rw [if_pos h1, e]
        have emst : mst (kd z) (cl z) = 64 := by unfold mst; rw [if_neg h0, if_pos h1]
        have can : ∀ n, Can pg ow ln hd kd z n ↔ ((∃ p, p < 64 * pg ∧ 0 < fr ow ln hd z p ∧ pw n ≤ fr ow ln hd z p) ∨ ∃ b, FP ow pg 1 b) := fun n => by
          unfold Can
          rw [can_bst]
          unfold due mny
          rw [if_neg h0, if_pos h1, if_pos (by omega)]
        rw [emst] at none some
        rw [e] at none some
        show wX0_greatest (nI z) σx _
        unfold wX0_greatest
        refine x_freeRun (n := 1) hp (owR hT) xg (by omega) (by omega) (fun r hr r1 r2 => ⟨fun c2 => ?_, fun c2 => ?_⟩)
        · rw [l_0, iI_lt (by omega) (by omega) (by omega) (by omega)] at c2
          have nofp : ∀ b, ¬ FP ow pg 1 b := by
            rcases hr with ⟨-, q⟩ | ⟨b', q, -⟩
            · exact q
            · omega
          have kzz : kz kd (z : Int) = kd z := by unfold kz; rw [Int.toNat_natCast]
          have fpw : ∀ p, p < 64 * pg → 0 < fr ow ln hd z p → (fr ow ln hd z p = 1 ∨ fr ow ln hd z p = 2 ∨ fr ow ln hd z p = 4 ∨ fr ow ln hd z p = 8 ∨ fr ow ln hd z p = 16 ∨ fr ow ln hd z p = 32 ∨ fr ow ln hd z p = 64) := by
            intro p hp' w
            obtain ⟨q1, q2, q3, q4⟩ := fr_pos w
            rw [q3]
            exact (bud hT.2.2.2.1 hp' q4 (by omega) (by rw [q1, kzz]; exact h1)).1
          refine x_gr0 hT hK xg xb hz2 (fun L hL hG => ?_)
          obtain ⟨-, G2, G3⟩ := hG
          by_cases hL0 : L = 0
          · rw [if_pos hL0]
            refine none (fun m _ w => ?_) (-1) (by omega) (by omega)
            rcases (can m).mp w with ⟨p, w1, w2, w3⟩ | ⟨b, w⟩
            · have := G2 p w1; omega
            · exact nofp b w
          · rw [if_neg hL0]
            obtain ⟨p, p1, p2⟩ : ∃ i, i < 64 * pg ∧ fr ow ln hd z i = L := by
              rcases G3 with w | w
              · exact absurd w hL0
              · exact w
            have hLp := fpw p p1 (by omega)
            rw [p2] at hLp
            refine some L (by omega) (by omega) ((can L).mpr (Or.inl ⟨p, p1, by omega, ?_⟩)) (fun m w1 w2 w => ?_)
            · have := pw_cases L
              omega
            · rcases (can m).mp w with ⟨p', v1, v2, v3⟩ | ⟨b, v⟩
              · have := G2 p' v1
                have := pw_cases m
                omega
              · exact nofp b v
        · rw [l_0, iI_lt (by omega) (by omega) (by omega) (by omega)] at c2
          refine some 64 (Nat.le_refl _) (by omega) ((can 64).mpr (Or.inr ?_)) (fun m w1 w2 => by omega)
          rcases hr with ⟨q, -⟩ | ⟨b', -, q, -⟩
          · omega
          · exact ⟨b', q⟩
      · rw [if_neg h1, e]
        have emst : mst (kd z) (cl z) = 2000 := by unfold mst; rw [if_neg h0, if_neg h1]
        rw [emst] at none some
        rw [e] at none some
        show wX4_greatest (nI z) σx _
        unfold wX4_greatest
        refine x_longest hp (owR hT) xg (fun L0 hL0 hfp => ?_)
        rw [show (64 : Int32) * nI L0 = nI (64 * L0) from pk_mul 64 L0]
        refine x_gr4 hT hK xg xz xb hz2 (by omega) (fun L hL hG => ?_)
        obtain ⟨G1, G2, G3⟩ := hG
        have can : ∀ n, Can pg ow ln hd kd z n ↔ n + (if kd z = 5 then 3 else 1) ≤ L := fun n => by
          have e1 : due (kd z) n = n + (if kd z = 5 then 3 else 1) := by unfold due; rw [if_neg h0, if_neg h1]
          have e2 : mny (kd z) n = (n + (if kd z = 5 then 3 else 1) + 63) / 64 := by unfold mny; rw [if_neg (by omega), e1]
          unfold Can
          rw [can_bst, e1, e2]
          have ha1 : 1 ≤ (if kd z = 5 then 3 else 1) := by split <;> omega
          generalize (if kd z = 5 then 3 else 1) = as at ha1
          rw [hfp _ (by omega)]
          constructor
          · rintro (⟨p, w1, w2, w3⟩ | w)
            · have := G2 p w1; omega
            · omega
          · intro w
            rcases G3 with v | ⟨i, v1, v2⟩
            · right; omega
            · left; exact ⟨i, v1, by omega, by omega⟩
        have ha1 : 1 ≤ (if kd z = 5 then 3 else 1) ∧ (if kd z = 5 then 3 else 1) ≤ 3 := by split <;> omega
        generalize (if kd z = 5 then 3 else 1) = as at can ha1
        rcases Nat.lt_or_ge L as with w | w
        · exact none (fun m _ v => by rw [can m] at v; omega) _ (by omega) (by omega)
        · have em : max (-1) (min ((L : Int) - (as : Nat)) 2000) = ((min (L - as) 2000 : Nat) : Int) := by omega
          rw [em, iI_nat]
          exact some (min (L - as) 2000) (by omega) (by omega) ((can _).mpr (by omega)) (fun m w1 w2 v => by rw [can m] at v; omega)
