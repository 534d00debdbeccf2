/-! ===== the reference's search ===== -/
def whoE (hd : Nat → Int) (e : Nat × Nat × Nat × Nat) : Int := if e.2.2.1 = 3 ∨ e.2.2.1 = 6 then hd e.2.2.2 else -1
def whrE (ow : Nat → Int) (e : Nat × Nat × Nat × Nat) : Int := if ow (e.2.2.2 / 64) < 0 then -1 else ow (e.2.2.2 / 64)
def Gs (i q : Int) (ow hd : Nat → Int) (τ : SS) (L : List (Nat × Nat × Nat × Nat)) : Prop := (sr i q 0 L = none → gI τ 15 = 0 ∧ gI τ 12 = nI L.length) ∧ ∀ r e, sr i q 0 L = some (r, e) → gI τ 15 = 1 ∧ gI τ 12 = nI (r + 1) ∧ gI τ 7 = nI e.1 ∧ gI τ 8 = nI e.2.1 ∧ gI τ 9 = nI e.2.2.1 ∧ gI τ 10 = iI (whoE hd e) ∧ gI τ 11 = iI (whrE ow e)
def AgF (τ τ' : SS) : Prop := AgM τ τ' ∧ AgK τ τ' ∧ gA τ' 10 = gA τ 10 ∧ gL τ' 0 = gL τ 0
def AgE (τ τ' : SS) : Prop := AgF τ τ' ∧ gI τ' 13 = gI τ 13 ∧ gI τ' 14 = gI τ 14
theorem AgE.rf (τ : SS) : AgE τ τ := ⟨⟨AgM.rf τ, AgK.rf τ, rfl, rfl⟩, rfl, rfl⟩
theorem AgM.tr {a b c : SS} (h1 : AgM a b) (h2 : AgM b c) : AgM a c := by
  obtain ⟨⟨p1, p2, p3⟩, p4, p5, p6⟩ := h1
  obtain ⟨⟨q1, q2, q3⟩, q4, q5, q6⟩ := h2
  exact ⟨⟨q1.trans p1, q2.trans p2, q3.trans p3⟩, fun k hk => (q4 k hk).trans (p4 k hk), q5.trans p5, q6.trans p6⟩
theorem AgF.tr {a b c : SS} (h1 : AgF a b) (h2 : AgF b c) : AgF a c := ⟨h1.1.tr h2.1, ⟨h2.2.1.1.trans h1.2.1.1, h2.2.1.2.trans h1.2.1.2⟩, h2.2.2.1.trans h1.2.2.1, h2.2.2.2.trans h1.2.2.2⟩
theorem AgE.tr {a b c : SS} (h1 : AgE a b) (h2 : AgE b c) : AgE a c := ⟨h1.1.tr h2.1, h2.2.1.trans h1.2.1, h2.2.2.trans h1.2.2⟩
section GOM
variable {pg zn : Nat} {ow : Nat → Int} {ln kd cl : Nat → Nat} {hd : Nat → Int} {th : Nat → Bool} {sz zo pl : Nat → Nat} {bw : Nat → Int64} {τ τ' : SS} {i q : Int}
theorem MG.ag (h : MG pg ow ln hd τ) (a : AgM τ τ') : MG pg ow ln hd τ' := by
  obtain ⟨⟨a1, a2, a6⟩, a3, a4, a5⟩ := a
  unfold MG at h ⊢
  rw [a1, a3 0 (by omega), a3 1 (by omega), a3 2 (by omega)]
  exact h
theorem MZ.ag (h : MZ zn kd cl bw τ) (a : AgM τ τ') : MZ zn kd cl bw τ' := by
  obtain ⟨⟨a1, a2, a6⟩, a3, a4, a5⟩ := a
  unfold MZ at h ⊢
  rw [a2, a3 3 (by omega), a5]
  exact h
theorem MB.ag (h : MB th sz zo pl τ) (a : AgM τ τ') : MB th sz zo pl τ' := by
  obtain ⟨⟨a1, a2, a6⟩, a3, a4, a5⟩ := a
  unfold MB at h ⊢
  rw [a6, a3 5 (by omega), a3 6 (by omega), a3 7 (by omega), a3 8 (by omega)]
  exact h
theorem Gs_more {L M : List (Nat × Nat × Nat × Nat)} (G : Gs i q ow hd τ L) (h : ¬ gI τ 15 = 0) : Gs i q ow hd τ (L ++ M) := by
  cases hs : sr i q 0 L with
  | none => exact absurd (G.1 hs).1 h
  | some r =>
    have : sr i q 0 (L ++ M) = some r := by rw [sr_app, hs]; rfl
    refine ⟨fun w => ?_, fun r' e' w => ?_⟩
    · rw [this] at w; exact absurd w (by simp)
    · rw [this] at w; rw [← hs] at w; exact G.2 r' e' w
theorem m_entry (hi : R32 i) (hq : R32 q) {L : List (Nat × Nat × Nat × Nat)} (hl : L.length < 100000) (G : Gs i q ow hd τ L) (h13 : gI τ 13 = iI i) (h14 : gI τ 14 = iI q) {a b c w : Nat} (hn : 0 < b) (he : a + b < 100000) {x4 x5 : Int32} (h4 : x4 = iI (whoE hd (a, b, c, w))) (h5 : x5 = iI (whrE ow (a, b, c, w))) {Q : SS → Prop} (k : ∀ τ', Gs i q ow hd τ' (L ++ [(a, b, c, w)]) → AgE τ τ' → Q τ') : wX7_entry (nI a) (nI b) (nI c) x4 x5 τ Q := by
  unfold R32 at hi hq
  unfold wX7_entry wX7_entry_b41 wX7_entry_b73
  have sa : sr i q 0 (L ++ [(a, b, c, w)]) = (sr i q 0 L).or (sr i q L.length [(a, b, c, w)]) := by rw [sr_app, Nat.zero_add]
  have s1 : sr i q L.length [(a, b, c, w)] = if (L.length : Int) = i ∨ ((a : Int) ≤ q ∧ q < (a : Int) + b) then some (L.length, (a, b, c, w)) else none := rfl
  refine ⟨fun c => absurd ((nI_eq (b := 0) (by omega) (by omega)).mp c) (by omega), fun _ => ?_⟩
  cases hs : sr i q 0 L with
  | none =>
    obtain ⟨g15, g12⟩ := G.1 hs
    rw [hs] at sa
    refine ⟨fun _ => ?_, fun c => absurd g15 c⟩
    have hit : ((L.length : Int) = i ∨ ((a : Int) ≤ q ∧ q < (a : Int) + b)) → Q (sI (sI (sI (sI (sI (sI (sI τ 7 (nI a)) 8 (nI b)) 9 (nI c)) 10 x4) 11 x5) 15 1) 12 (gI (sI (sI (sI (sI (sI (sI τ 7 (nI a)) 8 (nI b)) 9 (nI c)) 10 x4) 11 x5) 15 1) 12 + 1)) := by
      intro hh
      rw [if_pos hh] at s1
      rw [s1] at sa
      refine k _ ⟨fun w => ?_, fun r e w => ?_⟩ ⟨⟨⟨⟨rfl, rfl, rfl⟩, fun _ _ => rfl, rfl, rfl⟩, ⟨rfl, rfl⟩, rfl, rfl⟩, rfl, rfl⟩
      · rw [sa] at w; exact absurd w (by simp)
      · rw [sa] at w
        cases w
        refine ⟨rfl, ?_, rfl, rfl, rfl, h4, h5⟩
        show gI τ 12 + 1 = _
        rw [g12, nI_1]
    have miss : ¬ ((L.length : Int) = i ∨ ((a : Int) ≤ q ∧ q < (a : Int) + b)) → Q (sI τ 12 (gI τ 12 + 1)) := by
      intro hh
      rw [if_neg hh] at s1
      rw [s1] at sa
      refine k _ ⟨fun w => ⟨g15, ?_⟩, fun r e w => ?_⟩ ⟨⟨⟨⟨rfl, rfl, rfl⟩, fun _ _ => rfl, rfl, rfl⟩, ⟨rfl, rfl⟩, rfl, rfl⟩, rfl, rfl⟩
      · show gI τ 12 + 1 = _
        rw [g12, nI_1, List.length_append]
        rfl
      · rw [sa] at w; exact absurd w (by simp)
    refine ⟨fun c1 => hit (Or.inl ?_), fun c1 => ⟨fun c2 => miss ?_, fun c2 => ⟨fun c3 => miss ?_, fun c3 => hit (Or.inr ?_)⟩⟩⟩
    · rw [g12, h13, nI_iI, iI_eq (by omega) (by omega) (by omega) (by omega)] at c1
      exact c1
    · rw [g12, h13, nI_iI, iI_eq (by omega) (by omega) (by omega) (by omega)] at c1
      rw [h14, nI_iI, iI_lt (by omega) (by omega) (by omega) (by omega)] at c2
      omega
    · rw [g12, h13, nI_iI, iI_eq (by omega) (by omega) (by omega) (by omega)] at c1
      rw [h14, nI_iI, nI_iI, iI_add, iI_le (by omega) (by omega) (by omega) (by omega)] at c3
      omega
    · rw [h14, nI_iI, iI_lt (by omega) (by omega) (by omega) (by omega)] at c2
      rw [h14, nI_iI, nI_iI, iI_add, iI_le (by omega) (by omega) (by omega) (by omega)] at c3
      omega
  | some r =>
    obtain ⟨r1, r2⟩ := r
    have g15 := (G.2 r1 r2 hs).1
    have h15 : ¬ gI τ 15 = 0 := by rw [g15]; decide
    exact ⟨fun c => absurd c h15, fun _ => k τ (Gs_more G h15) (AgE.rf τ)⟩
theorem m_entry0 {a c x4 x5 : Int32} {Q : SS → Prop} (k : Q τ) : wX7_entry a (nI 0) c x4 x5 τ Q := by
  unfold wX7_entry
  exact ⟨fun _ => k, fun c => absurd rfl c⟩
theorem m_slab (hg : Gh pg zn ow ln hd kd cl th sz zo pl) (mg : MG pg ow ln hd τ) (hi : R32 i) (hq : R32 q) (h13 : gI τ 13 = iI i) (h14 : gI τ 14 = iI q) {p : Nat} {L : List (Nat × Nat × Nat × Nat)} (hlt : p < 64 * pg) (hm : p % 64 = 0) (ho : 0 ≤ ow (p / 64)) (h0 : kz kd (ow (p / 64)) = 0) (hL : wk ow ln hd kd sz (64 * pg) 0 = L ++ wk ow ln hd kd sz (64 * pg) p) (hl : L.length ≤ 4 * p) (G : Gs i q ow hd τ L) {Q : SS → Prop} (k : ∀ τ' L', AgE τ τ' → Gs i q ow hd τ' L' → L'.length ≤ 4 * (p + 64) → wk ow ln hd kd sz (64 * pg) 0 = L' ++ wk ow ln hd kd sz (64 * pg) (p + 64) → Q τ') : wX7_slabEntries (nI p) (iI (ow (p / 64))) τ Q := by
  obtain ⟨hT0, hK, hSz, hSet, hJ⟩ := id hg
  obtain ⟨hZ, hT, hS, hB, hR⟩ := id hT0
  have hp40 := hZ.1
  have hzn := hZ.2.1
  have hz := hZ.2.2.1 (p / 64) (by omega)
  obtain ⟨hc1, hc2⟩ := (hZ.2.2.2 (ow (p / 64)).toNat (by omega)).2 h0
  have hS' := hS (p / 64) (by omega) ho h0
  have hlp : ln p = 0 := by
    have := hS' 0 (by omega)
    rw [show 64 * (p / 64) + 0 = p by omega, if_neg (by omega)] at this
    exact this
  have heo : eo ow ln p = p + 1 := by unfold eo; rw [if_neg (by omega), if_neg (by omega), if_pos hm]
  have hen : ents ow ln hd kd sz p = [(p, 1, 2, p)] := by
    unfold ents pts
    rw [if_neg (by omega), if_pos hlp, if_pos hm, heo, show p + 1 - p = 1 by omega]
    rfl
  have hwr : ∀ (e b c : Nat), e / 64 = p / 64 → whrE ow (e, b, c, e) = ow (p / 64) := by
    intro e b c he
    unfold whrE
    show (if ow (e / 64) < 0 then _ else ow (e / 64)) = _
    rw [he, if_neg (by omega)]
  unfold wX7_slabEntries wX7_slabEntries_b16 wX7_slabEntries_b60 wX7_slabEntries_b82
  have b0 : Bd pg ow ln kd cl p := Or.inr ⟨hlt, Or.inr ⟨ho, Or.inr ⟨h0, Or.inl hm⟩⟩⟩
  refine m_entry (a := p) (b := 1) (c := 2) (w := p) hi hq (by omega) G h13 h14 (by omega) (by omega) (by rfl) (by rw [hwr p 1 2 rfl]) (fun τ1 G1 A1 => ?_)
  obtain ⟨q1, q2, q3, q4⟩ := eoBd hT0 b0 hlt
  rw [heo] at q1 q2 q3 q4
  refine lfp_inv (fun t => ∃ (e j : Nat) (L' : List (Nat × Nat × Nat × Nat)), p + 1 ≤ e ∧ e ≤ p + 64 ∧ p ≤ j ∧ j ≤ p + 64 ∧ Bd pg ow ln kd cl e ∧ wk ow ln hd kd sz (64 * pg) 0 = L' ++ wk ow ln hd kd sz (64 * pg) e ∧ L'.length ≤ 4 * e ∧ Gs i q ow hd t.2.2 L' ∧ AgE τ t.2.2 ∧ t.1 = nI e ∧ t.2.1 = nI j ∧ (∀ x, j ≤ x → x < e → ln x = 0) ∧ (j ≤ e ∨ ∀ x, e ≤ x → x < p + 64 → ln x = 0)) (fun t => p + 64 - t.2.1.toNatClampNeg) ⟨p + 1, p, L ++ [(p, 1, 2, p)], by omega, by omega, by omega, by omega, q3, ?_, ?_, G1, A1, ?_, rfl, fun x x1 x2 => by rw [show x = p by omega]; exact hlp, Or.inl (by omega)⟩ ?_
  · rw [hL, wk_step ow ln hd kd sz hlt (by omega), hen, heo, List.append_assoc]
  · rw [List.length_append]
    show L.length + 1 ≤ _
    omega
  · show nI p + 1 = _
    rw [nI_1]
  · rintro ⟨t1, t2, t3⟩ X ⟨e, j, L', f1, f2, f3, f4, f5, f6, f7, f8, f9, f10, f11, f12, f13⟩ hX
    have f10' : t1 = nI e := f10
    have f11' : t2 = nI j := f11
    subst f10' f11'
    have A9 : AgE τ t3 := f9
    have G8 : Gs i q ow hd t3 L' := f8
    have mg3 : MG pg ow ln hd t3 := mg.ag A9.1.1
    have k13 : gI t3 13 = iI i := A9.2.1.trans h13
    have k14 : gI t3 14 = iI q := A9.2.2.trans h14
    rw [show (64 : Int32) = nI 64 from rfl, nI_add]
    refine ⟨fun c => ?_, fun c => ⟨(show vp_in (nI j) 2560 from vp_in_nI (by
      rcases Nat.lt_or_ge j (p + 64) with w | w
      · omega
      · exact absurd (nI_le w (by omega)) c) (by omega)), ?_⟩⟩
    · have hj : j = p + 64 := by
        rcases Nat.lt_or_ge j (p + 64) with w | w
        · exact absurd c (nI_ge w (by omega))
        · omega
      show wX7_entry (nI e) (nI (p + 64) - nI e) 5 (-1) (iI (ow (p / 64))) t3 _
      rw [pk_sub f2]
      rcases Nat.lt_or_ge e (p + 64) with w | w
      · have hle : ln e = 0 := by
          rcases f13 with v | v
          · omega
          · exact v e (by omega) w
        have he64 : e / 64 = p / 64 := by omega
        have heoe : eo ow ln e = p + 64 := by unfold eo; rw [he64, if_neg (by omega), if_neg (by omega), if_neg (by omega)]; omega
        have hene : ents ow ln hd kd sz e = [(e, p + 64 - e, 5, e)] := by
          unfold ents pts
          rw [he64, if_neg (by omega), if_pos hle, if_neg (by omega), heoe]
          rfl
        refine m_entry (a := e) (b := p + 64 - e) (c := 5) (w := e) hi hq (by omega) G8 k13 k14 (by omega) (by omega) (by rfl) (by rw [hwr e _ _ he64]) (fun τ2 G2 A2 => k τ2 _ (A9.tr A2) G2 ?_ ?_)
        · rw [List.length_append]
          show L'.length + 1 ≤ _
          omega
        · rw [f6, wk_step ow ln hd kd sz (by omega) (by omega), hene, heoe, List.append_assoc]
      · have : e = p + 64 := by omega
        subst this
        rw [Nat.sub_self]
        exact m_entry0 (k t3 L' A9 G8 f7 f6)
    · have hjl : j < p + 64 := by
        rcases Nat.lt_or_ge j (p + 64) with w | w
        · exact w
        · exact absurd (nI_le w (by omega)) c
      have hj64 : j / 64 = p / 64 := by omega
      have m3 := mg3.2.2 j (by omega)
      have hmeas : p + 64 - (nI (j + 1)).toNatClampNeg < p + 64 - (nI j).toNatClampNeg := by
        rw [nI_clamp (by omega), nI_clamp (by omega)]; omega
      rw [show ((nI e, nI j, t3) : Int32 × Int32 × SS).2.1 = nI j from rfl, show ((nI e, nI j, t3) : Int32 × Int32 × SS).2.2 = t3 from rfl, show ((nI e, nI j, t3) : Int32 × Int32 × SS).1 = nI e from rfl, nI_clamp (by omega), m3.1, nI_1]
      have hlb : ln j = 0 ∨ (0 < ln j ∧ j + ln j ≤ 64 * pg) := by
        rcases Nat.eq_zero_or_pos (ln j) with w | w
        · exact Or.inl w
        · exact Or.inr ⟨w, (hT j (by omega) w).2.1⟩
      refine ⟨fun c2 => ?_, fun c2 => ?_⟩
      · have hlj : ln j = 0 := by
          rcases hlb with w | ⟨w, w2⟩
          · exact w
          · exact absurd c2 (nI_nle w (by omega))
        refine hX _ ⟨e, j + 1, L', f1, f2, by omega, by omega, f5, f6, f7, G8, A9, rfl, rfl, fun x x1 x2 => f12 x (by omega) x2, ?_⟩ hmeas
        rcases Nat.lt_or_ge j e with w | w
        · exact Or.inl (by omega)
        · right
          rcases f13 with v | v
          · have hje : j = e := by omega
            subst hje
            have hwst : j % 64 = wst (cl (ow (p / 64)).toNat) := by
              rcases f5 with u | ⟨-, ⟨u, -⟩ | ⟨-, u | ⟨-, u | u⟩⟩⟩
              · omega
              · rw [hj64] at u; omega
              · omega
              · omega
              · rw [hj64] at u; exact u
            intro x x1 x2
            have := hS' (x % 64) (by omega)
            rw [show 64 * (p / 64) + x % 64 = x by omega, if_neg (slot_wst hc1 (by omega))] at this
            exact this
          · exact v
      · have hlj : 0 < ln j := by
          rcases Nat.eq_zero_or_pos (ln j) with w | w
          · rw [w] at c2; exact absurd (by decide) c2
          · exact w
        have hje : j = e := by
          rcases Nat.lt_or_ge j e with w | w
          · have := f12 j (Nat.le_refl _) w; omega
          · rcases f13 with v | v
            · omega
            · have := v j (by omega) hjl; omega
        subst hje
        have hv : vp_in (nI j) 2560 := vp_in_nI (by omega) (by omega)
        obtain ⟨b1, b2, b3, b4⟩ := eoBd hT0 f5 (by omega)
        have heoj : eo ow ln j = j + ln j := by unfold eo; rw [hj64, if_neg (by omega), if_pos hlj]
        rw [heoj] at b1 b2 b3 b4
        have hin : j + ln j ≤ p + 64 := by
          have := hS' (j % 64) (by omega)
          rw [show 64 * (p / 64) + j % 64 = j by omega] at this
          by_cases hcond : 1 ≤ j % 64 ∧ (j % 64 - 1) % cl (ow (p / 64)).toNat = 0 ∧ j % 64 + cl (ow (p / 64)).toNat ≤ 64
          · rw [if_pos hcond] at this; omega
          · rw [if_neg hcond] at this; omega
        rw [m3.2 hlj]
        have fin : ∀ c : Nat, ents ow ln hd kd sz j = [(j, ln j, c, j)] → iI (hd j) = iI (whoE hd (j, ln j, c, j)) → vp_in (nI j) 2560 ∧ (wX7_entry (nI j) (nI (ln j)) (nI c) (iI (hd j)) (iI (ow (p / 64))) t3 (fun σ68 => vp_in (nI j) 2560 ∧ X (nI j + gA σ68 1 j, nI (j + 1), σ68))) := by
          intro c hc hw
          refine ⟨hv, ?_⟩
          refine m_entry (a := j) (b := ln j) (c := c) (w := j) hi hq (by omega) G8 k13 k14 hlj (by omega) hw (by rw [hwr j _ _ hj64]) (fun τ2 G2 A2 => ⟨hv, ?_⟩)
          have mg4 : MG pg ow ln hd τ2 := mg3.ag A2.1.1
          rw [(mg4.2.2 j (by omega)).1, nI_add]
          refine hX _ ⟨j + ln j, j + 1, L' ++ [(j, ln j, c, j)], by omega, hin, by omega, by omega, b3, ?_, ?_, G2, A9.tr A2, rfl, rfl, fun x x1 x2 => (b4 x (by omega) x2).1, Or.inl (by omega)⟩ hmeas
          · rw [f6, wk_step ow ln hd kd sz (by omega) (by omega), hc, heoj, List.append_assoc]
          · rw [List.length_append]
            show L'.length + 1 ≤ _
            omega
        have hpt : ∀ c : Nat, c = (if hd j < 0 then 4 else 3) → ents ow ln hd kd sz j = [(j, ln j, c, j)] := by
          intro c hc
          unfold ents pts
          rw [hj64, if_neg (by omega), if_neg (by omega), if_pos (by omega), hc]
          rfl
        refine ⟨hv, hv, fun c3 => ?_, fun c3 => ?_⟩
        · have h3 : ¬ hd j < 0 := by
            rcases hK.2 j (by omega) hlj with w | ⟨w1, w2, -⟩
            · rw [w] at c3; exact absurd c3 (by decide)
            · omega
          exact fin 3 (hpt 3 (by rw [if_neg h3])) (by rfl)
        · have h3 : hd j = -1 := by
            rcases hK.2 j (by omega) hlj with w | ⟨w1, w2, -⟩
            · exact w
            · exact absurd (by rw [l_0, iI_le (by omega) (by omega) (by omega) (by omega)]; exact w1) c3
          exact fin 4 (hpt 4 (by rw [if_pos (by omega)])) (by rw [h3]; rfl)
end GOM
