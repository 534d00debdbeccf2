/-! ===== the class: a row's zone is tidied ===== -/
section ROWT
variable {pg zn : Nat} {ow : Nat → Int} {ln kd cl : Nat → Nat} {hd : Nat → Int} {th : Nat → Bool} {sz zo pl : Nat → Nat} {bw : Nat → Int64} {σ : SS}
theorem mergeOk {ln' : Nat → Nat} {j q : Nat} (hK : OkK pg zn ow ln hd th zo pl) (hj : j < 64 * pg) (hlj : 0 < ln j) (hfq : hd q < 0) (hq : q = j + ln j) (hbj : hd j < 0) (e1 : ln' j = ln j + ln q) (e2 : ln' q = 0) (e3 : ∀ i, i ≠ j → i ≠ q → ln' i = ln i) : OkK pg zn ow ln' hd th zo pl ∧ ∀ s, s < 100 → th s = true → ln' (pl s) = ln (pl s) := by
  have key : ∀ s, s < 100 → th s = true → ln' (pl s) = ln (pl s) := by
    intro s hs ht
    have k4 := (hK.1 s hs ht).2.2.2.1
    exact e3 _ (fun w => by rw [w] at k4; omega) (fun w => by rw [w] at k4; omega)
  refine ⟨⟨fun s hs ht => by rw [key s hs ht]; exact hK.1 s hs ht, fun i hi hl => ?_⟩, key⟩
  by_cases u : i = j
  · subst u; exact hK.2 i hi hlj
  · by_cases v : i = q
    · rw [v, e2] at hl; omega
    · rw [e3 i u v] at hl; exact hK.2 i hi hl
/-- no two free pieces of a zone touch (the second one ahead of x) -/
def Joined (pg : Nat) (ow : Nat → Int) (ln : Nat → Nat) (hd : Nat → Int) (z x : Nat) : Prop := ∀ j, j < 64 * pg → 0 < ln j → hd j < 0 → ow (j / 64) = z → j + ln j < x → ow ((j + ln j) / 64) = z → 0 ≤ hd (j + ln j)
theorem x_joinT (h : Tiled pg zn ow ln kd cl) (hK : OkK pg zn ow ln hd th zo pl) (xg : XG pg ow ln hd σ) (xb : XB ln th sz zo pl σ) {z : Nat} (hzn : z < zn) (hkz : 2 ≤ kd z) {Q : SS → Prop} (k : ∀ σ' ln', Tiled pg zn ow ln' kd cl → OkK pg zn ow ln' hd th zo pl → XG pg ow ln' hd σ' → AgP σ σ' → (∀ s, s < 100 → th s = true → ln' (pl s) = ln (pl s)) → (∀ j, j < 64 * pg → ¬ ow (j / 64) = z → ln' j = ln j) → Joined pg ow ln' hd z (64 * pg) → Q σ') : wX4_joinTouching (nI z) σ Q := by
  have hp40 := h.1.1
  have hz8 := h.1.2.1
  have kzz : kz kd (z : Int) = kd z := by unfold kz; rw [Int.toNat_natCast]
  unfold wX4_joinTouching wX4_joinTouching_b4 wX4_joinTouching_b78
  refine lfp_inv (fun t => ∃ (p : Nat) (l : Nat → Nat), p ≤ 64 * pg ∧ Bd pg ow l kd cl p ∧ Tiled pg zn ow l kd cl ∧ OkK pg zn ow l hd th zo pl ∧ XG pg ow l hd t.2.2 ∧ AgP σ t.2.2 ∧ (∀ s, s < 100 → th s = true → l (pl s) = ln (pl s)) ∧ (∀ j, j < 64 * pg → ¬ ow (j / 64) = z → l j = ln j) ∧ Joined pg ow l hd z p ∧ t.2.1 = nI p ∧ ((t.1 = iI (-1) ∧ ∀ j, j < 64 * pg → 0 < l j → hd j < 0 → ow (j / 64) = z → ¬ j + l j = p) ∨ ∃ j, t.1 = nI j ∧ j < p ∧ 0 < l j ∧ hd j < 0 ∧ ow (j / 64) = z ∧ j + l j = p)) (fun t => 64 * pg - t.2.1.toNatClampNeg) ⟨0, ln, by omega, Bd_0 h, h, hK, xg, AgP.rf σ, fun _ _ _ => rfl, fun _ _ _ => rfl, fun j _ _ _ _ w => by omega, rfl, Or.inl ⟨rfl, fun j _ hl _ _ w => by omega⟩⟩ ?_
  rintro ⟨t1, t2, t3⟩ X ⟨p, l, hpp, hb, hT0, hK0, xg0', ag', bl, oz, jd, e2, hj'⟩ hX
  have e2' : t2 = nI p := e2
  subst e2'
  have xg0 : XG pg ow l hd t3 := xg0'
  have ag : AgP σ t3 := ag'
  have hj : (t1 = iI (-1) ∧ ∀ j, j < 64 * pg → 0 < l j → hd j < 0 → ow (j / 64) = z → ¬ j + l j = p) ∨ ∃ j, t1 = nI j ∧ j < p ∧ 0 < l j ∧ hd j < 0 ∧ ow (j / 64) = z ∧ j + l j = p := hj'
  have xb0 : XB l th sz zo pl t3 := xb.agp ag bl
  refine x_places xg0 ⟨fun c => ?_, fun c => ?_⟩
  · have : p = 64 * pg := by
      rcases Nat.lt_or_ge p (64 * pg) with w | w
      · exact absurd c (nI_ge w (by omega))
      · omega
    subst this
    exact k t3 l hT0 hK0 xg0 ag bl oz jd
  · have hlt : p < 64 * pg := by
      rcases Nat.lt_or_ge p (64 * pg) with w | w
      · exact w
      · exact absurd (nI_le w (by omega)) c
    obtain ⟨b1, b2, b3, b4⟩ := eoBd hT0 hb hlt
    have hm : ∀ (a : Int32) (s : SS), 64 * pg - ((a, nI (eo ow l p), s) : Int32 × Int32 × SS).2.1.toNatClampNeg < 64 * pg - ((t1, nI p, t3) : Int32 × Int32 × SS).2.1.toNatClampNeg := by
      intro a s
      show 64 * pg - (nI (eo ow l p)).toNatClampNeg < 64 * pg - (nI p).toNatClampNeg
      rw [nI_clamp (by omega), nI_clamp (by omega)]
      omega
    have hfl := fr_le (hd := hd) (z := z) hT0.2.1 hlt
    have hcut : ∀ j, j < 64 * pg → 0 < l j → ow (j / 64) = z → j + l j ≤ p ∨ j = p ∨ eo ow l p ≤ j := fun j h1 h2 h3 => bdCut hT0 hb hlt h1 h2 (by rw [h3, kzz]; omega)
    refine x_endOf xg0 hT0.1 hT0.2.1 hK0 xb0 hlt (x_freeAt xg0 hT0.1 hT0.2.1 hK0 hlt (by omega) ?_)
    rw [x_max b1 (by omega)]
    refine ⟨fun c2 => ?_, fun c2 => ?_⟩
    · -- a free piece of the zone
      have hfr : 0 < fr ow l hd z p := by
        rcases Nat.eq_zero_or_pos (fr ow l hd z p) with w | w
        · rw [w] at c2; exact absurd rfl c2
        · exact w
      have hfz : ow (p / 64) = z ∧ hd p < 0 ∧ 0 < l p := by
        unfold fr at hfr
        split at hfr
        · next w => exact ⟨w.1, w.2, hfr⟩
        · omega
      obtain ⟨f1, f2, f3⟩ := hfz
      have heo : eo ow l p = p + l p := by unfold eo; rw [if_neg (by omega), if_pos f3]
      refine ⟨fun c3 => ?_, fun c3 => ?_⟩
      · rcases hj with ⟨w, -⟩ | ⟨j, w1, w2, w3, w4, w5, w6⟩
        · rw [show ((t1, nI p, t3) : Int32 × Int32 × SS).1 = t1 from rfl, w] at c3
          exact absurd c3 (by decide)
        · subst w1
          show wX3_mark (nI p) 0 t3 (fun σ63 => wX3_mark (nI j) (nI (eo ow l p) - nI j) σ63 (fun σ75 => X (nI j, nI (eo ow l p), σ75)))
          rw [pk_sub (show j ≤ eo ow l p by omega)]
          refine x_mark (by omega) (x_mark (by omega) ?_)
          obtain ⟨l', hl'⟩ : ∃ l' : Nat → Nat, l' = fun i => if i = j then l j + l p else if i = p then 0 else l i := ⟨_, rfl⟩
          have q1 : l' j = l j + l p := by rw [hl']; show (if j = j then _ else _) = _; rw [if_pos rfl]
          have q2 : l' p = 0 := by rw [hl']; show (if p = j then _ else _) = _; rw [if_neg (by omega), if_pos rfl]
          have q3 : ∀ i, i ≠ j → i ≠ p → l' i = l i := by intro i i1 i2; rw [hl']; show (if i = j then _ else _) = _; rw [if_neg i1, if_neg i2]
          have hT1 : Tiled pg zn ow l' kd cl := mergeRow hT0 (j := j) (q := p) (by omega) w3 w6.symm hlt f3 (by rw [f1, w5]) (by rw [w5, kzz]; exact hkz) q1 q2 q3
          obtain ⟨hK1, bl1⟩ := mergeOk (ln' := l') hK0 (by omega) w3 f2 w6.symm w4 q1 q2 q3
          have hge : l' (eo ow l p) = l (eo ow l p) := q3 _ (by omega) (by omega)
          refine hX _ ⟨eo ow l p, l', b2, ?_, hT1, hK1, ?_, (ag.tr (AgP.m1 _ _ _)).tr (AgP.m1 _ _ _), fun s hs ht => (bl1 s hs ht).trans (bl s hs ht), fun i hi hiz => ?_, ?_, rfl, Or.inr ⟨j, rfl, by omega, by omega, w4, w5, by omega⟩⟩ (hm _ _)
          · unfold Bd at b3 ⊢
            rw [hge]
            exact b3
          · obtain ⟨x1, x2, x3⟩ := xg0
            refine ⟨x1, x2, fun i hi => ?_⟩
            show upd (upd (gA t3 1) p 0) j (nI (eo ow l p - j)) i = _
            unfold upd
            by_cases u : i = j
            · rw [if_pos u, u, q1]
              unfold mkI
              rw [if_neg (by omega), if_pos w4, nI_iI]
              congr 1
              omega
            · rw [if_neg u]
              by_cases v : i = p
              · rw [if_pos v, v, q2]
                rfl
              · rw [if_neg v, q3 i u v]
                exact x3 i hi
          · rw [q3 i (fun w => by rw [w] at hiz; exact hiz w5) (fun w => by rw [w] at hiz; exact hiz f1)]
            exact oz i hi hiz
          · intro i hi hl hf ho hn ho2
            by_cases u : i = j
            · subst u; omega
            · by_cases v : i = p
              · rw [v, q2] at hl; omega
              · rw [q3 i u v] at hl hn ho2 ⊢
                rcases hcut i hi hl ho with y | y | y
                · rcases Nat.lt_or_ge (i + l i) p with y2 | y2
                  · exact jd i hi hl hf ho y2 ho2
                  · exfalso
                    rcases Nat.lt_or_ge i j with y3 | y3
                    · have := hT0.2.1.dj hi hl w3 y3; omega
                    · have := hT0.2.1.dj (show j < 64 * pg by omega) w3 hl (by omega); omega
                · omega
                · omega
      · rcases hj with ⟨w, hno⟩ | ⟨j, w1, w2, w3, w4, w5, w6⟩
        · refine hX _ ⟨eo ow l p, l, b2, b3, hT0, hK0, xg0, ag, bl, oz, ?_, rfl, Or.inr ⟨p, rfl, by omega, f3, f2, f1, by omega⟩⟩ (hm _ _)
          intro i hi hl hf ho hn ho2
          rcases hcut i hi hl ho with y | y | y
          · rcases Nat.lt_or_ge (i + l i) p with y2 | y2
            · exact jd i hi hl hf ho y2 ho2
            · exact absurd (by omega) (hno i hi hl hf ho)
          · subst y; omega
          · omega
        · subst w1
          exact absurd (by rw [show ((nI j, nI p, t3) : Int32 × Int32 × SS).1 = nI j from rfl, l_0, nI_iI, iI_le (by omega) (by omega) (by omega) (by omega)]; omega) c3
    · have hfr : fr ow l hd z p = 0 := (nI_eq (b := 0) (by omega) (by omega)).mp c2
      refine hX _ ⟨eo ow l p, l, b2, b3, hT0, hK0, xg0, ag, bl, oz, ?_, rfl, Or.inl ⟨rfl, ?_⟩⟩ (hm _ _)
      · intro i hi hl hf ho hn ho2
        rcases hcut i hi hl ho with y | y | y
        · rcases Nat.lt_or_ge (i + l i) p with y2 | y2
          · exact jd i hi hl hf ho y2 ho2
          · have he : i + l i = p := by omega
            rw [he] at ho2 ⊢
            rcases Int.lt_or_le (hd p) 0 with v | v
            · exfalso
              have hlp : 0 < l p := by
                rcases hb with u | ⟨-, ⟨u, -⟩ | ⟨-, u | ⟨u, -⟩⟩⟩
                · omega
                · omega
                · exact u
                · rw [ho2, kzz] at u; omega
              unfold fr at hfr
              rw [if_pos ⟨ho2, v⟩] at hfr
              omega
            · exact v
        · subst y
          unfold fr at hfr
          rw [if_pos ⟨ho, hf⟩] at hfr
          omega
        · omega
      · intro i hi hl hf ho he
        rcases hcut i hi hl ho with y | y | y
        · omega
        · subst y
          unfold fr at hfr
          rw [if_pos ⟨ho, hf⟩] at hfr
          omega
        · omega
end ROWT
