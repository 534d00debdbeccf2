/-! ===== want ===== -/
theorem AgQ.k {τ τ' : SS} (a : AgQ τ τ') : AgK τ τ' := by
  refine ⟨a.1 3, ?_⟩
  unfold kview
  rw [a.1 4, a.1 5, a.1 6, a.2.1 11 (by omega) (by omega) (by omega), a.2.1 12 (by omega) (by omega) (by omega), a.2.1 13 (by omega) (by omega) (by omega), a.2.1 14 (by omega) (by omega) (by omega), a.2.1 15 (by omega) (by omega) (by omega), a.2.1 16 (by omega) (by omega) (by omega), a.2.1 17 (by omega) (by omega) (by omega), a.2.1 18 (by omega) (by omega) (by omega), a.2.1 19 (by omega) (by omega) (by omega), a.2.1 20 (by omega) (by omega) (by omega), a.2.2.1 2, a.2.2.1 3]
theorem AgK.tr {a b c : SS} (h1 : AgK a b) (h2 : AgK b c) : AgK a c := ⟨h2.1.trans h1.1, h2.2.trans h1.2⟩
section WANT
variable {pg zn : Nat} {ow : Nat → Int} {ln kd cl : Nat → Nat} {hd : Nat → Int} {th : Nat → Bool} {sz zo pl : Nat → Nat} {bw : Nat → Int64} {σ τ : SS}
/-- the class's state after a block was put -/
def putX (σ : SS) (s z p l n : Nat) (k : Nat) (w : Int64) : SS := sBB (sA (sA (sA (sA (sA σ 4 s (nI z)) 5 s (nI p)) 6 s (nI l)) 7 s (nI n)) 1 p (iI (-1 - (s : Int)))) 0 (gw k (gB σ 0) p l w)
theorem x_putBlock (hp40 : pg ≤ 40) (xg : XG pg ow ln hd σ) (xz : XZ zn kd cl bw σ) (hz8 : zn ≤ 8) {s z p n : Nat} (hs : s < 100) (hz : z < zn) (hk5 : kd z ≤ 5) (hp : p < 64 * pg) (hl : 0 < ln p) (hf : hd p < 0) (hb : p + ln p ≤ 64 * pg) (hl2 : 2 ≤ ln p ∨ ¬ kd z = 5) {Q : SS → Prop} (k : Q (putX σ s z p (ln p) n (kd z) (bw z))) : wX3_putBlock (nI s) (nI z) (nI p) (nI n) σ Q := by
  have hv : vp_in (nI s) 100 := vp_in_nI hs (by omega)
  unfold wX3_putBlock
  rw [nI_clamp (by omega)]
  refine ⟨hv, hv, ?_⟩
  have xg2 : XG pg ow ln hd (sA (sA σ 4 s (nI z)) 5 s (nI p)) := xg
  refine x_pieceAt xg2 hp40 hp ⟨hv, hv, x_mark (by omega) ?_⟩
  have em : iI (mkI (ln p) (hd p)) = nI (ln p) := by
    unfold mkI
    rw [if_neg (by omega), if_pos hf, nI_iI]
  have e1 : (-1 : Int32) - nI s = iI (-1 - (s : Int)) := by rw [nI_iI, l_m1, iI_sub]
  rw [em, e1]
  obtain ⟨σ1, hσ1⟩ : ∃ σ1, σ1 = sA (sA (sA (sA (sA σ 4 s (nI z)) 5 s (nI p)) 6 s (nI (ln p))) 7 s (nI n)) 1 p (iI (-1 - (s : Int))) := ⟨_, rfl⟩
  unfold putX at k
  rw [← hσ1] at k ⊢
  have xz1 : XZ zn kd cl bw σ1 := by subst hσ1; exact xz
  have b1 : BX σ1 s z p (ln p) n := by
    subst hσ1
    refine ⟨?_, ?_, ?_, ?_⟩
    · show upd (gA σ 4) s (nI z) s = _
      unfold upd; rw [if_pos rfl]
    · show upd (gA σ 5) s (nI p) s = _
      unfold upd; rw [if_pos rfl]
    · show upd (gA σ 6) s (nI (ln p)) s = _
      unfold upd; rw [if_pos rfl]
    · show upd (gA σ 7) s (nI n) s = _
      unfold upd; rw [if_pos rfl]
  have eB : gB σ1 0 = gB σ 0 := by subst hσ1; rfl
  refine x_wordOfM xz1 hz8 hs b1 hz (x_setWordsM xz1 hz8 hs b1 hz hk5 hl2 (by omega) ?_)
  rw [eB]
  exact k
end WANT
theorem s_want : stp_want II := by
  intro κ σx σm x1 x2 h
  obtain ⟨a, ha, rfl⟩ := ex_iI x1
  obtain ⟨b, hb, rfl⟩ := ex_iI x2
  obtain ⟨⟨pg, zn, ow, ln, hd, kd, cl, bw, th, sz, zo, pl, hg⟩, h2, h4⟩ := id h
  obtain ⟨g1, ⟨xg, xz, xb⟩, ⟨mg, mz, mb⟩, hraw⟩ := id hg
  obtain ⟨hT, hK, hSz, hSet, hJ⟩ := id g1
  have hp : pg ≤ 40 := g1.1.1.1
  have hzn : zn ≤ 8 := g1.1.1.2.1
  unfold R32 at hb
  -- the reference
  have mk : ∀ (r : Int32) (σ' : SS), (a < 0 ∨ zn ≤ a → r = iI (-1) ∧ II κ σ' (ansM σm 1)) → (∀ z : Nat, a = z → z < zn → b < 0 → r = iI (-3) ∧ II κ σ' (ansM σm 3)) → (∀ z : Nat, a = z → z < zn → (mst (kd z) (cl z) : Int) < b → r = iI (-1) ∧ II κ σ' (ansM σm 1)) → (∀ z n : Nat, a = z → z < zn → b = n → n ≤ mst (kd z) (cl z) → ((∀ i, i < 100 → th i = true) ∨ TK pg zn ow ln hd kd cl th sz zo pl z n (-1)) → r = iI (-6) ∧ II κ σ' (ansM σm 6)) → (∀ z n s p : Nat, a = z → z < zn → b = n → n ≤ mst (kd z) (cl z) → s < 100 → th s = false → (∀ i, i < s → th i = true) → TK pg zn ow ln hd kd cl th sz zo pl z n p → ∀ (τ' : SS) (ow' : Nat → Int) (ln' : Nat → Nat) (hd' : Nat → Int) (L : Nat), Gh pg zn ow' ln' hd' kd cl (fup th s true) (fup sz s n) (fup zo s z) (fup pl s p) → MG pg ow' ln' hd' τ' → MZ zn kd cl bw τ' → MB (fup th s true) (fup sz s n) (fup zo s z) (fup pl s p) τ' → (∀ i, gA τ' 4 i = if i = s then gA σm 4 s + 1 else gA σm 4 i) → gB τ' 0 = gw (kd z) (gB σm 0) p L (bw z) → L = (if kd z = 0 then cl z else due (kd z) n) → gA τ' 9 = gA σm 9 → gA τ' 10 = gA σm 10 → gL τ' 0 = gL σm 0 → AgK σm τ' → (∀ k, k < pg → (ow' k = -2 ↔ ow k = -2)) → r = 100 * (gA σm 4 s + 1 - 1) + nI s ∧ II κ σ' τ') → wX7_want (iI a) (iI b) σm (fun r' τ' => r = r' ∧ II κ σ' τ') := by
    intro r σ' k1 k2 k3 k4 k5
    unfold wX7_want
    refine m_isZ mz hzn ha (fun q => ⟨fun w => absurd rfl w, fun _ => ?_⟩) (fun z hz hz2 => ⟨fun _ => ?_, fun q => absurd q (by decide)⟩)
    · rw [l_m1]
      exact m_answer (n := 1) (by omega) (by omega) (k1 q)
    · obtain ⟨hk5, hc⟩ := hT.1.2.2.2 z hz2
      have hM : mst (kd z) (cl z) ≤ 2000 := by
        unfold mst
        by_cases c0 : kd z = 0
        · rw [if_pos c0]; have := hc c0; omega
        · rw [if_neg c0]; split <;> omega
      unfold wX7_want_b27 wX7_want_b38
      have ebm0 : (0 : Int32) ≤ iI b ↔ 0 ≤ b := by rw [l_0]; exact iI_le (by omega) (by omega) (by omega) (by omega)
      have ebl0 : iI b < (0 : Int32) ↔ b < 0 := by rw [l_0]; exact iI_lt (by omega) (by omega) (by omega) (by omega)
      rw [ebm0, ebl0]
      refine ⟨fun c => ⟨fun c2 => by omega, fun _ => ?_⟩, fun c => ?_⟩
      · rw [l_m3]
        exact m_answer (n := 3) (by omega) (by omega) (k2 z hz hz2 c)
      · have ez : iI a = nI z := by rw [hz, iI_nat]
        rw [ez]
        refine m_most hzn mz hz2 hk5 ?_
        have ebM : iI b ≤ nI (mst (kd z) (cl z)) ↔ b ≤ (mst (kd z) (cl z) : Int) := by rw [nI_iI]; exact iI_le (by omega) (by omega) (by omega) (by omega)
        rw [ebM]
        refine ⟨fun c2 => ?_, fun c2 => ⟨fun _ => ?_, fun c3 => by omega⟩⟩
        · obtain ⟨n, rfl⟩ := Int.eq_ofNat_of_zero_le (show 0 ≤ b by omega)
          have hn : n ≤ mst (kd z) (cl z) := by omega
          have hcl := cnt_le th 100
          rw [mb.1]
          have e100 : nI (cnt th 100) = 100 ↔ cnt th 100 = 100 := nI_eq (b := 100) (by omega) (by omega)
          rw [e100, iI_nat]
          have full : ((∀ i, i < 100 → th i = true) ∨ TK pg zn ow ln hd kd cl th sz zo pl z n (-1)) → wX7_answer (-6) σm (fun r69 σ69 => r = r69 ∧ II κ σ' σ69) := by
            intro w
            rw [l_m6]
            exact m_answer (n := 6) (by omega) (by omega) (k4 z n hz hz2 rfl hn w)
          unfold wX7_want_b61
          refine ⟨fun c3 => ?_, fun c3 => ⟨fun w => absurd w (by decide), fun _ => full (Or.inl (cnt_all.mp c3))⟩⟩
          refine m_taken g1 mg mz hz2 hn (fun htk => ⟨fun w => absurd w (by decide), fun _ => full (Or.inr htk)⟩) (fun p τ1 ow1 ln1 hd1 htk T mg1 ag1 bl1 mi1 => ⟨fun _ => ?_, fun w => absurd (nI_pos' (by have := T.2.2.2.1.1; omega)) w⟩)
          obtain ⟨tT, tK, tJ, ⟨tp, tl, tf, to⟩, tlen⟩ := id T
          have htb := (tT.2.1 p tp tl).2.1
          unfold wX7_want_b76
          refine lfp_inv (fun t => ∃ i : Nat, i ≤ 100 ∧ (∀ j, j < i → th j = true) ∧ t = nI i) (fun t => 100 - t.toNatClampNeg) ⟨0, by omega, fun j w => by omega, rfl⟩ ?_
          rintro t X ⟨s, hs, hall, rfl⟩ hX
          have hs100 : s < 100 := by
            rcases Nat.lt_or_ge s 100 with w | w
            · exact w
            · exact absurd (cnt_all.mpr (fun i hi => hall i (by omega))) c3
          have hv : vp_in (nI s) 100 := vp_in_nI hs100 (by omega)
          have e5 : gA τ1 5 = gA σm 5 := ag1.2.1 5 (by omega) (by omega) (by omega)
          have e4 : gA τ1 4 = gA σm 4 := ag1.2.1 4 (by omega) (by omega) (by omega)
          rw [nI_clamp (by omega), e5, nI_1]
          refine ⟨hv, fun c4 => ⟨hv, hv, hv, fun σ118 e118 => ?_⟩, fun c4 => ?_⟩
          · have hts : th s = false := by
              cases e : th s with
              | false => rfl
              | true => rw [((mb.2 s hs100).1 e).1] at c4; exact absurd c4 (by decide)
            have en : vp_nar .boolean (1 : Int32) = 1 := nar_bool (Or.inr rfl)
            rw [en] at e118
            have ecnt := cnt_off (P := fup th s true) (P' := th) hs100 (fup_s _ _ _) hts (fun i hi => (fup_n th true hi).symm)
            have eg2 : gI τ1 2 + 1 = nI (cnt (fup th s true) 100) := by
              rw [ag1.1 2, mb.1, nI_1, ecnt]
            obtain ⟨hd2, hhd2⟩ : ∃ hd2 : Nat → Int, hd2 = fup hd1 p (s : Int) := ⟨_, rfl⟩
            have d1 : hd2 p = s := by rw [hhd2]; exact fup_s _ _ _
            have d2 : ∀ j, j ≠ p → hd2 j = hd1 j := fun j hj => by rw [hhd2]; exact fup_n _ _ hj
            obtain ⟨aK, aS, aJ, -⟩ := asg (sz := sz) (hd' := hd2) (th' := fup th s true) (sz' := fup sz s n) (zo' := fup zo s z) (pl' := fup pl s p) T hs100 hts (hSz.same bl1) hn hz2 d1 d2 (fup_s _ _ _) (fun i hi => fup_n _ _ hi) (fup_s _ _ _) (fun i hi => fup_n _ _ hi) (fup_s _ _ _) (fun i hi => fup_n _ _ hi) (fup_s _ _ _) (fun i hi => fup_n _ _ hi)
            unfold wX7_have
            rw [nI_clamp (show p < 2 ^ 31 by omega), nI_clamp (show s < 2 ^ 31 by omega)]
            refine ⟨vp_in_nI (by omega) (by omega), hv, hv, hv, ?_⟩
            obtain ⟨τ2, hτ2⟩ : ∃ τ2, τ2 = sA (sA (sA (sA σ118 2 p (nI s)) 7 s (nI z)) 8 s (nI p)) 6 s (nI n) := ⟨_, rfl⟩
            rw [← hτ2]
            have mz2 : MZ zn kd cl bw τ2 := by
              have q : MZ zn kd cl bw τ1 := mz.agq ag1
              subst hτ2 e118
              exact q
            have b6 : gA τ2 6 s = nI n := by subst hτ2; exact gA_same _ _ _ _
            have b7 : gA τ2 7 s = nI z := by
              subst hτ2
              show upd (gA σ118 7) s (nI z) s = _
              unfold upd; rw [if_pos rfl]
            have b8 : gA τ2 8 s = nI p := by
              subst hτ2
              show upd (gA σ118 8) s (nI p) s = _
              unfold upd; rw [if_pos rfl]
            have eB2 : gB τ2 0 = gB σm 0 := by
              subst hτ2 e118
              exact ag1.2.2.1 0
            have hl5 : kd z = 5 → ln1 p = n + 3 := fun c => by
              rw [tlen, if_neg (by omega)]
              unfold due
              rw [if_neg (by omega), if_neg (by omega), if_pos c]
            have mg2 : MG pg ow1 ln1 hd2 τ2 := by
              subst hτ2 e118
              refine ⟨mg1.1, mg1.2.1, fun j hj => ⟨(mg1.2.2 j hj).1, fun hlj => ?_⟩⟩
              show upd (gA τ1 2) p (nI s) j = _
              unfold upd
              by_cases w : j = p
              · rw [if_pos w, w, d1, nI_iI]
              · rw [if_neg w, d2 j w]; exact (mg1.2.2 j hj).2 hlj
            have mb2 : MB (fup th s true) (fup sz s n) (fup zo s z) (fup pl s p) τ2 := by
              subst hτ2 e118
              have a6 := ag1.2.1 6 (by omega) (by omega) (by omega)
              have a7 := ag1.2.1 7 (by omega) (by omega) (by omega)
              have a8 := ag1.2.1 8 (by omega) (by omega) (by omega)
              refine ⟨?_, fun i hi => ?_⟩
              · show gI τ1 2 + 1 = _
                exact eg2
              · show (_ → upd (gA τ1 5) s 1 i = 1 ∧ upd (gA τ1 6) s (nI n) i = _ ∧ upd (gA τ1 7) s (nI z) i = _ ∧ upd (gA τ1 8) s (nI p) i = _) ∧ (_ → upd (gA τ1 5) s 1 i = 0)
                rw [e5, a6, a7, a8]
                unfold upd fup
                by_cases w : i = s
                · rw [if_pos w, if_pos w, if_pos w, if_pos w, if_pos w, if_pos w, if_pos w, if_pos w]
                  exact ⟨fun _ => ⟨rfl, rfl, rfl, rfl⟩, fun q => absurd q (by decide)⟩
                · rw [if_neg w, if_neg w, if_neg w, if_neg w, if_neg w, if_neg w, if_neg w, if_neg w]
                  exact mb.2 i hi
            refine m_guardM mz2 hzn hs100 b6 b7 b8 hz2 hk5 hl5 (by omega) ?_
            rw [eB2]
            refine m_settle tT aK aS aJ (show MG pg ow1 ln1 hd2 (sBB τ2 0 (gw (kd z) (gB σm 0) p (ln1 p) (bw z))) from mg2) (show MZ zn kd cl bw (sBB τ2 0 (gw (kd z) (gB σm 0) p (ln1 p) (bw z))) from mz2) (fun τ3 o3 l3 d3 hG3 mg3 ag3 bl3 mi3 => ⟨hv, ?_⟩)
            have f4 : ∀ i, gA τ3 4 i = if i = s then gA σm 4 s + 1 else gA σm 4 i := by
              intro i
              rw [ag3.2.1 4 (by omega) (by omega) (by omega)]
              subst hτ2 e118
              show upd (gA τ1 4) s (gA τ1 4 s + 1) i = _
              rw [e4]
              rfl
            have f4s : gA τ3 4 s = gA σm 4 s + 1 := by rw [f4 s, if_pos rfl]
            rw [f4s]
            refine k5 z n s p hz hz2 rfl hn hs100 hts hall htk τ3 o3 l3 d3 (ln1 p) hG3 mg3 ((show MZ zn kd cl bw (sBB τ2 0 (gw (kd z) (gB σm 0) p (ln1 p) (bw z))) from mz2).agq ag3) ((show MB (fup th s true) (fup sz s n) (fup zo s z) (fup pl s p) (sBB τ2 0 (gw (kd z) (gB σm 0) p (ln1 p) (bw z))) from mb2).agq ag3) f4 ?_ tlen ?_ ?_ ?_ ?_ (fun k hk => (mi3 k hk).trans (mi1 k hk))
            · rw [ag3.2.2.1 0, gB_sBB_self]
            · rw [ag3.2.1 9 (by omega) (by omega) (by omega)]
              subst hτ2 e118
              exact ag1.2.1 9 (by omega) (by omega) (by omega)
            · rw [ag3.2.1 10 (by omega) (by omega) (by omega)]
              subst hτ2 e118
              exact ag1.2.1 10 (by omega) (by omega) (by omega)
            · rw [ag3.2.2.2 0]
              subst hτ2 e118
              exact ag1.2.2.2 0
            · have ak2 : AgK τ1 (sBB τ2 0 (gw (kd z) (gB σm 0) p (ln1 p) (bw z))) := by
                subst hτ2 e118
                exact ⟨rfl, rfl⟩
              exact (ag1.k.tr ak2).tr ag3.k
          · have hts : th s = true := by
              cases e : th s with
              | true => rfl
              | false => rw [(mb.2 s hs100).2 e] at c4; exact absurd rfl c4
            refine hX _ ⟨s + 1, by omega, fun j hj => ?_, rfl⟩ ?_
            · by_cases w : j = s
              · rw [w]; exact hts
              · exact hall j (by omega)
            · rw [nI_clamp (by omega), nI_clamp (by omega)]; omega
        · rw [l_m1]
          exact m_answer (n := 1) (by omega) (by omega) (k3 z hz hz2 (by omega))
  -- the class
  unfold wX6_want
  refine x_hasZ xz hzn ha (fun q => ⟨fun w => absurd rfl w, fun _ => ?_⟩) (fun z hz hz2 => ⟨fun _ => ?_, fun q => absurd q (by decide)⟩)
  · rw [l_m1]
    exact x_tell (n := 1) (by omega) (by omega) (mk _ _ (fun _ => ⟨rfl, h.ans 1⟩) (fun z w1 w2 => by omega) (fun z w1 w2 => by omega) (fun z n w1 w2 => by omega) (fun z n s p w1 w2 => by omega))
  · obtain ⟨hk5, hc⟩ := hT.1.2.2.2 z hz2
    have hM : mst (kd z) (cl z) ≤ 2000 := by
      unfold mst
      by_cases c0 : kd z = 0
      · rw [if_pos c0]; have := hc c0; omega
      · rw [if_neg c0]; split <;> omega
    have ebm0 : (0 : Int32) ≤ iI b ↔ 0 ≤ b := by rw [l_0]; exact iI_le (by omega) (by omega) (by omega) (by omega)
    rw [ebm0]
    have ez : iI a = nI z := by rw [hz, iI_nat]
    refine ⟨fun c => ?_, fun c => ?_⟩
    · rw [ez]
      refine x_keeperOf xz hzn hz2 hk5 (x_mostOf hzn xz hz2 hc ?_)
      have ebM : iI b ≤ nI (mst (kd z) (cl z)) ↔ b ≤ (mst (kd z) (cl z) : Int) := by rw [nI_iI]; exact iI_le (by omega) (by omega) (by omega) (by omega)
      rw [ebM]
      refine ⟨fun c2 => ?_, fun c2 => ?_⟩
      · obtain ⟨n, rfl⟩ := Int.eq_ofNat_of_zero_le (show 0 ≤ b by omega)
        have hn : n ≤ mst (kd z) (cl z) := by omega
        have full : ∀ σ', σ' = σx → ((∀ i, i < 100 → th i = true) ∨ TK pg zn ow ln hd kd cl th sz zo pl z n (-1)) → wX6_tell (-6) σ' (fun r66 σ66 => wX7_want (nI z) (iI (n : Int)) σm (fun r' σm' => r66 = r' ∧ II κ σ66 σm')) := by
          intro σ' hσ' w
          subst hσ'
          rw [l_m6, ← ez]
          refine x_tell (n := 6) (by omega) (by omega) (mk _ _ (fun w => by omega) (fun z' w1 w2 w3 => by omega) (fun z' w1 w2 w3 => ?_) (fun z' n' w1 w2 w3 w4 _ => ⟨rfl, h.ans 6⟩) (fun z' n' s p w1 w2 w3 w4 w5 w6 w7 w8 => ?_))
          · rw [show z' = z by omega] at w3; omega
          · exfalso
            rw [show z' = z by omega, show n' = n by omega] at w8
            rcases w with w | w
            · rw [w s w5] at w6; exact absurd w6 (by decide)
            · have := w.uni w8; omega
        refine x_lowest xb (zo8 g1) (fun hall => ⟨fun w => absurd w (by decide), fun _ => full σx rfl (Or.inl hall)⟩) (fun s hs100 hts hall => ⟨fun _ => ?_, fun w => absurd (nI_pos' (by omega)) w⟩)
        rw [iI_nat]
        refine x_takeK g1 xg xz xb hz2 hn (fun htk => ⟨fun w => absurd w (by decide), fun _ => ?_⟩) (fun p σ1 ow1 ln1 hd1 htk T hS1 xg1 ag1 bl1 mi1 => ⟨fun _ => ?_, fun w => absurd (nI_pos' (by have := T.2.2.2.1.1; omega)) w⟩)
        · have := full σx rfl (Or.inr htk)
          rw [iI_nat] at this
          exact this
        · obtain ⟨tT, tK, tJ, ⟨tp, tl, tf, to⟩, tlen⟩ := id T
          have htb := (tT.2.1 p tp tl).2.1
          have hv : vp_in (nI s) 100 := vp_in_nI hs100 (by omega)
          refine ⟨hv, hv, ?_⟩
          rw [nI_clamp (by omega)]
          obtain ⟨σ2, hσ2⟩ : ∃ σ2, σ2 = sA σ1 3 s (gA σ1 3 s + 1) := ⟨_, rfl⟩
          rw [← hσ2]
          have xg2 : XG pg ow1 ln1 hd1 σ2 := by subst hσ2; exact xg1
          have xz2 : XZ zn kd cl bw σ2 := by
            have q : XZ zn kd cl bw σ1 := xz.agp ag1
            subst hσ2
            exact q
          have hl2 : 2 ≤ ln1 p ∨ ¬ kd z = 5 := by
            by_cases c5 : kd z = 5
            · left
              rw [tlen, if_neg (by omega)]
              unfold due
              rw [if_neg (by omega), if_neg (by omega), if_pos c5]
              omega
            · exact Or.inr c5
          refine x_putBlock hp xg2 xz2 hzn hs100 hz2 hk5 tp tl tf htb hl2 ?_
          obtain ⟨σ3, hσ3⟩ : ∃ σ3, σ3 = putX σ2 s z p (ln1 p) n (kd z) (bw z) := ⟨_, rfl⟩
          rw [← hσ3]
          obtain ⟨hd2, hhd2⟩ : ∃ hd2 : Nat → Int, hd2 = fup hd1 p (s : Int) := ⟨_, rfl⟩
          have d1 : hd2 p = s := by rw [hhd2]; exact fup_s _ _ _
          have d2 : ∀ j, j ≠ p → hd2 j = hd1 j := fun j hj => by rw [hhd2]; exact fup_n _ _ hj
          obtain ⟨aK, aS, aJ, aSet⟩ := asg (sz := sz) (hd' := hd2) (th' := fup th s true) (sz' := fup sz s n) (zo' := fup zo s z) (pl' := fup pl s p) T hs100 hts (hSz.same bl1) hn hz2 d1 d2 (fup_s _ _ _) (fun i hi => fup_n _ _ hi) (fup_s _ _ _) (fun i hi => fup_n _ _ hi) (fup_s _ _ _) (fun i hi => fup_n _ _ hi) (fup_s _ _ _) (fun i hi => fup_n _ _ hi)
          have hRest : Rest z pg zn ow1 ln1 hd2 kd cl (fup th s true) (fup sz s n) (fup zo s z) (fup pl s p) := ⟨tT, aK, aS, ⟨fun j a b c d e f _ => aJ.1 j a b c d e f, fun j a b c d e _ => aJ.2 j a b c d e⟩, aSet _ hS1⟩
          have xg3 : XG pg ow1 ln1 hd2 σ3 := by
            subst hσ3
            refine ⟨xg2.1, xg2.2.1, fun j hj => ?_⟩
            show upd (gA σ2 1) p (iI (-1 - (s : Int))) j = _
            unfold upd
            by_cases w : j = p
            · rw [if_pos w, w, d1]
              unfold mkI
              rw [if_neg (by omega), if_neg (by omega)]
            · rw [if_neg w, d2 j w]; exact xg2.2.2 j hj
          have xz3 : XZ zn kd cl bw σ3 := by subst hσ3; exact xz2
          have xb3 : XB ln1 (fup th s true) (fup sz s n) (fup zo s z) (fup pl s p) σ3 := by
            have xb1 := xb.agp ag1 bl1
            subst hσ3 hσ2
            intro i hi
            show (_ → upd (gA σ1 4) s (nI z) i = _ ∧ upd (gA σ1 5) s (nI p) i = _ ∧ upd (gA σ1 6) s (nI (ln1 p)) i = _ ∧ upd (gA σ1 7) s (nI n) i = _) ∧ (_ → upd (gA σ1 4) s (nI z) i = _)
            unfold upd fup
            by_cases w : i = s
            · rw [if_pos w, if_pos w, if_pos w, if_pos w, if_pos w, if_pos w, if_pos w, if_pos w]
              exact ⟨fun _ => ⟨rfl, rfl, rfl, rfl⟩, fun q => absurd q (by decide)⟩
            · rw [if_neg w, if_neg w, if_neg w, if_neg w, if_neg w, if_neg w, if_neg w, if_neg w]
              exact xb1 i hi
          refine x_tidyK hRest xg3 xz3 xb3 hz2 (fun σ4 o4 l4 d4 hG4 xg4 ag4 bl4 mi4 => ?_)
          unfold wX3_handleOf
          have e3 : gA σ4 3 s = gA σx 3 s + 1 := by
            rw [ag4.2.1 3 (by omega) (by omega)]
            subst hσ3 hσ2
            show upd (gA σ1 3) s (gA σ1 3 s + 1) s = _
            unfold upd
            rw [if_pos rfl, ag1.2.1 3 (by omega) (by omega)]
          rw [nI_clamp (by omega), e3, hraw.1 s hs100]
          refine ⟨hv, ?_⟩
          rw [← ez, ← iI_nat n]
          refine mk _ _ (fun w => by omega) (fun z' w1 w2 w3 => by omega) (fun z' w1 w2 w3 => ?_) (fun z' n' w1 w2 w3 w4 w5 => ?_) (fun z' n' s' p' w1 w2 w3 w4 w5 w6 w7 w8 τ' ow' ln' hd' L hG' mg' mz' mb' f4 fB fL f9 f10 fV fK mi' => ?_)
          · rw [show z' = z by omega] at w3; omega
          · exfalso
            rw [show z' = z by omega, show n' = n by omega] at w5
            rcases w5 with w5 | w5
            · rw [w5 s hs100] at hts; exact absurd hts (by decide)
            · have := w5.uni htk; omega
          · have ezz : z' = z := by omega
            have enn : n' = n := by omega
            subst ezz enn
            have epp : p' = p := by have := w8.uni htk; omega
            subst epp
            have ess : s' = s := by
              rcases Nat.lt_trichotomy s' s with w | w | w
              · rw [hall s' w] at w6; exact absurd w6 (by decide)
              · exact w
              · rw [w7 s w] at hts; exact absurd hts (by decide)
            subst ess
            refine ⟨rfl, ?_, ⟨fun k hk => ?_, ?_⟩, h4.ag fK⟩
            · refine RS.fin hG4 xg4 (xz3.agp ag4) (xb3.agp ag4 bl4) hG' mg' mz' mb' (fun k hk => ((mi4 k hk).trans (mi1 k hk)).trans (mi' k hk).symm) ⟨fun i hi => ?_, fun j hj => ?_, fun k hk => ?_⟩
              · rw [ag4.2.1 3 (by omega) (by omega), f4 i]
                subst hσ3 hσ2
                show upd (gA σ1 3) s' (gA σ1 3 s' + 1) i = _
                unfold upd
                rw [ag1.2.1 3 (by omega) (by omega)]
                by_cases w : i = s'
                · rw [if_pos w, if_pos w, hraw.1 s' w5]
                · rw [if_neg w, if_neg w]; exact hraw.1 i hi
              · rw [ag4.2.2.1 0, fB, fL, ← tlen]
                subst hσ3 hσ2
                show gw (kd z') (gB σ1 0) p' (ln1 p') (bw z') j = _
                rw [ag1.2.2.1 0]
                exact gw_congr hraw.2.1 j hj
              · rw [ag4.2.1 8 (by omega) (by omega), f9]
                subst hσ3 hσ2
                show gA σ1 8 k = _
                rw [ag1.2.1 8 (by omega) (by omega)]
                exact hraw.2.2 k hk
            · rw [ag4.2.1 11 (by omega) (by omega), f10]
              subst hσ3 hσ2
              show gA σ1 11 k = _
              rw [ag1.2.1 11 (by omega) (by omega)]
              exact h2.1 k hk
            · rw [ag4.2.2.2 0, fV]
              subst hσ3 hσ2
              show gL σ1 0 = _
              rw [ag1.2.2.2 0]
              exact h2.2
      · rw [l_m1, ← ez]
        refine x_tell (n := 1) (by omega) (by omega) (mk _ _ (fun w => by omega) (fun z' w1 w2 w3 => by omega) (fun z' w1 w2 w3 => ⟨rfl, h.ans 1⟩) (fun z' n' w1 w2 w3 w4 => ?_) (fun z' n' s p w1 w2 w3 w4 => ?_))
        · rw [show z' = z by omega] at w4; omega
        · rw [show z' = z by omega] at w4; omega
    · rw [l_m3]
      exact x_tell (n := 3) (by omega) (by omega) (mk _ _ (fun w => by omega) (fun z' w1 w2 w3 => ⟨rfl, h.ans 3⟩) (fun z' w1 w2 w3 => by omega) (fun z' n' w1 w2 w3 => by omega) (fun z' n' s p w1 w2 w3 => by omega))
