theorem AgK.of2 {τ τ' : SS} (h1 : ∀ k, gI τ' k = gI τ k) (h2 : ∀ k, k ≠ 0 → k ≠ 1 → k ≠ 2 → k ≠ 6 → k ≠ 7 → k ≠ 8 → gA τ' k = gA τ k) (h3 : ∀ k, k ≠ 0 → gB τ' k = gB τ k) : AgK τ τ' := by
  refine ⟨h1 3, ?_⟩
  unfold kview
  rw [h1 4, h1 5, h1 6, h2 11 (by omega) (by omega) (by omega) (by omega) (by omega) (by omega), h2 12 (by omega) (by omega) (by omega) (by omega) (by omega) (by omega), h2 13 (by omega) (by omega) (by omega) (by omega) (by omega) (by omega), h2 14 (by omega) (by omega) (by omega) (by omega) (by omega) (by omega), h2 15 (by omega) (by omega) (by omega) (by omega) (by omega) (by omega), h2 16 (by omega) (by omega) (by omega) (by omega) (by omega) (by omega), h2 17 (by omega) (by omega) (by omega) (by omega) (by omega) (by omega), h2 18 (by omega) (by omega) (by omega) (by omega) (by omega) (by omega), h2 19 (by omega) (by omega) (by omega) (by omega) (by omega) (by omega), h2 20 (by omega) (by omega) (by omega) (by omega) (by omega) (by omega), h3 2 (by omega), h3 3 (by omega)]
section GROWI
variable {pg zn : Nat} {ow : Nat → Int} {ln kd cl : Nat → Nat} {hd : Nat → Int} {th : Nat → Bool} {sz zo pl : Nat → Nat} {bw : Nat → Int64} {τ : SS}
theorem m_grow132 {τ1 : SS} {l' : Nat → Nat} {d' : Nat → Int} {s n : Nat} (hg : Gh pg zn ow ln hd kd cl th sz zo pl) (mz : MZ zn kd cl bw τ1) (mb : MB th sz zo pl τ1) (hs : s < 100) (ht : th s = true) (hnM : n ≤ mst (kd (zo s)) (cl (zo s))) (hT' : Tiled pg zn ow l' kd cl) (hK' : OkK pg zn ow l' d' th zo pl) (hJ' : OkJ pg ow l' d' kd) (hl' : l' (pl s) = ndl (kd (zo s)) (cl (zo s)) n) (bl' : ∀ i, i < 100 → th i = true → i ≠ s → l' (pl i) = ln (pl i)) (mg : MG pg ow l' d' τ1) {Q : Int32 → SS → Prop} (k : ∀ τ' ow' ln' hd', Gh pg zn ow' ln' hd' kd cl th (fup sz s n) zo pl → MG pg ow' ln' hd' τ' → MZ zn kd cl bw τ' → MB th (fup sz s n) zo pl τ' → (∀ k, gI τ' k = gI τ1 k) → (∀ k, k ≠ 0 → k ≠ 1 → k ≠ 2 → k ≠ 6 → gA τ' k = gA τ1 k) → (∀ k, k ≠ 0 → gB τ' k = gB τ1 k) → gB τ' 0 = gw (kd (zo s)) (gB τ1 0) (pl s) (ndl (kd (zo s)) (cl (zo s)) n) (bw (zo s)) → (∀ k, gL τ' k = gL τ1 k) → (∀ k, k < pg → (ow' k = -2 ↔ ow k = -2)) → Q 1 τ') : wX7_grow_b132 (nI n) (nI s) τ1 Q := by
  have hv : vp_in (nI s) 100 := vp_in_nI hs (by omega)
  unfold wX7_grow_b132
  rw [nI_clamp (by omega)]
  refine ⟨hv, ?_⟩
  refine m_resEnd (τ0 := τ1) (ow' := ow) (τ := sA τ1 6 s (nI n)) hg hs ht hnM hT' hK' hJ' hl' bl' (show MG pg ow l' d' (sA τ1 6 s (nI n)) from mg) (show MZ zn kd cl bw (sA τ1 6 s (nI n)) from mz) (mb.size hs) (fun τ3 o3 l3 d3 hG3 mg3 mz3 mb3 ag3 mi3 => ?_)
  refine k τ3 o3 l3 d3 hG3 mg3 mz3 mb3 (fun k => ?_) (fun k k0 k1 k2 k6 => ?_) (fun k k0 => ?_) ?_ (fun k => ?_) mi3
  · rw [ag3.1 k]
    rfl
  · rw [ag3.2.1 k k0 k1 k2]
    show gA (sA τ1 6 s (nI n)) k = _
    exact gA_sA_ne _ _ _ k6
  · rw [ag3.2.2.1 k, gB_sBB, if_neg k0]
    rfl
  · rw [ag3.2.2.1 0, gB_sBB_self]
    rfl
  · rw [ag3.2.2.2 k]
    rfl
end GROWI
theorem s_grow : stp_grow II := by
  intro κ σx σm x1 x2 h
  obtain ⟨a, ha, rfl⟩ := ex_iI x1
  obtain ⟨b, hb, rfl⟩ := ex_iI x2
  obtain ⟨⟨pg, zn, ow, ln, hd, kd, cl, bw, th, sz, zo, pl, hg⟩, h2, h4⟩ := id h
  obtain ⟨g1, ⟨xg, xz, xb⟩, ⟨mg, mz, mb⟩, hraw⟩ := id hg
  have ef := fnd_congr (gv := gA σx 3) (gv' := gA σm 4) th a hraw.1
  unfold R32 at hb
  unfold wX6_grow
  refine x_ask g1 xb ha (fun n e n1 n2 => ?_) (fun s e s1 s2 => ?_)
  · rw [ef] at e ⊢
    unfold wX7_grow wX7_grow_b18 wX7_grow_b33 wX7_grow_b44
    refine m_look mb ha ?_
    rw [if_pos (by omega)]
    refine ⟨fun c => absurd c (by rw [l_0, e, iI_le (by omega) (by omega) (by omega) (by omega)]; omega), fun _ => ⟨fun _ => ⟨fun c => absurd c (by rw [l_0, e, iI_le (by omega) (by omega) (by omega) (by omega)]; omega), fun _ => ?_⟩, fun c => absurd (by rw [l_0, e, iI_lt (by omega) (by omega) (by omega) (by omega)]; omega) c⟩⟩
    rw [e]
    exact m_answer n1 n2 ⟨rfl, h.ans n⟩
  · rw [ef] at e
    obtain ⟨z1, z2, z3, z4, z5, z6, z7, z8, z9⟩ := blk g1 s1 s2
    obtain ⟨x4, x5, x6, x7⟩ := (xb s s1).1 s2
    have hc := (g1.1.1.2.2.2 _ z1).2
    have hv : vp_in (nI s) 100 := vp_in_nI s1 (by omega)
    have er := handleRem ha e
    have hM : mst (kd (zo s)) (cl (zo s)) ≤ 2000 := by
      unfold mst
      by_cases c0 : kd (zo s) = 0
      · rw [if_pos c0]; have := hc c0; omega
      · rw [if_neg c0]; split <;> omega
    have hsp : spw (kd (zo s)) (gB σx 0) (bw (zo s)) (pl s) (ln (pl s)) = spw (kd (zo s)) (gB σm 0) (bw (zo s)) (pl s) (ln (pl s)) := by
      by_cases h5 : kd (zo s) = 5
      · have h9 := z9 (by omega)
        rw [if_pos h5] at h9
        exact spw_congr (by omega) (by omega) hraw.2.1
      · unfold spw; rw [if_neg h5, if_neg h5]
    have hsl := spw_le (kd (zo s)) (gB σm 0) (bw (zo s)) (pl s) (ln (pl s))
    have ebs : iI b < nI (sz s) ↔ b < (sz s : Int) := by rw [nI_iI]; exact iI_lt (by omega) (by omega) (by omega) (by omega)
    have ebM : iI b ≤ nI (mst (kd (zo s)) (cl (zo s))) ↔ b ≤ (mst (kd (zo s)) (cl (zo s)) : Int) := by rw [nI_iI]; exact iI_le (by omega) (by omega) (by omega) (by omega)
    have mk : ∀ (r : Int32) (σ' : SS), (¬ spw (kd (zo s)) (gB σm 0) (bw (zo s)) (pl s) (ln (pl s)) = 0 → r = iI (-8) ∧ II κ σ' (ansM σm 8)) → (spw (kd (zo s)) (gB σm 0) (bw (zo s)) (pl s) (ln (pl s)) = 0 → b < (sz s : Int) ∨ (mst (kd (zo s)) (cl (zo s)) : Int) < b → r = iI (-1) ∧ II κ σ' (ansM σm 1)) → (spw (kd (zo s)) (gB σm 0) (bw (zo s)) (pl s) (ln (pl s)) = 0 → ∀ n : Nat, b = n → sz s ≤ n → n ≤ mst (kd (zo s)) (cl (zo s)) → InP pg ow ln hd kd sz zo pl s n → ∀ τ' ow' ln' hd', Gh pg zn ow' ln' hd' kd cl th (fup sz s n) zo pl → MG pg ow' ln' hd' τ' → MZ zn kd cl bw τ' → MB th (fup sz s n) zo pl τ' → (∀ k, gI τ' k = gI σm k) → (∀ k, k ≠ 0 → k ≠ 1 → k ≠ 2 → k ≠ 6 → gA τ' k = gA σm k) → (∀ k, k ≠ 0 → gB τ' k = gB σm k) → gB τ' 0 = nmM (kd (zo s)) (gB σm 0) (pl s) (ln (pl s)) (ndl (kd (zo s)) (cl (zo s)) n) (pl s + ahd (kd (zo s)) + n) 0 (bw (zo s)) → (∀ k, gL τ' k = gL σm k) → (∀ k, k < pg → (ow' k = -2 ↔ ow k = -2)) → r = 1 ∧ II κ σ' τ') → (spw (kd (zo s)) (gB σm 0) (bw (zo s)) (pl s) (ln (pl s)) = 0 → ∀ n : Nat, b = n → sz s ≤ n → n ≤ mst (kd (zo s)) (cl (zo s)) → ¬ InP pg ow ln hd kd sz zo pl s n → TK pg zn ow ln hd kd cl th sz zo pl (zo s) n (-1) → r = iI (-6) ∧ II κ σ' (ansM σm 6)) → (spw (kd (zo s)) (gB σm 0) (bw (zo s)) (pl s) (ln (pl s)) = 0 → ∀ n q : Nat, b = n → sz s < n → n ≤ mst (kd (zo s)) (cl (zo s)) → ¬ InP pg ow ln hd kd sz zo pl s n → TK pg zn ow ln hd kd cl th sz zo pl (zo s) n q → ∀ τ' ow' ln' hd', Gh pg zn ow' ln' hd' kd cl th (fup sz s n) zo (fup pl s q) → MG pg ow' ln' hd' τ' → MZ zn kd cl bw τ' → MB th (fup sz s n) zo (fup pl s q) τ' → (∀ k, gI τ' k = gI σm k) → (∀ k, k ≠ 0 → k ≠ 1 → k ≠ 2 → k ≠ 6 → k ≠ 7 → k ≠ 8 → gA τ' k = gA σm k) → (∀ k, k ≠ 0 → gB τ' k = gB σm k) → gB τ' 0 = mvM (kd (zo s)) (gB σm 0) q (ndl (kd (zo s)) (cl (zo s)) n) (bw (zo s)) (pl s + ahd (kd (zo s))) (q + ahd (kd (zo s))) (sz s) (pl s) (ln (pl s)) → (∀ k, gL τ' k = gL σm k) → (∀ k, k < pg → (ow' k = -2 ↔ ow k = -2)) → r = 2 ∧ II κ σ' τ') → wX7_grow (iI a) (iI b) σm (fun r' τ' => r = r' ∧ II κ σ' τ') := by
      intro r σ' k8 k1 kin k6 kmv
      obtain ⟨-, y6, y7, y8⟩ := (mb.2 s s1).1 s2
      have hvz : vp_in (nI (zo s)) 8 := vp_in_nI (by omega) (by omega)
      unfold wX7_grow wX7_grow_b18 wX7_grow_b33 wX7_grow_b44 wX7_grow_b78
      refine m_look mb ha ?_
      rw [if_neg (by omega), er, nI_clamp (show s < 2 ^ 31 by omega), y6, y7, y8, ebs]
      refine ⟨fun _ => ⟨fun c => absurd c (by decide), fun _ => m_spoilt mb mz g1 s1 s2 ⟨fun c => ⟨hv, hv, fun c2 => ?_, fun c2 => m_most z2 mz z1 z3 ?_⟩, fun c => ⟨fun _ => ?_, fun c2 => absurd (by decide) c2⟩⟩⟩, fun c => absurd (by decide) c⟩
      · have hs0 : spw (kd (zo s)) (gB σm 0) (bw (zo s)) (pl s) (ln (pl s)) = 0 := (nI_eq (b := 0) (by omega) (by omega)).mp c
        rw [l_m1]
        exact m_answer (n := 1) (by omega) (by omega) (k1 hs0 (Or.inl c2))
      · have hs0 : spw (kd (zo s)) (gB σm 0) (bw (zo s)) (pl s) (ln (pl s)) = 0 := (nI_eq (b := 0) (by omega) (by omega)).mp c
        rw [ebM]
        refine ⟨fun c3 => ⟨hv, hv, ?_⟩, fun c3 => ?_⟩
        · obtain ⟨n, rfl⟩ := Int.eq_ofNat_of_zero_le (show 0 ≤ b by omega)
          have hn1 : sz s ≤ n := by omega
          have hn2 : n ≤ mst (kd (zo s)) (cl (zo s)) := by omega
          rw [iI_nat]
          refine m_grows g1 mg mz mb s1 s2 hn1 hn2 (fun hin τ1 l1 d1 hT1 hK1 hJ1 hl1 bl1 mg1 ag1 => ⟨fun w => absurd w (by decide), fun _ => ⟨hvz, ?_⟩⟩) (fun hin => ⟨fun _ => ⟨hv, ?_⟩, fun w => absurd rfl w⟩)
          · have mz1 := mz.agq ag1
            have mb1 := mb.agq ag1
            have q5 : nI (kd (zo s)) = 5 ↔ kd (zo s) = 5 := nI_eq (b := 5) (by omega) (by omega)
            rw [nI_clamp (show zo s < 2 ^ 31 by omega), (mz1.2 _ z1).1, q5]
            refine ⟨fun c5 => ?_, fun c5 => ?_⟩
            · refine m_grow132 g1 mz1 mb1 s1 s2 hn2 hT1 hK1 hJ1 hl1 bl1 mg1 (fun τ' o l d b1 b2 b3 b4 b5 b6 b7 b8 b9 b10 => kin hs0 n rfl hn1 hn2 hin τ' o l d b1 b2 b3 b4 (fun k => (b5 k).trans (ag1.1 k)) (fun k k0 k1 k2 k6 => (b6 k k0 k1 k2 k6).trans (ag1.2.1 k k0 k1 k2)) (fun k k0 => (b7 k k0).trans (ag1.2.2.1 k)) ?_ (fun k => (b9 k).trans (ag1.2.2.2 k)) b10)
              rw [b8, ag1.2.2.1 0]
              unfold nmM
              rw [if_neg c5, rng_0]
            · have hlen := z9 (by omega)
              rw [if_pos c5] at hlen
              have el : nI (pl s) + 2 + nI (sz s) = nI (pl s + ln (pl s) - 1) := by
                rw [show (2 : Int32) = nI 2 from rfl, nI_add, nI_add]
                congr 1
                omega
              rw [el, nI_clamp (by omega)]
              refine ⟨vp_in_nI (by omega) (by omega), ?_⟩
              refine m_grow132 (τ1 := sB τ1 0 (pl s + ln (pl s) - 1) 0) g1 mz1 mb1 s1 s2 hn2 hT1 hK1 hJ1 hl1 bl1 mg1 (fun τ' o l d b1 b2 b3 b4 b5 b6 b7 b8 b9 b10 => kin hs0 n rfl hn1 hn2 hin τ' o l d b1 b2 b3 b4 (fun k => (b5 k).trans (ag1.1 k)) (fun k k0 k1 k2 k6 => (b6 k k0 k1 k2 k6).trans (ag1.2.1 k k0 k1 k2)) (fun k k0 => (b7 k k0).trans ((gB_sB_ne _ _ _ k0).trans (ag1.2.2.1 k))) ?_ (fun k => (b9 k).trans (ag1.2.2.2 k)) b10)
              rw [b8, gB_sB, ag1.2.2.1 0]
              unfold nmM
              rw [if_pos c5, rng_0]
          · rw [y8]
            have hlt : sz s < n := by
              rcases Nat.lt_or_ge (sz s) n with w | w
              · exact w
              · exact absurd (Or.inl (show n = sz s by omega)) hin
            refine m_taken g1 mg mz z1 hn2 (fun htk => ⟨fun w => absurd w (by decide), fun _ => ?_⟩) (fun q τ1 ow1 ln1 hd1 htk T mg1 ag1 bl1 mi1 => ⟨fun _ => ?_, fun w => absurd (nI_pos' (by have := T.2.2.2.1.1; omega)) w⟩)
            · rw [l_m6]
              exact m_answer (n := 6) (by omega) (by omega) (k6 hs0 n rfl hn1 hn2 hin htk)
            · exact m_move g1 mz mb s1 s2 hlt hn2 T mg1 ag1 bl1 mi1 (kmv hs0 n q rfl hlt hn2 hin htk)
        · rw [l_m1]
          exact m_answer (n := 1) (by omega) (by omega) (k1 hs0 (Or.inr (by omega)))
      · rw [l_m8]
        exact m_answer (n := 8) (by omega) (by omega) (k8 (fun w => c (by rw [w]; rfl)))
    -- the class
    have bad : spw (kd (zo s)) (gB σm 0) (bw (zo s)) (pl s) (ln (pl s)) = 0 → (b < (sz s : Int) ∨ (mst (kd (zo s)) (cl (zo s)) : Int) < b) → wX6_grow_b80 σx (fun r σx' => wX7_grow (iI a) (iI b) σm (fun r' σm' => r = r' ∧ II κ σx' σm')) := by
      intro hs0 hc2
      unfold wX6_grow_b80
      rw [l_m1]
      exact x_tell (n := 1) (by omega) (by omega) (mk _ _ (fun w => absurd hs0 w) (fun _ _ => ⟨rfl, h.ans 1⟩) (fun _ n w1 w2 w3 => by omega) (fun _ n w1 w2 w3 => by omega) (fun _ n q w1 w2 w3 => by omega))
    refine x_spoiledWords xb xz g1 s1 s2 ⟨fun c => ?_, fun c => ?_⟩
    · rw [hsp] at c
      have hs0 : spw (kd (zo s)) (gB σm 0) (bw (zo s)) (pl s) (ln (pl s)) = 0 := (nI_eq (b := 0) (by omega) (by omega)).mp c
      rw [nI_clamp (by omega), x4, x7, ebs]
      refine ⟨hv, x_keeperOf xz z2 z1 z3 ⟨hv, fun c2 => bad hs0 (Or.inl c2), fun c2 => x_mostOf z2 xz z1 hc ?_⟩⟩
      rw [ebM]
      refine ⟨fun c3 => ⟨hv, ?_⟩, fun c3 => bad hs0 (Or.inr (by omega))⟩
      obtain ⟨n, rfl⟩ := Int.eq_ofNat_of_zero_le (show 0 ≤ b by omega)
      have hn1 : sz s ≤ n := by omega
      have hn2 : n ≤ mst (kd (zo s)) (cl (zo s)) := by omega
      have hnn : iI (n : Int) = nI n := iI_nat n
      rw [hnn] at mk ⊢
      have een : nI n = nI (sz s) ↔ n = sz s := nI_eq (by omega) (by omega)
      rw [een]
      refine ⟨fun c4 => ?_, fun c4 => ?_⟩
      · have hlt : sz s < n := by omega
        refine x_fitsK g1 xg xb s1 s2 hlt (by omega) (fun hin => ⟨fun w => absurd w (by decide), fun _ => ?_⟩) (fun hin => ⟨fun _ => ?_, fun w => absurd rfl w⟩)
        · have y4 := (g1.2.2.1 s s1 s2).2.2.2
          refine x_resize g1 xg xz xb s1 s2 hn2 (fun c1 => ?_) (fun ck => ?_) (fun σ' o4 l4 d4 hG4 xg4 xz4 xb4 fA fB fL mi4 => ?_)
          · unfold InP at hin
            omega
          · have hl := y4 ck
            unfold InP at hin
            unfold due
            rw [if_neg (show ¬ kd (zo s) = 0 by omega), if_neg (show ¬ kd (zo s) = 1 by omega)]
            omega
          · refine mk _ _ (fun w => absurd hs0 w) (fun _ w => by omega) (fun _ n' w1 w2 w3 w4 τ' ow' ln' hd' hG' mg' mz' mb' f1 f2 f3 f4 f5 mi' => ?_) (fun _ n' w1 w2 w3 w4 => absurd (by rw [show n' = n by omega]; exact hin) w4) (fun _ n' q w1 w2 w3 w4 => absurd (by rw [show n' = n by omega]; exact hin) w4)
            have : n' = n := by omega
            subst this
            refine ⟨rfl, ?_, ⟨fun k hk => ?_, ?_⟩, h4.ag (AgK.of f1 f2 f3)⟩
            · refine RS.fin hG4 xg4 xz4 xb4 hG' mg' mz' mb' (fun k hk => (mi4 k hk).trans (mi' k hk).symm) ⟨fun i hi => ?_, fun j hj => ?_, fun k hk => ?_⟩
              · rw [fA 3 (by omega) (by omega) (by omega) (by omega), f2 4 (by omega) (by omega) (by omega) (by omega)]
                exact hraw.1 i hi
              · rw [fB, f4, show sz s - n' = 0 by omega]
                exact nm_eq hraw.2.1 j hj
              · rw [fA 8 (by omega) (by omega) (by omega) (by omega), f2 9 (by omega) (by omega) (by omega) (by omega)]
                exact hraw.2.2 k hk
            · rw [fA 11 (by omega) (by omega) (by omega) (by omega), f2 10 (by omega) (by omega) (by omega) (by omega)]
              exact h2.1 k hk
            · rw [fL, f5 0]
              exact h2.2
        · refine x_takeK g1 xg xz xb z1 hn2 (fun htk => ⟨fun w => absurd w (by decide), fun _ => ?_⟩) (fun q σ1 ow1 ln1 hd1 htk T hS1 xg1 ag1 bl1 mi1 => ⟨fun _ => ?_, fun w => absurd (nI_pos' (by have := T.2.2.2.1.1; omega)) w⟩)
          · rw [l_m6]
            exact x_tell (n := 6) (by omega) (by omega) (mk _ _ (fun w => absurd hs0 w) (fun _ w => by omega) (fun _ n' w1 w2 w3 w4 => absurd (by rw [show n = n' by omega]; exact w4) hin) (fun _ n' w1 w2 w3 w4 w5 => ⟨rfl, h.ans 6⟩) (fun _ n' q w1 w2 w3 w4 w5 => by
              exfalso
              rw [show n' = n by omega] at w5
              have := w5.uni htk
              omega))
          · refine x_move g1 xz xb s1 s2 hlt hn2 T hS1 xg1 ag1 bl1 mi1 (fun σ' o4 l4 d4 hG4 xg4 xz4 xb4 fA fB fL mi4 => ?_)
            have hmv := mvNum g1 T bl1 s1 s2 hlt hn2
            have elq : ln1 q = ndl (kd (zo s)) (cl (zo s)) n := T.2.2.2.2
            refine mk _ _ (fun w => absurd hs0 w) (fun _ w => by omega) (fun _ n' w1 w2 w3 w4 => absurd (by rw [show n = n' by omega]; exact w4) hin) (fun _ n' w1 w2 w3 w4 w5 => ?_) (fun _ n' q' w1 w2 w3 w4 w5 τ' ow' ln' hd' hG' mg' mz' mb' f1 f2 f3 f4 f5 mi' => ?_)
            · exfalso
              rw [show n' = n by omega] at w5
              have := w5.uni htk
              omega
            · have : n' = n := by omega
              subst this
              have eqq : q' = q := by have := w5.uni htk; omega
              subst eqq
              refine ⟨rfl, ?_, ⟨fun k hk => ?_, ?_⟩, h4.ag (AgK.of2 f1 f2 f3)⟩
              · refine RS.fin hG4 xg4 xz4 xb4 hG' mg' mz' mb' (fun k hk => (mi4 k hk).trans (mi' k hk).symm) ⟨fun i hi => ?_, fun j hj => ?_, fun k hk => ?_⟩
                · rw [fA 3 (by omega) (by omega) (by omega) (by omega) (by omega) (by omega), f2 4 (by omega) (by omega) (by omega) (by omega) (by omega) (by omega)]
                  exact hraw.1 i hi
                · rw [fB, f4, ← elq]
                  exact mv_eq hraw.2.1 hmv.1 hmv.2.1 hmv.2.2.1 j hj
                · rw [fA 8 (by omega) (by omega) (by omega) (by omega) (by omega) (by omega), f2 9 (by omega) (by omega) (by omega) (by omega) (by omega) (by omega)]
                  exact hraw.2.2 k hk
              · rw [fA 11 (by omega) (by omega) (by omega) (by omega) (by omega) (by omega), f2 10 (by omega) (by omega) (by omega) (by omega) (by omega) (by omega)]
                exact h2.1 k hk
              · rw [fL, f5 0]
                exact h2.2
      · refine mk _ _ (fun w => absurd hs0 w) (fun _ w => by omega) (fun _ n' w1 w2 w3 w4 τ' ow' ln' hd' hG' mg' mz' mb' f1 f2 f3 f4 f5 mi' => ?_) (fun _ n' w1 w2 w3 w4 => absurd (Or.inl (show n' = sz s by omega)) w4) (fun _ n' q w1 w2 w3 w4 => by omega)
        have hns : n' = sz s := by omega
        refine ⟨rfl, ?_, ⟨fun k hk => ?_, ?_⟩, h4.ag (AgK.of f1 f2 f3)⟩
        · rw [hns, fup_self] at hG' mb'
          have hlen : ndl (kd (zo s)) (cl (zo s)) n' = ln (pl s) := by
            rw [hns]
            obtain ⟨y1, y2, y3, y4⟩ := g1.2.2.1 s s1 s2
            obtain ⟨b0, b1⟩ := blkLen1 g1.geo s1 s2
            have hpw := pw_cases (sz s)
            unfold ndl due
            by_cases c0 : kd (zo s) = 0
            · rw [if_pos c0]; exact (b0 c0).symm
            · rw [if_neg c0, if_neg c0]
              by_cases c1 : kd (zo s) = 1
              · rw [if_pos c1]
                have := b1 c1
                have := y3 c1
                omega
              · rw [if_neg c1]
                exact (y4 (by omega)).symm
          refine RS.fin g1 xg xz xb hG' mg' mz' mb' (fun k hk => (mi' k hk).symm) ⟨fun i hi => ?_, fun j hj => ?_, fun k hk => ?_⟩
          · rw [f2 4 (by omega) (by omega) (by omega) (by omega)]
            exact hraw.1 i hi
          · rw [f4, hlen, nm_same hs0]
            exact hraw.2.1 j hj
          · rw [f2 9 (by omega) (by omega) (by omega) (by omega)]
            exact hraw.2.2 k hk
        · rw [f2 10 (by omega) (by omega) (by omega) (by omega)]
          exact h2.1 k hk
        · rw [f5 0]
          exact h2.2
    · rw [hsp] at c
      rw [l_m8]
      exact x_tell (n := 8) (by omega) (by omega) (mk _ _ (fun _ => ⟨rfl, h.ans 8⟩) (fun w => absurd (by rw [w]; rfl) c) (fun w => absurd (by rw [w]; rfl) c) (fun w => absurd (by rw [w]; rfl) c) (fun w => absurd (by rw [w]; rfl) c))
