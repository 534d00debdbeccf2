theorem nm_same {k : Nat} {f : Nat → Int64} {p l : Nat} {w : Int64} (hs : spw k f w p l = 0) (a : Nat) : nmM k f p l l a 0 w = f := by
  unfold nmM
  rw [rng_0]
  unfold gw
  by_cases c5 : k = 5
  · rw [if_pos c5, if_pos c5]
    unfold spw at hs
    rw [if_pos c5] at hs
    have h1 : f (p + 1) = w := by
      by_cases e : f (p + 1) = w
      · exact e
      · rw [if_neg e] at hs; omega
    have h2 : f (p + l - 1) = w := by
      by_cases e : f (p + l - 1) = w
      · exact e
      · rw [if_neg e] at hs; omega
    funext j
    unfold vp_updL
    by_cases e1 : j = p + l - 1
    · rw [if_pos e1, e1, h2]
    · rw [if_neg e1]
      by_cases e2 : j = p + 1
      · rw [if_pos e2, e2, h1]
      · rw [if_neg e2, if_neg e1]
  · rw [if_neg c5, if_neg c5]
theorem AgK.of {τ τ' : SS} (h1 : ∀ k, gI τ' k = gI τ k) (h2 : ∀ k, k ≠ 0 → k ≠ 1 → k ≠ 2 → k ≠ 6 → gA τ' k = gA τ k) (h3 : ∀ k, k ≠ 0 → gB τ' k = gB τ k) : AgK τ τ' := by
  refine ⟨h1 3, ?_⟩
  unfold kview
  rw [h1 4, h1 5, h1 6, h2 11 (by omega) (by omega) (by omega) (by omega), h2 12 (by omega) (by omega) (by omega) (by omega), h2 13 (by omega) (by omega) (by omega) (by omega), h2 14 (by omega) (by omega) (by omega) (by omega), h2 15 (by omega) (by omega) (by omega) (by omega), h2 16 (by omega) (by omega) (by omega) (by omega), h2 17 (by omega) (by omega) (by omega) (by omega), h2 18 (by omega) (by omega) (by omega) (by omega), h2 19 (by omega) (by omega) (by omega) (by omega), h2 20 (by omega) (by omega) (by omega) (by omega), h3 2 (by omega), h3 3 (by omega)]
theorem s_shrink : stp_shrink II := by
  intro κ σx σm x1 x2 h
  obtain ⟨a, ha, rfl⟩ := ex_iI x1
  obtain ⟨b, hb, rfl⟩ := ex_iI x2
  obtain ⟨⟨pg, zn, ow, ln, hd, kd, cl, bw, th, sz, zo, pl, hg⟩, h2, h4⟩ := id h
  obtain ⟨g1, ⟨xg, xz, xb⟩, ⟨mg, mz, mb⟩, hraw⟩ := id hg
  have ef := fnd_congr (gv := gA σx 3) (gv' := gA σm 4) th a hraw.1
  unfold R32 at hb
  unfold wX6_shrink
  refine x_ask g1 xb ha (fun n e n1 n2 => ?_) (fun s e s1 s2 => ?_)
  · rw [ef] at e ⊢
    unfold wX7_shrink wX7_shrink_b18 wX7_shrink_b33 wX7_shrink_b44
    refine m_look mb ha ?_
    rw [if_pos (by omega)]
    refine ⟨fun c => absurd c (by rw [l_0, e, iI_le (by omega) (by omega) (by omega) (by omega)]; omega), fun _ => ⟨fun _ => ⟨fun c => absurd c (by rw [l_0, e, iI_le (by omega) (by omega) (by omega) (by omega)]; omega), fun _ => ?_⟩, fun c => absurd (by rw [l_0, e, iI_lt (by omega) (by omega) (by omega) (by omega)]; omega) c⟩⟩
    rw [e]
    exact m_answer n1 n2 ⟨rfl, h.ans n⟩
  · rw [ef] at e
    obtain ⟨z1, z2, z3, z4, z5, z6, z7, z8, z9⟩ := blk g1 s1 s2
    obtain ⟨x4, x5, x6, x7⟩ := (xb s s1).1 s2
    have hv : vp_in (nI s) 100 := vp_in_nI s1 (by omega)
    have er := handleRem ha e
    have hsp : spw (kd (zo s)) (gB σx 0) (bw (zo s)) (pl s) (ln (pl s)) = spw (kd (zo s)) (gB σm 0) (bw (zo s)) (pl s) (ln (pl s)) := by
      by_cases h5 : kd (zo s) = 5
      · have h9 := z9 (by omega)
        rw [if_pos h5] at h9
        exact spw_congr (by omega) (by omega) hraw.2.1
      · unfold spw; rw [if_neg h5, if_neg h5]
    have hsl := spw_le (kd (zo s)) (gB σm 0) (bw (zo s)) (pl s) (ln (pl s))
    have eb0 : (0 : Int32) ≤ iI b ↔ 0 ≤ b := by rw [l_0]; exact iI_le (by omega) (by omega) (by omega) (by omega)
    have ebl : iI b < (0 : Int32) ↔ b < 0 := by rw [l_0]; exact iI_lt (by omega) (by omega) (by omega) (by omega)
    have mk : ∀ (r : Int32) (σ' : SS), (¬ spw (kd (zo s)) (gB σm 0) (bw (zo s)) (pl s) (ln (pl s)) = 0 → r = iI (-8) ∧ II κ σ' (ansM σm 8)) → (spw (kd (zo s)) (gB σm 0) (bw (zo s)) (pl s) (ln (pl s)) = 0 → b < 0 → r = iI (-3) ∧ II κ σ' (ansM σm 3)) → (spw (kd (zo s)) (gB σm 0) (bw (zo s)) (pl s) (ln (pl s)) = 0 → (sz s : Int) < b → r = iI (-1) ∧ II κ σ' (ansM σm 1)) → (spw (kd (zo s)) (gB σm 0) (bw (zo s)) (pl s) (ln (pl s)) = 0 → ∀ n : Nat, b = n → n ≤ sz s → ∀ τ' ow' ln' hd', Gh pg zn ow' ln' hd' kd cl th (fup sz s n) zo pl → MG pg ow' ln' hd' τ' → MZ zn kd cl bw τ' → MB th (fup sz s n) zo pl τ' → (∀ k, gI τ' k = gI σm k) → (∀ k, k ≠ 0 → k ≠ 1 → k ≠ 2 → k ≠ 6 → gA τ' k = gA σm k) → (∀ k, k ≠ 0 → gB τ' k = gB σm k) → gB τ' 0 = nmM (kd (zo s)) (gB σm 0) (pl s) (ln (pl s)) (ndl (kd (zo s)) (cl (zo s)) n) (pl s + ahd (kd (zo s)) + n) (sz s - n) (bw (zo s)) → (∀ k, gL τ' k = gL σm k) → (∀ k, k < pg → (ow' k = -2 ↔ ow k = -2)) → r = nI (sz s - n) ∧ II κ σ' τ') → wX7_shrink (iI a) (iI b) σm (fun r' τ' => r = r' ∧ II κ σ' τ') := by
      intro r σ' k8 k3 k1 kk
      unfold wX7_shrink wX7_shrink_b18 wX7_shrink_b33 wX7_shrink_b44 wX7_shrink_b63 wX7_shrink_b74
      refine m_look mb ha ?_
      obtain ⟨-, y6, y7, y8⟩ := (mb.2 s s1).1 s2
      rw [if_neg (by omega), er, eb0, ebl, nI_clamp (show s < 2 ^ 31 by omega), y6, y7, y8]
      refine ⟨fun _ => ⟨fun c => absurd c (by decide), fun _ => m_spoilt mb mz g1 s1 s2 ⟨fun c => ⟨fun c2 => ⟨fun c3 => by omega, fun _ => ?_⟩, fun c2 => ⟨hv, ?_⟩⟩, fun c => ⟨fun _ => ?_, fun c2 => absurd (by decide) c2⟩⟩⟩, fun c => absurd (by decide) c⟩
      · have hs0 : spw (kd (zo s)) (gB σm 0) (bw (zo s)) (pl s) (ln (pl s)) = 0 := (nI_eq (b := 0) (by omega) (by omega)).mp c
        rw [l_m3]
        exact m_answer (n := 3) (by omega) (by omega) (k3 hs0 c2)
      · have hs0 : spw (kd (zo s)) (gB σm 0) (bw (zo s)) (pl s) (ln (pl s)) = 0 := (nI_eq (b := 0) (by omega) (by omega)).mp c
        have ebs : iI b ≤ nI (sz s) ↔ b ≤ (sz s : Int) := by rw [nI_iI]; exact iI_le (by omega) (by omega) (by omega) (by omega)
        rw [ebs]
        refine ⟨fun c3 => ⟨hv, hv, hv, ?_⟩, fun c3 => ⟨fun _ => ?_, fun c4 => by omega⟩⟩
        · obtain ⟨n, rfl⟩ := Int.eq_ofNat_of_zero_le (show 0 ≤ b by omega)
          rw [iI_nat, pk_sub (by omega)]
          exact m_shrinkB g1 mg mz mb s1 s2 (by omega) (kk hs0 n rfl (by omega))
        · rw [l_m1]
          exact m_answer (n := 1) (by omega) (by omega) (k1 hs0 (by omega))
      · rw [l_m8]
        exact m_answer (n := 8) (by omega) (by omega) (k8 (fun w => c (by rw [w]; rfl)))
    refine x_spoiledWords xb xz g1 s1 s2 ⟨fun c => ?_, fun c => ?_⟩
    · rw [hsp] at c
      have hs0 : spw (kd (zo s)) (gB σm 0) (bw (zo s)) (pl s) (ln (pl s)) = 0 := (nI_eq (b := 0) (by omega) (by omega)).mp c
      rw [eb0, nI_clamp (by omega), x7]
      refine ⟨fun c2 => ⟨hv, ?_⟩, fun c2 => ?_⟩
      · have el : nI (sz s) - iI b = iI ((sz s : Int) - b) := by rw [nI_iI, iI_sub]
        rw [el, l_0]
        refine br_le (by unfold R32; omega) ⟨fun c3 => ?_, fun c3 => ?_⟩
        · obtain ⟨n, rfl⟩ := Int.eq_ofNat_of_zero_le (show 0 ≤ b by omega)
          have hn : n ≤ sz s := by omega
          have ea : iI ((sz s : Int) - n) = nI (sz s - n) := by
            rw [nI_iI]
            congr 1
            omega
          refine br_le (by unfold R32; omega) ⟨fun c4 => ?_, fun c4 => ⟨hv, ?_⟩⟩
          · have hns : n = sz s := by omega
            rw [ea]
            refine mk _ _ (fun w => absurd hs0 w) (fun _ w => by omega) (fun _ w => by omega) (fun _ n' w1 w2 τ' ow' ln' hd' hG' mg' mz' mb' f1 f2 f3 f4 f5 mi' => ?_)
            have : n' = n := by omega
            subst this
            refine ⟨rfl, ?_, ⟨fun k hk => ?_, ?_⟩, h4.ag (AgK.of f1 f2 f3)⟩
            · rw [hns, fup_self] at hG' mb'
              have hlen : ndl (kd (zo s)) (cl (zo s)) n' = ln (pl s) := by
                rw [hns]
                obtain ⟨y1, y2, y3, y4⟩ := g1.2.2.1 s s1 s2
                obtain ⟨b0, b1⟩ := blkLen1 g1.geo s1 s2
                have hpw := pw_cases (sz s)
                unfold ndl due
                by_cases c0 : kd (zo s) = 0
                · rw [if_pos c0]; exact (b0 c0).symm
                · rw [if_neg c0, if_neg c0]
                  by_cases c1 : kd (zo s) = 1
                  · rw [if_pos c1]
                    have := b1 c1
                    have := y3 c1
                    omega
                  · rw [if_neg c1]
                    exact (y4 (by omega)).symm
              refine RS.fin g1 xg xz xb hG' mg' mz' mb' (fun k hk => (mi' k hk).symm) ⟨fun i hi => ?_, fun j hj => ?_, fun k hk => ?_⟩
              · rw [f2 4 (by omega) (by omega) (by omega) (by omega)]
                exact hraw.1 i hi
              · rw [f4, hlen, show sz s - n' = 0 by omega, nm_same hs0]
                exact hraw.2.1 j hj
              · rw [f2 9 (by omega) (by omega) (by omega) (by omega)]
                exact hraw.2.2 k hk
            · rw [f2 10 (by omega) (by omega) (by omega) (by omega)]
              exact h2.1 k hk
            · rw [f5 0]
              exact h2.2
          · obtain ⟨y1, y2, y3, y4⟩ := g1.2.2.1 s s1 s2
            have hnM : n ≤ mst (kd (zo s)) (cl (zo s)) := by
              unfold mst
              by_cases c0 : kd (zo s) = 0
              · rw [if_pos c0]; have := y2 c0; omega
              · rw [if_neg c0]
                by_cases c1 : kd (zo s) = 1
                · rw [if_pos c1]
                  have := (y3 c1).1
                  have := (blkLen1 g1.geo s1 s2).2 c1
                  omega
                · rw [if_neg c1]; omega
            rw [x4]
            refine x_keeperOf xz z2 z1 z3 ?_
            rw [iI_nat]
            refine x_resize g1 xg xz xb s1 s2 hnM (fun c1 => by have := (y3 c1).1; omega) (fun ck => ?_) (fun σ' o4 l4 d4 hG4 xg4 xz4 xb4 fA fB fL mi4 => ?_)
            · have := y4 ck
              unfold due
              rw [if_neg (by omega), if_neg (by omega), this]
              omega
            · rw [ea, ← iI_nat n]
              refine mk _ _ (fun w => absurd hs0 w) (fun _ w => by omega) (fun _ w => by omega) (fun _ n' w1 w2 τ' ow' ln' hd' hG' mg' mz' mb' f1 f2 f3 f4 f5 mi' => ?_)
              have : n' = n := by omega
              subst this
              refine ⟨rfl, ?_, ⟨fun k hk => ?_, ?_⟩, h4.ag (AgK.of f1 f2 f3)⟩
              · refine RS.fin hG4 xg4 xz4 xb4 hG' mg' mz' mb' (fun k hk => (mi4 k hk).trans (mi' k hk).symm) ⟨fun i hi => ?_, fun j hj => ?_, fun k hk => ?_⟩
                · rw [fA 3 (by omega) (by omega) (by omega) (by omega), f2 4 (by omega) (by omega) (by omega) (by omega)]
                  exact hraw.1 i hi
                · rw [fB, f4]
                  exact nm_eq hraw.2.1 j hj
                · rw [fA 8 (by omega) (by omega) (by omega) (by omega), f2 9 (by omega) (by omega) (by omega) (by omega)]
                  exact hraw.2.2 k hk
              · rw [fA 11 (by omega) (by omega) (by omega) (by omega), f2 10 (by omega) (by omega) (by omega) (by omega)]
                exact h2.1 k hk
              · rw [fL, f5 0]
                exact h2.2
        · rw [l_m1]
          exact x_tell (n := 1) (by omega) (by omega) (mk _ _ (fun w => absurd hs0 w) (fun _ w => by omega) (fun _ _ => ⟨rfl, h.ans 1⟩) (fun _ n' w1 w2 => by omega))
      · rw [l_m3]
        exact x_tell (n := 3) (by omega) (by omega) (mk _ _ (fun w => absurd hs0 w) (fun _ _ => ⟨rfl, h.ans 3⟩) (fun _ w => by omega) (fun _ n' w1 w2 => by omega))
    · rw [hsp] at c
      rw [l_m8]
      exact x_tell (n := 8) (by omega) (by omega) (mk _ _ (fun _ => ⟨rfl, h.ans 8⟩) (fun w => absurd (by rw [w]; rfl) c) (fun w => absurd (by rw [w]; rfl) c) (fun w => absurd (by rw [w]; rfl) c))
