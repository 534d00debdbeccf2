/-! pure callees; rows that are filled or copied whole -/
section JP
variable {p : Program} {l : Launch} {e : Env} {R : Room} {s : State} {m : MethodId} {args : Array Value} {below : List Frame} {meth : Method} {c : Code} {D : va_G} {ty : List (ClassId × FieldType)} {w : SS → va_W} {A : Nat → Prop} {cc : ByteArray} {nL : Nat} {own : String} {ret : Option FieldType} {Q : State → Prop} {σ : SS} {pc : Nat} {lv : List (Nat × Value)} {st : List Value}
theorem j_callpi {y : MethodName} {bytes : ByteArray} {maxL f k index b ci : Nat} {retY : Option FieldType} {T : u_T} {N : Nat} {fs : List Value} {Post : Int32 → Prop} (q0 : Nat) (As rest : List Value) (C : Cx p s m args meth c D ty w A cc nL own ret) (hM : Ci l y (.code y bytes maxL retY :: TT) { frames := f, cells := 0, slots := 0, locals := k } D ty w (.ref b :: As) σ (fun r σ' => σ' = σ ∧ Post r)) (g : GoodIn TT (wsV own index y.cls y (.code y bytes maxL retY :: TT))) (hy : okY y As.length) (hR : f + 1 ≤ R.frames ∧ 8 + (maxL + 11) + k ≤ R.locals) (hc : cls[ci]? = some (y.cls, T, N)) (he : (w σ)[q0]? = some (b, .inr (ci, fs))) (hcat : (rest.map fun v => v.category).sum ≤ 8) (hst : st = As.reverse ++ .ref b :: rest) (hd : decode cc pc = .ok (.invokevirtual index, 3)) (K : ∀ (r : Int32), Post r → J p l e R s m args below meth c D w A nL Q σ (pc + 3) lv (.int r :: rest)) : J p l e R s m args below meth c D w A nL Q σ pc lv st := j_calli q0 As rest C hM g hy hR hc he hcat hst hd (fun r σ' h => by rw [h.1]; exact K r h.2)
theorem j_callpl {y : MethodName} {bytes : ByteArray} {maxL f k index b ci : Nat} {retY : Option FieldType} {T : u_T} {N : Nat} {fs : List Value} {Post : Int64 → Prop} (q0 : Nat) (As rest : List Value) (C : Cx p s m args meth c D ty w A cc nL own ret) (hM : Cl l y (.code y bytes maxL retY :: TT) { frames := f, cells := 0, slots := 0, locals := k } D ty w (.ref b :: As) σ (fun r σ' => σ' = σ ∧ Post r)) (g : GoodIn TT (wsV own index y.cls y (.code y bytes maxL retY :: TT))) (hy : okY y As.length) (hR : f + 1 ≤ R.frames ∧ 8 + (maxL + 11) + k ≤ R.locals) (hc : cls[ci]? = some (y.cls, T, N)) (he : (w σ)[q0]? = some (b, .inr (ci, fs))) (hcat : (rest.map fun v => v.category).sum ≤ 8) (hst : st = As.reverse ++ .ref b :: rest) (hd : decode cc pc = .ok (.invokevirtual index, 3)) (K : ∀ (r : Int64), Post r → J p l e R s m args below meth c D w A nL Q σ (pc + 3) lv (.long r :: rest)) : J p l e R s m args below meth c D w A nL Q σ pc lv st := j_calll q0 As rest C hM g hy hR hc he hcat hst hd (fun r σ' h => by rw [h.1]; exact K r h.2)
theorem j_callpr {y : MethodName} {bytes : ByteArray} {maxL f k index b ci : Nat} {retY : Option FieldType} {T : u_T} {N : Nat} {fs : List Value} {ad : Nat → Nat} {Post : Nat → Prop} (q0 : Nat) (As rest : List Value) (C : Cx p s m args meth c D ty w A cc nL own ret) (hM : Cr l y (.code y bytes maxL retY :: TT) { frames := f, cells := 0, slots := 0, locals := k } D ty w ad (.ref b :: As) σ (fun r σ' => σ' = σ ∧ Post r)) (g : GoodIn TT (wsV own index y.cls y (.code y bytes maxL retY :: TT))) (hy : okY y As.length) (hR : f + 1 ≤ R.frames ∧ 8 + (maxL + 11) + k ≤ R.locals) (hc : cls[ci]? = some (y.cls, T, N)) (he : (w σ)[q0]? = some (b, .inr (ci, fs))) (hcat : (rest.map fun v => v.category).sum ≤ 8) (hst : st = As.reverse ++ .ref b :: rest) (hd : decode cc pc = .ok (.invokevirtual index, 3)) (K : ∀ (r : Nat), Post r → J p l e R s m args below meth c D w A nL Q σ (pc + 3) lv (.ref (ad r) :: rest)) : J p l e R s m args below meth c D w A nL Q σ pc lv st := j_callr q0 As rest C hM g hy hR hc he hcat hst hd (fun r σ' h => by rw [h.1]; exact K r h.2)
theorem j_callSpi {y : MethodName} {bytes : ByteArray} {maxL f k index : Nat} {retY : Option FieldType} {Post : Int32 → Prop} (As rest : List Value) (C : Cx p s m args meth c D ty w A cc nL own ret) (hM : Ci l y (.code y bytes maxL retY :: TT) { frames := f, cells := 0, slots := 0, locals := k } D ty w As σ (fun r σ' => σ' = σ ∧ Post r)) (g : GoodIn TT (va_wsS own index y (.code y bytes maxL retY :: TT))) (hy : okY y As.length) (hR : f + 1 ≤ R.frames ∧ 8 + (maxL + 11) + k ≤ R.locals) (hcat : (rest.map fun v => v.category).sum ≤ 8) (hst : st = As.reverse ++ rest) (hd : decode cc pc = .ok (.invokestatic index, 3)) (K : ∀ (r : Int32), Post r → J p l e R s m args below meth c D w A nL Q σ (pc + 3) lv (.int r :: rest)) : J p l e R s m args below meth c D w A nL Q σ pc lv st := j_callSi As rest C hM g hy hR hcat hst hd (fun r σ' h => by rw [h.1]; exact K r h.2)
theorem j_copyl {a n0 index : Nat} {cA : ClassId} {f : Nat → Int64} {sp dp n : Int32} {σ' : SS} (q0 t0 : Nat) (C : Cx p s m args meth c D ty w A cc nL own ret) (he : (w σ)[q0]? = some (a, .inl (cA, n0, .inr (.inl f)))) (ht : ty[t0]? = some (cA, .long)) (hst : (w σ).set q0 (a, .inl (cA, n0, .inr (.inl (va_cpy f f sp.toNatClampNeg dp.toNatClampNeg n.toNatClampNeg)))) = w σ') (hl0 : Cond.methodLink own index arraycopyName ∈ TT) (h : ¬ sp < 0 ∧ ¬ dp < 0 ∧ ¬ n < 0 ∧ sp.toNatClampNeg + n.toNatClampNeg ≤ n0 ∧ dp.toNatClampNeg + n.toNatClampNeg ≤ n0) (hR : 1 ≤ R.frames ∧ (st.map fun v => v.category).sum + (nativeFrameWords "java/lang/System" "arraycopy" 5 + 11) ≤ R.locals) (hd : decode cc pc = .ok (.invokestatic index, 3)) (K : J p l e R s m args below meth c D w A nL Q σ' (pc + 3) lv st) : J p l e R s m args below meth c D w A nL Q σ pc lv (.int n :: .int dp :: .ref a :: .int sp :: .ref a :: st) := fun H locs ls hP hS hl =>
  va_copyl C.1 C.2.1 (by rw [C.2.2.1]; exact hl.1.symm) C.2.2.2.1 (C.2.2.2.2.1 _ hl0) (C.2.2.2.2.1 _ mn_copy) (C.2.2.2.2.1 _ mst_copy) (C.2.2.2.2.1 _ mi_J10) C.2.2.2.2.2.1 hP (C.2.2.2.2.2.2.1 σ) hS q0 q0 t0 t0 (ty := .long) he he ht ht rfl h.1 h.2.1 h.2.2.1 h.2.2.2.1 h.2.2.2.2 (fun _ _ => rfl) hR.1 hR.2 hd (fun H1 locs1 hP1 _ hS1 => K H1 locs1 ls (by rw [← hst]; exact hP1) hS1 hl)
end JP
def fillN {α : Type} (n : Nat) (v : α) (f : Nat → α) : Nat → α := fun j => if j < n then v else f j
def cpyN {α : Type} (n : Nat) (f g : Nat → α) : Nat → α := fun j => if j < n then f j else g j
theorem sAA_sAA (σ : SS) (k : Nat) (f g : Nat → Int32) : sAA (sAA σ k f) k g = sAA σ k g := by
  unfold sAA
  refine congrArg (fun z => (σ.1, σ.2.1, z, σ.2.2.2)) ?_
  funext j
  by_cases h : j = k <;> simp [va_up, h]
theorem sBB_sBB (σ : SS) (k : Nat) (f g : Nat → Int64) : sBB (sBB σ k f) k g = sBB σ k g := by
  unfold sBB
  refine congrArg (fun z => (σ.1, σ.2.1, σ.2.2.1, z)) ?_
  funext j
  by_cases h : j = k <;> simp [va_up, h]
theorem sAA_self (σ : SS) (k : Nat) : sAA σ k (gA σ k) = σ := by
  obtain ⟨a, b, c, d⟩ := σ
  unfold sAA gA
  refine congrArg (fun z => (a, b, z, d)) ?_
  funext j
  by_cases h : j = k <;> simp [va_up, h]
theorem sBB_self (σ : SS) (k : Nat) : sBB σ k (gB σ k) = σ := by
  obtain ⟨a, b, c, d⟩ := σ
  unfold sBB gB
  refine congrArg (fun z => (a, b, c, z)) ?_
  funext j
  by_cases h : j = k <;> simp [va_up, h]
theorem gA_sAA (σ : SS) (k j : Nat) (f : Nat → Int32) : gA (sAA σ k f) j = if j = k then f else gA σ j := rfl
theorem gB_sBB (σ : SS) (k j : Nat) (f : Nat → Int64) : gB (sBB σ k f) j = if j = k then f else gB σ j := rfl
theorem gA_sAA_self (σ : SS) (k : Nat) (f : Nat → Int32) : gA (sAA σ k f) k = f := by rw [gA_sAA, if_pos rfl]
theorem gB_sBB_self (σ : SS) (k : Nat) (f : Nat → Int64) : gB (sBB σ k f) k = f := by rw [gB_sBB, if_pos rfl]
theorem fillN_0 {α : Type} (v : α) (f : Nat → α) : fillN 0 v f = f := by funext j; simp [fillN]
theorem fillN_s (i : Nat) (v : Int32) (f : Nat → Int32) : upd (fillN i v f) i v = fillN (i + 1) v f := by
  funext j
  simp only [upd, fillN]
  by_cases h : j = i
  · subst h; simp
  · by_cases h2 : j < i
    · simp [h, h2, Nat.lt_succ_of_lt h2]
    · simp [h, h2, show ¬ j < i + 1 by omega]
theorem fillN_sl (i : Nat) (v : Int64) (f : Nat → Int64) : vp_updL (fillN i v f) i v = fillN (i + 1) v f := by
  funext j
  simp only [vp_updL, fillN]
  by_cases h : j = i
  · subst h; simp
  · by_cases h2 : j < i
    · simp [h, h2, Nat.lt_succ_of_lt h2]
    · simp [h, h2, show ¬ j < i + 1 by omega]
theorem cpyN_0 {α : Type} (f g : Nat → α) : cpyN 0 f g = g := by funext j; simp [cpyN]
theorem cpyN_s (i : Nat) (f g : Nat → Int32) : upd (cpyN i f g) i (f i) = cpyN (i + 1) f g := by
  funext j
  simp only [upd, cpyN]
  by_cases h : j = i
  · subst h; simp
  · by_cases h2 : j < i
    · simp [h, h2, Nat.lt_succ_of_lt h2]
    · simp [h, h2, show ¬ j < i + 1 by omega]
theorem cpyN_sl (i : Nat) (f g : Nat → Int64) : vp_updL (cpyN i f g) i (f i) = cpyN (i + 1) f g := by
  funext j
  simp only [vp_updL, cpyN]
  by_cases h : j = i
  · subst h; simp
  · by_cases h2 : j < i
    · simp [h, h2, Nat.lt_succ_of_lt h2]
    · simp [h, h2, show ¬ j < i + 1 by omega]

set_option maxHeartbeats 4000000 in
theorem kfillA {l : Launch} {D : va_G} {ty : List (ClassId × FieldType)} {w : SS → va_W} {q n k b : Nat} {cA : ClassId} (hAd : Ad w) (hn : n < 2 ^ 31) (he : ∀ σ, (w σ)[q]? = some (b, .inl (cA, n, .inl (gA σ k)))) (hst : ∀ σ j x, (w σ).set q (b, .inl (cA, n, .inl (upd (gA σ k) j x))) = w (sA σ k j x)) (v : Int32) (σ0 : SS) (ht : ty[0]? = some (cA, .int) := by rfl) : Cv l yJ7_fill_53178 (.code yJ7_fill_53178 cJ7_fill_53178 4 none :: TT) { frames := 0, cells := 0, slots := 0, locals := 0 } D ty w [.ref b, .int v] σ0 (fun σ' => σ' = sAA σ0 k (fillN n v (gA σ0 k))) := by
  refine Cv.of (lv := [(0, .ref b), (1, .int v)]) (by decide) hAd (Nat.le_of_ble_eq_true rfl) rfl ?_
  intro p e s m args below meth c A C
  have key : ∀ (d i : Nat), i + d = n → J p l e { frames := 0, cells := 0, slots := 0, locals := 0 } s m args below meth c D w A 4 (MQ below (va_Qv (fun σ' => σ' = sAA σ0 k (fillN n v (gA σ0 k))) (WW D ty w) A) args s 0 0 A) (sAA σ0 k (fillN i v (gA σ0 k))) 5 [(2, .int (nI i)), (3, .int (nI n)), (0, .ref b), (1, .int v)] [] := by
    intro d
    induction d with
    | zero =>
      intro i hi
      have hi : i = n := by omega
      subst hi
      refine j_iload_n C dJ7_fill_53178_5 0 rfl ?_
      refine j_iload_n C dJ7_fill_53178_6 1 rfl ?_
      refine j_icmp_ge (T := True) (F := False) 20 C dJ7_fill_53178_7 rfl ⟨fun _ => trivial, fun h => h (nI_le (Nat.le_refl _) hn)⟩ (fun _ => ?_) (fun h => h.elim)
      exact j_vret C dJ7_fill_53178_20 rfl
    | succ d ih =>
      intro i hi
      have hlt : i < n := by omega
      refine j_iload_n C dJ7_fill_53178_5 0 rfl ?_
      refine j_iload_n C dJ7_fill_53178_6 1 rfl ?_
      refine j_icmp_ge (T := False) (F := True) 20 C dJ7_fill_53178_7 rfl ⟨fun h => nI_ge hlt hn h, fun _ => trivial⟩ (fun h => h.elim) (fun _ => ?_)
      refine j_aload_n C dJ7_fill_53178_10 2 rfl ?_
      refine j_iload_n C dJ7_fill_53178_11 0 rfl ?_
      refine j_iload_n C dJ7_fill_53178_12 3 rfl ?_
      refine j_iast (σ' := sAA σ0 k (fillN (i + 1) v (gA σ0 k))) q 0 C (he _) ht ?_ (vp_in_nI hlt hn) dJ7_fill_53178_13 ?_
      · rw [hst]
        congr 1
        show sAA (sAA σ0 k (fillN i v (gA σ0 k))) k (upd (gA (sAA σ0 k (fillN i v (gA σ0 k))) k) (nI i).toNatClampNeg v) = _
        rw [gA_sAA_self, sAA_sAA, nI_clamp (by omega), fillN_s]
      refine j_iinc (lv' := [(2, .int (nI (i + 1))), (3, .int (nI n)), (0, .ref b), (1, .int v)]) (nI (i + 1)) C dJ7_fill_53178_14 0 rfl (nI_1 i) (by decide) rfl ?_
      refine j_goto 5 C dJ7_fill_53178_17 rfl ?_
      exact ih (i + 1) (by omega)
  refine j_iconst (v := 0) C dJ7_fill_53178_0 (by decide) ?_
  refine j_istore_n (lv' := [(2, .int 0), (0, .ref b), (1, .int v)]) C dJ7_fill_53178_1 (by decide) rfl ?_
  refine j_aload_n C dJ7_fill_53178_2 1 rfl ?_
  refine j_alen (v := nI n) q 0 C (he _) ht rfl dJ7_fill_53178_3 ?_
  refine j_istore_n (lv' := [(3, .int (nI n)), (2, .int 0), (0, .ref b), (1, .int v)]) C dJ7_fill_53178_4 (by decide) rfl ?_
  refine j_sub (lv' := [(2, .int 0), (3, .int (nI n)), (0, .ref b), (1, .int v)]) [1, 0, 2, 3] rfl ?_
  have h0 := key n 0 (by omega)
  rw [fillN_0, sAA_self] at h0
  exact h0
set_option maxHeartbeats 4000000 in
theorem kfillB {l : Launch} {D : va_G} {ty : List (ClassId × FieldType)} {w : SS → va_W} {q n k b : Nat} {cA : ClassId} (hAd : Ad w) (hn : n < 2 ^ 31) (he : ∀ σ, (w σ)[q]? = some (b, .inl (cA, n, .inr (.inl (gB σ k))))) (hst : ∀ σ j x, (w σ).set q (b, .inl (cA, n, .inr (.inl (vp_updL (gB σ k) j x)))) = w (sB σ k j x)) (v : Int64) (σ0 : SS) (ht : ty[1]? = some (cA, .long) := by rfl) : Cv l yJ7_fill_d0a16 (.code yJ7_fill_d0a16 cJ7_fill_d0a16 5 none :: TT) { frames := 0, cells := 0, slots := 0, locals := 0 } D ty w [.ref b, .long v] σ0 (fun σ' => σ' = sBB σ0 k (fillN n v (gB σ0 k))) := by
  refine Cv.of (lv := [(0, .ref b), (1, .long v)]) (by decide) hAd (Nat.le_of_ble_eq_true rfl) rfl ?_
  intro p e s m args below meth c A C
  have key : ∀ (d i : Nat), i + d = n → J p l e { frames := 0, cells := 0, slots := 0, locals := 0 } s m args below meth c D w A 5 (MQ below (va_Qv (fun σ' => σ' = sBB σ0 k (fillN n v (gB σ0 k))) (WW D ty w) A) args s 0 0 A) (sBB σ0 k (fillN i v (gB σ0 k))) 6 [(3, .int (nI i)), (4, .int (nI n)), (0, .ref b), (1, .long v)] [] := by
    intro d
    induction d with
    | zero =>
      intro i hi
      have hi : i = n := by omega
      subst hi
      refine j_iload_n C dJ7_fill_d0a16_6 0 rfl ?_
      refine j_iload C dJ7_fill_d0a16_7 1 rfl ?_
      refine j_icmp_ge (T := True) (F := False) 22 C dJ7_fill_d0a16_9 rfl ⟨fun _ => trivial, fun h => h (nI_le (Nat.le_refl _) hn)⟩ (fun _ => ?_) (fun h => h.elim)
      exact j_vret C dJ7_fill_d0a16_22 rfl
    | succ d ih =>
      intro i hi
      have hlt : i < n := by omega
      refine j_iload_n C dJ7_fill_d0a16_6 0 rfl ?_
      refine j_iload C dJ7_fill_d0a16_7 1 rfl ?_
      refine j_icmp_ge (T := False) (F := True) 22 C dJ7_fill_d0a16_9 rfl ⟨fun h => nI_ge hlt hn h, fun _ => trivial⟩ (fun h => h.elim) (fun _ => ?_)
      refine j_aload_n C dJ7_fill_d0a16_12 2 rfl ?_
      refine j_iload_n C dJ7_fill_d0a16_13 0 rfl ?_
      refine j_lload_n C dJ7_fill_d0a16_14 3 rfl ?_
      refine j_last (σ' := sBB σ0 k (fillN (i + 1) v (gB σ0 k))) q 1 C (he _) ht ?_ (vp_in_nI hlt hn) dJ7_fill_d0a16_15 ?_
      · rw [hst]
        congr 1
        show sBB (sBB σ0 k (fillN i v (gB σ0 k))) k (vp_updL (gB (sBB σ0 k (fillN i v (gB σ0 k))) k) (nI i).toNatClampNeg v) = _
        rw [gB_sBB_self, sBB_sBB, nI_clamp (by omega), fillN_sl]
      refine j_iinc (lv' := [(3, .int (nI (i + 1))), (4, .int (nI n)), (0, .ref b), (1, .long v)]) (nI (i + 1)) C dJ7_fill_d0a16_16 0 rfl (nI_1 i) (by decide) rfl ?_
      refine j_goto 6 C dJ7_fill_d0a16_19 rfl ?_
      exact ih (i + 1) (by omega)
  refine j_iconst (v := 0) C dJ7_fill_d0a16_0 (by decide) ?_
  refine j_istore_n (lv' := [(3, .int 0), (0, .ref b), (1, .long v)]) C dJ7_fill_d0a16_1 (by decide) rfl ?_
  refine j_aload_n C dJ7_fill_d0a16_2 1 rfl ?_
  refine j_alen (v := nI n) q 1 C (he _) ht rfl dJ7_fill_d0a16_3 ?_
  refine j_istore (lv' := [(4, .int (nI n)), (3, .int 0), (0, .ref b), (1, .long v)]) C dJ7_fill_d0a16_4 (by decide) rfl ?_
  refine j_sub (lv' := [(3, .int 0), (4, .int (nI n)), (0, .ref b), (1, .long v)]) [1, 0, 2, 3] rfl ?_
  have h0 := key n 0 (by omega)
  rw [fillN_0, sBB_self] at h0
  exact h0
set_option maxHeartbeats 4000000 in
theorem kputA {l : Launch} {D : va_G} {ty : List (ClassId × FieldType)} {w : SS → va_W} {q q2 n k k2 b b2 : Nat} {cA : ClassId} (hAd : Ad w) (hn : n < 2 ^ 31) (hk : k ≠ k2) (he : ∀ σ, (w σ)[q]? = some (b, .inl (cA, n, .inl (gA σ k)))) (he2 : ∀ σ, (w σ)[q2]? = some (b2, .inl (cA, n, .inl (gA σ k2)))) (hst : ∀ σ j x, (w σ).set q2 (b2, .inl (cA, n, .inl (upd (gA σ k2) j x))) = w (sA σ k2 j x)) (σ0 : SS) (ht : ty[0]? = some (cA, .int) := by rfl) : Cv l yX7_put (.code yX7_put cX7_put 3 none :: TT) { frames := 0, cells := 0, slots := 0, locals := 0 } D ty w [.ref b, .ref b2] σ0 (fun σ' => σ' = sAA σ0 k2 (cpyN n (gA σ0 k) (gA σ0 k2))) := by
  refine Cv.of (lv := [(0, .ref b), (1, .ref b2)]) (by decide) hAd (Nat.le_of_ble_eq_true rfl) rfl ?_
  intro p e s m args below meth c A C
  have key : ∀ (d i : Nat), i + d = n → J p l e { frames := 0, cells := 0, slots := 0, locals := 0 } s m args below meth c D w A 3 (MQ below (va_Qv (fun σ' => σ' = sAA σ0 k2 (cpyN n (gA σ0 k) (gA σ0 k2))) (WW D ty w) A) args s 0 0 A) (sAA σ0 k2 (cpyN i (gA σ0 k) (gA σ0 k2))) 2 [(2, .int (nI i)), (0, .ref b), (1, .ref b2)] [] := by
    intro d
    induction d with
    | zero =>
      intro i hi
      have hi : i = n := by omega
      subst hi
      refine j_iload_n C dX7_put_2 0 rfl ?_
      refine j_aload_n C dX7_put_3 1 rfl ?_
      refine j_alen (v := nI i) q 0 C (he _) ht rfl dX7_put_4 ?_
      refine j_icmp_ge (T := True) (F := False) 20 C dX7_put_5 rfl ⟨fun _ => trivial, fun h => h (nI_le (Nat.le_refl _) hn)⟩ (fun _ => ?_) (fun h => h.elim)
      exact j_vret C dX7_put_20 rfl
    | succ d ih =>
      intro i hi
      have hlt : i < n := by omega
      refine j_iload_n C dX7_put_2 0 rfl ?_
      refine j_aload_n C dX7_put_3 1 rfl ?_
      refine j_alen (v := nI n) q 0 C (he _) ht rfl dX7_put_4 ?_
      refine j_icmp_ge (T := False) (F := True) 20 C dX7_put_5 rfl ⟨fun h => nI_ge hlt hn h, fun _ => trivial⟩ (fun h => h.elim) (fun _ => ?_)
      refine j_aload_n C dX7_put_8 2 rfl ?_
      refine j_iload_n C dX7_put_9 0 rfl ?_
      refine j_aload_n C dX7_put_10 1 rfl ?_
      refine j_iload_n C dX7_put_11 0 rfl ?_
      refine j_iald q 0 C (he _) ht (vp_in_nI hlt hn) dX7_put_12 ?_
      refine j_iast (σ' := sAA σ0 k2 (cpyN (i + 1) (gA σ0 k) (gA σ0 k2))) q2 0 C (he2 _) ht ?_ (vp_in_nI hlt hn) dX7_put_13 ?_
      · rw [hst]
        congr 1
        show sAA (sAA σ0 k2 (cpyN i (gA σ0 k) (gA σ0 k2))) k2 (upd (gA (sAA σ0 k2 (cpyN i (gA σ0 k) (gA σ0 k2))) k2) (nI i).toNatClampNeg _) = _
        rw [gA_sAA_self, sAA_sAA, gA_sAA, if_neg hk, nI_clamp (by omega)]
        exact congrArg (sAA σ0 k2) (cpyN_s i (gA σ0 k) (gA σ0 k2))
      refine j_iinc (lv' := [(2, .int (nI (i + 1))), (0, .ref b), (1, .ref b2)]) (nI (i + 1)) C dX7_put_14 0 rfl (nI_1 i) (by decide) rfl ?_
      refine j_goto 2 C dX7_put_17 rfl ?_
      exact ih (i + 1) (by omega)
  refine j_iconst (v := 0) C dX7_put_0 (by decide) ?_
  refine j_istore_n (lv' := [(2, .int 0), (0, .ref b), (1, .ref b2)]) C dX7_put_1 (by decide) rfl ?_
  have h0 := key n 0 (by omega)
  rw [cpyN_0, sAA_self] at h0
  exact h0
set_option maxHeartbeats 4000000 in
theorem kputB {l : Launch} {D : va_G} {ty : List (ClassId × FieldType)} {w : SS → va_W} {q q2 n k k2 b b2 : Nat} {cA : ClassId} (hAd : Ad w) (hn : n < 2 ^ 31) (hk : k ≠ k2) (he : ∀ σ, (w σ)[q]? = some (b, .inl (cA, n, .inr (.inl (gB σ k))))) (he2 : ∀ σ, (w σ)[q2]? = some (b2, .inl (cA, n, .inr (.inl (gB σ k2))))) (hst : ∀ σ j x, (w σ).set q2 (b2, .inl (cA, n, .inr (.inl (vp_updL (gB σ k2) j x)))) = w (sB σ k2 j x)) (σ0 : SS) (ht : ty[1]? = some (cA, .long) := by rfl) : Cv l yX7_put_ (.code yX7_put_ cX7_put_ 3 none :: TT) { frames := 0, cells := 0, slots := 0, locals := 0 } D ty w [.ref b, .ref b2] σ0 (fun σ' => σ' = sBB σ0 k2 (cpyN n (gB σ0 k) (gB σ0 k2))) := by
  refine Cv.of (lv := [(0, .ref b), (1, .ref b2)]) (by decide) hAd (Nat.le_of_ble_eq_true rfl) rfl ?_
  intro p e s m args below meth c A C
  have key : ∀ (d i : Nat), i + d = n → J p l e { frames := 0, cells := 0, slots := 0, locals := 0 } s m args below meth c D w A 3 (MQ below (va_Qv (fun σ' => σ' = sBB σ0 k2 (cpyN n (gB σ0 k) (gB σ0 k2))) (WW D ty w) A) args s 0 0 A) (sBB σ0 k2 (cpyN i (gB σ0 k) (gB σ0 k2))) 2 [(2, .int (nI i)), (0, .ref b), (1, .ref b2)] [] := by
    intro d
    induction d with
    | zero =>
      intro i hi
      have hi : i = n := by omega
      subst hi
      refine j_iload_n C dX7_put__2 0 rfl ?_
      refine j_aload_n C dX7_put__3 1 rfl ?_
      refine j_alen (v := nI i) q 1 C (he _) ht rfl dX7_put__4 ?_
      refine j_icmp_ge (T := True) (F := False) 20 C dX7_put__5 rfl ⟨fun _ => trivial, fun h => h (nI_le (Nat.le_refl _) hn)⟩ (fun _ => ?_) (fun h => h.elim)
      exact j_vret C dX7_put__20 rfl
    | succ d ih =>
      intro i hi
      have hlt : i < n := by omega
      refine j_iload_n C dX7_put__2 0 rfl ?_
      refine j_aload_n C dX7_put__3 1 rfl ?_
      refine j_alen (v := nI n) q 1 C (he _) ht rfl dX7_put__4 ?_
      refine j_icmp_ge (T := False) (F := True) 20 C dX7_put__5 rfl ⟨fun h => nI_ge hlt hn h, fun _ => trivial⟩ (fun h => h.elim) (fun _ => ?_)
      refine j_aload_n C dX7_put__8 2 rfl ?_
      refine j_iload_n C dX7_put__9 0 rfl ?_
      refine j_aload_n C dX7_put__10 1 rfl ?_
      refine j_iload_n C dX7_put__11 0 rfl ?_
      refine j_lald q 1 C (he _) ht (vp_in_nI hlt hn) dX7_put__12 ?_
      refine j_last (σ' := sBB σ0 k2 (cpyN (i + 1) (gB σ0 k) (gB σ0 k2))) q2 1 C (he2 _) ht ?_ (vp_in_nI hlt hn) dX7_put__13 ?_
      · rw [hst]
        congr 1
        show sBB (sBB σ0 k2 (cpyN i (gB σ0 k) (gB σ0 k2))) k2 (vp_updL (gB (sBB σ0 k2 (cpyN i (gB σ0 k) (gB σ0 k2))) k2) (nI i).toNatClampNeg _) = _
        rw [gB_sBB_self, sBB_sBB, gB_sBB, if_neg hk, nI_clamp (by omega)]
        exact congrArg (sBB σ0 k2) (cpyN_sl i (gB σ0 k) (gB σ0 k2))
      refine j_iinc (lv' := [(2, .int (nI (i + 1))), (0, .ref b), (1, .ref b2)]) (nI (i + 1)) C dX7_put__14 0 rfl (nI_1 i) (by decide) rfl ?_
      refine j_goto 2 C dX7_put__17 rfl ?_
      exact ih (i + 1) (by omega)
  refine j_iconst (v := 0) C dX7_put__0 (by decide) ?_
  refine j_istore_n (lv' := [(2, .int 0), (0, .ref b), (1, .ref b2)]) C dX7_put__1 (by decide) rfl ?_
  have h0 := key n 0 (by omega)
  rw [cpyN_0, sBB_self] at h0
  exact h0
set_option maxHeartbeats 4000000 in
theorem kputZ {l : Launch} {D : va_G} {ty : List (ClassId × FieldType)} {w : SS → va_W} {q q2 n k k2 b b2 : Nat} {cA : ClassId} (hAd : Ad w) (hn : n < 2 ^ 31) (hk : k ≠ k2) (he : ∀ σ, (w σ)[q]? = some (b, .inl (cA, n, .inl (gA σ k)))) (he2 : ∀ σ, (w σ)[q2]? = some (b2, .inl (cA, n, .inl (gA σ k2)))) (hst : ∀ σ j x, (w σ).set q2 (b2, .inl (cA, n, .inl (upd (gA σ k2) j x))) = w (sA σ k2 j x)) (σ0 : SS) (ht : ty[2]? = some (cA, .boolean) := by rfl) : Cv l yX7_put__ (.code yX7_put__ cX7_put__ 3 none :: TT) { frames := 0, cells := 0, slots := 0, locals := 0 } D ty w [.ref b, .ref b2] σ0 (fun σ' => σ' = sAA σ0 k2 (cpyN n (fun j => vp_nar .boolean (gA σ0 k j)) (gA σ0 k2))) := by
  refine Cv.of (lv := [(0, .ref b), (1, .ref b2)]) (by decide) hAd (Nat.le_of_ble_eq_true rfl) rfl ?_
  intro p e s m args below meth c A C
  have key : ∀ (d i : Nat), i + d = n → J p l e { frames := 0, cells := 0, slots := 0, locals := 0 } s m args below meth c D w A 3 (MQ below (va_Qv (fun σ' => σ' = sAA σ0 k2 (cpyN n (fun j => vp_nar .boolean (gA σ0 k j)) (gA σ0 k2))) (WW D ty w) A) args s 0 0 A) (sAA σ0 k2 (cpyN i (fun j => vp_nar .boolean (gA σ0 k j)) (gA σ0 k2))) 2 [(2, .int (nI i)), (0, .ref b), (1, .ref b2)] [] := by
    intro d
    induction d with
    | zero =>
      intro i hi
      have hi : i = n := by omega
      subst hi
      refine j_iload_n C dX7_put___2 0 rfl ?_
      refine j_aload_n C dX7_put___3 1 rfl ?_
      refine j_alen (v := nI i) q 2 C (he _) ht rfl dX7_put___4 ?_
      refine j_icmp_ge (T := True) (F := False) 20 C dX7_put___5 rfl ⟨fun _ => trivial, fun h => h (nI_le (Nat.le_refl _) hn)⟩ (fun _ => ?_) (fun h => h.elim)
      exact j_vret C dX7_put___20 rfl
    | succ d ih =>
      intro i hi
      have hlt : i < n := by omega
      refine j_iload_n C dX7_put___2 0 rfl ?_
      refine j_aload_n C dX7_put___3 1 rfl ?_
      refine j_alen (v := nI n) q 2 C (he _) ht rfl dX7_put___4 ?_
      refine j_icmp_ge (T := False) (F := True) 20 C dX7_put___5 rfl ⟨fun h => nI_ge hlt hn h, fun _ => trivial⟩ (fun h => h.elim) (fun _ => ?_)
      refine j_aload_n C dX7_put___8 2 rfl ?_
      refine j_iload_n C dX7_put___9 0 rfl ?_
      refine j_aload_n C dX7_put___10 1 rfl ?_
      refine j_iload_n C dX7_put___11 0 rfl ?_
      refine j_zald q 2 C (he _) ht (vp_in_nI hlt hn) dX7_put___12 ?_
      refine j_zast (σ' := sAA σ0 k2 (cpyN (i + 1) (fun j => vp_nar .boolean (gA σ0 k j)) (gA σ0 k2))) q2 2 C (he2 _) ht ?_ (vp_in_nI hlt hn) dX7_put___13 ?_
      · rw [hst]
        congr 1
        show sAA (sAA σ0 k2 (cpyN i (fun j => vp_nar .boolean (gA σ0 k j)) (gA σ0 k2))) k2 (upd (gA (sAA σ0 k2 (cpyN i (fun j => vp_nar .boolean (gA σ0 k j)) (gA σ0 k2))) k2) (nI i).toNatClampNeg _) = _
        rw [gA_sAA_self, sAA_sAA, gA_sAA, if_neg hk, nI_clamp (by omega)]
        exact congrArg (sAA σ0 k2) (cpyN_s i (fun j => vp_nar .boolean (gA σ0 k j)) (gA σ0 k2))
      refine j_iinc (lv' := [(2, .int (nI (i + 1))), (0, .ref b), (1, .ref b2)]) (nI (i + 1)) C dX7_put___14 0 rfl (nI_1 i) (by decide) rfl ?_
      refine j_goto 2 C dX7_put___17 rfl ?_
      exact ih (i + 1) (by omega)
  refine j_iconst (v := 0) C dX7_put___0 (by decide) ?_
  refine j_istore_n (lv' := [(2, .int 0), (0, .ref b), (1, .ref b2)]) C dX7_put___1 (by decide) rfl ?_
  have h0 := key n 0 (by omega)
  rw [cpyN_0, sAA_self] at h0
  exact h0
