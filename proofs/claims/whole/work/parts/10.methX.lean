def wX0_mostOf (x1 : Int32) (σ : SS) (Q : Int32 → Prop) : Prop := Q 64
set_option maxRecDepth 100000 in
set_option maxHeartbeats 4000000 in
theorem kX0_mostOf_ok {l : Launch} {D : va_G} {cI cJ cZ : ClassId} {ad : Nat → Nat} {kv : Value} (x1 : Int32) (σ0 : SS) {Q : Int32 → Prop} (h : wX0_mostOf x1 σ0 Q) : Ci l yX0_mostOf (.code yX0_mostOf cX0_mostOf 2 (some .int) :: TT) { frames := 0, cells := 0, slots := 0, locals := 0 } D (tys cI cJ cZ) (wX cI cJ ad kv) [.ref (ad 16), .int x1] σ0 (fun r σ' => σ' = σ0 ∧ Q r) := by
  refine Ci.of (lv := [(0, .ref (ad 16)), (1, .int x1)]) (by decide) adX (Nat.le_of_ble_eq_true rfl) rfl ?_
  intro p e s m args below meth c A C
  refine j_bipush (v := 64) C dX0_mostOf_0 (by decide) ?_
  exact j_iret C dX0_mostOf_2 ⟨rfl, h⟩
def wX3_freeRun_b29 (X4 : Int32 × Int32 → Prop) (x1 : Int32) (x3 : Int32) (t0 : Int32) (σ : SS) (Q : Int32 → Prop) : Prop := (¬ t0 = x1 → X4 (t0, (x3 + 1))) ∧ (t0 = x1 → Q ((x3 - x1) + 1))
def wX3_freeRun_b4 (x1 : Int32) (x2 : Int32) (x3 : Int32) (σ : SS) (Q : Int32 → Prop) : Prop := lfp (fun (X4 : Int32 × Int32 → Prop) (t : Int32 × Int32) => ((gI σ 0) ≤ t.2 → Q ((-1))) ∧ (¬ (gI σ 0) ≤ t.2 → vp_in t.2 40 ∧ ((¬ (gA σ 0 t.2.toNatClampNeg) = ((-1)) → wX3_freeRun_b29 X4 x1 t.2 0 σ Q) ∧ ((gA σ 0 t.2.toNatClampNeg) = ((-1)) → wX3_freeRun_b29 X4 x1 t.2 (t.1 + 1) σ Q)))) (x2, x3)
def wX3_freeRun (x1 : Int32) (σ : SS) (Q : Int32 → Prop) : Prop := wX3_freeRun_b4 x1 0 0 σ Q
set_option maxRecDepth 100000 in
set_option maxHeartbeats 4000000 in
theorem kX3_freeRun_ok {l : Launch} {D : va_G} {cI cJ cZ : ClassId} {ad : Nat → Nat} {kv : Value} (x1 : Int32) (σ0 : SS) {Q : Int32 → Prop} (h : wX3_freeRun x1 σ0 Q) : Ci l yX3_freeRun (.code yX3_freeRun cX3_freeRun 4 (some .int) :: TT) { frames := 0, cells := 0, slots := 0, locals := 0 } D (tys cI cJ cZ) (wX cI cJ ad kv) [.ref (ad 0), .int x1] σ0 (fun r σ' => σ' = σ0 ∧ Q r) := by
  refine Ci.of (lv := [(0, .ref (ad 0)), (1, .int x1)]) (by decide) adX (Nat.le_of_ble_eq_true rfl) rfl ?_
  intro p e s m args below meth c A C
  have k29 : ∀ (x1 : Int32), ∀ (x3 : Int32), ∀ (t0 : Int32), ∀ (X4 : Int32 × Int32 → Prop), (∀ t : Int32 × Int32, X4 t → J p l e { frames := 0, cells := 0, slots := 0, locals := 0 } s m args below meth c D (wX cI cJ ad kv) A 4 (MQ below (va_Qi (fun r σ' => σ' = σ0 ∧ Q r) (WW D (tys cI cJ cZ) (wX cI cJ ad kv)) A) args s 0 0 A) σ0 4 [(0, .ref (ad 0)), (1, .int x1), (2, .int t.1), (3, .int t.2)] []) → wX3_freeRun_b29 X4 x1 x3 t0 σ0 Q → J p l e { frames := 0, cells := 0, slots := 0, locals := 0 } s m args below meth c D (wX cI cJ ad kv) A 4 (MQ below (va_Qi (fun r σ' => σ' = σ0 ∧ Q r) (WW D (tys cI cJ cZ) (wX cI cJ ad kv)) A) args s 0 0 A) σ0 29 [(0, .ref (ad 0)), (1, .int x1), (3, .int x3)] [.int t0] := by
    intro x1 x3 t0 X4 hX4 h
    refine j_istore_n (lv' := [(2, .int t0), (0, .ref (ad 0)), (1, .int x1), (3, .int x3)]) C dX3_freeRun_29 (by decide) rfl ?_
    refine j_iload_n C dX3_freeRun_30 0 rfl ?_
    refine j_iload_n C dX3_freeRun_31 2 rfl ?_
    refine j_icmp_ne 41 C dX3_freeRun_32 rfl h (fun h => ?_) (fun h => ?_)
    · refine j_iinc (lv' := [(3, .int (x3 + 1)), (2, .int t0), (0, .ref (ad 0)), (1, .int x1)]) (x3 + 1) C dX3_freeRun_41 3 rfl rfl (by decide) rfl ?_
      refine j_goto 4 C dX3_freeRun_44 rfl ?_
      refine j_sub (lv' := [(0, .ref (ad 0)), (1, .int x1), (2, .int t0), (3, .int (x3 + 1))]) [2, 3, 1, 0] rfl ?_
      exact hX4 _ h
    · refine j_iload_n C dX3_freeRun_35 3 rfl ?_
      refine j_iload_n C dX3_freeRun_36 2 rfl ?_
      refine j_isub C dX3_freeRun_37 ?_
      refine j_iconst (v := 1) C dX3_freeRun_38 (by decide) ?_
      refine j_iadd C dX3_freeRun_39 ?_
      exact j_iret C dX3_freeRun_40 ⟨rfl, h⟩
  have k4 : ∀ (x1 : Int32), ∀ (x2 : Int32), ∀ (x3 : Int32), wX3_freeRun_b4 x1 x2 x3 σ0 Q → J p l e { frames := 0, cells := 0, slots := 0, locals := 0 } s m args below meth c D (wX cI cJ ad kv) A 4 (MQ below (va_Qi (fun r σ' => σ' = σ0 ∧ Q r) (WW D (tys cI cJ cZ) (wX cI cJ ad kv)) A) args s 0 0 A) σ0 4 [(0, .ref (ad 0)), (1, .int x1), (2, .int x2), (3, .int x3)] [] := by
    intro x1 x2 x3 h
    refine h (fun t => J p l e { frames := 0, cells := 0, slots := 0, locals := 0 } s m args below meth c D (wX cI cJ ad kv) A 4 (MQ below (va_Qi (fun r σ' => σ' = σ0 ∧ Q r) (WW D (tys cI cJ cZ) (wX cI cJ ad kv)) A) args s 0 0 A) σ0 4 [(0, .ref (ad 0)), (1, .int x1), (2, .int t.1), (3, .int t.2)] []) (fun t h => ?_)
    obtain ⟨x2, x3⟩ := t
    try dsimp only at h
    refine j_iload_n C dX3_freeRun_4 3 rfl ?_
    refine j_aload_n C dX3_freeRun_5 0 rfl ?_
    refine gf_X3_46 C dX3_freeRun_6 ?_
    refine j_icmp_ge 47 C dX3_freeRun_9 rfl h (fun h => ?_) (fun h => ?_)
    · refine j_iconst (v := (-1)) C dX3_freeRun_47 (by decide) ?_
      exact j_iret C dX3_freeRun_48 ⟨rfl, h⟩
    · refine j_aload_n C dX3_freeRun_12 0 rfl ?_
      refine gf_X3_9 C dX3_freeRun_13 ?_
      refine j_iload_n C dX3_freeRun_16 3 rfl ?_
      refine al_wX_1 C h.1 dX3_freeRun_17 ?_
      replace h := h.2
      refine j_iconst (v := (-1)) C dX3_freeRun_18 (by decide) ?_
      refine j_icmp_ne 28 C dX3_freeRun_19 rfl h (fun h => ?_) (fun h => ?_)
      · refine j_iconst (v := 0) C dX3_freeRun_28 (by decide) ?_
        refine j_sub (lv' := [(0, .ref (ad 0)), (1, .int x1), (3, .int x3)]) [0, 1, 3] rfl ?_
        exact k29 _ _ _ _ (fun _ z => z) h
      · refine j_iload_n C dX3_freeRun_22 2 rfl ?_
        refine j_iconst (v := 1) C dX3_freeRun_23 (by decide) ?_
        refine j_iadd C dX3_freeRun_24 ?_
        refine j_goto 29 C dX3_freeRun_25 rfl ?_
        refine j_sub (lv' := [(0, .ref (ad 0)), (1, .int x1), (3, .int x3)]) [0, 1, 3] rfl ?_
        exact k29 _ _ _ _ (fun _ z => z) h
  refine j_iconst (v := 0) C dX3_freeRun_0 (by decide) ?_
  refine j_istore_n (lv' := [(2, .int 0), (0, .ref (ad 0)), (1, .int x1)]) C dX3_freeRun_1 (by decide) rfl ?_
  refine j_iconst (v := 0) C dX3_freeRun_2 (by decide) ?_
  refine j_istore_n (lv' := [(3, .int 0), (2, .int 0), (0, .ref (ad 0)), (1, .int x1)]) C dX3_freeRun_3 (by decide) rfl ?_
  refine j_sub (lv' := [(0, .ref (ad 0)), (1, .int x1), (2, .int 0), (3, .int 0)]) [2, 3, 1, 0] rfl ?_
  exact k4 _ _ _ h
def wX3_places (σ : SS) (Q : Int32 → Prop) : Prop := Q ((gI σ 0) * 64)
set_option maxRecDepth 100000 in
set_option maxHeartbeats 4000000 in
theorem kX3_places_ok {l : Launch} {D : va_G} {cI cJ cZ : ClassId} {ad : Nat → Nat} {kv : Value} (σ0 : SS) {Q : Int32 → Prop} (h : wX3_places σ0 Q) : Ci l yX3_places (.code yX3_places cX3_places 1 (some .int) :: TT) { frames := 0, cells := 0, slots := 0, locals := 0 } D (tys cI cJ cZ) (wX cI cJ ad kv) [.ref (ad 0)] σ0 (fun r σ' => σ' = σ0 ∧ Q r) := by
  refine Ci.of (lv := [(0, .ref (ad 0))]) (by decide) adX (Nat.le_of_ble_eq_true rfl) rfl ?_
  intro p e s m args below meth c A C
  refine j_aload_n C dX3_places_0 0 rfl ?_
  refine gf_X3_46 C dX3_places_1 ?_
  refine j_bipush (v := 64) C dX3_places_4 (by decide) ?_
  refine j_imul C dX3_places_6 ?_
  exact j_iret C dX3_places_7 ⟨rfl, h⟩
def wX3_ownerAt (x1 : Int32) (σ : SS) (Q : Int32 → Prop) : Prop := (x1 < 0 → Q ((-2))) ∧ (¬ x1 < 0 → wX3_places σ (fun r6 => (x1 < r6 → vp_in (x1 / 64) 40 ∧ (Q (gA σ 0 (x1 / 64).toNatClampNeg))) ∧ (¬ x1 < r6 → Q ((-2)))))
set_option maxRecDepth 100000 in
set_option maxHeartbeats 4000000 in
theorem kX3_ownerAt_ok {l : Launch} {D : va_G} {cI cJ cZ : ClassId} {ad : Nat → Nat} {kv : Value} (x1 : Int32) (σ0 : SS) {Q : Int32 → Prop} (h : wX3_ownerAt x1 σ0 Q) : Ci l yX3_ownerAt (.code yX3_ownerAt cX3_ownerAt 2 (some .int) :: TT) { frames := 1, cells := 0, slots := 0, locals := 20 } D (tys cI cJ cZ) (wX cI cJ ad kv) [.ref (ad 0), .int x1] σ0 (fun r σ' => σ' = σ0 ∧ Q r) := by
  refine Ci.of (lv := [(0, .ref (ad 0)), (1, .int x1)]) (by decide) adX (Nat.le_of_ble_eq_true rfl) rfl ?_
  intro p e s m args below meth c A C
  refine j_iload_n C dX3_ownerAt_0 1 rfl ?_
  refine j_if_lt 12 C dX3_ownerAt_1 rfl h (fun h => ?_) (fun h => ?_)
  · refine j_bipush (v := (-2)) C dX3_ownerAt_12 (by decide) ?_
    refine j_goto 26 C dX3_ownerAt_14 rfl ?_
    exact j_iret C dX3_ownerAt_26 ⟨rfl, h⟩
  · refine j_iload_n C dX3_ownerAt_4 1 rfl ?_
    refine j_aload_n C dX3_ownerAt_5 0 rfl ?_
    refine j_callpi 0 [] [.int x1] C (kX3_places_ok σ0 h) (tt_V ml_X3_68 mV_X3_places) ok_X3_places ⟨by decide, by decide⟩ rfl (r_wX_0 (σ := σ0)) (Nat.le_of_ble_eq_true rfl) rfl dX3_ownerAt_6 (fun r6 h => ?_)
    refine j_icmp_lt 17 C dX3_ownerAt_9 rfl h (fun h => ?_) (fun h => ?_)
    · refine j_aload_n C dX3_ownerAt_17 0 rfl ?_
      refine gf_X3_9 C dX3_ownerAt_18 ?_
      refine j_iload_n C dX3_ownerAt_21 1 rfl ?_
      refine j_bipush (v := 64) C dX3_ownerAt_22 (by decide) ?_
      refine j_idiv C dX3_ownerAt_24 (by decide) ?_
      refine al_wX_1 C h.1 dX3_ownerAt_25 ?_
      replace h := h.2
      exact j_iret C dX3_ownerAt_26 ⟨rfl, h⟩
    · refine j_bipush (v := (-2)) C dX3_ownerAt_12 (by decide) ?_
      refine j_goto 26 C dX3_ownerAt_14 rfl ?_
      exact j_iret C dX3_ownerAt_26 ⟨rfl, h⟩
def wX3_pieceAt (x1 : Int32) (σ : SS) (Q : Int32 → Prop) : Prop := (x1 < 0 → Q 0) ∧ (¬ x1 < 0 → (2560 ≤ x1 → Q 0) ∧ (¬ 2560 ≤ x1 → vp_in x1 2560 ∧ (Q (gA σ 1 x1.toNatClampNeg))))
set_option maxRecDepth 100000 in
set_option maxHeartbeats 4000000 in
theorem kX3_pieceAt_ok {l : Launch} {D : va_G} {cI cJ cZ : ClassId} {ad : Nat → Nat} {kv : Value} (x1 : Int32) (σ0 : SS) {Q : Int32 → Prop} (h : wX3_pieceAt x1 σ0 Q) : Ci l yX3_pieceAt (.code yX3_pieceAt cX3_pieceAt 2 (some .int) :: TT) { frames := 0, cells := 0, slots := 0, locals := 0 } D (tys cI cJ cZ) (wX cI cJ ad kv) [.ref (ad 0), .int x1] σ0 (fun r σ' => σ' = σ0 ∧ Q r) := by
  refine Ci.of (lv := [(0, .ref (ad 0)), (1, .int x1)]) (by decide) adX (Nat.le_of_ble_eq_true rfl) rfl ?_
  intro p e s m args below meth c A C
  refine j_iload_n C dX3_pieceAt_0 1 rfl ?_
  refine j_if_lt 20 C dX3_pieceAt_1 rfl h (fun h => ?_) (fun h => ?_)
  · refine j_iconst (v := 0) C dX3_pieceAt_20 (by decide) ?_
    exact j_iret C dX3_pieceAt_21 ⟨rfl, h⟩
  · refine j_iload_n C dX3_pieceAt_4 1 rfl ?_
    refine j_sipush (v := 2560) C dX3_pieceAt_5 (by decide) ?_
    refine j_icmp_ge 20 C dX3_pieceAt_8 rfl h (fun h => ?_) (fun h => ?_)
    · refine j_iconst (v := 0) C dX3_pieceAt_20 (by decide) ?_
      exact j_iret C dX3_pieceAt_21 ⟨rfl, h⟩
    · refine j_aload_n C dX3_pieceAt_11 0 rfl ?_
      refine gf_X3_19 C dX3_pieceAt_12 ?_
      refine j_iload_n C dX3_pieceAt_15 1 rfl ?_
      refine al_wX_3 C h.1 dX3_pieceAt_16 ?_
      replace h := h.2
      refine j_goto 21 C dX3_pieceAt_17 rfl ?_
      exact j_iret C dX3_pieceAt_21 ⟨rfl, h⟩
def wX3_freeAt (x1 : Int32) (x2 : Int32) (σ : SS) (Q : Int32 → Prop) : Prop := wX3_ownerAt x1 σ (fun r2 => (¬ r2 = x2 → Q 0) ∧ (r2 = x2 → wX3_pieceAt x1 σ (fun r12 => Q (if 0 < r12 then r12 else 0))))
set_option maxRecDepth 100000 in
set_option maxHeartbeats 4000000 in
theorem kX3_freeAt_ok {l : Launch} {D : va_G} {cI cJ cZ : ClassId} {ad : Nat → Nat} {kv : Value} (x1 : Int32) (x2 : Int32) (σ0 : SS) {Q : Int32 → Prop} (h : wX3_freeAt x1 x2 σ0 Q) : Ci l yX3_freeAt (.code yX3_freeAt cX3_freeAt 3 (some .int) :: TT) { frames := 2, cells := 0, slots := 0, locals := 41 } D (tys cI cJ cZ) (wX cI cJ ad kv) [.ref (ad 0), .int x1, .int x2] σ0 (fun r σ' => σ' = σ0 ∧ Q r) := by
  refine Ci.of (lv := [(0, .ref (ad 0)), (1, .int x1), (2, .int x2)]) (by decide) adX (Nat.le_of_ble_eq_true rfl) rfl ?_
  intro p e s m args below meth c A C
  refine j_aload_n C dX3_freeAt_0 0 rfl ?_
  refine j_iload_n C dX3_freeAt_1 1 rfl ?_
  refine j_callpi 0 [.int x1] [] C (kX3_ownerAt_ok x1 σ0 h) (tt_V ml_X3_86 mV_X3_ownerAt) ok_X3_ownerAt ⟨by decide, by decide⟩ rfl (r_wX_0 (σ := σ0)) (Nat.le_of_ble_eq_true rfl) rfl dX3_freeAt_2 (fun r2 h => ?_)
  refine j_iload_n C dX3_freeAt_5 2 rfl ?_
  refine j_icmp_ne 21 C dX3_freeAt_6 rfl h (fun h => ?_) (fun h => ?_)
  · refine j_iconst (v := 0) C dX3_freeAt_21 (by decide) ?_
    exact j_iret C dX3_freeAt_22 ⟨rfl, h⟩
  · refine j_iconst (v := 0) C dX3_freeAt_9 (by decide) ?_
    refine j_aload_n C dX3_freeAt_10 0 rfl ?_
    refine j_iload_n C dX3_freeAt_11 1 rfl ?_
    refine j_callpi 0 [.int x1] [.int 0] C (kX3_pieceAt_ok x1 σ0 h) (tt_V ml_X3_82 mV_X3_pieceAt) ok_X3_pieceAt ⟨by decide, by decide⟩ rfl (r_wX_0 (σ := σ0)) (Nat.le_of_ble_eq_true rfl) rfl dX3_freeAt_12 (fun r12 h => ?_)
    refine j_mmax C ml_X3_72 mst_max mi_J9 mc_max ⟨by decide, (Nat.le_of_ble_eq_true rfl)⟩ dX3_freeAt_15 ?_
    refine j_goto 22 C dX3_freeAt_18 rfl ?_
    exact j_iret C dX3_freeAt_22 ⟨rfl, h⟩
def wX3_blockAt (x1 : Int32) (σ : SS) (Q : Int32 → Prop) : Prop := wX3_pieceAt x1 σ (fun r2 => (0 ≤ r2 → Q ((-1))) ∧ (¬ 0 ≤ r2 → (r2 < ((-100)) → Q ((-1))) ∧ (¬ r2 < ((-100)) → Q (((-1)) - r2))))
set_option maxRecDepth 100000 in
set_option maxHeartbeats 4000000 in
theorem kX3_blockAt_ok {l : Launch} {D : va_G} {cI cJ cZ : ClassId} {ad : Nat → Nat} {kv : Value} (x1 : Int32) (σ0 : SS) {Q : Int32 → Prop} (h : wX3_blockAt x1 σ0 Q) : Ci l yX3_blockAt (.code yX3_blockAt cX3_blockAt 3 (some .int) :: TT) { frames := 1, cells := 0, slots := 0, locals := 21 } D (tys cI cJ cZ) (wX cI cJ ad kv) [.ref (ad 0), .int x1] σ0 (fun r σ' => σ' = σ0 ∧ Q r) := by
  refine Ci.of (lv := [(0, .ref (ad 0)), (1, .int x1)]) (by decide) adX (Nat.le_of_ble_eq_true rfl) rfl ?_
  intro p e s m args below meth c A C
  refine j_aload_n C dX3_blockAt_0 0 rfl ?_
  refine j_iload_n C dX3_blockAt_1 1 rfl ?_
  refine j_callpi 0 [.int x1] [] C (kX3_pieceAt_ok x1 σ0 h) (tt_V ml_X3_82 mV_X3_pieceAt) ok_X3_pieceAt ⟨by decide, by decide⟩ rfl (r_wX_0 (σ := σ0)) (Nat.le_of_ble_eq_true rfl) rfl dX3_blockAt_2 (fun r2 h => ?_)
  refine j_istore_n (lv' := [(2, .int r2), (0, .ref (ad 0)), (1, .int x1)]) C dX3_blockAt_5 (by decide) rfl ?_
  refine j_iload_n C dX3_blockAt_6 0 rfl ?_
  refine j_if_ge 22 C dX3_blockAt_7 rfl h (fun h => ?_) (fun h => ?_)
  · refine j_iconst (v := (-1)) C dX3_blockAt_22 (by decide) ?_
    exact j_iret C dX3_blockAt_23 ⟨rfl, h⟩
  · refine j_iload_n C dX3_blockAt_10 0 rfl ?_
    refine j_bipush (v := (-100)) C dX3_blockAt_11 (by decide) ?_
    refine j_icmp_lt 22 C dX3_blockAt_13 rfl h (fun h => ?_) (fun h => ?_)
    · refine j_iconst (v := (-1)) C dX3_blockAt_22 (by decide) ?_
      exact j_iret C dX3_blockAt_23 ⟨rfl, h⟩
    · refine j_iconst (v := (-1)) C dX3_blockAt_16 (by decide) ?_
      refine j_iload_n C dX3_blockAt_17 0 rfl ?_
      refine j_isub C dX3_blockAt_18 ?_
      refine j_goto 23 C dX3_blockAt_19 rfl ?_
      exact j_iret C dX3_blockAt_23 ⟨rfl, h⟩
def wX3_endOf (x1 : Int32) (σ : SS) (Q : Int32 → Prop) : Prop := wX3_ownerAt x1 σ (fun r7 => (0 ≤ r7 → wX3_blockAt x1 σ (fun r22 => (r22 < 0 → wX3_pieceAt x1 σ (fun r45 => (r45 ≤ 0 → (¬ (x1 - x1 / 64 * 64) = 0 → Q ((x1 + 64) - (x1 - x1 / 64 * 64))) ∧ ((x1 - x1 / 64 * 64) = 0 → Q (x1 + 1))) ∧ (¬ r45 ≤ 0 → Q (x1 + r45)))) ∧ (¬ r22 < 0 → vp_in r22 100 ∧ (Q (x1 + (if 1 < (gA σ 6 r22.toNatClampNeg) then (gA σ 6 r22.toNatClampNeg) else 1)))))) ∧ (¬ 0 ≤ r7 → Q ((x1 + 64) - (x1 - x1 / 64 * 64))))
set_option maxRecDepth 100000 in
set_option maxHeartbeats 4000000 in
theorem kX3_endOf_ok {l : Launch} {D : va_G} {cI cJ cZ : ClassId} {ad : Nat → Nat} {kv : Value} (x1 : Int32) (σ0 : SS) {Q : Int32 → Prop} (h : wX3_endOf x1 σ0 Q) : Ci l yX3_endOf (.code yX3_endOf cX3_endOf 5 (some .int) :: TT) { frames := 2, cells := 0, slots := 0, locals := 43 } D (tys cI cJ cZ) (wX cI cJ ad kv) [.ref (ad 0), .int x1] σ0 (fun r σ' => σ' = σ0 ∧ Q r) := by
  refine Ci.of (lv := [(0, .ref (ad 0)), (1, .int x1)]) (by decide) adX (Nat.le_of_ble_eq_true rfl) rfl ?_
  intro p e s m args below meth c A C
  refine j_iload_n C dX3_endOf_0 1 rfl ?_
  refine j_bipush (v := 64) C dX3_endOf_1 (by decide) ?_
  refine j_irem C dX3_endOf_3 (by decide) ?_
  refine j_istore_n (lv' := [(2, .int (x1 - x1 / 64 * 64)), (0, .ref (ad 0)), (1, .int x1)]) C dX3_endOf_4 (by decide) rfl ?_
  refine j_aload_n C dX3_endOf_5 1 rfl ?_
  refine j_iload_n C dX3_endOf_6 2 rfl ?_
  refine j_callpi 0 [.int x1] [] C (kX3_ownerAt_ok x1 σ0 h) (tt_V ml_X3_86 mV_X3_ownerAt) ok_X3_ownerAt ⟨by decide, by decide⟩ rfl (r_wX_0 (σ := σ0)) (Nat.le_of_ble_eq_true rfl) rfl dX3_endOf_7 (fun r7 h => ?_)
  refine j_if_ge 20 C dX3_endOf_10 rfl h (fun h => ?_) (fun h => ?_)
  · refine j_aload_n C dX3_endOf_20 1 rfl ?_
    refine j_iload_n C dX3_endOf_21 2 rfl ?_
    refine j_callpi 0 [.int x1] [] C (kX3_blockAt_ok x1 σ0 h) (tt_V ml_X3_89 mV_X3_blockAt) ok_X3_blockAt ⟨by decide, by decide⟩ rfl (r_wX_0 (σ := σ0)) (Nat.le_of_ble_eq_true rfl) rfl dX3_endOf_22 (fun r22 h => ?_)
    refine j_istore_n (lv' := [(3, .int r22), (2, .int (x1 - x1 / 64 * 64)), (0, .ref (ad 0)), (1, .int x1)]) C dX3_endOf_25 (by decide) rfl ?_
    refine j_iload_n C dX3_endOf_26 0 rfl ?_
    refine j_if_lt 43 C dX3_endOf_27 rfl h (fun h => ?_) (fun h => ?_)
    · refine j_aload_n C dX3_endOf_43 2 rfl ?_
      refine j_iload_n C dX3_endOf_44 3 rfl ?_
      refine j_callpi 0 [.int x1] [] C (kX3_pieceAt_ok x1 σ0 h) (tt_V ml_X3_82 mV_X3_pieceAt) ok_X3_pieceAt ⟨by decide, by decide⟩ rfl (r_wX_0 (σ := σ0)) (Nat.le_of_ble_eq_true rfl) rfl dX3_endOf_45 (fun r45 h => ?_)
      refine j_istore (lv' := [(4, .int r45), (3, .int r22), (2, .int (x1 - x1 / 64 * 64)), (0, .ref (ad 0)), (1, .int x1)]) C dX3_endOf_48 (by decide) rfl ?_
      refine j_iload C dX3_endOf_50 0 rfl ?_
      refine j_if_le 60 C dX3_endOf_52 rfl h (fun h => ?_) (fun h => ?_)
      · refine j_iload_n C dX3_endOf_60 2 rfl ?_
        refine j_if_ne 70 C dX3_endOf_61 rfl h (fun h => ?_) (fun h => ?_)
        · refine j_iload_n C dX3_endOf_70 4 rfl ?_
          refine j_bipush (v := 64) C dX3_endOf_71 (by decide) ?_
          refine j_iadd C dX3_endOf_73 ?_
          refine j_iload_n C dX3_endOf_74 2 rfl ?_
          refine j_isub C dX3_endOf_75 ?_
          exact j_iret C dX3_endOf_76 ⟨rfl, h⟩
        · refine j_iload_n C dX3_endOf_64 4 rfl ?_
          refine j_iconst (v := 1) C dX3_endOf_65 (by decide) ?_
          refine j_iadd C dX3_endOf_66 ?_
          refine j_goto 76 C dX3_endOf_67 rfl ?_
          exact j_iret C dX3_endOf_76 ⟨rfl, h⟩
      · refine j_iload_n C dX3_endOf_55 4 rfl ?_
        refine j_iload C dX3_endOf_56 0 rfl ?_
        refine j_iadd C dX3_endOf_58 ?_
        exact j_iret C dX3_endOf_59 ⟨rfl, h⟩
    · refine j_iload_n C dX3_endOf_30 3 rfl ?_
      refine j_iconst (v := 1) C dX3_endOf_31 (by decide) ?_
      refine j_aload_n C dX3_endOf_32 2 rfl ?_
      refine gf_X3_37 C dX3_endOf_33 ?_
      refine j_iload_n C dX3_endOf_36 0 rfl ?_
      refine al_wX_9 C h.1 dX3_endOf_37 ?_
      replace h := h.2
      refine j_mmax C ml_X3_72 mst_max mi_J9 mc_max ⟨by decide, (Nat.le_of_ble_eq_true rfl)⟩ dX3_endOf_38 ?_
      refine j_iadd C dX3_endOf_41 ?_
      exact j_iret C dX3_endOf_42 ⟨rfl, h⟩
  · refine j_iload_n C dX3_endOf_13 2 rfl ?_
    refine j_bipush (v := 64) C dX3_endOf_14 (by decide) ?_
    refine j_iadd C dX3_endOf_16 ?_
    refine j_iload_n C dX3_endOf_17 0 rfl ?_
    refine j_isub C dX3_endOf_18 ?_
    exact j_iret C dX3_endOf_19 ⟨rfl, h⟩
def wX0_greatest_b18 (x1 : Int32) (x2 : Int32) (x3 : Int32) (σ : SS) (Q : Int32 → Prop) : Prop := lfp (fun (X18 : Int32 × Int32 → Prop) (t : Int32 × Int32) => wX3_places σ (fun r23 => (r23 ≤ t.2 → (t.1 ≤ 0 → Q ((-1))) ∧ (¬ t.1 ≤ 0 → Q t.1)) ∧ (¬ r23 ≤ t.2 → wX3_freeAt t.2 x1 σ (fun r36 => wX3_endOf t.2 σ (fun r51 => X18 ((if t.1 < r36 then r36 else t.1), (if (t.2 + 1) < r51 then r51 else (t.2 + 1)))))))) (x2, x3)
def wX0_greatest (x1 : Int32) (σ : SS) (Q : Int32 → Prop) : Prop := wX3_freeRun 1 σ (fun r5 => (r5 < 0 → wX0_greatest_b18 x1 0 0 σ Q) ∧ (¬ r5 < 0 → Q 64))
set_option maxRecDepth 100000 in
set_option maxHeartbeats 4000000 in
theorem kX0_greatest_ok {l : Launch} {D : va_G} {cI cJ cZ : ClassId} {ad : Nat → Nat} {kv : Value} (x1 : Int32) (σ0 : SS) {Q : Int32 → Prop} (h : wX0_greatest x1 σ0 Q) : Ci l yX0_greatest (.code yX0_greatest cX0_greatest 4 (some .int) :: TT) { frames := 3, cells := 0, slots := 0, locals := 67 } D (tys cI cJ cZ) (wX cI cJ ad kv) [.ref (ad 16), .int x1] σ0 (fun r σ' => σ' = σ0 ∧ Q r) := by
  refine Ci.of (lv := [(0, .ref (ad 16)), (1, .int x1)]) (by decide) adX (Nat.le_of_ble_eq_true rfl) rfl ?_
  intro p e s m args below meth c A C
  have k18 : ∀ (x1 : Int32), ∀ (x2 : Int32), ∀ (x3 : Int32), wX0_greatest_b18 x1 x2 x3 σ0 Q → J p l e { frames := 3, cells := 0, slots := 0, locals := 67 } s m args below meth c D (wX cI cJ ad kv) A 4 (MQ below (va_Qi (fun r σ' => σ' = σ0 ∧ Q r) (WW D (tys cI cJ cZ) (wX cI cJ ad kv)) A) args s 0 0 A) σ0 18 [(0, .ref (ad 16)), (1, .int x1), (2, .int x2), (3, .int x3)] [] := by
    intro x1 x2 x3 h
    refine h (fun t => J p l e { frames := 3, cells := 0, slots := 0, locals := 67 } s m args below meth c D (wX cI cJ ad kv) A 4 (MQ below (va_Qi (fun r σ' => σ' = σ0 ∧ Q r) (WW D (tys cI cJ cZ) (wX cI cJ ad kv)) A) args s 0 0 A) σ0 18 [(0, .ref (ad 16)), (1, .int x1), (2, .int t.1), (3, .int t.2)] []) (fun t h => ?_)
    obtain ⟨x2, x3⟩ := t
    try dsimp only at h
    refine j_iload_n C dX0_greatest_18 3 rfl ?_
    refine j_aload_n C dX0_greatest_19 0 rfl ?_
    refine gf_X0_9 C dX0_greatest_20 ?_
    refine j_callpi 0 [] [.int x3] C (kX3_places_ok σ0 h) (tt_V ml_X0_21 mV_X3_places) ok_X3_places ⟨by decide, by decide⟩ rfl (r_wX_0 (σ := σ0)) (Nat.le_of_ble_eq_true rfl) rfl dX0_greatest_23 (fun r23 h => ?_)
    refine j_icmp_ge 61 C dX0_greatest_26 rfl h (fun h => ?_) (fun h => ?_)
    · refine j_iload_n C dX0_greatest_61 2 rfl ?_
      refine j_if_le 69 C dX0_greatest_62 rfl h (fun h => ?_) (fun h => ?_)
      · refine j_iconst (v := (-1)) C dX0_greatest_69 (by decide) ?_
        exact j_iret C dX0_greatest_70 ⟨rfl, h⟩
      · refine j_iload_n C dX0_greatest_65 2 rfl ?_
        refine j_goto 70 C dX0_greatest_66 rfl ?_
        exact j_iret C dX0_greatest_70 ⟨rfl, h⟩
    · refine j_iload_n C dX0_greatest_29 2 rfl ?_
      refine j_aload_n C dX0_greatest_30 0 rfl ?_
      refine gf_X0_9 C dX0_greatest_31 ?_
      refine j_iload_n C dX0_greatest_34 3 rfl ?_
      refine j_iload_n C dX0_greatest_35 1 rfl ?_
      refine j_callpi 0 [.int x3, .int x1] [.int x2] C (kX3_freeAt_ok x3 x1 σ0 h) (tt_V ml_X0_25 mV_X3_freeAt) ok_X3_freeAt ⟨by decide, by decide⟩ rfl (r_wX_0 (σ := σ0)) (Nat.le_of_ble_eq_true rfl) rfl dX0_greatest_36 (fun r36 h => ?_)
      refine j_mmax C ml_X0_29 mst_max mi_J9 mc_max ⟨by decide, (Nat.le_of_ble_eq_true rfl)⟩ dX0_greatest_39 ?_
      refine j_istore_n (lv' := [(2, .int (if x2 < r36 then r36 else x2)), (0, .ref (ad 16)), (1, .int x1), (3, .int x3)]) C dX0_greatest_42 (by decide) rfl ?_
      refine j_iload_n C dX0_greatest_43 3 rfl ?_
      refine j_iconst (v := 1) C dX0_greatest_44 (by decide) ?_
      refine j_iadd C dX0_greatest_45 ?_
      refine j_aload_n C dX0_greatest_46 1 rfl ?_
      refine gf_X0_9 C dX0_greatest_47 ?_
      refine j_iload_n C dX0_greatest_50 3 rfl ?_
      refine j_callpi 0 [.int x3] [.int (x3 + 1)] C (kX3_endOf_ok x3 σ0 h) (tt_V ml_X0_34 mV_X3_endOf) ok_X3_endOf ⟨by decide, by decide⟩ rfl (r_wX_0 (σ := σ0)) (Nat.le_of_ble_eq_true rfl) rfl dX0_greatest_51 (fun r51 h => ?_)
      refine j_mmax C ml_X0_29 mst_max mi_J9 mc_max ⟨by decide, (Nat.le_of_ble_eq_true rfl)⟩ dX0_greatest_54 ?_
      refine j_istore_n (lv' := [(3, .int (if (x3 + 1) < r51 then r51 else (x3 + 1))), (2, .int (if x2 < r36 then r36 else x2)), (0, .ref (ad 16)), (1, .int x1)]) C dX0_greatest_57 (by decide) rfl ?_
      refine j_goto 18 C dX0_greatest_58 rfl ?_
      refine j_sub (lv' := [(0, .ref (ad 16)), (1, .int x1), (2, .int (if x2 < r36 then r36 else x2)), (3, .int (if (x3 + 1) < r51 then r51 else (x3 + 1)))]) [2, 3, 1, 0] rfl ?_
      exact h
  refine j_aload_n C dX0_greatest_0 0 rfl ?_
  refine gf_X0_9 C dX0_greatest_1 ?_
  refine j_iconst (v := 1) C dX0_greatest_4 (by decide) ?_
  refine j_callpi 0 [.int 1] [] C (kX3_freeRun_ok 1 σ0 h) (tt_V ml_X0_15 mV_X3_freeRun) ok_X3_freeRun ⟨by decide, by decide⟩ rfl (r_wX_0 (σ := σ0)) (Nat.le_of_ble_eq_true rfl) rfl dX0_greatest_5 (fun r5 h => ?_)
  refine j_if_lt 14 C dX0_greatest_8 rfl h (fun h => ?_) (fun h => ?_)
  · refine j_iconst (v := 0) C dX0_greatest_14 (by decide) ?_
    refine j_istore_n (lv' := [(2, .int 0), (0, .ref (ad 16)), (1, .int x1)]) C dX0_greatest_15 (by decide) rfl ?_
    refine j_iconst (v := 0) C dX0_greatest_16 (by decide) ?_
    refine j_istore_n (lv' := [(3, .int 0), (2, .int 0), (0, .ref (ad 16)), (1, .int x1)]) C dX0_greatest_17 (by decide) rfl ?_
    refine j_sub (lv' := [(0, .ref (ad 16)), (1, .int x1), (2, .int 0), (3, .int 0)]) [2, 3, 1, 0] rfl ?_
    exact k18 _ _ _ h
  · refine j_bipush (v := 64) C dX0_greatest_11 (by decide) ?_
    exact j_iret C dX0_greatest_13 ⟨rfl, h⟩
def wX0_leastFree_b58 (X9 : Int32 × Int32 × Int32 → Prop) (x1 : Int32) (x2 : Int32) (x3 : Int32) (x4 : Int32) (x5 : Int32) (σ : SS) (Q : Int32 → Prop) : Prop := wX3_endOf x5 σ (fun r68 => X9 (x3, x4, (if (x5 + 1) < r68 then r68 else (x5 + 1))))
def wX0_leastFree_b9 (x1 : Int32) (x2 : Int32) (x3 : Int32) (x4 : Int32) (x5 : Int32) (σ : SS) (Q : Int32 → Prop) : Prop := lfp (fun (X9 : Int32 × Int32 × Int32 → Prop) (t : Int32 × Int32 × Int32) => wX3_places σ (fun r15 => (r15 ≤ t.2.2 → Q t.1) ∧ (¬ r15 ≤ t.2.2 → wX3_freeAt t.2.2 x1 σ (fun r28 => (r28 ≤ 0 → wX0_leastFree_b58 X9 x1 x2 t.1 t.2.1 t.2.2 σ Q) ∧ (¬ r28 ≤ 0 → (r28 < x2 → wX0_leastFree_b58 X9 x1 x2 t.1 t.2.1 t.2.2 σ Q) ∧ (¬ r28 < x2 → (t.2.1 ≤ r28 → wX0_leastFree_b58 X9 x1 x2 t.1 t.2.1 t.2.2 σ Q) ∧ (¬ t.2.1 ≤ r28 → wX0_leastFree_b58 X9 x1 x2 t.2.2 r28 t.2.2 σ Q))))))) (x3, x4, x5)
def wX0_leastFree (x1 : Int32) (x2 : Int32) (σ : SS) (Q : Int32 → Prop) : Prop := wX0_leastFree_b9 x1 x2 ((-1)) 65 0 σ Q
set_option maxRecDepth 100000 in
set_option maxHeartbeats 4000000 in
theorem kX0_leastFree_ok {l : Launch} {D : va_G} {cI cJ cZ : ClassId} {ad : Nat → Nat} {kv : Value} (x1 : Int32) (x2 : Int32) (σ0 : SS) {Q : Int32 → Prop} (h : wX0_leastFree x1 x2 σ0 Q) : Ci l yX0_leastFree (.code yX0_leastFree cX0_leastFree 7 (some .int) :: TT) { frames := 3, cells := 0, slots := 0, locals := 67 } D (tys cI cJ cZ) (wX cI cJ ad kv) [.ref (ad 16), .int x1, .int x2] σ0 (fun r σ' => σ' = σ0 ∧ Q r) := by
  refine Ci.of (lv := [(0, .ref (ad 16)), (1, .int x1), (2, .int x2)]) (by decide) adX (Nat.le_of_ble_eq_true rfl) rfl ?_
  intro p e s m args below meth c A C
  have k58 : ∀ (x1 : Int32), ∀ (x2 : Int32), ∀ (x3 : Int32), ∀ (x4 : Int32), ∀ (x5 : Int32), ∀ (X9 : Int32 × Int32 × Int32 → Prop), (∀ t : Int32 × Int32 × Int32, X9 t → J p l e { frames := 3, cells := 0, slots := 0, locals := 67 } s m args below meth c D (wX cI cJ ad kv) A 7 (MQ below (va_Qi (fun r σ' => σ' = σ0 ∧ Q r) (WW D (tys cI cJ cZ) (wX cI cJ ad kv)) A) args s 0 0 A) σ0 9 [(0, .ref (ad 16)), (1, .int x1), (2, .int x2), (3, .int t.1), (4, .int t.2.1), (5, .int t.2.2)] []) → wX0_leastFree_b58 X9 x1 x2 x3 x4 x5 σ0 Q → J p l e { frames := 3, cells := 0, slots := 0, locals := 67 } s m args below meth c D (wX cI cJ ad kv) A 7 (MQ below (va_Qi (fun r σ' => σ' = σ0 ∧ Q r) (WW D (tys cI cJ cZ) (wX cI cJ ad kv)) A) args s 0 0 A) σ0 58 [(0, .ref (ad 16)), (1, .int x1), (2, .int x2), (3, .int x3), (4, .int x4), (5, .int x5)] [] := by
    intro x1 x2 x3 x4 x5 X9 hX9 h
    refine j_iload C dX0_leastFree_58 5 rfl ?_
    refine j_iconst (v := 1) C dX0_leastFree_60 (by decide) ?_
    refine j_iadd C dX0_leastFree_61 ?_
    refine j_aload_n C dX0_leastFree_62 0 rfl ?_
    refine gf_X0_9 C dX0_leastFree_63 ?_
    refine j_iload C dX0_leastFree_66 5 rfl ?_
    refine j_callpi 0 [.int x5] [.int (x5 + 1)] C (kX3_endOf_ok x5 σ0 h) (tt_V ml_X0_34 mV_X3_endOf) ok_X3_endOf ⟨by decide, by decide⟩ rfl (r_wX_0 (σ := σ0)) (Nat.le_of_ble_eq_true rfl) rfl dX0_leastFree_68 (fun r68 h => ?_)
    refine j_mmax C ml_X0_29 mst_max mi_J9 mc_max ⟨by decide, (Nat.le_of_ble_eq_true rfl)⟩ dX0_leastFree_71 ?_
    refine j_istore (lv' := [(5, .int (if (x5 + 1) < r68 then r68 else (x5 + 1))), (0, .ref (ad 16)), (1, .int x1), (2, .int x2), (3, .int x3), (4, .int x4)]) C dX0_leastFree_74 (by decide) rfl ?_
    refine j_goto 9 C dX0_leastFree_76 rfl ?_
    refine j_sub (lv' := [(0, .ref (ad 16)), (1, .int x1), (2, .int x2), (3, .int x3), (4, .int x4), (5, .int (if (x5 + 1) < r68 then r68 else (x5 + 1)))]) [1, 2, 3, 4, 5, 0] rfl ?_
    exact hX9 _ h
  have k9 : ∀ (x1 : Int32), ∀ (x2 : Int32), ∀ (x3 : Int32), ∀ (x4 : Int32), ∀ (x5 : Int32), wX0_leastFree_b9 x1 x2 x3 x4 x5 σ0 Q → J p l e { frames := 3, cells := 0, slots := 0, locals := 67 } s m args below meth c D (wX cI cJ ad kv) A 7 (MQ below (va_Qi (fun r σ' => σ' = σ0 ∧ Q r) (WW D (tys cI cJ cZ) (wX cI cJ ad kv)) A) args s 0 0 A) σ0 9 [(0, .ref (ad 16)), (1, .int x1), (2, .int x2), (3, .int x3), (4, .int x4), (5, .int x5)] [] := by
    intro x1 x2 x3 x4 x5 h
    refine h (fun t => J p l e { frames := 3, cells := 0, slots := 0, locals := 67 } s m args below meth c D (wX cI cJ ad kv) A 7 (MQ below (va_Qi (fun r σ' => σ' = σ0 ∧ Q r) (WW D (tys cI cJ cZ) (wX cI cJ ad kv)) A) args s 0 0 A) σ0 9 [(0, .ref (ad 16)), (1, .int x1), (2, .int x2), (3, .int t.1), (4, .int t.2.1), (5, .int t.2.2)] []) (fun t h => ?_)
    obtain ⟨x3, x4, x5⟩ := t
    try dsimp only at h
    refine j_iload C dX0_leastFree_9 5 rfl ?_
    refine j_aload_n C dX0_leastFree_11 0 rfl ?_
    refine gf_X0_9 C dX0_leastFree_12 ?_
    refine j_callpi 0 [] [.int x5] C (kX3_places_ok σ0 h) (tt_V ml_X0_21 mV_X3_places) ok_X3_places ⟨by decide, by decide⟩ rfl (r_wX_0 (σ := σ0)) (Nat.le_of_ble_eq_true rfl) rfl dX0_leastFree_15 (fun r15 h => ?_)
    refine j_icmp_ge 79 C dX0_leastFree_18 rfl h (fun h => ?_) (fun h => ?_)
    · refine j_iload_n C dX0_leastFree_79 3 rfl ?_
      exact j_iret C dX0_leastFree_80 ⟨rfl, h⟩
    · refine j_aload_n C dX0_leastFree_21 0 rfl ?_
      refine gf_X0_9 C dX0_leastFree_22 ?_
      refine j_iload C dX0_leastFree_25 5 rfl ?_
      refine j_iload_n C dX0_leastFree_27 1 rfl ?_
      refine j_callpi 0 [.int x5, .int x1] [] C (kX3_freeAt_ok x5 x1 σ0 h) (tt_V ml_X0_25 mV_X3_freeAt) ok_X3_freeAt ⟨by decide, by decide⟩ rfl (r_wX_0 (σ := σ0)) (Nat.le_of_ble_eq_true rfl) rfl dX0_leastFree_28 (fun r28 h => ?_)
      refine j_istore (lv' := [(6, .int r28), (0, .ref (ad 16)), (1, .int x1), (2, .int x2), (3, .int x3), (4, .int x4), (5, .int x5)]) C dX0_leastFree_31 (by decide) rfl ?_
      refine j_iload C dX0_leastFree_33 0 rfl ?_
      refine j_if_le 58 C dX0_leastFree_35 rfl h (fun h => ?_) (fun h => ?_)
      · refine j_sub (lv' := [(0, .ref (ad 16)), (1, .int x1), (2, .int x2), (3, .int x3), (4, .int x4), (5, .int x5)]) [1, 2, 3, 4, 5, 6] rfl ?_
        exact k58 _ _ _ _ _ _ (fun _ z => z) h
      · refine j_iload C dX0_leastFree_38 0 rfl ?_
        refine j_iload_n C dX0_leastFree_40 3 rfl ?_
        refine j_icmp_lt 58 C dX0_leastFree_41 rfl h (fun h => ?_) (fun h => ?_)
        · refine j_sub (lv' := [(0, .ref (ad 16)), (1, .int x1), (2, .int x2), (3, .int x3), (4, .int x4), (5, .int x5)]) [1, 2, 3, 4, 5, 6] rfl ?_
          exact k58 _ _ _ _ _ _ (fun _ z => z) h
        · refine j_iload C dX0_leastFree_44 0 rfl ?_
          refine j_iload C dX0_leastFree_46 5 rfl ?_
          refine j_icmp_ge 58 C dX0_leastFree_48 rfl h (fun h => ?_) (fun h => ?_)
          · refine j_sub (lv' := [(0, .ref (ad 16)), (1, .int x1), (2, .int x2), (3, .int x3), (4, .int x4), (5, .int x5)]) [1, 2, 3, 4, 5, 6] rfl ?_
            exact k58 _ _ _ _ _ _ (fun _ z => z) h
          · refine j_iload C dX0_leastFree_51 6 rfl ?_
            refine j_istore_n (lv' := [(3, .int x5), (6, .int r28), (0, .ref (ad 16)), (1, .int x1), (2, .int x2), (4, .int x4), (5, .int x5)]) C dX0_leastFree_53 (by decide) rfl ?_
            refine j_iload C dX0_leastFree_54 1 rfl ?_
            refine j_istore (lv' := [(4, .int r28), (3, .int x5), (6, .int r28), (0, .ref (ad 16)), (1, .int x1), (2, .int x2), (5, .int x5)]) C dX0_leastFree_56 (by decide) rfl ?_
            refine j_sub (lv' := [(0, .ref (ad 16)), (1, .int x1), (2, .int x2), (3, .int x5), (4, .int r28), (5, .int x5)]) [3, 4, 5, 1, 0, 6] rfl ?_
            exact k58 _ _ _ _ _ _ (fun _ z => z) h
  refine j_iconst (v := (-1)) C dX0_leastFree_0 (by decide) ?_
  refine j_istore_n (lv' := [(3, .int ((-1))), (0, .ref (ad 16)), (1, .int x1), (2, .int x2)]) C dX0_leastFree_1 (by decide) rfl ?_
  refine j_bipush (v := 65) C dX0_leastFree_2 (by decide) ?_
  refine j_istore (lv' := [(4, .int 65), (3, .int ((-1))), (0, .ref (ad 16)), (1, .int x1), (2, .int x2)]) C dX0_leastFree_4 (by decide) rfl ?_
  refine j_iconst (v := 0) C dX0_leastFree_6 (by decide) ?_
  refine j_istore (lv' := [(5, .int 0), (4, .int 65), (3, .int ((-1))), (0, .ref (ad 16)), (1, .int x1), (2, .int x2)]) C dX0_leastFree_7 (by decide) rfl ?_
  refine j_sub (lv' := [(0, .ref (ad 16)), (1, .int x1), (2, .int x2), (3, .int ((-1))), (4, .int 65), (5, .int 0)]) [3, 4, 5, 2, 1, 0] rfl ?_
  exact k9 _ _ _ _ _ h
def wX3_mark (x1 : Int32) (x2 : Int32) (σ : SS) (Q : SS → Prop) : Prop := (x1 < 0 → Q σ) ∧ (¬ x1 < 0 → (2560 ≤ x1 → Q σ) ∧ (¬ 2560 ≤ x1 → vp_in x1 2560 ∧ (Q (sA σ 1 x1.toNatClampNeg x2))))
set_option maxRecDepth 100000 in
set_option maxHeartbeats 4000000 in
theorem kX3_mark_ok {l : Launch} {D : va_G} {cI cJ cZ : ClassId} {ad : Nat → Nat} {kv : Value} (x1 : Int32) (x2 : Int32) (σ0 : SS) {Q : SS → Prop} (h : wX3_mark x1 x2 σ0 Q) : Cv l yX3_mark (.code yX3_mark cX3_mark 3 none :: TT) { frames := 0, cells := 0, slots := 0, locals := 0 } D (tys cI cJ cZ) (wX cI cJ ad kv) [.ref (ad 0), .int x1, .int x2] σ0 Q := by
  refine Cv.of (lv := [(0, .ref (ad 0)), (1, .int x1), (2, .int x2)]) (by decide) adX (Nat.le_of_ble_eq_true rfl) rfl ?_
  intro p e s m args below meth c A C
  refine j_iload_n C dX3_mark_0 1 rfl ?_
  refine j_if_lt 18 C dX3_mark_1 rfl h (fun h => ?_) (fun h => ?_)
  · exact j_vret C dX3_mark_18 h
  · refine j_iload_n C dX3_mark_4 1 rfl ?_
    refine j_sipush (v := 2560) C dX3_mark_5 (by decide) ?_
    refine j_icmp_ge 18 C dX3_mark_8 rfl h (fun h => ?_) (fun h => ?_)
    · exact j_vret C dX3_mark_18 h
    · refine j_aload_n C dX3_mark_11 0 rfl ?_
      refine gf_X3_19 C dX3_mark_12 ?_
      refine j_iload_n C dX3_mark_15 1 rfl ?_
      refine j_iload_n C dX3_mark_16 2 rfl ?_
      refine as_wX_3 C h.1 dX3_mark_17 ?_
      replace h := h.2
      exact j_vret C dX3_mark_18 h
def wX0_partOff_b8 (x1 : Int32) (x3 : Int32) (x4 : Int32) (x5 : Int32) (σ : SS) (Q : Int32 → SS → Prop) : Prop := lfp (fun (X8 : Int32 × Int32 × SS → Prop) (t : Int32 × Int32 × SS) => (t.2.1 < 1 → Q t.1 t.2.2) ∧ (¬ t.2.1 < 1 → (t.2.1 < x3 → Q t.1 t.2.2) ∧ (¬ t.2.1 < x3 → wX3_mark (x1 + t.2.1) t.2.1 t.2.2 (fun σ30 => X8 (t.2.1, (t.2.1 / 2), σ30))))) (x4, x5, σ)
def wX0_partOff (x1 : Int32) (x2 : Int32) (x3 : Int32) (σ : SS) (Q : Int32 → SS → Prop) : Prop := wX0_partOff_b8 x1 x3 x2 (x2 / 2) σ Q
set_option maxRecDepth 100000 in
set_option maxHeartbeats 4000000 in
theorem kX0_partOff_ok {l : Launch} {D : va_G} {cI cJ cZ : ClassId} {ad : Nat → Nat} {kv : Value} (x1 : Int32) (x2 : Int32) (x3 : Int32) (σ0 : SS) {Q : Int32 → SS → Prop} (h : wX0_partOff x1 x2 x3 σ0 Q) : Ci l yX0_partOff (.code yX0_partOff cX0_partOff 6 (some .int) :: TT) { frames := 1, cells := 0, slots := 0, locals := 22 } D (tys cI cJ cZ) (wX cI cJ ad kv) [.ref (ad 16), .int x1, .int x2, .int x3] σ0 Q := by
  refine Ci.of (lv := [(0, .ref (ad 16)), (1, .int x1), (2, .int x2), (3, .int x3)]) (by decide) adX (Nat.le_of_ble_eq_true rfl) rfl ?_
  intro p e s m args below meth c A C
  have k8 : ∀ (x1 : Int32), ∀ (x3 : Int32), ∀ (x4 : Int32), ∀ (x5 : Int32), ∀ (σ : SS), wX0_partOff_b8 x1 x3 x4 x5 σ Q → J p l e { frames := 1, cells := 0, slots := 0, locals := 22 } s m args below meth c D (wX cI cJ ad kv) A 6 (MQ below (va_Qi Q (WW D (tys cI cJ cZ) (wX cI cJ ad kv)) A) args s 0 0 A) σ 8 [(0, .ref (ad 16)), (1, .int x1), (3, .int x3), (4, .int x4), (5, .int x5)] [] := by
    intro x1 x3 x4 x5 σ h
    refine h (fun t => J p l e { frames := 1, cells := 0, slots := 0, locals := 22 } s m args below meth c D (wX cI cJ ad kv) A 6 (MQ below (va_Qi Q (WW D (tys cI cJ cZ) (wX cI cJ ad kv)) A) args s 0 0 A) t.2.2 8 [(0, .ref (ad 16)), (1, .int x1), (3, .int x3), (4, .int t.1), (5, .int t.2.1)] []) (fun t h => ?_)
    obtain ⟨x4, x5, σ⟩ := t
    try dsimp only at h
    refine j_iload C dX0_partOff_8 4 rfl ?_
    refine j_iconst (v := 1) C dX0_partOff_10 (by decide) ?_
    refine j_icmp_lt 46 C dX0_partOff_11 rfl h (fun h => ?_) (fun h => ?_)
    · refine j_iload C dX0_partOff_46 3 rfl ?_
      exact j_iret C dX0_partOff_48 h
    · refine j_iload C dX0_partOff_14 4 rfl ?_
      refine j_iload_n C dX0_partOff_16 2 rfl ?_
      refine j_icmp_lt 46 C dX0_partOff_17 rfl h (fun h => ?_) (fun h => ?_)
      · refine j_iload C dX0_partOff_46 3 rfl ?_
        exact j_iret C dX0_partOff_48 h
      · refine j_aload_n C dX0_partOff_20 0 rfl ?_
        refine gf_X0_9 C dX0_partOff_21 ?_
        refine j_iload_n C dX0_partOff_24 1 rfl ?_
        refine j_iload C dX0_partOff_25 4 rfl ?_
        refine j_iadd C dX0_partOff_27 ?_
        refine j_iload C dX0_partOff_28 4 rfl ?_
        refine j_callv 0 [.int (x1 + x5), .int x5] [] C (kX3_mark_ok (x1 + x5) x5 σ h) (tt_V ml_X0_44 mV_X3_mark) ok_X3_mark ⟨by decide, by decide⟩ rfl (r_wX_0 (σ := σ)) (Nat.le_of_ble_eq_true rfl) rfl dX0_partOff_30 (fun σ30 h => ?_)
        refine j_iload C dX0_partOff_33 4 rfl ?_
        refine j_istore (lv' := [(4, .int x5), (0, .ref (ad 16)), (1, .int x1), (3, .int x3), (5, .int x5)]) C dX0_partOff_35 (by decide) rfl ?_
        refine j_iload C dX0_partOff_37 4 rfl ?_
        refine j_iconst (v := 2) C dX0_partOff_39 (by decide) ?_
        refine j_idiv C dX0_partOff_40 (by decide) ?_
        refine j_istore (lv' := [(5, .int (x5 / 2)), (4, .int x5), (0, .ref (ad 16)), (1, .int x1), (3, .int x3)]) C dX0_partOff_41 (by decide) rfl ?_
        refine j_goto 8 C dX0_partOff_43 rfl ?_
        refine j_sub (lv' := [(0, .ref (ad 16)), (1, .int x1), (3, .int x3), (4, .int x5), (5, .int (x5 / 2))]) [2, 3, 4, 1, 0] rfl ?_
        exact h
  refine j_iload_n C dX0_partOff_0 2 rfl ?_
  refine j_istore (lv' := [(4, .int x2), (0, .ref (ad 16)), (1, .int x1), (2, .int x2), (3, .int x3)]) C dX0_partOff_1 (by decide) rfl ?_
  refine j_iload_n C dX0_partOff_3 3 rfl ?_
  refine j_iconst (v := 2) C dX0_partOff_4 (by decide) ?_
  refine j_idiv C dX0_partOff_5 (by decide) ?_
  refine j_istore (lv' := [(5, .int (x2 / 2)), (4, .int x2), (0, .ref (ad 16)), (1, .int x1), (2, .int x2), (3, .int x3)]) C dX0_partOff_6 (by decide) rfl ?_
  refine j_sub (lv' := [(0, .ref (ad 16)), (1, .int x1), (3, .int x3), (4, .int x2), (5, .int (x2 / 2))]) [2, 3, 5, 1, 0] rfl ?_
  exact k8 _ _ _ _ _ h
def wX0_takePiece_b55 (x1 : Int32) (x2 : Int32) (x3 : Int32) (σ : SS) (Q : Int32 → SS → Prop) : Prop := wX3_freeAt x3 x1 σ (fun r68 => wX0_partOff x3 r68 x2 σ (fun r72 σ72 => wX3_mark x3 r72 σ72 (fun σ75 => Q x3 σ75)))
def wX0_takePiece (x1 : Int32) (x2 : Int32) (σ : SS) (Q : Int32 → SS → Prop) : Prop := wX0_leastFree x1 x2 σ (fun r3 => (0 ≤ r3 → wX0_takePiece_b55 x1 x2 r3 σ Q) ∧ (¬ 0 ≤ r3 → wX3_freeRun 1 σ (fun r16 => (0 ≤ r16 → vp_in r16 40 ∧ (wX3_mark (r16 * 64) 64 (sA σ 0 r16.toNatClampNeg x1) (fun σ52 => wX0_takePiece_b55 x1 x2 (r16 * 64) σ52 Q))) ∧ (¬ 0 ≤ r16 → Q ((-1)) σ))))
set_option maxRecDepth 100000 in
set_option maxHeartbeats 4000000 in
theorem kX0_takePiece_ok {l : Launch} {D : va_G} {cI cJ cZ : ClassId} {ad : Nat → Nat} {kv : Value} (x1 : Int32) (x2 : Int32) (σ0 : SS) {Q : Int32 → SS → Prop} (h : wX0_takePiece x1 x2 σ0 Q) : Ci l yX0_takePiece (.code yX0_takePiece cX0_takePiece 5 (some .int) :: TT) { frames := 4, cells := 0, slots := 0, locals := 93 } D (tys cI cJ cZ) (wX cI cJ ad kv) [.ref (ad 16), .int x1, .int x2] σ0 Q := by
  refine Ci.of (lv := [(0, .ref (ad 16)), (1, .int x1), (2, .int x2)]) (by decide) adX (Nat.le_of_ble_eq_true rfl) rfl ?_
  intro p e s m args below meth c A C
  have k55 : ∀ (x1 : Int32), ∀ (x2 : Int32), ∀ (x3 : Int32), ∀ (σ : SS), wX0_takePiece_b55 x1 x2 x3 σ Q → J p l e { frames := 4, cells := 0, slots := 0, locals := 93 } s m args below meth c D (wX cI cJ ad kv) A 5 (MQ below (va_Qi Q (WW D (tys cI cJ cZ) (wX cI cJ ad kv)) A) args s 0 0 A) σ 55 [(0, .ref (ad 16)), (1, .int x1), (2, .int x2), (3, .int x3)] [] := by
    intro x1 x2 x3 σ h
    refine j_aload_n C dX0_takePiece_55 0 rfl ?_
    refine gf_X0_9 C dX0_takePiece_56 ?_
    refine j_iload_n C dX0_takePiece_59 3 rfl ?_
    refine j_aload_n C dX0_takePiece_60 0 rfl ?_
    refine j_iload_n C dX0_takePiece_61 3 rfl ?_
    refine j_aload_n C dX0_takePiece_62 0 rfl ?_
    refine gf_X0_9 C dX0_takePiece_63 ?_
    refine j_iload_n C dX0_takePiece_66 3 rfl ?_
    refine j_iload_n C dX0_takePiece_67 1 rfl ?_
    refine j_callpi 0 [.int x3, .int x1] [.int x3, .ref (ad 16), .int x3, .ref (ad 0)] C (kX3_freeAt_ok x3 x1 σ h) (tt_V ml_X0_25 mV_X3_freeAt) ok_X3_freeAt ⟨by decide, by decide⟩ rfl (r_wX_0 (σ := σ)) (Nat.le_of_ble_eq_true rfl) rfl dX0_takePiece_68 (fun r68 h => ?_)
    refine j_iload_n C dX0_takePiece_71 2 rfl ?_
    refine j_calli 16 [.int x3, .int r68, .int x2] [.int x3, .ref (ad 0)] C (kX0_partOff_ok x3 r68 x2 σ h) (tt_V ml_X0_48 mV_X0_partOff) ok_X0_partOff ⟨by decide, by decide⟩ rfl (r_wX_16 (σ := σ)) (Nat.le_of_ble_eq_true rfl) rfl dX0_takePiece_72 (fun r72 σ72 h => ?_)
    refine j_callv 0 [.int x3, .int r72] [] C (kX3_mark_ok x3 r72 σ72 h) (tt_V ml_X0_44 mV_X3_mark) ok_X3_mark ⟨by decide, by decide⟩ rfl (r_wX_0 (σ := σ72)) (Nat.le_of_ble_eq_true rfl) rfl dX0_takePiece_75 (fun σ75 h => ?_)
    refine j_iload_n C dX0_takePiece_78 3 rfl ?_
    exact j_iret C dX0_takePiece_79 h
  refine j_aload_n C dX0_takePiece_0 0 rfl ?_
  refine j_iload_n C dX0_takePiece_1 1 rfl ?_
  refine j_iload_n C dX0_takePiece_2 2 rfl ?_
  refine j_callpi 16 [.int x1, .int x2] [] C (kX0_leastFree_ok x1 x2 σ0 h) (tt_V ml_X0_37 mV_X0_leastFree) ok_X0_leastFree ⟨by decide, by decide⟩ rfl (r_wX_16 (σ := σ0)) (Nat.le_of_ble_eq_true rfl) rfl dX0_takePiece_3 (fun r3 h => ?_)
  refine j_istore_n (lv' := [(3, .int r3), (0, .ref (ad 16)), (1, .int x1), (2, .int x2)]) C dX0_takePiece_6 (by decide) rfl ?_
  refine j_iload_n C dX0_takePiece_7 0 rfl ?_
  refine j_if_ge 55 C dX0_takePiece_8 rfl h (fun h => ?_) (fun h => ?_)
  · refine j_sub (lv' := [(0, .ref (ad 16)), (1, .int x1), (2, .int x2), (3, .int r3)]) [1, 2, 3, 0] rfl ?_
    exact k55 _ _ _ _ h
  · refine j_aload_n C dX0_takePiece_11 1 rfl ?_
    refine gf_X0_9 C dX0_takePiece_12 ?_
    refine j_iconst (v := 1) C dX0_takePiece_15 (by decide) ?_
    refine j_callpi 0 [.int 1] [] C (kX3_freeRun_ok 1 σ0 h) (tt_V ml_X0_15 mV_X3_freeRun) ok_X3_freeRun ⟨by decide, by decide⟩ rfl (r_wX_0 (σ := σ0)) (Nat.le_of_ble_eq_true rfl) rfl dX0_takePiece_16 (fun r16 h => ?_)
    refine j_istore (lv' := [(4, .int r16), (3, .int r3), (0, .ref (ad 16)), (1, .int x1), (2, .int x2)]) C dX0_takePiece_19 (by decide) rfl ?_
    refine j_iload C dX0_takePiece_21 0 rfl ?_
    refine j_if_ge 28 C dX0_takePiece_23 rfl h (fun h => ?_) (fun h => ?_)
    · refine j_aload_n C dX0_takePiece_28 2 rfl ?_
      refine gf_X0_9 C dX0_takePiece_29 ?_
      refine gf_X0_40 C dX0_takePiece_32 ?_
      refine j_iload C dX0_takePiece_35 0 rfl ?_
      refine j_iload_n C dX0_takePiece_37 3 rfl ?_
      refine as_wX_1 C h.1 dX0_takePiece_38 ?_
      replace h := h.2
      refine j_iload C dX0_takePiece_39 0 rfl ?_
      refine j_bipush (v := 64) C dX0_takePiece_41 (by decide) ?_
      refine j_imul C dX0_takePiece_43 ?_
      refine j_istore_n (lv' := [(3, .int (r16 * 64)), (4, .int r16), (0, .ref (ad 16)), (1, .int x1), (2, .int x2)]) C dX0_takePiece_44 (by decide) rfl ?_
      refine j_aload_n C dX0_takePiece_45 2 rfl ?_
      refine gf_X0_9 C dX0_takePiece_46 ?_
      refine j_iload_n C dX0_takePiece_49 0 rfl ?_
      refine j_bipush (v := 64) C dX0_takePiece_50 (by decide) ?_
      refine j_callv 0 [.int (r16 * 64), .int 64] [] C (kX3_mark_ok (r16 * 64) 64 (sA σ0 0 r16.toNatClampNeg x1) h) (tt_V ml_X0_44 mV_X3_mark) ok_X3_mark ⟨by decide, by decide⟩ rfl (r_wX_0 (σ := sA σ0 0 r16.toNatClampNeg x1)) (Nat.le_of_ble_eq_true rfl) rfl dX0_takePiece_52 (fun σ52 h => ?_)
      refine j_sub (lv' := [(0, .ref (ad 16)), (1, .int x1), (2, .int x2), (3, .int (r16 * 64))]) [2, 3, 4, 0] rfl ?_
      exact k55 _ _ _ _ h
    · refine j_iconst (v := (-1)) C dX0_takePiece_26 (by decide) ?_
      exact j_iret C dX0_takePiece_27 h
def wX0_fits (x1 : Int32) (x2 : Int32) (σ : SS) (Q : Int32 → Prop) : Prop := vp_in x1 100 ∧ (((gA σ 6 x1.toNatClampNeg) < x2 → Q 0) ∧ (¬ (gA σ 6 x1.toNatClampNeg) < x2 → Q 1))
set_option maxRecDepth 100000 in
set_option maxHeartbeats 4000000 in
theorem kX0_fits_ok {l : Launch} {D : va_G} {cI cJ cZ : ClassId} {ad : Nat → Nat} {kv : Value} (x1 : Int32) (x2 : Int32) (σ0 : SS) {Q : Int32 → Prop} (h : wX0_fits x1 x2 σ0 Q) : Ci l yX0_fits (.code yX0_fits cX0_fits 3 (some .boolean) :: TT) { frames := 0, cells := 0, slots := 0, locals := 0 } D (tys cI cJ cZ) (wX cI cJ ad kv) [.ref (ad 16), .int x1, .int x2] σ0 (fun r σ' => σ' = σ0 ∧ Q r) := by
  refine Ci.of (lv := [(0, .ref (ad 16)), (1, .int x1), (2, .int x2)]) (by decide) adX (Nat.le_of_ble_eq_true rfl) rfl ?_
  intro p e s m args below meth c A C
  refine j_iload_n C dX0_fits_0 2 rfl ?_
  refine j_aload_n C dX0_fits_1 0 rfl ?_
  refine gf_X0_9 C dX0_fits_2 ?_
  refine gf_X0_52 C dX0_fits_5 ?_
  refine j_iload_n C dX0_fits_8 1 rfl ?_
  refine al_wX_9 C h.1 dX0_fits_9 ?_
  replace h := h.2
  refine j_icmp_gt 17 C dX0_fits_10 rfl h (fun h => ?_) (fun h => ?_)
  · refine j_iconst (v := 0) C dX0_fits_17 (by decide) ?_
    exact j_zret C dX0_fits_18 rfl ⟨rfl, h⟩
  · refine j_iconst (v := 1) C dX0_fits_13 (by decide) ?_
    refine j_goto 18 C dX0_fits_14 rfl ?_
    exact j_zret C dX0_fits_18 rfl ⟨rfl, h⟩
def wX0_reshape (x1 : Int32) (x2 : Int32) (σ : SS) (Q : SS → Prop) : Prop := vp_in x1 100 ∧ (vp_in x1 100 ∧ (wX0_partOff (gA σ 5 x1.toNatClampNeg) (gA σ 6 x1.toNatClampNeg) x2 σ (fun r28 σ28 => vp_in x1 100 ∧ (Q (sA σ28 6 x1.toNatClampNeg r28)))))
set_option maxRecDepth 100000 in
set_option maxHeartbeats 4000000 in
theorem kX0_reshape_ok {l : Launch} {D : va_G} {cI cJ cZ : ClassId} {ad : Nat → Nat} {kv : Value} (x1 : Int32) (x2 : Int32) (σ0 : SS) {Q : SS → Prop} (h : wX0_reshape x1 x2 σ0 Q) : Cv l yX0_reshape (.code yX0_reshape cX0_reshape 3 none :: TT) { frames := 2, cells := 0, slots := 0, locals := 47 } D (tys cI cJ cZ) (wX cI cJ ad kv) [.ref (ad 16), .int x1, .int x2] σ0 Q := by
  refine Cv.of (lv := [(0, .ref (ad 16)), (1, .int x1), (2, .int x2)]) (by decide) adX (Nat.le_of_ble_eq_true rfl) rfl ?_
  intro p e s m args below meth c A C
  refine j_aload_n C dX0_reshape_0 0 rfl ?_
  refine gf_X0_9 C dX0_reshape_1 ?_
  refine gf_X0_52 C dX0_reshape_4 ?_
  refine j_iload_n C dX0_reshape_7 1 rfl ?_
  refine j_aload_n C dX0_reshape_8 0 rfl ?_
  refine j_aload_n C dX0_reshape_9 0 rfl ?_
  refine gf_X0_9 C dX0_reshape_10 ?_
  refine gf_X0_55 C dX0_reshape_13 ?_
  refine j_iload_n C dX0_reshape_16 1 rfl ?_
  refine al_wX_8 C h.1 dX0_reshape_17 ?_
  replace h := h.2
  refine j_aload_n C dX0_reshape_18 0 rfl ?_
  refine gf_X0_9 C dX0_reshape_19 ?_
  refine gf_X0_52 C dX0_reshape_22 ?_
  refine j_iload_n C dX0_reshape_25 1 rfl ?_
  refine al_wX_9 C h.1 dX0_reshape_26 ?_
  replace h := h.2
  refine j_iload_n C dX0_reshape_27 2 rfl ?_
  refine j_calli 16 [.int (gA σ0 5 x1.toNatClampNeg), .int (gA σ0 6 x1.toNatClampNeg), .int x2] [.int x1, .ref (ad 9)] C (kX0_partOff_ok (gA σ0 5 x1.toNatClampNeg) (gA σ0 6 x1.toNatClampNeg) x2 σ0 h) (tt_V ml_X0_48 mV_X0_partOff) ok_X0_partOff ⟨by decide, by decide⟩ rfl (r_wX_16 (σ := σ0)) (Nat.le_of_ble_eq_true rfl) rfl dX0_reshape_28 (fun r28 σ28 h => ?_)
  refine as_wX_9 C h.1 dX0_reshape_31 ?_
  replace h := h.2
  exact j_vret C dX0_reshape_32 h
def wX0_joinPairs_b66 (X2 : Int32 × SS → Prop) (X10 : Int32 × SS → Prop) (x1 : Int32) (x2 : Int32) (x3 : Int32) (σ : SS) (Q : SS → Prop) : Prop := X10 ((x3 + (2 * x2)), σ)
def wX0_joinPairs_b10 (X2 : Int32 × SS → Prop) (x1 : Int32) (x2 : Int32) (x3 : Int32) (σ : SS) (Q : SS → Prop) : Prop := lfp (fun (X10 : Int32 × SS → Prop) (t : Int32 × SS) => ((x1 + 64) ≤ t.1 → X2 ((x2 * 2), t.2)) ∧ (¬ (x1 + 64) ≤ t.1 → wX3_pieceAt t.1 t.2 (fun r23 => (¬ r23 = x2 → wX0_joinPairs_b66 X2 X10 x1 x2 t.1 t.2 Q) ∧ (r23 = x2 → wX3_pieceAt (t.1 + x2) t.2 (fun r37 => (¬ r37 = x2 → wX0_joinPairs_b66 X2 X10 x1 x2 t.1 t.2 Q) ∧ (r37 = x2 → wX3_mark t.1 (2 * x2) t.2 (fun σ52 => wX3_mark (t.1 + x2) 0 σ52 (fun σ63 => wX0_joinPairs_b66 X2 X10 x1 x2 t.1 σ63 Q)))))))) (x3, σ)
def wX0_joinPairs_b2 (x1 : Int32) (x2 : Int32) (σ : SS) (Q : SS → Prop) : Prop := lfp (fun (X2 : Int32 × SS → Prop) (t : Int32 × SS) => (64 ≤ t.1 → Q t.2) ∧ (¬ 64 ≤ t.1 → wX0_joinPairs_b10 X2 x1 t.1 x1 t.2 Q)) (x2, σ)
def wX0_joinPairs (x1 : Int32) (σ : SS) (Q : SS → Prop) : Prop := wX0_joinPairs_b2 x1 1 σ Q
set_option maxRecDepth 100000 in
set_option maxHeartbeats 4000000 in
theorem kX0_joinPairs_ok {l : Launch} {D : va_G} {cI cJ cZ : ClassId} {ad : Nat → Nat} {kv : Value} (x1 : Int32) (σ0 : SS) {Q : SS → Prop} (h : wX0_joinPairs x1 σ0 Q) : Cv l yX0_joinPairs (.code yX0_joinPairs cX0_joinPairs 4 none :: TT) { frames := 1, cells := 0, slots := 0, locals := 22 } D (tys cI cJ cZ) (wX cI cJ ad kv) [.ref (ad 16), .int x1] σ0 Q := by
  refine Cv.of (lv := [(0, .ref (ad 16)), (1, .int x1)]) (by decide) adX (Nat.le_of_ble_eq_true rfl) rfl ?_
  intro p e s m args below meth c A C
  have k66 : ∀ (x1 : Int32), ∀ (x2 : Int32), ∀ (x3 : Int32), ∀ (σ : SS), ∀ (X2 : Int32 × SS → Prop), (∀ t : Int32 × SS, X2 t → J p l e { frames := 1, cells := 0, slots := 0, locals := 22 } s m args below meth c D (wX cI cJ ad kv) A 4 (MQ below (va_Qv Q (WW D (tys cI cJ cZ) (wX cI cJ ad kv)) A) args s 0 0 A) t.2 2 [(0, .ref (ad 16)), (1, .int x1), (2, .int t.1)] []) → ∀ (X10 : Int32 × SS → Prop), (∀ t : Int32 × SS, X10 t → J p l e { frames := 1, cells := 0, slots := 0, locals := 22 } s m args below meth c D (wX cI cJ ad kv) A 4 (MQ below (va_Qv Q (WW D (tys cI cJ cZ) (wX cI cJ ad kv)) A) args s 0 0 A) t.2 10 [(0, .ref (ad 16)), (1, .int x1), (2, .int x2), (3, .int t.1)] []) → wX0_joinPairs_b66 X2 X10 x1 x2 x3 σ Q → J p l e { frames := 1, cells := 0, slots := 0, locals := 22 } s m args below meth c D (wX cI cJ ad kv) A 4 (MQ below (va_Qv Q (WW D (tys cI cJ cZ) (wX cI cJ ad kv)) A) args s 0 0 A) σ 66 [(0, .ref (ad 16)), (1, .int x1), (2, .int x2), (3, .int x3)] [] := by
    intro x1 x2 x3 σ X2 hX2 X10 hX10 h
    refine j_iload_n C dX0_joinPairs_66 3 rfl ?_
    refine j_iconst (v := 2) C dX0_joinPairs_67 (by decide) ?_
    refine j_iload_n C dX0_joinPairs_68 2 rfl ?_
    refine j_imul C dX0_joinPairs_69 ?_
    refine j_iadd C dX0_joinPairs_70 ?_
    refine j_istore_n (lv' := [(3, .int (x3 + (2 * x2))), (0, .ref (ad 16)), (1, .int x1), (2, .int x2)]) C dX0_joinPairs_71 (by decide) rfl ?_
    refine j_goto 10 C dX0_joinPairs_72 rfl ?_
    refine j_sub (lv' := [(0, .ref (ad 16)), (1, .int x1), (2, .int x2), (3, .int (x3 + (2 * x2)))]) [1, 2, 3, 0] rfl ?_
    exact hX10 _ h
  have k10 : ∀ (x1 : Int32), ∀ (x2 : Int32), ∀ (x3 : Int32), ∀ (σ : SS), ∀ (X2 : Int32 × SS → Prop), (∀ t : Int32 × SS, X2 t → J p l e { frames := 1, cells := 0, slots := 0, locals := 22 } s m args below meth c D (wX cI cJ ad kv) A 4 (MQ below (va_Qv Q (WW D (tys cI cJ cZ) (wX cI cJ ad kv)) A) args s 0 0 A) t.2 2 [(0, .ref (ad 16)), (1, .int x1), (2, .int t.1)] []) → wX0_joinPairs_b10 X2 x1 x2 x3 σ Q → J p l e { frames := 1, cells := 0, slots := 0, locals := 22 } s m args below meth c D (wX cI cJ ad kv) A 4 (MQ below (va_Qv Q (WW D (tys cI cJ cZ) (wX cI cJ ad kv)) A) args s 0 0 A) σ 10 [(0, .ref (ad 16)), (1, .int x1), (2, .int x2), (3, .int x3)] [] := by
    intro x1 x2 x3 σ X2 hX2 h
    refine h (fun t => J p l e { frames := 1, cells := 0, slots := 0, locals := 22 } s m args below meth c D (wX cI cJ ad kv) A 4 (MQ below (va_Qv Q (WW D (tys cI cJ cZ) (wX cI cJ ad kv)) A) args s 0 0 A) t.2 10 [(0, .ref (ad 16)), (1, .int x1), (2, .int x2), (3, .int t.1)] []) (fun t h => ?_)
    obtain ⟨x3, σ⟩ := t
    try dsimp only at h
    refine j_iload_n C dX0_joinPairs_10 3 rfl ?_
    refine j_iload_n C dX0_joinPairs_11 1 rfl ?_
    refine j_bipush (v := 64) C dX0_joinPairs_12 (by decide) ?_
    refine j_iadd C dX0_joinPairs_14 ?_
    refine j_icmp_ge 75 C dX0_joinPairs_15 rfl h (fun h => ?_) (fun h => ?_)
    · refine j_iload_n C dX0_joinPairs_75 2 rfl ?_
      refine j_iconst (v := 2) C dX0_joinPairs_76 (by decide) ?_
      refine j_imul C dX0_joinPairs_77 ?_
      refine j_istore_n (lv' := [(2, .int (x2 * 2)), (0, .ref (ad 16)), (1, .int x1), (3, .int x3)]) C dX0_joinPairs_78 (by decide) rfl ?_
      refine j_goto 2 C dX0_joinPairs_79 rfl ?_
      refine j_sub (lv' := [(0, .ref (ad 16)), (1, .int x1), (2, .int (x2 * 2))]) [1, 2, 0] rfl ?_
      exact hX2 _ h
    · refine j_aload_n C dX0_joinPairs_18 0 rfl ?_
      refine gf_X0_9 C dX0_joinPairs_19 ?_
      refine j_iload_n C dX0_joinPairs_22 3 rfl ?_
      refine j_callpi 0 [.int x3] [] C (kX3_pieceAt_ok x3 σ h) (tt_V ml_X0_66 mV_X3_pieceAt) ok_X3_pieceAt ⟨by decide, by decide⟩ rfl (r_wX_0 (σ := σ)) (Nat.le_of_ble_eq_true rfl) rfl dX0_joinPairs_23 (fun r23 h => ?_)
      refine j_iload_n C dX0_joinPairs_26 2 rfl ?_
      refine j_icmp_ne 66 C dX0_joinPairs_27 rfl h (fun h => ?_) (fun h => ?_)
      · refine j_sub (lv' := [(0, .ref (ad 16)), (1, .int x1), (2, .int x2), (3, .int x3)]) [0, 1, 2, 3] rfl ?_
        exact k66 _ _ _ _ _ hX2 _ (fun _ z => z) h
      · refine j_aload_n C dX0_joinPairs_30 0 rfl ?_
        refine gf_X0_9 C dX0_joinPairs_31 ?_
        refine j_iload_n C dX0_joinPairs_34 3 rfl ?_
        refine j_iload_n C dX0_joinPairs_35 2 rfl ?_
        refine j_iadd C dX0_joinPairs_36 ?_
        refine j_callpi 0 [.int (x3 + x2)] [] C (kX3_pieceAt_ok (x3 + x2) σ h) (tt_V ml_X0_66 mV_X3_pieceAt) ok_X3_pieceAt ⟨by decide, by decide⟩ rfl (r_wX_0 (σ := σ)) (Nat.le_of_ble_eq_true rfl) rfl dX0_joinPairs_37 (fun r37 h => ?_)
        refine j_iload_n C dX0_joinPairs_40 2 rfl ?_
        refine j_icmp_ne 66 C dX0_joinPairs_41 rfl h (fun h => ?_) (fun h => ?_)
        · refine j_sub (lv' := [(0, .ref (ad 16)), (1, .int x1), (2, .int x2), (3, .int x3)]) [0, 1, 2, 3] rfl ?_
          exact k66 _ _ _ _ _ hX2 _ (fun _ z => z) h
        · refine j_aload_n C dX0_joinPairs_44 0 rfl ?_
          refine gf_X0_9 C dX0_joinPairs_45 ?_
          refine j_iload_n C dX0_joinPairs_48 3 rfl ?_
          refine j_iconst (v := 2) C dX0_joinPairs_49 (by decide) ?_
          refine j_iload_n C dX0_joinPairs_50 2 rfl ?_
          refine j_imul C dX0_joinPairs_51 ?_
          refine j_callv 0 [.int x3, .int (2 * x2)] [] C (kX3_mark_ok x3 (2 * x2) σ h) (tt_V ml_X0_44 mV_X3_mark) ok_X3_mark ⟨by decide, by decide⟩ rfl (r_wX_0 (σ := σ)) (Nat.le_of_ble_eq_true rfl) rfl dX0_joinPairs_52 (fun σ52 h => ?_)
          refine j_aload_n C dX0_joinPairs_55 0 rfl ?_
          refine gf_X0_9 C dX0_joinPairs_56 ?_
          refine j_iload_n C dX0_joinPairs_59 3 rfl ?_
          refine j_iload_n C dX0_joinPairs_60 2 rfl ?_
          refine j_iadd C dX0_joinPairs_61 ?_
          refine j_iconst (v := 0) C dX0_joinPairs_62 (by decide) ?_
          refine j_callv 0 [.int (x3 + x2), .int 0] [] C (kX3_mark_ok (x3 + x2) 0 σ52 h) (tt_V ml_X0_44 mV_X3_mark) ok_X3_mark ⟨by decide, by decide⟩ rfl (r_wX_0 (σ := σ52)) (Nat.le_of_ble_eq_true rfl) rfl dX0_joinPairs_63 (fun σ63 h => ?_)
          refine j_sub (lv' := [(0, .ref (ad 16)), (1, .int x1), (2, .int x2), (3, .int x3)]) [0, 1, 2, 3] rfl ?_
          exact k66 _ _ _ _ _ hX2 _ (fun _ z => z) h
  have k2 : ∀ (x1 : Int32), ∀ (x2 : Int32), ∀ (σ : SS), wX0_joinPairs_b2 x1 x2 σ Q → J p l e { frames := 1, cells := 0, slots := 0, locals := 22 } s m args below meth c D (wX cI cJ ad kv) A 4 (MQ below (va_Qv Q (WW D (tys cI cJ cZ) (wX cI cJ ad kv)) A) args s 0 0 A) σ 2 [(0, .ref (ad 16)), (1, .int x1), (2, .int x2)] [] := by
    intro x1 x2 σ h
    refine h (fun t => J p l e { frames := 1, cells := 0, slots := 0, locals := 22 } s m args below meth c D (wX cI cJ ad kv) A 4 (MQ below (va_Qv Q (WW D (tys cI cJ cZ) (wX cI cJ ad kv)) A) args s 0 0 A) t.2 2 [(0, .ref (ad 16)), (1, .int x1), (2, .int t.1)] []) (fun t h => ?_)
    obtain ⟨x2, σ⟩ := t
    try dsimp only at h
    refine j_iload_n C dX0_joinPairs_2 2 rfl ?_
    refine j_bipush (v := 64) C dX0_joinPairs_3 (by decide) ?_
    refine j_icmp_ge 82 C dX0_joinPairs_5 rfl h (fun h => ?_) (fun h => ?_)
    · exact j_vret C dX0_joinPairs_82 h
    · refine j_iload_n C dX0_joinPairs_8 1 rfl ?_
      refine j_istore_n (lv' := [(3, .int x1), (0, .ref (ad 16)), (1, .int x1), (2, .int x2)]) C dX0_joinPairs_9 (by decide) rfl ?_
      refine j_sub (lv' := [(0, .ref (ad 16)), (1, .int x1), (2, .int x2), (3, .int x1)]) [1, 2, 3, 0] rfl ?_
      exact k10 _ _ _ _ _ (fun _ z => z) h
  refine j_iconst (v := 1) C dX0_joinPairs_0 (by decide) ?_
  refine j_istore_n (lv' := [(2, .int 1), (0, .ref (ad 16)), (1, .int x1)]) C dX0_joinPairs_1 (by decide) rfl ?_
  refine j_sub (lv' := [(0, .ref (ad 16)), (1, .int x1), (2, .int 1)]) [1, 2, 0] rfl ?_
  exact k2 _ _ _ h
def wX0_tidy_b72 (X2 : Int32 × SS → Prop) (x1 : Int32) (x2 : Int32) (σ : SS) (Q : SS → Prop) : Prop := X2 ((x2 + 1), σ)
def wX0_tidy_b2 (x1 : Int32) (x2 : Int32) (σ : SS) (Q : SS → Prop) : Prop := lfp (fun (X2 : Int32 × SS → Prop) (t : Int32 × SS) => ((gI t.2 0) ≤ t.1 → Q t.2) ∧ (¬ (gI t.2 0) ≤ t.1 → vp_in t.1 40 ∧ ((¬ (gA t.2 0 t.1.toNatClampNeg) = x1 → wX0_tidy_b72 X2 x1 t.1 t.2 Q) ∧ ((gA t.2 0 t.1.toNatClampNeg) = x1 → wX0_joinPairs (t.1 * 64) t.2 (fun σ31 => wX3_pieceAt (t.1 * 64) σ31 (fun r42 => (¬ r42 = 64 → wX0_tidy_b72 X2 x1 t.1 σ31 Q) ∧ (r42 = 64 → wX3_mark (t.1 * 64) 0 σ31 (fun σ59 => vp_in t.1 40 ∧ (wX0_tidy_b72 X2 x1 t.1 (sA σ59 0 t.1.toNatClampNeg ((-1))) Q))))))))) (x2, σ)
def wX0_tidy (x1 : Int32) (σ : SS) (Q : SS → Prop) : Prop := wX0_tidy_b2 x1 0 σ Q
set_option maxRecDepth 100000 in
set_option maxHeartbeats 4000000 in
theorem kX0_tidy_ok {l : Launch} {D : va_G} {cI cJ cZ : ClassId} {ad : Nat → Nat} {kv : Value} (x1 : Int32) (σ0 : SS) {Q : SS → Prop} (h : wX0_tidy x1 σ0 Q) : Cv l yX0_tidy (.code yX0_tidy cX0_tidy 3 none :: TT) { frames := 2, cells := 0, slots := 0, locals := 45 } D (tys cI cJ cZ) (wX cI cJ ad kv) [.ref (ad 16), .int x1] σ0 Q := by
  refine Cv.of (lv := [(0, .ref (ad 16)), (1, .int x1)]) (by decide) adX (Nat.le_of_ble_eq_true rfl) rfl ?_
  intro p e s m args below meth c A C
  have k72 : ∀ (x1 : Int32), ∀ (x2 : Int32), ∀ (σ : SS), ∀ (X2 : Int32 × SS → Prop), (∀ t : Int32 × SS, X2 t → J p l e { frames := 2, cells := 0, slots := 0, locals := 45 } s m args below meth c D (wX cI cJ ad kv) A 3 (MQ below (va_Qv Q (WW D (tys cI cJ cZ) (wX cI cJ ad kv)) A) args s 0 0 A) t.2 2 [(0, .ref (ad 16)), (1, .int x1), (2, .int t.1)] []) → wX0_tidy_b72 X2 x1 x2 σ Q → J p l e { frames := 2, cells := 0, slots := 0, locals := 45 } s m args below meth c D (wX cI cJ ad kv) A 3 (MQ below (va_Qv Q (WW D (tys cI cJ cZ) (wX cI cJ ad kv)) A) args s 0 0 A) σ 72 [(0, .ref (ad 16)), (1, .int x1), (2, .int x2)] [] := by
    intro x1 x2 σ X2 hX2 h
    refine j_iinc (lv' := [(2, .int (x2 + 1)), (0, .ref (ad 16)), (1, .int x1)]) (x2 + 1) C dX0_tidy_72 2 rfl rfl (by decide) rfl ?_
    refine j_goto 2 C dX0_tidy_75 rfl ?_
    refine j_sub (lv' := [(0, .ref (ad 16)), (1, .int x1), (2, .int (x2 + 1))]) [1, 2, 0] rfl ?_
    exact hX2 _ h
  have k2 : ∀ (x1 : Int32), ∀ (x2 : Int32), ∀ (σ : SS), wX0_tidy_b2 x1 x2 σ Q → J p l e { frames := 2, cells := 0, slots := 0, locals := 45 } s m args below meth c D (wX cI cJ ad kv) A 3 (MQ below (va_Qv Q (WW D (tys cI cJ cZ) (wX cI cJ ad kv)) A) args s 0 0 A) σ 2 [(0, .ref (ad 16)), (1, .int x1), (2, .int x2)] [] := by
    intro x1 x2 σ h
    refine h (fun t => J p l e { frames := 2, cells := 0, slots := 0, locals := 45 } s m args below meth c D (wX cI cJ ad kv) A 3 (MQ below (va_Qv Q (WW D (tys cI cJ cZ) (wX cI cJ ad kv)) A) args s 0 0 A) t.2 2 [(0, .ref (ad 16)), (1, .int x1), (2, .int t.1)] []) (fun t h => ?_)
    obtain ⟨x2, σ⟩ := t
    try dsimp only at h
    refine j_iload_n C dX0_tidy_2 2 rfl ?_
    refine j_aload_n C dX0_tidy_3 0 rfl ?_
    refine gf_X0_9 C dX0_tidy_4 ?_
    refine gf_X0_58 C dX0_tidy_7 ?_
    refine j_icmp_ge 78 C dX0_tidy_10 rfl h (fun h => ?_) (fun h => ?_)
    · exact j_vret C dX0_tidy_78 h
    · refine j_aload_n C dX0_tidy_13 0 rfl ?_
      refine gf_X0_9 C dX0_tidy_14 ?_
      refine gf_X0_40 C dX0_tidy_17 ?_
      refine j_iload_n C dX0_tidy_20 2 rfl ?_
      refine al_wX_1 C h.1 dX0_tidy_21 ?_
      replace h := h.2
      refine j_iload_n C dX0_tidy_22 1 rfl ?_
      refine j_icmp_ne 72 C dX0_tidy_23 rfl h (fun h => ?_) (fun h => ?_)
      · refine j_sub (lv' := [(0, .ref (ad 16)), (1, .int x1), (2, .int x2)]) [0, 1, 2] rfl ?_
        exact k72 _ _ _ _ (fun _ z => z) h
      · refine j_aload_n C dX0_tidy_26 0 rfl ?_
        refine j_iload_n C dX0_tidy_27 2 rfl ?_
        refine j_bipush (v := 64) C dX0_tidy_28 (by decide) ?_
        refine j_imul C dX0_tidy_30 ?_
        refine j_callv 16 [.int (x2 * 64)] [] C (kX0_joinPairs_ok (x2 * 64) σ h) (tt_V ml_X0_62 mV_X0_joinPairs) ok_X0_joinPairs ⟨by decide, by decide⟩ rfl (r_wX_16 (σ := σ)) (Nat.le_of_ble_eq_true rfl) rfl dX0_tidy_31 (fun σ31 h => ?_)
        refine j_aload_n C dX0_tidy_34 0 rfl ?_
        refine gf_X0_9 C dX0_tidy_35 ?_
        refine j_iload_n C dX0_tidy_38 2 rfl ?_
        refine j_bipush (v := 64) C dX0_tidy_39 (by decide) ?_
        refine j_imul C dX0_tidy_41 ?_
        refine j_callpi 0 [.int (x2 * 64)] [] C (kX3_pieceAt_ok (x2 * 64) σ31 h) (tt_V ml_X0_66 mV_X3_pieceAt) ok_X3_pieceAt ⟨by decide, by decide⟩ rfl (r_wX_0 (σ := σ31)) (Nat.le_of_ble_eq_true rfl) rfl dX0_tidy_42 (fun r42 h => ?_)
        refine j_bipush (v := 64) C dX0_tidy_45 (by decide) ?_
        refine j_icmp_ne 72 C dX0_tidy_47 rfl h (fun h => ?_) (fun h => ?_)
        · refine j_sub (lv' := [(0, .ref (ad 16)), (1, .int x1), (2, .int x2)]) [0, 1, 2] rfl ?_
          exact k72 _ _ _ _ (fun _ z => z) h
        · refine j_aload_n C dX0_tidy_50 0 rfl ?_
          refine gf_X0_9 C dX0_tidy_51 ?_
          refine j_iload_n C dX0_tidy_54 2 rfl ?_
          refine j_bipush (v := 64) C dX0_tidy_55 (by decide) ?_
          refine j_imul C dX0_tidy_57 ?_
          refine j_iconst (v := 0) C dX0_tidy_58 (by decide) ?_
          refine j_callv 0 [.int (x2 * 64), .int 0] [] C (kX3_mark_ok (x2 * 64) 0 σ31 h) (tt_V ml_X0_44 mV_X3_mark) ok_X3_mark ⟨by decide, by decide⟩ rfl (r_wX_0 (σ := σ31)) (Nat.le_of_ble_eq_true rfl) rfl dX0_tidy_59 (fun σ59 h => ?_)
          refine j_aload_n C dX0_tidy_62 0 rfl ?_
          refine gf_X0_9 C dX0_tidy_63 ?_
          refine gf_X0_40 C dX0_tidy_66 ?_
          refine j_iload_n C dX0_tidy_69 2 rfl ?_
          refine j_iconst (v := (-1)) C dX0_tidy_70 (by decide) ?_
          refine as_wX_1 C h.1 dX0_tidy_71 ?_
          replace h := h.2
          refine j_sub (lv' := [(0, .ref (ad 16)), (1, .int x1), (2, .int x2)]) [0, 1, 2] rfl ?_
          exact k72 _ _ _ _ (fun _ z => z) h
  refine j_iconst (v := 0) C dX0_tidy_0 (by decide) ?_
  refine j_istore_n (lv' := [(2, .int 0), (0, .ref (ad 16)), (1, .int x1)]) C dX0_tidy_1 (by decide) rfl ?_
  refine j_sub (lv' := [(0, .ref (ad 16)), (1, .int x1), (2, .int 0)]) [1, 2, 0] rfl ?_
  exact k2 _ _ _ h
def wX1_addPart (x1 : Int32) (x2 : Int32) (σ : SS) (Q : SS → Prop) : Prop := (x2 ≤ 0 → Q σ) ∧ (¬ x2 ≤ 0 → (4 ≤ (gI σ 2) → Q σ) ∧ (¬ 4 ≤ (gI σ 2) → vp_in (gI σ 2) 4 ∧ (vp_in (gI (sA σ 9 (gI σ 2).toNatClampNeg x1) 2) 4 ∧ (∀ σ43 : SS, σ43 = sI (sA (sA σ 9 (gI σ 2).toNatClampNeg x1) 10 (gI (sA σ 9 (gI σ 2).toNatClampNeg x1) 2).toNatClampNeg x2) 2 ((gI (sA (sA σ 9 (gI σ 2).toNatClampNeg x1) 10 (gI (sA σ 9 (gI σ 2).toNatClampNeg x1) 2).toNatClampNeg x2) 2) + 1) → (Q σ43)))))
set_option maxRecDepth 100000 in
set_option maxHeartbeats 4000000 in
theorem kX1_addPart_ok {l : Launch} {D : va_G} {cI cJ cZ : ClassId} {ad : Nat → Nat} {kv : Value} (x1 : Int32) (x2 : Int32) (σ0 : SS) {Q : SS → Prop} (h : wX1_addPart x1 x2 σ0 Q) : Cv l yX1_addPart (.code yX1_addPart cX1_addPart 3 none :: TT) { frames := 0, cells := 0, slots := 0, locals := 0 } D (tys cI cJ cZ) (wX cI cJ ad kv) [.ref (ad 12), .int x1, .int x2] σ0 Q := by
  refine Cv.of (lv := [(0, .ref (ad 12)), (1, .int x1), (2, .int x2)]) (by decide) adX (Nat.le_of_ble_eq_true rfl) rfl ?_
  intro p e s m args below meth c A C
  refine j_iload_n C dX1_addPart_0 2 rfl ?_
  refine j_if_le 46 C dX1_addPart_1 rfl h (fun h => ?_) (fun h => ?_)
  · exact j_vret C dX1_addPart_46 h
  · refine j_aload_n C dX1_addPart_4 0 rfl ?_
    refine gf_X1_22 C dX1_addPart_5 ?_
    refine j_aload_n C dX1_addPart_8 0 rfl ?_
    refine gf_X1_9 C dX1_addPart_9 ?_
    refine j_alen (v := 4) 13 0 C rfl rfl (show Int32.ofNat 4 = 4 by decide) dX1_addPart_12 ?_
    refine j_icmp_ge 46 C dX1_addPart_13 rfl h (fun h => ?_) (fun h => ?_)
    · exact j_vret C dX1_addPart_46 h
    · refine j_aload_n C dX1_addPart_16 0 rfl ?_
      refine gf_X1_9 C dX1_addPart_17 ?_
      refine j_aload_n C dX1_addPart_20 0 rfl ?_
      refine gf_X1_22 C dX1_addPart_21 ?_
      refine j_iload_n C dX1_addPart_24 1 rfl ?_
      refine as_wX_13 C h.1 dX1_addPart_25 ?_
      replace h := h.2
      refine j_aload_n C dX1_addPart_26 0 rfl ?_
      refine gf_X1_15 C dX1_addPart_27 ?_
      refine j_aload_n C dX1_addPart_30 0 rfl ?_
      refine gf_X1_22 C dX1_addPart_31 ?_
      refine j_iload_n C dX1_addPart_34 2 rfl ?_
      refine as_wX_14 C h.1 dX1_addPart_35 ?_
      replace h := h.2
      refine j_aload_n C dX1_addPart_36 0 rfl ?_
      refine j_dup C dX1_addPart_37 rfl ?_
      refine gf_X1_22 C dX1_addPart_38 ?_
      refine j_iconst (v := 1) C dX1_addPart_41 (by decide) ?_
      refine j_iadd C dX1_addPart_42 ?_
      refine pf_X1_22 C dX1_addPart_43 ?_
      obtain ⟨σ43, hs43⟩ : ∃ z, z = sI (sA (sA σ0 9 (gI σ0 2).toNatClampNeg x1) 10 (gI (sA σ0 9 (gI σ0 2).toNatClampNeg x1) 2).toNatClampNeg x2) 2 ((gI (sA (sA σ0 9 (gI σ0 2).toNatClampNeg x1) 10 (gI (sA σ0 9 (gI σ0 2).toNatClampNeg x1) 2).toNatClampNeg x2) 2) + 1) := ⟨_, rfl⟩
      rw [← hs43]
      replace h := h σ43 hs43
      exact j_vret C dX1_addPart_46 h
def wX3_hasZone (x1 : Int32) (σ : SS) (Q : Int32 → Prop) : Prop := (x1 < 0 → Q 0) ∧ (¬ x1 < 0 → ((gI σ 1) ≤ x1 → Q 0) ∧ (¬ (gI σ 1) ≤ x1 → Q 1))
set_option maxRecDepth 100000 in
set_option maxHeartbeats 4000000 in
theorem kX3_hasZone_ok {l : Launch} {D : va_G} {cI cJ cZ : ClassId} {ad : Nat → Nat} {kv : Value} (x1 : Int32) (σ0 : SS) {Q : Int32 → Prop} (h : wX3_hasZone x1 σ0 Q) : Ci l yX3_hasZone (.code yX3_hasZone cX3_hasZone 2 (some .boolean) :: TT) { frames := 0, cells := 0, slots := 0, locals := 0 } D (tys cI cJ cZ) (wX cI cJ ad kv) [.ref (ad 0), .int x1] σ0 (fun r σ' => σ' = σ0 ∧ Q r) := by
  refine Ci.of (lv := [(0, .ref (ad 0)), (1, .int x1)]) (by decide) adX (Nat.le_of_ble_eq_true rfl) rfl ?_
  intro p e s m args below meth c A C
  refine j_iload_n C dX3_hasZone_0 1 rfl ?_
  refine j_if_lt 16 C dX3_hasZone_1 rfl h (fun h => ?_) (fun h => ?_)
  · refine j_iconst (v := 0) C dX3_hasZone_16 (by decide) ?_
    exact j_zret C dX3_hasZone_17 rfl ⟨rfl, h⟩
  · refine j_iload_n C dX3_hasZone_4 1 rfl ?_
    refine j_aload_n C dX3_hasZone_5 0 rfl ?_
    refine gf_X3_50 C dX3_hasZone_6 ?_
    refine j_icmp_ge 16 C dX3_hasZone_9 rfl h (fun h => ?_) (fun h => ?_)
    · refine j_iconst (v := 0) C dX3_hasZone_16 (by decide) ?_
      exact j_zret C dX3_hasZone_17 rfl ⟨rfl, h⟩
    · refine j_iconst (v := 1) C dX3_hasZone_12 (by decide) ?_
      refine j_goto 17 C dX3_hasZone_13 rfl ?_
      exact j_zret C dX3_hasZone_17 rfl ⟨rfl, h⟩
def wX3_kindOf (x1 : Int32) (σ : SS) (Q : Int32 → Prop) : Prop := wX3_hasZone x1 σ (fun r2 => (r2 = 0 → Q ((-1))) ∧ (¬ r2 = 0 → vp_in x1 8 ∧ (Q (gA σ 2 x1.toNatClampNeg))))
set_option maxRecDepth 100000 in
set_option maxHeartbeats 4000000 in
theorem kX3_kindOf_ok {l : Launch} {D : va_G} {cI cJ cZ : ClassId} {ad : Nat → Nat} {kv : Value} (x1 : Int32) (σ0 : SS) {Q : Int32 → Prop} (h : wX3_kindOf x1 σ0 Q) : Ci l yX3_kindOf (.code yX3_kindOf cX3_kindOf 2 (some .int) :: TT) { frames := 1, cells := 0, slots := 0, locals := 21 } D (tys cI cJ cZ) (wX cI cJ ad kv) [.ref (ad 0), .int x1] σ0 (fun r σ' => σ' = σ0 ∧ Q r) := by
  refine Ci.of (lv := [(0, .ref (ad 0)), (1, .int x1)]) (by decide) adX (Nat.le_of_ble_eq_true rfl) rfl ?_
  intro p e s m args below meth c A C
  refine j_aload_n C dX3_kindOf_0 0 rfl ?_
  refine j_iload_n C dX3_kindOf_1 1 rfl ?_
  refine j_callpi 0 [.int x1] [] C (kX3_hasZone_ok x1 σ0 h) (tt_V ml_X3_106 mV_X3_hasZone) ok_X3_hasZone ⟨by decide, by decide⟩ rfl (r_wX_0 (σ := σ0)) (Nat.le_of_ble_eq_true rfl) rfl dX3_kindOf_2 (fun r2 h => ?_)
  refine j_if_eq 17 C dX3_kindOf_5 rfl h (fun h => ?_) (fun h => ?_)
  · refine j_iconst (v := (-1)) C dX3_kindOf_17 (by decide) ?_
    exact j_iret C dX3_kindOf_18 ⟨rfl, h⟩
  · refine j_aload_n C dX3_kindOf_8 0 rfl ?_
    refine gf_X3_22 C dX3_kindOf_9 ?_
    refine j_iload_n C dX3_kindOf_12 1 rfl ?_
    refine al_wX_4 C h.1 dX3_kindOf_13 ?_
    replace h := h.2
    refine j_goto 18 C dX3_kindOf_14 rfl ?_
    exact j_iret C dX3_kindOf_18 ⟨rfl, h⟩
def wX3_isRowZone (x1 : Int32) (σ : SS) (Q : Int32 → Prop) : Prop := wX3_kindOf x1 σ (fun r2 => (r2 < 2 → Q 0) ∧ (¬ r2 < 2 → Q 1))
set_option maxRecDepth 100000 in
set_option maxHeartbeats 4000000 in
theorem kX3_isRowZone_ok {l : Launch} {D : va_G} {cI cJ cZ : ClassId} {ad : Nat → Nat} {kv : Value} (x1 : Int32) (σ0 : SS) {Q : Int32 → Prop} (h : wX3_isRowZone x1 σ0 Q) : Ci l yX3_isRowZone (.code yX3_isRowZone cX3_isRowZone 2 (some .boolean) :: TT) { frames := 2, cells := 0, slots := 0, locals := 42 } D (tys cI cJ cZ) (wX cI cJ ad kv) [.ref (ad 0), .int x1] σ0 (fun r σ' => σ' = σ0 ∧ Q r) := by
  refine Ci.of (lv := [(0, .ref (ad 0)), (1, .int x1)]) (by decide) adX (Nat.le_of_ble_eq_true rfl) rfl ?_
  intro p e s m args below meth c A C
  refine j_aload_n C dX3_isRowZone_0 0 rfl ?_
  refine j_iload_n C dX3_isRowZone_1 1 rfl ?_
  refine j_callpi 0 [.int x1] [] C (kX3_kindOf_ok x1 σ0 h) (tt_V ml_X3_118 mV_X3_kindOf) ok_X3_kindOf ⟨by decide, by decide⟩ rfl (r_wX_0 (σ := σ0)) (Nat.le_of_ble_eq_true rfl) rfl dX3_isRowZone_2 (fun r2 h => ?_)
  refine j_iconst (v := 2) C dX3_isRowZone_5 (by decide) ?_
  refine j_icmp_lt 13 C dX3_isRowZone_6 rfl h (fun h => ?_) (fun h => ?_)
  · refine j_iconst (v := 0) C dX3_isRowZone_13 (by decide) ?_
    exact j_zret C dX3_isRowZone_14 rfl ⟨rfl, h⟩
  · refine j_iconst (v := 1) C dX3_isRowZone_9 (by decide) ?_
    refine j_goto 14 C dX3_isRowZone_10 rfl ?_
    exact j_zret C dX3_isRowZone_14 rfl ⟨rfl, h⟩
def wX3_isGuarded (x1 : Int32) (σ : SS) (Q : Int32 → Prop) : Prop := vp_in x1 100 ∧ (wX3_kindOf (gA σ 4 x1.toNatClampNeg) σ (fun r7 => (¬ r7 = 5 → Q 0) ∧ (r7 = 5 → Q 1)))
set_option maxRecDepth 100000 in
set_option maxHeartbeats 4000000 in
theorem kX3_isGuarded_ok {l : Launch} {D : va_G} {cI cJ cZ : ClassId} {ad : Nat → Nat} {kv : Value} (x1 : Int32) (σ0 : SS) {Q : Int32 → Prop} (h : wX3_isGuarded x1 σ0 Q) : Ci l yX3_isGuarded (.code yX3_isGuarded cX3_isGuarded 2 (some .boolean) :: TT) { frames := 2, cells := 0, slots := 0, locals := 42 } D (tys cI cJ cZ) (wX cI cJ ad kv) [.ref (ad 0), .int x1] σ0 (fun r σ' => σ' = σ0 ∧ Q r) := by
  refine Ci.of (lv := [(0, .ref (ad 0)), (1, .int x1)]) (by decide) adX (Nat.le_of_ble_eq_true rfl) rfl ?_
  intro p e s m args below meth c A C
  refine j_aload_n C dX3_isGuarded_0 0 rfl ?_
  refine j_aload_n C dX3_isGuarded_1 0 rfl ?_
  refine gf_X3_31 C dX3_isGuarded_2 ?_
  refine j_iload_n C dX3_isGuarded_5 1 rfl ?_
  refine al_wX_7 C h.1 dX3_isGuarded_6 ?_
  replace h := h.2
  refine j_callpi 0 [.int (gA σ0 4 x1.toNatClampNeg)] [] C (kX3_kindOf_ok (gA σ0 4 x1.toNatClampNeg) σ0 h) (tt_V ml_X3_118 mV_X3_kindOf) ok_X3_kindOf ⟨by decide, by decide⟩ rfl (r_wX_0 (σ := σ0)) (Nat.le_of_ble_eq_true rfl) rfl dX3_isGuarded_7 (fun r7 h => ?_)
  refine j_iconst (v := 5) C dX3_isGuarded_10 (by decide) ?_
  refine j_icmp_ne 18 C dX3_isGuarded_11 rfl h (fun h => ?_) (fun h => ?_)
  · refine j_iconst (v := 0) C dX3_isGuarded_18 (by decide) ?_
    exact j_zret C dX3_isGuarded_19 rfl ⟨rfl, h⟩
  · refine j_iconst (v := 1) C dX3_isGuarded_14 (by decide) ?_
    refine j_goto 19 C dX3_isGuarded_15 rfl ?_
    exact j_zret C dX3_isGuarded_19 rfl ⟨rfl, h⟩
def wX1_addRowParts (x1 : Int32) (x2 : Int32) (σ : SS) (Q : SS → Prop) : Prop := wX1_addPart 2 1 σ (fun σ3 => (0 ≤ x1 → wX3_isGuarded x1 σ3 (fun r26 => (r26 = 0 → vp_in x1 100 ∧ (wX1_addPart 3 (gA σ3 7 x1.toNatClampNeg) σ3 (fun σ74 => Q σ74))) ∧ (¬ r26 = 0 → wX1_addPart 6 1 σ3 (fun σ36 => vp_in x1 100 ∧ (wX1_addPart 3 (gA σ36 7 x1.toNatClampNeg) σ36 (fun σ50 => wX1_addPart 6 1 σ50 (fun σ57 => Q σ57))))))) ∧ (¬ 0 ≤ x1 → wX1_addPart 4 (x2 - 1) σ3 (fun σ15 => Q σ15)))
set_option maxRecDepth 100000 in
set_option maxHeartbeats 4000000 in
theorem kX1_addRowParts_ok {l : Launch} {D : va_G} {cI cJ cZ : ClassId} {ad : Nat → Nat} {kv : Value} (x1 : Int32) (x2 : Int32) (σ0 : SS) {Q : SS → Prop} (h : wX1_addRowParts x1 x2 σ0 Q) : Cv l yX1_addRowParts (.code yX1_addRowParts cX1_addRowParts 3 none :: TT) { frames := 3, cells := 0, slots := 0, locals := 63 } D (tys cI cJ cZ) (wX cI cJ ad kv) [.ref (ad 12), .int x1, .int x2] σ0 Q := by
  refine Cv.of (lv := [(0, .ref (ad 12)), (1, .int x1), (2, .int x2)]) (by decide) adX (Nat.le_of_ble_eq_true rfl) rfl ?_
  intro p e s m args below meth c A C
  refine j_aload_n C dX1_addRowParts_0 0 rfl ?_
  refine j_iconst (v := 2) C dX1_addRowParts_1 (by decide) ?_
  refine j_iconst (v := 1) C dX1_addRowParts_2 (by decide) ?_
  refine j_callv 12 [.int 2, .int 1] [] C (kX1_addPart_ok 2 1 σ0 h) (tt_V ml_X1_73 mV_X1_addPart) ok_X1_addPart ⟨by decide, by decide⟩ rfl (r_wX_12 (σ := σ0)) (Nat.le_of_ble_eq_true rfl) rfl dX1_addRowParts_3 (fun σ3 h => ?_)
  refine j_iload_n C dX1_addRowParts_6 1 rfl ?_
  refine j_if_ge 21 C dX1_addRowParts_7 rfl h (fun h => ?_) (fun h => ?_)
  · refine j_aload_n C dX1_addRowParts_21 0 rfl ?_
    refine gf_X1_18 C dX1_addRowParts_22 ?_
    refine j_iload_n C dX1_addRowParts_25 1 rfl ?_
    refine j_callpi 0 [.int x1] [] C (kX3_isGuarded_ok x1 σ3 h) (tt_V ml_X1_87 mV_X3_isGuarded) ok_X3_isGuarded ⟨by decide, by decide⟩ rfl (r_wX_0 (σ := σ3)) (Nat.le_of_ble_eq_true rfl) rfl dX1_addRowParts_26 (fun r26 h => ?_)
    refine j_if_eq 63 C dX1_addRowParts_29 rfl h (fun h => ?_) (fun h => ?_)
    · refine j_aload_n C dX1_addRowParts_63 0 rfl ?_
      refine j_iconst (v := 3) C dX1_addRowParts_64 (by decide) ?_
      refine j_aload_n C dX1_addRowParts_65 0 rfl ?_
      refine gf_X1_18 C dX1_addRowParts_66 ?_
      refine gf_X1_90 C dX1_addRowParts_69 ?_
      refine j_iload_n C dX1_addRowParts_72 1 rfl ?_
      refine al_wX_10 C h.1 dX1_addRowParts_73 ?_
      replace h := h.2
      refine j_callv 12 [.int 3, .int (gA σ3 7 x1.toNatClampNeg)] [] C (kX1_addPart_ok 3 (gA σ3 7 x1.toNatClampNeg) σ3 h) (tt_V ml_X1_73 mV_X1_addPart) ok_X1_addPart ⟨by decide, by decide⟩ rfl (r_wX_12 (σ := σ3)) (Nat.le_of_ble_eq_true rfl) rfl dX1_addRowParts_74 (fun σ74 h => ?_)
      exact j_vret C dX1_addRowParts_77 h
    · refine j_aload_n C dX1_addRowParts_32 0 rfl ?_
      refine j_bipush (v := 6) C dX1_addRowParts_33 (by decide) ?_
      refine j_iconst (v := 1) C dX1_addRowParts_35 (by decide) ?_
      refine j_callv 12 [.int 6, .int 1] [] C (kX1_addPart_ok 6 1 σ3 h) (tt_V ml_X1_73 mV_X1_addPart) ok_X1_addPart ⟨by decide, by decide⟩ rfl (r_wX_12 (σ := σ3)) (Nat.le_of_ble_eq_true rfl) rfl dX1_addRowParts_36 (fun σ36 h => ?_)
      refine j_aload_n C dX1_addRowParts_39 0 rfl ?_
      refine j_iconst (v := 3) C dX1_addRowParts_40 (by decide) ?_
      refine j_aload_n C dX1_addRowParts_41 0 rfl ?_
      refine gf_X1_18 C dX1_addRowParts_42 ?_
      refine gf_X1_90 C dX1_addRowParts_45 ?_
      refine j_iload_n C dX1_addRowParts_48 1 rfl ?_
      refine al_wX_10 C h.1 dX1_addRowParts_49 ?_
      replace h := h.2
      refine j_callv 12 [.int 3, .int (gA σ36 7 x1.toNatClampNeg)] [] C (kX1_addPart_ok 3 (gA σ36 7 x1.toNatClampNeg) σ36 h) (tt_V ml_X1_73 mV_X1_addPart) ok_X1_addPart ⟨by decide, by decide⟩ rfl (r_wX_12 (σ := σ36)) (Nat.le_of_ble_eq_true rfl) rfl dX1_addRowParts_50 (fun σ50 h => ?_)
      refine j_aload_n C dX1_addRowParts_53 0 rfl ?_
      refine j_bipush (v := 6) C dX1_addRowParts_54 (by decide) ?_
      refine j_iconst (v := 1) C dX1_addRowParts_56 (by decide) ?_
      refine j_callv 12 [.int 6, .int 1] [] C (kX1_addPart_ok 6 1 σ50 h) (tt_V ml_X1_73 mV_X1_addPart) ok_X1_addPart ⟨by decide, by decide⟩ rfl (r_wX_12 (σ := σ50)) (Nat.le_of_ble_eq_true rfl) rfl dX1_addRowParts_57 (fun σ57 h => ?_)
      refine j_goto 77 C dX1_addRowParts_60 rfl ?_
      exact j_vret C dX1_addRowParts_77 h
  · refine j_aload_n C dX1_addRowParts_10 0 rfl ?_
    refine j_iconst (v := 4) C dX1_addRowParts_11 (by decide) ?_
    refine j_iload_n C dX1_addRowParts_12 2 rfl ?_
    refine j_iconst (v := 1) C dX1_addRowParts_13 (by decide) ?_
    refine j_isub C dX1_addRowParts_14 ?_
    refine j_callv 12 [.int 4, .int (x2 - 1)] [] C (kX1_addPart_ok 4 (x2 - 1) σ3 h) (tt_V ml_X1_73 mV_X1_addPart) ok_X1_addPart ⟨by decide, by decide⟩ rfl (r_wX_12 (σ := σ3)) (Nat.le_of_ble_eq_true rfl) rfl dX1_addRowParts_15 (fun σ15 h => ?_)
    refine j_goto 77 C dX1_addRowParts_18 rfl ?_
    exact j_vret C dX1_addRowParts_77 h
def wX1_lookAt_b127 (x2 : Int32) (t0 : Int32) (σ : SS) (Q : SS → Prop) : Prop := wX1_addPart t0 x2 σ (fun σ128 => Q σ128)
def wX1_lookAt_b76 (x2 : Int32) (t0 : Int32) (σ : SS) (Q : SS → Prop) : Prop := wX1_addPart t0 x2 σ (fun σ77 => Q σ77)
def wX1_lookAt_b45 (x2 : Int32) (t0 : Int32) (σ : SS) (Q : SS → Prop) : Prop := wX1_addPart t0 x2 σ (fun σ46 => Q σ46)
def wX1_lookAt (x1 : Int32) (σ : SS) (Q : SS → Prop) : Prop := wX3_endOf x1 (sI (sI σ 3 x1) 2 0) (fun r15 => wX3_ownerAt x1 (sI (sI σ 3 x1) 2 0) (fun r26 => (0 ≤ r26 → wX3_pieceAt x1 (sI (sI σ 3 x1) 2 0) (fun r57 => (¬ r57 = 0 → wX3_isRowZone r26 (sI (sI σ 3 x1) 2 0) (fun r88 => (r88 = 0 → wX3_blockAt x1 (sI (sI σ 3 x1) 2 0) (fun r116 => (r116 < 0 → wX1_lookAt_b127 (r15 - x1) 4 (sI (sI σ 3 x1) 2 0) Q) ∧ (¬ r116 < 0 → wX1_lookAt_b127 (r15 - x1) 3 (sI (sI σ 3 x1) 2 0) Q))) ∧ (¬ r88 = 0 → wX3_blockAt x1 (sI (sI σ 3 x1) 2 0) (fun r100 => wX1_addRowParts r100 (r15 - x1) (sI (sI σ 3 x1) 2 0) (fun σ104 => Q σ104))))) ∧ (r57 = 0 → (¬ (x1 - x1 / 64 * 64) = 0 → wX1_lookAt_b76 (r15 - x1) 5 (sI (sI σ 3 x1) 2 0) Q) ∧ ((x1 - x1 / 64 * 64) = 0 → wX1_lookAt_b76 (r15 - x1) 2 (sI (sI σ 3 x1) 2 0) Q)))) ∧ (¬ 0 ≤ r26 → (¬ r26 = ((-1)) → wX1_lookAt_b45 (r15 - x1) 1 (sI (sI σ 3 x1) 2 0) Q) ∧ (r26 = ((-1)) → wX1_lookAt_b45 (r15 - x1) 0 (sI (sI σ 3 x1) 2 0) Q))))
set_option maxRecDepth 100000 in
set_option maxHeartbeats 4000000 in
theorem kX1_lookAt_ok {l : Launch} {D : va_G} {cI cJ cZ : ClassId} {ad : Nat → Nat} {kv : Value} (x1 : Int32) (σ0 : SS) {Q : SS → Prop} (h : wX1_lookAt x1 σ0 Q) : Cv l yX1_lookAt (.code yX1_lookAt cX1_lookAt 4 none :: TT) { frames := 4, cells := 0, slots := 0, locals := 85 } D (tys cI cJ cZ) (wX cI cJ ad kv) [.ref (ad 12), .int x1] σ0 Q := by
  refine Cv.of (lv := [(0, .ref (ad 12)), (1, .int x1)]) (by decide) adX (Nat.le_of_ble_eq_true rfl) rfl ?_
  intro p e s m args below meth c A C
  have k127 : ∀ (x2 : Int32), ∀ (t0 : Int32), ∀ (σ : SS), wX1_lookAt_b127 x2 t0 σ Q → J p l e { frames := 4, cells := 0, slots := 0, locals := 85 } s m args below meth c D (wX cI cJ ad kv) A 4 (MQ below (va_Qv Q (WW D (tys cI cJ cZ) (wX cI cJ ad kv)) A) args s 0 0 A) σ 127 [(2, .int x2)] [.int t0, .ref (ad 12)] := by
    intro x2 t0 σ h
    refine j_iload_n C dX1_lookAt_127 0 rfl ?_
    refine j_callv 12 [.int t0, .int x2] [] C (kX1_addPart_ok t0 x2 σ h) (tt_V ml_X1_73 mV_X1_addPart) ok_X1_addPart ⟨by decide, by decide⟩ rfl (r_wX_12 (σ := σ)) (Nat.le_of_ble_eq_true rfl) rfl dX1_lookAt_128 (fun σ128 h => ?_)
    exact j_vret C dX1_lookAt_131 h
  have k76 : ∀ (x2 : Int32), ∀ (t0 : Int32), ∀ (σ : SS), wX1_lookAt_b76 x2 t0 σ Q → J p l e { frames := 4, cells := 0, slots := 0, locals := 85 } s m args below meth c D (wX cI cJ ad kv) A 4 (MQ below (va_Qv Q (WW D (tys cI cJ cZ) (wX cI cJ ad kv)) A) args s 0 0 A) σ 76 [(2, .int x2)] [.int t0, .ref (ad 12)] := by
    intro x2 t0 σ h
    refine j_iload_n C dX1_lookAt_76 0 rfl ?_
    refine j_callv 12 [.int t0, .int x2] [] C (kX1_addPart_ok t0 x2 σ h) (tt_V ml_X1_73 mV_X1_addPart) ok_X1_addPart ⟨by decide, by decide⟩ rfl (r_wX_12 (σ := σ)) (Nat.le_of_ble_eq_true rfl) rfl dX1_lookAt_77 (fun σ77 h => ?_)
    refine j_goto 131 C dX1_lookAt_80 rfl ?_
    exact j_vret C dX1_lookAt_131 h
  have k45 : ∀ (x2 : Int32), ∀ (t0 : Int32), ∀ (σ : SS), wX1_lookAt_b45 x2 t0 σ Q → J p l e { frames := 4, cells := 0, slots := 0, locals := 85 } s m args below meth c D (wX cI cJ ad kv) A 4 (MQ below (va_Qv Q (WW D (tys cI cJ cZ) (wX cI cJ ad kv)) A) args s 0 0 A) σ 45 [(2, .int x2)] [.int t0, .ref (ad 12)] := by
    intro x2 t0 σ h
    refine j_iload_n C dX1_lookAt_45 0 rfl ?_
    refine j_callv 12 [.int t0, .int x2] [] C (kX1_addPart_ok t0 x2 σ h) (tt_V ml_X1_73 mV_X1_addPart) ok_X1_addPart ⟨by decide, by decide⟩ rfl (r_wX_12 (σ := σ)) (Nat.le_of_ble_eq_true rfl) rfl dX1_lookAt_46 (fun σ46 h => ?_)
    refine j_goto 131 C dX1_lookAt_49 rfl ?_
    exact j_vret C dX1_lookAt_131 h
  refine j_aload_n C dX1_lookAt_0 0 rfl ?_
  refine j_iload_n C dX1_lookAt_1 1 rfl ?_
  refine pf_X1_26 C dX1_lookAt_2 ?_
  refine j_aload_n C dX1_lookAt_5 0 rfl ?_
  refine j_iconst (v := 0) C dX1_lookAt_6 (by decide) ?_
  refine pf_X1_22 C dX1_lookAt_7 ?_
  refine j_aload_n C dX1_lookAt_10 0 rfl ?_
  refine gf_X1_18 C dX1_lookAt_11 ?_
  refine j_iload_n C dX1_lookAt_14 1 rfl ?_
  refine j_callpi 0 [.int x1] [] C (kX3_endOf_ok x1 (sI (sI σ0 3 x1) 2 0) h) (tt_V ml_X1_48 mV_X3_endOf) ok_X3_endOf ⟨by decide, by decide⟩ rfl (r_wX_0 (σ := sI (sI σ0 3 x1) 2 0)) (Nat.le_of_ble_eq_true rfl) rfl dX1_lookAt_15 (fun r15 h => ?_)
  refine j_iload_n C dX1_lookAt_18 1 rfl ?_
  refine j_isub C dX1_lookAt_19 ?_
  refine j_istore_n (lv' := [(2, .int (r15 - x1)), (0, .ref (ad 12)), (1, .int x1)]) C dX1_lookAt_20 (by decide) rfl ?_
  refine j_aload_n C dX1_lookAt_21 1 rfl ?_
  refine gf_X1_18 C dX1_lookAt_22 ?_
  refine j_iload_n C dX1_lookAt_25 2 rfl ?_
  refine j_callpi 0 [.int x1] [] C (kX3_ownerAt_ok x1 (sI (sI σ0 3 x1) 2 0) h) (tt_V ml_X1_70 mV_X3_ownerAt) ok_X3_ownerAt ⟨by decide, by decide⟩ rfl (r_wX_0 (σ := sI (sI σ0 3 x1) 2 0)) (Nat.le_of_ble_eq_true rfl) rfl dX1_lookAt_26 (fun r26 h => ?_)
  refine j_istore_n (lv' := [(3, .int r26), (2, .int (r15 - x1)), (0, .ref (ad 12)), (1, .int x1)]) C dX1_lookAt_29 (by decide) rfl ?_
  refine j_iload_n C dX1_lookAt_30 0 rfl ?_
  refine j_if_ge 52 C dX1_lookAt_31 rfl h (fun h => ?_) (fun h => ?_)
  · refine j_aload_n C dX1_lookAt_52 2 rfl ?_
    refine gf_X1_18 C dX1_lookAt_53 ?_
    refine j_iload_n C dX1_lookAt_56 3 rfl ?_
    refine j_callpi 0 [.int x1] [] C (kX3_pieceAt_ok x1 (sI (sI σ0 3 x1) 2 0) h) (tt_V ml_X1_77 mV_X3_pieceAt) ok_X3_pieceAt ⟨by decide, by decide⟩ rfl (r_wX_0 (σ := sI (sI σ0 3 x1) 2 0)) (Nat.le_of_ble_eq_true rfl) rfl dX1_lookAt_57 (fun r57 h => ?_)
    refine j_if_ne 83 C dX1_lookAt_60 rfl h (fun h => ?_) (fun h => ?_)
    · refine j_aload_n C dX1_lookAt_83 2 rfl ?_
      refine gf_X1_18 C dX1_lookAt_84 ?_
      refine j_iload_n C dX1_lookAt_87 0 rfl ?_
      refine j_callpi 0 [.int r26] [] C (kX3_isRowZone_ok r26 (sI (sI σ0 3 x1) 2 0) h) (tt_V ml_X1_80 mV_X3_isRowZone) ok_X3_isRowZone ⟨by decide, by decide⟩ rfl (r_wX_0 (σ := sI (sI σ0 3 x1) 2 0)) (Nat.le_of_ble_eq_true rfl) rfl dX1_lookAt_88 (fun r88 h => ?_)
      refine j_if_eq 110 C dX1_lookAt_91 rfl h (fun h => ?_) (fun h => ?_)
      · refine j_aload_n C dX1_lookAt_110 2 rfl ?_
        refine j_aload_n C dX1_lookAt_111 2 rfl ?_
        refine gf_X1_18 C dX1_lookAt_112 ?_
        refine j_iload_n C dX1_lookAt_115 3 rfl ?_
        refine j_callpi 0 [.int x1] [.ref (ad 12)] C (kX3_blockAt_ok x1 (sI (sI σ0 3 x1) 2 0) h) (tt_V ml_X1_64 mV_X3_blockAt) ok_X3_blockAt ⟨by decide, by decide⟩ rfl (r_wX_0 (σ := sI (sI σ0 3 x1) 2 0)) (Nat.le_of_ble_eq_true rfl) rfl dX1_lookAt_116 (fun r116 h => ?_)
        refine j_if_lt 126 C dX1_lookAt_119 rfl h (fun h => ?_) (fun h => ?_)
        · refine j_iconst (v := 4) C dX1_lookAt_126 (by decide) ?_
          refine j_sub (lv' := [(2, .int (r15 - x1))]) [1] rfl ?_
          exact k127 _ _ _ h
        · refine j_iconst (v := 3) C dX1_lookAt_122 (by decide) ?_
          refine j_goto 127 C dX1_lookAt_123 rfl ?_
          refine j_sub (lv' := [(2, .int (r15 - x1))]) [1] rfl ?_
          exact k127 _ _ _ h
      · refine j_aload_n C dX1_lookAt_94 2 rfl ?_
        refine j_aload_n C dX1_lookAt_95 2 rfl ?_
        refine gf_X1_18 C dX1_lookAt_96 ?_
        refine j_iload_n C dX1_lookAt_99 3 rfl ?_
        refine j_callpi 0 [.int x1] [.ref (ad 12)] C (kX3_blockAt_ok x1 (sI (sI σ0 3 x1) 2 0) h) (tt_V ml_X1_64 mV_X3_blockAt) ok_X3_blockAt ⟨by decide, by decide⟩ rfl (r_wX_0 (σ := sI (sI σ0 3 x1) 2 0)) (Nat.le_of_ble_eq_true rfl) rfl dX1_lookAt_100 (fun r100 h => ?_)
        refine j_iload_n C dX1_lookAt_103 1 rfl ?_
        refine j_callv 12 [.int r100, .int (r15 - x1)] [] C (kX1_addRowParts_ok r100 (r15 - x1) (sI (sI σ0 3 x1) 2 0) h) (tt_V ml_X1_84 mV_X1_addRowParts) ok_X1_addRowParts ⟨by decide, by decide⟩ rfl (r_wX_12 (σ := sI (sI σ0 3 x1) 2 0)) (Nat.le_of_ble_eq_true rfl) rfl dX1_lookAt_104 (fun σ104 h => ?_)
        refine j_goto 131 C dX1_lookAt_107 rfl ?_
        exact j_vret C dX1_lookAt_131 h
    · refine j_aload_n C dX1_lookAt_63 2 rfl ?_
      refine j_iload_n C dX1_lookAt_64 3 rfl ?_
      refine j_bipush (v := 64) C dX1_lookAt_65 (by decide) ?_
      refine j_irem C dX1_lookAt_67 (by decide) ?_
      refine j_if_ne 75 C dX1_lookAt_68 rfl h (fun h => ?_) (fun h => ?_)
      · refine j_iconst (v := 5) C dX1_lookAt_75 (by decide) ?_
        refine j_sub (lv' := [(2, .int (r15 - x1))]) [1] rfl ?_
        exact k76 _ _ _ h
      · refine j_iconst (v := 2) C dX1_lookAt_71 (by decide) ?_
        refine j_goto 76 C dX1_lookAt_72 rfl ?_
        refine j_sub (lv' := [(2, .int (r15 - x1))]) [1] rfl ?_
        exact k76 _ _ _ h
  · refine j_aload_n C dX1_lookAt_34 2 rfl ?_
    refine j_iload_n C dX1_lookAt_35 0 rfl ?_
    refine j_iconst (v := (-1)) C dX1_lookAt_36 (by decide) ?_
    refine j_icmp_ne 44 C dX1_lookAt_37 rfl h (fun h => ?_) (fun h => ?_)
    · refine j_iconst (v := 1) C dX1_lookAt_44 (by decide) ?_
      refine j_sub (lv' := [(2, .int (r15 - x1))]) [1] rfl ?_
      exact k45 _ _ _ h
    · refine j_iconst (v := 0) C dX1_lookAt_40 (by decide) ?_
      refine j_goto 45 C dX1_lookAt_41 rfl ?_
      refine j_sub (lv' := [(2, .int (r15 - x1))]) [1] rfl ?_
      exact k45 _ _ _ h
def wX1_entries_b4 (x1 : Int32) (x2 : Int32) (σ : SS) (Q : Int32 → SS → Prop) : Prop := lfp (fun (X4 : Int32 × Int32 × SS → Prop) (t : Int32 × Int32 × SS) => wX3_places t.2.2 (fun r9 => (r9 ≤ t.2.1 → Q t.1 t.2.2) ∧ (¬ r9 ≤ t.2.1 → wX1_lookAt t.2.1 t.2.2 (fun σ17 => wX3_endOf t.2.1 σ17 (fun r35 => X4 ((t.1 + (gI σ17 2)), (if (t.2.1 + 1) < r35 then r35 else (t.2.1 + 1)), σ17)))))) (x1, x2, σ)
def wX1_entries (σ : SS) (Q : Int32 → SS → Prop) : Prop := wX1_entries_b4 0 0 σ Q
set_option maxRecDepth 100000 in
set_option maxHeartbeats 4000000 in
theorem kX1_entries_ok {l : Launch} {D : va_G} {cI cJ cZ : ClassId} {ad : Nat → Nat} {kv : Value} (σ0 : SS) {Q : Int32 → SS → Prop} (h : wX1_entries σ0 Q) : Ci l yX1_entries (.code yX1_entries cX1_entries 3 (some .int) :: TT) { frames := 5, cells := 0, slots := 0, locals := 108 } D (tys cI cJ cZ) (wX cI cJ ad kv) [.ref (ad 12)] σ0 Q := by
  refine Ci.of (lv := [(0, .ref (ad 12))]) (by decide) adX (Nat.le_of_ble_eq_true rfl) rfl ?_
  intro p e s m args below meth c A C
  have k4 : ∀ (x1 : Int32), ∀ (x2 : Int32), ∀ (σ : SS), wX1_entries_b4 x1 x2 σ Q → J p l e { frames := 5, cells := 0, slots := 0, locals := 108 } s m args below meth c D (wX cI cJ ad kv) A 3 (MQ below (va_Qi Q (WW D (tys cI cJ cZ) (wX cI cJ ad kv)) A) args s 0 0 A) σ 4 [(0, .ref (ad 12)), (1, .int x1), (2, .int x2)] [] := by
    intro x1 x2 σ h
    refine h (fun t => J p l e { frames := 5, cells := 0, slots := 0, locals := 108 } s m args below meth c D (wX cI cJ ad kv) A 3 (MQ below (va_Qi Q (WW D (tys cI cJ cZ) (wX cI cJ ad kv)) A) args s 0 0 A) t.2.2 4 [(0, .ref (ad 12)), (1, .int t.1), (2, .int t.2.1)] []) (fun t h => ?_)
    obtain ⟨x1, x2, σ⟩ := t
    try dsimp only at h
    refine j_iload_n C dX1_entries_4 2 rfl ?_
    refine j_aload_n C dX1_entries_5 0 rfl ?_
    refine gf_X1_18 C dX1_entries_6 ?_
    refine j_callpi 0 [] [.int x2] C (kX3_places_ok σ h) (tt_V ml_X1_38 mV_X3_places) ok_X3_places ⟨by decide, by decide⟩ rfl (r_wX_0 (σ := σ)) (Nat.le_of_ble_eq_true rfl) rfl dX1_entries_9 (fun r9 h => ?_)
    refine j_icmp_ge 45 C dX1_entries_12 rfl h (fun h => ?_) (fun h => ?_)
    · refine j_iload_n C dX1_entries_45 1 rfl ?_
      exact j_iret C dX1_entries_46 h
    · refine j_aload_n C dX1_entries_15 0 rfl ?_
      refine j_iload_n C dX1_entries_16 2 rfl ?_
      refine j_callv 12 [.int x2] [] C (kX1_lookAt_ok x2 σ h) (tt_V ml_X1_44 mV_X1_lookAt) ok_X1_lookAt ⟨by decide, by decide⟩ rfl (r_wX_12 (σ := σ)) (Nat.le_of_ble_eq_true rfl) rfl dX1_entries_17 (fun σ17 h => ?_)
      refine j_iload_n C dX1_entries_20 1 rfl ?_
      refine j_aload_n C dX1_entries_21 0 rfl ?_
      refine gf_X1_22 C dX1_entries_22 ?_
      refine j_iadd C dX1_entries_25 ?_
      refine j_istore_n (lv' := [(1, .int (x1 + (gI σ17 2))), (0, .ref (ad 12)), (2, .int x2)]) C dX1_entries_26 (by decide) rfl ?_
      refine j_iload_n C dX1_entries_27 2 rfl ?_
      refine j_iconst (v := 1) C dX1_entries_28 (by decide) ?_
      refine j_iadd C dX1_entries_29 ?_
      refine j_aload_n C dX1_entries_30 1 rfl ?_
      refine gf_X1_18 C dX1_entries_31 ?_
      refine j_iload_n C dX1_entries_34 2 rfl ?_
      refine j_callpi 0 [.int x2] [.int (x2 + 1)] C (kX3_endOf_ok x2 σ17 h) (tt_V ml_X1_48 mV_X3_endOf) ok_X3_endOf ⟨by decide, by decide⟩ rfl (r_wX_0 (σ := σ17)) (Nat.le_of_ble_eq_true rfl) rfl dX1_entries_35 (fun r35 h => ?_)
      refine j_mmax C ml_X1_52 mst_max mi_J9 mc_max ⟨by decide, (Nat.le_of_ble_eq_true rfl)⟩ dX1_entries_38 ?_
      refine j_istore_n (lv' := [(2, .int (if (x2 + 1) < r35 then r35 else (x2 + 1))), (1, .int (x1 + (gI σ17 2))), (0, .ref (ad 12))]) C dX1_entries_41 (by decide) rfl ?_
      refine j_goto 4 C dX1_entries_42 rfl ?_
      refine j_sub (lv' := [(0, .ref (ad 12)), (1, .int (x1 + (gI σ17 2))), (2, .int (if (x2 + 1) < r35 then r35 else (x2 + 1)))]) [2, 1, 0] rfl ?_
      exact h
  refine j_iconst (v := 0) C dX1_entries_0 (by decide) ?_
  refine j_istore_n (lv' := [(1, .int 0), (0, .ref (ad 12))]) C dX1_entries_1 (by decide) rfl ?_
  refine j_iconst (v := 0) C dX1_entries_2 (by decide) ?_
  refine j_istore_n (lv' := [(2, .int 0), (1, .int 0), (0, .ref (ad 12))]) C dX1_entries_3 (by decide) rfl ?_
  refine j_sub (lv' := [(0, .ref (ad 12)), (1, .int 0), (2, .int 0)]) [2, 1, 0] rfl ?_
  exact k4 _ _ _ h
def wX1_goToPart_b44 (x1 : Int32) (σ : SS) (Q : SS → Prop) : Prop := (x1 < 0 → Q σ) ∧ (¬ x1 < 0 → ((gI σ 2) ≤ x1 → Q σ) ∧ (¬ (gI σ 2) ≤ x1 → vp_in x1 4 ∧ (vp_in x1 4 ∧ (Q (sI (sI σ 5 (gA σ 10 x1.toNatClampNeg)) 6 (gA (sI σ 5 (gA σ 10 x1.toNatClampNeg)) 9 x1.toNatClampNeg))))))
def wX1_goToPart_b10 (x1 : Int32) (x2 : Int32) (σ : SS) (Q : SS → Prop) : Prop := lfp (fun (X10 : Int32 × SS → Prop) (t : Int32 × SS) => (x1 ≤ t.1 → wX1_goToPart_b44 x1 t.2 Q) ∧ (¬ x1 ≤ t.1 → ((gI t.2 2) ≤ t.1 → wX1_goToPart_b44 x1 t.2 Q) ∧ (¬ (gI t.2 2) ≤ t.1 → vp_in t.1 4 ∧ (X10 ((t.1 + 1), sI t.2 4 ((gI t.2 4) + (gA t.2 10 t.1.toNatClampNeg))))))) (x2, σ)
def wX1_goToPart (x1 : Int32) (σ : SS) (Q : SS → Prop) : Prop := wX1_goToPart_b10 x1 0 (sI σ 4 (gI σ 3)) Q
set_option maxRecDepth 100000 in
set_option maxHeartbeats 4000000 in
theorem kX1_goToPart_ok {l : Launch} {D : va_G} {cI cJ cZ : ClassId} {ad : Nat → Nat} {kv : Value} (x1 : Int32) (σ0 : SS) {Q : SS → Prop} (h : wX1_goToPart x1 σ0 Q) : Cv l yX1_goToPart (.code yX1_goToPart cX1_goToPart 3 none :: TT) { frames := 0, cells := 0, slots := 0, locals := 0 } D (tys cI cJ cZ) (wX cI cJ ad kv) [.ref (ad 12), .int x1] σ0 Q := by
  refine Cv.of (lv := [(0, .ref (ad 12)), (1, .int x1)]) (by decide) adX (Nat.le_of_ble_eq_true rfl) rfl ?_
  intro p e s m args below meth c A C
  have k44 : ∀ (x1 : Int32), ∀ (σ : SS), wX1_goToPart_b44 x1 σ Q → J p l e { frames := 0, cells := 0, slots := 0, locals := 0 } s m args below meth c D (wX cI cJ ad kv) A 3 (MQ below (va_Qv Q (WW D (tys cI cJ cZ) (wX cI cJ ad kv)) A) args s 0 0 A) σ 44 [(0, .ref (ad 12)), (1, .int x1)] [] := by
    intro x1 σ h
    refine j_iload_n C dX1_goToPart_44 1 rfl ?_
    refine j_if_lt 76 C dX1_goToPart_45 rfl h (fun h => ?_) (fun h => ?_)
    · exact j_vret C dX1_goToPart_76 h
    · refine j_iload_n C dX1_goToPart_48 1 rfl ?_
      refine j_aload_n C dX1_goToPart_49 0 rfl ?_
      refine gf_X1_22 C dX1_goToPart_50 ?_
      refine j_icmp_ge 76 C dX1_goToPart_53 rfl h (fun h => ?_) (fun h => ?_)
      · exact j_vret C dX1_goToPart_76 h
      · refine j_aload_n C dX1_goToPart_56 0 rfl ?_
        refine j_aload_n C dX1_goToPart_57 0 rfl ?_
        refine gf_X1_15 C dX1_goToPart_58 ?_
        refine j_iload_n C dX1_goToPart_61 1 rfl ?_
        refine al_wX_14 C h.1 dX1_goToPart_62 ?_
        replace h := h.2
        refine pf_X1_32 C dX1_goToPart_63 ?_
        refine j_aload_n C dX1_goToPart_66 0 rfl ?_
        refine j_aload_n C dX1_goToPart_67 0 rfl ?_
        refine gf_X1_9 C dX1_goToPart_68 ?_
        refine j_iload_n C dX1_goToPart_71 1 rfl ?_
        refine al_wX_13 C h.1 dX1_goToPart_72 ?_
        replace h := h.2
        refine pf_X1_35 C dX1_goToPart_73 ?_
        exact j_vret C dX1_goToPart_76 h
  have k10 : ∀ (x1 : Int32), ∀ (x2 : Int32), ∀ (σ : SS), wX1_goToPart_b10 x1 x2 σ Q → J p l e { frames := 0, cells := 0, slots := 0, locals := 0 } s m args below meth c D (wX cI cJ ad kv) A 3 (MQ below (va_Qv Q (WW D (tys cI cJ cZ) (wX cI cJ ad kv)) A) args s 0 0 A) σ 10 [(0, .ref (ad 12)), (1, .int x1), (2, .int x2)] [] := by
    intro x1 x2 σ h
    refine h (fun t => J p l e { frames := 0, cells := 0, slots := 0, locals := 0 } s m args below meth c D (wX cI cJ ad kv) A 3 (MQ below (va_Qv Q (WW D (tys cI cJ cZ) (wX cI cJ ad kv)) A) args s 0 0 A) t.2 10 [(0, .ref (ad 12)), (1, .int x1), (2, .int t.1)] []) (fun t h => ?_)
    obtain ⟨x2, σ⟩ := t
    try dsimp only at h
    refine j_iload_n C dX1_goToPart_10 2 rfl ?_
    refine j_iload_n C dX1_goToPart_11 1 rfl ?_
    refine j_icmp_ge 44 C dX1_goToPart_12 rfl h (fun h => ?_) (fun h => ?_)
    · refine j_sub (lv' := [(0, .ref (ad 12)), (1, .int x1)]) [0, 1] rfl ?_
      exact k44 _ _ h
    · refine j_iload_n C dX1_goToPart_15 2 rfl ?_
      refine j_aload_n C dX1_goToPart_16 0 rfl ?_
      refine gf_X1_22 C dX1_goToPart_17 ?_
      refine j_icmp_ge 44 C dX1_goToPart_20 rfl h (fun h => ?_) (fun h => ?_)
      · refine j_sub (lv' := [(0, .ref (ad 12)), (1, .int x1)]) [0, 1] rfl ?_
        exact k44 _ _ h
      · refine j_aload_n C dX1_goToPart_23 0 rfl ?_
        refine j_dup C dX1_goToPart_24 rfl ?_
        refine gf_X1_29 C dX1_goToPart_25 ?_
        refine j_aload_n C dX1_goToPart_28 0 rfl ?_
        refine gf_X1_15 C dX1_goToPart_29 ?_
        refine j_iload_n C dX1_goToPart_32 2 rfl ?_
        refine al_wX_14 C h.1 dX1_goToPart_33 ?_
        replace h := h.2
        refine j_iadd C dX1_goToPart_34 ?_
        refine pf_X1_29 C dX1_goToPart_35 ?_
        refine j_iinc (lv' := [(2, .int (x2 + 1)), (0, .ref (ad 12)), (1, .int x1)]) (x2 + 1) C dX1_goToPart_38 2 rfl rfl (by decide) rfl ?_
        refine j_goto 10 C dX1_goToPart_41 rfl ?_
        refine j_sub (lv' := [(0, .ref (ad 12)), (1, .int x1), (2, .int (x2 + 1))]) [1, 2, 0] rfl ?_
        exact h
  refine j_aload_n C dX1_goToPart_0 0 rfl ?_
  refine j_aload_n C dX1_goToPart_1 0 rfl ?_
  refine gf_X1_26 C dX1_goToPart_2 ?_
  refine pf_X1_29 C dX1_goToPart_5 ?_
  refine j_iconst (v := 0) C dX1_goToPart_8 (by decide) ?_
  refine j_istore_n (lv' := [(2, .int 0), (0, .ref (ad 12)), (1, .int x1)]) C dX1_goToPart_9 (by decide) rfl ?_
  refine j_sub (lv' := [(0, .ref (ad 12)), (1, .int x1), (2, .int 0)]) [1, 2, 0] rfl ?_
  exact k10 _ _ _ h
def wX1_seek_b10 (x1 : Int32) (x2 : Int32) (x3 : Int32) (σ : SS) (Q : Int32 → SS → Prop) : Prop := lfp (fun (X10 : Int32 × Int32 × SS → Prop) (t : Int32 × Int32 × SS) => wX3_places t.2.2 (fun r15 => (r15 ≤ t.2.1 → Q 0 t.2.2) ∧ (¬ r15 ≤ t.2.1 → wX1_lookAt t.2.1 t.2.2 (fun σ23 => ((t.1 + (gI σ23 2)) ≤ x1 → wX3_endOf t.2.1 σ23 (fun r60 => X10 ((t.1 + (gI σ23 2)), (if (t.2.1 + 1) < r60 then r60 else (t.2.1 + 1)), σ23))) ∧ (¬ (t.1 + (gI σ23 2)) ≤ x1 → wX1_goToPart (x1 - t.1) σ23 (fun σ40 => Q 1 σ40)))))) (x2, x3, σ)
def wX1_seek (x1 : Int32) (σ : SS) (Q : Int32 → SS → Prop) : Prop := (0 ≤ x1 → wX1_seek_b10 x1 0 0 σ Q) ∧ (¬ 0 ≤ x1 → Q 0 σ)
set_option maxRecDepth 100000 in
set_option maxHeartbeats 4000000 in
theorem kX1_seek_ok {l : Launch} {D : va_G} {cI cJ cZ : ClassId} {ad : Nat → Nat} {kv : Value} (x1 : Int32) (σ0 : SS) {Q : Int32 → SS → Prop} (h : wX1_seek x1 σ0 Q) : Ci l yX1_seek (.code yX1_seek cX1_seek 4 (some .boolean) :: TT) { frames := 5, cells := 0, slots := 0, locals := 108 } D (tys cI cJ cZ) (wX cI cJ ad kv) [.ref (ad 12), .int x1] σ0 Q := by
  refine Ci.of (lv := [(0, .ref (ad 12)), (1, .int x1)]) (by decide) adX (Nat.le_of_ble_eq_true rfl) rfl ?_
  intro p e s m args below meth c A C
  have k10 : ∀ (x1 : Int32), ∀ (x2 : Int32), ∀ (x3 : Int32), ∀ (σ : SS), wX1_seek_b10 x1 x2 x3 σ Q → J p l e { frames := 5, cells := 0, slots := 0, locals := 108 } s m args below meth c D (wX cI cJ ad kv) A 4 (MQ below (va_Qi Q (WW D (tys cI cJ cZ) (wX cI cJ ad kv)) A) args s 0 0 A) σ 10 [(0, .ref (ad 12)), (1, .int x1), (2, .int x2), (3, .int x3)] [] := by
    intro x1 x2 x3 σ h
    refine h (fun t => J p l e { frames := 5, cells := 0, slots := 0, locals := 108 } s m args below meth c D (wX cI cJ ad kv) A 4 (MQ below (va_Qi Q (WW D (tys cI cJ cZ) (wX cI cJ ad kv)) A) args s 0 0 A) t.2.2 10 [(0, .ref (ad 12)), (1, .int x1), (2, .int t.1), (3, .int t.2.1)] []) (fun t h => ?_)
    obtain ⟨x2, x3, σ⟩ := t
    try dsimp only at h
    refine j_iload_n C dX1_seek_10 3 rfl ?_
    refine j_aload_n C dX1_seek_11 0 rfl ?_
    refine gf_X1_18 C dX1_seek_12 ?_
    refine j_callpi 0 [] [.int x3] C (kX3_places_ok σ h) (tt_V ml_X1_38 mV_X3_places) ok_X3_places ⟨by decide, by decide⟩ rfl (r_wX_0 (σ := σ)) (Nat.le_of_ble_eq_true rfl) rfl dX1_seek_15 (fun r15 h => ?_)
    refine j_icmp_ge 70 C dX1_seek_18 rfl h (fun h => ?_) (fun h => ?_)
    · refine j_iconst (v := 0) C dX1_seek_70 (by decide) ?_
      exact j_zret C dX1_seek_71 rfl h
    · refine j_aload_n C dX1_seek_21 0 rfl ?_
      refine j_iload_n C dX1_seek_22 3 rfl ?_
      refine j_callv 12 [.int x3] [] C (kX1_lookAt_ok x3 σ h) (tt_V ml_X1_44 mV_X1_lookAt) ok_X1_lookAt ⟨by decide, by decide⟩ rfl (r_wX_12 (σ := σ)) (Nat.le_of_ble_eq_true rfl) rfl dX1_seek_23 (fun σ23 h => ?_)
      refine j_iload_n C dX1_seek_26 1 rfl ?_
      refine j_iload_n C dX1_seek_27 2 rfl ?_
      refine j_aload_n C dX1_seek_28 0 rfl ?_
      refine gf_X1_22 C dX1_seek_29 ?_
      refine j_iadd C dX1_seek_32 ?_
      refine j_icmp_ge 45 C dX1_seek_33 rfl h (fun h => ?_) (fun h => ?_)
      · refine j_iload_n C dX1_seek_45 2 rfl ?_
        refine j_aload_n C dX1_seek_46 0 rfl ?_
        refine gf_X1_22 C dX1_seek_47 ?_
        refine j_iadd C dX1_seek_50 ?_
        refine j_istore_n (lv' := [(2, .int (x2 + (gI σ23 2))), (0, .ref (ad 12)), (1, .int x1), (3, .int x3)]) C dX1_seek_51 (by decide) rfl ?_
        refine j_iload_n C dX1_seek_52 3 rfl ?_
        refine j_iconst (v := 1) C dX1_seek_53 (by decide) ?_
        refine j_iadd C dX1_seek_54 ?_
        refine j_aload_n C dX1_seek_55 1 rfl ?_
        refine gf_X1_18 C dX1_seek_56 ?_
        refine j_iload_n C dX1_seek_59 3 rfl ?_
        refine j_callpi 0 [.int x3] [.int (x3 + 1)] C (kX3_endOf_ok x3 σ23 h) (tt_V ml_X1_48 mV_X3_endOf) ok_X3_endOf ⟨by decide, by decide⟩ rfl (r_wX_0 (σ := σ23)) (Nat.le_of_ble_eq_true rfl) rfl dX1_seek_60 (fun r60 h => ?_)
        refine j_mmax C ml_X1_52 mst_max mi_J9 mc_max ⟨by decide, (Nat.le_of_ble_eq_true rfl)⟩ dX1_seek_63 ?_
        refine j_istore_n (lv' := [(3, .int (if (x3 + 1) < r60 then r60 else (x3 + 1))), (2, .int (x2 + (gI σ23 2))), (0, .ref (ad 12)), (1, .int x1)]) C dX1_seek_66 (by decide) rfl ?_
        refine j_goto 10 C dX1_seek_67 rfl ?_
        refine j_sub (lv' := [(0, .ref (ad 12)), (1, .int x1), (2, .int (x2 + (gI σ23 2))), (3, .int (if (x3 + 1) < r60 then r60 else (x3 + 1)))]) [2, 3, 1, 0] rfl ?_
        exact h
      · refine j_aload_n C dX1_seek_36 0 rfl ?_
        refine j_iload_n C dX1_seek_37 1 rfl ?_
        refine j_iload_n C dX1_seek_38 2 rfl ?_
        refine j_isub C dX1_seek_39 ?_
        refine j_callv 12 [.int (x1 - x2)] [] C (kX1_goToPart_ok (x1 - x2) σ23 h) (tt_V ml_X1_58 mV_X1_goToPart) ok_X1_goToPart ⟨by decide, by decide⟩ rfl (r_wX_12 (σ := σ23)) (Nat.le_of_ble_eq_true rfl) rfl dX1_seek_40 (fun σ40 h => ?_)
        refine j_iconst (v := 1) C dX1_seek_43 (by decide) ?_
        exact j_zret C dX1_seek_44 rfl h
  refine j_iload_n C dX1_seek_0 1 rfl ?_
  refine j_if_ge 6 C dX1_seek_1 rfl h (fun h => ?_) (fun h => ?_)
  · refine j_iconst (v := 0) C dX1_seek_6 (by decide) ?_
    refine j_istore_n (lv' := [(2, .int 0), (0, .ref (ad 12)), (1, .int x1)]) C dX1_seek_7 (by decide) rfl ?_
    refine j_iconst (v := 0) C dX1_seek_8 (by decide) ?_
    refine j_istore_n (lv' := [(3, .int 0), (2, .int 0), (0, .ref (ad 12)), (1, .int x1)]) C dX1_seek_9 (by decide) rfl ?_
    refine j_sub (lv' := [(0, .ref (ad 12)), (1, .int x1), (2, .int 0), (3, .int 0)]) [2, 3, 1, 0] rfl ?_
    exact k10 _ _ _ _ h
  · refine j_iconst (v := 0) C dX1_seek_4 (by decide) ?_
    exact j_zret C dX1_seek_5 rfl h
def wX1_partWith_b4 (x1 : Int32) (x2 : Int32) (x3 : Int32) (σ : SS) (Q : Int32 → Prop) : Prop := lfp (fun (X4 : Int32 × Int32 → Prop) (t : Int32 × Int32) => ((gI σ 2) ≤ t.2 → Q ((gI σ 2) - 1)) ∧ (¬ (gI σ 2) ≤ t.2 → vp_in t.2 4 ∧ (((t.1 + (gA σ 10 t.2.toNatClampNeg)) ≤ x1 → X4 ((t.1 + (gA σ 10 t.2.toNatClampNeg)), (t.2 + 1))) ∧ (¬ (t.1 + (gA σ 10 t.2.toNatClampNeg)) ≤ x1 → Q t.2)))) (x2, x3)
def wX1_partWith (x1 : Int32) (σ : SS) (Q : Int32 → Prop) : Prop := wX1_partWith_b4 x1 0 0 σ Q
set_option maxRecDepth 100000 in
set_option maxHeartbeats 4000000 in
theorem kX1_partWith_ok {l : Launch} {D : va_G} {cI cJ cZ : ClassId} {ad : Nat → Nat} {kv : Value} (x1 : Int32) (σ0 : SS) {Q : Int32 → Prop} (h : wX1_partWith x1 σ0 Q) : Ci l yX1_partWith (.code yX1_partWith cX1_partWith 4 (some .int) :: TT) { frames := 0, cells := 0, slots := 0, locals := 0 } D (tys cI cJ cZ) (wX cI cJ ad kv) [.ref (ad 12), .int x1] σ0 (fun r σ' => σ' = σ0 ∧ Q r) := by
  refine Ci.of (lv := [(0, .ref (ad 12)), (1, .int x1)]) (by decide) adX (Nat.le_of_ble_eq_true rfl) rfl ?_
  intro p e s m args below meth c A C
  have k4 : ∀ (x1 : Int32), ∀ (x2 : Int32), ∀ (x3 : Int32), wX1_partWith_b4 x1 x2 x3 σ0 Q → J p l e { frames := 0, cells := 0, slots := 0, locals := 0 } s m args below meth c D (wX cI cJ ad kv) A 4 (MQ below (va_Qi (fun r σ' => σ' = σ0 ∧ Q r) (WW D (tys cI cJ cZ) (wX cI cJ ad kv)) A) args s 0 0 A) σ0 4 [(0, .ref (ad 12)), (1, .int x1), (2, .int x2), (3, .int x3)] [] := by
    intro x1 x2 x3 h
    refine h (fun t => J p l e { frames := 0, cells := 0, slots := 0, locals := 0 } s m args below meth c D (wX cI cJ ad kv) A 4 (MQ below (va_Qi (fun r σ' => σ' = σ0 ∧ Q r) (WW D (tys cI cJ cZ) (wX cI cJ ad kv)) A) args s 0 0 A) σ0 4 [(0, .ref (ad 12)), (1, .int x1), (2, .int t.1), (3, .int t.2)] []) (fun t h => ?_)
    obtain ⟨x2, x3⟩ := t
    try dsimp only at h
    refine j_iload_n C dX1_partWith_4 3 rfl ?_
    refine j_aload_n C dX1_partWith_5 0 rfl ?_
    refine gf_X1_22 C dX1_partWith_6 ?_
    refine j_icmp_ge 34 C dX1_partWith_9 rfl h (fun h => ?_) (fun h => ?_)
    · refine j_aload_n C dX1_partWith_34 0 rfl ?_
      refine gf_X1_22 C dX1_partWith_35 ?_
      refine j_iconst (v := 1) C dX1_partWith_38 (by decide) ?_
      refine j_isub C dX1_partWith_39 ?_
      exact j_iret C dX1_partWith_40 ⟨rfl, h⟩
    · refine j_iload_n C dX1_partWith_12 2 rfl ?_
      refine j_aload_n C dX1_partWith_13 0 rfl ?_
      refine gf_X1_15 C dX1_partWith_14 ?_
      refine j_iload_n C dX1_partWith_17 3 rfl ?_
      refine al_wX_14 C h.1 dX1_partWith_18 ?_
      replace h := h.2
      refine j_iadd C dX1_partWith_19 ?_
      refine j_istore_n (lv' := [(2, .int (x2 + (gA σ0 10 x3.toNatClampNeg))), (0, .ref (ad 12)), (1, .int x1), (3, .int x3)]) C dX1_partWith_20 (by decide) rfl ?_
      refine j_iload_n C dX1_partWith_21 2 rfl ?_
      refine j_iload_n C dX1_partWith_22 0 rfl ?_
      refine j_icmp_ge 28 C dX1_partWith_23 rfl h (fun h => ?_) (fun h => ?_)
      · refine j_iinc (lv' := [(3, .int (x3 + 1)), (2, .int (x2 + (gA σ0 10 x3.toNatClampNeg))), (0, .ref (ad 12)), (1, .int x1)]) (x3 + 1) C dX1_partWith_28 3 rfl rfl (by decide) rfl ?_
        refine j_goto 4 C dX1_partWith_31 rfl ?_
        refine j_sub (lv' := [(0, .ref (ad 12)), (1, .int x1), (2, .int (x2 + (gA σ0 10 x3.toNatClampNeg))), (3, .int (x3 + 1))]) [2, 3, 1, 0] rfl ?_
        exact h
      · refine j_iload_n C dX1_partWith_26 3 rfl ?_
        exact j_iret C dX1_partWith_27 ⟨rfl, h⟩
  refine j_iconst (v := 0) C dX1_partWith_0 (by decide) ?_
  refine j_istore_n (lv' := [(2, .int 0), (0, .ref (ad 12)), (1, .int x1)]) C dX1_partWith_1 (by decide) rfl ?_
  refine j_iconst (v := 0) C dX1_partWith_2 (by decide) ?_
  refine j_istore_n (lv' := [(3, .int 0), (2, .int 0), (0, .ref (ad 12)), (1, .int x1)]) C dX1_partWith_3 (by decide) rfl ?_
  refine j_sub (lv' := [(0, .ref (ad 12)), (1, .int x1), (2, .int 0), (3, .int 0)]) [2, 3, 1, 0] rfl ?_
  exact k4 _ _ _ h
def wX1_kindAt_b2 (x1 : Int32) (x2 : Int32) (σ : SS) (Q : Int32 → SS → Prop) : Prop := lfp (fun (X2 : Int32 → Prop) (t : Int32) => wX3_places σ (fun r7 => (r7 ≤ t → Q 0 σ) ∧ (¬ r7 ≤ t → wX3_endOf t σ (fun r19 => (r19 ≤ x1 → wX3_endOf t σ (fun r54 => X2 ((if (t + 1) < r54 then r54 else (t + 1))))) ∧ (¬ r19 ≤ x1 → wX1_lookAt t σ (fun σ27 => wX1_partWith (x1 - t) σ27 (fun r35 => wX1_goToPart r35 σ27 (fun σ38 => Q (gI σ38 6) σ38)))))))) x2
def wX1_kindAt (x1 : Int32) (σ : SS) (Q : Int32 → SS → Prop) : Prop := wX1_kindAt_b2 x1 0 σ Q
set_option maxRecDepth 100000 in
set_option maxHeartbeats 4000000 in
theorem kX1_kindAt_ok {l : Launch} {D : va_G} {cI cJ cZ : ClassId} {ad : Nat → Nat} {kv : Value} (x1 : Int32) (σ0 : SS) {Q : Int32 → SS → Prop} (h : wX1_kindAt x1 σ0 Q) : Ci l yX1_kindAt (.code yX1_kindAt cX1_kindAt 3 (some .int) :: TT) { frames := 5, cells := 0, slots := 0, locals := 108 } D (tys cI cJ cZ) (wX cI cJ ad kv) [.ref (ad 12), .int x1] σ0 Q := by
  refine Ci.of (lv := [(0, .ref (ad 12)), (1, .int x1)]) (by decide) adX (Nat.le_of_ble_eq_true rfl) rfl ?_
  intro p e s m args below meth c A C
  have k2 : ∀ (x1 : Int32), ∀ (x2 : Int32), ∀ (σ : SS), wX1_kindAt_b2 x1 x2 σ Q → J p l e { frames := 5, cells := 0, slots := 0, locals := 108 } s m args below meth c D (wX cI cJ ad kv) A 3 (MQ below (va_Qi Q (WW D (tys cI cJ cZ) (wX cI cJ ad kv)) A) args s 0 0 A) σ 2 [(0, .ref (ad 12)), (1, .int x1), (2, .int x2)] [] := by
    intro x1 x2 σ h
    refine h (fun t => J p l e { frames := 5, cells := 0, slots := 0, locals := 108 } s m args below meth c D (wX cI cJ ad kv) A 3 (MQ below (va_Qi Q (WW D (tys cI cJ cZ) (wX cI cJ ad kv)) A) args s 0 0 A) σ 2 [(0, .ref (ad 12)), (1, .int x1), (2, .int t)] []) (fun t h => ?_)
    obtain ⟨x2, rfl⟩ : ∃ z, z = t := ⟨_, rfl⟩
    try dsimp only at h
    refine j_iload_n C dX1_kindAt_2 2 rfl ?_
    refine j_aload_n C dX1_kindAt_3 0 rfl ?_
    refine gf_X1_18 C dX1_kindAt_4 ?_
    refine j_callpi 0 [] [.int x2] C (kX3_places_ok σ h) (tt_V ml_X1_38 mV_X3_places) ok_X3_places ⟨by decide, by decide⟩ rfl (r_wX_0 (σ := σ)) (Nat.le_of_ble_eq_true rfl) rfl dX1_kindAt_7 (fun r7 h => ?_)
    refine j_icmp_ge 64 C dX1_kindAt_10 rfl h (fun h => ?_) (fun h => ?_)
    · refine j_iconst (v := 0) C dX1_kindAt_64 (by decide) ?_
      exact j_iret C dX1_kindAt_65 h
    · refine j_iload_n C dX1_kindAt_13 1 rfl ?_
      refine j_aload_n C dX1_kindAt_14 0 rfl ?_
      refine gf_X1_18 C dX1_kindAt_15 ?_
      refine j_iload_n C dX1_kindAt_18 2 rfl ?_
      refine j_callpi 0 [.int x2] [.int x1] C (kX3_endOf_ok x2 σ h) (tt_V ml_X1_48 mV_X3_endOf) ok_X3_endOf ⟨by decide, by decide⟩ rfl (r_wX_0 (σ := σ)) (Nat.le_of_ble_eq_true rfl) rfl dX1_kindAt_19 (fun r19 h => ?_)
      refine j_icmp_ge 46 C dX1_kindAt_22 rfl h (fun h => ?_) (fun h => ?_)
      · refine j_iload_n C dX1_kindAt_46 2 rfl ?_
        refine j_iconst (v := 1) C dX1_kindAt_47 (by decide) ?_
        refine j_iadd C dX1_kindAt_48 ?_
        refine j_aload_n C dX1_kindAt_49 0 rfl ?_
        refine gf_X1_18 C dX1_kindAt_50 ?_
        refine j_iload_n C dX1_kindAt_53 2 rfl ?_
        refine j_callpi 0 [.int x2] [.int (x2 + 1)] C (kX3_endOf_ok x2 σ h) (tt_V ml_X1_48 mV_X3_endOf) ok_X3_endOf ⟨by decide, by decide⟩ rfl (r_wX_0 (σ := σ)) (Nat.le_of_ble_eq_true rfl) rfl dX1_kindAt_54 (fun r54 h => ?_)
        refine j_mmax C ml_X1_52 mst_max mi_J9 mc_max ⟨by decide, (Nat.le_of_ble_eq_true rfl)⟩ dX1_kindAt_57 ?_
        refine j_istore_n (lv' := [(2, .int (if (x2 + 1) < r54 then r54 else (x2 + 1))), (0, .ref (ad 12)), (1, .int x1)]) C dX1_kindAt_60 (by decide) rfl ?_
        refine j_goto 2 C dX1_kindAt_61 rfl ?_
        refine j_sub (lv' := [(0, .ref (ad 12)), (1, .int x1), (2, .int (if (x2 + 1) < r54 then r54 else (x2 + 1)))]) [1, 2, 0] rfl ?_
        exact h
      · refine j_aload_n C dX1_kindAt_25 0 rfl ?_
        refine j_iload_n C dX1_kindAt_26 2 rfl ?_
        refine j_callv 12 [.int x2] [] C (kX1_lookAt_ok x2 σ h) (tt_V ml_X1_44 mV_X1_lookAt) ok_X1_lookAt ⟨by decide, by decide⟩ rfl (r_wX_12 (σ := σ)) (Nat.le_of_ble_eq_true rfl) rfl dX1_kindAt_27 (fun σ27 h => ?_)
        refine j_aload_n C dX1_kindAt_30 0 rfl ?_
        refine j_aload_n C dX1_kindAt_31 0 rfl ?_
        refine j_iload_n C dX1_kindAt_32 1 rfl ?_
        refine j_iload_n C dX1_kindAt_33 2 rfl ?_
        refine j_isub C dX1_kindAt_34 ?_
        refine j_callpi 12 [.int (x1 - x2)] [.ref (ad 12)] C (kX1_partWith_ok (x1 - x2) σ27 h) (tt_V ml_X1_61 mV_X1_partWith) ok_X1_partWith ⟨by decide, by decide⟩ rfl (r_wX_12 (σ := σ27)) (Nat.le_of_ble_eq_true rfl) rfl dX1_kindAt_35 (fun r35 h => ?_)
        refine j_callv 12 [.int r35] [] C (kX1_goToPart_ok r35 σ27 h) (tt_V ml_X1_58 mV_X1_goToPart) ok_X1_goToPart ⟨by decide, by decide⟩ rfl (r_wX_12 (σ := σ27)) (Nat.le_of_ble_eq_true rfl) rfl dX1_kindAt_38 (fun σ38 h => ?_)
        refine j_aload_n C dX1_kindAt_41 0 rfl ?_
        refine gf_X1_35 C dX1_kindAt_42 ?_
        exact j_iret C dX1_kindAt_45 h
  refine j_iconst (v := 0) C dX1_kindAt_0 (by decide) ?_
  refine j_istore_n (lv' := [(2, .int 0), (0, .ref (ad 12)), (1, .int x1)]) C dX1_kindAt_1 (by decide) rfl ?_
  refine j_sub (lv' := [(0, .ref (ad 12)), (1, .int x1), (2, .int 0)]) [1, 2, 0] rfl ?_
  exact k2 _ _ _ h
def wX3_handleOf (x1 : Int32) (σ : SS) (Q : Int32 → Prop) : Prop := vp_in x1 100 ∧ (Q ((100 * ((gA σ 3 x1.toNatClampNeg) - 1)) + x1))
set_option maxRecDepth 100000 in
set_option maxHeartbeats 4000000 in
theorem kX3_handleOf_ok {l : Launch} {D : va_G} {cI cJ cZ : ClassId} {ad : Nat → Nat} {kv : Value} (x1 : Int32) (σ0 : SS) {Q : Int32 → Prop} (h : wX3_handleOf x1 σ0 Q) : Ci l yX3_handleOf (.code yX3_handleOf cX3_handleOf 2 (some .int) :: TT) { frames := 0, cells := 0, slots := 0, locals := 0 } D (tys cI cJ cZ) (wX cI cJ ad kv) [.ref (ad 0), .int x1] σ0 (fun r σ' => σ' = σ0 ∧ Q r) := by
  refine Ci.of (lv := [(0, .ref (ad 0)), (1, .int x1)]) (by decide) adX (Nat.le_of_ble_eq_true rfl) rfl ?_
  intro p e s m args below meth c A C
  refine j_bipush (v := 100) C dX3_handleOf_0 (by decide) ?_
  refine j_aload_n C dX3_handleOf_2 0 rfl ?_
  refine gf_X3_28 C dX3_handleOf_3 ?_
  refine j_iload_n C dX3_handleOf_6 1 rfl ?_
  refine al_wX_6 C h.1 dX3_handleOf_7 ?_
  replace h := h.2
  refine j_iconst (v := 1) C dX3_handleOf_8 (by decide) ?_
  refine j_isub C dX3_handleOf_9 ?_
  refine j_imul C dX3_handleOf_10 ?_
  refine j_iload_n C dX3_handleOf_11 1 rfl ?_
  refine j_iadd C dX3_handleOf_12 ?_
  exact j_iret C dX3_handleOf_13 ⟨rfl, h⟩
def wX1_handle_b34 (x1 : Int32) (t0 : Int32) (σ : SS) (Q : Int32 → Prop) : Prop := (t0 = 0 → Q ((-1))) ∧ (¬ t0 = 0 → (x1 < 0 → Q ((-1))) ∧ (¬ x1 < 0 → wX3_handleOf x1 σ (fun r48 => Q r48)))
def wX1_handle_b29 (x1 : Int32) (σ : SS) (Q : Int32 → Prop) : Prop := wX1_handle_b34 x1 1 σ Q
def wX1_handle (σ : SS) (Q : Int32 → Prop) : Prop := wX3_blockAt (gI σ 3) σ (fun r8 => ((gI σ 6) = 3 → wX1_handle_b29 r8 σ Q) ∧ (¬ (gI σ 6) = 3 → (¬ (gI σ 6) = 6 → wX1_handle_b34 r8 0 σ Q) ∧ ((gI σ 6) = 6 → wX1_handle_b29 r8 σ Q)))
set_option maxRecDepth 100000 in
set_option maxHeartbeats 4000000 in
theorem kX1_handle_ok {l : Launch} {D : va_G} {cI cJ cZ : ClassId} {ad : Nat → Nat} {kv : Value} (σ0 : SS) {Q : Int32 → Prop} (h : wX1_handle σ0 Q) : Ci l yX1_handle (.code yX1_handle cX1_handle 3 (some .int) :: TT) { frames := 2, cells := 0, slots := 0, locals := 43 } D (tys cI cJ cZ) (wX cI cJ ad kv) [.ref (ad 12)] σ0 (fun r σ' => σ' = σ0 ∧ Q r) := by
  refine Ci.of (lv := [(0, .ref (ad 12))]) (by decide) adX (Nat.le_of_ble_eq_true rfl) rfl ?_
  intro p e s m args below meth c A C
  have k34 : ∀ (x1 : Int32), ∀ (t0 : Int32), wX1_handle_b34 x1 t0 σ0 Q → J p l e { frames := 2, cells := 0, slots := 0, locals := 43 } s m args below meth c D (wX cI cJ ad kv) A 3 (MQ below (va_Qi (fun r σ' => σ' = σ0 ∧ Q r) (WW D (tys cI cJ cZ) (wX cI cJ ad kv)) A) args s 0 0 A) σ0 34 [(0, .ref (ad 12)), (1, .int x1)] [.int t0] := by
    intro x1 t0 h
    refine j_istore_n (lv' := [(2, .int t0), (0, .ref (ad 12)), (1, .int x1)]) C dX1_handle_34 (by decide) rfl ?_
    refine j_iload_n C dX1_handle_35 0 rfl ?_
    refine j_if_eq 54 C dX1_handle_36 rfl h (fun h => ?_) (fun h => ?_)
    · refine j_iconst (v := (-1)) C dX1_handle_54 (by decide) ?_
      exact j_iret C dX1_handle_55 ⟨rfl, h⟩
    · refine j_iload_n C dX1_handle_39 2 rfl ?_
      refine j_if_lt 54 C dX1_handle_40 rfl h (fun h => ?_) (fun h => ?_)
      · refine j_iconst (v := (-1)) C dX1_handle_54 (by decide) ?_
        exact j_iret C dX1_handle_55 ⟨rfl, h⟩
      · refine j_aload_n C dX1_handle_43 1 rfl ?_
        refine gf_X1_18 C dX1_handle_44 ?_
        refine j_iload_n C dX1_handle_47 2 rfl ?_
        refine j_callpi 0 [.int x1] [] C (kX3_handleOf_ok x1 σ0 h) (tt_V ml_X1_67 mV_X3_handleOf) ok_X3_handleOf ⟨by decide, by decide⟩ rfl (r_wX_0 (σ := σ0)) (Nat.le_of_ble_eq_true rfl) rfl dX1_handle_48 (fun r48 h => ?_)
        refine j_goto 55 C dX1_handle_51 rfl ?_
        exact j_iret C dX1_handle_55 ⟨rfl, h⟩
  have k29 : ∀ (x1 : Int32), wX1_handle_b29 x1 σ0 Q → J p l e { frames := 2, cells := 0, slots := 0, locals := 43 } s m args below meth c D (wX cI cJ ad kv) A 3 (MQ below (va_Qi (fun r σ' => σ' = σ0 ∧ Q r) (WW D (tys cI cJ cZ) (wX cI cJ ad kv)) A) args s 0 0 A) σ0 29 [(0, .ref (ad 12)), (1, .int x1)] [] := by
    intro x1 h
    refine j_iconst (v := 1) C dX1_handle_29 (by decide) ?_
    refine j_goto 34 C dX1_handle_30 rfl ?_
    refine j_sub (lv' := [(0, .ref (ad 12)), (1, .int x1)]) [0, 1] rfl ?_
    exact k34 _ _ h
  refine j_aload_n C dX1_handle_0 0 rfl ?_
  refine gf_X1_18 C dX1_handle_1 ?_
  refine j_aload_n C dX1_handle_4 0 rfl ?_
  refine gf_X1_26 C dX1_handle_5 ?_
  refine j_callpi 0 [.int (gI σ0 3)] [] C (kX3_blockAt_ok (gI σ0 3) σ0 h) (tt_V ml_X1_64 mV_X3_blockAt) ok_X3_blockAt ⟨by decide, by decide⟩ rfl (r_wX_0 (σ := σ0)) (Nat.le_of_ble_eq_true rfl) rfl dX1_handle_8 (fun r8 h => ?_)
  refine j_istore_n (lv' := [(1, .int r8), (0, .ref (ad 12))]) C dX1_handle_11 (by decide) rfl ?_
  refine j_aload_n C dX1_handle_12 1 rfl ?_
  refine gf_X1_35 C dX1_handle_13 ?_
  refine j_iconst (v := 3) C dX1_handle_16 (by decide) ?_
  refine j_icmp_eq 29 C dX1_handle_17 rfl h (fun h => ?_) (fun h => ?_)
  · refine j_sub (lv' := [(0, .ref (ad 12)), (1, .int r8)]) [1, 0] rfl ?_
    exact k29 _ h
  · refine j_aload_n C dX1_handle_20 1 rfl ?_
    refine gf_X1_35 C dX1_handle_21 ?_
    refine j_bipush (v := 6) C dX1_handle_24 (by decide) ?_
    refine j_icmp_ne 33 C dX1_handle_26 rfl h (fun h => ?_) (fun h => ?_)
    · refine j_iconst (v := 0) C dX1_handle_33 (by decide) ?_
      refine j_sub (lv' := [(0, .ref (ad 12)), (1, .int r8)]) [1, 0] rfl ?_
      exact k34 _ _ h
    · refine j_sub (lv' := [(0, .ref (ad 12)), (1, .int r8)]) [1, 0] rfl ?_
      exact k29 _ h
def wX1_zoneNumber (σ : SS) (Q : Int32 → Prop) : Prop := wX3_ownerAt (gI σ 3) σ (fun r9 => Q (if ((-1)) < r9 then r9 else ((-1))))
set_option maxRecDepth 100000 in
set_option maxHeartbeats 4000000 in
theorem kX1_zoneNumber_ok {l : Launch} {D : va_G} {cI cJ cZ : ClassId} {ad : Nat → Nat} {kv : Value} (σ0 : SS) {Q : Int32 → Prop} (h : wX1_zoneNumber σ0 Q) : Ci l yX1_zoneNumber (.code yX1_zoneNumber cX1_zoneNumber 1 (some .int) :: TT) { frames := 2, cells := 0, slots := 0, locals := 41 } D (tys cI cJ cZ) (wX cI cJ ad kv) [.ref (ad 12)] σ0 (fun r σ' => σ' = σ0 ∧ Q r) := by
  refine Ci.of (lv := [(0, .ref (ad 12))]) (by decide) adX (Nat.le_of_ble_eq_true rfl) rfl ?_
  intro p e s m args below meth c A C
  refine j_iconst (v := (-1)) C dX1_zoneNumber_0 (by decide) ?_
  refine j_aload_n C dX1_zoneNumber_1 0 rfl ?_
  refine gf_X1_18 C dX1_zoneNumber_2 ?_
  refine j_aload_n C dX1_zoneNumber_5 0 rfl ?_
  refine gf_X1_26 C dX1_zoneNumber_6 ?_
  refine j_callpi 0 [.int (gI σ0 3)] [.int ((-1))] C (kX3_ownerAt_ok (gI σ0 3) σ0 h) (tt_V ml_X1_70 mV_X3_ownerAt) ok_X3_ownerAt ⟨by decide, by decide⟩ rfl (r_wX_0 (σ := σ0)) (Nat.le_of_ble_eq_true rfl) rfl dX1_zoneNumber_9 (fun r9 h => ?_)
  refine j_mmax C ml_X1_52 mst_max mi_J9 mc_max ⟨by decide, (Nat.le_of_ble_eq_true rfl)⟩ dX1_zoneNumber_12 ?_
  exact j_iret C dX1_zoneNumber_15 ⟨rfl, h⟩
def wX3_beginAnew (x1 : Int32) (σ : SS) (Q : SS → Prop) : Prop := ∀ σ15 : SS, σ15 = sAA (sI (sI σ 0 x1) 1 0) 0 (fillN 40 ((-1)) (gA (sI (sI σ 0 x1) 1 0) 0)) → (∀ σ23 : SS, σ23 = sBB σ15 0 (fillN 2560 0 (gB σ15 0)) → (∀ σ31 : SS, σ31 = sAA σ23 1 (fillN 2560 0 (gA σ23 1)) → (∀ σ39 : SS, σ39 = sAA σ31 3 (fillN 100 0 (gA σ31 3)) → (∀ σ47 : SS, σ47 = sAA σ39 4 (fillN 100 ((-1)) (gA σ39 4)) → (∀ σ55 : SS, σ55 = sAA σ47 8 (fillN 4 0 (gA σ47 8)) → (Q σ55))))))
set_option maxRecDepth 100000 in
set_option maxHeartbeats 4000000 in
theorem kX3_beginAnew_ok {l : Launch} {D : va_G} {cI cJ cZ : ClassId} {ad : Nat → Nat} {kv : Value} (x1 : Int32) (σ0 : SS) {Q : SS → Prop} (h : wX3_beginAnew x1 σ0 Q) : Cv l yX3_beginAnew (.code yX3_beginAnew cX3_beginAnew 2 none :: TT) { frames := 1, cells := 0, slots := 0, locals := 24 } D (tys cI cJ cZ) (wX cI cJ ad kv) [.ref (ad 0), .int x1] σ0 Q := by
  refine Cv.of (lv := [(0, .ref (ad 0)), (1, .int x1)]) (by decide) adX (Nat.le_of_ble_eq_true rfl) rfl ?_
  intro p e s m args below meth c A C
  refine j_aload_n C dX3_beginAnew_0 0 rfl ?_
  refine j_iload_n C dX3_beginAnew_1 1 rfl ?_
  refine pf_X3_46 C dX3_beginAnew_2 ?_
  refine j_aload_n C dX3_beginAnew_5 0 rfl ?_
  refine j_iconst (v := 0) C dX3_beginAnew_6 (by decide) ?_
  refine pf_X3_50 C dX3_beginAnew_7 ?_
  refine j_aload_n C dX3_beginAnew_10 0 rfl ?_
  refine gf_X3_9 C dX3_beginAnew_11 ?_
  refine j_iconst (v := (-1)) C dX3_beginAnew_14 (by decide) ?_
  refine j_callSv [.ref (ad 1), .int ((-1))] [] C (kfillA (q := 1) (n := 40) (k := 0) adX (by decide) (fun _ => rfl) (fun _ _ _ => rfl) ((-1)) (sI (sI σ0 0 x1) 1 0)) (tt_S ml_X3_53 mS_J7_fill_53178) ok_J7_fill_53178 ⟨by decide, by decide⟩ (Nat.le_of_ble_eq_true rfl) rfl dX3_beginAnew_15 (fun σ15 hs15 => ?_)
  replace h := h σ15 hs15
  refine j_aload_n C dX3_beginAnew_18 0 rfl ?_
  refine gf_X3_15 C dX3_beginAnew_19 ?_
  refine j_lconst (v := 0) C dX3_beginAnew_22 (by decide) ?_
  refine j_callSv [.ref (ad 2), .long 0] [] C (kfillB (q := 2) (n := 2560) (k := 0) adX (by decide) (fun _ => rfl) (fun _ _ _ => rfl) 0 σ15) (tt_S ml_X3_59 mS_J7_fill_d0a16) ok_J7_fill_d0a16 ⟨by decide, by decide⟩ (Nat.le_of_ble_eq_true rfl) rfl dX3_beginAnew_23 (fun σ23 hs23 => ?_)
  replace h := h σ23 hs23
  refine j_aload_n C dX3_beginAnew_26 0 rfl ?_
  refine gf_X3_19 C dX3_beginAnew_27 ?_
  refine j_iconst (v := 0) C dX3_beginAnew_30 (by decide) ?_
  refine j_callSv [.ref (ad 3), .int 0] [] C (kfillA (q := 3) (n := 2560) (k := 1) adX (by decide) (fun _ => rfl) (fun _ _ _ => rfl) 0 σ23) (tt_S ml_X3_53 mS_J7_fill_53178) ok_J7_fill_53178 ⟨by decide, by decide⟩ (Nat.le_of_ble_eq_true rfl) rfl dX3_beginAnew_31 (fun σ31 hs31 => ?_)
  replace h := h σ31 hs31
  refine j_aload_n C dX3_beginAnew_34 0 rfl ?_
  refine gf_X3_28 C dX3_beginAnew_35 ?_
  refine j_iconst (v := 0) C dX3_beginAnew_38 (by decide) ?_
  refine j_callSv [.ref (ad 6), .int 0] [] C (kfillA (q := 6) (n := 100) (k := 3) adX (by decide) (fun _ => rfl) (fun _ _ _ => rfl) 0 σ31) (tt_S ml_X3_53 mS_J7_fill_53178) ok_J7_fill_53178 ⟨by decide, by decide⟩ (Nat.le_of_ble_eq_true rfl) rfl dX3_beginAnew_39 (fun σ39 hs39 => ?_)
  replace h := h σ39 hs39
  refine j_aload_n C dX3_beginAnew_42 0 rfl ?_
  refine gf_X3_31 C dX3_beginAnew_43 ?_
  refine j_iconst (v := (-1)) C dX3_beginAnew_46 (by decide) ?_
  refine j_callSv [.ref (ad 7), .int ((-1))] [] C (kfillA (q := 7) (n := 100) (k := 4) adX (by decide) (fun _ => rfl) (fun _ _ _ => rfl) ((-1)) σ39) (tt_S ml_X3_53 mS_J7_fill_53178) ok_J7_fill_53178 ⟨by decide, by decide⟩ (Nat.le_of_ble_eq_true rfl) rfl dX3_beginAnew_47 (fun σ47 hs47 => ?_)
  replace h := h σ47 hs47
  refine j_aload_n C dX3_beginAnew_50 0 rfl ?_
  refine gf_X3_43 C dX3_beginAnew_51 ?_
  refine j_iconst (v := 0) C dX3_beginAnew_54 (by decide) ?_
  refine j_callSv [.ref (ad 11), .int 0] [] C (kfillA (q := 11) (n := 4) (k := 8) adX (by decide) (fun _ => rfl) (fun _ _ _ => rfl) 0 σ47) (tt_S ml_X3_53 mS_J7_fill_53178) ok_J7_fill_53178 ⟨by decide, by decide⟩ (Nat.le_of_ble_eq_true rfl) rfl dX3_beginAnew_55 (fun σ55 hs55 => ?_)
  replace h := h σ55 hs55
  exact j_vret C dX3_beginAnew_58 h
def wX3_pagesOf_b25 (X4 : Int32 × Int32 → Prop) (x1 : Int32) (x2 : Int32) (x3 : Int32) (σ : SS) (Q : Int32 → Prop) : Prop := X4 (x2, (x3 + 1))
def wX3_pagesOf_b4 (x1 : Int32) (x2 : Int32) (x3 : Int32) (σ : SS) (Q : Int32 → Prop) : Prop := lfp (fun (X4 : Int32 × Int32 → Prop) (t : Int32 × Int32) => ((gI σ 0) ≤ t.2 → Q t.1) ∧ (¬ (gI σ 0) ≤ t.2 → vp_in t.2 40 ∧ ((¬ (gA σ 0 t.2.toNatClampNeg) = x1 → wX3_pagesOf_b25 X4 x1 t.1 t.2 σ Q) ∧ ((gA σ 0 t.2.toNatClampNeg) = x1 → wX3_pagesOf_b25 X4 x1 (t.1 + 1) t.2 σ Q)))) (x2, x3)
def wX3_pagesOf (x1 : Int32) (σ : SS) (Q : Int32 → Prop) : Prop := wX3_pagesOf_b4 x1 0 0 σ Q
set_option maxRecDepth 100000 in
set_option maxHeartbeats 4000000 in
theorem kX3_pagesOf_ok {l : Launch} {D : va_G} {cI cJ cZ : ClassId} {ad : Nat → Nat} {kv : Value} (x1 : Int32) (σ0 : SS) {Q : Int32 → Prop} (h : wX3_pagesOf x1 σ0 Q) : Ci l yX3_pagesOf (.code yX3_pagesOf cX3_pagesOf 4 (some .int) :: TT) { frames := 0, cells := 0, slots := 0, locals := 0 } D (tys cI cJ cZ) (wX cI cJ ad kv) [.ref (ad 0), .int x1] σ0 (fun r σ' => σ' = σ0 ∧ Q r) := by
  refine Ci.of (lv := [(0, .ref (ad 0)), (1, .int x1)]) (by decide) adX (Nat.le_of_ble_eq_true rfl) rfl ?_
  intro p e s m args below meth c A C
  have k25 : ∀ (x1 : Int32), ∀ (x2 : Int32), ∀ (x3 : Int32), ∀ (X4 : Int32 × Int32 → Prop), (∀ t : Int32 × Int32, X4 t → J p l e { frames := 0, cells := 0, slots := 0, locals := 0 } s m args below meth c D (wX cI cJ ad kv) A 4 (MQ below (va_Qi (fun r σ' => σ' = σ0 ∧ Q r) (WW D (tys cI cJ cZ) (wX cI cJ ad kv)) A) args s 0 0 A) σ0 4 [(0, .ref (ad 0)), (1, .int x1), (2, .int t.1), (3, .int t.2)] []) → wX3_pagesOf_b25 X4 x1 x2 x3 σ0 Q → J p l e { frames := 0, cells := 0, slots := 0, locals := 0 } s m args below meth c D (wX cI cJ ad kv) A 4 (MQ below (va_Qi (fun r σ' => σ' = σ0 ∧ Q r) (WW D (tys cI cJ cZ) (wX cI cJ ad kv)) A) args s 0 0 A) σ0 25 [(0, .ref (ad 0)), (1, .int x1), (2, .int x2), (3, .int x3)] [] := by
    intro x1 x2 x3 X4 hX4 h
    refine j_iinc (lv' := [(3, .int (x3 + 1)), (0, .ref (ad 0)), (1, .int x1), (2, .int x2)]) (x3 + 1) C dX3_pagesOf_25 3 rfl rfl (by decide) rfl ?_
    refine j_goto 4 C dX3_pagesOf_28 rfl ?_
    refine j_sub (lv' := [(0, .ref (ad 0)), (1, .int x1), (2, .int x2), (3, .int (x3 + 1))]) [1, 2, 3, 0] rfl ?_
    exact hX4 _ h
  have k4 : ∀ (x1 : Int32), ∀ (x2 : Int32), ∀ (x3 : Int32), wX3_pagesOf_b4 x1 x2 x3 σ0 Q → J p l e { frames := 0, cells := 0, slots := 0, locals := 0 } s m args below meth c D (wX cI cJ ad kv) A 4 (MQ below (va_Qi (fun r σ' => σ' = σ0 ∧ Q r) (WW D (tys cI cJ cZ) (wX cI cJ ad kv)) A) args s 0 0 A) σ0 4 [(0, .ref (ad 0)), (1, .int x1), (2, .int x2), (3, .int x3)] [] := by
    intro x1 x2 x3 h
    refine h (fun t => J p l e { frames := 0, cells := 0, slots := 0, locals := 0 } s m args below meth c D (wX cI cJ ad kv) A 4 (MQ below (va_Qi (fun r σ' => σ' = σ0 ∧ Q r) (WW D (tys cI cJ cZ) (wX cI cJ ad kv)) A) args s 0 0 A) σ0 4 [(0, .ref (ad 0)), (1, .int x1), (2, .int t.1), (3, .int t.2)] []) (fun t h => ?_)
    obtain ⟨x2, x3⟩ := t
    try dsimp only at h
    refine j_iload_n C dX3_pagesOf_4 3 rfl ?_
    refine j_aload_n C dX3_pagesOf_5 0 rfl ?_
    refine gf_X3_46 C dX3_pagesOf_6 ?_
    refine j_icmp_ge 31 C dX3_pagesOf_9 rfl h (fun h => ?_) (fun h => ?_)
    · refine j_iload_n C dX3_pagesOf_31 2 rfl ?_
      exact j_iret C dX3_pagesOf_32 ⟨rfl, h⟩
    · refine j_aload_n C dX3_pagesOf_12 0 rfl ?_
      refine gf_X3_9 C dX3_pagesOf_13 ?_
      refine j_iload_n C dX3_pagesOf_16 3 rfl ?_
      refine al_wX_1 C h.1 dX3_pagesOf_17 ?_
      replace h := h.2
      refine j_iload_n C dX3_pagesOf_18 1 rfl ?_
      refine j_icmp_ne 25 C dX3_pagesOf_19 rfl h (fun h => ?_) (fun h => ?_)
      · refine j_sub (lv' := [(0, .ref (ad 0)), (1, .int x1), (2, .int x2), (3, .int x3)]) [0, 1, 2, 3] rfl ?_
        exact k25 _ _ _ _ (fun _ z => z) h
      · refine j_iinc (lv' := [(2, .int (x2 + 1)), (0, .ref (ad 0)), (1, .int x1), (3, .int x3)]) (x2 + 1) C dX3_pagesOf_22 2 rfl rfl (by decide) rfl ?_
        refine j_sub (lv' := [(0, .ref (ad 0)), (1, .int x1), (2, .int (x2 + 1)), (3, .int x3)]) [1, 2, 0, 3] rfl ?_
        exact k25 _ _ _ _ (fun _ z => z) h
  refine j_iconst (v := 0) C dX3_pagesOf_0 (by decide) ?_
  refine j_istore_n (lv' := [(2, .int 0), (0, .ref (ad 0)), (1, .int x1)]) C dX3_pagesOf_1 (by decide) rfl ?_
  refine j_iconst (v := 0) C dX3_pagesOf_2 (by decide) ?_
  refine j_istore_n (lv' := [(3, .int 0), (2, .int 0), (0, .ref (ad 0)), (1, .int x1)]) C dX3_pagesOf_3 (by decide) rfl ?_
  refine j_sub (lv' := [(0, .ref (ad 0)), (1, .int x1), (2, .int 0), (3, .int 0)]) [2, 3, 1, 0] rfl ?_
  exact k4 _ _ _ h
def wX3_longestFreeRun_b31 (X6 : Int32 × Int32 × Int32 → Prop) (x1 : Int32) (x3 : Int32) (t0 : Int32) (σ : SS) (Q : Int32 → Prop) : Prop := X6 ((if x1 < t0 then t0 else x1), t0, (x3 + 1))
def wX3_longestFreeRun_b6 (x1 : Int32) (x2 : Int32) (x3 : Int32) (σ : SS) (Q : Int32 → Prop) : Prop := lfp (fun (X6 : Int32 × Int32 × Int32 → Prop) (t : Int32 × Int32 × Int32) => ((gI σ 0) ≤ t.2.2 → Q t.1) ∧ (¬ (gI σ 0) ≤ t.2.2 → vp_in t.2.2 40 ∧ ((¬ (gA σ 0 t.2.2.toNatClampNeg) = ((-1)) → wX3_longestFreeRun_b31 X6 t.1 t.2.2 0 σ Q) ∧ ((gA σ 0 t.2.2.toNatClampNeg) = ((-1)) → wX3_longestFreeRun_b31 X6 t.1 t.2.2 (t.2.1 + 1) σ Q)))) (x1, x2, x3)
def wX3_longestFreeRun (σ : SS) (Q : Int32 → Prop) : Prop := wX3_longestFreeRun_b6 0 0 0 σ Q
set_option maxRecDepth 100000 in
set_option maxHeartbeats 4000000 in
theorem kX3_longestFreeRun_ok {l : Launch} {D : va_G} {cI cJ cZ : ClassId} {ad : Nat → Nat} {kv : Value} (σ0 : SS) {Q : Int32 → Prop} (h : wX3_longestFreeRun σ0 Q) : Ci l yX3_longestFreeRun (.code yX3_longestFreeRun cX3_longestFreeRun 4 (some .int) :: TT) { frames := 1, cells := 0, slots := 0, locals := 24 } D (tys cI cJ cZ) (wX cI cJ ad kv) [.ref (ad 0)] σ0 (fun r σ' => σ' = σ0 ∧ Q r) := by
  refine Ci.of (lv := [(0, .ref (ad 0))]) (by decide) adX (Nat.le_of_ble_eq_true rfl) rfl ?_
  intro p e s m args below meth c A C
  have k31 : ∀ (x1 : Int32), ∀ (x3 : Int32), ∀ (t0 : Int32), ∀ (X6 : Int32 × Int32 × Int32 → Prop), (∀ t : Int32 × Int32 × Int32, X6 t → J p l e { frames := 1, cells := 0, slots := 0, locals := 24 } s m args below meth c D (wX cI cJ ad kv) A 4 (MQ below (va_Qi (fun r σ' => σ' = σ0 ∧ Q r) (WW D (tys cI cJ cZ) (wX cI cJ ad kv)) A) args s 0 0 A) σ0 6 [(0, .ref (ad 0)), (1, .int t.1), (2, .int t.2.1), (3, .int t.2.2)] []) → wX3_longestFreeRun_b31 X6 x1 x3 t0 σ0 Q → J p l e { frames := 1, cells := 0, slots := 0, locals := 24 } s m args below meth c D (wX cI cJ ad kv) A 4 (MQ below (va_Qi (fun r σ' => σ' = σ0 ∧ Q r) (WW D (tys cI cJ cZ) (wX cI cJ ad kv)) A) args s 0 0 A) σ0 31 [(0, .ref (ad 0)), (1, .int x1), (3, .int x3)] [.int t0] := by
    intro x1 x3 t0 X6 hX6 h
    refine j_istore_n (lv' := [(2, .int t0), (0, .ref (ad 0)), (1, .int x1), (3, .int x3)]) C dX3_longestFreeRun_31 (by decide) rfl ?_
    refine j_iload_n C dX3_longestFreeRun_32 2 rfl ?_
    refine j_iload_n C dX3_longestFreeRun_33 0 rfl ?_
    refine j_mmax C ml_X3_72 mst_max mi_J9 mc_max ⟨by decide, (Nat.le_of_ble_eq_true rfl)⟩ dX3_longestFreeRun_34 ?_
    refine j_istore_n (lv' := [(1, .int (if x1 < t0 then t0 else x1)), (2, .int t0), (0, .ref (ad 0)), (3, .int x3)]) C dX3_longestFreeRun_37 (by decide) rfl ?_
    refine j_iinc (lv' := [(3, .int (x3 + 1)), (1, .int (if x1 < t0 then t0 else x1)), (2, .int t0), (0, .ref (ad 0))]) (x3 + 1) C dX3_longestFreeRun_38 3 rfl rfl (by decide) rfl ?_
    refine j_goto 6 C dX3_longestFreeRun_41 rfl ?_
    refine j_sub (lv' := [(0, .ref (ad 0)), (1, .int (if x1 < t0 then t0 else x1)), (2, .int t0), (3, .int (x3 + 1))]) [3, 1, 2, 0] rfl ?_
    exact hX6 _ h
  have k6 : ∀ (x1 : Int32), ∀ (x2 : Int32), ∀ (x3 : Int32), wX3_longestFreeRun_b6 x1 x2 x3 σ0 Q → J p l e { frames := 1, cells := 0, slots := 0, locals := 24 } s m args below meth c D (wX cI cJ ad kv) A 4 (MQ below (va_Qi (fun r σ' => σ' = σ0 ∧ Q r) (WW D (tys cI cJ cZ) (wX cI cJ ad kv)) A) args s 0 0 A) σ0 6 [(0, .ref (ad 0)), (1, .int x1), (2, .int x2), (3, .int x3)] [] := by
    intro x1 x2 x3 h
    refine h (fun t => J p l e { frames := 1, cells := 0, slots := 0, locals := 24 } s m args below meth c D (wX cI cJ ad kv) A 4 (MQ below (va_Qi (fun r σ' => σ' = σ0 ∧ Q r) (WW D (tys cI cJ cZ) (wX cI cJ ad kv)) A) args s 0 0 A) σ0 6 [(0, .ref (ad 0)), (1, .int t.1), (2, .int t.2.1), (3, .int t.2.2)] []) (fun t h => ?_)
    obtain ⟨x1, x2, x3⟩ := t
    try dsimp only at h
    refine j_iload_n C dX3_longestFreeRun_6 3 rfl ?_
    refine j_aload_n C dX3_longestFreeRun_7 0 rfl ?_
    refine gf_X3_46 C dX3_longestFreeRun_8 ?_
    refine j_icmp_ge 44 C dX3_longestFreeRun_11 rfl h (fun h => ?_) (fun h => ?_)
    · refine j_iload_n C dX3_longestFreeRun_44 1 rfl ?_
      exact j_iret C dX3_longestFreeRun_45 ⟨rfl, h⟩
    · refine j_aload_n C dX3_longestFreeRun_14 0 rfl ?_
      refine gf_X3_9 C dX3_longestFreeRun_15 ?_
      refine j_iload_n C dX3_longestFreeRun_18 3 rfl ?_
      refine al_wX_1 C h.1 dX3_longestFreeRun_19 ?_
      replace h := h.2
      refine j_iconst (v := (-1)) C dX3_longestFreeRun_20 (by decide) ?_
      refine j_icmp_ne 30 C dX3_longestFreeRun_21 rfl h (fun h => ?_) (fun h => ?_)
      · refine j_iconst (v := 0) C dX3_longestFreeRun_30 (by decide) ?_
        refine j_sub (lv' := [(0, .ref (ad 0)), (1, .int x1), (3, .int x3)]) [0, 1, 3] rfl ?_
        exact k31 _ _ _ _ (fun _ z => z) h
      · refine j_iload_n C dX3_longestFreeRun_24 2 rfl ?_
        refine j_iconst (v := 1) C dX3_longestFreeRun_25 (by decide) ?_
        refine j_iadd C dX3_longestFreeRun_26 ?_
        refine j_goto 31 C dX3_longestFreeRun_27 rfl ?_
        refine j_sub (lv' := [(0, .ref (ad 0)), (1, .int x1), (3, .int x3)]) [0, 1, 3] rfl ?_
        exact k31 _ _ _ _ (fun _ z => z) h
  refine j_iconst (v := 0) C dX3_longestFreeRun_0 (by decide) ?_
  refine j_istore_n (lv' := [(1, .int 0), (0, .ref (ad 0))]) C dX3_longestFreeRun_1 (by decide) rfl ?_
  refine j_iconst (v := 0) C dX3_longestFreeRun_2 (by decide) ?_
  refine j_istore_n (lv' := [(2, .int 0), (1, .int 0), (0, .ref (ad 0))]) C dX3_longestFreeRun_3 (by decide) rfl ?_
  refine j_iconst (v := 0) C dX3_longestFreeRun_4 (by decide) ?_
  refine j_istore_n (lv' := [(3, .int 0), (2, .int 0), (1, .int 0), (0, .ref (ad 0))]) C dX3_longestFreeRun_5 (by decide) rfl ?_
  refine j_sub (lv' := [(0, .ref (ad 0)), (1, .int 0), (2, .int 0), (3, .int 0)]) [3, 2, 1, 0] rfl ?_
  exact k6 _ _ _ h
def wX3_areThere (x1 : Int32) (x2 : Int32) (σ : SS) (Q : Int32 → Prop) : Prop := (x1 < 0 → Q 0) ∧ (¬ x1 < 0 → (x2 ≤ 0 → Q 0) ∧ (¬ x2 ≤ 0 → (2560 < x2 → Q 0) ∧ (¬ 2560 < x2 → ((2560 - x2) < x1 → Q 0) ∧ (¬ (2560 - x2) < x1 → Q 1))))
set_option maxRecDepth 100000 in
set_option maxHeartbeats 4000000 in
theorem kX3_areThere_ok {l : Launch} {D : va_G} {cI cJ cZ : ClassId} {ad : Nat → Nat} {kv : Value} (x1 : Int32) (x2 : Int32) (σ0 : SS) {Q : Int32 → Prop} (h : wX3_areThere x1 x2 σ0 Q) : Ci l yX3_areThere (.code yX3_areThere cX3_areThere 3 (some .boolean) :: TT) { frames := 0, cells := 0, slots := 0, locals := 0 } D (tys cI cJ cZ) (wX cI cJ ad kv) [.ref (ad 0), .int x1, .int x2] σ0 (fun r σ' => σ' = σ0 ∧ Q r) := by
  refine Ci.of (lv := [(0, .ref (ad 0)), (1, .int x1), (2, .int x2)]) (by decide) adX (Nat.le_of_ble_eq_true rfl) rfl ?_
  intro p e s m args below meth c A C
  refine j_iload_n C dX3_areThere_0 1 rfl ?_
  refine j_if_lt 28 C dX3_areThere_1 rfl h (fun h => ?_) (fun h => ?_)
  · refine j_iconst (v := 0) C dX3_areThere_28 (by decide) ?_
    exact j_zret C dX3_areThere_29 rfl ⟨rfl, h⟩
  · refine j_iload_n C dX3_areThere_4 2 rfl ?_
    refine j_if_le 28 C dX3_areThere_5 rfl h (fun h => ?_) (fun h => ?_)
    · refine j_iconst (v := 0) C dX3_areThere_28 (by decide) ?_
      exact j_zret C dX3_areThere_29 rfl ⟨rfl, h⟩
    · refine j_iload_n C dX3_areThere_8 2 rfl ?_
      refine j_sipush (v := 2560) C dX3_areThere_9 (by decide) ?_
      refine j_icmp_gt 28 C dX3_areThere_12 rfl h (fun h => ?_) (fun h => ?_)
      · refine j_iconst (v := 0) C dX3_areThere_28 (by decide) ?_
        exact j_zret C dX3_areThere_29 rfl ⟨rfl, h⟩
      · refine j_iload_n C dX3_areThere_15 1 rfl ?_
        refine j_sipush (v := 2560) C dX3_areThere_16 (by decide) ?_
        refine j_iload_n C dX3_areThere_19 2 rfl ?_
        refine j_isub C dX3_areThere_20 ?_
        refine j_icmp_gt 28 C dX3_areThere_21 rfl h (fun h => ?_) (fun h => ?_)
        · refine j_iconst (v := 0) C dX3_areThere_28 (by decide) ?_
          exact j_zret C dX3_areThere_29 rfl ⟨rfl, h⟩
        · refine j_iconst (v := 1) C dX3_areThere_24 (by decide) ?_
          refine j_goto 29 C dX3_areThere_25 rfl ?_
          exact j_zret C dX3_areThere_29 rfl ⟨rfl, h⟩
def wX3_numberAt (x1 : Int32) (σ : SS) (Q : Int64 → Prop) : Prop := (x1 < 0 → Q 0) ∧ (¬ x1 < 0 → (2560 ≤ x1 → Q 0) ∧ (¬ 2560 ≤ x1 → vp_in x1 2560 ∧ (Q (gB σ 0 x1.toNatClampNeg))))
set_option maxRecDepth 100000 in
set_option maxHeartbeats 4000000 in
theorem kX3_numberAt_ok {l : Launch} {D : va_G} {cI cJ cZ : ClassId} {ad : Nat → Nat} {kv : Value} (x1 : Int32) (σ0 : SS) {Q : Int64 → Prop} (h : wX3_numberAt x1 σ0 Q) : Cl l yX3_numberAt (.code yX3_numberAt cX3_numberAt 2 (some .long) :: TT) { frames := 0, cells := 0, slots := 0, locals := 0 } D (tys cI cJ cZ) (wX cI cJ ad kv) [.ref (ad 0), .int x1] σ0 (fun r σ' => σ' = σ0 ∧ Q r) := by
  refine Cl.of (lv := [(0, .ref (ad 0)), (1, .int x1)]) (by decide) adX (Nat.le_of_ble_eq_true rfl) rfl ?_
  intro p e s m args below meth c A C
  refine j_iload_n C dX3_numberAt_0 1 rfl ?_
  refine j_if_lt 20 C dX3_numberAt_1 rfl h (fun h => ?_) (fun h => ?_)
  · refine j_lconst (v := 0) C dX3_numberAt_20 (by decide) ?_
    exact j_lret C dX3_numberAt_21 ⟨rfl, h⟩
  · refine j_iload_n C dX3_numberAt_4 1 rfl ?_
    refine j_sipush (v := 2560) C dX3_numberAt_5 (by decide) ?_
    refine j_icmp_ge 20 C dX3_numberAt_8 rfl h (fun h => ?_) (fun h => ?_)
    · refine j_lconst (v := 0) C dX3_numberAt_20 (by decide) ?_
      exact j_lret C dX3_numberAt_21 ⟨rfl, h⟩
    · refine j_aload_n C dX3_numberAt_11 0 rfl ?_
      refine gf_X3_15 C dX3_numberAt_12 ?_
      refine j_iload_n C dX3_numberAt_15 1 rfl ?_
      refine al_wX_2 C h.1 dX3_numberAt_16 ?_
      replace h := h.2
      refine j_goto 21 C dX3_numberAt_17 rfl ?_
      exact j_lret C dX3_numberAt_21 ⟨rfl, h⟩
def wX3_setNumber (x1 : Int32) (x2 : Int64) (σ : SS) (Q : SS → Prop) : Prop := (x1 < 0 → Q σ) ∧ (¬ x1 < 0 → (2560 ≤ x1 → Q σ) ∧ (¬ 2560 ≤ x1 → vp_in x1 2560 ∧ (Q (sB σ 0 x1.toNatClampNeg x2))))
set_option maxRecDepth 100000 in
set_option maxHeartbeats 4000000 in
theorem kX3_setNumber_ok {l : Launch} {D : va_G} {cI cJ cZ : ClassId} {ad : Nat → Nat} {kv : Value} (x1 : Int32) (x2 : Int64) (σ0 : SS) {Q : SS → Prop} (h : wX3_setNumber x1 x2 σ0 Q) : Cv l yX3_setNumber (.code yX3_setNumber cX3_setNumber 4 none :: TT) { frames := 0, cells := 0, slots := 0, locals := 0 } D (tys cI cJ cZ) (wX cI cJ ad kv) [.ref (ad 0), .int x1, .long x2] σ0 Q := by
  refine Cv.of (lv := [(0, .ref (ad 0)), (1, .int x1), (2, .long x2)]) (by decide) adX (Nat.le_of_ble_eq_true rfl) rfl ?_
  intro p e s m args below meth c A C
  refine j_iload_n C dX3_setNumber_0 1 rfl ?_
  refine j_if_lt 18 C dX3_setNumber_1 rfl h (fun h => ?_) (fun h => ?_)
  · exact j_vret C dX3_setNumber_18 h
  · refine j_iload_n C dX3_setNumber_4 1 rfl ?_
    refine j_sipush (v := 2560) C dX3_setNumber_5 (by decide) ?_
    refine j_icmp_ge 18 C dX3_setNumber_8 rfl h (fun h => ?_) (fun h => ?_)
    · exact j_vret C dX3_setNumber_18 h
    · refine j_aload_n C dX3_setNumber_11 0 rfl ?_
      refine gf_X3_15 C dX3_setNumber_12 ?_
      refine j_iload_n C dX3_setNumber_15 1 rfl ?_
      refine j_lload_n C dX3_setNumber_16 2 rfl ?_
      refine as_wX_2 C h.1 dX3_setNumber_17 ?_
      replace h := h.2
      exact j_vret C dX3_setNumber_18 h
def wX3_setNumbers_b12 (x1 : Int32) (x2 : Int32) (x3 : Int64) (x5 : Int32) (σ : SS) (Q : SS → Prop) : Prop := lfp (fun (X12 : Int32 × SS → Prop) (t : Int32 × SS) => ((x1 + x2) ≤ t.1 → Q t.2) ∧ (¬ (x1 + x2) ≤ t.1 → vp_in t.1 2560 ∧ (X12 ((t.1 + 1), sB t.2 0 t.1.toNatClampNeg x3)))) (x5, σ)
def wX3_setNumbers (x1 : Int32) (x2 : Int32) (x3 : Int64) (σ : SS) (Q : SS → Prop) : Prop := wX3_areThere x1 x2 σ (fun r3 => (r3 = 0 → Q σ) ∧ (¬ r3 = 0 → wX3_setNumbers_b12 x1 x2 x3 x1 σ Q))
set_option maxRecDepth 100000 in
set_option maxHeartbeats 4000000 in
theorem kX3_setNumbers_ok {l : Launch} {D : va_G} {cI cJ cZ : ClassId} {ad : Nat → Nat} {kv : Value} (x1 : Int32) (x2 : Int32) (x3 : Int64) (σ0 : SS) {Q : SS → Prop} (h : wX3_setNumbers x1 x2 x3 σ0 Q) : Cv l yX3_setNumbers (.code yX3_setNumbers cX3_setNumbers 6 none :: TT) { frames := 1, cells := 0, slots := 0, locals := 22 } D (tys cI cJ cZ) (wX cI cJ ad kv) [.ref (ad 0), .int x1, .int x2, .long x3] σ0 Q := by
  refine Cv.of (lv := [(0, .ref (ad 0)), (1, .int x1), (2, .int x2), (3, .long x3)]) (by decide) adX (Nat.le_of_ble_eq_true rfl) rfl ?_
  intro p e s m args below meth c A C
  have k12 : ∀ (x1 : Int32), ∀ (x2 : Int32), ∀ (x3 : Int64), ∀ (x5 : Int32), ∀ (σ : SS), wX3_setNumbers_b12 x1 x2 x3 x5 σ Q → J p l e { frames := 1, cells := 0, slots := 0, locals := 22 } s m args below meth c D (wX cI cJ ad kv) A 6 (MQ below (va_Qv Q (WW D (tys cI cJ cZ) (wX cI cJ ad kv)) A) args s 0 0 A) σ 12 [(0, .ref (ad 0)), (1, .int x1), (2, .int x2), (3, .long x3), (5, .int x5)] [] := by
    intro x1 x2 x3 x5 σ h
    refine h (fun t => J p l e { frames := 1, cells := 0, slots := 0, locals := 22 } s m args below meth c D (wX cI cJ ad kv) A 6 (MQ below (va_Qv Q (WW D (tys cI cJ cZ) (wX cI cJ ad kv)) A) args s 0 0 A) t.2 12 [(0, .ref (ad 0)), (1, .int x1), (2, .int x2), (3, .long x3), (5, .int t.1)] []) (fun t h => ?_)
    obtain ⟨x5, σ⟩ := t
    try dsimp only at h
    refine j_iload C dX3_setNumbers_12 4 rfl ?_
    refine j_iload_n C dX3_setNumbers_14 1 rfl ?_
    refine j_iload_n C dX3_setNumbers_15 2 rfl ?_
    refine j_iadd C dX3_setNumbers_16 ?_
    refine j_icmp_ge 34 C dX3_setNumbers_17 rfl h (fun h => ?_) (fun h => ?_)
    · exact j_vret C dX3_setNumbers_34 h
    · refine j_aload_n C dX3_setNumbers_20 0 rfl ?_
      refine gf_X3_15 C dX3_setNumbers_21 ?_
      refine j_iload C dX3_setNumbers_24 4 rfl ?_
      refine j_lload_n C dX3_setNumbers_26 3 rfl ?_
      refine as_wX_2 C h.1 dX3_setNumbers_27 ?_
      replace h := h.2
      refine j_iinc (lv' := [(5, .int (x5 + 1)), (0, .ref (ad 0)), (1, .int x1), (2, .int x2), (3, .long x3)]) (x5 + 1) C dX3_setNumbers_28 4 rfl rfl (by decide) rfl ?_
      refine j_goto 12 C dX3_setNumbers_31 rfl ?_
      refine j_sub (lv' := [(0, .ref (ad 0)), (1, .int x1), (2, .int x2), (3, .long x3), (5, .int (x5 + 1))]) [1, 2, 3, 4, 0] rfl ?_
      exact h
  refine j_aload_n C dX3_setNumbers_0 0 rfl ?_
  refine j_iload_n C dX3_setNumbers_1 1 rfl ?_
  refine j_iload_n C dX3_setNumbers_2 2 rfl ?_
  refine j_callpi 0 [.int x1, .int x2] [] C (kX3_areThere_ok x1 x2 σ0 h) (tt_V ml_X3_78 mV_X3_areThere) ok_X3_areThere ⟨by decide, by decide⟩ rfl (r_wX_0 (σ := σ0)) (Nat.le_of_ble_eq_true rfl) rfl dX3_setNumbers_3 (fun r3 h => ?_)
  refine j_if_eq 34 C dX3_setNumbers_6 rfl h (fun h => ?_) (fun h => ?_)
  · exact j_vret C dX3_setNumbers_34 h
  · refine j_iload_n C dX3_setNumbers_9 1 rfl ?_
    refine j_istore (lv' := [(5, .int x1), (0, .ref (ad 0)), (1, .int x1), (2, .int x2), (3, .long x3)]) C dX3_setNumbers_10 (by decide) rfl ?_
    refine j_sub (lv' := [(0, .ref (ad 0)), (1, .int x1), (2, .int x2), (3, .long x3), (5, .int x1)]) [1, 2, 3, 4, 0] rfl ?_
    exact k12 _ _ _ _ _ h
def wX3_copyNumbers (x1 : Int32) (x2 : Int32) (x3 : Int32) (σ : SS) (Q : SS → Prop) : Prop := wX3_areThere x1 x3 σ (fun r3 => (r3 = 0 → Q σ) ∧ (¬ r3 = 0 → wX3_areThere x2 x3 σ (fun r12 => (r12 = 0 → Q σ) ∧ (¬ r12 = 0 → (¬ x1 < 0 ∧ ¬ x2 < 0 ∧ ¬ x3 < 0 ∧ x1.toNatClampNeg + x3.toNatClampNeg ≤ 2560 ∧ x2.toNatClampNeg + x3.toNatClampNeg ≤ 2560) ∧ (Q (sBB σ 0 (va_cpy (gB σ 0) (gB σ 0) x1.toNatClampNeg x2.toNatClampNeg x3.toNatClampNeg)))))))
set_option maxRecDepth 100000 in
set_option maxHeartbeats 4000000 in
theorem kX3_copyNumbers_ok {l : Launch} {D : va_G} {cI cJ cZ : ClassId} {ad : Nat → Nat} {kv : Value} (x1 : Int32) (x2 : Int32) (x3 : Int32) (σ0 : SS) {Q : SS → Prop} (h : wX3_copyNumbers x1 x2 x3 σ0 Q) : Cv l yX3_copyNumbers (.code yX3_copyNumbers cX3_copyNumbers 4 none :: TT) { frames := 1, cells := 0, slots := 0, locals := 40 } D (tys cI cJ cZ) (wX cI cJ ad kv) [.ref (ad 0), .int x1, .int x2, .int x3] σ0 Q := by
  refine Cv.of (lv := [(0, .ref (ad 0)), (1, .int x1), (2, .int x2), (3, .int x3)]) (by decide) adX (Nat.le_of_ble_eq_true rfl) rfl ?_
  intro p e s m args below meth c A C
  refine j_aload_n C dX3_copyNumbers_0 0 rfl ?_
  refine j_iload_n C dX3_copyNumbers_1 1 rfl ?_
  refine j_iload_n C dX3_copyNumbers_2 3 rfl ?_
  refine j_callpi 0 [.int x1, .int x3] [] C (kX3_areThere_ok x1 x3 σ0 h) (tt_V ml_X3_78 mV_X3_areThere) ok_X3_areThere ⟨by decide, by decide⟩ rfl (r_wX_0 (σ := σ0)) (Nat.le_of_ble_eq_true rfl) rfl dX3_copyNumbers_3 (fun r3 h => ?_)
  refine j_if_eq 32 C dX3_copyNumbers_6 rfl h (fun h => ?_) (fun h => ?_)
  · exact j_vret C dX3_copyNumbers_32 h
  · refine j_aload_n C dX3_copyNumbers_9 0 rfl ?_
    refine j_iload_n C dX3_copyNumbers_10 2 rfl ?_
    refine j_iload_n C dX3_copyNumbers_11 3 rfl ?_
    refine j_callpi 0 [.int x2, .int x3] [] C (kX3_areThere_ok x2 x3 σ0 h) (tt_V ml_X3_78 mV_X3_areThere) ok_X3_areThere ⟨by decide, by decide⟩ rfl (r_wX_0 (σ := σ0)) (Nat.le_of_ble_eq_true rfl) rfl dX3_copyNumbers_12 (fun r12 h => ?_)
    refine j_if_eq 32 C dX3_copyNumbers_15 rfl h (fun h => ?_) (fun h => ?_)
    · exact j_vret C dX3_copyNumbers_32 h
    · refine j_aload_n C dX3_copyNumbers_18 0 rfl ?_
      refine gf_X3_15 C dX3_copyNumbers_19 ?_
      refine j_iload_n C dX3_copyNumbers_22 1 rfl ?_
      refine j_aload_n C dX3_copyNumbers_23 0 rfl ?_
      refine gf_X3_15 C dX3_copyNumbers_24 ?_
      refine j_iload_n C dX3_copyNumbers_27 2 rfl ?_
      refine j_iload_n C dX3_copyNumbers_28 3 rfl ?_
      refine j_copyl (σ' := sBB σ0 0 (va_cpy (gB σ0 0) (gB σ0 0) x1.toNatClampNeg x2.toNatClampNeg x3.toNatClampNeg)) 2 1 C rfl rfl rfl ml_X3_62 h.1 ⟨by decide, (Nat.le_of_ble_eq_true rfl)⟩ dX3_copyNumbers_29 ?_
      replace h := h.2
      exact j_vret C dX3_copyNumbers_32 h
def wX3_freePiecesOf_b24 (X4 : Int32 × Int32 → Prop) (x1 : Int32) (x2 : Int32) (x3 : Int32) (σ : SS) (Q : Int32 → Prop) : Prop := wX3_endOf x3 σ (fun r29 => X4 (x2, (if (x3 + 1) < r29 then r29 else (x3 + 1))))
def wX3_freePiecesOf_b4 (x1 : Int32) (x2 : Int32) (x3 : Int32) (σ : SS) (Q : Int32 → Prop) : Prop := lfp (fun (X4 : Int32 × Int32 → Prop) (t : Int32 × Int32) => wX3_places σ (fun r6 => (r6 ≤ t.2 → Q t.1) ∧ (¬ r6 ≤ t.2 → wX3_freeAt t.2 x1 σ (fun r15 => (r15 ≤ 0 → wX3_freePiecesOf_b24 X4 x1 t.1 t.2 σ Q) ∧ (¬ r15 ≤ 0 → wX3_freePiecesOf_b24 X4 x1 (t.1 + 1) t.2 σ Q))))) (x2, x3)
def wX3_freePiecesOf (x1 : Int32) (σ : SS) (Q : Int32 → Prop) : Prop := wX3_freePiecesOf_b4 x1 0 0 σ Q
set_option maxRecDepth 100000 in
set_option maxHeartbeats 4000000 in
theorem kX3_freePiecesOf_ok {l : Launch} {D : va_G} {cI cJ cZ : ClassId} {ad : Nat → Nat} {kv : Value} (x1 : Int32) (σ0 : SS) {Q : Int32 → Prop} (h : wX3_freePiecesOf x1 σ0 Q) : Ci l yX3_freePiecesOf (.code yX3_freePiecesOf cX3_freePiecesOf 4 (some .int) :: TT) { frames := 3, cells := 0, slots := 0, locals := 67 } D (tys cI cJ cZ) (wX cI cJ ad kv) [.ref (ad 0), .int x1] σ0 (fun r σ' => σ' = σ0 ∧ Q r) := by
  refine Ci.of (lv := [(0, .ref (ad 0)), (1, .int x1)]) (by decide) adX (Nat.le_of_ble_eq_true rfl) rfl ?_
  intro p e s m args below meth c A C
  have k24 : ∀ (x1 : Int32), ∀ (x2 : Int32), ∀ (x3 : Int32), ∀ (X4 : Int32 × Int32 → Prop), (∀ t : Int32 × Int32, X4 t → J p l e { frames := 3, cells := 0, slots := 0, locals := 67 } s m args below meth c D (wX cI cJ ad kv) A 4 (MQ below (va_Qi (fun r σ' => σ' = σ0 ∧ Q r) (WW D (tys cI cJ cZ) (wX cI cJ ad kv)) A) args s 0 0 A) σ0 4 [(0, .ref (ad 0)), (1, .int x1), (2, .int t.1), (3, .int t.2)] []) → wX3_freePiecesOf_b24 X4 x1 x2 x3 σ0 Q → J p l e { frames := 3, cells := 0, slots := 0, locals := 67 } s m args below meth c D (wX cI cJ ad kv) A 4 (MQ below (va_Qi (fun r σ' => σ' = σ0 ∧ Q r) (WW D (tys cI cJ cZ) (wX cI cJ ad kv)) A) args s 0 0 A) σ0 24 [(0, .ref (ad 0)), (1, .int x1), (2, .int x2), (3, .int x3)] [] := by
    intro x1 x2 x3 X4 hX4 h
    refine j_iload_n C dX3_freePiecesOf_24 3 rfl ?_
    refine j_iconst (v := 1) C dX3_freePiecesOf_25 (by decide) ?_
    refine j_iadd C dX3_freePiecesOf_26 ?_
    refine j_aload_n C dX3_freePiecesOf_27 0 rfl ?_
    refine j_iload_n C dX3_freePiecesOf_28 3 rfl ?_
    refine j_callpi 0 [.int x3] [.int (x3 + 1)] C (kX3_endOf_ok x3 σ0 h) (tt_V ml_X3_95 mV_X3_endOf) ok_X3_endOf ⟨by decide, by decide⟩ rfl (r_wX_0 (σ := σ0)) (Nat.le_of_ble_eq_true rfl) rfl dX3_freePiecesOf_29 (fun r29 h => ?_)
    refine j_mmax C ml_X3_72 mst_max mi_J9 mc_max ⟨by decide, (Nat.le_of_ble_eq_true rfl)⟩ dX3_freePiecesOf_32 ?_
    refine j_istore_n (lv' := [(3, .int (if (x3 + 1) < r29 then r29 else (x3 + 1))), (0, .ref (ad 0)), (1, .int x1), (2, .int x2)]) C dX3_freePiecesOf_35 (by decide) rfl ?_
    refine j_goto 4 C dX3_freePiecesOf_36 rfl ?_
    refine j_sub (lv' := [(0, .ref (ad 0)), (1, .int x1), (2, .int x2), (3, .int (if (x3 + 1) < r29 then r29 else (x3 + 1)))]) [1, 2, 3, 0] rfl ?_
    exact hX4 _ h
  have k4 : ∀ (x1 : Int32), ∀ (x2 : Int32), ∀ (x3 : Int32), wX3_freePiecesOf_b4 x1 x2 x3 σ0 Q → J p l e { frames := 3, cells := 0, slots := 0, locals := 67 } s m args below meth c D (wX cI cJ ad kv) A 4 (MQ below (va_Qi (fun r σ' => σ' = σ0 ∧ Q r) (WW D (tys cI cJ cZ) (wX cI cJ ad kv)) A) args s 0 0 A) σ0 4 [(0, .ref (ad 0)), (1, .int x1), (2, .int x2), (3, .int x3)] [] := by
    intro x1 x2 x3 h
    refine h (fun t => J p l e { frames := 3, cells := 0, slots := 0, locals := 67 } s m args below meth c D (wX cI cJ ad kv) A 4 (MQ below (va_Qi (fun r σ' => σ' = σ0 ∧ Q r) (WW D (tys cI cJ cZ) (wX cI cJ ad kv)) A) args s 0 0 A) σ0 4 [(0, .ref (ad 0)), (1, .int x1), (2, .int t.1), (3, .int t.2)] []) (fun t h => ?_)
    obtain ⟨x2, x3⟩ := t
    try dsimp only at h
    refine j_iload_n C dX3_freePiecesOf_4 3 rfl ?_
    refine j_aload_n C dX3_freePiecesOf_5 0 rfl ?_
    refine j_callpi 0 [] [.int x3] C (kX3_places_ok σ0 h) (tt_V ml_X3_68 mV_X3_places) ok_X3_places ⟨by decide, by decide⟩ rfl (r_wX_0 (σ := σ0)) (Nat.le_of_ble_eq_true rfl) rfl dX3_freePiecesOf_6 (fun r6 h => ?_)
    refine j_icmp_ge 39 C dX3_freePiecesOf_9 rfl h (fun h => ?_) (fun h => ?_)
    · refine j_iload_n C dX3_freePiecesOf_39 2 rfl ?_
      exact j_iret C dX3_freePiecesOf_40 ⟨rfl, h⟩
    · refine j_aload_n C dX3_freePiecesOf_12 0 rfl ?_
      refine j_iload_n C dX3_freePiecesOf_13 3 rfl ?_
      refine j_iload_n C dX3_freePiecesOf_14 1 rfl ?_
      refine j_callpi 0 [.int x3, .int x1] [] C (kX3_freeAt_ok x3 x1 σ0 h) (tt_V ml_X3_92 mV_X3_freeAt) ok_X3_freeAt ⟨by decide, by decide⟩ rfl (r_wX_0 (σ := σ0)) (Nat.le_of_ble_eq_true rfl) rfl dX3_freePiecesOf_15 (fun r15 h => ?_)
      refine j_if_le 24 C dX3_freePiecesOf_18 rfl h (fun h => ?_) (fun h => ?_)
      · refine j_sub (lv' := [(0, .ref (ad 0)), (1, .int x1), (2, .int x2), (3, .int x3)]) [0, 1, 2, 3] rfl ?_
        exact k24 _ _ _ _ (fun _ z => z) h
      · refine j_iinc (lv' := [(2, .int (x2 + 1)), (0, .ref (ad 0)), (1, .int x1), (3, .int x3)]) (x2 + 1) C dX3_freePiecesOf_21 2 rfl rfl (by decide) rfl ?_
        refine j_sub (lv' := [(0, .ref (ad 0)), (1, .int x1), (2, .int (x2 + 1)), (3, .int x3)]) [1, 2, 0, 3] rfl ?_
        exact k24 _ _ _ _ (fun _ z => z) h
  refine j_iconst (v := 0) C dX3_freePiecesOf_0 (by decide) ?_
  refine j_istore_n (lv' := [(2, .int 0), (0, .ref (ad 0)), (1, .int x1)]) C dX3_freePiecesOf_1 (by decide) rfl ?_
  refine j_iconst (v := 0) C dX3_freePiecesOf_2 (by decide) ?_
  refine j_istore_n (lv' := [(3, .int 0), (2, .int 0), (0, .ref (ad 0)), (1, .int x1)]) C dX3_freePiecesOf_3 (by decide) rfl ?_
  refine j_sub (lv' := [(0, .ref (ad 0)), (1, .int x1), (2, .int 0), (3, .int 0)]) [2, 3, 1, 0] rfl ?_
  exact k4 _ _ _ h
def wX3_vacate (x1 : Int32) (x2 : Int32) (σ : SS) (Q : SS → Prop) : Prop := wX3_setNumbers x1 x2 0 σ (fun σ4 => wX3_mark x1 x2 σ4 (fun σ10 => Q σ10))
set_option maxRecDepth 100000 in
set_option maxHeartbeats 4000000 in
theorem kX3_vacate_ok {l : Launch} {D : va_G} {cI cJ cZ : ClassId} {ad : Nat → Nat} {kv : Value} (x1 : Int32) (x2 : Int32) (σ0 : SS) {Q : SS → Prop} (h : wX3_vacate x1 x2 σ0 Q) : Cv l yX3_vacate (.code yX3_vacate cX3_vacate 3 none :: TT) { frames := 2, cells := 0, slots := 0, locals := 47 } D (tys cI cJ cZ) (wX cI cJ ad kv) [.ref (ad 0), .int x1, .int x2] σ0 Q := by
  refine Cv.of (lv := [(0, .ref (ad 0)), (1, .int x1), (2, .int x2)]) (by decide) adX (Nat.le_of_ble_eq_true rfl) rfl ?_
  intro p e s m args below meth c A C
  refine j_aload_n C dX3_vacate_0 0 rfl ?_
  refine j_iload_n C dX3_vacate_1 1 rfl ?_
  refine j_iload_n C dX3_vacate_2 2 rfl ?_
  refine j_lconst (v := 0) C dX3_vacate_3 (by decide) ?_
  refine j_callv 0 [.int x1, .int x2, .long 0] [] C (kX3_setNumbers_ok x1 x2 0 σ0 h) (tt_V ml_X3_98 mV_X3_setNumbers) ok_X3_setNumbers ⟨by decide, by decide⟩ rfl (r_wX_0 (σ := σ0)) (Nat.le_of_ble_eq_true rfl) rfl dX3_vacate_4 (fun σ4 h => ?_)
  refine j_aload_n C dX3_vacate_7 0 rfl ?_
  refine j_iload_n C dX3_vacate_8 1 rfl ?_
  refine j_iload_n C dX3_vacate_9 2 rfl ?_
  refine j_callv 0 [.int x1, .int x2] [] C (kX3_mark_ok x1 x2 σ4 h) (tt_V ml_X3_102 mV_X3_mark) ok_X3_mark ⟨by decide, by decide⟩ rfl (r_wX_0 (σ := σ4)) (Nat.le_of_ble_eq_true rfl) rfl dX3_vacate_10 (fun σ10 h => ?_)
  exact j_vret C dX3_vacate_13 h
def wX3_addZone (x1 : Int32) (x2 : Int64) (σ : SS) (Q : Int32 → SS → Prop) : Prop := vp_in (gI σ 1) 8 ∧ (vp_in (gI σ 1) 8 ∧ (∀ σ29 : SS, σ29 = sI (sB (sA σ 2 (gI σ 1).toNatClampNeg x1) 1 (gI σ 1).toNatClampNeg x2) 1 ((gI (sB (sA σ 2 (gI σ 1).toNatClampNeg x1) 1 (gI σ 1).toNatClampNeg x2) 1) + 1) → (Q (gI σ 1) σ29)))
set_option maxRecDepth 100000 in
set_option maxHeartbeats 4000000 in
theorem kX3_addZone_ok {l : Launch} {D : va_G} {cI cJ cZ : ClassId} {ad : Nat → Nat} {kv : Value} (x1 : Int32) (x2 : Int64) (σ0 : SS) {Q : Int32 → SS → Prop} (h : wX3_addZone x1 x2 σ0 Q) : Ci l yX3_addZone (.code yX3_addZone cX3_addZone 5 (some .int) :: TT) { frames := 0, cells := 0, slots := 0, locals := 0 } D (tys cI cJ cZ) (wX cI cJ ad kv) [.ref (ad 0), .int x1, .long x2] σ0 Q := by
  refine Ci.of (lv := [(0, .ref (ad 0)), (1, .int x1), (2, .long x2)]) (by decide) adX (Nat.le_of_ble_eq_true rfl) rfl ?_
  intro p e s m args below meth c A C
  refine j_aload_n C dX3_addZone_0 0 rfl ?_
  refine gf_X3_50 C dX3_addZone_1 ?_
  refine j_istore (lv' := [(4, .int (gI σ0 1)), (0, .ref (ad 0)), (1, .int x1), (2, .long x2)]) C dX3_addZone_4 (by decide) rfl ?_
  refine j_aload_n C dX3_addZone_6 1 rfl ?_
  refine gf_X3_22 C dX3_addZone_7 ?_
  refine j_iload C dX3_addZone_10 0 rfl ?_
  refine j_iload_n C dX3_addZone_12 2 rfl ?_
  refine as_wX_4 C h.1 dX3_addZone_13 ?_
  replace h := h.2
  refine j_aload_n C dX3_addZone_14 1 rfl ?_
  refine gf_X3_25 C dX3_addZone_15 ?_
  refine j_iload C dX3_addZone_18 0 rfl ?_
  refine j_lload_n C dX3_addZone_20 3 rfl ?_
  refine as_wX_5 C h.1 dX3_addZone_21 ?_
  replace h := h.2
  refine j_aload_n C dX3_addZone_22 1 rfl ?_
  refine j_dup C dX3_addZone_23 rfl ?_
  refine gf_X3_50 C dX3_addZone_24 ?_
  refine j_iconst (v := 1) C dX3_addZone_27 (by decide) ?_
  refine j_iadd C dX3_addZone_28 ?_
  refine pf_X3_50 C dX3_addZone_29 ?_
  obtain ⟨σ29, hs29⟩ : ∃ z, z = sI (sB (sA σ0 2 (gI σ0 1).toNatClampNeg x1) 1 (gI σ0 1).toNatClampNeg x2) 1 ((gI (sB (sA σ0 2 (gI σ0 1).toNatClampNeg x1) 1 (gI σ0 1).toNatClampNeg x2) 1) + 1) := ⟨_, rfl⟩
  rw [← hs29]
  replace h := h σ29 hs29
  refine j_iload C dX3_addZone_32 0 rfl ?_
  exact j_iret C dX3_addZone_34 h
def wX3_classOf (x1 : Int32) (σ : SS) (Q : Int32 → Prop) : Prop := wX3_hasZone x1 σ (fun r2 => (r2 = 0 → Q 1) ∧ (¬ r2 = 0 → vp_in x1 8 ∧ (Q ((if (if 32 < (gB σ 1 x1.toNatClampNeg) then 32 else (gB σ 1 x1.toNatClampNeg)) < 1 then 1 else (if 32 < (gB σ 1 x1.toNatClampNeg) then 32 else (gB σ 1 x1.toNatClampNeg))).toInt32))))
set_option maxRecDepth 100000 in
set_option maxHeartbeats 4000000 in
theorem kX3_classOf_ok {l : Launch} {D : va_G} {cI cJ cZ : ClassId} {ad : Nat → Nat} {kv : Value} (x1 : Int32) (σ0 : SS) {Q : Int32 → Prop} (h : wX3_classOf x1 σ0 Q) : Ci l yX3_classOf (.code yX3_classOf cX3_classOf 2 (some .int) :: TT) { frames := 1, cells := 0, slots := 0, locals := 24 } D (tys cI cJ cZ) (wX cI cJ ad kv) [.ref (ad 0), .int x1] σ0 (fun r σ' => σ' = σ0 ∧ Q r) := by
  refine Ci.of (lv := [(0, .ref (ad 0)), (1, .int x1)]) (by decide) adX (Nat.le_of_ble_eq_true rfl) rfl ?_
  intro p e s m args below meth c A C
  refine j_aload_n C dX3_classOf_0 0 rfl ?_
  refine j_iload_n C dX3_classOf_1 1 rfl ?_
  refine j_callpi 0 [.int x1] [] C (kX3_hasZone_ok x1 σ0 h) (tt_V ml_X3_106 mV_X3_hasZone) ok_X3_hasZone ⟨by decide, by decide⟩ rfl (r_wX_0 (σ := σ0)) (Nat.le_of_ble_eq_true rfl) rfl dX3_classOf_2 (fun r2 h => ?_)
  refine j_if_eq 28 C dX3_classOf_5 rfl h (fun h => ?_) (fun h => ?_)
  · refine j_iconst (v := 1) C dX3_classOf_28 (by decide) ?_
    exact j_iret C dX3_classOf_29 ⟨rfl, h⟩
  · refine j_lconst (v := 1) C dX3_classOf_8 (by decide) ?_
    refine j_aload_n C dX3_classOf_9 0 rfl ?_
    refine gf_X3_25 C dX3_classOf_10 ?_
    refine j_iload_n C dX3_classOf_13 1 rfl ?_
    refine al_wX_5 C h.1 dX3_classOf_14 ?_
    replace h := h.2
    refine j_ldc2 C dX3_classOf_15 mk_X3_110 ?_
    refine j_mminl C ml_X3_112 mst_minl mi_J9 mc_minl ⟨by decide, (Nat.le_of_ble_eq_true rfl)⟩ dX3_classOf_18 ?_
    refine j_mmaxl C ml_X3_116 mst_maxl mi_J9 mc_maxl ⟨by decide, (Nat.le_of_ble_eq_true rfl)⟩ dX3_classOf_21 ?_
    refine j_l2i C dX3_classOf_24 ?_
    refine j_goto 29 C dX3_classOf_25 rfl ?_
    exact j_iret C dX3_classOf_29 ⟨rfl, h⟩
def wX3_find (x1 : Int32) (σ : SS) (Q : Int32 → Prop) : Prop := (0 ≤ x1 → vp_in (x1 - x1 / 100 * 100) 100 ∧ (((x1 / 100) < (gA σ 3 (x1 - x1 / 100 * 100).toNatClampNeg) → vp_in (x1 - x1 / 100 * 100) 100 ∧ (((gA σ 4 (x1 - x1 / 100 * 100).toNatClampNeg) < 0 → Q ((-5))) ∧ (¬ (gA σ 4 (x1 - x1 / 100 * 100).toNatClampNeg) < 0 → vp_in (x1 - x1 / 100 * 100) 100 ∧ ((((gA σ 3 (x1 - x1 / 100 * 100).toNatClampNeg) - 1) = (x1 / 100) → Q (x1 - x1 / 100 * 100)) ∧ (¬ ((gA σ 3 (x1 - x1 / 100 * 100).toNatClampNeg) - 1) = (x1 / 100) → Q ((-5))))))) ∧ (¬ (x1 / 100) < (gA σ 3 (x1 - x1 / 100 * 100).toNatClampNeg) → Q ((-4))))) ∧ (¬ 0 ≤ x1 → Q ((-4)))
set_option maxRecDepth 100000 in
set_option maxHeartbeats 4000000 in
theorem kX3_find_ok {l : Launch} {D : va_G} {cI cJ cZ : ClassId} {ad : Nat → Nat} {kv : Value} (x1 : Int32) (σ0 : SS) {Q : Int32 → Prop} (h : wX3_find x1 σ0 Q) : Ci l yX3_find (.code yX3_find cX3_find 4 (some .int) :: TT) { frames := 0, cells := 0, slots := 0, locals := 0 } D (tys cI cJ cZ) (wX cI cJ ad kv) [.ref (ad 0), .int x1] σ0 (fun r σ' => σ' = σ0 ∧ Q r) := by
  refine Ci.of (lv := [(0, .ref (ad 0)), (1, .int x1)]) (by decide) adX (Nat.le_of_ble_eq_true rfl) rfl ?_
  intro p e s m args below meth c A C
  refine j_iload_n C dX3_find_0 1 rfl ?_
  refine j_if_ge 7 C dX3_find_1 rfl h (fun h => ?_) (fun h => ?_)
  · refine j_iload_n C dX3_find_7 1 rfl ?_
    refine j_bipush (v := 100) C dX3_find_8 (by decide) ?_
    refine j_irem C dX3_find_10 (by decide) ?_
    refine j_istore_n (lv' := [(2, .int (x1 - x1 / 100 * 100)), (0, .ref (ad 0)), (1, .int x1)]) C dX3_find_11 (by decide) rfl ?_
    refine j_iload_n C dX3_find_12 2 rfl ?_
    refine j_bipush (v := 100) C dX3_find_13 (by decide) ?_
    refine j_idiv C dX3_find_15 (by decide) ?_
    refine j_istore_n (lv' := [(3, .int (x1 / 100)), (2, .int (x1 - x1 / 100 * 100)), (0, .ref (ad 0)), (1, .int x1)]) C dX3_find_16 (by decide) rfl ?_
    refine j_aload_n C dX3_find_17 2 rfl ?_
    refine gf_X3_28 C dX3_find_18 ?_
    refine j_iload_n C dX3_find_21 1 rfl ?_
    refine al_wX_6 C h.1 dX3_find_22 ?_
    replace h := h.2
    refine j_iload_n C dX3_find_23 0 rfl ?_
    refine j_icmp_gt 30 C dX3_find_24 rfl h (fun h => ?_) (fun h => ?_)
    · refine j_aload_n C dX3_find_30 2 rfl ?_
      refine gf_X3_31 C dX3_find_31 ?_
      refine j_iload_n C dX3_find_34 1 rfl ?_
      refine al_wX_7 C h.1 dX3_find_35 ?_
      replace h := h.2
      refine j_if_lt 51 C dX3_find_36 rfl h (fun h => ?_) (fun h => ?_)
      · refine j_bipush (v := (-5)) C dX3_find_51 (by decide) ?_
        refine j_goto 57 C dX3_find_53 rfl ?_
        exact j_iret C dX3_find_57 ⟨rfl, h⟩
      · refine j_aload_n C dX3_find_39 2 rfl ?_
        refine gf_X3_28 C dX3_find_40 ?_
        refine j_iload_n C dX3_find_43 1 rfl ?_
        refine al_wX_6 C h.1 dX3_find_44 ?_
        replace h := h.2
        refine j_iconst (v := 1) C dX3_find_45 (by decide) ?_
        refine j_isub C dX3_find_46 ?_
        refine j_iload_n C dX3_find_47 0 rfl ?_
        refine j_icmp_eq 56 C dX3_find_48 rfl h (fun h => ?_) (fun h => ?_)
        · refine j_iload_n C dX3_find_56 1 rfl ?_
          exact j_iret C dX3_find_57 ⟨rfl, h⟩
        · refine j_bipush (v := (-5)) C dX3_find_51 (by decide) ?_
          refine j_goto 57 C dX3_find_53 rfl ?_
          exact j_iret C dX3_find_57 ⟨rfl, h⟩
    · refine j_bipush (v := (-4)) C dX3_find_27 (by decide) ?_
      exact j_iret C dX3_find_29 ⟨rfl, h⟩
  · refine j_bipush (v := (-4)) C dX3_find_4 (by decide) ?_
    exact j_iret C dX3_find_6 ⟨rfl, h⟩
def wX3_lowestUnused_b2 (x1 : Int32) (σ : SS) (Q : Int32 → Prop) : Prop := lfp (fun (X2 : Int32 → Prop) (t : Int32) => (100 ≤ t → Q ((-1))) ∧ (¬ 100 ≤ t → vp_in t 100 ∧ ((0 ≤ (gA σ 4 t.toNatClampNeg) → X2 ((t + 1))) ∧ (¬ 0 ≤ (gA σ 4 t.toNatClampNeg) → Q t)))) x1
def wX3_lowestUnused (σ : SS) (Q : Int32 → Prop) : Prop := wX3_lowestUnused_b2 0 σ Q
set_option maxRecDepth 100000 in
set_option maxHeartbeats 4000000 in
theorem kX3_lowestUnused_ok {l : Launch} {D : va_G} {cI cJ cZ : ClassId} {ad : Nat → Nat} {kv : Value} (σ0 : SS) {Q : Int32 → Prop} (h : wX3_lowestUnused σ0 Q) : Ci l yX3_lowestUnused (.code yX3_lowestUnused cX3_lowestUnused 2 (some .int) :: TT) { frames := 0, cells := 0, slots := 0, locals := 0 } D (tys cI cJ cZ) (wX cI cJ ad kv) [.ref (ad 0)] σ0 (fun r σ' => σ' = σ0 ∧ Q r) := by
  refine Ci.of (lv := [(0, .ref (ad 0))]) (by decide) adX (Nat.le_of_ble_eq_true rfl) rfl ?_
  intro p e s m args below meth c A C
  have k2 : ∀ (x1 : Int32), wX3_lowestUnused_b2 x1 σ0 Q → J p l e { frames := 0, cells := 0, slots := 0, locals := 0 } s m args below meth c D (wX cI cJ ad kv) A 2 (MQ below (va_Qi (fun r σ' => σ' = σ0 ∧ Q r) (WW D (tys cI cJ cZ) (wX cI cJ ad kv)) A) args s 0 0 A) σ0 2 [(0, .ref (ad 0)), (1, .int x1)] [] := by
    intro x1 h
    refine h (fun t => J p l e { frames := 0, cells := 0, slots := 0, locals := 0 } s m args below meth c D (wX cI cJ ad kv) A 2 (MQ below (va_Qi (fun r σ' => σ' = σ0 ∧ Q r) (WW D (tys cI cJ cZ) (wX cI cJ ad kv)) A) args s 0 0 A) σ0 2 [(0, .ref (ad 0)), (1, .int t)] []) (fun t h => ?_)
    obtain ⟨x1, rfl⟩ : ∃ z, z = t := ⟨_, rfl⟩
    try dsimp only at h
    refine j_iload_n C dX3_lowestUnused_2 1 rfl ?_
    refine j_bipush (v := 100) C dX3_lowestUnused_3 (by decide) ?_
    refine j_icmp_ge 25 C dX3_lowestUnused_5 rfl h (fun h => ?_) (fun h => ?_)
    · refine j_iconst (v := (-1)) C dX3_lowestUnused_25 (by decide) ?_
      exact j_iret C dX3_lowestUnused_26 ⟨rfl, h⟩
    · refine j_aload_n C dX3_lowestUnused_8 0 rfl ?_
      refine gf_X3_31 C dX3_lowestUnused_9 ?_
      refine j_iload_n C dX3_lowestUnused_12 1 rfl ?_
      refine al_wX_7 C h.1 dX3_lowestUnused_13 ?_
      replace h := h.2
      refine j_if_ge 19 C dX3_lowestUnused_14 rfl h (fun h => ?_) (fun h => ?_)
      · refine j_iinc (lv' := [(1, .int (x1 + 1)), (0, .ref (ad 0))]) (x1 + 1) C dX3_lowestUnused_19 1 rfl rfl (by decide) rfl ?_
        refine j_goto 2 C dX3_lowestUnused_22 rfl ?_
        refine j_sub (lv' := [(0, .ref (ad 0)), (1, .int (x1 + 1))]) [1, 0] rfl ?_
        exact h
      · refine j_iload_n C dX3_lowestUnused_17 1 rfl ?_
        exact j_iret C dX3_lowestUnused_18 ⟨rfl, h⟩
  refine j_iconst (v := 0) C dX3_lowestUnused_0 (by decide) ?_
  refine j_istore_n (lv' := [(1, .int 0), (0, .ref (ad 0))]) C dX3_lowestUnused_1 (by decide) rfl ?_
  refine j_sub (lv' := [(0, .ref (ad 0)), (1, .int 0)]) [1, 0] rfl ?_
  exact k2 _ h
def wX3_blocks_b22 (X4 : Int32 × Int32 → Prop) (x1 : Int32) (x2 : Int32) (σ : SS) (Q : Int32 → Prop) : Prop := X4 (x1, (x2 + 1))
def wX3_blocks_b4 (x1 : Int32) (x2 : Int32) (σ : SS) (Q : Int32 → Prop) : Prop := lfp (fun (X4 : Int32 × Int32 → Prop) (t : Int32 × Int32) => (100 ≤ t.2 → Q t.1) ∧ (¬ 100 ≤ t.2 → vp_in t.2 100 ∧ (((gA σ 4 t.2.toNatClampNeg) < 0 → wX3_blocks_b22 X4 t.1 t.2 σ Q) ∧ (¬ (gA σ 4 t.2.toNatClampNeg) < 0 → wX3_blocks_b22 X4 (t.1 + 1) t.2 σ Q)))) (x1, x2)
def wX3_blocks (σ : SS) (Q : Int32 → Prop) : Prop := wX3_blocks_b4 0 0 σ Q
set_option maxRecDepth 100000 in
set_option maxHeartbeats 4000000 in
theorem kX3_blocks_ok {l : Launch} {D : va_G} {cI cJ cZ : ClassId} {ad : Nat → Nat} {kv : Value} (σ0 : SS) {Q : Int32 → Prop} (h : wX3_blocks σ0 Q) : Ci l yX3_blocks (.code yX3_blocks cX3_blocks 3 (some .int) :: TT) { frames := 0, cells := 0, slots := 0, locals := 0 } D (tys cI cJ cZ) (wX cI cJ ad kv) [.ref (ad 0)] σ0 (fun r σ' => σ' = σ0 ∧ Q r) := by
  refine Ci.of (lv := [(0, .ref (ad 0))]) (by decide) adX (Nat.le_of_ble_eq_true rfl) rfl ?_
  intro p e s m args below meth c A C
  have k22 : ∀ (x1 : Int32), ∀ (x2 : Int32), ∀ (X4 : Int32 × Int32 → Prop), (∀ t : Int32 × Int32, X4 t → J p l e { frames := 0, cells := 0, slots := 0, locals := 0 } s m args below meth c D (wX cI cJ ad kv) A 3 (MQ below (va_Qi (fun r σ' => σ' = σ0 ∧ Q r) (WW D (tys cI cJ cZ) (wX cI cJ ad kv)) A) args s 0 0 A) σ0 4 [(0, .ref (ad 0)), (1, .int t.1), (2, .int t.2)] []) → wX3_blocks_b22 X4 x1 x2 σ0 Q → J p l e { frames := 0, cells := 0, slots := 0, locals := 0 } s m args below meth c D (wX cI cJ ad kv) A 3 (MQ below (va_Qi (fun r σ' => σ' = σ0 ∧ Q r) (WW D (tys cI cJ cZ) (wX cI cJ ad kv)) A) args s 0 0 A) σ0 22 [(0, .ref (ad 0)), (1, .int x1), (2, .int x2)] [] := by
    intro x1 x2 X4 hX4 h
    refine j_iinc (lv' := [(2, .int (x2 + 1)), (0, .ref (ad 0)), (1, .int x1)]) (x2 + 1) C dX3_blocks_22 2 rfl rfl (by decide) rfl ?_
    refine j_goto 4 C dX3_blocks_25 rfl ?_
    refine j_sub (lv' := [(0, .ref (ad 0)), (1, .int x1), (2, .int (x2 + 1))]) [1, 2, 0] rfl ?_
    exact hX4 _ h
  have k4 : ∀ (x1 : Int32), ∀ (x2 : Int32), wX3_blocks_b4 x1 x2 σ0 Q → J p l e { frames := 0, cells := 0, slots := 0, locals := 0 } s m args below meth c D (wX cI cJ ad kv) A 3 (MQ below (va_Qi (fun r σ' => σ' = σ0 ∧ Q r) (WW D (tys cI cJ cZ) (wX cI cJ ad kv)) A) args s 0 0 A) σ0 4 [(0, .ref (ad 0)), (1, .int x1), (2, .int x2)] [] := by
    intro x1 x2 h
    refine h (fun t => J p l e { frames := 0, cells := 0, slots := 0, locals := 0 } s m args below meth c D (wX cI cJ ad kv) A 3 (MQ below (va_Qi (fun r σ' => σ' = σ0 ∧ Q r) (WW D (tys cI cJ cZ) (wX cI cJ ad kv)) A) args s 0 0 A) σ0 4 [(0, .ref (ad 0)), (1, .int t.1), (2, .int t.2)] []) (fun t h => ?_)
    obtain ⟨x1, x2⟩ := t
    try dsimp only at h
    refine j_iload_n C dX3_blocks_4 2 rfl ?_
    refine j_bipush (v := 100) C dX3_blocks_5 (by decide) ?_
    refine j_icmp_ge 28 C dX3_blocks_7 rfl h (fun h => ?_) (fun h => ?_)
    · refine j_iload_n C dX3_blocks_28 1 rfl ?_
      exact j_iret C dX3_blocks_29 ⟨rfl, h⟩
    · refine j_aload_n C dX3_blocks_10 0 rfl ?_
      refine gf_X3_31 C dX3_blocks_11 ?_
      refine j_iload_n C dX3_blocks_14 2 rfl ?_
      refine al_wX_7 C h.1 dX3_blocks_15 ?_
      replace h := h.2
      refine j_if_lt 22 C dX3_blocks_16 rfl h (fun h => ?_) (fun h => ?_)
      · refine j_sub (lv' := [(0, .ref (ad 0)), (1, .int x1), (2, .int x2)]) [0, 1, 2] rfl ?_
        exact k22 _ _ _ (fun _ z => z) h
      · refine j_iinc (lv' := [(1, .int (x1 + 1)), (0, .ref (ad 0)), (2, .int x2)]) (x1 + 1) C dX3_blocks_19 1 rfl rfl (by decide) rfl ?_
        refine j_sub (lv' := [(0, .ref (ad 0)), (1, .int (x1 + 1)), (2, .int x2)]) [1, 0, 2] rfl ?_
        exact k22 _ _ _ (fun _ z => z) h
  refine j_iconst (v := 0) C dX3_blocks_0 (by decide) ?_
  refine j_istore_n (lv' := [(1, .int 0), (0, .ref (ad 0))]) C dX3_blocks_1 (by decide) rfl ?_
  refine j_iconst (v := 0) C dX3_blocks_2 (by decide) ?_
  refine j_istore_n (lv' := [(2, .int 0), (1, .int 0), (0, .ref (ad 0))]) C dX3_blocks_3 (by decide) rfl ?_
  refine j_sub (lv' := [(0, .ref (ad 0)), (1, .int 0), (2, .int 0)]) [2, 1, 0] rfl ?_
  exact k4 _ _ h
def wX3_blocksOf_b23 (X4 : Int32 × Int32 → Prop) (x1 : Int32) (x2 : Int32) (x3 : Int32) (σ : SS) (Q : Int32 → Prop) : Prop := X4 (x2, (x3 + 1))
def wX3_blocksOf_b4 (x1 : Int32) (x2 : Int32) (x3 : Int32) (σ : SS) (Q : Int32 → Prop) : Prop := lfp (fun (X4 : Int32 × Int32 → Prop) (t : Int32 × Int32) => (100 ≤ t.2 → Q t.1) ∧ (¬ 100 ≤ t.2 → vp_in t.2 100 ∧ ((¬ (gA σ 4 t.2.toNatClampNeg) = x1 → wX3_blocksOf_b23 X4 x1 t.1 t.2 σ Q) ∧ ((gA σ 4 t.2.toNatClampNeg) = x1 → wX3_blocksOf_b23 X4 x1 (t.1 + 1) t.2 σ Q)))) (x2, x3)
def wX3_blocksOf (x1 : Int32) (σ : SS) (Q : Int32 → Prop) : Prop := wX3_blocksOf_b4 x1 0 0 σ Q
set_option maxRecDepth 100000 in
set_option maxHeartbeats 4000000 in
theorem kX3_blocksOf_ok {l : Launch} {D : va_G} {cI cJ cZ : ClassId} {ad : Nat → Nat} {kv : Value} (x1 : Int32) (σ0 : SS) {Q : Int32 → Prop} (h : wX3_blocksOf x1 σ0 Q) : Ci l yX3_blocksOf (.code yX3_blocksOf cX3_blocksOf 4 (some .int) :: TT) { frames := 0, cells := 0, slots := 0, locals := 0 } D (tys cI cJ cZ) (wX cI cJ ad kv) [.ref (ad 0), .int x1] σ0 (fun r σ' => σ' = σ0 ∧ Q r) := by
  refine Ci.of (lv := [(0, .ref (ad 0)), (1, .int x1)]) (by decide) adX (Nat.le_of_ble_eq_true rfl) rfl ?_
  intro p e s m args below meth c A C
  have k23 : ∀ (x1 : Int32), ∀ (x2 : Int32), ∀ (x3 : Int32), ∀ (X4 : Int32 × Int32 → Prop), (∀ t : Int32 × Int32, X4 t → J p l e { frames := 0, cells := 0, slots := 0, locals := 0 } s m args below meth c D (wX cI cJ ad kv) A 4 (MQ below (va_Qi (fun r σ' => σ' = σ0 ∧ Q r) (WW D (tys cI cJ cZ) (wX cI cJ ad kv)) A) args s 0 0 A) σ0 4 [(0, .ref (ad 0)), (1, .int x1), (2, .int t.1), (3, .int t.2)] []) → wX3_blocksOf_b23 X4 x1 x2 x3 σ0 Q → J p l e { frames := 0, cells := 0, slots := 0, locals := 0 } s m args below meth c D (wX cI cJ ad kv) A 4 (MQ below (va_Qi (fun r σ' => σ' = σ0 ∧ Q r) (WW D (tys cI cJ cZ) (wX cI cJ ad kv)) A) args s 0 0 A) σ0 23 [(0, .ref (ad 0)), (1, .int x1), (2, .int x2), (3, .int x3)] [] := by
    intro x1 x2 x3 X4 hX4 h
    refine j_iinc (lv' := [(3, .int (x3 + 1)), (0, .ref (ad 0)), (1, .int x1), (2, .int x2)]) (x3 + 1) C dX3_blocksOf_23 3 rfl rfl (by decide) rfl ?_
    refine j_goto 4 C dX3_blocksOf_26 rfl ?_
    refine j_sub (lv' := [(0, .ref (ad 0)), (1, .int x1), (2, .int x2), (3, .int (x3 + 1))]) [1, 2, 3, 0] rfl ?_
    exact hX4 _ h
  have k4 : ∀ (x1 : Int32), ∀ (x2 : Int32), ∀ (x3 : Int32), wX3_blocksOf_b4 x1 x2 x3 σ0 Q → J p l e { frames := 0, cells := 0, slots := 0, locals := 0 } s m args below meth c D (wX cI cJ ad kv) A 4 (MQ below (va_Qi (fun r σ' => σ' = σ0 ∧ Q r) (WW D (tys cI cJ cZ) (wX cI cJ ad kv)) A) args s 0 0 A) σ0 4 [(0, .ref (ad 0)), (1, .int x1), (2, .int x2), (3, .int x3)] [] := by
    intro x1 x2 x3 h
    refine h (fun t => J p l e { frames := 0, cells := 0, slots := 0, locals := 0 } s m args below meth c D (wX cI cJ ad kv) A 4 (MQ below (va_Qi (fun r σ' => σ' = σ0 ∧ Q r) (WW D (tys cI cJ cZ) (wX cI cJ ad kv)) A) args s 0 0 A) σ0 4 [(0, .ref (ad 0)), (1, .int x1), (2, .int t.1), (3, .int t.2)] []) (fun t h => ?_)
    obtain ⟨x2, x3⟩ := t
    try dsimp only at h
    refine j_iload_n C dX3_blocksOf_4 3 rfl ?_
    refine j_bipush (v := 100) C dX3_blocksOf_5 (by decide) ?_
    refine j_icmp_ge 29 C dX3_blocksOf_7 rfl h (fun h => ?_) (fun h => ?_)
    · refine j_iload_n C dX3_blocksOf_29 2 rfl ?_
      exact j_iret C dX3_blocksOf_30 ⟨rfl, h⟩
    · refine j_aload_n C dX3_blocksOf_10 0 rfl ?_
      refine gf_X3_31 C dX3_blocksOf_11 ?_
      refine j_iload_n C dX3_blocksOf_14 3 rfl ?_
      refine al_wX_7 C h.1 dX3_blocksOf_15 ?_
      replace h := h.2
      refine j_iload_n C dX3_blocksOf_16 1 rfl ?_
      refine j_icmp_ne 23 C dX3_blocksOf_17 rfl h (fun h => ?_) (fun h => ?_)
      · refine j_sub (lv' := [(0, .ref (ad 0)), (1, .int x1), (2, .int x2), (3, .int x3)]) [0, 1, 2, 3] rfl ?_
        exact k23 _ _ _ _ (fun _ z => z) h
      · refine j_iinc (lv' := [(2, .int (x2 + 1)), (0, .ref (ad 0)), (1, .int x1), (3, .int x3)]) (x2 + 1) C dX3_blocksOf_20 2 rfl rfl (by decide) rfl ?_
        refine j_sub (lv' := [(0, .ref (ad 0)), (1, .int x1), (2, .int (x2 + 1)), (3, .int x3)]) [1, 2, 0, 3] rfl ?_
        exact k23 _ _ _ _ (fun _ z => z) h
  refine j_iconst (v := 0) C dX3_blocksOf_0 (by decide) ?_
  refine j_istore_n (lv' := [(2, .int 0), (0, .ref (ad 0)), (1, .int x1)]) C dX3_blocksOf_1 (by decide) rfl ?_
  refine j_iconst (v := 0) C dX3_blocksOf_2 (by decide) ?_
  refine j_istore_n (lv' := [(3, .int 0), (2, .int 0), (0, .ref (ad 0)), (1, .int x1)]) C dX3_blocksOf_3 (by decide) rfl ?_
  refine j_sub (lv' := [(0, .ref (ad 0)), (1, .int x1), (2, .int 0), (3, .int 0)]) [2, 3, 1, 0] rfl ?_
  exact k4 _ _ _ h
def wX3_wordOf (x1 : Int32) (σ : SS) (Q : Int64 → Prop) : Prop := vp_in x1 100 ∧ (wX3_hasZone (gA σ 4 x1.toNatClampNeg) σ (fun r7 => (r7 = 0 → Q 0) ∧ (¬ r7 = 0 → vp_in x1 100 ∧ (vp_in (gA σ 4 x1.toNatClampNeg) 8 ∧ (Q (gB σ 1 (gA σ 4 x1.toNatClampNeg).toNatClampNeg))))))
set_option maxRecDepth 100000 in
set_option maxHeartbeats 4000000 in
theorem kX3_wordOf_ok {l : Launch} {D : va_G} {cI cJ cZ : ClassId} {ad : Nat → Nat} {kv : Value} (x1 : Int32) (σ0 : SS) {Q : Int64 → Prop} (h : wX3_wordOf x1 σ0 Q) : Cl l yX3_wordOf (.code yX3_wordOf cX3_wordOf 2 (some .long) :: TT) { frames := 1, cells := 0, slots := 0, locals := 21 } D (tys cI cJ cZ) (wX cI cJ ad kv) [.ref (ad 0), .int x1] σ0 (fun r σ' => σ' = σ0 ∧ Q r) := by
  refine Cl.of (lv := [(0, .ref (ad 0)), (1, .int x1)]) (by decide) adX (Nat.le_of_ble_eq_true rfl) rfl ?_
  intro p e s m args below meth c A C
  refine j_aload_n C dX3_wordOf_0 0 rfl ?_
  refine j_aload_n C dX3_wordOf_1 0 rfl ?_
  refine gf_X3_31 C dX3_wordOf_2 ?_
  refine j_iload_n C dX3_wordOf_5 1 rfl ?_
  refine al_wX_7 C h.1 dX3_wordOf_6 ?_
  replace h := h.2
  refine j_callpi 0 [.int (gA σ0 4 x1.toNatClampNeg)] [] C (kX3_hasZone_ok (gA σ0 4 x1.toNatClampNeg) σ0 h) (tt_V ml_X3_106 mV_X3_hasZone) ok_X3_hasZone ⟨by decide, by decide⟩ rfl (r_wX_0 (σ := σ0)) (Nat.le_of_ble_eq_true rfl) rfl dX3_wordOf_7 (fun r7 h => ?_)
  refine j_if_eq 27 C dX3_wordOf_10 rfl h (fun h => ?_) (fun h => ?_)
  · refine j_lconst (v := 0) C dX3_wordOf_27 (by decide) ?_
    exact j_lret C dX3_wordOf_28 ⟨rfl, h⟩
  · refine j_aload_n C dX3_wordOf_13 0 rfl ?_
    refine gf_X3_25 C dX3_wordOf_14 ?_
    refine j_aload_n C dX3_wordOf_17 0 rfl ?_
    refine gf_X3_31 C dX3_wordOf_18 ?_
    refine j_iload_n C dX3_wordOf_21 1 rfl ?_
    refine al_wX_7 C h.1 dX3_wordOf_22 ?_
    replace h := h.2
    refine al_wX_5 C h.1 dX3_wordOf_23 ?_
    replace h := h.2
    refine j_goto 28 C dX3_wordOf_24 rfl ?_
    exact j_lret C dX3_wordOf_28 ⟨rfl, h⟩
def wX3_firstWord (x1 : Int32) (σ : SS) (Q : Int32 → Prop) : Prop := vp_in x1 100 ∧ (Q ((gA σ 5 x1.toNatClampNeg) + 1))
set_option maxRecDepth 100000 in
set_option maxHeartbeats 4000000 in
theorem kX3_firstWord_ok {l : Launch} {D : va_G} {cI cJ cZ : ClassId} {ad : Nat → Nat} {kv : Value} (x1 : Int32) (σ0 : SS) {Q : Int32 → Prop} (h : wX3_firstWord x1 σ0 Q) : Ci l yX3_firstWord (.code yX3_firstWord cX3_firstWord 2 (some .int) :: TT) { frames := 0, cells := 0, slots := 0, locals := 0 } D (tys cI cJ cZ) (wX cI cJ ad kv) [.ref (ad 0), .int x1] σ0 (fun r σ' => σ' = σ0 ∧ Q r) := by
  refine Ci.of (lv := [(0, .ref (ad 0)), (1, .int x1)]) (by decide) adX (Nat.le_of_ble_eq_true rfl) rfl ?_
  intro p e s m args below meth c A C
  refine j_aload_n C dX3_firstWord_0 0 rfl ?_
  refine gf_X3_34 C dX3_firstWord_1 ?_
  refine j_iload_n C dX3_firstWord_4 1 rfl ?_
  refine al_wX_8 C h.1 dX3_firstWord_5 ?_
  replace h := h.2
  refine j_iconst (v := 1) C dX3_firstWord_6 (by decide) ?_
  refine j_iadd C dX3_firstWord_7 ?_
  exact j_iret C dX3_firstWord_8 ⟨rfl, h⟩
def wX3_lastWord (x1 : Int32) (σ : SS) (Q : Int32 → Prop) : Prop := vp_in x1 100 ∧ (vp_in x1 100 ∧ (Q (((gA σ 5 x1.toNatClampNeg) + (gA σ 6 x1.toNatClampNeg)) - 1)))
set_option maxRecDepth 100000 in
set_option maxHeartbeats 4000000 in
theorem kX3_lastWord_ok {l : Launch} {D : va_G} {cI cJ cZ : ClassId} {ad : Nat → Nat} {kv : Value} (x1 : Int32) (σ0 : SS) {Q : Int32 → Prop} (h : wX3_lastWord x1 σ0 Q) : Ci l yX3_lastWord (.code yX3_lastWord cX3_lastWord 2 (some .int) :: TT) { frames := 0, cells := 0, slots := 0, locals := 0 } D (tys cI cJ cZ) (wX cI cJ ad kv) [.ref (ad 0), .int x1] σ0 (fun r σ' => σ' = σ0 ∧ Q r) := by
  refine Ci.of (lv := [(0, .ref (ad 0)), (1, .int x1)]) (by decide) adX (Nat.le_of_ble_eq_true rfl) rfl ?_
  intro p e s m args below meth c A C
  refine j_aload_n C dX3_lastWord_0 0 rfl ?_
  refine gf_X3_34 C dX3_lastWord_1 ?_
  refine j_iload_n C dX3_lastWord_4 1 rfl ?_
  refine al_wX_8 C h.1 dX3_lastWord_5 ?_
  replace h := h.2
  refine j_aload_n C dX3_lastWord_6 0 rfl ?_
  refine gf_X3_37 C dX3_lastWord_7 ?_
  refine j_iload_n C dX3_lastWord_10 1 rfl ?_
  refine al_wX_9 C h.1 dX3_lastWord_11 ?_
  replace h := h.2
  refine j_iadd C dX3_lastWord_12 ?_
  refine j_iconst (v := 1) C dX3_lastWord_13 (by decide) ?_
  refine j_isub C dX3_lastWord_14 ?_
  exact j_iret C dX3_lastWord_15 ⟨rfl, h⟩
def wX3_setWords (x1 : Int32) (x2 : Int64) (σ : SS) (Q : SS → Prop) : Prop := wX3_isGuarded x1 σ (fun r2 => (r2 = 0 → Q σ) ∧ (¬ r2 = 0 → wX3_firstWord x1 σ (fun r11 => wX3_setNumber r11 x2 σ (fun σ15 => wX3_lastWord x1 σ15 (fun r21 => wX3_setNumber r21 x2 σ15 (fun σ25 => Q σ25))))))
set_option maxRecDepth 100000 in
set_option maxHeartbeats 4000000 in
theorem kX3_setWords_ok {l : Launch} {D : va_G} {cI cJ cZ : ClassId} {ad : Nat → Nat} {kv : Value} (x1 : Int32) (x2 : Int64) (σ0 : SS) {Q : SS → Prop} (h : wX3_setWords x1 x2 σ0 Q) : Cv l yX3_setWords (.code yX3_setWords cX3_setWords 4 none :: TT) { frames := 3, cells := 0, slots := 0, locals := 63 } D (tys cI cJ cZ) (wX cI cJ ad kv) [.ref (ad 0), .int x1, .long x2] σ0 Q := by
  refine Cv.of (lv := [(0, .ref (ad 0)), (1, .int x1), (2, .long x2)]) (by decide) adX (Nat.le_of_ble_eq_true rfl) rfl ?_
  intro p e s m args below meth c A C
  refine j_aload_n C dX3_setWords_0 0 rfl ?_
  refine j_iload_n C dX3_setWords_1 1 rfl ?_
  refine j_callpi 0 [.int x1] [] C (kX3_isGuarded_ok x1 σ0 h) (tt_V ml_X3_143 mV_X3_isGuarded) ok_X3_isGuarded ⟨by decide, by decide⟩ rfl (r_wX_0 (σ := σ0)) (Nat.le_of_ble_eq_true rfl) rfl dX3_setWords_2 (fun r2 h => ?_)
  refine j_if_eq 28 C dX3_setWords_5 rfl h (fun h => ?_) (fun h => ?_)
  · exact j_vret C dX3_setWords_28 h
  · refine j_aload_n C dX3_setWords_8 0 rfl ?_
    refine j_aload_n C dX3_setWords_9 0 rfl ?_
    refine j_iload_n C dX3_setWords_10 1 rfl ?_
    refine j_callpi 0 [.int x1] [.ref (ad 0)] C (kX3_firstWord_ok x1 σ0 h) (tt_V ml_X3_149 mV_X3_firstWord) ok_X3_firstWord ⟨by decide, by decide⟩ rfl (r_wX_0 (σ := σ0)) (Nat.le_of_ble_eq_true rfl) rfl dX3_setWords_11 (fun r11 h => ?_)
    refine j_lload_n C dX3_setWords_14 2 rfl ?_
    refine j_callv 0 [.int r11, .long x2] [] C (kX3_setNumber_ok r11 x2 σ0 h) (tt_V ml_X3_152 mV_X3_setNumber) ok_X3_setNumber ⟨by decide, by decide⟩ rfl (r_wX_0 (σ := σ0)) (Nat.le_of_ble_eq_true rfl) rfl dX3_setWords_15 (fun σ15 h => ?_)
    refine j_aload_n C dX3_setWords_18 0 rfl ?_
    refine j_aload_n C dX3_setWords_19 0 rfl ?_
    refine j_iload_n C dX3_setWords_20 1 rfl ?_
    refine j_callpi 0 [.int x1] [.ref (ad 0)] C (kX3_lastWord_ok x1 σ15 h) (tt_V ml_X3_155 mV_X3_lastWord) ok_X3_lastWord ⟨by decide, by decide⟩ rfl (r_wX_0 (σ := σ15)) (Nat.le_of_ble_eq_true rfl) rfl dX3_setWords_21 (fun r21 h => ?_)
    refine j_lload_n C dX3_setWords_24 2 rfl ?_
    refine j_callv 0 [.int r21, .long x2] [] C (kX3_setNumber_ok r21 x2 σ15 h) (tt_V ml_X3_152 mV_X3_setNumber) ok_X3_setNumber ⟨by decide, by decide⟩ rfl (r_wX_0 (σ := σ15)) (Nat.le_of_ble_eq_true rfl) rfl dX3_setWords_25 (fun σ25 h => ?_)
    exact j_vret C dX3_setWords_28 h
def wX3_putBlock (x1 : Int32) (x2 : Int32) (x3 : Int32) (x4 : Int32) (σ : SS) (Q : SS → Prop) : Prop := vp_in x1 100 ∧ (vp_in x1 100 ∧ (wX3_pieceAt x3 (sA (sA σ 4 x1.toNatClampNeg x2) 5 x1.toNatClampNeg x3) (fun r21 => vp_in x1 100 ∧ (vp_in x1 100 ∧ (wX3_mark x3 (((-1)) - x1) (sA (sA (sA (sA σ 4 x1.toNatClampNeg x2) 5 x1.toNatClampNeg x3) 6 x1.toNatClampNeg r21) 7 x1.toNatClampNeg x4) (fun σ38 => wX3_wordOf x1 σ38 (fun r45 => wX3_setWords x1 r45 σ38 (fun σ48 => Q σ48))))))))
set_option maxRecDepth 100000 in
set_option maxHeartbeats 4000000 in
theorem kX3_putBlock_ok {l : Launch} {D : va_G} {cI cJ cZ : ClassId} {ad : Nat → Nat} {kv : Value} (x1 : Int32) (x2 : Int32) (x3 : Int32) (x4 : Int32) (σ0 : SS) {Q : SS → Prop} (h : wX3_putBlock x1 x2 x3 x4 σ0 Q) : Cv l yX3_putBlock (.code yX3_putBlock cX3_putBlock 5 none :: TT) { frames := 4, cells := 0, slots := 0, locals := 86 } D (tys cI cJ cZ) (wX cI cJ ad kv) [.ref (ad 0), .int x1, .int x2, .int x3, .int x4] σ0 Q := by
  refine Cv.of (lv := [(0, .ref (ad 0)), (1, .int x1), (2, .int x2), (3, .int x3), (4, .int x4)]) (by decide) adX (Nat.le_of_ble_eq_true rfl) rfl ?_
  intro p e s m args below meth c A C
  refine j_aload_n C dX3_putBlock_0 0 rfl ?_
  refine gf_X3_31 C dX3_putBlock_1 ?_
  refine j_iload_n C dX3_putBlock_4 1 rfl ?_
  refine j_iload_n C dX3_putBlock_5 2 rfl ?_
  refine as_wX_7 C h.1 dX3_putBlock_6 ?_
  replace h := h.2
  refine j_aload_n C dX3_putBlock_7 0 rfl ?_
  refine gf_X3_34 C dX3_putBlock_8 ?_
  refine j_iload_n C dX3_putBlock_11 1 rfl ?_
  refine j_iload_n C dX3_putBlock_12 3 rfl ?_
  refine as_wX_8 C h.1 dX3_putBlock_13 ?_
  replace h := h.2
  refine j_aload_n C dX3_putBlock_14 0 rfl ?_
  refine gf_X3_37 C dX3_putBlock_15 ?_
  refine j_iload_n C dX3_putBlock_18 1 rfl ?_
  refine j_aload_n C dX3_putBlock_19 0 rfl ?_
  refine j_iload_n C dX3_putBlock_20 3 rfl ?_
  refine j_callpi 0 [.int x3] [.int x1, .ref (ad 9)] C (kX3_pieceAt_ok x3 (sA (sA σ0 4 x1.toNatClampNeg x2) 5 x1.toNatClampNeg x3) h) (tt_V ml_X3_82 mV_X3_pieceAt) ok_X3_pieceAt ⟨by decide, by decide⟩ rfl (r_wX_0 (σ := sA (sA σ0 4 x1.toNatClampNeg x2) 5 x1.toNatClampNeg x3)) (Nat.le_of_ble_eq_true rfl) rfl dX3_putBlock_21 (fun r21 h => ?_)
  refine as_wX_9 C h.1 dX3_putBlock_24 ?_
  replace h := h.2
  refine j_aload_n C dX3_putBlock_25 0 rfl ?_
  refine gf_X3_40 C dX3_putBlock_26 ?_
  refine j_iload_n C dX3_putBlock_29 1 rfl ?_
  refine j_iload C dX3_putBlock_30 4 rfl ?_
  refine as_wX_10 C h.1 dX3_putBlock_32 ?_
  replace h := h.2
  refine j_aload_n C dX3_putBlock_33 0 rfl ?_
  refine j_iload_n C dX3_putBlock_34 3 rfl ?_
  refine j_iconst (v := (-1)) C dX3_putBlock_35 (by decide) ?_
  refine j_iload_n C dX3_putBlock_36 1 rfl ?_
  refine j_isub C dX3_putBlock_37 ?_
  refine j_callv 0 [.int x3, .int (((-1)) - x1)] [] C (kX3_mark_ok x3 (((-1)) - x1) (sA (sA (sA (sA σ0 4 x1.toNatClampNeg x2) 5 x1.toNatClampNeg x3) 6 x1.toNatClampNeg r21) 7 x1.toNatClampNeg x4) h) (tt_V ml_X3_102 mV_X3_mark) ok_X3_mark ⟨by decide, by decide⟩ rfl (r_wX_0 (σ := sA (sA (sA (sA σ0 4 x1.toNatClampNeg x2) 5 x1.toNatClampNeg x3) 6 x1.toNatClampNeg r21) 7 x1.toNatClampNeg x4)) (Nat.le_of_ble_eq_true rfl) rfl dX3_putBlock_38 (fun σ38 h => ?_)
  refine j_aload_n C dX3_putBlock_41 0 rfl ?_
  refine j_iload_n C dX3_putBlock_42 1 rfl ?_
  refine j_aload_n C dX3_putBlock_43 0 rfl ?_
  refine j_iload_n C dX3_putBlock_44 1 rfl ?_
  refine j_callpl 0 [.int x1] [.int x1, .ref (ad 0)] C (kX3_wordOf_ok x1 σ38 h) (tt_V ml_X3_121 mV_X3_wordOf) ok_X3_wordOf ⟨by decide, by decide⟩ rfl (r_wX_0 (σ := σ38)) (Nat.le_of_ble_eq_true rfl) rfl dX3_putBlock_45 (fun r45 h => ?_)
  refine j_callv 0 [.int x1, .long r45] [] C (kX3_setWords_ok x1 r45 σ38 h) (tt_V ml_X3_125 mV_X3_setWords) ok_X3_setWords ⟨by decide, by decide⟩ rfl (r_wX_0 (σ := σ38)) (Nat.le_of_ble_eq_true rfl) rfl dX3_putBlock_48 (fun σ48 h => ?_)
  exact j_vret C dX3_putBlock_51 h
def wX3_firstNumber_b30 (x1 : Int32) (t0 : Int32) (σ : SS) (Q : Int32 → Prop) : Prop := vp_in x1 100 ∧ (Q ((gA σ 5 x1.toNatClampNeg) + t0))
def wX3_firstNumber (x1 : Int32) (σ : SS) (Q : Int32 → Prop) : Prop := wX3_isGuarded x1 σ (fun r2 => (r2 = 0 → vp_in x1 100 ∧ (wX3_isRowZone (gA σ 4 x1.toNatClampNeg) σ (fun r19 => (r19 = 0 → wX3_firstNumber_b30 x1 0 σ Q) ∧ (¬ r19 = 0 → wX3_firstNumber_b30 x1 1 σ Q)))) ∧ (¬ r2 = 0 → wX3_firstNumber_b30 x1 2 σ Q))
set_option maxRecDepth 100000 in
set_option maxHeartbeats 4000000 in
theorem kX3_firstNumber_ok {l : Launch} {D : va_G} {cI cJ cZ : ClassId} {ad : Nat → Nat} {kv : Value} (x1 : Int32) (σ0 : SS) {Q : Int32 → Prop} (h : wX3_firstNumber x1 σ0 Q) : Ci l yX3_firstNumber (.code yX3_firstNumber cX3_firstNumber 3 (some .int) :: TT) { frames := 3, cells := 0, slots := 0, locals := 63 } D (tys cI cJ cZ) (wX cI cJ ad kv) [.ref (ad 0), .int x1] σ0 (fun r σ' => σ' = σ0 ∧ Q r) := by
  refine Ci.of (lv := [(0, .ref (ad 0)), (1, .int x1)]) (by decide) adX (Nat.le_of_ble_eq_true rfl) rfl ?_
  intro p e s m args below meth c A C
  have k30 : ∀ (x1 : Int32), ∀ (t0 : Int32), wX3_firstNumber_b30 x1 t0 σ0 Q → J p l e { frames := 3, cells := 0, slots := 0, locals := 63 } s m args below meth c D (wX cI cJ ad kv) A 3 (MQ below (va_Qi (fun r σ' => σ' = σ0 ∧ Q r) (WW D (tys cI cJ cZ) (wX cI cJ ad kv)) A) args s 0 0 A) σ0 30 [(0, .ref (ad 0)), (1, .int x1)] [.int t0] := by
    intro x1 t0 h
    refine j_istore_n (lv' := [(2, .int t0), (0, .ref (ad 0)), (1, .int x1)]) C dX3_firstNumber_30 (by decide) rfl ?_
    refine j_aload_n C dX3_firstNumber_31 1 rfl ?_
    refine gf_X3_34 C dX3_firstNumber_32 ?_
    refine j_iload_n C dX3_firstNumber_35 2 rfl ?_
    refine al_wX_8 C h.1 dX3_firstNumber_36 ?_
    replace h := h.2
    refine j_iload_n C dX3_firstNumber_37 0 rfl ?_
    refine j_iadd C dX3_firstNumber_38 ?_
    exact j_iret C dX3_firstNumber_39 ⟨rfl, h⟩
  refine j_aload_n C dX3_firstNumber_0 0 rfl ?_
  refine j_iload_n C dX3_firstNumber_1 1 rfl ?_
  refine j_callpi 0 [.int x1] [] C (kX3_isGuarded_ok x1 σ0 h) (tt_V ml_X3_143 mV_X3_isGuarded) ok_X3_isGuarded ⟨by decide, by decide⟩ rfl (r_wX_0 (σ := σ0)) (Nat.le_of_ble_eq_true rfl) rfl dX3_firstNumber_2 (fun r2 h => ?_)
  refine j_if_eq 12 C dX3_firstNumber_5 rfl h (fun h => ?_) (fun h => ?_)
  · refine j_aload_n C dX3_firstNumber_12 0 rfl ?_
    refine j_aload_n C dX3_firstNumber_13 0 rfl ?_
    refine gf_X3_31 C dX3_firstNumber_14 ?_
    refine j_iload_n C dX3_firstNumber_17 1 rfl ?_
    refine al_wX_7 C h.1 dX3_firstNumber_18 ?_
    replace h := h.2
    refine j_callpi 0 [.int (gA σ0 4 x1.toNatClampNeg)] [] C (kX3_isRowZone_ok (gA σ0 4 x1.toNatClampNeg) σ0 h) (tt_V ml_X3_146 mV_X3_isRowZone) ok_X3_isRowZone ⟨by decide, by decide⟩ rfl (r_wX_0 (σ := σ0)) (Nat.le_of_ble_eq_true rfl) rfl dX3_firstNumber_19 (fun r19 h => ?_)
    refine j_if_eq 29 C dX3_firstNumber_22 rfl h (fun h => ?_) (fun h => ?_)
    · refine j_iconst (v := 0) C dX3_firstNumber_29 (by decide) ?_
      refine j_sub (lv' := [(0, .ref (ad 0)), (1, .int x1)]) [0, 1] rfl ?_
      exact k30 _ _ h
    · refine j_iconst (v := 1) C dX3_firstNumber_25 (by decide) ?_
      refine j_goto 30 C dX3_firstNumber_26 rfl ?_
      refine j_sub (lv' := [(0, .ref (ad 0)), (1, .int x1)]) [0, 1] rfl ?_
      exact k30 _ _ h
  · refine j_iconst (v := 2) C dX3_firstNumber_8 (by decide) ?_
    refine j_goto 30 C dX3_firstNumber_9 rfl ?_
    refine j_sub (lv' := [(0, .ref (ad 0)), (1, .int x1)]) [0, 1] rfl ?_
    exact k30 _ _ h
def wX3_moveBlock (x1 : Int32) (x2 : Int32) (x3 : Int32) (σ : SS) (Q : SS → Prop) : Prop := wX3_firstNumber x1 σ (fun r2 => vp_in x1 100 ∧ (vp_in x1 100 ∧ (vp_in x1 100 ∧ (vp_in x1 100 ∧ (wX3_putBlock x1 (gA σ 4 x1.toNatClampNeg) x2 x3 σ (fun σ41 => wX3_firstNumber x1 σ41 (fun r49 => wX3_copyNumbers r2 r49 (gA σ 7 x1.toNatClampNeg) σ41 (fun σ54 => wX3_vacate (gA σ 5 x1.toNatClampNeg) (gA σ 6 x1.toNatClampNeg) σ54 (fun σ62 => Q σ62)))))))))
set_option maxRecDepth 100000 in
set_option maxHeartbeats 4000000 in
theorem kX3_moveBlock_ok {l : Launch} {D : va_G} {cI cJ cZ : ClassId} {ad : Nat → Nat} {kv : Value} (x1 : Int32) (x2 : Int32) (x3 : Int32) (σ0 : SS) {Q : SS → Prop} (h : wX3_moveBlock x1 x2 x3 σ0 Q) : Cv l yX3_moveBlock (.code yX3_moveBlock cX3_moveBlock 8 none :: TT) { frames := 5, cells := 0, slots := 0, locals := 110 } D (tys cI cJ cZ) (wX cI cJ ad kv) [.ref (ad 0), .int x1, .int x2, .int x3] σ0 Q := by
  refine Cv.of (lv := [(0, .ref (ad 0)), (1, .int x1), (2, .int x2), (3, .int x3)]) (by decide) adX (Nat.le_of_ble_eq_true rfl) rfl ?_
  intro p e s m args below meth c A C
  refine j_aload_n C dX3_moveBlock_0 0 rfl ?_
  refine j_iload_n C dX3_moveBlock_1 1 rfl ?_
  refine j_callpi 0 [.int x1] [] C (kX3_firstNumber_ok x1 σ0 h) (tt_V ml_X3_129 mV_X3_firstNumber) ok_X3_firstNumber ⟨by decide, by decide⟩ rfl (r_wX_0 (σ := σ0)) (Nat.le_of_ble_eq_true rfl) rfl dX3_moveBlock_2 (fun r2 h => ?_)
  refine j_istore (lv' := [(4, .int r2), (0, .ref (ad 0)), (1, .int x1), (2, .int x2), (3, .int x3)]) C dX3_moveBlock_5 (by decide) rfl ?_
  refine j_aload_n C dX3_moveBlock_7 1 rfl ?_
  refine gf_X3_34 C dX3_moveBlock_8 ?_
  refine j_iload_n C dX3_moveBlock_11 2 rfl ?_
  refine al_wX_8 C h.1 dX3_moveBlock_12 ?_
  replace h := h.2
  refine j_istore (lv' := [(5, .int (gA σ0 5 x1.toNatClampNeg)), (4, .int r2), (0, .ref (ad 0)), (1, .int x1), (2, .int x2), (3, .int x3)]) C dX3_moveBlock_13 (by decide) rfl ?_
  refine j_aload_n C dX3_moveBlock_15 2 rfl ?_
  refine gf_X3_37 C dX3_moveBlock_16 ?_
  refine j_iload_n C dX3_moveBlock_19 3 rfl ?_
  refine al_wX_9 C h.1 dX3_moveBlock_20 ?_
  replace h := h.2
  refine j_istore (lv' := [(6, .int (gA σ0 6 x1.toNatClampNeg)), (5, .int (gA σ0 5 x1.toNatClampNeg)), (4, .int r2), (0, .ref (ad 0)), (1, .int x1), (2, .int x2), (3, .int x3)]) C dX3_moveBlock_21 (by decide) rfl ?_
  refine j_aload_n C dX3_moveBlock_23 3 rfl ?_
  refine gf_X3_40 C dX3_moveBlock_24 ?_
  refine j_iload_n C dX3_moveBlock_27 4 rfl ?_
  refine al_wX_10 C h.1 dX3_moveBlock_28 ?_
  replace h := h.2
  refine j_istore (lv' := [(7, .int (gA σ0 7 x1.toNatClampNeg)), (6, .int (gA σ0 6 x1.toNatClampNeg)), (5, .int (gA σ0 5 x1.toNatClampNeg)), (4, .int r2), (0, .ref (ad 0)), (1, .int x1), (2, .int x2), (3, .int x3)]) C dX3_moveBlock_29 (by decide) rfl ?_
  refine j_aload_n C dX3_moveBlock_31 4 rfl ?_
  refine j_iload_n C dX3_moveBlock_32 5 rfl ?_
  refine j_aload_n C dX3_moveBlock_33 4 rfl ?_
  refine gf_X3_31 C dX3_moveBlock_34 ?_
  refine j_iload_n C dX3_moveBlock_37 5 rfl ?_
  refine al_wX_7 C h.1 dX3_moveBlock_38 ?_
  replace h := h.2
  refine j_iload_n C dX3_moveBlock_39 6 rfl ?_
  refine j_iload_n C dX3_moveBlock_40 7 rfl ?_
  refine j_callv 0 [.int x1, .int (gA σ0 4 x1.toNatClampNeg), .int x2, .int x3] [] C (kX3_putBlock_ok x1 (gA σ0 4 x1.toNatClampNeg) x2 x3 σ0 h) (tt_V ml_X3_132 mV_X3_putBlock) ok_X3_putBlock ⟨by decide, by decide⟩ rfl (r_wX_0 (σ := σ0)) (Nat.le_of_ble_eq_true rfl) rfl dX3_moveBlock_41 (fun σ41 h => ?_)
  refine j_aload_n C dX3_moveBlock_44 4 rfl ?_
  refine j_iload C dX3_moveBlock_45 3 rfl ?_
  refine j_aload_n C dX3_moveBlock_47 4 rfl ?_
  refine j_iload_n C dX3_moveBlock_48 5 rfl ?_
  refine j_callpi 0 [.int x1] [.int r2, .ref (ad 0)] C (kX3_firstNumber_ok x1 σ41 h) (tt_V ml_X3_129 mV_X3_firstNumber) ok_X3_firstNumber ⟨by decide, by decide⟩ rfl (r_wX_0 (σ := σ41)) (Nat.le_of_ble_eq_true rfl) rfl dX3_moveBlock_49 (fun r49 h => ?_)
  refine j_iload C dX3_moveBlock_52 0 rfl ?_
  refine j_callv 0 [.int r2, .int r49, .int (gA σ0 7 x1.toNatClampNeg)] [] C (kX3_copyNumbers_ok r2 r49 (gA σ0 7 x1.toNatClampNeg) σ41 h) (tt_V ml_X3_136 mV_X3_copyNumbers) ok_X3_copyNumbers ⟨by decide, by decide⟩ rfl (r_wX_0 (σ := σ41)) (Nat.le_of_ble_eq_true rfl) rfl dX3_moveBlock_54 (fun σ54 h => ?_)
  refine j_aload_n C dX3_moveBlock_57 4 rfl ?_
  refine j_iload C dX3_moveBlock_58 2 rfl ?_
  refine j_iload C dX3_moveBlock_60 1 rfl ?_
  refine j_callv 0 [.int (gA σ0 5 x1.toNatClampNeg), .int (gA σ0 6 x1.toNatClampNeg)] [] C (kX3_vacate_ok (gA σ0 5 x1.toNatClampNeg) (gA σ0 6 x1.toNatClampNeg) σ54 h) (tt_V ml_X3_140 mV_X3_vacate) ok_X3_vacate ⟨by decide, by decide⟩ rfl (r_wX_0 (σ := σ54)) (Nat.le_of_ble_eq_true rfl) rfl dX3_moveBlock_62 (fun σ62 h => ?_)
  exact j_vret C dX3_moveBlock_65 h
def wX3_hasNumbers (x1 : Int32) (x2 : Int32) (x3 : Int32) (σ : SS) (Q : Int32 → Prop) : Prop := (x2 < 0 → Q 0) ∧ (¬ x2 < 0 → (x3 < 0 → Q 0) ∧ (¬ x3 < 0 → vp_in x1 100 ∧ ((((gA σ 7 x1.toNatClampNeg) - x3) < x2 → Q 0) ∧ (¬ ((gA σ 7 x1.toNatClampNeg) - x3) < x2 → Q 1))))
set_option maxRecDepth 100000 in
set_option maxHeartbeats 4000000 in
theorem kX3_hasNumbers_ok {l : Launch} {D : va_G} {cI cJ cZ : ClassId} {ad : Nat → Nat} {kv : Value} (x1 : Int32) (x2 : Int32) (x3 : Int32) (σ0 : SS) {Q : Int32 → Prop} (h : wX3_hasNumbers x1 x2 x3 σ0 Q) : Ci l yX3_hasNumbers (.code yX3_hasNumbers cX3_hasNumbers 4 (some .boolean) :: TT) { frames := 0, cells := 0, slots := 0, locals := 0 } D (tys cI cJ cZ) (wX cI cJ ad kv) [.ref (ad 0), .int x1, .int x2, .int x3] σ0 (fun r σ' => σ' = σ0 ∧ Q r) := by
  refine Ci.of (lv := [(0, .ref (ad 0)), (1, .int x1), (2, .int x2), (3, .int x3)]) (by decide) adX (Nat.le_of_ble_eq_true rfl) rfl ?_
  intro p e s m args below meth c A C
  refine j_iload_n C dX3_hasNumbers_0 2 rfl ?_
  refine j_if_lt 24 C dX3_hasNumbers_1 rfl h (fun h => ?_) (fun h => ?_)
  · refine j_iconst (v := 0) C dX3_hasNumbers_24 (by decide) ?_
    exact j_zret C dX3_hasNumbers_25 rfl ⟨rfl, h⟩
  · refine j_iload_n C dX3_hasNumbers_4 3 rfl ?_
    refine j_if_lt 24 C dX3_hasNumbers_5 rfl h (fun h => ?_) (fun h => ?_)
    · refine j_iconst (v := 0) C dX3_hasNumbers_24 (by decide) ?_
      exact j_zret C dX3_hasNumbers_25 rfl ⟨rfl, h⟩
    · refine j_iload_n C dX3_hasNumbers_8 2 rfl ?_
      refine j_aload_n C dX3_hasNumbers_9 0 rfl ?_
      refine gf_X3_40 C dX3_hasNumbers_10 ?_
      refine j_iload_n C dX3_hasNumbers_13 1 rfl ?_
      refine al_wX_10 C h.1 dX3_hasNumbers_14 ?_
      replace h := h.2
      refine j_iload_n C dX3_hasNumbers_15 3 rfl ?_
      refine j_isub C dX3_hasNumbers_16 ?_
      refine j_icmp_gt 24 C dX3_hasNumbers_17 rfl h (fun h => ?_) (fun h => ?_)
      · refine j_iconst (v := 0) C dX3_hasNumbers_24 (by decide) ?_
        exact j_zret C dX3_hasNumbers_25 rfl ⟨rfl, h⟩
      · refine j_iconst (v := 1) C dX3_hasNumbers_20 (by decide) ?_
        refine j_goto 25 C dX3_hasNumbers_21 rfl ?_
        exact j_zret C dX3_hasNumbers_25 rfl ⟨rfl, h⟩
def wX3_spoiledWords_b33 (x1 : Int32) (t0 : Int32) (σ : SS) (Q : Int32 → Prop) : Prop := wX3_lastWord x1 σ (fun r37 => wX3_numberAt r37 σ (fun r40 => wX3_wordOf x1 σ (fun r45 => (¬ (lg_cmp r40 r45) = 0 → Q (t0 + 2)) ∧ ((lg_cmp r40 r45) = 0 → Q (t0 + 0)))))
def wX3_spoiledWords (x1 : Int32) (σ : SS) (Q : Int32 → Prop) : Prop := wX3_isGuarded x1 σ (fun r2 => (¬ r2 = 0 → wX3_firstWord x1 σ (fun r13 => wX3_numberAt r13 σ (fun r16 => wX3_wordOf x1 σ (fun r21 => (¬ (lg_cmp r16 r21) = 0 → wX3_spoiledWords_b33 x1 1 σ Q) ∧ ((lg_cmp r16 r21) = 0 → wX3_spoiledWords_b33 x1 0 σ Q))))) ∧ (r2 = 0 → Q 0))
set_option maxRecDepth 100000 in
set_option maxHeartbeats 4000000 in
theorem kX3_spoiledWords_ok {l : Launch} {D : va_G} {cI cJ cZ : ClassId} {ad : Nat → Nat} {kv : Value} (x1 : Int32) (σ0 : SS) {Q : Int32 → Prop} (h : wX3_spoiledWords x1 σ0 Q) : Ci l yX3_spoiledWords (.code yX3_spoiledWords cX3_spoiledWords 4 (some .int) :: TT) { frames := 3, cells := 0, slots := 0, locals := 63 } D (tys cI cJ cZ) (wX cI cJ ad kv) [.ref (ad 0), .int x1] σ0 (fun r σ' => σ' = σ0 ∧ Q r) := by
  refine Ci.of (lv := [(0, .ref (ad 0)), (1, .int x1)]) (by decide) adX (Nat.le_of_ble_eq_true rfl) rfl ?_
  intro p e s m args below meth c A C
  have k33 : ∀ (x1 : Int32), ∀ (t0 : Int32), wX3_spoiledWords_b33 x1 t0 σ0 Q → J p l e { frames := 3, cells := 0, slots := 0, locals := 63 } s m args below meth c D (wX cI cJ ad kv) A 4 (MQ below (va_Qi (fun r σ' => σ' = σ0 ∧ Q r) (WW D (tys cI cJ cZ) (wX cI cJ ad kv)) A) args s 0 0 A) σ0 33 [(0, .ref (ad 0)), (1, .int x1)] [.int t0] := by
    intro x1 t0 h
    refine j_istore_n (lv' := [(2, .int t0), (0, .ref (ad 0)), (1, .int x1)]) C dX3_spoiledWords_33 (by decide) rfl ?_
    refine j_aload_n C dX3_spoiledWords_34 1 rfl ?_
    refine j_aload_n C dX3_spoiledWords_35 1 rfl ?_
    refine j_iload_n C dX3_spoiledWords_36 2 rfl ?_
    refine j_callpi 0 [.int x1] [.ref (ad 0)] C (kX3_lastWord_ok x1 σ0 h) (tt_V ml_X3_155 mV_X3_lastWord) ok_X3_lastWord ⟨by decide, by decide⟩ rfl (r_wX_0 (σ := σ0)) (Nat.le_of_ble_eq_true rfl) rfl dX3_spoiledWords_37 (fun r37 h => ?_)
    refine j_callpl 0 [.int r37] [] C (kX3_numberAt_ok r37 σ0 h) (tt_V ml_X3_158 mV_X3_numberAt) ok_X3_numberAt ⟨by decide, by decide⟩ rfl (r_wX_0 (σ := σ0)) (Nat.le_of_ble_eq_true rfl) rfl dX3_spoiledWords_40 (fun r40 h => ?_)
    refine j_aload_n C dX3_spoiledWords_43 1 rfl ?_
    refine j_iload_n C dX3_spoiledWords_44 2 rfl ?_
    refine j_callpl 0 [.int x1] [.long r40] C (kX3_wordOf_ok x1 σ0 h) (tt_V ml_X3_121 mV_X3_wordOf) ok_X3_wordOf ⟨by decide, by decide⟩ rfl (r_wX_0 (σ := σ0)) (Nat.le_of_ble_eq_true rfl) rfl dX3_spoiledWords_45 (fun r45 h => ?_)
    refine j_lcmp C dX3_spoiledWords_48 ?_
    refine j_if_ne 56 C dX3_spoiledWords_49 rfl h (fun h => ?_) (fun h => ?_)
    · refine j_iconst (v := 2) C dX3_spoiledWords_56 (by decide) ?_
      refine j_istore_n (lv' := [(3, .int 2), (2, .int t0), (0, .ref (ad 0)), (1, .int x1)]) C dX3_spoiledWords_57 (by decide) rfl ?_
      refine j_iload_n C dX3_spoiledWords_58 1 rfl ?_
      refine j_iload_n C dX3_spoiledWords_59 0 rfl ?_
      refine j_iadd C dX3_spoiledWords_60 ?_
      exact j_iret C dX3_spoiledWords_61 ⟨rfl, h⟩
    · refine j_iconst (v := 0) C dX3_spoiledWords_52 (by decide) ?_
      refine j_goto 57 C dX3_spoiledWords_53 rfl ?_
      refine j_istore_n (lv' := [(3, .int 0), (2, .int t0), (0, .ref (ad 0)), (1, .int x1)]) C dX3_spoiledWords_57 (by decide) rfl ?_
      refine j_iload_n C dX3_spoiledWords_58 1 rfl ?_
      refine j_iload_n C dX3_spoiledWords_59 0 rfl ?_
      refine j_iadd C dX3_spoiledWords_60 ?_
      exact j_iret C dX3_spoiledWords_61 ⟨rfl, h⟩
  refine j_aload_n C dX3_spoiledWords_0 0 rfl ?_
  refine j_iload_n C dX3_spoiledWords_1 1 rfl ?_
  refine j_callpi 0 [.int x1] [] C (kX3_isGuarded_ok x1 σ0 h) (tt_V ml_X3_143 mV_X3_isGuarded) ok_X3_isGuarded ⟨by decide, by decide⟩ rfl (r_wX_0 (σ := σ0)) (Nat.le_of_ble_eq_true rfl) rfl dX3_spoiledWords_2 (fun r2 h => ?_)
  refine j_if_ne 10 C dX3_spoiledWords_5 rfl h (fun h => ?_) (fun h => ?_)
  · refine j_aload_n C dX3_spoiledWords_10 0 rfl ?_
    refine j_aload_n C dX3_spoiledWords_11 0 rfl ?_
    refine j_iload_n C dX3_spoiledWords_12 1 rfl ?_
    refine j_callpi 0 [.int x1] [.ref (ad 0)] C (kX3_firstWord_ok x1 σ0 h) (tt_V ml_X3_149 mV_X3_firstWord) ok_X3_firstWord ⟨by decide, by decide⟩ rfl (r_wX_0 (σ := σ0)) (Nat.le_of_ble_eq_true rfl) rfl dX3_spoiledWords_13 (fun r13 h => ?_)
    refine j_callpl 0 [.int r13] [] C (kX3_numberAt_ok r13 σ0 h) (tt_V ml_X3_158 mV_X3_numberAt) ok_X3_numberAt ⟨by decide, by decide⟩ rfl (r_wX_0 (σ := σ0)) (Nat.le_of_ble_eq_true rfl) rfl dX3_spoiledWords_16 (fun r16 h => ?_)
    refine j_aload_n C dX3_spoiledWords_19 0 rfl ?_
    refine j_iload_n C dX3_spoiledWords_20 1 rfl ?_
    refine j_callpl 0 [.int x1] [.long r16] C (kX3_wordOf_ok x1 σ0 h) (tt_V ml_X3_121 mV_X3_wordOf) ok_X3_wordOf ⟨by decide, by decide⟩ rfl (r_wX_0 (σ := σ0)) (Nat.le_of_ble_eq_true rfl) rfl dX3_spoiledWords_21 (fun r21 h => ?_)
    refine j_lcmp C dX3_spoiledWords_24 ?_
    refine j_if_ne 32 C dX3_spoiledWords_25 rfl h (fun h => ?_) (fun h => ?_)
    · refine j_iconst (v := 1) C dX3_spoiledWords_32 (by decide) ?_
      refine j_sub (lv' := [(0, .ref (ad 0)), (1, .int x1)]) [0, 1] rfl ?_
      exact k33 _ _ h
    · refine j_iconst (v := 0) C dX3_spoiledWords_28 (by decide) ?_
      refine j_goto 33 C dX3_spoiledWords_29 rfl ?_
      refine j_sub (lv' := [(0, .ref (ad 0)), (1, .int x1)]) [0, 1] rfl ?_
      exact k33 _ _ h
  · refine j_iconst (v := 0) C dX3_spoiledWords_8 (by decide) ?_
    exact j_iret C dX3_spoiledWords_9 ⟨rfl, h⟩
def wX4_mostOf (x1 : Int32) (σ : SS) (Q : Int32 → Prop) : Prop := Q 2000
set_option maxRecDepth 100000 in
set_option maxHeartbeats 4000000 in
theorem kX4_mostOf_ok {l : Launch} {D : va_G} {cI cJ cZ : ClassId} {ad : Nat → Nat} {kv : Value} (x1 : Int32) (σ0 : SS) {Q : Int32 → Prop} (h : wX4_mostOf x1 σ0 Q) : Ci l yX4_mostOf (.code yX4_mostOf cX4_mostOf 2 (some .int) :: TT) { frames := 0, cells := 0, slots := 0, locals := 0 } D (tys cI cJ cZ) (wX cI cJ ad kv) [.ref (ad 17), .int x1] σ0 (fun r σ' => σ' = σ0 ∧ Q r) := by
  refine Ci.of (lv := [(0, .ref (ad 17)), (1, .int x1)]) (by decide) adX (Nat.le_of_ble_eq_true rfl) rfl ?_
  intro p e s m args below meth c A C
  refine j_sipush (v := 2000) C dX4_mostOf_0 (by decide) ?_
  exact j_iret C dX4_mostOf_3 ⟨rfl, h⟩
def wX4_aside (x1 : Int32) (σ : SS) (Q : Int32 → Prop) : Prop := wX3_kindOf x1 σ (fun r5 => (¬ r5 = 5 → Q 1) ∧ (r5 = 5 → Q 3))
set_option maxRecDepth 100000 in
set_option maxHeartbeats 4000000 in
theorem kX4_aside_ok {l : Launch} {D : va_G} {cI cJ cZ : ClassId} {ad : Nat → Nat} {kv : Value} (x1 : Int32) (σ0 : SS) {Q : Int32 → Prop} (h : wX4_aside x1 σ0 Q) : Ci l yX4_aside (.code yX4_aside cX4_aside 2 (some .int) :: TT) { frames := 2, cells := 0, slots := 0, locals := 42 } D (tys cI cJ cZ) (wX cI cJ ad kv) [.ref (ad 17), .int x1] σ0 (fun r σ' => σ' = σ0 ∧ Q r) := by
  refine Ci.of (lv := [(0, .ref (ad 17)), (1, .int x1)]) (by decide) adX (Nat.le_of_ble_eq_true rfl) rfl ?_
  intro p e s m args below meth c A C
  refine j_aload_n C dX4_aside_0 0 rfl ?_
  refine gf_X4_9 C dX4_aside_1 ?_
  refine j_iload_n C dX4_aside_4 1 rfl ?_
  refine j_callpi 0 [.int x1] [] C (kX3_kindOf_ok x1 σ0 h) (tt_V ml_X4_77 mV_X3_kindOf) ok_X3_kindOf ⟨by decide, by decide⟩ rfl (r_wX_0 (σ := σ0)) (Nat.le_of_ble_eq_true rfl) rfl dX4_aside_5 (fun r5 h => ?_)
  refine j_iconst (v := 5) C dX4_aside_8 (by decide) ?_
  refine j_icmp_ne 16 C dX4_aside_9 rfl h (fun h => ?_) (fun h => ?_)
  · refine j_iconst (v := 1) C dX4_aside_16 (by decide) ?_
    exact j_iret C dX4_aside_17 ⟨rfl, h⟩
  · refine j_iconst (v := 3) C dX4_aside_12 (by decide) ?_
    refine j_goto 17 C dX4_aside_13 rfl ?_
    exact j_iret C dX4_aside_17 ⟨rfl, h⟩
def wX4_greatest_b13 (x1 : Int32) (x2 : Int32) (x3 : Int32) (σ : SS) (Q : Int32 → Prop) : Prop := lfp (fun (X13 : Int32 × Int32 → Prop) (t : Int32 × Int32) => wX3_places σ (fun r18 => (r18 ≤ t.2 → wX4_aside x1 σ (fun r60 => Q (if ((-1)) < (if 2000 < (t.1 - r60) then 2000 else (t.1 - r60)) then (if 2000 < (t.1 - r60) then 2000 else (t.1 - r60)) else ((-1))))) ∧ (¬ r18 ≤ t.2 → wX3_freeAt t.2 x1 σ (fun r31 => wX3_endOf t.2 σ (fun r46 => X13 ((if t.1 < r31 then r31 else t.1), (if (t.2 + 1) < r46 then r46 else (t.2 + 1)))))))) (x2, x3)
def wX4_greatest (x1 : Int32) (σ : SS) (Q : Int32 → Prop) : Prop := wX3_longestFreeRun σ (fun r6 => wX4_greatest_b13 x1 (64 * r6) 0 σ Q)
set_option maxRecDepth 100000 in
set_option maxHeartbeats 4000000 in
theorem kX4_greatest_ok {l : Launch} {D : va_G} {cI cJ cZ : ClassId} {ad : Nat → Nat} {kv : Value} (x1 : Int32) (σ0 : SS) {Q : Int32 → Prop} (h : wX4_greatest x1 σ0 Q) : Ci l yX4_greatest (.code yX4_greatest cX4_greatest 4 (some .int) :: TT) { frames := 3, cells := 0, slots := 0, locals := 67 } D (tys cI cJ cZ) (wX cI cJ ad kv) [.ref (ad 17), .int x1] σ0 (fun r σ' => σ' = σ0 ∧ Q r) := by
  refine Ci.of (lv := [(0, .ref (ad 17)), (1, .int x1)]) (by decide) adX (Nat.le_of_ble_eq_true rfl) rfl ?_
  intro p e s m args below meth c A C
  have k13 : ∀ (x1 : Int32), ∀ (x2 : Int32), ∀ (x3 : Int32), wX4_greatest_b13 x1 x2 x3 σ0 Q → J p l e { frames := 3, cells := 0, slots := 0, locals := 67 } s m args below meth c D (wX cI cJ ad kv) A 4 (MQ below (va_Qi (fun r σ' => σ' = σ0 ∧ Q r) (WW D (tys cI cJ cZ) (wX cI cJ ad kv)) A) args s 0 0 A) σ0 13 [(0, .ref (ad 17)), (1, .int x1), (2, .int x2), (3, .int x3)] [] := by
    intro x1 x2 x3 h
    refine h (fun t => J p l e { frames := 3, cells := 0, slots := 0, locals := 67 } s m args below meth c D (wX cI cJ ad kv) A 4 (MQ below (va_Qi (fun r σ' => σ' = σ0 ∧ Q r) (WW D (tys cI cJ cZ) (wX cI cJ ad kv)) A) args s 0 0 A) σ0 13 [(0, .ref (ad 17)), (1, .int x1), (2, .int t.1), (3, .int t.2)] []) (fun t h => ?_)
    obtain ⟨x2, x3⟩ := t
    try dsimp only at h
    refine j_iload_n C dX4_greatest_13 3 rfl ?_
    refine j_aload_n C dX4_greatest_14 0 rfl ?_
    refine gf_X4_9 C dX4_greatest_15 ?_
    refine j_callpi 0 [] [.int x3] C (kX3_places_ok σ0 h) (tt_V ml_X4_21 mV_X3_places) ok_X3_places ⟨by decide, by decide⟩ rfl (r_wX_0 (σ := σ0)) (Nat.le_of_ble_eq_true rfl) rfl dX4_greatest_18 (fun r18 h => ?_)
    refine j_icmp_ge 56 C dX4_greatest_21 rfl h (fun h => ?_) (fun h => ?_)
    · refine j_iconst (v := (-1)) C dX4_greatest_56 (by decide) ?_
      refine j_iload_n C dX4_greatest_57 2 rfl ?_
      refine j_aload_n C dX4_greatest_58 0 rfl ?_
      refine j_iload_n C dX4_greatest_59 1 rfl ?_
      refine j_callpi 17 [.int x1] [.int x2, .int ((-1))] C (kX4_aside_ok x1 σ0 h) (tt_V ml_X4_37 mV_X4_aside) ok_X4_aside ⟨by decide, by decide⟩ rfl (r_wX_17 (σ := σ0)) (Nat.le_of_ble_eq_true rfl) rfl dX4_greatest_60 (fun r60 h => ?_)
      refine j_isub C dX4_greatest_63 ?_
      refine j_sipush (v := 2000) C dX4_greatest_64 (by decide) ?_
      refine j_mmin C ml_X4_40 mst_min mi_J9 mc_min ⟨by decide, (Nat.le_of_ble_eq_true rfl)⟩ dX4_greatest_67 ?_
      refine j_mmax C ml_X4_28 mst_max mi_J9 mc_max ⟨by decide, (Nat.le_of_ble_eq_true rfl)⟩ dX4_greatest_70 ?_
      exact j_iret C dX4_greatest_73 ⟨rfl, h⟩
    · refine j_iload_n C dX4_greatest_24 2 rfl ?_
      refine j_aload_n C dX4_greatest_25 0 rfl ?_
      refine gf_X4_9 C dX4_greatest_26 ?_
      refine j_iload_n C dX4_greatest_29 3 rfl ?_
      refine j_iload_n C dX4_greatest_30 1 rfl ?_
      refine j_callpi 0 [.int x3, .int x1] [.int x2] C (kX3_freeAt_ok x3 x1 σ0 h) (tt_V ml_X4_24 mV_X3_freeAt) ok_X3_freeAt ⟨by decide, by decide⟩ rfl (r_wX_0 (σ := σ0)) (Nat.le_of_ble_eq_true rfl) rfl dX4_greatest_31 (fun r31 h => ?_)
      refine j_mmax C ml_X4_28 mst_max mi_J9 mc_max ⟨by decide, (Nat.le_of_ble_eq_true rfl)⟩ dX4_greatest_34 ?_
      refine j_istore_n (lv' := [(2, .int (if x2 < r31 then r31 else x2)), (0, .ref (ad 17)), (1, .int x1), (3, .int x3)]) C dX4_greatest_37 (by decide) rfl ?_
      refine j_iload_n C dX4_greatest_38 3 rfl ?_
      refine j_iconst (v := 1) C dX4_greatest_39 (by decide) ?_
      refine j_iadd C dX4_greatest_40 ?_
      refine j_aload_n C dX4_greatest_41 1 rfl ?_
      refine gf_X4_9 C dX4_greatest_42 ?_
      refine j_iload_n C dX4_greatest_45 3 rfl ?_
      refine j_callpi 0 [.int x3] [.int (x3 + 1)] C (kX3_endOf_ok x3 σ0 h) (tt_V ml_X4_33 mV_X3_endOf) ok_X3_endOf ⟨by decide, by decide⟩ rfl (r_wX_0 (σ := σ0)) (Nat.le_of_ble_eq_true rfl) rfl dX4_greatest_46 (fun r46 h => ?_)
      refine j_mmax C ml_X4_28 mst_max mi_J9 mc_max ⟨by decide, (Nat.le_of_ble_eq_true rfl)⟩ dX4_greatest_49 ?_
      refine j_istore_n (lv' := [(3, .int (if (x3 + 1) < r46 then r46 else (x3 + 1))), (2, .int (if x2 < r31 then r31 else x2)), (0, .ref (ad 17)), (1, .int x1)]) C dX4_greatest_52 (by decide) rfl ?_
      refine j_goto 13 C dX4_greatest_53 rfl ?_
      refine j_sub (lv' := [(0, .ref (ad 17)), (1, .int x1), (2, .int (if x2 < r31 then r31 else x2)), (3, .int (if (x3 + 1) < r46 then r46 else (x3 + 1)))]) [2, 3, 1, 0] rfl ?_
      exact h
  refine j_bipush (v := 64) C dX4_greatest_0 (by decide) ?_
  refine j_aload_n C dX4_greatest_2 0 rfl ?_
  refine gf_X4_9 C dX4_greatest_3 ?_
  refine j_callpi 0 [] [.int 64] C (kX3_longestFreeRun_ok σ0 h) (tt_V ml_X4_15 mV_X3_longestFreeRun) ok_X3_longestFreeRun ⟨by decide, by decide⟩ rfl (r_wX_0 (σ := σ0)) (Nat.le_of_ble_eq_true rfl) rfl dX4_greatest_6 (fun r6 h => ?_)
  refine j_imul C dX4_greatest_9 ?_
  refine j_istore_n (lv' := [(2, .int (64 * r6)), (0, .ref (ad 17)), (1, .int x1)]) C dX4_greatest_10 (by decide) rfl ?_
  refine j_iconst (v := 0) C dX4_greatest_11 (by decide) ?_
  refine j_istore_n (lv' := [(3, .int 0), (2, .int (64 * r6)), (0, .ref (ad 17)), (1, .int x1)]) C dX4_greatest_12 (by decide) rfl ?_
  refine j_sub (lv' := [(0, .ref (ad 17)), (1, .int x1), (2, .int (64 * r6)), (3, .int 0)]) [2, 3, 1, 0] rfl ?_
  exact k13 _ _ _ h
def wX4_isBetter (x1 : Int32) (x2 : Int32) (x3 : Int32) (σ : SS) (Q : Int32 → Prop) : Prop := (¬ x1 = 2 → (¬ x1 = 3 → Q 0) ∧ (x1 = 3 → (x3 ≤ x2 → Q 0) ∧ (¬ x3 ≤ x2 → Q 1))) ∧ (x1 = 2 → (x2 ≤ x3 → Q 0) ∧ (¬ x2 ≤ x3 → Q 1))
set_option maxRecDepth 100000 in
set_option maxHeartbeats 4000000 in
theorem kX4_isBetter_ok {l : Launch} {D : va_G} {cI cJ cZ : ClassId} {ad : Nat → Nat} {kv : Value} (x1 : Int32) (x2 : Int32) (x3 : Int32) (σ0 : SS) {Q : Int32 → Prop} (h : wX4_isBetter x1 x2 x3 σ0 Q) : Ci l yX4_isBetter (.code yX4_isBetter cX4_isBetter 4 (some .boolean) :: TT) { frames := 0, cells := 0, slots := 0, locals := 0 } D (tys cI cJ cZ) (wX cI cJ ad kv) [.ref (ad 17), .int x1, .int x2, .int x3] σ0 (fun r σ' => σ' = σ0 ∧ Q r) := by
  refine Ci.of (lv := [(0, .ref (ad 17)), (1, .int x1), (2, .int x2), (3, .int x3)]) (by decide) adX (Nat.le_of_ble_eq_true rfl) rfl ?_
  intro p e s m args below meth c A C
  refine j_iload_n C dX4_isBetter_0 1 rfl ?_
  refine j_iconst (v := 2) C dX4_isBetter_1 (by decide) ?_
  refine j_icmp_ne 16 C dX4_isBetter_2 rfl h (fun h => ?_) (fun h => ?_)
  · refine j_iload_n C dX4_isBetter_16 1 rfl ?_
    refine j_iconst (v := 3) C dX4_isBetter_17 (by decide) ?_
    refine j_icmp_ne 30 C dX4_isBetter_18 rfl h (fun h => ?_) (fun h => ?_)
    · refine j_iconst (v := 0) C dX4_isBetter_30 (by decide) ?_
      exact j_zret C dX4_isBetter_31 rfl ⟨rfl, h⟩
    · refine j_iload_n C dX4_isBetter_21 2 rfl ?_
      refine j_iload_n C dX4_isBetter_22 3 rfl ?_
      refine j_icmp_ge 30 C dX4_isBetter_23 rfl h (fun h => ?_) (fun h => ?_)
      · refine j_iconst (v := 0) C dX4_isBetter_30 (by decide) ?_
        exact j_zret C dX4_isBetter_31 rfl ⟨rfl, h⟩
      · refine j_iconst (v := 1) C dX4_isBetter_26 (by decide) ?_
        refine j_goto 31 C dX4_isBetter_27 rfl ?_
        exact j_zret C dX4_isBetter_31 rfl ⟨rfl, h⟩
  · refine j_iload_n C dX4_isBetter_5 2 rfl ?_
    refine j_iload_n C dX4_isBetter_6 3 rfl ?_
    refine j_icmp_le 14 C dX4_isBetter_7 rfl h (fun h => ?_) (fun h => ?_)
    · refine j_iconst (v := 0) C dX4_isBetter_14 (by decide) ?_
      exact j_zret C dX4_isBetter_15 rfl ⟨rfl, h⟩
    · refine j_iconst (v := 1) C dX4_isBetter_10 (by decide) ?_
      refine j_goto 15 C dX4_isBetter_11 rfl ?_
      exact j_zret C dX4_isBetter_15 rfl ⟨rfl, h⟩
def wX4_choose_b73 (X18 : Int32 × Int32 × Int32 → Prop) (x1 : Int32) (x2 : Int32) (x3 : Int32) (x4 : Int32) (x5 : Int32) (x6 : Int32) (σ : SS) (Q : Int32 → Prop) : Prop := wX3_endOf x6 σ (fun r83 => X18 (x4, x5, (if (x6 + 1) < r83 then r83 else (x6 + 1))))
def wX4_choose_b65 (X18 : Int32 × Int32 × Int32 → Prop) (x1 : Int32) (x2 : Int32) (x3 : Int32) (x6 : Int32) (x7 : Int32) (σ : SS) (Q : Int32 → Prop) : Prop := wX4_choose_b73 X18 x1 x2 x3 x6 x7 x6 σ Q
def wX4_choose_b18 (x1 : Int32) (x2 : Int32) (x3 : Int32) (x4 : Int32) (x5 : Int32) (x6 : Int32) (σ : SS) (Q : Int32 → Prop) : Prop := lfp (fun (X18 : Int32 × Int32 × Int32 → Prop) (t : Int32 × Int32 × Int32) => wX3_places σ (fun r24 => (r24 ≤ t.2.2 → Q t.1) ∧ (¬ r24 ≤ t.2.2 → wX3_freeAt t.2.2 x1 σ (fun r37 => (r37 < x2 → wX4_choose_b73 X18 x1 x2 x3 t.1 t.2.1 t.2.2 σ Q) ∧ (¬ r37 < x2 → (t.1 < 0 → wX4_choose_b65 X18 x1 x2 x3 t.2.2 r37 σ Q) ∧ (¬ t.1 < 0 → wX4_isBetter x3 r37 t.2.1 σ (fun r59 => (r59 = 0 → wX4_choose_b73 X18 x1 x2 x3 t.1 t.2.1 t.2.2 σ Q) ∧ (¬ r59 = 0 → wX4_choose_b65 X18 x1 x2 x3 t.2.2 r37 σ Q)))))))) (x4, x5, x6)
def wX4_choose (x1 : Int32) (x2 : Int32) (σ : SS) (Q : Int32 → Prop) : Prop := wX3_kindOf x1 σ (fun r5 => wX4_choose_b18 x1 x2 r5 ((-1)) 0 0 σ Q)
set_option maxRecDepth 100000 in
set_option maxHeartbeats 4000000 in
theorem kX4_choose_ok {l : Launch} {D : va_G} {cI cJ cZ : ClassId} {ad : Nat → Nat} {kv : Value} (x1 : Int32) (x2 : Int32) (σ0 : SS) {Q : Int32 → Prop} (h : wX4_choose x1 x2 σ0 Q) : Ci l yX4_choose (.code yX4_choose cX4_choose 8 (some .int) :: TT) { frames := 3, cells := 0, slots := 0, locals := 67 } D (tys cI cJ cZ) (wX cI cJ ad kv) [.ref (ad 17), .int x1, .int x2] σ0 (fun r σ' => σ' = σ0 ∧ Q r) := by
  refine Ci.of (lv := [(0, .ref (ad 17)), (1, .int x1), (2, .int x2)]) (by decide) adX (Nat.le_of_ble_eq_true rfl) rfl ?_
  intro p e s m args below meth c A C
  have k73 : ∀ (x1 : Int32), ∀ (x2 : Int32), ∀ (x3 : Int32), ∀ (x4 : Int32), ∀ (x5 : Int32), ∀ (x6 : Int32), ∀ (X18 : Int32 × Int32 × Int32 → Prop), (∀ t : Int32 × Int32 × Int32, X18 t → J p l e { frames := 3, cells := 0, slots := 0, locals := 67 } s m args below meth c D (wX cI cJ ad kv) A 8 (MQ below (va_Qi (fun r σ' => σ' = σ0 ∧ Q r) (WW D (tys cI cJ cZ) (wX cI cJ ad kv)) A) args s 0 0 A) σ0 18 [(0, .ref (ad 17)), (1, .int x1), (2, .int x2), (3, .int x3), (4, .int t.1), (5, .int t.2.1), (6, .int t.2.2)] []) → wX4_choose_b73 X18 x1 x2 x3 x4 x5 x6 σ0 Q → J p l e { frames := 3, cells := 0, slots := 0, locals := 67 } s m args below meth c D (wX cI cJ ad kv) A 8 (MQ below (va_Qi (fun r σ' => σ' = σ0 ∧ Q r) (WW D (tys cI cJ cZ) (wX cI cJ ad kv)) A) args s 0 0 A) σ0 73 [(0, .ref (ad 17)), (1, .int x1), (2, .int x2), (3, .int x3), (4, .int x4), (5, .int x5), (6, .int x6)] [] := by
    intro x1 x2 x3 x4 x5 x6 X18 hX18 h
    refine j_iload C dX4_choose_73 6 rfl ?_
    refine j_iconst (v := 1) C dX4_choose_75 (by decide) ?_
    refine j_iadd C dX4_choose_76 ?_
    refine j_aload_n C dX4_choose_77 0 rfl ?_
    refine gf_X4_9 C dX4_choose_78 ?_
    refine j_iload C dX4_choose_81 6 rfl ?_
    refine j_callpi 0 [.int x6] [.int (x6 + 1)] C (kX3_endOf_ok x6 σ0 h) (tt_V ml_X4_33 mV_X3_endOf) ok_X3_endOf ⟨by decide, by decide⟩ rfl (r_wX_0 (σ := σ0)) (Nat.le_of_ble_eq_true rfl) rfl dX4_choose_83 (fun r83 h => ?_)
    refine j_mmax C ml_X4_28 mst_max mi_J9 mc_max ⟨by decide, (Nat.le_of_ble_eq_true rfl)⟩ dX4_choose_86 ?_
    refine j_istore (lv' := [(6, .int (if (x6 + 1) < r83 then r83 else (x6 + 1))), (0, .ref (ad 17)), (1, .int x1), (2, .int x2), (3, .int x3), (4, .int x4), (5, .int x5)]) C dX4_choose_89 (by decide) rfl ?_
    refine j_goto 18 C dX4_choose_91 rfl ?_
    refine j_sub (lv' := [(0, .ref (ad 17)), (1, .int x1), (2, .int x2), (3, .int x3), (4, .int x4), (5, .int x5), (6, .int (if (x6 + 1) < r83 then r83 else (x6 + 1)))]) [1, 2, 3, 4, 5, 6, 0] rfl ?_
    exact hX18 _ h
  have k65 : ∀ (x1 : Int32), ∀ (x2 : Int32), ∀ (x3 : Int32), ∀ (x6 : Int32), ∀ (x7 : Int32), ∀ (X18 : Int32 × Int32 × Int32 → Prop), (∀ t : Int32 × Int32 × Int32, X18 t → J p l e { frames := 3, cells := 0, slots := 0, locals := 67 } s m args below meth c D (wX cI cJ ad kv) A 8 (MQ below (va_Qi (fun r σ' => σ' = σ0 ∧ Q r) (WW D (tys cI cJ cZ) (wX cI cJ ad kv)) A) args s 0 0 A) σ0 18 [(0, .ref (ad 17)), (1, .int x1), (2, .int x2), (3, .int x3), (4, .int t.1), (5, .int t.2.1), (6, .int t.2.2)] []) → wX4_choose_b65 X18 x1 x2 x3 x6 x7 σ0 Q → J p l e { frames := 3, cells := 0, slots := 0, locals := 67 } s m args below meth c D (wX cI cJ ad kv) A 8 (MQ below (va_Qi (fun r σ' => σ' = σ0 ∧ Q r) (WW D (tys cI cJ cZ) (wX cI cJ ad kv)) A) args s 0 0 A) σ0 65 [(0, .ref (ad 17)), (1, .int x1), (2, .int x2), (3, .int x3), (6, .int x6), (7, .int x7)] [] := by
    intro x1 x2 x3 x6 x7 X18 hX18 h
    refine j_iload C dX4_choose_65 4 rfl ?_
    refine j_istore (lv' := [(4, .int x6), (0, .ref (ad 17)), (1, .int x1), (2, .int x2), (3, .int x3), (6, .int x6), (7, .int x7)]) C dX4_choose_67 (by decide) rfl ?_
    refine j_iload C dX4_choose_69 6 rfl ?_
    refine j_istore (lv' := [(5, .int x7), (4, .int x6), (0, .ref (ad 17)), (1, .int x1), (2, .int x2), (3, .int x3), (6, .int x6), (7, .int x7)]) C dX4_choose_71 (by decide) rfl ?_
    refine j_sub (lv' := [(0, .ref (ad 17)), (1, .int x1), (2, .int x2), (3, .int x3), (4, .int x6), (5, .int x7), (6, .int x6)]) [2, 3, 4, 5, 1, 0, 6] rfl ?_
    exact k73 _ _ _ _ _ _ _ hX18 h
  have k18 : ∀ (x1 : Int32), ∀ (x2 : Int32), ∀ (x3 : Int32), ∀ (x4 : Int32), ∀ (x5 : Int32), ∀ (x6 : Int32), wX4_choose_b18 x1 x2 x3 x4 x5 x6 σ0 Q → J p l e { frames := 3, cells := 0, slots := 0, locals := 67 } s m args below meth c D (wX cI cJ ad kv) A 8 (MQ below (va_Qi (fun r σ' => σ' = σ0 ∧ Q r) (WW D (tys cI cJ cZ) (wX cI cJ ad kv)) A) args s 0 0 A) σ0 18 [(0, .ref (ad 17)), (1, .int x1), (2, .int x2), (3, .int x3), (4, .int x4), (5, .int x5), (6, .int x6)] [] := by
    intro x1 x2 x3 x4 x5 x6 h
    refine h (fun t => J p l e { frames := 3, cells := 0, slots := 0, locals := 67 } s m args below meth c D (wX cI cJ ad kv) A 8 (MQ below (va_Qi (fun r σ' => σ' = σ0 ∧ Q r) (WW D (tys cI cJ cZ) (wX cI cJ ad kv)) A) args s 0 0 A) σ0 18 [(0, .ref (ad 17)), (1, .int x1), (2, .int x2), (3, .int x3), (4, .int t.1), (5, .int t.2.1), (6, .int t.2.2)] []) (fun t h => ?_)
    obtain ⟨x4, x5, x6⟩ := t
    try dsimp only at h
    refine j_iload C dX4_choose_18 6 rfl ?_
    refine j_aload_n C dX4_choose_20 0 rfl ?_
    refine gf_X4_9 C dX4_choose_21 ?_
    refine j_callpi 0 [] [.int x6] C (kX3_places_ok σ0 h) (tt_V ml_X4_21 mV_X3_places) ok_X3_places ⟨by decide, by decide⟩ rfl (r_wX_0 (σ := σ0)) (Nat.le_of_ble_eq_true rfl) rfl dX4_choose_24 (fun r24 h => ?_)
    refine j_icmp_ge 94 C dX4_choose_27 rfl h (fun h => ?_) (fun h => ?_)
    · refine j_iload C dX4_choose_94 4 rfl ?_
      exact j_iret C dX4_choose_96 ⟨rfl, h⟩
    · refine j_aload_n C dX4_choose_30 0 rfl ?_
      refine gf_X4_9 C dX4_choose_31 ?_
      refine j_iload C dX4_choose_34 6 rfl ?_
      refine j_iload_n C dX4_choose_36 1 rfl ?_
      refine j_callpi 0 [.int x6, .int x1] [] C (kX3_freeAt_ok x6 x1 σ0 h) (tt_V ml_X4_24 mV_X3_freeAt) ok_X3_freeAt ⟨by decide, by decide⟩ rfl (r_wX_0 (σ := σ0)) (Nat.le_of_ble_eq_true rfl) rfl dX4_choose_37 (fun r37 h => ?_)
      refine j_istore (lv' := [(7, .int r37), (0, .ref (ad 17)), (1, .int x1), (2, .int x2), (3, .int x3), (4, .int x4), (5, .int x5), (6, .int x6)]) C dX4_choose_40 (by decide) rfl ?_
      refine j_iload C dX4_choose_42 0 rfl ?_
      refine j_iload_n C dX4_choose_44 3 rfl ?_
      refine j_icmp_lt 73 C dX4_choose_45 rfl h (fun h => ?_) (fun h => ?_)
      · refine j_sub (lv' := [(0, .ref (ad 17)), (1, .int x1), (2, .int x2), (3, .int x3), (4, .int x4), (5, .int x5), (6, .int x6)]) [1, 2, 3, 4, 5, 6, 7] rfl ?_
        exact k73 _ _ _ _ _ _ _ (fun _ z => z) h
      · refine j_iload C dX4_choose_48 5 rfl ?_
        refine j_if_lt 65 C dX4_choose_50 rfl h (fun h => ?_) (fun h => ?_)
        · refine j_sub (lv' := [(0, .ref (ad 17)), (1, .int x1), (2, .int x2), (3, .int x3), (6, .int x6), (7, .int r37)]) [1, 2, 3, 4, 7, 0] rfl ?_
          exact k65 _ _ _ _ _ _ (fun _ z => z) h
        · refine j_aload_n C dX4_choose_53 1 rfl ?_
          refine j_iload_n C dX4_choose_54 4 rfl ?_
          refine j_iload C dX4_choose_55 0 rfl ?_
          refine j_iload C dX4_choose_57 6 rfl ?_
          refine j_callpi 17 [.int x3, .int r37, .int x5] [] C (kX4_isBetter_ok x3 r37 x5 σ0 h) (tt_V ml_X4_80 mV_X4_isBetter) ok_X4_isBetter ⟨by decide, by decide⟩ rfl (r_wX_17 (σ := σ0)) (Nat.le_of_ble_eq_true rfl) rfl dX4_choose_59 (fun r59 h => ?_)
          refine j_if_eq 73 C dX4_choose_62 rfl h (fun h => ?_) (fun h => ?_)
          · refine j_sub (lv' := [(0, .ref (ad 17)), (1, .int x1), (2, .int x2), (3, .int x3), (4, .int x4), (5, .int x5), (6, .int x6)]) [1, 2, 3, 4, 5, 6, 7] rfl ?_
            exact k73 _ _ _ _ _ _ _ (fun _ z => z) h
          · refine j_sub (lv' := [(0, .ref (ad 17)), (1, .int x1), (2, .int x2), (3, .int x3), (6, .int x6), (7, .int r37)]) [1, 2, 3, 4, 7, 0] rfl ?_
            exact k65 _ _ _ _ _ _ (fun _ z => z) h
  refine j_aload_n C dX4_choose_0 0 rfl ?_
  refine gf_X4_9 C dX4_choose_1 ?_
  refine j_iload_n C dX4_choose_4 1 rfl ?_
  refine j_callpi 0 [.int x1] [] C (kX3_kindOf_ok x1 σ0 h) (tt_V ml_X4_77 mV_X3_kindOf) ok_X3_kindOf ⟨by decide, by decide⟩ rfl (r_wX_0 (σ := σ0)) (Nat.le_of_ble_eq_true rfl) rfl dX4_choose_5 (fun r5 h => ?_)
  refine j_istore_n (lv' := [(3, .int r5), (0, .ref (ad 17)), (1, .int x1), (2, .int x2)]) C dX4_choose_8 (by decide) rfl ?_
  refine j_iconst (v := (-1)) C dX4_choose_9 (by decide) ?_
  refine j_istore (lv' := [(4, .int ((-1))), (3, .int r5), (0, .ref (ad 17)), (1, .int x1), (2, .int x2)]) C dX4_choose_10 (by decide) rfl ?_
  refine j_iconst (v := 0) C dX4_choose_12 (by decide) ?_
  refine j_istore (lv' := [(5, .int 0), (4, .int ((-1))), (3, .int r5), (0, .ref (ad 17)), (1, .int x1), (2, .int x2)]) C dX4_choose_13 (by decide) rfl ?_
  refine j_iconst (v := 0) C dX4_choose_15 (by decide) ?_
  refine j_istore (lv' := [(6, .int 0), (5, .int 0), (4, .int ((-1))), (3, .int r5), (0, .ref (ad 17)), (1, .int x1), (2, .int x2)]) C dX4_choose_16 (by decide) rfl ?_
  refine j_sub (lv' := [(0, .ref (ad 17)), (1, .int x1), (2, .int x2), (3, .int r5), (4, .int ((-1))), (5, .int 0), (6, .int 0)]) [4, 5, 6, 3, 2, 1, 0] rfl ?_
  exact k18 _ _ _ _ _ _ h
def wX4_joinTouching_b78 (X4 : Int32 × Int32 × SS → Prop) (x1 : Int32) (x2 : Int32) (x4 : Int32) (σ : SS) (Q : SS → Prop) : Prop := X4 (x2, x4, σ)
def wX4_joinTouching_b4 (x1 : Int32) (x2 : Int32) (x3 : Int32) (σ : SS) (Q : SS → Prop) : Prop := lfp (fun (X4 : Int32 × Int32 × SS → Prop) (t : Int32 × Int32 × SS) => wX3_places t.2.2 (fun r9 => (r9 ≤ t.2.1 → Q t.2.2) ∧ (¬ r9 ≤ t.2.1 → wX3_endOf t.2.1 t.2.2 (fun r23 => wX3_freeAt t.2.1 x1 t.2.2 (fun r37 => (¬ r37 = 0 → (0 ≤ t.1 → wX3_mark t.2.1 0 t.2.2 (fun σ63 => wX3_mark t.1 ((if (t.2.1 + 1) < r23 then r23 else (t.2.1 + 1)) - t.1) σ63 (fun σ75 => wX4_joinTouching_b78 X4 x1 t.1 (if (t.2.1 + 1) < r23 then r23 else (t.2.1 + 1)) σ75 Q))) ∧ (¬ 0 ≤ t.1 → wX4_joinTouching_b78 X4 x1 t.2.1 (if (t.2.1 + 1) < r23 then r23 else (t.2.1 + 1)) t.2.2 Q)) ∧ (r37 = 0 → wX4_joinTouching_b78 X4 x1 ((-1)) (if (t.2.1 + 1) < r23 then r23 else (t.2.1 + 1)) t.2.2 Q)))))) (x2, x3, σ)
def wX4_joinTouching (x1 : Int32) (σ : SS) (Q : SS → Prop) : Prop := wX4_joinTouching_b4 x1 ((-1)) 0 σ Q
set_option maxRecDepth 100000 in
set_option maxHeartbeats 4000000 in
theorem kX4_joinTouching_ok {l : Launch} {D : va_G} {cI cJ cZ : ClassId} {ad : Nat → Nat} {kv : Value} (x1 : Int32) (σ0 : SS) {Q : SS → Prop} (h : wX4_joinTouching x1 σ0 Q) : Cv l yX4_joinTouching (.code yX4_joinTouching cX4_joinTouching 5 none :: TT) { frames := 3, cells := 0, slots := 0, locals := 67 } D (tys cI cJ cZ) (wX cI cJ ad kv) [.ref (ad 17), .int x1] σ0 Q := by
  refine Cv.of (lv := [(0, .ref (ad 17)), (1, .int x1)]) (by decide) adX (Nat.le_of_ble_eq_true rfl) rfl ?_
  intro p e s m args below meth c A C
  have k78 : ∀ (x1 : Int32), ∀ (x2 : Int32), ∀ (x4 : Int32), ∀ (σ : SS), ∀ (X4 : Int32 × Int32 × SS → Prop), (∀ t : Int32 × Int32 × SS, X4 t → J p l e { frames := 3, cells := 0, slots := 0, locals := 67 } s m args below meth c D (wX cI cJ ad kv) A 5 (MQ below (va_Qv Q (WW D (tys cI cJ cZ) (wX cI cJ ad kv)) A) args s 0 0 A) t.2.2 4 [(0, .ref (ad 17)), (1, .int x1), (2, .int t.1), (3, .int t.2.1)] []) → wX4_joinTouching_b78 X4 x1 x2 x4 σ Q → J p l e { frames := 3, cells := 0, slots := 0, locals := 67 } s m args below meth c D (wX cI cJ ad kv) A 5 (MQ below (va_Qv Q (WW D (tys cI cJ cZ) (wX cI cJ ad kv)) A) args s 0 0 A) σ 78 [(0, .ref (ad 17)), (1, .int x1), (2, .int x2), (4, .int x4)] [] := by
    intro x1 x2 x4 σ X4 hX4 h
    refine j_iload C dX4_joinTouching_78 3 rfl ?_
    refine j_istore_n (lv' := [(3, .int x4), (0, .ref (ad 17)), (1, .int x1), (2, .int x2), (4, .int x4)]) C dX4_joinTouching_80 (by decide) rfl ?_
    refine j_goto 4 C dX4_joinTouching_81 rfl ?_
    refine j_sub (lv' := [(0, .ref (ad 17)), (1, .int x1), (2, .int x2), (3, .int x4)]) [1, 2, 3, 0] rfl ?_
    exact hX4 _ h
  have k4 : ∀ (x1 : Int32), ∀ (x2 : Int32), ∀ (x3 : Int32), ∀ (σ : SS), wX4_joinTouching_b4 x1 x2 x3 σ Q → J p l e { frames := 3, cells := 0, slots := 0, locals := 67 } s m args below meth c D (wX cI cJ ad kv) A 5 (MQ below (va_Qv Q (WW D (tys cI cJ cZ) (wX cI cJ ad kv)) A) args s 0 0 A) σ 4 [(0, .ref (ad 17)), (1, .int x1), (2, .int x2), (3, .int x3)] [] := by
    intro x1 x2 x3 σ h
    refine h (fun t => J p l e { frames := 3, cells := 0, slots := 0, locals := 67 } s m args below meth c D (wX cI cJ ad kv) A 5 (MQ below (va_Qv Q (WW D (tys cI cJ cZ) (wX cI cJ ad kv)) A) args s 0 0 A) t.2.2 4 [(0, .ref (ad 17)), (1, .int x1), (2, .int t.1), (3, .int t.2.1)] []) (fun t h => ?_)
    obtain ⟨x2, x3, σ⟩ := t
    try dsimp only at h
    refine j_iload_n C dX4_joinTouching_4 3 rfl ?_
    refine j_aload_n C dX4_joinTouching_5 0 rfl ?_
    refine gf_X4_9 C dX4_joinTouching_6 ?_
    refine j_callpi 0 [] [.int x3] C (kX3_places_ok σ h) (tt_V ml_X4_21 mV_X3_places) ok_X3_places ⟨by decide, by decide⟩ rfl (r_wX_0 (σ := σ)) (Nat.le_of_ble_eq_true rfl) rfl dX4_joinTouching_9 (fun r9 h => ?_)
    refine j_icmp_ge 84 C dX4_joinTouching_12 rfl h (fun h => ?_) (fun h => ?_)
    · exact j_vret C dX4_joinTouching_84 h
    · refine j_iload_n C dX4_joinTouching_15 3 rfl ?_
      refine j_iconst (v := 1) C dX4_joinTouching_16 (by decide) ?_
      refine j_iadd C dX4_joinTouching_17 ?_
      refine j_aload_n C dX4_joinTouching_18 0 rfl ?_
      refine gf_X4_9 C dX4_joinTouching_19 ?_
      refine j_iload_n C dX4_joinTouching_22 3 rfl ?_
      refine j_callpi 0 [.int x3] [.int (x3 + 1)] C (kX3_endOf_ok x3 σ h) (tt_V ml_X4_33 mV_X3_endOf) ok_X3_endOf ⟨by decide, by decide⟩ rfl (r_wX_0 (σ := σ)) (Nat.le_of_ble_eq_true rfl) rfl dX4_joinTouching_23 (fun r23 h => ?_)
      refine j_mmax C ml_X4_28 mst_max mi_J9 mc_max ⟨by decide, (Nat.le_of_ble_eq_true rfl)⟩ dX4_joinTouching_26 ?_
      refine j_istore (lv' := [(4, .int (if (x3 + 1) < r23 then r23 else (x3 + 1))), (0, .ref (ad 17)), (1, .int x1), (2, .int x2), (3, .int x3)]) C dX4_joinTouching_29 (by decide) rfl ?_
      refine j_aload_n C dX4_joinTouching_31 1 rfl ?_
      refine gf_X4_9 C dX4_joinTouching_32 ?_
      refine j_iload_n C dX4_joinTouching_35 4 rfl ?_
      refine j_iload_n C dX4_joinTouching_36 2 rfl ?_
      refine j_callpi 0 [.int x3, .int x1] [] C (kX3_freeAt_ok x3 x1 σ h) (tt_V ml_X4_24 mV_X3_freeAt) ok_X3_freeAt ⟨by decide, by decide⟩ rfl (r_wX_0 (σ := σ)) (Nat.le_of_ble_eq_true rfl) rfl dX4_joinTouching_37 (fun r37 h => ?_)
      refine j_if_ne 48 C dX4_joinTouching_40 rfl h (fun h => ?_) (fun h => ?_)
      · refine j_iload_n C dX4_joinTouching_48 3 rfl ?_
        refine j_if_ge 57 C dX4_joinTouching_49 rfl h (fun h => ?_) (fun h => ?_)
        · refine j_aload_n C dX4_joinTouching_57 1 rfl ?_
          refine gf_X4_9 C dX4_joinTouching_58 ?_
          refine j_iload_n C dX4_joinTouching_61 4 rfl ?_
          refine j_iconst (v := 0) C dX4_joinTouching_62 (by decide) ?_
          refine j_callv 0 [.int x3, .int 0] [] C (kX3_mark_ok x3 0 σ h) (tt_V ml_X4_50 mV_X3_mark) ok_X3_mark ⟨by decide, by decide⟩ rfl (r_wX_0 (σ := σ)) (Nat.le_of_ble_eq_true rfl) rfl dX4_joinTouching_63 (fun σ63 h => ?_)
          refine j_aload_n C dX4_joinTouching_66 1 rfl ?_
          refine gf_X4_9 C dX4_joinTouching_67 ?_
          refine j_iload_n C dX4_joinTouching_70 3 rfl ?_
          refine j_iload C dX4_joinTouching_71 0 rfl ?_
          refine j_iload_n C dX4_joinTouching_73 3 rfl ?_
          refine j_isub C dX4_joinTouching_74 ?_
          refine j_callv 0 [.int x2, .int ((if (x3 + 1) < r23 then r23 else (x3 + 1)) - x2)] [] C (kX3_mark_ok x2 ((if (x3 + 1) < r23 then r23 else (x3 + 1)) - x2) σ63 h) (tt_V ml_X4_50 mV_X3_mark) ok_X3_mark ⟨by decide, by decide⟩ rfl (r_wX_0 (σ := σ63)) (Nat.le_of_ble_eq_true rfl) rfl dX4_joinTouching_75 (fun σ75 h => ?_)
          refine j_sub (lv' := [(0, .ref (ad 17)), (1, .int x1), (2, .int x2), (4, .int (if (x3 + 1) < r23 then r23 else (x3 + 1)))]) [1, 2, 3, 0] rfl ?_
          exact k78 _ _ _ _ _ (fun _ z => z) h
        · refine j_iload_n C dX4_joinTouching_52 4 rfl ?_
          refine j_istore_n (lv' := [(2, .int x3), (4, .int (if (x3 + 1) < r23 then r23 else (x3 + 1))), (0, .ref (ad 17)), (1, .int x1), (3, .int x3)]) C dX4_joinTouching_53 (by decide) rfl ?_
          refine j_goto 78 C dX4_joinTouching_54 rfl ?_
          refine j_sub (lv' := [(0, .ref (ad 17)), (1, .int x1), (2, .int x3), (4, .int (if (x3 + 1) < r23 then r23 else (x3 + 1)))]) [2, 3, 0, 1] rfl ?_
          exact k78 _ _ _ _ _ (fun _ z => z) h
      · refine j_iconst (v := (-1)) C dX4_joinTouching_43 (by decide) ?_
        refine j_istore_n (lv' := [(2, .int ((-1))), (4, .int (if (x3 + 1) < r23 then r23 else (x3 + 1))), (0, .ref (ad 17)), (1, .int x1), (3, .int x3)]) C dX4_joinTouching_44 (by decide) rfl ?_
        refine j_goto 78 C dX4_joinTouching_45 rfl ?_
        refine j_sub (lv' := [(0, .ref (ad 17)), (1, .int x1), (2, .int ((-1))), (4, .int (if (x3 + 1) < r23 then r23 else (x3 + 1)))]) [2, 3, 0, 1] rfl ?_
        exact k78 _ _ _ _ _ (fun _ z => z) h
  refine j_iconst (v := (-1)) C dX4_joinTouching_0 (by decide) ?_
  refine j_istore_n (lv' := [(2, .int ((-1))), (0, .ref (ad 17)), (1, .int x1)]) C dX4_joinTouching_1 (by decide) rfl ?_
  refine j_iconst (v := 0) C dX4_joinTouching_2 (by decide) ?_
  refine j_istore_n (lv' := [(3, .int 0), (2, .int ((-1))), (0, .ref (ad 17)), (1, .int x1)]) C dX4_joinTouching_3 (by decide) rfl ?_
  refine j_sub (lv' := [(0, .ref (ad 17)), (1, .int x1), (2, .int ((-1))), (3, .int 0)]) [2, 3, 1, 0] rfl ?_
  exact k4 _ _ _ _ h
def wX4_bringPages_b18 (x1 : Int32) (x2 : Int32) (x3 : Int32) (x4 : Int32) (σ : SS) (Q : Int32 → SS → Prop) : Prop := lfp (fun (X18 : Int32 × SS → Prop) (t : Int32 × SS) => ((x3 + x2) ≤ t.1 → wX3_mark (x3 * 64) (x2 * 64) t.2 (fun σ55 => wX4_joinTouching x1 σ55 (fun σ60 => Q 1 σ60))) ∧ (¬ (x3 + x2) ≤ t.1 → vp_in t.1 40 ∧ (X18 ((t.1 + 1), sA t.2 0 t.1.toNatClampNeg x1)))) (x4, σ)
def wX4_bringPages (x1 : Int32) (x2 : Int32) (σ : SS) (Q : Int32 → SS → Prop) : Prop := wX3_freeRun x2 σ (fun r5 => (0 ≤ r5 → wX4_bringPages_b18 x1 x2 r5 r5 σ Q) ∧ (¬ 0 ≤ r5 → Q 0 σ))
set_option maxRecDepth 100000 in
set_option maxHeartbeats 4000000 in
theorem kX4_bringPages_ok {l : Launch} {D : va_G} {cI cJ cZ : ClassId} {ad : Nat → Nat} {kv : Value} (x1 : Int32) (x2 : Int32) (σ0 : SS) {Q : Int32 → SS → Prop} (h : wX4_bringPages x1 x2 σ0 Q) : Ci l yX4_bringPages (.code yX4_bringPages cX4_bringPages 5 (some .boolean) :: TT) { frames := 4, cells := 0, slots := 0, locals := 91 } D (tys cI cJ cZ) (wX cI cJ ad kv) [.ref (ad 17), .int x1, .int x2] σ0 Q := by
  refine Ci.of (lv := [(0, .ref (ad 17)), (1, .int x1), (2, .int x2)]) (by decide) adX (Nat.le_of_ble_eq_true rfl) rfl ?_
  intro p e s m args below meth c A C
  have k18 : ∀ (x1 : Int32), ∀ (x2 : Int32), ∀ (x3 : Int32), ∀ (x4 : Int32), ∀ (σ : SS), wX4_bringPages_b18 x1 x2 x3 x4 σ Q → J p l e { frames := 4, cells := 0, slots := 0, locals := 91 } s m args below meth c D (wX cI cJ ad kv) A 5 (MQ below (va_Qi Q (WW D (tys cI cJ cZ) (wX cI cJ ad kv)) A) args s 0 0 A) σ 18 [(0, .ref (ad 17)), (1, .int x1), (2, .int x2), (3, .int x3), (4, .int x4)] [] := by
    intro x1 x2 x3 x4 σ h
    refine h (fun t => J p l e { frames := 4, cells := 0, slots := 0, locals := 91 } s m args below meth c D (wX cI cJ ad kv) A 5 (MQ below (va_Qi Q (WW D (tys cI cJ cZ) (wX cI cJ ad kv)) A) args s 0 0 A) t.2 18 [(0, .ref (ad 17)), (1, .int x1), (2, .int x2), (3, .int x3), (4, .int t.1)] []) (fun t h => ?_)
    obtain ⟨x4, σ⟩ := t
    try dsimp only at h
    refine j_iload C dX4_bringPages_18 4 rfl ?_
    refine j_iload_n C dX4_bringPages_20 3 rfl ?_
    refine j_iload_n C dX4_bringPages_21 2 rfl ?_
    refine j_iadd C dX4_bringPages_22 ?_
    refine j_icmp_ge 43 C dX4_bringPages_23 rfl h (fun h => ?_) (fun h => ?_)
    · refine j_aload_n C dX4_bringPages_43 0 rfl ?_
      refine gf_X4_9 C dX4_bringPages_44 ?_
      refine j_iload_n C dX4_bringPages_47 3 rfl ?_
      refine j_bipush (v := 64) C dX4_bringPages_48 (by decide) ?_
      refine j_imul C dX4_bringPages_50 ?_
      refine j_iload_n C dX4_bringPages_51 2 rfl ?_
      refine j_bipush (v := 64) C dX4_bringPages_52 (by decide) ?_
      refine j_imul C dX4_bringPages_54 ?_
      refine j_callv 0 [.int (x3 * 64), .int (x2 * 64)] [] C (kX3_mark_ok (x3 * 64) (x2 * 64) σ h) (tt_V ml_X4_50 mV_X3_mark) ok_X3_mark ⟨by decide, by decide⟩ rfl (r_wX_0 (σ := σ)) (Nat.le_of_ble_eq_true rfl) rfl dX4_bringPages_55 (fun σ55 h => ?_)
      refine j_aload_n C dX4_bringPages_58 0 rfl ?_
      refine j_iload_n C dX4_bringPages_59 1 rfl ?_
      refine j_callv 17 [.int x1] [] C (kX4_joinTouching_ok x1 σ55 h) (tt_V ml_X4_70 mV_X4_joinTouching) ok_X4_joinTouching ⟨by decide, by decide⟩ rfl (r_wX_17 (σ := σ55)) (Nat.le_of_ble_eq_true rfl) rfl dX4_bringPages_60 (fun σ60 h => ?_)
      refine j_iconst (v := 1) C dX4_bringPages_63 (by decide) ?_
      exact j_zret C dX4_bringPages_64 rfl h
    · refine j_aload_n C dX4_bringPages_26 0 rfl ?_
      refine gf_X4_9 C dX4_bringPages_27 ?_
      refine gf_X4_87 C dX4_bringPages_30 ?_
      refine j_iload C dX4_bringPages_33 4 rfl ?_
      refine j_iload_n C dX4_bringPages_35 1 rfl ?_
      refine as_wX_1 C h.1 dX4_bringPages_36 ?_
      replace h := h.2
      refine j_iinc (lv' := [(4, .int (x4 + 1)), (0, .ref (ad 17)), (1, .int x1), (2, .int x2), (3, .int x3)]) (x4 + 1) C dX4_bringPages_37 4 rfl rfl (by decide) rfl ?_
      refine j_goto 18 C dX4_bringPages_40 rfl ?_
      refine j_sub (lv' := [(0, .ref (ad 17)), (1, .int x1), (2, .int x2), (3, .int x3), (4, .int (x4 + 1))]) [1, 2, 3, 4, 0] rfl ?_
      exact h
  refine j_aload_n C dX4_bringPages_0 0 rfl ?_
  refine gf_X4_9 C dX4_bringPages_1 ?_
  refine j_iload_n C dX4_bringPages_4 2 rfl ?_
  refine j_callpi 0 [.int x2] [] C (kX3_freeRun_ok x2 σ0 h) (tt_V ml_X4_84 mV_X3_freeRun) ok_X3_freeRun ⟨by decide, by decide⟩ rfl (r_wX_0 (σ := σ0)) (Nat.le_of_ble_eq_true rfl) rfl dX4_bringPages_5 (fun r5 h => ?_)
  refine j_istore_n (lv' := [(3, .int r5), (0, .ref (ad 17)), (1, .int x1), (2, .int x2)]) C dX4_bringPages_8 (by decide) rfl ?_
  refine j_iload_n C dX4_bringPages_9 0 rfl ?_
  refine j_if_ge 15 C dX4_bringPages_10 rfl h (fun h => ?_) (fun h => ?_)
  · refine j_iload_n C dX4_bringPages_15 0 rfl ?_
    refine j_istore (lv' := [(4, .int r5), (3, .int r5), (0, .ref (ad 17)), (1, .int x1), (2, .int x2)]) C dX4_bringPages_16 (by decide) rfl ?_
    refine j_sub (lv' := [(0, .ref (ad 17)), (1, .int x1), (2, .int x2), (3, .int r5), (4, .int r5)]) [2, 3, 4, 1, 0] rfl ?_
    exact k18 _ _ _ _ _ h
  · refine j_iconst (v := 0) C dX4_bringPages_13 (by decide) ?_
    exact j_zret C dX4_bringPages_14 rfl h
def wX4_takePiece_b48 (x1 : Int32) (x3 : Int32) (x4 : Int32) (σ : SS) (Q : Int32 → SS → Prop) : Prop := wX3_freeAt x4 x1 σ (fun r55 => (r55 ≤ x3 → Q x4 σ) ∧ (¬ r55 ≤ x3 → wX3_mark (x4 + x3) (r55 - x3) σ (fun σ78 => wX3_mark x4 x3 σ78 (fun σ88 => Q x4 σ88))))
def wX4_takePiece (x1 : Int32) (x2 : Int32) (σ : SS) (Q : Int32 → SS → Prop) : Prop := wX4_aside x1 σ (fun r3 => wX4_choose x1 (x2 + r3) σ (fun r11 => (0 ≤ r11 → wX4_takePiece_b48 x1 (x2 + r3) r11 σ Q) ∧ (¬ 0 ≤ r11 → wX4_bringPages x1 ((((x2 + r3) + 64) - 1) / 64) σ (fun r32 σ32 => (¬ r32 = 0 → wX4_choose x1 (x2 + r3) σ32 (fun r43 => wX4_takePiece_b48 x1 (x2 + r3) r43 σ32 Q)) ∧ (r32 = 0 → Q ((-1)) σ32)))))
set_option maxRecDepth 100000 in
set_option maxHeartbeats 4000000 in
theorem kX4_takePiece_ok {l : Launch} {D : va_G} {cI cJ cZ : ClassId} {ad : Nat → Nat} {kv : Value} (x1 : Int32) (x2 : Int32) (σ0 : SS) {Q : Int32 → SS → Prop} (h : wX4_takePiece x1 x2 σ0 Q) : Ci l yX4_takePiece (.code yX4_takePiece cX4_takePiece 6 (some .int) :: TT) { frames := 5, cells := 0, slots := 0, locals := 115 } D (tys cI cJ cZ) (wX cI cJ ad kv) [.ref (ad 17), .int x1, .int x2] σ0 Q := by
  refine Ci.of (lv := [(0, .ref (ad 17)), (1, .int x1), (2, .int x2)]) (by decide) adX (Nat.le_of_ble_eq_true rfl) rfl ?_
  intro p e s m args below meth c A C
  have k48 : ∀ (x1 : Int32), ∀ (x3 : Int32), ∀ (x4 : Int32), ∀ (σ : SS), wX4_takePiece_b48 x1 x3 x4 σ Q → J p l e { frames := 5, cells := 0, slots := 0, locals := 115 } s m args below meth c D (wX cI cJ ad kv) A 6 (MQ below (va_Qi Q (WW D (tys cI cJ cZ) (wX cI cJ ad kv)) A) args s 0 0 A) σ 48 [(0, .ref (ad 17)), (1, .int x1), (3, .int x3), (4, .int x4)] [] := by
    intro x1 x3 x4 σ h
    refine j_aload_n C dX4_takePiece_48 0 rfl ?_
    refine gf_X4_9 C dX4_takePiece_49 ?_
    refine j_iload C dX4_takePiece_52 3 rfl ?_
    refine j_iload_n C dX4_takePiece_54 1 rfl ?_
    refine j_callpi 0 [.int x4, .int x1] [] C (kX3_freeAt_ok x4 x1 σ h) (tt_V ml_X4_24 mV_X3_freeAt) ok_X3_freeAt ⟨by decide, by decide⟩ rfl (r_wX_0 (σ := σ)) (Nat.le_of_ble_eq_true rfl) rfl dX4_takePiece_55 (fun r55 h => ?_)
    refine j_istore (lv' := [(5, .int r55), (0, .ref (ad 17)), (1, .int x1), (3, .int x3), (4, .int x4)]) C dX4_takePiece_58 (by decide) rfl ?_
    refine j_iload C dX4_takePiece_60 0 rfl ?_
    refine j_iload_n C dX4_takePiece_62 3 rfl ?_
    refine j_icmp_le 91 C dX4_takePiece_63 rfl h (fun h => ?_) (fun h => ?_)
    · refine j_iload C dX4_takePiece_91 4 rfl ?_
      exact j_iret C dX4_takePiece_93 h
    · refine j_aload_n C dX4_takePiece_66 1 rfl ?_
      refine gf_X4_9 C dX4_takePiece_67 ?_
      refine j_iload C dX4_takePiece_70 4 rfl ?_
      refine j_iload_n C dX4_takePiece_72 3 rfl ?_
      refine j_iadd C dX4_takePiece_73 ?_
      refine j_iload C dX4_takePiece_74 0 rfl ?_
      refine j_iload_n C dX4_takePiece_76 3 rfl ?_
      refine j_isub C dX4_takePiece_77 ?_
      refine j_callv 0 [.int (x4 + x3), .int (r55 - x3)] [] C (kX3_mark_ok (x4 + x3) (r55 - x3) σ h) (tt_V ml_X4_50 mV_X3_mark) ok_X3_mark ⟨by decide, by decide⟩ rfl (r_wX_0 (σ := σ)) (Nat.le_of_ble_eq_true rfl) rfl dX4_takePiece_78 (fun σ78 h => ?_)
      refine j_aload_n C dX4_takePiece_81 1 rfl ?_
      refine gf_X4_9 C dX4_takePiece_82 ?_
      refine j_iload C dX4_takePiece_85 4 rfl ?_
      refine j_iload_n C dX4_takePiece_87 3 rfl ?_
      refine j_callv 0 [.int x4, .int x3] [] C (kX3_mark_ok x4 x3 σ78 h) (tt_V ml_X4_50 mV_X3_mark) ok_X3_mark ⟨by decide, by decide⟩ rfl (r_wX_0 (σ := σ78)) (Nat.le_of_ble_eq_true rfl) rfl dX4_takePiece_88 (fun σ88 h => ?_)
      refine j_iload C dX4_takePiece_91 4 rfl ?_
      exact j_iret C dX4_takePiece_93 h
  refine j_iload_n C dX4_takePiece_0 2 rfl ?_
  refine j_aload_n C dX4_takePiece_1 0 rfl ?_
  refine j_iload_n C dX4_takePiece_2 1 rfl ?_
  refine j_callpi 17 [.int x1] [.int x2] C (kX4_aside_ok x1 σ0 h) (tt_V ml_X4_37 mV_X4_aside) ok_X4_aside ⟨by decide, by decide⟩ rfl (r_wX_17 (σ := σ0)) (Nat.le_of_ble_eq_true rfl) rfl dX4_takePiece_3 (fun r3 h => ?_)
  refine j_iadd C dX4_takePiece_6 ?_
  refine j_istore_n (lv' := [(3, .int (x2 + r3)), (0, .ref (ad 17)), (1, .int x1), (2, .int x2)]) C dX4_takePiece_7 (by decide) rfl ?_
  refine j_aload_n C dX4_takePiece_8 1 rfl ?_
  refine j_iload_n C dX4_takePiece_9 2 rfl ?_
  refine j_iload_n C dX4_takePiece_10 0 rfl ?_
  refine j_callpi 17 [.int x1, .int (x2 + r3)] [] C (kX4_choose_ok x1 (x2 + r3) σ0 h) (tt_V ml_X4_43 mV_X4_choose) ok_X4_choose ⟨by decide, by decide⟩ rfl (r_wX_17 (σ := σ0)) (Nat.le_of_ble_eq_true rfl) rfl dX4_takePiece_11 (fun r11 h => ?_)
  refine j_istore (lv' := [(4, .int r11), (3, .int (x2 + r3)), (0, .ref (ad 17)), (1, .int x1), (2, .int x2)]) C dX4_takePiece_14 (by decide) rfl ?_
  refine j_iload C dX4_takePiece_16 0 rfl ?_
  refine j_if_ge 48 C dX4_takePiece_18 rfl h (fun h => ?_) (fun h => ?_)
  · refine j_sub (lv' := [(0, .ref (ad 17)), (1, .int x1), (3, .int (x2 + r3)), (4, .int r11)]) [2, 3, 1, 0] rfl ?_
    exact k48 _ _ _ _ h
  · refine j_aload_n C dX4_takePiece_21 2 rfl ?_
    refine j_iload_n C dX4_takePiece_22 3 rfl ?_
    refine j_iload_n C dX4_takePiece_23 1 rfl ?_
    refine j_bipush (v := 64) C dX4_takePiece_24 (by decide) ?_
    refine j_iadd C dX4_takePiece_26 ?_
    refine j_iconst (v := 1) C dX4_takePiece_27 (by decide) ?_
    refine j_isub C dX4_takePiece_28 ?_
    refine j_bipush (v := 64) C dX4_takePiece_29 (by decide) ?_
    refine j_idiv C dX4_takePiece_31 (by decide) ?_
    refine j_calli 17 [.int x1, .int ((((x2 + r3) + 64) - 1) / 64)] [] C (kX4_bringPages_ok x1 ((((x2 + r3) + 64) - 1) / 64) σ0 h) (tt_V ml_X4_46 mV_X4_bringPages) ok_X4_bringPages ⟨by decide, by decide⟩ rfl (r_wX_17 (σ := σ0)) (Nat.le_of_ble_eq_true rfl) rfl dX4_takePiece_32 (fun r32 σ32 h => ?_)
    refine j_if_ne 40 C dX4_takePiece_35 rfl h (fun h => ?_) (fun h => ?_)
    · refine j_aload_n C dX4_takePiece_40 2 rfl ?_
      refine j_iload_n C dX4_takePiece_41 3 rfl ?_
      refine j_iload_n C dX4_takePiece_42 1 rfl ?_
      refine j_callpi 17 [.int x1, .int (x2 + r3)] [] C (kX4_choose_ok x1 (x2 + r3) σ32 h) (tt_V ml_X4_43 mV_X4_choose) ok_X4_choose ⟨by decide, by decide⟩ rfl (r_wX_17 (σ := σ32)) (Nat.le_of_ble_eq_true rfl) rfl dX4_takePiece_43 (fun r43 h => ?_)
      refine j_istore (lv' := [(4, .int r43), (3, .int (x2 + r3)), (0, .ref (ad 17)), (1, .int x1), (2, .int x2)]) C dX4_takePiece_46 (by decide) rfl ?_
      refine j_sub (lv' := [(0, .ref (ad 17)), (1, .int x1), (3, .int (x2 + r3)), (4, .int r43)]) [2, 3, 1, 0] rfl ?_
      exact k48 _ _ _ _ h
    · refine j_iconst (v := (-1)) C dX4_takePiece_38 (by decide) ?_
      exact j_iret C dX4_takePiece_39 h
def wX4_freeBehind (x1 : Int32) (σ : SS) (Q : Int32 → Prop) : Prop := vp_in x1 100 ∧ (vp_in x1 100 ∧ (vp_in x1 100 ∧ (wX3_freeAt ((gA σ 5 x1.toNatClampNeg) + (gA σ 6 x1.toNatClampNeg)) (gA σ 4 x1.toNatClampNeg) σ (fun r32 => Q r32))))
set_option maxRecDepth 100000 in
set_option maxHeartbeats 4000000 in
theorem kX4_freeBehind_ok {l : Launch} {D : va_G} {cI cJ cZ : ClassId} {ad : Nat → Nat} {kv : Value} (x1 : Int32) (σ0 : SS) {Q : Int32 → Prop} (h : wX4_freeBehind x1 σ0 Q) : Ci l yX4_freeBehind (.code yX4_freeBehind cX4_freeBehind 2 (some .int) :: TT) { frames := 3, cells := 0, slots := 0, locals := 63 } D (tys cI cJ cZ) (wX cI cJ ad kv) [.ref (ad 17), .int x1] σ0 (fun r σ' => σ' = σ0 ∧ Q r) := by
  refine Ci.of (lv := [(0, .ref (ad 17)), (1, .int x1)]) (by decide) adX (Nat.le_of_ble_eq_true rfl) rfl ?_
  intro p e s m args below meth c A C
  refine j_aload_n C dX4_freeBehind_0 0 rfl ?_
  refine gf_X4_9 C dX4_freeBehind_1 ?_
  refine j_aload_n C dX4_freeBehind_4 0 rfl ?_
  refine gf_X4_9 C dX4_freeBehind_5 ?_
  refine gf_X4_61 C dX4_freeBehind_8 ?_
  refine j_iload_n C dX4_freeBehind_11 1 rfl ?_
  refine al_wX_8 C h.1 dX4_freeBehind_12 ?_
  replace h := h.2
  refine j_aload_n C dX4_freeBehind_13 0 rfl ?_
  refine gf_X4_9 C dX4_freeBehind_14 ?_
  refine gf_X4_64 C dX4_freeBehind_17 ?_
  refine j_iload_n C dX4_freeBehind_20 1 rfl ?_
  refine al_wX_9 C h.1 dX4_freeBehind_21 ?_
  replace h := h.2
  refine j_iadd C dX4_freeBehind_22 ?_
  refine j_aload_n C dX4_freeBehind_23 0 rfl ?_
  refine gf_X4_9 C dX4_freeBehind_24 ?_
  refine gf_X4_67 C dX4_freeBehind_27 ?_
  refine j_iload_n C dX4_freeBehind_30 1 rfl ?_
  refine al_wX_7 C h.1 dX4_freeBehind_31 ?_
  replace h := h.2
  refine j_callpi 0 [.int ((gA σ0 5 x1.toNatClampNeg) + (gA σ0 6 x1.toNatClampNeg)), .int (gA σ0 4 x1.toNatClampNeg)] [] C (kX3_freeAt_ok ((gA σ0 5 x1.toNatClampNeg) + (gA σ0 6 x1.toNatClampNeg)) (gA σ0 4 x1.toNatClampNeg) σ0 h) (tt_V ml_X4_24 mV_X3_freeAt) ok_X3_freeAt ⟨by decide, by decide⟩ rfl (r_wX_0 (σ := σ0)) (Nat.le_of_ble_eq_true rfl) rfl dX4_freeBehind_32 (fun r32 h => ?_)
  exact j_iret C dX4_freeBehind_35 ⟨rfl, h⟩
def wX4_fits (x1 : Int32) (x2 : Int32) (σ : SS) (Q : Int32 → Prop) : Prop := vp_in x1 100 ∧ (wX4_freeBehind x1 σ (fun r14 => (r14 < (x2 - (gA σ 7 x1.toNatClampNeg)) → Q 0) ∧ (¬ r14 < (x2 - (gA σ 7 x1.toNatClampNeg)) → Q 1)))
set_option maxRecDepth 100000 in
set_option maxHeartbeats 4000000 in
theorem kX4_fits_ok {l : Launch} {D : va_G} {cI cJ cZ : ClassId} {ad : Nat → Nat} {kv : Value} (x1 : Int32) (x2 : Int32) (σ0 : SS) {Q : Int32 → Prop} (h : wX4_fits x1 x2 σ0 Q) : Ci l yX4_fits (.code yX4_fits cX4_fits 4 (some .boolean) :: TT) { frames := 4, cells := 0, slots := 0, locals := 84 } D (tys cI cJ cZ) (wX cI cJ ad kv) [.ref (ad 17), .int x1, .int x2] σ0 (fun r σ' => σ' = σ0 ∧ Q r) := by
  refine Ci.of (lv := [(0, .ref (ad 17)), (1, .int x1), (2, .int x2)]) (by decide) adX (Nat.le_of_ble_eq_true rfl) rfl ?_
  intro p e s m args below meth c A C
  refine j_iload_n C dX4_fits_0 2 rfl ?_
  refine j_aload_n C dX4_fits_1 0 rfl ?_
  refine gf_X4_9 C dX4_fits_2 ?_
  refine gf_X4_54 C dX4_fits_5 ?_
  refine j_iload_n C dX4_fits_8 1 rfl ?_
  refine al_wX_10 C h.1 dX4_fits_9 ?_
  replace h := h.2
  refine j_isub C dX4_fits_10 ?_
  refine j_istore_n (lv' := [(3, .int (x2 - (gA σ0 7 x1.toNatClampNeg))), (0, .ref (ad 17)), (1, .int x1), (2, .int x2)]) C dX4_fits_11 (by decide) rfl ?_
  refine j_aload_n C dX4_fits_12 1 rfl ?_
  refine j_iload_n C dX4_fits_13 2 rfl ?_
  refine j_callpi 17 [.int x1] [] C (kX4_freeBehind_ok x1 σ0 h) (tt_V ml_X4_58 mV_X4_freeBehind) ok_X4_freeBehind ⟨by decide, by decide⟩ rfl (r_wX_17 (σ := σ0)) (Nat.le_of_ble_eq_true rfl) rfl dX4_fits_14 (fun r14 h => ?_)
  refine j_iload_n C dX4_fits_17 0 rfl ?_
  refine j_icmp_lt 25 C dX4_fits_18 rfl h (fun h => ?_) (fun h => ?_)
  · refine j_iconst (v := 0) C dX4_fits_25 (by decide) ?_
    exact j_zret C dX4_fits_26 rfl ⟨rfl, h⟩
  · refine j_iconst (v := 1) C dX4_fits_21 (by decide) ?_
    refine j_goto 26 C dX4_fits_22 rfl ?_
    exact j_zret C dX4_fits_26 rfl ⟨rfl, h⟩
def wX4_reshape_b41 (x1 : Int32) (x2 : Int32) (x3 : Int32) (x4 : Int32) (σ : SS) (Q : SS → Prop) : Prop := vp_in x1 100 ∧ (wX4_aside (gA σ 4 x1.toNatClampNeg) σ (fun r60 => vp_in x1 100 ∧ (vp_in x1 100 ∧ (vp_in x1 100 ∧ (((x3 + x4) ≤ ((gA (sA σ 6 x1.toNatClampNeg (x2 + r60)) 5 x1.toNatClampNeg) + (gA (sA σ 6 x1.toNatClampNeg (x2 + r60)) 6 x1.toNatClampNeg)) → Q (sA σ 6 x1.toNatClampNeg (x2 + r60))) ∧ (¬ (x3 + x4) ≤ ((gA (sA σ 6 x1.toNatClampNeg (x2 + r60)) 5 x1.toNatClampNeg) + (gA (sA σ 6 x1.toNatClampNeg (x2 + r60)) 6 x1.toNatClampNeg)) → wX3_mark ((gA (sA σ 6 x1.toNatClampNeg (x2 + r60)) 5 x1.toNatClampNeg) + (gA (sA σ 6 x1.toNatClampNeg (x2 + r60)) 6 x1.toNatClampNeg)) ((x3 + x4) - ((gA (sA σ 6 x1.toNatClampNeg (x2 + r60)) 5 x1.toNatClampNeg) + (gA (sA σ 6 x1.toNatClampNeg (x2 + r60)) 6 x1.toNatClampNeg))) (sA σ 6 x1.toNatClampNeg (x2 + r60)) (fun σ108 => Q σ108)))))))
def wX4_reshape (x1 : Int32) (x2 : Int32) (σ : SS) (Q : SS → Prop) : Prop := vp_in x1 100 ∧ (vp_in x1 100 ∧ (wX4_freeBehind x1 σ (fun r22 => (r22 ≤ 0 → wX4_reshape_b41 x1 x2 ((gA σ 5 x1.toNatClampNeg) + (gA σ 6 x1.toNatClampNeg)) r22 σ Q) ∧ (¬ r22 ≤ 0 → wX3_mark ((gA σ 5 x1.toNatClampNeg) + (gA σ 6 x1.toNatClampNeg)) 0 σ (fun σ38 => wX4_reshape_b41 x1 x2 ((gA σ 5 x1.toNatClampNeg) + (gA σ 6 x1.toNatClampNeg)) r22 σ38 Q)))))
set_option maxRecDepth 100000 in
set_option maxHeartbeats 4000000 in
theorem kX4_reshape_ok {l : Launch} {D : va_G} {cI cJ cZ : ClassId} {ad : Nat → Nat} {kv : Value} (x1 : Int32) (x2 : Int32) (σ0 : SS) {Q : SS → Prop} (h : wX4_reshape x1 x2 σ0 Q) : Cv l yX4_reshape (.code yX4_reshape cX4_reshape 6 none :: TT) { frames := 4, cells := 0, slots := 0, locals := 84 } D (tys cI cJ cZ) (wX cI cJ ad kv) [.ref (ad 17), .int x1, .int x2] σ0 Q := by
  refine Cv.of (lv := [(0, .ref (ad 17)), (1, .int x1), (2, .int x2)]) (by decide) adX (Nat.le_of_ble_eq_true rfl) rfl ?_
  intro p e s m args below meth c A C
  have k41 : ∀ (x1 : Int32), ∀ (x2 : Int32), ∀ (x3 : Int32), ∀ (x4 : Int32), ∀ (σ : SS), wX4_reshape_b41 x1 x2 x3 x4 σ Q → J p l e { frames := 4, cells := 0, slots := 0, locals := 84 } s m args below meth c D (wX cI cJ ad kv) A 6 (MQ below (va_Qv Q (WW D (tys cI cJ cZ) (wX cI cJ ad kv)) A) args s 0 0 A) σ 41 [(0, .ref (ad 17)), (1, .int x1), (2, .int x2), (3, .int x3), (4, .int x4)] [] := by
    intro x1 x2 x3 x4 σ h
    refine j_aload_n C dX4_reshape_41 0 rfl ?_
    refine gf_X4_9 C dX4_reshape_42 ?_
    refine gf_X4_64 C dX4_reshape_45 ?_
    refine j_iload_n C dX4_reshape_48 1 rfl ?_
    refine j_iload_n C dX4_reshape_49 2 rfl ?_
    refine j_aload_n C dX4_reshape_50 0 rfl ?_
    refine j_aload_n C dX4_reshape_51 0 rfl ?_
    refine gf_X4_9 C dX4_reshape_52 ?_
    refine gf_X4_67 C dX4_reshape_55 ?_
    refine j_iload_n C dX4_reshape_58 1 rfl ?_
    refine al_wX_7 C h.1 dX4_reshape_59 ?_
    replace h := h.2
    refine j_callpi 17 [.int (gA σ 4 x1.toNatClampNeg)] [.int x2, .int x1, .ref (ad 9)] C (kX4_aside_ok (gA σ 4 x1.toNatClampNeg) σ h) (tt_V ml_X4_37 mV_X4_aside) ok_X4_aside ⟨by decide, by decide⟩ rfl (r_wX_17 (σ := σ)) (Nat.le_of_ble_eq_true rfl) rfl dX4_reshape_60 (fun r60 h => ?_)
    refine j_iadd C dX4_reshape_63 ?_
    refine as_wX_9 C h.1 dX4_reshape_64 ?_
    replace h := h.2
    refine j_aload_n C dX4_reshape_65 0 rfl ?_
    refine gf_X4_9 C dX4_reshape_66 ?_
    refine gf_X4_61 C dX4_reshape_69 ?_
    refine j_iload_n C dX4_reshape_72 1 rfl ?_
    refine al_wX_8 C h.1 dX4_reshape_73 ?_
    replace h := h.2
    refine j_aload_n C dX4_reshape_74 0 rfl ?_
    refine gf_X4_9 C dX4_reshape_75 ?_
    refine gf_X4_64 C dX4_reshape_78 ?_
    refine j_iload_n C dX4_reshape_81 1 rfl ?_
    refine al_wX_9 C h.1 dX4_reshape_82 ?_
    replace h := h.2
    refine j_iadd C dX4_reshape_83 ?_
    refine j_istore (lv' := [(5, .int ((gA (sA σ 6 x1.toNatClampNeg (x2 + r60)) 5 x1.toNatClampNeg) + (gA (sA σ 6 x1.toNatClampNeg (x2 + r60)) 6 x1.toNatClampNeg))), (0, .ref (ad 17)), (1, .int x1), (2, .int x2), (3, .int x3), (4, .int x4)]) C dX4_reshape_84 (by decide) rfl ?_
    refine j_iload C dX4_reshape_86 0 rfl ?_
    refine j_iload_n C dX4_reshape_88 4 rfl ?_
    refine j_iload C dX4_reshape_89 5 rfl ?_
    refine j_iadd C dX4_reshape_91 ?_
    refine j_icmp_ge 111 C dX4_reshape_92 rfl h (fun h => ?_) (fun h => ?_)
    · exact j_vret C dX4_reshape_111 h
    · refine j_aload_n C dX4_reshape_95 1 rfl ?_
      refine gf_X4_9 C dX4_reshape_96 ?_
      refine j_iload C dX4_reshape_99 0 rfl ?_
      refine j_iload_n C dX4_reshape_101 4 rfl ?_
      refine j_iload C dX4_reshape_102 5 rfl ?_
      refine j_iadd C dX4_reshape_104 ?_
      refine j_iload C dX4_reshape_105 0 rfl ?_
      refine j_isub C dX4_reshape_107 ?_
      refine j_callv 0 [.int ((gA (sA σ 6 x1.toNatClampNeg (x2 + r60)) 5 x1.toNatClampNeg) + (gA (sA σ 6 x1.toNatClampNeg (x2 + r60)) 6 x1.toNatClampNeg)), .int ((x3 + x4) - ((gA (sA σ 6 x1.toNatClampNeg (x2 + r60)) 5 x1.toNatClampNeg) + (gA (sA σ 6 x1.toNatClampNeg (x2 + r60)) 6 x1.toNatClampNeg)))] [] C (kX3_mark_ok ((gA (sA σ 6 x1.toNatClampNeg (x2 + r60)) 5 x1.toNatClampNeg) + (gA (sA σ 6 x1.toNatClampNeg (x2 + r60)) 6 x1.toNatClampNeg)) ((x3 + x4) - ((gA (sA σ 6 x1.toNatClampNeg (x2 + r60)) 5 x1.toNatClampNeg) + (gA (sA σ 6 x1.toNatClampNeg (x2 + r60)) 6 x1.toNatClampNeg))) (sA σ 6 x1.toNatClampNeg (x2 + r60)) h) (tt_V ml_X4_50 mV_X3_mark) ok_X3_mark ⟨by decide, by decide⟩ rfl (r_wX_0 (σ := sA σ 6 x1.toNatClampNeg (x2 + r60))) (Nat.le_of_ble_eq_true rfl) rfl dX4_reshape_108 (fun σ108 h => ?_)
      exact j_vret C dX4_reshape_111 h
  refine j_aload_n C dX4_reshape_0 0 rfl ?_
  refine gf_X4_9 C dX4_reshape_1 ?_
  refine gf_X4_61 C dX4_reshape_4 ?_
  refine j_iload_n C dX4_reshape_7 1 rfl ?_
  refine al_wX_8 C h.1 dX4_reshape_8 ?_
  replace h := h.2
  refine j_aload_n C dX4_reshape_9 0 rfl ?_
  refine gf_X4_9 C dX4_reshape_10 ?_
  refine gf_X4_64 C dX4_reshape_13 ?_
  refine j_iload_n C dX4_reshape_16 1 rfl ?_
  refine al_wX_9 C h.1 dX4_reshape_17 ?_
  replace h := h.2
  refine j_iadd C dX4_reshape_18 ?_
  refine j_istore_n (lv' := [(3, .int ((gA σ0 5 x1.toNatClampNeg) + (gA σ0 6 x1.toNatClampNeg))), (0, .ref (ad 17)), (1, .int x1), (2, .int x2)]) C dX4_reshape_19 (by decide) rfl ?_
  refine j_aload_n C dX4_reshape_20 1 rfl ?_
  refine j_iload_n C dX4_reshape_21 2 rfl ?_
  refine j_callpi 17 [.int x1] [] C (kX4_freeBehind_ok x1 σ0 h) (tt_V ml_X4_58 mV_X4_freeBehind) ok_X4_freeBehind ⟨by decide, by decide⟩ rfl (r_wX_17 (σ := σ0)) (Nat.le_of_ble_eq_true rfl) rfl dX4_reshape_22 (fun r22 h => ?_)
  refine j_istore (lv' := [(4, .int r22), (3, .int ((gA σ0 5 x1.toNatClampNeg) + (gA σ0 6 x1.toNatClampNeg))), (0, .ref (ad 17)), (1, .int x1), (2, .int x2)]) C dX4_reshape_25 (by decide) rfl ?_
  refine j_iload C dX4_reshape_27 0 rfl ?_
  refine j_if_le 41 C dX4_reshape_29 rfl h (fun h => ?_) (fun h => ?_)
  · refine j_sub (lv' := [(0, .ref (ad 17)), (1, .int x1), (2, .int x2), (3, .int ((gA σ0 5 x1.toNatClampNeg) + (gA σ0 6 x1.toNatClampNeg))), (4, .int r22)]) [2, 3, 4, 1, 0] rfl ?_
    exact k41 _ _ _ _ _ h
  · refine j_aload_n C dX4_reshape_32 2 rfl ?_
    refine gf_X4_9 C dX4_reshape_33 ?_
    refine j_iload_n C dX4_reshape_36 1 rfl ?_
    refine j_iconst (v := 0) C dX4_reshape_37 (by decide) ?_
    refine j_callv 0 [.int ((gA σ0 5 x1.toNatClampNeg) + (gA σ0 6 x1.toNatClampNeg)), .int 0] [] C (kX3_mark_ok ((gA σ0 5 x1.toNatClampNeg) + (gA σ0 6 x1.toNatClampNeg)) 0 σ0 h) (tt_V ml_X4_50 mV_X3_mark) ok_X3_mark ⟨by decide, by decide⟩ rfl (r_wX_0 (σ := σ0)) (Nat.le_of_ble_eq_true rfl) rfl dX4_reshape_38 (fun σ38 h => ?_)
    refine j_sub (lv' := [(0, .ref (ad 17)), (1, .int x1), (2, .int x2), (3, .int ((gA σ0 5 x1.toNatClampNeg) + (gA σ0 6 x1.toNatClampNeg))), (4, .int r22)]) [2, 3, 4, 1, 0] rfl ?_
    exact k41 _ _ _ _ _ h
def wX4_letGoPages_b62 (x1 : Int32) (x2 : Int32) (x3 : Int32) (x4 : Int32) (σ : SS) (Q : SS → Prop) : Prop := wX3_mark x1 ((x3 * 64) - x1) σ (fun σ73 => (x2 ≤ (x4 * 64) → Q σ73) ∧ (¬ x2 ≤ (x4 * 64) → wX3_mark (x4 * 64) (x2 - (x4 * 64)) σ73 (fun σ101 => Q σ101)))
def wX4_letGoPages_b26 (x1 : Int32) (x2 : Int32) (x3 : Int32) (x4 : Int32) (x5 : Int32) (σ : SS) (Q : SS → Prop) : Prop := lfp (fun (X26 : Int32 × SS → Prop) (t : Int32 × SS) => (x4 ≤ t.1 → wX4_letGoPages_b62 x1 x2 x3 x4 t.2 Q) ∧ (¬ x4 ≤ t.1 → ((gI t.2 0) ≤ t.1 → wX4_letGoPages_b62 x1 x2 x3 x4 t.2 Q) ∧ (¬ (gI t.2 0) ≤ t.1 → vp_in t.1 40 ∧ (X26 ((t.1 + 1), sA t.2 0 t.1.toNatClampNeg ((-1))))))) (x5, σ)
def wX4_letGoPages (x1 : Int32) (x2 : Int32) (σ : SS) (Q : SS → Prop) : Prop := ((((x1 + 64) - 1) / 64) < (x2 / 64) → wX4_letGoPages_b26 x1 x2 (((x1 + 64) - 1) / 64) (x2 / 64) (((x1 + 64) - 1) / 64) σ Q) ∧ (¬ (((x1 + 64) - 1) / 64) < (x2 / 64) → Q σ)
set_option maxRecDepth 100000 in
set_option maxHeartbeats 4000000 in
theorem kX4_letGoPages_ok {l : Launch} {D : va_G} {cI cJ cZ : ClassId} {ad : Nat → Nat} {kv : Value} (x1 : Int32) (x2 : Int32) (σ0 : SS) {Q : SS → Prop} (h : wX4_letGoPages x1 x2 σ0 Q) : Cv l yX4_letGoPages (.code yX4_letGoPages cX4_letGoPages 6 none :: TT) { frames := 1, cells := 0, slots := 0, locals := 22 } D (tys cI cJ cZ) (wX cI cJ ad kv) [.ref (ad 17), .int x1, .int x2] σ0 Q := by
  refine Cv.of (lv := [(0, .ref (ad 17)), (1, .int x1), (2, .int x2)]) (by decide) adX (Nat.le_of_ble_eq_true rfl) rfl ?_
  intro p e s m args below meth c A C
  have k62 : ∀ (x1 : Int32), ∀ (x2 : Int32), ∀ (x3 : Int32), ∀ (x4 : Int32), ∀ (σ : SS), wX4_letGoPages_b62 x1 x2 x3 x4 σ Q → J p l e { frames := 1, cells := 0, slots := 0, locals := 22 } s m args below meth c D (wX cI cJ ad kv) A 6 (MQ below (va_Qv Q (WW D (tys cI cJ cZ) (wX cI cJ ad kv)) A) args s 0 0 A) σ 62 [(0, .ref (ad 17)), (1, .int x1), (2, .int x2), (3, .int x3), (4, .int x4)] [] := by
    intro x1 x2 x3 x4 σ h
    refine j_aload_n C dX4_letGoPages_62 0 rfl ?_
    refine gf_X4_9 C dX4_letGoPages_63 ?_
    refine j_iload_n C dX4_letGoPages_66 1 rfl ?_
    refine j_iload_n C dX4_letGoPages_67 3 rfl ?_
    refine j_bipush (v := 64) C dX4_letGoPages_68 (by decide) ?_
    refine j_imul C dX4_letGoPages_70 ?_
    refine j_iload_n C dX4_letGoPages_71 1 rfl ?_
    refine j_isub C dX4_letGoPages_72 ?_
    refine j_callv 0 [.int x1, .int ((x3 * 64) - x1)] [] C (kX3_mark_ok x1 ((x3 * 64) - x1) σ h) (tt_V ml_X4_50 mV_X3_mark) ok_X3_mark ⟨by decide, by decide⟩ rfl (r_wX_0 (σ := σ)) (Nat.le_of_ble_eq_true rfl) rfl dX4_letGoPages_73 (fun σ73 h => ?_)
    refine j_iload C dX4_letGoPages_76 4 rfl ?_
    refine j_bipush (v := 64) C dX4_letGoPages_78 (by decide) ?_
    refine j_imul C dX4_letGoPages_80 ?_
    refine j_iload_n C dX4_letGoPages_81 2 rfl ?_
    refine j_icmp_ge 104 C dX4_letGoPages_82 rfl h (fun h => ?_) (fun h => ?_)
    · exact j_vret C dX4_letGoPages_104 h
    · refine j_aload_n C dX4_letGoPages_85 0 rfl ?_
      refine gf_X4_9 C dX4_letGoPages_86 ?_
      refine j_iload C dX4_letGoPages_89 4 rfl ?_
      refine j_bipush (v := 64) C dX4_letGoPages_91 (by decide) ?_
      refine j_imul C dX4_letGoPages_93 ?_
      refine j_iload_n C dX4_letGoPages_94 2 rfl ?_
      refine j_iload C dX4_letGoPages_95 4 rfl ?_
      refine j_bipush (v := 64) C dX4_letGoPages_97 (by decide) ?_
      refine j_imul C dX4_letGoPages_99 ?_
      refine j_isub C dX4_letGoPages_100 ?_
      refine j_callv 0 [.int (x4 * 64), .int (x2 - (x4 * 64))] [] C (kX3_mark_ok (x4 * 64) (x2 - (x4 * 64)) σ73 h) (tt_V ml_X4_50 mV_X3_mark) ok_X3_mark ⟨by decide, by decide⟩ rfl (r_wX_0 (σ := σ73)) (Nat.le_of_ble_eq_true rfl) rfl dX4_letGoPages_101 (fun σ101 h => ?_)
      exact j_vret C dX4_letGoPages_104 h
  have k26 : ∀ (x1 : Int32), ∀ (x2 : Int32), ∀ (x3 : Int32), ∀ (x4 : Int32), ∀ (x5 : Int32), ∀ (σ : SS), wX4_letGoPages_b26 x1 x2 x3 x4 x5 σ Q → J p l e { frames := 1, cells := 0, slots := 0, locals := 22 } s m args below meth c D (wX cI cJ ad kv) A 6 (MQ below (va_Qv Q (WW D (tys cI cJ cZ) (wX cI cJ ad kv)) A) args s 0 0 A) σ 26 [(0, .ref (ad 17)), (1, .int x1), (2, .int x2), (3, .int x3), (4, .int x4), (5, .int x5)] [] := by
    intro x1 x2 x3 x4 x5 σ h
    refine h (fun t => J p l e { frames := 1, cells := 0, slots := 0, locals := 22 } s m args below meth c D (wX cI cJ ad kv) A 6 (MQ below (va_Qv Q (WW D (tys cI cJ cZ) (wX cI cJ ad kv)) A) args s 0 0 A) t.2 26 [(0, .ref (ad 17)), (1, .int x1), (2, .int x2), (3, .int x3), (4, .int x4), (5, .int t.1)] []) (fun t h => ?_)
    obtain ⟨x5, σ⟩ := t
    try dsimp only at h
    refine j_iload C dX4_letGoPages_26 5 rfl ?_
    refine j_iload C dX4_letGoPages_28 4 rfl ?_
    refine j_icmp_ge 62 C dX4_letGoPages_30 rfl h (fun h => ?_) (fun h => ?_)
    · refine j_sub (lv' := [(0, .ref (ad 17)), (1, .int x1), (2, .int x2), (3, .int x3), (4, .int x4)]) [0, 1, 2, 3, 4] rfl ?_
      exact k62 _ _ _ _ _ h
    · refine j_iload C dX4_letGoPages_33 5 rfl ?_
      refine j_aload_n C dX4_letGoPages_35 0 rfl ?_
      refine gf_X4_9 C dX4_letGoPages_36 ?_
      refine gf_X4_90 C dX4_letGoPages_39 ?_
      refine j_icmp_ge 62 C dX4_letGoPages_42 rfl h (fun h => ?_) (fun h => ?_)
      · refine j_sub (lv' := [(0, .ref (ad 17)), (1, .int x1), (2, .int x2), (3, .int x3), (4, .int x4)]) [0, 1, 2, 3, 4] rfl ?_
        exact k62 _ _ _ _ _ h
      · refine j_aload_n C dX4_letGoPages_45 0 rfl ?_
        refine gf_X4_9 C dX4_letGoPages_46 ?_
        refine gf_X4_87 C dX4_letGoPages_49 ?_
        refine j_iload C dX4_letGoPages_52 5 rfl ?_
        refine j_iconst (v := (-1)) C dX4_letGoPages_54 (by decide) ?_
        refine as_wX_1 C h.1 dX4_letGoPages_55 ?_
        replace h := h.2
        refine j_iinc (lv' := [(5, .int (x5 + 1)), (0, .ref (ad 17)), (1, .int x1), (2, .int x2), (3, .int x3), (4, .int x4)]) (x5 + 1) C dX4_letGoPages_56 5 rfl rfl (by decide) rfl ?_
        refine j_goto 26 C dX4_letGoPages_59 rfl ?_
        refine j_sub (lv' := [(0, .ref (ad 17)), (1, .int x1), (2, .int x2), (3, .int x3), (4, .int x4), (5, .int (x5 + 1))]) [1, 2, 3, 4, 5, 0] rfl ?_
        exact h
  refine j_iload_n C dX4_letGoPages_0 1 rfl ?_
  refine j_bipush (v := 64) C dX4_letGoPages_1 (by decide) ?_
  refine j_iadd C dX4_letGoPages_3 ?_
  refine j_iconst (v := 1) C dX4_letGoPages_4 (by decide) ?_
  refine j_isub C dX4_letGoPages_5 ?_
  refine j_bipush (v := 64) C dX4_letGoPages_6 (by decide) ?_
  refine j_idiv C dX4_letGoPages_8 (by decide) ?_
  refine j_istore_n (lv' := [(3, .int (((x1 + 64) - 1) / 64)), (0, .ref (ad 17)), (1, .int x1), (2, .int x2)]) C dX4_letGoPages_9 (by decide) rfl ?_
  refine j_iload_n C dX4_letGoPages_10 3 rfl ?_
  refine j_bipush (v := 64) C dX4_letGoPages_11 (by decide) ?_
  refine j_idiv C dX4_letGoPages_13 (by decide) ?_
  refine j_istore (lv' := [(4, .int (x2 / 64)), (3, .int (((x1 + 64) - 1) / 64)), (0, .ref (ad 17)), (1, .int x1), (2, .int x2)]) C dX4_letGoPages_14 (by decide) rfl ?_
  refine j_iload_n C dX4_letGoPages_16 1 rfl ?_
  refine j_iload C dX4_letGoPages_17 0 rfl ?_
  refine j_icmp_lt 23 C dX4_letGoPages_19 rfl h (fun h => ?_) (fun h => ?_)
  · refine j_iload_n C dX4_letGoPages_23 1 rfl ?_
    refine j_istore (lv' := [(5, .int (((x1 + 64) - 1) / 64)), (4, .int (x2 / 64)), (3, .int (((x1 + 64) - 1) / 64)), (0, .ref (ad 17)), (1, .int x1), (2, .int x2)]) C dX4_letGoPages_24 (by decide) rfl ?_
    refine j_sub (lv' := [(0, .ref (ad 17)), (1, .int x1), (2, .int x2), (3, .int (((x1 + 64) - 1) / 64)), (4, .int (x2 / 64)), (5, .int (((x1 + 64) - 1) / 64))]) [3, 4, 5, 2, 1, 0] rfl ?_
    exact k26 _ _ _ _ _ _ h
  · exact j_vret C dX4_letGoPages_22 h
def wX4_tidy_b51 (X7 : Int32 × SS → Prop) (x1 : Int32) (x3 : Int32) (σ : SS) (Q : SS → Prop) : Prop := X7 (x3, σ)
def wX4_tidy_b7 (x1 : Int32) (x2 : Int32) (σ : SS) (Q : SS → Prop) : Prop := lfp (fun (X7 : Int32 × SS → Prop) (t : Int32 × SS) => wX3_places t.2 (fun r12 => (r12 ≤ t.1 → Q t.2) ∧ (¬ r12 ≤ t.1 → wX3_endOf t.1 t.2 (fun r26 => wX3_freeAt t.1 x1 t.2 (fun r39 => (r39 ≤ 0 → wX4_tidy_b51 X7 x1 (if (t.1 + 1) < r26 then r26 else (t.1 + 1)) t.2 Q) ∧ (¬ r39 ≤ 0 → wX4_letGoPages t.1 (if (t.1 + 1) < r26 then r26 else (t.1 + 1)) t.2 (fun σ48 => wX4_tidy_b51 X7 x1 (if (t.1 + 1) < r26 then r26 else (t.1 + 1)) σ48 Q))))))) (x2, σ)
def wX4_tidy (x1 : Int32) (σ : SS) (Q : SS → Prop) : Prop := wX4_joinTouching x1 σ (fun σ2 => wX4_tidy_b7 x1 0 σ2 Q)
set_option maxRecDepth 100000 in
set_option maxHeartbeats 4000000 in
theorem kX4_tidy_ok {l : Launch} {D : va_G} {cI cJ cZ : ClassId} {ad : Nat → Nat} {kv : Value} (x1 : Int32) (σ0 : SS) {Q : SS → Prop} (h : wX4_tidy x1 σ0 Q) : Cv l yX4_tidy (.code yX4_tidy cX4_tidy 4 none :: TT) { frames := 4, cells := 0, slots := 0, locals := 91 } D (tys cI cJ cZ) (wX cI cJ ad kv) [.ref (ad 17), .int x1] σ0 Q := by
  refine Cv.of (lv := [(0, .ref (ad 17)), (1, .int x1)]) (by decide) adX (Nat.le_of_ble_eq_true rfl) rfl ?_
  intro p e s m args below meth c A C
  have k51 : ∀ (x1 : Int32), ∀ (x3 : Int32), ∀ (σ : SS), ∀ (X7 : Int32 × SS → Prop), (∀ t : Int32 × SS, X7 t → J p l e { frames := 4, cells := 0, slots := 0, locals := 91 } s m args below meth c D (wX cI cJ ad kv) A 4 (MQ below (va_Qv Q (WW D (tys cI cJ cZ) (wX cI cJ ad kv)) A) args s 0 0 A) t.2 7 [(0, .ref (ad 17)), (1, .int x1), (2, .int t.1)] []) → wX4_tidy_b51 X7 x1 x3 σ Q → J p l e { frames := 4, cells := 0, slots := 0, locals := 91 } s m args below meth c D (wX cI cJ ad kv) A 4 (MQ below (va_Qv Q (WW D (tys cI cJ cZ) (wX cI cJ ad kv)) A) args s 0 0 A) σ 51 [(0, .ref (ad 17)), (1, .int x1), (3, .int x3)] [] := by
    intro x1 x3 σ X7 hX7 h
    refine j_iload_n C dX4_tidy_51 2 rfl ?_
    refine j_istore_n (lv' := [(2, .int x3), (0, .ref (ad 17)), (1, .int x1), (3, .int x3)]) C dX4_tidy_52 (by decide) rfl ?_
    refine j_goto 7 C dX4_tidy_53 rfl ?_
    refine j_sub (lv' := [(0, .ref (ad 17)), (1, .int x1), (2, .int x3)]) [1, 2, 0] rfl ?_
    exact hX7 _ h
  have k7 : ∀ (x1 : Int32), ∀ (x2 : Int32), ∀ (σ : SS), wX4_tidy_b7 x1 x2 σ Q → J p l e { frames := 4, cells := 0, slots := 0, locals := 91 } s m args below meth c D (wX cI cJ ad kv) A 4 (MQ below (va_Qv Q (WW D (tys cI cJ cZ) (wX cI cJ ad kv)) A) args s 0 0 A) σ 7 [(0, .ref (ad 17)), (1, .int x1), (2, .int x2)] [] := by
    intro x1 x2 σ h
    refine h (fun t => J p l e { frames := 4, cells := 0, slots := 0, locals := 91 } s m args below meth c D (wX cI cJ ad kv) A 4 (MQ below (va_Qv Q (WW D (tys cI cJ cZ) (wX cI cJ ad kv)) A) args s 0 0 A) t.2 7 [(0, .ref (ad 17)), (1, .int x1), (2, .int t.1)] []) (fun t h => ?_)
    obtain ⟨x2, σ⟩ := t
    try dsimp only at h
    refine j_iload_n C dX4_tidy_7 2 rfl ?_
    refine j_aload_n C dX4_tidy_8 0 rfl ?_
    refine gf_X4_9 C dX4_tidy_9 ?_
    refine j_callpi 0 [] [.int x2] C (kX3_places_ok σ h) (tt_V ml_X4_21 mV_X3_places) ok_X3_places ⟨by decide, by decide⟩ rfl (r_wX_0 (σ := σ)) (Nat.le_of_ble_eq_true rfl) rfl dX4_tidy_12 (fun r12 h => ?_)
    refine j_icmp_ge 56 C dX4_tidy_15 rfl h (fun h => ?_) (fun h => ?_)
    · exact j_vret C dX4_tidy_56 h
    · refine j_iload_n C dX4_tidy_18 2 rfl ?_
      refine j_iconst (v := 1) C dX4_tidy_19 (by decide) ?_
      refine j_iadd C dX4_tidy_20 ?_
      refine j_aload_n C dX4_tidy_21 0 rfl ?_
      refine gf_X4_9 C dX4_tidy_22 ?_
      refine j_iload_n C dX4_tidy_25 2 rfl ?_
      refine j_callpi 0 [.int x2] [.int (x2 + 1)] C (kX3_endOf_ok x2 σ h) (tt_V ml_X4_33 mV_X3_endOf) ok_X3_endOf ⟨by decide, by decide⟩ rfl (r_wX_0 (σ := σ)) (Nat.le_of_ble_eq_true rfl) rfl dX4_tidy_26 (fun r26 h => ?_)
      refine j_mmax C ml_X4_28 mst_max mi_J9 mc_max ⟨by decide, (Nat.le_of_ble_eq_true rfl)⟩ dX4_tidy_29 ?_
      refine j_istore_n (lv' := [(3, .int (if (x2 + 1) < r26 then r26 else (x2 + 1))), (0, .ref (ad 17)), (1, .int x1), (2, .int x2)]) C dX4_tidy_32 (by decide) rfl ?_
      refine j_aload_n C dX4_tidy_33 1 rfl ?_
      refine gf_X4_9 C dX4_tidy_34 ?_
      refine j_iload_n C dX4_tidy_37 3 rfl ?_
      refine j_iload_n C dX4_tidy_38 2 rfl ?_
      refine j_callpi 0 [.int x2, .int x1] [] C (kX3_freeAt_ok x2 x1 σ h) (tt_V ml_X4_24 mV_X3_freeAt) ok_X3_freeAt ⟨by decide, by decide⟩ rfl (r_wX_0 (σ := σ)) (Nat.le_of_ble_eq_true rfl) rfl dX4_tidy_39 (fun r39 h => ?_)
      refine j_if_le 51 C dX4_tidy_42 rfl h (fun h => ?_) (fun h => ?_)
      · refine j_sub (lv' := [(0, .ref (ad 17)), (1, .int x1), (3, .int (if (x2 + 1) < r26 then r26 else (x2 + 1)))]) [1, 2, 0] rfl ?_
        exact k51 _ _ _ _ (fun _ z => z) h
      · refine j_aload_n C dX4_tidy_45 1 rfl ?_
        refine j_iload_n C dX4_tidy_46 3 rfl ?_
        refine j_iload_n C dX4_tidy_47 0 rfl ?_
        refine j_callv 17 [.int x2, .int (if (x2 + 1) < r26 then r26 else (x2 + 1))] [] C (kX4_letGoPages_ok x2 (if (x2 + 1) < r26 then r26 else (x2 + 1)) σ h) (tt_V ml_X4_74 mV_X4_letGoPages) ok_X4_letGoPages ⟨by decide, by decide⟩ rfl (r_wX_17 (σ := σ)) (Nat.le_of_ble_eq_true rfl) rfl dX4_tidy_48 (fun σ48 h => ?_)
        refine j_sub (lv' := [(0, .ref (ad 17)), (1, .int x1), (3, .int (if (x2 + 1) < r26 then r26 else (x2 + 1)))]) [1, 2, 0] rfl ?_
        exact k51 _ _ _ _ (fun _ z => z) h
  refine j_aload_n C dX4_tidy_0 0 rfl ?_
  refine j_iload_n C dX4_tidy_1 1 rfl ?_
  refine j_callv 17 [.int x1] [] C (kX4_joinTouching_ok x1 σ0 h) (tt_V ml_X4_70 mV_X4_joinTouching) ok_X4_joinTouching ⟨by decide, by decide⟩ rfl (r_wX_17 (σ := σ0)) (Nat.le_of_ble_eq_true rfl) rfl dX4_tidy_2 (fun σ2 h => ?_)
  refine j_iconst (v := 0) C dX4_tidy_5 (by decide) ?_
  refine j_istore_n (lv' := [(2, .int 0), (0, .ref (ad 17)), (1, .int x1)]) C dX4_tidy_6 (by decide) rfl ?_
  refine j_sub (lv' := [(0, .ref (ad 17)), (1, .int x1), (2, .int 0)]) [1, 2, 0] rfl ?_
  exact k7 _ _ _ h
def wX5_mostOf (x1 : Int32) (σ : SS) (Q : Int32 → Prop) : Prop := wX3_classOf x1 σ (fun r5 => Q r5)
set_option maxRecDepth 100000 in
set_option maxHeartbeats 4000000 in
theorem kX5_mostOf_ok {l : Launch} {D : va_G} {cI cJ cZ : ClassId} {ad : Nat → Nat} {kv : Value} (x1 : Int32) (σ0 : SS) {Q : Int32 → Prop} (h : wX5_mostOf x1 σ0 Q) : Ci l yX5_mostOf (.code yX5_mostOf cX5_mostOf 2 (some .int) :: TT) { frames := 2, cells := 0, slots := 0, locals := 45 } D (tys cI cJ cZ) (wX cI cJ ad kv) [.ref (ad 15), .int x1] σ0 (fun r σ' => σ' = σ0 ∧ Q r) := by
  refine Ci.of (lv := [(0, .ref (ad 15)), (1, .int x1)]) (by decide) adX (Nat.le_of_ble_eq_true rfl) rfl ?_
  intro p e s m args below meth c A C
  refine j_aload_n C dX5_mostOf_0 0 rfl ?_
  refine gf_X5_9 C dX5_mostOf_1 ?_
  refine j_iload_n C dX5_mostOf_4 1 rfl ?_
  refine j_callpi 0 [.int x1] [] C (kX3_classOf_ok x1 σ0 h) (tt_V ml_X5_15 mV_X3_classOf) ok_X3_classOf ⟨by decide, by decide⟩ rfl (r_wX_0 (σ := σ0)) (Nat.le_of_ble_eq_true rfl) rfl dX5_mostOf_5 (fun r5 h => ?_)
  exact j_iret C dX5_mostOf_8 ⟨rfl, h⟩
def wX5_lowestFree_b2 (x1 : Int32) (x2 : Int32) (σ : SS) (Q : Int32 → Prop) : Prop := lfp (fun (X2 : Int32 → Prop) (t : Int32) => wX3_places σ (fun r7 => (r7 ≤ t → Q ((-1))) ∧ (¬ r7 ≤ t → wX3_freeAt t x1 σ (fun r19 => (r19 ≤ 0 → wX3_endOf t σ (fun r35 => X2 ((if (t + 1) < r35 then r35 else (t + 1))))) ∧ (¬ r19 ≤ 0 → Q t))))) x2
def wX5_lowestFree (x1 : Int32) (σ : SS) (Q : Int32 → Prop) : Prop := wX5_lowestFree_b2 x1 0 σ Q
set_option maxRecDepth 100000 in
set_option maxHeartbeats 4000000 in
theorem kX5_lowestFree_ok {l : Launch} {D : va_G} {cI cJ cZ : ClassId} {ad : Nat → Nat} {kv : Value} (x1 : Int32) (σ0 : SS) {Q : Int32 → Prop} (h : wX5_lowestFree x1 σ0 Q) : Ci l yX5_lowestFree (.code yX5_lowestFree cX5_lowestFree 3 (some .int) :: TT) { frames := 3, cells := 0, slots := 0, locals := 67 } D (tys cI cJ cZ) (wX cI cJ ad kv) [.ref (ad 15), .int x1] σ0 (fun r σ' => σ' = σ0 ∧ Q r) := by
  refine Ci.of (lv := [(0, .ref (ad 15)), (1, .int x1)]) (by decide) adX (Nat.le_of_ble_eq_true rfl) rfl ?_
  intro p e s m args below meth c A C
  have k2 : ∀ (x1 : Int32), ∀ (x2 : Int32), wX5_lowestFree_b2 x1 x2 σ0 Q → J p l e { frames := 3, cells := 0, slots := 0, locals := 67 } s m args below meth c D (wX cI cJ ad kv) A 3 (MQ below (va_Qi (fun r σ' => σ' = σ0 ∧ Q r) (WW D (tys cI cJ cZ) (wX cI cJ ad kv)) A) args s 0 0 A) σ0 2 [(0, .ref (ad 15)), (1, .int x1), (2, .int x2)] [] := by
    intro x1 x2 h
    refine h (fun t => J p l e { frames := 3, cells := 0, slots := 0, locals := 67 } s m args below meth c D (wX cI cJ ad kv) A 3 (MQ below (va_Qi (fun r σ' => σ' = σ0 ∧ Q r) (WW D (tys cI cJ cZ) (wX cI cJ ad kv)) A) args s 0 0 A) σ0 2 [(0, .ref (ad 15)), (1, .int x1), (2, .int t)] []) (fun t h => ?_)
    obtain ⟨x2, rfl⟩ : ∃ z, z = t := ⟨_, rfl⟩
    try dsimp only at h
    refine j_iload_n C dX5_lowestFree_2 2 rfl ?_
    refine j_aload_n C dX5_lowestFree_3 0 rfl ?_
    refine gf_X5_9 C dX5_lowestFree_4 ?_
    refine j_callpi 0 [] [.int x2] C (kX3_places_ok σ0 h) (tt_V ml_X5_43 mV_X3_places) ok_X3_places ⟨by decide, by decide⟩ rfl (r_wX_0 (σ := σ0)) (Nat.le_of_ble_eq_true rfl) rfl dX5_lowestFree_7 (fun r7 h => ?_)
    refine j_icmp_ge 45 C dX5_lowestFree_10 rfl h (fun h => ?_) (fun h => ?_)
    · refine j_iconst (v := (-1)) C dX5_lowestFree_45 (by decide) ?_
      exact j_iret C dX5_lowestFree_46 ⟨rfl, h⟩
    · refine j_aload_n C dX5_lowestFree_13 0 rfl ?_
      refine gf_X5_9 C dX5_lowestFree_14 ?_
      refine j_iload_n C dX5_lowestFree_17 2 rfl ?_
      refine j_iload_n C dX5_lowestFree_18 1 rfl ?_
      refine j_callpi 0 [.int x2, .int x1] [] C (kX3_freeAt_ok x2 x1 σ0 h) (tt_V ml_X5_47 mV_X3_freeAt) ok_X3_freeAt ⟨by decide, by decide⟩ rfl (r_wX_0 (σ := σ0)) (Nat.le_of_ble_eq_true rfl) rfl dX5_lowestFree_19 (fun r19 h => ?_)
      refine j_if_le 27 C dX5_lowestFree_22 rfl h (fun h => ?_) (fun h => ?_)
      · refine j_iload_n C dX5_lowestFree_27 2 rfl ?_
        refine j_iconst (v := 1) C dX5_lowestFree_28 (by decide) ?_
        refine j_iadd C dX5_lowestFree_29 ?_
        refine j_aload_n C dX5_lowestFree_30 0 rfl ?_
        refine gf_X5_9 C dX5_lowestFree_31 ?_
        refine j_iload_n C dX5_lowestFree_34 2 rfl ?_
        refine j_callpi 0 [.int x2] [.int (x2 + 1)] C (kX3_endOf_ok x2 σ0 h) (tt_V ml_X5_51 mV_X3_endOf) ok_X3_endOf ⟨by decide, by decide⟩ rfl (r_wX_0 (σ := σ0)) (Nat.le_of_ble_eq_true rfl) rfl dX5_lowestFree_35 (fun r35 h => ?_)
        refine j_mmax C ml_X5_54 mst_max mi_J9 mc_max ⟨by decide, (Nat.le_of_ble_eq_true rfl)⟩ dX5_lowestFree_38 ?_
        refine j_istore_n (lv' := [(2, .int (if (x2 + 1) < r35 then r35 else (x2 + 1))), (0, .ref (ad 15)), (1, .int x1)]) C dX5_lowestFree_41 (by decide) rfl ?_
        refine j_goto 2 C dX5_lowestFree_42 rfl ?_
        refine j_sub (lv' := [(0, .ref (ad 15)), (1, .int x1), (2, .int (if (x2 + 1) < r35 then r35 else (x2 + 1)))]) [1, 2, 0] rfl ?_
        exact h
      · refine j_iload_n C dX5_lowestFree_25 2 rfl ?_
        exact j_iret C dX5_lowestFree_26 ⟨rfl, h⟩
  refine j_iconst (v := 0) C dX5_lowestFree_0 (by decide) ?_
  refine j_istore_n (lv' := [(2, .int 0), (0, .ref (ad 15)), (1, .int x1)]) C dX5_lowestFree_1 (by decide) rfl ?_
  refine j_sub (lv' := [(0, .ref (ad 15)), (1, .int x1), (2, .int 0)]) [1, 2, 0] rfl ?_
  exact k2 _ _ h
def wX5_greatest_b19 (x1 : Int32) (σ : SS) (Q : Int32 → Prop) : Prop := wX3_classOf x1 σ (fun r24 => Q r24)
def wX5_greatest (x1 : Int32) (σ : SS) (Q : Int32 → Prop) : Prop := wX5_lowestFree x1 σ (fun r2 => (0 ≤ r2 → wX5_greatest_b19 x1 σ Q) ∧ (¬ 0 ≤ r2 → wX3_freeRun 1 σ (fun r13 => (r13 < 0 → Q ((-1))) ∧ (¬ r13 < 0 → wX5_greatest_b19 x1 σ Q))))
set_option maxRecDepth 100000 in
set_option maxHeartbeats 4000000 in
theorem kX5_greatest_ok {l : Launch} {D : va_G} {cI cJ cZ : ClassId} {ad : Nat → Nat} {kv : Value} (x1 : Int32) (σ0 : SS) {Q : Int32 → Prop} (h : wX5_greatest x1 σ0 Q) : Ci l yX5_greatest (.code yX5_greatest cX5_greatest 2 (some .int) :: TT) { frames := 4, cells := 0, slots := 0, locals := 89 } D (tys cI cJ cZ) (wX cI cJ ad kv) [.ref (ad 15), .int x1] σ0 (fun r σ' => σ' = σ0 ∧ Q r) := by
  refine Ci.of (lv := [(0, .ref (ad 15)), (1, .int x1)]) (by decide) adX (Nat.le_of_ble_eq_true rfl) rfl ?_
  intro p e s m args below meth c A C
  have k19 : ∀ (x1 : Int32), wX5_greatest_b19 x1 σ0 Q → J p l e { frames := 4, cells := 0, slots := 0, locals := 89 } s m args below meth c D (wX cI cJ ad kv) A 2 (MQ below (va_Qi (fun r σ' => σ' = σ0 ∧ Q r) (WW D (tys cI cJ cZ) (wX cI cJ ad kv)) A) args s 0 0 A) σ0 19 [(0, .ref (ad 15)), (1, .int x1)] [] := by
    intro x1 h
    refine j_aload_n C dX5_greatest_19 0 rfl ?_
    refine gf_X5_9 C dX5_greatest_20 ?_
    refine j_iload_n C dX5_greatest_23 1 rfl ?_
    refine j_callpi 0 [.int x1] [] C (kX3_classOf_ok x1 σ0 h) (tt_V ml_X5_15 mV_X3_classOf) ok_X3_classOf ⟨by decide, by decide⟩ rfl (r_wX_0 (σ := σ0)) (Nat.le_of_ble_eq_true rfl) rfl dX5_greatest_24 (fun r24 h => ?_)
    refine j_goto 31 C dX5_greatest_27 rfl ?_
    exact j_iret C dX5_greatest_31 ⟨rfl, h⟩
  refine j_aload_n C dX5_greatest_0 0 rfl ?_
  refine j_iload_n C dX5_greatest_1 1 rfl ?_
  refine j_callpi 15 [.int x1] [] C (kX5_lowestFree_ok x1 σ0 h) (tt_V ml_X5_21 mV_X5_lowestFree) ok_X5_lowestFree ⟨by decide, by decide⟩ rfl (r_wX_15 (σ := σ0)) (Nat.le_of_ble_eq_true rfl) rfl dX5_greatest_2 (fun r2 h => ?_)
  refine j_if_ge 19 C dX5_greatest_5 rfl h (fun h => ?_) (fun h => ?_)
  · refine j_sub (lv' := [(0, .ref (ad 15)), (1, .int x1)]) [0, 1] rfl ?_
    exact k19 _ h
  · refine j_aload_n C dX5_greatest_8 0 rfl ?_
    refine gf_X5_9 C dX5_greatest_9 ?_
    refine j_iconst (v := 1) C dX5_greatest_12 (by decide) ?_
    refine j_callpi 0 [.int 1] [] C (kX3_freeRun_ok 1 σ0 h) (tt_V ml_X5_24 mV_X3_freeRun) ok_X3_freeRun ⟨by decide, by decide⟩ rfl (r_wX_0 (σ := σ0)) (Nat.le_of_ble_eq_true rfl) rfl dX5_greatest_13 (fun r13 h => ?_)
    refine j_if_lt 30 C dX5_greatest_16 rfl h (fun h => ?_) (fun h => ?_)
    · refine j_iconst (v := (-1)) C dX5_greatest_30 (by decide) ?_
      exact j_iret C dX5_greatest_31 ⟨rfl, h⟩
    · refine j_sub (lv' := [(0, .ref (ad 15)), (1, .int x1)]) [0, 1] rfl ?_
      exact k19 _ h
def wX5_markSlots_b30 (x3 : Int32) (x4 : Int32) (x5 : Int32) (x6 : Int32) (σ : SS) (Q : SS → Prop) : Prop := lfp (fun (X30 : Int32 × SS → Prop) (t : Int32 × SS) => (x5 < (t.1 + x4) → Q t.2) ∧ (¬ x5 < (t.1 + x4) → wX3_mark t.1 x3 t.2 (fun σ47 => X30 ((t.1 + x4), σ47)))) (x6, σ)
def wX5_markSlots (x1 : Int32) (x2 : Int32) (x3 : Int32) (σ : SS) (Q : SS → Prop) : Prop := wX3_classOf x2 σ (fun r6 => wX5_markSlots_b30 x3 (if 1 < r6 then r6 else 1) ((x1 + 1) * 64) ((x1 * 64) + 1) σ Q)
set_option maxRecDepth 100000 in
set_option maxHeartbeats 4000000 in
theorem kX5_markSlots_ok {l : Launch} {D : va_G} {cI cJ cZ : ClassId} {ad : Nat → Nat} {kv : Value} (x1 : Int32) (x2 : Int32) (x3 : Int32) (σ0 : SS) {Q : SS → Prop} (h : wX5_markSlots x1 x2 x3 σ0 Q) : Cv l yX5_markSlots (.code yX5_markSlots cX5_markSlots 7 none :: TT) { frames := 2, cells := 0, slots := 0, locals := 45 } D (tys cI cJ cZ) (wX cI cJ ad kv) [.ref (ad 15), .int x1, .int x2, .int x3] σ0 Q := by
  refine Cv.of (lv := [(0, .ref (ad 15)), (1, .int x1), (2, .int x2), (3, .int x3)]) (by decide) adX (Nat.le_of_ble_eq_true rfl) rfl ?_
  intro p e s m args below meth c A C
  have k30 : ∀ (x3 : Int32), ∀ (x4 : Int32), ∀ (x5 : Int32), ∀ (x6 : Int32), ∀ (σ : SS), wX5_markSlots_b30 x3 x4 x5 x6 σ Q → J p l e { frames := 2, cells := 0, slots := 0, locals := 45 } s m args below meth c D (wX cI cJ ad kv) A 7 (MQ below (va_Qv Q (WW D (tys cI cJ cZ) (wX cI cJ ad kv)) A) args s 0 0 A) σ 30 [(0, .ref (ad 15)), (3, .int x3), (4, .int x4), (5, .int x5), (6, .int x6)] [] := by
    intro x3 x4 x5 x6 σ h
    refine h (fun t => J p l e { frames := 2, cells := 0, slots := 0, locals := 45 } s m args below meth c D (wX cI cJ ad kv) A 7 (MQ below (va_Qv Q (WW D (tys cI cJ cZ) (wX cI cJ ad kv)) A) args s 0 0 A) t.2 30 [(0, .ref (ad 15)), (3, .int x3), (4, .int x4), (5, .int x5), (6, .int t.1)] []) (fun t h => ?_)
    obtain ⟨x6, σ⟩ := t
    try dsimp only at h
    refine j_iload C dX5_markSlots_30 4 rfl ?_
    refine j_iload C dX5_markSlots_32 2 rfl ?_
    refine j_iadd C dX5_markSlots_34 ?_
    refine j_iload C dX5_markSlots_35 3 rfl ?_
    refine j_icmp_gt 60 C dX5_markSlots_37 rfl h (fun h => ?_) (fun h => ?_)
    · exact j_vret C dX5_markSlots_60 h
    · refine j_aload_n C dX5_markSlots_40 0 rfl ?_
      refine gf_X5_9 C dX5_markSlots_41 ?_
      refine j_iload C dX5_markSlots_44 4 rfl ?_
      refine j_iload_n C dX5_markSlots_46 1 rfl ?_
      refine j_callv 0 [.int x6, .int x3] [] C (kX3_mark_ok x6 x3 σ h) (tt_V ml_X5_59 mV_X3_mark) ok_X3_mark ⟨by decide, by decide⟩ rfl (r_wX_0 (σ := σ)) (Nat.le_of_ble_eq_true rfl) rfl dX5_markSlots_47 (fun σ47 h => ?_)
      refine j_iload C dX5_markSlots_50 4 rfl ?_
      refine j_iload C dX5_markSlots_52 2 rfl ?_
      refine j_iadd C dX5_markSlots_54 ?_
      refine j_istore (lv' := [(6, .int (x6 + x4)), (0, .ref (ad 15)), (3, .int x3), (4, .int x4), (5, .int x5)]) C dX5_markSlots_55 (by decide) rfl ?_
      refine j_goto 30 C dX5_markSlots_57 rfl ?_
      refine j_sub (lv' := [(0, .ref (ad 15)), (3, .int x3), (4, .int x4), (5, .int x5), (6, .int (x6 + x4))]) [1, 2, 3, 4, 0] rfl ?_
      exact h
  refine j_iconst (v := 1) C dX5_markSlots_0 (by decide) ?_
  refine j_aload_n C dX5_markSlots_1 0 rfl ?_
  refine gf_X5_9 C dX5_markSlots_2 ?_
  refine j_iload_n C dX5_markSlots_5 2 rfl ?_
  refine j_callpi 0 [.int x2] [.int 1] C (kX3_classOf_ok x2 σ0 h) (tt_V ml_X5_15 mV_X3_classOf) ok_X3_classOf ⟨by decide, by decide⟩ rfl (r_wX_0 (σ := σ0)) (Nat.le_of_ble_eq_true rfl) rfl dX5_markSlots_6 (fun r6 h => ?_)
  refine j_mmax C ml_X5_54 mst_max mi_J9 mc_max ⟨by decide, (Nat.le_of_ble_eq_true rfl)⟩ dX5_markSlots_9 ?_
  refine j_istore (lv' := [(4, .int (if 1 < r6 then r6 else 1)), (0, .ref (ad 15)), (1, .int x1), (2, .int x2), (3, .int x3)]) C dX5_markSlots_12 (by decide) rfl ?_
  refine j_iload_n C dX5_markSlots_14 2 rfl ?_
  refine j_iconst (v := 1) C dX5_markSlots_15 (by decide) ?_
  refine j_iadd C dX5_markSlots_16 ?_
  refine j_bipush (v := 64) C dX5_markSlots_17 (by decide) ?_
  refine j_imul C dX5_markSlots_19 ?_
  refine j_istore (lv' := [(5, .int ((x1 + 1) * 64)), (4, .int (if 1 < r6 then r6 else 1)), (0, .ref (ad 15)), (1, .int x1), (2, .int x2), (3, .int x3)]) C dX5_markSlots_20 (by decide) rfl ?_
  refine j_iload_n C dX5_markSlots_22 3 rfl ?_
  refine j_bipush (v := 64) C dX5_markSlots_23 (by decide) ?_
  refine j_imul C dX5_markSlots_25 ?_
  refine j_iconst (v := 1) C dX5_markSlots_26 (by decide) ?_
  refine j_iadd C dX5_markSlots_27 ?_
  refine j_istore (lv' := [(6, .int ((x1 * 64) + 1)), (5, .int ((x1 + 1) * 64)), (4, .int (if 1 < r6 then r6 else 1)), (0, .ref (ad 15)), (1, .int x1), (2, .int x2), (3, .int x3)]) C dX5_markSlots_28 (by decide) rfl ?_
  refine j_sub (lv' := [(0, .ref (ad 15)), (3, .int x3), (4, .int (if 1 < r6 then r6 else 1)), (5, .int ((x1 + 1) * 64)), (6, .int ((x1 * 64) + 1))]) [3, 6, 2, 1, 0] rfl ?_
  exact k30 _ _ _ _ _ h
def wX5_takePiece (x1 : Int32) (x2 : Int32) (σ : SS) (Q : Int32 → SS → Prop) : Prop := wX5_lowestFree x1 σ (fun r2 => (r2 < 0 → wX3_freeRun 1 σ (fun r17 => (0 ≤ r17 → vp_in r17 40 ∧ (wX3_classOf x1 (sA σ 0 r17.toNatClampNeg x1) (fun r49 => wX5_markSlots r17 x1 r49 (sA σ 0 r17.toNatClampNeg x1) (fun σ52 => Q ((r17 * 64) + 1) σ52)))) ∧ (¬ 0 ≤ r17 → Q ((-1)) σ))) ∧ (¬ r2 < 0 → Q r2 σ))
set_option maxRecDepth 100000 in
set_option maxHeartbeats 4000000 in
theorem kX5_takePiece_ok {l : Launch} {D : va_G} {cI cJ cZ : ClassId} {ad : Nat → Nat} {kv : Value} (x1 : Int32) (x2 : Int32) (σ0 : SS) {Q : Int32 → SS → Prop} (h : wX5_takePiece x1 x2 σ0 Q) : Ci l yX5_takePiece (.code yX5_takePiece cX5_takePiece 5 (some .int) :: TT) { frames := 4, cells := 0, slots := 0, locals := 89 } D (tys cI cJ cZ) (wX cI cJ ad kv) [.ref (ad 15), .int x1, .int x2] σ0 Q := by
  refine Ci.of (lv := [(0, .ref (ad 15)), (1, .int x1), (2, .int x2)]) (by decide) adX (Nat.le_of_ble_eq_true rfl) rfl ?_
  intro p e s m args below meth c A C
  refine j_aload_n C dX5_takePiece_0 0 rfl ?_
  refine j_iload_n C dX5_takePiece_1 1 rfl ?_
  refine j_callpi 15 [.int x1] [] C (kX5_lowestFree_ok x1 σ0 h) (tt_V ml_X5_21 mV_X5_lowestFree) ok_X5_lowestFree ⟨by decide, by decide⟩ rfl (r_wX_15 (σ := σ0)) (Nat.le_of_ble_eq_true rfl) rfl dX5_takePiece_2 (fun r2 h => ?_)
  refine j_istore_n (lv' := [(3, .int r2), (0, .ref (ad 15)), (1, .int x1), (2, .int x2)]) C dX5_takePiece_5 (by decide) rfl ?_
  refine j_iload_n C dX5_takePiece_6 0 rfl ?_
  refine j_if_lt 12 C dX5_takePiece_7 rfl h (fun h => ?_) (fun h => ?_)
  · refine j_aload_n C dX5_takePiece_12 1 rfl ?_
    refine gf_X5_9 C dX5_takePiece_13 ?_
    refine j_iconst (v := 1) C dX5_takePiece_16 (by decide) ?_
    refine j_callpi 0 [.int 1] [] C (kX3_freeRun_ok 1 σ0 h) (tt_V ml_X5_24 mV_X3_freeRun) ok_X3_freeRun ⟨by decide, by decide⟩ rfl (r_wX_0 (σ := σ0)) (Nat.le_of_ble_eq_true rfl) rfl dX5_takePiece_17 (fun r17 h => ?_)
    refine j_istore (lv' := [(4, .int r17), (3, .int r2), (0, .ref (ad 15)), (1, .int x1), (2, .int x2)]) C dX5_takePiece_20 (by decide) rfl ?_
    refine j_iload C dX5_takePiece_22 0 rfl ?_
    refine j_if_ge 29 C dX5_takePiece_24 rfl h (fun h => ?_) (fun h => ?_)
    · refine j_aload_n C dX5_takePiece_29 2 rfl ?_
      refine gf_X5_9 C dX5_takePiece_30 ?_
      refine gf_X5_27 C dX5_takePiece_33 ?_
      refine j_iload C dX5_takePiece_36 0 rfl ?_
      refine j_iload_n C dX5_takePiece_38 3 rfl ?_
      refine as_wX_1 C h.1 dX5_takePiece_39 ?_
      replace h := h.2
      refine j_aload_n C dX5_takePiece_40 2 rfl ?_
      refine j_iload C dX5_takePiece_41 0 rfl ?_
      refine j_iload_n C dX5_takePiece_43 3 rfl ?_
      refine j_aload_n C dX5_takePiece_44 2 rfl ?_
      refine gf_X5_9 C dX5_takePiece_45 ?_
      refine j_iload_n C dX5_takePiece_48 3 rfl ?_
      refine j_callpi 0 [.int x1] [.int x1, .int r17, .ref (ad 15)] C (kX3_classOf_ok x1 (sA σ0 0 r17.toNatClampNeg x1) h) (tt_V ml_X5_15 mV_X3_classOf) ok_X3_classOf ⟨by decide, by decide⟩ rfl (r_wX_0 (σ := sA σ0 0 r17.toNatClampNeg x1)) (Nat.le_of_ble_eq_true rfl) rfl dX5_takePiece_49 (fun r49 h => ?_)
      refine j_callv 15 [.int r17, .int x1, .int r49] [] C (kX5_markSlots_ok r17 x1 r49 (sA σ0 0 r17.toNatClampNeg x1) h) (tt_V ml_X5_31 mV_X5_markSlots) ok_X5_markSlots ⟨by decide, by decide⟩ rfl (r_wX_15 (σ := sA σ0 0 r17.toNatClampNeg x1)) (Nat.le_of_ble_eq_true rfl) rfl dX5_takePiece_52 (fun σ52 h => ?_)
      refine j_iload C dX5_takePiece_55 0 rfl ?_
      refine j_bipush (v := 64) C dX5_takePiece_57 (by decide) ?_
      refine j_imul C dX5_takePiece_59 ?_
      refine j_iconst (v := 1) C dX5_takePiece_60 (by decide) ?_
      refine j_iadd C dX5_takePiece_61 ?_
      exact j_iret C dX5_takePiece_62 h
    · refine j_iconst (v := (-1)) C dX5_takePiece_27 (by decide) ?_
      exact j_iret C dX5_takePiece_28 h
  · refine j_iload_n C dX5_takePiece_10 0 rfl ?_
    exact j_iret C dX5_takePiece_11 h
def wX5_fits (x1 : Int32) (x2 : Int32) (σ : SS) (Q : Int32 → Prop) : Prop := Q 1
set_option maxRecDepth 100000 in
set_option maxHeartbeats 4000000 in
theorem kX5_fits_ok {l : Launch} {D : va_G} {cI cJ cZ : ClassId} {ad : Nat → Nat} {kv : Value} (x1 : Int32) (x2 : Int32) (σ0 : SS) {Q : Int32 → Prop} (h : wX5_fits x1 x2 σ0 Q) : Ci l yX5_fits (.code yX5_fits cX5_fits 3 (some .boolean) :: TT) { frames := 0, cells := 0, slots := 0, locals := 0 } D (tys cI cJ cZ) (wX cI cJ ad kv) [.ref (ad 15), .int x1, .int x2] σ0 (fun r σ' => σ' = σ0 ∧ Q r) := by
  refine Ci.of (lv := [(0, .ref (ad 15)), (1, .int x1), (2, .int x2)]) (by decide) adX (Nat.le_of_ble_eq_true rfl) rfl ?_
  intro p e s m args below meth c A C
  refine j_iconst (v := 1) C dX5_fits_0 (by decide) ?_
  exact j_zret C dX5_fits_1 rfl ⟨rfl, h⟩
def wX5_reshape (x1 : Int32) (x2 : Int32) (σ : SS) (Q : SS → Prop) : Prop := Q σ
set_option maxRecDepth 100000 in
set_option maxHeartbeats 4000000 in
theorem kX5_reshape_ok {l : Launch} {D : va_G} {cI cJ cZ : ClassId} {ad : Nat → Nat} {kv : Value} (x1 : Int32) (x2 : Int32) (σ0 : SS) {Q : SS → Prop} (h : wX5_reshape x1 x2 σ0 Q) : Cv l yX5_reshape (.code yX5_reshape cX5_reshape 3 none :: TT) { frames := 0, cells := 0, slots := 0, locals := 0 } D (tys cI cJ cZ) (wX cI cJ ad kv) [.ref (ad 15), .int x1, .int x2] σ0 Q := by
  refine Cv.of (lv := [(0, .ref (ad 15)), (1, .int x1), (2, .int x2)]) (by decide) adX (Nat.le_of_ble_eq_true rfl) rfl ?_
  intro p e s m args below meth c A C
  exact j_vret C dX5_reshape_0 h
def wX5_isWhollyFree_b29 (x3 : Int32) (x4 : Int32) (x5 : Int32) (σ : SS) (Q : Int32 → Prop) : Prop := lfp (fun (X29 : Int32 → Prop) (t : Int32) => (x4 < (t + x3) → Q 1) ∧ (¬ x4 < (t + x3) → wX3_blockAt t σ (fun r44 => (r44 < 0 → X29 ((t + x3))) ∧ (¬ r44 < 0 → Q 0)))) x5
def wX5_isWhollyFree (x1 : Int32) (x2 : Int32) (σ : SS) (Q : Int32 → Prop) : Prop := wX3_classOf x2 σ (fun r6 => wX5_isWhollyFree_b29 (if 1 < r6 then r6 else 1) ((x1 + 1) * 64) ((x1 * 64) + 1) σ Q)
set_option maxRecDepth 100000 in
set_option maxHeartbeats 4000000 in
theorem kX5_isWhollyFree_ok {l : Launch} {D : va_G} {cI cJ cZ : ClassId} {ad : Nat → Nat} {kv : Value} (x1 : Int32) (x2 : Int32) (σ0 : SS) {Q : Int32 → Prop} (h : wX5_isWhollyFree x1 x2 σ0 Q) : Ci l yX5_isWhollyFree (.code yX5_isWhollyFree cX5_isWhollyFree 6 (some .boolean) :: TT) { frames := 2, cells := 0, slots := 0, locals := 45 } D (tys cI cJ cZ) (wX cI cJ ad kv) [.ref (ad 15), .int x1, .int x2] σ0 (fun r σ' => σ' = σ0 ∧ Q r) := by
  refine Ci.of (lv := [(0, .ref (ad 15)), (1, .int x1), (2, .int x2)]) (by decide) adX (Nat.le_of_ble_eq_true rfl) rfl ?_
  intro p e s m args below meth c A C
  have k29 : ∀ (x3 : Int32), ∀ (x4 : Int32), ∀ (x5 : Int32), wX5_isWhollyFree_b29 x3 x4 x5 σ0 Q → J p l e { frames := 2, cells := 0, slots := 0, locals := 45 } s m args below meth c D (wX cI cJ ad kv) A 6 (MQ below (va_Qi (fun r σ' => σ' = σ0 ∧ Q r) (WW D (tys cI cJ cZ) (wX cI cJ ad kv)) A) args s 0 0 A) σ0 29 [(0, .ref (ad 15)), (3, .int x3), (4, .int x4), (5, .int x5)] [] := by
    intro x3 x4 x5 h
    refine h (fun t => J p l e { frames := 2, cells := 0, slots := 0, locals := 45 } s m args below meth c D (wX cI cJ ad kv) A 6 (MQ below (va_Qi (fun r σ' => σ' = σ0 ∧ Q r) (WW D (tys cI cJ cZ) (wX cI cJ ad kv)) A) args s 0 0 A) σ0 29 [(0, .ref (ad 15)), (3, .int x3), (4, .int x4), (5, .int t)] []) (fun t h => ?_)
    obtain ⟨x5, rfl⟩ : ∃ z, z = t := ⟨_, rfl⟩
    try dsimp only at h
    refine j_iload C dX5_isWhollyFree_29 3 rfl ?_
    refine j_iload_n C dX5_isWhollyFree_31 1 rfl ?_
    refine j_iadd C dX5_isWhollyFree_32 ?_
    refine j_iload C dX5_isWhollyFree_33 2 rfl ?_
    refine j_icmp_gt 61 C dX5_isWhollyFree_35 rfl h (fun h => ?_) (fun h => ?_)
    · refine j_iconst (v := 1) C dX5_isWhollyFree_61 (by decide) ?_
      exact j_zret C dX5_isWhollyFree_62 rfl ⟨rfl, h⟩
    · refine j_aload_n C dX5_isWhollyFree_38 0 rfl ?_
      refine gf_X5_9 C dX5_isWhollyFree_39 ?_
      refine j_iload C dX5_isWhollyFree_42 3 rfl ?_
      refine j_callpi 0 [.int x5] [] C (kX3_blockAt_ok x5 σ0 h) (tt_V ml_X5_63 mV_X3_blockAt) ok_X3_blockAt ⟨by decide, by decide⟩ rfl (r_wX_0 (σ := σ0)) (Nat.le_of_ble_eq_true rfl) rfl dX5_isWhollyFree_44 (fun r44 h => ?_)
      refine j_if_lt 52 C dX5_isWhollyFree_47 rfl h (fun h => ?_) (fun h => ?_)
      · refine j_iload C dX5_isWhollyFree_52 3 rfl ?_
        refine j_iload_n C dX5_isWhollyFree_54 1 rfl ?_
        refine j_iadd C dX5_isWhollyFree_55 ?_
        refine j_istore (lv' := [(5, .int (x5 + x3)), (0, .ref (ad 15)), (3, .int x3), (4, .int x4)]) C dX5_isWhollyFree_56 (by decide) rfl ?_
        refine j_goto 29 C dX5_isWhollyFree_58 rfl ?_
        refine j_sub (lv' := [(0, .ref (ad 15)), (3, .int x3), (4, .int x4), (5, .int (x5 + x3))]) [1, 2, 3, 0] rfl ?_
        exact h
      · refine j_iconst (v := 0) C dX5_isWhollyFree_50 (by decide) ?_
        exact j_zret C dX5_isWhollyFree_51 rfl ⟨rfl, h⟩
  refine j_iconst (v := 1) C dX5_isWhollyFree_0 (by decide) ?_
  refine j_aload_n C dX5_isWhollyFree_1 0 rfl ?_
  refine gf_X5_9 C dX5_isWhollyFree_2 ?_
  refine j_iload_n C dX5_isWhollyFree_5 2 rfl ?_
  refine j_callpi 0 [.int x2] [.int 1] C (kX3_classOf_ok x2 σ0 h) (tt_V ml_X5_15 mV_X3_classOf) ok_X3_classOf ⟨by decide, by decide⟩ rfl (r_wX_0 (σ := σ0)) (Nat.le_of_ble_eq_true rfl) rfl dX5_isWhollyFree_6 (fun r6 h => ?_)
  refine j_mmax C ml_X5_54 mst_max mi_J9 mc_max ⟨by decide, (Nat.le_of_ble_eq_true rfl)⟩ dX5_isWhollyFree_9 ?_
  refine j_istore_n (lv' := [(3, .int (if 1 < r6 then r6 else 1)), (0, .ref (ad 15)), (1, .int x1), (2, .int x2)]) C dX5_isWhollyFree_12 (by decide) rfl ?_
  refine j_iload_n C dX5_isWhollyFree_13 2 rfl ?_
  refine j_iconst (v := 1) C dX5_isWhollyFree_14 (by decide) ?_
  refine j_iadd C dX5_isWhollyFree_15 ?_
  refine j_bipush (v := 64) C dX5_isWhollyFree_16 (by decide) ?_
  refine j_imul C dX5_isWhollyFree_18 ?_
  refine j_istore (lv' := [(4, .int ((x1 + 1) * 64)), (3, .int (if 1 < r6 then r6 else 1)), (0, .ref (ad 15)), (1, .int x1), (2, .int x2)]) C dX5_isWhollyFree_19 (by decide) rfl ?_
  refine j_iload_n C dX5_isWhollyFree_21 3 rfl ?_
  refine j_bipush (v := 64) C dX5_isWhollyFree_22 (by decide) ?_
  refine j_imul C dX5_isWhollyFree_24 ?_
  refine j_iconst (v := 1) C dX5_isWhollyFree_25 (by decide) ?_
  refine j_iadd C dX5_isWhollyFree_26 ?_
  refine j_istore (lv' := [(5, .int ((x1 * 64) + 1)), (4, .int ((x1 + 1) * 64)), (3, .int (if 1 < r6 then r6 else 1)), (0, .ref (ad 15)), (1, .int x1), (2, .int x2)]) C dX5_isWhollyFree_27 (by decide) rfl ?_
  refine j_sub (lv' := [(0, .ref (ad 15)), (3, .int (if 1 < r6 then r6 else 1)), (4, .int ((x1 + 1) * 64)), (5, .int ((x1 * 64) + 1))]) [3, 2, 1, 0] rfl ?_
  exact k29 _ _ _ h
def wX5_tidy_b52 (X2 : Int32 × SS → Prop) (x1 : Int32) (x2 : Int32) (σ : SS) (Q : SS → Prop) : Prop := X2 ((x2 + 1), σ)
def wX5_tidy_b2 (x1 : Int32) (x2 : Int32) (σ : SS) (Q : SS → Prop) : Prop := lfp (fun (X2 : Int32 × SS → Prop) (t : Int32 × SS) => ((gI t.2 0) ≤ t.1 → Q t.2) ∧ (¬ (gI t.2 0) ≤ t.1 → vp_in t.1 40 ∧ ((¬ (gA t.2 0 t.1.toNatClampNeg) = x1 → wX5_tidy_b52 X2 x1 t.1 t.2 Q) ∧ ((gA t.2 0 t.1.toNatClampNeg) = x1 → wX5_isWhollyFree t.1 x1 t.2 (fun r29 => (r29 = 0 → wX5_tidy_b52 X2 x1 t.1 t.2 Q) ∧ (¬ r29 = 0 → wX5_markSlots t.1 x1 0 t.2 (fun σ39 => vp_in t.1 40 ∧ (wX5_tidy_b52 X2 x1 t.1 (sA σ39 0 t.1.toNatClampNeg ((-1))) Q)))))))) (x2, σ)
def wX5_tidy (x1 : Int32) (σ : SS) (Q : SS → Prop) : Prop := wX5_tidy_b2 x1 0 σ Q
set_option maxRecDepth 100000 in
set_option maxHeartbeats 4000000 in
theorem kX5_tidy_ok {l : Launch} {D : va_G} {cI cJ cZ : ClassId} {ad : Nat → Nat} {kv : Value} (x1 : Int32) (σ0 : SS) {Q : SS → Prop} (h : wX5_tidy x1 σ0 Q) : Cv l yX5_tidy (.code yX5_tidy cX5_tidy 3 none :: TT) { frames := 3, cells := 0, slots := 0, locals := 71 } D (tys cI cJ cZ) (wX cI cJ ad kv) [.ref (ad 15), .int x1] σ0 Q := by
  refine Cv.of (lv := [(0, .ref (ad 15)), (1, .int x1)]) (by decide) adX (Nat.le_of_ble_eq_true rfl) rfl ?_
  intro p e s m args below meth c A C
  have k52 : ∀ (x1 : Int32), ∀ (x2 : Int32), ∀ (σ : SS), ∀ (X2 : Int32 × SS → Prop), (∀ t : Int32 × SS, X2 t → J p l e { frames := 3, cells := 0, slots := 0, locals := 71 } s m args below meth c D (wX cI cJ ad kv) A 3 (MQ below (va_Qv Q (WW D (tys cI cJ cZ) (wX cI cJ ad kv)) A) args s 0 0 A) t.2 2 [(0, .ref (ad 15)), (1, .int x1), (2, .int t.1)] []) → wX5_tidy_b52 X2 x1 x2 σ Q → J p l e { frames := 3, cells := 0, slots := 0, locals := 71 } s m args below meth c D (wX cI cJ ad kv) A 3 (MQ below (va_Qv Q (WW D (tys cI cJ cZ) (wX cI cJ ad kv)) A) args s 0 0 A) σ 52 [(0, .ref (ad 15)), (1, .int x1), (2, .int x2)] [] := by
    intro x1 x2 σ X2 hX2 h
    refine j_iinc (lv' := [(2, .int (x2 + 1)), (0, .ref (ad 15)), (1, .int x1)]) (x2 + 1) C dX5_tidy_52 2 rfl rfl (by decide) rfl ?_
    refine j_goto 2 C dX5_tidy_55 rfl ?_
    refine j_sub (lv' := [(0, .ref (ad 15)), (1, .int x1), (2, .int (x2 + 1))]) [1, 2, 0] rfl ?_
    exact hX2 _ h
  have k2 : ∀ (x1 : Int32), ∀ (x2 : Int32), ∀ (σ : SS), wX5_tidy_b2 x1 x2 σ Q → J p l e { frames := 3, cells := 0, slots := 0, locals := 71 } s m args below meth c D (wX cI cJ ad kv) A 3 (MQ below (va_Qv Q (WW D (tys cI cJ cZ) (wX cI cJ ad kv)) A) args s 0 0 A) σ 2 [(0, .ref (ad 15)), (1, .int x1), (2, .int x2)] [] := by
    intro x1 x2 σ h
    refine h (fun t => J p l e { frames := 3, cells := 0, slots := 0, locals := 71 } s m args below meth c D (wX cI cJ ad kv) A 3 (MQ below (va_Qv Q (WW D (tys cI cJ cZ) (wX cI cJ ad kv)) A) args s 0 0 A) t.2 2 [(0, .ref (ad 15)), (1, .int x1), (2, .int t.1)] []) (fun t h => ?_)
    obtain ⟨x2, σ⟩ := t
    try dsimp only at h
    refine j_iload_n C dX5_tidy_2 2 rfl ?_
    refine j_aload_n C dX5_tidy_3 0 rfl ?_
    refine gf_X5_9 C dX5_tidy_4 ?_
    refine gf_X5_35 C dX5_tidy_7 ?_
    refine j_icmp_ge 58 C dX5_tidy_10 rfl h (fun h => ?_) (fun h => ?_)
    · exact j_vret C dX5_tidy_58 h
    · refine j_aload_n C dX5_tidy_13 0 rfl ?_
      refine gf_X5_9 C dX5_tidy_14 ?_
      refine gf_X5_27 C dX5_tidy_17 ?_
      refine j_iload_n C dX5_tidy_20 2 rfl ?_
      refine al_wX_1 C h.1 dX5_tidy_21 ?_
      replace h := h.2
      refine j_iload_n C dX5_tidy_22 1 rfl ?_
      refine j_icmp_ne 52 C dX5_tidy_23 rfl h (fun h => ?_) (fun h => ?_)
      · refine j_sub (lv' := [(0, .ref (ad 15)), (1, .int x1), (2, .int x2)]) [0, 1, 2] rfl ?_
        exact k52 _ _ _ _ (fun _ z => z) h
      · refine j_aload_n C dX5_tidy_26 0 rfl ?_
        refine j_iload_n C dX5_tidy_27 2 rfl ?_
        refine j_iload_n C dX5_tidy_28 1 rfl ?_
        refine j_callpi 15 [.int x2, .int x1] [] C (kX5_isWhollyFree_ok x2 x1 σ h) (tt_V ml_X5_39 mV_X5_isWhollyFree) ok_X5_isWhollyFree ⟨by decide, by decide⟩ rfl (r_wX_15 (σ := σ)) (Nat.le_of_ble_eq_true rfl) rfl dX5_tidy_29 (fun r29 h => ?_)
        refine j_if_eq 52 C dX5_tidy_32 rfl h (fun h => ?_) (fun h => ?_)
        · refine j_sub (lv' := [(0, .ref (ad 15)), (1, .int x1), (2, .int x2)]) [0, 1, 2] rfl ?_
          exact k52 _ _ _ _ (fun _ z => z) h
        · refine j_aload_n C dX5_tidy_35 0 rfl ?_
          refine j_iload_n C dX5_tidy_36 2 rfl ?_
          refine j_iload_n C dX5_tidy_37 1 rfl ?_
          refine j_iconst (v := 0) C dX5_tidy_38 (by decide) ?_
          refine j_callv 15 [.int x2, .int x1, .int 0] [] C (kX5_markSlots_ok x2 x1 0 σ h) (tt_V ml_X5_31 mV_X5_markSlots) ok_X5_markSlots ⟨by decide, by decide⟩ rfl (r_wX_15 (σ := σ)) (Nat.le_of_ble_eq_true rfl) rfl dX5_tidy_39 (fun σ39 h => ?_)
          refine j_aload_n C dX5_tidy_42 0 rfl ?_
          refine gf_X5_9 C dX5_tidy_43 ?_
          refine gf_X5_27 C dX5_tidy_46 ?_
          refine j_iload_n C dX5_tidy_49 2 rfl ?_
          refine j_iconst (v := (-1)) C dX5_tidy_50 (by decide) ?_
          refine as_wX_1 C h.1 dX5_tidy_51 ?_
          replace h := h.2
          refine j_sub (lv' := [(0, .ref (ad 15)), (1, .int x1), (2, .int x2)]) [0, 1, 2] rfl ?_
          exact k52 _ _ _ _ (fun _ z => z) h
  refine j_iconst (v := 0) C dX5_tidy_0 (by decide) ?_
  refine j_istore_n (lv' := [(2, .int 0), (0, .ref (ad 15)), (1, .int x1)]) C dX5_tidy_1 (by decide) rfl ?_
  refine j_sub (lv' := [(0, .ref (ad 15)), (1, .int x1), (2, .int 0)]) [1, 2, 0] rfl ?_
  exact k2 _ _ _ h
