set_option maxRecDepth 100000 in
set_option maxHeartbeats 4000000 in
theorem law_loop {p : Program} {l : Launch} {e : Env} {s : State} {m : MethodId} {below : List Frame} {meth : Method} {c : Code} {D : va_G} {cI cJ cZ : ClassId} {b L : Nat} {xs : Nat → Int32} {ad bd : Nat → Nat} {I : Option SS → SS → SS → Prop} (hI : LawSteps I) (C : CL p s m #[Value.ref b] meth c D (tys cI cJ cZ) (fun q : Nat => s.heap.size ≤ q) code 4 "RoomWardenLaw" ret) (hX : va_X b L xs s s.heap) (hbl : b < s.heap.size) (hL : L ≤ 3072) : ∀ (d j : Nat), 6 * j ≤ L → L + 6 ≤ 6 * (j + d) → ∀ (κ : Option ((Nat → Nat) × SS)) (σx σm : SS), I (ksO κ) σx σm → JL p l e room_1 s m #[Value.ref b] below meth c D (fun q : Nat => s.heap.size ≤ q) 4 (lw_Z below #[Value.ref b] s) (47 + 12 * j) (24263 + 5693 * j) (wX cI cJ ad (kvO κ) σx ++ (wM cI cJ cZ bd σm ++ wKo cI cJ κ)) 18 [(3, .int (nI (6 * j))), (2, .ref (bd 0)), (1, .ref (ad 18)), (0, .ref b)] [] := by
  have hbA : ¬ (fun q : Nat => s.heap.size ≤ q) b := Nat.not_le.mpr hbl
  intro d
  induction d with
  | zero =>
    intro j h1 h2
    exact absurd h2 (by omega)
  | succ d ih =>
    intro j hj hd κ σx σm hi
    refine l_iload_n C dL_law_18 0 rfl ?_
    refine l_aload_n C dL_law_19 3 rfl ?_
    refine l_slen C hX hbl hbA dL_law_20 ?_
    refine l_bipush (v := 6) C dL_law_21 (by decide) ?_
    refine l_isub C dL_law_23 ?_
    refine l_icmp_gt 1015 C dL_law_24 rfl (fun hc => ?_) (fun hc => ?_)
    · refine l_iconst (v := 1) C dL_law_1015 (by decide) ?_
      intro H locs ls hP hD hS hl
      refine va_forget (fun q hq => hS.2.2 q hq) ?_
      refine W.widen (k := room_1.cells) (n := room_1.slots) (Nat.le_trans (m := 7000) (by omega) (Nat.le_of_ble_eq_true rfl)) (Nat.le_trans (m := 2950000) (by omega) (Nat.le_of_ble_eq_true rfl)) ?_
      exact lw_ret C.1 C.2.1 C.2.2.2.2.2.2.2.1 C.2.2.2.2.2.2.2.2.1 dL_law_1016
    · have h6 : 6 * j + 6 ≤ L := by
        rcases Nat.lt_or_ge L (6 * j + 6) with q | q
        · refine absurd ?_ hc
          rw [Int32.lt_iff_toInt_lt, show (6 : Int32) = nI 6 from by decide, pk_sub_toInt (by omega) (by decide), nI_toInt (by omega)]
          omega
        · exact q
      have hin : ∀ d : Int32, 0 ≤ d → d ≤ 5 → vp_in (nI (6 * j) + d) L := by
        intro d h0 h5
        obtain ⟨k, hk, rfl⟩ := nI_of2 (x := d) (M := 5) (n := 5) (by decide) (Int32.not_lt.mpr h0) h5
        rw [nI_add]
        exact vp_in_nI (by omega) (by omega)
      have hk : 47 + 12 * j + 12 ≤ room_1.cells ∧ 24263 + 5693 * j + 5693 ≤ room_1.slots := ⟨Nat.le_trans (m := 7000) (by omega) (Nat.le_of_ble_eq_true rfl), Nat.le_trans (m := 2950000) (by omega) (Nat.le_of_ble_eq_true rfl)⟩
      have fin : ∀ (κ : Option ((Nat → Nat) × SS)) (σx σm : SS), I (ksO κ) σx σm → JL p l e room_1 s m #[Value.ref b] below meth c D (fun q : Nat => s.heap.size ≤ q) 4 (lw_Z below #[Value.ref b] s) (47 + 12 * j + 12) (24263 + 5693 * j + 5693) (wX cI cJ ad (kvO κ) σx ++ (wM cI cJ cZ bd σm ++ wKo cI cJ κ)) 1009 [(3, .int (nI (6 * j))), (2, .ref (bd 0)), (1, .ref (ad 18)), (0, .ref b)] [] := by
        intro κ σx σm hi
        refine l_iinc (lv' := [(3, .int (nI (6 * (j + 1)))), (2, .ref (bd 0)), (1, .ref (ad 18)), (0, .ref b)]) (nI (6 * (j + 1))) C dL_law_1009 0 rfl (by rw [show Int32.ofInt 6 = nI 6 from by decide, nI_add]; rfl) (by decide) rfl ?_
        refine l_goto 18 C dL_law_1012 rfl ?_
        refine l_widen (k' := 47 + 12 * (j + 1)) (n' := 24263 + 5693 * (j + 1)) (by omega) (by omega) ?_
        exact ih (j + 1) (by omega) (by omega) κ σx σm hi
      refine l_aload_n C dL_law_27 3 rfl ?_
      refine l_iload_n C dL_law_28 0 rfl ?_
      refine l_sld C hX hbl hbA (vp_in_nI (by omega) (by omega)) dL_law_29 ?_
      refine l_bipush (v := 31) C dL_law_30 (by decide) ?_
      refine l_iand C dL_law_32 ?_
      generalize xs (nI (6 * j)).toNatClampNeg &&& 31 = op
      by_cases hc0 : op = 0
      · refine l_tableIn 144 0 C dL_law_33 hc0 (by decide) (by decide) rfl rfl ?_
        exact law_open hI C hX hbl hin hk κ σx σm hi fin
      by_cases hc1 : op = 1
      · refine l_tableIn 167 1 C dL_law_33 hc1 (by decide) (by decide) rfl rfl ?_
        exact law_page hI C hX hbl hin hk κ σx σm hi fin
      by_cases hc2 : op = 2
      · refine l_tableIn 216 2 C dL_law_33 hc2 (by decide) (by decide) rfl rfl ?_
        exact law_zone hI C hX hbl hin hk κ σx σm hi fin
      by_cases hc3 : op = 3
      · refine l_tableIn 279 3 C dL_law_33 hc3 (by decide) (by decide) rfl rfl ?_
        exact law_want hI C hX hbl hin hk κ σx σm hi fin
      by_cases hc4 : op = 4
      · refine l_tableIn 312 4 C dL_law_33 hc4 (by decide) (by decide) rfl rfl ?_
        exact law_give hI C hX hbl hin hk κ σx σm hi fin
      by_cases hc5 : op = 5
      · refine l_tableIn 335 5 C dL_law_33 hc5 (by decide) (by decide) rfl rfl ?_
        exact law_grow hI C hX hbl hin hk κ σx σm hi fin
      by_cases hc6 : op = 6
      · refine l_tableIn 368 6 C dL_law_33 hc6 (by decide) (by decide) rfl rfl ?_
        exact law_shrink hI C hX hbl hin hk κ σx σm hi fin
      by_cases hc7 : op = 7
      · refine l_tableIn 401 7 C dL_law_33 hc7 (by decide) (by decide) rfl rfl ?_
        exact law_write hI C hX hbl hin hk κ σx σm hi fin
      by_cases hc8 : op = 8
      · refine l_tableIn 474 8 C dL_law_33 hc8 (by decide) (by decide) rfl rfl ?_
        exact law_read hI C hX hbl hin hk κ σx σm hi fin
      by_cases hc9 : op = 9
      · refine l_tableIn 507 9 C dL_law_33 hc9 (by decide) (by decide) rfl rfl ?_
        exact law_value hI C hX hbl hin hk κ σx σm hi fin
      by_cases hc10 : op = 10
      · refine l_tableIn 521 10 C dL_law_33 hc10 (by decide) (by decide) rfl rfl ?_
        exact law_copy hI C hX hbl hin hk κ σx σm hi fin
      by_cases hc11 : op = 11
      · refine l_tableIn 584 11 C dL_law_33 hc11 (by decide) (by decide) rfl rfl ?_
        exact law_fill hI C hX hbl hin hk κ σx σm hi fin
      by_cases hc12 : op = 12
      · refine l_tableIn 647 12 C dL_law_33 hc12 (by decide) (by decide) rfl rfl ?_
        exact law_block hI C hX hbl hin hk κ σx σm hi fin
      by_cases hc13 : op = 13
      · refine l_tableIn 680 13 C dL_law_33 hc13 (by decide) (by decide) rfl rfl ?_
        exact law_spoil hI C hX hbl hin hk κ σx σm hi fin
      by_cases hc14 : op = 14
      · refine l_tableIn 769 14 C dL_law_33 hc14 (by decide) (by decide) rfl rfl ?_
        exact law_peek hI C hX hbl hin hk κ σx σm hi fin
      by_cases hc15 : op = 15
      · refine l_tableIn 792 15 C dL_law_33 hc15 (by decide) (by decide) rfl rfl ?_
        exact law_largest hI C hX hbl hin hk κ σx σm hi fin
      by_cases hc16 : op = 16
      · refine l_tableIn 815 16 C dL_law_33 hc16 (by decide) (by decide) rfl rfl ?_
        exact law_told hI C hX hbl hin hk κ σx σm hi fin
      by_cases hc17 : op = 17
      · refine l_tableIn 848 17 C dL_law_33 hc17 (by decide) (by decide) rfl rfl ?_
        exact law_map hI C hX hbl hin hk κ σx σm hi fin
      by_cases hc18 : op = 18
      · refine l_tableIn 881 18 C dL_law_33 hc18 (by decide) (by decide) rfl rfl ?_
        exact law_count hI C hX hbl hin hk κ σx σm hi fin
      by_cases hc19 : op = 19
      · refine l_tableIn 904 19 C dL_law_33 hc19 (by decide) (by decide) rfl rfl ?_
        exact law_save hI C hX hbl hin hk κ σx σm hi fin
      by_cases hc20 : op = 20
      · refine l_tableIn 917 20 C dL_law_33 hc20 (by decide) (by decide) rfl rfl ?_
        exact law_back hI C hX hbl hin hk κ σx σm hi fin
      by_cases hc21 : op = 21
      · refine l_tableIn 930 21 C dL_law_33 hc21 (by decide) (by decide) rfl rfl ?_
        exact law_hold hI C hX hbl hin hk κ σx σm hi fin
      by_cases hc22 : op = 22
      · refine l_tableIn 963 22 C dL_law_33 hc22 (by decide) (by decide) rfl rfl ?_
        exact law_throwIt hI C hX hbl hin hk κ σx σm hi fin
      by_cases hc23 : op = 23
      · refine l_tableIn 986 23 C dL_law_33 hc23 (by decide) (by decide) rfl rfl ?_
        exact law_found hI C hX hbl hin hk κ σx σm hi fin
      refine l_tableOut 1009 C dL_law_33 (by have e0 := lv_neT (a := 0) hc0 (by decide); have e1 := lv_neT (a := 1) hc1 (by decide); have e2 := lv_neT (a := 2) hc2 (by decide); have e3 := lv_neT (a := 3) hc3 (by decide); have e4 := lv_neT (a := 4) hc4 (by decide); have e5 := lv_neT (a := 5) hc5 (by decide); have e6 := lv_neT (a := 6) hc6 (by decide); have e7 := lv_neT (a := 7) hc7 (by decide); have e8 := lv_neT (a := 8) hc8 (by decide); have e9 := lv_neT (a := 9) hc9 (by decide); have e10 := lv_neT (a := 10) hc10 (by decide); have e11 := lv_neT (a := 11) hc11 (by decide); have e12 := lv_neT (a := 12) hc12 (by decide); have e13 := lv_neT (a := 13) hc13 (by decide); have e14 := lv_neT (a := 14) hc14 (by decide); have e15 := lv_neT (a := 15) hc15 (by decide); have e16 := lv_neT (a := 16) hc16 (by decide); have e17 := lv_neT (a := 17) hc17 (by decide); have e18 := lv_neT (a := 18) hc18 (by decide); have e19 := lv_neT (a := 19) hc19 (by decide); have e20 := lv_neT (a := 20) hc20 (by decide); have e21 := lv_neT (a := 21) hc21 (by decide); have e22 := lv_neT (a := 22) hc22 (by decide); have e23 := lv_neT (a := 23) hc23 (by decide); omega) rfl ?_
      refine l_widen (k' := 47 + 12 * j + 12) (n' := 24263 + 5693 * j + 5693) (Nat.le_add_right _ _) (Nat.le_add_right _ _) ?_
      exact fin κ σx σm hi
theorem mdk_mostOf : Cond.declares ⟨"RoomWarden$Keeper", "mostOf", "(I)I"⟩ ∈ lw_tbl := List.mem_of_getElem? (i := 287) (by decide +kernel)
theorem mdk_greatest : Cond.declares ⟨"RoomWarden$Keeper", "greatest", "(I)I"⟩ ∈ lw_tbl := List.mem_of_getElem? (i := 645) (by decide +kernel)
theorem mdk_takePiece : Cond.declares ⟨"RoomWarden$Keeper", "takePiece", "(II)I"⟩ ∈ lw_tbl := List.mem_of_getElem? (i := 314) (by decide +kernel)
theorem mdk_fits : Cond.declares ⟨"RoomWarden$Keeper", "fits", "(II)Z"⟩ ∈ lw_tbl := List.mem_of_getElem? (i := 504) (by decide +kernel)
theorem mdk_reshape : Cond.declares ⟨"RoomWarden$Keeper", "reshape", "(II)V"⟩ ∈ lw_tbl := List.mem_of_getElem? (i := 534) (by decide +kernel)
theorem mdk_tidy : Cond.declares ⟨"RoomWarden$Keeper", "tidy", "(I)V"⟩ ∈ lw_tbl := List.mem_of_getElem? (i := 442) (by decide +kernel)
theorem arr_known {s : State} {args : Array Value} {ty : FieldType} (h : (Cond.arrayClass ty).before args s = true) (hno : ∀ C, ty ≠ .object C) : ∃ cA : ClassId, ArrOfT s cA ty ∧ va_RA s cA ty := by
  obtain ⟨cA, kA, comp, h1, h2, h3⟩ := Cond.arrayClass_spec h
  refine ⟨cA, fun n z => ⟨fun k h => (by cases h), kA, h2, comp, h3⟩, ?_⟩
  cases ty with
  | object C => exact absurd rfl (hno C)
  | _ => exact h1
set_option maxRecDepth 100000 in
set_option maxHeartbeats 4000000 in
theorem whole_of {I : Option SS → SS → SS → Prop} (hI : LawSteps I) (h0 : I none sX0 sZ) {p : Program} {e : Env} {s : State} {m : MethodId} {below : List Frame} {meth : Method} {c : Code} (l : Launch) {b L : Nat} {xs : Nat → Int32} (hL : L ≤ 3072) (C0 : lw_At p s m meth c b L xs) : W p l e room_1 s m #[Value.ref b] below meth c s.heap [] 0 0 (lw_Z below #[Value.ref b] s) (entryFrame m ([Value.ref b] : List Value).toArray 4) := by
  obtain ⟨hx, hb, hr, hml, hown, hts, hX, hbl, hlocks, hgv⟩ := id C0
  obtain ⟨c0, iS0, hKn0⟩ := u_known (C := RX0) (T := TX0) (N := 1) (n := 1) hts (fun w hw => tt_lw w (inTX0 w hw)) (hts _ (tt_lw _ mins_X0))
  obtain ⟨c1, iS1, hKn1⟩ := u_known (C := RX1) (T := TX1) (N := 8) (n := 8) hts (fun w hw => tt_lw w (inTX1 w hw)) (hts _ (tt_lw _ mins_X1))
  obtain ⟨c2, iS2, hKn2⟩ := u_known (C := RX3) (T := TX3) (N := 13) (n := 13) hts (fun w hw => tt_lw w (inTX3 w hw)) (hts _ (tt_lw _ mins_X3))
  obtain ⟨c3, iS3, hKn3⟩ := u_known (C := RX4) (T := TX4) (N := 1) (n := 1) hts (fun w hw => tt_lw w (inTX4 w hw)) (hts _ (tt_lw _ mins_X4))
  obtain ⟨c4, iS4, hKn4⟩ := u_known (C := RX5) (T := TX5) (N := 1) (n := 1) hts (fun w hw => tt_lw w (inTX5 w hw)) (hts _ (tt_lw _ mins_X5))
  obtain ⟨c5, iS5, hKn5⟩ := u_known (C := RX6) (T := TX6) (N := 8) (n := 8) hts (fun w hw => tt_lw w (inTX6 w hw)) (hts _ (tt_lw _ mins_X6))
  obtain ⟨c6, iS6, hKn6⟩ := u_known (C := RX7) (T := TX7) (N := 43) (n := 43) hts (fun w hw => tt_lw w (inTX7 w hw)) (hts _ (tt_lw _ mins_X7))
  obtain ⟨cI, hI1, hI2⟩ := arr_known (hts _ (tt_lw _ ma_int)) (fun _ h => by cases h)
  obtain ⟨cJ, hJ1, hJ2⟩ := arr_known (hts _ (tt_lw _ ma_long)) (fun _ h => by cases h)
  obtain ⟨cZ, hZ1, hZ2⟩ := arr_known (hts _ (tt_lw _ ma_boolean)) (fun _ h => by cases h)
  obtain ⟨D, hKc⟩ : ∃ (D : va_G), ∀ (k : Nat) (q : vw_C), cls[k]? = some q → u_Kn s q.1 q.2.1 q.2.2 (D.1 k) (D.2 k) := by
    refine ⟨(fun k => match k with | 0 => c0 | 1 => c1 | 2 => c2 | 3 => c3 | 4 => c4 | 5 => c5 | _ => c6, fun k => match k with | 0 => iS0 | 1 => iS1 | 2 => iS2 | 3 => iS3 | 4 => iS4 | 5 => iS5 | _ => iS6), ?_⟩
    intro k q hq
    match k, hq with
    | 0, hq => cases hq; exact hKn0
    | 1, hq => cases hq; exact hKn1
    | 2, hq => cases hq; exact hKn2
    | 3, hq => cases hq; exact hKn3
    | 4, hq => cases hq; exact hKn4
    | 5, hq => cases hq; exact hKn5
    | 6, hq => cases hq; exact hKn6
    | k + 7, hq => simp [cls] at hq
  have hK : va_K D cls (tys cI cJ cZ) s := ⟨hKc, fun k q hq => by
    match k, hq with
    | 0, hq => cases hq; exact ⟨hI1, hI2⟩
    | 1, hq => cases hq; exact ⟨hJ1, hJ2⟩
    | 2, hq => cases hq; exact ⟨hZ1, hZ2⟩
    | k + 3, hq => simp [tys] at hq⟩
  have hdk : DK s := fun x hx => by
    simp only [dks, List.mem_cons, List.not_mem_nil, or_false] at hx
    rcases hx with rfl | rfl | rfl | rfl | rfl | rfl
    · exact va_tabs rfl rfl (hts _ mdk_mostOf)
    · exact va_tabs rfl rfl (hts _ mdk_greatest)
    · exact va_tabs rfl rfl (hts _ mdk_takePiece)
    · exact va_tabs rfl rfl (hts _ mdk_fits)
    · exact va_tabs rfl rfl (hts _ mdk_reshape)
    · exact va_tabs rfl rfl (hts _ mdk_tidy)
  have C : CL p s m #[Value.ref b] meth c D (tys cI cJ cZ) (fun q : Nat => s.heap.size ≤ q) code 4 "RoomWardenLaw" ret := ⟨hx, hb, hml, hown, fun w hw => hts w (tt_lw w hw), hK, fun _ h => h, hr, hlocks, hdk⟩
  have key : JL p l e room_1 s m #[Value.ref b] below meth c D (fun q : Nat => s.heap.size ≤ q) 4 (lw_Z below #[Value.ref b] s) 0 0 [] 0 [(0, .ref b)] [] := by
    refine l_new (ci := 5) (fs := [.null, .null, .null, .null, .null, .null, .null, .long 0]) C inTX6 tyX6 tyX6_ok mcl_L_7 mins_X6 mi_X6 rfl fdX6 (by decide) (by decide) dL_law_0 (fun q => ?_)
    refine l_dup C dL_law_3 rfl ?_
    refine l_eq (ws' := ([(q, .inr (5, [.null, .null, .null, .null, .null, .null, .null, .long 0]))] : va_W) ++ ([] : va_W)) rfl ?_
    refine l_callI [] [.ref q] C (kX6_init_ok q) mc_X6_init ml_L_9 mm_X6_init mi_X6 rfl ok_X6_init ⟨by decide, by decide⟩ ⟨by decide, by decide⟩ (Nat.le_of_ble_eq_true rfl) rfl dL_law_4 (fun ad had => ?_)
    rw [show q = ad 18 from had.symm]
    refine l_eq (ws' := wX cI cJ ad .null sX0) (List.append_nil _) ?_
    refine l_astore_n (lv' := [(1, .ref (ad 18)), (0, .ref b)]) C dL_law_7 (by decide) rfl ?_
    refine l_new (ci := 6) (fs := [.int 0, .null, .null, .null, .null, .int 0, .null, .null, .null, .null, .null, .null, .null, .int 0, .null, .long 0, .null, .int 0, .int 0, .null, .null, .null, .null, .int 0, .null, .null, .null, .null, .null, .null, .null, .int 0, .null, .null, .int 0, .int 0, .int 0, .int 0, .int 0, .int 0, .int 0, .int 0, .int 0]) C inTX7 tyX7 tyX7_ok mcl_L_10 mins_X7 mi_X7 rfl fdX7 (by decide) (by decide) dL_law_8 (fun q => ?_)
    refine l_dup C dL_law_11 rfl ?_
    refine l_perm (pm_com (wX cI cJ ad .null sX0) [(q, .inr (6, [.int 0, .null, .null, .null, .null, .int 0, .null, .null, .null, .null, .null, .null, .null, .int 0, .null, .long 0, .null, .int 0, .int 0, .null, .null, .null, .null, .int 0, .null, .null, .null, .null, .null, .null, .null, .int 0, .null, .null, .int 0, .int 0, .int 0, .int 0, .int 0, .int 0, .int 0, .int 0, .int 0]))]) ?_
    refine l_callI [] [.ref q] C (kX7_init_ok q) mc_X7_init ml_L_12 mm_X7_init mi_X7 rfl ok_X7_init ⟨by decide, by decide⟩ ⟨by decide, by decide⟩ (Nat.le_of_ble_eq_true rfl) rfl dL_law_12 (fun bd hbd => ?_)
    rw [show q = bd 0 from hbd.symm]
    refine l_perm (ws' := wX cI cJ ad (kvO none) sX0 ++ (wM cI cJ cZ bd sZ ++ wKo cI cJ none)) (show (wM cI cJ cZ bd sZ ++ wX cI cJ ad .null sX0).Perm (wX cI cJ ad .null sX0 ++ (wM cI cJ cZ bd sZ ++ [])) by rw [List.append_nil]; exact List.perm_append_comm) ?_
    refine l_astore_n (lv' := [(2, .ref (bd 0)), (1, .ref (ad 18)), (0, .ref b)]) C dL_law_15 (by decide) rfl ?_
    refine l_iconst (v := 0) C dL_law_16 (by decide) ?_
    refine l_istore_n (lv' := [(3, .int 0), (2, .ref (bd 0)), (1, .ref (ad 18)), (0, .ref b)]) C dL_law_17 (by decide) rfl ?_
    refine l_widen (k' := 47 + 12 * 0) (n' := 24263 + 5693 * 0) (by decide) (by decide) ?_
    exact law_loop hI C hX hbl hL (L + 6) 0 (by omega) (by omega) none sX0 sZ h0
  have hl := lv_entry ([.ref b]) (n := 4) (Nat.le_of_ble_eq_true rfl)
  rw [lg_entry_eq]
  exact key s.heap [] _ (fun k q h => by simp at h) ⟨fun i j p q h => by simp at h, fun k q h => by simp at h⟩ va_S.rf hl
