section LAWS
variable {p : Program} {l : Launch} {e : Env} {R : Room} {s : State} {m : MethodId} {args : Array Value} {below : List Frame} {meth : Method} {c : Code} {D : va_G} {ty : List (ClassId × FieldType)} {A : Nat → Prop} {cc : ByteArray} {nL : Nat} {own : String} {ret : Option FieldType} {Q : State → Prop} {k n : Nat} {ws : va_W} {pc : Nat} {lv : List (Nat × Value)} {st : List Value}
theorem l_sld {b L : Nat} {xs : Nat → Int32} {i : Int32} (C : CL p s m args meth c D ty A cc nL own ret) (hX : va_X b L xs s s.heap) (hbl : b < s.heap.size) (hbA : ¬ A b) (hin : vp_in i L) (hd : decode cc pc = .ok (.iaload, 1)) (K : JL p l e R s m args below meth c D A nL Q k n ws (pc + 1) lv (.int (xs i.toNatClampNeg) :: st)) : JL p l e R s m args below meth c D A nL Q k n ws pc lv (.int i :: .ref b :: st) := fun H locs ls hP hD hS hl => va_sld C.1 C.2.1 hX hbl hbA hS hin hd (K H locs ls hP hD hS hl)
theorem l_slen {b L : Nat} {xs : Nat → Int32} (C : CL p s m args meth c D ty A cc nL own ret) (hX : va_X b L xs s s.heap) (hbl : b < s.heap.size) (hbA : ¬ A b) (hd : decode cc pc = .ok (.arraylength, 1)) (K : JL p l e R s m args below meth c D A nL Q k n ws (pc + 1) lv (.int (nI L) :: st)) : JL p l e R s m args below meth c D A nL Q k n ws pc lv (.ref b :: st) := fun H locs ls hP hD hS hl => va_slen C.1 C.2.1 hX hbl hbA hS hd (K H locs ls hP hD hS hl)
end LAWS
theorem pm_xm (X M K : va_W) : (X ++ (M ++ K)).Perm (M ++ (X ++ K)) := by
  refine (List.perm_append_comm).trans ?_
  rw [List.append_assoc]
  exact List.Perm.append_left M List.perm_append_comm
theorem pm_xk (X M K : va_W) : (X ++ (M ++ K)).Perm ((X ++ K) ++ M) := by
  rw [List.append_assoc]
  exact List.Perm.append_left X List.perm_append_comm
theorem lg_cmp_self (x : Int64) : lg_cmp x x = 0 := by simp [lg_cmp]
def kvO : Option ((Nat → Nat) × SS) → Value
  | none => .null
  | some z => .ref (z.1 0)
def wKo (cI cJ : ClassId) : Option ((Nat → Nat) × SS) → va_W
  | none => []
  | some z => wR cI cJ z.1 z.2
def ksO : Option ((Nat → Nat) × SS) → Option SS
  | none => none
  | some z => some z.2
def stp_open (I : Option SS → SS → SS → Prop) : Prop := ∀ (κ : Option SS) (σx σm : SS) (x1 : Int32), I κ σx σm → wX6_open x1 σx (fun r σx' => wX7_open x1 σm (fun r' σm' => r = r' ∧ I κ σx' σm'))
def stp_page (I : Option SS → SS → SS → Prop) : Prop := ∀ (κ : Option SS) (σx σm : SS) (x1 : Int32) (x2 : Int32), I κ σx σm → (x2 = 0 ∨ x2 = 1) → wX6_page x1 x2 σx (fun r σx' => wX7_page x1 x2 σm (fun r' σm' => r = r' ∧ I κ σx' σm'))
def stp_zone (I : Option SS → SS → SS → Prop) : Prop := ∀ (κ : Option SS) (σx σm : SS) (x1 : Int32) (x2 : Int64), I κ σx σm → wX6_zone x1 x2 σx (fun r σx' => wX7_zone x1 x2 σm (fun r' σm' => r = r' ∧ I κ σx' σm'))
def stp_want (I : Option SS → SS → SS → Prop) : Prop := ∀ (κ : Option SS) (σx σm : SS) (x1 : Int32) (x2 : Int32), I κ σx σm → wX6_want x1 x2 σx (fun r σx' => wX7_want x1 x2 σm (fun r' σm' => r = r' ∧ I κ σx' σm'))
def stp_give (I : Option SS → SS → SS → Prop) : Prop := ∀ (κ : Option SS) (σx σm : SS) (x1 : Int32), I κ σx σm → wX6_give x1 σx (fun r σx' => wX7_give x1 σm (fun r' σm' => r = r' ∧ I κ σx' σm'))
def stp_grow (I : Option SS → SS → SS → Prop) : Prop := ∀ (κ : Option SS) (σx σm : SS) (x1 : Int32) (x2 : Int32), I κ σx σm → wX6_grow x1 x2 σx (fun r σx' => wX7_grow x1 x2 σm (fun r' σm' => r = r' ∧ I κ σx' σm'))
def stp_shrink (I : Option SS → SS → SS → Prop) : Prop := ∀ (κ : Option SS) (σx σm : SS) (x1 : Int32) (x2 : Int32), I κ σx σm → wX6_shrink x1 x2 σx (fun r σx' => wX7_shrink x1 x2 σm (fun r' σm' => r = r' ∧ I κ σx' σm'))
def stp_write (I : Option SS → SS → SS → Prop) : Prop := ∀ (κ : Option SS) (σx σm : SS) (x1 : Int32) (x2 : Int32) (x3 : Int64), I κ σx σm → wX6_write x1 x2 x3 σx (fun r σx' => wX7_write x1 x2 x3 σm (fun r' σm' => r = r' ∧ I κ σx' σm'))
def stp_read (I : Option SS → SS → SS → Prop) : Prop := ∀ (κ : Option SS) (σx σm : SS) (x1 : Int32) (x2 : Int32), I κ σx σm → wX6_read x1 x2 σx (fun r σx' => wX7_read x1 x2 σm (fun r' σm' => r = r' ∧ I κ σx' σm'))
def stp_value (I : Option SS → SS → SS → Prop) : Prop := ∀ (κ : Option SS) (σx σm : SS), I κ σx σm → wX6_value σx (fun r => wX7_value σm (fun r' => r = r' ∧ I κ σx σm))
def stp_copy (I : Option SS → SS → SS → Prop) : Prop := ∀ (κ : Option SS) (σx σm : SS) (x1 : Int32) (x2 : Int32) (x3 : Int32) (x4 : Int32) (x5 : Int32), I κ σx σm → wX6_copy x1 x2 x3 x4 x5 σx (fun r σx' => wX7_copy x1 x2 x3 x4 x5 σm (fun r' σm' => r = r' ∧ I κ σx' σm'))
def stp_fill (I : Option SS → SS → SS → Prop) : Prop := ∀ (κ : Option SS) (σx σm : SS) (x1 : Int32) (x2 : Int64), I κ σx σm → wX6_fill x1 x2 σx (fun r σx' => wX7_fill x1 x2 σm (fun r' σm' => r = r' ∧ I κ σx' σm'))
def stp_block (I : Option SS → SS → SS → Prop) : Prop := ∀ (κ : Option SS) (σx σm : SS) (x1 : Int32) (x2 : Int32), I κ σx σm → wX6_block x1 x2 σx (fun r σx' => wX7_block x1 x2 σm (fun r' σm' => r = r' ∧ I κ σx' σm'))
def stp_spoil (I : Option SS → SS → SS → Prop) : Prop := ∀ (κ : Option SS) (σx σm : SS) (x1 : Int32) (x2 : Int32) (x3 : Int64), I κ σx σm → (x2 = 0 ∨ x2 = 1) → wX6_spoil x1 x2 x3 σx (fun r σx' => wX7_spoil x1 x2 x3 σm (fun r' σm' => r = r' ∧ I κ σx' σm'))
def stp_peek (I : Option SS → SS → SS → Prop) : Prop := ∀ (κ : Option SS) (σx σm : SS) (x1 : Int32), I κ σx σm → wX6_peek x1 σx (fun r σx' => wX7_peek x1 σm (fun r' σm' => r = r' ∧ I κ σx' σm'))
def stp_largest (I : Option SS → SS → SS → Prop) : Prop := ∀ (κ : Option SS) (σx σm : SS) (x1 : Int32), I κ σx σm → wX6_largest x1 σx (fun r σx' => wX7_largest x1 σm (fun r' σm' => r = r' ∧ I κ σx' σm'))
def stp_told (I : Option SS → SS → SS → Prop) : Prop := ∀ (κ : Option SS) (σx σm : SS) (x1 : Int32) (x2 : Int32), I κ σx σm → wX6_told x1 x2 σx (fun r σx' => wX7_told x1 x2 σm (fun r' σm' => r = r' ∧ I κ σx' σm'))
def stp_map (I : Option SS → SS → SS → Prop) : Prop := ∀ (κ : Option SS) (σx σm : SS) (x1 : Int32) (x2 : Int32), I κ σx σm → wX6_map x1 x2 σx (fun r σx' => wX7_map x1 x2 σm (fun r' σm' => r = r' ∧ I κ σx' σm'))
def stp_count (I : Option SS → SS → SS → Prop) : Prop := ∀ (κ : Option SS) (σx σm : SS) (x1 : Int32), I κ σx σm → wX6_count x1 σx (fun r σx' => wX7_count x1 σm (fun r' σm' => r = r' ∧ I κ σx' σm'))
def stp_save (I : Option SS → SS → SS → Prop) : Prop := ∀ (κ : Option SS) (σx σm : SS), I κ σx σm → wX7_save σm (fun r σm' => 1 = r ∧ I (some (cpR σx (κ.getD sX0))) σx σm')
def stp_back (I : Option SS → SS → SS → Prop) : Prop := (∀ (σx σm : SS), I none σx σm → wX6_tell (-4) σx (fun r σx' => wX7_back σm (fun r' σm' => r = r' ∧ I none σx' σm'))) ∧ ∀ (σk σx σm : SS), I (some σk) σx σm → wX7_back σm (fun r' σm' => 1 = r' ∧ I (some σk) (cpR σk σx) σm')
def stp_hold (I : Option SS → SS → SS → Prop) : Prop := ∀ (κ : Option SS) (σx σm : SS) (x1 : Int32) (x2 : Int32), I κ σx σm → wX6_hold x1 x2 σx (fun r σx' => wX7_hold x1 x2 σm (fun r' σm' => r = r' ∧ I κ σx' σm'))
def stp_throwIt (I : Option SS → SS → SS → Prop) : Prop := ∀ (κ : Option SS) (σx σm : SS) (x1 : Int32), I κ σx σm → wX6_throwIt x1 σx (fun r σx' => wX7_throwIt x1 σm (fun r' σm' => r = r' ∧ I κ σx' σm'))
def stp_found (I : Option SS → SS → SS → Prop) : Prop := ∀ (κ : Option SS) (σx σm : SS) (x1 : Int32), I κ σx σm → wX6_found x1 σx (fun r σx' => wX7_found x1 σm (fun r' σm' => r = r' ∧ I κ σx' σm'))
def LawSteps (I : Option SS → SS → SS → Prop) : Prop := stp_open I ∧ stp_page I ∧ stp_zone I ∧ stp_want I ∧ stp_give I ∧ stp_grow I ∧ stp_shrink I ∧ stp_write I ∧ stp_read I ∧ stp_value I ∧ stp_copy I ∧ stp_fill I ∧ stp_block I ∧ stp_spoil I ∧ stp_peek I ∧ stp_largest I ∧ stp_told I ∧ stp_map I ∧ stp_count I ∧ stp_save I ∧ stp_back I ∧ stp_hold I ∧ stp_throwIt I ∧ stp_found I
set_option maxRecDepth 100000 in
set_option maxHeartbeats 4000000 in
theorem law_open {p : Program} {l : Launch} {e : Env} {s : State} {m : MethodId} {below : List Frame} {meth : Method} {c : Code} {D : va_G} {cI cJ cZ : ClassId} {b L : Nat} {xs : Nat → Int32} {ad bd : Nat → Nat} {I : Option SS → SS → SS → Prop} (hI : LawSteps I) (C : CL p s m #[Value.ref b] meth c D (tys cI cJ cZ) (fun q : Nat => s.heap.size ≤ q) code 4 "RoomWardenLaw" ret) (hX : va_X b L xs s s.heap) (hbl : b < s.heap.size) {j k0 n0 : Nat} (hin : ∀ d : Int32, 0 ≤ d → d ≤ 5 → vp_in (nI (6 * j) + d) L) (hk : k0 + 12 ≤ room_1.cells ∧ n0 + 5693 ≤ room_1.slots) (κ : Option ((Nat → Nat) × SS)) (σx σm : SS) (hi : I (ksO κ) σx σm)
    (fin : ∀ (κ : Option ((Nat → Nat) × SS)) (σx σm : SS), I (ksO κ) σx σm → JL p l e room_1 s m #[Value.ref b] below meth c D (fun q : Nat => s.heap.size ≤ q) 4 (lw_Z below #[Value.ref b] s) (k0 + 12) (n0 + 5693) (wX cI cJ ad (kvO κ) σx ++ (wM cI cJ cZ bd σm ++ wKo cI cJ κ)) 1009 [(3, .int (nI (6 * j))), (2, .ref (bd 0)), (1, .ref (ad 18)), (0, .ref b)] []) : JL p l e room_1 s m #[Value.ref b] below meth c D (fun q : Nat => s.heap.size ≤ q) 4 (lw_Z below #[Value.ref b] s) k0 n0 (wX cI cJ ad (kvO κ) σx ++ (wM cI cJ cZ bd σm ++ wKo cI cJ κ)) 144 [(3, .int (nI (6 * j))), (2, .ref (bd 0)), (1, .ref (ad 18)), (0, .ref b)] [] := by
  have hbA : ¬ (fun q : Nat => s.heap.size ≤ q) b := Nat.not_le.mpr hbl
  have hf0 : k0 ≤ room_1.cells ∧ n0 ≤ room_1.slots := ⟨Nat.le_trans (Nat.le_add_right _ _) hk.1, Nat.le_trans (Nat.le_add_right _ _) hk.2⟩
  have h := hI.1 _ σx σm ((xs (nI (6 * j) + 1).toNatClampNeg)) hi
  refine l_aload_n C dL_law_144 2 rfl ?_
  refine l_aload_n C dL_law_145 3 rfl ?_
  refine l_iload_n C dL_law_146 0 rfl ?_
  refine l_iconst (v := 1) C dL_law_147 (by decide) ?_
  refine l_iadd C dL_law_148 ?_
  refine l_sld C hX hbl hbA (hin 1 (by decide) (by decide)) dL_law_149 ?_
  refine l_calli 18 [.int ((xs (nI (6 * j) + 1).toNatClampNeg))] [] C (Ci.g adX (kX6_open_ok ((xs (nI (6 * j) + 1).toNatClampNeg)) σx h)) (tt_V ml_L_13 mV_X6_open) ok_X6_open ⟨by decide, by decide⟩ hf0 rfl rfl (Nat.le_of_ble_eq_true rfl) rfl dL_law_150 (fun r σx h => ?_)
  refine l_aload_n C dL_law_153 1 rfl ?_
  refine l_aload_n C dL_law_154 3 rfl ?_
  refine l_iload_n C dL_law_155 0 rfl ?_
  refine l_iconst (v := 1) C dL_law_156 (by decide) ?_
  refine l_iadd C dL_law_157 ?_
  refine l_sld C hX hbl hbA (hin 1 (by decide) (by decide)) dL_law_158 ?_
  refine l_perm (ws' := wM cI cJ cZ bd σm ++ ((wX cI cJ ad (kvO κ) σx) ++ (wKo cI cJ κ))) (pm_xm (wX cI cJ ad (kvO κ) σx) (wM cI cJ cZ bd σm) (wKo cI cJ κ)) ?_
  refine l_calli 0 [.int ((xs (nI (6 * j) + 1).toNatClampNeg))] [.int r] C (Ci.g adM (kX7_open_ok ((xs (nI (6 * j) + 1).toNatClampNeg)) σm h)) (tt_V ml_L_17 mV_X7_open) ok_X7_open ⟨by decide, by decide⟩ hf0 rfl rfl (Nat.le_of_ble_eq_true rfl) rfl dL_law_159 (fun r' σm h => ?_)
  refine l_perm (ws' := (wX cI cJ ad (kvO κ) σx) ++ (wM cI cJ cZ bd σm ++ (wKo cI cJ κ))) (pm_xm (wX cI cJ ad (kvO κ) σx) (wM cI cJ cZ bd σm) (wKo cI cJ κ)).symm ?_
  obtain ⟨rfl, h⟩ := h
  refine l_icmp_eq 1009 C dL_law_162 rfl (fun _ => ?_) (fun h => absurd rfl h)
  refine l_widen (k' := k0 + 12) (n' := n0 + 5693) (Nat.le_add_right _ _) (Nat.le_add_right _ _) ?_
  exact fin κ σx σm h
set_option maxRecDepth 100000 in
set_option maxHeartbeats 4000000 in
theorem law_page {p : Program} {l : Launch} {e : Env} {s : State} {m : MethodId} {below : List Frame} {meth : Method} {c : Code} {D : va_G} {cI cJ cZ : ClassId} {b L : Nat} {xs : Nat → Int32} {ad bd : Nat → Nat} {I : Option SS → SS → SS → Prop} (hI : LawSteps I) (C : CL p s m #[Value.ref b] meth c D (tys cI cJ cZ) (fun q : Nat => s.heap.size ≤ q) code 4 "RoomWardenLaw" ret) (hX : va_X b L xs s s.heap) (hbl : b < s.heap.size) {j k0 n0 : Nat} (hin : ∀ d : Int32, 0 ≤ d → d ≤ 5 → vp_in (nI (6 * j) + d) L) (hk : k0 + 12 ≤ room_1.cells ∧ n0 + 5693 ≤ room_1.slots) (κ : Option ((Nat → Nat) × SS)) (σx σm : SS) (hi : I (ksO κ) σx σm)
    (fin : ∀ (κ : Option ((Nat → Nat) × SS)) (σx σm : SS), I (ksO κ) σx σm → JL p l e room_1 s m #[Value.ref b] below meth c D (fun q : Nat => s.heap.size ≤ q) 4 (lw_Z below #[Value.ref b] s) (k0 + 12) (n0 + 5693) (wX cI cJ ad (kvO κ) σx ++ (wM cI cJ cZ bd σm ++ wKo cI cJ κ)) 1009 [(3, .int (nI (6 * j))), (2, .ref (bd 0)), (1, .ref (ad 18)), (0, .ref b)] []) : JL p l e room_1 s m #[Value.ref b] below meth c D (fun q : Nat => s.heap.size ≤ q) 4 (lw_Z below #[Value.ref b] s) k0 n0 (wX cI cJ ad (kvO κ) σx ++ (wM cI cJ cZ bd σm ++ wKo cI cJ κ)) 167 [(3, .int (nI (6 * j))), (2, .ref (bd 0)), (1, .ref (ad 18)), (0, .ref b)] [] := by
  have hbA : ¬ (fun q : Nat => s.heap.size ≤ q) b := Nat.not_le.mpr hbl
  have hf0 : k0 ≤ room_1.cells ∧ n0 ≤ room_1.slots := ⟨Nat.le_trans (Nat.le_add_right _ _) hk.1, Nat.le_trans (Nat.le_add_right _ _) hk.2⟩
  by_cases hz : (xs (nI (6 * j) + 2).toNatClampNeg) = 0
  · have h := hI.2.1 _ σx σm ((xs (nI (6 * j) + 1).toNatClampNeg)) 0 hi (Or.inl rfl)
    refine l_aload_n C dL_law_167 2 rfl ?_
    refine l_aload_n C dL_law_168 3 rfl ?_
    refine l_iload_n C dL_law_169 0 rfl ?_
    refine l_iconst (v := 1) C dL_law_170 (by decide) ?_
    refine l_iadd C dL_law_171 ?_
    refine l_sld C hX hbl hbA (hin 1 (by decide) (by decide)) dL_law_172 ?_
    refine l_aload_n C dL_law_173 3 rfl ?_
    refine l_iload_n C dL_law_174 0 rfl ?_
    refine l_iconst (v := 2) C dL_law_175 (by decide) ?_
    refine l_iadd C dL_law_176 ?_
    refine l_sld C hX hbl hbA (hin 2 (by decide) (by decide)) dL_law_177 ?_
    refine l_if_eq 185 C dL_law_178 rfl (fun _ => ?_) (fun h => absurd hz h)
    refine l_iconst (v := 0) C dL_law_185 (by decide) ?_
    refine l_calli 18 [.int ((xs (nI (6 * j) + 1).toNatClampNeg)), .int 0] [] C (Ci.g adX (kX6_page_ok ((xs (nI (6 * j) + 1).toNatClampNeg)) 0 σx h)) (tt_V ml_L_18 mV_X6_page) ok_X6_page ⟨by decide, by decide⟩ hf0 rfl rfl (Nat.le_of_ble_eq_true rfl) rfl dL_law_186 (fun r σx h => ?_)
    refine l_aload_n C dL_law_189 1 rfl ?_
    refine l_aload_n C dL_law_190 3 rfl ?_
    refine l_iload_n C dL_law_191 0 rfl ?_
    refine l_iconst (v := 1) C dL_law_192 (by decide) ?_
    refine l_iadd C dL_law_193 ?_
    refine l_sld C hX hbl hbA (hin 1 (by decide) (by decide)) dL_law_194 ?_
    refine l_aload_n C dL_law_195 3 rfl ?_
    refine l_iload_n C dL_law_196 0 rfl ?_
    refine l_iconst (v := 2) C dL_law_197 (by decide) ?_
    refine l_iadd C dL_law_198 ?_
    refine l_sld C hX hbl hbA (hin 2 (by decide) (by decide)) dL_law_199 ?_
    refine l_if_eq 207 C dL_law_200 rfl (fun _ => ?_) (fun h => absurd hz h)
    refine l_iconst (v := 0) C dL_law_207 (by decide) ?_
    refine l_perm (ws' := wM cI cJ cZ bd σm ++ ((wX cI cJ ad (kvO κ) σx) ++ (wKo cI cJ κ))) (pm_xm (wX cI cJ ad (kvO κ) σx) (wM cI cJ cZ bd σm) (wKo cI cJ κ)) ?_
    refine l_calli 0 [.int ((xs (nI (6 * j) + 1).toNatClampNeg)), .int 0] [.int r] C (Ci.g adM (kX7_page_ok ((xs (nI (6 * j) + 1).toNatClampNeg)) 0 σm h)) (tt_V ml_L_22 mV_X7_page) ok_X7_page ⟨by decide, by decide⟩ hf0 rfl rfl (Nat.le_of_ble_eq_true rfl) rfl dL_law_208 (fun r' σm h => ?_)
    refine l_perm (ws' := (wX cI cJ ad (kvO κ) σx) ++ (wM cI cJ cZ bd σm ++ (wKo cI cJ κ))) (pm_xm (wX cI cJ ad (kvO κ) σx) (wM cI cJ cZ bd σm) (wKo cI cJ κ)).symm ?_
    obtain ⟨rfl, h⟩ := h
    refine l_icmp_eq 1009 C dL_law_211 rfl (fun _ => ?_) (fun h => absurd rfl h)
    refine l_widen (k' := k0 + 12) (n' := n0 + 5693) (Nat.le_add_right _ _) (Nat.le_add_right _ _) ?_
    exact fin κ σx σm h
  · have h := hI.2.1 _ σx σm ((xs (nI (6 * j) + 1).toNatClampNeg)) 1 hi (Or.inr rfl)
    refine l_aload_n C dL_law_167 2 rfl ?_
    refine l_aload_n C dL_law_168 3 rfl ?_
    refine l_iload_n C dL_law_169 0 rfl ?_
    refine l_iconst (v := 1) C dL_law_170 (by decide) ?_
    refine l_iadd C dL_law_171 ?_
    refine l_sld C hX hbl hbA (hin 1 (by decide) (by decide)) dL_law_172 ?_
    refine l_aload_n C dL_law_173 3 rfl ?_
    refine l_iload_n C dL_law_174 0 rfl ?_
    refine l_iconst (v := 2) C dL_law_175 (by decide) ?_
    refine l_iadd C dL_law_176 ?_
    refine l_sld C hX hbl hbA (hin 2 (by decide) (by decide)) dL_law_177 ?_
    refine l_if_eq 185 C dL_law_178 rfl (fun h => absurd h hz) (fun _ => ?_)
    refine l_iconst (v := 1) C dL_law_181 (by decide) ?_
    refine l_goto 186 C dL_law_182 rfl ?_
    refine l_calli 18 [.int ((xs (nI (6 * j) + 1).toNatClampNeg)), .int 1] [] C (Ci.g adX (kX6_page_ok ((xs (nI (6 * j) + 1).toNatClampNeg)) 1 σx h)) (tt_V ml_L_18 mV_X6_page) ok_X6_page ⟨by decide, by decide⟩ hf0 rfl rfl (Nat.le_of_ble_eq_true rfl) rfl dL_law_186 (fun r σx h => ?_)
    refine l_aload_n C dL_law_189 1 rfl ?_
    refine l_aload_n C dL_law_190 3 rfl ?_
    refine l_iload_n C dL_law_191 0 rfl ?_
    refine l_iconst (v := 1) C dL_law_192 (by decide) ?_
    refine l_iadd C dL_law_193 ?_
    refine l_sld C hX hbl hbA (hin 1 (by decide) (by decide)) dL_law_194 ?_
    refine l_aload_n C dL_law_195 3 rfl ?_
    refine l_iload_n C dL_law_196 0 rfl ?_
    refine l_iconst (v := 2) C dL_law_197 (by decide) ?_
    refine l_iadd C dL_law_198 ?_
    refine l_sld C hX hbl hbA (hin 2 (by decide) (by decide)) dL_law_199 ?_
    refine l_if_eq 207 C dL_law_200 rfl (fun h => absurd h hz) (fun _ => ?_)
    refine l_iconst (v := 1) C dL_law_203 (by decide) ?_
    refine l_goto 208 C dL_law_204 rfl ?_
    refine l_perm (ws' := wM cI cJ cZ bd σm ++ ((wX cI cJ ad (kvO κ) σx) ++ (wKo cI cJ κ))) (pm_xm (wX cI cJ ad (kvO κ) σx) (wM cI cJ cZ bd σm) (wKo cI cJ κ)) ?_
    refine l_calli 0 [.int ((xs (nI (6 * j) + 1).toNatClampNeg)), .int 1] [.int r] C (Ci.g adM (kX7_page_ok ((xs (nI (6 * j) + 1).toNatClampNeg)) 1 σm h)) (tt_V ml_L_22 mV_X7_page) ok_X7_page ⟨by decide, by decide⟩ hf0 rfl rfl (Nat.le_of_ble_eq_true rfl) rfl dL_law_208 (fun r' σm h => ?_)
    refine l_perm (ws' := (wX cI cJ ad (kvO κ) σx) ++ (wM cI cJ cZ bd σm ++ (wKo cI cJ κ))) (pm_xm (wX cI cJ ad (kvO κ) σx) (wM cI cJ cZ bd σm) (wKo cI cJ κ)).symm ?_
    obtain ⟨rfl, h⟩ := h
    refine l_icmp_eq 1009 C dL_law_211 rfl (fun _ => ?_) (fun h => absurd rfl h)
    refine l_widen (k' := k0 + 12) (n' := n0 + 5693) (Nat.le_add_right _ _) (Nat.le_add_right _ _) ?_
    exact fin κ σx σm h
set_option maxRecDepth 100000 in
set_option maxHeartbeats 4000000 in
theorem law_zone {p : Program} {l : Launch} {e : Env} {s : State} {m : MethodId} {below : List Frame} {meth : Method} {c : Code} {D : va_G} {cI cJ cZ : ClassId} {b L : Nat} {xs : Nat → Int32} {ad bd : Nat → Nat} {I : Option SS → SS → SS → Prop} (hI : LawSteps I) (C : CL p s m #[Value.ref b] meth c D (tys cI cJ cZ) (fun q : Nat => s.heap.size ≤ q) code 4 "RoomWardenLaw" ret) (hX : va_X b L xs s s.heap) (hbl : b < s.heap.size) {j k0 n0 : Nat} (hin : ∀ d : Int32, 0 ≤ d → d ≤ 5 → vp_in (nI (6 * j) + d) L) (hk : k0 + 12 ≤ room_1.cells ∧ n0 + 5693 ≤ room_1.slots) (κ : Option ((Nat → Nat) × SS)) (σx σm : SS) (hi : I (ksO κ) σx σm)
    (fin : ∀ (κ : Option ((Nat → Nat) × SS)) (σx σm : SS), I (ksO κ) σx σm → JL p l e room_1 s m #[Value.ref b] below meth c D (fun q : Nat => s.heap.size ≤ q) 4 (lw_Z below #[Value.ref b] s) (k0 + 12) (n0 + 5693) (wX cI cJ ad (kvO κ) σx ++ (wM cI cJ cZ bd σm ++ wKo cI cJ κ)) 1009 [(3, .int (nI (6 * j))), (2, .ref (bd 0)), (1, .ref (ad 18)), (0, .ref b)] []) : JL p l e room_1 s m #[Value.ref b] below meth c D (fun q : Nat => s.heap.size ≤ q) 4 (lw_Z below #[Value.ref b] s) k0 n0 (wX cI cJ ad (kvO κ) σx ++ (wM cI cJ cZ bd σm ++ wKo cI cJ κ)) 216 [(3, .int (nI (6 * j))), (2, .ref (bd 0)), (1, .ref (ad 18)), (0, .ref b)] [] := by
  have hbA : ¬ (fun q : Nat => s.heap.size ≤ q) b := Nat.not_le.mpr hbl
  have hf0 : k0 ≤ room_1.cells ∧ n0 ≤ room_1.slots := ⟨Nat.le_trans (Nat.le_add_right _ _) hk.1, Nat.le_trans (Nat.le_add_right _ _) hk.2⟩
  have h := hI.2.2.1 _ σx σm ((xs (nI (6 * j) + 1).toNatClampNeg)) ((((xs (nI (6 * j) + 2).toNatClampNeg).toInt64 <<< ((32 : Int32).toInt64 &&& 63)) ||| ((xs (nI (6 * j) + 3).toNatClampNeg).toInt64 &&& 4294967295))) hi
  refine l_aload_n C dL_law_216 2 rfl ?_
  refine l_aload_n C dL_law_217 3 rfl ?_
  refine l_iload_n C dL_law_218 0 rfl ?_
  refine l_iconst (v := 1) C dL_law_219 (by decide) ?_
  refine l_iadd C dL_law_220 ?_
  refine l_sld C hX hbl hbA (hin 1 (by decide) (by decide)) dL_law_221 ?_
  refine l_aload_n C dL_law_222 3 rfl ?_
  refine l_iload_n C dL_law_223 0 rfl ?_
  refine l_iconst (v := 2) C dL_law_224 (by decide) ?_
  refine l_iadd C dL_law_225 ?_
  refine l_sld C hX hbl hbA (hin 2 (by decide) (by decide)) dL_law_226 ?_
  refine l_i2l C dL_law_227 ?_
  refine l_bipush (v := 32) C dL_law_228 (by decide) ?_
  refine l_lshl C dL_law_230 ?_
  refine l_aload_n C dL_law_231 3 rfl ?_
  refine l_iload_n C dL_law_232 0 rfl ?_
  refine l_iconst (v := 3) C dL_law_233 (by decide) ?_
  refine l_iadd C dL_law_234 ?_
  refine l_sld C hX hbl hbA (hin 3 (by decide) (by decide)) dL_law_235 ?_
  refine l_i2l C dL_law_236 ?_
  refine l_ldc2 C dL_law_237 mk_L_23 ?_
  refine l_land C dL_law_240 ?_
  refine l_lor C dL_law_241 ?_
  refine l_calli 18 [.int ((xs (nI (6 * j) + 1).toNatClampNeg)), .long ((((xs (nI (6 * j) + 2).toNatClampNeg).toInt64 <<< ((32 : Int32).toInt64 &&& 63)) ||| ((xs (nI (6 * j) + 3).toNatClampNeg).toInt64 &&& 4294967295)))] [] C (Ci.g adX (kX6_zone_ok ((xs (nI (6 * j) + 1).toNatClampNeg)) ((((xs (nI (6 * j) + 2).toNatClampNeg).toInt64 <<< ((32 : Int32).toInt64 &&& 63)) ||| ((xs (nI (6 * j) + 3).toNatClampNeg).toInt64 &&& 4294967295))) σx h)) (tt_V ml_L_25 mV_X6_zone) ok_X6_zone ⟨by decide, by decide⟩ hf0 rfl rfl (Nat.le_of_ble_eq_true rfl) rfl dL_law_242 (fun r σx h => ?_)
  refine l_aload_n C dL_law_245 1 rfl ?_
  refine l_aload_n C dL_law_246 3 rfl ?_
  refine l_iload_n C dL_law_247 0 rfl ?_
  refine l_iconst (v := 1) C dL_law_248 (by decide) ?_
  refine l_iadd C dL_law_249 ?_
  refine l_sld C hX hbl hbA (hin 1 (by decide) (by decide)) dL_law_250 ?_
  refine l_aload_n C dL_law_251 3 rfl ?_
  refine l_iload_n C dL_law_252 0 rfl ?_
  refine l_iconst (v := 2) C dL_law_253 (by decide) ?_
  refine l_iadd C dL_law_254 ?_
  refine l_sld C hX hbl hbA (hin 2 (by decide) (by decide)) dL_law_255 ?_
  refine l_i2l C dL_law_256 ?_
  refine l_bipush (v := 32) C dL_law_257 (by decide) ?_
  refine l_lshl C dL_law_259 ?_
  refine l_aload_n C dL_law_260 3 rfl ?_
  refine l_iload_n C dL_law_261 0 rfl ?_
  refine l_iconst (v := 3) C dL_law_262 (by decide) ?_
  refine l_iadd C dL_law_263 ?_
  refine l_sld C hX hbl hbA (hin 3 (by decide) (by decide)) dL_law_264 ?_
  refine l_i2l C dL_law_265 ?_
  refine l_ldc2 C dL_law_266 mk_L_23 ?_
  refine l_land C dL_law_269 ?_
  refine l_lor C dL_law_270 ?_
  refine l_perm (ws' := wM cI cJ cZ bd σm ++ ((wX cI cJ ad (kvO κ) σx) ++ (wKo cI cJ κ))) (pm_xm (wX cI cJ ad (kvO κ) σx) (wM cI cJ cZ bd σm) (wKo cI cJ κ)) ?_
  refine l_calli 0 [.int ((xs (nI (6 * j) + 1).toNatClampNeg)), .long ((((xs (nI (6 * j) + 2).toNatClampNeg).toInt64 <<< ((32 : Int32).toInt64 &&& 63)) ||| ((xs (nI (6 * j) + 3).toNatClampNeg).toInt64 &&& 4294967295)))] [.int r] C (Ci.g adM (kX7_zone_ok ((xs (nI (6 * j) + 1).toNatClampNeg)) ((((xs (nI (6 * j) + 2).toNatClampNeg).toInt64 <<< ((32 : Int32).toInt64 &&& 63)) ||| ((xs (nI (6 * j) + 3).toNatClampNeg).toInt64 &&& 4294967295))) σm h)) (tt_V ml_L_29 mV_X7_zone) ok_X7_zone ⟨by decide, by decide⟩ hf0 rfl rfl (Nat.le_of_ble_eq_true rfl) rfl dL_law_271 (fun r' σm h => ?_)
  refine l_perm (ws' := (wX cI cJ ad (kvO κ) σx) ++ (wM cI cJ cZ bd σm ++ (wKo cI cJ κ))) (pm_xm (wX cI cJ ad (kvO κ) σx) (wM cI cJ cZ bd σm) (wKo cI cJ κ)).symm ?_
  obtain ⟨rfl, h⟩ := h
  refine l_icmp_eq 1009 C dL_law_274 rfl (fun _ => ?_) (fun h => absurd rfl h)
  refine l_widen (k' := k0 + 12) (n' := n0 + 5693) (Nat.le_add_right _ _) (Nat.le_add_right _ _) ?_
  exact fin κ σx σm h
set_option maxRecDepth 100000 in
set_option maxHeartbeats 4000000 in
theorem law_want {p : Program} {l : Launch} {e : Env} {s : State} {m : MethodId} {below : List Frame} {meth : Method} {c : Code} {D : va_G} {cI cJ cZ : ClassId} {b L : Nat} {xs : Nat → Int32} {ad bd : Nat → Nat} {I : Option SS → SS → SS → Prop} (hI : LawSteps I) (C : CL p s m #[Value.ref b] meth c D (tys cI cJ cZ) (fun q : Nat => s.heap.size ≤ q) code 4 "RoomWardenLaw" ret) (hX : va_X b L xs s s.heap) (hbl : b < s.heap.size) {j k0 n0 : Nat} (hin : ∀ d : Int32, 0 ≤ d → d ≤ 5 → vp_in (nI (6 * j) + d) L) (hk : k0 + 12 ≤ room_1.cells ∧ n0 + 5693 ≤ room_1.slots) (κ : Option ((Nat → Nat) × SS)) (σx σm : SS) (hi : I (ksO κ) σx σm)
    (fin : ∀ (κ : Option ((Nat → Nat) × SS)) (σx σm : SS), I (ksO κ) σx σm → JL p l e room_1 s m #[Value.ref b] below meth c D (fun q : Nat => s.heap.size ≤ q) 4 (lw_Z below #[Value.ref b] s) (k0 + 12) (n0 + 5693) (wX cI cJ ad (kvO κ) σx ++ (wM cI cJ cZ bd σm ++ wKo cI cJ κ)) 1009 [(3, .int (nI (6 * j))), (2, .ref (bd 0)), (1, .ref (ad 18)), (0, .ref b)] []) : JL p l e room_1 s m #[Value.ref b] below meth c D (fun q : Nat => s.heap.size ≤ q) 4 (lw_Z below #[Value.ref b] s) k0 n0 (wX cI cJ ad (kvO κ) σx ++ (wM cI cJ cZ bd σm ++ wKo cI cJ κ)) 279 [(3, .int (nI (6 * j))), (2, .ref (bd 0)), (1, .ref (ad 18)), (0, .ref b)] [] := by
  have hbA : ¬ (fun q : Nat => s.heap.size ≤ q) b := Nat.not_le.mpr hbl
  have hf0 : k0 ≤ room_1.cells ∧ n0 ≤ room_1.slots := ⟨Nat.le_trans (Nat.le_add_right _ _) hk.1, Nat.le_trans (Nat.le_add_right _ _) hk.2⟩
  have h := hI.2.2.2.1 _ σx σm ((xs (nI (6 * j) + 1).toNatClampNeg)) ((xs (nI (6 * j) + 2).toNatClampNeg)) hi
  refine l_aload_n C dL_law_279 2 rfl ?_
  refine l_aload_n C dL_law_280 3 rfl ?_
  refine l_iload_n C dL_law_281 0 rfl ?_
  refine l_iconst (v := 1) C dL_law_282 (by decide) ?_
  refine l_iadd C dL_law_283 ?_
  refine l_sld C hX hbl hbA (hin 1 (by decide) (by decide)) dL_law_284 ?_
  refine l_aload_n C dL_law_285 3 rfl ?_
  refine l_iload_n C dL_law_286 0 rfl ?_
  refine l_iconst (v := 2) C dL_law_287 (by decide) ?_
  refine l_iadd C dL_law_288 ?_
  refine l_sld C hX hbl hbA (hin 2 (by decide) (by decide)) dL_law_289 ?_
  refine l_calli 18 [.int ((xs (nI (6 * j) + 1).toNatClampNeg)), .int ((xs (nI (6 * j) + 2).toNatClampNeg))] [] C (Ci.g adX (kX6_want_ok ((xs (nI (6 * j) + 1).toNatClampNeg)) ((xs (nI (6 * j) + 2).toNatClampNeg)) σx h)) (tt_V ml_L_30 mV_X6_want) ok_X6_want ⟨by decide, by decide⟩ hf0 rfl rfl (Nat.le_of_ble_eq_true rfl) rfl dL_law_290 (fun r σx h => ?_)
  refine l_aload_n C dL_law_293 1 rfl ?_
  refine l_aload_n C dL_law_294 3 rfl ?_
  refine l_iload_n C dL_law_295 0 rfl ?_
  refine l_iconst (v := 1) C dL_law_296 (by decide) ?_
  refine l_iadd C dL_law_297 ?_
  refine l_sld C hX hbl hbA (hin 1 (by decide) (by decide)) dL_law_298 ?_
  refine l_aload_n C dL_law_299 3 rfl ?_
  refine l_iload_n C dL_law_300 0 rfl ?_
  refine l_iconst (v := 2) C dL_law_301 (by decide) ?_
  refine l_iadd C dL_law_302 ?_
  refine l_sld C hX hbl hbA (hin 2 (by decide) (by decide)) dL_law_303 ?_
  refine l_perm (ws' := wM cI cJ cZ bd σm ++ ((wX cI cJ ad (kvO κ) σx) ++ (wKo cI cJ κ))) (pm_xm (wX cI cJ ad (kvO κ) σx) (wM cI cJ cZ bd σm) (wKo cI cJ κ)) ?_
  refine l_calli 0 [.int ((xs (nI (6 * j) + 1).toNatClampNeg)), .int ((xs (nI (6 * j) + 2).toNatClampNeg))] [.int r] C (Ci.g adM (kX7_want_ok ((xs (nI (6 * j) + 1).toNatClampNeg)) ((xs (nI (6 * j) + 2).toNatClampNeg)) σm h)) (tt_V ml_L_34 mV_X7_want) ok_X7_want ⟨by decide, by decide⟩ hf0 rfl rfl (Nat.le_of_ble_eq_true rfl) rfl dL_law_304 (fun r' σm h => ?_)
  refine l_perm (ws' := (wX cI cJ ad (kvO κ) σx) ++ (wM cI cJ cZ bd σm ++ (wKo cI cJ κ))) (pm_xm (wX cI cJ ad (kvO κ) σx) (wM cI cJ cZ bd σm) (wKo cI cJ κ)).symm ?_
  obtain ⟨rfl, h⟩ := h
  refine l_icmp_eq 1009 C dL_law_307 rfl (fun _ => ?_) (fun h => absurd rfl h)
  refine l_widen (k' := k0 + 12) (n' := n0 + 5693) (Nat.le_add_right _ _) (Nat.le_add_right _ _) ?_
  exact fin κ σx σm h
set_option maxRecDepth 100000 in
set_option maxHeartbeats 4000000 in
theorem law_give {p : Program} {l : Launch} {e : Env} {s : State} {m : MethodId} {below : List Frame} {meth : Method} {c : Code} {D : va_G} {cI cJ cZ : ClassId} {b L : Nat} {xs : Nat → Int32} {ad bd : Nat → Nat} {I : Option SS → SS → SS → Prop} (hI : LawSteps I) (C : CL p s m #[Value.ref b] meth c D (tys cI cJ cZ) (fun q : Nat => s.heap.size ≤ q) code 4 "RoomWardenLaw" ret) (hX : va_X b L xs s s.heap) (hbl : b < s.heap.size) {j k0 n0 : Nat} (hin : ∀ d : Int32, 0 ≤ d → d ≤ 5 → vp_in (nI (6 * j) + d) L) (hk : k0 + 12 ≤ room_1.cells ∧ n0 + 5693 ≤ room_1.slots) (κ : Option ((Nat → Nat) × SS)) (σx σm : SS) (hi : I (ksO κ) σx σm)
    (fin : ∀ (κ : Option ((Nat → Nat) × SS)) (σx σm : SS), I (ksO κ) σx σm → JL p l e room_1 s m #[Value.ref b] below meth c D (fun q : Nat => s.heap.size ≤ q) 4 (lw_Z below #[Value.ref b] s) (k0 + 12) (n0 + 5693) (wX cI cJ ad (kvO κ) σx ++ (wM cI cJ cZ bd σm ++ wKo cI cJ κ)) 1009 [(3, .int (nI (6 * j))), (2, .ref (bd 0)), (1, .ref (ad 18)), (0, .ref b)] []) : JL p l e room_1 s m #[Value.ref b] below meth c D (fun q : Nat => s.heap.size ≤ q) 4 (lw_Z below #[Value.ref b] s) k0 n0 (wX cI cJ ad (kvO κ) σx ++ (wM cI cJ cZ bd σm ++ wKo cI cJ κ)) 312 [(3, .int (nI (6 * j))), (2, .ref (bd 0)), (1, .ref (ad 18)), (0, .ref b)] [] := by
  have hbA : ¬ (fun q : Nat => s.heap.size ≤ q) b := Nat.not_le.mpr hbl
  have hf0 : k0 ≤ room_1.cells ∧ n0 ≤ room_1.slots := ⟨Nat.le_trans (Nat.le_add_right _ _) hk.1, Nat.le_trans (Nat.le_add_right _ _) hk.2⟩
  have h := hI.2.2.2.2.1 _ σx σm ((xs (nI (6 * j) + 1).toNatClampNeg)) hi
  refine l_aload_n C dL_law_312 2 rfl ?_
  refine l_aload_n C dL_law_313 3 rfl ?_
  refine l_iload_n C dL_law_314 0 rfl ?_
  refine l_iconst (v := 1) C dL_law_315 (by decide) ?_
  refine l_iadd C dL_law_316 ?_
  refine l_sld C hX hbl hbA (hin 1 (by decide) (by decide)) dL_law_317 ?_
  refine l_calli 18 [.int ((xs (nI (6 * j) + 1).toNatClampNeg))] [] C (Ci.g adX (kX6_give_ok ((xs (nI (6 * j) + 1).toNatClampNeg)) σx h)) (tt_V ml_L_35 mV_X6_give) ok_X6_give ⟨by decide, by decide⟩ hf0 rfl rfl (Nat.le_of_ble_eq_true rfl) rfl dL_law_318 (fun r σx h => ?_)
  refine l_aload_n C dL_law_321 1 rfl ?_
  refine l_aload_n C dL_law_322 3 rfl ?_
  refine l_iload_n C dL_law_323 0 rfl ?_
  refine l_iconst (v := 1) C dL_law_324 (by decide) ?_
  refine l_iadd C dL_law_325 ?_
  refine l_sld C hX hbl hbA (hin 1 (by decide) (by decide)) dL_law_326 ?_
  refine l_perm (ws' := wM cI cJ cZ bd σm ++ ((wX cI cJ ad (kvO κ) σx) ++ (wKo cI cJ κ))) (pm_xm (wX cI cJ ad (kvO κ) σx) (wM cI cJ cZ bd σm) (wKo cI cJ κ)) ?_
  refine l_calli 0 [.int ((xs (nI (6 * j) + 1).toNatClampNeg))] [.int r] C (Ci.g adM (kX7_give_ok ((xs (nI (6 * j) + 1).toNatClampNeg)) σm h)) (tt_V ml_L_38 mV_X7_give) ok_X7_give ⟨by decide, by decide⟩ hf0 rfl rfl (Nat.le_of_ble_eq_true rfl) rfl dL_law_327 (fun r' σm h => ?_)
  refine l_perm (ws' := (wX cI cJ ad (kvO κ) σx) ++ (wM cI cJ cZ bd σm ++ (wKo cI cJ κ))) (pm_xm (wX cI cJ ad (kvO κ) σx) (wM cI cJ cZ bd σm) (wKo cI cJ κ)).symm ?_
  obtain ⟨rfl, h⟩ := h
  refine l_icmp_eq 1009 C dL_law_330 rfl (fun _ => ?_) (fun h => absurd rfl h)
  refine l_widen (k' := k0 + 12) (n' := n0 + 5693) (Nat.le_add_right _ _) (Nat.le_add_right _ _) ?_
  exact fin κ σx σm h
set_option maxRecDepth 100000 in
set_option maxHeartbeats 4000000 in
theorem law_grow {p : Program} {l : Launch} {e : Env} {s : State} {m : MethodId} {below : List Frame} {meth : Method} {c : Code} {D : va_G} {cI cJ cZ : ClassId} {b L : Nat} {xs : Nat → Int32} {ad bd : Nat → Nat} {I : Option SS → SS → SS → Prop} (hI : LawSteps I) (C : CL p s m #[Value.ref b] meth c D (tys cI cJ cZ) (fun q : Nat => s.heap.size ≤ q) code 4 "RoomWardenLaw" ret) (hX : va_X b L xs s s.heap) (hbl : b < s.heap.size) {j k0 n0 : Nat} (hin : ∀ d : Int32, 0 ≤ d → d ≤ 5 → vp_in (nI (6 * j) + d) L) (hk : k0 + 12 ≤ room_1.cells ∧ n0 + 5693 ≤ room_1.slots) (κ : Option ((Nat → Nat) × SS)) (σx σm : SS) (hi : I (ksO κ) σx σm)
    (fin : ∀ (κ : Option ((Nat → Nat) × SS)) (σx σm : SS), I (ksO κ) σx σm → JL p l e room_1 s m #[Value.ref b] below meth c D (fun q : Nat => s.heap.size ≤ q) 4 (lw_Z below #[Value.ref b] s) (k0 + 12) (n0 + 5693) (wX cI cJ ad (kvO κ) σx ++ (wM cI cJ cZ bd σm ++ wKo cI cJ κ)) 1009 [(3, .int (nI (6 * j))), (2, .ref (bd 0)), (1, .ref (ad 18)), (0, .ref b)] []) : JL p l e room_1 s m #[Value.ref b] below meth c D (fun q : Nat => s.heap.size ≤ q) 4 (lw_Z below #[Value.ref b] s) k0 n0 (wX cI cJ ad (kvO κ) σx ++ (wM cI cJ cZ bd σm ++ wKo cI cJ κ)) 335 [(3, .int (nI (6 * j))), (2, .ref (bd 0)), (1, .ref (ad 18)), (0, .ref b)] [] := by
  have hbA : ¬ (fun q : Nat => s.heap.size ≤ q) b := Nat.not_le.mpr hbl
  have hf0 : k0 ≤ room_1.cells ∧ n0 ≤ room_1.slots := ⟨Nat.le_trans (Nat.le_add_right _ _) hk.1, Nat.le_trans (Nat.le_add_right _ _) hk.2⟩
  have h := hI.2.2.2.2.2.1 _ σx σm ((xs (nI (6 * j) + 1).toNatClampNeg)) ((xs (nI (6 * j) + 2).toNatClampNeg)) hi
  refine l_aload_n C dL_law_335 2 rfl ?_
  refine l_aload_n C dL_law_336 3 rfl ?_
  refine l_iload_n C dL_law_337 0 rfl ?_
  refine l_iconst (v := 1) C dL_law_338 (by decide) ?_
  refine l_iadd C dL_law_339 ?_
  refine l_sld C hX hbl hbA (hin 1 (by decide) (by decide)) dL_law_340 ?_
  refine l_aload_n C dL_law_341 3 rfl ?_
  refine l_iload_n C dL_law_342 0 rfl ?_
  refine l_iconst (v := 2) C dL_law_343 (by decide) ?_
  refine l_iadd C dL_law_344 ?_
  refine l_sld C hX hbl hbA (hin 2 (by decide) (by decide)) dL_law_345 ?_
  refine l_calli 18 [.int ((xs (nI (6 * j) + 1).toNatClampNeg)), .int ((xs (nI (6 * j) + 2).toNatClampNeg))] [] C (Ci.g adX (kX6_grow_ok ((xs (nI (6 * j) + 1).toNatClampNeg)) ((xs (nI (6 * j) + 2).toNatClampNeg)) σx h)) (tt_V ml_L_39 mV_X6_grow) ok_X6_grow ⟨by decide, by decide⟩ hf0 rfl rfl (Nat.le_of_ble_eq_true rfl) rfl dL_law_346 (fun r σx h => ?_)
  refine l_aload_n C dL_law_349 1 rfl ?_
  refine l_aload_n C dL_law_350 3 rfl ?_
  refine l_iload_n C dL_law_351 0 rfl ?_
  refine l_iconst (v := 1) C dL_law_352 (by decide) ?_
  refine l_iadd C dL_law_353 ?_
  refine l_sld C hX hbl hbA (hin 1 (by decide) (by decide)) dL_law_354 ?_
  refine l_aload_n C dL_law_355 3 rfl ?_
  refine l_iload_n C dL_law_356 0 rfl ?_
  refine l_iconst (v := 2) C dL_law_357 (by decide) ?_
  refine l_iadd C dL_law_358 ?_
  refine l_sld C hX hbl hbA (hin 2 (by decide) (by decide)) dL_law_359 ?_
  refine l_perm (ws' := wM cI cJ cZ bd σm ++ ((wX cI cJ ad (kvO κ) σx) ++ (wKo cI cJ κ))) (pm_xm (wX cI cJ ad (kvO κ) σx) (wM cI cJ cZ bd σm) (wKo cI cJ κ)) ?_
  refine l_calli 0 [.int ((xs (nI (6 * j) + 1).toNatClampNeg)), .int ((xs (nI (6 * j) + 2).toNatClampNeg))] [.int r] C (Ci.g adM (kX7_grow_ok ((xs (nI (6 * j) + 1).toNatClampNeg)) ((xs (nI (6 * j) + 2).toNatClampNeg)) σm h)) (tt_V ml_L_42 mV_X7_grow) ok_X7_grow ⟨by decide, by decide⟩ hf0 rfl rfl (Nat.le_of_ble_eq_true rfl) rfl dL_law_360 (fun r' σm h => ?_)
  refine l_perm (ws' := (wX cI cJ ad (kvO κ) σx) ++ (wM cI cJ cZ bd σm ++ (wKo cI cJ κ))) (pm_xm (wX cI cJ ad (kvO κ) σx) (wM cI cJ cZ bd σm) (wKo cI cJ κ)).symm ?_
  obtain ⟨rfl, h⟩ := h
  refine l_icmp_eq 1009 C dL_law_363 rfl (fun _ => ?_) (fun h => absurd rfl h)
  refine l_widen (k' := k0 + 12) (n' := n0 + 5693) (Nat.le_add_right _ _) (Nat.le_add_right _ _) ?_
  exact fin κ σx σm h
set_option maxRecDepth 100000 in
set_option maxHeartbeats 4000000 in
theorem law_shrink {p : Program} {l : Launch} {e : Env} {s : State} {m : MethodId} {below : List Frame} {meth : Method} {c : Code} {D : va_G} {cI cJ cZ : ClassId} {b L : Nat} {xs : Nat → Int32} {ad bd : Nat → Nat} {I : Option SS → SS → SS → Prop} (hI : LawSteps I) (C : CL p s m #[Value.ref b] meth c D (tys cI cJ cZ) (fun q : Nat => s.heap.size ≤ q) code 4 "RoomWardenLaw" ret) (hX : va_X b L xs s s.heap) (hbl : b < s.heap.size) {j k0 n0 : Nat} (hin : ∀ d : Int32, 0 ≤ d → d ≤ 5 → vp_in (nI (6 * j) + d) L) (hk : k0 + 12 ≤ room_1.cells ∧ n0 + 5693 ≤ room_1.slots) (κ : Option ((Nat → Nat) × SS)) (σx σm : SS) (hi : I (ksO κ) σx σm)
    (fin : ∀ (κ : Option ((Nat → Nat) × SS)) (σx σm : SS), I (ksO κ) σx σm → JL p l e room_1 s m #[Value.ref b] below meth c D (fun q : Nat => s.heap.size ≤ q) 4 (lw_Z below #[Value.ref b] s) (k0 + 12) (n0 + 5693) (wX cI cJ ad (kvO κ) σx ++ (wM cI cJ cZ bd σm ++ wKo cI cJ κ)) 1009 [(3, .int (nI (6 * j))), (2, .ref (bd 0)), (1, .ref (ad 18)), (0, .ref b)] []) : JL p l e room_1 s m #[Value.ref b] below meth c D (fun q : Nat => s.heap.size ≤ q) 4 (lw_Z below #[Value.ref b] s) k0 n0 (wX cI cJ ad (kvO κ) σx ++ (wM cI cJ cZ bd σm ++ wKo cI cJ κ)) 368 [(3, .int (nI (6 * j))), (2, .ref (bd 0)), (1, .ref (ad 18)), (0, .ref b)] [] := by
  have hbA : ¬ (fun q : Nat => s.heap.size ≤ q) b := Nat.not_le.mpr hbl
  have hf0 : k0 ≤ room_1.cells ∧ n0 ≤ room_1.slots := ⟨Nat.le_trans (Nat.le_add_right _ _) hk.1, Nat.le_trans (Nat.le_add_right _ _) hk.2⟩
  have h := hI.2.2.2.2.2.2.1 _ σx σm ((xs (nI (6 * j) + 1).toNatClampNeg)) ((xs (nI (6 * j) + 2).toNatClampNeg)) hi
  refine l_aload_n C dL_law_368 2 rfl ?_
  refine l_aload_n C dL_law_369 3 rfl ?_
  refine l_iload_n C dL_law_370 0 rfl ?_
  refine l_iconst (v := 1) C dL_law_371 (by decide) ?_
  refine l_iadd C dL_law_372 ?_
  refine l_sld C hX hbl hbA (hin 1 (by decide) (by decide)) dL_law_373 ?_
  refine l_aload_n C dL_law_374 3 rfl ?_
  refine l_iload_n C dL_law_375 0 rfl ?_
  refine l_iconst (v := 2) C dL_law_376 (by decide) ?_
  refine l_iadd C dL_law_377 ?_
  refine l_sld C hX hbl hbA (hin 2 (by decide) (by decide)) dL_law_378 ?_
  refine l_calli 18 [.int ((xs (nI (6 * j) + 1).toNatClampNeg)), .int ((xs (nI (6 * j) + 2).toNatClampNeg))] [] C (Ci.g adX (kX6_shrink_ok ((xs (nI (6 * j) + 1).toNatClampNeg)) ((xs (nI (6 * j) + 2).toNatClampNeg)) σx h)) (tt_V ml_L_43 mV_X6_shrink) ok_X6_shrink ⟨by decide, by decide⟩ hf0 rfl rfl (Nat.le_of_ble_eq_true rfl) rfl dL_law_379 (fun r σx h => ?_)
  refine l_aload_n C dL_law_382 1 rfl ?_
  refine l_aload_n C dL_law_383 3 rfl ?_
  refine l_iload_n C dL_law_384 0 rfl ?_
  refine l_iconst (v := 1) C dL_law_385 (by decide) ?_
  refine l_iadd C dL_law_386 ?_
  refine l_sld C hX hbl hbA (hin 1 (by decide) (by decide)) dL_law_387 ?_
  refine l_aload_n C dL_law_388 3 rfl ?_
  refine l_iload_n C dL_law_389 0 rfl ?_
  refine l_iconst (v := 2) C dL_law_390 (by decide) ?_
  refine l_iadd C dL_law_391 ?_
  refine l_sld C hX hbl hbA (hin 2 (by decide) (by decide)) dL_law_392 ?_
  refine l_perm (ws' := wM cI cJ cZ bd σm ++ ((wX cI cJ ad (kvO κ) σx) ++ (wKo cI cJ κ))) (pm_xm (wX cI cJ ad (kvO κ) σx) (wM cI cJ cZ bd σm) (wKo cI cJ κ)) ?_
  refine l_calli 0 [.int ((xs (nI (6 * j) + 1).toNatClampNeg)), .int ((xs (nI (6 * j) + 2).toNatClampNeg))] [.int r] C (Ci.g adM (kX7_shrink_ok ((xs (nI (6 * j) + 1).toNatClampNeg)) ((xs (nI (6 * j) + 2).toNatClampNeg)) σm h)) (tt_V ml_L_46 mV_X7_shrink) ok_X7_shrink ⟨by decide, by decide⟩ hf0 rfl rfl (Nat.le_of_ble_eq_true rfl) rfl dL_law_393 (fun r' σm h => ?_)
  refine l_perm (ws' := (wX cI cJ ad (kvO κ) σx) ++ (wM cI cJ cZ bd σm ++ (wKo cI cJ κ))) (pm_xm (wX cI cJ ad (kvO κ) σx) (wM cI cJ cZ bd σm) (wKo cI cJ κ)).symm ?_
  obtain ⟨rfl, h⟩ := h
  refine l_icmp_eq 1009 C dL_law_396 rfl (fun _ => ?_) (fun h => absurd rfl h)
  refine l_widen (k' := k0 + 12) (n' := n0 + 5693) (Nat.le_add_right _ _) (Nat.le_add_right _ _) ?_
  exact fin κ σx σm h
set_option maxRecDepth 100000 in
set_option maxHeartbeats 4000000 in
theorem law_write {p : Program} {l : Launch} {e : Env} {s : State} {m : MethodId} {below : List Frame} {meth : Method} {c : Code} {D : va_G} {cI cJ cZ : ClassId} {b L : Nat} {xs : Nat → Int32} {ad bd : Nat → Nat} {I : Option SS → SS → SS → Prop} (hI : LawSteps I) (C : CL p s m #[Value.ref b] meth c D (tys cI cJ cZ) (fun q : Nat => s.heap.size ≤ q) code 4 "RoomWardenLaw" ret) (hX : va_X b L xs s s.heap) (hbl : b < s.heap.size) {j k0 n0 : Nat} (hin : ∀ d : Int32, 0 ≤ d → d ≤ 5 → vp_in (nI (6 * j) + d) L) (hk : k0 + 12 ≤ room_1.cells ∧ n0 + 5693 ≤ room_1.slots) (κ : Option ((Nat → Nat) × SS)) (σx σm : SS) (hi : I (ksO κ) σx σm)
    (fin : ∀ (κ : Option ((Nat → Nat) × SS)) (σx σm : SS), I (ksO κ) σx σm → JL p l e room_1 s m #[Value.ref b] below meth c D (fun q : Nat => s.heap.size ≤ q) 4 (lw_Z below #[Value.ref b] s) (k0 + 12) (n0 + 5693) (wX cI cJ ad (kvO κ) σx ++ (wM cI cJ cZ bd σm ++ wKo cI cJ κ)) 1009 [(3, .int (nI (6 * j))), (2, .ref (bd 0)), (1, .ref (ad 18)), (0, .ref b)] []) : JL p l e room_1 s m #[Value.ref b] below meth c D (fun q : Nat => s.heap.size ≤ q) 4 (lw_Z below #[Value.ref b] s) k0 n0 (wX cI cJ ad (kvO κ) σx ++ (wM cI cJ cZ bd σm ++ wKo cI cJ κ)) 401 [(3, .int (nI (6 * j))), (2, .ref (bd 0)), (1, .ref (ad 18)), (0, .ref b)] [] := by
  have hbA : ¬ (fun q : Nat => s.heap.size ≤ q) b := Nat.not_le.mpr hbl
  have hf0 : k0 ≤ room_1.cells ∧ n0 ≤ room_1.slots := ⟨Nat.le_trans (Nat.le_add_right _ _) hk.1, Nat.le_trans (Nat.le_add_right _ _) hk.2⟩
  have h := hI.2.2.2.2.2.2.2.1 _ σx σm ((xs (nI (6 * j) + 1).toNatClampNeg)) ((xs (nI (6 * j) + 2).toNatClampNeg)) ((((xs (nI (6 * j) + 3).toNatClampNeg).toInt64 <<< ((32 : Int32).toInt64 &&& 63)) ||| ((xs (nI (6 * j) + 4).toNatClampNeg).toInt64 &&& 4294967295))) hi
  refine l_aload_n C dL_law_401 2 rfl ?_
  refine l_aload_n C dL_law_402 3 rfl ?_
  refine l_iload_n C dL_law_403 0 rfl ?_
  refine l_iconst (v := 1) C dL_law_404 (by decide) ?_
  refine l_iadd C dL_law_405 ?_
  refine l_sld C hX hbl hbA (hin 1 (by decide) (by decide)) dL_law_406 ?_
  refine l_aload_n C dL_law_407 3 rfl ?_
  refine l_iload_n C dL_law_408 0 rfl ?_
  refine l_iconst (v := 2) C dL_law_409 (by decide) ?_
  refine l_iadd C dL_law_410 ?_
  refine l_sld C hX hbl hbA (hin 2 (by decide) (by decide)) dL_law_411 ?_
  refine l_aload_n C dL_law_412 3 rfl ?_
  refine l_iload_n C dL_law_413 0 rfl ?_
  refine l_iconst (v := 3) C dL_law_414 (by decide) ?_
  refine l_iadd C dL_law_415 ?_
  refine l_sld C hX hbl hbA (hin 3 (by decide) (by decide)) dL_law_416 ?_
  refine l_i2l C dL_law_417 ?_
  refine l_bipush (v := 32) C dL_law_418 (by decide) ?_
  refine l_lshl C dL_law_420 ?_
  refine l_aload_n C dL_law_421 3 rfl ?_
  refine l_iload_n C dL_law_422 0 rfl ?_
  refine l_iconst (v := 4) C dL_law_423 (by decide) ?_
  refine l_iadd C dL_law_424 ?_
  refine l_sld C hX hbl hbA (hin 4 (by decide) (by decide)) dL_law_425 ?_
  refine l_i2l C dL_law_426 ?_
  refine l_ldc2 C dL_law_427 mk_L_23 ?_
  refine l_land C dL_law_430 ?_
  refine l_lor C dL_law_431 ?_
  refine l_calli 18 [.int ((xs (nI (6 * j) + 1).toNatClampNeg)), .int ((xs (nI (6 * j) + 2).toNatClampNeg)), .long ((((xs (nI (6 * j) + 3).toNatClampNeg).toInt64 <<< ((32 : Int32).toInt64 &&& 63)) ||| ((xs (nI (6 * j) + 4).toNatClampNeg).toInt64 &&& 4294967295)))] [] C (Ci.g adX (kX6_write_ok ((xs (nI (6 * j) + 1).toNatClampNeg)) ((xs (nI (6 * j) + 2).toNatClampNeg)) ((((xs (nI (6 * j) + 3).toNatClampNeg).toInt64 <<< ((32 : Int32).toInt64 &&& 63)) ||| ((xs (nI (6 * j) + 4).toNatClampNeg).toInt64 &&& 4294967295))) σx h)) (tt_V ml_L_47 mV_X6_write) ok_X6_write ⟨by decide, by decide⟩ hf0 rfl rfl (Nat.le_of_ble_eq_true rfl) rfl dL_law_432 (fun r σx h => ?_)
  refine l_aload_n C dL_law_435 1 rfl ?_
  refine l_aload_n C dL_law_436 3 rfl ?_
  refine l_iload_n C dL_law_437 0 rfl ?_
  refine l_iconst (v := 1) C dL_law_438 (by decide) ?_
  refine l_iadd C dL_law_439 ?_
  refine l_sld C hX hbl hbA (hin 1 (by decide) (by decide)) dL_law_440 ?_
  refine l_aload_n C dL_law_441 3 rfl ?_
  refine l_iload_n C dL_law_442 0 rfl ?_
  refine l_iconst (v := 2) C dL_law_443 (by decide) ?_
  refine l_iadd C dL_law_444 ?_
  refine l_sld C hX hbl hbA (hin 2 (by decide) (by decide)) dL_law_445 ?_
  refine l_aload_n C dL_law_446 3 rfl ?_
  refine l_iload_n C dL_law_447 0 rfl ?_
  refine l_iconst (v := 3) C dL_law_448 (by decide) ?_
  refine l_iadd C dL_law_449 ?_
  refine l_sld C hX hbl hbA (hin 3 (by decide) (by decide)) dL_law_450 ?_
  refine l_i2l C dL_law_451 ?_
  refine l_bipush (v := 32) C dL_law_452 (by decide) ?_
  refine l_lshl C dL_law_454 ?_
  refine l_aload_n C dL_law_455 3 rfl ?_
  refine l_iload_n C dL_law_456 0 rfl ?_
  refine l_iconst (v := 4) C dL_law_457 (by decide) ?_
  refine l_iadd C dL_law_458 ?_
  refine l_sld C hX hbl hbA (hin 4 (by decide) (by decide)) dL_law_459 ?_
  refine l_i2l C dL_law_460 ?_
  refine l_ldc2 C dL_law_461 mk_L_23 ?_
  refine l_land C dL_law_464 ?_
  refine l_lor C dL_law_465 ?_
  refine l_perm (ws' := wM cI cJ cZ bd σm ++ ((wX cI cJ ad (kvO κ) σx) ++ (wKo cI cJ κ))) (pm_xm (wX cI cJ ad (kvO κ) σx) (wM cI cJ cZ bd σm) (wKo cI cJ κ)) ?_
  refine l_calli 0 [.int ((xs (nI (6 * j) + 1).toNatClampNeg)), .int ((xs (nI (6 * j) + 2).toNatClampNeg)), .long ((((xs (nI (6 * j) + 3).toNatClampNeg).toInt64 <<< ((32 : Int32).toInt64 &&& 63)) ||| ((xs (nI (6 * j) + 4).toNatClampNeg).toInt64 &&& 4294967295)))] [.int r] C (Ci.g adM (kX7_write_ok ((xs (nI (6 * j) + 1).toNatClampNeg)) ((xs (nI (6 * j) + 2).toNatClampNeg)) ((((xs (nI (6 * j) + 3).toNatClampNeg).toInt64 <<< ((32 : Int32).toInt64 &&& 63)) ||| ((xs (nI (6 * j) + 4).toNatClampNeg).toInt64 &&& 4294967295))) σm h)) (tt_V ml_L_51 mV_X7_write) ok_X7_write ⟨by decide, by decide⟩ hf0 rfl rfl (Nat.le_of_ble_eq_true rfl) rfl dL_law_466 (fun r' σm h => ?_)
  refine l_perm (ws' := (wX cI cJ ad (kvO κ) σx) ++ (wM cI cJ cZ bd σm ++ (wKo cI cJ κ))) (pm_xm (wX cI cJ ad (kvO κ) σx) (wM cI cJ cZ bd σm) (wKo cI cJ κ)).symm ?_
  obtain ⟨rfl, h⟩ := h
  refine l_icmp_eq 1009 C dL_law_469 rfl (fun _ => ?_) (fun h => absurd rfl h)
  refine l_widen (k' := k0 + 12) (n' := n0 + 5693) (Nat.le_add_right _ _) (Nat.le_add_right _ _) ?_
  exact fin κ σx σm h
set_option maxRecDepth 100000 in
set_option maxHeartbeats 4000000 in
theorem law_read {p : Program} {l : Launch} {e : Env} {s : State} {m : MethodId} {below : List Frame} {meth : Method} {c : Code} {D : va_G} {cI cJ cZ : ClassId} {b L : Nat} {xs : Nat → Int32} {ad bd : Nat → Nat} {I : Option SS → SS → SS → Prop} (hI : LawSteps I) (C : CL p s m #[Value.ref b] meth c D (tys cI cJ cZ) (fun q : Nat => s.heap.size ≤ q) code 4 "RoomWardenLaw" ret) (hX : va_X b L xs s s.heap) (hbl : b < s.heap.size) {j k0 n0 : Nat} (hin : ∀ d : Int32, 0 ≤ d → d ≤ 5 → vp_in (nI (6 * j) + d) L) (hk : k0 + 12 ≤ room_1.cells ∧ n0 + 5693 ≤ room_1.slots) (κ : Option ((Nat → Nat) × SS)) (σx σm : SS) (hi : I (ksO κ) σx σm)
    (fin : ∀ (κ : Option ((Nat → Nat) × SS)) (σx σm : SS), I (ksO κ) σx σm → JL p l e room_1 s m #[Value.ref b] below meth c D (fun q : Nat => s.heap.size ≤ q) 4 (lw_Z below #[Value.ref b] s) (k0 + 12) (n0 + 5693) (wX cI cJ ad (kvO κ) σx ++ (wM cI cJ cZ bd σm ++ wKo cI cJ κ)) 1009 [(3, .int (nI (6 * j))), (2, .ref (bd 0)), (1, .ref (ad 18)), (0, .ref b)] []) : JL p l e room_1 s m #[Value.ref b] below meth c D (fun q : Nat => s.heap.size ≤ q) 4 (lw_Z below #[Value.ref b] s) k0 n0 (wX cI cJ ad (kvO κ) σx ++ (wM cI cJ cZ bd σm ++ wKo cI cJ κ)) 474 [(3, .int (nI (6 * j))), (2, .ref (bd 0)), (1, .ref (ad 18)), (0, .ref b)] [] := by
  have hbA : ¬ (fun q : Nat => s.heap.size ≤ q) b := Nat.not_le.mpr hbl
  have hf0 : k0 ≤ room_1.cells ∧ n0 ≤ room_1.slots := ⟨Nat.le_trans (Nat.le_add_right _ _) hk.1, Nat.le_trans (Nat.le_add_right _ _) hk.2⟩
  have h := hI.2.2.2.2.2.2.2.2.1 _ σx σm ((xs (nI (6 * j) + 1).toNatClampNeg)) ((xs (nI (6 * j) + 2).toNatClampNeg)) hi
  refine l_aload_n C dL_law_474 2 rfl ?_
  refine l_aload_n C dL_law_475 3 rfl ?_
  refine l_iload_n C dL_law_476 0 rfl ?_
  refine l_iconst (v := 1) C dL_law_477 (by decide) ?_
  refine l_iadd C dL_law_478 ?_
  refine l_sld C hX hbl hbA (hin 1 (by decide) (by decide)) dL_law_479 ?_
  refine l_aload_n C dL_law_480 3 rfl ?_
  refine l_iload_n C dL_law_481 0 rfl ?_
  refine l_iconst (v := 2) C dL_law_482 (by decide) ?_
  refine l_iadd C dL_law_483 ?_
  refine l_sld C hX hbl hbA (hin 2 (by decide) (by decide)) dL_law_484 ?_
  refine l_calli 18 [.int ((xs (nI (6 * j) + 1).toNatClampNeg)), .int ((xs (nI (6 * j) + 2).toNatClampNeg))] [] C (Ci.g adX (kX6_read_ok ((xs (nI (6 * j) + 1).toNatClampNeg)) ((xs (nI (6 * j) + 2).toNatClampNeg)) σx h)) (tt_V ml_L_52 mV_X6_read) ok_X6_read ⟨by decide, by decide⟩ hf0 rfl rfl (Nat.le_of_ble_eq_true rfl) rfl dL_law_485 (fun r σx h => ?_)
  refine l_aload_n C dL_law_488 1 rfl ?_
  refine l_aload_n C dL_law_489 3 rfl ?_
  refine l_iload_n C dL_law_490 0 rfl ?_
  refine l_iconst (v := 1) C dL_law_491 (by decide) ?_
  refine l_iadd C dL_law_492 ?_
  refine l_sld C hX hbl hbA (hin 1 (by decide) (by decide)) dL_law_493 ?_
  refine l_aload_n C dL_law_494 3 rfl ?_
  refine l_iload_n C dL_law_495 0 rfl ?_
  refine l_iconst (v := 2) C dL_law_496 (by decide) ?_
  refine l_iadd C dL_law_497 ?_
  refine l_sld C hX hbl hbA (hin 2 (by decide) (by decide)) dL_law_498 ?_
  refine l_perm (ws' := wM cI cJ cZ bd σm ++ ((wX cI cJ ad (kvO κ) σx) ++ (wKo cI cJ κ))) (pm_xm (wX cI cJ ad (kvO κ) σx) (wM cI cJ cZ bd σm) (wKo cI cJ κ)) ?_
  refine l_calli 0 [.int ((xs (nI (6 * j) + 1).toNatClampNeg)), .int ((xs (nI (6 * j) + 2).toNatClampNeg))] [.int r] C (Ci.g adM (kX7_read_ok ((xs (nI (6 * j) + 1).toNatClampNeg)) ((xs (nI (6 * j) + 2).toNatClampNeg)) σm h)) (tt_V ml_L_55 mV_X7_read) ok_X7_read ⟨by decide, by decide⟩ hf0 rfl rfl (Nat.le_of_ble_eq_true rfl) rfl dL_law_499 (fun r' σm h => ?_)
  refine l_perm (ws' := (wX cI cJ ad (kvO κ) σx) ++ (wM cI cJ cZ bd σm ++ (wKo cI cJ κ))) (pm_xm (wX cI cJ ad (kvO κ) σx) (wM cI cJ cZ bd σm) (wKo cI cJ κ)).symm ?_
  obtain ⟨rfl, h⟩ := h
  refine l_icmp_eq 1009 C dL_law_502 rfl (fun _ => ?_) (fun h => absurd rfl h)
  refine l_widen (k' := k0 + 12) (n' := n0 + 5693) (Nat.le_add_right _ _) (Nat.le_add_right _ _) ?_
  exact fin κ σx σm h
set_option maxRecDepth 100000 in
set_option maxHeartbeats 4000000 in
theorem law_value {p : Program} {l : Launch} {e : Env} {s : State} {m : MethodId} {below : List Frame} {meth : Method} {c : Code} {D : va_G} {cI cJ cZ : ClassId} {b L : Nat} {xs : Nat → Int32} {ad bd : Nat → Nat} {I : Option SS → SS → SS → Prop} (hI : LawSteps I) (C : CL p s m #[Value.ref b] meth c D (tys cI cJ cZ) (fun q : Nat => s.heap.size ≤ q) code 4 "RoomWardenLaw" ret) (hX : va_X b L xs s s.heap) (hbl : b < s.heap.size) {j k0 n0 : Nat} (hin : ∀ d : Int32, 0 ≤ d → d ≤ 5 → vp_in (nI (6 * j) + d) L) (hk : k0 + 12 ≤ room_1.cells ∧ n0 + 5693 ≤ room_1.slots) (κ : Option ((Nat → Nat) × SS)) (σx σm : SS) (hi : I (ksO κ) σx σm)
    (fin : ∀ (κ : Option ((Nat → Nat) × SS)) (σx σm : SS), I (ksO κ) σx σm → JL p l e room_1 s m #[Value.ref b] below meth c D (fun q : Nat => s.heap.size ≤ q) 4 (lw_Z below #[Value.ref b] s) (k0 + 12) (n0 + 5693) (wX cI cJ ad (kvO κ) σx ++ (wM cI cJ cZ bd σm ++ wKo cI cJ κ)) 1009 [(3, .int (nI (6 * j))), (2, .ref (bd 0)), (1, .ref (ad 18)), (0, .ref b)] []) : JL p l e room_1 s m #[Value.ref b] below meth c D (fun q : Nat => s.heap.size ≤ q) 4 (lw_Z below #[Value.ref b] s) k0 n0 (wX cI cJ ad (kvO κ) σx ++ (wM cI cJ cZ bd σm ++ wKo cI cJ κ)) 507 [(3, .int (nI (6 * j))), (2, .ref (bd 0)), (1, .ref (ad 18)), (0, .ref b)] [] := by
  have hbA : ¬ (fun q : Nat => s.heap.size ≤ q) b := Nat.not_le.mpr hbl
  have hf0 : k0 ≤ room_1.cells ∧ n0 ≤ room_1.slots := ⟨Nat.le_trans (Nat.le_add_right _ _) hk.1, Nat.le_trans (Nat.le_add_right _ _) hk.2⟩
  have h := hI.2.2.2.2.2.2.2.2.2.1 _ σx σm hi
  refine l_aload_n C dL_law_507 2 rfl ?_
  refine l_calll 18 [] [] C (Cl.g adX (kX6_value_ok σx h)) (tt_V ml_L_56 mV_X6_value) ok_X6_value ⟨by decide, by decide⟩ hf0 rfl rfl (Nat.le_of_ble_eq_true rfl) rfl dL_law_508 (fun r σ1 h => ?_)
  rw [h.1]
  replace h := h.2
  refine l_aload_n C dL_law_511 1 rfl ?_
  refine l_perm (ws' := wM cI cJ cZ bd σm ++ ((wX cI cJ ad (kvO κ) σx) ++ (wKo cI cJ κ))) (pm_xm (wX cI cJ ad (kvO κ) σx) (wM cI cJ cZ bd σm) (wKo cI cJ κ)) ?_
  refine l_calll 0 [] [.long r] C (Cl.g adM (kX7_value_ok σm h)) (tt_V ml_L_60 mV_X7_value) ok_X7_value ⟨by decide, by decide⟩ hf0 rfl rfl (Nat.le_of_ble_eq_true rfl) rfl dL_law_512 (fun r' σ2 h => ?_)
  rw [h.1]
  replace h := h.2
  refine l_perm (ws' := (wX cI cJ ad (kvO κ) σx) ++ (wM cI cJ cZ bd σm ++ (wKo cI cJ κ))) (pm_xm (wX cI cJ ad (kvO κ) σx) (wM cI cJ cZ bd σm) (wKo cI cJ κ)).symm ?_
  obtain ⟨rfl, h⟩ := h
  refine l_lcmp C dL_law_515 ?_
  refine l_if_eq 1009 C dL_law_516 rfl (fun _ => ?_) (fun h => absurd (lg_cmp_self _) h)
  refine l_widen (k' := k0 + 12) (n' := n0 + 5693) (Nat.le_add_right _ _) (Nat.le_add_right _ _) ?_
  exact fin κ σx σm h
set_option maxRecDepth 100000 in
set_option maxHeartbeats 4000000 in
theorem law_copy {p : Program} {l : Launch} {e : Env} {s : State} {m : MethodId} {below : List Frame} {meth : Method} {c : Code} {D : va_G} {cI cJ cZ : ClassId} {b L : Nat} {xs : Nat → Int32} {ad bd : Nat → Nat} {I : Option SS → SS → SS → Prop} (hI : LawSteps I) (C : CL p s m #[Value.ref b] meth c D (tys cI cJ cZ) (fun q : Nat => s.heap.size ≤ q) code 4 "RoomWardenLaw" ret) (hX : va_X b L xs s s.heap) (hbl : b < s.heap.size) {j k0 n0 : Nat} (hin : ∀ d : Int32, 0 ≤ d → d ≤ 5 → vp_in (nI (6 * j) + d) L) (hk : k0 + 12 ≤ room_1.cells ∧ n0 + 5693 ≤ room_1.slots) (κ : Option ((Nat → Nat) × SS)) (σx σm : SS) (hi : I (ksO κ) σx σm)
    (fin : ∀ (κ : Option ((Nat → Nat) × SS)) (σx σm : SS), I (ksO κ) σx σm → JL p l e room_1 s m #[Value.ref b] below meth c D (fun q : Nat => s.heap.size ≤ q) 4 (lw_Z below #[Value.ref b] s) (k0 + 12) (n0 + 5693) (wX cI cJ ad (kvO κ) σx ++ (wM cI cJ cZ bd σm ++ wKo cI cJ κ)) 1009 [(3, .int (nI (6 * j))), (2, .ref (bd 0)), (1, .ref (ad 18)), (0, .ref b)] []) : JL p l e room_1 s m #[Value.ref b] below meth c D (fun q : Nat => s.heap.size ≤ q) 4 (lw_Z below #[Value.ref b] s) k0 n0 (wX cI cJ ad (kvO κ) σx ++ (wM cI cJ cZ bd σm ++ wKo cI cJ κ)) 521 [(3, .int (nI (6 * j))), (2, .ref (bd 0)), (1, .ref (ad 18)), (0, .ref b)] [] := by
  have hbA : ¬ (fun q : Nat => s.heap.size ≤ q) b := Nat.not_le.mpr hbl
  have hf0 : k0 ≤ room_1.cells ∧ n0 ≤ room_1.slots := ⟨Nat.le_trans (Nat.le_add_right _ _) hk.1, Nat.le_trans (Nat.le_add_right _ _) hk.2⟩
  have h := hI.2.2.2.2.2.2.2.2.2.2.1 _ σx σm ((xs (nI (6 * j) + 1).toNatClampNeg)) ((xs (nI (6 * j) + 2).toNatClampNeg)) ((xs (nI (6 * j) + 3).toNatClampNeg)) ((xs (nI (6 * j) + 4).toNatClampNeg)) ((xs (nI (6 * j) + 5).toNatClampNeg)) hi
  refine l_aload_n C dL_law_521 2 rfl ?_
  refine l_aload_n C dL_law_522 3 rfl ?_
  refine l_iload_n C dL_law_523 0 rfl ?_
  refine l_iconst (v := 1) C dL_law_524 (by decide) ?_
  refine l_iadd C dL_law_525 ?_
  refine l_sld C hX hbl hbA (hin 1 (by decide) (by decide)) dL_law_526 ?_
  refine l_aload_n C dL_law_527 3 rfl ?_
  refine l_iload_n C dL_law_528 0 rfl ?_
  refine l_iconst (v := 2) C dL_law_529 (by decide) ?_
  refine l_iadd C dL_law_530 ?_
  refine l_sld C hX hbl hbA (hin 2 (by decide) (by decide)) dL_law_531 ?_
  refine l_aload_n C dL_law_532 3 rfl ?_
  refine l_iload_n C dL_law_533 0 rfl ?_
  refine l_iconst (v := 3) C dL_law_534 (by decide) ?_
  refine l_iadd C dL_law_535 ?_
  refine l_sld C hX hbl hbA (hin 3 (by decide) (by decide)) dL_law_536 ?_
  refine l_aload_n C dL_law_537 3 rfl ?_
  refine l_iload_n C dL_law_538 0 rfl ?_
  refine l_iconst (v := 4) C dL_law_539 (by decide) ?_
  refine l_iadd C dL_law_540 ?_
  refine l_sld C hX hbl hbA (hin 4 (by decide) (by decide)) dL_law_541 ?_
  refine l_aload_n C dL_law_542 3 rfl ?_
  refine l_iload_n C dL_law_543 0 rfl ?_
  refine l_iconst (v := 5) C dL_law_544 (by decide) ?_
  refine l_iadd C dL_law_545 ?_
  refine l_sld C hX hbl hbA (hin 5 (by decide) (by decide)) dL_law_546 ?_
  refine l_calli 18 [.int ((xs (nI (6 * j) + 1).toNatClampNeg)), .int ((xs (nI (6 * j) + 2).toNatClampNeg)), .int ((xs (nI (6 * j) + 3).toNatClampNeg)), .int ((xs (nI (6 * j) + 4).toNatClampNeg)), .int ((xs (nI (6 * j) + 5).toNatClampNeg))] [] C (Ci.g adX (kX6_copy_ok ((xs (nI (6 * j) + 1).toNatClampNeg)) ((xs (nI (6 * j) + 2).toNatClampNeg)) ((xs (nI (6 * j) + 3).toNatClampNeg)) ((xs (nI (6 * j) + 4).toNatClampNeg)) ((xs (nI (6 * j) + 5).toNatClampNeg)) σx h)) (tt_V ml_L_61 mV_X6_copy) ok_X6_copy ⟨by decide, by decide⟩ hf0 rfl rfl (Nat.le_of_ble_eq_true rfl) rfl dL_law_547 (fun r σx h => ?_)
  refine l_aload_n C dL_law_550 1 rfl ?_
  refine l_aload_n C dL_law_551 3 rfl ?_
  refine l_iload_n C dL_law_552 0 rfl ?_
  refine l_iconst (v := 1) C dL_law_553 (by decide) ?_
  refine l_iadd C dL_law_554 ?_
  refine l_sld C hX hbl hbA (hin 1 (by decide) (by decide)) dL_law_555 ?_
  refine l_aload_n C dL_law_556 3 rfl ?_
  refine l_iload_n C dL_law_557 0 rfl ?_
  refine l_iconst (v := 2) C dL_law_558 (by decide) ?_
  refine l_iadd C dL_law_559 ?_
  refine l_sld C hX hbl hbA (hin 2 (by decide) (by decide)) dL_law_560 ?_
  refine l_aload_n C dL_law_561 3 rfl ?_
  refine l_iload_n C dL_law_562 0 rfl ?_
  refine l_iconst (v := 3) C dL_law_563 (by decide) ?_
  refine l_iadd C dL_law_564 ?_
  refine l_sld C hX hbl hbA (hin 3 (by decide) (by decide)) dL_law_565 ?_
  refine l_aload_n C dL_law_566 3 rfl ?_
  refine l_iload_n C dL_law_567 0 rfl ?_
  refine l_iconst (v := 4) C dL_law_568 (by decide) ?_
  refine l_iadd C dL_law_569 ?_
  refine l_sld C hX hbl hbA (hin 4 (by decide) (by decide)) dL_law_570 ?_
  refine l_aload_n C dL_law_571 3 rfl ?_
  refine l_iload_n C dL_law_572 0 rfl ?_
  refine l_iconst (v := 5) C dL_law_573 (by decide) ?_
  refine l_iadd C dL_law_574 ?_
  refine l_sld C hX hbl hbA (hin 5 (by decide) (by decide)) dL_law_575 ?_
  refine l_perm (ws' := wM cI cJ cZ bd σm ++ ((wX cI cJ ad (kvO κ) σx) ++ (wKo cI cJ κ))) (pm_xm (wX cI cJ ad (kvO κ) σx) (wM cI cJ cZ bd σm) (wKo cI cJ κ)) ?_
  refine l_calli 0 [.int ((xs (nI (6 * j) + 1).toNatClampNeg)), .int ((xs (nI (6 * j) + 2).toNatClampNeg)), .int ((xs (nI (6 * j) + 3).toNatClampNeg)), .int ((xs (nI (6 * j) + 4).toNatClampNeg)), .int ((xs (nI (6 * j) + 5).toNatClampNeg))] [.int r] C (Ci.g adM (kX7_copy_ok ((xs (nI (6 * j) + 1).toNatClampNeg)) ((xs (nI (6 * j) + 2).toNatClampNeg)) ((xs (nI (6 * j) + 3).toNatClampNeg)) ((xs (nI (6 * j) + 4).toNatClampNeg)) ((xs (nI (6 * j) + 5).toNatClampNeg)) σm h)) (tt_V ml_L_65 mV_X7_copy) ok_X7_copy ⟨by decide, by decide⟩ hf0 rfl rfl (Nat.le_of_ble_eq_true rfl) rfl dL_law_576 (fun r' σm h => ?_)
  refine l_perm (ws' := (wX cI cJ ad (kvO κ) σx) ++ (wM cI cJ cZ bd σm ++ (wKo cI cJ κ))) (pm_xm (wX cI cJ ad (kvO κ) σx) (wM cI cJ cZ bd σm) (wKo cI cJ κ)).symm ?_
  obtain ⟨rfl, h⟩ := h
  refine l_icmp_eq 1009 C dL_law_579 rfl (fun _ => ?_) (fun h => absurd rfl h)
  refine l_widen (k' := k0 + 12) (n' := n0 + 5693) (Nat.le_add_right _ _) (Nat.le_add_right _ _) ?_
  exact fin κ σx σm h
set_option maxRecDepth 100000 in
set_option maxHeartbeats 4000000 in
theorem law_fill {p : Program} {l : Launch} {e : Env} {s : State} {m : MethodId} {below : List Frame} {meth : Method} {c : Code} {D : va_G} {cI cJ cZ : ClassId} {b L : Nat} {xs : Nat → Int32} {ad bd : Nat → Nat} {I : Option SS → SS → SS → Prop} (hI : LawSteps I) (C : CL p s m #[Value.ref b] meth c D (tys cI cJ cZ) (fun q : Nat => s.heap.size ≤ q) code 4 "RoomWardenLaw" ret) (hX : va_X b L xs s s.heap) (hbl : b < s.heap.size) {j k0 n0 : Nat} (hin : ∀ d : Int32, 0 ≤ d → d ≤ 5 → vp_in (nI (6 * j) + d) L) (hk : k0 + 12 ≤ room_1.cells ∧ n0 + 5693 ≤ room_1.slots) (κ : Option ((Nat → Nat) × SS)) (σx σm : SS) (hi : I (ksO κ) σx σm)
    (fin : ∀ (κ : Option ((Nat → Nat) × SS)) (σx σm : SS), I (ksO κ) σx σm → JL p l e room_1 s m #[Value.ref b] below meth c D (fun q : Nat => s.heap.size ≤ q) 4 (lw_Z below #[Value.ref b] s) (k0 + 12) (n0 + 5693) (wX cI cJ ad (kvO κ) σx ++ (wM cI cJ cZ bd σm ++ wKo cI cJ κ)) 1009 [(3, .int (nI (6 * j))), (2, .ref (bd 0)), (1, .ref (ad 18)), (0, .ref b)] []) : JL p l e room_1 s m #[Value.ref b] below meth c D (fun q : Nat => s.heap.size ≤ q) 4 (lw_Z below #[Value.ref b] s) k0 n0 (wX cI cJ ad (kvO κ) σx ++ (wM cI cJ cZ bd σm ++ wKo cI cJ κ)) 584 [(3, .int (nI (6 * j))), (2, .ref (bd 0)), (1, .ref (ad 18)), (0, .ref b)] [] := by
  have hbA : ¬ (fun q : Nat => s.heap.size ≤ q) b := Nat.not_le.mpr hbl
  have hf0 : k0 ≤ room_1.cells ∧ n0 ≤ room_1.slots := ⟨Nat.le_trans (Nat.le_add_right _ _) hk.1, Nat.le_trans (Nat.le_add_right _ _) hk.2⟩
  have h := hI.2.2.2.2.2.2.2.2.2.2.2.1 _ σx σm ((xs (nI (6 * j) + 1).toNatClampNeg)) ((((xs (nI (6 * j) + 2).toNatClampNeg).toInt64 <<< ((32 : Int32).toInt64 &&& 63)) ||| ((xs (nI (6 * j) + 3).toNatClampNeg).toInt64 &&& 4294967295))) hi
  refine l_aload_n C dL_law_584 2 rfl ?_
  refine l_aload_n C dL_law_585 3 rfl ?_
  refine l_iload_n C dL_law_586 0 rfl ?_
  refine l_iconst (v := 1) C dL_law_587 (by decide) ?_
  refine l_iadd C dL_law_588 ?_
  refine l_sld C hX hbl hbA (hin 1 (by decide) (by decide)) dL_law_589 ?_
  refine l_aload_n C dL_law_590 3 rfl ?_
  refine l_iload_n C dL_law_591 0 rfl ?_
  refine l_iconst (v := 2) C dL_law_592 (by decide) ?_
  refine l_iadd C dL_law_593 ?_
  refine l_sld C hX hbl hbA (hin 2 (by decide) (by decide)) dL_law_594 ?_
  refine l_i2l C dL_law_595 ?_
  refine l_bipush (v := 32) C dL_law_596 (by decide) ?_
  refine l_lshl C dL_law_598 ?_
  refine l_aload_n C dL_law_599 3 rfl ?_
  refine l_iload_n C dL_law_600 0 rfl ?_
  refine l_iconst (v := 3) C dL_law_601 (by decide) ?_
  refine l_iadd C dL_law_602 ?_
  refine l_sld C hX hbl hbA (hin 3 (by decide) (by decide)) dL_law_603 ?_
  refine l_i2l C dL_law_604 ?_
  refine l_ldc2 C dL_law_605 mk_L_23 ?_
  refine l_land C dL_law_608 ?_
  refine l_lor C dL_law_609 ?_
  refine l_calli 18 [.int ((xs (nI (6 * j) + 1).toNatClampNeg)), .long ((((xs (nI (6 * j) + 2).toNatClampNeg).toInt64 <<< ((32 : Int32).toInt64 &&& 63)) ||| ((xs (nI (6 * j) + 3).toNatClampNeg).toInt64 &&& 4294967295)))] [] C (Ci.g adX (kX6_fill_ok ((xs (nI (6 * j) + 1).toNatClampNeg)) ((((xs (nI (6 * j) + 2).toNatClampNeg).toInt64 <<< ((32 : Int32).toInt64 &&& 63)) ||| ((xs (nI (6 * j) + 3).toNatClampNeg).toInt64 &&& 4294967295))) σx h)) (tt_V ml_L_66 mV_X6_fill) ok_X6_fill ⟨by decide, by decide⟩ hf0 rfl rfl (Nat.le_of_ble_eq_true rfl) rfl dL_law_610 (fun r σx h => ?_)
  refine l_aload_n C dL_law_613 1 rfl ?_
  refine l_aload_n C dL_law_614 3 rfl ?_
  refine l_iload_n C dL_law_615 0 rfl ?_
  refine l_iconst (v := 1) C dL_law_616 (by decide) ?_
  refine l_iadd C dL_law_617 ?_
  refine l_sld C hX hbl hbA (hin 1 (by decide) (by decide)) dL_law_618 ?_
  refine l_aload_n C dL_law_619 3 rfl ?_
  refine l_iload_n C dL_law_620 0 rfl ?_
  refine l_iconst (v := 2) C dL_law_621 (by decide) ?_
  refine l_iadd C dL_law_622 ?_
  refine l_sld C hX hbl hbA (hin 2 (by decide) (by decide)) dL_law_623 ?_
  refine l_i2l C dL_law_624 ?_
  refine l_bipush (v := 32) C dL_law_625 (by decide) ?_
  refine l_lshl C dL_law_627 ?_
  refine l_aload_n C dL_law_628 3 rfl ?_
  refine l_iload_n C dL_law_629 0 rfl ?_
  refine l_iconst (v := 3) C dL_law_630 (by decide) ?_
  refine l_iadd C dL_law_631 ?_
  refine l_sld C hX hbl hbA (hin 3 (by decide) (by decide)) dL_law_632 ?_
  refine l_i2l C dL_law_633 ?_
  refine l_ldc2 C dL_law_634 mk_L_23 ?_
  refine l_land C dL_law_637 ?_
  refine l_lor C dL_law_638 ?_
  refine l_perm (ws' := wM cI cJ cZ bd σm ++ ((wX cI cJ ad (kvO κ) σx) ++ (wKo cI cJ κ))) (pm_xm (wX cI cJ ad (kvO κ) σx) (wM cI cJ cZ bd σm) (wKo cI cJ κ)) ?_
  refine l_calli 0 [.int ((xs (nI (6 * j) + 1).toNatClampNeg)), .long ((((xs (nI (6 * j) + 2).toNatClampNeg).toInt64 <<< ((32 : Int32).toInt64 &&& 63)) ||| ((xs (nI (6 * j) + 3).toNatClampNeg).toInt64 &&& 4294967295)))] [.int r] C (Ci.g adM (kX7_fill_ok ((xs (nI (6 * j) + 1).toNatClampNeg)) ((((xs (nI (6 * j) + 2).toNatClampNeg).toInt64 <<< ((32 : Int32).toInt64 &&& 63)) ||| ((xs (nI (6 * j) + 3).toNatClampNeg).toInt64 &&& 4294967295))) σm h)) (tt_V ml_L_69 mV_X7_fill) ok_X7_fill ⟨by decide, by decide⟩ hf0 rfl rfl (Nat.le_of_ble_eq_true rfl) rfl dL_law_639 (fun r' σm h => ?_)
  refine l_perm (ws' := (wX cI cJ ad (kvO κ) σx) ++ (wM cI cJ cZ bd σm ++ (wKo cI cJ κ))) (pm_xm (wX cI cJ ad (kvO κ) σx) (wM cI cJ cZ bd σm) (wKo cI cJ κ)).symm ?_
  obtain ⟨rfl, h⟩ := h
  refine l_icmp_eq 1009 C dL_law_642 rfl (fun _ => ?_) (fun h => absurd rfl h)
  refine l_widen (k' := k0 + 12) (n' := n0 + 5693) (Nat.le_add_right _ _) (Nat.le_add_right _ _) ?_
  exact fin κ σx σm h
set_option maxRecDepth 100000 in
set_option maxHeartbeats 4000000 in
theorem law_block {p : Program} {l : Launch} {e : Env} {s : State} {m : MethodId} {below : List Frame} {meth : Method} {c : Code} {D : va_G} {cI cJ cZ : ClassId} {b L : Nat} {xs : Nat → Int32} {ad bd : Nat → Nat} {I : Option SS → SS → SS → Prop} (hI : LawSteps I) (C : CL p s m #[Value.ref b] meth c D (tys cI cJ cZ) (fun q : Nat => s.heap.size ≤ q) code 4 "RoomWardenLaw" ret) (hX : va_X b L xs s s.heap) (hbl : b < s.heap.size) {j k0 n0 : Nat} (hin : ∀ d : Int32, 0 ≤ d → d ≤ 5 → vp_in (nI (6 * j) + d) L) (hk : k0 + 12 ≤ room_1.cells ∧ n0 + 5693 ≤ room_1.slots) (κ : Option ((Nat → Nat) × SS)) (σx σm : SS) (hi : I (ksO κ) σx σm)
    (fin : ∀ (κ : Option ((Nat → Nat) × SS)) (σx σm : SS), I (ksO κ) σx σm → JL p l e room_1 s m #[Value.ref b] below meth c D (fun q : Nat => s.heap.size ≤ q) 4 (lw_Z below #[Value.ref b] s) (k0 + 12) (n0 + 5693) (wX cI cJ ad (kvO κ) σx ++ (wM cI cJ cZ bd σm ++ wKo cI cJ κ)) 1009 [(3, .int (nI (6 * j))), (2, .ref (bd 0)), (1, .ref (ad 18)), (0, .ref b)] []) : JL p l e room_1 s m #[Value.ref b] below meth c D (fun q : Nat => s.heap.size ≤ q) 4 (lw_Z below #[Value.ref b] s) k0 n0 (wX cI cJ ad (kvO κ) σx ++ (wM cI cJ cZ bd σm ++ wKo cI cJ κ)) 647 [(3, .int (nI (6 * j))), (2, .ref (bd 0)), (1, .ref (ad 18)), (0, .ref b)] [] := by
  have hbA : ¬ (fun q : Nat => s.heap.size ≤ q) b := Nat.not_le.mpr hbl
  have hf0 : k0 ≤ room_1.cells ∧ n0 ≤ room_1.slots := ⟨Nat.le_trans (Nat.le_add_right _ _) hk.1, Nat.le_trans (Nat.le_add_right _ _) hk.2⟩
  have h := hI.2.2.2.2.2.2.2.2.2.2.2.2.1 _ σx σm ((xs (nI (6 * j) + 1).toNatClampNeg)) ((xs (nI (6 * j) + 2).toNatClampNeg)) hi
  refine l_aload_n C dL_law_647 2 rfl ?_
  refine l_aload_n C dL_law_648 3 rfl ?_
  refine l_iload_n C dL_law_649 0 rfl ?_
  refine l_iconst (v := 1) C dL_law_650 (by decide) ?_
  refine l_iadd C dL_law_651 ?_
  refine l_sld C hX hbl hbA (hin 1 (by decide) (by decide)) dL_law_652 ?_
  refine l_aload_n C dL_law_653 3 rfl ?_
  refine l_iload_n C dL_law_654 0 rfl ?_
  refine l_iconst (v := 2) C dL_law_655 (by decide) ?_
  refine l_iadd C dL_law_656 ?_
  refine l_sld C hX hbl hbA (hin 2 (by decide) (by decide)) dL_law_657 ?_
  refine l_calli 18 [.int ((xs (nI (6 * j) + 1).toNatClampNeg)), .int ((xs (nI (6 * j) + 2).toNatClampNeg))] [] C (Ci.g adX (kX6_block_ok ((xs (nI (6 * j) + 1).toNatClampNeg)) ((xs (nI (6 * j) + 2).toNatClampNeg)) σx h)) (tt_V ml_L_70 mV_X6_block) ok_X6_block ⟨by decide, by decide⟩ hf0 rfl rfl (Nat.le_of_ble_eq_true rfl) rfl dL_law_658 (fun r σx h => ?_)
  refine l_aload_n C dL_law_661 1 rfl ?_
  refine l_aload_n C dL_law_662 3 rfl ?_
  refine l_iload_n C dL_law_663 0 rfl ?_
  refine l_iconst (v := 1) C dL_law_664 (by decide) ?_
  refine l_iadd C dL_law_665 ?_
  refine l_sld C hX hbl hbA (hin 1 (by decide) (by decide)) dL_law_666 ?_
  refine l_aload_n C dL_law_667 3 rfl ?_
  refine l_iload_n C dL_law_668 0 rfl ?_
  refine l_iconst (v := 2) C dL_law_669 (by decide) ?_
  refine l_iadd C dL_law_670 ?_
  refine l_sld C hX hbl hbA (hin 2 (by decide) (by decide)) dL_law_671 ?_
  refine l_perm (ws' := wM cI cJ cZ bd σm ++ ((wX cI cJ ad (kvO κ) σx) ++ (wKo cI cJ κ))) (pm_xm (wX cI cJ ad (kvO κ) σx) (wM cI cJ cZ bd σm) (wKo cI cJ κ)) ?_
  refine l_calli 0 [.int ((xs (nI (6 * j) + 1).toNatClampNeg)), .int ((xs (nI (6 * j) + 2).toNatClampNeg))] [.int r] C (Ci.g adM (kX7_block_ok ((xs (nI (6 * j) + 1).toNatClampNeg)) ((xs (nI (6 * j) + 2).toNatClampNeg)) σm h)) (tt_V ml_L_73 mV_X7_block) ok_X7_block ⟨by decide, by decide⟩ hf0 rfl rfl (Nat.le_of_ble_eq_true rfl) rfl dL_law_672 (fun r' σm h => ?_)
  refine l_perm (ws' := (wX cI cJ ad (kvO κ) σx) ++ (wM cI cJ cZ bd σm ++ (wKo cI cJ κ))) (pm_xm (wX cI cJ ad (kvO κ) σx) (wM cI cJ cZ bd σm) (wKo cI cJ κ)).symm ?_
  obtain ⟨rfl, h⟩ := h
  refine l_icmp_eq 1009 C dL_law_675 rfl (fun _ => ?_) (fun h => absurd rfl h)
  refine l_widen (k' := k0 + 12) (n' := n0 + 5693) (Nat.le_add_right _ _) (Nat.le_add_right _ _) ?_
  exact fin κ σx σm h
set_option maxRecDepth 100000 in
set_option maxHeartbeats 4000000 in
theorem law_spoil {p : Program} {l : Launch} {e : Env} {s : State} {m : MethodId} {below : List Frame} {meth : Method} {c : Code} {D : va_G} {cI cJ cZ : ClassId} {b L : Nat} {xs : Nat → Int32} {ad bd : Nat → Nat} {I : Option SS → SS → SS → Prop} (hI : LawSteps I) (C : CL p s m #[Value.ref b] meth c D (tys cI cJ cZ) (fun q : Nat => s.heap.size ≤ q) code 4 "RoomWardenLaw" ret) (hX : va_X b L xs s s.heap) (hbl : b < s.heap.size) {j k0 n0 : Nat} (hin : ∀ d : Int32, 0 ≤ d → d ≤ 5 → vp_in (nI (6 * j) + d) L) (hk : k0 + 12 ≤ room_1.cells ∧ n0 + 5693 ≤ room_1.slots) (κ : Option ((Nat → Nat) × SS)) (σx σm : SS) (hi : I (ksO κ) σx σm)
    (fin : ∀ (κ : Option ((Nat → Nat) × SS)) (σx σm : SS), I (ksO κ) σx σm → JL p l e room_1 s m #[Value.ref b] below meth c D (fun q : Nat => s.heap.size ≤ q) 4 (lw_Z below #[Value.ref b] s) (k0 + 12) (n0 + 5693) (wX cI cJ ad (kvO κ) σx ++ (wM cI cJ cZ bd σm ++ wKo cI cJ κ)) 1009 [(3, .int (nI (6 * j))), (2, .ref (bd 0)), (1, .ref (ad 18)), (0, .ref b)] []) : JL p l e room_1 s m #[Value.ref b] below meth c D (fun q : Nat => s.heap.size ≤ q) 4 (lw_Z below #[Value.ref b] s) k0 n0 (wX cI cJ ad (kvO κ) σx ++ (wM cI cJ cZ bd σm ++ wKo cI cJ κ)) 680 [(3, .int (nI (6 * j))), (2, .ref (bd 0)), (1, .ref (ad 18)), (0, .ref b)] [] := by
  have hbA : ¬ (fun q : Nat => s.heap.size ≤ q) b := Nat.not_le.mpr hbl
  have hf0 : k0 ≤ room_1.cells ∧ n0 ≤ room_1.slots := ⟨Nat.le_trans (Nat.le_add_right _ _) hk.1, Nat.le_trans (Nat.le_add_right _ _) hk.2⟩
  by_cases hz : (xs (nI (6 * j) + 2).toNatClampNeg) = 0
  · have h := hI.2.2.2.2.2.2.2.2.2.2.2.2.2.1 _ σx σm ((xs (nI (6 * j) + 1).toNatClampNeg)) 0 ((((xs (nI (6 * j) + 3).toNatClampNeg).toInt64 <<< ((32 : Int32).toInt64 &&& 63)) ||| ((xs (nI (6 * j) + 4).toNatClampNeg).toInt64 &&& 4294967295))) hi (Or.inl rfl)
    refine l_aload_n C dL_law_680 2 rfl ?_
    refine l_aload_n C dL_law_681 3 rfl ?_
    refine l_iload_n C dL_law_682 0 rfl ?_
    refine l_iconst (v := 1) C dL_law_683 (by decide) ?_
    refine l_iadd C dL_law_684 ?_
    refine l_sld C hX hbl hbA (hin 1 (by decide) (by decide)) dL_law_685 ?_
    refine l_aload_n C dL_law_686 3 rfl ?_
    refine l_iload_n C dL_law_687 0 rfl ?_
    refine l_iconst (v := 2) C dL_law_688 (by decide) ?_
    refine l_iadd C dL_law_689 ?_
    refine l_sld C hX hbl hbA (hin 2 (by decide) (by decide)) dL_law_690 ?_
    refine l_if_eq 698 C dL_law_691 rfl (fun _ => ?_) (fun h => absurd hz h)
    refine l_iconst (v := 0) C dL_law_698 (by decide) ?_
    refine l_aload_n C dL_law_699 3 rfl ?_
    refine l_iload_n C dL_law_700 0 rfl ?_
    refine l_iconst (v := 3) C dL_law_701 (by decide) ?_
    refine l_iadd C dL_law_702 ?_
    refine l_sld C hX hbl hbA (hin 3 (by decide) (by decide)) dL_law_703 ?_
    refine l_i2l C dL_law_704 ?_
    refine l_bipush (v := 32) C dL_law_705 (by decide) ?_
    refine l_lshl C dL_law_707 ?_
    refine l_aload_n C dL_law_708 3 rfl ?_
    refine l_iload_n C dL_law_709 0 rfl ?_
    refine l_iconst (v := 4) C dL_law_710 (by decide) ?_
    refine l_iadd C dL_law_711 ?_
    refine l_sld C hX hbl hbA (hin 4 (by decide) (by decide)) dL_law_712 ?_
    refine l_i2l C dL_law_713 ?_
    refine l_ldc2 C dL_law_714 mk_L_23 ?_
    refine l_land C dL_law_717 ?_
    refine l_lor C dL_law_718 ?_
    refine l_calli 18 [.int ((xs (nI (6 * j) + 1).toNatClampNeg)), .int 0, .long ((((xs (nI (6 * j) + 3).toNatClampNeg).toInt64 <<< ((32 : Int32).toInt64 &&& 63)) ||| ((xs (nI (6 * j) + 4).toNatClampNeg).toInt64 &&& 4294967295)))] [] C (Ci.g adX (kX6_spoil_ok ((xs (nI (6 * j) + 1).toNatClampNeg)) 0 ((((xs (nI (6 * j) + 3).toNatClampNeg).toInt64 <<< ((32 : Int32).toInt64 &&& 63)) ||| ((xs (nI (6 * j) + 4).toNatClampNeg).toInt64 &&& 4294967295))) σx h)) (tt_V ml_L_74 mV_X6_spoil) ok_X6_spoil ⟨by decide, by decide⟩ hf0 rfl rfl (Nat.le_of_ble_eq_true rfl) rfl dL_law_719 (fun r σx h => ?_)
    refine l_aload_n C dL_law_722 1 rfl ?_
    refine l_aload_n C dL_law_723 3 rfl ?_
    refine l_iload_n C dL_law_724 0 rfl ?_
    refine l_iconst (v := 1) C dL_law_725 (by decide) ?_
    refine l_iadd C dL_law_726 ?_
    refine l_sld C hX hbl hbA (hin 1 (by decide) (by decide)) dL_law_727 ?_
    refine l_aload_n C dL_law_728 3 rfl ?_
    refine l_iload_n C dL_law_729 0 rfl ?_
    refine l_iconst (v := 2) C dL_law_730 (by decide) ?_
    refine l_iadd C dL_law_731 ?_
    refine l_sld C hX hbl hbA (hin 2 (by decide) (by decide)) dL_law_732 ?_
    refine l_if_eq 740 C dL_law_733 rfl (fun _ => ?_) (fun h => absurd hz h)
    refine l_iconst (v := 0) C dL_law_740 (by decide) ?_
    refine l_aload_n C dL_law_741 3 rfl ?_
    refine l_iload_n C dL_law_742 0 rfl ?_
    refine l_iconst (v := 3) C dL_law_743 (by decide) ?_
    refine l_iadd C dL_law_744 ?_
    refine l_sld C hX hbl hbA (hin 3 (by decide) (by decide)) dL_law_745 ?_
    refine l_i2l C dL_law_746 ?_
    refine l_bipush (v := 32) C dL_law_747 (by decide) ?_
    refine l_lshl C dL_law_749 ?_
    refine l_aload_n C dL_law_750 3 rfl ?_
    refine l_iload_n C dL_law_751 0 rfl ?_
    refine l_iconst (v := 4) C dL_law_752 (by decide) ?_
    refine l_iadd C dL_law_753 ?_
    refine l_sld C hX hbl hbA (hin 4 (by decide) (by decide)) dL_law_754 ?_
    refine l_i2l C dL_law_755 ?_
    refine l_ldc2 C dL_law_756 mk_L_23 ?_
    refine l_land C dL_law_759 ?_
    refine l_lor C dL_law_760 ?_
    refine l_perm (ws' := wM cI cJ cZ bd σm ++ ((wX cI cJ ad (kvO κ) σx) ++ (wKo cI cJ κ))) (pm_xm (wX cI cJ ad (kvO κ) σx) (wM cI cJ cZ bd σm) (wKo cI cJ κ)) ?_
    refine l_calli 0 [.int ((xs (nI (6 * j) + 1).toNatClampNeg)), .int 0, .long ((((xs (nI (6 * j) + 3).toNatClampNeg).toInt64 <<< ((32 : Int32).toInt64 &&& 63)) ||| ((xs (nI (6 * j) + 4).toNatClampNeg).toInt64 &&& 4294967295)))] [.int r] C (Ci.g adM (kX7_spoil_ok ((xs (nI (6 * j) + 1).toNatClampNeg)) 0 ((((xs (nI (6 * j) + 3).toNatClampNeg).toInt64 <<< ((32 : Int32).toInt64 &&& 63)) ||| ((xs (nI (6 * j) + 4).toNatClampNeg).toInt64 &&& 4294967295))) σm h)) (tt_V ml_L_78 mV_X7_spoil) ok_X7_spoil ⟨by decide, by decide⟩ hf0 rfl rfl (Nat.le_of_ble_eq_true rfl) rfl dL_law_761 (fun r' σm h => ?_)
    refine l_perm (ws' := (wX cI cJ ad (kvO κ) σx) ++ (wM cI cJ cZ bd σm ++ (wKo cI cJ κ))) (pm_xm (wX cI cJ ad (kvO κ) σx) (wM cI cJ cZ bd σm) (wKo cI cJ κ)).symm ?_
    obtain ⟨rfl, h⟩ := h
    refine l_icmp_eq 1009 C dL_law_764 rfl (fun _ => ?_) (fun h => absurd rfl h)
    refine l_widen (k' := k0 + 12) (n' := n0 + 5693) (Nat.le_add_right _ _) (Nat.le_add_right _ _) ?_
    exact fin κ σx σm h
  · have h := hI.2.2.2.2.2.2.2.2.2.2.2.2.2.1 _ σx σm ((xs (nI (6 * j) + 1).toNatClampNeg)) 1 ((((xs (nI (6 * j) + 3).toNatClampNeg).toInt64 <<< ((32 : Int32).toInt64 &&& 63)) ||| ((xs (nI (6 * j) + 4).toNatClampNeg).toInt64 &&& 4294967295))) hi (Or.inr rfl)
    refine l_aload_n C dL_law_680 2 rfl ?_
    refine l_aload_n C dL_law_681 3 rfl ?_
    refine l_iload_n C dL_law_682 0 rfl ?_
    refine l_iconst (v := 1) C dL_law_683 (by decide) ?_
    refine l_iadd C dL_law_684 ?_
    refine l_sld C hX hbl hbA (hin 1 (by decide) (by decide)) dL_law_685 ?_
    refine l_aload_n C dL_law_686 3 rfl ?_
    refine l_iload_n C dL_law_687 0 rfl ?_
    refine l_iconst (v := 2) C dL_law_688 (by decide) ?_
    refine l_iadd C dL_law_689 ?_
    refine l_sld C hX hbl hbA (hin 2 (by decide) (by decide)) dL_law_690 ?_
    refine l_if_eq 698 C dL_law_691 rfl (fun h => absurd h hz) (fun _ => ?_)
    refine l_iconst (v := 1) C dL_law_694 (by decide) ?_
    refine l_goto 699 C dL_law_695 rfl ?_
    refine l_aload_n C dL_law_699 3 rfl ?_
    refine l_iload_n C dL_law_700 0 rfl ?_
    refine l_iconst (v := 3) C dL_law_701 (by decide) ?_
    refine l_iadd C dL_law_702 ?_
    refine l_sld C hX hbl hbA (hin 3 (by decide) (by decide)) dL_law_703 ?_
    refine l_i2l C dL_law_704 ?_
    refine l_bipush (v := 32) C dL_law_705 (by decide) ?_
    refine l_lshl C dL_law_707 ?_
    refine l_aload_n C dL_law_708 3 rfl ?_
    refine l_iload_n C dL_law_709 0 rfl ?_
    refine l_iconst (v := 4) C dL_law_710 (by decide) ?_
    refine l_iadd C dL_law_711 ?_
    refine l_sld C hX hbl hbA (hin 4 (by decide) (by decide)) dL_law_712 ?_
    refine l_i2l C dL_law_713 ?_
    refine l_ldc2 C dL_law_714 mk_L_23 ?_
    refine l_land C dL_law_717 ?_
    refine l_lor C dL_law_718 ?_
    refine l_calli 18 [.int ((xs (nI (6 * j) + 1).toNatClampNeg)), .int 1, .long ((((xs (nI (6 * j) + 3).toNatClampNeg).toInt64 <<< ((32 : Int32).toInt64 &&& 63)) ||| ((xs (nI (6 * j) + 4).toNatClampNeg).toInt64 &&& 4294967295)))] [] C (Ci.g adX (kX6_spoil_ok ((xs (nI (6 * j) + 1).toNatClampNeg)) 1 ((((xs (nI (6 * j) + 3).toNatClampNeg).toInt64 <<< ((32 : Int32).toInt64 &&& 63)) ||| ((xs (nI (6 * j) + 4).toNatClampNeg).toInt64 &&& 4294967295))) σx h)) (tt_V ml_L_74 mV_X6_spoil) ok_X6_spoil ⟨by decide, by decide⟩ hf0 rfl rfl (Nat.le_of_ble_eq_true rfl) rfl dL_law_719 (fun r σx h => ?_)
    refine l_aload_n C dL_law_722 1 rfl ?_
    refine l_aload_n C dL_law_723 3 rfl ?_
    refine l_iload_n C dL_law_724 0 rfl ?_
    refine l_iconst (v := 1) C dL_law_725 (by decide) ?_
    refine l_iadd C dL_law_726 ?_
    refine l_sld C hX hbl hbA (hin 1 (by decide) (by decide)) dL_law_727 ?_
    refine l_aload_n C dL_law_728 3 rfl ?_
    refine l_iload_n C dL_law_729 0 rfl ?_
    refine l_iconst (v := 2) C dL_law_730 (by decide) ?_
    refine l_iadd C dL_law_731 ?_
    refine l_sld C hX hbl hbA (hin 2 (by decide) (by decide)) dL_law_732 ?_
    refine l_if_eq 740 C dL_law_733 rfl (fun h => absurd h hz) (fun _ => ?_)
    refine l_iconst (v := 1) C dL_law_736 (by decide) ?_
    refine l_goto 741 C dL_law_737 rfl ?_
    refine l_aload_n C dL_law_741 3 rfl ?_
    refine l_iload_n C dL_law_742 0 rfl ?_
    refine l_iconst (v := 3) C dL_law_743 (by decide) ?_
    refine l_iadd C dL_law_744 ?_
    refine l_sld C hX hbl hbA (hin 3 (by decide) (by decide)) dL_law_745 ?_
    refine l_i2l C dL_law_746 ?_
    refine l_bipush (v := 32) C dL_law_747 (by decide) ?_
    refine l_lshl C dL_law_749 ?_
    refine l_aload_n C dL_law_750 3 rfl ?_
    refine l_iload_n C dL_law_751 0 rfl ?_
    refine l_iconst (v := 4) C dL_law_752 (by decide) ?_
    refine l_iadd C dL_law_753 ?_
    refine l_sld C hX hbl hbA (hin 4 (by decide) (by decide)) dL_law_754 ?_
    refine l_i2l C dL_law_755 ?_
    refine l_ldc2 C dL_law_756 mk_L_23 ?_
    refine l_land C dL_law_759 ?_
    refine l_lor C dL_law_760 ?_
    refine l_perm (ws' := wM cI cJ cZ bd σm ++ ((wX cI cJ ad (kvO κ) σx) ++ (wKo cI cJ κ))) (pm_xm (wX cI cJ ad (kvO κ) σx) (wM cI cJ cZ bd σm) (wKo cI cJ κ)) ?_
    refine l_calli 0 [.int ((xs (nI (6 * j) + 1).toNatClampNeg)), .int 1, .long ((((xs (nI (6 * j) + 3).toNatClampNeg).toInt64 <<< ((32 : Int32).toInt64 &&& 63)) ||| ((xs (nI (6 * j) + 4).toNatClampNeg).toInt64 &&& 4294967295)))] [.int r] C (Ci.g adM (kX7_spoil_ok ((xs (nI (6 * j) + 1).toNatClampNeg)) 1 ((((xs (nI (6 * j) + 3).toNatClampNeg).toInt64 <<< ((32 : Int32).toInt64 &&& 63)) ||| ((xs (nI (6 * j) + 4).toNatClampNeg).toInt64 &&& 4294967295))) σm h)) (tt_V ml_L_78 mV_X7_spoil) ok_X7_spoil ⟨by decide, by decide⟩ hf0 rfl rfl (Nat.le_of_ble_eq_true rfl) rfl dL_law_761 (fun r' σm h => ?_)
    refine l_perm (ws' := (wX cI cJ ad (kvO κ) σx) ++ (wM cI cJ cZ bd σm ++ (wKo cI cJ κ))) (pm_xm (wX cI cJ ad (kvO κ) σx) (wM cI cJ cZ bd σm) (wKo cI cJ κ)).symm ?_
    obtain ⟨rfl, h⟩ := h
    refine l_icmp_eq 1009 C dL_law_764 rfl (fun _ => ?_) (fun h => absurd rfl h)
    refine l_widen (k' := k0 + 12) (n' := n0 + 5693) (Nat.le_add_right _ _) (Nat.le_add_right _ _) ?_
    exact fin κ σx σm h
set_option maxRecDepth 100000 in
set_option maxHeartbeats 4000000 in
theorem law_peek {p : Program} {l : Launch} {e : Env} {s : State} {m : MethodId} {below : List Frame} {meth : Method} {c : Code} {D : va_G} {cI cJ cZ : ClassId} {b L : Nat} {xs : Nat → Int32} {ad bd : Nat → Nat} {I : Option SS → SS → SS → Prop} (hI : LawSteps I) (C : CL p s m #[Value.ref b] meth c D (tys cI cJ cZ) (fun q : Nat => s.heap.size ≤ q) code 4 "RoomWardenLaw" ret) (hX : va_X b L xs s s.heap) (hbl : b < s.heap.size) {j k0 n0 : Nat} (hin : ∀ d : Int32, 0 ≤ d → d ≤ 5 → vp_in (nI (6 * j) + d) L) (hk : k0 + 12 ≤ room_1.cells ∧ n0 + 5693 ≤ room_1.slots) (κ : Option ((Nat → Nat) × SS)) (σx σm : SS) (hi : I (ksO κ) σx σm)
    (fin : ∀ (κ : Option ((Nat → Nat) × SS)) (σx σm : SS), I (ksO κ) σx σm → JL p l e room_1 s m #[Value.ref b] below meth c D (fun q : Nat => s.heap.size ≤ q) 4 (lw_Z below #[Value.ref b] s) (k0 + 12) (n0 + 5693) (wX cI cJ ad (kvO κ) σx ++ (wM cI cJ cZ bd σm ++ wKo cI cJ κ)) 1009 [(3, .int (nI (6 * j))), (2, .ref (bd 0)), (1, .ref (ad 18)), (0, .ref b)] []) : JL p l e room_1 s m #[Value.ref b] below meth c D (fun q : Nat => s.heap.size ≤ q) 4 (lw_Z below #[Value.ref b] s) k0 n0 (wX cI cJ ad (kvO κ) σx ++ (wM cI cJ cZ bd σm ++ wKo cI cJ κ)) 769 [(3, .int (nI (6 * j))), (2, .ref (bd 0)), (1, .ref (ad 18)), (0, .ref b)] [] := by
  have hbA : ¬ (fun q : Nat => s.heap.size ≤ q) b := Nat.not_le.mpr hbl
  have hf0 : k0 ≤ room_1.cells ∧ n0 ≤ room_1.slots := ⟨Nat.le_trans (Nat.le_add_right _ _) hk.1, Nat.le_trans (Nat.le_add_right _ _) hk.2⟩
  have h := hI.2.2.2.2.2.2.2.2.2.2.2.2.2.2.1 _ σx σm ((xs (nI (6 * j) + 1).toNatClampNeg)) hi
  refine l_aload_n C dL_law_769 2 rfl ?_
  refine l_aload_n C dL_law_770 3 rfl ?_
  refine l_iload_n C dL_law_771 0 rfl ?_
  refine l_iconst (v := 1) C dL_law_772 (by decide) ?_
  refine l_iadd C dL_law_773 ?_
  refine l_sld C hX hbl hbA (hin 1 (by decide) (by decide)) dL_law_774 ?_
  refine l_calli 18 [.int ((xs (nI (6 * j) + 1).toNatClampNeg))] [] C (Ci.g adX (kX6_peek_ok ((xs (nI (6 * j) + 1).toNatClampNeg)) σx h)) (tt_V ml_L_79 mV_X6_peek) ok_X6_peek ⟨by decide, by decide⟩ hf0 rfl rfl (Nat.le_of_ble_eq_true rfl) rfl dL_law_775 (fun r σx h => ?_)
  refine l_aload_n C dL_law_778 1 rfl ?_
  refine l_aload_n C dL_law_779 3 rfl ?_
  refine l_iload_n C dL_law_780 0 rfl ?_
  refine l_iconst (v := 1) C dL_law_781 (by decide) ?_
  refine l_iadd C dL_law_782 ?_
  refine l_sld C hX hbl hbA (hin 1 (by decide) (by decide)) dL_law_783 ?_
  refine l_perm (ws' := wM cI cJ cZ bd σm ++ ((wX cI cJ ad (kvO κ) σx) ++ (wKo cI cJ κ))) (pm_xm (wX cI cJ ad (kvO κ) σx) (wM cI cJ cZ bd σm) (wKo cI cJ κ)) ?_
  refine l_calli 0 [.int ((xs (nI (6 * j) + 1).toNatClampNeg))] [.int r] C (Ci.g adM (kX7_peek_ok ((xs (nI (6 * j) + 1).toNatClampNeg)) σm h)) (tt_V ml_L_82 mV_X7_peek) ok_X7_peek ⟨by decide, by decide⟩ hf0 rfl rfl (Nat.le_of_ble_eq_true rfl) rfl dL_law_784 (fun r' σm h => ?_)
  refine l_perm (ws' := (wX cI cJ ad (kvO κ) σx) ++ (wM cI cJ cZ bd σm ++ (wKo cI cJ κ))) (pm_xm (wX cI cJ ad (kvO κ) σx) (wM cI cJ cZ bd σm) (wKo cI cJ κ)).symm ?_
  obtain ⟨rfl, h⟩ := h
  refine l_icmp_eq 1009 C dL_law_787 rfl (fun _ => ?_) (fun h => absurd rfl h)
  refine l_widen (k' := k0 + 12) (n' := n0 + 5693) (Nat.le_add_right _ _) (Nat.le_add_right _ _) ?_
  exact fin κ σx σm h
set_option maxRecDepth 100000 in
set_option maxHeartbeats 4000000 in
theorem law_largest {p : Program} {l : Launch} {e : Env} {s : State} {m : MethodId} {below : List Frame} {meth : Method} {c : Code} {D : va_G} {cI cJ cZ : ClassId} {b L : Nat} {xs : Nat → Int32} {ad bd : Nat → Nat} {I : Option SS → SS → SS → Prop} (hI : LawSteps I) (C : CL p s m #[Value.ref b] meth c D (tys cI cJ cZ) (fun q : Nat => s.heap.size ≤ q) code 4 "RoomWardenLaw" ret) (hX : va_X b L xs s s.heap) (hbl : b < s.heap.size) {j k0 n0 : Nat} (hin : ∀ d : Int32, 0 ≤ d → d ≤ 5 → vp_in (nI (6 * j) + d) L) (hk : k0 + 12 ≤ room_1.cells ∧ n0 + 5693 ≤ room_1.slots) (κ : Option ((Nat → Nat) × SS)) (σx σm : SS) (hi : I (ksO κ) σx σm)
    (fin : ∀ (κ : Option ((Nat → Nat) × SS)) (σx σm : SS), I (ksO κ) σx σm → JL p l e room_1 s m #[Value.ref b] below meth c D (fun q : Nat => s.heap.size ≤ q) 4 (lw_Z below #[Value.ref b] s) (k0 + 12) (n0 + 5693) (wX cI cJ ad (kvO κ) σx ++ (wM cI cJ cZ bd σm ++ wKo cI cJ κ)) 1009 [(3, .int (nI (6 * j))), (2, .ref (bd 0)), (1, .ref (ad 18)), (0, .ref b)] []) : JL p l e room_1 s m #[Value.ref b] below meth c D (fun q : Nat => s.heap.size ≤ q) 4 (lw_Z below #[Value.ref b] s) k0 n0 (wX cI cJ ad (kvO κ) σx ++ (wM cI cJ cZ bd σm ++ wKo cI cJ κ)) 792 [(3, .int (nI (6 * j))), (2, .ref (bd 0)), (1, .ref (ad 18)), (0, .ref b)] [] := by
  have hbA : ¬ (fun q : Nat => s.heap.size ≤ q) b := Nat.not_le.mpr hbl
  have hf0 : k0 ≤ room_1.cells ∧ n0 ≤ room_1.slots := ⟨Nat.le_trans (Nat.le_add_right _ _) hk.1, Nat.le_trans (Nat.le_add_right _ _) hk.2⟩
  have h := hI.2.2.2.2.2.2.2.2.2.2.2.2.2.2.2.1 _ σx σm ((xs (nI (6 * j) + 1).toNatClampNeg)) hi
  refine l_aload_n C dL_law_792 2 rfl ?_
  refine l_aload_n C dL_law_793 3 rfl ?_
  refine l_iload_n C dL_law_794 0 rfl ?_
  refine l_iconst (v := 1) C dL_law_795 (by decide) ?_
  refine l_iadd C dL_law_796 ?_
  refine l_sld C hX hbl hbA (hin 1 (by decide) (by decide)) dL_law_797 ?_
  refine l_calli 18 [.int ((xs (nI (6 * j) + 1).toNatClampNeg))] [] C (Ci.g adX (kX6_largest_ok ((xs (nI (6 * j) + 1).toNatClampNeg)) σx h)) (tt_V ml_L_83 mV_X6_largest) ok_X6_largest ⟨by decide, by decide⟩ hf0 rfl rfl (Nat.le_of_ble_eq_true rfl) rfl dL_law_798 (fun r σx h => ?_)
  refine l_aload_n C dL_law_801 1 rfl ?_
  refine l_aload_n C dL_law_802 3 rfl ?_
  refine l_iload_n C dL_law_803 0 rfl ?_
  refine l_iconst (v := 1) C dL_law_804 (by decide) ?_
  refine l_iadd C dL_law_805 ?_
  refine l_sld C hX hbl hbA (hin 1 (by decide) (by decide)) dL_law_806 ?_
  refine l_perm (ws' := wM cI cJ cZ bd σm ++ ((wX cI cJ ad (kvO κ) σx) ++ (wKo cI cJ κ))) (pm_xm (wX cI cJ ad (kvO κ) σx) (wM cI cJ cZ bd σm) (wKo cI cJ κ)) ?_
  refine l_calli 0 [.int ((xs (nI (6 * j) + 1).toNatClampNeg))] [.int r] C (Ci.g adM (kX7_largest_ok ((xs (nI (6 * j) + 1).toNatClampNeg)) σm h)) (tt_V ml_L_86 mV_X7_largest) ok_X7_largest ⟨by decide, by decide⟩ hf0 rfl rfl (Nat.le_of_ble_eq_true rfl) rfl dL_law_807 (fun r' σm h => ?_)
  refine l_perm (ws' := (wX cI cJ ad (kvO κ) σx) ++ (wM cI cJ cZ bd σm ++ (wKo cI cJ κ))) (pm_xm (wX cI cJ ad (kvO κ) σx) (wM cI cJ cZ bd σm) (wKo cI cJ κ)).symm ?_
  obtain ⟨rfl, h⟩ := h
  refine l_icmp_eq 1009 C dL_law_810 rfl (fun _ => ?_) (fun h => absurd rfl h)
  refine l_widen (k' := k0 + 12) (n' := n0 + 5693) (Nat.le_add_right _ _) (Nat.le_add_right _ _) ?_
  exact fin κ σx σm h
set_option maxRecDepth 100000 in
set_option maxHeartbeats 4000000 in
theorem law_told {p : Program} {l : Launch} {e : Env} {s : State} {m : MethodId} {below : List Frame} {meth : Method} {c : Code} {D : va_G} {cI cJ cZ : ClassId} {b L : Nat} {xs : Nat → Int32} {ad bd : Nat → Nat} {I : Option SS → SS → SS → Prop} (hI : LawSteps I) (C : CL p s m #[Value.ref b] meth c D (tys cI cJ cZ) (fun q : Nat => s.heap.size ≤ q) code 4 "RoomWardenLaw" ret) (hX : va_X b L xs s s.heap) (hbl : b < s.heap.size) {j k0 n0 : Nat} (hin : ∀ d : Int32, 0 ≤ d → d ≤ 5 → vp_in (nI (6 * j) + d) L) (hk : k0 + 12 ≤ room_1.cells ∧ n0 + 5693 ≤ room_1.slots) (κ : Option ((Nat → Nat) × SS)) (σx σm : SS) (hi : I (ksO κ) σx σm)
    (fin : ∀ (κ : Option ((Nat → Nat) × SS)) (σx σm : SS), I (ksO κ) σx σm → JL p l e room_1 s m #[Value.ref b] below meth c D (fun q : Nat => s.heap.size ≤ q) 4 (lw_Z below #[Value.ref b] s) (k0 + 12) (n0 + 5693) (wX cI cJ ad (kvO κ) σx ++ (wM cI cJ cZ bd σm ++ wKo cI cJ κ)) 1009 [(3, .int (nI (6 * j))), (2, .ref (bd 0)), (1, .ref (ad 18)), (0, .ref b)] []) : JL p l e room_1 s m #[Value.ref b] below meth c D (fun q : Nat => s.heap.size ≤ q) 4 (lw_Z below #[Value.ref b] s) k0 n0 (wX cI cJ ad (kvO κ) σx ++ (wM cI cJ cZ bd σm ++ wKo cI cJ κ)) 815 [(3, .int (nI (6 * j))), (2, .ref (bd 0)), (1, .ref (ad 18)), (0, .ref b)] [] := by
  have hbA : ¬ (fun q : Nat => s.heap.size ≤ q) b := Nat.not_le.mpr hbl
  have hf0 : k0 ≤ room_1.cells ∧ n0 ≤ room_1.slots := ⟨Nat.le_trans (Nat.le_add_right _ _) hk.1, Nat.le_trans (Nat.le_add_right _ _) hk.2⟩
  have h := hI.2.2.2.2.2.2.2.2.2.2.2.2.2.2.2.2.1 _ σx σm ((xs (nI (6 * j) + 1).toNatClampNeg)) ((xs (nI (6 * j) + 2).toNatClampNeg)) hi
  refine l_aload_n C dL_law_815 2 rfl ?_
  refine l_aload_n C dL_law_816 3 rfl ?_
  refine l_iload_n C dL_law_817 0 rfl ?_
  refine l_iconst (v := 1) C dL_law_818 (by decide) ?_
  refine l_iadd C dL_law_819 ?_
  refine l_sld C hX hbl hbA (hin 1 (by decide) (by decide)) dL_law_820 ?_
  refine l_aload_n C dL_law_821 3 rfl ?_
  refine l_iload_n C dL_law_822 0 rfl ?_
  refine l_iconst (v := 2) C dL_law_823 (by decide) ?_
  refine l_iadd C dL_law_824 ?_
  refine l_sld C hX hbl hbA (hin 2 (by decide) (by decide)) dL_law_825 ?_
  refine l_calli 18 [.int ((xs (nI (6 * j) + 1).toNatClampNeg)), .int ((xs (nI (6 * j) + 2).toNatClampNeg))] [] C (Ci.g adX (kX6_told_ok ((xs (nI (6 * j) + 1).toNatClampNeg)) ((xs (nI (6 * j) + 2).toNatClampNeg)) σx h)) (tt_V ml_L_87 mV_X6_told) ok_X6_told ⟨by decide, by decide⟩ hf0 rfl rfl (Nat.le_of_ble_eq_true rfl) rfl dL_law_826 (fun r σx h => ?_)
  refine l_aload_n C dL_law_829 1 rfl ?_
  refine l_aload_n C dL_law_830 3 rfl ?_
  refine l_iload_n C dL_law_831 0 rfl ?_
  refine l_iconst (v := 1) C dL_law_832 (by decide) ?_
  refine l_iadd C dL_law_833 ?_
  refine l_sld C hX hbl hbA (hin 1 (by decide) (by decide)) dL_law_834 ?_
  refine l_aload_n C dL_law_835 3 rfl ?_
  refine l_iload_n C dL_law_836 0 rfl ?_
  refine l_iconst (v := 2) C dL_law_837 (by decide) ?_
  refine l_iadd C dL_law_838 ?_
  refine l_sld C hX hbl hbA (hin 2 (by decide) (by decide)) dL_law_839 ?_
  refine l_perm (ws' := wM cI cJ cZ bd σm ++ ((wX cI cJ ad (kvO κ) σx) ++ (wKo cI cJ κ))) (pm_xm (wX cI cJ ad (kvO κ) σx) (wM cI cJ cZ bd σm) (wKo cI cJ κ)) ?_
  refine l_calli 0 [.int ((xs (nI (6 * j) + 1).toNatClampNeg)), .int ((xs (nI (6 * j) + 2).toNatClampNeg))] [.int r] C (Ci.g adM (kX7_told_ok ((xs (nI (6 * j) + 1).toNatClampNeg)) ((xs (nI (6 * j) + 2).toNatClampNeg)) σm h)) (tt_V ml_L_90 mV_X7_told) ok_X7_told ⟨by decide, by decide⟩ hf0 rfl rfl (Nat.le_of_ble_eq_true rfl) rfl dL_law_840 (fun r' σm h => ?_)
  refine l_perm (ws' := (wX cI cJ ad (kvO κ) σx) ++ (wM cI cJ cZ bd σm ++ (wKo cI cJ κ))) (pm_xm (wX cI cJ ad (kvO κ) σx) (wM cI cJ cZ bd σm) (wKo cI cJ κ)).symm ?_
  obtain ⟨rfl, h⟩ := h
  refine l_icmp_eq 1009 C dL_law_843 rfl (fun _ => ?_) (fun h => absurd rfl h)
  refine l_widen (k' := k0 + 12) (n' := n0 + 5693) (Nat.le_add_right _ _) (Nat.le_add_right _ _) ?_
  exact fin κ σx σm h
set_option maxRecDepth 100000 in
set_option maxHeartbeats 4000000 in
theorem law_map {p : Program} {l : Launch} {e : Env} {s : State} {m : MethodId} {below : List Frame} {meth : Method} {c : Code} {D : va_G} {cI cJ cZ : ClassId} {b L : Nat} {xs : Nat → Int32} {ad bd : Nat → Nat} {I : Option SS → SS → SS → Prop} (hI : LawSteps I) (C : CL p s m #[Value.ref b] meth c D (tys cI cJ cZ) (fun q : Nat => s.heap.size ≤ q) code 4 "RoomWardenLaw" ret) (hX : va_X b L xs s s.heap) (hbl : b < s.heap.size) {j k0 n0 : Nat} (hin : ∀ d : Int32, 0 ≤ d → d ≤ 5 → vp_in (nI (6 * j) + d) L) (hk : k0 + 12 ≤ room_1.cells ∧ n0 + 5693 ≤ room_1.slots) (κ : Option ((Nat → Nat) × SS)) (σx σm : SS) (hi : I (ksO κ) σx σm)
    (fin : ∀ (κ : Option ((Nat → Nat) × SS)) (σx σm : SS), I (ksO κ) σx σm → JL p l e room_1 s m #[Value.ref b] below meth c D (fun q : Nat => s.heap.size ≤ q) 4 (lw_Z below #[Value.ref b] s) (k0 + 12) (n0 + 5693) (wX cI cJ ad (kvO κ) σx ++ (wM cI cJ cZ bd σm ++ wKo cI cJ κ)) 1009 [(3, .int (nI (6 * j))), (2, .ref (bd 0)), (1, .ref (ad 18)), (0, .ref b)] []) : JL p l e room_1 s m #[Value.ref b] below meth c D (fun q : Nat => s.heap.size ≤ q) 4 (lw_Z below #[Value.ref b] s) k0 n0 (wX cI cJ ad (kvO κ) σx ++ (wM cI cJ cZ bd σm ++ wKo cI cJ κ)) 848 [(3, .int (nI (6 * j))), (2, .ref (bd 0)), (1, .ref (ad 18)), (0, .ref b)] [] := by
  have hbA : ¬ (fun q : Nat => s.heap.size ≤ q) b := Nat.not_le.mpr hbl
  have hf0 : k0 ≤ room_1.cells ∧ n0 ≤ room_1.slots := ⟨Nat.le_trans (Nat.le_add_right _ _) hk.1, Nat.le_trans (Nat.le_add_right _ _) hk.2⟩
  have h := hI.2.2.2.2.2.2.2.2.2.2.2.2.2.2.2.2.2.1 _ σx σm ((xs (nI (6 * j) + 1).toNatClampNeg)) ((xs (nI (6 * j) + 2).toNatClampNeg)) hi
  refine l_aload_n C dL_law_848 2 rfl ?_
  refine l_aload_n C dL_law_849 3 rfl ?_
  refine l_iload_n C dL_law_850 0 rfl ?_
  refine l_iconst (v := 1) C dL_law_851 (by decide) ?_
  refine l_iadd C dL_law_852 ?_
  refine l_sld C hX hbl hbA (hin 1 (by decide) (by decide)) dL_law_853 ?_
  refine l_aload_n C dL_law_854 3 rfl ?_
  refine l_iload_n C dL_law_855 0 rfl ?_
  refine l_iconst (v := 2) C dL_law_856 (by decide) ?_
  refine l_iadd C dL_law_857 ?_
  refine l_sld C hX hbl hbA (hin 2 (by decide) (by decide)) dL_law_858 ?_
  refine l_calli 18 [.int ((xs (nI (6 * j) + 1).toNatClampNeg)), .int ((xs (nI (6 * j) + 2).toNatClampNeg))] [] C (Ci.g adX (kX6_map_ok ((xs (nI (6 * j) + 1).toNatClampNeg)) ((xs (nI (6 * j) + 2).toNatClampNeg)) σx h)) (tt_V ml_L_91 mV_X6_map) ok_X6_map ⟨by decide, by decide⟩ hf0 rfl rfl (Nat.le_of_ble_eq_true rfl) rfl dL_law_859 (fun r σx h => ?_)
  refine l_aload_n C dL_law_862 1 rfl ?_
  refine l_aload_n C dL_law_863 3 rfl ?_
  refine l_iload_n C dL_law_864 0 rfl ?_
  refine l_iconst (v := 1) C dL_law_865 (by decide) ?_
  refine l_iadd C dL_law_866 ?_
  refine l_sld C hX hbl hbA (hin 1 (by decide) (by decide)) dL_law_867 ?_
  refine l_aload_n C dL_law_868 3 rfl ?_
  refine l_iload_n C dL_law_869 0 rfl ?_
  refine l_iconst (v := 2) C dL_law_870 (by decide) ?_
  refine l_iadd C dL_law_871 ?_
  refine l_sld C hX hbl hbA (hin 2 (by decide) (by decide)) dL_law_872 ?_
  refine l_perm (ws' := wM cI cJ cZ bd σm ++ ((wX cI cJ ad (kvO κ) σx) ++ (wKo cI cJ κ))) (pm_xm (wX cI cJ ad (kvO κ) σx) (wM cI cJ cZ bd σm) (wKo cI cJ κ)) ?_
  refine l_calli 0 [.int ((xs (nI (6 * j) + 1).toNatClampNeg)), .int ((xs (nI (6 * j) + 2).toNatClampNeg))] [.int r] C (Ci.g adM (kX7_map_ok ((xs (nI (6 * j) + 1).toNatClampNeg)) ((xs (nI (6 * j) + 2).toNatClampNeg)) σm h)) (tt_V ml_L_94 mV_X7_map) ok_X7_map ⟨by decide, by decide⟩ hf0 rfl rfl (Nat.le_of_ble_eq_true rfl) rfl dL_law_873 (fun r' σm h => ?_)
  refine l_perm (ws' := (wX cI cJ ad (kvO κ) σx) ++ (wM cI cJ cZ bd σm ++ (wKo cI cJ κ))) (pm_xm (wX cI cJ ad (kvO κ) σx) (wM cI cJ cZ bd σm) (wKo cI cJ κ)).symm ?_
  obtain ⟨rfl, h⟩ := h
  refine l_icmp_eq 1009 C dL_law_876 rfl (fun _ => ?_) (fun h => absurd rfl h)
  refine l_widen (k' := k0 + 12) (n' := n0 + 5693) (Nat.le_add_right _ _) (Nat.le_add_right _ _) ?_
  exact fin κ σx σm h
set_option maxRecDepth 100000 in
set_option maxHeartbeats 4000000 in
theorem law_count {p : Program} {l : Launch} {e : Env} {s : State} {m : MethodId} {below : List Frame} {meth : Method} {c : Code} {D : va_G} {cI cJ cZ : ClassId} {b L : Nat} {xs : Nat → Int32} {ad bd : Nat → Nat} {I : Option SS → SS → SS → Prop} (hI : LawSteps I) (C : CL p s m #[Value.ref b] meth c D (tys cI cJ cZ) (fun q : Nat => s.heap.size ≤ q) code 4 "RoomWardenLaw" ret) (hX : va_X b L xs s s.heap) (hbl : b < s.heap.size) {j k0 n0 : Nat} (hin : ∀ d : Int32, 0 ≤ d → d ≤ 5 → vp_in (nI (6 * j) + d) L) (hk : k0 + 12 ≤ room_1.cells ∧ n0 + 5693 ≤ room_1.slots) (κ : Option ((Nat → Nat) × SS)) (σx σm : SS) (hi : I (ksO κ) σx σm)
    (fin : ∀ (κ : Option ((Nat → Nat) × SS)) (σx σm : SS), I (ksO κ) σx σm → JL p l e room_1 s m #[Value.ref b] below meth c D (fun q : Nat => s.heap.size ≤ q) 4 (lw_Z below #[Value.ref b] s) (k0 + 12) (n0 + 5693) (wX cI cJ ad (kvO κ) σx ++ (wM cI cJ cZ bd σm ++ wKo cI cJ κ)) 1009 [(3, .int (nI (6 * j))), (2, .ref (bd 0)), (1, .ref (ad 18)), (0, .ref b)] []) : JL p l e room_1 s m #[Value.ref b] below meth c D (fun q : Nat => s.heap.size ≤ q) 4 (lw_Z below #[Value.ref b] s) k0 n0 (wX cI cJ ad (kvO κ) σx ++ (wM cI cJ cZ bd σm ++ wKo cI cJ κ)) 881 [(3, .int (nI (6 * j))), (2, .ref (bd 0)), (1, .ref (ad 18)), (0, .ref b)] [] := by
  have hbA : ¬ (fun q : Nat => s.heap.size ≤ q) b := Nat.not_le.mpr hbl
  have hf0 : k0 ≤ room_1.cells ∧ n0 ≤ room_1.slots := ⟨Nat.le_trans (Nat.le_add_right _ _) hk.1, Nat.le_trans (Nat.le_add_right _ _) hk.2⟩
  have h := hI.2.2.2.2.2.2.2.2.2.2.2.2.2.2.2.2.2.2.1 _ σx σm ((xs (nI (6 * j) + 1).toNatClampNeg)) hi
  refine l_aload_n C dL_law_881 2 rfl ?_
  refine l_aload_n C dL_law_882 3 rfl ?_
  refine l_iload_n C dL_law_883 0 rfl ?_
  refine l_iconst (v := 1) C dL_law_884 (by decide) ?_
  refine l_iadd C dL_law_885 ?_
  refine l_sld C hX hbl hbA (hin 1 (by decide) (by decide)) dL_law_886 ?_
  refine l_calli 18 [.int ((xs (nI (6 * j) + 1).toNatClampNeg))] [] C (Ci.g adX (kX6_count_ok ((xs (nI (6 * j) + 1).toNatClampNeg)) σx h)) (tt_V ml_L_95 mV_X6_count) ok_X6_count ⟨by decide, by decide⟩ hf0 rfl rfl (Nat.le_of_ble_eq_true rfl) rfl dL_law_887 (fun r σx h => ?_)
  refine l_aload_n C dL_law_890 1 rfl ?_
  refine l_aload_n C dL_law_891 3 rfl ?_
  refine l_iload_n C dL_law_892 0 rfl ?_
  refine l_iconst (v := 1) C dL_law_893 (by decide) ?_
  refine l_iadd C dL_law_894 ?_
  refine l_sld C hX hbl hbA (hin 1 (by decide) (by decide)) dL_law_895 ?_
  refine l_perm (ws' := wM cI cJ cZ bd σm ++ ((wX cI cJ ad (kvO κ) σx) ++ (wKo cI cJ κ))) (pm_xm (wX cI cJ ad (kvO κ) σx) (wM cI cJ cZ bd σm) (wKo cI cJ κ)) ?_
  refine l_calli 0 [.int ((xs (nI (6 * j) + 1).toNatClampNeg))] [.int r] C (Ci.g adM (kX7_count_ok ((xs (nI (6 * j) + 1).toNatClampNeg)) σm h)) (tt_V ml_L_98 mV_X7_count) ok_X7_count ⟨by decide, by decide⟩ hf0 rfl rfl (Nat.le_of_ble_eq_true rfl) rfl dL_law_896 (fun r' σm h => ?_)
  refine l_perm (ws' := (wX cI cJ ad (kvO κ) σx) ++ (wM cI cJ cZ bd σm ++ (wKo cI cJ κ))) (pm_xm (wX cI cJ ad (kvO κ) σx) (wM cI cJ cZ bd σm) (wKo cI cJ κ)).symm ?_
  obtain ⟨rfl, h⟩ := h
  refine l_icmp_eq 1009 C dL_law_899 rfl (fun _ => ?_) (fun h => absurd rfl h)
  refine l_widen (k' := k0 + 12) (n' := n0 + 5693) (Nat.le_add_right _ _) (Nat.le_add_right _ _) ?_
  exact fin κ σx σm h
set_option maxRecDepth 100000 in
set_option maxHeartbeats 4000000 in
theorem law_save {p : Program} {l : Launch} {e : Env} {s : State} {m : MethodId} {below : List Frame} {meth : Method} {c : Code} {D : va_G} {cI cJ cZ : ClassId} {b L : Nat} {xs : Nat → Int32} {ad bd : Nat → Nat} {I : Option SS → SS → SS → Prop} (hI : LawSteps I) (C : CL p s m #[Value.ref b] meth c D (tys cI cJ cZ) (fun q : Nat => s.heap.size ≤ q) code 4 "RoomWardenLaw" ret) (hX : va_X b L xs s s.heap) (hbl : b < s.heap.size) {j k0 n0 : Nat} (hin : ∀ d : Int32, 0 ≤ d → d ≤ 5 → vp_in (nI (6 * j) + d) L) (hk : k0 + 12 ≤ room_1.cells ∧ n0 + 5693 ≤ room_1.slots) (κ : Option ((Nat → Nat) × SS)) (σx σm : SS) (hi : I (ksO κ) σx σm)
    (fin : ∀ (κ : Option ((Nat → Nat) × SS)) (σx σm : SS), I (ksO κ) σx σm → JL p l e room_1 s m #[Value.ref b] below meth c D (fun q : Nat => s.heap.size ≤ q) 4 (lw_Z below #[Value.ref b] s) (k0 + 12) (n0 + 5693) (wX cI cJ ad (kvO κ) σx ++ (wM cI cJ cZ bd σm ++ wKo cI cJ κ)) 1009 [(3, .int (nI (6 * j))), (2, .ref (bd 0)), (1, .ref (ad 18)), (0, .ref b)] []) : JL p l e room_1 s m #[Value.ref b] below meth c D (fun q : Nat => s.heap.size ≤ q) 4 (lw_Z below #[Value.ref b] s) k0 n0 (wX cI cJ ad (kvO κ) σx ++ (wM cI cJ cZ bd σm ++ wKo cI cJ κ)) 904 [(3, .int (nI (6 * j))), (2, .ref (bd 0)), (1, .ref (ad 18)), (0, .ref b)] [] := by
  have hbA : ¬ (fun q : Nat => s.heap.size ≤ q) b := Nat.not_le.mpr hbl
  have hf0 : k0 ≤ room_1.cells ∧ n0 ≤ room_1.slots := ⟨Nat.le_trans (Nat.le_add_right _ _) hk.1, Nat.le_trans (Nat.le_add_right _ _) hk.2⟩
  cases κ with
  | none =>
    have h := hI.2.2.2.2.2.2.2.2.2.2.2.2.2.2.2.2.2.2.2.1 none σx σm hi
    refine l_aload_n C dL_law_904 2 rfl ?_
    refine l_calli 18 [] [] C (kX6_saveN_ok ad σx) (tt_V ml_L_99 mV_X6_save) ok_X6_save ⟨by decide, by decide⟩ ⟨hk.1, hk.2⟩ rfl rfl (Nat.le_of_ble_eq_true rfl) rfl dL_law_905 (fun r z hz => ?_)
    obtain ⟨rfl, hz⟩ := hz
    obtain ⟨ed, σk⟩ := z
    replace hz : σk = cpR σx sX0 := hz
    refine l_perm (ws' := wX cI cJ ad (.ref (ed 0)) σx ++ (wM cI cJ cZ bd σm ++ wR cI cJ ed σk)) (show ((wX cI cJ ad (.ref (ed 0)) σx ++ wR cI cJ ed σk) ++ (wM cI cJ cZ bd σm ++ [])).Perm _ by rw [List.append_nil]; exact (pm_xk _ _ _).symm) ?_
    refine l_aload_n C dL_law_908 1 rfl ?_
    refine l_perm (ws' := wM cI cJ cZ bd σm ++ ((wX cI cJ ad (.ref (ed 0)) σx) ++ (wR cI cJ ed σk))) (pm_xm (wX cI cJ ad (.ref (ed 0)) σx) (wM cI cJ cZ bd σm) (wR cI cJ ed σk)) ?_
    refine l_calli 0 [] [.int 1] C (Ci.g adM (kX7_save_ok σm h)) (tt_V ml_L_103 mV_X7_save) ok_X7_save ⟨by decide, by decide⟩ ⟨hk.1, hk.2⟩ rfl rfl (Nat.le_of_ble_eq_true rfl) rfl dL_law_909 (fun r' σm h => ?_)
    refine l_perm (ws' := (wX cI cJ ad (.ref (ed 0)) σx) ++ (wM cI cJ cZ bd σm ++ (wR cI cJ ed σk))) (pm_xm (wX cI cJ ad (.ref (ed 0)) σx) (wM cI cJ cZ bd σm) (wR cI cJ ed σk)).symm ?_
    obtain ⟨rfl, h⟩ := h
    refine l_icmp_eq 1009 C dL_law_912 rfl (fun _ => ?_) (fun h => absurd rfl h)
    exact fin (some (ed, σk)) σx σm (by rw [show ksO (some (ed, σk)) = some σk from rfl, hz]; exact h)
  | some z =>
    obtain ⟨ed, σk⟩ := z
    have h := hI.2.2.2.2.2.2.2.2.2.2.2.2.2.2.2.2.2.2.2.1 (some σk) σx σm hi
    refine l_aload_n C dL_law_904 2 rfl ?_
    refine l_perm (ws' := (((wR cI cJ ad σx ++ wXr cI cJ ad (.ref (ed 0)) σx) ++ wR cI cJ ed σk) ++ wM cI cJ cZ bd σm)) (pm_xk (wX cI cJ ad (.ref (ed 0)) σx) (wM cI cJ cZ bd σm) (wR cI cJ ed σk)) ?_
    refine l_calli 18 [] [] C (kX6_saveS_ok ad ed σx σk) (tt_V ml_L_99 mV_X6_save) ok_X6_save ⟨by decide, by decide⟩ ⟨hk.1, hk.2⟩ rfl rfl (Nat.le_of_ble_eq_true rfl) rfl dL_law_905 (fun r z hz => ?_)
    obtain ⟨rfl, rfl⟩ := hz
    refine l_perm (ws' := wX cI cJ ad (.ref (ed 0)) σx ++ (wM cI cJ cZ bd σm ++ wR cI cJ ed (cpR σx σk))) (pm_xk (wX cI cJ ad (.ref (ed 0)) σx) (wM cI cJ cZ bd σm) (wR cI cJ ed (cpR σx σk))).symm ?_
    refine l_aload_n C dL_law_908 1 rfl ?_
    refine l_perm (ws' := wM cI cJ cZ bd σm ++ ((wX cI cJ ad (.ref (ed 0)) σx) ++ (wR cI cJ ed (cpR σx σk)))) (pm_xm (wX cI cJ ad (.ref (ed 0)) σx) (wM cI cJ cZ bd σm) (wR cI cJ ed (cpR σx σk))) ?_
    refine l_calli 0 [] [.int 1] C (Ci.g adM (kX7_save_ok σm h)) (tt_V ml_L_103 mV_X7_save) ok_X7_save ⟨by decide, by decide⟩ ⟨hk.1, hk.2⟩ rfl rfl (Nat.le_of_ble_eq_true rfl) rfl dL_law_909 (fun r' σm h => ?_)
    refine l_perm (ws' := (wX cI cJ ad (.ref (ed 0)) σx) ++ (wM cI cJ cZ bd σm ++ (wR cI cJ ed (cpR σx σk)))) (pm_xm (wX cI cJ ad (.ref (ed 0)) σx) (wM cI cJ cZ bd σm) (wR cI cJ ed (cpR σx σk))).symm ?_
    obtain ⟨rfl, h⟩ := h
    refine l_icmp_eq 1009 C dL_law_912 rfl (fun _ => ?_) (fun h => absurd rfl h)
    exact fin (some (ed, (cpR σx σk))) σx σm h
set_option maxRecDepth 100000 in
set_option maxHeartbeats 4000000 in
theorem law_back {p : Program} {l : Launch} {e : Env} {s : State} {m : MethodId} {below : List Frame} {meth : Method} {c : Code} {D : va_G} {cI cJ cZ : ClassId} {b L : Nat} {xs : Nat → Int32} {ad bd : Nat → Nat} {I : Option SS → SS → SS → Prop} (hI : LawSteps I) (C : CL p s m #[Value.ref b] meth c D (tys cI cJ cZ) (fun q : Nat => s.heap.size ≤ q) code 4 "RoomWardenLaw" ret) (hX : va_X b L xs s s.heap) (hbl : b < s.heap.size) {j k0 n0 : Nat} (hin : ∀ d : Int32, 0 ≤ d → d ≤ 5 → vp_in (nI (6 * j) + d) L) (hk : k0 + 12 ≤ room_1.cells ∧ n0 + 5693 ≤ room_1.slots) (κ : Option ((Nat → Nat) × SS)) (σx σm : SS) (hi : I (ksO κ) σx σm)
    (fin : ∀ (κ : Option ((Nat → Nat) × SS)) (σx σm : SS), I (ksO κ) σx σm → JL p l e room_1 s m #[Value.ref b] below meth c D (fun q : Nat => s.heap.size ≤ q) 4 (lw_Z below #[Value.ref b] s) (k0 + 12) (n0 + 5693) (wX cI cJ ad (kvO κ) σx ++ (wM cI cJ cZ bd σm ++ wKo cI cJ κ)) 1009 [(3, .int (nI (6 * j))), (2, .ref (bd 0)), (1, .ref (ad 18)), (0, .ref b)] []) : JL p l e room_1 s m #[Value.ref b] below meth c D (fun q : Nat => s.heap.size ≤ q) 4 (lw_Z below #[Value.ref b] s) k0 n0 (wX cI cJ ad (kvO κ) σx ++ (wM cI cJ cZ bd σm ++ wKo cI cJ κ)) 917 [(3, .int (nI (6 * j))), (2, .ref (bd 0)), (1, .ref (ad 18)), (0, .ref b)] [] := by
  have hbA : ¬ (fun q : Nat => s.heap.size ≤ q) b := Nat.not_le.mpr hbl
  have hf0 : k0 ≤ room_1.cells ∧ n0 ≤ room_1.slots := ⟨Nat.le_trans (Nat.le_add_right _ _) hk.1, Nat.le_trans (Nat.le_add_right _ _) hk.2⟩
  cases κ with
  | none =>
    have h := hI.2.2.2.2.2.2.2.2.2.2.2.2.2.2.2.2.2.2.2.2.1.1 σx σm hi
    refine l_aload_n C dL_law_917 2 rfl ?_
    refine l_calli 18 [] [] C (kX6_backN_ok ad σx h) (tt_V ml_L_104 mV_X6_back) ok_X6_back ⟨by decide, by decide⟩ hf0 rfl rfl (Nat.le_of_ble_eq_true rfl) rfl dL_law_918 (fun r σx h => ?_)
    refine l_aload_n C dL_law_921 1 rfl ?_
    refine l_perm (ws' := wM cI cJ cZ bd σm ++ ((wX cI cJ ad (kvO none) σx) ++ (wKo cI cJ none))) (pm_xm (wX cI cJ ad (kvO none) σx) (wM cI cJ cZ bd σm) (wKo cI cJ none)) ?_
    refine l_calli 0 [] [.int r] C (Ci.g adM (kX7_back_ok σm h)) (tt_V ml_L_107 mV_X7_back) ok_X7_back ⟨by decide, by decide⟩ hf0 rfl rfl (Nat.le_of_ble_eq_true rfl) rfl dL_law_922 (fun r' σm h => ?_)
    refine l_perm (ws' := (wX cI cJ ad (kvO none) σx) ++ (wM cI cJ cZ bd σm ++ (wKo cI cJ none))) (pm_xm (wX cI cJ ad (kvO none) σx) (wM cI cJ cZ bd σm) (wKo cI cJ none)).symm ?_
    obtain ⟨rfl, h⟩ := h
    refine l_icmp_eq 1009 C dL_law_925 rfl (fun _ => ?_) (fun h => absurd rfl h)
    refine l_widen (k' := k0 + 12) (n' := n0 + 5693) (Nat.le_add_right _ _) (Nat.le_add_right _ _) ?_
    exact fin none σx σm h
  | some z =>
    obtain ⟨ed, σk⟩ := z
    have h := hI.2.2.2.2.2.2.2.2.2.2.2.2.2.2.2.2.2.2.2.2.1.2 σk σx σm hi
    refine l_aload_n C dL_law_917 2 rfl ?_
    refine l_perm (ws' := (((wR cI cJ ad σx ++ wXr cI cJ ad (.ref (ed 0)) σx) ++ wR cI cJ ed σk) ++ wM cI cJ cZ bd σm)) (pm_xk (wX cI cJ ad (.ref (ed 0)) σx) (wM cI cJ cZ bd σm) (wR cI cJ ed σk)) ?_
    refine l_calli 18 [] [] C (kX6_backS_ok ad ed σx σk) (tt_V ml_L_104 mV_X6_back) ok_X6_back ⟨by decide, by decide⟩ hf0 rfl rfl (Nat.le_of_ble_eq_true rfl) rfl dL_law_918 (fun r z hz => ?_)
    obtain ⟨rfl, rfl⟩ := hz
    refine l_perm (ws' := wX cI cJ ad (.ref (ed 0)) (cpR σk σx) ++ (wM cI cJ cZ bd σm ++ wR cI cJ ed σk)) (pm_xk (wX cI cJ ad (.ref (ed 0)) (cpR σk σx)) (wM cI cJ cZ bd σm) (wR cI cJ ed σk)).symm ?_
    refine l_aload_n C dL_law_921 1 rfl ?_
    refine l_perm (ws' := wM cI cJ cZ bd σm ++ ((wX cI cJ ad (.ref (ed 0)) (cpR σk σx)) ++ (wR cI cJ ed σk))) (pm_xm (wX cI cJ ad (.ref (ed 0)) (cpR σk σx)) (wM cI cJ cZ bd σm) (wR cI cJ ed σk)) ?_
    refine l_calli 0 [] [.int 1] C (Ci.g adM (kX7_back_ok σm h)) (tt_V ml_L_107 mV_X7_back) ok_X7_back ⟨by decide, by decide⟩ hf0 rfl rfl (Nat.le_of_ble_eq_true rfl) rfl dL_law_922 (fun r' σm h => ?_)
    refine l_perm (ws' := (wX cI cJ ad (.ref (ed 0)) (cpR σk σx)) ++ (wM cI cJ cZ bd σm ++ (wR cI cJ ed σk))) (pm_xm (wX cI cJ ad (.ref (ed 0)) (cpR σk σx)) (wM cI cJ cZ bd σm) (wR cI cJ ed σk)).symm ?_
    obtain ⟨rfl, h⟩ := h
    refine l_icmp_eq 1009 C dL_law_925 rfl (fun _ => ?_) (fun h => absurd rfl h)
    refine l_widen (k' := k0 + 12) (n' := n0 + 5693) (Nat.le_add_right _ _) (Nat.le_add_right _ _) ?_
    exact fin (some (ed, σk)) (cpR σk σx) σm h
set_option maxRecDepth 100000 in
set_option maxHeartbeats 4000000 in
theorem law_hold {p : Program} {l : Launch} {e : Env} {s : State} {m : MethodId} {below : List Frame} {meth : Method} {c : Code} {D : va_G} {cI cJ cZ : ClassId} {b L : Nat} {xs : Nat → Int32} {ad bd : Nat → Nat} {I : Option SS → SS → SS → Prop} (hI : LawSteps I) (C : CL p s m #[Value.ref b] meth c D (tys cI cJ cZ) (fun q : Nat => s.heap.size ≤ q) code 4 "RoomWardenLaw" ret) (hX : va_X b L xs s s.heap) (hbl : b < s.heap.size) {j k0 n0 : Nat} (hin : ∀ d : Int32, 0 ≤ d → d ≤ 5 → vp_in (nI (6 * j) + d) L) (hk : k0 + 12 ≤ room_1.cells ∧ n0 + 5693 ≤ room_1.slots) (κ : Option ((Nat → Nat) × SS)) (σx σm : SS) (hi : I (ksO κ) σx σm)
    (fin : ∀ (κ : Option ((Nat → Nat) × SS)) (σx σm : SS), I (ksO κ) σx σm → JL p l e room_1 s m #[Value.ref b] below meth c D (fun q : Nat => s.heap.size ≤ q) 4 (lw_Z below #[Value.ref b] s) (k0 + 12) (n0 + 5693) (wX cI cJ ad (kvO κ) σx ++ (wM cI cJ cZ bd σm ++ wKo cI cJ κ)) 1009 [(3, .int (nI (6 * j))), (2, .ref (bd 0)), (1, .ref (ad 18)), (0, .ref b)] []) : JL p l e room_1 s m #[Value.ref b] below meth c D (fun q : Nat => s.heap.size ≤ q) 4 (lw_Z below #[Value.ref b] s) k0 n0 (wX cI cJ ad (kvO κ) σx ++ (wM cI cJ cZ bd σm ++ wKo cI cJ κ)) 930 [(3, .int (nI (6 * j))), (2, .ref (bd 0)), (1, .ref (ad 18)), (0, .ref b)] [] := by
  have hbA : ¬ (fun q : Nat => s.heap.size ≤ q) b := Nat.not_le.mpr hbl
  have hf0 : k0 ≤ room_1.cells ∧ n0 ≤ room_1.slots := ⟨Nat.le_trans (Nat.le_add_right _ _) hk.1, Nat.le_trans (Nat.le_add_right _ _) hk.2⟩
  have h := hI.2.2.2.2.2.2.2.2.2.2.2.2.2.2.2.2.2.2.2.2.2.1 _ σx σm ((xs (nI (6 * j) + 1).toNatClampNeg)) ((xs (nI (6 * j) + 2).toNatClampNeg)) hi
  refine l_aload_n C dL_law_930 2 rfl ?_
  refine l_aload_n C dL_law_931 3 rfl ?_
  refine l_iload_n C dL_law_932 0 rfl ?_
  refine l_iconst (v := 1) C dL_law_933 (by decide) ?_
  refine l_iadd C dL_law_934 ?_
  refine l_sld C hX hbl hbA (hin 1 (by decide) (by decide)) dL_law_935 ?_
  refine l_aload_n C dL_law_936 3 rfl ?_
  refine l_iload_n C dL_law_937 0 rfl ?_
  refine l_iconst (v := 2) C dL_law_938 (by decide) ?_
  refine l_iadd C dL_law_939 ?_
  refine l_sld C hX hbl hbA (hin 2 (by decide) (by decide)) dL_law_940 ?_
  refine l_calli 18 [.int ((xs (nI (6 * j) + 1).toNatClampNeg)), .int ((xs (nI (6 * j) + 2).toNatClampNeg))] [] C (Ci.g adX (kX6_hold_ok ((xs (nI (6 * j) + 1).toNatClampNeg)) ((xs (nI (6 * j) + 2).toNatClampNeg)) σx h)) (tt_V ml_L_108 mV_X6_hold) ok_X6_hold ⟨by decide, by decide⟩ hf0 rfl rfl (Nat.le_of_ble_eq_true rfl) rfl dL_law_941 (fun r σx h => ?_)
  refine l_aload_n C dL_law_944 1 rfl ?_
  refine l_aload_n C dL_law_945 3 rfl ?_
  refine l_iload_n C dL_law_946 0 rfl ?_
  refine l_iconst (v := 1) C dL_law_947 (by decide) ?_
  refine l_iadd C dL_law_948 ?_
  refine l_sld C hX hbl hbA (hin 1 (by decide) (by decide)) dL_law_949 ?_
  refine l_aload_n C dL_law_950 3 rfl ?_
  refine l_iload_n C dL_law_951 0 rfl ?_
  refine l_iconst (v := 2) C dL_law_952 (by decide) ?_
  refine l_iadd C dL_law_953 ?_
  refine l_sld C hX hbl hbA (hin 2 (by decide) (by decide)) dL_law_954 ?_
  refine l_perm (ws' := wM cI cJ cZ bd σm ++ ((wX cI cJ ad (kvO κ) σx) ++ (wKo cI cJ κ))) (pm_xm (wX cI cJ ad (kvO κ) σx) (wM cI cJ cZ bd σm) (wKo cI cJ κ)) ?_
  refine l_calli 0 [.int ((xs (nI (6 * j) + 1).toNatClampNeg)), .int ((xs (nI (6 * j) + 2).toNatClampNeg))] [.int r] C (Ci.g adM (kX7_hold_ok ((xs (nI (6 * j) + 1).toNatClampNeg)) ((xs (nI (6 * j) + 2).toNatClampNeg)) σm h)) (tt_V ml_L_111 mV_X7_hold) ok_X7_hold ⟨by decide, by decide⟩ hf0 rfl rfl (Nat.le_of_ble_eq_true rfl) rfl dL_law_955 (fun r' σm h => ?_)
  refine l_perm (ws' := (wX cI cJ ad (kvO κ) σx) ++ (wM cI cJ cZ bd σm ++ (wKo cI cJ κ))) (pm_xm (wX cI cJ ad (kvO κ) σx) (wM cI cJ cZ bd σm) (wKo cI cJ κ)).symm ?_
  obtain ⟨rfl, h⟩ := h
  refine l_icmp_eq 1009 C dL_law_958 rfl (fun _ => ?_) (fun h => absurd rfl h)
  refine l_widen (k' := k0 + 12) (n' := n0 + 5693) (Nat.le_add_right _ _) (Nat.le_add_right _ _) ?_
  exact fin κ σx σm h
set_option maxRecDepth 100000 in
set_option maxHeartbeats 4000000 in
theorem law_throwIt {p : Program} {l : Launch} {e : Env} {s : State} {m : MethodId} {below : List Frame} {meth : Method} {c : Code} {D : va_G} {cI cJ cZ : ClassId} {b L : Nat} {xs : Nat → Int32} {ad bd : Nat → Nat} {I : Option SS → SS → SS → Prop} (hI : LawSteps I) (C : CL p s m #[Value.ref b] meth c D (tys cI cJ cZ) (fun q : Nat => s.heap.size ≤ q) code 4 "RoomWardenLaw" ret) (hX : va_X b L xs s s.heap) (hbl : b < s.heap.size) {j k0 n0 : Nat} (hin : ∀ d : Int32, 0 ≤ d → d ≤ 5 → vp_in (nI (6 * j) + d) L) (hk : k0 + 12 ≤ room_1.cells ∧ n0 + 5693 ≤ room_1.slots) (κ : Option ((Nat → Nat) × SS)) (σx σm : SS) (hi : I (ksO κ) σx σm)
    (fin : ∀ (κ : Option ((Nat → Nat) × SS)) (σx σm : SS), I (ksO κ) σx σm → JL p l e room_1 s m #[Value.ref b] below meth c D (fun q : Nat => s.heap.size ≤ q) 4 (lw_Z below #[Value.ref b] s) (k0 + 12) (n0 + 5693) (wX cI cJ ad (kvO κ) σx ++ (wM cI cJ cZ bd σm ++ wKo cI cJ κ)) 1009 [(3, .int (nI (6 * j))), (2, .ref (bd 0)), (1, .ref (ad 18)), (0, .ref b)] []) : JL p l e room_1 s m #[Value.ref b] below meth c D (fun q : Nat => s.heap.size ≤ q) 4 (lw_Z below #[Value.ref b] s) k0 n0 (wX cI cJ ad (kvO κ) σx ++ (wM cI cJ cZ bd σm ++ wKo cI cJ κ)) 963 [(3, .int (nI (6 * j))), (2, .ref (bd 0)), (1, .ref (ad 18)), (0, .ref b)] [] := by
  have hbA : ¬ (fun q : Nat => s.heap.size ≤ q) b := Nat.not_le.mpr hbl
  have hf0 : k0 ≤ room_1.cells ∧ n0 ≤ room_1.slots := ⟨Nat.le_trans (Nat.le_add_right _ _) hk.1, Nat.le_trans (Nat.le_add_right _ _) hk.2⟩
  have h := hI.2.2.2.2.2.2.2.2.2.2.2.2.2.2.2.2.2.2.2.2.2.2.1 _ σx σm ((xs (nI (6 * j) + 1).toNatClampNeg)) hi
  refine l_aload_n C dL_law_963 2 rfl ?_
  refine l_aload_n C dL_law_964 3 rfl ?_
  refine l_iload_n C dL_law_965 0 rfl ?_
  refine l_iconst (v := 1) C dL_law_966 (by decide) ?_
  refine l_iadd C dL_law_967 ?_
  refine l_sld C hX hbl hbA (hin 1 (by decide) (by decide)) dL_law_968 ?_
  refine l_calli 18 [.int ((xs (nI (6 * j) + 1).toNatClampNeg))] [] C (Ci.g adX (kX6_throwIt_ok ((xs (nI (6 * j) + 1).toNatClampNeg)) σx h)) (tt_V ml_L_112 mV_X6_throwIt) ok_X6_throwIt ⟨by decide, by decide⟩ hf0 rfl rfl (Nat.le_of_ble_eq_true rfl) rfl dL_law_969 (fun r σx h => ?_)
  refine l_aload_n C dL_law_972 1 rfl ?_
  refine l_aload_n C dL_law_973 3 rfl ?_
  refine l_iload_n C dL_law_974 0 rfl ?_
  refine l_iconst (v := 1) C dL_law_975 (by decide) ?_
  refine l_iadd C dL_law_976 ?_
  refine l_sld C hX hbl hbA (hin 1 (by decide) (by decide)) dL_law_977 ?_
  refine l_perm (ws' := wM cI cJ cZ bd σm ++ ((wX cI cJ ad (kvO κ) σx) ++ (wKo cI cJ κ))) (pm_xm (wX cI cJ ad (kvO κ) σx) (wM cI cJ cZ bd σm) (wKo cI cJ κ)) ?_
  refine l_calli 0 [.int ((xs (nI (6 * j) + 1).toNatClampNeg))] [.int r] C (Ci.g adM (kX7_throwIt_ok ((xs (nI (6 * j) + 1).toNatClampNeg)) σm h)) (tt_V ml_L_115 mV_X7_throwIt) ok_X7_throwIt ⟨by decide, by decide⟩ hf0 rfl rfl (Nat.le_of_ble_eq_true rfl) rfl dL_law_978 (fun r' σm h => ?_)
  refine l_perm (ws' := (wX cI cJ ad (kvO κ) σx) ++ (wM cI cJ cZ bd σm ++ (wKo cI cJ κ))) (pm_xm (wX cI cJ ad (kvO κ) σx) (wM cI cJ cZ bd σm) (wKo cI cJ κ)).symm ?_
  obtain ⟨rfl, h⟩ := h
  refine l_icmp_eq 1009 C dL_law_981 rfl (fun _ => ?_) (fun h => absurd rfl h)
  refine l_widen (k' := k0 + 12) (n' := n0 + 5693) (Nat.le_add_right _ _) (Nat.le_add_right _ _) ?_
  exact fin κ σx σm h
set_option maxRecDepth 100000 in
set_option maxHeartbeats 4000000 in
theorem law_found {p : Program} {l : Launch} {e : Env} {s : State} {m : MethodId} {below : List Frame} {meth : Method} {c : Code} {D : va_G} {cI cJ cZ : ClassId} {b L : Nat} {xs : Nat → Int32} {ad bd : Nat → Nat} {I : Option SS → SS → SS → Prop} (hI : LawSteps I) (C : CL p s m #[Value.ref b] meth c D (tys cI cJ cZ) (fun q : Nat => s.heap.size ≤ q) code 4 "RoomWardenLaw" ret) (hX : va_X b L xs s s.heap) (hbl : b < s.heap.size) {j k0 n0 : Nat} (hin : ∀ d : Int32, 0 ≤ d → d ≤ 5 → vp_in (nI (6 * j) + d) L) (hk : k0 + 12 ≤ room_1.cells ∧ n0 + 5693 ≤ room_1.slots) (κ : Option ((Nat → Nat) × SS)) (σx σm : SS) (hi : I (ksO κ) σx σm)
    (fin : ∀ (κ : Option ((Nat → Nat) × SS)) (σx σm : SS), I (ksO κ) σx σm → JL p l e room_1 s m #[Value.ref b] below meth c D (fun q : Nat => s.heap.size ≤ q) 4 (lw_Z below #[Value.ref b] s) (k0 + 12) (n0 + 5693) (wX cI cJ ad (kvO κ) σx ++ (wM cI cJ cZ bd σm ++ wKo cI cJ κ)) 1009 [(3, .int (nI (6 * j))), (2, .ref (bd 0)), (1, .ref (ad 18)), (0, .ref b)] []) : JL p l e room_1 s m #[Value.ref b] below meth c D (fun q : Nat => s.heap.size ≤ q) 4 (lw_Z below #[Value.ref b] s) k0 n0 (wX cI cJ ad (kvO κ) σx ++ (wM cI cJ cZ bd σm ++ wKo cI cJ κ)) 986 [(3, .int (nI (6 * j))), (2, .ref (bd 0)), (1, .ref (ad 18)), (0, .ref b)] [] := by
  have hbA : ¬ (fun q : Nat => s.heap.size ≤ q) b := Nat.not_le.mpr hbl
  have hf0 : k0 ≤ room_1.cells ∧ n0 ≤ room_1.slots := ⟨Nat.le_trans (Nat.le_add_right _ _) hk.1, Nat.le_trans (Nat.le_add_right _ _) hk.2⟩
  have h := hI.2.2.2.2.2.2.2.2.2.2.2.2.2.2.2.2.2.2.2.2.2.2.2 _ σx σm ((xs (nI (6 * j) + 1).toNatClampNeg)) hi
  refine l_aload_n C dL_law_986 2 rfl ?_
  refine l_aload_n C dL_law_987 3 rfl ?_
  refine l_iload_n C dL_law_988 0 rfl ?_
  refine l_iconst (v := 1) C dL_law_989 (by decide) ?_
  refine l_iadd C dL_law_990 ?_
  refine l_sld C hX hbl hbA (hin 1 (by decide) (by decide)) dL_law_991 ?_
  refine l_calli 18 [.int ((xs (nI (6 * j) + 1).toNatClampNeg))] [] C (Ci.g adX (kX6_found_ok ((xs (nI (6 * j) + 1).toNatClampNeg)) σx h)) (tt_V ml_L_116 mV_X6_found) ok_X6_found ⟨by decide, by decide⟩ hf0 rfl rfl (Nat.le_of_ble_eq_true rfl) rfl dL_law_992 (fun r σx h => ?_)
  refine l_aload_n C dL_law_995 1 rfl ?_
  refine l_aload_n C dL_law_996 3 rfl ?_
  refine l_iload_n C dL_law_997 0 rfl ?_
  refine l_iconst (v := 1) C dL_law_998 (by decide) ?_
  refine l_iadd C dL_law_999 ?_
  refine l_sld C hX hbl hbA (hin 1 (by decide) (by decide)) dL_law_1000 ?_
  refine l_perm (ws' := wM cI cJ cZ bd σm ++ ((wX cI cJ ad (kvO κ) σx) ++ (wKo cI cJ κ))) (pm_xm (wX cI cJ ad (kvO κ) σx) (wM cI cJ cZ bd σm) (wKo cI cJ κ)) ?_
  refine l_calli 0 [.int ((xs (nI (6 * j) + 1).toNatClampNeg))] [.int r] C (Ci.g adM (kX7_found_ok ((xs (nI (6 * j) + 1).toNatClampNeg)) σm h)) (tt_V ml_L_119 mV_X7_found) ok_X7_found ⟨by decide, by decide⟩ hf0 rfl rfl (Nat.le_of_ble_eq_true rfl) rfl dL_law_1001 (fun r' σm h => ?_)
  refine l_perm (ws' := (wX cI cJ ad (kvO κ) σx) ++ (wM cI cJ cZ bd σm ++ (wKo cI cJ κ))) (pm_xm (wX cI cJ ad (kvO κ) σx) (wM cI cJ cZ bd σm) (wKo cI cJ κ)).symm ?_
  obtain ⟨rfl, h⟩ := h
  refine l_icmp_eq 1009 C dL_law_1004 rfl (fun _ => ?_) (fun h => absurd rfl h)
  refine l_widen (k' := k0 + 12) (n' := n0 + 5693) (Nat.le_add_right _ _) (Nat.le_add_right _ _) ?_
  exact fin κ σx σm h
