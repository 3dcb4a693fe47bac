section G12
variable {p : Program} {l : Launch} {e : Env} {s : State} {m : MethodId} {args : Array Value} {below : List Frame} {meth : Method} {c : Code} {g : gT}
theorem nd_X9_has : yX9_has.cls ≠ "java/lang/invoke/MethodHandle" ∧ yX9_has.cls ≠ "java/lang/invoke/VarHandle" ∧ (parseMethodDescriptor yX9_has.desc).map (fun d => d.parameters.length) = some 1 := by decide +kernel
def f_X9_has (w0 : Nat) (a1 : Int32) (S : sT) : Option (Int32) :=
 (if a1 < (0 : Int32) then
 some (0 : Int32)
 else
 (if (S.1 112 w0 0) ≤ a1 then
 some (0 : Int32)
 else
 (if (8 : Int32) ≤ a1 then
 some (0 : Int32)
 else
 some (1 : Int32))))
set_option maxHeartbeats 4000000 in
set_option maxRecDepth 100000 in
theorem w_X9_has (C : Cx p s m args meth c cX9_has 2 RX9 g) (hr : meth.sig.returnType = (some .boolean)) {o : Int32} {w0 : Nat} {a1 : Int32} (hw0 : w0 < 16) {S : sT} {H : Heap} {locs : List Loc} {ls : Array Slot} (hH : Hp g s S H locs) (hl : lv_has ls 2 [(0, .ref (gad g 9 w0)), (1, .int a1)]) (h : f_X9_has w0 a1 S = some o) : W p l e (rmL 1) s m args below meth c H locs 0 0 (Qm g below args s (some (.int o)) S) (F0 m 0 ls []) := by
  obtain ⟨hx, hb, hml, hown, hts, hlk, hK⟩ := id C
  unfold f_X9_has at h
  refine lv_iload_n hx hb dX9_has_0 rfl (lv_at hl 1 rfl) ?_
  refine lv_if_lt (tgt := 22) hx hb dX9_has_1 (by decide) (fun c3 => ?_) (fun c3 => ?_)
  · replace h := if_t h c3
    refine lv_iconst (v := (0 : Int32)) hx hb dX9_has_22 (by decide) ?_
    exact E_boolc C hr hH rfl h dX9_has_23
  · replace h := if_f h c3
    refine lv_iload_n hx hb dX9_has_4 rfl (lv_at hl 1 rfl) ?_
    refine lv_aload_n hx hb dX9_has_5 rfl (lv_at hl 0 rfl) ?_
    refine gf_X9_24 C hH hw0 dX9_has_6 ?_
    refine lv_icmp_ge (tgt := 22) hx hb dX9_has_9 (by decide) (fun c2 => ?_) (fun c2 => ?_)
    · replace h := if_t h c2
      refine lv_iconst (v := (0 : Int32)) hx hb dX9_has_22 (by decide) ?_
      exact E_boolc C hr hH rfl h dX9_has_23
    · replace h := if_f h c2
      refine lv_iload_n hx hb dX9_has_12 rfl (lv_at hl 1 rfl) ?_
      refine lv_bipush (v := (8 : Int32)) hx hb dX9_has_13 (by decide) ?_
      refine lv_icmp_ge (tgt := 22) hx hb dX9_has_15 (by decide) (fun c1 => ?_) (fun c1 => ?_)
      · replace h := if_t h c1
        refine lv_iconst (v := (0 : Int32)) hx hb dX9_has_22 (by decide) ?_
        exact E_boolc C hr hH rfl h dX9_has_23
      · replace h := if_f h c1
        refine lv_iconst (v := (1 : Int32)) hx hb dX9_has_18 (by decide) ?_
        refine lv_goto (tgt := 23) hx hb dX9_has_19 (by decide) ?_
        exact E_boolc C hr hH rfl h dX9_has_23
theorem c_X9_has (l : Launch) (g : gT) {w0 : Nat} {a1 : Int32} (hw0 : w0 < 16) {S : sT} {r : Int32} (h : f_X9_has w0 a1 S = some r) : MF l yX9_has cX9_has 2 (some .boolean) 1 g [.ref (gad g 9 w0), .int a1] S (some (.int r)) S := by
  refine MF.of (own := RX9) rfl rfl (Nat.le_of_ble_eq_true rfl) ?_
  intro p e s m below meth c C hr hH ls hl
  exact w_X9_has C hr (o := r) hw0 hH hl h
theorem nd_X9_put : yX9_put.cls ≠ "java/lang/invoke/MethodHandle" ∧ yX9_put.cls ≠ "java/lang/invoke/VarHandle" ∧ (parseMethodDescriptor yX9_put.desc).map (fun d => d.parameters.length) = some 2 := by decide +kernel
def f_X9_put (w0 : Nat) (a1 : Int32) (a2 : Int32) (S : sT) : Option (Int32 × sT) :=
 bn (f_X9_has w0 a1 S) (fun r2 =>
 (if r2 = (0 : Int32) then
 some ((0 : Int32), S)
 else
 ck (vi a1 8) (
 (if (8 : Int32) ≤ (S.1 30 w0 (cl a1)) then
 some ((0 : Int32), S)
 else
 ck (vi a1 8) (
 (if (0 : Int32) ≤ (S.1 30 w0 (cl a1)) then
 ck (vi a1 8) (
 ck (vi ((a1 * (8 : Int32)) + (S.1 30 w0 (cl a1))) 64) (
 lt (us S 29 w0 (cl ((a1 * (8 : Int32)) + (S.1 30 w0 (cl a1)))) a2) (fun S7 =>
 ck (vi a1 8) (
 ck (vi a1 8) (
 lt (us S7 30 w0 (cl a1) ((S7.1 30 w0 (cl a1)) + (1 : Int32))) (fun S10 =>
 ck (vi a1 8) (
 bn (f_X7_weightOf a2 S10) (fun r13 =>
 ck (vi a1 8) (
 lt (us S10 31 w0 (cl a1) ((S10.1 31 w0 (cl a1)) + r13)) (fun S15 =>
 ck (vi a1 8) (
 bn (f_X7_pullOf a2 S15) (fun r18 =>
 ck (vi a1 8) (
 lt (us S15 32 w0 (cl a1) ((S15.1 32 w0 (cl a1)) + r18)) (fun S20 =>
 some ((1 : Int32), S20)))))))))))))))
 else
 some ((0 : Int32), S)))))))
set_option maxHeartbeats 4000000 in
set_option maxRecDepth 100000 in
theorem w_X9_put (C : Cx p s m args meth c cX9_put 3 RX9 g) (hr : meth.sig.returnType = (some .boolean)) {o : Int32 × sT} {w0 : Nat} {a1 : Int32} {a2 : Int32} (hw0 : w0 < 16) {S : sT} {H : Heap} {locs : List Loc} {ls : Array Slot} (hH : Hp g s S H locs) (hl : lv_has ls 3 [(0, .ref (gad g 9 w0)), (1, .int a1), (2, .int a2)]) (h : f_X9_put w0 a1 a2 S = some o) : W p l e (rmL 2) s m args below meth c H locs 0 0 (Qm g below args s (some (.int o.1)) o.2) (F0 m 0 ls []) := by
  obtain ⟨hx, hb, hml, hown, hts, hlk, hK⟩ := id C
  unfold f_X9_put at h
  refine lv_aload_n hx hb dX9_put_0 rfl (lv_at hl 0 rfl) ?_
  refine lv_iload_n hx hb dX9_put_1 rfl (lv_at hl 1 rfl) ?_
  obtain ⟨r2, hc1, h⟩ := bn_e h
  refine r_callV1 (ki := 9) (i := w0) (ci := 8) (As := [.int a1]) C hl.1 hH (c_X9_has l g hw0 hc1) q201 q80 q198 q199 q200 nd_X9_has rfl (by decide) ⟨Nat.zero_le _, Nat.zero_le _⟩ (by decide) hw0 ⟨_, rfl⟩ rfl (Nat.le_of_ble_eq_true rfl) dX9_put_2 (fun H locs hH => ?_)
  refine lv_if_eq (tgt := 28) hx hb dX9_put_5 (by decide) (fun c23 => ?_) (fun c23 => ?_)
  · replace h := if_t h c23
    refine lv_iconst (v := (0 : Int32)) hx hb dX9_put_28 (by decide) ?_
    exact E_bool C hr hH rfl h dX9_put_29
  · replace h := if_f h c23
    refine lv_aload_n hx hb dX9_put_8 rfl (lv_at hl 0 rfl) ?_
    refine gf_X9_15 C hH hw0 dX9_put_9 ?_
    refine lv_iload_n hx hb dX9_put_12 rfl (lv_at hl 1 rfl) ?_
    obtain ⟨hv3, h⟩ := ck_e h
    refine r_ald C hH ka_30 (by decide) hw0 (vi_in hv3) dX9_put_13 ?_
    refine lv_bipush (v := (8 : Int32)) hx hb dX9_put_14 (by decide) ?_
    refine lv_icmp_ge (tgt := 28) hx hb dX9_put_16 (by decide) (fun c22 => ?_) (fun c22 => ?_)
    · replace h := if_t h c22
      refine lv_iconst (v := (0 : Int32)) hx hb dX9_put_28 (by decide) ?_
      exact E_bool C hr hH rfl h dX9_put_29
    · replace h := if_f h c22
      refine lv_aload_n hx hb dX9_put_19 rfl (lv_at hl 0 rfl) ?_
      refine gf_X9_15 C hH hw0 dX9_put_20 ?_
      refine lv_iload_n hx hb dX9_put_23 rfl (lv_at hl 1 rfl) ?_
      obtain ⟨hv4, h⟩ := ck_e h
      refine r_ald C hH ka_30 (by decide) hw0 (vi_in hv4) dX9_put_24 ?_
      refine lv_if_ge (tgt := 30) hx hb dX9_put_25 (by decide) (fun c21 => ?_) (fun c21 => ?_)
      · replace h := if_t h c21
        refine lv_aload_n hx hb dX9_put_30 rfl (lv_at hl 0 rfl) ?_
        refine gf_X9_9 C hH hw0 dX9_put_31 ?_
        refine lv_iload_n hx hb dX9_put_34 rfl (lv_at hl 1 rfl) ?_
        refine lv_bipush (v := (8 : Int32)) hx hb dX9_put_35 (by decide) ?_
        refine lv_imul hx hb dX9_put_37 ?_
        refine lv_aload_n hx hb dX9_put_38 rfl (lv_at hl 0 rfl) ?_
        refine gf_X9_15 C hH hw0 dX9_put_39 ?_
        refine lv_iload_n hx hb dX9_put_42 rfl (lv_at hl 1 rfl) ?_
        obtain ⟨hv5, h⟩ := ck_e h
        refine r_ald C hH ka_30 (by decide) hw0 (vi_in hv5) dX9_put_43 ?_
        refine lv_iadd hx hb dX9_put_44 ?_
        refine lv_iload_n hx hb dX9_put_45 rfl (lv_at hl 2 rfl) ?_
        obtain ⟨hv6, h⟩ := ck_e h
        refine r_ast C hH ka_29 ko_29 (by decide) hw0 (vi_in hv6) dX9_put_46 (fun S7 H locs eS hH => ?_)
        replace h := lt_e h eS
        refine lv_aload_n hx hb dX9_put_47 rfl (lv_at hl 0 rfl) ?_
        refine gf_X9_15 C hH hw0 dX9_put_48 ?_
        refine lv_iload_n hx hb dX9_put_51 rfl (lv_at hl 1 rfl) ?_
        refine lv_dup2_11 hx hb dX9_put_52 rfl rfl ?_
        obtain ⟨hv8, h⟩ := ck_e h
        refine r_ald C hH ka_30 (by decide) hw0 (vi_in hv8) dX9_put_53 ?_
        refine lv_iconst (v := (1 : Int32)) hx hb dX9_put_54 (by decide) ?_
        refine lv_iadd hx hb dX9_put_55 ?_
        obtain ⟨hv9, h⟩ := ck_e h
        refine r_ast C hH ka_30 ko_30 (by decide) hw0 (vi_in hv9) dX9_put_56 (fun S10 H locs eS hH => ?_)
        replace h := lt_e h eS
        refine lv_aload_n hx hb dX9_put_57 rfl (lv_at hl 0 rfl) ?_
        refine gf_X9_18 C hH hw0 dX9_put_58 ?_
        refine lv_iload_n hx hb dX9_put_61 rfl (lv_at hl 1 rfl) ?_
        refine lv_dup2_11 hx hb dX9_put_62 rfl rfl ?_
        obtain ⟨hv11, h⟩ := ck_e h
        refine r_ald C hH ka_31 (by decide) hw0 (vi_in hv11) dX9_put_63 ?_
        refine lv_iload_n hx hb dX9_put_64 rfl (lv_at hl 2 rfl) ?_
        obtain ⟨r13, hc12, h⟩ := bn_e h
        refine r_callS1 (As := [.int a2]) C hl.1 hH (c_X7_weightOf l g  hc12) q204 q192 q202 q203 nd_X7_weightOf rfl (by decide) ⟨Nat.zero_le _, Nat.zero_le _⟩ (Nat.le_of_ble_eq_true rfl) dX9_put_65 (fun H locs hH => ?_)
        refine lv_iadd hx hb dX9_put_68 ?_
        obtain ⟨hv14, h⟩ := ck_e h
        refine r_ast C hH ka_31 ko_31 (by decide) hw0 (vi_in hv14) dX9_put_69 (fun S15 H locs eS hH => ?_)
        replace h := lt_e h eS
        refine lv_aload_n hx hb dX9_put_70 rfl (lv_at hl 0 rfl) ?_
        refine gf_X9_21 C hH hw0 dX9_put_71 ?_
        refine lv_iload_n hx hb dX9_put_74 rfl (lv_at hl 1 rfl) ?_
        refine lv_dup2_11 hx hb dX9_put_75 rfl rfl ?_
        obtain ⟨hv16, h⟩ := ck_e h
        refine r_ald C hH ka_32 (by decide) hw0 (vi_in hv16) dX9_put_76 ?_
        refine lv_iload_n hx hb dX9_put_77 rfl (lv_at hl 2 rfl) ?_
        obtain ⟨r18, hc17, h⟩ := bn_e h
        refine r_callS1 (As := [.int a2]) C hl.1 hH (c_X7_pullOf l g  hc17) q207 q192 q205 q206 nd_X7_pullOf rfl (by decide) ⟨Nat.zero_le _, Nat.zero_le _⟩ (Nat.le_of_ble_eq_true rfl) dX9_put_78 (fun H locs hH => ?_)
        refine lv_iadd hx hb dX9_put_81 ?_
        obtain ⟨hv19, h⟩ := ck_e h
        refine r_ast C hH ka_32 ko_32 (by decide) hw0 (vi_in hv19) dX9_put_82 (fun S20 H locs eS hH => ?_)
        replace h := lt_e h eS
        refine lv_iconst (v := (1 : Int32)) hx hb dX9_put_83 (by decide) ?_
        exact E_bool C hr hH rfl h dX9_put_84
      · replace h := if_f h c21
        refine lv_iconst (v := (0 : Int32)) hx hb dX9_put_28 (by decide) ?_
        exact E_bool C hr hH rfl h dX9_put_29
theorem c_X9_put (l : Launch) (g : gT) {w0 : Nat} {a1 : Int32} {a2 : Int32} (hw0 : w0 < 16) {S : sT} {r : Int32} {S1 : sT} (h : f_X9_put w0 a1 a2 S = some (r, S1)) : MF l yX9_put cX9_put 3 (some .boolean) 2 g [.ref (gad g 9 w0), .int a1, .int a2] S (some (.int r)) S1 := by
  refine MF.of (own := RX9) rfl rfl (Nat.le_of_ble_eq_true rfl) ?_
  intro p e s m below meth c C hr hH ls hl
  exact w_X9_put C hr (o := (r, S1)) hw0 hH hl h
theorem nd_X9_uppermost : yX9_uppermost.cls ≠ "java/lang/invoke/MethodHandle" ∧ yX9_uppermost.cls ≠ "java/lang/invoke/VarHandle" ∧ (parseMethodDescriptor yX9_uppermost.desc).map (fun d => d.parameters.length) = some 1 := by decide +kernel
def f_X9_uppermost (w0 : Nat) (a1 : Int32) (S : sT) : Option (Int32) :=
 (if a1 < (0 : Int32) then
 some (-1 : Int32)
 else
 (if (S.1 112 w0 0) ≤ a1 then
 some (-1 : Int32)
 else
 (if a1 < (8 : Int32) then
 ck (vi a1 8) (
 lt ((S.1 30 w0 (cl a1)) - (1 : Int32)) (fun x2 =>
 (if x2 < (0 : Int32) then
 some (-1 : Int32)
 else
 (if (8 : Int32) ≤ x2 then
 some (-1 : Int32)
 else
 ck (vi ((a1 * (8 : Int32)) + x2) 64) (
 some (S.1 29 w0 (cl ((a1 * (8 : Int32)) + x2))))))))
 else
 some (-1 : Int32))))
set_option maxHeartbeats 4000000 in
set_option maxRecDepth 100000 in
theorem w_X9_uppermost (C : Cx p s m args meth c cX9_uppermost 3 RX9 g) (hr : meth.sig.returnType = (some .int)) {o : Int32} {w0 : Nat} {a1 : Int32} (hw0 : w0 < 16) {S : sT} {H : Heap} {locs : List Loc} {ls : Array Slot} (hH : Hp g s S H locs) (hl : lv_has ls 3 [(0, .ref (gad g 9 w0)), (1, .int a1)]) (h : f_X9_uppermost w0 a1 S = some o) : W p l e (rmL 1) s m args below meth c H locs 0 0 (Qm g below args s (some (.int o)) S) (F0 m 0 ls []) := by
  obtain ⟨hx, hb, hml, hown, hts, hlk, hK⟩ := id C
  unfold f_X9_uppermost at h
  refine lv_iload_n hx hb dX9_uppermost_0 rfl (lv_at hl 1 rfl) ?_
  refine lv_if_lt (tgt := 18) hx hb dX9_uppermost_1 (by decide) (fun c8 => ?_) (fun c8 => ?_)
  · replace h := if_t h c8
    refine lv_iconst (v := (-1 : Int32)) hx hb dX9_uppermost_18 (by decide) ?_
    exact E_intc C hr hH h dX9_uppermost_19
  · replace h := if_f h c8
    refine lv_iload_n hx hb dX9_uppermost_4 rfl (lv_at hl 1 rfl) ?_
    refine lv_aload_n hx hb dX9_uppermost_5 rfl (lv_at hl 0 rfl) ?_
    refine gf_X9_24 C hH hw0 dX9_uppermost_6 ?_
    refine lv_icmp_ge (tgt := 18) hx hb dX9_uppermost_9 (by decide) (fun c7 => ?_) (fun c7 => ?_)
    · replace h := if_t h c7
      refine lv_iconst (v := (-1 : Int32)) hx hb dX9_uppermost_18 (by decide) ?_
      exact E_intc C hr hH h dX9_uppermost_19
    · replace h := if_f h c7
      refine lv_iload_n hx hb dX9_uppermost_12 rfl (lv_at hl 1 rfl) ?_
      refine lv_bipush (v := (8 : Int32)) hx hb dX9_uppermost_13 (by decide) ?_
      refine lv_icmp_lt (tgt := 20) hx hb dX9_uppermost_15 (by decide) (fun c6 => ?_) (fun c6 => ?_)
      · replace h := if_t h c6
        refine lv_aload_n hx hb dX9_uppermost_20 rfl (lv_at hl 0 rfl) ?_
        refine gf_X9_15 C hH hw0 dX9_uppermost_21 ?_
        refine lv_iload_n hx hb dX9_uppermost_24 rfl (lv_at hl 1 rfl) ?_
        obtain ⟨hv1, h⟩ := ck_e h
        refine r_ald C hH ka_30 (by decide) hw0 (vi_in hv1) dX9_uppermost_25 ?_
        refine lv_iconst (v := (1 : Int32)) hx hb dX9_uppermost_26 (by decide) ?_
        refine lv_isub hx hb dX9_uppermost_27 ?_
        refine lv_topi (fun x2 ex2 => ?_)
        replace h := lt_e h ex2
        refine lv_istore_n (lv' := [(2, .int x2), (0, .ref (gad g 9 w0)), (1, .int a1)]) hx hb dX9_uppermost_28 rfl hl (by decide) rfl (fun ls hl => ?_)
        refine lv_iload_n hx hb dX9_uppermost_29 rfl (lv_at hl 0 rfl) ?_
        refine lv_if_lt (tgt := 53) hx hb dX9_uppermost_30 (by decide) (fun c5 => ?_) (fun c5 => ?_)
        · replace h := if_t h c5
          refine lv_iconst (v := (-1 : Int32)) hx hb dX9_uppermost_53 (by decide) ?_
          exact E_intc C hr hH h dX9_uppermost_54
        · replace h := if_f h c5
          refine lv_iload_n hx hb dX9_uppermost_33 rfl (lv_at hl 0 rfl) ?_
          refine lv_bipush (v := (8 : Int32)) hx hb dX9_uppermost_34 (by decide) ?_
          refine lv_icmp_ge (tgt := 53) hx hb dX9_uppermost_36 (by decide) (fun c4 => ?_) (fun c4 => ?_)
          · replace h := if_t h c4
            refine lv_iconst (v := (-1 : Int32)) hx hb dX9_uppermost_53 (by decide) ?_
            exact E_intc C hr hH h dX9_uppermost_54
          · replace h := if_f h c4
            refine lv_aload_n hx hb dX9_uppermost_39 rfl (lv_at hl 1 rfl) ?_
            refine gf_X9_9 C hH hw0 dX9_uppermost_40 ?_
            refine lv_iload_n hx hb dX9_uppermost_43 rfl (lv_at hl 2 rfl) ?_
            refine lv_bipush (v := (8 : Int32)) hx hb dX9_uppermost_44 (by decide) ?_
            refine lv_imul hx hb dX9_uppermost_46 ?_
            refine lv_iload_n hx hb dX9_uppermost_47 rfl (lv_at hl 0 rfl) ?_
            refine lv_iadd hx hb dX9_uppermost_48 ?_
            obtain ⟨hv3, h⟩ := ck_e h
            refine r_ald C hH ka_29 (by decide) hw0 (vi_in hv3) dX9_uppermost_49 ?_
            refine lv_goto (tgt := 54) hx hb dX9_uppermost_50 (by decide) ?_
            exact E_intc C hr hH h dX9_uppermost_54
      · replace h := if_f h c6
        refine lv_iconst (v := (-1 : Int32)) hx hb dX9_uppermost_18 (by decide) ?_
        exact E_intc C hr hH h dX9_uppermost_19
theorem c_X9_uppermost (l : Launch) (g : gT) {w0 : Nat} {a1 : Int32} (hw0 : w0 < 16) {S : sT} {r : Int32} (h : f_X9_uppermost w0 a1 S = some r) : MF l yX9_uppermost cX9_uppermost 3 (some .int) 1 g [.ref (gad g 9 w0), .int a1] S (some (.int r)) S := by
  refine MF.of (own := RX9) rfl rfl (Nat.le_of_ble_eq_true rfl) ?_
  intro p e s m below meth c C hr hH ls hl
  exact w_X9_uppermost C hr (o := r) hw0 hH hl h
theorem nd_X9_take : yX9_take.cls ≠ "java/lang/invoke/MethodHandle" ∧ yX9_take.cls ≠ "java/lang/invoke/VarHandle" ∧ (parseMethodDescriptor yX9_take.desc).map (fun d => d.parameters.length) = some 1 := by decide +kernel
def f_X9_take (w0 : Nat) (a1 : Int32) (S : sT) : Option (Int32 × sT) :=
 bn (f_X9_uppermost w0 a1 S) (fun r2 =>
 (if r2 = (-1 : Int32) then
 some (r2, S)
 else
 ck (vi a1 8) (
 ck (vi a1 8) (
 lt (us S 30 w0 (cl a1) ((S.1 30 w0 (cl a1)) - (1 : Int32))) (fun S5 =>
 ck (vi a1 8) (
 bn (f_X7_weightOf r2 S5) (fun r8 =>
 ck (vi a1 8) (
 lt (us S5 31 w0 (cl a1) ((S5.1 31 w0 (cl a1)) - r8)) (fun S10 =>
 ck (vi a1 8) (
 bn (f_X7_pullOf r2 S10) (fun r13 =>
 ck (vi a1 8) (
 lt (us S10 32 w0 (cl a1) ((S10.1 32 w0 (cl a1)) - r13)) (fun S15 =>
 some (r2, S15))))))))))))))
set_option maxHeartbeats 4000000 in
set_option maxRecDepth 100000 in
theorem w_X9_take (C : Cx p s m args meth c cX9_take 3 RX9 g) (hr : meth.sig.returnType = (some .int)) {o : Int32 × sT} {w0 : Nat} {a1 : Int32} (hw0 : w0 < 16) {S : sT} {H : Heap} {locs : List Loc} {ls : Array Slot} (hH : Hp g s S H locs) (hl : lv_has ls 3 [(0, .ref (gad g 9 w0)), (1, .int a1)]) (h : f_X9_take w0 a1 S = some o) : W p l e (rmL 2) s m args below meth c H locs 0 0 (Qm g below args s (some (.int o.1)) o.2) (F0 m 0 ls []) := by
  obtain ⟨hx, hb, hml, hown, hts, hlk, hK⟩ := id C
  unfold f_X9_take at h
  refine lv_aload_n hx hb dX9_take_0 rfl (lv_at hl 0 rfl) ?_
  refine lv_iload_n hx hb dX9_take_1 rfl (lv_at hl 1 rfl) ?_
  obtain ⟨r2, hc1, h⟩ := bn_e h
  refine r_callV1 (ki := 9) (i := w0) (ci := 8) (As := [.int a1]) C hl.1 hH (c_X9_uppermost l g hw0 hc1) q282 q80 q279 q280 q281 nd_X9_uppermost rfl (by decide) ⟨Nat.zero_le _, Nat.zero_le _⟩ (by decide) hw0 ⟨_, rfl⟩ rfl (Nat.le_of_ble_eq_true rfl) dX9_take_2 (fun H locs hH => ?_)
  refine lv_istore_n (lv' := [(2, .int r2), (0, .ref (gad g 9 w0)), (1, .int a1)]) hx hb dX9_take_5 rfl hl (by decide) rfl (fun ls hl => ?_)
  refine lv_iload_n hx hb dX9_take_6 rfl (lv_at hl 0 rfl) ?_
  refine lv_iconst (v := (-1 : Int32)) hx hb dX9_take_7 (by decide) ?_
  refine lv_icmp_eq (tgt := 47) hx hb dX9_take_8 (by decide) (fun c16 => ?_) (fun c16 => ?_)
  · replace h := if_t h c16
    refine lv_iload_n hx hb dX9_take_47 rfl (lv_at hl 0 rfl) ?_
    exact E_int C hr hH h dX9_take_48
  · replace h := if_f h c16
    refine lv_aload_n hx hb dX9_take_11 rfl (lv_at hl 1 rfl) ?_
    refine gf_X9_15 C hH hw0 dX9_take_12 ?_
    refine lv_iload_n hx hb dX9_take_15 rfl (lv_at hl 2 rfl) ?_
    refine lv_dup2_11 hx hb dX9_take_16 rfl rfl ?_
    obtain ⟨hv3, h⟩ := ck_e h
    refine r_ald C hH ka_30 (by decide) hw0 (vi_in hv3) dX9_take_17 ?_
    refine lv_iconst (v := (1 : Int32)) hx hb dX9_take_18 (by decide) ?_
    refine lv_isub hx hb dX9_take_19 ?_
    obtain ⟨hv4, h⟩ := ck_e h
    refine r_ast C hH ka_30 ko_30 (by decide) hw0 (vi_in hv4) dX9_take_20 (fun S5 H locs eS hH => ?_)
    replace h := lt_e h eS
    refine lv_aload_n hx hb dX9_take_21 rfl (lv_at hl 1 rfl) ?_
    refine gf_X9_18 C hH hw0 dX9_take_22 ?_
    refine lv_iload_n hx hb dX9_take_25 rfl (lv_at hl 2 rfl) ?_
    refine lv_dup2_11 hx hb dX9_take_26 rfl rfl ?_
    obtain ⟨hv6, h⟩ := ck_e h
    refine r_ald C hH ka_31 (by decide) hw0 (vi_in hv6) dX9_take_27 ?_
    refine lv_iload_n hx hb dX9_take_28 rfl (lv_at hl 0 rfl) ?_
    obtain ⟨r8, hc7, h⟩ := bn_e h
    refine r_callS1 (As := [.int r2]) C hl.1 hH (c_X7_weightOf l g  hc7) q204 q192 q202 q203 nd_X7_weightOf rfl (by decide) ⟨Nat.zero_le _, Nat.zero_le _⟩ (Nat.le_of_ble_eq_true rfl) dX9_take_29 (fun H locs hH => ?_)
    refine lv_isub hx hb dX9_take_32 ?_
    obtain ⟨hv9, h⟩ := ck_e h
    refine r_ast C hH ka_31 ko_31 (by decide) hw0 (vi_in hv9) dX9_take_33 (fun S10 H locs eS hH => ?_)
    replace h := lt_e h eS
    refine lv_aload_n hx hb dX9_take_34 rfl (lv_at hl 1 rfl) ?_
    refine gf_X9_21 C hH hw0 dX9_take_35 ?_
    refine lv_iload_n hx hb dX9_take_38 rfl (lv_at hl 2 rfl) ?_
    refine lv_dup2_11 hx hb dX9_take_39 rfl rfl ?_
    obtain ⟨hv11, h⟩ := ck_e h
    refine r_ald C hH ka_32 (by decide) hw0 (vi_in hv11) dX9_take_40 ?_
    refine lv_iload_n hx hb dX9_take_41 rfl (lv_at hl 0 rfl) ?_
    obtain ⟨r13, hc12, h⟩ := bn_e h
    refine r_callS1 (As := [.int r2]) C hl.1 hH (c_X7_pullOf l g  hc12) q207 q192 q205 q206 nd_X7_pullOf rfl (by decide) ⟨Nat.zero_le _, Nat.zero_le _⟩ (Nat.le_of_ble_eq_true rfl) dX9_take_42 (fun H locs hH => ?_)
    refine lv_isub hx hb dX9_take_45 ?_
    obtain ⟨hv14, h⟩ := ck_e h
    refine r_ast C hH ka_32 ko_32 (by decide) hw0 (vi_in hv14) dX9_take_46 (fun S15 H locs eS hH => ?_)
    replace h := lt_e h eS
    refine lv_iload_n hx hb dX9_take_47 rfl (lv_at hl 0 rfl) ?_
    exact E_int C hr hH h dX9_take_48
theorem c_X9_take (l : Launch) (g : gT) {w0 : Nat} {a1 : Int32} (hw0 : w0 < 16) {S : sT} {r : Int32} {S1 : sT} (h : f_X9_take w0 a1 S = some (r, S1)) : MF l yX9_take cX9_take 3 (some .int) 2 g [.ref (gad g 9 w0), .int a1] S (some (.int r)) S1 := by
  refine MF.of (own := RX9) rfl rfl (Nat.le_of_ble_eq_true rfl) ?_
  intro p e s m below meth c C hr hH ls hl
  exact w_X9_take C hr (o := (r, S1)) hw0 hH hl h
theorem nd_X9_takeFromOther : yX9_takeFromOther.cls ≠ "java/lang/invoke/MethodHandle" ∧ yX9_takeFromOther.cls ≠ "java/lang/invoke/VarHandle" ∧ (parseMethodDescriptor yX9_takeFromOther.desc).map (fun d => d.parameters.length) = some 2 := by decide +kernel
def f_X9_takeFromOther (w0 : Nat) (a1 : Int32) (a2 : Int32) (S : sT) : Option (Int32 × sT) :=
 bn (f_X9_uppermost w0 a1 S) (fun r2 =>
 (if r2 = (-1 : Int32) then
 some ((0 : Int32), S)
 else
 bn (f_X7_ownerOf r2 S) (fun r4 =>
 (if r4 = a2 then
 some ((0 : Int32), S)
 else
 bn2 (f_X9_take w0 a1 S) (fun r6 S7 =>
 some ((1 : Int32), S7))))))
set_option maxHeartbeats 4000000 in
set_option maxRecDepth 100000 in
theorem w_X9_takeFromOther (C : Cx p s m args meth c cX9_takeFromOther 4 RX9 g) (hr : meth.sig.returnType = (some .boolean)) {o : Int32 × sT} {w0 : Nat} {a1 : Int32} {a2 : Int32} (hw0 : w0 < 16) {S : sT} {H : Heap} {locs : List Loc} {ls : Array Slot} (hH : Hp g s S H locs) (hl : lv_has ls 4 [(0, .ref (gad g 9 w0)), (1, .int a1), (2, .int a2)]) (h : f_X9_takeFromOther w0 a1 a2 S = some o) : W p l e (rmL 3) s m args below meth c H locs 0 0 (Qm g below args s (some (.int o.1)) o.2) (F0 m 0 ls []) := by
  obtain ⟨hx, hb, hml, hown, hts, hlk, hK⟩ := id C
  unfold f_X9_takeFromOther at h
  refine lv_aload_n hx hb dX9_takeFromOther_0 rfl (lv_at hl 0 rfl) ?_
  refine lv_iload_n hx hb dX9_takeFromOther_1 rfl (lv_at hl 1 rfl) ?_
  obtain ⟨r2, hc1, h⟩ := bn_e h
  refine r_callV1 (ki := 9) (i := w0) (ci := 8) (As := [.int a1]) C hl.1 hH (c_X9_uppermost l g hw0 hc1) q282 q80 q279 q280 q281 nd_X9_uppermost rfl (by decide) ⟨Nat.zero_le _, Nat.zero_le _⟩ (by decide) hw0 ⟨_, rfl⟩ rfl (Nat.le_of_ble_eq_true rfl) dX9_takeFromOther_2 (fun H locs hH => ?_)
  refine lv_istore_n (lv' := [(3, .int r2), (0, .ref (gad g 9 w0)), (1, .int a1), (2, .int a2)]) hx hb dX9_takeFromOther_5 rfl hl (by decide) rfl (fun ls hl => ?_)
  refine lv_iload_n hx hb dX9_takeFromOther_6 rfl (lv_at hl 0 rfl) ?_
  refine lv_iconst (v := (-1 : Int32)) hx hb dX9_takeFromOther_7 (by decide) ?_
  refine lv_icmp_eq (tgt := 19) hx hb dX9_takeFromOther_8 (by decide) (fun c9 => ?_) (fun c9 => ?_)
  · replace h := if_t h c9
    refine lv_iconst (v := (0 : Int32)) hx hb dX9_takeFromOther_19 (by decide) ?_
    exact E_bool C hr hH rfl h dX9_takeFromOther_20
  · replace h := if_f h c9
    refine lv_iload_n hx hb dX9_takeFromOther_11 rfl (lv_at hl 0 rfl) ?_
    obtain ⟨r4, hc3, h⟩ := bn_e h
    refine r_callS1 (As := [.int r2]) C hl.1 hH (c_X7_ownerOf l g  hc3) q285 q192 q283 q284 nd_X7_ownerOf rfl (by decide) ⟨Nat.zero_le _, Nat.zero_le _⟩ (Nat.le_of_ble_eq_true rfl) dX9_takeFromOther_12 (fun H locs hH => ?_)
    refine lv_iload_n hx hb dX9_takeFromOther_15 rfl (lv_at hl 3 rfl) ?_
    refine lv_icmp_ne (tgt := 21) hx hb dX9_takeFromOther_16 (by decide) (fun c8 => ?_) (fun c8 => ?_)
    · replace h := if_f h c8
      refine lv_aload_n hx hb dX9_takeFromOther_21 rfl (lv_at hl 1 rfl) ?_
      refine lv_iload_n hx hb dX9_takeFromOther_22 rfl (lv_at hl 2 rfl) ?_
      obtain ⟨r6, S7, hc5, h⟩ := bn2_e h
      refine r_callV1 (ki := 9) (i := w0) (ci := 8) (As := [.int a1]) C hl.1 hH (c_X9_take l g hw0 hc5) q289 q80 q286 q287 q288 nd_X9_take rfl (by decide) ⟨Nat.zero_le _, Nat.zero_le _⟩ (by decide) hw0 ⟨_, rfl⟩ rfl (Nat.le_of_ble_eq_true rfl) dX9_takeFromOther_23 (fun H locs hH => ?_)
      refine lv_pop hx hb dX9_takeFromOther_26 rfl ?_
      refine lv_iconst (v := (1 : Int32)) hx hb dX9_takeFromOther_27 (by decide) ?_
      exact E_bool C hr hH rfl h dX9_takeFromOther_28
    · replace h := if_t h c8
      refine lv_iconst (v := (0 : Int32)) hx hb dX9_takeFromOther_19 (by decide) ?_
      exact E_bool C hr hH rfl h dX9_takeFromOther_20
theorem c_X9_takeFromOther (l : Launch) (g : gT) {w0 : Nat} {a1 : Int32} {a2 : Int32} (hw0 : w0 < 16) {S : sT} {r : Int32} {S1 : sT} (h : f_X9_takeFromOther w0 a1 a2 S = some (r, S1)) : MF l yX9_takeFromOther cX9_takeFromOther 4 (some .boolean) 3 g [.ref (gad g 9 w0), .int a1, .int a2] S (some (.int r)) S1 := by
  refine MF.of (own := RX9) rfl rfl (Nat.le_of_ble_eq_true rfl) ?_
  intro p e s m below meth c C hr hH ls hl
  exact w_X9_takeFromOther C hr (o := (r, S1)) hw0 hH hl h
theorem nd_X9_become : yX9_become.cls ≠ "java/lang/invoke/MethodHandle" ∧ yX9_become.cls ≠ "java/lang/invoke/VarHandle" ∧ (parseMethodDescriptor yX9_become.desc).map (fun d => d.parameters.length) = some 1 := by decide +kernel
def f_X9_become (w0 : Nat) (w1 : Nat) (S : sT) : Option (sT) :=
 lt (us S 112 w0 0 (S.1 112 w1 0)) (fun S1 =>
 ck (vc (0 : Int32) (64 : Int32) 64) (
 ck (vc (0 : Int32) (64 : Int32) 64) (
 lt (ua S1 29 w0 (va_cpy (S1.1 29 w1) (S1.1 29 w0) (cl (0 : Int32)) (cl (0 : Int32)) (cl (64 : Int32)))) (fun S4 =>
 ck (vc (0 : Int32) (8 : Int32) 8) (
 ck (vc (0 : Int32) (8 : Int32) 8) (
 lt (ua S4 30 w0 (va_cpy (S4.1 30 w1) (S4.1 30 w0) (cl (0 : Int32)) (cl (0 : Int32)) (cl (8 : Int32)))) (fun S7 =>
 ck (vc (0 : Int32) (8 : Int32) 8) (
 ck (vc (0 : Int32) (8 : Int32) 8) (
 lt (ua S7 31 w0 (va_cpy (S7.1 31 w1) (S7.1 31 w0) (cl (0 : Int32)) (cl (0 : Int32)) (cl (8 : Int32)))) (fun S10 =>
 ck (vc (0 : Int32) (8 : Int32) 8) (
 ck (vc (0 : Int32) (8 : Int32) 8) (
 lt (ua S10 32 w0 (va_cpy (S10.1 32 w1) (S10.1 32 w0) (cl (0 : Int32)) (cl (0 : Int32)) (cl (8 : Int32)))) (fun S13 =>
 some S13)))))))))))))
set_option maxHeartbeats 4000000 in
set_option maxRecDepth 100000 in
theorem w_X9_become (C : Cx p s m args meth c cX9_become 2 RX9 g) (hr : meth.sig.returnType = none) {o : sT} {w0 : Nat} {w1 : Nat} (hw0 : w0 < 16) (hw1 : w1 < 16) {S : sT} {H : Heap} {locs : List Loc} {ls : Array Slot} (hH : Hp g s S H locs) (hl : lv_has ls 2 [(0, .ref (gad g 9 w0)), (1, .ref (gad g 9 w1))]) (h : f_X9_become w0 w1 S = some o) : W p l e (rmL 1) s m args below meth c H locs 0 0 (Qm g below args s none o) (F0 m 0 ls []) := by
  obtain ⟨hx, hb, hml, hown, hts, hlk, hK⟩ := id C
  unfold f_X9_become at h
  refine lv_aload_n hx hb dX9_become_0 rfl (lv_at hl 0 rfl) ?_
  refine lv_aload_n hx hb dX9_become_1 rfl (lv_at hl 1 rfl) ?_
  refine gf_X9_24 C hH hw1 dX9_become_2 ?_
  refine pf_X9_24 C hH hw0 dX9_become_5 (fun S1 H locs eS hH => ?_)
  replace h := lt_e h eS
  refine lv_aload_n hx hb dX9_become_8 rfl (lv_at hl 1 rfl) ?_
  refine gf_X9_9 C hH hw1 dX9_become_9 ?_
  refine lv_iconst (v := (0 : Int32)) hx hb dX9_become_12 (by decide) ?_
  refine lv_aload_n hx hb dX9_become_13 rfl (lv_at hl 0 rfl) ?_
  refine gf_X9_9 C hH hw0 dX9_become_14 ?_
  refine lv_iconst (v := (0 : Int32)) hx hb dX9_become_17 (by decide) ?_
  refine lv_bipush (v := (64 : Int32)) hx hb dX9_become_18 (by decide) ?_
  obtain ⟨hv2, h⟩ := ck_e h
  obtain ⟨hv3, h⟩ := ck_e h
  refine r_copy C hl.1 hH ka_29 ka_29 ko_29 (by decide) hw1 (by decide) hw0 hv2 hv3 q259 (by decide) dX9_become_20 (fun S4 H locs eS hH => ?_)
  replace h := lt_e h eS
  refine lv_aload_n hx hb dX9_become_23 rfl (lv_at hl 1 rfl) ?_
  refine gf_X9_15 C hH hw1 dX9_become_24 ?_
  refine lv_iconst (v := (0 : Int32)) hx hb dX9_become_27 (by decide) ?_
  refine lv_aload_n hx hb dX9_become_28 rfl (lv_at hl 0 rfl) ?_
  refine gf_X9_15 C hH hw0 dX9_become_29 ?_
  refine lv_iconst (v := (0 : Int32)) hx hb dX9_become_32 (by decide) ?_
  refine lv_bipush (v := (8 : Int32)) hx hb dX9_become_33 (by decide) ?_
  obtain ⟨hv5, h⟩ := ck_e h
  obtain ⟨hv6, h⟩ := ck_e h
  refine r_copy C hl.1 hH ka_30 ka_30 ko_30 (by decide) hw1 (by decide) hw0 hv5 hv6 q259 (by decide) dX9_become_35 (fun S7 H locs eS hH => ?_)
  replace h := lt_e h eS
  refine lv_aload_n hx hb dX9_become_38 rfl (lv_at hl 1 rfl) ?_
  refine gf_X9_18 C hH hw1 dX9_become_39 ?_
  refine lv_iconst (v := (0 : Int32)) hx hb dX9_become_42 (by decide) ?_
  refine lv_aload_n hx hb dX9_become_43 rfl (lv_at hl 0 rfl) ?_
  refine gf_X9_18 C hH hw0 dX9_become_44 ?_
  refine lv_iconst (v := (0 : Int32)) hx hb dX9_become_47 (by decide) ?_
  refine lv_bipush (v := (8 : Int32)) hx hb dX9_become_48 (by decide) ?_
  obtain ⟨hv8, h⟩ := ck_e h
  obtain ⟨hv9, h⟩ := ck_e h
  refine r_copy C hl.1 hH ka_31 ka_31 ko_31 (by decide) hw1 (by decide) hw0 hv8 hv9 q259 (by decide) dX9_become_50 (fun S10 H locs eS hH => ?_)
  replace h := lt_e h eS
  refine lv_aload_n hx hb dX9_become_53 rfl (lv_at hl 1 rfl) ?_
  refine gf_X9_21 C hH hw1 dX9_become_54 ?_
  refine lv_iconst (v := (0 : Int32)) hx hb dX9_become_57 (by decide) ?_
  refine lv_aload_n hx hb dX9_become_58 rfl (lv_at hl 0 rfl) ?_
  refine gf_X9_21 C hH hw0 dX9_become_59 ?_
  refine lv_iconst (v := (0 : Int32)) hx hb dX9_become_62 (by decide) ?_
  refine lv_bipush (v := (8 : Int32)) hx hb dX9_become_63 (by decide) ?_
  obtain ⟨hv11, h⟩ := ck_e h
  obtain ⟨hv12, h⟩ := ck_e h
  refine r_copy C hl.1 hH ka_32 ka_32 ko_32 (by decide) hw1 (by decide) hw0 hv11 hv12 q259 (by decide) dX9_become_65 (fun S13 H locs eS hH => ?_)
  replace h := lt_e h eS
  exact E_void C hr hH h dX9_become_68
theorem c_X9_become (l : Launch) (g : gT) {w0 : Nat} {w1 : Nat} (hw0 : w0 < 16) (hw1 : w1 < 16) {S : sT} {S1 : sT} (h : f_X9_become w0 w1 S = some S1) : MF l yX9_become cX9_become 2 none 1 g [.ref (gad g 9 w0), .ref (gad g 9 w1)] S none S1 := by
  refine MF.of (own := RX9) rfl rfl (Nat.le_of_ble_eq_true rfl) ?_
  intro p e s m below meth c C hr hH ls hl
  exact w_X9_become C hr (o := S1) hw0 hw1 hH hl h
theorem nd_X9_grow : yX9_grow.cls ≠ "java/lang/invoke/MethodHandle" ∧ yX9_grow.cls ≠ "java/lang/invoke/VarHandle" ∧ (parseMethodDescriptor yX9_grow.desc).map (fun d => d.parameters.length) = some 1 := by decide +kernel
def f_X9_grow (w0 : Nat) (a1 : Int32) (S : sT) : Option (Int32 × sT) :=
 (if a1 = (59 : Int32) then
 (if (S.1 112 w0 0) < (8 : Int32) then
 lt (us S 112 w0 0 ((S.1 112 w0 0) + (1 : Int32))) (fun S8 =>
 some ((1 : Int32), S8))
 else
 some ((0 : Int32), S))
 else
 bn (f_X7_ofLetter a1 S) (fun r2 =>
 (if r2 = (-1 : Int32) then
 some ((0 : Int32), S)
 else
 bn2 (f_X9_put w0 ((S.1 112 w0 0) - (1 : Int32)) r2 S) (fun r4 S5 =>
 (if r4 = (0 : Int32) then
 some ((0 : Int32), S5)
 else
 some ((1 : Int32), S5))))))
set_option maxHeartbeats 4000000 in
set_option maxRecDepth 100000 in
theorem w_X9_grow (C : Cx p s m args meth c cX9_grow 3 RX9 g) (hr : meth.sig.returnType = (some .boolean)) {o : Int32 × sT} {w0 : Nat} {a1 : Int32} (hw0 : w0 < 16) {S : sT} {H : Heap} {locs : List Loc} {ls : Array Slot} (hH : Hp g s S H locs) (hl : lv_has ls 3 [(0, .ref (gad g 9 w0)), (1, .int a1)]) (h : f_X9_grow w0 a1 S = some o) : W p l e (rmL 3) s m args below meth c H locs 0 0 (Qm g below args s (some (.int o.1)) o.2) (F0 m 0 ls []) := by
  obtain ⟨hx, hb, hml, hown, hts, hlk, hK⟩ := id C
  unfold f_X9_grow at h
  refine lv_iload_n hx hb dX9_grow_0 rfl (lv_at hl 1 rfl) ?_
  refine lv_bipush (v := (59 : Int32)) hx hb dX9_grow_1 (by decide) ?_
  refine lv_icmp_ne (tgt := 29) hx hb dX9_grow_3 (by decide) (fun c10 => ?_) (fun c10 => ?_)
  · replace h := if_f h c10
    refine lv_iload_n hx hb dX9_grow_29 rfl (lv_at hl 1 rfl) ?_
    obtain ⟨r2, hc1, h⟩ := bn_e h
    refine r_callS1 (As := [.int a1]) C hl.1 hH (c_X7_ofLetter l g  hc1) q193 q192 q190 q191 nd_X7_ofLetter rfl (by decide) ⟨Nat.zero_le _, Nat.zero_le _⟩ (Nat.le_of_ble_eq_true rfl) dX9_grow_30 (fun H locs hH => ?_)
    refine lv_istore_n (lv' := [(2, .int r2), (0, .ref (gad g 9 w0)), (1, .int a1)]) hx hb dX9_grow_33 rfl hl (by decide) rfl (fun ls hl => ?_)
    refine lv_iload_n hx hb dX9_grow_34 rfl (lv_at hl 0 rfl) ?_
    refine lv_iconst (v := (-1 : Int32)) hx hb dX9_grow_35 (by decide) ?_
    refine lv_icmp_eq (tgt := 57) hx hb dX9_grow_36 (by decide) (fun c7 => ?_) (fun c7 => ?_)
    · replace h := if_t h c7
      refine lv_iconst (v := (0 : Int32)) hx hb dX9_grow_57 (by decide) ?_
      exact E_bool C hr hH rfl h dX9_grow_58
    · replace h := if_f h c7
      refine lv_aload_n hx hb dX9_grow_39 rfl (lv_at hl 1 rfl) ?_
      refine lv_aload_n hx hb dX9_grow_40 rfl (lv_at hl 1 rfl) ?_
      refine gf_X9_24 C hH hw0 dX9_grow_41 ?_
      refine lv_iconst (v := (1 : Int32)) hx hb dX9_grow_44 (by decide) ?_
      refine lv_isub hx hb dX9_grow_45 ?_
      refine lv_iload_n hx hb dX9_grow_46 rfl (lv_at hl 0 rfl) ?_
      obtain ⟨r4, S5, hc3, h⟩ := bn2_e h
      refine r_callV1 (ki := 9) (i := w0) (ci := 8) (As := [.int ((S.1 112 w0 0) - (1 : Int32)), .int r2]) C hl.1 hH (c_X9_put l g hw0 hc3) q197 q80 q194 q195 q196 nd_X9_put rfl (by decide) ⟨Nat.zero_le _, Nat.zero_le _⟩ (by decide) hw0 ⟨_, rfl⟩ rfl (Nat.le_of_ble_eq_true rfl) dX9_grow_47 (fun H locs hH => ?_)
      refine lv_if_eq (tgt := 57) hx hb dX9_grow_50 (by decide) (fun c6 => ?_) (fun c6 => ?_)
      · replace h := if_t h c6
        refine lv_iconst (v := (0 : Int32)) hx hb dX9_grow_57 (by decide) ?_
        exact E_bool C hr hH rfl h dX9_grow_58
      · replace h := if_f h c6
        refine lv_iconst (v := (1 : Int32)) hx hb dX9_grow_53 (by decide) ?_
        refine lv_goto (tgt := 58) hx hb dX9_grow_54 (by decide) ?_
        exact E_bool C hr hH rfl h dX9_grow_58
  · replace h := if_t h c10
    refine lv_aload_n hx hb dX9_grow_6 rfl (lv_at hl 0 rfl) ?_
    refine gf_X9_24 C hH hw0 dX9_grow_7 ?_
    refine lv_bipush (v := (8 : Int32)) hx hb dX9_grow_10 (by decide) ?_
    refine lv_icmp_lt (tgt := 17) hx hb dX9_grow_12 (by decide) (fun c9 => ?_) (fun c9 => ?_)
    · replace h := if_t h c9
      refine lv_aload_n hx hb dX9_grow_17 rfl (lv_at hl 0 rfl) ?_
      refine lv_dup hx hb dX9_grow_18 rfl ?_
      refine gf_X9_24 C hH hw0 dX9_grow_19 ?_
      refine lv_iconst (v := (1 : Int32)) hx hb dX9_grow_22 (by decide) ?_
      refine lv_iadd hx hb dX9_grow_23 ?_
      refine pf_X9_24 C hH hw0 dX9_grow_24 (fun S8 H locs eS hH => ?_)
      replace h := lt_e h eS
      refine lv_iconst (v := (1 : Int32)) hx hb dX9_grow_27 (by decide) ?_
      exact E_bool C hr hH rfl h dX9_grow_28
    · replace h := if_f h c9
      refine lv_iconst (v := (0 : Int32)) hx hb dX9_grow_15 (by decide) ?_
      exact E_bool C hr hH rfl h dX9_grow_16
theorem c_X9_grow (l : Launch) (g : gT) {w0 : Nat} {a1 : Int32} (hw0 : w0 < 16) {S : sT} {r : Int32} {S1 : sT} (h : f_X9_grow w0 a1 S = some (r, S1)) : MF l yX9_grow cX9_grow 3 (some .boolean) 3 g [.ref (gad g 9 w0), .int a1] S (some (.int r)) S1 := by
  refine MF.of (own := RX9) rfl rfl (Nat.le_of_ble_eq_true rfl) ?_
  intro p e s m below meth c C hr hH ls hl
  exact w_X9_grow C hr (o := (r, S1)) hw0 hH hl h
theorem nd_X9_raze : yX9_raze.cls ≠ "java/lang/invoke/MethodHandle" ∧ yX9_raze.cls ≠ "java/lang/invoke/VarHandle" ∧ (parseMethodDescriptor yX9_raze.desc).map (fun d => d.parameters.length) = some 0 := by decide +kernel
def b_X9_raze_7 (w0 : Nat) (x2 : Int32) (S3 : sT) (k4 : Int32 → sT → Option (sT)) : Option (sT) :=
 (if (8 : Int32) ≤ x2 then
 some S3
 else
 ck (vi x2 8) (
 lt (us S3 30 w0 (cl x2) (0 : Int32)) (fun S6 =>
 ck (vi x2 8) (
 lt (us S6 31 w0 (cl x2) (0 : Int32)) (fun S8 =>
 ck (vi x2 8) (
 lt (us S8 32 w0 (cl x2) (0 : Int32)) (fun S10 =>
 lt (x2 + (1 : Int32)) (fun x11 =>
 k4 x11 S10))))))))
def l_X9_raze_7 (w0 : Nat) : Nat → Int32 → sT → Option (sT)
 | 0, _, _ => none
 | n + 1, x2, S3 => b_X9_raze_7 w0 x2 S3 (l_X9_raze_7 w0 n)
theorem l_X9_raze_7_s (w0 : Nat) (n : Nat) (x2 : Int32) (S3 : sT) : l_X9_raze_7 w0 (n + 1) x2 S3 = b_X9_raze_7 w0 x2 S3 (l_X9_raze_7 w0 n) := rfl
def f_X9_raze (w0 : Nat) (S : sT) : Option (sT) :=
 lt (us S 112 w0 0 (0 : Int32)) (fun S1 =>
 l_X9_raze_7 w0 FU (0 : Int32) S1)
set_option maxHeartbeats 4000000 in
set_option maxRecDepth 100000 in
theorem w_X9_raze_7 (C : Cx p s m args meth c cX9_raze 2 RX9 g) (hr : meth.sig.returnType = none) {o : sT}  {w0 : Nat} (hw0 : w0 < 16)  : ∀ (n : Nat) (x2 : Int32) (S3 : sT) (H : Heap) (locs : List Loc) (ls : Array Slot), Hp g s S3 H locs → lv_has ls 2 [(0, .ref (gad g 9 w0)), (1, .int x2)] → l_X9_raze_7 w0 n x2 S3 = some o → W p l e (rmL 1) s m args below meth c H locs 0 0 (Qm g below args s none o) (F0 m 7 ls []) := by
  obtain ⟨hx, hb, hml, hown, hts, hlk, hK⟩ := id C
  intro n
  induction n with
  | zero =>
    intro x2 S3 H locs ls hH hl h
    cases h
  | succ n ih =>
    intro x2 S3 H locs ls hH hl h
    rw [l_X9_raze_7_s] at h
    unfold b_X9_raze_7 at h
    refine lv_iload_n hx hb dX9_raze_7 rfl (lv_at hl 1 rfl) ?_
    refine lv_bipush (v := (8 : Int32)) hx hb dX9_raze_8 (by decide) ?_
    refine lv_icmp_ge (tgt := 40) hx hb dX9_raze_10 (by decide) (fun c12 => ?_) (fun c12 => ?_)
    · replace h := if_t h c12
      exact E_void C hr hH h dX9_raze_40
    · replace h := if_f h c12
      refine lv_aload_n hx hb dX9_raze_13 rfl (lv_at hl 0 rfl) ?_
      refine gf_X9_15 C hH hw0 dX9_raze_14 ?_
      refine lv_iload_n hx hb dX9_raze_17 rfl (lv_at hl 1 rfl) ?_
      refine lv_iconst (v := (0 : Int32)) hx hb dX9_raze_18 (by decide) ?_
      obtain ⟨hv5, h⟩ := ck_e h
      refine r_ast C hH ka_30 ko_30 (by decide) hw0 (vi_in hv5) dX9_raze_19 (fun S6 H locs eS hH => ?_)
      replace h := lt_e h eS
      refine lv_aload_n hx hb dX9_raze_20 rfl (lv_at hl 0 rfl) ?_
      refine gf_X9_18 C hH hw0 dX9_raze_21 ?_
      refine lv_iload_n hx hb dX9_raze_24 rfl (lv_at hl 1 rfl) ?_
      refine lv_iconst (v := (0 : Int32)) hx hb dX9_raze_25 (by decide) ?_
      obtain ⟨hv7, h⟩ := ck_e h
      refine r_ast C hH ka_31 ko_31 (by decide) hw0 (vi_in hv7) dX9_raze_26 (fun S8 H locs eS hH => ?_)
      replace h := lt_e h eS
      refine lv_aload_n hx hb dX9_raze_27 rfl (lv_at hl 0 rfl) ?_
      refine gf_X9_21 C hH hw0 dX9_raze_28 ?_
      refine lv_iload_n hx hb dX9_raze_31 rfl (lv_at hl 1 rfl) ?_
      refine lv_iconst (v := (0 : Int32)) hx hb dX9_raze_32 (by decide) ?_
      obtain ⟨hv9, h⟩ := ck_e h
      refine r_ast C hH ka_32 ko_32 (by decide) hw0 (vi_in hv9) dX9_raze_33 (fun S10 H locs eS hH => ?_)
      replace h := lt_e h eS
      obtain ⟨x11, ex11⟩ : ∃ z : Int32, z = (x2 + (1 : Int32)) := ⟨_, rfl⟩
      replace h := lt_e h ex11
      refine lv_iinc (v := x11) (lv' := [(1, .int x11), (0, .ref (gad g 9 w0))]) hx hb dX9_raze_34 hl (k := 1) rfl (by rw [ex11]; rfl) (by decide) rfl (fun ls hl => ?_)
      refine lv_goto (tgt := 7) hx hb dX9_raze_37 (by decide) ?_
      exact ih _ _ _ _ _ hH (lv_sub hl [1, 0] rfl) h
set_option maxHeartbeats 4000000 in
set_option maxRecDepth 100000 in
theorem w_X9_raze (C : Cx p s m args meth c cX9_raze 2 RX9 g) (hr : meth.sig.returnType = none) {o : sT} {w0 : Nat} (hw0 : w0 < 16) {S : sT} {H : Heap} {locs : List Loc} {ls : Array Slot} (hH : Hp g s S H locs) (hl : lv_has ls 2 [(0, .ref (gad g 9 w0))]) (h : f_X9_raze w0 S = some o) : W p l e (rmL 1) s m args below meth c H locs 0 0 (Qm g below args s none o) (F0 m 0 ls []) := by
  obtain ⟨hx, hb, hml, hown, hts, hlk, hK⟩ := id C
  unfold f_X9_raze at h
  refine lv_aload_n hx hb dX9_raze_0 rfl (lv_at hl 0 rfl) ?_
  refine lv_iconst (v := (0 : Int32)) hx hb dX9_raze_1 (by decide) ?_
  refine pf_X9_24 C hH hw0 dX9_raze_2 (fun S1 H locs eS hH => ?_)
  replace h := lt_e h eS
  refine lv_iconst (v := (0 : Int32)) hx hb dX9_raze_5 (by decide) ?_
  refine lv_istore_n (lv' := [(1, .int (0 : Int32)), (0, .ref (gad g 9 w0))]) hx hb dX9_raze_6 rfl hl (by decide) rfl (fun ls hl => ?_)
  exact w_X9_raze_7 C hr hw0  _ _ _ _ _ _ hH (lv_sub hl [1, 0] rfl) h
theorem c_X9_raze (l : Launch) (g : gT) {w0 : Nat} (hw0 : w0 < 16) {S : sT} {S1 : sT} (h : f_X9_raze w0 S = some S1) : MF l yX9_raze cX9_raze 2 none 1 g [.ref (gad g 9 w0)] S none S1 := by
  refine MF.of (own := RX9) rfl rfl (Nat.le_of_ble_eq_true rfl) ?_
  intro p e s m below meth c C hr hH ls hl
  exact w_X9_raze C hr (o := S1) hw0 hH hl h
theorem nd_X9_parse : yX9_parse.cls ≠ "java/lang/invoke/MethodHandle" ∧ yX9_parse.cls ≠ "java/lang/invoke/VarHandle" ∧ (parseMethodDescriptor yX9_parse.desc).map (fun d => d.parameters.length) = some 1 := by decide +kernel
def b_X9_parse_18 (w0 : Nat) (w1 : Nat) (j10 : Int32 → sT → Option (Int32 × sT)) (x11 : Int32) (S12 : sT) (k13 : Int32 → sT → Option (Int32 × sT)) : Option (Int32 × sT) :=
 bn (f_X8_size w1 S12) (fun r15 =>
 (if r15 ≤ x11 then
 some ((-1 : Int32), S12)
 else
 bn (f_X8_byteAt w1 x11 S12) (fun r17 =>
 bn2 (f_X9_grow w0 r17 S12) (fun r19 S20 =>
 (if r19 = (0 : Int32) then
 j10 x11 S20
 else
 lt (x11 + (1 : Int32)) (fun x21 =>
 k13 x21 S20))))))
def l_X9_parse_18 (w0 : Nat) (w1 : Nat) (j10 : Int32 → sT → Option (Int32 × sT)) : Nat → Int32 → sT → Option (Int32 × sT)
 | 0, _, _ => none
 | n + 1, x11, S12 => b_X9_parse_18 w0 w1 j10 x11 S12 (l_X9_parse_18 w0 w1 j10 n)
theorem l_X9_parse_18_s (w0 : Nat) (w1 : Nat) (j10 : Int32 → sT → Option (Int32 × sT)) (n : Nat) (x11 : Int32) (S12 : sT) : l_X9_parse_18 w0 w1 j10 (n + 1) x11 S12 = b_X9_parse_18 w0 w1 j10 x11 S12 (l_X9_parse_18 w0 w1 j10 n) := rfl
def f_X9_parse (w0 : Nat) (w1 : Nat) (S : sT) : Option (Int32 × sT) :=
 bn (f_X9_raze w0 S) (fun S2 =>
 bn (f_X8_size w1 S2) (fun r4 =>
 jn (fun (S5 : sT) => jn (fun (x6 : Int32) (S7 : sT) => bn (f_X9_raze w0 S7) (fun S9 =>
 some (x6, S9)))
 (fun j10 => l_X9_parse_18 w0 w1 j10 FU (0 : Int32) S5))
 (fun j24 => (if r4 ≤ (0 : Int32) then
 j24 S2
 else
 lt (us S2 112 w0 0 (1 : Int32)) (fun S25 =>
 j24 S25)))))
set_option maxHeartbeats 4000000 in
set_option maxRecDepth 100000 in
theorem w_X9_parse_18 (C : Cx p s m args meth c cX9_parse 3 RX9 g) (hr : meth.sig.returnType = (some .int)) {o : Int32 × sT}  {w0 : Nat} {w1 : Nat} (hw0 : w0 < 16) (hw1 : w1 < 2) (j10 : Int32 → sT → Option (Int32 × sT)) (hj10 : ∀ (x6 : Int32) (S7 : sT) (H : Heap) (locs : List Loc) (ls : Array Slot), Hp g s S7 H locs → lv_has ls 3 [(0, .ref (gad g 9 w0)), (2, .int x6)] → j10 x6 S7 = some o → W p l e (rmL 4) s m args below meth c H locs 0 0 (Qm g below args s (some (.int o.1)) o.2) (F0 m 38 ls [])) : ∀ (n : Nat) (x11 : Int32) (S12 : sT) (H : Heap) (locs : List Loc) (ls : Array Slot), Hp g s S12 H locs → lv_has ls 3 [(0, .ref (gad g 9 w0)), (1, .ref (gad g 1 w1)), (2, .int x11)] → l_X9_parse_18 w0 w1 j10 n x11 S12 = some o → W p l e (rmL 4) s m args below meth c H locs 0 0 (Qm g below args s (some (.int o.1)) o.2) (F0 m 18 ls []) := by
  obtain ⟨hx, hb, hml, hown, hts, hlk, hK⟩ := id C
  intro n
  induction n with
  | zero =>
    intro x11 S12 H locs ls hH hl h
    cases h
  | succ n ih =>
    intro x11 S12 H locs ls hH hl h
    rw [l_X9_parse_18_s] at h
    unfold b_X9_parse_18 at h
    refine lv_iload_n hx hb dX9_parse_18 rfl (lv_at hl 2 rfl) ?_
    refine lv_aload_n hx hb dX9_parse_19 rfl (lv_at hl 1 rfl) ?_
    obtain ⟨r15, hc14, h⟩ := bn_e h
    refine r_callV1 (ki := 1) (i := w1) (ci := 7) (As := []) C hl.1 hH (c_X8_size l g hw1 hc14) q181 q14 q178 q179 q180 nd_X8_size rfl (by decide) ⟨Nat.zero_le _, Nat.zero_le _⟩ (by decide) hw1 ⟨_, rfl⟩ rfl (Nat.le_of_ble_eq_true rfl) dX9_parse_20 (fun H locs hH => ?_)
    refine lv_icmp_ge (tgt := 50) hx hb dX9_parse_23 (by decide) (fun c23 => ?_) (fun c23 => ?_)
    · replace h := if_t h c23
      refine lv_iconst (v := (-1 : Int32)) hx hb dX9_parse_50 (by decide) ?_
      exact E_int C hr hH h dX9_parse_51
    · replace h := if_f h c23
      refine lv_aload_n hx hb dX9_parse_26 rfl (lv_at hl 0 rfl) ?_
      refine lv_aload_n hx hb dX9_parse_27 rfl (lv_at hl 1 rfl) ?_
      refine lv_iload_n hx hb dX9_parse_28 rfl (lv_at hl 2 rfl) ?_
      obtain ⟨r17, hc16, h⟩ := bn_e h
      refine r_callV1 (ki := 1) (i := w1) (ci := 7) (As := [.int x11]) C hl.1 hH (c_X8_byteAt l g hw1 hc16) q185 q14 q182 q183 q184 nd_X8_byteAt rfl (by decide) ⟨Nat.zero_le _, Nat.zero_le _⟩ (by decide) hw1 ⟨_, rfl⟩ rfl (Nat.le_of_ble_eq_true rfl) dX9_parse_29 (fun H locs hH => ?_)
      obtain ⟨r19, S20, hc18, h⟩ := bn2_e h
      refine r_callV1 (ki := 9) (i := w0) (ci := 8) (As := [.int r17]) C hl.1 hH (c_X9_grow l g hw0 hc18) q189 q80 q186 q187 q188 nd_X9_grow rfl (by decide) ⟨Nat.zero_le _, Nat.zero_le _⟩ (by decide) hw0 ⟨_, rfl⟩ rfl (Nat.le_of_ble_eq_true rfl) dX9_parse_32 (fun H locs hH => ?_)
      refine lv_if_ne (tgt := 44) hx hb dX9_parse_35 (by decide) (fun c22 => ?_) (fun c22 => ?_)
      · replace h := if_f h c22
        obtain ⟨x21, ex21⟩ : ∃ z : Int32, z = (x11 + (1 : Int32)) := ⟨_, rfl⟩
        replace h := lt_e h ex21
        refine lv_iinc (v := x21) (lv' := [(2, .int x21), (0, .ref (gad g 9 w0)), (1, .ref (gad g 1 w1))]) hx hb dX9_parse_44 hl (k := 2) rfl (by rw [ex21]; rfl) (by decide) rfl (fun ls hl => ?_)
        refine lv_goto (tgt := 18) hx hb dX9_parse_47 (by decide) ?_
        exact ih _ _ _ _ _ hH (lv_sub hl [1, 2, 0] rfl) h
      · replace h := if_t h c22
        exact hj10 _ _ _ _ _ hH (lv_sub hl [0, 2] rfl) h
set_option maxHeartbeats 4000000 in
set_option maxRecDepth 100000 in
theorem w_X9_parse (C : Cx p s m args meth c cX9_parse 3 RX9 g) (hr : meth.sig.returnType = (some .int)) {o : Int32 × sT} {w0 : Nat} {w1 : Nat} (hw0 : w0 < 16) (hw1 : w1 < 2) {S : sT} {H : Heap} {locs : List Loc} {ls : Array Slot} (hH : Hp g s S H locs) (hl : lv_has ls 3 [(0, .ref (gad g 9 w0)), (1, .ref (gad g 1 w1))]) (h : f_X9_parse w0 w1 S = some o) : W p l e (rmL 4) s m args below meth c H locs 0 0 (Qm g below args s (some (.int o.1)) o.2) (F0 m 0 ls []) := by
  obtain ⟨hx, hb, hml, hown, hts, hlk, hK⟩ := id C
  unfold f_X9_parse at h
  refine lv_aload_n hx hb dX9_parse_0 rfl (lv_at hl 0 rfl) ?_
  obtain ⟨S2, hc1, h⟩ := bn_e h
  refine r_callV0 (ki := 9) (i := w0) (ci := 8) (As := []) C hl.1 hH (c_X9_raze l g hw0 hc1) q177 q80 q174 q175 q176 nd_X9_raze rfl (by decide) ⟨Nat.zero_le _, Nat.zero_le _⟩ (by decide) hw0 ⟨_, rfl⟩ rfl (Nat.le_of_ble_eq_true rfl) dX9_parse_1 (fun H locs hH => ?_)
  refine lv_aload_n hx hb dX9_parse_4 rfl (lv_at hl 1 rfl) ?_
  obtain ⟨r4, hc3, h⟩ := bn_e h
  refine r_callV1 (ki := 1) (i := w1) (ci := 7) (As := []) C hl.1 hH (c_X8_size l g hw1 hc3) q181 q14 q178 q179 q180 nd_X8_size rfl (by decide) ⟨Nat.zero_le _, Nat.zero_le _⟩ (by decide) hw1 ⟨_, rfl⟩ rfl (Nat.le_of_ble_eq_true rfl) dX9_parse_5 (fun H locs hH => ?_)
  obtain ⟨j24, ej24, h⟩ := jn_e h
  have hj24 : ∀ (S5 : sT) (H : Heap) (locs : List Loc) (ls : Array Slot), Hp g s S5 H locs → lv_has ls 3 [(0, .ref (gad g 9 w0)), (1, .ref (gad g 1 w1))] → j24 S5 = some o → W p l e (rmL 4) s m args below meth c H locs 0 0 (Qm g below args s (some (.int o.1)) o.2) (F0 m 16 ls []) := by
    intro S5 H locs ls hH hl h
    rw [ej24] at h
    try dsimp only at h
    refine lv_iconst (v := (0 : Int32)) hx hb dX9_parse_16 (by decide) ?_
    refine lv_istore_n (lv' := [(2, .int (0 : Int32)), (0, .ref (gad g 9 w0)), (1, .ref (gad g 1 w1))]) hx hb dX9_parse_17 rfl hl (by decide) rfl (fun ls hl => ?_)
    obtain ⟨j10, ej10, h⟩ := jn_e h
    have hj10 : ∀ (x6 : Int32) (S7 : sT) (H : Heap) (locs : List Loc) (ls : Array Slot), Hp g s S7 H locs → lv_has ls 3 [(0, .ref (gad g 9 w0)), (2, .int x6)] → j10 x6 S7 = some o → W p l e (rmL 4) s m args below meth c H locs 0 0 (Qm g below args s (some (.int o.1)) o.2) (F0 m 38 ls []) := by
      intro x6 S7 H locs ls hH hl h
      rw [ej10] at h
      try dsimp only at h
      refine lv_aload_n hx hb dX9_parse_38 rfl (lv_at hl 0 rfl) ?_
      obtain ⟨S9, hc8, h⟩ := bn_e h
      refine r_callV0 (ki := 9) (i := w0) (ci := 8) (As := []) C hl.1 hH (c_X9_raze l g hw0 hc8) q177 q80 q174 q175 q176 nd_X9_raze rfl (by decide) ⟨Nat.zero_le _, Nat.zero_le _⟩ (by decide) hw0 ⟨_, rfl⟩ rfl (Nat.le_of_ble_eq_true rfl) dX9_parse_39 (fun H locs hH => ?_)
      refine lv_iload_n hx hb dX9_parse_42 rfl (lv_at hl 1 rfl) ?_
      exact E_int C hr hH h dX9_parse_43
    clear ej10
    exact w_X9_parse_18 C hr hw0 hw1 j10 hj10 _ _ _ _ _ _ hH (lv_sub hl [1, 2, 0] rfl) h
  clear ej24
  refine lv_if_le (tgt := 16) hx hb dX9_parse_8 (by decide) (fun c26 => ?_) (fun c26 => ?_)
  · replace h := if_t h c26
    exact hj24 _ _ _ _ hH (lv_sub hl [0, 1] rfl) h
  · replace h := if_f h c26
    refine lv_aload_n hx hb dX9_parse_11 rfl (lv_at hl 0 rfl) ?_
    refine lv_iconst (v := (1 : Int32)) hx hb dX9_parse_12 (by decide) ?_
    refine pf_X9_24 C hH hw0 dX9_parse_13 (fun S25 H locs eS hH => ?_)
    replace h := lt_e h eS
    exact hj24 _ _ _ _ hH (lv_sub hl [0, 1] rfl) h
theorem c_X9_parse (l : Launch) (g : gT) {w0 : Nat} {w1 : Nat} (hw0 : w0 < 16) (hw1 : w1 < 2) {S : sT} {r : Int32} {S1 : sT} (h : f_X9_parse w0 w1 S = some (r, S1)) : MF l yX9_parse cX9_parse 3 (some .int) 4 g [.ref (gad g 9 w0), .ref (gad g 1 w1)] S (some (.int r)) S1 := by
  refine MF.of (own := RX9) rfl rfl (Nat.le_of_ble_eq_true rfl) ?_
  intro p e s m below meth c C hr hH ls hl
  exact w_X9_parse C hr (o := (r, S1)) hw0 hw1 hH hl h
theorem nd_X9_heightOf : yX9_heightOf.cls ≠ "java/lang/invoke/MethodHandle" ∧ yX9_heightOf.cls ≠ "java/lang/invoke/VarHandle" ∧ (parseMethodDescriptor yX9_heightOf.desc).map (fun d => d.parameters.length) = some 1 := by decide +kernel
def f_X9_heightOf (w0 : Nat) (a1 : Int32) (S : sT) : Option (Int32) :=
 (if a1 < (0 : Int32) then
 some (0 : Int32)
 else
 (if (S.1 112 w0 0) ≤ a1 then
 some (0 : Int32)
 else
 (if (8 : Int32) ≤ a1 then
 some (0 : Int32)
 else
 ck (vi a1 8) (
 some (S.1 31 w0 (cl a1))))))
set_option maxHeartbeats 4000000 in
set_option maxRecDepth 100000 in
theorem w_X9_heightOf (C : Cx p s m args meth c cX9_heightOf 2 RX9 g) (hr : meth.sig.returnType = (some .int)) {o : Int32} {w0 : Nat} {a1 : Int32} (hw0 : w0 < 16) {S : sT} {H : Heap} {locs : List Loc} {ls : Array Slot} (hH : Hp g s S H locs) (hl : lv_has ls 2 [(0, .ref (gad g 9 w0)), (1, .int a1)]) (h : f_X9_heightOf w0 a1 S = some o) : W p l e (rmL 1) s m args below meth c H locs 0 0 (Qm g below args s (some (.int o)) S) (F0 m 0 ls []) := by
  obtain ⟨hx, hb, hml, hown, hts, hlk, hK⟩ := id C
  unfold f_X9_heightOf at h
  refine lv_iload_n hx hb dX9_heightOf_0 rfl (lv_at hl 1 rfl) ?_
  refine lv_if_lt (tgt := 27) hx hb dX9_heightOf_1 (by decide) (fun c4 => ?_) (fun c4 => ?_)
  · replace h := if_t h c4
    refine lv_iconst (v := (0 : Int32)) hx hb dX9_heightOf_27 (by decide) ?_
    exact E_intc C hr hH h dX9_heightOf_28
  · replace h := if_f h c4
    refine lv_iload_n hx hb dX9_heightOf_4 rfl (lv_at hl 1 rfl) ?_
    refine lv_aload_n hx hb dX9_heightOf_5 rfl (lv_at hl 0 rfl) ?_
    refine gf_X9_24 C hH hw0 dX9_heightOf_6 ?_
    refine lv_icmp_ge (tgt := 27) hx hb dX9_heightOf_9 (by decide) (fun c3 => ?_) (fun c3 => ?_)
    · replace h := if_t h c3
      refine lv_iconst (v := (0 : Int32)) hx hb dX9_heightOf_27 (by decide) ?_
      exact E_intc C hr hH h dX9_heightOf_28
    · replace h := if_f h c3
      refine lv_iload_n hx hb dX9_heightOf_12 rfl (lv_at hl 1 rfl) ?_
      refine lv_bipush (v := (8 : Int32)) hx hb dX9_heightOf_13 (by decide) ?_
      refine lv_icmp_ge (tgt := 27) hx hb dX9_heightOf_15 (by decide) (fun c2 => ?_) (fun c2 => ?_)
      · replace h := if_t h c2
        refine lv_iconst (v := (0 : Int32)) hx hb dX9_heightOf_27 (by decide) ?_
        exact E_intc C hr hH h dX9_heightOf_28
      · replace h := if_f h c2
        refine lv_aload_n hx hb dX9_heightOf_18 rfl (lv_at hl 0 rfl) ?_
        refine gf_X9_18 C hH hw0 dX9_heightOf_19 ?_
        refine lv_iload_n hx hb dX9_heightOf_22 rfl (lv_at hl 1 rfl) ?_
        obtain ⟨hv1, h⟩ := ck_e h
        refine r_ald C hH ka_31 (by decide) hw0 (vi_in hv1) dX9_heightOf_23 ?_
        refine lv_goto (tgt := 28) hx hb dX9_heightOf_24 (by decide) ?_
        exact E_intc C hr hH h dX9_heightOf_28
theorem c_X9_heightOf (l : Launch) (g : gT) {w0 : Nat} {a1 : Int32} (hw0 : w0 < 16) {S : sT} {r : Int32} (h : f_X9_heightOf w0 a1 S = some r) : MF l yX9_heightOf cX9_heightOf 2 (some .int) 1 g [.ref (gad g 9 w0), .int a1] S (some (.int r)) S := by
  refine MF.of (own := RX9) rfl rfl (Nat.le_of_ble_eq_true rfl) ?_
  intro p e s m below meth c C hr hH ls hl
  exact w_X9_heightOf C hr (o := r) hw0 hH hl h
theorem nd_X9_leanOf : yX9_leanOf.cls ≠ "java/lang/invoke/MethodHandle" ∧ yX9_leanOf.cls ≠ "java/lang/invoke/VarHandle" ∧ (parseMethodDescriptor yX9_leanOf.desc).map (fun d => d.parameters.length) = some 1 := by decide +kernel
def f_X9_leanOf (w0 : Nat) (a1 : Int32) (S : sT) : Option (Int32) :=
 (if a1 < (0 : Int32) then
 some (0 : Int32)
 else
 (if (S.1 112 w0 0) ≤ a1 then
 some (0 : Int32)
 else
 (if (8 : Int32) ≤ a1 then
 some (0 : Int32)
 else
 ck (vi a1 8) (
 some (S.1 32 w0 (cl a1))))))
set_option maxHeartbeats 4000000 in
set_option maxRecDepth 100000 in
theorem w_X9_leanOf (C : Cx p s m args meth c cX9_leanOf 2 RX9 g) (hr : meth.sig.returnType = (some .int)) {o : Int32} {w0 : Nat} {a1 : Int32} (hw0 : w0 < 16) {S : sT} {H : Heap} {locs : List Loc} {ls : Array Slot} (hH : Hp g s S H locs) (hl : lv_has ls 2 [(0, .ref (gad g 9 w0)), (1, .int a1)]) (h : f_X9_leanOf w0 a1 S = some o) : W p l e (rmL 1) s m args below meth c H locs 0 0 (Qm g below args s (some (.int o)) S) (F0 m 0 ls []) := by
  obtain ⟨hx, hb, hml, hown, hts, hlk, hK⟩ := id C
  unfold f_X9_leanOf at h
  refine lv_iload_n hx hb dX9_leanOf_0 rfl (lv_at hl 1 rfl) ?_
  refine lv_if_lt (tgt := 27) hx hb dX9_leanOf_1 (by decide) (fun c4 => ?_) (fun c4 => ?_)
  · replace h := if_t h c4
    refine lv_iconst (v := (0 : Int32)) hx hb dX9_leanOf_27 (by decide) ?_
    exact E_intc C hr hH h dX9_leanOf_28
  · replace h := if_f h c4
    refine lv_iload_n hx hb dX9_leanOf_4 rfl (lv_at hl 1 rfl) ?_
    refine lv_aload_n hx hb dX9_leanOf_5 rfl (lv_at hl 0 rfl) ?_
    refine gf_X9_24 C hH hw0 dX9_leanOf_6 ?_
    refine lv_icmp_ge (tgt := 27) hx hb dX9_leanOf_9 (by decide) (fun c3 => ?_) (fun c3 => ?_)
    · replace h := if_t h c3
      refine lv_iconst (v := (0 : Int32)) hx hb dX9_leanOf_27 (by decide) ?_
      exact E_intc C hr hH h dX9_leanOf_28
    · replace h := if_f h c3
      refine lv_iload_n hx hb dX9_leanOf_12 rfl (lv_at hl 1 rfl) ?_
      refine lv_bipush (v := (8 : Int32)) hx hb dX9_leanOf_13 (by decide) ?_
      refine lv_icmp_ge (tgt := 27) hx hb dX9_leanOf_15 (by decide) (fun c2 => ?_) (fun c2 => ?_)
      · replace h := if_t h c2
        refine lv_iconst (v := (0 : Int32)) hx hb dX9_leanOf_27 (by decide) ?_
        exact E_intc C hr hH h dX9_leanOf_28
      · replace h := if_f h c2
        refine lv_aload_n hx hb dX9_leanOf_18 rfl (lv_at hl 0 rfl) ?_
        refine gf_X9_21 C hH hw0 dX9_leanOf_19 ?_
        refine lv_iload_n hx hb dX9_leanOf_22 rfl (lv_at hl 1 rfl) ?_
        obtain ⟨hv1, h⟩ := ck_e h
        refine r_ald C hH ka_32 (by decide) hw0 (vi_in hv1) dX9_leanOf_23 ?_
        refine lv_goto (tgt := 28) hx hb dX9_leanOf_24 (by decide) ?_
        exact E_intc C hr hH h dX9_leanOf_28
theorem c_X9_leanOf (l : Launch) (g : gT) {w0 : Nat} {a1 : Int32} (hw0 : w0 < 16) {S : sT} {r : Int32} (h : f_X9_leanOf w0 a1 S = some r) : MF l yX9_leanOf cX9_leanOf 2 (some .int) 1 g [.ref (gad g 9 w0), .int a1] S (some (.int r)) S := by
  refine MF.of (own := RX9) rfl rfl (Nat.le_of_ble_eq_true rfl) ?_
  intro p e s m below meth c C hr hH ls hl
  exact w_X9_leanOf C hr (o := r) hw0 hH hl h
theorem nd_X9_sizeOf : yX9_sizeOf.cls ≠ "java/lang/invoke/MethodHandle" ∧ yX9_sizeOf.cls ≠ "java/lang/invoke/VarHandle" ∧ (parseMethodDescriptor yX9_sizeOf.desc).map (fun d => d.parameters.length) = some 1 := by decide +kernel
def f_X9_sizeOf (w0 : Nat) (a1 : Int32) (S : sT) : Option (Int32) :=
 bn (f_X9_has w0 a1 S) (fun r2 =>
 (if r2 = (0 : Int32) then
 some (0 : Int32)
 else
 ck (vi a1 8) (
 some (S.1 30 w0 (cl a1)))))
set_option maxHeartbeats 4000000 in
set_option maxRecDepth 100000 in
theorem w_X9_sizeOf (C : Cx p s m args meth c cX9_sizeOf 2 RX9 g) (hr : meth.sig.returnType = (some .int)) {o : Int32} {w0 : Nat} {a1 : Int32} (hw0 : w0 < 16) {S : sT} {H : Heap} {locs : List Loc} {ls : Array Slot} (hH : Hp g s S H locs) (hl : lv_has ls 2 [(0, .ref (gad g 9 w0)), (1, .int a1)]) (h : f_X9_sizeOf w0 a1 S = some o) : W p l e (rmL 2) s m args below meth c H locs 0 0 (Qm g below args s (some (.int o)) S) (F0 m 0 ls []) := by
  obtain ⟨hx, hb, hml, hown, hts, hlk, hK⟩ := id C
  unfold f_X9_sizeOf at h
  refine lv_aload_n hx hb dX9_sizeOf_0 rfl (lv_at hl 0 rfl) ?_
  refine lv_iload_n hx hb dX9_sizeOf_1 rfl (lv_at hl 1 rfl) ?_
  obtain ⟨r2, hc1, h⟩ := bn_e h
  refine r_callV1 (ki := 9) (i := w0) (ci := 8) (As := [.int a1]) C hl.1 hH (c_X9_has l g hw0 hc1) q201 q80 q198 q199 q200 nd_X9_has rfl (by decide) ⟨Nat.zero_le _, Nat.zero_le _⟩ (by decide) hw0 ⟨_, rfl⟩ rfl (Nat.le_of_ble_eq_true rfl) dX9_sizeOf_2 (fun H locs hH => ?_)
  refine lv_if_eq (tgt := 17) hx hb dX9_sizeOf_5 (by decide) (fun c4 => ?_) (fun c4 => ?_)
  · replace h := if_t h c4
    refine lv_iconst (v := (0 : Int32)) hx hb dX9_sizeOf_17 (by decide) ?_
    exact E_intc C hr hH h dX9_sizeOf_18
  · replace h := if_f h c4
    refine lv_aload_n hx hb dX9_sizeOf_8 rfl (lv_at hl 0 rfl) ?_
    refine gf_X9_15 C hH hw0 dX9_sizeOf_9 ?_
    refine lv_iload_n hx hb dX9_sizeOf_12 rfl (lv_at hl 1 rfl) ?_
    obtain ⟨hv3, h⟩ := ck_e h
    refine r_ald C hH ka_30 (by decide) hw0 (vi_in hv3) dX9_sizeOf_13 ?_
    refine lv_goto (tgt := 18) hx hb dX9_sizeOf_14 (by decide) ?_
    exact E_intc C hr hH h dX9_sizeOf_18
theorem c_X9_sizeOf (l : Launch) (g : gT) {w0 : Nat} {a1 : Int32} (hw0 : w0 < 16) {S : sT} {r : Int32} (h : f_X9_sizeOf w0 a1 S = some r) : MF l yX9_sizeOf cX9_sizeOf 2 (some .int) 2 g [.ref (gad g 9 w0), .int a1] S (some (.int r)) S := by
  refine MF.of (own := RX9) rfl rfl (Nat.le_of_ble_eq_true rfl) ?_
  intro p e s m below meth c C hr hH ls hl
  exact w_X9_sizeOf C hr (o := r) hw0 hH hl h
theorem nd_X9_stoneAt : yX9_stoneAt.cls ≠ "java/lang/invoke/MethodHandle" ∧ yX9_stoneAt.cls ≠ "java/lang/invoke/VarHandle" ∧ (parseMethodDescriptor yX9_stoneAt.desc).map (fun d => d.parameters.length) = some 2 := by decide +kernel
def f_X9_stoneAt (w0 : Nat) (a1 : Int32) (a2 : Int32) (S : sT) : Option (Int32) :=
 (if a2 < (0 : Int32) then
 some (-1 : Int32)
 else
 bn (f_X9_sizeOf w0 a1 S) (fun r2 =>
 (if r2 ≤ a2 then
 some (-1 : Int32)
 else
 (if (8 : Int32) ≤ a2 then
 some (-1 : Int32)
 else
 ck (vi ((a1 * (8 : Int32)) + a2) 64) (
 some (S.1 29 w0 (cl ((a1 * (8 : Int32)) + a2))))))))
set_option maxHeartbeats 4000000 in
set_option maxRecDepth 100000 in
theorem w_X9_stoneAt (C : Cx p s m args meth c cX9_stoneAt 3 RX9 g) (hr : meth.sig.returnType = (some .int)) {o : Int32} {w0 : Nat} {a1 : Int32} {a2 : Int32} (hw0 : w0 < 16) {S : sT} {H : Heap} {locs : List Loc} {ls : Array Slot} (hH : Hp g s S H locs) (hl : lv_has ls 3 [(0, .ref (gad g 9 w0)), (1, .int a1), (2, .int a2)]) (h : f_X9_stoneAt w0 a1 a2 S = some o) : W p l e (rmL 3) s m args below meth c H locs 0 0 (Qm g below args s (some (.int o)) S) (F0 m 0 ls []) := by
  obtain ⟨hx, hb, hml, hown, hts, hlk, hK⟩ := id C
  unfold f_X9_stoneAt at h
  refine lv_iload_n hx hb dX9_stoneAt_0 rfl (lv_at hl 2 rfl) ?_
  refine lv_if_lt (tgt := 33) hx hb dX9_stoneAt_1 (by decide) (fun c6 => ?_) (fun c6 => ?_)
  · replace h := if_t h c6
    refine lv_iconst (v := (-1 : Int32)) hx hb dX9_stoneAt_33 (by decide) ?_
    exact E_intc C hr hH h dX9_stoneAt_34
  · replace h := if_f h c6
    refine lv_iload_n hx hb dX9_stoneAt_4 rfl (lv_at hl 2 rfl) ?_
    refine lv_aload_n hx hb dX9_stoneAt_5 rfl (lv_at hl 0 rfl) ?_
    refine lv_iload_n hx hb dX9_stoneAt_6 rfl (lv_at hl 1 rfl) ?_
    obtain ⟨r2, hc1, h⟩ := bn_e h
    refine r_callV1 (ki := 9) (i := w0) (ci := 8) (As := [.int a1]) C hl.1 hH (c_X9_sizeOf l g hw0 hc1) q484 q80 q489 q482 q483 nd_X9_sizeOf rfl (by decide) ⟨Nat.zero_le _, Nat.zero_le _⟩ (by decide) hw0 ⟨_, rfl⟩ rfl (Nat.le_of_ble_eq_true rfl) dX9_stoneAt_7 (fun H locs hH => ?_)
    refine lv_icmp_ge (tgt := 33) hx hb dX9_stoneAt_10 (by decide) (fun c5 => ?_) (fun c5 => ?_)
    · replace h := if_t h c5
      refine lv_iconst (v := (-1 : Int32)) hx hb dX9_stoneAt_33 (by decide) ?_
      exact E_intc C hr hH h dX9_stoneAt_34
    · replace h := if_f h c5
      refine lv_iload_n hx hb dX9_stoneAt_13 rfl (lv_at hl 2 rfl) ?_
      refine lv_bipush (v := (8 : Int32)) hx hb dX9_stoneAt_14 (by decide) ?_
      refine lv_icmp_ge (tgt := 33) hx hb dX9_stoneAt_16 (by decide) (fun c4 => ?_) (fun c4 => ?_)
      · replace h := if_t h c4
        refine lv_iconst (v := (-1 : Int32)) hx hb dX9_stoneAt_33 (by decide) ?_
        exact E_intc C hr hH h dX9_stoneAt_34
      · replace h := if_f h c4
        refine lv_aload_n hx hb dX9_stoneAt_19 rfl (lv_at hl 0 rfl) ?_
        refine gf_X9_9 C hH hw0 dX9_stoneAt_20 ?_
        refine lv_iload_n hx hb dX9_stoneAt_23 rfl (lv_at hl 1 rfl) ?_
        refine lv_bipush (v := (8 : Int32)) hx hb dX9_stoneAt_24 (by decide) ?_
        refine lv_imul hx hb dX9_stoneAt_26 ?_
        refine lv_iload_n hx hb dX9_stoneAt_27 rfl (lv_at hl 2 rfl) ?_
        refine lv_iadd hx hb dX9_stoneAt_28 ?_
        obtain ⟨hv3, h⟩ := ck_e h
        refine r_ald C hH ka_29 (by decide) hw0 (vi_in hv3) dX9_stoneAt_29 ?_
        refine lv_goto (tgt := 34) hx hb dX9_stoneAt_30 (by decide) ?_
        exact E_intc C hr hH h dX9_stoneAt_34
theorem c_X9_stoneAt (l : Launch) (g : gT) {w0 : Nat} {a1 : Int32} {a2 : Int32} (hw0 : w0 < 16) {S : sT} {r : Int32} (h : f_X9_stoneAt w0 a1 a2 S = some r) : MF l yX9_stoneAt cX9_stoneAt 3 (some .int) 3 g [.ref (gad g 9 w0), .int a1, .int a2] S (some (.int r)) S := by
  refine MF.of (own := RX9) rfl rfl (Nat.le_of_ble_eq_true rfl) ?_
  intro p e s m below meth c C hr hH ls hl
  exact w_X9_stoneAt C hr (o := r) hw0 hH hl h
theorem nd_X9_sunny : yX9_sunny.cls ≠ "java/lang/invoke/MethodHandle" ∧ yX9_sunny.cls ≠ "java/lang/invoke/VarHandle" ∧ (parseMethodDescriptor yX9_sunny.desc).map (fun d => d.parameters.length) = some 1 := by decide +kernel
def b_X9_sunny_11 (w0 : Nat) (S : sT) (r2 : Int32) (x3 : Int32) (x4 : Int32) (k5 : Int32 → Int32 → Option (Int32)) : Option (Int32) :=
 (if (S.1 112 w0 0) ≤ x4 then
 some x3
 else
 bn (f_X3_wantsSun x4 S) (fun r7 =>
 jn (fun (x8 : Int32) => lt (x4 + (1 : Int32)) (fun x9 =>
 k5 x8 x9))
 (fun j10 => (if r7 = (0 : Int32) then
 j10 x3
 else
 bn (f_X9_heightOf w0 x4 S) (fun r12 =>
 (if r2 < r12 then
 j10 x3
 else
 lt (x3 + (1 : Int32)) (fun x13 =>
 j10 x13)))))))
def l_X9_sunny_11 (w0 : Nat) (S : sT) (r2 : Int32) : Nat → Int32 → Int32 → Option (Int32)
 | 0, _, _ => none
 | n + 1, x3, x4 => b_X9_sunny_11 w0 S r2 x3 x4 (l_X9_sunny_11 w0 S r2 n)
theorem l_X9_sunny_11_s (w0 : Nat) (S : sT) (r2 : Int32) (n : Nat) (x3 : Int32) (x4 : Int32) : l_X9_sunny_11 w0 S r2 (n + 1) x3 x4 = b_X9_sunny_11 w0 S r2 x3 x4 (l_X9_sunny_11 w0 S r2 n) := rfl
def f_X9_sunny (w0 : Nat) (S : sT) : Option (Int32) :=
 bn (f_X3_value (4 : Int32) S) (fun r2 =>
 l_X9_sunny_11 w0 S r2 FU (0 : Int32) (0 : Int32))
set_option maxHeartbeats 4000000 in
set_option maxRecDepth 100000 in
theorem w_X9_sunny_11 (C : Cx p s m args meth c cX9_sunny 5 RX9 g) (hr : meth.sig.returnType = (some .int)) {o : Int32}  {w0 : Nat} {S : sT} {r2 : Int32} (hw0 : w0 < 16)  : ∀ (n : Nat) (x3 : Int32) (x4 : Int32) (H : Heap) (locs : List Loc) (ls : Array Slot), Hp g s S H locs → lv_has ls 5 [(0, .ref (gad g 9 w0)), (1, .ref (gad g 2 0)), (2, .int r2), (3, .int x3), (4, .int x4)] → l_X9_sunny_11 w0 S r2 n x3 x4 = some o → W p l e (rmL 3) s m args below meth c H locs 0 0 (Qm g below args s (some (.int o)) S) (F0 m 11 ls []) := by
  obtain ⟨hx, hb, hml, hown, hts, hlk, hK⟩ := id C
  intro n
  induction n with
  | zero =>
    intro x3 x4 H locs ls hH hl h
    cases h
  | succ n ih =>
    intro x3 x4 H locs ls hH hl h
    rw [l_X9_sunny_11_s] at h
    unfold b_X9_sunny_11 at h
    refine lv_iload hx hb dX9_sunny_11 (lv_at hl 4 rfl) ?_
    refine lv_aload_n hx hb dX9_sunny_13 rfl (lv_at hl 0 rfl) ?_
    refine gf_X9_24 C hH hw0 dX9_sunny_14 ?_
    refine lv_icmp_ge (tgt := 48) hx hb dX9_sunny_17 (by decide) (fun c16 => ?_) (fun c16 => ?_)
    · replace h := if_t h c16
      refine lv_iload_n hx hb dX9_sunny_48 rfl (lv_at hl 3 rfl) ?_
      exact E_intc C hr hH h dX9_sunny_49
    · replace h := if_f h c16
      refine lv_aload_n hx hb dX9_sunny_20 rfl (lv_at hl 1 rfl) ?_
      refine lv_iload hx hb dX9_sunny_21 (lv_at hl 4 rfl) ?_
      obtain ⟨r7, hc6, h⟩ := bn_e h
      refine r_callV1 (ki := 2) (i := 0) (ci := 3) (As := [.int x4]) C hl.1 hH (c_X3_wantsSun l g  hc6) q532 q19 q529 q530 q531 nd_X3_wantsSun rfl (by decide) ⟨Nat.zero_le _, Nat.zero_le _⟩ (by decide) (by decide) ⟨_, rfl⟩ rfl (Nat.le_of_ble_eq_true rfl) dX9_sunny_23 (fun H locs hH => ?_)
      obtain ⟨j10, ej10, h⟩ := jn_e h
      have hj10 : ∀ (x8 : Int32) (H : Heap) (locs : List Loc) (ls : Array Slot), Hp g s S H locs → lv_has ls 5 [(0, .ref (gad g 9 w0)), (1, .ref (gad g 2 0)), (2, .int r2), (3, .int x8), (4, .int x4)] → j10 x8 = some o → W p l e (rmL 3) s m args below meth c H locs 0 0 (Qm g below args s (some (.int o)) S) (F0 m 42 ls []) := by
        intro x8 H locs ls hH hl h
        rw [ej10] at h
        try dsimp only at h
        obtain ⟨x9, ex9⟩ : ∃ z : Int32, z = (x4 + (1 : Int32)) := ⟨_, rfl⟩
        replace h := lt_e h ex9
        refine lv_iinc (v := x9) (lv' := [(4, .int x9), (0, .ref (gad g 9 w0)), (1, .ref (gad g 2 0)), (2, .int r2), (3, .int x8)]) hx hb dX9_sunny_42 hl (k := 4) rfl (by rw [ex9]; rfl) (by decide) rfl (fun ls hl => ?_)
        refine lv_goto (tgt := 11) hx hb dX9_sunny_45 (by decide) ?_
        exact ih _ _ _ _ _ hH (lv_sub hl [1, 2, 3, 4, 0] rfl) h
      clear ej10
      refine lv_if_eq (tgt := 42) hx hb dX9_sunny_26 (by decide) (fun c15 => ?_) (fun c15 => ?_)
      · replace h := if_t h c15
        exact hj10 _ _ _ _ hH (lv_sub hl [0, 1, 2, 3, 4] rfl) h
      · replace h := if_f h c15
        refine lv_aload_n hx hb dX9_sunny_29 rfl (lv_at hl 0 rfl) ?_
        refine lv_iload hx hb dX9_sunny_30 (lv_at hl 4 rfl) ?_
        obtain ⟨r12, hc11, h⟩ := bn_e h
        refine r_callV1 (ki := 9) (i := w0) (ci := 8) (As := [.int x4]) C hl.1 hH (c_X9_heightOf l g hw0 hc11) q402 q80 q523 q400 q401 nd_X9_heightOf rfl (by decide) ⟨Nat.zero_le _, Nat.zero_le _⟩ (by decide) hw0 ⟨_, rfl⟩ rfl (Nat.le_of_ble_eq_true rfl) dX9_sunny_32 (fun H locs hH => ?_)
        refine lv_iload_n hx hb dX9_sunny_35 rfl (lv_at hl 2 rfl) ?_
        refine lv_icmp_gt (tgt := 42) hx hb dX9_sunny_36 (by decide) (fun c14 => ?_) (fun c14 => ?_)
        · replace h := if_t h c14
          exact hj10 _ _ _ _ hH (lv_sub hl [0, 1, 2, 3, 4] rfl) h
        · replace h := if_f h c14
          obtain ⟨x13, ex13⟩ : ∃ z : Int32, z = (x3 + (1 : Int32)) := ⟨_, rfl⟩
          replace h := lt_e h ex13
          refine lv_iinc (v := x13) (lv' := [(3, .int x13), (0, .ref (gad g 9 w0)), (1, .ref (gad g 2 0)), (2, .int r2), (4, .int x4)]) hx hb dX9_sunny_39 hl (k := 3) rfl (by rw [ex13]; rfl) (by decide) rfl (fun ls hl => ?_)
          exact hj10 _ _ _ _ hH (lv_sub hl [1, 2, 3, 0, 4] rfl) h
set_option maxHeartbeats 4000000 in
set_option maxRecDepth 100000 in
theorem w_X9_sunny (C : Cx p s m args meth c cX9_sunny 5 RX9 g) (hr : meth.sig.returnType = (some .int)) {o : Int32} {w0 : Nat} (hw0 : w0 < 16) {S : sT} {H : Heap} {locs : List Loc} {ls : Array Slot} (hH : Hp g s S H locs) (hl : lv_has ls 5 [(0, .ref (gad g 9 w0)), (1, .ref (gad g 2 0))]) (h : f_X9_sunny w0 S = some o) : W p l e (rmL 3) s m args below meth c H locs 0 0 (Qm g below args s (some (.int o)) S) (F0 m 0 ls []) := by
  obtain ⟨hx, hb, hml, hown, hts, hlk, hK⟩ := id C
  unfold f_X9_sunny at h
  refine lv_aload_n hx hb dX9_sunny_0 rfl (lv_at hl 1 rfl) ?_
  refine lv_iconst (v := (4 : Int32)) hx hb dX9_sunny_1 (by decide) ?_
  obtain ⟨r2, hc1, h⟩ := bn_e h
  refine r_callV1 (ki := 2) (i := 0) (ci := 3) (As := [.int (4 : Int32)]) C hl.1 hH (c_X3_value l g  hc1) q270 q19 q512 q268 q269 nd_X3_value rfl (by decide) ⟨Nat.zero_le _, Nat.zero_le _⟩ (by decide) (by decide) ⟨_, rfl⟩ rfl (Nat.le_of_ble_eq_true rfl) dX9_sunny_2 (fun H locs hH => ?_)
  refine lv_istore_n (lv' := [(2, .int r2), (0, .ref (gad g 9 w0)), (1, .ref (gad g 2 0))]) hx hb dX9_sunny_5 rfl hl (by decide) rfl (fun ls hl => ?_)
  refine lv_iconst (v := (0 : Int32)) hx hb dX9_sunny_6 (by decide) ?_
  refine lv_istore_n (lv' := [(3, .int (0 : Int32)), (2, .int r2), (0, .ref (gad g 9 w0)), (1, .ref (gad g 2 0))]) hx hb dX9_sunny_7 rfl hl (by decide) rfl (fun ls hl => ?_)
  refine lv_iconst (v := (0 : Int32)) hx hb dX9_sunny_8 (by decide) ?_
  refine lv_istore (lv' := [(4, .int (0 : Int32)), (3, .int (0 : Int32)), (2, .int r2), (0, .ref (gad g 9 w0)), (1, .ref (gad g 2 0))]) hx hb dX9_sunny_9 hl (by decide) rfl (fun ls hl => ?_)
  exact w_X9_sunny_11 C hr hw0  _ _ _ _ _ _ hH (lv_sub hl [3, 4, 2, 1, 0] rfl) h
theorem c_X9_sunny (l : Launch) (g : gT) {w0 : Nat} (hw0 : w0 < 16) {S : sT} {r : Int32} (h : f_X9_sunny w0 S = some r) : MF l yX9_sunny cX9_sunny 5 (some .int) 3 g [.ref (gad g 9 w0), .ref (gad g 2 0)] S (some (.int r)) S := by
  refine MF.of (own := RX9) rfl rfl (Nat.le_of_ble_eq_true rfl) ?_
  intro p e s m below meth c C hr hH ls hl
  exact w_X9_sunny C hr (o := r) hw0 hH hl h
theorem nd_X9_isWeak : yX9_isWeak.cls ≠ "java/lang/invoke/MethodHandle" ∧ yX9_isWeak.cls ≠ "java/lang/invoke/VarHandle" ∧ (parseMethodDescriptor yX9_isWeak.desc).map (fun d => d.parameters.length) = some 3 := by decide +kernel
def f_X9_isWeak (w0 : Nat) (a1 : Int32) (a2 : Int32) (a3 : Int32) (S : sT) : Option (Int32) :=
 bn (f_X9_heightOf w0 (a1 - (1 : Int32)) S) (fun r2 =>
 bn (f_X9_heightOf w0 (a1 + (1 : Int32)) S) (fun r4 =>
 lt (if r2 < r4 then r4 else r2) (fun x5 =>
 bn (f_X9_heightOf w0 a1 S) (fun r7 =>
 jn (some (1 : Int32))
 (fun j8 => (if a2 < (r7 - x5) then
 j8
 else
 bn (f_X9_leanOf w0 a1 S) (fun r10 =>
 (if (if 0 ≤ r10 then r10 else 0 - r10) ≤ a3 then
 some (0 : Int32)
 else
 j8))))))))
set_option maxHeartbeats 4000000 in
set_option maxRecDepth 100000 in
theorem w_X9_isWeak (C : Cx p s m args meth c cX9_isWeak 5 RX9 g) (hr : meth.sig.returnType = (some .boolean)) {o : Int32} {w0 : Nat} {a1 : Int32} {a2 : Int32} {a3 : Int32} (hw0 : w0 < 16) {S : sT} {H : Heap} {locs : List Loc} {ls : Array Slot} (hH : Hp g s S H locs) (hl : lv_has ls 5 [(0, .ref (gad g 9 w0)), (1, .int a1), (2, .int a2), (3, .int a3)]) (h : f_X9_isWeak w0 a1 a2 a3 S = some o) : W p l e (rmL 2) s m args below meth c H locs 0 0 (Qm g below args s (some (.int o)) S) (F0 m 0 ls []) := by
  obtain ⟨hx, hb, hml, hown, hts, hlk, hK⟩ := id C
  unfold f_X9_isWeak at h
  refine lv_aload_n hx hb dX9_isWeak_0 rfl (lv_at hl 0 rfl) ?_
  refine lv_iload_n hx hb dX9_isWeak_1 rfl (lv_at hl 1 rfl) ?_
  refine lv_iconst (v := (1 : Int32)) hx hb dX9_isWeak_2 (by decide) ?_
  refine lv_isub hx hb dX9_isWeak_3 ?_
  obtain ⟨r2, hc1, h⟩ := bn_e h
  refine r_callV1 (ki := 9) (i := w0) (ci := 8) (As := [.int (a1 - (1 : Int32))]) C hl.1 hH (c_X9_heightOf l g hw0 hc1) q402 q80 q523 q400 q401 nd_X9_heightOf rfl (by decide) ⟨Nat.zero_le _, Nat.zero_le _⟩ (by decide) hw0 ⟨_, rfl⟩ rfl (Nat.le_of_ble_eq_true rfl) dX9_isWeak_4 (fun H locs hH => ?_)
  refine lv_aload_n hx hb dX9_isWeak_7 rfl (lv_at hl 0 rfl) ?_
  refine lv_iload_n hx hb dX9_isWeak_8 rfl (lv_at hl 1 rfl) ?_
  refine lv_iconst (v := (1 : Int32)) hx hb dX9_isWeak_9 (by decide) ?_
  refine lv_iadd hx hb dX9_isWeak_10 ?_
  obtain ⟨r4, hc3, h⟩ := bn_e h
  refine r_callV1 (ki := 9) (i := w0) (ci := 8) (As := [.int (a1 + (1 : Int32))]) C hl.1 hH (c_X9_heightOf l g hw0 hc3) q402 q80 q523 q400 q401 nd_X9_heightOf rfl (by decide) ⟨Nat.zero_le _, Nat.zero_le _⟩ (by decide) hw0 ⟨_, rfl⟩ rfl (Nat.le_of_ble_eq_true rfl) dX9_isWeak_11 (fun H locs hH => ?_)
  refine va_mmax hx hb (hml.trans hl.1.symm) hown (hts _ q517) (hts _ q518) (hts _ q56) (hts _ q519) (Nat.le_of_ble_eq_true rfl) (Nat.le_of_ble_eq_true rfl) (Nat.zero_le _) (Nat.zero_le _) dX9_isWeak_14 ?_
  refine lv_topi (fun x5 ex5 => ?_)
  replace h := lt_e h ex5
  refine lv_istore (lv' := [(4, .int x5), (0, .ref (gad g 9 w0)), (1, .int a1), (2, .int a2), (3, .int a3)]) hx hb dX9_isWeak_17 hl (by decide) rfl (fun ls hl => ?_)
  refine lv_aload_n hx hb dX9_isWeak_19 rfl (lv_at hl 1 rfl) ?_
  refine lv_iload_n hx hb dX9_isWeak_20 rfl (lv_at hl 2 rfl) ?_
  obtain ⟨r7, hc6, h⟩ := bn_e h
  refine r_callV1 (ki := 9) (i := w0) (ci := 8) (As := [.int a1]) C hl.1 hH (c_X9_heightOf l g hw0 hc6) q402 q80 q523 q400 q401 nd_X9_heightOf rfl (by decide) ⟨Nat.zero_le _, Nat.zero_le _⟩ (by decide) hw0 ⟨_, rfl⟩ rfl (Nat.le_of_ble_eq_true rfl) dX9_isWeak_21 (fun H locs hH => ?_)
  refine lv_iload hx hb dX9_isWeak_24 (lv_at hl 0 rfl) ?_
  refine lv_isub hx hb dX9_isWeak_26 ?_
  refine lv_iload_n hx hb dX9_isWeak_27 rfl (lv_at hl 3 rfl) ?_
  obtain ⟨j8, ej8, h⟩ := jn_e h
  have hj8 : ∀  (H : Heap) (locs : List Loc) (ls : Array Slot), Hp g s S H locs → lv_has ls 5 [] → j8  = some o → W p l e (rmL 2) s m args below meth c H locs 0 0 (Qm g below args s (some (.int o)) S) (F0 m 43 ls []) := by
    intro  H locs ls hH hl h
    rw [ej8] at h
    try dsimp only at h
    refine lv_iconst (v := (1 : Int32)) hx hb dX9_isWeak_43 (by decide) ?_
    refine lv_goto (tgt := 48) hx hb dX9_isWeak_44 (by decide) ?_
    exact E_boolc C hr hH rfl h dX9_isWeak_48
  clear ej8
  refine lv_icmp_gt (tgt := 43) hx hb dX9_isWeak_28 (by decide) (fun c12 => ?_) (fun c12 => ?_)
  · replace h := if_t h c12
    exact hj8 _ _ _ hH (lv_sub hl [] rfl) h
  · replace h := if_f h c12
    refine lv_aload_n hx hb dX9_isWeak_31 rfl (lv_at hl 1 rfl) ?_
    refine lv_iload_n hx hb dX9_isWeak_32 rfl (lv_at hl 2 rfl) ?_
    obtain ⟨r10, hc9, h⟩ := bn_e h
    refine r_callV1 (ki := 9) (i := w0) (ci := 8) (As := [.int a1]) C hl.1 hH (c_X9_leanOf l g hw0 hc9) q464 q80 q524 q462 q463 nd_X9_leanOf rfl (by decide) ⟨Nat.zero_le _, Nat.zero_le _⟩ (by decide) hw0 ⟨_, rfl⟩ rfl (Nat.le_of_ble_eq_true rfl) dX9_isWeak_33 (fun H locs hH => ?_)
    refine va_mabs hx hb (hml.trans hl.1.symm) hown (hts _ q520) (hts _ q521) (hts _ q56) (hts _ q522) (Nat.le_of_ble_eq_true rfl) (Nat.le_of_ble_eq_true rfl) (Nat.zero_le _) (Nat.zero_le _) dX9_isWeak_36 ?_
    refine lv_iload_n hx hb dX9_isWeak_39 rfl (lv_at hl 4 rfl) ?_
    refine lv_icmp_le (tgt := 47) hx hb dX9_isWeak_40 (by decide) (fun c11 => ?_) (fun c11 => ?_)
    · replace h := if_t h c11
      refine lv_iconst (v := (0 : Int32)) hx hb dX9_isWeak_47 (by decide) ?_
      exact E_boolc C hr hH rfl h dX9_isWeak_48
    · replace h := if_f h c11
      exact hj8 _ _ _ hH (lv_sub hl [] rfl) h
theorem c_X9_isWeak (l : Launch) (g : gT) {w0 : Nat} {a1 : Int32} {a2 : Int32} {a3 : Int32} (hw0 : w0 < 16) {S : sT} {r : Int32} (h : f_X9_isWeak w0 a1 a2 a3 S = some r) : MF l yX9_isWeak cX9_isWeak 5 (some .boolean) 2 g [.ref (gad g 9 w0), .int a1, .int a2, .int a3] S (some (.int r)) S := by
  refine MF.of (own := RX9) rfl rfl (Nat.le_of_ble_eq_true rfl) ?_
  intro p e s m below meth c C hr hH ls hl
  exact w_X9_isWeak C hr (o := r) hw0 hH hl h
theorem nd_X9_weakBits : yX9_weakBits.cls ≠ "java/lang/invoke/MethodHandle" ∧ yX9_weakBits.cls ≠ "java/lang/invoke/VarHandle" ∧ (parseMethodDescriptor yX9_weakBits.desc).map (fun d => d.parameters.length) = some 1 := by decide +kernel
def b_X9_weakBits_17 (w0 : Nat) (S : sT) (r2 : Int32) (r4 : Int32) (x5 : Int32) (x6 : Int32) (k7 : Int32 → Int32 → Option (Int32)) : Option (Int32) :=
 (if (S.1 112 w0 0) ≤ x6 then
 some x5
 else
 bn (f_X9_isWeak w0 x6 r2 r4 S) (fun r9 =>
 jn (fun (x10 : Int32) => lt (x6 + (1 : Int32)) (fun x11 =>
 k7 x10 x11))
 (fun j12 => (if r9 = (0 : Int32) then
 j12 x5
 else
 lt (x5 ||| ((1 : Int32) <<< (x6 &&& 31))) (fun x13 =>
 j12 x13)))))
def l_X9_weakBits_17 (w0 : Nat) (S : sT) (r2 : Int32) (r4 : Int32) : Nat → Int32 → Int32 → Option (Int32)
 | 0, _, _ => none
 | n + 1, x5, x6 => b_X9_weakBits_17 w0 S r2 r4 x5 x6 (l_X9_weakBits_17 w0 S r2 r4 n)
theorem l_X9_weakBits_17_s (w0 : Nat) (S : sT) (r2 : Int32) (r4 : Int32) (n : Nat) (x5 : Int32) (x6 : Int32) : l_X9_weakBits_17 w0 S r2 r4 (n + 1) x5 x6 = b_X9_weakBits_17 w0 S r2 r4 x5 x6 (l_X9_weakBits_17 w0 S r2 r4 n) := rfl
def f_X9_weakBits (w0 : Nat) (S : sT) : Option (Int32) :=
 bn (f_X3_mostAbove  S) (fun r2 =>
 bn (f_X3_value (3 : Int32) S) (fun r4 =>
 l_X9_weakBits_17 w0 S r2 r4 FU (0 : Int32) (0 : Int32)))
set_option maxHeartbeats 4000000 in
set_option maxRecDepth 100000 in
theorem w_X9_weakBits_17 (C : Cx p s m args meth c cX9_weakBits 6 RX9 g) (hr : meth.sig.returnType = (some .int)) {o : Int32}  {w0 : Nat} {S : sT} {r2 : Int32} {r4 : Int32} (hw0 : w0 < 16)  : ∀ (n : Nat) (x5 : Int32) (x6 : Int32) (H : Heap) (locs : List Loc) (ls : Array Slot), Hp g s S H locs → lv_has ls 6 [(0, .ref (gad g 9 w0)), (2, .int r2), (3, .int r4), (4, .int x5), (5, .int x6)] → l_X9_weakBits_17 w0 S r2 r4 n x5 x6 = some o → W p l e (rmL 3) s m args below meth c H locs 0 0 (Qm g below args s (some (.int o)) S) (F0 m 17 ls []) := by
  obtain ⟨hx, hb, hml, hown, hts, hlk, hK⟩ := id C
  intro n
  induction n with
  | zero =>
    intro x5 x6 H locs ls hH hl h
    cases h
  | succ n ih =>
    intro x5 x6 H locs ls hH hl h
    rw [l_X9_weakBits_17_s] at h
    unfold b_X9_weakBits_17 at h
    refine lv_iload hx hb dX9_weakBits_17 (lv_at hl 4 rfl) ?_
    refine lv_aload_n hx hb dX9_weakBits_19 rfl (lv_at hl 0 rfl) ?_
    refine gf_X9_24 C hH hw0 dX9_weakBits_20 ?_
    refine lv_icmp_ge (tgt := 52) hx hb dX9_weakBits_23 (by decide) (fun c15 => ?_) (fun c15 => ?_)
    · replace h := if_t h c15
      refine lv_iload hx hb dX9_weakBits_52 (lv_at hl 3 rfl) ?_
      exact E_intc C hr hH h dX9_weakBits_54
    · replace h := if_f h c15
      refine lv_aload_n hx hb dX9_weakBits_26 rfl (lv_at hl 0 rfl) ?_
      refine lv_iload hx hb dX9_weakBits_27 (lv_at hl 4 rfl) ?_
      refine lv_iload_n hx hb dX9_weakBits_29 rfl (lv_at hl 1 rfl) ?_
      refine lv_iload_n hx hb dX9_weakBits_30 rfl (lv_at hl 2 rfl) ?_
      obtain ⟨r9, hc8, h⟩ := bn_e h
      refine r_callV1 (ki := 9) (i := w0) (ci := 8) (As := [.int x6, .int r2, .int r4]) C hl.1 hH (c_X9_isWeak l g hw0 hc8) q516 q80 q513 q514 q515 nd_X9_isWeak rfl (by decide) ⟨Nat.zero_le _, Nat.zero_le _⟩ (by decide) hw0 ⟨_, rfl⟩ rfl (Nat.le_of_ble_eq_true rfl) dX9_weakBits_31 (fun H locs hH => ?_)
      obtain ⟨j12, ej12, h⟩ := jn_e h
      have hj12 : ∀ (x10 : Int32) (H : Heap) (locs : List Loc) (ls : Array Slot), Hp g s S H locs → lv_has ls 6 [(0, .ref (gad g 9 w0)), (2, .int r2), (3, .int r4), (4, .int x10), (5, .int x6)] → j12 x10 = some o → W p l e (rmL 3) s m args below meth c H locs 0 0 (Qm g below args s (some (.int o)) S) (F0 m 46 ls []) := by
        intro x10 H locs ls hH hl h
        rw [ej12] at h
        try dsimp only at h
        obtain ⟨x11, ex11⟩ : ∃ z : Int32, z = (x6 + (1 : Int32)) := ⟨_, rfl⟩
        replace h := lt_e h ex11
        refine lv_iinc (v := x11) (lv' := [(5, .int x11), (0, .ref (gad g 9 w0)), (2, .int r2), (3, .int r4), (4, .int x10)]) hx hb dX9_weakBits_46 hl (k := 4) rfl (by rw [ex11]; rfl) (by decide) rfl (fun ls hl => ?_)
        refine lv_goto (tgt := 17) hx hb dX9_weakBits_49 (by decide) ?_
        exact ih _ _ _ _ _ hH (lv_sub hl [1, 2, 3, 4, 0] rfl) h
      clear ej12
      refine lv_if_eq (tgt := 46) hx hb dX9_weakBits_34 (by decide) (fun c14 => ?_) (fun c14 => ?_)
      · replace h := if_t h c14
        exact hj12 _ _ _ _ hH (lv_sub hl [0, 1, 2, 3, 4] rfl) h
      · replace h := if_f h c14
        refine lv_iload hx hb dX9_weakBits_37 (lv_at hl 3 rfl) ?_
        refine lv_iconst (v := (1 : Int32)) hx hb dX9_weakBits_39 (by decide) ?_
        refine lv_iload hx hb dX9_weakBits_40 (lv_at hl 4 rfl) ?_
        refine lv_ishl hx hb dX9_weakBits_42 ?_
        refine lv_ior hx hb dX9_weakBits_43 ?_
        refine lv_topi (fun x13 ex13 => ?_)
        replace h := lt_e h ex13
        refine lv_istore (lv' := [(4, .int x13), (0, .ref (gad g 9 w0)), (2, .int r2), (3, .int r4), (5, .int x6)]) hx hb dX9_weakBits_44 hl (by decide) rfl (fun ls hl => ?_)
        exact hj12 _ _ _ _ hH (lv_sub hl [1, 2, 3, 0, 4] rfl) h
set_option maxHeartbeats 4000000 in
set_option maxRecDepth 100000 in
theorem w_X9_weakBits (C : Cx p s m args meth c cX9_weakBits 6 RX9 g) (hr : meth.sig.returnType = (some .int)) {o : Int32} {w0 : Nat} (hw0 : w0 < 16) {S : sT} {H : Heap} {locs : List Loc} {ls : Array Slot} (hH : Hp g s S H locs) (hl : lv_has ls 6 [(0, .ref (gad g 9 w0)), (1, .ref (gad g 2 0))]) (h : f_X9_weakBits w0 S = some o) : W p l e (rmL 3) s m args below meth c H locs 0 0 (Qm g below args s (some (.int o)) S) (F0 m 0 ls []) := by
  obtain ⟨hx, hb, hml, hown, hts, hlk, hK⟩ := id C
  unfold f_X9_weakBits at h
  refine lv_aload_n hx hb dX9_weakBits_0 rfl (lv_at hl 1 rfl) ?_
  obtain ⟨r2, hc1, h⟩ := bn_e h
  refine r_callV1 (ki := 2) (i := 0) (ci := 3) (As := []) C hl.1 hH (c_X3_mostAbove l g  hc1) q511 q19 q508 q509 q510 nd_X3_mostAbove rfl (by decide) ⟨Nat.zero_le _, Nat.zero_le _⟩ (by decide) (by decide) ⟨_, rfl⟩ rfl (Nat.le_of_ble_eq_true rfl) dX9_weakBits_1 (fun H locs hH => ?_)
  refine lv_istore_n (lv' := [(2, .int r2), (0, .ref (gad g 9 w0)), (1, .ref (gad g 2 0))]) hx hb dX9_weakBits_4 rfl hl (by decide) rfl (fun ls hl => ?_)
  refine lv_aload_n hx hb dX9_weakBits_5 rfl (lv_at hl 2 rfl) ?_
  refine lv_iconst (v := (3 : Int32)) hx hb dX9_weakBits_6 (by decide) ?_
  obtain ⟨r4, hc3, h⟩ := bn_e h
  refine r_callV1 (ki := 2) (i := 0) (ci := 3) (As := [.int (3 : Int32)]) C hl.1 hH (c_X3_value l g  hc3) q270 q19 q512 q268 q269 nd_X3_value rfl (by decide) ⟨Nat.zero_le _, Nat.zero_le _⟩ (by decide) (by decide) ⟨_, rfl⟩ rfl (Nat.le_of_ble_eq_true rfl) dX9_weakBits_7 (fun H locs hH => ?_)
  refine lv_istore_n (lv' := [(3, .int r4), (2, .int r2), (0, .ref (gad g 9 w0)), (1, .ref (gad g 2 0))]) hx hb dX9_weakBits_10 rfl hl (by decide) rfl (fun ls hl => ?_)
  refine lv_iconst (v := (0 : Int32)) hx hb dX9_weakBits_11 (by decide) ?_
  refine lv_istore (lv' := [(4, .int (0 : Int32)), (3, .int r4), (2, .int r2), (0, .ref (gad g 9 w0)), (1, .ref (gad g 2 0))]) hx hb dX9_weakBits_12 hl (by decide) rfl (fun ls hl => ?_)
  refine lv_iconst (v := (0 : Int32)) hx hb dX9_weakBits_14 (by decide) ?_
  refine lv_istore (lv' := [(5, .int (0 : Int32)), (4, .int (0 : Int32)), (3, .int r4), (2, .int r2), (0, .ref (gad g 9 w0)), (1, .ref (gad g 2 0))]) hx hb dX9_weakBits_15 hl (by decide) rfl (fun ls hl => ?_)
  exact w_X9_weakBits_17 C hr hw0  _ _ _ _ _ _ hH (lv_sub hl [4, 3, 2, 1, 0] rfl) h
theorem c_X9_weakBits (l : Launch) (g : gT) {w0 : Nat} (hw0 : w0 < 16) {S : sT} {r : Int32} (h : f_X9_weakBits w0 S = some r) : MF l yX9_weakBits cX9_weakBits 6 (some .int) 3 g [.ref (gad g 9 w0), .ref (gad g 2 0)] S (some (.int r)) S := by
  refine MF.of (own := RX9) rfl rfl (Nat.le_of_ble_eq_true rfl) ?_
  intro p e s m below meth c C hr hH ls hl
  exact w_X9_weakBits C hr (o := r) hw0 hH hl h
theorem nd_X9_weightOf : yX9_weightOf.cls ≠ "java/lang/invoke/MethodHandle" ∧ yX9_weightOf.cls ≠ "java/lang/invoke/VarHandle" ∧ (parseMethodDescriptor yX9_weightOf.desc).map (fun d => d.parameters.length) = some 1 := by decide +kernel
def b_X9_weightOf_4 (w0 : Nat) (a1 : Int32) (S : sT) (x1 : Int32) (x2 : Int32) (k3 : Int32 → Int32 → Option (Int32)) : Option (Int32) :=
 (if (S.1 112 w0 0) ≤ x2 then
 some x1
 else
 jn (fun (y4 : Int32) => ck (nz (2 : Int32)) (
 lt (x1 + (y4 / (2 : Int32))) (fun x6 =>
 lt (x2 + (1 : Int32)) (fun x7 =>
 k3 x6 x7))))
 (fun j8 => (if a1 = (0 : Int32) then
 bn (f_X9_heightOf w0 x2 S) (fun r14 =>
 bn (f_X9_leanOf w0 x2 S) (fun r16 =>
 j8 (r14 + r16)))
 else
 bn (f_X9_heightOf w0 x2 S) (fun r10 =>
 bn (f_X9_leanOf w0 x2 S) (fun r12 =>
 j8 (r10 - r12))))))
def l_X9_weightOf_4 (w0 : Nat) (a1 : Int32) (S : sT) : Nat → Int32 → Int32 → Option (Int32)
 | 0, _, _ => none
 | n + 1, x1, x2 => b_X9_weightOf_4 w0 a1 S x1 x2 (l_X9_weightOf_4 w0 a1 S n)
theorem l_X9_weightOf_4_s (w0 : Nat) (a1 : Int32) (S : sT) (n : Nat) (x1 : Int32) (x2 : Int32) : l_X9_weightOf_4 w0 a1 S (n + 1) x1 x2 = b_X9_weightOf_4 w0 a1 S x1 x2 (l_X9_weightOf_4 w0 a1 S n) := rfl
def f_X9_weightOf (w0 : Nat) (a1 : Int32) (S : sT) : Option (Int32) :=
 l_X9_weightOf_4 w0 a1 S FU (0 : Int32) (0 : Int32)
set_option maxHeartbeats 4000000 in
set_option maxRecDepth 100000 in
theorem w_X9_weightOf_4 (C : Cx p s m args meth c cX9_weightOf 5 RX9 g) (hr : meth.sig.returnType = (some .int)) {o : Int32}  {w0 : Nat} {a1 : Int32} {S : sT} (hw0 : w0 < 16)  : ∀ (n : Nat) (x1 : Int32) (x2 : Int32) (H : Heap) (locs : List Loc) (ls : Array Slot), Hp g s S H locs → lv_has ls 5 [(0, .ref (gad g 9 w0)), (1, .int a1), (2, .int x1), (3, .int x2)] → l_X9_weightOf_4 w0 a1 S n x1 x2 = some o → W p l e (rmL 2) s m args below meth c H locs 0 0 (Qm g below args s (some (.int o)) S) (F0 m 4 ls []) := by
  obtain ⟨hx, hb, hml, hown, hts, hlk, hK⟩ := id C
  intro n
  induction n with
  | zero =>
    intro x1 x2 H locs ls hH hl h
    cases h
  | succ n ih =>
    intro x1 x2 H locs ls hH hl h
    rw [l_X9_weightOf_4_s] at h
    unfold b_X9_weightOf_4 at h
    refine lv_iload_n hx hb dX9_weightOf_4 rfl (lv_at hl 3 rfl) ?_
    refine lv_aload_n hx hb dX9_weightOf_5 rfl (lv_at hl 0 rfl) ?_
    refine gf_X9_24 C hH hw0 dX9_weightOf_6 ?_
    refine lv_icmp_ge (tgt := 56) hx hb dX9_weightOf_9 (by decide) (fun c18 => ?_) (fun c18 => ?_)
    · replace h := if_t h c18
      refine lv_iload_n hx hb dX9_weightOf_56 rfl (lv_at hl 2 rfl) ?_
      exact E_intc C hr hH h dX9_weightOf_57
    · replace h := if_f h c18
      refine lv_iload_n hx hb dX9_weightOf_12 rfl (lv_at hl 1 rfl) ?_
      obtain ⟨j8, ej8, h⟩ := jn_e h
      have hj8 : ∀ (y4 : Int32) (H : Heap) (locs : List Loc) (ls : Array Slot), Hp g s S H locs → lv_has ls 5 [(0, .ref (gad g 9 w0)), (1, .int a1), (2, .int x1), (3, .int x2)] → j8 y4 = some o → W p l e (rmL 2) s m args below meth c H locs 0 0 (Qm g below args s (some (.int o)) S) (F0 m 41 ls [.int y4]) := by
        intro y4 H locs ls hH hl h
        rw [ej8] at h
        try dsimp only at h
        refine lv_istore (lv' := [(4, .int y4), (0, .ref (gad g 9 w0)), (1, .int a1), (2, .int x1), (3, .int x2)]) hx hb dX9_weightOf_41 hl (by decide) rfl (fun ls hl => ?_)
        refine lv_iload_n hx hb dX9_weightOf_43 rfl (lv_at hl 3 rfl) ?_
        refine lv_iload hx hb dX9_weightOf_44 (lv_at hl 0 rfl) ?_
        refine lv_iconst (v := (2 : Int32)) hx hb dX9_weightOf_46 (by decide) ?_
        obtain ⟨hv5, h⟩ := ck_e h
        refine lv_idiv hx hb dX9_weightOf_47 (nz_e hv5) ?_
        refine lv_iadd hx hb dX9_weightOf_48 ?_
        refine lv_topi (fun x6 ex6 => ?_)
        replace h := lt_e h ex6
        refine lv_istore_n (lv' := [(2, .int x6), (4, .int y4), (0, .ref (gad g 9 w0)), (1, .int a1), (3, .int x2)]) hx hb dX9_weightOf_49 rfl hl (by decide) rfl (fun ls hl => ?_)
        obtain ⟨x7, ex7⟩ : ∃ z : Int32, z = (x2 + (1 : Int32)) := ⟨_, rfl⟩
        replace h := lt_e h ex7
        refine lv_iinc (v := x7) (lv' := [(3, .int x7), (2, .int x6), (4, .int y4), (0, .ref (gad g 9 w0)), (1, .int a1)]) hx hb dX9_weightOf_50 hl (k := 4) rfl (by rw [ex7]; rfl) (by decide) rfl (fun ls hl => ?_)
        refine lv_goto (tgt := 4) hx hb dX9_weightOf_53 (by decide) ?_
        exact ih _ _ _ _ _ hH (lv_sub hl [3, 4, 1, 0] rfl) h
      clear ej8
      refine lv_if_ne (tgt := 30) hx hb dX9_weightOf_13 (by decide) (fun c17 => ?_) (fun c17 => ?_)
      · replace h := if_f h c17
        refine lv_aload_n hx hb dX9_weightOf_30 rfl (lv_at hl 0 rfl) ?_
        refine lv_iload_n hx hb dX9_weightOf_31 rfl (lv_at hl 3 rfl) ?_
        obtain ⟨r10, hc9, h⟩ := bn_e h
        refine r_callV1 (ki := 9) (i := w0) (ci := 8) (As := [.int x2]) C hl.1 hH (c_X9_heightOf l g hw0 hc9) q402 q80 q523 q400 q401 nd_X9_heightOf rfl (by decide) ⟨Nat.zero_le _, Nat.zero_le _⟩ (by decide) hw0 ⟨_, rfl⟩ rfl (Nat.le_of_ble_eq_true rfl) dX9_weightOf_32 (fun H locs hH => ?_)
        refine lv_aload_n hx hb dX9_weightOf_35 rfl (lv_at hl 0 rfl) ?_
        refine lv_iload_n hx hb dX9_weightOf_36 rfl (lv_at hl 3 rfl) ?_
        obtain ⟨r12, hc11, h⟩ := bn_e h
        refine r_callV1 (ki := 9) (i := w0) (ci := 8) (As := [.int x2]) C hl.1 hH (c_X9_leanOf l g hw0 hc11) q464 q80 q524 q462 q463 nd_X9_leanOf rfl (by decide) ⟨Nat.zero_le _, Nat.zero_le _⟩ (by decide) hw0 ⟨_, rfl⟩ rfl (Nat.le_of_ble_eq_true rfl) dX9_weightOf_37 (fun H locs hH => ?_)
        refine lv_isub hx hb dX9_weightOf_40 ?_
        exact hj8 _ _ _ _ hH (lv_sub hl [0, 1, 2, 3] rfl) h
      · replace h := if_t h c17
        refine lv_aload_n hx hb dX9_weightOf_16 rfl (lv_at hl 0 rfl) ?_
        refine lv_iload_n hx hb dX9_weightOf_17 rfl (lv_at hl 3 rfl) ?_
        obtain ⟨r14, hc13, h⟩ := bn_e h
        refine r_callV1 (ki := 9) (i := w0) (ci := 8) (As := [.int x2]) C hl.1 hH (c_X9_heightOf l g hw0 hc13) q402 q80 q523 q400 q401 nd_X9_heightOf rfl (by decide) ⟨Nat.zero_le _, Nat.zero_le _⟩ (by decide) hw0 ⟨_, rfl⟩ rfl (Nat.le_of_ble_eq_true rfl) dX9_weightOf_18 (fun H locs hH => ?_)
        refine lv_aload_n hx hb dX9_weightOf_21 rfl (lv_at hl 0 rfl) ?_
        refine lv_iload_n hx hb dX9_weightOf_22 rfl (lv_at hl 3 rfl) ?_
        obtain ⟨r16, hc15, h⟩ := bn_e h
        refine r_callV1 (ki := 9) (i := w0) (ci := 8) (As := [.int x2]) C hl.1 hH (c_X9_leanOf l g hw0 hc15) q464 q80 q524 q462 q463 nd_X9_leanOf rfl (by decide) ⟨Nat.zero_le _, Nat.zero_le _⟩ (by decide) hw0 ⟨_, rfl⟩ rfl (Nat.le_of_ble_eq_true rfl) dX9_weightOf_23 (fun H locs hH => ?_)
        refine lv_iadd hx hb dX9_weightOf_26 ?_
        refine lv_goto (tgt := 41) hx hb dX9_weightOf_27 (by decide) ?_
        exact hj8 _ _ _ _ hH (lv_sub hl [0, 1, 2, 3] rfl) h
set_option maxHeartbeats 4000000 in
set_option maxRecDepth 100000 in
theorem w_X9_weightOf (C : Cx p s m args meth c cX9_weightOf 5 RX9 g) (hr : meth.sig.returnType = (some .int)) {o : Int32} {w0 : Nat} {a1 : Int32} (hw0 : w0 < 16) {S : sT} {H : Heap} {locs : List Loc} {ls : Array Slot} (hH : Hp g s S H locs) (hl : lv_has ls 5 [(0, .ref (gad g 9 w0)), (1, .int a1)]) (h : f_X9_weightOf w0 a1 S = some o) : W p l e (rmL 2) s m args below meth c H locs 0 0 (Qm g below args s (some (.int o)) S) (F0 m 0 ls []) := by
  obtain ⟨hx, hb, hml, hown, hts, hlk, hK⟩ := id C
  unfold f_X9_weightOf at h
  refine lv_iconst (v := (0 : Int32)) hx hb dX9_weightOf_0 (by decide) ?_
  refine lv_istore_n (lv' := [(2, .int (0 : Int32)), (0, .ref (gad g 9 w0)), (1, .int a1)]) hx hb dX9_weightOf_1 rfl hl (by decide) rfl (fun ls hl => ?_)
  refine lv_iconst (v := (0 : Int32)) hx hb dX9_weightOf_2 (by decide) ?_
  refine lv_istore_n (lv' := [(3, .int (0 : Int32)), (2, .int (0 : Int32)), (0, .ref (gad g 9 w0)), (1, .int a1)]) hx hb dX9_weightOf_3 rfl hl (by decide) rfl (fun ls hl => ?_)
  exact w_X9_weightOf_4 C hr hw0  _ _ _ _ _ _ hH (lv_sub hl [2, 3, 1, 0] rfl) h
theorem c_X9_weightOf (l : Launch) (g : gT) {w0 : Nat} {a1 : Int32} (hw0 : w0 < 16) {S : sT} {r : Int32} (h : f_X9_weightOf w0 a1 S = some r) : MF l yX9_weightOf cX9_weightOf 5 (some .int) 2 g [.ref (gad g 9 w0), .int a1] S (some (.int r)) S := by
  refine MF.of (own := RX9) rfl rfl (Nat.le_of_ble_eq_true rfl) ?_
  intro p e s m below meth c C hr hH ls hl
  exact w_X9_weightOf C hr (o := r) hw0 hH hl h
theorem nd_X9_highestColumn : yX9_highestColumn.cls ≠ "java/lang/invoke/MethodHandle" ∧ yX9_highestColumn.cls ≠ "java/lang/invoke/VarHandle" ∧ (parseMethodDescriptor yX9_highestColumn.desc).map (fun d => d.parameters.length) = some 0 := by decide +kernel
def b_X9_highestColumn_15 (w0 : Nat) (S : sT) (x2 : Int32) (x3 : Int32) (k4 : Int32 → Int32 → Option (Int32)) : Option (Int32) :=
 (if (S.1 112 w0 0) ≤ x3 then
 some x2
 else
 bn (f_X9_heightOf w0 x3 S) (fun r6 =>
 bn (f_X9_heightOf w0 x2 S) (fun r8 =>
 jn (fun (x9 : Int32) => lt (x3 + (1 : Int32)) (fun x10 =>
 k4 x9 x10))
 (fun j11 => (if r6 ≤ r8 then
 j11 x2
 else
 j11 x3)))))
def l_X9_highestColumn_15 (w0 : Nat) (S : sT) : Nat → Int32 → Int32 → Option (Int32)
 | 0, _, _ => none
 | n + 1, x2, x3 => b_X9_highestColumn_15 w0 S x2 x3 (l_X9_highestColumn_15 w0 S n)
theorem l_X9_highestColumn_15_s (w0 : Nat) (S : sT) (n : Nat) (x2 : Int32) (x3 : Int32) : l_X9_highestColumn_15 w0 S (n + 1) x2 x3 = b_X9_highestColumn_15 w0 S x2 x3 (l_X9_highestColumn_15 w0 S n) := rfl
def f_X9_highestColumn (w0 : Nat) (S : sT) : Option (Int32) :=
 jn (fun (y1 : Int32) => l_X9_highestColumn_15 w0 S FU y1 (1 : Int32))
 (fun j14 => (if (S.1 112 w0 0) ≤ (0 : Int32) then
 j14 (-1 : Int32)
 else
 j14 (0 : Int32)))
set_option maxHeartbeats 4000000 in
set_option maxRecDepth 100000 in
theorem w_X9_highestColumn_15 (C : Cx p s m args meth c cX9_highestColumn 3 RX9 g) (hr : meth.sig.returnType = (some .int)) {o : Int32}  {w0 : Nat} {S : sT} (hw0 : w0 < 16)  : ∀ (n : Nat) (x2 : Int32) (x3 : Int32) (H : Heap) (locs : List Loc) (ls : Array Slot), Hp g s S H locs → lv_has ls 3 [(0, .ref (gad g 9 w0)), (1, .int x2), (2, .int x3)] → l_X9_highestColumn_15 w0 S n x2 x3 = some o → W p l e (rmL 2) s m args below meth c H locs 0 0 (Qm g below args s (some (.int o)) S) (F0 m 15 ls []) := by
  obtain ⟨hx, hb, hml, hown, hts, hlk, hK⟩ := id C
  intro n
  induction n with
  | zero =>
    intro x2 x3 H locs ls hH hl h
    cases h
  | succ n ih =>
    intro x2 x3 H locs ls hH hl h
    rw [l_X9_highestColumn_15_s] at h
    unfold b_X9_highestColumn_15 at h
    refine lv_iload_n hx hb dX9_highestColumn_15 rfl (lv_at hl 2 rfl) ?_
    refine lv_aload_n hx hb dX9_highestColumn_16 rfl (lv_at hl 0 rfl) ?_
    refine gf_X9_24 C hH hw0 dX9_highestColumn_17 ?_
    refine lv_icmp_ge (tgt := 44) hx hb dX9_highestColumn_20 (by decide) (fun c13 => ?_) (fun c13 => ?_)
    · replace h := if_t h c13
      refine lv_iload_n hx hb dX9_highestColumn_44 rfl (lv_at hl 1 rfl) ?_
      exact E_intc C hr hH h dX9_highestColumn_45
    · replace h := if_f h c13
      refine lv_aload_n hx hb dX9_highestColumn_23 rfl (lv_at hl 0 rfl) ?_
      refine lv_iload_n hx hb dX9_highestColumn_24 rfl (lv_at hl 2 rfl) ?_
      obtain ⟨r6, hc5, h⟩ := bn_e h
      refine r_callV1 (ki := 9) (i := w0) (ci := 8) (As := [.int x3]) C hl.1 hH (c_X9_heightOf l g hw0 hc5) q402 q80 q523 q400 q401 nd_X9_heightOf rfl (by decide) ⟨Nat.zero_le _, Nat.zero_le _⟩ (by decide) hw0 ⟨_, rfl⟩ rfl (Nat.le_of_ble_eq_true rfl) dX9_highestColumn_25 (fun H locs hH => ?_)
      refine lv_aload_n hx hb dX9_highestColumn_28 rfl (lv_at hl 0 rfl) ?_
      refine lv_iload_n hx hb dX9_highestColumn_29 rfl (lv_at hl 1 rfl) ?_
      obtain ⟨r8, hc7, h⟩ := bn_e h
      refine r_callV1 (ki := 9) (i := w0) (ci := 8) (As := [.int x2]) C hl.1 hH (c_X9_heightOf l g hw0 hc7) q402 q80 q523 q400 q401 nd_X9_heightOf rfl (by decide) ⟨Nat.zero_le _, Nat.zero_le _⟩ (by decide) hw0 ⟨_, rfl⟩ rfl (Nat.le_of_ble_eq_true rfl) dX9_highestColumn_30 (fun H locs hH => ?_)
      obtain ⟨j11, ej11, h⟩ := jn_e h
      have hj11 : ∀ (x9 : Int32) (H : Heap) (locs : List Loc) (ls : Array Slot), Hp g s S H locs → lv_has ls 3 [(0, .ref (gad g 9 w0)), (1, .int x9), (2, .int x3)] → j11 x9 = some o → W p l e (rmL 2) s m args below meth c H locs 0 0 (Qm g below args s (some (.int o)) S) (F0 m 38 ls []) := by
        intro x9 H locs ls hH hl h
        rw [ej11] at h
        try dsimp only at h
        obtain ⟨x10, ex10⟩ : ∃ z : Int32, z = (x3 + (1 : Int32)) := ⟨_, rfl⟩
        replace h := lt_e h ex10
        refine lv_iinc (v := x10) (lv' := [(2, .int x10), (0, .ref (gad g 9 w0)), (1, .int x9)]) hx hb dX9_highestColumn_38 hl (k := 2) rfl (by rw [ex10]; rfl) (by decide) rfl (fun ls hl => ?_)
        refine lv_goto (tgt := 15) hx hb dX9_highestColumn_41 (by decide) ?_
        exact ih _ _ _ _ _ hH (lv_sub hl [1, 2, 0] rfl) h
      clear ej11
      refine lv_icmp_le (tgt := 38) hx hb dX9_highestColumn_33 (by decide) (fun c12 => ?_) (fun c12 => ?_)
      · replace h := if_t h c12
        exact hj11 _ _ _ _ hH (lv_sub hl [0, 1, 2] rfl) h
      · replace h := if_f h c12
        refine lv_iload_n hx hb dX9_highestColumn_36 rfl (lv_at hl 2 rfl) ?_
        refine lv_istore_n (lv' := [(1, .int x3), (0, .ref (gad g 9 w0)), (2, .int x3)]) hx hb dX9_highestColumn_37 rfl hl (by decide) rfl (fun ls hl => ?_)
        exact hj11 _ _ _ _ hH (lv_sub hl [1, 0, 2] rfl) h
set_option maxHeartbeats 4000000 in
set_option maxRecDepth 100000 in
theorem w_X9_highestColumn (C : Cx p s m args meth c cX9_highestColumn 3 RX9 g) (hr : meth.sig.returnType = (some .int)) {o : Int32} {w0 : Nat} (hw0 : w0 < 16) {S : sT} {H : Heap} {locs : List Loc} {ls : Array Slot} (hH : Hp g s S H locs) (hl : lv_has ls 3 [(0, .ref (gad g 9 w0))]) (h : f_X9_highestColumn w0 S = some o) : W p l e (rmL 2) s m args below meth c H locs 0 0 (Qm g below args s (some (.int o)) S) (F0 m 0 ls []) := by
  obtain ⟨hx, hb, hml, hown, hts, hlk, hK⟩ := id C
  unfold f_X9_highestColumn at h
  refine lv_aload_n hx hb dX9_highestColumn_0 rfl (lv_at hl 0 rfl) ?_
  refine gf_X9_24 C hH hw0 dX9_highestColumn_1 ?_
  obtain ⟨j14, ej14, h⟩ := jn_e h
  have hj14 : ∀ (y1 : Int32) (H : Heap) (locs : List Loc) (ls : Array Slot), Hp g s S H locs → lv_has ls 3 [(0, .ref (gad g 9 w0))] → j14 y1 = some o → W p l e (rmL 2) s m args below meth c H locs 0 0 (Qm g below args s (some (.int o)) S) (F0 m 12 ls [.int y1]) := by
    intro y1 H locs ls hH hl h
    rw [ej14] at h
    try dsimp only at h
    refine lv_istore_n (lv' := [(1, .int y1), (0, .ref (gad g 9 w0))]) hx hb dX9_highestColumn_12 rfl hl (by decide) rfl (fun ls hl => ?_)
    refine lv_iconst (v := (1 : Int32)) hx hb dX9_highestColumn_13 (by decide) ?_
    refine lv_istore_n (lv' := [(2, .int (1 : Int32)), (1, .int y1), (0, .ref (gad g 9 w0))]) hx hb dX9_highestColumn_14 rfl hl (by decide) rfl (fun ls hl => ?_)
    exact w_X9_highestColumn_15 C hr hw0  _ _ _ _ _ _ hH (lv_sub hl [2, 1, 0] rfl) h
  clear ej14
  refine lv_if_le (tgt := 11) hx hb dX9_highestColumn_4 (by decide) (fun c15 => ?_) (fun c15 => ?_)
  · replace h := if_t h c15
    refine lv_iconst (v := (-1 : Int32)) hx hb dX9_highestColumn_11 (by decide) ?_
    exact hj14 _ _ _ _ hH (lv_sub hl [0] rfl) h
  · replace h := if_f h c15
    refine lv_iconst (v := (0 : Int32)) hx hb dX9_highestColumn_7 (by decide) ?_
    refine lv_goto (tgt := 12) hx hb dX9_highestColumn_8 (by decide) ?_
    exact hj14 _ _ _ _ hH (lv_sub hl [0] rfl) h
theorem c_X9_highestColumn (l : Launch) (g : gT) {w0 : Nat} (hw0 : w0 < 16) {S : sT} {r : Int32} (h : f_X9_highestColumn w0 S = some r) : MF l yX9_highestColumn cX9_highestColumn 3 (some .int) 2 g [.ref (gad g 9 w0)] S (some (.int r)) S := by
  refine MF.of (own := RX9) rfl rfl (Nat.le_of_ble_eq_true rfl) ?_
  intro p e s m below meth c C hr hH ls hl
  exact w_X9_highestColumn C hr (o := r) hw0 hH hl h
theorem nd_X9_stands : yX9_stands.cls ≠ "java/lang/invoke/MethodHandle" ∧ yX9_stands.cls ≠ "java/lang/invoke/VarHandle" ∧ (parseMethodDescriptor yX9_stands.desc).map (fun d => d.parameters.length) = some 1 := by decide +kernel
def b_X9_stands_14 (w0 : Nat) (S : sT) (r2 : Int32) (r4 : Int32) (x5 : Int32) (k6 : Int32 → Option (Int32)) : Option (Int32) :=
 (if (S.1 112 w0 0) ≤ x5 then
 some (1 : Int32)
 else
 bn (f_X9_isWeak w0 x5 r2 r4 S) (fun r8 =>
 (if r8 = (0 : Int32) then
 lt (x5 + (1 : Int32)) (fun x9 =>
 k6 x9)
 else
 some (0 : Int32))))
def l_X9_stands_14 (w0 : Nat) (S : sT) (r2 : Int32) (r4 : Int32) : Nat → Int32 → Option (Int32)
 | 0, _ => none
 | n + 1, x5 => b_X9_stands_14 w0 S r2 r4 x5 (l_X9_stands_14 w0 S r2 r4 n)
theorem l_X9_stands_14_s (w0 : Nat) (S : sT) (r2 : Int32) (r4 : Int32) (n : Nat) (x5 : Int32) : l_X9_stands_14 w0 S r2 r4 (n + 1) x5 = b_X9_stands_14 w0 S r2 r4 x5 (l_X9_stands_14 w0 S r2 r4 n) := rfl
def f_X9_stands (w0 : Nat) (S : sT) : Option (Int32) :=
 bn (f_X3_mostAbove  S) (fun r2 =>
 bn (f_X3_value (3 : Int32) S) (fun r4 =>
 l_X9_stands_14 w0 S r2 r4 FU (0 : Int32)))
set_option maxHeartbeats 4000000 in
set_option maxRecDepth 100000 in
theorem w_X9_stands_14 (C : Cx p s m args meth c cX9_stands 5 RX9 g) (hr : meth.sig.returnType = (some .boolean)) {o : Int32}  {w0 : Nat} {S : sT} {r2 : Int32} {r4 : Int32} (hw0 : w0 < 16)  : ∀ (n : Nat) (x5 : Int32) (H : Heap) (locs : List Loc) (ls : Array Slot), Hp g s S H locs → lv_has ls 5 [(0, .ref (gad g 9 w0)), (2, .int r2), (3, .int r4), (4, .int x5)] → l_X9_stands_14 w0 S r2 r4 n x5 = some o → W p l e (rmL 3) s m args below meth c H locs 0 0 (Qm g below args s (some (.int o)) S) (F0 m 14 ls []) := by
  obtain ⟨hx, hb, hml, hown, hts, hlk, hK⟩ := id C
  intro n
  induction n with
  | zero =>
    intro x5 H locs ls hH hl h
    cases h
  | succ n ih =>
    intro x5 H locs ls hH hl h
    rw [l_X9_stands_14_s] at h
    unfold b_X9_stands_14 at h
    refine lv_iload hx hb dX9_stands_14 (lv_at hl 3 rfl) ?_
    refine lv_aload_n hx hb dX9_stands_16 rfl (lv_at hl 0 rfl) ?_
    refine gf_X9_24 C hH hw0 dX9_stands_17 ?_
    refine lv_icmp_ge (tgt := 42) hx hb dX9_stands_20 (by decide) (fun c11 => ?_) (fun c11 => ?_)
    · replace h := if_t h c11
      refine lv_iconst (v := (1 : Int32)) hx hb dX9_stands_42 (by decide) ?_
      exact E_boolc C hr hH rfl h dX9_stands_43
    · replace h := if_f h c11
      refine lv_aload_n hx hb dX9_stands_23 rfl (lv_at hl 0 rfl) ?_
      refine lv_iload hx hb dX9_stands_24 (lv_at hl 3 rfl) ?_
      refine lv_iload_n hx hb dX9_stands_26 rfl (lv_at hl 1 rfl) ?_
      refine lv_iload_n hx hb dX9_stands_27 rfl (lv_at hl 2 rfl) ?_
      obtain ⟨r8, hc7, h⟩ := bn_e h
      refine r_callV1 (ki := 9) (i := w0) (ci := 8) (As := [.int x5, .int r2, .int r4]) C hl.1 hH (c_X9_isWeak l g hw0 hc7) q516 q80 q513 q514 q515 nd_X9_isWeak rfl (by decide) ⟨Nat.zero_le _, Nat.zero_le _⟩ (by decide) hw0 ⟨_, rfl⟩ rfl (Nat.le_of_ble_eq_true rfl) dX9_stands_28 (fun H locs hH => ?_)
      refine lv_if_eq (tgt := 36) hx hb dX9_stands_31 (by decide) (fun c10 => ?_) (fun c10 => ?_)
      · replace h := if_t h c10
        obtain ⟨x9, ex9⟩ : ∃ z : Int32, z = (x5 + (1 : Int32)) := ⟨_, rfl⟩
        replace h := lt_e h ex9
        refine lv_iinc (v := x9) (lv' := [(4, .int x9), (0, .ref (gad g 9 w0)), (2, .int r2), (3, .int r4)]) hx hb dX9_stands_36 hl (k := 3) rfl (by rw [ex9]; rfl) (by decide) rfl (fun ls hl => ?_)
        refine lv_goto (tgt := 14) hx hb dX9_stands_39 (by decide) ?_
        exact ih _ _ _ _ hH (lv_sub hl [1, 2, 3, 0] rfl) h
      · replace h := if_f h c10
        refine lv_iconst (v := (0 : Int32)) hx hb dX9_stands_34 (by decide) ?_
        exact E_boolc C hr hH rfl h dX9_stands_35
set_option maxHeartbeats 4000000 in
set_option maxRecDepth 100000 in
theorem w_X9_stands (C : Cx p s m args meth c cX9_stands 5 RX9 g) (hr : meth.sig.returnType = (some .boolean)) {o : Int32} {w0 : Nat} (hw0 : w0 < 16) {S : sT} {H : Heap} {locs : List Loc} {ls : Array Slot} (hH : Hp g s S H locs) (hl : lv_has ls 5 [(0, .ref (gad g 9 w0)), (1, .ref (gad g 2 0))]) (h : f_X9_stands w0 S = some o) : W p l e (rmL 3) s m args below meth c H locs 0 0 (Qm g below args s (some (.int o)) S) (F0 m 0 ls []) := by
  obtain ⟨hx, hb, hml, hown, hts, hlk, hK⟩ := id C
  unfold f_X9_stands at h
  refine lv_aload_n hx hb dX9_stands_0 rfl (lv_at hl 1 rfl) ?_
  obtain ⟨r2, hc1, h⟩ := bn_e h
  refine r_callV1 (ki := 2) (i := 0) (ci := 3) (As := []) C hl.1 hH (c_X3_mostAbove l g  hc1) q511 q19 q508 q509 q510 nd_X3_mostAbove rfl (by decide) ⟨Nat.zero_le _, Nat.zero_le _⟩ (by decide) (by decide) ⟨_, rfl⟩ rfl (Nat.le_of_ble_eq_true rfl) dX9_stands_1 (fun H locs hH => ?_)
  refine lv_istore_n (lv' := [(2, .int r2), (0, .ref (gad g 9 w0)), (1, .ref (gad g 2 0))]) hx hb dX9_stands_4 rfl hl (by decide) rfl (fun ls hl => ?_)
  refine lv_aload_n hx hb dX9_stands_5 rfl (lv_at hl 2 rfl) ?_
  refine lv_iconst (v := (3 : Int32)) hx hb dX9_stands_6 (by decide) ?_
  obtain ⟨r4, hc3, h⟩ := bn_e h
  refine r_callV1 (ki := 2) (i := 0) (ci := 3) (As := [.int (3 : Int32)]) C hl.1 hH (c_X3_value l g  hc3) q270 q19 q512 q268 q269 nd_X3_value rfl (by decide) ⟨Nat.zero_le _, Nat.zero_le _⟩ (by decide) (by decide) ⟨_, rfl⟩ rfl (Nat.le_of_ble_eq_true rfl) dX9_stands_7 (fun H locs hH => ?_)
  refine lv_istore_n (lv' := [(3, .int r4), (2, .int r2), (0, .ref (gad g 9 w0)), (1, .ref (gad g 2 0))]) hx hb dX9_stands_10 rfl hl (by decide) rfl (fun ls hl => ?_)
  refine lv_iconst (v := (0 : Int32)) hx hb dX9_stands_11 (by decide) ?_
  refine lv_istore (lv' := [(4, .int (0 : Int32)), (3, .int r4), (2, .int r2), (0, .ref (gad g 9 w0)), (1, .ref (gad g 2 0))]) hx hb dX9_stands_12 hl (by decide) rfl (fun ls hl => ?_)
  exact w_X9_stands_14 C hr hw0  _ _ _ _ _ hH (lv_sub hl [3, 2, 1, 0] rfl) h
theorem c_X9_stands (l : Launch) (g : gT) {w0 : Nat} (hw0 : w0 < 16) {S : sT} {r : Int32} (h : f_X9_stands w0 S = some r) : MF l yX9_stands cX9_stands 5 (some .boolean) 3 g [.ref (gad g 9 w0), .ref (gad g 2 0)] S (some (.int r)) S := by
  refine MF.of (own := RX9) rfl rfl (Nat.le_of_ble_eq_true rfl) ?_
  intro p e s m below meth c C hr hH ls hl
  exact w_X9_stands C hr (o := r) hw0 hH hl h
theorem nd_X9_columnCount : yX9_columnCount.cls ≠ "java/lang/invoke/MethodHandle" ∧ yX9_columnCount.cls ≠ "java/lang/invoke/VarHandle" ∧ (parseMethodDescriptor yX9_columnCount.desc).map (fun d => d.parameters.length) = some 0 := by decide +kernel
def f_X9_columnCount (w0 : Nat) (S : sT) : Option (Int32) :=
 some (S.1 112 w0 0)
set_option maxHeartbeats 4000000 in
set_option maxRecDepth 100000 in
theorem w_X9_columnCount (C : Cx p s m args meth c cX9_columnCount 1 RX9 g) (hr : meth.sig.returnType = (some .int)) {o : Int32} {w0 : Nat} (hw0 : w0 < 16) {S : sT} {H : Heap} {locs : List Loc} {ls : Array Slot} (hH : Hp g s S H locs) (hl : lv_has ls 1 [(0, .ref (gad g 9 w0))]) (h : f_X9_columnCount w0 S = some o) : W p l e (rmL 1) s m args below meth c H locs 0 0 (Qm g below args s (some (.int o)) S) (F0 m 0 ls []) := by
  obtain ⟨hx, hb, hml, hown, hts, hlk, hK⟩ := id C
  unfold f_X9_columnCount at h
  refine lv_aload_n hx hb dX9_columnCount_0 rfl (lv_at hl 0 rfl) ?_
  refine gf_X9_24 C hH hw0 dX9_columnCount_1 ?_
  exact E_intc C hr hH h dX9_columnCount_4
theorem c_X9_columnCount (l : Launch) (g : gT) {w0 : Nat} (hw0 : w0 < 16) {S : sT} {r : Int32} (h : f_X9_columnCount w0 S = some r) : MF l yX9_columnCount cX9_columnCount 1 (some .int) 1 g [.ref (gad g 9 w0)] S (some (.int r)) S := by
  refine MF.of (own := RX9) rfl rfl (Nat.le_of_ble_eq_true rfl) ?_
  intro p e s m below meth c C hr hH ls hl
  exact w_X9_columnCount C hr (o := r) hw0 hH hl h
theorem nd_X9_stoneCount : yX9_stoneCount.cls ≠ "java/lang/invoke/MethodHandle" ∧ yX9_stoneCount.cls ≠ "java/lang/invoke/VarHandle" ∧ (parseMethodDescriptor yX9_stoneCount.desc).map (fun d => d.parameters.length) = some 0 := by decide +kernel
def b_X9_stoneCount_4 (w0 : Nat) (S : sT) (x1 : Int32) (x2 : Int32) (k3 : Int32 → Int32 → Option (Int32)) : Option (Int32) :=
 (if (S.1 112 w0 0) ≤ x2 then
 some x1
 else
 bn (f_X9_sizeOf w0 x2 S) (fun r5 =>
 lt (x1 + r5) (fun x6 =>
 lt (x2 + (1 : Int32)) (fun x7 =>
 k3 x6 x7))))
def l_X9_stoneCount_4 (w0 : Nat) (S : sT) : Nat → Int32 → Int32 → Option (Int32)
 | 0, _, _ => none
 | n + 1, x1, x2 => b_X9_stoneCount_4 w0 S x1 x2 (l_X9_stoneCount_4 w0 S n)
theorem l_X9_stoneCount_4_s (w0 : Nat) (S : sT) (n : Nat) (x1 : Int32) (x2 : Int32) : l_X9_stoneCount_4 w0 S (n + 1) x1 x2 = b_X9_stoneCount_4 w0 S x1 x2 (l_X9_stoneCount_4 w0 S n) := rfl
def f_X9_stoneCount (w0 : Nat) (S : sT) : Option (Int32) :=
 l_X9_stoneCount_4 w0 S FU (0 : Int32) (0 : Int32)
set_option maxHeartbeats 4000000 in
set_option maxRecDepth 100000 in
theorem w_X9_stoneCount_4 (C : Cx p s m args meth c cX9_stoneCount 3 RX9 g) (hr : meth.sig.returnType = (some .int)) {o : Int32}  {w0 : Nat} {S : sT} (hw0 : w0 < 16)  : ∀ (n : Nat) (x1 : Int32) (x2 : Int32) (H : Heap) (locs : List Loc) (ls : Array Slot), Hp g s S H locs → lv_has ls 3 [(0, .ref (gad g 9 w0)), (1, .int x1), (2, .int x2)] → l_X9_stoneCount_4 w0 S n x1 x2 = some o → W p l e (rmL 3) s m args below meth c H locs 0 0 (Qm g below args s (some (.int o)) S) (F0 m 4 ls []) := by
  obtain ⟨hx, hb, hml, hown, hts, hlk, hK⟩ := id C
  intro n
  induction n with
  | zero =>
    intro x1 x2 H locs ls hH hl h
    cases h
  | succ n ih =>
    intro x1 x2 H locs ls hH hl h
    rw [l_X9_stoneCount_4_s] at h
    unfold b_X9_stoneCount_4 at h
    refine lv_iload_n hx hb dX9_stoneCount_4 rfl (lv_at hl 2 rfl) ?_
    refine lv_aload_n hx hb dX9_stoneCount_5 rfl (lv_at hl 0 rfl) ?_
    refine gf_X9_24 C hH hw0 dX9_stoneCount_6 ?_
    refine lv_icmp_ge (tgt := 26) hx hb dX9_stoneCount_9 (by decide) (fun c8 => ?_) (fun c8 => ?_)
    · replace h := if_t h c8
      refine lv_iload_n hx hb dX9_stoneCount_26 rfl (lv_at hl 1 rfl) ?_
      exact E_intc C hr hH h dX9_stoneCount_27
    · replace h := if_f h c8
      refine lv_iload_n hx hb dX9_stoneCount_12 rfl (lv_at hl 1 rfl) ?_
      refine lv_aload_n hx hb dX9_stoneCount_13 rfl (lv_at hl 0 rfl) ?_
      refine lv_iload_n hx hb dX9_stoneCount_14 rfl (lv_at hl 2 rfl) ?_
      obtain ⟨r5, hc4, h⟩ := bn_e h
      refine r_callV1 (ki := 9) (i := w0) (ci := 8) (As := [.int x2]) C hl.1 hH (c_X9_sizeOf l g hw0 hc4) q484 q80 q489 q482 q483 nd_X9_sizeOf rfl (by decide) ⟨Nat.zero_le _, Nat.zero_le _⟩ (by decide) hw0 ⟨_, rfl⟩ rfl (Nat.le_of_ble_eq_true rfl) dX9_stoneCount_15 (fun H locs hH => ?_)
      refine lv_iadd hx hb dX9_stoneCount_18 ?_
      refine lv_topi (fun x6 ex6 => ?_)
      replace h := lt_e h ex6
      refine lv_istore_n (lv' := [(1, .int x6), (0, .ref (gad g 9 w0)), (2, .int x2)]) hx hb dX9_stoneCount_19 rfl hl (by decide) rfl (fun ls hl => ?_)
      obtain ⟨x7, ex7⟩ : ∃ z : Int32, z = (x2 + (1 : Int32)) := ⟨_, rfl⟩
      replace h := lt_e h ex7
      refine lv_iinc (v := x7) (lv' := [(2, .int x7), (1, .int x6), (0, .ref (gad g 9 w0))]) hx hb dX9_stoneCount_20 hl (k := 2) rfl (by rw [ex7]; rfl) (by decide) rfl (fun ls hl => ?_)
      refine lv_goto (tgt := 4) hx hb dX9_stoneCount_23 (by decide) ?_
      exact ih _ _ _ _ _ hH (lv_sub hl [2, 1, 0] rfl) h
set_option maxHeartbeats 4000000 in
set_option maxRecDepth 100000 in
theorem w_X9_stoneCount (C : Cx p s m args meth c cX9_stoneCount 3 RX9 g) (hr : meth.sig.returnType = (some .int)) {o : Int32} {w0 : Nat} (hw0 : w0 < 16) {S : sT} {H : Heap} {locs : List Loc} {ls : Array Slot} (hH : Hp g s S H locs) (hl : lv_has ls 3 [(0, .ref (gad g 9 w0))]) (h : f_X9_stoneCount w0 S = some o) : W p l e (rmL 3) s m args below meth c H locs 0 0 (Qm g below args s (some (.int o)) S) (F0 m 0 ls []) := by
  obtain ⟨hx, hb, hml, hown, hts, hlk, hK⟩ := id C
  unfold f_X9_stoneCount at h
  refine lv_iconst (v := (0 : Int32)) hx hb dX9_stoneCount_0 (by decide) ?_
  refine lv_istore_n (lv' := [(1, .int (0 : Int32)), (0, .ref (gad g 9 w0))]) hx hb dX9_stoneCount_1 rfl hl (by decide) rfl (fun ls hl => ?_)
  refine lv_iconst (v := (0 : Int32)) hx hb dX9_stoneCount_2 (by decide) ?_
  refine lv_istore_n (lv' := [(2, .int (0 : Int32)), (1, .int (0 : Int32)), (0, .ref (gad g 9 w0))]) hx hb dX9_stoneCount_3 rfl hl (by decide) rfl (fun ls hl => ?_)
  exact w_X9_stoneCount_4 C hr hw0  _ _ _ _ _ _ hH (lv_sub hl [2, 1, 0] rfl) h
theorem c_X9_stoneCount (l : Launch) (g : gT) {w0 : Nat} (hw0 : w0 < 16) {S : sT} {r : Int32} (h : f_X9_stoneCount w0 S = some r) : MF l yX9_stoneCount cX9_stoneCount 3 (some .int) 3 g [.ref (gad g 9 w0)] S (some (.int r)) S := by
  refine MF.of (own := RX9) rfl rfl (Nat.le_of_ble_eq_true rfl) ?_
  intro p e s m below meth c C hr hH ls hl
  exact w_X9_stoneCount C hr (o := r) hw0 hH hl h
end G12
