section G17
variable {p : Program} {l : Launch} {e : Env} {s : State} {m : MethodId} {args : Array Value} {below : List Frame} {meth : Method} {c : Code} {g : gT}
theorem nd_X10_settle : yX10_settle.cls ≠ "java/lang/invoke/MethodHandle" ∧ yX10_settle.cls ≠ "java/lang/invoke/VarHandle" ∧ (parseMethodDescriptor yX10_settle.desc).map (fun d => d.parameters.length) = some 0 := by decide +kernel
def f_X10_settle  (S : sT) : Option (sT) :=
 bn (f_X1_start  S) (fun r2 =>
 ck (decide (r2 < 16)) (
 bn2 (f_X9_parse r2 0 S) (fun r5 S6 =>
 lt (us S6 100 0 0 r5) (fun S7 =>
 bn2 (f_X4_parse 1 S7) (fun r9 S10 =>
 lt (us S10 101 0 0 r9) (fun S11 =>
 bn (f_X1_replay  S11) (fun S13 =>
 some S13)))))))
set_option maxHeartbeats 4000000 in
set_option maxRecDepth 100000 in
theorem w_X10_settle (C : Cx p s m args meth c cX10_settle 1 RX10 g) (hr : meth.sig.returnType = none) {o : sT}   {S : sT} {H : Heap} {locs : List Loc} {ls : Array Slot} (hH : Hp g s S H locs) (hl : lv_has ls 1 [(0, .ref (gad g 0 0))]) (h : f_X10_settle  S = some o) : W p l e (rmL 6) s m args below meth c H locs 0 0 (Qm g below args s none o) (F0 m 0 ls []) := by
  obtain ⟨hx, hb, hml, hown, hts, hlk, hK⟩ := id C
  unfold f_X10_settle at h
  refine lv_aload_n hx hb dX10_settle_0 rfl (lv_at hl 0 rfl) ?_
  refine lv_aload_n hx hb dX10_settle_1 rfl (lv_at hl 0 rfl) ?_
  refine gf_X10_38 C hH dX10_settle_2 ?_
  obtain ⟨r2, hc1, h⟩ := bn_e h
  refine r_callV1 (ki := 4) (i := 0) (ci := 1) (As := []) C hl.1 hH (c_X1_start l g  hc1) q169 q27 q166 q167 q168 nd_X1_start rfl (by decide) ⟨Nat.zero_le _, Nat.zero_le _⟩ (by decide) (by decide) ⟨_, rfl⟩ rfl (Nat.le_of_ble_eq_true rfl) dX10_settle_5 (fun H locs hH => ?_)
  obtain ⟨hv3, h⟩ := ck_e h
  have hr2 : r2 < 16 := of_decide_eq_true hv3
  refine lv_aload_n hx hb dX10_settle_8 rfl (lv_at hl 0 rfl) ?_
  refine gf_X10_14 C hH dX10_settle_9 ?_
  obtain ⟨r5, S6, hc4, h⟩ := bn2_e h
  refine r_callV1 (ki := 9) (i := r2) (ci := 8) (As := [.ref (gad g 1 0)]) C hl.1 hH (c_X9_parse l g hr2 (by decide) hc4) q173 q80 q170 q171 q172 nd_X9_parse rfl (by decide) ⟨Nat.zero_le _, Nat.zero_le _⟩ (by decide) hr2 ⟨_, rfl⟩ rfl (Nat.le_of_ble_eq_true rfl) dX10_settle_12 (fun H locs hH => ?_)
  refine pf_X10_70 C hH dX10_settle_15 (fun S7 H locs eS hH => ?_)
  replace h := lt_e h eS
  refine lv_aload_n hx hb dX10_settle_18 rfl (lv_at hl 0 rfl) ?_
  refine lv_aload_n hx hb dX10_settle_19 rfl (lv_at hl 0 rfl) ?_
  refine gf_X10_31 C hH dX10_settle_20 ?_
  refine lv_aload_n hx hb dX10_settle_23 rfl (lv_at hl 0 rfl) ?_
  refine gf_X10_18 C hH dX10_settle_24 ?_
  obtain ⟨r9, S10, hc8, h⟩ := bn2_e h
  refine r_callV1 (ki := 3) (i := 0) (ci := 4) (As := [.ref (gad g 1 1)]) C hl.1 hH (c_X4_parse l g (by decide) hc8) q211 q23 q208 q209 q210 nd_X4_parse rfl (by decide) ⟨Nat.zero_le _, Nat.zero_le _⟩ (by decide) (by decide) ⟨_, rfl⟩ rfl (Nat.le_of_ble_eq_true rfl) dX10_settle_27 (fun H locs hH => ?_)
  refine pf_X10_74 C hH dX10_settle_30 (fun S11 H locs eS hH => ?_)
  replace h := lt_e h eS
  refine lv_aload_n hx hb dX10_settle_33 rfl (lv_at hl 0 rfl) ?_
  refine gf_X10_38 C hH dX10_settle_34 ?_
  refine lv_aload_n hx hb dX10_settle_37 rfl (lv_at hl 0 rfl) ?_
  refine gf_X10_31 C hH dX10_settle_38 ?_
  refine lv_aload_n hx hb dX10_settle_41 rfl (lv_at hl 0 rfl) ?_
  refine gf_X10_24 C hH dX10_settle_42 ?_
  obtain ⟨S13, hc12, h⟩ := bn_e h
  refine r_callV0 (ki := 4) (i := 0) (ci := 1) (As := [.ref (gad g 3 0), .ref (gad g 2 0)]) C hl.1 hH (c_X1_replay l g  hc12) q249 q27 q246 q247 q248 nd_X1_replay rfl (by decide) ⟨Nat.zero_le _, Nat.zero_le _⟩ (by decide) (by decide) ⟨_, rfl⟩ rfl (Nat.le_of_ble_eq_true rfl) dX10_settle_45 (fun H locs hH => ?_)
  exact E_void C hr hH h dX10_settle_48
theorem c_X10_settle (l : Launch) (g : gT)   {S : sT} {S1 : sT} (h : f_X10_settle  S = some S1) : MF l yX10_settle cX10_settle 1 none 6 g [.ref (gad g 0 0)] S none S1 := by
  refine MF.of (own := RX10) rfl rfl (Nat.le_of_ble_eq_true rfl) ?_
  intro p e s m below meth c C hr hH ls hl
  exact w_X10_settle C hr (o := S1)  hH hl h
theorem nd_X10_textOf : yX10_textOf.cls ≠ "java/lang/invoke/MethodHandle" ∧ yX10_textOf.cls ≠ "java/lang/invoke/VarHandle" ∧ (parseMethodDescriptor yX10_textOf.desc).map (fun d => d.parameters.length) = some 1 := by decide +kernel
def f_X10_textOf (a1 : Int32) (S : sT) : Option (Option Nat) :=
 (if a1 = (0 : Int32) then
 some (some 0)
 else
 (if a1 = (1 : Int32) then
 some (some 1)
 else
 some none))
set_option maxHeartbeats 4000000 in
set_option maxRecDepth 100000 in
theorem w_X10_textOf (C : Cx p s m args meth c cX10_textOf 2 RX10 g) (hr : meth.sig.returnType = (some (.object "WallTurns$Text"))) {o : Option Nat} {a1 : Int32}  {S : sT} {H : Heap} {locs : List Loc} {ls : Array Slot} (hH : Hp g s S H locs) (hl : lv_has ls 2 [(0, .ref (gad g 0 0)), (1, .int a1)]) (h : f_X10_textOf a1 S = some o) : W p l e (rmL 1) s m args below meth c H locs 0 0 (Qm g below args s (some (rv g 1 o)) S) (F0 m 0 ls []) := by
  obtain ⟨hx, hb, hml, hown, hts, hlk, hK⟩ := id C
  unfold f_X10_textOf at h
  refine lv_iload_n hx hb dX10_textOf_0 rfl (lv_at hl 1 rfl) ?_
  refine lv_if_ne (tgt := 11) hx hb dX10_textOf_1 (by decide) (fun c2 => ?_) (fun c2 => ?_)
  · replace h := if_f h c2
    refine lv_iload_n hx hb dX10_textOf_11 rfl (lv_at hl 1 rfl) ?_
    refine lv_iconst (v := (1 : Int32)) hx hb dX10_textOf_12 (by decide) ?_
    refine lv_icmp_ne (tgt := 23) hx hb dX10_textOf_13 (by decide) (fun c1 => ?_) (fun c1 => ?_)
    · replace h := if_f h c1
      refine lv_null hx hb dX10_textOf_23 ?_
      exact E_nulc C hr hH h dX10_textOf_24
    · replace h := if_t h c1
      refine lv_aload_n hx hb dX10_textOf_16 rfl (lv_at hl 0 rfl) ?_
      refine gf_X10_18 C hH dX10_textOf_17 ?_
      refine lv_goto (tgt := 24) hx hb dX10_textOf_20 (by decide) ?_
      exact E_nurc C hr hH h dX10_textOf_24
  · replace h := if_t h c2
    refine lv_aload_n hx hb dX10_textOf_4 rfl (lv_at hl 0 rfl) ?_
    refine gf_X10_14 C hH dX10_textOf_5 ?_
    refine lv_goto (tgt := 24) hx hb dX10_textOf_8 (by decide) ?_
    exact E_nurc C hr hH h dX10_textOf_24
theorem c_X10_textOf (l : Launch) (g : gT) {a1 : Int32}  {S : sT} {r : Option Nat} (h : f_X10_textOf a1 S = some r) : MF l yX10_textOf cX10_textOf 2 (some (.object "WallTurns$Text")) 1 g [.ref (gad g 0 0), .int a1] S (some (rv g 1 r)) S := by
  refine MF.of (own := RX10) rfl rfl (Nat.le_of_ble_eq_true rfl) ?_
  intro p e s m below meth c C hr hH ls hl
  exact w_X10_textOf C hr (o := r)  hH hl h
theorem nd_X10_type : yX10_type.cls ≠ "java/lang/invoke/MethodHandle" ∧ yX10_type.cls ≠ "java/lang/invoke/VarHandle" ∧ (parseMethodDescriptor yX10_type.desc).map (fun d => d.parameters.length) = some 2 := by decide +kernel
def f_X10_type (a1 : Int32) (a2 : Int32) (S : sT) : Option (Int32 × sT) :=
 bn (f_X10_textOf a1 S) (fun r2 =>
 nl r2 (
 some ((-2 : Int32), S)) (fun w3 => ck (decide (w3 < 2)) (
 bn (f_X10_within a2 (0 : Int32) (255 : Int32) S) (fun r6 =>
 (if r6 = (0 : Int32) then
 some ((-2 : Int32), S)
 else
 bn (f_X8_isFull w3 S) (fun r8 =>
 (if r8 = (0 : Int32) then
 bn (f_X8_add w3 a2 S) (fun S10 =>
 bn (f_X10_settle  S10) (fun S12 =>
 bn (f_X8_size w3 S12) (fun r14 =>
 some (r14, S12))))
 else
 some ((-4 : Int32), S))))))))
set_option maxHeartbeats 4000000 in
set_option maxRecDepth 100000 in
theorem w_X10_type (C : Cx p s m args meth c cX10_type 4 RX10 g) (hr : meth.sig.returnType = (some .int)) {o : Int32 × sT} {a1 : Int32} {a2 : Int32}  {S : sT} {H : Heap} {locs : List Loc} {ls : Array Slot} (hH : Hp g s S H locs) (hl : lv_has ls 4 [(0, .ref (gad g 0 0)), (1, .int a1), (2, .int a2)]) (h : f_X10_type a1 a2 S = some o) : W p l e (rmL 7) s m args below meth c H locs 0 0 (Qm g below args s (some (.int o.1)) o.2) (F0 m 0 ls []) := by
  obtain ⟨hx, hb, hml, hown, hts, hlk, hK⟩ := id C
  unfold f_X10_type at h
  refine lv_aload_n hx hb dX10_type_0 rfl (lv_at hl 0 rfl) ?_
  refine lv_iload_n hx hb dX10_type_1 rfl (lv_at hl 1 rfl) ?_
  obtain ⟨r2, hc1, h⟩ := bn_e h
  refine r_callV1 (ki := 0) (i := 0) (ci := 9) (As := [.int a1]) C hl.1 hH (c_X10_textOf l g  hc1) q150 q2 q147 q148 q149 nd_X10_textOf rfl (by decide) ⟨Nat.zero_le _, Nat.zero_le _⟩ (by decide) (by decide) ⟨_, rfl⟩ rfl (Nat.le_of_ble_eq_true rfl) dX10_type_2 (fun H locs hH => ?_)
  cases r2 with
  | none =>
    replace h := nl_n h
    refine lv_astore_nN (lv' := [(3, .null), (0, .ref (gad g 0 0)), (1, .int a1), (2, .int a2)]) hx hb dX10_type_5 rfl hl (by decide) rfl (fun ls hl => ?_)
    refine lv_aload_nN hx hb dX10_type_6 rfl (lv_at hl 0 rfl) ?_
    refine lv_ifnullN (tgt := 21) hx hb dX10_type_7 (by decide) ?_
    refine lv_bipush (v := (-2 : Int32)) hx hb dX10_type_21 (by decide) ?_
    exact E_int C hr hH h dX10_type_23
  | some w3 =>
    replace h := nl_s h
    obtain ⟨hv4, h⟩ := ck_e h
    have hw3 : w3 < 2 := of_decide_eq_true hv4
    refine lv_astore_n (lv' := [(3, .ref (gad g 1 w3)), (0, .ref (gad g 0 0)), (1, .int a1), (2, .int a2)]) hx hb dX10_type_5 rfl hl (by decide) rfl (fun ls hl => ?_)
    refine lv_aload_n hx hb dX10_type_6 rfl (lv_at hl 0 rfl) ?_
    refine lv_ifnull hx hb dX10_type_7 ?_
    refine lv_iload_n hx hb dX10_type_10 rfl (lv_at hl 3 rfl) ?_
    refine lv_iconst (v := (0 : Int32)) hx hb dX10_type_11 (by decide) ?_
    refine lv_sipush (v := (255 : Int32)) hx hb dX10_type_12 (by decide) ?_
    obtain ⟨r6, hc5, h⟩ := bn_e h
    refine r_callS1 (As := [.int a2, .int (0 : Int32), .int (255 : Int32)]) C hl.1 hH (c_X10_within l g  hc5) q153 q2 q151 q152 nd_X10_within rfl (by decide) ⟨Nat.zero_le _, Nat.zero_le _⟩ (Nat.le_of_ble_eq_true rfl) dX10_type_15 (fun H locs hH => ?_)
    refine lv_if_ne (tgt := 24) hx hb dX10_type_18 (by decide) (fun c16 => ?_) (fun c16 => ?_)
    · replace h := if_f h c16
      refine lv_aload_n hx hb dX10_type_24 rfl (lv_at hl 0 rfl) ?_
      obtain ⟨r8, hc7, h⟩ := bn_e h
      refine r_callV1 (ki := 1) (i := w3) (ci := 7) (As := []) C hl.1 hH (c_X8_isFull l g hw3 hc7) q157 q14 q154 q155 q156 nd_X8_isFull rfl (by decide) ⟨Nat.zero_le _, Nat.zero_le _⟩ (by decide) hw3 ⟨_, rfl⟩ rfl (Nat.le_of_ble_eq_true rfl) dX10_type_25 (fun H locs hH => ?_)
      refine lv_if_eq (tgt := 34) hx hb dX10_type_28 (by decide) (fun c15 => ?_) (fun c15 => ?_)
      · replace h := if_t h c15
        refine lv_aload_n hx hb dX10_type_34 rfl (lv_at hl 0 rfl) ?_
        refine lv_iload_n hx hb dX10_type_35 rfl (lv_at hl 3 rfl) ?_
        obtain ⟨S10, hc9, h⟩ := bn_e h
        refine r_callV0 (ki := 1) (i := w3) (ci := 7) (As := [.int a2]) C hl.1 hH (c_X8_add l g hw3 hc9) q161 q14 q158 q159 q160 nd_X8_add rfl (by decide) ⟨Nat.zero_le _, Nat.zero_le _⟩ (by decide) hw3 ⟨_, rfl⟩ rfl (Nat.le_of_ble_eq_true rfl) dX10_type_36 (fun H locs hH => ?_)
        refine lv_aload_n hx hb dX10_type_39 rfl (lv_at hl 1 rfl) ?_
        obtain ⟨S12, hc11, h⟩ := bn_e h
        refine r_callV0 (ki := 0) (i := 0) (ci := 9) (As := []) C hl.1 hH (c_X10_settle l g  hc11) q165 q2 q162 q163 q164 nd_X10_settle rfl (by decide) ⟨Nat.zero_le _, Nat.zero_le _⟩ (by decide) (by decide) ⟨_, rfl⟩ rfl (Nat.le_of_ble_eq_true rfl) dX10_type_40 (fun H locs hH => ?_)
        refine lv_aload_n hx hb dX10_type_43 rfl (lv_at hl 0 rfl) ?_
        obtain ⟨r14, hc13, h⟩ := bn_e h
        refine r_callV1 (ki := 1) (i := w3) (ci := 7) (As := []) C hl.1 hH (c_X8_size l g hw3 hc13) q181 q14 q296 q179 q180 nd_X8_size rfl (by decide) ⟨Nat.zero_le _, Nat.zero_le _⟩ (by decide) hw3 ⟨_, rfl⟩ rfl (Nat.le_of_ble_eq_true rfl) dX10_type_44 (fun H locs hH => ?_)
        exact E_int C hr hH h dX10_type_47
      · replace h := if_f h c15
        refine lv_bipush (v := (-4 : Int32)) hx hb dX10_type_31 (by decide) ?_
        exact E_int C hr hH h dX10_type_33
    · replace h := if_t h c16
      refine lv_bipush (v := (-2 : Int32)) hx hb dX10_type_21 (by decide) ?_
      exact E_int C hr hH h dX10_type_23
theorem c_X10_type (l : Launch) (g : gT) {a1 : Int32} {a2 : Int32}  {S : sT} {r : Int32} {S1 : sT} (h : f_X10_type a1 a2 S = some (r, S1)) : MF l yX10_type cX10_type 4 (some .int) 7 g [.ref (gad g 0 0), .int a1, .int a2] S (some (.int r)) S1 := by
  refine MF.of (own := RX10) rfl rfl (Nat.le_of_ble_eq_true rfl) ?_
  intro p e s m below meth c C hr hH ls hl
  exact w_X10_type C hr (o := (r, S1))  hH hl h
theorem nd_X10_wipe : yX10_wipe.cls ≠ "java/lang/invoke/MethodHandle" ∧ yX10_wipe.cls ≠ "java/lang/invoke/VarHandle" ∧ (parseMethodDescriptor yX10_wipe.desc).map (fun d => d.parameters.length) = some 1 := by decide +kernel
def f_X10_wipe (a1 : Int32) (S : sT) : Option (Int32 × sT) :=
 bn (f_X10_textOf a1 S) (fun r2 =>
 nl r2 (
 some ((-2 : Int32), S)) (fun w3 => ck (decide (w3 < 2)) (
 bn (f_X8_size w3 S) (fun r6 =>
 bn (f_X8_clear w3 S) (fun S8 =>
 bn (f_X10_settle  S8) (fun S10 =>
 some (r6, S10)))))))
set_option maxHeartbeats 4000000 in
set_option maxRecDepth 100000 in
theorem w_X10_wipe (C : Cx p s m args meth c cX10_wipe 4 RX10 g) (hr : meth.sig.returnType = (some .int)) {o : Int32 × sT} {a1 : Int32}  {S : sT} {H : Heap} {locs : List Loc} {ls : Array Slot} (hH : Hp g s S H locs) (hl : lv_has ls 4 [(0, .ref (gad g 0 0)), (1, .int a1)]) (h : f_X10_wipe a1 S = some o) : W p l e (rmL 7) s m args below meth c H locs 0 0 (Qm g below args s (some (.int o.1)) o.2) (F0 m 0 ls []) := by
  obtain ⟨hx, hb, hml, hown, hts, hlk, hK⟩ := id C
  unfold f_X10_wipe at h
  refine lv_aload_n hx hb dX10_wipe_0 rfl (lv_at hl 0 rfl) ?_
  refine lv_iload_n hx hb dX10_wipe_1 rfl (lv_at hl 1 rfl) ?_
  obtain ⟨r2, hc1, h⟩ := bn_e h
  refine r_callV1 (ki := 0) (i := 0) (ci := 9) (As := [.int a1]) C hl.1 hH (c_X10_textOf l g  hc1) q150 q2 q147 q148 q149 nd_X10_textOf rfl (by decide) ⟨Nat.zero_le _, Nat.zero_le _⟩ (by decide) (by decide) ⟨_, rfl⟩ rfl (Nat.le_of_ble_eq_true rfl) dX10_wipe_2 (fun H locs hH => ?_)
  cases r2 with
  | none =>
    replace h := nl_n h
    refine lv_astore_nN (lv' := [(2, .null), (0, .ref (gad g 0 0)), (1, .int a1)]) hx hb dX10_wipe_5 rfl hl (by decide) rfl (fun ls hl => ?_)
    refine lv_aload_nN hx hb dX10_wipe_6 rfl (lv_at hl 0 rfl) ?_
    refine lv_ifnonnullN hx hb dX10_wipe_7 ?_
    refine lv_bipush (v := (-2 : Int32)) hx hb dX10_wipe_10 (by decide) ?_
    exact E_int C hr hH h dX10_wipe_12
  | some w3 =>
    replace h := nl_s h
    obtain ⟨hv4, h⟩ := ck_e h
    have hw3 : w3 < 2 := of_decide_eq_true hv4
    refine lv_astore_n (lv' := [(2, .ref (gad g 1 w3)), (0, .ref (gad g 0 0)), (1, .int a1)]) hx hb dX10_wipe_5 rfl hl (by decide) rfl (fun ls hl => ?_)
    refine lv_aload_n hx hb dX10_wipe_6 rfl (lv_at hl 0 rfl) ?_
    refine lv_ifnonnull (tgt := 13) hx hb dX10_wipe_7 (by decide) ?_
    refine lv_aload_n hx hb dX10_wipe_13 rfl (lv_at hl 0 rfl) ?_
    obtain ⟨r6, hc5, h⟩ := bn_e h
    refine r_callV1 (ki := 1) (i := w3) (ci := 7) (As := []) C hl.1 hH (c_X8_size l g hw3 hc5) q181 q14 q296 q179 q180 nd_X8_size rfl (by decide) ⟨Nat.zero_le _, Nat.zero_le _⟩ (by decide) hw3 ⟨_, rfl⟩ rfl (Nat.le_of_ble_eq_true rfl) dX10_wipe_14 (fun H locs hH => ?_)
    refine lv_istore_n (lv' := [(3, .int r6), (2, .ref (gad g 1 w3)), (0, .ref (gad g 0 0)), (1, .int a1)]) hx hb dX10_wipe_17 rfl hl (by decide) rfl (fun ls hl => ?_)
    refine lv_aload_n hx hb dX10_wipe_18 rfl (lv_at hl 1 rfl) ?_
    obtain ⟨S8, hc7, h⟩ := bn_e h
    refine r_callV0 (ki := 1) (i := w3) (ci := 7) (As := []) C hl.1 hH (c_X8_clear l g hw3 hc7) q315 q14 q312 q313 q314 nd_X8_clear rfl (by decide) ⟨Nat.zero_le _, Nat.zero_le _⟩ (by decide) hw3 ⟨_, rfl⟩ rfl (Nat.le_of_ble_eq_true rfl) dX10_wipe_19 (fun H locs hH => ?_)
    refine lv_aload_n hx hb dX10_wipe_22 rfl (lv_at hl 2 rfl) ?_
    obtain ⟨S10, hc9, h⟩ := bn_e h
    refine r_callV0 (ki := 0) (i := 0) (ci := 9) (As := []) C hl.1 hH (c_X10_settle l g  hc9) q165 q2 q162 q163 q164 nd_X10_settle rfl (by decide) ⟨Nat.zero_le _, Nat.zero_le _⟩ (by decide) (by decide) ⟨_, rfl⟩ rfl (Nat.le_of_ble_eq_true rfl) dX10_wipe_23 (fun H locs hH => ?_)
    refine lv_iload_n hx hb dX10_wipe_26 rfl (lv_at hl 0 rfl) ?_
    exact E_int C hr hH h dX10_wipe_27
theorem c_X10_wipe (l : Launch) (g : gT) {a1 : Int32}  {S : sT} {r : Int32} {S1 : sT} (h : f_X10_wipe a1 S = some (r, S1)) : MF l yX10_wipe cX10_wipe 4 (some .int) 7 g [.ref (gad g 0 0), .int a1] S (some (.int r)) S1 := by
  refine MF.of (own := RX10) rfl rfl (Nat.le_of_ble_eq_true rfl) ?_
  intro p e s m below meth c C hr hH ls hl
  exact w_X10_wipe C hr (o := (r, S1))  hH hl h
theorem nd_X10_undo : yX10_undo.cls ≠ "java/lang/invoke/MethodHandle" ∧ yX10_undo.cls ≠ "java/lang/invoke/VarHandle" ∧ (parseMethodDescriptor yX10_undo.desc).map (fun d => d.parameters.length) = some 1 := by decide +kernel
def f_X10_undo (a1 : Int32) (S : sT) : Option (Int32 × sT) :=
 bn (f_X10_textOf a1 S) (fun r2 =>
 nl r2 (
 some ((-2 : Int32), S)) (fun w3 => ck (decide (w3 < 2)) (
 bn (f_X8_size w3 S) (fun r6 =>
 (if r6 = (0 : Int32) then
 some ((-3 : Int32), S)
 else
 bn (f_X8_cut w3 S) (fun S8 =>
 bn (f_X10_settle  S8) (fun S10 =>
 bn (f_X8_size w3 S10) (fun r12 =>
 some (r12, S10)))))))))
set_option maxHeartbeats 4000000 in
set_option maxRecDepth 100000 in
theorem w_X10_undo (C : Cx p s m args meth c cX10_undo 3 RX10 g) (hr : meth.sig.returnType = (some .int)) {o : Int32 × sT} {a1 : Int32}  {S : sT} {H : Heap} {locs : List Loc} {ls : Array Slot} (hH : Hp g s S H locs) (hl : lv_has ls 3 [(0, .ref (gad g 0 0)), (1, .int a1)]) (h : f_X10_undo a1 S = some o) : W p l e (rmL 7) s m args below meth c H locs 0 0 (Qm g below args s (some (.int o.1)) o.2) (F0 m 0 ls []) := by
  obtain ⟨hx, hb, hml, hown, hts, hlk, hK⟩ := id C
  unfold f_X10_undo at h
  refine lv_aload_n hx hb dX10_undo_0 rfl (lv_at hl 0 rfl) ?_
  refine lv_iload_n hx hb dX10_undo_1 rfl (lv_at hl 1 rfl) ?_
  obtain ⟨r2, hc1, h⟩ := bn_e h
  refine r_callV1 (ki := 0) (i := 0) (ci := 9) (As := [.int a1]) C hl.1 hH (c_X10_textOf l g  hc1) q150 q2 q147 q148 q149 nd_X10_textOf rfl (by decide) ⟨Nat.zero_le _, Nat.zero_le _⟩ (by decide) (by decide) ⟨_, rfl⟩ rfl (Nat.le_of_ble_eq_true rfl) dX10_undo_2 (fun H locs hH => ?_)
  cases r2 with
  | none =>
    replace h := nl_n h
    refine lv_astore_nN (lv' := [(2, .null), (0, .ref (gad g 0 0)), (1, .int a1)]) hx hb dX10_undo_5 rfl hl (by decide) rfl (fun ls hl => ?_)
    refine lv_aload_nN hx hb dX10_undo_6 rfl (lv_at hl 0 rfl) ?_
    refine lv_ifnonnullN hx hb dX10_undo_7 ?_
    refine lv_bipush (v := (-2 : Int32)) hx hb dX10_undo_10 (by decide) ?_
    exact E_int C hr hH h dX10_undo_12
  | some w3 =>
    replace h := nl_s h
    obtain ⟨hv4, h⟩ := ck_e h
    have hw3 : w3 < 2 := of_decide_eq_true hv4
    refine lv_astore_n (lv' := [(2, .ref (gad g 1 w3)), (0, .ref (gad g 0 0)), (1, .int a1)]) hx hb dX10_undo_5 rfl hl (by decide) rfl (fun ls hl => ?_)
    refine lv_aload_n hx hb dX10_undo_6 rfl (lv_at hl 0 rfl) ?_
    refine lv_ifnonnull (tgt := 13) hx hb dX10_undo_7 (by decide) ?_
    refine lv_aload_n hx hb dX10_undo_13 rfl (lv_at hl 0 rfl) ?_
    obtain ⟨r6, hc5, h⟩ := bn_e h
    refine r_callV1 (ki := 1) (i := w3) (ci := 7) (As := []) C hl.1 hH (c_X8_size l g hw3 hc5) q181 q14 q296 q179 q180 nd_X8_size rfl (by decide) ⟨Nat.zero_le _, Nat.zero_le _⟩ (by decide) hw3 ⟨_, rfl⟩ rfl (Nat.le_of_ble_eq_true rfl) dX10_undo_14 (fun H locs hH => ?_)
    refine lv_if_ne (tgt := 23) hx hb dX10_undo_17 (by decide) (fun c13 => ?_) (fun c13 => ?_)
    · replace h := if_f h c13
      refine lv_aload_n hx hb dX10_undo_23 rfl (lv_at hl 0 rfl) ?_
      obtain ⟨S8, hc7, h⟩ := bn_e h
      refine r_callV0 (ki := 1) (i := w3) (ci := 7) (As := []) C hl.1 hH (c_X8_cut l g hw3 hc7) q327 q14 q324 q325 q326 nd_X8_cut rfl (by decide) ⟨Nat.zero_le _, Nat.zero_le _⟩ (by decide) hw3 ⟨_, rfl⟩ rfl (Nat.le_of_ble_eq_true rfl) dX10_undo_24 (fun H locs hH => ?_)
      refine lv_aload_n hx hb dX10_undo_27 rfl (lv_at hl 1 rfl) ?_
      obtain ⟨S10, hc9, h⟩ := bn_e h
      refine r_callV0 (ki := 0) (i := 0) (ci := 9) (As := []) C hl.1 hH (c_X10_settle l g  hc9) q165 q2 q162 q163 q164 nd_X10_settle rfl (by decide) ⟨Nat.zero_le _, Nat.zero_le _⟩ (by decide) (by decide) ⟨_, rfl⟩ rfl (Nat.le_of_ble_eq_true rfl) dX10_undo_28 (fun H locs hH => ?_)
      refine lv_aload_n hx hb dX10_undo_31 rfl (lv_at hl 0 rfl) ?_
      obtain ⟨r12, hc11, h⟩ := bn_e h
      refine r_callV1 (ki := 1) (i := w3) (ci := 7) (As := []) C hl.1 hH (c_X8_size l g hw3 hc11) q181 q14 q296 q179 q180 nd_X8_size rfl (by decide) ⟨Nat.zero_le _, Nat.zero_le _⟩ (by decide) hw3 ⟨_, rfl⟩ rfl (Nat.le_of_ble_eq_true rfl) dX10_undo_32 (fun H locs hH => ?_)
      exact E_int C hr hH h dX10_undo_35
    · replace h := if_t h c13
      refine lv_bipush (v := (-3 : Int32)) hx hb dX10_undo_20 (by decide) ?_
      exact E_int C hr hH h dX10_undo_22
theorem c_X10_undo (l : Launch) (g : gT) {a1 : Int32}  {S : sT} {r : Int32} {S1 : sT} (h : f_X10_undo a1 S = some (r, S1)) : MF l yX10_undo cX10_undo 3 (some .int) 7 g [.ref (gad g 0 0), .int a1] S (some (.int r)) S1 := by
  refine MF.of (own := RX10) rfl rfl (Nat.le_of_ble_eq_true rfl) ?_
  intro p e s m below meth c C hr hH ls hl
  exact w_X10_undo C hr (o := (r, S1))  hH hl h
theorem nd_X10_fault : yX10_fault.cls ≠ "java/lang/invoke/MethodHandle" ∧ yX10_fault.cls ≠ "java/lang/invoke/VarHandle" ∧ (parseMethodDescriptor yX10_fault.desc).map (fun d => d.parameters.length) = some 1 := by decide +kernel
def f_X10_fault (a1 : Int32) (S : sT) : Option (Int32) :=
 (if a1 = (0 : Int32) then
 some (S.1 100 0 0)
 else
 (if a1 = (1 : Int32) then
 some (S.1 101 0 0)
 else
 some (-2 : Int32)))
set_option maxHeartbeats 4000000 in
set_option maxRecDepth 100000 in
theorem w_X10_fault (C : Cx p s m args meth c cX10_fault 2 RX10 g) (hr : meth.sig.returnType = (some .int)) {o : Int32} {a1 : Int32}  {S : sT} {H : Heap} {locs : List Loc} {ls : Array Slot} (hH : Hp g s S H locs) (hl : lv_has ls 2 [(0, .ref (gad g 0 0)), (1, .int a1)]) (h : f_X10_fault a1 S = some o) : W p l e (rmL 1) s m args below meth c H locs 0 0 (Qm g below args s (some (.int o)) S) (F0 m 0 ls []) := by
  obtain ⟨hx, hb, hml, hown, hts, hlk, hK⟩ := id C
  unfold f_X10_fault at h
  refine lv_iload_n hx hb dX10_fault_0 rfl (lv_at hl 1 rfl) ?_
  refine lv_if_ne (tgt := 11) hx hb dX10_fault_1 (by decide) (fun c2 => ?_) (fun c2 => ?_)
  · replace h := if_f h c2
    refine lv_iload_n hx hb dX10_fault_11 rfl (lv_at hl 1 rfl) ?_
    refine lv_iconst (v := (1 : Int32)) hx hb dX10_fault_12 (by decide) ?_
    refine lv_icmp_ne (tgt := 23) hx hb dX10_fault_13 (by decide) (fun c1 => ?_) (fun c1 => ?_)
    · replace h := if_f h c1
      refine lv_bipush (v := (-2 : Int32)) hx hb dX10_fault_23 (by decide) ?_
      exact E_intc C hr hH h dX10_fault_25
    · replace h := if_t h c1
      refine lv_aload_n hx hb dX10_fault_16 rfl (lv_at hl 0 rfl) ?_
      refine gf_X10_74 C hH dX10_fault_17 ?_
      refine lv_goto (tgt := 25) hx hb dX10_fault_20 (by decide) ?_
      exact E_intc C hr hH h dX10_fault_25
  · replace h := if_t h c2
    refine lv_aload_n hx hb dX10_fault_4 rfl (lv_at hl 0 rfl) ?_
    refine gf_X10_70 C hH dX10_fault_5 ?_
    refine lv_goto (tgt := 25) hx hb dX10_fault_8 (by decide) ?_
    exact E_intc C hr hH h dX10_fault_25
theorem c_X10_fault (l : Launch) (g : gT) {a1 : Int32}  {S : sT} {r : Int32} (h : f_X10_fault a1 S = some r) : MF l yX10_fault cX10_fault 2 (some .int) 1 g [.ref (gad g 0 0), .int a1] S (some (.int r)) S := by
  refine MF.of (own := RX10) rfl rfl (Nat.le_of_ble_eq_true rfl) ?_
  intro p e s m below meth c C hr hH ls hl
  exact w_X10_fault C hr (o := r)  hH hl h
theorem nd_X10_set : yX10_set.cls ≠ "java/lang/invoke/MethodHandle" ∧ yX10_set.cls ≠ "java/lang/invoke/VarHandle" ∧ (parseMethodDescriptor yX10_set.desc).map (fun d => d.parameters.length) = some 2 := by decide +kernel
def f_X10_set (a1 : Int32) (a2 : Int32) (S : sT) : Option (Int32 × sT) :=
 bn (f_X3_allows a1 a2 S) (fun r2 =>
 (if r2 = (0 : Int32) then
 some ((-2 : Int32), S)
 else
 bn (f_X3_value a1 S) (fun r4 =>
 bn (f_X3_become a1 a2 S) (fun S6 =>
 (if a1 = (0 : Int32) then
 bn (f_X1_replay  S6) (fun S8 =>
 some (r4, S8))
 else
 some (r4, S6))))))
set_option maxHeartbeats 4000000 in
set_option maxRecDepth 100000 in
theorem w_X10_set (C : Cx p s m args meth c cX10_set 4 RX10 g) (hr : meth.sig.returnType = (some .int)) {o : Int32 × sT} {a1 : Int32} {a2 : Int32}  {S : sT} {H : Heap} {locs : List Loc} {ls : Array Slot} (hH : Hp g s S H locs) (hl : lv_has ls 4 [(0, .ref (gad g 0 0)), (1, .int a1), (2, .int a2)]) (h : f_X10_set a1 a2 S = some o) : W p l e (rmL 6) s m args below meth c H locs 0 0 (Qm g below args s (some (.int o.1)) o.2) (F0 m 0 ls []) := by
  obtain ⟨hx, hb, hml, hown, hts, hlk, hK⟩ := id C
  unfold f_X10_set at h
  refine lv_iload_n hx hb dX10_set_0 rfl (lv_at hl 1 rfl) ?_
  refine lv_iload_n hx hb dX10_set_1 rfl (lv_at hl 2 rfl) ?_
  obtain ⟨r2, hc1, h⟩ := bn_e h
  refine r_callS1 (As := [.int a1, .int a2]) C hl.1 hH (c_X3_allows l g  hc1) q374 q19 q372 q373 nd_X3_allows rfl (by decide) ⟨Nat.zero_le _, Nat.zero_le _⟩ (Nat.le_of_ble_eq_true rfl) dX10_set_2 (fun H locs hH => ?_)
  refine lv_if_ne (tgt := 11) hx hb dX10_set_5 (by decide) (fun c10 => ?_) (fun c10 => ?_)
  · replace h := if_f h c10
    refine lv_aload_n hx hb dX10_set_11 rfl (lv_at hl 0 rfl) ?_
    refine gf_X10_24 C hH dX10_set_12 ?_
    refine lv_iload_n hx hb dX10_set_15 rfl (lv_at hl 1 rfl) ?_
    obtain ⟨r4, hc3, h⟩ := bn_e h
    refine r_callV1 (ki := 2) (i := 0) (ci := 3) (As := [.int a1]) C hl.1 hH (c_X3_value l g  hc3) q270 q19 q376 q268 q269 nd_X3_value rfl (by decide) ⟨Nat.zero_le _, Nat.zero_le _⟩ (by decide) (by decide) ⟨_, rfl⟩ rfl (Nat.le_of_ble_eq_true rfl) dX10_set_16 (fun H locs hH => ?_)
    refine lv_istore_n (lv' := [(3, .int r4), (0, .ref (gad g 0 0)), (1, .int a1), (2, .int a2)]) hx hb dX10_set_19 rfl hl (by decide) rfl (fun ls hl => ?_)
    refine lv_aload_n hx hb dX10_set_20 rfl (lv_at hl 1 rfl) ?_
    refine gf_X10_24 C hH dX10_set_21 ?_
    refine lv_iload_n hx hb dX10_set_24 rfl (lv_at hl 2 rfl) ?_
    refine lv_iload_n hx hb dX10_set_25 rfl (lv_at hl 3 rfl) ?_
    obtain ⟨S6, hc5, h⟩ := bn_e h
    refine r_callV0 (ki := 2) (i := 0) (ci := 3) (As := [.int a1, .int a2]) C hl.1 hH (c_X3_become l g  hc5) q380 q19 q377 q378 q379 nd_X3_become rfl (by decide) ⟨Nat.zero_le _, Nat.zero_le _⟩ (by decide) (by decide) ⟨_, rfl⟩ rfl (Nat.le_of_ble_eq_true rfl) dX10_set_26 (fun H locs hH => ?_)
    refine lv_iload_n hx hb dX10_set_29 rfl (lv_at hl 2 rfl) ?_
    refine lv_if_ne (tgt := 48) hx hb dX10_set_30 (by decide) (fun c9 => ?_) (fun c9 => ?_)
    · replace h := if_f h c9
      refine lv_iload_n hx hb dX10_set_48 rfl (lv_at hl 0 rfl) ?_
      exact E_int C hr hH h dX10_set_49
    · replace h := if_t h c9
      refine lv_aload_n hx hb dX10_set_33 rfl (lv_at hl 1 rfl) ?_
      refine gf_X10_38 C hH dX10_set_34 ?_
      refine lv_aload_n hx hb dX10_set_37 rfl (lv_at hl 1 rfl) ?_
      refine gf_X10_31 C hH dX10_set_38 ?_
      refine lv_aload_n hx hb dX10_set_41 rfl (lv_at hl 1 rfl) ?_
      refine gf_X10_24 C hH dX10_set_42 ?_
      obtain ⟨S8, hc7, h⟩ := bn_e h
      refine r_callV0 (ki := 4) (i := 0) (ci := 1) (As := [.ref (gad g 3 0), .ref (gad g 2 0)]) C hl.1 hH (c_X1_replay l g  hc7) q249 q27 q246 q247 q248 nd_X1_replay rfl (by decide) ⟨Nat.zero_le _, Nat.zero_le _⟩ (by decide) (by decide) ⟨_, rfl⟩ rfl (Nat.le_of_ble_eq_true rfl) dX10_set_45 (fun H locs hH => ?_)
      refine lv_iload_n hx hb dX10_set_48 rfl (lv_at hl 0 rfl) ?_
      exact E_int C hr hH h dX10_set_49
  · replace h := if_t h c10
    refine lv_bipush (v := (-2 : Int32)) hx hb dX10_set_8 (by decide) ?_
    exact E_int C hr hH h dX10_set_10
theorem c_X10_set (l : Launch) (g : gT) {a1 : Int32} {a2 : Int32}  {S : sT} {r : Int32} {S1 : sT} (h : f_X10_set a1 a2 S = some (r, S1)) : MF l yX10_set cX10_set 4 (some .int) 6 g [.ref (gad g 0 0), .int a1, .int a2] S (some (.int r)) S1 := by
  refine MF.of (own := RX10) rfl rfl (Nat.le_of_ble_eq_true rfl) ?_
  intro p e s m below meth c C hr hH ls hl
  exact w_X10_set C hr (o := (r, S1))  hH hl h
theorem nd_X10_height : yX10_height.cls ≠ "java/lang/invoke/MethodHandle" ∧ yX10_height.cls ≠ "java/lang/invoke/VarHandle" ∧ (parseMethodDescriptor yX10_height.desc).map (fun d => d.parameters.length) = some 2 := by decide +kernel
def f_X10_height (a1 : Int32) (a2 : Int32) (S : sT) : Option (Int32) :=
 bn (f_X1_wallBehind a1 S) (fun r2 =>
 nl r2 (
 some (-2 : Int32)) (fun w3 => ck (decide (w3 < 16)) (
 bn (f_X9_has w3 a2 S) (fun r6 =>
 (if r6 = (0 : Int32) then
 some (-2 : Int32)
 else
 bn (f_X9_heightOf w3 a2 S) (fun r8 =>
 some r8))))))
set_option maxHeartbeats 4000000 in
set_option maxRecDepth 100000 in
theorem w_X10_height (C : Cx p s m args meth c cX10_height 4 RX10 g) (hr : meth.sig.returnType = (some .int)) {o : Int32} {a1 : Int32} {a2 : Int32}  {S : sT} {H : Heap} {locs : List Loc} {ls : Array Slot} (hH : Hp g s S H locs) (hl : lv_has ls 4 [(0, .ref (gad g 0 0)), (1, .int a1), (2, .int a2)]) (h : f_X10_height a1 a2 S = some o) : W p l e (rmL 2) s m args below meth c H locs 0 0 (Qm g below args s (some (.int o)) S) (F0 m 0 ls []) := by
  obtain ⟨hx, hb, hml, hown, hts, hlk, hK⟩ := id C
  unfold f_X10_height at h
  refine lv_aload_n hx hb dX10_height_0 rfl (lv_at hl 0 rfl) ?_
  refine gf_X10_38 C hH dX10_height_1 ?_
  refine lv_iload_n hx hb dX10_height_4 rfl (lv_at hl 1 rfl) ?_
  obtain ⟨r2, hc1, h⟩ := bn_e h
  refine r_callV1 (ki := 4) (i := 0) (ci := 1) (As := [.int a1]) C hl.1 hH (c_X1_wallBehind l g  hc1) q397 q27 q394 q395 q396 nd_X1_wallBehind rfl (by decide) ⟨Nat.zero_le _, Nat.zero_le _⟩ (by decide) (by decide) ⟨_, rfl⟩ rfl (Nat.le_of_ble_eq_true rfl) dX10_height_5 (fun H locs hH => ?_)
  cases r2 with
  | none =>
    replace h := nl_n h
    refine lv_astore_nN (lv' := [(3, .null), (0, .ref (gad g 0 0)), (1, .int a1), (2, .int a2)]) hx hb dX10_height_8 rfl hl (by decide) rfl (fun ls hl => ?_)
    refine lv_aload_nN hx hb dX10_height_9 rfl (lv_at hl 0 rfl) ?_
    refine lv_ifnullN (tgt := 21) hx hb dX10_height_10 (by decide) ?_
    refine lv_bipush (v := (-2 : Int32)) hx hb dX10_height_21 (by decide) ?_
    exact E_intc C hr hH h dX10_height_23
  | some w3 =>
    replace h := nl_s h
    obtain ⟨hv4, h⟩ := ck_e h
    have hw3 : w3 < 16 := of_decide_eq_true hv4
    refine lv_astore_n (lv' := [(3, .ref (gad g 9 w3)), (0, .ref (gad g 0 0)), (1, .int a1), (2, .int a2)]) hx hb dX10_height_8 rfl hl (by decide) rfl (fun ls hl => ?_)
    refine lv_aload_n hx hb dX10_height_9 rfl (lv_at hl 0 rfl) ?_
    refine lv_ifnull hx hb dX10_height_10 ?_
    refine lv_aload_n hx hb dX10_height_13 rfl (lv_at hl 0 rfl) ?_
    refine lv_iload_n hx hb dX10_height_14 rfl (lv_at hl 3 rfl) ?_
    obtain ⟨r6, hc5, h⟩ := bn_e h
    refine r_callV1 (ki := 9) (i := w3) (ci := 8) (As := [.int a2]) C hl.1 hH (c_X9_has l g hw3 hc5) q201 q80 q398 q199 q200 nd_X9_has rfl (by decide) ⟨Nat.zero_le _, Nat.zero_le _⟩ (by decide) hw3 ⟨_, rfl⟩ rfl (Nat.le_of_ble_eq_true rfl) dX10_height_15 (fun H locs hH => ?_)
    refine lv_if_ne (tgt := 24) hx hb dX10_height_18 (by decide) (fun c9 => ?_) (fun c9 => ?_)
    · replace h := if_f h c9
      refine lv_aload_n hx hb dX10_height_24 rfl (lv_at hl 0 rfl) ?_
      refine lv_iload_n hx hb dX10_height_25 rfl (lv_at hl 3 rfl) ?_
      obtain ⟨r8, hc7, h⟩ := bn_e h
      refine r_callV1 (ki := 9) (i := w3) (ci := 8) (As := [.int a2]) C hl.1 hH (c_X9_heightOf l g hw3 hc7) q402 q80 q399 q400 q401 nd_X9_heightOf rfl (by decide) ⟨Nat.zero_le _, Nat.zero_le _⟩ (by decide) hw3 ⟨_, rfl⟩ rfl (Nat.le_of_ble_eq_true rfl) dX10_height_26 (fun H locs hH => ?_)
      exact E_intc C hr hH h dX10_height_29
    · replace h := if_t h c9
      refine lv_bipush (v := (-2 : Int32)) hx hb dX10_height_21 (by decide) ?_
      exact E_intc C hr hH h dX10_height_23
theorem c_X10_height (l : Launch) (g : gT) {a1 : Int32} {a2 : Int32}  {S : sT} {r : Int32} (h : f_X10_height a1 a2 S = some r) : MF l yX10_height cX10_height 4 (some .int) 2 g [.ref (gad g 0 0), .int a1, .int a2] S (some (.int r)) S := by
  refine MF.of (own := RX10) rfl rfl (Nat.le_of_ble_eq_true rfl) ?_
  intro p e s m below meth c C hr hH ls hl
  exact w_X10_height C hr (o := r)  hH hl h
theorem nd_X10_lean : yX10_lean.cls ≠ "java/lang/invoke/MethodHandle" ∧ yX10_lean.cls ≠ "java/lang/invoke/VarHandle" ∧ (parseMethodDescriptor yX10_lean.desc).map (fun d => d.parameters.length) = some 2 := by decide +kernel
def f_X10_lean (a1 : Int32) (a2 : Int32) (S : sT) : Option (Int32) :=
 bn (f_X1_wallBehind a1 S) (fun r2 =>
 nl r2 (
 some (-1002 : Int32)) (fun w3 => ck (decide (w3 < 16)) (
 bn (f_X9_has w3 a2 S) (fun r6 =>
 (if r6 = (0 : Int32) then
 some (-1002 : Int32)
 else
 bn (f_X9_leanOf w3 a2 S) (fun r8 =>
 some r8))))))
set_option maxHeartbeats 4000000 in
set_option maxRecDepth 100000 in
theorem w_X10_lean (C : Cx p s m args meth c cX10_lean 4 RX10 g) (hr : meth.sig.returnType = (some .int)) {o : Int32} {a1 : Int32} {a2 : Int32}  {S : sT} {H : Heap} {locs : List Loc} {ls : Array Slot} (hH : Hp g s S H locs) (hl : lv_has ls 4 [(0, .ref (gad g 0 0)), (1, .int a1), (2, .int a2)]) (h : f_X10_lean a1 a2 S = some o) : W p l e (rmL 2) s m args below meth c H locs 0 0 (Qm g below args s (some (.int o)) S) (F0 m 0 ls []) := by
  obtain ⟨hx, hb, hml, hown, hts, hlk, hK⟩ := id C
  unfold f_X10_lean at h
  refine lv_aload_n hx hb dX10_lean_0 rfl (lv_at hl 0 rfl) ?_
  refine gf_X10_38 C hH dX10_lean_1 ?_
  refine lv_iload_n hx hb dX10_lean_4 rfl (lv_at hl 1 rfl) ?_
  obtain ⟨r2, hc1, h⟩ := bn_e h
  refine r_callV1 (ki := 4) (i := 0) (ci := 1) (As := [.int a1]) C hl.1 hH (c_X1_wallBehind l g  hc1) q397 q27 q394 q395 q396 nd_X1_wallBehind rfl (by decide) ⟨Nat.zero_le _, Nat.zero_le _⟩ (by decide) (by decide) ⟨_, rfl⟩ rfl (Nat.le_of_ble_eq_true rfl) dX10_lean_5 (fun H locs hH => ?_)
  cases r2 with
  | none =>
    replace h := nl_n h
    refine lv_astore_nN (lv' := [(3, .null), (0, .ref (gad g 0 0)), (1, .int a1), (2, .int a2)]) hx hb dX10_lean_8 rfl hl (by decide) rfl (fun ls hl => ?_)
    refine lv_aload_nN hx hb dX10_lean_9 rfl (lv_at hl 0 rfl) ?_
    refine lv_ifnullN (tgt := 21) hx hb dX10_lean_10 (by decide) ?_
    refine lv_sipush (v := (-1002 : Int32)) hx hb dX10_lean_21 (by decide) ?_
    exact E_intc C hr hH h dX10_lean_24
  | some w3 =>
    replace h := nl_s h
    obtain ⟨hv4, h⟩ := ck_e h
    have hw3 : w3 < 16 := of_decide_eq_true hv4
    refine lv_astore_n (lv' := [(3, .ref (gad g 9 w3)), (0, .ref (gad g 0 0)), (1, .int a1), (2, .int a2)]) hx hb dX10_lean_8 rfl hl (by decide) rfl (fun ls hl => ?_)
    refine lv_aload_n hx hb dX10_lean_9 rfl (lv_at hl 0 rfl) ?_
    refine lv_ifnull hx hb dX10_lean_10 ?_
    refine lv_aload_n hx hb dX10_lean_13 rfl (lv_at hl 0 rfl) ?_
    refine lv_iload_n hx hb dX10_lean_14 rfl (lv_at hl 3 rfl) ?_
    obtain ⟨r6, hc5, h⟩ := bn_e h
    refine r_callV1 (ki := 9) (i := w3) (ci := 8) (As := [.int a2]) C hl.1 hH (c_X9_has l g hw3 hc5) q201 q80 q398 q199 q200 nd_X9_has rfl (by decide) ⟨Nat.zero_le _, Nat.zero_le _⟩ (by decide) hw3 ⟨_, rfl⟩ rfl (Nat.le_of_ble_eq_true rfl) dX10_lean_15 (fun H locs hH => ?_)
    refine lv_if_ne (tgt := 25) hx hb dX10_lean_18 (by decide) (fun c9 => ?_) (fun c9 => ?_)
    · replace h := if_f h c9
      refine lv_aload_n hx hb dX10_lean_25 rfl (lv_at hl 0 rfl) ?_
      refine lv_iload_n hx hb dX10_lean_26 rfl (lv_at hl 3 rfl) ?_
      obtain ⟨r8, hc7, h⟩ := bn_e h
      refine r_callV1 (ki := 9) (i := w3) (ci := 8) (As := [.int a2]) C hl.1 hH (c_X9_leanOf l g hw3 hc7) q464 q80 q461 q462 q463 nd_X9_leanOf rfl (by decide) ⟨Nat.zero_le _, Nat.zero_le _⟩ (by decide) hw3 ⟨_, rfl⟩ rfl (Nat.le_of_ble_eq_true rfl) dX10_lean_27 (fun H locs hH => ?_)
      exact E_intc C hr hH h dX10_lean_30
    · replace h := if_t h c9
      refine lv_sipush (v := (-1002 : Int32)) hx hb dX10_lean_21 (by decide) ?_
      exact E_intc C hr hH h dX10_lean_24
theorem c_X10_lean (l : Launch) (g : gT) {a1 : Int32} {a2 : Int32}  {S : sT} {r : Int32} (h : f_X10_lean a1 a2 S = some r) : MF l yX10_lean cX10_lean 4 (some .int) 2 g [.ref (gad g 0 0), .int a1, .int a2] S (some (.int r)) S := by
  refine MF.of (own := RX10) rfl rfl (Nat.le_of_ble_eq_true rfl) ?_
  intro p e s m below meth c C hr hH ls hl
  exact w_X10_lean C hr (o := r)  hH hl h
theorem nd_X10_stone : yX10_stone.cls ≠ "java/lang/invoke/MethodHandle" ∧ yX10_stone.cls ≠ "java/lang/invoke/VarHandle" ∧ (parseMethodDescriptor yX10_stone.desc).map (fun d => d.parameters.length) = some 3 := by decide +kernel
def f_X10_stone (a1 : Int32) (a2 : Int32) (a3 : Int32) (S : sT) : Option (Int32) :=
 bn (f_X1_wallBehind a1 S) (fun r2 =>
 nl r2 (
 some (-2 : Int32)) (fun w3 => ck (decide (w3 < 16)) (
 bn (f_X9_has w3 a2 S) (fun r6 =>
 (if r6 = (0 : Int32) then
 some (-2 : Int32)
 else
 bn (f_X10_within a3 (-1 : Int32) (7 : Int32) S) (fun r8 =>
 (if r8 = (0 : Int32) then
 some (-2 : Int32)
 else
 (if a3 = (-1 : Int32) then
 bn (f_X9_sizeOf w3 a2 S) (fun r12 =>
 some r12)
 else
 bn (f_X9_stoneAt w3 a2 a3 S) (fun r10 =>
 some r10)))))))))
set_option maxHeartbeats 4000000 in
set_option maxRecDepth 100000 in
theorem w_X10_stone (C : Cx p s m args meth c cX10_stone 5 RX10 g) (hr : meth.sig.returnType = (some .int)) {o : Int32} {a1 : Int32} {a2 : Int32} {a3 : Int32}  {S : sT} {H : Heap} {locs : List Loc} {ls : Array Slot} (hH : Hp g s S H locs) (hl : lv_has ls 5 [(0, .ref (gad g 0 0)), (1, .int a1), (2, .int a2), (3, .int a3)]) (h : f_X10_stone a1 a2 a3 S = some o) : W p l e (rmL 4) s m args below meth c H locs 0 0 (Qm g below args s (some (.int o)) S) (F0 m 0 ls []) := by
  obtain ⟨hx, hb, hml, hown, hts, hlk, hK⟩ := id C
  unfold f_X10_stone at h
  refine lv_aload_n hx hb dX10_stone_0 rfl (lv_at hl 0 rfl) ?_
  refine gf_X10_38 C hH dX10_stone_1 ?_
  refine lv_iload_n hx hb dX10_stone_4 rfl (lv_at hl 1 rfl) ?_
  obtain ⟨r2, hc1, h⟩ := bn_e h
  refine r_callV1 (ki := 4) (i := 0) (ci := 1) (As := [.int a1]) C hl.1 hH (c_X1_wallBehind l g  hc1) q397 q27 q394 q395 q396 nd_X1_wallBehind rfl (by decide) ⟨Nat.zero_le _, Nat.zero_le _⟩ (by decide) (by decide) ⟨_, rfl⟩ rfl (Nat.le_of_ble_eq_true rfl) dX10_stone_5 (fun H locs hH => ?_)
  cases r2 with
  | none =>
    replace h := nl_n h
    refine lv_astoreN (lv' := [(4, .null), (0, .ref (gad g 0 0)), (1, .int a1), (2, .int a2), (3, .int a3)]) hx hb dX10_stone_8 hl (by decide) rfl (fun ls hl => ?_)
    refine lv_aloadN hx hb dX10_stone_10 (lv_at hl 0 rfl) ?_
    refine lv_ifnullN (tgt := 34) hx hb dX10_stone_12 (by decide) ?_
    refine lv_bipush (v := (-2 : Int32)) hx hb dX10_stone_34 (by decide) ?_
    exact E_intc C hr hH h dX10_stone_36
  | some w3 =>
    replace h := nl_s h
    obtain ⟨hv4, h⟩ := ck_e h
    have hw3 : w3 < 16 := of_decide_eq_true hv4
    refine lv_astore (lv' := [(4, .ref (gad g 9 w3)), (0, .ref (gad g 0 0)), (1, .int a1), (2, .int a2), (3, .int a3)]) hx hb dX10_stone_8 hl (by decide) rfl (fun ls hl => ?_)
    refine lv_aload hx hb dX10_stone_10 (lv_at hl 0 rfl) ?_
    refine lv_ifnull hx hb dX10_stone_12 ?_
    refine lv_aload hx hb dX10_stone_15 (lv_at hl 0 rfl) ?_
    refine lv_iload_n hx hb dX10_stone_17 rfl (lv_at hl 3 rfl) ?_
    obtain ⟨r6, hc5, h⟩ := bn_e h
    refine r_callV1 (ki := 9) (i := w3) (ci := 8) (As := [.int a2]) C hl.1 hH (c_X9_has l g hw3 hc5) q201 q80 q398 q199 q200 nd_X9_has rfl (by decide) ⟨Nat.zero_le _, Nat.zero_le _⟩ (by decide) hw3 ⟨_, rfl⟩ rfl (Nat.le_of_ble_eq_true rfl) dX10_stone_18 (fun H locs hH => ?_)
    refine lv_if_eq (tgt := 34) hx hb dX10_stone_21 (by decide) (fun c15 => ?_) (fun c15 => ?_)
    · replace h := if_t h c15
      refine lv_bipush (v := (-2 : Int32)) hx hb dX10_stone_34 (by decide) ?_
      exact E_intc C hr hH h dX10_stone_36
    · replace h := if_f h c15
      refine lv_iload_n hx hb dX10_stone_24 rfl (lv_at hl 4 rfl) ?_
      refine lv_iconst (v := (-1 : Int32)) hx hb dX10_stone_25 (by decide) ?_
      refine lv_bipush (v := (7 : Int32)) hx hb dX10_stone_26 (by decide) ?_
      obtain ⟨r8, hc7, h⟩ := bn_e h
      refine r_callS1 (As := [.int a3, .int (-1 : Int32), .int (7 : Int32)]) C hl.1 hH (c_X10_within l g  hc7) q153 q2 q151 q152 nd_X10_within rfl (by decide) ⟨Nat.zero_le _, Nat.zero_le _⟩ (Nat.le_of_ble_eq_true rfl) dX10_stone_28 (fun H locs hH => ?_)
      refine lv_if_ne (tgt := 37) hx hb dX10_stone_31 (by decide) (fun c14 => ?_) (fun c14 => ?_)
      · replace h := if_f h c14
        refine lv_iload_n hx hb dX10_stone_37 rfl (lv_at hl 4 rfl) ?_
        refine lv_iconst (v := (-1 : Int32)) hx hb dX10_stone_38 (by decide) ?_
        refine lv_icmp_ne (tgt := 51) hx hb dX10_stone_39 (by decide) (fun c13 => ?_) (fun c13 => ?_)
        · replace h := if_f h c13
          refine lv_aload hx hb dX10_stone_51 (lv_at hl 0 rfl) ?_
          refine lv_iload_n hx hb dX10_stone_53 rfl (lv_at hl 3 rfl) ?_
          refine lv_iload_n hx hb dX10_stone_54 rfl (lv_at hl 4 rfl) ?_
          obtain ⟨r10, hc9, h⟩ := bn_e h
          refine r_callV1 (ki := 9) (i := w3) (ci := 8) (As := [.int a2, .int a3]) C hl.1 hH (c_X9_stoneAt l g hw3 hc9) q488 q80 q485 q486 q487 nd_X9_stoneAt rfl (by decide) ⟨Nat.zero_le _, Nat.zero_le _⟩ (by decide) hw3 ⟨_, rfl⟩ rfl (Nat.le_of_ble_eq_true rfl) dX10_stone_55 (fun H locs hH => ?_)
          exact E_intc C hr hH h dX10_stone_58
        · replace h := if_t h c13
          refine lv_aload hx hb dX10_stone_42 (lv_at hl 0 rfl) ?_
          refine lv_iload_n hx hb dX10_stone_44 rfl (lv_at hl 3 rfl) ?_
          obtain ⟨r12, hc11, h⟩ := bn_e h
          refine r_callV1 (ki := 9) (i := w3) (ci := 8) (As := [.int a2]) C hl.1 hH (c_X9_sizeOf l g hw3 hc11) q484 q80 q481 q482 q483 nd_X9_sizeOf rfl (by decide) ⟨Nat.zero_le _, Nat.zero_le _⟩ (by decide) hw3 ⟨_, rfl⟩ rfl (Nat.le_of_ble_eq_true rfl) dX10_stone_45 (fun H locs hH => ?_)
          refine lv_goto (tgt := 58) hx hb dX10_stone_48 (by decide) ?_
          exact E_intc C hr hH h dX10_stone_58
      · replace h := if_t h c14
        refine lv_bipush (v := (-2 : Int32)) hx hb dX10_stone_34 (by decide) ?_
        exact E_intc C hr hH h dX10_stone_36
theorem c_X10_stone (l : Launch) (g : gT) {a1 : Int32} {a2 : Int32} {a3 : Int32}  {S : sT} {r : Int32} (h : f_X10_stone a1 a2 a3 S = some r) : MF l yX10_stone cX10_stone 5 (some .int) 4 g [.ref (gad g 0 0), .int a1, .int a2, .int a3] S (some (.int r)) S := by
  refine MF.of (own := RX10) rfl rfl (Nat.le_of_ble_eq_true rfl) ?_
  intro p e s m below meth c C hr hH ls hl
  exact w_X10_stone C hr (o := r)  hH hl h
theorem nd_X10_behind : yX10_behind.cls ≠ "java/lang/invoke/MethodHandle" ∧ yX10_behind.cls ≠ "java/lang/invoke/VarHandle" ∧ (parseMethodDescriptor yX10_behind.desc).map (fun d => d.parameters.length) = some 2 := by decide +kernel
def f_X10_behind (a1 : Int32) (a2 : Int32) (S : sT) : Option (Int32) :=
 bn (f_X1_wallBehind a1 S) (fun r2 =>
 nl r2 (
 some (-2 : Int32)) (fun w3 => ck (decide (w3 < 16)) (
 (if a2 = (0 : Int32) then
 bn (f_X9_weakBits w3 S) (fun r6 =>
 some r6)
 else
 (if a2 = (1 : Int32) then
 bn (f_X9_sunny w3 S) (fun r9 =>
 some r9)
 else
 (if a2 = (2 : Int32) then
 bn (f_X9_weightOf w3 (0 : Int32) S) (fun r12 =>
 some r12)
 else
 (if a2 = (3 : Int32) then
 bn (f_X9_weightOf w3 (1 : Int32) S) (fun r15 =>
 some r15)
 else
 some (-2 : Int32))))))))
set_option maxHeartbeats 4000000 in
set_option maxRecDepth 100000 in
theorem w_X10_behind (C : Cx p s m args meth c cX10_behind 4 RX10 g) (hr : meth.sig.returnType = (some .int)) {o : Int32} {a1 : Int32} {a2 : Int32}  {S : sT} {H : Heap} {locs : List Loc} {ls : Array Slot} (hH : Hp g s S H locs) (hl : lv_has ls 4 [(0, .ref (gad g 0 0)), (1, .int a1), (2, .int a2)]) (h : f_X10_behind a1 a2 S = some o) : W p l e (rmL 4) s m args below meth c H locs 0 0 (Qm g below args s (some (.int o)) S) (F0 m 0 ls []) := by
  obtain ⟨hx, hb, hml, hown, hts, hlk, hK⟩ := id C
  unfold f_X10_behind at h
  refine lv_aload_n hx hb dX10_behind_0 rfl (lv_at hl 0 rfl) ?_
  refine gf_X10_38 C hH dX10_behind_1 ?_
  refine lv_iload_n hx hb dX10_behind_4 rfl (lv_at hl 1 rfl) ?_
  obtain ⟨r2, hc1, h⟩ := bn_e h
  refine r_callV1 (ki := 4) (i := 0) (ci := 1) (As := [.int a1]) C hl.1 hH (c_X1_wallBehind l g  hc1) q397 q27 q394 q395 q396 nd_X1_wallBehind rfl (by decide) ⟨Nat.zero_le _, Nat.zero_le _⟩ (by decide) (by decide) ⟨_, rfl⟩ rfl (Nat.le_of_ble_eq_true rfl) dX10_behind_5 (fun H locs hH => ?_)
  cases r2 with
  | none =>
    replace h := nl_n h
    refine lv_astore_nN (lv' := [(3, .null), (0, .ref (gad g 0 0)), (1, .int a1), (2, .int a2)]) hx hb dX10_behind_8 rfl hl (by decide) rfl (fun ls hl => ?_)
    refine lv_aload_nN hx hb dX10_behind_9 rfl (lv_at hl 0 rfl) ?_
    refine lv_ifnonnullN hx hb dX10_behind_10 ?_
    refine lv_bipush (v := (-2 : Int32)) hx hb dX10_behind_13 (by decide) ?_
    exact E_intc C hr hH h dX10_behind_15
  | some w3 =>
    replace h := nl_s h
    obtain ⟨hv4, h⟩ := ck_e h
    have hw3 : w3 < 16 := of_decide_eq_true hv4
    refine lv_astore_n (lv' := [(3, .ref (gad g 9 w3)), (0, .ref (gad g 0 0)), (1, .int a1), (2, .int a2)]) hx hb dX10_behind_8 rfl hl (by decide) rfl (fun ls hl => ?_)
    refine lv_aload_n hx hb dX10_behind_9 rfl (lv_at hl 0 rfl) ?_
    refine lv_ifnonnull (tgt := 16) hx hb dX10_behind_10 (by decide) ?_
    refine lv_iload_n hx hb dX10_behind_16 rfl (lv_at hl 3 rfl) ?_
    by_cases c7 : a2 = (0 : Int32)
    · replace h := if_t h c7
      refine r_tabI C (k := 0) (off := 31) (tgt := 48) dX10_behind_17 c7 (by decide) ?_
      refine lv_aload_n hx hb dX10_behind_48 rfl (lv_at hl 0 rfl) ?_
      refine lv_aload_n hx hb dX10_behind_49 rfl (lv_at hl 1 rfl) ?_
      refine gf_X10_24 C hH dX10_behind_50 ?_
      obtain ⟨r6, hc5, h⟩ := bn_e h
      refine r_callV1 (ki := 9) (i := w3) (ci := 8) (As := [.ref (gad g 2 0)]) C hl.1 hH (c_X9_weakBits l g hw3 hc5) q507 q80 q504 q505 q506 nd_X9_weakBits rfl (by decide) ⟨Nat.zero_le _, Nat.zero_le _⟩ (by decide) hw3 ⟨_, rfl⟩ rfl (Nat.le_of_ble_eq_true rfl) dX10_behind_53 (fun H locs hH => ?_)
      exact E_intc C hr hH h dX10_behind_56
    · replace h := if_f h c7
      by_cases c10 : a2 = (1 : Int32)
      · replace h := if_t h c10
        refine r_tabI C (k := 1) (off := 40) (tgt := 57) dX10_behind_17 c10 (by decide) ?_
        refine lv_aload_n hx hb dX10_behind_57 rfl (lv_at hl 0 rfl) ?_
        refine lv_aload_n hx hb dX10_behind_58 rfl (lv_at hl 1 rfl) ?_
        refine gf_X10_24 C hH dX10_behind_59 ?_
        obtain ⟨r9, hc8, h⟩ := bn_e h
        refine r_callV1 (ki := 9) (i := w3) (ci := 8) (As := [.ref (gad g 2 0)]) C hl.1 hH (c_X9_sunny l g hw3 hc8) q528 q80 q525 q526 q527 nd_X9_sunny rfl (by decide) ⟨Nat.zero_le _, Nat.zero_le _⟩ (by decide) hw3 ⟨_, rfl⟩ rfl (Nat.le_of_ble_eq_true rfl) dX10_behind_62 (fun H locs hH => ?_)
        exact E_intc C hr hH h dX10_behind_65
      · replace h := if_f h c10
        by_cases c13 : a2 = (2 : Int32)
        · replace h := if_t h c13
          refine r_tabI C (k := 2) (off := 49) (tgt := 66) dX10_behind_17 c13 (by decide) ?_
          refine lv_aload_n hx hb dX10_behind_66 rfl (lv_at hl 0 rfl) ?_
          refine lv_iconst (v := (0 : Int32)) hx hb dX10_behind_67 (by decide) ?_
          obtain ⟨r12, hc11, h⟩ := bn_e h
          refine r_callV1 (ki := 9) (i := w3) (ci := 8) (As := [.int (0 : Int32)]) C hl.1 hH (c_X9_weightOf l g hw3 hc11) q536 q80 q533 q534 q535 nd_X9_weightOf rfl (by decide) ⟨Nat.zero_le _, Nat.zero_le _⟩ (by decide) hw3 ⟨_, rfl⟩ rfl (Nat.le_of_ble_eq_true rfl) dX10_behind_68 (fun H locs hH => ?_)
          exact E_intc C hr hH h dX10_behind_71
        · replace h := if_f h c13
          by_cases c16 : a2 = (3 : Int32)
          · replace h := if_t h c16
            refine r_tabI C (k := 3) (off := 55) (tgt := 72) dX10_behind_17 c16 (by decide) ?_
            refine lv_aload_n hx hb dX10_behind_72 rfl (lv_at hl 0 rfl) ?_
            refine lv_iconst (v := (1 : Int32)) hx hb dX10_behind_73 (by decide) ?_
            obtain ⟨r15, hc14, h⟩ := bn_e h
            refine r_callV1 (ki := 9) (i := w3) (ci := 8) (As := [.int (1 : Int32)]) C hl.1 hH (c_X9_weightOf l g hw3 hc14) q536 q80 q533 q534 q535 nd_X9_weightOf rfl (by decide) ⟨Nat.zero_le _, Nat.zero_le _⟩ (by decide) hw3 ⟨_, rfl⟩ rfl (Nat.le_of_ble_eq_true rfl) dX10_behind_74 (fun H locs hH => ?_)
            exact E_intc C hr hH h dX10_behind_77
          · replace h := if_f h c16
            have nc7 := ne_toInt (k := 0) c7 (by decide)
            have nc10 := ne_toInt (k := 1) c10 (by decide)
            have nc13 := ne_toInt (k := 2) c13 (by decide)
            have nc16 := ne_toInt (k := 3) c16 (by decide)
            refine lv_tableOut (tgt := 78) hx hb dX10_behind_17 (by omega) (by decide) ?_
            refine lv_bipush (v := (-2 : Int32)) hx hb dX10_behind_78 (by decide) ?_
            exact E_intc C hr hH h dX10_behind_80
theorem c_X10_behind (l : Launch) (g : gT) {a1 : Int32} {a2 : Int32}  {S : sT} {r : Int32} (h : f_X10_behind a1 a2 S = some r) : MF l yX10_behind cX10_behind 4 (some .int) 4 g [.ref (gad g 0 0), .int a1, .int a2] S (some (.int r)) S := by
  refine MF.of (own := RX10) rfl rfl (Nat.le_of_ble_eq_true rfl) ?_
  intro p e s m below meth c C hr hH ls hl
  exact w_X10_behind C hr (o := r)  hH hl h
theorem nd_X10_turn : yX10_turn.cls ≠ "java/lang/invoke/MethodHandle" ∧ yX10_turn.cls ≠ "java/lang/invoke/VarHandle" ∧ (parseMethodDescriptor yX10_turn.desc).map (fun d => d.parameters.length) = some 2 := by decide +kernel
def f_X10_turn (a1 : Int32) (a2 : Int32) (S : sT) : Option (Int32) :=
 bn (f_X1_hasTurn a1 S) (fun r2 =>
 (if r2 = (0 : Int32) then
 some (-2 : Int32)
 else
 (if a2 = (0 : Int32) then
 bn (f_X3_brotherOf a1 S) (fun r4 =>
 some r4)
 else
 (if a2 = (1 : Int32) then
 bn (f_X1_tookIn a1 S) (fun r7 =>
 some r7)
 else
 (if a2 = (2 : Int32) then
 bn (f_X1_laidIn a1 S) (fun r10 =>
 some r10)
 else
 some (-2 : Int32))))))
set_option maxHeartbeats 4000000 in
set_option maxRecDepth 100000 in
theorem w_X10_turn (C : Cx p s m args meth c cX10_turn 3 RX10 g) (hr : meth.sig.returnType = (some .int)) {o : Int32} {a1 : Int32} {a2 : Int32}  {S : sT} {H : Heap} {locs : List Loc} {ls : Array Slot} (hH : Hp g s S H locs) (hl : lv_has ls 3 [(0, .ref (gad g 0 0)), (1, .int a1), (2, .int a2)]) (h : f_X10_turn a1 a2 S = some o) : W p l e (rmL 3) s m args below meth c H locs 0 0 (Qm g below args s (some (.int o)) S) (F0 m 0 ls []) := by
  obtain ⟨hx, hb, hml, hown, hts, hlk, hK⟩ := id C
  unfold f_X10_turn at h
  refine lv_aload_n hx hb dX10_turn_0 rfl (lv_at hl 0 rfl) ?_
  refine gf_X10_38 C hH dX10_turn_1 ?_
  refine lv_iload_n hx hb dX10_turn_4 rfl (lv_at hl 1 rfl) ?_
  obtain ⟨r2, hc1, h⟩ := bn_e h
  refine r_callV1 (ki := 4) (i := 0) (ci := 1) (As := [.int a1]) C hl.1 hH (c_X1_hasTurn l g  hc1) q575 q27 q572 q573 q574 nd_X1_hasTurn rfl (by decide) ⟨Nat.zero_le _, Nat.zero_le _⟩ (by decide) (by decide) ⟨_, rfl⟩ rfl (Nat.le_of_ble_eq_true rfl) dX10_turn_5 (fun H locs hH => ?_)
  refine lv_if_ne (tgt := 14) hx hb dX10_turn_8 (by decide) (fun c12 => ?_) (fun c12 => ?_)
  · replace h := if_f h c12
    refine lv_iload_n hx hb dX10_turn_14 rfl (lv_at hl 2 rfl) ?_
    by_cases c5 : a2 = (0 : Int32)
    · replace h := if_t h c5
      refine r_tabI C (k := 0) (off := 25) (tgt := 40) dX10_turn_15 c5 (by decide) ?_
      refine lv_aload_n hx hb dX10_turn_40 rfl (lv_at hl 0 rfl) ?_
      refine gf_X10_24 C hH dX10_turn_41 ?_
      refine lv_iload_n hx hb dX10_turn_44 rfl (lv_at hl 1 rfl) ?_
      obtain ⟨r4, hc3, h⟩ := bn_e h
      refine r_callV1 (ki := 2) (i := 0) (ci := 3) (As := [.int a1]) C hl.1 hH (c_X3_brotherOf l g  hc3) q266 q19 q576 q264 q265 nd_X3_brotherOf rfl (by decide) ⟨Nat.zero_le _, Nat.zero_le _⟩ (by decide) (by decide) ⟨_, rfl⟩ rfl (Nat.le_of_ble_eq_true rfl) dX10_turn_45 (fun H locs hH => ?_)
      exact E_intc C hr hH h dX10_turn_48
    · replace h := if_f h c5
      by_cases c8 : a2 = (1 : Int32)
      · replace h := if_t h c8
        refine r_tabI C (k := 1) (off := 34) (tgt := 49) dX10_turn_15 c8 (by decide) ?_
        refine lv_aload_n hx hb dX10_turn_49 rfl (lv_at hl 0 rfl) ?_
        refine gf_X10_38 C hH dX10_turn_50 ?_
        refine lv_iload_n hx hb dX10_turn_53 rfl (lv_at hl 1 rfl) ?_
        obtain ⟨r7, hc6, h⟩ := bn_e h
        refine r_callV1 (ki := 4) (i := 0) (ci := 1) (As := [.int a1]) C hl.1 hH (c_X1_tookIn l g  hc6) q580 q27 q577 q578 q579 nd_X1_tookIn rfl (by decide) ⟨Nat.zero_le _, Nat.zero_le _⟩ (by decide) (by decide) ⟨_, rfl⟩ rfl (Nat.le_of_ble_eq_true rfl) dX10_turn_54 (fun H locs hH => ?_)
        exact E_intc C hr hH h dX10_turn_57
      · replace h := if_f h c8
        by_cases c11 : a2 = (2 : Int32)
        · replace h := if_t h c11
          refine r_tabI C (k := 2) (off := 43) (tgt := 58) dX10_turn_15 c11 (by decide) ?_
          refine lv_aload_n hx hb dX10_turn_58 rfl (lv_at hl 0 rfl) ?_
          refine gf_X10_38 C hH dX10_turn_59 ?_
          refine lv_iload_n hx hb dX10_turn_62 rfl (lv_at hl 1 rfl) ?_
          obtain ⟨r10, hc9, h⟩ := bn_e h
          refine r_callV1 (ki := 4) (i := 0) (ci := 1) (As := [.int a1]) C hl.1 hH (c_X1_laidIn l g  hc9) q585 q27 q582 q583 q584 nd_X1_laidIn rfl (by decide) ⟨Nat.zero_le _, Nat.zero_le _⟩ (by decide) (by decide) ⟨_, rfl⟩ rfl (Nat.le_of_ble_eq_true rfl) dX10_turn_63 (fun H locs hH => ?_)
          exact E_intc C hr hH h dX10_turn_66
        · replace h := if_f h c11
          have nc5 := ne_toInt (k := 0) c5 (by decide)
          have nc8 := ne_toInt (k := 1) c8 (by decide)
          have nc11 := ne_toInt (k := 2) c11 (by decide)
          refine lv_tableOut (tgt := 67) hx hb dX10_turn_15 (by omega) (by decide) ?_
          refine lv_bipush (v := (-2 : Int32)) hx hb dX10_turn_67 (by decide) ?_
          exact E_intc C hr hH h dX10_turn_69
  · replace h := if_t h c12
    refine lv_bipush (v := (-2 : Int32)) hx hb dX10_turn_11 (by decide) ?_
    exact E_intc C hr hH h dX10_turn_13
theorem c_X10_turn (l : Launch) (g : gT) {a1 : Int32} {a2 : Int32}  {S : sT} {r : Int32} (h : f_X10_turn a1 a2 S = some r) : MF l yX10_turn cX10_turn 3 (some .int) 3 g [.ref (gad g 0 0), .int a1, .int a2] S (some (.int r)) S := by
  refine MF.of (own := RX10) rfl rfl (Nat.le_of_ble_eq_true rfl) ?_
  intro p e s m below meth c C hr hH ls hl
  exact w_X10_turn C hr (o := r)  hH hl h
theorem nd_X10_leastBit : yX10_leastBit.cls ≠ "java/lang/invoke/MethodHandle" ∧ yX10_leastBit.cls ≠ "java/lang/invoke/VarHandle" ∧ (parseMethodDescriptor yX10_leastBit.desc).map (fun d => d.parameters.length) = some 1 := by decide +kernel
def b_X10_leastBit_2 (a1 : Int32) (x1 : Int32) (k2 : Int32 → Option (Int32)) : Option (Int32) :=
 (if (8 : Int32) ≤ x1 then
 some (-1 : Int32)
 else
 (if ((a1 >>> (x1 &&& 31)) &&& (1 : Int32)) = (1 : Int32) then
 some x1
 else
 lt (x1 + (1 : Int32)) (fun x3 =>
 k2 x3)))
def l_X10_leastBit_2 (a1 : Int32) : Nat → Int32 → Option (Int32)
 | 0, _ => none
 | n + 1, x1 => b_X10_leastBit_2 a1 x1 (l_X10_leastBit_2 a1 n)
theorem l_X10_leastBit_2_s (a1 : Int32) (n : Nat) (x1 : Int32) : l_X10_leastBit_2 a1 (n + 1) x1 = b_X10_leastBit_2 a1 x1 (l_X10_leastBit_2 a1 n) := rfl
def f_X10_leastBit (a1 : Int32) (S : sT) : Option (Int32) :=
 l_X10_leastBit_2 a1 FU (0 : Int32)
set_option maxHeartbeats 4000000 in
set_option maxRecDepth 100000 in
theorem w_X10_leastBit_2 (C : Cx p s m args meth c cX10_leastBit 2 RX10 g) (hr : meth.sig.returnType = (some .int)) {o : Int32}  {a1 : Int32} {S : sT}   : ∀ (n : Nat) (x1 : Int32) (H : Heap) (locs : List Loc) (ls : Array Slot), Hp g s S H locs → lv_has ls 2 [(0, .int a1), (1, .int x1)] → l_X10_leastBit_2 a1 n x1 = some o → W p l e (rmL 1) s m args below meth c H locs 0 0 (Qm g below args s (some (.int o)) S) (F0 m 2 ls []) := by
  obtain ⟨hx, hb, hml, hown, hts, hlk, hK⟩ := id C
  intro n
  induction n with
  | zero =>
    intro x1 H locs ls hH hl h
    cases h
  | succ n ih =>
    intro x1 H locs ls hH hl h
    rw [l_X10_leastBit_2_s] at h
    unfold b_X10_leastBit_2 at h
    refine lv_iload_n hx hb dX10_leastBit_2 rfl (lv_at hl 1 rfl) ?_
    refine lv_bipush (v := (8 : Int32)) hx hb dX10_leastBit_3 (by decide) ?_
    refine lv_icmp_ge (tgt := 25) hx hb dX10_leastBit_5 (by decide) (fun c5 => ?_) (fun c5 => ?_)
    · replace h := if_t h c5
      refine lv_iconst (v := (-1 : Int32)) hx hb dX10_leastBit_25 (by decide) ?_
      exact E_intc C hr hH h dX10_leastBit_26
    · replace h := if_f h c5
      refine lv_iload_n hx hb dX10_leastBit_8 rfl (lv_at hl 0 rfl) ?_
      refine lv_iload_n hx hb dX10_leastBit_9 rfl (lv_at hl 1 rfl) ?_
      refine lv_ishr hx hb dX10_leastBit_10 ?_
      refine lv_iconst (v := (1 : Int32)) hx hb dX10_leastBit_11 (by decide) ?_
      refine lv_iand hx hb dX10_leastBit_12 ?_
      refine lv_iconst (v := (1 : Int32)) hx hb dX10_leastBit_13 (by decide) ?_
      refine lv_icmp_ne (tgt := 19) hx hb dX10_leastBit_14 (by decide) (fun c4 => ?_) (fun c4 => ?_)
      · replace h := if_f h c4
        obtain ⟨x3, ex3⟩ : ∃ z : Int32, z = (x1 + (1 : Int32)) := ⟨_, rfl⟩
        replace h := lt_e h ex3
        refine lv_iinc (v := x3) (lv' := [(1, .int x3), (0, .int a1)]) hx hb dX10_leastBit_19 hl (k := 1) rfl (by rw [ex3]; rfl) (by decide) rfl (fun ls hl => ?_)
        refine lv_goto (tgt := 2) hx hb dX10_leastBit_22 (by decide) ?_
        exact ih _ _ _ _ hH (lv_sub hl [1, 0] rfl) h
      · replace h := if_t h c4
        refine lv_iload_n hx hb dX10_leastBit_17 rfl (lv_at hl 1 rfl) ?_
        exact E_intc C hr hH h dX10_leastBit_18
set_option maxHeartbeats 4000000 in
set_option maxRecDepth 100000 in
theorem w_X10_leastBit (C : Cx p s m args meth c cX10_leastBit 2 RX10 g) (hr : meth.sig.returnType = (some .int)) {o : Int32} {a1 : Int32}  {S : sT} {H : Heap} {locs : List Loc} {ls : Array Slot} (hH : Hp g s S H locs) (hl : lv_has ls 2 [(0, .int a1)]) (h : f_X10_leastBit a1 S = some o) : W p l e (rmL 1) s m args below meth c H locs 0 0 (Qm g below args s (some (.int o)) S) (F0 m 0 ls []) := by
  obtain ⟨hx, hb, hml, hown, hts, hlk, hK⟩ := id C
  unfold f_X10_leastBit at h
  refine lv_iconst (v := (0 : Int32)) hx hb dX10_leastBit_0 (by decide) ?_
  refine lv_istore_n (lv' := [(1, .int (0 : Int32)), (0, .int a1)]) hx hb dX10_leastBit_1 rfl hl (by decide) rfl (fun ls hl => ?_)
  exact w_X10_leastBit_2 C hr   _ _ _ _ _ hH (lv_sub hl [1, 0] rfl) h
theorem c_X10_leastBit (l : Launch) (g : gT) {a1 : Int32}  {S : sT} {r : Int32} (h : f_X10_leastBit a1 S = some r) : MF l yX10_leastBit cX10_leastBit 2 (some .int) 1 g [.int a1] S (some (.int r)) S := by
  refine MF.of (own := RX10) rfl rfl (Nat.le_of_ble_eq_true rfl) ?_
  intro p e s m below meth c C hr hH ls hl
  exact w_X10_leastBit C hr (o := r)  hH hl h
theorem nd_X10_first : yX10_first.cls ≠ "java/lang/invoke/MethodHandle" ∧ yX10_first.cls ≠ "java/lang/invoke/VarHandle" ∧ (parseMethodDescriptor yX10_first.desc).map (fun d => d.parameters.length) = some 1 := by decide +kernel
def b_X10_first_14 (S : sT) (j8 : Int32 → Int32 → Option (Int32)) (x9 : Int32) (k10 : Int32 → Option (Int32)) : Option (Int32) :=
 bn (f_X1_turnCount  S) (fun r12 =>
 (if r12 < x9 then
 some (-1 : Int32)
 else
 bn (f_X1_wallBehind x9 S) (fun r14 =>
 nl r14 (
 (if (0 : Int32) = (0 : Int32) then
 lt (x9 + (1 : Int32)) (fun x17 =>
 k10 x17)
 else
 j8 x9 (0 : Int32))) (fun w15 => ck (decide (w15 < 16)) (
 bn (f_X9_weakBits w15 S) (fun r20 =>
 (if r20 = (0 : Int32) then
 lt (x9 + (1 : Int32)) (fun x21 =>
 k10 x21)
 else
 j8 x9 r20)))))))
def l_X10_first_14 (S : sT) (j8 : Int32 → Int32 → Option (Int32)) : Nat → Int32 → Option (Int32)
 | 0, _ => none
 | n + 1, x9 => b_X10_first_14 S j8 x9 (l_X10_first_14 S j8 n)
theorem l_X10_first_14_s (S : sT) (j8 : Int32 → Int32 → Option (Int32)) (n : Nat) (x9 : Int32) : l_X10_first_14 S j8 (n + 1) x9 = b_X10_first_14 S j8 x9 (l_X10_first_14 S j8 n) := rfl
def f_X10_first (a1 : Int32) (S : sT) : Option (Int32) :=
 bn (f_X10_within a1 (0 : Int32) (1 : Int32) S) (fun r2 =>
 (if r2 = (0 : Int32) then
 some (-2 : Int32)
 else
 jn (fun (x3 : Int32) (x4 : Int32) => (if a1 = (0 : Int32) then
 some x3
 else
 bn (f_X10_leastBit x4 S) (fun r6 =>
 some r6)))
 (fun j8 => l_X10_first_14 S j8 FU (0 : Int32))))
set_option maxHeartbeats 4000000 in
set_option maxRecDepth 100000 in
theorem w_X10_first_14 (C : Cx p s m args meth c cX10_first 5 RX10 g) (hr : meth.sig.returnType = (some .int)) {o : Int32}  {a1 : Int32} {S : sT}  (j8 : Int32 → Int32 → Option (Int32)) (hj8 : ∀ (x3 : Int32) (x4 : Int32) (H : Heap) (locs : List Loc) (ls : Array Slot), Hp g s S H locs → lv_has ls 5 [(1, .int a1), (2, .int x3), (4, .int x4)] → j8 x3 x4 = some o → W p l e (rmL 4) s m args below meth c H locs 0 0 (Qm g below args s (some (.int o)) S) (F0 m 57 ls [])) : ∀ (n : Nat) (x9 : Int32) (H : Heap) (locs : List Loc) (ls : Array Slot), Hp g s S H locs → lv_has ls 5 [(0, .ref (gad g 0 0)), (1, .int a1), (2, .int x9)] → l_X10_first_14 S j8 n x9 = some o → W p l e (rmL 4) s m args below meth c H locs 0 0 (Qm g below args s (some (.int o)) S) (F0 m 14 ls []) := by
  obtain ⟨hx, hb, hml, hown, hts, hlk, hK⟩ := id C
  intro n
  induction n with
  | zero =>
    intro x9 H locs ls hH hl h
    cases h
  | succ n ih =>
    intro x9 H locs ls hH hl h
    rw [l_X10_first_14_s] at h
    unfold b_X10_first_14 at h
    refine lv_iload_n hx hb dX10_first_14 rfl (lv_at hl 2 rfl) ?_
    refine lv_aload_n hx hb dX10_first_15 rfl (lv_at hl 0 rfl) ?_
    refine gf_X10_38 C hH dX10_first_16 ?_
    obtain ⟨r12, hc11, h⟩ := bn_e h
    refine r_callV1 (ki := 4) (i := 0) (ci := 1) (As := []) C hl.1 hH (c_X1_turnCount l g  hc11) q602 q27 q599 q600 q601 nd_X1_turnCount rfl (by decide) ⟨Nat.zero_le _, Nat.zero_le _⟩ (by decide) (by decide) ⟨_, rfl⟩ rfl (Nat.le_of_ble_eq_true rfl) dX10_first_19 (fun H locs hH => ?_)
    refine lv_icmp_gt (tgt := 77) hx hb dX10_first_22 (by decide) (fun c23 => ?_) (fun c23 => ?_)
    · replace h := if_t h c23
      refine lv_iconst (v := (-1 : Int32)) hx hb dX10_first_77 (by decide) ?_
      exact E_intc C hr hH h dX10_first_78
    · replace h := if_f h c23
      refine lv_aload_n hx hb dX10_first_25 rfl (lv_at hl 0 rfl) ?_
      refine gf_X10_38 C hH dX10_first_26 ?_
      refine lv_iload_n hx hb dX10_first_29 rfl (lv_at hl 2 rfl) ?_
      obtain ⟨r14, hc13, h⟩ := bn_e h
      refine r_callV1 (ki := 4) (i := 0) (ci := 1) (As := [.int x9]) C hl.1 hH (c_X1_wallBehind l g  hc13) q397 q27 q394 q395 q396 nd_X1_wallBehind rfl (by decide) ⟨Nat.zero_le _, Nat.zero_le _⟩ (by decide) (by decide) ⟨_, rfl⟩ rfl (Nat.le_of_ble_eq_true rfl) dX10_first_30 (fun H locs hH => ?_)
      cases r14 with
      | none =>
        replace h := nl_n h
        refine lv_astore_nN (lv' := [(3, .null), (0, .ref (gad g 0 0)), (1, .int a1), (2, .int x9)]) hx hb dX10_first_33 rfl hl (by decide) rfl (fun ls hl => ?_)
        refine lv_aload_nN hx hb dX10_first_34 rfl (lv_at hl 0 rfl) ?_
        refine lv_ifnonnullN hx hb dX10_first_35 ?_
        refine lv_iconst (v := (0 : Int32)) hx hb dX10_first_38 (by decide) ?_
        refine lv_goto (tgt := 50) hx hb dX10_first_39 (by decide) ?_
        refine lv_istore (lv' := [(4, .int (0 : Int32)), (3, .null), (0, .ref (gad g 0 0)), (1, .int a1), (2, .int x9)]) hx hb dX10_first_50 hl (by decide) rfl (fun ls hl => ?_)
        refine lv_iload hx hb dX10_first_52 (lv_at hl 0 rfl) ?_
        refine lv_if_eq (tgt := 71) hx hb dX10_first_54 (by decide) (fun c18 => ?_) (fun c18 => ?_)
        · replace h := if_t h c18
          obtain ⟨x17, ex17⟩ : ∃ z : Int32, z = (x9 + (1 : Int32)) := ⟨_, rfl⟩
          replace h := lt_e h ex17
          refine lv_iinc (v := x17) (lv' := [(2, .int x17), (4, .int (0 : Int32)), (3, .null), (0, .ref (gad g 0 0)), (1, .int a1)]) hx hb dX10_first_71 hl (k := 4) rfl (by rw [ex17]; rfl) (by decide) rfl (fun ls hl => ?_)
          refine lv_goto (tgt := 14) hx hb dX10_first_74 (by decide) ?_
          exact ih _ _ _ _ hH (lv_sub hl [3, 4, 0] rfl) h
        · replace h := if_f h c18
          exact hj8 _ _ _ _ _ hH (lv_sub hl [3, 4, 0] rfl) h
      | some w15 =>
        replace h := nl_s h
        obtain ⟨hv16, h⟩ := ck_e h
        have hw15 : w15 < 16 := of_decide_eq_true hv16
        refine lv_astore_n (lv' := [(3, .ref (gad g 9 w15)), (0, .ref (gad g 0 0)), (1, .int a1), (2, .int x9)]) hx hb dX10_first_33 rfl hl (by decide) rfl (fun ls hl => ?_)
        refine lv_aload_n hx hb dX10_first_34 rfl (lv_at hl 0 rfl) ?_
        refine lv_ifnonnull (tgt := 42) hx hb dX10_first_35 (by decide) ?_
        refine lv_aload_n hx hb dX10_first_42 rfl (lv_at hl 0 rfl) ?_
        refine lv_aload_n hx hb dX10_first_43 rfl (lv_at hl 1 rfl) ?_
        refine gf_X10_24 C hH dX10_first_44 ?_
        obtain ⟨r20, hc19, h⟩ := bn_e h
        refine r_callV1 (ki := 9) (i := w15) (ci := 8) (As := [.ref (gad g 2 0)]) C hl.1 hH (c_X9_weakBits l g hw15 hc19) q507 q80 q504 q505 q506 nd_X9_weakBits rfl (by decide) ⟨Nat.zero_le _, Nat.zero_le _⟩ (by decide) hw15 ⟨_, rfl⟩ rfl (Nat.le_of_ble_eq_true rfl) dX10_first_47 (fun H locs hH => ?_)
        refine lv_istore (lv' := [(4, .int r20), (3, .ref (gad g 9 w15)), (0, .ref (gad g 0 0)), (1, .int a1), (2, .int x9)]) hx hb dX10_first_50 hl (by decide) rfl (fun ls hl => ?_)
        refine lv_iload hx hb dX10_first_52 (lv_at hl 0 rfl) ?_
        refine lv_if_eq (tgt := 71) hx hb dX10_first_54 (by decide) (fun c22 => ?_) (fun c22 => ?_)
        · replace h := if_t h c22
          obtain ⟨x21, ex21⟩ : ∃ z : Int32, z = (x9 + (1 : Int32)) := ⟨_, rfl⟩
          replace h := lt_e h ex21
          refine lv_iinc (v := x21) (lv' := [(2, .int x21), (4, .int r20), (3, .ref (gad g 9 w15)), (0, .ref (gad g 0 0)), (1, .int a1)]) hx hb dX10_first_71 hl (k := 4) rfl (by rw [ex21]; rfl) (by decide) rfl (fun ls hl => ?_)
          refine lv_goto (tgt := 14) hx hb dX10_first_74 (by decide) ?_
          exact ih _ _ _ _ hH (lv_sub hl [3, 4, 0] rfl) h
        · replace h := if_f h c22
          exact hj8 _ _ _ _ _ hH (lv_sub hl [3, 4, 0] rfl) h
set_option maxHeartbeats 4000000 in
set_option maxRecDepth 100000 in
theorem w_X10_first (C : Cx p s m args meth c cX10_first 5 RX10 g) (hr : meth.sig.returnType = (some .int)) {o : Int32} {a1 : Int32}  {S : sT} {H : Heap} {locs : List Loc} {ls : Array Slot} (hH : Hp g s S H locs) (hl : lv_has ls 5 [(0, .ref (gad g 0 0)), (1, .int a1)]) (h : f_X10_first a1 S = some o) : W p l e (rmL 4) s m args below meth c H locs 0 0 (Qm g below args s (some (.int o)) S) (F0 m 0 ls []) := by
  obtain ⟨hx, hb, hml, hown, hts, hlk, hK⟩ := id C
  unfold f_X10_first at h
  refine lv_iload_n hx hb dX10_first_0 rfl (lv_at hl 1 rfl) ?_
  refine lv_iconst (v := (0 : Int32)) hx hb dX10_first_1 (by decide) ?_
  refine lv_iconst (v := (1 : Int32)) hx hb dX10_first_2 (by decide) ?_
  obtain ⟨r2, hc1, h⟩ := bn_e h
  refine r_callS1 (As := [.int a1, .int (0 : Int32), .int (1 : Int32)]) C hl.1 hH (c_X10_within l g  hc1) q153 q2 q151 q152 nd_X10_within rfl (by decide) ⟨Nat.zero_le _, Nat.zero_le _⟩ (Nat.le_of_ble_eq_true rfl) dX10_first_3 (fun H locs hH => ?_)
  refine lv_if_ne (tgt := 12) hx hb dX10_first_6 (by decide) (fun c24 => ?_) (fun c24 => ?_)
  · replace h := if_f h c24
    refine lv_iconst (v := (0 : Int32)) hx hb dX10_first_12 (by decide) ?_
    refine lv_istore_n (lv' := [(2, .int (0 : Int32)), (0, .ref (gad g 0 0)), (1, .int a1)]) hx hb dX10_first_13 rfl hl (by decide) rfl (fun ls hl => ?_)
    obtain ⟨j8, ej8, h⟩ := jn_e h
    have hj8 : ∀ (x3 : Int32) (x4 : Int32) (H : Heap) (locs : List Loc) (ls : Array Slot), Hp g s S H locs → lv_has ls 5 [(1, .int a1), (2, .int x3), (4, .int x4)] → j8 x3 x4 = some o → W p l e (rmL 4) s m args below meth c H locs 0 0 (Qm g below args s (some (.int o)) S) (F0 m 57 ls []) := by
      intro x3 x4 H locs ls hH hl h
      rw [ej8] at h
      try dsimp only at h
      refine lv_iload_n hx hb dX10_first_57 rfl (lv_at hl 0 rfl) ?_
      refine lv_if_ne (tgt := 65) hx hb dX10_first_58 (by decide) (fun c7 => ?_) (fun c7 => ?_)
      · replace h := if_f h c7
        refine lv_iload hx hb dX10_first_65 (lv_at hl 2 rfl) ?_
        obtain ⟨r6, hc5, h⟩ := bn_e h
        refine r_callS1 (As := [.int x4]) C hl.1 hH (c_X10_leastBit l g  hc5) q605 q2 q603 q604 nd_X10_leastBit rfl (by decide) ⟨Nat.zero_le _, Nat.zero_le _⟩ (Nat.le_of_ble_eq_true rfl) dX10_first_67 (fun H locs hH => ?_)
        exact E_intc C hr hH h dX10_first_70
      · replace h := if_t h c7
        refine lv_iload_n hx hb dX10_first_61 rfl (lv_at hl 1 rfl) ?_
        refine lv_goto (tgt := 70) hx hb dX10_first_62 (by decide) ?_
        exact E_intc C hr hH h dX10_first_70
    clear ej8
    exact w_X10_first_14 C hr  j8 hj8 _ _ _ _ _ hH (lv_sub hl [1, 2, 0] rfl) h
  · replace h := if_t h c24
    refine lv_bipush (v := (-2 : Int32)) hx hb dX10_first_9 (by decide) ?_
    exact E_intc C hr hH h dX10_first_11
theorem c_X10_first (l : Launch) (g : gT) {a1 : Int32}  {S : sT} {r : Int32} (h : f_X10_first a1 S = some r) : MF l yX10_first cX10_first 5 (some .int) 4 g [.ref (gad g 0 0), .int a1] S (some (.int r)) S := by
  refine MF.of (own := RX10) rfl rfl (Nat.le_of_ble_eq_true rfl) ?_
  intro p e s m below meth c C hr hH ls hl
  exact w_X10_first C hr (o := r)  hH hl h
theorem nd_X10_highest : yX10_highest.cls ≠ "java/lang/invoke/MethodHandle" ∧ yX10_highest.cls ≠ "java/lang/invoke/VarHandle" ∧ (parseMethodDescriptor yX10_highest.desc).map (fun d => d.parameters.length) = some 0 := by decide +kernel
def f_X10_highest  (S : sT) : Option (Int32) :=
 bn (f_X1_last  S) (fun r2 =>
 ck (decide (r2 < 16)) (
 bn (f_X9_highestColumn r2 S) (fun r5 =>
 some r5)))
set_option maxHeartbeats 4000000 in
set_option maxRecDepth 100000 in
theorem w_X10_highest (C : Cx p s m args meth c cX10_highest 1 RX10 g) (hr : meth.sig.returnType = (some .int)) {o : Int32}   {S : sT} {H : Heap} {locs : List Loc} {ls : Array Slot} (hH : Hp g s S H locs) (hl : lv_has ls 1 [(0, .ref (gad g 0 0))]) (h : f_X10_highest  S = some o) : W p l e (rmL 3) s m args below meth c H locs 0 0 (Qm g below args s (some (.int o)) S) (F0 m 0 ls []) := by
  obtain ⟨hx, hb, hml, hown, hts, hlk, hK⟩ := id C
  unfold f_X10_highest at h
  refine lv_aload_n hx hb dX10_highest_0 rfl (lv_at hl 0 rfl) ?_
  refine gf_X10_38 C hH dX10_highest_1 ?_
  obtain ⟨r2, hc1, h⟩ := bn_e h
  refine r_callV1 (ki := 4) (i := 0) (ci := 1) (As := []) C hl.1 hH (c_X1_last l g  hc1) q621 q27 q618 q619 q620 nd_X1_last rfl (by decide) ⟨Nat.zero_le _, Nat.zero_le _⟩ (by decide) (by decide) ⟨_, rfl⟩ rfl (Nat.le_of_ble_eq_true rfl) dX10_highest_4 (fun H locs hH => ?_)
  obtain ⟨hv3, h⟩ := ck_e h
  have hr2 : r2 < 16 := of_decide_eq_true hv3
  obtain ⟨r5, hc4, h⟩ := bn_e h
  refine r_callV1 (ki := 9) (i := r2) (ci := 8) (As := []) C hl.1 hH (c_X9_highestColumn l g hr2 hc4) q626 q80 q623 q624 q625 nd_X9_highestColumn rfl (by decide) ⟨Nat.zero_le _, Nat.zero_le _⟩ (by decide) hr2 ⟨_, rfl⟩ rfl (Nat.le_of_ble_eq_true rfl) dX10_highest_7 (fun H locs hH => ?_)
  exact E_intc C hr hH h dX10_highest_10
theorem c_X10_highest (l : Launch) (g : gT)   {S : sT} {r : Int32} (h : f_X10_highest  S = some r) : MF l yX10_highest cX10_highest 1 (some .int) 3 g [.ref (gad g 0 0)] S (some (.int r)) S := by
  refine MF.of (own := RX10) rfl rfl (Nat.le_of_ble_eq_true rfl) ?_
  intro p e s m below meth c C hr hH ls hl
  exact w_X10_highest C hr (o := r)  hH hl h
theorem nd_X10_mend : yX10_mend.cls ≠ "java/lang/invoke/MethodHandle" ∧ yX10_mend.cls ≠ "java/lang/invoke/VarHandle" ∧ (parseMethodDescriptor yX10_mend.desc).map (fun d => d.parameters.length) = some 1 := by decide +kernel
def f_X10_mend (a1 : Int32) (S : sT) : Option (Int32 × sT) :=
 bn (f_X10_within a1 (-1 : Int32) (2 : Int32) S) (fun r2 =>
 (if r2 = (0 : Int32) then
 some ((-2 : Int32), S)
 else
 bn (f_X1_last  S) (fun r4 =>
 ck (decide (r4 < 16)) (
 bn (f_X2_searchMend r4 S) (fun S7 =>
 bn (f_X2_told a1 S7) (fun r9 =>
 some (r9, S7)))))))
set_option maxHeartbeats 4000000 in
set_option maxRecDepth 100000 in
theorem w_X10_mend (C : Cx p s m args meth c cX10_mend 2 RX10 g) (hr : meth.sig.returnType = (some .int)) {o : Int32 × sT} {a1 : Int32}  {S : sT} {H : Heap} {locs : List Loc} {ls : Array Slot} (hH : Hp g s S H locs) (hl : lv_has ls 2 [(0, .ref (gad g 0 0)), (1, .int a1)]) (h : f_X10_mend a1 S = some o) : W p l e (rmL 19) s m args below meth c H locs 0 0 (Qm g below args s (some (.int o.1)) o.2) (F0 m 0 ls []) := by
  obtain ⟨hx, hb, hml, hown, hts, hlk, hK⟩ := id C
  unfold f_X10_mend at h
  refine lv_iload_n hx hb dX10_mend_0 rfl (lv_at hl 1 rfl) ?_
  refine lv_iconst (v := (-1 : Int32)) hx hb dX10_mend_1 (by decide) ?_
  refine lv_iconst (v := (2 : Int32)) hx hb dX10_mend_2 (by decide) ?_
  obtain ⟨r2, hc1, h⟩ := bn_e h
  refine r_callS1 (As := [.int a1, .int (-1 : Int32), .int (2 : Int32)]) C hl.1 hH (c_X10_within l g  hc1) q153 q2 q151 q152 nd_X10_within rfl (by decide) ⟨Nat.zero_le _, Nat.zero_le _⟩ (Nat.le_of_ble_eq_true rfl) dX10_mend_3 (fun H locs hH => ?_)
  refine lv_if_ne (tgt := 12) hx hb dX10_mend_6 (by decide) (fun c10 => ?_) (fun c10 => ?_)
  · replace h := if_f h c10
    refine lv_aload_n hx hb dX10_mend_12 rfl (lv_at hl 0 rfl) ?_
    refine gf_X10_45 C hH dX10_mend_13 ?_
    refine lv_aload_n hx hb dX10_mend_16 rfl (lv_at hl 0 rfl) ?_
    refine gf_X10_38 C hH dX10_mend_17 ?_
    obtain ⟨r4, hc3, h⟩ := bn_e h
    refine r_callV1 (ki := 4) (i := 0) (ci := 1) (As := []) C hl.1 hH (c_X1_last l g  hc3) q621 q27 q618 q619 q620 nd_X1_last rfl (by decide) ⟨Nat.zero_le _, Nat.zero_le _⟩ (by decide) (by decide) ⟨_, rfl⟩ rfl (Nat.le_of_ble_eq_true rfl) dX10_mend_20 (fun H locs hH => ?_)
    obtain ⟨hv5, h⟩ := ck_e h
    have hr4 : r4 < 16 := of_decide_eq_true hv5
    refine lv_aload_n hx hb dX10_mend_23 rfl (lv_at hl 0 rfl) ?_
    refine gf_X10_24 C hH dX10_mend_24 ?_
    obtain ⟨S7, hc6, h⟩ := bn_e h
    refine r_callV0 (ki := 5) (i := 0) (ci := 2) (As := [.ref (gad g 9 r4), .ref (gad g 2 0)]) C hl.1 hH (c_X2_searchMend l g hr4 hc6) q642 q31 q639 q640 q641 nd_X2_searchMend rfl (by decide) ⟨Nat.zero_le _, Nat.zero_le _⟩ (by decide) (by decide) ⟨_, rfl⟩ rfl (Nat.le_of_ble_eq_true rfl) dX10_mend_27 (fun H locs hH => ?_)
    refine lv_aload_n hx hb dX10_mend_30 rfl (lv_at hl 0 rfl) ?_
    refine gf_X10_45 C hH dX10_mend_31 ?_
    refine lv_iload_n hx hb dX10_mend_34 rfl (lv_at hl 1 rfl) ?_
    obtain ⟨r9, hc8, h⟩ := bn_e h
    refine r_callV1 (ki := 5) (i := 0) (ci := 2) (As := [.int a1]) C hl.1 hH (c_X2_told l g  hc8) q659 q31 q656 q657 q658 nd_X2_told rfl (by decide) ⟨Nat.zero_le _, Nat.zero_le _⟩ (by decide) (by decide) ⟨_, rfl⟩ rfl (Nat.le_of_ble_eq_true rfl) dX10_mend_35 (fun H locs hH => ?_)
    exact E_int C hr hH h dX10_mend_38
  · replace h := if_t h c10
    refine lv_bipush (v := (-2 : Int32)) hx hb dX10_mend_9 (by decide) ?_
    exact E_int C hr hH h dX10_mend_11
theorem c_X10_mend (l : Launch) (g : gT) {a1 : Int32}  {S : sT} {r : Int32} {S1 : sT} (h : f_X10_mend a1 S = some (r, S1)) : MF l yX10_mend cX10_mend 2 (some .int) 19 g [.ref (gad g 0 0), .int a1] S (some (.int r)) S1 := by
  refine MF.of (own := RX10) rfl rfl (Nat.le_of_ble_eq_true rfl) ?_
  intro p e s m below meth c C hr hH ls hl
  exact w_X10_mend C hr (o := (r, S1))  hH hl h
theorem nd_X10_open : yX10_open.cls ≠ "java/lang/invoke/MethodHandle" ∧ yX10_open.cls ≠ "java/lang/invoke/VarHandle" ∧ (parseMethodDescriptor yX10_open.desc).map (fun d => d.parameters.length) = some 2 := by decide +kernel
def f_X10_open (a1 : Int32) (a2 : Int32) (S : sT) : Option (Int32 × sT) :=
 bn (f_X10_within a1 (0 : Int32) (8 : Int32) S) (fun r2 =>
 (if r2 = (0 : Int32) then
 some ((-2 : Int32), S)
 else
 bn (f_X10_within a2 (-1 : Int32) (2 : Int32) S) (fun r4 =>
 (if r4 = (0 : Int32) then
 some ((-2 : Int32), S)
 else
 bn (f_X1_last  S) (fun r6 =>
 ck (decide (r6 < 16)) (
 bn (f_X2_searchOpen r6 a1 S) (fun S9 =>
 bn (f_X2_told a2 S9) (fun r11 =>
 some (r11, S9)))))))))
set_option maxHeartbeats 4000000 in
set_option maxRecDepth 100000 in
theorem w_X10_open (C : Cx p s m args meth c cX10_open 3 RX10 g) (hr : meth.sig.returnType = (some .int)) {o : Int32 × sT} {a1 : Int32} {a2 : Int32}  {S : sT} {H : Heap} {locs : List Loc} {ls : Array Slot} (hH : Hp g s S H locs) (hl : lv_has ls 3 [(0, .ref (gad g 0 0)), (1, .int a1), (2, .int a2)]) (h : f_X10_open a1 a2 S = some o) : W p l e (rmL 19) s m args below meth c H locs 0 0 (Qm g below args s (some (.int o.1)) o.2) (F0 m 0 ls []) := by
  obtain ⟨hx, hb, hml, hown, hts, hlk, hK⟩ := id C
  unfold f_X10_open at h
  refine lv_iload_n hx hb dX10_open_0 rfl (lv_at hl 1 rfl) ?_
  refine lv_iconst (v := (0 : Int32)) hx hb dX10_open_1 (by decide) ?_
  refine lv_bipush (v := (8 : Int32)) hx hb dX10_open_2 (by decide) ?_
  obtain ⟨r2, hc1, h⟩ := bn_e h
  refine r_callS1 (As := [.int a1, .int (0 : Int32), .int (8 : Int32)]) C hl.1 hH (c_X10_within l g  hc1) q153 q2 q151 q152 nd_X10_within rfl (by decide) ⟨Nat.zero_le _, Nat.zero_le _⟩ (Nat.le_of_ble_eq_true rfl) dX10_open_4 (fun H locs hH => ?_)
  refine lv_if_eq (tgt := 19) hx hb dX10_open_7 (by decide) (fun c13 => ?_) (fun c13 => ?_)
  · replace h := if_t h c13
    refine lv_bipush (v := (-2 : Int32)) hx hb dX10_open_19 (by decide) ?_
    exact E_int C hr hH h dX10_open_21
  · replace h := if_f h c13
    refine lv_iload_n hx hb dX10_open_10 rfl (lv_at hl 2 rfl) ?_
    refine lv_iconst (v := (-1 : Int32)) hx hb dX10_open_11 (by decide) ?_
    refine lv_iconst (v := (2 : Int32)) hx hb dX10_open_12 (by decide) ?_
    obtain ⟨r4, hc3, h⟩ := bn_e h
    refine r_callS1 (As := [.int a2, .int (-1 : Int32), .int (2 : Int32)]) C hl.1 hH (c_X10_within l g  hc3) q153 q2 q151 q152 nd_X10_within rfl (by decide) ⟨Nat.zero_le _, Nat.zero_le _⟩ (Nat.le_of_ble_eq_true rfl) dX10_open_13 (fun H locs hH => ?_)
    refine lv_if_ne (tgt := 22) hx hb dX10_open_16 (by decide) (fun c12 => ?_) (fun c12 => ?_)
    · replace h := if_f h c12
      refine lv_aload_n hx hb dX10_open_22 rfl (lv_at hl 0 rfl) ?_
      refine gf_X10_45 C hH dX10_open_23 ?_
      refine lv_aload_n hx hb dX10_open_26 rfl (lv_at hl 0 rfl) ?_
      refine gf_X10_38 C hH dX10_open_27 ?_
      obtain ⟨r6, hc5, h⟩ := bn_e h
      refine r_callV1 (ki := 4) (i := 0) (ci := 1) (As := []) C hl.1 hH (c_X1_last l g  hc5) q621 q27 q618 q619 q620 nd_X1_last rfl (by decide) ⟨Nat.zero_le _, Nat.zero_le _⟩ (by decide) (by decide) ⟨_, rfl⟩ rfl (Nat.le_of_ble_eq_true rfl) dX10_open_30 (fun H locs hH => ?_)
      obtain ⟨hv7, h⟩ := ck_e h
      have hr6 : r6 < 16 := of_decide_eq_true hv7
      refine lv_aload_n hx hb dX10_open_33 rfl (lv_at hl 0 rfl) ?_
      refine gf_X10_24 C hH dX10_open_34 ?_
      refine lv_iload_n hx hb dX10_open_37 rfl (lv_at hl 1 rfl) ?_
      obtain ⟨S9, hc8, h⟩ := bn_e h
      refine r_callV0 (ki := 5) (i := 0) (ci := 2) (As := [.ref (gad g 9 r6), .ref (gad g 2 0), .int a1]) C hl.1 hH (c_X2_searchOpen l g hr6 hc8) q687 q31 q684 q685 q686 nd_X2_searchOpen rfl (by decide) ⟨Nat.zero_le _, Nat.zero_le _⟩ (by decide) (by decide) ⟨_, rfl⟩ rfl (Nat.le_of_ble_eq_true rfl) dX10_open_38 (fun H locs hH => ?_)
      refine lv_aload_n hx hb dX10_open_41 rfl (lv_at hl 0 rfl) ?_
      refine gf_X10_45 C hH dX10_open_42 ?_
      refine lv_iload_n hx hb dX10_open_45 rfl (lv_at hl 2 rfl) ?_
      obtain ⟨r11, hc10, h⟩ := bn_e h
      refine r_callV1 (ki := 5) (i := 0) (ci := 2) (As := [.int a2]) C hl.1 hH (c_X2_told l g  hc10) q659 q31 q656 q657 q658 nd_X2_told rfl (by decide) ⟨Nat.zero_le _, Nat.zero_le _⟩ (by decide) (by decide) ⟨_, rfl⟩ rfl (Nat.le_of_ble_eq_true rfl) dX10_open_46 (fun H locs hH => ?_)
      exact E_int C hr hH h dX10_open_49
    · replace h := if_t h c12
      refine lv_bipush (v := (-2 : Int32)) hx hb dX10_open_19 (by decide) ?_
      exact E_int C hr hH h dX10_open_21
theorem c_X10_open (l : Launch) (g : gT) {a1 : Int32} {a2 : Int32}  {S : sT} {r : Int32} {S1 : sT} (h : f_X10_open a1 a2 S = some (r, S1)) : MF l yX10_open cX10_open 3 (some .int) 19 g [.ref (gad g 0 0), .int a1, .int a2] S (some (.int r)) S1 := by
  refine MF.of (own := RX10) rfl rfl (Nat.le_of_ble_eq_true rfl) ?_
  intro p e s m below meth c C hr hH ls hl
  exact w_X10_open C hr (o := (r, S1))  hH hl h
theorem nd_X10_sides : yX10_sides.cls ≠ "java/lang/invoke/MethodHandle" ∧ yX10_sides.cls ≠ "java/lang/invoke/VarHandle" ∧ (parseMethodDescriptor yX10_sides.desc).map (fun d => d.parameters.length) = some 2 := by decide +kernel
def f_X10_sides (a1 : Int32) (a2 : Int32) (S : sT) : Option (Int32 × sT) :=
 bn (f_X10_within a1 (1 : Int32) (3 : Int32) S) (fun r2 =>
 (if r2 = (0 : Int32) then
 some ((-2 : Int32), S)
 else
 bn (f_X10_within a2 (0 : Int32) (1 : Int32) S) (fun r4 =>
 (if r4 = (0 : Int32) then
 some ((-2 : Int32), S)
 else
 bn (f_X1_last  S) (fun r6 =>
 ck (decide (r6 < 16)) (
 bn (f_X1_turnCount  S) (fun r9 =>
 bn (f_X3_brotherOf r9 S) (fun r11 =>
 bn2 (f_X2_playOn r6 a1 r11 S) (fun r13 S14 =>
 (if a2 = (0 : Int32) then
 some (r13, S14)
 else
 bn (f_X2_firstMove  S14) (fun r16 =>
 some (r16, S14))))))))))))
set_option maxHeartbeats 4000000 in
set_option maxRecDepth 100000 in
theorem w_X10_sides (C : Cx p s m args meth c cX10_sides 4 RX10 g) (hr : meth.sig.returnType = (some .int)) {o : Int32 × sT} {a1 : Int32} {a2 : Int32}  {S : sT} {H : Heap} {locs : List Loc} {ls : Array Slot} (hH : Hp g s S H locs) (hl : lv_has ls 4 [(0, .ref (gad g 0 0)), (1, .int a1), (2, .int a2)]) (h : f_X10_sides a1 a2 S = some o) : W p l e (rmL 19) s m args below meth c H locs 0 0 (Qm g below args s (some (.int o.1)) o.2) (F0 m 0 ls []) := by
  obtain ⟨hx, hb, hml, hown, hts, hlk, hK⟩ := id C
  unfold f_X10_sides at h
  refine lv_iload_n hx hb dX10_sides_0 rfl (lv_at hl 1 rfl) ?_
  refine lv_iconst (v := (1 : Int32)) hx hb dX10_sides_1 (by decide) ?_
  refine lv_iconst (v := (3 : Int32)) hx hb dX10_sides_2 (by decide) ?_
  obtain ⟨r2, hc1, h⟩ := bn_e h
  refine r_callS1 (As := [.int a1, .int (1 : Int32), .int (3 : Int32)]) C hl.1 hH (c_X10_within l g  hc1) q153 q2 q151 q152 nd_X10_within rfl (by decide) ⟨Nat.zero_le _, Nat.zero_le _⟩ (Nat.le_of_ble_eq_true rfl) dX10_sides_3 (fun H locs hH => ?_)
  refine lv_if_eq (tgt := 18) hx hb dX10_sides_6 (by decide) (fun c19 => ?_) (fun c19 => ?_)
  · replace h := if_t h c19
    refine lv_bipush (v := (-2 : Int32)) hx hb dX10_sides_18 (by decide) ?_
    exact E_int C hr hH h dX10_sides_20
  · replace h := if_f h c19
    refine lv_iload_n hx hb dX10_sides_9 rfl (lv_at hl 2 rfl) ?_
    refine lv_iconst (v := (0 : Int32)) hx hb dX10_sides_10 (by decide) ?_
    refine lv_iconst (v := (1 : Int32)) hx hb dX10_sides_11 (by decide) ?_
    obtain ⟨r4, hc3, h⟩ := bn_e h
    refine r_callS1 (As := [.int a2, .int (0 : Int32), .int (1 : Int32)]) C hl.1 hH (c_X10_within l g  hc3) q153 q2 q151 q152 nd_X10_within rfl (by decide) ⟨Nat.zero_le _, Nat.zero_le _⟩ (Nat.le_of_ble_eq_true rfl) dX10_sides_12 (fun H locs hH => ?_)
    refine lv_if_ne (tgt := 21) hx hb dX10_sides_15 (by decide) (fun c18 => ?_) (fun c18 => ?_)
    · replace h := if_f h c18
      refine lv_aload_n hx hb dX10_sides_21 rfl (lv_at hl 0 rfl) ?_
      refine gf_X10_45 C hH dX10_sides_22 ?_
      refine lv_aload_n hx hb dX10_sides_25 rfl (lv_at hl 0 rfl) ?_
      refine gf_X10_38 C hH dX10_sides_26 ?_
      obtain ⟨r6, hc5, h⟩ := bn_e h
      refine r_callV1 (ki := 4) (i := 0) (ci := 1) (As := []) C hl.1 hH (c_X1_last l g  hc5) q621 q27 q618 q619 q620 nd_X1_last rfl (by decide) ⟨Nat.zero_le _, Nat.zero_le _⟩ (by decide) (by decide) ⟨_, rfl⟩ rfl (Nat.le_of_ble_eq_true rfl) dX10_sides_29 (fun H locs hH => ?_)
      obtain ⟨hv7, h⟩ := ck_e h
      have hr6 : r6 < 16 := of_decide_eq_true hv7
      refine lv_aload_n hx hb dX10_sides_32 rfl (lv_at hl 0 rfl) ?_
      refine gf_X10_24 C hH dX10_sides_33 ?_
      refine lv_iload_n hx hb dX10_sides_36 rfl (lv_at hl 1 rfl) ?_
      refine lv_aload_n hx hb dX10_sides_37 rfl (lv_at hl 0 rfl) ?_
      refine gf_X10_24 C hH dX10_sides_38 ?_
      refine lv_aload_n hx hb dX10_sides_41 rfl (lv_at hl 0 rfl) ?_
      refine gf_X10_38 C hH dX10_sides_42 ?_
      obtain ⟨r9, hc8, h⟩ := bn_e h
      refine r_callV1 (ki := 4) (i := 0) (ci := 1) (As := []) C hl.1 hH (c_X1_turnCount l g  hc8) q602 q27 q599 q600 q601 nd_X1_turnCount rfl (by decide) ⟨Nat.zero_le _, Nat.zero_le _⟩ (by decide) (by decide) ⟨_, rfl⟩ rfl (Nat.le_of_ble_eq_true rfl) dX10_sides_45 (fun H locs hH => ?_)
      obtain ⟨r11, hc10, h⟩ := bn_e h
      refine r_callV1 (ki := 2) (i := 0) (ci := 3) (As := [.int r9]) C hl.1 hH (c_X3_brotherOf l g  hc10) q266 q19 q576 q264 q265 nd_X3_brotherOf rfl (by decide) ⟨Nat.zero_le _, Nat.zero_le _⟩ (by decide) (by decide) ⟨_, rfl⟩ rfl (Nat.le_of_ble_eq_true rfl) dX10_sides_48 (fun H locs hH => ?_)
      obtain ⟨r13, S14, hc12, h⟩ := bn2_e h
      refine r_callV1 (ki := 5) (i := 0) (ci := 2) (As := [.ref (gad g 9 r6), .ref (gad g 2 0), .int a1, .int r11]) C hl.1 hH (c_X2_playOn l g hr6 hc12) q708 q31 q705 q706 q707 nd_X2_playOn rfl (by decide) ⟨Nat.zero_le _, Nat.zero_le _⟩ (by decide) (by decide) ⟨_, rfl⟩ rfl (Nat.le_of_ble_eq_true rfl) dX10_sides_51 (fun H locs hH => ?_)
      refine lv_istore_n (lv' := [(3, .int r13), (0, .ref (gad g 0 0)), (1, .int a1), (2, .int a2)]) hx hb dX10_sides_54 rfl hl (by decide) rfl (fun ls hl => ?_)
      refine lv_iload_n hx hb dX10_sides_55 rfl (lv_at hl 3 rfl) ?_
      refine lv_if_ne (tgt := 63) hx hb dX10_sides_56 (by decide) (fun c17 => ?_) (fun c17 => ?_)
      · replace h := if_f h c17
        refine lv_aload_n hx hb dX10_sides_63 rfl (lv_at hl 1 rfl) ?_
        refine gf_X10_45 C hH dX10_sides_64 ?_
        obtain ⟨r16, hc15, h⟩ := bn_e h
        refine r_callV1 (ki := 5) (i := 0) (ci := 2) (As := []) C hl.1 hH (c_X2_firstMove l g  hc15) q719 q31 q716 q717 q718 nd_X2_firstMove rfl (by decide) ⟨Nat.zero_le _, Nat.zero_le _⟩ (by decide) (by decide) ⟨_, rfl⟩ rfl (Nat.le_of_ble_eq_true rfl) dX10_sides_67 (fun H locs hH => ?_)
        exact E_int C hr hH h dX10_sides_70
      · replace h := if_t h c17
        refine lv_iload_n hx hb dX10_sides_59 rfl (lv_at hl 0 rfl) ?_
        refine lv_goto (tgt := 70) hx hb dX10_sides_60 (by decide) ?_
        exact E_int C hr hH h dX10_sides_70
    · replace h := if_t h c18
      refine lv_bipush (v := (-2 : Int32)) hx hb dX10_sides_18 (by decide) ?_
      exact E_int C hr hH h dX10_sides_20
theorem c_X10_sides (l : Launch) (g : gT) {a1 : Int32} {a2 : Int32}  {S : sT} {r : Int32} {S1 : sT} (h : f_X10_sides a1 a2 S = some (r, S1)) : MF l yX10_sides cX10_sides 4 (some .int) 19 g [.ref (gad g 0 0), .int a1, .int a2] S (some (.int r)) S1 := by
  refine MF.of (own := RX10) rfl rfl (Nat.le_of_ble_eq_true rfl) ?_
  intro p e s m below meth c C hr hH ls hl
  exact w_X10_sides C hr (o := (r, S1))  hH hl h
theorem nd_X10_seen : yX10_seen.cls ≠ "java/lang/invoke/MethodHandle" ∧ yX10_seen.cls ≠ "java/lang/invoke/VarHandle" ∧ (parseMethodDescriptor yX10_seen.desc).map (fun d => d.parameters.length) = some 3 := by decide +kernel
def f_X10_seen (a1 : Int32) (a2 : Int32) (a3 : Int32) (S : sT) : Option (Int32 × sT) :=
 bn (f_X6_allows a1 a2 a3 S) (fun r2 =>
 (if r2 = (0 : Int32) then
 some ((-2 : Int32), S)
 else
 bn (f_X6_isFull  S) (fun r4 =>
 (if r4 = (0 : Int32) then
 bn (f_X6_add a1 a2 a3 S) (fun S6 =>
 bn (f_X6_size  S6) (fun r8 =>
 some (r8, S6)))
 else
 some ((-4 : Int32), S)))))
set_option maxHeartbeats 4000000 in
set_option maxRecDepth 100000 in
theorem w_X10_seen (C : Cx p s m args meth c cX10_seen 4 RX10 g) (hr : meth.sig.returnType = (some .int)) {o : Int32 × sT} {a1 : Int32} {a2 : Int32} {a3 : Int32}  {S : sT} {H : Heap} {locs : List Loc} {ls : Array Slot} (hH : Hp g s S H locs) (hl : lv_has ls 4 [(0, .ref (gad g 0 0)), (1, .int a1), (2, .int a2), (3, .int a3)]) (h : f_X10_seen a1 a2 a3 S = some o) : W p l e (rmL 3) s m args below meth c H locs 0 0 (Qm g below args s (some (.int o.1)) o.2) (F0 m 0 ls []) := by
  obtain ⟨hx, hb, hml, hown, hts, hlk, hK⟩ := id C
  unfold f_X10_seen at h
  refine lv_iload_n hx hb dX10_seen_0 rfl (lv_at hl 1 rfl) ?_
  refine lv_iload_n hx hb dX10_seen_1 rfl (lv_at hl 2 rfl) ?_
  refine lv_iload_n hx hb dX10_seen_2 rfl (lv_at hl 3 rfl) ?_
  obtain ⟨r2, hc1, h⟩ := bn_e h
  refine r_callS1 (As := [.int a1, .int a2, .int a3]) C hl.1 hH (c_X6_allows l g  hc1) q741 q39 q739 q740 nd_X6_allows rfl (by decide) ⟨Nat.zero_le _, Nat.zero_le _⟩ (Nat.le_of_ble_eq_true rfl) dX10_seen_3 (fun H locs hH => ?_)
  refine lv_if_ne (tgt := 12) hx hb dX10_seen_6 (by decide) (fun c10 => ?_) (fun c10 => ?_)
  · replace h := if_f h c10
    refine lv_aload_n hx hb dX10_seen_12 rfl (lv_at hl 0 rfl) ?_
    refine gf_X10_59 C hH dX10_seen_13 ?_
    obtain ⟨r4, hc3, h⟩ := bn_e h
    refine r_callV1 (ki := 7) (i := 0) (ci := 6) (As := []) C hl.1 hH (c_X6_isFull l g  hc3) q745 q39 q742 q743 q744 nd_X6_isFull rfl (by decide) ⟨Nat.zero_le _, Nat.zero_le _⟩ (by decide) (by decide) ⟨_, rfl⟩ rfl (Nat.le_of_ble_eq_true rfl) dX10_seen_16 (fun H locs hH => ?_)
    refine lv_if_eq (tgt := 25) hx hb dX10_seen_19 (by decide) (fun c9 => ?_) (fun c9 => ?_)
    · replace h := if_t h c9
      refine lv_aload_n hx hb dX10_seen_25 rfl (lv_at hl 0 rfl) ?_
      refine gf_X10_59 C hH dX10_seen_26 ?_
      refine lv_iload_n hx hb dX10_seen_29 rfl (lv_at hl 1 rfl) ?_
      refine lv_iload_n hx hb dX10_seen_30 rfl (lv_at hl 2 rfl) ?_
      refine lv_iload_n hx hb dX10_seen_31 rfl (lv_at hl 3 rfl) ?_
      obtain ⟨S6, hc5, h⟩ := bn_e h
      refine r_callV0 (ki := 7) (i := 0) (ci := 6) (As := [.int a1, .int a2, .int a3]) C hl.1 hH (c_X6_add l g  hc5) q749 q39 q746 q747 q748 nd_X6_add rfl (by decide) ⟨Nat.zero_le _, Nat.zero_le _⟩ (by decide) (by decide) ⟨_, rfl⟩ rfl (Nat.le_of_ble_eq_true rfl) dX10_seen_32 (fun H locs hH => ?_)
      refine lv_aload_n hx hb dX10_seen_35 rfl (lv_at hl 0 rfl) ?_
      refine gf_X10_59 C hH dX10_seen_36 ?_
      obtain ⟨r8, hc7, h⟩ := bn_e h
      refine r_callV1 (ki := 7) (i := 0) (ci := 6) (As := []) C hl.1 hH (c_X6_size l g  hc7) q753 q39 q750 q751 q752 nd_X6_size rfl (by decide) ⟨Nat.zero_le _, Nat.zero_le _⟩ (by decide) (by decide) ⟨_, rfl⟩ rfl (Nat.le_of_ble_eq_true rfl) dX10_seen_39 (fun H locs hH => ?_)
      exact E_int C hr hH h dX10_seen_42
    · replace h := if_f h c9
      refine lv_bipush (v := (-4 : Int32)) hx hb dX10_seen_22 (by decide) ?_
      exact E_int C hr hH h dX10_seen_24
  · replace h := if_t h c10
    refine lv_bipush (v := (-2 : Int32)) hx hb dX10_seen_9 (by decide) ?_
    exact E_int C hr hH h dX10_seen_11
theorem c_X10_seen (l : Launch) (g : gT) {a1 : Int32} {a2 : Int32} {a3 : Int32}  {S : sT} {r : Int32} {S1 : sT} (h : f_X10_seen a1 a2 a3 S = some (r, S1)) : MF l yX10_seen cX10_seen 4 (some .int) 3 g [.ref (gad g 0 0), .int a1, .int a2, .int a3] S (some (.int r)) S1 := by
  refine MF.of (own := RX10) rfl rfl (Nat.le_of_ble_eq_true rfl) ?_
  intro p e s m below meth c C hr hH ls hl
  exact w_X10_seen C hr (o := (r, S1))  hH hl h
theorem nd_X10_forget : yX10_forget.cls ≠ "java/lang/invoke/MethodHandle" ∧ yX10_forget.cls ≠ "java/lang/invoke/VarHandle" ∧ (parseMethodDescriptor yX10_forget.desc).map (fun d => d.parameters.length) = some 0 := by decide +kernel
def f_X10_forget  (S : sT) : Option (Int32 × sT) :=
 bn (f_X6_size  S) (fun r2 =>
 bn (f_X6_clear  S) (fun S4 =>
 some (r2, S4)))
set_option maxHeartbeats 4000000 in
set_option maxRecDepth 100000 in
theorem w_X10_forget (C : Cx p s m args meth c cX10_forget 2 RX10 g) (hr : meth.sig.returnType = (some .int)) {o : Int32 × sT}   {S : sT} {H : Heap} {locs : List Loc} {ls : Array Slot} (hH : Hp g s S H locs) (hl : lv_has ls 2 [(0, .ref (gad g 0 0))]) (h : f_X10_forget  S = some o) : W p l e (rmL 2) s m args below meth c H locs 0 0 (Qm g below args s (some (.int o.1)) o.2) (F0 m 0 ls []) := by
  obtain ⟨hx, hb, hml, hown, hts, hlk, hK⟩ := id C
  unfold f_X10_forget at h
  refine lv_aload_n hx hb dX10_forget_0 rfl (lv_at hl 0 rfl) ?_
  refine gf_X10_59 C hH dX10_forget_1 ?_
  obtain ⟨r2, hc1, h⟩ := bn_e h
  refine r_callV1 (ki := 7) (i := 0) (ci := 6) (As := []) C hl.1 hH (c_X6_size l g  hc1) q753 q39 q750 q751 q752 nd_X6_size rfl (by decide) ⟨Nat.zero_le _, Nat.zero_le _⟩ (by decide) (by decide) ⟨_, rfl⟩ rfl (Nat.le_of_ble_eq_true rfl) dX10_forget_4 (fun H locs hH => ?_)
  refine lv_istore_n (lv' := [(1, .int r2), (0, .ref (gad g 0 0))]) hx hb dX10_forget_7 rfl hl (by decide) rfl (fun ls hl => ?_)
  refine lv_aload_n hx hb dX10_forget_8 rfl (lv_at hl 1 rfl) ?_
  refine gf_X10_59 C hH dX10_forget_9 ?_
  obtain ⟨S4, hc3, h⟩ := bn_e h
  refine r_callV0 (ki := 7) (i := 0) (ci := 6) (As := []) C hl.1 hH (c_X6_clear l g  hc3) q768 q39 q765 q766 q767 nd_X6_clear rfl (by decide) ⟨Nat.zero_le _, Nat.zero_le _⟩ (by decide) (by decide) ⟨_, rfl⟩ rfl (Nat.le_of_ble_eq_true rfl) dX10_forget_12 (fun H locs hH => ?_)
  refine lv_iload_n hx hb dX10_forget_15 rfl (lv_at hl 0 rfl) ?_
  exact E_int C hr hH h dX10_forget_16
theorem c_X10_forget (l : Launch) (g : gT)   {S : sT} {r : Int32} {S1 : sT} (h : f_X10_forget  S = some (r, S1)) : MF l yX10_forget cX10_forget 2 (some .int) 2 g [.ref (gad g 0 0)] S (some (.int r)) S1 := by
  refine MF.of (own := RX10) rfl rfl (Nat.le_of_ble_eq_true rfl) ?_
  intro p e s m below meth c C hr hH ls hl
  exact w_X10_forget C hr (o := (r, S1))  hH hl h
theorem nd_X10_read : yX10_read.cls ≠ "java/lang/invoke/MethodHandle" ∧ yX10_read.cls ≠ "java/lang/invoke/VarHandle" ∧ (parseMethodDescriptor yX10_read.desc).map (fun d => d.parameters.length) = some 1 := by decide +kernel
def b_X10_read_34 (a1 : Int32) (x5 : Int32) (x6 : Int32) (S7 : sT) (k8 : Int32 → Int32 → sT → Option (Int32 × sT)) : Option (Int32 × sT) :=
 bn (f_X5_sizeOf a1 S7) (fun r10 =>
 (if r10 ≤ (x6 + (2 : Int32)) then
 some (x5, S7)
 else
 bn (f_X6_isFull  S7) (fun r12 =>
 (if r12 = (0 : Int32) then
 bn (f_X5_itemAt a1 x6 S7) (fun r14 =>
 bn (f_X5_itemAt a1 (x6 + (1 : Int32)) S7) (fun r16 =>
 bn (f_X5_itemAt a1 (x6 + (2 : Int32)) S7) (fun r18 =>
 bn (f_X6_allows r14 r16 r18 S7) (fun r20 =>
 (if r20 = (0 : Int32) then
 some (x5, S7)
 else
 bn (f_X6_add r14 r16 r18 S7) (fun S22 =>
 lt (x5 + (1 : Int32)) (fun x23 =>
 lt (x6 + (3 : Int32)) (fun x24 =>
 k8 x23 x24 S22))))))))
 else
 some (x5, S7)))))
def l_X10_read_34 (a1 : Int32) : Nat → Int32 → Int32 → sT → Option (Int32 × sT)
 | 0, _, _, _ => none
 | n + 1, x5, x6, S7 => b_X10_read_34 a1 x5 x6 S7 (l_X10_read_34 a1 n)
theorem l_X10_read_34_s (a1 : Int32) (n : Nat) (x5 : Int32) (x6 : Int32) (S7 : sT) : l_X10_read_34 a1 (n + 1) x5 x6 S7 = b_X10_read_34 a1 x5 x6 S7 (l_X10_read_34 a1 n) := rfl
def f_X10_read (a1 : Int32) (S : sT) : Option (Int32 × sT) :=
 bn (f_X5_isSheet a1 S) (fun r2 =>
 (if r2 = (0 : Int32) then
 some ((-2 : Int32), S)
 else
 bn (f_X5_isLost a1 S) (fun r4 =>
 (if r4 = (0 : Int32) then
 l_X10_read_34 a1 FU (0 : Int32) (0 : Int32) S
 else
 bn2 (f_X5_find (1 : Int32) S) (fun r29 S30 =>
 some (r29, S30))))))
set_option maxHeartbeats 4000000 in
set_option maxRecDepth 100000 in
theorem w_X10_read_34 (C : Cx p s m args meth c cX10_read 7 RX10 g) (hr : meth.sig.returnType = (some .int)) {o : Int32 × sT}  {a1 : Int32}   : ∀ (n : Nat) (x5 : Int32) (x6 : Int32) (S7 : sT) (H : Heap) (locs : List Loc) (ls : Array Slot), Hp g s S7 H locs → lv_has ls 7 [(0, .ref (gad g 0 0)), (1, .int a1), (2, .int x5), (3, .int x6)] → l_X10_read_34 a1 n x5 x6 S7 = some o → W p l e (rmL 6) s m args below meth c H locs 0 0 (Qm g below args s (some (.int o.1)) o.2) (F0 m 34 ls []) := by
  obtain ⟨hx, hb, hml, hown, hts, hlk, hK⟩ := id C
  intro n
  induction n with
  | zero =>
    intro x5 x6 S7 H locs ls hH hl h
    cases h
  | succ n ih =>
    intro x5 x6 S7 H locs ls hH hl h
    rw [l_X10_read_34_s] at h
    unfold b_X10_read_34 at h
    refine lv_iload_n hx hb dX10_read_34 rfl (lv_at hl 3 rfl) ?_
    refine lv_iconst (v := (2 : Int32)) hx hb dX10_read_35 (by decide) ?_
    refine lv_iadd hx hb dX10_read_36 ?_
    refine lv_aload_n hx hb dX10_read_37 rfl (lv_at hl 0 rfl) ?_
    refine gf_X10_66 C hH dX10_read_38 ?_
    refine lv_iload_n hx hb dX10_read_41 rfl (lv_at hl 1 rfl) ?_
    obtain ⟨r10, hc9, h⟩ := bn_e h
    refine r_callV1 (ki := 8) (i := 0) (ci := 5) (As := [.int a1]) C hl.1 hH (c_X5_sizeOf l g  hc9) q792 q43 q789 q790 q791 nd_X5_sizeOf rfl (by decide) ⟨Nat.zero_le _, Nat.zero_le _⟩ (by decide) (by decide) ⟨_, rfl⟩ rfl (Nat.le_of_ble_eq_true rfl) dX10_read_42 (fun H locs hH => ?_)
    refine lv_icmp_ge (tgt := 131) hx hb dX10_read_45 (by decide) (fun c27 => ?_) (fun c27 => ?_)
    · replace h := if_t h c27
      refine lv_iload_n hx hb dX10_read_131 rfl (lv_at hl 2 rfl) ?_
      exact E_int C hr hH h dX10_read_132
    · replace h := if_f h c27
      refine lv_aload_n hx hb dX10_read_48 rfl (lv_at hl 0 rfl) ?_
      refine gf_X10_59 C hH dX10_read_49 ?_
      obtain ⟨r12, hc11, h⟩ := bn_e h
      refine r_callV1 (ki := 7) (i := 0) (ci := 6) (As := []) C hl.1 hH (c_X6_isFull l g  hc11) q745 q39 q742 q743 q744 nd_X6_isFull rfl (by decide) ⟨Nat.zero_le _, Nat.zero_le _⟩ (by decide) (by decide) ⟨_, rfl⟩ rfl (Nat.le_of_ble_eq_true rfl) dX10_read_52 (fun H locs hH => ?_)
      refine lv_if_ne (tgt := 131) hx hb dX10_read_55 (by decide) (fun c26 => ?_) (fun c26 => ?_)
      · replace h := if_f h c26
        refine lv_iload_n hx hb dX10_read_131 rfl (lv_at hl 2 rfl) ?_
        exact E_int C hr hH h dX10_read_132
      · replace h := if_t h c26
        refine lv_aload_n hx hb dX10_read_58 rfl (lv_at hl 0 rfl) ?_
        refine gf_X10_66 C hH dX10_read_59 ?_
        refine lv_iload_n hx hb dX10_read_62 rfl (lv_at hl 1 rfl) ?_
        refine lv_iload_n hx hb dX10_read_63 rfl (lv_at hl 3 rfl) ?_
        obtain ⟨r14, hc13, h⟩ := bn_e h
        refine r_callV1 (ki := 8) (i := 0) (ci := 5) (As := [.int a1, .int x6]) C hl.1 hH (c_X5_itemAt l g  hc13) q797 q43 q794 q795 q796 nd_X5_itemAt rfl (by decide) ⟨Nat.zero_le _, Nat.zero_le _⟩ (by decide) (by decide) ⟨_, rfl⟩ rfl (Nat.le_of_ble_eq_true rfl) dX10_read_64 (fun H locs hH => ?_)
        refine lv_istore (lv' := [(4, .int r14), (0, .ref (gad g 0 0)), (1, .int a1), (2, .int x5), (3, .int x6)]) hx hb dX10_read_67 hl (by decide) rfl (fun ls hl => ?_)
        refine lv_aload_n hx hb dX10_read_69 rfl (lv_at hl 1 rfl) ?_
        refine gf_X10_66 C hH dX10_read_70 ?_
        refine lv_iload_n hx hb dX10_read_73 rfl (lv_at hl 2 rfl) ?_
        refine lv_iload_n hx hb dX10_read_74 rfl (lv_at hl 4 rfl) ?_
        refine lv_iconst (v := (1 : Int32)) hx hb dX10_read_75 (by decide) ?_
        refine lv_iadd hx hb dX10_read_76 ?_
        obtain ⟨r16, hc15, h⟩ := bn_e h
        refine r_callV1 (ki := 8) (i := 0) (ci := 5) (As := [.int a1, .int (x6 + (1 : Int32))]) C hl.1 hH (c_X5_itemAt l g  hc15) q797 q43 q794 q795 q796 nd_X5_itemAt rfl (by decide) ⟨Nat.zero_le _, Nat.zero_le _⟩ (by decide) (by decide) ⟨_, rfl⟩ rfl (Nat.le_of_ble_eq_true rfl) dX10_read_77 (fun H locs hH => ?_)
        refine lv_istore (lv' := [(5, .int r16), (4, .int r14), (0, .ref (gad g 0 0)), (1, .int a1), (2, .int x5), (3, .int x6)]) hx hb dX10_read_80 hl (by decide) rfl (fun ls hl => ?_)
        refine lv_aload_n hx hb dX10_read_82 rfl (lv_at hl 2 rfl) ?_
        refine gf_X10_66 C hH dX10_read_83 ?_
        refine lv_iload_n hx hb dX10_read_86 rfl (lv_at hl 3 rfl) ?_
        refine lv_iload_n hx hb dX10_read_87 rfl (lv_at hl 5 rfl) ?_
        refine lv_iconst (v := (2 : Int32)) hx hb dX10_read_88 (by decide) ?_
        refine lv_iadd hx hb dX10_read_89 ?_
        obtain ⟨r18, hc17, h⟩ := bn_e h
        refine r_callV1 (ki := 8) (i := 0) (ci := 5) (As := [.int a1, .int (x6 + (2 : Int32))]) C hl.1 hH (c_X5_itemAt l g  hc17) q797 q43 q794 q795 q796 nd_X5_itemAt rfl (by decide) ⟨Nat.zero_le _, Nat.zero_le _⟩ (by decide) (by decide) ⟨_, rfl⟩ rfl (Nat.le_of_ble_eq_true rfl) dX10_read_90 (fun H locs hH => ?_)
        refine lv_istore (lv' := [(6, .int r18), (5, .int r16), (4, .int r14), (0, .ref (gad g 0 0)), (1, .int a1), (2, .int x5), (3, .int x6)]) hx hb dX10_read_93 hl (by decide) rfl (fun ls hl => ?_)
        refine lv_iload hx hb dX10_read_95 (lv_at hl 2 rfl) ?_
        refine lv_iload hx hb dX10_read_97 (lv_at hl 1 rfl) ?_
        refine lv_iload hx hb dX10_read_99 (lv_at hl 0 rfl) ?_
        obtain ⟨r20, hc19, h⟩ := bn_e h
        refine r_callS1 (As := [.int r14, .int r16, .int r18]) C hl.1 hH (c_X6_allows l g  hc19) q741 q39 q739 q740 nd_X6_allows rfl (by decide) ⟨Nat.zero_le _, Nat.zero_le _⟩ (Nat.le_of_ble_eq_true rfl) dX10_read_101 (fun H locs hH => ?_)
        refine lv_if_ne (tgt := 109) hx hb dX10_read_104 (by decide) (fun c25 => ?_) (fun c25 => ?_)
        · replace h := if_f h c25
          refine lv_aload_n hx hb dX10_read_109 rfl (lv_at hl 3 rfl) ?_
          refine gf_X10_59 C hH dX10_read_110 ?_
          refine lv_iload hx hb dX10_read_113 (lv_at hl 2 rfl) ?_
          refine lv_iload hx hb dX10_read_115 (lv_at hl 1 rfl) ?_
          refine lv_iload hx hb dX10_read_117 (lv_at hl 0 rfl) ?_
          obtain ⟨S22, hc21, h⟩ := bn_e h
          refine r_callV0 (ki := 7) (i := 0) (ci := 6) (As := [.int r14, .int r16, .int r18]) C hl.1 hH (c_X6_add l g  hc21) q749 q39 q746 q747 q748 nd_X6_add rfl (by decide) ⟨Nat.zero_le _, Nat.zero_le _⟩ (by decide) (by decide) ⟨_, rfl⟩ rfl (Nat.le_of_ble_eq_true rfl) dX10_read_119 (fun H locs hH => ?_)
          obtain ⟨x23, ex23⟩ : ∃ z : Int32, z = (x5 + (1 : Int32)) := ⟨_, rfl⟩
          replace h := lt_e h ex23
          refine lv_iinc (v := x23) (lv' := [(2, .int x23), (6, .int r18), (5, .int r16), (4, .int r14), (0, .ref (gad g 0 0)), (1, .int a1), (3, .int x6)]) hx hb dX10_read_122 hl (k := 5) rfl (by rw [ex23]; rfl) (by decide) rfl (fun ls hl => ?_)
          obtain ⟨x24, ex24⟩ : ∃ z : Int32, z = (x6 + (3 : Int32)) := ⟨_, rfl⟩
          replace h := lt_e h ex24
          refine lv_iinc (v := x24) (lv' := [(3, .int x24), (2, .int x23), (6, .int r18), (5, .int r16), (4, .int r14), (0, .ref (gad g 0 0)), (1, .int a1)]) hx hb dX10_read_125 hl (k := 6) rfl (by rw [ex24]; rfl) (by decide) rfl (fun ls hl => ?_)
          refine lv_goto (tgt := 34) hx hb dX10_read_128 (by decide) ?_
          exact ih _ _ _ _ _ _ hH (lv_sub hl [5, 6, 1, 0] rfl) h
        · replace h := if_t h c25
          refine lv_iload_n hx hb dX10_read_107 rfl (lv_at hl 5 rfl) ?_
          exact E_int C hr hH h dX10_read_108
set_option maxHeartbeats 4000000 in
set_option maxRecDepth 100000 in
theorem w_X10_read (C : Cx p s m args meth c cX10_read 7 RX10 g) (hr : meth.sig.returnType = (some .int)) {o : Int32 × sT} {a1 : Int32}  {S : sT} {H : Heap} {locs : List Loc} {ls : Array Slot} (hH : Hp g s S H locs) (hl : lv_has ls 7 [(0, .ref (gad g 0 0)), (1, .int a1)]) (h : f_X10_read a1 S = some o) : W p l e (rmL 6) s m args below meth c H locs 0 0 (Qm g below args s (some (.int o.1)) o.2) (F0 m 0 ls []) := by
  obtain ⟨hx, hb, hml, hown, hts, hlk, hK⟩ := id C
  unfold f_X10_read at h
  refine lv_iload_n hx hb dX10_read_0 rfl (lv_at hl 1 rfl) ?_
  obtain ⟨r2, hc1, h⟩ := bn_e h
  refine r_callS1 (As := [.int a1]) C hl.1 hH (c_X5_isSheet l g  hc1) q779 q43 q777 q778 nd_X5_isSheet rfl (by decide) ⟨Nat.zero_le _, Nat.zero_le _⟩ (Nat.le_of_ble_eq_true rfl) dX10_read_1 (fun H locs hH => ?_)
  refine lv_if_ne (tgt := 10) hx hb dX10_read_4 (by decide) (fun c32 => ?_) (fun c32 => ?_)
  · replace h := if_f h c32
    refine lv_aload_n hx hb dX10_read_10 rfl (lv_at hl 0 rfl) ?_
    refine gf_X10_66 C hH dX10_read_11 ?_
    refine lv_iload_n hx hb dX10_read_14 rfl (lv_at hl 1 rfl) ?_
    obtain ⟨r4, hc3, h⟩ := bn_e h
    refine r_callV1 (ki := 8) (i := 0) (ci := 5) (As := [.int a1]) C hl.1 hH (c_X5_isLost l g  hc3) q783 q43 q780 q781 q782 nd_X5_isLost rfl (by decide) ⟨Nat.zero_le _, Nat.zero_le _⟩ (by decide) (by decide) ⟨_, rfl⟩ rfl (Nat.le_of_ble_eq_true rfl) dX10_read_15 (fun H locs hH => ?_)
    refine lv_if_eq (tgt := 30) hx hb dX10_read_18 (by decide) (fun c31 => ?_) (fun c31 => ?_)
    · replace h := if_t h c31
      refine lv_iconst (v := (0 : Int32)) hx hb dX10_read_30 (by decide) ?_
      refine lv_istore_n (lv' := [(2, .int (0 : Int32)), (0, .ref (gad g 0 0)), (1, .int a1)]) hx hb dX10_read_31 rfl hl (by decide) rfl (fun ls hl => ?_)
      refine lv_iconst (v := (0 : Int32)) hx hb dX10_read_32 (by decide) ?_
      refine lv_istore_n (lv' := [(3, .int (0 : Int32)), (2, .int (0 : Int32)), (0, .ref (gad g 0 0)), (1, .int a1)]) hx hb dX10_read_33 rfl hl (by decide) rfl (fun ls hl => ?_)
      exact w_X10_read_34 C hr   _ _ _ _ _ _ _ hH (lv_sub hl [2, 3, 1, 0] rfl) h
    · replace h := if_f h c31
      refine lv_aload_n hx hb dX10_read_21 rfl (lv_at hl 0 rfl) ?_
      refine gf_X10_66 C hH dX10_read_22 ?_
      refine lv_iconst (v := (1 : Int32)) hx hb dX10_read_25 (by decide) ?_
      obtain ⟨r29, S30, hc28, h⟩ := bn2_e h
      refine r_callV1 (ki := 8) (i := 0) (ci := 5) (As := [.int (1 : Int32)]) C hl.1 hH (c_X5_find l g  hc28) q788 q43 q785 q786 q787 nd_X5_find rfl (by decide) ⟨Nat.zero_le _, Nat.zero_le _⟩ (by decide) (by decide) ⟨_, rfl⟩ rfl (Nat.le_of_ble_eq_true rfl) dX10_read_26 (fun H locs hH => ?_)
      exact E_int C hr hH h dX10_read_29
  · replace h := if_t h c32
    refine lv_bipush (v := (-2 : Int32)) hx hb dX10_read_7 (by decide) ?_
    exact E_int C hr hH h dX10_read_9
theorem c_X10_read (l : Launch) (g : gT) {a1 : Int32}  {S : sT} {r : Int32} {S1 : sT} (h : f_X10_read a1 S = some (r, S1)) : MF l yX10_read cX10_read 7 (some .int) 6 g [.ref (gad g 0 0), .int a1] S (some (.int r)) S1 := by
  refine MF.of (own := RX10) rfl rfl (Nat.le_of_ble_eq_true rfl) ?_
  intro p e s m below meth c C hr hH ls hl
  exact w_X10_read C hr (o := (r, S1))  hH hl h
theorem nd_X10_who : yX10_who.cls ≠ "java/lang/invoke/MethodHandle" ∧ yX10_who.cls ≠ "java/lang/invoke/VarHandle" ∧ (parseMethodDescriptor yX10_who.desc).map (fun d => d.parameters.length) = some 1 := by decide +kernel
def b_X10_who_16 (a1 : Int32) (x3 : Int32) (x4 : Int32) (S5 : sT) (k6 : Int32 → Int32 → sT → Option (Int32 × sT)) : Option (Int32 × sT) :=
 bn (f_X1_turnCount  S5) (fun r8 =>
 (if r8 ≤ x4 then
 some (x3, S5)
 else
 bn2 (f_X1_wouldFit x4 a1 S5) (fun r10 S11 =>
 jn (fun (x12 : Int32) => lt (x4 + (1 : Int32)) (fun x13 =>
 k6 x12 x13 S11))
 (fun j14 => (if r10 = (0 : Int32) then
 j14 x3
 else
 lt (x3 ||| ((1 : Int32) <<< (x4 &&& 31))) (fun x15 =>
 j14 x15))))))
def l_X10_who_16 (a1 : Int32) : Nat → Int32 → Int32 → sT → Option (Int32 × sT)
 | 0, _, _, _ => none
 | n + 1, x3, x4, S5 => b_X10_who_16 a1 x3 x4 S5 (l_X10_who_16 a1 n)
theorem l_X10_who_16_s (a1 : Int32) (n : Nat) (x3 : Int32) (x4 : Int32) (S5 : sT) : l_X10_who_16 a1 (n + 1) x3 x4 S5 = b_X10_who_16 a1 x3 x4 S5 (l_X10_who_16 a1 n) := rfl
def f_X10_who (a1 : Int32) (S : sT) : Option (Int32 × sT) :=
 bn (f_X10_within a1 (0 : Int32) (2 : Int32) S) (fun r2 =>
 (if r2 = (0 : Int32) then
 some ((-2 : Int32), S)
 else
 l_X10_who_16 a1 FU (0 : Int32) (0 : Int32) S))
set_option maxHeartbeats 4000000 in
set_option maxRecDepth 100000 in
theorem w_X10_who_16 (C : Cx p s m args meth c cX10_who 4 RX10 g) (hr : meth.sig.returnType = (some .int)) {o : Int32 × sT}  {a1 : Int32}   : ∀ (n : Nat) (x3 : Int32) (x4 : Int32) (S5 : sT) (H : Heap) (locs : List Loc) (ls : Array Slot), Hp g s S5 H locs → lv_has ls 4 [(0, .ref (gad g 0 0)), (1, .int a1), (2, .int x3), (3, .int x4)] → l_X10_who_16 a1 n x3 x4 S5 = some o → W p l e (rmL 6) s m args below meth c H locs 0 0 (Qm g below args s (some (.int o.1)) o.2) (F0 m 16 ls []) := by
  obtain ⟨hx, hb, hml, hown, hts, hlk, hK⟩ := id C
  intro n
  induction n with
  | zero =>
    intro x3 x4 S5 H locs ls hH hl h
    cases h
  | succ n ih =>
    intro x3 x4 S5 H locs ls hH hl h
    rw [l_X10_who_16_s] at h
    unfold b_X10_who_16 at h
    refine lv_iload_n hx hb dX10_who_16 rfl (lv_at hl 3 rfl) ?_
    refine lv_aload_n hx hb dX10_who_17 rfl (lv_at hl 0 rfl) ?_
    refine gf_X10_38 C hH dX10_who_18 ?_
    obtain ⟨r8, hc7, h⟩ := bn_e h
    refine r_callV1 (ki := 4) (i := 0) (ci := 1) (As := []) C hl.1 hH (c_X1_turnCount l g  hc7) q602 q27 q599 q600 q601 nd_X1_turnCount rfl (by decide) ⟨Nat.zero_le _, Nat.zero_le _⟩ (by decide) (by decide) ⟨_, rfl⟩ rfl (Nat.le_of_ble_eq_true rfl) dX10_who_21 (fun H locs hH => ?_)
    refine lv_icmp_ge (tgt := 63) hx hb dX10_who_24 (by decide) (fun c17 => ?_) (fun c17 => ?_)
    · replace h := if_t h c17
      refine lv_iload_n hx hb dX10_who_63 rfl (lv_at hl 2 rfl) ?_
      exact E_int C hr hH h dX10_who_64
    · replace h := if_f h c17
      refine lv_aload_n hx hb dX10_who_27 rfl (lv_at hl 0 rfl) ?_
      refine gf_X10_38 C hH dX10_who_28 ?_
      refine lv_aload_n hx hb dX10_who_31 rfl (lv_at hl 0 rfl) ?_
      refine gf_X10_59 C hH dX10_who_32 ?_
      refine lv_aload_n hx hb dX10_who_35 rfl (lv_at hl 0 rfl) ?_
      refine gf_X10_31 C hH dX10_who_36 ?_
      refine lv_aload_n hx hb dX10_who_39 rfl (lv_at hl 0 rfl) ?_
      refine gf_X10_24 C hH dX10_who_40 ?_
      refine lv_iload_n hx hb dX10_who_43 rfl (lv_at hl 3 rfl) ?_
      refine lv_iload_n hx hb dX10_who_44 rfl (lv_at hl 1 rfl) ?_
      obtain ⟨r10, S11, hc9, h⟩ := bn2_e h
      refine r_callV1 (ki := 4) (i := 0) (ci := 1) (As := [.ref (gad g 7 0), .ref (gad g 3 0), .ref (gad g 2 0), .int x4, .int a1]) C hl.1 hH (c_X1_wouldFit l g  hc9) q823 q27 q820 q821 q822 nd_X1_wouldFit rfl (by decide) ⟨Nat.zero_le _, Nat.zero_le _⟩ (by decide) (by decide) ⟨_, rfl⟩ rfl (Nat.le_of_ble_eq_true rfl) dX10_who_45 (fun H locs hH => ?_)
      obtain ⟨j14, ej14, h⟩ := jn_e h
      have hj14 : ∀ (x12 : Int32) (H : Heap) (locs : List Loc) (ls : Array Slot), Hp g s S11 H locs → lv_has ls 4 [(0, .ref (gad g 0 0)), (1, .int a1), (2, .int x12), (3, .int x4)] → j14 x12 = some o → W p l e (rmL 6) s m args below meth c H locs 0 0 (Qm g below args s (some (.int o.1)) o.2) (F0 m 57 ls []) := by
        intro x12 H locs ls hH hl h
        rw [ej14] at h
        try dsimp only at h
        obtain ⟨x13, ex13⟩ : ∃ z : Int32, z = (x4 + (1 : Int32)) := ⟨_, rfl⟩
        replace h := lt_e h ex13
        refine lv_iinc (v := x13) (lv' := [(3, .int x13), (0, .ref (gad g 0 0)), (1, .int a1), (2, .int x12)]) hx hb dX10_who_57 hl (k := 3) rfl (by rw [ex13]; rfl) (by decide) rfl (fun ls hl => ?_)
        refine lv_goto (tgt := 16) hx hb dX10_who_60 (by decide) ?_
        exact ih _ _ _ _ _ _ hH (lv_sub hl [1, 2, 3, 0] rfl) h
      clear ej14
      refine lv_if_eq (tgt := 57) hx hb dX10_who_48 (by decide) (fun c16 => ?_) (fun c16 => ?_)
      · replace h := if_t h c16
        exact hj14 _ _ _ _ hH (lv_sub hl [0, 1, 2, 3] rfl) h
      · replace h := if_f h c16
        refine lv_iload_n hx hb dX10_who_51 rfl (lv_at hl 2 rfl) ?_
        refine lv_iconst (v := (1 : Int32)) hx hb dX10_who_52 (by decide) ?_
        refine lv_iload_n hx hb dX10_who_53 rfl (lv_at hl 3 rfl) ?_
        refine lv_ishl hx hb dX10_who_54 ?_
        refine lv_ior hx hb dX10_who_55 ?_
        refine lv_topi (fun x15 ex15 => ?_)
        replace h := lt_e h ex15
        refine lv_istore_n (lv' := [(2, .int x15), (0, .ref (gad g 0 0)), (1, .int a1), (3, .int x4)]) hx hb dX10_who_56 rfl hl (by decide) rfl (fun ls hl => ?_)
        exact hj14 _ _ _ _ hH (lv_sub hl [1, 2, 0, 3] rfl) h
set_option maxHeartbeats 4000000 in
set_option maxRecDepth 100000 in
theorem w_X10_who (C : Cx p s m args meth c cX10_who 4 RX10 g) (hr : meth.sig.returnType = (some .int)) {o : Int32 × sT} {a1 : Int32}  {S : sT} {H : Heap} {locs : List Loc} {ls : Array Slot} (hH : Hp g s S H locs) (hl : lv_has ls 4 [(0, .ref (gad g 0 0)), (1, .int a1)]) (h : f_X10_who a1 S = some o) : W p l e (rmL 6) s m args below meth c H locs 0 0 (Qm g below args s (some (.int o.1)) o.2) (F0 m 0 ls []) := by
  obtain ⟨hx, hb, hml, hown, hts, hlk, hK⟩ := id C
  unfold f_X10_who at h
  refine lv_iload_n hx hb dX10_who_0 rfl (lv_at hl 1 rfl) ?_
  refine lv_iconst (v := (0 : Int32)) hx hb dX10_who_1 (by decide) ?_
  refine lv_iconst (v := (2 : Int32)) hx hb dX10_who_2 (by decide) ?_
  obtain ⟨r2, hc1, h⟩ := bn_e h
  refine r_callS1 (As := [.int a1, .int (0 : Int32), .int (2 : Int32)]) C hl.1 hH (c_X10_within l g  hc1) q153 q2 q151 q152 nd_X10_within rfl (by decide) ⟨Nat.zero_le _, Nat.zero_le _⟩ (Nat.le_of_ble_eq_true rfl) dX10_who_3 (fun H locs hH => ?_)
  refine lv_if_ne (tgt := 12) hx hb dX10_who_6 (by decide) (fun c18 => ?_) (fun c18 => ?_)
  · replace h := if_f h c18
    refine lv_iconst (v := (0 : Int32)) hx hb dX10_who_12 (by decide) ?_
    refine lv_istore_n (lv' := [(2, .int (0 : Int32)), (0, .ref (gad g 0 0)), (1, .int a1)]) hx hb dX10_who_13 rfl hl (by decide) rfl (fun ls hl => ?_)
    refine lv_iconst (v := (0 : Int32)) hx hb dX10_who_14 (by decide) ?_
    refine lv_istore_n (lv' := [(3, .int (0 : Int32)), (2, .int (0 : Int32)), (0, .ref (gad g 0 0)), (1, .int a1)]) hx hb dX10_who_15 rfl hl (by decide) rfl (fun ls hl => ?_)
    exact w_X10_who_16 C hr   _ _ _ _ _ _ _ hH (lv_sub hl [2, 3, 1, 0] rfl) h
  · replace h := if_t h c18
    refine lv_bipush (v := (-2 : Int32)) hx hb dX10_who_9 (by decide) ?_
    exact E_int C hr hH h dX10_who_11
theorem c_X10_who (l : Launch) (g : gT) {a1 : Int32}  {S : sT} {r : Int32} {S1 : sT} (h : f_X10_who a1 S = some (r, S1)) : MF l yX10_who cX10_who 4 (some .int) 6 g [.ref (gad g 0 0), .int a1] S (some (.int r)) S1 := by
  refine MF.of (own := RX10) rfl rfl (Nat.le_of_ble_eq_true rfl) ?_
  intro p e s m below meth c C hr hH ls hl
  exact w_X10_who C hr (o := (r, S1))  hH hl h
theorem nd_X10_frost : yX10_frost.cls ≠ "java/lang/invoke/MethodHandle" ∧ yX10_frost.cls ≠ "java/lang/invoke/VarHandle" ∧ (parseMethodDescriptor yX10_frost.desc).map (fun d => d.parameters.length) = some 2 := by decide +kernel
def f_X10_frost (a1 : Int32) (a2 : Int32) (S : sT) : Option (Int64 × sT) :=
 bn (f_X10_within a1 (0 : Int32) (16 : Int32) S) (fun r2 =>
 (if r2 = (0 : Int32) then
 some ((-9223372036854775806 : Int64), S)
 else
 bn (f_X10_within a2 (0 : Int32) (1 : Int32) S) (fun r4 =>
 (if r4 = (0 : Int32) then
 some ((-9223372036854775806 : Int64), S)
 else
 bn (f_X1_last  S) (fun r6 =>
 ck (decide (r6 < 16)) (
 bn (f_X0_freeze r6 a1 S) (fun S9 =>
 (if a2 = (0 : Int32) then
 bn (f_X0_above  S9) (fun r13 =>
 some (r13, S9))
 else
 bn (f_X0_below  S9) (fun r11 =>
 some (r11, S9))))))))))
set_option maxHeartbeats 4000000 in
set_option maxRecDepth 100000 in
theorem w_X10_frost (C : Cx p s m args meth c cX10_frost 3 RX10 g) (hr : meth.sig.returnType = (some .long)) {o : Int64 × sT} {a1 : Int32} {a2 : Int32}  {S : sT} {H : Heap} {locs : List Loc} {ls : Array Slot} (hH : Hp g s S H locs) (hl : lv_has ls 3 [(0, .ref (gad g 0 0)), (1, .int a1), (2, .int a2)]) (h : f_X10_frost a1 a2 S = some o) : W p l e (rmL 19) s m args below meth c H locs 0 0 (Qm g below args s (some (.long o.1)) o.2) (F0 m 0 ls []) := by
  obtain ⟨hx, hb, hml, hown, hts, hlk, hK⟩ := id C
  unfold f_X10_frost at h
  refine lv_iload_n hx hb dX10_frost_0 rfl (lv_at hl 1 rfl) ?_
  refine lv_iconst (v := (0 : Int32)) hx hb dX10_frost_1 (by decide) ?_
  refine lv_bipush (v := (16 : Int32)) hx hb dX10_frost_2 (by decide) ?_
  obtain ⟨r2, hc1, h⟩ := bn_e h
  refine r_callS1 (As := [.int a1, .int (0 : Int32), .int (16 : Int32)]) C hl.1 hH (c_X10_within l g  hc1) q153 q2 q151 q152 nd_X10_within rfl (by decide) ⟨Nat.zero_le _, Nat.zero_le _⟩ (Nat.le_of_ble_eq_true rfl) dX10_frost_4 (fun H locs hH => ?_)
  refine lv_if_eq (tgt := 19) hx hb dX10_frost_7 (by decide) (fun c16 => ?_) (fun c16 => ?_)
  · replace h := if_t h c16
    refine lv_ldc2 (v := (-9223372036854775806 : Int64)) hx hb hown (hts _ q854) dX10_frost_19 ?_
    exact E_long C hr hH h dX10_frost_22
  · replace h := if_f h c16
    refine lv_iload_n hx hb dX10_frost_10 rfl (lv_at hl 2 rfl) ?_
    refine lv_iconst (v := (0 : Int32)) hx hb dX10_frost_11 (by decide) ?_
    refine lv_iconst (v := (1 : Int32)) hx hb dX10_frost_12 (by decide) ?_
    obtain ⟨r4, hc3, h⟩ := bn_e h
    refine r_callS1 (As := [.int a2, .int (0 : Int32), .int (1 : Int32)]) C hl.1 hH (c_X10_within l g  hc3) q153 q2 q151 q152 nd_X10_within rfl (by decide) ⟨Nat.zero_le _, Nat.zero_le _⟩ (Nat.le_of_ble_eq_true rfl) dX10_frost_13 (fun H locs hH => ?_)
    refine lv_if_ne (tgt := 23) hx hb dX10_frost_16 (by decide) (fun c15 => ?_) (fun c15 => ?_)
    · replace h := if_f h c15
      refine lv_aload_n hx hb dX10_frost_23 rfl (lv_at hl 0 rfl) ?_
      refine gf_X10_52 C hH dX10_frost_24 ?_
      refine lv_aload_n hx hb dX10_frost_27 rfl (lv_at hl 0 rfl) ?_
      refine gf_X10_38 C hH dX10_frost_28 ?_
      obtain ⟨r6, hc5, h⟩ := bn_e h
      refine r_callV1 (ki := 4) (i := 0) (ci := 1) (As := []) C hl.1 hH (c_X1_last l g  hc5) q621 q27 q618 q619 q620 nd_X1_last rfl (by decide) ⟨Nat.zero_le _, Nat.zero_le _⟩ (by decide) (by decide) ⟨_, rfl⟩ rfl (Nat.le_of_ble_eq_true rfl) dX10_frost_31 (fun H locs hH => ?_)
      obtain ⟨hv7, h⟩ := ck_e h
      have hr6 : r6 < 16 := of_decide_eq_true hv7
      refine lv_aload_n hx hb dX10_frost_34 rfl (lv_at hl 0 rfl) ?_
      refine gf_X10_24 C hH dX10_frost_35 ?_
      refine lv_iload_n hx hb dX10_frost_38 rfl (lv_at hl 1 rfl) ?_
      obtain ⟨S9, hc8, h⟩ := bn_e h
      refine r_callV0 (ki := 6) (i := 0) (ci := 0) (As := [.ref (gad g 9 r6), .ref (gad g 2 0), .int a1]) C hl.1 hH (c_X0_freeze l g hr6 hc8) q858 q35 q855 q856 q857 nd_X0_freeze rfl (by decide) ⟨Nat.zero_le _, Nat.zero_le _⟩ (by decide) (by decide) ⟨_, rfl⟩ rfl (Nat.le_of_ble_eq_true rfl) dX10_frost_39 (fun H locs hH => ?_)
      refine lv_iload_n hx hb dX10_frost_42 rfl (lv_at hl 2 rfl) ?_
      refine lv_if_ne (tgt := 56) hx hb dX10_frost_43 (by decide) (fun c14 => ?_) (fun c14 => ?_)
      · replace h := if_f h c14
        refine lv_aload_n hx hb dX10_frost_56 rfl (lv_at hl 0 rfl) ?_
        refine gf_X10_52 C hH dX10_frost_57 ?_
        obtain ⟨r11, hc10, h⟩ := bn_e h
        refine r_callV1 (ki := 6) (i := 0) (ci := 0) (As := []) C hl.1 hH (c_X0_below l g  hc10) q880 q35 q877 q878 q879 nd_X0_below rfl (by decide) ⟨Nat.zero_le _, Nat.zero_le _⟩ (by decide) (by decide) ⟨_, rfl⟩ rfl (Nat.le_of_ble_eq_true rfl) dX10_frost_60 (fun H locs hH => ?_)
        exact E_long C hr hH h dX10_frost_63
      · replace h := if_t h c14
        refine lv_aload_n hx hb dX10_frost_46 rfl (lv_at hl 0 rfl) ?_
        refine gf_X10_52 C hH dX10_frost_47 ?_
        obtain ⟨r13, hc12, h⟩ := bn_e h
        refine r_callV1 (ki := 6) (i := 0) (ci := 0) (As := []) C hl.1 hH (c_X0_above l g  hc12) q876 q35 q873 q874 q875 nd_X0_above rfl (by decide) ⟨Nat.zero_le _, Nat.zero_le _⟩ (by decide) (by decide) ⟨_, rfl⟩ rfl (Nat.le_of_ble_eq_true rfl) dX10_frost_50 (fun H locs hH => ?_)
        refine lv_goto (tgt := 63) hx hb dX10_frost_53 (by decide) ?_
        exact E_long C hr hH h dX10_frost_63
    · replace h := if_t h c15
      refine lv_ldc2 (v := (-9223372036854775806 : Int64)) hx hb hown (hts _ q854) dX10_frost_19 ?_
      exact E_long C hr hH h dX10_frost_22
theorem c_X10_frost (l : Launch) (g : gT) {a1 : Int32} {a2 : Int32}  {S : sT} {r : Int64} {S1 : sT} (h : f_X10_frost a1 a2 S = some (r, S1)) : MF l yX10_frost cX10_frost 3 (some .long) 19 g [.ref (gad g 0 0), .int a1, .int a2] S (some (.long r)) S1 := by
  refine MF.of (own := RX10) rfl rfl (Nat.le_of_ble_eq_true rfl) ?_
  intro p e s m below meth c C hr hH ls hl
  exact w_X10_frost C hr (o := (r, S1))  hH hl h
theorem nd_X10_years : yX10_years.cls ≠ "java/lang/invoke/MethodHandle" ∧ yX10_years.cls ≠ "java/lang/invoke/VarHandle" ∧ (parseMethodDescriptor yX10_years.desc).map (fun d => d.parameters.length) = some 3 := by decide +kernel
def f_X10_years (a1 : Int32) (a2 : Int32) (a3 : Int32) (S : sT) : Option (Int32 × sT) :=
 bn (f_X1_last  S) (fun r2 =>
 ck (decide (r2 < 16)) (
 bn (f_X10_within a2 (1 : Int32) (40 : Int32) S) (fun r5 =>
 (if r5 = (0 : Int32) then
 some ((-2 : Int32), S)
 else
 bn (f_X9_columnCount r2 S) (fun r7 =>
 (if r7 = (0 : Int32) then
 some ((-2 : Int32), S)
 else
 jn (bn (f_X1_turnCount  S) (fun r9 =>
 bn (f_X0_live r2 r9 a1 a2 S) (fun S11 =>
 (if a3 = (-1 : Int32) then
 bn (f_X0_fallenYears  S11) (fun r15 =>
 some (r15, S11))
 else
 bn (f_X0_heightOf a3 S11) (fun r13 =>
 some (r13, S11))))))
 (fun j17 => (if a3 = (-1 : Int32) then
 j17
 else
 bn (f_X9_has r2 a3 S) (fun r19 =>
 (if r19 = (0 : Int32) then
 some ((-2 : Int32), S)
 else
 j17))))))))))
set_option maxHeartbeats 4000000 in
set_option maxRecDepth 100000 in
theorem w_X10_years (C : Cx p s m args meth c cX10_years 5 RX10 g) (hr : meth.sig.returnType = (some .int)) {o : Int32 × sT} {a1 : Int32} {a2 : Int32} {a3 : Int32}  {S : sT} {H : Heap} {locs : List Loc} {ls : Array Slot} (hH : Hp g s S H locs) (hl : lv_has ls 5 [(0, .ref (gad g 0 0)), (1, .int a1), (2, .int a2), (3, .int a3)]) (h : f_X10_years a1 a2 a3 S = some o) : W p l e (rmL 6) s m args below meth c H locs 0 0 (Qm g below args s (some (.int o.1)) o.2) (F0 m 0 ls []) := by
  obtain ⟨hx, hb, hml, hown, hts, hlk, hK⟩ := id C
  unfold f_X10_years at h
  refine lv_aload_n hx hb dX10_years_0 rfl (lv_at hl 0 rfl) ?_
  refine gf_X10_38 C hH dX10_years_1 ?_
  obtain ⟨r2, hc1, h⟩ := bn_e h
  refine r_callV1 (ki := 4) (i := 0) (ci := 1) (As := []) C hl.1 hH (c_X1_last l g  hc1) q621 q27 q618 q619 q620 nd_X1_last rfl (by decide) ⟨Nat.zero_le _, Nat.zero_le _⟩ (by decide) (by decide) ⟨_, rfl⟩ rfl (Nat.le_of_ble_eq_true rfl) dX10_years_4 (fun H locs hH => ?_)
  obtain ⟨hv3, h⟩ := ck_e h
  have hr2 : r2 < 16 := of_decide_eq_true hv3
  refine lv_astore (lv' := [(4, .ref (gad g 9 r2)), (0, .ref (gad g 0 0)), (1, .int a1), (2, .int a2), (3, .int a3)]) hx hb dX10_years_7 hl (by decide) rfl (fun ls hl => ?_)
  refine lv_iload_n hx hb dX10_years_9 rfl (lv_at hl 3 rfl) ?_
  refine lv_iconst (v := (1 : Int32)) hx hb dX10_years_10 (by decide) ?_
  refine lv_bipush (v := (40 : Int32)) hx hb dX10_years_11 (by decide) ?_
  obtain ⟨r5, hc4, h⟩ := bn_e h
  refine r_callS1 (As := [.int a2, .int (1 : Int32), .int (40 : Int32)]) C hl.1 hH (c_X10_within l g  hc4) q153 q2 q151 q152 nd_X10_within rfl (by decide) ⟨Nat.zero_le _, Nat.zero_le _⟩ (Nat.le_of_ble_eq_true rfl) dX10_years_13 (fun H locs hH => ?_)
  refine lv_if_eq (tgt := 27) hx hb dX10_years_16 (by decide) (fun c23 => ?_) (fun c23 => ?_)
  · replace h := if_t h c23
    refine lv_bipush (v := (-2 : Int32)) hx hb dX10_years_27 (by decide) ?_
    exact E_int C hr hH h dX10_years_29
  · replace h := if_f h c23
    refine lv_aload hx hb dX10_years_19 (lv_at hl 0 rfl) ?_
    obtain ⟨r7, hc6, h⟩ := bn_e h
    refine r_callV1 (ki := 9) (i := r2) (ci := 8) (As := []) C hl.1 hH (c_X9_columnCount l g hr2 hc6) q695 q80 q900 q693 q694 nd_X9_columnCount rfl (by decide) ⟨Nat.zero_le _, Nat.zero_le _⟩ (by decide) hr2 ⟨_, rfl⟩ rfl (Nat.le_of_ble_eq_true rfl) dX10_years_21 (fun H locs hH => ?_)
    refine lv_if_ne (tgt := 30) hx hb dX10_years_24 (by decide) (fun c22 => ?_) (fun c22 => ?_)
    · replace h := if_f h c22
      refine lv_iload_n hx hb dX10_years_30 rfl (lv_at hl 4 rfl) ?_
      refine lv_iconst (v := (-1 : Int32)) hx hb dX10_years_31 (by decide) ?_
      obtain ⟨j17, ej17, h⟩ := jn_e h
      have hj17 : ∀  (H : Heap) (locs : List Loc) (ls : Array Slot), Hp g s S H locs → lv_has ls 5 [(0, .ref (gad g 0 0)), (1, .int a1), (2, .int a2), (3, .int a3), (4, .ref (gad g 9 r2))] → j17  = some o → W p l e (rmL 6) s m args below meth c H locs 0 0 (Qm g below args s (some (.int o.1)) o.2) (F0 m 47 ls []) := by
        intro  H locs ls hH hl h
        rw [ej17] at h
        try dsimp only at h
        refine lv_aload_n hx hb dX10_years_47 rfl (lv_at hl 0 rfl) ?_
        refine gf_X10_52 C hH dX10_years_48 ?_
        refine lv_aload hx hb dX10_years_51 (lv_at hl 4 rfl) ?_
        refine lv_aload_n hx hb dX10_years_53 rfl (lv_at hl 0 rfl) ?_
        refine gf_X10_24 C hH dX10_years_54 ?_
        refine lv_aload_n hx hb dX10_years_57 rfl (lv_at hl 0 rfl) ?_
        refine gf_X10_38 C hH dX10_years_58 ?_
        obtain ⟨r9, hc8, h⟩ := bn_e h
        refine r_callV1 (ki := 4) (i := 0) (ci := 1) (As := []) C hl.1 hH (c_X1_turnCount l g  hc8) q602 q27 q599 q600 q601 nd_X1_turnCount rfl (by decide) ⟨Nat.zero_le _, Nat.zero_le _⟩ (by decide) (by decide) ⟨_, rfl⟩ rfl (Nat.le_of_ble_eq_true rfl) dX10_years_61 (fun H locs hH => ?_)
        refine lv_iload_n hx hb dX10_years_64 rfl (lv_at hl 1 rfl) ?_
        refine lv_iload_n hx hb dX10_years_65 rfl (lv_at hl 2 rfl) ?_
        obtain ⟨S11, hc10, h⟩ := bn_e h
        refine r_callV0 (ki := 6) (i := 0) (ci := 0) (As := [.ref (gad g 9 r2), .ref (gad g 2 0), .int r9, .int a1, .int a2]) C hl.1 hH (c_X0_live l g hr2 hc10) q904 q35 q901 q902 q903 nd_X0_live rfl (by decide) ⟨Nat.zero_le _, Nat.zero_le _⟩ (by decide) (by decide) ⟨_, rfl⟩ rfl (Nat.le_of_ble_eq_true rfl) dX10_years_66 (fun H locs hH => ?_)
        refine lv_iload_n hx hb dX10_years_69 rfl (lv_at hl 3 rfl) ?_
        refine lv_iconst (v := (-1 : Int32)) hx hb dX10_years_70 (by decide) ?_
        refine lv_icmp_ne (tgt := 84) hx hb dX10_years_71 (by decide) (fun c16 => ?_) (fun c16 => ?_)
        · replace h := if_f h c16
          refine lv_aload_n hx hb dX10_years_84 rfl (lv_at hl 0 rfl) ?_
          refine gf_X10_52 C hH dX10_years_85 ?_
          refine lv_iload_n hx hb dX10_years_88 rfl (lv_at hl 3 rfl) ?_
          obtain ⟨r13, hc12, h⟩ := bn_e h
          refine r_callV1 (ki := 6) (i := 0) (ci := 0) (As := [.int a3]) C hl.1 hH (c_X0_heightOf l g  hc12) q923 q35 q920 q921 q922 nd_X0_heightOf rfl (by decide) ⟨Nat.zero_le _, Nat.zero_le _⟩ (by decide) (by decide) ⟨_, rfl⟩ rfl (Nat.le_of_ble_eq_true rfl) dX10_years_89 (fun H locs hH => ?_)
          exact E_int C hr hH h dX10_years_92
        · replace h := if_t h c16
          refine lv_aload_n hx hb dX10_years_74 rfl (lv_at hl 0 rfl) ?_
          refine gf_X10_52 C hH dX10_years_75 ?_
          obtain ⟨r15, hc14, h⟩ := bn_e h
          refine r_callV1 (ki := 6) (i := 0) (ci := 0) (As := []) C hl.1 hH (c_X0_fallenYears l g  hc14) q919 q35 q916 q917 q918 nd_X0_fallenYears rfl (by decide) ⟨Nat.zero_le _, Nat.zero_le _⟩ (by decide) (by decide) ⟨_, rfl⟩ rfl (Nat.le_of_ble_eq_true rfl) dX10_years_78 (fun H locs hH => ?_)
          refine lv_goto (tgt := 92) hx hb dX10_years_81 (by decide) ?_
          exact E_int C hr hH h dX10_years_92
      clear ej17
      refine lv_icmp_eq (tgt := 47) hx hb dX10_years_32 (by decide) (fun c21 => ?_) (fun c21 => ?_)
      · replace h := if_t h c21
        exact hj17 _ _ _ hH (lv_sub hl [1, 2, 3, 4, 0] rfl) h
      · replace h := if_f h c21
        refine lv_aload hx hb dX10_years_35 (lv_at hl 0 rfl) ?_
        refine lv_iload_n hx hb dX10_years_37 rfl (lv_at hl 4 rfl) ?_
        obtain ⟨r19, hc18, h⟩ := bn_e h
        refine r_callV1 (ki := 9) (i := r2) (ci := 8) (As := [.int a3]) C hl.1 hH (c_X9_has l g hr2 hc18) q201 q80 q398 q199 q200 nd_X9_has rfl (by decide) ⟨Nat.zero_le _, Nat.zero_le _⟩ (by decide) hr2 ⟨_, rfl⟩ rfl (Nat.le_of_ble_eq_true rfl) dX10_years_38 (fun H locs hH => ?_)
        refine lv_if_ne (tgt := 47) hx hb dX10_years_41 (by decide) (fun c20 => ?_) (fun c20 => ?_)
        · replace h := if_f h c20
          exact hj17 _ _ _ hH (lv_sub hl [1, 2, 3, 4, 0] rfl) h
        · replace h := if_t h c20
          refine lv_bipush (v := (-2 : Int32)) hx hb dX10_years_44 (by decide) ?_
          exact E_int C hr hH h dX10_years_46
    · replace h := if_t h c22
      refine lv_bipush (v := (-2 : Int32)) hx hb dX10_years_27 (by decide) ?_
      exact E_int C hr hH h dX10_years_29
theorem c_X10_years (l : Launch) (g : gT) {a1 : Int32} {a2 : Int32} {a3 : Int32}  {S : sT} {r : Int32} {S1 : sT} (h : f_X10_years a1 a2 a3 S = some (r, S1)) : MF l yX10_years cX10_years 5 (some .int) 6 g [.ref (gad g 0 0), .int a1, .int a2, .int a3] S (some (.int r)) S1 := by
  refine MF.of (own := RX10) rfl rfl (Nat.le_of_ble_eq_true rfl) ?_
  intro p e s m below meth c C hr hH ls hl
  exact w_X10_years C hr (o := (r, S1))  hH hl h
theorem nd_X10_sheet : yX10_sheet.cls ≠ "java/lang/invoke/MethodHandle" ∧ yX10_sheet.cls ≠ "java/lang/invoke/VarHandle" ∧ (parseMethodDescriptor yX10_sheet.desc).map (fun d => d.parameters.length) = some 3 := by decide +kernel
def f_X10_sheet (a1 : Int32) (a2 : Int32) (a3 : Int32) (S : sT) : Option (Int32 × sT) :=
 bn (f_X5_isSheet a1 S) (fun r2 =>
 (if r2 = (0 : Int32) then
 some ((-2 : Int32), S)
 else
 bn (f_X5_isForm a2 S) (fun r4 =>
 (if r4 = (0 : Int32) then
 some ((-2 : Int32), S)
 else
 (if a3 ≤ (60 : Int32) then
 (if (0 : Int32) ≤ a3 then
 bn (f_X5_make a1 a2 a3 S) (fun S6 =>
 some (a3, S6))
 else
 bn2 (f_X5_find (5 : Int32) S) (fun r8 S9 =>
 some (r8, S9)))
 else
 some ((-2 : Int32), S))))))
set_option maxHeartbeats 4000000 in
set_option maxRecDepth 100000 in
theorem w_X10_sheet (C : Cx p s m args meth c cX10_sheet 4 RX10 g) (hr : meth.sig.returnType = (some .int)) {o : Int32 × sT} {a1 : Int32} {a2 : Int32} {a3 : Int32}  {S : sT} {H : Heap} {locs : List Loc} {ls : Array Slot} (hH : Hp g s S H locs) (hl : lv_has ls 4 [(0, .ref (gad g 0 0)), (1, .int a1), (2, .int a2), (3, .int a3)]) (h : f_X10_sheet a1 a2 a3 S = some o) : W p l e (rmL 3) s m args below meth c H locs 0 0 (Qm g below args s (some (.int o.1)) o.2) (F0 m 0 ls []) := by
  obtain ⟨hx, hb, hml, hown, hts, hlk, hK⟩ := id C
  unfold f_X10_sheet at h
  refine lv_iload_n hx hb dX10_sheet_0 rfl (lv_at hl 1 rfl) ?_
  obtain ⟨r2, hc1, h⟩ := bn_e h
  refine r_callS1 (As := [.int a1]) C hl.1 hH (c_X5_isSheet l g  hc1) q779 q43 q777 q778 nd_X5_isSheet rfl (by decide) ⟨Nat.zero_le _, Nat.zero_le _⟩ (Nat.le_of_ble_eq_true rfl) dX10_sheet_1 (fun H locs hH => ?_)
  refine lv_if_eq (tgt := 20) hx hb dX10_sheet_4 (by decide) (fun c13 => ?_) (fun c13 => ?_)
  · replace h := if_t h c13
    refine lv_bipush (v := (-2 : Int32)) hx hb dX10_sheet_20 (by decide) ?_
    exact E_int C hr hH h dX10_sheet_22
  · replace h := if_f h c13
    refine lv_iload_n hx hb dX10_sheet_7 rfl (lv_at hl 2 rfl) ?_
    obtain ⟨r4, hc3, h⟩ := bn_e h
    refine r_callS1 (As := [.int a2]) C hl.1 hH (c_X5_isForm l g  hc3) q946 q43 q944 q945 nd_X5_isForm rfl (by decide) ⟨Nat.zero_le _, Nat.zero_le _⟩ (Nat.le_of_ble_eq_true rfl) dX10_sheet_8 (fun H locs hH => ?_)
    refine lv_if_eq (tgt := 20) hx hb dX10_sheet_11 (by decide) (fun c12 => ?_) (fun c12 => ?_)
    · replace h := if_t h c12
      refine lv_bipush (v := (-2 : Int32)) hx hb dX10_sheet_20 (by decide) ?_
      exact E_int C hr hH h dX10_sheet_22
    · replace h := if_f h c12
      refine lv_iload_n hx hb dX10_sheet_14 rfl (lv_at hl 3 rfl) ?_
      refine lv_bipush (v := (60 : Int32)) hx hb dX10_sheet_15 (by decide) ?_
      refine lv_icmp_le (tgt := 23) hx hb dX10_sheet_17 (by decide) (fun c11 => ?_) (fun c11 => ?_)
      · replace h := if_t h c11
        refine lv_iload_n hx hb dX10_sheet_23 rfl (lv_at hl 3 rfl) ?_
        refine lv_if_ge (tgt := 36) hx hb dX10_sheet_24 (by decide) (fun c10 => ?_) (fun c10 => ?_)
        · replace h := if_t h c10
          refine lv_aload_n hx hb dX10_sheet_36 rfl (lv_at hl 0 rfl) ?_
          refine gf_X10_66 C hH dX10_sheet_37 ?_
          refine lv_iload_n hx hb dX10_sheet_40 rfl (lv_at hl 1 rfl) ?_
          refine lv_iload_n hx hb dX10_sheet_41 rfl (lv_at hl 2 rfl) ?_
          refine lv_iload_n hx hb dX10_sheet_42 rfl (lv_at hl 3 rfl) ?_
          obtain ⟨S6, hc5, h⟩ := bn_e h
          refine r_callV0 (ki := 8) (i := 0) (ci := 5) (As := [.int a1, .int a2, .int a3]) C hl.1 hH (c_X5_make l g  hc5) q950 q43 q947 q948 q949 nd_X5_make rfl (by decide) ⟨Nat.zero_le _, Nat.zero_le _⟩ (by decide) (by decide) ⟨_, rfl⟩ rfl (Nat.le_of_ble_eq_true rfl) dX10_sheet_43 (fun H locs hH => ?_)
          refine lv_iload_n hx hb dX10_sheet_46 rfl (lv_at hl 3 rfl) ?_
          exact E_int C hr hH h dX10_sheet_47
        · replace h := if_f h c10
          refine lv_aload_n hx hb dX10_sheet_27 rfl (lv_at hl 0 rfl) ?_
          refine gf_X10_66 C hH dX10_sheet_28 ?_
          refine lv_iconst (v := (5 : Int32)) hx hb dX10_sheet_31 (by decide) ?_
          obtain ⟨r8, S9, hc7, h⟩ := bn2_e h
          refine r_callV1 (ki := 8) (i := 0) (ci := 5) (As := [.int (5 : Int32)]) C hl.1 hH (c_X5_find l g  hc7) q788 q43 q785 q786 q787 nd_X5_find rfl (by decide) ⟨Nat.zero_le _, Nat.zero_le _⟩ (by decide) (by decide) ⟨_, rfl⟩ rfl (Nat.le_of_ble_eq_true rfl) dX10_sheet_32 (fun H locs hH => ?_)
          exact E_int C hr hH h dX10_sheet_35
      · replace h := if_f h c11
        refine lv_bipush (v := (-2 : Int32)) hx hb dX10_sheet_20 (by decide) ?_
        exact E_int C hr hH h dX10_sheet_22
theorem c_X10_sheet (l : Launch) (g : gT) {a1 : Int32} {a2 : Int32} {a3 : Int32}  {S : sT} {r : Int32} {S1 : sT} (h : f_X10_sheet a1 a2 a3 S = some (r, S1)) : MF l yX10_sheet cX10_sheet 4 (some .int) 3 g [.ref (gad g 0 0), .int a1, .int a2, .int a3] S (some (.int r)) S1 := by
  refine MF.of (own := RX10) rfl rfl (Nat.le_of_ble_eq_true rfl) ?_
  intro p e s m below meth c C hr hH ls hl
  exact w_X10_sheet C hr (o := (r, S1))  hH hl h
theorem nd_X10_lose : yX10_lose.cls ≠ "java/lang/invoke/MethodHandle" ∧ yX10_lose.cls ≠ "java/lang/invoke/VarHandle" ∧ (parseMethodDescriptor yX10_lose.desc).map (fun d => d.parameters.length) = some 1 := by decide +kernel
def f_X10_lose (a1 : Int32) (S : sT) : Option (Int32 × sT) :=
 bn (f_X5_isSheet a1 S) (fun r2 =>
 (if r2 = (0 : Int32) then
 some ((-2 : Int32), S)
 else
 bn (f_X5_isLost a1 S) (fun r4 =>
 (if r4 = (0 : Int32) then
 bn (f_X5_sizeOf a1 S) (fun r6 =>
 bn (f_X5_drop a1 S) (fun S8 =>
 some (r6, S8)))
 else
 bn2 (f_X5_find (1 : Int32) S) (fun r10 S11 =>
 some (r10, S11))))))
set_option maxHeartbeats 4000000 in
set_option maxRecDepth 100000 in
theorem w_X10_lose (C : Cx p s m args meth c cX10_lose 3 RX10 g) (hr : meth.sig.returnType = (some .int)) {o : Int32 × sT} {a1 : Int32}  {S : sT} {H : Heap} {locs : List Loc} {ls : Array Slot} (hH : Hp g s S H locs) (hl : lv_has ls 3 [(0, .ref (gad g 0 0)), (1, .int a1)]) (h : f_X10_lose a1 S = some o) : W p l e (rmL 4) s m args below meth c H locs 0 0 (Qm g below args s (some (.int o.1)) o.2) (F0 m 0 ls []) := by
  obtain ⟨hx, hb, hml, hown, hts, hlk, hK⟩ := id C
  unfold f_X10_lose at h
  refine lv_iload_n hx hb dX10_lose_0 rfl (lv_at hl 1 rfl) ?_
  obtain ⟨r2, hc1, h⟩ := bn_e h
  refine r_callS1 (As := [.int a1]) C hl.1 hH (c_X5_isSheet l g  hc1) q779 q43 q777 q778 nd_X5_isSheet rfl (by decide) ⟨Nat.zero_le _, Nat.zero_le _⟩ (Nat.le_of_ble_eq_true rfl) dX10_lose_1 (fun H locs hH => ?_)
  refine lv_if_ne (tgt := 10) hx hb dX10_lose_4 (by decide) (fun c13 => ?_) (fun c13 => ?_)
  · replace h := if_f h c13
    refine lv_aload_n hx hb dX10_lose_10 rfl (lv_at hl 0 rfl) ?_
    refine gf_X10_66 C hH dX10_lose_11 ?_
    refine lv_iload_n hx hb dX10_lose_14 rfl (lv_at hl 1 rfl) ?_
    obtain ⟨r4, hc3, h⟩ := bn_e h
    refine r_callV1 (ki := 8) (i := 0) (ci := 5) (As := [.int a1]) C hl.1 hH (c_X5_isLost l g  hc3) q783 q43 q780 q781 q782 nd_X5_isLost rfl (by decide) ⟨Nat.zero_le _, Nat.zero_le _⟩ (by decide) (by decide) ⟨_, rfl⟩ rfl (Nat.le_of_ble_eq_true rfl) dX10_lose_15 (fun H locs hH => ?_)
    refine lv_if_eq (tgt := 30) hx hb dX10_lose_18 (by decide) (fun c12 => ?_) (fun c12 => ?_)
    · replace h := if_t h c12
      refine lv_aload_n hx hb dX10_lose_30 rfl (lv_at hl 0 rfl) ?_
      refine gf_X10_66 C hH dX10_lose_31 ?_
      refine lv_iload_n hx hb dX10_lose_34 rfl (lv_at hl 1 rfl) ?_
      obtain ⟨r6, hc5, h⟩ := bn_e h
      refine r_callV1 (ki := 8) (i := 0) (ci := 5) (As := [.int a1]) C hl.1 hH (c_X5_sizeOf l g  hc5) q792 q43 q789 q790 q791 nd_X5_sizeOf rfl (by decide) ⟨Nat.zero_le _, Nat.zero_le _⟩ (by decide) (by decide) ⟨_, rfl⟩ rfl (Nat.le_of_ble_eq_true rfl) dX10_lose_35 (fun H locs hH => ?_)
      refine lv_istore_n (lv' := [(2, .int r6), (0, .ref (gad g 0 0)), (1, .int a1)]) hx hb dX10_lose_38 rfl hl (by decide) rfl (fun ls hl => ?_)
      refine lv_aload_n hx hb dX10_lose_39 rfl (lv_at hl 1 rfl) ?_
      refine gf_X10_66 C hH dX10_lose_40 ?_
      refine lv_iload_n hx hb dX10_lose_43 rfl (lv_at hl 2 rfl) ?_
      obtain ⟨S8, hc7, h⟩ := bn_e h
      refine r_callV0 (ki := 8) (i := 0) (ci := 5) (As := [.int a1]) C hl.1 hH (c_X5_drop l g  hc7) q963 q43 q960 q961 q962 nd_X5_drop rfl (by decide) ⟨Nat.zero_le _, Nat.zero_le _⟩ (by decide) (by decide) ⟨_, rfl⟩ rfl (Nat.le_of_ble_eq_true rfl) dX10_lose_44 (fun H locs hH => ?_)
      refine lv_iload_n hx hb dX10_lose_47 rfl (lv_at hl 0 rfl) ?_
      exact E_int C hr hH h dX10_lose_48
    · replace h := if_f h c12
      refine lv_aload_n hx hb dX10_lose_21 rfl (lv_at hl 0 rfl) ?_
      refine gf_X10_66 C hH dX10_lose_22 ?_
      refine lv_iconst (v := (1 : Int32)) hx hb dX10_lose_25 (by decide) ?_
      obtain ⟨r10, S11, hc9, h⟩ := bn2_e h
      refine r_callV1 (ki := 8) (i := 0) (ci := 5) (As := [.int (1 : Int32)]) C hl.1 hH (c_X5_find l g  hc9) q788 q43 q785 q786 q787 nd_X5_find rfl (by decide) ⟨Nat.zero_le _, Nat.zero_le _⟩ (by decide) (by decide) ⟨_, rfl⟩ rfl (Nat.le_of_ble_eq_true rfl) dX10_lose_26 (fun H locs hH => ?_)
      exact E_int C hr hH h dX10_lose_29
  · replace h := if_t h c13
    refine lv_bipush (v := (-2 : Int32)) hx hb dX10_lose_7 (by decide) ?_
    exact E_int C hr hH h dX10_lose_9
theorem c_X10_lose (l : Launch) (g : gT) {a1 : Int32}  {S : sT} {r : Int32} {S1 : sT} (h : f_X10_lose a1 S = some (r, S1)) : MF l yX10_lose cX10_lose 3 (some .int) 4 g [.ref (gad g 0 0), .int a1] S (some (.int r)) S1 := by
  refine MF.of (own := RX10) rfl rfl (Nat.le_of_ble_eq_true rfl) ?_
  intro p e s m below meth c C hr hH ls hl
  exact w_X10_lose C hr (o := (r, S1))  hH hl h
theorem nd_X10_lay : yX10_lay.cls ≠ "java/lang/invoke/MethodHandle" ∧ yX10_lay.cls ≠ "java/lang/invoke/VarHandle" ∧ (parseMethodDescriptor yX10_lay.desc).map (fun d => d.parameters.length) = some 4 := by decide +kernel
def f_X10_lay (a1 : Int32) (a2 : Int32) (a3 : Int32) (a4 : Int32) (S : sT) : Option (Int32 × sT) :=
 bn2 (f_X5_refusalOf a1 a2 a3 S) (fun r2 S3 =>
 (if r2 = (0 : Int32) then
 bn (f_X5_put a1 a3 a4 S3) (fun S5 =>
 some ((1 : Int32), S5))
 else
 some (r2, S3)))
set_option maxHeartbeats 4000000 in
set_option maxRecDepth 100000 in
theorem w_X10_lay (C : Cx p s m args meth c cX10_lay 6 RX10 g) (hr : meth.sig.returnType = (some .int)) {o : Int32 × sT} {a1 : Int32} {a2 : Int32} {a3 : Int32} {a4 : Int32}  {S : sT} {H : Heap} {locs : List Loc} {ls : Array Slot} (hH : Hp g s S H locs) (hl : lv_has ls 6 [(0, .ref (gad g 0 0)), (1, .int a1), (2, .int a2), (3, .int a3), (4, .int a4)]) (h : f_X10_lay a1 a2 a3 a4 S = some o) : W p l e (rmL 6) s m args below meth c H locs 0 0 (Qm g below args s (some (.int o.1)) o.2) (F0 m 0 ls []) := by
  obtain ⟨hx, hb, hml, hown, hts, hlk, hK⟩ := id C
  unfold f_X10_lay at h
  refine lv_aload_n hx hb dX10_lay_0 rfl (lv_at hl 0 rfl) ?_
  refine gf_X10_66 C hH dX10_lay_1 ?_
  refine lv_iload_n hx hb dX10_lay_4 rfl (lv_at hl 1 rfl) ?_
  refine lv_iload_n hx hb dX10_lay_5 rfl (lv_at hl 2 rfl) ?_
  refine lv_iload_n hx hb dX10_lay_6 rfl (lv_at hl 3 rfl) ?_
  obtain ⟨r2, S3, hc1, h⟩ := bn2_e h
  refine r_callV1 (ki := 8) (i := 0) (ci := 5) (As := [.int a1, .int a2, .int a3]) C hl.1 hH (c_X5_refusalOf l g  hc1) q975 q43 q972 q973 q974 nd_X5_refusalOf rfl (by decide) ⟨Nat.zero_le _, Nat.zero_le _⟩ (by decide) (by decide) ⟨_, rfl⟩ rfl (Nat.le_of_ble_eq_true rfl) dX10_lay_7 (fun H locs hH => ?_)
  refine lv_istore (lv' := [(5, .int r2), (0, .ref (gad g 0 0)), (1, .int a1), (2, .int a2), (3, .int a3), (4, .int a4)]) hx hb dX10_lay_10 hl (by decide) rfl (fun ls hl => ?_)
  refine lv_iload hx hb dX10_lay_12 (lv_at hl 0 rfl) ?_
  refine lv_if_eq (tgt := 20) hx hb dX10_lay_14 (by decide) (fun c6 => ?_) (fun c6 => ?_)
  · replace h := if_t h c6
    refine lv_aload_n hx hb dX10_lay_20 rfl (lv_at hl 1 rfl) ?_
    refine gf_X10_66 C hH dX10_lay_21 ?_
    refine lv_iload_n hx hb dX10_lay_24 rfl (lv_at hl 2 rfl) ?_
    refine lv_iload_n hx hb dX10_lay_25 rfl (lv_at hl 4 rfl) ?_
    refine lv_iload hx hb dX10_lay_26 (lv_at hl 5 rfl) ?_
    obtain ⟨S5, hc4, h⟩ := bn_e h
    refine r_callV0 (ki := 8) (i := 0) (ci := 5) (As := [.int a1, .int a3, .int a4]) C hl.1 hH (c_X5_put l g  hc4) q980 q43 q977 q978 q979 nd_X5_put rfl (by decide) ⟨Nat.zero_le _, Nat.zero_le _⟩ (by decide) (by decide) ⟨_, rfl⟩ rfl (Nat.le_of_ble_eq_true rfl) dX10_lay_28 (fun H locs hH => ?_)
    refine lv_iconst (v := (1 : Int32)) hx hb dX10_lay_31 (by decide) ?_
    exact E_int C hr hH h dX10_lay_32
  · replace h := if_f h c6
    refine lv_iload hx hb dX10_lay_17 (lv_at hl 0 rfl) ?_
    exact E_int C hr hH h dX10_lay_19
theorem c_X10_lay (l : Launch) (g : gT) {a1 : Int32} {a2 : Int32} {a3 : Int32} {a4 : Int32}  {S : sT} {r : Int32} {S1 : sT} (h : f_X10_lay a1 a2 a3 a4 S = some (r, S1)) : MF l yX10_lay cX10_lay 6 (some .int) 6 g [.ref (gad g 0 0), .int a1, .int a2, .int a3, .int a4] S (some (.int r)) S1 := by
  refine MF.of (own := RX10) rfl rfl (Nat.le_of_ble_eq_true rfl) ?_
  intro p e s m below meth c C hr hH ls hl
  exact w_X10_lay C hr (o := (r, S1))  hH hl h
theorem nd_X10_get : yX10_get.cls ≠ "java/lang/invoke/MethodHandle" ∧ yX10_get.cls ≠ "java/lang/invoke/VarHandle" ∧ (parseMethodDescriptor yX10_get.desc).map (fun d => d.parameters.length) = some 3 := by decide +kernel
def f_X10_get (a1 : Int32) (a2 : Int32) (a3 : Int32) (S : sT) : Option (Int32 × sT) :=
 bn2 (f_X5_refusalOf a1 a2 a3 S) (fun r2 S3 =>
 (if r2 = (0 : Int32) then
 bn (f_X5_itemAt a1 a3 S3) (fun r5 =>
 some (r5, S3))
 else
 some ((-2147483648 : Int32), S3)))
set_option maxHeartbeats 4000000 in
set_option maxRecDepth 100000 in
theorem w_X10_get (C : Cx p s m args meth c cX10_get 5 RX10 g) (hr : meth.sig.returnType = (some .int)) {o : Int32 × sT} {a1 : Int32} {a2 : Int32} {a3 : Int32}  {S : sT} {H : Heap} {locs : List Loc} {ls : Array Slot} (hH : Hp g s S H locs) (hl : lv_has ls 5 [(0, .ref (gad g 0 0)), (1, .int a1), (2, .int a2), (3, .int a3)]) (h : f_X10_get a1 a2 a3 S = some o) : W p l e (rmL 6) s m args below meth c H locs 0 0 (Qm g below args s (some (.int o.1)) o.2) (F0 m 0 ls []) := by
  obtain ⟨hx, hb, hml, hown, hts, hlk, hK⟩ := id C
  unfold f_X10_get at h
  refine lv_aload_n hx hb dX10_get_0 rfl (lv_at hl 0 rfl) ?_
  refine gf_X10_66 C hH dX10_get_1 ?_
  refine lv_iload_n hx hb dX10_get_4 rfl (lv_at hl 1 rfl) ?_
  refine lv_iload_n hx hb dX10_get_5 rfl (lv_at hl 2 rfl) ?_
  refine lv_iload_n hx hb dX10_get_6 rfl (lv_at hl 3 rfl) ?_
  obtain ⟨r2, S3, hc1, h⟩ := bn2_e h
  refine r_callV1 (ki := 8) (i := 0) (ci := 5) (As := [.int a1, .int a2, .int a3]) C hl.1 hH (c_X5_refusalOf l g  hc1) q975 q43 q972 q973 q974 nd_X5_refusalOf rfl (by decide) ⟨Nat.zero_le _, Nat.zero_le _⟩ (by decide) (by decide) ⟨_, rfl⟩ rfl (Nat.le_of_ble_eq_true rfl) dX10_get_7 (fun H locs hH => ?_)
  refine lv_istore (lv' := [(4, .int r2), (0, .ref (gad g 0 0)), (1, .int a1), (2, .int a2), (3, .int a3)]) hx hb dX10_get_10 hl (by decide) rfl (fun ls hl => ?_)
  refine lv_iload hx hb dX10_get_12 (lv_at hl 0 rfl) ?_
  refine lv_if_eq (tgt := 23) hx hb dX10_get_14 (by decide) (fun c6 => ?_) (fun c6 => ?_)
  · replace h := if_t h c6
    refine lv_aload_n hx hb dX10_get_23 rfl (lv_at hl 1 rfl) ?_
    refine gf_X10_66 C hH dX10_get_24 ?_
    refine lv_iload_n hx hb dX10_get_27 rfl (lv_at hl 2 rfl) ?_
    refine lv_iload_n hx hb dX10_get_28 rfl (lv_at hl 4 rfl) ?_
    obtain ⟨r5, hc4, h⟩ := bn_e h
    refine r_callV1 (ki := 8) (i := 0) (ci := 5) (As := [.int a1, .int a3]) C hl.1 hH (c_X5_itemAt l g  hc4) q797 q43 q794 q795 q796 nd_X5_itemAt rfl (by decide) ⟨Nat.zero_le _, Nat.zero_le _⟩ (by decide) (by decide) ⟨_, rfl⟩ rfl (Nat.le_of_ble_eq_true rfl) dX10_get_29 (fun H locs hH => ?_)
    exact E_int C hr hH h dX10_get_32
  · replace h := if_f h c6
    refine lv_ldcw (v := (-2147483648 : Int32)) hx hb hown (hts _ q999) dX10_get_17 ?_
    refine lv_goto (tgt := 32) hx hb dX10_get_20 (by decide) ?_
    exact E_int C hr hH h dX10_get_32
theorem c_X10_get (l : Launch) (g : gT) {a1 : Int32} {a2 : Int32} {a3 : Int32}  {S : sT} {r : Int32} {S1 : sT} (h : f_X10_get a1 a2 a3 S = some (r, S1)) : MF l yX10_get cX10_get 5 (some .int) 6 g [.ref (gad g 0 0), .int a1, .int a2, .int a3] S (some (.int r)) S1 := by
  refine MF.of (own := RX10) rfl rfl (Nat.le_of_ble_eq_true rfl) ?_
  intro p e s m below meth c C hr hH ls hl
  exact w_X10_get C hr (o := (r, S1))  hH hl h
theorem nd_X10_copy : yX10_copy.cls ≠ "java/lang/invoke/MethodHandle" ∧ yX10_copy.cls ≠ "java/lang/invoke/VarHandle" ∧ (parseMethodDescriptor yX10_copy.desc).map (fun d => d.parameters.length) = some 5 := by decide +kernel
def f_X10_copy (a1 : Int32) (a2 : Int32) (a3 : Int32) (a4 : Int32) (a5 : Int32) (S : sT) : Option (Int32 × sT) :=
 bn (f_X5_isSheet a1 S) (fun r2 =>
 (if r2 = (0 : Int32) then
 some ((-2 : Int32), S)
 else
 bn (f_X5_isSheet a3 S) (fun r4 =>
 (if r4 = (0 : Int32) then
 some ((-2 : Int32), S)
 else
 bn (f_X5_isLost a1 S) (fun r6 =>
 jn (bn2 (f_X5_find (1 : Int32) S) (fun r8 S9 =>
 some (r8, S9)))
 (fun j10 => (if r6 = (0 : Int32) then
 bn (f_X5_isLost a3 S) (fun r12 =>
 (if r12 = (0 : Int32) then
 bn (f_X5_formOf a1 S) (fun r14 =>
 bn (f_X5_formOf a3 S) (fun r16 =>
 (if r14 = r16 then
 jn (bn2 (f_X5_find (2 : Int32) S) (fun r18 S19 =>
 some (r18, S19)))
 (fun j20 => (if a5 < (0 : Int32) then
 j20
 else
 bn (f_X5_holds a1 a2 a5 S) (fun r22 =>
 (if r22 = (0 : Int32) then
 j20
 else
 bn (f_X5_holds a3 a4 a5 S) (fun r24 =>
 (if r24 = (0 : Int32) then
 j20
 else
 bn (f_X5_move a1 a2 a3 a4 a5 S) (fun S26 =>
 some ((1 : Int32), S26))))))))
 else
 bn2 (f_X5_find (4 : Int32) S) (fun r31 S32 =>
 some (r31, S32)))))
 else
 j10))
 else
 j10)))))))
set_option maxHeartbeats 4000000 in
set_option maxRecDepth 100000 in
theorem w_X10_copy (C : Cx p s m args meth c cX10_copy 6 RX10 g) (hr : meth.sig.returnType = (some .int)) {o : Int32 × sT} {a1 : Int32} {a2 : Int32} {a3 : Int32} {a4 : Int32} {a5 : Int32}  {S : sT} {H : Heap} {locs : List Loc} {ls : Array Slot} (hH : Hp g s S H locs) (hl : lv_has ls 6 [(0, .ref (gad g 0 0)), (1, .int a1), (2, .int a2), (3, .int a3), (4, .int a4), (5, .int a5)]) (h : f_X10_copy a1 a2 a3 a4 a5 S = some o) : W p l e (rmL 6) s m args below meth c H locs 0 0 (Qm g below args s (some (.int o.1)) o.2) (F0 m 0 ls []) := by
  obtain ⟨hx, hb, hml, hown, hts, hlk, hK⟩ := id C
  unfold f_X10_copy at h
  refine lv_iload_n hx hb dX10_copy_0 rfl (lv_at hl 1 rfl) ?_
  obtain ⟨r2, hc1, h⟩ := bn_e h
  refine r_callS1 (As := [.int a1]) C hl.1 hH (c_X5_isSheet l g  hc1) q779 q43 q777 q778 nd_X5_isSheet rfl (by decide) ⟨Nat.zero_le _, Nat.zero_le _⟩ (Nat.le_of_ble_eq_true rfl) dX10_copy_1 (fun H locs hH => ?_)
  refine lv_if_eq (tgt := 14) hx hb dX10_copy_4 (by decide) (fun c37 => ?_) (fun c37 => ?_)
  · replace h := if_t h c37
    refine lv_bipush (v := (-2 : Int32)) hx hb dX10_copy_14 (by decide) ?_
    exact E_int C hr hH h dX10_copy_16
  · replace h := if_f h c37
    refine lv_iload_n hx hb dX10_copy_7 rfl (lv_at hl 3 rfl) ?_
    obtain ⟨r4, hc3, h⟩ := bn_e h
    refine r_callS1 (As := [.int a3]) C hl.1 hH (c_X5_isSheet l g  hc3) q779 q43 q777 q778 nd_X5_isSheet rfl (by decide) ⟨Nat.zero_le _, Nat.zero_le _⟩ (Nat.le_of_ble_eq_true rfl) dX10_copy_8 (fun H locs hH => ?_)
    refine lv_if_ne (tgt := 17) hx hb dX10_copy_11 (by decide) (fun c36 => ?_) (fun c36 => ?_)
    · replace h := if_f h c36
      refine lv_aload_n hx hb dX10_copy_17 rfl (lv_at hl 0 rfl) ?_
      refine gf_X10_66 C hH dX10_copy_18 ?_
      refine lv_iload_n hx hb dX10_copy_21 rfl (lv_at hl 1 rfl) ?_
      obtain ⟨r6, hc5, h⟩ := bn_e h
      refine r_callV1 (ki := 8) (i := 0) (ci := 5) (As := [.int a1]) C hl.1 hH (c_X5_isLost l g  hc5) q783 q43 q780 q781 q782 nd_X5_isLost rfl (by decide) ⟨Nat.zero_le _, Nat.zero_le _⟩ (by decide) (by decide) ⟨_, rfl⟩ rfl (Nat.le_of_ble_eq_true rfl) dX10_copy_22 (fun H locs hH => ?_)
      obtain ⟨j10, ej10, h⟩ := jn_e h
      have hj10 : ∀  (H : Heap) (locs : List Loc) (ls : Array Slot), Hp g s S H locs → lv_has ls 6 [(0, .ref (gad g 0 0))] → j10  = some o → W p l e (rmL 6) s m args below meth c H locs 0 0 (Qm g below args s (some (.int o.1)) o.2) (F0 m 39 ls []) := by
        intro  H locs ls hH hl h
        rw [ej10] at h
        try dsimp only at h
        refine lv_aload_n hx hb dX10_copy_39 rfl (lv_at hl 0 rfl) ?_
        refine gf_X10_66 C hH dX10_copy_40 ?_
        refine lv_iconst (v := (1 : Int32)) hx hb dX10_copy_43 (by decide) ?_
        obtain ⟨r8, S9, hc7, h⟩ := bn2_e h
        refine r_callV1 (ki := 8) (i := 0) (ci := 5) (As := [.int (1 : Int32)]) C hl.1 hH (c_X5_find l g  hc7) q788 q43 q785 q786 q787 nd_X5_find rfl (by decide) ⟨Nat.zero_le _, Nat.zero_le _⟩ (by decide) (by decide) ⟨_, rfl⟩ rfl (Nat.le_of_ble_eq_true rfl) dX10_copy_44 (fun H locs hH => ?_)
        exact E_int C hr hH h dX10_copy_47
      clear ej10
      refine lv_if_ne (tgt := 39) hx hb dX10_copy_25 (by decide) (fun c35 => ?_) (fun c35 => ?_)
      · replace h := if_f h c35
        exact hj10 _ _ _ hH (lv_sub hl [0] rfl) h
      · replace h := if_t h c35
        refine lv_aload_n hx hb dX10_copy_28 rfl (lv_at hl 0 rfl) ?_
        refine gf_X10_66 C hH dX10_copy_29 ?_
        refine lv_iload_n hx hb dX10_copy_32 rfl (lv_at hl 3 rfl) ?_
        obtain ⟨r12, hc11, h⟩ := bn_e h
        refine r_callV1 (ki := 8) (i := 0) (ci := 5) (As := [.int a3]) C hl.1 hH (c_X5_isLost l g  hc11) q783 q43 q780 q781 q782 nd_X5_isLost rfl (by decide) ⟨Nat.zero_le _, Nat.zero_le _⟩ (by decide) (by decide) ⟨_, rfl⟩ rfl (Nat.le_of_ble_eq_true rfl) dX10_copy_33 (fun H locs hH => ?_)
        refine lv_if_eq (tgt := 48) hx hb dX10_copy_36 (by decide) (fun c34 => ?_) (fun c34 => ?_)
        · replace h := if_t h c34
          refine lv_aload_n hx hb dX10_copy_48 rfl (lv_at hl 0 rfl) ?_
          refine gf_X10_66 C hH dX10_copy_49 ?_
          refine lv_iload_n hx hb dX10_copy_52 rfl (lv_at hl 1 rfl) ?_
          obtain ⟨r14, hc13, h⟩ := bn_e h
          refine r_callV1 (ki := 8) (i := 0) (ci := 5) (As := [.int a1]) C hl.1 hH (c_X5_formOf l g  hc13) q1012 q43 q1009 q1010 q1011 nd_X5_formOf rfl (by decide) ⟨Nat.zero_le _, Nat.zero_le _⟩ (by decide) (by decide) ⟨_, rfl⟩ rfl (Nat.le_of_ble_eq_true rfl) dX10_copy_53 (fun H locs hH => ?_)
          refine lv_aload_n hx hb dX10_copy_56 rfl (lv_at hl 0 rfl) ?_
          refine gf_X10_66 C hH dX10_copy_57 ?_
          refine lv_iload_n hx hb dX10_copy_60 rfl (lv_at hl 3 rfl) ?_
          obtain ⟨r16, hc15, h⟩ := bn_e h
          refine r_callV1 (ki := 8) (i := 0) (ci := 5) (As := [.int a3]) C hl.1 hH (c_X5_formOf l g  hc15) q1012 q43 q1009 q1010 q1011 nd_X5_formOf rfl (by decide) ⟨Nat.zero_le _, Nat.zero_le _⟩ (by decide) (by decide) ⟨_, rfl⟩ rfl (Nat.le_of_ble_eq_true rfl) dX10_copy_61 (fun H locs hH => ?_)
          refine lv_icmp_eq (tgt := 76) hx hb dX10_copy_64 (by decide) (fun c33 => ?_) (fun c33 => ?_)
          · replace h := if_t h c33
            refine lv_iload hx hb dX10_copy_76 (lv_at hl 5 rfl) ?_
            obtain ⟨j20, ej20, h⟩ := jn_e h
            have hj20 : ∀  (H : Heap) (locs : List Loc) (ls : Array Slot), Hp g s S H locs → lv_has ls 6 [(0, .ref (gad g 0 0))] → j20  = some o → W p l e (rmL 6) s m args below meth c H locs 0 0 (Qm g below args s (some (.int o.1)) o.2) (F0 m 110 ls []) := by
              intro  H locs ls hH hl h
              rw [ej20] at h
              try dsimp only at h
              refine lv_aload_n hx hb dX10_copy_110 rfl (lv_at hl 0 rfl) ?_
              refine gf_X10_66 C hH dX10_copy_111 ?_
              refine lv_iconst (v := (2 : Int32)) hx hb dX10_copy_114 (by decide) ?_
              obtain ⟨r18, S19, hc17, h⟩ := bn2_e h
              refine r_callV1 (ki := 8) (i := 0) (ci := 5) (As := [.int (2 : Int32)]) C hl.1 hH (c_X5_find l g  hc17) q788 q43 q785 q786 q787 nd_X5_find rfl (by decide) ⟨Nat.zero_le _, Nat.zero_le _⟩ (by decide) (by decide) ⟨_, rfl⟩ rfl (Nat.le_of_ble_eq_true rfl) dX10_copy_115 (fun H locs hH => ?_)
              exact E_int C hr hH h dX10_copy_118
            clear ej20
            refine lv_if_lt (tgt := 110) hx hb dX10_copy_78 (by decide) (fun c29 => ?_) (fun c29 => ?_)
            · replace h := if_t h c29
              exact hj20 _ _ _ hH (lv_sub hl [0] rfl) h
            · replace h := if_f h c29
              refine lv_aload_n hx hb dX10_copy_81 rfl (lv_at hl 0 rfl) ?_
              refine gf_X10_66 C hH dX10_copy_82 ?_
              refine lv_iload_n hx hb dX10_copy_85 rfl (lv_at hl 1 rfl) ?_
              refine lv_iload_n hx hb dX10_copy_86 rfl (lv_at hl 2 rfl) ?_
              refine lv_iload hx hb dX10_copy_87 (lv_at hl 5 rfl) ?_
              obtain ⟨r22, hc21, h⟩ := bn_e h
              refine r_callV1 (ki := 8) (i := 0) (ci := 5) (As := [.int a1, .int a2, .int a5]) C hl.1 hH (c_X5_holds l g  hc21) q1016 q43 q1013 q1014 q1015 nd_X5_holds rfl (by decide) ⟨Nat.zero_le _, Nat.zero_le _⟩ (by decide) (by decide) ⟨_, rfl⟩ rfl (Nat.le_of_ble_eq_true rfl) dX10_copy_89 (fun H locs hH => ?_)
              refine lv_if_eq (tgt := 110) hx hb dX10_copy_92 (by decide) (fun c28 => ?_) (fun c28 => ?_)
              · replace h := if_t h c28
                exact hj20 _ _ _ hH (lv_sub hl [0] rfl) h
              · replace h := if_f h c28
                refine lv_aload_n hx hb dX10_copy_95 rfl (lv_at hl 0 rfl) ?_
                refine gf_X10_66 C hH dX10_copy_96 ?_
                refine lv_iload_n hx hb dX10_copy_99 rfl (lv_at hl 3 rfl) ?_
                refine lv_iload hx hb dX10_copy_100 (lv_at hl 4 rfl) ?_
                refine lv_iload hx hb dX10_copy_102 (lv_at hl 5 rfl) ?_
                obtain ⟨r24, hc23, h⟩ := bn_e h
                refine r_callV1 (ki := 8) (i := 0) (ci := 5) (As := [.int a3, .int a4, .int a5]) C hl.1 hH (c_X5_holds l g  hc23) q1016 q43 q1013 q1014 q1015 nd_X5_holds rfl (by decide) ⟨Nat.zero_le _, Nat.zero_le _⟩ (by decide) (by decide) ⟨_, rfl⟩ rfl (Nat.le_of_ble_eq_true rfl) dX10_copy_104 (fun H locs hH => ?_)
                refine lv_if_ne (tgt := 119) hx hb dX10_copy_107 (by decide) (fun c27 => ?_) (fun c27 => ?_)
                · replace h := if_f h c27
                  refine lv_aload_n hx hb dX10_copy_119 rfl (lv_at hl 0 rfl) ?_
                  refine gf_X10_66 C hH dX10_copy_120 ?_
                  refine lv_iload_n hx hb dX10_copy_123 rfl (lv_at hl 1 rfl) ?_
                  refine lv_iload_n hx hb dX10_copy_124 rfl (lv_at hl 2 rfl) ?_
                  refine lv_iload_n hx hb dX10_copy_125 rfl (lv_at hl 3 rfl) ?_
                  refine lv_iload hx hb dX10_copy_126 (lv_at hl 4 rfl) ?_
                  refine lv_iload hx hb dX10_copy_128 (lv_at hl 5 rfl) ?_
                  obtain ⟨S26, hc25, h⟩ := bn_e h
                  refine r_callV0 (ki := 8) (i := 0) (ci := 5) (As := [.int a1, .int a2, .int a3, .int a4, .int a5]) C hl.1 hH (c_X5_move l g  hc25) q1020 q43 q1017 q1018 q1019 nd_X5_move rfl (by decide) ⟨Nat.zero_le _, Nat.zero_le _⟩ (by decide) (by decide) ⟨_, rfl⟩ rfl (Nat.le_of_ble_eq_true rfl) dX10_copy_130 (fun H locs hH => ?_)
                  refine lv_iconst (v := (1 : Int32)) hx hb dX10_copy_133 (by decide) ?_
                  exact E_int C hr hH h dX10_copy_134
                · replace h := if_t h c27
                  exact hj20 _ _ _ hH (lv_sub hl [0] rfl) h
          · replace h := if_f h c33
            refine lv_aload_n hx hb dX10_copy_67 rfl (lv_at hl 0 rfl) ?_
            refine gf_X10_66 C hH dX10_copy_68 ?_
            refine lv_iconst (v := (4 : Int32)) hx hb dX10_copy_71 (by decide) ?_
            obtain ⟨r31, S32, hc30, h⟩ := bn2_e h
            refine r_callV1 (ki := 8) (i := 0) (ci := 5) (As := [.int (4 : Int32)]) C hl.1 hH (c_X5_find l g  hc30) q788 q43 q785 q786 q787 nd_X5_find rfl (by decide) ⟨Nat.zero_le _, Nat.zero_le _⟩ (by decide) (by decide) ⟨_, rfl⟩ rfl (Nat.le_of_ble_eq_true rfl) dX10_copy_72 (fun H locs hH => ?_)
            exact E_int C hr hH h dX10_copy_75
        · replace h := if_f h c34
          exact hj10 _ _ _ hH (lv_sub hl [0] rfl) h
    · replace h := if_t h c36
      refine lv_bipush (v := (-2 : Int32)) hx hb dX10_copy_14 (by decide) ?_
      exact E_int C hr hH h dX10_copy_16
theorem c_X10_copy (l : Launch) (g : gT) {a1 : Int32} {a2 : Int32} {a3 : Int32} {a4 : Int32} {a5 : Int32}  {S : sT} {r : Int32} {S1 : sT} (h : f_X10_copy a1 a2 a3 a4 a5 S = some (r, S1)) : MF l yX10_copy cX10_copy 6 (some .int) 6 g [.ref (gad g 0 0), .int a1, .int a2, .int a3, .int a4, .int a5] S (some (.int r)) S1 := by
  refine MF.of (own := RX10) rfl rfl (Nat.le_of_ble_eq_true rfl) ?_
  intro p e s m below meth c C hr hH ls hl
  exact w_X10_copy C hr (o := (r, S1))  hH hl h
theorem nd_X10_write : yX10_write.cls ≠ "java/lang/invoke/MethodHandle" ∧ yX10_write.cls ≠ "java/lang/invoke/VarHandle" ∧ (parseMethodDescriptor yX10_write.desc).map (fun d => d.parameters.length) = some 2 := by decide +kernel
def b_X10_write_63 (a2 : Int32) (w3 : Nat) (x13 : Int32) (x14 : Int32) (S15 : sT) (k16 : Int32 → sT → Option (Int32 × sT)) : Option (Int32 × sT) :=
 (if x13 ≤ x14 then
 some (x13, S15)
 else
 bn (f_X9_heightOf w3 x14 S15) (fun r18 =>
 bn (f_X5_put a2 x14 r18 S15) (fun S20 =>
 lt (x14 + (1 : Int32)) (fun x21 =>
 k16 x21 S20))))
def l_X10_write_63 (a2 : Int32) (w3 : Nat) (x13 : Int32) : Nat → Int32 → sT → Option (Int32 × sT)
 | 0, _, _ => none
 | n + 1, x14, S15 => b_X10_write_63 a2 w3 x13 x14 S15 (l_X10_write_63 a2 w3 x13 n)
theorem l_X10_write_63_s (a2 : Int32) (w3 : Nat) (x13 : Int32) (n : Nat) (x14 : Int32) (S15 : sT) : l_X10_write_63 a2 w3 x13 (n + 1) x14 S15 = b_X10_write_63 a2 w3 x13 x14 S15 (l_X10_write_63 a2 w3 x13 n) := rfl
def f_X10_write (a1 : Int32) (a2 : Int32) (S : sT) : Option (Int32 × sT) :=
 bn (f_X1_wallBehind a1 S) (fun r2 =>
 nl r2 (
 some ((-2 : Int32), S)) (fun w3 => ck (decide (w3 < 16)) (
 bn (f_X5_isSheet a2 S) (fun r6 =>
 (if r6 = (0 : Int32) then
 some ((-2 : Int32), S)
 else
 bn (f_X5_isLost a2 S) (fun r8 =>
 (if r8 = (0 : Int32) then
 bn (f_X5_sizeOf a2 S) (fun r10 =>
 bn (f_X9_columnCount w3 S) (fun r12 =>
 lt (if r12 < r10 then r12 else r10) (fun x13 =>
 l_X10_write_63 a2 w3 x13 FU (0 : Int32) S)))
 else
 bn2 (f_X5_find (1 : Int32) S) (fun r24 S25 =>
 some (r24, S25)))))))))
set_option maxHeartbeats 4000000 in
set_option maxRecDepth 100000 in
theorem w_X10_write_63 (C : Cx p s m args meth c cX10_write 6 RX10 g) (hr : meth.sig.returnType = (some .int)) {o : Int32 × sT}  {a2 : Int32} {w3 : Nat} {x13 : Int32} (hw3 : w3 < 16)  : ∀ (n : Nat) (x14 : Int32) (S15 : sT) (H : Heap) (locs : List Loc) (ls : Array Slot), Hp g s S15 H locs → lv_has ls 6 [(0, .ref (gad g 0 0)), (2, .int a2), (3, .ref (gad g 9 w3)), (4, .int x13), (5, .int x14)] → l_X10_write_63 a2 w3 x13 n x14 S15 = some o → W p l e (rmL 6) s m args below meth c H locs 0 0 (Qm g below args s (some (.int o.1)) o.2) (F0 m 63 ls []) := by
  obtain ⟨hx, hb, hml, hown, hts, hlk, hK⟩ := id C
  intro n
  induction n with
  | zero =>
    intro x14 S15 H locs ls hH hl h
    cases h
  | succ n ih =>
    intro x14 S15 H locs ls hH hl h
    rw [l_X10_write_63_s] at h
    unfold b_X10_write_63 at h
    refine lv_iload hx hb dX10_write_63 (lv_at hl 4 rfl) ?_
    refine lv_iload hx hb dX10_write_65 (lv_at hl 3 rfl) ?_
    refine lv_icmp_ge (tgt := 92) hx hb dX10_write_67 (by decide) (fun c22 => ?_) (fun c22 => ?_)
    · replace h := if_t h c22
      refine lv_iload hx hb dX10_write_92 (lv_at hl 3 rfl) ?_
      exact E_int C hr hH h dX10_write_94
    · replace h := if_f h c22
      refine lv_aload_n hx hb dX10_write_70 rfl (lv_at hl 0 rfl) ?_
      refine gf_X10_66 C hH dX10_write_71 ?_
      refine lv_iload_n hx hb dX10_write_74 rfl (lv_at hl 1 rfl) ?_
      refine lv_iload hx hb dX10_write_75 (lv_at hl 4 rfl) ?_
      refine lv_aload_n hx hb dX10_write_77 rfl (lv_at hl 2 rfl) ?_
      refine lv_iload hx hb dX10_write_78 (lv_at hl 4 rfl) ?_
      obtain ⟨r18, hc17, h⟩ := bn_e h
      refine r_callV1 (ki := 9) (i := w3) (ci := 8) (As := [.int x14]) C hl.1 hH (c_X9_heightOf l g hw3 hc17) q402 q80 q399 q400 q401 nd_X9_heightOf rfl (by decide) ⟨Nat.zero_le _, Nat.zero_le _⟩ (by decide) hw3 ⟨_, rfl⟩ rfl (Nat.le_of_ble_eq_true rfl) dX10_write_80 (fun H locs hH => ?_)
      obtain ⟨S20, hc19, h⟩ := bn_e h
      refine r_callV0 (ki := 8) (i := 0) (ci := 5) (As := [.int a2, .int x14, .int r18]) C hl.1 hH (c_X5_put l g  hc19) q980 q43 q977 q978 q979 nd_X5_put rfl (by decide) ⟨Nat.zero_le _, Nat.zero_le _⟩ (by decide) (by decide) ⟨_, rfl⟩ rfl (Nat.le_of_ble_eq_true rfl) dX10_write_83 (fun H locs hH => ?_)
      obtain ⟨x21, ex21⟩ : ∃ z : Int32, z = (x14 + (1 : Int32)) := ⟨_, rfl⟩
      replace h := lt_e h ex21
      refine lv_iinc (v := x21) (lv' := [(5, .int x21), (0, .ref (gad g 0 0)), (2, .int a2), (3, .ref (gad g 9 w3)), (4, .int x13)]) hx hb dX10_write_86 hl (k := 4) rfl (by rw [ex21]; rfl) (by decide) rfl (fun ls hl => ?_)
      refine lv_goto (tgt := 63) hx hb dX10_write_89 (by decide) ?_
      exact ih _ _ _ _ _ hH (lv_sub hl [1, 2, 3, 4, 0] rfl) h
set_option maxHeartbeats 4000000 in
set_option maxRecDepth 100000 in
theorem w_X10_write (C : Cx p s m args meth c cX10_write 6 RX10 g) (hr : meth.sig.returnType = (some .int)) {o : Int32 × sT} {a1 : Int32} {a2 : Int32}  {S : sT} {H : Heap} {locs : List Loc} {ls : Array Slot} (hH : Hp g s S H locs) (hl : lv_has ls 6 [(0, .ref (gad g 0 0)), (1, .int a1), (2, .int a2)]) (h : f_X10_write a1 a2 S = some o) : W p l e (rmL 6) s m args below meth c H locs 0 0 (Qm g below args s (some (.int o.1)) o.2) (F0 m 0 ls []) := by
  obtain ⟨hx, hb, hml, hown, hts, hlk, hK⟩ := id C
  unfold f_X10_write at h
  refine lv_aload_n hx hb dX10_write_0 rfl (lv_at hl 0 rfl) ?_
  refine gf_X10_38 C hH dX10_write_1 ?_
  refine lv_iload_n hx hb dX10_write_4 rfl (lv_at hl 1 rfl) ?_
  obtain ⟨r2, hc1, h⟩ := bn_e h
  refine r_callV1 (ki := 4) (i := 0) (ci := 1) (As := [.int a1]) C hl.1 hH (c_X1_wallBehind l g  hc1) q397 q27 q394 q395 q396 nd_X1_wallBehind rfl (by decide) ⟨Nat.zero_le _, Nat.zero_le _⟩ (by decide) (by decide) ⟨_, rfl⟩ rfl (Nat.le_of_ble_eq_true rfl) dX10_write_5 (fun H locs hH => ?_)
  cases r2 with
  | none =>
    replace h := nl_n h
    refine lv_astore_nN (lv' := [(3, .null), (0, .ref (gad g 0 0)), (1, .int a1), (2, .int a2)]) hx hb dX10_write_8 rfl hl (by decide) rfl (fun ls hl => ?_)
    refine lv_aload_nN hx hb dX10_write_9 rfl (lv_at hl 0 rfl) ?_
    refine lv_ifnullN (tgt := 20) hx hb dX10_write_10 (by decide) ?_
    refine lv_bipush (v := (-2 : Int32)) hx hb dX10_write_20 (by decide) ?_
    exact E_int C hr hH h dX10_write_22
  | some w3 =>
    replace h := nl_s h
    obtain ⟨hv4, h⟩ := ck_e h
    have hw3 : w3 < 16 := of_decide_eq_true hv4
    refine lv_astore_n (lv' := [(3, .ref (gad g 9 w3)), (0, .ref (gad g 0 0)), (1, .int a1), (2, .int a2)]) hx hb dX10_write_8 rfl hl (by decide) rfl (fun ls hl => ?_)
    refine lv_aload_n hx hb dX10_write_9 rfl (lv_at hl 0 rfl) ?_
    refine lv_ifnull hx hb dX10_write_10 ?_
    refine lv_iload_n hx hb dX10_write_13 rfl (lv_at hl 3 rfl) ?_
    obtain ⟨r6, hc5, h⟩ := bn_e h
    refine r_callS1 (As := [.int a2]) C hl.1 hH (c_X5_isSheet l g  hc5) q779 q43 q777 q778 nd_X5_isSheet rfl (by decide) ⟨Nat.zero_le _, Nat.zero_le _⟩ (Nat.le_of_ble_eq_true rfl) dX10_write_14 (fun H locs hH => ?_)
    refine lv_if_ne (tgt := 23) hx hb dX10_write_17 (by decide) (fun c27 => ?_) (fun c27 => ?_)
    · replace h := if_f h c27
      refine lv_aload_n hx hb dX10_write_23 rfl (lv_at hl 1 rfl) ?_
      refine gf_X10_66 C hH dX10_write_24 ?_
      refine lv_iload_n hx hb dX10_write_27 rfl (lv_at hl 3 rfl) ?_
      obtain ⟨r8, hc7, h⟩ := bn_e h
      refine r_callV1 (ki := 8) (i := 0) (ci := 5) (As := [.int a2]) C hl.1 hH (c_X5_isLost l g  hc7) q783 q43 q780 q781 q782 nd_X5_isLost rfl (by decide) ⟨Nat.zero_le _, Nat.zero_le _⟩ (by decide) (by decide) ⟨_, rfl⟩ rfl (Nat.le_of_ble_eq_true rfl) dX10_write_28 (fun H locs hH => ?_)
      refine lv_if_eq (tgt := 43) hx hb dX10_write_31 (by decide) (fun c26 => ?_) (fun c26 => ?_)
      · replace h := if_t h c26
        refine lv_aload_n hx hb dX10_write_43 rfl (lv_at hl 1 rfl) ?_
        refine gf_X10_66 C hH dX10_write_44 ?_
        refine lv_iload_n hx hb dX10_write_47 rfl (lv_at hl 3 rfl) ?_
        obtain ⟨r10, hc9, h⟩ := bn_e h
        refine r_callV1 (ki := 8) (i := 0) (ci := 5) (As := [.int a2]) C hl.1 hH (c_X5_sizeOf l g  hc9) q792 q43 q789 q790 q791 nd_X5_sizeOf rfl (by decide) ⟨Nat.zero_le _, Nat.zero_le _⟩ (by decide) (by decide) ⟨_, rfl⟩ rfl (Nat.le_of_ble_eq_true rfl) dX10_write_48 (fun H locs hH => ?_)
        refine lv_aload_n hx hb dX10_write_51 rfl (lv_at hl 0 rfl) ?_
        obtain ⟨r12, hc11, h⟩ := bn_e h
        refine r_callV1 (ki := 9) (i := w3) (ci := 8) (As := []) C hl.1 hH (c_X9_columnCount l g hw3 hc11) q695 q80 q900 q693 q694 nd_X9_columnCount rfl (by decide) ⟨Nat.zero_le _, Nat.zero_le _⟩ (by decide) hw3 ⟨_, rfl⟩ rfl (Nat.le_of_ble_eq_true rfl) dX10_write_52 (fun H locs hH => ?_)
        refine va_mmin hx hb (hml.trans hl.1.symm) hown (hts _ q1031) (hts _ q55) (hts _ q56) (hts _ q57) (Nat.le_of_ble_eq_true rfl) (Nat.le_of_ble_eq_true rfl) (Nat.zero_le _) (Nat.zero_le _) dX10_write_55 ?_
        refine lv_topi (fun x13 ex13 => ?_)
        replace h := lt_e h ex13
        refine lv_istore (lv' := [(4, .int x13), (3, .ref (gad g 9 w3)), (0, .ref (gad g 0 0)), (1, .int a1), (2, .int a2)]) hx hb dX10_write_58 hl (by decide) rfl (fun ls hl => ?_)
        refine lv_iconst (v := (0 : Int32)) hx hb dX10_write_60 (by decide) ?_
        refine lv_istore (lv' := [(5, .int (0 : Int32)), (4, .int x13), (3, .ref (gad g 9 w3)), (0, .ref (gad g 0 0)), (1, .int a1), (2, .int a2)]) hx hb dX10_write_61 hl (by decide) rfl (fun ls hl => ?_)
        exact w_X10_write_63 C hr hw3  _ _ _ _ _ _ hH (lv_sub hl [3, 5, 2, 1, 0] rfl) h
      · replace h := if_f h c26
        refine lv_aload_n hx hb dX10_write_34 rfl (lv_at hl 1 rfl) ?_
        refine gf_X10_66 C hH dX10_write_35 ?_
        refine lv_iconst (v := (1 : Int32)) hx hb dX10_write_38 (by decide) ?_
        obtain ⟨r24, S25, hc23, h⟩ := bn2_e h
        refine r_callV1 (ki := 8) (i := 0) (ci := 5) (As := [.int (1 : Int32)]) C hl.1 hH (c_X5_find l g  hc23) q788 q43 q785 q786 q787 nd_X5_find rfl (by decide) ⟨Nat.zero_le _, Nat.zero_le _⟩ (by decide) (by decide) ⟨_, rfl⟩ rfl (Nat.le_of_ble_eq_true rfl) dX10_write_39 (fun H locs hH => ?_)
        exact E_int C hr hH h dX10_write_42
    · replace h := if_t h c27
      refine lv_bipush (v := (-2 : Int32)) hx hb dX10_write_20 (by decide) ?_
      exact E_int C hr hH h dX10_write_22
theorem c_X10_write (l : Launch) (g : gT) {a1 : Int32} {a2 : Int32}  {S : sT} {r : Int32} {S1 : sT} (h : f_X10_write a1 a2 S = some (r, S1)) : MF l yX10_write cX10_write 6 (some .int) 6 g [.ref (gad g 0 0), .int a1, .int a2] S (some (.int r)) S1 := by
  refine MF.of (own := RX10) rfl rfl (Nat.le_of_ble_eq_true rfl) ?_
  intro p e s m below meth c C hr hH ls hl
  exact w_X10_write C hr (o := (r, S1))  hH hl h
theorem nd_X10_count : yX10_count.cls ≠ "java/lang/invoke/MethodHandle" ∧ yX10_count.cls ≠ "java/lang/invoke/VarHandle" ∧ (parseMethodDescriptor yX10_count.desc).map (fun d => d.parameters.length) = some 1 := by decide +kernel
def f_X10_count (a1 : Int32) (S : sT) : Option (Int32) :=
 (if a1 = (0 : Int32) then
 bn (f_X1_last  S) (fun r2 =>
 ck (decide (r2 < 16)) (
 bn (f_X9_columnCount r2 S) (fun r5 =>
 some r5)))
 else
 (if a1 = (1 : Int32) then
 bn (f_X1_turnCount  S) (fun r8 =>
 some r8)
 else
 (if a1 = (2 : Int32) then
 bn (f_X8_size 0 S) (fun r11 =>
 some r11)
 else
 (if a1 = (3 : Int32) then
 bn (f_X8_size 1 S) (fun r14 =>
 some r14)
 else
 (if a1 = (4 : Int32) then
 bn (f_X6_size  S) (fun r17 =>
 some r17)
 else
 (if a1 = (5 : Int32) then
 bn (f_X1_last  S) (fun r20 =>
 ck (decide (r20 < 16)) (
 bn (f_X9_stoneCount r20 S) (fun r23 =>
 some r23)))
 else
 (if a1 = (6 : Int32) then
 bn (f_X1_busyTurns  S) (fun r26 =>
 some r26)
 else
 (if a1 = (7 : Int32) then
 bn (f_X3_value (2 : Int32) S) (fun r29 =>
 some r29)
 else
 (if a1 = (8 : Int32) then
 bn (f_X5_latestFinding  S) (fun r32 =>
 some r32)
 else
 some (-2 : Int32))))))))))
set_option maxHeartbeats 4000000 in
set_option maxRecDepth 100000 in
theorem w_X10_count (C : Cx p s m args meth c cX10_count 2 RX10 g) (hr : meth.sig.returnType = (some .int)) {o : Int32} {a1 : Int32}  {S : sT} {H : Heap} {locs : List Loc} {ls : Array Slot} (hH : Hp g s S H locs) (hl : lv_has ls 2 [(0, .ref (gad g 0 0)), (1, .int a1)]) (h : f_X10_count a1 S = some o) : W p l e (rmL 4) s m args below meth c H locs 0 0 (Qm g below args s (some (.int o)) S) (F0 m 0 ls []) := by
  obtain ⟨hx, hb, hml, hown, hts, hlk, hK⟩ := id C
  unfold f_X10_count at h
  refine lv_iload_n hx hb dX10_count_0 rfl (lv_at hl 1 rfl) ?_
  by_cases c6 : a1 = (0 : Int32)
  · replace h := if_t h c6
    refine r_tabI C (k := 0) (off := 51) (tgt := 52) dX10_count_1 c6 (by decide) ?_
    refine lv_aload_n hx hb dX10_count_52 rfl (lv_at hl 0 rfl) ?_
    refine gf_X10_38 C hH dX10_count_53 ?_
    obtain ⟨r2, hc1, h⟩ := bn_e h
    refine r_callV1 (ki := 4) (i := 0) (ci := 1) (As := []) C hl.1 hH (c_X1_last l g  hc1) q621 q27 q618 q619 q620 nd_X1_last rfl (by decide) ⟨Nat.zero_le _, Nat.zero_le _⟩ (by decide) (by decide) ⟨_, rfl⟩ rfl (Nat.le_of_ble_eq_true rfl) dX10_count_56 (fun H locs hH => ?_)
    obtain ⟨hv3, h⟩ := ck_e h
    have hr2 : r2 < 16 := of_decide_eq_true hv3
    obtain ⟨r5, hc4, h⟩ := bn_e h
    refine r_callV1 (ki := 9) (i := r2) (ci := 8) (As := []) C hl.1 hH (c_X9_columnCount l g hr2 hc4) q695 q80 q900 q693 q694 nd_X9_columnCount rfl (by decide) ⟨Nat.zero_le _, Nat.zero_le _⟩ (by decide) hr2 ⟨_, rfl⟩ rfl (Nat.le_of_ble_eq_true rfl) dX10_count_59 (fun H locs hH => ?_)
    exact E_intc C hr hH h dX10_count_62
  · replace h := if_f h c6
    by_cases c9 : a1 = (1 : Int32)
    · replace h := if_t h c9
      refine r_tabI C (k := 1) (off := 62) (tgt := 63) dX10_count_1 c9 (by decide) ?_
      refine lv_aload_n hx hb dX10_count_63 rfl (lv_at hl 0 rfl) ?_
      refine gf_X10_38 C hH dX10_count_64 ?_
      obtain ⟨r8, hc7, h⟩ := bn_e h
      refine r_callV1 (ki := 4) (i := 0) (ci := 1) (As := []) C hl.1 hH (c_X1_turnCount l g  hc7) q602 q27 q599 q600 q601 nd_X1_turnCount rfl (by decide) ⟨Nat.zero_le _, Nat.zero_le _⟩ (by decide) (by decide) ⟨_, rfl⟩ rfl (Nat.le_of_ble_eq_true rfl) dX10_count_67 (fun H locs hH => ?_)
      exact E_intc C hr hH h dX10_count_70
    · replace h := if_f h c9
      by_cases c12 : a1 = (2 : Int32)
      · replace h := if_t h c12
        refine r_tabI C (k := 2) (off := 70) (tgt := 71) dX10_count_1 c12 (by decide) ?_
        refine lv_aload_n hx hb dX10_count_71 rfl (lv_at hl 0 rfl) ?_
        refine gf_X10_14 C hH dX10_count_72 ?_
        obtain ⟨r11, hc10, h⟩ := bn_e h
        refine r_callV1 (ki := 1) (i := 0) (ci := 7) (As := []) C hl.1 hH (c_X8_size l g (by decide) hc10) q181 q14 q296 q179 q180 nd_X8_size rfl (by decide) ⟨Nat.zero_le _, Nat.zero_le _⟩ (by decide) (by decide) ⟨_, rfl⟩ rfl (Nat.le_of_ble_eq_true rfl) dX10_count_75 (fun H locs hH => ?_)
        exact E_intc C hr hH h dX10_count_78
      · replace h := if_f h c12
        by_cases c15 : a1 = (3 : Int32)
        · replace h := if_t h c15
          refine r_tabI C (k := 3) (off := 78) (tgt := 79) dX10_count_1 c15 (by decide) ?_
          refine lv_aload_n hx hb dX10_count_79 rfl (lv_at hl 0 rfl) ?_
          refine gf_X10_18 C hH dX10_count_80 ?_
          obtain ⟨r14, hc13, h⟩ := bn_e h
          refine r_callV1 (ki := 1) (i := 1) (ci := 7) (As := []) C hl.1 hH (c_X8_size l g (by decide) hc13) q181 q14 q296 q179 q180 nd_X8_size rfl (by decide) ⟨Nat.zero_le _, Nat.zero_le _⟩ (by decide) (by decide) ⟨_, rfl⟩ rfl (Nat.le_of_ble_eq_true rfl) dX10_count_83 (fun H locs hH => ?_)
          exact E_intc C hr hH h dX10_count_86
        · replace h := if_f h c15
          by_cases c18 : a1 = (4 : Int32)
          · replace h := if_t h c18
            refine r_tabI C (k := 4) (off := 86) (tgt := 87) dX10_count_1 c18 (by decide) ?_
            refine lv_aload_n hx hb dX10_count_87 rfl (lv_at hl 0 rfl) ?_
            refine gf_X10_59 C hH dX10_count_88 ?_
            obtain ⟨r17, hc16, h⟩ := bn_e h
            refine r_callV1 (ki := 7) (i := 0) (ci := 6) (As := []) C hl.1 hH (c_X6_size l g  hc16) q753 q39 q750 q751 q752 nd_X6_size rfl (by decide) ⟨Nat.zero_le _, Nat.zero_le _⟩ (by decide) (by decide) ⟨_, rfl⟩ rfl (Nat.le_of_ble_eq_true rfl) dX10_count_91 (fun H locs hH => ?_)
            exact E_intc C hr hH h dX10_count_94
          · replace h := if_f h c18
            by_cases c24 : a1 = (5 : Int32)
            · replace h := if_t h c24
              refine r_tabI C (k := 5) (off := 94) (tgt := 95) dX10_count_1 c24 (by decide) ?_
              refine lv_aload_n hx hb dX10_count_95 rfl (lv_at hl 0 rfl) ?_
              refine gf_X10_38 C hH dX10_count_96 ?_
              obtain ⟨r20, hc19, h⟩ := bn_e h
              refine r_callV1 (ki := 4) (i := 0) (ci := 1) (As := []) C hl.1 hH (c_X1_last l g  hc19) q621 q27 q618 q619 q620 nd_X1_last rfl (by decide) ⟨Nat.zero_le _, Nat.zero_le _⟩ (by decide) (by decide) ⟨_, rfl⟩ rfl (Nat.le_of_ble_eq_true rfl) dX10_count_99 (fun H locs hH => ?_)
              obtain ⟨hv21, h⟩ := ck_e h
              have hr20 : r20 < 16 := of_decide_eq_true hv21
              obtain ⟨r23, hc22, h⟩ := bn_e h
              refine r_callV1 (ki := 9) (i := r20) (ci := 8) (As := []) C hl.1 hH (c_X9_stoneCount l g hr20 hc22) q1046 q80 q1043 q1044 q1045 nd_X9_stoneCount rfl (by decide) ⟨Nat.zero_le _, Nat.zero_le _⟩ (by decide) hr20 ⟨_, rfl⟩ rfl (Nat.le_of_ble_eq_true rfl) dX10_count_102 (fun H locs hH => ?_)
              exact E_intc C hr hH h dX10_count_105
            · replace h := if_f h c24
              by_cases c27 : a1 = (6 : Int32)
              · replace h := if_t h c27
                refine r_tabI C (k := 6) (off := 105) (tgt := 106) dX10_count_1 c27 (by decide) ?_
                refine lv_aload_n hx hb dX10_count_106 rfl (lv_at hl 0 rfl) ?_
                refine gf_X10_38 C hH dX10_count_107 ?_
                obtain ⟨r26, hc25, h⟩ := bn_e h
                refine r_callV1 (ki := 4) (i := 0) (ci := 1) (As := []) C hl.1 hH (c_X1_busyTurns l g  hc25) q1050 q27 q1047 q1048 q1049 nd_X1_busyTurns rfl (by decide) ⟨Nat.zero_le _, Nat.zero_le _⟩ (by decide) (by decide) ⟨_, rfl⟩ rfl (Nat.le_of_ble_eq_true rfl) dX10_count_110 (fun H locs hH => ?_)
                exact E_intc C hr hH h dX10_count_113
              · replace h := if_f h c27
                by_cases c30 : a1 = (7 : Int32)
                · replace h := if_t h c30
                  refine r_tabI C (k := 7) (off := 113) (tgt := 114) dX10_count_1 c30 (by decide) ?_
                  refine lv_aload_n hx hb dX10_count_114 rfl (lv_at hl 0 rfl) ?_
                  refine gf_X10_24 C hH dX10_count_115 ?_
                  refine lv_iconst (v := (2 : Int32)) hx hb dX10_count_118 (by decide) ?_
                  obtain ⟨r29, hc28, h⟩ := bn_e h
                  refine r_callV1 (ki := 2) (i := 0) (ci := 3) (As := [.int (2 : Int32)]) C hl.1 hH (c_X3_value l g  hc28) q270 q19 q376 q268 q269 nd_X3_value rfl (by decide) ⟨Nat.zero_le _, Nat.zero_le _⟩ (by decide) (by decide) ⟨_, rfl⟩ rfl (Nat.le_of_ble_eq_true rfl) dX10_count_119 (fun H locs hH => ?_)
                  exact E_intc C hr hH h dX10_count_122
                · replace h := if_f h c30
                  by_cases c33 : a1 = (8 : Int32)
                  · replace h := if_t h c33
                    refine r_tabI C (k := 8) (off := 122) (tgt := 123) dX10_count_1 c33 (by decide) ?_
                    refine lv_aload_n hx hb dX10_count_123 rfl (lv_at hl 0 rfl) ?_
                    refine gf_X10_66 C hH dX10_count_124 ?_
                    obtain ⟨r32, hc31, h⟩ := bn_e h
                    refine r_callV1 (ki := 8) (i := 0) (ci := 5) (As := []) C hl.1 hH (c_X5_latestFinding l g  hc31) q1056 q43 q1053 q1054 q1055 nd_X5_latestFinding rfl (by decide) ⟨Nat.zero_le _, Nat.zero_le _⟩ (by decide) (by decide) ⟨_, rfl⟩ rfl (Nat.le_of_ble_eq_true rfl) dX10_count_127 (fun H locs hH => ?_)
                    exact E_intc C hr hH h dX10_count_130
                  · replace h := if_f h c33
                    have nc6 := ne_toInt (k := 0) c6 (by decide)
                    have nc9 := ne_toInt (k := 1) c9 (by decide)
                    have nc12 := ne_toInt (k := 2) c12 (by decide)
                    have nc15 := ne_toInt (k := 3) c15 (by decide)
                    have nc18 := ne_toInt (k := 4) c18 (by decide)
                    have nc24 := ne_toInt (k := 5) c24 (by decide)
                    have nc27 := ne_toInt (k := 6) c27 (by decide)
                    have nc30 := ne_toInt (k := 7) c30 (by decide)
                    have nc33 := ne_toInt (k := 8) c33 (by decide)
                    refine lv_tableOut (tgt := 131) hx hb dX10_count_1 (by omega) (by decide) ?_
                    refine lv_bipush (v := (-2 : Int32)) hx hb dX10_count_131 (by decide) ?_
                    exact E_intc C hr hH h dX10_count_133
theorem c_X10_count (l : Launch) (g : gT) {a1 : Int32}  {S : sT} {r : Int32} (h : f_X10_count a1 S = some r) : MF l yX10_count cX10_count 2 (some .int) 4 g [.ref (gad g 0 0), .int a1] S (some (.int r)) S := by
  refine MF.of (own := RX10) rfl rfl (Nat.le_of_ble_eq_true rfl) ?_
  intro p e s m below meth c C hr hH ls hl
  exact w_X10_count C hr (o := r)  hH hl h
theorem nd_X10_mix : yX10_mix.cls ≠ "java/lang/invoke/MethodHandle" ∧ yX10_mix.cls ≠ "java/lang/invoke/VarHandle" ∧ (parseMethodDescriptor yX10_mix.desc).map (fun d => d.parameters.length) = some 2 := by decide +kernel
def f_X10_mix (a1 : Int64) (a2 : Int64) (S : sT) : Option (Int64) :=
 some (((31 : Int64) * a1) + a2)
set_option maxHeartbeats 4000000 in
set_option maxRecDepth 100000 in
theorem w_X10_mix (C : Cx p s m args meth c cX10_mix 4 RX10 g) (hr : meth.sig.returnType = (some .long)) {o : Int64} {a1 : Int64} {a2 : Int64}  {S : sT} {H : Heap} {locs : List Loc} {ls : Array Slot} (hH : Hp g s S H locs) (hl : lv_has ls 4 [(0, .long a1), (2, .long a2)]) (h : f_X10_mix a1 a2 S = some o) : W p l e (rmL 1) s m args below meth c H locs 0 0 (Qm g below args s (some (.long o)) S) (F0 m 0 ls []) := by
  obtain ⟨hx, hb, hml, hown, hts, hlk, hK⟩ := id C
  unfold f_X10_mix at h
  refine lv_ldc2 (v := (31 : Int64)) hx hb hown (hts _ q1074) dX10_mix_0 ?_
  refine lv_lload_n hx hb dX10_mix_3 rfl (lv_at hl 0 rfl) ?_
  refine lv_lmul hx hb dX10_mix_4 ?_
  refine lv_lload_n hx hb dX10_mix_5 rfl (lv_at hl 1 rfl) ?_
  refine lv_ladd hx hb dX10_mix_6 ?_
  exact E_longc C hr hH h dX10_mix_7
theorem c_X10_mix (l : Launch) (g : gT) {a1 : Int64} {a2 : Int64}  {S : sT} {r : Int64} (h : f_X10_mix a1 a2 S = some r) : MF l yX10_mix cX10_mix 4 (some .long) 1 g [.long a1, .long a2] S (some (.long r)) S := by
  refine MF.of (own := RX10) rfl rfl (Nat.le_of_ble_eq_true rfl) ?_
  intro p e s m below meth c C hr hH ls hl
  exact w_X10_mix C hr (o := r)  hH hl h
theorem nd_X10_mixBehind : yX10_mixBehind.cls ≠ "java/lang/invoke/MethodHandle" ∧ yX10_mixBehind.cls ≠ "java/lang/invoke/VarHandle" ∧ (parseMethodDescriptor yX10_mixBehind.desc).map (fun d => d.parameters.length) = some 2 := by decide +kernel
def b_X10_mixBehind_6 (a2 : Int32) (S : sT) (x1 : Int64) (x2 : Int32) (k3 : Int64 → Int32 → Option (Int64)) : Option (Int64) :=
 (if (3 : Int32) < x2 then
 some x1
 else
 bn (f_X10_behind a2 x2 S) (fun r5 =>
 bn (f_X10_mix x1 ((r5).toInt64) S) (fun r7 =>
 lt (x2 + (1 : Int32)) (fun x8 =>
 k3 r7 x8))))
def l_X10_mixBehind_6 (a2 : Int32) (S : sT) : Nat → Int64 → Int32 → Option (Int64)
 | 0, _, _ => none
 | n + 1, x1, x2 => b_X10_mixBehind_6 a2 S x1 x2 (l_X10_mixBehind_6 a2 S n)
theorem l_X10_mixBehind_6_s (a2 : Int32) (S : sT) (n : Nat) (x1 : Int64) (x2 : Int32) : l_X10_mixBehind_6 a2 S (n + 1) x1 x2 = b_X10_mixBehind_6 a2 S x1 x2 (l_X10_mixBehind_6 a2 S n) := rfl
def f_X10_mixBehind (a1 : Int64) (a2 : Int32) (S : sT) : Option (Int64) :=
 l_X10_mixBehind_6 a2 S FU a1 (0 : Int32)
set_option maxHeartbeats 4000000 in
set_option maxRecDepth 100000 in
theorem w_X10_mixBehind_6 (C : Cx p s m args meth c cX10_mixBehind 7 RX10 g) (hr : meth.sig.returnType = (some .long)) {o : Int64}  {a2 : Int32} {S : sT}   : ∀ (n : Nat) (x1 : Int64) (x2 : Int32) (H : Heap) (locs : List Loc) (ls : Array Slot), Hp g s S H locs → lv_has ls 7 [(0, .ref (gad g 0 0)), (3, .int a2), (4, .long x1), (6, .int x2)] → l_X10_mixBehind_6 a2 S n x1 x2 = some o → W p l e (rmL 5) s m args below meth c H locs 0 0 (Qm g below args s (some (.long o)) S) (F0 m 6 ls []) := by
  obtain ⟨hx, hb, hml, hown, hts, hlk, hK⟩ := id C
  intro n
  induction n with
  | zero =>
    intro x1 x2 H locs ls hH hl h
    cases h
  | succ n ih =>
    intro x1 x2 H locs ls hH hl h
    rw [l_X10_mixBehind_6_s] at h
    unfold b_X10_mixBehind_6 at h
    refine lv_iload hx hb dX10_mixBehind_6 (lv_at hl 3 rfl) ?_
    refine lv_iconst (v := (3 : Int32)) hx hb dX10_mixBehind_8 (by decide) ?_
    refine lv_icmp_gt (tgt := 33) hx hb dX10_mixBehind_9 (by decide) (fun c9 => ?_) (fun c9 => ?_)
    · replace h := if_t h c9
      refine lv_lload hx hb dX10_mixBehind_33 (lv_at hl 2 rfl) ?_
      exact E_longc C hr hH h dX10_mixBehind_35
    · replace h := if_f h c9
      refine lv_lload hx hb dX10_mixBehind_12 (lv_at hl 2 rfl) ?_
      refine lv_aload_n hx hb dX10_mixBehind_14 rfl (lv_at hl 0 rfl) ?_
      refine lv_iload_n hx hb dX10_mixBehind_15 rfl (lv_at hl 1 rfl) ?_
      refine lv_iload hx hb dX10_mixBehind_16 (lv_at hl 3 rfl) ?_
      obtain ⟨r5, hc4, h⟩ := bn_e h
      refine r_callV1 (ki := 0) (i := 0) (ci := 9) (As := [.int a2, .int x2]) C hl.1 hH (c_X10_behind l g  hc4) q503 q2 q1088 q501 q502 nd_X10_behind rfl (by decide) ⟨Nat.zero_le _, Nat.zero_le _⟩ (by decide) (by decide) ⟨_, rfl⟩ rfl (Nat.le_of_ble_eq_true rfl) dX10_mixBehind_18 (fun H locs hH => ?_)
      refine lv_i2l hx hb dX10_mixBehind_21 rfl ?_
      obtain ⟨r7, hc6, h⟩ := bn_e h
      refine r_callS1 (As := [.long x1, .long ((r5).toInt64)]) C hl.1 hH (c_X10_mix l g  hc6) q1073 q2 q1071 q1072 nd_X10_mix rfl (by decide) ⟨Nat.zero_le _, Nat.zero_le _⟩ (Nat.le_of_ble_eq_true rfl) dX10_mixBehind_22 (fun H locs hH => ?_)
      refine lv_lstore (lv' := [(4, .long r7), (0, .ref (gad g 0 0)), (3, .int a2), (6, .int x2)]) hx hb dX10_mixBehind_25 hl (by decide) rfl (fun ls hl => ?_)
      obtain ⟨x8, ex8⟩ : ∃ z : Int32, z = (x2 + (1 : Int32)) := ⟨_, rfl⟩
      replace h := lt_e h ex8
      refine lv_iinc (v := x8) (lv' := [(6, .int x8), (4, .long r7), (0, .ref (gad g 0 0)), (3, .int a2)]) hx hb dX10_mixBehind_27 hl (k := 3) rfl (by rw [ex8]; rfl) (by decide) rfl (fun ls hl => ?_)
      refine lv_goto (tgt := 6) hx hb dX10_mixBehind_30 (by decide) ?_
      exact ih _ _ _ _ _ hH (lv_sub hl [2, 3, 1, 0] rfl) h
set_option maxHeartbeats 4000000 in
set_option maxRecDepth 100000 in
theorem w_X10_mixBehind (C : Cx p s m args meth c cX10_mixBehind 7 RX10 g) (hr : meth.sig.returnType = (some .long)) {o : Int64} {a1 : Int64} {a2 : Int32}  {S : sT} {H : Heap} {locs : List Loc} {ls : Array Slot} (hH : Hp g s S H locs) (hl : lv_has ls 7 [(0, .ref (gad g 0 0)), (1, .long a1), (3, .int a2)]) (h : f_X10_mixBehind a1 a2 S = some o) : W p l e (rmL 5) s m args below meth c H locs 0 0 (Qm g below args s (some (.long o)) S) (F0 m 0 ls []) := by
  obtain ⟨hx, hb, hml, hown, hts, hlk, hK⟩ := id C
  unfold f_X10_mixBehind at h
  refine lv_lload_n hx hb dX10_mixBehind_0 rfl (lv_at hl 1 rfl) ?_
  refine lv_lstore (lv' := [(4, .long a1), (0, .ref (gad g 0 0)), (1, .long a1), (3, .int a2)]) hx hb dX10_mixBehind_1 hl (by decide) rfl (fun ls hl => ?_)
  refine lv_iconst (v := (0 : Int32)) hx hb dX10_mixBehind_3 (by decide) ?_
  refine lv_istore (lv' := [(6, .int (0 : Int32)), (4, .long a1), (0, .ref (gad g 0 0)), (1, .long a1), (3, .int a2)]) hx hb dX10_mixBehind_4 hl (by decide) rfl (fun ls hl => ?_)
  exact w_X10_mixBehind_6 C hr   _ _ _ _ _ _ hH (lv_sub hl [2, 4, 1, 0] rfl) h
theorem c_X10_mixBehind (l : Launch) (g : gT) {a1 : Int64} {a2 : Int32}  {S : sT} {r : Int64} (h : f_X10_mixBehind a1 a2 S = some r) : MF l yX10_mixBehind cX10_mixBehind 7 (some .long) 5 g [.ref (gad g 0 0), .long a1, .int a2] S (some (.long r)) S := by
  refine MF.of (own := RX10) rfl rfl (Nat.le_of_ble_eq_true rfl) ?_
  intro p e s m below meth c C hr hH ls hl
  exact w_X10_mixBehind C hr (o := r)  hH hl h
theorem nd_X10_mixColumn : yX10_mixColumn.cls ≠ "java/lang/invoke/MethodHandle" ∧ yX10_mixColumn.cls ≠ "java/lang/invoke/VarHandle" ∧ (parseMethodDescriptor yX10_mixColumn.desc).map (fun d => d.parameters.length) = some 3 := by decide +kernel
def f_X10_mixColumn (a1 : Int64) (a2 : Int32) (a3 : Int32) (S : sT) : Option (Int64) :=
 bn (f_X10_height a2 a3 S) (fun r2 =>
 bn (f_X10_mix a1 ((r2).toInt64) S) (fun r4 =>
 bn (f_X10_lean a2 a3 S) (fun r6 =>
 bn (f_X10_mix r4 ((r6).toInt64) S) (fun r8 =>
 bn (f_X10_stone a2 a3 (-1 : Int32) S) (fun r10 =>
 bn (f_X10_mix r8 ((r10).toInt64) S) (fun r12 =>
 bn (f_X10_stone a2 a3 (0 : Int32) S) (fun r14 =>
 bn (f_X10_mix r12 ((r14).toInt64) S) (fun r16 =>
 some r16))))))))
set_option maxHeartbeats 4000000 in
set_option maxRecDepth 100000 in
theorem w_X10_mixColumn (C : Cx p s m args meth c cX10_mixColumn 7 RX10 g) (hr : meth.sig.returnType = (some .long)) {o : Int64} {a1 : Int64} {a2 : Int32} {a3 : Int32}  {S : sT} {H : Heap} {locs : List Loc} {ls : Array Slot} (hH : Hp g s S H locs) (hl : lv_has ls 7 [(0, .ref (gad g 0 0)), (1, .long a1), (3, .int a2), (4, .int a3)]) (h : f_X10_mixColumn a1 a2 a3 S = some o) : W p l e (rmL 5) s m args below meth c H locs 0 0 (Qm g below args s (some (.long o)) S) (F0 m 0 ls []) := by
  obtain ⟨hx, hb, hml, hown, hts, hlk, hK⟩ := id C
  unfold f_X10_mixColumn at h
  refine lv_lload_n hx hb dX10_mixColumn_0 rfl (lv_at hl 1 rfl) ?_
  refine lv_aload_n hx hb dX10_mixColumn_1 rfl (lv_at hl 0 rfl) ?_
  refine lv_iload_n hx hb dX10_mixColumn_2 rfl (lv_at hl 2 rfl) ?_
  refine lv_iload hx hb dX10_mixColumn_3 (lv_at hl 3 rfl) ?_
  obtain ⟨r2, hc1, h⟩ := bn_e h
  refine r_callV1 (ki := 0) (i := 0) (ci := 9) (As := [.int a2, .int a3]) C hl.1 hH (c_X10_height l g  hc1) q393 q2 q1080 q391 q392 nd_X10_height rfl (by decide) ⟨Nat.zero_le _, Nat.zero_le _⟩ (by decide) (by decide) ⟨_, rfl⟩ rfl (Nat.le_of_ble_eq_true rfl) dX10_mixColumn_5 (fun H locs hH => ?_)
  refine lv_i2l hx hb dX10_mixColumn_8 rfl ?_
  obtain ⟨r4, hc3, h⟩ := bn_e h
  refine r_callS1 (As := [.long a1, .long ((r2).toInt64)]) C hl.1 hH (c_X10_mix l g  hc3) q1073 q2 q1071 q1072 nd_X10_mix rfl (by decide) ⟨Nat.zero_le _, Nat.zero_le _⟩ (Nat.le_of_ble_eq_true rfl) dX10_mixColumn_9 (fun H locs hH => ?_)
  refine lv_lstore (lv' := [(5, .long r4), (0, .ref (gad g 0 0)), (1, .long a1), (3, .int a2), (4, .int a3)]) hx hb dX10_mixColumn_12 hl (by decide) rfl (fun ls hl => ?_)
  refine lv_lload hx hb dX10_mixColumn_14 (lv_at hl 0 rfl) ?_
  refine lv_aload_n hx hb dX10_mixColumn_16 rfl (lv_at hl 1 rfl) ?_
  refine lv_iload_n hx hb dX10_mixColumn_17 rfl (lv_at hl 3 rfl) ?_
  refine lv_iload hx hb dX10_mixColumn_18 (lv_at hl 4 rfl) ?_
  obtain ⟨r6, hc5, h⟩ := bn_e h
  refine r_callV1 (ki := 0) (i := 0) (ci := 9) (As := [.int a2, .int a3]) C hl.1 hH (c_X10_lean l g  hc5) q460 q2 q1081 q458 q459 nd_X10_lean rfl (by decide) ⟨Nat.zero_le _, Nat.zero_le _⟩ (by decide) (by decide) ⟨_, rfl⟩ rfl (Nat.le_of_ble_eq_true rfl) dX10_mixColumn_20 (fun H locs hH => ?_)
  refine lv_i2l hx hb dX10_mixColumn_23 rfl ?_
  obtain ⟨r8, hc7, h⟩ := bn_e h
  refine r_callS1 (As := [.long r4, .long ((r6).toInt64)]) C hl.1 hH (c_X10_mix l g  hc7) q1073 q2 q1071 q1072 nd_X10_mix rfl (by decide) ⟨Nat.zero_le _, Nat.zero_le _⟩ (Nat.le_of_ble_eq_true rfl) dX10_mixColumn_24 (fun H locs hH => ?_)
  refine lv_lstore (lv' := [(5, .long r8), (0, .ref (gad g 0 0)), (1, .long a1), (3, .int a2), (4, .int a3)]) hx hb dX10_mixColumn_27 hl (by decide) rfl (fun ls hl => ?_)
  refine lv_lload hx hb dX10_mixColumn_29 (lv_at hl 0 rfl) ?_
  refine lv_aload_n hx hb dX10_mixColumn_31 rfl (lv_at hl 1 rfl) ?_
  refine lv_iload_n hx hb dX10_mixColumn_32 rfl (lv_at hl 3 rfl) ?_
  refine lv_iload hx hb dX10_mixColumn_33 (lv_at hl 4 rfl) ?_
  refine lv_iconst (v := (-1 : Int32)) hx hb dX10_mixColumn_35 (by decide) ?_
  obtain ⟨r10, hc9, h⟩ := bn_e h
  refine r_callV1 (ki := 0) (i := 0) (ci := 9) (As := [.int a2, .int a3, .int (-1 : Int32)]) C hl.1 hH (c_X10_stone l g  hc9) q480 q2 q1082 q478 q479 nd_X10_stone rfl (by decide) ⟨Nat.zero_le _, Nat.zero_le _⟩ (by decide) (by decide) ⟨_, rfl⟩ rfl (Nat.le_of_ble_eq_true rfl) dX10_mixColumn_36 (fun H locs hH => ?_)
  refine lv_i2l hx hb dX10_mixColumn_39 rfl ?_
  obtain ⟨r12, hc11, h⟩ := bn_e h
  refine r_callS1 (As := [.long r8, .long ((r10).toInt64)]) C hl.1 hH (c_X10_mix l g  hc11) q1073 q2 q1071 q1072 nd_X10_mix rfl (by decide) ⟨Nat.zero_le _, Nat.zero_le _⟩ (Nat.le_of_ble_eq_true rfl) dX10_mixColumn_40 (fun H locs hH => ?_)
  refine lv_lstore (lv' := [(5, .long r12), (0, .ref (gad g 0 0)), (1, .long a1), (3, .int a2), (4, .int a3)]) hx hb dX10_mixColumn_43 hl (by decide) rfl (fun ls hl => ?_)
  refine lv_lload hx hb dX10_mixColumn_45 (lv_at hl 0 rfl) ?_
  refine lv_aload_n hx hb dX10_mixColumn_47 rfl (lv_at hl 1 rfl) ?_
  refine lv_iload_n hx hb dX10_mixColumn_48 rfl (lv_at hl 3 rfl) ?_
  refine lv_iload hx hb dX10_mixColumn_49 (lv_at hl 4 rfl) ?_
  refine lv_iconst (v := (0 : Int32)) hx hb dX10_mixColumn_51 (by decide) ?_
  obtain ⟨r14, hc13, h⟩ := bn_e h
  refine r_callV1 (ki := 0) (i := 0) (ci := 9) (As := [.int a2, .int a3, .int (0 : Int32)]) C hl.1 hH (c_X10_stone l g  hc13) q480 q2 q1082 q478 q479 nd_X10_stone rfl (by decide) ⟨Nat.zero_le _, Nat.zero_le _⟩ (by decide) (by decide) ⟨_, rfl⟩ rfl (Nat.le_of_ble_eq_true rfl) dX10_mixColumn_52 (fun H locs hH => ?_)
  refine lv_i2l hx hb dX10_mixColumn_55 rfl ?_
  obtain ⟨r16, hc15, h⟩ := bn_e h
  refine r_callS1 (As := [.long r12, .long ((r14).toInt64)]) C hl.1 hH (c_X10_mix l g  hc15) q1073 q2 q1071 q1072 nd_X10_mix rfl (by decide) ⟨Nat.zero_le _, Nat.zero_le _⟩ (Nat.le_of_ble_eq_true rfl) dX10_mixColumn_56 (fun H locs hH => ?_)
  exact E_longc C hr hH h dX10_mixColumn_59
theorem c_X10_mixColumn (l : Launch) (g : gT) {a1 : Int64} {a2 : Int32} {a3 : Int32}  {S : sT} {r : Int64} (h : f_X10_mixColumn a1 a2 a3 S = some r) : MF l yX10_mixColumn cX10_mixColumn 7 (some .long) 5 g [.ref (gad g 0 0), .long a1, .int a2, .int a3] S (some (.long r)) S := by
  refine MF.of (own := RX10) rfl rfl (Nat.le_of_ble_eq_true rfl) ?_
  intro p e s m below meth c C hr hH ls hl
  exact w_X10_mixColumn C hr (o := r)  hH hl h
theorem nd_X10_mixPlans : yX10_mixPlans.cls ≠ "java/lang/invoke/MethodHandle" ∧ yX10_mixPlans.cls ≠ "java/lang/invoke/VarHandle" ∧ (parseMethodDescriptor yX10_mixPlans.desc).map (fun d => d.parameters.length) = some 1 := by decide +kernel
def b_X10_mixPlans_105 (j60 : Int64 → sT → Option (Int64 × sT)) (x61 : Int64) (x62 : Int32) (S63 : sT) (k64 : Int64 → Int32 → sT → Option (Int64 × sT)) : Option (Int64 × sT) :=
 (if (2 : Int32) < x62 then
 j60 x61 S63
 else
 bn2 (f_X10_who x62 S63) (fun r66 S67 =>
 bn (f_X10_mix x61 ((r66).toInt64) S67) (fun r69 =>
 lt (x62 + (1 : Int32)) (fun x70 =>
 k64 r69 x70 S67))))
def l_X10_mixPlans_105 (j60 : Int64 → sT → Option (Int64 × sT)) : Nat → Int64 → Int32 → sT → Option (Int64 × sT)
 | 0, _, _, _ => none
 | n + 1, x61, x62, S63 => b_X10_mixPlans_105 j60 x61 x62 S63 (l_X10_mixPlans_105 j60 n)
theorem l_X10_mixPlans_105_s (j60 : Int64 → sT → Option (Int64 × sT)) (n : Nat) (x61 : Int64) (x62 : Int32) (S63 : sT) : l_X10_mixPlans_105 j60 (n + 1) x61 x62 S63 = b_X10_mixPlans_105 j60 x61 x62 S63 (l_X10_mixPlans_105 j60 n) := rfl
def f_X10_mixPlans (a1 : Int64) (S : sT) : Option (Int64 × sT) :=
 bn (f_X10_first (0 : Int32) S) (fun r2 =>
 bn (f_X10_mix a1 ((r2).toInt64) S) (fun r4 =>
 bn (f_X10_first (1 : Int32) S) (fun r6 =>
 bn (f_X10_mix r4 ((r6).toInt64) S) (fun r8 =>
 bn (f_X10_highest  S) (fun r10 =>
 bn (f_X10_mix r8 ((r10).toInt64) S) (fun r12 =>
 bn2 (f_X10_mend (-1 : Int32) S) (fun r14 S15 =>
 bn (f_X10_mix r12 ((r14).toInt64) S15) (fun r17 =>
 bn2 (f_X10_mend (0 : Int32) S15) (fun r19 S20 =>
 bn (f_X10_mix r17 ((r19).toInt64) S20) (fun r22 =>
 bn2 (f_X10_open (3 : Int32) (-1 : Int32) S20) (fun r24 S25 =>
 bn (f_X10_mix r22 ((r24).toInt64) S25) (fun r27 =>
 bn2 (f_X10_open (3 : Int32) (0 : Int32) S25) (fun r29 S30 =>
 bn (f_X10_mix r27 ((r29).toInt64) S30) (fun r32 =>
 bn2 (f_X10_sides (2 : Int32) (0 : Int32) S30) (fun r34 S35 =>
 bn (f_X10_mix r32 ((r34).toInt64) S35) (fun r37 =>
 bn2 (f_X10_sides (2 : Int32) (1 : Int32) S35) (fun r39 S40 =>
 bn (f_X10_mix r37 ((r39).toInt64) S40) (fun r42 =>
 jn (fun (x43 : Int64) (S44 : sT) => bn2 (f_X10_frost (5 : Int32) (0 : Int32) S44) (fun r46 S47 =>
 bn (f_X10_mix x43 r46 S47) (fun r49 =>
 bn2 (f_X10_frost (5 : Int32) (1 : Int32) S47) (fun r51 S52 =>
 bn (f_X10_mix r49 r51 S52) (fun r54 =>
 bn2 (f_X10_years (7 : Int32) (9 : Int32) (-1 : Int32) S52) (fun r56 S57 =>
 bn (f_X10_mix r54 ((r56).toInt64) S57) (fun r59 =>
 some (r59, S57))))))))
 (fun j60 => l_X10_mixPlans_105 j60 FU r42 (0 : Int32) S40)))))))))))))))))))
set_option maxHeartbeats 4000000 in
set_option maxRecDepth 100000 in
theorem w_X10_mixPlans_105 (C : Cx p s m args meth c cX10_mixPlans 6 RX10 g) (hr : meth.sig.returnType = (some .long)) {o : Int64 × sT}    (j60 : Int64 → sT → Option (Int64 × sT)) (hj60 : ∀ (x43 : Int64) (S44 : sT) (H : Heap) (locs : List Loc) (ls : Array Slot), Hp g s S44 H locs → lv_has ls 6 [(0, .ref (gad g 0 0)), (3, .long x43)] → j60 x43 S44 = some o → W p l e (rmL 20) s m args below meth c H locs 0 0 (Qm g below args s (some (.long o.1)) o.2) (F0 m 129 ls [])) : ∀ (n : Nat) (x61 : Int64) (x62 : Int32) (S63 : sT) (H : Heap) (locs : List Loc) (ls : Array Slot), Hp g s S63 H locs → lv_has ls 6 [(0, .ref (gad g 0 0)), (3, .long x61), (5, .int x62)] → l_X10_mixPlans_105 j60 n x61 x62 S63 = some o → W p l e (rmL 20) s m args below meth c H locs 0 0 (Qm g below args s (some (.long o.1)) o.2) (F0 m 105 ls []) := by
  obtain ⟨hx, hb, hml, hown, hts, hlk, hK⟩ := id C
  intro n
  induction n with
  | zero =>
    intro x61 x62 S63 H locs ls hH hl h
    cases h
  | succ n ih =>
    intro x61 x62 S63 H locs ls hH hl h
    rw [l_X10_mixPlans_105_s] at h
    unfold b_X10_mixPlans_105 at h
    refine lv_iload hx hb dX10_mixPlans_105 (lv_at hl 2 rfl) ?_
    refine lv_iconst (v := (2 : Int32)) hx hb dX10_mixPlans_107 (by decide) ?_
    refine lv_icmp_gt (tgt := 129) hx hb dX10_mixPlans_108 (by decide) (fun c71 => ?_) (fun c71 => ?_)
    · replace h := if_t h c71
      exact hj60 _ _ _ _ _ hH (lv_sub hl [0, 1] rfl) h
    · replace h := if_f h c71
      refine lv_lload_n hx hb dX10_mixPlans_111 rfl (lv_at hl 1 rfl) ?_
      refine lv_aload_n hx hb dX10_mixPlans_112 rfl (lv_at hl 0 rfl) ?_
      refine lv_iload hx hb dX10_mixPlans_113 (lv_at hl 2 rfl) ?_
      obtain ⟨r66, S67, hc65, h⟩ := bn2_e h
      refine r_callV1 (ki := 0) (i := 0) (ci := 9) (As := [.int x62]) C hl.1 hH (c_X10_who l g  hc65) q819 q2 q1099 q817 q818 nd_X10_who rfl (by decide) ⟨Nat.zero_le _, Nat.zero_le _⟩ (by decide) (by decide) ⟨_, rfl⟩ rfl (Nat.le_of_ble_eq_true rfl) dX10_mixPlans_115 (fun H locs hH => ?_)
      refine lv_i2l hx hb dX10_mixPlans_118 rfl ?_
      obtain ⟨r69, hc68, h⟩ := bn_e h
      refine r_callS1 (As := [.long x61, .long ((r66).toInt64)]) C hl.1 hH (c_X10_mix l g  hc68) q1073 q2 q1071 q1072 nd_X10_mix rfl (by decide) ⟨Nat.zero_le _, Nat.zero_le _⟩ (Nat.le_of_ble_eq_true rfl) dX10_mixPlans_119 (fun H locs hH => ?_)
      refine lv_lstore_n (lv' := [(3, .long r69), (0, .ref (gad g 0 0)), (5, .int x62)]) hx hb dX10_mixPlans_122 rfl hl (by decide) rfl (fun ls hl => ?_)
      obtain ⟨x70, ex70⟩ : ∃ z : Int32, z = (x62 + (1 : Int32)) := ⟨_, rfl⟩
      replace h := lt_e h ex70
      refine lv_iinc (v := x70) (lv' := [(5, .int x70), (3, .long r69), (0, .ref (gad g 0 0))]) hx hb dX10_mixPlans_123 hl (k := 2) rfl (by rw [ex70]; rfl) (by decide) rfl (fun ls hl => ?_)
      refine lv_goto (tgt := 105) hx hb dX10_mixPlans_126 (by decide) ?_
      exact ih _ _ _ _ _ _ hH (lv_sub hl [2, 1, 0] rfl) h
set_option maxHeartbeats 4000000 in
set_option maxRecDepth 100000 in
theorem w_X10_mixPlans (C : Cx p s m args meth c cX10_mixPlans 6 RX10 g) (hr : meth.sig.returnType = (some .long)) {o : Int64 × sT} {a1 : Int64}  {S : sT} {H : Heap} {locs : List Loc} {ls : Array Slot} (hH : Hp g s S H locs) (hl : lv_has ls 6 [(0, .ref (gad g 0 0)), (1, .long a1)]) (h : f_X10_mixPlans a1 S = some o) : W p l e (rmL 20) s m args below meth c H locs 0 0 (Qm g below args s (some (.long o.1)) o.2) (F0 m 0 ls []) := by
  obtain ⟨hx, hb, hml, hown, hts, hlk, hK⟩ := id C
  unfold f_X10_mixPlans at h
  refine lv_lload_n hx hb dX10_mixPlans_0 rfl (lv_at hl 1 rfl) ?_
  refine lv_aload_n hx hb dX10_mixPlans_1 rfl (lv_at hl 0 rfl) ?_
  refine lv_iconst (v := (0 : Int32)) hx hb dX10_mixPlans_2 (by decide) ?_
  obtain ⟨r2, hc1, h⟩ := bn_e h
  refine r_callV1 (ki := 0) (i := 0) (ci := 9) (As := [.int (0 : Int32)]) C hl.1 hH (c_X10_first l g  hc1) q598 q2 q1094 q596 q597 nd_X10_first rfl (by decide) ⟨Nat.zero_le _, Nat.zero_le _⟩ (by decide) (by decide) ⟨_, rfl⟩ rfl (Nat.le_of_ble_eq_true rfl) dX10_mixPlans_3 (fun H locs hH => ?_)
  refine lv_i2l hx hb dX10_mixPlans_6 rfl ?_
  obtain ⟨r4, hc3, h⟩ := bn_e h
  refine r_callS1 (As := [.long a1, .long ((r2).toInt64)]) C hl.1 hH (c_X10_mix l g  hc3) q1073 q2 q1071 q1072 nd_X10_mix rfl (by decide) ⟨Nat.zero_le _, Nat.zero_le _⟩ (Nat.le_of_ble_eq_true rfl) dX10_mixPlans_7 (fun H locs hH => ?_)
  refine lv_lstore_n (lv' := [(3, .long r4), (0, .ref (gad g 0 0)), (1, .long a1)]) hx hb dX10_mixPlans_10 rfl hl (by decide) rfl (fun ls hl => ?_)
  refine lv_lload_n hx hb dX10_mixPlans_11 rfl (lv_at hl 0 rfl) ?_
  refine lv_aload_n hx hb dX10_mixPlans_12 rfl (lv_at hl 1 rfl) ?_
  refine lv_iconst (v := (1 : Int32)) hx hb dX10_mixPlans_13 (by decide) ?_
  obtain ⟨r6, hc5, h⟩ := bn_e h
  refine r_callV1 (ki := 0) (i := 0) (ci := 9) (As := [.int (1 : Int32)]) C hl.1 hH (c_X10_first l g  hc5) q598 q2 q1094 q596 q597 nd_X10_first rfl (by decide) ⟨Nat.zero_le _, Nat.zero_le _⟩ (by decide) (by decide) ⟨_, rfl⟩ rfl (Nat.le_of_ble_eq_true rfl) dX10_mixPlans_14 (fun H locs hH => ?_)
  refine lv_i2l hx hb dX10_mixPlans_17 rfl ?_
  obtain ⟨r8, hc7, h⟩ := bn_e h
  refine r_callS1 (As := [.long r4, .long ((r6).toInt64)]) C hl.1 hH (c_X10_mix l g  hc7) q1073 q2 q1071 q1072 nd_X10_mix rfl (by decide) ⟨Nat.zero_le _, Nat.zero_le _⟩ (Nat.le_of_ble_eq_true rfl) dX10_mixPlans_18 (fun H locs hH => ?_)
  refine lv_lstore_n (lv' := [(3, .long r8), (0, .ref (gad g 0 0)), (1, .long a1)]) hx hb dX10_mixPlans_21 rfl hl (by decide) rfl (fun ls hl => ?_)
  refine lv_lload_n hx hb dX10_mixPlans_22 rfl (lv_at hl 0 rfl) ?_
  refine lv_aload_n hx hb dX10_mixPlans_23 rfl (lv_at hl 1 rfl) ?_
  obtain ⟨r10, hc9, h⟩ := bn_e h
  refine r_callV1 (ki := 0) (i := 0) (ci := 9) (As := []) C hl.1 hH (c_X10_highest l g  hc9) q617 q2 q1095 q615 q616 nd_X10_highest rfl (by decide) ⟨Nat.zero_le _, Nat.zero_le _⟩ (by decide) (by decide) ⟨_, rfl⟩ rfl (Nat.le_of_ble_eq_true rfl) dX10_mixPlans_24 (fun H locs hH => ?_)
  refine lv_i2l hx hb dX10_mixPlans_27 rfl ?_
  obtain ⟨r12, hc11, h⟩ := bn_e h
  refine r_callS1 (As := [.long r8, .long ((r10).toInt64)]) C hl.1 hH (c_X10_mix l g  hc11) q1073 q2 q1071 q1072 nd_X10_mix rfl (by decide) ⟨Nat.zero_le _, Nat.zero_le _⟩ (Nat.le_of_ble_eq_true rfl) dX10_mixPlans_28 (fun H locs hH => ?_)
  refine lv_lstore_n (lv' := [(3, .long r12), (0, .ref (gad g 0 0)), (1, .long a1)]) hx hb dX10_mixPlans_31 rfl hl (by decide) rfl (fun ls hl => ?_)
  refine lv_lload_n hx hb dX10_mixPlans_32 rfl (lv_at hl 0 rfl) ?_
  refine lv_aload_n hx hb dX10_mixPlans_33 rfl (lv_at hl 1 rfl) ?_
  refine lv_iconst (v := (-1 : Int32)) hx hb dX10_mixPlans_34 (by decide) ?_
  obtain ⟨r14, S15, hc13, h⟩ := bn2_e h
  refine r_callV1 (ki := 0) (i := 0) (ci := 9) (As := [.int (-1 : Int32)]) C hl.1 hH (c_X10_mend l g  hc13) q638 q2 q1096 q636 q637 nd_X10_mend rfl (by decide) ⟨Nat.zero_le _, Nat.zero_le _⟩ (by decide) (by decide) ⟨_, rfl⟩ rfl (Nat.le_of_ble_eq_true rfl) dX10_mixPlans_35 (fun H locs hH => ?_)
  refine lv_i2l hx hb dX10_mixPlans_38 rfl ?_
  obtain ⟨r17, hc16, h⟩ := bn_e h
  refine r_callS1 (As := [.long r12, .long ((r14).toInt64)]) C hl.1 hH (c_X10_mix l g  hc16) q1073 q2 q1071 q1072 nd_X10_mix rfl (by decide) ⟨Nat.zero_le _, Nat.zero_le _⟩ (Nat.le_of_ble_eq_true rfl) dX10_mixPlans_39 (fun H locs hH => ?_)
  refine lv_lstore_n (lv' := [(3, .long r17), (0, .ref (gad g 0 0)), (1, .long a1)]) hx hb dX10_mixPlans_42 rfl hl (by decide) rfl (fun ls hl => ?_)
  refine lv_lload_n hx hb dX10_mixPlans_43 rfl (lv_at hl 0 rfl) ?_
  refine lv_aload_n hx hb dX10_mixPlans_44 rfl (lv_at hl 1 rfl) ?_
  refine lv_iconst (v := (0 : Int32)) hx hb dX10_mixPlans_45 (by decide) ?_
  obtain ⟨r19, S20, hc18, h⟩ := bn2_e h
  refine r_callV1 (ki := 0) (i := 0) (ci := 9) (As := [.int (0 : Int32)]) C hl.1 hH (c_X10_mend l g  hc18) q638 q2 q1096 q636 q637 nd_X10_mend rfl (by decide) ⟨Nat.zero_le _, Nat.zero_le _⟩ (by decide) (by decide) ⟨_, rfl⟩ rfl (Nat.le_of_ble_eq_true rfl) dX10_mixPlans_46 (fun H locs hH => ?_)
  refine lv_i2l hx hb dX10_mixPlans_49 rfl ?_
  obtain ⟨r22, hc21, h⟩ := bn_e h
  refine r_callS1 (As := [.long r17, .long ((r19).toInt64)]) C hl.1 hH (c_X10_mix l g  hc21) q1073 q2 q1071 q1072 nd_X10_mix rfl (by decide) ⟨Nat.zero_le _, Nat.zero_le _⟩ (Nat.le_of_ble_eq_true rfl) dX10_mixPlans_50 (fun H locs hH => ?_)
  refine lv_lstore_n (lv' := [(3, .long r22), (0, .ref (gad g 0 0)), (1, .long a1)]) hx hb dX10_mixPlans_53 rfl hl (by decide) rfl (fun ls hl => ?_)
  refine lv_lload_n hx hb dX10_mixPlans_54 rfl (lv_at hl 0 rfl) ?_
  refine lv_aload_n hx hb dX10_mixPlans_55 rfl (lv_at hl 1 rfl) ?_
  refine lv_iconst (v := (3 : Int32)) hx hb dX10_mixPlans_56 (by decide) ?_
  refine lv_iconst (v := (-1 : Int32)) hx hb dX10_mixPlans_57 (by decide) ?_
  obtain ⟨r24, S25, hc23, h⟩ := bn2_e h
  refine r_callV1 (ki := 0) (i := 0) (ci := 9) (As := [.int (3 : Int32), .int (-1 : Int32)]) C hl.1 hH (c_X10_open l g  hc23) q683 q2 q1097 q681 q682 nd_X10_open rfl (by decide) ⟨Nat.zero_le _, Nat.zero_le _⟩ (by decide) (by decide) ⟨_, rfl⟩ rfl (Nat.le_of_ble_eq_true rfl) dX10_mixPlans_58 (fun H locs hH => ?_)
  refine lv_i2l hx hb dX10_mixPlans_61 rfl ?_
  obtain ⟨r27, hc26, h⟩ := bn_e h
  refine r_callS1 (As := [.long r22, .long ((r24).toInt64)]) C hl.1 hH (c_X10_mix l g  hc26) q1073 q2 q1071 q1072 nd_X10_mix rfl (by decide) ⟨Nat.zero_le _, Nat.zero_le _⟩ (Nat.le_of_ble_eq_true rfl) dX10_mixPlans_62 (fun H locs hH => ?_)
  refine lv_lstore_n (lv' := [(3, .long r27), (0, .ref (gad g 0 0)), (1, .long a1)]) hx hb dX10_mixPlans_65 rfl hl (by decide) rfl (fun ls hl => ?_)
  refine lv_lload_n hx hb dX10_mixPlans_66 rfl (lv_at hl 0 rfl) ?_
  refine lv_aload_n hx hb dX10_mixPlans_67 rfl (lv_at hl 1 rfl) ?_
  refine lv_iconst (v := (3 : Int32)) hx hb dX10_mixPlans_68 (by decide) ?_
  refine lv_iconst (v := (0 : Int32)) hx hb dX10_mixPlans_69 (by decide) ?_
  obtain ⟨r29, S30, hc28, h⟩ := bn2_e h
  refine r_callV1 (ki := 0) (i := 0) (ci := 9) (As := [.int (3 : Int32), .int (0 : Int32)]) C hl.1 hH (c_X10_open l g  hc28) q683 q2 q1097 q681 q682 nd_X10_open rfl (by decide) ⟨Nat.zero_le _, Nat.zero_le _⟩ (by decide) (by decide) ⟨_, rfl⟩ rfl (Nat.le_of_ble_eq_true rfl) dX10_mixPlans_70 (fun H locs hH => ?_)
  refine lv_i2l hx hb dX10_mixPlans_73 rfl ?_
  obtain ⟨r32, hc31, h⟩ := bn_e h
  refine r_callS1 (As := [.long r27, .long ((r29).toInt64)]) C hl.1 hH (c_X10_mix l g  hc31) q1073 q2 q1071 q1072 nd_X10_mix rfl (by decide) ⟨Nat.zero_le _, Nat.zero_le _⟩ (Nat.le_of_ble_eq_true rfl) dX10_mixPlans_74 (fun H locs hH => ?_)
  refine lv_lstore_n (lv' := [(3, .long r32), (0, .ref (gad g 0 0)), (1, .long a1)]) hx hb dX10_mixPlans_77 rfl hl (by decide) rfl (fun ls hl => ?_)
  refine lv_lload_n hx hb dX10_mixPlans_78 rfl (lv_at hl 0 rfl) ?_
  refine lv_aload_n hx hb dX10_mixPlans_79 rfl (lv_at hl 1 rfl) ?_
  refine lv_iconst (v := (2 : Int32)) hx hb dX10_mixPlans_80 (by decide) ?_
  refine lv_iconst (v := (0 : Int32)) hx hb dX10_mixPlans_81 (by decide) ?_
  obtain ⟨r34, S35, hc33, h⟩ := bn2_e h
  refine r_callV1 (ki := 0) (i := 0) (ci := 9) (As := [.int (2 : Int32), .int (0 : Int32)]) C hl.1 hH (c_X10_sides l g  hc33) q704 q2 q1098 q702 q703 nd_X10_sides rfl (by decide) ⟨Nat.zero_le _, Nat.zero_le _⟩ (by decide) (by decide) ⟨_, rfl⟩ rfl (Nat.le_of_ble_eq_true rfl) dX10_mixPlans_82 (fun H locs hH => ?_)
  refine lv_i2l hx hb dX10_mixPlans_85 rfl ?_
  obtain ⟨r37, hc36, h⟩ := bn_e h
  refine r_callS1 (As := [.long r32, .long ((r34).toInt64)]) C hl.1 hH (c_X10_mix l g  hc36) q1073 q2 q1071 q1072 nd_X10_mix rfl (by decide) ⟨Nat.zero_le _, Nat.zero_le _⟩ (Nat.le_of_ble_eq_true rfl) dX10_mixPlans_86 (fun H locs hH => ?_)
  refine lv_lstore_n (lv' := [(3, .long r37), (0, .ref (gad g 0 0)), (1, .long a1)]) hx hb dX10_mixPlans_89 rfl hl (by decide) rfl (fun ls hl => ?_)
  refine lv_lload_n hx hb dX10_mixPlans_90 rfl (lv_at hl 0 rfl) ?_
  refine lv_aload_n hx hb dX10_mixPlans_91 rfl (lv_at hl 1 rfl) ?_
  refine lv_iconst (v := (2 : Int32)) hx hb dX10_mixPlans_92 (by decide) ?_
  refine lv_iconst (v := (1 : Int32)) hx hb dX10_mixPlans_93 (by decide) ?_
  obtain ⟨r39, S40, hc38, h⟩ := bn2_e h
  refine r_callV1 (ki := 0) (i := 0) (ci := 9) (As := [.int (2 : Int32), .int (1 : Int32)]) C hl.1 hH (c_X10_sides l g  hc38) q704 q2 q1098 q702 q703 nd_X10_sides rfl (by decide) ⟨Nat.zero_le _, Nat.zero_le _⟩ (by decide) (by decide) ⟨_, rfl⟩ rfl (Nat.le_of_ble_eq_true rfl) dX10_mixPlans_94 (fun H locs hH => ?_)
  refine lv_i2l hx hb dX10_mixPlans_97 rfl ?_
  obtain ⟨r42, hc41, h⟩ := bn_e h
  refine r_callS1 (As := [.long r37, .long ((r39).toInt64)]) C hl.1 hH (c_X10_mix l g  hc41) q1073 q2 q1071 q1072 nd_X10_mix rfl (by decide) ⟨Nat.zero_le _, Nat.zero_le _⟩ (Nat.le_of_ble_eq_true rfl) dX10_mixPlans_98 (fun H locs hH => ?_)
  refine lv_lstore_n (lv' := [(3, .long r42), (0, .ref (gad g 0 0)), (1, .long a1)]) hx hb dX10_mixPlans_101 rfl hl (by decide) rfl (fun ls hl => ?_)
  refine lv_iconst (v := (0 : Int32)) hx hb dX10_mixPlans_102 (by decide) ?_
  refine lv_istore (lv' := [(5, .int (0 : Int32)), (3, .long r42), (0, .ref (gad g 0 0)), (1, .long a1)]) hx hb dX10_mixPlans_103 hl (by decide) rfl (fun ls hl => ?_)
  obtain ⟨j60, ej60, h⟩ := jn_e h
  have hj60 : ∀ (x43 : Int64) (S44 : sT) (H : Heap) (locs : List Loc) (ls : Array Slot), Hp g s S44 H locs → lv_has ls 6 [(0, .ref (gad g 0 0)), (3, .long x43)] → j60 x43 S44 = some o → W p l e (rmL 20) s m args below meth c H locs 0 0 (Qm g below args s (some (.long o.1)) o.2) (F0 m 129 ls []) := by
    intro x43 S44 H locs ls hH hl h
    rw [ej60] at h
    try dsimp only at h
    refine lv_lload_n hx hb dX10_mixPlans_129 rfl (lv_at hl 1 rfl) ?_
    refine lv_aload_n hx hb dX10_mixPlans_130 rfl (lv_at hl 0 rfl) ?_
    refine lv_iconst (v := (5 : Int32)) hx hb dX10_mixPlans_131 (by decide) ?_
    refine lv_iconst (v := (0 : Int32)) hx hb dX10_mixPlans_132 (by decide) ?_
    obtain ⟨r46, S47, hc45, h⟩ := bn2_e h
    refine r_callV1 (ki := 0) (i := 0) (ci := 9) (As := [.int (5 : Int32), .int (0 : Int32)]) C hl.1 hH (c_X10_frost l g  hc45) q853 q2 q1100 q851 q852 nd_X10_frost rfl (by decide) ⟨Nat.zero_le _, Nat.zero_le _⟩ (by decide) (by decide) ⟨_, rfl⟩ rfl (Nat.le_of_ble_eq_true rfl) dX10_mixPlans_133 (fun H locs hH => ?_)
    obtain ⟨r49, hc48, h⟩ := bn_e h
    refine r_callS1 (As := [.long x43, .long r46]) C hl.1 hH (c_X10_mix l g  hc48) q1073 q2 q1071 q1072 nd_X10_mix rfl (by decide) ⟨Nat.zero_le _, Nat.zero_le _⟩ (Nat.le_of_ble_eq_true rfl) dX10_mixPlans_136 (fun H locs hH => ?_)
    refine lv_lstore_n (lv' := [(3, .long r49), (0, .ref (gad g 0 0))]) hx hb dX10_mixPlans_139 rfl hl (by decide) rfl (fun ls hl => ?_)
    refine lv_lload_n hx hb dX10_mixPlans_140 rfl (lv_at hl 0 rfl) ?_
    refine lv_aload_n hx hb dX10_mixPlans_141 rfl (lv_at hl 1 rfl) ?_
    refine lv_iconst (v := (5 : Int32)) hx hb dX10_mixPlans_142 (by decide) ?_
    refine lv_iconst (v := (1 : Int32)) hx hb dX10_mixPlans_143 (by decide) ?_
    obtain ⟨r51, S52, hc50, h⟩ := bn2_e h
    refine r_callV1 (ki := 0) (i := 0) (ci := 9) (As := [.int (5 : Int32), .int (1 : Int32)]) C hl.1 hH (c_X10_frost l g  hc50) q853 q2 q1100 q851 q852 nd_X10_frost rfl (by decide) ⟨Nat.zero_le _, Nat.zero_le _⟩ (by decide) (by decide) ⟨_, rfl⟩ rfl (Nat.le_of_ble_eq_true rfl) dX10_mixPlans_144 (fun H locs hH => ?_)
    obtain ⟨r54, hc53, h⟩ := bn_e h
    refine r_callS1 (As := [.long r49, .long r51]) C hl.1 hH (c_X10_mix l g  hc53) q1073 q2 q1071 q1072 nd_X10_mix rfl (by decide) ⟨Nat.zero_le _, Nat.zero_le _⟩ (Nat.le_of_ble_eq_true rfl) dX10_mixPlans_147 (fun H locs hH => ?_)
    refine lv_lstore_n (lv' := [(3, .long r54), (0, .ref (gad g 0 0))]) hx hb dX10_mixPlans_150 rfl hl (by decide) rfl (fun ls hl => ?_)
    refine lv_lload_n hx hb dX10_mixPlans_151 rfl (lv_at hl 0 rfl) ?_
    refine lv_aload_n hx hb dX10_mixPlans_152 rfl (lv_at hl 1 rfl) ?_
    refine lv_bipush (v := (7 : Int32)) hx hb dX10_mixPlans_153 (by decide) ?_
    refine lv_bipush (v := (9 : Int32)) hx hb dX10_mixPlans_155 (by decide) ?_
    refine lv_iconst (v := (-1 : Int32)) hx hb dX10_mixPlans_157 (by decide) ?_
    obtain ⟨r56, S57, hc55, h⟩ := bn2_e h
    refine r_callV1 (ki := 0) (i := 0) (ci := 9) (As := [.int (7 : Int32), .int (9 : Int32), .int (-1 : Int32)]) C hl.1 hH (c_X10_years l g  hc55) q899 q2 q1089 q897 q898 nd_X10_years rfl (by decide) ⟨Nat.zero_le _, Nat.zero_le _⟩ (by decide) (by decide) ⟨_, rfl⟩ rfl (Nat.le_of_ble_eq_true rfl) dX10_mixPlans_158 (fun H locs hH => ?_)
    refine lv_i2l hx hb dX10_mixPlans_161 rfl ?_
    obtain ⟨r59, hc58, h⟩ := bn_e h
    refine r_callS1 (As := [.long r54, .long ((r56).toInt64)]) C hl.1 hH (c_X10_mix l g  hc58) q1073 q2 q1071 q1072 nd_X10_mix rfl (by decide) ⟨Nat.zero_le _, Nat.zero_le _⟩ (Nat.le_of_ble_eq_true rfl) dX10_mixPlans_162 (fun H locs hH => ?_)
    exact E_long C hr hH h dX10_mixPlans_165
  clear ej60
  exact w_X10_mixPlans_105 C hr  j60 hj60 _ _ _ _ _ _ _ hH (lv_sub hl [2, 1, 0] rfl) h
theorem c_X10_mixPlans (l : Launch) (g : gT) {a1 : Int64}  {S : sT} {r : Int64} {S1 : sT} (h : f_X10_mixPlans a1 S = some (r, S1)) : MF l yX10_mixPlans cX10_mixPlans 6 (some .long) 20 g [.ref (gad g 0 0), .long a1] S (some (.long r)) S1 := by
  refine MF.of (own := RX10) rfl rfl (Nat.le_of_ble_eq_true rfl) ?_
  intro p e s m below meth c C hr hH ls hl
  exact w_X10_mixPlans C hr (o := (r, S1))  hH hl h
theorem nd_X10_digest : yX10_digest.cls ≠ "java/lang/invoke/MethodHandle" ∧ yX10_digest.cls ≠ "java/lang/invoke/VarHandle" ∧ (parseMethodDescriptor yX10_digest.desc).map (fun d => d.parameters.length) = some 0 := by decide +kernel
def b_X10_digest_164 (j23 : Int64 → sT → Option (Int64 × sT)) (x24 : Int64) (x25 : Int32) (S26 : sT) (k27 : Int64 → Int32 → sT → Option (Int64 × sT)) : Option (Int64 × sT) :=
 bn (f_X1_last  S26) (fun r29 =>
 ck (decide (r29 < 16)) (
 bn (f_X9_columnCount r29 S26) (fun r32 =>
 (if r32 ≤ x25 then
 j23 x24 S26
 else
 bn2 (f_X10_years (7 : Int32) (9 : Int32) x25 S26) (fun r34 S35 =>
 bn (f_X10_mix x24 ((r34).toInt64) S35) (fun r37 =>
 lt (x25 + (1 : Int32)) (fun x38 =>
 k27 r37 x38 S35)))))))
def l_X10_digest_164 (j23 : Int64 → sT → Option (Int64 × sT)) : Nat → Int64 → Int32 → sT → Option (Int64 × sT)
 | 0, _, _, _ => none
 | n + 1, x24, x25, S26 => b_X10_digest_164 j23 x24 x25 S26 (l_X10_digest_164 j23 n)
theorem l_X10_digest_164_s (j23 : Int64 → sT → Option (Int64 × sT)) (n : Nat) (x24 : Int64) (x25 : Int32) (S26 : sT) : l_X10_digest_164 j23 (n + 1) x24 x25 S26 = b_X10_digest_164 j23 x24 x25 S26 (l_X10_digest_164 j23 n) := rfl
def b_X10_digest_111 (S : sT) (x42 : Int32) (j48 : Int64 → Option (Int64 × sT)) (x49 : Int64) (x50 : Int32) (k51 : Int64 → Int32 → Option (Int64 × sT)) : Option (Int64 × sT) :=
 (if (2 : Int32) < x50 then
 j48 x49
 else
 bn (f_X10_turn x42 x50 S) (fun r53 =>
 bn (f_X10_mix x49 ((r53).toInt64) S) (fun r55 =>
 lt (x50 + (1 : Int32)) (fun x56 =>
 k51 r55 x56))))
def l_X10_digest_111 (S : sT) (x42 : Int32) (j48 : Int64 → Option (Int64 × sT)) : Nat → Int64 → Int32 → Option (Int64 × sT)
 | 0, _, _ => none
 | n + 1, x49, x50 => b_X10_digest_111 S x42 j48 x49 x50 (l_X10_digest_111 S x42 j48 n)
theorem l_X10_digest_111_s (S : sT) (x42 : Int32) (j48 : Int64 → Option (Int64 × sT)) (n : Nat) (x49 : Int64) (x50 : Int32) : l_X10_digest_111 S x42 j48 (n + 1) x49 x50 = b_X10_digest_111 S x42 j48 x49 x50 (l_X10_digest_111 S x42 j48 n) := rfl
def b_X10_digest_97 (S : sT) (j40 : Int64 → Option (Int64 × sT)) (x41 : Int64) (x42 : Int32) (k43 : Int64 → Int32 → Option (Int64 × sT)) : Option (Int64 × sT) :=
 bn (f_X1_turnCount  S) (fun r45 =>
 (if r45 ≤ x42 then
 j40 x41
 else
 jn (fun (x46 : Int64) => lt (x42 + (1 : Int32)) (fun x47 =>
 k43 x46 x47))
 (fun j48 => l_X10_digest_111 S x42 j48 FU x41 (0 : Int32))))
def l_X10_digest_97 (S : sT) (j40 : Int64 → Option (Int64 × sT)) : Nat → Int64 → Int32 → Option (Int64 × sT)
 | 0, _, _ => none
 | n + 1, x41, x42 => b_X10_digest_97 S j40 x41 x42 (l_X10_digest_97 S j40 n)
theorem l_X10_digest_97_s (S : sT) (j40 : Int64 → Option (Int64 × sT)) (n : Nat) (x41 : Int64) (x42 : Int32) : l_X10_digest_97 S j40 (n + 1) x41 x42 = b_X10_digest_97 S j40 x41 x42 (l_X10_digest_97 S j40 n) := rfl
def b_X10_digest_53 (S : sT) (j59 : Int64 → Option (Int64 × sT)) (x60 : Int64) (x61 : Int32) (k62 : Int64 → Int32 → Option (Int64 × sT)) : Option (Int64 × sT) :=
 bn (f_X1_last  S) (fun r64 =>
 ck (decide (r64 < 16)) (
 bn (f_X9_columnCount r64 S) (fun r67 =>
 (if r67 ≤ x61 then
 j59 x60
 else
 bn (f_X10_mixColumn x60 (0 : Int32) x61 S) (fun r69 =>
 bn (f_X1_turnCount  S) (fun r71 =>
 bn (f_X10_mixColumn r69 r71 x61 S) (fun r73 =>
 lt (x61 + (1 : Int32)) (fun x74 =>
 k62 r73 x74))))))))
def l_X10_digest_53 (S : sT) (j59 : Int64 → Option (Int64 × sT)) : Nat → Int64 → Int32 → Option (Int64 × sT)
 | 0, _, _ => none
 | n + 1, x60, x61 => b_X10_digest_53 S j59 x60 x61 (l_X10_digest_53 S j59 n)
theorem l_X10_digest_53_s (S : sT) (j59 : Int64 → Option (Int64 × sT)) (n : Nat) (x60 : Int64) (x61 : Int32) : l_X10_digest_53 S j59 (n + 1) x60 x61 = b_X10_digest_53 S j59 x60 x61 (l_X10_digest_53 S j59 n) := rfl
def b_X10_digest_6 (S : sT) (j76 : Int64 → Option (Int64 × sT)) (x77 : Int64) (x78 : Int32) (k79 : Int64 → Int32 → Option (Int64 × sT)) : Option (Int64 × sT) :=
 (if (7 : Int32) < x78 then
 j76 x77
 else
 bn (f_X10_count x78 S) (fun r81 =>
 bn (f_X10_mix x77 ((r81).toInt64) S) (fun r83 =>
 lt (x78 + (1 : Int32)) (fun x84 =>
 k79 r83 x84))))
def l_X10_digest_6 (S : sT) (j76 : Int64 → Option (Int64 × sT)) : Nat → Int64 → Int32 → Option (Int64 × sT)
 | 0, _, _ => none
 | n + 1, x77, x78 => b_X10_digest_6 S j76 x77 x78 (l_X10_digest_6 S j76 n)
theorem l_X10_digest_6_s (S : sT) (j76 : Int64 → Option (Int64 × sT)) (n : Nat) (x77 : Int64) (x78 : Int32) : l_X10_digest_6 S j76 (n + 1) x77 x78 = b_X10_digest_6 S j76 x77 x78 (l_X10_digest_6 S j76 n) := rfl
def f_X10_digest  (S : sT) : Option (Int64 × sT) :=
 jn (fun (x1 : Int64) => bn (f_X10_fault (0 : Int32) S) (fun r3 =>
 bn (f_X10_mix x1 ((r3).toInt64) S) (fun r5 =>
 bn (f_X10_fault (1 : Int32) S) (fun r7 =>
 bn (f_X10_mix r5 ((r7).toInt64) S) (fun r9 =>
 jn (fun (x10 : Int64) => jn (fun (x11 : Int64) => bn (f_X10_mixBehind x11 (0 : Int32) S) (fun r13 =>
 bn (f_X1_turnCount  S) (fun r15 =>
 bn (f_X10_mixBehind r13 r15 S) (fun r17 =>
 jn (fun (x18 : Int64) (S19 : sT) => bn2 (f_X10_mixPlans x18 S19) (fun r21 S22 =>
 some (r21, S22)))
 (fun j23 => l_X10_digest_164 j23 FU r17 (0 : Int32) S)))))
 (fun j40 => l_X10_digest_97 S j40 FU x10 (0 : Int32)))
 (fun j59 => l_X10_digest_53 S j59 FU r9 (0 : Int32)))))))
 (fun j76 => l_X10_digest_6 S j76 FU (17 : Int64) (0 : Int32))
set_option maxHeartbeats 4000000 in
set_option maxRecDepth 100000 in
theorem w_X10_digest_164 (C : Cx p s m args meth c cX10_digest 5 RX10 g) (hr : meth.sig.returnType = (some .long)) {o : Int64 × sT}    (j23 : Int64 → sT → Option (Int64 × sT)) (hj23 : ∀ (x18 : Int64) (S19 : sT) (H : Heap) (locs : List Loc) (ls : Array Slot), Hp g s S19 H locs → lv_has ls 5 [(0, .ref (gad g 0 0)), (1, .long x18)] → j23 x18 S19 = some o → W p l e (rmL 21) s m args below meth c H locs 0 0 (Qm g below args s (some (.long o.1)) o.2) (F0 m 199 ls [])) : ∀ (n : Nat) (x24 : Int64) (x25 : Int32) (S26 : sT) (H : Heap) (locs : List Loc) (ls : Array Slot), Hp g s S26 H locs → lv_has ls 5 [(0, .ref (gad g 0 0)), (1, .long x24), (3, .int x25)] → l_X10_digest_164 j23 n x24 x25 S26 = some o → W p l e (rmL 21) s m args below meth c H locs 0 0 (Qm g below args s (some (.long o.1)) o.2) (F0 m 164 ls []) := by
  obtain ⟨hx, hb, hml, hown, hts, hlk, hK⟩ := id C
  intro n
  induction n with
  | zero =>
    intro x24 x25 S26 H locs ls hH hl h
    cases h
  | succ n ih =>
    intro x24 x25 S26 H locs ls hH hl h
    rw [l_X10_digest_164_s] at h
    unfold b_X10_digest_164 at h
    refine lv_iload_n hx hb dX10_digest_164 rfl (lv_at hl 2 rfl) ?_
    refine lv_aload_n hx hb dX10_digest_165 rfl (lv_at hl 0 rfl) ?_
    refine gf_X10_38 C hH dX10_digest_166 ?_
    obtain ⟨r29, hc28, h⟩ := bn_e h
    refine r_callV1 (ki := 4) (i := 0) (ci := 1) (As := []) C hl.1 hH (c_X1_last l g  hc28) q621 q27 q618 q619 q620 nd_X1_last rfl (by decide) ⟨Nat.zero_le _, Nat.zero_le _⟩ (by decide) (by decide) ⟨_, rfl⟩ rfl (Nat.le_of_ble_eq_true rfl) dX10_digest_169 (fun H locs hH => ?_)
    obtain ⟨hv30, h⟩ := ck_e h
    have hr29 : r29 < 16 := of_decide_eq_true hv30
    obtain ⟨r32, hc31, h⟩ := bn_e h
    refine r_callV1 (ki := 9) (i := r29) (ci := 8) (As := []) C hl.1 hH (c_X9_columnCount l g hr29 hc31) q695 q80 q900 q693 q694 nd_X9_columnCount rfl (by decide) ⟨Nat.zero_le _, Nat.zero_le _⟩ (by decide) hr29 ⟨_, rfl⟩ rfl (Nat.le_of_ble_eq_true rfl) dX10_digest_172 (fun H locs hH => ?_)
    refine lv_icmp_ge (tgt := 199) hx hb dX10_digest_175 (by decide) (fun c39 => ?_) (fun c39 => ?_)
    · replace h := if_t h c39
      exact hj23 _ _ _ _ _ hH (lv_sub hl [0, 1] rfl) h
    · replace h := if_f h c39
      refine lv_lload_n hx hb dX10_digest_178 rfl (lv_at hl 1 rfl) ?_
      refine lv_aload_n hx hb dX10_digest_179 rfl (lv_at hl 0 rfl) ?_
      refine lv_bipush (v := (7 : Int32)) hx hb dX10_digest_180 (by decide) ?_
      refine lv_bipush (v := (9 : Int32)) hx hb dX10_digest_182 (by decide) ?_
      refine lv_iload_n hx hb dX10_digest_184 rfl (lv_at hl 2 rfl) ?_
      obtain ⟨r34, S35, hc33, h⟩ := bn2_e h
      refine r_callV1 (ki := 0) (i := 0) (ci := 9) (As := [.int (7 : Int32), .int (9 : Int32), .int x25]) C hl.1 hH (c_X10_years l g  hc33) q899 q2 q1089 q897 q898 nd_X10_years rfl (by decide) ⟨Nat.zero_le _, Nat.zero_le _⟩ (by decide) (by decide) ⟨_, rfl⟩ rfl (Nat.le_of_ble_eq_true rfl) dX10_digest_185 (fun H locs hH => ?_)
      refine lv_i2l hx hb dX10_digest_188 rfl ?_
      obtain ⟨r37, hc36, h⟩ := bn_e h
      refine r_callS1 (As := [.long x24, .long ((r34).toInt64)]) C hl.1 hH (c_X10_mix l g  hc36) q1073 q2 q1071 q1072 nd_X10_mix rfl (by decide) ⟨Nat.zero_le _, Nat.zero_le _⟩ (Nat.le_of_ble_eq_true rfl) dX10_digest_189 (fun H locs hH => ?_)
      refine lv_lstore_n (lv' := [(1, .long r37), (0, .ref (gad g 0 0)), (3, .int x25)]) hx hb dX10_digest_192 rfl hl (by decide) rfl (fun ls hl => ?_)
      obtain ⟨x38, ex38⟩ : ∃ z : Int32, z = (x25 + (1 : Int32)) := ⟨_, rfl⟩
      replace h := lt_e h ex38
      refine lv_iinc (v := x38) (lv' := [(3, .int x38), (1, .long r37), (0, .ref (gad g 0 0))]) hx hb dX10_digest_193 hl (k := 2) rfl (by rw [ex38]; rfl) (by decide) rfl (fun ls hl => ?_)
      refine lv_goto (tgt := 164) hx hb dX10_digest_196 (by decide) ?_
      exact ih _ _ _ _ _ _ hH (lv_sub hl [2, 1, 0] rfl) h
set_option maxHeartbeats 4000000 in
set_option maxRecDepth 100000 in
theorem w_X10_digest_111 (C : Cx p s m args meth c cX10_digest 5 RX10 g) (hr : meth.sig.returnType = (some .long)) {o : Int64 × sT}  {S : sT} {x42 : Int32}  (j48 : Int64 → Option (Int64 × sT)) (hj48 : ∀ (x46 : Int64) (H : Heap) (locs : List Loc) (ls : Array Slot), Hp g s S H locs → lv_has ls 5 [(0, .ref (gad g 0 0)), (1, .long x46), (3, .int x42)] → j48 x46 = some o → W p l e (rmL 21) s m args below meth c H locs 0 0 (Qm g below args s (some (.long o.1)) o.2) (F0 m 136 ls [])) : ∀ (n : Nat) (x49 : Int64) (x50 : Int32) (H : Heap) (locs : List Loc) (ls : Array Slot), Hp g s S H locs → lv_has ls 5 [(0, .ref (gad g 0 0)), (1, .long x49), (3, .int x42), (4, .int x50)] → l_X10_digest_111 S x42 j48 n x49 x50 = some o → W p l e (rmL 21) s m args below meth c H locs 0 0 (Qm g below args s (some (.long o.1)) o.2) (F0 m 111 ls []) := by
  obtain ⟨hx, hb, hml, hown, hts, hlk, hK⟩ := id C
  intro n
  induction n with
  | zero =>
    intro x49 x50 H locs ls hH hl h
    cases h
  | succ n ih =>
    intro x49 x50 H locs ls hH hl h
    rw [l_X10_digest_111_s] at h
    unfold b_X10_digest_111 at h
    refine lv_iload hx hb dX10_digest_111 (lv_at hl 3 rfl) ?_
    refine lv_iconst (v := (2 : Int32)) hx hb dX10_digest_113 (by decide) ?_
    refine lv_icmp_gt (tgt := 136) hx hb dX10_digest_114 (by decide) (fun c57 => ?_) (fun c57 => ?_)
    · replace h := if_t h c57
      exact hj48 _ _ _ _ hH (lv_sub hl [0, 1, 2] rfl) h
    · replace h := if_f h c57
      refine lv_lload_n hx hb dX10_digest_117 rfl (lv_at hl 1 rfl) ?_
      refine lv_aload_n hx hb dX10_digest_118 rfl (lv_at hl 0 rfl) ?_
      refine lv_iload_n hx hb dX10_digest_119 rfl (lv_at hl 2 rfl) ?_
      refine lv_iload hx hb dX10_digest_120 (lv_at hl 3 rfl) ?_
      obtain ⟨r53, hc52, h⟩ := bn_e h
      refine r_callV1 (ki := 0) (i := 0) (ci := 9) (As := [.int x42, .int x50]) C hl.1 hH (c_X10_turn l g  hc52) q571 q2 q1083 q569 q570 nd_X10_turn rfl (by decide) ⟨Nat.zero_le _, Nat.zero_le _⟩ (by decide) (by decide) ⟨_, rfl⟩ rfl (Nat.le_of_ble_eq_true rfl) dX10_digest_122 (fun H locs hH => ?_)
      refine lv_i2l hx hb dX10_digest_125 rfl ?_
      obtain ⟨r55, hc54, h⟩ := bn_e h
      refine r_callS1 (As := [.long x49, .long ((r53).toInt64)]) C hl.1 hH (c_X10_mix l g  hc54) q1073 q2 q1071 q1072 nd_X10_mix rfl (by decide) ⟨Nat.zero_le _, Nat.zero_le _⟩ (Nat.le_of_ble_eq_true rfl) dX10_digest_126 (fun H locs hH => ?_)
      refine lv_lstore_n (lv' := [(1, .long r55), (0, .ref (gad g 0 0)), (3, .int x42), (4, .int x50)]) hx hb dX10_digest_129 rfl hl (by decide) rfl (fun ls hl => ?_)
      obtain ⟨x56, ex56⟩ : ∃ z : Int32, z = (x50 + (1 : Int32)) := ⟨_, rfl⟩
      replace h := lt_e h ex56
      refine lv_iinc (v := x56) (lv' := [(4, .int x56), (1, .long r55), (0, .ref (gad g 0 0)), (3, .int x42)]) hx hb dX10_digest_130 hl (k := 3) rfl (by rw [ex56]; rfl) (by decide) rfl (fun ls hl => ?_)
      refine lv_goto (tgt := 111) hx hb dX10_digest_133 (by decide) ?_
      exact ih _ _ _ _ _ hH (lv_sub hl [2, 1, 3, 0] rfl) h
set_option maxHeartbeats 4000000 in
set_option maxRecDepth 100000 in
theorem w_X10_digest_97 (C : Cx p s m args meth c cX10_digest 5 RX10 g) (hr : meth.sig.returnType = (some .long)) {o : Int64 × sT}  {S : sT}  (j40 : Int64 → Option (Int64 × sT)) (hj40 : ∀ (x11 : Int64) (H : Heap) (locs : List Loc) (ls : Array Slot), Hp g s S H locs → lv_has ls 5 [(0, .ref (gad g 0 0)), (1, .long x11)] → j40 x11 = some o → W p l e (rmL 21) s m args below meth c H locs 0 0 (Qm g below args s (some (.long o.1)) o.2) (F0 m 142 ls [])) : ∀ (n : Nat) (x41 : Int64) (x42 : Int32) (H : Heap) (locs : List Loc) (ls : Array Slot), Hp g s S H locs → lv_has ls 5 [(0, .ref (gad g 0 0)), (1, .long x41), (3, .int x42)] → l_X10_digest_97 S j40 n x41 x42 = some o → W p l e (rmL 21) s m args below meth c H locs 0 0 (Qm g below args s (some (.long o.1)) o.2) (F0 m 97 ls []) := by
  obtain ⟨hx, hb, hml, hown, hts, hlk, hK⟩ := id C
  intro n
  induction n with
  | zero =>
    intro x41 x42 H locs ls hH hl h
    cases h
  | succ n ih =>
    intro x41 x42 H locs ls hH hl h
    rw [l_X10_digest_97_s] at h
    unfold b_X10_digest_97 at h
    refine lv_iload_n hx hb dX10_digest_97 rfl (lv_at hl 2 rfl) ?_
    refine lv_aload_n hx hb dX10_digest_98 rfl (lv_at hl 0 rfl) ?_
    refine gf_X10_38 C hH dX10_digest_99 ?_
    obtain ⟨r45, hc44, h⟩ := bn_e h
    refine r_callV1 (ki := 4) (i := 0) (ci := 1) (As := []) C hl.1 hH (c_X1_turnCount l g  hc44) q602 q27 q599 q600 q601 nd_X1_turnCount rfl (by decide) ⟨Nat.zero_le _, Nat.zero_le _⟩ (by decide) (by decide) ⟨_, rfl⟩ rfl (Nat.le_of_ble_eq_true rfl) dX10_digest_102 (fun H locs hH => ?_)
    refine lv_icmp_ge (tgt := 142) hx hb dX10_digest_105 (by decide) (fun c58 => ?_) (fun c58 => ?_)
    · replace h := if_t h c58
      exact hj40 _ _ _ _ hH (lv_sub hl [0, 1] rfl) h
    · replace h := if_f h c58
      refine lv_iconst (v := (0 : Int32)) hx hb dX10_digest_108 (by decide) ?_
      refine lv_istore (lv' := [(4, .int (0 : Int32)), (0, .ref (gad g 0 0)), (1, .long x41), (3, .int x42)]) hx hb dX10_digest_109 hl (by decide) rfl (fun ls hl => ?_)
      obtain ⟨j48, ej48, h⟩ := jn_e h
      have hj48 : ∀ (x46 : Int64) (H : Heap) (locs : List Loc) (ls : Array Slot), Hp g s S H locs → lv_has ls 5 [(0, .ref (gad g 0 0)), (1, .long x46), (3, .int x42)] → j48 x46 = some o → W p l e (rmL 21) s m args below meth c H locs 0 0 (Qm g below args s (some (.long o.1)) o.2) (F0 m 136 ls []) := by
        intro x46 H locs ls hH hl h
        rw [ej48] at h
        try dsimp only at h
        obtain ⟨x47, ex47⟩ : ∃ z : Int32, z = (x42 + (1 : Int32)) := ⟨_, rfl⟩
        replace h := lt_e h ex47
        refine lv_iinc (v := x47) (lv' := [(3, .int x47), (0, .ref (gad g 0 0)), (1, .long x46)]) hx hb dX10_digest_136 hl (k := 2) rfl (by rw [ex47]; rfl) (by decide) rfl (fun ls hl => ?_)
        refine lv_goto (tgt := 97) hx hb dX10_digest_139 (by decide) ?_
        exact ih _ _ _ _ _ hH (lv_sub hl [1, 2, 0] rfl) h
      clear ej48
      exact w_X10_digest_111 C hr  j48 hj48 _ _ _ _ _ _ hH (lv_sub hl [1, 2, 3, 0] rfl) h
set_option maxHeartbeats 4000000 in
set_option maxRecDepth 100000 in
theorem w_X10_digest_53 (C : Cx p s m args meth c cX10_digest 5 RX10 g) (hr : meth.sig.returnType = (some .long)) {o : Int64 × sT}  {S : sT}  (j59 : Int64 → Option (Int64 × sT)) (hj59 : ∀ (x10 : Int64) (H : Heap) (locs : List Loc) (ls : Array Slot), Hp g s S H locs → lv_has ls 5 [(0, .ref (gad g 0 0)), (1, .long x10)] → j59 x10 = some o → W p l e (rmL 21) s m args below meth c H locs 0 0 (Qm g below args s (some (.long o.1)) o.2) (F0 m 95 ls [])) : ∀ (n : Nat) (x60 : Int64) (x61 : Int32) (H : Heap) (locs : List Loc) (ls : Array Slot), Hp g s S H locs → lv_has ls 5 [(0, .ref (gad g 0 0)), (1, .long x60), (3, .int x61)] → l_X10_digest_53 S j59 n x60 x61 = some o → W p l e (rmL 21) s m args below meth c H locs 0 0 (Qm g below args s (some (.long o.1)) o.2) (F0 m 53 ls []) := by
  obtain ⟨hx, hb, hml, hown, hts, hlk, hK⟩ := id C
  intro n
  induction n with
  | zero =>
    intro x60 x61 H locs ls hH hl h
    cases h
  | succ n ih =>
    intro x60 x61 H locs ls hH hl h
    rw [l_X10_digest_53_s] at h
    unfold b_X10_digest_53 at h
    refine lv_iload_n hx hb dX10_digest_53 rfl (lv_at hl 2 rfl) ?_
    refine lv_aload_n hx hb dX10_digest_54 rfl (lv_at hl 0 rfl) ?_
    refine gf_X10_38 C hH dX10_digest_55 ?_
    obtain ⟨r64, hc63, h⟩ := bn_e h
    refine r_callV1 (ki := 4) (i := 0) (ci := 1) (As := []) C hl.1 hH (c_X1_last l g  hc63) q621 q27 q618 q619 q620 nd_X1_last rfl (by decide) ⟨Nat.zero_le _, Nat.zero_le _⟩ (by decide) (by decide) ⟨_, rfl⟩ rfl (Nat.le_of_ble_eq_true rfl) dX10_digest_58 (fun H locs hH => ?_)
    obtain ⟨hv65, h⟩ := ck_e h
    have hr64 : r64 < 16 := of_decide_eq_true hv65
    obtain ⟨r67, hc66, h⟩ := bn_e h
    refine r_callV1 (ki := 9) (i := r64) (ci := 8) (As := []) C hl.1 hH (c_X9_columnCount l g hr64 hc66) q695 q80 q900 q693 q694 nd_X9_columnCount rfl (by decide) ⟨Nat.zero_le _, Nat.zero_le _⟩ (by decide) hr64 ⟨_, rfl⟩ rfl (Nat.le_of_ble_eq_true rfl) dX10_digest_61 (fun H locs hH => ?_)
    refine lv_icmp_ge (tgt := 95) hx hb dX10_digest_64 (by decide) (fun c75 => ?_) (fun c75 => ?_)
    · replace h := if_t h c75
      exact hj59 _ _ _ _ hH (lv_sub hl [0, 1] rfl) h
    · replace h := if_f h c75
      refine lv_aload_n hx hb dX10_digest_67 rfl (lv_at hl 0 rfl) ?_
      refine lv_lload_n hx hb dX10_digest_68 rfl (lv_at hl 1 rfl) ?_
      refine lv_iconst (v := (0 : Int32)) hx hb dX10_digest_69 (by decide) ?_
      refine lv_iload_n hx hb dX10_digest_70 rfl (lv_at hl 2 rfl) ?_
      obtain ⟨r69, hc68, h⟩ := bn_e h
      refine r_callV1 (ki := 0) (i := 0) (ci := 9) (As := [.long x60, .int (0 : Int32), .int x61]) C hl.1 hH (c_X10_mixColumn l g  hc68) q1079 q2 q1076 q1077 q1078 nd_X10_mixColumn rfl (by decide) ⟨Nat.zero_le _, Nat.zero_le _⟩ (by decide) (by decide) ⟨_, rfl⟩ rfl (Nat.le_of_ble_eq_true rfl) dX10_digest_71 (fun H locs hH => ?_)
      refine lv_lstore_n (lv' := [(1, .long r69), (0, .ref (gad g 0 0)), (3, .int x61)]) hx hb dX10_digest_74 rfl hl (by decide) rfl (fun ls hl => ?_)
      refine lv_aload_n hx hb dX10_digest_75 rfl (lv_at hl 1 rfl) ?_
      refine lv_lload_n hx hb dX10_digest_76 rfl (lv_at hl 0 rfl) ?_
      refine lv_aload_n hx hb dX10_digest_77 rfl (lv_at hl 1 rfl) ?_
      refine gf_X10_38 C hH dX10_digest_78 ?_
      obtain ⟨r71, hc70, h⟩ := bn_e h
      refine r_callV1 (ki := 4) (i := 0) (ci := 1) (As := []) C hl.1 hH (c_X1_turnCount l g  hc70) q602 q27 q599 q600 q601 nd_X1_turnCount rfl (by decide) ⟨Nat.zero_le _, Nat.zero_le _⟩ (by decide) (by decide) ⟨_, rfl⟩ rfl (Nat.le_of_ble_eq_true rfl) dX10_digest_81 (fun H locs hH => ?_)
      refine lv_iload_n hx hb dX10_digest_84 rfl (lv_at hl 2 rfl) ?_
      obtain ⟨r73, hc72, h⟩ := bn_e h
      refine r_callV1 (ki := 0) (i := 0) (ci := 9) (As := [.long r69, .int r71, .int x61]) C hl.1 hH (c_X10_mixColumn l g  hc72) q1079 q2 q1076 q1077 q1078 nd_X10_mixColumn rfl (by decide) ⟨Nat.zero_le _, Nat.zero_le _⟩ (by decide) (by decide) ⟨_, rfl⟩ rfl (Nat.le_of_ble_eq_true rfl) dX10_digest_85 (fun H locs hH => ?_)
      refine lv_lstore_n (lv' := [(1, .long r73), (0, .ref (gad g 0 0)), (3, .int x61)]) hx hb dX10_digest_88 rfl hl (by decide) rfl (fun ls hl => ?_)
      obtain ⟨x74, ex74⟩ : ∃ z : Int32, z = (x61 + (1 : Int32)) := ⟨_, rfl⟩
      replace h := lt_e h ex74
      refine lv_iinc (v := x74) (lv' := [(3, .int x74), (1, .long r73), (0, .ref (gad g 0 0))]) hx hb dX10_digest_89 hl (k := 2) rfl (by rw [ex74]; rfl) (by decide) rfl (fun ls hl => ?_)
      refine lv_goto (tgt := 53) hx hb dX10_digest_92 (by decide) ?_
      exact ih _ _ _ _ _ hH (lv_sub hl [2, 1, 0] rfl) h
set_option maxHeartbeats 4000000 in
set_option maxRecDepth 100000 in
theorem w_X10_digest_6 (C : Cx p s m args meth c cX10_digest 5 RX10 g) (hr : meth.sig.returnType = (some .long)) {o : Int64 × sT}  {S : sT}  (j76 : Int64 → Option (Int64 × sT)) (hj76 : ∀ (x1 : Int64) (H : Heap) (locs : List Loc) (ls : Array Slot), Hp g s S H locs → lv_has ls 5 [(0, .ref (gad g 0 0)), (1, .long x1)] → j76 x1 = some o → W p l e (rmL 21) s m args below meth c H locs 0 0 (Qm g below args s (some (.long o.1)) o.2) (F0 m 29 ls [])) : ∀ (n : Nat) (x77 : Int64) (x78 : Int32) (H : Heap) (locs : List Loc) (ls : Array Slot), Hp g s S H locs → lv_has ls 5 [(0, .ref (gad g 0 0)), (1, .long x77), (3, .int x78)] → l_X10_digest_6 S j76 n x77 x78 = some o → W p l e (rmL 21) s m args below meth c H locs 0 0 (Qm g below args s (some (.long o.1)) o.2) (F0 m 6 ls []) := by
  obtain ⟨hx, hb, hml, hown, hts, hlk, hK⟩ := id C
  intro n
  induction n with
  | zero =>
    intro x77 x78 H locs ls hH hl h
    cases h
  | succ n ih =>
    intro x77 x78 H locs ls hH hl h
    rw [l_X10_digest_6_s] at h
    unfold b_X10_digest_6 at h
    refine lv_iload_n hx hb dX10_digest_6 rfl (lv_at hl 2 rfl) ?_
    refine lv_bipush (v := (7 : Int32)) hx hb dX10_digest_7 (by decide) ?_
    refine lv_icmp_gt (tgt := 29) hx hb dX10_digest_9 (by decide) (fun c85 => ?_) (fun c85 => ?_)
    · replace h := if_t h c85
      exact hj76 _ _ _ _ hH (lv_sub hl [0, 1] rfl) h
    · replace h := if_f h c85
      refine lv_lload_n hx hb dX10_digest_12 rfl (lv_at hl 1 rfl) ?_
      refine lv_aload_n hx hb dX10_digest_13 rfl (lv_at hl 0 rfl) ?_
      refine lv_iload_n hx hb dX10_digest_14 rfl (lv_at hl 2 rfl) ?_
      obtain ⟨r81, hc80, h⟩ := bn_e h
      refine r_callV1 (ki := 0) (i := 0) (ci := 9) (As := [.int x78]) C hl.1 hH (c_X10_count l g  hc80) q1042 q2 q1070 q1040 q1041 nd_X10_count rfl (by decide) ⟨Nat.zero_le _, Nat.zero_le _⟩ (by decide) (by decide) ⟨_, rfl⟩ rfl (Nat.le_of_ble_eq_true rfl) dX10_digest_15 (fun H locs hH => ?_)
      refine lv_i2l hx hb dX10_digest_18 rfl ?_
      obtain ⟨r83, hc82, h⟩ := bn_e h
      refine r_callS1 (As := [.long x77, .long ((r81).toInt64)]) C hl.1 hH (c_X10_mix l g  hc82) q1073 q2 q1071 q1072 nd_X10_mix rfl (by decide) ⟨Nat.zero_le _, Nat.zero_le _⟩ (Nat.le_of_ble_eq_true rfl) dX10_digest_19 (fun H locs hH => ?_)
      refine lv_lstore_n (lv' := [(1, .long r83), (0, .ref (gad g 0 0)), (3, .int x78)]) hx hb dX10_digest_22 rfl hl (by decide) rfl (fun ls hl => ?_)
      obtain ⟨x84, ex84⟩ : ∃ z : Int32, z = (x78 + (1 : Int32)) := ⟨_, rfl⟩
      replace h := lt_e h ex84
      refine lv_iinc (v := x84) (lv' := [(3, .int x84), (1, .long r83), (0, .ref (gad g 0 0))]) hx hb dX10_digest_23 hl (k := 2) rfl (by rw [ex84]; rfl) (by decide) rfl (fun ls hl => ?_)
      refine lv_goto (tgt := 6) hx hb dX10_digest_26 (by decide) ?_
      exact ih _ _ _ _ _ hH (lv_sub hl [2, 1, 0] rfl) h
set_option maxHeartbeats 4000000 in
set_option maxRecDepth 100000 in
theorem w_X10_digest (C : Cx p s m args meth c cX10_digest 5 RX10 g) (hr : meth.sig.returnType = (some .long)) {o : Int64 × sT}   {S : sT} {H : Heap} {locs : List Loc} {ls : Array Slot} (hH : Hp g s S H locs) (hl : lv_has ls 5 [(0, .ref (gad g 0 0))]) (h : f_X10_digest  S = some o) : W p l e (rmL 21) s m args below meth c H locs 0 0 (Qm g below args s (some (.long o.1)) o.2) (F0 m 0 ls []) := by
  obtain ⟨hx, hb, hml, hown, hts, hlk, hK⟩ := id C
  unfold f_X10_digest at h
  refine lv_ldc2 (v := (17 : Int64)) hx hb hown (hts _ q1069) dX10_digest_0 ?_
  refine lv_lstore_n (lv' := [(1, .long (17 : Int64)), (0, .ref (gad g 0 0))]) hx hb dX10_digest_3 rfl hl (by decide) rfl (fun ls hl => ?_)
  refine lv_iconst (v := (0 : Int32)) hx hb dX10_digest_4 (by decide) ?_
  refine lv_istore_n (lv' := [(3, .int (0 : Int32)), (1, .long (17 : Int64)), (0, .ref (gad g 0 0))]) hx hb dX10_digest_5 rfl hl (by decide) rfl (fun ls hl => ?_)
  obtain ⟨j76, ej76, h⟩ := jn_e h
  have hj76 : ∀ (x1 : Int64) (H : Heap) (locs : List Loc) (ls : Array Slot), Hp g s S H locs → lv_has ls 5 [(0, .ref (gad g 0 0)), (1, .long x1)] → j76 x1 = some o → W p l e (rmL 21) s m args below meth c H locs 0 0 (Qm g below args s (some (.long o.1)) o.2) (F0 m 29 ls []) := by
    intro x1 H locs ls hH hl h
    rw [ej76] at h
    try dsimp only at h
    refine lv_lload_n hx hb dX10_digest_29 rfl (lv_at hl 1 rfl) ?_
    refine lv_aload_n hx hb dX10_digest_30 rfl (lv_at hl 0 rfl) ?_
    refine lv_iconst (v := (0 : Int32)) hx hb dX10_digest_31 (by decide) ?_
    obtain ⟨r3, hc2, h⟩ := bn_e h
    refine r_callV1 (ki := 0) (i := 0) (ci := 9) (As := [.int (0 : Int32)]) C hl.1 hH (c_X10_fault l g  hc2) q335 q2 q1075 q333 q334 nd_X10_fault rfl (by decide) ⟨Nat.zero_le _, Nat.zero_le _⟩ (by decide) (by decide) ⟨_, rfl⟩ rfl (Nat.le_of_ble_eq_true rfl) dX10_digest_32 (fun H locs hH => ?_)
    refine lv_i2l hx hb dX10_digest_35 rfl ?_
    obtain ⟨r5, hc4, h⟩ := bn_e h
    refine r_callS1 (As := [.long x1, .long ((r3).toInt64)]) C hl.1 hH (c_X10_mix l g  hc4) q1073 q2 q1071 q1072 nd_X10_mix rfl (by decide) ⟨Nat.zero_le _, Nat.zero_le _⟩ (Nat.le_of_ble_eq_true rfl) dX10_digest_36 (fun H locs hH => ?_)
    refine lv_lstore_n (lv' := [(1, .long r5), (0, .ref (gad g 0 0))]) hx hb dX10_digest_39 rfl hl (by decide) rfl (fun ls hl => ?_)
    refine lv_lload_n hx hb dX10_digest_40 rfl (lv_at hl 0 rfl) ?_
    refine lv_aload_n hx hb dX10_digest_41 rfl (lv_at hl 1 rfl) ?_
    refine lv_iconst (v := (1 : Int32)) hx hb dX10_digest_42 (by decide) ?_
    obtain ⟨r7, hc6, h⟩ := bn_e h
    refine r_callV1 (ki := 0) (i := 0) (ci := 9) (As := [.int (1 : Int32)]) C hl.1 hH (c_X10_fault l g  hc6) q335 q2 q1075 q333 q334 nd_X10_fault rfl (by decide) ⟨Nat.zero_le _, Nat.zero_le _⟩ (by decide) (by decide) ⟨_, rfl⟩ rfl (Nat.le_of_ble_eq_true rfl) dX10_digest_43 (fun H locs hH => ?_)
    refine lv_i2l hx hb dX10_digest_46 rfl ?_
    obtain ⟨r9, hc8, h⟩ := bn_e h
    refine r_callS1 (As := [.long r5, .long ((r7).toInt64)]) C hl.1 hH (c_X10_mix l g  hc8) q1073 q2 q1071 q1072 nd_X10_mix rfl (by decide) ⟨Nat.zero_le _, Nat.zero_le _⟩ (Nat.le_of_ble_eq_true rfl) dX10_digest_47 (fun H locs hH => ?_)
    refine lv_lstore_n (lv' := [(1, .long r9), (0, .ref (gad g 0 0))]) hx hb dX10_digest_50 rfl hl (by decide) rfl (fun ls hl => ?_)
    refine lv_iconst (v := (0 : Int32)) hx hb dX10_digest_51 (by decide) ?_
    refine lv_istore_n (lv' := [(3, .int (0 : Int32)), (1, .long r9), (0, .ref (gad g 0 0))]) hx hb dX10_digest_52 rfl hl (by decide) rfl (fun ls hl => ?_)
    obtain ⟨j59, ej59, h⟩ := jn_e h
    have hj59 : ∀ (x10 : Int64) (H : Heap) (locs : List Loc) (ls : Array Slot), Hp g s S H locs → lv_has ls 5 [(0, .ref (gad g 0 0)), (1, .long x10)] → j59 x10 = some o → W p l e (rmL 21) s m args below meth c H locs 0 0 (Qm g below args s (some (.long o.1)) o.2) (F0 m 95 ls []) := by
      intro x10 H locs ls hH hl h
      rw [ej59] at h
      try dsimp only at h
      refine lv_iconst (v := (0 : Int32)) hx hb dX10_digest_95 (by decide) ?_
      refine lv_istore_n (lv' := [(3, .int (0 : Int32)), (0, .ref (gad g 0 0)), (1, .long x10)]) hx hb dX10_digest_96 rfl hl (by decide) rfl (fun ls hl => ?_)
      obtain ⟨j40, ej40, h⟩ := jn_e h
      have hj40 : ∀ (x11 : Int64) (H : Heap) (locs : List Loc) (ls : Array Slot), Hp g s S H locs → lv_has ls 5 [(0, .ref (gad g 0 0)), (1, .long x11)] → j40 x11 = some o → W p l e (rmL 21) s m args below meth c H locs 0 0 (Qm g below args s (some (.long o.1)) o.2) (F0 m 142 ls []) := by
        intro x11 H locs ls hH hl h
        rw [ej40] at h
        try dsimp only at h
        refine lv_aload_n hx hb dX10_digest_142 rfl (lv_at hl 0 rfl) ?_
        refine lv_lload_n hx hb dX10_digest_143 rfl (lv_at hl 1 rfl) ?_
        refine lv_iconst (v := (0 : Int32)) hx hb dX10_digest_144 (by decide) ?_
        obtain ⟨r13, hc12, h⟩ := bn_e h
        refine r_callV1 (ki := 0) (i := 0) (ci := 9) (As := [.long x11, .int (0 : Int32)]) C hl.1 hH (c_X10_mixBehind l g  hc12) q1087 q2 q1084 q1085 q1086 nd_X10_mixBehind rfl (by decide) ⟨Nat.zero_le _, Nat.zero_le _⟩ (by decide) (by decide) ⟨_, rfl⟩ rfl (Nat.le_of_ble_eq_true rfl) dX10_digest_145 (fun H locs hH => ?_)
        refine lv_lstore_n (lv' := [(1, .long r13), (0, .ref (gad g 0 0))]) hx hb dX10_digest_148 rfl hl (by decide) rfl (fun ls hl => ?_)
        refine lv_aload_n hx hb dX10_digest_149 rfl (lv_at hl 1 rfl) ?_
        refine lv_lload_n hx hb dX10_digest_150 rfl (lv_at hl 0 rfl) ?_
        refine lv_aload_n hx hb dX10_digest_151 rfl (lv_at hl 1 rfl) ?_
        refine gf_X10_38 C hH dX10_digest_152 ?_
        obtain ⟨r15, hc14, h⟩ := bn_e h
        refine r_callV1 (ki := 4) (i := 0) (ci := 1) (As := []) C hl.1 hH (c_X1_turnCount l g  hc14) q602 q27 q599 q600 q601 nd_X1_turnCount rfl (by decide) ⟨Nat.zero_le _, Nat.zero_le _⟩ (by decide) (by decide) ⟨_, rfl⟩ rfl (Nat.le_of_ble_eq_true rfl) dX10_digest_155 (fun H locs hH => ?_)
        obtain ⟨r17, hc16, h⟩ := bn_e h
        refine r_callV1 (ki := 0) (i := 0) (ci := 9) (As := [.long r13, .int r15]) C hl.1 hH (c_X10_mixBehind l g  hc16) q1087 q2 q1084 q1085 q1086 nd_X10_mixBehind rfl (by decide) ⟨Nat.zero_le _, Nat.zero_le _⟩ (by decide) (by decide) ⟨_, rfl⟩ rfl (Nat.le_of_ble_eq_true rfl) dX10_digest_158 (fun H locs hH => ?_)
        refine lv_lstore_n (lv' := [(1, .long r17), (0, .ref (gad g 0 0))]) hx hb dX10_digest_161 rfl hl (by decide) rfl (fun ls hl => ?_)
        refine lv_iconst (v := (0 : Int32)) hx hb dX10_digest_162 (by decide) ?_
        refine lv_istore_n (lv' := [(3, .int (0 : Int32)), (1, .long r17), (0, .ref (gad g 0 0))]) hx hb dX10_digest_163 rfl hl (by decide) rfl (fun ls hl => ?_)
        obtain ⟨j23, ej23, h⟩ := jn_e h
        have hj23 : ∀ (x18 : Int64) (S19 : sT) (H : Heap) (locs : List Loc) (ls : Array Slot), Hp g s S19 H locs → lv_has ls 5 [(0, .ref (gad g 0 0)), (1, .long x18)] → j23 x18 S19 = some o → W p l e (rmL 21) s m args below meth c H locs 0 0 (Qm g below args s (some (.long o.1)) o.2) (F0 m 199 ls []) := by
          intro x18 S19 H locs ls hH hl h
          rw [ej23] at h
          try dsimp only at h
          refine lv_aload_n hx hb dX10_digest_199 rfl (lv_at hl 0 rfl) ?_
          refine lv_lload_n hx hb dX10_digest_200 rfl (lv_at hl 1 rfl) ?_
          obtain ⟨r21, S22, hc20, h⟩ := bn2_e h
          refine r_callV1 (ki := 0) (i := 0) (ci := 9) (As := [.long x18]) C hl.1 hH (c_X10_mixPlans l g  hc20) q1093 q2 q1090 q1091 q1092 nd_X10_mixPlans rfl (by decide) ⟨Nat.zero_le _, Nat.zero_le _⟩ (by decide) (by decide) ⟨_, rfl⟩ rfl (Nat.le_of_ble_eq_true rfl) dX10_digest_201 (fun H locs hH => ?_)
          exact E_long C hr hH h dX10_digest_204
        clear ej23
        exact w_X10_digest_164 C hr  j23 hj23 _ _ _ _ _ _ _ hH (lv_sub hl [2, 1, 0] rfl) h
      clear ej40
      exact w_X10_digest_97 C hr  j40 hj40 _ _ _ _ _ _ hH (lv_sub hl [1, 2, 0] rfl) h
    clear ej59
    exact w_X10_digest_53 C hr  j59 hj59 _ _ _ _ _ _ hH (lv_sub hl [2, 1, 0] rfl) h
  clear ej76
  exact w_X10_digest_6 C hr  j76 hj76 _ _ _ _ _ _ hH (lv_sub hl [2, 1, 0] rfl) h
theorem c_X10_digest (l : Launch) (g : gT)   {S : sT} {r : Int64} {S1 : sT} (h : f_X10_digest  S = some (r, S1)) : MF l yX10_digest cX10_digest 5 (some .long) 21 g [.ref (gad g 0 0)] S (some (.long r)) S1 := by
  refine MF.of (own := RX10) rfl rfl (Nat.le_of_ble_eq_true rfl) ?_
  intro p e s m below meth c C hr hH ls hl
  exact w_X10_digest C hr (o := (r, S1))  hH hl h
end G17
