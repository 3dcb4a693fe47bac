section G11
variable {p : Program} {l : Launch} {e : Env} {s : State} {m : MethodId} {args : Array Value} {below : List Frame} {meth : Method} {c : Code} {g : gT}
theorem nd_X10_within : yX10_within.cls ≠ "java/lang/invoke/MethodHandle" ∧ yX10_within.cls ≠ "java/lang/invoke/VarHandle" ∧ (parseMethodDescriptor yX10_within.desc).map (fun d => d.parameters.length) = some 3 := by decide +kernel
def f_X10_within (a1 : Int32) (a2 : Int32) (a3 : Int32) (S : sT) : Option (Int32) :=
 (if a1 < a2 then
 some (0 : Int32)
 else
 (if a3 < a1 then
 some (0 : Int32)
 else
 some (1 : Int32)))
set_option maxHeartbeats 4000000 in
set_option maxRecDepth 100000 in
theorem w_X10_within (C : Cx p s m args meth c cX10_within 3 RX10 g) (hr : meth.sig.returnType = (some .boolean)) {o : Int32} {a1 : Int32} {a2 : Int32} {a3 : Int32}  {S : sT} {H : Heap} {locs : List Loc} {ls : Array Slot} (hH : Hp g s S H locs) (hl : lv_has ls 3 [(0, .int a1), (1, .int a2), (2, .int a3)]) (h : f_X10_within a1 a2 a3 S = some o) : W p l e (rmL 1) s m args below meth c H locs 0 0 (Qm g below args s (some (.int o)) S) (F0 m 0 ls []) := by
  obtain ⟨hx, hb, hml, hown, hts, hlk, hK⟩ := id C
  unfold f_X10_within at h
  refine lv_iload_n hx hb dX10_within_0 rfl (lv_at hl 0 rfl) ?_
  refine lv_iload_n hx hb dX10_within_1 rfl (lv_at hl 1 rfl) ?_
  refine lv_icmp_lt (tgt := 14) hx hb dX10_within_2 (by decide) (fun c2 => ?_) (fun c2 => ?_)
  · replace h := if_t h c2
    refine lv_iconst (v := (0 : Int32)) hx hb dX10_within_14 (by decide) ?_
    exact E_boolc C hr hH rfl h dX10_within_15
  · replace h := if_f h c2
    refine lv_iload_n hx hb dX10_within_5 rfl (lv_at hl 0 rfl) ?_
    refine lv_iload_n hx hb dX10_within_6 rfl (lv_at hl 2 rfl) ?_
    refine lv_icmp_gt (tgt := 14) hx hb dX10_within_7 (by decide) (fun c1 => ?_) (fun c1 => ?_)
    · replace h := if_t h c1
      refine lv_iconst (v := (0 : Int32)) hx hb dX10_within_14 (by decide) ?_
      exact E_boolc C hr hH rfl h dX10_within_15
    · replace h := if_f h c1
      refine lv_iconst (v := (1 : Int32)) hx hb dX10_within_10 (by decide) ?_
      refine lv_goto (tgt := 15) hx hb dX10_within_11 (by decide) ?_
      exact E_boolc C hr hH rfl h dX10_within_15
theorem c_X10_within (l : Launch) (g : gT) {a1 : Int32} {a2 : Int32} {a3 : Int32}  {S : sT} {r : Int32} (h : f_X10_within a1 a2 a3 S = some r) : MF l yX10_within cX10_within 3 (some .boolean) 1 g [.int a1, .int a2, .int a3] S (some (.int r)) S := by
  refine MF.of (own := RX10) rfl rfl (Nat.le_of_ble_eq_true rfl) ?_
  intro p e s m below meth c C hr hH ls hl
  exact w_X10_within C hr (o := r)  hH hl h
theorem nd_X3_value : yX3_value.cls ≠ "java/lang/invoke/MethodHandle" ∧ yX3_value.cls ≠ "java/lang/invoke/VarHandle" ∧ (parseMethodDescriptor yX3_value.desc).map (fun d => d.parameters.length) = some 1 := by decide +kernel
def f_X3_value (a1 : Int32) (S : sT) : Option (Int32) :=
 (if a1 < (0 : Int32) then
 some (0 : Int32)
 else
 (if (6 : Int32) ≤ a1 then
 some (0 : Int32)
 else
 ck (vi a1 6) (
 some (S.1 12 0 (cl a1)))))
set_option maxHeartbeats 4000000 in
set_option maxRecDepth 100000 in
theorem w_X3_value (C : Cx p s m args meth c cX3_value 2 RX3 g) (hr : meth.sig.returnType = (some .int)) {o : Int32} {a1 : Int32}  {S : sT} {H : Heap} {locs : List Loc} {ls : Array Slot} (hH : Hp g s S H locs) (hl : lv_has ls 2 [(0, .ref (gad g 2 0)), (1, .int a1)]) (h : f_X3_value a1 S = some o) : W p l e (rmL 1) s m args below meth c H locs 0 0 (Qm g below args s (some (.int o)) S) (F0 m 0 ls []) := by
  obtain ⟨hx, hb, hml, hown, hts, hlk, hK⟩ := id C
  unfold f_X3_value at h
  refine lv_iload_n hx hb dX3_value_0 rfl (lv_at hl 1 rfl) ?_
  refine lv_if_lt (tgt := 22) hx hb dX3_value_1 (by decide) (fun c3 => ?_) (fun c3 => ?_)
  · replace h := if_t h c3
    refine lv_iconst (v := (0 : Int32)) hx hb dX3_value_22 (by decide) ?_
    exact E_intc C hr hH h dX3_value_23
  · replace h := if_f h c3
    refine lv_iload_n hx hb dX3_value_4 rfl (lv_at hl 1 rfl) ?_
    refine lv_aload_n hx hb dX3_value_5 rfl (lv_at hl 0 rfl) ?_
    refine gf_X3_7 C hH dX3_value_6 ?_
    refine r_alen C hH ka_12 (by decide) (by decide) (v := (6 : Int32)) (by decide) dX3_value_9 ?_
    refine lv_icmp_ge (tgt := 22) hx hb dX3_value_10 (by decide) (fun c2 => ?_) (fun c2 => ?_)
    · replace h := if_t h c2
      refine lv_iconst (v := (0 : Int32)) hx hb dX3_value_22 (by decide) ?_
      exact E_intc C hr hH h dX3_value_23
    · replace h := if_f h c2
      refine lv_aload_n hx hb dX3_value_13 rfl (lv_at hl 0 rfl) ?_
      refine gf_X3_7 C hH dX3_value_14 ?_
      refine lv_iload_n hx hb dX3_value_17 rfl (lv_at hl 1 rfl) ?_
      obtain ⟨hv1, h⟩ := ck_e h
      refine r_ald C hH ka_12 (by decide) (by decide) (vi_in hv1) dX3_value_18 ?_
      refine lv_goto (tgt := 23) hx hb dX3_value_19 (by decide) ?_
      exact E_intc C hr hH h dX3_value_23
theorem c_X3_value (l : Launch) (g : gT) {a1 : Int32}  {S : sT} {r : Int32} (h : f_X3_value a1 S = some r) : MF l yX3_value cX3_value 2 (some .int) 1 g [.ref (gad g 2 0), .int a1] S (some (.int r)) S := by
  refine MF.of (own := RX3) rfl rfl (Nat.le_of_ble_eq_true rfl) ?_
  intro p e s m below meth c C hr hH ls hl
  exact w_X3_value C hr (o := r)  hH hl h
theorem nd_X3_brotherOf : yX3_brotherOf.cls ≠ "java/lang/invoke/MethodHandle" ∧ yX3_brotherOf.cls ≠ "java/lang/invoke/VarHandle" ∧ (parseMethodDescriptor yX3_brotherOf.desc).map (fun d => d.parameters.length) = some 1 := by decide +kernel
def f_X3_brotherOf (a1 : Int32) (S : sT) : Option (Int32) :=
 bn (f_X3_value (0 : Int32) S) (fun r2 =>
 some ((r2 + a1) &&& (1 : Int32)))
set_option maxHeartbeats 4000000 in
set_option maxRecDepth 100000 in
theorem w_X3_brotherOf (C : Cx p s m args meth c cX3_brotherOf 2 RX3 g) (hr : meth.sig.returnType = (some .int)) {o : Int32} {a1 : Int32}  {S : sT} {H : Heap} {locs : List Loc} {ls : Array Slot} (hH : Hp g s S H locs) (hl : lv_has ls 2 [(0, .ref (gad g 2 0)), (1, .int a1)]) (h : f_X3_brotherOf a1 S = some o) : W p l e (rmL 2) s m args below meth c H locs 0 0 (Qm g below args s (some (.int o)) S) (F0 m 0 ls []) := by
  obtain ⟨hx, hb, hml, hown, hts, hlk, hK⟩ := id C
  unfold f_X3_brotherOf at h
  refine lv_aload_n hx hb dX3_brotherOf_0 rfl (lv_at hl 0 rfl) ?_
  refine lv_iconst (v := (0 : Int32)) hx hb dX3_brotherOf_1 (by decide) ?_
  obtain ⟨r2, hc1, h⟩ := bn_e h
  refine r_callV1 (ki := 2) (i := 0) (ci := 3) (As := [.int (0 : Int32)]) C hl.1 hH (c_X3_value l g  hc1) q270 q19 q267 q268 q269 nd_X3_value rfl (by decide) ⟨Nat.zero_le _, Nat.zero_le _⟩ (by decide) (by decide) ⟨_, rfl⟩ rfl (Nat.le_of_ble_eq_true rfl) dX3_brotherOf_2 (fun H locs hH => ?_)
  refine lv_iload_n hx hb dX3_brotherOf_5 rfl (lv_at hl 1 rfl) ?_
  refine lv_iadd hx hb dX3_brotherOf_6 ?_
  refine lv_iconst (v := (1 : Int32)) hx hb dX3_brotherOf_7 (by decide) ?_
  refine lv_iand hx hb dX3_brotherOf_8 ?_
  exact E_intc C hr hH h dX3_brotherOf_9
theorem c_X3_brotherOf (l : Launch) (g : gT) {a1 : Int32}  {S : sT} {r : Int32} (h : f_X3_brotherOf a1 S = some r) : MF l yX3_brotherOf cX3_brotherOf 2 (some .int) 2 g [.ref (gad g 2 0), .int a1] S (some (.int r)) S := by
  refine MF.of (own := RX3) rfl rfl (Nat.le_of_ble_eq_true rfl) ?_
  intro p e s m below meth c C hr hH ls hl
  exact w_X3_brotherOf C hr (o := r)  hH hl h
theorem nd_X7_ownerOf : yX7_ownerOf.cls ≠ "java/lang/invoke/MethodHandle" ∧ yX7_ownerOf.cls ≠ "java/lang/invoke/VarHandle" ∧ (parseMethodDescriptor yX7_ownerOf.desc).map (fun d => d.parameters.length) = some 1 := by decide +kernel
def f_X7_ownerOf (a1 : Int32) (S : sT) : Option (Int32) :=
 some (a1 &&& (1 : Int32))
set_option maxHeartbeats 4000000 in
set_option maxRecDepth 100000 in
theorem w_X7_ownerOf (C : Cx p s m args meth c cX7_ownerOf 1 RX7 g) (hr : meth.sig.returnType = (some .int)) {o : Int32} {a1 : Int32}  {S : sT} {H : Heap} {locs : List Loc} {ls : Array Slot} (hH : Hp g s S H locs) (hl : lv_has ls 1 [(0, .int a1)]) (h : f_X7_ownerOf a1 S = some o) : W p l e (rmL 1) s m args below meth c H locs 0 0 (Qm g below args s (some (.int o)) S) (F0 m 0 ls []) := by
  obtain ⟨hx, hb, hml, hown, hts, hlk, hK⟩ := id C
  unfold f_X7_ownerOf at h
  refine lv_iload_n hx hb dX7_ownerOf_0 rfl (lv_at hl 0 rfl) ?_
  refine lv_iconst (v := (1 : Int32)) hx hb dX7_ownerOf_1 (by decide) ?_
  refine lv_iand hx hb dX7_ownerOf_2 ?_
  exact E_intc C hr hH h dX7_ownerOf_3
theorem c_X7_ownerOf (l : Launch) (g : gT) {a1 : Int32}  {S : sT} {r : Int32} (h : f_X7_ownerOf a1 S = some r) : MF l yX7_ownerOf cX7_ownerOf 1 (some .int) 1 g [.int a1] S (some (.int r)) S := by
  refine MF.of (own := RX7) rfl rfl (Nat.le_of_ble_eq_true rfl) ?_
  intro p e s m below meth c C hr hH ls hl
  exact w_X7_ownerOf C hr (o := r)  hH hl h
theorem nd_X7_pullOf : yX7_pullOf.cls ≠ "java/lang/invoke/MethodHandle" ∧ yX7_pullOf.cls ≠ "java/lang/invoke/VarHandle" ∧ (parseMethodDescriptor yX7_pullOf.desc).map (fun d => d.parameters.length) = some 1 := by decide +kernel
def f_X7_pullOf (a1 : Int32) (S : sT) : Option (Int32) :=
 jn (fun (y1 : Int32) => (if (a1 &&& (1 : Int32)) = (0 : Int32) then
 some y1
 else
 some (-y1)))
 (fun j3 => (if a1 < (2 : Int32) then
 j3 (1 : Int32)
 else
 j3 (2 : Int32)))
set_option maxHeartbeats 4000000 in
set_option maxRecDepth 100000 in
theorem w_X7_pullOf (C : Cx p s m args meth c cX7_pullOf 2 RX7 g) (hr : meth.sig.returnType = (some .int)) {o : Int32} {a1 : Int32}  {S : sT} {H : Heap} {locs : List Loc} {ls : Array Slot} (hH : Hp g s S H locs) (hl : lv_has ls 2 [(0, .int a1)]) (h : f_X7_pullOf a1 S = some o) : W p l e (rmL 1) s m args below meth c H locs 0 0 (Qm g below args s (some (.int o)) S) (F0 m 0 ls []) := by
  obtain ⟨hx, hb, hml, hown, hts, hlk, hK⟩ := id C
  unfold f_X7_pullOf at h
  refine lv_iload_n hx hb dX7_pullOf_0 rfl (lv_at hl 0 rfl) ?_
  refine lv_iconst (v := (2 : Int32)) hx hb dX7_pullOf_1 (by decide) ?_
  obtain ⟨j3, ej3, h⟩ := jn_e h
  have hj3 : ∀ (y1 : Int32) (H : Heap) (locs : List Loc) (ls : Array Slot), Hp g s S H locs → lv_has ls 2 [(0, .int a1)] → j3 y1 = some o → W p l e (rmL 1) s m args below meth c H locs 0 0 (Qm g below args s (some (.int o)) S) (F0 m 10 ls [.int y1]) := by
    intro y1 H locs ls hH hl h
    rw [ej3] at h
    try dsimp only at h
    refine lv_istore_n (lv' := [(1, .int y1), (0, .int a1)]) hx hb dX7_pullOf_10 rfl hl (by decide) rfl (fun ls hl => ?_)
    refine lv_iload_n hx hb dX7_pullOf_11 rfl (lv_at hl 1 rfl) ?_
    refine lv_iconst (v := (1 : Int32)) hx hb dX7_pullOf_12 (by decide) ?_
    refine lv_iand hx hb dX7_pullOf_13 ?_
    refine lv_if_ne (tgt := 21) hx hb dX7_pullOf_14 (by decide) (fun c2 => ?_) (fun c2 => ?_)
    · replace h := if_f h c2
      refine lv_iload_n hx hb dX7_pullOf_21 rfl (lv_at hl 0 rfl) ?_
      refine lv_ineg hx hb dX7_pullOf_22 ?_
      exact E_intc C hr hH h dX7_pullOf_23
    · replace h := if_t h c2
      refine lv_iload_n hx hb dX7_pullOf_17 rfl (lv_at hl 0 rfl) ?_
      refine lv_goto (tgt := 23) hx hb dX7_pullOf_18 (by decide) ?_
      exact E_intc C hr hH h dX7_pullOf_23
  clear ej3
  refine lv_icmp_lt (tgt := 9) hx hb dX7_pullOf_2 (by decide) (fun c4 => ?_) (fun c4 => ?_)
  · replace h := if_t h c4
    refine lv_iconst (v := (1 : Int32)) hx hb dX7_pullOf_9 (by decide) ?_
    exact hj3 _ _ _ _ hH (lv_sub hl [0] rfl) h
  · replace h := if_f h c4
    refine lv_iconst (v := (2 : Int32)) hx hb dX7_pullOf_5 (by decide) ?_
    refine lv_goto (tgt := 10) hx hb dX7_pullOf_6 (by decide) ?_
    exact hj3 _ _ _ _ hH (lv_sub hl [0] rfl) h
theorem c_X7_pullOf (l : Launch) (g : gT) {a1 : Int32}  {S : sT} {r : Int32} (h : f_X7_pullOf a1 S = some r) : MF l yX7_pullOf cX7_pullOf 2 (some .int) 1 g [.int a1] S (some (.int r)) S := by
  refine MF.of (own := RX7) rfl rfl (Nat.le_of_ble_eq_true rfl) ?_
  intro p e s m below meth c C hr hH ls hl
  exact w_X7_pullOf C hr (o := r)  hH hl h
theorem nd_X7_weightOf : yX7_weightOf.cls ≠ "java/lang/invoke/MethodHandle" ∧ yX7_weightOf.cls ≠ "java/lang/invoke/VarHandle" ∧ (parseMethodDescriptor yX7_weightOf.desc).map (fun d => d.parameters.length) = some 1 := by decide +kernel
def f_X7_weightOf (a1 : Int32) (S : sT) : Option (Int32) :=
 (if a1 < (2 : Int32) then
 some (1 : Int32)
 else
 some (2 : Int32))
set_option maxHeartbeats 4000000 in
set_option maxRecDepth 100000 in
theorem w_X7_weightOf (C : Cx p s m args meth c cX7_weightOf 1 RX7 g) (hr : meth.sig.returnType = (some .int)) {o : Int32} {a1 : Int32}  {S : sT} {H : Heap} {locs : List Loc} {ls : Array Slot} (hH : Hp g s S H locs) (hl : lv_has ls 1 [(0, .int a1)]) (h : f_X7_weightOf a1 S = some o) : W p l e (rmL 1) s m args below meth c H locs 0 0 (Qm g below args s (some (.int o)) S) (F0 m 0 ls []) := by
  obtain ⟨hx, hb, hml, hown, hts, hlk, hK⟩ := id C
  unfold f_X7_weightOf at h
  refine lv_iload_n hx hb dX7_weightOf_0 rfl (lv_at hl 0 rfl) ?_
  refine lv_iconst (v := (2 : Int32)) hx hb dX7_weightOf_1 (by decide) ?_
  refine lv_icmp_lt (tgt := 9) hx hb dX7_weightOf_2 (by decide) (fun c1 => ?_) (fun c1 => ?_)
  · replace h := if_t h c1
    refine lv_iconst (v := (1 : Int32)) hx hb dX7_weightOf_9 (by decide) ?_
    exact E_intc C hr hH h dX7_weightOf_10
  · replace h := if_f h c1
    refine lv_iconst (v := (2 : Int32)) hx hb dX7_weightOf_5 (by decide) ?_
    refine lv_goto (tgt := 10) hx hb dX7_weightOf_6 (by decide) ?_
    exact E_intc C hr hH h dX7_weightOf_10
theorem c_X7_weightOf (l : Launch) (g : gT) {a1 : Int32}  {S : sT} {r : Int32} (h : f_X7_weightOf a1 S = some r) : MF l yX7_weightOf cX7_weightOf 1 (some .int) 1 g [.int a1] S (some (.int r)) S := by
  refine MF.of (own := RX7) rfl rfl (Nat.le_of_ble_eq_true rfl) ?_
  intro p e s m below meth c C hr hH ls hl
  exact w_X7_weightOf C hr (o := r)  hH hl h
theorem nd_X7_ofLetter : yX7_ofLetter.cls ≠ "java/lang/invoke/MethodHandle" ∧ yX7_ofLetter.cls ≠ "java/lang/invoke/VarHandle" ∧ (parseMethodDescriptor yX7_ofLetter.desc).map (fun d => d.parameters.length) = some 1 := by decide +kernel
def f_X7_ofLetter (a1 : Int32) (S : sT) : Option (Int32) :=
 (if a1 = (78 : Int32) then
 some (2 : Int32)
 else
 (if a1 = (83 : Int32) then
 some (3 : Int32)
 else
 (if a1 = (110 : Int32) then
 some (0 : Int32)
 else
 (if a1 = (115 : Int32) then
 some (1 : Int32)
 else
 some (-1 : Int32)))))
set_option maxHeartbeats 4000000 in
set_option maxRecDepth 100000 in
theorem w_X7_ofLetter (C : Cx p s m args meth c cX7_ofLetter 1 RX7 g) (hr : meth.sig.returnType = (some .int)) {o : Int32} {a1 : Int32}  {S : sT} {H : Heap} {locs : List Loc} {ls : Array Slot} (hH : Hp g s S H locs) (hl : lv_has ls 1 [(0, .int a1)]) (h : f_X7_ofLetter a1 S = some o) : W p l e (rmL 1) s m args below meth c H locs 0 0 (Qm g below args s (some (.int o)) S) (F0 m 0 ls []) := by
  obtain ⟨hx, hb, hml, hown, hts, hlk, hK⟩ := id C
  unfold f_X7_ofLetter at h
  refine lv_iload_n hx hb dX7_ofLetter_0 rfl (lv_at hl 0 rfl) ?_
  by_cases c1 : a1 = (78 : Int32)
  · replace h := if_t h c1
    refine lv_lookup (tgt := 48) (off := 47) hx hb dX7_ofLetter_1 (by decide) (by rw [c1]; decide) (by decide) ?_
    refine lv_iconst (v := (2 : Int32)) hx hb dX7_ofLetter_48 (by decide) ?_
    exact E_intc C hr hH h dX7_ofLetter_49
  · replace h := if_f h c1
    by_cases c2 : a1 = (83 : Int32)
    · replace h := if_t h c2
      refine lv_lookup (tgt := 50) (off := 49) hx hb dX7_ofLetter_1 (by decide) (by rw [c2]; decide) (by decide) ?_
      refine lv_iconst (v := (3 : Int32)) hx hb dX7_ofLetter_50 (by decide) ?_
      exact E_intc C hr hH h dX7_ofLetter_51
    · replace h := if_f h c2
      by_cases c3 : a1 = (110 : Int32)
      · replace h := if_t h c3
        refine lv_lookup (tgt := 44) (off := 43) hx hb dX7_ofLetter_1 (by decide) (by rw [c3]; decide) (by decide) ?_
        refine lv_iconst (v := (0 : Int32)) hx hb dX7_ofLetter_44 (by decide) ?_
        exact E_intc C hr hH h dX7_ofLetter_45
      · replace h := if_f h c3
        by_cases c4 : a1 = (115 : Int32)
        · replace h := if_t h c4
          refine lv_lookup (tgt := 46) (off := 45) hx hb dX7_ofLetter_1 (by decide) (by rw [c4]; decide) (by decide) ?_
          refine lv_iconst (v := (1 : Int32)) hx hb dX7_ofLetter_46 (by decide) ?_
          exact E_intc C hr hH h dX7_ofLetter_47
        · replace h := if_f h c4
          have nc1 := ne_toInt (k := 78) c1 (by decide)
          have nc2 := ne_toInt (k := 83) c2 (by decide)
          have nc3 := ne_toInt (k := 110) c3 (by decide)
          have nc4 := ne_toInt (k := 115) c4 (by decide)
          refine lv_lookup (tgt := 52) (off := 51) hx hb dX7_ofLetter_1 (by decide) (by simp [Op.lookupswitch.offset, nc1, nc1.symm, nc2, nc2.symm, nc3, nc3.symm, nc4, nc4.symm]) (by decide) ?_
          refine lv_iconst (v := (-1 : Int32)) hx hb dX7_ofLetter_52 (by decide) ?_
          exact E_intc C hr hH h dX7_ofLetter_53
theorem c_X7_ofLetter (l : Launch) (g : gT) {a1 : Int32}  {S : sT} {r : Int32} (h : f_X7_ofLetter a1 S = some r) : MF l yX7_ofLetter cX7_ofLetter 1 (some .int) 1 g [.int a1] S (some (.int r)) S := by
  refine MF.of (own := RX7) rfl rfl (Nat.le_of_ble_eq_true rfl) ?_
  intro p e s m below meth c C hr hH ls hl
  exact w_X7_ofLetter C hr (o := r)  hH hl h
theorem nd_X7_columnOf : yX7_columnOf.cls ≠ "java/lang/invoke/MethodHandle" ∧ yX7_columnOf.cls ≠ "java/lang/invoke/VarHandle" ∧ (parseMethodDescriptor yX7_columnOf.desc).map (fun d => d.parameters.length) = some 1 := by decide +kernel
def f_X7_columnOf (a1 : Int32) (S : sT) : Option (Int32) :=
 (if a1 < (48 : Int32) then
 some (-1 : Int32)
 else
 (if (55 : Int32) < a1 then
 some (-1 : Int32)
 else
 some (a1 - (48 : Int32))))
set_option maxHeartbeats 4000000 in
set_option maxRecDepth 100000 in
theorem w_X7_columnOf (C : Cx p s m args meth c cX7_columnOf 1 RX7 g) (hr : meth.sig.returnType = (some .int)) {o : Int32} {a1 : Int32}  {S : sT} {H : Heap} {locs : List Loc} {ls : Array Slot} (hH : Hp g s S H locs) (hl : lv_has ls 1 [(0, .int a1)]) (h : f_X7_columnOf a1 S = some o) : W p l e (rmL 1) s m args below meth c H locs 0 0 (Qm g below args s (some (.int o)) S) (F0 m 0 ls []) := by
  obtain ⟨hx, hb, hml, hown, hts, hlk, hK⟩ := id C
  unfold f_X7_columnOf at h
  refine lv_iload_n hx hb dX7_columnOf_0 rfl (lv_at hl 0 rfl) ?_
  refine lv_bipush (v := (48 : Int32)) hx hb dX7_columnOf_1 (by decide) ?_
  refine lv_icmp_lt (tgt := 19) hx hb dX7_columnOf_3 (by decide) (fun c2 => ?_) (fun c2 => ?_)
  · replace h := if_t h c2
    refine lv_iconst (v := (-1 : Int32)) hx hb dX7_columnOf_19 (by decide) ?_
    exact E_intc C hr hH h dX7_columnOf_20
  · replace h := if_f h c2
    refine lv_iload_n hx hb dX7_columnOf_6 rfl (lv_at hl 0 rfl) ?_
    refine lv_bipush (v := (55 : Int32)) hx hb dX7_columnOf_7 (by decide) ?_
    refine lv_icmp_gt (tgt := 19) hx hb dX7_columnOf_9 (by decide) (fun c1 => ?_) (fun c1 => ?_)
    · replace h := if_t h c1
      refine lv_iconst (v := (-1 : Int32)) hx hb dX7_columnOf_19 (by decide) ?_
      exact E_intc C hr hH h dX7_columnOf_20
    · replace h := if_f h c1
      refine lv_iload_n hx hb dX7_columnOf_12 rfl (lv_at hl 0 rfl) ?_
      refine lv_bipush (v := (48 : Int32)) hx hb dX7_columnOf_13 (by decide) ?_
      refine lv_isub hx hb dX7_columnOf_15 ?_
      refine lv_goto (tgt := 20) hx hb dX7_columnOf_16 (by decide) ?_
      exact E_intc C hr hH h dX7_columnOf_20
theorem c_X7_columnOf (l : Launch) (g : gT) {a1 : Int32}  {S : sT} {r : Int32} (h : f_X7_columnOf a1 S = some r) : MF l yX7_columnOf cX7_columnOf 1 (some .int) 1 g [.int a1] S (some (.int r)) S := by
  refine MF.of (own := RX7) rfl rfl (Nat.le_of_ble_eq_true rfl) ?_
  intro p e s m below meth c C hr hH ls hl
  exact w_X7_columnOf C hr (o := r)  hH hl h
theorem nd_X8_byteAt : yX8_byteAt.cls ≠ "java/lang/invoke/MethodHandle" ∧ yX8_byteAt.cls ≠ "java/lang/invoke/VarHandle" ∧ (parseMethodDescriptor yX8_byteAt.desc).map (fun d => d.parameters.length) = some 1 := by decide +kernel
def f_X8_byteAt (w0 : Nat) (a1 : Int32) (S : sT) : Option (Int32) :=
 (if a1 < (0 : Int32) then
 some (-1 : Int32)
 else
 (if (S.1 103 w0 0) ≤ a1 then
 some (-1 : Int32)
 else
 ck (vi a1 63) (
 some (S.1 11 w0 (cl a1)))))
set_option maxHeartbeats 4000000 in
set_option maxRecDepth 100000 in
theorem w_X8_byteAt (C : Cx p s m args meth c cX8_byteAt 2 RX8 g) (hr : meth.sig.returnType = (some .int)) {o : Int32} {w0 : Nat} {a1 : Int32} (hw0 : w0 < 2) {S : sT} {H : Heap} {locs : List Loc} {ls : Array Slot} (hH : Hp g s S H locs) (hl : lv_has ls 2 [(0, .ref (gad g 1 w0)), (1, .int a1)]) (h : f_X8_byteAt w0 a1 S = some o) : W p l e (rmL 1) s m args below meth c H locs 0 0 (Qm g below args s (some (.int o)) S) (F0 m 0 ls []) := by
  obtain ⟨hx, hb, hml, hown, hts, hlk, hK⟩ := id C
  unfold f_X8_byteAt at h
  refine lv_iload_n hx hb dX8_byteAt_0 rfl (lv_at hl 1 rfl) ?_
  refine lv_if_lt (tgt := 21) hx hb dX8_byteAt_1 (by decide) (fun c3 => ?_) (fun c3 => ?_)
  · replace h := if_t h c3
    refine lv_iconst (v := (-1 : Int32)) hx hb dX8_byteAt_21 (by decide) ?_
    exact E_intc C hr hH h dX8_byteAt_22
  · replace h := if_f h c3
    refine lv_iload_n hx hb dX8_byteAt_4 rfl (lv_at hl 1 rfl) ?_
    refine lv_aload_n hx hb dX8_byteAt_5 rfl (lv_at hl 0 rfl) ?_
    refine gf_X8_15 C hH hw0 dX8_byteAt_6 ?_
    refine lv_icmp_ge (tgt := 21) hx hb dX8_byteAt_9 (by decide) (fun c2 => ?_) (fun c2 => ?_)
    · replace h := if_t h c2
      refine lv_iconst (v := (-1 : Int32)) hx hb dX8_byteAt_21 (by decide) ?_
      exact E_intc C hr hH h dX8_byteAt_22
    · replace h := if_f h c2
      refine lv_aload_n hx hb dX8_byteAt_12 rfl (lv_at hl 0 rfl) ?_
      refine gf_X8_9 C hH hw0 dX8_byteAt_13 ?_
      refine lv_iload_n hx hb dX8_byteAt_16 rfl (lv_at hl 1 rfl) ?_
      obtain ⟨hv1, h⟩ := ck_e h
      refine r_ald C hH ka_11 (by decide) hw0 (vi_in hv1) dX8_byteAt_17 ?_
      refine lv_goto (tgt := 22) hx hb dX8_byteAt_18 (by decide) ?_
      exact E_intc C hr hH h dX8_byteAt_22
theorem c_X8_byteAt (l : Launch) (g : gT) {w0 : Nat} {a1 : Int32} (hw0 : w0 < 2) {S : sT} {r : Int32} (h : f_X8_byteAt w0 a1 S = some r) : MF l yX8_byteAt cX8_byteAt 2 (some .int) 1 g [.ref (gad g 1 w0), .int a1] S (some (.int r)) S := by
  refine MF.of (own := RX8) rfl rfl (Nat.le_of_ble_eq_true rfl) ?_
  intro p e s m below meth c C hr hH ls hl
  exact w_X8_byteAt C hr (o := r) hw0 hH hl h
theorem nd_X8_size : yX8_size.cls ≠ "java/lang/invoke/MethodHandle" ∧ yX8_size.cls ≠ "java/lang/invoke/VarHandle" ∧ (parseMethodDescriptor yX8_size.desc).map (fun d => d.parameters.length) = some 0 := by decide +kernel
def f_X8_size (w0 : Nat) (S : sT) : Option (Int32) :=
 some (S.1 103 w0 0)
set_option maxHeartbeats 4000000 in
set_option maxRecDepth 100000 in
theorem w_X8_size (C : Cx p s m args meth c cX8_size 1 RX8 g) (hr : meth.sig.returnType = (some .int)) {o : Int32} {w0 : Nat} (hw0 : w0 < 2) {S : sT} {H : Heap} {locs : List Loc} {ls : Array Slot} (hH : Hp g s S H locs) (hl : lv_has ls 1 [(0, .ref (gad g 1 w0))]) (h : f_X8_size w0 S = some o) : W p l e (rmL 1) s m args below meth c H locs 0 0 (Qm g below args s (some (.int o)) S) (F0 m 0 ls []) := by
  obtain ⟨hx, hb, hml, hown, hts, hlk, hK⟩ := id C
  unfold f_X8_size at h
  refine lv_aload_n hx hb dX8_size_0 rfl (lv_at hl 0 rfl) ?_
  refine gf_X8_15 C hH hw0 dX8_size_1 ?_
  exact E_intc C hr hH h dX8_size_4
theorem c_X8_size (l : Launch) (g : gT) {w0 : Nat} (hw0 : w0 < 2) {S : sT} {r : Int32} (h : f_X8_size w0 S = some r) : MF l yX8_size cX8_size 1 (some .int) 1 g [.ref (gad g 1 w0)] S (some (.int r)) S := by
  refine MF.of (own := RX8) rfl rfl (Nat.le_of_ble_eq_true rfl) ?_
  intro p e s m below meth c C hr hH ls hl
  exact w_X8_size C hr (o := r) hw0 hH hl h
theorem nd_X8_add : yX8_add.cls ≠ "java/lang/invoke/MethodHandle" ∧ yX8_add.cls ≠ "java/lang/invoke/VarHandle" ∧ (parseMethodDescriptor yX8_add.desc).map (fun d => d.parameters.length) = some 1 := by decide +kernel
def f_X8_add (w0 : Nat) (a1 : Int32) (S : sT) : Option (sT) :=
 (if (S.1 103 w0 0) < (0 : Int32) then
 some S
 else
 (if (S.1 102 w0 0) ≤ (S.1 103 w0 0) then
 some S
 else
 ck (vi (S.1 103 w0 0) 63) (
 lt (us S 11 w0 (cl (S.1 103 w0 0)) a1) (fun S2 =>
 lt (us S2 103 w0 0 ((S2.1 103 w0 0) + (1 : Int32))) (fun S3 =>
 some S3)))))
set_option maxHeartbeats 4000000 in
set_option maxRecDepth 100000 in
theorem w_X8_add (C : Cx p s m args meth c cX8_add 2 RX8 g) (hr : meth.sig.returnType = none) {o : sT} {w0 : Nat} {a1 : Int32} (hw0 : w0 < 2) {S : sT} {H : Heap} {locs : List Loc} {ls : Array Slot} (hH : Hp g s S H locs) (hl : lv_has ls 2 [(0, .ref (gad g 1 w0)), (1, .int a1)]) (h : f_X8_add w0 a1 S = some o) : W p l e (rmL 1) s m args below meth c H locs 0 0 (Qm g below args s none o) (F0 m 0 ls []) := by
  obtain ⟨hx, hb, hml, hown, hts, hlk, hK⟩ := id C
  unfold f_X8_add at h
  refine lv_aload_n hx hb dX8_add_0 rfl (lv_at hl 0 rfl) ?_
  refine gf_X8_15 C hH hw0 dX8_add_1 ?_
  refine lv_if_lt (tgt := 38) hx hb dX8_add_4 (by decide) (fun c5 => ?_) (fun c5 => ?_)
  · replace h := if_t h c5
    exact E_void C hr hH h dX8_add_38
  · replace h := if_f h c5
    refine lv_aload_n hx hb dX8_add_7 rfl (lv_at hl 0 rfl) ?_
    refine gf_X8_15 C hH hw0 dX8_add_8 ?_
    refine lv_aload_n hx hb dX8_add_11 rfl (lv_at hl 0 rfl) ?_
    refine gf_X8_25 C hH hw0 dX8_add_12 ?_
    refine lv_icmp_ge (tgt := 38) hx hb dX8_add_15 (by decide) (fun c4 => ?_) (fun c4 => ?_)
    · replace h := if_t h c4
      exact E_void C hr hH h dX8_add_38
    · replace h := if_f h c4
      refine lv_aload_n hx hb dX8_add_18 rfl (lv_at hl 0 rfl) ?_
      refine gf_X8_9 C hH hw0 dX8_add_19 ?_
      refine lv_aload_n hx hb dX8_add_22 rfl (lv_at hl 0 rfl) ?_
      refine gf_X8_15 C hH hw0 dX8_add_23 ?_
      refine lv_iload_n hx hb dX8_add_26 rfl (lv_at hl 1 rfl) ?_
      obtain ⟨hv1, h⟩ := ck_e h
      refine r_ast C hH ka_11 ko_11 (by decide) hw0 (vi_in hv1) dX8_add_27 (fun S2 H locs eS hH => ?_)
      replace h := lt_e h eS
      refine lv_aload_n hx hb dX8_add_28 rfl (lv_at hl 0 rfl) ?_
      refine lv_dup hx hb dX8_add_29 rfl ?_
      refine gf_X8_15 C hH hw0 dX8_add_30 ?_
      refine lv_iconst (v := (1 : Int32)) hx hb dX8_add_33 (by decide) ?_
      refine lv_iadd hx hb dX8_add_34 ?_
      refine pf_X8_15 C hH hw0 dX8_add_35 (fun S3 H locs eS hH => ?_)
      replace h := lt_e h eS
      exact E_void C hr hH h dX8_add_38
theorem c_X8_add (l : Launch) (g : gT) {w0 : Nat} {a1 : Int32} (hw0 : w0 < 2) {S : sT} {S1 : sT} (h : f_X8_add w0 a1 S = some S1) : MF l yX8_add cX8_add 2 none 1 g [.ref (gad g 1 w0), .int a1] S none S1 := by
  refine MF.of (own := RX8) rfl rfl (Nat.le_of_ble_eq_true rfl) ?_
  intro p e s m below meth c C hr hH ls hl
  exact w_X8_add C hr (o := S1) hw0 hH hl h
theorem nd_X8_isFull : yX8_isFull.cls ≠ "java/lang/invoke/MethodHandle" ∧ yX8_isFull.cls ≠ "java/lang/invoke/VarHandle" ∧ (parseMethodDescriptor yX8_isFull.desc).map (fun d => d.parameters.length) = some 0 := by decide +kernel
def f_X8_isFull (w0 : Nat) (S : sT) : Option (Int32) :=
 (if (S.1 103 w0 0) < (S.1 102 w0 0) then
 some (0 : Int32)
 else
 some (1 : Int32))
set_option maxHeartbeats 4000000 in
set_option maxRecDepth 100000 in
theorem w_X8_isFull (C : Cx p s m args meth c cX8_isFull 1 RX8 g) (hr : meth.sig.returnType = (some .boolean)) {o : Int32} {w0 : Nat} (hw0 : w0 < 2) {S : sT} {H : Heap} {locs : List Loc} {ls : Array Slot} (hH : Hp g s S H locs) (hl : lv_has ls 1 [(0, .ref (gad g 1 w0))]) (h : f_X8_isFull w0 S = some o) : W p l e (rmL 1) s m args below meth c H locs 0 0 (Qm g below args s (some (.int o)) S) (F0 m 0 ls []) := by
  obtain ⟨hx, hb, hml, hown, hts, hlk, hK⟩ := id C
  unfold f_X8_isFull at h
  refine lv_aload_n hx hb dX8_isFull_0 rfl (lv_at hl 0 rfl) ?_
  refine gf_X8_15 C hH hw0 dX8_isFull_1 ?_
  refine lv_aload_n hx hb dX8_isFull_4 rfl (lv_at hl 0 rfl) ?_
  refine gf_X8_25 C hH hw0 dX8_isFull_5 ?_
  refine lv_icmp_lt (tgt := 15) hx hb dX8_isFull_8 (by decide) (fun c1 => ?_) (fun c1 => ?_)
  · replace h := if_t h c1
    refine lv_iconst (v := (0 : Int32)) hx hb dX8_isFull_15 (by decide) ?_
    exact E_boolc C hr hH rfl h dX8_isFull_16
  · replace h := if_f h c1
    refine lv_iconst (v := (1 : Int32)) hx hb dX8_isFull_11 (by decide) ?_
    refine lv_goto (tgt := 16) hx hb dX8_isFull_12 (by decide) ?_
    exact E_boolc C hr hH rfl h dX8_isFull_16
theorem c_X8_isFull (l : Launch) (g : gT) {w0 : Nat} (hw0 : w0 < 2) {S : sT} {r : Int32} (h : f_X8_isFull w0 S = some r) : MF l yX8_isFull cX8_isFull 1 (some .boolean) 1 g [.ref (gad g 1 w0)] S (some (.int r)) S := by
  refine MF.of (own := RX8) rfl rfl (Nat.le_of_ble_eq_true rfl) ?_
  intro p e s m below meth c C hr hH ls hl
  exact w_X8_isFull C hr (o := r) hw0 hH hl h
theorem nd_X8_clear : yX8_clear.cls ≠ "java/lang/invoke/MethodHandle" ∧ yX8_clear.cls ≠ "java/lang/invoke/VarHandle" ∧ (parseMethodDescriptor yX8_clear.desc).map (fun d => d.parameters.length) = some 0 := by decide +kernel
def f_X8_clear (w0 : Nat) (S : sT) : Option (sT) :=
 lt (us S 103 w0 0 (0 : Int32)) (fun S1 =>
 some S1)
set_option maxHeartbeats 4000000 in
set_option maxRecDepth 100000 in
theorem w_X8_clear (C : Cx p s m args meth c cX8_clear 1 RX8 g) (hr : meth.sig.returnType = none) {o : sT} {w0 : Nat} (hw0 : w0 < 2) {S : sT} {H : Heap} {locs : List Loc} {ls : Array Slot} (hH : Hp g s S H locs) (hl : lv_has ls 1 [(0, .ref (gad g 1 w0))]) (h : f_X8_clear w0 S = some o) : W p l e (rmL 1) s m args below meth c H locs 0 0 (Qm g below args s none o) (F0 m 0 ls []) := by
  obtain ⟨hx, hb, hml, hown, hts, hlk, hK⟩ := id C
  unfold f_X8_clear at h
  refine lv_aload_n hx hb dX8_clear_0 rfl (lv_at hl 0 rfl) ?_
  refine lv_iconst (v := (0 : Int32)) hx hb dX8_clear_1 (by decide) ?_
  refine pf_X8_15 C hH hw0 dX8_clear_2 (fun S1 H locs eS hH => ?_)
  replace h := lt_e h eS
  exact E_void C hr hH h dX8_clear_5
theorem c_X8_clear (l : Launch) (g : gT) {w0 : Nat} (hw0 : w0 < 2) {S : sT} {S1 : sT} (h : f_X8_clear w0 S = some S1) : MF l yX8_clear cX8_clear 1 none 1 g [.ref (gad g 1 w0)] S none S1 := by
  refine MF.of (own := RX8) rfl rfl (Nat.le_of_ble_eq_true rfl) ?_
  intro p e s m below meth c C hr hH ls hl
  exact w_X8_clear C hr (o := S1) hw0 hH hl h
theorem nd_X8_cut : yX8_cut.cls ≠ "java/lang/invoke/MethodHandle" ∧ yX8_cut.cls ≠ "java/lang/invoke/VarHandle" ∧ (parseMethodDescriptor yX8_cut.desc).map (fun d => d.parameters.length) = some 0 := by decide +kernel
def f_X8_cut (w0 : Nat) (S : sT) : Option (sT) :=
 (if (S.1 103 w0 0) ≤ (0 : Int32) then
 some S
 else
 lt (us S 103 w0 0 ((S.1 103 w0 0) - (1 : Int32))) (fun S1 =>
 some S1))
set_option maxHeartbeats 4000000 in
set_option maxRecDepth 100000 in
theorem w_X8_cut (C : Cx p s m args meth c cX8_cut 1 RX8 g) (hr : meth.sig.returnType = none) {o : sT} {w0 : Nat} (hw0 : w0 < 2) {S : sT} {H : Heap} {locs : List Loc} {ls : Array Slot} (hH : Hp g s S H locs) (hl : lv_has ls 1 [(0, .ref (gad g 1 w0))]) (h : f_X8_cut w0 S = some o) : W p l e (rmL 1) s m args below meth c H locs 0 0 (Qm g below args s none o) (F0 m 0 ls []) := by
  obtain ⟨hx, hb, hml, hown, hts, hlk, hK⟩ := id C
  unfold f_X8_cut at h
  refine lv_aload_n hx hb dX8_cut_0 rfl (lv_at hl 0 rfl) ?_
  refine gf_X8_15 C hH hw0 dX8_cut_1 ?_
  refine lv_if_le (tgt := 17) hx hb dX8_cut_4 (by decide) (fun c2 => ?_) (fun c2 => ?_)
  · replace h := if_t h c2
    exact E_void C hr hH h dX8_cut_17
  · replace h := if_f h c2
    refine lv_aload_n hx hb dX8_cut_7 rfl (lv_at hl 0 rfl) ?_
    refine lv_dup hx hb dX8_cut_8 rfl ?_
    refine gf_X8_15 C hH hw0 dX8_cut_9 ?_
    refine lv_iconst (v := (1 : Int32)) hx hb dX8_cut_12 (by decide) ?_
    refine lv_isub hx hb dX8_cut_13 ?_
    refine pf_X8_15 C hH hw0 dX8_cut_14 (fun S1 H locs eS hH => ?_)
    replace h := lt_e h eS
    exact E_void C hr hH h dX8_cut_17
theorem c_X8_cut (l : Launch) (g : gT) {w0 : Nat} (hw0 : w0 < 2) {S : sT} {S1 : sT} (h : f_X8_cut w0 S = some S1) : MF l yX8_cut cX8_cut 1 none 1 g [.ref (gad g 1 w0)] S none S1 := by
  refine MF.of (own := RX8) rfl rfl (Nat.le_of_ble_eq_true rfl) ?_
  intro p e s m below meth c C hr hH ls hl
  exact w_X8_cut C hr (o := S1) hw0 hH hl h
theorem nd_X3_allows : yX3_allows.cls ≠ "java/lang/invoke/MethodHandle" ∧ yX3_allows.cls ≠ "java/lang/invoke/VarHandle" ∧ (parseMethodDescriptor yX3_allows.desc).map (fun d => d.parameters.length) = some 2 := by decide +kernel
def f_X3_allows (a1 : Int32) (a2 : Int32) (S : sT) : Option (Int32) :=
 (if a1 < (0 : Int32) then
 some (0 : Int32)
 else
 (if (6 : Int32) ≤ a1 then
 some (0 : Int32)
 else
 (if a2 < (0 : Int32) then
 some (0 : Int32)
 else
 ck (vi a1 6) (
 (if (mostV (cl a1)) < a2 then
 some (0 : Int32)
 else
 some (1 : Int32))))))
set_option maxHeartbeats 4000000 in
set_option maxRecDepth 100000 in
theorem w_X3_allows (C : Cx p s m args meth c cX3_allows 2 RX3 g) (hr : meth.sig.returnType = (some .boolean)) {o : Int32} {a1 : Int32} {a2 : Int32}  {S : sT} {H : Heap} {locs : List Loc} {ls : Array Slot} (hH : Hp g s S H locs) (hl : lv_has ls 2 [(0, .int a1), (1, .int a2)]) (h : f_X3_allows a1 a2 S = some o) : W p l e (rmL 1) s m args below meth c H locs 0 0 (Qm g below args s (some (.int o)) S) (F0 m 0 ls []) := by
  obtain ⟨hx, hb, hml, hown, hts, hlk, hK⟩ := id C
  unfold f_X3_allows at h
  refine lv_iload_n hx hb dX3_allows_0 rfl (lv_at hl 0 rfl) ?_
  refine lv_if_lt (tgt := 29) hx hb dX3_allows_1 (by decide) (fun c5 => ?_) (fun c5 => ?_)
  · replace h := if_t h c5
    refine lv_iconst (v := (0 : Int32)) hx hb dX3_allows_29 (by decide) ?_
    exact E_boolc C hr hH rfl h dX3_allows_30
  · replace h := if_f h c5
    refine lv_iload_n hx hb dX3_allows_4 rfl (lv_at hl 0 rfl) ?_
    refine r_gets C hH dX3_allows_5 ?_
    refine r_tlen C hH dX3_allows_8 ?_
    refine lv_icmp_ge (tgt := 29) hx hb dX3_allows_9 (by decide) (fun c4 => ?_) (fun c4 => ?_)
    · replace h := if_t h c4
      refine lv_iconst (v := (0 : Int32)) hx hb dX3_allows_29 (by decide) ?_
      exact E_boolc C hr hH rfl h dX3_allows_30
    · replace h := if_f h c4
      refine lv_iload_n hx hb dX3_allows_12 rfl (lv_at hl 1 rfl) ?_
      refine lv_if_lt (tgt := 29) hx hb dX3_allows_13 (by decide) (fun c3 => ?_) (fun c3 => ?_)
      · replace h := if_t h c3
        refine lv_iconst (v := (0 : Int32)) hx hb dX3_allows_29 (by decide) ?_
        exact E_boolc C hr hH rfl h dX3_allows_30
      · replace h := if_f h c3
        refine lv_iload_n hx hb dX3_allows_16 rfl (lv_at hl 1 rfl) ?_
        refine r_gets C hH dX3_allows_17 ?_
        refine lv_iload_n hx hb dX3_allows_20 rfl (lv_at hl 0 rfl) ?_
        obtain ⟨hv1, h⟩ := ck_e h
        refine r_tald C hH (vi_in hv1) dX3_allows_21 ?_
        refine lv_icmp_gt (tgt := 29) hx hb dX3_allows_22 (by decide) (fun c2 => ?_) (fun c2 => ?_)
        · replace h := if_t h c2
          refine lv_iconst (v := (0 : Int32)) hx hb dX3_allows_29 (by decide) ?_
          exact E_boolc C hr hH rfl h dX3_allows_30
        · replace h := if_f h c2
          refine lv_iconst (v := (1 : Int32)) hx hb dX3_allows_25 (by decide) ?_
          refine lv_goto (tgt := 30) hx hb dX3_allows_26 (by decide) ?_
          exact E_boolc C hr hH rfl h dX3_allows_30
theorem c_X3_allows (l : Launch) (g : gT) {a1 : Int32} {a2 : Int32}  {S : sT} {r : Int32} (h : f_X3_allows a1 a2 S = some r) : MF l yX3_allows cX3_allows 2 (some .boolean) 1 g [.int a1, .int a2] S (some (.int r)) S := by
  refine MF.of (own := RX3) rfl rfl (Nat.le_of_ble_eq_true rfl) ?_
  intro p e s m below meth c C hr hH ls hl
  exact w_X3_allows C hr (o := r)  hH hl h
theorem nd_X3_become : yX3_become.cls ≠ "java/lang/invoke/MethodHandle" ∧ yX3_become.cls ≠ "java/lang/invoke/VarHandle" ∧ (parseMethodDescriptor yX3_become.desc).map (fun d => d.parameters.length) = some 2 := by decide +kernel
def f_X3_become (a1 : Int32) (a2 : Int32) (S : sT) : Option (sT) :=
 bn (f_X3_allows a1 a2 S) (fun r2 =>
 (if r2 = (0 : Int32) then
 some S
 else
 (if (6 : Int32) ≤ a1 then
 some S
 else
 ck (vi a1 6) (
 lt (us S 12 0 (cl a1) a2) (fun S4 =>
 some S4)))))
set_option maxHeartbeats 4000000 in
set_option maxRecDepth 100000 in
theorem w_X3_become (C : Cx p s m args meth c cX3_become 3 RX3 g) (hr : meth.sig.returnType = none) {o : sT} {a1 : Int32} {a2 : Int32}  {S : sT} {H : Heap} {locs : List Loc} {ls : Array Slot} (hH : Hp g s S H locs) (hl : lv_has ls 3 [(0, .ref (gad g 2 0)), (1, .int a1), (2, .int a2)]) (h : f_X3_become a1 a2 S = some o) : W p l e (rmL 2) s m args below meth c H locs 0 0 (Qm g below args s none o) (F0 m 0 ls []) := by
  obtain ⟨hx, hb, hml, hown, hts, hlk, hK⟩ := id C
  unfold f_X3_become at h
  refine lv_iload_n hx hb dX3_become_0 rfl (lv_at hl 1 rfl) ?_
  refine lv_iload_n hx hb dX3_become_1 rfl (lv_at hl 2 rfl) ?_
  obtain ⟨r2, hc1, h⟩ := bn_e h
  refine r_callS1 (As := [.int a1, .int a2]) C hl.1 hH (c_X3_allows l g  hc1) q374 q19 q381 q373 nd_X3_allows rfl (by decide) ⟨Nat.zero_le _, Nat.zero_le _⟩ (Nat.le_of_ble_eq_true rfl) dX3_become_2 (fun H locs hH => ?_)
  refine lv_if_eq (tgt := 24) hx hb dX3_become_5 (by decide) (fun c6 => ?_) (fun c6 => ?_)
  · replace h := if_t h c6
    exact E_void C hr hH h dX3_become_24
  · replace h := if_f h c6
    refine lv_iload_n hx hb dX3_become_8 rfl (lv_at hl 1 rfl) ?_
    refine lv_aload_n hx hb dX3_become_9 rfl (lv_at hl 0 rfl) ?_
    refine gf_X3_7 C hH dX3_become_10 ?_
    refine r_alen C hH ka_12 (by decide) (by decide) (v := (6 : Int32)) (by decide) dX3_become_13 ?_
    refine lv_icmp_ge (tgt := 24) hx hb dX3_become_14 (by decide) (fun c5 => ?_) (fun c5 => ?_)
    · replace h := if_t h c5
      exact E_void C hr hH h dX3_become_24
    · replace h := if_f h c5
      refine lv_aload_n hx hb dX3_become_17 rfl (lv_at hl 0 rfl) ?_
      refine gf_X3_7 C hH dX3_become_18 ?_
      refine lv_iload_n hx hb dX3_become_21 rfl (lv_at hl 1 rfl) ?_
      refine lv_iload_n hx hb dX3_become_22 rfl (lv_at hl 2 rfl) ?_
      obtain ⟨hv3, h⟩ := ck_e h
      refine r_ast C hH ka_12 ko_12 (by decide) (by decide) (vi_in hv3) dX3_become_23 (fun S4 H locs eS hH => ?_)
      replace h := lt_e h eS
      exact E_void C hr hH h dX3_become_24
theorem c_X3_become (l : Launch) (g : gT) {a1 : Int32} {a2 : Int32}  {S : sT} {S1 : sT} (h : f_X3_become a1 a2 S = some S1) : MF l yX3_become cX3_become 3 none 2 g [.ref (gad g 2 0), .int a1, .int a2] S none S1 := by
  refine MF.of (own := RX3) rfl rfl (Nat.le_of_ble_eq_true rfl) ?_
  intro p e s m below meth c C hr hH ls hl
  exact w_X3_become C hr (o := S1)  hH hl h
theorem nd_X3_wantsSun : yX3_wantsSun.cls ≠ "java/lang/invoke/MethodHandle" ∧ yX3_wantsSun.cls ≠ "java/lang/invoke/VarHandle" ∧ (parseMethodDescriptor yX3_wantsSun.desc).map (fun d => d.parameters.length) = some 1 := by decide +kernel
def f_X3_wantsSun (a1 : Int32) (S : sT) : Option (Int32) :=
 bn (f_X3_value (5 : Int32) S) (fun r2 =>
 (if ((r2 >>> (a1 &&& 31)) &&& (1 : Int32)) = (1 : Int32) then
 some (1 : Int32)
 else
 some (0 : Int32)))
set_option maxHeartbeats 4000000 in
set_option maxRecDepth 100000 in
theorem w_X3_wantsSun (C : Cx p s m args meth c cX3_wantsSun 2 RX3 g) (hr : meth.sig.returnType = (some .boolean)) {o : Int32} {a1 : Int32}  {S : sT} {H : Heap} {locs : List Loc} {ls : Array Slot} (hH : Hp g s S H locs) (hl : lv_has ls 2 [(0, .ref (gad g 2 0)), (1, .int a1)]) (h : f_X3_wantsSun a1 S = some o) : W p l e (rmL 2) s m args below meth c H locs 0 0 (Qm g below args s (some (.int o)) S) (F0 m 0 ls []) := by
  obtain ⟨hx, hb, hml, hown, hts, hlk, hK⟩ := id C
  unfold f_X3_wantsSun at h
  refine lv_aload_n hx hb dX3_wantsSun_0 rfl (lv_at hl 0 rfl) ?_
  refine lv_iconst (v := (5 : Int32)) hx hb dX3_wantsSun_1 (by decide) ?_
  obtain ⟨r2, hc1, h⟩ := bn_e h
  refine r_callV1 (ki := 2) (i := 0) (ci := 3) (As := [.int (5 : Int32)]) C hl.1 hH (c_X3_value l g  hc1) q270 q19 q267 q268 q269 nd_X3_value rfl (by decide) ⟨Nat.zero_le _, Nat.zero_le _⟩ (by decide) (by decide) ⟨_, rfl⟩ rfl (Nat.le_of_ble_eq_true rfl) dX3_wantsSun_2 (fun H locs hH => ?_)
  refine lv_iload_n hx hb dX3_wantsSun_5 rfl (lv_at hl 1 rfl) ?_
  refine lv_ishr hx hb dX3_wantsSun_6 ?_
  refine lv_iconst (v := (1 : Int32)) hx hb dX3_wantsSun_7 (by decide) ?_
  refine lv_iand hx hb dX3_wantsSun_8 ?_
  refine lv_iconst (v := (1 : Int32)) hx hb dX3_wantsSun_9 (by decide) ?_
  refine lv_icmp_ne (tgt := 17) hx hb dX3_wantsSun_10 (by decide) (fun c3 => ?_) (fun c3 => ?_)
  · replace h := if_f h c3
    refine lv_iconst (v := (0 : Int32)) hx hb dX3_wantsSun_17 (by decide) ?_
    exact E_boolc C hr hH rfl h dX3_wantsSun_18
  · replace h := if_t h c3
    refine lv_iconst (v := (1 : Int32)) hx hb dX3_wantsSun_13 (by decide) ?_
    refine lv_goto (tgt := 18) hx hb dX3_wantsSun_14 (by decide) ?_
    exact E_boolc C hr hH rfl h dX3_wantsSun_18
theorem c_X3_wantsSun (l : Launch) (g : gT) {a1 : Int32}  {S : sT} {r : Int32} (h : f_X3_wantsSun a1 S = some r) : MF l yX3_wantsSun cX3_wantsSun 2 (some .boolean) 2 g [.ref (gad g 2 0), .int a1] S (some (.int r)) S := by
  refine MF.of (own := RX3) rfl rfl (Nat.le_of_ble_eq_true rfl) ?_
  intro p e s m below meth c C hr hH ls hl
  exact w_X3_wantsSun C hr (o := r)  hH hl h
theorem nd_X3_mostAbove : yX3_mostAbove.cls ≠ "java/lang/invoke/MethodHandle" ∧ yX3_mostAbove.cls ≠ "java/lang/invoke/VarHandle" ∧ (parseMethodDescriptor yX3_mostAbove.desc).map (fun d => d.parameters.length) = some 0 := by decide +kernel
def f_X3_mostAbove  (S : sT) : Option (Int32) :=
 ck (vi (1 : Int32) 6) (
 ck (vi (2 : Int32) 6) (
 some ((S.1 12 0 (cl (1 : Int32))) - (S.1 12 0 (cl (2 : Int32))))))
set_option maxHeartbeats 4000000 in
set_option maxRecDepth 100000 in
theorem w_X3_mostAbove (C : Cx p s m args meth c cX3_mostAbove 1 RX3 g) (hr : meth.sig.returnType = (some .int)) {o : Int32}   {S : sT} {H : Heap} {locs : List Loc} {ls : Array Slot} (hH : Hp g s S H locs) (hl : lv_has ls 1 [(0, .ref (gad g 2 0))]) (h : f_X3_mostAbove  S = some o) : W p l e (rmL 1) s m args below meth c H locs 0 0 (Qm g below args s (some (.int o)) S) (F0 m 0 ls []) := by
  obtain ⟨hx, hb, hml, hown, hts, hlk, hK⟩ := id C
  unfold f_X3_mostAbove at h
  refine lv_aload_n hx hb dX3_mostAbove_0 rfl (lv_at hl 0 rfl) ?_
  refine gf_X3_7 C hH dX3_mostAbove_1 ?_
  refine lv_iconst (v := (1 : Int32)) hx hb dX3_mostAbove_4 (by decide) ?_
  obtain ⟨hv1, h⟩ := ck_e h
  refine r_ald C hH ka_12 (by decide) (by decide) (vi_in hv1) dX3_mostAbove_5 ?_
  refine lv_aload_n hx hb dX3_mostAbove_6 rfl (lv_at hl 0 rfl) ?_
  refine gf_X3_7 C hH dX3_mostAbove_7 ?_
  refine lv_iconst (v := (2 : Int32)) hx hb dX3_mostAbove_10 (by decide) ?_
  obtain ⟨hv2, h⟩ := ck_e h
  refine r_ald C hH ka_12 (by decide) (by decide) (vi_in hv2) dX3_mostAbove_11 ?_
  refine lv_isub hx hb dX3_mostAbove_12 ?_
  exact E_intc C hr hH h dX3_mostAbove_13
theorem c_X3_mostAbove (l : Launch) (g : gT)   {S : sT} {r : Int32} (h : f_X3_mostAbove  S = some r) : MF l yX3_mostAbove cX3_mostAbove 1 (some .int) 1 g [.ref (gad g 2 0)] S (some (.int r)) S := by
  refine MF.of (own := RX3) rfl rfl (Nat.le_of_ble_eq_true rfl) ?_
  intro p e s m below meth c C hr hH ls hl
  exact w_X3_mostAbove C hr (o := r)  hH hl h
end G11
