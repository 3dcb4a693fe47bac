section G16
variable {p : Program} {l : Launch} {e : Env} {s : State} {m : MethodId} {args : Array Value} {below : List Frame} {meth : Method} {c : Code} {g : gT}
theorem nd_X5_find : yX5_find.cls ≠ "java/lang/invoke/MethodHandle" ∧ yX5_find.cls ≠ "java/lang/invoke/VarHandle" ∧ (parseMethodDescriptor yX5_find.desc).map (fun d => d.parameters.length) = some 1 := by decide +kernel
def f_X5_find (a1 : Int32) (S : sT) : Option (Int32 × sT) :=
 lt (us S 111 0 0 a1) (fun S1 =>
 some (((-10 : Int32) - a1), S1))
set_option maxHeartbeats 4000000 in
set_option maxRecDepth 100000 in
theorem w_X5_find (C : Cx p s m args meth c cX5_find 2 RX5 g) (hr : meth.sig.returnType = (some .int)) {o : Int32 × sT} {a1 : Int32}  {S : sT} {H : Heap} {locs : List Loc} {ls : Array Slot} (hH : Hp g s S H locs) (hl : lv_has ls 2 [(0, .ref (gad g 8 0)), (1, .int a1)]) (h : f_X5_find a1 S = some o) : W p l e (rmL 1) s m args below meth c H locs 0 0 (Qm g below args s (some (.int o.1)) o.2) (F0 m 0 ls []) := by
  obtain ⟨hx, hb, hml, hown, hts, hlk, hK⟩ := id C
  unfold f_X5_find at h
  refine lv_aload_n hx hb dX5_find_0 rfl (lv_at hl 0 rfl) ?_
  refine lv_iload_n hx hb dX5_find_1 rfl (lv_at hl 1 rfl) ?_
  refine pf_X5_23 C hH dX5_find_2 (fun S1 H locs eS hH => ?_)
  replace h := lt_e h eS
  refine lv_bipush (v := (-10 : Int32)) hx hb dX5_find_5 (by decide) ?_
  refine lv_iload_n hx hb dX5_find_7 rfl (lv_at hl 1 rfl) ?_
  refine lv_isub hx hb dX5_find_8 ?_
  exact E_int C hr hH h dX5_find_9
theorem c_X5_find (l : Launch) (g : gT) {a1 : Int32}  {S : sT} {r : Int32} {S1 : sT} (h : f_X5_find a1 S = some (r, S1)) : MF l yX5_find cX5_find 2 (some .int) 1 g [.ref (gad g 8 0), .int a1] S (some (.int r)) S1 := by
  refine MF.of (own := RX5) rfl rfl (Nat.le_of_ble_eq_true rfl) ?_
  intro p e s m below meth c C hr hH ls hl
  exact w_X5_find C hr (o := (r, S1))  hH hl h
theorem nd_X5_isSheet : yX5_isSheet.cls ≠ "java/lang/invoke/MethodHandle" ∧ yX5_isSheet.cls ≠ "java/lang/invoke/VarHandle" ∧ (parseMethodDescriptor yX5_isSheet.desc).map (fun d => d.parameters.length) = some 1 := by decide +kernel
def f_X5_isSheet (a1 : Int32) (S : sT) : Option (Int32) :=
 (if a1 < (0 : Int32) then
 some (0 : Int32)
 else
 (if (4 : Int32) ≤ a1 then
 some (0 : Int32)
 else
 some (1 : Int32)))
set_option maxHeartbeats 4000000 in
set_option maxRecDepth 100000 in
theorem w_X5_isSheet (C : Cx p s m args meth c cX5_isSheet 1 RX5 g) (hr : meth.sig.returnType = (some .boolean)) {o : Int32} {a1 : Int32}  {S : sT} {H : Heap} {locs : List Loc} {ls : Array Slot} (hH : Hp g s S H locs) (hl : lv_has ls 1 [(0, .int a1)]) (h : f_X5_isSheet a1 S = some o) : W p l e (rmL 1) s m args below meth c H locs 0 0 (Qm g below args s (some (.int o)) S) (F0 m 0 ls []) := by
  obtain ⟨hx, hb, hml, hown, hts, hlk, hK⟩ := id C
  unfold f_X5_isSheet at h
  refine lv_iload_n hx hb dX5_isSheet_0 rfl (lv_at hl 0 rfl) ?_
  refine lv_if_lt (tgt := 13) hx hb dX5_isSheet_1 (by decide) (fun c2 => ?_) (fun c2 => ?_)
  · replace h := if_t h c2
    refine lv_iconst (v := (0 : Int32)) hx hb dX5_isSheet_13 (by decide) ?_
    exact E_boolc C hr hH rfl h dX5_isSheet_14
  · replace h := if_f h c2
    refine lv_iload_n hx hb dX5_isSheet_4 rfl (lv_at hl 0 rfl) ?_
    refine lv_iconst (v := (4 : Int32)) hx hb dX5_isSheet_5 (by decide) ?_
    refine lv_icmp_ge (tgt := 13) hx hb dX5_isSheet_6 (by decide) (fun c1 => ?_) (fun c1 => ?_)
    · replace h := if_t h c1
      refine lv_iconst (v := (0 : Int32)) hx hb dX5_isSheet_13 (by decide) ?_
      exact E_boolc C hr hH rfl h dX5_isSheet_14
    · replace h := if_f h c1
      refine lv_iconst (v := (1 : Int32)) hx hb dX5_isSheet_9 (by decide) ?_
      refine lv_goto (tgt := 14) hx hb dX5_isSheet_10 (by decide) ?_
      exact E_boolc C hr hH rfl h dX5_isSheet_14
theorem c_X5_isSheet (l : Launch) (g : gT) {a1 : Int32}  {S : sT} {r : Int32} (h : f_X5_isSheet a1 S = some r) : MF l yX5_isSheet cX5_isSheet 1 (some .boolean) 1 g [.int a1] S (some (.int r)) S := by
  refine MF.of (own := RX5) rfl rfl (Nat.le_of_ble_eq_true rfl) ?_
  intro p e s m below meth c C hr hH ls hl
  exact w_X5_isSheet C hr (o := r)  hH hl h
theorem nd_X5_isLost : yX5_isLost.cls ≠ "java/lang/invoke/MethodHandle" ∧ yX5_isLost.cls ≠ "java/lang/invoke/VarHandle" ∧ (parseMethodDescriptor yX5_isLost.desc).map (fun d => d.parameters.length) = some 1 := by decide +kernel
def f_X5_isLost (a1 : Int32) (S : sT) : Option (Int32) :=
 bn (f_X5_isSheet a1 S) (fun r2 =>
 jn (some (1 : Int32))
 (fun j3 => (if r2 = (0 : Int32) then
 j3
 else
 ck (vi a1 4) (
 (if (S.1 28 0 (cl a1)) = (-1 : Int32) then
 j3
 else
 some (0 : Int32))))))
set_option maxHeartbeats 4000000 in
set_option maxRecDepth 100000 in
theorem w_X5_isLost (C : Cx p s m args meth c cX5_isLost 2 RX5 g) (hr : meth.sig.returnType = (some .boolean)) {o : Int32} {a1 : Int32}  {S : sT} {H : Heap} {locs : List Loc} {ls : Array Slot} (hH : Hp g s S H locs) (hl : lv_has ls 2 [(0, .ref (gad g 8 0)), (1, .int a1)]) (h : f_X5_isLost a1 S = some o) : W p l e (rmL 2) s m args below meth c H locs 0 0 (Qm g below args s (some (.int o)) S) (F0 m 0 ls []) := by
  obtain ⟨hx, hb, hml, hown, hts, hlk, hK⟩ := id C
  unfold f_X5_isLost at h
  refine lv_iload_n hx hb dX5_isLost_0 rfl (lv_at hl 1 rfl) ?_
  obtain ⟨r2, hc1, h⟩ := bn_e h
  refine r_callS1 (As := [.int a1]) C hl.1 hH (c_X5_isSheet l g  hc1) q779 q43 q784 q778 nd_X5_isSheet rfl (by decide) ⟨Nat.zero_le _, Nat.zero_le _⟩ (Nat.le_of_ble_eq_true rfl) dX5_isLost_1 (fun H locs hH => ?_)
  obtain ⟨j3, ej3, h⟩ := jn_e h
  have hj3 : ∀  (H : Heap) (locs : List Loc) (ls : Array Slot), Hp g s S H locs → lv_has ls 2 [] → j3  = some o → W p l e (rmL 2) s m args below meth c H locs 0 0 (Qm g below args s (some (.int o)) S) (F0 m 17 ls []) := by
    intro  H locs ls hH hl h
    rw [ej3] at h
    try dsimp only at h
    refine lv_iconst (v := (1 : Int32)) hx hb dX5_isLost_17 (by decide) ?_
    refine lv_goto (tgt := 22) hx hb dX5_isLost_18 (by decide) ?_
    exact E_boolc C hr hH rfl h dX5_isLost_22
  clear ej3
  refine lv_if_eq (tgt := 17) hx hb dX5_isLost_4 (by decide) (fun c6 => ?_) (fun c6 => ?_)
  · replace h := if_t h c6
    exact hj3 _ _ _ hH (lv_sub hl [] rfl) h
  · replace h := if_f h c6
    refine lv_aload_n hx hb dX5_isLost_7 rfl (lv_at hl 0 rfl) ?_
    refine gf_X5_20 C hH dX5_isLost_8 ?_
    refine lv_iload_n hx hb dX5_isLost_11 rfl (lv_at hl 1 rfl) ?_
    obtain ⟨hv4, h⟩ := ck_e h
    refine r_ald C hH ka_28 (by decide) (by decide) (vi_in hv4) dX5_isLost_12 ?_
    refine lv_iconst (v := (-1 : Int32)) hx hb dX5_isLost_13 (by decide) ?_
    refine lv_icmp_ne (tgt := 21) hx hb dX5_isLost_14 (by decide) (fun c5 => ?_) (fun c5 => ?_)
    · replace h := if_f h c5
      refine lv_iconst (v := (0 : Int32)) hx hb dX5_isLost_21 (by decide) ?_
      exact E_boolc C hr hH rfl h dX5_isLost_22
    · replace h := if_t h c5
      exact hj3 _ _ _ hH (lv_sub hl [] rfl) h
theorem c_X5_isLost (l : Launch) (g : gT) {a1 : Int32}  {S : sT} {r : Int32} (h : f_X5_isLost a1 S = some r) : MF l yX5_isLost cX5_isLost 2 (some .boolean) 2 g [.ref (gad g 8 0), .int a1] S (some (.int r)) S := by
  refine MF.of (own := RX5) rfl rfl (Nat.le_of_ble_eq_true rfl) ?_
  intro p e s m below meth c C hr hH ls hl
  exact w_X5_isLost C hr (o := r)  hH hl h
theorem nd_X5_sizeOf : yX5_sizeOf.cls ≠ "java/lang/invoke/MethodHandle" ∧ yX5_sizeOf.cls ≠ "java/lang/invoke/VarHandle" ∧ (parseMethodDescriptor yX5_sizeOf.desc).map (fun d => d.parameters.length) = some 1 := by decide +kernel
def f_X5_sizeOf (a1 : Int32) (S : sT) : Option (Int32) :=
 bn (f_X5_isLost a1 S) (fun r2 =>
 (if r2 = (0 : Int32) then
 ck (vi a1 4) (
 some (S.1 28 0 (cl a1)))
 else
 some (0 : Int32)))
set_option maxHeartbeats 4000000 in
set_option maxRecDepth 100000 in
theorem w_X5_sizeOf (C : Cx p s m args meth c cX5_sizeOf 2 RX5 g) (hr : meth.sig.returnType = (some .int)) {o : Int32} {a1 : Int32}  {S : sT} {H : Heap} {locs : List Loc} {ls : Array Slot} (hH : Hp g s S H locs) (hl : lv_has ls 2 [(0, .ref (gad g 8 0)), (1, .int a1)]) (h : f_X5_sizeOf a1 S = some o) : W p l e (rmL 3) s m args below meth c H locs 0 0 (Qm g below args s (some (.int o)) S) (F0 m 0 ls []) := by
  obtain ⟨hx, hb, hml, hown, hts, hlk, hK⟩ := id C
  unfold f_X5_sizeOf at h
  refine lv_aload_n hx hb dX5_sizeOf_0 rfl (lv_at hl 0 rfl) ?_
  refine lv_iload_n hx hb dX5_sizeOf_1 rfl (lv_at hl 1 rfl) ?_
  obtain ⟨r2, hc1, h⟩ := bn_e h
  refine r_callV1 (ki := 8) (i := 0) (ci := 5) (As := [.int a1]) C hl.1 hH (c_X5_isLost l g  hc1) q783 q43 q793 q781 q782 nd_X5_isLost rfl (by decide) ⟨Nat.zero_le _, Nat.zero_le _⟩ (by decide) (by decide) ⟨_, rfl⟩ rfl (Nat.le_of_ble_eq_true rfl) dX5_sizeOf_2 (fun H locs hH => ?_)
  refine lv_if_eq (tgt := 12) hx hb dX5_sizeOf_5 (by decide) (fun c4 => ?_) (fun c4 => ?_)
  · replace h := if_t h c4
    refine lv_aload_n hx hb dX5_sizeOf_12 rfl (lv_at hl 0 rfl) ?_
    refine gf_X5_20 C hH dX5_sizeOf_13 ?_
    refine lv_iload_n hx hb dX5_sizeOf_16 rfl (lv_at hl 1 rfl) ?_
    obtain ⟨hv3, h⟩ := ck_e h
    refine r_ald C hH ka_28 (by decide) (by decide) (vi_in hv3) dX5_sizeOf_17 ?_
    exact E_intc C hr hH h dX5_sizeOf_18
  · replace h := if_f h c4
    refine lv_iconst (v := (0 : Int32)) hx hb dX5_sizeOf_8 (by decide) ?_
    refine lv_goto (tgt := 18) hx hb dX5_sizeOf_9 (by decide) ?_
    exact E_intc C hr hH h dX5_sizeOf_18
theorem c_X5_sizeOf (l : Launch) (g : gT) {a1 : Int32}  {S : sT} {r : Int32} (h : f_X5_sizeOf a1 S = some r) : MF l yX5_sizeOf cX5_sizeOf 2 (some .int) 3 g [.ref (gad g 8 0), .int a1] S (some (.int r)) S := by
  refine MF.of (own := RX5) rfl rfl (Nat.le_of_ble_eq_true rfl) ?_
  intro p e s m below meth c C hr hH ls hl
  exact w_X5_sizeOf C hr (o := r)  hH hl h
theorem nd_X5_isItem : yX5_isItem.cls ≠ "java/lang/invoke/MethodHandle" ∧ yX5_isItem.cls ≠ "java/lang/invoke/VarHandle" ∧ (parseMethodDescriptor yX5_isItem.desc).map (fun d => d.parameters.length) = some 2 := by decide +kernel
def f_X5_isItem (a1 : Int32) (a2 : Int32) (S : sT) : Option (Int32) :=
 (if a2 < (0 : Int32) then
 some (0 : Int32)
 else
 bn (f_X5_sizeOf a1 S) (fun r2 =>
 (if r2 ≤ a2 then
 some (0 : Int32)
 else
 (if (60 : Int32) ≤ a2 then
 some (0 : Int32)
 else
 some (1 : Int32)))))
set_option maxHeartbeats 4000000 in
set_option maxRecDepth 100000 in
theorem w_X5_isItem (C : Cx p s m args meth c cX5_isItem 3 RX5 g) (hr : meth.sig.returnType = (some .boolean)) {o : Int32} {a1 : Int32} {a2 : Int32}  {S : sT} {H : Heap} {locs : List Loc} {ls : Array Slot} (hH : Hp g s S H locs) (hl : lv_has ls 3 [(0, .ref (gad g 8 0)), (1, .int a1), (2, .int a2)]) (h : f_X5_isItem a1 a2 S = some o) : W p l e (rmL 4) s m args below meth c H locs 0 0 (Qm g below args s (some (.int o)) S) (F0 m 0 ls []) := by
  obtain ⟨hx, hb, hml, hown, hts, hlk, hK⟩ := id C
  unfold f_X5_isItem at h
  refine lv_iload_n hx hb dX5_isItem_0 rfl (lv_at hl 2 rfl) ?_
  refine lv_if_lt (tgt := 23) hx hb dX5_isItem_1 (by decide) (fun c5 => ?_) (fun c5 => ?_)
  · replace h := if_t h c5
    refine lv_iconst (v := (0 : Int32)) hx hb dX5_isItem_23 (by decide) ?_
    exact E_boolc C hr hH rfl h dX5_isItem_24
  · replace h := if_f h c5
    refine lv_iload_n hx hb dX5_isItem_4 rfl (lv_at hl 2 rfl) ?_
    refine lv_aload_n hx hb dX5_isItem_5 rfl (lv_at hl 0 rfl) ?_
    refine lv_iload_n hx hb dX5_isItem_6 rfl (lv_at hl 1 rfl) ?_
    obtain ⟨r2, hc1, h⟩ := bn_e h
    refine r_callV1 (ki := 8) (i := 0) (ci := 5) (As := [.int a1]) C hl.1 hH (c_X5_sizeOf l g  hc1) q792 q43 q802 q790 q791 nd_X5_sizeOf rfl (by decide) ⟨Nat.zero_le _, Nat.zero_le _⟩ (by decide) (by decide) ⟨_, rfl⟩ rfl (Nat.le_of_ble_eq_true rfl) dX5_isItem_7 (fun H locs hH => ?_)
    refine lv_icmp_ge (tgt := 23) hx hb dX5_isItem_10 (by decide) (fun c4 => ?_) (fun c4 => ?_)
    · replace h := if_t h c4
      refine lv_iconst (v := (0 : Int32)) hx hb dX5_isItem_23 (by decide) ?_
      exact E_boolc C hr hH rfl h dX5_isItem_24
    · replace h := if_f h c4
      refine lv_iload_n hx hb dX5_isItem_13 rfl (lv_at hl 2 rfl) ?_
      refine lv_bipush (v := (60 : Int32)) hx hb dX5_isItem_14 (by decide) ?_
      refine lv_icmp_ge (tgt := 23) hx hb dX5_isItem_16 (by decide) (fun c3 => ?_) (fun c3 => ?_)
      · replace h := if_t h c3
        refine lv_iconst (v := (0 : Int32)) hx hb dX5_isItem_23 (by decide) ?_
        exact E_boolc C hr hH rfl h dX5_isItem_24
      · replace h := if_f h c3
        refine lv_iconst (v := (1 : Int32)) hx hb dX5_isItem_19 (by decide) ?_
        refine lv_goto (tgt := 24) hx hb dX5_isItem_20 (by decide) ?_
        exact E_boolc C hr hH rfl h dX5_isItem_24
theorem c_X5_isItem (l : Launch) (g : gT) {a1 : Int32} {a2 : Int32}  {S : sT} {r : Int32} (h : f_X5_isItem a1 a2 S = some r) : MF l yX5_isItem cX5_isItem 3 (some .boolean) 4 g [.ref (gad g 8 0), .int a1, .int a2] S (some (.int r)) S := by
  refine MF.of (own := RX5) rfl rfl (Nat.le_of_ble_eq_true rfl) ?_
  intro p e s m below meth c C hr hH ls hl
  exact w_X5_isItem C hr (o := r)  hH hl h
theorem nd_X5_itemAt : yX5_itemAt.cls ≠ "java/lang/invoke/MethodHandle" ∧ yX5_itemAt.cls ≠ "java/lang/invoke/VarHandle" ∧ (parseMethodDescriptor yX5_itemAt.desc).map (fun d => d.parameters.length) = some 2 := by decide +kernel
def f_X5_itemAt (a1 : Int32) (a2 : Int32) (S : sT) : Option (Int32) :=
 bn (f_X5_isItem a1 a2 S) (fun r2 =>
 (if r2 = (0 : Int32) then
 some (0 : Int32)
 else
 ck (vi a1 4) (
 lt (cl a1) (fun w4 =>
 ck (vi a2 60) (
 some (S.1 26 w4 (cl a2)))))))
set_option maxHeartbeats 4000000 in
set_option maxRecDepth 100000 in
theorem w_X5_itemAt (C : Cx p s m args meth c cX5_itemAt 3 RX5 g) (hr : meth.sig.returnType = (some .int)) {o : Int32} {a1 : Int32} {a2 : Int32}  {S : sT} {H : Heap} {locs : List Loc} {ls : Array Slot} (hH : Hp g s S H locs) (hl : lv_has ls 3 [(0, .ref (gad g 8 0)), (1, .int a1), (2, .int a2)]) (h : f_X5_itemAt a1 a2 S = some o) : W p l e (rmL 5) s m args below meth c H locs 0 0 (Qm g below args s (some (.int o)) S) (F0 m 0 ls []) := by
  obtain ⟨hx, hb, hml, hown, hts, hlk, hK⟩ := id C
  unfold f_X5_itemAt at h
  refine lv_aload_n hx hb dX5_itemAt_0 rfl (lv_at hl 0 rfl) ?_
  refine lv_iload_n hx hb dX5_itemAt_1 rfl (lv_at hl 1 rfl) ?_
  refine lv_iload_n hx hb dX5_itemAt_2 rfl (lv_at hl 2 rfl) ?_
  obtain ⟨r2, hc1, h⟩ := bn_e h
  refine r_callV1 (ki := 8) (i := 0) (ci := 5) (As := [.int a1, .int a2]) C hl.1 hH (c_X5_isItem l g  hc1) q801 q43 q798 q799 q800 nd_X5_isItem rfl (by decide) ⟨Nat.zero_le _, Nat.zero_le _⟩ (by decide) (by decide) ⟨_, rfl⟩ rfl (Nat.le_of_ble_eq_true rfl) dX5_itemAt_3 (fun H locs hH => ?_)
  refine lv_if_eq (tgt := 20) hx hb dX5_itemAt_6 (by decide) (fun c6 => ?_) (fun c6 => ?_)
  · replace h := if_t h c6
    refine lv_iconst (v := (0 : Int32)) hx hb dX5_itemAt_20 (by decide) ?_
    exact E_intc C hr hH h dX5_itemAt_21
  · replace h := if_f h c6
    refine lv_aload_n hx hb dX5_itemAt_9 rfl (lv_at hl 0 rfl) ?_
    refine gf_X5_13 C hH dX5_itemAt_10 ?_
    refine lv_iload_n hx hb dX5_itemAt_13 rfl (lv_at hl 1 rfl) ?_
    obtain ⟨hv3, h⟩ := ck_e h
    refine r_aaldw C hH ka_25 (t := 2) (fun _ => rfl) rfl (by decide) (by decide) (vi_in hv3) dX5_itemAt_14 (fun w4 ew4 => ?_)
    have hw4 : w4 < 4 := by rw [ew4]; exact Nat.lt_of_lt_of_le (vi_lt hv3) (by decide)
    replace h := lt_e h ew4
    refine lv_iload_n hx hb dX5_itemAt_15 rfl (lv_at hl 2 rfl) ?_
    obtain ⟨hv5, h⟩ := ck_e h
    refine r_ald C hH ka_26 (by decide) hw4 (vi_in hv5) dX5_itemAt_16 ?_
    refine lv_goto (tgt := 21) hx hb dX5_itemAt_17 (by decide) ?_
    exact E_intc C hr hH h dX5_itemAt_21
theorem c_X5_itemAt (l : Launch) (g : gT) {a1 : Int32} {a2 : Int32}  {S : sT} {r : Int32} (h : f_X5_itemAt a1 a2 S = some r) : MF l yX5_itemAt cX5_itemAt 3 (some .int) 5 g [.ref (gad g 8 0), .int a1, .int a2] S (some (.int r)) S := by
  refine MF.of (own := RX5) rfl rfl (Nat.le_of_ble_eq_true rfl) ?_
  intro p e s m below meth c C hr hH ls hl
  exact w_X5_itemAt C hr (o := r)  hH hl h
theorem nd_X5_isForm : yX5_isForm.cls ≠ "java/lang/invoke/MethodHandle" ∧ yX5_isForm.cls ≠ "java/lang/invoke/VarHandle" ∧ (parseMethodDescriptor yX5_isForm.desc).map (fun d => d.parameters.length) = some 1 := by decide +kernel
def f_X5_isForm (a1 : Int32) (S : sT) : Option (Int32) :=
 (if a1 < (0 : Int32) then
 some (0 : Int32)
 else
 (if (2 : Int32) < a1 then
 some (0 : Int32)
 else
 some (1 : Int32)))
set_option maxHeartbeats 4000000 in
set_option maxRecDepth 100000 in
theorem w_X5_isForm (C : Cx p s m args meth c cX5_isForm 1 RX5 g) (hr : meth.sig.returnType = (some .boolean)) {o : Int32} {a1 : Int32}  {S : sT} {H : Heap} {locs : List Loc} {ls : Array Slot} (hH : Hp g s S H locs) (hl : lv_has ls 1 [(0, .int a1)]) (h : f_X5_isForm a1 S = some o) : W p l e (rmL 1) s m args below meth c H locs 0 0 (Qm g below args s (some (.int o)) S) (F0 m 0 ls []) := by
  obtain ⟨hx, hb, hml, hown, hts, hlk, hK⟩ := id C
  unfold f_X5_isForm at h
  refine lv_iload_n hx hb dX5_isForm_0 rfl (lv_at hl 0 rfl) ?_
  refine lv_if_lt (tgt := 13) hx hb dX5_isForm_1 (by decide) (fun c2 => ?_) (fun c2 => ?_)
  · replace h := if_t h c2
    refine lv_iconst (v := (0 : Int32)) hx hb dX5_isForm_13 (by decide) ?_
    exact E_boolc C hr hH rfl h dX5_isForm_14
  · replace h := if_f h c2
    refine lv_iload_n hx hb dX5_isForm_4 rfl (lv_at hl 0 rfl) ?_
    refine lv_iconst (v := (2 : Int32)) hx hb dX5_isForm_5 (by decide) ?_
    refine lv_icmp_gt (tgt := 13) hx hb dX5_isForm_6 (by decide) (fun c1 => ?_) (fun c1 => ?_)
    · replace h := if_t h c1
      refine lv_iconst (v := (0 : Int32)) hx hb dX5_isForm_13 (by decide) ?_
      exact E_boolc C hr hH rfl h dX5_isForm_14
    · replace h := if_f h c1
      refine lv_iconst (v := (1 : Int32)) hx hb dX5_isForm_9 (by decide) ?_
      refine lv_goto (tgt := 14) hx hb dX5_isForm_10 (by decide) ?_
      exact E_boolc C hr hH rfl h dX5_isForm_14
theorem c_X5_isForm (l : Launch) (g : gT) {a1 : Int32}  {S : sT} {r : Int32} (h : f_X5_isForm a1 S = some r) : MF l yX5_isForm cX5_isForm 1 (some .boolean) 1 g [.int a1] S (some (.int r)) S := by
  refine MF.of (own := RX5) rfl rfl (Nat.le_of_ble_eq_true rfl) ?_
  intro p e s m below meth c C hr hH ls hl
  exact w_X5_isForm C hr (o := r)  hH hl h
theorem nd_X5_make : yX5_make.cls ≠ "java/lang/invoke/MethodHandle" ∧ yX5_make.cls ≠ "java/lang/invoke/VarHandle" ∧ (parseMethodDescriptor yX5_make.desc).map (fun d => d.parameters.length) = some 3 := by decide +kernel
def b_X5_make_42 (a1 : Int32) (x9 : Int32) (S10 : sT) (k11 : Int32 → sT → Option (sT)) : Option (sT) :=
 (if (60 : Int32) ≤ x9 then
 some S10
 else
 ck (vi a1 4) (
 lt (cl a1) (fun w13 =>
 ck (vi x9 60) (
 lt (us S10 26 w13 (cl x9) (0 : Int32)) (fun S15 =>
 lt (x9 + (1 : Int32)) (fun x16 =>
 k11 x16 S15))))))
def l_X5_make_42 (a1 : Int32) : Nat → Int32 → sT → Option (sT)
 | 0, _, _ => none
 | n + 1, x9, S10 => b_X5_make_42 a1 x9 S10 (l_X5_make_42 a1 n)
theorem l_X5_make_42_s (a1 : Int32) (n : Nat) (x9 : Int32) (S10 : sT) : l_X5_make_42 a1 (n + 1) x9 S10 = b_X5_make_42 a1 x9 S10 (l_X5_make_42 a1 n) := rfl
def f_X5_make (a1 : Int32) (a2 : Int32) (a3 : Int32) (S : sT) : Option (sT) :=
 bn (f_X5_isSheet a1 S) (fun r2 =>
 (if r2 = (0 : Int32) then
 some S
 else
 bn (f_X5_isForm a2 S) (fun r4 =>
 (if r4 = (0 : Int32) then
 some S
 else
 (if a3 < (0 : Int32) then
 some S
 else
 (if a3 ≤ (60 : Int32) then
 ck (vi a1 4) (
 lt (us S 27 0 (cl a1) a2) (fun S6 =>
 ck (vi a1 4) (
 lt (us S6 28 0 (cl a1) a3) (fun S8 =>
 l_X5_make_42 a1 FU (0 : Int32) S8))))
 else
 some S))))))
set_option maxHeartbeats 4000000 in
set_option maxRecDepth 100000 in
theorem w_X5_make_42 (C : Cx p s m args meth c cX5_make 5 RX5 g) (hr : meth.sig.returnType = none) {o : sT}  {a1 : Int32}   : ∀ (n : Nat) (x9 : Int32) (S10 : sT) (H : Heap) (locs : List Loc) (ls : Array Slot), Hp g s S10 H locs → lv_has ls 5 [(0, .ref (gad g 8 0)), (1, .int a1), (4, .int x9)] → l_X5_make_42 a1 n x9 S10 = some o → W p l e (rmL 2) s m args below meth c H locs 0 0 (Qm g below args s none o) (F0 m 42 ls []) := by
  obtain ⟨hx, hb, hml, hown, hts, hlk, hK⟩ := id C
  intro n
  induction n with
  | zero =>
    intro x9 S10 H locs ls hH hl h
    cases h
  | succ n ih =>
    intro x9 S10 H locs ls hH hl h
    rw [l_X5_make_42_s] at h
    unfold b_X5_make_42 at h
    refine lv_iload hx hb dX5_make_42 (lv_at hl 2 rfl) ?_
    refine lv_bipush (v := (60 : Int32)) hx hb dX5_make_44 (by decide) ?_
    refine lv_icmp_ge (tgt := 65) hx hb dX5_make_46 (by decide) (fun c17 => ?_) (fun c17 => ?_)
    · replace h := if_t h c17
      exact E_void C hr hH h dX5_make_65
    · replace h := if_f h c17
      refine lv_aload_n hx hb dX5_make_49 rfl (lv_at hl 0 rfl) ?_
      refine gf_X5_13 C hH dX5_make_50 ?_
      refine lv_iload_n hx hb dX5_make_53 rfl (lv_at hl 1 rfl) ?_
      obtain ⟨hv12, h⟩ := ck_e h
      refine r_aaldw C hH ka_25 (t := 2) (fun _ => rfl) rfl (by decide) (by decide) (vi_in hv12) dX5_make_54 (fun w13 ew13 => ?_)
      have hw13 : w13 < 4 := by rw [ew13]; exact Nat.lt_of_lt_of_le (vi_lt hv12) (by decide)
      replace h := lt_e h ew13
      refine lv_iload hx hb dX5_make_55 (lv_at hl 2 rfl) ?_
      refine lv_iconst (v := (0 : Int32)) hx hb dX5_make_57 (by decide) ?_
      obtain ⟨hv14, h⟩ := ck_e h
      refine r_ast C hH ka_26 ko_26 (by decide) hw13 (vi_in hv14) dX5_make_58 (fun S15 H locs eS hH => ?_)
      replace h := lt_e h eS
      obtain ⟨x16, ex16⟩ : ∃ z : Int32, z = (x9 + (1 : Int32)) := ⟨_, rfl⟩
      replace h := lt_e h ex16
      refine lv_iinc (v := x16) (lv' := [(4, .int x16), (0, .ref (gad g 8 0)), (1, .int a1)]) hx hb dX5_make_59 hl (k := 2) rfl (by rw [ex16]; rfl) (by decide) rfl (fun ls hl => ?_)
      refine lv_goto (tgt := 42) hx hb dX5_make_62 (by decide) ?_
      exact ih _ _ _ _ _ hH (lv_sub hl [1, 2, 0] rfl) h
set_option maxHeartbeats 4000000 in
set_option maxRecDepth 100000 in
theorem w_X5_make (C : Cx p s m args meth c cX5_make 5 RX5 g) (hr : meth.sig.returnType = none) {o : sT} {a1 : Int32} {a2 : Int32} {a3 : Int32}  {S : sT} {H : Heap} {locs : List Loc} {ls : Array Slot} (hH : Hp g s S H locs) (hl : lv_has ls 5 [(0, .ref (gad g 8 0)), (1, .int a1), (2, .int a2), (3, .int a3)]) (h : f_X5_make a1 a2 a3 S = some o) : W p l e (rmL 2) s m args below meth c H locs 0 0 (Qm g below args s none o) (F0 m 0 ls []) := by
  obtain ⟨hx, hb, hml, hown, hts, hlk, hK⟩ := id C
  unfold f_X5_make at h
  refine lv_iload_n hx hb dX5_make_0 rfl (lv_at hl 1 rfl) ?_
  obtain ⟨r2, hc1, h⟩ := bn_e h
  refine r_callS1 (As := [.int a1]) C hl.1 hH (c_X5_isSheet l g  hc1) q779 q43 q784 q778 nd_X5_isSheet rfl (by decide) ⟨Nat.zero_le _, Nat.zero_le _⟩ (Nat.le_of_ble_eq_true rfl) dX5_make_1 (fun H locs hH => ?_)
  refine lv_if_eq (tgt := 24) hx hb dX5_make_4 (by decide) (fun c21 => ?_) (fun c21 => ?_)
  · replace h := if_t h c21
    exact E_void C hr hH h dX5_make_24
  · replace h := if_f h c21
    refine lv_iload_n hx hb dX5_make_7 rfl (lv_at hl 2 rfl) ?_
    obtain ⟨r4, hc3, h⟩ := bn_e h
    refine r_callS1 (As := [.int a2]) C hl.1 hH (c_X5_isForm l g  hc3) q946 q43 q951 q945 nd_X5_isForm rfl (by decide) ⟨Nat.zero_le _, Nat.zero_le _⟩ (Nat.le_of_ble_eq_true rfl) dX5_make_8 (fun H locs hH => ?_)
    refine lv_if_eq (tgt := 24) hx hb dX5_make_11 (by decide) (fun c20 => ?_) (fun c20 => ?_)
    · replace h := if_t h c20
      exact E_void C hr hH h dX5_make_24
    · replace h := if_f h c20
      refine lv_iload_n hx hb dX5_make_14 rfl (lv_at hl 3 rfl) ?_
      refine lv_if_lt (tgt := 24) hx hb dX5_make_15 (by decide) (fun c19 => ?_) (fun c19 => ?_)
      · replace h := if_t h c19
        exact E_void C hr hH h dX5_make_24
      · replace h := if_f h c19
        refine lv_iload_n hx hb dX5_make_18 rfl (lv_at hl 3 rfl) ?_
        refine lv_bipush (v := (60 : Int32)) hx hb dX5_make_19 (by decide) ?_
        refine lv_icmp_le (tgt := 25) hx hb dX5_make_21 (by decide) (fun c18 => ?_) (fun c18 => ?_)
        · replace h := if_t h c18
          refine lv_aload_n hx hb dX5_make_25 rfl (lv_at hl 0 rfl) ?_
          refine gf_X5_16 C hH dX5_make_26 ?_
          refine lv_iload_n hx hb dX5_make_29 rfl (lv_at hl 1 rfl) ?_
          refine lv_iload_n hx hb dX5_make_30 rfl (lv_at hl 2 rfl) ?_
          obtain ⟨hv5, h⟩ := ck_e h
          refine r_ast C hH ka_27 ko_27 (by decide) (by decide) (vi_in hv5) dX5_make_31 (fun S6 H locs eS hH => ?_)
          replace h := lt_e h eS
          refine lv_aload_n hx hb dX5_make_32 rfl (lv_at hl 0 rfl) ?_
          refine gf_X5_20 C hH dX5_make_33 ?_
          refine lv_iload_n hx hb dX5_make_36 rfl (lv_at hl 1 rfl) ?_
          refine lv_iload_n hx hb dX5_make_37 rfl (lv_at hl 3 rfl) ?_
          obtain ⟨hv7, h⟩ := ck_e h
          refine r_ast C hH ka_28 ko_28 (by decide) (by decide) (vi_in hv7) dX5_make_38 (fun S8 H locs eS hH => ?_)
          replace h := lt_e h eS
          refine lv_iconst (v := (0 : Int32)) hx hb dX5_make_39 (by decide) ?_
          refine lv_istore (lv' := [(4, .int (0 : Int32)), (0, .ref (gad g 8 0)), (1, .int a1), (2, .int a2), (3, .int a3)]) hx hb dX5_make_40 hl (by decide) rfl (fun ls hl => ?_)
          exact w_X5_make_42 C hr   _ _ _ _ _ _ hH (lv_sub hl [1, 2, 0] rfl) h
        · replace h := if_f h c18
          exact E_void C hr hH h dX5_make_24
theorem c_X5_make (l : Launch) (g : gT) {a1 : Int32} {a2 : Int32} {a3 : Int32}  {S : sT} {S1 : sT} (h : f_X5_make a1 a2 a3 S = some S1) : MF l yX5_make cX5_make 5 none 2 g [.ref (gad g 8 0), .int a1, .int a2, .int a3] S none S1 := by
  refine MF.of (own := RX5) rfl rfl (Nat.le_of_ble_eq_true rfl) ?_
  intro p e s m below meth c C hr hH ls hl
  exact w_X5_make C hr (o := S1)  hH hl h
theorem nd_X5_drop : yX5_drop.cls ≠ "java/lang/invoke/MethodHandle" ∧ yX5_drop.cls ≠ "java/lang/invoke/VarHandle" ∧ (parseMethodDescriptor yX5_drop.desc).map (fun d => d.parameters.length) = some 1 := by decide +kernel
def f_X5_drop (a1 : Int32) (S : sT) : Option (sT) :=
 bn (f_X5_isSheet a1 S) (fun r2 =>
 (if r2 = (0 : Int32) then
 some S
 else
 ck (vi a1 4) (
 lt (us S 28 0 (cl a1) (-1 : Int32)) (fun S4 =>
 some S4))))
set_option maxHeartbeats 4000000 in
set_option maxRecDepth 100000 in
theorem w_X5_drop (C : Cx p s m args meth c cX5_drop 2 RX5 g) (hr : meth.sig.returnType = none) {o : sT} {a1 : Int32}  {S : sT} {H : Heap} {locs : List Loc} {ls : Array Slot} (hH : Hp g s S H locs) (hl : lv_has ls 2 [(0, .ref (gad g 8 0)), (1, .int a1)]) (h : f_X5_drop a1 S = some o) : W p l e (rmL 2) s m args below meth c H locs 0 0 (Qm g below args s none o) (F0 m 0 ls []) := by
  obtain ⟨hx, hb, hml, hown, hts, hlk, hK⟩ := id C
  unfold f_X5_drop at h
  refine lv_iload_n hx hb dX5_drop_0 rfl (lv_at hl 1 rfl) ?_
  obtain ⟨r2, hc1, h⟩ := bn_e h
  refine r_callS1 (As := [.int a1]) C hl.1 hH (c_X5_isSheet l g  hc1) q779 q43 q784 q778 nd_X5_isSheet rfl (by decide) ⟨Nat.zero_le _, Nat.zero_le _⟩ (Nat.le_of_ble_eq_true rfl) dX5_drop_1 (fun H locs hH => ?_)
  refine lv_if_eq (tgt := 14) hx hb dX5_drop_4 (by decide) (fun c5 => ?_) (fun c5 => ?_)
  · replace h := if_t h c5
    exact E_void C hr hH h dX5_drop_14
  · replace h := if_f h c5
    refine lv_aload_n hx hb dX5_drop_7 rfl (lv_at hl 0 rfl) ?_
    refine gf_X5_20 C hH dX5_drop_8 ?_
    refine lv_iload_n hx hb dX5_drop_11 rfl (lv_at hl 1 rfl) ?_
    refine lv_iconst (v := (-1 : Int32)) hx hb dX5_drop_12 (by decide) ?_
    obtain ⟨hv3, h⟩ := ck_e h
    refine r_ast C hH ka_28 ko_28 (by decide) (by decide) (vi_in hv3) dX5_drop_13 (fun S4 H locs eS hH => ?_)
    replace h := lt_e h eS
    exact E_void C hr hH h dX5_drop_14
theorem c_X5_drop (l : Launch) (g : gT) {a1 : Int32}  {S : sT} {S1 : sT} (h : f_X5_drop a1 S = some S1) : MF l yX5_drop cX5_drop 2 none 2 g [.ref (gad g 8 0), .int a1] S none S1 := by
  refine MF.of (own := RX5) rfl rfl (Nat.le_of_ble_eq_true rfl) ?_
  intro p e s m below meth c C hr hH ls hl
  exact w_X5_drop C hr (o := S1)  hH hl h
theorem nd_X5_asForm : yX5_asForm.cls ≠ "java/lang/invoke/MethodHandle" ∧ yX5_asForm.cls ≠ "java/lang/invoke/VarHandle" ∧ (parseMethodDescriptor yX5_asForm.desc).map (fun d => d.parameters.length) = some 2 := by decide +kernel
def f_X5_asForm (a1 : Int32) (a2 : Int32) (S : sT) : Option (Int32) :=
 (if a1 = (0 : Int32) then
 some ((a2).toInt8.toInt32)
 else
 (if a1 = (1 : Int32) then
 some ((a2).toInt16.toInt32)
 else
 some a2))
set_option maxHeartbeats 4000000 in
set_option maxRecDepth 100000 in
theorem w_X5_asForm (C : Cx p s m args meth c cX5_asForm 2 RX5 g) (hr : meth.sig.returnType = (some .int)) {o : Int32} {a1 : Int32} {a2 : Int32}  {S : sT} {H : Heap} {locs : List Loc} {ls : Array Slot} (hH : Hp g s S H locs) (hl : lv_has ls 2 [(0, .int a1), (1, .int a2)]) (h : f_X5_asForm a1 a2 S = some o) : W p l e (rmL 1) s m args below meth c H locs 0 0 (Qm g below args s (some (.int o)) S) (F0 m 0 ls []) := by
  obtain ⟨hx, hb, hml, hown, hts, hlk, hK⟩ := id C
  unfold f_X5_asForm at h
  refine lv_iload_n hx hb dX5_asForm_0 rfl (lv_at hl 0 rfl) ?_
  refine lv_if_ne (tgt := 9) hx hb dX5_asForm_1 (by decide) (fun c2 => ?_) (fun c2 => ?_)
  · replace h := if_f h c2
    refine lv_iload_n hx hb dX5_asForm_9 rfl (lv_at hl 0 rfl) ?_
    refine lv_iconst (v := (1 : Int32)) hx hb dX5_asForm_10 (by decide) ?_
    refine lv_icmp_ne (tgt := 19) hx hb dX5_asForm_11 (by decide) (fun c1 => ?_) (fun c1 => ?_)
    · replace h := if_f h c1
      refine lv_iload_n hx hb dX5_asForm_19 rfl (lv_at hl 1 rfl) ?_
      exact E_intc C hr hH h dX5_asForm_20
    · replace h := if_t h c1
      refine lv_iload_n hx hb dX5_asForm_14 rfl (lv_at hl 1 rfl) ?_
      refine lv_i2s hx hb dX5_asForm_15 rfl ?_
      refine lv_goto (tgt := 20) hx hb dX5_asForm_16 (by decide) ?_
      exact E_intc C hr hH h dX5_asForm_20
  · replace h := if_t h c2
    refine lv_iload_n hx hb dX5_asForm_4 rfl (lv_at hl 1 rfl) ?_
    refine lv_i2b hx hb dX5_asForm_5 rfl ?_
    refine lv_goto (tgt := 20) hx hb dX5_asForm_6 (by decide) ?_
    exact E_intc C hr hH h dX5_asForm_20
theorem c_X5_asForm (l : Launch) (g : gT) {a1 : Int32} {a2 : Int32}  {S : sT} {r : Int32} (h : f_X5_asForm a1 a2 S = some r) : MF l yX5_asForm cX5_asForm 2 (some .int) 1 g [.int a1, .int a2] S (some (.int r)) S := by
  refine MF.of (own := RX5) rfl rfl (Nat.le_of_ble_eq_true rfl) ?_
  intro p e s m below meth c C hr hH ls hl
  exact w_X5_asForm C hr (o := r)  hH hl h
theorem nd_X5_put : yX5_put.cls ≠ "java/lang/invoke/MethodHandle" ∧ yX5_put.cls ≠ "java/lang/invoke/VarHandle" ∧ (parseMethodDescriptor yX5_put.desc).map (fun d => d.parameters.length) = some 3 := by decide +kernel
def f_X5_put (a1 : Int32) (a2 : Int32) (a3 : Int32) (S : sT) : Option (sT) :=
 bn (f_X5_isItem a1 a2 S) (fun r2 =>
 (if r2 = (0 : Int32) then
 some S
 else
 ck (vi a1 4) (
 lt (cl a1) (fun w4 =>
 ck (vi a1 4) (
 bn (f_X5_asForm (S.1 27 0 (cl a1)) a3 S) (fun r7 =>
 ck (vi a2 60) (
 lt (us S 26 w4 (cl a2) r7) (fun S9 =>
 some S9))))))))
set_option maxHeartbeats 4000000 in
set_option maxRecDepth 100000 in
theorem w_X5_put (C : Cx p s m args meth c cX5_put 4 RX5 g) (hr : meth.sig.returnType = none) {o : sT} {a1 : Int32} {a2 : Int32} {a3 : Int32}  {S : sT} {H : Heap} {locs : List Loc} {ls : Array Slot} (hH : Hp g s S H locs) (hl : lv_has ls 4 [(0, .ref (gad g 8 0)), (1, .int a1), (2, .int a2), (3, .int a3)]) (h : f_X5_put a1 a2 a3 S = some o) : W p l e (rmL 5) s m args below meth c H locs 0 0 (Qm g below args s none o) (F0 m 0 ls []) := by
  obtain ⟨hx, hb, hml, hown, hts, hlk, hK⟩ := id C
  unfold f_X5_put at h
  refine lv_aload_n hx hb dX5_put_0 rfl (lv_at hl 0 rfl) ?_
  refine lv_iload_n hx hb dX5_put_1 rfl (lv_at hl 1 rfl) ?_
  refine lv_iload_n hx hb dX5_put_2 rfl (lv_at hl 2 rfl) ?_
  obtain ⟨r2, hc1, h⟩ := bn_e h
  refine r_callV1 (ki := 8) (i := 0) (ci := 5) (As := [.int a1, .int a2]) C hl.1 hH (c_X5_isItem l g  hc1) q801 q43 q798 q799 q800 nd_X5_isItem rfl (by decide) ⟨Nat.zero_le _, Nat.zero_le _⟩ (by decide) (by decide) ⟨_, rfl⟩ rfl (Nat.le_of_ble_eq_true rfl) dX5_put_3 (fun H locs hH => ?_)
  refine lv_if_eq (tgt := 27) hx hb dX5_put_6 (by decide) (fun c10 => ?_) (fun c10 => ?_)
  · replace h := if_t h c10
    exact E_void C hr hH h dX5_put_27
  · replace h := if_f h c10
    refine lv_aload_n hx hb dX5_put_9 rfl (lv_at hl 0 rfl) ?_
    refine gf_X5_13 C hH dX5_put_10 ?_
    refine lv_iload_n hx hb dX5_put_13 rfl (lv_at hl 1 rfl) ?_
    obtain ⟨hv3, h⟩ := ck_e h
    refine r_aaldw C hH ka_25 (t := 2) (fun _ => rfl) rfl (by decide) (by decide) (vi_in hv3) dX5_put_14 (fun w4 ew4 => ?_)
    have hw4 : w4 < 4 := by rw [ew4]; exact Nat.lt_of_lt_of_le (vi_lt hv3) (by decide)
    replace h := lt_e h ew4
    refine lv_iload_n hx hb dX5_put_15 rfl (lv_at hl 2 rfl) ?_
    refine lv_aload_n hx hb dX5_put_16 rfl (lv_at hl 0 rfl) ?_
    refine gf_X5_16 C hH dX5_put_17 ?_
    refine lv_iload_n hx hb dX5_put_20 rfl (lv_at hl 1 rfl) ?_
    obtain ⟨hv5, h⟩ := ck_e h
    refine r_ald C hH ka_27 (by decide) (by decide) (vi_in hv5) dX5_put_21 ?_
    refine lv_iload_n hx hb dX5_put_22 rfl (lv_at hl 3 rfl) ?_
    obtain ⟨r7, hc6, h⟩ := bn_e h
    refine r_callS1 (As := [.int (S.1 27 0 (cl a1)), .int a3]) C hl.1 hH (c_X5_asForm l g  hc6) q983 q43 q981 q982 nd_X5_asForm rfl (by decide) ⟨Nat.zero_le _, Nat.zero_le _⟩ (Nat.le_of_ble_eq_true rfl) dX5_put_23 (fun H locs hH => ?_)
    obtain ⟨hv8, h⟩ := ck_e h
    refine r_ast C hH ka_26 ko_26 (by decide) hw4 (vi_in hv8) dX5_put_26 (fun S9 H locs eS hH => ?_)
    replace h := lt_e h eS
    exact E_void C hr hH h dX5_put_27
theorem c_X5_put (l : Launch) (g : gT) {a1 : Int32} {a2 : Int32} {a3 : Int32}  {S : sT} {S1 : sT} (h : f_X5_put a1 a2 a3 S = some S1) : MF l yX5_put cX5_put 4 none 5 g [.ref (gad g 8 0), .int a1, .int a2, .int a3] S none S1 := by
  refine MF.of (own := RX5) rfl rfl (Nat.le_of_ble_eq_true rfl) ?_
  intro p e s m below meth c C hr hH ls hl
  exact w_X5_put C hr (o := S1)  hH hl h
theorem nd_X5_refusalOf : yX5_refusalOf.cls ≠ "java/lang/invoke/MethodHandle" ∧ yX5_refusalOf.cls ≠ "java/lang/invoke/VarHandle" ∧ (parseMethodDescriptor yX5_refusalOf.desc).map (fun d => d.parameters.length) = some 3 := by decide +kernel
def f_X5_refusalOf (a1 : Int32) (a2 : Int32) (a3 : Int32) (S : sT) : Option (Int32 × sT) :=
 bn (f_X5_isSheet a1 S) (fun r2 =>
 (if r2 = (0 : Int32) then
 some ((-2 : Int32), S)
 else
 bn (f_X5_isForm a2 S) (fun r4 =>
 (if r4 = (0 : Int32) then
 some ((-2 : Int32), S)
 else
 bn (f_X5_isLost a1 S) (fun r6 =>
 (if r6 = (0 : Int32) then
 ck (vi a1 4) (
 (if (S.1 27 0 (cl a1)) = a2 then
 bn (f_X5_isItem a1 a3 S) (fun r9 =>
 (if r9 = (0 : Int32) then
 bn2 (f_X5_find (2 : Int32) S) (fun r11 S12 =>
 some (r11, S12))
 else
 some ((0 : Int32), S)))
 else
 bn2 (f_X5_find (3 : Int32) S) (fun r15 S16 =>
 some (r15, S16))))
 else
 bn2 (f_X5_find (1 : Int32) S) (fun r19 S20 =>
 some (r19, S20))))))))
set_option maxHeartbeats 4000000 in
set_option maxRecDepth 100000 in
theorem w_X5_refusalOf (C : Cx p s m args meth c cX5_refusalOf 4 RX5 g) (hr : meth.sig.returnType = (some .int)) {o : Int32 × sT} {a1 : Int32} {a2 : Int32} {a3 : Int32}  {S : sT} {H : Heap} {locs : List Loc} {ls : Array Slot} (hH : Hp g s S H locs) (hl : lv_has ls 4 [(0, .ref (gad g 8 0)), (1, .int a1), (2, .int a2), (3, .int a3)]) (h : f_X5_refusalOf a1 a2 a3 S = some o) : W p l e (rmL 5) s m args below meth c H locs 0 0 (Qm g below args s (some (.int o.1)) o.2) (F0 m 0 ls []) := by
  obtain ⟨hx, hb, hml, hown, hts, hlk, hK⟩ := id C
  unfold f_X5_refusalOf at h
  refine lv_iload_n hx hb dX5_refusalOf_0 rfl (lv_at hl 1 rfl) ?_
  obtain ⟨r2, hc1, h⟩ := bn_e h
  refine r_callS1 (As := [.int a1]) C hl.1 hH (c_X5_isSheet l g  hc1) q779 q43 q784 q778 nd_X5_isSheet rfl (by decide) ⟨Nat.zero_le _, Nat.zero_le _⟩ (Nat.le_of_ble_eq_true rfl) dX5_refusalOf_1 (fun H locs hH => ?_)
  refine lv_if_eq (tgt := 14) hx hb dX5_refusalOf_4 (by decide) (fun c23 => ?_) (fun c23 => ?_)
  · replace h := if_t h c23
    refine lv_bipush (v := (-2 : Int32)) hx hb dX5_refusalOf_14 (by decide) ?_
    exact E_int C hr hH h dX5_refusalOf_16
  · replace h := if_f h c23
    refine lv_iload_n hx hb dX5_refusalOf_7 rfl (lv_at hl 2 rfl) ?_
    obtain ⟨r4, hc3, h⟩ := bn_e h
    refine r_callS1 (As := [.int a2]) C hl.1 hH (c_X5_isForm l g  hc3) q946 q43 q951 q945 nd_X5_isForm rfl (by decide) ⟨Nat.zero_le _, Nat.zero_le _⟩ (Nat.le_of_ble_eq_true rfl) dX5_refusalOf_8 (fun H locs hH => ?_)
    refine lv_if_ne (tgt := 17) hx hb dX5_refusalOf_11 (by decide) (fun c22 => ?_) (fun c22 => ?_)
    · replace h := if_f h c22
      refine lv_aload_n hx hb dX5_refusalOf_17 rfl (lv_at hl 0 rfl) ?_
      refine lv_iload_n hx hb dX5_refusalOf_18 rfl (lv_at hl 1 rfl) ?_
      obtain ⟨r6, hc5, h⟩ := bn_e h
      refine r_callV1 (ki := 8) (i := 0) (ci := 5) (As := [.int a1]) C hl.1 hH (c_X5_isLost l g  hc5) q783 q43 q793 q781 q782 nd_X5_isLost rfl (by decide) ⟨Nat.zero_le _, Nat.zero_le _⟩ (by decide) (by decide) ⟨_, rfl⟩ rfl (Nat.le_of_ble_eq_true rfl) dX5_refusalOf_19 (fun H locs hH => ?_)
      refine lv_if_eq (tgt := 31) hx hb dX5_refusalOf_22 (by decide) (fun c21 => ?_) (fun c21 => ?_)
      · replace h := if_t h c21
        refine lv_aload_n hx hb dX5_refusalOf_31 rfl (lv_at hl 0 rfl) ?_
        refine gf_X5_16 C hH dX5_refusalOf_32 ?_
        refine lv_iload_n hx hb dX5_refusalOf_35 rfl (lv_at hl 1 rfl) ?_
        obtain ⟨hv7, h⟩ := ck_e h
        refine r_ald C hH ka_27 (by decide) (by decide) (vi_in hv7) dX5_refusalOf_36 ?_
        refine lv_iload_n hx hb dX5_refusalOf_37 rfl (lv_at hl 2 rfl) ?_
        refine lv_icmp_eq (tgt := 47) hx hb dX5_refusalOf_38 (by decide) (fun c17 => ?_) (fun c17 => ?_)
        · replace h := if_t h c17
          refine lv_aload_n hx hb dX5_refusalOf_47 rfl (lv_at hl 0 rfl) ?_
          refine lv_iload_n hx hb dX5_refusalOf_48 rfl (lv_at hl 1 rfl) ?_
          refine lv_iload_n hx hb dX5_refusalOf_49 rfl (lv_at hl 3 rfl) ?_
          obtain ⟨r9, hc8, h⟩ := bn_e h
          refine r_callV1 (ki := 8) (i := 0) (ci := 5) (As := [.int a1, .int a3]) C hl.1 hH (c_X5_isItem l g  hc8) q801 q43 q798 q799 q800 nd_X5_isItem rfl (by decide) ⟨Nat.zero_le _, Nat.zero_le _⟩ (by decide) (by decide) ⟨_, rfl⟩ rfl (Nat.le_of_ble_eq_true rfl) dX5_refusalOf_50 (fun H locs hH => ?_)
          refine lv_if_eq (tgt := 60) hx hb dX5_refusalOf_53 (by decide) (fun c13 => ?_) (fun c13 => ?_)
          · replace h := if_t h c13
            refine lv_aload_n hx hb dX5_refusalOf_60 rfl (lv_at hl 0 rfl) ?_
            refine lv_iconst (v := (2 : Int32)) hx hb dX5_refusalOf_61 (by decide) ?_
            obtain ⟨r11, S12, hc10, h⟩ := bn2_e h
            refine r_callV1 (ki := 8) (i := 0) (ci := 5) (As := [.int (2 : Int32)]) C hl.1 hH (c_X5_find l g  hc10) q788 q43 q976 q786 q787 nd_X5_find rfl (by decide) ⟨Nat.zero_le _, Nat.zero_le _⟩ (by decide) (by decide) ⟨_, rfl⟩ rfl (Nat.le_of_ble_eq_true rfl) dX5_refusalOf_62 (fun H locs hH => ?_)
            exact E_int C hr hH h dX5_refusalOf_65
          · replace h := if_f h c13
            refine lv_iconst (v := (0 : Int32)) hx hb dX5_refusalOf_56 (by decide) ?_
            refine lv_goto (tgt := 65) hx hb dX5_refusalOf_57 (by decide) ?_
            exact E_int C hr hH h dX5_refusalOf_65
        · replace h := if_f h c17
          refine lv_aload_n hx hb dX5_refusalOf_41 rfl (lv_at hl 0 rfl) ?_
          refine lv_iconst (v := (3 : Int32)) hx hb dX5_refusalOf_42 (by decide) ?_
          obtain ⟨r15, S16, hc14, h⟩ := bn2_e h
          refine r_callV1 (ki := 8) (i := 0) (ci := 5) (As := [.int (3 : Int32)]) C hl.1 hH (c_X5_find l g  hc14) q788 q43 q976 q786 q787 nd_X5_find rfl (by decide) ⟨Nat.zero_le _, Nat.zero_le _⟩ (by decide) (by decide) ⟨_, rfl⟩ rfl (Nat.le_of_ble_eq_true rfl) dX5_refusalOf_43 (fun H locs hH => ?_)
          exact E_int C hr hH h dX5_refusalOf_46
      · replace h := if_f h c21
        refine lv_aload_n hx hb dX5_refusalOf_25 rfl (lv_at hl 0 rfl) ?_
        refine lv_iconst (v := (1 : Int32)) hx hb dX5_refusalOf_26 (by decide) ?_
        obtain ⟨r19, S20, hc18, h⟩ := bn2_e h
        refine r_callV1 (ki := 8) (i := 0) (ci := 5) (As := [.int (1 : Int32)]) C hl.1 hH (c_X5_find l g  hc18) q788 q43 q976 q786 q787 nd_X5_find rfl (by decide) ⟨Nat.zero_le _, Nat.zero_le _⟩ (by decide) (by decide) ⟨_, rfl⟩ rfl (Nat.le_of_ble_eq_true rfl) dX5_refusalOf_27 (fun H locs hH => ?_)
        exact E_int C hr hH h dX5_refusalOf_30
    · replace h := if_t h c22
      refine lv_bipush (v := (-2 : Int32)) hx hb dX5_refusalOf_14 (by decide) ?_
      exact E_int C hr hH h dX5_refusalOf_16
theorem c_X5_refusalOf (l : Launch) (g : gT) {a1 : Int32} {a2 : Int32} {a3 : Int32}  {S : sT} {r : Int32} {S1 : sT} (h : f_X5_refusalOf a1 a2 a3 S = some (r, S1)) : MF l yX5_refusalOf cX5_refusalOf 4 (some .int) 5 g [.ref (gad g 8 0), .int a1, .int a2, .int a3] S (some (.int r)) S1 := by
  refine MF.of (own := RX5) rfl rfl (Nat.le_of_ble_eq_true rfl) ?_
  intro p e s m below meth c C hr hH ls hl
  exact w_X5_refusalOf C hr (o := (r, S1))  hH hl h
theorem nd_X5_formOf : yX5_formOf.cls ≠ "java/lang/invoke/MethodHandle" ∧ yX5_formOf.cls ≠ "java/lang/invoke/VarHandle" ∧ (parseMethodDescriptor yX5_formOf.desc).map (fun d => d.parameters.length) = some 1 := by decide +kernel
def f_X5_formOf (a1 : Int32) (S : sT) : Option (Int32) :=
 bn (f_X5_isSheet a1 S) (fun r2 =>
 (if r2 = (0 : Int32) then
 some (-1 : Int32)
 else
 ck (vi a1 4) (
 some (S.1 27 0 (cl a1)))))
set_option maxHeartbeats 4000000 in
set_option maxRecDepth 100000 in
theorem w_X5_formOf (C : Cx p s m args meth c cX5_formOf 2 RX5 g) (hr : meth.sig.returnType = (some .int)) {o : Int32} {a1 : Int32}  {S : sT} {H : Heap} {locs : List Loc} {ls : Array Slot} (hH : Hp g s S H locs) (hl : lv_has ls 2 [(0, .ref (gad g 8 0)), (1, .int a1)]) (h : f_X5_formOf a1 S = some o) : W p l e (rmL 2) s m args below meth c H locs 0 0 (Qm g below args s (some (.int o)) S) (F0 m 0 ls []) := by
  obtain ⟨hx, hb, hml, hown, hts, hlk, hK⟩ := id C
  unfold f_X5_formOf at h
  refine lv_iload_n hx hb dX5_formOf_0 rfl (lv_at hl 1 rfl) ?_
  obtain ⟨r2, hc1, h⟩ := bn_e h
  refine r_callS1 (As := [.int a1]) C hl.1 hH (c_X5_isSheet l g  hc1) q779 q43 q784 q778 nd_X5_isSheet rfl (by decide) ⟨Nat.zero_le _, Nat.zero_le _⟩ (Nat.le_of_ble_eq_true rfl) dX5_formOf_1 (fun H locs hH => ?_)
  refine lv_if_eq (tgt := 16) hx hb dX5_formOf_4 (by decide) (fun c4 => ?_) (fun c4 => ?_)
  · replace h := if_t h c4
    refine lv_iconst (v := (-1 : Int32)) hx hb dX5_formOf_16 (by decide) ?_
    exact E_intc C hr hH h dX5_formOf_17
  · replace h := if_f h c4
    refine lv_aload_n hx hb dX5_formOf_7 rfl (lv_at hl 0 rfl) ?_
    refine gf_X5_16 C hH dX5_formOf_8 ?_
    refine lv_iload_n hx hb dX5_formOf_11 rfl (lv_at hl 1 rfl) ?_
    obtain ⟨hv3, h⟩ := ck_e h
    refine r_ald C hH ka_27 (by decide) (by decide) (vi_in hv3) dX5_formOf_12 ?_
    refine lv_goto (tgt := 17) hx hb dX5_formOf_13 (by decide) ?_
    exact E_intc C hr hH h dX5_formOf_17
theorem c_X5_formOf (l : Launch) (g : gT) {a1 : Int32}  {S : sT} {r : Int32} (h : f_X5_formOf a1 S = some r) : MF l yX5_formOf cX5_formOf 2 (some .int) 2 g [.ref (gad g 8 0), .int a1] S (some (.int r)) S := by
  refine MF.of (own := RX5) rfl rfl (Nat.le_of_ble_eq_true rfl) ?_
  intro p e s m below meth c C hr hH ls hl
  exact w_X5_formOf C hr (o := r)  hH hl h
theorem nd_X5_holds : yX5_holds.cls ≠ "java/lang/invoke/MethodHandle" ∧ yX5_holds.cls ≠ "java/lang/invoke/VarHandle" ∧ (parseMethodDescriptor yX5_holds.desc).map (fun d => d.parameters.length) = some 3 := by decide +kernel
def f_X5_holds (a1 : Int32) (a2 : Int32) (a3 : Int32) (S : sT) : Option (Int32) :=
 (if a2 < (0 : Int32) then
 some (0 : Int32)
 else
 (if a3 < (0 : Int32) then
 some (0 : Int32)
 else
 (if (60 : Int32) < a3 then
 some (0 : Int32)
 else
 bn (f_X5_sizeOf a1 S) (fun r2 =>
 (if (r2 - a3) < a2 then
 some (0 : Int32)
 else
 some (1 : Int32))))))
set_option maxHeartbeats 4000000 in
set_option maxRecDepth 100000 in
theorem w_X5_holds (C : Cx p s m args meth c cX5_holds 4 RX5 g) (hr : meth.sig.returnType = (some .boolean)) {o : Int32} {a1 : Int32} {a2 : Int32} {a3 : Int32}  {S : sT} {H : Heap} {locs : List Loc} {ls : Array Slot} (hH : Hp g s S H locs) (hl : lv_has ls 4 [(0, .ref (gad g 8 0)), (1, .int a1), (2, .int a2), (3, .int a3)]) (h : f_X5_holds a1 a2 a3 S = some o) : W p l e (rmL 4) s m args below meth c H locs 0 0 (Qm g below args s (some (.int o)) S) (F0 m 0 ls []) := by
  obtain ⟨hx, hb, hml, hown, hts, hlk, hK⟩ := id C
  unfold f_X5_holds at h
  refine lv_iload_n hx hb dX5_holds_0 rfl (lv_at hl 2 rfl) ?_
  refine lv_if_lt (tgt := 29) hx hb dX5_holds_1 (by decide) (fun c6 => ?_) (fun c6 => ?_)
  · replace h := if_t h c6
    refine lv_iconst (v := (0 : Int32)) hx hb dX5_holds_29 (by decide) ?_
    exact E_boolc C hr hH rfl h dX5_holds_30
  · replace h := if_f h c6
    refine lv_iload_n hx hb dX5_holds_4 rfl (lv_at hl 3 rfl) ?_
    refine lv_if_lt (tgt := 29) hx hb dX5_holds_5 (by decide) (fun c5 => ?_) (fun c5 => ?_)
    · replace h := if_t h c5
      refine lv_iconst (v := (0 : Int32)) hx hb dX5_holds_29 (by decide) ?_
      exact E_boolc C hr hH rfl h dX5_holds_30
    · replace h := if_f h c5
      refine lv_iload_n hx hb dX5_holds_8 rfl (lv_at hl 3 rfl) ?_
      refine lv_bipush (v := (60 : Int32)) hx hb dX5_holds_9 (by decide) ?_
      refine lv_icmp_gt (tgt := 29) hx hb dX5_holds_11 (by decide) (fun c4 => ?_) (fun c4 => ?_)
      · replace h := if_t h c4
        refine lv_iconst (v := (0 : Int32)) hx hb dX5_holds_29 (by decide) ?_
        exact E_boolc C hr hH rfl h dX5_holds_30
      · replace h := if_f h c4
        refine lv_iload_n hx hb dX5_holds_14 rfl (lv_at hl 2 rfl) ?_
        refine lv_aload_n hx hb dX5_holds_15 rfl (lv_at hl 0 rfl) ?_
        refine lv_iload_n hx hb dX5_holds_16 rfl (lv_at hl 1 rfl) ?_
        obtain ⟨r2, hc1, h⟩ := bn_e h
        refine r_callV1 (ki := 8) (i := 0) (ci := 5) (As := [.int a1]) C hl.1 hH (c_X5_sizeOf l g  hc1) q792 q43 q802 q790 q791 nd_X5_sizeOf rfl (by decide) ⟨Nat.zero_le _, Nat.zero_le _⟩ (by decide) (by decide) ⟨_, rfl⟩ rfl (Nat.le_of_ble_eq_true rfl) dX5_holds_17 (fun H locs hH => ?_)
        refine lv_iload_n hx hb dX5_holds_20 rfl (lv_at hl 3 rfl) ?_
        refine lv_isub hx hb dX5_holds_21 ?_
        refine lv_icmp_gt (tgt := 29) hx hb dX5_holds_22 (by decide) (fun c3 => ?_) (fun c3 => ?_)
        · replace h := if_t h c3
          refine lv_iconst (v := (0 : Int32)) hx hb dX5_holds_29 (by decide) ?_
          exact E_boolc C hr hH rfl h dX5_holds_30
        · replace h := if_f h c3
          refine lv_iconst (v := (1 : Int32)) hx hb dX5_holds_25 (by decide) ?_
          refine lv_goto (tgt := 30) hx hb dX5_holds_26 (by decide) ?_
          exact E_boolc C hr hH rfl h dX5_holds_30
theorem c_X5_holds (l : Launch) (g : gT) {a1 : Int32} {a2 : Int32} {a3 : Int32}  {S : sT} {r : Int32} (h : f_X5_holds a1 a2 a3 S = some r) : MF l yX5_holds cX5_holds 4 (some .boolean) 4 g [.ref (gad g 8 0), .int a1, .int a2, .int a3] S (some (.int r)) S := by
  refine MF.of (own := RX5) rfl rfl (Nat.le_of_ble_eq_true rfl) ?_
  intro p e s m below meth c C hr hH ls hl
  exact w_X5_holds C hr (o := r)  hH hl h
theorem nd_X5_move : yX5_move.cls ≠ "java/lang/invoke/MethodHandle" ∧ yX5_move.cls ≠ "java/lang/invoke/VarHandle" ∧ (parseMethodDescriptor yX5_move.desc).map (fun d => d.parameters.length) = some 5 := by decide +kernel
def f_X5_move (a1 : Int32) (a2 : Int32) (a3 : Int32) (a4 : Int32) (a5 : Int32) (S : sT) : Option (sT) :=
 bn (f_X5_isSheet a1 S) (fun r2 =>
 (if r2 = (0 : Int32) then
 some S
 else
 bn (f_X5_isSheet a3 S) (fun r4 =>
 (if r4 = (0 : Int32) then
 some S
 else
 bn (f_X5_holds a1 a2 a5 S) (fun r6 =>
 (if r6 = (0 : Int32) then
 some S
 else
 bn (f_X5_holds a3 a4 a5 S) (fun r8 =>
 (if r8 = (0 : Int32) then
 some S
 else
 ck (vi a1 4) (
 lt (cl a1) (fun w10 =>
 ck (vi a3 4) (
 lt (cl a3) (fun w12 =>
 ck (vc a2 a5 60) (
 ck (vc a4 a5 60) (
 lt (ua S 26 w12 (va_cpy (S.1 26 w10) (S.1 26 w12) (cl a2) (cl a4) (cl a5))) (fun S15 =>
 some S15)))))))))))))))
set_option maxHeartbeats 4000000 in
set_option maxRecDepth 100000 in
theorem w_X5_move (C : Cx p s m args meth c cX5_move 6 RX5 g) (hr : meth.sig.returnType = none) {o : sT} {a1 : Int32} {a2 : Int32} {a3 : Int32} {a4 : Int32} {a5 : Int32}  {S : sT} {H : Heap} {locs : List Loc} {ls : Array Slot} (hH : Hp g s S H locs) (hl : lv_has ls 6 [(0, .ref (gad g 8 0)), (1, .int a1), (2, .int a2), (3, .int a3), (4, .int a4), (5, .int a5)]) (h : f_X5_move a1 a2 a3 a4 a5 S = some o) : W p l e (rmL 5) s m args below meth c H locs 0 0 (Qm g below args s none o) (F0 m 0 ls []) := by
  obtain ⟨hx, hb, hml, hown, hts, hlk, hK⟩ := id C
  unfold f_X5_move at h
  refine lv_iload_n hx hb dX5_move_0 rfl (lv_at hl 1 rfl) ?_
  obtain ⟨r2, hc1, h⟩ := bn_e h
  refine r_callS1 (As := [.int a1]) C hl.1 hH (c_X5_isSheet l g  hc1) q779 q43 q784 q778 nd_X5_isSheet rfl (by decide) ⟨Nat.zero_le _, Nat.zero_le _⟩ (Nat.le_of_ble_eq_true rfl) dX5_move_1 (fun H locs hH => ?_)
  refine lv_if_eq (tgt := 57) hx hb dX5_move_4 (by decide) (fun c19 => ?_) (fun c19 => ?_)
  · replace h := if_t h c19
    exact E_void C hr hH h dX5_move_57
  · replace h := if_f h c19
    refine lv_iload_n hx hb dX5_move_7 rfl (lv_at hl 3 rfl) ?_
    obtain ⟨r4, hc3, h⟩ := bn_e h
    refine r_callS1 (As := [.int a3]) C hl.1 hH (c_X5_isSheet l g  hc3) q779 q43 q784 q778 nd_X5_isSheet rfl (by decide) ⟨Nat.zero_le _, Nat.zero_le _⟩ (Nat.le_of_ble_eq_true rfl) dX5_move_8 (fun H locs hH => ?_)
    refine lv_if_eq (tgt := 57) hx hb dX5_move_11 (by decide) (fun c18 => ?_) (fun c18 => ?_)
    · replace h := if_t h c18
      exact E_void C hr hH h dX5_move_57
    · replace h := if_f h c18
      refine lv_aload_n hx hb dX5_move_14 rfl (lv_at hl 0 rfl) ?_
      refine lv_iload_n hx hb dX5_move_15 rfl (lv_at hl 1 rfl) ?_
      refine lv_iload_n hx hb dX5_move_16 rfl (lv_at hl 2 rfl) ?_
      refine lv_iload hx hb dX5_move_17 (lv_at hl 5 rfl) ?_
      obtain ⟨r6, hc5, h⟩ := bn_e h
      refine r_callV1 (ki := 8) (i := 0) (ci := 5) (As := [.int a1, .int a2, .int a5]) C hl.1 hH (c_X5_holds l g  hc5) q1016 q43 q1022 q1014 q1015 nd_X5_holds rfl (by decide) ⟨Nat.zero_le _, Nat.zero_le _⟩ (by decide) (by decide) ⟨_, rfl⟩ rfl (Nat.le_of_ble_eq_true rfl) dX5_move_19 (fun H locs hH => ?_)
      refine lv_if_eq (tgt := 57) hx hb dX5_move_22 (by decide) (fun c17 => ?_) (fun c17 => ?_)
      · replace h := if_t h c17
        exact E_void C hr hH h dX5_move_57
      · replace h := if_f h c17
        refine lv_aload_n hx hb dX5_move_25 rfl (lv_at hl 0 rfl) ?_
        refine lv_iload_n hx hb dX5_move_26 rfl (lv_at hl 3 rfl) ?_
        refine lv_iload hx hb dX5_move_27 (lv_at hl 4 rfl) ?_
        refine lv_iload hx hb dX5_move_29 (lv_at hl 5 rfl) ?_
        obtain ⟨r8, hc7, h⟩ := bn_e h
        refine r_callV1 (ki := 8) (i := 0) (ci := 5) (As := [.int a3, .int a4, .int a5]) C hl.1 hH (c_X5_holds l g  hc7) q1016 q43 q1022 q1014 q1015 nd_X5_holds rfl (by decide) ⟨Nat.zero_le _, Nat.zero_le _⟩ (by decide) (by decide) ⟨_, rfl⟩ rfl (Nat.le_of_ble_eq_true rfl) dX5_move_31 (fun H locs hH => ?_)
        refine lv_if_eq (tgt := 57) hx hb dX5_move_34 (by decide) (fun c16 => ?_) (fun c16 => ?_)
        · replace h := if_t h c16
          exact E_void C hr hH h dX5_move_57
        · replace h := if_f h c16
          refine lv_aload_n hx hb dX5_move_37 rfl (lv_at hl 0 rfl) ?_
          refine gf_X5_13 C hH dX5_move_38 ?_
          refine lv_iload_n hx hb dX5_move_41 rfl (lv_at hl 1 rfl) ?_
          obtain ⟨hv9, h⟩ := ck_e h
          refine r_aaldw C hH ka_25 (t := 2) (fun _ => rfl) rfl (by decide) (by decide) (vi_in hv9) dX5_move_42 (fun w10 ew10 => ?_)
          have hw10 : w10 < 4 := by rw [ew10]; exact Nat.lt_of_lt_of_le (vi_lt hv9) (by decide)
          replace h := lt_e h ew10
          refine lv_iload_n hx hb dX5_move_43 rfl (lv_at hl 2 rfl) ?_
          refine lv_aload_n hx hb dX5_move_44 rfl (lv_at hl 0 rfl) ?_
          refine gf_X5_13 C hH dX5_move_45 ?_
          refine lv_iload_n hx hb dX5_move_48 rfl (lv_at hl 3 rfl) ?_
          obtain ⟨hv11, h⟩ := ck_e h
          refine r_aaldw C hH ka_25 (t := 2) (fun _ => rfl) rfl (by decide) (by decide) (vi_in hv11) dX5_move_49 (fun w12 ew12 => ?_)
          have hw12 : w12 < 4 := by rw [ew12]; exact Nat.lt_of_lt_of_le (vi_lt hv11) (by decide)
          replace h := lt_e h ew12
          refine lv_iload hx hb dX5_move_50 (lv_at hl 4 rfl) ?_
          refine lv_iload hx hb dX5_move_52 (lv_at hl 5 rfl) ?_
          obtain ⟨hv13, h⟩ := ck_e h
          obtain ⟨hv14, h⟩ := ck_e h
          refine r_copy C hl.1 hH ka_26 ka_26 ko_26 (by decide) hw10 (by decide) hw12 hv13 hv14 q1021 (by decide) dX5_move_54 (fun S15 H locs eS hH => ?_)
          replace h := lt_e h eS
          exact E_void C hr hH h dX5_move_57
theorem c_X5_move (l : Launch) (g : gT) {a1 : Int32} {a2 : Int32} {a3 : Int32} {a4 : Int32} {a5 : Int32}  {S : sT} {S1 : sT} (h : f_X5_move a1 a2 a3 a4 a5 S = some S1) : MF l yX5_move cX5_move 6 none 5 g [.ref (gad g 8 0), .int a1, .int a2, .int a3, .int a4, .int a5] S none S1 := by
  refine MF.of (own := RX5) rfl rfl (Nat.le_of_ble_eq_true rfl) ?_
  intro p e s m below meth c C hr hH ls hl
  exact w_X5_move C hr (o := S1)  hH hl h
theorem nd_X5_latestFinding : yX5_latestFinding.cls ≠ "java/lang/invoke/MethodHandle" ∧ yX5_latestFinding.cls ≠ "java/lang/invoke/VarHandle" ∧ (parseMethodDescriptor yX5_latestFinding.desc).map (fun d => d.parameters.length) = some 0 := by decide +kernel
def f_X5_latestFinding  (S : sT) : Option (Int32) :=
 some (S.1 111 0 0)
set_option maxHeartbeats 4000000 in
set_option maxRecDepth 100000 in
theorem w_X5_latestFinding (C : Cx p s m args meth c cX5_latestFinding 1 RX5 g) (hr : meth.sig.returnType = (some .int)) {o : Int32}   {S : sT} {H : Heap} {locs : List Loc} {ls : Array Slot} (hH : Hp g s S H locs) (hl : lv_has ls 1 [(0, .ref (gad g 8 0))]) (h : f_X5_latestFinding  S = some o) : W p l e (rmL 1) s m args below meth c H locs 0 0 (Qm g below args s (some (.int o)) S) (F0 m 0 ls []) := by
  obtain ⟨hx, hb, hml, hown, hts, hlk, hK⟩ := id C
  unfold f_X5_latestFinding at h
  refine lv_aload_n hx hb dX5_latestFinding_0 rfl (lv_at hl 0 rfl) ?_
  refine gf_X5_23 C hH dX5_latestFinding_1 ?_
  exact E_intc C hr hH h dX5_latestFinding_4
theorem c_X5_latestFinding (l : Launch) (g : gT)   {S : sT} {r : Int32} (h : f_X5_latestFinding  S = some r) : MF l yX5_latestFinding cX5_latestFinding 1 (some .int) 1 g [.ref (gad g 8 0)] S (some (.int r)) S := by
  refine MF.of (own := RX5) rfl rfl (Nat.le_of_ble_eq_true rfl) ?_
  intro p e s m below meth c C hr hH ls hl
  exact w_X5_latestFinding C hr (o := r)  hH hl h
end G16
