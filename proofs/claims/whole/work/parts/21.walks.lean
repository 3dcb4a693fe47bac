section G21
variable {p : Program} {l : Launch} {e : Env} {s : State} {m : MethodId} {args : Array Value} {below : List Frame} {meth : Method} {c : Code} {g : gT}
theorem nd_X11_in : yX11_in.cls ≠ "java/lang/invoke/MethodHandle" ∧ yX11_in.cls ≠ "java/lang/invoke/VarHandle" ∧ (parseMethodDescriptor yX11_in.desc).map (fun d => d.parameters.length) = some 3 := by decide +kernel
def f_X11_in (a1 : Int64) (a2 : Int64) (a3 : Int64) (S : sT) : Option (Int32) :=
 (if (lg_cmp a1 a2) < (0 : Int32) then
 some (0 : Int32)
 else
 (if (0 : Int32) < (lg_cmp a1 a3) then
 some (0 : Int32)
 else
 some (1 : Int32)))
set_option maxHeartbeats 4000000 in
set_option maxRecDepth 100000 in
theorem w_X11_in (C : Cx p s m args meth c cX11_in 6 RX11 g) (hr : meth.sig.returnType = (some .boolean)) {o : Int32} {a1 : Int64} {a2 : Int64} {a3 : Int64}  {S : sT} {H : Heap} {locs : List Loc} {ls : Array Slot} (hH : Hp g s S H locs) (hl : lv_has ls 6 [(0, .long a1), (2, .long a2), (4, .long a3)]) (h : f_X11_in a1 a2 a3 S = some o) : W p l e (rmL 1) s m args below meth c H locs 0 0 (Qm g below args s (some (.int o)) S) (F0 m 0 ls []) := by
  obtain ⟨hx, hb, hml, hown, hts, hlk, hK⟩ := id C
  unfold f_X11_in at h
  refine lv_lload_n hx hb dX11_in_0 rfl (lv_at hl 0 rfl) ?_
  refine lv_lload_n hx hb dX11_in_1 rfl (lv_at hl 1 rfl) ?_
  refine W.lcmp hx hb dX11_in_2 ?_
  refine lv_if_lt (tgt := 17) hx hb dX11_in_3 (by decide) (fun c2 => ?_) (fun c2 => ?_)
  · replace h := if_t h c2
    refine lv_iconst (v := (0 : Int32)) hx hb dX11_in_17 (by decide) ?_
    exact E_boolc C hr hH rfl h dX11_in_18
  · replace h := if_f h c2
    refine lv_lload_n hx hb dX11_in_6 rfl (lv_at hl 0 rfl) ?_
    refine lv_lload hx hb dX11_in_7 (lv_at hl 2 rfl) ?_
    refine W.lcmp hx hb dX11_in_9 ?_
    refine lv_if_gt (tgt := 17) hx hb dX11_in_10 (by decide) (fun c1 => ?_) (fun c1 => ?_)
    · replace h := if_t h c1
      refine lv_iconst (v := (0 : Int32)) hx hb dX11_in_17 (by decide) ?_
      exact E_boolc C hr hH rfl h dX11_in_18
    · replace h := if_f h c1
      refine lv_iconst (v := (1 : Int32)) hx hb dX11_in_13 (by decide) ?_
      refine lv_goto (tgt := 18) hx hb dX11_in_14 (by decide) ?_
      exact E_boolc C hr hH rfl h dX11_in_18
theorem c_X11_in (l : Launch) (g : gT) {a1 : Int64} {a2 : Int64} {a3 : Int64}  {S : sT} {r : Int32} (h : f_X11_in a1 a2 a3 S = some r) : MF l yX11_in cX11_in 6 (some .boolean) 1 g [.long a1, .long a2, .long a3] S (some (.int r)) S := by
  refine MF.of (own := RX11) rfl rfl (Nat.le_of_ble_eq_true rfl) ?_
  intro p e s m below meth c C hr hH ls hl
  exact w_X11_in C hr (o := r)  hH hl h
theorem nd_X11_no : yX11_no.cls ≠ "java/lang/invoke/MethodHandle" ∧ yX11_no.cls ≠ "java/lang/invoke/VarHandle" ∧ (parseMethodDescriptor yX11_no.desc).map (fun d => d.parameters.length) = some 1 := by decide +kernel
def f_X11_no (a1 : Int32) (S : sT) : Option (Int64) :=
 some ((-9223372036854775808 : Int64) - ((a1).toInt64))
set_option maxHeartbeats 4000000 in
set_option maxRecDepth 100000 in
theorem w_X11_no (C : Cx p s m args meth c cX11_no 1 RX11 g) (hr : meth.sig.returnType = (some .long)) {o : Int64} {a1 : Int32}  {S : sT} {H : Heap} {locs : List Loc} {ls : Array Slot} (hH : Hp g s S H locs) (hl : lv_has ls 1 [(0, .int a1)]) (h : f_X11_no a1 S = some o) : W p l e (rmL 1) s m args below meth c H locs 0 0 (Qm g below args s (some (.long o)) S) (F0 m 0 ls []) := by
  obtain ⟨hx, hb, hml, hown, hts, hlk, hK⟩ := id C
  unfold f_X11_no at h
  refine lv_ldc2 (v := (-9223372036854775808 : Int64)) hx hb hown (hts _ q895) dX11_no_0 ?_
  refine lv_iload_n hx hb dX11_no_3 rfl (lv_at hl 0 rfl) ?_
  refine lv_i2l hx hb dX11_no_4 rfl ?_
  refine lv_lsub hx hb dX11_no_5 ?_
  exact E_longc C hr hH h dX11_no_6
theorem c_X11_no (l : Launch) (g : gT) {a1 : Int32}  {S : sT} {r : Int64} (h : f_X11_no a1 S = some r) : MF l yX11_no cX11_no 1 (some .long) 1 g [.int a1] S (some (.long r)) S := by
  refine MF.of (own := RX11) rfl rfl (Nat.le_of_ble_eq_true rfl) ?_
  intro p e s m below meth c C hr hH ls hl
  exact w_X11_no C hr (o := r)  hH hl h
theorem nd_X11_isTwo : yX11_isTwo.cls ≠ "java/lang/invoke/MethodHandle" ∧ yX11_isTwo.cls ≠ "java/lang/invoke/VarHandle" ∧ (parseMethodDescriptor yX11_isTwo.desc).map (fun d => d.parameters.length) = some 1 := by decide +kernel
def f_X11_isTwo (a1 : Int32) (S : sT) : Option (Int32) :=
 bn (f_X11_in ((a1).toInt64) (0 : Int64) (1 : Int64) S) (fun r2 =>
 ck (vz r2) (
 some r2))
set_option maxHeartbeats 4000000 in
set_option maxRecDepth 100000 in
theorem w_X11_isTwo (C : Cx p s m args meth c cX11_isTwo 1 RX11 g) (hr : meth.sig.returnType = (some .boolean)) {o : Int32} {a1 : Int32}  {S : sT} {H : Heap} {locs : List Loc} {ls : Array Slot} (hH : Hp g s S H locs) (hl : lv_has ls 1 [(0, .int a1)]) (h : f_X11_isTwo a1 S = some o) : W p l e (rmL 2) s m args below meth c H locs 0 0 (Qm g below args s (some (.int o)) S) (F0 m 0 ls []) := by
  obtain ⟨hx, hb, hml, hown, hts, hlk, hK⟩ := id C
  unfold f_X11_isTwo at h
  refine lv_iload_n hx hb dX11_isTwo_0 rfl (lv_at hl 0 rfl) ?_
  refine lv_i2l hx hb dX11_isTwo_1 rfl ?_
  refine lv_lconst (v := (0 : Int64)) hx hb dX11_isTwo_2 (by decide) ?_
  refine lv_lconst (v := (1 : Int64)) hx hb dX11_isTwo_3 (by decide) ?_
  obtain ⟨r2, hc1, h⟩ := bn_e h
  refine r_callS1 (As := [.long ((a1).toInt64), .long (0 : Int64), .long (1 : Int64)]) C hl.1 hH (c_X11_in l g  hc1) q307 q5 q305 q306 nd_X11_in rfl (by decide) ⟨Nat.zero_le _, Nat.zero_le _⟩ (Nat.le_of_ble_eq_true rfl) dX11_isTwo_4 (fun H locs hH => ?_)
  obtain ⟨hv3, h⟩ := ck_e h
  exact E_boolc C hr hH (vz_n hv3) h dX11_isTwo_7
theorem c_X11_isTwo (l : Launch) (g : gT) {a1 : Int32}  {S : sT} {r : Int32} (h : f_X11_isTwo a1 S = some r) : MF l yX11_isTwo cX11_isTwo 1 (some .boolean) 2 g [.int a1] S (some (.int r)) S := by
  refine MF.of (own := RX11) rfl rfl (Nat.le_of_ble_eq_true rfl) ?_
  intro p e s m below meth c C hr hH ls hl
  exact w_X11_isTwo C hr (o := r)  hH hl h
theorem nd_X11_isIn : yX11_isIn.cls ≠ "java/lang/invoke/MethodHandle" ∧ yX11_isIn.cls ≠ "java/lang/invoke/VarHandle" ∧ (parseMethodDescriptor yX11_isIn.desc).map (fun d => d.parameters.length) = some 2 := by decide +kernel
def f_X11_isIn (a1 : Int32) (a2 : Int32) (S : sT) : Option (Int32) :=
 (if ((a1 >>> (a2 &&& 31)) &&& (1 : Int32)) = (1 : Int32) then
 some (1 : Int32)
 else
 some (0 : Int32))
set_option maxHeartbeats 4000000 in
set_option maxRecDepth 100000 in
theorem w_X11_isIn (C : Cx p s m args meth c cX11_isIn 2 RX11 g) (hr : meth.sig.returnType = (some .boolean)) {o : Int32} {a1 : Int32} {a2 : Int32}  {S : sT} {H : Heap} {locs : List Loc} {ls : Array Slot} (hH : Hp g s S H locs) (hl : lv_has ls 2 [(0, .int a1), (1, .int a2)]) (h : f_X11_isIn a1 a2 S = some o) : W p l e (rmL 1) s m args below meth c H locs 0 0 (Qm g below args s (some (.int o)) S) (F0 m 0 ls []) := by
  obtain ⟨hx, hb, hml, hown, hts, hlk, hK⟩ := id C
  unfold f_X11_isIn at h
  refine lv_iload_n hx hb dX11_isIn_0 rfl (lv_at hl 0 rfl) ?_
  refine lv_iload_n hx hb dX11_isIn_1 rfl (lv_at hl 1 rfl) ?_
  refine lv_ishr hx hb dX11_isIn_2 ?_
  refine lv_iconst (v := (1 : Int32)) hx hb dX11_isIn_3 (by decide) ?_
  refine lv_iand hx hb dX11_isIn_4 ?_
  refine lv_iconst (v := (1 : Int32)) hx hb dX11_isIn_5 (by decide) ?_
  refine lv_icmp_ne (tgt := 13) hx hb dX11_isIn_6 (by decide) (fun c1 => ?_) (fun c1 => ?_)
  · replace h := if_f h c1
    refine lv_iconst (v := (0 : Int32)) hx hb dX11_isIn_13 (by decide) ?_
    exact E_boolc C hr hH rfl h dX11_isIn_14
  · replace h := if_t h c1
    refine lv_iconst (v := (1 : Int32)) hx hb dX11_isIn_9 (by decide) ?_
    refine lv_goto (tgt := 14) hx hb dX11_isIn_10 (by decide) ?_
    exact E_boolc C hr hH rfl h dX11_isIn_14
theorem c_X11_isIn (l : Launch) (g : gT) {a1 : Int32} {a2 : Int32}  {S : sT} {r : Int32} (h : f_X11_isIn a1 a2 S = some r) : MF l yX11_isIn cX11_isIn 2 (some .boolean) 1 g [.int a1, .int a2] S (some (.int r)) S := by
  refine MF.of (own := RX11) rfl rfl (Nat.le_of_ble_eq_true rfl) ?_
  intro p e s m below meth c C hr hH ls hl
  exact w_X11_isIn C hr (o := r)  hH hl h
theorem nd_X11_lesser : yX11_lesser.cls ≠ "java/lang/invoke/MethodHandle" ∧ yX11_lesser.cls ≠ "java/lang/invoke/VarHandle" ∧ (parseMethodDescriptor yX11_lesser.desc).map (fun d => d.parameters.length) = some 2 := by decide +kernel
def f_X11_lesser (a1 : Int32) (a2 : Int32) (S : sT) : Option (Int32) :=
 (if a2 ≤ a1 then
 some a2
 else
 some a1)
set_option maxHeartbeats 4000000 in
set_option maxRecDepth 100000 in
theorem w_X11_lesser (C : Cx p s m args meth c cX11_lesser 2 RX11 g) (hr : meth.sig.returnType = (some .int)) {o : Int32} {a1 : Int32} {a2 : Int32}  {S : sT} {H : Heap} {locs : List Loc} {ls : Array Slot} (hH : Hp g s S H locs) (hl : lv_has ls 2 [(0, .int a1), (1, .int a2)]) (h : f_X11_lesser a1 a2 S = some o) : W p l e (rmL 1) s m args below meth c H locs 0 0 (Qm g below args s (some (.int o)) S) (F0 m 0 ls []) := by
  obtain ⟨hx, hb, hml, hown, hts, hlk, hK⟩ := id C
  unfold f_X11_lesser at h
  refine lv_iload_n hx hb dX11_lesser_0 rfl (lv_at hl 0 rfl) ?_
  refine lv_iload_n hx hb dX11_lesser_1 rfl (lv_at hl 1 rfl) ?_
  refine lv_icmp_ge (tgt := 9) hx hb dX11_lesser_2 (by decide) (fun c1 => ?_) (fun c1 => ?_)
  · replace h := if_t h c1
    refine lv_iload_n hx hb dX11_lesser_9 rfl (lv_at hl 1 rfl) ?_
    exact E_intc C hr hH h dX11_lesser_10
  · replace h := if_f h c1
    refine lv_iload_n hx hb dX11_lesser_5 rfl (lv_at hl 0 rfl) ?_
    refine lv_goto (tgt := 10) hx hb dX11_lesser_6 (by decide) ?_
    exact E_intc C hr hH h dX11_lesser_10
theorem c_X11_lesser (l : Launch) (g : gT) {a1 : Int32} {a2 : Int32}  {S : sT} {r : Int32} (h : f_X11_lesser a1 a2 S = some r) : MF l yX11_lesser cX11_lesser 2 (some .int) 1 g [.int a1, .int a2] S (some (.int r)) S := by
  refine MF.of (own := RX11) rfl rfl (Nat.le_of_ble_eq_true rfl) ?_
  intro p e s m below meth c C hr hH ls hl
  exact w_X11_lesser C hr (o := r)  hH hl h
theorem nd_X11_amount : yX11_amount.cls ≠ "java/lang/invoke/MethodHandle" ∧ yX11_amount.cls ≠ "java/lang/invoke/VarHandle" ∧ (parseMethodDescriptor yX11_amount.desc).map (fun d => d.parameters.length) = some 1 := by decide +kernel
def f_X11_amount (a1 : Int32) (S : sT) : Option (Int32) :=
 (if (0 : Int32) ≤ a1 then
 some a1
 else
 some (-a1))
set_option maxHeartbeats 4000000 in
set_option maxRecDepth 100000 in
theorem w_X11_amount (C : Cx p s m args meth c cX11_amount 1 RX11 g) (hr : meth.sig.returnType = (some .int)) {o : Int32} {a1 : Int32}  {S : sT} {H : Heap} {locs : List Loc} {ls : Array Slot} (hH : Hp g s S H locs) (hl : lv_has ls 1 [(0, .int a1)]) (h : f_X11_amount a1 S = some o) : W p l e (rmL 1) s m args below meth c H locs 0 0 (Qm g below args s (some (.int o)) S) (F0 m 0 ls []) := by
  obtain ⟨hx, hb, hml, hown, hts, hlk, hK⟩ := id C
  unfold f_X11_amount at h
  refine lv_iload_n hx hb dX11_amount_0 rfl (lv_at hl 0 rfl) ?_
  refine lv_if_ge (tgt := 9) hx hb dX11_amount_1 (by decide) (fun c1 => ?_) (fun c1 => ?_)
  · replace h := if_t h c1
    refine lv_iload_n hx hb dX11_amount_9 rfl (lv_at hl 0 rfl) ?_
    exact E_intc C hr hH h dX11_amount_10
  · replace h := if_f h c1
    refine lv_iload_n hx hb dX11_amount_4 rfl (lv_at hl 0 rfl) ?_
    refine lv_ineg hx hb dX11_amount_5 ?_
    refine lv_goto (tgt := 10) hx hb dX11_amount_6 (by decide) ?_
    exact E_intc C hr hH h dX11_amount_10
theorem c_X11_amount (l : Launch) (g : gT) {a1 : Int32}  {S : sT} {r : Int32} (h : f_X11_amount a1 S = some r) : MF l yX11_amount cX11_amount 1 (some .int) 1 g [.int a1] S (some (.int r)) S := by
  refine MF.of (own := RX11) rfl rfl (Nat.le_of_ble_eq_true rfl) ?_
  intro p e s m below meth c C hr hH ls hl
  exact w_X11_amount C hr (o := r)  hH hl h
theorem nd_X11_part : yX11_part.cls ≠ "java/lang/invoke/MethodHandle" ∧ yX11_part.cls ≠ "java/lang/invoke/VarHandle" ∧ (parseMethodDescriptor yX11_part.desc).map (fun d => d.parameters.length) = some 3 := by decide +kernel
def b_X11_part_6 (j5 : Int64 → Option (Int64)) (x6 : Int64) (x7 : Int64) (k8 : Int64 → Int64 → Option (Int64)) : Option (Int64) :=
 (if (lg_cmp x7 (0 : Int64)) = (0 : Int32) then
 j5 x6
 else
 ck (nzl x7) (
 lt (x6 - x6 / x7 * x7) (fun x10 =>
 k8 x7 x10)))
def l_X11_part_6 (j5 : Int64 → Option (Int64)) : Nat → Int64 → Int64 → Option (Int64)
 | 0, _, _ => none
 | n + 1, x6, x7 => b_X11_part_6 j5 x6 x7 (l_X11_part_6 j5 n)
theorem l_X11_part_6_s (j5 : Int64 → Option (Int64)) (n : Nat) (x6 : Int64) (x7 : Int64) : l_X11_part_6 j5 (n + 1) x6 x7 = b_X11_part_6 j5 x6 x7 (l_X11_part_6 j5 n) := rfl
def f_X11_part (a1 : Int64) (a2 : Int64) (a3 : Int32) (S : sT) : Option (Int64) :=
 jn (fun (x1 : Int64) => (if a3 = (0 : Int32) then
 ck (nzl x1) (
 some (a1 / x1))
 else
 ck (nzl x1) (
 some (a2 / x1))))
 (fun j5 => l_X11_part_6 j5 FU a1 a2)
set_option maxHeartbeats 4000000 in
set_option maxRecDepth 100000 in
theorem w_X11_part_6 (C : Cx p s m args meth c cX11_part 11 RX11 g) (hr : meth.sig.returnType = (some .long)) {o : Int64}  {a1 : Int64} {a2 : Int64} {a3 : Int32} {S : sT}  (j5 : Int64 → Option (Int64)) (hj5 : ∀ (x1 : Int64) (H : Heap) (locs : List Loc) (ls : Array Slot), Hp g s S H locs → lv_has ls 11 [(0, .long a1), (2, .long a2), (4, .int a3), (5, .long x1)] → j5 x1 = some o → W p l e (rmL 1) s m args below meth c H locs 0 0 (Qm g below args s (some (.long o)) S) (F0 m 31 ls [])) : ∀ (n : Nat) (x6 : Int64) (x7 : Int64) (H : Heap) (locs : List Loc) (ls : Array Slot), Hp g s S H locs → lv_has ls 11 [(0, .long a1), (2, .long a2), (4, .int a3), (5, .long x6), (7, .long x7)] → l_X11_part_6 j5 n x6 x7 = some o → W p l e (rmL 1) s m args below meth c H locs 0 0 (Qm g below args s (some (.long o)) S) (F0 m 6 ls []) := by
  obtain ⟨hx, hb, hml, hown, hts, hlk, hK⟩ := id C
  intro n
  induction n with
  | zero =>
    intro x6 x7 H locs ls hH hl h
    cases h
  | succ n ih =>
    intro x6 x7 H locs ls hH hl h
    rw [l_X11_part_6_s] at h
    unfold b_X11_part_6 at h
    refine lv_lload hx hb dX11_part_6 (lv_at hl 4 rfl) ?_
    refine lv_lconst (v := (0 : Int64)) hx hb dX11_part_8 (by decide) ?_
    refine W.lcmp hx hb dX11_part_9 ?_
    refine lv_if_eq (tgt := 31) hx hb dX11_part_10 (by decide) (fun c11 => ?_) (fun c11 => ?_)
    · replace h := if_t h c11
      exact hj5 _ _ _ _ hH (lv_sub hl [0, 1, 2, 3] rfl) h
    · replace h := if_f h c11
      refine lv_lload hx hb dX11_part_13 (lv_at hl 3 rfl) ?_
      refine lv_lload hx hb dX11_part_15 (lv_at hl 4 rfl) ?_
      obtain ⟨hv9, h⟩ := ck_e h
      refine lv_lrem hx hb dX11_part_17 (nzl_e hv9) ?_
      refine lv_topl (fun x10 ex10 => ?_)
      replace h := lt_e h ex10
      refine lv_lstore (lv' := [(9, .long x10), (0, .long a1), (2, .long a2), (4, .int a3), (5, .long x6), (7, .long x7)]) hx hb dX11_part_18 hl (by decide) rfl (fun ls hl => ?_)
      refine lv_lload hx hb dX11_part_20 (lv_at hl 5 rfl) ?_
      refine lv_lstore (lv' := [(5, .long x7), (9, .long x10), (0, .long a1), (2, .long a2), (4, .int a3), (7, .long x7)]) hx hb dX11_part_22 hl (by decide) rfl (fun ls hl => ?_)
      refine lv_lload hx hb dX11_part_24 (lv_at hl 1 rfl) ?_
      refine lv_lstore (lv' := [(7, .long x10), (5, .long x7), (9, .long x10), (0, .long a1), (2, .long a2), (4, .int a3)]) hx hb dX11_part_26 hl (by decide) rfl (fun ls hl => ?_)
      refine lv_goto (tgt := 6) hx hb dX11_part_28 (by decide) ?_
      exact ih _ _ _ _ _ hH (lv_sub hl [3, 4, 5, 1, 0] rfl) h
set_option maxHeartbeats 4000000 in
set_option maxRecDepth 100000 in
theorem w_X11_part (C : Cx p s m args meth c cX11_part 11 RX11 g) (hr : meth.sig.returnType = (some .long)) {o : Int64} {a1 : Int64} {a2 : Int64} {a3 : Int32}  {S : sT} {H : Heap} {locs : List Loc} {ls : Array Slot} (hH : Hp g s S H locs) (hl : lv_has ls 11 [(0, .long a1), (2, .long a2), (4, .int a3)]) (h : f_X11_part a1 a2 a3 S = some o) : W p l e (rmL 1) s m args below meth c H locs 0 0 (Qm g below args s (some (.long o)) S) (F0 m 0 ls []) := by
  obtain ⟨hx, hb, hml, hown, hts, hlk, hK⟩ := id C
  unfold f_X11_part at h
  refine lv_lload_n hx hb dX11_part_0 rfl (lv_at hl 0 rfl) ?_
  refine lv_lstore (lv' := [(5, .long a1), (0, .long a1), (2, .long a2), (4, .int a3)]) hx hb dX11_part_1 hl (by decide) rfl (fun ls hl => ?_)
  refine lv_lload_n hx hb dX11_part_3 rfl (lv_at hl 2 rfl) ?_
  refine lv_lstore (lv' := [(7, .long a2), (5, .long a1), (0, .long a1), (2, .long a2), (4, .int a3)]) hx hb dX11_part_4 hl (by decide) rfl (fun ls hl => ?_)
  obtain ⟨j5, ej5, h⟩ := jn_e h
  have hj5 : ∀ (x1 : Int64) (H : Heap) (locs : List Loc) (ls : Array Slot), Hp g s S H locs → lv_has ls 11 [(0, .long a1), (2, .long a2), (4, .int a3), (5, .long x1)] → j5 x1 = some o → W p l e (rmL 1) s m args below meth c H locs 0 0 (Qm g below args s (some (.long o)) S) (F0 m 31 ls []) := by
    intro x1 H locs ls hH hl h
    rw [ej5] at h
    try dsimp only at h
    refine lv_iload hx hb dX11_part_31 (lv_at hl 2 rfl) ?_
    refine lv_if_ne (tgt := 40) hx hb dX11_part_33 (by decide) (fun c4 => ?_) (fun c4 => ?_)
    · replace h := if_f h c4
      refine lv_lload_n hx hb dX11_part_40 rfl (lv_at hl 1 rfl) ?_
      refine lv_lload hx hb dX11_part_41 (lv_at hl 3 rfl) ?_
      obtain ⟨hv2, h⟩ := ck_e h
      refine lv_ldiv hx hb dX11_part_43 (nzl_e hv2) ?_
      exact E_longc C hr hH h dX11_part_44
    · replace h := if_t h c4
      refine lv_lload_n hx hb dX11_part_36 rfl (lv_at hl 0 rfl) ?_
      refine lv_goto (tgt := 41) hx hb dX11_part_37 (by decide) ?_
      refine lv_lload hx hb dX11_part_41 (lv_at hl 3 rfl) ?_
      obtain ⟨hv3, h⟩ := ck_e h
      refine lv_ldiv hx hb dX11_part_43 (nzl_e hv3) ?_
      exact E_longc C hr hH h dX11_part_44
  clear ej5
  exact w_X11_part_6 C hr  j5 hj5 _ _ _ _ _ _ hH (lv_sub hl [2, 3, 4, 1, 0] rfl) h
theorem c_X11_part (l : Launch) (g : gT) {a1 : Int64} {a2 : Int64} {a3 : Int32}  {S : sT} {r : Int64} (h : f_X11_part a1 a2 a3 S = some r) : MF l yX11_part cX11_part 11 (some .long) 1 g [.long a1, .long a2, .int a3] S (some (.long r)) S := by
  refine MF.of (own := RX11) rfl rfl (Nat.le_of_ble_eq_true rfl) ?_
  intro p e s m below meth c C hr hH ls hl
  exact w_X11_part C hr (o := r)  hH hl h
theorem nd_X11_finds : yX11_finds.cls ≠ "java/lang/invoke/MethodHandle" ∧ yX11_finds.cls ≠ "java/lang/invoke/VarHandle" ∧ (parseMethodDescriptor yX11_finds.desc).map (fun d => d.parameters.length) = some 1 := by decide +kernel
def f_X11_finds (a1 : Int32) (S : sT) : Option (Int32 × sT) :=
 lt (us S 113 0 0 a1) (fun S1 =>
 some (((-10 : Int32) - a1), S1))
set_option maxHeartbeats 4000000 in
set_option maxRecDepth 100000 in
theorem w_X11_finds (C : Cx p s m args meth c cX11_finds 2 RX11 g) (hr : meth.sig.returnType = (some .int)) {o : Int32 × sT} {a1 : Int32}  {S : sT} {H : Heap} {locs : List Loc} {ls : Array Slot} (hH : Hp g s S H locs) (hl : lv_has ls 2 [(0, .ref (gad g 10 0)), (1, .int a1)]) (h : f_X11_finds a1 S = some o) : W p l e (rmL 1) s m args below meth c H locs 0 0 (Qm g below args s (some (.int o.1)) o.2) (F0 m 0 ls []) := by
  obtain ⟨hx, hb, hml, hown, hts, hlk, hK⟩ := id C
  unfold f_X11_finds at h
  refine lv_aload_n hx hb dX11_finds_0 rfl (lv_at hl 0 rfl) ?_
  refine lv_iload_n hx hb dX11_finds_1 rfl (lv_at hl 1 rfl) ?_
  refine pf_X11_62 C hH dX11_finds_2 (fun S1 H locs eS hH => ?_)
  replace h := lt_e h eS
  refine lv_bipush (v := (-10 : Int32)) hx hb dX11_finds_5 (by decide) ?_
  refine lv_iload_n hx hb dX11_finds_7 rfl (lv_at hl 1 rfl) ?_
  refine lv_isub hx hb dX11_finds_8 ?_
  exact E_int C hr hH h dX11_finds_9
theorem c_X11_finds (l : Launch) (g : gT) {a1 : Int32}  {S : sT} {r : Int32} {S1 : sT} (h : f_X11_finds a1 S = some (r, S1)) : MF l yX11_finds cX11_finds 2 (some .int) 1 g [.ref (gad g 10 0), .int a1] S (some (.int r)) S1 := by
  refine MF.of (own := RX11) rfl rfl (Nat.le_of_ble_eq_true rfl) ?_
  intro p e s m below meth c C hr hH ls hl
  exact w_X11_finds C hr (o := (r, S1))  hH hl h
theorem nd_X11_isSheet : yX11_isSheet.cls ≠ "java/lang/invoke/MethodHandle" ∧ yX11_isSheet.cls ≠ "java/lang/invoke/VarHandle" ∧ (parseMethodDescriptor yX11_isSheet.desc).map (fun d => d.parameters.length) = some 1 := by decide +kernel
def f_X11_isSheet (a1 : Int32) (S : sT) : Option (Int32) :=
 bn (f_X11_in ((a1).toInt64) (0 : Int64) (3 : Int64) S) (fun r2 =>
 ck (vz r2) (
 some r2))
set_option maxHeartbeats 4000000 in
set_option maxRecDepth 100000 in
theorem w_X11_isSheet (C : Cx p s m args meth c cX11_isSheet 1 RX11 g) (hr : meth.sig.returnType = (some .boolean)) {o : Int32} {a1 : Int32}  {S : sT} {H : Heap} {locs : List Loc} {ls : Array Slot} (hH : Hp g s S H locs) (hl : lv_has ls 1 [(0, .int a1)]) (h : f_X11_isSheet a1 S = some o) : W p l e (rmL 2) s m args below meth c H locs 0 0 (Qm g below args s (some (.int o)) S) (F0 m 0 ls []) := by
  obtain ⟨hx, hb, hml, hown, hts, hlk, hK⟩ := id C
  unfold f_X11_isSheet at h
  refine lv_iload_n hx hb dX11_isSheet_0 rfl (lv_at hl 0 rfl) ?_
  refine lv_i2l hx hb dX11_isSheet_1 rfl ?_
  refine lv_lconst (v := (0 : Int64)) hx hb dX11_isSheet_2 (by decide) ?_
  refine lv_ldc2 (v := (3 : Int64)) hx hb hown (hts _ q541) dX11_isSheet_3 ?_
  obtain ⟨r2, hc1, h⟩ := bn_e h
  refine r_callS1 (As := [.long ((a1).toInt64), .long (0 : Int64), .long (3 : Int64)]) C hl.1 hH (c_X11_in l g  hc1) q307 q5 q305 q306 nd_X11_in rfl (by decide) ⟨Nat.zero_le _, Nat.zero_le _⟩ (Nat.le_of_ble_eq_true rfl) dX11_isSheet_6 (fun H locs hH => ?_)
  obtain ⟨hv3, h⟩ := ck_e h
  exact E_boolc C hr hH (vz_n hv3) h dX11_isSheet_9
theorem c_X11_isSheet (l : Launch) (g : gT) {a1 : Int32}  {S : sT} {r : Int32} (h : f_X11_isSheet a1 S = some r) : MF l yX11_isSheet cX11_isSheet 1 (some .boolean) 2 g [.int a1] S (some (.int r)) S := by
  refine MF.of (own := RX11) rfl rfl (Nat.le_of_ble_eq_true rfl) ?_
  intro p e s m below meth c C hr hH ls hl
  exact w_X11_isSheet C hr (o := r)  hH hl h
theorem nd_X11_sheet : yX11_sheet.cls ≠ "java/lang/invoke/MethodHandle" ∧ yX11_sheet.cls ≠ "java/lang/invoke/VarHandle" ∧ (parseMethodDescriptor yX11_sheet.desc).map (fun d => d.parameters.length) = some 3 := by decide +kernel
def b_X11_sheet_55 (a1 : Int32) (a3 : Int32) (x9 : Int32) (S10 : sT) (k11 : Int32 → sT → Option (Int32 × sT)) : Option (Int32 × sT) :=
 (if a3 ≤ x9 then
 some (a3, S10)
 else
 ck (vi (((60 : Int32) * a1) + x9) 240) (
 lt (us S10 35 0 (cl (((60 : Int32) * a1) + x9)) (0 : Int32)) (fun S13 =>
 lt (x9 + (1 : Int32)) (fun x14 =>
 k11 x14 S13))))
def l_X11_sheet_55 (a1 : Int32) (a3 : Int32) : Nat → Int32 → sT → Option (Int32 × sT)
 | 0, _, _ => none
 | n + 1, x9, S10 => b_X11_sheet_55 a1 a3 x9 S10 (l_X11_sheet_55 a1 a3 n)
theorem l_X11_sheet_55_s (a1 : Int32) (a3 : Int32) (n : Nat) (x9 : Int32) (S10 : sT) : l_X11_sheet_55 a1 a3 (n + 1) x9 S10 = b_X11_sheet_55 a1 a3 x9 S10 (l_X11_sheet_55 a1 a3 n) := rfl
def f_X11_sheet (a1 : Int32) (a2 : Int32) (a3 : Int32) (S : sT) : Option (Int32 × sT) :=
 bn (f_X11_isSheet a1 S) (fun r2 =>
 (if r2 = (0 : Int32) then
 some ((-2 : Int32), S)
 else
 bn (f_X11_in ((a2).toInt64) (0 : Int64) (2 : Int64) S) (fun r4 =>
 (if r4 = (0 : Int32) then
 some ((-2 : Int32), S)
 else
 (if a3 ≤ (60 : Int32) then
 (if (0 : Int32) ≤ a3 then
 ck (vi a1 4) (
 lt (us S 33 0 (cl a1) a2) (fun S6 =>
 ck (vi a1 4) (
 lt (us S6 34 0 (cl a1) a3) (fun S8 =>
 l_X11_sheet_55 a1 a3 FU (0 : Int32) S8))))
 else
 bn2 (f_X11_finds (5 : Int32) S) (fun r17 S18 =>
 some (r17, S18)))
 else
 some ((-2 : Int32), S))))))
set_option maxHeartbeats 4000000 in
set_option maxRecDepth 100000 in
theorem w_X11_sheet_55 (C : Cx p s m args meth c cX11_sheet 5 RX11 g) (hr : meth.sig.returnType = (some .int)) {o : Int32 × sT}  {a1 : Int32} {a3 : Int32}   : ∀ (n : Nat) (x9 : Int32) (S10 : sT) (H : Heap) (locs : List Loc) (ls : Array Slot), Hp g s S10 H locs → lv_has ls 5 [(0, .ref (gad g 10 0)), (1, .int a1), (3, .int a3), (4, .int x9)] → l_X11_sheet_55 a1 a3 n x9 S10 = some o → W p l e (rmL 3) s m args below meth c H locs 0 0 (Qm g below args s (some (.int o.1)) o.2) (F0 m 55 ls []) := by
  obtain ⟨hx, hb, hml, hown, hts, hlk, hK⟩ := id C
  intro n
  induction n with
  | zero =>
    intro x9 S10 H locs ls hH hl h
    cases h
  | succ n ih =>
    intro x9 S10 H locs ls hH hl h
    rw [l_X11_sheet_55_s] at h
    unfold b_X11_sheet_55 at h
    refine lv_iload hx hb dX11_sheet_55 (lv_at hl 3 rfl) ?_
    refine lv_iload_n hx hb dX11_sheet_57 rfl (lv_at hl 2 rfl) ?_
    refine lv_icmp_ge (tgt := 80) hx hb dX11_sheet_58 (by decide) (fun c15 => ?_) (fun c15 => ?_)
    · replace h := if_t h c15
      refine lv_iload_n hx hb dX11_sheet_80 rfl (lv_at hl 2 rfl) ?_
      exact E_int C hr hH h dX11_sheet_81
    · replace h := if_f h c15
      refine lv_aload_n hx hb dX11_sheet_61 rfl (lv_at hl 0 rfl) ?_
      refine gf_X11_16 C hH dX11_sheet_62 ?_
      refine lv_bipush (v := (60 : Int32)) hx hb dX11_sheet_65 (by decide) ?_
      refine lv_iload_n hx hb dX11_sheet_67 rfl (lv_at hl 1 rfl) ?_
      refine lv_imul hx hb dX11_sheet_68 ?_
      refine lv_iload hx hb dX11_sheet_69 (lv_at hl 3 rfl) ?_
      refine lv_iadd hx hb dX11_sheet_71 ?_
      refine lv_iconst (v := (0 : Int32)) hx hb dX11_sheet_72 (by decide) ?_
      obtain ⟨hv12, h⟩ := ck_e h
      refine r_ast C hH ka_35 ko_35 (by decide) (by decide) (vi_in hv12) dX11_sheet_73 (fun S13 H locs eS hH => ?_)
      replace h := lt_e h eS
      obtain ⟨x14, ex14⟩ : ∃ z : Int32, z = (x9 + (1 : Int32)) := ⟨_, rfl⟩
      replace h := lt_e h ex14
      refine lv_iinc (v := x14) (lv' := [(4, .int x14), (0, .ref (gad g 10 0)), (1, .int a1), (3, .int a3)]) hx hb dX11_sheet_74 hl (k := 3) rfl (by rw [ex14]; rfl) (by decide) rfl (fun ls hl => ?_)
      refine lv_goto (tgt := 55) hx hb dX11_sheet_77 (by decide) ?_
      exact ih _ _ _ _ _ hH (lv_sub hl [1, 2, 3, 0] rfl) h
set_option maxHeartbeats 4000000 in
set_option maxRecDepth 100000 in
theorem w_X11_sheet (C : Cx p s m args meth c cX11_sheet 5 RX11 g) (hr : meth.sig.returnType = (some .int)) {o : Int32 × sT} {a1 : Int32} {a2 : Int32} {a3 : Int32}  {S : sT} {H : Heap} {locs : List Loc} {ls : Array Slot} (hH : Hp g s S H locs) (hl : lv_has ls 5 [(0, .ref (gad g 10 0)), (1, .int a1), (2, .int a2), (3, .int a3)]) (h : f_X11_sheet a1 a2 a3 S = some o) : W p l e (rmL 3) s m args below meth c H locs 0 0 (Qm g below args s (some (.int o.1)) o.2) (F0 m 0 ls []) := by
  obtain ⟨hx, hb, hml, hown, hts, hlk, hK⟩ := id C
  unfold f_X11_sheet at h
  refine lv_iload_n hx hb dX11_sheet_0 rfl (lv_at hl 1 rfl) ?_
  obtain ⟨r2, hc1, h⟩ := bn_e h
  refine r_callS1 (As := [.int a1]) C hl.1 hH (c_X11_isSheet l g  hc1) q809 q5 q807 q808 nd_X11_isSheet rfl (by decide) ⟨Nat.zero_le _, Nat.zero_le _⟩ (Nat.le_of_ble_eq_true rfl) dX11_sheet_1 (fun H locs hH => ?_)
  refine lv_if_eq (tgt := 25) hx hb dX11_sheet_4 (by decide) (fun c22 => ?_) (fun c22 => ?_)
  · replace h := if_t h c22
    refine lv_bipush (v := (-2 : Int32)) hx hb dX11_sheet_25 (by decide) ?_
    exact E_int C hr hH h dX11_sheet_27
  · replace h := if_f h c22
    refine lv_iload_n hx hb dX11_sheet_7 rfl (lv_at hl 2 rfl) ?_
    refine lv_i2l hx hb dX11_sheet_8 rfl ?_
    refine lv_lconst (v := (0 : Int64)) hx hb dX11_sheet_9 (by decide) ?_
    refine lv_ldc2 (v := (2 : Int64)) hx hb hown (hts _ q590) dX11_sheet_10 ?_
    obtain ⟨r4, hc3, h⟩ := bn_e h
    refine r_callS1 (As := [.long ((a2).toInt64), .long (0 : Int64), .long (2 : Int64)]) C hl.1 hH (c_X11_in l g  hc3) q307 q5 q305 q306 nd_X11_in rfl (by decide) ⟨Nat.zero_le _, Nat.zero_le _⟩ (Nat.le_of_ble_eq_true rfl) dX11_sheet_13 (fun H locs hH => ?_)
    refine lv_if_eq (tgt := 25) hx hb dX11_sheet_16 (by decide) (fun c21 => ?_) (fun c21 => ?_)
    · replace h := if_t h c21
      refine lv_bipush (v := (-2 : Int32)) hx hb dX11_sheet_25 (by decide) ?_
      exact E_int C hr hH h dX11_sheet_27
    · replace h := if_f h c21
      refine lv_iload_n hx hb dX11_sheet_19 rfl (lv_at hl 3 rfl) ?_
      refine lv_bipush (v := (60 : Int32)) hx hb dX11_sheet_20 (by decide) ?_
      refine lv_icmp_le (tgt := 28) hx hb dX11_sheet_22 (by decide) (fun c20 => ?_) (fun c20 => ?_)
      · replace h := if_t h c20
        refine lv_iload_n hx hb dX11_sheet_28 rfl (lv_at hl 3 rfl) ?_
        refine lv_if_ge (tgt := 38) hx hb dX11_sheet_29 (by decide) (fun c19 => ?_) (fun c19 => ?_)
        · replace h := if_t h c19
          refine lv_aload_n hx hb dX11_sheet_38 rfl (lv_at hl 0 rfl) ?_
          refine gf_X11_7 C hH dX11_sheet_39 ?_
          refine lv_iload_n hx hb dX11_sheet_42 rfl (lv_at hl 1 rfl) ?_
          refine lv_iload_n hx hb dX11_sheet_43 rfl (lv_at hl 2 rfl) ?_
          obtain ⟨hv5, h⟩ := ck_e h
          refine r_ast C hH ka_33 ko_33 (by decide) (by decide) (vi_in hv5) dX11_sheet_44 (fun S6 H locs eS hH => ?_)
          replace h := lt_e h eS
          refine lv_aload_n hx hb dX11_sheet_45 rfl (lv_at hl 0 rfl) ?_
          refine gf_X11_13 C hH dX11_sheet_46 ?_
          refine lv_iload_n hx hb dX11_sheet_49 rfl (lv_at hl 1 rfl) ?_
          refine lv_iload_n hx hb dX11_sheet_50 rfl (lv_at hl 3 rfl) ?_
          obtain ⟨hv7, h⟩ := ck_e h
          refine r_ast C hH ka_34 ko_34 (by decide) (by decide) (vi_in hv7) dX11_sheet_51 (fun S8 H locs eS hH => ?_)
          replace h := lt_e h eS
          refine lv_iconst (v := (0 : Int32)) hx hb dX11_sheet_52 (by decide) ?_
          refine lv_istore (lv' := [(4, .int (0 : Int32)), (0, .ref (gad g 10 0)), (1, .int a1), (2, .int a2), (3, .int a3)]) hx hb dX11_sheet_53 hl (by decide) rfl (fun ls hl => ?_)
          exact w_X11_sheet_55 C hr   _ _ _ _ _ _ hH (lv_sub hl [1, 2, 4, 0] rfl) h
        · replace h := if_f h c19
          refine lv_aload_n hx hb dX11_sheet_32 rfl (lv_at hl 0 rfl) ?_
          refine lv_iconst (v := (5 : Int32)) hx hb dX11_sheet_33 (by decide) ?_
          obtain ⟨r17, S18, hc16, h⟩ := bn2_e h
          refine r_callV1 (ki := 10) (i := 0) (ci := 10) (As := [.int (5 : Int32)]) C hl.1 hH (c_X11_finds l g  hc16) q813 q5 q810 q811 q812 nd_X11_finds rfl (by decide) ⟨Nat.zero_le _, Nat.zero_le _⟩ (by decide) (by decide) ⟨_, rfl⟩ rfl (Nat.le_of_ble_eq_true rfl) dX11_sheet_34 (fun H locs hH => ?_)
          exact E_int C hr hH h dX11_sheet_37
      · replace h := if_f h c20
        refine lv_bipush (v := (-2 : Int32)) hx hb dX11_sheet_25 (by decide) ?_
        exact E_int C hr hH h dX11_sheet_27
theorem c_X11_sheet (l : Launch) (g : gT) {a1 : Int32} {a2 : Int32} {a3 : Int32}  {S : sT} {r : Int32} {S1 : sT} (h : f_X11_sheet a1 a2 a3 S = some (r, S1)) : MF l yX11_sheet cX11_sheet 5 (some .int) 3 g [.ref (gad g 10 0), .int a1, .int a2, .int a3] S (some (.int r)) S1 := by
  refine MF.of (own := RX11) rfl rfl (Nat.le_of_ble_eq_true rfl) ?_
  intro p e s m below meth c C hr hH ls hl
  exact w_X11_sheet C hr (o := (r, S1))  hH hl h
theorem nd_X11_lose : yX11_lose.cls ≠ "java/lang/invoke/MethodHandle" ∧ yX11_lose.cls ≠ "java/lang/invoke/VarHandle" ∧ (parseMethodDescriptor yX11_lose.desc).map (fun d => d.parameters.length) = some 1 := by decide +kernel
def f_X11_lose (a1 : Int32) (S : sT) : Option (Int32 × sT) :=
 bn (f_X11_isSheet a1 S) (fun r2 =>
 (if r2 = (0 : Int32) then
 some ((-2 : Int32), S)
 else
 ck (vi a1 4) (
 (if (0 : Int32) ≤ (S.1 33 0 (cl a1)) then
 ck (vi a1 4) (
 lt (us S 33 0 (cl a1) (-1 : Int32)) (fun S5 =>
 ck (vi a1 4) (
 some ((S5.1 34 0 (cl a1)), S5))))
 else
 bn2 (f_X11_finds (1 : Int32) S) (fun r8 S9 =>
 some (r8, S9))))))
set_option maxHeartbeats 4000000 in
set_option maxRecDepth 100000 in
theorem w_X11_lose (C : Cx p s m args meth c cX11_lose 2 RX11 g) (hr : meth.sig.returnType = (some .int)) {o : Int32 × sT} {a1 : Int32}  {S : sT} {H : Heap} {locs : List Loc} {ls : Array Slot} (hH : Hp g s S H locs) (hl : lv_has ls 2 [(0, .ref (gad g 10 0)), (1, .int a1)]) (h : f_X11_lose a1 S = some o) : W p l e (rmL 3) s m args below meth c H locs 0 0 (Qm g below args s (some (.int o.1)) o.2) (F0 m 0 ls []) := by
  obtain ⟨hx, hb, hml, hown, hts, hlk, hK⟩ := id C
  unfold f_X11_lose at h
  refine lv_iload_n hx hb dX11_lose_0 rfl (lv_at hl 1 rfl) ?_
  obtain ⟨r2, hc1, h⟩ := bn_e h
  refine r_callS1 (As := [.int a1]) C hl.1 hH (c_X11_isSheet l g  hc1) q809 q5 q807 q808 nd_X11_isSheet rfl (by decide) ⟨Nat.zero_le _, Nat.zero_le _⟩ (Nat.le_of_ble_eq_true rfl) dX11_lose_1 (fun H locs hH => ?_)
  refine lv_if_ne (tgt := 10) hx hb dX11_lose_4 (by decide) (fun c11 => ?_) (fun c11 => ?_)
  · replace h := if_f h c11
    refine lv_aload_n hx hb dX11_lose_10 rfl (lv_at hl 0 rfl) ?_
    refine gf_X11_7 C hH dX11_lose_11 ?_
    refine lv_iload_n hx hb dX11_lose_14 rfl (lv_at hl 1 rfl) ?_
    obtain ⟨hv3, h⟩ := ck_e h
    refine r_ald C hH ka_33 (by decide) (by decide) (vi_in hv3) dX11_lose_15 ?_
    refine lv_if_ge (tgt := 25) hx hb dX11_lose_16 (by decide) (fun c10 => ?_) (fun c10 => ?_)
    · replace h := if_t h c10
      refine lv_aload_n hx hb dX11_lose_25 rfl (lv_at hl 0 rfl) ?_
      refine gf_X11_7 C hH dX11_lose_26 ?_
      refine lv_iload_n hx hb dX11_lose_29 rfl (lv_at hl 1 rfl) ?_
      refine lv_iconst (v := (-1 : Int32)) hx hb dX11_lose_30 (by decide) ?_
      obtain ⟨hv4, h⟩ := ck_e h
      refine r_ast C hH ka_33 ko_33 (by decide) (by decide) (vi_in hv4) dX11_lose_31 (fun S5 H locs eS hH => ?_)
      replace h := lt_e h eS
      refine lv_aload_n hx hb dX11_lose_32 rfl (lv_at hl 0 rfl) ?_
      refine gf_X11_13 C hH dX11_lose_33 ?_
      refine lv_iload_n hx hb dX11_lose_36 rfl (lv_at hl 1 rfl) ?_
      obtain ⟨hv6, h⟩ := ck_e h
      refine r_ald C hH ka_34 (by decide) (by decide) (vi_in hv6) dX11_lose_37 ?_
      exact E_int C hr hH h dX11_lose_38
    · replace h := if_f h c10
      refine lv_aload_n hx hb dX11_lose_19 rfl (lv_at hl 0 rfl) ?_
      refine lv_iconst (v := (1 : Int32)) hx hb dX11_lose_20 (by decide) ?_
      obtain ⟨r8, S9, hc7, h⟩ := bn2_e h
      refine r_callV1 (ki := 10) (i := 0) (ci := 10) (As := [.int (1 : Int32)]) C hl.1 hH (c_X11_finds l g  hc7) q813 q5 q810 q811 q812 nd_X11_finds rfl (by decide) ⟨Nat.zero_le _, Nat.zero_le _⟩ (by decide) (by decide) ⟨_, rfl⟩ rfl (Nat.le_of_ble_eq_true rfl) dX11_lose_21 (fun H locs hH => ?_)
      exact E_int C hr hH h dX11_lose_24
  · replace h := if_t h c11
    refine lv_bipush (v := (-2 : Int32)) hx hb dX11_lose_7 (by decide) ?_
    exact E_int C hr hH h dX11_lose_9
theorem c_X11_lose (l : Launch) (g : gT) {a1 : Int32}  {S : sT} {r : Int32} {S1 : sT} (h : f_X11_lose a1 S = some (r, S1)) : MF l yX11_lose cX11_lose 2 (some .int) 3 g [.ref (gad g 10 0), .int a1] S (some (.int r)) S1 := by
  refine MF.of (own := RX11) rfl rfl (Nat.le_of_ble_eq_true rfl) ?_
  intro p e s m below meth c C hr hH ls hl
  exact w_X11_lose C hr (o := (r, S1))  hH hl h
theorem nd_X11_lacks : yX11_lacks.cls ≠ "java/lang/invoke/MethodHandle" ∧ yX11_lacks.cls ≠ "java/lang/invoke/VarHandle" ∧ (parseMethodDescriptor yX11_lacks.desc).map (fun d => d.parameters.length) = some 3 := by decide +kernel
def f_X11_lacks (a1 : Int32) (a2 : Int32) (a3 : Int32) (S : sT) : Option (Int32 × sT) :=
 ck (vi a1 4) (
 (if (0 : Int32) ≤ (S.1 33 0 (cl a1)) then
 ck (vi a1 4) (
 (if (S.1 33 0 (cl a1)) = a2 then
 ck (vi a1 4) (
 bn (f_X11_in ((a3).toInt64) (0 : Int64) ((((S.1 34 0 (cl a1)) - (1 : Int32))).toInt64) S) (fun r5 =>
 (if r5 = (0 : Int32) then
 bn2 (f_X11_finds (2 : Int32) S) (fun r7 S8 =>
 some (r7, S8))
 else
 some ((0 : Int32), S))))
 else
 bn2 (f_X11_finds (3 : Int32) S) (fun r11 S12 =>
 some (r11, S12))))
 else
 bn2 (f_X11_finds (1 : Int32) S) (fun r15 S16 =>
 some (r15, S16))))
set_option maxHeartbeats 4000000 in
set_option maxRecDepth 100000 in
theorem w_X11_lacks (C : Cx p s m args meth c cX11_lacks 4 RX11 g) (hr : meth.sig.returnType = (some .int)) {o : Int32 × sT} {a1 : Int32} {a2 : Int32} {a3 : Int32}  {S : sT} {H : Heap} {locs : List Loc} {ls : Array Slot} (hH : Hp g s S H locs) (hl : lv_has ls 4 [(0, .ref (gad g 10 0)), (1, .int a1), (2, .int a2), (3, .int a3)]) (h : f_X11_lacks a1 a2 a3 S = some o) : W p l e (rmL 2) s m args below meth c H locs 0 0 (Qm g below args s (some (.int o.1)) o.2) (F0 m 0 ls []) := by
  obtain ⟨hx, hb, hml, hown, hts, hlk, hK⟩ := id C
  unfold f_X11_lacks at h
  refine lv_aload_n hx hb dX11_lacks_0 rfl (lv_at hl 0 rfl) ?_
  refine gf_X11_7 C hH dX11_lacks_1 ?_
  refine lv_iload_n hx hb dX11_lacks_4 rfl (lv_at hl 1 rfl) ?_
  obtain ⟨hv1, h⟩ := ck_e h
  refine r_ald C hH ka_33 (by decide) (by decide) (vi_in hv1) dX11_lacks_5 ?_
  refine lv_if_ge (tgt := 15) hx hb dX11_lacks_6 (by decide) (fun c17 => ?_) (fun c17 => ?_)
  · replace h := if_t h c17
    refine lv_aload_n hx hb dX11_lacks_15 rfl (lv_at hl 0 rfl) ?_
    refine gf_X11_7 C hH dX11_lacks_16 ?_
    refine lv_iload_n hx hb dX11_lacks_19 rfl (lv_at hl 1 rfl) ?_
    obtain ⟨hv2, h⟩ := ck_e h
    refine r_ald C hH ka_33 (by decide) (by decide) (vi_in hv2) dX11_lacks_20 ?_
    refine lv_iload_n hx hb dX11_lacks_21 rfl (lv_at hl 2 rfl) ?_
    refine lv_icmp_eq (tgt := 31) hx hb dX11_lacks_22 (by decide) (fun c13 => ?_) (fun c13 => ?_)
    · replace h := if_t h c13
      refine lv_iload_n hx hb dX11_lacks_31 rfl (lv_at hl 3 rfl) ?_
      refine lv_i2l hx hb dX11_lacks_32 rfl ?_
      refine lv_lconst (v := (0 : Int64)) hx hb dX11_lacks_33 (by decide) ?_
      refine lv_aload_n hx hb dX11_lacks_34 rfl (lv_at hl 0 rfl) ?_
      refine gf_X11_13 C hH dX11_lacks_35 ?_
      refine lv_iload_n hx hb dX11_lacks_38 rfl (lv_at hl 1 rfl) ?_
      obtain ⟨hv3, h⟩ := ck_e h
      refine r_ald C hH ka_34 (by decide) (by decide) (vi_in hv3) dX11_lacks_39 ?_
      refine lv_iconst (v := (1 : Int32)) hx hb dX11_lacks_40 (by decide) ?_
      refine lv_isub hx hb dX11_lacks_41 ?_
      refine lv_i2l hx hb dX11_lacks_42 rfl ?_
      obtain ⟨r5, hc4, h⟩ := bn_e h
      refine r_callS1 (As := [.long ((a3).toInt64), .long (0 : Int64), .long ((((S.1 34 0 (cl a1)) - (1 : Int32))).toInt64)]) C hl.1 hH (c_X11_in l g  hc4) q307 q5 q305 q306 nd_X11_in rfl (by decide) ⟨Nat.zero_le _, Nat.zero_le _⟩ (Nat.le_of_ble_eq_true rfl) dX11_lacks_43 (fun H locs hH => ?_)
      refine lv_if_eq (tgt := 53) hx hb dX11_lacks_46 (by decide) (fun c9 => ?_) (fun c9 => ?_)
      · replace h := if_t h c9
        refine lv_aload_n hx hb dX11_lacks_53 rfl (lv_at hl 0 rfl) ?_
        refine lv_iconst (v := (2 : Int32)) hx hb dX11_lacks_54 (by decide) ?_
        obtain ⟨r7, S8, hc6, h⟩ := bn2_e h
        refine r_callV1 (ki := 10) (i := 0) (ci := 10) (As := [.int (2 : Int32)]) C hl.1 hH (c_X11_finds l g  hc6) q813 q5 q810 q811 q812 nd_X11_finds rfl (by decide) ⟨Nat.zero_le _, Nat.zero_le _⟩ (by decide) (by decide) ⟨_, rfl⟩ rfl (Nat.le_of_ble_eq_true rfl) dX11_lacks_55 (fun H locs hH => ?_)
        exact E_int C hr hH h dX11_lacks_58
      · replace h := if_f h c9
        refine lv_iconst (v := (0 : Int32)) hx hb dX11_lacks_49 (by decide) ?_
        refine lv_goto (tgt := 58) hx hb dX11_lacks_50 (by decide) ?_
        exact E_int C hr hH h dX11_lacks_58
    · replace h := if_f h c13
      refine lv_aload_n hx hb dX11_lacks_25 rfl (lv_at hl 0 rfl) ?_
      refine lv_iconst (v := (3 : Int32)) hx hb dX11_lacks_26 (by decide) ?_
      obtain ⟨r11, S12, hc10, h⟩ := bn2_e h
      refine r_callV1 (ki := 10) (i := 0) (ci := 10) (As := [.int (3 : Int32)]) C hl.1 hH (c_X11_finds l g  hc10) q813 q5 q810 q811 q812 nd_X11_finds rfl (by decide) ⟨Nat.zero_le _, Nat.zero_le _⟩ (by decide) (by decide) ⟨_, rfl⟩ rfl (Nat.le_of_ble_eq_true rfl) dX11_lacks_27 (fun H locs hH => ?_)
      exact E_int C hr hH h dX11_lacks_30
  · replace h := if_f h c17
    refine lv_aload_n hx hb dX11_lacks_9 rfl (lv_at hl 0 rfl) ?_
    refine lv_iconst (v := (1 : Int32)) hx hb dX11_lacks_10 (by decide) ?_
    obtain ⟨r15, S16, hc14, h⟩ := bn2_e h
    refine r_callV1 (ki := 10) (i := 0) (ci := 10) (As := [.int (1 : Int32)]) C hl.1 hH (c_X11_finds l g  hc14) q813 q5 q810 q811 q812 nd_X11_finds rfl (by decide) ⟨Nat.zero_le _, Nat.zero_le _⟩ (by decide) (by decide) ⟨_, rfl⟩ rfl (Nat.le_of_ble_eq_true rfl) dX11_lacks_11 (fun H locs hH => ?_)
    exact E_int C hr hH h dX11_lacks_14
theorem c_X11_lacks (l : Launch) (g : gT) {a1 : Int32} {a2 : Int32} {a3 : Int32}  {S : sT} {r : Int32} {S1 : sT} (h : f_X11_lacks a1 a2 a3 S = some (r, S1)) : MF l yX11_lacks cX11_lacks 4 (some .int) 2 g [.ref (gad g 10 0), .int a1, .int a2, .int a3] S (some (.int r)) S1 := by
  refine MF.of (own := RX11) rfl rfl (Nat.le_of_ble_eq_true rfl) ?_
  intro p e s m below meth c C hr hH ls hl
  exact w_X11_lacks C hr (o := (r, S1))  hH hl h
theorem nd_X11_cut : yX11_cut.cls ≠ "java/lang/invoke/MethodHandle" ∧ yX11_cut.cls ≠ "java/lang/invoke/VarHandle" ∧ (parseMethodDescriptor yX11_cut.desc).map (fun d => d.parameters.length) = some 2 := by decide +kernel
def f_X11_cut (a1 : Int32) (a2 : Int32) (S : sT) : Option (Int32) :=
 (if a1 = (0 : Int32) then
 some ((a2).toInt8.toInt32)
 else
 (if a1 = (1 : Int32) then
 some ((a2).toInt16.toInt32)
 else
 some a2))
set_option maxHeartbeats 4000000 in
set_option maxRecDepth 100000 in
theorem w_X11_cut (C : Cx p s m args meth c cX11_cut 2 RX11 g) (hr : meth.sig.returnType = (some .int)) {o : Int32} {a1 : Int32} {a2 : Int32}  {S : sT} {H : Heap} {locs : List Loc} {ls : Array Slot} (hH : Hp g s S H locs) (hl : lv_has ls 2 [(0, .int a1), (1, .int a2)]) (h : f_X11_cut a1 a2 S = some o) : W p l e (rmL 1) s m args below meth c H locs 0 0 (Qm g below args s (some (.int o)) S) (F0 m 0 ls []) := by
  obtain ⟨hx, hb, hml, hown, hts, hlk, hK⟩ := id C
  unfold f_X11_cut at h
  refine lv_iload_n hx hb dX11_cut_0 rfl (lv_at hl 0 rfl) ?_
  refine lv_if_ne (tgt := 9) hx hb dX11_cut_1 (by decide) (fun c2 => ?_) (fun c2 => ?_)
  · replace h := if_f h c2
    refine lv_iload_n hx hb dX11_cut_9 rfl (lv_at hl 0 rfl) ?_
    refine lv_iconst (v := (1 : Int32)) hx hb dX11_cut_10 (by decide) ?_
    refine lv_icmp_ne (tgt := 19) hx hb dX11_cut_11 (by decide) (fun c1 => ?_) (fun c1 => ?_)
    · replace h := if_f h c1
      refine lv_iload_n hx hb dX11_cut_19 rfl (lv_at hl 1 rfl) ?_
      exact E_intc C hr hH h dX11_cut_20
    · replace h := if_t h c1
      refine lv_iload_n hx hb dX11_cut_14 rfl (lv_at hl 1 rfl) ?_
      refine lv_i2s hx hb dX11_cut_15 rfl ?_
      refine lv_goto (tgt := 20) hx hb dX11_cut_16 (by decide) ?_
      exact E_intc C hr hH h dX11_cut_20
  · replace h := if_t h c2
    refine lv_iload_n hx hb dX11_cut_4 rfl (lv_at hl 1 rfl) ?_
    refine lv_i2b hx hb dX11_cut_5 rfl ?_
    refine lv_goto (tgt := 20) hx hb dX11_cut_6 (by decide) ?_
    exact E_intc C hr hH h dX11_cut_20
theorem c_X11_cut (l : Launch) (g : gT) {a1 : Int32} {a2 : Int32}  {S : sT} {r : Int32} (h : f_X11_cut a1 a2 S = some r) : MF l yX11_cut cX11_cut 2 (some .int) 1 g [.int a1, .int a2] S (some (.int r)) S := by
  refine MF.of (own := RX11) rfl rfl (Nat.le_of_ble_eq_true rfl) ?_
  intro p e s m below meth c C hr hH ls hl
  exact w_X11_cut C hr (o := r)  hH hl h
theorem nd_X11_lay : yX11_lay.cls ≠ "java/lang/invoke/MethodHandle" ∧ yX11_lay.cls ≠ "java/lang/invoke/VarHandle" ∧ (parseMethodDescriptor yX11_lay.desc).map (fun d => d.parameters.length) = some 4 := by decide +kernel
def f_X11_lay (a1 : Int32) (a2 : Int32) (a3 : Int32) (a4 : Int32) (S : sT) : Option (Int32 × sT) :=
 bn (f_X11_isSheet a1 S) (fun r2 =>
 (if r2 = (0 : Int32) then
 some ((-2 : Int32), S)
 else
 bn (f_X11_in ((a2).toInt64) (0 : Int64) (2 : Int64) S) (fun r4 =>
 (if r4 = (0 : Int32) then
 some ((-2 : Int32), S)
 else
 bn2 (f_X11_lacks a1 a2 a3 S) (fun r6 S7 =>
 (if r6 = (0 : Int32) then
 bn (f_X11_cut a2 a4 S7) (fun r9 =>
 ck (vi (((60 : Int32) * a1) + a3) 240) (
 lt (us S7 35 0 (cl (((60 : Int32) * a1) + a3)) r9) (fun S11 =>
 some ((1 : Int32), S11))))
 else
 some (r6, S7)))))))
set_option maxHeartbeats 4000000 in
set_option maxRecDepth 100000 in
theorem w_X11_lay (C : Cx p s m args meth c cX11_lay 6 RX11 g) (hr : meth.sig.returnType = (some .int)) {o : Int32 × sT} {a1 : Int32} {a2 : Int32} {a3 : Int32} {a4 : Int32}  {S : sT} {H : Heap} {locs : List Loc} {ls : Array Slot} (hH : Hp g s S H locs) (hl : lv_has ls 6 [(0, .ref (gad g 10 0)), (1, .int a1), (2, .int a2), (3, .int a3), (4, .int a4)]) (h : f_X11_lay a1 a2 a3 a4 S = some o) : W p l e (rmL 3) s m args below meth c H locs 0 0 (Qm g below args s (some (.int o.1)) o.2) (F0 m 0 ls []) := by
  obtain ⟨hx, hb, hml, hown, hts, hlk, hK⟩ := id C
  unfold f_X11_lay at h
  refine lv_iload_n hx hb dX11_lay_0 rfl (lv_at hl 1 rfl) ?_
  obtain ⟨r2, hc1, h⟩ := bn_e h
  refine r_callS1 (As := [.int a1]) C hl.1 hH (c_X11_isSheet l g  hc1) q809 q5 q807 q808 nd_X11_isSheet rfl (by decide) ⟨Nat.zero_le _, Nat.zero_le _⟩ (Nat.le_of_ble_eq_true rfl) dX11_lay_1 (fun H locs hH => ?_)
  refine lv_if_eq (tgt := 19) hx hb dX11_lay_4 (by decide) (fun c14 => ?_) (fun c14 => ?_)
  · replace h := if_t h c14
    refine lv_bipush (v := (-2 : Int32)) hx hb dX11_lay_19 (by decide) ?_
    exact E_int C hr hH h dX11_lay_21
  · replace h := if_f h c14
    refine lv_iload_n hx hb dX11_lay_7 rfl (lv_at hl 2 rfl) ?_
    refine lv_i2l hx hb dX11_lay_8 rfl ?_
    refine lv_lconst (v := (0 : Int64)) hx hb dX11_lay_9 (by decide) ?_
    refine lv_ldc2 (v := (2 : Int64)) hx hb hown (hts _ q590) dX11_lay_10 ?_
    obtain ⟨r4, hc3, h⟩ := bn_e h
    refine r_callS1 (As := [.long ((a2).toInt64), .long (0 : Int64), .long (2 : Int64)]) C hl.1 hH (c_X11_in l g  hc3) q307 q5 q305 q306 nd_X11_in rfl (by decide) ⟨Nat.zero_le _, Nat.zero_le _⟩ (Nat.le_of_ble_eq_true rfl) dX11_lay_13 (fun H locs hH => ?_)
    refine lv_if_ne (tgt := 22) hx hb dX11_lay_16 (by decide) (fun c13 => ?_) (fun c13 => ?_)
    · replace h := if_f h c13
      refine lv_aload_n hx hb dX11_lay_22 rfl (lv_at hl 0 rfl) ?_
      refine lv_iload_n hx hb dX11_lay_23 rfl (lv_at hl 1 rfl) ?_
      refine lv_iload_n hx hb dX11_lay_24 rfl (lv_at hl 2 rfl) ?_
      refine lv_iload_n hx hb dX11_lay_25 rfl (lv_at hl 3 rfl) ?_
      obtain ⟨r6, S7, hc5, h⟩ := bn2_e h
      refine r_callV1 (ki := 10) (i := 0) (ci := 10) (As := [.int a1, .int a2, .int a3]) C hl.1 hH (c_X11_lacks l g  hc5) q991 q5 q988 q989 q990 nd_X11_lacks rfl (by decide) ⟨Nat.zero_le _, Nat.zero_le _⟩ (by decide) (by decide) ⟨_, rfl⟩ rfl (Nat.le_of_ble_eq_true rfl) dX11_lay_26 (fun H locs hH => ?_)
      refine lv_istore (lv' := [(5, .int r6), (0, .ref (gad g 10 0)), (1, .int a1), (2, .int a2), (3, .int a3), (4, .int a4)]) hx hb dX11_lay_29 hl (by decide) rfl (fun ls hl => ?_)
      refine lv_iload hx hb dX11_lay_31 (lv_at hl 0 rfl) ?_
      refine lv_if_eq (tgt := 39) hx hb dX11_lay_33 (by decide) (fun c12 => ?_) (fun c12 => ?_)
      · replace h := if_t h c12
        refine lv_aload_n hx hb dX11_lay_39 rfl (lv_at hl 1 rfl) ?_
        refine gf_X11_16 C hH dX11_lay_40 ?_
        refine lv_bipush (v := (60 : Int32)) hx hb dX11_lay_43 (by decide) ?_
        refine lv_iload_n hx hb dX11_lay_45 rfl (lv_at hl 2 rfl) ?_
        refine lv_imul hx hb dX11_lay_46 ?_
        refine lv_iload_n hx hb dX11_lay_47 rfl (lv_at hl 4 rfl) ?_
        refine lv_iadd hx hb dX11_lay_48 ?_
        refine lv_iload_n hx hb dX11_lay_49 rfl (lv_at hl 3 rfl) ?_
        refine lv_iload hx hb dX11_lay_50 (lv_at hl 5 rfl) ?_
        obtain ⟨r9, hc8, h⟩ := bn_e h
        refine r_callS1 (As := [.int a2, .int a4]) C hl.1 hH (c_X11_cut l g  hc8) q994 q5 q992 q993 nd_X11_cut rfl (by decide) ⟨Nat.zero_le _, Nat.zero_le _⟩ (Nat.le_of_ble_eq_true rfl) dX11_lay_52 (fun H locs hH => ?_)
        obtain ⟨hv10, h⟩ := ck_e h
        refine r_ast C hH ka_35 ko_35 (by decide) (by decide) (vi_in hv10) dX11_lay_55 (fun S11 H locs eS hH => ?_)
        replace h := lt_e h eS
        refine lv_iconst (v := (1 : Int32)) hx hb dX11_lay_56 (by decide) ?_
        exact E_int C hr hH h dX11_lay_57
      · replace h := if_f h c12
        refine lv_iload hx hb dX11_lay_36 (lv_at hl 0 rfl) ?_
        exact E_int C hr hH h dX11_lay_38
    · replace h := if_t h c13
      refine lv_bipush (v := (-2 : Int32)) hx hb dX11_lay_19 (by decide) ?_
      exact E_int C hr hH h dX11_lay_21
theorem c_X11_lay (l : Launch) (g : gT) {a1 : Int32} {a2 : Int32} {a3 : Int32} {a4 : Int32}  {S : sT} {r : Int32} {S1 : sT} (h : f_X11_lay a1 a2 a3 a4 S = some (r, S1)) : MF l yX11_lay cX11_lay 6 (some .int) 3 g [.ref (gad g 10 0), .int a1, .int a2, .int a3, .int a4] S (some (.int r)) S1 := by
  refine MF.of (own := RX11) rfl rfl (Nat.le_of_ble_eq_true rfl) ?_
  intro p e s m below meth c C hr hH ls hl
  exact w_X11_lay C hr (o := (r, S1))  hH hl h
theorem nd_X11_get : yX11_get.cls ≠ "java/lang/invoke/MethodHandle" ∧ yX11_get.cls ≠ "java/lang/invoke/VarHandle" ∧ (parseMethodDescriptor yX11_get.desc).map (fun d => d.parameters.length) = some 3 := by decide +kernel
def f_X11_get (a1 : Int32) (a2 : Int32) (a3 : Int32) (S : sT) : Option (Int32 × sT) :=
 bn (f_X11_isSheet a1 S) (fun r2 =>
 (if r2 = (0 : Int32) then
 some ((-2147483648 : Int32), S)
 else
 bn (f_X11_in ((a2).toInt64) (0 : Int64) (2 : Int64) S) (fun r4 =>
 (if r4 = (0 : Int32) then
 some ((-2147483648 : Int32), S)
 else
 bn2 (f_X11_lacks a1 a2 a3 S) (fun r6 S7 =>
 (if r6 = (0 : Int32) then
 ck (vi (((60 : Int32) * a1) + a3) 240) (
 some ((S7.1 35 0 (cl (((60 : Int32) * a1) + a3))), S7))
 else
 some ((-2147483648 : Int32), S7)))))))
set_option maxHeartbeats 4000000 in
set_option maxRecDepth 100000 in
theorem w_X11_get (C : Cx p s m args meth c cX11_get 4 RX11 g) (hr : meth.sig.returnType = (some .int)) {o : Int32 × sT} {a1 : Int32} {a2 : Int32} {a3 : Int32}  {S : sT} {H : Heap} {locs : List Loc} {ls : Array Slot} (hH : Hp g s S H locs) (hl : lv_has ls 4 [(0, .ref (gad g 10 0)), (1, .int a1), (2, .int a2), (3, .int a3)]) (h : f_X11_get a1 a2 a3 S = some o) : W p l e (rmL 3) s m args below meth c H locs 0 0 (Qm g below args s (some (.int o.1)) o.2) (F0 m 0 ls []) := by
  obtain ⟨hx, hb, hml, hown, hts, hlk, hK⟩ := id C
  unfold f_X11_get at h
  refine lv_iload_n hx hb dX11_get_0 rfl (lv_at hl 1 rfl) ?_
  obtain ⟨r2, hc1, h⟩ := bn_e h
  refine r_callS1 (As := [.int a1]) C hl.1 hH (c_X11_isSheet l g  hc1) q809 q5 q807 q808 nd_X11_isSheet rfl (by decide) ⟨Nat.zero_le _, Nat.zero_le _⟩ (Nat.le_of_ble_eq_true rfl) dX11_get_1 (fun H locs hH => ?_)
  refine lv_if_eq (tgt := 29) hx hb dX11_get_4 (by decide) (fun c11 => ?_) (fun c11 => ?_)
  · replace h := if_t h c11
    refine lv_ldc (v := (-2147483648 : Int32)) hx hb hown (hts _ q1004) dX11_get_29 ?_
    exact E_int C hr hH h dX11_get_31
  · replace h := if_f h c11
    refine lv_iload_n hx hb dX11_get_7 rfl (lv_at hl 2 rfl) ?_
    refine lv_i2l hx hb dX11_get_8 rfl ?_
    refine lv_lconst (v := (0 : Int64)) hx hb dX11_get_9 (by decide) ?_
    refine lv_ldc2 (v := (2 : Int64)) hx hb hown (hts _ q590) dX11_get_10 ?_
    obtain ⟨r4, hc3, h⟩ := bn_e h
    refine r_callS1 (As := [.long ((a2).toInt64), .long (0 : Int64), .long (2 : Int64)]) C hl.1 hH (c_X11_in l g  hc3) q307 q5 q305 q306 nd_X11_in rfl (by decide) ⟨Nat.zero_le _, Nat.zero_le _⟩ (Nat.le_of_ble_eq_true rfl) dX11_get_13 (fun H locs hH => ?_)
    refine lv_if_eq (tgt := 29) hx hb dX11_get_16 (by decide) (fun c10 => ?_) (fun c10 => ?_)
    · replace h := if_t h c10
      refine lv_ldc (v := (-2147483648 : Int32)) hx hb hown (hts _ q1004) dX11_get_29 ?_
      exact E_int C hr hH h dX11_get_31
    · replace h := if_f h c10
      refine lv_aload_n hx hb dX11_get_19 rfl (lv_at hl 0 rfl) ?_
      refine lv_iload_n hx hb dX11_get_20 rfl (lv_at hl 1 rfl) ?_
      refine lv_iload_n hx hb dX11_get_21 rfl (lv_at hl 2 rfl) ?_
      refine lv_iload_n hx hb dX11_get_22 rfl (lv_at hl 3 rfl) ?_
      obtain ⟨r6, S7, hc5, h⟩ := bn2_e h
      refine r_callV1 (ki := 10) (i := 0) (ci := 10) (As := [.int a1, .int a2, .int a3]) C hl.1 hH (c_X11_lacks l g  hc5) q991 q5 q988 q989 q990 nd_X11_lacks rfl (by decide) ⟨Nat.zero_le _, Nat.zero_le _⟩ (by decide) (by decide) ⟨_, rfl⟩ rfl (Nat.le_of_ble_eq_true rfl) dX11_get_23 (fun H locs hH => ?_)
      refine lv_if_eq (tgt := 32) hx hb dX11_get_26 (by decide) (fun c9 => ?_) (fun c9 => ?_)
      · replace h := if_t h c9
        refine lv_aload_n hx hb dX11_get_32 rfl (lv_at hl 0 rfl) ?_
        refine gf_X11_16 C hH dX11_get_33 ?_
        refine lv_bipush (v := (60 : Int32)) hx hb dX11_get_36 (by decide) ?_
        refine lv_iload_n hx hb dX11_get_38 rfl (lv_at hl 1 rfl) ?_
        refine lv_imul hx hb dX11_get_39 ?_
        refine lv_iload_n hx hb dX11_get_40 rfl (lv_at hl 3 rfl) ?_
        refine lv_iadd hx hb dX11_get_41 ?_
        obtain ⟨hv8, h⟩ := ck_e h
        refine r_ald C hH ka_35 (by decide) (by decide) (vi_in hv8) dX11_get_42 ?_
        exact E_int C hr hH h dX11_get_43
      · replace h := if_f h c9
        refine lv_ldc (v := (-2147483648 : Int32)) hx hb hown (hts _ q1004) dX11_get_29 ?_
        exact E_int C hr hH h dX11_get_31
theorem c_X11_get (l : Launch) (g : gT) {a1 : Int32} {a2 : Int32} {a3 : Int32}  {S : sT} {r : Int32} {S1 : sT} (h : f_X11_get a1 a2 a3 S = some (r, S1)) : MF l yX11_get cX11_get 4 (some .int) 3 g [.ref (gad g 10 0), .int a1, .int a2, .int a3] S (some (.int r)) S1 := by
  refine MF.of (own := RX11) rfl rfl (Nat.le_of_ble_eq_true rfl) ?_
  intro p e s m below meth c C hr hH ls hl
  exact w_X11_get C hr (o := (r, S1))  hH hl h
theorem nd_X11_copy : yX11_copy.cls ≠ "java/lang/invoke/MethodHandle" ∧ yX11_copy.cls ≠ "java/lang/invoke/VarHandle" ∧ (parseMethodDescriptor yX11_copy.desc).map (fun d => d.parameters.length) = some 5 := by decide +kernel
def b_X11_copy_157 (a3 : Int32) (a4 : Int32) (a5 : Int32) (x20 : Int32) (S21 : sT) (k22 : Int32 → sT → Option (Int32 × sT)) : Option (Int32 × sT) :=
 (if a5 ≤ x20 then
 some ((1 : Int32), S21)
 else
 ck (vi x20 60) (
 ck (vi ((((60 : Int32) * a3) + a4) + x20) 240) (
 lt (us S21 35 0 (cl ((((60 : Int32) * a3) + a4) + x20)) (S21.1 36 0 (cl x20))) (fun S25 =>
 lt (x20 + (1 : Int32)) (fun x26 =>
 k22 x26 S25)))))
def l_X11_copy_157 (a3 : Int32) (a4 : Int32) (a5 : Int32) : Nat → Int32 → sT → Option (Int32 × sT)
 | 0, _, _ => none
 | n + 1, x20, S21 => b_X11_copy_157 a3 a4 a5 x20 S21 (l_X11_copy_157 a3 a4 a5 n)
theorem l_X11_copy_157_s (a3 : Int32) (a4 : Int32) (a5 : Int32) (n : Nat) (x20 : Int32) (S21 : sT) : l_X11_copy_157 a3 a4 a5 (n + 1) x20 S21 = b_X11_copy_157 a3 a4 a5 x20 S21 (l_X11_copy_157 a3 a4 a5 n) := rfl
def b_X11_copy_120 (a1 : Int32) (a2 : Int32) (a5 : Int32) (j28 : sT → Option (Int32 × sT)) (x29 : Int32) (S30 : sT) (k31 : Int32 → sT → Option (Int32 × sT)) : Option (Int32 × sT) :=
 (if a5 ≤ x29 then
 j28 S30
 else
 ck (vi ((((60 : Int32) * a1) + a2) + x29) 240) (
 ck (vi x29 60) (
 lt (us S30 36 0 (cl x29) (S30.1 35 0 (cl ((((60 : Int32) * a1) + a2) + x29)))) (fun S34 =>
 lt (x29 + (1 : Int32)) (fun x35 =>
 k31 x35 S34)))))
def l_X11_copy_120 (a1 : Int32) (a2 : Int32) (a5 : Int32) (j28 : sT → Option (Int32 × sT)) : Nat → Int32 → sT → Option (Int32 × sT)
 | 0, _, _ => none
 | n + 1, x29, S30 => b_X11_copy_120 a1 a2 a5 j28 x29 S30 (l_X11_copy_120 a1 a2 a5 j28 n)
theorem l_X11_copy_120_s (a1 : Int32) (a2 : Int32) (a5 : Int32) (j28 : sT → Option (Int32 × sT)) (n : Nat) (x29 : Int32) (S30 : sT) : l_X11_copy_120 a1 a2 a5 j28 (n + 1) x29 S30 = b_X11_copy_120 a1 a2 a5 j28 x29 S30 (l_X11_copy_120 a1 a2 a5 j28 n) := rfl
def f_X11_copy (a1 : Int32) (a2 : Int32) (a3 : Int32) (a4 : Int32) (a5 : Int32) (S : sT) : Option (Int32 × sT) :=
 bn (f_X11_isSheet a1 S) (fun r2 =>
 (if r2 = (0 : Int32) then
 some ((-2 : Int32), S)
 else
 bn (f_X11_isSheet a3 S) (fun r4 =>
 (if r4 = (0 : Int32) then
 some ((-2 : Int32), S)
 else
 ck (vi a1 4) (
 jn (bn2 (f_X11_finds (1 : Int32) S) (fun r7 S8 =>
 some (r7, S8)))
 (fun j9 => (if (S.1 33 0 (cl a1)) < (0 : Int32) then
 j9
 else
 ck (vi a3 4) (
 (if (0 : Int32) ≤ (S.1 33 0 (cl a3)) then
 ck (vi a1 4) (
 ck (vi a3 4) (
 (if (S.1 33 0 (cl a1)) = (S.1 33 0 (cl a3)) then
 jn (bn2 (f_X11_finds (2 : Int32) S) (fun r14 S15 =>
 some (r14, S15)))
 (fun j16 => (if a2 < (0 : Int32) then
 j16
 else
 (if a4 < (0 : Int32) then
 j16
 else
 (if a5 < (0 : Int32) then
 j16
 else
 ck (vi a1 4) (
 (if (0 : Int32) < (lg_cmp (((a2).toInt64) + ((a5).toInt64)) (((S.1 34 0 (cl a1))).toInt64)) then
 j16
 else
 ck (vi a3 4) (
 (if (lg_cmp (((a4).toInt64) + ((a5).toInt64)) (((S.1 34 0 (cl a3))).toInt64)) ≤ (0 : Int32) then
 jn (fun (S19 : sT) => l_X11_copy_157 a3 a4 a5 FU (0 : Int32) S19)
 (fun j28 => l_X11_copy_120 a1 a2 a5 j28 FU (0 : Int32) S)
 else
 j16))))))))
 else
 bn2 (f_X11_finds (4 : Int32) S) (fun r43 S44 =>
 some (r43, S44)))))
 else
 j9)))))))))
set_option maxHeartbeats 4000000 in
set_option maxRecDepth 100000 in
theorem w_X11_copy_157 (C : Cx p s m args meth c cX11_copy 7 RX11 g) (hr : meth.sig.returnType = (some .int)) {o : Int32 × sT}  {a3 : Int32} {a4 : Int32} {a5 : Int32}   : ∀ (n : Nat) (x20 : Int32) (S21 : sT) (H : Heap) (locs : List Loc) (ls : Array Slot), Hp g s S21 H locs → lv_has ls 7 [(0, .ref (gad g 10 0)), (3, .int a3), (4, .int a4), (5, .int a5), (6, .int x20)] → l_X11_copy_157 a3 a4 a5 n x20 S21 = some o → W p l e (rmL 3) s m args below meth c H locs 0 0 (Qm g below args s (some (.int o.1)) o.2) (F0 m 157 ls []) := by
  obtain ⟨hx, hb, hml, hown, hts, hlk, hK⟩ := id C
  intro n
  induction n with
  | zero =>
    intro x20 S21 H locs ls hH hl h
    cases h
  | succ n ih =>
    intro x20 S21 H locs ls hH hl h
    rw [l_X11_copy_157_s] at h
    unfold b_X11_copy_157 at h
    refine lv_iload hx hb dX11_copy_157 (lv_at hl 4 rfl) ?_
    refine lv_iload hx hb dX11_copy_159 (lv_at hl 3 rfl) ?_
    refine lv_icmp_ge (tgt := 192) hx hb dX11_copy_161 (by decide) (fun c27 => ?_) (fun c27 => ?_)
    · replace h := if_t h c27
      refine lv_iconst (v := (1 : Int32)) hx hb dX11_copy_192 (by decide) ?_
      exact E_int C hr hH h dX11_copy_193
    · replace h := if_f h c27
      refine lv_aload_n hx hb dX11_copy_164 rfl (lv_at hl 0 rfl) ?_
      refine gf_X11_16 C hH dX11_copy_165 ?_
      refine lv_bipush (v := (60 : Int32)) hx hb dX11_copy_168 (by decide) ?_
      refine lv_iload_n hx hb dX11_copy_170 rfl (lv_at hl 1 rfl) ?_
      refine lv_imul hx hb dX11_copy_171 ?_
      refine lv_iload hx hb dX11_copy_172 (lv_at hl 2 rfl) ?_
      refine lv_iadd hx hb dX11_copy_174 ?_
      refine lv_iload hx hb dX11_copy_175 (lv_at hl 4 rfl) ?_
      refine lv_iadd hx hb dX11_copy_177 ?_
      refine lv_aload_n hx hb dX11_copy_178 rfl (lv_at hl 0 rfl) ?_
      refine gf_X11_19 C hH dX11_copy_179 ?_
      refine lv_iload hx hb dX11_copy_182 (lv_at hl 4 rfl) ?_
      obtain ⟨hv23, h⟩ := ck_e h
      refine r_ald C hH ka_36 (by decide) (by decide) (vi_in hv23) dX11_copy_184 ?_
      obtain ⟨hv24, h⟩ := ck_e h
      refine r_ast C hH ka_35 ko_35 (by decide) (by decide) (vi_in hv24) dX11_copy_185 (fun S25 H locs eS hH => ?_)
      replace h := lt_e h eS
      obtain ⟨x26, ex26⟩ : ∃ z : Int32, z = (x20 + (1 : Int32)) := ⟨_, rfl⟩
      replace h := lt_e h ex26
      refine lv_iinc (v := x26) (lv' := [(6, .int x26), (0, .ref (gad g 10 0)), (3, .int a3), (4, .int a4), (5, .int a5)]) hx hb dX11_copy_186 hl (k := 4) rfl (by rw [ex26]; rfl) (by decide) rfl (fun ls hl => ?_)
      refine lv_goto (tgt := 157) hx hb dX11_copy_189 (by decide) ?_
      exact ih _ _ _ _ _ hH (lv_sub hl [1, 2, 3, 4, 0] rfl) h
set_option maxHeartbeats 4000000 in
set_option maxRecDepth 100000 in
theorem w_X11_copy_120 (C : Cx p s m args meth c cX11_copy 7 RX11 g) (hr : meth.sig.returnType = (some .int)) {o : Int32 × sT}  {a1 : Int32} {a2 : Int32} {a3 : Int32} {a4 : Int32} {a5 : Int32}  (j28 : sT → Option (Int32 × sT)) (hj28 : ∀ (S19 : sT) (H : Heap) (locs : List Loc) (ls : Array Slot), Hp g s S19 H locs → lv_has ls 7 [(0, .ref (gad g 10 0)), (3, .int a3), (4, .int a4), (5, .int a5)] → j28 S19 = some o → W p l e (rmL 3) s m args below meth c H locs 0 0 (Qm g below args s (some (.int o.1)) o.2) (F0 m 154 ls [])) : ∀ (n : Nat) (x29 : Int32) (S30 : sT) (H : Heap) (locs : List Loc) (ls : Array Slot), Hp g s S30 H locs → lv_has ls 7 [(0, .ref (gad g 10 0)), (1, .int a1), (2, .int a2), (3, .int a3), (4, .int a4), (5, .int a5), (6, .int x29)] → l_X11_copy_120 a1 a2 a5 j28 n x29 S30 = some o → W p l e (rmL 3) s m args below meth c H locs 0 0 (Qm g below args s (some (.int o.1)) o.2) (F0 m 120 ls []) := by
  obtain ⟨hx, hb, hml, hown, hts, hlk, hK⟩ := id C
  intro n
  induction n with
  | zero =>
    intro x29 S30 H locs ls hH hl h
    cases h
  | succ n ih =>
    intro x29 S30 H locs ls hH hl h
    rw [l_X11_copy_120_s] at h
    unfold b_X11_copy_120 at h
    refine lv_iload hx hb dX11_copy_120 (lv_at hl 6 rfl) ?_
    refine lv_iload hx hb dX11_copy_122 (lv_at hl 5 rfl) ?_
    refine lv_icmp_ge (tgt := 154) hx hb dX11_copy_124 (by decide) (fun c36 => ?_) (fun c36 => ?_)
    · replace h := if_t h c36
      exact hj28 _ _ _ _ hH (lv_sub hl [0, 3, 4, 5] rfl) h
    · replace h := if_f h c36
      refine lv_aload_n hx hb dX11_copy_127 rfl (lv_at hl 0 rfl) ?_
      refine gf_X11_19 C hH dX11_copy_128 ?_
      refine lv_iload hx hb dX11_copy_131 (lv_at hl 6 rfl) ?_
      refine lv_aload_n hx hb dX11_copy_133 rfl (lv_at hl 0 rfl) ?_
      refine gf_X11_16 C hH dX11_copy_134 ?_
      refine lv_bipush (v := (60 : Int32)) hx hb dX11_copy_137 (by decide) ?_
      refine lv_iload_n hx hb dX11_copy_139 rfl (lv_at hl 1 rfl) ?_
      refine lv_imul hx hb dX11_copy_140 ?_
      refine lv_iload_n hx hb dX11_copy_141 rfl (lv_at hl 2 rfl) ?_
      refine lv_iadd hx hb dX11_copy_142 ?_
      refine lv_iload hx hb dX11_copy_143 (lv_at hl 6 rfl) ?_
      refine lv_iadd hx hb dX11_copy_145 ?_
      obtain ⟨hv32, h⟩ := ck_e h
      refine r_ald C hH ka_35 (by decide) (by decide) (vi_in hv32) dX11_copy_146 ?_
      obtain ⟨hv33, h⟩ := ck_e h
      refine r_ast C hH ka_36 ko_36 (by decide) (by decide) (vi_in hv33) dX11_copy_147 (fun S34 H locs eS hH => ?_)
      replace h := lt_e h eS
      obtain ⟨x35, ex35⟩ : ∃ z : Int32, z = (x29 + (1 : Int32)) := ⟨_, rfl⟩
      replace h := lt_e h ex35
      refine lv_iinc (v := x35) (lv' := [(6, .int x35), (0, .ref (gad g 10 0)), (1, .int a1), (2, .int a2), (3, .int a3), (4, .int a4), (5, .int a5)]) hx hb dX11_copy_148 hl (k := 6) rfl (by rw [ex35]; rfl) (by decide) rfl (fun ls hl => ?_)
      refine lv_goto (tgt := 120) hx hb dX11_copy_151 (by decide) ?_
      exact ih _ _ _ _ _ hH (lv_sub hl [1, 2, 3, 4, 5, 6, 0] rfl) h
set_option maxHeartbeats 4000000 in
set_option maxRecDepth 100000 in
theorem w_X11_copy (C : Cx p s m args meth c cX11_copy 7 RX11 g) (hr : meth.sig.returnType = (some .int)) {o : Int32 × sT} {a1 : Int32} {a2 : Int32} {a3 : Int32} {a4 : Int32} {a5 : Int32}  {S : sT} {H : Heap} {locs : List Loc} {ls : Array Slot} (hH : Hp g s S H locs) (hl : lv_has ls 7 [(0, .ref (gad g 10 0)), (1, .int a1), (2, .int a2), (3, .int a3), (4, .int a4), (5, .int a5)]) (h : f_X11_copy a1 a2 a3 a4 a5 S = some o) : W p l e (rmL 3) s m args below meth c H locs 0 0 (Qm g below args s (some (.int o.1)) o.2) (F0 m 0 ls []) := by
  obtain ⟨hx, hb, hml, hown, hts, hlk, hK⟩ := id C
  unfold f_X11_copy at h
  refine lv_iload_n hx hb dX11_copy_0 rfl (lv_at hl 1 rfl) ?_
  obtain ⟨r2, hc1, h⟩ := bn_e h
  refine r_callS1 (As := [.int a1]) C hl.1 hH (c_X11_isSheet l g  hc1) q809 q5 q807 q808 nd_X11_isSheet rfl (by decide) ⟨Nat.zero_le _, Nat.zero_le _⟩ (Nat.le_of_ble_eq_true rfl) dX11_copy_1 (fun H locs hH => ?_)
  refine lv_if_eq (tgt := 14) hx hb dX11_copy_4 (by decide) (fun c49 => ?_) (fun c49 => ?_)
  · replace h := if_t h c49
    refine lv_bipush (v := (-2 : Int32)) hx hb dX11_copy_14 (by decide) ?_
    exact E_int C hr hH h dX11_copy_16
  · replace h := if_f h c49
    refine lv_iload_n hx hb dX11_copy_7 rfl (lv_at hl 3 rfl) ?_
    obtain ⟨r4, hc3, h⟩ := bn_e h
    refine r_callS1 (As := [.int a3]) C hl.1 hH (c_X11_isSheet l g  hc3) q809 q5 q807 q808 nd_X11_isSheet rfl (by decide) ⟨Nat.zero_le _, Nat.zero_le _⟩ (Nat.le_of_ble_eq_true rfl) dX11_copy_8 (fun H locs hH => ?_)
    refine lv_if_ne (tgt := 17) hx hb dX11_copy_11 (by decide) (fun c48 => ?_) (fun c48 => ?_)
    · replace h := if_f h c48
      refine lv_aload_n hx hb dX11_copy_17 rfl (lv_at hl 0 rfl) ?_
      refine gf_X11_7 C hH dX11_copy_18 ?_
      refine lv_iload_n hx hb dX11_copy_21 rfl (lv_at hl 1 rfl) ?_
      obtain ⟨hv5, h⟩ := ck_e h
      refine r_ald C hH ka_33 (by decide) (by decide) (vi_in hv5) dX11_copy_22 ?_
      obtain ⟨j9, ej9, h⟩ := jn_e h
      have hj9 : ∀  (H : Heap) (locs : List Loc) (ls : Array Slot), Hp g s S H locs → lv_has ls 7 [(0, .ref (gad g 10 0))] → j9  = some o → W p l e (rmL 3) s m args below meth c H locs 0 0 (Qm g below args s (some (.int o.1)) o.2) (F0 m 35 ls []) := by
        intro  H locs ls hH hl h
        rw [ej9] at h
        try dsimp only at h
        refine lv_aload_n hx hb dX11_copy_35 rfl (lv_at hl 0 rfl) ?_
        refine lv_iconst (v := (1 : Int32)) hx hb dX11_copy_36 (by decide) ?_
        obtain ⟨r7, S8, hc6, h⟩ := bn2_e h
        refine r_callV1 (ki := 10) (i := 0) (ci := 10) (As := [.int (1 : Int32)]) C hl.1 hH (c_X11_finds l g  hc6) q813 q5 q810 q811 q812 nd_X11_finds rfl (by decide) ⟨Nat.zero_le _, Nat.zero_le _⟩ (by decide) (by decide) ⟨_, rfl⟩ rfl (Nat.le_of_ble_eq_true rfl) dX11_copy_37 (fun H locs hH => ?_)
        exact E_int C hr hH h dX11_copy_40
      clear ej9
      refine lv_if_lt (tgt := 35) hx hb dX11_copy_23 (by decide) (fun c47 => ?_) (fun c47 => ?_)
      · replace h := if_t h c47
        exact hj9 _ _ _ hH (lv_sub hl [0] rfl) h
      · replace h := if_f h c47
        refine lv_aload_n hx hb dX11_copy_26 rfl (lv_at hl 0 rfl) ?_
        refine gf_X11_7 C hH dX11_copy_27 ?_
        refine lv_iload_n hx hb dX11_copy_30 rfl (lv_at hl 3 rfl) ?_
        obtain ⟨hv10, h⟩ := ck_e h
        refine r_ald C hH ka_33 (by decide) (by decide) (vi_in hv10) dX11_copy_31 ?_
        refine lv_if_ge (tgt := 41) hx hb dX11_copy_32 (by decide) (fun c46 => ?_) (fun c46 => ?_)
        · replace h := if_t h c46
          refine lv_aload_n hx hb dX11_copy_41 rfl (lv_at hl 0 rfl) ?_
          refine gf_X11_7 C hH dX11_copy_42 ?_
          refine lv_iload_n hx hb dX11_copy_45 rfl (lv_at hl 1 rfl) ?_
          obtain ⟨hv11, h⟩ := ck_e h
          refine r_ald C hH ka_33 (by decide) (by decide) (vi_in hv11) dX11_copy_46 ?_
          refine lv_aload_n hx hb dX11_copy_47 rfl (lv_at hl 0 rfl) ?_
          refine gf_X11_7 C hH dX11_copy_48 ?_
          refine lv_iload_n hx hb dX11_copy_51 rfl (lv_at hl 3 rfl) ?_
          obtain ⟨hv12, h⟩ := ck_e h
          refine r_ald C hH ka_33 (by decide) (by decide) (vi_in hv12) dX11_copy_52 ?_
          refine lv_icmp_eq (tgt := 62) hx hb dX11_copy_53 (by decide) (fun c45 => ?_) (fun c45 => ?_)
          · replace h := if_t h c45
            refine lv_iload_n hx hb dX11_copy_62 rfl (lv_at hl 2 rfl) ?_
            obtain ⟨j16, ej16, h⟩ := jn_e h
            have hj16 : ∀  (H : Heap) (locs : List Loc) (ls : Array Slot), Hp g s S H locs → lv_has ls 7 [(0, .ref (gad g 10 0))] → j16  = some o → W p l e (rmL 3) s m args below meth c H locs 0 0 (Qm g below args s (some (.int o.1)) o.2) (F0 m 111 ls []) := by
              intro  H locs ls hH hl h
              rw [ej16] at h
              try dsimp only at h
              refine lv_aload_n hx hb dX11_copy_111 rfl (lv_at hl 0 rfl) ?_
              refine lv_iconst (v := (2 : Int32)) hx hb dX11_copy_112 (by decide) ?_
              obtain ⟨r14, S15, hc13, h⟩ := bn2_e h
              refine r_callV1 (ki := 10) (i := 0) (ci := 10) (As := [.int (2 : Int32)]) C hl.1 hH (c_X11_finds l g  hc13) q813 q5 q810 q811 q812 nd_X11_finds rfl (by decide) ⟨Nat.zero_le _, Nat.zero_le _⟩ (by decide) (by decide) ⟨_, rfl⟩ rfl (Nat.le_of_ble_eq_true rfl) dX11_copy_113 (fun H locs hH => ?_)
              exact E_int C hr hH h dX11_copy_116
            clear ej16
            refine lv_if_lt (tgt := 111) hx hb dX11_copy_63 (by decide) (fun c41 => ?_) (fun c41 => ?_)
            · replace h := if_t h c41
              exact hj16 _ _ _ hH (lv_sub hl [0] rfl) h
            · replace h := if_f h c41
              refine lv_iload hx hb dX11_copy_66 (lv_at hl 4 rfl) ?_
              refine lv_if_lt (tgt := 111) hx hb dX11_copy_68 (by decide) (fun c40 => ?_) (fun c40 => ?_)
              · replace h := if_t h c40
                exact hj16 _ _ _ hH (lv_sub hl [0] rfl) h
              · replace h := if_f h c40
                refine lv_iload hx hb dX11_copy_71 (lv_at hl 5 rfl) ?_
                refine lv_if_lt (tgt := 111) hx hb dX11_copy_73 (by decide) (fun c39 => ?_) (fun c39 => ?_)
                · replace h := if_t h c39
                  exact hj16 _ _ _ hH (lv_sub hl [0] rfl) h
                · replace h := if_f h c39
                  refine lv_iload_n hx hb dX11_copy_76 rfl (lv_at hl 2 rfl) ?_
                  refine lv_i2l hx hb dX11_copy_77 rfl ?_
                  refine lv_iload hx hb dX11_copy_78 (lv_at hl 5 rfl) ?_
                  refine lv_i2l hx hb dX11_copy_80 rfl ?_
                  refine lv_ladd hx hb dX11_copy_81 ?_
                  refine lv_aload_n hx hb dX11_copy_82 rfl (lv_at hl 0 rfl) ?_
                  refine gf_X11_13 C hH dX11_copy_83 ?_
                  refine lv_iload_n hx hb dX11_copy_86 rfl (lv_at hl 1 rfl) ?_
                  obtain ⟨hv17, h⟩ := ck_e h
                  refine r_ald C hH ka_34 (by decide) (by decide) (vi_in hv17) dX11_copy_87 ?_
                  refine lv_i2l hx hb dX11_copy_88 rfl ?_
                  refine W.lcmp hx hb dX11_copy_89 ?_
                  refine lv_if_gt (tgt := 111) hx hb dX11_copy_90 (by decide) (fun c38 => ?_) (fun c38 => ?_)
                  · replace h := if_t h c38
                    exact hj16 _ _ _ hH (lv_sub hl [0] rfl) h
                  · replace h := if_f h c38
                    refine lv_iload hx hb dX11_copy_93 (lv_at hl 4 rfl) ?_
                    refine lv_i2l hx hb dX11_copy_95 rfl ?_
                    refine lv_iload hx hb dX11_copy_96 (lv_at hl 5 rfl) ?_
                    refine lv_i2l hx hb dX11_copy_98 rfl ?_
                    refine lv_ladd hx hb dX11_copy_99 ?_
                    refine lv_aload_n hx hb dX11_copy_100 rfl (lv_at hl 0 rfl) ?_
                    refine gf_X11_13 C hH dX11_copy_101 ?_
                    refine lv_iload_n hx hb dX11_copy_104 rfl (lv_at hl 3 rfl) ?_
                    obtain ⟨hv18, h⟩ := ck_e h
                    refine r_ald C hH ka_34 (by decide) (by decide) (vi_in hv18) dX11_copy_105 ?_
                    refine lv_i2l hx hb dX11_copy_106 rfl ?_
                    refine W.lcmp hx hb dX11_copy_107 ?_
                    refine lv_if_le (tgt := 117) hx hb dX11_copy_108 (by decide) (fun c37 => ?_) (fun c37 => ?_)
                    · replace h := if_t h c37
                      refine lv_iconst (v := (0 : Int32)) hx hb dX11_copy_117 (by decide) ?_
                      refine lv_istore (lv' := [(6, .int (0 : Int32)), (0, .ref (gad g 10 0)), (1, .int a1), (2, .int a2), (3, .int a3), (4, .int a4), (5, .int a5)]) hx hb dX11_copy_118 hl (by decide) rfl (fun ls hl => ?_)
                      obtain ⟨j28, ej28, h⟩ := jn_e h
                      have hj28 : ∀ (S19 : sT) (H : Heap) (locs : List Loc) (ls : Array Slot), Hp g s S19 H locs → lv_has ls 7 [(0, .ref (gad g 10 0)), (3, .int a3), (4, .int a4), (5, .int a5)] → j28 S19 = some o → W p l e (rmL 3) s m args below meth c H locs 0 0 (Qm g below args s (some (.int o.1)) o.2) (F0 m 154 ls []) := by
                        intro S19 H locs ls hH hl h
                        rw [ej28] at h
                        try dsimp only at h
                        refine lv_iconst (v := (0 : Int32)) hx hb dX11_copy_154 (by decide) ?_
                        refine lv_istore (lv' := [(6, .int (0 : Int32)), (0, .ref (gad g 10 0)), (3, .int a3), (4, .int a4), (5, .int a5)]) hx hb dX11_copy_155 hl (by decide) rfl (fun ls hl => ?_)
                        exact w_X11_copy_157 C hr   _ _ _ _ _ _ hH (lv_sub hl [1, 2, 3, 4, 0] rfl) h
                      clear ej28
                      exact w_X11_copy_120 C hr  j28 hj28 _ _ _ _ _ _ hH (lv_sub hl [1, 2, 3, 4, 5, 6, 0] rfl) h
                    · replace h := if_f h c37
                      exact hj16 _ _ _ hH (lv_sub hl [0] rfl) h
          · replace h := if_f h c45
            refine lv_aload_n hx hb dX11_copy_56 rfl (lv_at hl 0 rfl) ?_
            refine lv_iconst (v := (4 : Int32)) hx hb dX11_copy_57 (by decide) ?_
            obtain ⟨r43, S44, hc42, h⟩ := bn2_e h
            refine r_callV1 (ki := 10) (i := 0) (ci := 10) (As := [.int (4 : Int32)]) C hl.1 hH (c_X11_finds l g  hc42) q813 q5 q810 q811 q812 nd_X11_finds rfl (by decide) ⟨Nat.zero_le _, Nat.zero_le _⟩ (by decide) (by decide) ⟨_, rfl⟩ rfl (Nat.le_of_ble_eq_true rfl) dX11_copy_58 (fun H locs hH => ?_)
            exact E_int C hr hH h dX11_copy_61
        · replace h := if_f h c46
          exact hj9 _ _ _ hH (lv_sub hl [0] rfl) h
    · replace h := if_t h c48
      refine lv_bipush (v := (-2 : Int32)) hx hb dX11_copy_14 (by decide) ?_
      exact E_int C hr hH h dX11_copy_16
theorem c_X11_copy (l : Launch) (g : gT) {a1 : Int32} {a2 : Int32} {a3 : Int32} {a4 : Int32} {a5 : Int32}  {S : sT} {r : Int32} {S1 : sT} (h : f_X11_copy a1 a2 a3 a4 a5 S = some (r, S1)) : MF l yX11_copy cX11_copy 7 (some .int) 3 g [.ref (gad g 10 0), .int a1, .int a2, .int a3, .int a4, .int a5] S (some (.int r)) S1 := by
  refine MF.of (own := RX11) rfl rfl (Nat.le_of_ble_eq_true rfl) ?_
  intro p e s m below meth c C hr hH ls hl
  exact w_X11_copy C hr (o := (r, S1))  hH hl h
theorem nd_X11_type : yX11_type.cls ≠ "java/lang/invoke/MethodHandle" ∧ yX11_type.cls ≠ "java/lang/invoke/VarHandle" ∧ (parseMethodDescriptor yX11_type.desc).map (fun d => d.parameters.length) = some 2 := by decide +kernel
def f_X11_type (a1 : Int32) (a2 : Int32) (S : sT) : Option (Int32 × sT) :=
 bn (f_X11_isTwo a1 S) (fun r2 =>
 (if r2 = (0 : Int32) then
 some ((-2 : Int32), S)
 else
 bn (f_X11_in ((a2).toInt64) (0 : Int64) (255 : Int64) S) (fun r4 =>
 (if r4 = (0 : Int32) then
 some ((-2 : Int32), S)
 else
 ck (vi a1 2) (
 jn (fun (y6 : Int32) => (if (S.1 38 0 (cl a1)) = y6 then
 some ((-4 : Int32), S)
 else
 ck (vi a1 2) (
 ck (vi (((64 : Int32) * a1) + (S.1 38 0 (cl a1))) 128) (
 lt (us S 37 0 (cl (((64 : Int32) * a1) + (S.1 38 0 (cl a1)))) a2) (fun S9 =>
 ck (vi a1 2) (
 ck (vi a1 2) (
 lt (us S9 38 0 (cl a1) ((S9.1 38 0 (cl a1)) + (1 : Int32))) (fun S12 =>
 ck (vi a1 2) (
 some ((S12.1 38 0 (cl a1)), S12))))))))))
 (fun j15 => (if a1 = (0 : Int32) then
 j15 (63 : Int32)
 else
 j15 (59 : Int32))))))))
set_option maxHeartbeats 4000000 in
set_option maxRecDepth 100000 in
theorem w_X11_type (C : Cx p s m args meth c cX11_type 3 RX11 g) (hr : meth.sig.returnType = (some .int)) {o : Int32 × sT} {a1 : Int32} {a2 : Int32}  {S : sT} {H : Heap} {locs : List Loc} {ls : Array Slot} (hH : Hp g s S H locs) (hl : lv_has ls 3 [(0, .ref (gad g 10 0)), (1, .int a1), (2, .int a2)]) (h : f_X11_type a1 a2 S = some o) : W p l e (rmL 3) s m args below meth c H locs 0 0 (Qm g below args s (some (.int o.1)) o.2) (F0 m 0 ls []) := by
  obtain ⟨hx, hb, hml, hown, hts, hlk, hK⟩ := id C
  unfold f_X11_type at h
  refine lv_iload_n hx hb dX11_type_0 rfl (lv_at hl 1 rfl) ?_
  obtain ⟨r2, hc1, h⟩ := bn_e h
  refine r_callS1 (As := [.int a1]) C hl.1 hH (c_X11_isTwo l g  hc1) q304 q5 q302 q303 nd_X11_isTwo rfl (by decide) ⟨Nat.zero_le _, Nat.zero_le _⟩ (Nat.le_of_ble_eq_true rfl) dX11_type_1 (fun H locs hH => ?_)
  refine lv_if_eq (tgt := 19) hx hb dX11_type_4 (by decide) (fun c18 => ?_) (fun c18 => ?_)
  · replace h := if_t h c18
    refine lv_bipush (v := (-2 : Int32)) hx hb dX11_type_19 (by decide) ?_
    exact E_int C hr hH h dX11_type_21
  · replace h := if_f h c18
    refine lv_iload_n hx hb dX11_type_7 rfl (lv_at hl 2 rfl) ?_
    refine lv_i2l hx hb dX11_type_8 rfl ?_
    refine lv_lconst (v := (0 : Int64)) hx hb dX11_type_9 (by decide) ?_
    refine lv_ldc2 (v := (255 : Int64)) hx hb hown (hts _ q301) dX11_type_10 ?_
    obtain ⟨r4, hc3, h⟩ := bn_e h
    refine r_callS1 (As := [.long ((a2).toInt64), .long (0 : Int64), .long (255 : Int64)]) C hl.1 hH (c_X11_in l g  hc3) q307 q5 q305 q306 nd_X11_in rfl (by decide) ⟨Nat.zero_le _, Nat.zero_le _⟩ (Nat.le_of_ble_eq_true rfl) dX11_type_13 (fun H locs hH => ?_)
    refine lv_if_ne (tgt := 22) hx hb dX11_type_16 (by decide) (fun c17 => ?_) (fun c17 => ?_)
    · replace h := if_f h c17
      refine lv_aload_n hx hb dX11_type_22 rfl (lv_at hl 0 rfl) ?_
      refine gf_X11_25 C hH dX11_type_23 ?_
      refine lv_iload_n hx hb dX11_type_26 rfl (lv_at hl 1 rfl) ?_
      obtain ⟨hv5, h⟩ := ck_e h
      refine r_ald C hH ka_38 (by decide) (by decide) (vi_in hv5) dX11_type_27 ?_
      refine lv_iload_n hx hb dX11_type_28 rfl (lv_at hl 1 rfl) ?_
      obtain ⟨j15, ej15, h⟩ := jn_e h
      have hj15 : ∀ (y6 : Int32) (H : Heap) (locs : List Loc) (ls : Array Slot), Hp g s S H locs → lv_has ls 3 [(0, .ref (gad g 10 0)), (1, .int a1), (2, .int a2)] → j15 y6 = some o → W p l e (rmL 3) s m args below meth c H locs 0 0 (Qm g below args s (some (.int o.1)) o.2) (F0 m 39 ls [.int y6, .int (S.1 38 0 (cl a1))]) := by
        intro y6 H locs ls hH hl h
        rw [ej15] at h
        try dsimp only at h
        refine lv_icmp_ne (tgt := 45) hx hb dX11_type_39 (by decide) (fun c14 => ?_) (fun c14 => ?_)
        · replace h := if_f h c14
          refine lv_aload_n hx hb dX11_type_45 rfl (lv_at hl 0 rfl) ?_
          refine gf_X11_22 C hH dX11_type_46 ?_
          refine lv_bipush (v := (64 : Int32)) hx hb dX11_type_49 (by decide) ?_
          refine lv_iload_n hx hb dX11_type_51 rfl (lv_at hl 1 rfl) ?_
          refine lv_imul hx hb dX11_type_52 ?_
          refine lv_aload_n hx hb dX11_type_53 rfl (lv_at hl 0 rfl) ?_
          refine gf_X11_25 C hH dX11_type_54 ?_
          refine lv_iload_n hx hb dX11_type_57 rfl (lv_at hl 1 rfl) ?_
          obtain ⟨hv7, h⟩ := ck_e h
          refine r_ald C hH ka_38 (by decide) (by decide) (vi_in hv7) dX11_type_58 ?_
          refine lv_iadd hx hb dX11_type_59 ?_
          refine lv_iload_n hx hb dX11_type_60 rfl (lv_at hl 2 rfl) ?_
          obtain ⟨hv8, h⟩ := ck_e h
          refine r_ast C hH ka_37 ko_37 (by decide) (by decide) (vi_in hv8) dX11_type_61 (fun S9 H locs eS hH => ?_)
          replace h := lt_e h eS
          refine lv_aload_n hx hb dX11_type_62 rfl (lv_at hl 0 rfl) ?_
          refine gf_X11_25 C hH dX11_type_63 ?_
          refine lv_iload_n hx hb dX11_type_66 rfl (lv_at hl 1 rfl) ?_
          refine lv_dup2_11 hx hb dX11_type_67 rfl rfl ?_
          obtain ⟨hv10, h⟩ := ck_e h
          refine r_ald C hH ka_38 (by decide) (by decide) (vi_in hv10) dX11_type_68 ?_
          refine lv_iconst (v := (1 : Int32)) hx hb dX11_type_69 (by decide) ?_
          refine lv_iadd hx hb dX11_type_70 ?_
          obtain ⟨hv11, h⟩ := ck_e h
          refine r_ast C hH ka_38 ko_38 (by decide) (by decide) (vi_in hv11) dX11_type_71 (fun S12 H locs eS hH => ?_)
          replace h := lt_e h eS
          refine lv_aload_n hx hb dX11_type_72 rfl (lv_at hl 0 rfl) ?_
          refine gf_X11_25 C hH dX11_type_73 ?_
          refine lv_iload_n hx hb dX11_type_76 rfl (lv_at hl 1 rfl) ?_
          obtain ⟨hv13, h⟩ := ck_e h
          refine r_ald C hH ka_38 (by decide) (by decide) (vi_in hv13) dX11_type_77 ?_
          exact E_int C hr hH h dX11_type_78
        · replace h := if_t h c14
          refine lv_bipush (v := (-4 : Int32)) hx hb dX11_type_42 (by decide) ?_
          exact E_int C hr hH h dX11_type_44
      clear ej15
      refine lv_if_ne (tgt := 37) hx hb dX11_type_29 (by decide) (fun c16 => ?_) (fun c16 => ?_)
      · replace h := if_f h c16
        refine lv_bipush (v := (59 : Int32)) hx hb dX11_type_37 (by decide) ?_
        exact hj15 _ _ _ _ hH (lv_sub hl [0, 1, 2] rfl) h
      · replace h := if_t h c16
        refine lv_bipush (v := (63 : Int32)) hx hb dX11_type_32 (by decide) ?_
        refine lv_goto (tgt := 39) hx hb dX11_type_34 (by decide) ?_
        exact hj15 _ _ _ _ hH (lv_sub hl [0, 1, 2] rfl) h
    · replace h := if_t h c17
      refine lv_bipush (v := (-2 : Int32)) hx hb dX11_type_19 (by decide) ?_
      exact E_int C hr hH h dX11_type_21
theorem c_X11_type (l : Launch) (g : gT) {a1 : Int32} {a2 : Int32}  {S : sT} {r : Int32} {S1 : sT} (h : f_X11_type a1 a2 S = some (r, S1)) : MF l yX11_type cX11_type 3 (some .int) 3 g [.ref (gad g 10 0), .int a1, .int a2] S (some (.int r)) S1 := by
  refine MF.of (own := RX11) rfl rfl (Nat.le_of_ble_eq_true rfl) ?_
  intro p e s m below meth c C hr hH ls hl
  exact w_X11_type C hr (o := (r, S1))  hH hl h
theorem nd_X11_wipe : yX11_wipe.cls ≠ "java/lang/invoke/MethodHandle" ∧ yX11_wipe.cls ≠ "java/lang/invoke/VarHandle" ∧ (parseMethodDescriptor yX11_wipe.desc).map (fun d => d.parameters.length) = some 1 := by decide +kernel
def f_X11_wipe (a1 : Int32) (S : sT) : Option (Int32 × sT) :=
 bn (f_X11_isTwo a1 S) (fun r2 =>
 (if r2 = (0 : Int32) then
 some ((-2 : Int32), S)
 else
 ck (vi a1 2) (
 lt (S.1 38 0 (cl a1)) (fun x4 =>
 ck (vi a1 2) (
 lt (us S 38 0 (cl a1) (0 : Int32)) (fun S6 =>
 some (x4, S6)))))))
set_option maxHeartbeats 4000000 in
set_option maxRecDepth 100000 in
theorem w_X11_wipe (C : Cx p s m args meth c cX11_wipe 3 RX11 g) (hr : meth.sig.returnType = (some .int)) {o : Int32 × sT} {a1 : Int32}  {S : sT} {H : Heap} {locs : List Loc} {ls : Array Slot} (hH : Hp g s S H locs) (hl : lv_has ls 3 [(0, .ref (gad g 10 0)), (1, .int a1)]) (h : f_X11_wipe a1 S = some o) : W p l e (rmL 3) s m args below meth c H locs 0 0 (Qm g below args s (some (.int o.1)) o.2) (F0 m 0 ls []) := by
  obtain ⟨hx, hb, hml, hown, hts, hlk, hK⟩ := id C
  unfold f_X11_wipe at h
  refine lv_iload_n hx hb dX11_wipe_0 rfl (lv_at hl 1 rfl) ?_
  obtain ⟨r2, hc1, h⟩ := bn_e h
  refine r_callS1 (As := [.int a1]) C hl.1 hH (c_X11_isTwo l g  hc1) q304 q5 q302 q303 nd_X11_isTwo rfl (by decide) ⟨Nat.zero_le _, Nat.zero_le _⟩ (Nat.le_of_ble_eq_true rfl) dX11_wipe_1 (fun H locs hH => ?_)
  refine lv_if_ne (tgt := 10) hx hb dX11_wipe_4 (by decide) (fun c7 => ?_) (fun c7 => ?_)
  · replace h := if_f h c7
    refine lv_aload_n hx hb dX11_wipe_10 rfl (lv_at hl 0 rfl) ?_
    refine gf_X11_25 C hH dX11_wipe_11 ?_
    refine lv_iload_n hx hb dX11_wipe_14 rfl (lv_at hl 1 rfl) ?_
    obtain ⟨hv3, h⟩ := ck_e h
    refine r_ald C hH ka_38 (by decide) (by decide) (vi_in hv3) dX11_wipe_15 ?_
    refine lv_topi (fun x4 ex4 => ?_)
    replace h := lt_e h ex4
    refine lv_istore_n (lv' := [(2, .int x4), (0, .ref (gad g 10 0)), (1, .int a1)]) hx hb dX11_wipe_16 rfl hl (by decide) rfl (fun ls hl => ?_)
    refine lv_aload_n hx hb dX11_wipe_17 rfl (lv_at hl 1 rfl) ?_
    refine gf_X11_25 C hH dX11_wipe_18 ?_
    refine lv_iload_n hx hb dX11_wipe_21 rfl (lv_at hl 2 rfl) ?_
    refine lv_iconst (v := (0 : Int32)) hx hb dX11_wipe_22 (by decide) ?_
    obtain ⟨hv5, h⟩ := ck_e h
    refine r_ast C hH ka_38 ko_38 (by decide) (by decide) (vi_in hv5) dX11_wipe_23 (fun S6 H locs eS hH => ?_)
    replace h := lt_e h eS
    refine lv_iload_n hx hb dX11_wipe_24 rfl (lv_at hl 0 rfl) ?_
    exact E_int C hr hH h dX11_wipe_25
  · replace h := if_t h c7
    refine lv_bipush (v := (-2 : Int32)) hx hb dX11_wipe_7 (by decide) ?_
    exact E_int C hr hH h dX11_wipe_9
theorem c_X11_wipe (l : Launch) (g : gT) {a1 : Int32}  {S : sT} {r : Int32} {S1 : sT} (h : f_X11_wipe a1 S = some (r, S1)) : MF l yX11_wipe cX11_wipe 3 (some .int) 3 g [.ref (gad g 10 0), .int a1] S (some (.int r)) S1 := by
  refine MF.of (own := RX11) rfl rfl (Nat.le_of_ble_eq_true rfl) ?_
  intro p e s m below meth c C hr hH ls hl
  exact w_X11_wipe C hr (o := (r, S1))  hH hl h
theorem nd_X11_undo : yX11_undo.cls ≠ "java/lang/invoke/MethodHandle" ∧ yX11_undo.cls ≠ "java/lang/invoke/VarHandle" ∧ (parseMethodDescriptor yX11_undo.desc).map (fun d => d.parameters.length) = some 1 := by decide +kernel
def f_X11_undo (a1 : Int32) (S : sT) : Option (Int32 × sT) :=
 bn (f_X11_isTwo a1 S) (fun r2 =>
 (if r2 = (0 : Int32) then
 some ((-2 : Int32), S)
 else
 ck (vi a1 2) (
 (if (S.1 38 0 (cl a1)) = (0 : Int32) then
 some ((-3 : Int32), S)
 else
 ck (vi a1 2) (
 ck (vi a1 2) (
 lt (us S 38 0 (cl a1) ((S.1 38 0 (cl a1)) - (1 : Int32))) (fun S6 =>
 ck (vi a1 2) (
 some ((S6.1 38 0 (cl a1)), S6)))))))))
set_option maxHeartbeats 4000000 in
set_option maxRecDepth 100000 in
theorem w_X11_undo (C : Cx p s m args meth c cX11_undo 2 RX11 g) (hr : meth.sig.returnType = (some .int)) {o : Int32 × sT} {a1 : Int32}  {S : sT} {H : Heap} {locs : List Loc} {ls : Array Slot} (hH : Hp g s S H locs) (hl : lv_has ls 2 [(0, .ref (gad g 10 0)), (1, .int a1)]) (h : f_X11_undo a1 S = some o) : W p l e (rmL 3) s m args below meth c H locs 0 0 (Qm g below args s (some (.int o.1)) o.2) (F0 m 0 ls []) := by
  obtain ⟨hx, hb, hml, hown, hts, hlk, hK⟩ := id C
  unfold f_X11_undo at h
  refine lv_iload_n hx hb dX11_undo_0 rfl (lv_at hl 1 rfl) ?_
  obtain ⟨r2, hc1, h⟩ := bn_e h
  refine r_callS1 (As := [.int a1]) C hl.1 hH (c_X11_isTwo l g  hc1) q304 q5 q302 q303 nd_X11_isTwo rfl (by decide) ⟨Nat.zero_le _, Nat.zero_le _⟩ (Nat.le_of_ble_eq_true rfl) dX11_undo_1 (fun H locs hH => ?_)
  refine lv_if_ne (tgt := 10) hx hb dX11_undo_4 (by decide) (fun c9 => ?_) (fun c9 => ?_)
  · replace h := if_f h c9
    refine lv_aload_n hx hb dX11_undo_10 rfl (lv_at hl 0 rfl) ?_
    refine gf_X11_25 C hH dX11_undo_11 ?_
    refine lv_iload_n hx hb dX11_undo_14 rfl (lv_at hl 1 rfl) ?_
    obtain ⟨hv3, h⟩ := ck_e h
    refine r_ald C hH ka_38 (by decide) (by decide) (vi_in hv3) dX11_undo_15 ?_
    refine lv_if_ne (tgt := 22) hx hb dX11_undo_16 (by decide) (fun c8 => ?_) (fun c8 => ?_)
    · replace h := if_f h c8
      refine lv_aload_n hx hb dX11_undo_22 rfl (lv_at hl 0 rfl) ?_
      refine gf_X11_25 C hH dX11_undo_23 ?_
      refine lv_iload_n hx hb dX11_undo_26 rfl (lv_at hl 1 rfl) ?_
      refine lv_dup2_11 hx hb dX11_undo_27 rfl rfl ?_
      obtain ⟨hv4, h⟩ := ck_e h
      refine r_ald C hH ka_38 (by decide) (by decide) (vi_in hv4) dX11_undo_28 ?_
      refine lv_iconst (v := (1 : Int32)) hx hb dX11_undo_29 (by decide) ?_
      refine lv_isub hx hb dX11_undo_30 ?_
      obtain ⟨hv5, h⟩ := ck_e h
      refine r_ast C hH ka_38 ko_38 (by decide) (by decide) (vi_in hv5) dX11_undo_31 (fun S6 H locs eS hH => ?_)
      replace h := lt_e h eS
      refine lv_aload_n hx hb dX11_undo_32 rfl (lv_at hl 0 rfl) ?_
      refine gf_X11_25 C hH dX11_undo_33 ?_
      refine lv_iload_n hx hb dX11_undo_36 rfl (lv_at hl 1 rfl) ?_
      obtain ⟨hv7, h⟩ := ck_e h
      refine r_ald C hH ka_38 (by decide) (by decide) (vi_in hv7) dX11_undo_37 ?_
      exact E_int C hr hH h dX11_undo_38
    · replace h := if_t h c8
      refine lv_bipush (v := (-3 : Int32)) hx hb dX11_undo_19 (by decide) ?_
      exact E_int C hr hH h dX11_undo_21
  · replace h := if_t h c9
    refine lv_bipush (v := (-2 : Int32)) hx hb dX11_undo_7 (by decide) ?_
    exact E_int C hr hH h dX11_undo_9
theorem c_X11_undo (l : Launch) (g : gT) {a1 : Int32}  {S : sT} {r : Int32} {S1 : sT} (h : f_X11_undo a1 S = some (r, S1)) : MF l yX11_undo cX11_undo 2 (some .int) 3 g [.ref (gad g 10 0), .int a1] S (some (.int r)) S1 := by
  refine MF.of (own := RX11) rfl rfl (Nat.le_of_ble_eq_true rfl) ?_
  intro p e s m below meth c C hr hH ls hl
  exact w_X11_undo C hr (o := (r, S1))  hH hl h
theorem nd_X11_stoneOf : yX11_stoneOf.cls ≠ "java/lang/invoke/MethodHandle" ∧ yX11_stoneOf.cls ≠ "java/lang/invoke/VarHandle" ∧ (parseMethodDescriptor yX11_stoneOf.desc).map (fun d => d.parameters.length) = some 1 := by decide +kernel
def f_X11_stoneOf (a1 : Int32) (S : sT) : Option (Int32) :=
 (if a1 = (110 : Int32) then
 some (0 : Int32)
 else
 (if a1 = (115 : Int32) then
 some (1 : Int32)
 else
 (if a1 = (78 : Int32) then
 some (2 : Int32)
 else
 (if a1 = (83 : Int32) then
 some (3 : Int32)
 else
 some (-1 : Int32)))))
set_option maxHeartbeats 4000000 in
set_option maxRecDepth 100000 in
theorem w_X11_stoneOf (C : Cx p s m args meth c cX11_stoneOf 1 RX11 g) (hr : meth.sig.returnType = (some .int)) {o : Int32} {a1 : Int32}  {S : sT} {H : Heap} {locs : List Loc} {ls : Array Slot} (hH : Hp g s S H locs) (hl : lv_has ls 1 [(0, .int a1)]) (h : f_X11_stoneOf a1 S = some o) : W p l e (rmL 1) s m args below meth c H locs 0 0 (Qm g below args s (some (.int o)) S) (F0 m 0 ls []) := by
  obtain ⟨hx, hb, hml, hown, hts, hlk, hK⟩ := id C
  unfold f_X11_stoneOf at h
  refine lv_iload_n hx hb dX11_stoneOf_0 rfl (lv_at hl 0 rfl) ?_
  refine lv_bipush (v := (110 : Int32)) hx hb dX11_stoneOf_1 (by decide) ?_
  refine lv_icmp_ne (tgt := 10) hx hb dX11_stoneOf_3 (by decide) (fun c4 => ?_) (fun c4 => ?_)
  · replace h := if_f h c4
    refine lv_iload_n hx hb dX11_stoneOf_10 rfl (lv_at hl 0 rfl) ?_
    refine lv_bipush (v := (115 : Int32)) hx hb dX11_stoneOf_11 (by decide) ?_
    refine lv_icmp_ne (tgt := 20) hx hb dX11_stoneOf_13 (by decide) (fun c3 => ?_) (fun c3 => ?_)
    · replace h := if_f h c3
      refine lv_iload_n hx hb dX11_stoneOf_20 rfl (lv_at hl 0 rfl) ?_
      refine lv_bipush (v := (78 : Int32)) hx hb dX11_stoneOf_21 (by decide) ?_
      refine lv_icmp_ne (tgt := 30) hx hb dX11_stoneOf_23 (by decide) (fun c2 => ?_) (fun c2 => ?_)
      · replace h := if_f h c2
        refine lv_iload_n hx hb dX11_stoneOf_30 rfl (lv_at hl 0 rfl) ?_
        refine lv_bipush (v := (83 : Int32)) hx hb dX11_stoneOf_31 (by decide) ?_
        refine lv_icmp_ne (tgt := 40) hx hb dX11_stoneOf_33 (by decide) (fun c1 => ?_) (fun c1 => ?_)
        · replace h := if_f h c1
          refine lv_iconst (v := (-1 : Int32)) hx hb dX11_stoneOf_40 (by decide) ?_
          exact E_intc C hr hH h dX11_stoneOf_41
        · replace h := if_t h c1
          refine lv_iconst (v := (3 : Int32)) hx hb dX11_stoneOf_36 (by decide) ?_
          refine lv_goto (tgt := 41) hx hb dX11_stoneOf_37 (by decide) ?_
          exact E_intc C hr hH h dX11_stoneOf_41
      · replace h := if_t h c2
        refine lv_iconst (v := (2 : Int32)) hx hb dX11_stoneOf_26 (by decide) ?_
        refine lv_goto (tgt := 41) hx hb dX11_stoneOf_27 (by decide) ?_
        exact E_intc C hr hH h dX11_stoneOf_41
    · replace h := if_t h c3
      refine lv_iconst (v := (1 : Int32)) hx hb dX11_stoneOf_16 (by decide) ?_
      refine lv_goto (tgt := 41) hx hb dX11_stoneOf_17 (by decide) ?_
      exact E_intc C hr hH h dX11_stoneOf_41
  · replace h := if_t h c4
    refine lv_iconst (v := (0 : Int32)) hx hb dX11_stoneOf_6 (by decide) ?_
    refine lv_goto (tgt := 41) hx hb dX11_stoneOf_7 (by decide) ?_
    exact E_intc C hr hH h dX11_stoneOf_41
theorem c_X11_stoneOf (l : Launch) (g : gT) {a1 : Int32}  {S : sT} {r : Int32} (h : f_X11_stoneOf a1 S = some r) : MF l yX11_stoneOf cX11_stoneOf 1 (some .int) 1 g [.int a1] S (some (.int r)) S := by
  refine MF.of (own := RX11) rfl rfl (Nat.le_of_ble_eq_true rfl) ?_
  intro p e s m below meth c C hr hH ls hl
  exact w_X11_stoneOf C hr (o := r)  hH hl h
theorem nd_X11_readsWall : yX11_readsWall.cls ≠ "java/lang/invoke/MethodHandle" ∧ yX11_readsWall.cls ≠ "java/lang/invoke/VarHandle" ∧ (parseMethodDescriptor yX11_readsWall.desc).map (fun d => d.parameters.length) = some 0 := by decide +kernel
def b_X11_readsWall_27 (j9 : Int32 → sT → Option (Int32 × sT)) (x10 : Int32) (S11 : sT) (k12 : Int32 → sT → Option (Int32 × sT)) : Option (Int32 × sT) :=
 ck (vi (0 : Int32) 2) (
 (if (S11.1 38 0 (cl (0 : Int32))) ≤ x10 then
 some ((-1 : Int32), S11)
 else
 ck (vi x10 128) (
 bn (f_X11_stoneOf (S11.1 37 0 (cl x10)) S11) (fun r16 =>
 lt ((S11.1 115 0 0) - (1 : Int32)) (fun x17 =>
 ck (vi x10 128) (
 jn (fun (y19 : Int32) => jn (jn (fun (S20 : sT) => lt (x10 + (1 : Int32)) (fun x21 =>
 k12 x21 S20))
 (fun j22 => (if y19 = (0 : Int32) then
 ck (vi x17 8) (
 ck (vi (((8 : Int32) * x17) + (S11.1 40 0 (cl x17))) 64) (
 lt (us S11 39 0 (cl (((8 : Int32) * x17) + (S11.1 40 0 (cl x17)))) r16) (fun S25 =>
 ck (vi x17 8) (
 ck (vi x17 8) (
 lt (us S25 40 0 (cl x17) ((S25.1 40 0 (cl x17)) + (1 : Int32))) (fun S28 =>
 j22 S28))))))
 else
 ck (vi (S11.1 115 0 0) 8) (
 lt (us S11 40 0 (cl (S11.1 115 0 0)) (0 : Int32)) (fun S30 =>
 lt (us S30 115 0 0 ((S30.1 115 0 0) + (1 : Int32))) (fun S31 =>
 j22 S31))))))
 (fun j33 => (if y19 = (0 : Int32) then
 (if r16 = (-1 : Int32) then
 j9 x10 S11
 else
 ck (vi x17 8) (
 (if (S11.1 40 0 (cl x17)) = (8 : Int32) then
 j9 x10 S11
 else
 j33)))
 else
 j33)))
 (fun j38 => jn (j38 (0 : Int32))
 (fun j39 => (if (S11.1 37 0 (cl x10)) = (59 : Int32) then
 (if (8 : Int32) ≤ (S11.1 115 0 0) then
 j39
 else
 j38 (1 : Int32))
 else
 j39)))))))))
def l_X11_readsWall_27 (j9 : Int32 → sT → Option (Int32 × sT)) : Nat → Int32 → sT → Option (Int32 × sT)
 | 0, _, _ => none
 | n + 1, x10, S11 => b_X11_readsWall_27 j9 x10 S11 (l_X11_readsWall_27 j9 n)
theorem l_X11_readsWall_27_s (j9 : Int32 → sT → Option (Int32 × sT)) (n : Nat) (x10 : Int32) (S11 : sT) : l_X11_readsWall_27 j9 (n + 1) x10 S11 = b_X11_readsWall_27 j9 x10 S11 (l_X11_readsWall_27 j9 n) := rfl
def f_X11_readsWall  (S : sT) : Option (Int32 × sT) :=
 ck (vi (0 : Int32) 2) (
 jn (fun (y2 : Int32) => lt (us S 115 0 0 y2) (fun S3 =>
 ck (vi (0 : Int32) 8) (
 lt (us S3 40 0 (cl (0 : Int32)) (0 : Int32)) (fun S5 =>
 jn (fun (x6 : Int32) (S7 : sT) => lt (us S7 115 0 0 (0 : Int32)) (fun S8 =>
 some (x6, S8)))
 (fun j9 => l_X11_readsWall_27 j9 FU (0 : Int32) S5)))))
 (fun j43 => (if (S.1 38 0 (cl (0 : Int32))) = (0 : Int32) then
 j43 (0 : Int32)
 else
 j43 (1 : Int32))))
set_option maxHeartbeats 4000000 in
set_option maxRecDepth 100000 in
theorem w_X11_readsWall_27 (C : Cx p s m args meth c cX11_readsWall 5 RX11 g) (hr : meth.sig.returnType = (some .int)) {o : Int32 × sT}    (j9 : Int32 → sT → Option (Int32 × sT)) (hj9 : ∀ (x6 : Int32) (S7 : sT) (H : Heap) (locs : List Loc) (ls : Array Slot), Hp g s S7 H locs → lv_has ls 5 [(0, .ref (gad g 10 0)), (1, .int x6)] → j9 x6 S7 = some o → W p l e (rmL 2) s m args below meth c H locs 0 0 (Qm g below args s (some (.int o.1)) o.2) (F0 m 102 ls [])) : ∀ (n : Nat) (x10 : Int32) (S11 : sT) (H : Heap) (locs : List Loc) (ls : Array Slot), Hp g s S11 H locs → lv_has ls 5 [(0, .ref (gad g 10 0)), (1, .int x10)] → l_X11_readsWall_27 j9 n x10 S11 = some o → W p l e (rmL 2) s m args below meth c H locs 0 0 (Qm g below args s (some (.int o.1)) o.2) (F0 m 27 ls []) := by
  obtain ⟨hx, hb, hml, hown, hts, hlk, hK⟩ := id C
  intro n
  induction n with
  | zero =>
    intro x10 S11 H locs ls hH hl h
    cases h
  | succ n ih =>
    intro x10 S11 H locs ls hH hl h
    rw [l_X11_readsWall_27_s] at h
    unfold b_X11_readsWall_27 at h
    refine lv_iload_n hx hb dX11_readsWall_27 rfl (lv_at hl 1 rfl) ?_
    refine lv_aload_n hx hb dX11_readsWall_28 rfl (lv_at hl 0 rfl) ?_
    refine gf_X11_25 C hH dX11_readsWall_29 ?_
    refine lv_iconst (v := (0 : Int32)) hx hb dX11_readsWall_32 (by decide) ?_
    obtain ⟨hv13, h⟩ := ck_e h
    refine r_ald C hH ka_38 (by decide) (by decide) (vi_in hv13) dX11_readsWall_33 ?_
    refine lv_icmp_ge (tgt := 170) hx hb dX11_readsWall_34 (by decide) (fun c42 => ?_) (fun c42 => ?_)
    · replace h := if_t h c42
      refine lv_iconst (v := (-1 : Int32)) hx hb dX11_readsWall_170 (by decide) ?_
      exact E_int C hr hH h dX11_readsWall_171
    · replace h := if_f h c42
      refine lv_aload_n hx hb dX11_readsWall_37 rfl (lv_at hl 0 rfl) ?_
      refine gf_X11_22 C hH dX11_readsWall_38 ?_
      refine lv_iload_n hx hb dX11_readsWall_41 rfl (lv_at hl 1 rfl) ?_
      obtain ⟨hv14, h⟩ := ck_e h
      refine r_ald C hH ka_37 (by decide) (by decide) (vi_in hv14) dX11_readsWall_42 ?_
      obtain ⟨r16, hc15, h⟩ := bn_e h
      refine r_callS1 (As := [.int (S11.1 37 0 (cl x10))]) C hl.1 hH (c_X11_stoneOf l g  hc15) q347 q5 q345 q346 nd_X11_stoneOf rfl (by decide) ⟨Nat.zero_le _, Nat.zero_le _⟩ (Nat.le_of_ble_eq_true rfl) dX11_readsWall_43 (fun H locs hH => ?_)
      refine lv_istore_n (lv' := [(2, .int r16), (0, .ref (gad g 10 0)), (1, .int x10)]) hx hb dX11_readsWall_46 rfl hl (by decide) rfl (fun ls hl => ?_)
      refine lv_aload_n hx hb dX11_readsWall_47 rfl (lv_at hl 1 rfl) ?_
      refine gf_X11_91 C hH dX11_readsWall_48 ?_
      refine lv_iconst (v := (1 : Int32)) hx hb dX11_readsWall_51 (by decide) ?_
      refine lv_isub hx hb dX11_readsWall_52 ?_
      refine lv_topi (fun x17 ex17 => ?_)
      replace h := lt_e h ex17
      refine lv_istore_n (lv' := [(3, .int x17), (2, .int r16), (0, .ref (gad g 10 0)), (1, .int x10)]) hx hb dX11_readsWall_53 rfl hl (by decide) rfl (fun ls hl => ?_)
      refine lv_aload_n hx hb dX11_readsWall_54 rfl (lv_at hl 2 rfl) ?_
      refine gf_X11_22 C hH dX11_readsWall_55 ?_
      refine lv_iload_n hx hb dX11_readsWall_58 rfl (lv_at hl 3 rfl) ?_
      obtain ⟨hv18, h⟩ := ck_e h
      refine r_ald C hH ka_37 (by decide) (by decide) (vi_in hv18) dX11_readsWall_59 ?_
      refine lv_bipush (v := (59 : Int32)) hx hb dX11_readsWall_60 (by decide) ?_
      obtain ⟨j38, ej38, h⟩ := jn_e h
      have hj38 : ∀ (y19 : Int32) (H : Heap) (locs : List Loc) (ls : Array Slot), Hp g s S11 H locs → lv_has ls 5 [(0, .ref (gad g 10 0)), (1, .int x10), (2, .int r16), (3, .int x17)] → j38 y19 = some o → W p l e (rmL 2) s m args below meth c H locs 0 0 (Qm g below args s (some (.int o.1)) o.2) (F0 m 79 ls [.int y19]) := by
        intro y19 H locs ls hH hl h
        rw [ej38] at h
        try dsimp only at h
        refine lv_istore (lv' := [(4, .int y19), (0, .ref (gad g 10 0)), (1, .int x10), (2, .int r16), (3, .int x17)]) hx hb dX11_readsWall_79 hl (by decide) rfl (fun ls hl => ?_)
        refine lv_iload hx hb dX11_readsWall_81 (lv_at hl 0 rfl) ?_
        obtain ⟨j33, ej33, h⟩ := jn_e h
        have hj33 : ∀  (H : Heap) (locs : List Loc) (ls : Array Slot), Hp g s S11 H locs → lv_has ls 5 [(0, .ref (gad g 10 0)), (1, .int x10), (2, .int r16), (3, .int x17), (4, .int y19)] → j33  = some o → W p l e (rmL 2) s m args below meth c H locs 0 0 (Qm g below args s (some (.int o.1)) o.2) (F0 m 109 ls []) := by
          intro  H locs ls hH hl h
          rw [ej33] at h
          try dsimp only at h
          refine lv_iload hx hb dX11_readsWall_109 (lv_at hl 4 rfl) ?_
          obtain ⟨j22, ej22, h⟩ := jn_e h
          have hj22 : ∀ (S20 : sT) (H : Heap) (locs : List Loc) (ls : Array Slot), Hp g s S20 H locs → lv_has ls 5 [(0, .ref (gad g 10 0)), (1, .int x10)] → j22 S20 = some o → W p l e (rmL 2) s m args below meth c H locs 0 0 (Qm g below args s (some (.int o.1)) o.2) (F0 m 164 ls []) := by
            intro S20 H locs ls hH hl h
            rw [ej22] at h
            try dsimp only at h
            obtain ⟨x21, ex21⟩ : ∃ z : Int32, z = (x10 + (1 : Int32)) := ⟨_, rfl⟩
            replace h := lt_e h ex21
            refine lv_iinc (v := x21) (lv' := [(1, .int x21), (0, .ref (gad g 10 0))]) hx hb dX11_readsWall_164 hl (k := 1) rfl (by rw [ex21]; rfl) (by decide) rfl (fun ls hl => ?_)
            refine lv_goto (tgt := 27) hx hb dX11_readsWall_167 (by decide) ?_
            exact ih _ _ _ _ _ hH (lv_sub hl [1, 0] rfl) h
          clear ej22
          refine lv_if_eq (tgt := 137) hx hb dX11_readsWall_111 (by decide) (fun c32 => ?_) (fun c32 => ?_)
          · replace h := if_t h c32
            refine lv_aload_n hx hb dX11_readsWall_137 rfl (lv_at hl 0 rfl) ?_
            refine gf_X11_28 C hH dX11_readsWall_138 ?_
            refine lv_bipush (v := (8 : Int32)) hx hb dX11_readsWall_141 (by decide) ?_
            refine lv_iload_n hx hb dX11_readsWall_143 rfl (lv_at hl 3 rfl) ?_
            refine lv_imul hx hb dX11_readsWall_144 ?_
            refine lv_aload_n hx hb dX11_readsWall_145 rfl (lv_at hl 0 rfl) ?_
            refine gf_X11_31 C hH dX11_readsWall_146 ?_
            refine lv_iload_n hx hb dX11_readsWall_149 rfl (lv_at hl 3 rfl) ?_
            obtain ⟨hv23, h⟩ := ck_e h
            refine r_ald C hH ka_40 (by decide) (by decide) (vi_in hv23) dX11_readsWall_150 ?_
            refine lv_iadd hx hb dX11_readsWall_151 ?_
            refine lv_iload_n hx hb dX11_readsWall_152 rfl (lv_at hl 2 rfl) ?_
            obtain ⟨hv24, h⟩ := ck_e h
            refine r_ast C hH ka_39 ko_39 (by decide) (by decide) (vi_in hv24) dX11_readsWall_153 (fun S25 H locs eS hH => ?_)
            replace h := lt_e h eS
            refine lv_aload_n hx hb dX11_readsWall_154 rfl (lv_at hl 0 rfl) ?_
            refine gf_X11_31 C hH dX11_readsWall_155 ?_
            refine lv_iload_n hx hb dX11_readsWall_158 rfl (lv_at hl 3 rfl) ?_
            refine lv_dup2_11 hx hb dX11_readsWall_159 rfl rfl ?_
            obtain ⟨hv26, h⟩ := ck_e h
            refine r_ald C hH ka_40 (by decide) (by decide) (vi_in hv26) dX11_readsWall_160 ?_
            refine lv_iconst (v := (1 : Int32)) hx hb dX11_readsWall_161 (by decide) ?_
            refine lv_iadd hx hb dX11_readsWall_162 ?_
            obtain ⟨hv27, h⟩ := ck_e h
            refine r_ast C hH ka_40 ko_40 (by decide) (by decide) (vi_in hv27) dX11_readsWall_163 (fun S28 H locs eS hH => ?_)
            replace h := lt_e h eS
            exact hj22 _ _ _ _ hH (lv_sub hl [0, 1] rfl) h
          · replace h := if_f h c32
            refine lv_aload_n hx hb dX11_readsWall_114 rfl (lv_at hl 0 rfl) ?_
            refine gf_X11_31 C hH dX11_readsWall_115 ?_
            refine lv_aload_n hx hb dX11_readsWall_118 rfl (lv_at hl 0 rfl) ?_
            refine gf_X11_91 C hH dX11_readsWall_119 ?_
            refine lv_iconst (v := (0 : Int32)) hx hb dX11_readsWall_122 (by decide) ?_
            obtain ⟨hv29, h⟩ := ck_e h
            refine r_ast C hH ka_40 ko_40 (by decide) (by decide) (vi_in hv29) dX11_readsWall_123 (fun S30 H locs eS hH => ?_)
            replace h := lt_e h eS
            refine lv_aload_n hx hb dX11_readsWall_124 rfl (lv_at hl 0 rfl) ?_
            refine lv_dup hx hb dX11_readsWall_125 rfl ?_
            refine gf_X11_91 C hH dX11_readsWall_126 ?_
            refine lv_iconst (v := (1 : Int32)) hx hb dX11_readsWall_129 (by decide) ?_
            refine lv_iadd hx hb dX11_readsWall_130 ?_
            refine pf_X11_91 C hH dX11_readsWall_131 (fun S31 H locs eS hH => ?_)
            replace h := lt_e h eS
            refine lv_goto (tgt := 164) hx hb dX11_readsWall_134 (by decide) ?_
            exact hj22 _ _ _ _ hH (lv_sub hl [0, 1] rfl) h
        clear ej33
        refine lv_if_ne (tgt := 109) hx hb dX11_readsWall_83 (by decide) (fun c37 => ?_) (fun c37 => ?_)
        · replace h := if_f h c37
          exact hj33 _ _ _ hH (lv_sub hl [1, 2, 3, 4, 0] rfl) h
        · replace h := if_t h c37
          refine lv_iload_n hx hb dX11_readsWall_86 rfl (lv_at hl 3 rfl) ?_
          refine lv_iconst (v := (-1 : Int32)) hx hb dX11_readsWall_87 (by decide) ?_
          refine lv_icmp_eq (tgt := 102) hx hb dX11_readsWall_88 (by decide) (fun c36 => ?_) (fun c36 => ?_)
          · replace h := if_t h c36
            exact hj9 _ _ _ _ _ hH (lv_sub hl [1, 2] rfl) h
          · replace h := if_f h c36
            refine lv_aload_n hx hb dX11_readsWall_91 rfl (lv_at hl 1 rfl) ?_
            refine gf_X11_31 C hH dX11_readsWall_92 ?_
            refine lv_iload_n hx hb dX11_readsWall_95 rfl (lv_at hl 4 rfl) ?_
            obtain ⟨hv34, h⟩ := ck_e h
            refine r_ald C hH ka_40 (by decide) (by decide) (vi_in hv34) dX11_readsWall_96 ?_
            refine lv_bipush (v := (8 : Int32)) hx hb dX11_readsWall_97 (by decide) ?_
            refine lv_icmp_ne (tgt := 109) hx hb dX11_readsWall_99 (by decide) (fun c35 => ?_) (fun c35 => ?_)
            · replace h := if_f h c35
              exact hj33 _ _ _ hH (lv_sub hl [1, 2, 3, 4, 0] rfl) h
            · replace h := if_t h c35
              exact hj9 _ _ _ _ _ hH (lv_sub hl [1, 2] rfl) h
      clear ej38
      obtain ⟨j39, ej39, h⟩ := jn_e h
      have hj39 : ∀  (H : Heap) (locs : List Loc) (ls : Array Slot), Hp g s S11 H locs → lv_has ls 5 [(0, .ref (gad g 10 0)), (1, .int x10), (2, .int r16), (3, .int x17)] → j39  = some o → W p l e (rmL 2) s m args below meth c H locs 0 0 (Qm g below args s (some (.int o.1)) o.2) (F0 m 78 ls []) := by
        intro  H locs ls hH hl h
        rw [ej39] at h
        try dsimp only at h
        refine lv_iconst (v := (0 : Int32)) hx hb dX11_readsWall_78 (by decide) ?_
        exact hj38 _ _ _ _ hH (lv_sub hl [0, 1, 2, 3] rfl) h
      clear ej39
      refine lv_icmp_ne (tgt := 78) hx hb dX11_readsWall_62 (by decide) (fun c41 => ?_) (fun c41 => ?_)
      · replace h := if_f h c41
        exact hj39 _ _ _ hH (lv_sub hl [2, 3, 1, 0] rfl) h
      · replace h := if_t h c41
        refine lv_aload_n hx hb dX11_readsWall_65 rfl (lv_at hl 2 rfl) ?_
        refine gf_X11_91 C hH dX11_readsWall_66 ?_
        refine lv_bipush (v := (8 : Int32)) hx hb dX11_readsWall_69 (by decide) ?_
        refine lv_icmp_ge (tgt := 78) hx hb dX11_readsWall_71 (by decide) (fun c40 => ?_) (fun c40 => ?_)
        · replace h := if_t h c40
          exact hj39 _ _ _ hH (lv_sub hl [2, 3, 1, 0] rfl) h
        · replace h := if_f h c40
          refine lv_iconst (v := (1 : Int32)) hx hb dX11_readsWall_74 (by decide) ?_
          refine lv_goto (tgt := 79) hx hb dX11_readsWall_75 (by decide) ?_
          exact hj38 _ _ _ _ hH (lv_sub hl [2, 3, 1, 0] rfl) h
set_option maxHeartbeats 4000000 in
set_option maxRecDepth 100000 in
theorem w_X11_readsWall (C : Cx p s m args meth c cX11_readsWall 5 RX11 g) (hr : meth.sig.returnType = (some .int)) {o : Int32 × sT}   {S : sT} {H : Heap} {locs : List Loc} {ls : Array Slot} (hH : Hp g s S H locs) (hl : lv_has ls 5 [(0, .ref (gad g 10 0))]) (h : f_X11_readsWall  S = some o) : W p l e (rmL 2) s m args below meth c H locs 0 0 (Qm g below args s (some (.int o.1)) o.2) (F0 m 0 ls []) := by
  obtain ⟨hx, hb, hml, hown, hts, hlk, hK⟩ := id C
  unfold f_X11_readsWall at h
  refine lv_aload_n hx hb dX11_readsWall_0 rfl (lv_at hl 0 rfl) ?_
  refine lv_aload_n hx hb dX11_readsWall_1 rfl (lv_at hl 0 rfl) ?_
  refine gf_X11_25 C hH dX11_readsWall_2 ?_
  refine lv_iconst (v := (0 : Int32)) hx hb dX11_readsWall_5 (by decide) ?_
  obtain ⟨hv1, h⟩ := ck_e h
  refine r_ald C hH ka_38 (by decide) (by decide) (vi_in hv1) dX11_readsWall_6 ?_
  obtain ⟨j43, ej43, h⟩ := jn_e h
  have hj43 : ∀ (y2 : Int32) (H : Heap) (locs : List Loc) (ls : Array Slot), Hp g s S H locs → lv_has ls 5 [(0, .ref (gad g 10 0))] → j43 y2 = some o → W p l e (rmL 2) s m args below meth c H locs 0 0 (Qm g below args s (some (.int o.1)) o.2) (F0 m 15 ls [.int y2, .ref (gad g 10 0)]) := by
    intro y2 H locs ls hH hl h
    rw [ej43] at h
    try dsimp only at h
    refine pf_X11_91 C hH dX11_readsWall_15 (fun S3 H locs eS hH => ?_)
    replace h := lt_e h eS
    refine lv_aload_n hx hb dX11_readsWall_18 rfl (lv_at hl 0 rfl) ?_
    refine gf_X11_31 C hH dX11_readsWall_19 ?_
    refine lv_iconst (v := (0 : Int32)) hx hb dX11_readsWall_22 (by decide) ?_
    refine lv_iconst (v := (0 : Int32)) hx hb dX11_readsWall_23 (by decide) ?_
    obtain ⟨hv4, h⟩ := ck_e h
    refine r_ast C hH ka_40 ko_40 (by decide) (by decide) (vi_in hv4) dX11_readsWall_24 (fun S5 H locs eS hH => ?_)
    replace h := lt_e h eS
    refine lv_iconst (v := (0 : Int32)) hx hb dX11_readsWall_25 (by decide) ?_
    refine lv_istore_n (lv' := [(1, .int (0 : Int32)), (0, .ref (gad g 10 0))]) hx hb dX11_readsWall_26 rfl hl (by decide) rfl (fun ls hl => ?_)
    obtain ⟨j9, ej9, h⟩ := jn_e h
    have hj9 : ∀ (x6 : Int32) (S7 : sT) (H : Heap) (locs : List Loc) (ls : Array Slot), Hp g s S7 H locs → lv_has ls 5 [(0, .ref (gad g 10 0)), (1, .int x6)] → j9 x6 S7 = some o → W p l e (rmL 2) s m args below meth c H locs 0 0 (Qm g below args s (some (.int o.1)) o.2) (F0 m 102 ls []) := by
      intro x6 S7 H locs ls hH hl h
      rw [ej9] at h
      try dsimp only at h
      refine lv_aload_n hx hb dX11_readsWall_102 rfl (lv_at hl 0 rfl) ?_
      refine lv_iconst (v := (0 : Int32)) hx hb dX11_readsWall_103 (by decide) ?_
      refine pf_X11_91 C hH dX11_readsWall_104 (fun S8 H locs eS hH => ?_)
      replace h := lt_e h eS
      refine lv_iload_n hx hb dX11_readsWall_107 rfl (lv_at hl 1 rfl) ?_
      exact E_int C hr hH h dX11_readsWall_108
    clear ej9
    exact w_X11_readsWall_27 C hr  j9 hj9 _ _ _ _ _ _ hH (lv_sub hl [1, 0] rfl) h
  clear ej43
  refine lv_if_ne (tgt := 14) hx hb dX11_readsWall_7 (by decide) (fun c44 => ?_) (fun c44 => ?_)
  · replace h := if_f h c44
    refine lv_iconst (v := (1 : Int32)) hx hb dX11_readsWall_14 (by decide) ?_
    exact hj43 _ _ _ _ hH (lv_sub hl [0] rfl) h
  · replace h := if_t h c44
    refine lv_iconst (v := (0 : Int32)) hx hb dX11_readsWall_10 (by decide) ?_
    refine lv_goto (tgt := 15) hx hb dX11_readsWall_11 (by decide) ?_
    exact hj43 _ _ _ _ hH (lv_sub hl [0] rfl) h
theorem c_X11_readsWall (l : Launch) (g : gT)   {S : sT} {r : Int32} {S1 : sT} (h : f_X11_readsWall  S = some (r, S1)) : MF l yX11_readsWall cX11_readsWall 5 (some .int) 2 g [.ref (gad g 10 0)] S (some (.int r)) S1 := by
  refine MF.of (own := RX11) rfl rfl (Nat.le_of_ble_eq_true rfl) ?_
  intro p e s m below meth c C hr hH ls hl
  exact w_X11_readsWall C hr (o := (r, S1))  hH hl h
theorem nd_X11_here : yX11_here.cls ≠ "java/lang/invoke/MethodHandle" ∧ yX11_here.cls ≠ "java/lang/invoke/VarHandle" ∧ (parseMethodDescriptor yX11_here.desc).map (fun d => d.parameters.length) = some 0 := by decide +kernel
def f_X11_here  (S : sT) : Option (Int32) :=
 ck (vi (1 : Int32) 2) (
 (if (S.1 38 0 (cl (1 : Int32))) ≤ (S.1 114 0 0) then
 some (-1 : Int32)
 else
 ck (vi ((64 : Int32) + (S.1 114 0 0)) 128) (
 some (S.1 37 0 (cl ((64 : Int32) + (S.1 114 0 0)))))))
set_option maxHeartbeats 4000000 in
set_option maxRecDepth 100000 in
theorem w_X11_here (C : Cx p s m args meth c cX11_here 1 RX11 g) (hr : meth.sig.returnType = (some .int)) {o : Int32}   {S : sT} {H : Heap} {locs : List Loc} {ls : Array Slot} (hH : Hp g s S H locs) (hl : lv_has ls 1 [(0, .ref (gad g 10 0))]) (h : f_X11_here  S = some o) : W p l e (rmL 1) s m args below meth c H locs 0 0 (Qm g below args s (some (.int o)) S) (F0 m 0 ls []) := by
  obtain ⟨hx, hb, hml, hown, hts, hlk, hK⟩ := id C
  unfold f_X11_here at h
  refine lv_aload_n hx hb dX11_here_0 rfl (lv_at hl 0 rfl) ?_
  refine gf_X11_97 C hH dX11_here_1 ?_
  refine lv_aload_n hx hb dX11_here_4 rfl (lv_at hl 0 rfl) ?_
  refine gf_X11_25 C hH dX11_here_5 ?_
  refine lv_iconst (v := (1 : Int32)) hx hb dX11_here_8 (by decide) ?_
  obtain ⟨hv1, h⟩ := ck_e h
  refine r_ald C hH ka_38 (by decide) (by decide) (vi_in hv1) dX11_here_9 ?_
  refine lv_icmp_ge (tgt := 28) hx hb dX11_here_10 (by decide) (fun c3 => ?_) (fun c3 => ?_)
  · replace h := if_t h c3
    refine lv_iconst (v := (-1 : Int32)) hx hb dX11_here_28 (by decide) ?_
    exact E_intc C hr hH h dX11_here_29
  · replace h := if_f h c3
    refine lv_aload_n hx hb dX11_here_13 rfl (lv_at hl 0 rfl) ?_
    refine gf_X11_22 C hH dX11_here_14 ?_
    refine lv_bipush (v := (64 : Int32)) hx hb dX11_here_17 (by decide) ?_
    refine lv_aload_n hx hb dX11_here_19 rfl (lv_at hl 0 rfl) ?_
    refine gf_X11_97 C hH dX11_here_20 ?_
    refine lv_iadd hx hb dX11_here_23 ?_
    obtain ⟨hv2, h⟩ := ck_e h
    refine r_ald C hH ka_37 (by decide) (by decide) (vi_in hv2) dX11_here_24 ?_
    refine lv_goto (tgt := 29) hx hb dX11_here_25 (by decide) ?_
    exact E_intc C hr hH h dX11_here_29
theorem c_X11_here (l : Launch) (g : gT)   {S : sT} {r : Int32} (h : f_X11_here  S = some r) : MF l yX11_here cX11_here 1 (some .int) 1 g [.ref (gad g 10 0)] S (some (.int r)) S := by
  refine MF.of (own := RX11) rfl rfl (Nat.le_of_ble_eq_true rfl) ?_
  intro p e s m below meth c C hr hH ls hl
  exact w_X11_here C hr (o := r)  hH hl h
end G21
