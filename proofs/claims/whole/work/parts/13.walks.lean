section G13
variable {p : Program} {l : Launch} {e : Env} {s : State} {m : MethodId} {args : Array Value} {below : List Frame} {meth : Method} {c : Code} {g : gT}
theorem nd_X4_isTurn : yX4_isTurn.cls ≠ "java/lang/invoke/MethodHandle" ∧ yX4_isTurn.cls ≠ "java/lang/invoke/VarHandle" ∧ (parseMethodDescriptor yX4_isTurn.desc).map (fun d => d.parameters.length) = some 1 := by decide +kernel
def f_X4_isTurn (a1 : Int32) (S : sT) : Option (Int32) :=
 (if a1 < (0 : Int32) then
 some (0 : Int32)
 else
 (if (S.1 104 0 0) ≤ a1 then
 some (0 : Int32)
 else
 (if (12 : Int32) ≤ a1 then
 some (0 : Int32)
 else
 some (1 : Int32))))
set_option maxHeartbeats 4000000 in
set_option maxRecDepth 100000 in
theorem w_X4_isTurn (C : Cx p s m args meth c cX4_isTurn 2 RX4 g) (hr : meth.sig.returnType = (some .boolean)) {o : Int32} {a1 : Int32}  {S : sT} {H : Heap} {locs : List Loc} {ls : Array Slot} (hH : Hp g s S H locs) (hl : lv_has ls 2 [(0, .ref (gad g 3 0)), (1, .int a1)]) (h : f_X4_isTurn a1 S = some o) : W p l e (rmL 1) s m args below meth c H locs 0 0 (Qm g below args s (some (.int o)) S) (F0 m 0 ls []) := by
  obtain ⟨hx, hb, hml, hown, hts, hlk, hK⟩ := id C
  unfold f_X4_isTurn at h
  refine lv_iload_n hx hb dX4_isTurn_0 rfl (lv_at hl 1 rfl) ?_
  refine lv_if_lt (tgt := 22) hx hb dX4_isTurn_1 (by decide) (fun c3 => ?_) (fun c3 => ?_)
  · replace h := if_t h c3
    refine lv_iconst (v := (0 : Int32)) hx hb dX4_isTurn_22 (by decide) ?_
    exact E_boolc C hr hH rfl h dX4_isTurn_23
  · replace h := if_f h c3
    refine lv_iload_n hx hb dX4_isTurn_4 rfl (lv_at hl 1 rfl) ?_
    refine lv_aload_n hx hb dX4_isTurn_5 rfl (lv_at hl 0 rfl) ?_
    refine gf_X4_24 C hH dX4_isTurn_6 ?_
    refine lv_icmp_ge (tgt := 22) hx hb dX4_isTurn_9 (by decide) (fun c2 => ?_) (fun c2 => ?_)
    · replace h := if_t h c2
      refine lv_iconst (v := (0 : Int32)) hx hb dX4_isTurn_22 (by decide) ?_
      exact E_boolc C hr hH rfl h dX4_isTurn_23
    · replace h := if_f h c2
      refine lv_iload_n hx hb dX4_isTurn_12 rfl (lv_at hl 1 rfl) ?_
      refine lv_bipush (v := (12 : Int32)) hx hb dX4_isTurn_13 (by decide) ?_
      refine lv_icmp_ge (tgt := 22) hx hb dX4_isTurn_15 (by decide) (fun c1 => ?_) (fun c1 => ?_)
      · replace h := if_t h c1
        refine lv_iconst (v := (0 : Int32)) hx hb dX4_isTurn_22 (by decide) ?_
        exact E_boolc C hr hH rfl h dX4_isTurn_23
      · replace h := if_f h c1
        refine lv_iconst (v := (1 : Int32)) hx hb dX4_isTurn_18 (by decide) ?_
        refine lv_goto (tgt := 23) hx hb dX4_isTurn_19 (by decide) ?_
        exact E_boolc C hr hH rfl h dX4_isTurn_23
theorem c_X4_isTurn (l : Launch) (g : gT) {a1 : Int32}  {S : sT} {r : Int32} (h : f_X4_isTurn a1 S = some r) : MF l yX4_isTurn cX4_isTurn 2 (some .boolean) 1 g [.ref (gad g 3 0), .int a1] S (some (.int r)) S := by
  refine MF.of (own := RX4) rfl rfl (Nat.le_of_ble_eq_true rfl) ?_
  intro p e s m below meth c C hr hH ls hl
  exact w_X4_isTurn C hr (o := r)  hH hl h
theorem nd_X4_doLays : yX4_doLays.cls ≠ "java/lang/invoke/MethodHandle" ∧ yX4_doLays.cls ≠ "java/lang/invoke/VarHandle" ∧ (parseMethodDescriptor yX4_doLays.desc).map (fun d => d.parameters.length) = some 3 := by decide +kernel
def b_X4_doLays_16 (a1 : Int32) (a2 : Int32) (w3 : Nat) (x3 : Int32) (x4 : Int32) (S5 : sT) (k6 : Int32 → Int32 → sT → Option (Int32 × sT)) : Option (Int32 × sT) :=
 ck (vi a1 12) (
 (if (S5.1 14 0 (cl a1)) ≤ x4 then
 some (x3, S5)
 else
 (if (3 : Int32) ≤ x4 then
 some (x3, S5)
 else
 ck (vi ((a1 * (3 : Int32)) + x4) 36) (
 lt (S5.1 15 0 (cl ((a1 * (3 : Int32)) + x4))) (fun x9 =>
 bn (f_X7_ownerOf x9 S5) (fun r11 =>
 jn (fun (x12 : Int32) (S13 : sT) => lt (x4 + (1 : Int32)) (fun x14 =>
 k6 x12 x14 S13))
 (fun j15 => (if r11 = a2 then
 ck (vi ((a1 * (3 : Int32)) + x4) 36) (
 bn2 (f_X9_put w3 (S5.1 16 0 (cl ((a1 * (3 : Int32)) + x4))) x9 S5) (fun r18 S19 =>
 (if r18 = (0 : Int32) then
 j15 x3 S19
 else
 lt (x3 + (1 : Int32)) (fun x20 =>
 j15 x20 S19))))
 else
 j15 x3 S5))))))))
def l_X4_doLays_16 (a1 : Int32) (a2 : Int32) (w3 : Nat) : Nat → Int32 → Int32 → sT → Option (Int32 × sT)
 | 0, _, _, _ => none
 | n + 1, x3, x4, S5 => b_X4_doLays_16 a1 a2 w3 x3 x4 S5 (l_X4_doLays_16 a1 a2 w3 n)
theorem l_X4_doLays_16_s (a1 : Int32) (a2 : Int32) (w3 : Nat) (n : Nat) (x3 : Int32) (x4 : Int32) (S5 : sT) : l_X4_doLays_16 a1 a2 w3 (n + 1) x3 x4 S5 = b_X4_doLays_16 a1 a2 w3 x3 x4 S5 (l_X4_doLays_16 a1 a2 w3 n) := rfl
def f_X4_doLays (a1 : Int32) (a2 : Int32) (w3 : Nat) (S : sT) : Option (Int32 × sT) :=
 bn (f_X4_isTurn a1 S) (fun r2 =>
 (if r2 = (0 : Int32) then
 some ((0 : Int32), S)
 else
 l_X4_doLays_16 a1 a2 w3 FU (0 : Int32) (0 : Int32) S))
set_option maxHeartbeats 4000000 in
set_option maxRecDepth 100000 in
theorem w_X4_doLays_16 (C : Cx p s m args meth c cX4_doLays 7 RX4 g) (hr : meth.sig.returnType = (some .int)) {o : Int32 × sT}  {a1 : Int32} {a2 : Int32} {w3 : Nat} (hw3 : w3 < 16)  : ∀ (n : Nat) (x3 : Int32) (x4 : Int32) (S5 : sT) (H : Heap) (locs : List Loc) (ls : Array Slot), Hp g s S5 H locs → lv_has ls 7 [(0, .ref (gad g 3 0)), (1, .int a1), (2, .int a2), (3, .ref (gad g 9 w3)), (4, .int x3), (5, .int x4)] → l_X4_doLays_16 a1 a2 w3 n x3 x4 S5 = some o → W p l e (rmL 3) s m args below meth c H locs 0 0 (Qm g below args s (some (.int o.1)) o.2) (F0 m 16 ls []) := by
  obtain ⟨hx, hb, hml, hown, hts, hlk, hK⟩ := id C
  intro n
  induction n with
  | zero =>
    intro x3 x4 S5 H locs ls hH hl h
    cases h
  | succ n ih =>
    intro x3 x4 S5 H locs ls hH hl h
    rw [l_X4_doLays_16_s] at h
    unfold b_X4_doLays_16 at h
    refine lv_iload hx hb dX4_doLays_16 (lv_at hl 5 rfl) ?_
    refine lv_aload_n hx hb dX4_doLays_18 rfl (lv_at hl 0 rfl) ?_
    refine gf_X4_15 C hH dX4_doLays_19 ?_
    refine lv_iload_n hx hb dX4_doLays_22 rfl (lv_at hl 1 rfl) ?_
    obtain ⟨hv7, h⟩ := ck_e h
    refine r_ald C hH ka_14 (by decide) (by decide) (vi_in hv7) dX4_doLays_23 ?_
    refine lv_icmp_ge (tgt := 84) hx hb dX4_doLays_24 (by decide) (fun c24 => ?_) (fun c24 => ?_)
    · replace h := if_t h c24
      refine lv_iload hx hb dX4_doLays_84 (lv_at hl 4 rfl) ?_
      exact E_int C hr hH h dX4_doLays_86
    · replace h := if_f h c24
      refine lv_iload hx hb dX4_doLays_27 (lv_at hl 5 rfl) ?_
      refine lv_iconst (v := (3 : Int32)) hx hb dX4_doLays_29 (by decide) ?_
      refine lv_icmp_ge (tgt := 84) hx hb dX4_doLays_30 (by decide) (fun c23 => ?_) (fun c23 => ?_)
      · replace h := if_t h c23
        refine lv_iload hx hb dX4_doLays_84 (lv_at hl 4 rfl) ?_
        exact E_int C hr hH h dX4_doLays_86
      · replace h := if_f h c23
        refine lv_aload_n hx hb dX4_doLays_33 rfl (lv_at hl 0 rfl) ?_
        refine gf_X4_18 C hH dX4_doLays_34 ?_
        refine lv_iload_n hx hb dX4_doLays_37 rfl (lv_at hl 1 rfl) ?_
        refine lv_iconst (v := (3 : Int32)) hx hb dX4_doLays_38 (by decide) ?_
        refine lv_imul hx hb dX4_doLays_39 ?_
        refine lv_iload hx hb dX4_doLays_40 (lv_at hl 5 rfl) ?_
        refine lv_iadd hx hb dX4_doLays_42 ?_
        obtain ⟨hv8, h⟩ := ck_e h
        refine r_ald C hH ka_15 (by decide) (by decide) (vi_in hv8) dX4_doLays_43 ?_
        refine lv_topi (fun x9 ex9 => ?_)
        replace h := lt_e h ex9
        refine lv_istore (lv' := [(6, .int x9), (0, .ref (gad g 3 0)), (1, .int a1), (2, .int a2), (3, .ref (gad g 9 w3)), (4, .int x3), (5, .int x4)]) hx hb dX4_doLays_44 hl (by decide) rfl (fun ls hl => ?_)
        refine lv_iload hx hb dX4_doLays_46 (lv_at hl 0 rfl) ?_
        obtain ⟨r11, hc10, h⟩ := bn_e h
        refine r_callS1 (As := [.int x9]) C hl.1 hH (c_X7_ownerOf l g  hc10) q285 q192 q294 q284 nd_X7_ownerOf rfl (by decide) ⟨Nat.zero_le _, Nat.zero_le _⟩ (Nat.le_of_ble_eq_true rfl) dX4_doLays_48 (fun H locs hH => ?_)
        refine lv_iload_n hx hb dX4_doLays_51 rfl (lv_at hl 3 rfl) ?_
        obtain ⟨j15, ej15, h⟩ := jn_e h
        have hj15 : ∀ (x12 : Int32) (S13 : sT) (H : Heap) (locs : List Loc) (ls : Array Slot), Hp g s S13 H locs → lv_has ls 7 [(0, .ref (gad g 3 0)), (1, .int a1), (2, .int a2), (3, .ref (gad g 9 w3)), (4, .int x12), (5, .int x4)] → j15 x12 S13 = some o → W p l e (rmL 3) s m args below meth c H locs 0 0 (Qm g below args s (some (.int o.1)) o.2) (F0 m 78 ls []) := by
          intro x12 S13 H locs ls hH hl h
          rw [ej15] at h
          try dsimp only at h
          obtain ⟨x14, ex14⟩ : ∃ z : Int32, z = (x4 + (1 : Int32)) := ⟨_, rfl⟩
          replace h := lt_e h ex14
          refine lv_iinc (v := x14) (lv' := [(5, .int x14), (0, .ref (gad g 3 0)), (1, .int a1), (2, .int a2), (3, .ref (gad g 9 w3)), (4, .int x12)]) hx hb dX4_doLays_78 hl (k := 5) rfl (by rw [ex14]; rfl) (by decide) rfl (fun ls hl => ?_)
          refine lv_goto (tgt := 16) hx hb dX4_doLays_81 (by decide) ?_
          exact ih _ _ _ _ _ _ hH (lv_sub hl [1, 2, 3, 4, 5, 0] rfl) h
        clear ej15
        refine lv_icmp_ne (tgt := 78) hx hb dX4_doLays_52 (by decide) (fun c22 => ?_) (fun c22 => ?_)
        · replace h := if_f h c22
          exact hj15 _ _ _ _ _ hH (lv_sub hl [1, 2, 3, 4, 5, 6] rfl) h
        · replace h := if_t h c22
          refine lv_aload_n hx hb dX4_doLays_55 rfl (lv_at hl 4 rfl) ?_
          refine lv_aload_n hx hb dX4_doLays_56 rfl (lv_at hl 1 rfl) ?_
          refine gf_X4_21 C hH dX4_doLays_57 ?_
          refine lv_iload_n hx hb dX4_doLays_60 rfl (lv_at hl 2 rfl) ?_
          refine lv_iconst (v := (3 : Int32)) hx hb dX4_doLays_61 (by decide) ?_
          refine lv_imul hx hb dX4_doLays_62 ?_
          refine lv_iload hx hb dX4_doLays_63 (lv_at hl 6 rfl) ?_
          refine lv_iadd hx hb dX4_doLays_65 ?_
          obtain ⟨hv16, h⟩ := ck_e h
          refine r_ald C hH ka_16 (by decide) (by decide) (vi_in hv16) dX4_doLays_66 ?_
          refine lv_iload hx hb dX4_doLays_67 (lv_at hl 0 rfl) ?_
          obtain ⟨r18, S19, hc17, h⟩ := bn2_e h
          refine r_callV1 (ki := 9) (i := w3) (ci := 8) (As := [.int (S5.1 16 0 (cl ((a1 * (3 : Int32)) + x4))), .int x9]) C hl.1 hH (c_X9_put l g hw3 hc17) q197 q80 q295 q195 q196 nd_X9_put rfl (by decide) ⟨Nat.zero_le _, Nat.zero_le _⟩ (by decide) hw3 ⟨_, rfl⟩ rfl (Nat.le_of_ble_eq_true rfl) dX4_doLays_69 (fun H locs hH => ?_)
          refine lv_if_eq (tgt := 78) hx hb dX4_doLays_72 (by decide) (fun c21 => ?_) (fun c21 => ?_)
          · replace h := if_t h c21
            exact hj15 _ _ _ _ _ hH (lv_sub hl [1, 2, 3, 4, 5, 6] rfl) h
          · replace h := if_f h c21
            obtain ⟨x20, ex20⟩ : ∃ z : Int32, z = (x3 + (1 : Int32)) := ⟨_, rfl⟩
            replace h := lt_e h ex20
            refine lv_iinc (v := x20) (lv' := [(4, .int x20), (6, .int x9), (0, .ref (gad g 3 0)), (1, .int a1), (2, .int a2), (3, .ref (gad g 9 w3)), (5, .int x4)]) hx hb dX4_doLays_75 hl (k := 5) rfl (by rw [ex20]; rfl) (by decide) rfl (fun ls hl => ?_)
            exact hj15 _ _ _ _ _ hH (lv_sub hl [2, 3, 4, 5, 0, 6] rfl) h
set_option maxHeartbeats 4000000 in
set_option maxRecDepth 100000 in
theorem w_X4_doLays (C : Cx p s m args meth c cX4_doLays 7 RX4 g) (hr : meth.sig.returnType = (some .int)) {o : Int32 × sT} {a1 : Int32} {a2 : Int32} {w3 : Nat} (hw3 : w3 < 16) {S : sT} {H : Heap} {locs : List Loc} {ls : Array Slot} (hH : Hp g s S H locs) (hl : lv_has ls 7 [(0, .ref (gad g 3 0)), (1, .int a1), (2, .int a2), (3, .ref (gad g 9 w3))]) (h : f_X4_doLays a1 a2 w3 S = some o) : W p l e (rmL 3) s m args below meth c H locs 0 0 (Qm g below args s (some (.int o.1)) o.2) (F0 m 0 ls []) := by
  obtain ⟨hx, hb, hml, hown, hts, hlk, hK⟩ := id C
  unfold f_X4_doLays at h
  refine lv_aload_n hx hb dX4_doLays_0 rfl (lv_at hl 0 rfl) ?_
  refine lv_iload_n hx hb dX4_doLays_1 rfl (lv_at hl 1 rfl) ?_
  obtain ⟨r2, hc1, h⟩ := bn_e h
  refine r_callV1 (ki := 3) (i := 0) (ci := 4) (As := [.int a1]) C hl.1 hH (c_X4_isTurn l g  hc1) q234 q23 q231 q232 q233 nd_X4_isTurn rfl (by decide) ⟨Nat.zero_le _, Nat.zero_le _⟩ (by decide) (by decide) ⟨_, rfl⟩ rfl (Nat.le_of_ble_eq_true rfl) dX4_doLays_2 (fun H locs hH => ?_)
  refine lv_if_ne (tgt := 10) hx hb dX4_doLays_5 (by decide) (fun c25 => ?_) (fun c25 => ?_)
  · replace h := if_f h c25
    refine lv_iconst (v := (0 : Int32)) hx hb dX4_doLays_10 (by decide) ?_
    refine lv_istore (lv' := [(4, .int (0 : Int32)), (0, .ref (gad g 3 0)), (1, .int a1), (2, .int a2), (3, .ref (gad g 9 w3))]) hx hb dX4_doLays_11 hl (by decide) rfl (fun ls hl => ?_)
    refine lv_iconst (v := (0 : Int32)) hx hb dX4_doLays_13 (by decide) ?_
    refine lv_istore (lv' := [(5, .int (0 : Int32)), (4, .int (0 : Int32)), (0, .ref (gad g 3 0)), (1, .int a1), (2, .int a2), (3, .ref (gad g 9 w3))]) hx hb dX4_doLays_14 hl (by decide) rfl (fun ls hl => ?_)
    exact w_X4_doLays_16 C hr hw3  _ _ _ _ _ _ _ hH (lv_sub hl [2, 3, 4, 5, 1, 0] rfl) h
  · replace h := if_t h c25
    refine lv_iconst (v := (0 : Int32)) hx hb dX4_doLays_8 (by decide) ?_
    exact E_int C hr hH h dX4_doLays_9
theorem c_X4_doLays (l : Launch) (g : gT) {a1 : Int32} {a2 : Int32} {w3 : Nat} (hw3 : w3 < 16) {S : sT} {r : Int32} {S1 : sT} (h : f_X4_doLays a1 a2 w3 S = some (r, S1)) : MF l yX4_doLays cX4_doLays 7 (some .int) 3 g [.ref (gad g 3 0), .int a1, .int a2, .ref (gad g 9 w3)] S (some (.int r)) S1 := by
  refine MF.of (own := RX4) rfl rfl (Nat.le_of_ble_eq_true rfl) ?_
  intro p e s m below meth c C hr hH ls hl
  exact w_X4_doLays C hr (o := (r, S1)) hw3 hH hl h
theorem nd_X4_doTake : yX4_doTake.cls ≠ "java/lang/invoke/MethodHandle" ∧ yX4_doTake.cls ≠ "java/lang/invoke/VarHandle" ∧ (parseMethodDescriptor yX4_doTake.desc).map (fun d => d.parameters.length) = some 3 := by decide +kernel
def f_X4_doTake (a1 : Int32) (a2 : Int32) (w3 : Nat) (S : sT) : Option (Int32 × sT) :=
 bn (f_X4_isTurn a1 S) (fun r2 =>
 (if r2 = (0 : Int32) then
 some ((0 : Int32), S)
 else
 ck (vi a1 12) (
 bn2 (f_X9_takeFromOther w3 (S.1 13 0 (cl a1)) a2 S) (fun r5 S6 =>
 (if r5 = (0 : Int32) then
 some ((0 : Int32), S6)
 else
 some ((1 : Int32), S6))))))
set_option maxHeartbeats 4000000 in
set_option maxRecDepth 100000 in
theorem w_X4_doTake (C : Cx p s m args meth c cX4_doTake 4 RX4 g) (hr : meth.sig.returnType = (some .int)) {o : Int32 × sT} {a1 : Int32} {a2 : Int32} {w3 : Nat} (hw3 : w3 < 16) {S : sT} {H : Heap} {locs : List Loc} {ls : Array Slot} (hH : Hp g s S H locs) (hl : lv_has ls 4 [(0, .ref (gad g 3 0)), (1, .int a1), (2, .int a2), (3, .ref (gad g 9 w3))]) (h : f_X4_doTake a1 a2 w3 S = some o) : W p l e (rmL 4) s m args below meth c H locs 0 0 (Qm g below args s (some (.int o.1)) o.2) (F0 m 0 ls []) := by
  obtain ⟨hx, hb, hml, hown, hts, hlk, hK⟩ := id C
  unfold f_X4_doTake at h
  refine lv_aload_n hx hb dX4_doTake_0 rfl (lv_at hl 0 rfl) ?_
  refine lv_iload_n hx hb dX4_doTake_1 rfl (lv_at hl 1 rfl) ?_
  obtain ⟨r2, hc1, h⟩ := bn_e h
  refine r_callV1 (ki := 3) (i := 0) (ci := 4) (As := [.int a1]) C hl.1 hH (c_X4_isTurn l g  hc1) q234 q23 q231 q232 q233 nd_X4_isTurn rfl (by decide) ⟨Nat.zero_le _, Nat.zero_le _⟩ (by decide) (by decide) ⟨_, rfl⟩ rfl (Nat.le_of_ble_eq_true rfl) dX4_doTake_2 (fun H locs hH => ?_)
  refine lv_if_eq (tgt := 26) hx hb dX4_doTake_5 (by decide) (fun c8 => ?_) (fun c8 => ?_)
  · replace h := if_t h c8
    refine lv_iconst (v := (0 : Int32)) hx hb dX4_doTake_26 (by decide) ?_
    exact E_int C hr hH h dX4_doTake_27
  · replace h := if_f h c8
    refine lv_aload_n hx hb dX4_doTake_8 rfl (lv_at hl 3 rfl) ?_
    refine lv_aload_n hx hb dX4_doTake_9 rfl (lv_at hl 0 rfl) ?_
    refine gf_X4_9 C hH dX4_doTake_10 ?_
    refine lv_iload_n hx hb dX4_doTake_13 rfl (lv_at hl 1 rfl) ?_
    obtain ⟨hv3, h⟩ := ck_e h
    refine r_ald C hH ka_13 (by decide) (by decide) (vi_in hv3) dX4_doTake_14 ?_
    refine lv_iload_n hx hb dX4_doTake_15 rfl (lv_at hl 2 rfl) ?_
    obtain ⟨r5, S6, hc4, h⟩ := bn2_e h
    refine r_callV1 (ki := 9) (i := w3) (ci := 8) (As := [.int (S.1 13 0 (cl a1)), .int a2]) C hl.1 hH (c_X9_takeFromOther l g hw3 hc4) q278 q80 q275 q276 q277 nd_X9_takeFromOther rfl (by decide) ⟨Nat.zero_le _, Nat.zero_le _⟩ (by decide) hw3 ⟨_, rfl⟩ rfl (Nat.le_of_ble_eq_true rfl) dX4_doTake_16 (fun H locs hH => ?_)
    refine lv_if_eq (tgt := 26) hx hb dX4_doTake_19 (by decide) (fun c7 => ?_) (fun c7 => ?_)
    · replace h := if_t h c7
      refine lv_iconst (v := (0 : Int32)) hx hb dX4_doTake_26 (by decide) ?_
      exact E_int C hr hH h dX4_doTake_27
    · replace h := if_f h c7
      refine lv_iconst (v := (1 : Int32)) hx hb dX4_doTake_22 (by decide) ?_
      refine lv_goto (tgt := 27) hx hb dX4_doTake_23 (by decide) ?_
      exact E_int C hr hH h dX4_doTake_27
theorem c_X4_doTake (l : Launch) (g : gT) {a1 : Int32} {a2 : Int32} {w3 : Nat} (hw3 : w3 < 16) {S : sT} {r : Int32} {S1 : sT} (h : f_X4_doTake a1 a2 w3 S = some (r, S1)) : MF l yX4_doTake cX4_doTake 4 (some .int) 4 g [.ref (gad g 3 0), .int a1, .int a2, .ref (gad g 9 w3)] S (some (.int r)) S1 := by
  refine MF.of (own := RX4) rfl rfl (Nat.le_of_ble_eq_true rfl) ?_
  intro p e s m below meth c C hr hH ls hl
  exact w_X4_doTake C hr (o := (r, S1)) hw3 hH hl h
theorem nd_X4_turnCount : yX4_turnCount.cls ≠ "java/lang/invoke/MethodHandle" ∧ yX4_turnCount.cls ≠ "java/lang/invoke/VarHandle" ∧ (parseMethodDescriptor yX4_turnCount.desc).map (fun d => d.parameters.length) = some 0 := by decide +kernel
def f_X4_turnCount  (S : sT) : Option (Int32) :=
 some (S.1 104 0 0)
set_option maxHeartbeats 4000000 in
set_option maxRecDepth 100000 in
theorem w_X4_turnCount (C : Cx p s m args meth c cX4_turnCount 1 RX4 g) (hr : meth.sig.returnType = (some .int)) {o : Int32}   {S : sT} {H : Heap} {locs : List Loc} {ls : Array Slot} (hH : Hp g s S H locs) (hl : lv_has ls 1 [(0, .ref (gad g 3 0))]) (h : f_X4_turnCount  S = some o) : W p l e (rmL 1) s m args below meth c H locs 0 0 (Qm g below args s (some (.int o)) S) (F0 m 0 ls []) := by
  obtain ⟨hx, hb, hml, hown, hts, hlk, hK⟩ := id C
  unfold f_X4_turnCount at h
  refine lv_aload_n hx hb dX4_turnCount_0 rfl (lv_at hl 0 rfl) ?_
  refine gf_X4_24 C hH dX4_turnCount_1 ?_
  exact E_intc C hr hH h dX4_turnCount_4
theorem c_X4_turnCount (l : Launch) (g : gT)   {S : sT} {r : Int32} (h : f_X4_turnCount  S = some r) : MF l yX4_turnCount cX4_turnCount 1 (some .int) 1 g [.ref (gad g 3 0)] S (some (.int r)) S := by
  refine MF.of (own := RX4) rfl rfl (Nat.le_of_ble_eq_true rfl) ?_
  intro p e s m below meth c C hr hH ls hl
  exact w_X4_turnCount C hr (o := r)  hH hl h
theorem nd_X4_beginTurn : yX4_beginTurn.cls ≠ "java/lang/invoke/MethodHandle" ∧ yX4_beginTurn.cls ≠ "java/lang/invoke/VarHandle" ∧ (parseMethodDescriptor yX4_beginTurn.desc).map (fun d => d.parameters.length) = some 0 := by decide +kernel
def f_X4_beginTurn  (S : sT) : Option (Int32 × sT) :=
 (if (S.1 104 0 0) < (0 : Int32) then
 some ((0 : Int32), S)
 else
 (if (S.1 104 0 0) < (12 : Int32) then
 ck (vi (S.1 104 0 0) 12) (
 lt (us S 13 0 (cl (S.1 104 0 0)) (-1 : Int32)) (fun S2 =>
 ck (vi (S2.1 104 0 0) 12) (
 lt (us S2 14 0 (cl (S2.1 104 0 0)) (0 : Int32)) (fun S4 =>
 lt (us S4 104 0 0 ((S4.1 104 0 0) + (1 : Int32))) (fun S5 =>
 some ((1 : Int32), S5))))))
 else
 some ((0 : Int32), S)))
set_option maxHeartbeats 4000000 in
set_option maxRecDepth 100000 in
theorem w_X4_beginTurn (C : Cx p s m args meth c cX4_beginTurn 1 RX4 g) (hr : meth.sig.returnType = (some .boolean)) {o : Int32 × sT}   {S : sT} {H : Heap} {locs : List Loc} {ls : Array Slot} (hH : Hp g s S H locs) (hl : lv_has ls 1 [(0, .ref (gad g 3 0))]) (h : f_X4_beginTurn  S = some o) : W p l e (rmL 1) s m args below meth c H locs 0 0 (Qm g below args s (some (.int o.1)) o.2) (F0 m 0 ls []) := by
  obtain ⟨hx, hb, hml, hown, hts, hlk, hK⟩ := id C
  unfold f_X4_beginTurn at h
  refine lv_aload_n hx hb dX4_beginTurn_0 rfl (lv_at hl 0 rfl) ?_
  refine gf_X4_24 C hH dX4_beginTurn_1 ?_
  refine lv_if_lt (tgt := 16) hx hb dX4_beginTurn_4 (by decide) (fun c7 => ?_) (fun c7 => ?_)
  · replace h := if_t h c7
    refine lv_iconst (v := (0 : Int32)) hx hb dX4_beginTurn_16 (by decide) ?_
    exact E_bool C hr hH rfl h dX4_beginTurn_17
  · replace h := if_f h c7
    refine lv_aload_n hx hb dX4_beginTurn_7 rfl (lv_at hl 0 rfl) ?_
    refine gf_X4_24 C hH dX4_beginTurn_8 ?_
    refine lv_bipush (v := (12 : Int32)) hx hb dX4_beginTurn_11 (by decide) ?_
    refine lv_icmp_lt (tgt := 18) hx hb dX4_beginTurn_13 (by decide) (fun c6 => ?_) (fun c6 => ?_)
    · replace h := if_t h c6
      refine lv_aload_n hx hb dX4_beginTurn_18 rfl (lv_at hl 0 rfl) ?_
      refine gf_X4_9 C hH dX4_beginTurn_19 ?_
      refine lv_aload_n hx hb dX4_beginTurn_22 rfl (lv_at hl 0 rfl) ?_
      refine gf_X4_24 C hH dX4_beginTurn_23 ?_
      refine lv_iconst (v := (-1 : Int32)) hx hb dX4_beginTurn_26 (by decide) ?_
      obtain ⟨hv1, h⟩ := ck_e h
      refine r_ast C hH ka_13 ko_13 (by decide) (by decide) (vi_in hv1) dX4_beginTurn_27 (fun S2 H locs eS hH => ?_)
      replace h := lt_e h eS
      refine lv_aload_n hx hb dX4_beginTurn_28 rfl (lv_at hl 0 rfl) ?_
      refine gf_X4_15 C hH dX4_beginTurn_29 ?_
      refine lv_aload_n hx hb dX4_beginTurn_32 rfl (lv_at hl 0 rfl) ?_
      refine gf_X4_24 C hH dX4_beginTurn_33 ?_
      refine lv_iconst (v := (0 : Int32)) hx hb dX4_beginTurn_36 (by decide) ?_
      obtain ⟨hv3, h⟩ := ck_e h
      refine r_ast C hH ka_14 ko_14 (by decide) (by decide) (vi_in hv3) dX4_beginTurn_37 (fun S4 H locs eS hH => ?_)
      replace h := lt_e h eS
      refine lv_aload_n hx hb dX4_beginTurn_38 rfl (lv_at hl 0 rfl) ?_
      refine lv_dup hx hb dX4_beginTurn_39 rfl ?_
      refine gf_X4_24 C hH dX4_beginTurn_40 ?_
      refine lv_iconst (v := (1 : Int32)) hx hb dX4_beginTurn_43 (by decide) ?_
      refine lv_iadd hx hb dX4_beginTurn_44 ?_
      refine pf_X4_24 C hH dX4_beginTurn_45 (fun S5 H locs eS hH => ?_)
      replace h := lt_e h eS
      refine lv_iconst (v := (1 : Int32)) hx hb dX4_beginTurn_48 (by decide) ?_
      exact E_bool C hr hH rfl h dX4_beginTurn_49
    · replace h := if_f h c6
      refine lv_iconst (v := (0 : Int32)) hx hb dX4_beginTurn_16 (by decide) ?_
      exact E_bool C hr hH rfl h dX4_beginTurn_17
theorem c_X4_beginTurn (l : Launch) (g : gT)   {S : sT} {r : Int32} {S1 : sT} (h : f_X4_beginTurn  S = some (r, S1)) : MF l yX4_beginTurn cX4_beginTurn 1 (some .boolean) 1 g [.ref (gad g 3 0)] S (some (.int r)) S1 := by
  refine MF.of (own := RX4) rfl rfl (Nat.le_of_ble_eq_true rfl) ?_
  intro p e s m below meth c C hr hH ls hl
  exact w_X4_beginTurn C hr (o := (r, S1))  hH hl h
theorem nd_X4_nextPart : yX4_nextPart.cls ≠ "java/lang/invoke/MethodHandle" ∧ yX4_nextPart.cls ≠ "java/lang/invoke/VarHandle" ∧ (parseMethodDescriptor yX4_nextPart.desc).map (fun d => d.parameters.length) = some 1 := by decide +kernel
def f_X4_nextPart (a1 : Int32) (S : sT) : Option (Int32) :=
 bn (f_X4_isTurn a1 S) (fun r2 =>
 (if r2 = (0 : Int32) then
 some (-1 : Int32)
 else
 ck (vi a1 12) (
 (if (S.1 14 0 (cl a1)) < (0 : Int32) then
 some (-1 : Int32)
 else
 ck (vi a1 12) (
 (if (S.1 14 0 (cl a1)) < (3 : Int32) then
 ck (vi a1 12) (
 some ((a1 * (3 : Int32)) + (S.1 14 0 (cl a1))))
 else
 some (-1 : Int32)))))))
set_option maxHeartbeats 4000000 in
set_option maxRecDepth 100000 in
theorem w_X4_nextPart (C : Cx p s m args meth c cX4_nextPart 2 RX4 g) (hr : meth.sig.returnType = (some .int)) {o : Int32} {a1 : Int32}  {S : sT} {H : Heap} {locs : List Loc} {ls : Array Slot} (hH : Hp g s S H locs) (hl : lv_has ls 2 [(0, .ref (gad g 3 0)), (1, .int a1)]) (h : f_X4_nextPart a1 S = some o) : W p l e (rmL 2) s m args below meth c H locs 0 0 (Qm g below args s (some (.int o)) S) (F0 m 0 ls []) := by
  obtain ⟨hx, hb, hml, hown, hts, hlk, hK⟩ := id C
  unfold f_X4_nextPart at h
  refine lv_aload_n hx hb dX4_nextPart_0 rfl (lv_at hl 0 rfl) ?_
  refine lv_iload_n hx hb dX4_nextPart_1 rfl (lv_at hl 1 rfl) ?_
  obtain ⟨r2, hc1, h⟩ := bn_e h
  refine r_callV1 (ki := 3) (i := 0) (ci := 4) (As := [.int a1]) C hl.1 hH (c_X4_isTurn l g  hc1) q234 q23 q231 q232 q233 nd_X4_isTurn rfl (by decide) ⟨Nat.zero_le _, Nat.zero_le _⟩ (by decide) (by decide) ⟨_, rfl⟩ rfl (Nat.le_of_ble_eq_true rfl) dX4_nextPart_2 (fun H locs hH => ?_)
  refine lv_if_eq (tgt := 27) hx hb dX4_nextPart_5 (by decide) (fun c8 => ?_) (fun c8 => ?_)
  · replace h := if_t h c8
    refine lv_iconst (v := (-1 : Int32)) hx hb dX4_nextPart_27 (by decide) ?_
    exact E_intc C hr hH h dX4_nextPart_28
  · replace h := if_f h c8
    refine lv_aload_n hx hb dX4_nextPart_8 rfl (lv_at hl 0 rfl) ?_
    refine gf_X4_15 C hH dX4_nextPart_9 ?_
    refine lv_iload_n hx hb dX4_nextPart_12 rfl (lv_at hl 1 rfl) ?_
    obtain ⟨hv3, h⟩ := ck_e h
    refine r_ald C hH ka_14 (by decide) (by decide) (vi_in hv3) dX4_nextPart_13 ?_
    refine lv_if_lt (tgt := 27) hx hb dX4_nextPart_14 (by decide) (fun c7 => ?_) (fun c7 => ?_)
    · replace h := if_t h c7
      refine lv_iconst (v := (-1 : Int32)) hx hb dX4_nextPart_27 (by decide) ?_
      exact E_intc C hr hH h dX4_nextPart_28
    · replace h := if_f h c7
      refine lv_aload_n hx hb dX4_nextPart_17 rfl (lv_at hl 0 rfl) ?_
      refine gf_X4_15 C hH dX4_nextPart_18 ?_
      refine lv_iload_n hx hb dX4_nextPart_21 rfl (lv_at hl 1 rfl) ?_
      obtain ⟨hv4, h⟩ := ck_e h
      refine r_ald C hH ka_14 (by decide) (by decide) (vi_in hv4) dX4_nextPart_22 ?_
      refine lv_iconst (v := (3 : Int32)) hx hb dX4_nextPart_23 (by decide) ?_
      refine lv_icmp_lt (tgt := 29) hx hb dX4_nextPart_24 (by decide) (fun c6 => ?_) (fun c6 => ?_)
      · replace h := if_t h c6
        refine lv_iload_n hx hb dX4_nextPart_29 rfl (lv_at hl 1 rfl) ?_
        refine lv_iconst (v := (3 : Int32)) hx hb dX4_nextPart_30 (by decide) ?_
        refine lv_imul hx hb dX4_nextPart_31 ?_
        refine lv_aload_n hx hb dX4_nextPart_32 rfl (lv_at hl 0 rfl) ?_
        refine gf_X4_15 C hH dX4_nextPart_33 ?_
        refine lv_iload_n hx hb dX4_nextPart_36 rfl (lv_at hl 1 rfl) ?_
        obtain ⟨hv5, h⟩ := ck_e h
        refine r_ald C hH ka_14 (by decide) (by decide) (vi_in hv5) dX4_nextPart_37 ?_
        refine lv_iadd hx hb dX4_nextPart_38 ?_
        exact E_intc C hr hH h dX4_nextPart_39
      · replace h := if_f h c6
        refine lv_iconst (v := (-1 : Int32)) hx hb dX4_nextPart_27 (by decide) ?_
        exact E_intc C hr hH h dX4_nextPart_28
theorem c_X4_nextPart (l : Launch) (g : gT) {a1 : Int32}  {S : sT} {r : Int32} (h : f_X4_nextPart a1 S = some r) : MF l yX4_nextPart cX4_nextPart 2 (some .int) 2 g [.ref (gad g 3 0), .int a1] S (some (.int r)) S := by
  refine MF.of (own := RX4) rfl rfl (Nat.le_of_ble_eq_true rfl) ?_
  intro p e s m below meth c C hr hH ls hl
  exact w_X4_nextPart C hr (o := r)  hH hl h
theorem nd_X4_tellLetter : yX4_tellLetter.cls ≠ "java/lang/invoke/MethodHandle" ∧ yX4_tellLetter.cls ≠ "java/lang/invoke/VarHandle" ∧ (parseMethodDescriptor yX4_tellLetter.desc).map (fun d => d.parameters.length) = some 2 := by decide +kernel
def f_X4_tellLetter (a1 : Int32) (a2 : Int32) (S : sT) : Option (Int32 × sT) :=
 bn (f_X7_ofLetter a2 S) (fun r2 =>
 bn (f_X4_nextPart a1 S) (fun r4 =>
 (if r2 = (-1 : Int32) then
 some ((0 : Int32), S)
 else
 (if r4 = (-1 : Int32) then
 some ((0 : Int32), S)
 else
 ck (vi r4 36) (
 lt (us S 15 0 (cl r4) r2) (fun S6 =>
 some ((4 : Int32), S6)))))))
set_option maxHeartbeats 4000000 in
set_option maxRecDepth 100000 in
theorem w_X4_tellLetter (C : Cx p s m args meth c cX4_tellLetter 5 RX4 g) (hr : meth.sig.returnType = (some .int)) {o : Int32 × sT} {a1 : Int32} {a2 : Int32}  {S : sT} {H : Heap} {locs : List Loc} {ls : Array Slot} (hH : Hp g s S H locs) (hl : lv_has ls 5 [(0, .ref (gad g 3 0)), (1, .int a1), (2, .int a2)]) (h : f_X4_tellLetter a1 a2 S = some o) : W p l e (rmL 3) s m args below meth c H locs 0 0 (Qm g below args s (some (.int o.1)) o.2) (F0 m 0 ls []) := by
  obtain ⟨hx, hb, hml, hown, hts, hlk, hK⟩ := id C
  unfold f_X4_tellLetter at h
  refine lv_iload_n hx hb dX4_tellLetter_0 rfl (lv_at hl 2 rfl) ?_
  obtain ⟨r2, hc1, h⟩ := bn_e h
  refine r_callS1 (As := [.int a2]) C hl.1 hH (c_X7_ofLetter l g  hc1) q193 q192 q226 q191 nd_X7_ofLetter rfl (by decide) ⟨Nat.zero_le _, Nat.zero_le _⟩ (Nat.le_of_ble_eq_true rfl) dX4_tellLetter_1 (fun H locs hH => ?_)
  refine lv_istore_n (lv' := [(3, .int r2), (0, .ref (gad g 3 0)), (1, .int a1), (2, .int a2)]) hx hb dX4_tellLetter_4 rfl hl (by decide) rfl (fun ls hl => ?_)
  refine lv_aload_n hx hb dX4_tellLetter_5 rfl (lv_at hl 1 rfl) ?_
  refine lv_iload_n hx hb dX4_tellLetter_6 rfl (lv_at hl 2 rfl) ?_
  obtain ⟨r4, hc3, h⟩ := bn_e h
  refine r_callV1 (ki := 3) (i := 0) (ci := 4) (As := [.int a1]) C hl.1 hH (c_X4_nextPart l g  hc3) q230 q23 q227 q228 q229 nd_X4_nextPart rfl (by decide) ⟨Nat.zero_le _, Nat.zero_le _⟩ (by decide) (by decide) ⟨_, rfl⟩ rfl (Nat.le_of_ble_eq_true rfl) dX4_tellLetter_7 (fun H locs hH => ?_)
  refine lv_istore (lv' := [(4, .int r4), (3, .int r2), (0, .ref (gad g 3 0)), (1, .int a1), (2, .int a2)]) hx hb dX4_tellLetter_10 hl (by decide) rfl (fun ls hl => ?_)
  refine lv_iload_n hx hb dX4_tellLetter_12 rfl (lv_at hl 1 rfl) ?_
  refine lv_iconst (v := (-1 : Int32)) hx hb dX4_tellLetter_13 (by decide) ?_
  refine lv_icmp_eq (tgt := 23) hx hb dX4_tellLetter_14 (by decide) (fun c8 => ?_) (fun c8 => ?_)
  · replace h := if_t h c8
    refine lv_iconst (v := (0 : Int32)) hx hb dX4_tellLetter_23 (by decide) ?_
    exact E_int C hr hH h dX4_tellLetter_24
  · replace h := if_f h c8
    refine lv_iload hx hb dX4_tellLetter_17 (lv_at hl 0 rfl) ?_
    refine lv_iconst (v := (-1 : Int32)) hx hb dX4_tellLetter_19 (by decide) ?_
    refine lv_icmp_ne (tgt := 25) hx hb dX4_tellLetter_20 (by decide) (fun c7 => ?_) (fun c7 => ?_)
    · replace h := if_f h c7
      refine lv_aload_n hx hb dX4_tellLetter_25 rfl (lv_at hl 2 rfl) ?_
      refine gf_X4_18 C hH dX4_tellLetter_26 ?_
      refine lv_iload hx hb dX4_tellLetter_29 (lv_at hl 0 rfl) ?_
      refine lv_iload_n hx hb dX4_tellLetter_31 rfl (lv_at hl 1 rfl) ?_
      obtain ⟨hv5, h⟩ := ck_e h
      refine r_ast C hH ka_15 ko_15 (by decide) (by decide) (vi_in hv5) dX4_tellLetter_32 (fun S6 H locs eS hH => ?_)
      replace h := lt_e h eS
      refine lv_iconst (v := (4 : Int32)) hx hb dX4_tellLetter_33 (by decide) ?_
      exact E_int C hr hH h dX4_tellLetter_34
    · replace h := if_t h c7
      refine lv_iconst (v := (0 : Int32)) hx hb dX4_tellLetter_23 (by decide) ?_
      exact E_int C hr hH h dX4_tellLetter_24
theorem c_X4_tellLetter (l : Launch) (g : gT) {a1 : Int32} {a2 : Int32}  {S : sT} {r : Int32} {S1 : sT} (h : f_X4_tellLetter a1 a2 S = some (r, S1)) : MF l yX4_tellLetter cX4_tellLetter 5 (some .int) 3 g [.ref (gad g 3 0), .int a1, .int a2] S (some (.int r)) S1 := by
  refine MF.of (own := RX4) rfl rfl (Nat.le_of_ble_eq_true rfl) ?_
  intro p e s m below meth c C hr hH ls hl
  exact w_X4_tellLetter C hr (o := (r, S1))  hH hl h
theorem nd_X4_tellPlace : yX4_tellPlace.cls ≠ "java/lang/invoke/MethodHandle" ∧ yX4_tellPlace.cls ≠ "java/lang/invoke/VarHandle" ∧ (parseMethodDescriptor yX4_tellPlace.desc).map (fun d => d.parameters.length) = some 2 := by decide +kernel
def f_X4_tellPlace (a1 : Int32) (a2 : Int32) (S : sT) : Option (Int32 × sT) :=
 bn (f_X7_columnOf a2 S) (fun r2 =>
 bn (f_X4_nextPart a1 S) (fun r4 =>
 (if r2 = (-1 : Int32) then
 some ((0 : Int32), S)
 else
 (if r4 = (-1 : Int32) then
 some ((0 : Int32), S)
 else
 ck (vi r4 36) (
 lt (us S 16 0 (cl r4) r2) (fun S6 =>
 ck (vi a1 12) (
 ck (vi a1 12) (
 lt (us S6 14 0 (cl a1) ((S6.1 14 0 (cl a1)) + (1 : Int32))) (fun S9 =>
 some ((5 : Int32), S9))))))))))
set_option maxHeartbeats 4000000 in
set_option maxRecDepth 100000 in
theorem w_X4_tellPlace (C : Cx p s m args meth c cX4_tellPlace 5 RX4 g) (hr : meth.sig.returnType = (some .int)) {o : Int32 × sT} {a1 : Int32} {a2 : Int32}  {S : sT} {H : Heap} {locs : List Loc} {ls : Array Slot} (hH : Hp g s S H locs) (hl : lv_has ls 5 [(0, .ref (gad g 3 0)), (1, .int a1), (2, .int a2)]) (h : f_X4_tellPlace a1 a2 S = some o) : W p l e (rmL 3) s m args below meth c H locs 0 0 (Qm g below args s (some (.int o.1)) o.2) (F0 m 0 ls []) := by
  obtain ⟨hx, hb, hml, hown, hts, hlk, hK⟩ := id C
  unfold f_X4_tellPlace at h
  refine lv_iload_n hx hb dX4_tellPlace_0 rfl (lv_at hl 2 rfl) ?_
  obtain ⟨r2, hc1, h⟩ := bn_e h
  refine r_callS1 (As := [.int a2]) C hl.1 hH (c_X7_columnOf l g  hc1) q241 q192 q239 q240 nd_X7_columnOf rfl (by decide) ⟨Nat.zero_le _, Nat.zero_le _⟩ (Nat.le_of_ble_eq_true rfl) dX4_tellPlace_1 (fun H locs hH => ?_)
  refine lv_istore_n (lv' := [(3, .int r2), (0, .ref (gad g 3 0)), (1, .int a1), (2, .int a2)]) hx hb dX4_tellPlace_4 rfl hl (by decide) rfl (fun ls hl => ?_)
  refine lv_aload_n hx hb dX4_tellPlace_5 rfl (lv_at hl 1 rfl) ?_
  refine lv_iload_n hx hb dX4_tellPlace_6 rfl (lv_at hl 2 rfl) ?_
  obtain ⟨r4, hc3, h⟩ := bn_e h
  refine r_callV1 (ki := 3) (i := 0) (ci := 4) (As := [.int a1]) C hl.1 hH (c_X4_nextPart l g  hc3) q230 q23 q227 q228 q229 nd_X4_nextPart rfl (by decide) ⟨Nat.zero_le _, Nat.zero_le _⟩ (by decide) (by decide) ⟨_, rfl⟩ rfl (Nat.le_of_ble_eq_true rfl) dX4_tellPlace_7 (fun H locs hH => ?_)
  refine lv_istore (lv' := [(4, .int r4), (3, .int r2), (0, .ref (gad g 3 0)), (1, .int a1), (2, .int a2)]) hx hb dX4_tellPlace_10 hl (by decide) rfl (fun ls hl => ?_)
  refine lv_iload_n hx hb dX4_tellPlace_12 rfl (lv_at hl 1 rfl) ?_
  refine lv_iconst (v := (-1 : Int32)) hx hb dX4_tellPlace_13 (by decide) ?_
  refine lv_icmp_eq (tgt := 23) hx hb dX4_tellPlace_14 (by decide) (fun c11 => ?_) (fun c11 => ?_)
  · replace h := if_t h c11
    refine lv_iconst (v := (0 : Int32)) hx hb dX4_tellPlace_23 (by decide) ?_
    exact E_int C hr hH h dX4_tellPlace_24
  · replace h := if_f h c11
    refine lv_iload hx hb dX4_tellPlace_17 (lv_at hl 0 rfl) ?_
    refine lv_iconst (v := (-1 : Int32)) hx hb dX4_tellPlace_19 (by decide) ?_
    refine lv_icmp_ne (tgt := 25) hx hb dX4_tellPlace_20 (by decide) (fun c10 => ?_) (fun c10 => ?_)
    · replace h := if_f h c10
      refine lv_aload_n hx hb dX4_tellPlace_25 rfl (lv_at hl 2 rfl) ?_
      refine gf_X4_21 C hH dX4_tellPlace_26 ?_
      refine lv_iload hx hb dX4_tellPlace_29 (lv_at hl 0 rfl) ?_
      refine lv_iload_n hx hb dX4_tellPlace_31 rfl (lv_at hl 1 rfl) ?_
      obtain ⟨hv5, h⟩ := ck_e h
      refine r_ast C hH ka_16 ko_16 (by decide) (by decide) (vi_in hv5) dX4_tellPlace_32 (fun S6 H locs eS hH => ?_)
      replace h := lt_e h eS
      refine lv_aload_n hx hb dX4_tellPlace_33 rfl (lv_at hl 2 rfl) ?_
      refine gf_X4_15 C hH dX4_tellPlace_34 ?_
      refine lv_iload_n hx hb dX4_tellPlace_37 rfl (lv_at hl 3 rfl) ?_
      refine lv_dup2_11 hx hb dX4_tellPlace_38 rfl rfl ?_
      obtain ⟨hv7, h⟩ := ck_e h
      refine r_ald C hH ka_14 (by decide) (by decide) (vi_in hv7) dX4_tellPlace_39 ?_
      refine lv_iconst (v := (1 : Int32)) hx hb dX4_tellPlace_40 (by decide) ?_
      refine lv_iadd hx hb dX4_tellPlace_41 ?_
      obtain ⟨hv8, h⟩ := ck_e h
      refine r_ast C hH ka_14 ko_14 (by decide) (by decide) (vi_in hv8) dX4_tellPlace_42 (fun S9 H locs eS hH => ?_)
      replace h := lt_e h eS
      refine lv_iconst (v := (5 : Int32)) hx hb dX4_tellPlace_43 (by decide) ?_
      exact E_int C hr hH h dX4_tellPlace_44
    · replace h := if_t h c10
      refine lv_iconst (v := (0 : Int32)) hx hb dX4_tellPlace_23 (by decide) ?_
      exact E_int C hr hH h dX4_tellPlace_24
theorem c_X4_tellPlace (l : Launch) (g : gT) {a1 : Int32} {a2 : Int32}  {S : sT} {r : Int32} {S1 : sT} (h : f_X4_tellPlace a1 a2 S = some (r, S1)) : MF l yX4_tellPlace cX4_tellPlace 5 (some .int) 3 g [.ref (gad g 3 0), .int a1, .int a2] S (some (.int r)) S1 := by
  refine MF.of (own := RX4) rfl rfl (Nat.le_of_ble_eq_true rfl) ?_
  intro p e s m below meth c C hr hH ls hl
  exact w_X4_tellPlace C hr (o := (r, S1))  hH hl h
theorem nd_X4_tellTake : yX4_tellTake.cls ≠ "java/lang/invoke/MethodHandle" ∧ yX4_tellTake.cls ≠ "java/lang/invoke/VarHandle" ∧ (parseMethodDescriptor yX4_tellTake.desc).map (fun d => d.parameters.length) = some 2 := by decide +kernel
def f_X4_tellTake (a1 : Int32) (a2 : Int32) (S : sT) : Option (Int32 × sT) :=
 bn (f_X7_columnOf a2 S) (fun r2 =>
 bn (f_X4_isTurn a1 S) (fun r4 =>
 (if r4 = (0 : Int32) then
 some ((0 : Int32), S)
 else
 (if r2 = (-1 : Int32) then
 some ((0 : Int32), S)
 else
 ck (vi a1 12) (
 lt (us S 13 0 (cl a1) r2) (fun S6 =>
 some ((3 : Int32), S6)))))))
set_option maxHeartbeats 4000000 in
set_option maxRecDepth 100000 in
theorem w_X4_tellTake (C : Cx p s m args meth c cX4_tellTake 4 RX4 g) (hr : meth.sig.returnType = (some .int)) {o : Int32 × sT} {a1 : Int32} {a2 : Int32}  {S : sT} {H : Heap} {locs : List Loc} {ls : Array Slot} (hH : Hp g s S H locs) (hl : lv_has ls 4 [(0, .ref (gad g 3 0)), (1, .int a1), (2, .int a2)]) (h : f_X4_tellTake a1 a2 S = some o) : W p l e (rmL 2) s m args below meth c H locs 0 0 (Qm g below args s (some (.int o.1)) o.2) (F0 m 0 ls []) := by
  obtain ⟨hx, hb, hml, hown, hts, hlk, hK⟩ := id C
  unfold f_X4_tellTake at h
  refine lv_iload_n hx hb dX4_tellTake_0 rfl (lv_at hl 2 rfl) ?_
  obtain ⟨r2, hc1, h⟩ := bn_e h
  refine r_callS1 (As := [.int a2]) C hl.1 hH (c_X7_columnOf l g  hc1) q241 q192 q239 q240 nd_X7_columnOf rfl (by decide) ⟨Nat.zero_le _, Nat.zero_le _⟩ (Nat.le_of_ble_eq_true rfl) dX4_tellTake_1 (fun H locs hH => ?_)
  refine lv_istore_n (lv' := [(3, .int r2), (0, .ref (gad g 3 0)), (1, .int a1), (2, .int a2)]) hx hb dX4_tellTake_4 rfl hl (by decide) rfl (fun ls hl => ?_)
  refine lv_aload_n hx hb dX4_tellTake_5 rfl (lv_at hl 1 rfl) ?_
  refine lv_iload_n hx hb dX4_tellTake_6 rfl (lv_at hl 2 rfl) ?_
  obtain ⟨r4, hc3, h⟩ := bn_e h
  refine r_callV1 (ki := 3) (i := 0) (ci := 4) (As := [.int a1]) C hl.1 hH (c_X4_isTurn l g  hc3) q234 q23 q231 q232 q233 nd_X4_isTurn rfl (by decide) ⟨Nat.zero_le _, Nat.zero_le _⟩ (by decide) (by decide) ⟨_, rfl⟩ rfl (Nat.le_of_ble_eq_true rfl) dX4_tellTake_7 (fun H locs hH => ?_)
  refine lv_if_eq (tgt := 18) hx hb dX4_tellTake_10 (by decide) (fun c8 => ?_) (fun c8 => ?_)
  · replace h := if_t h c8
    refine lv_iconst (v := (0 : Int32)) hx hb dX4_tellTake_18 (by decide) ?_
    exact E_int C hr hH h dX4_tellTake_19
  · replace h := if_f h c8
    refine lv_iload_n hx hb dX4_tellTake_13 rfl (lv_at hl 0 rfl) ?_
    refine lv_iconst (v := (-1 : Int32)) hx hb dX4_tellTake_14 (by decide) ?_
    refine lv_icmp_ne (tgt := 20) hx hb dX4_tellTake_15 (by decide) (fun c7 => ?_) (fun c7 => ?_)
    · replace h := if_f h c7
      refine lv_aload_n hx hb dX4_tellTake_20 rfl (lv_at hl 1 rfl) ?_
      refine gf_X4_9 C hH dX4_tellTake_21 ?_
      refine lv_iload_n hx hb dX4_tellTake_24 rfl (lv_at hl 2 rfl) ?_
      refine lv_iload_n hx hb dX4_tellTake_25 rfl (lv_at hl 0 rfl) ?_
      obtain ⟨hv5, h⟩ := ck_e h
      refine r_ast C hH ka_13 ko_13 (by decide) (by decide) (vi_in hv5) dX4_tellTake_26 (fun S6 H locs eS hH => ?_)
      replace h := lt_e h eS
      refine lv_iconst (v := (3 : Int32)) hx hb dX4_tellTake_27 (by decide) ?_
      exact E_int C hr hH h dX4_tellTake_28
    · replace h := if_t h c7
      refine lv_iconst (v := (0 : Int32)) hx hb dX4_tellTake_18 (by decide) ?_
      exact E_int C hr hH h dX4_tellTake_19
theorem c_X4_tellTake (l : Launch) (g : gT) {a1 : Int32} {a2 : Int32}  {S : sT} {r : Int32} {S1 : sT} (h : f_X4_tellTake a1 a2 S = some (r, S1)) : MF l yX4_tellTake cX4_tellTake 4 (some .int) 2 g [.ref (gad g 3 0), .int a1, .int a2] S (some (.int r)) S1 := by
  refine MF.of (own := RX4) rfl rfl (Nat.le_of_ble_eq_true rfl) ?_
  intro p e s m below meth c C hr hH ls hl
  exact w_X4_tellTake C hr (o := (r, S1))  hH hl h
theorem nd_X4_stateBehind : yX4_stateBehind.cls ≠ "java/lang/invoke/MethodHandle" ∧ yX4_stateBehind.cls ≠ "java/lang/invoke/VarHandle" ∧ (parseMethodDescriptor yX4_stateBehind.desc).map (fun d => d.parameters.length) = some 2 := by decide +kernel
def f_X4_stateBehind (a1 : Int32) (a2 : Int32) (S : sT) : Option (Int32 × sT) :=
 (if a1 = (1 : Int32) then
 bn2 (f_X4_beginTurn  S) (fun r2 S3 =>
 (if r2 = (0 : Int32) then
 some ((0 : Int32), S3)
 else
 (if a2 = (45 : Int32) then
 some ((2 : Int32), S3)
 else
 bn2 (f_X4_tellLetter ((S3.1 104 0 0) - (1 : Int32)) a2 S3) (fun r5 S6 =>
 some (r5, S6)))))
 else
 (if a1 = (2 : Int32) then
 bn2 (f_X4_tellTake ((S.1 104 0 0) - (1 : Int32)) a2 S) (fun r11 S12 =>
 some (r11, S12))
 else
 (if a1 = (3 : Int32) then
 bn2 (f_X4_tellLetter ((S.1 104 0 0) - (1 : Int32)) a2 S) (fun r15 S16 =>
 some (r15, S16))
 else
 (if a1 = (4 : Int32) then
 bn2 (f_X4_tellPlace ((S.1 104 0 0) - (1 : Int32)) a2 S) (fun r19 S20 =>
 some (r19, S20))
 else
 (if a1 = (5 : Int32) then
 (if a2 = (59 : Int32) then
 some ((1 : Int32), S)
 else
 bn2 (f_X4_tellLetter ((S.1 104 0 0) - (1 : Int32)) a2 S) (fun r23 S24 =>
 some (r23, S24)))
 else
 some ((0 : Int32), S))))))
set_option maxHeartbeats 4000000 in
set_option maxRecDepth 100000 in
theorem w_X4_stateBehind (C : Cx p s m args meth c cX4_stateBehind 3 RX4 g) (hr : meth.sig.returnType = (some .int)) {o : Int32 × sT} {a1 : Int32} {a2 : Int32}  {S : sT} {H : Heap} {locs : List Loc} {ls : Array Slot} (hH : Hp g s S H locs) (hl : lv_has ls 3 [(0, .ref (gad g 3 0)), (1, .int a1), (2, .int a2)]) (h : f_X4_stateBehind a1 a2 S = some o) : W p l e (rmL 4) s m args below meth c H locs 0 0 (Qm g below args s (some (.int o.1)) o.2) (F0 m 0 ls []) := by
  obtain ⟨hx, hb, hml, hown, hts, hlk, hK⟩ := id C
  unfold f_X4_stateBehind at h
  refine lv_iload_n hx hb dX4_stateBehind_0 rfl (lv_at hl 1 rfl) ?_
  by_cases c9 : a1 = (1 : Int32)
  · replace h := if_t h c9
    refine r_tabI C (k := 1) (off := 35) (tgt := 36) dX4_stateBehind_1 c9 (by decide) ?_
    refine lv_aload_n hx hb dX4_stateBehind_36 rfl (lv_at hl 0 rfl) ?_
    obtain ⟨r2, S3, hc1, h⟩ := bn2_e h
    refine r_callV1 (ki := 3) (i := 0) (ci := 4) (As := []) C hl.1 hH (c_X4_beginTurn l g  hc1) q221 q23 q218 q219 q220 nd_X4_beginTurn rfl (by decide) ⟨Nat.zero_le _, Nat.zero_le _⟩ (by decide) (by decide) ⟨_, rfl⟩ rfl (Nat.le_of_ble_eq_true rfl) dX4_stateBehind_37 (fun H locs hH => ?_)
    refine lv_if_ne (tgt := 45) hx hb dX4_stateBehind_40 (by decide) (fun c8 => ?_) (fun c8 => ?_)
    · replace h := if_f h c8
      refine lv_iload_n hx hb dX4_stateBehind_45 rfl (lv_at hl 2 rfl) ?_
      refine lv_bipush (v := (45 : Int32)) hx hb dX4_stateBehind_46 (by decide) ?_
      refine lv_icmp_ne (tgt := 55) hx hb dX4_stateBehind_48 (by decide) (fun c7 => ?_) (fun c7 => ?_)
      · replace h := if_f h c7
        refine lv_aload_n hx hb dX4_stateBehind_55 rfl (lv_at hl 0 rfl) ?_
        refine lv_aload_n hx hb dX4_stateBehind_56 rfl (lv_at hl 0 rfl) ?_
        refine gf_X4_24 C hH dX4_stateBehind_57 ?_
        refine lv_iconst (v := (1 : Int32)) hx hb dX4_stateBehind_60 (by decide) ?_
        refine lv_isub hx hb dX4_stateBehind_61 ?_
        refine lv_iload_n hx hb dX4_stateBehind_62 rfl (lv_at hl 2 rfl) ?_
        obtain ⟨r5, S6, hc4, h⟩ := bn2_e h
        refine r_callV1 (ki := 3) (i := 0) (ci := 4) (As := [.int ((S3.1 104 0 0) - (1 : Int32)), .int a2]) C hl.1 hH (c_X4_tellLetter l g  hc4) q225 q23 q222 q223 q224 nd_X4_tellLetter rfl (by decide) ⟨Nat.zero_le _, Nat.zero_le _⟩ (by decide) (by decide) ⟨_, rfl⟩ rfl (Nat.le_of_ble_eq_true rfl) dX4_stateBehind_63 (fun H locs hH => ?_)
        exact E_int C hr hH h dX4_stateBehind_66
      · replace h := if_t h c7
        refine lv_iconst (v := (2 : Int32)) hx hb dX4_stateBehind_51 (by decide) ?_
        refine lv_goto (tgt := 66) hx hb dX4_stateBehind_52 (by decide) ?_
        exact E_int C hr hH h dX4_stateBehind_66
    · replace h := if_t h c8
      refine lv_iconst (v := (0 : Int32)) hx hb dX4_stateBehind_43 (by decide) ?_
      exact E_int C hr hH h dX4_stateBehind_44
  · replace h := if_f h c9
    by_cases c13 : a1 = (2 : Int32)
    · replace h := if_t h c13
      refine r_tabI C (k := 2) (off := 66) (tgt := 67) dX4_stateBehind_1 c13 (by decide) ?_
      refine lv_aload_n hx hb dX4_stateBehind_67 rfl (lv_at hl 0 rfl) ?_
      refine lv_aload_n hx hb dX4_stateBehind_68 rfl (lv_at hl 0 rfl) ?_
      refine gf_X4_24 C hH dX4_stateBehind_69 ?_
      refine lv_iconst (v := (1 : Int32)) hx hb dX4_stateBehind_72 (by decide) ?_
      refine lv_isub hx hb dX4_stateBehind_73 ?_
      refine lv_iload_n hx hb dX4_stateBehind_74 rfl (lv_at hl 2 rfl) ?_
      obtain ⟨r11, S12, hc10, h⟩ := bn2_e h
      refine r_callV1 (ki := 3) (i := 0) (ci := 4) (As := [.int ((S.1 104 0 0) - (1 : Int32)), .int a2]) C hl.1 hH (c_X4_tellTake l g  hc10) q238 q23 q235 q236 q237 nd_X4_tellTake rfl (by decide) ⟨Nat.zero_le _, Nat.zero_le _⟩ (by decide) (by decide) ⟨_, rfl⟩ rfl (Nat.le_of_ble_eq_true rfl) dX4_stateBehind_75 (fun H locs hH => ?_)
      exact E_int C hr hH h dX4_stateBehind_78
    · replace h := if_f h c13
      by_cases c17 : a1 = (3 : Int32)
      · replace h := if_t h c17
        refine r_tabI C (k := 3) (off := 78) (tgt := 79) dX4_stateBehind_1 c17 (by decide) ?_
        refine lv_aload_n hx hb dX4_stateBehind_79 rfl (lv_at hl 0 rfl) ?_
        refine lv_aload_n hx hb dX4_stateBehind_80 rfl (lv_at hl 0 rfl) ?_
        refine gf_X4_24 C hH dX4_stateBehind_81 ?_
        refine lv_iconst (v := (1 : Int32)) hx hb dX4_stateBehind_84 (by decide) ?_
        refine lv_isub hx hb dX4_stateBehind_85 ?_
        refine lv_iload_n hx hb dX4_stateBehind_86 rfl (lv_at hl 2 rfl) ?_
        obtain ⟨r15, S16, hc14, h⟩ := bn2_e h
        refine r_callV1 (ki := 3) (i := 0) (ci := 4) (As := [.int ((S.1 104 0 0) - (1 : Int32)), .int a2]) C hl.1 hH (c_X4_tellLetter l g  hc14) q225 q23 q222 q223 q224 nd_X4_tellLetter rfl (by decide) ⟨Nat.zero_le _, Nat.zero_le _⟩ (by decide) (by decide) ⟨_, rfl⟩ rfl (Nat.le_of_ble_eq_true rfl) dX4_stateBehind_87 (fun H locs hH => ?_)
        exact E_int C hr hH h dX4_stateBehind_90
      · replace h := if_f h c17
        by_cases c21 : a1 = (4 : Int32)
        · replace h := if_t h c21
          refine r_tabI C (k := 4) (off := 90) (tgt := 91) dX4_stateBehind_1 c21 (by decide) ?_
          refine lv_aload_n hx hb dX4_stateBehind_91 rfl (lv_at hl 0 rfl) ?_
          refine lv_aload_n hx hb dX4_stateBehind_92 rfl (lv_at hl 0 rfl) ?_
          refine gf_X4_24 C hH dX4_stateBehind_93 ?_
          refine lv_iconst (v := (1 : Int32)) hx hb dX4_stateBehind_96 (by decide) ?_
          refine lv_isub hx hb dX4_stateBehind_97 ?_
          refine lv_iload_n hx hb dX4_stateBehind_98 rfl (lv_at hl 2 rfl) ?_
          obtain ⟨r19, S20, hc18, h⟩ := bn2_e h
          refine r_callV1 (ki := 3) (i := 0) (ci := 4) (As := [.int ((S.1 104 0 0) - (1 : Int32)), .int a2]) C hl.1 hH (c_X4_tellPlace l g  hc18) q245 q23 q242 q243 q244 nd_X4_tellPlace rfl (by decide) ⟨Nat.zero_le _, Nat.zero_le _⟩ (by decide) (by decide) ⟨_, rfl⟩ rfl (Nat.le_of_ble_eq_true rfl) dX4_stateBehind_99 (fun H locs hH => ?_)
          exact E_int C hr hH h dX4_stateBehind_102
        · replace h := if_f h c21
          by_cases c26 : a1 = (5 : Int32)
          · replace h := if_t h c26
            refine r_tabI C (k := 5) (off := 102) (tgt := 103) dX4_stateBehind_1 c26 (by decide) ?_
            refine lv_iload_n hx hb dX4_stateBehind_103 rfl (lv_at hl 2 rfl) ?_
            refine lv_bipush (v := (59 : Int32)) hx hb dX4_stateBehind_104 (by decide) ?_
            refine lv_icmp_ne (tgt := 113) hx hb dX4_stateBehind_106 (by decide) (fun c25 => ?_) (fun c25 => ?_)
            · replace h := if_f h c25
              refine lv_aload_n hx hb dX4_stateBehind_113 rfl (lv_at hl 0 rfl) ?_
              refine lv_aload_n hx hb dX4_stateBehind_114 rfl (lv_at hl 0 rfl) ?_
              refine gf_X4_24 C hH dX4_stateBehind_115 ?_
              refine lv_iconst (v := (1 : Int32)) hx hb dX4_stateBehind_118 (by decide) ?_
              refine lv_isub hx hb dX4_stateBehind_119 ?_
              refine lv_iload_n hx hb dX4_stateBehind_120 rfl (lv_at hl 2 rfl) ?_
              obtain ⟨r23, S24, hc22, h⟩ := bn2_e h
              refine r_callV1 (ki := 3) (i := 0) (ci := 4) (As := [.int ((S.1 104 0 0) - (1 : Int32)), .int a2]) C hl.1 hH (c_X4_tellLetter l g  hc22) q225 q23 q222 q223 q224 nd_X4_tellLetter rfl (by decide) ⟨Nat.zero_le _, Nat.zero_le _⟩ (by decide) (by decide) ⟨_, rfl⟩ rfl (Nat.le_of_ble_eq_true rfl) dX4_stateBehind_121 (fun H locs hH => ?_)
              exact E_int C hr hH h dX4_stateBehind_124
            · replace h := if_t h c25
              refine lv_iconst (v := (1 : Int32)) hx hb dX4_stateBehind_109 (by decide) ?_
              refine lv_goto (tgt := 124) hx hb dX4_stateBehind_110 (by decide) ?_
              exact E_int C hr hH h dX4_stateBehind_124
          · replace h := if_f h c26
            have nc9 := ne_toInt (k := 1) c9 (by decide)
            have nc13 := ne_toInt (k := 2) c13 (by decide)
            have nc17 := ne_toInt (k := 3) c17 (by decide)
            have nc21 := ne_toInt (k := 4) c21 (by decide)
            have nc26 := ne_toInt (k := 5) c26 (by decide)
            refine lv_tableOut (tgt := 125) hx hb dX4_stateBehind_1 (by omega) (by decide) ?_
            refine lv_iconst (v := (0 : Int32)) hx hb dX4_stateBehind_125 (by decide) ?_
            exact E_int C hr hH h dX4_stateBehind_126
theorem c_X4_stateBehind (l : Launch) (g : gT) {a1 : Int32} {a2 : Int32}  {S : sT} {r : Int32} {S1 : sT} (h : f_X4_stateBehind a1 a2 S = some (r, S1)) : MF l yX4_stateBehind cX4_stateBehind 3 (some .int) 4 g [.ref (gad g 3 0), .int a1, .int a2] S (some (.int r)) S1 := by
  refine MF.of (own := RX4) rfl rfl (Nat.le_of_ble_eq_true rfl) ?_
  intro p e s m below meth c C hr hH ls hl
  exact w_X4_stateBehind C hr (o := (r, S1))  hH hl h
theorem nd_X4_parse : yX4_parse.cls ≠ "java/lang/invoke/MethodHandle" ∧ yX4_parse.cls ≠ "java/lang/invoke/VarHandle" ∧ (parseMethodDescriptor yX4_parse.desc).map (fun d => d.parameters.length) = some 1 := by decide +kernel
def b_X4_parse_9 (w1 : Nat) (j11 : Int32 → sT → Option (Int32 × sT)) (j15 : Int32 → sT → Option (Int32 × sT)) (x16 : Int32) (x17 : Int32) (S18 : sT) (k19 : Int32 → Int32 → sT → Option (Int32 × sT)) : Option (Int32 × sT) :=
 bn (f_X8_size w1 S18) (fun r21 =>
 (if r21 ≤ x17 then
 j11 x16 S18
 else
 bn (f_X8_byteAt w1 x17 S18) (fun r23 =>
 bn2 (f_X4_stateBehind x16 r23 S18) (fun r25 S26 =>
 (if r25 = (0 : Int32) then
 j15 x17 S26
 else
 lt (x17 + (1 : Int32)) (fun x27 =>
 k19 r25 x27 S26))))))
def l_X4_parse_9 (w1 : Nat) (j11 : Int32 → sT → Option (Int32 × sT)) (j15 : Int32 → sT → Option (Int32 × sT)) : Nat → Int32 → Int32 → sT → Option (Int32 × sT)
 | 0, _, _, _ => none
 | n + 1, x16, x17, S18 => b_X4_parse_9 w1 j11 j15 x16 x17 S18 (l_X4_parse_9 w1 j11 j15 n)
theorem l_X4_parse_9_s (w1 : Nat) (j11 : Int32 → sT → Option (Int32 × sT)) (j15 : Int32 → sT → Option (Int32 × sT)) (n : Nat) (x16 : Int32) (x17 : Int32) (S18 : sT) : l_X4_parse_9 w1 j11 j15 (n + 1) x16 x17 S18 = b_X4_parse_9 w1 j11 j15 x16 x17 S18 (l_X4_parse_9 w1 j11 j15 n) := rfl
def f_X4_parse (w1 : Nat) (S : sT) : Option (Int32 × sT) :=
 lt (us S 104 0 0 (0 : Int32)) (fun S1 =>
 jn (fun (x2 : Int32) (S3 : sT) => bn (f_X8_size w1 S3) (fun r5 =>
 (if r5 ≤ (0 : Int32) then
 some ((-1 : Int32), S3)
 else
 (if x2 = (5 : Int32) then
 some ((-1 : Int32), S3)
 else
 lt (us S3 104 0 0 (0 : Int32)) (fun S6 =>
 bn (f_X8_size w1 S6) (fun r8 =>
 some (r8, S6)))))))
 (fun j11 => jn (fun (x12 : Int32) (S13 : sT) => lt (us S13 104 0 0 (0 : Int32)) (fun S14 =>
 some (x12, S14)))
 (fun j15 => l_X4_parse_9 w1 j11 j15 FU (1 : Int32) (0 : Int32) S1)))
set_option maxHeartbeats 4000000 in
set_option maxRecDepth 100000 in
theorem w_X4_parse_9 (C : Cx p s m args meth c cX4_parse 4 RX4 g) (hr : meth.sig.returnType = (some .int)) {o : Int32 × sT}  {w1 : Nat} (hw1 : w1 < 2) (j11 : Int32 → sT → Option (Int32 × sT)) (hj11 : ∀ (x2 : Int32) (S3 : sT) (H : Heap) (locs : List Loc) (ls : Array Slot), Hp g s S3 H locs → lv_has ls 4 [(0, .ref (gad g 3 0)), (1, .ref (gad g 1 w1)), (2, .int x2)] → j11 x2 S3 = some o → W p l e (rmL 5) s m args below meth c H locs 0 0 (Qm g below args s (some (.int o.1)) o.2) (F0 m 45 ls [])) (j15 : Int32 → sT → Option (Int32 × sT)) (hj15 : ∀ (x12 : Int32) (S13 : sT) (H : Heap) (locs : List Loc) (ls : Array Slot), Hp g s S13 H locs → lv_has ls 4 [(0, .ref (gad g 3 0)), (3, .int x12)] → j15 x12 S13 = some o → W p l e (rmL 5) s m args below meth c H locs 0 0 (Qm g below args s (some (.int o.1)) o.2) (F0 m 32 ls [])) : ∀ (n : Nat) (x16 : Int32) (x17 : Int32) (S18 : sT) (H : Heap) (locs : List Loc) (ls : Array Slot), Hp g s S18 H locs → lv_has ls 4 [(0, .ref (gad g 3 0)), (1, .ref (gad g 1 w1)), (2, .int x16), (3, .int x17)] → l_X4_parse_9 w1 j11 j15 n x16 x17 S18 = some o → W p l e (rmL 5) s m args below meth c H locs 0 0 (Qm g below args s (some (.int o.1)) o.2) (F0 m 9 ls []) := by
  obtain ⟨hx, hb, hml, hown, hts, hlk, hK⟩ := id C
  intro n
  induction n with
  | zero =>
    intro x16 x17 S18 H locs ls hH hl h
    cases h
  | succ n ih =>
    intro x16 x17 S18 H locs ls hH hl h
    rw [l_X4_parse_9_s] at h
    unfold b_X4_parse_9 at h
    refine lv_iload_n hx hb dX4_parse_9 rfl (lv_at hl 3 rfl) ?_
    refine lv_aload_n hx hb dX4_parse_10 rfl (lv_at hl 1 rfl) ?_
    obtain ⟨r21, hc20, h⟩ := bn_e h
    refine r_callV1 (ki := 1) (i := w1) (ci := 7) (As := []) C hl.1 hH (c_X8_size l g hw1 hc20) q181 q14 q212 q179 q180 nd_X8_size rfl (by decide) ⟨Nat.zero_le _, Nat.zero_le _⟩ (by decide) hw1 ⟨_, rfl⟩ rfl (Nat.le_of_ble_eq_true rfl) dX4_parse_11 (fun H locs hH => ?_)
    refine lv_icmp_ge (tgt := 45) hx hb dX4_parse_14 (by decide) (fun c29 => ?_) (fun c29 => ?_)
    · replace h := if_t h c29
      exact hj11 _ _ _ _ _ hH (lv_sub hl [0, 1, 2] rfl) h
    · replace h := if_f h c29
      refine lv_aload_n hx hb dX4_parse_17 rfl (lv_at hl 0 rfl) ?_
      refine lv_iload_n hx hb dX4_parse_18 rfl (lv_at hl 2 rfl) ?_
      refine lv_aload_n hx hb dX4_parse_19 rfl (lv_at hl 1 rfl) ?_
      refine lv_iload_n hx hb dX4_parse_20 rfl (lv_at hl 3 rfl) ?_
      obtain ⟨r23, hc22, h⟩ := bn_e h
      refine r_callV1 (ki := 1) (i := w1) (ci := 7) (As := [.int x17]) C hl.1 hH (c_X8_byteAt l g hw1 hc22) q185 q14 q213 q183 q184 nd_X8_byteAt rfl (by decide) ⟨Nat.zero_le _, Nat.zero_le _⟩ (by decide) hw1 ⟨_, rfl⟩ rfl (Nat.le_of_ble_eq_true rfl) dX4_parse_21 (fun H locs hH => ?_)
      obtain ⟨r25, S26, hc24, h⟩ := bn2_e h
      refine r_callV1 (ki := 3) (i := 0) (ci := 4) (As := [.int x16, .int r23]) C hl.1 hH (c_X4_stateBehind l g  hc24) q217 q23 q214 q215 q216 nd_X4_stateBehind rfl (by decide) ⟨Nat.zero_le _, Nat.zero_le _⟩ (by decide) (by decide) ⟨_, rfl⟩ rfl (Nat.le_of_ble_eq_true rfl) dX4_parse_24 (fun H locs hH => ?_)
      refine lv_istore_n (lv' := [(2, .int r25), (0, .ref (gad g 3 0)), (1, .ref (gad g 1 w1)), (3, .int x17)]) hx hb dX4_parse_27 rfl hl (by decide) rfl (fun ls hl => ?_)
      refine lv_iload_n hx hb dX4_parse_28 rfl (lv_at hl 0 rfl) ?_
      refine lv_if_ne (tgt := 39) hx hb dX4_parse_29 (by decide) (fun c28 => ?_) (fun c28 => ?_)
      · replace h := if_f h c28
        obtain ⟨x27, ex27⟩ : ∃ z : Int32, z = (x17 + (1 : Int32)) := ⟨_, rfl⟩
        replace h := lt_e h ex27
        refine lv_iinc (v := x27) (lv' := [(3, .int x27), (2, .int r25), (0, .ref (gad g 3 0)), (1, .ref (gad g 1 w1))]) hx hb dX4_parse_39 hl (k := 3) rfl (by rw [ex27]; rfl) (by decide) rfl (fun ls hl => ?_)
        refine lv_goto (tgt := 9) hx hb dX4_parse_42 (by decide) ?_
        exact ih _ _ _ _ _ _ hH (lv_sub hl [2, 3, 1, 0] rfl) h
      · replace h := if_t h c28
        exact hj15 _ _ _ _ _ hH (lv_sub hl [1, 3] rfl) h
set_option maxHeartbeats 4000000 in
set_option maxRecDepth 100000 in
theorem w_X4_parse (C : Cx p s m args meth c cX4_parse 4 RX4 g) (hr : meth.sig.returnType = (some .int)) {o : Int32 × sT} {w1 : Nat} (hw1 : w1 < 2) {S : sT} {H : Heap} {locs : List Loc} {ls : Array Slot} (hH : Hp g s S H locs) (hl : lv_has ls 4 [(0, .ref (gad g 3 0)), (1, .ref (gad g 1 w1))]) (h : f_X4_parse w1 S = some o) : W p l e (rmL 5) s m args below meth c H locs 0 0 (Qm g below args s (some (.int o.1)) o.2) (F0 m 0 ls []) := by
  obtain ⟨hx, hb, hml, hown, hts, hlk, hK⟩ := id C
  unfold f_X4_parse at h
  refine lv_aload_n hx hb dX4_parse_0 rfl (lv_at hl 0 rfl) ?_
  refine lv_iconst (v := (0 : Int32)) hx hb dX4_parse_1 (by decide) ?_
  refine pf_X4_24 C hH dX4_parse_2 (fun S1 H locs eS hH => ?_)
  replace h := lt_e h eS
  refine lv_iconst (v := (1 : Int32)) hx hb dX4_parse_5 (by decide) ?_
  refine lv_istore_n (lv' := [(2, .int (1 : Int32)), (0, .ref (gad g 3 0)), (1, .ref (gad g 1 w1))]) hx hb dX4_parse_6 rfl hl (by decide) rfl (fun ls hl => ?_)
  refine lv_iconst (v := (0 : Int32)) hx hb dX4_parse_7 (by decide) ?_
  refine lv_istore_n (lv' := [(3, .int (0 : Int32)), (2, .int (1 : Int32)), (0, .ref (gad g 3 0)), (1, .ref (gad g 1 w1))]) hx hb dX4_parse_8 rfl hl (by decide) rfl (fun ls hl => ?_)
  obtain ⟨j11, ej11, h⟩ := jn_e h
  have hj11 : ∀ (x2 : Int32) (S3 : sT) (H : Heap) (locs : List Loc) (ls : Array Slot), Hp g s S3 H locs → lv_has ls 4 [(0, .ref (gad g 3 0)), (1, .ref (gad g 1 w1)), (2, .int x2)] → j11 x2 S3 = some o → W p l e (rmL 5) s m args below meth c H locs 0 0 (Qm g below args s (some (.int o.1)) o.2) (F0 m 45 ls []) := by
    intro x2 S3 H locs ls hH hl h
    rw [ej11] at h
    try dsimp only at h
    refine lv_aload_n hx hb dX4_parse_45 rfl (lv_at hl 1 rfl) ?_
    obtain ⟨r5, hc4, h⟩ := bn_e h
    refine r_callV1 (ki := 1) (i := w1) (ci := 7) (As := []) C hl.1 hH (c_X8_size l g hw1 hc4) q181 q14 q212 q179 q180 nd_X8_size rfl (by decide) ⟨Nat.zero_le _, Nat.zero_le _⟩ (by decide) hw1 ⟨_, rfl⟩ rfl (Nat.le_of_ble_eq_true rfl) dX4_parse_46 (fun H locs hH => ?_)
    refine lv_if_le (tgt := 67) hx hb dX4_parse_49 (by decide) (fun c10 => ?_) (fun c10 => ?_)
    · replace h := if_t h c10
      refine lv_iconst (v := (-1 : Int32)) hx hb dX4_parse_67 (by decide) ?_
      exact E_int C hr hH h dX4_parse_68
    · replace h := if_f h c10
      refine lv_iload_n hx hb dX4_parse_52 rfl (lv_at hl 2 rfl) ?_
      refine lv_iconst (v := (5 : Int32)) hx hb dX4_parse_53 (by decide) ?_
      refine lv_icmp_eq (tgt := 67) hx hb dX4_parse_54 (by decide) (fun c9 => ?_) (fun c9 => ?_)
      · replace h := if_t h c9
        refine lv_iconst (v := (-1 : Int32)) hx hb dX4_parse_67 (by decide) ?_
        exact E_int C hr hH h dX4_parse_68
      · replace h := if_f h c9
        refine lv_aload_n hx hb dX4_parse_57 rfl (lv_at hl 0 rfl) ?_
        refine lv_iconst (v := (0 : Int32)) hx hb dX4_parse_58 (by decide) ?_
        refine pf_X4_24 C hH dX4_parse_59 (fun S6 H locs eS hH => ?_)
        replace h := lt_e h eS
        refine lv_aload_n hx hb dX4_parse_62 rfl (lv_at hl 1 rfl) ?_
        obtain ⟨r8, hc7, h⟩ := bn_e h
        refine r_callV1 (ki := 1) (i := w1) (ci := 7) (As := []) C hl.1 hH (c_X8_size l g hw1 hc7) q181 q14 q212 q179 q180 nd_X8_size rfl (by decide) ⟨Nat.zero_le _, Nat.zero_le _⟩ (by decide) hw1 ⟨_, rfl⟩ rfl (Nat.le_of_ble_eq_true rfl) dX4_parse_63 (fun H locs hH => ?_)
        exact E_int C hr hH h dX4_parse_66
  clear ej11
  obtain ⟨j15, ej15, h⟩ := jn_e h
  have hj15 : ∀ (x12 : Int32) (S13 : sT) (H : Heap) (locs : List Loc) (ls : Array Slot), Hp g s S13 H locs → lv_has ls 4 [(0, .ref (gad g 3 0)), (3, .int x12)] → j15 x12 S13 = some o → W p l e (rmL 5) s m args below meth c H locs 0 0 (Qm g below args s (some (.int o.1)) o.2) (F0 m 32 ls []) := by
    intro x12 S13 H locs ls hH hl h
    rw [ej15] at h
    try dsimp only at h
    refine lv_aload_n hx hb dX4_parse_32 rfl (lv_at hl 0 rfl) ?_
    refine lv_iconst (v := (0 : Int32)) hx hb dX4_parse_33 (by decide) ?_
    refine pf_X4_24 C hH dX4_parse_34 (fun S14 H locs eS hH => ?_)
    replace h := lt_e h eS
    refine lv_iload_n hx hb dX4_parse_37 rfl (lv_at hl 1 rfl) ?_
    exact E_int C hr hH h dX4_parse_38
  clear ej15
  exact w_X4_parse_9 C hr hw1 j11 hj11 j15 hj15 _ _ _ _ _ _ _ hH (lv_sub hl [2, 3, 1, 0] rfl) h
theorem c_X4_parse (l : Launch) (g : gT) {w1 : Nat} (hw1 : w1 < 2) {S : sT} {r : Int32} {S1 : sT} (h : f_X4_parse w1 S = some (r, S1)) : MF l yX4_parse cX4_parse 4 (some .int) 5 g [.ref (gad g 3 0), .ref (gad g 1 w1)] S (some (.int r)) S1 := by
  refine MF.of (own := RX4) rfl rfl (Nat.le_of_ble_eq_true rfl) ?_
  intro p e s m below meth c C hr hH ls hl
  exact w_X4_parse C hr (o := (r, S1)) hw1 hH hl h
end G13
