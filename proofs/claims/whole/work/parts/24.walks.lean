section G24
variable {p : Program} {l : Launch} {e : Env} {s : State} {m : MethodId} {args : Array Value} {below : List Frame} {meth : Method} {c : Code} {g : gT}
theorem nd_X11_mends : yX11_mends.cls ≠ "java/lang/invoke/MethodHandle" ∧ yX11_mends.cls ≠ "java/lang/invoke/VarHandle" ∧ (parseMethodDescriptor yX11_mends.desc).map (fun d => d.parameters.length) = some 1 := by decide +kernel
def b_X11_mends_12 (a1 : Int32) (j9 : Int32 → sT → Option (Int32 × sT)) (x10 : Int32) (x11 : Int32) (S12 : sT) (k13 : Int32 → Int32 → sT → Option (Int32 × sT)) : Option (Int32 × sT) :=
 (if a1 ≤ x11 then
 j9 x10 S12
 else
 jn (fun (y14 : Int32) (S15 : sT) => lt (x11 + (1 : Int32)) (fun x16 =>
 k13 y14 x16 S15))
 (fun j17 => jn (fun (S18 : sT) => j17 (0 : Int32) S18)
 (fun j19 => (if x10 = (0 : Int32) then
 j19 S12
 else
 ck (vi x11 3) (
 ck (nz (8 : Int32)) (
 ck (vi x11 3) (
 ck (nz (8 : Int32)) (
 ck (vi x11 3) (
 ck (nz (8 : Int32)) (
 bn2 (f_X11_lays ((S12.1 45 0 (cl x11)) / (8 : Int32)) ((S12.1 45 0 (cl x11)) / (8 : Int32)) ((S12.1 45 0 (cl x11)) - (S12.1 45 0 (cl x11)) / (8 : Int32) * (8 : Int32)) S12) (fun r27 S28 =>
 (if r27 = (0 : Int32) then
 j19 S28
 else
 j17 (1 : Int32) S28))))))))))))
def l_X11_mends_12 (a1 : Int32) (j9 : Int32 → sT → Option (Int32 × sT)) : Nat → Int32 → Int32 → sT → Option (Int32 × sT)
 | 0, _, _, _ => none
 | n + 1, x10, x11, S12 => b_X11_mends_12 a1 j9 x10 x11 S12 (l_X11_mends_12 a1 j9 n)
theorem l_X11_mends_12_s (a1 : Int32) (j9 : Int32 → sT → Option (Int32 × sT)) (n : Nat) (x10 : Int32) (x11 : Int32) (S12 : sT) : l_X11_mends_12 a1 j9 (n + 1) x10 x11 S12 = b_X11_mends_12 a1 j9 x10 x11 S12 (l_X11_mends_12 a1 j9 n) := rfl
def f_X11_mends (a1 : Int32) (S : sT) : Option (Int32 × sT) :=
 bn (f_X11_lives (S.1 116 0 0) S) (fun S2 =>
 jn (fun (x3 : Int32) (S4 : sT) => (if x3 = (0 : Int32) then
 some ((0 : Int32), S4)
 else
 bn (f_X11_weakNow  S4) (fun r6 =>
 (if r6 = (0 : Int32) then
 some ((1 : Int32), S4)
 else
 some ((0 : Int32), S4)))))
 (fun j9 => l_X11_mends_12 a1 j9 FU (1 : Int32) (0 : Int32) S2))
set_option maxHeartbeats 4000000 in
set_option maxRecDepth 100000 in
theorem w_X11_mends_12 (C : Cx p s m args meth c cX11_mends 4 RX11 g) (hr : meth.sig.returnType = (some .boolean)) {o : Int32 × sT}  {a1 : Int32}  (j9 : Int32 → sT → Option (Int32 × sT)) (hj9 : ∀ (x3 : Int32) (S4 : sT) (H : Heap) (locs : List Loc) (ls : Array Slot), Hp g s S4 H locs → lv_has ls 4 [(0, .ref (gad g 10 0)), (2, .int x3)] → j9 x3 S4 = some o → W p l e (rmL 5) s m args below meth c H locs 0 0 (Qm g below args s (some (.int o.1)) o.2) (F0 m 67 ls [])) : ∀ (n : Nat) (x10 : Int32) (x11 : Int32) (S12 : sT) (H : Heap) (locs : List Loc) (ls : Array Slot), Hp g s S12 H locs → lv_has ls 4 [(0, .ref (gad g 10 0)), (1, .int a1), (2, .int x10), (3, .int x11)] → l_X11_mends_12 a1 j9 n x10 x11 S12 = some o → W p l e (rmL 5) s m args below meth c H locs 0 0 (Qm g below args s (some (.int o.1)) o.2) (F0 m 12 ls []) := by
  obtain ⟨hx, hb, hml, hown, hts, hlk, hK⟩ := id C
  intro n
  induction n with
  | zero =>
    intro x10 x11 S12 H locs ls hH hl h
    cases h
  | succ n ih =>
    intro x10 x11 S12 H locs ls hH hl h
    rw [l_X11_mends_12_s] at h
    unfold b_X11_mends_12 at h
    refine lv_iload_n hx hb dX11_mends_12 rfl (lv_at hl 3 rfl) ?_
    refine lv_iload_n hx hb dX11_mends_13 rfl (lv_at hl 1 rfl) ?_
    refine lv_icmp_ge (tgt := 67) hx hb dX11_mends_14 (by decide) (fun c31 => ?_) (fun c31 => ?_)
    · replace h := if_t h c31
      exact hj9 _ _ _ _ _ hH (lv_sub hl [0, 2] rfl) h
    · replace h := if_f h c31
      refine lv_iload_n hx hb dX11_mends_17 rfl (lv_at hl 2 rfl) ?_
      obtain ⟨j17, ej17, h⟩ := jn_e h
      have hj17 : ∀ (y14 : Int32) (S15 : sT) (H : Heap) (locs : List Loc) (ls : Array Slot), Hp g s S15 H locs → lv_has ls 4 [(0, .ref (gad g 10 0)), (1, .int a1), (3, .int x11)] → j17 y14 S15 = some o → W p l e (rmL 5) s m args below meth c H locs 0 0 (Qm g below args s (some (.int o.1)) o.2) (F0 m 60 ls [.int y14]) := by
        intro y14 S15 H locs ls hH hl h
        rw [ej17] at h
        try dsimp only at h
        refine lv_istore_n (lv' := [(2, .int y14), (0, .ref (gad g 10 0)), (1, .int a1), (3, .int x11)]) hx hb dX11_mends_60 rfl hl (by decide) rfl (fun ls hl => ?_)
        obtain ⟨x16, ex16⟩ : ∃ z : Int32, z = (x11 + (1 : Int32)) := ⟨_, rfl⟩
        replace h := lt_e h ex16
        refine lv_iinc (v := x16) (lv' := [(3, .int x16), (2, .int y14), (0, .ref (gad g 10 0)), (1, .int a1)]) hx hb dX11_mends_61 hl (k := 3) rfl (by rw [ex16]; rfl) (by decide) rfl (fun ls hl => ?_)
        refine lv_goto (tgt := 12) hx hb dX11_mends_64 (by decide) ?_
        exact ih _ _ _ _ _ _ hH (lv_sub hl [2, 3, 1, 0] rfl) h
      clear ej17
      obtain ⟨j19, ej19, h⟩ := jn_e h
      have hj19 : ∀ (S18 : sT) (H : Heap) (locs : List Loc) (ls : Array Slot), Hp g s S18 H locs → lv_has ls 4 [(0, .ref (gad g 10 0)), (1, .int a1), (3, .int x11)] → j19 S18 = some o → W p l e (rmL 5) s m args below meth c H locs 0 0 (Qm g below args s (some (.int o.1)) o.2) (F0 m 59 ls []) := by
        intro S18 H locs ls hH hl h
        rw [ej19] at h
        try dsimp only at h
        refine lv_iconst (v := (0 : Int32)) hx hb dX11_mends_59 (by decide) ?_
        exact hj17 _ _ _ _ _ hH (lv_sub hl [0, 1, 2] rfl) h
      clear ej19
      refine lv_if_eq (tgt := 59) hx hb dX11_mends_18 (by decide) (fun c30 => ?_) (fun c30 => ?_)
      · replace h := if_t h c30
        exact hj19 _ _ _ _ hH (lv_sub hl [0, 1, 3] rfl) h
      · replace h := if_f h c30
        refine lv_aload_n hx hb dX11_mends_21 rfl (lv_at hl 0 rfl) ?_
        refine lv_aload_n hx hb dX11_mends_22 rfl (lv_at hl 0 rfl) ?_
        refine gf_X11_46 C hH dX11_mends_23 ?_
        refine lv_iload_n hx hb dX11_mends_26 rfl (lv_at hl 3 rfl) ?_
        obtain ⟨hv20, h⟩ := ck_e h
        refine r_ald C hH ka_45 (by decide) (by decide) (vi_in hv20) dX11_mends_27 ?_
        refine lv_bipush (v := (8 : Int32)) hx hb dX11_mends_28 (by decide) ?_
        obtain ⟨hv21, h⟩ := ck_e h
        refine lv_idiv hx hb dX11_mends_30 (nz_e hv21) ?_
        refine lv_aload_n hx hb dX11_mends_31 rfl (lv_at hl 0 rfl) ?_
        refine gf_X11_46 C hH dX11_mends_32 ?_
        refine lv_iload_n hx hb dX11_mends_35 rfl (lv_at hl 3 rfl) ?_
        obtain ⟨hv22, h⟩ := ck_e h
        refine r_ald C hH ka_45 (by decide) (by decide) (vi_in hv22) dX11_mends_36 ?_
        refine lv_bipush (v := (8 : Int32)) hx hb dX11_mends_37 (by decide) ?_
        obtain ⟨hv23, h⟩ := ck_e h
        refine lv_idiv hx hb dX11_mends_39 (nz_e hv23) ?_
        refine lv_aload_n hx hb dX11_mends_40 rfl (lv_at hl 0 rfl) ?_
        refine gf_X11_46 C hH dX11_mends_41 ?_
        refine lv_iload_n hx hb dX11_mends_44 rfl (lv_at hl 3 rfl) ?_
        obtain ⟨hv24, h⟩ := ck_e h
        refine r_ald C hH ka_45 (by decide) (by decide) (vi_in hv24) dX11_mends_45 ?_
        refine lv_bipush (v := (8 : Int32)) hx hb dX11_mends_46 (by decide) ?_
        obtain ⟨hv25, h⟩ := ck_e h
        refine lv_irem hx hb dX11_mends_48 (nz_e hv25) ?_
        obtain ⟨r27, S28, hc26, h⟩ := bn2_e h
        refine r_callV1 (ki := 10) (i := 0) (ci := 10) (As := [.int ((S12.1 45 0 (cl x11)) / (8 : Int32)), .int ((S12.1 45 0 (cl x11)) / (8 : Int32)), .int ((S12.1 45 0 (cl x11)) - (S12.1 45 0 (cl x11)) / (8 : Int32) * (8 : Int32))]) C hl.1 hH (c_X11_lays l g  hc26) q449 q5 q446 q447 q448 nd_X11_lays rfl (by decide) ⟨Nat.zero_le _, Nat.zero_le _⟩ (by decide) (by decide) ⟨_, rfl⟩ rfl (Nat.le_of_ble_eq_true rfl) dX11_mends_49 (fun H locs hH => ?_)
        refine lv_if_eq (tgt := 59) hx hb dX11_mends_52 (by decide) (fun c29 => ?_) (fun c29 => ?_)
        · replace h := if_t h c29
          exact hj19 _ _ _ _ hH (lv_sub hl [0, 1, 3] rfl) h
        · replace h := if_f h c29
          refine lv_iconst (v := (1 : Int32)) hx hb dX11_mends_55 (by decide) ?_
          refine lv_goto (tgt := 60) hx hb dX11_mends_56 (by decide) ?_
          exact hj17 _ _ _ _ _ hH (lv_sub hl [0, 1, 3] rfl) h
set_option maxHeartbeats 4000000 in
set_option maxRecDepth 100000 in
theorem w_X11_mends (C : Cx p s m args meth c cX11_mends 4 RX11 g) (hr : meth.sig.returnType = (some .boolean)) {o : Int32 × sT} {a1 : Int32}  {S : sT} {H : Heap} {locs : List Loc} {ls : Array Slot} (hH : Hp g s S H locs) (hl : lv_has ls 4 [(0, .ref (gad g 10 0)), (1, .int a1)]) (h : f_X11_mends a1 S = some o) : W p l e (rmL 5) s m args below meth c H locs 0 0 (Qm g below args s (some (.int o.1)) o.2) (F0 m 0 ls []) := by
  obtain ⟨hx, hb, hml, hown, hts, hlk, hK⟩ := id C
  unfold f_X11_mends at h
  refine lv_aload_n hx hb dX11_mends_0 rfl (lv_at hl 0 rfl) ?_
  refine lv_aload_n hx hb dX11_mends_1 rfl (lv_at hl 0 rfl) ?_
  refine gf_X11_108 C hH dX11_mends_2 ?_
  obtain ⟨S2, hc1, h⟩ := bn_e h
  refine r_callV0 (ki := 10) (i := 0) (ci := 10) (As := [.int (S.1 116 0 0)]) C hl.1 hH (c_X11_lives l g  hc1) q426 q5 q423 q424 q425 nd_X11_lives rfl (by decide) ⟨Nat.zero_le _, Nat.zero_le _⟩ (by decide) (by decide) ⟨_, rfl⟩ rfl (Nat.le_of_ble_eq_true rfl) dX11_mends_5 (fun H locs hH => ?_)
  refine lv_iconst (v := (1 : Int32)) hx hb dX11_mends_8 (by decide) ?_
  refine lv_istore_n (lv' := [(2, .int (1 : Int32)), (0, .ref (gad g 10 0)), (1, .int a1)]) hx hb dX11_mends_9 rfl hl (by decide) rfl (fun ls hl => ?_)
  refine lv_iconst (v := (0 : Int32)) hx hb dX11_mends_10 (by decide) ?_
  refine lv_istore_n (lv' := [(3, .int (0 : Int32)), (2, .int (1 : Int32)), (0, .ref (gad g 10 0)), (1, .int a1)]) hx hb dX11_mends_11 rfl hl (by decide) rfl (fun ls hl => ?_)
  obtain ⟨j9, ej9, h⟩ := jn_e h
  have hj9 : ∀ (x3 : Int32) (S4 : sT) (H : Heap) (locs : List Loc) (ls : Array Slot), Hp g s S4 H locs → lv_has ls 4 [(0, .ref (gad g 10 0)), (2, .int x3)] → j9 x3 S4 = some o → W p l e (rmL 5) s m args below meth c H locs 0 0 (Qm g below args s (some (.int o.1)) o.2) (F0 m 67 ls []) := by
    intro x3 S4 H locs ls hH hl h
    rw [ej9] at h
    try dsimp only at h
    refine lv_iload_n hx hb dX11_mends_67 rfl (lv_at hl 1 rfl) ?_
    refine lv_if_eq (tgt := 82) hx hb dX11_mends_68 (by decide) (fun c8 => ?_) (fun c8 => ?_)
    · replace h := if_t h c8
      refine lv_iconst (v := (0 : Int32)) hx hb dX11_mends_82 (by decide) ?_
      exact E_bool C hr hH rfl h dX11_mends_83
    · replace h := if_f h c8
      refine lv_aload_n hx hb dX11_mends_71 rfl (lv_at hl 0 rfl) ?_
      obtain ⟨r6, hc5, h⟩ := bn_e h
      refine r_callV1 (ki := 10) (i := 0) (ci := 10) (As := []) C hl.1 hH (c_X11_weakNow l g  hc5) q549 q5 q546 q547 q548 nd_X11_weakNow rfl (by decide) ⟨Nat.zero_le _, Nat.zero_le _⟩ (by decide) (by decide) ⟨_, rfl⟩ rfl (Nat.le_of_ble_eq_true rfl) dX11_mends_72 (fun H locs hH => ?_)
      refine lv_if_ne (tgt := 82) hx hb dX11_mends_75 (by decide) (fun c7 => ?_) (fun c7 => ?_)
      · replace h := if_f h c7
        refine lv_iconst (v := (0 : Int32)) hx hb dX11_mends_82 (by decide) ?_
        exact E_bool C hr hH rfl h dX11_mends_83
      · replace h := if_t h c7
        refine lv_iconst (v := (1 : Int32)) hx hb dX11_mends_78 (by decide) ?_
        refine lv_goto (tgt := 83) hx hb dX11_mends_79 (by decide) ?_
        exact E_bool C hr hH rfl h dX11_mends_83
  clear ej9
  exact w_X11_mends_12 C hr  j9 hj9 _ _ _ _ _ _ _ hH (lv_sub hl [2, 3, 1, 0] rfl) h
theorem c_X11_mends (l : Launch) (g : gT) {a1 : Int32}  {S : sT} {r : Int32} {S1 : sT} (h : f_X11_mends a1 S = some (r, S1)) : MF l yX11_mends cX11_mends 4 (some .boolean) 5 g [.ref (gad g 10 0), .int a1] S (some (.int r)) S1 := by
  refine MF.of (own := RX11) rfl rfl (Nat.le_of_ble_eq_true rfl) ?_
  intro p e s m below meth c C hr hH ls hl
  exact w_X11_mends C hr (o := (r, S1))  hH hl h
theorem nd_X11_opens : yX11_opens.cls ≠ "java/lang/invoke/MethodHandle" ∧ yX11_opens.cls ≠ "java/lang/invoke/VarHandle" ∧ (parseMethodDescriptor yX11_opens.desc).map (fun d => d.parameters.length) = some 2 := by decide +kernel
def b_X11_opens_13 (a1 : Int32) (j12 : Int32 → sT → Option (Int32 × sT)) (x13 : Int32) (x14 : Int32) (S15 : sT) (k16 : Int32 → Int32 → sT → Option (Int32 × sT)) : Option (Int32 × sT) :=
 (if a1 ≤ x14 then
 j12 x13 S15
 else
 jn (fun (y17 : Int32) => ck (vi x14 3) (
 ck (vi (S15.1 45 0 (cl x14)) 8) (
 jn (fun (y20 : Int32) => ck (vi (S15.1 45 0 (cl x14)) 8) (
 lt (us S15 44 0 (cl (S15.1 45 0 (cl x14))) ((S15.1 44 0 (cl (S15.1 45 0 (cl x14)))) - y20)) (fun S22 =>
 lt (x14 + (1 : Int32)) (fun x23 =>
 k16 y17 x23 S22))))
 (fun j24 => (if y17 = (0 : Int32) then
 j24 (0 : Int32)
 else
 j24 (1 : Int32))))))
 (fun j26 => jn (j26 (0 : Int32))
 (fun j27 => (if x13 = (0 : Int32) then
 j27
 else
 ck (vi x14 3) (
 bn (f_X11_isColumn (S15.1 45 0 (cl x14)) S15) (fun r30 =>
 (if r30 = (0 : Int32) then
 j27
 else
 ck (vi x14 3) (
 ck (vi (S15.1 45 0 (cl x14)) 8) (
 (if (S15.1 44 0 (cl (S15.1 45 0 (cl x14)))) ≤ (0 : Int32) then
 j27
 else
 j26 (1 : Int32)))))))))))
def l_X11_opens_13 (a1 : Int32) (j12 : Int32 → sT → Option (Int32 × sT)) : Nat → Int32 → Int32 → sT → Option (Int32 × sT)
 | 0, _, _, _ => none
 | n + 1, x13, x14, S15 => b_X11_opens_13 a1 j12 x13 x14 S15 (l_X11_opens_13 a1 j12 n)
theorem l_X11_opens_13_s (a1 : Int32) (j12 : Int32 → sT → Option (Int32 × sT)) (n : Nat) (x13 : Int32) (x14 : Int32) (S15 : sT) : l_X11_opens_13 a1 j12 (n + 1) x13 x14 S15 = b_X11_opens_13 a1 j12 x13 x14 S15 (l_X11_opens_13 a1 j12 n) := rfl
def f_X11_opens (a1 : Int32) (a2 : Int32) (S : sT) : Option (Int32 × sT) :=
 bn (f_X11_lives (S.1 116 0 0) S) (fun S2 =>
 jn (fun (x3 : Int32) (S4 : sT) => (if x3 = (0 : Int32) then
 some ((0 : Int32), S4)
 else
 bn (f_X11_weakNow  S4) (fun r6 =>
 (if r6 = (0 : Int32) then
 bn (f_X11_pearsNow  S4) (fun r8 =>
 (if r8 < a2 then
 some ((0 : Int32), S4)
 else
 some ((1 : Int32), S4)))
 else
 some ((0 : Int32), S4)))))
 (fun j12 => l_X11_opens_13 a1 j12 FU (1 : Int32) (0 : Int32) S2))
set_option maxHeartbeats 4000000 in
set_option maxRecDepth 100000 in
theorem w_X11_opens_13 (C : Cx p s m args meth c cX11_opens 5 RX11 g) (hr : meth.sig.returnType = (some .boolean)) {o : Int32 × sT}  {a1 : Int32} {a2 : Int32}  (j12 : Int32 → sT → Option (Int32 × sT)) (hj12 : ∀ (x3 : Int32) (S4 : sT) (H : Heap) (locs : List Loc) (ls : Array Slot), Hp g s S4 H locs → lv_has ls 5 [(0, .ref (gad g 10 0)), (2, .int a2), (3, .int x3)] → j12 x3 S4 = some o → W p l e (rmL 5) s m args below meth c H locs 0 0 (Qm g below args s (some (.int o.1)) o.2) (F0 m 88 ls [])) : ∀ (n : Nat) (x13 : Int32) (x14 : Int32) (S15 : sT) (H : Heap) (locs : List Loc) (ls : Array Slot), Hp g s S15 H locs → lv_has ls 5 [(0, .ref (gad g 10 0)), (1, .int a1), (2, .int a2), (3, .int x13), (4, .int x14)] → l_X11_opens_13 a1 j12 n x13 x14 S15 = some o → W p l e (rmL 5) s m args below meth c H locs 0 0 (Qm g below args s (some (.int o.1)) o.2) (F0 m 13 ls []) := by
  obtain ⟨hx, hb, hml, hown, hts, hlk, hK⟩ := id C
  intro n
  induction n with
  | zero =>
    intro x13 x14 S15 H locs ls hH hl h
    cases h
  | succ n ih =>
    intro x13 x14 S15 H locs ls hH hl h
    rw [l_X11_opens_13_s] at h
    unfold b_X11_opens_13 at h
    refine lv_iload hx hb dX11_opens_13 (lv_at hl 4 rfl) ?_
    refine lv_iload_n hx hb dX11_opens_15 rfl (lv_at hl 1 rfl) ?_
    refine lv_icmp_ge (tgt := 88) hx hb dX11_opens_16 (by decide) (fun c36 => ?_) (fun c36 => ?_)
    · replace h := if_t h c36
      exact hj12 _ _ _ _ _ hH (lv_sub hl [0, 2, 3] rfl) h
    · replace h := if_f h c36
      refine lv_iload_n hx hb dX11_opens_19 rfl (lv_at hl 3 rfl) ?_
      obtain ⟨j26, ej26, h⟩ := jn_e h
      have hj26 : ∀ (y17 : Int32) (H : Heap) (locs : List Loc) (ls : Array Slot), Hp g s S15 H locs → lv_has ls 5 [(0, .ref (gad g 10 0)), (1, .int a1), (2, .int a2), (4, .int x14)] → j26 y17 = some o → W p l e (rmL 5) s m args below meth c H locs 0 0 (Qm g below args s (some (.int o.1)) o.2) (F0 m 57 ls [.int y17]) := by
        intro y17 H locs ls hH hl h
        rw [ej26] at h
        try dsimp only at h
        refine lv_istore_n (lv' := [(3, .int y17), (0, .ref (gad g 10 0)), (1, .int a1), (2, .int a2), (4, .int x14)]) hx hb dX11_opens_57 rfl hl (by decide) rfl (fun ls hl => ?_)
        refine lv_aload_n hx hb dX11_opens_58 rfl (lv_at hl 1 rfl) ?_
        refine gf_X11_43 C hH dX11_opens_59 ?_
        refine lv_aload_n hx hb dX11_opens_62 rfl (lv_at hl 1 rfl) ?_
        refine gf_X11_46 C hH dX11_opens_63 ?_
        refine lv_iload hx hb dX11_opens_66 (lv_at hl 4 rfl) ?_
        obtain ⟨hv18, h⟩ := ck_e h
        refine r_ald C hH ka_45 (by decide) (by decide) (vi_in hv18) dX11_opens_68 ?_
        refine lv_dup2_11 hx hb dX11_opens_69 rfl rfl ?_
        obtain ⟨hv19, h⟩ := ck_e h
        refine r_ald C hH ka_44 (by decide) (by decide) (vi_in hv19) dX11_opens_70 ?_
        refine lv_iload_n hx hb dX11_opens_71 rfl (lv_at hl 0 rfl) ?_
        obtain ⟨j24, ej24, h⟩ := jn_e h
        have hj24 : ∀ (y20 : Int32) (H : Heap) (locs : List Loc) (ls : Array Slot), Hp g s S15 H locs → lv_has ls 5 [(0, .ref (gad g 10 0)), (1, .int a1), (2, .int a2), (3, .int y17), (4, .int x14)] → j24 y20 = some o → W p l e (rmL 5) s m args below meth c H locs 0 0 (Qm g below args s (some (.int o.1)) o.2) (F0 m 80 ls [.int y20, .int (S15.1 44 0 (cl (S15.1 45 0 (cl x14)))), .int (S15.1 45 0 (cl x14)), .ref (gad g 44 0)]) := by
          intro y20 H locs ls hH hl h
          rw [ej24] at h
          try dsimp only at h
          refine lv_isub hx hb dX11_opens_80 ?_
          obtain ⟨hv21, h⟩ := ck_e h
          refine r_ast C hH ka_44 ko_44 (by decide) (by decide) (vi_in hv21) dX11_opens_81 (fun S22 H locs eS hH => ?_)
          replace h := lt_e h eS
          obtain ⟨x23, ex23⟩ : ∃ z : Int32, z = (x14 + (1 : Int32)) := ⟨_, rfl⟩
          replace h := lt_e h ex23
          refine lv_iinc (v := x23) (lv' := [(4, .int x23), (0, .ref (gad g 10 0)), (1, .int a1), (2, .int a2), (3, .int y17)]) hx hb dX11_opens_82 hl (k := 4) rfl (by rw [ex23]; rfl) (by decide) rfl (fun ls hl => ?_)
          refine lv_goto (tgt := 13) hx hb dX11_opens_85 (by decide) ?_
          exact ih _ _ _ _ _ _ hH (lv_sub hl [1, 2, 3, 4, 0] rfl) h
        clear ej24
        refine lv_if_eq (tgt := 79) hx hb dX11_opens_72 (by decide) (fun c25 => ?_) (fun c25 => ?_)
        · replace h := if_t h c25
          refine lv_iconst (v := (0 : Int32)) hx hb dX11_opens_79 (by decide) ?_
          exact hj24 _ _ _ _ hH (lv_sub hl [1, 2, 3, 0, 4] rfl) h
        · replace h := if_f h c25
          refine lv_iconst (v := (1 : Int32)) hx hb dX11_opens_75 (by decide) ?_
          refine lv_goto (tgt := 80) hx hb dX11_opens_76 (by decide) ?_
          exact hj24 _ _ _ _ hH (lv_sub hl [1, 2, 3, 0, 4] rfl) h
      clear ej26
      obtain ⟨j27, ej27, h⟩ := jn_e h
      have hj27 : ∀  (H : Heap) (locs : List Loc) (ls : Array Slot), Hp g s S15 H locs → lv_has ls 5 [(0, .ref (gad g 10 0)), (1, .int a1), (2, .int a2), (4, .int x14)] → j27  = some o → W p l e (rmL 5) s m args below meth c H locs 0 0 (Qm g below args s (some (.int o.1)) o.2) (F0 m 56 ls []) := by
        intro  H locs ls hH hl h
        rw [ej27] at h
        try dsimp only at h
        refine lv_iconst (v := (0 : Int32)) hx hb dX11_opens_56 (by decide) ?_
        exact hj26 _ _ _ _ hH (lv_sub hl [0, 1, 2, 3] rfl) h
      clear ej27
      refine lv_if_eq (tgt := 56) hx hb dX11_opens_20 (by decide) (fun c35 => ?_) (fun c35 => ?_)
      · replace h := if_t h c35
        exact hj27 _ _ _ hH (lv_sub hl [0, 1, 2, 4] rfl) h
      · replace h := if_f h c35
        refine lv_aload_n hx hb dX11_opens_23 rfl (lv_at hl 0 rfl) ?_
        refine lv_aload_n hx hb dX11_opens_24 rfl (lv_at hl 0 rfl) ?_
        refine gf_X11_46 C hH dX11_opens_25 ?_
        refine lv_iload hx hb dX11_opens_28 (lv_at hl 4 rfl) ?_
        obtain ⟨hv28, h⟩ := ck_e h
        refine r_ald C hH ka_45 (by decide) (by decide) (vi_in hv28) dX11_opens_30 ?_
        obtain ⟨r30, hc29, h⟩ := bn_e h
        refine r_callV1 (ki := 10) (i := 0) (ci := 10) (As := [.int (S15.1 45 0 (cl x14))]) C hl.1 hH (c_X11_isColumn l g  hc29) q418 q5 q415 q416 q417 nd_X11_isColumn rfl (by decide) ⟨Nat.zero_le _, Nat.zero_le _⟩ (by decide) (by decide) ⟨_, rfl⟩ rfl (Nat.le_of_ble_eq_true rfl) dX11_opens_31 (fun H locs hH => ?_)
        refine lv_if_eq (tgt := 56) hx hb dX11_opens_34 (by decide) (fun c34 => ?_) (fun c34 => ?_)
        · replace h := if_t h c34
          exact hj27 _ _ _ hH (lv_sub hl [0, 1, 2, 4] rfl) h
        · replace h := if_f h c34
          refine lv_aload_n hx hb dX11_opens_37 rfl (lv_at hl 0 rfl) ?_
          refine gf_X11_43 C hH dX11_opens_38 ?_
          refine lv_aload_n hx hb dX11_opens_41 rfl (lv_at hl 0 rfl) ?_
          refine gf_X11_46 C hH dX11_opens_42 ?_
          refine lv_iload hx hb dX11_opens_45 (lv_at hl 4 rfl) ?_
          obtain ⟨hv31, h⟩ := ck_e h
          refine r_ald C hH ka_45 (by decide) (by decide) (vi_in hv31) dX11_opens_47 ?_
          obtain ⟨hv32, h⟩ := ck_e h
          refine r_ald C hH ka_44 (by decide) (by decide) (vi_in hv32) dX11_opens_48 ?_
          refine lv_if_le (tgt := 56) hx hb dX11_opens_49 (by decide) (fun c33 => ?_) (fun c33 => ?_)
          · replace h := if_t h c33
            exact hj27 _ _ _ hH (lv_sub hl [0, 1, 2, 4] rfl) h
          · replace h := if_f h c33
            refine lv_iconst (v := (1 : Int32)) hx hb dX11_opens_52 (by decide) ?_
            refine lv_goto (tgt := 57) hx hb dX11_opens_53 (by decide) ?_
            exact hj26 _ _ _ _ hH (lv_sub hl [0, 1, 2, 4] rfl) h
set_option maxHeartbeats 4000000 in
set_option maxRecDepth 100000 in
theorem w_X11_opens (C : Cx p s m args meth c cX11_opens 5 RX11 g) (hr : meth.sig.returnType = (some .boolean)) {o : Int32 × sT} {a1 : Int32} {a2 : Int32}  {S : sT} {H : Heap} {locs : List Loc} {ls : Array Slot} (hH : Hp g s S H locs) (hl : lv_has ls 5 [(0, .ref (gad g 10 0)), (1, .int a1), (2, .int a2)]) (h : f_X11_opens a1 a2 S = some o) : W p l e (rmL 5) s m args below meth c H locs 0 0 (Qm g below args s (some (.int o.1)) o.2) (F0 m 0 ls []) := by
  obtain ⟨hx, hb, hml, hown, hts, hlk, hK⟩ := id C
  unfold f_X11_opens at h
  refine lv_aload_n hx hb dX11_opens_0 rfl (lv_at hl 0 rfl) ?_
  refine lv_aload_n hx hb dX11_opens_1 rfl (lv_at hl 0 rfl) ?_
  refine gf_X11_108 C hH dX11_opens_2 ?_
  obtain ⟨S2, hc1, h⟩ := bn_e h
  refine r_callV0 (ki := 10) (i := 0) (ci := 10) (As := [.int (S.1 116 0 0)]) C hl.1 hH (c_X11_lives l g  hc1) q426 q5 q423 q424 q425 nd_X11_lives rfl (by decide) ⟨Nat.zero_le _, Nat.zero_le _⟩ (by decide) (by decide) ⟨_, rfl⟩ rfl (Nat.le_of_ble_eq_true rfl) dX11_opens_5 (fun H locs hH => ?_)
  refine lv_iconst (v := (1 : Int32)) hx hb dX11_opens_8 (by decide) ?_
  refine lv_istore_n (lv' := [(3, .int (1 : Int32)), (0, .ref (gad g 10 0)), (1, .int a1), (2, .int a2)]) hx hb dX11_opens_9 rfl hl (by decide) rfl (fun ls hl => ?_)
  refine lv_iconst (v := (0 : Int32)) hx hb dX11_opens_10 (by decide) ?_
  refine lv_istore (lv' := [(4, .int (0 : Int32)), (3, .int (1 : Int32)), (0, .ref (gad g 10 0)), (1, .int a1), (2, .int a2)]) hx hb dX11_opens_11 hl (by decide) rfl (fun ls hl => ?_)
  obtain ⟨j12, ej12, h⟩ := jn_e h
  have hj12 : ∀ (x3 : Int32) (S4 : sT) (H : Heap) (locs : List Loc) (ls : Array Slot), Hp g s S4 H locs → lv_has ls 5 [(0, .ref (gad g 10 0)), (2, .int a2), (3, .int x3)] → j12 x3 S4 = some o → W p l e (rmL 5) s m args below meth c H locs 0 0 (Qm g below args s (some (.int o.1)) o.2) (F0 m 88 ls []) := by
    intro x3 S4 H locs ls hH hl h
    rw [ej12] at h
    try dsimp only at h
    refine lv_iload_n hx hb dX11_opens_88 rfl (lv_at hl 2 rfl) ?_
    refine lv_if_eq (tgt := 111) hx hb dX11_opens_89 (by decide) (fun c11 => ?_) (fun c11 => ?_)
    · replace h := if_t h c11
      refine lv_iconst (v := (0 : Int32)) hx hb dX11_opens_111 (by decide) ?_
      exact E_bool C hr hH rfl h dX11_opens_112
    · replace h := if_f h c11
      refine lv_aload_n hx hb dX11_opens_92 rfl (lv_at hl 0 rfl) ?_
      obtain ⟨r6, hc5, h⟩ := bn_e h
      refine r_callV1 (ki := 10) (i := 0) (ci := 10) (As := []) C hl.1 hH (c_X11_weakNow l g  hc5) q549 q5 q546 q547 q548 nd_X11_weakNow rfl (by decide) ⟨Nat.zero_le _, Nat.zero_le _⟩ (by decide) (by decide) ⟨_, rfl⟩ rfl (Nat.le_of_ble_eq_true rfl) dX11_opens_93 (fun H locs hH => ?_)
      refine lv_if_ne (tgt := 111) hx hb dX11_opens_96 (by decide) (fun c10 => ?_) (fun c10 => ?_)
      · replace h := if_f h c10
        refine lv_iconst (v := (0 : Int32)) hx hb dX11_opens_111 (by decide) ?_
        exact E_bool C hr hH rfl h dX11_opens_112
      · replace h := if_t h c10
        refine lv_aload_n hx hb dX11_opens_99 rfl (lv_at hl 0 rfl) ?_
        obtain ⟨r8, hc7, h⟩ := bn_e h
        refine r_callV1 (ki := 10) (i := 0) (ci := 10) (As := []) C hl.1 hH (c_X11_pearsNow l g  hc7) q560 q5 q557 q558 q559 nd_X11_pearsNow rfl (by decide) ⟨Nat.zero_le _, Nat.zero_le _⟩ (by decide) (by decide) ⟨_, rfl⟩ rfl (Nat.le_of_ble_eq_true rfl) dX11_opens_100 (fun H locs hH => ?_)
        refine lv_iload_n hx hb dX11_opens_103 rfl (lv_at hl 1 rfl) ?_
        refine lv_icmp_lt (tgt := 111) hx hb dX11_opens_104 (by decide) (fun c9 => ?_) (fun c9 => ?_)
        · replace h := if_t h c9
          refine lv_iconst (v := (0 : Int32)) hx hb dX11_opens_111 (by decide) ?_
          exact E_bool C hr hH rfl h dX11_opens_112
        · replace h := if_f h c9
          refine lv_iconst (v := (1 : Int32)) hx hb dX11_opens_107 (by decide) ?_
          refine lv_goto (tgt := 112) hx hb dX11_opens_108 (by decide) ?_
          exact E_bool C hr hH rfl h dX11_opens_112
  clear ej12
  exact w_X11_opens_13 C hr  j12 hj12 _ _ _ _ _ _ _ hH (lv_sub hl [2, 3, 4, 1, 0] rfl) h
theorem c_X11_opens (l : Launch) (g : gT) {a1 : Int32} {a2 : Int32}  {S : sT} {r : Int32} {S1 : sT} (h : f_X11_opens a1 a2 S = some (r, S1)) : MF l yX11_opens cX11_opens 5 (some .boolean) 5 g [.ref (gad g 10 0), .int a1, .int a2] S (some (.int r)) S1 := by
  refine MF.of (own := RX11) rfl rfl (Nat.le_of_ble_eq_true rfl) ?_
  intro p e s m below meth c C hr hH ls hl
  exact w_X11_opens C hr (o := (r, S1))  hH hl h
theorem nd_X11_planOf : yX11_planOf.cls ≠ "java/lang/invoke/MethodHandle" ∧ yX11_planOf.cls ≠ "java/lang/invoke/VarHandle" ∧ (parseMethodDescriptor yX11_planOf.desc).map (fun d => d.parameters.length) = some 2 := by decide +kernel
def b_X11_planOf_33 (a1 : Int32) (j6 : Int32 → sT → Option (Int32 × sT)) (j9 : Int32 → sT → Option (Int32 × sT)) (x10 : Int32) (j16 : sT → Option (Int32 × sT)) (x17 : Int32) (S18 : sT) (k19 : Int32 → sT → Option (Int32 × sT)) : Option (Int32 × sT) :=
 (if x17 = (0 : Int32) then
 j16 S18
 else
 jn (fun (S20 : sT) => jn (fun (y21 : Int32) => bn2 (f_X11_goesOn x10 y21 S20) (fun r23 S24 =>
 k19 r23 S24))
 (fun j25 => (if a1 = (-1 : Int32) then
 j25 (15 : Int32)
 else
 j25 (7 : Int32))))
 (fun j27 => (if a1 = (-1 : Int32) then
 bn2 (f_X11_mends x10 S18) (fun r33 S34 =>
 (if r33 = (0 : Int32) then
 j27 S34
 else
 j9 x10 S34))
 else
 bn2 (f_X11_opens x10 a1 S18) (fun r29 S30 =>
 (if r29 = (0 : Int32) then
 j27 S30
 else
 j6 x10 S30)))))
def l_X11_planOf_33 (a1 : Int32) (j6 : Int32 → sT → Option (Int32 × sT)) (j9 : Int32 → sT → Option (Int32 × sT)) (x10 : Int32) (j16 : sT → Option (Int32 × sT)) : Nat → Int32 → sT → Option (Int32 × sT)
 | 0, _, _ => none
 | n + 1, x17, S18 => b_X11_planOf_33 a1 j6 j9 x10 j16 x17 S18 (l_X11_planOf_33 a1 j6 j9 x10 j16 n)
theorem l_X11_planOf_33_s (a1 : Int32) (j6 : Int32 → sT → Option (Int32 × sT)) (j9 : Int32 → sT → Option (Int32 × sT)) (x10 : Int32) (j16 : sT → Option (Int32 × sT)) (n : Nat) (x17 : Int32) (S18 : sT) : l_X11_planOf_33 a1 j6 j9 x10 j16 (n + 1) x17 S18 = b_X11_planOf_33 a1 j6 j9 x10 j16 x17 S18 (l_X11_planOf_33 a1 j6 j9 x10 j16 n) := rfl
def b_X11_planOf_13 (j38 : sT → Option (Int32 × sT)) (x39 : Int32) (S40 : sT) (k41 : Int32 → sT → Option (Int32 × sT)) : Option (Int32 × sT) :=
 (if (3 : Int32) ≤ x39 then
 j38 S40
 else
 ck (vi x39 3) (
 lt (us S40 45 0 (cl x39) (0 : Int32)) (fun S43 =>
 lt (x39 + (1 : Int32)) (fun x44 =>
 k41 x44 S43))))
def l_X11_planOf_13 (j38 : sT → Option (Int32 × sT)) : Nat → Int32 → sT → Option (Int32 × sT)
 | 0, _, _ => none
 | n + 1, x39, S40 => b_X11_planOf_13 j38 x39 S40 (l_X11_planOf_13 j38 n)
theorem l_X11_planOf_13_s (j38 : sT → Option (Int32 × sT)) (n : Nat) (x39 : Int32) (S40 : sT) : l_X11_planOf_13 j38 (n + 1) x39 S40 = b_X11_planOf_13 j38 x39 S40 (l_X11_planOf_13 j38 n) := rfl
def b_X11_planOf_2 (a1 : Int32) (j6 : Int32 → sT → Option (Int32 × sT)) (j9 : Int32 → sT → Option (Int32 × sT)) (x10 : Int32) (S11 : sT) (k12 : Int32 → sT → Option (Int32 × sT)) : Option (Int32 × sT) :=
 (if (4 : Int32) ≤ x10 then
 some ((-1 : Int32), S11)
 else
 jn (fun (S13 : sT) => jn (fun (S14 : sT) => lt (x10 + (1 : Int32)) (fun x15 =>
 k12 x15 S14))
 (fun j16 => l_X11_planOf_33 a1 j6 j9 x10 j16 FU (1 : Int32) S13))
 (fun j38 => l_X11_planOf_13 j38 FU (0 : Int32) S11))
def l_X11_planOf_2 (a1 : Int32) (j6 : Int32 → sT → Option (Int32 × sT)) (j9 : Int32 → sT → Option (Int32 × sT)) : Nat → Int32 → sT → Option (Int32 × sT)
 | 0, _, _ => none
 | n + 1, x10, S11 => b_X11_planOf_2 a1 j6 j9 x10 S11 (l_X11_planOf_2 a1 j6 j9 n)
theorem l_X11_planOf_2_s (a1 : Int32) (j6 : Int32 → sT → Option (Int32 × sT)) (j9 : Int32 → sT → Option (Int32 × sT)) (n : Nat) (x10 : Int32) (S11 : sT) : l_X11_planOf_2 a1 j6 j9 (n + 1) x10 S11 = b_X11_planOf_2 a1 j6 j9 x10 S11 (l_X11_planOf_2 a1 j6 j9 n) := rfl
def f_X11_planOf (a1 : Int32) (a2 : Int32) (S : sT) : Option (Int32 × sT) :=
 jn (fun (x1 : Int32) (S2 : sT) => (if a2 = (-1 : Int32) then
 some (x1, S2)
 else
 (if x1 ≤ a2 then
 some ((-1 : Int32), S2)
 else
 ck (vi a2 3) (
 some ((S2.1 45 0 (cl a2)), S2)))))
 (fun j6 => jn (fun (x7 : Int32) (S8 : sT) => j6 x7 S8)
 (fun j9 => l_X11_planOf_2 a1 j6 j9 FU (0 : Int32) S))
set_option maxHeartbeats 4000000 in
set_option maxRecDepth 100000 in
theorem w_X11_planOf_33 (C : Cx p s m args meth c cX11_planOf 6 RX11 g) (hr : meth.sig.returnType = (some .int)) {o : Int32 × sT}  {a1 : Int32} {a2 : Int32} {x10 : Int32}  (j6 : Int32 → sT → Option (Int32 × sT)) (hj6 : ∀ (x1 : Int32) (S2 : sT) (H : Heap) (locs : List Loc) (ls : Array Slot), Hp g s S2 H locs → lv_has ls 6 [(0, .ref (gad g 10 0)), (2, .int a2), (3, .int x1)] → j6 x1 S2 = some o → W p l e (rmL 6) s m args below meth c H locs 0 0 (Qm g below args s (some (.int o.1)) o.2) (F0 m 63 ls [])) (j9 : Int32 → sT → Option (Int32 × sT)) (hj9 : ∀ (x7 : Int32) (S8 : sT) (H : Heap) (locs : List Loc) (ls : Array Slot), Hp g s S8 H locs → lv_has ls 6 [(0, .ref (gad g 10 0)), (2, .int a2), (3, .int x7)] → j9 x7 S8 = some o → W p l e (rmL 6) s m args below meth c H locs 0 0 (Qm g below args s (some (.int o.1)) o.2) (F0 m 51 ls [])) (j16 : sT → Option (Int32 × sT)) (hj16 : ∀ (S14 : sT) (H : Heap) (locs : List Loc) (ls : Array Slot), Hp g s S14 H locs → lv_has ls 6 [(0, .ref (gad g 10 0)), (1, .int a1), (2, .int a2), (3, .int x10)] → j16 S14 = some o → W p l e (rmL 6) s m args below meth c H locs 0 0 (Qm g below args s (some (.int o.1)) o.2) (F0 m 110 ls [])) : ∀ (n : Nat) (x17 : Int32) (S18 : sT) (H : Heap) (locs : List Loc) (ls : Array Slot), Hp g s S18 H locs → lv_has ls 6 [(0, .ref (gad g 10 0)), (1, .int a1), (2, .int a2), (3, .int x10), (4, .int x17)] → l_X11_planOf_33 a1 j6 j9 x10 j16 n x17 S18 = some o → W p l e (rmL 6) s m args below meth c H locs 0 0 (Qm g below args s (some (.int o.1)) o.2) (F0 m 33 ls []) := by
  obtain ⟨hx, hb, hml, hown, hts, hlk, hK⟩ := id C
  intro n
  induction n with
  | zero =>
    intro x17 S18 H locs ls hH hl h
    cases h
  | succ n ih =>
    intro x17 S18 H locs ls hH hl h
    rw [l_X11_planOf_33_s] at h
    unfold b_X11_planOf_33 at h
    refine lv_iload hx hb dX11_planOf_33 (lv_at hl 4 rfl) ?_
    refine lv_if_eq (tgt := 110) hx hb dX11_planOf_35 (by decide) (fun c37 => ?_) (fun c37 => ?_)
    · replace h := if_t h c37
      exact hj16 _ _ _ _ hH (lv_sub hl [0, 1, 2, 3] rfl) h
    · replace h := if_f h c37
      refine lv_iload_n hx hb dX11_planOf_38 rfl (lv_at hl 1 rfl) ?_
      refine lv_iconst (v := (-1 : Int32)) hx hb dX11_planOf_39 (by decide) ?_
      obtain ⟨j27, ej27, h⟩ := jn_e h
      have hj27 : ∀ (S20 : sT) (H : Heap) (locs : List Loc) (ls : Array Slot), Hp g s S20 H locs → lv_has ls 6 [(0, .ref (gad g 10 0)), (1, .int a1), (2, .int a2), (3, .int x10)] → j27 S20 = some o → W p l e (rmL 6) s m args below meth c H locs 0 0 (Qm g below args s (some (.int o.1)) o.2) (F0 m 88 ls []) := by
        intro S20 H locs ls hH hl h
        rw [ej27] at h
        try dsimp only at h
        refine lv_aload_n hx hb dX11_planOf_88 rfl (lv_at hl 0 rfl) ?_
        refine lv_iload_n hx hb dX11_planOf_89 rfl (lv_at hl 3 rfl) ?_
        refine lv_iload_n hx hb dX11_planOf_90 rfl (lv_at hl 1 rfl) ?_
        refine lv_iconst (v := (-1 : Int32)) hx hb dX11_planOf_91 (by decide) ?_
        obtain ⟨j25, ej25, h⟩ := jn_e h
        have hj25 : ∀ (y21 : Int32) (H : Heap) (locs : List Loc) (ls : Array Slot), Hp g s S20 H locs → lv_has ls 6 [(0, .ref (gad g 10 0)), (1, .int a1), (2, .int a2), (3, .int x10)] → j25 y21 = some o → W p l e (rmL 6) s m args below meth c H locs 0 0 (Qm g below args s (some (.int o.1)) o.2) (F0 m 102 ls [.int y21, .int x10, .ref (gad g 10 0)]) := by
          intro y21 H locs ls hH hl h
          rw [ej25] at h
          try dsimp only at h
          obtain ⟨r23, S24, hc22, h⟩ := bn2_e h
          refine r_callV1 (ki := 10) (i := 0) (ci := 10) (As := [.int x10, .int y21]) C hl.1 hH (c_X11_goesOn l g  hc22) q679 q5 q676 q677 q678 nd_X11_goesOn rfl (by decide) ⟨Nat.zero_le _, Nat.zero_le _⟩ (by decide) (by decide) ⟨_, rfl⟩ rfl (Nat.le_of_ble_eq_true rfl) dX11_planOf_102 (fun H locs hH => ?_)
          refine lv_istore (lv' := [(4, .int r23), (0, .ref (gad g 10 0)), (1, .int a1), (2, .int a2), (3, .int x10)]) hx hb dX11_planOf_105 hl (by decide) rfl (fun ls hl => ?_)
          refine lv_goto (tgt := 33) hx hb dX11_planOf_107 (by decide) ?_
          exact ih _ _ _ _ _ hH (lv_sub hl [1, 2, 3, 4, 0] rfl) h
        clear ej25
        refine lv_icmp_ne (tgt := 100) hx hb dX11_planOf_92 (by decide) (fun c26 => ?_) (fun c26 => ?_)
        · replace h := if_f h c26
          refine lv_bipush (v := (7 : Int32)) hx hb dX11_planOf_100 (by decide) ?_
          exact hj25 _ _ _ _ hH (lv_sub hl [0, 1, 2, 3] rfl) h
        · replace h := if_t h c26
          refine lv_bipush (v := (15 : Int32)) hx hb dX11_planOf_95 (by decide) ?_
          refine lv_goto (tgt := 102) hx hb dX11_planOf_97 (by decide) ?_
          exact hj25 _ _ _ _ hH (lv_sub hl [0, 1, 2, 3] rfl) h
      clear ej27
      refine lv_icmp_ne (tgt := 54) hx hb dX11_planOf_40 (by decide) (fun c36 => ?_) (fun c36 => ?_)
      · replace h := if_f h c36
        refine lv_aload_n hx hb dX11_planOf_54 rfl (lv_at hl 0 rfl) ?_
        refine lv_iload_n hx hb dX11_planOf_55 rfl (lv_at hl 3 rfl) ?_
        refine lv_iload_n hx hb dX11_planOf_56 rfl (lv_at hl 1 rfl) ?_
        obtain ⟨r29, S30, hc28, h⟩ := bn2_e h
        refine r_callV1 (ki := 10) (i := 0) (ci := 10) (As := [.int x10, .int a1]) C hl.1 hH (c_X11_opens l g  hc28) q675 q5 q672 q673 q674 nd_X11_opens rfl (by decide) ⟨Nat.zero_le _, Nat.zero_le _⟩ (by decide) (by decide) ⟨_, rfl⟩ rfl (Nat.le_of_ble_eq_true rfl) dX11_planOf_57 (fun H locs hH => ?_)
        refine lv_if_eq (tgt := 88) hx hb dX11_planOf_60 (by decide) (fun c31 => ?_) (fun c31 => ?_)
        · replace h := if_t h c31
          exact hj27 _ _ _ _ hH (lv_sub hl [0, 1, 2, 3] rfl) h
        · replace h := if_f h c31
          exact hj6 _ _ _ _ _ hH (lv_sub hl [0, 2, 3] rfl) h
      · replace h := if_t h c36
        refine lv_aload_n hx hb dX11_planOf_43 rfl (lv_at hl 0 rfl) ?_
        refine lv_iload_n hx hb dX11_planOf_44 rfl (lv_at hl 3 rfl) ?_
        obtain ⟨r33, S34, hc32, h⟩ := bn2_e h
        refine r_callV1 (ki := 10) (i := 0) (ci := 10) (As := [.int x10]) C hl.1 hH (c_X11_mends l g  hc32) q671 q5 q668 q669 q670 nd_X11_mends rfl (by decide) ⟨Nat.zero_le _, Nat.zero_le _⟩ (by decide) (by decide) ⟨_, rfl⟩ rfl (Nat.le_of_ble_eq_true rfl) dX11_planOf_45 (fun H locs hH => ?_)
        refine lv_if_eq (tgt := 88) hx hb dX11_planOf_48 (by decide) (fun c35 => ?_) (fun c35 => ?_)
        · replace h := if_t h c35
          exact hj27 _ _ _ _ hH (lv_sub hl [0, 1, 2, 3] rfl) h
        · replace h := if_f h c35
          exact hj9 _ _ _ _ _ hH (lv_sub hl [0, 2, 3] rfl) h
set_option maxHeartbeats 4000000 in
set_option maxRecDepth 100000 in
theorem w_X11_planOf_13 (C : Cx p s m args meth c cX11_planOf 6 RX11 g) (hr : meth.sig.returnType = (some .int)) {o : Int32 × sT}  {a1 : Int32} {a2 : Int32} {x10 : Int32}  (j38 : sT → Option (Int32 × sT)) (hj38 : ∀ (S13 : sT) (H : Heap) (locs : List Loc) (ls : Array Slot), Hp g s S13 H locs → lv_has ls 6 [(0, .ref (gad g 10 0)), (1, .int a1), (2, .int a2), (3, .int x10), (4, .int (1 : Int32))] → j38 S13 = some o → W p l e (rmL 6) s m args below meth c H locs 0 0 (Qm g below args s (some (.int o.1)) o.2) (F0 m 33 ls [])) : ∀ (n : Nat) (x39 : Int32) (S40 : sT) (H : Heap) (locs : List Loc) (ls : Array Slot), Hp g s S40 H locs → lv_has ls 6 [(0, .ref (gad g 10 0)), (1, .int a1), (2, .int a2), (3, .int x10), (4, .int (1 : Int32)), (5, .int x39)] → l_X11_planOf_13 j38 n x39 S40 = some o → W p l e (rmL 6) s m args below meth c H locs 0 0 (Qm g below args s (some (.int o.1)) o.2) (F0 m 13 ls []) := by
  obtain ⟨hx, hb, hml, hown, hts, hlk, hK⟩ := id C
  intro n
  induction n with
  | zero =>
    intro x39 S40 H locs ls hH hl h
    cases h
  | succ n ih =>
    intro x39 S40 H locs ls hH hl h
    rw [l_X11_planOf_13_s] at h
    unfold b_X11_planOf_13 at h
    refine lv_iload hx hb dX11_planOf_13 (lv_at hl 5 rfl) ?_
    refine lv_iconst (v := (3 : Int32)) hx hb dX11_planOf_15 (by decide) ?_
    refine lv_icmp_ge (tgt := 33) hx hb dX11_planOf_16 (by decide) (fun c45 => ?_) (fun c45 => ?_)
    · replace h := if_t h c45
      exact hj38 _ _ _ _ hH (lv_sub hl [0, 1, 2, 3, 4] rfl) h
    · replace h := if_f h c45
      refine lv_aload_n hx hb dX11_planOf_19 rfl (lv_at hl 0 rfl) ?_
      refine gf_X11_46 C hH dX11_planOf_20 ?_
      refine lv_iload hx hb dX11_planOf_23 (lv_at hl 5 rfl) ?_
      refine lv_iconst (v := (0 : Int32)) hx hb dX11_planOf_25 (by decide) ?_
      obtain ⟨hv42, h⟩ := ck_e h
      refine r_ast C hH ka_45 ko_45 (by decide) (by decide) (vi_in hv42) dX11_planOf_26 (fun S43 H locs eS hH => ?_)
      replace h := lt_e h eS
      obtain ⟨x44, ex44⟩ : ∃ z : Int32, z = (x39 + (1 : Int32)) := ⟨_, rfl⟩
      replace h := lt_e h ex44
      refine lv_iinc (v := x44) (lv' := [(5, .int x44), (0, .ref (gad g 10 0)), (1, .int a1), (2, .int a2), (3, .int x10), (4, .int (1 : Int32))]) hx hb dX11_planOf_27 hl (k := 5) rfl (by rw [ex44]; rfl) (by decide) rfl (fun ls hl => ?_)
      refine lv_goto (tgt := 13) hx hb dX11_planOf_30 (by decide) ?_
      exact ih _ _ _ _ _ hH (lv_sub hl [1, 2, 3, 4, 5, 0] rfl) h
set_option maxHeartbeats 4000000 in
set_option maxRecDepth 100000 in
theorem w_X11_planOf_2 (C : Cx p s m args meth c cX11_planOf 6 RX11 g) (hr : meth.sig.returnType = (some .int)) {o : Int32 × sT}  {a1 : Int32} {a2 : Int32}  (j6 : Int32 → sT → Option (Int32 × sT)) (hj6 : ∀ (x1 : Int32) (S2 : sT) (H : Heap) (locs : List Loc) (ls : Array Slot), Hp g s S2 H locs → lv_has ls 6 [(0, .ref (gad g 10 0)), (2, .int a2), (3, .int x1)] → j6 x1 S2 = some o → W p l e (rmL 6) s m args below meth c H locs 0 0 (Qm g below args s (some (.int o.1)) o.2) (F0 m 63 ls [])) (j9 : Int32 → sT → Option (Int32 × sT)) (hj9 : ∀ (x7 : Int32) (S8 : sT) (H : Heap) (locs : List Loc) (ls : Array Slot), Hp g s S8 H locs → lv_has ls 6 [(0, .ref (gad g 10 0)), (2, .int a2), (3, .int x7)] → j9 x7 S8 = some o → W p l e (rmL 6) s m args below meth c H locs 0 0 (Qm g below args s (some (.int o.1)) o.2) (F0 m 51 ls [])) : ∀ (n : Nat) (x10 : Int32) (S11 : sT) (H : Heap) (locs : List Loc) (ls : Array Slot), Hp g s S11 H locs → lv_has ls 6 [(0, .ref (gad g 10 0)), (1, .int a1), (2, .int a2), (3, .int x10)] → l_X11_planOf_2 a1 j6 j9 n x10 S11 = some o → W p l e (rmL 6) s m args below meth c H locs 0 0 (Qm g below args s (some (.int o.1)) o.2) (F0 m 2 ls []) := by
  obtain ⟨hx, hb, hml, hown, hts, hlk, hK⟩ := id C
  intro n
  induction n with
  | zero =>
    intro x10 S11 H locs ls hH hl h
    cases h
  | succ n ih =>
    intro x10 S11 H locs ls hH hl h
    rw [l_X11_planOf_2_s] at h
    unfold b_X11_planOf_2 at h
    refine lv_iload_n hx hb dX11_planOf_2 rfl (lv_at hl 3 rfl) ?_
    refine lv_iconst (v := (4 : Int32)) hx hb dX11_planOf_3 (by decide) ?_
    refine lv_icmp_ge (tgt := 116) hx hb dX11_planOf_4 (by decide) (fun c46 => ?_) (fun c46 => ?_)
    · replace h := if_t h c46
      refine lv_iconst (v := (-1 : Int32)) hx hb dX11_planOf_116 (by decide) ?_
      exact E_int C hr hH h dX11_planOf_117
    · replace h := if_f h c46
      refine lv_iconst (v := (1 : Int32)) hx hb dX11_planOf_7 (by decide) ?_
      refine lv_istore (lv' := [(4, .int (1 : Int32)), (0, .ref (gad g 10 0)), (1, .int a1), (2, .int a2), (3, .int x10)]) hx hb dX11_planOf_8 hl (by decide) rfl (fun ls hl => ?_)
      refine lv_iconst (v := (0 : Int32)) hx hb dX11_planOf_10 (by decide) ?_
      refine lv_istore (lv' := [(5, .int (0 : Int32)), (4, .int (1 : Int32)), (0, .ref (gad g 10 0)), (1, .int a1), (2, .int a2), (3, .int x10)]) hx hb dX11_planOf_11 hl (by decide) rfl (fun ls hl => ?_)
      obtain ⟨j38, ej38, h⟩ := jn_e h
      have hj38 : ∀ (S13 : sT) (H : Heap) (locs : List Loc) (ls : Array Slot), Hp g s S13 H locs → lv_has ls 6 [(0, .ref (gad g 10 0)), (1, .int a1), (2, .int a2), (3, .int x10), (4, .int (1 : Int32))] → j38 S13 = some o → W p l e (rmL 6) s m args below meth c H locs 0 0 (Qm g below args s (some (.int o.1)) o.2) (F0 m 33 ls []) := by
        intro S13 H locs ls hH hl h
        rw [ej38] at h
        try dsimp only at h
        obtain ⟨j16, ej16, h⟩ := jn_e h
        have hj16 : ∀ (S14 : sT) (H : Heap) (locs : List Loc) (ls : Array Slot), Hp g s S14 H locs → lv_has ls 6 [(0, .ref (gad g 10 0)), (1, .int a1), (2, .int a2), (3, .int x10)] → j16 S14 = some o → W p l e (rmL 6) s m args below meth c H locs 0 0 (Qm g below args s (some (.int o.1)) o.2) (F0 m 110 ls []) := by
          intro S14 H locs ls hH hl h
          rw [ej16] at h
          try dsimp only at h
          obtain ⟨x15, ex15⟩ : ∃ z : Int32, z = (x10 + (1 : Int32)) := ⟨_, rfl⟩
          replace h := lt_e h ex15
          refine lv_iinc (v := x15) (lv' := [(3, .int x15), (0, .ref (gad g 10 0)), (1, .int a1), (2, .int a2)]) hx hb dX11_planOf_110 hl (k := 3) rfl (by rw [ex15]; rfl) (by decide) rfl (fun ls hl => ?_)
          refine lv_goto (tgt := 2) hx hb dX11_planOf_113 (by decide) ?_
          exact ih _ _ _ _ _ hH (lv_sub hl [1, 2, 3, 0] rfl) h
        clear ej16
        exact w_X11_planOf_33 C hr  j6 hj6 j9 hj9 j16 hj16 _ _ _ _ _ _ hH (lv_sub hl [0, 1, 2, 3, 4] rfl) h
      clear ej38
      exact w_X11_planOf_13 C hr  j38 hj38 _ _ _ _ _ _ hH (lv_sub hl [2, 3, 4, 5, 1, 0] rfl) h
set_option maxHeartbeats 4000000 in
set_option maxRecDepth 100000 in
theorem w_X11_planOf (C : Cx p s m args meth c cX11_planOf 6 RX11 g) (hr : meth.sig.returnType = (some .int)) {o : Int32 × sT} {a1 : Int32} {a2 : Int32}  {S : sT} {H : Heap} {locs : List Loc} {ls : Array Slot} (hH : Hp g s S H locs) (hl : lv_has ls 6 [(0, .ref (gad g 10 0)), (1, .int a1), (2, .int a2)]) (h : f_X11_planOf a1 a2 S = some o) : W p l e (rmL 6) s m args below meth c H locs 0 0 (Qm g below args s (some (.int o.1)) o.2) (F0 m 0 ls []) := by
  obtain ⟨hx, hb, hml, hown, hts, hlk, hK⟩ := id C
  unfold f_X11_planOf at h
  refine lv_iconst (v := (0 : Int32)) hx hb dX11_planOf_0 (by decide) ?_
  refine lv_istore_n (lv' := [(3, .int (0 : Int32)), (0, .ref (gad g 10 0)), (1, .int a1), (2, .int a2)]) hx hb dX11_planOf_1 rfl hl (by decide) rfl (fun ls hl => ?_)
  obtain ⟨j6, ej6, h⟩ := jn_e h
  have hj6 : ∀ (x1 : Int32) (S2 : sT) (H : Heap) (locs : List Loc) (ls : Array Slot), Hp g s S2 H locs → lv_has ls 6 [(0, .ref (gad g 10 0)), (2, .int a2), (3, .int x1)] → j6 x1 S2 = some o → W p l e (rmL 6) s m args below meth c H locs 0 0 (Qm g below args s (some (.int o.1)) o.2) (F0 m 63 ls []) := by
    intro x1 S2 H locs ls hH hl h
    rw [ej6] at h
    try dsimp only at h
    refine lv_iload_n hx hb dX11_planOf_63 rfl (lv_at hl 1 rfl) ?_
    refine lv_iconst (v := (-1 : Int32)) hx hb dX11_planOf_64 (by decide) ?_
    refine lv_icmp_ne (tgt := 72) hx hb dX11_planOf_65 (by decide) (fun c5 => ?_) (fun c5 => ?_)
    · replace h := if_f h c5
      refine lv_iload_n hx hb dX11_planOf_72 rfl (lv_at hl 1 rfl) ?_
      refine lv_iload_n hx hb dX11_planOf_73 rfl (lv_at hl 2 rfl) ?_
      refine lv_icmp_ge (tgt := 86) hx hb dX11_planOf_74 (by decide) (fun c4 => ?_) (fun c4 => ?_)
      · replace h := if_t h c4
        refine lv_iconst (v := (-1 : Int32)) hx hb dX11_planOf_86 (by decide) ?_
        exact E_int C hr hH h dX11_planOf_87
      · replace h := if_f h c4
        refine lv_aload_n hx hb dX11_planOf_77 rfl (lv_at hl 0 rfl) ?_
        refine gf_X11_46 C hH dX11_planOf_78 ?_
        refine lv_iload_n hx hb dX11_planOf_81 rfl (lv_at hl 1 rfl) ?_
        obtain ⟨hv3, h⟩ := ck_e h
        refine r_ald C hH ka_45 (by decide) (by decide) (vi_in hv3) dX11_planOf_82 ?_
        refine lv_goto (tgt := 87) hx hb dX11_planOf_83 (by decide) ?_
        exact E_int C hr hH h dX11_planOf_87
    · replace h := if_t h c5
      refine lv_iload_n hx hb dX11_planOf_68 rfl (lv_at hl 2 rfl) ?_
      refine lv_goto (tgt := 87) hx hb dX11_planOf_69 (by decide) ?_
      exact E_int C hr hH h dX11_planOf_87
  clear ej6
  obtain ⟨j9, ej9, h⟩ := jn_e h
  have hj9 : ∀ (x7 : Int32) (S8 : sT) (H : Heap) (locs : List Loc) (ls : Array Slot), Hp g s S8 H locs → lv_has ls 6 [(0, .ref (gad g 10 0)), (2, .int a2), (3, .int x7)] → j9 x7 S8 = some o → W p l e (rmL 6) s m args below meth c H locs 0 0 (Qm g below args s (some (.int o.1)) o.2) (F0 m 51 ls []) := by
    intro x7 S8 H locs ls hH hl h
    rw [ej9] at h
    try dsimp only at h
    refine lv_goto (tgt := 63) hx hb dX11_planOf_51 (by decide) ?_
    exact hj6 _ _ _ _ _ hH (lv_sub hl [0, 1, 2] rfl) h
  clear ej9
  exact w_X11_planOf_2 C hr  j6 hj6 j9 hj9 _ _ _ _ _ _ hH (lv_sub hl [1, 2, 3, 0] rfl) h
theorem c_X11_planOf (l : Launch) (g : gT) {a1 : Int32} {a2 : Int32}  {S : sT} {r : Int32} {S1 : sT} (h : f_X11_planOf a1 a2 S = some (r, S1)) : MF l yX11_planOf cX11_planOf 6 (some .int) 6 g [.ref (gad g 10 0), .int a1, .int a2] S (some (.int r)) S1 := by
  refine MF.of (own := RX11) rfl rfl (Nat.le_of_ble_eq_true rfl) ?_
  intro p e s m below meth c C hr hH ls hl
  exact w_X11_planOf C hr (o := (r, S1))  hH hl h
theorem nd_X11_mend : yX11_mend.cls ≠ "java/lang/invoke/MethodHandle" ∧ yX11_mend.cls ≠ "java/lang/invoke/VarHandle" ∧ (parseMethodDescriptor yX11_mend.desc).map (fun d => d.parameters.length) = some 1 := by decide +kernel
def f_X11_mend (a1 : Int32) (S : sT) : Option (Int32 × sT) :=
 bn (f_X11_reads  S) (fun S2 =>
 bn (f_X11_in ((a1).toInt64) (-1 : Int64) (2 : Int64) S2) (fun r4 =>
 (if r4 = (0 : Int32) then
 some ((-2 : Int32), S2)
 else
 bn2 (f_X11_planOf (-1 : Int32) a1 S2) (fun r6 S7 =>
 some (r6, S7)))))
set_option maxHeartbeats 4000000 in
set_option maxRecDepth 100000 in
theorem w_X11_mend (C : Cx p s m args meth c cX11_mend 2 RX11 g) (hr : meth.sig.returnType = (some .int)) {o : Int32 × sT} {a1 : Int32}  {S : sT} {H : Heap} {locs : List Loc} {ls : Array Slot} (hH : Hp g s S H locs) (hl : lv_has ls 2 [(0, .ref (gad g 10 0)), (1, .int a1)]) (h : f_X11_mend a1 S = some o) : W p l e (rmL 7) s m args below meth c H locs 0 0 (Qm g below args s (some (.int o.1)) o.2) (F0 m 0 ls []) := by
  obtain ⟨hx, hb, hml, hown, hts, hlk, hK⟩ := id C
  unfold f_X11_mend at h
  refine lv_aload_n hx hb dX11_mend_0 rfl (lv_at hl 0 rfl) ?_
  obtain ⟨S2, hc1, h⟩ := bn_e h
  refine r_callV0 (ki := 10) (i := 0) (ci := 10) (As := []) C hl.1 hH (c_X11_reads l g  hc1) q410 q5 q407 q408 q409 nd_X11_reads rfl (by decide) ⟨Nat.zero_le _, Nat.zero_le _⟩ (by decide) (by decide) ⟨_, rfl⟩ rfl (Nat.le_of_ble_eq_true rfl) dX11_mend_1 (fun H locs hH => ?_)
  refine lv_iload_n hx hb dX11_mend_4 rfl (lv_at hl 1 rfl) ?_
  refine lv_i2l hx hb dX11_mend_5 rfl ?_
  refine lv_ldc2 (v := (-1 : Int64)) hx hb hown (hts _ q494) dX11_mend_6 ?_
  refine lv_ldc2 (v := (2 : Int64)) hx hb hown (hts _ q590) dX11_mend_9 ?_
  obtain ⟨r4, hc3, h⟩ := bn_e h
  refine r_callS1 (As := [.long ((a1).toInt64), .long (-1 : Int64), .long (2 : Int64)]) C hl.1 hH (c_X11_in l g  hc3) q307 q5 q305 q306 nd_X11_in rfl (by decide) ⟨Nat.zero_le _, Nat.zero_le _⟩ (Nat.le_of_ble_eq_true rfl) dX11_mend_12 (fun H locs hH => ?_)
  refine lv_if_eq (tgt := 27) hx hb dX11_mend_15 (by decide) (fun c8 => ?_) (fun c8 => ?_)
  · replace h := if_t h c8
    refine lv_bipush (v := (-2 : Int32)) hx hb dX11_mend_27 (by decide) ?_
    exact E_int C hr hH h dX11_mend_29
  · replace h := if_f h c8
    refine lv_aload_n hx hb dX11_mend_18 rfl (lv_at hl 0 rfl) ?_
    refine lv_iconst (v := (-1 : Int32)) hx hb dX11_mend_19 (by decide) ?_
    refine lv_iload_n hx hb dX11_mend_20 rfl (lv_at hl 1 rfl) ?_
    obtain ⟨r6, S7, hc5, h⟩ := bn2_e h
    refine r_callV1 (ki := 10) (i := 0) (ci := 10) (As := [.int (-1 : Int32), .int a1]) C hl.1 hH (c_X11_planOf l g  hc5) q667 q5 q664 q665 q666 nd_X11_planOf rfl (by decide) ⟨Nat.zero_le _, Nat.zero_le _⟩ (by decide) (by decide) ⟨_, rfl⟩ rfl (Nat.le_of_ble_eq_true rfl) dX11_mend_21 (fun H locs hH => ?_)
    refine lv_goto (tgt := 29) hx hb dX11_mend_24 (by decide) ?_
    exact E_int C hr hH h dX11_mend_29
theorem c_X11_mend (l : Launch) (g : gT) {a1 : Int32}  {S : sT} {r : Int32} {S1 : sT} (h : f_X11_mend a1 S = some (r, S1)) : MF l yX11_mend cX11_mend 2 (some .int) 7 g [.ref (gad g 10 0), .int a1] S (some (.int r)) S1 := by
  refine MF.of (own := RX11) rfl rfl (Nat.le_of_ble_eq_true rfl) ?_
  intro p e s m below meth c C hr hH ls hl
  exact w_X11_mend C hr (o := (r, S1))  hH hl h
theorem nd_X11_open : yX11_open.cls ≠ "java/lang/invoke/MethodHandle" ∧ yX11_open.cls ≠ "java/lang/invoke/VarHandle" ∧ (parseMethodDescriptor yX11_open.desc).map (fun d => d.parameters.length) = some 2 := by decide +kernel
def f_X11_open (a1 : Int32) (a2 : Int32) (S : sT) : Option (Int32 × sT) :=
 bn (f_X11_reads  S) (fun S2 =>
 bn (f_X11_in ((a1).toInt64) (0 : Int64) (8 : Int64) S2) (fun r4 =>
 (if r4 = (0 : Int32) then
 some ((-2 : Int32), S2)
 else
 bn (f_X11_in ((a2).toInt64) (-1 : Int64) (2 : Int64) S2) (fun r6 =>
 (if r6 = (0 : Int32) then
 some ((-2 : Int32), S2)
 else
 bn2 (f_X11_planOf a1 a2 S2) (fun r8 S9 =>
 some (r8, S9)))))))
set_option maxHeartbeats 4000000 in
set_option maxRecDepth 100000 in
theorem w_X11_open (C : Cx p s m args meth c cX11_open 3 RX11 g) (hr : meth.sig.returnType = (some .int)) {o : Int32 × sT} {a1 : Int32} {a2 : Int32}  {S : sT} {H : Heap} {locs : List Loc} {ls : Array Slot} (hH : Hp g s S H locs) (hl : lv_has ls 3 [(0, .ref (gad g 10 0)), (1, .int a1), (2, .int a2)]) (h : f_X11_open a1 a2 S = some o) : W p l e (rmL 7) s m args below meth c H locs 0 0 (Qm g below args s (some (.int o.1)) o.2) (F0 m 0 ls []) := by
  obtain ⟨hx, hb, hml, hown, hts, hlk, hK⟩ := id C
  unfold f_X11_open at h
  refine lv_aload_n hx hb dX11_open_0 rfl (lv_at hl 0 rfl) ?_
  obtain ⟨S2, hc1, h⟩ := bn_e h
  refine r_callV0 (ki := 10) (i := 0) (ci := 10) (As := []) C hl.1 hH (c_X11_reads l g  hc1) q410 q5 q407 q408 q409 nd_X11_reads rfl (by decide) ⟨Nat.zero_le _, Nat.zero_le _⟩ (by decide) (by decide) ⟨_, rfl⟩ rfl (Nat.le_of_ble_eq_true rfl) dX11_open_1 (fun H locs hH => ?_)
  refine lv_iload_n hx hb dX11_open_4 rfl (lv_at hl 1 rfl) ?_
  refine lv_i2l hx hb dX11_open_5 rfl ?_
  refine lv_lconst (v := (0 : Int64)) hx hb dX11_open_6 (by decide) ?_
  refine lv_ldc2 (v := (8 : Int64)) hx hb hown (hts _ q700) dX11_open_7 ?_
  obtain ⟨r4, hc3, h⟩ := bn_e h
  refine r_callS1 (As := [.long ((a1).toInt64), .long (0 : Int64), .long (8 : Int64)]) C hl.1 hH (c_X11_in l g  hc3) q307 q5 q305 q306 nd_X11_in rfl (by decide) ⟨Nat.zero_le _, Nat.zero_le _⟩ (Nat.le_of_ble_eq_true rfl) dX11_open_10 (fun H locs hH => ?_)
  refine lv_if_eq (tgt := 39) hx hb dX11_open_13 (by decide) (fun c11 => ?_) (fun c11 => ?_)
  · replace h := if_t h c11
    refine lv_bipush (v := (-2 : Int32)) hx hb dX11_open_39 (by decide) ?_
    exact E_int C hr hH h dX11_open_41
  · replace h := if_f h c11
    refine lv_iload_n hx hb dX11_open_16 rfl (lv_at hl 2 rfl) ?_
    refine lv_i2l hx hb dX11_open_17 rfl ?_
    refine lv_ldc2 (v := (-1 : Int64)) hx hb hown (hts _ q494) dX11_open_18 ?_
    refine lv_ldc2 (v := (2 : Int64)) hx hb hown (hts _ q590) dX11_open_21 ?_
    obtain ⟨r6, hc5, h⟩ := bn_e h
    refine r_callS1 (As := [.long ((a2).toInt64), .long (-1 : Int64), .long (2 : Int64)]) C hl.1 hH (c_X11_in l g  hc5) q307 q5 q305 q306 nd_X11_in rfl (by decide) ⟨Nat.zero_le _, Nat.zero_le _⟩ (Nat.le_of_ble_eq_true rfl) dX11_open_24 (fun H locs hH => ?_)
    refine lv_if_eq (tgt := 39) hx hb dX11_open_27 (by decide) (fun c10 => ?_) (fun c10 => ?_)
    · replace h := if_t h c10
      refine lv_bipush (v := (-2 : Int32)) hx hb dX11_open_39 (by decide) ?_
      exact E_int C hr hH h dX11_open_41
    · replace h := if_f h c10
      refine lv_aload_n hx hb dX11_open_30 rfl (lv_at hl 0 rfl) ?_
      refine lv_iload_n hx hb dX11_open_31 rfl (lv_at hl 1 rfl) ?_
      refine lv_iload_n hx hb dX11_open_32 rfl (lv_at hl 2 rfl) ?_
      obtain ⟨r8, S9, hc7, h⟩ := bn2_e h
      refine r_callV1 (ki := 10) (i := 0) (ci := 10) (As := [.int a1, .int a2]) C hl.1 hH (c_X11_planOf l g  hc7) q667 q5 q664 q665 q666 nd_X11_planOf rfl (by decide) ⟨Nat.zero_le _, Nat.zero_le _⟩ (by decide) (by decide) ⟨_, rfl⟩ rfl (Nat.le_of_ble_eq_true rfl) dX11_open_33 (fun H locs hH => ?_)
      refine lv_goto (tgt := 41) hx hb dX11_open_36 (by decide) ?_
      exact E_int C hr hH h dX11_open_41
theorem c_X11_open (l : Launch) (g : gT) {a1 : Int32} {a2 : Int32}  {S : sT} {r : Int32} {S1 : sT} (h : f_X11_open a1 a2 S = some (r, S1)) : MF l yX11_open cX11_open 3 (some .int) 7 g [.ref (gad g 10 0), .int a1, .int a2] S (some (.int r)) S1 := by
  refine MF.of (own := RX11) rfl rfl (Nat.le_of_ble_eq_true rfl) ?_
  intro p e s m below meth c C hr hH ls hl
  exact w_X11_open C hr (o := (r, S1))  hH hl h
theorem nd_X11_endOf : yX11_endOf.cls ≠ "java/lang/invoke/MethodHandle" ∧ yX11_endOf.cls ≠ "java/lang/invoke/VarHandle" ∧ (parseMethodDescriptor yX11_endOf.desc).map (fun d => d.parameters.length) = some 2 := by decide +kernel
def b_X11_endOf_39 (a2 : Int32) (j12 : Int32 → sT → Option (Int32 × sT)) (x13 : Int32) (x14 : Int32) (x15 : Int32) (x16 : Int32) (S17 : sT) (k18 : Int32 → Int32 → Int32 → Int32 → sT → Option (Int32 × sT)) : Option (Int32 × sT) :=
 (if a2 ≤ x16 then
 j12 x13 S17
 else
 ck (nz x15) (
 lt (x14 / x15) (fun x20 =>
 ck (nz x15) (
 lt (x14 - x14 / x15 * x15) (fun x22 =>
 ck (nz (9 : Int32)) (
 lt (x15 / (9 : Int32)) (fun x24 =>
 ck (vi (0 : Int32) 6) (
 ck (nz (2 : Int32)) (
 lt ((((S17.1 42 0 (cl (0 : Int32))) + (S17.1 116 0 0)) + x16) - (((S17.1 42 0 (cl (0 : Int32))) + (S17.1 116 0 0)) + x16) / (2 : Int32) * (2 : Int32)) (fun x27 =>
 jn (fun (y28 : Int32) (S29 : sT) => lt (x16 + (1 : Int32)) (fun x30 =>
 k18 y28 x22 x24 x30 S29))
 (fun j31 => jn (fun (S32 : sT) => j31 (0 : Int32) S32)
 (fun j33 => (if x13 = (0 : Int32) then
 j33 S17
 else
 jn (fun (S34 : sT) => j31 (1 : Int32) S34)
 (fun j35 => (if x20 = (8 : Int32) then
 j35 S17
 else
 bn2 (f_X11_lays x27 x27 x20 S17) (fun r37 S38 =>
 (if r37 = (0 : Int32) then
 j33 S38
 else
 j35 S38)))))))))))))))))
def l_X11_endOf_39 (a2 : Int32) (j12 : Int32 → sT → Option (Int32 × sT)) : Nat → Int32 → Int32 → Int32 → Int32 → sT → Option (Int32 × sT)
 | 0, _, _, _, _, _ => none
 | n + 1, x13, x14, x15, x16, S17 => b_X11_endOf_39 a2 j12 x13 x14 x15 x16 S17 (l_X11_endOf_39 a2 j12 n)
theorem l_X11_endOf_39_s (a2 : Int32) (j12 : Int32 → sT → Option (Int32 × sT)) (n : Nat) (x13 : Int32) (x14 : Int32) (x15 : Int32) (x16 : Int32) (S17 : sT) : l_X11_endOf_39 a2 j12 (n + 1) x13 x14 x15 x16 S17 = b_X11_endOf_39 a2 j12 x13 x14 x15 x16 S17 (l_X11_endOf_39 a2 j12 n) := rfl
def f_X11_endOf (a1 : Int32) (a2 : Int32) (S : sT) : Option (Int32 × sT) :=
 bn (f_X11_lives (S.1 116 0 0) S) (fun S2 =>
 jn (fun (y3 : Int32) => jn (fun (x4 : Int32) (S5 : sT) => (if x4 = (0 : Int32) then
 some ((-9 : Int32), S5)
 else
 bn (f_X11_weakNow  S5) (fun r7 =>
 (if r7 = (0 : Int32) then
 bn (f_X11_pearsNow  S5) (fun r9 =>
 some (r9, S5))
 else
 some ((-1 : Int32), S5)))))
 (fun j12 => l_X11_endOf_39 a2 j12 FU (1 : Int32) a1 y3 (0 : Int32) S2))
 (fun j43 => (if a2 = (1 : Int32) then
 j43 (1 : Int32)
 else
 (if a2 = (2 : Int32) then
 j43 (9 : Int32)
 else
 j43 (81 : Int32)))))
set_option maxHeartbeats 4000000 in
set_option maxRecDepth 100000 in
theorem w_X11_endOf_39 (C : Cx p s m args meth c cX11_endOf 9 RX11 g) (hr : meth.sig.returnType = (some .int)) {o : Int32 × sT}  {a2 : Int32}  (j12 : Int32 → sT → Option (Int32 × sT)) (hj12 : ∀ (x4 : Int32) (S5 : sT) (H : Heap) (locs : List Loc) (ls : Array Slot), Hp g s S5 H locs → lv_has ls 9 [(0, .ref (gad g 10 0)), (3, .int x4)] → j12 x4 S5 = some o → W p l e (rmL 5) s m args below meth c H locs 0 0 (Qm g below args s (some (.int o.1)) o.2) (F0 m 120 ls [])) : ∀ (n : Nat) (x13 : Int32) (x14 : Int32) (x15 : Int32) (x16 : Int32) (S17 : sT) (H : Heap) (locs : List Loc) (ls : Array Slot), Hp g s S17 H locs → lv_has ls 9 [(0, .ref (gad g 10 0)), (2, .int a2), (3, .int x13), (4, .int x14), (5, .int x15), (6, .int x16)] → l_X11_endOf_39 a2 j12 n x13 x14 x15 x16 S17 = some o → W p l e (rmL 5) s m args below meth c H locs 0 0 (Qm g below args s (some (.int o.1)) o.2) (F0 m 39 ls []) := by
  obtain ⟨hx, hb, hml, hown, hts, hlk, hK⟩ := id C
  intro n
  induction n with
  | zero =>
    intro x13 x14 x15 x16 S17 H locs ls hH hl h
    cases h
  | succ n ih =>
    intro x13 x14 x15 x16 S17 H locs ls hH hl h
    rw [l_X11_endOf_39_s] at h
    unfold b_X11_endOf_39 at h
    refine lv_iload hx hb dX11_endOf_39 (lv_at hl 5 rfl) ?_
    refine lv_iload_n hx hb dX11_endOf_41 rfl (lv_at hl 1 rfl) ?_
    refine lv_icmp_ge (tgt := 120) hx hb dX11_endOf_42 (by decide) (fun c42 => ?_) (fun c42 => ?_)
    · replace h := if_t h c42
      exact hj12 _ _ _ _ _ hH (lv_sub hl [0, 2] rfl) h
    · replace h := if_f h c42
      refine lv_iload hx hb dX11_endOf_45 (lv_at hl 3 rfl) ?_
      refine lv_iload hx hb dX11_endOf_47 (lv_at hl 4 rfl) ?_
      obtain ⟨hv19, h⟩ := ck_e h
      refine lv_idiv hx hb dX11_endOf_49 (nz_e hv19) ?_
      refine lv_topi (fun x20 ex20 => ?_)
      replace h := lt_e h ex20
      refine lv_istore (lv' := [(7, .int x20), (0, .ref (gad g 10 0)), (2, .int a2), (3, .int x13), (4, .int x14), (5, .int x15), (6, .int x16)]) hx hb dX11_endOf_50 hl (by decide) rfl (fun ls hl => ?_)
      refine lv_iload hx hb dX11_endOf_52 (lv_at hl 4 rfl) ?_
      refine lv_iload hx hb dX11_endOf_54 (lv_at hl 5 rfl) ?_
      obtain ⟨hv21, h⟩ := ck_e h
      refine lv_irem hx hb dX11_endOf_56 (nz_e hv21) ?_
      refine lv_topi (fun x22 ex22 => ?_)
      replace h := lt_e h ex22
      refine lv_istore (lv' := [(4, .int x22), (7, .int x20), (0, .ref (gad g 10 0)), (2, .int a2), (3, .int x13), (5, .int x15), (6, .int x16)]) hx hb dX11_endOf_57 hl (by decide) rfl (fun ls hl => ?_)
      refine lv_iload hx hb dX11_endOf_59 (lv_at hl 5 rfl) ?_
      refine lv_bipush (v := (9 : Int32)) hx hb dX11_endOf_61 (by decide) ?_
      obtain ⟨hv23, h⟩ := ck_e h
      refine lv_idiv hx hb dX11_endOf_63 (nz_e hv23) ?_
      refine lv_topi (fun x24 ex24 => ?_)
      replace h := lt_e h ex24
      refine lv_istore (lv' := [(5, .int x24), (4, .int x22), (7, .int x20), (0, .ref (gad g 10 0)), (2, .int a2), (3, .int x13), (6, .int x16)]) hx hb dX11_endOf_64 hl (by decide) rfl (fun ls hl => ?_)
      refine lv_aload_n hx hb dX11_endOf_66 rfl (lv_at hl 3 rfl) ?_
      refine gf_X11_37 C hH dX11_endOf_67 ?_
      refine lv_iconst (v := (0 : Int32)) hx hb dX11_endOf_70 (by decide) ?_
      obtain ⟨hv25, h⟩ := ck_e h
      refine r_ald C hH ka_42 (by decide) (by decide) (vi_in hv25) dX11_endOf_71 ?_
      refine lv_aload_n hx hb dX11_endOf_72 rfl (lv_at hl 3 rfl) ?_
      refine gf_X11_108 C hH dX11_endOf_73 ?_
      refine lv_iadd hx hb dX11_endOf_76 ?_
      refine lv_iload hx hb dX11_endOf_77 (lv_at hl 6 rfl) ?_
      refine lv_iadd hx hb dX11_endOf_79 ?_
      refine lv_iconst (v := (2 : Int32)) hx hb dX11_endOf_80 (by decide) ?_
      obtain ⟨hv26, h⟩ := ck_e h
      refine lv_irem hx hb dX11_endOf_81 (nz_e hv26) ?_
      refine lv_topi (fun x27 ex27 => ?_)
      replace h := lt_e h ex27
      refine lv_istore (lv' := [(8, .int x27), (5, .int x24), (4, .int x22), (7, .int x20), (0, .ref (gad g 10 0)), (2, .int a2), (3, .int x13), (6, .int x16)]) hx hb dX11_endOf_82 hl (by decide) rfl (fun ls hl => ?_)
      refine lv_iload_n hx hb dX11_endOf_84 rfl (lv_at hl 6 rfl) ?_
      obtain ⟨j31, ej31, h⟩ := jn_e h
      have hj31 : ∀ (y28 : Int32) (S29 : sT) (H : Heap) (locs : List Loc) (ls : Array Slot), Hp g s S29 H locs → lv_has ls 9 [(0, .ref (gad g 10 0)), (2, .int a2), (4, .int x22), (5, .int x24), (6, .int x16)] → j31 y28 S29 = some o → W p l e (rmL 5) s m args below meth c H locs 0 0 (Qm g below args s (some (.int o.1)) o.2) (F0 m 113 ls [.int y28]) := by
        intro y28 S29 H locs ls hH hl h
        rw [ej31] at h
        try dsimp only at h
        refine lv_istore_n (lv' := [(3, .int y28), (0, .ref (gad g 10 0)), (2, .int a2), (4, .int x22), (5, .int x24), (6, .int x16)]) hx hb dX11_endOf_113 rfl hl (by decide) rfl (fun ls hl => ?_)
        obtain ⟨x30, ex30⟩ : ∃ z : Int32, z = (x16 + (1 : Int32)) := ⟨_, rfl⟩
        replace h := lt_e h ex30
        refine lv_iinc (v := x30) (lv' := [(6, .int x30), (3, .int y28), (0, .ref (gad g 10 0)), (2, .int a2), (4, .int x22), (5, .int x24)]) hx hb dX11_endOf_114 hl (k := 5) rfl (by rw [ex30]; rfl) (by decide) rfl (fun ls hl => ?_)
        refine lv_goto (tgt := 39) hx hb dX11_endOf_117 (by decide) ?_
        exact ih _ _ _ _ _ _ _ _ hH (lv_sub hl [2, 3, 1, 4, 5, 0] rfl) h
      clear ej31
      obtain ⟨j33, ej33, h⟩ := jn_e h
      have hj33 : ∀ (S32 : sT) (H : Heap) (locs : List Loc) (ls : Array Slot), Hp g s S32 H locs → lv_has ls 9 [(0, .ref (gad g 10 0)), (2, .int a2), (4, .int x22), (5, .int x24), (6, .int x16)] → j33 S32 = some o → W p l e (rmL 5) s m args below meth c H locs 0 0 (Qm g below args s (some (.int o.1)) o.2) (F0 m 112 ls []) := by
        intro S32 H locs ls hH hl h
        rw [ej33] at h
        try dsimp only at h
        refine lv_iconst (v := (0 : Int32)) hx hb dX11_endOf_112 (by decide) ?_
        exact hj31 _ _ _ _ _ hH (lv_sub hl [0, 1, 2, 3, 4] rfl) h
      clear ej33
      refine lv_if_eq (tgt := 112) hx hb dX11_endOf_85 (by decide) (fun c41 => ?_) (fun c41 => ?_)
      · replace h := if_t h c41
        exact hj33 _ _ _ _ hH (lv_sub hl [4, 5, 2, 1, 7] rfl) h
      · replace h := if_f h c41
        refine lv_iload hx hb dX11_endOf_88 (lv_at hl 3 rfl) ?_
        refine lv_bipush (v := (8 : Int32)) hx hb dX11_endOf_90 (by decide) ?_
        obtain ⟨j35, ej35, h⟩ := jn_e h
        have hj35 : ∀ (S34 : sT) (H : Heap) (locs : List Loc) (ls : Array Slot), Hp g s S34 H locs → lv_has ls 9 [(0, .ref (gad g 10 0)), (2, .int a2), (4, .int x22), (5, .int x24), (6, .int x16)] → j35 S34 = some o → W p l e (rmL 5) s m args below meth c H locs 0 0 (Qm g below args s (some (.int o.1)) o.2) (F0 m 108 ls []) := by
          intro S34 H locs ls hH hl h
          rw [ej35] at h
          try dsimp only at h
          refine lv_iconst (v := (1 : Int32)) hx hb dX11_endOf_108 (by decide) ?_
          refine lv_goto (tgt := 113) hx hb dX11_endOf_109 (by decide) ?_
          exact hj31 _ _ _ _ _ hH (lv_sub hl [0, 1, 2, 3, 4] rfl) h
        clear ej35
        refine lv_icmp_eq (tgt := 108) hx hb dX11_endOf_92 (by decide) (fun c40 => ?_) (fun c40 => ?_)
        · replace h := if_t h c40
          exact hj35 _ _ _ _ hH (lv_sub hl [4, 5, 2, 1, 7] rfl) h
        · replace h := if_f h c40
          refine lv_aload_n hx hb dX11_endOf_95 rfl (lv_at hl 4 rfl) ?_
          refine lv_iload hx hb dX11_endOf_96 (lv_at hl 0 rfl) ?_
          refine lv_iload hx hb dX11_endOf_98 (lv_at hl 0 rfl) ?_
          refine lv_iload hx hb dX11_endOf_100 (lv_at hl 3 rfl) ?_
          obtain ⟨r37, S38, hc36, h⟩ := bn2_e h
          refine r_callV1 (ki := 10) (i := 0) (ci := 10) (As := [.int x27, .int x27, .int x20]) C hl.1 hH (c_X11_lays l g  hc36) q449 q5 q446 q447 q448 nd_X11_lays rfl (by decide) ⟨Nat.zero_le _, Nat.zero_le _⟩ (by decide) (by decide) ⟨_, rfl⟩ rfl (Nat.le_of_ble_eq_true rfl) dX11_endOf_102 (fun H locs hH => ?_)
          refine lv_if_eq (tgt := 112) hx hb dX11_endOf_105 (by decide) (fun c39 => ?_) (fun c39 => ?_)
          · replace h := if_t h c39
            exact hj33 _ _ _ _ hH (lv_sub hl [4, 5, 2, 1, 7] rfl) h
          · replace h := if_f h c39
            exact hj35 _ _ _ _ hH (lv_sub hl [4, 5, 2, 1, 7] rfl) h
set_option maxHeartbeats 4000000 in
set_option maxRecDepth 100000 in
theorem w_X11_endOf (C : Cx p s m args meth c cX11_endOf 9 RX11 g) (hr : meth.sig.returnType = (some .int)) {o : Int32 × sT} {a1 : Int32} {a2 : Int32}  {S : sT} {H : Heap} {locs : List Loc} {ls : Array Slot} (hH : Hp g s S H locs) (hl : lv_has ls 9 [(0, .ref (gad g 10 0)), (1, .int a1), (2, .int a2)]) (h : f_X11_endOf a1 a2 S = some o) : W p l e (rmL 5) s m args below meth c H locs 0 0 (Qm g below args s (some (.int o.1)) o.2) (F0 m 0 ls []) := by
  obtain ⟨hx, hb, hml, hown, hts, hlk, hK⟩ := id C
  unfold f_X11_endOf at h
  refine lv_aload_n hx hb dX11_endOf_0 rfl (lv_at hl 0 rfl) ?_
  refine lv_aload_n hx hb dX11_endOf_1 rfl (lv_at hl 0 rfl) ?_
  refine gf_X11_108 C hH dX11_endOf_2 ?_
  obtain ⟨S2, hc1, h⟩ := bn_e h
  refine r_callV0 (ki := 10) (i := 0) (ci := 10) (As := [.int (S.1 116 0 0)]) C hl.1 hH (c_X11_lives l g  hc1) q426 q5 q423 q424 q425 nd_X11_lives rfl (by decide) ⟨Nat.zero_le _, Nat.zero_le _⟩ (by decide) (by decide) ⟨_, rfl⟩ rfl (Nat.le_of_ble_eq_true rfl) dX11_endOf_5 (fun H locs hH => ?_)
  refine lv_iconst (v := (1 : Int32)) hx hb dX11_endOf_8 (by decide) ?_
  refine lv_istore_n (lv' := [(3, .int (1 : Int32)), (0, .ref (gad g 10 0)), (1, .int a1), (2, .int a2)]) hx hb dX11_endOf_9 rfl hl (by decide) rfl (fun ls hl => ?_)
  refine lv_iload_n hx hb dX11_endOf_10 rfl (lv_at hl 2 rfl) ?_
  refine lv_istore (lv' := [(4, .int a1), (3, .int (1 : Int32)), (0, .ref (gad g 10 0)), (1, .int a1), (2, .int a2)]) hx hb dX11_endOf_11 hl (by decide) rfl (fun ls hl => ?_)
  refine lv_iload_n hx hb dX11_endOf_13 rfl (lv_at hl 4 rfl) ?_
  refine lv_iconst (v := (1 : Int32)) hx hb dX11_endOf_14 (by decide) ?_
  obtain ⟨j43, ej43, h⟩ := jn_e h
  have hj43 : ∀ (y3 : Int32) (H : Heap) (locs : List Loc) (ls : Array Slot), Hp g s S2 H locs → lv_has ls 9 [(0, .ref (gad g 10 0)), (2, .int a2), (3, .int (1 : Int32)), (4, .int a1)] → j43 y3 = some o → W p l e (rmL 5) s m args below meth c H locs 0 0 (Qm g below args s (some (.int o.1)) o.2) (F0 m 34 ls [.int y3]) := by
    intro y3 H locs ls hH hl h
    rw [ej43] at h
    try dsimp only at h
    refine lv_istore (lv' := [(5, .int y3), (0, .ref (gad g 10 0)), (2, .int a2), (3, .int (1 : Int32)), (4, .int a1)]) hx hb dX11_endOf_34 hl (by decide) rfl (fun ls hl => ?_)
    refine lv_iconst (v := (0 : Int32)) hx hb dX11_endOf_36 (by decide) ?_
    refine lv_istore (lv' := [(6, .int (0 : Int32)), (5, .int y3), (0, .ref (gad g 10 0)), (2, .int a2), (3, .int (1 : Int32)), (4, .int a1)]) hx hb dX11_endOf_37 hl (by decide) rfl (fun ls hl => ?_)
    obtain ⟨j12, ej12, h⟩ := jn_e h
    have hj12 : ∀ (x4 : Int32) (S5 : sT) (H : Heap) (locs : List Loc) (ls : Array Slot), Hp g s S5 H locs → lv_has ls 9 [(0, .ref (gad g 10 0)), (3, .int x4)] → j12 x4 S5 = some o → W p l e (rmL 5) s m args below meth c H locs 0 0 (Qm g below args s (some (.int o.1)) o.2) (F0 m 120 ls []) := by
      intro x4 S5 H locs ls hH hl h
      rw [ej12] at h
      try dsimp only at h
      refine lv_iload_n hx hb dX11_endOf_120 rfl (lv_at hl 1 rfl) ?_
      refine lv_if_ne (tgt := 129) hx hb dX11_endOf_121 (by decide) (fun c11 => ?_) (fun c11 => ?_)
      · replace h := if_f h c11
        refine lv_aload_n hx hb dX11_endOf_129 rfl (lv_at hl 0 rfl) ?_
        obtain ⟨r7, hc6, h⟩ := bn_e h
        refine r_callV1 (ki := 10) (i := 0) (ci := 10) (As := []) C hl.1 hH (c_X11_weakNow l g  hc6) q549 q5 q546 q547 q548 nd_X11_weakNow rfl (by decide) ⟨Nat.zero_le _, Nat.zero_le _⟩ (by decide) (by decide) ⟨_, rfl⟩ rfl (Nat.le_of_ble_eq_true rfl) dX11_endOf_130 (fun H locs hH => ?_)
        refine lv_if_ne (tgt := 143) hx hb dX11_endOf_133 (by decide) (fun c10 => ?_) (fun c10 => ?_)
        · replace h := if_f h c10
          refine lv_iconst (v := (-1 : Int32)) hx hb dX11_endOf_143 (by decide) ?_
          exact E_int C hr hH h dX11_endOf_144
        · replace h := if_t h c10
          refine lv_aload_n hx hb dX11_endOf_136 rfl (lv_at hl 0 rfl) ?_
          obtain ⟨r9, hc8, h⟩ := bn_e h
          refine r_callV1 (ki := 10) (i := 0) (ci := 10) (As := []) C hl.1 hH (c_X11_pearsNow l g  hc8) q560 q5 q557 q558 q559 nd_X11_pearsNow rfl (by decide) ⟨Nat.zero_le _, Nat.zero_le _⟩ (by decide) (by decide) ⟨_, rfl⟩ rfl (Nat.le_of_ble_eq_true rfl) dX11_endOf_137 (fun H locs hH => ?_)
          refine lv_goto (tgt := 144) hx hb dX11_endOf_140 (by decide) ?_
          exact E_int C hr hH h dX11_endOf_144
      · replace h := if_t h c11
        refine lv_bipush (v := (-9 : Int32)) hx hb dX11_endOf_124 (by decide) ?_
        refine lv_goto (tgt := 144) hx hb dX11_endOf_126 (by decide) ?_
        exact E_int C hr hH h dX11_endOf_144
    clear ej12
    exact w_X11_endOf_39 C hr  j12 hj12 _ _ _ _ _ _ _ _ _ hH (lv_sub hl [2, 3, 4, 5, 1, 0] rfl) h
  clear ej43
  refine lv_icmp_ne (tgt := 22) hx hb dX11_endOf_15 (by decide) (fun c45 => ?_) (fun c45 => ?_)
  · replace h := if_f h c45
    refine lv_iload_n hx hb dX11_endOf_22 rfl (lv_at hl 4 rfl) ?_
    refine lv_iconst (v := (2 : Int32)) hx hb dX11_endOf_23 (by decide) ?_
    refine lv_icmp_ne (tgt := 32) hx hb dX11_endOf_24 (by decide) (fun c44 => ?_) (fun c44 => ?_)
    · replace h := if_f h c44
      refine lv_bipush (v := (81 : Int32)) hx hb dX11_endOf_32 (by decide) ?_
      exact hj43 _ _ _ _ hH (lv_sub hl [2, 4, 1, 0] rfl) h
    · replace h := if_t h c44
      refine lv_bipush (v := (9 : Int32)) hx hb dX11_endOf_27 (by decide) ?_
      refine lv_goto (tgt := 34) hx hb dX11_endOf_29 (by decide) ?_
      exact hj43 _ _ _ _ hH (lv_sub hl [2, 4, 1, 0] rfl) h
  · replace h := if_t h c45
    refine lv_iconst (v := (1 : Int32)) hx hb dX11_endOf_18 (by decide) ?_
    refine lv_goto (tgt := 34) hx hb dX11_endOf_19 (by decide) ?_
    exact hj43 _ _ _ _ hH (lv_sub hl [2, 4, 1, 0] rfl) h
theorem c_X11_endOf (l : Launch) (g : gT) {a1 : Int32} {a2 : Int32}  {S : sT} {r : Int32} {S1 : sT} (h : f_X11_endOf a1 a2 S = some (r, S1)) : MF l yX11_endOf cX11_endOf 9 (some .int) 5 g [.ref (gad g 10 0), .int a1, .int a2] S (some (.int r)) S1 := by
  refine MF.of (own := RX11) rfl rfl (Nat.le_of_ble_eq_true rfl) ?_
  intro p e s m below meth c C hr hH ls hl
  exact w_X11_endOf C hr (o := (r, S1))  hH hl h
theorem nd_X11_better : yX11_better.cls ≠ "java/lang/invoke/MethodHandle" ∧ yX11_better.cls ≠ "java/lang/invoke/VarHandle" ∧ (parseMethodDescriptor yX11_better.desc).map (fun d => d.parameters.length) = some 3 := by decide +kernel
def f_X11_better (a1 : Int32) (a2 : Int32) (a3 : Int32) (S : sT) : Option (Int32) :=
 (if a2 = (-9 : Int32) then
 some (0 : Int32)
 else
 jn (some (1 : Int32))
 (fun j1 => (if a3 = (-9 : Int32) then
 j1
 else
 (if a1 = (0 : Int32) then
 (if a2 ≤ a3 then
 some (0 : Int32)
 else
 j1)
 else
 (if a3 ≤ a2 then
 some (0 : Int32)
 else
 j1)))))
set_option maxHeartbeats 4000000 in
set_option maxRecDepth 100000 in
theorem w_X11_better (C : Cx p s m args meth c cX11_better 3 RX11 g) (hr : meth.sig.returnType = (some .boolean)) {o : Int32} {a1 : Int32} {a2 : Int32} {a3 : Int32}  {S : sT} {H : Heap} {locs : List Loc} {ls : Array Slot} (hH : Hp g s S H locs) (hl : lv_has ls 3 [(0, .int a1), (1, .int a2), (2, .int a3)]) (h : f_X11_better a1 a2 a3 S = some o) : W p l e (rmL 1) s m args below meth c H locs 0 0 (Qm g below args s (some (.int o)) S) (F0 m 0 ls []) := by
  obtain ⟨hx, hb, hml, hown, hts, hlk, hK⟩ := id C
  unfold f_X11_better at h
  refine lv_iload_n hx hb dX11_better_0 rfl (lv_at hl 1 rfl) ?_
  refine lv_bipush (v := (-9 : Int32)) hx hb dX11_better_1 (by decide) ?_
  refine lv_icmp_eq (tgt := 33) hx hb dX11_better_3 (by decide) (fun c6 => ?_) (fun c6 => ?_)
  · replace h := if_t h c6
    refine lv_iconst (v := (0 : Int32)) hx hb dX11_better_33 (by decide) ?_
    exact E_boolc C hr hH rfl h dX11_better_34
  · replace h := if_f h c6
    refine lv_iload_n hx hb dX11_better_6 rfl (lv_at hl 2 rfl) ?_
    refine lv_bipush (v := (-9 : Int32)) hx hb dX11_better_7 (by decide) ?_
    obtain ⟨j1, ej1, h⟩ := jn_e h
    have hj1 : ∀  (H : Heap) (locs : List Loc) (ls : Array Slot), Hp g s S H locs → lv_has ls 3 [] → j1  = some o → W p l e (rmL 1) s m args below meth c H locs 0 0 (Qm g below args s (some (.int o)) S) (F0 m 29 ls []) := by
      intro  H locs ls hH hl h
      rw [ej1] at h
      try dsimp only at h
      refine lv_iconst (v := (1 : Int32)) hx hb dX11_better_29 (by decide) ?_
      refine lv_goto (tgt := 34) hx hb dX11_better_30 (by decide) ?_
      exact E_boolc C hr hH rfl h dX11_better_34
    clear ej1
    refine lv_icmp_eq (tgt := 29) hx hb dX11_better_9 (by decide) (fun c5 => ?_) (fun c5 => ?_)
    · replace h := if_t h c5
      exact hj1 _ _ _ hH (lv_sub hl [] rfl) h
    · replace h := if_f h c5
      refine lv_iload_n hx hb dX11_better_12 rfl (lv_at hl 0 rfl) ?_
      refine lv_if_ne (tgt := 24) hx hb dX11_better_13 (by decide) (fun c4 => ?_) (fun c4 => ?_)
      · replace h := if_f h c4
        refine lv_iload_n hx hb dX11_better_24 rfl (lv_at hl 1 rfl) ?_
        refine lv_iload_n hx hb dX11_better_25 rfl (lv_at hl 2 rfl) ?_
        refine lv_icmp_ge (tgt := 33) hx hb dX11_better_26 (by decide) (fun c2 => ?_) (fun c2 => ?_)
        · replace h := if_t h c2
          refine lv_iconst (v := (0 : Int32)) hx hb dX11_better_33 (by decide) ?_
          exact E_boolc C hr hH rfl h dX11_better_34
        · replace h := if_f h c2
          exact hj1 _ _ _ hH (lv_sub hl [] rfl) h
      · replace h := if_t h c4
        refine lv_iload_n hx hb dX11_better_16 rfl (lv_at hl 1 rfl) ?_
        refine lv_iload_n hx hb dX11_better_17 rfl (lv_at hl 2 rfl) ?_
        refine lv_icmp_le (tgt := 33) hx hb dX11_better_18 (by decide) (fun c3 => ?_) (fun c3 => ?_)
        · replace h := if_t h c3
          refine lv_iconst (v := (0 : Int32)) hx hb dX11_better_33 (by decide) ?_
          exact E_boolc C hr hH rfl h dX11_better_34
        · replace h := if_f h c3
          refine lv_goto (tgt := 29) hx hb dX11_better_21 (by decide) ?_
          exact hj1 _ _ _ hH (lv_sub hl [] rfl) h
theorem c_X11_better (l : Launch) (g : gT) {a1 : Int32} {a2 : Int32} {a3 : Int32}  {S : sT} {r : Int32} (h : f_X11_better a1 a2 a3 S = some r) : MF l yX11_better cX11_better 3 (some .boolean) 1 g [.int a1, .int a2, .int a3] S (some (.int r)) S := by
  refine MF.of (own := RX11) rfl rfl (Nat.le_of_ble_eq_true rfl) ?_
  intro p e s m below meth c C hr hH ls hl
  exact w_X11_better C hr (o := r)  hH hl h
theorem nd_X11_sidesOf : yX11_sidesOf.cls ≠ "java/lang/invoke/MethodHandle" ∧ yX11_sidesOf.cls ≠ "java/lang/invoke/VarHandle" ∧ (parseMethodDescriptor yX11_sidesOf.desc).map (fun d => d.parameters.length) = some 2 := by decide +kernel
def b_X11_sidesOf_52 (a1 : Int32) (x3 : Int32) (x11 : Int32) (x25 : Int32) (j36 : Int32 → sT → Option (Int32 × sT)) (x37 : Int32) (x38 : Int32) (S39 : sT) (k40 : Int32 → Int32 → sT → Option (Int32 × sT)) : Option (Int32 × sT) :=
 (if (9 : Int32) ≤ x38 then
 j36 x37 S39
 else
 jn (fun (y41 : Int32) => jn (fun (y42 : Int32) (S43 : sT) => bn (f_X11_better x3 y42 x37 S43) (fun r45 =>
 jn (fun (y46 : Int32) => lt (x38 + (1 : Int32)) (fun x47 =>
 k40 y46 x47 S43))
 (fun j48 => (if r45 = (0 : Int32) then
 j48 x37
 else
 j48 y42))))
 (fun j50 => jn (j50 (-9 : Int32) S39)
 (fun j51 => jn (jn (bn2 (f_X11_endOf y41 a1 S39) (fun r53 S54 =>
 j50 r53 S54))
 (fun j55 => (if (3 : Int32) ≤ a1 then
 j55
 else
 (if (8 : Int32) ≤ x38 then
 j55
 else
 j51))))
 (fun j58 => (if (2 : Int32) ≤ a1 then
 j58
 else
 (if x25 < (8 : Int32) then
 j51
 else
 j58))))))
 (fun j61 => (if a1 = (1 : Int32) then
 j61 x11
 else
 (if a1 = (2 : Int32) then
 j61 (((9 : Int32) * x11) + x25)
 else
 j61 ((((81 : Int32) * x11) + ((9 : Int32) * x25)) + x38)))))
def l_X11_sidesOf_52 (a1 : Int32) (x3 : Int32) (x11 : Int32) (x25 : Int32) (j36 : Int32 → sT → Option (Int32 × sT)) : Nat → Int32 → Int32 → sT → Option (Int32 × sT)
 | 0, _, _, _ => none
 | n + 1, x37, x38, S39 => b_X11_sidesOf_52 a1 x3 x11 x25 j36 x37 x38 S39 (l_X11_sidesOf_52 a1 x3 x11 x25 j36 n)
theorem l_X11_sidesOf_52_s (a1 : Int32) (x3 : Int32) (x11 : Int32) (x25 : Int32) (j36 : Int32 → sT → Option (Int32 × sT)) (n : Nat) (x37 : Int32) (x38 : Int32) (S39 : sT) : l_X11_sidesOf_52 a1 x3 x11 x25 j36 (n + 1) x37 x38 S39 = b_X11_sidesOf_52 a1 x3 x11 x25 j36 x37 x38 S39 (l_X11_sidesOf_52 a1 x3 x11 x25 j36 n) := rfl
def b_X11_sidesOf_38 (a1 : Int32) (x3 : Int32) (x11 : Int32) (j23 : Int32 → sT → Option (Int32 × sT)) (x24 : Int32) (x25 : Int32) (S26 : sT) (k27 : Int32 → Int32 → sT → Option (Int32 × sT)) : Option (Int32 × sT) :=
 (if (9 : Int32) ≤ x25 then
 j23 x24 S26
 else
 jn (fun (x28 : Int32) (S29 : sT) => bn (f_X11_better ((1 : Int32) - x3) x28 x24 S29) (fun r31 =>
 jn (fun (y32 : Int32) => lt (x25 + (1 : Int32)) (fun x33 =>
 k27 y32 x33 S29))
 (fun j34 => (if r31 = (0 : Int32) then
 j34 x24
 else
 j34 x28))))
 (fun j36 => l_X11_sidesOf_52 a1 x3 x11 x25 j36 FU (-9 : Int32) (0 : Int32) S26))
def l_X11_sidesOf_38 (a1 : Int32) (x3 : Int32) (x11 : Int32) (j23 : Int32 → sT → Option (Int32 × sT)) : Nat → Int32 → Int32 → sT → Option (Int32 × sT)
 | 0, _, _, _ => none
 | n + 1, x24, x25, S26 => b_X11_sidesOf_38 a1 x3 x11 j23 x24 x25 S26 (l_X11_sidesOf_38 a1 x3 x11 j23 n)
theorem l_X11_sidesOf_38_s (a1 : Int32) (x3 : Int32) (x11 : Int32) (j23 : Int32 → sT → Option (Int32 × sT)) (n : Nat) (x24 : Int32) (x25 : Int32) (S26 : sT) : l_X11_sidesOf_38 a1 x3 x11 j23 (n + 1) x24 x25 S26 = b_X11_sidesOf_38 a1 x3 x11 j23 x24 x25 S26 (l_X11_sidesOf_38 a1 x3 x11 j23 n) := rfl
def b_X11_sidesOf_24 (a1 : Int32) (x3 : Int32) (j8 : Int32 → Int32 → sT → Option (Int32 × sT)) (x9 : Int32) (x10 : Int32) (x11 : Int32) (S12 : sT) (k13 : Int32 → Int32 → Int32 → sT → Option (Int32 × sT)) : Option (Int32 × sT) :=
 (if (9 : Int32) ≤ x11 then
 j8 x9 x10 S12
 else
 jn (fun (x14 : Int32) (S15 : sT) => bn (f_X11_better x3 x14 x9 S15) (fun r17 =>
 jn (fun (x18 : Int32) (x19 : Int32) => lt (x11 + (1 : Int32)) (fun x20 =>
 k13 x18 x19 x20 S15))
 (fun j21 => (if r17 = (0 : Int32) then
 j21 x9 x10
 else
 j21 x14 x11))))
 (fun j23 => l_X11_sidesOf_38 a1 x3 x11 j23 FU (-9 : Int32) (0 : Int32) S12))
def l_X11_sidesOf_24 (a1 : Int32) (x3 : Int32) (j8 : Int32 → Int32 → sT → Option (Int32 × sT)) : Nat → Int32 → Int32 → Int32 → sT → Option (Int32 × sT)
 | 0, _, _, _, _ => none
 | n + 1, x9, x10, x11, S12 => b_X11_sidesOf_24 a1 x3 j8 x9 x10 x11 S12 (l_X11_sidesOf_24 a1 x3 j8 n)
theorem l_X11_sidesOf_24_s (a1 : Int32) (x3 : Int32) (j8 : Int32 → Int32 → sT → Option (Int32 × sT)) (n : Nat) (x9 : Int32) (x10 : Int32) (x11 : Int32) (S12 : sT) : l_X11_sidesOf_24 a1 x3 j8 (n + 1) x9 x10 x11 S12 = b_X11_sidesOf_24 a1 x3 j8 x9 x10 x11 S12 (l_X11_sidesOf_24 a1 x3 j8 n) := rfl
def f_X11_sidesOf (a1 : Int32) (a2 : Int32) (S : sT) : Option (Int32 × sT) :=
 ck (vi (0 : Int32) 6) (
 ck (nz (2 : Int32)) (
 lt (((S.1 42 0 (cl (0 : Int32))) + (S.1 116 0 0)) - ((S.1 42 0 (cl (0 : Int32))) + (S.1 116 0 0)) / (2 : Int32) * (2 : Int32)) (fun x3 =>
 jn (fun (x4 : Int32) (x5 : Int32) (S6 : sT) => (if a2 = (0 : Int32) then
 some (x4, S6)
 else
 some (x5, S6)))
 (fun j8 => l_X11_sidesOf_24 a1 x3 j8 FU (-9 : Int32) (-1 : Int32) (0 : Int32) S))))
set_option maxHeartbeats 4000000 in
set_option maxRecDepth 100000 in
theorem w_X11_sidesOf_52 (C : Cx p s m args meth c cX11_sidesOf 13 RX11 g) (hr : meth.sig.returnType = (some .int)) {o : Int32 × sT}  {a1 : Int32} {a2 : Int32} {x3 : Int32} {x9 : Int32} {x10 : Int32} {x11 : Int32} {x24 : Int32} {x25 : Int32}  (j36 : Int32 → sT → Option (Int32 × sT)) (hj36 : ∀ (x28 : Int32) (S29 : sT) (H : Heap) (locs : List Loc) (ls : Array Slot), Hp g s S29 H locs → lv_has ls 13 [(0, .ref (gad g 10 0)), (1, .int a1), (2, .int a2), (3, .int x9), (4, .int x10), (5, .int x3), (6, .int x11), (7, .int x24), (8, .int x25), (9, .int x28)] → j36 x28 S29 = some o → W p l e (rmL 6) s m args below meth c H locs 0 0 (Qm g below args s (some (.int o.1)) o.2) (F0 m 166 ls [])) : ∀ (n : Nat) (x37 : Int32) (x38 : Int32) (S39 : sT) (H : Heap) (locs : List Loc) (ls : Array Slot), Hp g s S39 H locs → lv_has ls 13 [(0, .ref (gad g 10 0)), (1, .int a1), (2, .int a2), (3, .int x9), (4, .int x10), (5, .int x3), (6, .int x11), (7, .int x24), (8, .int x25), (9, .int x37), (10, .int x38)] → l_X11_sidesOf_52 a1 x3 x11 x25 j36 n x37 x38 S39 = some o → W p l e (rmL 6) s m args below meth c H locs 0 0 (Qm g below args s (some (.int o.1)) o.2) (F0 m 52 ls []) := by
  obtain ⟨hx, hb, hml, hown, hts, hlk, hK⟩ := id C
  intro n
  induction n with
  | zero =>
    intro x37 x38 S39 H locs ls hH hl h
    cases h
  | succ n ih =>
    intro x37 x38 S39 H locs ls hH hl h
    rw [l_X11_sidesOf_52_s] at h
    unfold b_X11_sidesOf_52 at h
    refine lv_iload hx hb dX11_sidesOf_52 (lv_at hl 10 rfl) ?_
    refine lv_bipush (v := (9 : Int32)) hx hb dX11_sidesOf_54 (by decide) ?_
    refine lv_icmp_ge (tgt := 166) hx hb dX11_sidesOf_56 (by decide) (fun c64 => ?_) (fun c64 => ?_)
    · replace h := if_t h c64
      exact hj36 _ _ _ _ _ hH (lv_sub hl [0, 1, 2, 3, 4, 5, 6, 7, 8, 9] rfl) h
    · replace h := if_f h c64
      refine lv_iload_n hx hb dX11_sidesOf_59 rfl (lv_at hl 1 rfl) ?_
      refine lv_iconst (v := (1 : Int32)) hx hb dX11_sidesOf_60 (by decide) ?_
      obtain ⟨j61, ej61, h⟩ := jn_e h
      have hj61 : ∀ (y41 : Int32) (H : Heap) (locs : List Loc) (ls : Array Slot), Hp g s S39 H locs → lv_has ls 13 [(0, .ref (gad g 10 0)), (1, .int a1), (2, .int a2), (3, .int x9), (4, .int x10), (5, .int x3), (6, .int x11), (7, .int x24), (8, .int x25), (9, .int x37), (10, .int x38)] → j61 y41 = some o → W p l e (rmL 6) s m args below meth c H locs 0 0 (Qm g below args s (some (.int o.1)) o.2) (F0 m 99 ls [.int y41]) := by
        intro y41 H locs ls hH hl h
        rw [ej61] at h
        try dsimp only at h
        refine lv_istore (lv' := [(11, .int y41), (0, .ref (gad g 10 0)), (1, .int a1), (2, .int a2), (3, .int x9), (4, .int x10), (5, .int x3), (6, .int x11), (7, .int x24), (8, .int x25), (9, .int x37), (10, .int x38)]) hx hb dX11_sidesOf_99 hl (by decide) rfl (fun ls hl => ?_)
        refine lv_iload_n hx hb dX11_sidesOf_101 rfl (lv_at hl 2 rfl) ?_
        refine lv_iconst (v := (2 : Int32)) hx hb dX11_sidesOf_102 (by decide) ?_
        obtain ⟨j50, ej50, h⟩ := jn_e h
        have hj50 : ∀ (y42 : Int32) (S43 : sT) (H : Heap) (locs : List Loc) (ls : Array Slot), Hp g s S43 H locs → lv_has ls 13 [(0, .ref (gad g 10 0)), (1, .int a1), (2, .int a2), (3, .int x9), (4, .int x10), (5, .int x3), (6, .int x11), (7, .int x24), (8, .int x25), (9, .int x37), (10, .int x38)] → j50 y42 S43 = some o → W p l e (rmL 6) s m args below meth c H locs 0 0 (Qm g below args s (some (.int o.1)) o.2) (F0 m 137 ls [.int y42]) := by
          intro y42 S43 H locs ls hH hl h
          rw [ej50] at h
          try dsimp only at h
          refine lv_istore (lv' := [(12, .int y42), (0, .ref (gad g 10 0)), (1, .int a1), (2, .int a2), (3, .int x9), (4, .int x10), (5, .int x3), (6, .int x11), (7, .int x24), (8, .int x25), (9, .int x37), (10, .int x38)]) hx hb dX11_sidesOf_137 hl (by decide) rfl (fun ls hl => ?_)
          refine lv_iload hx hb dX11_sidesOf_139 (lv_at hl 6 rfl) ?_
          refine lv_iload hx hb dX11_sidesOf_141 (lv_at hl 0 rfl) ?_
          refine lv_iload hx hb dX11_sidesOf_143 (lv_at hl 10 rfl) ?_
          obtain ⟨r45, hc44, h⟩ := bn_e h
          refine r_callS1 (As := [.int x3, .int y42, .int x37]) C hl.1 hH (c_X11_better l g  hc44) q734 q5 q732 q733 nd_X11_better rfl (by decide) ⟨Nat.zero_le _, Nat.zero_le _⟩ (Nat.le_of_ble_eq_true rfl) dX11_sidesOf_145 (fun H locs hH => ?_)
          obtain ⟨j48, ej48, h⟩ := jn_e h
          have hj48 : ∀ (y46 : Int32) (H : Heap) (locs : List Loc) (ls : Array Slot), Hp g s S43 H locs → lv_has ls 13 [(0, .ref (gad g 10 0)), (1, .int a1), (2, .int a2), (3, .int x9), (4, .int x10), (5, .int x3), (6, .int x11), (7, .int x24), (8, .int x25), (10, .int x38)] → j48 y46 = some o → W p l e (rmL 6) s m args below meth c H locs 0 0 (Qm g below args s (some (.int o.1)) o.2) (F0 m 158 ls [.int y46]) := by
            intro y46 H locs ls hH hl h
            rw [ej48] at h
            try dsimp only at h
            refine lv_istore (lv' := [(9, .int y46), (0, .ref (gad g 10 0)), (1, .int a1), (2, .int a2), (3, .int x9), (4, .int x10), (5, .int x3), (6, .int x11), (7, .int x24), (8, .int x25), (10, .int x38)]) hx hb dX11_sidesOf_158 hl (by decide) rfl (fun ls hl => ?_)
            obtain ⟨x47, ex47⟩ : ∃ z : Int32, z = (x38 + (1 : Int32)) := ⟨_, rfl⟩
            replace h := lt_e h ex47
            refine lv_iinc (v := x47) (lv' := [(10, .int x47), (9, .int y46), (0, .ref (gad g 10 0)), (1, .int a1), (2, .int a2), (3, .int x9), (4, .int x10), (5, .int x3), (6, .int x11), (7, .int x24), (8, .int x25)]) hx hb dX11_sidesOf_160 hl (k := 10) rfl (by rw [ex47]; rfl) (by decide) rfl (fun ls hl => ?_)
            refine lv_goto (tgt := 52) hx hb dX11_sidesOf_163 (by decide) ?_
            exact ih _ _ _ _ _ _ hH (lv_sub hl [2, 3, 4, 5, 6, 7, 8, 9, 10, 1, 0] rfl) h
          clear ej48
          refine lv_if_eq (tgt := 156) hx hb dX11_sidesOf_148 (by decide) (fun c49 => ?_) (fun c49 => ?_)
          · replace h := if_t h c49
            refine lv_iload hx hb dX11_sidesOf_156 (lv_at hl 10 rfl) ?_
            exact hj48 _ _ _ _ hH (lv_sub hl [1, 2, 3, 4, 5, 6, 7, 8, 9, 11] rfl) h
          · replace h := if_f h c49
            refine lv_iload hx hb dX11_sidesOf_151 (lv_at hl 0 rfl) ?_
            refine lv_goto (tgt := 158) hx hb dX11_sidesOf_153 (by decide) ?_
            exact hj48 _ _ _ _ hH (lv_sub hl [1, 2, 3, 4, 5, 6, 7, 8, 9, 11] rfl) h
        clear ej50
        obtain ⟨j51, ej51, h⟩ := jn_e h
        have hj51 : ∀  (H : Heap) (locs : List Loc) (ls : Array Slot), Hp g s S39 H locs → lv_has ls 13 [(0, .ref (gad g 10 0)), (1, .int a1), (2, .int a2), (3, .int x9), (4, .int x10), (5, .int x3), (6, .int x11), (7, .int x24), (8, .int x25), (9, .int x37), (10, .int x38)] → j51  = some o → W p l e (rmL 6) s m args below meth c H locs 0 0 (Qm g below args s (some (.int o.1)) o.2) (F0 m 125 ls []) := by
          intro  H locs ls hH hl h
          rw [ej51] at h
          try dsimp only at h
          refine lv_bipush (v := (-9 : Int32)) hx hb dX11_sidesOf_125 (by decide) ?_
          refine lv_goto (tgt := 137) hx hb dX11_sidesOf_127 (by decide) ?_
          exact hj50 _ _ _ _ _ hH (lv_sub hl [0, 1, 2, 3, 4, 5, 6, 7, 8, 9, 10] rfl) h
        clear ej51
        obtain ⟨j58, ej58, h⟩ := jn_e h
        have hj58 : ∀  (H : Heap) (locs : List Loc) (ls : Array Slot), Hp g s S39 H locs → lv_has ls 13 [(0, .ref (gad g 10 0)), (1, .int a1), (2, .int a2), (3, .int x9), (4, .int x10), (5, .int x3), (6, .int x11), (7, .int x24), (8, .int x25), (9, .int x37), (10, .int x38), (11, .int y41)] → j58  = some o → W p l e (rmL 6) s m args below meth c H locs 0 0 (Qm g below args s (some (.int o.1)) o.2) (F0 m 113 ls []) := by
          intro  H locs ls hH hl h
          rw [ej58] at h
          try dsimp only at h
          refine lv_iload_n hx hb dX11_sidesOf_113 rfl (lv_at hl 1 rfl) ?_
          refine lv_iconst (v := (3 : Int32)) hx hb dX11_sidesOf_114 (by decide) ?_
          obtain ⟨j55, ej55, h⟩ := jn_e h
          have hj55 : ∀  (H : Heap) (locs : List Loc) (ls : Array Slot), Hp g s S39 H locs → lv_has ls 13 [(0, .ref (gad g 10 0)), (1, .int a1), (2, .int a2), (3, .int x9), (4, .int x10), (5, .int x3), (6, .int x11), (7, .int x24), (8, .int x25), (9, .int x37), (10, .int x38), (11, .int y41)] → j55  = some o → W p l e (rmL 6) s m args below meth c H locs 0 0 (Qm g below args s (some (.int o.1)) o.2) (F0 m 130 ls []) := by
            intro  H locs ls hH hl h
            rw [ej55] at h
            try dsimp only at h
            refine lv_aload_n hx hb dX11_sidesOf_130 rfl (lv_at hl 0 rfl) ?_
            refine lv_iload hx hb dX11_sidesOf_131 (lv_at hl 11 rfl) ?_
            refine lv_iload_n hx hb dX11_sidesOf_133 rfl (lv_at hl 1 rfl) ?_
            obtain ⟨r53, S54, hc52, h⟩ := bn2_e h
            refine r_callV1 (ki := 10) (i := 0) (ci := 10) (As := [.int y41, .int a1]) C hl.1 hH (c_X11_endOf l g  hc52) q731 q5 q728 q729 q730 nd_X11_endOf rfl (by decide) ⟨Nat.zero_le _, Nat.zero_le _⟩ (by decide) (by decide) ⟨_, rfl⟩ rfl (Nat.le_of_ble_eq_true rfl) dX11_sidesOf_134 (fun H locs hH => ?_)
            exact hj50 _ _ _ _ _ hH (lv_sub hl [0, 1, 2, 3, 4, 5, 6, 7, 8, 9, 10] rfl) h
          clear ej55
          refine lv_icmp_ge (tgt := 130) hx hb dX11_sidesOf_115 (by decide) (fun c57 => ?_) (fun c57 => ?_)
          · replace h := if_t h c57
            exact hj55 _ _ _ hH (lv_sub hl [0, 1, 2, 3, 4, 5, 6, 7, 8, 9, 10, 11] rfl) h
          · replace h := if_f h c57
            refine lv_iload hx hb dX11_sidesOf_118 (lv_at hl 10 rfl) ?_
            refine lv_bipush (v := (8 : Int32)) hx hb dX11_sidesOf_120 (by decide) ?_
            refine lv_icmp_ge (tgt := 130) hx hb dX11_sidesOf_122 (by decide) (fun c56 => ?_) (fun c56 => ?_)
            · replace h := if_t h c56
              exact hj55 _ _ _ hH (lv_sub hl [0, 1, 2, 3, 4, 5, 6, 7, 8, 9, 10, 11] rfl) h
            · replace h := if_f h c56
              exact hj51 _ _ _ hH (lv_sub hl [0, 1, 2, 3, 4, 5, 6, 7, 8, 9, 10] rfl) h
        clear ej58
        refine lv_icmp_ge (tgt := 113) hx hb dX11_sidesOf_103 (by decide) (fun c60 => ?_) (fun c60 => ?_)
        · replace h := if_t h c60
          exact hj58 _ _ _ hH (lv_sub hl [1, 2, 3, 4, 5, 6, 7, 8, 9, 10, 11, 0] rfl) h
        · replace h := if_f h c60
          refine lv_iload hx hb dX11_sidesOf_106 (lv_at hl 9 rfl) ?_
          refine lv_bipush (v := (8 : Int32)) hx hb dX11_sidesOf_108 (by decide) ?_
          refine lv_icmp_lt (tgt := 125) hx hb dX11_sidesOf_110 (by decide) (fun c59 => ?_) (fun c59 => ?_)
          · replace h := if_t h c59
            exact hj51 _ _ _ hH (lv_sub hl [1, 2, 3, 4, 5, 6, 7, 8, 9, 10, 11] rfl) h
          · replace h := if_f h c59
            exact hj58 _ _ _ hH (lv_sub hl [1, 2, 3, 4, 5, 6, 7, 8, 9, 10, 11, 0] rfl) h
      clear ej61
      refine lv_icmp_ne (tgt := 69) hx hb dX11_sidesOf_61 (by decide) (fun c63 => ?_) (fun c63 => ?_)
      · replace h := if_f h c63
        refine lv_iload_n hx hb dX11_sidesOf_69 rfl (lv_at hl 1 rfl) ?_
        refine lv_iconst (v := (2 : Int32)) hx hb dX11_sidesOf_70 (by decide) ?_
        refine lv_icmp_ne (tgt := 85) hx hb dX11_sidesOf_71 (by decide) (fun c62 => ?_) (fun c62 => ?_)
        · replace h := if_f h c62
          refine lv_bipush (v := (81 : Int32)) hx hb dX11_sidesOf_85 (by decide) ?_
          refine lv_iload hx hb dX11_sidesOf_87 (lv_at hl 6 rfl) ?_
          refine lv_imul hx hb dX11_sidesOf_89 ?_
          refine lv_bipush (v := (9 : Int32)) hx hb dX11_sidesOf_90 (by decide) ?_
          refine lv_iload hx hb dX11_sidesOf_92 (lv_at hl 8 rfl) ?_
          refine lv_imul hx hb dX11_sidesOf_94 ?_
          refine lv_iadd hx hb dX11_sidesOf_95 ?_
          refine lv_iload hx hb dX11_sidesOf_96 (lv_at hl 10 rfl) ?_
          refine lv_iadd hx hb dX11_sidesOf_98 ?_
          exact hj61 _ _ _ _ hH (lv_sub hl [0, 1, 2, 3, 4, 5, 6, 7, 8, 9, 10] rfl) h
        · replace h := if_t h c62
          refine lv_bipush (v := (9 : Int32)) hx hb dX11_sidesOf_74 (by decide) ?_
          refine lv_iload hx hb dX11_sidesOf_76 (lv_at hl 6 rfl) ?_
          refine lv_imul hx hb dX11_sidesOf_78 ?_
          refine lv_iload hx hb dX11_sidesOf_79 (lv_at hl 8 rfl) ?_
          refine lv_iadd hx hb dX11_sidesOf_81 ?_
          refine lv_goto (tgt := 99) hx hb dX11_sidesOf_82 (by decide) ?_
          exact hj61 _ _ _ _ hH (lv_sub hl [0, 1, 2, 3, 4, 5, 6, 7, 8, 9, 10] rfl) h
      · replace h := if_t h c63
        refine lv_iload hx hb dX11_sidesOf_64 (lv_at hl 6 rfl) ?_
        refine lv_goto (tgt := 99) hx hb dX11_sidesOf_66 (by decide) ?_
        exact hj61 _ _ _ _ hH (lv_sub hl [0, 1, 2, 3, 4, 5, 6, 7, 8, 9, 10] rfl) h
set_option maxHeartbeats 4000000 in
set_option maxRecDepth 100000 in
theorem w_X11_sidesOf_38 (C : Cx p s m args meth c cX11_sidesOf 13 RX11 g) (hr : meth.sig.returnType = (some .int)) {o : Int32 × sT}  {a1 : Int32} {a2 : Int32} {x3 : Int32} {x9 : Int32} {x10 : Int32} {x11 : Int32}  (j23 : Int32 → sT → Option (Int32 × sT)) (hj23 : ∀ (x14 : Int32) (S15 : sT) (H : Heap) (locs : List Loc) (ls : Array Slot), Hp g s S15 H locs → lv_has ls 13 [(0, .ref (gad g 10 0)), (1, .int a1), (2, .int a2), (3, .int x9), (4, .int x10), (5, .int x3), (6, .int x11), (7, .int x14)] → j23 x14 S15 = some o → W p l e (rmL 6) s m args below meth c H locs 0 0 (Qm g below args s (some (.int o.1)) o.2) (F0 m 195 ls [])) : ∀ (n : Nat) (x24 : Int32) (x25 : Int32) (S26 : sT) (H : Heap) (locs : List Loc) (ls : Array Slot), Hp g s S26 H locs → lv_has ls 13 [(0, .ref (gad g 10 0)), (1, .int a1), (2, .int a2), (3, .int x9), (4, .int x10), (5, .int x3), (6, .int x11), (7, .int x24), (8, .int x25)] → l_X11_sidesOf_38 a1 x3 x11 j23 n x24 x25 S26 = some o → W p l e (rmL 6) s m args below meth c H locs 0 0 (Qm g below args s (some (.int o.1)) o.2) (F0 m 38 ls []) := by
  obtain ⟨hx, hb, hml, hown, hts, hlk, hK⟩ := id C
  intro n
  induction n with
  | zero =>
    intro x24 x25 S26 H locs ls hH hl h
    cases h
  | succ n ih =>
    intro x24 x25 S26 H locs ls hH hl h
    rw [l_X11_sidesOf_38_s] at h
    unfold b_X11_sidesOf_38 at h
    refine lv_iload hx hb dX11_sidesOf_38 (lv_at hl 8 rfl) ?_
    refine lv_bipush (v := (9 : Int32)) hx hb dX11_sidesOf_40 (by decide) ?_
    refine lv_icmp_ge (tgt := 195) hx hb dX11_sidesOf_42 (by decide) (fun c65 => ?_) (fun c65 => ?_)
    · replace h := if_t h c65
      exact hj23 _ _ _ _ _ hH (lv_sub hl [0, 1, 2, 3, 4, 5, 6, 7] rfl) h
    · replace h := if_f h c65
      refine lv_bipush (v := (-9 : Int32)) hx hb dX11_sidesOf_45 (by decide) ?_
      refine lv_istore (lv' := [(9, .int (-9 : Int32)), (0, .ref (gad g 10 0)), (1, .int a1), (2, .int a2), (3, .int x9), (4, .int x10), (5, .int x3), (6, .int x11), (7, .int x24), (8, .int x25)]) hx hb dX11_sidesOf_47 hl (by decide) rfl (fun ls hl => ?_)
      refine lv_iconst (v := (0 : Int32)) hx hb dX11_sidesOf_49 (by decide) ?_
      refine lv_istore (lv' := [(10, .int (0 : Int32)), (9, .int (-9 : Int32)), (0, .ref (gad g 10 0)), (1, .int a1), (2, .int a2), (3, .int x9), (4, .int x10), (5, .int x3), (6, .int x11), (7, .int x24), (8, .int x25)]) hx hb dX11_sidesOf_50 hl (by decide) rfl (fun ls hl => ?_)
      obtain ⟨j36, ej36, h⟩ := jn_e h
      have hj36 : ∀ (x28 : Int32) (S29 : sT) (H : Heap) (locs : List Loc) (ls : Array Slot), Hp g s S29 H locs → lv_has ls 13 [(0, .ref (gad g 10 0)), (1, .int a1), (2, .int a2), (3, .int x9), (4, .int x10), (5, .int x3), (6, .int x11), (7, .int x24), (8, .int x25), (9, .int x28)] → j36 x28 S29 = some o → W p l e (rmL 6) s m args below meth c H locs 0 0 (Qm g below args s (some (.int o.1)) o.2) (F0 m 166 ls []) := by
        intro x28 S29 H locs ls hH hl h
        rw [ej36] at h
        try dsimp only at h
        refine lv_iconst (v := (1 : Int32)) hx hb dX11_sidesOf_166 (by decide) ?_
        refine lv_iload hx hb dX11_sidesOf_167 (lv_at hl 5 rfl) ?_
        refine lv_isub hx hb dX11_sidesOf_169 ?_
        refine lv_iload hx hb dX11_sidesOf_170 (lv_at hl 9 rfl) ?_
        refine lv_iload hx hb dX11_sidesOf_172 (lv_at hl 7 rfl) ?_
        obtain ⟨r31, hc30, h⟩ := bn_e h
        refine r_callS1 (As := [.int ((1 : Int32) - x3), .int x28, .int x24]) C hl.1 hH (c_X11_better l g  hc30) q734 q5 q732 q733 nd_X11_better rfl (by decide) ⟨Nat.zero_le _, Nat.zero_le _⟩ (Nat.le_of_ble_eq_true rfl) dX11_sidesOf_174 (fun H locs hH => ?_)
        obtain ⟨j34, ej34, h⟩ := jn_e h
        have hj34 : ∀ (y32 : Int32) (H : Heap) (locs : List Loc) (ls : Array Slot), Hp g s S29 H locs → lv_has ls 13 [(0, .ref (gad g 10 0)), (1, .int a1), (2, .int a2), (3, .int x9), (4, .int x10), (5, .int x3), (6, .int x11), (8, .int x25)] → j34 y32 = some o → W p l e (rmL 6) s m args below meth c H locs 0 0 (Qm g below args s (some (.int o.1)) o.2) (F0 m 187 ls [.int y32]) := by
          intro y32 H locs ls hH hl h
          rw [ej34] at h
          try dsimp only at h
          refine lv_istore (lv' := [(7, .int y32), (0, .ref (gad g 10 0)), (1, .int a1), (2, .int a2), (3, .int x9), (4, .int x10), (5, .int x3), (6, .int x11), (8, .int x25)]) hx hb dX11_sidesOf_187 hl (by decide) rfl (fun ls hl => ?_)
          obtain ⟨x33, ex33⟩ : ∃ z : Int32, z = (x25 + (1 : Int32)) := ⟨_, rfl⟩
          replace h := lt_e h ex33
          refine lv_iinc (v := x33) (lv' := [(8, .int x33), (7, .int y32), (0, .ref (gad g 10 0)), (1, .int a1), (2, .int a2), (3, .int x9), (4, .int x10), (5, .int x3), (6, .int x11)]) hx hb dX11_sidesOf_189 hl (k := 8) rfl (by rw [ex33]; rfl) (by decide) rfl (fun ls hl => ?_)
          refine lv_goto (tgt := 38) hx hb dX11_sidesOf_192 (by decide) ?_
          exact ih _ _ _ _ _ _ hH (lv_sub hl [2, 3, 4, 5, 6, 7, 8, 1, 0] rfl) h
        clear ej34
        refine lv_if_eq (tgt := 185) hx hb dX11_sidesOf_177 (by decide) (fun c35 => ?_) (fun c35 => ?_)
        · replace h := if_t h c35
          refine lv_iload hx hb dX11_sidesOf_185 (lv_at hl 7 rfl) ?_
          exact hj34 _ _ _ _ hH (lv_sub hl [0, 1, 2, 3, 4, 5, 6, 8] rfl) h
        · replace h := if_f h c35
          refine lv_iload hx hb dX11_sidesOf_180 (lv_at hl 9 rfl) ?_
          refine lv_goto (tgt := 187) hx hb dX11_sidesOf_182 (by decide) ?_
          exact hj34 _ _ _ _ hH (lv_sub hl [0, 1, 2, 3, 4, 5, 6, 8] rfl) h
      clear ej36
      exact w_X11_sidesOf_52 C hr  j36 hj36 _ _ _ _ _ _ _ hH (lv_sub hl [2, 3, 4, 5, 6, 7, 8, 9, 10, 1, 0] rfl) h
set_option maxHeartbeats 4000000 in
set_option maxRecDepth 100000 in
theorem w_X11_sidesOf_24 (C : Cx p s m args meth c cX11_sidesOf 13 RX11 g) (hr : meth.sig.returnType = (some .int)) {o : Int32 × sT}  {a1 : Int32} {a2 : Int32} {x3 : Int32}  (j8 : Int32 → Int32 → sT → Option (Int32 × sT)) (hj8 : ∀ (x4 : Int32) (x5 : Int32) (S6 : sT) (H : Heap) (locs : List Loc) (ls : Array Slot), Hp g s S6 H locs → lv_has ls 13 [(2, .int a2), (3, .int x4), (4, .int x5)] → j8 x4 x5 S6 = some o → W p l e (rmL 6) s m args below meth c H locs 0 0 (Qm g below args s (some (.int o.1)) o.2) (F0 m 219 ls [])) : ∀ (n : Nat) (x9 : Int32) (x10 : Int32) (x11 : Int32) (S12 : sT) (H : Heap) (locs : List Loc) (ls : Array Slot), Hp g s S12 H locs → lv_has ls 13 [(0, .ref (gad g 10 0)), (1, .int a1), (2, .int a2), (3, .int x9), (4, .int x10), (5, .int x3), (6, .int x11)] → l_X11_sidesOf_24 a1 x3 j8 n x9 x10 x11 S12 = some o → W p l e (rmL 6) s m args below meth c H locs 0 0 (Qm g below args s (some (.int o.1)) o.2) (F0 m 24 ls []) := by
  obtain ⟨hx, hb, hml, hown, hts, hlk, hK⟩ := id C
  intro n
  induction n with
  | zero =>
    intro x9 x10 x11 S12 H locs ls hH hl h
    cases h
  | succ n ih =>
    intro x9 x10 x11 S12 H locs ls hH hl h
    rw [l_X11_sidesOf_24_s] at h
    unfold b_X11_sidesOf_24 at h
    refine lv_iload hx hb dX11_sidesOf_24 (lv_at hl 6 rfl) ?_
    refine lv_bipush (v := (9 : Int32)) hx hb dX11_sidesOf_26 (by decide) ?_
    refine lv_icmp_ge (tgt := 219) hx hb dX11_sidesOf_28 (by decide) (fun c66 => ?_) (fun c66 => ?_)
    · replace h := if_t h c66
      exact hj8 _ _ _ _ _ _ hH (lv_sub hl [2, 3, 4] rfl) h
    · replace h := if_f h c66
      refine lv_bipush (v := (-9 : Int32)) hx hb dX11_sidesOf_31 (by decide) ?_
      refine lv_istore (lv' := [(7, .int (-9 : Int32)), (0, .ref (gad g 10 0)), (1, .int a1), (2, .int a2), (3, .int x9), (4, .int x10), (5, .int x3), (6, .int x11)]) hx hb dX11_sidesOf_33 hl (by decide) rfl (fun ls hl => ?_)
      refine lv_iconst (v := (0 : Int32)) hx hb dX11_sidesOf_35 (by decide) ?_
      refine lv_istore (lv' := [(8, .int (0 : Int32)), (7, .int (-9 : Int32)), (0, .ref (gad g 10 0)), (1, .int a1), (2, .int a2), (3, .int x9), (4, .int x10), (5, .int x3), (6, .int x11)]) hx hb dX11_sidesOf_36 hl (by decide) rfl (fun ls hl => ?_)
      obtain ⟨j23, ej23, h⟩ := jn_e h
      have hj23 : ∀ (x14 : Int32) (S15 : sT) (H : Heap) (locs : List Loc) (ls : Array Slot), Hp g s S15 H locs → lv_has ls 13 [(0, .ref (gad g 10 0)), (1, .int a1), (2, .int a2), (3, .int x9), (4, .int x10), (5, .int x3), (6, .int x11), (7, .int x14)] → j23 x14 S15 = some o → W p l e (rmL 6) s m args below meth c H locs 0 0 (Qm g below args s (some (.int o.1)) o.2) (F0 m 195 ls []) := by
        intro x14 S15 H locs ls hH hl h
        rw [ej23] at h
        try dsimp only at h
        refine lv_iload hx hb dX11_sidesOf_195 (lv_at hl 5 rfl) ?_
        refine lv_iload hx hb dX11_sidesOf_197 (lv_at hl 7 rfl) ?_
        refine lv_iload_n hx hb dX11_sidesOf_199 rfl (lv_at hl 3 rfl) ?_
        obtain ⟨r17, hc16, h⟩ := bn_e h
        refine r_callS1 (As := [.int x3, .int x14, .int x9]) C hl.1 hH (c_X11_better l g  hc16) q734 q5 q732 q733 nd_X11_better rfl (by decide) ⟨Nat.zero_le _, Nat.zero_le _⟩ (Nat.le_of_ble_eq_true rfl) dX11_sidesOf_200 (fun H locs hH => ?_)
        obtain ⟨j21, ej21, h⟩ := jn_e h
        have hj21 : ∀ (x18 : Int32) (x19 : Int32) (H : Heap) (locs : List Loc) (ls : Array Slot), Hp g s S15 H locs → lv_has ls 13 [(0, .ref (gad g 10 0)), (1, .int a1), (2, .int a2), (3, .int x18), (4, .int x19), (5, .int x3), (6, .int x11)] → j21 x18 x19 = some o → W p l e (rmL 6) s m args below meth c H locs 0 0 (Qm g below args s (some (.int o.1)) o.2) (F0 m 213 ls []) := by
          intro x18 x19 H locs ls hH hl h
          rw [ej21] at h
          try dsimp only at h
          obtain ⟨x20, ex20⟩ : ∃ z : Int32, z = (x11 + (1 : Int32)) := ⟨_, rfl⟩
          replace h := lt_e h ex20
          refine lv_iinc (v := x20) (lv' := [(6, .int x20), (0, .ref (gad g 10 0)), (1, .int a1), (2, .int a2), (3, .int x18), (4, .int x19), (5, .int x3)]) hx hb dX11_sidesOf_213 hl (k := 6) rfl (by rw [ex20]; rfl) (by decide) rfl (fun ls hl => ?_)
          refine lv_goto (tgt := 24) hx hb dX11_sidesOf_216 (by decide) ?_
          exact ih _ _ _ _ _ _ _ hH (lv_sub hl [1, 2, 3, 4, 5, 6, 0] rfl) h
        clear ej21
        refine lv_if_eq (tgt := 213) hx hb dX11_sidesOf_203 (by decide) (fun c22 => ?_) (fun c22 => ?_)
        · replace h := if_t h c22
          exact hj21 _ _ _ _ _ hH (lv_sub hl [0, 1, 2, 3, 4, 5, 6] rfl) h
        · replace h := if_f h c22
          refine lv_iload hx hb dX11_sidesOf_206 (lv_at hl 7 rfl) ?_
          refine lv_istore_n (lv' := [(3, .int x14), (0, .ref (gad g 10 0)), (1, .int a1), (2, .int a2), (4, .int x10), (5, .int x3), (6, .int x11), (7, .int x14)]) hx hb dX11_sidesOf_208 rfl hl (by decide) rfl (fun ls hl => ?_)
          refine lv_iload hx hb dX11_sidesOf_209 (lv_at hl 6 rfl) ?_
          refine lv_istore (lv' := [(4, .int x11), (3, .int x14), (0, .ref (gad g 10 0)), (1, .int a1), (2, .int a2), (5, .int x3), (6, .int x11), (7, .int x14)]) hx hb dX11_sidesOf_211 hl (by decide) rfl (fun ls hl => ?_)
          exact hj21 _ _ _ _ _ hH (lv_sub hl [2, 3, 4, 1, 0, 5, 6] rfl) h
      clear ej23
      exact w_X11_sidesOf_38 C hr  j23 hj23 _ _ _ _ _ _ _ hH (lv_sub hl [2, 3, 4, 5, 6, 7, 8, 1, 0] rfl) h
set_option maxHeartbeats 4000000 in
set_option maxRecDepth 100000 in
theorem w_X11_sidesOf (C : Cx p s m args meth c cX11_sidesOf 13 RX11 g) (hr : meth.sig.returnType = (some .int)) {o : Int32 × sT} {a1 : Int32} {a2 : Int32}  {S : sT} {H : Heap} {locs : List Loc} {ls : Array Slot} (hH : Hp g s S H locs) (hl : lv_has ls 13 [(0, .ref (gad g 10 0)), (1, .int a1), (2, .int a2)]) (h : f_X11_sidesOf a1 a2 S = some o) : W p l e (rmL 6) s m args below meth c H locs 0 0 (Qm g below args s (some (.int o.1)) o.2) (F0 m 0 ls []) := by
  obtain ⟨hx, hb, hml, hown, hts, hlk, hK⟩ := id C
  unfold f_X11_sidesOf at h
  refine lv_bipush (v := (-9 : Int32)) hx hb dX11_sidesOf_0 (by decide) ?_
  refine lv_istore_n (lv' := [(3, .int (-9 : Int32)), (0, .ref (gad g 10 0)), (1, .int a1), (2, .int a2)]) hx hb dX11_sidesOf_2 rfl hl (by decide) rfl (fun ls hl => ?_)
  refine lv_iconst (v := (-1 : Int32)) hx hb dX11_sidesOf_3 (by decide) ?_
  refine lv_istore (lv' := [(4, .int (-1 : Int32)), (3, .int (-9 : Int32)), (0, .ref (gad g 10 0)), (1, .int a1), (2, .int a2)]) hx hb dX11_sidesOf_4 hl (by decide) rfl (fun ls hl => ?_)
  refine lv_aload_n hx hb dX11_sidesOf_6 rfl (lv_at hl 2 rfl) ?_
  refine gf_X11_37 C hH dX11_sidesOf_7 ?_
  refine lv_iconst (v := (0 : Int32)) hx hb dX11_sidesOf_10 (by decide) ?_
  obtain ⟨hv1, h⟩ := ck_e h
  refine r_ald C hH ka_42 (by decide) (by decide) (vi_in hv1) dX11_sidesOf_11 ?_
  refine lv_aload_n hx hb dX11_sidesOf_12 rfl (lv_at hl 2 rfl) ?_
  refine gf_X11_108 C hH dX11_sidesOf_13 ?_
  refine lv_iadd hx hb dX11_sidesOf_16 ?_
  refine lv_iconst (v := (2 : Int32)) hx hb dX11_sidesOf_17 (by decide) ?_
  obtain ⟨hv2, h⟩ := ck_e h
  refine lv_irem hx hb dX11_sidesOf_18 (nz_e hv2) ?_
  refine lv_topi (fun x3 ex3 => ?_)
  replace h := lt_e h ex3
  refine lv_istore (lv' := [(5, .int x3), (4, .int (-1 : Int32)), (3, .int (-9 : Int32)), (0, .ref (gad g 10 0)), (1, .int a1), (2, .int a2)]) hx hb dX11_sidesOf_19 hl (by decide) rfl (fun ls hl => ?_)
  refine lv_iconst (v := (0 : Int32)) hx hb dX11_sidesOf_21 (by decide) ?_
  refine lv_istore (lv' := [(6, .int (0 : Int32)), (5, .int x3), (4, .int (-1 : Int32)), (3, .int (-9 : Int32)), (0, .ref (gad g 10 0)), (1, .int a1), (2, .int a2)]) hx hb dX11_sidesOf_22 hl (by decide) rfl (fun ls hl => ?_)
  obtain ⟨j8, ej8, h⟩ := jn_e h
  have hj8 : ∀ (x4 : Int32) (x5 : Int32) (S6 : sT) (H : Heap) (locs : List Loc) (ls : Array Slot), Hp g s S6 H locs → lv_has ls 13 [(2, .int a2), (3, .int x4), (4, .int x5)] → j8 x4 x5 S6 = some o → W p l e (rmL 6) s m args below meth c H locs 0 0 (Qm g below args s (some (.int o.1)) o.2) (F0 m 219 ls []) := by
    intro x4 x5 S6 H locs ls hH hl h
    rw [ej8] at h
    try dsimp only at h
    refine lv_iload_n hx hb dX11_sidesOf_219 rfl (lv_at hl 0 rfl) ?_
    refine lv_if_ne (tgt := 227) hx hb dX11_sidesOf_220 (by decide) (fun c7 => ?_) (fun c7 => ?_)
    · replace h := if_f h c7
      refine lv_iload hx hb dX11_sidesOf_227 (lv_at hl 2 rfl) ?_
      exact E_int C hr hH h dX11_sidesOf_229
    · replace h := if_t h c7
      refine lv_iload_n hx hb dX11_sidesOf_223 rfl (lv_at hl 1 rfl) ?_
      refine lv_goto (tgt := 229) hx hb dX11_sidesOf_224 (by decide) ?_
      exact E_int C hr hH h dX11_sidesOf_229
  clear ej8
  exact w_X11_sidesOf_24 C hr  j8 hj8 _ _ _ _ _ _ _ _ hH (lv_sub hl [4, 5, 6, 3, 2, 1, 0] rfl) h
theorem c_X11_sidesOf (l : Launch) (g : gT) {a1 : Int32} {a2 : Int32}  {S : sT} {r : Int32} {S1 : sT} (h : f_X11_sidesOf a1 a2 S = some (r, S1)) : MF l yX11_sidesOf cX11_sidesOf 13 (some .int) 6 g [.ref (gad g 10 0), .int a1, .int a2] S (some (.int r)) S1 := by
  refine MF.of (own := RX11) rfl rfl (Nat.le_of_ble_eq_true rfl) ?_
  intro p e s m below meth c C hr hH ls hl
  exact w_X11_sidesOf C hr (o := (r, S1))  hH hl h
theorem nd_X11_sides : yX11_sides.cls ≠ "java/lang/invoke/MethodHandle" ∧ yX11_sides.cls ≠ "java/lang/invoke/VarHandle" ∧ (parseMethodDescriptor yX11_sides.desc).map (fun d => d.parameters.length) = some 2 := by decide +kernel
def f_X11_sides (a1 : Int32) (a2 : Int32) (S : sT) : Option (Int32 × sT) :=
 bn (f_X11_reads  S) (fun S2 =>
 bn (f_X11_in ((a1).toInt64) (1 : Int64) (3 : Int64) S2) (fun r4 =>
 (if r4 = (0 : Int32) then
 some ((-2 : Int32), S2)
 else
 bn (f_X11_isTwo a2 S2) (fun r6 =>
 (if r6 = (0 : Int32) then
 some ((-2 : Int32), S2)
 else
 bn2 (f_X11_sidesOf a1 a2 S2) (fun r8 S9 =>
 some (r8, S9)))))))
set_option maxHeartbeats 4000000 in
set_option maxRecDepth 100000 in
theorem w_X11_sides (C : Cx p s m args meth c cX11_sides 3 RX11 g) (hr : meth.sig.returnType = (some .int)) {o : Int32 × sT} {a1 : Int32} {a2 : Int32}  {S : sT} {H : Heap} {locs : List Loc} {ls : Array Slot} (hH : Hp g s S H locs) (hl : lv_has ls 3 [(0, .ref (gad g 10 0)), (1, .int a1), (2, .int a2)]) (h : f_X11_sides a1 a2 S = some o) : W p l e (rmL 7) s m args below meth c H locs 0 0 (Qm g below args s (some (.int o.1)) o.2) (F0 m 0 ls []) := by
  obtain ⟨hx, hb, hml, hown, hts, hlk, hK⟩ := id C
  unfold f_X11_sides at h
  refine lv_aload_n hx hb dX11_sides_0 rfl (lv_at hl 0 rfl) ?_
  obtain ⟨S2, hc1, h⟩ := bn_e h
  refine r_callV0 (ki := 10) (i := 0) (ci := 10) (As := []) C hl.1 hH (c_X11_reads l g  hc1) q410 q5 q407 q408 q409 nd_X11_reads rfl (by decide) ⟨Nat.zero_le _, Nat.zero_le _⟩ (by decide) (by decide) ⟨_, rfl⟩ rfl (Nat.le_of_ble_eq_true rfl) dX11_sides_1 (fun H locs hH => ?_)
  refine lv_iload_n hx hb dX11_sides_4 rfl (lv_at hl 1 rfl) ?_
  refine lv_i2l hx hb dX11_sides_5 rfl ?_
  refine lv_lconst (v := (1 : Int64)) hx hb dX11_sides_6 (by decide) ?_
  refine lv_ldc2 (v := (3 : Int64)) hx hb hown (hts _ q541) dX11_sides_7 ?_
  obtain ⟨r4, hc3, h⟩ := bn_e h
  refine r_callS1 (As := [.long ((a1).toInt64), .long (1 : Int64), .long (3 : Int64)]) C hl.1 hH (c_X11_in l g  hc3) q307 q5 q305 q306 nd_X11_in rfl (by decide) ⟨Nat.zero_le _, Nat.zero_le _⟩ (Nat.le_of_ble_eq_true rfl) dX11_sides_10 (fun H locs hH => ?_)
  refine lv_if_eq (tgt := 32) hx hb dX11_sides_13 (by decide) (fun c11 => ?_) (fun c11 => ?_)
  · replace h := if_t h c11
    refine lv_bipush (v := (-2 : Int32)) hx hb dX11_sides_32 (by decide) ?_
    exact E_int C hr hH h dX11_sides_34
  · replace h := if_f h c11
    refine lv_iload_n hx hb dX11_sides_16 rfl (lv_at hl 2 rfl) ?_
    obtain ⟨r6, hc5, h⟩ := bn_e h
    refine r_callS1 (As := [.int a2]) C hl.1 hH (c_X11_isTwo l g  hc5) q304 q5 q302 q303 nd_X11_isTwo rfl (by decide) ⟨Nat.zero_le _, Nat.zero_le _⟩ (Nat.le_of_ble_eq_true rfl) dX11_sides_17 (fun H locs hH => ?_)
    refine lv_if_eq (tgt := 32) hx hb dX11_sides_20 (by decide) (fun c10 => ?_) (fun c10 => ?_)
    · replace h := if_t h c10
      refine lv_bipush (v := (-2 : Int32)) hx hb dX11_sides_32 (by decide) ?_
      exact E_int C hr hH h dX11_sides_34
    · replace h := if_f h c10
      refine lv_aload_n hx hb dX11_sides_23 rfl (lv_at hl 0 rfl) ?_
      refine lv_iload_n hx hb dX11_sides_24 rfl (lv_at hl 1 rfl) ?_
      refine lv_iload_n hx hb dX11_sides_25 rfl (lv_at hl 2 rfl) ?_
      obtain ⟨r8, S9, hc7, h⟩ := bn2_e h
      refine r_callV1 (ki := 10) (i := 0) (ci := 10) (As := [.int a1, .int a2]) C hl.1 hH (c_X11_sidesOf l g  hc7) q727 q5 q724 q725 q726 nd_X11_sidesOf rfl (by decide) ⟨Nat.zero_le _, Nat.zero_le _⟩ (by decide) (by decide) ⟨_, rfl⟩ rfl (Nat.le_of_ble_eq_true rfl) dX11_sides_26 (fun H locs hH => ?_)
      refine lv_goto (tgt := 34) hx hb dX11_sides_29 (by decide) ?_
      exact E_int C hr hH h dX11_sides_34
theorem c_X11_sides (l : Launch) (g : gT) {a1 : Int32} {a2 : Int32}  {S : sT} {r : Int32} {S1 : sT} (h : f_X11_sides a1 a2 S = some (r, S1)) : MF l yX11_sides cX11_sides 3 (some .int) 7 g [.ref (gad g 10 0), .int a1, .int a2] S (some (.int r)) S1 := by
  refine MF.of (own := RX11) rfl rfl (Nat.le_of_ble_eq_true rfl) ?_
  intro p e s m below meth c C hr hH ls hl
  exact w_X11_sides C hr (o := (r, S1))  hH hl h
end G24
