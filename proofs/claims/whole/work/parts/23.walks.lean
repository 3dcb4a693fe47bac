section G23
variable {p : Program} {l : Launch} {e : Env} {s : State} {m : MethodId} {args : Array Value} {below : List Frame} {meth : Method} {c : Code} {g : gT}
theorem nd_X11_beside : yX11_beside.cls ≠ "java/lang/invoke/MethodHandle" ∧ yX11_beside.cls ≠ "java/lang/invoke/VarHandle" ∧ (parseMethodDescriptor yX11_beside.desc).map (fun d => d.parameters.length) = some 1 := by decide +kernel
def f_X11_beside (a1 : Int32) (S : sT) : Option (Int32) :=
 jn (fun (y1 : Int32) => jn (fun (y2 : Int32) => (if y1 ≤ y2 then
 some y2
 else
 some y1))
 (fun j4 => (if (S.1 115 0 0) ≤ (a1 + (1 : Int32)) then
 j4 (0 : Int32)
 else
 bn (f_X11_highOf (a1 + (1 : Int32)) S) (fun r6 =>
 j4 r6))))
 (fun j8 => (if a1 ≤ (0 : Int32) then
 j8 (0 : Int32)
 else
 bn (f_X11_highOf (a1 - (1 : Int32)) S) (fun r10 =>
 j8 r10)))
set_option maxHeartbeats 4000000 in
set_option maxRecDepth 100000 in
theorem w_X11_beside (C : Cx p s m args meth c cX11_beside 4 RX11 g) (hr : meth.sig.returnType = (some .int)) {o : Int32} {a1 : Int32}  {S : sT} {H : Heap} {locs : List Loc} {ls : Array Slot} (hH : Hp g s S H locs) (hl : lv_has ls 4 [(0, .ref (gad g 10 0)), (1, .int a1)]) (h : f_X11_beside a1 S = some o) : W p l e (rmL 3) s m args below meth c H locs 0 0 (Qm g below args s (some (.int o)) S) (F0 m 0 ls []) := by
  obtain ⟨hx, hb, hml, hown, hts, hlk, hK⟩ := id C
  unfold f_X11_beside at h
  refine lv_iload_n hx hb dX11_beside_0 rfl (lv_at hl 1 rfl) ?_
  obtain ⟨j8, ej8, h⟩ := jn_e h
  have hj8 : ∀ (y1 : Int32) (H : Heap) (locs : List Loc) (ls : Array Slot), Hp g s S H locs → lv_has ls 4 [(0, .ref (gad g 10 0)), (1, .int a1)] → j8 y1 = some o → W p l e (rmL 3) s m args below meth c H locs 0 0 (Qm g below args s (some (.int o)) S) (F0 m 15 ls [.int y1]) := by
    intro y1 H locs ls hH hl h
    rw [ej8] at h
    try dsimp only at h
    refine lv_istore_n (lv' := [(2, .int y1), (0, .ref (gad g 10 0)), (1, .int a1)]) hx hb dX11_beside_15 rfl hl (by decide) rfl (fun ls hl => ?_)
    refine lv_iload_n hx hb dX11_beside_16 rfl (lv_at hl 2 rfl) ?_
    refine lv_iconst (v := (1 : Int32)) hx hb dX11_beside_17 (by decide) ?_
    refine lv_iadd hx hb dX11_beside_18 ?_
    refine lv_aload_n hx hb dX11_beside_19 rfl (lv_at hl 1 rfl) ?_
    refine gf_X11_91 C hH dX11_beside_20 ?_
    obtain ⟨j4, ej4, h⟩ := jn_e h
    have hj4 : ∀ (y2 : Int32) (H : Heap) (locs : List Loc) (ls : Array Slot), Hp g s S H locs → lv_has ls 4 [(2, .int y1)] → j4 y2 = some o → W p l e (rmL 3) s m args below meth c H locs 0 0 (Qm g below args s (some (.int o)) S) (F0 m 37 ls [.int y2]) := by
      intro y2 H locs ls hH hl h
      rw [ej4] at h
      try dsimp only at h
      refine lv_istore_n (lv' := [(3, .int y2), (2, .int y1)]) hx hb dX11_beside_37 rfl hl (by decide) rfl (fun ls hl => ?_)
      refine lv_iload_n hx hb dX11_beside_38 rfl (lv_at hl 1 rfl) ?_
      refine lv_iload_n hx hb dX11_beside_39 rfl (lv_at hl 0 rfl) ?_
      refine lv_icmp_le (tgt := 47) hx hb dX11_beside_40 (by decide) (fun c3 => ?_) (fun c3 => ?_)
      · replace h := if_t h c3
        refine lv_iload_n hx hb dX11_beside_47 rfl (lv_at hl 0 rfl) ?_
        exact E_intc C hr hH h dX11_beside_48
      · replace h := if_f h c3
        refine lv_iload_n hx hb dX11_beside_43 rfl (lv_at hl 1 rfl) ?_
        refine lv_goto (tgt := 48) hx hb dX11_beside_44 (by decide) ?_
        exact E_intc C hr hH h dX11_beside_48
    clear ej4
    refine lv_icmp_ge (tgt := 36) hx hb dX11_beside_23 (by decide) (fun c7 => ?_) (fun c7 => ?_)
    · replace h := if_t h c7
      refine lv_iconst (v := (0 : Int32)) hx hb dX11_beside_36 (by decide) ?_
      exact hj4 _ _ _ _ hH (lv_sub hl [0] rfl) h
    · replace h := if_f h c7
      refine lv_aload_n hx hb dX11_beside_26 rfl (lv_at hl 1 rfl) ?_
      refine lv_iload_n hx hb dX11_beside_27 rfl (lv_at hl 2 rfl) ?_
      refine lv_iconst (v := (1 : Int32)) hx hb dX11_beside_28 (by decide) ?_
      refine lv_iadd hx hb dX11_beside_29 ?_
      obtain ⟨r6, hc5, h⟩ := bn_e h
      refine r_callV1 (ki := 10) (i := 0) (ci := 10) (As := [.int (a1 + (1 : Int32))]) C hl.1 hH (c_X11_highOf l g  hc5) q453 q5 q450 q451 q452 nd_X11_highOf rfl (by decide) ⟨Nat.zero_le _, Nat.zero_le _⟩ (by decide) (by decide) ⟨_, rfl⟩ rfl (Nat.le_of_ble_eq_true rfl) dX11_beside_30 (fun H locs hH => ?_)
      refine lv_goto (tgt := 37) hx hb dX11_beside_33 (by decide) ?_
      exact hj4 _ _ _ _ hH (lv_sub hl [0] rfl) h
  clear ej8
  refine lv_if_le (tgt := 14) hx hb dX11_beside_1 (by decide) (fun c11 => ?_) (fun c11 => ?_)
  · replace h := if_t h c11
    refine lv_iconst (v := (0 : Int32)) hx hb dX11_beside_14 (by decide) ?_
    exact hj8 _ _ _ _ hH (lv_sub hl [0, 1] rfl) h
  · replace h := if_f h c11
    refine lv_aload_n hx hb dX11_beside_4 rfl (lv_at hl 0 rfl) ?_
    refine lv_iload_n hx hb dX11_beside_5 rfl (lv_at hl 1 rfl) ?_
    refine lv_iconst (v := (1 : Int32)) hx hb dX11_beside_6 (by decide) ?_
    refine lv_isub hx hb dX11_beside_7 ?_
    obtain ⟨r10, hc9, h⟩ := bn_e h
    refine r_callV1 (ki := 10) (i := 0) (ci := 10) (As := [.int (a1 - (1 : Int32))]) C hl.1 hH (c_X11_highOf l g  hc9) q453 q5 q450 q451 q452 nd_X11_highOf rfl (by decide) ⟨Nat.zero_le _, Nat.zero_le _⟩ (by decide) (by decide) ⟨_, rfl⟩ rfl (Nat.le_of_ble_eq_true rfl) dX11_beside_8 (fun H locs hH => ?_)
    refine lv_goto (tgt := 15) hx hb dX11_beside_11 (by decide) ?_
    exact hj8 _ _ _ _ hH (lv_sub hl [0, 1] rfl) h
theorem c_X11_beside (l : Launch) (g : gT) {a1 : Int32}  {S : sT} {r : Int32} (h : f_X11_beside a1 S = some r) : MF l yX11_beside cX11_beside 4 (some .int) 3 g [.ref (gad g 10 0), .int a1] S (some (.int r)) S := by
  refine MF.of (own := RX11) rfl rfl (Nat.le_of_ble_eq_true rfl) ?_
  intro p e s m below meth c C hr hH ls hl
  exact w_X11_beside C hr (o := r)  hH hl h
theorem nd_X11_weakNow : yX11_weakNow.cls ≠ "java/lang/invoke/MethodHandle" ∧ yX11_weakNow.cls ≠ "java/lang/invoke/VarHandle" ∧ (parseMethodDescriptor yX11_weakNow.desc).map (fun d => d.parameters.length) = some 0 := by decide +kernel
def b_X11_weakNow_4 (S : sT) (x1 : Int32) (x2 : Int32) (k3 : Int32 → Int32 → Option (Int32)) : Option (Int32) :=
 (if (S.1 115 0 0) ≤ x2 then
 some x1
 else
 bn (f_X11_highOf x2 S) (fun r5 =>
 bn (f_X11_beside x2 S) (fun r7 =>
 ck (vi (1 : Int32) 6) (
 ck (vi (2 : Int32) 6) (
 jn (fun (y10 : Int32) => jn (fun (y11 : Int32) => lt (x1 ||| y11) (fun x12 =>
 lt (x2 + (1 : Int32)) (fun x13 =>
 k3 x12 x13)))
 (fun j14 => (if y10 = (0 : Int32) then
 j14 (0 : Int32)
 else
 j14 ((1 : Int32) <<< (x2 &&& 31)))))
 (fun j16 => jn (j16 (1 : Int32))
 (fun j17 => (if ((S.1 42 0 (cl (1 : Int32))) - (S.1 42 0 (cl (2 : Int32)))) < (r5 - r7) then
 j17
 else
 bn (f_X11_leanOf x2 S) (fun r19 =>
 bn (f_X11_amount r19 S) (fun r21 =>
 ck (vi (3 : Int32) 6) (
 (if r21 ≤ (S.1 42 0 (cl (3 : Int32))) then
 j16 (0 : Int32)
 else
 j17))))))))))))
def l_X11_weakNow_4 (S : sT) : Nat → Int32 → Int32 → Option (Int32)
 | 0, _, _ => none
 | n + 1, x1, x2 => b_X11_weakNow_4 S x1 x2 (l_X11_weakNow_4 S n)
theorem l_X11_weakNow_4_s (S : sT) (n : Nat) (x1 : Int32) (x2 : Int32) : l_X11_weakNow_4 S (n + 1) x1 x2 = b_X11_weakNow_4 S x1 x2 (l_X11_weakNow_4 S n) := rfl
def f_X11_weakNow  (S : sT) : Option (Int32) :=
 l_X11_weakNow_4 S FU (0 : Int32) (0 : Int32)
set_option maxHeartbeats 4000000 in
set_option maxRecDepth 100000 in
theorem w_X11_weakNow_4 (C : Cx p s m args meth c cX11_weakNow 4 RX11 g) (hr : meth.sig.returnType = (some .int)) {o : Int32}  {S : sT}   : ∀ (n : Nat) (x1 : Int32) (x2 : Int32) (H : Heap) (locs : List Loc) (ls : Array Slot), Hp g s S H locs → lv_has ls 4 [(0, .ref (gad g 10 0)), (1, .int x1), (2, .int x2)] → l_X11_weakNow_4 S n x1 x2 = some o → W p l e (rmL 4) s m args below meth c H locs 0 0 (Qm g below args s (some (.int o)) S) (F0 m 4 ls []) := by
  obtain ⟨hx, hb, hml, hown, hts, hlk, hK⟩ := id C
  intro n
  induction n with
  | zero =>
    intro x1 x2 H locs ls hH hl h
    cases h
  | succ n ih =>
    intro x1 x2 H locs ls hH hl h
    rw [l_X11_weakNow_4_s] at h
    unfold b_X11_weakNow_4 at h
    refine lv_iload_n hx hb dX11_weakNow_4 rfl (lv_at hl 2 rfl) ?_
    refine lv_aload_n hx hb dX11_weakNow_5 rfl (lv_at hl 0 rfl) ?_
    refine gf_X11_91 C hH dX11_weakNow_6 ?_
    refine lv_icmp_ge (tgt := 82) hx hb dX11_weakNow_9 (by decide) (fun c25 => ?_) (fun c25 => ?_)
    · replace h := if_t h c25
      refine lv_iload_n hx hb dX11_weakNow_82 rfl (lv_at hl 1 rfl) ?_
      exact E_intc C hr hH h dX11_weakNow_83
    · replace h := if_f h c25
      refine lv_aload_n hx hb dX11_weakNow_12 rfl (lv_at hl 0 rfl) ?_
      refine lv_iload_n hx hb dX11_weakNow_13 rfl (lv_at hl 2 rfl) ?_
      obtain ⟨r5, hc4, h⟩ := bn_e h
      refine r_callV1 (ki := 10) (i := 0) (ci := 10) (As := [.int x2]) C hl.1 hH (c_X11_highOf l g  hc4) q453 q5 q450 q451 q452 nd_X11_highOf rfl (by decide) ⟨Nat.zero_le _, Nat.zero_le _⟩ (by decide) (by decide) ⟨_, rfl⟩ rfl (Nat.le_of_ble_eq_true rfl) dX11_weakNow_14 (fun H locs hH => ?_)
      refine lv_aload_n hx hb dX11_weakNow_17 rfl (lv_at hl 0 rfl) ?_
      refine lv_iload_n hx hb dX11_weakNow_18 rfl (lv_at hl 2 rfl) ?_
      obtain ⟨r7, hc6, h⟩ := bn_e h
      refine r_callV1 (ki := 10) (i := 0) (ci := 10) (As := [.int x2]) C hl.1 hH (c_X11_beside l g  hc6) q553 q5 q550 q551 q552 nd_X11_beside rfl (by decide) ⟨Nat.zero_le _, Nat.zero_le _⟩ (by decide) (by decide) ⟨_, rfl⟩ rfl (Nat.le_of_ble_eq_true rfl) dX11_weakNow_19 (fun H locs hH => ?_)
      refine lv_isub hx hb dX11_weakNow_22 ?_
      refine lv_aload_n hx hb dX11_weakNow_23 rfl (lv_at hl 0 rfl) ?_
      refine gf_X11_37 C hH dX11_weakNow_24 ?_
      refine lv_iconst (v := (1 : Int32)) hx hb dX11_weakNow_27 (by decide) ?_
      obtain ⟨hv8, h⟩ := ck_e h
      refine r_ald C hH ka_42 (by decide) (by decide) (vi_in hv8) dX11_weakNow_28 ?_
      refine lv_aload_n hx hb dX11_weakNow_29 rfl (lv_at hl 0 rfl) ?_
      refine gf_X11_37 C hH dX11_weakNow_30 ?_
      refine lv_iconst (v := (2 : Int32)) hx hb dX11_weakNow_33 (by decide) ?_
      obtain ⟨hv9, h⟩ := ck_e h
      refine r_ald C hH ka_42 (by decide) (by decide) (vi_in hv9) dX11_weakNow_34 ?_
      refine lv_isub hx hb dX11_weakNow_35 ?_
      obtain ⟨j16, ej16, h⟩ := jn_e h
      have hj16 : ∀ (y10 : Int32) (H : Heap) (locs : List Loc) (ls : Array Slot), Hp g s S H locs → lv_has ls 4 [(0, .ref (gad g 10 0)), (1, .int x1), (2, .int x2)] → j16 y10 = some o → W p l e (rmL 4) s m args below meth c H locs 0 0 (Qm g below args s (some (.int o)) S) (F0 m 61 ls [.int y10]) := by
        intro y10 H locs ls hH hl h
        rw [ej16] at h
        try dsimp only at h
        refine lv_istore_n (lv' := [(3, .int y10), (0, .ref (gad g 10 0)), (1, .int x1), (2, .int x2)]) hx hb dX11_weakNow_61 rfl hl (by decide) rfl (fun ls hl => ?_)
        refine lv_iload_n hx hb dX11_weakNow_62 rfl (lv_at hl 2 rfl) ?_
        refine lv_iload_n hx hb dX11_weakNow_63 rfl (lv_at hl 0 rfl) ?_
        obtain ⟨j14, ej14, h⟩ := jn_e h
        have hj14 : ∀ (y11 : Int32) (H : Heap) (locs : List Loc) (ls : Array Slot), Hp g s S H locs → lv_has ls 4 [(0, .ref (gad g 10 0)), (2, .int x2)] → j14 y11 = some o → W p l e (rmL 4) s m args below meth c H locs 0 0 (Qm g below args s (some (.int o)) S) (F0 m 74 ls [.int y11, .int x1]) := by
          intro y11 H locs ls hH hl h
          rw [ej14] at h
          try dsimp only at h
          refine lv_ior hx hb dX11_weakNow_74 ?_
          refine lv_topi (fun x12 ex12 => ?_)
          replace h := lt_e h ex12
          refine lv_istore_n (lv' := [(1, .int x12), (0, .ref (gad g 10 0)), (2, .int x2)]) hx hb dX11_weakNow_75 rfl hl (by decide) rfl (fun ls hl => ?_)
          obtain ⟨x13, ex13⟩ : ∃ z : Int32, z = (x2 + (1 : Int32)) := ⟨_, rfl⟩
          replace h := lt_e h ex13
          refine lv_iinc (v := x13) (lv' := [(2, .int x13), (1, .int x12), (0, .ref (gad g 10 0))]) hx hb dX11_weakNow_76 hl (k := 2) rfl (by rw [ex13]; rfl) (by decide) rfl (fun ls hl => ?_)
          refine lv_goto (tgt := 4) hx hb dX11_weakNow_79 (by decide) ?_
          exact ih _ _ _ _ _ hH (lv_sub hl [2, 1, 0] rfl) h
        clear ej14
        refine lv_if_eq (tgt := 73) hx hb dX11_weakNow_64 (by decide) (fun c15 => ?_) (fun c15 => ?_)
        · replace h := if_t h c15
          refine lv_iconst (v := (0 : Int32)) hx hb dX11_weakNow_73 (by decide) ?_
          exact hj14 _ _ _ _ hH (lv_sub hl [1, 3] rfl) h
        · replace h := if_f h c15
          refine lv_iconst (v := (1 : Int32)) hx hb dX11_weakNow_67 (by decide) ?_
          refine lv_iload_n hx hb dX11_weakNow_68 rfl (lv_at hl 3 rfl) ?_
          refine lv_ishl hx hb dX11_weakNow_69 ?_
          refine lv_goto (tgt := 74) hx hb dX11_weakNow_70 (by decide) ?_
          exact hj14 _ _ _ _ hH (lv_sub hl [1, 3] rfl) h
      clear ej16
      obtain ⟨j17, ej17, h⟩ := jn_e h
      have hj17 : ∀  (H : Heap) (locs : List Loc) (ls : Array Slot), Hp g s S H locs → lv_has ls 4 [(0, .ref (gad g 10 0)), (1, .int x1), (2, .int x2)] → j17  = some o → W p l e (rmL 4) s m args below meth c H locs 0 0 (Qm g below args s (some (.int o)) S) (F0 m 56 ls []) := by
        intro  H locs ls hH hl h
        rw [ej17] at h
        try dsimp only at h
        refine lv_iconst (v := (1 : Int32)) hx hb dX11_weakNow_56 (by decide) ?_
        refine lv_goto (tgt := 61) hx hb dX11_weakNow_57 (by decide) ?_
        exact hj16 _ _ _ _ hH (lv_sub hl [0, 1, 2] rfl) h
      clear ej17
      refine lv_icmp_gt (tgt := 56) hx hb dX11_weakNow_36 (by decide) (fun c24 => ?_) (fun c24 => ?_)
      · replace h := if_t h c24
        exact hj17 _ _ _ hH (lv_sub hl [0, 1, 2] rfl) h
      · replace h := if_f h c24
        refine lv_aload_n hx hb dX11_weakNow_39 rfl (lv_at hl 0 rfl) ?_
        refine lv_iload_n hx hb dX11_weakNow_40 rfl (lv_at hl 2 rfl) ?_
        obtain ⟨r19, hc18, h⟩ := bn_e h
        refine r_callV1 (ki := 10) (i := 0) (ci := 10) (As := [.int x2]) C hl.1 hH (c_X11_leanOf l g  hc18) q476 q5 q473 q474 q475 nd_X11_leanOf rfl (by decide) ⟨Nat.zero_le _, Nat.zero_le _⟩ (by decide) (by decide) ⟨_, rfl⟩ rfl (Nat.le_of_ble_eq_true rfl) dX11_weakNow_41 (fun H locs hH => ?_)
        obtain ⟨r21, hc20, h⟩ := bn_e h
        refine r_callS1 (As := [.int r19]) C hl.1 hH (c_X11_amount l g  hc20) q556 q5 q554 q555 nd_X11_amount rfl (by decide) ⟨Nat.zero_le _, Nat.zero_le _⟩ (Nat.le_of_ble_eq_true rfl) dX11_weakNow_44 (fun H locs hH => ?_)
        refine lv_aload_n hx hb dX11_weakNow_47 rfl (lv_at hl 0 rfl) ?_
        refine gf_X11_37 C hH dX11_weakNow_48 ?_
        refine lv_iconst (v := (3 : Int32)) hx hb dX11_weakNow_51 (by decide) ?_
        obtain ⟨hv22, h⟩ := ck_e h
        refine r_ald C hH ka_42 (by decide) (by decide) (vi_in hv22) dX11_weakNow_52 ?_
        refine lv_icmp_le (tgt := 60) hx hb dX11_weakNow_53 (by decide) (fun c23 => ?_) (fun c23 => ?_)
        · replace h := if_t h c23
          refine lv_iconst (v := (0 : Int32)) hx hb dX11_weakNow_60 (by decide) ?_
          exact hj16 _ _ _ _ hH (lv_sub hl [0, 1, 2] rfl) h
        · replace h := if_f h c23
          exact hj17 _ _ _ hH (lv_sub hl [0, 1, 2] rfl) h
set_option maxHeartbeats 4000000 in
set_option maxRecDepth 100000 in
theorem w_X11_weakNow (C : Cx p s m args meth c cX11_weakNow 4 RX11 g) (hr : meth.sig.returnType = (some .int)) {o : Int32}   {S : sT} {H : Heap} {locs : List Loc} {ls : Array Slot} (hH : Hp g s S H locs) (hl : lv_has ls 4 [(0, .ref (gad g 10 0))]) (h : f_X11_weakNow  S = some o) : W p l e (rmL 4) s m args below meth c H locs 0 0 (Qm g below args s (some (.int o)) S) (F0 m 0 ls []) := by
  obtain ⟨hx, hb, hml, hown, hts, hlk, hK⟩ := id C
  unfold f_X11_weakNow at h
  refine lv_iconst (v := (0 : Int32)) hx hb dX11_weakNow_0 (by decide) ?_
  refine lv_istore_n (lv' := [(1, .int (0 : Int32)), (0, .ref (gad g 10 0))]) hx hb dX11_weakNow_1 rfl hl (by decide) rfl (fun ls hl => ?_)
  refine lv_iconst (v := (0 : Int32)) hx hb dX11_weakNow_2 (by decide) ?_
  refine lv_istore_n (lv' := [(2, .int (0 : Int32)), (1, .int (0 : Int32)), (0, .ref (gad g 10 0))]) hx hb dX11_weakNow_3 rfl hl (by decide) rfl (fun ls hl => ?_)
  exact w_X11_weakNow_4 C hr   _ _ _ _ _ _ hH (lv_sub hl [2, 1, 0] rfl) h
theorem c_X11_weakNow (l : Launch) (g : gT)   {S : sT} {r : Int32} (h : f_X11_weakNow  S = some r) : MF l yX11_weakNow cX11_weakNow 4 (some .int) 4 g [.ref (gad g 10 0)] S (some (.int r)) S := by
  refine MF.of (own := RX11) rfl rfl (Nat.le_of_ble_eq_true rfl) ?_
  intro p e s m below meth c C hr hH ls hl
  exact w_X11_weakNow C hr (o := r)  hH hl h
theorem nd_X11_pearsNow : yX11_pearsNow.cls ≠ "java/lang/invoke/MethodHandle" ∧ yX11_pearsNow.cls ≠ "java/lang/invoke/VarHandle" ∧ (parseMethodDescriptor yX11_pearsNow.desc).map (fun d => d.parameters.length) = some 0 := by decide +kernel
def b_X11_pearsNow_4 (S : sT) (x1 : Int32) (x2 : Int32) (k3 : Int32 → Int32 → Option (Int32)) : Option (Int32) :=
 (if (S.1 115 0 0) ≤ x2 then
 some x1
 else
 ck (vi (5 : Int32) 6) (
 bn (f_X11_isIn (S.1 42 0 (cl (5 : Int32))) x2 S) (fun r6 =>
 jn (fun (y7 : Int32) => lt (x1 + y7) (fun x8 =>
 lt (x2 + (1 : Int32)) (fun x9 =>
 k3 x8 x9)))
 (fun j10 => jn (j10 (0 : Int32))
 (fun j11 => (if r6 = (0 : Int32) then
 j11
 else
 bn (f_X11_highOf x2 S) (fun r13 =>
 ck (vi (4 : Int32) 6) (
 (if (S.1 42 0 (cl (4 : Int32))) < r13 then
 j11
 else
 j10 (1 : Int32))))))))))
def l_X11_pearsNow_4 (S : sT) : Nat → Int32 → Int32 → Option (Int32)
 | 0, _, _ => none
 | n + 1, x1, x2 => b_X11_pearsNow_4 S x1 x2 (l_X11_pearsNow_4 S n)
theorem l_X11_pearsNow_4_s (S : sT) (n : Nat) (x1 : Int32) (x2 : Int32) : l_X11_pearsNow_4 S (n + 1) x1 x2 = b_X11_pearsNow_4 S x1 x2 (l_X11_pearsNow_4 S n) := rfl
def f_X11_pearsNow  (S : sT) : Option (Int32) :=
 l_X11_pearsNow_4 S FU (0 : Int32) (0 : Int32)
set_option maxHeartbeats 4000000 in
set_option maxRecDepth 100000 in
theorem w_X11_pearsNow_4 (C : Cx p s m args meth c cX11_pearsNow 3 RX11 g) (hr : meth.sig.returnType = (some .int)) {o : Int32}  {S : sT}   : ∀ (n : Nat) (x1 : Int32) (x2 : Int32) (H : Heap) (locs : List Loc) (ls : Array Slot), Hp g s S H locs → lv_has ls 3 [(0, .ref (gad g 10 0)), (1, .int x1), (2, .int x2)] → l_X11_pearsNow_4 S n x1 x2 = some o → W p l e (rmL 3) s m args below meth c H locs 0 0 (Qm g below args s (some (.int o)) S) (F0 m 4 ls []) := by
  obtain ⟨hx, hb, hml, hown, hts, hlk, hK⟩ := id C
  intro n
  induction n with
  | zero =>
    intro x1 x2 H locs ls hH hl h
    cases h
  | succ n ih =>
    intro x1 x2 H locs ls hH hl h
    rw [l_X11_pearsNow_4_s] at h
    unfold b_X11_pearsNow_4 at h
    refine lv_iload_n hx hb dX11_pearsNow_4 rfl (lv_at hl 2 rfl) ?_
    refine lv_aload_n hx hb dX11_pearsNow_5 rfl (lv_at hl 0 rfl) ?_
    refine gf_X11_91 C hH dX11_pearsNow_6 ?_
    refine lv_icmp_ge (tgt := 53) hx hb dX11_pearsNow_9 (by decide) (fun c17 => ?_) (fun c17 => ?_)
    · replace h := if_t h c17
      refine lv_iload_n hx hb dX11_pearsNow_53 rfl (lv_at hl 1 rfl) ?_
      exact E_intc C hr hH h dX11_pearsNow_54
    · replace h := if_f h c17
      refine lv_iload_n hx hb dX11_pearsNow_12 rfl (lv_at hl 1 rfl) ?_
      refine lv_aload_n hx hb dX11_pearsNow_13 rfl (lv_at hl 0 rfl) ?_
      refine gf_X11_37 C hH dX11_pearsNow_14 ?_
      refine lv_iconst (v := (5 : Int32)) hx hb dX11_pearsNow_17 (by decide) ?_
      obtain ⟨hv4, h⟩ := ck_e h
      refine r_ald C hH ka_42 (by decide) (by decide) (vi_in hv4) dX11_pearsNow_18 ?_
      refine lv_iload_n hx hb dX11_pearsNow_19 rfl (lv_at hl 2 rfl) ?_
      obtain ⟨r6, hc5, h⟩ := bn_e h
      refine r_callS1 (As := [.int (S.1 42 0 (cl (5 : Int32))), .int x2]) C hl.1 hH (c_X11_isIn l g  hc5) q563 q5 q561 q562 nd_X11_isIn rfl (by decide) ⟨Nat.zero_le _, Nat.zero_le _⟩ (Nat.le_of_ble_eq_true rfl) dX11_pearsNow_20 (fun H locs hH => ?_)
      obtain ⟨j10, ej10, h⟩ := jn_e h
      have hj10 : ∀ (y7 : Int32) (H : Heap) (locs : List Loc) (ls : Array Slot), Hp g s S H locs → lv_has ls 3 [(0, .ref (gad g 10 0)), (2, .int x2)] → j10 y7 = some o → W p l e (rmL 3) s m args below meth c H locs 0 0 (Qm g below args s (some (.int o)) S) (F0 m 45 ls [.int y7, .int x1]) := by
        intro y7 H locs ls hH hl h
        rw [ej10] at h
        try dsimp only at h
        refine lv_iadd hx hb dX11_pearsNow_45 ?_
        refine lv_topi (fun x8 ex8 => ?_)
        replace h := lt_e h ex8
        refine lv_istore_n (lv' := [(1, .int x8), (0, .ref (gad g 10 0)), (2, .int x2)]) hx hb dX11_pearsNow_46 rfl hl (by decide) rfl (fun ls hl => ?_)
        obtain ⟨x9, ex9⟩ : ∃ z : Int32, z = (x2 + (1 : Int32)) := ⟨_, rfl⟩
        replace h := lt_e h ex9
        refine lv_iinc (v := x9) (lv' := [(2, .int x9), (1, .int x8), (0, .ref (gad g 10 0))]) hx hb dX11_pearsNow_47 hl (k := 2) rfl (by rw [ex9]; rfl) (by decide) rfl (fun ls hl => ?_)
        refine lv_goto (tgt := 4) hx hb dX11_pearsNow_50 (by decide) ?_
        exact ih _ _ _ _ _ hH (lv_sub hl [2, 1, 0] rfl) h
      clear ej10
      obtain ⟨j11, ej11, h⟩ := jn_e h
      have hj11 : ∀  (H : Heap) (locs : List Loc) (ls : Array Slot), Hp g s S H locs → lv_has ls 3 [(0, .ref (gad g 10 0)), (2, .int x2)] → j11  = some o → W p l e (rmL 3) s m args below meth c H locs 0 0 (Qm g below args s (some (.int o)) S) (F0 m 44 ls [.int x1]) := by
        intro  H locs ls hH hl h
        rw [ej11] at h
        try dsimp only at h
        refine lv_iconst (v := (0 : Int32)) hx hb dX11_pearsNow_44 (by decide) ?_
        exact hj10 _ _ _ _ hH (lv_sub hl [0, 1] rfl) h
      clear ej11
      refine lv_if_eq (tgt := 44) hx hb dX11_pearsNow_23 (by decide) (fun c16 => ?_) (fun c16 => ?_)
      · replace h := if_t h c16
        exact hj11 _ _ _ hH (lv_sub hl [0, 2] rfl) h
      · replace h := if_f h c16
        refine lv_aload_n hx hb dX11_pearsNow_26 rfl (lv_at hl 0 rfl) ?_
        refine lv_iload_n hx hb dX11_pearsNow_27 rfl (lv_at hl 2 rfl) ?_
        obtain ⟨r13, hc12, h⟩ := bn_e h
        refine r_callV1 (ki := 10) (i := 0) (ci := 10) (As := [.int x2]) C hl.1 hH (c_X11_highOf l g  hc12) q453 q5 q450 q451 q452 nd_X11_highOf rfl (by decide) ⟨Nat.zero_le _, Nat.zero_le _⟩ (by decide) (by decide) ⟨_, rfl⟩ rfl (Nat.le_of_ble_eq_true rfl) dX11_pearsNow_28 (fun H locs hH => ?_)
        refine lv_aload_n hx hb dX11_pearsNow_31 rfl (lv_at hl 0 rfl) ?_
        refine gf_X11_37 C hH dX11_pearsNow_32 ?_
        refine lv_iconst (v := (4 : Int32)) hx hb dX11_pearsNow_35 (by decide) ?_
        obtain ⟨hv14, h⟩ := ck_e h
        refine r_ald C hH ka_42 (by decide) (by decide) (vi_in hv14) dX11_pearsNow_36 ?_
        refine lv_icmp_gt (tgt := 44) hx hb dX11_pearsNow_37 (by decide) (fun c15 => ?_) (fun c15 => ?_)
        · replace h := if_t h c15
          exact hj11 _ _ _ hH (lv_sub hl [0, 2] rfl) h
        · replace h := if_f h c15
          refine lv_iconst (v := (1 : Int32)) hx hb dX11_pearsNow_40 (by decide) ?_
          refine lv_goto (tgt := 45) hx hb dX11_pearsNow_41 (by decide) ?_
          exact hj10 _ _ _ _ hH (lv_sub hl [0, 2] rfl) h
set_option maxHeartbeats 4000000 in
set_option maxRecDepth 100000 in
theorem w_X11_pearsNow (C : Cx p s m args meth c cX11_pearsNow 3 RX11 g) (hr : meth.sig.returnType = (some .int)) {o : Int32}   {S : sT} {H : Heap} {locs : List Loc} {ls : Array Slot} (hH : Hp g s S H locs) (hl : lv_has ls 3 [(0, .ref (gad g 10 0))]) (h : f_X11_pearsNow  S = some o) : W p l e (rmL 3) s m args below meth c H locs 0 0 (Qm g below args s (some (.int o)) S) (F0 m 0 ls []) := by
  obtain ⟨hx, hb, hml, hown, hts, hlk, hK⟩ := id C
  unfold f_X11_pearsNow at h
  refine lv_iconst (v := (0 : Int32)) hx hb dX11_pearsNow_0 (by decide) ?_
  refine lv_istore_n (lv' := [(1, .int (0 : Int32)), (0, .ref (gad g 10 0))]) hx hb dX11_pearsNow_1 rfl hl (by decide) rfl (fun ls hl => ?_)
  refine lv_iconst (v := (0 : Int32)) hx hb dX11_pearsNow_2 (by decide) ?_
  refine lv_istore_n (lv' := [(2, .int (0 : Int32)), (1, .int (0 : Int32)), (0, .ref (gad g 10 0))]) hx hb dX11_pearsNow_3 rfl hl (by decide) rfl (fun ls hl => ?_)
  exact w_X11_pearsNow_4 C hr   _ _ _ _ _ _ hH (lv_sub hl [2, 1, 0] rfl) h
theorem c_X11_pearsNow (l : Launch) (g : gT)   {S : sT} {r : Int32} (h : f_X11_pearsNow  S = some r) : MF l yX11_pearsNow cX11_pearsNow 3 (some .int) 3 g [.ref (gad g 10 0)] S (some (.int r)) S := by
  refine MF.of (own := RX11) rfl rfl (Nat.le_of_ble_eq_true rfl) ?_
  intro p e s m below meth c C hr hH ls hl
  exact w_X11_pearsNow C hr (o := r)  hH hl h
theorem nd_X11_weighs : yX11_weighs.cls ≠ "java/lang/invoke/MethodHandle" ∧ yX11_weighs.cls ≠ "java/lang/invoke/VarHandle" ∧ (parseMethodDescriptor yX11_weighs.desc).map (fun d => d.parameters.length) = some 1 := by decide +kernel
def b_X11_weighs_15 (a1 : Int32) (S : sT) (x2 : Int32) (j6 : Int32 → Option (Int32)) (x7 : Int32) (x8 : Int32) (k9 : Int32 → Int32 → Option (Int32)) : Option (Int32) :=
 ck (vi x2 8) (
 (if (S.1 44 0 (cl x2)) ≤ x8 then
 j6 x7
 else
 ck (vi (((8 : Int32) * x2) + x8) 64) (
 lt (S.1 43 0 (cl (((8 : Int32) * x2) + x8))) (fun x12 =>
 ck (nz (2 : Int32)) (
 jn (fun (y14 : Int32) => lt (x7 + y14) (fun x15 =>
 lt (x8 + (1 : Int32)) (fun x16 =>
 k9 x15 x16)))
 (fun j17 => (if (x12 - x12 / (2 : Int32) * (2 : Int32)) = a1 then
 bn (f_X11_weight x12 S) (fun r19 =>
 j17 r19)
 else
 j17 (0 : Int32))))))))
def l_X11_weighs_15 (a1 : Int32) (S : sT) (x2 : Int32) (j6 : Int32 → Option (Int32)) : Nat → Int32 → Int32 → Option (Int32)
 | 0, _, _ => none
 | n + 1, x7, x8 => b_X11_weighs_15 a1 S x2 j6 x7 x8 (l_X11_weighs_15 a1 S x2 j6 n)
theorem l_X11_weighs_15_s (a1 : Int32) (S : sT) (x2 : Int32) (j6 : Int32 → Option (Int32)) (n : Nat) (x7 : Int32) (x8 : Int32) : l_X11_weighs_15 a1 S x2 j6 (n + 1) x7 x8 = b_X11_weighs_15 a1 S x2 j6 x7 x8 (l_X11_weighs_15 a1 S x2 j6 n) := rfl
def b_X11_weighs_4 (a1 : Int32) (S : sT) (x1 : Int32) (x2 : Int32) (k3 : Int32 → Int32 → Option (Int32)) : Option (Int32) :=
 (if (S.1 115 0 0) ≤ x2 then
 some x1
 else
 jn (fun (x4 : Int32) => lt (x2 + (1 : Int32)) (fun x5 =>
 k3 x4 x5))
 (fun j6 => l_X11_weighs_15 a1 S x2 j6 FU x1 (0 : Int32)))
def l_X11_weighs_4 (a1 : Int32) (S : sT) : Nat → Int32 → Int32 → Option (Int32)
 | 0, _, _ => none
 | n + 1, x1, x2 => b_X11_weighs_4 a1 S x1 x2 (l_X11_weighs_4 a1 S n)
theorem l_X11_weighs_4_s (a1 : Int32) (S : sT) (n : Nat) (x1 : Int32) (x2 : Int32) : l_X11_weighs_4 a1 S (n + 1) x1 x2 = b_X11_weighs_4 a1 S x1 x2 (l_X11_weighs_4 a1 S n) := rfl
def f_X11_weighs (a1 : Int32) (S : sT) : Option (Int32) :=
 l_X11_weighs_4 a1 S FU (0 : Int32) (0 : Int32)
set_option maxHeartbeats 4000000 in
set_option maxRecDepth 100000 in
theorem w_X11_weighs_15 (C : Cx p s m args meth c cX11_weighs 6 RX11 g) (hr : meth.sig.returnType = (some .int)) {o : Int32}  {a1 : Int32} {S : sT} {x2 : Int32}  (j6 : Int32 → Option (Int32)) (hj6 : ∀ (x4 : Int32) (H : Heap) (locs : List Loc) (ls : Array Slot), Hp g s S H locs → lv_has ls 6 [(0, .ref (gad g 10 0)), (1, .int a1), (2, .int x4), (3, .int x2)] → j6 x4 = some o → W p l e (rmL 2) s m args below meth c H locs 0 0 (Qm g below args s (some (.int o)) S) (F0 m 66 ls [])) : ∀ (n : Nat) (x7 : Int32) (x8 : Int32) (H : Heap) (locs : List Loc) (ls : Array Slot), Hp g s S H locs → lv_has ls 6 [(0, .ref (gad g 10 0)), (1, .int a1), (2, .int x7), (3, .int x2), (4, .int x8)] → l_X11_weighs_15 a1 S x2 j6 n x7 x8 = some o → W p l e (rmL 2) s m args below meth c H locs 0 0 (Qm g below args s (some (.int o)) S) (F0 m 15 ls []) := by
  obtain ⟨hx, hb, hml, hown, hts, hlk, hK⟩ := id C
  intro n
  induction n with
  | zero =>
    intro x7 x8 H locs ls hH hl h
    cases h
  | succ n ih =>
    intro x7 x8 H locs ls hH hl h
    rw [l_X11_weighs_15_s] at h
    unfold b_X11_weighs_15 at h
    refine lv_iload hx hb dX11_weighs_15 (lv_at hl 4 rfl) ?_
    refine lv_aload_n hx hb dX11_weighs_17 rfl (lv_at hl 0 rfl) ?_
    refine gf_X11_43 C hH dX11_weighs_18 ?_
    refine lv_iload_n hx hb dX11_weighs_21 rfl (lv_at hl 3 rfl) ?_
    obtain ⟨hv10, h⟩ := ck_e h
    refine r_ald C hH ka_44 (by decide) (by decide) (vi_in hv10) dX11_weighs_22 ?_
    refine lv_icmp_ge (tgt := 66) hx hb dX11_weighs_23 (by decide) (fun c21 => ?_) (fun c21 => ?_)
    · replace h := if_t h c21
      exact hj6 _ _ _ _ hH (lv_sub hl [0, 1, 2, 3] rfl) h
    · replace h := if_f h c21
      refine lv_aload_n hx hb dX11_weighs_26 rfl (lv_at hl 0 rfl) ?_
      refine gf_X11_40 C hH dX11_weighs_27 ?_
      refine lv_bipush (v := (8 : Int32)) hx hb dX11_weighs_30 (by decide) ?_
      refine lv_iload_n hx hb dX11_weighs_32 rfl (lv_at hl 3 rfl) ?_
      refine lv_imul hx hb dX11_weighs_33 ?_
      refine lv_iload hx hb dX11_weighs_34 (lv_at hl 4 rfl) ?_
      refine lv_iadd hx hb dX11_weighs_36 ?_
      obtain ⟨hv11, h⟩ := ck_e h
      refine r_ald C hH ka_43 (by decide) (by decide) (vi_in hv11) dX11_weighs_37 ?_
      refine lv_topi (fun x12 ex12 => ?_)
      replace h := lt_e h ex12
      refine lv_istore (lv' := [(5, .int x12), (0, .ref (gad g 10 0)), (1, .int a1), (2, .int x7), (3, .int x2), (4, .int x8)]) hx hb dX11_weighs_38 hl (by decide) rfl (fun ls hl => ?_)
      refine lv_iload_n hx hb dX11_weighs_40 rfl (lv_at hl 3 rfl) ?_
      refine lv_iload hx hb dX11_weighs_41 (lv_at hl 0 rfl) ?_
      refine lv_iconst (v := (2 : Int32)) hx hb dX11_weighs_43 (by decide) ?_
      obtain ⟨hv13, h⟩ := ck_e h
      refine lv_irem hx hb dX11_weighs_44 (nz_e hv13) ?_
      refine lv_iload_n hx hb dX11_weighs_45 rfl (lv_at hl 2 rfl) ?_
      obtain ⟨j17, ej17, h⟩ := jn_e h
      have hj17 : ∀ (y14 : Int32) (H : Heap) (locs : List Loc) (ls : Array Slot), Hp g s S H locs → lv_has ls 6 [(0, .ref (gad g 10 0)), (1, .int a1), (3, .int x2), (4, .int x8)] → j17 y14 = some o → W p l e (rmL 2) s m args below meth c H locs 0 0 (Qm g below args s (some (.int o)) S) (F0 m 58 ls [.int y14, .int x7]) := by
        intro y14 H locs ls hH hl h
        rw [ej17] at h
        try dsimp only at h
        refine lv_iadd hx hb dX11_weighs_58 ?_
        refine lv_topi (fun x15 ex15 => ?_)
        replace h := lt_e h ex15
        refine lv_istore_n (lv' := [(2, .int x15), (0, .ref (gad g 10 0)), (1, .int a1), (3, .int x2), (4, .int x8)]) hx hb dX11_weighs_59 rfl hl (by decide) rfl (fun ls hl => ?_)
        obtain ⟨x16, ex16⟩ : ∃ z : Int32, z = (x8 + (1 : Int32)) := ⟨_, rfl⟩
        replace h := lt_e h ex16
        refine lv_iinc (v := x16) (lv' := [(4, .int x16), (2, .int x15), (0, .ref (gad g 10 0)), (1, .int a1), (3, .int x2)]) hx hb dX11_weighs_60 hl (k := 4) rfl (by rw [ex16]; rfl) (by decide) rfl (fun ls hl => ?_)
        refine lv_goto (tgt := 15) hx hb dX11_weighs_63 (by decide) ?_
        exact ih _ _ _ _ _ hH (lv_sub hl [2, 3, 1, 4, 0] rfl) h
      clear ej17
      refine lv_icmp_ne (tgt := 57) hx hb dX11_weighs_46 (by decide) (fun c20 => ?_) (fun c20 => ?_)
      · replace h := if_f h c20
        refine lv_iconst (v := (0 : Int32)) hx hb dX11_weighs_57 (by decide) ?_
        exact hj17 _ _ _ _ hH (lv_sub hl [1, 2, 4, 5] rfl) h
      · replace h := if_t h c20
        refine lv_iload hx hb dX11_weighs_49 (lv_at hl 0 rfl) ?_
        obtain ⟨r19, hc18, h⟩ := bn_e h
        refine r_callS1 (As := [.int x12]) C hl.1 hH (c_X11_weight l g  hc18) q456 q5 q454 q455 nd_X11_weight rfl (by decide) ⟨Nat.zero_le _, Nat.zero_le _⟩ (Nat.le_of_ble_eq_true rfl) dX11_weighs_51 (fun H locs hH => ?_)
        refine lv_goto (tgt := 58) hx hb dX11_weighs_54 (by decide) ?_
        exact hj17 _ _ _ _ hH (lv_sub hl [1, 2, 4, 5] rfl) h
set_option maxHeartbeats 4000000 in
set_option maxRecDepth 100000 in
theorem w_X11_weighs_4 (C : Cx p s m args meth c cX11_weighs 6 RX11 g) (hr : meth.sig.returnType = (some .int)) {o : Int32}  {a1 : Int32} {S : sT}   : ∀ (n : Nat) (x1 : Int32) (x2 : Int32) (H : Heap) (locs : List Loc) (ls : Array Slot), Hp g s S H locs → lv_has ls 6 [(0, .ref (gad g 10 0)), (1, .int a1), (2, .int x1), (3, .int x2)] → l_X11_weighs_4 a1 S n x1 x2 = some o → W p l e (rmL 2) s m args below meth c H locs 0 0 (Qm g below args s (some (.int o)) S) (F0 m 4 ls []) := by
  obtain ⟨hx, hb, hml, hown, hts, hlk, hK⟩ := id C
  intro n
  induction n with
  | zero =>
    intro x1 x2 H locs ls hH hl h
    cases h
  | succ n ih =>
    intro x1 x2 H locs ls hH hl h
    rw [l_X11_weighs_4_s] at h
    unfold b_X11_weighs_4 at h
    refine lv_iload_n hx hb dX11_weighs_4 rfl (lv_at hl 3 rfl) ?_
    refine lv_aload_n hx hb dX11_weighs_5 rfl (lv_at hl 0 rfl) ?_
    refine gf_X11_91 C hH dX11_weighs_6 ?_
    refine lv_icmp_ge (tgt := 72) hx hb dX11_weighs_9 (by decide) (fun c22 => ?_) (fun c22 => ?_)
    · replace h := if_t h c22
      refine lv_iload_n hx hb dX11_weighs_72 rfl (lv_at hl 2 rfl) ?_
      exact E_intc C hr hH h dX11_weighs_73
    · replace h := if_f h c22
      refine lv_iconst (v := (0 : Int32)) hx hb dX11_weighs_12 (by decide) ?_
      refine lv_istore (lv' := [(4, .int (0 : Int32)), (0, .ref (gad g 10 0)), (1, .int a1), (2, .int x1), (3, .int x2)]) hx hb dX11_weighs_13 hl (by decide) rfl (fun ls hl => ?_)
      obtain ⟨j6, ej6, h⟩ := jn_e h
      have hj6 : ∀ (x4 : Int32) (H : Heap) (locs : List Loc) (ls : Array Slot), Hp g s S H locs → lv_has ls 6 [(0, .ref (gad g 10 0)), (1, .int a1), (2, .int x4), (3, .int x2)] → j6 x4 = some o → W p l e (rmL 2) s m args below meth c H locs 0 0 (Qm g below args s (some (.int o)) S) (F0 m 66 ls []) := by
        intro x4 H locs ls hH hl h
        rw [ej6] at h
        try dsimp only at h
        obtain ⟨x5, ex5⟩ : ∃ z : Int32, z = (x2 + (1 : Int32)) := ⟨_, rfl⟩
        replace h := lt_e h ex5
        refine lv_iinc (v := x5) (lv' := [(3, .int x5), (0, .ref (gad g 10 0)), (1, .int a1), (2, .int x4)]) hx hb dX11_weighs_66 hl (k := 3) rfl (by rw [ex5]; rfl) (by decide) rfl (fun ls hl => ?_)
        refine lv_goto (tgt := 4) hx hb dX11_weighs_69 (by decide) ?_
        exact ih _ _ _ _ _ hH (lv_sub hl [1, 2, 3, 0] rfl) h
      clear ej6
      exact w_X11_weighs_15 C hr  j6 hj6 _ _ _ _ _ _ hH (lv_sub hl [1, 2, 3, 4, 0] rfl) h
set_option maxHeartbeats 4000000 in
set_option maxRecDepth 100000 in
theorem w_X11_weighs (C : Cx p s m args meth c cX11_weighs 6 RX11 g) (hr : meth.sig.returnType = (some .int)) {o : Int32} {a1 : Int32}  {S : sT} {H : Heap} {locs : List Loc} {ls : Array Slot} (hH : Hp g s S H locs) (hl : lv_has ls 6 [(0, .ref (gad g 10 0)), (1, .int a1)]) (h : f_X11_weighs a1 S = some o) : W p l e (rmL 2) s m args below meth c H locs 0 0 (Qm g below args s (some (.int o)) S) (F0 m 0 ls []) := by
  obtain ⟨hx, hb, hml, hown, hts, hlk, hK⟩ := id C
  unfold f_X11_weighs at h
  refine lv_iconst (v := (0 : Int32)) hx hb dX11_weighs_0 (by decide) ?_
  refine lv_istore_n (lv' := [(2, .int (0 : Int32)), (0, .ref (gad g 10 0)), (1, .int a1)]) hx hb dX11_weighs_1 rfl hl (by decide) rfl (fun ls hl => ?_)
  refine lv_iconst (v := (0 : Int32)) hx hb dX11_weighs_2 (by decide) ?_
  refine lv_istore_n (lv' := [(3, .int (0 : Int32)), (2, .int (0 : Int32)), (0, .ref (gad g 10 0)), (1, .int a1)]) hx hb dX11_weighs_3 rfl hl (by decide) rfl (fun ls hl => ?_)
  exact w_X11_weighs_4 C hr   _ _ _ _ _ _ hH (lv_sub hl [2, 3, 1, 0] rfl) h
theorem c_X11_weighs (l : Launch) (g : gT) {a1 : Int32}  {S : sT} {r : Int32} (h : f_X11_weighs a1 S = some r) : MF l yX11_weighs cX11_weighs 6 (some .int) 2 g [.ref (gad g 10 0), .int a1] S (some (.int r)) S := by
  refine MF.of (own := RX11) rfl rfl (Nat.le_of_ble_eq_true rfl) ?_
  intro p e s m below meth c C hr hH ls hl
  exact w_X11_weighs C hr (o := r)  hH hl h
theorem nd_X11_areTurns : yX11_areTurns.cls ≠ "java/lang/invoke/MethodHandle" ∧ yX11_areTurns.cls ≠ "java/lang/invoke/VarHandle" ∧ (parseMethodDescriptor yX11_areTurns.desc).map (fun d => d.parameters.length) = some 1 := by decide +kernel
def f_X11_areTurns (a1 : Int32) (S : sT) : Option (Int32) :=
 bn (f_X11_in ((a1).toInt64) (0 : Int64) (((S.1 116 0 0)).toInt64) S) (fun r2 =>
 ck (vz r2) (
 some r2))
set_option maxHeartbeats 4000000 in
set_option maxRecDepth 100000 in
theorem w_X11_areTurns (C : Cx p s m args meth c cX11_areTurns 2 RX11 g) (hr : meth.sig.returnType = (some .boolean)) {o : Int32} {a1 : Int32}  {S : sT} {H : Heap} {locs : List Loc} {ls : Array Slot} (hH : Hp g s S H locs) (hl : lv_has ls 2 [(0, .ref (gad g 10 0)), (1, .int a1)]) (h : f_X11_areTurns a1 S = some o) : W p l e (rmL 2) s m args below meth c H locs 0 0 (Qm g below args s (some (.int o)) S) (F0 m 0 ls []) := by
  obtain ⟨hx, hb, hml, hown, hts, hlk, hK⟩ := id C
  unfold f_X11_areTurns at h
  refine lv_iload_n hx hb dX11_areTurns_0 rfl (lv_at hl 1 rfl) ?_
  refine lv_i2l hx hb dX11_areTurns_1 rfl ?_
  refine lv_lconst (v := (0 : Int64)) hx hb dX11_areTurns_2 (by decide) ?_
  refine lv_aload_n hx hb dX11_areTurns_3 rfl (lv_at hl 0 rfl) ?_
  refine gf_X11_108 C hH dX11_areTurns_4 ?_
  refine lv_i2l hx hb dX11_areTurns_7 rfl ?_
  obtain ⟨r2, hc1, h⟩ := bn_e h
  refine r_callS1 (As := [.long ((a1).toInt64), .long (0 : Int64), .long (((S.1 116 0 0)).toInt64)]) C hl.1 hH (c_X11_in l g  hc1) q307 q5 q305 q306 nd_X11_in rfl (by decide) ⟨Nat.zero_le _, Nat.zero_le _⟩ (Nat.le_of_ble_eq_true rfl) dX11_areTurns_8 (fun H locs hH => ?_)
  obtain ⟨hv3, h⟩ := ck_e h
  exact E_boolc C hr hH (vz_n hv3) h dX11_areTurns_11
theorem c_X11_areTurns (l : Launch) (g : gT) {a1 : Int32}  {S : sT} {r : Int32} (h : f_X11_areTurns a1 S = some r) : MF l yX11_areTurns cX11_areTurns 2 (some .boolean) 2 g [.ref (gad g 10 0), .int a1] S (some (.int r)) S := by
  refine MF.of (own := RX11) rfl rfl (Nat.le_of_ble_eq_true rfl) ?_
  intro p e s m below meth c C hr hH ls hl
  exact w_X11_areTurns C hr (o := r)  hH hl h
theorem nd_X11_isColumn : yX11_isColumn.cls ≠ "java/lang/invoke/MethodHandle" ∧ yX11_isColumn.cls ≠ "java/lang/invoke/VarHandle" ∧ (parseMethodDescriptor yX11_isColumn.desc).map (fun d => d.parameters.length) = some 1 := by decide +kernel
def f_X11_isColumn (a1 : Int32) (S : sT) : Option (Int32) :=
 bn (f_X11_in ((a1).toInt64) (0 : Int64) ((((S.1 115 0 0) - (1 : Int32))).toInt64) S) (fun r2 =>
 ck (vz r2) (
 some r2))
set_option maxHeartbeats 4000000 in
set_option maxRecDepth 100000 in
theorem w_X11_isColumn (C : Cx p s m args meth c cX11_isColumn 2 RX11 g) (hr : meth.sig.returnType = (some .boolean)) {o : Int32} {a1 : Int32}  {S : sT} {H : Heap} {locs : List Loc} {ls : Array Slot} (hH : Hp g s S H locs) (hl : lv_has ls 2 [(0, .ref (gad g 10 0)), (1, .int a1)]) (h : f_X11_isColumn a1 S = some o) : W p l e (rmL 2) s m args below meth c H locs 0 0 (Qm g below args s (some (.int o)) S) (F0 m 0 ls []) := by
  obtain ⟨hx, hb, hml, hown, hts, hlk, hK⟩ := id C
  unfold f_X11_isColumn at h
  refine lv_iload_n hx hb dX11_isColumn_0 rfl (lv_at hl 1 rfl) ?_
  refine lv_i2l hx hb dX11_isColumn_1 rfl ?_
  refine lv_lconst (v := (0 : Int64)) hx hb dX11_isColumn_2 (by decide) ?_
  refine lv_aload_n hx hb dX11_isColumn_3 rfl (lv_at hl 0 rfl) ?_
  refine gf_X11_91 C hH dX11_isColumn_4 ?_
  refine lv_iconst (v := (1 : Int32)) hx hb dX11_isColumn_7 (by decide) ?_
  refine lv_isub hx hb dX11_isColumn_8 ?_
  refine lv_i2l hx hb dX11_isColumn_9 rfl ?_
  obtain ⟨r2, hc1, h⟩ := bn_e h
  refine r_callS1 (As := [.long ((a1).toInt64), .long (0 : Int64), .long ((((S.1 115 0 0) - (1 : Int32))).toInt64)]) C hl.1 hH (c_X11_in l g  hc1) q307 q5 q305 q306 nd_X11_in rfl (by decide) ⟨Nat.zero_le _, Nat.zero_le _⟩ (Nat.le_of_ble_eq_true rfl) dX11_isColumn_10 (fun H locs hH => ?_)
  obtain ⟨hv3, h⟩ := ck_e h
  exact E_boolc C hr hH (vz_n hv3) h dX11_isColumn_13
theorem c_X11_isColumn (l : Launch) (g : gT) {a1 : Int32}  {S : sT} {r : Int32} (h : f_X11_isColumn a1 S = some r) : MF l yX11_isColumn cX11_isColumn 2 (some .boolean) 2 g [.ref (gad g 10 0), .int a1] S (some (.int r)) S := by
  refine MF.of (own := RX11) rfl rfl (Nat.le_of_ble_eq_true rfl) ?_
  intro p e s m below meth c C hr hH ls hl
  exact w_X11_isColumn C hr (o := r)  hH hl h
theorem nd_X11_heightOf : yX11_heightOf.cls ≠ "java/lang/invoke/MethodHandle" ∧ yX11_heightOf.cls ≠ "java/lang/invoke/VarHandle" ∧ (parseMethodDescriptor yX11_heightOf.desc).map (fun d => d.parameters.length) = some 2 := by decide +kernel
def f_X11_heightOf (a1 : Int32) (a2 : Int32) (S : sT) : Option (Int32 × sT) :=
 bn (f_X11_lives a1 S) (fun S2 =>
 bn (f_X11_highOf a2 S2) (fun r4 =>
 some (r4, S2)))
set_option maxHeartbeats 4000000 in
set_option maxRecDepth 100000 in
theorem w_X11_heightOf (C : Cx p s m args meth c cX11_heightOf 3 RX11 g) (hr : meth.sig.returnType = (some .int)) {o : Int32 × sT} {a1 : Int32} {a2 : Int32}  {S : sT} {H : Heap} {locs : List Loc} {ls : Array Slot} (hH : Hp g s S H locs) (hl : lv_has ls 3 [(0, .ref (gad g 10 0)), (1, .int a1), (2, .int a2)]) (h : f_X11_heightOf a1 a2 S = some o) : W p l e (rmL 5) s m args below meth c H locs 0 0 (Qm g below args s (some (.int o.1)) o.2) (F0 m 0 ls []) := by
  obtain ⟨hx, hb, hml, hown, hts, hlk, hK⟩ := id C
  unfold f_X11_heightOf at h
  refine lv_aload_n hx hb dX11_heightOf_0 rfl (lv_at hl 0 rfl) ?_
  refine lv_iload_n hx hb dX11_heightOf_1 rfl (lv_at hl 1 rfl) ?_
  obtain ⟨S2, hc1, h⟩ := bn_e h
  refine r_callV0 (ki := 10) (i := 0) (ci := 10) (As := [.int a1]) C hl.1 hH (c_X11_lives l g  hc1) q426 q5 q423 q424 q425 nd_X11_lives rfl (by decide) ⟨Nat.zero_le _, Nat.zero_le _⟩ (by decide) (by decide) ⟨_, rfl⟩ rfl (Nat.le_of_ble_eq_true rfl) dX11_heightOf_2 (fun H locs hH => ?_)
  refine lv_aload_n hx hb dX11_heightOf_5 rfl (lv_at hl 0 rfl) ?_
  refine lv_iload_n hx hb dX11_heightOf_6 rfl (lv_at hl 2 rfl) ?_
  obtain ⟨r4, hc3, h⟩ := bn_e h
  refine r_callV1 (ki := 10) (i := 0) (ci := 10) (As := [.int a2]) C hl.1 hH (c_X11_highOf l g  hc3) q453 q5 q450 q451 q452 nd_X11_highOf rfl (by decide) ⟨Nat.zero_le _, Nat.zero_le _⟩ (by decide) (by decide) ⟨_, rfl⟩ rfl (Nat.le_of_ble_eq_true rfl) dX11_heightOf_7 (fun H locs hH => ?_)
  exact E_int C hr hH h dX11_heightOf_10
theorem c_X11_heightOf (l : Launch) (g : gT) {a1 : Int32} {a2 : Int32}  {S : sT} {r : Int32} {S1 : sT} (h : f_X11_heightOf a1 a2 S = some (r, S1)) : MF l yX11_heightOf cX11_heightOf 3 (some .int) 5 g [.ref (gad g 10 0), .int a1, .int a2] S (some (.int r)) S1 := by
  refine MF.of (own := RX11) rfl rfl (Nat.le_of_ble_eq_true rfl) ?_
  intro p e s m below meth c C hr hH ls hl
  exact w_X11_heightOf C hr (o := (r, S1))  hH hl h
theorem nd_X11_height : yX11_height.cls ≠ "java/lang/invoke/MethodHandle" ∧ yX11_height.cls ≠ "java/lang/invoke/VarHandle" ∧ (parseMethodDescriptor yX11_height.desc).map (fun d => d.parameters.length) = some 2 := by decide +kernel
def f_X11_height (a1 : Int32) (a2 : Int32) (S : sT) : Option (Int32 × sT) :=
 bn (f_X11_reads  S) (fun S2 =>
 bn (f_X11_areTurns a1 S2) (fun r4 =>
 (if r4 = (0 : Int32) then
 some ((-2 : Int32), S2)
 else
 bn (f_X11_isColumn a2 S2) (fun r6 =>
 (if r6 = (0 : Int32) then
 some ((-2 : Int32), S2)
 else
 bn2 (f_X11_heightOf a1 a2 S2) (fun r8 S9 =>
 some (r8, S9)))))))
set_option maxHeartbeats 4000000 in
set_option maxRecDepth 100000 in
theorem w_X11_height (C : Cx p s m args meth c cX11_height 3 RX11 g) (hr : meth.sig.returnType = (some .int)) {o : Int32 × sT} {a1 : Int32} {a2 : Int32}  {S : sT} {H : Heap} {locs : List Loc} {ls : Array Slot} (hH : Hp g s S H locs) (hl : lv_has ls 3 [(0, .ref (gad g 10 0)), (1, .int a1), (2, .int a2)]) (h : f_X11_height a1 a2 S = some o) : W p l e (rmL 6) s m args below meth c H locs 0 0 (Qm g below args s (some (.int o.1)) o.2) (F0 m 0 ls []) := by
  obtain ⟨hx, hb, hml, hown, hts, hlk, hK⟩ := id C
  unfold f_X11_height at h
  refine lv_aload_n hx hb dX11_height_0 rfl (lv_at hl 0 rfl) ?_
  obtain ⟨S2, hc1, h⟩ := bn_e h
  refine r_callV0 (ki := 10) (i := 0) (ci := 10) (As := []) C hl.1 hH (c_X11_reads l g  hc1) q410 q5 q407 q408 q409 nd_X11_reads rfl (by decide) ⟨Nat.zero_le _, Nat.zero_le _⟩ (by decide) (by decide) ⟨_, rfl⟩ rfl (Nat.le_of_ble_eq_true rfl) dX11_height_1 (fun H locs hH => ?_)
  refine lv_aload_n hx hb dX11_height_4 rfl (lv_at hl 0 rfl) ?_
  refine lv_iload_n hx hb dX11_height_5 rfl (lv_at hl 1 rfl) ?_
  obtain ⟨r4, hc3, h⟩ := bn_e h
  refine r_callV1 (ki := 10) (i := 0) (ci := 10) (As := [.int a1]) C hl.1 hH (c_X11_areTurns l g  hc3) q414 q5 q411 q412 q413 nd_X11_areTurns rfl (by decide) ⟨Nat.zero_le _, Nat.zero_le _⟩ (by decide) (by decide) ⟨_, rfl⟩ rfl (Nat.le_of_ble_eq_true rfl) dX11_height_6 (fun H locs hH => ?_)
  refine lv_if_eq (tgt := 29) hx hb dX11_height_9 (by decide) (fun c11 => ?_) (fun c11 => ?_)
  · replace h := if_t h c11
    refine lv_bipush (v := (-2 : Int32)) hx hb dX11_height_29 (by decide) ?_
    exact E_int C hr hH h dX11_height_31
  · replace h := if_f h c11
    refine lv_aload_n hx hb dX11_height_12 rfl (lv_at hl 0 rfl) ?_
    refine lv_iload_n hx hb dX11_height_13 rfl (lv_at hl 2 rfl) ?_
    obtain ⟨r6, hc5, h⟩ := bn_e h
    refine r_callV1 (ki := 10) (i := 0) (ci := 10) (As := [.int a2]) C hl.1 hH (c_X11_isColumn l g  hc5) q418 q5 q415 q416 q417 nd_X11_isColumn rfl (by decide) ⟨Nat.zero_le _, Nat.zero_le _⟩ (by decide) (by decide) ⟨_, rfl⟩ rfl (Nat.le_of_ble_eq_true rfl) dX11_height_14 (fun H locs hH => ?_)
    refine lv_if_eq (tgt := 29) hx hb dX11_height_17 (by decide) (fun c10 => ?_) (fun c10 => ?_)
    · replace h := if_t h c10
      refine lv_bipush (v := (-2 : Int32)) hx hb dX11_height_29 (by decide) ?_
      exact E_int C hr hH h dX11_height_31
    · replace h := if_f h c10
      refine lv_aload_n hx hb dX11_height_20 rfl (lv_at hl 0 rfl) ?_
      refine lv_iload_n hx hb dX11_height_21 rfl (lv_at hl 1 rfl) ?_
      refine lv_iload_n hx hb dX11_height_22 rfl (lv_at hl 2 rfl) ?_
      obtain ⟨r8, S9, hc7, h⟩ := bn2_e h
      refine r_callV1 (ki := 10) (i := 0) (ci := 10) (As := [.int a1, .int a2]) C hl.1 hH (c_X11_heightOf l g  hc7) q422 q5 q419 q420 q421 nd_X11_heightOf rfl (by decide) ⟨Nat.zero_le _, Nat.zero_le _⟩ (by decide) (by decide) ⟨_, rfl⟩ rfl (Nat.le_of_ble_eq_true rfl) dX11_height_23 (fun H locs hH => ?_)
      refine lv_goto (tgt := 31) hx hb dX11_height_26 (by decide) ?_
      exact E_int C hr hH h dX11_height_31
theorem c_X11_height (l : Launch) (g : gT) {a1 : Int32} {a2 : Int32}  {S : sT} {r : Int32} {S1 : sT} (h : f_X11_height a1 a2 S = some (r, S1)) : MF l yX11_height cX11_height 3 (some .int) 6 g [.ref (gad g 10 0), .int a1, .int a2] S (some (.int r)) S1 := by
  refine MF.of (own := RX11) rfl rfl (Nat.le_of_ble_eq_true rfl) ?_
  intro p e s m below meth c C hr hH ls hl
  exact w_X11_height C hr (o := (r, S1))  hH hl h
theorem nd_X11_leanBehind : yX11_leanBehind.cls ≠ "java/lang/invoke/MethodHandle" ∧ yX11_leanBehind.cls ≠ "java/lang/invoke/VarHandle" ∧ (parseMethodDescriptor yX11_leanBehind.desc).map (fun d => d.parameters.length) = some 2 := by decide +kernel
def f_X11_leanBehind (a1 : Int32) (a2 : Int32) (S : sT) : Option (Int32 × sT) :=
 bn (f_X11_lives a1 S) (fun S2 =>
 bn (f_X11_leanOf a2 S2) (fun r4 =>
 some (r4, S2)))
set_option maxHeartbeats 4000000 in
set_option maxRecDepth 100000 in
theorem w_X11_leanBehind (C : Cx p s m args meth c cX11_leanBehind 3 RX11 g) (hr : meth.sig.returnType = (some .int)) {o : Int32 × sT} {a1 : Int32} {a2 : Int32}  {S : sT} {H : Heap} {locs : List Loc} {ls : Array Slot} (hH : Hp g s S H locs) (hl : lv_has ls 3 [(0, .ref (gad g 10 0)), (1, .int a1), (2, .int a2)]) (h : f_X11_leanBehind a1 a2 S = some o) : W p l e (rmL 5) s m args below meth c H locs 0 0 (Qm g below args s (some (.int o.1)) o.2) (F0 m 0 ls []) := by
  obtain ⟨hx, hb, hml, hown, hts, hlk, hK⟩ := id C
  unfold f_X11_leanBehind at h
  refine lv_aload_n hx hb dX11_leanBehind_0 rfl (lv_at hl 0 rfl) ?_
  refine lv_iload_n hx hb dX11_leanBehind_1 rfl (lv_at hl 1 rfl) ?_
  obtain ⟨S2, hc1, h⟩ := bn_e h
  refine r_callV0 (ki := 10) (i := 0) (ci := 10) (As := [.int a1]) C hl.1 hH (c_X11_lives l g  hc1) q426 q5 q423 q424 q425 nd_X11_lives rfl (by decide) ⟨Nat.zero_le _, Nat.zero_le _⟩ (by decide) (by decide) ⟨_, rfl⟩ rfl (Nat.le_of_ble_eq_true rfl) dX11_leanBehind_2 (fun H locs hH => ?_)
  refine lv_aload_n hx hb dX11_leanBehind_5 rfl (lv_at hl 0 rfl) ?_
  refine lv_iload_n hx hb dX11_leanBehind_6 rfl (lv_at hl 2 rfl) ?_
  obtain ⟨r4, hc3, h⟩ := bn_e h
  refine r_callV1 (ki := 10) (i := 0) (ci := 10) (As := [.int a2]) C hl.1 hH (c_X11_leanOf l g  hc3) q476 q5 q473 q474 q475 nd_X11_leanOf rfl (by decide) ⟨Nat.zero_le _, Nat.zero_le _⟩ (by decide) (by decide) ⟨_, rfl⟩ rfl (Nat.le_of_ble_eq_true rfl) dX11_leanBehind_7 (fun H locs hH => ?_)
  exact E_int C hr hH h dX11_leanBehind_10
theorem c_X11_leanBehind (l : Launch) (g : gT) {a1 : Int32} {a2 : Int32}  {S : sT} {r : Int32} {S1 : sT} (h : f_X11_leanBehind a1 a2 S = some (r, S1)) : MF l yX11_leanBehind cX11_leanBehind 3 (some .int) 5 g [.ref (gad g 10 0), .int a1, .int a2] S (some (.int r)) S1 := by
  refine MF.of (own := RX11) rfl rfl (Nat.le_of_ble_eq_true rfl) ?_
  intro p e s m below meth c C hr hH ls hl
  exact w_X11_leanBehind C hr (o := (r, S1))  hH hl h
theorem nd_X11_lean : yX11_lean.cls ≠ "java/lang/invoke/MethodHandle" ∧ yX11_lean.cls ≠ "java/lang/invoke/VarHandle" ∧ (parseMethodDescriptor yX11_lean.desc).map (fun d => d.parameters.length) = some 2 := by decide +kernel
def f_X11_lean (a1 : Int32) (a2 : Int32) (S : sT) : Option (Int32 × sT) :=
 bn (f_X11_reads  S) (fun S2 =>
 bn (f_X11_areTurns a1 S2) (fun r4 =>
 (if r4 = (0 : Int32) then
 some ((-1002 : Int32), S2)
 else
 bn (f_X11_isColumn a2 S2) (fun r6 =>
 (if r6 = (0 : Int32) then
 some ((-1002 : Int32), S2)
 else
 bn2 (f_X11_leanBehind a1 a2 S2) (fun r8 S9 =>
 some (r8, S9)))))))
set_option maxHeartbeats 4000000 in
set_option maxRecDepth 100000 in
theorem w_X11_lean (C : Cx p s m args meth c cX11_lean 3 RX11 g) (hr : meth.sig.returnType = (some .int)) {o : Int32 × sT} {a1 : Int32} {a2 : Int32}  {S : sT} {H : Heap} {locs : List Loc} {ls : Array Slot} (hH : Hp g s S H locs) (hl : lv_has ls 3 [(0, .ref (gad g 10 0)), (1, .int a1), (2, .int a2)]) (h : f_X11_lean a1 a2 S = some o) : W p l e (rmL 6) s m args below meth c H locs 0 0 (Qm g below args s (some (.int o.1)) o.2) (F0 m 0 ls []) := by
  obtain ⟨hx, hb, hml, hown, hts, hlk, hK⟩ := id C
  unfold f_X11_lean at h
  refine lv_aload_n hx hb dX11_lean_0 rfl (lv_at hl 0 rfl) ?_
  obtain ⟨S2, hc1, h⟩ := bn_e h
  refine r_callV0 (ki := 10) (i := 0) (ci := 10) (As := []) C hl.1 hH (c_X11_reads l g  hc1) q410 q5 q407 q408 q409 nd_X11_reads rfl (by decide) ⟨Nat.zero_le _, Nat.zero_le _⟩ (by decide) (by decide) ⟨_, rfl⟩ rfl (Nat.le_of_ble_eq_true rfl) dX11_lean_1 (fun H locs hH => ?_)
  refine lv_aload_n hx hb dX11_lean_4 rfl (lv_at hl 0 rfl) ?_
  refine lv_iload_n hx hb dX11_lean_5 rfl (lv_at hl 1 rfl) ?_
  obtain ⟨r4, hc3, h⟩ := bn_e h
  refine r_callV1 (ki := 10) (i := 0) (ci := 10) (As := [.int a1]) C hl.1 hH (c_X11_areTurns l g  hc3) q414 q5 q411 q412 q413 nd_X11_areTurns rfl (by decide) ⟨Nat.zero_le _, Nat.zero_le _⟩ (by decide) (by decide) ⟨_, rfl⟩ rfl (Nat.le_of_ble_eq_true rfl) dX11_lean_6 (fun H locs hH => ?_)
  refine lv_if_eq (tgt := 29) hx hb dX11_lean_9 (by decide) (fun c11 => ?_) (fun c11 => ?_)
  · replace h := if_t h c11
    refine lv_sipush (v := (-1002 : Int32)) hx hb dX11_lean_29 (by decide) ?_
    exact E_int C hr hH h dX11_lean_32
  · replace h := if_f h c11
    refine lv_aload_n hx hb dX11_lean_12 rfl (lv_at hl 0 rfl) ?_
    refine lv_iload_n hx hb dX11_lean_13 rfl (lv_at hl 2 rfl) ?_
    obtain ⟨r6, hc5, h⟩ := bn_e h
    refine r_callV1 (ki := 10) (i := 0) (ci := 10) (As := [.int a2]) C hl.1 hH (c_X11_isColumn l g  hc5) q418 q5 q415 q416 q417 nd_X11_isColumn rfl (by decide) ⟨Nat.zero_le _, Nat.zero_le _⟩ (by decide) (by decide) ⟨_, rfl⟩ rfl (Nat.le_of_ble_eq_true rfl) dX11_lean_14 (fun H locs hH => ?_)
    refine lv_if_eq (tgt := 29) hx hb dX11_lean_17 (by decide) (fun c10 => ?_) (fun c10 => ?_)
    · replace h := if_t h c10
      refine lv_sipush (v := (-1002 : Int32)) hx hb dX11_lean_29 (by decide) ?_
      exact E_int C hr hH h dX11_lean_32
    · replace h := if_f h c10
      refine lv_aload_n hx hb dX11_lean_20 rfl (lv_at hl 0 rfl) ?_
      refine lv_iload_n hx hb dX11_lean_21 rfl (lv_at hl 1 rfl) ?_
      refine lv_iload_n hx hb dX11_lean_22 rfl (lv_at hl 2 rfl) ?_
      obtain ⟨r8, S9, hc7, h⟩ := bn2_e h
      refine r_callV1 (ki := 10) (i := 0) (ci := 10) (As := [.int a1, .int a2]) C hl.1 hH (c_X11_leanBehind l g  hc7) q472 q5 q469 q470 q471 nd_X11_leanBehind rfl (by decide) ⟨Nat.zero_le _, Nat.zero_le _⟩ (by decide) (by decide) ⟨_, rfl⟩ rfl (Nat.le_of_ble_eq_true rfl) dX11_lean_23 (fun H locs hH => ?_)
      refine lv_goto (tgt := 32) hx hb dX11_lean_26 (by decide) ?_
      exact E_int C hr hH h dX11_lean_32
theorem c_X11_lean (l : Launch) (g : gT) {a1 : Int32} {a2 : Int32}  {S : sT} {r : Int32} {S1 : sT} (h : f_X11_lean a1 a2 S = some (r, S1)) : MF l yX11_lean cX11_lean 3 (some .int) 6 g [.ref (gad g 10 0), .int a1, .int a2] S (some (.int r)) S1 := by
  refine MF.of (own := RX11) rfl rfl (Nat.le_of_ble_eq_true rfl) ?_
  intro p e s m below meth c C hr hH ls hl
  exact w_X11_lean C hr (o := (r, S1))  hH hl h
theorem nd_X11_stoneBehind : yX11_stoneBehind.cls ≠ "java/lang/invoke/MethodHandle" ∧ yX11_stoneBehind.cls ≠ "java/lang/invoke/VarHandle" ∧ (parseMethodDescriptor yX11_stoneBehind.desc).map (fun d => d.parameters.length) = some 3 := by decide +kernel
def f_X11_stoneBehind (a1 : Int32) (a2 : Int32) (a3 : Int32) (S : sT) : Option (Int32 × sT) :=
 bn (f_X11_lives a1 S) (fun S2 =>
 (if a3 = (-1 : Int32) then
 ck (vi a2 8) (
 some ((S2.1 44 0 (cl a2)), S2))
 else
 ck (vi a2 8) (
 (if (S2.1 44 0 (cl a2)) ≤ a3 then
 some ((-1 : Int32), S2)
 else
 ck (vi (((8 : Int32) * a2) + a3) 64) (
 some ((S2.1 43 0 (cl (((8 : Int32) * a2) + a3))), S2))))))
set_option maxHeartbeats 4000000 in
set_option maxRecDepth 100000 in
theorem w_X11_stoneBehind (C : Cx p s m args meth c cX11_stoneBehind 4 RX11 g) (hr : meth.sig.returnType = (some .int)) {o : Int32 × sT} {a1 : Int32} {a2 : Int32} {a3 : Int32}  {S : sT} {H : Heap} {locs : List Loc} {ls : Array Slot} (hH : Hp g s S H locs) (hl : lv_has ls 4 [(0, .ref (gad g 10 0)), (1, .int a1), (2, .int a2), (3, .int a3)]) (h : f_X11_stoneBehind a1 a2 a3 S = some o) : W p l e (rmL 5) s m args below meth c H locs 0 0 (Qm g below args s (some (.int o.1)) o.2) (F0 m 0 ls []) := by
  obtain ⟨hx, hb, hml, hown, hts, hlk, hK⟩ := id C
  unfold f_X11_stoneBehind at h
  refine lv_aload_n hx hb dX11_stoneBehind_0 rfl (lv_at hl 0 rfl) ?_
  refine lv_iload_n hx hb dX11_stoneBehind_1 rfl (lv_at hl 1 rfl) ?_
  obtain ⟨S2, hc1, h⟩ := bn_e h
  refine r_callV0 (ki := 10) (i := 0) (ci := 10) (As := [.int a1]) C hl.1 hH (c_X11_lives l g  hc1) q426 q5 q423 q424 q425 nd_X11_lives rfl (by decide) ⟨Nat.zero_le _, Nat.zero_le _⟩ (by decide) (by decide) ⟨_, rfl⟩ rfl (Nat.le_of_ble_eq_true rfl) dX11_stoneBehind_2 (fun H locs hH => ?_)
  refine lv_iload_n hx hb dX11_stoneBehind_5 rfl (lv_at hl 3 rfl) ?_
  refine lv_iconst (v := (-1 : Int32)) hx hb dX11_stoneBehind_6 (by decide) ?_
  refine lv_icmp_ne (tgt := 19) hx hb dX11_stoneBehind_7 (by decide) (fun c7 => ?_) (fun c7 => ?_)
  · replace h := if_f h c7
    refine lv_iload_n hx hb dX11_stoneBehind_19 rfl (lv_at hl 3 rfl) ?_
    refine lv_aload_n hx hb dX11_stoneBehind_20 rfl (lv_at hl 0 rfl) ?_
    refine gf_X11_43 C hH dX11_stoneBehind_21 ?_
    refine lv_iload_n hx hb dX11_stoneBehind_24 rfl (lv_at hl 2 rfl) ?_
    obtain ⟨hv3, h⟩ := ck_e h
    refine r_ald C hH ka_44 (by decide) (by decide) (vi_in hv3) dX11_stoneBehind_25 ?_
    refine lv_icmp_ge (tgt := 43) hx hb dX11_stoneBehind_26 (by decide) (fun c5 => ?_) (fun c5 => ?_)
    · replace h := if_t h c5
      refine lv_iconst (v := (-1 : Int32)) hx hb dX11_stoneBehind_43 (by decide) ?_
      exact E_int C hr hH h dX11_stoneBehind_44
    · replace h := if_f h c5
      refine lv_aload_n hx hb dX11_stoneBehind_29 rfl (lv_at hl 0 rfl) ?_
      refine gf_X11_40 C hH dX11_stoneBehind_30 ?_
      refine lv_bipush (v := (8 : Int32)) hx hb dX11_stoneBehind_33 (by decide) ?_
      refine lv_iload_n hx hb dX11_stoneBehind_35 rfl (lv_at hl 2 rfl) ?_
      refine lv_imul hx hb dX11_stoneBehind_36 ?_
      refine lv_iload_n hx hb dX11_stoneBehind_37 rfl (lv_at hl 3 rfl) ?_
      refine lv_iadd hx hb dX11_stoneBehind_38 ?_
      obtain ⟨hv4, h⟩ := ck_e h
      refine r_ald C hH ka_43 (by decide) (by decide) (vi_in hv4) dX11_stoneBehind_39 ?_
      refine lv_goto (tgt := 44) hx hb dX11_stoneBehind_40 (by decide) ?_
      exact E_int C hr hH h dX11_stoneBehind_44
  · replace h := if_t h c7
    refine lv_aload_n hx hb dX11_stoneBehind_10 rfl (lv_at hl 0 rfl) ?_
    refine gf_X11_43 C hH dX11_stoneBehind_11 ?_
    refine lv_iload_n hx hb dX11_stoneBehind_14 rfl (lv_at hl 2 rfl) ?_
    obtain ⟨hv6, h⟩ := ck_e h
    refine r_ald C hH ka_44 (by decide) (by decide) (vi_in hv6) dX11_stoneBehind_15 ?_
    refine lv_goto (tgt := 44) hx hb dX11_stoneBehind_16 (by decide) ?_
    exact E_int C hr hH h dX11_stoneBehind_44
theorem c_X11_stoneBehind (l : Launch) (g : gT) {a1 : Int32} {a2 : Int32} {a3 : Int32}  {S : sT} {r : Int32} {S1 : sT} (h : f_X11_stoneBehind a1 a2 a3 S = some (r, S1)) : MF l yX11_stoneBehind cX11_stoneBehind 4 (some .int) 5 g [.ref (gad g 10 0), .int a1, .int a2, .int a3] S (some (.int r)) S1 := by
  refine MF.of (own := RX11) rfl rfl (Nat.le_of_ble_eq_true rfl) ?_
  intro p e s m below meth c C hr hH ls hl
  exact w_X11_stoneBehind C hr (o := (r, S1))  hH hl h
theorem nd_X11_stone : yX11_stone.cls ≠ "java/lang/invoke/MethodHandle" ∧ yX11_stone.cls ≠ "java/lang/invoke/VarHandle" ∧ (parseMethodDescriptor yX11_stone.desc).map (fun d => d.parameters.length) = some 3 := by decide +kernel
def f_X11_stone (a1 : Int32) (a2 : Int32) (a3 : Int32) (S : sT) : Option (Int32 × sT) :=
 bn (f_X11_reads  S) (fun S2 =>
 bn (f_X11_areTurns a1 S2) (fun r4 =>
 (if r4 = (0 : Int32) then
 some ((-2 : Int32), S2)
 else
 bn (f_X11_isColumn a2 S2) (fun r6 =>
 (if r6 = (0 : Int32) then
 some ((-2 : Int32), S2)
 else
 bn (f_X11_in ((a3).toInt64) (-1 : Int64) (7 : Int64) S2) (fun r8 =>
 (if r8 = (0 : Int32) then
 some ((-2 : Int32), S2)
 else
 bn2 (f_X11_stoneBehind a1 a2 a3 S2) (fun r10 S11 =>
 some (r10, S11)))))))))
set_option maxHeartbeats 4000000 in
set_option maxRecDepth 100000 in
theorem w_X11_stone (C : Cx p s m args meth c cX11_stone 4 RX11 g) (hr : meth.sig.returnType = (some .int)) {o : Int32 × sT} {a1 : Int32} {a2 : Int32} {a3 : Int32}  {S : sT} {H : Heap} {locs : List Loc} {ls : Array Slot} (hH : Hp g s S H locs) (hl : lv_has ls 4 [(0, .ref (gad g 10 0)), (1, .int a1), (2, .int a2), (3, .int a3)]) (h : f_X11_stone a1 a2 a3 S = some o) : W p l e (rmL 6) s m args below meth c H locs 0 0 (Qm g below args s (some (.int o.1)) o.2) (F0 m 0 ls []) := by
  obtain ⟨hx, hb, hml, hown, hts, hlk, hK⟩ := id C
  unfold f_X11_stone at h
  refine lv_aload_n hx hb dX11_stone_0 rfl (lv_at hl 0 rfl) ?_
  obtain ⟨S2, hc1, h⟩ := bn_e h
  refine r_callV0 (ki := 10) (i := 0) (ci := 10) (As := []) C hl.1 hH (c_X11_reads l g  hc1) q410 q5 q407 q408 q409 nd_X11_reads rfl (by decide) ⟨Nat.zero_le _, Nat.zero_le _⟩ (by decide) (by decide) ⟨_, rfl⟩ rfl (Nat.le_of_ble_eq_true rfl) dX11_stone_1 (fun H locs hH => ?_)
  refine lv_aload_n hx hb dX11_stone_4 rfl (lv_at hl 0 rfl) ?_
  refine lv_iload_n hx hb dX11_stone_5 rfl (lv_at hl 1 rfl) ?_
  obtain ⟨r4, hc3, h⟩ := bn_e h
  refine r_callV1 (ki := 10) (i := 0) (ci := 10) (As := [.int a1]) C hl.1 hH (c_X11_areTurns l g  hc3) q414 q5 q411 q412 q413 nd_X11_areTurns rfl (by decide) ⟨Nat.zero_le _, Nat.zero_le _⟩ (by decide) (by decide) ⟨_, rfl⟩ rfl (Nat.le_of_ble_eq_true rfl) dX11_stone_6 (fun H locs hH => ?_)
  refine lv_if_eq (tgt := 44) hx hb dX11_stone_9 (by decide) (fun c14 => ?_) (fun c14 => ?_)
  · replace h := if_t h c14
    refine lv_bipush (v := (-2 : Int32)) hx hb dX11_stone_44 (by decide) ?_
    exact E_int C hr hH h dX11_stone_46
  · replace h := if_f h c14
    refine lv_aload_n hx hb dX11_stone_12 rfl (lv_at hl 0 rfl) ?_
    refine lv_iload_n hx hb dX11_stone_13 rfl (lv_at hl 2 rfl) ?_
    obtain ⟨r6, hc5, h⟩ := bn_e h
    refine r_callV1 (ki := 10) (i := 0) (ci := 10) (As := [.int a2]) C hl.1 hH (c_X11_isColumn l g  hc5) q418 q5 q415 q416 q417 nd_X11_isColumn rfl (by decide) ⟨Nat.zero_le _, Nat.zero_le _⟩ (by decide) (by decide) ⟨_, rfl⟩ rfl (Nat.le_of_ble_eq_true rfl) dX11_stone_14 (fun H locs hH => ?_)
    refine lv_if_eq (tgt := 44) hx hb dX11_stone_17 (by decide) (fun c13 => ?_) (fun c13 => ?_)
    · replace h := if_t h c13
      refine lv_bipush (v := (-2 : Int32)) hx hb dX11_stone_44 (by decide) ?_
      exact E_int C hr hH h dX11_stone_46
    · replace h := if_f h c13
      refine lv_iload_n hx hb dX11_stone_20 rfl (lv_at hl 3 rfl) ?_
      refine lv_i2l hx hb dX11_stone_21 rfl ?_
      refine lv_ldc2 (v := (-1 : Int64)) hx hb hown (hts _ q494) dX11_stone_22 ?_
      refine lv_ldc2 (v := (7 : Int64)) hx hb hown (hts _ q495) dX11_stone_25 ?_
      obtain ⟨r8, hc7, h⟩ := bn_e h
      refine r_callS1 (As := [.long ((a3).toInt64), .long (-1 : Int64), .long (7 : Int64)]) C hl.1 hH (c_X11_in l g  hc7) q307 q5 q305 q306 nd_X11_in rfl (by decide) ⟨Nat.zero_le _, Nat.zero_le _⟩ (Nat.le_of_ble_eq_true rfl) dX11_stone_28 (fun H locs hH => ?_)
      refine lv_if_eq (tgt := 44) hx hb dX11_stone_31 (by decide) (fun c12 => ?_) (fun c12 => ?_)
      · replace h := if_t h c12
        refine lv_bipush (v := (-2 : Int32)) hx hb dX11_stone_44 (by decide) ?_
        exact E_int C hr hH h dX11_stone_46
      · replace h := if_f h c12
        refine lv_aload_n hx hb dX11_stone_34 rfl (lv_at hl 0 rfl) ?_
        refine lv_iload_n hx hb dX11_stone_35 rfl (lv_at hl 1 rfl) ?_
        refine lv_iload_n hx hb dX11_stone_36 rfl (lv_at hl 2 rfl) ?_
        refine lv_iload_n hx hb dX11_stone_37 rfl (lv_at hl 3 rfl) ?_
        obtain ⟨r10, S11, hc9, h⟩ := bn2_e h
        refine r_callV1 (ki := 10) (i := 0) (ci := 10) (As := [.int a1, .int a2, .int a3]) C hl.1 hH (c_X11_stoneBehind l g  hc9) q499 q5 q496 q497 q498 nd_X11_stoneBehind rfl (by decide) ⟨Nat.zero_le _, Nat.zero_le _⟩ (by decide) (by decide) ⟨_, rfl⟩ rfl (Nat.le_of_ble_eq_true rfl) dX11_stone_38 (fun H locs hH => ?_)
        refine lv_goto (tgt := 46) hx hb dX11_stone_41 (by decide) ?_
        exact E_int C hr hH h dX11_stone_46
theorem c_X11_stone (l : Launch) (g : gT) {a1 : Int32} {a2 : Int32} {a3 : Int32}  {S : sT} {r : Int32} {S1 : sT} (h : f_X11_stone a1 a2 a3 S = some (r, S1)) : MF l yX11_stone cX11_stone 4 (some .int) 6 g [.ref (gad g 10 0), .int a1, .int a2, .int a3] S (some (.int r)) S1 := by
  refine MF.of (own := RX11) rfl rfl (Nat.le_of_ble_eq_true rfl) ?_
  intro p e s m below meth c C hr hH ls hl
  exact w_X11_stone C hr (o := (r, S1))  hH hl h
theorem nd_X11_behindOf : yX11_behindOf.cls ≠ "java/lang/invoke/MethodHandle" ∧ yX11_behindOf.cls ≠ "java/lang/invoke/VarHandle" ∧ (parseMethodDescriptor yX11_behindOf.desc).map (fun d => d.parameters.length) = some 2 := by decide +kernel
def f_X11_behindOf (a1 : Int32) (a2 : Int32) (S : sT) : Option (Int32 × sT) :=
 bn (f_X11_lives a1 S) (fun S2 =>
 (if a2 = (0 : Int32) then
 bn (f_X11_weakNow  S2) (fun r9 =>
 some (r9, S2))
 else
 (if a2 = (1 : Int32) then
 bn (f_X11_pearsNow  S2) (fun r6 =>
 some (r6, S2))
 else
 bn (f_X11_weighs (a2 - (2 : Int32)) S2) (fun r4 =>
 some (r4, S2)))))
set_option maxHeartbeats 4000000 in
set_option maxRecDepth 100000 in
theorem w_X11_behindOf (C : Cx p s m args meth c cX11_behindOf 3 RX11 g) (hr : meth.sig.returnType = (some .int)) {o : Int32 × sT} {a1 : Int32} {a2 : Int32}  {S : sT} {H : Heap} {locs : List Loc} {ls : Array Slot} (hH : Hp g s S H locs) (hl : lv_has ls 3 [(0, .ref (gad g 10 0)), (1, .int a1), (2, .int a2)]) (h : f_X11_behindOf a1 a2 S = some o) : W p l e (rmL 5) s m args below meth c H locs 0 0 (Qm g below args s (some (.int o.1)) o.2) (F0 m 0 ls []) := by
  obtain ⟨hx, hb, hml, hown, hts, hlk, hK⟩ := id C
  unfold f_X11_behindOf at h
  refine lv_aload_n hx hb dX11_behindOf_0 rfl (lv_at hl 0 rfl) ?_
  refine lv_iload_n hx hb dX11_behindOf_1 rfl (lv_at hl 1 rfl) ?_
  obtain ⟨S2, hc1, h⟩ := bn_e h
  refine r_callV0 (ki := 10) (i := 0) (ci := 10) (As := [.int a1]) C hl.1 hH (c_X11_lives l g  hc1) q426 q5 q423 q424 q425 nd_X11_lives rfl (by decide) ⟨Nat.zero_le _, Nat.zero_le _⟩ (by decide) (by decide) ⟨_, rfl⟩ rfl (Nat.le_of_ble_eq_true rfl) dX11_behindOf_2 (fun H locs hH => ?_)
  refine lv_iload_n hx hb dX11_behindOf_5 rfl (lv_at hl 2 rfl) ?_
  refine lv_if_ne (tgt := 16) hx hb dX11_behindOf_6 (by decide) (fun c10 => ?_) (fun c10 => ?_)
  · replace h := if_f h c10
    refine lv_iload_n hx hb dX11_behindOf_16 rfl (lv_at hl 2 rfl) ?_
    refine lv_iconst (v := (1 : Int32)) hx hb dX11_behindOf_17 (by decide) ?_
    refine lv_icmp_ne (tgt := 28) hx hb dX11_behindOf_18 (by decide) (fun c7 => ?_) (fun c7 => ?_)
    · replace h := if_f h c7
      refine lv_aload_n hx hb dX11_behindOf_28 rfl (lv_at hl 0 rfl) ?_
      refine lv_iload_n hx hb dX11_behindOf_29 rfl (lv_at hl 2 rfl) ?_
      refine lv_iconst (v := (2 : Int32)) hx hb dX11_behindOf_30 (by decide) ?_
      refine lv_isub hx hb dX11_behindOf_31 ?_
      obtain ⟨r4, hc3, h⟩ := bn_e h
      refine r_callV1 (ki := 10) (i := 0) (ci := 10) (As := [.int (a2 - (2 : Int32))]) C hl.1 hH (c_X11_weighs l g  hc3) q567 q5 q564 q565 q566 nd_X11_weighs rfl (by decide) ⟨Nat.zero_le _, Nat.zero_le _⟩ (by decide) (by decide) ⟨_, rfl⟩ rfl (Nat.le_of_ble_eq_true rfl) dX11_behindOf_32 (fun H locs hH => ?_)
      exact E_int C hr hH h dX11_behindOf_35
    · replace h := if_t h c7
      refine lv_aload_n hx hb dX11_behindOf_21 rfl (lv_at hl 0 rfl) ?_
      obtain ⟨r6, hc5, h⟩ := bn_e h
      refine r_callV1 (ki := 10) (i := 0) (ci := 10) (As := []) C hl.1 hH (c_X11_pearsNow l g  hc5) q560 q5 q557 q558 q559 nd_X11_pearsNow rfl (by decide) ⟨Nat.zero_le _, Nat.zero_le _⟩ (by decide) (by decide) ⟨_, rfl⟩ rfl (Nat.le_of_ble_eq_true rfl) dX11_behindOf_22 (fun H locs hH => ?_)
      refine lv_goto (tgt := 35) hx hb dX11_behindOf_25 (by decide) ?_
      exact E_int C hr hH h dX11_behindOf_35
  · replace h := if_t h c10
    refine lv_aload_n hx hb dX11_behindOf_9 rfl (lv_at hl 0 rfl) ?_
    obtain ⟨r9, hc8, h⟩ := bn_e h
    refine r_callV1 (ki := 10) (i := 0) (ci := 10) (As := []) C hl.1 hH (c_X11_weakNow l g  hc8) q549 q5 q546 q547 q548 nd_X11_weakNow rfl (by decide) ⟨Nat.zero_le _, Nat.zero_le _⟩ (by decide) (by decide) ⟨_, rfl⟩ rfl (Nat.le_of_ble_eq_true rfl) dX11_behindOf_10 (fun H locs hH => ?_)
    refine lv_goto (tgt := 35) hx hb dX11_behindOf_13 (by decide) ?_
    exact E_int C hr hH h dX11_behindOf_35
theorem c_X11_behindOf (l : Launch) (g : gT) {a1 : Int32} {a2 : Int32}  {S : sT} {r : Int32} {S1 : sT} (h : f_X11_behindOf a1 a2 S = some (r, S1)) : MF l yX11_behindOf cX11_behindOf 3 (some .int) 5 g [.ref (gad g 10 0), .int a1, .int a2] S (some (.int r)) S1 := by
  refine MF.of (own := RX11) rfl rfl (Nat.le_of_ble_eq_true rfl) ?_
  intro p e s m below meth c C hr hH ls hl
  exact w_X11_behindOf C hr (o := (r, S1))  hH hl h
theorem nd_X11_behind : yX11_behind.cls ≠ "java/lang/invoke/MethodHandle" ∧ yX11_behind.cls ≠ "java/lang/invoke/VarHandle" ∧ (parseMethodDescriptor yX11_behind.desc).map (fun d => d.parameters.length) = some 2 := by decide +kernel
def f_X11_behind (a1 : Int32) (a2 : Int32) (S : sT) : Option (Int32 × sT) :=
 bn (f_X11_reads  S) (fun S2 =>
 bn (f_X11_areTurns a1 S2) (fun r4 =>
 (if r4 = (0 : Int32) then
 some ((-2 : Int32), S2)
 else
 bn (f_X11_in ((a2).toInt64) (0 : Int64) (3 : Int64) S2) (fun r6 =>
 (if r6 = (0 : Int32) then
 some ((-2 : Int32), S2)
 else
 bn2 (f_X11_behindOf a1 a2 S2) (fun r8 S9 =>
 some (r8, S9)))))))
set_option maxHeartbeats 4000000 in
set_option maxRecDepth 100000 in
theorem w_X11_behind (C : Cx p s m args meth c cX11_behind 3 RX11 g) (hr : meth.sig.returnType = (some .int)) {o : Int32 × sT} {a1 : Int32} {a2 : Int32}  {S : sT} {H : Heap} {locs : List Loc} {ls : Array Slot} (hH : Hp g s S H locs) (hl : lv_has ls 3 [(0, .ref (gad g 10 0)), (1, .int a1), (2, .int a2)]) (h : f_X11_behind a1 a2 S = some o) : W p l e (rmL 6) s m args below meth c H locs 0 0 (Qm g below args s (some (.int o.1)) o.2) (F0 m 0 ls []) := by
  obtain ⟨hx, hb, hml, hown, hts, hlk, hK⟩ := id C
  unfold f_X11_behind at h
  refine lv_aload_n hx hb dX11_behind_0 rfl (lv_at hl 0 rfl) ?_
  obtain ⟨S2, hc1, h⟩ := bn_e h
  refine r_callV0 (ki := 10) (i := 0) (ci := 10) (As := []) C hl.1 hH (c_X11_reads l g  hc1) q410 q5 q407 q408 q409 nd_X11_reads rfl (by decide) ⟨Nat.zero_le _, Nat.zero_le _⟩ (by decide) (by decide) ⟨_, rfl⟩ rfl (Nat.le_of_ble_eq_true rfl) dX11_behind_1 (fun H locs hH => ?_)
  refine lv_aload_n hx hb dX11_behind_4 rfl (lv_at hl 0 rfl) ?_
  refine lv_iload_n hx hb dX11_behind_5 rfl (lv_at hl 1 rfl) ?_
  obtain ⟨r4, hc3, h⟩ := bn_e h
  refine r_callV1 (ki := 10) (i := 0) (ci := 10) (As := [.int a1]) C hl.1 hH (c_X11_areTurns l g  hc3) q414 q5 q411 q412 q413 nd_X11_areTurns rfl (by decide) ⟨Nat.zero_le _, Nat.zero_le _⟩ (by decide) (by decide) ⟨_, rfl⟩ rfl (Nat.le_of_ble_eq_true rfl) dX11_behind_6 (fun H locs hH => ?_)
  refine lv_if_eq (tgt := 33) hx hb dX11_behind_9 (by decide) (fun c11 => ?_) (fun c11 => ?_)
  · replace h := if_t h c11
    refine lv_bipush (v := (-2 : Int32)) hx hb dX11_behind_33 (by decide) ?_
    exact E_int C hr hH h dX11_behind_35
  · replace h := if_f h c11
    refine lv_iload_n hx hb dX11_behind_12 rfl (lv_at hl 2 rfl) ?_
    refine lv_i2l hx hb dX11_behind_13 rfl ?_
    refine lv_lconst (v := (0 : Int64)) hx hb dX11_behind_14 (by decide) ?_
    refine lv_ldc2 (v := (3 : Int64)) hx hb hown (hts _ q541) dX11_behind_15 ?_
    obtain ⟨r6, hc5, h⟩ := bn_e h
    refine r_callS1 (As := [.long ((a2).toInt64), .long (0 : Int64), .long (3 : Int64)]) C hl.1 hH (c_X11_in l g  hc5) q307 q5 q305 q306 nd_X11_in rfl (by decide) ⟨Nat.zero_le _, Nat.zero_le _⟩ (Nat.le_of_ble_eq_true rfl) dX11_behind_18 (fun H locs hH => ?_)
    refine lv_if_eq (tgt := 33) hx hb dX11_behind_21 (by decide) (fun c10 => ?_) (fun c10 => ?_)
    · replace h := if_t h c10
      refine lv_bipush (v := (-2 : Int32)) hx hb dX11_behind_33 (by decide) ?_
      exact E_int C hr hH h dX11_behind_35
    · replace h := if_f h c10
      refine lv_aload_n hx hb dX11_behind_24 rfl (lv_at hl 0 rfl) ?_
      refine lv_iload_n hx hb dX11_behind_25 rfl (lv_at hl 1 rfl) ?_
      refine lv_iload_n hx hb dX11_behind_26 rfl (lv_at hl 2 rfl) ?_
      obtain ⟨r8, S9, hc7, h⟩ := bn2_e h
      refine r_callV1 (ki := 10) (i := 0) (ci := 10) (As := [.int a1, .int a2]) C hl.1 hH (c_X11_behindOf l g  hc7) q545 q5 q542 q543 q544 nd_X11_behindOf rfl (by decide) ⟨Nat.zero_le _, Nat.zero_le _⟩ (by decide) (by decide) ⟨_, rfl⟩ rfl (Nat.le_of_ble_eq_true rfl) dX11_behind_27 (fun H locs hH => ?_)
      refine lv_goto (tgt := 35) hx hb dX11_behind_30 (by decide) ?_
      exact E_int C hr hH h dX11_behind_35
theorem c_X11_behind (l : Launch) (g : gT) {a1 : Int32} {a2 : Int32}  {S : sT} {r : Int32} {S1 : sT} (h : f_X11_behind a1 a2 S = some (r, S1)) : MF l yX11_behind cX11_behind 3 (some .int) 6 g [.ref (gad g 10 0), .int a1, .int a2] S (some (.int r)) S1 := by
  refine MF.of (own := RX11) rfl rfl (Nat.le_of_ble_eq_true rfl) ?_
  intro p e s m below meth c C hr hH ls hl
  exact w_X11_behind C hr (o := (r, S1))  hH hl h
theorem nd_X11_turnOf : yX11_turnOf.cls ≠ "java/lang/invoke/MethodHandle" ∧ yX11_turnOf.cls ≠ "java/lang/invoke/VarHandle" ∧ (parseMethodDescriptor yX11_turnOf.desc).map (fun d => d.parameters.length) = some 2 := by decide +kernel
def f_X11_turnOf (a1 : Int32) (a2 : Int32) (S : sT) : Option (Int32 × sT) :=
 bn (f_X11_lives (a1 + (1 : Int32)) S) (fun S2 =>
 (if a2 = (0 : Int32) then
 bn (f_X11_whoseTurn a1 S2) (fun r5 =>
 some (r5, S2))
 else
 (if a2 = (1 : Int32) then
 some ((S2.1 117 0 0), S2)
 else
 some ((S2.1 118 0 0), S2))))
set_option maxHeartbeats 4000000 in
set_option maxRecDepth 100000 in
theorem w_X11_turnOf (C : Cx p s m args meth c cX11_turnOf 3 RX11 g) (hr : meth.sig.returnType = (some .int)) {o : Int32 × sT} {a1 : Int32} {a2 : Int32}  {S : sT} {H : Heap} {locs : List Loc} {ls : Array Slot} (hH : Hp g s S H locs) (hl : lv_has ls 3 [(0, .ref (gad g 10 0)), (1, .int a1), (2, .int a2)]) (h : f_X11_turnOf a1 a2 S = some o) : W p l e (rmL 5) s m args below meth c H locs 0 0 (Qm g below args s (some (.int o.1)) o.2) (F0 m 0 ls []) := by
  obtain ⟨hx, hb, hml, hown, hts, hlk, hK⟩ := id C
  unfold f_X11_turnOf at h
  refine lv_aload_n hx hb dX11_turnOf_0 rfl (lv_at hl 0 rfl) ?_
  refine lv_iload_n hx hb dX11_turnOf_1 rfl (lv_at hl 1 rfl) ?_
  refine lv_iconst (v := (1 : Int32)) hx hb dX11_turnOf_2 (by decide) ?_
  refine lv_iadd hx hb dX11_turnOf_3 ?_
  obtain ⟨S2, hc1, h⟩ := bn_e h
  refine r_callV0 (ki := 10) (i := 0) (ci := 10) (As := [.int (a1 + (1 : Int32))]) C hl.1 hH (c_X11_lives l g  hc1) q426 q5 q423 q424 q425 nd_X11_lives rfl (by decide) ⟨Nat.zero_le _, Nat.zero_le _⟩ (by decide) (by decide) ⟨_, rfl⟩ rfl (Nat.le_of_ble_eq_true rfl) dX11_turnOf_4 (fun H locs hH => ?_)
  refine lv_iload_n hx hb dX11_turnOf_7 rfl (lv_at hl 2 rfl) ?_
  refine lv_if_ne (tgt := 19) hx hb dX11_turnOf_8 (by decide) (fun c6 => ?_) (fun c6 => ?_)
  · replace h := if_f h c6
    refine lv_iload_n hx hb dX11_turnOf_19 rfl (lv_at hl 2 rfl) ?_
    refine lv_iconst (v := (1 : Int32)) hx hb dX11_turnOf_20 (by decide) ?_
    refine lv_icmp_ne (tgt := 31) hx hb dX11_turnOf_21 (by decide) (fun c3 => ?_) (fun c3 => ?_)
    · replace h := if_f h c3
      refine lv_aload_n hx hb dX11_turnOf_31 rfl (lv_at hl 0 rfl) ?_
      refine gf_X11_142 C hH dX11_turnOf_32 ?_
      exact E_int C hr hH h dX11_turnOf_35
    · replace h := if_t h c3
      refine lv_aload_n hx hb dX11_turnOf_24 rfl (lv_at hl 0 rfl) ?_
      refine gf_X11_139 C hH dX11_turnOf_25 ?_
      refine lv_goto (tgt := 35) hx hb dX11_turnOf_28 (by decide) ?_
      exact E_int C hr hH h dX11_turnOf_35
  · replace h := if_t h c6
    refine lv_aload_n hx hb dX11_turnOf_11 rfl (lv_at hl 0 rfl) ?_
    refine lv_iload_n hx hb dX11_turnOf_12 rfl (lv_at hl 1 rfl) ?_
    obtain ⟨r5, hc4, h⟩ := bn_e h
    refine r_callV1 (ki := 10) (i := 0) (ci := 10) (As := [.int a1]) C hl.1 hH (c_X11_whoseTurn l g  hc4) q441 q5 q438 q439 q440 nd_X11_whoseTurn rfl (by decide) ⟨Nat.zero_le _, Nat.zero_le _⟩ (by decide) (by decide) ⟨_, rfl⟩ rfl (Nat.le_of_ble_eq_true rfl) dX11_turnOf_13 (fun H locs hH => ?_)
    refine lv_goto (tgt := 35) hx hb dX11_turnOf_16 (by decide) ?_
    exact E_int C hr hH h dX11_turnOf_35
theorem c_X11_turnOf (l : Launch) (g : gT) {a1 : Int32} {a2 : Int32}  {S : sT} {r : Int32} {S1 : sT} (h : f_X11_turnOf a1 a2 S = some (r, S1)) : MF l yX11_turnOf cX11_turnOf 3 (some .int) 5 g [.ref (gad g 10 0), .int a1, .int a2] S (some (.int r)) S1 := by
  refine MF.of (own := RX11) rfl rfl (Nat.le_of_ble_eq_true rfl) ?_
  intro p e s m below meth c C hr hH ls hl
  exact w_X11_turnOf C hr (o := (r, S1))  hH hl h
theorem nd_X11_turn : yX11_turn.cls ≠ "java/lang/invoke/MethodHandle" ∧ yX11_turn.cls ≠ "java/lang/invoke/VarHandle" ∧ (parseMethodDescriptor yX11_turn.desc).map (fun d => d.parameters.length) = some 2 := by decide +kernel
def f_X11_turn (a1 : Int32) (a2 : Int32) (S : sT) : Option (Int32 × sT) :=
 bn (f_X11_reads  S) (fun S2 =>
 bn (f_X11_in ((a1).toInt64) (0 : Int64) ((((S2.1 116 0 0) - (1 : Int32))).toInt64) S2) (fun r4 =>
 (if r4 = (0 : Int32) then
 some ((-2 : Int32), S2)
 else
 bn (f_X11_in ((a2).toInt64) (0 : Int64) (2 : Int64) S2) (fun r6 =>
 (if r6 = (0 : Int32) then
 some ((-2 : Int32), S2)
 else
 bn2 (f_X11_turnOf a1 a2 S2) (fun r8 S9 =>
 some (r8, S9)))))))
set_option maxHeartbeats 4000000 in
set_option maxRecDepth 100000 in
theorem w_X11_turn (C : Cx p s m args meth c cX11_turn 3 RX11 g) (hr : meth.sig.returnType = (some .int)) {o : Int32 × sT} {a1 : Int32} {a2 : Int32}  {S : sT} {H : Heap} {locs : List Loc} {ls : Array Slot} (hH : Hp g s S H locs) (hl : lv_has ls 3 [(0, .ref (gad g 10 0)), (1, .int a1), (2, .int a2)]) (h : f_X11_turn a1 a2 S = some o) : W p l e (rmL 6) s m args below meth c H locs 0 0 (Qm g below args s (some (.int o.1)) o.2) (F0 m 0 ls []) := by
  obtain ⟨hx, hb, hml, hown, hts, hlk, hK⟩ := id C
  unfold f_X11_turn at h
  refine lv_aload_n hx hb dX11_turn_0 rfl (lv_at hl 0 rfl) ?_
  obtain ⟨S2, hc1, h⟩ := bn_e h
  refine r_callV0 (ki := 10) (i := 0) (ci := 10) (As := []) C hl.1 hH (c_X11_reads l g  hc1) q410 q5 q407 q408 q409 nd_X11_reads rfl (by decide) ⟨Nat.zero_le _, Nat.zero_le _⟩ (by decide) (by decide) ⟨_, rfl⟩ rfl (Nat.le_of_ble_eq_true rfl) dX11_turn_1 (fun H locs hH => ?_)
  refine lv_iload_n hx hb dX11_turn_4 rfl (lv_at hl 1 rfl) ?_
  refine lv_i2l hx hb dX11_turn_5 rfl ?_
  refine lv_lconst (v := (0 : Int64)) hx hb dX11_turn_6 (by decide) ?_
  refine lv_aload_n hx hb dX11_turn_7 rfl (lv_at hl 0 rfl) ?_
  refine gf_X11_108 C hH dX11_turn_8 ?_
  refine lv_iconst (v := (1 : Int32)) hx hb dX11_turn_11 (by decide) ?_
  refine lv_isub hx hb dX11_turn_12 ?_
  refine lv_i2l hx hb dX11_turn_13 rfl ?_
  obtain ⟨r4, hc3, h⟩ := bn_e h
  refine r_callS1 (As := [.long ((a1).toInt64), .long (0 : Int64), .long ((((S2.1 116 0 0) - (1 : Int32))).toInt64)]) C hl.1 hH (c_X11_in l g  hc3) q307 q5 q305 q306 nd_X11_in rfl (by decide) ⟨Nat.zero_le _, Nat.zero_le _⟩ (Nat.le_of_ble_eq_true rfl) dX11_turn_14 (fun H locs hH => ?_)
  refine lv_if_eq (tgt := 41) hx hb dX11_turn_17 (by decide) (fun c11 => ?_) (fun c11 => ?_)
  · replace h := if_t h c11
    refine lv_bipush (v := (-2 : Int32)) hx hb dX11_turn_41 (by decide) ?_
    exact E_int C hr hH h dX11_turn_43
  · replace h := if_f h c11
    refine lv_iload_n hx hb dX11_turn_20 rfl (lv_at hl 2 rfl) ?_
    refine lv_i2l hx hb dX11_turn_21 rfl ?_
    refine lv_lconst (v := (0 : Int64)) hx hb dX11_turn_22 (by decide) ?_
    refine lv_ldc2 (v := (2 : Int64)) hx hb hown (hts _ q590) dX11_turn_23 ?_
    obtain ⟨r6, hc5, h⟩ := bn_e h
    refine r_callS1 (As := [.long ((a2).toInt64), .long (0 : Int64), .long (2 : Int64)]) C hl.1 hH (c_X11_in l g  hc5) q307 q5 q305 q306 nd_X11_in rfl (by decide) ⟨Nat.zero_le _, Nat.zero_le _⟩ (Nat.le_of_ble_eq_true rfl) dX11_turn_26 (fun H locs hH => ?_)
    refine lv_if_eq (tgt := 41) hx hb dX11_turn_29 (by decide) (fun c10 => ?_) (fun c10 => ?_)
    · replace h := if_t h c10
      refine lv_bipush (v := (-2 : Int32)) hx hb dX11_turn_41 (by decide) ?_
      exact E_int C hr hH h dX11_turn_43
    · replace h := if_f h c10
      refine lv_aload_n hx hb dX11_turn_32 rfl (lv_at hl 0 rfl) ?_
      refine lv_iload_n hx hb dX11_turn_33 rfl (lv_at hl 1 rfl) ?_
      refine lv_iload_n hx hb dX11_turn_34 rfl (lv_at hl 2 rfl) ?_
      obtain ⟨r8, S9, hc7, h⟩ := bn2_e h
      refine r_callV1 (ki := 10) (i := 0) (ci := 10) (As := [.int a1, .int a2]) C hl.1 hH (c_X11_turnOf l g  hc7) q594 q5 q591 q592 q593 nd_X11_turnOf rfl (by decide) ⟨Nat.zero_le _, Nat.zero_le _⟩ (by decide) (by decide) ⟨_, rfl⟩ rfl (Nat.le_of_ble_eq_true rfl) dX11_turn_35 (fun H locs hH => ?_)
      refine lv_goto (tgt := 43) hx hb dX11_turn_38 (by decide) ?_
      exact E_int C hr hH h dX11_turn_43
theorem c_X11_turn (l : Launch) (g : gT) {a1 : Int32} {a2 : Int32}  {S : sT} {r : Int32} {S1 : sT} (h : f_X11_turn a1 a2 S = some (r, S1)) : MF l yX11_turn cX11_turn 3 (some .int) 6 g [.ref (gad g 10 0), .int a1, .int a2] S (some (.int r)) S1 := by
  refine MF.of (own := RX11) rfl rfl (Nat.le_of_ble_eq_true rfl) ?_
  intro p e s m below meth c C hr hH ls hl
  exact w_X11_turn C hr (o := (r, S1))  hH hl h
theorem nd_X11_firstOf : yX11_firstOf.cls ≠ "java/lang/invoke/MethodHandle" ∧ yX11_firstOf.cls ≠ "java/lang/invoke/VarHandle" ∧ (parseMethodDescriptor yX11_firstOf.desc).map (fun d => d.parameters.length) = some 1 := by decide +kernel
def b_X11_firstOf_23 (j5 : Int32 → Int32 → sT → Option (Int32 × sT)) (x6 : Int32) (S10 : sT) (r12 : Int32) (j14 : Option (Int32 × sT)) (x15 : Int32) (k16 : Int32 → Option (Int32 × sT)) : Option (Int32 × sT) :=
 (if (S10.1 115 0 0) ≤ x15 then
 j14
 else
 bn (f_X11_isIn r12 x15 S10) (fun r18 =>
 (if r18 = (0 : Int32) then
 lt (x15 + (1 : Int32)) (fun x19 =>
 k16 x19)
 else
 j5 x6 x15 S10)))
def l_X11_firstOf_23 (j5 : Int32 → Int32 → sT → Option (Int32 × sT)) (x6 : Int32) (S10 : sT) (r12 : Int32) (j14 : Option (Int32 × sT)) : Nat → Int32 → Option (Int32 × sT)
 | 0, _ => none
 | n + 1, x15 => b_X11_firstOf_23 j5 x6 S10 r12 j14 x15 (l_X11_firstOf_23 j5 x6 S10 r12 j14 n)
theorem l_X11_firstOf_23_s (j5 : Int32 → Int32 → sT → Option (Int32 × sT)) (x6 : Int32) (S10 : sT) (r12 : Int32) (j14 : Option (Int32 × sT)) (n : Nat) (x15 : Int32) : l_X11_firstOf_23 j5 x6 S10 r12 j14 (n + 1) x15 = b_X11_firstOf_23 j5 x6 S10 r12 j14 x15 (l_X11_firstOf_23 j5 x6 S10 r12 j14 n) := rfl
def b_X11_firstOf_2 (j5 : Int32 → Int32 → sT → Option (Int32 × sT)) (x6 : Int32) (S7 : sT) (k8 : Int32 → sT → Option (Int32 × sT)) : Option (Int32 × sT) :=
 (if (S7.1 116 0 0) < x6 then
 some ((-1 : Int32), S7)
 else
 bn (f_X11_lives x6 S7) (fun S10 =>
 bn (f_X11_weakNow  S10) (fun r12 =>
 jn (lt (x6 + (1 : Int32)) (fun x13 =>
 k8 x13 S10))
 (fun j14 => l_X11_firstOf_23 j5 x6 S10 r12 j14 FU (0 : Int32)))))
def l_X11_firstOf_2 (j5 : Int32 → Int32 → sT → Option (Int32 × sT)) : Nat → Int32 → sT → Option (Int32 × sT)
 | 0, _, _ => none
 | n + 1, x6, S7 => b_X11_firstOf_2 j5 x6 S7 (l_X11_firstOf_2 j5 n)
theorem l_X11_firstOf_2_s (j5 : Int32 → Int32 → sT → Option (Int32 × sT)) (n : Nat) (x6 : Int32) (S7 : sT) : l_X11_firstOf_2 j5 (n + 1) x6 S7 = b_X11_firstOf_2 j5 x6 S7 (l_X11_firstOf_2 j5 n) := rfl
def f_X11_firstOf (a1 : Int32) (S : sT) : Option (Int32 × sT) :=
 jn (fun (x1 : Int32) (x2 : Int32) (S3 : sT) => (if a1 = (0 : Int32) then
 some (x1, S3)
 else
 some (x2, S3)))
 (fun j5 => l_X11_firstOf_2 j5 FU (0 : Int32) S)
set_option maxHeartbeats 4000000 in
set_option maxRecDepth 100000 in
theorem w_X11_firstOf_23 (C : Cx p s m args meth c cX11_firstOf 5 RX11 g) (hr : meth.sig.returnType = (some .int)) {o : Int32 × sT}  {a1 : Int32} {x6 : Int32} {S10 : sT} {r12 : Int32}  (j5 : Int32 → Int32 → sT → Option (Int32 × sT)) (hj5 : ∀ (x1 : Int32) (x2 : Int32) (S3 : sT) (H : Heap) (locs : List Loc) (ls : Array Slot), Hp g s S3 H locs → lv_has ls 5 [(1, .int a1), (2, .int x1), (4, .int x2)] → j5 x1 x2 S3 = some o → W p l e (rmL 5) s m args below meth c H locs 0 0 (Qm g below args s (some (.int o.1)) o.2) (F0 m 41 ls [])) (j14 : Option (Int32 × sT)) (hj14 : ∀  (H : Heap) (locs : List Loc) (ls : Array Slot), Hp g s S10 H locs → lv_has ls 5 [(0, .ref (gad g 10 0)), (1, .int a1), (2, .int x6)] → j14  = some o → W p l e (rmL 5) s m args below meth c H locs 0 0 (Qm g below args s (some (.int o.1)) o.2) (F0 m 58 ls [])) : ∀ (n : Nat) (x15 : Int32) (H : Heap) (locs : List Loc) (ls : Array Slot), Hp g s S10 H locs → lv_has ls 5 [(0, .ref (gad g 10 0)), (1, .int a1), (2, .int x6), (3, .int r12), (4, .int x15)] → l_X11_firstOf_23 j5 x6 S10 r12 j14 n x15 = some o → W p l e (rmL 5) s m args below meth c H locs 0 0 (Qm g below args s (some (.int o.1)) o.2) (F0 m 23 ls []) := by
  obtain ⟨hx, hb, hml, hown, hts, hlk, hK⟩ := id C
  intro n
  induction n with
  | zero =>
    intro x15 H locs ls hH hl h
    cases h
  | succ n ih =>
    intro x15 H locs ls hH hl h
    rw [l_X11_firstOf_23_s] at h
    unfold b_X11_firstOf_23 at h
    refine lv_iload hx hb dX11_firstOf_23 (lv_at hl 4 rfl) ?_
    refine lv_aload_n hx hb dX11_firstOf_25 rfl (lv_at hl 0 rfl) ?_
    refine gf_X11_91 C hH dX11_firstOf_26 ?_
    refine lv_icmp_ge (tgt := 58) hx hb dX11_firstOf_29 (by decide) (fun c21 => ?_) (fun c21 => ?_)
    · replace h := if_t h c21
      exact hj14 _ _ _ hH (lv_sub hl [0, 1, 2] rfl) h
    · replace h := if_f h c21
      refine lv_iload_n hx hb dX11_firstOf_32 rfl (lv_at hl 3 rfl) ?_
      refine lv_iload hx hb dX11_firstOf_33 (lv_at hl 4 rfl) ?_
      obtain ⟨r18, hc17, h⟩ := bn_e h
      refine r_callS1 (As := [.int r12, .int x15]) C hl.1 hH (c_X11_isIn l g  hc17) q563 q5 q561 q562 nd_X11_isIn rfl (by decide) ⟨Nat.zero_le _, Nat.zero_le _⟩ (Nat.le_of_ble_eq_true rfl) dX11_firstOf_35 (fun H locs hH => ?_)
      refine lv_if_eq (tgt := 52) hx hb dX11_firstOf_38 (by decide) (fun c20 => ?_) (fun c20 => ?_)
      · replace h := if_t h c20
        obtain ⟨x19, ex19⟩ : ∃ z : Int32, z = (x15 + (1 : Int32)) := ⟨_, rfl⟩
        replace h := lt_e h ex19
        refine lv_iinc (v := x19) (lv' := [(4, .int x19), (0, .ref (gad g 10 0)), (1, .int a1), (2, .int x6), (3, .int r12)]) hx hb dX11_firstOf_52 hl (k := 4) rfl (by rw [ex19]; rfl) (by decide) rfl (fun ls hl => ?_)
        refine lv_goto (tgt := 23) hx hb dX11_firstOf_55 (by decide) ?_
        exact ih _ _ _ _ hH (lv_sub hl [1, 2, 3, 4, 0] rfl) h
      · replace h := if_f h c20
        exact hj5 _ _ _ _ _ _ hH (lv_sub hl [1, 2, 4] rfl) h
set_option maxHeartbeats 4000000 in
set_option maxRecDepth 100000 in
theorem w_X11_firstOf_2 (C : Cx p s m args meth c cX11_firstOf 5 RX11 g) (hr : meth.sig.returnType = (some .int)) {o : Int32 × sT}  {a1 : Int32}  (j5 : Int32 → Int32 → sT → Option (Int32 × sT)) (hj5 : ∀ (x1 : Int32) (x2 : Int32) (S3 : sT) (H : Heap) (locs : List Loc) (ls : Array Slot), Hp g s S3 H locs → lv_has ls 5 [(1, .int a1), (2, .int x1), (4, .int x2)] → j5 x1 x2 S3 = some o → W p l e (rmL 5) s m args below meth c H locs 0 0 (Qm g below args s (some (.int o.1)) o.2) (F0 m 41 ls [])) : ∀ (n : Nat) (x6 : Int32) (S7 : sT) (H : Heap) (locs : List Loc) (ls : Array Slot), Hp g s S7 H locs → lv_has ls 5 [(0, .ref (gad g 10 0)), (1, .int a1), (2, .int x6)] → l_X11_firstOf_2 j5 n x6 S7 = some o → W p l e (rmL 5) s m args below meth c H locs 0 0 (Qm g below args s (some (.int o.1)) o.2) (F0 m 2 ls []) := by
  obtain ⟨hx, hb, hml, hown, hts, hlk, hK⟩ := id C
  intro n
  induction n with
  | zero =>
    intro x6 S7 H locs ls hH hl h
    cases h
  | succ n ih =>
    intro x6 S7 H locs ls hH hl h
    rw [l_X11_firstOf_2_s] at h
    unfold b_X11_firstOf_2 at h
    refine lv_iload_n hx hb dX11_firstOf_2 rfl (lv_at hl 2 rfl) ?_
    refine lv_aload_n hx hb dX11_firstOf_3 rfl (lv_at hl 0 rfl) ?_
    refine gf_X11_108 C hH dX11_firstOf_4 ?_
    refine lv_icmp_gt (tgt := 64) hx hb dX11_firstOf_7 (by decide) (fun c22 => ?_) (fun c22 => ?_)
    · replace h := if_t h c22
      refine lv_iconst (v := (-1 : Int32)) hx hb dX11_firstOf_64 (by decide) ?_
      exact E_int C hr hH h dX11_firstOf_65
    · replace h := if_f h c22
      refine lv_aload_n hx hb dX11_firstOf_10 rfl (lv_at hl 0 rfl) ?_
      refine lv_iload_n hx hb dX11_firstOf_11 rfl (lv_at hl 2 rfl) ?_
      obtain ⟨S10, hc9, h⟩ := bn_e h
      refine r_callV0 (ki := 10) (i := 0) (ci := 10) (As := [.int x6]) C hl.1 hH (c_X11_lives l g  hc9) q426 q5 q423 q424 q425 nd_X11_lives rfl (by decide) ⟨Nat.zero_le _, Nat.zero_le _⟩ (by decide) (by decide) ⟨_, rfl⟩ rfl (Nat.le_of_ble_eq_true rfl) dX11_firstOf_12 (fun H locs hH => ?_)
      refine lv_aload_n hx hb dX11_firstOf_15 rfl (lv_at hl 0 rfl) ?_
      obtain ⟨r12, hc11, h⟩ := bn_e h
      refine r_callV1 (ki := 10) (i := 0) (ci := 10) (As := []) C hl.1 hH (c_X11_weakNow l g  hc11) q549 q5 q546 q547 q548 nd_X11_weakNow rfl (by decide) ⟨Nat.zero_le _, Nat.zero_le _⟩ (by decide) (by decide) ⟨_, rfl⟩ rfl (Nat.le_of_ble_eq_true rfl) dX11_firstOf_16 (fun H locs hH => ?_)
      refine lv_istore_n (lv' := [(3, .int r12), (0, .ref (gad g 10 0)), (1, .int a1), (2, .int x6)]) hx hb dX11_firstOf_19 rfl hl (by decide) rfl (fun ls hl => ?_)
      refine lv_iconst (v := (0 : Int32)) hx hb dX11_firstOf_20 (by decide) ?_
      refine lv_istore (lv' := [(4, .int (0 : Int32)), (3, .int r12), (0, .ref (gad g 10 0)), (1, .int a1), (2, .int x6)]) hx hb dX11_firstOf_21 hl (by decide) rfl (fun ls hl => ?_)
      obtain ⟨j14, ej14, h⟩ := jn_e h
      have hj14 : ∀  (H : Heap) (locs : List Loc) (ls : Array Slot), Hp g s S10 H locs → lv_has ls 5 [(0, .ref (gad g 10 0)), (1, .int a1), (2, .int x6)] → j14  = some o → W p l e (rmL 5) s m args below meth c H locs 0 0 (Qm g below args s (some (.int o.1)) o.2) (F0 m 58 ls []) := by
        intro  H locs ls hH hl h
        rw [ej14] at h
        try dsimp only at h
        obtain ⟨x13, ex13⟩ : ∃ z : Int32, z = (x6 + (1 : Int32)) := ⟨_, rfl⟩
        replace h := lt_e h ex13
        refine lv_iinc (v := x13) (lv' := [(2, .int x13), (0, .ref (gad g 10 0)), (1, .int a1)]) hx hb dX11_firstOf_58 hl (k := 2) rfl (by rw [ex13]; rfl) (by decide) rfl (fun ls hl => ?_)
        refine lv_goto (tgt := 2) hx hb dX11_firstOf_61 (by decide) ?_
        exact ih _ _ _ _ _ hH (lv_sub hl [1, 2, 0] rfl) h
      clear ej14
      exact w_X11_firstOf_23 C hr  j5 hj5 j14 hj14 _ _ _ _ _ hH (lv_sub hl [2, 3, 4, 1, 0] rfl) h
set_option maxHeartbeats 4000000 in
set_option maxRecDepth 100000 in
theorem w_X11_firstOf (C : Cx p s m args meth c cX11_firstOf 5 RX11 g) (hr : meth.sig.returnType = (some .int)) {o : Int32 × sT} {a1 : Int32}  {S : sT} {H : Heap} {locs : List Loc} {ls : Array Slot} (hH : Hp g s S H locs) (hl : lv_has ls 5 [(0, .ref (gad g 10 0)), (1, .int a1)]) (h : f_X11_firstOf a1 S = some o) : W p l e (rmL 5) s m args below meth c H locs 0 0 (Qm g below args s (some (.int o.1)) o.2) (F0 m 0 ls []) := by
  obtain ⟨hx, hb, hml, hown, hts, hlk, hK⟩ := id C
  unfold f_X11_firstOf at h
  refine lv_iconst (v := (0 : Int32)) hx hb dX11_firstOf_0 (by decide) ?_
  refine lv_istore_n (lv' := [(2, .int (0 : Int32)), (0, .ref (gad g 10 0)), (1, .int a1)]) hx hb dX11_firstOf_1 rfl hl (by decide) rfl (fun ls hl => ?_)
  obtain ⟨j5, ej5, h⟩ := jn_e h
  have hj5 : ∀ (x1 : Int32) (x2 : Int32) (S3 : sT) (H : Heap) (locs : List Loc) (ls : Array Slot), Hp g s S3 H locs → lv_has ls 5 [(1, .int a1), (2, .int x1), (4, .int x2)] → j5 x1 x2 S3 = some o → W p l e (rmL 5) s m args below meth c H locs 0 0 (Qm g below args s (some (.int o.1)) o.2) (F0 m 41 ls []) := by
    intro x1 x2 S3 H locs ls hH hl h
    rw [ej5] at h
    try dsimp only at h
    refine lv_iload_n hx hb dX11_firstOf_41 rfl (lv_at hl 0 rfl) ?_
    refine lv_if_ne (tgt := 49) hx hb dX11_firstOf_42 (by decide) (fun c4 => ?_) (fun c4 => ?_)
    · replace h := if_f h c4
      refine lv_iload hx hb dX11_firstOf_49 (lv_at hl 2 rfl) ?_
      exact E_int C hr hH h dX11_firstOf_51
    · replace h := if_t h c4
      refine lv_iload_n hx hb dX11_firstOf_45 rfl (lv_at hl 1 rfl) ?_
      refine lv_goto (tgt := 51) hx hb dX11_firstOf_46 (by decide) ?_
      exact E_int C hr hH h dX11_firstOf_51
  clear ej5
  exact w_X11_firstOf_2 C hr  j5 hj5 _ _ _ _ _ _ hH (lv_sub hl [1, 2, 0] rfl) h
theorem c_X11_firstOf (l : Launch) (g : gT) {a1 : Int32}  {S : sT} {r : Int32} {S1 : sT} (h : f_X11_firstOf a1 S = some (r, S1)) : MF l yX11_firstOf cX11_firstOf 5 (some .int) 5 g [.ref (gad g 10 0), .int a1] S (some (.int r)) S1 := by
  refine MF.of (own := RX11) rfl rfl (Nat.le_of_ble_eq_true rfl) ?_
  intro p e s m below meth c C hr hH ls hl
  exact w_X11_firstOf C hr (o := (r, S1))  hH hl h
theorem nd_X11_first : yX11_first.cls ≠ "java/lang/invoke/MethodHandle" ∧ yX11_first.cls ≠ "java/lang/invoke/VarHandle" ∧ (parseMethodDescriptor yX11_first.desc).map (fun d => d.parameters.length) = some 1 := by decide +kernel
def f_X11_first (a1 : Int32) (S : sT) : Option (Int32 × sT) :=
 bn (f_X11_reads  S) (fun S2 =>
 bn (f_X11_isTwo a1 S2) (fun r4 =>
 (if r4 = (0 : Int32) then
 some ((-2 : Int32), S2)
 else
 bn2 (f_X11_firstOf a1 S2) (fun r6 S7 =>
 some (r6, S7)))))
set_option maxHeartbeats 4000000 in
set_option maxRecDepth 100000 in
theorem w_X11_first (C : Cx p s m args meth c cX11_first 2 RX11 g) (hr : meth.sig.returnType = (some .int)) {o : Int32 × sT} {a1 : Int32}  {S : sT} {H : Heap} {locs : List Loc} {ls : Array Slot} (hH : Hp g s S H locs) (hl : lv_has ls 2 [(0, .ref (gad g 10 0)), (1, .int a1)]) (h : f_X11_first a1 S = some o) : W p l e (rmL 6) s m args below meth c H locs 0 0 (Qm g below args s (some (.int o.1)) o.2) (F0 m 0 ls []) := by
  obtain ⟨hx, hb, hml, hown, hts, hlk, hK⟩ := id C
  unfold f_X11_first at h
  refine lv_aload_n hx hb dX11_first_0 rfl (lv_at hl 0 rfl) ?_
  obtain ⟨S2, hc1, h⟩ := bn_e h
  refine r_callV0 (ki := 10) (i := 0) (ci := 10) (As := []) C hl.1 hH (c_X11_reads l g  hc1) q410 q5 q407 q408 q409 nd_X11_reads rfl (by decide) ⟨Nat.zero_le _, Nat.zero_le _⟩ (by decide) (by decide) ⟨_, rfl⟩ rfl (Nat.le_of_ble_eq_true rfl) dX11_first_1 (fun H locs hH => ?_)
  refine lv_iload_n hx hb dX11_first_4 rfl (lv_at hl 1 rfl) ?_
  obtain ⟨r4, hc3, h⟩ := bn_e h
  refine r_callS1 (As := [.int a1]) C hl.1 hH (c_X11_isTwo l g  hc3) q304 q5 q302 q303 nd_X11_isTwo rfl (by decide) ⟨Nat.zero_le _, Nat.zero_le _⟩ (Nat.le_of_ble_eq_true rfl) dX11_first_5 (fun H locs hH => ?_)
  refine lv_if_eq (tgt := 19) hx hb dX11_first_8 (by decide) (fun c8 => ?_) (fun c8 => ?_)
  · replace h := if_t h c8
    refine lv_bipush (v := (-2 : Int32)) hx hb dX11_first_19 (by decide) ?_
    exact E_int C hr hH h dX11_first_21
  · replace h := if_f h c8
    refine lv_aload_n hx hb dX11_first_11 rfl (lv_at hl 0 rfl) ?_
    refine lv_iload_n hx hb dX11_first_12 rfl (lv_at hl 1 rfl) ?_
    obtain ⟨r6, S7, hc5, h⟩ := bn2_e h
    refine r_callV1 (ki := 10) (i := 0) (ci := 10) (As := [.int a1]) C hl.1 hH (c_X11_firstOf l g  hc5) q613 q5 q610 q611 q612 nd_X11_firstOf rfl (by decide) ⟨Nat.zero_le _, Nat.zero_le _⟩ (by decide) (by decide) ⟨_, rfl⟩ rfl (Nat.le_of_ble_eq_true rfl) dX11_first_13 (fun H locs hH => ?_)
    refine lv_goto (tgt := 21) hx hb dX11_first_16 (by decide) ?_
    exact E_int C hr hH h dX11_first_21
theorem c_X11_first (l : Launch) (g : gT) {a1 : Int32}  {S : sT} {r : Int32} {S1 : sT} (h : f_X11_first a1 S = some (r, S1)) : MF l yX11_first cX11_first 2 (some .int) 6 g [.ref (gad g 10 0), .int a1] S (some (.int r)) S1 := by
  refine MF.of (own := RX11) rfl rfl (Nat.le_of_ble_eq_true rfl) ?_
  intro p e s m below meth c C hr hH ls hl
  exact w_X11_first C hr (o := (r, S1))  hH hl h
theorem nd_X11_highestNow : yX11_highestNow.cls ≠ "java/lang/invoke/MethodHandle" ∧ yX11_highestNow.cls ≠ "java/lang/invoke/VarHandle" ∧ (parseMethodDescriptor yX11_highestNow.desc).map (fun d => d.parameters.length) = some 0 := by decide +kernel
def b_X11_highestNow_12 (S2 : sT) (x3 : Int32) (x4 : Int32) (k5 : Int32 → Int32 → Option (Int32 × sT)) : Option (Int32 × sT) :=
 (if (S2.1 115 0 0) ≤ x4 then
 some (x3, S2)
 else
 jn (fun (y6 : Int32) => lt (x4 + (1 : Int32)) (fun x7 =>
 k5 y6 x7))
 (fun j8 => jn (j8 x4)
 (fun j9 => (if x3 = (-1 : Int32) then
 j9
 else
 bn (f_X11_highOf x4 S2) (fun r11 =>
 bn (f_X11_highOf x3 S2) (fun r13 =>
 (if r11 ≤ r13 then
 j8 x3
 else
 j9)))))))
def l_X11_highestNow_12 (S2 : sT) : Nat → Int32 → Int32 → Option (Int32 × sT)
 | 0, _, _ => none
 | n + 1, x3, x4 => b_X11_highestNow_12 S2 x3 x4 (l_X11_highestNow_12 S2 n)
theorem l_X11_highestNow_12_s (S2 : sT) (n : Nat) (x3 : Int32) (x4 : Int32) : l_X11_highestNow_12 S2 (n + 1) x3 x4 = b_X11_highestNow_12 S2 x3 x4 (l_X11_highestNow_12 S2 n) := rfl
def f_X11_highestNow  (S : sT) : Option (Int32 × sT) :=
 bn (f_X11_lives (S.1 116 0 0) S) (fun S2 =>
 l_X11_highestNow_12 S2 FU (-1 : Int32) (0 : Int32))
set_option maxHeartbeats 4000000 in
set_option maxRecDepth 100000 in
theorem w_X11_highestNow_12 (C : Cx p s m args meth c cX11_highestNow 3 RX11 g) (hr : meth.sig.returnType = (some .int)) {o : Int32 × sT}  {S2 : sT}   : ∀ (n : Nat) (x3 : Int32) (x4 : Int32) (H : Heap) (locs : List Loc) (ls : Array Slot), Hp g s S2 H locs → lv_has ls 3 [(0, .ref (gad g 10 0)), (1, .int x3), (2, .int x4)] → l_X11_highestNow_12 S2 n x3 x4 = some o → W p l e (rmL 5) s m args below meth c H locs 0 0 (Qm g below args s (some (.int o.1)) o.2) (F0 m 12 ls []) := by
  obtain ⟨hx, hb, hml, hown, hts, hlk, hK⟩ := id C
  intro n
  induction n with
  | zero =>
    intro x3 x4 H locs ls hH hl h
    cases h
  | succ n ih =>
    intro x3 x4 H locs ls hH hl h
    rw [l_X11_highestNow_12_s] at h
    unfold b_X11_highestNow_12 at h
    refine lv_iload_n hx hb dX11_highestNow_12 rfl (lv_at hl 2 rfl) ?_
    refine lv_aload_n hx hb dX11_highestNow_13 rfl (lv_at hl 0 rfl) ?_
    refine gf_X11_91 C hH dX11_highestNow_14 ?_
    refine lv_icmp_ge (tgt := 50) hx hb dX11_highestNow_17 (by decide) (fun c16 => ?_) (fun c16 => ?_)
    · replace h := if_t h c16
      refine lv_iload_n hx hb dX11_highestNow_50 rfl (lv_at hl 1 rfl) ?_
      exact E_int C hr hH h dX11_highestNow_51
    · replace h := if_f h c16
      refine lv_iload_n hx hb dX11_highestNow_20 rfl (lv_at hl 1 rfl) ?_
      refine lv_iconst (v := (-1 : Int32)) hx hb dX11_highestNow_21 (by decide) ?_
      obtain ⟨j8, ej8, h⟩ := jn_e h
      have hj8 : ∀ (y6 : Int32) (H : Heap) (locs : List Loc) (ls : Array Slot), Hp g s S2 H locs → lv_has ls 3 [(0, .ref (gad g 10 0)), (2, .int x4)] → j8 y6 = some o → W p l e (rmL 5) s m args below meth c H locs 0 0 (Qm g below args s (some (.int o.1)) o.2) (F0 m 43 ls [.int y6]) := by
        intro y6 H locs ls hH hl h
        rw [ej8] at h
        try dsimp only at h
        refine lv_istore_n (lv' := [(1, .int y6), (0, .ref (gad g 10 0)), (2, .int x4)]) hx hb dX11_highestNow_43 rfl hl (by decide) rfl (fun ls hl => ?_)
        obtain ⟨x7, ex7⟩ : ∃ z : Int32, z = (x4 + (1 : Int32)) := ⟨_, rfl⟩
        replace h := lt_e h ex7
        refine lv_iinc (v := x7) (lv' := [(2, .int x7), (1, .int y6), (0, .ref (gad g 10 0))]) hx hb dX11_highestNow_44 hl (k := 2) rfl (by rw [ex7]; rfl) (by decide) rfl (fun ls hl => ?_)
        refine lv_goto (tgt := 12) hx hb dX11_highestNow_47 (by decide) ?_
        exact ih _ _ _ _ _ hH (lv_sub hl [2, 1, 0] rfl) h
      clear ej8
      obtain ⟨j9, ej9, h⟩ := jn_e h
      have hj9 : ∀  (H : Heap) (locs : List Loc) (ls : Array Slot), Hp g s S2 H locs → lv_has ls 3 [(0, .ref (gad g 10 0)), (2, .int x4)] → j9  = some o → W p l e (rmL 5) s m args below meth c H locs 0 0 (Qm g below args s (some (.int o.1)) o.2) (F0 m 38 ls []) := by
        intro  H locs ls hH hl h
        rw [ej9] at h
        try dsimp only at h
        refine lv_iload_n hx hb dX11_highestNow_38 rfl (lv_at hl 1 rfl) ?_
        refine lv_goto (tgt := 43) hx hb dX11_highestNow_39 (by decide) ?_
        exact hj8 _ _ _ _ hH (lv_sub hl [0, 1] rfl) h
      clear ej9
      refine lv_icmp_eq (tgt := 38) hx hb dX11_highestNow_22 (by decide) (fun c15 => ?_) (fun c15 => ?_)
      · replace h := if_t h c15
        exact hj9 _ _ _ hH (lv_sub hl [0, 2] rfl) h
      · replace h := if_f h c15
        refine lv_aload_n hx hb dX11_highestNow_25 rfl (lv_at hl 0 rfl) ?_
        refine lv_iload_n hx hb dX11_highestNow_26 rfl (lv_at hl 2 rfl) ?_
        obtain ⟨r11, hc10, h⟩ := bn_e h
        refine r_callV1 (ki := 10) (i := 0) (ci := 10) (As := [.int x4]) C hl.1 hH (c_X11_highOf l g  hc10) q453 q5 q450 q451 q452 nd_X11_highOf rfl (by decide) ⟨Nat.zero_le _, Nat.zero_le _⟩ (by decide) (by decide) ⟨_, rfl⟩ rfl (Nat.le_of_ble_eq_true rfl) dX11_highestNow_27 (fun H locs hH => ?_)
        refine lv_aload_n hx hb dX11_highestNow_30 rfl (lv_at hl 0 rfl) ?_
        refine lv_iload_n hx hb dX11_highestNow_31 rfl (lv_at hl 1 rfl) ?_
        obtain ⟨r13, hc12, h⟩ := bn_e h
        refine r_callV1 (ki := 10) (i := 0) (ci := 10) (As := [.int x3]) C hl.1 hH (c_X11_highOf l g  hc12) q453 q5 q450 q451 q452 nd_X11_highOf rfl (by decide) ⟨Nat.zero_le _, Nat.zero_le _⟩ (by decide) (by decide) ⟨_, rfl⟩ rfl (Nat.le_of_ble_eq_true rfl) dX11_highestNow_32 (fun H locs hH => ?_)
        refine lv_icmp_le (tgt := 42) hx hb dX11_highestNow_35 (by decide) (fun c14 => ?_) (fun c14 => ?_)
        · replace h := if_t h c14
          refine lv_iload_n hx hb dX11_highestNow_42 rfl (lv_at hl 1 rfl) ?_
          exact hj8 _ _ _ _ hH (lv_sub hl [0, 2] rfl) h
        · replace h := if_f h c14
          exact hj9 _ _ _ hH (lv_sub hl [0, 2] rfl) h
set_option maxHeartbeats 4000000 in
set_option maxRecDepth 100000 in
theorem w_X11_highestNow (C : Cx p s m args meth c cX11_highestNow 3 RX11 g) (hr : meth.sig.returnType = (some .int)) {o : Int32 × sT}   {S : sT} {H : Heap} {locs : List Loc} {ls : Array Slot} (hH : Hp g s S H locs) (hl : lv_has ls 3 [(0, .ref (gad g 10 0))]) (h : f_X11_highestNow  S = some o) : W p l e (rmL 5) s m args below meth c H locs 0 0 (Qm g below args s (some (.int o.1)) o.2) (F0 m 0 ls []) := by
  obtain ⟨hx, hb, hml, hown, hts, hlk, hK⟩ := id C
  unfold f_X11_highestNow at h
  refine lv_aload_n hx hb dX11_highestNow_0 rfl (lv_at hl 0 rfl) ?_
  refine lv_aload_n hx hb dX11_highestNow_1 rfl (lv_at hl 0 rfl) ?_
  refine gf_X11_108 C hH dX11_highestNow_2 ?_
  obtain ⟨S2, hc1, h⟩ := bn_e h
  refine r_callV0 (ki := 10) (i := 0) (ci := 10) (As := [.int (S.1 116 0 0)]) C hl.1 hH (c_X11_lives l g  hc1) q426 q5 q423 q424 q425 nd_X11_lives rfl (by decide) ⟨Nat.zero_le _, Nat.zero_le _⟩ (by decide) (by decide) ⟨_, rfl⟩ rfl (Nat.le_of_ble_eq_true rfl) dX11_highestNow_5 (fun H locs hH => ?_)
  refine lv_iconst (v := (-1 : Int32)) hx hb dX11_highestNow_8 (by decide) ?_
  refine lv_istore_n (lv' := [(1, .int (-1 : Int32)), (0, .ref (gad g 10 0))]) hx hb dX11_highestNow_9 rfl hl (by decide) rfl (fun ls hl => ?_)
  refine lv_iconst (v := (0 : Int32)) hx hb dX11_highestNow_10 (by decide) ?_
  refine lv_istore_n (lv' := [(2, .int (0 : Int32)), (1, .int (-1 : Int32)), (0, .ref (gad g 10 0))]) hx hb dX11_highestNow_11 rfl hl (by decide) rfl (fun ls hl => ?_)
  exact w_X11_highestNow_12 C hr   _ _ _ _ _ _ hH (lv_sub hl [2, 1, 0] rfl) h
theorem c_X11_highestNow (l : Launch) (g : gT)   {S : sT} {r : Int32} {S1 : sT} (h : f_X11_highestNow  S = some (r, S1)) : MF l yX11_highestNow cX11_highestNow 3 (some .int) 5 g [.ref (gad g 10 0)] S (some (.int r)) S1 := by
  refine MF.of (own := RX11) rfl rfl (Nat.le_of_ble_eq_true rfl) ?_
  intro p e s m below meth c C hr hH ls hl
  exact w_X11_highestNow C hr (o := (r, S1))  hH hl h
theorem nd_X11_highest : yX11_highest.cls ≠ "java/lang/invoke/MethodHandle" ∧ yX11_highest.cls ≠ "java/lang/invoke/VarHandle" ∧ (parseMethodDescriptor yX11_highest.desc).map (fun d => d.parameters.length) = some 0 := by decide +kernel
def f_X11_highest  (S : sT) : Option (Int32 × sT) :=
 bn (f_X11_reads  S) (fun S2 =>
 bn2 (f_X11_highestNow  S2) (fun r4 S5 =>
 some (r4, S5)))
set_option maxHeartbeats 4000000 in
set_option maxRecDepth 100000 in
theorem w_X11_highest (C : Cx p s m args meth c cX11_highest 1 RX11 g) (hr : meth.sig.returnType = (some .int)) {o : Int32 × sT}   {S : sT} {H : Heap} {locs : List Loc} {ls : Array Slot} (hH : Hp g s S H locs) (hl : lv_has ls 1 [(0, .ref (gad g 10 0))]) (h : f_X11_highest  S = some o) : W p l e (rmL 6) s m args below meth c H locs 0 0 (Qm g below args s (some (.int o.1)) o.2) (F0 m 0 ls []) := by
  obtain ⟨hx, hb, hml, hown, hts, hlk, hK⟩ := id C
  unfold f_X11_highest at h
  refine lv_aload_n hx hb dX11_highest_0 rfl (lv_at hl 0 rfl) ?_
  obtain ⟨S2, hc1, h⟩ := bn_e h
  refine r_callV0 (ki := 10) (i := 0) (ci := 10) (As := []) C hl.1 hH (c_X11_reads l g  hc1) q410 q5 q407 q408 q409 nd_X11_reads rfl (by decide) ⟨Nat.zero_le _, Nat.zero_le _⟩ (by decide) (by decide) ⟨_, rfl⟩ rfl (Nat.le_of_ble_eq_true rfl) dX11_highest_1 (fun H locs hH => ?_)
  refine lv_aload_n hx hb dX11_highest_4 rfl (lv_at hl 0 rfl) ?_
  obtain ⟨r4, S5, hc3, h⟩ := bn2_e h
  refine r_callV1 (ki := 10) (i := 0) (ci := 10) (As := []) C hl.1 hH (c_X11_highestNow l g  hc3) q634 q5 q631 q632 q633 nd_X11_highestNow rfl (by decide) ⟨Nat.zero_le _, Nat.zero_le _⟩ (by decide) (by decide) ⟨_, rfl⟩ rfl (Nat.le_of_ble_eq_true rfl) dX11_highest_5 (fun H locs hH => ?_)
  exact E_int C hr hH h dX11_highest_8
theorem c_X11_highest (l : Launch) (g : gT)   {S : sT} {r : Int32} {S1 : sT} (h : f_X11_highest  S = some (r, S1)) : MF l yX11_highest cX11_highest 1 (some .int) 6 g [.ref (gad g 10 0)] S (some (.int r)) S1 := by
  refine MF.of (own := RX11) rfl rfl (Nat.le_of_ble_eq_true rfl) ?_
  intro p e s m below meth c C hr hH ls hl
  exact w_X11_highest C hr (o := (r, S1))  hH hl h
theorem nd_X11_goesOn : yX11_goesOn.cls ≠ "java/lang/invoke/MethodHandle" ∧ yX11_goesOn.cls ≠ "java/lang/invoke/VarHandle" ∧ (parseMethodDescriptor yX11_goesOn.desc).map (fun d => d.parameters.length) = some 2 := by decide +kernel
def b_X11_goesOn_33 (a1 : Int32) (x2 : Int32) (x7 : Int32) (S8 : sT) (k9 : Int32 → sT → Option (Int32 × sT)) : Option (Int32 × sT) :=
 (if a1 ≤ x7 then
 some ((1 : Int32), S8)
 else
 ck (vi x2 3) (
 ck (vi x7 3) (
 lt (us S8 45 0 (cl x7) (S8.1 45 0 (cl x2))) (fun S12 =>
 lt (x7 + (1 : Int32)) (fun x13 =>
 k9 x13 S12)))))
def l_X11_goesOn_33 (a1 : Int32) (x2 : Int32) : Nat → Int32 → sT → Option (Int32 × sT)
 | 0, _, _ => none
 | n + 1, x7, S8 => b_X11_goesOn_33 a1 x2 x7 S8 (l_X11_goesOn_33 a1 x2 n)
theorem l_X11_goesOn_33_s (a1 : Int32) (x2 : Int32) (n : Nat) (x7 : Int32) (S8 : sT) : l_X11_goesOn_33 a1 x2 (n + 1) x7 S8 = b_X11_goesOn_33 a1 x2 x7 S8 (l_X11_goesOn_33 a1 x2 n) := rfl
def b_X11_goesOn_4 (a2 : Int32) (S : sT) (j15 : Int32 → Option (Int32 × sT)) (x16 : Int32) (k17 : Int32 → Option (Int32 × sT)) : Option (Int32 × sT) :=
 (if x16 < (0 : Int32) then
 some ((0 : Int32), S)
 else
 ck (vi x16 3) (
 (if a2 ≤ (S.1 45 0 (cl x16)) then
 lt (x16 + (-1 : Int32)) (fun x19 =>
 k17 x19)
 else
 j15 x16)))
def l_X11_goesOn_4 (a2 : Int32) (S : sT) (j15 : Int32 → Option (Int32 × sT)) : Nat → Int32 → Option (Int32 × sT)
 | 0, _ => none
 | n + 1, x16 => b_X11_goesOn_4 a2 S j15 x16 (l_X11_goesOn_4 a2 S j15 n)
theorem l_X11_goesOn_4_s (a2 : Int32) (S : sT) (j15 : Int32 → Option (Int32 × sT)) (n : Nat) (x16 : Int32) : l_X11_goesOn_4 a2 S j15 (n + 1) x16 = b_X11_goesOn_4 a2 S j15 x16 (l_X11_goesOn_4 a2 S j15 n) := rfl
def f_X11_goesOn (a1 : Int32) (a2 : Int32) (S : sT) : Option (Int32 × sT) :=
 lt (a1 - (1 : Int32)) (fun x1 =>
 jn (fun (x2 : Int32) => ck (vi x2 3) (
 ck (vi x2 3) (
 lt (us S 45 0 (cl x2) ((S.1 45 0 (cl x2)) + (1 : Int32))) (fun S5 =>
 lt (x2 + (1 : Int32)) (fun x6 =>
 l_X11_goesOn_33 a1 x2 FU x6 S5)))))
 (fun j15 => l_X11_goesOn_4 a2 S j15 FU x1))
set_option maxHeartbeats 4000000 in
set_option maxRecDepth 100000 in
theorem w_X11_goesOn_33 (C : Cx p s m args meth c cX11_goesOn 5 RX11 g) (hr : meth.sig.returnType = (some .boolean)) {o : Int32 × sT}  {a1 : Int32} {x2 : Int32}   : ∀ (n : Nat) (x7 : Int32) (S8 : sT) (H : Heap) (locs : List Loc) (ls : Array Slot), Hp g s S8 H locs → lv_has ls 5 [(0, .ref (gad g 10 0)), (1, .int a1), (3, .int x2), (4, .int x7)] → l_X11_goesOn_33 a1 x2 n x7 S8 = some o → W p l e (rmL 1) s m args below meth c H locs 0 0 (Qm g below args s (some (.int o.1)) o.2) (F0 m 33 ls []) := by
  obtain ⟨hx, hb, hml, hown, hts, hlk, hK⟩ := id C
  intro n
  induction n with
  | zero =>
    intro x7 S8 H locs ls hH hl h
    cases h
  | succ n ih =>
    intro x7 S8 H locs ls hH hl h
    rw [l_X11_goesOn_33_s] at h
    unfold b_X11_goesOn_33 at h
    refine lv_iload hx hb dX11_goesOn_33 (lv_at hl 3 rfl) ?_
    refine lv_iload_n hx hb dX11_goesOn_35 rfl (lv_at hl 1 rfl) ?_
    refine lv_icmp_ge (tgt := 58) hx hb dX11_goesOn_36 (by decide) (fun c14 => ?_) (fun c14 => ?_)
    · replace h := if_t h c14
      refine lv_iconst (v := (1 : Int32)) hx hb dX11_goesOn_58 (by decide) ?_
      exact E_bool C hr hH rfl h dX11_goesOn_59
    · replace h := if_f h c14
      refine lv_aload_n hx hb dX11_goesOn_39 rfl (lv_at hl 0 rfl) ?_
      refine gf_X11_46 C hH dX11_goesOn_40 ?_
      refine lv_iload hx hb dX11_goesOn_43 (lv_at hl 3 rfl) ?_
      refine lv_aload_n hx hb dX11_goesOn_45 rfl (lv_at hl 0 rfl) ?_
      refine gf_X11_46 C hH dX11_goesOn_46 ?_
      refine lv_iload_n hx hb dX11_goesOn_49 rfl (lv_at hl 2 rfl) ?_
      obtain ⟨hv10, h⟩ := ck_e h
      refine r_ald C hH ka_45 (by decide) (by decide) (vi_in hv10) dX11_goesOn_50 ?_
      obtain ⟨hv11, h⟩ := ck_e h
      refine r_ast C hH ka_45 ko_45 (by decide) (by decide) (vi_in hv11) dX11_goesOn_51 (fun S12 H locs eS hH => ?_)
      replace h := lt_e h eS
      obtain ⟨x13, ex13⟩ : ∃ z : Int32, z = (x7 + (1 : Int32)) := ⟨_, rfl⟩
      replace h := lt_e h ex13
      refine lv_iinc (v := x13) (lv' := [(4, .int x13), (0, .ref (gad g 10 0)), (1, .int a1), (3, .int x2)]) hx hb dX11_goesOn_52 hl (k := 3) rfl (by rw [ex13]; rfl) (by decide) rfl (fun ls hl => ?_)
      refine lv_goto (tgt := 33) hx hb dX11_goesOn_55 (by decide) ?_
      exact ih _ _ _ _ _ hH (lv_sub hl [1, 2, 3, 0] rfl) h
set_option maxHeartbeats 4000000 in
set_option maxRecDepth 100000 in
theorem w_X11_goesOn_4 (C : Cx p s m args meth c cX11_goesOn 5 RX11 g) (hr : meth.sig.returnType = (some .boolean)) {o : Int32 × sT}  {a1 : Int32} {a2 : Int32} {S : sT}  (j15 : Int32 → Option (Int32 × sT)) (hj15 : ∀ (x2 : Int32) (H : Heap) (locs : List Loc) (ls : Array Slot), Hp g s S H locs → lv_has ls 5 [(0, .ref (gad g 10 0)), (1, .int a1), (3, .int x2)] → j15 x2 = some o → W p l e (rmL 1) s m args below meth c H locs 0 0 (Qm g below args s (some (.int o.1)) o.2) (F0 m 18 ls [])) : ∀ (n : Nat) (x16 : Int32) (H : Heap) (locs : List Loc) (ls : Array Slot), Hp g s S H locs → lv_has ls 5 [(0, .ref (gad g 10 0)), (1, .int a1), (2, .int a2), (3, .int x16)] → l_X11_goesOn_4 a2 S j15 n x16 = some o → W p l e (rmL 1) s m args below meth c H locs 0 0 (Qm g below args s (some (.int o.1)) o.2) (F0 m 4 ls []) := by
  obtain ⟨hx, hb, hml, hown, hts, hlk, hK⟩ := id C
  intro n
  induction n with
  | zero =>
    intro x16 H locs ls hH hl h
    cases h
  | succ n ih =>
    intro x16 H locs ls hH hl h
    rw [l_X11_goesOn_4_s] at h
    unfold b_X11_goesOn_4 at h
    refine lv_iload_n hx hb dX11_goesOn_4 rfl (lv_at hl 3 rfl) ?_
    refine lv_if_lt (tgt := 66) hx hb dX11_goesOn_5 (by decide) (fun c21 => ?_) (fun c21 => ?_)
    · replace h := if_t h c21
      refine lv_iconst (v := (0 : Int32)) hx hb dX11_goesOn_66 (by decide) ?_
      exact E_bool C hr hH rfl h dX11_goesOn_67
    · replace h := if_f h c21
      refine lv_aload_n hx hb dX11_goesOn_8 rfl (lv_at hl 0 rfl) ?_
      refine gf_X11_46 C hH dX11_goesOn_9 ?_
      refine lv_iload_n hx hb dX11_goesOn_12 rfl (lv_at hl 3 rfl) ?_
      obtain ⟨hv18, h⟩ := ck_e h
      refine r_ald C hH ka_45 (by decide) (by decide) (vi_in hv18) dX11_goesOn_13 ?_
      refine lv_iload_n hx hb dX11_goesOn_14 rfl (lv_at hl 2 rfl) ?_
      refine lv_icmp_ge (tgt := 60) hx hb dX11_goesOn_15 (by decide) (fun c20 => ?_) (fun c20 => ?_)
      · replace h := if_t h c20
        obtain ⟨x19, ex19⟩ : ∃ z : Int32, z = (x16 + (-1 : Int32)) := ⟨_, rfl⟩
        replace h := lt_e h ex19
        refine lv_iinc (v := x19) (lv' := [(3, .int x19), (0, .ref (gad g 10 0)), (1, .int a1), (2, .int a2)]) hx hb dX11_goesOn_60 hl (k := 3) rfl (by rw [ex19]; rfl) (by decide) rfl (fun ls hl => ?_)
        refine lv_goto (tgt := 4) hx hb dX11_goesOn_63 (by decide) ?_
        exact ih _ _ _ _ hH (lv_sub hl [1, 2, 3, 0] rfl) h
      · replace h := if_f h c20
        exact hj15 _ _ _ _ hH (lv_sub hl [0, 1, 3] rfl) h
set_option maxHeartbeats 4000000 in
set_option maxRecDepth 100000 in
theorem w_X11_goesOn (C : Cx p s m args meth c cX11_goesOn 5 RX11 g) (hr : meth.sig.returnType = (some .boolean)) {o : Int32 × sT} {a1 : Int32} {a2 : Int32}  {S : sT} {H : Heap} {locs : List Loc} {ls : Array Slot} (hH : Hp g s S H locs) (hl : lv_has ls 5 [(0, .ref (gad g 10 0)), (1, .int a1), (2, .int a2)]) (h : f_X11_goesOn a1 a2 S = some o) : W p l e (rmL 1) s m args below meth c H locs 0 0 (Qm g below args s (some (.int o.1)) o.2) (F0 m 0 ls []) := by
  obtain ⟨hx, hb, hml, hown, hts, hlk, hK⟩ := id C
  unfold f_X11_goesOn at h
  refine lv_iload_n hx hb dX11_goesOn_0 rfl (lv_at hl 1 rfl) ?_
  refine lv_iconst (v := (1 : Int32)) hx hb dX11_goesOn_1 (by decide) ?_
  refine lv_isub hx hb dX11_goesOn_2 ?_
  refine lv_topi (fun x1 ex1 => ?_)
  replace h := lt_e h ex1
  refine lv_istore_n (lv' := [(3, .int x1), (0, .ref (gad g 10 0)), (1, .int a1), (2, .int a2)]) hx hb dX11_goesOn_3 rfl hl (by decide) rfl (fun ls hl => ?_)
  obtain ⟨j15, ej15, h⟩ := jn_e h
  have hj15 : ∀ (x2 : Int32) (H : Heap) (locs : List Loc) (ls : Array Slot), Hp g s S H locs → lv_has ls 5 [(0, .ref (gad g 10 0)), (1, .int a1), (3, .int x2)] → j15 x2 = some o → W p l e (rmL 1) s m args below meth c H locs 0 0 (Qm g below args s (some (.int o.1)) o.2) (F0 m 18 ls []) := by
    intro x2 H locs ls hH hl h
    rw [ej15] at h
    try dsimp only at h
    refine lv_aload_n hx hb dX11_goesOn_18 rfl (lv_at hl 0 rfl) ?_
    refine gf_X11_46 C hH dX11_goesOn_19 ?_
    refine lv_iload_n hx hb dX11_goesOn_22 rfl (lv_at hl 2 rfl) ?_
    refine lv_dup2_11 hx hb dX11_goesOn_23 rfl rfl ?_
    obtain ⟨hv3, h⟩ := ck_e h
    refine r_ald C hH ka_45 (by decide) (by decide) (vi_in hv3) dX11_goesOn_24 ?_
    refine lv_iconst (v := (1 : Int32)) hx hb dX11_goesOn_25 (by decide) ?_
    refine lv_iadd hx hb dX11_goesOn_26 ?_
    obtain ⟨hv4, h⟩ := ck_e h
    refine r_ast C hH ka_45 ko_45 (by decide) (by decide) (vi_in hv4) dX11_goesOn_27 (fun S5 H locs eS hH => ?_)
    replace h := lt_e h eS
    refine lv_iload_n hx hb dX11_goesOn_28 rfl (lv_at hl 2 rfl) ?_
    refine lv_iconst (v := (1 : Int32)) hx hb dX11_goesOn_29 (by decide) ?_
    refine lv_iadd hx hb dX11_goesOn_30 ?_
    refine lv_topi (fun x6 ex6 => ?_)
    replace h := lt_e h ex6
    refine lv_istore (lv' := [(4, .int x6), (0, .ref (gad g 10 0)), (1, .int a1), (3, .int x2)]) hx hb dX11_goesOn_31 hl (by decide) rfl (fun ls hl => ?_)
    exact w_X11_goesOn_33 C hr   _ _ _ _ _ _ hH (lv_sub hl [1, 2, 3, 0] rfl) h
  clear ej15
  exact w_X11_goesOn_4 C hr  j15 hj15 _ _ _ _ _ hH (lv_sub hl [1, 2, 3, 0] rfl) h
theorem c_X11_goesOn (l : Launch) (g : gT) {a1 : Int32} {a2 : Int32}  {S : sT} {r : Int32} {S1 : sT} (h : f_X11_goesOn a1 a2 S = some (r, S1)) : MF l yX11_goesOn cX11_goesOn 5 (some .boolean) 1 g [.ref (gad g 10 0), .int a1, .int a2] S (some (.int r)) S1 := by
  refine MF.of (own := RX11) rfl rfl (Nat.le_of_ble_eq_true rfl) ?_
  intro p e s m below meth c C hr hH ls hl
  exact w_X11_goesOn C hr (o := (r, S1))  hH hl h
end G23
