section G14
variable {p : Program} {l : Launch} {e : Env} {s : State} {m : MethodId} {args : Array Value} {below : List Frame} {meth : Method} {c : Code} {g : gT}
theorem nd_X1_replay : yX1_replay.cls ≠ "java/lang/invoke/MethodHandle" ∧ yX1_replay.cls ≠ "java/lang/invoke/VarHandle" ∧ (parseMethodDescriptor yX1_replay.desc).map (fun d => d.parameters.length) = some 2 := by decide +kernel
def b_X1_replay_15  (x4 : Int32) (S5 : sT) (k6 : Int32 → sT → Option (sT)) : Option (sT) :=
 (if (S5.1 105 0 0) ≤ x4 then
 some S5
 else
 (if (12 : Int32) ≤ x4 then
 some S5
 else
 ck (vi (x4 + (1 : Int32)) 13) (
 lt (cl (x4 + (1 : Int32))) (fun w8 =>
 ck (vi x4 13) (
 lt (cl x4) (fun w10 =>
 bn (f_X9_become w8 w10 S5) (fun S12 =>
 bn (f_X3_brotherOf x4 S12) (fun r14 =>
 bn2 (f_X4_doTake x4 r14 w8 S12) (fun r16 S17 =>
 ck (vi x4 12) (
 lt (us S17 18 0 (cl x4) r16) (fun S19 =>
 bn2 (f_X4_doLays x4 r14 w8 S19) (fun r21 S22 =>
 ck (vi x4 12) (
 lt (us S22 19 0 (cl x4) r21) (fun S24 =>
 lt (x4 + (1 : Int32)) (fun x25 =>
 k6 x25 S24)))))))))))))))
def l_X1_replay_15  : Nat → Int32 → sT → Option (sT)
 | 0, _, _ => none
 | n + 1, x4, S5 => b_X1_replay_15  x4 S5 (l_X1_replay_15  n)
theorem l_X1_replay_15_s  (n : Nat) (x4 : Int32) (S5 : sT) : l_X1_replay_15  (n + 1) x4 S5 = b_X1_replay_15  x4 S5 (l_X1_replay_15  n) := rfl
def f_X1_replay  (S : sT) : Option (sT) :=
 bn (f_X4_turnCount  S) (fun r2 =>
 lt (us S 105 0 0 (if (12 : Int32) < r2 then (12 : Int32) else r2)) (fun S3 =>
 l_X1_replay_15  FU (0 : Int32) S3))
set_option maxHeartbeats 4000000 in
set_option maxRecDepth 100000 in
theorem w_X1_replay_15 (C : Cx p s m args meth c cX1_replay 6 RX1 g) (hr : meth.sig.returnType = none) {o : sT}     : ∀ (n : Nat) (x4 : Int32) (S5 : sT) (H : Heap) (locs : List Loc) (ls : Array Slot), Hp g s S5 H locs → lv_has ls 6 [(0, .ref (gad g 4 0)), (1, .ref (gad g 3 0)), (2, .ref (gad g 2 0)), (3, .int x4)] → l_X1_replay_15  n x4 S5 = some o → W p l e (rmL 5) s m args below meth c H locs 0 0 (Qm g below args s none o) (F0 m 15 ls []) := by
  obtain ⟨hx, hb, hml, hown, hts, hlk, hK⟩ := id C
  intro n
  induction n with
  | zero =>
    intro x4 S5 H locs ls hH hl h
    cases h
  | succ n ih =>
    intro x4 S5 H locs ls hH hl h
    rw [l_X1_replay_15_s] at h
    unfold b_X1_replay_15 at h
    refine lv_iload_n hx hb dX1_replay_15 rfl (lv_at hl 3 rfl) ?_
    refine lv_aload_n hx hb dX1_replay_16 rfl (lv_at hl 0 rfl) ?_
    refine gf_X1_29 C hH dX1_replay_17 ?_
    refine lv_icmp_ge (tgt := 93) hx hb dX1_replay_20 (by decide) (fun c27 => ?_) (fun c27 => ?_)
    · replace h := if_t h c27
      exact E_void C hr hH h dX1_replay_93
    · replace h := if_f h c27
      refine lv_iload_n hx hb dX1_replay_23 rfl (lv_at hl 3 rfl) ?_
      refine lv_bipush (v := (12 : Int32)) hx hb dX1_replay_24 (by decide) ?_
      refine lv_icmp_ge (tgt := 93) hx hb dX1_replay_26 (by decide) (fun c26 => ?_) (fun c26 => ?_)
      · replace h := if_t h c26
        exact E_void C hr hH h dX1_replay_93
      · replace h := if_f h c26
        refine lv_aload_n hx hb dX1_replay_29 rfl (lv_at hl 0 rfl) ?_
        refine gf_X1_11 C hH dX1_replay_30 ?_
        refine lv_iload_n hx hb dX1_replay_33 rfl (lv_at hl 3 rfl) ?_
        refine lv_iconst (v := (1 : Int32)) hx hb dX1_replay_34 (by decide) ?_
        refine lv_iadd hx hb dX1_replay_35 ?_
        obtain ⟨hv7, h⟩ := ck_e h
        refine r_aaldw C hH ka_17 (t := 1) (fun _ => rfl) rfl (by decide) (by decide) (vi_in hv7) dX1_replay_36 (fun w8 ew8 => ?_)
        have hw8 : w8 < 16 := by rw [ew8]; exact Nat.lt_of_lt_of_le (vi_lt hv7) (by decide)
        replace h := lt_e h ew8
        refine lv_astore (lv' := [(4, .ref (gad g 9 w8)), (0, .ref (gad g 4 0)), (1, .ref (gad g 3 0)), (2, .ref (gad g 2 0)), (3, .int x4)]) hx hb dX1_replay_37 hl (by decide) rfl (fun ls hl => ?_)
        refine lv_aload hx hb dX1_replay_39 (lv_at hl 0 rfl) ?_
        refine lv_aload_n hx hb dX1_replay_41 rfl (lv_at hl 1 rfl) ?_
        refine gf_X1_11 C hH dX1_replay_42 ?_
        refine lv_iload_n hx hb dX1_replay_45 rfl (lv_at hl 4 rfl) ?_
        obtain ⟨hv9, h⟩ := ck_e h
        refine r_aaldw C hH ka_17 (t := 1) (fun _ => rfl) rfl (by decide) (by decide) (vi_in hv9) dX1_replay_46 (fun w10 ew10 => ?_)
        have hw10 : w10 < 16 := by rw [ew10]; exact Nat.lt_of_lt_of_le (vi_lt hv9) (by decide)
        replace h := lt_e h ew10
        obtain ⟨S12, hc11, h⟩ := bn_e h
        refine r_callV0 (ki := 9) (i := w8) (ci := 8) (As := [.ref (gad g 9 w10)]) C hl.1 hH (c_X9_become l g hw8 hw10 hc11) q258 q80 q255 q256 q257 nd_X9_become rfl (by decide) ⟨Nat.zero_le _, Nat.zero_le _⟩ (by decide) hw8 ⟨_, rfl⟩ rfl (Nat.le_of_ble_eq_true rfl) dX1_replay_47 (fun H locs hH => ?_)
        refine lv_aload_n hx hb dX1_replay_50 rfl (lv_at hl 3 rfl) ?_
        refine lv_iload_n hx hb dX1_replay_51 rfl (lv_at hl 4 rfl) ?_
        obtain ⟨r14, hc13, h⟩ := bn_e h
        refine r_callV1 (ki := 2) (i := 0) (ci := 3) (As := [.int x4]) C hl.1 hH (c_X3_brotherOf l g  hc13) q266 q19 q263 q264 q265 nd_X3_brotherOf rfl (by decide) ⟨Nat.zero_le _, Nat.zero_le _⟩ (by decide) (by decide) ⟨_, rfl⟩ rfl (Nat.le_of_ble_eq_true rfl) dX1_replay_52 (fun H locs hH => ?_)
        refine lv_istore (lv' := [(5, .int r14), (4, .ref (gad g 9 w8)), (0, .ref (gad g 4 0)), (1, .ref (gad g 3 0)), (2, .ref (gad g 2 0)), (3, .int x4)]) hx hb dX1_replay_55 hl (by decide) rfl (fun ls hl => ?_)
        refine lv_aload_n hx hb dX1_replay_57 rfl (lv_at hl 2 rfl) ?_
        refine gf_X1_17 C hH dX1_replay_58 ?_
        refine lv_iload_n hx hb dX1_replay_61 rfl (lv_at hl 5 rfl) ?_
        refine lv_aload_n hx hb dX1_replay_62 rfl (lv_at hl 3 rfl) ?_
        refine lv_iload_n hx hb dX1_replay_63 rfl (lv_at hl 5 rfl) ?_
        refine lv_iload hx hb dX1_replay_64 (lv_at hl 0 rfl) ?_
        refine lv_aload hx hb dX1_replay_66 (lv_at hl 1 rfl) ?_
        obtain ⟨r16, S17, hc15, h⟩ := bn2_e h
        refine r_callV1 (ki := 3) (i := 0) (ci := 4) (As := [.int x4, .int r14, .ref (gad g 9 w8)]) C hl.1 hH (c_X4_doTake l g hw8 hc15) q274 q23 q271 q272 q273 nd_X4_doTake rfl (by decide) ⟨Nat.zero_le _, Nat.zero_le _⟩ (by decide) (by decide) ⟨_, rfl⟩ rfl (Nat.le_of_ble_eq_true rfl) dX1_replay_68 (fun H locs hH => ?_)
        obtain ⟨hv18, h⟩ := ck_e h
        refine r_ast C hH ka_18 ko_18 (by decide) (by decide) (vi_in hv18) dX1_replay_71 (fun S19 H locs eS hH => ?_)
        replace h := lt_e h eS
        refine lv_aload_n hx hb dX1_replay_72 rfl (lv_at hl 2 rfl) ?_
        refine gf_X1_21 C hH dX1_replay_73 ?_
        refine lv_iload_n hx hb dX1_replay_76 rfl (lv_at hl 5 rfl) ?_
        refine lv_aload_n hx hb dX1_replay_77 rfl (lv_at hl 3 rfl) ?_
        refine lv_iload_n hx hb dX1_replay_78 rfl (lv_at hl 5 rfl) ?_
        refine lv_iload hx hb dX1_replay_79 (lv_at hl 0 rfl) ?_
        refine lv_aload hx hb dX1_replay_81 (lv_at hl 1 rfl) ?_
        obtain ⟨r21, S22, hc20, h⟩ := bn2_e h
        refine r_callV1 (ki := 3) (i := 0) (ci := 4) (As := [.int x4, .int r14, .ref (gad g 9 w8)]) C hl.1 hH (c_X4_doLays l g hw8 hc20) q293 q23 q290 q291 q292 nd_X4_doLays rfl (by decide) ⟨Nat.zero_le _, Nat.zero_le _⟩ (by decide) (by decide) ⟨_, rfl⟩ rfl (Nat.le_of_ble_eq_true rfl) dX1_replay_83 (fun H locs hH => ?_)
        obtain ⟨hv23, h⟩ := ck_e h
        refine r_ast C hH ka_19 ko_19 (by decide) (by decide) (vi_in hv23) dX1_replay_86 (fun S24 H locs eS hH => ?_)
        replace h := lt_e h eS
        obtain ⟨x25, ex25⟩ : ∃ z : Int32, z = (x4 + (1 : Int32)) := ⟨_, rfl⟩
        replace h := lt_e h ex25
        refine lv_iinc (v := x25) (lv' := [(3, .int x25), (5, .int r14), (4, .ref (gad g 9 w8)), (0, .ref (gad g 4 0)), (1, .ref (gad g 3 0)), (2, .ref (gad g 2 0))]) hx hb dX1_replay_87 hl (k := 5) rfl (by rw [ex25]; rfl) (by decide) rfl (fun ls hl => ?_)
        refine lv_goto (tgt := 15) hx hb dX1_replay_90 (by decide) ?_
        exact ih _ _ _ _ _ hH (lv_sub hl [3, 4, 5, 0] rfl) h
set_option maxHeartbeats 4000000 in
set_option maxRecDepth 100000 in
theorem w_X1_replay (C : Cx p s m args meth c cX1_replay 6 RX1 g) (hr : meth.sig.returnType = none) {o : sT}   {S : sT} {H : Heap} {locs : List Loc} {ls : Array Slot} (hH : Hp g s S H locs) (hl : lv_has ls 6 [(0, .ref (gad g 4 0)), (1, .ref (gad g 3 0)), (2, .ref (gad g 2 0))]) (h : f_X1_replay  S = some o) : W p l e (rmL 5) s m args below meth c H locs 0 0 (Qm g below args s none o) (F0 m 0 ls []) := by
  obtain ⟨hx, hb, hml, hown, hts, hlk, hK⟩ := id C
  unfold f_X1_replay at h
  refine lv_aload_n hx hb dX1_replay_0 rfl (lv_at hl 0 rfl) ?_
  refine lv_aload_n hx hb dX1_replay_1 rfl (lv_at hl 1 rfl) ?_
  obtain ⟨r2, hc1, h⟩ := bn_e h
  refine r_callV1 (ki := 3) (i := 0) (ci := 4) (As := []) C hl.1 hH (c_X4_turnCount l g  hc1) q254 q23 q251 q252 q253 nd_X4_turnCount rfl (by decide) ⟨Nat.zero_le _, Nat.zero_le _⟩ (by decide) (by decide) ⟨_, rfl⟩ rfl (Nat.le_of_ble_eq_true rfl) dX1_replay_2 (fun H locs hH => ?_)
  refine lv_bipush (v := (12 : Int32)) hx hb dX1_replay_5 (by decide) ?_
  refine va_mmin hx hb (hml.trans hl.1.symm) hown (hts _ q250) (hts _ q55) (hts _ q56) (hts _ q57) (Nat.le_of_ble_eq_true rfl) (Nat.le_of_ble_eq_true rfl) (Nat.zero_le _) (Nat.zero_le _) dX1_replay_7 ?_
  refine pf_X1_29 C hH dX1_replay_10 (fun S3 H locs eS hH => ?_)
  replace h := lt_e h eS
  refine lv_iconst (v := (0 : Int32)) hx hb dX1_replay_13 (by decide) ?_
  refine lv_istore_n (lv' := [(3, .int (0 : Int32)), (0, .ref (gad g 4 0)), (1, .ref (gad g 3 0)), (2, .ref (gad g 2 0))]) hx hb dX1_replay_14 rfl hl (by decide) rfl (fun ls hl => ?_)
  exact w_X1_replay_15 C hr   _ _ _ _ _ _ hH (lv_sub hl [1, 2, 3, 0] rfl) h
theorem c_X1_replay (l : Launch) (g : gT)   {S : sT} {S1 : sT} (h : f_X1_replay  S = some S1) : MF l yX1_replay cX1_replay 6 none 5 g [.ref (gad g 4 0), .ref (gad g 3 0), .ref (gad g 2 0)] S none S1 := by
  refine MF.of (own := RX1) rfl rfl (Nat.le_of_ble_eq_true rfl) ?_
  intro p e s m below meth c C hr hH ls hl
  exact w_X1_replay C hr (o := S1)  hH hl h
theorem nd_X1_start : yX1_start.cls ≠ "java/lang/invoke/MethodHandle" ∧ yX1_start.cls ≠ "java/lang/invoke/VarHandle" ∧ (parseMethodDescriptor yX1_start.desc).map (fun d => d.parameters.length) = some 0 := by decide +kernel
def f_X1_start  (S : sT) : Option (Nat) :=
 ck (vi (0 : Int32) 13) (
 lt (cl (0 : Int32)) (fun w2 =>
 some w2))
set_option maxHeartbeats 4000000 in
set_option maxRecDepth 100000 in
theorem w_X1_start (C : Cx p s m args meth c cX1_start 1 RX1 g) (hr : meth.sig.returnType = (some (.object "WallTurns$Wall"))) {o : Nat}   {S : sT} {H : Heap} {locs : List Loc} {ls : Array Slot} (hH : Hp g s S H locs) (hl : lv_has ls 1 [(0, .ref (gad g 4 0))]) (h : f_X1_start  S = some o) : W p l e (rmL 1) s m args below meth c H locs 0 0 (Qm g below args s (some (.ref (gad g 9 o))) S) (F0 m 0 ls []) := by
  obtain ⟨hx, hb, hml, hown, hts, hlk, hK⟩ := id C
  unfold f_X1_start at h
  refine lv_aload_n hx hb dX1_start_0 rfl (lv_at hl 0 rfl) ?_
  refine gf_X1_11 C hH dX1_start_1 ?_
  refine lv_iconst (v := (0 : Int32)) hx hb dX1_start_4 (by decide) ?_
  obtain ⟨hv1, h⟩ := ck_e h
  refine r_aaldw C hH ka_17 (t := 1) (fun _ => rfl) rfl (by decide) (by decide) (vi_in hv1) dX1_start_5 (fun w2 ew2 => ?_)
  have hw2 : w2 < 16 := by rw [ew2]; exact Nat.lt_of_lt_of_le (vi_lt hv1) (by decide)
  replace h := lt_e h ew2
  exact E_refc C hr hH h dX1_start_6
theorem c_X1_start (l : Launch) (g : gT)   {S : sT} {r : Nat} (h : f_X1_start  S = some r) : MF l yX1_start cX1_start 1 (some (.object "WallTurns$Wall")) 1 g [.ref (gad g 4 0)] S (some (.ref (gad g 9 r))) S := by
  refine MF.of (own := RX1) rfl rfl (Nat.le_of_ble_eq_true rfl) ?_
  intro p e s m below meth c C hr hH ls hl
  exact w_X1_start C hr (o := r)  hH hl h
theorem nd_X1_wallBehind : yX1_wallBehind.cls ≠ "java/lang/invoke/MethodHandle" ∧ yX1_wallBehind.cls ≠ "java/lang/invoke/VarHandle" ∧ (parseMethodDescriptor yX1_wallBehind.desc).map (fun d => d.parameters.length) = some 1 := by decide +kernel
def f_X1_wallBehind (a1 : Int32) (S : sT) : Option (Option Nat) :=
 (if a1 < (0 : Int32) then
 some none
 else
 (if (S.1 105 0 0) < a1 then
 some none
 else
 (if (12 : Int32) < a1 then
 some none
 else
 ck (vi a1 13) (
 lt (cl a1) (fun w2 =>
 some (some w2))))))
set_option maxHeartbeats 4000000 in
set_option maxRecDepth 100000 in
theorem w_X1_wallBehind (C : Cx p s m args meth c cX1_wallBehind 2 RX1 g) (hr : meth.sig.returnType = (some (.object "WallTurns$Wall"))) {o : Option Nat} {a1 : Int32}  {S : sT} {H : Heap} {locs : List Loc} {ls : Array Slot} (hH : Hp g s S H locs) (hl : lv_has ls 2 [(0, .ref (gad g 4 0)), (1, .int a1)]) (h : f_X1_wallBehind a1 S = some o) : W p l e (rmL 1) s m args below meth c H locs 0 0 (Qm g below args s (some (rv g 9 o)) S) (F0 m 0 ls []) := by
  obtain ⟨hx, hb, hml, hown, hts, hlk, hK⟩ := id C
  unfold f_X1_wallBehind at h
  refine lv_iload_n hx hb dX1_wallBehind_0 rfl (lv_at hl 1 rfl) ?_
  refine lv_if_lt (tgt := 27) hx hb dX1_wallBehind_1 (by decide) (fun c5 => ?_) (fun c5 => ?_)
  · replace h := if_t h c5
    refine lv_null hx hb dX1_wallBehind_27 ?_
    exact E_nulc C hr hH h dX1_wallBehind_28
  · replace h := if_f h c5
    refine lv_iload_n hx hb dX1_wallBehind_4 rfl (lv_at hl 1 rfl) ?_
    refine lv_aload_n hx hb dX1_wallBehind_5 rfl (lv_at hl 0 rfl) ?_
    refine gf_X1_29 C hH dX1_wallBehind_6 ?_
    refine lv_icmp_gt (tgt := 27) hx hb dX1_wallBehind_9 (by decide) (fun c4 => ?_) (fun c4 => ?_)
    · replace h := if_t h c4
      refine lv_null hx hb dX1_wallBehind_27 ?_
      exact E_nulc C hr hH h dX1_wallBehind_28
    · replace h := if_f h c4
      refine lv_iload_n hx hb dX1_wallBehind_12 rfl (lv_at hl 1 rfl) ?_
      refine lv_bipush (v := (12 : Int32)) hx hb dX1_wallBehind_13 (by decide) ?_
      refine lv_icmp_gt (tgt := 27) hx hb dX1_wallBehind_15 (by decide) (fun c3 => ?_) (fun c3 => ?_)
      · replace h := if_t h c3
        refine lv_null hx hb dX1_wallBehind_27 ?_
        exact E_nulc C hr hH h dX1_wallBehind_28
      · replace h := if_f h c3
        refine lv_aload_n hx hb dX1_wallBehind_18 rfl (lv_at hl 0 rfl) ?_
        refine gf_X1_11 C hH dX1_wallBehind_19 ?_
        refine lv_iload_n hx hb dX1_wallBehind_22 rfl (lv_at hl 1 rfl) ?_
        obtain ⟨hv1, h⟩ := ck_e h
        refine r_aaldw C hH ka_17 (t := 1) (fun _ => rfl) rfl (by decide) (by decide) (vi_in hv1) dX1_wallBehind_23 (fun w2 ew2 => ?_)
        have hw2 : w2 < 16 := by rw [ew2]; exact Nat.lt_of_lt_of_le (vi_lt hv1) (by decide)
        replace h := lt_e h ew2
        refine lv_goto (tgt := 28) hx hb dX1_wallBehind_24 (by decide) ?_
        exact E_nurc C hr hH h dX1_wallBehind_28
theorem c_X1_wallBehind (l : Launch) (g : gT) {a1 : Int32}  {S : sT} {r : Option Nat} (h : f_X1_wallBehind a1 S = some r) : MF l yX1_wallBehind cX1_wallBehind 2 (some (.object "WallTurns$Wall")) 1 g [.ref (gad g 4 0), .int a1] S (some (rv g 9 r)) S := by
  refine MF.of (own := RX1) rfl rfl (Nat.le_of_ble_eq_true rfl) ?_
  intro p e s m below meth c C hr hH ls hl
  exact w_X1_wallBehind C hr (o := r)  hH hl h
theorem nd_X1_hasTurn : yX1_hasTurn.cls ≠ "java/lang/invoke/MethodHandle" ∧ yX1_hasTurn.cls ≠ "java/lang/invoke/VarHandle" ∧ (parseMethodDescriptor yX1_hasTurn.desc).map (fun d => d.parameters.length) = some 1 := by decide +kernel
def f_X1_hasTurn (a1 : Int32) (S : sT) : Option (Int32) :=
 (if a1 < (0 : Int32) then
 some (0 : Int32)
 else
 (if (S.1 105 0 0) ≤ a1 then
 some (0 : Int32)
 else
 (if (12 : Int32) ≤ a1 then
 some (0 : Int32)
 else
 some (1 : Int32))))
set_option maxHeartbeats 4000000 in
set_option maxRecDepth 100000 in
theorem w_X1_hasTurn (C : Cx p s m args meth c cX1_hasTurn 2 RX1 g) (hr : meth.sig.returnType = (some .boolean)) {o : Int32} {a1 : Int32}  {S : sT} {H : Heap} {locs : List Loc} {ls : Array Slot} (hH : Hp g s S H locs) (hl : lv_has ls 2 [(0, .ref (gad g 4 0)), (1, .int a1)]) (h : f_X1_hasTurn a1 S = some o) : W p l e (rmL 1) s m args below meth c H locs 0 0 (Qm g below args s (some (.int o)) S) (F0 m 0 ls []) := by
  obtain ⟨hx, hb, hml, hown, hts, hlk, hK⟩ := id C
  unfold f_X1_hasTurn at h
  refine lv_iload_n hx hb dX1_hasTurn_0 rfl (lv_at hl 1 rfl) ?_
  refine lv_if_lt (tgt := 22) hx hb dX1_hasTurn_1 (by decide) (fun c3 => ?_) (fun c3 => ?_)
  · replace h := if_t h c3
    refine lv_iconst (v := (0 : Int32)) hx hb dX1_hasTurn_22 (by decide) ?_
    exact E_boolc C hr hH rfl h dX1_hasTurn_23
  · replace h := if_f h c3
    refine lv_iload_n hx hb dX1_hasTurn_4 rfl (lv_at hl 1 rfl) ?_
    refine lv_aload_n hx hb dX1_hasTurn_5 rfl (lv_at hl 0 rfl) ?_
    refine gf_X1_29 C hH dX1_hasTurn_6 ?_
    refine lv_icmp_ge (tgt := 22) hx hb dX1_hasTurn_9 (by decide) (fun c2 => ?_) (fun c2 => ?_)
    · replace h := if_t h c2
      refine lv_iconst (v := (0 : Int32)) hx hb dX1_hasTurn_22 (by decide) ?_
      exact E_boolc C hr hH rfl h dX1_hasTurn_23
    · replace h := if_f h c2
      refine lv_iload_n hx hb dX1_hasTurn_12 rfl (lv_at hl 1 rfl) ?_
      refine lv_bipush (v := (12 : Int32)) hx hb dX1_hasTurn_13 (by decide) ?_
      refine lv_icmp_ge (tgt := 22) hx hb dX1_hasTurn_15 (by decide) (fun c1 => ?_) (fun c1 => ?_)
      · replace h := if_t h c1
        refine lv_iconst (v := (0 : Int32)) hx hb dX1_hasTurn_22 (by decide) ?_
        exact E_boolc C hr hH rfl h dX1_hasTurn_23
      · replace h := if_f h c1
        refine lv_iconst (v := (1 : Int32)) hx hb dX1_hasTurn_18 (by decide) ?_
        refine lv_goto (tgt := 23) hx hb dX1_hasTurn_19 (by decide) ?_
        exact E_boolc C hr hH rfl h dX1_hasTurn_23
theorem c_X1_hasTurn (l : Launch) (g : gT) {a1 : Int32}  {S : sT} {r : Int32} (h : f_X1_hasTurn a1 S = some r) : MF l yX1_hasTurn cX1_hasTurn 2 (some .boolean) 1 g [.ref (gad g 4 0), .int a1] S (some (.int r)) S := by
  refine MF.of (own := RX1) rfl rfl (Nat.le_of_ble_eq_true rfl) ?_
  intro p e s m below meth c C hr hH ls hl
  exact w_X1_hasTurn C hr (o := r)  hH hl h
theorem nd_X1_laidIn : yX1_laidIn.cls ≠ "java/lang/invoke/MethodHandle" ∧ yX1_laidIn.cls ≠ "java/lang/invoke/VarHandle" ∧ (parseMethodDescriptor yX1_laidIn.desc).map (fun d => d.parameters.length) = some 1 := by decide +kernel
def f_X1_laidIn (a1 : Int32) (S : sT) : Option (Int32) :=
 bn (f_X1_hasTurn a1 S) (fun r2 =>
 (if r2 = (0 : Int32) then
 some (0 : Int32)
 else
 ck (vi a1 12) (
 some (S.1 19 0 (cl a1)))))
set_option maxHeartbeats 4000000 in
set_option maxRecDepth 100000 in
theorem w_X1_laidIn (C : Cx p s m args meth c cX1_laidIn 2 RX1 g) (hr : meth.sig.returnType = (some .int)) {o : Int32} {a1 : Int32}  {S : sT} {H : Heap} {locs : List Loc} {ls : Array Slot} (hH : Hp g s S H locs) (hl : lv_has ls 2 [(0, .ref (gad g 4 0)), (1, .int a1)]) (h : f_X1_laidIn a1 S = some o) : W p l e (rmL 2) s m args below meth c H locs 0 0 (Qm g below args s (some (.int o)) S) (F0 m 0 ls []) := by
  obtain ⟨hx, hb, hml, hown, hts, hlk, hK⟩ := id C
  unfold f_X1_laidIn at h
  refine lv_aload_n hx hb dX1_laidIn_0 rfl (lv_at hl 0 rfl) ?_
  refine lv_iload_n hx hb dX1_laidIn_1 rfl (lv_at hl 1 rfl) ?_
  obtain ⟨r2, hc1, h⟩ := bn_e h
  refine r_callV1 (ki := 4) (i := 0) (ci := 1) (As := [.int a1]) C hl.1 hH (c_X1_hasTurn l g  hc1) q575 q27 q581 q573 q574 nd_X1_hasTurn rfl (by decide) ⟨Nat.zero_le _, Nat.zero_le _⟩ (by decide) (by decide) ⟨_, rfl⟩ rfl (Nat.le_of_ble_eq_true rfl) dX1_laidIn_2 (fun H locs hH => ?_)
  refine lv_if_eq (tgt := 17) hx hb dX1_laidIn_5 (by decide) (fun c4 => ?_) (fun c4 => ?_)
  · replace h := if_t h c4
    refine lv_iconst (v := (0 : Int32)) hx hb dX1_laidIn_17 (by decide) ?_
    exact E_intc C hr hH h dX1_laidIn_18
  · replace h := if_f h c4
    refine lv_aload_n hx hb dX1_laidIn_8 rfl (lv_at hl 0 rfl) ?_
    refine gf_X1_21 C hH dX1_laidIn_9 ?_
    refine lv_iload_n hx hb dX1_laidIn_12 rfl (lv_at hl 1 rfl) ?_
    obtain ⟨hv3, h⟩ := ck_e h
    refine r_ald C hH ka_19 (by decide) (by decide) (vi_in hv3) dX1_laidIn_13 ?_
    refine lv_goto (tgt := 18) hx hb dX1_laidIn_14 (by decide) ?_
    exact E_intc C hr hH h dX1_laidIn_18
theorem c_X1_laidIn (l : Launch) (g : gT) {a1 : Int32}  {S : sT} {r : Int32} (h : f_X1_laidIn a1 S = some r) : MF l yX1_laidIn cX1_laidIn 2 (some .int) 2 g [.ref (gad g 4 0), .int a1] S (some (.int r)) S := by
  refine MF.of (own := RX1) rfl rfl (Nat.le_of_ble_eq_true rfl) ?_
  intro p e s m below meth c C hr hH ls hl
  exact w_X1_laidIn C hr (o := r)  hH hl h
theorem nd_X1_tookIn : yX1_tookIn.cls ≠ "java/lang/invoke/MethodHandle" ∧ yX1_tookIn.cls ≠ "java/lang/invoke/VarHandle" ∧ (parseMethodDescriptor yX1_tookIn.desc).map (fun d => d.parameters.length) = some 1 := by decide +kernel
def f_X1_tookIn (a1 : Int32) (S : sT) : Option (Int32) :=
 bn (f_X1_hasTurn a1 S) (fun r2 =>
 (if r2 = (0 : Int32) then
 some (0 : Int32)
 else
 ck (vi a1 12) (
 some (S.1 18 0 (cl a1)))))
set_option maxHeartbeats 4000000 in
set_option maxRecDepth 100000 in
theorem w_X1_tookIn (C : Cx p s m args meth c cX1_tookIn 2 RX1 g) (hr : meth.sig.returnType = (some .int)) {o : Int32} {a1 : Int32}  {S : sT} {H : Heap} {locs : List Loc} {ls : Array Slot} (hH : Hp g s S H locs) (hl : lv_has ls 2 [(0, .ref (gad g 4 0)), (1, .int a1)]) (h : f_X1_tookIn a1 S = some o) : W p l e (rmL 2) s m args below meth c H locs 0 0 (Qm g below args s (some (.int o)) S) (F0 m 0 ls []) := by
  obtain ⟨hx, hb, hml, hown, hts, hlk, hK⟩ := id C
  unfold f_X1_tookIn at h
  refine lv_aload_n hx hb dX1_tookIn_0 rfl (lv_at hl 0 rfl) ?_
  refine lv_iload_n hx hb dX1_tookIn_1 rfl (lv_at hl 1 rfl) ?_
  obtain ⟨r2, hc1, h⟩ := bn_e h
  refine r_callV1 (ki := 4) (i := 0) (ci := 1) (As := [.int a1]) C hl.1 hH (c_X1_hasTurn l g  hc1) q575 q27 q581 q573 q574 nd_X1_hasTurn rfl (by decide) ⟨Nat.zero_le _, Nat.zero_le _⟩ (by decide) (by decide) ⟨_, rfl⟩ rfl (Nat.le_of_ble_eq_true rfl) dX1_tookIn_2 (fun H locs hH => ?_)
  refine lv_if_eq (tgt := 17) hx hb dX1_tookIn_5 (by decide) (fun c4 => ?_) (fun c4 => ?_)
  · replace h := if_t h c4
    refine lv_iconst (v := (0 : Int32)) hx hb dX1_tookIn_17 (by decide) ?_
    exact E_intc C hr hH h dX1_tookIn_18
  · replace h := if_f h c4
    refine lv_aload_n hx hb dX1_tookIn_8 rfl (lv_at hl 0 rfl) ?_
    refine gf_X1_17 C hH dX1_tookIn_9 ?_
    refine lv_iload_n hx hb dX1_tookIn_12 rfl (lv_at hl 1 rfl) ?_
    obtain ⟨hv3, h⟩ := ck_e h
    refine r_ald C hH ka_18 (by decide) (by decide) (vi_in hv3) dX1_tookIn_13 ?_
    refine lv_goto (tgt := 18) hx hb dX1_tookIn_14 (by decide) ?_
    exact E_intc C hr hH h dX1_tookIn_18
theorem c_X1_tookIn (l : Launch) (g : gT) {a1 : Int32}  {S : sT} {r : Int32} (h : f_X1_tookIn a1 S = some r) : MF l yX1_tookIn cX1_tookIn 2 (some .int) 2 g [.ref (gad g 4 0), .int a1] S (some (.int r)) S := by
  refine MF.of (own := RX1) rfl rfl (Nat.le_of_ble_eq_true rfl) ?_
  intro p e s m below meth c C hr hH ls hl
  exact w_X1_tookIn C hr (o := r)  hH hl h
theorem nd_X1_turnCount : yX1_turnCount.cls ≠ "java/lang/invoke/MethodHandle" ∧ yX1_turnCount.cls ≠ "java/lang/invoke/VarHandle" ∧ (parseMethodDescriptor yX1_turnCount.desc).map (fun d => d.parameters.length) = some 0 := by decide +kernel
def f_X1_turnCount  (S : sT) : Option (Int32) :=
 some (S.1 105 0 0)
set_option maxHeartbeats 4000000 in
set_option maxRecDepth 100000 in
theorem w_X1_turnCount (C : Cx p s m args meth c cX1_turnCount 1 RX1 g) (hr : meth.sig.returnType = (some .int)) {o : Int32}   {S : sT} {H : Heap} {locs : List Loc} {ls : Array Slot} (hH : Hp g s S H locs) (hl : lv_has ls 1 [(0, .ref (gad g 4 0))]) (h : f_X1_turnCount  S = some o) : W p l e (rmL 1) s m args below meth c H locs 0 0 (Qm g below args s (some (.int o)) S) (F0 m 0 ls []) := by
  obtain ⟨hx, hb, hml, hown, hts, hlk, hK⟩ := id C
  unfold f_X1_turnCount at h
  refine lv_aload_n hx hb dX1_turnCount_0 rfl (lv_at hl 0 rfl) ?_
  refine gf_X1_29 C hH dX1_turnCount_1 ?_
  exact E_intc C hr hH h dX1_turnCount_4
theorem c_X1_turnCount (l : Launch) (g : gT)   {S : sT} {r : Int32} (h : f_X1_turnCount  S = some r) : MF l yX1_turnCount cX1_turnCount 1 (some .int) 1 g [.ref (gad g 4 0)] S (some (.int r)) S := by
  refine MF.of (own := RX1) rfl rfl (Nat.le_of_ble_eq_true rfl) ?_
  intro p e s m below meth c C hr hH ls hl
  exact w_X1_turnCount C hr (o := r)  hH hl h
theorem nd_X1_last : yX1_last.cls ≠ "java/lang/invoke/MethodHandle" ∧ yX1_last.cls ≠ "java/lang/invoke/VarHandle" ∧ (parseMethodDescriptor yX1_last.desc).map (fun d => d.parameters.length) = some 0 := by decide +kernel
def f_X1_last  (S : sT) : Option (Nat) :=
 ck (vi (if (0 : Int32) < (if (12 : Int32) < (S.1 105 0 0) then (12 : Int32) else (S.1 105 0 0)) then (if (12 : Int32) < (S.1 105 0 0) then (12 : Int32) else (S.1 105 0 0)) else (0 : Int32)) 13) (
 lt (cl (if (0 : Int32) < (if (12 : Int32) < (S.1 105 0 0) then (12 : Int32) else (S.1 105 0 0)) then (if (12 : Int32) < (S.1 105 0 0) then (12 : Int32) else (S.1 105 0 0)) else (0 : Int32))) (fun w2 =>
 some w2))
set_option maxHeartbeats 4000000 in
set_option maxRecDepth 100000 in
theorem w_X1_last (C : Cx p s m args meth c cX1_last 1 RX1 g) (hr : meth.sig.returnType = (some (.object "WallTurns$Wall"))) {o : Nat}   {S : sT} {H : Heap} {locs : List Loc} {ls : Array Slot} (hH : Hp g s S H locs) (hl : lv_has ls 1 [(0, .ref (gad g 4 0))]) (h : f_X1_last  S = some o) : W p l e (rmL 1) s m args below meth c H locs 0 0 (Qm g below args s (some (.ref (gad g 9 o))) S) (F0 m 0 ls []) := by
  obtain ⟨hx, hb, hml, hown, hts, hlk, hK⟩ := id C
  unfold f_X1_last at h
  refine lv_aload_n hx hb dX1_last_0 rfl (lv_at hl 0 rfl) ?_
  refine gf_X1_11 C hH dX1_last_1 ?_
  refine lv_iconst (v := (0 : Int32)) hx hb dX1_last_4 (by decide) ?_
  refine lv_aload_n hx hb dX1_last_5 rfl (lv_at hl 0 rfl) ?_
  refine gf_X1_29 C hH dX1_last_6 ?_
  refine lv_bipush (v := (12 : Int32)) hx hb dX1_last_9 (by decide) ?_
  refine va_mmin hx hb (hml.trans hl.1.symm) hown (hts _ q250) (hts _ q55) (hts _ q56) (hts _ q57) (Nat.le_of_ble_eq_true rfl) (Nat.le_of_ble_eq_true rfl) (Nat.zero_le _) (Nat.zero_le _) dX1_last_11 ?_
  refine va_mmax hx hb (hml.trans hl.1.symm) hown (hts _ q622) (hts _ q518) (hts _ q56) (hts _ q519) (Nat.le_of_ble_eq_true rfl) (Nat.le_of_ble_eq_true rfl) (Nat.zero_le _) (Nat.zero_le _) dX1_last_14 ?_
  obtain ⟨hv1, h⟩ := ck_e h
  refine r_aaldw C hH ka_17 (t := 1) (fun _ => rfl) rfl (by decide) (by decide) (vi_in hv1) dX1_last_17 (fun w2 ew2 => ?_)
  have hw2 : w2 < 16 := by rw [ew2]; exact Nat.lt_of_lt_of_le (vi_lt hv1) (by decide)
  replace h := lt_e h ew2
  exact E_refc C hr hH h dX1_last_18
theorem c_X1_last (l : Launch) (g : gT)   {S : sT} {r : Nat} (h : f_X1_last  S = some r) : MF l yX1_last cX1_last 1 (some (.object "WallTurns$Wall")) 1 g [.ref (gad g 4 0)] S (some (.ref (gad g 9 r))) S := by
  refine MF.of (own := RX1) rfl rfl (Nat.le_of_ble_eq_true rfl) ?_
  intro p e s m below meth c C hr hH ls hl
  exact w_X1_last C hr (o := r)  hH hl h
theorem nd_X6_add : yX6_add.cls ≠ "java/lang/invoke/MethodHandle" ∧ yX6_add.cls ≠ "java/lang/invoke/VarHandle" ∧ (parseMethodDescriptor yX6_add.desc).map (fun d => d.parameters.length) = some 3 := by decide +kernel
def f_X6_add (a1 : Int32) (a2 : Int32) (a3 : Int32) (S : sT) : Option (sT) :=
 (if (S.1 110 0 0) < (0 : Int32) then
 some S
 else
 (if (8 : Int32) ≤ (S.1 110 0 0) then
 some S
 else
 ck (vi (S.1 110 0 0) 8) (
 lt (us S 22 0 (cl (S.1 110 0 0)) a1) (fun S2 =>
 ck (vi (S2.1 110 0 0) 8) (
 lt (us S2 23 0 (cl (S2.1 110 0 0)) a2) (fun S4 =>
 ck (vi (S4.1 110 0 0) 8) (
 lt (us S4 24 0 (cl (S4.1 110 0 0)) a3) (fun S6 =>
 lt (us S6 110 0 0 ((S6.1 110 0 0) + (1 : Int32))) (fun S7 =>
 some S7)))))))))
set_option maxHeartbeats 4000000 in
set_option maxRecDepth 100000 in
theorem w_X6_add (C : Cx p s m args meth c cX6_add 4 RX6 g) (hr : meth.sig.returnType = none) {o : sT} {a1 : Int32} {a2 : Int32} {a3 : Int32}  {S : sT} {H : Heap} {locs : List Loc} {ls : Array Slot} (hH : Hp g s S H locs) (hl : lv_has ls 4 [(0, .ref (gad g 7 0)), (1, .int a1), (2, .int a2), (3, .int a3)]) (h : f_X6_add a1 a2 a3 S = some o) : W p l e (rmL 1) s m args below meth c H locs 0 0 (Qm g below args s none o) (F0 m 0 ls []) := by
  obtain ⟨hx, hb, hml, hown, hts, hlk, hK⟩ := id C
  unfold f_X6_add at h
  refine lv_aload_n hx hb dX6_add_0 rfl (lv_at hl 0 rfl) ?_
  refine gf_X6_21 C hH dX6_add_1 ?_
  refine lv_if_lt (tgt := 56) hx hb dX6_add_4 (by decide) (fun c9 => ?_) (fun c9 => ?_)
  · replace h := if_t h c9
    exact E_void C hr hH h dX6_add_56
  · replace h := if_f h c9
    refine lv_aload_n hx hb dX6_add_7 rfl (lv_at hl 0 rfl) ?_
    refine gf_X6_21 C hH dX6_add_8 ?_
    refine lv_bipush (v := (8 : Int32)) hx hb dX6_add_11 (by decide) ?_
    refine lv_icmp_ge (tgt := 56) hx hb dX6_add_13 (by decide) (fun c8 => ?_) (fun c8 => ?_)
    · replace h := if_t h c8
      exact E_void C hr hH h dX6_add_56
    · replace h := if_f h c8
      refine lv_aload_n hx hb dX6_add_16 rfl (lv_at hl 0 rfl) ?_
      refine gf_X6_9 C hH dX6_add_17 ?_
      refine lv_aload_n hx hb dX6_add_20 rfl (lv_at hl 0 rfl) ?_
      refine gf_X6_21 C hH dX6_add_21 ?_
      refine lv_iload_n hx hb dX6_add_24 rfl (lv_at hl 1 rfl) ?_
      obtain ⟨hv1, h⟩ := ck_e h
      refine r_ast C hH ka_22 ko_22 (by decide) (by decide) (vi_in hv1) dX6_add_25 (fun S2 H locs eS hH => ?_)
      replace h := lt_e h eS
      refine lv_aload_n hx hb dX6_add_26 rfl (lv_at hl 0 rfl) ?_
      refine gf_X6_15 C hH dX6_add_27 ?_
      refine lv_aload_n hx hb dX6_add_30 rfl (lv_at hl 0 rfl) ?_
      refine gf_X6_21 C hH dX6_add_31 ?_
      refine lv_iload_n hx hb dX6_add_34 rfl (lv_at hl 2 rfl) ?_
      obtain ⟨hv3, h⟩ := ck_e h
      refine r_ast C hH ka_23 ko_23 (by decide) (by decide) (vi_in hv3) dX6_add_35 (fun S4 H locs eS hH => ?_)
      replace h := lt_e h eS
      refine lv_aload_n hx hb dX6_add_36 rfl (lv_at hl 0 rfl) ?_
      refine gf_X6_18 C hH dX6_add_37 ?_
      refine lv_aload_n hx hb dX6_add_40 rfl (lv_at hl 0 rfl) ?_
      refine gf_X6_21 C hH dX6_add_41 ?_
      refine lv_iload_n hx hb dX6_add_44 rfl (lv_at hl 3 rfl) ?_
      obtain ⟨hv5, h⟩ := ck_e h
      refine r_ast C hH ka_24 ko_24 (by decide) (by decide) (vi_in hv5) dX6_add_45 (fun S6 H locs eS hH => ?_)
      replace h := lt_e h eS
      refine lv_aload_n hx hb dX6_add_46 rfl (lv_at hl 0 rfl) ?_
      refine lv_dup hx hb dX6_add_47 rfl ?_
      refine gf_X6_21 C hH dX6_add_48 ?_
      refine lv_iconst (v := (1 : Int32)) hx hb dX6_add_51 (by decide) ?_
      refine lv_iadd hx hb dX6_add_52 ?_
      refine pf_X6_21 C hH dX6_add_53 (fun S7 H locs eS hH => ?_)
      replace h := lt_e h eS
      exact E_void C hr hH h dX6_add_56
theorem c_X6_add (l : Launch) (g : gT) {a1 : Int32} {a2 : Int32} {a3 : Int32}  {S : sT} {S1 : sT} (h : f_X6_add a1 a2 a3 S = some S1) : MF l yX6_add cX6_add 4 none 1 g [.ref (gad g 7 0), .int a1, .int a2, .int a3] S none S1 := by
  refine MF.of (own := RX6) rfl rfl (Nat.le_of_ble_eq_true rfl) ?_
  intro p e s m below meth c C hr hH ls hl
  exact w_X6_add C hr (o := S1)  hH hl h
theorem nd_X6_allows : yX6_allows.cls ≠ "java/lang/invoke/MethodHandle" ∧ yX6_allows.cls ≠ "java/lang/invoke/VarHandle" ∧ (parseMethodDescriptor yX6_allows.desc).map (fun d => d.parameters.length) = some 3 := by decide +kernel
def f_X6_allows (a1 : Int32) (a2 : Int32) (a3 : Int32) (S : sT) : Option (Int32) :=
 bn (f_X10_within a1 (0 : Int32) (12 : Int32) S) (fun r2 =>
 (if r2 = (0 : Int32) then
 some (0 : Int32)
 else
 bn (f_X10_within a2 (0 : Int32) (7 : Int32) S) (fun r4 =>
 (if r4 = (0 : Int32) then
 some (0 : Int32)
 else
 bn (f_X10_within a3 (0 : Int32) (16 : Int32) S) (fun r6 =>
 (if r6 = (0 : Int32) then
 some (0 : Int32)
 else
 some (1 : Int32)))))))
set_option maxHeartbeats 4000000 in
set_option maxRecDepth 100000 in
theorem w_X6_allows (C : Cx p s m args meth c cX6_allows 3 RX6 g) (hr : meth.sig.returnType = (some .boolean)) {o : Int32} {a1 : Int32} {a2 : Int32} {a3 : Int32}  {S : sT} {H : Heap} {locs : List Loc} {ls : Array Slot} (hH : Hp g s S H locs) (hl : lv_has ls 3 [(0, .int a1), (1, .int a2), (2, .int a3)]) (h : f_X6_allows a1 a2 a3 S = some o) : W p l e (rmL 2) s m args below meth c H locs 0 0 (Qm g below args s (some (.int o)) S) (F0 m 0 ls []) := by
  obtain ⟨hx, hb, hml, hown, hts, hlk, hK⟩ := id C
  unfold f_X6_allows at h
  refine lv_iload_n hx hb dX6_allows_0 rfl (lv_at hl 0 rfl) ?_
  refine lv_iconst (v := (0 : Int32)) hx hb dX6_allows_1 (by decide) ?_
  refine lv_bipush (v := (12 : Int32)) hx hb dX6_allows_2 (by decide) ?_
  obtain ⟨r2, hc1, h⟩ := bn_e h
  refine r_callSN1 (As := [.int a1, .int (0 : Int32), .int (12 : Int32)]) C hl.1 hH (c_X10_within l g  hc1) q153 q2 nq_X6_25 q152 nd_X10_within rfl (by decide) ⟨Nat.zero_le _, Nat.zero_le _⟩ (Nat.le_of_ble_eq_true rfl) dX6_allows_4 (fun H locs hH => ?_)
  refine lv_if_eq (tgt := 34) hx hb dX6_allows_7 (by decide) (fun c9 => ?_) (fun c9 => ?_)
  · replace h := if_t h c9
    refine lv_iconst (v := (0 : Int32)) hx hb dX6_allows_34 (by decide) ?_
    exact E_boolc C hr hH rfl h dX6_allows_35
  · replace h := if_f h c9
    refine lv_iload_n hx hb dX6_allows_10 rfl (lv_at hl 1 rfl) ?_
    refine lv_iconst (v := (0 : Int32)) hx hb dX6_allows_11 (by decide) ?_
    refine lv_bipush (v := (7 : Int32)) hx hb dX6_allows_12 (by decide) ?_
    obtain ⟨r4, hc3, h⟩ := bn_e h
    refine r_callSN1 (As := [.int a2, .int (0 : Int32), .int (7 : Int32)]) C hl.1 hH (c_X10_within l g  hc3) q153 q2 nq_X6_25 q152 nd_X10_within rfl (by decide) ⟨Nat.zero_le _, Nat.zero_le _⟩ (Nat.le_of_ble_eq_true rfl) dX6_allows_14 (fun H locs hH => ?_)
    refine lv_if_eq (tgt := 34) hx hb dX6_allows_17 (by decide) (fun c8 => ?_) (fun c8 => ?_)
    · replace h := if_t h c8
      refine lv_iconst (v := (0 : Int32)) hx hb dX6_allows_34 (by decide) ?_
      exact E_boolc C hr hH rfl h dX6_allows_35
    · replace h := if_f h c8
      refine lv_iload_n hx hb dX6_allows_20 rfl (lv_at hl 2 rfl) ?_
      refine lv_iconst (v := (0 : Int32)) hx hb dX6_allows_21 (by decide) ?_
      refine lv_bipush (v := (16 : Int32)) hx hb dX6_allows_22 (by decide) ?_
      obtain ⟨r6, hc5, h⟩ := bn_e h
      refine r_callSN1 (As := [.int a3, .int (0 : Int32), .int (16 : Int32)]) C hl.1 hH (c_X10_within l g  hc5) q153 q2 nq_X6_25 q152 nd_X10_within rfl (by decide) ⟨Nat.zero_le _, Nat.zero_le _⟩ (Nat.le_of_ble_eq_true rfl) dX6_allows_24 (fun H locs hH => ?_)
      refine lv_if_eq (tgt := 34) hx hb dX6_allows_27 (by decide) (fun c7 => ?_) (fun c7 => ?_)
      · replace h := if_t h c7
        refine lv_iconst (v := (0 : Int32)) hx hb dX6_allows_34 (by decide) ?_
        exact E_boolc C hr hH rfl h dX6_allows_35
      · replace h := if_f h c7
        refine lv_iconst (v := (1 : Int32)) hx hb dX6_allows_30 (by decide) ?_
        refine lv_goto (tgt := 35) hx hb dX6_allows_31 (by decide) ?_
        exact E_boolc C hr hH rfl h dX6_allows_35
theorem c_X6_allows (l : Launch) (g : gT) {a1 : Int32} {a2 : Int32} {a3 : Int32}  {S : sT} {r : Int32} (h : f_X6_allows a1 a2 a3 S = some r) : MF l yX6_allows cX6_allows 3 (some .boolean) 2 g [.int a1, .int a2, .int a3] S (some (.int r)) S := by
  refine MF.of (own := RX6) rfl rfl (Nat.le_of_ble_eq_true rfl) ?_
  intro p e s m below meth c C hr hH ls hl
  exact w_X6_allows C hr (o := r)  hH hl h
theorem nd_X6_isFull : yX6_isFull.cls ≠ "java/lang/invoke/MethodHandle" ∧ yX6_isFull.cls ≠ "java/lang/invoke/VarHandle" ∧ (parseMethodDescriptor yX6_isFull.desc).map (fun d => d.parameters.length) = some 0 := by decide +kernel
def f_X6_isFull  (S : sT) : Option (Int32) :=
 (if (S.1 110 0 0) < (8 : Int32) then
 some (0 : Int32)
 else
 some (1 : Int32))
set_option maxHeartbeats 4000000 in
set_option maxRecDepth 100000 in
theorem w_X6_isFull (C : Cx p s m args meth c cX6_isFull 1 RX6 g) (hr : meth.sig.returnType = (some .boolean)) {o : Int32}   {S : sT} {H : Heap} {locs : List Loc} {ls : Array Slot} (hH : Hp g s S H locs) (hl : lv_has ls 1 [(0, .ref (gad g 7 0))]) (h : f_X6_isFull  S = some o) : W p l e (rmL 1) s m args below meth c H locs 0 0 (Qm g below args s (some (.int o)) S) (F0 m 0 ls []) := by
  obtain ⟨hx, hb, hml, hown, hts, hlk, hK⟩ := id C
  unfold f_X6_isFull at h
  refine lv_aload_n hx hb dX6_isFull_0 rfl (lv_at hl 0 rfl) ?_
  refine gf_X6_21 C hH dX6_isFull_1 ?_
  refine lv_bipush (v := (8 : Int32)) hx hb dX6_isFull_4 (by decide) ?_
  refine lv_icmp_lt (tgt := 13) hx hb dX6_isFull_6 (by decide) (fun c1 => ?_) (fun c1 => ?_)
  · replace h := if_t h c1
    refine lv_iconst (v := (0 : Int32)) hx hb dX6_isFull_13 (by decide) ?_
    exact E_boolc C hr hH rfl h dX6_isFull_14
  · replace h := if_f h c1
    refine lv_iconst (v := (1 : Int32)) hx hb dX6_isFull_9 (by decide) ?_
    refine lv_goto (tgt := 14) hx hb dX6_isFull_10 (by decide) ?_
    exact E_boolc C hr hH rfl h dX6_isFull_14
theorem c_X6_isFull (l : Launch) (g : gT)   {S : sT} {r : Int32} (h : f_X6_isFull  S = some r) : MF l yX6_isFull cX6_isFull 1 (some .boolean) 1 g [.ref (gad g 7 0)] S (some (.int r)) S := by
  refine MF.of (own := RX6) rfl rfl (Nat.le_of_ble_eq_true rfl) ?_
  intro p e s m below meth c C hr hH ls hl
  exact w_X6_isFull C hr (o := r)  hH hl h
theorem nd_X6_size : yX6_size.cls ≠ "java/lang/invoke/MethodHandle" ∧ yX6_size.cls ≠ "java/lang/invoke/VarHandle" ∧ (parseMethodDescriptor yX6_size.desc).map (fun d => d.parameters.length) = some 0 := by decide +kernel
def f_X6_size  (S : sT) : Option (Int32) :=
 some (S.1 110 0 0)
set_option maxHeartbeats 4000000 in
set_option maxRecDepth 100000 in
theorem w_X6_size (C : Cx p s m args meth c cX6_size 1 RX6 g) (hr : meth.sig.returnType = (some .int)) {o : Int32}   {S : sT} {H : Heap} {locs : List Loc} {ls : Array Slot} (hH : Hp g s S H locs) (hl : lv_has ls 1 [(0, .ref (gad g 7 0))]) (h : f_X6_size  S = some o) : W p l e (rmL 1) s m args below meth c H locs 0 0 (Qm g below args s (some (.int o)) S) (F0 m 0 ls []) := by
  obtain ⟨hx, hb, hml, hown, hts, hlk, hK⟩ := id C
  unfold f_X6_size at h
  refine lv_aload_n hx hb dX6_size_0 rfl (lv_at hl 0 rfl) ?_
  refine gf_X6_21 C hH dX6_size_1 ?_
  exact E_intc C hr hH h dX6_size_4
theorem c_X6_size (l : Launch) (g : gT)   {S : sT} {r : Int32} (h : f_X6_size  S = some r) : MF l yX6_size cX6_size 1 (some .int) 1 g [.ref (gad g 7 0)] S (some (.int r)) S := by
  refine MF.of (own := RX6) rfl rfl (Nat.le_of_ble_eq_true rfl) ?_
  intro p e s m below meth c C hr hH ls hl
  exact w_X6_size C hr (o := r)  hH hl h
theorem nd_X6_clear : yX6_clear.cls ≠ "java/lang/invoke/MethodHandle" ∧ yX6_clear.cls ≠ "java/lang/invoke/VarHandle" ∧ (parseMethodDescriptor yX6_clear.desc).map (fun d => d.parameters.length) = some 0 := by decide +kernel
def f_X6_clear  (S : sT) : Option (sT) :=
 lt (us S 110 0 0 (0 : Int32)) (fun S1 =>
 some S1)
set_option maxHeartbeats 4000000 in
set_option maxRecDepth 100000 in
theorem w_X6_clear (C : Cx p s m args meth c cX6_clear 1 RX6 g) (hr : meth.sig.returnType = none) {o : sT}   {S : sT} {H : Heap} {locs : List Loc} {ls : Array Slot} (hH : Hp g s S H locs) (hl : lv_has ls 1 [(0, .ref (gad g 7 0))]) (h : f_X6_clear  S = some o) : W p l e (rmL 1) s m args below meth c H locs 0 0 (Qm g below args s none o) (F0 m 0 ls []) := by
  obtain ⟨hx, hb, hml, hown, hts, hlk, hK⟩ := id C
  unfold f_X6_clear at h
  refine lv_aload_n hx hb dX6_clear_0 rfl (lv_at hl 0 rfl) ?_
  refine lv_iconst (v := (0 : Int32)) hx hb dX6_clear_1 (by decide) ?_
  refine pf_X6_21 C hH dX6_clear_2 (fun S1 H locs eS hH => ?_)
  replace h := lt_e h eS
  exact E_void C hr hH h dX6_clear_5
theorem c_X6_clear (l : Launch) (g : gT)   {S : sT} {S1 : sT} (h : f_X6_clear  S = some S1) : MF l yX6_clear cX6_clear 1 none 1 g [.ref (gad g 7 0)] S none S1 := by
  refine MF.of (own := RX6) rfl rfl (Nat.le_of_ble_eq_true rfl) ?_
  intro p e s m below meth c C hr hH ls hl
  exact w_X6_clear C hr (o := S1)  hH hl h
theorem nd_X6_isSo : yX6_isSo.cls ≠ "java/lang/invoke/MethodHandle" ∧ yX6_isSo.cls ≠ "java/lang/invoke/VarHandle" ∧ (parseMethodDescriptor yX6_isSo.desc).map (fun d => d.parameters.length) = some 2 := by decide +kernel
def f_X6_isSo (a1 : Int32) (w2 : Nat) (S : sT) : Option (Int32) :=
 ck (vi a1 8) (
 bn (f_X9_has w2 (S.1 23 0 (cl a1)) S) (fun r3 =>
 (if r3 = (0 : Int32) then
 some (0 : Int32)
 else
 ck (vi a1 8) (
 bn (f_X9_heightOf w2 (S.1 23 0 (cl a1)) S) (fun r6 =>
 ck (vi a1 8) (
 (if r6 = (S.1 24 0 (cl a1)) then
 some (1 : Int32)
 else
 some (0 : Int32))))))))
set_option maxHeartbeats 4000000 in
set_option maxRecDepth 100000 in
theorem w_X6_isSo (C : Cx p s m args meth c cX6_isSo 3 RX6 g) (hr : meth.sig.returnType = (some .boolean)) {o : Int32} {a1 : Int32} {w2 : Nat} (hw2 : w2 < 16) {S : sT} {H : Heap} {locs : List Loc} {ls : Array Slot} (hH : Hp g s S H locs) (hl : lv_has ls 3 [(0, .ref (gad g 7 0)), (1, .int a1), (2, .ref (gad g 9 w2))]) (h : f_X6_isSo a1 w2 S = some o) : W p l e (rmL 2) s m args below meth c H locs 0 0 (Qm g below args s (some (.int o)) S) (F0 m 0 ls []) := by
  obtain ⟨hx, hb, hml, hown, hts, hlk, hK⟩ := id C
  unfold f_X6_isSo at h
  refine lv_aload_n hx hb dX6_isSo_0 rfl (lv_at hl 2 rfl) ?_
  refine lv_aload_n hx hb dX6_isSo_1 rfl (lv_at hl 0 rfl) ?_
  refine gf_X6_15 C hH dX6_isSo_2 ?_
  refine lv_iload_n hx hb dX6_isSo_5 rfl (lv_at hl 1 rfl) ?_
  obtain ⟨hv1, h⟩ := ck_e h
  refine r_ald C hH ka_23 (by decide) (by decide) (vi_in hv1) dX6_isSo_6 ?_
  obtain ⟨r3, hc2, h⟩ := bn_e h
  refine r_callV1 (ki := 9) (i := w2) (ci := 8) (As := [.int (S.1 23 0 (cl a1))]) C hl.1 hH (c_X9_has l g hw2 hc2) q201 q80 q836 q199 q200 nd_X9_has rfl (by decide) ⟨Nat.zero_le _, Nat.zero_le _⟩ (by decide) hw2 ⟨_, rfl⟩ rfl (Nat.le_of_ble_eq_true rfl) dX6_isSo_7 (fun H locs hH => ?_)
  refine lv_if_eq (tgt := 36) hx hb dX6_isSo_10 (by decide) (fun c9 => ?_) (fun c9 => ?_)
  · replace h := if_t h c9
    refine lv_iconst (v := (0 : Int32)) hx hb dX6_isSo_36 (by decide) ?_
    exact E_boolc C hr hH rfl h dX6_isSo_37
  · replace h := if_f h c9
    refine lv_aload_n hx hb dX6_isSo_13 rfl (lv_at hl 2 rfl) ?_
    refine lv_aload_n hx hb dX6_isSo_14 rfl (lv_at hl 0 rfl) ?_
    refine gf_X6_15 C hH dX6_isSo_15 ?_
    refine lv_iload_n hx hb dX6_isSo_18 rfl (lv_at hl 1 rfl) ?_
    obtain ⟨hv4, h⟩ := ck_e h
    refine r_ald C hH ka_23 (by decide) (by decide) (vi_in hv4) dX6_isSo_19 ?_
    obtain ⟨r6, hc5, h⟩ := bn_e h
    refine r_callV1 (ki := 9) (i := w2) (ci := 8) (As := [.int (S.1 23 0 (cl a1))]) C hl.1 hH (c_X9_heightOf l g hw2 hc5) q402 q80 q837 q400 q401 nd_X9_heightOf rfl (by decide) ⟨Nat.zero_le _, Nat.zero_le _⟩ (by decide) hw2 ⟨_, rfl⟩ rfl (Nat.le_of_ble_eq_true rfl) dX6_isSo_20 (fun H locs hH => ?_)
    refine lv_aload_n hx hb dX6_isSo_23 rfl (lv_at hl 0 rfl) ?_
    refine gf_X6_18 C hH dX6_isSo_24 ?_
    refine lv_iload_n hx hb dX6_isSo_27 rfl (lv_at hl 1 rfl) ?_
    obtain ⟨hv7, h⟩ := ck_e h
    refine r_ald C hH ka_24 (by decide) (by decide) (vi_in hv7) dX6_isSo_28 ?_
    refine lv_icmp_ne (tgt := 36) hx hb dX6_isSo_29 (by decide) (fun c8 => ?_) (fun c8 => ?_)
    · replace h := if_f h c8
      refine lv_iconst (v := (0 : Int32)) hx hb dX6_isSo_36 (by decide) ?_
      exact E_boolc C hr hH rfl h dX6_isSo_37
    · replace h := if_t h c8
      refine lv_iconst (v := (1 : Int32)) hx hb dX6_isSo_32 (by decide) ?_
      refine lv_goto (tgt := 37) hx hb dX6_isSo_33 (by decide) ?_
      exact E_boolc C hr hH rfl h dX6_isSo_37
theorem c_X6_isSo (l : Launch) (g : gT) {a1 : Int32} {w2 : Nat} (hw2 : w2 < 16) {S : sT} {r : Int32} (h : f_X6_isSo a1 w2 S = some r) : MF l yX6_isSo cX6_isSo 3 (some .boolean) 2 g [.ref (gad g 7 0), .int a1, .ref (gad g 9 w2)] S (some (.int r)) S := by
  refine MF.of (own := RX6) rfl rfl (Nat.le_of_ble_eq_true rfl) ?_
  intro p e s m below meth c C hr hH ls hl
  exact w_X6_isSo C hr (o := r) hw2 hH hl h
theorem nd_X6_fit : yX6_fit.cls ≠ "java/lang/invoke/MethodHandle" ∧ yX6_fit.cls ≠ "java/lang/invoke/VarHandle" ∧ (parseMethodDescriptor yX6_fit.desc).map (fun d => d.parameters.length) = some 2 := by decide +kernel
def b_X6_fit_2 (a1 : Int32) (w2 : Nat) (S : sT) (x1 : Int32) (k2 : Int32 → Option (Int32)) : Option (Int32) :=
 (if (S.1 110 0 0) ≤ x1 then
 some (1 : Int32)
 else
 (if (8 : Int32) ≤ x1 then
 some (1 : Int32)
 else
 ck (vi x1 8) (
 jn (lt (x1 + (1 : Int32)) (fun x4 =>
 k2 x4))
 (fun j5 => (if (S.1 22 0 (cl x1)) = a1 then
 bn (f_X6_isSo x1 w2 S) (fun r7 =>
 (if r7 = (0 : Int32) then
 some (0 : Int32)
 else
 j5))
 else
 j5)))))
def l_X6_fit_2 (a1 : Int32) (w2 : Nat) (S : sT) : Nat → Int32 → Option (Int32)
 | 0, _ => none
 | n + 1, x1 => b_X6_fit_2 a1 w2 S x1 (l_X6_fit_2 a1 w2 S n)
theorem l_X6_fit_2_s (a1 : Int32) (w2 : Nat) (S : sT) (n : Nat) (x1 : Int32) : l_X6_fit_2 a1 w2 S (n + 1) x1 = b_X6_fit_2 a1 w2 S x1 (l_X6_fit_2 a1 w2 S n) := rfl
def f_X6_fit (a1 : Int32) (w2 : Nat) (S : sT) : Option (Int32) :=
 l_X6_fit_2 a1 w2 S FU (0 : Int32)
set_option maxHeartbeats 4000000 in
set_option maxRecDepth 100000 in
theorem w_X6_fit_2 (C : Cx p s m args meth c cX6_fit 4 RX6 g) (hr : meth.sig.returnType = (some .boolean)) {o : Int32}  {a1 : Int32} {w2 : Nat} {S : sT} (hw2 : w2 < 16)  : ∀ (n : Nat) (x1 : Int32) (H : Heap) (locs : List Loc) (ls : Array Slot), Hp g s S H locs → lv_has ls 4 [(0, .ref (gad g 7 0)), (1, .int a1), (2, .ref (gad g 9 w2)), (3, .int x1)] → l_X6_fit_2 a1 w2 S n x1 = some o → W p l e (rmL 3) s m args below meth c H locs 0 0 (Qm g below args s (some (.int o)) S) (F0 m 2 ls []) := by
  obtain ⟨hx, hb, hml, hown, hts, hlk, hK⟩ := id C
  intro n
  induction n with
  | zero =>
    intro x1 H locs ls hH hl h
    cases h
  | succ n ih =>
    intro x1 H locs ls hH hl h
    rw [l_X6_fit_2_s] at h
    unfold b_X6_fit_2 at h
    refine lv_iload_n hx hb dX6_fit_2 rfl (lv_at hl 3 rfl) ?_
    refine lv_aload_n hx hb dX6_fit_3 rfl (lv_at hl 0 rfl) ?_
    refine gf_X6_21 C hH dX6_fit_4 ?_
    refine lv_icmp_ge (tgt := 43) hx hb dX6_fit_7 (by decide) (fun c11 => ?_) (fun c11 => ?_)
    · replace h := if_t h c11
      refine lv_iconst (v := (1 : Int32)) hx hb dX6_fit_43 (by decide) ?_
      exact E_boolc C hr hH rfl h dX6_fit_44
    · replace h := if_f h c11
      refine lv_iload_n hx hb dX6_fit_10 rfl (lv_at hl 3 rfl) ?_
      refine lv_bipush (v := (8 : Int32)) hx hb dX6_fit_11 (by decide) ?_
      refine lv_icmp_ge (tgt := 43) hx hb dX6_fit_13 (by decide) (fun c10 => ?_) (fun c10 => ?_)
      · replace h := if_t h c10
        refine lv_iconst (v := (1 : Int32)) hx hb dX6_fit_43 (by decide) ?_
        exact E_boolc C hr hH rfl h dX6_fit_44
      · replace h := if_f h c10
        refine lv_aload_n hx hb dX6_fit_16 rfl (lv_at hl 0 rfl) ?_
        refine gf_X6_9 C hH dX6_fit_17 ?_
        refine lv_iload_n hx hb dX6_fit_20 rfl (lv_at hl 3 rfl) ?_
        obtain ⟨hv3, h⟩ := ck_e h
        refine r_ald C hH ka_22 (by decide) (by decide) (vi_in hv3) dX6_fit_21 ?_
        refine lv_iload_n hx hb dX6_fit_22 rfl (lv_at hl 1 rfl) ?_
        obtain ⟨j5, ej5, h⟩ := jn_e h
        have hj5 : ∀  (H : Heap) (locs : List Loc) (ls : Array Slot), Hp g s S H locs → lv_has ls 4 [(0, .ref (gad g 7 0)), (1, .int a1), (2, .ref (gad g 9 w2)), (3, .int x1)] → j5  = some o → W p l e (rmL 3) s m args below meth c H locs 0 0 (Qm g below args s (some (.int o)) S) (F0 m 37 ls []) := by
          intro  H locs ls hH hl h
          rw [ej5] at h
          try dsimp only at h
          obtain ⟨x4, ex4⟩ : ∃ z : Int32, z = (x1 + (1 : Int32)) := ⟨_, rfl⟩
          replace h := lt_e h ex4
          refine lv_iinc (v := x4) (lv' := [(3, .int x4), (0, .ref (gad g 7 0)), (1, .int a1), (2, .ref (gad g 9 w2))]) hx hb dX6_fit_37 hl (k := 3) rfl (by rw [ex4]; rfl) (by decide) rfl (fun ls hl => ?_)
          refine lv_goto (tgt := 2) hx hb dX6_fit_40 (by decide) ?_
          exact ih _ _ _ _ hH (lv_sub hl [1, 2, 3, 0] rfl) h
        clear ej5
        refine lv_icmp_ne (tgt := 37) hx hb dX6_fit_23 (by decide) (fun c9 => ?_) (fun c9 => ?_)
        · replace h := if_f h c9
          exact hj5 _ _ _ hH (lv_sub hl [0, 1, 2, 3] rfl) h
        · replace h := if_t h c9
          refine lv_aload_n hx hb dX6_fit_26 rfl (lv_at hl 0 rfl) ?_
          refine lv_iload_n hx hb dX6_fit_27 rfl (lv_at hl 3 rfl) ?_
          refine lv_aload_n hx hb dX6_fit_28 rfl (lv_at hl 2 rfl) ?_
          obtain ⟨r7, hc6, h⟩ := bn_e h
          refine r_callV1 (ki := 7) (i := 0) (ci := 6) (As := [.int x1, .ref (gad g 9 w2)]) C hl.1 hH (c_X6_isSo l g hw2 hc6) q835 q39 q832 q833 q834 nd_X6_isSo rfl (by decide) ⟨Nat.zero_le _, Nat.zero_le _⟩ (by decide) (by decide) ⟨_, rfl⟩ rfl (Nat.le_of_ble_eq_true rfl) dX6_fit_29 (fun H locs hH => ?_)
          refine lv_if_ne (tgt := 37) hx hb dX6_fit_32 (by decide) (fun c8 => ?_) (fun c8 => ?_)
          · replace h := if_f h c8
            exact hj5 _ _ _ hH (lv_sub hl [0, 1, 2, 3] rfl) h
          · replace h := if_t h c8
            refine lv_iconst (v := (0 : Int32)) hx hb dX6_fit_35 (by decide) ?_
            exact E_boolc C hr hH rfl h dX6_fit_36
set_option maxHeartbeats 4000000 in
set_option maxRecDepth 100000 in
theorem w_X6_fit (C : Cx p s m args meth c cX6_fit 4 RX6 g) (hr : meth.sig.returnType = (some .boolean)) {o : Int32} {a1 : Int32} {w2 : Nat} (hw2 : w2 < 16) {S : sT} {H : Heap} {locs : List Loc} {ls : Array Slot} (hH : Hp g s S H locs) (hl : lv_has ls 4 [(0, .ref (gad g 7 0)), (1, .int a1), (2, .ref (gad g 9 w2))]) (h : f_X6_fit a1 w2 S = some o) : W p l e (rmL 3) s m args below meth c H locs 0 0 (Qm g below args s (some (.int o)) S) (F0 m 0 ls []) := by
  obtain ⟨hx, hb, hml, hown, hts, hlk, hK⟩ := id C
  unfold f_X6_fit at h
  refine lv_iconst (v := (0 : Int32)) hx hb dX6_fit_0 (by decide) ?_
  refine lv_istore_n (lv' := [(3, .int (0 : Int32)), (0, .ref (gad g 7 0)), (1, .int a1), (2, .ref (gad g 9 w2))]) hx hb dX6_fit_1 rfl hl (by decide) rfl (fun ls hl => ?_)
  exact w_X6_fit_2 C hr hw2  _ _ _ _ _ hH (lv_sub hl [1, 2, 3, 0] rfl) h
theorem c_X6_fit (l : Launch) (g : gT) {a1 : Int32} {w2 : Nat} (hw2 : w2 < 16) {S : sT} {r : Int32} (h : f_X6_fit a1 w2 S = some r) : MF l yX6_fit cX6_fit 4 (some .boolean) 3 g [.ref (gad g 7 0), .int a1, .ref (gad g 9 w2)] S (some (.int r)) S := by
  refine MF.of (own := RX6) rfl rfl (Nat.le_of_ble_eq_true rfl) ?_
  intro p e s m below meth c C hr hH ls hl
  exact w_X6_fit C hr (o := r) hw2 hH hl h
theorem nd_X6_looksBeyond : yX6_looksBeyond.cls ≠ "java/lang/invoke/MethodHandle" ∧ yX6_looksBeyond.cls ≠ "java/lang/invoke/VarHandle" ∧ (parseMethodDescriptor yX6_looksBeyond.desc).map (fun d => d.parameters.length) = some 1 := by decide +kernel
def b_X6_looksBeyond_2 (a1 : Int32) (S : sT) (x1 : Int32) (k2 : Int32 → Option (Int32)) : Option (Int32) :=
 (if (S.1 110 0 0) ≤ x1 then
 some (0 : Int32)
 else
 (if (8 : Int32) ≤ x1 then
 some (0 : Int32)
 else
 ck (vi x1 8) (
 (if (S.1 22 0 (cl x1)) ≤ a1 then
 lt (x1 + (1 : Int32)) (fun x4 =>
 k2 x4)
 else
 some (1 : Int32)))))
def l_X6_looksBeyond_2 (a1 : Int32) (S : sT) : Nat → Int32 → Option (Int32)
 | 0, _ => none
 | n + 1, x1 => b_X6_looksBeyond_2 a1 S x1 (l_X6_looksBeyond_2 a1 S n)
theorem l_X6_looksBeyond_2_s (a1 : Int32) (S : sT) (n : Nat) (x1 : Int32) : l_X6_looksBeyond_2 a1 S (n + 1) x1 = b_X6_looksBeyond_2 a1 S x1 (l_X6_looksBeyond_2 a1 S n) := rfl
def f_X6_looksBeyond (a1 : Int32) (S : sT) : Option (Int32) :=
 l_X6_looksBeyond_2 a1 S FU (0 : Int32)
set_option maxHeartbeats 4000000 in
set_option maxRecDepth 100000 in
theorem w_X6_looksBeyond_2 (C : Cx p s m args meth c cX6_looksBeyond 3 RX6 g) (hr : meth.sig.returnType = (some .boolean)) {o : Int32}  {a1 : Int32} {S : sT}   : ∀ (n : Nat) (x1 : Int32) (H : Heap) (locs : List Loc) (ls : Array Slot), Hp g s S H locs → lv_has ls 3 [(0, .ref (gad g 7 0)), (1, .int a1), (2, .int x1)] → l_X6_looksBeyond_2 a1 S n x1 = some o → W p l e (rmL 1) s m args below meth c H locs 0 0 (Qm g below args s (some (.int o)) S) (F0 m 2 ls []) := by
  obtain ⟨hx, hb, hml, hown, hts, hlk, hK⟩ := id C
  intro n
  induction n with
  | zero =>
    intro x1 H locs ls hH hl h
    cases h
  | succ n ih =>
    intro x1 H locs ls hH hl h
    rw [l_X6_looksBeyond_2_s] at h
    unfold b_X6_looksBeyond_2 at h
    refine lv_iload_n hx hb dX6_looksBeyond_2 rfl (lv_at hl 2 rfl) ?_
    refine lv_aload_n hx hb dX6_looksBeyond_3 rfl (lv_at hl 0 rfl) ?_
    refine gf_X6_21 C hH dX6_looksBeyond_4 ?_
    refine lv_icmp_ge (tgt := 34) hx hb dX6_looksBeyond_7 (by decide) (fun c7 => ?_) (fun c7 => ?_)
    · replace h := if_t h c7
      refine lv_iconst (v := (0 : Int32)) hx hb dX6_looksBeyond_34 (by decide) ?_
      exact E_boolc C hr hH rfl h dX6_looksBeyond_35
    · replace h := if_f h c7
      refine lv_iload_n hx hb dX6_looksBeyond_10 rfl (lv_at hl 2 rfl) ?_
      refine lv_bipush (v := (8 : Int32)) hx hb dX6_looksBeyond_11 (by decide) ?_
      refine lv_icmp_ge (tgt := 34) hx hb dX6_looksBeyond_13 (by decide) (fun c6 => ?_) (fun c6 => ?_)
      · replace h := if_t h c6
        refine lv_iconst (v := (0 : Int32)) hx hb dX6_looksBeyond_34 (by decide) ?_
        exact E_boolc C hr hH rfl h dX6_looksBeyond_35
      · replace h := if_f h c6
        refine lv_aload_n hx hb dX6_looksBeyond_16 rfl (lv_at hl 0 rfl) ?_
        refine gf_X6_9 C hH dX6_looksBeyond_17 ?_
        refine lv_iload_n hx hb dX6_looksBeyond_20 rfl (lv_at hl 2 rfl) ?_
        obtain ⟨hv3, h⟩ := ck_e h
        refine r_ald C hH ka_22 (by decide) (by decide) (vi_in hv3) dX6_looksBeyond_21 ?_
        refine lv_iload_n hx hb dX6_looksBeyond_22 rfl (lv_at hl 1 rfl) ?_
        refine lv_icmp_le (tgt := 28) hx hb dX6_looksBeyond_23 (by decide) (fun c5 => ?_) (fun c5 => ?_)
        · replace h := if_t h c5
          obtain ⟨x4, ex4⟩ : ∃ z : Int32, z = (x1 + (1 : Int32)) := ⟨_, rfl⟩
          replace h := lt_e h ex4
          refine lv_iinc (v := x4) (lv' := [(2, .int x4), (0, .ref (gad g 7 0)), (1, .int a1)]) hx hb dX6_looksBeyond_28 hl (k := 2) rfl (by rw [ex4]; rfl) (by decide) rfl (fun ls hl => ?_)
          refine lv_goto (tgt := 2) hx hb dX6_looksBeyond_31 (by decide) ?_
          exact ih _ _ _ _ hH (lv_sub hl [1, 2, 0] rfl) h
        · replace h := if_f h c5
          refine lv_iconst (v := (1 : Int32)) hx hb dX6_looksBeyond_26 (by decide) ?_
          exact E_boolc C hr hH rfl h dX6_looksBeyond_27
set_option maxHeartbeats 4000000 in
set_option maxRecDepth 100000 in
theorem w_X6_looksBeyond (C : Cx p s m args meth c cX6_looksBeyond 3 RX6 g) (hr : meth.sig.returnType = (some .boolean)) {o : Int32} {a1 : Int32}  {S : sT} {H : Heap} {locs : List Loc} {ls : Array Slot} (hH : Hp g s S H locs) (hl : lv_has ls 3 [(0, .ref (gad g 7 0)), (1, .int a1)]) (h : f_X6_looksBeyond a1 S = some o) : W p l e (rmL 1) s m args below meth c H locs 0 0 (Qm g below args s (some (.int o)) S) (F0 m 0 ls []) := by
  obtain ⟨hx, hb, hml, hown, hts, hlk, hK⟩ := id C
  unfold f_X6_looksBeyond at h
  refine lv_iconst (v := (0 : Int32)) hx hb dX6_looksBeyond_0 (by decide) ?_
  refine lv_istore_n (lv' := [(2, .int (0 : Int32)), (0, .ref (gad g 7 0)), (1, .int a1)]) hx hb dX6_looksBeyond_1 rfl hl (by decide) rfl (fun ls hl => ?_)
  exact w_X6_looksBeyond_2 C hr   _ _ _ _ _ hH (lv_sub hl [1, 2, 0] rfl) h
theorem c_X6_looksBeyond (l : Launch) (g : gT) {a1 : Int32}  {S : sT} {r : Int32} (h : f_X6_looksBeyond a1 S = some r) : MF l yX6_looksBeyond cX6_looksBeyond 3 (some .boolean) 1 g [.ref (gad g 7 0), .int a1] S (some (.int r)) S := by
  refine MF.of (own := RX6) rfl rfl (Nat.le_of_ble_eq_true rfl) ?_
  intro p e s m below meth c C hr hH ls hl
  exact w_X6_looksBeyond C hr (o := r)  hH hl h
theorem nd_X1_wouldFit : yX1_wouldFit.cls ≠ "java/lang/invoke/MethodHandle" ∧ yX1_wouldFit.cls ≠ "java/lang/invoke/VarHandle" ∧ (parseMethodDescriptor yX1_wouldFit.desc).map (fun d => d.parameters.length) = some 5 := by decide +kernel
def b_X1_wouldFit_40 (a4 : Int32) (a5 : Int32) (x9 : Int32) (x10 : Int32) (S11 : sT) (k12 : Int32 → Int32 → sT → Option (Int32 × sT)) : Option (Int32 × sT) :=
 (if (S11.1 105 0 0) ≤ x10 then
 ck (vz x9) (
 some (x9, S11))
 else
 (if x9 = (0 : Int32) then
 ck (vz x9) (
 some (x9, S11))
 else
 jn (fun (y15 : Int32) => jn (fun (y16 : Int32) => bn (f_X3_brotherOf y16 S11) (fun r18 =>
 jn (fun (S19 : sT) => jn (fun (S20 : sT) => bn (f_X6_fit (x10 + (1 : Int32)) 13 S20) (fun r22 =>
 lt (x10 + (1 : Int32)) (fun x23 =>
 k12 r22 x23 S20)))
 (fun j24 => (if y15 = (1 : Int32) then
 j24 S19
 else
 bn2 (f_X4_doLays x10 r18 13 S19) (fun r26 S27 =>
 j24 S27))))
 (fun j29 => (if y15 = (0 : Int32) then
 j29 S11
 else
 bn2 (f_X4_doTake x10 r18 13 S11) (fun r31 S32 =>
 j29 S32)))))
 (fun j34 => (if y15 = (2 : Int32) then
 j34 (x10 + (1 : Int32))
 else
 j34 x10)))
 (fun j36 => (if x10 = a4 then
 j36 a5
 else
 j36 (-1 : Int32)))))
def l_X1_wouldFit_40 (a4 : Int32) (a5 : Int32) : Nat → Int32 → Int32 → sT → Option (Int32 × sT)
 | 0, _, _, _ => none
 | n + 1, x9, x10, S11 => b_X1_wouldFit_40 a4 a5 x9 x10 S11 (l_X1_wouldFit_40 a4 a5 n)
theorem l_X1_wouldFit_40_s (a4 : Int32) (a5 : Int32) (n : Nat) (x9 : Int32) (x10 : Int32) (S11 : sT) : l_X1_wouldFit_40 a4 a5 (n + 1) x9 x10 S11 = b_X1_wouldFit_40 a4 a5 x9 x10 S11 (l_X1_wouldFit_40 a4 a5 n) := rfl
def f_X1_wouldFit (a4 : Int32) (a5 : Int32) (S : sT) : Option (Int32 × sT) :=
 bn (f_X6_looksBeyond (S.1 105 0 0) S) (fun r2 =>
 (if r2 = (0 : Int32) then
 ck (vi (0 : Int32) 13) (
 lt (cl (0 : Int32)) (fun w4 =>
 bn (f_X9_become 13 w4 S) (fun S6 =>
 bn (f_X6_fit (0 : Int32) 13 S6) (fun r8 =>
 l_X1_wouldFit_40 a4 a5 FU r8 (0 : Int32) S6))))
 else
 some ((0 : Int32), S)))
set_option maxHeartbeats 4000000 in
set_option maxRecDepth 100000 in
theorem w_X1_wouldFit_40 (C : Cx p s m args meth c cX1_wouldFit 10 RX1 g) (hr : meth.sig.returnType = (some .boolean)) {o : Int32 × sT}  {a4 : Int32} {a5 : Int32}   : ∀ (n : Nat) (x9 : Int32) (x10 : Int32) (S11 : sT) (H : Heap) (locs : List Loc) (ls : Array Slot), Hp g s S11 H locs → lv_has ls 10 [(0, .ref (gad g 4 0)), (1, .ref (gad g 7 0)), (2, .ref (gad g 3 0)), (3, .ref (gad g 2 0)), (4, .int a4), (5, .int a5), (6, .int x9), (7, .int x10)] → l_X1_wouldFit_40 a4 a5 n x9 x10 S11 = some o → W p l e (rmL 5) s m args below meth c H locs 0 0 (Qm g below args s (some (.int o.1)) o.2) (F0 m 40 ls []) := by
  obtain ⟨hx, hb, hml, hown, hts, hlk, hK⟩ := id C
  intro n
  induction n with
  | zero =>
    intro x9 x10 S11 H locs ls hH hl h
    cases h
  | succ n ih =>
    intro x9 x10 S11 H locs ls hH hl h
    rw [l_X1_wouldFit_40_s] at h
    unfold b_X1_wouldFit_40 at h
    refine lv_iload hx hb dX1_wouldFit_40 (lv_at hl 7 rfl) ?_
    refine lv_aload_n hx hb dX1_wouldFit_42 rfl (lv_at hl 0 rfl) ?_
    refine gf_X1_29 C hH dX1_wouldFit_43 ?_
    refine lv_icmp_ge (tgt := 147) hx hb dX1_wouldFit_46 (by decide) (fun c39 => ?_) (fun c39 => ?_)
    · replace h := if_t h c39
      refine lv_iload hx hb dX1_wouldFit_147 (lv_at hl 6 rfl) ?_
      obtain ⟨hv13, h⟩ := ck_e h
      exact E_bool C hr hH (vz_n hv13) h dX1_wouldFit_149
    · replace h := if_f h c39
      refine lv_iload hx hb dX1_wouldFit_49 (lv_at hl 6 rfl) ?_
      refine lv_if_eq (tgt := 147) hx hb dX1_wouldFit_51 (by decide) (fun c38 => ?_) (fun c38 => ?_)
      · replace h := if_t h c38
        refine lv_iload hx hb dX1_wouldFit_147 (lv_at hl 6 rfl) ?_
        obtain ⟨hv14, h⟩ := ck_e h
        exact E_bool C hr hH (vz_n hv14) h dX1_wouldFit_149
      · replace h := if_f h c38
        refine lv_iload hx hb dX1_wouldFit_54 (lv_at hl 7 rfl) ?_
        refine lv_iload hx hb dX1_wouldFit_56 (lv_at hl 4 rfl) ?_
        obtain ⟨j36, ej36, h⟩ := jn_e h
        have hj36 : ∀ (y15 : Int32) (H : Heap) (locs : List Loc) (ls : Array Slot), Hp g s S11 H locs → lv_has ls 10 [(0, .ref (gad g 4 0)), (1, .ref (gad g 7 0)), (2, .ref (gad g 3 0)), (3, .ref (gad g 2 0)), (4, .int a4), (5, .int a5), (7, .int x10)] → j36 y15 = some o → W p l e (rmL 5) s m args below meth c H locs 0 0 (Qm g below args s (some (.int o.1)) o.2) (F0 m 67 ls [.int y15]) := by
          intro y15 H locs ls hH hl h
          rw [ej36] at h
          try dsimp only at h
          refine lv_istore (lv' := [(8, .int y15), (0, .ref (gad g 4 0)), (1, .ref (gad g 7 0)), (2, .ref (gad g 3 0)), (3, .ref (gad g 2 0)), (4, .int a4), (5, .int a5), (7, .int x10)]) hx hb dX1_wouldFit_67 hl (by decide) rfl (fun ls hl => ?_)
          refine lv_aload_n hx hb dX1_wouldFit_69 rfl (lv_at hl 4 rfl) ?_
          refine lv_iload hx hb dX1_wouldFit_70 (lv_at hl 0 rfl) ?_
          refine lv_iconst (v := (2 : Int32)) hx hb dX1_wouldFit_72 (by decide) ?_
          obtain ⟨j34, ej34, h⟩ := jn_e h
          have hj34 : ∀ (y16 : Int32) (H : Heap) (locs : List Loc) (ls : Array Slot), Hp g s S11 H locs → lv_has ls 10 [(0, .ref (gad g 4 0)), (1, .ref (gad g 7 0)), (2, .ref (gad g 3 0)), (3, .ref (gad g 2 0)), (4, .int a4), (5, .int a5), (7, .int x10), (8, .int y15)] → j34 y16 = some o → W p l e (rmL 5) s m args below meth c H locs 0 0 (Qm g below args s (some (.int o.1)) o.2) (F0 m 85 ls [.int y16, .ref (gad g 2 0)]) := by
            intro y16 H locs ls hH hl h
            rw [ej34] at h
            try dsimp only at h
            obtain ⟨r18, hc17, h⟩ := bn_e h
            refine r_callV1 (ki := 2) (i := 0) (ci := 3) (As := [.int y16]) C hl.1 hH (c_X3_brotherOf l g  hc17) q266 q19 q263 q264 q265 nd_X3_brotherOf rfl (by decide) ⟨Nat.zero_le _, Nat.zero_le _⟩ (by decide) (by decide) ⟨_, rfl⟩ rfl (Nat.le_of_ble_eq_true rfl) dX1_wouldFit_85 (fun H locs hH => ?_)
            refine lv_istore (lv' := [(9, .int r18), (0, .ref (gad g 4 0)), (1, .ref (gad g 7 0)), (2, .ref (gad g 3 0)), (3, .ref (gad g 2 0)), (4, .int a4), (5, .int a5), (7, .int x10), (8, .int y15)]) hx hb dX1_wouldFit_88 hl (by decide) rfl (fun ls hl => ?_)
            refine lv_iload hx hb dX1_wouldFit_90 (lv_at hl 8 rfl) ?_
            obtain ⟨j29, ej29, h⟩ := jn_e h
            have hj29 : ∀ (S19 : sT) (H : Heap) (locs : List Loc) (ls : Array Slot), Hp g s S19 H locs → lv_has ls 10 [(0, .ref (gad g 4 0)), (1, .ref (gad g 7 0)), (2, .ref (gad g 3 0)), (3, .ref (gad g 2 0)), (4, .int a4), (5, .int a5), (7, .int x10), (8, .int y15), (9, .int r18)] → j29 S19 = some o → W p l e (rmL 5) s m args below meth c H locs 0 0 (Qm g below args s (some (.int o.1)) o.2) (F0 m 108 ls []) := by
              intro S19 H locs ls hH hl h
              rw [ej29] at h
              try dsimp only at h
              refine lv_iload hx hb dX1_wouldFit_108 (lv_at hl 7 rfl) ?_
              refine lv_iconst (v := (1 : Int32)) hx hb dX1_wouldFit_110 (by decide) ?_
              obtain ⟨j24, ej24, h⟩ := jn_e h
              have hj24 : ∀ (S20 : sT) (H : Heap) (locs : List Loc) (ls : Array Slot), Hp g s S20 H locs → lv_has ls 10 [(0, .ref (gad g 4 0)), (1, .ref (gad g 7 0)), (2, .ref (gad g 3 0)), (3, .ref (gad g 2 0)), (4, .int a4), (5, .int a5), (7, .int x10)] → j24 S20 = some o → W p l e (rmL 5) s m args below meth c H locs 0 0 (Qm g below args s (some (.int o.1)) o.2) (F0 m 127 ls []) := by
                intro S20 H locs ls hH hl h
                rw [ej24] at h
                try dsimp only at h
                refine lv_aload_n hx hb dX1_wouldFit_127 rfl (lv_at hl 1 rfl) ?_
                refine lv_iload hx hb dX1_wouldFit_128 (lv_at hl 6 rfl) ?_
                refine lv_iconst (v := (1 : Int32)) hx hb dX1_wouldFit_130 (by decide) ?_
                refine lv_iadd hx hb dX1_wouldFit_131 ?_
                refine lv_aload_n hx hb dX1_wouldFit_132 rfl (lv_at hl 0 rfl) ?_
                refine gf_X1_25 C hH dX1_wouldFit_133 ?_
                obtain ⟨r22, hc21, h⟩ := bn_e h
                refine r_callV1 (ki := 7) (i := 0) (ci := 6) (As := [.int (x10 + (1 : Int32)), .ref (gad g 9 13)]) C hl.1 hH (c_X6_fit l g (by decide) hc21) q831 q39 q828 q829 q830 nd_X6_fit rfl (by decide) ⟨Nat.zero_le _, Nat.zero_le _⟩ (by decide) (by decide) ⟨_, rfl⟩ rfl (Nat.le_of_ble_eq_true rfl) dX1_wouldFit_136 (fun H locs hH => ?_)
                refine lv_istore (lv' := [(6, .int r22), (0, .ref (gad g 4 0)), (1, .ref (gad g 7 0)), (2, .ref (gad g 3 0)), (3, .ref (gad g 2 0)), (4, .int a4), (5, .int a5), (7, .int x10)]) hx hb dX1_wouldFit_139 hl (by decide) rfl (fun ls hl => ?_)
                obtain ⟨x23, ex23⟩ : ∃ z : Int32, z = (x10 + (1 : Int32)) := ⟨_, rfl⟩
                replace h := lt_e h ex23
                refine lv_iinc (v := x23) (lv' := [(7, .int x23), (6, .int r22), (0, .ref (gad g 4 0)), (1, .ref (gad g 7 0)), (2, .ref (gad g 3 0)), (3, .ref (gad g 2 0)), (4, .int a4), (5, .int a5)]) hx hb dX1_wouldFit_141 hl (k := 7) rfl (by rw [ex23]; rfl) (by decide) rfl (fun ls hl => ?_)
                refine lv_goto (tgt := 40) hx hb dX1_wouldFit_144 (by decide) ?_
                exact ih _ _ _ _ _ _ hH (lv_sub hl [2, 3, 4, 5, 6, 7, 1, 0] rfl) h
              clear ej24
              refine lv_icmp_eq (tgt := 127) hx hb dX1_wouldFit_111 (by decide) (fun c28 => ?_) (fun c28 => ?_)
              · replace h := if_t h c28
                exact hj24 _ _ _ _ hH (lv_sub hl [0, 1, 2, 3, 4, 5, 6] rfl) h
              · replace h := if_f h c28
                refine lv_aload_n hx hb dX1_wouldFit_114 rfl (lv_at hl 2 rfl) ?_
                refine lv_iload hx hb dX1_wouldFit_115 (lv_at hl 6 rfl) ?_
                refine lv_iload hx hb dX1_wouldFit_117 (lv_at hl 8 rfl) ?_
                refine lv_aload_n hx hb dX1_wouldFit_119 rfl (lv_at hl 0 rfl) ?_
                refine gf_X1_25 C hH dX1_wouldFit_120 ?_
                obtain ⟨r26, S27, hc25, h⟩ := bn2_e h
                refine r_callV1 (ki := 3) (i := 0) (ci := 4) (As := [.int x10, .int r18, .ref (gad g 9 13)]) C hl.1 hH (c_X4_doLays l g (by decide) hc25) q293 q23 q290 q291 q292 nd_X4_doLays rfl (by decide) ⟨Nat.zero_le _, Nat.zero_le _⟩ (by decide) (by decide) ⟨_, rfl⟩ rfl (Nat.le_of_ble_eq_true rfl) dX1_wouldFit_123 (fun H locs hH => ?_)
                refine lv_pop hx hb dX1_wouldFit_126 rfl ?_
                exact hj24 _ _ _ _ hH (lv_sub hl [0, 1, 2, 3, 4, 5, 6] rfl) h
            clear ej29
            refine lv_if_eq (tgt := 108) hx hb dX1_wouldFit_92 (by decide) (fun c33 => ?_) (fun c33 => ?_)
            · replace h := if_t h c33
              exact hj29 _ _ _ _ hH (lv_sub hl [1, 2, 3, 4, 5, 6, 7, 8, 0] rfl) h
            · replace h := if_f h c33
              refine lv_aload_n hx hb dX1_wouldFit_95 rfl (lv_at hl 3 rfl) ?_
              refine lv_iload hx hb dX1_wouldFit_96 (lv_at hl 7 rfl) ?_
              refine lv_iload hx hb dX1_wouldFit_98 (lv_at hl 0 rfl) ?_
              refine lv_aload_n hx hb dX1_wouldFit_100 rfl (lv_at hl 1 rfl) ?_
              refine gf_X1_25 C hH dX1_wouldFit_101 ?_
              obtain ⟨r31, S32, hc30, h⟩ := bn2_e h
              refine r_callV1 (ki := 3) (i := 0) (ci := 4) (As := [.int x10, .int r18, .ref (gad g 9 13)]) C hl.1 hH (c_X4_doTake l g (by decide) hc30) q274 q23 q271 q272 q273 nd_X4_doTake rfl (by decide) ⟨Nat.zero_le _, Nat.zero_le _⟩ (by decide) (by decide) ⟨_, rfl⟩ rfl (Nat.le_of_ble_eq_true rfl) dX1_wouldFit_104 (fun H locs hH => ?_)
              refine lv_pop hx hb dX1_wouldFit_107 rfl ?_
              exact hj29 _ _ _ _ hH (lv_sub hl [1, 2, 3, 4, 5, 6, 7, 8, 0] rfl) h
          clear ej34
          refine lv_icmp_ne (tgt := 83) hx hb dX1_wouldFit_73 (by decide) (fun c35 => ?_) (fun c35 => ?_)
          · replace h := if_f h c35
            refine lv_iload hx hb dX1_wouldFit_83 (lv_at hl 7 rfl) ?_
            exact hj34 _ _ _ _ hH (lv_sub hl [1, 2, 3, 4, 5, 6, 7, 0] rfl) h
          · replace h := if_t h c35
            refine lv_iload hx hb dX1_wouldFit_76 (lv_at hl 7 rfl) ?_
            refine lv_iconst (v := (1 : Int32)) hx hb dX1_wouldFit_78 (by decide) ?_
            refine lv_iadd hx hb dX1_wouldFit_79 ?_
            refine lv_goto (tgt := 85) hx hb dX1_wouldFit_80 (by decide) ?_
            exact hj34 _ _ _ _ hH (lv_sub hl [1, 2, 3, 4, 5, 6, 7, 0] rfl) h
        clear ej36
        refine lv_icmp_ne (tgt := 66) hx hb dX1_wouldFit_58 (by decide) (fun c37 => ?_) (fun c37 => ?_)
        · replace h := if_f h c37
          refine lv_iconst (v := (-1 : Int32)) hx hb dX1_wouldFit_66 (by decide) ?_
          exact hj36 _ _ _ _ hH (lv_sub hl [0, 1, 2, 3, 4, 5, 7] rfl) h
        · replace h := if_t h c37
          refine lv_iload hx hb dX1_wouldFit_61 (lv_at hl 5 rfl) ?_
          refine lv_goto (tgt := 67) hx hb dX1_wouldFit_63 (by decide) ?_
          exact hj36 _ _ _ _ hH (lv_sub hl [0, 1, 2, 3, 4, 5, 7] rfl) h
set_option maxHeartbeats 4000000 in
set_option maxRecDepth 100000 in
theorem w_X1_wouldFit (C : Cx p s m args meth c cX1_wouldFit 10 RX1 g) (hr : meth.sig.returnType = (some .boolean)) {o : Int32 × sT} {a4 : Int32} {a5 : Int32}  {S : sT} {H : Heap} {locs : List Loc} {ls : Array Slot} (hH : Hp g s S H locs) (hl : lv_has ls 10 [(0, .ref (gad g 4 0)), (1, .ref (gad g 7 0)), (2, .ref (gad g 3 0)), (3, .ref (gad g 2 0)), (4, .int a4), (5, .int a5)]) (h : f_X1_wouldFit a4 a5 S = some o) : W p l e (rmL 5) s m args below meth c H locs 0 0 (Qm g below args s (some (.int o.1)) o.2) (F0 m 0 ls []) := by
  obtain ⟨hx, hb, hml, hown, hts, hlk, hK⟩ := id C
  unfold f_X1_wouldFit at h
  refine lv_aload_n hx hb dX1_wouldFit_0 rfl (lv_at hl 1 rfl) ?_
  refine lv_aload_n hx hb dX1_wouldFit_1 rfl (lv_at hl 0 rfl) ?_
  refine gf_X1_29 C hH dX1_wouldFit_2 ?_
  obtain ⟨r2, hc1, h⟩ := bn_e h
  refine r_callV1 (ki := 7) (i := 0) (ci := 6) (As := [.int (S.1 105 0 0)]) C hl.1 hH (c_X6_looksBeyond l g  hc1) q827 q39 q824 q825 q826 nd_X6_looksBeyond rfl (by decide) ⟨Nat.zero_le _, Nat.zero_le _⟩ (by decide) (by decide) ⟨_, rfl⟩ rfl (Nat.le_of_ble_eq_true rfl) dX1_wouldFit_5 (fun H locs hH => ?_)
  refine lv_if_eq (tgt := 13) hx hb dX1_wouldFit_8 (by decide) (fun c40 => ?_) (fun c40 => ?_)
  · replace h := if_t h c40
    refine lv_aload_n hx hb dX1_wouldFit_13 rfl (lv_at hl 0 rfl) ?_
    refine gf_X1_25 C hH dX1_wouldFit_14 ?_
    refine lv_aload_n hx hb dX1_wouldFit_17 rfl (lv_at hl 0 rfl) ?_
    refine gf_X1_11 C hH dX1_wouldFit_18 ?_
    refine lv_iconst (v := (0 : Int32)) hx hb dX1_wouldFit_21 (by decide) ?_
    obtain ⟨hv3, h⟩ := ck_e h
    refine r_aaldw C hH ka_17 (t := 1) (fun _ => rfl) rfl (by decide) (by decide) (vi_in hv3) dX1_wouldFit_22 (fun w4 ew4 => ?_)
    have hw4 : w4 < 16 := by rw [ew4]; exact Nat.lt_of_lt_of_le (vi_lt hv3) (by decide)
    replace h := lt_e h ew4
    obtain ⟨S6, hc5, h⟩ := bn_e h
    refine r_callV0 (ki := 9) (i := 13) (ci := 8) (As := [.ref (gad g 9 w4)]) C hl.1 hH (c_X9_become l g (by decide) hw4 hc5) q258 q80 q255 q256 q257 nd_X9_become rfl (by decide) ⟨Nat.zero_le _, Nat.zero_le _⟩ (by decide) (by decide) ⟨_, rfl⟩ rfl (Nat.le_of_ble_eq_true rfl) dX1_wouldFit_23 (fun H locs hH => ?_)
    refine lv_aload_n hx hb dX1_wouldFit_26 rfl (lv_at hl 1 rfl) ?_
    refine lv_iconst (v := (0 : Int32)) hx hb dX1_wouldFit_27 (by decide) ?_
    refine lv_aload_n hx hb dX1_wouldFit_28 rfl (lv_at hl 0 rfl) ?_
    refine gf_X1_25 C hH dX1_wouldFit_29 ?_
    obtain ⟨r8, hc7, h⟩ := bn_e h
    refine r_callV1 (ki := 7) (i := 0) (ci := 6) (As := [.int (0 : Int32), .ref (gad g 9 13)]) C hl.1 hH (c_X6_fit l g (by decide) hc7) q831 q39 q828 q829 q830 nd_X6_fit rfl (by decide) ⟨Nat.zero_le _, Nat.zero_le _⟩ (by decide) (by decide) ⟨_, rfl⟩ rfl (Nat.le_of_ble_eq_true rfl) dX1_wouldFit_32 (fun H locs hH => ?_)
    refine lv_istore (lv' := [(6, .int r8), (0, .ref (gad g 4 0)), (1, .ref (gad g 7 0)), (2, .ref (gad g 3 0)), (3, .ref (gad g 2 0)), (4, .int a4), (5, .int a5)]) hx hb dX1_wouldFit_35 hl (by decide) rfl (fun ls hl => ?_)
    refine lv_iconst (v := (0 : Int32)) hx hb dX1_wouldFit_37 (by decide) ?_
    refine lv_istore (lv' := [(7, .int (0 : Int32)), (6, .int r8), (0, .ref (gad g 4 0)), (1, .ref (gad g 7 0)), (2, .ref (gad g 3 0)), (3, .ref (gad g 2 0)), (4, .int a4), (5, .int a5)]) hx hb dX1_wouldFit_38 hl (by decide) rfl (fun ls hl => ?_)
    exact w_X1_wouldFit_40 C hr   _ _ _ _ _ _ _ hH (lv_sub hl [2, 3, 4, 5, 6, 7, 1, 0] rfl) h
  · replace h := if_f h c40
    refine lv_iconst (v := (0 : Int32)) hx hb dX1_wouldFit_11 (by decide) ?_
    exact E_bool C hr hH rfl h dX1_wouldFit_12
theorem c_X1_wouldFit (l : Launch) (g : gT) {a4 : Int32} {a5 : Int32}  {S : sT} {r : Int32} {S1 : sT} (h : f_X1_wouldFit a4 a5 S = some (r, S1)) : MF l yX1_wouldFit cX1_wouldFit 10 (some .boolean) 5 g [.ref (gad g 4 0), .ref (gad g 7 0), .ref (gad g 3 0), .ref (gad g 2 0), .int a4, .int a5] S (some (.int r)) S1 := by
  refine MF.of (own := RX1) rfl rfl (Nat.le_of_ble_eq_true rfl) ?_
  intro p e s m below meth c C hr hH ls hl
  exact w_X1_wouldFit C hr (o := (r, S1))  hH hl h
theorem nd_X1_busyTurns : yX1_busyTurns.cls ≠ "java/lang/invoke/MethodHandle" ∧ yX1_busyTurns.cls ≠ "java/lang/invoke/VarHandle" ∧ (parseMethodDescriptor yX1_busyTurns.desc).map (fun d => d.parameters.length) = some 0 := by decide +kernel
def b_X1_busyTurns_4 (S : sT) (x1 : Int32) (x2 : Int32) (k3 : Int32 → Int32 → Option (Int32)) : Option (Int32) :=
 (if (S.1 105 0 0) ≤ x2 then
 some x1
 else
 bn (f_X1_tookIn x2 S) (fun r5 =>
 bn (f_X1_laidIn x2 S) (fun r7 =>
 jn (fun (x8 : Int32) => lt (x2 + (1 : Int32)) (fun x9 =>
 k3 x8 x9))
 (fun j10 => (if (r5 + r7) ≤ (0 : Int32) then
 j10 x1
 else
 lt (x1 + (1 : Int32)) (fun x11 =>
 j10 x11))))))
def l_X1_busyTurns_4 (S : sT) : Nat → Int32 → Int32 → Option (Int32)
 | 0, _, _ => none
 | n + 1, x1, x2 => b_X1_busyTurns_4 S x1 x2 (l_X1_busyTurns_4 S n)
theorem l_X1_busyTurns_4_s (S : sT) (n : Nat) (x1 : Int32) (x2 : Int32) : l_X1_busyTurns_4 S (n + 1) x1 x2 = b_X1_busyTurns_4 S x1 x2 (l_X1_busyTurns_4 S n) := rfl
def f_X1_busyTurns  (S : sT) : Option (Int32) :=
 l_X1_busyTurns_4 S FU (0 : Int32) (0 : Int32)
set_option maxHeartbeats 4000000 in
set_option maxRecDepth 100000 in
theorem w_X1_busyTurns_4 (C : Cx p s m args meth c cX1_busyTurns 3 RX1 g) (hr : meth.sig.returnType = (some .int)) {o : Int32}  {S : sT}   : ∀ (n : Nat) (x1 : Int32) (x2 : Int32) (H : Heap) (locs : List Loc) (ls : Array Slot), Hp g s S H locs → lv_has ls 3 [(0, .ref (gad g 4 0)), (1, .int x1), (2, .int x2)] → l_X1_busyTurns_4 S n x1 x2 = some o → W p l e (rmL 3) s m args below meth c H locs 0 0 (Qm g below args s (some (.int o)) S) (F0 m 4 ls []) := by
  obtain ⟨hx, hb, hml, hown, hts, hlk, hK⟩ := id C
  intro n
  induction n with
  | zero =>
    intro x1 x2 H locs ls hH hl h
    cases h
  | succ n ih =>
    intro x1 x2 H locs ls hH hl h
    rw [l_X1_busyTurns_4_s] at h
    unfold b_X1_busyTurns_4 at h
    refine lv_iload_n hx hb dX1_busyTurns_4 rfl (lv_at hl 2 rfl) ?_
    refine lv_aload_n hx hb dX1_busyTurns_5 rfl (lv_at hl 0 rfl) ?_
    refine gf_X1_29 C hH dX1_busyTurns_6 ?_
    refine lv_icmp_ge (tgt := 35) hx hb dX1_busyTurns_9 (by decide) (fun c13 => ?_) (fun c13 => ?_)
    · replace h := if_t h c13
      refine lv_iload_n hx hb dX1_busyTurns_35 rfl (lv_at hl 1 rfl) ?_
      exact E_intc C hr hH h dX1_busyTurns_36
    · replace h := if_f h c13
      refine lv_aload_n hx hb dX1_busyTurns_12 rfl (lv_at hl 0 rfl) ?_
      refine lv_iload_n hx hb dX1_busyTurns_13 rfl (lv_at hl 2 rfl) ?_
      obtain ⟨r5, hc4, h⟩ := bn_e h
      refine r_callV1 (ki := 4) (i := 0) (ci := 1) (As := [.int x2]) C hl.1 hH (c_X1_tookIn l g  hc4) q580 q27 q1051 q578 q579 nd_X1_tookIn rfl (by decide) ⟨Nat.zero_le _, Nat.zero_le _⟩ (by decide) (by decide) ⟨_, rfl⟩ rfl (Nat.le_of_ble_eq_true rfl) dX1_busyTurns_14 (fun H locs hH => ?_)
      refine lv_aload_n hx hb dX1_busyTurns_17 rfl (lv_at hl 0 rfl) ?_
      refine lv_iload_n hx hb dX1_busyTurns_18 rfl (lv_at hl 2 rfl) ?_
      obtain ⟨r7, hc6, h⟩ := bn_e h
      refine r_callV1 (ki := 4) (i := 0) (ci := 1) (As := [.int x2]) C hl.1 hH (c_X1_laidIn l g  hc6) q585 q27 q1052 q583 q584 nd_X1_laidIn rfl (by decide) ⟨Nat.zero_le _, Nat.zero_le _⟩ (by decide) (by decide) ⟨_, rfl⟩ rfl (Nat.le_of_ble_eq_true rfl) dX1_busyTurns_19 (fun H locs hH => ?_)
      refine lv_iadd hx hb dX1_busyTurns_22 ?_
      obtain ⟨j10, ej10, h⟩ := jn_e h
      have hj10 : ∀ (x8 : Int32) (H : Heap) (locs : List Loc) (ls : Array Slot), Hp g s S H locs → lv_has ls 3 [(0, .ref (gad g 4 0)), (1, .int x8), (2, .int x2)] → j10 x8 = some o → W p l e (rmL 3) s m args below meth c H locs 0 0 (Qm g below args s (some (.int o)) S) (F0 m 29 ls []) := by
        intro x8 H locs ls hH hl h
        rw [ej10] at h
        try dsimp only at h
        obtain ⟨x9, ex9⟩ : ∃ z : Int32, z = (x2 + (1 : Int32)) := ⟨_, rfl⟩
        replace h := lt_e h ex9
        refine lv_iinc (v := x9) (lv' := [(2, .int x9), (0, .ref (gad g 4 0)), (1, .int x8)]) hx hb dX1_busyTurns_29 hl (k := 2) rfl (by rw [ex9]; rfl) (by decide) rfl (fun ls hl => ?_)
        refine lv_goto (tgt := 4) hx hb dX1_busyTurns_32 (by decide) ?_
        exact ih _ _ _ _ _ hH (lv_sub hl [1, 2, 0] rfl) h
      clear ej10
      refine lv_if_le (tgt := 29) hx hb dX1_busyTurns_23 (by decide) (fun c12 => ?_) (fun c12 => ?_)
      · replace h := if_t h c12
        exact hj10 _ _ _ _ hH (lv_sub hl [0, 1, 2] rfl) h
      · replace h := if_f h c12
        obtain ⟨x11, ex11⟩ : ∃ z : Int32, z = (x1 + (1 : Int32)) := ⟨_, rfl⟩
        replace h := lt_e h ex11
        refine lv_iinc (v := x11) (lv' := [(1, .int x11), (0, .ref (gad g 4 0)), (2, .int x2)]) hx hb dX1_busyTurns_26 hl (k := 1) rfl (by rw [ex11]; rfl) (by decide) rfl (fun ls hl => ?_)
        exact hj10 _ _ _ _ hH (lv_sub hl [1, 0, 2] rfl) h
set_option maxHeartbeats 4000000 in
set_option maxRecDepth 100000 in
theorem w_X1_busyTurns (C : Cx p s m args meth c cX1_busyTurns 3 RX1 g) (hr : meth.sig.returnType = (some .int)) {o : Int32}   {S : sT} {H : Heap} {locs : List Loc} {ls : Array Slot} (hH : Hp g s S H locs) (hl : lv_has ls 3 [(0, .ref (gad g 4 0))]) (h : f_X1_busyTurns  S = some o) : W p l e (rmL 3) s m args below meth c H locs 0 0 (Qm g below args s (some (.int o)) S) (F0 m 0 ls []) := by
  obtain ⟨hx, hb, hml, hown, hts, hlk, hK⟩ := id C
  unfold f_X1_busyTurns at h
  refine lv_iconst (v := (0 : Int32)) hx hb dX1_busyTurns_0 (by decide) ?_
  refine lv_istore_n (lv' := [(1, .int (0 : Int32)), (0, .ref (gad g 4 0))]) hx hb dX1_busyTurns_1 rfl hl (by decide) rfl (fun ls hl => ?_)
  refine lv_iconst (v := (0 : Int32)) hx hb dX1_busyTurns_2 (by decide) ?_
  refine lv_istore_n (lv' := [(2, .int (0 : Int32)), (1, .int (0 : Int32)), (0, .ref (gad g 4 0))]) hx hb dX1_busyTurns_3 rfl hl (by decide) rfl (fun ls hl => ?_)
  exact w_X1_busyTurns_4 C hr   _ _ _ _ _ _ hH (lv_sub hl [2, 1, 0] rfl) h
theorem c_X1_busyTurns (l : Launch) (g : gT)   {S : sT} {r : Int32} (h : f_X1_busyTurns  S = some r) : MF l yX1_busyTurns cX1_busyTurns 3 (some .int) 3 g [.ref (gad g 4 0)] S (some (.int r)) S := by
  refine MF.of (own := RX1) rfl rfl (Nat.le_of_ble_eq_true rfl) ?_
  intro p e s m below meth c C hr hH ls hl
  exact w_X1_busyTurns C hr (o := r)  hH hl h
end G14
