section G26
variable {p : Program} {l : Launch} {e : Env} {s : State} {m : MethodId} {args : Array Value} {below : List Frame} {meth : Method} {c : Code} {g : gT}
theorem nd_X11_working : yX11_working.cls ≠ "java/lang/invoke/MethodHandle" ∧ yX11_working.cls ≠ "java/lang/invoke/VarHandle" ∧ (parseMethodDescriptor yX11_working.desc).map (fun d => d.parameters.length) = some 0 := by decide +kernel
def b_X11_working_8  (x3 : Int32) (x4 : Int32) (S5 : sT) (k6 : Int32 → Int32 → sT → Option (Int32 × sT)) : Option (Int32 × sT) :=
 (if (S5.1 116 0 0) ≤ x4 then
 some (x3, S5)
 else
 bn (f_X11_goes x4 S5) (fun S8 =>
 jn (fun (y9 : Int32) => lt (x3 + y9) (fun x10 =>
 lt (x4 + (1 : Int32)) (fun x11 =>
 k6 x10 x11 S8)))
 (fun j12 => (if ((S8.1 117 0 0) + (S8.1 118 0 0)) ≤ (0 : Int32) then
 j12 (0 : Int32)
 else
 j12 (1 : Int32)))))
def l_X11_working_8  : Nat → Int32 → Int32 → sT → Option (Int32 × sT)
 | 0, _, _, _ => none
 | n + 1, x3, x4, S5 => b_X11_working_8  x3 x4 S5 (l_X11_working_8  n)
theorem l_X11_working_8_s  (n : Nat) (x3 : Int32) (x4 : Int32) (S5 : sT) : l_X11_working_8  (n + 1) x3 x4 S5 = b_X11_working_8  x3 x4 S5 (l_X11_working_8  n) := rfl
def f_X11_working  (S : sT) : Option (Int32 × sT) :=
 bn (f_X11_begins  S) (fun S2 =>
 l_X11_working_8  FU (0 : Int32) (0 : Int32) S2)
set_option maxHeartbeats 4000000 in
set_option maxRecDepth 100000 in
theorem w_X11_working_8 (C : Cx p s m args meth c cX11_working 3 RX11 g) (hr : meth.sig.returnType = (some .int)) {o : Int32 × sT}     : ∀ (n : Nat) (x3 : Int32) (x4 : Int32) (S5 : sT) (H : Heap) (locs : List Loc) (ls : Array Slot), Hp g s S5 H locs → lv_has ls 3 [(0, .ref (gad g 10 0)), (1, .int x3), (2, .int x4)] → l_X11_working_8  n x3 x4 S5 = some o → W p l e (rmL 4) s m args below meth c H locs 0 0 (Qm g below args s (some (.int o.1)) o.2) (F0 m 8 ls []) := by
  obtain ⟨hx, hb, hml, hown, hts, hlk, hK⟩ := id C
  intro n
  induction n with
  | zero =>
    intro x3 x4 S5 H locs ls hH hl h
    cases h
  | succ n ih =>
    intro x3 x4 S5 H locs ls hH hl h
    rw [l_X11_working_8_s] at h
    unfold b_X11_working_8 at h
    refine lv_iload_n hx hb dX11_working_8 rfl (lv_at hl 2 rfl) ?_
    refine lv_aload_n hx hb dX11_working_9 rfl (lv_at hl 0 rfl) ?_
    refine gf_X11_108 C hH dX11_working_10 ?_
    refine lv_icmp_ge (tgt := 47) hx hb dX11_working_13 (by decide) (fun c14 => ?_) (fun c14 => ?_)
    · replace h := if_t h c14
      refine lv_iload_n hx hb dX11_working_47 rfl (lv_at hl 1 rfl) ?_
      exact E_int C hr hH h dX11_working_48
    · replace h := if_f h c14
      refine lv_aload_n hx hb dX11_working_16 rfl (lv_at hl 0 rfl) ?_
      refine lv_iload_n hx hb dX11_working_17 rfl (lv_at hl 2 rfl) ?_
      obtain ⟨S8, hc7, h⟩ := bn_e h
      refine r_callV0 (ki := 10) (i := 0) (ci := 10) (As := [.int x4]) C hl.1 hH (c_X11_goes l g  hc7) q434 q5 q431 q432 q433 nd_X11_goes rfl (by decide) ⟨Nat.zero_le _, Nat.zero_le _⟩ (by decide) (by decide) ⟨_, rfl⟩ rfl (Nat.le_of_ble_eq_true rfl) dX11_working_18 (fun H locs hH => ?_)
      refine lv_iload_n hx hb dX11_working_21 rfl (lv_at hl 1 rfl) ?_
      refine lv_aload_n hx hb dX11_working_22 rfl (lv_at hl 0 rfl) ?_
      refine gf_X11_139 C hH dX11_working_23 ?_
      refine lv_aload_n hx hb dX11_working_26 rfl (lv_at hl 0 rfl) ?_
      refine gf_X11_142 C hH dX11_working_27 ?_
      refine lv_iadd hx hb dX11_working_30 ?_
      obtain ⟨j12, ej12, h⟩ := jn_e h
      have hj12 : ∀ (y9 : Int32) (H : Heap) (locs : List Loc) (ls : Array Slot), Hp g s S8 H locs → lv_has ls 3 [(0, .ref (gad g 10 0)), (2, .int x4)] → j12 y9 = some o → W p l e (rmL 4) s m args below meth c H locs 0 0 (Qm g below args s (some (.int o.1)) o.2) (F0 m 39 ls [.int y9, .int x3]) := by
        intro y9 H locs ls hH hl h
        rw [ej12] at h
        try dsimp only at h
        refine lv_iadd hx hb dX11_working_39 ?_
        refine lv_topi (fun x10 ex10 => ?_)
        replace h := lt_e h ex10
        refine lv_istore_n (lv' := [(1, .int x10), (0, .ref (gad g 10 0)), (2, .int x4)]) hx hb dX11_working_40 rfl hl (by decide) rfl (fun ls hl => ?_)
        obtain ⟨x11, ex11⟩ : ∃ z : Int32, z = (x4 + (1 : Int32)) := ⟨_, rfl⟩
        replace h := lt_e h ex11
        refine lv_iinc (v := x11) (lv' := [(2, .int x11), (1, .int x10), (0, .ref (gad g 10 0))]) hx hb dX11_working_41 hl (k := 2) rfl (by rw [ex11]; rfl) (by decide) rfl (fun ls hl => ?_)
        refine lv_goto (tgt := 8) hx hb dX11_working_44 (by decide) ?_
        exact ih _ _ _ _ _ _ hH (lv_sub hl [2, 1, 0] rfl) h
      clear ej12
      refine lv_if_le (tgt := 38) hx hb dX11_working_31 (by decide) (fun c13 => ?_) (fun c13 => ?_)
      · replace h := if_t h c13
        refine lv_iconst (v := (0 : Int32)) hx hb dX11_working_38 (by decide) ?_
        exact hj12 _ _ _ _ hH (lv_sub hl [0, 2] rfl) h
      · replace h := if_f h c13
        refine lv_iconst (v := (1 : Int32)) hx hb dX11_working_34 (by decide) ?_
        refine lv_goto (tgt := 39) hx hb dX11_working_35 (by decide) ?_
        exact hj12 _ _ _ _ hH (lv_sub hl [0, 2] rfl) h
set_option maxHeartbeats 4000000 in
set_option maxRecDepth 100000 in
theorem w_X11_working (C : Cx p s m args meth c cX11_working 3 RX11 g) (hr : meth.sig.returnType = (some .int)) {o : Int32 × sT}   {S : sT} {H : Heap} {locs : List Loc} {ls : Array Slot} (hH : Hp g s S H locs) (hl : lv_has ls 3 [(0, .ref (gad g 10 0))]) (h : f_X11_working  S = some o) : W p l e (rmL 4) s m args below meth c H locs 0 0 (Qm g below args s (some (.int o.1)) o.2) (F0 m 0 ls []) := by
  obtain ⟨hx, hb, hml, hown, hts, hlk, hK⟩ := id C
  unfold f_X11_working at h
  refine lv_iconst (v := (0 : Int32)) hx hb dX11_working_0 (by decide) ?_
  refine lv_istore_n (lv' := [(1, .int (0 : Int32)), (0, .ref (gad g 10 0))]) hx hb dX11_working_1 rfl hl (by decide) rfl (fun ls hl => ?_)
  refine lv_aload_n hx hb dX11_working_2 rfl (lv_at hl 1 rfl) ?_
  obtain ⟨S2, hc1, h⟩ := bn_e h
  refine r_callV0 (ki := 10) (i := 0) (ci := 10) (As := []) C hl.1 hH (c_X11_begins l g  hc1) q430 q5 q427 q428 q429 nd_X11_begins rfl (by decide) ⟨Nat.zero_le _, Nat.zero_le _⟩ (by decide) (by decide) ⟨_, rfl⟩ rfl (Nat.le_of_ble_eq_true rfl) dX11_working_3 (fun H locs hH => ?_)
  refine lv_iconst (v := (0 : Int32)) hx hb dX11_working_6 (by decide) ?_
  refine lv_istore_n (lv' := [(2, .int (0 : Int32)), (1, .int (0 : Int32)), (0, .ref (gad g 10 0))]) hx hb dX11_working_7 rfl hl (by decide) rfl (fun ls hl => ?_)
  exact w_X11_working_8 C hr   _ _ _ _ _ _ _ hH (lv_sub hl [2, 1, 0] rfl) h
theorem c_X11_working (l : Launch) (g : gT)   {S : sT} {r : Int32} {S1 : sT} (h : f_X11_working  S = some (r, S1)) : MF l yX11_working cX11_working 3 (some .int) 4 g [.ref (gad g 10 0)] S (some (.int r)) S1 := by
  refine MF.of (own := RX11) rfl rfl (Nat.le_of_ble_eq_true rfl) ?_
  intro p e s m below meth c C hr hH ls hl
  exact w_X11_working C hr (o := (r, S1))  hH hl h
theorem nd_X11_count : yX11_count.cls ≠ "java/lang/invoke/MethodHandle" ∧ yX11_count.cls ≠ "java/lang/invoke/VarHandle" ∧ (parseMethodDescriptor yX11_count.desc).map (fun d => d.parameters.length) = some 1 := by decide +kernel
def b_X11_count_90 (S11 : sT) (x12 : Int32) (x13 : Int32) (k14 : Int32 → Int32 → Option (Int32 × sT)) : Option (Int32 × sT) :=
 (if (S11.1 115 0 0) ≤ x13 then
 some (x12, S11)
 else
 ck (vi x13 8) (
 lt (x12 + (S11.1 44 0 (cl x13))) (fun x16 =>
 lt (x13 + (1 : Int32)) (fun x17 =>
 k14 x16 x17))))
def l_X11_count_90 (S11 : sT) : Nat → Int32 → Int32 → Option (Int32 × sT)
 | 0, _, _ => none
 | n + 1, x12, x13 => b_X11_count_90 S11 x12 x13 (l_X11_count_90 S11 n)
theorem l_X11_count_90_s (S11 : sT) (n : Nat) (x12 : Int32) (x13 : Int32) : l_X11_count_90 S11 (n + 1) x12 x13 = b_X11_count_90 S11 x12 x13 (l_X11_count_90 S11 n) := rfl
def f_X11_count (a1 : Int32) (S : sT) : Option (Int32 × sT) :=
 bn (f_X11_reads  S) (fun S2 =>
 (if a1 = (0 : Int32) then
 some ((S2.1 115 0 0), S2)
 else
 (if a1 = (1 : Int32) then
 some ((S2.1 116 0 0), S2)
 else
 (if a1 = (2 : Int32) then
 ck (vi (a1 - (2 : Int32)) 2) (
 some ((S2.1 38 0 (cl (a1 - (2 : Int32)))), S2))
 else
 (if a1 = (3 : Int32) then
 ck (vi (a1 - (2 : Int32)) 2) (
 some ((S2.1 38 0 (cl (a1 - (2 : Int32)))), S2))
 else
 (if a1 = (4 : Int32) then
 some ((S2.1 121 0 0), S2)
 else
 (if a1 = (5 : Int32) then
 bn (f_X11_lives (S2.1 116 0 0) S2) (fun S11 =>
 l_X11_count_90 S11 FU (0 : Int32) (0 : Int32))
 else
 (if a1 = (6 : Int32) then
 bn2 (f_X11_working  S2) (fun r21 S22 =>
 some (r21, S22))
 else
 (if a1 = (7 : Int32) then
 ck (vi (2 : Int32) 6) (
 some ((S2.1 42 0 (cl (2 : Int32))), S2))
 else
 (if a1 = (8 : Int32) then
 some ((S2.1 113 0 0), S2)
 else
 some ((-2 : Int32), S2)))))))))))
set_option maxHeartbeats 4000000 in
set_option maxRecDepth 100000 in
theorem w_X11_count_90 (C : Cx p s m args meth c cX11_count 4 RX11 g) (hr : meth.sig.returnType = (some .int)) {o : Int32 × sT}  {S11 : sT}   : ∀ (n : Nat) (x12 : Int32) (x13 : Int32) (H : Heap) (locs : List Loc) (ls : Array Slot), Hp g s S11 H locs → lv_has ls 4 [(0, .ref (gad g 10 0)), (2, .int x12), (3, .int x13)] → l_X11_count_90 S11 n x12 x13 = some o → W p l e (rmL 6) s m args below meth c H locs 0 0 (Qm g below args s (some (.int o.1)) o.2) (F0 m 90 ls []) := by
  obtain ⟨hx, hb, hml, hown, hts, hlk, hK⟩ := id C
  intro n
  induction n with
  | zero =>
    intro x12 x13 H locs ls hH hl h
    cases h
  | succ n ih =>
    intro x12 x13 H locs ls hH hl h
    rw [l_X11_count_90_s] at h
    unfold b_X11_count_90 at h
    refine lv_iload_n hx hb dX11_count_90 rfl (lv_at hl 2 rfl) ?_
    refine lv_aload_n hx hb dX11_count_91 rfl (lv_at hl 0 rfl) ?_
    refine gf_X11_91 C hH dX11_count_92 ?_
    refine lv_icmp_ge (tgt := 113) hx hb dX11_count_95 (by decide) (fun c18 => ?_) (fun c18 => ?_)
    · replace h := if_t h c18
      refine lv_iload_n hx hb dX11_count_113 rfl (lv_at hl 1 rfl) ?_
      exact E_int C hr hH h dX11_count_114
    · replace h := if_f h c18
      refine lv_iload_n hx hb dX11_count_98 rfl (lv_at hl 1 rfl) ?_
      refine lv_aload_n hx hb dX11_count_99 rfl (lv_at hl 0 rfl) ?_
      refine gf_X11_43 C hH dX11_count_100 ?_
      refine lv_iload_n hx hb dX11_count_103 rfl (lv_at hl 2 rfl) ?_
      obtain ⟨hv15, h⟩ := ck_e h
      refine r_ald C hH ka_44 (by decide) (by decide) (vi_in hv15) dX11_count_104 ?_
      refine lv_iadd hx hb dX11_count_105 ?_
      refine lv_topi (fun x16 ex16 => ?_)
      replace h := lt_e h ex16
      refine lv_istore_n (lv' := [(2, .int x16), (0, .ref (gad g 10 0)), (3, .int x13)]) hx hb dX11_count_106 rfl hl (by decide) rfl (fun ls hl => ?_)
      obtain ⟨x17, ex17⟩ : ∃ z : Int32, z = (x13 + (1 : Int32)) := ⟨_, rfl⟩
      replace h := lt_e h ex17
      refine lv_iinc (v := x17) (lv' := [(3, .int x17), (2, .int x16), (0, .ref (gad g 10 0))]) hx hb dX11_count_107 hl (k := 2) rfl (by rw [ex17]; rfl) (by decide) rfl (fun ls hl => ?_)
      refine lv_goto (tgt := 90) hx hb dX11_count_110 (by decide) ?_
      exact ih _ _ _ _ _ hH (lv_sub hl [2, 1, 0] rfl) h
set_option maxHeartbeats 4000000 in
set_option maxRecDepth 100000 in
theorem w_X11_count (C : Cx p s m args meth c cX11_count 4 RX11 g) (hr : meth.sig.returnType = (some .int)) {o : Int32 × sT} {a1 : Int32}  {S : sT} {H : Heap} {locs : List Loc} {ls : Array Slot} (hH : Hp g s S H locs) (hl : lv_has ls 4 [(0, .ref (gad g 10 0)), (1, .int a1)]) (h : f_X11_count a1 S = some o) : W p l e (rmL 6) s m args below meth c H locs 0 0 (Qm g below args s (some (.int o.1)) o.2) (F0 m 0 ls []) := by
  obtain ⟨hx, hb, hml, hown, hts, hlk, hK⟩ := id C
  unfold f_X11_count at h
  refine lv_iconst (v := (0 : Int32)) hx hb dX11_count_0 (by decide) ?_
  refine lv_istore_n (lv' := [(2, .int (0 : Int32)), (0, .ref (gad g 10 0)), (1, .int a1)]) hx hb dX11_count_1 rfl hl (by decide) rfl (fun ls hl => ?_)
  refine lv_aload_n hx hb dX11_count_2 rfl (lv_at hl 1 rfl) ?_
  obtain ⟨S2, hc1, h⟩ := bn_e h
  refine r_callV0 (ki := 10) (i := 0) (ci := 10) (As := []) C hl.1 hH (c_X11_reads l g  hc1) q410 q5 q407 q408 q409 nd_X11_reads rfl (by decide) ⟨Nat.zero_le _, Nat.zero_le _⟩ (by decide) (by decide) ⟨_, rfl⟩ rfl (Nat.le_of_ble_eq_true rfl) dX11_count_3 (fun H locs hH => ?_)
  refine lv_iload_n hx hb dX11_count_6 rfl (lv_at hl 2 rfl) ?_
  by_cases c3 : a1 = (0 : Int32)
  · replace h := if_t h c3
    refine r_tabI C (k := 0) (off := 49) (tgt := 56) dX11_count_7 c3 (by decide) ?_
    refine lv_aload_n hx hb dX11_count_56 rfl (lv_at hl 1 rfl) ?_
    refine gf_X11_91 C hH dX11_count_57 ?_
    exact E_int C hr hH h dX11_count_60
  · replace h := if_f h c3
    by_cases c4 : a1 = (1 : Int32)
    · replace h := if_t h c4
      refine r_tabI C (k := 1) (off := 54) (tgt := 61) dX11_count_7 c4 (by decide) ?_
      refine lv_aload_n hx hb dX11_count_61 rfl (lv_at hl 1 rfl) ?_
      refine gf_X11_108 C hH dX11_count_62 ?_
      exact E_int C hr hH h dX11_count_65
    · replace h := if_f h c4
      by_cases c6 : a1 = (2 : Int32)
      · replace h := if_t h c6
        refine r_tabI C (k := 2) (off := 59) (tgt := 66) dX11_count_7 c6 (by decide) ?_
        refine lv_aload_n hx hb dX11_count_66 rfl (lv_at hl 1 rfl) ?_
        refine gf_X11_25 C hH dX11_count_67 ?_
        refine lv_iload_n hx hb dX11_count_70 rfl (lv_at hl 2 rfl) ?_
        refine lv_iconst (v := (2 : Int32)) hx hb dX11_count_71 (by decide) ?_
        refine lv_isub hx hb dX11_count_72 ?_
        obtain ⟨hv5, h⟩ := ck_e h
        refine r_ald C hH ka_38 (by decide) (by decide) (vi_in hv5) dX11_count_73 ?_
        exact E_int C hr hH h dX11_count_74
      · replace h := if_f h c6
        by_cases c8 : a1 = (3 : Int32)
        · replace h := if_t h c8
          refine r_tabI C (k := 3) (off := 59) (tgt := 66) dX11_count_7 c8 (by decide) ?_
          refine lv_aload_n hx hb dX11_count_66 rfl (lv_at hl 1 rfl) ?_
          refine gf_X11_25 C hH dX11_count_67 ?_
          refine lv_iload_n hx hb dX11_count_70 rfl (lv_at hl 2 rfl) ?_
          refine lv_iconst (v := (2 : Int32)) hx hb dX11_count_71 (by decide) ?_
          refine lv_isub hx hb dX11_count_72 ?_
          obtain ⟨hv7, h⟩ := ck_e h
          refine r_ald C hH ka_38 (by decide) (by decide) (vi_in hv7) dX11_count_73 ?_
          exact E_int C hr hH h dX11_count_74
        · replace h := if_f h c8
          by_cases c9 : a1 = (4 : Int32)
          · replace h := if_t h c9
            refine r_tabI C (k := 4) (off := 68) (tgt := 75) dX11_count_7 c9 (by decide) ?_
            refine lv_aload_n hx hb dX11_count_75 rfl (lv_at hl 1 rfl) ?_
            refine gf_X11_247 C hH dX11_count_76 ?_
            exact E_int C hr hH h dX11_count_79
          · replace h := if_f h c9
            by_cases c19 : a1 = (5 : Int32)
            · replace h := if_t h c19
              refine r_tabI C (k := 5) (off := 73) (tgt := 80) dX11_count_7 c19 (by decide) ?_
              refine lv_aload_n hx hb dX11_count_80 rfl (lv_at hl 1 rfl) ?_
              refine lv_aload_n hx hb dX11_count_81 rfl (lv_at hl 1 rfl) ?_
              refine gf_X11_108 C hH dX11_count_82 ?_
              obtain ⟨S11, hc10, h⟩ := bn_e h
              refine r_callV0 (ki := 10) (i := 0) (ci := 10) (As := [.int (S2.1 116 0 0)]) C hl.1 hH (c_X11_lives l g  hc10) q426 q5 q423 q424 q425 nd_X11_lives rfl (by decide) ⟨Nat.zero_le _, Nat.zero_le _⟩ (by decide) (by decide) ⟨_, rfl⟩ rfl (Nat.le_of_ble_eq_true rfl) dX11_count_85 (fun H locs hH => ?_)
              refine lv_iconst (v := (0 : Int32)) hx hb dX11_count_88 (by decide) ?_
              refine lv_istore_n (lv' := [(3, .int (0 : Int32)), (2, .int (0 : Int32)), (0, .ref (gad g 10 0)), (1, .int a1)]) hx hb dX11_count_89 rfl hl (by decide) rfl (fun ls hl => ?_)
              exact w_X11_count_90 C hr   _ _ _ _ _ _ hH (lv_sub hl [2, 1, 0] rfl) h
            · replace h := if_f h c19
              by_cases c23 : a1 = (6 : Int32)
              · replace h := if_t h c23
                refine r_tabI C (k := 6) (off := 108) (tgt := 115) dX11_count_7 c23 (by decide) ?_
                refine lv_aload_n hx hb dX11_count_115 rfl (lv_at hl 1 rfl) ?_
                obtain ⟨r21, S22, hc20, h⟩ := bn2_e h
                refine r_callV1 (ki := 10) (i := 0) (ci := 10) (As := []) C hl.1 hH (c_X11_working l g  hc20) q1064 q5 q1061 q1062 q1063 nd_X11_working rfl (by decide) ⟨Nat.zero_le _, Nat.zero_le _⟩ (by decide) (by decide) ⟨_, rfl⟩ rfl (Nat.le_of_ble_eq_true rfl) dX11_count_116 (fun H locs hH => ?_)
                exact E_int C hr hH h dX11_count_119
              · replace h := if_f h c23
                by_cases c25 : a1 = (7 : Int32)
                · replace h := if_t h c25
                  refine r_tabI C (k := 7) (off := 113) (tgt := 120) dX11_count_7 c25 (by decide) ?_
                  refine lv_aload_n hx hb dX11_count_120 rfl (lv_at hl 1 rfl) ?_
                  refine gf_X11_37 C hH dX11_count_121 ?_
                  refine lv_iconst (v := (2 : Int32)) hx hb dX11_count_124 (by decide) ?_
                  obtain ⟨hv24, h⟩ := ck_e h
                  refine r_ald C hH ka_42 (by decide) (by decide) (vi_in hv24) dX11_count_125 ?_
                  exact E_int C hr hH h dX11_count_126
                · replace h := if_f h c25
                  by_cases c26 : a1 = (8 : Int32)
                  · replace h := if_t h c26
                    refine r_tabI C (k := 8) (off := 120) (tgt := 127) dX11_count_7 c26 (by decide) ?_
                    refine lv_aload_n hx hb dX11_count_127 rfl (lv_at hl 1 rfl) ?_
                    refine gf_X11_62 C hH dX11_count_128 ?_
                    exact E_int C hr hH h dX11_count_131
                  · replace h := if_f h c26
                    have nc3 := ne_toInt (k := 0) c3 (by decide)
                    have nc4 := ne_toInt (k := 1) c4 (by decide)
                    have nc6 := ne_toInt (k := 2) c6 (by decide)
                    have nc8 := ne_toInt (k := 3) c8 (by decide)
                    have nc9 := ne_toInt (k := 4) c9 (by decide)
                    have nc19 := ne_toInt (k := 5) c19 (by decide)
                    have nc23 := ne_toInt (k := 6) c23 (by decide)
                    have nc25 := ne_toInt (k := 7) c25 (by decide)
                    have nc26 := ne_toInt (k := 8) c26 (by decide)
                    refine lv_tableOut (tgt := 132) hx hb dX11_count_7 (by omega) (by decide) ?_
                    refine lv_bipush (v := (-2 : Int32)) hx hb dX11_count_132 (by decide) ?_
                    exact E_int C hr hH h dX11_count_134
theorem c_X11_count (l : Launch) (g : gT) {a1 : Int32}  {S : sT} {r : Int32} {S1 : sT} (h : f_X11_count a1 S = some (r, S1)) : MF l yX11_count cX11_count 4 (some .int) 6 g [.ref (gad g 10 0), .int a1] S (some (.int r)) S1 := by
  refine MF.of (own := RX11) rfl rfl (Nat.le_of_ble_eq_true rfl) ?_
  intro p e s m below meth c C hr hH ls hl
  exact w_X11_count C hr (o := (r, S1))  hH hl h
theorem nd_X11_tellsColumn : yX11_tellsColumn.cls ≠ "java/lang/invoke/MethodHandle" ∧ yX11_tellsColumn.cls ≠ "java/lang/invoke/VarHandle" ∧ (parseMethodDescriptor yX11_tellsColumn.desc).map (fun d => d.parameters.length) = some 3 := by decide +kernel
def f_X11_tellsColumn (a1 : Int64) (a2 : Int32) (a3 : Int32) (S : sT) : Option (Int64 × sT) :=
 bn2 (f_X11_heightOf a2 a3 S) (fun r2 S3 =>
 lt (((31 : Int64) * a1) + ((r2).toInt64)) (fun x4 =>
 bn (f_X11_leanOf a3 S3) (fun r6 =>
 lt (((31 : Int64) * x4) + ((r6).toInt64)) (fun x7 =>
 bn2 (f_X11_stoneBehind a2 a3 (-1 : Int32) S3) (fun r9 S10 =>
 lt (((31 : Int64) * x7) + ((r9).toInt64)) (fun x11 =>
 bn2 (f_X11_stoneBehind a2 a3 (0 : Int32) S10) (fun r13 S14 =>
 some ((((31 : Int64) * x11) + ((r13).toInt64)), S14))))))))
set_option maxHeartbeats 4000000 in
set_option maxRecDepth 100000 in
theorem w_X11_tellsColumn (C : Cx p s m args meth c cX11_tellsColumn 7 RX11 g) (hr : meth.sig.returnType = (some .long)) {o : Int64 × sT} {a1 : Int64} {a2 : Int32} {a3 : Int32}  {S : sT} {H : Heap} {locs : List Loc} {ls : Array Slot} (hH : Hp g s S H locs) (hl : lv_has ls 7 [(0, .ref (gad g 10 0)), (1, .long a1), (3, .int a2), (4, .int a3)]) (h : f_X11_tellsColumn a1 a2 a3 S = some o) : W p l e (rmL 6) s m args below meth c H locs 0 0 (Qm g below args s (some (.long o.1)) o.2) (F0 m 0 ls []) := by
  obtain ⟨hx, hb, hml, hown, hts, hlk, hK⟩ := id C
  unfold f_X11_tellsColumn at h
  refine lv_ldc2 (v := (31 : Int64)) hx hb hown (hts _ q1106) dX11_tellsColumn_0 ?_
  refine lv_lload_n hx hb dX11_tellsColumn_3 rfl (lv_at hl 1 rfl) ?_
  refine lv_lmul hx hb dX11_tellsColumn_4 ?_
  refine lv_aload_n hx hb dX11_tellsColumn_5 rfl (lv_at hl 0 rfl) ?_
  refine lv_iload_n hx hb dX11_tellsColumn_6 rfl (lv_at hl 2 rfl) ?_
  refine lv_iload hx hb dX11_tellsColumn_7 (lv_at hl 3 rfl) ?_
  obtain ⟨r2, S3, hc1, h⟩ := bn2_e h
  refine r_callV1 (ki := 10) (i := 0) (ci := 10) (As := [.int a2, .int a3]) C hl.1 hH (c_X11_heightOf l g  hc1) q422 q5 q419 q420 q421 nd_X11_heightOf rfl (by decide) ⟨Nat.zero_le _, Nat.zero_le _⟩ (by decide) (by decide) ⟨_, rfl⟩ rfl (Nat.le_of_ble_eq_true rfl) dX11_tellsColumn_9 (fun H locs hH => ?_)
  refine lv_i2l hx hb dX11_tellsColumn_12 rfl ?_
  refine lv_ladd hx hb dX11_tellsColumn_13 ?_
  refine lv_topl (fun x4 ex4 => ?_)
  replace h := lt_e h ex4
  refine lv_lstore (lv' := [(5, .long x4), (0, .ref (gad g 10 0)), (1, .long a1), (3, .int a2), (4, .int a3)]) hx hb dX11_tellsColumn_14 hl (by decide) rfl (fun ls hl => ?_)
  refine lv_ldc2 (v := (31 : Int64)) hx hb hown (hts _ q1106) dX11_tellsColumn_16 ?_
  refine lv_lload hx hb dX11_tellsColumn_19 (lv_at hl 0 rfl) ?_
  refine lv_lmul hx hb dX11_tellsColumn_21 ?_
  refine lv_aload_n hx hb dX11_tellsColumn_22 rfl (lv_at hl 1 rfl) ?_
  refine lv_iload hx hb dX11_tellsColumn_23 (lv_at hl 4 rfl) ?_
  obtain ⟨r6, hc5, h⟩ := bn_e h
  refine r_callV1 (ki := 10) (i := 0) (ci := 10) (As := [.int a3]) C hl.1 hH (c_X11_leanOf l g  hc5) q476 q5 q473 q474 q475 nd_X11_leanOf rfl (by decide) ⟨Nat.zero_le _, Nat.zero_le _⟩ (by decide) (by decide) ⟨_, rfl⟩ rfl (Nat.le_of_ble_eq_true rfl) dX11_tellsColumn_25 (fun H locs hH => ?_)
  refine lv_i2l hx hb dX11_tellsColumn_28 rfl ?_
  refine lv_ladd hx hb dX11_tellsColumn_29 ?_
  refine lv_topl (fun x7 ex7 => ?_)
  replace h := lt_e h ex7
  refine lv_lstore (lv' := [(5, .long x7), (0, .ref (gad g 10 0)), (1, .long a1), (3, .int a2), (4, .int a3)]) hx hb dX11_tellsColumn_30 hl (by decide) rfl (fun ls hl => ?_)
  refine lv_ldc2 (v := (31 : Int64)) hx hb hown (hts _ q1106) dX11_tellsColumn_32 ?_
  refine lv_lload hx hb dX11_tellsColumn_35 (lv_at hl 0 rfl) ?_
  refine lv_lmul hx hb dX11_tellsColumn_37 ?_
  refine lv_aload_n hx hb dX11_tellsColumn_38 rfl (lv_at hl 1 rfl) ?_
  refine lv_iload_n hx hb dX11_tellsColumn_39 rfl (lv_at hl 3 rfl) ?_
  refine lv_iload hx hb dX11_tellsColumn_40 (lv_at hl 4 rfl) ?_
  refine lv_iconst (v := (-1 : Int32)) hx hb dX11_tellsColumn_42 (by decide) ?_
  obtain ⟨r9, S10, hc8, h⟩ := bn2_e h
  refine r_callV1 (ki := 10) (i := 0) (ci := 10) (As := [.int a2, .int a3, .int (-1 : Int32)]) C hl.1 hH (c_X11_stoneBehind l g  hc8) q499 q5 q496 q497 q498 nd_X11_stoneBehind rfl (by decide) ⟨Nat.zero_le _, Nat.zero_le _⟩ (by decide) (by decide) ⟨_, rfl⟩ rfl (Nat.le_of_ble_eq_true rfl) dX11_tellsColumn_43 (fun H locs hH => ?_)
  refine lv_i2l hx hb dX11_tellsColumn_46 rfl ?_
  refine lv_ladd hx hb dX11_tellsColumn_47 ?_
  refine lv_topl (fun x11 ex11 => ?_)
  replace h := lt_e h ex11
  refine lv_lstore (lv' := [(5, .long x11), (0, .ref (gad g 10 0)), (1, .long a1), (3, .int a2), (4, .int a3)]) hx hb dX11_tellsColumn_48 hl (by decide) rfl (fun ls hl => ?_)
  refine lv_ldc2 (v := (31 : Int64)) hx hb hown (hts _ q1106) dX11_tellsColumn_50 ?_
  refine lv_lload hx hb dX11_tellsColumn_53 (lv_at hl 0 rfl) ?_
  refine lv_lmul hx hb dX11_tellsColumn_55 ?_
  refine lv_aload_n hx hb dX11_tellsColumn_56 rfl (lv_at hl 1 rfl) ?_
  refine lv_iload_n hx hb dX11_tellsColumn_57 rfl (lv_at hl 3 rfl) ?_
  refine lv_iload hx hb dX11_tellsColumn_58 (lv_at hl 4 rfl) ?_
  refine lv_iconst (v := (0 : Int32)) hx hb dX11_tellsColumn_60 (by decide) ?_
  obtain ⟨r13, S14, hc12, h⟩ := bn2_e h
  refine r_callV1 (ki := 10) (i := 0) (ci := 10) (As := [.int a2, .int a3, .int (0 : Int32)]) C hl.1 hH (c_X11_stoneBehind l g  hc12) q499 q5 q496 q497 q498 nd_X11_stoneBehind rfl (by decide) ⟨Nat.zero_le _, Nat.zero_le _⟩ (by decide) (by decide) ⟨_, rfl⟩ rfl (Nat.le_of_ble_eq_true rfl) dX11_tellsColumn_61 (fun H locs hH => ?_)
  refine lv_i2l hx hb dX11_tellsColumn_64 rfl ?_
  refine lv_ladd hx hb dX11_tellsColumn_65 ?_
  exact E_long C hr hH h dX11_tellsColumn_66
theorem c_X11_tellsColumn (l : Launch) (g : gT) {a1 : Int64} {a2 : Int32} {a3 : Int32}  {S : sT} {r : Int64} {S1 : sT} (h : f_X11_tellsColumn a1 a2 a3 S = some (r, S1)) : MF l yX11_tellsColumn cX11_tellsColumn 7 (some .long) 6 g [.ref (gad g 10 0), .long a1, .int a2, .int a3] S (some (.long r)) S1 := by
  refine MF.of (own := RX11) rfl rfl (Nat.le_of_ble_eq_true rfl) ?_
  intro p e s m below meth c C hr hH ls hl
  exact w_X11_tellsColumn C hr (o := (r, S1))  hH hl h
theorem nd_X11_digest : yX11_digest.cls ≠ "java/lang/invoke/MethodHandle" ∧ yX11_digest.cls ≠ "java/lang/invoke/VarHandle" ∧ (parseMethodDescriptor yX11_digest.desc).map (fun d => d.parameters.length) = some 0 := by decide +kernel
def b_X11_digest_345 (j68 : Int64 → sT → Option (Int64 × sT)) (x69 : Int64) (x70 : Int32) (S71 : sT) (k72 : Int64 → Int32 → sT → Option (Int64 × sT)) : Option (Int64 × sT) :=
 (if (3 : Int32) ≤ x70 then
 j68 x69 S71
 else
 bn2 (f_X11_whoBy x70 S71) (fun r74 S75 =>
 lt (((31 : Int64) * x69) + ((r74).toInt64)) (fun x76 =>
 lt (x70 + (1 : Int32)) (fun x77 =>
 k72 x76 x77 S75))))
def l_X11_digest_345 (j68 : Int64 → sT → Option (Int64 × sT)) : Nat → Int64 → Int32 → sT → Option (Int64 × sT)
 | 0, _, _, _ => none
 | n + 1, x69, x70, S71 => b_X11_digest_345 j68 x69 x70 S71 (l_X11_digest_345 j68 n)
theorem l_X11_digest_345_s (j68 : Int64 → sT → Option (Int64 × sT)) (n : Nat) (x69 : Int64) (x70 : Int32) (S71 : sT) : l_X11_digest_345 j68 (n + 1) x69 x70 S71 = b_X11_digest_345 j68 x69 x70 S71 (l_X11_digest_345 j68 n) := rfl
def b_X11_digest_190 (j79 : Int64 → sT → Option (Int64 × sT)) (x80 : Int64) (x81 : Int32) (S82 : sT) (k83 : Int64 → Int32 → sT → Option (Int64 × sT)) : Option (Int64 × sT) :=
 (if (S82.1 115 0 0) ≤ x81 then
 j79 x80 S82
 else
 bn2 (f_X11_yearsOf (7 : Int32) (9 : Int32) x81 S82) (fun r85 S86 =>
 lt (((31 : Int64) * x80) + ((r85).toInt64)) (fun x87 =>
 lt (x81 + (1 : Int32)) (fun x88 =>
 k83 x87 x88 S86))))
def l_X11_digest_190 (j79 : Int64 → sT → Option (Int64 × sT)) : Nat → Int64 → Int32 → sT → Option (Int64 × sT)
 | 0, _, _, _ => none
 | n + 1, x80, x81, S82 => b_X11_digest_190 j79 x80 x81 S82 (l_X11_digest_190 j79 n)
theorem l_X11_digest_190_s (j79 : Int64 → sT → Option (Int64 × sT)) (n : Nat) (x80 : Int64) (x81 : Int32) (S82 : sT) : l_X11_digest_190 j79 (n + 1) x80 x81 S82 = b_X11_digest_190 j79 x80 x81 S82 (l_X11_digest_190 j79 n) := rfl
def b_X11_digest_144 (x92 : Int32) (j98 : Int64 → sT → Option (Int64 × sT)) (x99 : Int64) (x100 : Int32) (S101 : sT) (k102 : Int64 → Int32 → sT → Option (Int64 × sT)) : Option (Int64 × sT) :=
 (if (4 : Int32) ≤ x100 then
 j98 x99 S101
 else
 jn (fun (y103 : Int32) => bn2 (f_X11_behindOf y103 x100 S101) (fun r105 S106 =>
 lt (((31 : Int64) * x99) + ((r105).toInt64)) (fun x107 =>
 lt (x100 + (1 : Int32)) (fun x108 =>
 k102 x107 x108 S106))))
 (fun j109 => (if x92 = (0 : Int32) then
 j109 (0 : Int32)
 else
 j109 (S101.1 116 0 0))))
def l_X11_digest_144 (x92 : Int32) (j98 : Int64 → sT → Option (Int64 × sT)) : Nat → Int64 → Int32 → sT → Option (Int64 × sT)
 | 0, _, _, _ => none
 | n + 1, x99, x100, S101 => b_X11_digest_144 x92 j98 x99 x100 S101 (l_X11_digest_144 x92 j98 n)
theorem l_X11_digest_144_s (x92 : Int32) (j98 : Int64 → sT → Option (Int64 × sT)) (n : Nat) (x99 : Int64) (x100 : Int32) (S101 : sT) : l_X11_digest_144 x92 j98 (n + 1) x99 x100 S101 = b_X11_digest_144 x92 j98 x99 x100 S101 (l_X11_digest_144 x92 j98 n) := rfl
def b_X11_digest_136 (j90 : Int64 → sT → Option (Int64 × sT)) (x91 : Int64) (x92 : Int32) (S93 : sT) (k94 : Int64 → Int32 → sT → Option (Int64 × sT)) : Option (Int64 × sT) :=
 (if (2 : Int32) ≤ x92 then
 j90 x91 S93
 else
 jn (fun (x95 : Int64) (S96 : sT) => lt (x92 + (1 : Int32)) (fun x97 =>
 k94 x95 x97 S96))
 (fun j98 => l_X11_digest_144 x92 j98 FU x91 (0 : Int32) S93))
def l_X11_digest_136 (j90 : Int64 → sT → Option (Int64 × sT)) : Nat → Int64 → Int32 → sT → Option (Int64 × sT)
 | 0, _, _, _ => none
 | n + 1, x91, x92, S93 => b_X11_digest_136 j90 x91 x92 S93 (l_X11_digest_136 j90 n)
theorem l_X11_digest_136_s (j90 : Int64 → sT → Option (Int64 × sT)) (n : Nat) (x91 : Int64) (x92 : Int32) (S93 : sT) : l_X11_digest_136 j90 (n + 1) x91 x92 S93 = b_X11_digest_136 j90 x91 x92 S93 (l_X11_digest_136 j90 n) := rfl
def b_X11_digest_101 (x115 : Int32) (j121 : Int64 → sT → Option (Int64 × sT)) (x122 : Int64) (x123 : Int32) (S124 : sT) (k125 : Int64 → Int32 → sT → Option (Int64 × sT)) : Option (Int64 × sT) :=
 (if (3 : Int32) ≤ x123 then
 j121 x122 S124
 else
 bn2 (f_X11_turnOf x115 x123 S124) (fun r127 S128 =>
 lt (((31 : Int64) * x122) + ((r127).toInt64)) (fun x129 =>
 lt (x123 + (1 : Int32)) (fun x130 =>
 k125 x129 x130 S128))))
def l_X11_digest_101 (x115 : Int32) (j121 : Int64 → sT → Option (Int64 × sT)) : Nat → Int64 → Int32 → sT → Option (Int64 × sT)
 | 0, _, _, _ => none
 | n + 1, x122, x123, S124 => b_X11_digest_101 x115 j121 x122 x123 S124 (l_X11_digest_101 x115 j121 n)
theorem l_X11_digest_101_s (x115 : Int32) (j121 : Int64 → sT → Option (Int64 × sT)) (n : Nat) (x122 : Int64) (x123 : Int32) (S124 : sT) : l_X11_digest_101 x115 j121 (n + 1) x122 x123 S124 = b_X11_digest_101 x115 j121 x122 x123 S124 (l_X11_digest_101 x115 j121 n) := rfl
def b_X11_digest_90 (j113 : Int64 → sT → Option (Int64 × sT)) (x114 : Int64) (x115 : Int32) (S116 : sT) (k117 : Int64 → Int32 → sT → Option (Int64 × sT)) : Option (Int64 × sT) :=
 (if (S116.1 116 0 0) ≤ x115 then
 j113 x114 S116
 else
 jn (fun (x118 : Int64) (S119 : sT) => lt (x115 + (1 : Int32)) (fun x120 =>
 k117 x118 x120 S119))
 (fun j121 => l_X11_digest_101 x115 j121 FU x114 (0 : Int32) S116))
def l_X11_digest_90 (j113 : Int64 → sT → Option (Int64 × sT)) : Nat → Int64 → Int32 → sT → Option (Int64 × sT)
 | 0, _, _, _ => none
 | n + 1, x114, x115, S116 => b_X11_digest_90 j113 x114 x115 S116 (l_X11_digest_90 j113 n)
theorem l_X11_digest_90_s (j113 : Int64 → sT → Option (Int64 × sT)) (n : Nat) (x114 : Int64) (x115 : Int32) (S116 : sT) : l_X11_digest_90 j113 (n + 1) x114 x115 S116 = b_X11_digest_90 j113 x114 x115 S116 (l_X11_digest_90 j113 n) := rfl
def b_X11_digest_57 (j133 : Int64 → sT → Option (Int64 × sT)) (x134 : Int64) (x135 : Int32) (S136 : sT) (k137 : Int64 → Int32 → sT → Option (Int64 × sT)) : Option (Int64 × sT) :=
 (if (S136.1 115 0 0) ≤ x135 then
 j133 x134 S136
 else
 bn2 (f_X11_tellsColumn x134 (0 : Int32) x135 S136) (fun r139 S140 =>
 bn2 (f_X11_tellsColumn r139 (S140.1 116 0 0) x135 S140) (fun r142 S143 =>
 lt (x135 + (1 : Int32)) (fun x144 =>
 k137 r142 x144 S143))))
def l_X11_digest_57 (j133 : Int64 → sT → Option (Int64 × sT)) : Nat → Int64 → Int32 → sT → Option (Int64 × sT)
 | 0, _, _, _ => none
 | n + 1, x134, x135, S136 => b_X11_digest_57 j133 x134 x135 S136 (l_X11_digest_57 j133 n)
theorem l_X11_digest_57_s (j133 : Int64 → sT → Option (Int64 × sT)) (n : Nat) (x134 : Int64) (x135 : Int32) (S136 : sT) : l_X11_digest_57 j133 (n + 1) x134 x135 S136 = b_X11_digest_57 j133 x134 x135 S136 (l_X11_digest_57 j133 n) := rfl
def b_X11_digest_6 (j146 : Int64 → sT → Option (Int64 × sT)) (x147 : Int64) (x148 : Int32) (S149 : sT) (k150 : Int64 → Int32 → sT → Option (Int64 × sT)) : Option (Int64 × sT) :=
 (if (8 : Int32) ≤ x148 then
 j146 x147 S149
 else
 bn2 (f_X11_count x148 S149) (fun r152 S153 =>
 lt (((31 : Int64) * x147) + ((r152).toInt64)) (fun x154 =>
 lt (x148 + (1 : Int32)) (fun x155 =>
 k150 x154 x155 S153))))
def l_X11_digest_6 (j146 : Int64 → sT → Option (Int64 × sT)) : Nat → Int64 → Int32 → sT → Option (Int64 × sT)
 | 0, _, _, _ => none
 | n + 1, x147, x148, S149 => b_X11_digest_6 j146 x147 x148 S149 (l_X11_digest_6 j146 n)
theorem l_X11_digest_6_s (j146 : Int64 → sT → Option (Int64 × sT)) (n : Nat) (x147 : Int64) (x148 : Int32) (S149 : sT) : l_X11_digest_6 j146 (n + 1) x147 x148 S149 = b_X11_digest_6 j146 x147 x148 S149 (l_X11_digest_6 j146 n) := rfl
def f_X11_digest  (S : sT) : Option (Int64 × sT) :=
 jn (fun (x1 : Int64) (S2 : sT) => bn2 (f_X11_readsWall  S2) (fun r4 S5 =>
 lt (((31 : Int64) * x1) + ((r4).toInt64)) (fun x6 =>
 bn2 (f_X11_readsTurns  S5) (fun r8 S9 =>
 lt (((31 : Int64) * x6) + ((r8).toInt64)) (fun x10 =>
 jn (fun (x11 : Int64) (S12 : sT) => jn (fun (x13 : Int64) (S14 : sT) => jn (fun (x15 : Int64) (S16 : sT) => jn (fun (x17 : Int64) (S18 : sT) => bn2 (f_X11_firstOf (0 : Int32) S18) (fun r20 S21 =>
 lt (((31 : Int64) * x17) + ((r20).toInt64)) (fun x22 =>
 bn2 (f_X11_firstOf (1 : Int32) S21) (fun r24 S25 =>
 lt (((31 : Int64) * x22) + ((r24).toInt64)) (fun x26 =>
 bn2 (f_X11_highestNow  S25) (fun r28 S29 =>
 lt (((31 : Int64) * x26) + ((r28).toInt64)) (fun x30 =>
 bn2 (f_X11_planOf (-1 : Int32) (-1 : Int32) S29) (fun r32 S33 =>
 lt (((31 : Int64) * x30) + ((r32).toInt64)) (fun x34 =>
 bn2 (f_X11_planOf (-1 : Int32) (0 : Int32) S33) (fun r36 S37 =>
 lt (((31 : Int64) * x34) + ((r36).toInt64)) (fun x38 =>
 bn2 (f_X11_planOf (3 : Int32) (-1 : Int32) S37) (fun r40 S41 =>
 lt (((31 : Int64) * x38) + ((r40).toInt64)) (fun x42 =>
 bn2 (f_X11_planOf (3 : Int32) (0 : Int32) S41) (fun r44 S45 =>
 lt (((31 : Int64) * x42) + ((r44).toInt64)) (fun x46 =>
 bn2 (f_X11_sidesOf (2 : Int32) (0 : Int32) S45) (fun r48 S49 =>
 lt (((31 : Int64) * x46) + ((r48).toInt64)) (fun x50 =>
 bn2 (f_X11_sidesOf (2 : Int32) (1 : Int32) S49) (fun r52 S53 =>
 lt (((31 : Int64) * x50) + ((r52).toInt64)) (fun x54 =>
 jn (fun (x55 : Int64) (S56 : sT) => bn2 (f_X11_frostOf (5 : Int32) (0 : Int32) S56) (fun r58 S59 =>
 lt (((31 : Int64) * x55) + r58) (fun x60 =>
 bn2 (f_X11_frostOf (5 : Int32) (1 : Int32) S59) (fun r62 S63 =>
 lt (((31 : Int64) * x60) + r62) (fun x64 =>
 bn2 (f_X11_years (7 : Int32) (9 : Int32) (-1 : Int32) S63) (fun r66 S67 =>
 some ((((31 : Int64) * x64) + ((r66).toInt64)), S67)))))))
 (fun j68 => l_X11_digest_345 j68 FU x54 (0 : Int32) S53))))))))))))))))))))
 (fun j79 => l_X11_digest_190 j79 FU x15 (0 : Int32) S16))
 (fun j90 => l_X11_digest_136 j90 FU x13 (0 : Int32) S14))
 (fun j113 => l_X11_digest_90 j113 FU x11 (0 : Int32) S12))
 (fun j133 => l_X11_digest_57 j133 FU x10 (0 : Int32) S9))))))
 (fun j146 => l_X11_digest_6 j146 FU (17 : Int64) (0 : Int32) S)
set_option maxHeartbeats 4000000 in
set_option maxRecDepth 100000 in
theorem w_X11_digest_345 (C : Cx p s m args meth c cX11_digest 5 RX11 g) (hr : meth.sig.returnType = (some .long)) {o : Int64 × sT}    (j68 : Int64 → sT → Option (Int64 × sT)) (hj68 : ∀ (x55 : Int64) (S56 : sT) (H : Heap) (locs : List Loc) (ls : Array Slot), Hp g s S56 H locs → lv_has ls 5 [(0, .ref (gad g 10 0)), (1, .long x55)] → j68 x55 S56 = some o → W p l e (rmL 8) s m args below meth c H locs 0 0 (Qm g below args s (some (.long o.1)) o.2) (F0 m 369 ls [])) : ∀ (n : Nat) (x69 : Int64) (x70 : Int32) (S71 : sT) (H : Heap) (locs : List Loc) (ls : Array Slot), Hp g s S71 H locs → lv_has ls 5 [(0, .ref (gad g 10 0)), (1, .long x69), (3, .int x70)] → l_X11_digest_345 j68 n x69 x70 S71 = some o → W p l e (rmL 8) s m args below meth c H locs 0 0 (Qm g below args s (some (.long o.1)) o.2) (F0 m 345 ls []) := by
  obtain ⟨hx, hb, hml, hown, hts, hlk, hK⟩ := id C
  intro n
  induction n with
  | zero =>
    intro x69 x70 S71 H locs ls hH hl h
    cases h
  | succ n ih =>
    intro x69 x70 S71 H locs ls hH hl h
    rw [l_X11_digest_345_s] at h
    unfold b_X11_digest_345 at h
    refine lv_iload_n hx hb dX11_digest_345 rfl (lv_at hl 2 rfl) ?_
    refine lv_iconst (v := (3 : Int32)) hx hb dX11_digest_346 (by decide) ?_
    refine lv_icmp_ge (tgt := 369) hx hb dX11_digest_347 (by decide) (fun c78 => ?_) (fun c78 => ?_)
    · replace h := if_t h c78
      exact hj68 _ _ _ _ _ hH (lv_sub hl [0, 1] rfl) h
    · replace h := if_f h c78
      refine lv_ldc2 (v := (31 : Int64)) hx hb hown (hts _ q1106) dX11_digest_350 ?_
      refine lv_lload_n hx hb dX11_digest_353 rfl (lv_at hl 1 rfl) ?_
      refine lv_lmul hx hb dX11_digest_354 ?_
      refine lv_aload_n hx hb dX11_digest_355 rfl (lv_at hl 0 rfl) ?_
      refine lv_iload_n hx hb dX11_digest_356 rfl (lv_at hl 2 rfl) ?_
      obtain ⟨r74, S75, hc73, h⟩ := bn2_e h
      refine r_callV1 (ki := 10) (i := 0) (ci := 10) (As := [.int x70]) C hl.1 hH (c_X11_whoBy l g  hc73) q845 q5 q842 q843 q844 nd_X11_whoBy rfl (by decide) ⟨Nat.zero_le _, Nat.zero_le _⟩ (by decide) (by decide) ⟨_, rfl⟩ rfl (Nat.le_of_ble_eq_true rfl) dX11_digest_357 (fun H locs hH => ?_)
      refine lv_i2l hx hb dX11_digest_360 rfl ?_
      refine lv_ladd hx hb dX11_digest_361 ?_
      refine lv_topl (fun x76 ex76 => ?_)
      replace h := lt_e h ex76
      refine lv_lstore_n (lv' := [(1, .long x76), (0, .ref (gad g 10 0)), (3, .int x70)]) hx hb dX11_digest_362 rfl hl (by decide) rfl (fun ls hl => ?_)
      obtain ⟨x77, ex77⟩ : ∃ z : Int32, z = (x70 + (1 : Int32)) := ⟨_, rfl⟩
      replace h := lt_e h ex77
      refine lv_iinc (v := x77) (lv' := [(3, .int x77), (1, .long x76), (0, .ref (gad g 10 0))]) hx hb dX11_digest_363 hl (k := 2) rfl (by rw [ex77]; rfl) (by decide) rfl (fun ls hl => ?_)
      refine lv_goto (tgt := 345) hx hb dX11_digest_366 (by decide) ?_
      exact ih _ _ _ _ _ _ hH (lv_sub hl [2, 1, 0] rfl) h
set_option maxHeartbeats 4000000 in
set_option maxRecDepth 100000 in
theorem w_X11_digest_190 (C : Cx p s m args meth c cX11_digest 5 RX11 g) (hr : meth.sig.returnType = (some .long)) {o : Int64 × sT}    (j79 : Int64 → sT → Option (Int64 × sT)) (hj79 : ∀ (x17 : Int64) (S18 : sT) (H : Heap) (locs : List Loc) (ls : Array Slot), Hp g s S18 H locs → lv_has ls 5 [(0, .ref (gad g 10 0)), (1, .long x17)] → j79 x17 S18 = some o → W p l e (rmL 8) s m args below meth c H locs 0 0 (Qm g below args s (some (.long o.1)) o.2) (F0 m 221 ls [])) : ∀ (n : Nat) (x80 : Int64) (x81 : Int32) (S82 : sT) (H : Heap) (locs : List Loc) (ls : Array Slot), Hp g s S82 H locs → lv_has ls 5 [(0, .ref (gad g 10 0)), (1, .long x80), (3, .int x81)] → l_X11_digest_190 j79 n x80 x81 S82 = some o → W p l e (rmL 8) s m args below meth c H locs 0 0 (Qm g below args s (some (.long o.1)) o.2) (F0 m 190 ls []) := by
  obtain ⟨hx, hb, hml, hown, hts, hlk, hK⟩ := id C
  intro n
  induction n with
  | zero =>
    intro x80 x81 S82 H locs ls hH hl h
    cases h
  | succ n ih =>
    intro x80 x81 S82 H locs ls hH hl h
    rw [l_X11_digest_190_s] at h
    unfold b_X11_digest_190 at h
    refine lv_iload_n hx hb dX11_digest_190 rfl (lv_at hl 2 rfl) ?_
    refine lv_aload_n hx hb dX11_digest_191 rfl (lv_at hl 0 rfl) ?_
    refine gf_X11_91 C hH dX11_digest_192 ?_
    refine lv_icmp_ge (tgt := 221) hx hb dX11_digest_195 (by decide) (fun c89 => ?_) (fun c89 => ?_)
    · replace h := if_t h c89
      exact hj79 _ _ _ _ _ hH (lv_sub hl [0, 1] rfl) h
    · replace h := if_f h c89
      refine lv_ldc2 (v := (31 : Int64)) hx hb hown (hts _ q1106) dX11_digest_198 ?_
      refine lv_lload_n hx hb dX11_digest_201 rfl (lv_at hl 1 rfl) ?_
      refine lv_lmul hx hb dX11_digest_202 ?_
      refine lv_aload_n hx hb dX11_digest_203 rfl (lv_at hl 0 rfl) ?_
      refine lv_bipush (v := (7 : Int32)) hx hb dX11_digest_204 (by decide) ?_
      refine lv_bipush (v := (9 : Int32)) hx hb dX11_digest_206 (by decide) ?_
      refine lv_iload_n hx hb dX11_digest_208 rfl (lv_at hl 2 rfl) ?_
      obtain ⟨r85, S86, hc84, h⟩ := bn2_e h
      refine r_callV1 (ki := 10) (i := 0) (ci := 10) (As := [.int (7 : Int32), .int (9 : Int32), .int x81]) C hl.1 hH (c_X11_yearsOf l g  hc84) q933 q5 q930 q931 q932 nd_X11_yearsOf rfl (by decide) ⟨Nat.zero_le _, Nat.zero_le _⟩ (by decide) (by decide) ⟨_, rfl⟩ rfl (Nat.le_of_ble_eq_true rfl) dX11_digest_209 (fun H locs hH => ?_)
      refine lv_i2l hx hb dX11_digest_212 rfl ?_
      refine lv_ladd hx hb dX11_digest_213 ?_
      refine lv_topl (fun x87 ex87 => ?_)
      replace h := lt_e h ex87
      refine lv_lstore_n (lv' := [(1, .long x87), (0, .ref (gad g 10 0)), (3, .int x81)]) hx hb dX11_digest_214 rfl hl (by decide) rfl (fun ls hl => ?_)
      obtain ⟨x88, ex88⟩ : ∃ z : Int32, z = (x81 + (1 : Int32)) := ⟨_, rfl⟩
      replace h := lt_e h ex88
      refine lv_iinc (v := x88) (lv' := [(3, .int x88), (1, .long x87), (0, .ref (gad g 10 0))]) hx hb dX11_digest_215 hl (k := 2) rfl (by rw [ex88]; rfl) (by decide) rfl (fun ls hl => ?_)
      refine lv_goto (tgt := 190) hx hb dX11_digest_218 (by decide) ?_
      exact ih _ _ _ _ _ _ hH (lv_sub hl [2, 1, 0] rfl) h
set_option maxHeartbeats 4000000 in
set_option maxRecDepth 100000 in
theorem w_X11_digest_144 (C : Cx p s m args meth c cX11_digest 5 RX11 g) (hr : meth.sig.returnType = (some .long)) {o : Int64 × sT}  {x92 : Int32}  (j98 : Int64 → sT → Option (Int64 × sT)) (hj98 : ∀ (x95 : Int64) (S96 : sT) (H : Heap) (locs : List Loc) (ls : Array Slot), Hp g s S96 H locs → lv_has ls 5 [(0, .ref (gad g 10 0)), (1, .long x95), (3, .int x92)] → j98 x95 S96 = some o → W p l e (rmL 8) s m args below meth c H locs 0 0 (Qm g below args s (some (.long o.1)) o.2) (F0 m 182 ls [])) : ∀ (n : Nat) (x99 : Int64) (x100 : Int32) (S101 : sT) (H : Heap) (locs : List Loc) (ls : Array Slot), Hp g s S101 H locs → lv_has ls 5 [(0, .ref (gad g 10 0)), (1, .long x99), (3, .int x92), (4, .int x100)] → l_X11_digest_144 x92 j98 n x99 x100 S101 = some o → W p l e (rmL 8) s m args below meth c H locs 0 0 (Qm g below args s (some (.long o.1)) o.2) (F0 m 144 ls []) := by
  obtain ⟨hx, hb, hml, hown, hts, hlk, hK⟩ := id C
  intro n
  induction n with
  | zero =>
    intro x99 x100 S101 H locs ls hH hl h
    cases h
  | succ n ih =>
    intro x99 x100 S101 H locs ls hH hl h
    rw [l_X11_digest_144_s] at h
    unfold b_X11_digest_144 at h
    refine lv_iload hx hb dX11_digest_144 (lv_at hl 3 rfl) ?_
    refine lv_iconst (v := (4 : Int32)) hx hb dX11_digest_146 (by decide) ?_
    refine lv_icmp_ge (tgt := 182) hx hb dX11_digest_147 (by decide) (fun c111 => ?_) (fun c111 => ?_)
    · replace h := if_t h c111
      exact hj98 _ _ _ _ _ hH (lv_sub hl [0, 1, 2] rfl) h
    · replace h := if_f h c111
      refine lv_ldc2 (v := (31 : Int64)) hx hb hown (hts _ q1106) dX11_digest_150 ?_
      refine lv_lload_n hx hb dX11_digest_153 rfl (lv_at hl 1 rfl) ?_
      refine lv_lmul hx hb dX11_digest_154 ?_
      refine lv_aload_n hx hb dX11_digest_155 rfl (lv_at hl 0 rfl) ?_
      refine lv_iload_n hx hb dX11_digest_156 rfl (lv_at hl 2 rfl) ?_
      obtain ⟨j109, ej109, h⟩ := jn_e h
      have hj109 : ∀ (y103 : Int32) (H : Heap) (locs : List Loc) (ls : Array Slot), Hp g s S101 H locs → lv_has ls 5 [(0, .ref (gad g 10 0)), (3, .int x92), (4, .int x100)] → j109 y103 = some o → W p l e (rmL 8) s m args below meth c H locs 0 0 (Qm g below args s (some (.long o.1)) o.2) (F0 m 168 ls [.int y103, .ref (gad g 10 0), .long ((31 : Int64) * x99)]) := by
        intro y103 H locs ls hH hl h
        rw [ej109] at h
        try dsimp only at h
        refine lv_iload hx hb dX11_digest_168 (lv_at hl 2 rfl) ?_
        obtain ⟨r105, S106, hc104, h⟩ := bn2_e h
        refine r_callV1 (ki := 10) (i := 0) (ci := 10) (As := [.int y103, .int x100]) C hl.1 hH (c_X11_behindOf l g  hc104) q545 q5 q542 q543 q544 nd_X11_behindOf rfl (by decide) ⟨Nat.zero_le _, Nat.zero_le _⟩ (by decide) (by decide) ⟨_, rfl⟩ rfl (Nat.le_of_ble_eq_true rfl) dX11_digest_170 (fun H locs hH => ?_)
        refine lv_i2l hx hb dX11_digest_173 rfl ?_
        refine lv_ladd hx hb dX11_digest_174 ?_
        refine lv_topl (fun x107 ex107 => ?_)
        replace h := lt_e h ex107
        refine lv_lstore_n (lv' := [(1, .long x107), (0, .ref (gad g 10 0)), (3, .int x92), (4, .int x100)]) hx hb dX11_digest_175 rfl hl (by decide) rfl (fun ls hl => ?_)
        obtain ⟨x108, ex108⟩ : ∃ z : Int32, z = (x100 + (1 : Int32)) := ⟨_, rfl⟩
        replace h := lt_e h ex108
        refine lv_iinc (v := x108) (lv' := [(4, .int x108), (1, .long x107), (0, .ref (gad g 10 0)), (3, .int x92)]) hx hb dX11_digest_176 hl (k := 3) rfl (by rw [ex108]; rfl) (by decide) rfl (fun ls hl => ?_)
        refine lv_goto (tgt := 144) hx hb dX11_digest_179 (by decide) ?_
        exact ih _ _ _ _ _ _ hH (lv_sub hl [2, 1, 3, 0] rfl) h
      clear ej109
      refine lv_if_ne (tgt := 164) hx hb dX11_digest_157 (by decide) (fun c110 => ?_) (fun c110 => ?_)
      · replace h := if_f h c110
        refine lv_aload_n hx hb dX11_digest_164 rfl (lv_at hl 0 rfl) ?_
        refine gf_X11_108 C hH dX11_digest_165 ?_
        exact hj109 _ _ _ _ hH (lv_sub hl [0, 2, 3] rfl) h
      · replace h := if_t h c110
        refine lv_iconst (v := (0 : Int32)) hx hb dX11_digest_160 (by decide) ?_
        refine lv_goto (tgt := 168) hx hb dX11_digest_161 (by decide) ?_
        exact hj109 _ _ _ _ hH (lv_sub hl [0, 2, 3] rfl) h
set_option maxHeartbeats 4000000 in
set_option maxRecDepth 100000 in
theorem w_X11_digest_136 (C : Cx p s m args meth c cX11_digest 5 RX11 g) (hr : meth.sig.returnType = (some .long)) {o : Int64 × sT}    (j90 : Int64 → sT → Option (Int64 × sT)) (hj90 : ∀ (x15 : Int64) (S16 : sT) (H : Heap) (locs : List Loc) (ls : Array Slot), Hp g s S16 H locs → lv_has ls 5 [(0, .ref (gad g 10 0)), (1, .long x15)] → j90 x15 S16 = some o → W p l e (rmL 8) s m args below meth c H locs 0 0 (Qm g below args s (some (.long o.1)) o.2) (F0 m 188 ls [])) : ∀ (n : Nat) (x91 : Int64) (x92 : Int32) (S93 : sT) (H : Heap) (locs : List Loc) (ls : Array Slot), Hp g s S93 H locs → lv_has ls 5 [(0, .ref (gad g 10 0)), (1, .long x91), (3, .int x92)] → l_X11_digest_136 j90 n x91 x92 S93 = some o → W p l e (rmL 8) s m args below meth c H locs 0 0 (Qm g below args s (some (.long o.1)) o.2) (F0 m 136 ls []) := by
  obtain ⟨hx, hb, hml, hown, hts, hlk, hK⟩ := id C
  intro n
  induction n with
  | zero =>
    intro x91 x92 S93 H locs ls hH hl h
    cases h
  | succ n ih =>
    intro x91 x92 S93 H locs ls hH hl h
    rw [l_X11_digest_136_s] at h
    unfold b_X11_digest_136 at h
    refine lv_iload_n hx hb dX11_digest_136 rfl (lv_at hl 2 rfl) ?_
    refine lv_iconst (v := (2 : Int32)) hx hb dX11_digest_137 (by decide) ?_
    refine lv_icmp_ge (tgt := 188) hx hb dX11_digest_138 (by decide) (fun c112 => ?_) (fun c112 => ?_)
    · replace h := if_t h c112
      exact hj90 _ _ _ _ _ hH (lv_sub hl [0, 1] rfl) h
    · replace h := if_f h c112
      refine lv_iconst (v := (0 : Int32)) hx hb dX11_digest_141 (by decide) ?_
      refine lv_istore (lv' := [(4, .int (0 : Int32)), (0, .ref (gad g 10 0)), (1, .long x91), (3, .int x92)]) hx hb dX11_digest_142 hl (by decide) rfl (fun ls hl => ?_)
      obtain ⟨j98, ej98, h⟩ := jn_e h
      have hj98 : ∀ (x95 : Int64) (S96 : sT) (H : Heap) (locs : List Loc) (ls : Array Slot), Hp g s S96 H locs → lv_has ls 5 [(0, .ref (gad g 10 0)), (1, .long x95), (3, .int x92)] → j98 x95 S96 = some o → W p l e (rmL 8) s m args below meth c H locs 0 0 (Qm g below args s (some (.long o.1)) o.2) (F0 m 182 ls []) := by
        intro x95 S96 H locs ls hH hl h
        rw [ej98] at h
        try dsimp only at h
        obtain ⟨x97, ex97⟩ : ∃ z : Int32, z = (x92 + (1 : Int32)) := ⟨_, rfl⟩
        replace h := lt_e h ex97
        refine lv_iinc (v := x97) (lv' := [(3, .int x97), (0, .ref (gad g 10 0)), (1, .long x95)]) hx hb dX11_digest_182 hl (k := 2) rfl (by rw [ex97]; rfl) (by decide) rfl (fun ls hl => ?_)
        refine lv_goto (tgt := 136) hx hb dX11_digest_185 (by decide) ?_
        exact ih _ _ _ _ _ _ hH (lv_sub hl [1, 2, 0] rfl) h
      clear ej98
      exact w_X11_digest_144 C hr  j98 hj98 _ _ _ _ _ _ _ hH (lv_sub hl [1, 2, 3, 0] rfl) h
set_option maxHeartbeats 4000000 in
set_option maxRecDepth 100000 in
theorem w_X11_digest_101 (C : Cx p s m args meth c cX11_digest 5 RX11 g) (hr : meth.sig.returnType = (some .long)) {o : Int64 × sT}  {x115 : Int32}  (j121 : Int64 → sT → Option (Int64 × sT)) (hj121 : ∀ (x118 : Int64) (S119 : sT) (H : Heap) (locs : List Loc) (ls : Array Slot), Hp g s S119 H locs → lv_has ls 5 [(0, .ref (gad g 10 0)), (1, .long x118), (3, .int x115)] → j121 x118 S119 = some o → W p l e (rmL 8) s m args below meth c H locs 0 0 (Qm g below args s (some (.long o.1)) o.2) (F0 m 128 ls [])) : ∀ (n : Nat) (x122 : Int64) (x123 : Int32) (S124 : sT) (H : Heap) (locs : List Loc) (ls : Array Slot), Hp g s S124 H locs → lv_has ls 5 [(0, .ref (gad g 10 0)), (1, .long x122), (3, .int x115), (4, .int x123)] → l_X11_digest_101 x115 j121 n x122 x123 S124 = some o → W p l e (rmL 8) s m args below meth c H locs 0 0 (Qm g below args s (some (.long o.1)) o.2) (F0 m 101 ls []) := by
  obtain ⟨hx, hb, hml, hown, hts, hlk, hK⟩ := id C
  intro n
  induction n with
  | zero =>
    intro x122 x123 S124 H locs ls hH hl h
    cases h
  | succ n ih =>
    intro x122 x123 S124 H locs ls hH hl h
    rw [l_X11_digest_101_s] at h
    unfold b_X11_digest_101 at h
    refine lv_iload hx hb dX11_digest_101 (lv_at hl 3 rfl) ?_
    refine lv_iconst (v := (3 : Int32)) hx hb dX11_digest_103 (by decide) ?_
    refine lv_icmp_ge (tgt := 128) hx hb dX11_digest_104 (by decide) (fun c131 => ?_) (fun c131 => ?_)
    · replace h := if_t h c131
      exact hj121 _ _ _ _ _ hH (lv_sub hl [0, 1, 2] rfl) h
    · replace h := if_f h c131
      refine lv_ldc2 (v := (31 : Int64)) hx hb hown (hts _ q1106) dX11_digest_107 ?_
      refine lv_lload_n hx hb dX11_digest_110 rfl (lv_at hl 1 rfl) ?_
      refine lv_lmul hx hb dX11_digest_111 ?_
      refine lv_aload_n hx hb dX11_digest_112 rfl (lv_at hl 0 rfl) ?_
      refine lv_iload_n hx hb dX11_digest_113 rfl (lv_at hl 2 rfl) ?_
      refine lv_iload hx hb dX11_digest_114 (lv_at hl 3 rfl) ?_
      obtain ⟨r127, S128, hc126, h⟩ := bn2_e h
      refine r_callV1 (ki := 10) (i := 0) (ci := 10) (As := [.int x115, .int x123]) C hl.1 hH (c_X11_turnOf l g  hc126) q594 q5 q591 q592 q593 nd_X11_turnOf rfl (by decide) ⟨Nat.zero_le _, Nat.zero_le _⟩ (by decide) (by decide) ⟨_, rfl⟩ rfl (Nat.le_of_ble_eq_true rfl) dX11_digest_116 (fun H locs hH => ?_)
      refine lv_i2l hx hb dX11_digest_119 rfl ?_
      refine lv_ladd hx hb dX11_digest_120 ?_
      refine lv_topl (fun x129 ex129 => ?_)
      replace h := lt_e h ex129
      refine lv_lstore_n (lv' := [(1, .long x129), (0, .ref (gad g 10 0)), (3, .int x115), (4, .int x123)]) hx hb dX11_digest_121 rfl hl (by decide) rfl (fun ls hl => ?_)
      obtain ⟨x130, ex130⟩ : ∃ z : Int32, z = (x123 + (1 : Int32)) := ⟨_, rfl⟩
      replace h := lt_e h ex130
      refine lv_iinc (v := x130) (lv' := [(4, .int x130), (1, .long x129), (0, .ref (gad g 10 0)), (3, .int x115)]) hx hb dX11_digest_122 hl (k := 3) rfl (by rw [ex130]; rfl) (by decide) rfl (fun ls hl => ?_)
      refine lv_goto (tgt := 101) hx hb dX11_digest_125 (by decide) ?_
      exact ih _ _ _ _ _ _ hH (lv_sub hl [2, 1, 3, 0] rfl) h
set_option maxHeartbeats 4000000 in
set_option maxRecDepth 100000 in
theorem w_X11_digest_90 (C : Cx p s m args meth c cX11_digest 5 RX11 g) (hr : meth.sig.returnType = (some .long)) {o : Int64 × sT}    (j113 : Int64 → sT → Option (Int64 × sT)) (hj113 : ∀ (x13 : Int64) (S14 : sT) (H : Heap) (locs : List Loc) (ls : Array Slot), Hp g s S14 H locs → lv_has ls 5 [(0, .ref (gad g 10 0)), (1, .long x13)] → j113 x13 S14 = some o → W p l e (rmL 8) s m args below meth c H locs 0 0 (Qm g below args s (some (.long o.1)) o.2) (F0 m 134 ls [])) : ∀ (n : Nat) (x114 : Int64) (x115 : Int32) (S116 : sT) (H : Heap) (locs : List Loc) (ls : Array Slot), Hp g s S116 H locs → lv_has ls 5 [(0, .ref (gad g 10 0)), (1, .long x114), (3, .int x115)] → l_X11_digest_90 j113 n x114 x115 S116 = some o → W p l e (rmL 8) s m args below meth c H locs 0 0 (Qm g below args s (some (.long o.1)) o.2) (F0 m 90 ls []) := by
  obtain ⟨hx, hb, hml, hown, hts, hlk, hK⟩ := id C
  intro n
  induction n with
  | zero =>
    intro x114 x115 S116 H locs ls hH hl h
    cases h
  | succ n ih =>
    intro x114 x115 S116 H locs ls hH hl h
    rw [l_X11_digest_90_s] at h
    unfold b_X11_digest_90 at h
    refine lv_iload_n hx hb dX11_digest_90 rfl (lv_at hl 2 rfl) ?_
    refine lv_aload_n hx hb dX11_digest_91 rfl (lv_at hl 0 rfl) ?_
    refine gf_X11_108 C hH dX11_digest_92 ?_
    refine lv_icmp_ge (tgt := 134) hx hb dX11_digest_95 (by decide) (fun c132 => ?_) (fun c132 => ?_)
    · replace h := if_t h c132
      exact hj113 _ _ _ _ _ hH (lv_sub hl [0, 1] rfl) h
    · replace h := if_f h c132
      refine lv_iconst (v := (0 : Int32)) hx hb dX11_digest_98 (by decide) ?_
      refine lv_istore (lv' := [(4, .int (0 : Int32)), (0, .ref (gad g 10 0)), (1, .long x114), (3, .int x115)]) hx hb dX11_digest_99 hl (by decide) rfl (fun ls hl => ?_)
      obtain ⟨j121, ej121, h⟩ := jn_e h
      have hj121 : ∀ (x118 : Int64) (S119 : sT) (H : Heap) (locs : List Loc) (ls : Array Slot), Hp g s S119 H locs → lv_has ls 5 [(0, .ref (gad g 10 0)), (1, .long x118), (3, .int x115)] → j121 x118 S119 = some o → W p l e (rmL 8) s m args below meth c H locs 0 0 (Qm g below args s (some (.long o.1)) o.2) (F0 m 128 ls []) := by
        intro x118 S119 H locs ls hH hl h
        rw [ej121] at h
        try dsimp only at h
        obtain ⟨x120, ex120⟩ : ∃ z : Int32, z = (x115 + (1 : Int32)) := ⟨_, rfl⟩
        replace h := lt_e h ex120
        refine lv_iinc (v := x120) (lv' := [(3, .int x120), (0, .ref (gad g 10 0)), (1, .long x118)]) hx hb dX11_digest_128 hl (k := 2) rfl (by rw [ex120]; rfl) (by decide) rfl (fun ls hl => ?_)
        refine lv_goto (tgt := 90) hx hb dX11_digest_131 (by decide) ?_
        exact ih _ _ _ _ _ _ hH (lv_sub hl [1, 2, 0] rfl) h
      clear ej121
      exact w_X11_digest_101 C hr  j121 hj121 _ _ _ _ _ _ _ hH (lv_sub hl [1, 2, 3, 0] rfl) h
set_option maxHeartbeats 4000000 in
set_option maxRecDepth 100000 in
theorem w_X11_digest_57 (C : Cx p s m args meth c cX11_digest 5 RX11 g) (hr : meth.sig.returnType = (some .long)) {o : Int64 × sT}    (j133 : Int64 → sT → Option (Int64 × sT)) (hj133 : ∀ (x11 : Int64) (S12 : sT) (H : Heap) (locs : List Loc) (ls : Array Slot), Hp g s S12 H locs → lv_has ls 5 [(0, .ref (gad g 10 0)), (1, .long x11)] → j133 x11 S12 = some o → W p l e (rmL 8) s m args below meth c H locs 0 0 (Qm g below args s (some (.long o.1)) o.2) (F0 m 88 ls [])) : ∀ (n : Nat) (x134 : Int64) (x135 : Int32) (S136 : sT) (H : Heap) (locs : List Loc) (ls : Array Slot), Hp g s S136 H locs → lv_has ls 5 [(0, .ref (gad g 10 0)), (1, .long x134), (3, .int x135)] → l_X11_digest_57 j133 n x134 x135 S136 = some o → W p l e (rmL 8) s m args below meth c H locs 0 0 (Qm g below args s (some (.long o.1)) o.2) (F0 m 57 ls []) := by
  obtain ⟨hx, hb, hml, hown, hts, hlk, hK⟩ := id C
  intro n
  induction n with
  | zero =>
    intro x134 x135 S136 H locs ls hH hl h
    cases h
  | succ n ih =>
    intro x134 x135 S136 H locs ls hH hl h
    rw [l_X11_digest_57_s] at h
    unfold b_X11_digest_57 at h
    refine lv_iload_n hx hb dX11_digest_57 rfl (lv_at hl 2 rfl) ?_
    refine lv_aload_n hx hb dX11_digest_58 rfl (lv_at hl 0 rfl) ?_
    refine gf_X11_91 C hH dX11_digest_59 ?_
    refine lv_icmp_ge (tgt := 88) hx hb dX11_digest_62 (by decide) (fun c145 => ?_) (fun c145 => ?_)
    · replace h := if_t h c145
      exact hj133 _ _ _ _ _ hH (lv_sub hl [0, 1] rfl) h
    · replace h := if_f h c145
      refine lv_aload_n hx hb dX11_digest_65 rfl (lv_at hl 0 rfl) ?_
      refine lv_aload_n hx hb dX11_digest_66 rfl (lv_at hl 0 rfl) ?_
      refine lv_lload_n hx hb dX11_digest_67 rfl (lv_at hl 1 rfl) ?_
      refine lv_iconst (v := (0 : Int32)) hx hb dX11_digest_68 (by decide) ?_
      refine lv_iload_n hx hb dX11_digest_69 rfl (lv_at hl 2 rfl) ?_
      obtain ⟨r139, S140, hc138, h⟩ := bn2_e h
      refine r_callV1 (ki := 10) (i := 0) (ci := 10) (As := [.long x134, .int (0 : Int32), .int x135]) C hl.1 hH (c_X11_tellsColumn l g  hc138) q1111 q5 q1108 q1109 q1110 nd_X11_tellsColumn rfl (by decide) ⟨Nat.zero_le _, Nat.zero_le _⟩ (by decide) (by decide) ⟨_, rfl⟩ rfl (Nat.le_of_ble_eq_true rfl) dX11_digest_70 (fun H locs hH => ?_)
      refine lv_aload_n hx hb dX11_digest_73 rfl (lv_at hl 0 rfl) ?_
      refine gf_X11_108 C hH dX11_digest_74 ?_
      refine lv_iload_n hx hb dX11_digest_77 rfl (lv_at hl 2 rfl) ?_
      obtain ⟨r142, S143, hc141, h⟩ := bn2_e h
      refine r_callV1 (ki := 10) (i := 0) (ci := 10) (As := [.long r139, .int (S140.1 116 0 0), .int x135]) C hl.1 hH (c_X11_tellsColumn l g  hc141) q1111 q5 q1108 q1109 q1110 nd_X11_tellsColumn rfl (by decide) ⟨Nat.zero_le _, Nat.zero_le _⟩ (by decide) (by decide) ⟨_, rfl⟩ rfl (Nat.le_of_ble_eq_true rfl) dX11_digest_78 (fun H locs hH => ?_)
      refine lv_lstore_n (lv' := [(1, .long r142), (0, .ref (gad g 10 0)), (3, .int x135)]) hx hb dX11_digest_81 rfl hl (by decide) rfl (fun ls hl => ?_)
      obtain ⟨x144, ex144⟩ : ∃ z : Int32, z = (x135 + (1 : Int32)) := ⟨_, rfl⟩
      replace h := lt_e h ex144
      refine lv_iinc (v := x144) (lv' := [(3, .int x144), (1, .long r142), (0, .ref (gad g 10 0))]) hx hb dX11_digest_82 hl (k := 2) rfl (by rw [ex144]; rfl) (by decide) rfl (fun ls hl => ?_)
      refine lv_goto (tgt := 57) hx hb dX11_digest_85 (by decide) ?_
      exact ih _ _ _ _ _ _ hH (lv_sub hl [2, 1, 0] rfl) h
set_option maxHeartbeats 4000000 in
set_option maxRecDepth 100000 in
theorem w_X11_digest_6 (C : Cx p s m args meth c cX11_digest 5 RX11 g) (hr : meth.sig.returnType = (some .long)) {o : Int64 × sT}    (j146 : Int64 → sT → Option (Int64 × sT)) (hj146 : ∀ (x1 : Int64) (S2 : sT) (H : Heap) (locs : List Loc) (ls : Array Slot), Hp g s S2 H locs → lv_has ls 5 [(0, .ref (gad g 10 0)), (1, .long x1)] → j146 x1 S2 = some o → W p l e (rmL 8) s m args below meth c H locs 0 0 (Qm g below args s (some (.long o.1)) o.2) (F0 m 31 ls [])) : ∀ (n : Nat) (x147 : Int64) (x148 : Int32) (S149 : sT) (H : Heap) (locs : List Loc) (ls : Array Slot), Hp g s S149 H locs → lv_has ls 5 [(0, .ref (gad g 10 0)), (1, .long x147), (3, .int x148)] → l_X11_digest_6 j146 n x147 x148 S149 = some o → W p l e (rmL 8) s m args below meth c H locs 0 0 (Qm g below args s (some (.long o.1)) o.2) (F0 m 6 ls []) := by
  obtain ⟨hx, hb, hml, hown, hts, hlk, hK⟩ := id C
  intro n
  induction n with
  | zero =>
    intro x147 x148 S149 H locs ls hH hl h
    cases h
  | succ n ih =>
    intro x147 x148 S149 H locs ls hH hl h
    rw [l_X11_digest_6_s] at h
    unfold b_X11_digest_6 at h
    refine lv_iload_n hx hb dX11_digest_6 rfl (lv_at hl 2 rfl) ?_
    refine lv_bipush (v := (8 : Int32)) hx hb dX11_digest_7 (by decide) ?_
    refine lv_icmp_ge (tgt := 31) hx hb dX11_digest_9 (by decide) (fun c156 => ?_) (fun c156 => ?_)
    · replace h := if_t h c156
      exact hj146 _ _ _ _ _ hH (lv_sub hl [0, 1] rfl) h
    · replace h := if_f h c156
      refine lv_ldc2 (v := (31 : Int64)) hx hb hown (hts _ q1106) dX11_digest_12 ?_
      refine lv_lload_n hx hb dX11_digest_15 rfl (lv_at hl 1 rfl) ?_
      refine lv_lmul hx hb dX11_digest_16 ?_
      refine lv_aload_n hx hb dX11_digest_17 rfl (lv_at hl 0 rfl) ?_
      refine lv_iload_n hx hb dX11_digest_18 rfl (lv_at hl 2 rfl) ?_
      obtain ⟨r152, S153, hc151, h⟩ := bn2_e h
      refine r_callV1 (ki := 10) (i := 0) (ci := 10) (As := [.int x148]) C hl.1 hH (c_X11_count l g  hc151) q1060 q5 q1107 q1058 q1059 nd_X11_count rfl (by decide) ⟨Nat.zero_le _, Nat.zero_le _⟩ (by decide) (by decide) ⟨_, rfl⟩ rfl (Nat.le_of_ble_eq_true rfl) dX11_digest_19 (fun H locs hH => ?_)
      refine lv_i2l hx hb dX11_digest_22 rfl ?_
      refine lv_ladd hx hb dX11_digest_23 ?_
      refine lv_topl (fun x154 ex154 => ?_)
      replace h := lt_e h ex154
      refine lv_lstore_n (lv' := [(1, .long x154), (0, .ref (gad g 10 0)), (3, .int x148)]) hx hb dX11_digest_24 rfl hl (by decide) rfl (fun ls hl => ?_)
      obtain ⟨x155, ex155⟩ : ∃ z : Int32, z = (x148 + (1 : Int32)) := ⟨_, rfl⟩
      replace h := lt_e h ex155
      refine lv_iinc (v := x155) (lv' := [(3, .int x155), (1, .long x154), (0, .ref (gad g 10 0))]) hx hb dX11_digest_25 hl (k := 2) rfl (by rw [ex155]; rfl) (by decide) rfl (fun ls hl => ?_)
      refine lv_goto (tgt := 6) hx hb dX11_digest_28 (by decide) ?_
      exact ih _ _ _ _ _ _ hH (lv_sub hl [2, 1, 0] rfl) h
set_option maxHeartbeats 4000000 in
set_option maxRecDepth 100000 in
theorem w_X11_digest (C : Cx p s m args meth c cX11_digest 5 RX11 g) (hr : meth.sig.returnType = (some .long)) {o : Int64 × sT}   {S : sT} {H : Heap} {locs : List Loc} {ls : Array Slot} (hH : Hp g s S H locs) (hl : lv_has ls 5 [(0, .ref (gad g 10 0))]) (h : f_X11_digest  S = some o) : W p l e (rmL 8) s m args below meth c H locs 0 0 (Qm g below args s (some (.long o.1)) o.2) (F0 m 0 ls []) := by
  obtain ⟨hx, hb, hml, hown, hts, hlk, hK⟩ := id C
  unfold f_X11_digest at h
  refine lv_ldc2 (v := (17 : Int64)) hx hb hown (hts _ q1105) dX11_digest_0 ?_
  refine lv_lstore_n (lv' := [(1, .long (17 : Int64)), (0, .ref (gad g 10 0))]) hx hb dX11_digest_3 rfl hl (by decide) rfl (fun ls hl => ?_)
  refine lv_iconst (v := (0 : Int32)) hx hb dX11_digest_4 (by decide) ?_
  refine lv_istore_n (lv' := [(3, .int (0 : Int32)), (1, .long (17 : Int64)), (0, .ref (gad g 10 0))]) hx hb dX11_digest_5 rfl hl (by decide) rfl (fun ls hl => ?_)
  obtain ⟨j146, ej146, h⟩ := jn_e h
  have hj146 : ∀ (x1 : Int64) (S2 : sT) (H : Heap) (locs : List Loc) (ls : Array Slot), Hp g s S2 H locs → lv_has ls 5 [(0, .ref (gad g 10 0)), (1, .long x1)] → j146 x1 S2 = some o → W p l e (rmL 8) s m args below meth c H locs 0 0 (Qm g below args s (some (.long o.1)) o.2) (F0 m 31 ls []) := by
    intro x1 S2 H locs ls hH hl h
    rw [ej146] at h
    try dsimp only at h
    refine lv_ldc2 (v := (31 : Int64)) hx hb hown (hts _ q1106) dX11_digest_31 ?_
    refine lv_lload_n hx hb dX11_digest_34 rfl (lv_at hl 1 rfl) ?_
    refine lv_lmul hx hb dX11_digest_35 ?_
    refine lv_aload_n hx hb dX11_digest_36 rfl (lv_at hl 0 rfl) ?_
    obtain ⟨r4, S5, hc3, h⟩ := bn2_e h
    refine r_callV1 (ki := 10) (i := 0) (ci := 10) (As := []) C hl.1 hH (c_X11_readsWall l g  hc3) q343 q5 q340 q341 q342 nd_X11_readsWall rfl (by decide) ⟨Nat.zero_le _, Nat.zero_le _⟩ (by decide) (by decide) ⟨_, rfl⟩ rfl (Nat.le_of_ble_eq_true rfl) dX11_digest_37 (fun H locs hH => ?_)
    refine lv_i2l hx hb dX11_digest_40 rfl ?_
    refine lv_ladd hx hb dX11_digest_41 ?_
    refine lv_topl (fun x6 ex6 => ?_)
    replace h := lt_e h ex6
    refine lv_lstore_n (lv' := [(1, .long x6), (0, .ref (gad g 10 0))]) hx hb dX11_digest_42 rfl hl (by decide) rfl (fun ls hl => ?_)
    refine lv_ldc2 (v := (31 : Int64)) hx hb hown (hts _ q1106) dX11_digest_43 ?_
    refine lv_lload_n hx hb dX11_digest_46 rfl (lv_at hl 0 rfl) ?_
    refine lv_lmul hx hb dX11_digest_47 ?_
    refine lv_aload_n hx hb dX11_digest_48 rfl (lv_at hl 1 rfl) ?_
    obtain ⟨r8, S9, hc7, h⟩ := bn2_e h
    refine r_callV1 (ki := 10) (i := 0) (ci := 10) (As := []) C hl.1 hH (c_X11_readsTurns l g  hc7) q351 q5 q348 q349 q350 nd_X11_readsTurns rfl (by decide) ⟨Nat.zero_le _, Nat.zero_le _⟩ (by decide) (by decide) ⟨_, rfl⟩ rfl (Nat.le_of_ble_eq_true rfl) dX11_digest_49 (fun H locs hH => ?_)
    refine lv_i2l hx hb dX11_digest_52 rfl ?_
    refine lv_ladd hx hb dX11_digest_53 ?_
    refine lv_topl (fun x10 ex10 => ?_)
    replace h := lt_e h ex10
    refine lv_lstore_n (lv' := [(1, .long x10), (0, .ref (gad g 10 0))]) hx hb dX11_digest_54 rfl hl (by decide) rfl (fun ls hl => ?_)
    refine lv_iconst (v := (0 : Int32)) hx hb dX11_digest_55 (by decide) ?_
    refine lv_istore_n (lv' := [(3, .int (0 : Int32)), (1, .long x10), (0, .ref (gad g 10 0))]) hx hb dX11_digest_56 rfl hl (by decide) rfl (fun ls hl => ?_)
    obtain ⟨j133, ej133, h⟩ := jn_e h
    have hj133 : ∀ (x11 : Int64) (S12 : sT) (H : Heap) (locs : List Loc) (ls : Array Slot), Hp g s S12 H locs → lv_has ls 5 [(0, .ref (gad g 10 0)), (1, .long x11)] → j133 x11 S12 = some o → W p l e (rmL 8) s m args below meth c H locs 0 0 (Qm g below args s (some (.long o.1)) o.2) (F0 m 88 ls []) := by
      intro x11 S12 H locs ls hH hl h
      rw [ej133] at h
      try dsimp only at h
      refine lv_iconst (v := (0 : Int32)) hx hb dX11_digest_88 (by decide) ?_
      refine lv_istore_n (lv' := [(3, .int (0 : Int32)), (0, .ref (gad g 10 0)), (1, .long x11)]) hx hb dX11_digest_89 rfl hl (by decide) rfl (fun ls hl => ?_)
      obtain ⟨j113, ej113, h⟩ := jn_e h
      have hj113 : ∀ (x13 : Int64) (S14 : sT) (H : Heap) (locs : List Loc) (ls : Array Slot), Hp g s S14 H locs → lv_has ls 5 [(0, .ref (gad g 10 0)), (1, .long x13)] → j113 x13 S14 = some o → W p l e (rmL 8) s m args below meth c H locs 0 0 (Qm g below args s (some (.long o.1)) o.2) (F0 m 134 ls []) := by
        intro x13 S14 H locs ls hH hl h
        rw [ej113] at h
        try dsimp only at h
        refine lv_iconst (v := (0 : Int32)) hx hb dX11_digest_134 (by decide) ?_
        refine lv_istore_n (lv' := [(3, .int (0 : Int32)), (0, .ref (gad g 10 0)), (1, .long x13)]) hx hb dX11_digest_135 rfl hl (by decide) rfl (fun ls hl => ?_)
        obtain ⟨j90, ej90, h⟩ := jn_e h
        have hj90 : ∀ (x15 : Int64) (S16 : sT) (H : Heap) (locs : List Loc) (ls : Array Slot), Hp g s S16 H locs → lv_has ls 5 [(0, .ref (gad g 10 0)), (1, .long x15)] → j90 x15 S16 = some o → W p l e (rmL 8) s m args below meth c H locs 0 0 (Qm g below args s (some (.long o.1)) o.2) (F0 m 188 ls []) := by
          intro x15 S16 H locs ls hH hl h
          rw [ej90] at h
          try dsimp only at h
          refine lv_iconst (v := (0 : Int32)) hx hb dX11_digest_188 (by decide) ?_
          refine lv_istore_n (lv' := [(3, .int (0 : Int32)), (0, .ref (gad g 10 0)), (1, .long x15)]) hx hb dX11_digest_189 rfl hl (by decide) rfl (fun ls hl => ?_)
          obtain ⟨j79, ej79, h⟩ := jn_e h
          have hj79 : ∀ (x17 : Int64) (S18 : sT) (H : Heap) (locs : List Loc) (ls : Array Slot), Hp g s S18 H locs → lv_has ls 5 [(0, .ref (gad g 10 0)), (1, .long x17)] → j79 x17 S18 = some o → W p l e (rmL 8) s m args below meth c H locs 0 0 (Qm g below args s (some (.long o.1)) o.2) (F0 m 221 ls []) := by
            intro x17 S18 H locs ls hH hl h
            rw [ej79] at h
            try dsimp only at h
            refine lv_ldc2 (v := (31 : Int64)) hx hb hown (hts _ q1106) dX11_digest_221 ?_
            refine lv_lload_n hx hb dX11_digest_224 rfl (lv_at hl 1 rfl) ?_
            refine lv_lmul hx hb dX11_digest_225 ?_
            refine lv_aload_n hx hb dX11_digest_226 rfl (lv_at hl 0 rfl) ?_
            refine lv_iconst (v := (0 : Int32)) hx hb dX11_digest_227 (by decide) ?_
            obtain ⟨r20, S21, hc19, h⟩ := bn2_e h
            refine r_callV1 (ki := 10) (i := 0) (ci := 10) (As := [.int (0 : Int32)]) C hl.1 hH (c_X11_firstOf l g  hc19) q613 q5 q610 q611 q612 nd_X11_firstOf rfl (by decide) ⟨Nat.zero_le _, Nat.zero_le _⟩ (by decide) (by decide) ⟨_, rfl⟩ rfl (Nat.le_of_ble_eq_true rfl) dX11_digest_228 (fun H locs hH => ?_)
            refine lv_i2l hx hb dX11_digest_231 rfl ?_
            refine lv_ladd hx hb dX11_digest_232 ?_
            refine lv_topl (fun x22 ex22 => ?_)
            replace h := lt_e h ex22
            refine lv_lstore_n (lv' := [(1, .long x22), (0, .ref (gad g 10 0))]) hx hb dX11_digest_233 rfl hl (by decide) rfl (fun ls hl => ?_)
            refine lv_ldc2 (v := (31 : Int64)) hx hb hown (hts _ q1106) dX11_digest_234 ?_
            refine lv_lload_n hx hb dX11_digest_237 rfl (lv_at hl 0 rfl) ?_
            refine lv_lmul hx hb dX11_digest_238 ?_
            refine lv_aload_n hx hb dX11_digest_239 rfl (lv_at hl 1 rfl) ?_
            refine lv_iconst (v := (1 : Int32)) hx hb dX11_digest_240 (by decide) ?_
            obtain ⟨r24, S25, hc23, h⟩ := bn2_e h
            refine r_callV1 (ki := 10) (i := 0) (ci := 10) (As := [.int (1 : Int32)]) C hl.1 hH (c_X11_firstOf l g  hc23) q613 q5 q610 q611 q612 nd_X11_firstOf rfl (by decide) ⟨Nat.zero_le _, Nat.zero_le _⟩ (by decide) (by decide) ⟨_, rfl⟩ rfl (Nat.le_of_ble_eq_true rfl) dX11_digest_241 (fun H locs hH => ?_)
            refine lv_i2l hx hb dX11_digest_244 rfl ?_
            refine lv_ladd hx hb dX11_digest_245 ?_
            refine lv_topl (fun x26 ex26 => ?_)
            replace h := lt_e h ex26
            refine lv_lstore_n (lv' := [(1, .long x26), (0, .ref (gad g 10 0))]) hx hb dX11_digest_246 rfl hl (by decide) rfl (fun ls hl => ?_)
            refine lv_ldc2 (v := (31 : Int64)) hx hb hown (hts _ q1106) dX11_digest_247 ?_
            refine lv_lload_n hx hb dX11_digest_250 rfl (lv_at hl 0 rfl) ?_
            refine lv_lmul hx hb dX11_digest_251 ?_
            refine lv_aload_n hx hb dX11_digest_252 rfl (lv_at hl 1 rfl) ?_
            obtain ⟨r28, S29, hc27, h⟩ := bn2_e h
            refine r_callV1 (ki := 10) (i := 0) (ci := 10) (As := []) C hl.1 hH (c_X11_highestNow l g  hc27) q634 q5 q631 q632 q633 nd_X11_highestNow rfl (by decide) ⟨Nat.zero_le _, Nat.zero_le _⟩ (by decide) (by decide) ⟨_, rfl⟩ rfl (Nat.le_of_ble_eq_true rfl) dX11_digest_253 (fun H locs hH => ?_)
            refine lv_i2l hx hb dX11_digest_256 rfl ?_
            refine lv_ladd hx hb dX11_digest_257 ?_
            refine lv_topl (fun x30 ex30 => ?_)
            replace h := lt_e h ex30
            refine lv_lstore_n (lv' := [(1, .long x30), (0, .ref (gad g 10 0))]) hx hb dX11_digest_258 rfl hl (by decide) rfl (fun ls hl => ?_)
            refine lv_ldc2 (v := (31 : Int64)) hx hb hown (hts _ q1106) dX11_digest_259 ?_
            refine lv_lload_n hx hb dX11_digest_262 rfl (lv_at hl 0 rfl) ?_
            refine lv_lmul hx hb dX11_digest_263 ?_
            refine lv_aload_n hx hb dX11_digest_264 rfl (lv_at hl 1 rfl) ?_
            refine lv_iconst (v := (-1 : Int32)) hx hb dX11_digest_265 (by decide) ?_
            refine lv_iconst (v := (-1 : Int32)) hx hb dX11_digest_266 (by decide) ?_
            obtain ⟨r32, S33, hc31, h⟩ := bn2_e h
            refine r_callV1 (ki := 10) (i := 0) (ci := 10) (As := [.int (-1 : Int32), .int (-1 : Int32)]) C hl.1 hH (c_X11_planOf l g  hc31) q667 q5 q664 q665 q666 nd_X11_planOf rfl (by decide) ⟨Nat.zero_le _, Nat.zero_le _⟩ (by decide) (by decide) ⟨_, rfl⟩ rfl (Nat.le_of_ble_eq_true rfl) dX11_digest_267 (fun H locs hH => ?_)
            refine lv_i2l hx hb dX11_digest_270 rfl ?_
            refine lv_ladd hx hb dX11_digest_271 ?_
            refine lv_topl (fun x34 ex34 => ?_)
            replace h := lt_e h ex34
            refine lv_lstore_n (lv' := [(1, .long x34), (0, .ref (gad g 10 0))]) hx hb dX11_digest_272 rfl hl (by decide) rfl (fun ls hl => ?_)
            refine lv_ldc2 (v := (31 : Int64)) hx hb hown (hts _ q1106) dX11_digest_273 ?_
            refine lv_lload_n hx hb dX11_digest_276 rfl (lv_at hl 0 rfl) ?_
            refine lv_lmul hx hb dX11_digest_277 ?_
            refine lv_aload_n hx hb dX11_digest_278 rfl (lv_at hl 1 rfl) ?_
            refine lv_iconst (v := (-1 : Int32)) hx hb dX11_digest_279 (by decide) ?_
            refine lv_iconst (v := (0 : Int32)) hx hb dX11_digest_280 (by decide) ?_
            obtain ⟨r36, S37, hc35, h⟩ := bn2_e h
            refine r_callV1 (ki := 10) (i := 0) (ci := 10) (As := [.int (-1 : Int32), .int (0 : Int32)]) C hl.1 hH (c_X11_planOf l g  hc35) q667 q5 q664 q665 q666 nd_X11_planOf rfl (by decide) ⟨Nat.zero_le _, Nat.zero_le _⟩ (by decide) (by decide) ⟨_, rfl⟩ rfl (Nat.le_of_ble_eq_true rfl) dX11_digest_281 (fun H locs hH => ?_)
            refine lv_i2l hx hb dX11_digest_284 rfl ?_
            refine lv_ladd hx hb dX11_digest_285 ?_
            refine lv_topl (fun x38 ex38 => ?_)
            replace h := lt_e h ex38
            refine lv_lstore_n (lv' := [(1, .long x38), (0, .ref (gad g 10 0))]) hx hb dX11_digest_286 rfl hl (by decide) rfl (fun ls hl => ?_)
            refine lv_ldc2 (v := (31 : Int64)) hx hb hown (hts _ q1106) dX11_digest_287 ?_
            refine lv_lload_n hx hb dX11_digest_290 rfl (lv_at hl 0 rfl) ?_
            refine lv_lmul hx hb dX11_digest_291 ?_
            refine lv_aload_n hx hb dX11_digest_292 rfl (lv_at hl 1 rfl) ?_
            refine lv_iconst (v := (3 : Int32)) hx hb dX11_digest_293 (by decide) ?_
            refine lv_iconst (v := (-1 : Int32)) hx hb dX11_digest_294 (by decide) ?_
            obtain ⟨r40, S41, hc39, h⟩ := bn2_e h
            refine r_callV1 (ki := 10) (i := 0) (ci := 10) (As := [.int (3 : Int32), .int (-1 : Int32)]) C hl.1 hH (c_X11_planOf l g  hc39) q667 q5 q664 q665 q666 nd_X11_planOf rfl (by decide) ⟨Nat.zero_le _, Nat.zero_le _⟩ (by decide) (by decide) ⟨_, rfl⟩ rfl (Nat.le_of_ble_eq_true rfl) dX11_digest_295 (fun H locs hH => ?_)
            refine lv_i2l hx hb dX11_digest_298 rfl ?_
            refine lv_ladd hx hb dX11_digest_299 ?_
            refine lv_topl (fun x42 ex42 => ?_)
            replace h := lt_e h ex42
            refine lv_lstore_n (lv' := [(1, .long x42), (0, .ref (gad g 10 0))]) hx hb dX11_digest_300 rfl hl (by decide) rfl (fun ls hl => ?_)
            refine lv_ldc2 (v := (31 : Int64)) hx hb hown (hts _ q1106) dX11_digest_301 ?_
            refine lv_lload_n hx hb dX11_digest_304 rfl (lv_at hl 0 rfl) ?_
            refine lv_lmul hx hb dX11_digest_305 ?_
            refine lv_aload_n hx hb dX11_digest_306 rfl (lv_at hl 1 rfl) ?_
            refine lv_iconst (v := (3 : Int32)) hx hb dX11_digest_307 (by decide) ?_
            refine lv_iconst (v := (0 : Int32)) hx hb dX11_digest_308 (by decide) ?_
            obtain ⟨r44, S45, hc43, h⟩ := bn2_e h
            refine r_callV1 (ki := 10) (i := 0) (ci := 10) (As := [.int (3 : Int32), .int (0 : Int32)]) C hl.1 hH (c_X11_planOf l g  hc43) q667 q5 q664 q665 q666 nd_X11_planOf rfl (by decide) ⟨Nat.zero_le _, Nat.zero_le _⟩ (by decide) (by decide) ⟨_, rfl⟩ rfl (Nat.le_of_ble_eq_true rfl) dX11_digest_309 (fun H locs hH => ?_)
            refine lv_i2l hx hb dX11_digest_312 rfl ?_
            refine lv_ladd hx hb dX11_digest_313 ?_
            refine lv_topl (fun x46 ex46 => ?_)
            replace h := lt_e h ex46
            refine lv_lstore_n (lv' := [(1, .long x46), (0, .ref (gad g 10 0))]) hx hb dX11_digest_314 rfl hl (by decide) rfl (fun ls hl => ?_)
            refine lv_ldc2 (v := (31 : Int64)) hx hb hown (hts _ q1106) dX11_digest_315 ?_
            refine lv_lload_n hx hb dX11_digest_318 rfl (lv_at hl 0 rfl) ?_
            refine lv_lmul hx hb dX11_digest_319 ?_
            refine lv_aload_n hx hb dX11_digest_320 rfl (lv_at hl 1 rfl) ?_
            refine lv_iconst (v := (2 : Int32)) hx hb dX11_digest_321 (by decide) ?_
            refine lv_iconst (v := (0 : Int32)) hx hb dX11_digest_322 (by decide) ?_
            obtain ⟨r48, S49, hc47, h⟩ := bn2_e h
            refine r_callV1 (ki := 10) (i := 0) (ci := 10) (As := [.int (2 : Int32), .int (0 : Int32)]) C hl.1 hH (c_X11_sidesOf l g  hc47) q727 q5 q724 q725 q726 nd_X11_sidesOf rfl (by decide) ⟨Nat.zero_le _, Nat.zero_le _⟩ (by decide) (by decide) ⟨_, rfl⟩ rfl (Nat.le_of_ble_eq_true rfl) dX11_digest_323 (fun H locs hH => ?_)
            refine lv_i2l hx hb dX11_digest_326 rfl ?_
            refine lv_ladd hx hb dX11_digest_327 ?_
            refine lv_topl (fun x50 ex50 => ?_)
            replace h := lt_e h ex50
            refine lv_lstore_n (lv' := [(1, .long x50), (0, .ref (gad g 10 0))]) hx hb dX11_digest_328 rfl hl (by decide) rfl (fun ls hl => ?_)
            refine lv_ldc2 (v := (31 : Int64)) hx hb hown (hts _ q1106) dX11_digest_329 ?_
            refine lv_lload_n hx hb dX11_digest_332 rfl (lv_at hl 0 rfl) ?_
            refine lv_lmul hx hb dX11_digest_333 ?_
            refine lv_aload_n hx hb dX11_digest_334 rfl (lv_at hl 1 rfl) ?_
            refine lv_iconst (v := (2 : Int32)) hx hb dX11_digest_335 (by decide) ?_
            refine lv_iconst (v := (1 : Int32)) hx hb dX11_digest_336 (by decide) ?_
            obtain ⟨r52, S53, hc51, h⟩ := bn2_e h
            refine r_callV1 (ki := 10) (i := 0) (ci := 10) (As := [.int (2 : Int32), .int (1 : Int32)]) C hl.1 hH (c_X11_sidesOf l g  hc51) q727 q5 q724 q725 q726 nd_X11_sidesOf rfl (by decide) ⟨Nat.zero_le _, Nat.zero_le _⟩ (by decide) (by decide) ⟨_, rfl⟩ rfl (Nat.le_of_ble_eq_true rfl) dX11_digest_337 (fun H locs hH => ?_)
            refine lv_i2l hx hb dX11_digest_340 rfl ?_
            refine lv_ladd hx hb dX11_digest_341 ?_
            refine lv_topl (fun x54 ex54 => ?_)
            replace h := lt_e h ex54
            refine lv_lstore_n (lv' := [(1, .long x54), (0, .ref (gad g 10 0))]) hx hb dX11_digest_342 rfl hl (by decide) rfl (fun ls hl => ?_)
            refine lv_iconst (v := (0 : Int32)) hx hb dX11_digest_343 (by decide) ?_
            refine lv_istore_n (lv' := [(3, .int (0 : Int32)), (1, .long x54), (0, .ref (gad g 10 0))]) hx hb dX11_digest_344 rfl hl (by decide) rfl (fun ls hl => ?_)
            obtain ⟨j68, ej68, h⟩ := jn_e h
            have hj68 : ∀ (x55 : Int64) (S56 : sT) (H : Heap) (locs : List Loc) (ls : Array Slot), Hp g s S56 H locs → lv_has ls 5 [(0, .ref (gad g 10 0)), (1, .long x55)] → j68 x55 S56 = some o → W p l e (rmL 8) s m args below meth c H locs 0 0 (Qm g below args s (some (.long o.1)) o.2) (F0 m 369 ls []) := by
              intro x55 S56 H locs ls hH hl h
              rw [ej68] at h
              try dsimp only at h
              refine lv_ldc2 (v := (31 : Int64)) hx hb hown (hts _ q1106) dX11_digest_369 ?_
              refine lv_lload_n hx hb dX11_digest_372 rfl (lv_at hl 1 rfl) ?_
              refine lv_lmul hx hb dX11_digest_373 ?_
              refine lv_aload_n hx hb dX11_digest_374 rfl (lv_at hl 0 rfl) ?_
              refine lv_iconst (v := (5 : Int32)) hx hb dX11_digest_375 (by decide) ?_
              refine lv_iconst (v := (0 : Int32)) hx hb dX11_digest_376 (by decide) ?_
              obtain ⟨r58, S59, hc57, h⟩ := bn2_e h
              refine r_callV1 (ki := 10) (i := 0) (ci := 10) (As := [.int (5 : Int32), .int (0 : Int32)]) C hl.1 hH (c_X11_frostOf l g  hc57) q888 q5 q885 q886 q887 nd_X11_frostOf rfl (by decide) ⟨Nat.zero_le _, Nat.zero_le _⟩ (by decide) (by decide) ⟨_, rfl⟩ rfl (Nat.le_of_ble_eq_true rfl) dX11_digest_377 (fun H locs hH => ?_)
              refine lv_ladd hx hb dX11_digest_380 ?_
              refine lv_topl (fun x60 ex60 => ?_)
              replace h := lt_e h ex60
              refine lv_lstore_n (lv' := [(1, .long x60), (0, .ref (gad g 10 0))]) hx hb dX11_digest_381 rfl hl (by decide) rfl (fun ls hl => ?_)
              refine lv_ldc2 (v := (31 : Int64)) hx hb hown (hts _ q1106) dX11_digest_382 ?_
              refine lv_lload_n hx hb dX11_digest_385 rfl (lv_at hl 0 rfl) ?_
              refine lv_lmul hx hb dX11_digest_386 ?_
              refine lv_aload_n hx hb dX11_digest_387 rfl (lv_at hl 1 rfl) ?_
              refine lv_iconst (v := (5 : Int32)) hx hb dX11_digest_388 (by decide) ?_
              refine lv_iconst (v := (1 : Int32)) hx hb dX11_digest_389 (by decide) ?_
              obtain ⟨r62, S63, hc61, h⟩ := bn2_e h
              refine r_callV1 (ki := 10) (i := 0) (ci := 10) (As := [.int (5 : Int32), .int (1 : Int32)]) C hl.1 hH (c_X11_frostOf l g  hc61) q888 q5 q885 q886 q887 nd_X11_frostOf rfl (by decide) ⟨Nat.zero_le _, Nat.zero_le _⟩ (by decide) (by decide) ⟨_, rfl⟩ rfl (Nat.le_of_ble_eq_true rfl) dX11_digest_390 (fun H locs hH => ?_)
              refine lv_ladd hx hb dX11_digest_393 ?_
              refine lv_topl (fun x64 ex64 => ?_)
              replace h := lt_e h ex64
              refine lv_lstore_n (lv' := [(1, .long x64), (0, .ref (gad g 10 0))]) hx hb dX11_digest_394 rfl hl (by decide) rfl (fun ls hl => ?_)
              refine lv_ldc2 (v := (31 : Int64)) hx hb hown (hts _ q1106) dX11_digest_395 ?_
              refine lv_lload_n hx hb dX11_digest_398 rfl (lv_at hl 0 rfl) ?_
              refine lv_lmul hx hb dX11_digest_399 ?_
              refine lv_aload_n hx hb dX11_digest_400 rfl (lv_at hl 1 rfl) ?_
              refine lv_bipush (v := (7 : Int32)) hx hb dX11_digest_401 (by decide) ?_
              refine lv_bipush (v := (9 : Int32)) hx hb dX11_digest_403 (by decide) ?_
              refine lv_iconst (v := (-1 : Int32)) hx hb dX11_digest_405 (by decide) ?_
              obtain ⟨r66, S67, hc65, h⟩ := bn2_e h
              refine r_callV1 (ki := 10) (i := 0) (ci := 10) (As := [.int (7 : Int32), .int (9 : Int32), .int (-1 : Int32)]) C hl.1 hH (c_X11_years l g  hc65) q928 q5 q1112 q926 q927 nd_X11_years rfl (by decide) ⟨Nat.zero_le _, Nat.zero_le _⟩ (by decide) (by decide) ⟨_, rfl⟩ rfl (Nat.le_of_ble_eq_true rfl) dX11_digest_406 (fun H locs hH => ?_)
              refine lv_i2l hx hb dX11_digest_409 rfl ?_
              refine lv_ladd hx hb dX11_digest_410 ?_
              exact E_long C hr hH h dX11_digest_411
            clear ej68
            exact w_X11_digest_345 C hr  j68 hj68 _ _ _ _ _ _ _ hH (lv_sub hl [2, 1, 0] rfl) h
          clear ej79
          exact w_X11_digest_190 C hr  j79 hj79 _ _ _ _ _ _ _ hH (lv_sub hl [1, 2, 0] rfl) h
        clear ej90
        exact w_X11_digest_136 C hr  j90 hj90 _ _ _ _ _ _ _ hH (lv_sub hl [1, 2, 0] rfl) h
      clear ej113
      exact w_X11_digest_90 C hr  j113 hj113 _ _ _ _ _ _ _ hH (lv_sub hl [1, 2, 0] rfl) h
    clear ej133
    exact w_X11_digest_57 C hr  j133 hj133 _ _ _ _ _ _ _ hH (lv_sub hl [2, 1, 0] rfl) h
  clear ej146
  exact w_X11_digest_6 C hr  j146 hj146 _ _ _ _ _ _ _ hH (lv_sub hl [2, 1, 0] rfl) h
theorem c_X11_digest (l : Launch) (g : gT)   {S : sT} {r : Int64} {S1 : sT} (h : f_X11_digest  S = some (r, S1)) : MF l yX11_digest cX11_digest 5 (some .long) 8 g [.ref (gad g 10 0)] S (some (.long r)) S1 := by
  refine MF.of (own := RX11) rfl rfl (Nat.le_of_ble_eq_true rfl) ?_
  intro p e s m below meth c C hr hH ls hl
  exact w_X11_digest C hr (o := (r, S1))  hH hl h
end G26
