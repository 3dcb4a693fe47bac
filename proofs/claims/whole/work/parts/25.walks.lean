section G25
variable {p : Program} {l : Launch} {e : Env} {s : State} {m : MethodId} {args : Array Value} {below : List Frame} {meth : Method} {c : Code} {g : gT}
theorem nd_X11_seen : yX11_seen.cls ≠ "java/lang/invoke/MethodHandle" ∧ yX11_seen.cls ≠ "java/lang/invoke/VarHandle" ∧ (parseMethodDescriptor yX11_seen.desc).map (fun d => d.parameters.length) = some 3 := by decide +kernel
def f_X11_seen (a1 : Int32) (a2 : Int32) (a3 : Int32) (S : sT) : Option (Int32 × sT) :=
 bn (f_X11_in ((a1).toInt64) (0 : Int64) (12 : Int64) S) (fun r2 =>
 (if r2 = (0 : Int32) then
 some ((-2 : Int32), S)
 else
 bn (f_X11_in ((a2).toInt64) (0 : Int64) (7 : Int64) S) (fun r4 =>
 (if r4 = (0 : Int32) then
 some ((-2 : Int32), S)
 else
 bn (f_X11_in ((a3).toInt64) (0 : Int64) (16 : Int64) S) (fun r6 =>
 (if r6 = (0 : Int32) then
 some ((-2 : Int32), S)
 else
 (if (S.1 121 0 0) = (8 : Int32) then
 some ((-4 : Int32), S)
 else
 ck (vi ((3 : Int32) * (S.1 121 0 0)) 24) (
 lt (us S 46 0 (cl ((3 : Int32) * (S.1 121 0 0))) a1) (fun S8 =>
 ck (vi (((3 : Int32) * (S8.1 121 0 0)) + (1 : Int32)) 24) (
 lt (us S8 46 0 (cl (((3 : Int32) * (S8.1 121 0 0)) + (1 : Int32))) a2) (fun S10 =>
 ck (vi (((3 : Int32) * (S10.1 121 0 0)) + (2 : Int32)) 24) (
 lt (us S10 46 0 (cl (((3 : Int32) * (S10.1 121 0 0)) + (2 : Int32))) a3) (fun S12 =>
 lt (us S12 121 0 0 ((S12.1 121 0 0) + (1 : Int32))) (fun S13 =>
 some ((S13.1 121 0 0), S13)))))))))))))))
set_option maxHeartbeats 4000000 in
set_option maxRecDepth 100000 in
theorem w_X11_seen (C : Cx p s m args meth c cX11_seen 4 RX11 g) (hr : meth.sig.returnType = (some .int)) {o : Int32 × sT} {a1 : Int32} {a2 : Int32} {a3 : Int32}  {S : sT} {H : Heap} {locs : List Loc} {ls : Array Slot} (hH : Hp g s S H locs) (hl : lv_has ls 4 [(0, .ref (gad g 10 0)), (1, .int a1), (2, .int a2), (3, .int a3)]) (h : f_X11_seen a1 a2 a3 S = some o) : W p l e (rmL 2) s m args below meth c H locs 0 0 (Qm g below args s (some (.int o.1)) o.2) (F0 m 0 ls []) := by
  obtain ⟨hx, hb, hml, hown, hts, hlk, hK⟩ := id C
  unfold f_X11_seen at h
  refine lv_iload_n hx hb dX11_seen_0 rfl (lv_at hl 1 rfl) ?_
  refine lv_i2l hx hb dX11_seen_1 rfl ?_
  refine lv_lconst (v := (0 : Int64)) hx hb dX11_seen_2 (by decide) ?_
  refine lv_ldc2 (v := (12 : Int64)) hx hb hown (hts _ q758) dX11_seen_3 ?_
  obtain ⟨r2, hc1, h⟩ := bn_e h
  refine r_callS1 (As := [.long ((a1).toInt64), .long (0 : Int64), .long (12 : Int64)]) C hl.1 hH (c_X11_in l g  hc1) q307 q5 q305 q306 nd_X11_in rfl (by decide) ⟨Nat.zero_le _, Nat.zero_le _⟩ (Nat.le_of_ble_eq_true rfl) dX11_seen_6 (fun H locs hH => ?_)
  refine lv_if_eq (tgt := 36) hx hb dX11_seen_9 (by decide) (fun c17 => ?_) (fun c17 => ?_)
  · replace h := if_t h c17
    refine lv_bipush (v := (-2 : Int32)) hx hb dX11_seen_36 (by decide) ?_
    exact E_int C hr hH h dX11_seen_38
  · replace h := if_f h c17
    refine lv_iload_n hx hb dX11_seen_12 rfl (lv_at hl 2 rfl) ?_
    refine lv_i2l hx hb dX11_seen_13 rfl ?_
    refine lv_lconst (v := (0 : Int64)) hx hb dX11_seen_14 (by decide) ?_
    refine lv_ldc2 (v := (7 : Int64)) hx hb hown (hts _ q495) dX11_seen_15 ?_
    obtain ⟨r4, hc3, h⟩ := bn_e h
    refine r_callS1 (As := [.long ((a2).toInt64), .long (0 : Int64), .long (7 : Int64)]) C hl.1 hH (c_X11_in l g  hc3) q307 q5 q305 q306 nd_X11_in rfl (by decide) ⟨Nat.zero_le _, Nat.zero_le _⟩ (Nat.le_of_ble_eq_true rfl) dX11_seen_18 (fun H locs hH => ?_)
    refine lv_if_eq (tgt := 36) hx hb dX11_seen_21 (by decide) (fun c16 => ?_) (fun c16 => ?_)
    · replace h := if_t h c16
      refine lv_bipush (v := (-2 : Int32)) hx hb dX11_seen_36 (by decide) ?_
      exact E_int C hr hH h dX11_seen_38
    · replace h := if_f h c16
      refine lv_iload_n hx hb dX11_seen_24 rfl (lv_at hl 3 rfl) ?_
      refine lv_i2l hx hb dX11_seen_25 rfl ?_
      refine lv_lconst (v := (0 : Int64)) hx hb dX11_seen_26 (by decide) ?_
      refine lv_ldc2 (v := (16 : Int64)) hx hb hown (hts _ q759) dX11_seen_27 ?_
      obtain ⟨r6, hc5, h⟩ := bn_e h
      refine r_callS1 (As := [.long ((a3).toInt64), .long (0 : Int64), .long (16 : Int64)]) C hl.1 hH (c_X11_in l g  hc5) q307 q5 q305 q306 nd_X11_in rfl (by decide) ⟨Nat.zero_le _, Nat.zero_le _⟩ (Nat.le_of_ble_eq_true rfl) dX11_seen_30 (fun H locs hH => ?_)
      refine lv_if_ne (tgt := 39) hx hb dX11_seen_33 (by decide) (fun c15 => ?_) (fun c15 => ?_)
      · replace h := if_f h c15
        refine lv_aload_n hx hb dX11_seen_39 rfl (lv_at hl 0 rfl) ?_
        refine gf_X11_247 C hH dX11_seen_40 ?_
        refine lv_bipush (v := (8 : Int32)) hx hb dX11_seen_43 (by decide) ?_
        refine lv_icmp_ne (tgt := 51) hx hb dX11_seen_45 (by decide) (fun c14 => ?_) (fun c14 => ?_)
        · replace h := if_f h c14
          refine lv_aload_n hx hb dX11_seen_51 rfl (lv_at hl 0 rfl) ?_
          refine gf_X11_49 C hH dX11_seen_52 ?_
          refine lv_iconst (v := (3 : Int32)) hx hb dX11_seen_55 (by decide) ?_
          refine lv_aload_n hx hb dX11_seen_56 rfl (lv_at hl 0 rfl) ?_
          refine gf_X11_247 C hH dX11_seen_57 ?_
          refine lv_imul hx hb dX11_seen_60 ?_
          refine lv_iload_n hx hb dX11_seen_61 rfl (lv_at hl 1 rfl) ?_
          obtain ⟨hv7, h⟩ := ck_e h
          refine r_ast C hH ka_46 ko_46 (by decide) (by decide) (vi_in hv7) dX11_seen_62 (fun S8 H locs eS hH => ?_)
          replace h := lt_e h eS
          refine lv_aload_n hx hb dX11_seen_63 rfl (lv_at hl 0 rfl) ?_
          refine gf_X11_49 C hH dX11_seen_64 ?_
          refine lv_iconst (v := (3 : Int32)) hx hb dX11_seen_67 (by decide) ?_
          refine lv_aload_n hx hb dX11_seen_68 rfl (lv_at hl 0 rfl) ?_
          refine gf_X11_247 C hH dX11_seen_69 ?_
          refine lv_imul hx hb dX11_seen_72 ?_
          refine lv_iconst (v := (1 : Int32)) hx hb dX11_seen_73 (by decide) ?_
          refine lv_iadd hx hb dX11_seen_74 ?_
          refine lv_iload_n hx hb dX11_seen_75 rfl (lv_at hl 2 rfl) ?_
          obtain ⟨hv9, h⟩ := ck_e h
          refine r_ast C hH ka_46 ko_46 (by decide) (by decide) (vi_in hv9) dX11_seen_76 (fun S10 H locs eS hH => ?_)
          replace h := lt_e h eS
          refine lv_aload_n hx hb dX11_seen_77 rfl (lv_at hl 0 rfl) ?_
          refine gf_X11_49 C hH dX11_seen_78 ?_
          refine lv_iconst (v := (3 : Int32)) hx hb dX11_seen_81 (by decide) ?_
          refine lv_aload_n hx hb dX11_seen_82 rfl (lv_at hl 0 rfl) ?_
          refine gf_X11_247 C hH dX11_seen_83 ?_
          refine lv_imul hx hb dX11_seen_86 ?_
          refine lv_iconst (v := (2 : Int32)) hx hb dX11_seen_87 (by decide) ?_
          refine lv_iadd hx hb dX11_seen_88 ?_
          refine lv_iload_n hx hb dX11_seen_89 rfl (lv_at hl 3 rfl) ?_
          obtain ⟨hv11, h⟩ := ck_e h
          refine r_ast C hH ka_46 ko_46 (by decide) (by decide) (vi_in hv11) dX11_seen_90 (fun S12 H locs eS hH => ?_)
          replace h := lt_e h eS
          refine lv_aload_n hx hb dX11_seen_91 rfl (lv_at hl 0 rfl) ?_
          refine lv_dup hx hb dX11_seen_92 rfl ?_
          refine gf_X11_247 C hH dX11_seen_93 ?_
          refine lv_iconst (v := (1 : Int32)) hx hb dX11_seen_96 (by decide) ?_
          refine lv_iadd hx hb dX11_seen_97 ?_
          refine pf_X11_247 C hH dX11_seen_98 (fun S13 H locs eS hH => ?_)
          replace h := lt_e h eS
          refine lv_aload_n hx hb dX11_seen_101 rfl (lv_at hl 0 rfl) ?_
          refine gf_X11_247 C hH dX11_seen_102 ?_
          exact E_int C hr hH h dX11_seen_105
        · replace h := if_t h c14
          refine lv_bipush (v := (-4 : Int32)) hx hb dX11_seen_48 (by decide) ?_
          exact E_int C hr hH h dX11_seen_50
      · replace h := if_t h c15
        refine lv_bipush (v := (-2 : Int32)) hx hb dX11_seen_36 (by decide) ?_
        exact E_int C hr hH h dX11_seen_38
theorem c_X11_seen (l : Launch) (g : gT) {a1 : Int32} {a2 : Int32} {a3 : Int32}  {S : sT} {r : Int32} {S1 : sT} (h : f_X11_seen a1 a2 a3 S = some (r, S1)) : MF l yX11_seen cX11_seen 4 (some .int) 2 g [.ref (gad g 10 0), .int a1, .int a2, .int a3] S (some (.int r)) S1 := by
  refine MF.of (own := RX11) rfl rfl (Nat.le_of_ble_eq_true rfl) ?_
  intro p e s m below meth c C hr hH ls hl
  exact w_X11_seen C hr (o := (r, S1))  hH hl h
theorem nd_X11_forget : yX11_forget.cls ≠ "java/lang/invoke/MethodHandle" ∧ yX11_forget.cls ≠ "java/lang/invoke/VarHandle" ∧ (parseMethodDescriptor yX11_forget.desc).map (fun d => d.parameters.length) = some 0 := by decide +kernel
def f_X11_forget  (S : sT) : Option (Int32 × sT) :=
 lt (S.1 121 0 0) (fun x1 =>
 lt (us S 121 0 0 (0 : Int32)) (fun S2 =>
 some (x1, S2)))
set_option maxHeartbeats 4000000 in
set_option maxRecDepth 100000 in
theorem w_X11_forget (C : Cx p s m args meth c cX11_forget 2 RX11 g) (hr : meth.sig.returnType = (some .int)) {o : Int32 × sT}   {S : sT} {H : Heap} {locs : List Loc} {ls : Array Slot} (hH : Hp g s S H locs) (hl : lv_has ls 2 [(0, .ref (gad g 10 0))]) (h : f_X11_forget  S = some o) : W p l e (rmL 1) s m args below meth c H locs 0 0 (Qm g below args s (some (.int o.1)) o.2) (F0 m 0 ls []) := by
  obtain ⟨hx, hb, hml, hown, hts, hlk, hK⟩ := id C
  unfold f_X11_forget at h
  refine lv_aload_n hx hb dX11_forget_0 rfl (lv_at hl 0 rfl) ?_
  refine gf_X11_247 C hH dX11_forget_1 ?_
  refine lv_topi (fun x1 ex1 => ?_)
  replace h := lt_e h ex1
  refine lv_istore_n (lv' := [(1, .int x1), (0, .ref (gad g 10 0))]) hx hb dX11_forget_4 rfl hl (by decide) rfl (fun ls hl => ?_)
  refine lv_aload_n hx hb dX11_forget_5 rfl (lv_at hl 1 rfl) ?_
  refine lv_iconst (v := (0 : Int32)) hx hb dX11_forget_6 (by decide) ?_
  refine pf_X11_247 C hH dX11_forget_7 (fun S2 H locs eS hH => ?_)
  replace h := lt_e h eS
  refine lv_iload_n hx hb dX11_forget_10 rfl (lv_at hl 0 rfl) ?_
  exact E_int C hr hH h dX11_forget_11
theorem c_X11_forget (l : Launch) (g : gT)   {S : sT} {r : Int32} {S1 : sT} (h : f_X11_forget  S = some (r, S1)) : MF l yX11_forget cX11_forget 2 (some .int) 1 g [.ref (gad g 10 0)] S (some (.int r)) S1 := by
  refine MF.of (own := RX11) rfl rfl (Nat.le_of_ble_eq_true rfl) ?_
  intro p e s m below meth c C hr hH ls hl
  exact w_X11_forget C hr (o := (r, S1))  hH hl h
theorem nd_X11_read : yX11_read.cls ≠ "java/lang/invoke/MethodHandle" ∧ yX11_read.cls ≠ "java/lang/invoke/VarHandle" ∧ (parseMethodDescriptor yX11_read.desc).map (fun d => d.parameters.length) = some 1 := by decide +kernel
def b_X11_read_29 (a1 : Int32) (x4 : Int32) (x5 : Int32) (S6 : sT) (k7 : Int32 → Int32 → sT → Option (Int32 × sT)) : Option (Int32 × sT) :=
 (if x5 = (0 : Int32) then
 some (x4, S6)
 else
 ck (vi a1 4) (
 (if (S6.1 34 0 (cl a1)) < (((3 : Int32) * x4) + (3 : Int32)) then
 some (x4, S6)
 else
 lt (((60 : Int32) * a1) + ((3 : Int32) * x4)) (fun x9 =>
 ck (vi x9 240) (
 ck (vi (x9 + (1 : Int32)) 240) (
 ck (vi (x9 + (2 : Int32)) 240) (
 bn2 (f_X11_seen (S6.1 35 0 (cl x9)) (S6.1 35 0 (cl (x9 + (1 : Int32)))) (S6.1 35 0 (cl (x9 + (2 : Int32)))) S6) (fun r14 S15 =>
 jn (fun (y16 : Int32) => jn (fun (y17 : Int32) => lt (x4 + y17) (fun x18 =>
 k7 x18 y16 S15))
 (fun j19 => (if y16 = (0 : Int32) then
 j19 (0 : Int32)
 else
 j19 (1 : Int32))))
 (fun j21 => (if r14 < (0 : Int32) then
 j21 (0 : Int32)
 else
 j21 (1 : Int32)))))))))))
def l_X11_read_29 (a1 : Int32) : Nat → Int32 → Int32 → sT → Option (Int32 × sT)
 | 0, _, _, _ => none
 | n + 1, x4, x5, S6 => b_X11_read_29 a1 x4 x5 S6 (l_X11_read_29 a1 n)
theorem l_X11_read_29_s (a1 : Int32) (n : Nat) (x4 : Int32) (x5 : Int32) (S6 : sT) : l_X11_read_29 a1 (n + 1) x4 x5 S6 = b_X11_read_29 a1 x4 x5 S6 (l_X11_read_29 a1 n) := rfl
def f_X11_read (a1 : Int32) (S : sT) : Option (Int32 × sT) :=
 bn (f_X11_isSheet a1 S) (fun r2 =>
 (if r2 = (0 : Int32) then
 some ((-2 : Int32), S)
 else
 ck (vi a1 4) (
 (if (0 : Int32) ≤ (S.1 33 0 (cl a1)) then
 l_X11_read_29 a1 FU (0 : Int32) (1 : Int32) S
 else
 bn2 (f_X11_finds (1 : Int32) S) (fun r26 S27 =>
 some (r26, S27))))))
set_option maxHeartbeats 4000000 in
set_option maxRecDepth 100000 in
theorem w_X11_read_29 (C : Cx p s m args meth c cX11_read 5 RX11 g) (hr : meth.sig.returnType = (some .int)) {o : Int32 × sT}  {a1 : Int32}   : ∀ (n : Nat) (x4 : Int32) (x5 : Int32) (S6 : sT) (H : Heap) (locs : List Loc) (ls : Array Slot), Hp g s S6 H locs → lv_has ls 5 [(0, .ref (gad g 10 0)), (1, .int a1), (2, .int x4), (3, .int x5)] → l_X11_read_29 a1 n x4 x5 S6 = some o → W p l e (rmL 3) s m args below meth c H locs 0 0 (Qm g below args s (some (.int o.1)) o.2) (F0 m 29 ls []) := by
  obtain ⟨hx, hb, hml, hown, hts, hlk, hK⟩ := id C
  intro n
  induction n with
  | zero =>
    intro x4 x5 S6 H locs ls hH hl h
    cases h
  | succ n ih =>
    intro x4 x5 S6 H locs ls hH hl h
    rw [l_X11_read_29_s] at h
    unfold b_X11_read_29 at h
    refine lv_iload_n hx hb dX11_read_29 rfl (lv_at hl 3 rfl) ?_
    refine lv_if_eq (tgt := 110) hx hb dX11_read_30 (by decide) (fun c24 => ?_) (fun c24 => ?_)
    · replace h := if_t h c24
      refine lv_iload_n hx hb dX11_read_110 rfl (lv_at hl 2 rfl) ?_
      exact E_int C hr hH h dX11_read_111
    · replace h := if_f h c24
      refine lv_iconst (v := (3 : Int32)) hx hb dX11_read_33 (by decide) ?_
      refine lv_iload_n hx hb dX11_read_34 rfl (lv_at hl 2 rfl) ?_
      refine lv_imul hx hb dX11_read_35 ?_
      refine lv_iconst (v := (3 : Int32)) hx hb dX11_read_36 (by decide) ?_
      refine lv_iadd hx hb dX11_read_37 ?_
      refine lv_aload_n hx hb dX11_read_38 rfl (lv_at hl 0 rfl) ?_
      refine gf_X11_13 C hH dX11_read_39 ?_
      refine lv_iload_n hx hb dX11_read_42 rfl (lv_at hl 1 rfl) ?_
      obtain ⟨hv8, h⟩ := ck_e h
      refine r_ald C hH ka_34 (by decide) (by decide) (vi_in hv8) dX11_read_43 ?_
      refine lv_icmp_gt (tgt := 110) hx hb dX11_read_44 (by decide) (fun c23 => ?_) (fun c23 => ?_)
      · replace h := if_t h c23
        refine lv_iload_n hx hb dX11_read_110 rfl (lv_at hl 2 rfl) ?_
        exact E_int C hr hH h dX11_read_111
      · replace h := if_f h c23
        refine lv_bipush (v := (60 : Int32)) hx hb dX11_read_47 (by decide) ?_
        refine lv_iload_n hx hb dX11_read_49 rfl (lv_at hl 1 rfl) ?_
        refine lv_imul hx hb dX11_read_50 ?_
        refine lv_iconst (v := (3 : Int32)) hx hb dX11_read_51 (by decide) ?_
        refine lv_iload_n hx hb dX11_read_52 rfl (lv_at hl 2 rfl) ?_
        refine lv_imul hx hb dX11_read_53 ?_
        refine lv_iadd hx hb dX11_read_54 ?_
        refine lv_topi (fun x9 ex9 => ?_)
        replace h := lt_e h ex9
        refine lv_istore (lv' := [(4, .int x9), (0, .ref (gad g 10 0)), (1, .int a1), (2, .int x4), (3, .int x5)]) hx hb dX11_read_55 hl (by decide) rfl (fun ls hl => ?_)
        refine lv_aload_n hx hb dX11_read_57 rfl (lv_at hl 1 rfl) ?_
        refine lv_aload_n hx hb dX11_read_58 rfl (lv_at hl 1 rfl) ?_
        refine gf_X11_16 C hH dX11_read_59 ?_
        refine lv_iload hx hb dX11_read_62 (lv_at hl 0 rfl) ?_
        obtain ⟨hv10, h⟩ := ck_e h
        refine r_ald C hH ka_35 (by decide) (by decide) (vi_in hv10) dX11_read_64 ?_
        refine lv_aload_n hx hb dX11_read_65 rfl (lv_at hl 1 rfl) ?_
        refine gf_X11_16 C hH dX11_read_66 ?_
        refine lv_iload hx hb dX11_read_69 (lv_at hl 0 rfl) ?_
        refine lv_iconst (v := (1 : Int32)) hx hb dX11_read_71 (by decide) ?_
        refine lv_iadd hx hb dX11_read_72 ?_
        obtain ⟨hv11, h⟩ := ck_e h
        refine r_ald C hH ka_35 (by decide) (by decide) (vi_in hv11) dX11_read_73 ?_
        refine lv_aload_n hx hb dX11_read_74 rfl (lv_at hl 1 rfl) ?_
        refine gf_X11_16 C hH dX11_read_75 ?_
        refine lv_iload hx hb dX11_read_78 (lv_at hl 0 rfl) ?_
        refine lv_iconst (v := (2 : Int32)) hx hb dX11_read_80 (by decide) ?_
        refine lv_iadd hx hb dX11_read_81 ?_
        obtain ⟨hv12, h⟩ := ck_e h
        refine r_ald C hH ka_35 (by decide) (by decide) (vi_in hv12) dX11_read_82 ?_
        obtain ⟨r14, S15, hc13, h⟩ := bn2_e h
        refine r_callV1 (ki := 10) (i := 0) (ci := 10) (As := [.int (S6.1 35 0 (cl x9)), .int (S6.1 35 0 (cl (x9 + (1 : Int32)))), .int (S6.1 35 0 (cl (x9 + (2 : Int32))))]) C hl.1 hH (c_X11_seen l g  hc13) q757 q5 q815 q755 q756 nd_X11_seen rfl (by decide) ⟨Nat.zero_le _, Nat.zero_le _⟩ (by decide) (by decide) ⟨_, rfl⟩ rfl (Nat.le_of_ble_eq_true rfl) dX11_read_83 (fun H locs hH => ?_)
        obtain ⟨j21, ej21, h⟩ := jn_e h
        have hj21 : ∀ (y16 : Int32) (H : Heap) (locs : List Loc) (ls : Array Slot), Hp g s S15 H locs → lv_has ls 5 [(0, .ref (gad g 10 0)), (1, .int a1), (2, .int x4)] → j21 y16 = some o → W p l e (rmL 3) s m args below meth c H locs 0 0 (Qm g below args s (some (.int o.1)) o.2) (F0 m 94 ls [.int y16]) := by
          intro y16 H locs ls hH hl h
          rw [ej21] at h
          try dsimp only at h
          refine lv_istore_n (lv' := [(3, .int y16), (0, .ref (gad g 10 0)), (1, .int a1), (2, .int x4)]) hx hb dX11_read_94 rfl hl (by decide) rfl (fun ls hl => ?_)
          refine lv_iload_n hx hb dX11_read_95 rfl (lv_at hl 3 rfl) ?_
          refine lv_iload_n hx hb dX11_read_96 rfl (lv_at hl 0 rfl) ?_
          obtain ⟨j19, ej19, h⟩ := jn_e h
          have hj19 : ∀ (y17 : Int32) (H : Heap) (locs : List Loc) (ls : Array Slot), Hp g s S15 H locs → lv_has ls 5 [(0, .ref (gad g 10 0)), (1, .int a1), (3, .int y16)] → j19 y17 = some o → W p l e (rmL 3) s m args below meth c H locs 0 0 (Qm g below args s (some (.int o.1)) o.2) (F0 m 105 ls [.int y17, .int x4]) := by
            intro y17 H locs ls hH hl h
            rw [ej19] at h
            try dsimp only at h
            refine lv_iadd hx hb dX11_read_105 ?_
            refine lv_topi (fun x18 ex18 => ?_)
            replace h := lt_e h ex18
            refine lv_istore_n (lv' := [(2, .int x18), (0, .ref (gad g 10 0)), (1, .int a1), (3, .int y16)]) hx hb dX11_read_106 rfl hl (by decide) rfl (fun ls hl => ?_)
            refine lv_goto (tgt := 29) hx hb dX11_read_107 (by decide) ?_
            exact ih _ _ _ _ _ _ hH (lv_sub hl [1, 2, 0, 3] rfl) h
          clear ej19
          refine lv_if_eq (tgt := 104) hx hb dX11_read_97 (by decide) (fun c20 => ?_) (fun c20 => ?_)
          · replace h := if_t h c20
            refine lv_iconst (v := (0 : Int32)) hx hb dX11_read_104 (by decide) ?_
            exact hj19 _ _ _ _ hH (lv_sub hl [1, 2, 0] rfl) h
          · replace h := if_f h c20
            refine lv_iconst (v := (1 : Int32)) hx hb dX11_read_100 (by decide) ?_
            refine lv_goto (tgt := 105) hx hb dX11_read_101 (by decide) ?_
            exact hj19 _ _ _ _ hH (lv_sub hl [1, 2, 0] rfl) h
        clear ej21
        refine lv_if_lt (tgt := 93) hx hb dX11_read_86 (by decide) (fun c22 => ?_) (fun c22 => ?_)
        · replace h := if_t h c22
          refine lv_iconst (v := (0 : Int32)) hx hb dX11_read_93 (by decide) ?_
          exact hj21 _ _ _ _ hH (lv_sub hl [1, 2, 3] rfl) h
        · replace h := if_f h c22
          refine lv_iconst (v := (1 : Int32)) hx hb dX11_read_89 (by decide) ?_
          refine lv_goto (tgt := 94) hx hb dX11_read_90 (by decide) ?_
          exact hj21 _ _ _ _ hH (lv_sub hl [1, 2, 3] rfl) h
set_option maxHeartbeats 4000000 in
set_option maxRecDepth 100000 in
theorem w_X11_read (C : Cx p s m args meth c cX11_read 5 RX11 g) (hr : meth.sig.returnType = (some .int)) {o : Int32 × sT} {a1 : Int32}  {S : sT} {H : Heap} {locs : List Loc} {ls : Array Slot} (hH : Hp g s S H locs) (hl : lv_has ls 5 [(0, .ref (gad g 10 0)), (1, .int a1)]) (h : f_X11_read a1 S = some o) : W p l e (rmL 3) s m args below meth c H locs 0 0 (Qm g below args s (some (.int o.1)) o.2) (F0 m 0 ls []) := by
  obtain ⟨hx, hb, hml, hown, hts, hlk, hK⟩ := id C
  unfold f_X11_read at h
  refine lv_iload_n hx hb dX11_read_0 rfl (lv_at hl 1 rfl) ?_
  obtain ⟨r2, hc1, h⟩ := bn_e h
  refine r_callS1 (As := [.int a1]) C hl.1 hH (c_X11_isSheet l g  hc1) q809 q5 q807 q808 nd_X11_isSheet rfl (by decide) ⟨Nat.zero_le _, Nat.zero_le _⟩ (Nat.le_of_ble_eq_true rfl) dX11_read_1 (fun H locs hH => ?_)
  refine lv_if_ne (tgt := 10) hx hb dX11_read_4 (by decide) (fun c29 => ?_) (fun c29 => ?_)
  · replace h := if_f h c29
    refine lv_aload_n hx hb dX11_read_10 rfl (lv_at hl 0 rfl) ?_
    refine gf_X11_7 C hH dX11_read_11 ?_
    refine lv_iload_n hx hb dX11_read_14 rfl (lv_at hl 1 rfl) ?_
    obtain ⟨hv3, h⟩ := ck_e h
    refine r_ald C hH ka_33 (by decide) (by decide) (vi_in hv3) dX11_read_15 ?_
    refine lv_if_ge (tgt := 25) hx hb dX11_read_16 (by decide) (fun c28 => ?_) (fun c28 => ?_)
    · replace h := if_t h c28
      refine lv_iconst (v := (0 : Int32)) hx hb dX11_read_25 (by decide) ?_
      refine lv_istore_n (lv' := [(2, .int (0 : Int32)), (0, .ref (gad g 10 0)), (1, .int a1)]) hx hb dX11_read_26 rfl hl (by decide) rfl (fun ls hl => ?_)
      refine lv_iconst (v := (1 : Int32)) hx hb dX11_read_27 (by decide) ?_
      refine lv_istore_n (lv' := [(3, .int (1 : Int32)), (2, .int (0 : Int32)), (0, .ref (gad g 10 0)), (1, .int a1)]) hx hb dX11_read_28 rfl hl (by decide) rfl (fun ls hl => ?_)
      exact w_X11_read_29 C hr   _ _ _ _ _ _ _ hH (lv_sub hl [2, 3, 1, 0] rfl) h
    · replace h := if_f h c28
      refine lv_aload_n hx hb dX11_read_19 rfl (lv_at hl 0 rfl) ?_
      refine lv_iconst (v := (1 : Int32)) hx hb dX11_read_20 (by decide) ?_
      obtain ⟨r26, S27, hc25, h⟩ := bn2_e h
      refine r_callV1 (ki := 10) (i := 0) (ci := 10) (As := [.int (1 : Int32)]) C hl.1 hH (c_X11_finds l g  hc25) q813 q5 q810 q811 q812 nd_X11_finds rfl (by decide) ⟨Nat.zero_le _, Nat.zero_le _⟩ (by decide) (by decide) ⟨_, rfl⟩ rfl (Nat.le_of_ble_eq_true rfl) dX11_read_21 (fun H locs hH => ?_)
      exact E_int C hr hH h dX11_read_24
  · replace h := if_t h c29
    refine lv_bipush (v := (-2 : Int32)) hx hb dX11_read_7 (by decide) ?_
    exact E_int C hr hH h dX11_read_9
theorem c_X11_read (l : Launch) (g : gT) {a1 : Int32}  {S : sT} {r : Int32} {S1 : sT} (h : f_X11_read a1 S = some (r, S1)) : MF l yX11_read cX11_read 5 (some .int) 3 g [.ref (gad g 10 0), .int a1] S (some (.int r)) S1 := by
  refine MF.of (own := RX11) rfl rfl (Nat.le_of_ble_eq_true rfl) ?_
  intro p e s m below meth c C hr hH ls hl
  exact w_X11_read C hr (o := (r, S1))  hH hl h
theorem nd_X11_isSeen : yX11_isSeen.cls ≠ "java/lang/invoke/MethodHandle" ∧ yX11_isSeen.cls ≠ "java/lang/invoke/VarHandle" ∧ (parseMethodDescriptor yX11_isSeen.desc).map (fun d => d.parameters.length) = some 0 := by decide +kernel
def b_X11_isSeen_4  (x1 : Int32) (x2 : Int32) (S3 : sT) (k4 : Int32 → Int32 → sT → Option (Int32 × sT)) : Option (Int32 × sT) :=
 (if (S3.1 121 0 0) ≤ x2 then
 ck (vz x1) (
 some (x1, S3))
 else
 (if x1 = (0 : Int32) then
 ck (vz x1) (
 some (x1, S3))
 else
 ck (vi ((3 : Int32) * x2) 24) (
 bn (f_X11_areTurns (S3.1 46 0 (cl ((3 : Int32) * x2))) S3) (fun r9 =>
 jn (fun (y10 : Int32) (S11 : sT) => lt (x2 + (1 : Int32)) (fun x12 =>
 k4 y10 x12 S11))
 (fun j13 => jn (fun (S14 : sT) => j13 (0 : Int32) S14)
 (fun j15 => (if r9 = (0 : Int32) then
 j15 S3
 else
 ck (vi (((3 : Int32) * x2) + (1 : Int32)) 24) (
 bn (f_X11_isColumn (S3.1 46 0 (cl (((3 : Int32) * x2) + (1 : Int32)))) S3) (fun r18 =>
 (if r18 = (0 : Int32) then
 j15 S3
 else
 ck (vi ((3 : Int32) * x2) 24) (
 ck (vi (((3 : Int32) * x2) + (1 : Int32)) 24) (
 bn2 (f_X11_heightOf (S3.1 46 0 (cl ((3 : Int32) * x2))) (S3.1 46 0 (cl (((3 : Int32) * x2) + (1 : Int32)))) S3) (fun r22 S23 =>
 ck (vi (((3 : Int32) * x2) + (2 : Int32)) 24) (
 (if r22 = (S23.1 46 0 (cl (((3 : Int32) * x2) + (2 : Int32)))) then
 j13 (1 : Int32) S23
 else
 j15 S23)))))))))))))))
def l_X11_isSeen_4  : Nat → Int32 → Int32 → sT → Option (Int32 × sT)
 | 0, _, _, _ => none
 | n + 1, x1, x2, S3 => b_X11_isSeen_4  x1 x2 S3 (l_X11_isSeen_4  n)
theorem l_X11_isSeen_4_s  (n : Nat) (x1 : Int32) (x2 : Int32) (S3 : sT) : l_X11_isSeen_4  (n + 1) x1 x2 S3 = b_X11_isSeen_4  x1 x2 S3 (l_X11_isSeen_4  n) := rfl
def f_X11_isSeen  (S : sT) : Option (Int32 × sT) :=
 l_X11_isSeen_4  FU (1 : Int32) (0 : Int32) S
set_option maxHeartbeats 4000000 in
set_option maxRecDepth 100000 in
theorem w_X11_isSeen_4 (C : Cx p s m args meth c cX11_isSeen 3 RX11 g) (hr : meth.sig.returnType = (some .boolean)) {o : Int32 × sT}     : ∀ (n : Nat) (x1 : Int32) (x2 : Int32) (S3 : sT) (H : Heap) (locs : List Loc) (ls : Array Slot), Hp g s S3 H locs → lv_has ls 3 [(0, .ref (gad g 10 0)), (1, .int x1), (2, .int x2)] → l_X11_isSeen_4  n x1 x2 S3 = some o → W p l e (rmL 6) s m args below meth c H locs 0 0 (Qm g below args s (some (.int o.1)) o.2) (F0 m 4 ls []) := by
  obtain ⟨hx, hb, hml, hown, hts, hlk, hK⟩ := id C
  intro n
  induction n with
  | zero =>
    intro x1 x2 S3 H locs ls hH hl h
    cases h
  | succ n ih =>
    intro x1 x2 S3 H locs ls hH hl h
    rw [l_X11_isSeen_4_s] at h
    unfold b_X11_isSeen_4 at h
    refine lv_iload_n hx hb dX11_isSeen_4 rfl (lv_at hl 2 rfl) ?_
    refine lv_aload_n hx hb dX11_isSeen_5 rfl (lv_at hl 0 rfl) ?_
    refine gf_X11_247 C hH dX11_isSeen_6 ?_
    refine lv_icmp_ge (tgt := 95) hx hb dX11_isSeen_9 (by decide) (fun c29 => ?_) (fun c29 => ?_)
    · replace h := if_t h c29
      refine lv_iload_n hx hb dX11_isSeen_95 rfl (lv_at hl 1 rfl) ?_
      obtain ⟨hv5, h⟩ := ck_e h
      exact E_bool C hr hH (vz_n hv5) h dX11_isSeen_96
    · replace h := if_f h c29
      refine lv_iload_n hx hb dX11_isSeen_12 rfl (lv_at hl 1 rfl) ?_
      refine lv_if_eq (tgt := 95) hx hb dX11_isSeen_13 (by decide) (fun c28 => ?_) (fun c28 => ?_)
      · replace h := if_t h c28
        refine lv_iload_n hx hb dX11_isSeen_95 rfl (lv_at hl 1 rfl) ?_
        obtain ⟨hv6, h⟩ := ck_e h
        exact E_bool C hr hH (vz_n hv6) h dX11_isSeen_96
      · replace h := if_f h c28
        refine lv_aload_n hx hb dX11_isSeen_16 rfl (lv_at hl 0 rfl) ?_
        refine lv_aload_n hx hb dX11_isSeen_17 rfl (lv_at hl 0 rfl) ?_
        refine gf_X11_49 C hH dX11_isSeen_18 ?_
        refine lv_iconst (v := (3 : Int32)) hx hb dX11_isSeen_21 (by decide) ?_
        refine lv_iload_n hx hb dX11_isSeen_22 rfl (lv_at hl 2 rfl) ?_
        refine lv_imul hx hb dX11_isSeen_23 ?_
        obtain ⟨hv7, h⟩ := ck_e h
        refine r_ald C hH ka_46 (by decide) (by decide) (vi_in hv7) dX11_isSeen_24 ?_
        obtain ⟨r9, hc8, h⟩ := bn_e h
        refine r_callV1 (ki := 10) (i := 0) (ci := 10) (As := [.int (S3.1 46 0 (cl ((3 : Int32) * x2)))]) C hl.1 hH (c_X11_areTurns l g  hc8) q414 q5 q411 q412 q413 nd_X11_areTurns rfl (by decide) ⟨Nat.zero_le _, Nat.zero_le _⟩ (by decide) (by decide) ⟨_, rfl⟩ rfl (Nat.le_of_ble_eq_true rfl) dX11_isSeen_25 (fun H locs hH => ?_)
        obtain ⟨j13, ej13, h⟩ := jn_e h
        have hj13 : ∀ (y10 : Int32) (S11 : sT) (H : Heap) (locs : List Loc) (ls : Array Slot), Hp g s S11 H locs → lv_has ls 3 [(0, .ref (gad g 10 0)), (2, .int x2)] → j13 y10 S11 = some o → W p l e (rmL 6) s m args below meth c H locs 0 0 (Qm g below args s (some (.int o.1)) o.2) (F0 m 88 ls [.int y10]) := by
          intro y10 S11 H locs ls hH hl h
          rw [ej13] at h
          try dsimp only at h
          refine lv_istore_n (lv' := [(1, .int y10), (0, .ref (gad g 10 0)), (2, .int x2)]) hx hb dX11_isSeen_88 rfl hl (by decide) rfl (fun ls hl => ?_)
          obtain ⟨x12, ex12⟩ : ∃ z : Int32, z = (x2 + (1 : Int32)) := ⟨_, rfl⟩
          replace h := lt_e h ex12
          refine lv_iinc (v := x12) (lv' := [(2, .int x12), (1, .int y10), (0, .ref (gad g 10 0))]) hx hb dX11_isSeen_89 hl (k := 2) rfl (by rw [ex12]; rfl) (by decide) rfl (fun ls hl => ?_)
          refine lv_goto (tgt := 4) hx hb dX11_isSeen_92 (by decide) ?_
          exact ih _ _ _ _ _ _ hH (lv_sub hl [2, 1, 0] rfl) h
        clear ej13
        obtain ⟨j15, ej15, h⟩ := jn_e h
        have hj15 : ∀ (S14 : sT) (H : Heap) (locs : List Loc) (ls : Array Slot), Hp g s S14 H locs → lv_has ls 3 [(0, .ref (gad g 10 0)), (2, .int x2)] → j15 S14 = some o → W p l e (rmL 6) s m args below meth c H locs 0 0 (Qm g below args s (some (.int o.1)) o.2) (F0 m 87 ls []) := by
          intro S14 H locs ls hH hl h
          rw [ej15] at h
          try dsimp only at h
          refine lv_iconst (v := (0 : Int32)) hx hb dX11_isSeen_87 (by decide) ?_
          exact hj13 _ _ _ _ _ hH (lv_sub hl [0, 1] rfl) h
        clear ej15
        refine lv_if_eq (tgt := 87) hx hb dX11_isSeen_28 (by decide) (fun c27 => ?_) (fun c27 => ?_)
        · replace h := if_t h c27
          exact hj15 _ _ _ _ hH (lv_sub hl [0, 2] rfl) h
        · replace h := if_f h c27
          refine lv_aload_n hx hb dX11_isSeen_31 rfl (lv_at hl 0 rfl) ?_
          refine lv_aload_n hx hb dX11_isSeen_32 rfl (lv_at hl 0 rfl) ?_
          refine gf_X11_49 C hH dX11_isSeen_33 ?_
          refine lv_iconst (v := (3 : Int32)) hx hb dX11_isSeen_36 (by decide) ?_
          refine lv_iload_n hx hb dX11_isSeen_37 rfl (lv_at hl 2 rfl) ?_
          refine lv_imul hx hb dX11_isSeen_38 ?_
          refine lv_iconst (v := (1 : Int32)) hx hb dX11_isSeen_39 (by decide) ?_
          refine lv_iadd hx hb dX11_isSeen_40 ?_
          obtain ⟨hv16, h⟩ := ck_e h
          refine r_ald C hH ka_46 (by decide) (by decide) (vi_in hv16) dX11_isSeen_41 ?_
          obtain ⟨r18, hc17, h⟩ := bn_e h
          refine r_callV1 (ki := 10) (i := 0) (ci := 10) (As := [.int (S3.1 46 0 (cl (((3 : Int32) * x2) + (1 : Int32))))]) C hl.1 hH (c_X11_isColumn l g  hc17) q418 q5 q415 q416 q417 nd_X11_isColumn rfl (by decide) ⟨Nat.zero_le _, Nat.zero_le _⟩ (by decide) (by decide) ⟨_, rfl⟩ rfl (Nat.le_of_ble_eq_true rfl) dX11_isSeen_42 (fun H locs hH => ?_)
          refine lv_if_eq (tgt := 87) hx hb dX11_isSeen_45 (by decide) (fun c26 => ?_) (fun c26 => ?_)
          · replace h := if_t h c26
            exact hj15 _ _ _ _ hH (lv_sub hl [0, 2] rfl) h
          · replace h := if_f h c26
            refine lv_aload_n hx hb dX11_isSeen_48 rfl (lv_at hl 0 rfl) ?_
            refine lv_aload_n hx hb dX11_isSeen_49 rfl (lv_at hl 0 rfl) ?_
            refine gf_X11_49 C hH dX11_isSeen_50 ?_
            refine lv_iconst (v := (3 : Int32)) hx hb dX11_isSeen_53 (by decide) ?_
            refine lv_iload_n hx hb dX11_isSeen_54 rfl (lv_at hl 2 rfl) ?_
            refine lv_imul hx hb dX11_isSeen_55 ?_
            obtain ⟨hv19, h⟩ := ck_e h
            refine r_ald C hH ka_46 (by decide) (by decide) (vi_in hv19) dX11_isSeen_56 ?_
            refine lv_aload_n hx hb dX11_isSeen_57 rfl (lv_at hl 0 rfl) ?_
            refine gf_X11_49 C hH dX11_isSeen_58 ?_
            refine lv_iconst (v := (3 : Int32)) hx hb dX11_isSeen_61 (by decide) ?_
            refine lv_iload_n hx hb dX11_isSeen_62 rfl (lv_at hl 2 rfl) ?_
            refine lv_imul hx hb dX11_isSeen_63 ?_
            refine lv_iconst (v := (1 : Int32)) hx hb dX11_isSeen_64 (by decide) ?_
            refine lv_iadd hx hb dX11_isSeen_65 ?_
            obtain ⟨hv20, h⟩ := ck_e h
            refine r_ald C hH ka_46 (by decide) (by decide) (vi_in hv20) dX11_isSeen_66 ?_
            obtain ⟨r22, S23, hc21, h⟩ := bn2_e h
            refine r_callV1 (ki := 10) (i := 0) (ci := 10) (As := [.int (S3.1 46 0 (cl ((3 : Int32) * x2))), .int (S3.1 46 0 (cl (((3 : Int32) * x2) + (1 : Int32))))]) C hl.1 hH (c_X11_heightOf l g  hc21) q422 q5 q419 q420 q421 nd_X11_heightOf rfl (by decide) ⟨Nat.zero_le _, Nat.zero_le _⟩ (by decide) (by decide) ⟨_, rfl⟩ rfl (Nat.le_of_ble_eq_true rfl) dX11_isSeen_67 (fun H locs hH => ?_)
            refine lv_aload_n hx hb dX11_isSeen_70 rfl (lv_at hl 0 rfl) ?_
            refine gf_X11_49 C hH dX11_isSeen_71 ?_
            refine lv_iconst (v := (3 : Int32)) hx hb dX11_isSeen_74 (by decide) ?_
            refine lv_iload_n hx hb dX11_isSeen_75 rfl (lv_at hl 2 rfl) ?_
            refine lv_imul hx hb dX11_isSeen_76 ?_
            refine lv_iconst (v := (2 : Int32)) hx hb dX11_isSeen_77 (by decide) ?_
            refine lv_iadd hx hb dX11_isSeen_78 ?_
            obtain ⟨hv24, h⟩ := ck_e h
            refine r_ald C hH ka_46 (by decide) (by decide) (vi_in hv24) dX11_isSeen_79 ?_
            refine lv_icmp_ne (tgt := 87) hx hb dX11_isSeen_80 (by decide) (fun c25 => ?_) (fun c25 => ?_)
            · replace h := if_f h c25
              exact hj15 _ _ _ _ hH (lv_sub hl [0, 2] rfl) h
            · replace h := if_t h c25
              refine lv_iconst (v := (1 : Int32)) hx hb dX11_isSeen_83 (by decide) ?_
              refine lv_goto (tgt := 88) hx hb dX11_isSeen_84 (by decide) ?_
              exact hj13 _ _ _ _ _ hH (lv_sub hl [0, 2] rfl) h
set_option maxHeartbeats 4000000 in
set_option maxRecDepth 100000 in
theorem w_X11_isSeen (C : Cx p s m args meth c cX11_isSeen 3 RX11 g) (hr : meth.sig.returnType = (some .boolean)) {o : Int32 × sT}   {S : sT} {H : Heap} {locs : List Loc} {ls : Array Slot} (hH : Hp g s S H locs) (hl : lv_has ls 3 [(0, .ref (gad g 10 0))]) (h : f_X11_isSeen  S = some o) : W p l e (rmL 6) s m args below meth c H locs 0 0 (Qm g below args s (some (.int o.1)) o.2) (F0 m 0 ls []) := by
  obtain ⟨hx, hb, hml, hown, hts, hlk, hK⟩ := id C
  unfold f_X11_isSeen at h
  refine lv_iconst (v := (1 : Int32)) hx hb dX11_isSeen_0 (by decide) ?_
  refine lv_istore_n (lv' := [(1, .int (1 : Int32)), (0, .ref (gad g 10 0))]) hx hb dX11_isSeen_1 rfl hl (by decide) rfl (fun ls hl => ?_)
  refine lv_iconst (v := (0 : Int32)) hx hb dX11_isSeen_2 (by decide) ?_
  refine lv_istore_n (lv' := [(2, .int (0 : Int32)), (1, .int (1 : Int32)), (0, .ref (gad g 10 0))]) hx hb dX11_isSeen_3 rfl hl (by decide) rfl (fun ls hl => ?_)
  exact w_X11_isSeen_4 C hr   _ _ _ _ _ _ _ hH (lv_sub hl [2, 1, 0] rfl) h
theorem c_X11_isSeen (l : Launch) (g : gT)   {S : sT} {r : Int32} {S1 : sT} (h : f_X11_isSeen  S = some (r, S1)) : MF l yX11_isSeen cX11_isSeen 3 (some .boolean) 6 g [.ref (gad g 10 0)] S (some (.int r)) S1 := by
  refine MF.of (own := RX11) rfl rfl (Nat.le_of_ble_eq_true rfl) ?_
  intro p e s m below meth c C hr hH ls hl
  exact w_X11_isSeen C hr (o := (r, S1))  hH hl h
theorem nd_X11_whoBy : yX11_whoBy.cls ≠ "java/lang/invoke/MethodHandle" ∧ yX11_whoBy.cls ≠ "java/lang/invoke/VarHandle" ∧ (parseMethodDescriptor yX11_whoBy.desc).map (fun d => d.parameters.length) = some 1 := by decide +kernel
def b_X11_whoBy_9 (j5 : Int32 → sT → Option (Int32 × sT)) (x6 : Int32) (x7 : Int32) (S8 : sT) (k9 : Int32 → Int32 → sT → Option (Int32 × sT)) : Option (Int32 × sT) :=
 (if (S8.1 116 0 0) ≤ x7 then
 j5 x6 S8
 else
 lt (us S8 119 0 0 x7) (fun S10 =>
 bn2 (f_X11_isSeen  S10) (fun r12 S13 =>
 jn (fun (y14 : Int32) => lt (x6 ||| y14) (fun x15 =>
 lt (x7 + (1 : Int32)) (fun x16 =>
 k9 x15 x16 S13)))
 (fun j17 => (if r12 = (0 : Int32) then
 j17 (0 : Int32)
 else
 j17 ((1 : Int32) <<< (x7 &&& 31)))))))
def l_X11_whoBy_9 (j5 : Int32 → sT → Option (Int32 × sT)) : Nat → Int32 → Int32 → sT → Option (Int32 × sT)
 | 0, _, _, _ => none
 | n + 1, x6, x7, S8 => b_X11_whoBy_9 j5 x6 x7 S8 (l_X11_whoBy_9 j5 n)
theorem l_X11_whoBy_9_s (j5 : Int32 → sT → Option (Int32 × sT)) (n : Nat) (x6 : Int32) (x7 : Int32) (S8 : sT) : l_X11_whoBy_9 j5 (n + 1) x6 x7 S8 = b_X11_whoBy_9 j5 x6 x7 S8 (l_X11_whoBy_9 j5 n) := rfl
def f_X11_whoBy (a1 : Int32) (S : sT) : Option (Int32 × sT) :=
 lt (us S 120 0 0 a1) (fun S1 =>
 jn (fun (x2 : Int32) (S3 : sT) => lt (us S3 119 0 0 (-1 : Int32)) (fun S4 =>
 some (x2, S4)))
 (fun j5 => l_X11_whoBy_9 j5 FU (0 : Int32) (0 : Int32) S1))
set_option maxHeartbeats 4000000 in
set_option maxRecDepth 100000 in
theorem w_X11_whoBy_9 (C : Cx p s m args meth c cX11_whoBy 4 RX11 g) (hr : meth.sig.returnType = (some .int)) {o : Int32 × sT}    (j5 : Int32 → sT → Option (Int32 × sT)) (hj5 : ∀ (x2 : Int32) (S3 : sT) (H : Heap) (locs : List Loc) (ls : Array Slot), Hp g s S3 H locs → lv_has ls 4 [(0, .ref (gad g 10 0)), (2, .int x2)] → j5 x2 S3 = some o → W p l e (rmL 7) s m args below meth c H locs 0 0 (Qm g below args s (some (.int o.1)) o.2) (F0 m 45 ls [])) : ∀ (n : Nat) (x6 : Int32) (x7 : Int32) (S8 : sT) (H : Heap) (locs : List Loc) (ls : Array Slot), Hp g s S8 H locs → lv_has ls 4 [(0, .ref (gad g 10 0)), (2, .int x6), (3, .int x7)] → l_X11_whoBy_9 j5 n x6 x7 S8 = some o → W p l e (rmL 7) s m args below meth c H locs 0 0 (Qm g below args s (some (.int o.1)) o.2) (F0 m 9 ls []) := by
  obtain ⟨hx, hb, hml, hown, hts, hlk, hK⟩ := id C
  intro n
  induction n with
  | zero =>
    intro x6 x7 S8 H locs ls hH hl h
    cases h
  | succ n ih =>
    intro x6 x7 S8 H locs ls hH hl h
    rw [l_X11_whoBy_9_s] at h
    unfold b_X11_whoBy_9 at h
    refine lv_iload_n hx hb dX11_whoBy_9 rfl (lv_at hl 2 rfl) ?_
    refine lv_aload_n hx hb dX11_whoBy_10 rfl (lv_at hl 0 rfl) ?_
    refine gf_X11_108 C hH dX11_whoBy_11 ?_
    refine lv_icmp_ge (tgt := 45) hx hb dX11_whoBy_14 (by decide) (fun c19 => ?_) (fun c19 => ?_)
    · replace h := if_t h c19
      exact hj5 _ _ _ _ _ hH (lv_sub hl [0, 1] rfl) h
    · replace h := if_f h c19
      refine lv_aload_n hx hb dX11_whoBy_17 rfl (lv_at hl 0 rfl) ?_
      refine lv_iload_n hx hb dX11_whoBy_18 rfl (lv_at hl 2 rfl) ?_
      refine pf_X11_52 C hH dX11_whoBy_19 (fun S10 H locs eS hH => ?_)
      replace h := lt_e h eS
      refine lv_iload_n hx hb dX11_whoBy_22 rfl (lv_at hl 1 rfl) ?_
      refine lv_aload_n hx hb dX11_whoBy_23 rfl (lv_at hl 0 rfl) ?_
      obtain ⟨r12, S13, hc11, h⟩ := bn2_e h
      refine r_callV1 (ki := 10) (i := 0) (ci := 10) (As := []) C hl.1 hH (c_X11_isSeen l g  hc11) q849 q5 q846 q847 q848 nd_X11_isSeen rfl (by decide) ⟨Nat.zero_le _, Nat.zero_le _⟩ (by decide) (by decide) ⟨_, rfl⟩ rfl (Nat.le_of_ble_eq_true rfl) dX11_whoBy_24 (fun H locs hH => ?_)
      obtain ⟨j17, ej17, h⟩ := jn_e h
      have hj17 : ∀ (y14 : Int32) (H : Heap) (locs : List Loc) (ls : Array Slot), Hp g s S13 H locs → lv_has ls 4 [(0, .ref (gad g 10 0)), (3, .int x7)] → j17 y14 = some o → W p l e (rmL 7) s m args below meth c H locs 0 0 (Qm g below args s (some (.int o.1)) o.2) (F0 m 37 ls [.int y14, .int x6]) := by
        intro y14 H locs ls hH hl h
        rw [ej17] at h
        try dsimp only at h
        refine lv_ior hx hb dX11_whoBy_37 ?_
        refine lv_topi (fun x15 ex15 => ?_)
        replace h := lt_e h ex15
        refine lv_istore_n (lv' := [(2, .int x15), (0, .ref (gad g 10 0)), (3, .int x7)]) hx hb dX11_whoBy_38 rfl hl (by decide) rfl (fun ls hl => ?_)
        obtain ⟨x16, ex16⟩ : ∃ z : Int32, z = (x7 + (1 : Int32)) := ⟨_, rfl⟩
        replace h := lt_e h ex16
        refine lv_iinc (v := x16) (lv' := [(3, .int x16), (2, .int x15), (0, .ref (gad g 10 0))]) hx hb dX11_whoBy_39 hl (k := 2) rfl (by rw [ex16]; rfl) (by decide) rfl (fun ls hl => ?_)
        refine lv_goto (tgt := 9) hx hb dX11_whoBy_42 (by decide) ?_
        exact ih _ _ _ _ _ _ hH (lv_sub hl [2, 1, 0] rfl) h
      clear ej17
      refine lv_if_eq (tgt := 36) hx hb dX11_whoBy_27 (by decide) (fun c18 => ?_) (fun c18 => ?_)
      · replace h := if_t h c18
        refine lv_iconst (v := (0 : Int32)) hx hb dX11_whoBy_36 (by decide) ?_
        exact hj17 _ _ _ _ hH (lv_sub hl [0, 2] rfl) h
      · replace h := if_f h c18
        refine lv_iconst (v := (1 : Int32)) hx hb dX11_whoBy_30 (by decide) ?_
        refine lv_iload_n hx hb dX11_whoBy_31 rfl (lv_at hl 2 rfl) ?_
        refine lv_ishl hx hb dX11_whoBy_32 ?_
        refine lv_goto (tgt := 37) hx hb dX11_whoBy_33 (by decide) ?_
        exact hj17 _ _ _ _ hH (lv_sub hl [0, 2] rfl) h
set_option maxHeartbeats 4000000 in
set_option maxRecDepth 100000 in
theorem w_X11_whoBy (C : Cx p s m args meth c cX11_whoBy 4 RX11 g) (hr : meth.sig.returnType = (some .int)) {o : Int32 × sT} {a1 : Int32}  {S : sT} {H : Heap} {locs : List Loc} {ls : Array Slot} (hH : Hp g s S H locs) (hl : lv_has ls 4 [(0, .ref (gad g 10 0)), (1, .int a1)]) (h : f_X11_whoBy a1 S = some o) : W p l e (rmL 7) s m args below meth c H locs 0 0 (Qm g below args s (some (.int o.1)) o.2) (F0 m 0 ls []) := by
  obtain ⟨hx, hb, hml, hown, hts, hlk, hK⟩ := id C
  unfold f_X11_whoBy at h
  refine lv_iconst (v := (0 : Int32)) hx hb dX11_whoBy_0 (by decide) ?_
  refine lv_istore_n (lv' := [(2, .int (0 : Int32)), (0, .ref (gad g 10 0)), (1, .int a1)]) hx hb dX11_whoBy_1 rfl hl (by decide) rfl (fun ls hl => ?_)
  refine lv_aload_n hx hb dX11_whoBy_2 rfl (lv_at hl 1 rfl) ?_
  refine lv_iload_n hx hb dX11_whoBy_3 rfl (lv_at hl 2 rfl) ?_
  refine pf_X11_129 C hH dX11_whoBy_4 (fun S1 H locs eS hH => ?_)
  replace h := lt_e h eS
  refine lv_iconst (v := (0 : Int32)) hx hb dX11_whoBy_7 (by decide) ?_
  refine lv_istore_n (lv' := [(3, .int (0 : Int32)), (2, .int (0 : Int32)), (0, .ref (gad g 10 0)), (1, .int a1)]) hx hb dX11_whoBy_8 rfl hl (by decide) rfl (fun ls hl => ?_)
  obtain ⟨j5, ej5, h⟩ := jn_e h
  have hj5 : ∀ (x2 : Int32) (S3 : sT) (H : Heap) (locs : List Loc) (ls : Array Slot), Hp g s S3 H locs → lv_has ls 4 [(0, .ref (gad g 10 0)), (2, .int x2)] → j5 x2 S3 = some o → W p l e (rmL 7) s m args below meth c H locs 0 0 (Qm g below args s (some (.int o.1)) o.2) (F0 m 45 ls []) := by
    intro x2 S3 H locs ls hH hl h
    rw [ej5] at h
    try dsimp only at h
    refine lv_aload_n hx hb dX11_whoBy_45 rfl (lv_at hl 0 rfl) ?_
    refine lv_iconst (v := (-1 : Int32)) hx hb dX11_whoBy_46 (by decide) ?_
    refine pf_X11_52 C hH dX11_whoBy_47 (fun S4 H locs eS hH => ?_)
    replace h := lt_e h eS
    refine lv_iload_n hx hb dX11_whoBy_50 rfl (lv_at hl 1 rfl) ?_
    exact E_int C hr hH h dX11_whoBy_51
  clear ej5
  exact w_X11_whoBy_9 C hr  j5 hj5 _ _ _ _ _ _ _ hH (lv_sub hl [2, 1, 0] rfl) h
theorem c_X11_whoBy (l : Launch) (g : gT) {a1 : Int32}  {S : sT} {r : Int32} {S1 : sT} (h : f_X11_whoBy a1 S = some (r, S1)) : MF l yX11_whoBy cX11_whoBy 4 (some .int) 7 g [.ref (gad g 10 0), .int a1] S (some (.int r)) S1 := by
  refine MF.of (own := RX11) rfl rfl (Nat.le_of_ble_eq_true rfl) ?_
  intro p e s m below meth c C hr hH ls hl
  exact w_X11_whoBy C hr (o := (r, S1))  hH hl h
theorem nd_X11_who : yX11_who.cls ≠ "java/lang/invoke/MethodHandle" ∧ yX11_who.cls ≠ "java/lang/invoke/VarHandle" ∧ (parseMethodDescriptor yX11_who.desc).map (fun d => d.parameters.length) = some 1 := by decide +kernel
def f_X11_who (a1 : Int32) (S : sT) : Option (Int32 × sT) :=
 bn (f_X11_reads  S) (fun S2 =>
 bn (f_X11_in ((a1).toInt64) (0 : Int64) (2 : Int64) S2) (fun r4 =>
 (if r4 = (0 : Int32) then
 some ((-2 : Int32), S2)
 else
 bn2 (f_X11_whoBy a1 S2) (fun r6 S7 =>
 some (r6, S7)))))
set_option maxHeartbeats 4000000 in
set_option maxRecDepth 100000 in
theorem w_X11_who (C : Cx p s m args meth c cX11_who 2 RX11 g) (hr : meth.sig.returnType = (some .int)) {o : Int32 × sT} {a1 : Int32}  {S : sT} {H : Heap} {locs : List Loc} {ls : Array Slot} (hH : Hp g s S H locs) (hl : lv_has ls 2 [(0, .ref (gad g 10 0)), (1, .int a1)]) (h : f_X11_who a1 S = some o) : W p l e (rmL 8) s m args below meth c H locs 0 0 (Qm g below args s (some (.int o.1)) o.2) (F0 m 0 ls []) := by
  obtain ⟨hx, hb, hml, hown, hts, hlk, hK⟩ := id C
  unfold f_X11_who at h
  refine lv_aload_n hx hb dX11_who_0 rfl (lv_at hl 0 rfl) ?_
  obtain ⟨S2, hc1, h⟩ := bn_e h
  refine r_callV0 (ki := 10) (i := 0) (ci := 10) (As := []) C hl.1 hH (c_X11_reads l g  hc1) q410 q5 q407 q408 q409 nd_X11_reads rfl (by decide) ⟨Nat.zero_le _, Nat.zero_le _⟩ (by decide) (by decide) ⟨_, rfl⟩ rfl (Nat.le_of_ble_eq_true rfl) dX11_who_1 (fun H locs hH => ?_)
  refine lv_iload_n hx hb dX11_who_4 rfl (lv_at hl 1 rfl) ?_
  refine lv_i2l hx hb dX11_who_5 rfl ?_
  refine lv_lconst (v := (0 : Int64)) hx hb dX11_who_6 (by decide) ?_
  refine lv_ldc2 (v := (2 : Int64)) hx hb hown (hts _ q590) dX11_who_7 ?_
  obtain ⟨r4, hc3, h⟩ := bn_e h
  refine r_callS1 (As := [.long ((a1).toInt64), .long (0 : Int64), .long (2 : Int64)]) C hl.1 hH (c_X11_in l g  hc3) q307 q5 q305 q306 nd_X11_in rfl (by decide) ⟨Nat.zero_le _, Nat.zero_le _⟩ (Nat.le_of_ble_eq_true rfl) dX11_who_10 (fun H locs hH => ?_)
  refine lv_if_eq (tgt := 24) hx hb dX11_who_13 (by decide) (fun c8 => ?_) (fun c8 => ?_)
  · replace h := if_t h c8
    refine lv_bipush (v := (-2 : Int32)) hx hb dX11_who_24 (by decide) ?_
    exact E_int C hr hH h dX11_who_26
  · replace h := if_f h c8
    refine lv_aload_n hx hb dX11_who_16 rfl (lv_at hl 0 rfl) ?_
    refine lv_iload_n hx hb dX11_who_17 rfl (lv_at hl 1 rfl) ?_
    obtain ⟨r6, S7, hc5, h⟩ := bn2_e h
    refine r_callV1 (ki := 10) (i := 0) (ci := 10) (As := [.int a1]) C hl.1 hH (c_X11_whoBy l g  hc5) q845 q5 q842 q843 q844 nd_X11_whoBy rfl (by decide) ⟨Nat.zero_le _, Nat.zero_le _⟩ (by decide) (by decide) ⟨_, rfl⟩ rfl (Nat.le_of_ble_eq_true rfl) dX11_who_18 (fun H locs hH => ?_)
    refine lv_goto (tgt := 26) hx hb dX11_who_21 (by decide) ?_
    exact E_int C hr hH h dX11_who_26
theorem c_X11_who (l : Launch) (g : gT) {a1 : Int32}  {S : sT} {r : Int32} {S1 : sT} (h : f_X11_who a1 S = some (r, S1)) : MF l yX11_who cX11_who 2 (some .int) 8 g [.ref (gad g 10 0), .int a1] S (some (.int r)) S1 := by
  refine MF.of (own := RX11) rfl rfl (Nat.le_of_ble_eq_true rfl) ?_
  intro p e s m below meth c C hr hH ls hl
  exact w_X11_who C hr (o := (r, S1))  hH hl h
theorem nd_X11_frostOf : yX11_frostOf.cls ≠ "java/lang/invoke/MethodHandle" ∧ yX11_frostOf.cls ≠ "java/lang/invoke/VarHandle" ∧ (parseMethodDescriptor yX11_frostOf.desc).map (fun d => d.parameters.length) = some 2 := by decide +kernel
def b_X11_frostOf_205 (x11 : Int32) (j17 : Int64 → sT → Option (Int64 × sT)) (x23 : Int64) (x24 : Int32) (S25 : sT) (k26 : Int32 → sT → Option (Int64 × sT)) : Option (Int64 × sT) :=
 (if (S25.1 115 0 0) ≤ x24 then
 j17 x23 S25
 else
 ck (vi x24 8) (
 bn (f_X11_isIn x11 x24 S25) (fun r29 =>
 jn (fun (y30 : Int32) => ck (vi x24 8) (
 lt (us S25 44 0 (cl x24) ((S25.1 44 0 (cl x24)) + y30)) (fun S32 =>
 lt (x24 + (1 : Int32)) (fun x33 =>
 k26 x33 S32))))
 (fun j34 => (if r29 = (0 : Int32) then
 j34 (0 : Int32)
 else
 j34 (1 : Int32))))))
def l_X11_frostOf_205 (x11 : Int32) (j17 : Int64 → sT → Option (Int64 × sT)) (x23 : Int64) : Nat → Int32 → sT → Option (Int64 × sT)
 | 0, _, _ => none
 | n + 1, x24, S25 => b_X11_frostOf_205 x11 j17 x23 x24 S25 (l_X11_frostOf_205 x11 j17 x23 n)
theorem l_X11_frostOf_205_s (x11 : Int32) (j17 : Int64 → sT → Option (Int64 × sT)) (x23 : Int64) (n : Nat) (x24 : Int32) (S25 : sT) : l_X11_frostOf_205 x11 j17 x23 (n + 1) x24 S25 = b_X11_frostOf_205 x11 j17 x23 x24 S25 (l_X11_frostOf_205 x11 j17 x23 n) := rfl
def b_X11_frostOf_106 (a1 : Int32) (x3 : Int32) (x11 : Int32) (j39 : Int64 → sT → Option (Int64 × sT)) (x40 : Int64) (x41 : Int32) (S42 : sT) (k43 : Int64 → Int32 → sT → Option (Int64 × sT)) : Option (Int64 × sT) :=
 (if (S42.1 115 0 0) ≤ x41 then
 j39 x40 S42
 else
 bn (f_X11_isIn x3 x41 S42) (fun r45 =>
 jn (fun (y46 : Int64) => lt (x40 * y46) (fun x47 =>
 ck (vi x41 8) (
 bn (f_X11_isIn x11 x41 S42) (fun r50 =>
 jn (fun (y51 : Int32) => ck (vi x41 8) (
 lt (us S42 44 0 (cl x41) ((S42.1 44 0 (cl x41)) - y51)) (fun S53 =>
 lt (x41 + (1 : Int32)) (fun x54 =>
 k43 x47 x54 S53))))
 (fun j55 => (if r50 = (0 : Int32) then
 j55 (0 : Int32)
 else
 j55 (1 : Int32)))))))
 (fun j57 => (if r45 = (0 : Int32) then
 j57 (1 : Int64)
 else
 bn (f_X11_isIn x11 x41 S42) (fun r59 =>
 (if r59 = (0 : Int32) then
 j57 ((((16 : Int32) - a1)).toInt64)
 else
 j57 ((a1).toInt64)))))))
def l_X11_frostOf_106 (a1 : Int32) (x3 : Int32) (x11 : Int32) (j39 : Int64 → sT → Option (Int64 × sT)) : Nat → Int64 → Int32 → sT → Option (Int64 × sT)
 | 0, _, _, _ => none
 | n + 1, x40, x41, S42 => b_X11_frostOf_106 a1 x3 x11 j39 x40 x41 S42 (l_X11_frostOf_106 a1 x3 x11 j39 n)
theorem l_X11_frostOf_106_s (a1 : Int32) (x3 : Int32) (x11 : Int32) (j39 : Int64 → sT → Option (Int64 × sT)) (n : Nat) (x40 : Int64) (x41 : Int32) (S42 : sT) : l_X11_frostOf_106 a1 x3 x11 j39 (n + 1) x40 x41 S42 = b_X11_frostOf_106 a1 x3 x11 j39 x40 x41 S42 (l_X11_frostOf_106 a1 x3 x11 j39 n) := rfl
def b_X11_frostOf_80 (a1 : Int32) (x3 : Int32) (j9 : Int64 → sT → Option (Int64 × sT)) (x10 : Int64) (x11 : Int32) (S12 : sT) (k13 : Int64 → Int32 → sT → Option (Int64 × sT)) : Option (Int64 × sT) :=
 (if ((1 : Int32) <<< ((S12.1 115 0 0) &&& 31)) ≤ x11 then
 j9 x10 S12
 else
 jn (fun (x14 : Int64) (S15 : sT) => lt (x11 + (1 : Int32)) (fun x16 =>
 k13 x14 x16 S15))
 (fun j17 => (if (x11 &&& (x3 ^^^ (-1 : Int32))) = (0 : Int32) then
 jn (fun (x18 : Int64) (S19 : sT) => bn (f_X11_weakNow  S19) (fun r21 =>
 jn (fun (y22 : Int64) => lt (x10 + y22) (fun x23 =>
 l_X11_frostOf_205 x11 j17 x23 FU (0 : Int32) S19))
 (fun j37 => (if r21 = (0 : Int32) then
 j37 x18
 else
 j37 (0 : Int64)))))
 (fun j39 => l_X11_frostOf_106 a1 x3 x11 j39 FU (1 : Int64) (0 : Int32) S12)
 else
 j17 x10 S12)))
def l_X11_frostOf_80 (a1 : Int32) (x3 : Int32) (j9 : Int64 → sT → Option (Int64 × sT)) : Nat → Int64 → Int32 → sT → Option (Int64 × sT)
 | 0, _, _, _ => none
 | n + 1, x10, x11, S12 => b_X11_frostOf_80 a1 x3 j9 x10 x11 S12 (l_X11_frostOf_80 a1 x3 j9 n)
theorem l_X11_frostOf_80_s (a1 : Int32) (x3 : Int32) (j9 : Int64 → sT → Option (Int64 × sT)) (n : Nat) (x10 : Int64) (x11 : Int32) (S12 : sT) : l_X11_frostOf_80 a1 x3 j9 (n + 1) x10 x11 S12 = b_X11_frostOf_80 a1 x3 j9 x10 x11 S12 (l_X11_frostOf_80 a1 x3 j9 n) := rfl
def b_X11_frostOf_16 (S2 : sT) (j65 : Int32 → Int64 → Option (Int64 × sT)) (x66 : Int32) (x67 : Int64) (x68 : Int32) (k69 : Int32 → Int64 → Int32 → Option (Int64 × sT)) : Option (Int64 × sT) :=
 (if (S2.1 115 0 0) ≤ x68 then
 j65 x66 x67
 else
 ck (vi x68 8) (
 jn (fun (y71 : Int32) => lt (x66 ||| y71) (fun x72 =>
 ck (vi x68 8) (
 jn (fun (y74 : Int64) => lt (x67 * y74) (fun x75 =>
 lt (x68 + (1 : Int32)) (fun x76 =>
 k69 x72 x75 x76)))
 (fun j77 => (if (S2.1 44 0 (cl x68)) ≤ (0 : Int32) then
 j77 (1 : Int64)
 else
 j77 (16 : Int64))))))
 (fun j79 => (if (S2.1 44 0 (cl x68)) ≤ (0 : Int32) then
 j79 (0 : Int32)
 else
 j79 ((1 : Int32) <<< (x68 &&& 31))))))
def l_X11_frostOf_16 (S2 : sT) (j65 : Int32 → Int64 → Option (Int64 × sT)) : Nat → Int32 → Int64 → Int32 → Option (Int64 × sT)
 | 0, _, _, _ => none
 | n + 1, x66, x67, x68 => b_X11_frostOf_16 S2 j65 x66 x67 x68 (l_X11_frostOf_16 S2 j65 n)
theorem l_X11_frostOf_16_s (S2 : sT) (j65 : Int32 → Int64 → Option (Int64 × sT)) (n : Nat) (x66 : Int32) (x67 : Int64) (x68 : Int32) : l_X11_frostOf_16 S2 j65 (n + 1) x66 x67 x68 = b_X11_frostOf_16 S2 j65 x66 x67 x68 (l_X11_frostOf_16 S2 j65 n) := rfl
def f_X11_frostOf (a1 : Int32) (a2 : Int32) (S : sT) : Option (Int64 × sT) :=
 bn (f_X11_lives (S.1 116 0 0) S) (fun S2 =>
 jn (fun (x3 : Int32) (x4 : Int64) => jn (fun (x5 : Int64) (S6 : sT) => bn (f_X11_part x5 x4 a2 S6) (fun r8 =>
 some (r8, S6)))
 (fun j9 => l_X11_frostOf_80 a1 x3 j9 FU (0 : Int64) (0 : Int32) S2))
 (fun j65 => l_X11_frostOf_16 S2 j65 FU (0 : Int32) (1 : Int64) (0 : Int32)))
set_option maxHeartbeats 4000000 in
set_option maxRecDepth 100000 in
theorem w_X11_frostOf_205 (C : Cx p s m args meth c cX11_frostOf 12 RX11 g) (hr : meth.sig.returnType = (some .long)) {o : Int64 × sT}  {a1 : Int32} {a2 : Int32} {x3 : Int32} {x4 : Int64} {x11 : Int32} {x23 : Int64}  (j17 : Int64 → sT → Option (Int64 × sT)) (hj17 : ∀ (x14 : Int64) (S15 : sT) (H : Heap) (locs : List Loc) (ls : Array Slot), Hp g s S15 H locs → lv_has ls 12 [(0, .ref (gad g 10 0)), (1, .int a1), (2, .int a2), (3, .int x3), (4, .long x4), (6, .long x14), (8, .int x11)] → j17 x14 S15 = some o → W p l e (rmL 5) s m args below meth c H locs 0 0 (Qm g below args s (some (.long o.1)) o.2) (F0 m 245 ls [])) : ∀ (n : Nat) (x24 : Int32) (S25 : sT) (H : Heap) (locs : List Loc) (ls : Array Slot), Hp g s S25 H locs → lv_has ls 12 [(0, .ref (gad g 10 0)), (1, .int a1), (2, .int a2), (3, .int x3), (4, .long x4), (6, .long x23), (8, .int x11), (11, .int x24)] → l_X11_frostOf_205 x11 j17 x23 n x24 S25 = some o → W p l e (rmL 5) s m args below meth c H locs 0 0 (Qm g below args s (some (.long o.1)) o.2) (F0 m 205 ls []) := by
  obtain ⟨hx, hb, hml, hown, hts, hlk, hK⟩ := id C
  intro n
  induction n with
  | zero =>
    intro x24 S25 H locs ls hH hl h
    cases h
  | succ n ih =>
    intro x24 S25 H locs ls hH hl h
    rw [l_X11_frostOf_205_s] at h
    unfold b_X11_frostOf_205 at h
    refine lv_iload hx hb dX11_frostOf_205 (lv_at hl 7 rfl) ?_
    refine lv_aload_n hx hb dX11_frostOf_207 rfl (lv_at hl 0 rfl) ?_
    refine gf_X11_91 C hH dX11_frostOf_208 ?_
    refine lv_icmp_ge (tgt := 245) hx hb dX11_frostOf_211 (by decide) (fun c36 => ?_) (fun c36 => ?_)
    · replace h := if_t h c36
      exact hj17 _ _ _ _ _ hH (lv_sub hl [0, 1, 2, 3, 4, 5, 6] rfl) h
    · replace h := if_f h c36
      refine lv_aload_n hx hb dX11_frostOf_214 rfl (lv_at hl 0 rfl) ?_
      refine gf_X11_43 C hH dX11_frostOf_215 ?_
      refine lv_iload hx hb dX11_frostOf_218 (lv_at hl 7 rfl) ?_
      refine lv_dup2_11 hx hb dX11_frostOf_220 rfl rfl ?_
      obtain ⟨hv27, h⟩ := ck_e h
      refine r_ald C hH ka_44 (by decide) (by decide) (vi_in hv27) dX11_frostOf_221 ?_
      refine lv_iload hx hb dX11_frostOf_222 (lv_at hl 6 rfl) ?_
      refine lv_iload hx hb dX11_frostOf_224 (lv_at hl 7 rfl) ?_
      obtain ⟨r29, hc28, h⟩ := bn_e h
      refine r_callS1 (As := [.int x11, .int x24]) C hl.1 hH (c_X11_isIn l g  hc28) q563 q5 q561 q562 nd_X11_isIn rfl (by decide) ⟨Nat.zero_le _, Nat.zero_le _⟩ (Nat.le_of_ble_eq_true rfl) dX11_frostOf_226 (fun H locs hH => ?_)
      obtain ⟨j34, ej34, h⟩ := jn_e h
      have hj34 : ∀ (y30 : Int32) (H : Heap) (locs : List Loc) (ls : Array Slot), Hp g s S25 H locs → lv_has ls 12 [(0, .ref (gad g 10 0)), (1, .int a1), (2, .int a2), (3, .int x3), (4, .long x4), (6, .long x23), (8, .int x11), (11, .int x24)] → j34 y30 = some o → W p l e (rmL 5) s m args below meth c H locs 0 0 (Qm g below args s (some (.long o.1)) o.2) (F0 m 237 ls [.int y30, .int (S25.1 44 0 (cl x24)), .int x24, .ref (gad g 44 0)]) := by
        intro y30 H locs ls hH hl h
        rw [ej34] at h
        try dsimp only at h
        refine lv_iadd hx hb dX11_frostOf_237 ?_
        obtain ⟨hv31, h⟩ := ck_e h
        refine r_ast C hH ka_44 ko_44 (by decide) (by decide) (vi_in hv31) dX11_frostOf_238 (fun S32 H locs eS hH => ?_)
        replace h := lt_e h eS
        obtain ⟨x33, ex33⟩ : ∃ z : Int32, z = (x24 + (1 : Int32)) := ⟨_, rfl⟩
        replace h := lt_e h ex33
        refine lv_iinc (v := x33) (lv' := [(11, .int x33), (0, .ref (gad g 10 0)), (1, .int a1), (2, .int a2), (3, .int x3), (4, .long x4), (6, .long x23), (8, .int x11)]) hx hb dX11_frostOf_239 hl (k := 7) rfl (by rw [ex33]; rfl) (by decide) rfl (fun ls hl => ?_)
        refine lv_goto (tgt := 205) hx hb dX11_frostOf_242 (by decide) ?_
        exact ih _ _ _ _ _ hH (lv_sub hl [1, 2, 3, 4, 5, 6, 7, 0] rfl) h
      clear ej34
      refine lv_if_eq (tgt := 236) hx hb dX11_frostOf_229 (by decide) (fun c35 => ?_) (fun c35 => ?_)
      · replace h := if_t h c35
        refine lv_iconst (v := (0 : Int32)) hx hb dX11_frostOf_236 (by decide) ?_
        exact hj34 _ _ _ _ hH (lv_sub hl [0, 1, 2, 3, 4, 5, 6, 7] rfl) h
      · replace h := if_f h c35
        refine lv_iconst (v := (1 : Int32)) hx hb dX11_frostOf_232 (by decide) ?_
        refine lv_goto (tgt := 237) hx hb dX11_frostOf_233 (by decide) ?_
        exact hj34 _ _ _ _ hH (lv_sub hl [0, 1, 2, 3, 4, 5, 6, 7] rfl) h
set_option maxHeartbeats 4000000 in
set_option maxRecDepth 100000 in
theorem w_X11_frostOf_106 (C : Cx p s m args meth c cX11_frostOf 12 RX11 g) (hr : meth.sig.returnType = (some .long)) {o : Int64 × sT}  {a1 : Int32} {a2 : Int32} {x3 : Int32} {x4 : Int64} {x10 : Int64} {x11 : Int32}  (j39 : Int64 → sT → Option (Int64 × sT)) (hj39 : ∀ (x18 : Int64) (S19 : sT) (H : Heap) (locs : List Loc) (ls : Array Slot), Hp g s S19 H locs → lv_has ls 12 [(0, .ref (gad g 10 0)), (1, .int a1), (2, .int a2), (3, .int x3), (4, .long x4), (6, .long x10), (8, .int x11), (9, .long x18)] → j39 x18 S19 = some o → W p l e (rmL 5) s m args below meth c H locs 0 0 (Qm g below args s (some (.long o.1)) o.2) (F0 m 184 ls [])) : ∀ (n : Nat) (x40 : Int64) (x41 : Int32) (S42 : sT) (H : Heap) (locs : List Loc) (ls : Array Slot), Hp g s S42 H locs → lv_has ls 12 [(0, .ref (gad g 10 0)), (1, .int a1), (2, .int a2), (3, .int x3), (4, .long x4), (6, .long x10), (8, .int x11), (9, .long x40), (11, .int x41)] → l_X11_frostOf_106 a1 x3 x11 j39 n x40 x41 S42 = some o → W p l e (rmL 5) s m args below meth c H locs 0 0 (Qm g below args s (some (.long o.1)) o.2) (F0 m 106 ls []) := by
  obtain ⟨hx, hb, hml, hown, hts, hlk, hK⟩ := id C
  intro n
  induction n with
  | zero =>
    intro x40 x41 S42 H locs ls hH hl h
    cases h
  | succ n ih =>
    intro x40 x41 S42 H locs ls hH hl h
    rw [l_X11_frostOf_106_s] at h
    unfold b_X11_frostOf_106 at h
    refine lv_iload hx hb dX11_frostOf_106 (lv_at hl 8 rfl) ?_
    refine lv_aload_n hx hb dX11_frostOf_108 rfl (lv_at hl 0 rfl) ?_
    refine gf_X11_91 C hH dX11_frostOf_109 ?_
    refine lv_icmp_ge (tgt := 184) hx hb dX11_frostOf_112 (by decide) (fun c62 => ?_) (fun c62 => ?_)
    · replace h := if_t h c62
      exact hj39 _ _ _ _ _ hH (lv_sub hl [0, 1, 2, 3, 4, 5, 6, 7] rfl) h
    · replace h := if_f h c62
      refine lv_lload hx hb dX11_frostOf_115 (lv_at hl 7 rfl) ?_
      refine lv_iload_n hx hb dX11_frostOf_117 rfl (lv_at hl 3 rfl) ?_
      refine lv_iload hx hb dX11_frostOf_118 (lv_at hl 8 rfl) ?_
      obtain ⟨r45, hc44, h⟩ := bn_e h
      refine r_callS1 (As := [.int x3, .int x41]) C hl.1 hH (c_X11_isIn l g  hc44) q563 q5 q561 q562 nd_X11_isIn rfl (by decide) ⟨Nat.zero_le _, Nat.zero_le _⟩ (Nat.le_of_ble_eq_true rfl) dX11_frostOf_120 (fun H locs hH => ?_)
      obtain ⟨j57, ej57, h⟩ := jn_e h
      have hj57 : ∀ (y46 : Int64) (H : Heap) (locs : List Loc) (ls : Array Slot), Hp g s S42 H locs → lv_has ls 12 [(0, .ref (gad g 10 0)), (1, .int a1), (2, .int a2), (3, .int x3), (4, .long x4), (6, .long x10), (8, .int x11), (11, .int x41)] → j57 y46 = some o → W p l e (rmL 5) s m args below meth c H locs 0 0 (Qm g below args s (some (.long o.1)) o.2) (F0 m 150 ls [.long y46, .long x40]) := by
        intro y46 H locs ls hH hl h
        rw [ej57] at h
        try dsimp only at h
        refine lv_lmul hx hb dX11_frostOf_150 ?_
        refine lv_topl (fun x47 ex47 => ?_)
        replace h := lt_e h ex47
        refine lv_lstore (lv' := [(9, .long x47), (0, .ref (gad g 10 0)), (1, .int a1), (2, .int a2), (3, .int x3), (4, .long x4), (6, .long x10), (8, .int x11), (11, .int x41)]) hx hb dX11_frostOf_151 hl (by decide) rfl (fun ls hl => ?_)
        refine lv_aload_n hx hb dX11_frostOf_153 rfl (lv_at hl 1 rfl) ?_
        refine gf_X11_43 C hH dX11_frostOf_154 ?_
        refine lv_iload hx hb dX11_frostOf_157 (lv_at hl 8 rfl) ?_
        refine lv_dup2_11 hx hb dX11_frostOf_159 rfl rfl ?_
        obtain ⟨hv48, h⟩ := ck_e h
        refine r_ald C hH ka_44 (by decide) (by decide) (vi_in hv48) dX11_frostOf_160 ?_
        refine lv_iload hx hb dX11_frostOf_161 (lv_at hl 7 rfl) ?_
        refine lv_iload hx hb dX11_frostOf_163 (lv_at hl 8 rfl) ?_
        obtain ⟨r50, hc49, h⟩ := bn_e h
        refine r_callS1 (As := [.int x11, .int x41]) C hl.1 hH (c_X11_isIn l g  hc49) q563 q5 q561 q562 nd_X11_isIn rfl (by decide) ⟨Nat.zero_le _, Nat.zero_le _⟩ (Nat.le_of_ble_eq_true rfl) dX11_frostOf_165 (fun H locs hH => ?_)
        obtain ⟨j55, ej55, h⟩ := jn_e h
        have hj55 : ∀ (y51 : Int32) (H : Heap) (locs : List Loc) (ls : Array Slot), Hp g s S42 H locs → lv_has ls 12 [(0, .ref (gad g 10 0)), (1, .int a1), (2, .int a2), (3, .int x3), (4, .long x4), (6, .long x10), (8, .int x11), (9, .long x47), (11, .int x41)] → j55 y51 = some o → W p l e (rmL 5) s m args below meth c H locs 0 0 (Qm g below args s (some (.long o.1)) o.2) (F0 m 176 ls [.int y51, .int (S42.1 44 0 (cl x41)), .int x41, .ref (gad g 44 0)]) := by
          intro y51 H locs ls hH hl h
          rw [ej55] at h
          try dsimp only at h
          refine lv_isub hx hb dX11_frostOf_176 ?_
          obtain ⟨hv52, h⟩ := ck_e h
          refine r_ast C hH ka_44 ko_44 (by decide) (by decide) (vi_in hv52) dX11_frostOf_177 (fun S53 H locs eS hH => ?_)
          replace h := lt_e h eS
          obtain ⟨x54, ex54⟩ : ∃ z : Int32, z = (x41 + (1 : Int32)) := ⟨_, rfl⟩
          replace h := lt_e h ex54
          refine lv_iinc (v := x54) (lv' := [(11, .int x54), (0, .ref (gad g 10 0)), (1, .int a1), (2, .int a2), (3, .int x3), (4, .long x4), (6, .long x10), (8, .int x11), (9, .long x47)]) hx hb dX11_frostOf_178 hl (k := 8) rfl (by rw [ex54]; rfl) (by decide) rfl (fun ls hl => ?_)
          refine lv_goto (tgt := 106) hx hb dX11_frostOf_181 (by decide) ?_
          exact ih _ _ _ _ _ _ hH (lv_sub hl [1, 2, 3, 4, 5, 6, 7, 8, 0] rfl) h
        clear ej55
        refine lv_if_eq (tgt := 175) hx hb dX11_frostOf_168 (by decide) (fun c56 => ?_) (fun c56 => ?_)
        · replace h := if_t h c56
          refine lv_iconst (v := (0 : Int32)) hx hb dX11_frostOf_175 (by decide) ?_
          exact hj55 _ _ _ _ hH (lv_sub hl [1, 2, 3, 4, 5, 6, 7, 0, 8] rfl) h
        · replace h := if_f h c56
          refine lv_iconst (v := (1 : Int32)) hx hb dX11_frostOf_171 (by decide) ?_
          refine lv_goto (tgt := 176) hx hb dX11_frostOf_172 (by decide) ?_
          exact hj55 _ _ _ _ hH (lv_sub hl [1, 2, 3, 4, 5, 6, 7, 0, 8] rfl) h
      clear ej57
      refine lv_if_ne (tgt := 130) hx hb dX11_frostOf_123 (by decide) (fun c61 => ?_) (fun c61 => ?_)
      · replace h := if_f h c61
        refine lv_iload hx hb dX11_frostOf_130 (lv_at hl 6 rfl) ?_
        refine lv_iload hx hb dX11_frostOf_132 (lv_at hl 8 rfl) ?_
        obtain ⟨r59, hc58, h⟩ := bn_e h
        refine r_callS1 (As := [.int x11, .int x41]) C hl.1 hH (c_X11_isIn l g  hc58) q563 q5 q561 q562 nd_X11_isIn rfl (by decide) ⟨Nat.zero_le _, Nat.zero_le _⟩ (Nat.le_of_ble_eq_true rfl) dX11_frostOf_134 (fun H locs hH => ?_)
        refine lv_if_eq (tgt := 145) hx hb dX11_frostOf_137 (by decide) (fun c60 => ?_) (fun c60 => ?_)
        · replace h := if_t h c60
          refine lv_bipush (v := (16 : Int32)) hx hb dX11_frostOf_145 (by decide) ?_
          refine lv_iload_n hx hb dX11_frostOf_147 rfl (lv_at hl 1 rfl) ?_
          refine lv_isub hx hb dX11_frostOf_148 ?_
          refine lv_i2l hx hb dX11_frostOf_149 rfl ?_
          exact hj57 _ _ _ _ hH (lv_sub hl [0, 1, 2, 3, 4, 5, 6, 8] rfl) h
        · replace h := if_f h c60
          refine lv_iload_n hx hb dX11_frostOf_140 rfl (lv_at hl 1 rfl) ?_
          refine lv_i2l hx hb dX11_frostOf_141 rfl ?_
          refine lv_goto (tgt := 150) hx hb dX11_frostOf_142 (by decide) ?_
          exact hj57 _ _ _ _ hH (lv_sub hl [0, 1, 2, 3, 4, 5, 6, 8] rfl) h
      · replace h := if_t h c61
        refine lv_lconst (v := (1 : Int64)) hx hb dX11_frostOf_126 (by decide) ?_
        refine lv_goto (tgt := 150) hx hb dX11_frostOf_127 (by decide) ?_
        exact hj57 _ _ _ _ hH (lv_sub hl [0, 1, 2, 3, 4, 5, 6, 8] rfl) h
set_option maxHeartbeats 4000000 in
set_option maxRecDepth 100000 in
theorem w_X11_frostOf_80 (C : Cx p s m args meth c cX11_frostOf 12 RX11 g) (hr : meth.sig.returnType = (some .long)) {o : Int64 × sT}  {a1 : Int32} {a2 : Int32} {x3 : Int32} {x4 : Int64}  (j9 : Int64 → sT → Option (Int64 × sT)) (hj9 : ∀ (x5 : Int64) (S6 : sT) (H : Heap) (locs : List Loc) (ls : Array Slot), Hp g s S6 H locs → lv_has ls 12 [(2, .int a2), (4, .long x4), (6, .long x5)] → j9 x5 S6 = some o → W p l e (rmL 5) s m args below meth c H locs 0 0 (Qm g below args s (some (.long o.1)) o.2) (F0 m 251 ls [])) : ∀ (n : Nat) (x10 : Int64) (x11 : Int32) (S12 : sT) (H : Heap) (locs : List Loc) (ls : Array Slot), Hp g s S12 H locs → lv_has ls 12 [(0, .ref (gad g 10 0)), (1, .int a1), (2, .int a2), (3, .int x3), (4, .long x4), (6, .long x10), (8, .int x11)] → l_X11_frostOf_80 a1 x3 j9 n x10 x11 S12 = some o → W p l e (rmL 5) s m args below meth c H locs 0 0 (Qm g below args s (some (.long o.1)) o.2) (F0 m 80 ls []) := by
  obtain ⟨hx, hb, hml, hown, hts, hlk, hK⟩ := id C
  intro n
  induction n with
  | zero =>
    intro x10 x11 S12 H locs ls hH hl h
    cases h
  | succ n ih =>
    intro x10 x11 S12 H locs ls hH hl h
    rw [l_X11_frostOf_80_s] at h
    unfold b_X11_frostOf_80 at h
    refine lv_iload hx hb dX11_frostOf_80 (lv_at hl 6 rfl) ?_
    refine lv_iconst (v := (1 : Int32)) hx hb dX11_frostOf_82 (by decide) ?_
    refine lv_aload_n hx hb dX11_frostOf_83 rfl (lv_at hl 0 rfl) ?_
    refine gf_X11_91 C hH dX11_frostOf_84 ?_
    refine lv_ishl hx hb dX11_frostOf_87 ?_
    refine lv_icmp_ge (tgt := 251) hx hb dX11_frostOf_88 (by decide) (fun c64 => ?_) (fun c64 => ?_)
    · replace h := if_t h c64
      exact hj9 _ _ _ _ _ hH (lv_sub hl [2, 4, 5] rfl) h
    · replace h := if_f h c64
      refine lv_iload hx hb dX11_frostOf_91 (lv_at hl 6 rfl) ?_
      refine lv_iload_n hx hb dX11_frostOf_93 rfl (lv_at hl 3 rfl) ?_
      refine lv_iconst (v := (-1 : Int32)) hx hb dX11_frostOf_94 (by decide) ?_
      refine lv_ixor hx hb dX11_frostOf_95 ?_
      refine lv_iand hx hb dX11_frostOf_96 ?_
      obtain ⟨j17, ej17, h⟩ := jn_e h
      have hj17 : ∀ (x14 : Int64) (S15 : sT) (H : Heap) (locs : List Loc) (ls : Array Slot), Hp g s S15 H locs → lv_has ls 12 [(0, .ref (gad g 10 0)), (1, .int a1), (2, .int a2), (3, .int x3), (4, .long x4), (6, .long x14), (8, .int x11)] → j17 x14 S15 = some o → W p l e (rmL 5) s m args below meth c H locs 0 0 (Qm g below args s (some (.long o.1)) o.2) (F0 m 245 ls []) := by
        intro x14 S15 H locs ls hH hl h
        rw [ej17] at h
        try dsimp only at h
        obtain ⟨x16, ex16⟩ : ∃ z : Int32, z = (x11 + (1 : Int32)) := ⟨_, rfl⟩
        replace h := lt_e h ex16
        refine lv_iinc (v := x16) (lv' := [(8, .int x16), (0, .ref (gad g 10 0)), (1, .int a1), (2, .int a2), (3, .int x3), (4, .long x4), (6, .long x14)]) hx hb dX11_frostOf_245 hl (k := 6) rfl (by rw [ex16]; rfl) (by decide) rfl (fun ls hl => ?_)
        refine lv_goto (tgt := 80) hx hb dX11_frostOf_248 (by decide) ?_
        exact ih _ _ _ _ _ _ hH (lv_sub hl [1, 2, 3, 4, 5, 6, 0] rfl) h
      clear ej17
      refine lv_if_ne (tgt := 245) hx hb dX11_frostOf_97 (by decide) (fun c63 => ?_) (fun c63 => ?_)
      · replace h := if_f h c63
        exact hj17 _ _ _ _ _ hH (lv_sub hl [0, 1, 2, 3, 4, 5, 6] rfl) h
      · replace h := if_t h c63
        refine lv_lconst (v := (1 : Int64)) hx hb dX11_frostOf_100 (by decide) ?_
        refine lv_lstore (lv' := [(9, .long (1 : Int64)), (0, .ref (gad g 10 0)), (1, .int a1), (2, .int a2), (3, .int x3), (4, .long x4), (6, .long x10), (8, .int x11)]) hx hb dX11_frostOf_101 hl (by decide) rfl (fun ls hl => ?_)
        refine lv_iconst (v := (0 : Int32)) hx hb dX11_frostOf_103 (by decide) ?_
        refine lv_istore (lv' := [(11, .int (0 : Int32)), (9, .long (1 : Int64)), (0, .ref (gad g 10 0)), (1, .int a1), (2, .int a2), (3, .int x3), (4, .long x4), (6, .long x10), (8, .int x11)]) hx hb dX11_frostOf_104 hl (by decide) rfl (fun ls hl => ?_)
        obtain ⟨j39, ej39, h⟩ := jn_e h
        have hj39 : ∀ (x18 : Int64) (S19 : sT) (H : Heap) (locs : List Loc) (ls : Array Slot), Hp g s S19 H locs → lv_has ls 12 [(0, .ref (gad g 10 0)), (1, .int a1), (2, .int a2), (3, .int x3), (4, .long x4), (6, .long x10), (8, .int x11), (9, .long x18)] → j39 x18 S19 = some o → W p l e (rmL 5) s m args below meth c H locs 0 0 (Qm g below args s (some (.long o.1)) o.2) (F0 m 184 ls []) := by
          intro x18 S19 H locs ls hH hl h
          rw [ej39] at h
          try dsimp only at h
          refine lv_lload hx hb dX11_frostOf_184 (lv_at hl 5 rfl) ?_
          refine lv_aload_n hx hb dX11_frostOf_186 rfl (lv_at hl 0 rfl) ?_
          obtain ⟨r21, hc20, h⟩ := bn_e h
          refine r_callV1 (ki := 10) (i := 0) (ci := 10) (As := []) C hl.1 hH (c_X11_weakNow l g  hc20) q549 q5 q546 q547 q548 nd_X11_weakNow rfl (by decide) ⟨Nat.zero_le _, Nat.zero_le _⟩ (by decide) (by decide) ⟨_, rfl⟩ rfl (Nat.le_of_ble_eq_true rfl) dX11_frostOf_187 (fun H locs hH => ?_)
          obtain ⟨j37, ej37, h⟩ := jn_e h
          have hj37 : ∀ (y22 : Int64) (H : Heap) (locs : List Loc) (ls : Array Slot), Hp g s S19 H locs → lv_has ls 12 [(0, .ref (gad g 10 0)), (1, .int a1), (2, .int a2), (3, .int x3), (4, .long x4), (8, .int x11)] → j37 y22 = some o → W p l e (rmL 5) s m args below meth c H locs 0 0 (Qm g below args s (some (.long o.1)) o.2) (F0 m 199 ls [.long y22, .long x10]) := by
            intro y22 H locs ls hH hl h
            rw [ej37] at h
            try dsimp only at h
            refine lv_ladd hx hb dX11_frostOf_199 ?_
            refine lv_topl (fun x23 ex23 => ?_)
            replace h := lt_e h ex23
            refine lv_lstore (lv' := [(6, .long x23), (0, .ref (gad g 10 0)), (1, .int a1), (2, .int a2), (3, .int x3), (4, .long x4), (8, .int x11)]) hx hb dX11_frostOf_200 hl (by decide) rfl (fun ls hl => ?_)
            refine lv_iconst (v := (0 : Int32)) hx hb dX11_frostOf_202 (by decide) ?_
            refine lv_istore (lv' := [(11, .int (0 : Int32)), (6, .long x23), (0, .ref (gad g 10 0)), (1, .int a1), (2, .int a2), (3, .int x3), (4, .long x4), (8, .int x11)]) hx hb dX11_frostOf_203 hl (by decide) rfl (fun ls hl => ?_)
            exact w_X11_frostOf_205 C hr  j17 hj17 _ _ _ _ _ _ hH (lv_sub hl [2, 3, 4, 5, 6, 1, 7, 0] rfl) h
          clear ej37
          refine lv_if_ne (tgt := 198) hx hb dX11_frostOf_190 (by decide) (fun c38 => ?_) (fun c38 => ?_)
          · replace h := if_f h c38
            refine lv_lconst (v := (0 : Int64)) hx hb dX11_frostOf_198 (by decide) ?_
            exact hj37 _ _ _ _ hH (lv_sub hl [0, 1, 2, 3, 4, 6] rfl) h
          · replace h := if_t h c38
            refine lv_lload hx hb dX11_frostOf_193 (lv_at hl 7 rfl) ?_
            refine lv_goto (tgt := 199) hx hb dX11_frostOf_195 (by decide) ?_
            exact hj37 _ _ _ _ hH (lv_sub hl [0, 1, 2, 3, 4, 6] rfl) h
        clear ej39
        exact w_X11_frostOf_106 C hr  j39 hj39 _ _ _ _ _ _ _ hH (lv_sub hl [2, 3, 4, 5, 6, 7, 8, 1, 0] rfl) h
set_option maxHeartbeats 4000000 in
set_option maxRecDepth 100000 in
theorem w_X11_frostOf_16 (C : Cx p s m args meth c cX11_frostOf 12 RX11 g) (hr : meth.sig.returnType = (some .long)) {o : Int64 × sT}  {a1 : Int32} {a2 : Int32} {S2 : sT}  (j65 : Int32 → Int64 → Option (Int64 × sT)) (hj65 : ∀ (x3 : Int32) (x4 : Int64) (H : Heap) (locs : List Loc) (ls : Array Slot), Hp g s S2 H locs → lv_has ls 12 [(0, .ref (gad g 10 0)), (1, .int a1), (2, .int a2), (3, .int x3), (4, .long x4)] → j65 x3 x4 = some o → W p l e (rmL 5) s m args below meth c H locs 0 0 (Qm g below args s (some (.long o.1)) o.2) (F0 m 74 ls [])) : ∀ (n : Nat) (x66 : Int32) (x67 : Int64) (x68 : Int32) (H : Heap) (locs : List Loc) (ls : Array Slot), Hp g s S2 H locs → lv_has ls 12 [(0, .ref (gad g 10 0)), (1, .int a1), (2, .int a2), (3, .int x66), (4, .long x67), (6, .int x68)] → l_X11_frostOf_16 S2 j65 n x66 x67 x68 = some o → W p l e (rmL 5) s m args below meth c H locs 0 0 (Qm g below args s (some (.long o.1)) o.2) (F0 m 16 ls []) := by
  obtain ⟨hx, hb, hml, hown, hts, hlk, hK⟩ := id C
  intro n
  induction n with
  | zero =>
    intro x66 x67 x68 H locs ls hH hl h
    cases h
  | succ n ih =>
    intro x66 x67 x68 H locs ls hH hl h
    rw [l_X11_frostOf_16_s] at h
    unfold b_X11_frostOf_16 at h
    refine lv_iload hx hb dX11_frostOf_16 (lv_at hl 5 rfl) ?_
    refine lv_aload_n hx hb dX11_frostOf_18 rfl (lv_at hl 0 rfl) ?_
    refine gf_X11_91 C hH dX11_frostOf_19 ?_
    refine lv_icmp_ge (tgt := 74) hx hb dX11_frostOf_22 (by decide) (fun c81 => ?_) (fun c81 => ?_)
    · replace h := if_t h c81
      exact hj65 _ _ _ _ _ hH (lv_sub hl [0, 1, 2, 3, 4] rfl) h
    · replace h := if_f h c81
      refine lv_iload_n hx hb dX11_frostOf_25 rfl (lv_at hl 3 rfl) ?_
      refine lv_aload_n hx hb dX11_frostOf_26 rfl (lv_at hl 0 rfl) ?_
      refine gf_X11_43 C hH dX11_frostOf_27 ?_
      refine lv_iload hx hb dX11_frostOf_30 (lv_at hl 5 rfl) ?_
      obtain ⟨hv70, h⟩ := ck_e h
      refine r_ald C hH ka_44 (by decide) (by decide) (vi_in hv70) dX11_frostOf_32 ?_
      obtain ⟨j79, ej79, h⟩ := jn_e h
      have hj79 : ∀ (y71 : Int32) (H : Heap) (locs : List Loc) (ls : Array Slot), Hp g s S2 H locs → lv_has ls 12 [(0, .ref (gad g 10 0)), (1, .int a1), (2, .int a2), (4, .long x67), (6, .int x68)] → j79 y71 = some o → W p l e (rmL 5) s m args below meth c H locs 0 0 (Qm g below args s (some (.long o.1)) o.2) (F0 m 44 ls [.int y71, .int x66]) := by
        intro y71 H locs ls hH hl h
        rw [ej79] at h
        try dsimp only at h
        refine lv_ior hx hb dX11_frostOf_44 ?_
        refine lv_topi (fun x72 ex72 => ?_)
        replace h := lt_e h ex72
        refine lv_istore_n (lv' := [(3, .int x72), (0, .ref (gad g 10 0)), (1, .int a1), (2, .int a2), (4, .long x67), (6, .int x68)]) hx hb dX11_frostOf_45 rfl hl (by decide) rfl (fun ls hl => ?_)
        refine lv_lload hx hb dX11_frostOf_46 (lv_at hl 4 rfl) ?_
        refine lv_aload_n hx hb dX11_frostOf_48 rfl (lv_at hl 1 rfl) ?_
        refine gf_X11_43 C hH dX11_frostOf_49 ?_
        refine lv_iload hx hb dX11_frostOf_52 (lv_at hl 5 rfl) ?_
        obtain ⟨hv73, h⟩ := ck_e h
        refine r_ald C hH ka_44 (by decide) (by decide) (vi_in hv73) dX11_frostOf_54 ?_
        obtain ⟨j77, ej77, h⟩ := jn_e h
        have hj77 : ∀ (y74 : Int64) (H : Heap) (locs : List Loc) (ls : Array Slot), Hp g s S2 H locs → lv_has ls 12 [(0, .ref (gad g 10 0)), (1, .int a1), (2, .int a2), (3, .int x72), (6, .int x68)] → j77 y74 = some o → W p l e (rmL 5) s m args below meth c H locs 0 0 (Qm g below args s (some (.long o.1)) o.2) (F0 m 65 ls [.long y74, .long x67]) := by
          intro y74 H locs ls hH hl h
          rw [ej77] at h
          try dsimp only at h
          refine lv_lmul hx hb dX11_frostOf_65 ?_
          refine lv_topl (fun x75 ex75 => ?_)
          replace h := lt_e h ex75
          refine lv_lstore (lv' := [(4, .long x75), (0, .ref (gad g 10 0)), (1, .int a1), (2, .int a2), (3, .int x72), (6, .int x68)]) hx hb dX11_frostOf_66 hl (by decide) rfl (fun ls hl => ?_)
          obtain ⟨x76, ex76⟩ : ∃ z : Int32, z = (x68 + (1 : Int32)) := ⟨_, rfl⟩
          replace h := lt_e h ex76
          refine lv_iinc (v := x76) (lv' := [(6, .int x76), (4, .long x75), (0, .ref (gad g 10 0)), (1, .int a1), (2, .int a2), (3, .int x72)]) hx hb dX11_frostOf_68 hl (k := 5) rfl (by rw [ex76]; rfl) (by decide) rfl (fun ls hl => ?_)
          refine lv_goto (tgt := 16) hx hb dX11_frostOf_71 (by decide) ?_
          exact ih _ _ _ _ _ _ hH (lv_sub hl [2, 3, 4, 5, 1, 0] rfl) h
        clear ej77
        refine lv_if_le (tgt := 64) hx hb dX11_frostOf_55 (by decide) (fun c78 => ?_) (fun c78 => ?_)
        · replace h := if_t h c78
          refine lv_lconst (v := (1 : Int64)) hx hb dX11_frostOf_64 (by decide) ?_
          exact hj77 _ _ _ _ hH (lv_sub hl [1, 2, 3, 0, 5] rfl) h
        · replace h := if_f h c78
          refine lv_ldc2 (v := (16 : Int64)) hx hb hown (hts _ q759) dX11_frostOf_58 ?_
          refine lv_goto (tgt := 65) hx hb dX11_frostOf_61 (by decide) ?_
          exact hj77 _ _ _ _ hH (lv_sub hl [1, 2, 3, 0, 5] rfl) h
      clear ej79
      refine lv_if_le (tgt := 43) hx hb dX11_frostOf_33 (by decide) (fun c80 => ?_) (fun c80 => ?_)
      · replace h := if_t h c80
        refine lv_iconst (v := (0 : Int32)) hx hb dX11_frostOf_43 (by decide) ?_
        exact hj79 _ _ _ _ hH (lv_sub hl [0, 1, 2, 4, 5] rfl) h
      · replace h := if_f h c80
        refine lv_iconst (v := (1 : Int32)) hx hb dX11_frostOf_36 (by decide) ?_
        refine lv_iload hx hb dX11_frostOf_37 (lv_at hl 5 rfl) ?_
        refine lv_ishl hx hb dX11_frostOf_39 ?_
        refine lv_goto (tgt := 44) hx hb dX11_frostOf_40 (by decide) ?_
        exact hj79 _ _ _ _ hH (lv_sub hl [0, 1, 2, 4, 5] rfl) h
set_option maxHeartbeats 4000000 in
set_option maxRecDepth 100000 in
theorem w_X11_frostOf (C : Cx p s m args meth c cX11_frostOf 12 RX11 g) (hr : meth.sig.returnType = (some .long)) {o : Int64 × sT} {a1 : Int32} {a2 : Int32}  {S : sT} {H : Heap} {locs : List Loc} {ls : Array Slot} (hH : Hp g s S H locs) (hl : lv_has ls 12 [(0, .ref (gad g 10 0)), (1, .int a1), (2, .int a2)]) (h : f_X11_frostOf a1 a2 S = some o) : W p l e (rmL 5) s m args below meth c H locs 0 0 (Qm g below args s (some (.long o.1)) o.2) (F0 m 0 ls []) := by
  obtain ⟨hx, hb, hml, hown, hts, hlk, hK⟩ := id C
  unfold f_X11_frostOf at h
  refine lv_aload_n hx hb dX11_frostOf_0 rfl (lv_at hl 0 rfl) ?_
  refine lv_aload_n hx hb dX11_frostOf_1 rfl (lv_at hl 0 rfl) ?_
  refine gf_X11_108 C hH dX11_frostOf_2 ?_
  obtain ⟨S2, hc1, h⟩ := bn_e h
  refine r_callV0 (ki := 10) (i := 0) (ci := 10) (As := [.int (S.1 116 0 0)]) C hl.1 hH (c_X11_lives l g  hc1) q426 q5 q423 q424 q425 nd_X11_lives rfl (by decide) ⟨Nat.zero_le _, Nat.zero_le _⟩ (by decide) (by decide) ⟨_, rfl⟩ rfl (Nat.le_of_ble_eq_true rfl) dX11_frostOf_5 (fun H locs hH => ?_)
  refine lv_iconst (v := (0 : Int32)) hx hb dX11_frostOf_8 (by decide) ?_
  refine lv_istore_n (lv' := [(3, .int (0 : Int32)), (0, .ref (gad g 10 0)), (1, .int a1), (2, .int a2)]) hx hb dX11_frostOf_9 rfl hl (by decide) rfl (fun ls hl => ?_)
  refine lv_lconst (v := (1 : Int64)) hx hb dX11_frostOf_10 (by decide) ?_
  refine lv_lstore (lv' := [(4, .long (1 : Int64)), (3, .int (0 : Int32)), (0, .ref (gad g 10 0)), (1, .int a1), (2, .int a2)]) hx hb dX11_frostOf_11 hl (by decide) rfl (fun ls hl => ?_)
  refine lv_iconst (v := (0 : Int32)) hx hb dX11_frostOf_13 (by decide) ?_
  refine lv_istore (lv' := [(6, .int (0 : Int32)), (4, .long (1 : Int64)), (3, .int (0 : Int32)), (0, .ref (gad g 10 0)), (1, .int a1), (2, .int a2)]) hx hb dX11_frostOf_14 hl (by decide) rfl (fun ls hl => ?_)
  obtain ⟨j65, ej65, h⟩ := jn_e h
  have hj65 : ∀ (x3 : Int32) (x4 : Int64) (H : Heap) (locs : List Loc) (ls : Array Slot), Hp g s S2 H locs → lv_has ls 12 [(0, .ref (gad g 10 0)), (1, .int a1), (2, .int a2), (3, .int x3), (4, .long x4)] → j65 x3 x4 = some o → W p l e (rmL 5) s m args below meth c H locs 0 0 (Qm g below args s (some (.long o.1)) o.2) (F0 m 74 ls []) := by
    intro x3 x4 H locs ls hH hl h
    rw [ej65] at h
    try dsimp only at h
    refine lv_lconst (v := (0 : Int64)) hx hb dX11_frostOf_74 (by decide) ?_
    refine lv_lstore (lv' := [(6, .long (0 : Int64)), (0, .ref (gad g 10 0)), (1, .int a1), (2, .int a2), (3, .int x3), (4, .long x4)]) hx hb dX11_frostOf_75 hl (by decide) rfl (fun ls hl => ?_)
    refine lv_iconst (v := (0 : Int32)) hx hb dX11_frostOf_77 (by decide) ?_
    refine lv_istore (lv' := [(8, .int (0 : Int32)), (6, .long (0 : Int64)), (0, .ref (gad g 10 0)), (1, .int a1), (2, .int a2), (3, .int x3), (4, .long x4)]) hx hb dX11_frostOf_78 hl (by decide) rfl (fun ls hl => ?_)
    obtain ⟨j9, ej9, h⟩ := jn_e h
    have hj9 : ∀ (x5 : Int64) (S6 : sT) (H : Heap) (locs : List Loc) (ls : Array Slot), Hp g s S6 H locs → lv_has ls 12 [(2, .int a2), (4, .long x4), (6, .long x5)] → j9 x5 S6 = some o → W p l e (rmL 5) s m args below meth c H locs 0 0 (Qm g below args s (some (.long o.1)) o.2) (F0 m 251 ls []) := by
      intro x5 S6 H locs ls hH hl h
      rw [ej9] at h
      try dsimp only at h
      refine lv_lload hx hb dX11_frostOf_251 (lv_at hl 2 rfl) ?_
      refine lv_lload hx hb dX11_frostOf_253 (lv_at hl 1 rfl) ?_
      refine lv_iload_n hx hb dX11_frostOf_255 rfl (lv_at hl 0 rfl) ?_
      obtain ⟨r8, hc7, h⟩ := bn_e h
      refine r_callS1 (As := [.long x5, .long x4, .int a2]) C hl.1 hH (c_X11_part l g  hc7) q891 q5 q889 q890 nd_X11_part rfl (by decide) ⟨Nat.zero_le _, Nat.zero_le _⟩ (Nat.le_of_ble_eq_true rfl) dX11_frostOf_256 (fun H locs hH => ?_)
      exact E_long C hr hH h dX11_frostOf_259
    clear ej9
    exact w_X11_frostOf_80 C hr  j9 hj9 _ _ _ _ _ _ _ hH (lv_sub hl [2, 3, 4, 5, 6, 1, 0] rfl) h
  clear ej65
  exact w_X11_frostOf_16 C hr  j65 hj65 _ _ _ _ _ _ _ hH (lv_sub hl [3, 4, 5, 2, 1, 0] rfl) h
theorem c_X11_frostOf (l : Launch) (g : gT) {a1 : Int32} {a2 : Int32}  {S : sT} {r : Int64} {S1 : sT} (h : f_X11_frostOf a1 a2 S = some (r, S1)) : MF l yX11_frostOf cX11_frostOf 12 (some .long) 5 g [.ref (gad g 10 0), .int a1, .int a2] S (some (.long r)) S1 := by
  refine MF.of (own := RX11) rfl rfl (Nat.le_of_ble_eq_true rfl) ?_
  intro p e s m below meth c C hr hH ls hl
  exact w_X11_frostOf C hr (o := (r, S1))  hH hl h
theorem nd_X11_frost : yX11_frost.cls ≠ "java/lang/invoke/MethodHandle" ∧ yX11_frost.cls ≠ "java/lang/invoke/VarHandle" ∧ (parseMethodDescriptor yX11_frost.desc).map (fun d => d.parameters.length) = some 2 := by decide +kernel
def f_X11_frost (a1 : Int32) (a2 : Int32) (S : sT) : Option (Int64 × sT) :=
 bn (f_X11_reads  S) (fun S2 =>
 bn (f_X11_in ((a1).toInt64) (0 : Int64) (16 : Int64) S2) (fun r4 =>
 jn (bn (f_X11_no (-2 : Int32) S2) (fun r6 =>
 some (r6, S2)))
 (fun j7 => (if r4 = (0 : Int32) then
 j7
 else
 bn (f_X11_isTwo a2 S2) (fun r9 =>
 (if r9 = (0 : Int32) then
 j7
 else
 bn2 (f_X11_frostOf a1 a2 S2) (fun r11 S12 =>
 some (r11, S12))))))))
set_option maxHeartbeats 4000000 in
set_option maxRecDepth 100000 in
theorem w_X11_frost (C : Cx p s m args meth c cX11_frost 3 RX11 g) (hr : meth.sig.returnType = (some .long)) {o : Int64 × sT} {a1 : Int32} {a2 : Int32}  {S : sT} {H : Heap} {locs : List Loc} {ls : Array Slot} (hH : Hp g s S H locs) (hl : lv_has ls 3 [(0, .ref (gad g 10 0)), (1, .int a1), (2, .int a2)]) (h : f_X11_frost a1 a2 S = some o) : W p l e (rmL 6) s m args below meth c H locs 0 0 (Qm g below args s (some (.long o.1)) o.2) (F0 m 0 ls []) := by
  obtain ⟨hx, hb, hml, hown, hts, hlk, hK⟩ := id C
  unfold f_X11_frost at h
  refine lv_aload_n hx hb dX11_frost_0 rfl (lv_at hl 0 rfl) ?_
  obtain ⟨S2, hc1, h⟩ := bn_e h
  refine r_callV0 (ki := 10) (i := 0) (ci := 10) (As := []) C hl.1 hH (c_X11_reads l g  hc1) q410 q5 q407 q408 q409 nd_X11_reads rfl (by decide) ⟨Nat.zero_le _, Nat.zero_le _⟩ (by decide) (by decide) ⟨_, rfl⟩ rfl (Nat.le_of_ble_eq_true rfl) dX11_frost_1 (fun H locs hH => ?_)
  refine lv_iload_n hx hb dX11_frost_4 rfl (lv_at hl 1 rfl) ?_
  refine lv_i2l hx hb dX11_frost_5 rfl ?_
  refine lv_lconst (v := (0 : Int64)) hx hb dX11_frost_6 (by decide) ?_
  refine lv_ldc2 (v := (16 : Int64)) hx hb hown (hts _ q759) dX11_frost_7 ?_
  obtain ⟨r4, hc3, h⟩ := bn_e h
  refine r_callS1 (As := [.long ((a1).toInt64), .long (0 : Int64), .long (16 : Int64)]) C hl.1 hH (c_X11_in l g  hc3) q307 q5 q305 q306 nd_X11_in rfl (by decide) ⟨Nat.zero_le _, Nat.zero_le _⟩ (Nat.le_of_ble_eq_true rfl) dX11_frost_10 (fun H locs hH => ?_)
  obtain ⟨j7, ej7, h⟩ := jn_e h
  have hj7 : ∀  (H : Heap) (locs : List Loc) (ls : Array Slot), Hp g s S2 H locs → lv_has ls 3 [] → j7  = some o → W p l e (rmL 6) s m args below meth c H locs 0 0 (Qm g below args s (some (.long o.1)) o.2) (F0 m 32 ls []) := by
    intro  H locs ls hH hl h
    rw [ej7] at h
    try dsimp only at h
    refine lv_bipush (v := (-2 : Int32)) hx hb dX11_frost_32 (by decide) ?_
    obtain ⟨r6, hc5, h⟩ := bn_e h
    refine r_callS1 (As := [.int (-2 : Int32)]) C hl.1 hH (c_X11_no l g  hc5) q894 q5 q892 q893 nd_X11_no rfl (by decide) ⟨Nat.zero_le _, Nat.zero_le _⟩ (Nat.le_of_ble_eq_true rfl) dX11_frost_34 (fun H locs hH => ?_)
    exact E_long C hr hH h dX11_frost_37
  clear ej7
  refine lv_if_eq (tgt := 32) hx hb dX11_frost_13 (by decide) (fun c14 => ?_) (fun c14 => ?_)
  · replace h := if_t h c14
    exact hj7 _ _ _ hH (lv_sub hl [] rfl) h
  · replace h := if_f h c14
    refine lv_iload_n hx hb dX11_frost_16 rfl (lv_at hl 2 rfl) ?_
    obtain ⟨r9, hc8, h⟩ := bn_e h
    refine r_callS1 (As := [.int a2]) C hl.1 hH (c_X11_isTwo l g  hc8) q304 q5 q302 q303 nd_X11_isTwo rfl (by decide) ⟨Nat.zero_le _, Nat.zero_le _⟩ (Nat.le_of_ble_eq_true rfl) dX11_frost_17 (fun H locs hH => ?_)
    refine lv_if_eq (tgt := 32) hx hb dX11_frost_20 (by decide) (fun c13 => ?_) (fun c13 => ?_)
    · replace h := if_t h c13
      exact hj7 _ _ _ hH (lv_sub hl [] rfl) h
    · replace h := if_f h c13
      refine lv_aload_n hx hb dX11_frost_23 rfl (lv_at hl 0 rfl) ?_
      refine lv_iload_n hx hb dX11_frost_24 rfl (lv_at hl 1 rfl) ?_
      refine lv_iload_n hx hb dX11_frost_25 rfl (lv_at hl 2 rfl) ?_
      obtain ⟨r11, S12, hc10, h⟩ := bn2_e h
      refine r_callV1 (ki := 10) (i := 0) (ci := 10) (As := [.int a1, .int a2]) C hl.1 hH (c_X11_frostOf l g  hc10) q888 q5 q885 q886 q887 nd_X11_frostOf rfl (by decide) ⟨Nat.zero_le _, Nat.zero_le _⟩ (by decide) (by decide) ⟨_, rfl⟩ rfl (Nat.le_of_ble_eq_true rfl) dX11_frost_26 (fun H locs hH => ?_)
      refine lv_goto (tgt := 37) hx hb dX11_frost_29 (by decide) ?_
      exact E_long C hr hH h dX11_frost_37
theorem c_X11_frost (l : Launch) (g : gT) {a1 : Int32} {a2 : Int32}  {S : sT} {r : Int64} {S1 : sT} (h : f_X11_frost a1 a2 S = some (r, S1)) : MF l yX11_frost cX11_frost 3 (some .long) 6 g [.ref (gad g 10 0), .int a1, .int a2] S (some (.long r)) S1 := by
  refine MF.of (own := RX11) rfl rfl (Nat.le_of_ble_eq_true rfl) ?_
  intro p e s m below meth c C hr hH ls hl
  exact w_X11_frost C hr (o := (r, S1))  hH hl h
theorem nd_X11_lot : yX11_lot.cls ≠ "java/lang/invoke/MethodHandle" ∧ yX11_lot.cls ≠ "java/lang/invoke/VarHandle" ∧ (parseMethodDescriptor yX11_lot.desc).map (fun d => d.parameters.length) = some 1 := by decide +kernel
def f_X11_lot (a1 : Int32) (S : sT) : Option (Int32 × sT) :=
 lt (us S 122 0 0 (((1103515245 : Int32) * (S.1 122 0 0)) + (12345 : Int32))) (fun S1 =>
 ck (nz a1) (
 some ((((((S1.1 122 0 0)).toUInt32 >>> (((16 : Int32)).toUInt32 &&& Int32.toUInt32 31)).toInt32) - ((((S1.1 122 0 0)).toUInt32 >>> (((16 : Int32)).toUInt32 &&& Int32.toUInt32 31)).toInt32) / a1 * a1), S1)))
set_option maxHeartbeats 4000000 in
set_option maxRecDepth 100000 in
theorem w_X11_lot (C : Cx p s m args meth c cX11_lot 2 RX11 g) (hr : meth.sig.returnType = (some .int)) {o : Int32 × sT} {a1 : Int32}  {S : sT} {H : Heap} {locs : List Loc} {ls : Array Slot} (hH : Hp g s S H locs) (hl : lv_has ls 2 [(0, .ref (gad g 10 0)), (1, .int a1)]) (h : f_X11_lot a1 S = some o) : W p l e (rmL 1) s m args below meth c H locs 0 0 (Qm g below args s (some (.int o.1)) o.2) (F0 m 0 ls []) := by
  obtain ⟨hx, hb, hml, hown, hts, hlk, hK⟩ := id C
  unfold f_X11_lot at h
  refine lv_aload_n hx hb dX11_lot_0 rfl (lv_at hl 0 rfl) ?_
  refine lv_ldcw (v := (1103515245 : Int32)) hx hb hown (hts _ q939) dX11_lot_1 ?_
  refine lv_aload_n hx hb dX11_lot_4 rfl (lv_at hl 0 rfl) ?_
  refine gf_X11_272 C hH dX11_lot_5 ?_
  refine lv_imul hx hb dX11_lot_8 ?_
  refine lv_sipush (v := (12345 : Int32)) hx hb dX11_lot_9 (by decide) ?_
  refine lv_iadd hx hb dX11_lot_12 ?_
  refine pf_X11_272 C hH dX11_lot_13 (fun S1 H locs eS hH => ?_)
  replace h := lt_e h eS
  refine lv_aload_n hx hb dX11_lot_16 rfl (lv_at hl 0 rfl) ?_
  refine gf_X11_272 C hH dX11_lot_17 ?_
  refine lv_bipush (v := (16 : Int32)) hx hb dX11_lot_20 (by decide) ?_
  refine lv_iushr hx hb dX11_lot_22 rfl ?_
  refine lv_iload_n hx hb dX11_lot_23 rfl (lv_at hl 1 rfl) ?_
  obtain ⟨hv2, h⟩ := ck_e h
  refine lv_irem hx hb dX11_lot_24 (nz_e hv2) ?_
  exact E_int C hr hH h dX11_lot_25
theorem c_X11_lot (l : Launch) (g : gT) {a1 : Int32}  {S : sT} {r : Int32} {S1 : sT} (h : f_X11_lot a1 S = some (r, S1)) : MF l yX11_lot cX11_lot 2 (some .int) 1 g [.ref (gad g 10 0), .int a1] S (some (.int r)) S1 := by
  refine MF.of (own := RX11) rfl rfl (Nat.le_of_ble_eq_true rfl) ?_
  intro p e s m below meth c C hr hH ls hl
  exact w_X11_lot C hr (o := (r, S1))  hH hl h
theorem nd_X11_yearsOf : yX11_yearsOf.cls ≠ "java/lang/invoke/MethodHandle" ∧ yX11_yearsOf.cls ≠ "java/lang/invoke/VarHandle" ∧ (parseMethodDescriptor yX11_yearsOf.desc).map (fun d => d.parameters.length) = some 3 := by decide +kernel
def b_X11_yearsOf_19 (a2 : Int32) (j9 : Int32 → sT → Option (Int32 × sT)) (x10 : Int32) (x11 : Int32) (S12 : sT) (k13 : Int32 → Int32 → sT → Option (Int32 × sT)) : Option (Int32 × sT) :=
 (if a2 ≤ x11 then
 j9 x10 S12
 else
 ck (vi (0 : Int32) 6) (
 ck (nz (2 : Int32)) (
 lt ((((S12.1 42 0 (cl (0 : Int32))) + (S12.1 116 0 0)) + x11) - (((S12.1 42 0 (cl (0 : Int32))) + (S12.1 116 0 0)) + x11) / (2 : Int32) * (2 : Int32)) (fun x16 =>
 bn2 (f_X11_lot (S12.1 115 0 0) S12) (fun r18 S19 =>
 bn2 (f_X11_lot (4 : Int32) S19) (fun r21 S22 =>
 jn (fun (S23 : sT) => bn (f_X11_weakNow  S23) (fun r25 =>
 jn (fun (y26 : Int32) => lt (x10 + y26) (fun x27 =>
 lt (x11 + (1 : Int32)) (fun x28 =>
 k13 x27 x28 S23)))
 (fun j29 => (if r25 = (0 : Int32) then
 j29 (0 : Int32)
 else
 j29 (1 : Int32)))))
 (fun j31 => (if r21 = (0 : Int32) then
 bn2 (f_X11_takes x16 r18 S22) (fun r36 S37 =>
 j31 S37)
 else
 bn2 (f_X11_lays x16 x16 r18 S22) (fun r33 S34 =>
 j31 S34)))))))))
def l_X11_yearsOf_19 (a2 : Int32) (j9 : Int32 → sT → Option (Int32 × sT)) : Nat → Int32 → Int32 → sT → Option (Int32 × sT)
 | 0, _, _, _ => none
 | n + 1, x10, x11, S12 => b_X11_yearsOf_19 a2 j9 x10 x11 S12 (l_X11_yearsOf_19 a2 j9 n)
theorem l_X11_yearsOf_19_s (a2 : Int32) (j9 : Int32 → sT → Option (Int32 × sT)) (n : Nat) (x10 : Int32) (x11 : Int32) (S12 : sT) : l_X11_yearsOf_19 a2 j9 (n + 1) x10 x11 S12 = b_X11_yearsOf_19 a2 j9 x10 x11 S12 (l_X11_yearsOf_19 a2 j9 n) := rfl
def f_X11_yearsOf (a1 : Int32) (a2 : Int32) (a3 : Int32) (S : sT) : Option (Int32 × sT) :=
 lt (us S 122 0 0 a1) (fun S1 =>
 bn (f_X11_lives (S1.1 116 0 0) S1) (fun S3 =>
 jn (fun (x4 : Int32) (S5 : sT) => (if a3 = (-1 : Int32) then
 some (x4, S5)
 else
 bn (f_X11_highOf a3 S5) (fun r7 =>
 some (r7, S5))))
 (fun j9 => l_X11_yearsOf_19 a2 j9 FU (0 : Int32) (0 : Int32) S3)))
set_option maxHeartbeats 4000000 in
set_option maxRecDepth 100000 in
theorem w_X11_yearsOf_19 (C : Cx p s m args meth c cX11_yearsOf 8 RX11 g) (hr : meth.sig.returnType = (some .int)) {o : Int32 × sT}  {a2 : Int32} {a3 : Int32}  (j9 : Int32 → sT → Option (Int32 × sT)) (hj9 : ∀ (x4 : Int32) (S5 : sT) (H : Heap) (locs : List Loc) (ls : Array Slot), Hp g s S5 H locs → lv_has ls 8 [(0, .ref (gad g 10 0)), (3, .int a3), (4, .int x4)] → j9 x4 S5 = some o → W p l e (rmL 5) s m args below meth c H locs 0 0 (Qm g below args s (some (.int o.1)) o.2) (F0 m 107 ls [])) : ∀ (n : Nat) (x10 : Int32) (x11 : Int32) (S12 : sT) (H : Heap) (locs : List Loc) (ls : Array Slot), Hp g s S12 H locs → lv_has ls 8 [(0, .ref (gad g 10 0)), (2, .int a2), (3, .int a3), (4, .int x10), (5, .int x11)] → l_X11_yearsOf_19 a2 j9 n x10 x11 S12 = some o → W p l e (rmL 5) s m args below meth c H locs 0 0 (Qm g below args s (some (.int o.1)) o.2) (F0 m 19 ls []) := by
  obtain ⟨hx, hb, hml, hown, hts, hlk, hK⟩ := id C
  intro n
  induction n with
  | zero =>
    intro x10 x11 S12 H locs ls hH hl h
    cases h
  | succ n ih =>
    intro x10 x11 S12 H locs ls hH hl h
    rw [l_X11_yearsOf_19_s] at h
    unfold b_X11_yearsOf_19 at h
    refine lv_iload hx hb dX11_yearsOf_19 (lv_at hl 4 rfl) ?_
    refine lv_iload_n hx hb dX11_yearsOf_21 rfl (lv_at hl 1 rfl) ?_
    refine lv_icmp_ge (tgt := 107) hx hb dX11_yearsOf_22 (by decide) (fun c39 => ?_) (fun c39 => ?_)
    · replace h := if_t h c39
      exact hj9 _ _ _ _ _ hH (lv_sub hl [0, 2, 3] rfl) h
    · replace h := if_f h c39
      refine lv_aload_n hx hb dX11_yearsOf_25 rfl (lv_at hl 0 rfl) ?_
      refine gf_X11_37 C hH dX11_yearsOf_26 ?_
      refine lv_iconst (v := (0 : Int32)) hx hb dX11_yearsOf_29 (by decide) ?_
      obtain ⟨hv14, h⟩ := ck_e h
      refine r_ald C hH ka_42 (by decide) (by decide) (vi_in hv14) dX11_yearsOf_30 ?_
      refine lv_aload_n hx hb dX11_yearsOf_31 rfl (lv_at hl 0 rfl) ?_
      refine gf_X11_108 C hH dX11_yearsOf_32 ?_
      refine lv_iadd hx hb dX11_yearsOf_35 ?_
      refine lv_iload hx hb dX11_yearsOf_36 (lv_at hl 4 rfl) ?_
      refine lv_iadd hx hb dX11_yearsOf_38 ?_
      refine lv_iconst (v := (2 : Int32)) hx hb dX11_yearsOf_39 (by decide) ?_
      obtain ⟨hv15, h⟩ := ck_e h
      refine lv_irem hx hb dX11_yearsOf_40 (nz_e hv15) ?_
      refine lv_topi (fun x16 ex16 => ?_)
      replace h := lt_e h ex16
      refine lv_istore (lv' := [(6, .int x16), (0, .ref (gad g 10 0)), (2, .int a2), (3, .int a3), (4, .int x10), (5, .int x11)]) hx hb dX11_yearsOf_41 hl (by decide) rfl (fun ls hl => ?_)
      refine lv_aload_n hx hb dX11_yearsOf_43 rfl (lv_at hl 1 rfl) ?_
      refine lv_aload_n hx hb dX11_yearsOf_44 rfl (lv_at hl 1 rfl) ?_
      refine gf_X11_91 C hH dX11_yearsOf_45 ?_
      obtain ⟨r18, S19, hc17, h⟩ := bn2_e h
      refine r_callV1 (ki := 10) (i := 0) (ci := 10) (As := [.int (S12.1 115 0 0)]) C hl.1 hH (c_X11_lot l g  hc17) q938 q5 q935 q936 q937 nd_X11_lot rfl (by decide) ⟨Nat.zero_le _, Nat.zero_le _⟩ (by decide) (by decide) ⟨_, rfl⟩ rfl (Nat.le_of_ble_eq_true rfl) dX11_yearsOf_48 (fun H locs hH => ?_)
      refine lv_istore (lv' := [(7, .int r18), (6, .int x16), (0, .ref (gad g 10 0)), (2, .int a2), (3, .int a3), (4, .int x10), (5, .int x11)]) hx hb dX11_yearsOf_51 hl (by decide) rfl (fun ls hl => ?_)
      refine lv_aload_n hx hb dX11_yearsOf_53 rfl (lv_at hl 2 rfl) ?_
      refine lv_iconst (v := (4 : Int32)) hx hb dX11_yearsOf_54 (by decide) ?_
      obtain ⟨r21, S22, hc20, h⟩ := bn2_e h
      refine r_callV1 (ki := 10) (i := 0) (ci := 10) (As := [.int (4 : Int32)]) C hl.1 hH (c_X11_lot l g  hc20) q938 q5 q935 q936 q937 nd_X11_lot rfl (by decide) ⟨Nat.zero_le _, Nat.zero_le _⟩ (by decide) (by decide) ⟨_, rfl⟩ rfl (Nat.le_of_ble_eq_true rfl) dX11_yearsOf_55 (fun H locs hH => ?_)
      obtain ⟨j31, ej31, h⟩ := jn_e h
      have hj31 : ∀ (S23 : sT) (H : Heap) (locs : List Loc) (ls : Array Slot), Hp g s S23 H locs → lv_has ls 8 [(0, .ref (gad g 10 0)), (2, .int a2), (3, .int a3), (4, .int x10), (5, .int x11)] → j31 S23 = some o → W p l e (rmL 5) s m args below meth c H locs 0 0 (Qm g below args s (some (.int o.1)) o.2) (F0 m 84 ls []) := by
        intro S23 H locs ls hH hl h
        rw [ej31] at h
        try dsimp only at h
        refine lv_iload hx hb dX11_yearsOf_84 (lv_at hl 3 rfl) ?_
        refine lv_aload_n hx hb dX11_yearsOf_86 rfl (lv_at hl 0 rfl) ?_
        obtain ⟨r25, hc24, h⟩ := bn_e h
        refine r_callV1 (ki := 10) (i := 0) (ci := 10) (As := []) C hl.1 hH (c_X11_weakNow l g  hc24) q549 q5 q546 q547 q548 nd_X11_weakNow rfl (by decide) ⟨Nat.zero_le _, Nat.zero_le _⟩ (by decide) (by decide) ⟨_, rfl⟩ rfl (Nat.le_of_ble_eq_true rfl) dX11_yearsOf_87 (fun H locs hH => ?_)
        obtain ⟨j29, ej29, h⟩ := jn_e h
        have hj29 : ∀ (y26 : Int32) (H : Heap) (locs : List Loc) (ls : Array Slot), Hp g s S23 H locs → lv_has ls 8 [(0, .ref (gad g 10 0)), (2, .int a2), (3, .int a3), (5, .int x11)] → j29 y26 = some o → W p l e (rmL 5) s m args below meth c H locs 0 0 (Qm g below args s (some (.int o.1)) o.2) (F0 m 98 ls [.int y26, .int x10]) := by
          intro y26 H locs ls hH hl h
          rw [ej29] at h
          try dsimp only at h
          refine lv_iadd hx hb dX11_yearsOf_98 ?_
          refine lv_topi (fun x27 ex27 => ?_)
          replace h := lt_e h ex27
          refine lv_istore (lv' := [(4, .int x27), (0, .ref (gad g 10 0)), (2, .int a2), (3, .int a3), (5, .int x11)]) hx hb dX11_yearsOf_99 hl (by decide) rfl (fun ls hl => ?_)
          obtain ⟨x28, ex28⟩ : ∃ z : Int32, z = (x11 + (1 : Int32)) := ⟨_, rfl⟩
          replace h := lt_e h ex28
          refine lv_iinc (v := x28) (lv' := [(5, .int x28), (4, .int x27), (0, .ref (gad g 10 0)), (2, .int a2), (3, .int a3)]) hx hb dX11_yearsOf_101 hl (k := 4) rfl (by rw [ex28]; rfl) (by decide) rfl (fun ls hl => ?_)
          refine lv_goto (tgt := 19) hx hb dX11_yearsOf_104 (by decide) ?_
          exact ih _ _ _ _ _ _ hH (lv_sub hl [2, 3, 4, 1, 0] rfl) h
        clear ej29
        refine lv_if_ne (tgt := 97) hx hb dX11_yearsOf_90 (by decide) (fun c30 => ?_) (fun c30 => ?_)
        · replace h := if_f h c30
          refine lv_iconst (v := (1 : Int32)) hx hb dX11_yearsOf_97 (by decide) ?_
          exact hj29 _ _ _ _ hH (lv_sub hl [0, 1, 2, 4] rfl) h
        · replace h := if_t h c30
          refine lv_iconst (v := (0 : Int32)) hx hb dX11_yearsOf_93 (by decide) ?_
          refine lv_goto (tgt := 98) hx hb dX11_yearsOf_94 (by decide) ?_
          exact hj29 _ _ _ _ hH (lv_sub hl [0, 1, 2, 4] rfl) h
      clear ej31
      refine lv_if_ne (tgt := 73) hx hb dX11_yearsOf_58 (by decide) (fun c38 => ?_) (fun c38 => ?_)
      · replace h := if_f h c38
        refine lv_aload_n hx hb dX11_yearsOf_73 rfl (lv_at hl 2 rfl) ?_
        refine lv_iload hx hb dX11_yearsOf_74 (lv_at hl 1 rfl) ?_
        refine lv_iload hx hb dX11_yearsOf_76 (lv_at hl 1 rfl) ?_
        refine lv_iload hx hb dX11_yearsOf_78 (lv_at hl 0 rfl) ?_
        obtain ⟨r33, S34, hc32, h⟩ := bn2_e h
        refine r_callV1 (ki := 10) (i := 0) (ci := 10) (As := [.int x16, .int x16, .int r18]) C hl.1 hH (c_X11_lays l g  hc32) q449 q5 q446 q447 q448 nd_X11_lays rfl (by decide) ⟨Nat.zero_le _, Nat.zero_le _⟩ (by decide) (by decide) ⟨_, rfl⟩ rfl (Nat.le_of_ble_eq_true rfl) dX11_yearsOf_80 (fun H locs hH => ?_)
        refine lv_pop hx hb dX11_yearsOf_83 rfl ?_
        exact hj31 _ _ _ _ hH (lv_sub hl [2, 3, 4, 5, 6] rfl) h
      · replace h := if_t h c38
        refine lv_aload_n hx hb dX11_yearsOf_61 rfl (lv_at hl 2 rfl) ?_
        refine lv_iload hx hb dX11_yearsOf_62 (lv_at hl 1 rfl) ?_
        refine lv_iload hx hb dX11_yearsOf_64 (lv_at hl 0 rfl) ?_
        obtain ⟨r36, S37, hc35, h⟩ := bn2_e h
        refine r_callV1 (ki := 10) (i := 0) (ci := 10) (As := [.int x16, .int r18]) C hl.1 hH (c_X11_takes l g  hc35) q445 q5 q442 q443 q444 nd_X11_takes rfl (by decide) ⟨Nat.zero_le _, Nat.zero_le _⟩ (by decide) (by decide) ⟨_, rfl⟩ rfl (Nat.le_of_ble_eq_true rfl) dX11_yearsOf_66 (fun H locs hH => ?_)
        refine lv_pop hx hb dX11_yearsOf_69 rfl ?_
        refine lv_goto (tgt := 84) hx hb dX11_yearsOf_70 (by decide) ?_
        exact hj31 _ _ _ _ hH (lv_sub hl [2, 3, 4, 5, 6] rfl) h
set_option maxHeartbeats 4000000 in
set_option maxRecDepth 100000 in
theorem w_X11_yearsOf (C : Cx p s m args meth c cX11_yearsOf 8 RX11 g) (hr : meth.sig.returnType = (some .int)) {o : Int32 × sT} {a1 : Int32} {a2 : Int32} {a3 : Int32}  {S : sT} {H : Heap} {locs : List Loc} {ls : Array Slot} (hH : Hp g s S H locs) (hl : lv_has ls 8 [(0, .ref (gad g 10 0)), (1, .int a1), (2, .int a2), (3, .int a3)]) (h : f_X11_yearsOf a1 a2 a3 S = some o) : W p l e (rmL 5) s m args below meth c H locs 0 0 (Qm g below args s (some (.int o.1)) o.2) (F0 m 0 ls []) := by
  obtain ⟨hx, hb, hml, hown, hts, hlk, hK⟩ := id C
  unfold f_X11_yearsOf at h
  refine lv_aload_n hx hb dX11_yearsOf_0 rfl (lv_at hl 0 rfl) ?_
  refine lv_iload_n hx hb dX11_yearsOf_1 rfl (lv_at hl 1 rfl) ?_
  refine pf_X11_272 C hH dX11_yearsOf_2 (fun S1 H locs eS hH => ?_)
  replace h := lt_e h eS
  refine lv_aload_n hx hb dX11_yearsOf_5 rfl (lv_at hl 0 rfl) ?_
  refine lv_aload_n hx hb dX11_yearsOf_6 rfl (lv_at hl 0 rfl) ?_
  refine gf_X11_108 C hH dX11_yearsOf_7 ?_
  obtain ⟨S3, hc2, h⟩ := bn_e h
  refine r_callV0 (ki := 10) (i := 0) (ci := 10) (As := [.int (S1.1 116 0 0)]) C hl.1 hH (c_X11_lives l g  hc2) q426 q5 q423 q424 q425 nd_X11_lives rfl (by decide) ⟨Nat.zero_le _, Nat.zero_le _⟩ (by decide) (by decide) ⟨_, rfl⟩ rfl (Nat.le_of_ble_eq_true rfl) dX11_yearsOf_10 (fun H locs hH => ?_)
  refine lv_iconst (v := (0 : Int32)) hx hb dX11_yearsOf_13 (by decide) ?_
  refine lv_istore (lv' := [(4, .int (0 : Int32)), (0, .ref (gad g 10 0)), (1, .int a1), (2, .int a2), (3, .int a3)]) hx hb dX11_yearsOf_14 hl (by decide) rfl (fun ls hl => ?_)
  refine lv_iconst (v := (0 : Int32)) hx hb dX11_yearsOf_16 (by decide) ?_
  refine lv_istore (lv' := [(5, .int (0 : Int32)), (4, .int (0 : Int32)), (0, .ref (gad g 10 0)), (1, .int a1), (2, .int a2), (3, .int a3)]) hx hb dX11_yearsOf_17 hl (by decide) rfl (fun ls hl => ?_)
  obtain ⟨j9, ej9, h⟩ := jn_e h
  have hj9 : ∀ (x4 : Int32) (S5 : sT) (H : Heap) (locs : List Loc) (ls : Array Slot), Hp g s S5 H locs → lv_has ls 8 [(0, .ref (gad g 10 0)), (3, .int a3), (4, .int x4)] → j9 x4 S5 = some o → W p l e (rmL 5) s m args below meth c H locs 0 0 (Qm g below args s (some (.int o.1)) o.2) (F0 m 107 ls []) := by
    intro x4 S5 H locs ls hH hl h
    rw [ej9] at h
    try dsimp only at h
    refine lv_iload_n hx hb dX11_yearsOf_107 rfl (lv_at hl 1 rfl) ?_
    refine lv_iconst (v := (-1 : Int32)) hx hb dX11_yearsOf_108 (by decide) ?_
    refine lv_icmp_ne (tgt := 117) hx hb dX11_yearsOf_109 (by decide) (fun c8 => ?_) (fun c8 => ?_)
    · replace h := if_f h c8
      refine lv_aload_n hx hb dX11_yearsOf_117 rfl (lv_at hl 0 rfl) ?_
      refine lv_iload_n hx hb dX11_yearsOf_118 rfl (lv_at hl 1 rfl) ?_
      obtain ⟨r7, hc6, h⟩ := bn_e h
      refine r_callV1 (ki := 10) (i := 0) (ci := 10) (As := [.int a3]) C hl.1 hH (c_X11_highOf l g  hc6) q453 q5 q450 q451 q452 nd_X11_highOf rfl (by decide) ⟨Nat.zero_le _, Nat.zero_le _⟩ (by decide) (by decide) ⟨_, rfl⟩ rfl (Nat.le_of_ble_eq_true rfl) dX11_yearsOf_119 (fun H locs hH => ?_)
      exact E_int C hr hH h dX11_yearsOf_122
    · replace h := if_t h c8
      refine lv_iload hx hb dX11_yearsOf_112 (lv_at hl 2 rfl) ?_
      refine lv_goto (tgt := 122) hx hb dX11_yearsOf_114 (by decide) ?_
      exact E_int C hr hH h dX11_yearsOf_122
  clear ej9
  exact w_X11_yearsOf_19 C hr  j9 hj9 _ _ _ _ _ _ _ hH (lv_sub hl [2, 4, 5, 1, 0] rfl) h
theorem c_X11_yearsOf (l : Launch) (g : gT) {a1 : Int32} {a2 : Int32} {a3 : Int32}  {S : sT} {r : Int32} {S1 : sT} (h : f_X11_yearsOf a1 a2 a3 S = some (r, S1)) : MF l yX11_yearsOf cX11_yearsOf 8 (some .int) 5 g [.ref (gad g 10 0), .int a1, .int a2, .int a3] S (some (.int r)) S1 := by
  refine MF.of (own := RX11) rfl rfl (Nat.le_of_ble_eq_true rfl) ?_
  intro p e s m below meth c C hr hH ls hl
  exact w_X11_yearsOf C hr (o := (r, S1))  hH hl h
theorem nd_X11_years : yX11_years.cls ≠ "java/lang/invoke/MethodHandle" ∧ yX11_years.cls ≠ "java/lang/invoke/VarHandle" ∧ (parseMethodDescriptor yX11_years.desc).map (fun d => d.parameters.length) = some 3 := by decide +kernel
def f_X11_years (a1 : Int32) (a2 : Int32) (a3 : Int32) (S : sT) : Option (Int32 × sT) :=
 bn (f_X11_reads  S) (fun S2 =>
 bn (f_X11_in ((a2).toInt64) (1 : Int64) (40 : Int64) S2) (fun r4 =>
 (if r4 = (0 : Int32) then
 some ((-2 : Int32), S2)
 else
 (if (S2.1 115 0 0) ≤ (0 : Int32) then
 some ((-2 : Int32), S2)
 else
 bn (f_X11_in ((a3).toInt64) (-1 : Int64) ((((S2.1 115 0 0) - (1 : Int32))).toInt64) S2) (fun r6 =>
 (if r6 = (0 : Int32) then
 some ((-2 : Int32), S2)
 else
 bn2 (f_X11_yearsOf a1 a2 a3 S2) (fun r8 S9 =>
 some (r8, S9))))))))
set_option maxHeartbeats 4000000 in
set_option maxRecDepth 100000 in
theorem w_X11_years (C : Cx p s m args meth c cX11_years 4 RX11 g) (hr : meth.sig.returnType = (some .int)) {o : Int32 × sT} {a1 : Int32} {a2 : Int32} {a3 : Int32}  {S : sT} {H : Heap} {locs : List Loc} {ls : Array Slot} (hH : Hp g s S H locs) (hl : lv_has ls 4 [(0, .ref (gad g 10 0)), (1, .int a1), (2, .int a2), (3, .int a3)]) (h : f_X11_years a1 a2 a3 S = some o) : W p l e (rmL 6) s m args below meth c H locs 0 0 (Qm g below args s (some (.int o.1)) o.2) (F0 m 0 ls []) := by
  obtain ⟨hx, hb, hml, hown, hts, hlk, hK⟩ := id C
  unfold f_X11_years at h
  refine lv_aload_n hx hb dX11_years_0 rfl (lv_at hl 0 rfl) ?_
  obtain ⟨S2, hc1, h⟩ := bn_e h
  refine r_callV0 (ki := 10) (i := 0) (ci := 10) (As := []) C hl.1 hH (c_X11_reads l g  hc1) q410 q5 q407 q408 q409 nd_X11_reads rfl (by decide) ⟨Nat.zero_le _, Nat.zero_le _⟩ (by decide) (by decide) ⟨_, rfl⟩ rfl (Nat.le_of_ble_eq_true rfl) dX11_years_1 (fun H locs hH => ?_)
  refine lv_iload_n hx hb dX11_years_4 rfl (lv_at hl 2 rfl) ?_
  refine lv_i2l hx hb dX11_years_5 rfl ?_
  refine lv_lconst (v := (1 : Int64)) hx hb dX11_years_6 (by decide) ?_
  refine lv_ldc2 (v := (40 : Int64)) hx hb hown (hts _ q929) dX11_years_7 ?_
  obtain ⟨r4, hc3, h⟩ := bn_e h
  refine r_callS1 (As := [.long ((a2).toInt64), .long (1 : Int64), .long (40 : Int64)]) C hl.1 hH (c_X11_in l g  hc3) q307 q5 q305 q306 nd_X11_in rfl (by decide) ⟨Nat.zero_le _, Nat.zero_le _⟩ (Nat.le_of_ble_eq_true rfl) dX11_years_10 (fun H locs hH => ?_)
  refine lv_if_eq (tgt := 51) hx hb dX11_years_13 (by decide) (fun c12 => ?_) (fun c12 => ?_)
  · replace h := if_t h c12
    refine lv_bipush (v := (-2 : Int32)) hx hb dX11_years_51 (by decide) ?_
    exact E_int C hr hH h dX11_years_53
  · replace h := if_f h c12
    refine lv_aload_n hx hb dX11_years_16 rfl (lv_at hl 0 rfl) ?_
    refine gf_X11_91 C hH dX11_years_17 ?_
    refine lv_if_le (tgt := 51) hx hb dX11_years_20 (by decide) (fun c11 => ?_) (fun c11 => ?_)
    · replace h := if_t h c11
      refine lv_bipush (v := (-2 : Int32)) hx hb dX11_years_51 (by decide) ?_
      exact E_int C hr hH h dX11_years_53
    · replace h := if_f h c11
      refine lv_iload_n hx hb dX11_years_23 rfl (lv_at hl 3 rfl) ?_
      refine lv_i2l hx hb dX11_years_24 rfl ?_
      refine lv_ldc2 (v := (-1 : Int64)) hx hb hown (hts _ q494) dX11_years_25 ?_
      refine lv_aload_n hx hb dX11_years_28 rfl (lv_at hl 0 rfl) ?_
      refine gf_X11_91 C hH dX11_years_29 ?_
      refine lv_iconst (v := (1 : Int32)) hx hb dX11_years_32 (by decide) ?_
      refine lv_isub hx hb dX11_years_33 ?_
      refine lv_i2l hx hb dX11_years_34 rfl ?_
      obtain ⟨r6, hc5, h⟩ := bn_e h
      refine r_callS1 (As := [.long ((a3).toInt64), .long (-1 : Int64), .long ((((S2.1 115 0 0) - (1 : Int32))).toInt64)]) C hl.1 hH (c_X11_in l g  hc5) q307 q5 q305 q306 nd_X11_in rfl (by decide) ⟨Nat.zero_le _, Nat.zero_le _⟩ (Nat.le_of_ble_eq_true rfl) dX11_years_35 (fun H locs hH => ?_)
      refine lv_if_eq (tgt := 51) hx hb dX11_years_38 (by decide) (fun c10 => ?_) (fun c10 => ?_)
      · replace h := if_t h c10
        refine lv_bipush (v := (-2 : Int32)) hx hb dX11_years_51 (by decide) ?_
        exact E_int C hr hH h dX11_years_53
      · replace h := if_f h c10
        refine lv_aload_n hx hb dX11_years_41 rfl (lv_at hl 0 rfl) ?_
        refine lv_iload_n hx hb dX11_years_42 rfl (lv_at hl 1 rfl) ?_
        refine lv_iload_n hx hb dX11_years_43 rfl (lv_at hl 2 rfl) ?_
        refine lv_iload_n hx hb dX11_years_44 rfl (lv_at hl 3 rfl) ?_
        obtain ⟨r8, S9, hc7, h⟩ := bn2_e h
        refine r_callV1 (ki := 10) (i := 0) (ci := 10) (As := [.int a1, .int a2, .int a3]) C hl.1 hH (c_X11_yearsOf l g  hc7) q933 q5 q930 q931 q932 nd_X11_yearsOf rfl (by decide) ⟨Nat.zero_le _, Nat.zero_le _⟩ (by decide) (by decide) ⟨_, rfl⟩ rfl (Nat.le_of_ble_eq_true rfl) dX11_years_45 (fun H locs hH => ?_)
        refine lv_goto (tgt := 53) hx hb dX11_years_48 (by decide) ?_
        exact E_int C hr hH h dX11_years_53
theorem c_X11_years (l : Launch) (g : gT) {a1 : Int32} {a2 : Int32} {a3 : Int32}  {S : sT} {r : Int32} {S1 : sT} (h : f_X11_years a1 a2 a3 S = some (r, S1)) : MF l yX11_years cX11_years 4 (some .int) 6 g [.ref (gad g 10 0), .int a1, .int a2, .int a3] S (some (.int r)) S1 := by
  refine MF.of (own := RX11) rfl rfl (Nat.le_of_ble_eq_true rfl) ?_
  intro p e s m below meth c C hr hH ls hl
  exact w_X11_years C hr (o := (r, S1))  hH hl h
theorem nd_X11_write : yX11_write.cls ≠ "java/lang/invoke/MethodHandle" ∧ yX11_write.cls ≠ "java/lang/invoke/VarHandle" ∧ (parseMethodDescriptor yX11_write.desc).map (fun d => d.parameters.length) = some 2 := by decide +kernel
def b_X11_write_59 (a2 : Int32) (r12 : Int32) (x13 : Int32) (S14 : sT) (k15 : Int32 → sT → Option (Int32 × sT)) : Option (Int32 × sT) :=
 (if r12 ≤ x13 then
 some (r12, S14)
 else
 ck (vi a2 4) (
 bn (f_X11_highOf x13 S14) (fun r18 =>
 bn (f_X11_cut (S14.1 33 0 (cl a2)) r18 S14) (fun r20 =>
 ck (vi (((60 : Int32) * a2) + x13) 240) (
 lt (us S14 35 0 (cl (((60 : Int32) * a2) + x13)) r20) (fun S22 =>
 lt (x13 + (1 : Int32)) (fun x23 =>
 k15 x23 S22)))))))
def l_X11_write_59 (a2 : Int32) (r12 : Int32) : Nat → Int32 → sT → Option (Int32 × sT)
 | 0, _, _ => none
 | n + 1, x13, S14 => b_X11_write_59 a2 r12 x13 S14 (l_X11_write_59 a2 r12 n)
theorem l_X11_write_59_s (a2 : Int32) (r12 : Int32) (n : Nat) (x13 : Int32) (S14 : sT) : l_X11_write_59 a2 r12 (n + 1) x13 S14 = b_X11_write_59 a2 r12 x13 S14 (l_X11_write_59 a2 r12 n) := rfl
def f_X11_write (a1 : Int32) (a2 : Int32) (S : sT) : Option (Int32 × sT) :=
 bn (f_X11_reads  S) (fun S2 =>
 bn (f_X11_areTurns a1 S2) (fun r4 =>
 (if r4 = (0 : Int32) then
 some ((-2 : Int32), S2)
 else
 bn (f_X11_isSheet a2 S2) (fun r6 =>
 (if r6 = (0 : Int32) then
 some ((-2 : Int32), S2)
 else
 ck (vi a2 4) (
 (if (0 : Int32) ≤ (S2.1 33 0 (cl a2)) then
 bn (f_X11_lives a1 S2) (fun S9 =>
 ck (vi a2 4) (
 bn (f_X11_lesser (S9.1 34 0 (cl a2)) (S9.1 115 0 0) S9) (fun r12 =>
 l_X11_write_59 a2 r12 FU (0 : Int32) S9)))
 else
 bn2 (f_X11_finds (1 : Int32) S2) (fun r26 S27 =>
 some (r26, S27)))))))))
set_option maxHeartbeats 4000000 in
set_option maxRecDepth 100000 in
theorem w_X11_write_59 (C : Cx p s m args meth c cX11_write 5 RX11 g) (hr : meth.sig.returnType = (some .int)) {o : Int32 × sT}  {a2 : Int32} {r12 : Int32}   : ∀ (n : Nat) (x13 : Int32) (S14 : sT) (H : Heap) (locs : List Loc) (ls : Array Slot), Hp g s S14 H locs → lv_has ls 5 [(0, .ref (gad g 10 0)), (2, .int a2), (3, .int r12), (4, .int x13)] → l_X11_write_59 a2 r12 n x13 S14 = some o → W p l e (rmL 6) s m args below meth c H locs 0 0 (Qm g below args s (some (.int o.1)) o.2) (F0 m 59 ls []) := by
  obtain ⟨hx, hb, hml, hown, hts, hlk, hK⟩ := id C
  intro n
  induction n with
  | zero =>
    intro x13 S14 H locs ls hH hl h
    cases h
  | succ n ih =>
    intro x13 S14 H locs ls hH hl h
    rw [l_X11_write_59_s] at h
    unfold b_X11_write_59 at h
    refine lv_iload hx hb dX11_write_59 (lv_at hl 3 rfl) ?_
    refine lv_iload_n hx hb dX11_write_61 rfl (lv_at hl 2 rfl) ?_
    refine lv_icmp_ge (tgt := 98) hx hb dX11_write_62 (by decide) (fun c24 => ?_) (fun c24 => ?_)
    · replace h := if_t h c24
      refine lv_iload_n hx hb dX11_write_98 rfl (lv_at hl 2 rfl) ?_
      exact E_int C hr hH h dX11_write_99
    · replace h := if_f h c24
      refine lv_aload_n hx hb dX11_write_65 rfl (lv_at hl 0 rfl) ?_
      refine gf_X11_16 C hH dX11_write_66 ?_
      refine lv_bipush (v := (60 : Int32)) hx hb dX11_write_69 (by decide) ?_
      refine lv_iload_n hx hb dX11_write_71 rfl (lv_at hl 1 rfl) ?_
      refine lv_imul hx hb dX11_write_72 ?_
      refine lv_iload hx hb dX11_write_73 (lv_at hl 3 rfl) ?_
      refine lv_iadd hx hb dX11_write_75 ?_
      refine lv_aload_n hx hb dX11_write_76 rfl (lv_at hl 0 rfl) ?_
      refine gf_X11_7 C hH dX11_write_77 ?_
      refine lv_iload_n hx hb dX11_write_80 rfl (lv_at hl 1 rfl) ?_
      obtain ⟨hv16, h⟩ := ck_e h
      refine r_ald C hH ka_33 (by decide) (by decide) (vi_in hv16) dX11_write_81 ?_
      refine lv_aload_n hx hb dX11_write_82 rfl (lv_at hl 0 rfl) ?_
      refine lv_iload hx hb dX11_write_83 (lv_at hl 3 rfl) ?_
      obtain ⟨r18, hc17, h⟩ := bn_e h
      refine r_callV1 (ki := 10) (i := 0) (ci := 10) (As := [.int x13]) C hl.1 hH (c_X11_highOf l g  hc17) q453 q5 q450 q451 q452 nd_X11_highOf rfl (by decide) ⟨Nat.zero_le _, Nat.zero_le _⟩ (by decide) (by decide) ⟨_, rfl⟩ rfl (Nat.le_of_ble_eq_true rfl) dX11_write_85 (fun H locs hH => ?_)
      obtain ⟨r20, hc19, h⟩ := bn_e h
      refine r_callS1 (As := [.int (S14.1 33 0 (cl a2)), .int r18]) C hl.1 hH (c_X11_cut l g  hc19) q994 q5 q992 q993 nd_X11_cut rfl (by decide) ⟨Nat.zero_le _, Nat.zero_le _⟩ (Nat.le_of_ble_eq_true rfl) dX11_write_88 (fun H locs hH => ?_)
      obtain ⟨hv21, h⟩ := ck_e h
      refine r_ast C hH ka_35 ko_35 (by decide) (by decide) (vi_in hv21) dX11_write_91 (fun S22 H locs eS hH => ?_)
      replace h := lt_e h eS
      obtain ⟨x23, ex23⟩ : ∃ z : Int32, z = (x13 + (1 : Int32)) := ⟨_, rfl⟩
      replace h := lt_e h ex23
      refine lv_iinc (v := x23) (lv' := [(4, .int x23), (0, .ref (gad g 10 0)), (2, .int a2), (3, .int r12)]) hx hb dX11_write_92 hl (k := 3) rfl (by rw [ex23]; rfl) (by decide) rfl (fun ls hl => ?_)
      refine lv_goto (tgt := 59) hx hb dX11_write_95 (by decide) ?_
      exact ih _ _ _ _ _ hH (lv_sub hl [1, 2, 3, 0] rfl) h
set_option maxHeartbeats 4000000 in
set_option maxRecDepth 100000 in
theorem w_X11_write (C : Cx p s m args meth c cX11_write 5 RX11 g) (hr : meth.sig.returnType = (some .int)) {o : Int32 × sT} {a1 : Int32} {a2 : Int32}  {S : sT} {H : Heap} {locs : List Loc} {ls : Array Slot} (hH : Hp g s S H locs) (hl : lv_has ls 5 [(0, .ref (gad g 10 0)), (1, .int a1), (2, .int a2)]) (h : f_X11_write a1 a2 S = some o) : W p l e (rmL 6) s m args below meth c H locs 0 0 (Qm g below args s (some (.int o.1)) o.2) (F0 m 0 ls []) := by
  obtain ⟨hx, hb, hml, hown, hts, hlk, hK⟩ := id C
  unfold f_X11_write at h
  refine lv_aload_n hx hb dX11_write_0 rfl (lv_at hl 0 rfl) ?_
  obtain ⟨S2, hc1, h⟩ := bn_e h
  refine r_callV0 (ki := 10) (i := 0) (ci := 10) (As := []) C hl.1 hH (c_X11_reads l g  hc1) q410 q5 q407 q408 q409 nd_X11_reads rfl (by decide) ⟨Nat.zero_le _, Nat.zero_le _⟩ (by decide) (by decide) ⟨_, rfl⟩ rfl (Nat.le_of_ble_eq_true rfl) dX11_write_1 (fun H locs hH => ?_)
  refine lv_aload_n hx hb dX11_write_4 rfl (lv_at hl 0 rfl) ?_
  refine lv_iload_n hx hb dX11_write_5 rfl (lv_at hl 1 rfl) ?_
  obtain ⟨r4, hc3, h⟩ := bn_e h
  refine r_callV1 (ki := 10) (i := 0) (ci := 10) (As := [.int a1]) C hl.1 hH (c_X11_areTurns l g  hc3) q414 q5 q411 q412 q413 nd_X11_areTurns rfl (by decide) ⟨Nat.zero_le _, Nat.zero_le _⟩ (by decide) (by decide) ⟨_, rfl⟩ rfl (Nat.le_of_ble_eq_true rfl) dX11_write_6 (fun H locs hH => ?_)
  refine lv_if_eq (tgt := 19) hx hb dX11_write_9 (by decide) (fun c30 => ?_) (fun c30 => ?_)
  · replace h := if_t h c30
    refine lv_bipush (v := (-2 : Int32)) hx hb dX11_write_19 (by decide) ?_
    exact E_int C hr hH h dX11_write_21
  · replace h := if_f h c30
    refine lv_iload_n hx hb dX11_write_12 rfl (lv_at hl 2 rfl) ?_
    obtain ⟨r6, hc5, h⟩ := bn_e h
    refine r_callS1 (As := [.int a2]) C hl.1 hH (c_X11_isSheet l g  hc5) q809 q5 q807 q808 nd_X11_isSheet rfl (by decide) ⟨Nat.zero_le _, Nat.zero_le _⟩ (Nat.le_of_ble_eq_true rfl) dX11_write_13 (fun H locs hH => ?_)
    refine lv_if_ne (tgt := 22) hx hb dX11_write_16 (by decide) (fun c29 => ?_) (fun c29 => ?_)
    · replace h := if_f h c29
      refine lv_aload_n hx hb dX11_write_22 rfl (lv_at hl 0 rfl) ?_
      refine gf_X11_7 C hH dX11_write_23 ?_
      refine lv_iload_n hx hb dX11_write_26 rfl (lv_at hl 2 rfl) ?_
      obtain ⟨hv7, h⟩ := ck_e h
      refine r_ald C hH ka_33 (by decide) (by decide) (vi_in hv7) dX11_write_27 ?_
      refine lv_if_ge (tgt := 37) hx hb dX11_write_28 (by decide) (fun c28 => ?_) (fun c28 => ?_)
      · replace h := if_t h c28
        refine lv_aload_n hx hb dX11_write_37 rfl (lv_at hl 0 rfl) ?_
        refine lv_iload_n hx hb dX11_write_38 rfl (lv_at hl 1 rfl) ?_
        obtain ⟨S9, hc8, h⟩ := bn_e h
        refine r_callV0 (ki := 10) (i := 0) (ci := 10) (As := [.int a1]) C hl.1 hH (c_X11_lives l g  hc8) q426 q5 q423 q424 q425 nd_X11_lives rfl (by decide) ⟨Nat.zero_le _, Nat.zero_le _⟩ (by decide) (by decide) ⟨_, rfl⟩ rfl (Nat.le_of_ble_eq_true rfl) dX11_write_39 (fun H locs hH => ?_)
        refine lv_aload_n hx hb dX11_write_42 rfl (lv_at hl 0 rfl) ?_
        refine gf_X11_13 C hH dX11_write_43 ?_
        refine lv_iload_n hx hb dX11_write_46 rfl (lv_at hl 2 rfl) ?_
        obtain ⟨hv10, h⟩ := ck_e h
        refine r_ald C hH ka_34 (by decide) (by decide) (vi_in hv10) dX11_write_47 ?_
        refine lv_aload_n hx hb dX11_write_48 rfl (lv_at hl 0 rfl) ?_
        refine gf_X11_91 C hH dX11_write_49 ?_
        obtain ⟨r12, hc11, h⟩ := bn_e h
        refine r_callS1 (As := [.int (S9.1 34 0 (cl a2)), .int (S9.1 115 0 0)]) C hl.1 hH (c_X11_lesser l g  hc11) q1038 q5 q1036 q1037 nd_X11_lesser rfl (by decide) ⟨Nat.zero_le _, Nat.zero_le _⟩ (Nat.le_of_ble_eq_true rfl) dX11_write_52 (fun H locs hH => ?_)
        refine lv_istore_n (lv' := [(3, .int r12), (0, .ref (gad g 10 0)), (1, .int a1), (2, .int a2)]) hx hb dX11_write_55 rfl hl (by decide) rfl (fun ls hl => ?_)
        refine lv_iconst (v := (0 : Int32)) hx hb dX11_write_56 (by decide) ?_
        refine lv_istore (lv' := [(4, .int (0 : Int32)), (3, .int r12), (0, .ref (gad g 10 0)), (1, .int a1), (2, .int a2)]) hx hb dX11_write_57 hl (by decide) rfl (fun ls hl => ?_)
        exact w_X11_write_59 C hr   _ _ _ _ _ _ hH (lv_sub hl [2, 4, 1, 0] rfl) h
      · replace h := if_f h c28
        refine lv_aload_n hx hb dX11_write_31 rfl (lv_at hl 0 rfl) ?_
        refine lv_iconst (v := (1 : Int32)) hx hb dX11_write_32 (by decide) ?_
        obtain ⟨r26, S27, hc25, h⟩ := bn2_e h
        refine r_callV1 (ki := 10) (i := 0) (ci := 10) (As := [.int (1 : Int32)]) C hl.1 hH (c_X11_finds l g  hc25) q813 q5 q810 q811 q812 nd_X11_finds rfl (by decide) ⟨Nat.zero_le _, Nat.zero_le _⟩ (by decide) (by decide) ⟨_, rfl⟩ rfl (Nat.le_of_ble_eq_true rfl) dX11_write_33 (fun H locs hH => ?_)
        exact E_int C hr hH h dX11_write_36
    · replace h := if_t h c29
      refine lv_bipush (v := (-2 : Int32)) hx hb dX11_write_19 (by decide) ?_
      exact E_int C hr hH h dX11_write_21
theorem c_X11_write (l : Launch) (g : gT) {a1 : Int32} {a2 : Int32}  {S : sT} {r : Int32} {S1 : sT} (h : f_X11_write a1 a2 S = some (r, S1)) : MF l yX11_write cX11_write 5 (some .int) 6 g [.ref (gad g 10 0), .int a1, .int a2] S (some (.int r)) S1 := by
  refine MF.of (own := RX11) rfl rfl (Nat.le_of_ble_eq_true rfl) ?_
  intro p e s m below meth c C hr hH ls hl
  exact w_X11_write C hr (o := (r, S1))  hH hl h
end G25
