section G22
variable {p : Program} {l : Launch} {e : Env} {s : State} {m : MethodId} {args : Array Value} {below : List Frame} {meth : Method} {c : Code} {g : gT}
theorem nd_X11_figure : yX11_figure.cls ≠ "java/lang/invoke/MethodHandle" ∧ yX11_figure.cls ≠ "java/lang/invoke/VarHandle" ∧ (parseMethodDescriptor yX11_figure.desc).map (fun d => d.parameters.length) = some 0 := by decide +kernel
def f_X11_figure  (S : sT) : Option (Int32 × sT) :=
 bn (f_X11_here  S) (fun r2 =>
 bn (f_X11_in ((r2).toInt64) (48 : Int64) (55 : Int64) S) (fun r4 =>
 (if r4 = (0 : Int32) then
 some ((-1 : Int32), S)
 else
 lt (us S 114 0 0 ((S.1 114 0 0) + (1 : Int32))) (fun S5 =>
 some ((r2 - (48 : Int32)), S5)))))
set_option maxHeartbeats 4000000 in
set_option maxRecDepth 100000 in
theorem w_X11_figure (C : Cx p s m args meth c cX11_figure 2 RX11 g) (hr : meth.sig.returnType = (some .int)) {o : Int32 × sT}   {S : sT} {H : Heap} {locs : List Loc} {ls : Array Slot} (hH : Hp g s S H locs) (hl : lv_has ls 2 [(0, .ref (gad g 10 0))]) (h : f_X11_figure  S = some o) : W p l e (rmL 2) s m args below meth c H locs 0 0 (Qm g below args s (some (.int o.1)) o.2) (F0 m 0 ls []) := by
  obtain ⟨hx, hb, hml, hown, hts, hlk, hK⟩ := id C
  unfold f_X11_figure at h
  refine lv_aload_n hx hb dX11_figure_0 rfl (lv_at hl 0 rfl) ?_
  obtain ⟨r2, hc1, h⟩ := bn_e h
  refine r_callV1 (ki := 10) (i := 0) (ci := 10) (As := []) C hl.1 hH (c_X11_here l g  hc1) q361 q5 q358 q359 q360 nd_X11_here rfl (by decide) ⟨Nat.zero_le _, Nat.zero_le _⟩ (by decide) (by decide) ⟨_, rfl⟩ rfl (Nat.le_of_ble_eq_true rfl) dX11_figure_1 (fun H locs hH => ?_)
  refine lv_istore_n (lv' := [(1, .int r2), (0, .ref (gad g 10 0))]) hx hb dX11_figure_4 rfl hl (by decide) rfl (fun ls hl => ?_)
  refine lv_iload_n hx hb dX11_figure_5 rfl (lv_at hl 0 rfl) ?_
  refine lv_i2l hx hb dX11_figure_6 rfl ?_
  refine lv_ldc2 (v := (48 : Int64)) hx hb hown (hts _ q366) dX11_figure_7 ?_
  refine lv_ldc2 (v := (55 : Int64)) hx hb hown (hts _ q367) dX11_figure_10 ?_
  obtain ⟨r4, hc3, h⟩ := bn_e h
  refine r_callS1 (As := [.long ((r2).toInt64), .long (48 : Int64), .long (55 : Int64)]) C hl.1 hH (c_X11_in l g  hc3) q307 q5 q305 q306 nd_X11_in rfl (by decide) ⟨Nat.zero_le _, Nat.zero_le _⟩ (Nat.le_of_ble_eq_true rfl) dX11_figure_13 (fun H locs hH => ?_)
  refine lv_if_ne (tgt := 21) hx hb dX11_figure_16 (by decide) (fun c6 => ?_) (fun c6 => ?_)
  · replace h := if_f h c6
    refine lv_aload_n hx hb dX11_figure_21 rfl (lv_at hl 1 rfl) ?_
    refine lv_dup hx hb dX11_figure_22 rfl ?_
    refine gf_X11_97 C hH dX11_figure_23 ?_
    refine lv_iconst (v := (1 : Int32)) hx hb dX11_figure_26 (by decide) ?_
    refine lv_iadd hx hb dX11_figure_27 ?_
    refine pf_X11_97 C hH dX11_figure_28 (fun S5 H locs eS hH => ?_)
    replace h := lt_e h eS
    refine lv_iload_n hx hb dX11_figure_31 rfl (lv_at hl 0 rfl) ?_
    refine lv_bipush (v := (48 : Int32)) hx hb dX11_figure_32 (by decide) ?_
    refine lv_isub hx hb dX11_figure_34 ?_
    exact E_int C hr hH h dX11_figure_35
  · replace h := if_t h c6
    refine lv_iconst (v := (-1 : Int32)) hx hb dX11_figure_19 (by decide) ?_
    exact E_int C hr hH h dX11_figure_20
theorem c_X11_figure (l : Launch) (g : gT)   {S : sT} {r : Int32} {S1 : sT} (h : f_X11_figure  S = some (r, S1)) : MF l yX11_figure cX11_figure 2 (some .int) 2 g [.ref (gad g 10 0)] S (some (.int r)) S1 := by
  refine MF.of (own := RX11) rfl rfl (Nat.le_of_ble_eq_true rfl) ?_
  intro p e s m below meth c C hr hH ls hl
  exact w_X11_figure C hr (o := (r, S1))  hH hl h
theorem nd_X11_readsTurn : yX11_readsTurn.cls ≠ "java/lang/invoke/MethodHandle" ∧ yX11_readsTurn.cls ≠ "java/lang/invoke/VarHandle" ∧ (parseMethodDescriptor yX11_readsTurn.desc).map (fun d => d.parameters.length) = some 0 := by decide +kernel
def b_X11_readsTurn_76 (x1 : Int32) (j17 : sT → Option (Int32 × sT)) (S18 : sT) (k19 : sT → Option (Int32 × sT)) : Option (Int32 × sT) :=
 ck (vi (x1 + (1 : Int32)) 96) (
 (if (3 : Int32) ≤ (S18.1 41 0 (cl (x1 + (1 : Int32)))) then
 j17 S18
 else
 bn (f_X11_here  S18) (fun r22 =>
 bn (f_X11_stoneOf r22 S18) (fun r24 =>
 (if r24 = (-1 : Int32) then
 j17 S18
 else
 ck (vi (x1 + (1 : Int32)) 96) (
 lt (S18.1 41 0 (cl (x1 + (1 : Int32)))) (fun x26 =>
 bn (f_X11_here  S18) (fun r28 =>
 bn (f_X11_stoneOf r28 S18) (fun r30 =>
 ck (vi ((x1 + (2 : Int32)) + ((2 : Int32) * x26)) 96) (
 lt (us S18 41 0 (cl ((x1 + (2 : Int32)) + ((2 : Int32) * x26))) r30) (fun S32 =>
 lt (us S32 114 0 0 ((S32.1 114 0 0) + (1 : Int32))) (fun S33 =>
 bn2 (f_X11_figure  S33) (fun r35 S36 =>
 ck (vi ((x1 + (3 : Int32)) + ((2 : Int32) * x26)) 96) (
 lt (us S36 41 0 (cl ((x1 + (3 : Int32)) + ((2 : Int32) * x26))) r35) (fun S38 =>
 ck (vi ((x1 + (3 : Int32)) + ((2 : Int32) * x26)) 96) (
 (if (S38.1 41 0 (cl ((x1 + (3 : Int32)) + ((2 : Int32) * x26)))) = (-1 : Int32) then
 some ((0 : Int32), S38)
 else
 ck (vi (x1 + (1 : Int32)) 96) (
 ck (vi (x1 + (1 : Int32)) 96) (
 lt (us S38 41 0 (cl (x1 + (1 : Int32))) ((S38.1 41 0 (cl (x1 + (1 : Int32)))) + (1 : Int32))) (fun S42 =>
 k19 S42))))))))))))))))))))
def l_X11_readsTurn_76 (x1 : Int32) (j17 : sT → Option (Int32 × sT)) : Nat → sT → Option (Int32 × sT)
 | 0, _ => none
 | n + 1, S18 => b_X11_readsTurn_76 x1 j17 S18 (l_X11_readsTurn_76 x1 j17 n)
theorem l_X11_readsTurn_76_s (x1 : Int32) (j17 : sT → Option (Int32 × sT)) (n : Nat) (S18 : sT) : l_X11_readsTurn_76 x1 j17 (n + 1) S18 = b_X11_readsTurn_76 x1 j17 S18 (l_X11_readsTurn_76 x1 j17 n) := rfl
def f_X11_readsTurn  (S : sT) : Option (Int32 × sT) :=
 (if (S.1 116 0 0) = (12 : Int32) then
 some ((0 : Int32), S)
 else
 lt ((8 : Int32) * (S.1 116 0 0)) (fun x1 =>
 ck (vi x1 96) (
 lt (us S 41 0 (cl x1) (-1 : Int32)) (fun S3 =>
 ck (vi (x1 + (1 : Int32)) 96) (
 lt (us S3 41 0 (cl (x1 + (1 : Int32))) (0 : Int32)) (fun S5 =>
 bn (f_X11_here  S5) (fun r7 =>
 jn (fun (S8 : sT) => jn (fun (S9 : sT) => ck (vi (x1 + (1 : Int32)) 96) (
 jn (fun (y11 : Int32) => lt (us S9 116 0 0 ((S9.1 116 0 0) + y11)) (fun S12 =>
 ck (vi (x1 + (1 : Int32)) 96) (
 (if (S12.1 41 0 (cl (x1 + (1 : Int32)))) ≤ (0 : Int32) then
 some ((0 : Int32), S12)
 else
 some ((1 : Int32), S12)))))
 (fun j15 => (if (S9.1 41 0 (cl (x1 + (1 : Int32)))) ≤ (0 : Int32) then
 j15 (0 : Int32)
 else
 j15 (1 : Int32)))))
 (fun j17 => l_X11_readsTurn_76 x1 j17 FU S8))
 (fun j46 => (if r7 = (45 : Int32) then
 lt (us S5 114 0 0 ((S5.1 114 0 0) + (1 : Int32))) (fun S47 =>
 bn2 (f_X11_figure  S47) (fun r49 S50 =>
 ck (vi x1 96) (
 lt (us S50 41 0 (cl x1) r49) (fun S52 =>
 ck (vi x1 96) (
 (if (S52.1 41 0 (cl x1)) = (-1 : Int32) then
 some ((0 : Int32), S52)
 else
 j46 S52))))))
 else
 j46 S5)))))))))
set_option maxHeartbeats 4000000 in
set_option maxRecDepth 100000 in
theorem w_X11_readsTurn_76 (C : Cx p s m args meth c cX11_readsTurn 3 RX11 g) (hr : meth.sig.returnType = (some .boolean)) {o : Int32 × sT}  {x1 : Int32}  (j17 : sT → Option (Int32 × sT)) (hj17 : ∀ (S9 : sT) (H : Heap) (locs : List Loc) (ls : Array Slot), Hp g s S9 H locs → lv_has ls 3 [(0, .ref (gad g 10 0)), (1, .int x1)] → j17 S9 = some o → W p l e (rmL 3) s m args below meth c H locs 0 0 (Qm g below args s (some (.int o.1)) o.2) (F0 m 186 ls [])) : ∀ (n : Nat) (S18 : sT) (H : Heap) (locs : List Loc) (ls : Array Slot), Hp g s S18 H locs → lv_has ls 3 [(0, .ref (gad g 10 0)), (1, .int x1)] → l_X11_readsTurn_76 x1 j17 n S18 = some o → W p l e (rmL 3) s m args below meth c H locs 0 0 (Qm g below args s (some (.int o.1)) o.2) (F0 m 76 ls []) := by
  obtain ⟨hx, hb, hml, hown, hts, hlk, hK⟩ := id C
  intro n
  induction n with
  | zero =>
    intro S18 H locs ls hH hl h
    cases h
  | succ n ih =>
    intro S18 H locs ls hH hl h
    rw [l_X11_readsTurn_76_s] at h
    unfold b_X11_readsTurn_76 at h
    refine lv_aload_n hx hb dX11_readsTurn_76 rfl (lv_at hl 0 rfl) ?_
    refine gf_X11_34 C hH dX11_readsTurn_77 ?_
    refine lv_iload_n hx hb dX11_readsTurn_80 rfl (lv_at hl 1 rfl) ?_
    refine lv_iconst (v := (1 : Int32)) hx hb dX11_readsTurn_81 (by decide) ?_
    refine lv_iadd hx hb dX11_readsTurn_82 ?_
    obtain ⟨hv20, h⟩ := ck_e h
    refine r_ald C hH ka_41 (by decide) (by decide) (vi_in hv20) dX11_readsTurn_83 ?_
    refine lv_iconst (v := (3 : Int32)) hx hb dX11_readsTurn_84 (by decide) ?_
    refine lv_icmp_ge (tgt := 186) hx hb dX11_readsTurn_85 (by decide) (fun c45 => ?_) (fun c45 => ?_)
    · replace h := if_t h c45
      exact hj17 _ _ _ _ hH (lv_sub hl [0, 1] rfl) h
    · replace h := if_f h c45
      refine lv_aload_n hx hb dX11_readsTurn_88 rfl (lv_at hl 0 rfl) ?_
      obtain ⟨r22, hc21, h⟩ := bn_e h
      refine r_callV1 (ki := 10) (i := 0) (ci := 10) (As := []) C hl.1 hH (c_X11_here l g  hc21) q361 q5 q358 q359 q360 nd_X11_here rfl (by decide) ⟨Nat.zero_le _, Nat.zero_le _⟩ (by decide) (by decide) ⟨_, rfl⟩ rfl (Nat.le_of_ble_eq_true rfl) dX11_readsTurn_89 (fun H locs hH => ?_)
      obtain ⟨r24, hc23, h⟩ := bn_e h
      refine r_callS1 (As := [.int r22]) C hl.1 hH (c_X11_stoneOf l g  hc23) q347 q5 q345 q346 nd_X11_stoneOf rfl (by decide) ⟨Nat.zero_le _, Nat.zero_le _⟩ (Nat.le_of_ble_eq_true rfl) dX11_readsTurn_92 (fun H locs hH => ?_)
      refine lv_iconst (v := (-1 : Int32)) hx hb dX11_readsTurn_95 (by decide) ?_
      refine lv_icmp_eq (tgt := 186) hx hb dX11_readsTurn_96 (by decide) (fun c44 => ?_) (fun c44 => ?_)
      · replace h := if_t h c44
        exact hj17 _ _ _ _ hH (lv_sub hl [0, 1] rfl) h
      · replace h := if_f h c44
        refine lv_aload_n hx hb dX11_readsTurn_99 rfl (lv_at hl 0 rfl) ?_
        refine gf_X11_34 C hH dX11_readsTurn_100 ?_
        refine lv_iload_n hx hb dX11_readsTurn_103 rfl (lv_at hl 1 rfl) ?_
        refine lv_iconst (v := (1 : Int32)) hx hb dX11_readsTurn_104 (by decide) ?_
        refine lv_iadd hx hb dX11_readsTurn_105 ?_
        obtain ⟨hv25, h⟩ := ck_e h
        refine r_ald C hH ka_41 (by decide) (by decide) (vi_in hv25) dX11_readsTurn_106 ?_
        refine lv_topi (fun x26 ex26 => ?_)
        replace h := lt_e h ex26
        refine lv_istore_n (lv' := [(2, .int x26), (0, .ref (gad g 10 0)), (1, .int x1)]) hx hb dX11_readsTurn_107 rfl hl (by decide) rfl (fun ls hl => ?_)
        refine lv_aload_n hx hb dX11_readsTurn_108 rfl (lv_at hl 1 rfl) ?_
        refine gf_X11_34 C hH dX11_readsTurn_109 ?_
        refine lv_iload_n hx hb dX11_readsTurn_112 rfl (lv_at hl 2 rfl) ?_
        refine lv_iconst (v := (2 : Int32)) hx hb dX11_readsTurn_113 (by decide) ?_
        refine lv_iadd hx hb dX11_readsTurn_114 ?_
        refine lv_iconst (v := (2 : Int32)) hx hb dX11_readsTurn_115 (by decide) ?_
        refine lv_iload_n hx hb dX11_readsTurn_116 rfl (lv_at hl 0 rfl) ?_
        refine lv_imul hx hb dX11_readsTurn_117 ?_
        refine lv_iadd hx hb dX11_readsTurn_118 ?_
        refine lv_aload_n hx hb dX11_readsTurn_119 rfl (lv_at hl 1 rfl) ?_
        obtain ⟨r28, hc27, h⟩ := bn_e h
        refine r_callV1 (ki := 10) (i := 0) (ci := 10) (As := []) C hl.1 hH (c_X11_here l g  hc27) q361 q5 q358 q359 q360 nd_X11_here rfl (by decide) ⟨Nat.zero_le _, Nat.zero_le _⟩ (by decide) (by decide) ⟨_, rfl⟩ rfl (Nat.le_of_ble_eq_true rfl) dX11_readsTurn_120 (fun H locs hH => ?_)
        obtain ⟨r30, hc29, h⟩ := bn_e h
        refine r_callS1 (As := [.int r28]) C hl.1 hH (c_X11_stoneOf l g  hc29) q347 q5 q345 q346 nd_X11_stoneOf rfl (by decide) ⟨Nat.zero_le _, Nat.zero_le _⟩ (Nat.le_of_ble_eq_true rfl) dX11_readsTurn_123 (fun H locs hH => ?_)
        obtain ⟨hv31, h⟩ := ck_e h
        refine r_ast C hH ka_41 ko_41 (by decide) (by decide) (vi_in hv31) dX11_readsTurn_126 (fun S32 H locs eS hH => ?_)
        replace h := lt_e h eS
        refine lv_aload_n hx hb dX11_readsTurn_127 rfl (lv_at hl 1 rfl) ?_
        refine lv_dup hx hb dX11_readsTurn_128 rfl ?_
        refine gf_X11_97 C hH dX11_readsTurn_129 ?_
        refine lv_iconst (v := (1 : Int32)) hx hb dX11_readsTurn_132 (by decide) ?_
        refine lv_iadd hx hb dX11_readsTurn_133 ?_
        refine pf_X11_97 C hH dX11_readsTurn_134 (fun S33 H locs eS hH => ?_)
        replace h := lt_e h eS
        refine lv_aload_n hx hb dX11_readsTurn_137 rfl (lv_at hl 1 rfl) ?_
        refine gf_X11_34 C hH dX11_readsTurn_138 ?_
        refine lv_iload_n hx hb dX11_readsTurn_141 rfl (lv_at hl 2 rfl) ?_
        refine lv_iconst (v := (3 : Int32)) hx hb dX11_readsTurn_142 (by decide) ?_
        refine lv_iadd hx hb dX11_readsTurn_143 ?_
        refine lv_iconst (v := (2 : Int32)) hx hb dX11_readsTurn_144 (by decide) ?_
        refine lv_iload_n hx hb dX11_readsTurn_145 rfl (lv_at hl 0 rfl) ?_
        refine lv_imul hx hb dX11_readsTurn_146 ?_
        refine lv_iadd hx hb dX11_readsTurn_147 ?_
        refine lv_aload_n hx hb dX11_readsTurn_148 rfl (lv_at hl 1 rfl) ?_
        obtain ⟨r35, S36, hc34, h⟩ := bn2_e h
        refine r_callV1 (ki := 10) (i := 0) (ci := 10) (As := []) C hl.1 hH (c_X11_figure l g  hc34) q365 q5 q362 q363 q364 nd_X11_figure rfl (by decide) ⟨Nat.zero_le _, Nat.zero_le _⟩ (by decide) (by decide) ⟨_, rfl⟩ rfl (Nat.le_of_ble_eq_true rfl) dX11_readsTurn_149 (fun H locs hH => ?_)
        obtain ⟨hv37, h⟩ := ck_e h
        refine r_ast C hH ka_41 ko_41 (by decide) (by decide) (vi_in hv37) dX11_readsTurn_152 (fun S38 H locs eS hH => ?_)
        replace h := lt_e h eS
        refine lv_aload_n hx hb dX11_readsTurn_153 rfl (lv_at hl 1 rfl) ?_
        refine gf_X11_34 C hH dX11_readsTurn_154 ?_
        refine lv_iload_n hx hb dX11_readsTurn_157 rfl (lv_at hl 2 rfl) ?_
        refine lv_iconst (v := (3 : Int32)) hx hb dX11_readsTurn_158 (by decide) ?_
        refine lv_iadd hx hb dX11_readsTurn_159 ?_
        refine lv_iconst (v := (2 : Int32)) hx hb dX11_readsTurn_160 (by decide) ?_
        refine lv_iload_n hx hb dX11_readsTurn_161 rfl (lv_at hl 0 rfl) ?_
        refine lv_imul hx hb dX11_readsTurn_162 ?_
        refine lv_iadd hx hb dX11_readsTurn_163 ?_
        obtain ⟨hv39, h⟩ := ck_e h
        refine r_ald C hH ka_41 (by decide) (by decide) (vi_in hv39) dX11_readsTurn_164 ?_
        refine lv_iconst (v := (-1 : Int32)) hx hb dX11_readsTurn_165 (by decide) ?_
        refine lv_icmp_ne (tgt := 171) hx hb dX11_readsTurn_166 (by decide) (fun c43 => ?_) (fun c43 => ?_)
        · replace h := if_f h c43
          refine lv_aload_n hx hb dX11_readsTurn_171 rfl (lv_at hl 1 rfl) ?_
          refine gf_X11_34 C hH dX11_readsTurn_172 ?_
          refine lv_iload_n hx hb dX11_readsTurn_175 rfl (lv_at hl 2 rfl) ?_
          refine lv_iconst (v := (1 : Int32)) hx hb dX11_readsTurn_176 (by decide) ?_
          refine lv_iadd hx hb dX11_readsTurn_177 ?_
          refine lv_dup2_11 hx hb dX11_readsTurn_178 rfl rfl ?_
          obtain ⟨hv40, h⟩ := ck_e h
          refine r_ald C hH ka_41 (by decide) (by decide) (vi_in hv40) dX11_readsTurn_179 ?_
          refine lv_iconst (v := (1 : Int32)) hx hb dX11_readsTurn_180 (by decide) ?_
          refine lv_iadd hx hb dX11_readsTurn_181 ?_
          obtain ⟨hv41, h⟩ := ck_e h
          refine r_ast C hH ka_41 ko_41 (by decide) (by decide) (vi_in hv41) dX11_readsTurn_182 (fun S42 H locs eS hH => ?_)
          replace h := lt_e h eS
          refine lv_goto (tgt := 76) hx hb dX11_readsTurn_183 (by decide) ?_
          exact ih _ _ _ _ hH (lv_sub hl [1, 2] rfl) h
        · replace h := if_t h c43
          refine lv_iconst (v := (0 : Int32)) hx hb dX11_readsTurn_169 (by decide) ?_
          exact E_bool C hr hH rfl h dX11_readsTurn_170
set_option maxHeartbeats 4000000 in
set_option maxRecDepth 100000 in
theorem w_X11_readsTurn (C : Cx p s m args meth c cX11_readsTurn 3 RX11 g) (hr : meth.sig.returnType = (some .boolean)) {o : Int32 × sT}   {S : sT} {H : Heap} {locs : List Loc} {ls : Array Slot} (hH : Hp g s S H locs) (hl : lv_has ls 3 [(0, .ref (gad g 10 0))]) (h : f_X11_readsTurn  S = some o) : W p l e (rmL 3) s m args below meth c H locs 0 0 (Qm g below args s (some (.int o.1)) o.2) (F0 m 0 ls []) := by
  obtain ⟨hx, hb, hml, hown, hts, hlk, hK⟩ := id C
  unfold f_X11_readsTurn at h
  refine lv_aload_n hx hb dX11_readsTurn_0 rfl (lv_at hl 0 rfl) ?_
  refine gf_X11_108 C hH dX11_readsTurn_1 ?_
  refine lv_bipush (v := (12 : Int32)) hx hb dX11_readsTurn_4 (by decide) ?_
  refine lv_icmp_ne (tgt := 11) hx hb dX11_readsTurn_6 (by decide) (fun c56 => ?_) (fun c56 => ?_)
  · replace h := if_f h c56
    refine lv_bipush (v := (8 : Int32)) hx hb dX11_readsTurn_11 (by decide) ?_
    refine lv_aload_n hx hb dX11_readsTurn_13 rfl (lv_at hl 0 rfl) ?_
    refine gf_X11_108 C hH dX11_readsTurn_14 ?_
    refine lv_imul hx hb dX11_readsTurn_17 ?_
    refine lv_topi (fun x1 ex1 => ?_)
    replace h := lt_e h ex1
    refine lv_istore_n (lv' := [(1, .int x1), (0, .ref (gad g 10 0))]) hx hb dX11_readsTurn_18 rfl hl (by decide) rfl (fun ls hl => ?_)
    refine lv_aload_n hx hb dX11_readsTurn_19 rfl (lv_at hl 1 rfl) ?_
    refine gf_X11_34 C hH dX11_readsTurn_20 ?_
    refine lv_iload_n hx hb dX11_readsTurn_23 rfl (lv_at hl 0 rfl) ?_
    refine lv_iconst (v := (-1 : Int32)) hx hb dX11_readsTurn_24 (by decide) ?_
    obtain ⟨hv2, h⟩ := ck_e h
    refine r_ast C hH ka_41 ko_41 (by decide) (by decide) (vi_in hv2) dX11_readsTurn_25 (fun S3 H locs eS hH => ?_)
    replace h := lt_e h eS
    refine lv_aload_n hx hb dX11_readsTurn_26 rfl (lv_at hl 1 rfl) ?_
    refine gf_X11_34 C hH dX11_readsTurn_27 ?_
    refine lv_iload_n hx hb dX11_readsTurn_30 rfl (lv_at hl 0 rfl) ?_
    refine lv_iconst (v := (1 : Int32)) hx hb dX11_readsTurn_31 (by decide) ?_
    refine lv_iadd hx hb dX11_readsTurn_32 ?_
    refine lv_iconst (v := (0 : Int32)) hx hb dX11_readsTurn_33 (by decide) ?_
    obtain ⟨hv4, h⟩ := ck_e h
    refine r_ast C hH ka_41 ko_41 (by decide) (by decide) (vi_in hv4) dX11_readsTurn_34 (fun S5 H locs eS hH => ?_)
    replace h := lt_e h eS
    refine lv_aload_n hx hb dX11_readsTurn_35 rfl (lv_at hl 1 rfl) ?_
    obtain ⟨r7, hc6, h⟩ := bn_e h
    refine r_callV1 (ki := 10) (i := 0) (ci := 10) (As := []) C hl.1 hH (c_X11_here l g  hc6) q361 q5 q358 q359 q360 nd_X11_here rfl (by decide) ⟨Nat.zero_le _, Nat.zero_le _⟩ (by decide) (by decide) ⟨_, rfl⟩ rfl (Nat.le_of_ble_eq_true rfl) dX11_readsTurn_36 (fun H locs hH => ?_)
    refine lv_bipush (v := (45 : Int32)) hx hb dX11_readsTurn_39 (by decide) ?_
    obtain ⟨j46, ej46, h⟩ := jn_e h
    have hj46 : ∀ (S8 : sT) (H : Heap) (locs : List Loc) (ls : Array Slot), Hp g s S8 H locs → lv_has ls 3 [(0, .ref (gad g 10 0)), (1, .int x1)] → j46 S8 = some o → W p l e (rmL 3) s m args below meth c H locs 0 0 (Qm g below args s (some (.int o.1)) o.2) (F0 m 76 ls []) := by
      intro S8 H locs ls hH hl h
      rw [ej46] at h
      try dsimp only at h
      obtain ⟨j17, ej17, h⟩ := jn_e h
      have hj17 : ∀ (S9 : sT) (H : Heap) (locs : List Loc) (ls : Array Slot), Hp g s S9 H locs → lv_has ls 3 [(0, .ref (gad g 10 0)), (1, .int x1)] → j17 S9 = some o → W p l e (rmL 3) s m args below meth c H locs 0 0 (Qm g below args s (some (.int o.1)) o.2) (F0 m 186 ls []) := by
        intro S9 H locs ls hH hl h
        rw [ej17] at h
        try dsimp only at h
        refine lv_aload_n hx hb dX11_readsTurn_186 rfl (lv_at hl 0 rfl) ?_
        refine lv_dup hx hb dX11_readsTurn_187 rfl ?_
        refine gf_X11_108 C hH dX11_readsTurn_188 ?_
        refine lv_aload_n hx hb dX11_readsTurn_191 rfl (lv_at hl 0 rfl) ?_
        refine gf_X11_34 C hH dX11_readsTurn_192 ?_
        refine lv_iload_n hx hb dX11_readsTurn_195 rfl (lv_at hl 1 rfl) ?_
        refine lv_iconst (v := (1 : Int32)) hx hb dX11_readsTurn_196 (by decide) ?_
        refine lv_iadd hx hb dX11_readsTurn_197 ?_
        obtain ⟨hv10, h⟩ := ck_e h
        refine r_ald C hH ka_41 (by decide) (by decide) (vi_in hv10) dX11_readsTurn_198 ?_
        obtain ⟨j15, ej15, h⟩ := jn_e h
        have hj15 : ∀ (y11 : Int32) (H : Heap) (locs : List Loc) (ls : Array Slot), Hp g s S9 H locs → lv_has ls 3 [(0, .ref (gad g 10 0)), (1, .int x1)] → j15 y11 = some o → W p l e (rmL 3) s m args below meth c H locs 0 0 (Qm g below args s (some (.int o.1)) o.2) (F0 m 207 ls [.int y11, .int (S9.1 116 0 0), .ref (gad g 10 0)]) := by
          intro y11 H locs ls hH hl h
          rw [ej15] at h
          try dsimp only at h
          refine lv_iadd hx hb dX11_readsTurn_207 ?_
          refine pf_X11_108 C hH dX11_readsTurn_208 (fun S12 H locs eS hH => ?_)
          replace h := lt_e h eS
          refine lv_aload_n hx hb dX11_readsTurn_211 rfl (lv_at hl 0 rfl) ?_
          refine gf_X11_34 C hH dX11_readsTurn_212 ?_
          refine lv_iload_n hx hb dX11_readsTurn_215 rfl (lv_at hl 1 rfl) ?_
          refine lv_iconst (v := (1 : Int32)) hx hb dX11_readsTurn_216 (by decide) ?_
          refine lv_iadd hx hb dX11_readsTurn_217 ?_
          obtain ⟨hv13, h⟩ := ck_e h
          refine r_ald C hH ka_41 (by decide) (by decide) (vi_in hv13) dX11_readsTurn_218 ?_
          refine lv_if_le (tgt := 226) hx hb dX11_readsTurn_219 (by decide) (fun c14 => ?_) (fun c14 => ?_)
          · replace h := if_t h c14
            refine lv_iconst (v := (0 : Int32)) hx hb dX11_readsTurn_226 (by decide) ?_
            exact E_bool C hr hH rfl h dX11_readsTurn_227
          · replace h := if_f h c14
            refine lv_iconst (v := (1 : Int32)) hx hb dX11_readsTurn_222 (by decide) ?_
            refine lv_goto (tgt := 227) hx hb dX11_readsTurn_223 (by decide) ?_
            exact E_bool C hr hH rfl h dX11_readsTurn_227
        clear ej15
        refine lv_if_le (tgt := 206) hx hb dX11_readsTurn_199 (by decide) (fun c16 => ?_) (fun c16 => ?_)
        · replace h := if_t h c16
          refine lv_iconst (v := (0 : Int32)) hx hb dX11_readsTurn_206 (by decide) ?_
          exact hj15 _ _ _ _ hH (lv_sub hl [0, 1] rfl) h
        · replace h := if_f h c16
          refine lv_iconst (v := (1 : Int32)) hx hb dX11_readsTurn_202 (by decide) ?_
          refine lv_goto (tgt := 207) hx hb dX11_readsTurn_203 (by decide) ?_
          exact hj15 _ _ _ _ hH (lv_sub hl [0, 1] rfl) h
      clear ej17
      exact w_X11_readsTurn_76 C hr  j17 hj17 _ _ _ _ _ hH (lv_sub hl [0, 1] rfl) h
    clear ej46
    refine lv_icmp_ne (tgt := 76) hx hb dX11_readsTurn_41 (by decide) (fun c55 => ?_) (fun c55 => ?_)
    · replace h := if_f h c55
      exact hj46 _ _ _ _ hH (lv_sub hl [1, 0] rfl) h
    · replace h := if_t h c55
      refine lv_aload_n hx hb dX11_readsTurn_44 rfl (lv_at hl 1 rfl) ?_
      refine lv_dup hx hb dX11_readsTurn_45 rfl ?_
      refine gf_X11_97 C hH dX11_readsTurn_46 ?_
      refine lv_iconst (v := (1 : Int32)) hx hb dX11_readsTurn_49 (by decide) ?_
      refine lv_iadd hx hb dX11_readsTurn_50 ?_
      refine pf_X11_97 C hH dX11_readsTurn_51 (fun S47 H locs eS hH => ?_)
      replace h := lt_e h eS
      refine lv_aload_n hx hb dX11_readsTurn_54 rfl (lv_at hl 1 rfl) ?_
      refine gf_X11_34 C hH dX11_readsTurn_55 ?_
      refine lv_iload_n hx hb dX11_readsTurn_58 rfl (lv_at hl 0 rfl) ?_
      refine lv_aload_n hx hb dX11_readsTurn_59 rfl (lv_at hl 1 rfl) ?_
      obtain ⟨r49, S50, hc48, h⟩ := bn2_e h
      refine r_callV1 (ki := 10) (i := 0) (ci := 10) (As := []) C hl.1 hH (c_X11_figure l g  hc48) q365 q5 q362 q363 q364 nd_X11_figure rfl (by decide) ⟨Nat.zero_le _, Nat.zero_le _⟩ (by decide) (by decide) ⟨_, rfl⟩ rfl (Nat.le_of_ble_eq_true rfl) dX11_readsTurn_60 (fun H locs hH => ?_)
      obtain ⟨hv51, h⟩ := ck_e h
      refine r_ast C hH ka_41 ko_41 (by decide) (by decide) (vi_in hv51) dX11_readsTurn_63 (fun S52 H locs eS hH => ?_)
      replace h := lt_e h eS
      refine lv_aload_n hx hb dX11_readsTurn_64 rfl (lv_at hl 1 rfl) ?_
      refine gf_X11_34 C hH dX11_readsTurn_65 ?_
      refine lv_iload_n hx hb dX11_readsTurn_68 rfl (lv_at hl 0 rfl) ?_
      obtain ⟨hv53, h⟩ := ck_e h
      refine r_ald C hH ka_41 (by decide) (by decide) (vi_in hv53) dX11_readsTurn_69 ?_
      refine lv_iconst (v := (-1 : Int32)) hx hb dX11_readsTurn_70 (by decide) ?_
      refine lv_icmp_ne (tgt := 76) hx hb dX11_readsTurn_71 (by decide) (fun c54 => ?_) (fun c54 => ?_)
      · replace h := if_f h c54
        exact hj46 _ _ _ _ hH (lv_sub hl [1, 0] rfl) h
      · replace h := if_t h c54
        refine lv_iconst (v := (0 : Int32)) hx hb dX11_readsTurn_74 (by decide) ?_
        exact E_bool C hr hH rfl h dX11_readsTurn_75
  · replace h := if_t h c56
    refine lv_iconst (v := (0 : Int32)) hx hb dX11_readsTurn_9 (by decide) ?_
    exact E_bool C hr hH rfl h dX11_readsTurn_10
theorem c_X11_readsTurn (l : Launch) (g : gT)   {S : sT} {r : Int32} {S1 : sT} (h : f_X11_readsTurn  S = some (r, S1)) : MF l yX11_readsTurn cX11_readsTurn 3 (some .boolean) 3 g [.ref (gad g 10 0)] S (some (.int r)) S1 := by
  refine MF.of (own := RX11) rfl rfl (Nat.le_of_ble_eq_true rfl) ?_
  intro p e s m below meth c C hr hH ls hl
  exact w_X11_readsTurn C hr (o := (r, S1))  hH hl h
theorem nd_X11_readsTurns : yX11_readsTurns.cls ≠ "java/lang/invoke/MethodHandle" ∧ yX11_readsTurns.cls ≠ "java/lang/invoke/VarHandle" ∧ (parseMethodDescriptor yX11_readsTurns.desc).map (fun d => d.parameters.length) = some 0 := by decide +kernel
def b_X11_readsTurns_25 (j7 : sT → Option (Int32 × sT)) (x8 : Int32) (S9 : sT) (k10 : Int32 → sT → Option (Int32 × sT)) : Option (Int32 × sT) :=
 (if x8 = (0 : Int32) then
 some ((-1 : Int32), S9)
 else
 bn2 (f_X11_readsTurn  S9) (fun r12 S13 =>
 jn (fun (y14 : Int32) => (if r12 = (0 : Int32) then
 j7 S13
 else
 jn (jn (fun (y15 : Int32) => lt (us S13 114 0 0 ((S13.1 114 0 0) + y15)) (fun S16 =>
 k10 y14 S16))
 (fun j17 => (if y14 = (0 : Int32) then
 j17 (0 : Int32)
 else
 j17 (1 : Int32))))
 (fun j19 => (if y14 = (0 : Int32) then
 j19
 else
 bn (f_X11_here  S13) (fun r21 =>
 (if r21 = (59 : Int32) then
 j19
 else
 j7 S13))))))
 (fun j25 => jn (j25 (0 : Int32))
 (fun j26 => (if r12 = (0 : Int32) then
 j26
 else
 ck (vi (1 : Int32) 2) (
 (if (S13.1 38 0 (cl (1 : Int32))) ≤ (S13.1 114 0 0) then
 j26
 else
 j25 (1 : Int32))))))))
def l_X11_readsTurns_25 (j7 : sT → Option (Int32 × sT)) : Nat → Int32 → sT → Option (Int32 × sT)
 | 0, _, _ => none
 | n + 1, x8, S9 => b_X11_readsTurns_25 j7 x8 S9 (l_X11_readsTurns_25 j7 n)
theorem l_X11_readsTurns_25_s (j7 : sT → Option (Int32 × sT)) (n : Nat) (x8 : Int32) (S9 : sT) : l_X11_readsTurns_25 j7 (n + 1) x8 S9 = b_X11_readsTurns_25 j7 x8 S9 (l_X11_readsTurns_25 j7 n) := rfl
def f_X11_readsTurns  (S : sT) : Option (Int32 × sT) :=
 lt (us S 114 0 0 (0 : Int32)) (fun S1 =>
 lt (us S1 116 0 0 (0 : Int32)) (fun S2 =>
 ck (vi (1 : Int32) 2) (
 jn (fun (y4 : Int32) => jn (fun (S5 : sT) => lt (us S5 116 0 0 (0 : Int32)) (fun S6 =>
 some ((S6.1 114 0 0), S6)))
 (fun j7 => l_X11_readsTurns_25 j7 FU y4 S2))
 (fun j31 => (if (S2.1 38 0 (cl (1 : Int32))) ≤ (0 : Int32) then
 j31 (0 : Int32)
 else
 j31 (1 : Int32))))))
set_option maxHeartbeats 4000000 in
set_option maxRecDepth 100000 in
theorem w_X11_readsTurns_25 (C : Cx p s m args meth c cX11_readsTurns 3 RX11 g) (hr : meth.sig.returnType = (some .int)) {o : Int32 × sT}    (j7 : sT → Option (Int32 × sT)) (hj7 : ∀ (S5 : sT) (H : Heap) (locs : List Loc) (ls : Array Slot), Hp g s S5 H locs → lv_has ls 3 [(0, .ref (gad g 10 0))] → j7 S5 = some o → W p l e (rmL 4) s m args below meth c H locs 0 0 (Qm g below args s (some (.int o.1)) o.2) (F0 m 74 ls [])) : ∀ (n : Nat) (x8 : Int32) (S9 : sT) (H : Heap) (locs : List Loc) (ls : Array Slot), Hp g s S9 H locs → lv_has ls 3 [(0, .ref (gad g 10 0)), (1, .int x8)] → l_X11_readsTurns_25 j7 n x8 S9 = some o → W p l e (rmL 4) s m args below meth c H locs 0 0 (Qm g below args s (some (.int o.1)) o.2) (F0 m 25 ls []) := by
  obtain ⟨hx, hb, hml, hown, hts, hlk, hK⟩ := id C
  intro n
  induction n with
  | zero =>
    intro x8 S9 H locs ls hH hl h
    cases h
  | succ n ih =>
    intro x8 S9 H locs ls hH hl h
    rw [l_X11_readsTurns_25_s] at h
    unfold b_X11_readsTurns_25 at h
    refine lv_iload_n hx hb dX11_readsTurns_25 rfl (lv_at hl 1 rfl) ?_
    refine lv_if_eq (tgt := 105) hx hb dX11_readsTurns_26 (by decide) (fun c30 => ?_) (fun c30 => ?_)
    · replace h := if_t h c30
      refine lv_iconst (v := (-1 : Int32)) hx hb dX11_readsTurns_105 (by decide) ?_
      exact E_int C hr hH h dX11_readsTurns_106
    · replace h := if_f h c30
      refine lv_aload_n hx hb dX11_readsTurns_29 rfl (lv_at hl 0 rfl) ?_
      obtain ⟨r12, S13, hc11, h⟩ := bn2_e h
      refine r_callV1 (ki := 10) (i := 0) (ci := 10) (As := []) C hl.1 hH (c_X11_readsTurn l g  hc11) q357 q5 q354 q355 q356 nd_X11_readsTurn rfl (by decide) ⟨Nat.zero_le _, Nat.zero_le _⟩ (by decide) (by decide) ⟨_, rfl⟩ rfl (Nat.le_of_ble_eq_true rfl) dX11_readsTurns_30 (fun H locs hH => ?_)
      refine lv_istore_n (lv' := [(2, .int r12), (0, .ref (gad g 10 0)), (1, .int x8)]) hx hb dX11_readsTurns_33 rfl hl (by decide) rfl (fun ls hl => ?_)
      refine lv_iload_n hx hb dX11_readsTurns_34 rfl (lv_at hl 0 rfl) ?_
      obtain ⟨j25, ej25, h⟩ := jn_e h
      have hj25 : ∀ (y14 : Int32) (H : Heap) (locs : List Loc) (ls : Array Slot), Hp g s S13 H locs → lv_has ls 3 [(0, .ref (gad g 10 0)), (2, .int r12)] → j25 y14 = some o → W p l e (rmL 4) s m args below meth c H locs 0 0 (Qm g below args s (some (.int o.1)) o.2) (F0 m 56 ls [.int y14]) := by
        intro y14 H locs ls hH hl h
        rw [ej25] at h
        try dsimp only at h
        refine lv_istore_n (lv' := [(1, .int y14), (0, .ref (gad g 10 0)), (2, .int r12)]) hx hb dX11_readsTurns_56 rfl hl (by decide) rfl (fun ls hl => ?_)
        refine lv_iload_n hx hb dX11_readsTurns_57 rfl (lv_at hl 2 rfl) ?_
        refine lv_if_eq (tgt := 74) hx hb dX11_readsTurns_58 (by decide) (fun c24 => ?_) (fun c24 => ?_)
        · replace h := if_t h c24
          exact hj7 _ _ _ _ hH (lv_sub hl [1] rfl) h
        · replace h := if_f h c24
          refine lv_iload_n hx hb dX11_readsTurns_61 rfl (lv_at hl 0 rfl) ?_
          obtain ⟨j19, ej19, h⟩ := jn_e h
          have hj19 : ∀  (H : Heap) (locs : List Loc) (ls : Array Slot), Hp g s S13 H locs → lv_has ls 3 [(0, .ref (gad g 10 0)), (1, .int y14)] → j19  = some o → W p l e (rmL 4) s m args below meth c H locs 0 0 (Qm g below args s (some (.int o.1)) o.2) (F0 m 84 ls []) := by
            intro  H locs ls hH hl h
            rw [ej19] at h
            try dsimp only at h
            refine lv_aload_n hx hb dX11_readsTurns_84 rfl (lv_at hl 0 rfl) ?_
            refine lv_dup hx hb dX11_readsTurns_85 rfl ?_
            refine gf_X11_97 C hH dX11_readsTurns_86 ?_
            refine lv_iload_n hx hb dX11_readsTurns_89 rfl (lv_at hl 1 rfl) ?_
            obtain ⟨j17, ej17, h⟩ := jn_e h
            have hj17 : ∀ (y15 : Int32) (H : Heap) (locs : List Loc) (ls : Array Slot), Hp g s S13 H locs → lv_has ls 3 [(0, .ref (gad g 10 0)), (1, .int y14)] → j17 y15 = some o → W p l e (rmL 4) s m args below meth c H locs 0 0 (Qm g below args s (some (.int o.1)) o.2) (F0 m 98 ls [.int y15, .int (S13.1 114 0 0), .ref (gad g 10 0)]) := by
              intro y15 H locs ls hH hl h
              rw [ej17] at h
              try dsimp only at h
              refine lv_iadd hx hb dX11_readsTurns_98 ?_
              refine pf_X11_97 C hH dX11_readsTurns_99 (fun S16 H locs eS hH => ?_)
              replace h := lt_e h eS
              refine lv_goto (tgt := 25) hx hb dX11_readsTurns_102 (by decide) ?_
              exact ih _ _ _ _ _ hH (lv_sub hl [0, 1] rfl) h
            clear ej17
            refine lv_if_eq (tgt := 97) hx hb dX11_readsTurns_90 (by decide) (fun c18 => ?_) (fun c18 => ?_)
            · replace h := if_t h c18
              refine lv_iconst (v := (0 : Int32)) hx hb dX11_readsTurns_97 (by decide) ?_
              exact hj17 _ _ _ _ hH (lv_sub hl [0, 1] rfl) h
            · replace h := if_f h c18
              refine lv_iconst (v := (1 : Int32)) hx hb dX11_readsTurns_93 (by decide) ?_
              refine lv_goto (tgt := 98) hx hb dX11_readsTurns_94 (by decide) ?_
              exact hj17 _ _ _ _ hH (lv_sub hl [0, 1] rfl) h
          clear ej19
          refine lv_if_eq (tgt := 84) hx hb dX11_readsTurns_62 (by decide) (fun c23 => ?_) (fun c23 => ?_)
          · replace h := if_t h c23
            exact hj19 _ _ _ hH (lv_sub hl [1, 0] rfl) h
          · replace h := if_f h c23
            refine lv_aload_n hx hb dX11_readsTurns_65 rfl (lv_at hl 1 rfl) ?_
            obtain ⟨r21, hc20, h⟩ := bn_e h
            refine r_callV1 (ki := 10) (i := 0) (ci := 10) (As := []) C hl.1 hH (c_X11_here l g  hc20) q361 q5 q358 q359 q360 nd_X11_here rfl (by decide) ⟨Nat.zero_le _, Nat.zero_le _⟩ (by decide) (by decide) ⟨_, rfl⟩ rfl (Nat.le_of_ble_eq_true rfl) dX11_readsTurns_66 (fun H locs hH => ?_)
            refine lv_bipush (v := (59 : Int32)) hx hb dX11_readsTurns_69 (by decide) ?_
            refine lv_icmp_eq (tgt := 84) hx hb dX11_readsTurns_71 (by decide) (fun c22 => ?_) (fun c22 => ?_)
            · replace h := if_t h c22
              exact hj19 _ _ _ hH (lv_sub hl [1, 0] rfl) h
            · replace h := if_f h c22
              exact hj7 _ _ _ _ hH (lv_sub hl [1] rfl) h
      clear ej25
      obtain ⟨j26, ej26, h⟩ := jn_e h
      have hj26 : ∀  (H : Heap) (locs : List Loc) (ls : Array Slot), Hp g s S13 H locs → lv_has ls 3 [(0, .ref (gad g 10 0)), (2, .int r12)] → j26  = some o → W p l e (rmL 4) s m args below meth c H locs 0 0 (Qm g below args s (some (.int o.1)) o.2) (F0 m 55 ls []) := by
        intro  H locs ls hH hl h
        rw [ej26] at h
        try dsimp only at h
        refine lv_iconst (v := (0 : Int32)) hx hb dX11_readsTurns_55 (by decide) ?_
        exact hj25 _ _ _ _ hH (lv_sub hl [0, 1] rfl) h
      clear ej26
      refine lv_if_eq (tgt := 55) hx hb dX11_readsTurns_35 (by decide) (fun c29 => ?_) (fun c29 => ?_)
      · replace h := if_t h c29
        exact hj26 _ _ _ hH (lv_sub hl [1, 0] rfl) h
      · replace h := if_f h c29
        refine lv_aload_n hx hb dX11_readsTurns_38 rfl (lv_at hl 1 rfl) ?_
        refine gf_X11_97 C hH dX11_readsTurns_39 ?_
        refine lv_aload_n hx hb dX11_readsTurns_42 rfl (lv_at hl 1 rfl) ?_
        refine gf_X11_25 C hH dX11_readsTurns_43 ?_
        refine lv_iconst (v := (1 : Int32)) hx hb dX11_readsTurns_46 (by decide) ?_
        obtain ⟨hv27, h⟩ := ck_e h
        refine r_ald C hH ka_38 (by decide) (by decide) (vi_in hv27) dX11_readsTurns_47 ?_
        refine lv_icmp_ge (tgt := 55) hx hb dX11_readsTurns_48 (by decide) (fun c28 => ?_) (fun c28 => ?_)
        · replace h := if_t h c28
          exact hj26 _ _ _ hH (lv_sub hl [1, 0] rfl) h
        · replace h := if_f h c28
          refine lv_iconst (v := (1 : Int32)) hx hb dX11_readsTurns_51 (by decide) ?_
          refine lv_goto (tgt := 56) hx hb dX11_readsTurns_52 (by decide) ?_
          exact hj25 _ _ _ _ hH (lv_sub hl [1, 0] rfl) h
set_option maxHeartbeats 4000000 in
set_option maxRecDepth 100000 in
theorem w_X11_readsTurns (C : Cx p s m args meth c cX11_readsTurns 3 RX11 g) (hr : meth.sig.returnType = (some .int)) {o : Int32 × sT}   {S : sT} {H : Heap} {locs : List Loc} {ls : Array Slot} (hH : Hp g s S H locs) (hl : lv_has ls 3 [(0, .ref (gad g 10 0))]) (h : f_X11_readsTurns  S = some o) : W p l e (rmL 4) s m args below meth c H locs 0 0 (Qm g below args s (some (.int o.1)) o.2) (F0 m 0 ls []) := by
  obtain ⟨hx, hb, hml, hown, hts, hlk, hK⟩ := id C
  unfold f_X11_readsTurns at h
  refine lv_aload_n hx hb dX11_readsTurns_0 rfl (lv_at hl 0 rfl) ?_
  refine lv_iconst (v := (0 : Int32)) hx hb dX11_readsTurns_1 (by decide) ?_
  refine pf_X11_97 C hH dX11_readsTurns_2 (fun S1 H locs eS hH => ?_)
  replace h := lt_e h eS
  refine lv_aload_n hx hb dX11_readsTurns_5 rfl (lv_at hl 0 rfl) ?_
  refine lv_iconst (v := (0 : Int32)) hx hb dX11_readsTurns_6 (by decide) ?_
  refine pf_X11_108 C hH dX11_readsTurns_7 (fun S2 H locs eS hH => ?_)
  replace h := lt_e h eS
  refine lv_aload_n hx hb dX11_readsTurns_10 rfl (lv_at hl 0 rfl) ?_
  refine gf_X11_25 C hH dX11_readsTurns_11 ?_
  refine lv_iconst (v := (1 : Int32)) hx hb dX11_readsTurns_14 (by decide) ?_
  obtain ⟨hv3, h⟩ := ck_e h
  refine r_ald C hH ka_38 (by decide) (by decide) (vi_in hv3) dX11_readsTurns_15 ?_
  obtain ⟨j31, ej31, h⟩ := jn_e h
  have hj31 : ∀ (y4 : Int32) (H : Heap) (locs : List Loc) (ls : Array Slot), Hp g s S2 H locs → lv_has ls 3 [(0, .ref (gad g 10 0))] → j31 y4 = some o → W p l e (rmL 4) s m args below meth c H locs 0 0 (Qm g below args s (some (.int o.1)) o.2) (F0 m 24 ls [.int y4]) := by
    intro y4 H locs ls hH hl h
    rw [ej31] at h
    try dsimp only at h
    refine lv_istore_n (lv' := [(1, .int y4), (0, .ref (gad g 10 0))]) hx hb dX11_readsTurns_24 rfl hl (by decide) rfl (fun ls hl => ?_)
    obtain ⟨j7, ej7, h⟩ := jn_e h
    have hj7 : ∀ (S5 : sT) (H : Heap) (locs : List Loc) (ls : Array Slot), Hp g s S5 H locs → lv_has ls 3 [(0, .ref (gad g 10 0))] → j7 S5 = some o → W p l e (rmL 4) s m args below meth c H locs 0 0 (Qm g below args s (some (.int o.1)) o.2) (F0 m 74 ls []) := by
      intro S5 H locs ls hH hl h
      rw [ej7] at h
      try dsimp only at h
      refine lv_aload_n hx hb dX11_readsTurns_74 rfl (lv_at hl 0 rfl) ?_
      refine lv_iconst (v := (0 : Int32)) hx hb dX11_readsTurns_75 (by decide) ?_
      refine pf_X11_108 C hH dX11_readsTurns_76 (fun S6 H locs eS hH => ?_)
      replace h := lt_e h eS
      refine lv_aload_n hx hb dX11_readsTurns_79 rfl (lv_at hl 0 rfl) ?_
      refine gf_X11_97 C hH dX11_readsTurns_80 ?_
      exact E_int C hr hH h dX11_readsTurns_83
    clear ej7
    exact w_X11_readsTurns_25 C hr  j7 hj7 _ _ _ _ _ _ hH (lv_sub hl [1, 0] rfl) h
  clear ej31
  refine lv_if_le (tgt := 23) hx hb dX11_readsTurns_16 (by decide) (fun c32 => ?_) (fun c32 => ?_)
  · replace h := if_t h c32
    refine lv_iconst (v := (0 : Int32)) hx hb dX11_readsTurns_23 (by decide) ?_
    exact hj31 _ _ _ _ hH (lv_sub hl [0] rfl) h
  · replace h := if_f h c32
    refine lv_iconst (v := (1 : Int32)) hx hb dX11_readsTurns_19 (by decide) ?_
    refine lv_goto (tgt := 24) hx hb dX11_readsTurns_20 (by decide) ?_
    exact hj31 _ _ _ _ hH (lv_sub hl [0] rfl) h
theorem c_X11_readsTurns (l : Launch) (g : gT)   {S : sT} {r : Int32} {S1 : sT} (h : f_X11_readsTurns  S = some (r, S1)) : MF l yX11_readsTurns cX11_readsTurns 3 (some .int) 4 g [.ref (gad g 10 0)] S (some (.int r)) S1 := by
  refine MF.of (own := RX11) rfl rfl (Nat.le_of_ble_eq_true rfl) ?_
  intro p e s m below meth c C hr hH ls hl
  exact w_X11_readsTurns C hr (o := (r, S1))  hH hl h
theorem nd_X11_reads : yX11_reads.cls ≠ "java/lang/invoke/MethodHandle" ∧ yX11_reads.cls ≠ "java/lang/invoke/VarHandle" ∧ (parseMethodDescriptor yX11_reads.desc).map (fun d => d.parameters.length) = some 0 := by decide +kernel
def f_X11_reads  (S : sT) : Option (sT) :=
 bn2 (f_X11_readsWall  S) (fun r2 S3 =>
 bn2 (f_X11_readsTurns  S3) (fun r5 S6 =>
 some S6))
set_option maxHeartbeats 4000000 in
set_option maxRecDepth 100000 in
theorem w_X11_reads (C : Cx p s m args meth c cX11_reads 1 RX11 g) (hr : meth.sig.returnType = none) {o : sT}   {S : sT} {H : Heap} {locs : List Loc} {ls : Array Slot} (hH : Hp g s S H locs) (hl : lv_has ls 1 [(0, .ref (gad g 10 0))]) (h : f_X11_reads  S = some o) : W p l e (rmL 5) s m args below meth c H locs 0 0 (Qm g below args s none o) (F0 m 0 ls []) := by
  obtain ⟨hx, hb, hml, hown, hts, hlk, hK⟩ := id C
  unfold f_X11_reads at h
  refine lv_aload_n hx hb dX11_reads_0 rfl (lv_at hl 0 rfl) ?_
  obtain ⟨r2, S3, hc1, h⟩ := bn2_e h
  refine r_callV1 (ki := 10) (i := 0) (ci := 10) (As := []) C hl.1 hH (c_X11_readsWall l g  hc1) q343 q5 q340 q341 q342 nd_X11_readsWall rfl (by decide) ⟨Nat.zero_le _, Nat.zero_le _⟩ (by decide) (by decide) ⟨_, rfl⟩ rfl (Nat.le_of_ble_eq_true rfl) dX11_reads_1 (fun H locs hH => ?_)
  refine lv_pop hx hb dX11_reads_4 rfl ?_
  refine lv_aload_n hx hb dX11_reads_5 rfl (lv_at hl 0 rfl) ?_
  obtain ⟨r5, S6, hc4, h⟩ := bn2_e h
  refine r_callV1 (ki := 10) (i := 0) (ci := 10) (As := []) C hl.1 hH (c_X11_readsTurns l g  hc4) q351 q5 q348 q349 q350 nd_X11_readsTurns rfl (by decide) ⟨Nat.zero_le _, Nat.zero_le _⟩ (by decide) (by decide) ⟨_, rfl⟩ rfl (Nat.le_of_ble_eq_true rfl) dX11_reads_6 (fun H locs hH => ?_)
  refine lv_pop hx hb dX11_reads_9 rfl ?_
  exact E_void C hr hH h dX11_reads_10
theorem c_X11_reads (l : Launch) (g : gT)   {S : sT} {S1 : sT} (h : f_X11_reads  S = some S1) : MF l yX11_reads cX11_reads 1 none 5 g [.ref (gad g 10 0)] S none S1 := by
  refine MF.of (own := RX11) rfl rfl (Nat.le_of_ble_eq_true rfl) ?_
  intro p e s m below meth c C hr hH ls hl
  exact w_X11_reads C hr (o := S1)  hH hl h
theorem nd_X11_fault : yX11_fault.cls ≠ "java/lang/invoke/MethodHandle" ∧ yX11_fault.cls ≠ "java/lang/invoke/VarHandle" ∧ (parseMethodDescriptor yX11_fault.desc).map (fun d => d.parameters.length) = some 1 := by decide +kernel
def f_X11_fault (a1 : Int32) (S : sT) : Option (Int32 × sT) :=
 bn (f_X11_isTwo a1 S) (fun r2 =>
 (if r2 = (0 : Int32) then
 some ((-2 : Int32), S)
 else
 (if a1 = (0 : Int32) then
 bn2 (f_X11_readsWall  S) (fun r7 S8 =>
 some (r7, S8))
 else
 bn2 (f_X11_readsTurns  S) (fun r4 S5 =>
 some (r4, S5)))))
set_option maxHeartbeats 4000000 in
set_option maxRecDepth 100000 in
theorem w_X11_fault (C : Cx p s m args meth c cX11_fault 2 RX11 g) (hr : meth.sig.returnType = (some .int)) {o : Int32 × sT} {a1 : Int32}  {S : sT} {H : Heap} {locs : List Loc} {ls : Array Slot} (hH : Hp g s S H locs) (hl : lv_has ls 2 [(0, .ref (gad g 10 0)), (1, .int a1)]) (h : f_X11_fault a1 S = some o) : W p l e (rmL 5) s m args below meth c H locs 0 0 (Qm g below args s (some (.int o.1)) o.2) (F0 m 0 ls []) := by
  obtain ⟨hx, hb, hml, hown, hts, hlk, hK⟩ := id C
  unfold f_X11_fault at h
  refine lv_iload_n hx hb dX11_fault_0 rfl (lv_at hl 1 rfl) ?_
  obtain ⟨r2, hc1, h⟩ := bn_e h
  refine r_callS1 (As := [.int a1]) C hl.1 hH (c_X11_isTwo l g  hc1) q304 q5 q302 q303 nd_X11_isTwo rfl (by decide) ⟨Nat.zero_le _, Nat.zero_le _⟩ (Nat.le_of_ble_eq_true rfl) dX11_fault_1 (fun H locs hH => ?_)
  refine lv_if_ne (tgt := 12) hx hb dX11_fault_4 (by decide) (fun c10 => ?_) (fun c10 => ?_)
  · replace h := if_f h c10
    refine lv_iload_n hx hb dX11_fault_12 rfl (lv_at hl 1 rfl) ?_
    refine lv_if_ne (tgt := 23) hx hb dX11_fault_13 (by decide) (fun c9 => ?_) (fun c9 => ?_)
    · replace h := if_f h c9
      refine lv_aload_n hx hb dX11_fault_23 rfl (lv_at hl 0 rfl) ?_
      obtain ⟨r4, S5, hc3, h⟩ := bn2_e h
      refine r_callV1 (ki := 10) (i := 0) (ci := 10) (As := []) C hl.1 hH (c_X11_readsTurns l g  hc3) q351 q5 q348 q349 q350 nd_X11_readsTurns rfl (by decide) ⟨Nat.zero_le _, Nat.zero_le _⟩ (by decide) (by decide) ⟨_, rfl⟩ rfl (Nat.le_of_ble_eq_true rfl) dX11_fault_24 (fun H locs hH => ?_)
      exact E_int C hr hH h dX11_fault_27
    · replace h := if_t h c9
      refine lv_aload_n hx hb dX11_fault_16 rfl (lv_at hl 0 rfl) ?_
      obtain ⟨r7, S8, hc6, h⟩ := bn2_e h
      refine r_callV1 (ki := 10) (i := 0) (ci := 10) (As := []) C hl.1 hH (c_X11_readsWall l g  hc6) q343 q5 q340 q341 q342 nd_X11_readsWall rfl (by decide) ⟨Nat.zero_le _, Nat.zero_le _⟩ (by decide) (by decide) ⟨_, rfl⟩ rfl (Nat.le_of_ble_eq_true rfl) dX11_fault_17 (fun H locs hH => ?_)
      refine lv_goto (tgt := 27) hx hb dX11_fault_20 (by decide) ?_
      exact E_int C hr hH h dX11_fault_27
  · replace h := if_t h c10
    refine lv_bipush (v := (-2 : Int32)) hx hb dX11_fault_7 (by decide) ?_
    refine lv_goto (tgt := 27) hx hb dX11_fault_9 (by decide) ?_
    exact E_int C hr hH h dX11_fault_27
theorem c_X11_fault (l : Launch) (g : gT) {a1 : Int32}  {S : sT} {r : Int32} {S1 : sT} (h : f_X11_fault a1 S = some (r, S1)) : MF l yX11_fault cX11_fault 2 (some .int) 5 g [.ref (gad g 10 0), .int a1] S (some (.int r)) S1 := by
  refine MF.of (own := RX11) rfl rfl (Nat.le_of_ble_eq_true rfl) ?_
  intro p e s m below meth c C hr hH ls hl
  exact w_X11_fault C hr (o := (r, S1))  hH hl h
theorem nd_X11_mostOf : yX11_mostOf.cls ≠ "java/lang/invoke/MethodHandle" ∧ yX11_mostOf.cls ≠ "java/lang/invoke/VarHandle" ∧ (parseMethodDescriptor yX11_mostOf.desc).map (fun d => d.parameters.length) = some 1 := by decide +kernel
def f_X11_mostOf (a1 : Int32) (S : sT) : Option (Int32) :=
 (if a1 = (0 : Int32) then
 some (1 : Int32)
 else
 (if a1 = (2 : Int32) then
 some (9 : Int32)
 else
 (if a1 = (5 : Int32) then
 some (255 : Int32)
 else
 some (16 : Int32))))
set_option maxHeartbeats 4000000 in
set_option maxRecDepth 100000 in
theorem w_X11_mostOf (C : Cx p s m args meth c cX11_mostOf 1 RX11 g) (hr : meth.sig.returnType = (some .int)) {o : Int32} {a1 : Int32}  {S : sT} {H : Heap} {locs : List Loc} {ls : Array Slot} (hH : Hp g s S H locs) (hl : lv_has ls 1 [(0, .int a1)]) (h : f_X11_mostOf a1 S = some o) : W p l e (rmL 1) s m args below meth c H locs 0 0 (Qm g below args s (some (.int o)) S) (F0 m 0 ls []) := by
  obtain ⟨hx, hb, hml, hown, hts, hlk, hK⟩ := id C
  unfold f_X11_mostOf at h
  refine lv_iload_n hx hb dX11_mostOf_0 rfl (lv_at hl 0 rfl) ?_
  refine lv_if_ne (tgt := 8) hx hb dX11_mostOf_1 (by decide) (fun c3 => ?_) (fun c3 => ?_)
  · replace h := if_f h c3
    refine lv_iload_n hx hb dX11_mostOf_8 rfl (lv_at hl 0 rfl) ?_
    refine lv_iconst (v := (2 : Int32)) hx hb dX11_mostOf_9 (by decide) ?_
    refine lv_icmp_ne (tgt := 18) hx hb dX11_mostOf_10 (by decide) (fun c2 => ?_) (fun c2 => ?_)
    · replace h := if_f h c2
      refine lv_iload_n hx hb dX11_mostOf_18 rfl (lv_at hl 0 rfl) ?_
      refine lv_iconst (v := (5 : Int32)) hx hb dX11_mostOf_19 (by decide) ?_
      refine lv_icmp_ne (tgt := 29) hx hb dX11_mostOf_20 (by decide) (fun c1 => ?_) (fun c1 => ?_)
      · replace h := if_f h c1
        refine lv_bipush (v := (16 : Int32)) hx hb dX11_mostOf_29 (by decide) ?_
        exact E_intc C hr hH h dX11_mostOf_31
      · replace h := if_t h c1
        refine lv_sipush (v := (255 : Int32)) hx hb dX11_mostOf_23 (by decide) ?_
        refine lv_goto (tgt := 31) hx hb dX11_mostOf_26 (by decide) ?_
        exact E_intc C hr hH h dX11_mostOf_31
    · replace h := if_t h c2
      refine lv_bipush (v := (9 : Int32)) hx hb dX11_mostOf_13 (by decide) ?_
      refine lv_goto (tgt := 31) hx hb dX11_mostOf_15 (by decide) ?_
      exact E_intc C hr hH h dX11_mostOf_31
  · replace h := if_t h c3
    refine lv_iconst (v := (1 : Int32)) hx hb dX11_mostOf_4 (by decide) ?_
    refine lv_goto (tgt := 31) hx hb dX11_mostOf_5 (by decide) ?_
    exact E_intc C hr hH h dX11_mostOf_31
theorem c_X11_mostOf (l : Launch) (g : gT) {a1 : Int32}  {S : sT} {r : Int32} (h : f_X11_mostOf a1 S = some r) : MF l yX11_mostOf cX11_mostOf 1 (some .int) 1 g [.int a1] S (some (.int r)) S := by
  refine MF.of (own := RX11) rfl rfl (Nat.le_of_ble_eq_true rfl) ?_
  intro p e s m below meth c C hr hH ls hl
  exact w_X11_mostOf C hr (o := r)  hH hl h
theorem nd_X11_set : yX11_set.cls ≠ "java/lang/invoke/MethodHandle" ∧ yX11_set.cls ≠ "java/lang/invoke/VarHandle" ∧ (parseMethodDescriptor yX11_set.desc).map (fun d => d.parameters.length) = some 2 := by decide +kernel
def f_X11_set (a1 : Int32) (a2 : Int32) (S : sT) : Option (Int32 × sT) :=
 bn (f_X11_in ((a1).toInt64) (0 : Int64) (5 : Int64) S) (fun r2 =>
 (if r2 = (0 : Int32) then
 some ((-2 : Int32), S)
 else
 bn (f_X11_mostOf a1 S) (fun r4 =>
 bn (f_X11_in ((a2).toInt64) (0 : Int64) ((r4).toInt64) S) (fun r6 =>
 (if r6 = (0 : Int32) then
 some ((-2 : Int32), S)
 else
 ck (vi a1 6) (
 lt (S.1 42 0 (cl a1)) (fun x8 =>
 ck (vi a1 6) (
 lt (us S 42 0 (cl a1) a2) (fun S10 =>
 some (x8, S10))))))))))
set_option maxHeartbeats 4000000 in
set_option maxRecDepth 100000 in
theorem w_X11_set (C : Cx p s m args meth c cX11_set 4 RX11 g) (hr : meth.sig.returnType = (some .int)) {o : Int32 × sT} {a1 : Int32} {a2 : Int32}  {S : sT} {H : Heap} {locs : List Loc} {ls : Array Slot} (hH : Hp g s S H locs) (hl : lv_has ls 4 [(0, .ref (gad g 10 0)), (1, .int a1), (2, .int a2)]) (h : f_X11_set a1 a2 S = some o) : W p l e (rmL 2) s m args below meth c H locs 0 0 (Qm g below args s (some (.int o.1)) o.2) (F0 m 0 ls []) := by
  obtain ⟨hx, hb, hml, hown, hts, hlk, hK⟩ := id C
  unfold f_X11_set at h
  refine lv_iload_n hx hb dX11_set_0 rfl (lv_at hl 1 rfl) ?_
  refine lv_i2l hx hb dX11_set_1 rfl ?_
  refine lv_lconst (v := (0 : Int64)) hx hb dX11_set_2 (by decide) ?_
  refine lv_ldc2 (v := (5 : Int64)) hx hb hown (hts _ q386) dX11_set_3 ?_
  obtain ⟨r2, hc1, h⟩ := bn_e h
  refine r_callS1 (As := [.long ((a1).toInt64), .long (0 : Int64), .long (5 : Int64)]) C hl.1 hH (c_X11_in l g  hc1) q307 q5 q305 q306 nd_X11_in rfl (by decide) ⟨Nat.zero_le _, Nat.zero_le _⟩ (Nat.le_of_ble_eq_true rfl) dX11_set_6 (fun H locs hH => ?_)
  refine lv_if_eq (tgt := 26) hx hb dX11_set_9 (by decide) (fun c12 => ?_) (fun c12 => ?_)
  · replace h := if_t h c12
    refine lv_bipush (v := (-2 : Int32)) hx hb dX11_set_26 (by decide) ?_
    exact E_int C hr hH h dX11_set_28
  · replace h := if_f h c12
    refine lv_iload_n hx hb dX11_set_12 rfl (lv_at hl 2 rfl) ?_
    refine lv_i2l hx hb dX11_set_13 rfl ?_
    refine lv_lconst (v := (0 : Int64)) hx hb dX11_set_14 (by decide) ?_
    refine lv_iload_n hx hb dX11_set_15 rfl (lv_at hl 1 rfl) ?_
    obtain ⟨r4, hc3, h⟩ := bn_e h
    refine r_callS1 (As := [.int a1]) C hl.1 hH (c_X11_mostOf l g  hc3) q389 q5 q387 q388 nd_X11_mostOf rfl (by decide) ⟨Nat.zero_le _, Nat.zero_le _⟩ (Nat.le_of_ble_eq_true rfl) dX11_set_16 (fun H locs hH => ?_)
    refine lv_i2l hx hb dX11_set_19 rfl ?_
    obtain ⟨r6, hc5, h⟩ := bn_e h
    refine r_callS1 (As := [.long ((a2).toInt64), .long (0 : Int64), .long ((r4).toInt64)]) C hl.1 hH (c_X11_in l g  hc5) q307 q5 q305 q306 nd_X11_in rfl (by decide) ⟨Nat.zero_le _, Nat.zero_le _⟩ (Nat.le_of_ble_eq_true rfl) dX11_set_20 (fun H locs hH => ?_)
    refine lv_if_ne (tgt := 29) hx hb dX11_set_23 (by decide) (fun c11 => ?_) (fun c11 => ?_)
    · replace h := if_f h c11
      refine lv_aload_n hx hb dX11_set_29 rfl (lv_at hl 0 rfl) ?_
      refine gf_X11_37 C hH dX11_set_30 ?_
      refine lv_iload_n hx hb dX11_set_33 rfl (lv_at hl 1 rfl) ?_
      obtain ⟨hv7, h⟩ := ck_e h
      refine r_ald C hH ka_42 (by decide) (by decide) (vi_in hv7) dX11_set_34 ?_
      refine lv_topi (fun x8 ex8 => ?_)
      replace h := lt_e h ex8
      refine lv_istore_n (lv' := [(3, .int x8), (0, .ref (gad g 10 0)), (1, .int a1), (2, .int a2)]) hx hb dX11_set_35 rfl hl (by decide) rfl (fun ls hl => ?_)
      refine lv_aload_n hx hb dX11_set_36 rfl (lv_at hl 1 rfl) ?_
      refine gf_X11_37 C hH dX11_set_37 ?_
      refine lv_iload_n hx hb dX11_set_40 rfl (lv_at hl 2 rfl) ?_
      refine lv_iload_n hx hb dX11_set_41 rfl (lv_at hl 3 rfl) ?_
      obtain ⟨hv9, h⟩ := ck_e h
      refine r_ast C hH ka_42 ko_42 (by decide) (by decide) (vi_in hv9) dX11_set_42 (fun S10 H locs eS hH => ?_)
      replace h := lt_e h eS
      refine lv_iload_n hx hb dX11_set_43 rfl (lv_at hl 0 rfl) ?_
      exact E_int C hr hH h dX11_set_44
    · replace h := if_t h c11
      refine lv_bipush (v := (-2 : Int32)) hx hb dX11_set_26 (by decide) ?_
      exact E_int C hr hH h dX11_set_28
theorem c_X11_set (l : Launch) (g : gT) {a1 : Int32} {a2 : Int32}  {S : sT} {r : Int32} {S1 : sT} (h : f_X11_set a1 a2 S = some (r, S1)) : MF l yX11_set cX11_set 4 (some .int) 2 g [.ref (gad g 10 0), .int a1, .int a2] S (some (.int r)) S1 := by
  refine MF.of (own := RX11) rfl rfl (Nat.le_of_ble_eq_true rfl) ?_
  intro p e s m below meth c C hr hH ls hl
  exact w_X11_set C hr (o := (r, S1))  hH hl h
theorem nd_X11_begins : yX11_begins.cls ≠ "java/lang/invoke/MethodHandle" ∧ yX11_begins.cls ≠ "java/lang/invoke/VarHandle" ∧ (parseMethodDescriptor yX11_begins.desc).map (fun d => d.parameters.length) = some 0 := by decide +kernel
def b_X11_begins_28  (x2 : Int32) (S3 : sT) (k4 : Int32 → sT → Option (sT)) : Option (sT) :=
 (if (8 : Int32) ≤ x2 then
 some S3
 else
 jn (fun (y5 : Int32) => ck (vi x2 8) (
 lt (us S3 44 0 (cl x2) y5) (fun S7 =>
 lt (x2 + (1 : Int32)) (fun x8 =>
 k4 x8 S7))))
 (fun j9 => (if (S3.1 115 0 0) ≤ x2 then
 j9 (0 : Int32)
 else
 ck (vi x2 8) (
 j9 (S3.1 40 0 (cl x2))))))
def l_X11_begins_28  : Nat → Int32 → sT → Option (sT)
 | 0, _, _ => none
 | n + 1, x2, S3 => b_X11_begins_28  x2 S3 (l_X11_begins_28  n)
theorem l_X11_begins_28_s  (n : Nat) (x2 : Int32) (S3 : sT) : l_X11_begins_28  (n + 1) x2 S3 = b_X11_begins_28  x2 S3 (l_X11_begins_28  n) := rfl
def b_X11_begins_2 (j13 : sT → Option (sT)) (x14 : Int32) (S15 : sT) (k16 : Int32 → sT → Option (sT)) : Option (sT) :=
 (if (64 : Int32) ≤ x14 then
 j13 S15
 else
 ck (vi x14 64) (
 ck (vi x14 64) (
 lt (us S15 43 0 (cl x14) (S15.1 39 0 (cl x14))) (fun S19 =>
 lt (x14 + (1 : Int32)) (fun x20 =>
 k16 x20 S19)))))
def l_X11_begins_2 (j13 : sT → Option (sT)) : Nat → Int32 → sT → Option (sT)
 | 0, _, _ => none
 | n + 1, x14, S15 => b_X11_begins_2 j13 x14 S15 (l_X11_begins_2 j13 n)
theorem l_X11_begins_2_s (j13 : sT → Option (sT)) (n : Nat) (x14 : Int32) (S15 : sT) : l_X11_begins_2 j13 (n + 1) x14 S15 = b_X11_begins_2 j13 x14 S15 (l_X11_begins_2 j13 n) := rfl
def f_X11_begins  (S : sT) : Option (sT) :=
 jn (fun (S1 : sT) => l_X11_begins_28  FU (0 : Int32) S1)
 (fun j13 => l_X11_begins_2 j13 FU (0 : Int32) S)
set_option maxHeartbeats 4000000 in
set_option maxRecDepth 100000 in
theorem w_X11_begins_28 (C : Cx p s m args meth c cX11_begins 2 RX11 g) (hr : meth.sig.returnType = none) {o : sT}     : ∀ (n : Nat) (x2 : Int32) (S3 : sT) (H : Heap) (locs : List Loc) (ls : Array Slot), Hp g s S3 H locs → lv_has ls 2 [(0, .ref (gad g 10 0)), (1, .int x2)] → l_X11_begins_28  n x2 S3 = some o → W p l e (rmL 1) s m args below meth c H locs 0 0 (Qm g below args s none o) (F0 m 28 ls []) := by
  obtain ⟨hx, hb, hml, hown, hts, hlk, hK⟩ := id C
  intro n
  induction n with
  | zero =>
    intro x2 S3 H locs ls hH hl h
    cases h
  | succ n ih =>
    intro x2 S3 H locs ls hH hl h
    rw [l_X11_begins_28_s] at h
    unfold b_X11_begins_28 at h
    refine lv_iload_n hx hb dX11_begins_28 rfl (lv_at hl 1 rfl) ?_
    refine lv_bipush (v := (8 : Int32)) hx hb dX11_begins_29 (by decide) ?_
    refine lv_icmp_ge (tgt := 64) hx hb dX11_begins_31 (by decide) (fun c12 => ?_) (fun c12 => ?_)
    · replace h := if_t h c12
      exact E_void C hr hH h dX11_begins_64
    · replace h := if_f h c12
      refine lv_aload_n hx hb dX11_begins_34 rfl (lv_at hl 0 rfl) ?_
      refine gf_X11_43 C hH dX11_begins_35 ?_
      refine lv_iload_n hx hb dX11_begins_38 rfl (lv_at hl 1 rfl) ?_
      refine lv_iload_n hx hb dX11_begins_39 rfl (lv_at hl 1 rfl) ?_
      refine lv_aload_n hx hb dX11_begins_40 rfl (lv_at hl 0 rfl) ?_
      refine gf_X11_91 C hH dX11_begins_41 ?_
      obtain ⟨j9, ej9, h⟩ := jn_e h
      have hj9 : ∀ (y5 : Int32) (H : Heap) (locs : List Loc) (ls : Array Slot), Hp g s S3 H locs → lv_has ls 2 [(0, .ref (gad g 10 0)), (1, .int x2)] → j9 y5 = some o → W p l e (rmL 1) s m args below meth c H locs 0 0 (Qm g below args s none o) (F0 m 57 ls [.int y5, .int x2, .ref (gad g 44 0)]) := by
        intro y5 H locs ls hH hl h
        rw [ej9] at h
        try dsimp only at h
        obtain ⟨hv6, h⟩ := ck_e h
        refine r_ast C hH ka_44 ko_44 (by decide) (by decide) (vi_in hv6) dX11_begins_57 (fun S7 H locs eS hH => ?_)
        replace h := lt_e h eS
        obtain ⟨x8, ex8⟩ : ∃ z : Int32, z = (x2 + (1 : Int32)) := ⟨_, rfl⟩
        replace h := lt_e h ex8
        refine lv_iinc (v := x8) (lv' := [(1, .int x8), (0, .ref (gad g 10 0))]) hx hb dX11_begins_58 hl (k := 1) rfl (by rw [ex8]; rfl) (by decide) rfl (fun ls hl => ?_)
        refine lv_goto (tgt := 28) hx hb dX11_begins_61 (by decide) ?_
        exact ih _ _ _ _ _ hH (lv_sub hl [1, 0] rfl) h
      clear ej9
      refine lv_icmp_ge (tgt := 56) hx hb dX11_begins_44 (by decide) (fun c11 => ?_) (fun c11 => ?_)
      · replace h := if_t h c11
        refine lv_iconst (v := (0 : Int32)) hx hb dX11_begins_56 (by decide) ?_
        exact hj9 _ _ _ _ hH (lv_sub hl [0, 1] rfl) h
      · replace h := if_f h c11
        refine lv_aload_n hx hb dX11_begins_47 rfl (lv_at hl 0 rfl) ?_
        refine gf_X11_31 C hH dX11_begins_48 ?_
        refine lv_iload_n hx hb dX11_begins_51 rfl (lv_at hl 1 rfl) ?_
        obtain ⟨hv10, h⟩ := ck_e h
        refine r_ald C hH ka_40 (by decide) (by decide) (vi_in hv10) dX11_begins_52 ?_
        refine lv_goto (tgt := 57) hx hb dX11_begins_53 (by decide) ?_
        exact hj9 _ _ _ _ hH (lv_sub hl [0, 1] rfl) h
set_option maxHeartbeats 4000000 in
set_option maxRecDepth 100000 in
theorem w_X11_begins_2 (C : Cx p s m args meth c cX11_begins 2 RX11 g) (hr : meth.sig.returnType = none) {o : sT}    (j13 : sT → Option (sT)) (hj13 : ∀ (S1 : sT) (H : Heap) (locs : List Loc) (ls : Array Slot), Hp g s S1 H locs → lv_has ls 2 [(0, .ref (gad g 10 0))] → j13 S1 = some o → W p l e (rmL 1) s m args below meth c H locs 0 0 (Qm g below args s none o) (F0 m 26 ls [])) : ∀ (n : Nat) (x14 : Int32) (S15 : sT) (H : Heap) (locs : List Loc) (ls : Array Slot), Hp g s S15 H locs → lv_has ls 2 [(0, .ref (gad g 10 0)), (1, .int x14)] → l_X11_begins_2 j13 n x14 S15 = some o → W p l e (rmL 1) s m args below meth c H locs 0 0 (Qm g below args s none o) (F0 m 2 ls []) := by
  obtain ⟨hx, hb, hml, hown, hts, hlk, hK⟩ := id C
  intro n
  induction n with
  | zero =>
    intro x14 S15 H locs ls hH hl h
    cases h
  | succ n ih =>
    intro x14 S15 H locs ls hH hl h
    rw [l_X11_begins_2_s] at h
    unfold b_X11_begins_2 at h
    refine lv_iload_n hx hb dX11_begins_2 rfl (lv_at hl 1 rfl) ?_
    refine lv_bipush (v := (64 : Int32)) hx hb dX11_begins_3 (by decide) ?_
    refine lv_icmp_ge (tgt := 26) hx hb dX11_begins_5 (by decide) (fun c21 => ?_) (fun c21 => ?_)
    · replace h := if_t h c21
      exact hj13 _ _ _ _ hH (lv_sub hl [0] rfl) h
    · replace h := if_f h c21
      refine lv_aload_n hx hb dX11_begins_8 rfl (lv_at hl 0 rfl) ?_
      refine gf_X11_40 C hH dX11_begins_9 ?_
      refine lv_iload_n hx hb dX11_begins_12 rfl (lv_at hl 1 rfl) ?_
      refine lv_aload_n hx hb dX11_begins_13 rfl (lv_at hl 0 rfl) ?_
      refine gf_X11_28 C hH dX11_begins_14 ?_
      refine lv_iload_n hx hb dX11_begins_17 rfl (lv_at hl 1 rfl) ?_
      obtain ⟨hv17, h⟩ := ck_e h
      refine r_ald C hH ka_39 (by decide) (by decide) (vi_in hv17) dX11_begins_18 ?_
      obtain ⟨hv18, h⟩ := ck_e h
      refine r_ast C hH ka_43 ko_43 (by decide) (by decide) (vi_in hv18) dX11_begins_19 (fun S19 H locs eS hH => ?_)
      replace h := lt_e h eS
      obtain ⟨x20, ex20⟩ : ∃ z : Int32, z = (x14 + (1 : Int32)) := ⟨_, rfl⟩
      replace h := lt_e h ex20
      refine lv_iinc (v := x20) (lv' := [(1, .int x20), (0, .ref (gad g 10 0))]) hx hb dX11_begins_20 hl (k := 1) rfl (by rw [ex20]; rfl) (by decide) rfl (fun ls hl => ?_)
      refine lv_goto (tgt := 2) hx hb dX11_begins_23 (by decide) ?_
      exact ih _ _ _ _ _ hH (lv_sub hl [1, 0] rfl) h
set_option maxHeartbeats 4000000 in
set_option maxRecDepth 100000 in
theorem w_X11_begins (C : Cx p s m args meth c cX11_begins 2 RX11 g) (hr : meth.sig.returnType = none) {o : sT}   {S : sT} {H : Heap} {locs : List Loc} {ls : Array Slot} (hH : Hp g s S H locs) (hl : lv_has ls 2 [(0, .ref (gad g 10 0))]) (h : f_X11_begins  S = some o) : W p l e (rmL 1) s m args below meth c H locs 0 0 (Qm g below args s none o) (F0 m 0 ls []) := by
  obtain ⟨hx, hb, hml, hown, hts, hlk, hK⟩ := id C
  unfold f_X11_begins at h
  refine lv_iconst (v := (0 : Int32)) hx hb dX11_begins_0 (by decide) ?_
  refine lv_istore_n (lv' := [(1, .int (0 : Int32)), (0, .ref (gad g 10 0))]) hx hb dX11_begins_1 rfl hl (by decide) rfl (fun ls hl => ?_)
  obtain ⟨j13, ej13, h⟩ := jn_e h
  have hj13 : ∀ (S1 : sT) (H : Heap) (locs : List Loc) (ls : Array Slot), Hp g s S1 H locs → lv_has ls 2 [(0, .ref (gad g 10 0))] → j13 S1 = some o → W p l e (rmL 1) s m args below meth c H locs 0 0 (Qm g below args s none o) (F0 m 26 ls []) := by
    intro S1 H locs ls hH hl h
    rw [ej13] at h
    try dsimp only at h
    refine lv_iconst (v := (0 : Int32)) hx hb dX11_begins_26 (by decide) ?_
    refine lv_istore_n (lv' := [(1, .int (0 : Int32)), (0, .ref (gad g 10 0))]) hx hb dX11_begins_27 rfl hl (by decide) rfl (fun ls hl => ?_)
    exact w_X11_begins_28 C hr   _ _ _ _ _ _ hH (lv_sub hl [1, 0] rfl) h
  clear ej13
  exact w_X11_begins_2 C hr  j13 hj13 _ _ _ _ _ _ hH (lv_sub hl [1, 0] rfl) h
theorem c_X11_begins (l : Launch) (g : gT)   {S : sT} {S1 : sT} (h : f_X11_begins  S = some S1) : MF l yX11_begins cX11_begins 2 none 1 g [.ref (gad g 10 0)] S none S1 := by
  refine MF.of (own := RX11) rfl rfl (Nat.le_of_ble_eq_true rfl) ?_
  intro p e s m below meth c C hr hH ls hl
  exact w_X11_begins C hr (o := S1)  hH hl h
theorem nd_X11_takes : yX11_takes.cls ≠ "java/lang/invoke/MethodHandle" ∧ yX11_takes.cls ≠ "java/lang/invoke/VarHandle" ∧ (parseMethodDescriptor yX11_takes.desc).map (fun d => d.parameters.length) = some 2 := by decide +kernel
def f_X11_takes (a1 : Int32) (a2 : Int32) (S : sT) : Option (Int32 × sT) :=
 bn (f_X11_in ((a2).toInt64) (0 : Int64) ((((S.1 115 0 0) - (1 : Int32))).toInt64) S) (fun r2 =>
 jn (fun (y3 : Int32) => (if y3 = (0 : Int32) then
 ck (vz y3) (
 some (y3, S))
 else
 ck (vi a2 8) (
 ck (vi a2 8) (
 lt (us S 44 0 (cl a2) ((S.1 44 0 (cl a2)) - (1 : Int32))) (fun S7 =>
 ck (vz y3) (
 some (y3, S7)))))))
 (fun j10 => jn (j10 (0 : Int32))
 (fun j11 => (if r2 = (0 : Int32) then
 j11
 else
 ck (vi a2 8) (
 (if (S.1 44 0 (cl a2)) ≤ (0 : Int32) then
 j11
 else
 ck (vi a2 8) (
 ck (vi ((((8 : Int32) * a2) + (S.1 44 0 (cl a2))) - (1 : Int32)) 64) (
 ck (nz (2 : Int32)) (
 (if ((S.1 43 0 (cl ((((8 : Int32) * a2) + (S.1 44 0 (cl a2))) - (1 : Int32)))) - (S.1 43 0 (cl ((((8 : Int32) * a2) + (S.1 44 0 (cl a2))) - (1 : Int32)))) / (2 : Int32) * (2 : Int32)) = a1 then
 j11
 else
 j10 (1 : Int32)))))))))))
set_option maxHeartbeats 4000000 in
set_option maxRecDepth 100000 in
theorem w_X11_takes (C : Cx p s m args meth c cX11_takes 4 RX11 g) (hr : meth.sig.returnType = (some .boolean)) {o : Int32 × sT} {a1 : Int32} {a2 : Int32}  {S : sT} {H : Heap} {locs : List Loc} {ls : Array Slot} (hH : Hp g s S H locs) (hl : lv_has ls 4 [(0, .ref (gad g 10 0)), (1, .int a1), (2, .int a2)]) (h : f_X11_takes a1 a2 S = some o) : W p l e (rmL 2) s m args below meth c H locs 0 0 (Qm g below args s (some (.int o.1)) o.2) (F0 m 0 ls []) := by
  obtain ⟨hx, hb, hml, hown, hts, hlk, hK⟩ := id C
  unfold f_X11_takes at h
  refine lv_iload_n hx hb dX11_takes_0 rfl (lv_at hl 2 rfl) ?_
  refine lv_i2l hx hb dX11_takes_1 rfl ?_
  refine lv_lconst (v := (0 : Int64)) hx hb dX11_takes_2 (by decide) ?_
  refine lv_aload_n hx hb dX11_takes_3 rfl (lv_at hl 0 rfl) ?_
  refine gf_X11_91 C hH dX11_takes_4 ?_
  refine lv_iconst (v := (1 : Int32)) hx hb dX11_takes_7 (by decide) ?_
  refine lv_isub hx hb dX11_takes_8 ?_
  refine lv_i2l hx hb dX11_takes_9 rfl ?_
  obtain ⟨r2, hc1, h⟩ := bn_e h
  refine r_callS1 (As := [.long ((a2).toInt64), .long (0 : Int64), .long ((((S.1 115 0 0) - (1 : Int32))).toInt64)]) C hl.1 hH (c_X11_in l g  hc1) q307 q5 q305 q306 nd_X11_in rfl (by decide) ⟨Nat.zero_le _, Nat.zero_le _⟩ (Nat.le_of_ble_eq_true rfl) dX11_takes_10 (fun H locs hH => ?_)
  obtain ⟨j10, ej10, h⟩ := jn_e h
  have hj10 : ∀ (y3 : Int32) (H : Heap) (locs : List Loc) (ls : Array Slot), Hp g s S H locs → lv_has ls 4 [(0, .ref (gad g 10 0)), (2, .int a2)] → j10 y3 = some o → W p l e (rmL 2) s m args below meth c H locs 0 0 (Qm g below args s (some (.int o.1)) o.2) (F0 m 54 ls [.int y3]) := by
    intro y3 H locs ls hH hl h
    rw [ej10] at h
    try dsimp only at h
    refine lv_istore_n (lv' := [(3, .int y3), (0, .ref (gad g 10 0)), (2, .int a2)]) hx hb dX11_takes_54 rfl hl (by decide) rfl (fun ls hl => ?_)
    refine lv_iload_n hx hb dX11_takes_55 rfl (lv_at hl 0 rfl) ?_
    refine lv_if_eq (tgt := 69) hx hb dX11_takes_56 (by decide) (fun c9 => ?_) (fun c9 => ?_)
    · replace h := if_t h c9
      refine lv_iload_n hx hb dX11_takes_69 rfl (lv_at hl 0 rfl) ?_
      obtain ⟨hv4, h⟩ := ck_e h
      exact E_bool C hr hH (vz_n hv4) h dX11_takes_70
    · replace h := if_f h c9
      refine lv_aload_n hx hb dX11_takes_59 rfl (lv_at hl 1 rfl) ?_
      refine gf_X11_43 C hH dX11_takes_60 ?_
      refine lv_iload_n hx hb dX11_takes_63 rfl (lv_at hl 2 rfl) ?_
      refine lv_dup2_11 hx hb dX11_takes_64 rfl rfl ?_
      obtain ⟨hv5, h⟩ := ck_e h
      refine r_ald C hH ka_44 (by decide) (by decide) (vi_in hv5) dX11_takes_65 ?_
      refine lv_iconst (v := (1 : Int32)) hx hb dX11_takes_66 (by decide) ?_
      refine lv_isub hx hb dX11_takes_67 ?_
      obtain ⟨hv6, h⟩ := ck_e h
      refine r_ast C hH ka_44 ko_44 (by decide) (by decide) (vi_in hv6) dX11_takes_68 (fun S7 H locs eS hH => ?_)
      replace h := lt_e h eS
      refine lv_iload_n hx hb dX11_takes_69 rfl (lv_at hl 0 rfl) ?_
      obtain ⟨hv8, h⟩ := ck_e h
      exact E_bool C hr hH (vz_n hv8) h dX11_takes_70
  clear ej10
  obtain ⟨j11, ej11, h⟩ := jn_e h
  have hj11 : ∀  (H : Heap) (locs : List Loc) (ls : Array Slot), Hp g s S H locs → lv_has ls 4 [(0, .ref (gad g 10 0)), (2, .int a2)] → j11  = some o → W p l e (rmL 2) s m args below meth c H locs 0 0 (Qm g below args s (some (.int o.1)) o.2) (F0 m 53 ls []) := by
    intro  H locs ls hH hl h
    rw [ej11] at h
    try dsimp only at h
    refine lv_iconst (v := (0 : Int32)) hx hb dX11_takes_53 (by decide) ?_
    exact hj10 _ _ _ _ hH (lv_sub hl [0, 1] rfl) h
  clear ej11
  refine lv_if_eq (tgt := 53) hx hb dX11_takes_13 (by decide) (fun c18 => ?_) (fun c18 => ?_)
  · replace h := if_t h c18
    exact hj11 _ _ _ hH (lv_sub hl [0, 2] rfl) h
  · replace h := if_f h c18
    refine lv_aload_n hx hb dX11_takes_16 rfl (lv_at hl 0 rfl) ?_
    refine gf_X11_43 C hH dX11_takes_17 ?_
    refine lv_iload_n hx hb dX11_takes_20 rfl (lv_at hl 2 rfl) ?_
    obtain ⟨hv12, h⟩ := ck_e h
    refine r_ald C hH ka_44 (by decide) (by decide) (vi_in hv12) dX11_takes_21 ?_
    refine lv_if_le (tgt := 53) hx hb dX11_takes_22 (by decide) (fun c17 => ?_) (fun c17 => ?_)
    · replace h := if_t h c17
      exact hj11 _ _ _ hH (lv_sub hl [0, 2] rfl) h
    · replace h := if_f h c17
      refine lv_aload_n hx hb dX11_takes_25 rfl (lv_at hl 0 rfl) ?_
      refine gf_X11_40 C hH dX11_takes_26 ?_
      refine lv_bipush (v := (8 : Int32)) hx hb dX11_takes_29 (by decide) ?_
      refine lv_iload_n hx hb dX11_takes_31 rfl (lv_at hl 2 rfl) ?_
      refine lv_imul hx hb dX11_takes_32 ?_
      refine lv_aload_n hx hb dX11_takes_33 rfl (lv_at hl 0 rfl) ?_
      refine gf_X11_43 C hH dX11_takes_34 ?_
      refine lv_iload_n hx hb dX11_takes_37 rfl (lv_at hl 2 rfl) ?_
      obtain ⟨hv13, h⟩ := ck_e h
      refine r_ald C hH ka_44 (by decide) (by decide) (vi_in hv13) dX11_takes_38 ?_
      refine lv_iadd hx hb dX11_takes_39 ?_
      refine lv_iconst (v := (1 : Int32)) hx hb dX11_takes_40 (by decide) ?_
      refine lv_isub hx hb dX11_takes_41 ?_
      obtain ⟨hv14, h⟩ := ck_e h
      refine r_ald C hH ka_43 (by decide) (by decide) (vi_in hv14) dX11_takes_42 ?_
      refine lv_iconst (v := (2 : Int32)) hx hb dX11_takes_43 (by decide) ?_
      obtain ⟨hv15, h⟩ := ck_e h
      refine lv_irem hx hb dX11_takes_44 (nz_e hv15) ?_
      refine lv_iload_n hx hb dX11_takes_45 rfl (lv_at hl 1 rfl) ?_
      refine lv_icmp_eq (tgt := 53) hx hb dX11_takes_46 (by decide) (fun c16 => ?_) (fun c16 => ?_)
      · replace h := if_t h c16
        exact hj11 _ _ _ hH (lv_sub hl [0, 2] rfl) h
      · replace h := if_f h c16
        refine lv_iconst (v := (1 : Int32)) hx hb dX11_takes_49 (by decide) ?_
        refine lv_goto (tgt := 54) hx hb dX11_takes_50 (by decide) ?_
        exact hj10 _ _ _ _ hH (lv_sub hl [0, 2] rfl) h
theorem c_X11_takes (l : Launch) (g : gT) {a1 : Int32} {a2 : Int32}  {S : sT} {r : Int32} {S1 : sT} (h : f_X11_takes a1 a2 S = some (r, S1)) : MF l yX11_takes cX11_takes 4 (some .boolean) 2 g [.ref (gad g 10 0), .int a1, .int a2] S (some (.int r)) S1 := by
  refine MF.of (own := RX11) rfl rfl (Nat.le_of_ble_eq_true rfl) ?_
  intro p e s m below meth c C hr hH ls hl
  exact w_X11_takes C hr (o := (r, S1))  hH hl h
theorem nd_X11_lays : yX11_lays.cls ≠ "java/lang/invoke/MethodHandle" ∧ yX11_lays.cls ≠ "java/lang/invoke/VarHandle" ∧ (parseMethodDescriptor yX11_lays.desc).map (fun d => d.parameters.length) = some 3 := by decide +kernel
def f_X11_lays (a1 : Int32) (a2 : Int32) (a3 : Int32) (S : sT) : Option (Int32 × sT) :=
 bn (f_X11_in ((a3).toInt64) (0 : Int64) ((((S.1 115 0 0) - (1 : Int32))).toInt64) S) (fun r2 =>
 jn (fun (y3 : Int32) => (if y3 = (0 : Int32) then
 ck (vz y3) (
 some (y3, S))
 else
 ck (vi a3 8) (
 ck (vi (((8 : Int32) * a3) + (S.1 44 0 (cl a3))) 64) (
 lt (us S 43 0 (cl (((8 : Int32) * a3) + (S.1 44 0 (cl a3)))) a2) (fun S7 =>
 ck (vi a3 8) (
 ck (vi a3 8) (
 lt (us S7 44 0 (cl a3) ((S7.1 44 0 (cl a3)) + (1 : Int32))) (fun S10 =>
 ck (vz y3) (
 some (y3, S10))))))))))
 (fun j13 => jn (j13 (0 : Int32))
 (fun j14 => (if r2 = (0 : Int32) then
 j14
 else
 ck (vi a3 8) (
 (if (8 : Int32) ≤ (S.1 44 0 (cl a3)) then
 j14
 else
 ck (nz (2 : Int32)) (
 (if (a2 - a2 / (2 : Int32) * (2 : Int32)) = a1 then
 j13 (1 : Int32)
 else
 j14))))))))
set_option maxHeartbeats 4000000 in
set_option maxRecDepth 100000 in
theorem w_X11_lays (C : Cx p s m args meth c cX11_lays 5 RX11 g) (hr : meth.sig.returnType = (some .boolean)) {o : Int32 × sT} {a1 : Int32} {a2 : Int32} {a3 : Int32}  {S : sT} {H : Heap} {locs : List Loc} {ls : Array Slot} (hH : Hp g s S H locs) (hl : lv_has ls 5 [(0, .ref (gad g 10 0)), (1, .int a1), (2, .int a2), (3, .int a3)]) (h : f_X11_lays a1 a2 a3 S = some o) : W p l e (rmL 2) s m args below meth c H locs 0 0 (Qm g below args s (some (.int o.1)) o.2) (F0 m 0 ls []) := by
  obtain ⟨hx, hb, hml, hown, hts, hlk, hK⟩ := id C
  unfold f_X11_lays at h
  refine lv_iload_n hx hb dX11_lays_0 rfl (lv_at hl 3 rfl) ?_
  refine lv_i2l hx hb dX11_lays_1 rfl ?_
  refine lv_lconst (v := (0 : Int64)) hx hb dX11_lays_2 (by decide) ?_
  refine lv_aload_n hx hb dX11_lays_3 rfl (lv_at hl 0 rfl) ?_
  refine gf_X11_91 C hH dX11_lays_4 ?_
  refine lv_iconst (v := (1 : Int32)) hx hb dX11_lays_7 (by decide) ?_
  refine lv_isub hx hb dX11_lays_8 ?_
  refine lv_i2l hx hb dX11_lays_9 rfl ?_
  obtain ⟨r2, hc1, h⟩ := bn_e h
  refine r_callS1 (As := [.long ((a3).toInt64), .long (0 : Int64), .long ((((S.1 115 0 0) - (1 : Int32))).toInt64)]) C hl.1 hH (c_X11_in l g  hc1) q307 q5 q305 q306 nd_X11_in rfl (by decide) ⟨Nat.zero_le _, Nat.zero_le _⟩ (Nat.le_of_ble_eq_true rfl) dX11_lays_10 (fun H locs hH => ?_)
  obtain ⟨j13, ej13, h⟩ := jn_e h
  have hj13 : ∀ (y3 : Int32) (H : Heap) (locs : List Loc) (ls : Array Slot), Hp g s S H locs → lv_has ls 5 [(0, .ref (gad g 10 0)), (2, .int a2), (3, .int a3)] → j13 y3 = some o → W p l e (rmL 2) s m args below meth c H locs 0 0 (Qm g below args s (some (.int o.1)) o.2) (F0 m 39 ls [.int y3]) := by
    intro y3 H locs ls hH hl h
    rw [ej13] at h
    try dsimp only at h
    refine lv_istore (lv' := [(4, .int y3), (0, .ref (gad g 10 0)), (2, .int a2), (3, .int a3)]) hx hb dX11_lays_39 hl (by decide) rfl (fun ls hl => ?_)
    refine lv_iload hx hb dX11_lays_41 (lv_at hl 0 rfl) ?_
    refine lv_if_eq (tgt := 73) hx hb dX11_lays_43 (by decide) (fun c12 => ?_) (fun c12 => ?_)
    · replace h := if_t h c12
      refine lv_iload hx hb dX11_lays_73 (lv_at hl 0 rfl) ?_
      obtain ⟨hv4, h⟩ := ck_e h
      exact E_bool C hr hH (vz_n hv4) h dX11_lays_75
    · replace h := if_f h c12
      refine lv_aload_n hx hb dX11_lays_46 rfl (lv_at hl 1 rfl) ?_
      refine gf_X11_40 C hH dX11_lays_47 ?_
      refine lv_bipush (v := (8 : Int32)) hx hb dX11_lays_50 (by decide) ?_
      refine lv_iload_n hx hb dX11_lays_52 rfl (lv_at hl 3 rfl) ?_
      refine lv_imul hx hb dX11_lays_53 ?_
      refine lv_aload_n hx hb dX11_lays_54 rfl (lv_at hl 1 rfl) ?_
      refine gf_X11_43 C hH dX11_lays_55 ?_
      refine lv_iload_n hx hb dX11_lays_58 rfl (lv_at hl 3 rfl) ?_
      obtain ⟨hv5, h⟩ := ck_e h
      refine r_ald C hH ka_44 (by decide) (by decide) (vi_in hv5) dX11_lays_59 ?_
      refine lv_iadd hx hb dX11_lays_60 ?_
      refine lv_iload_n hx hb dX11_lays_61 rfl (lv_at hl 2 rfl) ?_
      obtain ⟨hv6, h⟩ := ck_e h
      refine r_ast C hH ka_43 ko_43 (by decide) (by decide) (vi_in hv6) dX11_lays_62 (fun S7 H locs eS hH => ?_)
      replace h := lt_e h eS
      refine lv_aload_n hx hb dX11_lays_63 rfl (lv_at hl 1 rfl) ?_
      refine gf_X11_43 C hH dX11_lays_64 ?_
      refine lv_iload_n hx hb dX11_lays_67 rfl (lv_at hl 3 rfl) ?_
      refine lv_dup2_11 hx hb dX11_lays_68 rfl rfl ?_
      obtain ⟨hv8, h⟩ := ck_e h
      refine r_ald C hH ka_44 (by decide) (by decide) (vi_in hv8) dX11_lays_69 ?_
      refine lv_iconst (v := (1 : Int32)) hx hb dX11_lays_70 (by decide) ?_
      refine lv_iadd hx hb dX11_lays_71 ?_
      obtain ⟨hv9, h⟩ := ck_e h
      refine r_ast C hH ka_44 ko_44 (by decide) (by decide) (vi_in hv9) dX11_lays_72 (fun S10 H locs eS hH => ?_)
      replace h := lt_e h eS
      refine lv_iload hx hb dX11_lays_73 (lv_at hl 0 rfl) ?_
      obtain ⟨hv11, h⟩ := ck_e h
      exact E_bool C hr hH (vz_n hv11) h dX11_lays_75
  clear ej13
  obtain ⟨j14, ej14, h⟩ := jn_e h
  have hj14 : ∀  (H : Heap) (locs : List Loc) (ls : Array Slot), Hp g s S H locs → lv_has ls 5 [(0, .ref (gad g 10 0)), (2, .int a2), (3, .int a3)] → j14  = some o → W p l e (rmL 2) s m args below meth c H locs 0 0 (Qm g below args s (some (.int o.1)) o.2) (F0 m 38 ls []) := by
    intro  H locs ls hH hl h
    rw [ej14] at h
    try dsimp only at h
    refine lv_iconst (v := (0 : Int32)) hx hb dX11_lays_38 (by decide) ?_
    exact hj13 _ _ _ _ hH (lv_sub hl [0, 1, 2] rfl) h
  clear ej14
  refine lv_if_eq (tgt := 38) hx hb dX11_lays_13 (by decide) (fun c19 => ?_) (fun c19 => ?_)
  · replace h := if_t h c19
    exact hj14 _ _ _ hH (lv_sub hl [0, 2, 3] rfl) h
  · replace h := if_f h c19
    refine lv_aload_n hx hb dX11_lays_16 rfl (lv_at hl 0 rfl) ?_
    refine gf_X11_43 C hH dX11_lays_17 ?_
    refine lv_iload_n hx hb dX11_lays_20 rfl (lv_at hl 3 rfl) ?_
    obtain ⟨hv15, h⟩ := ck_e h
    refine r_ald C hH ka_44 (by decide) (by decide) (vi_in hv15) dX11_lays_21 ?_
    refine lv_bipush (v := (8 : Int32)) hx hb dX11_lays_22 (by decide) ?_
    refine lv_icmp_ge (tgt := 38) hx hb dX11_lays_24 (by decide) (fun c18 => ?_) (fun c18 => ?_)
    · replace h := if_t h c18
      exact hj14 _ _ _ hH (lv_sub hl [0, 2, 3] rfl) h
    · replace h := if_f h c18
      refine lv_iload_n hx hb dX11_lays_27 rfl (lv_at hl 2 rfl) ?_
      refine lv_iconst (v := (2 : Int32)) hx hb dX11_lays_28 (by decide) ?_
      obtain ⟨hv16, h⟩ := ck_e h
      refine lv_irem hx hb dX11_lays_29 (nz_e hv16) ?_
      refine lv_iload_n hx hb dX11_lays_30 rfl (lv_at hl 1 rfl) ?_
      refine lv_icmp_ne (tgt := 38) hx hb dX11_lays_31 (by decide) (fun c17 => ?_) (fun c17 => ?_)
      · replace h := if_f h c17
        exact hj14 _ _ _ hH (lv_sub hl [0, 2, 3] rfl) h
      · replace h := if_t h c17
        refine lv_iconst (v := (1 : Int32)) hx hb dX11_lays_34 (by decide) ?_
        refine lv_goto (tgt := 39) hx hb dX11_lays_35 (by decide) ?_
        exact hj13 _ _ _ _ hH (lv_sub hl [0, 2, 3] rfl) h
theorem c_X11_lays (l : Launch) (g : gT) {a1 : Int32} {a2 : Int32} {a3 : Int32}  {S : sT} {r : Int32} {S1 : sT} (h : f_X11_lays a1 a2 a3 S = some (r, S1)) : MF l yX11_lays cX11_lays 5 (some .boolean) 2 g [.ref (gad g 10 0), .int a1, .int a2, .int a3] S (some (.int r)) S1 := by
  refine MF.of (own := RX11) rfl rfl (Nat.le_of_ble_eq_true rfl) ?_
  intro p e s m below meth c C hr hH ls hl
  exact w_X11_lays C hr (o := (r, S1))  hH hl h
theorem nd_X11_whoseTurn : yX11_whoseTurn.cls ≠ "java/lang/invoke/MethodHandle" ∧ yX11_whoseTurn.cls ≠ "java/lang/invoke/VarHandle" ∧ (parseMethodDescriptor yX11_whoseTurn.desc).map (fun d => d.parameters.length) = some 1 := by decide +kernel
def f_X11_whoseTurn (a1 : Int32) (S : sT) : Option (Int32) :=
 ck (vi (0 : Int32) 6) (
 ck (nz (2 : Int32)) (
 lt (((S.1 42 0 (cl (0 : Int32))) + a1) - ((S.1 42 0 (cl (0 : Int32))) + a1) / (2 : Int32) * (2 : Int32)) (fun x3 =>
 (if a1 = (S.1 119 0 0) then
 (if (S.1 120 0 0) = (2 : Int32) then
 some ((1 : Int32) - x3)
 else
 some x3)
 else
 some x3))))
set_option maxHeartbeats 4000000 in
set_option maxRecDepth 100000 in
theorem w_X11_whoseTurn (C : Cx p s m args meth c cX11_whoseTurn 3 RX11 g) (hr : meth.sig.returnType = (some .int)) {o : Int32} {a1 : Int32}  {S : sT} {H : Heap} {locs : List Loc} {ls : Array Slot} (hH : Hp g s S H locs) (hl : lv_has ls 3 [(0, .ref (gad g 10 0)), (1, .int a1)]) (h : f_X11_whoseTurn a1 S = some o) : W p l e (rmL 1) s m args below meth c H locs 0 0 (Qm g below args s (some (.int o)) S) (F0 m 0 ls []) := by
  obtain ⟨hx, hb, hml, hown, hts, hlk, hK⟩ := id C
  unfold f_X11_whoseTurn at h
  refine lv_aload_n hx hb dX11_whoseTurn_0 rfl (lv_at hl 0 rfl) ?_
  refine gf_X11_37 C hH dX11_whoseTurn_1 ?_
  refine lv_iconst (v := (0 : Int32)) hx hb dX11_whoseTurn_4 (by decide) ?_
  obtain ⟨hv1, h⟩ := ck_e h
  refine r_ald C hH ka_42 (by decide) (by decide) (vi_in hv1) dX11_whoseTurn_5 ?_
  refine lv_iload_n hx hb dX11_whoseTurn_6 rfl (lv_at hl 1 rfl) ?_
  refine lv_iadd hx hb dX11_whoseTurn_7 ?_
  refine lv_iconst (v := (2 : Int32)) hx hb dX11_whoseTurn_8 (by decide) ?_
  obtain ⟨hv2, h⟩ := ck_e h
  refine lv_irem hx hb dX11_whoseTurn_9 (nz_e hv2) ?_
  refine lv_topi (fun x3 ex3 => ?_)
  replace h := lt_e h ex3
  refine lv_istore_n (lv' := [(2, .int x3), (0, .ref (gad g 10 0)), (1, .int a1)]) hx hb dX11_whoseTurn_10 rfl hl (by decide) rfl (fun ls hl => ?_)
  refine lv_iload_n hx hb dX11_whoseTurn_11 rfl (lv_at hl 2 rfl) ?_
  refine lv_aload_n hx hb dX11_whoseTurn_12 rfl (lv_at hl 1 rfl) ?_
  refine gf_X11_52 C hH dX11_whoseTurn_13 ?_
  refine lv_icmp_ne (tgt := 33) hx hb dX11_whoseTurn_16 (by decide) (fun c5 => ?_) (fun c5 => ?_)
  · replace h := if_f h c5
    refine lv_iload_n hx hb dX11_whoseTurn_33 rfl (lv_at hl 0 rfl) ?_
    exact E_intc C hr hH h dX11_whoseTurn_34
  · replace h := if_t h c5
    refine lv_aload_n hx hb dX11_whoseTurn_19 rfl (lv_at hl 1 rfl) ?_
    refine gf_X11_129 C hH dX11_whoseTurn_20 ?_
    refine lv_iconst (v := (2 : Int32)) hx hb dX11_whoseTurn_23 (by decide) ?_
    refine lv_icmp_ne (tgt := 33) hx hb dX11_whoseTurn_24 (by decide) (fun c4 => ?_) (fun c4 => ?_)
    · replace h := if_f h c4
      refine lv_iload_n hx hb dX11_whoseTurn_33 rfl (lv_at hl 0 rfl) ?_
      exact E_intc C hr hH h dX11_whoseTurn_34
    · replace h := if_t h c4
      refine lv_iconst (v := (1 : Int32)) hx hb dX11_whoseTurn_27 (by decide) ?_
      refine lv_iload_n hx hb dX11_whoseTurn_28 rfl (lv_at hl 0 rfl) ?_
      refine lv_isub hx hb dX11_whoseTurn_29 ?_
      refine lv_goto (tgt := 34) hx hb dX11_whoseTurn_30 (by decide) ?_
      exact E_intc C hr hH h dX11_whoseTurn_34
theorem c_X11_whoseTurn (l : Launch) (g : gT) {a1 : Int32}  {S : sT} {r : Int32} (h : f_X11_whoseTurn a1 S = some r) : MF l yX11_whoseTurn cX11_whoseTurn 3 (some .int) 1 g [.ref (gad g 10 0), .int a1] S (some (.int r)) S := by
  refine MF.of (own := RX11) rfl rfl (Nat.le_of_ble_eq_true rfl) ?_
  intro p e s m below meth c C hr hH ls hl
  exact w_X11_whoseTurn C hr (o := r)  hH hl h
theorem nd_X11_goes : yX11_goes.cls ≠ "java/lang/invoke/MethodHandle" ∧ yX11_goes.cls ≠ "java/lang/invoke/VarHandle" ∧ (parseMethodDescriptor yX11_goes.desc).map (fun d => d.parameters.length) = some 1 := by decide +kernel
def b_X11_goes_67 (a1 : Int32) (r2 : Int32) (x8 : Int32) (S9 : sT) (k10 : Int32 → sT → Option (sT)) : Option (sT) :=
 ck (vi (((8 : Int32) * a1) + (1 : Int32)) 96) (
 (if (S9.1 41 0 (cl (((8 : Int32) * a1) + (1 : Int32)))) ≤ x8 then
 some S9
 else
 jn (fun (y12 : Int32) => jn (fun (y13 : Int32) (S14 : sT) => lt (us S14 118 0 0 ((S9.1 118 0 0) + y13)) (fun S15 =>
 lt (x8 + (1 : Int32)) (fun x16 =>
 k10 x16 S15)))
 (fun j17 => jn (fun (S18 : sT) => j17 (0 : Int32) S18)
 (fun j19 => (if y12 = (0 : Int32) then
 j19 S9
 else
 ck (vi ((((8 : Int32) * a1) + (2 : Int32)) + ((2 : Int32) * x8)) 96) (
 ck (vi ((((8 : Int32) * a1) + (3 : Int32)) + ((2 : Int32) * x8)) 96) (
 bn2 (f_X11_lays r2 (S9.1 41 0 (cl ((((8 : Int32) * a1) + (2 : Int32)) + ((2 : Int32) * x8)))) (S9.1 41 0 (cl ((((8 : Int32) * a1) + (3 : Int32)) + ((2 : Int32) * x8)))) S9) (fun r23 S24 =>
 (if r23 = (0 : Int32) then
 j19 S24
 else
 j17 (1 : Int32) S24))))))))
 (fun j27 => jn (j27 (1 : Int32))
 (fun j28 => (if a1 = (S9.1 119 0 0) then
 (if (S9.1 120 0 0) = (1 : Int32) then
 j27 (0 : Int32)
 else
 j28)
 else
 j28)))))
def l_X11_goes_67 (a1 : Int32) (r2 : Int32) : Nat → Int32 → sT → Option (sT)
 | 0, _, _ => none
 | n + 1, x8, S9 => b_X11_goes_67 a1 r2 x8 S9 (l_X11_goes_67 a1 r2 n)
theorem l_X11_goes_67_s (a1 : Int32) (r2 : Int32) (n : Nat) (x8 : Int32) (S9 : sT) : l_X11_goes_67 a1 r2 (n + 1) x8 S9 = b_X11_goes_67 a1 r2 x8 S9 (l_X11_goes_67 a1 r2 n) := rfl
def f_X11_goes (a1 : Int32) (S : sT) : Option (sT) :=
 bn (f_X11_whoseTurn a1 S) (fun r2 =>
 ck (vi ((8 : Int32) * a1) 96) (
 jn (fun (y4 : Int32) (S5 : sT) => lt (us S5 117 0 0 y4) (fun S6 =>
 lt (us S6 118 0 0 (0 : Int32)) (fun S7 =>
 l_X11_goes_67 a1 r2 FU (0 : Int32) S7)))
 (fun j32 => jn (fun (S33 : sT) => j32 (0 : Int32) S33)
 (fun j34 => (if (S.1 41 0 (cl ((8 : Int32) * a1))) = (-1 : Int32) then
 j34 S
 else
 jn (ck (vi ((8 : Int32) * a1) 96) (
 bn2 (f_X11_takes r2 (S.1 41 0 (cl ((8 : Int32) * a1))) S) (fun r37 S38 =>
 (if r37 = (0 : Int32) then
 j34 S38
 else
 j32 (1 : Int32) S38))))
 (fun j40 => (if a1 = (S.1 119 0 0) then
 (if (S.1 120 0 0) = (0 : Int32) then
 j34 S
 else
 j40)
 else
 j40)))))))
set_option maxHeartbeats 4000000 in
set_option maxRecDepth 100000 in
theorem w_X11_goes_67 (C : Cx p s m args meth c cX11_goes 5 RX11 g) (hr : meth.sig.returnType = none) {o : sT}  {a1 : Int32} {r2 : Int32}   : ∀ (n : Nat) (x8 : Int32) (S9 : sT) (H : Heap) (locs : List Loc) (ls : Array Slot), Hp g s S9 H locs → lv_has ls 5 [(0, .ref (gad g 10 0)), (1, .int a1), (2, .int r2), (3, .int x8)] → l_X11_goes_67 a1 r2 n x8 S9 = some o → W p l e (rmL 3) s m args below meth c H locs 0 0 (Qm g below args s none o) (F0 m 67 ls []) := by
  obtain ⟨hx, hb, hml, hown, hts, hlk, hK⟩ := id C
  intro n
  induction n with
  | zero =>
    intro x8 S9 H locs ls hH hl h
    cases h
  | succ n ih =>
    intro x8 S9 H locs ls hH hl h
    rw [l_X11_goes_67_s] at h
    unfold b_X11_goes_67 at h
    refine lv_iload_n hx hb dX11_goes_67 rfl (lv_at hl 3 rfl) ?_
    refine lv_aload_n hx hb dX11_goes_68 rfl (lv_at hl 0 rfl) ?_
    refine gf_X11_34 C hH dX11_goes_69 ?_
    refine lv_bipush (v := (8 : Int32)) hx hb dX11_goes_72 (by decide) ?_
    refine lv_iload_n hx hb dX11_goes_74 rfl (lv_at hl 1 rfl) ?_
    refine lv_imul hx hb dX11_goes_75 ?_
    refine lv_iconst (v := (1 : Int32)) hx hb dX11_goes_76 (by decide) ?_
    refine lv_iadd hx hb dX11_goes_77 ?_
    obtain ⟨hv11, h⟩ := ck_e h
    refine r_ald C hH ka_41 (by decide) (by decide) (vi_in hv11) dX11_goes_78 ?_
    refine lv_icmp_ge (tgt := 168) hx hb dX11_goes_79 (by decide) (fun c31 => ?_) (fun c31 => ?_)
    · replace h := if_t h c31
      exact E_void C hr hH h dX11_goes_168
    · replace h := if_f h c31
      refine lv_iload_n hx hb dX11_goes_82 rfl (lv_at hl 1 rfl) ?_
      refine lv_aload_n hx hb dX11_goes_83 rfl (lv_at hl 0 rfl) ?_
      refine gf_X11_52 C hH dX11_goes_84 ?_
      obtain ⟨j27, ej27, h⟩ := jn_e h
      have hj27 : ∀ (y12 : Int32) (H : Heap) (locs : List Loc) (ls : Array Slot), Hp g s S9 H locs → lv_has ls 5 [(0, .ref (gad g 10 0)), (1, .int a1), (2, .int r2), (3, .int x8)] → j27 y12 = some o → W p l e (rmL 3) s m args below meth c H locs 0 0 (Qm g below args s none o) (F0 m 103 ls [.int y12]) := by
        intro y12 H locs ls hH hl h
        rw [ej27] at h
        try dsimp only at h
        refine lv_istore (lv' := [(4, .int y12), (0, .ref (gad g 10 0)), (1, .int a1), (2, .int r2), (3, .int x8)]) hx hb dX11_goes_103 hl (by decide) rfl (fun ls hl => ?_)
        refine lv_aload_n hx hb dX11_goes_105 rfl (lv_at hl 1 rfl) ?_
        refine lv_dup hx hb dX11_goes_106 rfl ?_
        refine gf_X11_142 C hH dX11_goes_107 ?_
        refine lv_iload hx hb dX11_goes_110 (lv_at hl 0 rfl) ?_
        obtain ⟨j17, ej17, h⟩ := jn_e h
        have hj17 : ∀ (y13 : Int32) (S14 : sT) (H : Heap) (locs : List Loc) (ls : Array Slot), Hp g s S14 H locs → lv_has ls 5 [(0, .ref (gad g 10 0)), (1, .int a1), (2, .int r2), (3, .int x8)] → j17 y13 S14 = some o → W p l e (rmL 3) s m args below meth c H locs 0 0 (Qm g below args s none o) (F0 m 158 ls [.int y13, .int (S9.1 118 0 0), .ref (gad g 10 0)]) := by
          intro y13 S14 H locs ls hH hl h
          rw [ej17] at h
          try dsimp only at h
          refine lv_iadd hx hb dX11_goes_158 ?_
          refine pf_X11_142 C hH dX11_goes_159 (fun S15 H locs eS hH => ?_)
          replace h := lt_e h eS
          obtain ⟨x16, ex16⟩ : ∃ z : Int32, z = (x8 + (1 : Int32)) := ⟨_, rfl⟩
          replace h := lt_e h ex16
          refine lv_iinc (v := x16) (lv' := [(3, .int x16), (0, .ref (gad g 10 0)), (1, .int a1), (2, .int r2)]) hx hb dX11_goes_162 hl (k := 3) rfl (by rw [ex16]; rfl) (by decide) rfl (fun ls hl => ?_)
          refine lv_goto (tgt := 67) hx hb dX11_goes_165 (by decide) ?_
          exact ih _ _ _ _ _ hH (lv_sub hl [1, 2, 3, 0] rfl) h
        clear ej17
        obtain ⟨j19, ej19, h⟩ := jn_e h
        have hj19 : ∀ (S18 : sT) (H : Heap) (locs : List Loc) (ls : Array Slot), Hp g s S18 H locs → lv_has ls 5 [(0, .ref (gad g 10 0)), (1, .int a1), (2, .int r2), (3, .int x8)] → j19 S18 = some o → W p l e (rmL 3) s m args below meth c H locs 0 0 (Qm g below args s none o) (F0 m 157 ls [.int (S9.1 118 0 0), .ref (gad g 10 0)]) := by
          intro S18 H locs ls hH hl h
          rw [ej19] at h
          try dsimp only at h
          refine lv_iconst (v := (0 : Int32)) hx hb dX11_goes_157 (by decide) ?_
          exact hj17 _ _ _ _ _ hH (lv_sub hl [0, 1, 2, 3] rfl) h
        clear ej19
        refine lv_if_eq (tgt := 157) hx hb dX11_goes_112 (by decide) (fun c26 => ?_) (fun c26 => ?_)
        · replace h := if_t h c26
          exact hj19 _ _ _ _ hH (lv_sub hl [1, 2, 3, 4] rfl) h
        · replace h := if_f h c26
          refine lv_aload_n hx hb dX11_goes_115 rfl (lv_at hl 1 rfl) ?_
          refine lv_iload_n hx hb dX11_goes_116 rfl (lv_at hl 3 rfl) ?_
          refine lv_aload_n hx hb dX11_goes_117 rfl (lv_at hl 1 rfl) ?_
          refine gf_X11_34 C hH dX11_goes_118 ?_
          refine lv_bipush (v := (8 : Int32)) hx hb dX11_goes_121 (by decide) ?_
          refine lv_iload_n hx hb dX11_goes_123 rfl (lv_at hl 2 rfl) ?_
          refine lv_imul hx hb dX11_goes_124 ?_
          refine lv_iconst (v := (2 : Int32)) hx hb dX11_goes_125 (by decide) ?_
          refine lv_iadd hx hb dX11_goes_126 ?_
          refine lv_iconst (v := (2 : Int32)) hx hb dX11_goes_127 (by decide) ?_
          refine lv_iload_n hx hb dX11_goes_128 rfl (lv_at hl 4 rfl) ?_
          refine lv_imul hx hb dX11_goes_129 ?_
          refine lv_iadd hx hb dX11_goes_130 ?_
          obtain ⟨hv20, h⟩ := ck_e h
          refine r_ald C hH ka_41 (by decide) (by decide) (vi_in hv20) dX11_goes_131 ?_
          refine lv_aload_n hx hb dX11_goes_132 rfl (lv_at hl 1 rfl) ?_
          refine gf_X11_34 C hH dX11_goes_133 ?_
          refine lv_bipush (v := (8 : Int32)) hx hb dX11_goes_136 (by decide) ?_
          refine lv_iload_n hx hb dX11_goes_138 rfl (lv_at hl 2 rfl) ?_
          refine lv_imul hx hb dX11_goes_139 ?_
          refine lv_iconst (v := (3 : Int32)) hx hb dX11_goes_140 (by decide) ?_
          refine lv_iadd hx hb dX11_goes_141 ?_
          refine lv_iconst (v := (2 : Int32)) hx hb dX11_goes_142 (by decide) ?_
          refine lv_iload_n hx hb dX11_goes_143 rfl (lv_at hl 4 rfl) ?_
          refine lv_imul hx hb dX11_goes_144 ?_
          refine lv_iadd hx hb dX11_goes_145 ?_
          obtain ⟨hv21, h⟩ := ck_e h
          refine r_ald C hH ka_41 (by decide) (by decide) (vi_in hv21) dX11_goes_146 ?_
          obtain ⟨r23, S24, hc22, h⟩ := bn2_e h
          refine r_callV1 (ki := 10) (i := 0) (ci := 10) (As := [.int r2, .int (S9.1 41 0 (cl ((((8 : Int32) * a1) + (2 : Int32)) + ((2 : Int32) * x8)))), .int (S9.1 41 0 (cl ((((8 : Int32) * a1) + (3 : Int32)) + ((2 : Int32) * x8))))]) C hl.1 hH (c_X11_lays l g  hc22) q449 q5 q446 q447 q448 nd_X11_lays rfl (by decide) ⟨Nat.zero_le _, Nat.zero_le _⟩ (by decide) (by decide) ⟨_, rfl⟩ rfl (Nat.le_of_ble_eq_true rfl) dX11_goes_147 (fun H locs hH => ?_)
          refine lv_if_eq (tgt := 157) hx hb dX11_goes_150 (by decide) (fun c25 => ?_) (fun c25 => ?_)
          · replace h := if_t h c25
            exact hj19 _ _ _ _ hH (lv_sub hl [1, 2, 3, 4] rfl) h
          · replace h := if_f h c25
            refine lv_iconst (v := (1 : Int32)) hx hb dX11_goes_153 (by decide) ?_
            refine lv_goto (tgt := 158) hx hb dX11_goes_154 (by decide) ?_
            exact hj17 _ _ _ _ _ hH (lv_sub hl [1, 2, 3, 4] rfl) h
      clear ej27
      obtain ⟨j28, ej28, h⟩ := jn_e h
      have hj28 : ∀  (H : Heap) (locs : List Loc) (ls : Array Slot), Hp g s S9 H locs → lv_has ls 5 [(0, .ref (gad g 10 0)), (1, .int a1), (2, .int r2), (3, .int x8)] → j28  = some o → W p l e (rmL 3) s m args below meth c H locs 0 0 (Qm g below args s none o) (F0 m 98 ls []) := by
        intro  H locs ls hH hl h
        rw [ej28] at h
        try dsimp only at h
        refine lv_iconst (v := (1 : Int32)) hx hb dX11_goes_98 (by decide) ?_
        refine lv_goto (tgt := 103) hx hb dX11_goes_99 (by decide) ?_
        exact hj27 _ _ _ _ hH (lv_sub hl [0, 1, 2, 3] rfl) h
      clear ej28
      refine lv_icmp_ne (tgt := 98) hx hb dX11_goes_87 (by decide) (fun c30 => ?_) (fun c30 => ?_)
      · replace h := if_f h c30
        exact hj28 _ _ _ hH (lv_sub hl [0, 1, 2, 3] rfl) h
      · replace h := if_t h c30
        refine lv_aload_n hx hb dX11_goes_90 rfl (lv_at hl 0 rfl) ?_
        refine gf_X11_129 C hH dX11_goes_91 ?_
        refine lv_iconst (v := (1 : Int32)) hx hb dX11_goes_94 (by decide) ?_
        refine lv_icmp_eq (tgt := 102) hx hb dX11_goes_95 (by decide) (fun c29 => ?_) (fun c29 => ?_)
        · replace h := if_t h c29
          refine lv_iconst (v := (0 : Int32)) hx hb dX11_goes_102 (by decide) ?_
          exact hj27 _ _ _ _ hH (lv_sub hl [0, 1, 2, 3] rfl) h
        · replace h := if_f h c29
          exact hj28 _ _ _ hH (lv_sub hl [0, 1, 2, 3] rfl) h
set_option maxHeartbeats 4000000 in
set_option maxRecDepth 100000 in
theorem w_X11_goes (C : Cx p s m args meth c cX11_goes 5 RX11 g) (hr : meth.sig.returnType = none) {o : sT} {a1 : Int32}  {S : sT} {H : Heap} {locs : List Loc} {ls : Array Slot} (hH : Hp g s S H locs) (hl : lv_has ls 5 [(0, .ref (gad g 10 0)), (1, .int a1)]) (h : f_X11_goes a1 S = some o) : W p l e (rmL 3) s m args below meth c H locs 0 0 (Qm g below args s none o) (F0 m 0 ls []) := by
  obtain ⟨hx, hb, hml, hown, hts, hlk, hK⟩ := id C
  unfold f_X11_goes at h
  refine lv_aload_n hx hb dX11_goes_0 rfl (lv_at hl 0 rfl) ?_
  refine lv_iload_n hx hb dX11_goes_1 rfl (lv_at hl 1 rfl) ?_
  obtain ⟨r2, hc1, h⟩ := bn_e h
  refine r_callV1 (ki := 10) (i := 0) (ci := 10) (As := [.int a1]) C hl.1 hH (c_X11_whoseTurn l g  hc1) q441 q5 q438 q439 q440 nd_X11_whoseTurn rfl (by decide) ⟨Nat.zero_le _, Nat.zero_le _⟩ (by decide) (by decide) ⟨_, rfl⟩ rfl (Nat.le_of_ble_eq_true rfl) dX11_goes_2 (fun H locs hH => ?_)
  refine lv_istore_n (lv' := [(2, .int r2), (0, .ref (gad g 10 0)), (1, .int a1)]) hx hb dX11_goes_5 rfl hl (by decide) rfl (fun ls hl => ?_)
  refine lv_aload_n hx hb dX11_goes_6 rfl (lv_at hl 1 rfl) ?_
  refine lv_aload_n hx hb dX11_goes_7 rfl (lv_at hl 1 rfl) ?_
  refine gf_X11_34 C hH dX11_goes_8 ?_
  refine lv_bipush (v := (8 : Int32)) hx hb dX11_goes_11 (by decide) ?_
  refine lv_iload_n hx hb dX11_goes_13 rfl (lv_at hl 2 rfl) ?_
  refine lv_imul hx hb dX11_goes_14 ?_
  obtain ⟨hv3, h⟩ := ck_e h
  refine r_ald C hH ka_41 (by decide) (by decide) (vi_in hv3) dX11_goes_15 ?_
  refine lv_iconst (v := (-1 : Int32)) hx hb dX11_goes_16 (by decide) ?_
  obtain ⟨j32, ej32, h⟩ := jn_e h
  have hj32 : ∀ (y4 : Int32) (S5 : sT) (H : Heap) (locs : List Loc) (ls : Array Slot), Hp g s S5 H locs → lv_has ls 5 [(0, .ref (gad g 10 0)), (1, .int a1), (2, .int r2)] → j32 y4 S5 = some o → W p l e (rmL 3) s m args below meth c H locs 0 0 (Qm g below args s none o) (F0 m 57 ls [.int y4, .ref (gad g 10 0)]) := by
    intro y4 S5 H locs ls hH hl h
    rw [ej32] at h
    try dsimp only at h
    refine pf_X11_139 C hH dX11_goes_57 (fun S6 H locs eS hH => ?_)
    replace h := lt_e h eS
    refine lv_aload_n hx hb dX11_goes_60 rfl (lv_at hl 0 rfl) ?_
    refine lv_iconst (v := (0 : Int32)) hx hb dX11_goes_61 (by decide) ?_
    refine pf_X11_142 C hH dX11_goes_62 (fun S7 H locs eS hH => ?_)
    replace h := lt_e h eS
    refine lv_iconst (v := (0 : Int32)) hx hb dX11_goes_65 (by decide) ?_
    refine lv_istore_n (lv' := [(3, .int (0 : Int32)), (0, .ref (gad g 10 0)), (1, .int a1), (2, .int r2)]) hx hb dX11_goes_66 rfl hl (by decide) rfl (fun ls hl => ?_)
    exact w_X11_goes_67 C hr   _ _ _ _ _ _ hH (lv_sub hl [1, 2, 3, 0] rfl) h
  clear ej32
  obtain ⟨j34, ej34, h⟩ := jn_e h
  have hj34 : ∀ (S33 : sT) (H : Heap) (locs : List Loc) (ls : Array Slot), Hp g s S33 H locs → lv_has ls 5 [(0, .ref (gad g 10 0)), (1, .int a1), (2, .int r2)] → j34 S33 = some o → W p l e (rmL 3) s m args below meth c H locs 0 0 (Qm g below args s none o) (F0 m 56 ls [.ref (gad g 10 0)]) := by
    intro S33 H locs ls hH hl h
    rw [ej34] at h
    try dsimp only at h
    refine lv_iconst (v := (0 : Int32)) hx hb dX11_goes_56 (by decide) ?_
    exact hj32 _ _ _ _ _ hH (lv_sub hl [0, 1, 2] rfl) h
  clear ej34
  refine lv_icmp_eq (tgt := 56) hx hb dX11_goes_17 (by decide) (fun c43 => ?_) (fun c43 => ?_)
  · replace h := if_t h c43
    exact hj34 _ _ _ _ hH (lv_sub hl [1, 2, 0] rfl) h
  · replace h := if_f h c43
    refine lv_iload_n hx hb dX11_goes_20 rfl (lv_at hl 2 rfl) ?_
    refine lv_aload_n hx hb dX11_goes_21 rfl (lv_at hl 1 rfl) ?_
    refine gf_X11_52 C hH dX11_goes_22 ?_
    obtain ⟨j40, ej40, h⟩ := jn_e h
    have hj40 : ∀  (H : Heap) (locs : List Loc) (ls : Array Slot), Hp g s S H locs → lv_has ls 5 [(0, .ref (gad g 10 0)), (1, .int a1), (2, .int r2)] → j40  = some o → W p l e (rmL 3) s m args below meth c H locs 0 0 (Qm g below args s none o) (F0 m 35 ls [.ref (gad g 10 0)]) := by
      intro  H locs ls hH hl h
      rw [ej40] at h
      try dsimp only at h
      refine lv_aload_n hx hb dX11_goes_35 rfl (lv_at hl 0 rfl) ?_
      refine lv_iload_n hx hb dX11_goes_36 rfl (lv_at hl 2 rfl) ?_
      refine lv_aload_n hx hb dX11_goes_37 rfl (lv_at hl 0 rfl) ?_
      refine gf_X11_34 C hH dX11_goes_38 ?_
      refine lv_bipush (v := (8 : Int32)) hx hb dX11_goes_41 (by decide) ?_
      refine lv_iload_n hx hb dX11_goes_43 rfl (lv_at hl 1 rfl) ?_
      refine lv_imul hx hb dX11_goes_44 ?_
      obtain ⟨hv35, h⟩ := ck_e h
      refine r_ald C hH ka_41 (by decide) (by decide) (vi_in hv35) dX11_goes_45 ?_
      obtain ⟨r37, S38, hc36, h⟩ := bn2_e h
      refine r_callV1 (ki := 10) (i := 0) (ci := 10) (As := [.int r2, .int (S.1 41 0 (cl ((8 : Int32) * a1)))]) C hl.1 hH (c_X11_takes l g  hc36) q445 q5 q442 q443 q444 nd_X11_takes rfl (by decide) ⟨Nat.zero_le _, Nat.zero_le _⟩ (by decide) (by decide) ⟨_, rfl⟩ rfl (Nat.le_of_ble_eq_true rfl) dX11_goes_46 (fun H locs hH => ?_)
      refine lv_if_eq (tgt := 56) hx hb dX11_goes_49 (by decide) (fun c39 => ?_) (fun c39 => ?_)
      · replace h := if_t h c39
        exact hj34 _ _ _ _ hH (lv_sub hl [0, 1, 2] rfl) h
      · replace h := if_f h c39
        refine lv_iconst (v := (1 : Int32)) hx hb dX11_goes_52 (by decide) ?_
        refine lv_goto (tgt := 57) hx hb dX11_goes_53 (by decide) ?_
        exact hj32 _ _ _ _ _ hH (lv_sub hl [0, 1, 2] rfl) h
    clear ej40
    refine lv_icmp_ne (tgt := 35) hx hb dX11_goes_25 (by decide) (fun c42 => ?_) (fun c42 => ?_)
    · replace h := if_f h c42
      exact hj40 _ _ _ hH (lv_sub hl [1, 2, 0] rfl) h
    · replace h := if_t h c42
      refine lv_aload_n hx hb dX11_goes_28 rfl (lv_at hl 1 rfl) ?_
      refine gf_X11_129 C hH dX11_goes_29 ?_
      refine lv_if_eq (tgt := 56) hx hb dX11_goes_32 (by decide) (fun c41 => ?_) (fun c41 => ?_)
      · replace h := if_t h c41
        exact hj34 _ _ _ _ hH (lv_sub hl [1, 2, 0] rfl) h
      · replace h := if_f h c41
        exact hj40 _ _ _ hH (lv_sub hl [1, 2, 0] rfl) h
theorem c_X11_goes (l : Launch) (g : gT) {a1 : Int32}  {S : sT} {S1 : sT} (h : f_X11_goes a1 S = some S1) : MF l yX11_goes cX11_goes 5 none 3 g [.ref (gad g 10 0), .int a1] S none S1 := by
  refine MF.of (own := RX11) rfl rfl (Nat.le_of_ble_eq_true rfl) ?_
  intro p e s m below meth c C hr hH ls hl
  exact w_X11_goes C hr (o := S1)  hH hl h
theorem nd_X11_lives : yX11_lives.cls ≠ "java/lang/invoke/MethodHandle" ∧ yX11_lives.cls ≠ "java/lang/invoke/VarHandle" ∧ (parseMethodDescriptor yX11_lives.desc).map (fun d => d.parameters.length) = some 1 := by decide +kernel
def b_X11_lives_6 (a1 : Int32) (x3 : Int32) (S4 : sT) (k5 : Int32 → sT → Option (sT)) : Option (sT) :=
 (if a1 ≤ x3 then
 some S4
 else
 bn (f_X11_goes x3 S4) (fun S7 =>
 lt (x3 + (1 : Int32)) (fun x8 =>
 k5 x8 S7)))
def l_X11_lives_6 (a1 : Int32) : Nat → Int32 → sT → Option (sT)
 | 0, _, _ => none
 | n + 1, x3, S4 => b_X11_lives_6 a1 x3 S4 (l_X11_lives_6 a1 n)
theorem l_X11_lives_6_s (a1 : Int32) (n : Nat) (x3 : Int32) (S4 : sT) : l_X11_lives_6 a1 (n + 1) x3 S4 = b_X11_lives_6 a1 x3 S4 (l_X11_lives_6 a1 n) := rfl
def f_X11_lives (a1 : Int32) (S : sT) : Option (sT) :=
 bn (f_X11_begins  S) (fun S2 =>
 l_X11_lives_6 a1 FU (0 : Int32) S2)
set_option maxHeartbeats 4000000 in
set_option maxRecDepth 100000 in
theorem w_X11_lives_6 (C : Cx p s m args meth c cX11_lives 3 RX11 g) (hr : meth.sig.returnType = none) {o : sT}  {a1 : Int32}   : ∀ (n : Nat) (x3 : Int32) (S4 : sT) (H : Heap) (locs : List Loc) (ls : Array Slot), Hp g s S4 H locs → lv_has ls 3 [(0, .ref (gad g 10 0)), (1, .int a1), (2, .int x3)] → l_X11_lives_6 a1 n x3 S4 = some o → W p l e (rmL 4) s m args below meth c H locs 0 0 (Qm g below args s none o) (F0 m 6 ls []) := by
  obtain ⟨hx, hb, hml, hown, hts, hlk, hK⟩ := id C
  intro n
  induction n with
  | zero =>
    intro x3 S4 H locs ls hH hl h
    cases h
  | succ n ih =>
    intro x3 S4 H locs ls hH hl h
    rw [l_X11_lives_6_s] at h
    unfold b_X11_lives_6 at h
    refine lv_iload_n hx hb dX11_lives_6 rfl (lv_at hl 2 rfl) ?_
    refine lv_iload_n hx hb dX11_lives_7 rfl (lv_at hl 1 rfl) ?_
    refine lv_icmp_ge (tgt := 22) hx hb dX11_lives_8 (by decide) (fun c9 => ?_) (fun c9 => ?_)
    · replace h := if_t h c9
      exact E_void C hr hH h dX11_lives_22
    · replace h := if_f h c9
      refine lv_aload_n hx hb dX11_lives_11 rfl (lv_at hl 0 rfl) ?_
      refine lv_iload_n hx hb dX11_lives_12 rfl (lv_at hl 2 rfl) ?_
      obtain ⟨S7, hc6, h⟩ := bn_e h
      refine r_callV0 (ki := 10) (i := 0) (ci := 10) (As := [.int x3]) C hl.1 hH (c_X11_goes l g  hc6) q434 q5 q431 q432 q433 nd_X11_goes rfl (by decide) ⟨Nat.zero_le _, Nat.zero_le _⟩ (by decide) (by decide) ⟨_, rfl⟩ rfl (Nat.le_of_ble_eq_true rfl) dX11_lives_13 (fun H locs hH => ?_)
      obtain ⟨x8, ex8⟩ : ∃ z : Int32, z = (x3 + (1 : Int32)) := ⟨_, rfl⟩
      replace h := lt_e h ex8
      refine lv_iinc (v := x8) (lv' := [(2, .int x8), (0, .ref (gad g 10 0)), (1, .int a1)]) hx hb dX11_lives_16 hl (k := 2) rfl (by rw [ex8]; rfl) (by decide) rfl (fun ls hl => ?_)
      refine lv_goto (tgt := 6) hx hb dX11_lives_19 (by decide) ?_
      exact ih _ _ _ _ _ hH (lv_sub hl [1, 2, 0] rfl) h
set_option maxHeartbeats 4000000 in
set_option maxRecDepth 100000 in
theorem w_X11_lives (C : Cx p s m args meth c cX11_lives 3 RX11 g) (hr : meth.sig.returnType = none) {o : sT} {a1 : Int32}  {S : sT} {H : Heap} {locs : List Loc} {ls : Array Slot} (hH : Hp g s S H locs) (hl : lv_has ls 3 [(0, .ref (gad g 10 0)), (1, .int a1)]) (h : f_X11_lives a1 S = some o) : W p l e (rmL 4) s m args below meth c H locs 0 0 (Qm g below args s none o) (F0 m 0 ls []) := by
  obtain ⟨hx, hb, hml, hown, hts, hlk, hK⟩ := id C
  unfold f_X11_lives at h
  refine lv_aload_n hx hb dX11_lives_0 rfl (lv_at hl 0 rfl) ?_
  obtain ⟨S2, hc1, h⟩ := bn_e h
  refine r_callV0 (ki := 10) (i := 0) (ci := 10) (As := []) C hl.1 hH (c_X11_begins l g  hc1) q430 q5 q427 q428 q429 nd_X11_begins rfl (by decide) ⟨Nat.zero_le _, Nat.zero_le _⟩ (by decide) (by decide) ⟨_, rfl⟩ rfl (Nat.le_of_ble_eq_true rfl) dX11_lives_1 (fun H locs hH => ?_)
  refine lv_iconst (v := (0 : Int32)) hx hb dX11_lives_4 (by decide) ?_
  refine lv_istore_n (lv' := [(2, .int (0 : Int32)), (0, .ref (gad g 10 0)), (1, .int a1)]) hx hb dX11_lives_5 rfl hl (by decide) rfl (fun ls hl => ?_)
  exact w_X11_lives_6 C hr   _ _ _ _ _ _ hH (lv_sub hl [1, 2, 0] rfl) h
theorem c_X11_lives (l : Launch) (g : gT) {a1 : Int32}  {S : sT} {S1 : sT} (h : f_X11_lives a1 S = some S1) : MF l yX11_lives cX11_lives 3 none 4 g [.ref (gad g 10 0), .int a1] S none S1 := by
  refine MF.of (own := RX11) rfl rfl (Nat.le_of_ble_eq_true rfl) ?_
  intro p e s m below meth c C hr hH ls hl
  exact w_X11_lives C hr (o := S1)  hH hl h
theorem nd_X11_weight : yX11_weight.cls ≠ "java/lang/invoke/MethodHandle" ∧ yX11_weight.cls ≠ "java/lang/invoke/VarHandle" ∧ (parseMethodDescriptor yX11_weight.desc).map (fun d => d.parameters.length) = some 1 := by decide +kernel
def f_X11_weight (a1 : Int32) (S : sT) : Option (Int32) :=
 ck (nz (2 : Int32)) (
 some ((1 : Int32) + (a1 / (2 : Int32))))
set_option maxHeartbeats 4000000 in
set_option maxRecDepth 100000 in
theorem w_X11_weight (C : Cx p s m args meth c cX11_weight 1 RX11 g) (hr : meth.sig.returnType = (some .int)) {o : Int32} {a1 : Int32}  {S : sT} {H : Heap} {locs : List Loc} {ls : Array Slot} (hH : Hp g s S H locs) (hl : lv_has ls 1 [(0, .int a1)]) (h : f_X11_weight a1 S = some o) : W p l e (rmL 1) s m args below meth c H locs 0 0 (Qm g below args s (some (.int o)) S) (F0 m 0 ls []) := by
  obtain ⟨hx, hb, hml, hown, hts, hlk, hK⟩ := id C
  unfold f_X11_weight at h
  refine lv_iconst (v := (1 : Int32)) hx hb dX11_weight_0 (by decide) ?_
  refine lv_iload_n hx hb dX11_weight_1 rfl (lv_at hl 0 rfl) ?_
  refine lv_iconst (v := (2 : Int32)) hx hb dX11_weight_2 (by decide) ?_
  obtain ⟨hv1, h⟩ := ck_e h
  refine lv_idiv hx hb dX11_weight_3 (nz_e hv1) ?_
  refine lv_iadd hx hb dX11_weight_4 ?_
  exact E_intc C hr hH h dX11_weight_5
theorem c_X11_weight (l : Launch) (g : gT) {a1 : Int32}  {S : sT} {r : Int32} (h : f_X11_weight a1 S = some r) : MF l yX11_weight cX11_weight 1 (some .int) 1 g [.int a1] S (some (.int r)) S := by
  refine MF.of (own := RX11) rfl rfl (Nat.le_of_ble_eq_true rfl) ?_
  intro p e s m below meth c C hr hH ls hl
  exact w_X11_weight C hr (o := r)  hH hl h
theorem nd_X11_highOf : yX11_highOf.cls ≠ "java/lang/invoke/MethodHandle" ∧ yX11_highOf.cls ≠ "java/lang/invoke/VarHandle" ∧ (parseMethodDescriptor yX11_highOf.desc).map (fun d => d.parameters.length) = some 1 := by decide +kernel
def b_X11_highOf_4 (a1 : Int32) (S : sT) (x1 : Int32) (x2 : Int32) (k3 : Int32 → Int32 → Option (Int32)) : Option (Int32) :=
 ck (vi a1 8) (
 (if (S.1 44 0 (cl a1)) ≤ x2 then
 some x1
 else
 ck (vi (((8 : Int32) * a1) + x2) 64) (
 bn (f_X11_weight (S.1 43 0 (cl (((8 : Int32) * a1) + x2))) S) (fun r7 =>
 lt (x1 + r7) (fun x8 =>
 lt (x2 + (1 : Int32)) (fun x9 =>
 k3 x8 x9))))))
def l_X11_highOf_4 (a1 : Int32) (S : sT) : Nat → Int32 → Int32 → Option (Int32)
 | 0, _, _ => none
 | n + 1, x1, x2 => b_X11_highOf_4 a1 S x1 x2 (l_X11_highOf_4 a1 S n)
theorem l_X11_highOf_4_s (a1 : Int32) (S : sT) (n : Nat) (x1 : Int32) (x2 : Int32) : l_X11_highOf_4 a1 S (n + 1) x1 x2 = b_X11_highOf_4 a1 S x1 x2 (l_X11_highOf_4 a1 S n) := rfl
def f_X11_highOf (a1 : Int32) (S : sT) : Option (Int32) :=
 l_X11_highOf_4 a1 S FU (0 : Int32) (0 : Int32)
set_option maxHeartbeats 4000000 in
set_option maxRecDepth 100000 in
theorem w_X11_highOf_4 (C : Cx p s m args meth c cX11_highOf 4 RX11 g) (hr : meth.sig.returnType = (some .int)) {o : Int32}  {a1 : Int32} {S : sT}   : ∀ (n : Nat) (x1 : Int32) (x2 : Int32) (H : Heap) (locs : List Loc) (ls : Array Slot), Hp g s S H locs → lv_has ls 4 [(0, .ref (gad g 10 0)), (1, .int a1), (2, .int x1), (3, .int x2)] → l_X11_highOf_4 a1 S n x1 x2 = some o → W p l e (rmL 2) s m args below meth c H locs 0 0 (Qm g below args s (some (.int o)) S) (F0 m 4 ls []) := by
  obtain ⟨hx, hb, hml, hown, hts, hlk, hK⟩ := id C
  intro n
  induction n with
  | zero =>
    intro x1 x2 H locs ls hH hl h
    cases h
  | succ n ih =>
    intro x1 x2 H locs ls hH hl h
    rw [l_X11_highOf_4_s] at h
    unfold b_X11_highOf_4 at h
    refine lv_iload_n hx hb dX11_highOf_4 rfl (lv_at hl 3 rfl) ?_
    refine lv_aload_n hx hb dX11_highOf_5 rfl (lv_at hl 0 rfl) ?_
    refine gf_X11_43 C hH dX11_highOf_6 ?_
    refine lv_iload_n hx hb dX11_highOf_9 rfl (lv_at hl 1 rfl) ?_
    obtain ⟨hv4, h⟩ := ck_e h
    refine r_ald C hH ka_44 (by decide) (by decide) (vi_in hv4) dX11_highOf_10 ?_
    refine lv_icmp_ge (tgt := 37) hx hb dX11_highOf_11 (by decide) (fun c10 => ?_) (fun c10 => ?_)
    · replace h := if_t h c10
      refine lv_iload_n hx hb dX11_highOf_37 rfl (lv_at hl 2 rfl) ?_
      exact E_intc C hr hH h dX11_highOf_38
    · replace h := if_f h c10
      refine lv_iload_n hx hb dX11_highOf_14 rfl (lv_at hl 2 rfl) ?_
      refine lv_aload_n hx hb dX11_highOf_15 rfl (lv_at hl 0 rfl) ?_
      refine gf_X11_40 C hH dX11_highOf_16 ?_
      refine lv_bipush (v := (8 : Int32)) hx hb dX11_highOf_19 (by decide) ?_
      refine lv_iload_n hx hb dX11_highOf_21 rfl (lv_at hl 1 rfl) ?_
      refine lv_imul hx hb dX11_highOf_22 ?_
      refine lv_iload_n hx hb dX11_highOf_23 rfl (lv_at hl 3 rfl) ?_
      refine lv_iadd hx hb dX11_highOf_24 ?_
      obtain ⟨hv5, h⟩ := ck_e h
      refine r_ald C hH ka_43 (by decide) (by decide) (vi_in hv5) dX11_highOf_25 ?_
      obtain ⟨r7, hc6, h⟩ := bn_e h
      refine r_callS1 (As := [.int (S.1 43 0 (cl (((8 : Int32) * a1) + x2)))]) C hl.1 hH (c_X11_weight l g  hc6) q456 q5 q454 q455 nd_X11_weight rfl (by decide) ⟨Nat.zero_le _, Nat.zero_le _⟩ (Nat.le_of_ble_eq_true rfl) dX11_highOf_26 (fun H locs hH => ?_)
      refine lv_iadd hx hb dX11_highOf_29 ?_
      refine lv_topi (fun x8 ex8 => ?_)
      replace h := lt_e h ex8
      refine lv_istore_n (lv' := [(2, .int x8), (0, .ref (gad g 10 0)), (1, .int a1), (3, .int x2)]) hx hb dX11_highOf_30 rfl hl (by decide) rfl (fun ls hl => ?_)
      obtain ⟨x9, ex9⟩ : ∃ z : Int32, z = (x2 + (1 : Int32)) := ⟨_, rfl⟩
      replace h := lt_e h ex9
      refine lv_iinc (v := x9) (lv' := [(3, .int x9), (2, .int x8), (0, .ref (gad g 10 0)), (1, .int a1)]) hx hb dX11_highOf_31 hl (k := 3) rfl (by rw [ex9]; rfl) (by decide) rfl (fun ls hl => ?_)
      refine lv_goto (tgt := 4) hx hb dX11_highOf_34 (by decide) ?_
      exact ih _ _ _ _ _ hH (lv_sub hl [2, 3, 1, 0] rfl) h
set_option maxHeartbeats 4000000 in
set_option maxRecDepth 100000 in
theorem w_X11_highOf (C : Cx p s m args meth c cX11_highOf 4 RX11 g) (hr : meth.sig.returnType = (some .int)) {o : Int32} {a1 : Int32}  {S : sT} {H : Heap} {locs : List Loc} {ls : Array Slot} (hH : Hp g s S H locs) (hl : lv_has ls 4 [(0, .ref (gad g 10 0)), (1, .int a1)]) (h : f_X11_highOf a1 S = some o) : W p l e (rmL 2) s m args below meth c H locs 0 0 (Qm g below args s (some (.int o)) S) (F0 m 0 ls []) := by
  obtain ⟨hx, hb, hml, hown, hts, hlk, hK⟩ := id C
  unfold f_X11_highOf at h
  refine lv_iconst (v := (0 : Int32)) hx hb dX11_highOf_0 (by decide) ?_
  refine lv_istore_n (lv' := [(2, .int (0 : Int32)), (0, .ref (gad g 10 0)), (1, .int a1)]) hx hb dX11_highOf_1 rfl hl (by decide) rfl (fun ls hl => ?_)
  refine lv_iconst (v := (0 : Int32)) hx hb dX11_highOf_2 (by decide) ?_
  refine lv_istore_n (lv' := [(3, .int (0 : Int32)), (2, .int (0 : Int32)), (0, .ref (gad g 10 0)), (1, .int a1)]) hx hb dX11_highOf_3 rfl hl (by decide) rfl (fun ls hl => ?_)
  exact w_X11_highOf_4 C hr   _ _ _ _ _ _ hH (lv_sub hl [2, 3, 1, 0] rfl) h
theorem c_X11_highOf (l : Launch) (g : gT) {a1 : Int32}  {S : sT} {r : Int32} (h : f_X11_highOf a1 S = some r) : MF l yX11_highOf cX11_highOf 4 (some .int) 2 g [.ref (gad g 10 0), .int a1] S (some (.int r)) S := by
  refine MF.of (own := RX11) rfl rfl (Nat.le_of_ble_eq_true rfl) ?_
  intro p e s m below meth c C hr hH ls hl
  exact w_X11_highOf C hr (o := r)  hH hl h
theorem nd_X11_leanOf : yX11_leanOf.cls ≠ "java/lang/invoke/MethodHandle" ∧ yX11_leanOf.cls ≠ "java/lang/invoke/VarHandle" ∧ (parseMethodDescriptor yX11_leanOf.desc).map (fun d => d.parameters.length) = some 1 := by decide +kernel
def b_X11_leanOf_4 (a1 : Int32) (S : sT) (x1 : Int32) (x2 : Int32) (k3 : Int32 → Int32 → Option (Int32)) : Option (Int32) :=
 ck (vi a1 8) (
 (if (S.1 44 0 (cl a1)) ≤ x2 then
 some x1
 else
 ck (vi (((8 : Int32) * a1) + x2) 64) (
 lt (S.1 43 0 (cl (((8 : Int32) * a1) + x2))) (fun x6 =>
 ck (nz (2 : Int32)) (
 jn (fun (y8 : Int32) => lt (x1 + y8) (fun x9 =>
 lt (x2 + (1 : Int32)) (fun x10 =>
 k3 x9 x10)))
 (fun j11 => (if (x6 - x6 / (2 : Int32) * (2 : Int32)) = (0 : Int32) then
 bn (f_X11_weight x6 S) (fun r15 =>
 j11 r15)
 else
 bn (f_X11_weight x6 S) (fun r13 =>
 j11 (-r13)))))))))
def l_X11_leanOf_4 (a1 : Int32) (S : sT) : Nat → Int32 → Int32 → Option (Int32)
 | 0, _, _ => none
 | n + 1, x1, x2 => b_X11_leanOf_4 a1 S x1 x2 (l_X11_leanOf_4 a1 S n)
theorem l_X11_leanOf_4_s (a1 : Int32) (S : sT) (n : Nat) (x1 : Int32) (x2 : Int32) : l_X11_leanOf_4 a1 S (n + 1) x1 x2 = b_X11_leanOf_4 a1 S x1 x2 (l_X11_leanOf_4 a1 S n) := rfl
def f_X11_leanOf (a1 : Int32) (S : sT) : Option (Int32) :=
 l_X11_leanOf_4 a1 S FU (0 : Int32) (0 : Int32)
set_option maxHeartbeats 4000000 in
set_option maxRecDepth 100000 in
theorem w_X11_leanOf_4 (C : Cx p s m args meth c cX11_leanOf 5 RX11 g) (hr : meth.sig.returnType = (some .int)) {o : Int32}  {a1 : Int32} {S : sT}   : ∀ (n : Nat) (x1 : Int32) (x2 : Int32) (H : Heap) (locs : List Loc) (ls : Array Slot), Hp g s S H locs → lv_has ls 5 [(0, .ref (gad g 10 0)), (1, .int a1), (2, .int x1), (3, .int x2)] → l_X11_leanOf_4 a1 S n x1 x2 = some o → W p l e (rmL 2) s m args below meth c H locs 0 0 (Qm g below args s (some (.int o)) S) (F0 m 4 ls []) := by
  obtain ⟨hx, hb, hml, hown, hts, hlk, hK⟩ := id C
  intro n
  induction n with
  | zero =>
    intro x1 x2 H locs ls hH hl h
    cases h
  | succ n ih =>
    intro x1 x2 H locs ls hH hl h
    rw [l_X11_leanOf_4_s] at h
    unfold b_X11_leanOf_4 at h
    refine lv_iload_n hx hb dX11_leanOf_4 rfl (lv_at hl 3 rfl) ?_
    refine lv_aload_n hx hb dX11_leanOf_5 rfl (lv_at hl 0 rfl) ?_
    refine gf_X11_43 C hH dX11_leanOf_6 ?_
    refine lv_iload_n hx hb dX11_leanOf_9 rfl (lv_at hl 1 rfl) ?_
    obtain ⟨hv4, h⟩ := ck_e h
    refine r_ald C hH ka_44 (by decide) (by decide) (vi_in hv4) dX11_leanOf_10 ?_
    refine lv_icmp_ge (tgt := 57) hx hb dX11_leanOf_11 (by decide) (fun c17 => ?_) (fun c17 => ?_)
    · replace h := if_t h c17
      refine lv_iload_n hx hb dX11_leanOf_57 rfl (lv_at hl 2 rfl) ?_
      exact E_intc C hr hH h dX11_leanOf_58
    · replace h := if_f h c17
      refine lv_aload_n hx hb dX11_leanOf_14 rfl (lv_at hl 0 rfl) ?_
      refine gf_X11_40 C hH dX11_leanOf_15 ?_
      refine lv_bipush (v := (8 : Int32)) hx hb dX11_leanOf_18 (by decide) ?_
      refine lv_iload_n hx hb dX11_leanOf_20 rfl (lv_at hl 1 rfl) ?_
      refine lv_imul hx hb dX11_leanOf_21 ?_
      refine lv_iload_n hx hb dX11_leanOf_22 rfl (lv_at hl 3 rfl) ?_
      refine lv_iadd hx hb dX11_leanOf_23 ?_
      obtain ⟨hv5, h⟩ := ck_e h
      refine r_ald C hH ka_43 (by decide) (by decide) (vi_in hv5) dX11_leanOf_24 ?_
      refine lv_topi (fun x6 ex6 => ?_)
      replace h := lt_e h ex6
      refine lv_istore (lv' := [(4, .int x6), (0, .ref (gad g 10 0)), (1, .int a1), (2, .int x1), (3, .int x2)]) hx hb dX11_leanOf_25 hl (by decide) rfl (fun ls hl => ?_)
      refine lv_iload_n hx hb dX11_leanOf_27 rfl (lv_at hl 3 rfl) ?_
      refine lv_iload hx hb dX11_leanOf_28 (lv_at hl 0 rfl) ?_
      refine lv_iconst (v := (2 : Int32)) hx hb dX11_leanOf_30 (by decide) ?_
      obtain ⟨hv7, h⟩ := ck_e h
      refine lv_irem hx hb dX11_leanOf_31 (nz_e hv7) ?_
      obtain ⟨j11, ej11, h⟩ := jn_e h
      have hj11 : ∀ (y8 : Int32) (H : Heap) (locs : List Loc) (ls : Array Slot), Hp g s S H locs → lv_has ls 5 [(0, .ref (gad g 10 0)), (1, .int a1), (3, .int x2)] → j11 y8 = some o → W p l e (rmL 2) s m args below meth c H locs 0 0 (Qm g below args s (some (.int o)) S) (F0 m 49 ls [.int y8, .int x1]) := by
        intro y8 H locs ls hH hl h
        rw [ej11] at h
        try dsimp only at h
        refine lv_iadd hx hb dX11_leanOf_49 ?_
        refine lv_topi (fun x9 ex9 => ?_)
        replace h := lt_e h ex9
        refine lv_istore_n (lv' := [(2, .int x9), (0, .ref (gad g 10 0)), (1, .int a1), (3, .int x2)]) hx hb dX11_leanOf_50 rfl hl (by decide) rfl (fun ls hl => ?_)
        obtain ⟨x10, ex10⟩ : ∃ z : Int32, z = (x2 + (1 : Int32)) := ⟨_, rfl⟩
        replace h := lt_e h ex10
        refine lv_iinc (v := x10) (lv' := [(3, .int x10), (2, .int x9), (0, .ref (gad g 10 0)), (1, .int a1)]) hx hb dX11_leanOf_51 hl (k := 3) rfl (by rw [ex10]; rfl) (by decide) rfl (fun ls hl => ?_)
        refine lv_goto (tgt := 4) hx hb dX11_leanOf_54 (by decide) ?_
        exact ih _ _ _ _ _ hH (lv_sub hl [2, 3, 1, 0] rfl) h
      clear ej11
      refine lv_if_ne (tgt := 43) hx hb dX11_leanOf_32 (by decide) (fun c16 => ?_) (fun c16 => ?_)
      · replace h := if_f h c16
        refine lv_iload hx hb dX11_leanOf_43 (lv_at hl 0 rfl) ?_
        obtain ⟨r13, hc12, h⟩ := bn_e h
        refine r_callS1 (As := [.int x6]) C hl.1 hH (c_X11_weight l g  hc12) q456 q5 q454 q455 nd_X11_weight rfl (by decide) ⟨Nat.zero_le _, Nat.zero_le _⟩ (Nat.le_of_ble_eq_true rfl) dX11_leanOf_45 (fun H locs hH => ?_)
        refine lv_ineg hx hb dX11_leanOf_48 ?_
        exact hj11 _ _ _ _ hH (lv_sub hl [1, 2, 4] rfl) h
      · replace h := if_t h c16
        refine lv_iload hx hb dX11_leanOf_35 (lv_at hl 0 rfl) ?_
        obtain ⟨r15, hc14, h⟩ := bn_e h
        refine r_callS1 (As := [.int x6]) C hl.1 hH (c_X11_weight l g  hc14) q456 q5 q454 q455 nd_X11_weight rfl (by decide) ⟨Nat.zero_le _, Nat.zero_le _⟩ (Nat.le_of_ble_eq_true rfl) dX11_leanOf_37 (fun H locs hH => ?_)
        refine lv_goto (tgt := 49) hx hb dX11_leanOf_40 (by decide) ?_
        exact hj11 _ _ _ _ hH (lv_sub hl [1, 2, 4] rfl) h
set_option maxHeartbeats 4000000 in
set_option maxRecDepth 100000 in
theorem w_X11_leanOf (C : Cx p s m args meth c cX11_leanOf 5 RX11 g) (hr : meth.sig.returnType = (some .int)) {o : Int32} {a1 : Int32}  {S : sT} {H : Heap} {locs : List Loc} {ls : Array Slot} (hH : Hp g s S H locs) (hl : lv_has ls 5 [(0, .ref (gad g 10 0)), (1, .int a1)]) (h : f_X11_leanOf a1 S = some o) : W p l e (rmL 2) s m args below meth c H locs 0 0 (Qm g below args s (some (.int o)) S) (F0 m 0 ls []) := by
  obtain ⟨hx, hb, hml, hown, hts, hlk, hK⟩ := id C
  unfold f_X11_leanOf at h
  refine lv_iconst (v := (0 : Int32)) hx hb dX11_leanOf_0 (by decide) ?_
  refine lv_istore_n (lv' := [(2, .int (0 : Int32)), (0, .ref (gad g 10 0)), (1, .int a1)]) hx hb dX11_leanOf_1 rfl hl (by decide) rfl (fun ls hl => ?_)
  refine lv_iconst (v := (0 : Int32)) hx hb dX11_leanOf_2 (by decide) ?_
  refine lv_istore_n (lv' := [(3, .int (0 : Int32)), (2, .int (0 : Int32)), (0, .ref (gad g 10 0)), (1, .int a1)]) hx hb dX11_leanOf_3 rfl hl (by decide) rfl (fun ls hl => ?_)
  exact w_X11_leanOf_4 C hr   _ _ _ _ _ _ hH (lv_sub hl [2, 3, 1, 0] rfl) h
theorem c_X11_leanOf (l : Launch) (g : gT) {a1 : Int32}  {S : sT} {r : Int32} (h : f_X11_leanOf a1 S = some r) : MF l yX11_leanOf cX11_leanOf 5 (some .int) 2 g [.ref (gad g 10 0), .int a1] S (some (.int r)) S := by
  refine MF.of (own := RX11) rfl rfl (Nat.le_of_ble_eq_true rfl) ?_
  intro p e s m below meth c C hr hH ls hl
  exact w_X11_leanOf C hr (o := r)  hH hl h
end G22
