theorem nd_X9_init : yX9_init.cls ≠ "java/lang/invoke/MethodHandle" ∧ yX9_init.cls ≠ "java/lang/invoke/VarHandle" ∧ (parseMethodDescriptor yX9_init.desc).map (fun d => d.parameters.length) = some 0 := by decide +kernel
def LX9 (cy : Nat → ClassId) (h0 : Nat) (q : Nat → Nat) : va_W := [(h0, .inr (8, [.ref (q 0), .ref (q 1), .ref (q 2), .ref (q 3), .int (0 : Int32)])), ((q 0), .inl (cy 0, 64, .inl (fun _ => 0))), ((q 1), .inl (cy 0, 8, .inl (fun _ => 0))), ((q 2), .inl (cy 0, 8, .inl (fun _ => 0))), ((q 3), .inl (cy 0, 8, .inl (fun _ => 0)))]
set_option maxHeartbeats 4000000 in
set_option maxRecDepth 100000 in
theorem mc_X9 (l : Launch) (D : va_G) (cy : Nat → ClassId) (B0 : Nat) (wr : va_W) (h0 : Nat) : MC l yX9_init cX9_init 1 1 4 88 D cy B0 [.ref h0] wr [(h0, .inr (8, [.null, .null, .null, .null, .int 0]))] (fun L1 => ∃ q : Nat → Nat, L1 = LX9 cy h0 q) := by
  refine MC.of (own := RX9) rfl rfl (Nat.le_of_ble_eq_true rfl) ?_
  intro p e s m below meth c X hr hin hH ls hl
  obtain ⟨hx, hb, hml, hown, hts, hlk, hK, hB⟩ := id X
  have hin : meth.name = "<init>" := hin
  refine lv_aload_n hx hb dX9_init_0 rfl (lv_at hl 0 rfl) ?_
  refine W.objInit hx hb hown (hts _ q85) (hts _ q10) (hts _ q11) rfl (by rw [hml]; exact hl.1) rfl dX9_init_1 (Nat.le_of_ble_eq_true rfl) (Nat.le_of_ble_eq_true rfl) ?_
  refine W.eq (g2 := F0 m 4 ls []) rfl ?_
  refine lv_aload_n hx hb dX9_init_4 rfl (lv_at hl 0 rfl) ?_
  refine lv_bipush (v := (64 : Int32)) hx hb dX9_init_5 (by decide) ?_
  refine c_newa (N' := 64) X hH q51 (by decide) (by decide) (Nat.le_of_ble_eq_true rfl) (Nat.le_of_ble_eq_true rfl) (Nat.le_of_ble_eq_true rfl) dX9_init_7 (fun p1 H hN => ?_)
  replace hH : Hc D B0 s (wr ++ [(h0, .inr (8, [.null, .null, .null, .null, .int 0])), (p1, .inl (cy 0, 64, .inl (fun _ => 0)))]) H _ := hN
  clear hN
  refine c_putF (ci := 8) (C := RX9) (T := TX9) (N := 5) (ref := RX9) X hH hin inlX9 tyX9 tyX9_ok nmX9 0 rfl rfl 0 (by decide) q86 rfl rfl rfl (ty := .array .int) (by decide +kernel) rfl rfl (Nat.le_of_ble_eq_true rfl) dX9_init_9 (fun H locs hN => ?_)
  replace hH : Hc D B0 s (wr ++ [(h0, .inr (8, [.ref p1, .null, .null, .null, .int 0])), (p1, .inl (cy 0, 64, .inl (fun _ => 0)))]) H _ := hN
  clear hN
  refine lv_aload_n hx hb dX9_init_12 rfl (lv_at hl 0 rfl) ?_
  refine lv_bipush (v := (8 : Int32)) hx hb dX9_init_13 (by decide) ?_
  refine c_newa (N' := 8) X hH q51 (by decide) (by decide) (Nat.le_of_ble_eq_true rfl) (Nat.le_of_ble_eq_true rfl) (Nat.le_of_ble_eq_true rfl) dX9_init_15 (fun p2 H hN => ?_)
  replace hH : Hc D B0 s (wr ++ [(h0, .inr (8, [.ref p1, .null, .null, .null, .int 0])), (p1, .inl (cy 0, 64, .inl (fun _ => 0))), (p2, .inl (cy 0, 8, .inl (fun _ => 0)))]) H _ := hN
  clear hN
  refine c_putF (ci := 8) (C := RX9) (T := TX9) (N := 5) (ref := RX9) X hH hin inlX9 tyX9 tyX9_ok nmX9 0 rfl rfl 1 (by decide) q87 rfl rfl rfl (ty := .array .int) (by decide +kernel) rfl rfl (Nat.le_of_ble_eq_true rfl) dX9_init_17 (fun H locs hN => ?_)
  replace hH : Hc D B0 s (wr ++ [(h0, .inr (8, [.ref p1, .ref p2, .null, .null, .int 0])), (p1, .inl (cy 0, 64, .inl (fun _ => 0))), (p2, .inl (cy 0, 8, .inl (fun _ => 0)))]) H _ := hN
  clear hN
  refine lv_aload_n hx hb dX9_init_20 rfl (lv_at hl 0 rfl) ?_
  refine lv_bipush (v := (8 : Int32)) hx hb dX9_init_21 (by decide) ?_
  refine c_newa (N' := 8) X hH q51 (by decide) (by decide) (Nat.le_of_ble_eq_true rfl) (Nat.le_of_ble_eq_true rfl) (Nat.le_of_ble_eq_true rfl) dX9_init_23 (fun p3 H hN => ?_)
  replace hH : Hc D B0 s (wr ++ [(h0, .inr (8, [.ref p1, .ref p2, .null, .null, .int 0])), (p1, .inl (cy 0, 64, .inl (fun _ => 0))), (p2, .inl (cy 0, 8, .inl (fun _ => 0))), (p3, .inl (cy 0, 8, .inl (fun _ => 0)))]) H _ := hN
  clear hN
  refine c_putF (ci := 8) (C := RX9) (T := TX9) (N := 5) (ref := RX9) X hH hin inlX9 tyX9 tyX9_ok nmX9 0 rfl rfl 2 (by decide) q88 rfl rfl rfl (ty := .array .int) (by decide +kernel) rfl rfl (Nat.le_of_ble_eq_true rfl) dX9_init_25 (fun H locs hN => ?_)
  replace hH : Hc D B0 s (wr ++ [(h0, .inr (8, [.ref p1, .ref p2, .ref p3, .null, .int 0])), (p1, .inl (cy 0, 64, .inl (fun _ => 0))), (p2, .inl (cy 0, 8, .inl (fun _ => 0))), (p3, .inl (cy 0, 8, .inl (fun _ => 0)))]) H _ := hN
  clear hN
  refine lv_aload_n hx hb dX9_init_28 rfl (lv_at hl 0 rfl) ?_
  refine lv_bipush (v := (8 : Int32)) hx hb dX9_init_29 (by decide) ?_
  refine c_newa (N' := 8) X hH q51 (by decide) (by decide) (Nat.le_of_ble_eq_true rfl) (Nat.le_of_ble_eq_true rfl) (Nat.le_of_ble_eq_true rfl) dX9_init_31 (fun p4 H hN => ?_)
  replace hH : Hc D B0 s (wr ++ [(h0, .inr (8, [.ref p1, .ref p2, .ref p3, .null, .int 0])), (p1, .inl (cy 0, 64, .inl (fun _ => 0))), (p2, .inl (cy 0, 8, .inl (fun _ => 0))), (p3, .inl (cy 0, 8, .inl (fun _ => 0))), (p4, .inl (cy 0, 8, .inl (fun _ => 0)))]) H _ := hN
  clear hN
  refine c_putF (ci := 8) (C := RX9) (T := TX9) (N := 5) (ref := RX9) X hH hin inlX9 tyX9 tyX9_ok nmX9 0 rfl rfl 3 (by decide) q89 rfl rfl rfl (ty := .array .int) (by decide +kernel) rfl rfl (Nat.le_of_ble_eq_true rfl) dX9_init_33 (fun H locs hN => ?_)
  replace hH : Hc D B0 s (wr ++ [(h0, .inr (8, [.ref p1, .ref p2, .ref p3, .ref p4, .int 0])), (p1, .inl (cy 0, 64, .inl (fun _ => 0))), (p2, .inl (cy 0, 8, .inl (fun _ => 0))), (p3, .inl (cy 0, 8, .inl (fun _ => 0))), (p4, .inl (cy 0, 8, .inl (fun _ => 0)))]) H _ := hN
  clear hN
  refine lv_aload_n hx hb dX9_init_36 rfl (lv_at hl 0 rfl) ?_
  refine lv_iconst (v := (0 : Int32)) hx hb dX9_init_37 (by decide) ?_
  refine c_put (ci := 8) (C := RX9) (T := TX9) (N := 5) (ref := RX9) X hH inlX9 tyX9 tyX9_ok nmX9 0 rfl rfl 4 (by decide) q90 rfl rfl (ty := .int) (by decide +kernel) rfl rfl (Nat.le_of_ble_eq_true rfl) dX9_init_38 (fun H locs hN => ?_)
  replace hH : Hc D B0 s (wr ++ [(h0, .inr (8, [.ref p1, .ref p2, .ref p3, .ref p4, .int (0 : Int32)])), (p1, .inl (cy 0, 64, .inl (fun _ => 0))), (p2, .inl (cy 0, 8, .inl (fun _ => 0))), (p3, .inl (cy 0, 8, .inl (fun _ => 0))), (p4, .inl (cy 0, 8, .inl (fun _ => 0)))]) H _ := hN
  clear hN
  exact c_ret X hr hH ⟨fun k => match k with | 0 => p1 | 1 => p2 | 2 => p3 | 3 => p4 | _ => 0, rfl⟩ dX9_init_41
theorem nd_X8_init : yX8_init.cls ≠ "java/lang/invoke/MethodHandle" ∧ yX8_init.cls ≠ "java/lang/invoke/VarHandle" ∧ (parseMethodDescriptor yX8_init.desc).map (fun d => d.parameters.length) = some 1 := by decide +kernel
def LX8 (cy : Nat → ClassId) (h0 : Nat) (a1 : Int32) (q : Nat → Nat) : va_W := [(h0, .inr (7, [.ref (q 0), .int (if (63 : Int32) < a1 then (63 : Int32) else a1), .int (0 : Int32)])), ((q 0), .inl (cy 0, 63, .inl (fun _ => 0)))]
set_option maxHeartbeats 4000000 in
set_option maxRecDepth 100000 in
theorem mc_X8 (l : Launch) (D : va_G) (cy : Nat → ClassId) (B0 : Nat) (wr : va_W) (h0 : Nat) (a1 : Int32) : MC l yX8_init cX8_init 2 1 1 63 D cy B0 [.ref h0, .int a1] wr [(h0, .inr (7, [.null, .int 0, .int 0]))] (fun L1 => ∃ q : Nat → Nat, L1 = LX8 cy h0 a1 q) := by
  refine MC.of (own := RX8) rfl rfl (Nat.le_of_ble_eq_true rfl) ?_
  intro p e s m below meth c X hr hin hH ls hl
  obtain ⟨hx, hb, hml, hown, hts, hlk, hK, hB⟩ := id X
  have hin : meth.name = "<init>" := hin
  refine lv_aload_n hx hb dX8_init_0 rfl (lv_at hl 0 rfl) ?_
  refine W.objInit hx hb hown (hts _ q50) (hts _ q10) (hts _ q11) rfl (by rw [hml]; exact hl.1) rfl dX8_init_1 (Nat.le_of_ble_eq_true rfl) (Nat.le_of_ble_eq_true rfl) ?_
  refine W.eq (g2 := F0 m 4 ls []) rfl ?_
  refine lv_aload_n hx hb dX8_init_4 rfl (lv_at hl 0 rfl) ?_
  refine lv_bipush (v := (63 : Int32)) hx hb dX8_init_5 (by decide) ?_
  refine c_newa (N' := 63) X hH q51 (by decide) (by decide) (Nat.le_of_ble_eq_true rfl) (Nat.le_of_ble_eq_true rfl) (Nat.le_of_ble_eq_true rfl) dX8_init_7 (fun p1 H hN => ?_)
  replace hH : Hc D B0 s (wr ++ [(h0, .inr (7, [.null, .int 0, .int 0])), (p1, .inl (cy 0, 63, .inl (fun _ => 0)))]) H _ := hN
  clear hN
  refine c_putF (ci := 7) (C := RX8) (T := TX8) (N := 3) (ref := RX8) X hH hin inlX8 tyX8 tyX8_ok nmX8 0 rfl rfl 0 (by decide) q52 rfl rfl rfl (ty := .array .int) (by decide +kernel) rfl rfl (Nat.le_of_ble_eq_true rfl) dX8_init_9 (fun H locs hN => ?_)
  replace hH : Hc D B0 s (wr ++ [(h0, .inr (7, [.ref p1, .int 0, .int 0])), (p1, .inl (cy 0, 63, .inl (fun _ => 0)))]) H _ := hN
  clear hN
  refine lv_aload_n hx hb dX8_init_12 rfl (lv_at hl 0 rfl) ?_
  refine lv_iconst (v := (0 : Int32)) hx hb dX8_init_13 (by decide) ?_
  refine c_put (ci := 7) (C := RX8) (T := TX8) (N := 3) (ref := RX8) X hH inlX8 tyX8 tyX8_ok nmX8 0 rfl rfl 2 (by decide) q53 rfl rfl (ty := .int) (by decide +kernel) rfl rfl (Nat.le_of_ble_eq_true rfl) dX8_init_14 (fun H locs hN => ?_)
  replace hH : Hc D B0 s (wr ++ [(h0, .inr (7, [.ref p1, .int 0, .int (0 : Int32)])), (p1, .inl (cy 0, 63, .inl (fun _ => 0)))]) H _ := hN
  clear hN
  refine lv_aload_n hx hb dX8_init_17 rfl (lv_at hl 0 rfl) ?_
  refine lv_iload_n hx hb dX8_init_18 rfl (lv_at hl 1 rfl) ?_
  refine lv_bipush (v := (63 : Int32)) hx hb dX8_init_19 (by decide) ?_
  refine va_mmin hx hb (hml.trans hl.1.symm) hown (hts _ q54) (hts _ q55) (hts _ q56) (hts _ q57) (Nat.le_of_ble_eq_true rfl) (Nat.le_of_ble_eq_true rfl) (Nat.le_of_ble_eq_true rfl) (Nat.le_of_ble_eq_true rfl) dX8_init_21 ?_
  refine c_putF (ci := 7) (C := RX8) (T := TX8) (N := 3) (ref := RX8) X hH hin inlX8 tyX8 tyX8_ok nmX8 0 rfl rfl 1 (by decide) q58 rfl rfl rfl (ty := .int) (by decide +kernel) rfl rfl (Nat.le_of_ble_eq_true rfl) dX8_init_24 (fun H locs hN => ?_)
  replace hH : Hc D B0 s (wr ++ [(h0, .inr (7, [.ref p1, .int (if (63 : Int32) < a1 then (63 : Int32) else a1), .int (0 : Int32)])), (p1, .inl (cy 0, 63, .inl (fun _ => 0)))]) H _ := hN
  clear hN
  exact c_ret X hr hH ⟨fun k => match k with | 0 => p1 | _ => 0, rfl⟩ dX8_init_27
theorem nd_X3_init : yX3_init.cls ≠ "java/lang/invoke/MethodHandle" ∧ yX3_init.cls ≠ "java/lang/invoke/VarHandle" ∧ (parseMethodDescriptor yX3_init.desc).map (fun d => d.parameters.length) = some 0 := by decide +kernel
def LX3 (cy : Nat → ClassId) (h0 : Nat) (q : Nat → Nat) : va_W := [(h0, .inr (3, [.ref (q 0)])), ((q 0), .inl (cy 0, 6, .inl (upd (upd (upd (upd (upd (upd (fun _ => 0) (cl (0 : Int32)) (0 : Int32)) (cl (1 : Int32)) (3 : Int32)) (cl (2 : Int32)) (0 : Int32)) (cl (3 : Int32)) (6 : Int32)) (cl (4 : Int32)) (4 : Int32)) (cl (5 : Int32)) (255 : Int32))))]
set_option maxHeartbeats 4000000 in
set_option maxRecDepth 100000 in
theorem mc_X3 (l : Launch) (D : va_G) (cy : Nat → ClassId) (B0 : Nat) (wr : va_W) (h0 : Nat) : MC l yX3_init cX3_init 1 1 1 6 D cy B0 [.ref h0] wr [(h0, .inr (3, [.null]))] (fun L1 => ∃ q : Nat → Nat, L1 = LX3 cy h0 q) := by
  refine MC.of (own := RX3) rfl rfl (Nat.le_of_ble_eq_true rfl) ?_
  intro p e s m below meth c X hr hin hH ls hl
  obtain ⟨hx, hb, hml, hown, hts, hlk, hK, hB⟩ := id X
  have hin : meth.name = "<init>" := hin
  refine lv_aload_n hx hb dX3_init_0 rfl (lv_at hl 0 rfl) ?_
  refine W.objInit hx hb hown (hts _ q61) (hts _ q10) (hts _ q11) rfl (by rw [hml]; exact hl.1) rfl dX3_init_1 (Nat.le_of_ble_eq_true rfl) (Nat.le_of_ble_eq_true rfl) ?_
  refine W.eq (g2 := F0 m 4 ls []) rfl ?_
  refine lv_aload_n hx hb dX3_init_4 rfl (lv_at hl 0 rfl) ?_
  refine lv_bipush (v := (6 : Int32)) hx hb dX3_init_5 (by decide) ?_
  refine c_newa (N' := 6) X hH q51 (by decide) (by decide) (Nat.le_of_ble_eq_true rfl) (Nat.le_of_ble_eq_true rfl) (Nat.le_of_ble_eq_true rfl) dX3_init_7 (fun p1 H hN => ?_)
  replace hH : Hc D B0 s (wr ++ [(h0, .inr (3, [.null])), (p1, .inl (cy 0, 6, .inl (fun _ => 0)))]) H _ := hN
  clear hN
  refine lv_dup hx hb dX3_init_9 rfl ?_
  refine lv_iconst (v := (0 : Int32)) hx hb dX3_init_10 (by decide) ?_
  refine lv_iconst (v := (0 : Int32)) hx hb dX3_init_11 (by decide) ?_
  refine c_ast (i := (0 : Int32)) X hH 1 rfl (vi_in (by decide)) dX3_init_12 (fun H locs hN => ?_)
  replace hH : Hc D B0 s (wr ++ [(h0, .inr (3, [.null])), (p1, .inl (cy 0, 6, .inl (upd (fun _ => 0) (cl (0 : Int32)) (0 : Int32))))]) H _ := hN
  clear hN
  refine lv_dup hx hb dX3_init_13 rfl ?_
  refine lv_iconst (v := (1 : Int32)) hx hb dX3_init_14 (by decide) ?_
  refine lv_iconst (v := (3 : Int32)) hx hb dX3_init_15 (by decide) ?_
  refine c_ast (i := (1 : Int32)) X hH 1 rfl (vi_in (by decide)) dX3_init_16 (fun H locs hN => ?_)
  replace hH : Hc D B0 s (wr ++ [(h0, .inr (3, [.null])), (p1, .inl (cy 0, 6, .inl (upd (upd (fun _ => 0) (cl (0 : Int32)) (0 : Int32)) (cl (1 : Int32)) (3 : Int32))))]) H _ := hN
  clear hN
  refine lv_dup hx hb dX3_init_17 rfl ?_
  refine lv_iconst (v := (2 : Int32)) hx hb dX3_init_18 (by decide) ?_
  refine lv_iconst (v := (0 : Int32)) hx hb dX3_init_19 (by decide) ?_
  refine c_ast (i := (2 : Int32)) X hH 1 rfl (vi_in (by decide)) dX3_init_20 (fun H locs hN => ?_)
  replace hH : Hc D B0 s (wr ++ [(h0, .inr (3, [.null])), (p1, .inl (cy 0, 6, .inl (upd (upd (upd (fun _ => 0) (cl (0 : Int32)) (0 : Int32)) (cl (1 : Int32)) (3 : Int32)) (cl (2 : Int32)) (0 : Int32))))]) H _ := hN
  clear hN
  refine lv_dup hx hb dX3_init_21 rfl ?_
  refine lv_iconst (v := (3 : Int32)) hx hb dX3_init_22 (by decide) ?_
  refine lv_bipush (v := (6 : Int32)) hx hb dX3_init_23 (by decide) ?_
  refine c_ast (i := (3 : Int32)) X hH 1 rfl (vi_in (by decide)) dX3_init_25 (fun H locs hN => ?_)
  replace hH : Hc D B0 s (wr ++ [(h0, .inr (3, [.null])), (p1, .inl (cy 0, 6, .inl (upd (upd (upd (upd (fun _ => 0) (cl (0 : Int32)) (0 : Int32)) (cl (1 : Int32)) (3 : Int32)) (cl (2 : Int32)) (0 : Int32)) (cl (3 : Int32)) (6 : Int32))))]) H _ := hN
  clear hN
  refine lv_dup hx hb dX3_init_26 rfl ?_
  refine lv_iconst (v := (4 : Int32)) hx hb dX3_init_27 (by decide) ?_
  refine lv_iconst (v := (4 : Int32)) hx hb dX3_init_28 (by decide) ?_
  refine c_ast (i := (4 : Int32)) X hH 1 rfl (vi_in (by decide)) dX3_init_29 (fun H locs hN => ?_)
  replace hH : Hc D B0 s (wr ++ [(h0, .inr (3, [.null])), (p1, .inl (cy 0, 6, .inl (upd (upd (upd (upd (upd (fun _ => 0) (cl (0 : Int32)) (0 : Int32)) (cl (1 : Int32)) (3 : Int32)) (cl (2 : Int32)) (0 : Int32)) (cl (3 : Int32)) (6 : Int32)) (cl (4 : Int32)) (4 : Int32))))]) H _ := hN
  clear hN
  refine lv_dup hx hb dX3_init_30 rfl ?_
  refine lv_iconst (v := (5 : Int32)) hx hb dX3_init_31 (by decide) ?_
  refine lv_sipush (v := (255 : Int32)) hx hb dX3_init_32 (by decide) ?_
  refine c_ast (i := (5 : Int32)) X hH 1 rfl (vi_in (by decide)) dX3_init_35 (fun H locs hN => ?_)
  replace hH : Hc D B0 s (wr ++ [(h0, .inr (3, [.null])), (p1, .inl (cy 0, 6, .inl (upd (upd (upd (upd (upd (upd (fun _ => 0) (cl (0 : Int32)) (0 : Int32)) (cl (1 : Int32)) (3 : Int32)) (cl (2 : Int32)) (0 : Int32)) (cl (3 : Int32)) (6 : Int32)) (cl (4 : Int32)) (4 : Int32)) (cl (5 : Int32)) (255 : Int32))))]) H _ := hN
  clear hN
  refine c_putF (ci := 3) (C := RX3) (T := TX3) (N := 1) (ref := RX3) X hH hin inlX3 tyX3 tyX3_ok nmX3 0 rfl rfl 0 (by decide) q62 rfl rfl rfl (ty := .array .int) (by decide +kernel) rfl rfl (Nat.le_of_ble_eq_true rfl) dX3_init_36 (fun H locs hN => ?_)
  replace hH : Hc D B0 s (wr ++ [(h0, .inr (3, [.ref p1])), (p1, .inl (cy 0, 6, .inl (upd (upd (upd (upd (upd (upd (fun _ => 0) (cl (0 : Int32)) (0 : Int32)) (cl (1 : Int32)) (3 : Int32)) (cl (2 : Int32)) (0 : Int32)) (cl (3 : Int32)) (6 : Int32)) (cl (4 : Int32)) (4 : Int32)) (cl (5 : Int32)) (255 : Int32))))]) H _ := hN
  clear hN
  exact c_ret X hr hH ⟨fun k => match k with | 0 => p1 | _ => 0, rfl⟩ dX3_init_39
theorem nd_X4_init : yX4_init.cls ≠ "java/lang/invoke/MethodHandle" ∧ yX4_init.cls ≠ "java/lang/invoke/VarHandle" ∧ (parseMethodDescriptor yX4_init.desc).map (fun d => d.parameters.length) = some 0 := by decide +kernel
def LX4 (cy : Nat → ClassId) (h0 : Nat) (q : Nat → Nat) : va_W := [(h0, .inr (4, [.ref (q 0), .ref (q 1), .ref (q 2), .ref (q 3), .int (0 : Int32)])), ((q 0), .inl (cy 0, 12, .inl (fun _ => 0))), ((q 1), .inl (cy 0, 12, .inl (fun _ => 0))), ((q 2), .inl (cy 0, 36, .inl (fun _ => 0))), ((q 3), .inl (cy 0, 36, .inl (fun _ => 0)))]
set_option maxHeartbeats 4000000 in
set_option maxRecDepth 100000 in
theorem mc_X4 (l : Launch) (D : va_G) (cy : Nat → ClassId) (B0 : Nat) (wr : va_W) (h0 : Nat) : MC l yX4_init cX4_init 1 1 4 96 D cy B0 [.ref h0] wr [(h0, .inr (4, [.null, .null, .null, .null, .int 0]))] (fun L1 => ∃ q : Nat → Nat, L1 = LX4 cy h0 q) := by
  refine MC.of (own := RX4) rfl rfl (Nat.le_of_ble_eq_true rfl) ?_
  intro p e s m below meth c X hr hin hH ls hl
  obtain ⟨hx, hb, hml, hown, hts, hlk, hK, hB⟩ := id X
  have hin : meth.name = "<init>" := hin
  refine lv_aload_n hx hb dX4_init_0 rfl (lv_at hl 0 rfl) ?_
  refine W.objInit hx hb hown (hts _ q65) (hts _ q10) (hts _ q11) rfl (by rw [hml]; exact hl.1) rfl dX4_init_1 (Nat.le_of_ble_eq_true rfl) (Nat.le_of_ble_eq_true rfl) ?_
  refine W.eq (g2 := F0 m 4 ls []) rfl ?_
  refine lv_aload_n hx hb dX4_init_4 rfl (lv_at hl 0 rfl) ?_
  refine lv_bipush (v := (12 : Int32)) hx hb dX4_init_5 (by decide) ?_
  refine c_newa (N' := 12) X hH q51 (by decide) (by decide) (Nat.le_of_ble_eq_true rfl) (Nat.le_of_ble_eq_true rfl) (Nat.le_of_ble_eq_true rfl) dX4_init_7 (fun p1 H hN => ?_)
  replace hH : Hc D B0 s (wr ++ [(h0, .inr (4, [.null, .null, .null, .null, .int 0])), (p1, .inl (cy 0, 12, .inl (fun _ => 0)))]) H _ := hN
  clear hN
  refine c_putF (ci := 4) (C := RX4) (T := TX4) (N := 5) (ref := RX4) X hH hin inlX4 tyX4 tyX4_ok nmX4 0 rfl rfl 0 (by decide) q66 rfl rfl rfl (ty := .array .int) (by decide +kernel) rfl rfl (Nat.le_of_ble_eq_true rfl) dX4_init_9 (fun H locs hN => ?_)
  replace hH : Hc D B0 s (wr ++ [(h0, .inr (4, [.ref p1, .null, .null, .null, .int 0])), (p1, .inl (cy 0, 12, .inl (fun _ => 0)))]) H _ := hN
  clear hN
  refine lv_aload_n hx hb dX4_init_12 rfl (lv_at hl 0 rfl) ?_
  refine lv_bipush (v := (12 : Int32)) hx hb dX4_init_13 (by decide) ?_
  refine c_newa (N' := 12) X hH q51 (by decide) (by decide) (Nat.le_of_ble_eq_true rfl) (Nat.le_of_ble_eq_true rfl) (Nat.le_of_ble_eq_true rfl) dX4_init_15 (fun p2 H hN => ?_)
  replace hH : Hc D B0 s (wr ++ [(h0, .inr (4, [.ref p1, .null, .null, .null, .int 0])), (p1, .inl (cy 0, 12, .inl (fun _ => 0))), (p2, .inl (cy 0, 12, .inl (fun _ => 0)))]) H _ := hN
  clear hN
  refine c_putF (ci := 4) (C := RX4) (T := TX4) (N := 5) (ref := RX4) X hH hin inlX4 tyX4 tyX4_ok nmX4 0 rfl rfl 1 (by decide) q67 rfl rfl rfl (ty := .array .int) (by decide +kernel) rfl rfl (Nat.le_of_ble_eq_true rfl) dX4_init_17 (fun H locs hN => ?_)
  replace hH : Hc D B0 s (wr ++ [(h0, .inr (4, [.ref p1, .ref p2, .null, .null, .int 0])), (p1, .inl (cy 0, 12, .inl (fun _ => 0))), (p2, .inl (cy 0, 12, .inl (fun _ => 0)))]) H _ := hN
  clear hN
  refine lv_aload_n hx hb dX4_init_20 rfl (lv_at hl 0 rfl) ?_
  refine lv_bipush (v := (36 : Int32)) hx hb dX4_init_21 (by decide) ?_
  refine c_newa (N' := 36) X hH q51 (by decide) (by decide) (Nat.le_of_ble_eq_true rfl) (Nat.le_of_ble_eq_true rfl) (Nat.le_of_ble_eq_true rfl) dX4_init_23 (fun p3 H hN => ?_)
  replace hH : Hc D B0 s (wr ++ [(h0, .inr (4, [.ref p1, .ref p2, .null, .null, .int 0])), (p1, .inl (cy 0, 12, .inl (fun _ => 0))), (p2, .inl (cy 0, 12, .inl (fun _ => 0))), (p3, .inl (cy 0, 36, .inl (fun _ => 0)))]) H _ := hN
  clear hN
  refine c_putF (ci := 4) (C := RX4) (T := TX4) (N := 5) (ref := RX4) X hH hin inlX4 tyX4 tyX4_ok nmX4 0 rfl rfl 2 (by decide) q68 rfl rfl rfl (ty := .array .int) (by decide +kernel) rfl rfl (Nat.le_of_ble_eq_true rfl) dX4_init_25 (fun H locs hN => ?_)
  replace hH : Hc D B0 s (wr ++ [(h0, .inr (4, [.ref p1, .ref p2, .ref p3, .null, .int 0])), (p1, .inl (cy 0, 12, .inl (fun _ => 0))), (p2, .inl (cy 0, 12, .inl (fun _ => 0))), (p3, .inl (cy 0, 36, .inl (fun _ => 0)))]) H _ := hN
  clear hN
  refine lv_aload_n hx hb dX4_init_28 rfl (lv_at hl 0 rfl) ?_
  refine lv_bipush (v := (36 : Int32)) hx hb dX4_init_29 (by decide) ?_
  refine c_newa (N' := 36) X hH q51 (by decide) (by decide) (Nat.le_of_ble_eq_true rfl) (Nat.le_of_ble_eq_true rfl) (Nat.le_of_ble_eq_true rfl) dX4_init_31 (fun p4 H hN => ?_)
  replace hH : Hc D B0 s (wr ++ [(h0, .inr (4, [.ref p1, .ref p2, .ref p3, .null, .int 0])), (p1, .inl (cy 0, 12, .inl (fun _ => 0))), (p2, .inl (cy 0, 12, .inl (fun _ => 0))), (p3, .inl (cy 0, 36, .inl (fun _ => 0))), (p4, .inl (cy 0, 36, .inl (fun _ => 0)))]) H _ := hN
  clear hN
  refine c_putF (ci := 4) (C := RX4) (T := TX4) (N := 5) (ref := RX4) X hH hin inlX4 tyX4 tyX4_ok nmX4 0 rfl rfl 3 (by decide) q69 rfl rfl rfl (ty := .array .int) (by decide +kernel) rfl rfl (Nat.le_of_ble_eq_true rfl) dX4_init_33 (fun H locs hN => ?_)
  replace hH : Hc D B0 s (wr ++ [(h0, .inr (4, [.ref p1, .ref p2, .ref p3, .ref p4, .int 0])), (p1, .inl (cy 0, 12, .inl (fun _ => 0))), (p2, .inl (cy 0, 12, .inl (fun _ => 0))), (p3, .inl (cy 0, 36, .inl (fun _ => 0))), (p4, .inl (cy 0, 36, .inl (fun _ => 0)))]) H _ := hN
  clear hN
  refine lv_aload_n hx hb dX4_init_36 rfl (lv_at hl 0 rfl) ?_
  refine lv_iconst (v := (0 : Int32)) hx hb dX4_init_37 (by decide) ?_
  refine c_put (ci := 4) (C := RX4) (T := TX4) (N := 5) (ref := RX4) X hH inlX4 tyX4 tyX4_ok nmX4 0 rfl rfl 4 (by decide) q70 rfl rfl (ty := .int) (by decide +kernel) rfl rfl (Nat.le_of_ble_eq_true rfl) dX4_init_38 (fun H locs hN => ?_)
  replace hH : Hc D B0 s (wr ++ [(h0, .inr (4, [.ref p1, .ref p2, .ref p3, .ref p4, .int (0 : Int32)])), (p1, .inl (cy 0, 12, .inl (fun _ => 0))), (p2, .inl (cy 0, 12, .inl (fun _ => 0))), (p3, .inl (cy 0, 36, .inl (fun _ => 0))), (p4, .inl (cy 0, 36, .inl (fun _ => 0)))]) H _ := hN
  clear hN
  exact c_ret X hr hH ⟨fun k => match k with | 0 => p1 | 1 => p2 | 2 => p3 | 3 => p4 | _ => 0, rfl⟩ dX4_init_41
theorem nd_X6_init : yX6_init.cls ≠ "java/lang/invoke/MethodHandle" ∧ yX6_init.cls ≠ "java/lang/invoke/VarHandle" ∧ (parseMethodDescriptor yX6_init.desc).map (fun d => d.parameters.length) = some 0 := by decide +kernel
def LX6 (cy : Nat → ClassId) (h0 : Nat) (q : Nat → Nat) : va_W := [(h0, .inr (6, [.ref (q 0), .ref (q 1), .ref (q 2), .int (0 : Int32)])), ((q 0), .inl (cy 0, 8, .inl (fun _ => 0))), ((q 1), .inl (cy 0, 8, .inl (fun _ => 0))), ((q 2), .inl (cy 0, 8, .inl (fun _ => 0)))]
set_option maxHeartbeats 4000000 in
set_option maxRecDepth 100000 in
theorem mc_X6 (l : Launch) (D : va_G) (cy : Nat → ClassId) (B0 : Nat) (wr : va_W) (h0 : Nat) : MC l yX6_init cX6_init 1 1 3 24 D cy B0 [.ref h0] wr [(h0, .inr (6, [.null, .null, .null, .int 0]))] (fun L1 => ∃ q : Nat → Nat, L1 = LX6 cy h0 q) := by
  refine MC.of (own := RX6) rfl rfl (Nat.le_of_ble_eq_true rfl) ?_
  intro p e s m below meth c X hr hin hH ls hl
  obtain ⟨hx, hb, hml, hown, hts, hlk, hK, hB⟩ := id X
  have hin : meth.name = "<init>" := hin
  refine lv_aload_n hx hb dX6_init_0 rfl (lv_at hl 0 rfl) ?_
  refine W.objInit hx hb hown (hts _ q111) (hts _ q10) (hts _ q11) rfl (by rw [hml]; exact hl.1) rfl dX6_init_1 (Nat.le_of_ble_eq_true rfl) (Nat.le_of_ble_eq_true rfl) ?_
  refine W.eq (g2 := F0 m 4 ls []) rfl ?_
  refine lv_aload_n hx hb dX6_init_4 rfl (lv_at hl 0 rfl) ?_
  refine lv_bipush (v := (8 : Int32)) hx hb dX6_init_5 (by decide) ?_
  refine c_newa (N' := 8) X hH q51 (by decide) (by decide) (Nat.le_of_ble_eq_true rfl) (Nat.le_of_ble_eq_true rfl) (Nat.le_of_ble_eq_true rfl) dX6_init_7 (fun p1 H hN => ?_)
  replace hH : Hc D B0 s (wr ++ [(h0, .inr (6, [.null, .null, .null, .int 0])), (p1, .inl (cy 0, 8, .inl (fun _ => 0)))]) H _ := hN
  clear hN
  refine c_putF (ci := 6) (C := RX6) (T := TX6) (N := 4) (ref := RX6) X hH hin inlX6 tyX6 tyX6_ok nmX6 0 rfl rfl 0 (by decide) q112 rfl rfl rfl (ty := .array .int) (by decide +kernel) rfl rfl (Nat.le_of_ble_eq_true rfl) dX6_init_9 (fun H locs hN => ?_)
  replace hH : Hc D B0 s (wr ++ [(h0, .inr (6, [.ref p1, .null, .null, .int 0])), (p1, .inl (cy 0, 8, .inl (fun _ => 0)))]) H _ := hN
  clear hN
  refine lv_aload_n hx hb dX6_init_12 rfl (lv_at hl 0 rfl) ?_
  refine lv_bipush (v := (8 : Int32)) hx hb dX6_init_13 (by decide) ?_
  refine c_newa (N' := 8) X hH q51 (by decide) (by decide) (Nat.le_of_ble_eq_true rfl) (Nat.le_of_ble_eq_true rfl) (Nat.le_of_ble_eq_true rfl) dX6_init_15 (fun p2 H hN => ?_)
  replace hH : Hc D B0 s (wr ++ [(h0, .inr (6, [.ref p1, .null, .null, .int 0])), (p1, .inl (cy 0, 8, .inl (fun _ => 0))), (p2, .inl (cy 0, 8, .inl (fun _ => 0)))]) H _ := hN
  clear hN
  refine c_putF (ci := 6) (C := RX6) (T := TX6) (N := 4) (ref := RX6) X hH hin inlX6 tyX6 tyX6_ok nmX6 0 rfl rfl 1 (by decide) q113 rfl rfl rfl (ty := .array .int) (by decide +kernel) rfl rfl (Nat.le_of_ble_eq_true rfl) dX6_init_17 (fun H locs hN => ?_)
  replace hH : Hc D B0 s (wr ++ [(h0, .inr (6, [.ref p1, .ref p2, .null, .int 0])), (p1, .inl (cy 0, 8, .inl (fun _ => 0))), (p2, .inl (cy 0, 8, .inl (fun _ => 0)))]) H _ := hN
  clear hN
  refine lv_aload_n hx hb dX6_init_20 rfl (lv_at hl 0 rfl) ?_
  refine lv_bipush (v := (8 : Int32)) hx hb dX6_init_21 (by decide) ?_
  refine c_newa (N' := 8) X hH q51 (by decide) (by decide) (Nat.le_of_ble_eq_true rfl) (Nat.le_of_ble_eq_true rfl) (Nat.le_of_ble_eq_true rfl) dX6_init_23 (fun p3 H hN => ?_)
  replace hH : Hc D B0 s (wr ++ [(h0, .inr (6, [.ref p1, .ref p2, .null, .int 0])), (p1, .inl (cy 0, 8, .inl (fun _ => 0))), (p2, .inl (cy 0, 8, .inl (fun _ => 0))), (p3, .inl (cy 0, 8, .inl (fun _ => 0)))]) H _ := hN
  clear hN
  refine c_putF (ci := 6) (C := RX6) (T := TX6) (N := 4) (ref := RX6) X hH hin inlX6 tyX6 tyX6_ok nmX6 0 rfl rfl 2 (by decide) q114 rfl rfl rfl (ty := .array .int) (by decide +kernel) rfl rfl (Nat.le_of_ble_eq_true rfl) dX6_init_25 (fun H locs hN => ?_)
  replace hH : Hc D B0 s (wr ++ [(h0, .inr (6, [.ref p1, .ref p2, .ref p3, .int 0])), (p1, .inl (cy 0, 8, .inl (fun _ => 0))), (p2, .inl (cy 0, 8, .inl (fun _ => 0))), (p3, .inl (cy 0, 8, .inl (fun _ => 0)))]) H _ := hN
  clear hN
  refine lv_aload_n hx hb dX6_init_28 rfl (lv_at hl 0 rfl) ?_
  refine lv_iconst (v := (0 : Int32)) hx hb dX6_init_29 (by decide) ?_
  refine c_put (ci := 6) (C := RX6) (T := TX6) (N := 4) (ref := RX6) X hH inlX6 tyX6 tyX6_ok nmX6 0 rfl rfl 3 (by decide) q115 rfl rfl (ty := .int) (by decide +kernel) rfl rfl (Nat.le_of_ble_eq_true rfl) dX6_init_30 (fun H locs hN => ?_)
  replace hH : Hc D B0 s (wr ++ [(h0, .inr (6, [.ref p1, .ref p2, .ref p3, .int (0 : Int32)])), (p1, .inl (cy 0, 8, .inl (fun _ => 0))), (p2, .inl (cy 0, 8, .inl (fun _ => 0))), (p3, .inl (cy 0, 8, .inl (fun _ => 0)))]) H _ := hN
  clear hN
  exact c_ret X hr hH ⟨fun k => match k with | 0 => p1 | 1 => p2 | 2 => p3 | _ => 0, rfl⟩ dX6_init_33
theorem nd_X5_init : yX5_init.cls ≠ "java/lang/invoke/MethodHandle" ∧ yX5_init.cls ≠ "java/lang/invoke/VarHandle" ∧ (parseMethodDescriptor yX5_init.desc).map (fun d => d.parameters.length) = some 0 := by decide +kernel
def LX5 (cy : Nat → ClassId) (h0 : Nat) (q : Nat → Nat) : va_W := [(h0, .inr (5, [.ref (q 0), .ref (q 5), .ref (q 6), .int (0 : Int32)])), ((q 0), .inl (cy 2, 4, .inr (.inr (.inr (.inr (va_up (va_up (va_up (va_up (fun _ => none) 0 (some (q 1))) 1 (some (q 2))) 2 (some (q 3))) 3 (some (q 4)))))))), ((q 1), .inl (cy 0, 60, .inl (fun _ => 0))), ((q 2), .inl (cy 0, 60, .inl (fun _ => 0))), ((q 3), .inl (cy 0, 60, .inl (fun _ => 0))), ((q 4), .inl (cy 0, 60, .inl (fun _ => 0))), ((q 5), .inl (cy 0, 4, .inl (fun _ => 0))), ((q 6), .inl (cy 0, 4, .inl (upd (upd (upd (upd (fun _ => 0) (cl (0 : Int32)) (-1 : Int32)) (cl (1 : Int32)) (-1 : Int32)) (cl (2 : Int32)) (-1 : Int32)) (cl (3 : Int32)) (-1 : Int32))))]
set_option maxHeartbeats 4000000 in
set_option maxRecDepth 100000 in
theorem mc_X5 (l : Launch) (D : va_G) (cy : Nat → ClassId) (B0 : Nat) (wr : va_W) (h0 : Nat) : MC l yX5_init cX5_init 1 1 7 252 D cy B0 [.ref h0] wr [(h0, .inr (5, [.null, .null, .null, .int 0]))] (fun L1 => ∃ q : Nat → Nat, L1 = LX5 cy h0 q) := by
  refine MC.of (own := RX5) rfl rfl (Nat.le_of_ble_eq_true rfl) ?_
  intro p e s m below meth c X hr hin hH ls hl
  obtain ⟨hx, hb, hml, hown, hts, hlk, hK, hB⟩ := id X
  have hin : meth.name = "<init>" := hin
  refine lv_aload_n hx hb dX5_init_0 rfl (lv_at hl 0 rfl) ?_
  refine W.objInit hx hb hown (hts _ q118) (hts _ q10) (hts _ q11) rfl (by rw [hml]; exact hl.1) rfl dX5_init_1 (Nat.le_of_ble_eq_true rfl) (Nat.le_of_ble_eq_true rfl) ?_
  refine W.eq (g2 := F0 m 4 ls []) rfl ?_
  refine lv_aload_n hx hb dX5_init_4 rfl (lv_at hl 0 rfl) ?_
  refine lv_iconst (v := (4 : Int32)) hx hb dX5_init_5 (by decide) ?_
  refine lv_bipush (v := (60 : Int32)) hx hb dX5_init_6 (by decide) ?_
  refine c_mna (N' := 4) (K' := 60) X hH q119 q51 (by decide) (by decide) (by decide) (by decide) (Nat.le_of_ble_eq_true rfl) (Nat.le_of_ble_eq_true rfl) (Nat.le_of_ble_eq_true rfl) (Nat.le_of_ble_eq_true rfl) (Nat.le_of_ble_eq_true rfl) dX5_init_8 (fun p1 r2 H hN => ?_)
  replace hH : Hc D B0 s (wr ++ [(h0, .inr (5, [.null, .null, .null, .int 0])), (p1, .inl (cy 2, 4, .inr (.inr (.inr (.inr (fun i => if i < 4 then some (r2 i) else none)))))), ((r2 0), .inl (cy 0, 60, .inl (fun _ => 0))), ((r2 1), .inl (cy 0, 60, .inl (fun _ => 0))), ((r2 2), .inl (cy 0, 60, .inl (fun _ => 0))), ((r2 3), .inl (cy 0, 60, .inl (fun _ => 0)))]) H _ := hN
  clear hN
  have hN := c_refeq hH 1 (f' := (va_up (va_up (va_up (va_up (fun _ => none) 0 (some (r2 0))) 1 (some (r2 1))) 2 (some (r2 2))) 3 (some (r2 3)))) rfl (fun i hi => by rcases (show i = 0 ∨ i = 1 ∨ i = 2 ∨ i = 3 by omega) with rfl | rfl | rfl | rfl <;> simp [va_up])
  replace hH : Hc D B0 s (wr ++ [(h0, .inr (5, [.null, .null, .null, .int 0])), (p1, .inl (cy 2, 4, .inr (.inr (.inr (.inr (va_up (va_up (va_up (va_up (fun _ => none) 0 (some (r2 0))) 1 (some (r2 1))) 2 (some (r2 2))) 3 (some (r2 3)))))))), ((r2 0), .inl (cy 0, 60, .inl (fun _ => 0))), ((r2 1), .inl (cy 0, 60, .inl (fun _ => 0))), ((r2 2), .inl (cy 0, 60, .inl (fun _ => 0))), ((r2 3), .inl (cy 0, 60, .inl (fun _ => 0)))]) H _ := hN
  clear hN
  refine c_putF (ci := 5) (C := RX5) (T := TX5) (N := 4) (ref := RX5) X hH hin inlX5 tyX5 tyX5_ok nmX5 0 rfl rfl 0 (by decide) q120 rfl rfl rfl (ty := .array (.array .int)) (by decide +kernel) rfl rfl (Nat.le_of_ble_eq_true rfl) dX5_init_12 (fun H locs hN => ?_)
  replace hH : Hc D B0 s (wr ++ [(h0, .inr (5, [.ref p1, .null, .null, .int 0])), (p1, .inl (cy 2, 4, .inr (.inr (.inr (.inr (va_up (va_up (va_up (va_up (fun _ => none) 0 (some (r2 0))) 1 (some (r2 1))) 2 (some (r2 2))) 3 (some (r2 3)))))))), ((r2 0), .inl (cy 0, 60, .inl (fun _ => 0))), ((r2 1), .inl (cy 0, 60, .inl (fun _ => 0))), ((r2 2), .inl (cy 0, 60, .inl (fun _ => 0))), ((r2 3), .inl (cy 0, 60, .inl (fun _ => 0)))]) H _ := hN
  clear hN
  refine lv_aload_n hx hb dX5_init_15 rfl (lv_at hl 0 rfl) ?_
  refine lv_iconst (v := (4 : Int32)) hx hb dX5_init_16 (by decide) ?_
  refine c_newa (N' := 4) X hH q51 (by decide) (by decide) (Nat.le_of_ble_eq_true rfl) (Nat.le_of_ble_eq_true rfl) (Nat.le_of_ble_eq_true rfl) dX5_init_17 (fun p3 H hN => ?_)
  replace hH : Hc D B0 s (wr ++ [(h0, .inr (5, [.ref p1, .null, .null, .int 0])), (p1, .inl (cy 2, 4, .inr (.inr (.inr (.inr (va_up (va_up (va_up (va_up (fun _ => none) 0 (some (r2 0))) 1 (some (r2 1))) 2 (some (r2 2))) 3 (some (r2 3)))))))), ((r2 0), .inl (cy 0, 60, .inl (fun _ => 0))), ((r2 1), .inl (cy 0, 60, .inl (fun _ => 0))), ((r2 2), .inl (cy 0, 60, .inl (fun _ => 0))), ((r2 3), .inl (cy 0, 60, .inl (fun _ => 0))), (p3, .inl (cy 0, 4, .inl (fun _ => 0)))]) H _ := hN
  clear hN
  refine c_putF (ci := 5) (C := RX5) (T := TX5) (N := 4) (ref := RX5) X hH hin inlX5 tyX5 tyX5_ok nmX5 0 rfl rfl 1 (by decide) q121 rfl rfl rfl (ty := .array .int) (by decide +kernel) rfl rfl (Nat.le_of_ble_eq_true rfl) dX5_init_19 (fun H locs hN => ?_)
  replace hH : Hc D B0 s (wr ++ [(h0, .inr (5, [.ref p1, .ref p3, .null, .int 0])), (p1, .inl (cy 2, 4, .inr (.inr (.inr (.inr (va_up (va_up (va_up (va_up (fun _ => none) 0 (some (r2 0))) 1 (some (r2 1))) 2 (some (r2 2))) 3 (some (r2 3)))))))), ((r2 0), .inl (cy 0, 60, .inl (fun _ => 0))), ((r2 1), .inl (cy 0, 60, .inl (fun _ => 0))), ((r2 2), .inl (cy 0, 60, .inl (fun _ => 0))), ((r2 3), .inl (cy 0, 60, .inl (fun _ => 0))), (p3, .inl (cy 0, 4, .inl (fun _ => 0)))]) H _ := hN
  clear hN
  refine lv_aload_n hx hb dX5_init_22 rfl (lv_at hl 0 rfl) ?_
  refine lv_iconst (v := (4 : Int32)) hx hb dX5_init_23 (by decide) ?_
  refine c_newa (N' := 4) X hH q51 (by decide) (by decide) (Nat.le_of_ble_eq_true rfl) (Nat.le_of_ble_eq_true rfl) (Nat.le_of_ble_eq_true rfl) dX5_init_24 (fun p4 H hN => ?_)
  replace hH : Hc D B0 s (wr ++ [(h0, .inr (5, [.ref p1, .ref p3, .null, .int 0])), (p1, .inl (cy 2, 4, .inr (.inr (.inr (.inr (va_up (va_up (va_up (va_up (fun _ => none) 0 (some (r2 0))) 1 (some (r2 1))) 2 (some (r2 2))) 3 (some (r2 3)))))))), ((r2 0), .inl (cy 0, 60, .inl (fun _ => 0))), ((r2 1), .inl (cy 0, 60, .inl (fun _ => 0))), ((r2 2), .inl (cy 0, 60, .inl (fun _ => 0))), ((r2 3), .inl (cy 0, 60, .inl (fun _ => 0))), (p3, .inl (cy 0, 4, .inl (fun _ => 0))), (p4, .inl (cy 0, 4, .inl (fun _ => 0)))]) H _ := hN
  clear hN
  refine lv_dup hx hb dX5_init_26 rfl ?_
  refine lv_iconst (v := (0 : Int32)) hx hb dX5_init_27 (by decide) ?_
  refine lv_iconst (v := (-1 : Int32)) hx hb dX5_init_28 (by decide) ?_
  refine c_ast (i := (0 : Int32)) X hH 7 rfl (vi_in (by decide)) dX5_init_29 (fun H locs hN => ?_)
  replace hH : Hc D B0 s (wr ++ [(h0, .inr (5, [.ref p1, .ref p3, .null, .int 0])), (p1, .inl (cy 2, 4, .inr (.inr (.inr (.inr (va_up (va_up (va_up (va_up (fun _ => none) 0 (some (r2 0))) 1 (some (r2 1))) 2 (some (r2 2))) 3 (some (r2 3)))))))), ((r2 0), .inl (cy 0, 60, .inl (fun _ => 0))), ((r2 1), .inl (cy 0, 60, .inl (fun _ => 0))), ((r2 2), .inl (cy 0, 60, .inl (fun _ => 0))), ((r2 3), .inl (cy 0, 60, .inl (fun _ => 0))), (p3, .inl (cy 0, 4, .inl (fun _ => 0))), (p4, .inl (cy 0, 4, .inl (upd (fun _ => 0) (cl (0 : Int32)) (-1 : Int32))))]) H _ := hN
  clear hN
  refine lv_dup hx hb dX5_init_30 rfl ?_
  refine lv_iconst (v := (1 : Int32)) hx hb dX5_init_31 (by decide) ?_
  refine lv_iconst (v := (-1 : Int32)) hx hb dX5_init_32 (by decide) ?_
  refine c_ast (i := (1 : Int32)) X hH 7 rfl (vi_in (by decide)) dX5_init_33 (fun H locs hN => ?_)
  replace hH : Hc D B0 s (wr ++ [(h0, .inr (5, [.ref p1, .ref p3, .null, .int 0])), (p1, .inl (cy 2, 4, .inr (.inr (.inr (.inr (va_up (va_up (va_up (va_up (fun _ => none) 0 (some (r2 0))) 1 (some (r2 1))) 2 (some (r2 2))) 3 (some (r2 3)))))))), ((r2 0), .inl (cy 0, 60, .inl (fun _ => 0))), ((r2 1), .inl (cy 0, 60, .inl (fun _ => 0))), ((r2 2), .inl (cy 0, 60, .inl (fun _ => 0))), ((r2 3), .inl (cy 0, 60, .inl (fun _ => 0))), (p3, .inl (cy 0, 4, .inl (fun _ => 0))), (p4, .inl (cy 0, 4, .inl (upd (upd (fun _ => 0) (cl (0 : Int32)) (-1 : Int32)) (cl (1 : Int32)) (-1 : Int32))))]) H _ := hN
  clear hN
  refine lv_dup hx hb dX5_init_34 rfl ?_
  refine lv_iconst (v := (2 : Int32)) hx hb dX5_init_35 (by decide) ?_
  refine lv_iconst (v := (-1 : Int32)) hx hb dX5_init_36 (by decide) ?_
  refine c_ast (i := (2 : Int32)) X hH 7 rfl (vi_in (by decide)) dX5_init_37 (fun H locs hN => ?_)
  replace hH : Hc D B0 s (wr ++ [(h0, .inr (5, [.ref p1, .ref p3, .null, .int 0])), (p1, .inl (cy 2, 4, .inr (.inr (.inr (.inr (va_up (va_up (va_up (va_up (fun _ => none) 0 (some (r2 0))) 1 (some (r2 1))) 2 (some (r2 2))) 3 (some (r2 3)))))))), ((r2 0), .inl (cy 0, 60, .inl (fun _ => 0))), ((r2 1), .inl (cy 0, 60, .inl (fun _ => 0))), ((r2 2), .inl (cy 0, 60, .inl (fun _ => 0))), ((r2 3), .inl (cy 0, 60, .inl (fun _ => 0))), (p3, .inl (cy 0, 4, .inl (fun _ => 0))), (p4, .inl (cy 0, 4, .inl (upd (upd (upd (fun _ => 0) (cl (0 : Int32)) (-1 : Int32)) (cl (1 : Int32)) (-1 : Int32)) (cl (2 : Int32)) (-1 : Int32))))]) H _ := hN
  clear hN
  refine lv_dup hx hb dX5_init_38 rfl ?_
  refine lv_iconst (v := (3 : Int32)) hx hb dX5_init_39 (by decide) ?_
  refine lv_iconst (v := (-1 : Int32)) hx hb dX5_init_40 (by decide) ?_
  refine c_ast (i := (3 : Int32)) X hH 7 rfl (vi_in (by decide)) dX5_init_41 (fun H locs hN => ?_)
  replace hH : Hc D B0 s (wr ++ [(h0, .inr (5, [.ref p1, .ref p3, .null, .int 0])), (p1, .inl (cy 2, 4, .inr (.inr (.inr (.inr (va_up (va_up (va_up (va_up (fun _ => none) 0 (some (r2 0))) 1 (some (r2 1))) 2 (some (r2 2))) 3 (some (r2 3)))))))), ((r2 0), .inl (cy 0, 60, .inl (fun _ => 0))), ((r2 1), .inl (cy 0, 60, .inl (fun _ => 0))), ((r2 2), .inl (cy 0, 60, .inl (fun _ => 0))), ((r2 3), .inl (cy 0, 60, .inl (fun _ => 0))), (p3, .inl (cy 0, 4, .inl (fun _ => 0))), (p4, .inl (cy 0, 4, .inl (upd (upd (upd (upd (fun _ => 0) (cl (0 : Int32)) (-1 : Int32)) (cl (1 : Int32)) (-1 : Int32)) (cl (2 : Int32)) (-1 : Int32)) (cl (3 : Int32)) (-1 : Int32))))]) H _ := hN
  clear hN
  refine c_putF (ci := 5) (C := RX5) (T := TX5) (N := 4) (ref := RX5) X hH hin inlX5 tyX5 tyX5_ok nmX5 0 rfl rfl 2 (by decide) q122 rfl rfl rfl (ty := .array .int) (by decide +kernel) rfl rfl (Nat.le_of_ble_eq_true rfl) dX5_init_42 (fun H locs hN => ?_)
  replace hH : Hc D B0 s (wr ++ [(h0, .inr (5, [.ref p1, .ref p3, .ref p4, .int 0])), (p1, .inl (cy 2, 4, .inr (.inr (.inr (.inr (va_up (va_up (va_up (va_up (fun _ => none) 0 (some (r2 0))) 1 (some (r2 1))) 2 (some (r2 2))) 3 (some (r2 3)))))))), ((r2 0), .inl (cy 0, 60, .inl (fun _ => 0))), ((r2 1), .inl (cy 0, 60, .inl (fun _ => 0))), ((r2 2), .inl (cy 0, 60, .inl (fun _ => 0))), ((r2 3), .inl (cy 0, 60, .inl (fun _ => 0))), (p3, .inl (cy 0, 4, .inl (fun _ => 0))), (p4, .inl (cy 0, 4, .inl (upd (upd (upd (upd (fun _ => 0) (cl (0 : Int32)) (-1 : Int32)) (cl (1 : Int32)) (-1 : Int32)) (cl (2 : Int32)) (-1 : Int32)) (cl (3 : Int32)) (-1 : Int32))))]) H _ := hN
  clear hN
  refine lv_aload_n hx hb dX5_init_45 rfl (lv_at hl 0 rfl) ?_
  refine lv_iconst (v := (0 : Int32)) hx hb dX5_init_46 (by decide) ?_
  refine c_put (ci := 5) (C := RX5) (T := TX5) (N := 4) (ref := RX5) X hH inlX5 tyX5 tyX5_ok nmX5 0 rfl rfl 3 (by decide) q123 rfl rfl (ty := .int) (by decide +kernel) rfl rfl (Nat.le_of_ble_eq_true rfl) dX5_init_47 (fun H locs hN => ?_)
  replace hH : Hc D B0 s (wr ++ [(h0, .inr (5, [.ref p1, .ref p3, .ref p4, .int (0 : Int32)])), (p1, .inl (cy 2, 4, .inr (.inr (.inr (.inr (va_up (va_up (va_up (va_up (fun _ => none) 0 (some (r2 0))) 1 (some (r2 1))) 2 (some (r2 2))) 3 (some (r2 3)))))))), ((r2 0), .inl (cy 0, 60, .inl (fun _ => 0))), ((r2 1), .inl (cy 0, 60, .inl (fun _ => 0))), ((r2 2), .inl (cy 0, 60, .inl (fun _ => 0))), ((r2 3), .inl (cy 0, 60, .inl (fun _ => 0))), (p3, .inl (cy 0, 4, .inl (fun _ => 0))), (p4, .inl (cy 0, 4, .inl (upd (upd (upd (upd (fun _ => 0) (cl (0 : Int32)) (-1 : Int32)) (cl (1 : Int32)) (-1 : Int32)) (cl (2 : Int32)) (-1 : Int32)) (cl (3 : Int32)) (-1 : Int32))))]) H _ := hN
  clear hN
  exact c_ret X hr hH ⟨fun k => match k with | 0 => p1 | 1 => (r2 0) | 2 => (r2 1) | 3 => (r2 2) | 4 => (r2 3) | 5 => p3 | 6 => p4 | _ => 0, rfl⟩ dX5_init_50
theorem nd_X2_init : yX2_init.cls ≠ "java/lang/invoke/MethodHandle" ∧ yX2_init.cls ≠ "java/lang/invoke/VarHandle" ∧ (parseMethodDescriptor yX2_init.desc).map (fun d => d.parameters.length) = some 0 := by decide +kernel
def LX2 (cy : Nat → ClassId) (h0 : Nat) (q : Nat → Nat) : va_W := [(h0, .inr (2, [.ref (q 0), .ref (q 5), .ref (q 6), .int (-1 : Int32), .int (-1 : Int32)])), ((q 0), .inr (8, [.ref (q 1), .ref (q 2), .ref (q 3), .ref (q 4), .int (0 : Int32)])), ((q 1), .inl (cy 0, 64, .inl (fun _ => 0))), ((q 2), .inl (cy 0, 8, .inl (fun _ => 0))), ((q 3), .inl (cy 0, 8, .inl (fun _ => 0))), ((q 4), .inl (cy 0, 8, .inl (fun _ => 0))), ((q 5), .inl (cy 0, 3, .inl (fun _ => 0))), ((q 6), .inl (cy 0, 4, .inl (fun _ => 0)))]
set_option maxHeartbeats 4000000 in
set_option maxRecDepth 100000 in
theorem mc_X2 (l : Launch) (D : va_G) (cy : Nat → ClassId) (B0 : Nat) (wr : va_W) (h0 : Nat) : MC l yX2_init cX2_init 1 2 7 100 D cy B0 [.ref h0] wr [(h0, .inr (2, [.null, .null, .null, .int 0, .int 0]))] (fun L1 => ∃ q : Nat → Nat, L1 = LX2 cy h0 q) := by
  refine MC.of (own := RX2) rfl rfl (Nat.le_of_ble_eq_true rfl) ?_
  intro p e s m below meth c X hr hin hH ls hl
  obtain ⟨hx, hb, hml, hown, hts, hlk, hK, hB⟩ := id X
  have hin : meth.name = "<init>" := hin
  refine lv_aload_n hx hb dX2_init_0 rfl (lv_at hl 0 rfl) ?_
  refine W.objInit hx hb hown (hts _ q93) (hts _ q10) (hts _ q11) rfl (by rw [hml]; exact hl.1) rfl dX2_init_1 (Nat.le_of_ble_eq_true rfl) (Nat.le_of_ble_eq_true rfl) ?_
  refine W.eq (g2 := F0 m 4 ls []) rfl ?_
  refine lv_aload_n hx hb dX2_init_4 rfl (lv_at hl 0 rfl) ?_
  refine c_new (ci := 8) (fs := [.null, .null, .null, .null, .int 0]) (C := RX9) (T := TX9) (N := 5) X hH inlX9 tyX9 tyX9_ok q94 q79 q80 rfl (fun j hj => by rcases (show j = 0 ∨ j = 1 ∨ j = 2 ∨ j = 3 ∨ j = 4 by omega) with rfl | rfl | rfl | rfl | rfl <;> rfl) (Nat.le_of_ble_eq_true rfl) (Nat.le_of_ble_eq_true rfl) dX2_init_5 (fun p1 H hN => ?_)
  replace hH : Hc D B0 s (wr ++ [(h0, .inr (2, [.null, .null, .null, .int 0, .int 0])), (p1, .inr (8, [.null, .null, .null, .null, .int 0]))]) H _ := hN
  clear hN
  refine lv_dup hx hb dX2_init_8 rfl ?_
  refine c_callIN (L' := [(h0, .inr (2, [.null, .null, .null, .int 0, .int 0]))]) (L0 := [(p1, .inr (8, [.null, .null, .null, .null, .int 0]))]) (As := []) X hl.1 hH (mc_X9 l D cy B0 _ p1 ) q84 q80 nq_X2_11 q83 rfl nd_X9_init rfl ⟨(Nat.le_of_ble_eq_true rfl), (Nat.le_of_ble_eq_true rfl)⟩ ⟨(Nat.le_of_ble_eq_true rfl), (Nat.le_of_ble_eq_true rfl)⟩ (Nat.le_of_ble_eq_true rfl) dX2_init_9 (fun L1 H locs hp hN => ?_)
  obtain ⟨u2, rfl⟩ := hp
  replace hH : Hc D B0 s (wr ++ [(h0, .inr (2, [.null, .null, .null, .int 0, .int 0])), (p1, .inr (8, [.ref (u2 0), .ref (u2 1), .ref (u2 2), .ref (u2 3), .int (0 : Int32)])), ((u2 0), .inl (cy 0, 64, .inl (fun _ => 0))), ((u2 1), .inl (cy 0, 8, .inl (fun _ => 0))), ((u2 2), .inl (cy 0, 8, .inl (fun _ => 0))), ((u2 3), .inl (cy 0, 8, .inl (fun _ => 0)))]) H _ := hN
  clear hN
  refine c_putF (ci := 2) (C := RX2) (T := TX2) (N := 5) (ref := RX2) X hH hin inlX2 tyX2 tyX2_ok nmX2 0 rfl rfl 0 (by decide) q95 rfl rfl rfl (ty := .object "WallTurns$Wall") (by decide +kernel) rfl rfl (Nat.le_of_ble_eq_true rfl) dX2_init_12 (fun H locs hN => ?_)
  replace hH : Hc D B0 s (wr ++ [(h0, .inr (2, [.ref p1, .null, .null, .int 0, .int 0])), (p1, .inr (8, [.ref (u2 0), .ref (u2 1), .ref (u2 2), .ref (u2 3), .int (0 : Int32)])), ((u2 0), .inl (cy 0, 64, .inl (fun _ => 0))), ((u2 1), .inl (cy 0, 8, .inl (fun _ => 0))), ((u2 2), .inl (cy 0, 8, .inl (fun _ => 0))), ((u2 3), .inl (cy 0, 8, .inl (fun _ => 0)))]) H _ := hN
  clear hN
  refine lv_aload_n hx hb dX2_init_15 rfl (lv_at hl 0 rfl) ?_
  refine lv_iconst (v := (3 : Int32)) hx hb dX2_init_16 (by decide) ?_
  refine c_newa (N' := 3) X hH q51 (by decide) (by decide) (Nat.le_of_ble_eq_true rfl) (Nat.le_of_ble_eq_true rfl) (Nat.le_of_ble_eq_true rfl) dX2_init_17 (fun p3 H hN => ?_)
  replace hH : Hc D B0 s (wr ++ [(h0, .inr (2, [.ref p1, .null, .null, .int 0, .int 0])), (p1, .inr (8, [.ref (u2 0), .ref (u2 1), .ref (u2 2), .ref (u2 3), .int (0 : Int32)])), ((u2 0), .inl (cy 0, 64, .inl (fun _ => 0))), ((u2 1), .inl (cy 0, 8, .inl (fun _ => 0))), ((u2 2), .inl (cy 0, 8, .inl (fun _ => 0))), ((u2 3), .inl (cy 0, 8, .inl (fun _ => 0))), (p3, .inl (cy 0, 3, .inl (fun _ => 0)))]) H _ := hN
  clear hN
  refine c_putF (ci := 2) (C := RX2) (T := TX2) (N := 5) (ref := RX2) X hH hin inlX2 tyX2 tyX2_ok nmX2 0 rfl rfl 1 (by decide) q96 rfl rfl rfl (ty := .array .int) (by decide +kernel) rfl rfl (Nat.le_of_ble_eq_true rfl) dX2_init_19 (fun H locs hN => ?_)
  replace hH : Hc D B0 s (wr ++ [(h0, .inr (2, [.ref p1, .ref p3, .null, .int 0, .int 0])), (p1, .inr (8, [.ref (u2 0), .ref (u2 1), .ref (u2 2), .ref (u2 3), .int (0 : Int32)])), ((u2 0), .inl (cy 0, 64, .inl (fun _ => 0))), ((u2 1), .inl (cy 0, 8, .inl (fun _ => 0))), ((u2 2), .inl (cy 0, 8, .inl (fun _ => 0))), ((u2 3), .inl (cy 0, 8, .inl (fun _ => 0))), (p3, .inl (cy 0, 3, .inl (fun _ => 0)))]) H _ := hN
  clear hN
  refine lv_aload_n hx hb dX2_init_22 rfl (lv_at hl 0 rfl) ?_
  refine lv_iconst (v := (4 : Int32)) hx hb dX2_init_23 (by decide) ?_
  refine c_newa (N' := 4) X hH q51 (by decide) (by decide) (Nat.le_of_ble_eq_true rfl) (Nat.le_of_ble_eq_true rfl) (Nat.le_of_ble_eq_true rfl) dX2_init_24 (fun p4 H hN => ?_)
  replace hH : Hc D B0 s (wr ++ [(h0, .inr (2, [.ref p1, .ref p3, .null, .int 0, .int 0])), (p1, .inr (8, [.ref (u2 0), .ref (u2 1), .ref (u2 2), .ref (u2 3), .int (0 : Int32)])), ((u2 0), .inl (cy 0, 64, .inl (fun _ => 0))), ((u2 1), .inl (cy 0, 8, .inl (fun _ => 0))), ((u2 2), .inl (cy 0, 8, .inl (fun _ => 0))), ((u2 3), .inl (cy 0, 8, .inl (fun _ => 0))), (p3, .inl (cy 0, 3, .inl (fun _ => 0))), (p4, .inl (cy 0, 4, .inl (fun _ => 0)))]) H _ := hN
  clear hN
  refine c_putF (ci := 2) (C := RX2) (T := TX2) (N := 5) (ref := RX2) X hH hin inlX2 tyX2 tyX2_ok nmX2 0 rfl rfl 2 (by decide) q97 rfl rfl rfl (ty := .array .int) (by decide +kernel) rfl rfl (Nat.le_of_ble_eq_true rfl) dX2_init_26 (fun H locs hN => ?_)
  replace hH : Hc D B0 s (wr ++ [(h0, .inr (2, [.ref p1, .ref p3, .ref p4, .int 0, .int 0])), (p1, .inr (8, [.ref (u2 0), .ref (u2 1), .ref (u2 2), .ref (u2 3), .int (0 : Int32)])), ((u2 0), .inl (cy 0, 64, .inl (fun _ => 0))), ((u2 1), .inl (cy 0, 8, .inl (fun _ => 0))), ((u2 2), .inl (cy 0, 8, .inl (fun _ => 0))), ((u2 3), .inl (cy 0, 8, .inl (fun _ => 0))), (p3, .inl (cy 0, 3, .inl (fun _ => 0))), (p4, .inl (cy 0, 4, .inl (fun _ => 0)))]) H _ := hN
  clear hN
  refine lv_aload_n hx hb dX2_init_29 rfl (lv_at hl 0 rfl) ?_
  refine lv_iconst (v := (-1 : Int32)) hx hb dX2_init_30 (by decide) ?_
  refine c_put (ci := 2) (C := RX2) (T := TX2) (N := 5) (ref := RX2) X hH inlX2 tyX2 tyX2_ok nmX2 0 rfl rfl 3 (by decide) q98 rfl rfl (ty := .int) (by decide +kernel) rfl rfl (Nat.le_of_ble_eq_true rfl) dX2_init_31 (fun H locs hN => ?_)
  replace hH : Hc D B0 s (wr ++ [(h0, .inr (2, [.ref p1, .ref p3, .ref p4, .int (-1 : Int32), .int 0])), (p1, .inr (8, [.ref (u2 0), .ref (u2 1), .ref (u2 2), .ref (u2 3), .int (0 : Int32)])), ((u2 0), .inl (cy 0, 64, .inl (fun _ => 0))), ((u2 1), .inl (cy 0, 8, .inl (fun _ => 0))), ((u2 2), .inl (cy 0, 8, .inl (fun _ => 0))), ((u2 3), .inl (cy 0, 8, .inl (fun _ => 0))), (p3, .inl (cy 0, 3, .inl (fun _ => 0))), (p4, .inl (cy 0, 4, .inl (fun _ => 0)))]) H _ := hN
  clear hN
  refine lv_aload_n hx hb dX2_init_34 rfl (lv_at hl 0 rfl) ?_
  refine lv_iconst (v := (-1 : Int32)) hx hb dX2_init_35 (by decide) ?_
  refine c_put (ci := 2) (C := RX2) (T := TX2) (N := 5) (ref := RX2) X hH inlX2 tyX2 tyX2_ok nmX2 0 rfl rfl 4 (by decide) q99 rfl rfl (ty := .int) (by decide +kernel) rfl rfl (Nat.le_of_ble_eq_true rfl) dX2_init_36 (fun H locs hN => ?_)
  replace hH : Hc D B0 s (wr ++ [(h0, .inr (2, [.ref p1, .ref p3, .ref p4, .int (-1 : Int32), .int (-1 : Int32)])), (p1, .inr (8, [.ref (u2 0), .ref (u2 1), .ref (u2 2), .ref (u2 3), .int (0 : Int32)])), ((u2 0), .inl (cy 0, 64, .inl (fun _ => 0))), ((u2 1), .inl (cy 0, 8, .inl (fun _ => 0))), ((u2 2), .inl (cy 0, 8, .inl (fun _ => 0))), ((u2 3), .inl (cy 0, 8, .inl (fun _ => 0))), (p3, .inl (cy 0, 3, .inl (fun _ => 0))), (p4, .inl (cy 0, 4, .inl (fun _ => 0)))]) H _ := hN
  clear hN
  exact c_ret X hr hH ⟨fun k => match k with | 0 => p1 | 1 => (u2 0) | 2 => (u2 1) | 3 => (u2 2) | 4 => (u2 3) | 5 => p3 | 6 => p4 | _ => 0, rfl⟩ dX2_init_39
theorem nd_X0_init : yX0_init.cls ≠ "java/lang/invoke/MethodHandle" ∧ yX0_init.cls ≠ "java/lang/invoke/VarHandle" ∧ (parseMethodDescriptor yX0_init.desc).map (fun d => d.parameters.length) = some 0 := by decide +kernel
def LX0 (cy : Nat → ClassId) (h0 : Nat) (q : Nat → Nat) : va_W := [(h0, .inr (0, [.ref (q 0), .long (0 : Int64), .long (1 : Int64), .int (0 : Int32), .int (0 : Int32)])), ((q 0), .inr (8, [.ref (q 1), .ref (q 2), .ref (q 3), .ref (q 4), .int (0 : Int32)])), ((q 1), .inl (cy 0, 64, .inl (fun _ => 0))), ((q 2), .inl (cy 0, 8, .inl (fun _ => 0))), ((q 3), .inl (cy 0, 8, .inl (fun _ => 0))), ((q 4), .inl (cy 0, 8, .inl (fun _ => 0)))]
set_option maxHeartbeats 4000000 in
set_option maxRecDepth 100000 in
theorem mc_X0 (l : Launch) (D : va_G) (cy : Nat → ClassId) (B0 : Nat) (wr : va_W) (h0 : Nat) : MC l yX0_init cX0_init 1 2 5 93 D cy B0 [.ref h0] wr [(h0, .inr (0, [.null, .long 0, .long 0, .int 0, .int 0]))] (fun L1 => ∃ q : Nat → Nat, L1 = LX0 cy h0 q) := by
  refine MC.of (own := RX0) rfl rfl (Nat.le_of_ble_eq_true rfl) ?_
  intro p e s m below meth c X hr hin hH ls hl
  obtain ⟨hx, hb, hml, hown, hts, hlk, hK, hB⟩ := id X
  have hin : meth.name = "<init>" := hin
  refine lv_aload_n hx hb dX0_init_0 rfl (lv_at hl 0 rfl) ?_
  refine W.objInit hx hb hown (hts _ q102) (hts _ q10) (hts _ q11) rfl (by rw [hml]; exact hl.1) rfl dX0_init_1 (Nat.le_of_ble_eq_true rfl) (Nat.le_of_ble_eq_true rfl) ?_
  refine W.eq (g2 := F0 m 4 ls []) rfl ?_
  refine lv_aload_n hx hb dX0_init_4 rfl (lv_at hl 0 rfl) ?_
  refine c_new (ci := 8) (fs := [.null, .null, .null, .null, .int 0]) (C := RX9) (T := TX9) (N := 5) X hH inlX9 tyX9 tyX9_ok q103 q79 q80 rfl (fun j hj => by rcases (show j = 0 ∨ j = 1 ∨ j = 2 ∨ j = 3 ∨ j = 4 by omega) with rfl | rfl | rfl | rfl | rfl <;> rfl) (Nat.le_of_ble_eq_true rfl) (Nat.le_of_ble_eq_true rfl) dX0_init_5 (fun p1 H hN => ?_)
  replace hH : Hc D B0 s (wr ++ [(h0, .inr (0, [.null, .long 0, .long 0, .int 0, .int 0])), (p1, .inr (8, [.null, .null, .null, .null, .int 0]))]) H _ := hN
  clear hN
  refine lv_dup hx hb dX0_init_8 rfl ?_
  refine c_callIN (L' := [(h0, .inr (0, [.null, .long 0, .long 0, .int 0, .int 0]))]) (L0 := [(p1, .inr (8, [.null, .null, .null, .null, .int 0]))]) (As := []) X hl.1 hH (mc_X9 l D cy B0 _ p1 ) q84 q80 nq_X0_11 q83 rfl nd_X9_init rfl ⟨(Nat.le_of_ble_eq_true rfl), (Nat.le_of_ble_eq_true rfl)⟩ ⟨(Nat.le_of_ble_eq_true rfl), (Nat.le_of_ble_eq_true rfl)⟩ (Nat.le_of_ble_eq_true rfl) dX0_init_9 (fun L1 H locs hp hN => ?_)
  obtain ⟨u2, rfl⟩ := hp
  replace hH : Hc D B0 s (wr ++ [(h0, .inr (0, [.null, .long 0, .long 0, .int 0, .int 0])), (p1, .inr (8, [.ref (u2 0), .ref (u2 1), .ref (u2 2), .ref (u2 3), .int (0 : Int32)])), ((u2 0), .inl (cy 0, 64, .inl (fun _ => 0))), ((u2 1), .inl (cy 0, 8, .inl (fun _ => 0))), ((u2 2), .inl (cy 0, 8, .inl (fun _ => 0))), ((u2 3), .inl (cy 0, 8, .inl (fun _ => 0)))]) H _ := hN
  clear hN
  refine c_putF (ci := 0) (C := RX0) (T := TX0) (N := 5) (ref := RX0) X hH hin inlX0 tyX0 tyX0_ok nmX0 0 rfl rfl 0 (by decide) q104 rfl rfl rfl (ty := .object "WallTurns$Wall") (by decide +kernel) rfl rfl (Nat.le_of_ble_eq_true rfl) dX0_init_12 (fun H locs hN => ?_)
  replace hH : Hc D B0 s (wr ++ [(h0, .inr (0, [.ref p1, .long 0, .long 0, .int 0, .int 0])), (p1, .inr (8, [.ref (u2 0), .ref (u2 1), .ref (u2 2), .ref (u2 3), .int (0 : Int32)])), ((u2 0), .inl (cy 0, 64, .inl (fun _ => 0))), ((u2 1), .inl (cy 0, 8, .inl (fun _ => 0))), ((u2 2), .inl (cy 0, 8, .inl (fun _ => 0))), ((u2 3), .inl (cy 0, 8, .inl (fun _ => 0)))]) H _ := hN
  clear hN
  refine lv_aload_n hx hb dX0_init_15 rfl (lv_at hl 0 rfl) ?_
  refine lv_lconst (v := (0 : Int64)) hx hb dX0_init_16 (by decide) ?_
  refine c_put (ci := 0) (C := RX0) (T := TX0) (N := 5) (ref := RX0) X hH inlX0 tyX0 tyX0_ok nmX0 0 rfl rfl 1 (by decide) q105 rfl rfl (ty := .long) (by decide +kernel) rfl rfl (Nat.le_of_ble_eq_true rfl) dX0_init_17 (fun H locs hN => ?_)
  replace hH : Hc D B0 s (wr ++ [(h0, .inr (0, [.ref p1, .long (0 : Int64), .long 0, .int 0, .int 0])), (p1, .inr (8, [.ref (u2 0), .ref (u2 1), .ref (u2 2), .ref (u2 3), .int (0 : Int32)])), ((u2 0), .inl (cy 0, 64, .inl (fun _ => 0))), ((u2 1), .inl (cy 0, 8, .inl (fun _ => 0))), ((u2 2), .inl (cy 0, 8, .inl (fun _ => 0))), ((u2 3), .inl (cy 0, 8, .inl (fun _ => 0)))]) H _ := hN
  clear hN
  refine lv_aload_n hx hb dX0_init_20 rfl (lv_at hl 0 rfl) ?_
  refine lv_lconst (v := (1 : Int64)) hx hb dX0_init_21 (by decide) ?_
  refine c_put (ci := 0) (C := RX0) (T := TX0) (N := 5) (ref := RX0) X hH inlX0 tyX0 tyX0_ok nmX0 0 rfl rfl 2 (by decide) q106 rfl rfl (ty := .long) (by decide +kernel) rfl rfl (Nat.le_of_ble_eq_true rfl) dX0_init_22 (fun H locs hN => ?_)
  replace hH : Hc D B0 s (wr ++ [(h0, .inr (0, [.ref p1, .long (0 : Int64), .long (1 : Int64), .int 0, .int 0])), (p1, .inr (8, [.ref (u2 0), .ref (u2 1), .ref (u2 2), .ref (u2 3), .int (0 : Int32)])), ((u2 0), .inl (cy 0, 64, .inl (fun _ => 0))), ((u2 1), .inl (cy 0, 8, .inl (fun _ => 0))), ((u2 2), .inl (cy 0, 8, .inl (fun _ => 0))), ((u2 3), .inl (cy 0, 8, .inl (fun _ => 0)))]) H _ := hN
  clear hN
  refine lv_aload_n hx hb dX0_init_25 rfl (lv_at hl 0 rfl) ?_
  refine lv_iconst (v := (0 : Int32)) hx hb dX0_init_26 (by decide) ?_
  refine c_put (ci := 0) (C := RX0) (T := TX0) (N := 5) (ref := RX0) X hH inlX0 tyX0 tyX0_ok nmX0 0 rfl rfl 3 (by decide) q107 rfl rfl (ty := .int) (by decide +kernel) rfl rfl (Nat.le_of_ble_eq_true rfl) dX0_init_27 (fun H locs hN => ?_)
  replace hH : Hc D B0 s (wr ++ [(h0, .inr (0, [.ref p1, .long (0 : Int64), .long (1 : Int64), .int (0 : Int32), .int 0])), (p1, .inr (8, [.ref (u2 0), .ref (u2 1), .ref (u2 2), .ref (u2 3), .int (0 : Int32)])), ((u2 0), .inl (cy 0, 64, .inl (fun _ => 0))), ((u2 1), .inl (cy 0, 8, .inl (fun _ => 0))), ((u2 2), .inl (cy 0, 8, .inl (fun _ => 0))), ((u2 3), .inl (cy 0, 8, .inl (fun _ => 0)))]) H _ := hN
  clear hN
  refine lv_aload_n hx hb dX0_init_30 rfl (lv_at hl 0 rfl) ?_
  refine lv_iconst (v := (0 : Int32)) hx hb dX0_init_31 (by decide) ?_
  refine c_put (ci := 0) (C := RX0) (T := TX0) (N := 5) (ref := RX0) X hH inlX0 tyX0 tyX0_ok nmX0 0 rfl rfl 4 (by decide) q108 rfl rfl (ty := .int) (by decide +kernel) rfl rfl (Nat.le_of_ble_eq_true rfl) dX0_init_32 (fun H locs hN => ?_)
  replace hH : Hc D B0 s (wr ++ [(h0, .inr (0, [.ref p1, .long (0 : Int64), .long (1 : Int64), .int (0 : Int32), .int (0 : Int32)])), (p1, .inr (8, [.ref (u2 0), .ref (u2 1), .ref (u2 2), .ref (u2 3), .int (0 : Int32)])), ((u2 0), .inl (cy 0, 64, .inl (fun _ => 0))), ((u2 1), .inl (cy 0, 8, .inl (fun _ => 0))), ((u2 2), .inl (cy 0, 8, .inl (fun _ => 0))), ((u2 3), .inl (cy 0, 8, .inl (fun _ => 0)))]) H _ := hN
  clear hN
  exact c_ret X hr hH ⟨fun k => match k with | 0 => p1 | 1 => (u2 0) | 2 => (u2 1) | 3 => (u2 2) | 4 => (u2 3) | _ => 0, rfl⟩ dX0_init_35
