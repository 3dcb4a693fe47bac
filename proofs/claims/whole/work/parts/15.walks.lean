section G15
variable {p : Program} {l : Launch} {e : Env} {s : State} {m : MethodId} {args : Array Value} {below : List Frame} {meth : Method} {c : Code} {g : gT}
theorem nd_X2_leastAt : yX2_leastAt.cls ≠ "java/lang/invoke/MethodHandle" ∧ yX2_leastAt.cls ≠ "java/lang/invoke/VarHandle" ∧ (parseMethodDescriptor yX2_leastAt.desc).map (fun d => d.parameters.length) = some 2 := by decide +kernel
def f_X2_leastAt (a2 : Int32) (S : sT) : Option (Int32) :=
 (if a2 < (1 : Int32) then
 some (0 : Int32)
 else
 (if (3 : Int32) < a2 then
 some (0 : Int32)
 else
 ck (vi (a2 - (1 : Int32)) 3) (
 some (S.1 20 0 (cl (a2 - (1 : Int32)))))))
set_option maxHeartbeats 4000000 in
set_option maxRecDepth 100000 in
theorem w_X2_leastAt (C : Cx p s m args meth c cX2_leastAt 2 RX2 g) (hr : meth.sig.returnType = (some .int)) {o : Int32} {a2 : Int32}  {S : sT} {H : Heap} {locs : List Loc} {ls : Array Slot} (hH : Hp g s S H locs) (hl : lv_has ls 2 [(0, .ref (gad g 20 0)), (1, .int a2)]) (h : f_X2_leastAt a2 S = some o) : W p l e (rmL 1) s m args below meth c H locs 0 0 (Qm g below args s (some (.int o)) S) (F0 m 0 ls []) := by
  obtain ⟨hx, hb, hml, hown, hts, hlk, hK⟩ := id C
  unfold f_X2_leastAt at h
  refine lv_iload_n hx hb dX2_leastAt_0 rfl (lv_at hl 1 rfl) ?_
  refine lv_iconst (v := (1 : Int32)) hx hb dX2_leastAt_1 (by decide) ?_
  refine lv_icmp_lt (tgt := 19) hx hb dX2_leastAt_2 (by decide) (fun c3 => ?_) (fun c3 => ?_)
  · replace h := if_t h c3
    refine lv_iconst (v := (0 : Int32)) hx hb dX2_leastAt_19 (by decide) ?_
    exact E_intc C hr hH h dX2_leastAt_20
  · replace h := if_f h c3
    refine lv_iload_n hx hb dX2_leastAt_5 rfl (lv_at hl 1 rfl) ?_
    refine lv_aload_n hx hb dX2_leastAt_6 rfl (lv_at hl 0 rfl) ?_
    refine r_alen C hH ka_20 (by decide) (by decide) (v := (3 : Int32)) (by decide) dX2_leastAt_7 ?_
    refine lv_icmp_gt (tgt := 19) hx hb dX2_leastAt_8 (by decide) (fun c2 => ?_) (fun c2 => ?_)
    · replace h := if_t h c2
      refine lv_iconst (v := (0 : Int32)) hx hb dX2_leastAt_19 (by decide) ?_
      exact E_intc C hr hH h dX2_leastAt_20
    · replace h := if_f h c2
      refine lv_aload_n hx hb dX2_leastAt_11 rfl (lv_at hl 0 rfl) ?_
      refine lv_iload_n hx hb dX2_leastAt_12 rfl (lv_at hl 1 rfl) ?_
      refine lv_iconst (v := (1 : Int32)) hx hb dX2_leastAt_13 (by decide) ?_
      refine lv_isub hx hb dX2_leastAt_14 ?_
      obtain ⟨hv1, h⟩ := ck_e h
      refine r_ald C hH ka_20 (by decide) (by decide) (vi_in hv1) dX2_leastAt_15 ?_
      refine lv_goto (tgt := 20) hx hb dX2_leastAt_16 (by decide) ?_
      exact E_intc C hr hH h dX2_leastAt_20
theorem c_X2_leastAt (l : Launch) (g : gT) {a2 : Int32}  {S : sT} {r : Int32} (h : f_X2_leastAt a2 S = some r) : MF l yX2_leastAt cX2_leastAt 2 (some .int) 1 g [.ref (gad g 20 0), .int a2] S (some (.int r)) S := by
  refine MF.of (own := RX2) rfl rfl (Nat.le_of_ble_eq_true rfl) ?_
  intro p e s m below meth c C hr hH ls hl
  exact w_X2_leastAt C hr (o := r)  hH hl h
theorem nd_X2_canMend : yX2_canMend.cls ≠ "java/lang/invoke/MethodHandle" ∧ yX2_canMend.cls ≠ "java/lang/invoke/VarHandle" ∧ (parseMethodDescriptor yX2_canMend.desc).map (fun d => d.parameters.length) = some 5 := by decide +kernel
def b_X2_canMend_29 (rec : Nat → Int32 → Int32 → sT → Option (Int32 × sT)) (w1 : Nat) (a4 : Int32) (a5 : Int32) (x7 : Int32) (S8 : sT) (k9 : Int32 → sT → Option (Int32 × sT)) : Option (Int32 × sT) :=
 (if (16 : Int32) ≤ x7 then
 some ((0 : Int32), S8)
 else
 ck (nz (8 : Int32)) (
 lt (x7 - x7 / (8 : Int32) * (8 : Int32)) (fun x11 =>
 ck (nz (8 : Int32)) (
 bn2 (f_X9_put w1 x11 (x7 / (8 : Int32)) S8) (fun r14 S15 =>
 jn (fun (S16 : sT) => lt (x7 + (1 : Int32)) (fun x17 =>
 k9 x17 S16))
 (fun j18 => (if r14 = (0 : Int32) then
 j18 S15
 else
 ck (vi a4 3) (
 lt (us S15 20 0 (cl a4) x7) (fun S20 =>
 bn2 (rec w1 (a4 + (1 : Int32)) a5 S20) (fun r22 S23 =>
 bn2 (f_X9_take w1 x11 S23) (fun r25 S26 =>
 (if r22 = (0 : Int32) then
 j18 S26
 else
 some ((1 : Int32), S26)))))))))))))
def l_X2_canMend_29 (rec : Nat → Int32 → Int32 → sT → Option (Int32 × sT)) (w1 : Nat) (a4 : Int32) (a5 : Int32) : Nat → Int32 → sT → Option (Int32 × sT)
 | 0, _, _ => none
 | n + 1, x7, S8 => b_X2_canMend_29 rec w1 a4 a5 x7 S8 (l_X2_canMend_29 rec w1 a4 a5 n)
theorem l_X2_canMend_29_s (rec : Nat → Int32 → Int32 → sT → Option (Int32 × sT)) (w1 : Nat) (a4 : Int32) (a5 : Int32) (n : Nat) (x7 : Int32) (S8 : sT) : l_X2_canMend_29 rec w1 a4 a5 (n + 1) x7 S8 = b_X2_canMend_29 rec w1 a4 a5 x7 S8 (l_X2_canMend_29 rec w1 a4 a5 n) := rfl
def s_X2_canMend (rec : Nat → Int32 → Int32 → sT → Option (Int32 × sT)) (w1 : Nat) (a4 : Int32) (a5 : Int32) (S : sT) : Option (Int32 × sT) :=
 jn (bn (f_X9_stands w1 S) (fun r2 =>
 ck (vz r2) (
 some (r2, S))))
 (fun j4 => (if a4 < (0 : Int32) then
 j4
 else
 (if a5 ≤ a4 then
 j4
 else
 (if a4 < (3 : Int32) then
 bn (f_X2_leastAt a4 S) (fun r6 =>
 l_X2_canMend_29 rec w1 a4 a5 FU r6 S)
 else
 j4))))
def f_X2_canMend : Nat → Nat → Int32 → Int32 → sT → Option (Int32 × sT)
 | 0, _, _, _, _ => none
 | n + 1, w1, a4, a5, S => s_X2_canMend (f_X2_canMend n) w1 a4 a5 S
set_option maxHeartbeats 4000000 in
set_option maxRecDepth 100000 in
theorem w_X2_canMend_29 {d : Nat} (C : Cx p s m args meth c cX2_canMend 8 RX2 g) (hr : meth.sig.returnType = (some .boolean)) {o : Int32 × sT} {rec : Nat → Int32 → Int32 → sT → Option (Int32 × sT)} (hrec : ∀ (w1 : Nat) (a4 : Int32) (a5 : Int32) (S : sT) (r : Int32) (S1 : sT), w1 < 16 →  rec w1 a4 a5 S = some (r, S1) → MF l yX2_canMend cX2_canMend 8 (some .boolean) (4 + d) g [.ref (gad g 9 w1), .ref (gad g 2 0), .ref (gad g 20 0), .int a4, .int a5] S (some (.int r)) S1) {w1 : Nat} {a4 : Int32} {a5 : Int32} (hw1 : w1 < 16)  : ∀ (n : Nat) (x7 : Int32) (S8 : sT) (H : Heap) (locs : List Loc) (ls : Array Slot), Hp g s S8 H locs → lv_has ls 8 [(0, .ref (gad g 9 w1)), (1, .ref (gad g 2 0)), (2, .ref (gad g 20 0)), (3, .int a4), (4, .int a5), (5, .int x7)] → l_X2_canMend_29 rec w1 a4 a5 n x7 S8 = some o → W p l e (rmL (4 + d + 1)) s m args below meth c H locs 0 0 (Qm g below args s (some (.int o.1)) o.2) (F0 m 29 ls []) := by
  obtain ⟨hx, hb, hml, hown, hts, hlk, hK⟩ := id C
  intro n
  induction n with
  | zero =>
    intro x7 S8 H locs ls hH hl h
    cases h
  | succ n ih =>
    intro x7 S8 H locs ls hH hl h
    rw [l_X2_canMend_29_s] at h
    unfold b_X2_canMend_29 at h
    refine lv_iload hx hb dX2_canMend_29 (lv_at hl 5 rfl) ?_
    refine lv_bipush (v := (16 : Int32)) hx hb dX2_canMend_31 (by decide) ?_
    refine lv_icmp_ge (tgt := 95) hx hb dX2_canMend_33 (by decide) (fun c29 => ?_) (fun c29 => ?_)
    · replace h := if_t h c29
      refine lv_iconst (v := (0 : Int32)) hx hb dX2_canMend_95 (by decide) ?_
      exact E_bool C hr hH rfl h dX2_canMend_96
    · replace h := if_f h c29
      refine lv_iload hx hb dX2_canMend_36 (lv_at hl 5 rfl) ?_
      refine lv_bipush (v := (8 : Int32)) hx hb dX2_canMend_38 (by decide) ?_
      obtain ⟨hv10, h⟩ := ck_e h
      refine lv_irem hx hb dX2_canMend_40 (nz_e hv10) ?_
      refine lv_topi (fun x11 ex11 => ?_)
      replace h := lt_e h ex11
      refine lv_istore (lv' := [(6, .int x11), (0, .ref (gad g 9 w1)), (1, .ref (gad g 2 0)), (2, .ref (gad g 20 0)), (3, .int a4), (4, .int a5), (5, .int x7)]) hx hb dX2_canMend_41 hl (by decide) rfl (fun ls hl => ?_)
      refine lv_aload_n hx hb dX2_canMend_43 rfl (lv_at hl 1 rfl) ?_
      refine lv_iload hx hb dX2_canMend_44 (lv_at hl 0 rfl) ?_
      refine lv_iload hx hb dX2_canMend_46 (lv_at hl 6 rfl) ?_
      refine lv_bipush (v := (8 : Int32)) hx hb dX2_canMend_48 (by decide) ?_
      obtain ⟨hv12, h⟩ := ck_e h
      refine lv_idiv hx hb dX2_canMend_50 (nz_e hv12) ?_
      obtain ⟨r14, S15, hc13, h⟩ := bn2_e h
      refine r_callV1 (ki := 9) (i := w1) (ci := 8) (As := [.int x11, .int (x7 / (8 : Int32))]) C hl.1 hH (c_X9_put l g hw1 hc13) q197 q80 q654 q195 q196 nd_X9_put rfl ⟨by simp only [rmL]; omega, by simp only [rmL]; omega⟩ ⟨Nat.zero_le _, Nat.zero_le _⟩ (by decide) hw1 ⟨_, rfl⟩ rfl (Nat.le_of_ble_eq_true rfl) dX2_canMend_51 (fun H locs hH => ?_)
      obtain ⟨j18, ej18, h⟩ := jn_e h
      have hj18 : ∀ (S16 : sT) (H : Heap) (locs : List Loc) (ls : Array Slot), Hp g s S16 H locs → lv_has ls 8 [(0, .ref (gad g 9 w1)), (1, .ref (gad g 2 0)), (2, .ref (gad g 20 0)), (3, .int a4), (4, .int a5), (5, .int x7)] → j18 S16 = some o → W p l e (rmL (4 + d + 1)) s m args below meth c H locs 0 0 (Qm g below args s (some (.int o.1)) o.2) (F0 m 89 ls []) := by
        intro S16 H locs ls hH hl h
        rw [ej18] at h
        try dsimp only at h
        obtain ⟨x17, ex17⟩ : ∃ z : Int32, z = (x7 + (1 : Int32)) := ⟨_, rfl⟩
        replace h := lt_e h ex17
        refine lv_iinc (v := x17) (lv' := [(5, .int x17), (0, .ref (gad g 9 w1)), (1, .ref (gad g 2 0)), (2, .ref (gad g 20 0)), (3, .int a4), (4, .int a5)]) hx hb dX2_canMend_89 hl (k := 5) rfl (by rw [ex17]; rfl) (by decide) rfl (fun ls hl => ?_)
        refine lv_goto (tgt := 29) hx hb dX2_canMend_92 (by decide) ?_
        exact ih _ _ _ _ _ hH (lv_sub hl [1, 2, 3, 4, 5, 0] rfl) h
      clear ej18
      refine lv_if_eq (tgt := 89) hx hb dX2_canMend_54 (by decide) (fun c28 => ?_) (fun c28 => ?_)
      · replace h := if_t h c28
        exact hj18 _ _ _ _ hH (lv_sub hl [1, 2, 3, 4, 5, 6] rfl) h
      · replace h := if_f h c28
        refine lv_aload_n hx hb dX2_canMend_57 rfl (lv_at hl 3 rfl) ?_
        refine lv_iload_n hx hb dX2_canMend_58 rfl (lv_at hl 4 rfl) ?_
        refine lv_iload hx hb dX2_canMend_59 (lv_at hl 6 rfl) ?_
        obtain ⟨hv19, h⟩ := ck_e h
        refine r_ast C hH ka_20 ko_20 (by decide) (by decide) (vi_in hv19) dX2_canMend_61 (fun S20 H locs eS hH => ?_)
        replace h := lt_e h eS
        refine lv_aload_n hx hb dX2_canMend_62 rfl (lv_at hl 1 rfl) ?_
        refine lv_aload_n hx hb dX2_canMend_63 rfl (lv_at hl 2 rfl) ?_
        refine lv_aload_n hx hb dX2_canMend_64 rfl (lv_at hl 3 rfl) ?_
        refine lv_iload_n hx hb dX2_canMend_65 rfl (lv_at hl 4 rfl) ?_
        refine lv_iconst (v := (1 : Int32)) hx hb dX2_canMend_66 (by decide) ?_
        refine lv_iadd hx hb dX2_canMend_67 ?_
        refine lv_iload hx hb dX2_canMend_68 (lv_at hl 5 rfl) ?_
        obtain ⟨r22, S23, hc21, h⟩ := bn2_e h
        refine r_callS1 (As := [.ref (gad g 9 w1), .ref (gad g 2 0), .ref (gad g 20 0), .int (a4 + (1 : Int32)), .int a5]) C hl.1 hH (hrec w1 (a4 + (1 : Int32)) a5 _ _ _ hw1 hc21) q646 q31 q644 q645 nd_X2_canMend rfl ⟨by simp only [rmL]; omega, by simp only [rmL]; omega⟩ ⟨Nat.zero_le _, Nat.zero_le _⟩ (Nat.le_of_ble_eq_true rfl) dX2_canMend_70 (fun H locs hH => ?_)
        refine lv_istore (lv' := [(7, .int r22), (6, .int x11), (0, .ref (gad g 9 w1)), (1, .ref (gad g 2 0)), (2, .ref (gad g 20 0)), (3, .int a4), (4, .int a5), (5, .int x7)]) hx hb dX2_canMend_73 hl (by decide) rfl (fun ls hl => ?_)
        refine lv_aload_n hx hb dX2_canMend_75 rfl (lv_at hl 2 rfl) ?_
        refine lv_iload hx hb dX2_canMend_76 (lv_at hl 1 rfl) ?_
        obtain ⟨r25, S26, hc24, h⟩ := bn2_e h
        refine r_callV1 (ki := 9) (i := w1) (ci := 8) (As := [.int x11]) C hl.1 hH (c_X9_take l g hw1 hc24) q289 q80 q655 q287 q288 nd_X9_take rfl ⟨by simp only [rmL]; omega, by simp only [rmL]; omega⟩ ⟨Nat.zero_le _, Nat.zero_le _⟩ (by decide) hw1 ⟨_, rfl⟩ rfl (Nat.le_of_ble_eq_true rfl) dX2_canMend_78 (fun H locs hH => ?_)
        refine lv_pop hx hb dX2_canMend_81 rfl ?_
        refine lv_iload hx hb dX2_canMend_82 (lv_at hl 0 rfl) ?_
        refine lv_if_eq (tgt := 89) hx hb dX2_canMend_84 (by decide) (fun c27 => ?_) (fun c27 => ?_)
        · replace h := if_t h c27
          exact hj18 _ _ _ _ hH (lv_sub hl [2, 3, 4, 5, 6, 7] rfl) h
        · replace h := if_f h c27
          refine lv_iconst (v := (1 : Int32)) hx hb dX2_canMend_87 (by decide) ?_
          exact E_bool C hr hH rfl h dX2_canMend_88
set_option maxHeartbeats 4000000 in
set_option maxRecDepth 100000 in
theorem w_X2_canMend {d : Nat} {rec : Nat → Int32 → Int32 → sT → Option (Int32 × sT)} (hrec : ∀ (w1 : Nat) (a4 : Int32) (a5 : Int32) (S : sT) (r : Int32) (S1 : sT), w1 < 16 →  rec w1 a4 a5 S = some (r, S1) → MF l yX2_canMend cX2_canMend 8 (some .boolean) (4 + d) g [.ref (gad g 9 w1), .ref (gad g 2 0), .ref (gad g 20 0), .int a4, .int a5] S (some (.int r)) S1) (C : Cx p s m args meth c cX2_canMend 8 RX2 g) (hr : meth.sig.returnType = (some .boolean)) {o : Int32 × sT} {w1 : Nat} {a4 : Int32} {a5 : Int32} (hw1 : w1 < 16) {S : sT} {H : Heap} {locs : List Loc} {ls : Array Slot} (hH : Hp g s S H locs) (hl : lv_has ls 8 [(0, .ref (gad g 9 w1)), (1, .ref (gad g 2 0)), (2, .ref (gad g 20 0)), (3, .int a4), (4, .int a5)]) (h : s_X2_canMend rec w1 a4 a5 S = some o) : W p l e (rmL (4 + d + 1)) s m args below meth c H locs 0 0 (Qm g below args s (some (.int o.1)) o.2) (F0 m 0 ls []) := by
  obtain ⟨hx, hb, hml, hown, hts, hlk, hK⟩ := id C
  unfold s_X2_canMend at h
  refine lv_iload_n hx hb dX2_canMend_0 rfl (lv_at hl 3 rfl) ?_
  obtain ⟨j4, ej4, h⟩ := jn_e h
  have hj4 : ∀  (H : Heap) (locs : List Loc) (ls : Array Slot), Hp g s S H locs → lv_has ls 8 [(0, .ref (gad g 9 w1)), (1, .ref (gad g 2 0))] → j4  = some o → W p l e (rmL (4 + d + 1)) s m args below meth c H locs 0 0 (Qm g below args s (some (.int o.1)) o.2) (F0 m 16 ls []) := by
    intro  H locs ls hH hl h
    rw [ej4] at h
    try dsimp only at h
    refine lv_aload_n hx hb dX2_canMend_16 rfl (lv_at hl 0 rfl) ?_
    refine lv_aload_n hx hb dX2_canMend_17 rfl (lv_at hl 1 rfl) ?_
    obtain ⟨r2, hc1, h⟩ := bn_e h
    refine r_callV1 (ki := 9) (i := w1) (ci := 8) (As := [.ref (gad g 2 0)]) C hl.1 hH (c_X9_stands l g hw1 hc1) q650 q80 q647 q648 q649 nd_X9_stands rfl ⟨by simp only [rmL]; omega, by simp only [rmL]; omega⟩ ⟨Nat.zero_le _, Nat.zero_le _⟩ (by decide) hw1 ⟨_, rfl⟩ rfl (Nat.le_of_ble_eq_true rfl) dX2_canMend_18 (fun H locs hH => ?_)
    obtain ⟨hv3, h⟩ := ck_e h
    exact E_bool C hr hH (vz_n hv3) h dX2_canMend_21
  clear ej4
  refine lv_if_lt (tgt := 16) hx hb dX2_canMend_1 (by decide) (fun c32 => ?_) (fun c32 => ?_)
  · replace h := if_t h c32
    exact hj4 _ _ _ hH (lv_sub hl [0, 1] rfl) h
  · replace h := if_f h c32
    refine lv_iload_n hx hb dX2_canMend_4 rfl (lv_at hl 3 rfl) ?_
    refine lv_iload hx hb dX2_canMend_5 (lv_at hl 4 rfl) ?_
    refine lv_icmp_ge (tgt := 16) hx hb dX2_canMend_7 (by decide) (fun c31 => ?_) (fun c31 => ?_)
    · replace h := if_t h c31
      exact hj4 _ _ _ hH (lv_sub hl [0, 1] rfl) h
    · replace h := if_f h c31
      refine lv_iload_n hx hb dX2_canMend_10 rfl (lv_at hl 3 rfl) ?_
      refine lv_aload_n hx hb dX2_canMend_11 rfl (lv_at hl 2 rfl) ?_
      refine r_alen C hH ka_20 (by decide) (by decide) (v := (3 : Int32)) (by decide) dX2_canMend_12 ?_
      refine lv_icmp_lt (tgt := 22) hx hb dX2_canMend_13 (by decide) (fun c30 => ?_) (fun c30 => ?_)
      · replace h := if_t h c30
        refine lv_aload_n hx hb dX2_canMend_22 rfl (lv_at hl 2 rfl) ?_
        refine lv_iload_n hx hb dX2_canMend_23 rfl (lv_at hl 3 rfl) ?_
        obtain ⟨r6, hc5, h⟩ := bn_e h
        refine r_callS1 (As := [.ref (gad g 20 0), .int a4]) C hl.1 hH (c_X2_leastAt l g  hc5) q653 q31 q651 q652 nd_X2_leastAt rfl ⟨by simp only [rmL]; omega, by simp only [rmL]; omega⟩ ⟨Nat.zero_le _, Nat.zero_le _⟩ (Nat.le_of_ble_eq_true rfl) dX2_canMend_24 (fun H locs hH => ?_)
        refine lv_istore (lv' := [(5, .int r6), (0, .ref (gad g 9 w1)), (1, .ref (gad g 2 0)), (2, .ref (gad g 20 0)), (3, .int a4), (4, .int a5)]) hx hb dX2_canMend_27 hl (by decide) rfl (fun ls hl => ?_)
        exact w_X2_canMend_29 C hr hrec hw1  _ _ _ _ _ _ hH (lv_sub hl [1, 2, 3, 4, 5, 0] rfl) h
      · replace h := if_f h c30
        exact hj4 _ _ _ hH (lv_sub hl [0, 1] rfl) h
theorem cr_X2_canMend (l : Launch) (g : gT) : ∀ (d : Nat) (w1 : Nat) (a4 : Int32) (a5 : Int32) (S : sT) (r : Int32) (S1 : sT), w1 < 16 →  f_X2_canMend d w1 a4 a5 S = some (r, S1) → MF l yX2_canMend cX2_canMend 8 (some .boolean) (4 + d) g [.ref (gad g 9 w1), .ref (gad g 2 0), .ref (gad g 20 0), .int a4, .int a5] S (some (.int r)) S1 := by
  intro d
  induction d with
  | zero =>
    intro w1 a4 a5 S r S1 hw1 h
    cases h
  | succ d ih =>
    intro w1 a4 a5 S r S1 hw1 h
    refine MF.of (own := RX2) rfl rfl (Nat.le_of_ble_eq_true rfl) ?_
    intro p e s m below meth c C hr hH ls hl
    exact w_X2_canMend ih C hr (o := (r, S1)) hw1 hH hl h
theorem c_X2_canMend (l : Launch) (g : gT) {w1 : Nat} {a4 : Int32} {a5 : Int32} (hw1 : w1 < 16) {S : sT} {r : Int32} {S1 : sT} (h : f_X2_canMend 12 w1 a4 a5 S = some (r, S1)) : MF l yX2_canMend cX2_canMend 8 (some .boolean) 16 g [.ref (gad g 9 w1), .ref (gad g 2 0), .ref (gad g 20 0), .int a4, .int a5] S (some (.int r)) S1 := cr_X2_canMend l g 12 _ _ _ _ _ _ hw1 h
theorem nd_X2_searchMend : yX2_searchMend.cls ≠ "java/lang/invoke/MethodHandle" ∧ yX2_searchMend.cls ≠ "java/lang/invoke/VarHandle" ∧ (parseMethodDescriptor yX2_searchMend.desc).map (fun d => d.parameters.length) = some 2 := by decide +kernel
def b_X2_searchMend_15  (x4 : Int32) (S5 : sT) (k6 : Int32 → sT → Option (sT)) : Option (sT) :=
 (if (3 : Int32) < x4 then
 some S5
 else
 (if (S5.1 106 0 0) = (-1 : Int32) then
 bn2 (f_X2_canMend 12 14 (0 : Int32) x4 S5) (fun r8 S9 =>
 jn (fun (S10 : sT) => lt (x4 + (1 : Int32)) (fun x11 =>
 k6 x11 S10))
 (fun j12 => (if r8 = (0 : Int32) then
 j12 S9
 else
 lt (us S9 106 0 0 x4) (fun S13 =>
 j12 S13))))
 else
 some S5))
def l_X2_searchMend_15  : Nat → Int32 → sT → Option (sT)
 | 0, _, _ => none
 | n + 1, x4, S5 => b_X2_searchMend_15  x4 S5 (l_X2_searchMend_15  n)
theorem l_X2_searchMend_15_s  (n : Nat) (x4 : Int32) (S5 : sT) : l_X2_searchMend_15  (n + 1) x4 S5 = b_X2_searchMend_15  x4 S5 (l_X2_searchMend_15  n) := rfl
def f_X2_searchMend (w1 : Nat) (S : sT) : Option (sT) :=
 bn (f_X9_become 14 w1 S) (fun S2 =>
 lt (us S2 106 0 0 (-1 : Int32)) (fun S3 =>
 l_X2_searchMend_15  FU (0 : Int32) S3))
set_option maxHeartbeats 4000000 in
set_option maxRecDepth 100000 in
theorem w_X2_searchMend_15 (C : Cx p s m args meth c cX2_searchMend 4 RX2 g) (hr : meth.sig.returnType = none) {o : sT}     : ∀ (n : Nat) (x4 : Int32) (S5 : sT) (H : Heap) (locs : List Loc) (ls : Array Slot), Hp g s S5 H locs → lv_has ls 4 [(0, .ref (gad g 5 0)), (2, .ref (gad g 2 0)), (3, .int x4)] → l_X2_searchMend_15  n x4 S5 = some o → W p l e (rmL 18) s m args below meth c H locs 0 0 (Qm g below args s none o) (F0 m 15 ls []) := by
  obtain ⟨hx, hb, hml, hown, hts, hlk, hK⟩ := id C
  intro n
  induction n with
  | zero =>
    intro x4 S5 H locs ls hH hl h
    cases h
  | succ n ih =>
    intro x4 S5 H locs ls hH hl h
    rw [l_X2_searchMend_15_s] at h
    unfold b_X2_searchMend_15 at h
    refine lv_iload_n hx hb dX2_searchMend_15 rfl (lv_at hl 2 rfl) ?_
    refine lv_iconst (v := (3 : Int32)) hx hb dX2_searchMend_16 (by decide) ?_
    refine lv_icmp_gt (tgt := 56) hx hb dX2_searchMend_17 (by decide) (fun c16 => ?_) (fun c16 => ?_)
    · replace h := if_t h c16
      exact E_void C hr hH h dX2_searchMend_56
    · replace h := if_f h c16
      refine lv_aload_n hx hb dX2_searchMend_20 rfl (lv_at hl 0 rfl) ?_
      refine gf_X2_25 C hH dX2_searchMend_21 ?_
      refine lv_iconst (v := (-1 : Int32)) hx hb dX2_searchMend_24 (by decide) ?_
      refine lv_icmp_ne (tgt := 56) hx hb dX2_searchMend_25 (by decide) (fun c15 => ?_) (fun c15 => ?_)
      · replace h := if_f h c15
        exact E_void C hr hH h dX2_searchMend_56
      · replace h := if_t h c15
        refine lv_aload_n hx hb dX2_searchMend_28 rfl (lv_at hl 0 rfl) ?_
        refine gf_X2_12 C hH dX2_searchMend_29 ?_
        refine lv_aload_n hx hb dX2_searchMend_32 rfl (lv_at hl 1 rfl) ?_
        refine lv_aload_n hx hb dX2_searchMend_33 rfl (lv_at hl 0 rfl) ?_
        refine gf_X2_18 C hH dX2_searchMend_34 ?_
        refine lv_iconst (v := (0 : Int32)) hx hb dX2_searchMend_37 (by decide) ?_
        refine lv_iload_n hx hb dX2_searchMend_38 rfl (lv_at hl 2 rfl) ?_
        obtain ⟨r8, S9, hc7, h⟩ := bn2_e h
        refine r_callS1 (As := [.ref (gad g 9 14), .ref (gad g 2 0), .ref (gad g 20 0), .int (0 : Int32), .int x4]) C hl.1 hH (c_X2_canMend l g (by decide) hc7) q646 q31 q644 q645 nd_X2_canMend rfl (by decide) ⟨Nat.zero_le _, Nat.zero_le _⟩ (Nat.le_of_ble_eq_true rfl) dX2_searchMend_39 (fun H locs hH => ?_)
        obtain ⟨j12, ej12, h⟩ := jn_e h
        have hj12 : ∀ (S10 : sT) (H : Heap) (locs : List Loc) (ls : Array Slot), Hp g s S10 H locs → lv_has ls 4 [(0, .ref (gad g 5 0)), (2, .ref (gad g 2 0)), (3, .int x4)] → j12 S10 = some o → W p l e (rmL 18) s m args below meth c H locs 0 0 (Qm g below args s none o) (F0 m 50 ls []) := by
          intro S10 H locs ls hH hl h
          rw [ej12] at h
          try dsimp only at h
          obtain ⟨x11, ex11⟩ : ∃ z : Int32, z = (x4 + (1 : Int32)) := ⟨_, rfl⟩
          replace h := lt_e h ex11
          refine lv_iinc (v := x11) (lv' := [(3, .int x11), (0, .ref (gad g 5 0)), (2, .ref (gad g 2 0))]) hx hb dX2_searchMend_50 hl (k := 2) rfl (by rw [ex11]; rfl) (by decide) rfl (fun ls hl => ?_)
          refine lv_goto (tgt := 15) hx hb dX2_searchMend_53 (by decide) ?_
          exact ih _ _ _ _ _ hH (lv_sub hl [1, 2, 0] rfl) h
        clear ej12
        refine lv_if_eq (tgt := 50) hx hb dX2_searchMend_42 (by decide) (fun c14 => ?_) (fun c14 => ?_)
        · replace h := if_t h c14
          exact hj12 _ _ _ _ hH (lv_sub hl [0, 1, 2] rfl) h
        · replace h := if_f h c14
          refine lv_aload_n hx hb dX2_searchMend_45 rfl (lv_at hl 0 rfl) ?_
          refine lv_iload_n hx hb dX2_searchMend_46 rfl (lv_at hl 2 rfl) ?_
          refine pf_X2_25 C hH dX2_searchMend_47 (fun S13 H locs eS hH => ?_)
          replace h := lt_e h eS
          exact hj12 _ _ _ _ hH (lv_sub hl [0, 1, 2] rfl) h
set_option maxHeartbeats 4000000 in
set_option maxRecDepth 100000 in
theorem w_X2_searchMend (C : Cx p s m args meth c cX2_searchMend 4 RX2 g) (hr : meth.sig.returnType = none) {o : sT} {w1 : Nat} (hw1 : w1 < 16) {S : sT} {H : Heap} {locs : List Loc} {ls : Array Slot} (hH : Hp g s S H locs) (hl : lv_has ls 4 [(0, .ref (gad g 5 0)), (1, .ref (gad g 9 w1)), (2, .ref (gad g 2 0))]) (h : f_X2_searchMend w1 S = some o) : W p l e (rmL 18) s m args below meth c H locs 0 0 (Qm g below args s none o) (F0 m 0 ls []) := by
  obtain ⟨hx, hb, hml, hown, hts, hlk, hK⟩ := id C
  unfold f_X2_searchMend at h
  refine lv_aload_n hx hb dX2_searchMend_0 rfl (lv_at hl 0 rfl) ?_
  refine gf_X2_12 C hH dX2_searchMend_1 ?_
  refine lv_aload_n hx hb dX2_searchMend_4 rfl (lv_at hl 1 rfl) ?_
  obtain ⟨S2, hc1, h⟩ := bn_e h
  refine r_callV0 (ki := 9) (i := 14) (ci := 8) (As := [.ref (gad g 9 w1)]) C hl.1 hH (c_X9_become l g (by decide) hw1 hc1) q258 q80 q643 q256 q257 nd_X9_become rfl (by decide) ⟨Nat.zero_le _, Nat.zero_le _⟩ (by decide) (by decide) ⟨_, rfl⟩ rfl (Nat.le_of_ble_eq_true rfl) dX2_searchMend_5 (fun H locs hH => ?_)
  refine lv_aload_n hx hb dX2_searchMend_8 rfl (lv_at hl 0 rfl) ?_
  refine lv_iconst (v := (-1 : Int32)) hx hb dX2_searchMend_9 (by decide) ?_
  refine pf_X2_25 C hH dX2_searchMend_10 (fun S3 H locs eS hH => ?_)
  replace h := lt_e h eS
  refine lv_iconst (v := (0 : Int32)) hx hb dX2_searchMend_13 (by decide) ?_
  refine lv_istore_n (lv' := [(3, .int (0 : Int32)), (0, .ref (gad g 5 0)), (1, .ref (gad g 9 w1)), (2, .ref (gad g 2 0))]) hx hb dX2_searchMend_14 rfl hl (by decide) rfl (fun ls hl => ?_)
  exact w_X2_searchMend_15 C hr   _ _ _ _ _ _ hH (lv_sub hl [1, 3, 0] rfl) h
theorem c_X2_searchMend (l : Launch) (g : gT) {w1 : Nat} (hw1 : w1 < 16) {S : sT} {S1 : sT} (h : f_X2_searchMend w1 S = some S1) : MF l yX2_searchMend cX2_searchMend 4 none 18 g [.ref (gad g 5 0), .ref (gad g 9 w1), .ref (gad g 2 0)] S none S1 := by
  refine MF.of (own := RX2) rfl rfl (Nat.le_of_ble_eq_true rfl) ?_
  intro p e s m below meth c C hr hH ls hl
  exact w_X2_searchMend C hr (o := S1) hw1 hH hl h
theorem nd_X2_told : yX2_told.cls ≠ "java/lang/invoke/MethodHandle" ∧ yX2_told.cls ≠ "java/lang/invoke/VarHandle" ∧ (parseMethodDescriptor yX2_told.desc).map (fun d => d.parameters.length) = some 1 := by decide +kernel
def f_X2_told (a1 : Int32) (S : sT) : Option (Int32) :=
 (if a1 = (-1 : Int32) then
 some (S.1 106 0 0)
 else
 (if a1 < (0 : Int32) then
 some (-1 : Int32)
 else
 (if (S.1 106 0 0) ≤ a1 then
 some (-1 : Int32)
 else
 (if (3 : Int32) ≤ a1 then
 some (-1 : Int32)
 else
 ck (vi a1 3) (
 some (S.1 20 0 (cl a1)))))))
set_option maxHeartbeats 4000000 in
set_option maxRecDepth 100000 in
theorem w_X2_told (C : Cx p s m args meth c cX2_told 2 RX2 g) (hr : meth.sig.returnType = (some .int)) {o : Int32} {a1 : Int32}  {S : sT} {H : Heap} {locs : List Loc} {ls : Array Slot} (hH : Hp g s S H locs) (hl : lv_has ls 2 [(0, .ref (gad g 5 0)), (1, .int a1)]) (h : f_X2_told a1 S = some o) : W p l e (rmL 1) s m args below meth c H locs 0 0 (Qm g below args s (some (.int o)) S) (F0 m 0 ls []) := by
  obtain ⟨hx, hb, hml, hown, hts, hlk, hK⟩ := id C
  unfold f_X2_told at h
  refine lv_iload_n hx hb dX2_told_0 rfl (lv_at hl 1 rfl) ?_
  refine lv_iconst (v := (-1 : Int32)) hx hb dX2_told_1 (by decide) ?_
  refine lv_icmp_ne (tgt := 10) hx hb dX2_told_2 (by decide) (fun c5 => ?_) (fun c5 => ?_)
  · replace h := if_f h c5
    refine lv_iload_n hx hb dX2_told_10 rfl (lv_at hl 1 rfl) ?_
    refine lv_if_lt (tgt := 36) hx hb dX2_told_11 (by decide) (fun c4 => ?_) (fun c4 => ?_)
    · replace h := if_t h c4
      refine lv_iconst (v := (-1 : Int32)) hx hb dX2_told_36 (by decide) ?_
      exact E_intc C hr hH h dX2_told_37
    · replace h := if_f h c4
      refine lv_iload_n hx hb dX2_told_14 rfl (lv_at hl 1 rfl) ?_
      refine lv_aload_n hx hb dX2_told_15 rfl (lv_at hl 0 rfl) ?_
      refine gf_X2_25 C hH dX2_told_16 ?_
      refine lv_icmp_ge (tgt := 36) hx hb dX2_told_19 (by decide) (fun c3 => ?_) (fun c3 => ?_)
      · replace h := if_t h c3
        refine lv_iconst (v := (-1 : Int32)) hx hb dX2_told_36 (by decide) ?_
        exact E_intc C hr hH h dX2_told_37
      · replace h := if_f h c3
        refine lv_iload_n hx hb dX2_told_22 rfl (lv_at hl 1 rfl) ?_
        refine lv_iconst (v := (3 : Int32)) hx hb dX2_told_23 (by decide) ?_
        refine lv_icmp_ge (tgt := 36) hx hb dX2_told_24 (by decide) (fun c2 => ?_) (fun c2 => ?_)
        · replace h := if_t h c2
          refine lv_iconst (v := (-1 : Int32)) hx hb dX2_told_36 (by decide) ?_
          exact E_intc C hr hH h dX2_told_37
        · replace h := if_f h c2
          refine lv_aload_n hx hb dX2_told_27 rfl (lv_at hl 0 rfl) ?_
          refine gf_X2_18 C hH dX2_told_28 ?_
          refine lv_iload_n hx hb dX2_told_31 rfl (lv_at hl 1 rfl) ?_
          obtain ⟨hv1, h⟩ := ck_e h
          refine r_ald C hH ka_20 (by decide) (by decide) (vi_in hv1) dX2_told_32 ?_
          refine lv_goto (tgt := 37) hx hb dX2_told_33 (by decide) ?_
          exact E_intc C hr hH h dX2_told_37
  · replace h := if_t h c5
    refine lv_aload_n hx hb dX2_told_5 rfl (lv_at hl 0 rfl) ?_
    refine gf_X2_25 C hH dX2_told_6 ?_
    exact E_intc C hr hH h dX2_told_9
theorem c_X2_told (l : Launch) (g : gT) {a1 : Int32}  {S : sT} {r : Int32} (h : f_X2_told a1 S = some r) : MF l yX2_told cX2_told 2 (some .int) 1 g [.ref (gad g 5 0), .int a1] S (some (.int r)) S := by
  refine MF.of (own := RX2) rfl rfl (Nat.le_of_ble_eq_true rfl) ?_
  intro p e s m below meth c C hr hH ls hl
  exact w_X2_told C hr (o := r)  hH hl h
theorem nd_X2_canOpen : yX2_canOpen.cls ≠ "java/lang/invoke/MethodHandle" ∧ yX2_canOpen.cls ≠ "java/lang/invoke/VarHandle" ∧ (parseMethodDescriptor yX2_canOpen.desc).map (fun d => d.parameters.length) = some 6 := by decide +kernel
def b_X2_canOpen_50 (rec : Nat → Int32 → Int32 → Int32 → sT → Option (Int32 × sT)) (w1 : Nat) (a3 : Int32) (a5 : Int32) (a6 : Int32) (x10 : Int32) (S11 : sT) (k12 : Int32 → sT → Option (Int32 × sT)) : Option (Int32 × sT) :=
 bn (f_X9_columnCount w1 S11) (fun r14 =>
 (if r14 ≤ x10 then
 some ((0 : Int32), S11)
 else
 bn2 (f_X9_take w1 x10 S11) (fun r16 S17 =>
 jn (fun (S18 : sT) => lt (x10 + (1 : Int32)) (fun x19 =>
 k12 x19 S18))
 (fun j20 => (if r16 = (-1 : Int32) then
 j20 S17
 else
 ck (vi a5 3) (
 lt (us S17 20 0 (cl a5) x10) (fun S22 =>
 bn2 (rec w1 a3 (a5 + (1 : Int32)) a6 S22) (fun r24 S25 =>
 bn2 (f_X9_put w1 x10 r16 S25) (fun r27 S28 =>
 (if r24 = (0 : Int32) then
 j20 S28
 else
 some ((1 : Int32), S28)))))))))))
def l_X2_canOpen_50 (rec : Nat → Int32 → Int32 → Int32 → sT → Option (Int32 × sT)) (w1 : Nat) (a3 : Int32) (a5 : Int32) (a6 : Int32) : Nat → Int32 → sT → Option (Int32 × sT)
 | 0, _, _ => none
 | n + 1, x10, S11 => b_X2_canOpen_50 rec w1 a3 a5 a6 x10 S11 (l_X2_canOpen_50 rec w1 a3 a5 a6 n)
theorem l_X2_canOpen_50_s (rec : Nat → Int32 → Int32 → Int32 → sT → Option (Int32 × sT)) (w1 : Nat) (a3 : Int32) (a5 : Int32) (a6 : Int32) (n : Nat) (x10 : Int32) (S11 : sT) : l_X2_canOpen_50 rec w1 a3 a5 a6 (n + 1) x10 S11 = b_X2_canOpen_50 rec w1 a3 a5 a6 x10 S11 (l_X2_canOpen_50 rec w1 a3 a5 a6 n) := rfl
def s_X2_canOpen (rec : Nat → Int32 → Int32 → Int32 → sT → Option (Int32 × sT)) (w1 : Nat) (a3 : Int32) (a5 : Int32) (a6 : Int32) (S : sT) : Option (Int32 × sT) :=
 jn (bn (f_X9_sunny w1 S) (fun r2 =>
 (if r2 < a3 then
 some ((0 : Int32), S)
 else
 bn (f_X9_stands w1 S) (fun r4 =>
 (if r4 = (0 : Int32) then
 some ((0 : Int32), S)
 else
 some ((1 : Int32), S))))))
 (fun j7 => (if a5 < (0 : Int32) then
 j7
 else
 (if a6 ≤ a5 then
 j7
 else
 (if a5 < (3 : Int32) then
 bn (f_X2_leastAt a5 S) (fun r9 =>
 l_X2_canOpen_50 rec w1 a3 a5 a6 FU r9 S)
 else
 j7))))
def f_X2_canOpen : Nat → Nat → Int32 → Int32 → Int32 → sT → Option (Int32 × sT)
 | 0, _, _, _, _, _ => none
 | n + 1, w1, a3, a5, a6, S => s_X2_canOpen (f_X2_canOpen n) w1 a3 a5 a6 S
set_option maxHeartbeats 4000000 in
set_option maxRecDepth 100000 in
theorem w_X2_canOpen_50 {d : Nat} (C : Cx p s m args meth c cX2_canOpen 9 RX2 g) (hr : meth.sig.returnType = (some .boolean)) {o : Int32 × sT} {rec : Nat → Int32 → Int32 → Int32 → sT → Option (Int32 × sT)} (hrec : ∀ (w1 : Nat) (a3 : Int32) (a5 : Int32) (a6 : Int32) (S : sT) (r : Int32) (S1 : sT), w1 < 16 →  rec w1 a3 a5 a6 S = some (r, S1) → MF l yX2_canOpen cX2_canOpen 9 (some .boolean) (4 + d) g [.ref (gad g 9 w1), .ref (gad g 2 0), .int a3, .ref (gad g 20 0), .int a5, .int a6] S (some (.int r)) S1) {w1 : Nat} {a3 : Int32} {a5 : Int32} {a6 : Int32} (hw1 : w1 < 16)  : ∀ (n : Nat) (x10 : Int32) (S11 : sT) (H : Heap) (locs : List Loc) (ls : Array Slot), Hp g s S11 H locs → lv_has ls 9 [(0, .ref (gad g 9 w1)), (1, .ref (gad g 2 0)), (2, .int a3), (3, .ref (gad g 20 0)), (4, .int a5), (5, .int a6), (6, .int x10)] → l_X2_canOpen_50 rec w1 a3 a5 a6 n x10 S11 = some o → W p l e (rmL (4 + d + 1)) s m args below meth c H locs 0 0 (Qm g below args s (some (.int o.1)) o.2) (F0 m 50 ls []) := by
  obtain ⟨hx, hb, hml, hown, hts, hlk, hK⟩ := id C
  intro n
  induction n with
  | zero =>
    intro x10 S11 H locs ls hH hl h
    cases h
  | succ n ih =>
    intro x10 S11 H locs ls hH hl h
    rw [l_X2_canOpen_50_s] at h
    unfold b_X2_canOpen_50 at h
    refine lv_iload hx hb dX2_canOpen_50 (lv_at hl 6 rfl) ?_
    refine lv_aload_n hx hb dX2_canOpen_52 rfl (lv_at hl 0 rfl) ?_
    obtain ⟨r14, hc13, h⟩ := bn_e h
    refine r_callV1 (ki := 9) (i := w1) (ci := 8) (As := []) C hl.1 hH (c_X9_columnCount l g hw1 hc13) q695 q80 q692 q693 q694 nd_X9_columnCount rfl ⟨by simp only [rmL]; omega, by simp only [rmL]; omega⟩ ⟨Nat.zero_le _, Nat.zero_le _⟩ (by decide) hw1 ⟨_, rfl⟩ rfl (Nat.le_of_ble_eq_true rfl) dX2_canOpen_53 (fun H locs hH => ?_)
    refine lv_icmp_ge (tgt := 116) hx hb dX2_canOpen_56 (by decide) (fun c31 => ?_) (fun c31 => ?_)
    · replace h := if_t h c31
      refine lv_iconst (v := (0 : Int32)) hx hb dX2_canOpen_116 (by decide) ?_
      exact E_bool C hr hH rfl h dX2_canOpen_117
    · replace h := if_f h c31
      refine lv_aload_n hx hb dX2_canOpen_59 rfl (lv_at hl 0 rfl) ?_
      refine lv_iload hx hb dX2_canOpen_60 (lv_at hl 6 rfl) ?_
      obtain ⟨r16, S17, hc15, h⟩ := bn2_e h
      refine r_callV1 (ki := 9) (i := w1) (ci := 8) (As := [.int x10]) C hl.1 hH (c_X9_take l g hw1 hc15) q289 q80 q655 q287 q288 nd_X9_take rfl ⟨by simp only [rmL]; omega, by simp only [rmL]; omega⟩ ⟨Nat.zero_le _, Nat.zero_le _⟩ (by decide) hw1 ⟨_, rfl⟩ rfl (Nat.le_of_ble_eq_true rfl) dX2_canOpen_62 (fun H locs hH => ?_)
      refine lv_istore (lv' := [(7, .int r16), (0, .ref (gad g 9 w1)), (1, .ref (gad g 2 0)), (2, .int a3), (3, .ref (gad g 20 0)), (4, .int a5), (5, .int a6), (6, .int x10)]) hx hb dX2_canOpen_65 hl (by decide) rfl (fun ls hl => ?_)
      refine lv_iload hx hb dX2_canOpen_67 (lv_at hl 0 rfl) ?_
      refine lv_iconst (v := (-1 : Int32)) hx hb dX2_canOpen_69 (by decide) ?_
      obtain ⟨j20, ej20, h⟩ := jn_e h
      have hj20 : ∀ (S18 : sT) (H : Heap) (locs : List Loc) (ls : Array Slot), Hp g s S18 H locs → lv_has ls 9 [(0, .ref (gad g 9 w1)), (1, .ref (gad g 2 0)), (2, .int a3), (3, .ref (gad g 20 0)), (4, .int a5), (5, .int a6), (6, .int x10)] → j20 S18 = some o → W p l e (rmL (4 + d + 1)) s m args below meth c H locs 0 0 (Qm g below args s (some (.int o.1)) o.2) (F0 m 110 ls []) := by
        intro S18 H locs ls hH hl h
        rw [ej20] at h
        try dsimp only at h
        obtain ⟨x19, ex19⟩ : ∃ z : Int32, z = (x10 + (1 : Int32)) := ⟨_, rfl⟩
        replace h := lt_e h ex19
        refine lv_iinc (v := x19) (lv' := [(6, .int x19), (0, .ref (gad g 9 w1)), (1, .ref (gad g 2 0)), (2, .int a3), (3, .ref (gad g 20 0)), (4, .int a5), (5, .int a6)]) hx hb dX2_canOpen_110 hl (k := 6) rfl (by rw [ex19]; rfl) (by decide) rfl (fun ls hl => ?_)
        refine lv_goto (tgt := 50) hx hb dX2_canOpen_113 (by decide) ?_
        exact ih _ _ _ _ _ hH (lv_sub hl [1, 2, 3, 4, 5, 6, 0] rfl) h
      clear ej20
      refine lv_icmp_eq (tgt := 110) hx hb dX2_canOpen_70 (by decide) (fun c30 => ?_) (fun c30 => ?_)
      · replace h := if_t h c30
        exact hj20 _ _ _ _ hH (lv_sub hl [1, 2, 3, 4, 5, 6, 7] rfl) h
      · replace h := if_f h c30
        refine lv_aload_n hx hb dX2_canOpen_73 rfl (lv_at hl 4 rfl) ?_
        refine lv_iload hx hb dX2_canOpen_74 (lv_at hl 5 rfl) ?_
        refine lv_iload hx hb dX2_canOpen_76 (lv_at hl 7 rfl) ?_
        obtain ⟨hv21, h⟩ := ck_e h
        refine r_ast C hH ka_20 ko_20 (by decide) (by decide) (vi_in hv21) dX2_canOpen_78 (fun S22 H locs eS hH => ?_)
        replace h := lt_e h eS
        refine lv_aload_n hx hb dX2_canOpen_79 rfl (lv_at hl 1 rfl) ?_
        refine lv_aload_n hx hb dX2_canOpen_80 rfl (lv_at hl 2 rfl) ?_
        refine lv_iload_n hx hb dX2_canOpen_81 rfl (lv_at hl 3 rfl) ?_
        refine lv_aload_n hx hb dX2_canOpen_82 rfl (lv_at hl 4 rfl) ?_
        refine lv_iload hx hb dX2_canOpen_83 (lv_at hl 5 rfl) ?_
        refine lv_iconst (v := (1 : Int32)) hx hb dX2_canOpen_85 (by decide) ?_
        refine lv_iadd hx hb dX2_canOpen_86 ?_
        refine lv_iload hx hb dX2_canOpen_87 (lv_at hl 6 rfl) ?_
        obtain ⟨r24, S25, hc23, h⟩ := bn2_e h
        refine r_callS1 (As := [.ref (gad g 9 w1), .ref (gad g 2 0), .int a3, .ref (gad g 20 0), .int (a5 + (1 : Int32)), .int a6]) C hl.1 hH (hrec w1 a3 (a5 + (1 : Int32)) a6 _ _ _ hw1 hc23) q690 q31 q688 q689 nd_X2_canOpen rfl ⟨by simp only [rmL]; omega, by simp only [rmL]; omega⟩ ⟨Nat.zero_le _, Nat.zero_le _⟩ (Nat.le_of_ble_eq_true rfl) dX2_canOpen_89 (fun H locs hH => ?_)
        refine lv_istore (lv' := [(8, .int r24), (7, .int r16), (0, .ref (gad g 9 w1)), (1, .ref (gad g 2 0)), (2, .int a3), (3, .ref (gad g 20 0)), (4, .int a5), (5, .int a6), (6, .int x10)]) hx hb dX2_canOpen_92 hl (by decide) rfl (fun ls hl => ?_)
        refine lv_aload_n hx hb dX2_canOpen_94 rfl (lv_at hl 2 rfl) ?_
        refine lv_iload hx hb dX2_canOpen_95 (lv_at hl 8 rfl) ?_
        refine lv_iload hx hb dX2_canOpen_97 (lv_at hl 1 rfl) ?_
        obtain ⟨r27, S28, hc26, h⟩ := bn2_e h
        refine r_callV1 (ki := 9) (i := w1) (ci := 8) (As := [.int x10, .int r16]) C hl.1 hH (c_X9_put l g hw1 hc26) q197 q80 q654 q195 q196 nd_X9_put rfl ⟨by simp only [rmL]; omega, by simp only [rmL]; omega⟩ ⟨Nat.zero_le _, Nat.zero_le _⟩ (by decide) hw1 ⟨_, rfl⟩ rfl (Nat.le_of_ble_eq_true rfl) dX2_canOpen_99 (fun H locs hH => ?_)
        refine lv_pop hx hb dX2_canOpen_102 rfl ?_
        refine lv_iload hx hb dX2_canOpen_103 (lv_at hl 0 rfl) ?_
        refine lv_if_eq (tgt := 110) hx hb dX2_canOpen_105 (by decide) (fun c29 => ?_) (fun c29 => ?_)
        · replace h := if_t h c29
          exact hj20 _ _ _ _ hH (lv_sub hl [2, 3, 4, 5, 6, 7, 8] rfl) h
        · replace h := if_f h c29
          refine lv_iconst (v := (1 : Int32)) hx hb dX2_canOpen_108 (by decide) ?_
          exact E_bool C hr hH rfl h dX2_canOpen_109
set_option maxHeartbeats 4000000 in
set_option maxRecDepth 100000 in
theorem w_X2_canOpen {d : Nat} {rec : Nat → Int32 → Int32 → Int32 → sT → Option (Int32 × sT)} (hrec : ∀ (w1 : Nat) (a3 : Int32) (a5 : Int32) (a6 : Int32) (S : sT) (r : Int32) (S1 : sT), w1 < 16 →  rec w1 a3 a5 a6 S = some (r, S1) → MF l yX2_canOpen cX2_canOpen 9 (some .boolean) (4 + d) g [.ref (gad g 9 w1), .ref (gad g 2 0), .int a3, .ref (gad g 20 0), .int a5, .int a6] S (some (.int r)) S1) (C : Cx p s m args meth c cX2_canOpen 9 RX2 g) (hr : meth.sig.returnType = (some .boolean)) {o : Int32 × sT} {w1 : Nat} {a3 : Int32} {a5 : Int32} {a6 : Int32} (hw1 : w1 < 16) {S : sT} {H : Heap} {locs : List Loc} {ls : Array Slot} (hH : Hp g s S H locs) (hl : lv_has ls 9 [(0, .ref (gad g 9 w1)), (1, .ref (gad g 2 0)), (2, .int a3), (3, .ref (gad g 20 0)), (4, .int a5), (5, .int a6)]) (h : s_X2_canOpen rec w1 a3 a5 a6 S = some o) : W p l e (rmL (4 + d + 1)) s m args below meth c H locs 0 0 (Qm g below args s (some (.int o.1)) o.2) (F0 m 0 ls []) := by
  obtain ⟨hx, hb, hml, hown, hts, hlk, hK⟩ := id C
  unfold s_X2_canOpen at h
  refine lv_iload hx hb dX2_canOpen_0 (lv_at hl 4 rfl) ?_
  obtain ⟨j7, ej7, h⟩ := jn_e h
  have hj7 : ∀  (H : Heap) (locs : List Loc) (ls : Array Slot), Hp g s S H locs → lv_has ls 9 [(0, .ref (gad g 9 w1)), (1, .ref (gad g 2 0)), (2, .int a3)] → j7  = some o → W p l e (rmL (4 + d + 1)) s m args below meth c H locs 0 0 (Qm g below args s (some (.int o.1)) o.2) (F0 m 19 ls []) := by
    intro  H locs ls hH hl h
    rw [ej7] at h
    try dsimp only at h
    refine lv_aload_n hx hb dX2_canOpen_19 rfl (lv_at hl 0 rfl) ?_
    refine lv_aload_n hx hb dX2_canOpen_20 rfl (lv_at hl 1 rfl) ?_
    obtain ⟨r2, hc1, h⟩ := bn_e h
    refine r_callV1 (ki := 9) (i := w1) (ci := 8) (As := [.ref (gad g 2 0)]) C hl.1 hH (c_X9_sunny l g hw1 hc1) q528 q80 q691 q526 q527 nd_X9_sunny rfl ⟨by simp only [rmL]; omega, by simp only [rmL]; omega⟩ ⟨Nat.zero_le _, Nat.zero_le _⟩ (by decide) hw1 ⟨_, rfl⟩ rfl (Nat.le_of_ble_eq_true rfl) dX2_canOpen_21 (fun H locs hH => ?_)
    refine lv_iload_n hx hb dX2_canOpen_24 rfl (lv_at hl 2 rfl) ?_
    refine lv_icmp_lt (tgt := 40) hx hb dX2_canOpen_25 (by decide) (fun c6 => ?_) (fun c6 => ?_)
    · replace h := if_t h c6
      refine lv_iconst (v := (0 : Int32)) hx hb dX2_canOpen_40 (by decide) ?_
      exact E_bool C hr hH rfl h dX2_canOpen_41
    · replace h := if_f h c6
      refine lv_aload_n hx hb dX2_canOpen_28 rfl (lv_at hl 0 rfl) ?_
      refine lv_aload_n hx hb dX2_canOpen_29 rfl (lv_at hl 1 rfl) ?_
      obtain ⟨r4, hc3, h⟩ := bn_e h
      refine r_callV1 (ki := 9) (i := w1) (ci := 8) (As := [.ref (gad g 2 0)]) C hl.1 hH (c_X9_stands l g hw1 hc3) q650 q80 q647 q648 q649 nd_X9_stands rfl ⟨by simp only [rmL]; omega, by simp only [rmL]; omega⟩ ⟨Nat.zero_le _, Nat.zero_le _⟩ (by decide) hw1 ⟨_, rfl⟩ rfl (Nat.le_of_ble_eq_true rfl) dX2_canOpen_30 (fun H locs hH => ?_)
      refine lv_if_eq (tgt := 40) hx hb dX2_canOpen_33 (by decide) (fun c5 => ?_) (fun c5 => ?_)
      · replace h := if_t h c5
        refine lv_iconst (v := (0 : Int32)) hx hb dX2_canOpen_40 (by decide) ?_
        exact E_bool C hr hH rfl h dX2_canOpen_41
      · replace h := if_f h c5
        refine lv_iconst (v := (1 : Int32)) hx hb dX2_canOpen_36 (by decide) ?_
        refine lv_goto (tgt := 41) hx hb dX2_canOpen_37 (by decide) ?_
        exact E_bool C hr hH rfl h dX2_canOpen_41
  clear ej7
  refine lv_if_lt (tgt := 19) hx hb dX2_canOpen_2 (by decide) (fun c34 => ?_) (fun c34 => ?_)
  · replace h := if_t h c34
    exact hj7 _ _ _ hH (lv_sub hl [0, 1, 2] rfl) h
  · replace h := if_f h c34
    refine lv_iload hx hb dX2_canOpen_5 (lv_at hl 4 rfl) ?_
    refine lv_iload hx hb dX2_canOpen_7 (lv_at hl 5 rfl) ?_
    refine lv_icmp_ge (tgt := 19) hx hb dX2_canOpen_9 (by decide) (fun c33 => ?_) (fun c33 => ?_)
    · replace h := if_t h c33
      exact hj7 _ _ _ hH (lv_sub hl [0, 1, 2] rfl) h
    · replace h := if_f h c33
      refine lv_iload hx hb dX2_canOpen_12 (lv_at hl 4 rfl) ?_
      refine lv_aload_n hx hb dX2_canOpen_14 rfl (lv_at hl 3 rfl) ?_
      refine r_alen C hH ka_20 (by decide) (by decide) (v := (3 : Int32)) (by decide) dX2_canOpen_15 ?_
      refine lv_icmp_lt (tgt := 42) hx hb dX2_canOpen_16 (by decide) (fun c32 => ?_) (fun c32 => ?_)
      · replace h := if_t h c32
        refine lv_aload_n hx hb dX2_canOpen_42 rfl (lv_at hl 3 rfl) ?_
        refine lv_iload hx hb dX2_canOpen_43 (lv_at hl 4 rfl) ?_
        obtain ⟨r9, hc8, h⟩ := bn_e h
        refine r_callS1 (As := [.ref (gad g 20 0), .int a5]) C hl.1 hH (c_X2_leastAt l g  hc8) q653 q31 q651 q652 nd_X2_leastAt rfl ⟨by simp only [rmL]; omega, by simp only [rmL]; omega⟩ ⟨Nat.zero_le _, Nat.zero_le _⟩ (Nat.le_of_ble_eq_true rfl) dX2_canOpen_45 (fun H locs hH => ?_)
        refine lv_istore (lv' := [(6, .int r9), (0, .ref (gad g 9 w1)), (1, .ref (gad g 2 0)), (2, .int a3), (3, .ref (gad g 20 0)), (4, .int a5), (5, .int a6)]) hx hb dX2_canOpen_48 hl (by decide) rfl (fun ls hl => ?_)
        exact w_X2_canOpen_50 C hr hrec hw1  _ _ _ _ _ _ hH (lv_sub hl [1, 2, 3, 4, 5, 6, 0] rfl) h
      · replace h := if_f h c32
        exact hj7 _ _ _ hH (lv_sub hl [0, 1, 2] rfl) h
theorem cr_X2_canOpen (l : Launch) (g : gT) : ∀ (d : Nat) (w1 : Nat) (a3 : Int32) (a5 : Int32) (a6 : Int32) (S : sT) (r : Int32) (S1 : sT), w1 < 16 →  f_X2_canOpen d w1 a3 a5 a6 S = some (r, S1) → MF l yX2_canOpen cX2_canOpen 9 (some .boolean) (4 + d) g [.ref (gad g 9 w1), .ref (gad g 2 0), .int a3, .ref (gad g 20 0), .int a5, .int a6] S (some (.int r)) S1 := by
  intro d
  induction d with
  | zero =>
    intro w1 a3 a5 a6 S r S1 hw1 h
    cases h
  | succ d ih =>
    intro w1 a3 a5 a6 S r S1 hw1 h
    refine MF.of (own := RX2) rfl rfl (Nat.le_of_ble_eq_true rfl) ?_
    intro p e s m below meth c C hr hH ls hl
    exact w_X2_canOpen ih C hr (o := (r, S1)) hw1 hH hl h
theorem c_X2_canOpen (l : Launch) (g : gT) {w1 : Nat} {a3 : Int32} {a5 : Int32} {a6 : Int32} (hw1 : w1 < 16) {S : sT} {r : Int32} {S1 : sT} (h : f_X2_canOpen 12 w1 a3 a5 a6 S = some (r, S1)) : MF l yX2_canOpen cX2_canOpen 9 (some .boolean) 16 g [.ref (gad g 9 w1), .ref (gad g 2 0), .int a3, .ref (gad g 20 0), .int a5, .int a6] S (some (.int r)) S1 := cr_X2_canOpen l g 12 _ _ _ _ _ _ _ hw1 h
theorem nd_X2_searchOpen : yX2_searchOpen.cls ≠ "java/lang/invoke/MethodHandle" ∧ yX2_searchOpen.cls ≠ "java/lang/invoke/VarHandle" ∧ (parseMethodDescriptor yX2_searchOpen.desc).map (fun d => d.parameters.length) = some 3 := by decide +kernel
def b_X2_searchOpen_16 (a3 : Int32) (x4 : Int32) (S5 : sT) (k6 : Int32 → sT → Option (sT)) : Option (sT) :=
 (if (3 : Int32) < x4 then
 some S5
 else
 (if (S5.1 106 0 0) = (-1 : Int32) then
 bn2 (f_X2_canOpen 12 14 a3 (0 : Int32) x4 S5) (fun r8 S9 =>
 jn (fun (S10 : sT) => lt (x4 + (1 : Int32)) (fun x11 =>
 k6 x11 S10))
 (fun j12 => (if r8 = (0 : Int32) then
 j12 S9
 else
 lt (us S9 106 0 0 x4) (fun S13 =>
 j12 S13))))
 else
 some S5))
def l_X2_searchOpen_16 (a3 : Int32) : Nat → Int32 → sT → Option (sT)
 | 0, _, _ => none
 | n + 1, x4, S5 => b_X2_searchOpen_16 a3 x4 S5 (l_X2_searchOpen_16 a3 n)
theorem l_X2_searchOpen_16_s (a3 : Int32) (n : Nat) (x4 : Int32) (S5 : sT) : l_X2_searchOpen_16 a3 (n + 1) x4 S5 = b_X2_searchOpen_16 a3 x4 S5 (l_X2_searchOpen_16 a3 n) := rfl
def f_X2_searchOpen (w1 : Nat) (a3 : Int32) (S : sT) : Option (sT) :=
 bn (f_X9_become 14 w1 S) (fun S2 =>
 lt (us S2 106 0 0 (-1 : Int32)) (fun S3 =>
 l_X2_searchOpen_16 a3 FU (0 : Int32) S3))
set_option maxHeartbeats 4000000 in
set_option maxRecDepth 100000 in
theorem w_X2_searchOpen_16 (C : Cx p s m args meth c cX2_searchOpen 5 RX2 g) (hr : meth.sig.returnType = none) {o : sT}  {a3 : Int32}   : ∀ (n : Nat) (x4 : Int32) (S5 : sT) (H : Heap) (locs : List Loc) (ls : Array Slot), Hp g s S5 H locs → lv_has ls 5 [(0, .ref (gad g 5 0)), (2, .ref (gad g 2 0)), (3, .int a3), (4, .int x4)] → l_X2_searchOpen_16 a3 n x4 S5 = some o → W p l e (rmL 18) s m args below meth c H locs 0 0 (Qm g below args s none o) (F0 m 16 ls []) := by
  obtain ⟨hx, hb, hml, hown, hts, hlk, hK⟩ := id C
  intro n
  induction n with
  | zero =>
    intro x4 S5 H locs ls hH hl h
    cases h
  | succ n ih =>
    intro x4 S5 H locs ls hH hl h
    rw [l_X2_searchOpen_16_s] at h
    unfold b_X2_searchOpen_16 at h
    refine lv_iload hx hb dX2_searchOpen_16 (lv_at hl 3 rfl) ?_
    refine lv_iconst (v := (3 : Int32)) hx hb dX2_searchOpen_18 (by decide) ?_
    refine lv_icmp_gt (tgt := 61) hx hb dX2_searchOpen_19 (by decide) (fun c16 => ?_) (fun c16 => ?_)
    · replace h := if_t h c16
      exact E_void C hr hH h dX2_searchOpen_61
    · replace h := if_f h c16
      refine lv_aload_n hx hb dX2_searchOpen_22 rfl (lv_at hl 0 rfl) ?_
      refine gf_X2_25 C hH dX2_searchOpen_23 ?_
      refine lv_iconst (v := (-1 : Int32)) hx hb dX2_searchOpen_26 (by decide) ?_
      refine lv_icmp_ne (tgt := 61) hx hb dX2_searchOpen_27 (by decide) (fun c15 => ?_) (fun c15 => ?_)
      · replace h := if_f h c15
        exact E_void C hr hH h dX2_searchOpen_61
      · replace h := if_t h c15
        refine lv_aload_n hx hb dX2_searchOpen_30 rfl (lv_at hl 0 rfl) ?_
        refine gf_X2_12 C hH dX2_searchOpen_31 ?_
        refine lv_aload_n hx hb dX2_searchOpen_34 rfl (lv_at hl 1 rfl) ?_
        refine lv_iload_n hx hb dX2_searchOpen_35 rfl (lv_at hl 2 rfl) ?_
        refine lv_aload_n hx hb dX2_searchOpen_36 rfl (lv_at hl 0 rfl) ?_
        refine gf_X2_18 C hH dX2_searchOpen_37 ?_
        refine lv_iconst (v := (0 : Int32)) hx hb dX2_searchOpen_40 (by decide) ?_
        refine lv_iload hx hb dX2_searchOpen_41 (lv_at hl 3 rfl) ?_
        obtain ⟨r8, S9, hc7, h⟩ := bn2_e h
        refine r_callS1 (As := [.ref (gad g 9 14), .ref (gad g 2 0), .int a3, .ref (gad g 20 0), .int (0 : Int32), .int x4]) C hl.1 hH (c_X2_canOpen l g (by decide) hc7) q690 q31 q688 q689 nd_X2_canOpen rfl (by decide) ⟨Nat.zero_le _, Nat.zero_le _⟩ (Nat.le_of_ble_eq_true rfl) dX2_searchOpen_43 (fun H locs hH => ?_)
        obtain ⟨j12, ej12, h⟩ := jn_e h
        have hj12 : ∀ (S10 : sT) (H : Heap) (locs : List Loc) (ls : Array Slot), Hp g s S10 H locs → lv_has ls 5 [(0, .ref (gad g 5 0)), (2, .ref (gad g 2 0)), (3, .int a3), (4, .int x4)] → j12 S10 = some o → W p l e (rmL 18) s m args below meth c H locs 0 0 (Qm g below args s none o) (F0 m 55 ls []) := by
          intro S10 H locs ls hH hl h
          rw [ej12] at h
          try dsimp only at h
          obtain ⟨x11, ex11⟩ : ∃ z : Int32, z = (x4 + (1 : Int32)) := ⟨_, rfl⟩
          replace h := lt_e h ex11
          refine lv_iinc (v := x11) (lv' := [(4, .int x11), (0, .ref (gad g 5 0)), (2, .ref (gad g 2 0)), (3, .int a3)]) hx hb dX2_searchOpen_55 hl (k := 3) rfl (by rw [ex11]; rfl) (by decide) rfl (fun ls hl => ?_)
          refine lv_goto (tgt := 16) hx hb dX2_searchOpen_58 (by decide) ?_
          exact ih _ _ _ _ _ hH (lv_sub hl [1, 2, 3, 0] rfl) h
        clear ej12
        refine lv_if_eq (tgt := 55) hx hb dX2_searchOpen_46 (by decide) (fun c14 => ?_) (fun c14 => ?_)
        · replace h := if_t h c14
          exact hj12 _ _ _ _ hH (lv_sub hl [0, 1, 2, 3] rfl) h
        · replace h := if_f h c14
          refine lv_aload_n hx hb dX2_searchOpen_49 rfl (lv_at hl 0 rfl) ?_
          refine lv_iload hx hb dX2_searchOpen_50 (lv_at hl 3 rfl) ?_
          refine pf_X2_25 C hH dX2_searchOpen_52 (fun S13 H locs eS hH => ?_)
          replace h := lt_e h eS
          exact hj12 _ _ _ _ hH (lv_sub hl [0, 1, 2, 3] rfl) h
set_option maxHeartbeats 4000000 in
set_option maxRecDepth 100000 in
theorem w_X2_searchOpen (C : Cx p s m args meth c cX2_searchOpen 5 RX2 g) (hr : meth.sig.returnType = none) {o : sT} {w1 : Nat} {a3 : Int32} (hw1 : w1 < 16) {S : sT} {H : Heap} {locs : List Loc} {ls : Array Slot} (hH : Hp g s S H locs) (hl : lv_has ls 5 [(0, .ref (gad g 5 0)), (1, .ref (gad g 9 w1)), (2, .ref (gad g 2 0)), (3, .int a3)]) (h : f_X2_searchOpen w1 a3 S = some o) : W p l e (rmL 18) s m args below meth c H locs 0 0 (Qm g below args s none o) (F0 m 0 ls []) := by
  obtain ⟨hx, hb, hml, hown, hts, hlk, hK⟩ := id C
  unfold f_X2_searchOpen at h
  refine lv_aload_n hx hb dX2_searchOpen_0 rfl (lv_at hl 0 rfl) ?_
  refine gf_X2_12 C hH dX2_searchOpen_1 ?_
  refine lv_aload_n hx hb dX2_searchOpen_4 rfl (lv_at hl 1 rfl) ?_
  obtain ⟨S2, hc1, h⟩ := bn_e h
  refine r_callV0 (ki := 9) (i := 14) (ci := 8) (As := [.ref (gad g 9 w1)]) C hl.1 hH (c_X9_become l g (by decide) hw1 hc1) q258 q80 q643 q256 q257 nd_X9_become rfl (by decide) ⟨Nat.zero_le _, Nat.zero_le _⟩ (by decide) (by decide) ⟨_, rfl⟩ rfl (Nat.le_of_ble_eq_true rfl) dX2_searchOpen_5 (fun H locs hH => ?_)
  refine lv_aload_n hx hb dX2_searchOpen_8 rfl (lv_at hl 0 rfl) ?_
  refine lv_iconst (v := (-1 : Int32)) hx hb dX2_searchOpen_9 (by decide) ?_
  refine pf_X2_25 C hH dX2_searchOpen_10 (fun S3 H locs eS hH => ?_)
  replace h := lt_e h eS
  refine lv_iconst (v := (0 : Int32)) hx hb dX2_searchOpen_13 (by decide) ?_
  refine lv_istore (lv' := [(4, .int (0 : Int32)), (0, .ref (gad g 5 0)), (1, .ref (gad g 9 w1)), (2, .ref (gad g 2 0)), (3, .int a3)]) hx hb dX2_searchOpen_14 hl (by decide) rfl (fun ls hl => ?_)
  exact w_X2_searchOpen_16 C hr   _ _ _ _ _ _ hH (lv_sub hl [1, 3, 4, 0] rfl) h
theorem c_X2_searchOpen (l : Launch) (g : gT) {w1 : Nat} {a3 : Int32} (hw1 : w1 < 16) {S : sT} {S1 : sT} (h : f_X2_searchOpen w1 a3 S = some S1) : MF l yX2_searchOpen cX2_searchOpen 5 none 18 g [.ref (gad g 5 0), .ref (gad g 9 w1), .ref (gad g 2 0), .int a3] S none S1 := by
  refine MF.of (own := RX2) rfl rfl (Nat.le_of_ble_eq_true rfl) ?_
  intro p e s m below meth c C hr hH ls hl
  exact w_X2_searchOpen C hr (o := S1) hw1 hH hl h
theorem nd_X2_firstMove : yX2_firstMove.cls ≠ "java/lang/invoke/MethodHandle" ∧ yX2_firstMove.cls ≠ "java/lang/invoke/VarHandle" ∧ (parseMethodDescriptor yX2_firstMove.desc).map (fun d => d.parameters.length) = some 0 := by decide +kernel
def f_X2_firstMove  (S : sT) : Option (Int32) :=
 some (S.1 107 0 0)
set_option maxHeartbeats 4000000 in
set_option maxRecDepth 100000 in
theorem w_X2_firstMove (C : Cx p s m args meth c cX2_firstMove 1 RX2 g) (hr : meth.sig.returnType = (some .int)) {o : Int32}   {S : sT} {H : Heap} {locs : List Loc} {ls : Array Slot} (hH : Hp g s S H locs) (hl : lv_has ls 1 [(0, .ref (gad g 5 0))]) (h : f_X2_firstMove  S = some o) : W p l e (rmL 1) s m args below meth c H locs 0 0 (Qm g below args s (some (.int o)) S) (F0 m 0 ls []) := by
  obtain ⟨hx, hb, hml, hown, hts, hlk, hK⟩ := id C
  unfold f_X2_firstMove at h
  refine lv_aload_n hx hb dX2_firstMove_0 rfl (lv_at hl 0 rfl) ?_
  refine gf_X2_29 C hH dX2_firstMove_1 ?_
  exact E_intc C hr hH h dX2_firstMove_4
theorem c_X2_firstMove (l : Launch) (g : gT)   {S : sT} {r : Int32} (h : f_X2_firstMove  S = some r) : MF l yX2_firstMove cX2_firstMove 1 (some .int) 1 g [.ref (gad g 5 0)] S (some (.int r)) S := by
  refine MF.of (own := RX2) rfl rfl (Nat.le_of_ble_eq_true rfl) ?_
  intro p e s m below meth c C hr hH ls hl
  exact w_X2_firstMove C hr (o := r)  hH hl h
theorem nd_X2_isBetter : yX2_isBetter.cls ≠ "java/lang/invoke/MethodHandle" ∧ yX2_isBetter.cls ≠ "java/lang/invoke/VarHandle" ∧ (parseMethodDescriptor yX2_isBetter.desc).map (fun d => d.parameters.length) = some 3 := by decide +kernel
def f_X2_isBetter (a1 : Int32) (a2 : Int32) (a3 : Int32) (S : sT) : Option (Int32) :=
 (if a3 = (0 : Int32) then
 (if a1 ≤ a2 then
 some (0 : Int32)
 else
 some (1 : Int32))
 else
 (if a2 ≤ a1 then
 some (0 : Int32)
 else
 some (1 : Int32)))
set_option maxHeartbeats 4000000 in
set_option maxRecDepth 100000 in
theorem w_X2_isBetter (C : Cx p s m args meth c cX2_isBetter 3 RX2 g) (hr : meth.sig.returnType = (some .boolean)) {o : Int32} {a1 : Int32} {a2 : Int32} {a3 : Int32}  {S : sT} {H : Heap} {locs : List Loc} {ls : Array Slot} (hH : Hp g s S H locs) (hl : lv_has ls 3 [(0, .int a1), (1, .int a2), (2, .int a3)]) (h : f_X2_isBetter a1 a2 a3 S = some o) : W p l e (rmL 1) s m args below meth c H locs 0 0 (Qm g below args s (some (.int o)) S) (F0 m 0 ls []) := by
  obtain ⟨hx, hb, hml, hown, hts, hlk, hK⟩ := id C
  unfold f_X2_isBetter at h
  refine lv_iload_n hx hb dX2_isBetter_0 rfl (lv_at hl 2 rfl) ?_
  refine lv_if_ne (tgt := 17) hx hb dX2_isBetter_1 (by decide) (fun c3 => ?_) (fun c3 => ?_)
  · replace h := if_f h c3
    refine lv_iload_n hx hb dX2_isBetter_17 rfl (lv_at hl 0 rfl) ?_
    refine lv_iload_n hx hb dX2_isBetter_18 rfl (lv_at hl 1 rfl) ?_
    refine lv_icmp_ge (tgt := 26) hx hb dX2_isBetter_19 (by decide) (fun c1 => ?_) (fun c1 => ?_)
    · replace h := if_t h c1
      refine lv_iconst (v := (0 : Int32)) hx hb dX2_isBetter_26 (by decide) ?_
      exact E_boolc C hr hH rfl h dX2_isBetter_27
    · replace h := if_f h c1
      refine lv_iconst (v := (1 : Int32)) hx hb dX2_isBetter_22 (by decide) ?_
      refine lv_goto (tgt := 27) hx hb dX2_isBetter_23 (by decide) ?_
      exact E_boolc C hr hH rfl h dX2_isBetter_27
  · replace h := if_t h c3
    refine lv_iload_n hx hb dX2_isBetter_4 rfl (lv_at hl 0 rfl) ?_
    refine lv_iload_n hx hb dX2_isBetter_5 rfl (lv_at hl 1 rfl) ?_
    refine lv_icmp_le (tgt := 13) hx hb dX2_isBetter_6 (by decide) (fun c2 => ?_) (fun c2 => ?_)
    · replace h := if_t h c2
      refine lv_iconst (v := (0 : Int32)) hx hb dX2_isBetter_13 (by decide) ?_
      refine lv_goto (tgt := 27) hx hb dX2_isBetter_14 (by decide) ?_
      exact E_boolc C hr hH rfl h dX2_isBetter_27
    · replace h := if_f h c2
      refine lv_iconst (v := (1 : Int32)) hx hb dX2_isBetter_9 (by decide) ?_
      refine lv_goto (tgt := 27) hx hb dX2_isBetter_10 (by decide) ?_
      exact E_boolc C hr hH rfl h dX2_isBetter_27
theorem c_X2_isBetter (l : Launch) (g : gT) {a1 : Int32} {a2 : Int32} {a3 : Int32}  {S : sT} {r : Int32} (h : f_X2_isBetter a1 a2 a3 S = some r) : MF l yX2_isBetter cX2_isBetter 3 (some .boolean) 1 g [.int a1, .int a2, .int a3] S (some (.int r)) S := by
  refine MF.of (own := RX2) rfl rfl (Nat.le_of_ble_eq_true rfl) ?_
  intro p e s m below meth c C hr hH ls hl
  exact w_X2_isBetter C hr (o := r)  hH hl h
theorem nd_X2_bestWorth : yX2_bestWorth.cls ≠ "java/lang/invoke/MethodHandle" ∧ yX2_bestWorth.cls ≠ "java/lang/invoke/VarHandle" ∧ (parseMethodDescriptor yX2_bestWorth.desc).map (fun d => d.parameters.length) = some 5 := by decide +kernel
def b_X2_bestWorth_37 (rec : Nat → Int32 → Int32 → sT → Option (Int32 × sT)) (w1 : Nat) (a4 : Int32) (a5 : Int32) (j12 : Int32 → Int32 → sT → Option (Int32 × sT)) (x13 : Int32) (x14 : Int32) (x15 : Int32) (S16 : sT) (k17 : Int32 → Int32 → Int32 → sT → Option (Int32 × sT)) : Option (Int32 × sT) :=
 (if (8 : Int32) < x15 then
 j12 x13 x14 S16
 else
 jn (fun (x18 : Int32) (x19 : Int32) (S20 : sT) => lt (x15 + (1 : Int32)) (fun x21 =>
 k17 x18 x19 x21 S20))
 (fun j22 => jn (fun (S23 : sT) => bn2 (rec w1 (a4 - (1 : Int32)) ((1 : Int32) - a5) S23) (fun r25 S26 =>
 jn (fun (S27 : sT) => jn (j22 r25 x15 S27)
 (fun j28 => (if x14 = (-1 : Int32) then
 j28
 else
 bn (f_X2_isBetter r25 x13 a5 S27) (fun r30 =>
 (if r30 = (0 : Int32) then
 j22 x13 x14 S27
 else
 j28)))))
 (fun j33 => (if x15 = (8 : Int32) then
 j33 S26
 else
 bn2 (f_X9_take w1 x15 S26) (fun r35 S36 =>
 j33 S36)))))
 (fun j38 => (if x15 = (8 : Int32) then
 j38 S16
 else
 bn2 (f_X9_put w1 x15 a5 S16) (fun r40 S41 =>
 (if r40 = (0 : Int32) then
 j22 x13 x14 S41
 else
 j38 S41))))))
def l_X2_bestWorth_37 (rec : Nat → Int32 → Int32 → sT → Option (Int32 × sT)) (w1 : Nat) (a4 : Int32) (a5 : Int32) (j12 : Int32 → Int32 → sT → Option (Int32 × sT)) : Nat → Int32 → Int32 → Int32 → sT → Option (Int32 × sT)
 | 0, _, _, _, _ => none
 | n + 1, x13, x14, x15, S16 => b_X2_bestWorth_37 rec w1 a4 a5 j12 x13 x14 x15 S16 (l_X2_bestWorth_37 rec w1 a4 a5 j12 n)
theorem l_X2_bestWorth_37_s (rec : Nat → Int32 → Int32 → sT → Option (Int32 × sT)) (w1 : Nat) (a4 : Int32) (a5 : Int32) (j12 : Int32 → Int32 → sT → Option (Int32 × sT)) (n : Nat) (x13 : Int32) (x14 : Int32) (x15 : Int32) (S16 : sT) : l_X2_bestWorth_37 rec w1 a4 a5 j12 (n + 1) x13 x14 x15 S16 = b_X2_bestWorth_37 rec w1 a4 a5 j12 x13 x14 x15 S16 (l_X2_bestWorth_37 rec w1 a4 a5 j12 n) := rfl
def s_X2_bestWorth (rec : Nat → Int32 → Int32 → sT → Option (Int32 × sT)) (w1 : Nat) (a4 : Int32) (a5 : Int32) (S : sT) : Option (Int32 × sT) :=
 jn (bn (f_X9_stands w1 S) (fun r2 =>
 (if r2 = (0 : Int32) then
 some ((-1 : Int32), S)
 else
 bn (f_X9_sunny w1 S) (fun r4 =>
 some (r4, S)))))
 (fun j6 => (if a4 ≤ (0 : Int32) then
 j6
 else
 (if a4 < (4 : Int32) then
 jn (fun (x7 : Int32) (x8 : Int32) (S9 : sT) => ck (vi a4 4) (
 lt (us S9 21 0 (cl a4) x8) (fun S11 =>
 some (x7, S11))))
 (fun j12 => l_X2_bestWorth_37 rec w1 a4 a5 j12 FU (0 : Int32) (-1 : Int32) (0 : Int32) S)
 else
 j6)))
def f_X2_bestWorth : Nat → Nat → Int32 → Int32 → sT → Option (Int32 × sT)
 | 0, _, _, _, _ => none
 | n + 1, w1, a4, a5, S => s_X2_bestWorth (f_X2_bestWorth n) w1 a4 a5 S
set_option maxHeartbeats 4000000 in
set_option maxRecDepth 100000 in
theorem w_X2_bestWorth_37 {d : Nat} (C : Cx p s m args meth c cX2_bestWorth 9 RX2 g) (hr : meth.sig.returnType = (some .int)) {o : Int32 × sT} {rec : Nat → Int32 → Int32 → sT → Option (Int32 × sT)} (hrec : ∀ (w1 : Nat) (a4 : Int32) (a5 : Int32) (S : sT) (r : Int32) (S1 : sT), w1 < 16 →  rec w1 a4 a5 S = some (r, S1) → MF l yX2_bestWorth cX2_bestWorth 9 (some .int) (4 + d) g [.ref (gad g 9 w1), .ref (gad g 2 0), .ref (gad g 21 0), .int a4, .int a5] S (some (.int r)) S1) {w1 : Nat} {a4 : Int32} {a5 : Int32} (hw1 : w1 < 16) (j12 : Int32 → Int32 → sT → Option (Int32 × sT)) (hj12 : ∀ (x7 : Int32) (x8 : Int32) (S9 : sT) (H : Heap) (locs : List Loc) (ls : Array Slot), Hp g s S9 H locs → lv_has ls 9 [(2, .ref (gad g 21 0)), (3, .int a4), (5, .int x7), (6, .int x8)] → j12 x7 x8 S9 = some o → W p l e (rmL (4 + d + 1)) s m args below meth c H locs 0 0 (Qm g below args s (some (.int o.1)) o.2) (F0 m 123 ls [])) : ∀ (n : Nat) (x13 : Int32) (x14 : Int32) (x15 : Int32) (S16 : sT) (H : Heap) (locs : List Loc) (ls : Array Slot), Hp g s S16 H locs → lv_has ls 9 [(0, .ref (gad g 9 w1)), (1, .ref (gad g 2 0)), (2, .ref (gad g 21 0)), (3, .int a4), (4, .int a5), (5, .int x13), (6, .int x14), (7, .int x15)] → l_X2_bestWorth_37 rec w1 a4 a5 j12 n x13 x14 x15 S16 = some o → W p l e (rmL (4 + d + 1)) s m args below meth c H locs 0 0 (Qm g below args s (some (.int o.1)) o.2) (F0 m 37 ls []) := by
  obtain ⟨hx, hb, hml, hown, hts, hlk, hK⟩ := id C
  intro n
  induction n with
  | zero =>
    intro x13 x14 x15 S16 H locs ls hH hl h
    cases h
  | succ n ih =>
    intro x13 x14 x15 S16 H locs ls hH hl h
    rw [l_X2_bestWorth_37_s] at h
    unfold b_X2_bestWorth_37 at h
    refine lv_iload hx hb dX2_bestWorth_37 (lv_at hl 7 rfl) ?_
    refine lv_bipush (v := (8 : Int32)) hx hb dX2_bestWorth_39 (by decide) ?_
    refine lv_icmp_gt (tgt := 123) hx hb dX2_bestWorth_41 (by decide) (fun c44 => ?_) (fun c44 => ?_)
    · replace h := if_t h c44
      exact hj12 _ _ _ _ _ _ hH (lv_sub hl [2, 3, 5, 6] rfl) h
    · replace h := if_f h c44
      refine lv_iload hx hb dX2_bestWorth_44 (lv_at hl 7 rfl) ?_
      refine lv_bipush (v := (8 : Int32)) hx hb dX2_bestWorth_46 (by decide) ?_
      obtain ⟨j22, ej22, h⟩ := jn_e h
      have hj22 : ∀ (x18 : Int32) (x19 : Int32) (S20 : sT) (H : Heap) (locs : List Loc) (ls : Array Slot), Hp g s S20 H locs → lv_has ls 9 [(0, .ref (gad g 9 w1)), (1, .ref (gad g 2 0)), (2, .ref (gad g 21 0)), (3, .int a4), (4, .int a5), (5, .int x18), (6, .int x19), (7, .int x15)] → j22 x18 x19 S20 = some o → W p l e (rmL (4 + d + 1)) s m args below meth c H locs 0 0 (Qm g below args s (some (.int o.1)) o.2) (F0 m 117 ls []) := by
        intro x18 x19 S20 H locs ls hH hl h
        rw [ej22] at h
        try dsimp only at h
        obtain ⟨x21, ex21⟩ : ∃ z : Int32, z = (x15 + (1 : Int32)) := ⟨_, rfl⟩
        replace h := lt_e h ex21
        refine lv_iinc (v := x21) (lv' := [(7, .int x21), (0, .ref (gad g 9 w1)), (1, .ref (gad g 2 0)), (2, .ref (gad g 21 0)), (3, .int a4), (4, .int a5), (5, .int x18), (6, .int x19)]) hx hb dX2_bestWorth_117 hl (k := 7) rfl (by rw [ex21]; rfl) (by decide) rfl (fun ls hl => ?_)
        refine lv_goto (tgt := 37) hx hb dX2_bestWorth_120 (by decide) ?_
        exact ih _ _ _ _ _ _ _ hH (lv_sub hl [1, 2, 3, 4, 5, 6, 7, 0] rfl) h
      clear ej22
      obtain ⟨j38, ej38, h⟩ := jn_e h
      have hj38 : ∀ (S23 : sT) (H : Heap) (locs : List Loc) (ls : Array Slot), Hp g s S23 H locs → lv_has ls 9 [(0, .ref (gad g 9 w1)), (1, .ref (gad g 2 0)), (2, .ref (gad g 21 0)), (3, .int a4), (4, .int a5), (5, .int x13), (6, .int x14), (7, .int x15)] → j38 S23 = some o → W p l e (rmL (4 + d + 1)) s m args below meth c H locs 0 0 (Qm g below args s (some (.int o.1)) o.2) (F0 m 62 ls []) := by
        intro S23 H locs ls hH hl h
        rw [ej38] at h
        try dsimp only at h
        refine lv_aload_n hx hb dX2_bestWorth_62 rfl (lv_at hl 0 rfl) ?_
        refine lv_aload_n hx hb dX2_bestWorth_63 rfl (lv_at hl 1 rfl) ?_
        refine lv_aload_n hx hb dX2_bestWorth_64 rfl (lv_at hl 2 rfl) ?_
        refine lv_iload_n hx hb dX2_bestWorth_65 rfl (lv_at hl 3 rfl) ?_
        refine lv_iconst (v := (1 : Int32)) hx hb dX2_bestWorth_66 (by decide) ?_
        refine lv_isub hx hb dX2_bestWorth_67 ?_
        refine lv_iconst (v := (1 : Int32)) hx hb dX2_bestWorth_68 (by decide) ?_
        refine lv_iload hx hb dX2_bestWorth_69 (lv_at hl 4 rfl) ?_
        refine lv_isub hx hb dX2_bestWorth_71 ?_
        obtain ⟨r25, S26, hc24, h⟩ := bn2_e h
        refine r_callS1 (As := [.ref (gad g 9 w1), .ref (gad g 2 0), .ref (gad g 21 0), .int (a4 - (1 : Int32)), .int ((1 : Int32) - a5)]) C hl.1 hH (hrec w1 (a4 - (1 : Int32)) ((1 : Int32) - a5) _ _ _ hw1 hc24) q712 q31 q710 q711 nd_X2_bestWorth rfl ⟨by simp only [rmL]; omega, by simp only [rmL]; omega⟩ ⟨Nat.zero_le _, Nat.zero_le _⟩ (Nat.le_of_ble_eq_true rfl) dX2_bestWorth_72 (fun H locs hH => ?_)
        refine lv_istore (lv' := [(8, .int r25), (0, .ref (gad g 9 w1)), (1, .ref (gad g 2 0)), (2, .ref (gad g 21 0)), (3, .int a4), (4, .int a5), (5, .int x13), (6, .int x14), (7, .int x15)]) hx hb dX2_bestWorth_75 hl (by decide) rfl (fun ls hl => ?_)
        refine lv_iload hx hb dX2_bestWorth_77 (lv_at hl 8 rfl) ?_
        refine lv_bipush (v := (8 : Int32)) hx hb dX2_bestWorth_79 (by decide) ?_
        obtain ⟨j33, ej33, h⟩ := jn_e h
        have hj33 : ∀ (S27 : sT) (H : Heap) (locs : List Loc) (ls : Array Slot), Hp g s S27 H locs → lv_has ls 9 [(0, .ref (gad g 9 w1)), (1, .ref (gad g 2 0)), (2, .ref (gad g 21 0)), (3, .int a4), (4, .int a5), (5, .int x13), (6, .int x14), (7, .int x15), (8, .int r25)] → j33 S27 = some o → W p l e (rmL (4 + d + 1)) s m args below meth c H locs 0 0 (Qm g below args s (some (.int o.1)) o.2) (F0 m 91 ls []) := by
          intro S27 H locs ls hH hl h
          rw [ej33] at h
          try dsimp only at h
          refine lv_iload hx hb dX2_bestWorth_91 (lv_at hl 6 rfl) ?_
          refine lv_iconst (v := (-1 : Int32)) hx hb dX2_bestWorth_93 (by decide) ?_
          obtain ⟨j28, ej28, h⟩ := jn_e h
          have hj28 : ∀  (H : Heap) (locs : List Loc) (ls : Array Slot), Hp g s S27 H locs → lv_has ls 9 [(0, .ref (gad g 9 w1)), (1, .ref (gad g 2 0)), (2, .ref (gad g 21 0)), (3, .int a4), (4, .int a5), (7, .int x15), (8, .int r25)] → j28  = some o → W p l e (rmL (4 + d + 1)) s m args below meth c H locs 0 0 (Qm g below args s (some (.int o.1)) o.2) (F0 m 109 ls []) := by
            intro  H locs ls hH hl h
            rw [ej28] at h
            try dsimp only at h
            refine lv_iload hx hb dX2_bestWorth_109 (lv_at hl 6 rfl) ?_
            refine lv_istore (lv' := [(5, .int r25), (0, .ref (gad g 9 w1)), (1, .ref (gad g 2 0)), (2, .ref (gad g 21 0)), (3, .int a4), (4, .int a5), (7, .int x15), (8, .int r25)]) hx hb dX2_bestWorth_111 hl (by decide) rfl (fun ls hl => ?_)
            refine lv_iload hx hb dX2_bestWorth_113 (lv_at hl 6 rfl) ?_
            refine lv_istore (lv' := [(6, .int x15), (5, .int r25), (0, .ref (gad g 9 w1)), (1, .ref (gad g 2 0)), (2, .ref (gad g 21 0)), (3, .int a4), (4, .int a5), (7, .int x15), (8, .int r25)]) hx hb dX2_bestWorth_115 hl (by decide) rfl (fun ls hl => ?_)
            exact hj22 _ _ _ _ _ _ hH (lv_sub hl [2, 3, 4, 5, 6, 1, 0, 7] rfl) h
          clear ej28
          refine lv_icmp_eq (tgt := 109) hx hb dX2_bestWorth_94 (by decide) (fun c32 => ?_) (fun c32 => ?_)
          · replace h := if_t h c32
            exact hj28 _ _ _ hH (lv_sub hl [0, 1, 2, 3, 4, 7, 8] rfl) h
          · replace h := if_f h c32
            refine lv_iload hx hb dX2_bestWorth_97 (lv_at hl 8 rfl) ?_
            refine lv_iload hx hb dX2_bestWorth_99 (lv_at hl 5 rfl) ?_
            refine lv_iload hx hb dX2_bestWorth_101 (lv_at hl 4 rfl) ?_
            obtain ⟨r30, hc29, h⟩ := bn_e h
            refine r_callS1 (As := [.int r25, .int x13, .int a5]) C hl.1 hH (c_X2_isBetter l g  hc29) q715 q31 q713 q714 nd_X2_isBetter rfl ⟨by simp only [rmL]; omega, by simp only [rmL]; omega⟩ ⟨Nat.zero_le _, Nat.zero_le _⟩ (Nat.le_of_ble_eq_true rfl) dX2_bestWorth_103 (fun H locs hH => ?_)
            refine lv_if_eq (tgt := 117) hx hb dX2_bestWorth_106 (by decide) (fun c31 => ?_) (fun c31 => ?_)
            · replace h := if_t h c31
              exact hj22 _ _ _ _ _ _ hH (lv_sub hl [0, 1, 2, 3, 4, 5, 6, 7] rfl) h
            · replace h := if_f h c31
              exact hj28 _ _ _ hH (lv_sub hl [0, 1, 2, 3, 4, 7, 8] rfl) h
        clear ej33
        refine lv_icmp_eq (tgt := 91) hx hb dX2_bestWorth_81 (by decide) (fun c37 => ?_) (fun c37 => ?_)
        · replace h := if_t h c37
          exact hj33 _ _ _ _ hH (lv_sub hl [1, 2, 3, 4, 5, 6, 7, 8, 0] rfl) h
        · replace h := if_f h c37
          refine lv_aload_n hx hb dX2_bestWorth_84 rfl (lv_at hl 1 rfl) ?_
          refine lv_iload hx hb dX2_bestWorth_85 (lv_at hl 8 rfl) ?_
          obtain ⟨r35, S36, hc34, h⟩ := bn2_e h
          refine r_callV1 (ki := 9) (i := w1) (ci := 8) (As := [.int x15]) C hl.1 hH (c_X9_take l g hw1 hc34) q289 q80 q655 q287 q288 nd_X9_take rfl ⟨by simp only [rmL]; omega, by simp only [rmL]; omega⟩ ⟨Nat.zero_le _, Nat.zero_le _⟩ (by decide) hw1 ⟨_, rfl⟩ rfl (Nat.le_of_ble_eq_true rfl) dX2_bestWorth_87 (fun H locs hH => ?_)
          refine lv_pop hx hb dX2_bestWorth_90 rfl ?_
          exact hj33 _ _ _ _ hH (lv_sub hl [1, 2, 3, 4, 5, 6, 7, 8, 0] rfl) h
      clear ej38
      refine lv_icmp_eq (tgt := 62) hx hb dX2_bestWorth_48 (by decide) (fun c43 => ?_) (fun c43 => ?_)
      · replace h := if_t h c43
        exact hj38 _ _ _ _ hH (lv_sub hl [0, 1, 2, 3, 4, 5, 6, 7] rfl) h
      · replace h := if_f h c43
        refine lv_aload_n hx hb dX2_bestWorth_51 rfl (lv_at hl 0 rfl) ?_
        refine lv_iload hx hb dX2_bestWorth_52 (lv_at hl 7 rfl) ?_
        refine lv_iload hx hb dX2_bestWorth_54 (lv_at hl 4 rfl) ?_
        obtain ⟨r40, S41, hc39, h⟩ := bn2_e h
        refine r_callV1 (ki := 9) (i := w1) (ci := 8) (As := [.int x15, .int a5]) C hl.1 hH (c_X9_put l g hw1 hc39) q197 q80 q654 q195 q196 nd_X9_put rfl ⟨by simp only [rmL]; omega, by simp only [rmL]; omega⟩ ⟨Nat.zero_le _, Nat.zero_le _⟩ (by decide) hw1 ⟨_, rfl⟩ rfl (Nat.le_of_ble_eq_true rfl) dX2_bestWorth_56 (fun H locs hH => ?_)
        refine lv_if_eq (tgt := 117) hx hb dX2_bestWorth_59 (by decide) (fun c42 => ?_) (fun c42 => ?_)
        · replace h := if_t h c42
          exact hj22 _ _ _ _ _ _ hH (lv_sub hl [0, 1, 2, 3, 4, 5, 6, 7] rfl) h
        · replace h := if_f h c42
          exact hj38 _ _ _ _ hH (lv_sub hl [0, 1, 2, 3, 4, 5, 6, 7] rfl) h
set_option maxHeartbeats 4000000 in
set_option maxRecDepth 100000 in
theorem w_X2_bestWorth {d : Nat} {rec : Nat → Int32 → Int32 → sT → Option (Int32 × sT)} (hrec : ∀ (w1 : Nat) (a4 : Int32) (a5 : Int32) (S : sT) (r : Int32) (S1 : sT), w1 < 16 →  rec w1 a4 a5 S = some (r, S1) → MF l yX2_bestWorth cX2_bestWorth 9 (some .int) (4 + d) g [.ref (gad g 9 w1), .ref (gad g 2 0), .ref (gad g 21 0), .int a4, .int a5] S (some (.int r)) S1) (C : Cx p s m args meth c cX2_bestWorth 9 RX2 g) (hr : meth.sig.returnType = (some .int)) {o : Int32 × sT} {w1 : Nat} {a4 : Int32} {a5 : Int32} (hw1 : w1 < 16) {S : sT} {H : Heap} {locs : List Loc} {ls : Array Slot} (hH : Hp g s S H locs) (hl : lv_has ls 9 [(0, .ref (gad g 9 w1)), (1, .ref (gad g 2 0)), (2, .ref (gad g 21 0)), (3, .int a4), (4, .int a5)]) (h : s_X2_bestWorth rec w1 a4 a5 S = some o) : W p l e (rmL (4 + d + 1)) s m args below meth c H locs 0 0 (Qm g below args s (some (.int o.1)) o.2) (F0 m 0 ls []) := by
  obtain ⟨hx, hb, hml, hown, hts, hlk, hK⟩ := id C
  unfold s_X2_bestWorth at h
  refine lv_iload_n hx hb dX2_bestWorth_0 rfl (lv_at hl 3 rfl) ?_
  obtain ⟨j6, ej6, h⟩ := jn_e h
  have hj6 : ∀  (H : Heap) (locs : List Loc) (ls : Array Slot), Hp g s S H locs → lv_has ls 9 [(0, .ref (gad g 9 w1)), (1, .ref (gad g 2 0))] → j6  = some o → W p l e (rmL (4 + d + 1)) s m args below meth c H locs 0 0 (Qm g below args s (some (.int o.1)) o.2) (F0 m 10 ls []) := by
    intro  H locs ls hH hl h
    rw [ej6] at h
    try dsimp only at h
    refine lv_aload_n hx hb dX2_bestWorth_10 rfl (lv_at hl 0 rfl) ?_
    refine lv_aload_n hx hb dX2_bestWorth_11 rfl (lv_at hl 1 rfl) ?_
    obtain ⟨r2, hc1, h⟩ := bn_e h
    refine r_callV1 (ki := 9) (i := w1) (ci := 8) (As := [.ref (gad g 2 0)]) C hl.1 hH (c_X9_stands l g hw1 hc1) q650 q80 q647 q648 q649 nd_X9_stands rfl ⟨by simp only [rmL]; omega, by simp only [rmL]; omega⟩ ⟨Nat.zero_le _, Nat.zero_le _⟩ (by decide) hw1 ⟨_, rfl⟩ rfl (Nat.le_of_ble_eq_true rfl) dX2_bestWorth_12 (fun H locs hH => ?_)
    refine lv_if_eq (tgt := 26) hx hb dX2_bestWorth_15 (by decide) (fun c5 => ?_) (fun c5 => ?_)
    · replace h := if_t h c5
      refine lv_iconst (v := (-1 : Int32)) hx hb dX2_bestWorth_26 (by decide) ?_
      exact E_int C hr hH h dX2_bestWorth_27
    · replace h := if_f h c5
      refine lv_aload_n hx hb dX2_bestWorth_18 rfl (lv_at hl 0 rfl) ?_
      refine lv_aload_n hx hb dX2_bestWorth_19 rfl (lv_at hl 1 rfl) ?_
      obtain ⟨r4, hc3, h⟩ := bn_e h
      refine r_callV1 (ki := 9) (i := w1) (ci := 8) (As := [.ref (gad g 2 0)]) C hl.1 hH (c_X9_sunny l g hw1 hc3) q528 q80 q691 q526 q527 nd_X9_sunny rfl ⟨by simp only [rmL]; omega, by simp only [rmL]; omega⟩ ⟨Nat.zero_le _, Nat.zero_le _⟩ (by decide) hw1 ⟨_, rfl⟩ rfl (Nat.le_of_ble_eq_true rfl) dX2_bestWorth_20 (fun H locs hH => ?_)
      refine lv_goto (tgt := 27) hx hb dX2_bestWorth_23 (by decide) ?_
      exact E_int C hr hH h dX2_bestWorth_27
  clear ej6
  refine lv_if_le (tgt := 10) hx hb dX2_bestWorth_1 (by decide) (fun c46 => ?_) (fun c46 => ?_)
  · replace h := if_t h c46
    exact hj6 _ _ _ hH (lv_sub hl [0, 1] rfl) h
  · replace h := if_f h c46
    refine lv_iload_n hx hb dX2_bestWorth_4 rfl (lv_at hl 3 rfl) ?_
    refine lv_aload_n hx hb dX2_bestWorth_5 rfl (lv_at hl 2 rfl) ?_
    refine r_alen C hH ka_21 (by decide) (by decide) (v := (4 : Int32)) (by decide) dX2_bestWorth_6 ?_
    refine lv_icmp_lt (tgt := 28) hx hb dX2_bestWorth_7 (by decide) (fun c45 => ?_) (fun c45 => ?_)
    · replace h := if_t h c45
      refine lv_iconst (v := (0 : Int32)) hx hb dX2_bestWorth_28 (by decide) ?_
      refine lv_istore (lv' := [(5, .int (0 : Int32)), (0, .ref (gad g 9 w1)), (1, .ref (gad g 2 0)), (2, .ref (gad g 21 0)), (3, .int a4), (4, .int a5)]) hx hb dX2_bestWorth_29 hl (by decide) rfl (fun ls hl => ?_)
      refine lv_iconst (v := (-1 : Int32)) hx hb dX2_bestWorth_31 (by decide) ?_
      refine lv_istore (lv' := [(6, .int (-1 : Int32)), (5, .int (0 : Int32)), (0, .ref (gad g 9 w1)), (1, .ref (gad g 2 0)), (2, .ref (gad g 21 0)), (3, .int a4), (4, .int a5)]) hx hb dX2_bestWorth_32 hl (by decide) rfl (fun ls hl => ?_)
      refine lv_iconst (v := (0 : Int32)) hx hb dX2_bestWorth_34 (by decide) ?_
      refine lv_istore (lv' := [(7, .int (0 : Int32)), (6, .int (-1 : Int32)), (5, .int (0 : Int32)), (0, .ref (gad g 9 w1)), (1, .ref (gad g 2 0)), (2, .ref (gad g 21 0)), (3, .int a4), (4, .int a5)]) hx hb dX2_bestWorth_35 hl (by decide) rfl (fun ls hl => ?_)
      obtain ⟨j12, ej12, h⟩ := jn_e h
      have hj12 : ∀ (x7 : Int32) (x8 : Int32) (S9 : sT) (H : Heap) (locs : List Loc) (ls : Array Slot), Hp g s S9 H locs → lv_has ls 9 [(2, .ref (gad g 21 0)), (3, .int a4), (5, .int x7), (6, .int x8)] → j12 x7 x8 S9 = some o → W p l e (rmL (4 + d + 1)) s m args below meth c H locs 0 0 (Qm g below args s (some (.int o.1)) o.2) (F0 m 123 ls []) := by
        intro x7 x8 S9 H locs ls hH hl h
        rw [ej12] at h
        try dsimp only at h
        refine lv_aload_n hx hb dX2_bestWorth_123 rfl (lv_at hl 0 rfl) ?_
        refine lv_iload_n hx hb dX2_bestWorth_124 rfl (lv_at hl 1 rfl) ?_
        refine lv_iload hx hb dX2_bestWorth_125 (lv_at hl 3 rfl) ?_
        obtain ⟨hv10, h⟩ := ck_e h
        refine r_ast C hH ka_21 ko_21 (by decide) (by decide) (vi_in hv10) dX2_bestWorth_127 (fun S11 H locs eS hH => ?_)
        replace h := lt_e h eS
        refine lv_iload hx hb dX2_bestWorth_128 (lv_at hl 2 rfl) ?_
        exact E_int C hr hH h dX2_bestWorth_130
      clear ej12
      exact w_X2_bestWorth_37 C hr hrec hw1 j12 hj12 _ _ _ _ _ _ _ _ hH (lv_sub hl [3, 4, 5, 6, 7, 2, 1, 0] rfl) h
    · replace h := if_f h c45
      exact hj6 _ _ _ hH (lv_sub hl [0, 1] rfl) h
theorem cr_X2_bestWorth (l : Launch) (g : gT) : ∀ (d : Nat) (w1 : Nat) (a4 : Int32) (a5 : Int32) (S : sT) (r : Int32) (S1 : sT), w1 < 16 →  f_X2_bestWorth d w1 a4 a5 S = some (r, S1) → MF l yX2_bestWorth cX2_bestWorth 9 (some .int) (4 + d) g [.ref (gad g 9 w1), .ref (gad g 2 0), .ref (gad g 21 0), .int a4, .int a5] S (some (.int r)) S1 := by
  intro d
  induction d with
  | zero =>
    intro w1 a4 a5 S r S1 hw1 h
    cases h
  | succ d ih =>
    intro w1 a4 a5 S r S1 hw1 h
    refine MF.of (own := RX2) rfl rfl (Nat.le_of_ble_eq_true rfl) ?_
    intro p e s m below meth c C hr hH ls hl
    exact w_X2_bestWorth ih C hr (o := (r, S1)) hw1 hH hl h
theorem c_X2_bestWorth (l : Launch) (g : gT) {w1 : Nat} {a4 : Int32} {a5 : Int32} (hw1 : w1 < 16) {S : sT} {r : Int32} {S1 : sT} (h : f_X2_bestWorth 12 w1 a4 a5 S = some (r, S1)) : MF l yX2_bestWorth cX2_bestWorth 9 (some .int) 16 g [.ref (gad g 9 w1), .ref (gad g 2 0), .ref (gad g 21 0), .int a4, .int a5] S (some (.int r)) S1 := cr_X2_bestWorth l g 12 _ _ _ _ _ _ hw1 h
theorem nd_X2_playOn : yX2_playOn.cls ≠ "java/lang/invoke/MethodHandle" ∧ yX2_playOn.cls ≠ "java/lang/invoke/VarHandle" ∧ (parseMethodDescriptor yX2_playOn.desc).map (fun d => d.parameters.length) = some 4 := by decide +kernel
def f_X2_playOn (w1 : Nat) (a3 : Int32) (a4 : Int32) (S : sT) : Option (Int32 × sT) :=
 bn (f_X9_become 14 w1 S) (fun S2 =>
 lt (if (3 : Int32) < a3 then (3 : Int32) else a3) (fun x3 =>
 bn2 (f_X2_bestWorth 12 14 x3 a4 S2) (fun r5 S6 =>
 jn (fun (y7 : Int32) => lt (us S6 107 0 0 y7) (fun S8 =>
 some (r5, S8)))
 (fun j9 => jn (j9 (-1 : Int32))
 (fun j10 => (if x3 < (0 : Int32) then
 j10
 else
 (if (4 : Int32) ≤ x3 then
 j10
 else
 ck (vi x3 4) (
 j9 (S6.1 21 0 (cl x3))))))))))
set_option maxHeartbeats 4000000 in
set_option maxRecDepth 100000 in
theorem w_X2_playOn (C : Cx p s m args meth c cX2_playOn 7 RX2 g) (hr : meth.sig.returnType = (some .int)) {o : Int32 × sT} {w1 : Nat} {a3 : Int32} {a4 : Int32} (hw1 : w1 < 16) {S : sT} {H : Heap} {locs : List Loc} {ls : Array Slot} (hH : Hp g s S H locs) (hl : lv_has ls 7 [(0, .ref (gad g 5 0)), (1, .ref (gad g 9 w1)), (2, .ref (gad g 2 0)), (3, .int a3), (4, .int a4)]) (h : f_X2_playOn w1 a3 a4 S = some o) : W p l e (rmL 18) s m args below meth c H locs 0 0 (Qm g below args s (some (.int o.1)) o.2) (F0 m 0 ls []) := by
  obtain ⟨hx, hb, hml, hown, hts, hlk, hK⟩ := id C
  unfold f_X2_playOn at h
  refine lv_aload_n hx hb dX2_playOn_0 rfl (lv_at hl 0 rfl) ?_
  refine gf_X2_12 C hH dX2_playOn_1 ?_
  refine lv_aload_n hx hb dX2_playOn_4 rfl (lv_at hl 1 rfl) ?_
  obtain ⟨S2, hc1, h⟩ := bn_e h
  refine r_callV0 (ki := 9) (i := 14) (ci := 8) (As := [.ref (gad g 9 w1)]) C hl.1 hH (c_X9_become l g (by decide) hw1 hc1) q258 q80 q643 q256 q257 nd_X9_become rfl (by decide) ⟨Nat.zero_le _, Nat.zero_le _⟩ (by decide) (by decide) ⟨_, rfl⟩ rfl (Nat.le_of_ble_eq_true rfl) dX2_playOn_5 (fun H locs hH => ?_)
  refine lv_iload_n hx hb dX2_playOn_8 rfl (lv_at hl 3 rfl) ?_
  refine lv_iconst (v := (3 : Int32)) hx hb dX2_playOn_9 (by decide) ?_
  refine va_mmin hx hb (hml.trans hl.1.symm) hown (hts _ q709) (hts _ q55) (hts _ q56) (hts _ q57) (Nat.le_of_ble_eq_true rfl) (Nat.le_of_ble_eq_true rfl) (Nat.zero_le _) (Nat.zero_le _) dX2_playOn_10 ?_
  refine lv_topi (fun x3 ex3 => ?_)
  replace h := lt_e h ex3
  refine lv_istore (lv' := [(5, .int x3), (0, .ref (gad g 5 0)), (1, .ref (gad g 9 w1)), (2, .ref (gad g 2 0)), (3, .int a3), (4, .int a4)]) hx hb dX2_playOn_13 hl (by decide) rfl (fun ls hl => ?_)
  refine lv_aload_n hx hb dX2_playOn_15 rfl (lv_at hl 1 rfl) ?_
  refine gf_X2_12 C hH dX2_playOn_16 ?_
  refine lv_aload_n hx hb dX2_playOn_19 rfl (lv_at hl 3 rfl) ?_
  refine lv_aload_n hx hb dX2_playOn_20 rfl (lv_at hl 1 rfl) ?_
  refine gf_X2_22 C hH dX2_playOn_21 ?_
  refine lv_iload hx hb dX2_playOn_24 (lv_at hl 0 rfl) ?_
  refine lv_iload hx hb dX2_playOn_26 (lv_at hl 5 rfl) ?_
  obtain ⟨r5, S6, hc4, h⟩ := bn2_e h
  refine r_callS1 (As := [.ref (gad g 9 14), .ref (gad g 2 0), .ref (gad g 21 0), .int x3, .int a4]) C hl.1 hH (c_X2_bestWorth l g (by decide) hc4) q712 q31 q710 q711 nd_X2_bestWorth rfl (by decide) ⟨Nat.zero_le _, Nat.zero_le _⟩ (Nat.le_of_ble_eq_true rfl) dX2_playOn_28 (fun H locs hH => ?_)
  refine lv_istore (lv' := [(6, .int r5), (5, .int x3), (0, .ref (gad g 5 0)), (1, .ref (gad g 9 w1)), (2, .ref (gad g 2 0)), (3, .int a3), (4, .int a4)]) hx hb dX2_playOn_31 hl (by decide) rfl (fun ls hl => ?_)
  refine lv_aload_n hx hb dX2_playOn_33 rfl (lv_at hl 2 rfl) ?_
  refine lv_iload hx hb dX2_playOn_34 (lv_at hl 1 rfl) ?_
  obtain ⟨j9, ej9, h⟩ := jn_e h
  have hj9 : ∀ (y7 : Int32) (H : Heap) (locs : List Loc) (ls : Array Slot), Hp g s S6 H locs → lv_has ls 7 [(6, .int r5)] → j9 y7 = some o → W p l e (rmL 18) s m args below meth c H locs 0 0 (Qm g below args s (some (.int o.1)) o.2) (F0 m 60 ls [.int y7, .ref (gad g 5 0)]) := by
    intro y7 H locs ls hH hl h
    rw [ej9] at h
    try dsimp only at h
    refine pf_X2_29 C hH dX2_playOn_60 (fun S8 H locs eS hH => ?_)
    replace h := lt_e h eS
    refine lv_iload hx hb dX2_playOn_63 (lv_at hl 0 rfl) ?_
    exact E_int C hr hH h dX2_playOn_65
  clear ej9
  obtain ⟨j10, ej10, h⟩ := jn_e h
  have hj10 : ∀  (H : Heap) (locs : List Loc) (ls : Array Slot), Hp g s S6 H locs → lv_has ls 7 [(6, .int r5)] → j10  = some o → W p l e (rmL 18) s m args below meth c H locs 0 0 (Qm g below args s (some (.int o.1)) o.2) (F0 m 59 ls [.ref (gad g 5 0)]) := by
    intro  H locs ls hH hl h
    rw [ej10] at h
    try dsimp only at h
    refine lv_iconst (v := (-1 : Int32)) hx hb dX2_playOn_59 (by decide) ?_
    exact hj9 _ _ _ _ hH (lv_sub hl [0] rfl) h
  clear ej10
  refine lv_if_lt (tgt := 59) hx hb dX2_playOn_36 (by decide) (fun c13 => ?_) (fun c13 => ?_)
  · replace h := if_t h c13
    exact hj10 _ _ _ hH (lv_sub hl [0] rfl) h
  · replace h := if_f h c13
    refine lv_iload hx hb dX2_playOn_39 (lv_at hl 1 rfl) ?_
    refine lv_aload_n hx hb dX2_playOn_41 rfl (lv_at hl 2 rfl) ?_
    refine gf_X2_22 C hH dX2_playOn_42 ?_
    refine r_alen C hH ka_21 (by decide) (by decide) (v := (4 : Int32)) (by decide) dX2_playOn_45 ?_
    refine lv_icmp_ge (tgt := 59) hx hb dX2_playOn_46 (by decide) (fun c12 => ?_) (fun c12 => ?_)
    · replace h := if_t h c12
      exact hj10 _ _ _ hH (lv_sub hl [0] rfl) h
    · replace h := if_f h c12
      refine lv_aload_n hx hb dX2_playOn_49 rfl (lv_at hl 2 rfl) ?_
      refine gf_X2_22 C hH dX2_playOn_50 ?_
      refine lv_iload hx hb dX2_playOn_53 (lv_at hl 1 rfl) ?_
      obtain ⟨hv11, h⟩ := ck_e h
      refine r_ald C hH ka_21 (by decide) (by decide) (vi_in hv11) dX2_playOn_55 ?_
      refine lv_goto (tgt := 60) hx hb dX2_playOn_56 (by decide) ?_
      exact hj9 _ _ _ _ hH (lv_sub hl [0] rfl) h
theorem c_X2_playOn (l : Launch) (g : gT) {w1 : Nat} {a3 : Int32} {a4 : Int32} (hw1 : w1 < 16) {S : sT} {r : Int32} {S1 : sT} (h : f_X2_playOn w1 a3 a4 S = some (r, S1)) : MF l yX2_playOn cX2_playOn 7 (some .int) 18 g [.ref (gad g 5 0), .ref (gad g 9 w1), .ref (gad g 2 0), .int a3, .int a4] S (some (.int r)) S1 := by
  refine MF.of (own := RX2) rfl rfl (Nat.le_of_ble_eq_true rfl) ?_
  intro p e s m below meth c C hr hH ls hl
  exact w_X2_playOn C hr (o := (r, S1)) hw1 hH hl h
theorem nd_X0_above : yX0_above.cls ≠ "java/lang/invoke/MethodHandle" ∧ yX0_above.cls ≠ "java/lang/invoke/VarHandle" ∧ (parseMethodDescriptor yX0_above.desc).map (fun d => d.parameters.length) = some 0 := by decide +kernel
def f_X0_above  (S : sT) : Option (Int64) :=
 some (S.2 0)
set_option maxHeartbeats 4000000 in
set_option maxRecDepth 100000 in
theorem w_X0_above (C : Cx p s m args meth c cX0_above 1 RX0 g) (hr : meth.sig.returnType = (some .long)) {o : Int64}   {S : sT} {H : Heap} {locs : List Loc} {ls : Array Slot} (hH : Hp g s S H locs) (hl : lv_has ls 1 [(0, .ref (gad g 6 0))]) (h : f_X0_above  S = some o) : W p l e (rmL 1) s m args below meth c H locs 0 0 (Qm g below args s (some (.long o)) S) (F0 m 0 ls []) := by
  obtain ⟨hx, hb, hml, hown, hts, hlk, hK⟩ := id C
  unfold f_X0_above at h
  refine lv_aload_n hx hb dX0_above_0 rfl (lv_at hl 0 rfl) ?_
  refine gf_X0_18 C hH dX0_above_1 ?_
  exact E_longc C hr hH h dX0_above_4
theorem c_X0_above (l : Launch) (g : gT)   {S : sT} {r : Int64} (h : f_X0_above  S = some r) : MF l yX0_above cX0_above 1 (some .long) 1 g [.ref (gad g 6 0)] S (some (.long r)) S := by
  refine MF.of (own := RX0) rfl rfl (Nat.le_of_ble_eq_true rfl) ?_
  intro p e s m below meth c C hr hH ls hl
  exact w_X0_above C hr (o := r)  hH hl h
theorem nd_X0_below : yX0_below.cls ≠ "java/lang/invoke/MethodHandle" ∧ yX0_below.cls ≠ "java/lang/invoke/VarHandle" ∧ (parseMethodDescriptor yX0_below.desc).map (fun d => d.parameters.length) = some 0 := by decide +kernel
def f_X0_below  (S : sT) : Option (Int64) :=
 some (S.2 1)
set_option maxHeartbeats 4000000 in
set_option maxRecDepth 100000 in
theorem w_X0_below (C : Cx p s m args meth c cX0_below 1 RX0 g) (hr : meth.sig.returnType = (some .long)) {o : Int64}   {S : sT} {H : Heap} {locs : List Loc} {ls : Array Slot} (hH : Hp g s S H locs) (hl : lv_has ls 1 [(0, .ref (gad g 6 0))]) (h : f_X0_below  S = some o) : W p l e (rmL 1) s m args below meth c H locs 0 0 (Qm g below args s (some (.long o)) S) (F0 m 0 ls []) := by
  obtain ⟨hx, hb, hml, hown, hts, hlk, hK⟩ := id C
  unfold f_X0_below at h
  refine lv_aload_n hx hb dX0_below_0 rfl (lv_at hl 0 rfl) ?_
  refine gf_X0_22 C hH dX0_below_1 ?_
  exact E_longc C hr hH h dX0_below_4
theorem c_X0_below (l : Launch) (g : gT)   {S : sT} {r : Int64} (h : f_X0_below  S = some r) : MF l yX0_below cX0_below 1 (some .long) 1 g [.ref (gad g 6 0)] S (some (.long r)) S := by
  refine MF.of (own := RX0) rfl rfl (Nat.le_of_ble_eq_true rfl) ?_
  intro p e s m below meth c C hr hH ls hl
  exact w_X0_below C hr (o := r)  hH hl h
theorem nd_X0_shorten : yX0_shorten.cls ≠ "java/lang/invoke/MethodHandle" ∧ yX0_shorten.cls ≠ "java/lang/invoke/VarHandle" ∧ (parseMethodDescriptor yX0_shorten.desc).map (fun d => d.parameters.length) = some 0 := by decide +kernel
def b_X0_shorten_2  (x1 : Int32) (S2 : sT) (k3 : Int32 → sT → Option (sT)) : Option (sT) :=
 (if (32 : Int32) ≤ x1 then
 some S2
 else
 (if (lg_cmp (S2.2 1) (1 : Int64)) ≤ (0 : Int32) then
 some S2
 else
 (if (lg_cmp ((S2.2 0) &&& (1 : Int64)) (0 : Int64)) = (0 : Int32) then
 lt (ul S2 0 ((S2.2 0) >>> (((1 : Int32)).toInt64 &&& 63))) (fun S4 =>
 lt (ul S4 1 ((S4.2 1) >>> (((1 : Int32)).toInt64 &&& 63))) (fun S5 =>
 lt (x1 + (1 : Int32)) (fun x6 =>
 k3 x6 S5)))
 else
 some S2)))
def l_X0_shorten_2  : Nat → Int32 → sT → Option (sT)
 | 0, _, _ => none
 | n + 1, x1, S2 => b_X0_shorten_2  x1 S2 (l_X0_shorten_2  n)
theorem l_X0_shorten_2_s  (n : Nat) (x1 : Int32) (S2 : sT) : l_X0_shorten_2  (n + 1) x1 S2 = b_X0_shorten_2  x1 S2 (l_X0_shorten_2  n) := rfl
def f_X0_shorten  (S : sT) : Option (sT) :=
 l_X0_shorten_2  FU (0 : Int32) S
set_option maxHeartbeats 4000000 in
set_option maxRecDepth 100000 in
theorem w_X0_shorten_2 (C : Cx p s m args meth c cX0_shorten 2 RX0 g) (hr : meth.sig.returnType = none) {o : sT}     : ∀ (n : Nat) (x1 : Int32) (S2 : sT) (H : Heap) (locs : List Loc) (ls : Array Slot), Hp g s S2 H locs → lv_has ls 2 [(0, .ref (gad g 6 0)), (1, .int x1)] → l_X0_shorten_2  n x1 S2 = some o → W p l e (rmL 1) s m args below meth c H locs 0 0 (Qm g below args s none o) (F0 m 2 ls []) := by
  obtain ⟨hx, hb, hml, hown, hts, hlk, hK⟩ := id C
  intro n
  induction n with
  | zero =>
    intro x1 S2 H locs ls hH hl h
    cases h
  | succ n ih =>
    intro x1 S2 H locs ls hH hl h
    rw [l_X0_shorten_2_s] at h
    unfold b_X0_shorten_2 at h
    refine lv_iload_n hx hb dX0_shorten_2 rfl (lv_at hl 1 rfl) ?_
    refine lv_bipush (v := (32 : Int32)) hx hb dX0_shorten_3 (by decide) ?_
    refine lv_icmp_ge (tgt := 54) hx hb dX0_shorten_5 (by decide) (fun c9 => ?_) (fun c9 => ?_)
    · replace h := if_t h c9
      exact E_void C hr hH h dX0_shorten_54
    · replace h := if_f h c9
      refine lv_aload_n hx hb dX0_shorten_8 rfl (lv_at hl 0 rfl) ?_
      refine gf_X0_22 C hH dX0_shorten_9 ?_
      refine lv_lconst (v := (1 : Int64)) hx hb dX0_shorten_12 (by decide) ?_
      refine W.lcmp hx hb dX0_shorten_13 ?_
      refine lv_if_le (tgt := 54) hx hb dX0_shorten_14 (by decide) (fun c8 => ?_) (fun c8 => ?_)
      · replace h := if_t h c8
        exact E_void C hr hH h dX0_shorten_54
      · replace h := if_f h c8
        refine lv_aload_n hx hb dX0_shorten_17 rfl (lv_at hl 0 rfl) ?_
        refine gf_X0_18 C hH dX0_shorten_18 ?_
        refine lv_lconst (v := (1 : Int64)) hx hb dX0_shorten_21 (by decide) ?_
        refine lv_land hx hb dX0_shorten_22 ?_
        refine lv_lconst (v := (0 : Int64)) hx hb dX0_shorten_23 (by decide) ?_
        refine W.lcmp hx hb dX0_shorten_24 ?_
        refine lv_if_ne (tgt := 54) hx hb dX0_shorten_25 (by decide) (fun c7 => ?_) (fun c7 => ?_)
        · replace h := if_f h c7
          exact E_void C hr hH h dX0_shorten_54
        · replace h := if_t h c7
          refine lv_aload_n hx hb dX0_shorten_28 rfl (lv_at hl 0 rfl) ?_
          refine lv_dup hx hb dX0_shorten_29 rfl ?_
          refine gf_X0_18 C hH dX0_shorten_30 ?_
          refine lv_iconst (v := (1 : Int32)) hx hb dX0_shorten_33 (by decide) ?_
          refine lv_lshr hx hb dX0_shorten_34 rfl ?_
          refine pf_X0_18 C hH dX0_shorten_35 (fun S4 H locs eS hH => ?_)
          replace h := lt_e h eS
          refine lv_aload_n hx hb dX0_shorten_38 rfl (lv_at hl 0 rfl) ?_
          refine lv_dup hx hb dX0_shorten_39 rfl ?_
          refine gf_X0_22 C hH dX0_shorten_40 ?_
          refine lv_iconst (v := (1 : Int32)) hx hb dX0_shorten_43 (by decide) ?_
          refine lv_lshr hx hb dX0_shorten_44 rfl ?_
          refine pf_X0_22 C hH dX0_shorten_45 (fun S5 H locs eS hH => ?_)
          replace h := lt_e h eS
          obtain ⟨x6, ex6⟩ : ∃ z : Int32, z = (x1 + (1 : Int32)) := ⟨_, rfl⟩
          replace h := lt_e h ex6
          refine lv_iinc (v := x6) (lv' := [(1, .int x6), (0, .ref (gad g 6 0))]) hx hb dX0_shorten_48 hl (k := 1) rfl (by rw [ex6]; rfl) (by decide) rfl (fun ls hl => ?_)
          refine lv_goto (tgt := 2) hx hb dX0_shorten_51 (by decide) ?_
          exact ih _ _ _ _ _ hH (lv_sub hl [1, 0] rfl) h
set_option maxHeartbeats 4000000 in
set_option maxRecDepth 100000 in
theorem w_X0_shorten (C : Cx p s m args meth c cX0_shorten 2 RX0 g) (hr : meth.sig.returnType = none) {o : sT}   {S : sT} {H : Heap} {locs : List Loc} {ls : Array Slot} (hH : Hp g s S H locs) (hl : lv_has ls 2 [(0, .ref (gad g 6 0))]) (h : f_X0_shorten  S = some o) : W p l e (rmL 1) s m args below meth c H locs 0 0 (Qm g below args s none o) (F0 m 0 ls []) := by
  obtain ⟨hx, hb, hml, hown, hts, hlk, hK⟩ := id C
  unfold f_X0_shorten at h
  refine lv_iconst (v := (0 : Int32)) hx hb dX0_shorten_0 (by decide) ?_
  refine lv_istore_n (lv' := [(1, .int (0 : Int32)), (0, .ref (gad g 6 0))]) hx hb dX0_shorten_1 rfl hl (by decide) rfl (fun ls hl => ?_)
  exact w_X0_shorten_2 C hr   _ _ _ _ _ _ hH (lv_sub hl [1, 0] rfl) h
theorem c_X0_shorten (l : Launch) (g : gT)   {S : sT} {S1 : sT} (h : f_X0_shorten  S = some S1) : MF l yX0_shorten cX0_shorten 2 none 1 g [.ref (gad g 6 0)] S none S1 := by
  refine MF.of (own := RX0) rfl rfl (Nat.le_of_ble_eq_true rfl) ?_
  intro p e s m below meth c C hr hH ls hl
  exact w_X0_shorten C hr (o := S1)  hH hl h
theorem nd_X0_standing : yX0_standing.cls ≠ "java/lang/invoke/MethodHandle" ∧ yX0_standing.cls ≠ "java/lang/invoke/VarHandle" ∧ (parseMethodDescriptor yX0_standing.desc).map (fun d => d.parameters.length) = some 4 := by decide +kernel
def s_X0_standing (rec : Nat → Int32 → Int32 → sT → Option (Int64 × sT)) (w1 : Nat) (a3 : Int32) (a4 : Int32) (S : sT) : Option (Int64 × sT) :=
 bn (f_X9_columnCount w1 S) (fun r2 =>
 jn (bn (f_X9_stands w1 S) (fun r4 =>
 (if r4 = (0 : Int32) then
 some ((0 : Int64), S)
 else
 some ((1 : Int64), S))))
 (fun j6 => (if r2 ≤ a4 then
 j6
 else
 (if a4 < (8 : Int32) then
 bn (f_X9_sizeOf w1 a4 S) (fun r8 =>
 (if r8 = (0 : Int32) then
 bn2 (rec w1 a3 (a4 + (1 : Int32)) S) (fun r28 S29 =>
 some (r28, S29))
 else
 jn (fun (y9 : Int64) (S10 : sT) => (if a3 ≤ (0 : Int32) then
 some (y9, S10)
 else
 bn2 (f_X9_take w1 a4 S10) (fun r12 S13 =>
 bn2 (rec w1 a3 (a4 + (1 : Int32)) S13) (fun r15 S16 =>
 lt (y9 + (((a3).toInt64) * r15)) (fun x17 =>
 bn2 (f_X9_put w1 a4 r12 S16) (fun r19 S20 =>
 some (x17, S20)))))))
 (fun j22 => (if (16 : Int32) ≤ a3 then
 j22 (0 : Int64) S
 else
 bn2 (rec w1 a3 (a4 + (1 : Int32)) S) (fun r24 S25 =>
 j22 (((((16 : Int32) - a3)).toInt64) * r24) S25)))))
 else
 j6))))
def f_X0_standing : Nat → Nat → Int32 → Int32 → sT → Option (Int64 × sT)
 | 0, _, _, _, _ => none
 | n + 1, w1, a3, a4, S => s_X0_standing (f_X0_standing n) w1 a3 a4 S
set_option maxHeartbeats 4000000 in
set_option maxRecDepth 100000 in
theorem w_X0_standing {d : Nat} {rec : Nat → Int32 → Int32 → sT → Option (Int64 × sT)} (hrec : ∀ (w1 : Nat) (a3 : Int32) (a4 : Int32) (S : sT) (r : Int64) (S1 : sT), w1 < 16 →  rec w1 a3 a4 S = some (r, S1) → MF l yX0_standing cX0_standing 7 (some .long) (4 + d) g [.ref (gad g 9 w1), .ref (gad g 2 0), .int a3, .int a4] S (some (.long r)) S1) (C : Cx p s m args meth c cX0_standing 7 RX0 g) (hr : meth.sig.returnType = (some .long)) {o : Int64 × sT} {w1 : Nat} {a3 : Int32} {a4 : Int32} (hw1 : w1 < 16) {S : sT} {H : Heap} {locs : List Loc} {ls : Array Slot} (hH : Hp g s S H locs) (hl : lv_has ls 7 [(0, .ref (gad g 9 w1)), (1, .ref (gad g 2 0)), (2, .int a3), (3, .int a4)]) (h : s_X0_standing rec w1 a3 a4 S = some o) : W p l e (rmL (4 + d + 1)) s m args below meth c H locs 0 0 (Qm g below args s (some (.long o.1)) o.2) (F0 m 0 ls []) := by
  obtain ⟨hx, hb, hml, hown, hts, hlk, hK⟩ := id C
  unfold s_X0_standing at h
  refine lv_iload_n hx hb dX0_standing_0 rfl (lv_at hl 3 rfl) ?_
  refine lv_aload_n hx hb dX0_standing_1 rfl (lv_at hl 0 rfl) ?_
  obtain ⟨r2, hc1, h⟩ := bn_e h
  refine r_callV1 (ki := 9) (i := w1) (ci := 8) (As := []) C hl.1 hH (c_X9_columnCount l g hw1 hc1) q695 q80 q864 q693 q694 nd_X9_columnCount rfl ⟨by simp only [rmL]; omega, by simp only [rmL]; omega⟩ ⟨Nat.zero_le _, Nat.zero_le _⟩ (by decide) hw1 ⟨_, rfl⟩ rfl (Nat.le_of_ble_eq_true rfl) dX0_standing_2 (fun H locs hH => ?_)
  obtain ⟨j6, ej6, h⟩ := jn_e h
  have hj6 : ∀  (H : Heap) (locs : List Loc) (ls : Array Slot), Hp g s S H locs → lv_has ls 7 [(0, .ref (gad g 9 w1)), (1, .ref (gad g 2 0))] → j6  = some o → W p l e (rmL (4 + d + 1)) s m args below meth c H locs 0 0 (Qm g below args s (some (.long o.1)) o.2) (F0 m 14 ls []) := by
    intro  H locs ls hH hl h
    rw [ej6] at h
    try dsimp only at h
    refine lv_aload_n hx hb dX0_standing_14 rfl (lv_at hl 0 rfl) ?_
    refine lv_aload_n hx hb dX0_standing_15 rfl (lv_at hl 1 rfl) ?_
    obtain ⟨r4, hc3, h⟩ := bn_e h
    refine r_callV1 (ki := 9) (i := w1) (ci := 8) (As := [.ref (gad g 2 0)]) C hl.1 hH (c_X9_stands l g hw1 hc3) q650 q80 q865 q648 q649 nd_X9_stands rfl ⟨by simp only [rmL]; omega, by simp only [rmL]; omega⟩ ⟨Nat.zero_le _, Nat.zero_le _⟩ (by decide) hw1 ⟨_, rfl⟩ rfl (Nat.le_of_ble_eq_true rfl) dX0_standing_16 (fun H locs hH => ?_)
    refine lv_if_eq (tgt := 26) hx hb dX0_standing_19 (by decide) (fun c5 => ?_) (fun c5 => ?_)
    · replace h := if_t h c5
      refine lv_lconst (v := (0 : Int64)) hx hb dX0_standing_26 (by decide) ?_
      exact E_long C hr hH h dX0_standing_27
    · replace h := if_f h c5
      refine lv_lconst (v := (1 : Int64)) hx hb dX0_standing_22 (by decide) ?_
      refine lv_goto (tgt := 27) hx hb dX0_standing_23 (by decide) ?_
      exact E_long C hr hH h dX0_standing_27
  clear ej6
  refine lv_icmp_ge (tgt := 14) hx hb dX0_standing_5 (by decide) (fun c32 => ?_) (fun c32 => ?_)
  · replace h := if_t h c32
    exact hj6 _ _ _ hH (lv_sub hl [0, 1] rfl) h
  · replace h := if_f h c32
    refine lv_iload_n hx hb dX0_standing_8 rfl (lv_at hl 3 rfl) ?_
    refine lv_bipush (v := (8 : Int32)) hx hb dX0_standing_9 (by decide) ?_
    refine lv_icmp_lt (tgt := 28) hx hb dX0_standing_11 (by decide) (fun c31 => ?_) (fun c31 => ?_)
    · replace h := if_t h c31
      refine lv_aload_n hx hb dX0_standing_28 rfl (lv_at hl 0 rfl) ?_
      refine lv_iload_n hx hb dX0_standing_29 rfl (lv_at hl 3 rfl) ?_
      obtain ⟨r8, hc7, h⟩ := bn_e h
      refine r_callV1 (ki := 9) (i := w1) (ci := 8) (As := [.int a4]) C hl.1 hH (c_X9_sizeOf l g hw1 hc7) q484 q80 q866 q482 q483 nd_X9_sizeOf rfl ⟨by simp only [rmL]; omega, by simp only [rmL]; omega⟩ ⟨Nat.zero_le _, Nat.zero_le _⟩ (by decide) hw1 ⟨_, rfl⟩ rfl (Nat.le_of_ble_eq_true rfl) dX0_standing_30 (fun H locs hH => ?_)
      refine lv_if_ne (tgt := 46) hx hb dX0_standing_33 (by decide) (fun c30 => ?_) (fun c30 => ?_)
      · replace h := if_f h c30
        refine lv_iload_n hx hb dX0_standing_46 rfl (lv_at hl 2 rfl) ?_
        refine lv_bipush (v := (16 : Int32)) hx hb dX0_standing_47 (by decide) ?_
        obtain ⟨j22, ej22, h⟩ := jn_e h
        have hj22 : ∀ (y9 : Int64) (S10 : sT) (H : Heap) (locs : List Loc) (ls : Array Slot), Hp g s S10 H locs → lv_has ls 7 [(0, .ref (gad g 9 w1)), (1, .ref (gad g 2 0)), (2, .int a3), (3, .int a4)] → j22 y9 S10 = some o → W p l e (rmL (4 + d + 1)) s m args below meth c H locs 0 0 (Qm g below args s (some (.long o.1)) o.2) (F0 m 71 ls [.long y9]) := by
          intro y9 S10 H locs ls hH hl h
          rw [ej22] at h
          try dsimp only at h
          refine lv_lstore (lv' := [(4, .long y9), (0, .ref (gad g 9 w1)), (1, .ref (gad g 2 0)), (2, .int a3), (3, .int a4)]) hx hb dX0_standing_71 hl (by decide) rfl (fun ls hl => ?_)
          refine lv_iload_n hx hb dX0_standing_73 rfl (lv_at hl 3 rfl) ?_
          refine lv_if_le (tgt := 109) hx hb dX0_standing_74 (by decide) (fun c21 => ?_) (fun c21 => ?_)
          · replace h := if_t h c21
            refine lv_lload hx hb dX0_standing_109 (lv_at hl 0 rfl) ?_
            exact E_long C hr hH h dX0_standing_111
          · replace h := if_f h c21
            refine lv_aload_n hx hb dX0_standing_77 rfl (lv_at hl 1 rfl) ?_
            refine lv_iload_n hx hb dX0_standing_78 rfl (lv_at hl 4 rfl) ?_
            obtain ⟨r12, S13, hc11, h⟩ := bn2_e h
            refine r_callV1 (ki := 9) (i := w1) (ci := 8) (As := [.int a4]) C hl.1 hH (c_X9_take l g hw1 hc11) q289 q80 q867 q287 q288 nd_X9_take rfl ⟨by simp only [rmL]; omega, by simp only [rmL]; omega⟩ ⟨Nat.zero_le _, Nat.zero_le _⟩ (by decide) hw1 ⟨_, rfl⟩ rfl (Nat.le_of_ble_eq_true rfl) dX0_standing_79 (fun H locs hH => ?_)
            refine lv_istore (lv' := [(6, .int r12), (4, .long y9), (0, .ref (gad g 9 w1)), (1, .ref (gad g 2 0)), (2, .int a3), (3, .int a4)]) hx hb dX0_standing_82 hl (by decide) rfl (fun ls hl => ?_)
            refine lv_lload hx hb dX0_standing_84 (lv_at hl 1 rfl) ?_
            refine lv_iload_n hx hb dX0_standing_86 rfl (lv_at hl 4 rfl) ?_
            refine lv_i2l hx hb dX0_standing_87 rfl ?_
            refine lv_aload_n hx hb dX0_standing_88 rfl (lv_at hl 2 rfl) ?_
            refine lv_aload_n hx hb dX0_standing_89 rfl (lv_at hl 3 rfl) ?_
            refine lv_iload_n hx hb dX0_standing_90 rfl (lv_at hl 4 rfl) ?_
            refine lv_iload_n hx hb dX0_standing_91 rfl (lv_at hl 5 rfl) ?_
            refine lv_iconst (v := (1 : Int32)) hx hb dX0_standing_92 (by decide) ?_
            refine lv_iadd hx hb dX0_standing_93 ?_
            obtain ⟨r15, S16, hc14, h⟩ := bn2_e h
            refine r_callS1 (As := [.ref (gad g 9 w1), .ref (gad g 2 0), .int a3, .int (a4 + (1 : Int32))]) C hl.1 hH (hrec w1 a3 (a4 + (1 : Int32)) _ _ _ hw1 hc14) q863 q35 q861 q862 nd_X0_standing rfl ⟨by simp only [rmL]; omega, by simp only [rmL]; omega⟩ ⟨Nat.zero_le _, Nat.zero_le _⟩ (Nat.le_of_ble_eq_true rfl) dX0_standing_94 (fun H locs hH => ?_)
            refine lv_lmul hx hb dX0_standing_97 ?_
            refine lv_ladd hx hb dX0_standing_98 ?_
            refine lv_topl (fun x17 ex17 => ?_)
            replace h := lt_e h ex17
            refine lv_lstore (lv' := [(4, .long x17), (6, .int r12), (0, .ref (gad g 9 w1)), (1, .ref (gad g 2 0)), (2, .int a3), (3, .int a4)]) hx hb dX0_standing_99 hl (by decide) rfl (fun ls hl => ?_)
            refine lv_aload_n hx hb dX0_standing_101 rfl (lv_at hl 2 rfl) ?_
            refine lv_iload_n hx hb dX0_standing_102 rfl (lv_at hl 5 rfl) ?_
            refine lv_iload hx hb dX0_standing_103 (lv_at hl 1 rfl) ?_
            obtain ⟨r19, S20, hc18, h⟩ := bn2_e h
            refine r_callV1 (ki := 9) (i := w1) (ci := 8) (As := [.int a4, .int r12]) C hl.1 hH (c_X9_put l g hw1 hc18) q197 q80 q868 q195 q196 nd_X9_put rfl ⟨by simp only [rmL]; omega, by simp only [rmL]; omega⟩ ⟨Nat.zero_le _, Nat.zero_le _⟩ (by decide) hw1 ⟨_, rfl⟩ rfl (Nat.le_of_ble_eq_true rfl) dX0_standing_105 (fun H locs hH => ?_)
            refine lv_pop hx hb dX0_standing_108 rfl ?_
            refine lv_lload hx hb dX0_standing_109 (lv_at hl 0 rfl) ?_
            exact E_long C hr hH h dX0_standing_111
        clear ej22
        refine lv_icmp_ge (tgt := 70) hx hb dX0_standing_49 (by decide) (fun c26 => ?_) (fun c26 => ?_)
        · replace h := if_t h c26
          refine lv_lconst (v := (0 : Int64)) hx hb dX0_standing_70 (by decide) ?_
          exact hj22 _ _ _ _ _ hH (lv_sub hl [0, 1, 2, 3] rfl) h
        · replace h := if_f h c26
          refine lv_bipush (v := (16 : Int32)) hx hb dX0_standing_52 (by decide) ?_
          refine lv_iload_n hx hb dX0_standing_54 rfl (lv_at hl 2 rfl) ?_
          refine lv_isub hx hb dX0_standing_55 ?_
          refine lv_i2l hx hb dX0_standing_56 rfl ?_
          refine lv_aload_n hx hb dX0_standing_57 rfl (lv_at hl 0 rfl) ?_
          refine lv_aload_n hx hb dX0_standing_58 rfl (lv_at hl 1 rfl) ?_
          refine lv_iload_n hx hb dX0_standing_59 rfl (lv_at hl 2 rfl) ?_
          refine lv_iload_n hx hb dX0_standing_60 rfl (lv_at hl 3 rfl) ?_
          refine lv_iconst (v := (1 : Int32)) hx hb dX0_standing_61 (by decide) ?_
          refine lv_iadd hx hb dX0_standing_62 ?_
          obtain ⟨r24, S25, hc23, h⟩ := bn2_e h
          refine r_callS1 (As := [.ref (gad g 9 w1), .ref (gad g 2 0), .int a3, .int (a4 + (1 : Int32))]) C hl.1 hH (hrec w1 a3 (a4 + (1 : Int32)) _ _ _ hw1 hc23) q863 q35 q861 q862 nd_X0_standing rfl ⟨by simp only [rmL]; omega, by simp only [rmL]; omega⟩ ⟨Nat.zero_le _, Nat.zero_le _⟩ (Nat.le_of_ble_eq_true rfl) dX0_standing_63 (fun H locs hH => ?_)
          refine lv_lmul hx hb dX0_standing_66 ?_
          refine lv_goto (tgt := 71) hx hb dX0_standing_67 (by decide) ?_
          exact hj22 _ _ _ _ _ hH (lv_sub hl [0, 1, 2, 3] rfl) h
      · replace h := if_t h c30
        refine lv_aload_n hx hb dX0_standing_36 rfl (lv_at hl 0 rfl) ?_
        refine lv_aload_n hx hb dX0_standing_37 rfl (lv_at hl 1 rfl) ?_
        refine lv_iload_n hx hb dX0_standing_38 rfl (lv_at hl 2 rfl) ?_
        refine lv_iload_n hx hb dX0_standing_39 rfl (lv_at hl 3 rfl) ?_
        refine lv_iconst (v := (1 : Int32)) hx hb dX0_standing_40 (by decide) ?_
        refine lv_iadd hx hb dX0_standing_41 ?_
        obtain ⟨r28, S29, hc27, h⟩ := bn2_e h
        refine r_callS1 (As := [.ref (gad g 9 w1), .ref (gad g 2 0), .int a3, .int (a4 + (1 : Int32))]) C hl.1 hH (hrec w1 a3 (a4 + (1 : Int32)) _ _ _ hw1 hc27) q863 q35 q861 q862 nd_X0_standing rfl ⟨by simp only [rmL]; omega, by simp only [rmL]; omega⟩ ⟨Nat.zero_le _, Nat.zero_le _⟩ (Nat.le_of_ble_eq_true rfl) dX0_standing_42 (fun H locs hH => ?_)
        exact E_long C hr hH h dX0_standing_45
    · replace h := if_f h c31
      exact hj6 _ _ _ hH (lv_sub hl [0, 1] rfl) h
theorem cr_X0_standing (l : Launch) (g : gT) : ∀ (d : Nat) (w1 : Nat) (a3 : Int32) (a4 : Int32) (S : sT) (r : Int64) (S1 : sT), w1 < 16 →  f_X0_standing d w1 a3 a4 S = some (r, S1) → MF l yX0_standing cX0_standing 7 (some .long) (4 + d) g [.ref (gad g 9 w1), .ref (gad g 2 0), .int a3, .int a4] S (some (.long r)) S1 := by
  intro d
  induction d with
  | zero =>
    intro w1 a3 a4 S r S1 hw1 h
    cases h
  | succ d ih =>
    intro w1 a3 a4 S r S1 hw1 h
    refine MF.of (own := RX0) rfl rfl (Nat.le_of_ble_eq_true rfl) ?_
    intro p e s m below meth c C hr hH ls hl
    exact w_X0_standing ih C hr (o := (r, S1)) hw1 hH hl h
theorem c_X0_standing (l : Launch) (g : gT) {w1 : Nat} {a3 : Int32} {a4 : Int32} (hw1 : w1 < 16) {S : sT} {r : Int64} {S1 : sT} (h : f_X0_standing 12 w1 a3 a4 S = some (r, S1)) : MF l yX0_standing cX0_standing 7 (some .long) 16 g [.ref (gad g 9 w1), .ref (gad g 2 0), .int a3, .int a4] S (some (.long r)) S1 := cr_X0_standing l g 12 _ _ _ _ _ _ hw1 h
theorem nd_X0_freeze : yX0_freeze.cls ≠ "java/lang/invoke/MethodHandle" ∧ yX0_freeze.cls ≠ "java/lang/invoke/VarHandle" ∧ (parseMethodDescriptor yX0_freeze.desc).map (fun d => d.parameters.length) = some 3 := by decide +kernel
def b_X0_freeze_30 (j11 : sT → Option (sT)) (x12 : Int32) (S13 : sT) (k14 : Int32 → sT → Option (sT)) : Option (sT) :=
 bn (f_X9_columnCount 15 S13) (fun r16 =>
 (if r16 ≤ x12 then
 j11 S13
 else
 bn (f_X9_sizeOf 15 x12 S13) (fun r18 =>
 jn (fun (S19 : sT) => lt (x12 + (1 : Int32)) (fun x20 =>
 k14 x20 S19))
 (fun j21 => (if r18 ≤ (0 : Int32) then
 j21 S13
 else
 lt (ul S13 1 ((S13.2 1) * (16 : Int64))) (fun S22 =>
 j21 S22))))))
def l_X0_freeze_30 (j11 : sT → Option (sT)) : Nat → Int32 → sT → Option (sT)
 | 0, _, _ => none
 | n + 1, x12, S13 => b_X0_freeze_30 j11 x12 S13 (l_X0_freeze_30 j11 n)
theorem l_X0_freeze_30_s (j11 : sT → Option (sT)) (n : Nat) (x12 : Int32) (S13 : sT) : l_X0_freeze_30 j11 (n + 1) x12 S13 = b_X0_freeze_30 j11 x12 S13 (l_X0_freeze_30 j11 n) := rfl
def f_X0_freeze (w1 : Nat) (a3 : Int32) (S : sT) : Option (sT) :=
 bn (f_X9_become 15 w1 S) (fun S2 =>
 bn2 (f_X0_standing 12 15 a3 (0 : Int32) S2) (fun r4 S5 =>
 lt (ul S5 0 r4) (fun S6 =>
 lt (ul S6 1 (1 : Int64)) (fun S7 =>
 jn (fun (S8 : sT) => bn (f_X0_shorten  S8) (fun S10 =>
 some S10))
 (fun j11 => l_X0_freeze_30 j11 FU (0 : Int32) S7)))))
set_option maxHeartbeats 4000000 in
set_option maxRecDepth 100000 in
theorem w_X0_freeze_30 (C : Cx p s m args meth c cX0_freeze 5 RX0 g) (hr : meth.sig.returnType = none) {o : sT}    (j11 : sT → Option (sT)) (hj11 : ∀ (S8 : sT) (H : Heap) (locs : List Loc) (ls : Array Slot), Hp g s S8 H locs → lv_has ls 5 [(0, .ref (gad g 6 0))] → j11 S8 = some o → W p l e (rmL 18) s m args below meth c H locs 0 0 (Qm g below args s none o) (F0 m 72 ls [])) : ∀ (n : Nat) (x12 : Int32) (S13 : sT) (H : Heap) (locs : List Loc) (ls : Array Slot), Hp g s S13 H locs → lv_has ls 5 [(0, .ref (gad g 6 0)), (4, .int x12)] → l_X0_freeze_30 j11 n x12 S13 = some o → W p l e (rmL 18) s m args below meth c H locs 0 0 (Qm g below args s none o) (F0 m 30 ls []) := by
  obtain ⟨hx, hb, hml, hown, hts, hlk, hK⟩ := id C
  intro n
  induction n with
  | zero =>
    intro x12 S13 H locs ls hH hl h
    cases h
  | succ n ih =>
    intro x12 S13 H locs ls hH hl h
    rw [l_X0_freeze_30_s] at h
    unfold b_X0_freeze_30 at h
    refine lv_iload hx hb dX0_freeze_30 (lv_at hl 1 rfl) ?_
    refine lv_aload_n hx hb dX0_freeze_32 rfl (lv_at hl 0 rfl) ?_
    refine gf_X0_12 C hH dX0_freeze_33 ?_
    obtain ⟨r16, hc15, h⟩ := bn_e h
    refine r_callV1 (ki := 9) (i := 15) (ci := 8) (As := []) C hl.1 hH (c_X9_columnCount l g (by decide) hc15) q695 q80 q864 q693 q694 nd_X9_columnCount rfl (by decide) ⟨Nat.zero_le _, Nat.zero_le _⟩ (by decide) (by decide) ⟨_, rfl⟩ rfl (Nat.le_of_ble_eq_true rfl) dX0_freeze_36 (fun H locs hH => ?_)
    refine lv_icmp_ge (tgt := 72) hx hb dX0_freeze_39 (by decide) (fun c24 => ?_) (fun c24 => ?_)
    · replace h := if_t h c24
      exact hj11 _ _ _ _ hH (lv_sub hl [0] rfl) h
    · replace h := if_f h c24
      refine lv_aload_n hx hb dX0_freeze_42 rfl (lv_at hl 0 rfl) ?_
      refine gf_X0_12 C hH dX0_freeze_43 ?_
      refine lv_iload hx hb dX0_freeze_46 (lv_at hl 1 rfl) ?_
      obtain ⟨r18, hc17, h⟩ := bn_e h
      refine r_callV1 (ki := 9) (i := 15) (ci := 8) (As := [.int x12]) C hl.1 hH (c_X9_sizeOf l g (by decide) hc17) q484 q80 q866 q482 q483 nd_X9_sizeOf rfl (by decide) ⟨Nat.zero_le _, Nat.zero_le _⟩ (by decide) (by decide) ⟨_, rfl⟩ rfl (Nat.le_of_ble_eq_true rfl) dX0_freeze_48 (fun H locs hH => ?_)
      obtain ⟨j21, ej21, h⟩ := jn_e h
      have hj21 : ∀ (S19 : sT) (H : Heap) (locs : List Loc) (ls : Array Slot), Hp g s S19 H locs → lv_has ls 5 [(0, .ref (gad g 6 0)), (4, .int x12)] → j21 S19 = some o → W p l e (rmL 18) s m args below meth c H locs 0 0 (Qm g below args s none o) (F0 m 66 ls []) := by
        intro S19 H locs ls hH hl h
        rw [ej21] at h
        try dsimp only at h
        obtain ⟨x20, ex20⟩ : ∃ z : Int32, z = (x12 + (1 : Int32)) := ⟨_, rfl⟩
        replace h := lt_e h ex20
        refine lv_iinc (v := x20) (lv' := [(4, .int x20), (0, .ref (gad g 6 0))]) hx hb dX0_freeze_66 hl (k := 1) rfl (by rw [ex20]; rfl) (by decide) rfl (fun ls hl => ?_)
        refine lv_goto (tgt := 30) hx hb dX0_freeze_69 (by decide) ?_
        exact ih _ _ _ _ _ hH (lv_sub hl [1, 0] rfl) h
      clear ej21
      refine lv_if_le (tgt := 66) hx hb dX0_freeze_51 (by decide) (fun c23 => ?_) (fun c23 => ?_)
      · replace h := if_t h c23
        exact hj21 _ _ _ _ hH (lv_sub hl [0, 1] rfl) h
      · replace h := if_f h c23
        refine lv_aload_n hx hb dX0_freeze_54 rfl (lv_at hl 0 rfl) ?_
        refine lv_dup hx hb dX0_freeze_55 rfl ?_
        refine gf_X0_22 C hH dX0_freeze_56 ?_
        refine lv_ldc2 (v := (16 : Int64)) hx hb hown (hts _ q859) dX0_freeze_59 ?_
        refine lv_lmul hx hb dX0_freeze_62 ?_
        refine pf_X0_22 C hH dX0_freeze_63 (fun S22 H locs eS hH => ?_)
        replace h := lt_e h eS
        exact hj21 _ _ _ _ hH (lv_sub hl [0, 1] rfl) h
set_option maxHeartbeats 4000000 in
set_option maxRecDepth 100000 in
theorem w_X0_freeze (C : Cx p s m args meth c cX0_freeze 5 RX0 g) (hr : meth.sig.returnType = none) {o : sT} {w1 : Nat} {a3 : Int32} (hw1 : w1 < 16) {S : sT} {H : Heap} {locs : List Loc} {ls : Array Slot} (hH : Hp g s S H locs) (hl : lv_has ls 5 [(0, .ref (gad g 6 0)), (1, .ref (gad g 9 w1)), (2, .ref (gad g 2 0)), (3, .int a3)]) (h : f_X0_freeze w1 a3 S = some o) : W p l e (rmL 18) s m args below meth c H locs 0 0 (Qm g below args s none o) (F0 m 0 ls []) := by
  obtain ⟨hx, hb, hml, hown, hts, hlk, hK⟩ := id C
  unfold f_X0_freeze at h
  refine lv_aload_n hx hb dX0_freeze_0 rfl (lv_at hl 0 rfl) ?_
  refine gf_X0_12 C hH dX0_freeze_1 ?_
  refine lv_aload_n hx hb dX0_freeze_4 rfl (lv_at hl 1 rfl) ?_
  obtain ⟨S2, hc1, h⟩ := bn_e h
  refine r_callV0 (ki := 9) (i := 15) (ci := 8) (As := [.ref (gad g 9 w1)]) C hl.1 hH (c_X9_become l g (by decide) hw1 hc1) q258 q80 q860 q256 q257 nd_X9_become rfl (by decide) ⟨Nat.zero_le _, Nat.zero_le _⟩ (by decide) (by decide) ⟨_, rfl⟩ rfl (Nat.le_of_ble_eq_true rfl) dX0_freeze_5 (fun H locs hH => ?_)
  refine lv_aload_n hx hb dX0_freeze_8 rfl (lv_at hl 0 rfl) ?_
  refine lv_aload_n hx hb dX0_freeze_9 rfl (lv_at hl 0 rfl) ?_
  refine gf_X0_12 C hH dX0_freeze_10 ?_
  refine lv_aload_n hx hb dX0_freeze_13 rfl (lv_at hl 2 rfl) ?_
  refine lv_iload_n hx hb dX0_freeze_14 rfl (lv_at hl 3 rfl) ?_
  refine lv_iconst (v := (0 : Int32)) hx hb dX0_freeze_15 (by decide) ?_
  obtain ⟨r4, S5, hc3, h⟩ := bn2_e h
  refine r_callS1 (As := [.ref (gad g 9 15), .ref (gad g 2 0), .int a3, .int (0 : Int32)]) C hl.1 hH (c_X0_standing l g (by decide) hc3) q863 q35 q861 q862 nd_X0_standing rfl (by decide) ⟨Nat.zero_le _, Nat.zero_le _⟩ (Nat.le_of_ble_eq_true rfl) dX0_freeze_16 (fun H locs hH => ?_)
  refine pf_X0_18 C hH dX0_freeze_19 (fun S6 H locs eS hH => ?_)
  replace h := lt_e h eS
  refine lv_aload_n hx hb dX0_freeze_22 rfl (lv_at hl 0 rfl) ?_
  refine lv_lconst (v := (1 : Int64)) hx hb dX0_freeze_23 (by decide) ?_
  refine pf_X0_22 C hH dX0_freeze_24 (fun S7 H locs eS hH => ?_)
  replace h := lt_e h eS
  refine lv_iconst (v := (0 : Int32)) hx hb dX0_freeze_27 (by decide) ?_
  refine lv_istore (lv' := [(4, .int (0 : Int32)), (0, .ref (gad g 6 0)), (1, .ref (gad g 9 w1)), (2, .ref (gad g 2 0)), (3, .int a3)]) hx hb dX0_freeze_28 hl (by decide) rfl (fun ls hl => ?_)
  obtain ⟨j11, ej11, h⟩ := jn_e h
  have hj11 : ∀ (S8 : sT) (H : Heap) (locs : List Loc) (ls : Array Slot), Hp g s S8 H locs → lv_has ls 5 [(0, .ref (gad g 6 0))] → j11 S8 = some o → W p l e (rmL 18) s m args below meth c H locs 0 0 (Qm g below args s none o) (F0 m 72 ls []) := by
    intro S8 H locs ls hH hl h
    rw [ej11] at h
    try dsimp only at h
    refine lv_aload_n hx hb dX0_freeze_72 rfl (lv_at hl 0 rfl) ?_
    obtain ⟨S10, hc9, h⟩ := bn_e h
    refine r_callV0 (ki := 6) (i := 0) (ci := 0) (As := []) C hl.1 hH (c_X0_shorten l g  hc9) q872 q35 q869 q870 q871 nd_X0_shorten rfl (by decide) ⟨Nat.zero_le _, Nat.zero_le _⟩ (by decide) (by decide) ⟨_, rfl⟩ rfl (Nat.le_of_ble_eq_true rfl) dX0_freeze_73 (fun H locs hH => ?_)
    exact E_void C hr hH h dX0_freeze_76
  clear ej11
  exact w_X0_freeze_30 C hr  j11 hj11 _ _ _ _ _ _ hH (lv_sub hl [1, 0] rfl) h
theorem c_X0_freeze (l : Launch) (g : gT) {w1 : Nat} {a3 : Int32} (hw1 : w1 < 16) {S : sT} {S1 : sT} (h : f_X0_freeze w1 a3 S = some S1) : MF l yX0_freeze cX0_freeze 5 none 18 g [.ref (gad g 6 0), .ref (gad g 9 w1), .ref (gad g 2 0), .int a3] S none S1 := by
  refine MF.of (own := RX0) rfl rfl (Nat.le_of_ble_eq_true rfl) ?_
  intro p e s m below meth c C hr hH ls hl
  exact w_X0_freeze C hr (o := S1) hw1 hH hl h
theorem nd_X0_fallenYears : yX0_fallenYears.cls ≠ "java/lang/invoke/MethodHandle" ∧ yX0_fallenYears.cls ≠ "java/lang/invoke/VarHandle" ∧ (parseMethodDescriptor yX0_fallenYears.desc).map (fun d => d.parameters.length) = some 0 := by decide +kernel
def f_X0_fallenYears  (S : sT) : Option (Int32) :=
 some (S.1 109 0 0)
set_option maxHeartbeats 4000000 in
set_option maxRecDepth 100000 in
theorem w_X0_fallenYears (C : Cx p s m args meth c cX0_fallenYears 1 RX0 g) (hr : meth.sig.returnType = (some .int)) {o : Int32}   {S : sT} {H : Heap} {locs : List Loc} {ls : Array Slot} (hH : Hp g s S H locs) (hl : lv_has ls 1 [(0, .ref (gad g 6 0))]) (h : f_X0_fallenYears  S = some o) : W p l e (rmL 1) s m args below meth c H locs 0 0 (Qm g below args s (some (.int o)) S) (F0 m 0 ls []) := by
  obtain ⟨hx, hb, hml, hown, hts, hlk, hK⟩ := id C
  unfold f_X0_fallenYears at h
  refine lv_aload_n hx hb dX0_fallenYears_0 rfl (lv_at hl 0 rfl) ?_
  refine gf_X0_29 C hH dX0_fallenYears_1 ?_
  exact E_intc C hr hH h dX0_fallenYears_4
theorem c_X0_fallenYears (l : Launch) (g : gT)   {S : sT} {r : Int32} (h : f_X0_fallenYears  S = some r) : MF l yX0_fallenYears cX0_fallenYears 1 (some .int) 1 g [.ref (gad g 6 0)] S (some (.int r)) S := by
  refine MF.of (own := RX0) rfl rfl (Nat.le_of_ble_eq_true rfl) ?_
  intro p e s m below meth c C hr hH ls hl
  exact w_X0_fallenYears C hr (o := r)  hH hl h
theorem nd_X0_heightOf : yX0_heightOf.cls ≠ "java/lang/invoke/MethodHandle" ∧ yX0_heightOf.cls ≠ "java/lang/invoke/VarHandle" ∧ (parseMethodDescriptor yX0_heightOf.desc).map (fun d => d.parameters.length) = some 1 := by decide +kernel
def f_X0_heightOf (a1 : Int32) (S : sT) : Option (Int32) :=
 bn (f_X9_heightOf 15 a1 S) (fun r2 =>
 some r2)
set_option maxHeartbeats 4000000 in
set_option maxRecDepth 100000 in
theorem w_X0_heightOf (C : Cx p s m args meth c cX0_heightOf 2 RX0 g) (hr : meth.sig.returnType = (some .int)) {o : Int32} {a1 : Int32}  {S : sT} {H : Heap} {locs : List Loc} {ls : Array Slot} (hH : Hp g s S H locs) (hl : lv_has ls 2 [(0, .ref (gad g 6 0)), (1, .int a1)]) (h : f_X0_heightOf a1 S = some o) : W p l e (rmL 2) s m args below meth c H locs 0 0 (Qm g below args s (some (.int o)) S) (F0 m 0 ls []) := by
  obtain ⟨hx, hb, hml, hown, hts, hlk, hK⟩ := id C
  unfold f_X0_heightOf at h
  refine lv_aload_n hx hb dX0_heightOf_0 rfl (lv_at hl 0 rfl) ?_
  refine gf_X0_12 C hH dX0_heightOf_1 ?_
  refine lv_iload_n hx hb dX0_heightOf_4 rfl (lv_at hl 1 rfl) ?_
  obtain ⟨r2, hc1, h⟩ := bn_e h
  refine r_callV1 (ki := 9) (i := 15) (ci := 8) (As := [.int a1]) C hl.1 hH (c_X9_heightOf l g (by decide) hc1) q402 q80 q924 q400 q401 nd_X9_heightOf rfl (by decide) ⟨Nat.zero_le _, Nat.zero_le _⟩ (by decide) (by decide) ⟨_, rfl⟩ rfl (Nat.le_of_ble_eq_true rfl) dX0_heightOf_5 (fun H locs hH => ?_)
  exact E_intc C hr hH h dX0_heightOf_8
theorem c_X0_heightOf (l : Launch) (g : gT) {a1 : Int32}  {S : sT} {r : Int32} (h : f_X0_heightOf a1 S = some r) : MF l yX0_heightOf cX0_heightOf 2 (some .int) 2 g [.ref (gad g 6 0), .int a1] S (some (.int r)) S := by
  refine MF.of (own := RX0) rfl rfl (Nat.le_of_ble_eq_true rfl) ?_
  intro p e s m below meth c C hr hH ls hl
  exact w_X0_heightOf C hr (o := r)  hH hl h
theorem nd_X0_lot : yX0_lot.cls ≠ "java/lang/invoke/MethodHandle" ∧ yX0_lot.cls ≠ "java/lang/invoke/VarHandle" ∧ (parseMethodDescriptor yX0_lot.desc).map (fun d => d.parameters.length) = some 1 := by decide +kernel
def f_X0_lot (a1 : Int32) (S : sT) : Option (Int32 × sT) :=
 lt (us S 108 0 0 (((1103515245 : Int32) * (S.1 108 0 0)) + (12345 : Int32))) (fun S1 =>
 (if a1 ≤ (0 : Int32) then
 some ((0 : Int32), S1)
 else
 ck (nz a1) (
 some ((((((S1.1 108 0 0)).toUInt32 >>> (((16 : Int32)).toUInt32 &&& Int32.toUInt32 31)).toInt32) - ((((S1.1 108 0 0)).toUInt32 >>> (((16 : Int32)).toUInt32 &&& Int32.toUInt32 31)).toInt32) / a1 * a1), S1))))
set_option maxHeartbeats 4000000 in
set_option maxRecDepth 100000 in
theorem w_X0_lot (C : Cx p s m args meth c cX0_lot 2 RX0 g) (hr : meth.sig.returnType = (some .int)) {o : Int32 × sT} {a1 : Int32}  {S : sT} {H : Heap} {locs : List Loc} {ls : Array Slot} (hH : Hp g s S H locs) (hl : lv_has ls 2 [(0, .ref (gad g 6 0)), (1, .int a1)]) (h : f_X0_lot a1 S = some o) : W p l e (rmL 1) s m args below meth c H locs 0 0 (Qm g below args s (some (.int o.1)) o.2) (F0 m 0 ls []) := by
  obtain ⟨hx, hb, hml, hown, hts, hlk, hK⟩ := id C
  unfold f_X0_lot at h
  refine lv_aload_n hx hb dX0_lot_0 rfl (lv_at hl 0 rfl) ?_
  refine lv_ldc (v := (1103515245 : Int32)) hx hb hown (hts _ q914) dX0_lot_1 ?_
  refine lv_aload_n hx hb dX0_lot_3 rfl (lv_at hl 0 rfl) ?_
  refine gf_X0_25 C hH dX0_lot_4 ?_
  refine lv_imul hx hb dX0_lot_7 ?_
  refine lv_sipush (v := (12345 : Int32)) hx hb dX0_lot_8 (by decide) ?_
  refine lv_iadd hx hb dX0_lot_11 ?_
  refine pf_X0_25 C hH dX0_lot_12 (fun S1 H locs eS hH => ?_)
  replace h := lt_e h eS
  refine lv_iload_n hx hb dX0_lot_15 rfl (lv_at hl 1 rfl) ?_
  refine lv_if_le (tgt := 31) hx hb dX0_lot_16 (by decide) (fun c3 => ?_) (fun c3 => ?_)
  · replace h := if_t h c3
    refine lv_iconst (v := (0 : Int32)) hx hb dX0_lot_31 (by decide) ?_
    exact E_int C hr hH h dX0_lot_32
  · replace h := if_f h c3
    refine lv_aload_n hx hb dX0_lot_19 rfl (lv_at hl 0 rfl) ?_
    refine gf_X0_25 C hH dX0_lot_20 ?_
    refine lv_bipush (v := (16 : Int32)) hx hb dX0_lot_23 (by decide) ?_
    refine lv_iushr hx hb dX0_lot_25 rfl ?_
    refine lv_iload_n hx hb dX0_lot_26 rfl (lv_at hl 1 rfl) ?_
    obtain ⟨hv2, h⟩ := ck_e h
    refine lv_irem hx hb dX0_lot_27 (nz_e hv2) ?_
    refine lv_goto (tgt := 32) hx hb dX0_lot_28 (by decide) ?_
    exact E_int C hr hH h dX0_lot_32
theorem c_X0_lot (l : Launch) (g : gT) {a1 : Int32}  {S : sT} {r : Int32} {S1 : sT} (h : f_X0_lot a1 S = some (r, S1)) : MF l yX0_lot cX0_lot 2 (some .int) 1 g [.ref (gad g 6 0), .int a1] S (some (.int r)) S1 := by
  refine MF.of (own := RX0) rfl rfl (Nat.le_of_ble_eq_true rfl) ?_
  intro p e s m below meth c C hr hH ls hl
  exact w_X0_lot C hr (o := (r, S1))  hH hl h
theorem nd_X0_passYear : yX0_passYear.cls ≠ "java/lang/invoke/MethodHandle" ∧ yX0_passYear.cls ≠ "java/lang/invoke/VarHandle" ∧ (parseMethodDescriptor yX0_passYear.desc).map (fun d => d.parameters.length) = some 1 := by decide +kernel
def f_X0_passYear (a1 : Int32) (S : sT) : Option (sT) :=
 bn (f_X9_columnCount 15 S) (fun r2 =>
 bn2 (f_X0_lot r2 S) (fun r4 S5 =>
 bn2 (f_X0_lot (4 : Int32) S5) (fun r7 S8 =>
 (if r7 = (0 : Int32) then
 bn2 (f_X9_takeFromOther 15 r4 a1 S8) (fun r13 S14 =>
 some S14)
 else
 bn2 (f_X9_put 15 r4 a1 S8) (fun r10 S11 =>
 some S11)))))
set_option maxHeartbeats 4000000 in
set_option maxRecDepth 100000 in
theorem w_X0_passYear (C : Cx p s m args meth c cX0_passYear 3 RX0 g) (hr : meth.sig.returnType = none) {o : sT} {a1 : Int32}  {S : sT} {H : Heap} {locs : List Loc} {ls : Array Slot} (hH : Hp g s S H locs) (hl : lv_has ls 3 [(0, .ref (gad g 6 0)), (1, .int a1)]) (h : f_X0_passYear a1 S = some o) : W p l e (rmL 4) s m args below meth c H locs 0 0 (Qm g below args s none o) (F0 m 0 ls []) := by
  obtain ⟨hx, hb, hml, hown, hts, hlk, hK⟩ := id C
  unfold f_X0_passYear at h
  refine lv_aload_n hx hb dX0_passYear_0 rfl (lv_at hl 0 rfl) ?_
  refine lv_aload_n hx hb dX0_passYear_1 rfl (lv_at hl 0 rfl) ?_
  refine gf_X0_12 C hH dX0_passYear_2 ?_
  obtain ⟨r2, hc1, h⟩ := bn_e h
  refine r_callV1 (ki := 9) (i := 15) (ci := 8) (As := []) C hl.1 hH (c_X9_columnCount l g (by decide) hc1) q695 q80 q864 q693 q694 nd_X9_columnCount rfl (by decide) ⟨Nat.zero_le _, Nat.zero_le _⟩ (by decide) (by decide) ⟨_, rfl⟩ rfl (Nat.le_of_ble_eq_true rfl) dX0_passYear_5 (fun H locs hH => ?_)
  obtain ⟨r4, S5, hc3, h⟩ := bn2_e h
  refine r_callV1 (ki := 6) (i := 0) (ci := 0) (As := [.int r2]) C hl.1 hH (c_X0_lot l g  hc3) q913 q35 q910 q911 q912 nd_X0_lot rfl (by decide) ⟨Nat.zero_le _, Nat.zero_le _⟩ (by decide) (by decide) ⟨_, rfl⟩ rfl (Nat.le_of_ble_eq_true rfl) dX0_passYear_8 (fun H locs hH => ?_)
  refine lv_istore_n (lv' := [(2, .int r4), (0, .ref (gad g 6 0)), (1, .int a1)]) hx hb dX0_passYear_11 rfl hl (by decide) rfl (fun ls hl => ?_)
  refine lv_aload_n hx hb dX0_passYear_12 rfl (lv_at hl 1 rfl) ?_
  refine lv_iconst (v := (4 : Int32)) hx hb dX0_passYear_13 (by decide) ?_
  obtain ⟨r7, S8, hc6, h⟩ := bn2_e h
  refine r_callV1 (ki := 6) (i := 0) (ci := 0) (As := [.int (4 : Int32)]) C hl.1 hH (c_X0_lot l g  hc6) q913 q35 q910 q911 q912 nd_X0_lot rfl (by decide) ⟨Nat.zero_le _, Nat.zero_le _⟩ (by decide) (by decide) ⟨_, rfl⟩ rfl (Nat.le_of_ble_eq_true rfl) dX0_passYear_14 (fun H locs hH => ?_)
  refine lv_if_ne (tgt := 33) hx hb dX0_passYear_17 (by decide) (fun c15 => ?_) (fun c15 => ?_)
  · replace h := if_f h c15
    refine lv_aload_n hx hb dX0_passYear_33 rfl (lv_at hl 1 rfl) ?_
    refine gf_X0_12 C hH dX0_passYear_34 ?_
    refine lv_iload_n hx hb dX0_passYear_37 rfl (lv_at hl 0 rfl) ?_
    refine lv_iload_n hx hb dX0_passYear_38 rfl (lv_at hl 2 rfl) ?_
    obtain ⟨r10, S11, hc9, h⟩ := bn2_e h
    refine r_callV1 (ki := 9) (i := 15) (ci := 8) (As := [.int r4, .int a1]) C hl.1 hH (c_X9_put l g (by decide) hc9) q197 q80 q868 q195 q196 nd_X9_put rfl (by decide) ⟨Nat.zero_le _, Nat.zero_le _⟩ (by decide) (by decide) ⟨_, rfl⟩ rfl (Nat.le_of_ble_eq_true rfl) dX0_passYear_39 (fun H locs hH => ?_)
    refine lv_pop hx hb dX0_passYear_42 rfl ?_
    exact E_void C hr hH h dX0_passYear_43
  · replace h := if_t h c15
    refine lv_aload_n hx hb dX0_passYear_20 rfl (lv_at hl 1 rfl) ?_
    refine gf_X0_12 C hH dX0_passYear_21 ?_
    refine lv_iload_n hx hb dX0_passYear_24 rfl (lv_at hl 0 rfl) ?_
    refine lv_iload_n hx hb dX0_passYear_25 rfl (lv_at hl 2 rfl) ?_
    obtain ⟨r13, S14, hc12, h⟩ := bn2_e h
    refine r_callV1 (ki := 9) (i := 15) (ci := 8) (As := [.int r4, .int a1]) C hl.1 hH (c_X9_takeFromOther l g (by decide) hc12) q278 q80 q915 q276 q277 nd_X9_takeFromOther rfl (by decide) ⟨Nat.zero_le _, Nat.zero_le _⟩ (by decide) (by decide) ⟨_, rfl⟩ rfl (Nat.le_of_ble_eq_true rfl) dX0_passYear_26 (fun H locs hH => ?_)
    refine lv_pop hx hb dX0_passYear_29 rfl ?_
    refine lv_goto (tgt := 43) hx hb dX0_passYear_30 (by decide) ?_
    exact E_void C hr hH h dX0_passYear_43
theorem c_X0_passYear (l : Launch) (g : gT) {a1 : Int32}  {S : sT} {S1 : sT} (h : f_X0_passYear a1 S = some S1) : MF l yX0_passYear cX0_passYear 3 none 4 g [.ref (gad g 6 0), .int a1] S none S1 := by
  refine MF.of (own := RX0) rfl rfl (Nat.le_of_ble_eq_true rfl) ?_
  intro p e s m below meth c C hr hH ls hl
  exact w_X0_passYear C hr (o := S1)  hH hl h
theorem nd_X0_live : yX0_live.cls ≠ "java/lang/invoke/MethodHandle" ∧ yX0_live.cls ≠ "java/lang/invoke/VarHandle" ∧ (parseMethodDescriptor yX0_live.desc).map (fun d => d.parameters.length) = some 5 := by decide +kernel
def b_X0_live_22 (a3 : Int32) (a5 : Int32) (x5 : Int32) (S6 : sT) (k7 : Int32 → sT → Option (sT)) : Option (sT) :=
 (if a5 ≤ x5 then
 some S6
 else
 (if (40 : Int32) ≤ x5 then
 some S6
 else
 bn (f_X3_brotherOf (a3 + x5) S6) (fun r9 =>
 bn (f_X0_passYear r9 S6) (fun S11 =>
 bn (f_X9_stands 15 S11) (fun r13 =>
 jn (fun (S14 : sT) => lt (x5 + (1 : Int32)) (fun x15 =>
 k7 x15 S14))
 (fun j16 => (if r13 = (0 : Int32) then
 lt (us S11 109 0 0 ((S11.1 109 0 0) + (1 : Int32))) (fun S17 =>
 j16 S17)
 else
 j16 S11)))))))
def l_X0_live_22 (a3 : Int32) (a5 : Int32) : Nat → Int32 → sT → Option (sT)
 | 0, _, _ => none
 | n + 1, x5, S6 => b_X0_live_22 a3 a5 x5 S6 (l_X0_live_22 a3 a5 n)
theorem l_X0_live_22_s (a3 : Int32) (a5 : Int32) (n : Nat) (x5 : Int32) (S6 : sT) : l_X0_live_22 a3 a5 (n + 1) x5 S6 = b_X0_live_22 a3 a5 x5 S6 (l_X0_live_22 a3 a5 n) := rfl
def f_X0_live (w1 : Nat) (a3 : Int32) (a4 : Int32) (a5 : Int32) (S : sT) : Option (sT) :=
 bn (f_X9_become 15 w1 S) (fun S2 =>
 lt (us S2 108 0 0 a4) (fun S3 =>
 lt (us S3 109 0 0 (0 : Int32)) (fun S4 =>
 l_X0_live_22 a3 a5 FU (0 : Int32) S4)))
set_option maxHeartbeats 4000000 in
set_option maxRecDepth 100000 in
theorem w_X0_live_22 (C : Cx p s m args meth c cX0_live 7 RX0 g) (hr : meth.sig.returnType = none) {o : sT}  {a3 : Int32} {a5 : Int32}   : ∀ (n : Nat) (x5 : Int32) (S6 : sT) (H : Heap) (locs : List Loc) (ls : Array Slot), Hp g s S6 H locs → lv_has ls 7 [(0, .ref (gad g 6 0)), (2, .ref (gad g 2 0)), (3, .int a3), (5, .int a5), (6, .int x5)] → l_X0_live_22 a3 a5 n x5 S6 = some o → W p l e (rmL 5) s m args below meth c H locs 0 0 (Qm g below args s none o) (F0 m 22 ls []) := by
  obtain ⟨hx, hb, hml, hown, hts, hlk, hK⟩ := id C
  intro n
  induction n with
  | zero =>
    intro x5 S6 H locs ls hH hl h
    cases h
  | succ n ih =>
    intro x5 S6 H locs ls hH hl h
    rw [l_X0_live_22_s] at h
    unfold b_X0_live_22 at h
    refine lv_iload hx hb dX0_live_22 (lv_at hl 4 rfl) ?_
    refine lv_iload hx hb dX0_live_24 (lv_at hl 3 rfl) ?_
    refine lv_icmp_ge (tgt := 75) hx hb dX0_live_26 (by decide) (fun c20 => ?_) (fun c20 => ?_)
    · replace h := if_t h c20
      exact E_void C hr hH h dX0_live_75
    · replace h := if_f h c20
      refine lv_iload hx hb dX0_live_29 (lv_at hl 4 rfl) ?_
      refine lv_bipush (v := (40 : Int32)) hx hb dX0_live_31 (by decide) ?_
      refine lv_icmp_ge (tgt := 75) hx hb dX0_live_33 (by decide) (fun c19 => ?_) (fun c19 => ?_)
      · replace h := if_t h c19
        exact E_void C hr hH h dX0_live_75
      · replace h := if_f h c19
        refine lv_aload_n hx hb dX0_live_36 rfl (lv_at hl 0 rfl) ?_
        refine lv_aload_n hx hb dX0_live_37 rfl (lv_at hl 1 rfl) ?_
        refine lv_iload_n hx hb dX0_live_38 rfl (lv_at hl 2 rfl) ?_
        refine lv_iload hx hb dX0_live_39 (lv_at hl 4 rfl) ?_
        refine lv_iadd hx hb dX0_live_41 ?_
        obtain ⟨r9, hc8, h⟩ := bn_e h
        refine r_callV1 (ki := 2) (i := 0) (ci := 3) (As := [.int (a3 + x5)]) C hl.1 hH (c_X3_brotherOf l g  hc8) q266 q19 q905 q264 q265 nd_X3_brotherOf rfl (by decide) ⟨Nat.zero_le _, Nat.zero_le _⟩ (by decide) (by decide) ⟨_, rfl⟩ rfl (Nat.le_of_ble_eq_true rfl) dX0_live_42 (fun H locs hH => ?_)
        obtain ⟨S11, hc10, h⟩ := bn_e h
        refine r_callV0 (ki := 6) (i := 0) (ci := 0) (As := [.int r9]) C hl.1 hH (c_X0_passYear l g  hc10) q909 q35 q906 q907 q908 nd_X0_passYear rfl (by decide) ⟨Nat.zero_le _, Nat.zero_le _⟩ (by decide) (by decide) ⟨_, rfl⟩ rfl (Nat.le_of_ble_eq_true rfl) dX0_live_45 (fun H locs hH => ?_)
        refine lv_aload_n hx hb dX0_live_48 rfl (lv_at hl 0 rfl) ?_
        refine gf_X0_12 C hH dX0_live_49 ?_
        refine lv_aload_n hx hb dX0_live_52 rfl (lv_at hl 1 rfl) ?_
        obtain ⟨r13, hc12, h⟩ := bn_e h
        refine r_callV1 (ki := 9) (i := 15) (ci := 8) (As := [.ref (gad g 2 0)]) C hl.1 hH (c_X9_stands l g (by decide) hc12) q650 q80 q865 q648 q649 nd_X9_stands rfl (by decide) ⟨Nat.zero_le _, Nat.zero_le _⟩ (by decide) (by decide) ⟨_, rfl⟩ rfl (Nat.le_of_ble_eq_true rfl) dX0_live_53 (fun H locs hH => ?_)
        obtain ⟨j16, ej16, h⟩ := jn_e h
        have hj16 : ∀ (S14 : sT) (H : Heap) (locs : List Loc) (ls : Array Slot), Hp g s S14 H locs → lv_has ls 7 [(0, .ref (gad g 6 0)), (2, .ref (gad g 2 0)), (3, .int a3), (5, .int a5), (6, .int x5)] → j16 S14 = some o → W p l e (rmL 5) s m args below meth c H locs 0 0 (Qm g below args s none o) (F0 m 69 ls []) := by
          intro S14 H locs ls hH hl h
          rw [ej16] at h
          try dsimp only at h
          obtain ⟨x15, ex15⟩ : ∃ z : Int32, z = (x5 + (1 : Int32)) := ⟨_, rfl⟩
          replace h := lt_e h ex15
          refine lv_iinc (v := x15) (lv' := [(6, .int x15), (0, .ref (gad g 6 0)), (2, .ref (gad g 2 0)), (3, .int a3), (5, .int a5)]) hx hb dX0_live_69 hl (k := 4) rfl (by rw [ex15]; rfl) (by decide) rfl (fun ls hl => ?_)
          refine lv_goto (tgt := 22) hx hb dX0_live_72 (by decide) ?_
          exact ih _ _ _ _ _ hH (lv_sub hl [1, 2, 3, 4, 0] rfl) h
        clear ej16
        refine lv_if_ne (tgt := 69) hx hb dX0_live_56 (by decide) (fun c18 => ?_) (fun c18 => ?_)
        · replace h := if_f h c18
          exact hj16 _ _ _ _ hH (lv_sub hl [0, 1, 2, 3, 4] rfl) h
        · replace h := if_t h c18
          refine lv_aload_n hx hb dX0_live_59 rfl (lv_at hl 0 rfl) ?_
          refine lv_dup hx hb dX0_live_60 rfl ?_
          refine gf_X0_29 C hH dX0_live_61 ?_
          refine lv_iconst (v := (1 : Int32)) hx hb dX0_live_64 (by decide) ?_
          refine lv_iadd hx hb dX0_live_65 ?_
          refine pf_X0_29 C hH dX0_live_66 (fun S17 H locs eS hH => ?_)
          replace h := lt_e h eS
          exact hj16 _ _ _ _ hH (lv_sub hl [0, 1, 2, 3, 4] rfl) h
set_option maxHeartbeats 4000000 in
set_option maxRecDepth 100000 in
theorem w_X0_live (C : Cx p s m args meth c cX0_live 7 RX0 g) (hr : meth.sig.returnType = none) {o : sT} {w1 : Nat} {a3 : Int32} {a4 : Int32} {a5 : Int32} (hw1 : w1 < 16) {S : sT} {H : Heap} {locs : List Loc} {ls : Array Slot} (hH : Hp g s S H locs) (hl : lv_has ls 7 [(0, .ref (gad g 6 0)), (1, .ref (gad g 9 w1)), (2, .ref (gad g 2 0)), (3, .int a3), (4, .int a4), (5, .int a5)]) (h : f_X0_live w1 a3 a4 a5 S = some o) : W p l e (rmL 5) s m args below meth c H locs 0 0 (Qm g below args s none o) (F0 m 0 ls []) := by
  obtain ⟨hx, hb, hml, hown, hts, hlk, hK⟩ := id C
  unfold f_X0_live at h
  refine lv_aload_n hx hb dX0_live_0 rfl (lv_at hl 0 rfl) ?_
  refine gf_X0_12 C hH dX0_live_1 ?_
  refine lv_aload_n hx hb dX0_live_4 rfl (lv_at hl 1 rfl) ?_
  obtain ⟨S2, hc1, h⟩ := bn_e h
  refine r_callV0 (ki := 9) (i := 15) (ci := 8) (As := [.ref (gad g 9 w1)]) C hl.1 hH (c_X9_become l g (by decide) hw1 hc1) q258 q80 q860 q256 q257 nd_X9_become rfl (by decide) ⟨Nat.zero_le _, Nat.zero_le _⟩ (by decide) (by decide) ⟨_, rfl⟩ rfl (Nat.le_of_ble_eq_true rfl) dX0_live_5 (fun H locs hH => ?_)
  refine lv_aload_n hx hb dX0_live_8 rfl (lv_at hl 0 rfl) ?_
  refine lv_iload hx hb dX0_live_9 (lv_at hl 4 rfl) ?_
  refine pf_X0_25 C hH dX0_live_11 (fun S3 H locs eS hH => ?_)
  replace h := lt_e h eS
  refine lv_aload_n hx hb dX0_live_14 rfl (lv_at hl 0 rfl) ?_
  refine lv_iconst (v := (0 : Int32)) hx hb dX0_live_15 (by decide) ?_
  refine pf_X0_29 C hH dX0_live_16 (fun S4 H locs eS hH => ?_)
  replace h := lt_e h eS
  refine lv_iconst (v := (0 : Int32)) hx hb dX0_live_19 (by decide) ?_
  refine lv_istore (lv' := [(6, .int (0 : Int32)), (0, .ref (gad g 6 0)), (1, .ref (gad g 9 w1)), (2, .ref (gad g 2 0)), (3, .int a3), (4, .int a4), (5, .int a5)]) hx hb dX0_live_20 hl (by decide) rfl (fun ls hl => ?_)
  exact w_X0_live_22 C hr   _ _ _ _ _ _ hH (lv_sub hl [1, 3, 4, 6, 0] rfl) h
theorem c_X0_live (l : Launch) (g : gT) {w1 : Nat} {a3 : Int32} {a4 : Int32} {a5 : Int32} (hw1 : w1 < 16) {S : sT} {S1 : sT} (h : f_X0_live w1 a3 a4 a5 S = some S1) : MF l yX0_live cX0_live 7 none 5 g [.ref (gad g 6 0), .ref (gad g 9 w1), .ref (gad g 2 0), .int a3, .int a4, .int a5] S none S1 := by
  refine MF.of (own := RX0) rfl rfl (Nat.le_of_ble_eq_true rfl) ?_
  intro p e s m below meth c C hr hH ls hl
  exact w_X0_live C hr (o := S1) hw1 hH hl h
end G15
