section LW
variable {p : Program} {l : Launch} {e : Env} {s : State} {m : MethodId} {below : List Frame} {meth : Method} {c : Code} {g : gT} {b L : Nat} {xs : Nat → Int32} {Q : State → Prop} {cells slots : Nat} {H : Heap} {locs : List Loc} {ls : Array Slot} {pc : Nat} {rest : List Value}
theorem r_sl (C : Cx p s m #[.ref b] meth c cL_law 4 RL g) (hX : va_X b L xs s s.heap) (hbl : b < s.heap.size) (hbA : ¬ gA g b) {S : sT} (hH : Hp g s S H locs) (hL : L ≤ 384) {i k : Nat} {kI : Int32} (hk : kI = nI k) (hi : i + k < L) (hdg1 : decode cL_law pc = .ok (.iadd, 1)) (hdg : decode cL_law (pc + 1) = .ok (.iaload, 1)) (kk : W p l e room_1 s m #[.ref b] below meth c H locs cells slots Q (F0 m (pc + 2) ls (.int (xs (i + k)) :: rest))) : W p l e room_1 s m #[.ref b] below meth c H locs cells slots Q (F0 m pc ls (.int kI :: .int (nI i) :: .ref b :: rest)) := by
  refine lv_iadd C.x C.b hdg1 ?_
  rw [hk, nI_add]
  have h1 : vp_in (nI (i + k)) L := vp_in_nI hi (by omega)
  refine va_sld C.x C.b hX hbl hbA hH.2 h1 hdg ?_
  rw [nI_clamp (by omega)]
  exact kk
set_option maxHeartbeats 4000000 in
set_option maxRecDepth 100000 in
theorem law_0 (C : Cx p s m #[.ref b] meth c cL_law 4 RL g) (hX : va_X b L xs s s.heap) (hbl : b < s.heap.size) (hbA : ¬ gA g b) (hL : L ≤ 384) {i : Nat} (hi : i + 6 ≤ L) (hc : cells ≤ room_1.cells ∧ slots ≤ room_1.slots) {S S1 S2 : sT} {r : Int32} (h1 : f_X10_type (xs (i + 1)) (xs (i + 2)) S = some (r, S1)) (h2 : f_X11_type (xs (i + 1)) (xs (i + 2)) S1 = some (r, S2)) (hH : Hp g s S H locs) (hl : lv_has ls 4 [(0, .ref b), (1, .ref (gad g 0 0)), (2, .ref (gad g 10 0)), (3, .int (nI i))]) (kk : ∀ (H : Heap) (locs : List Loc), Hp g s S2 H locs → W p l e room_1 s m #[.ref b] below meth c H locs cells slots Q (F0 m 1073 ls [])) : W p l e room_1 s m #[.ref b] below meth c H locs cells slots Q (F0 m 164 ls []) := by
  obtain ⟨hx, hb, hml, hown, hts, hlk, hK⟩ := id C
  refine lv_aload_n hx hb dL_law_164 rfl (lv_at hl 1 rfl) ?_
  refine lv_aload_n hx hb dL_law_165 rfl (lv_at hl 0 rfl) ?_
  refine lv_iload_n hx hb dL_law_166 rfl (lv_at hl 3 rfl) ?_
  refine lv_iconst (v := (1 : Int32)) hx hb dL_law_167 (by decide) ?_
  refine r_sl C hX hbl hbA hH hL (k := 1) rfl (by omega) dL_law_168 dL_law_169 ?_
  refine lv_aload_n hx hb dL_law_170 rfl (lv_at hl 0 rfl) ?_
  refine lv_iload_n hx hb dL_law_171 rfl (lv_at hl 3 rfl) ?_
  refine lv_iconst (v := (2 : Int32)) hx hb dL_law_172 (by decide) ?_
  refine r_sl C hX hbl hbA hH hL (k := 2) rfl (by omega) dL_law_173 dL_law_174 ?_
  refine r_callV1 (ki := 0) (i := 0) (ci := 9) (As := [.int (xs (i + 1)), .int (xs (i + 2))]) C hl.1 hH (c_X10_type l g h1) q146 q2 q143 q144 q145 nd_X10_type rfl (by decide) hc (by decide) (by decide) ⟨_, rfl⟩ rfl (Nat.le_of_ble_eq_true rfl) dL_law_175 (fun H locs hH => ?_)
  refine lv_aload_n hx hb dL_law_178 rfl (lv_at hl 2 rfl) ?_
  refine lv_aload_n hx hb dL_law_179 rfl (lv_at hl 0 rfl) ?_
  refine lv_iload_n hx hb dL_law_180 rfl (lv_at hl 3 rfl) ?_
  refine lv_iconst (v := (1 : Int32)) hx hb dL_law_181 (by decide) ?_
  refine r_sl C hX hbl hbA hH hL (k := 1) rfl (by omega) dL_law_182 dL_law_183 ?_
  refine lv_aload_n hx hb dL_law_184 rfl (lv_at hl 0 rfl) ?_
  refine lv_iload_n hx hb dL_law_185 rfl (lv_at hl 3 rfl) ?_
  refine lv_iconst (v := (2 : Int32)) hx hb dL_law_186 (by decide) ?_
  refine r_sl C hX hbl hbA hH hL (k := 2) rfl (by omega) dL_law_187 dL_law_188 ?_
  refine r_callV1 (ki := 10) (i := 0) (ci := 10) (As := [.int (xs (i + 1)), .int (xs (i + 2))]) C hl.1 hH (c_X11_type l g h2) q300 q5 q297 q298 q299 nd_X11_type rfl (by decide) hc (by decide) (by decide) ⟨_, rfl⟩ rfl (Nat.le_of_ble_eq_true rfl) dL_law_189 (fun H locs hH => ?_)
  refine lv_icmp_eq (tgt := 1073) hx hb dL_law_192 (by decide) (fun _ => kk _ _ hH) (fun c9 => absurd rfl c9)
set_option maxHeartbeats 4000000 in
set_option maxRecDepth 100000 in
theorem law_1 (C : Cx p s m #[.ref b] meth c cL_law 4 RL g) (hX : va_X b L xs s s.heap) (hbl : b < s.heap.size) (hbA : ¬ gA g b) (hL : L ≤ 384) {i : Nat} (hi : i + 6 ≤ L) (hc : cells ≤ room_1.cells ∧ slots ≤ room_1.slots) {S S1 S2 : sT} {r : Int32} (h1 : f_X10_wipe (xs (i + 1)) S = some (r, S1)) (h2 : f_X11_wipe (xs (i + 1)) S1 = some (r, S2)) (hH : Hp g s S H locs) (hl : lv_has ls 4 [(0, .ref b), (1, .ref (gad g 0 0)), (2, .ref (gad g 10 0)), (3, .int (nI i))]) (kk : ∀ (H : Heap) (locs : List Loc), Hp g s S2 H locs → W p l e room_1 s m #[.ref b] below meth c H locs cells slots Q (F0 m 1073 ls [])) : W p l e room_1 s m #[.ref b] below meth c H locs cells slots Q (F0 m 197 ls []) := by
  obtain ⟨hx, hb, hml, hown, hts, hlk, hK⟩ := id C
  refine lv_aload_n hx hb dL_law_197 rfl (lv_at hl 1 rfl) ?_
  refine lv_aload_n hx hb dL_law_198 rfl (lv_at hl 0 rfl) ?_
  refine lv_iload_n hx hb dL_law_199 rfl (lv_at hl 3 rfl) ?_
  refine lv_iconst (v := (1 : Int32)) hx hb dL_law_200 (by decide) ?_
  refine r_sl C hX hbl hbA hH hL (k := 1) rfl (by omega) dL_law_201 dL_law_202 ?_
  refine r_callV1 (ki := 0) (i := 0) (ci := 9) (As := [.int (xs (i + 1))]) C hl.1 hH (c_X10_wipe l g h1) q311 q2 q308 q309 q310 nd_X10_wipe rfl (by decide) hc (by decide) (by decide) ⟨_, rfl⟩ rfl (Nat.le_of_ble_eq_true rfl) dL_law_203 (fun H locs hH => ?_)
  refine lv_aload_n hx hb dL_law_206 rfl (lv_at hl 2 rfl) ?_
  refine lv_aload_n hx hb dL_law_207 rfl (lv_at hl 0 rfl) ?_
  refine lv_iload_n hx hb dL_law_208 rfl (lv_at hl 3 rfl) ?_
  refine lv_iconst (v := (1 : Int32)) hx hb dL_law_209 (by decide) ?_
  refine r_sl C hX hbl hbA hH hL (k := 1) rfl (by omega) dL_law_210 dL_law_211 ?_
  refine r_callV1 (ki := 10) (i := 0) (ci := 10) (As := [.int (xs (i + 1))]) C hl.1 hH (c_X11_wipe l g h2) q319 q5 q316 q317 q318 nd_X11_wipe rfl (by decide) hc (by decide) (by decide) ⟨_, rfl⟩ rfl (Nat.le_of_ble_eq_true rfl) dL_law_212 (fun H locs hH => ?_)
  refine lv_icmp_eq (tgt := 1073) hx hb dL_law_215 (by decide) (fun _ => kk _ _ hH) (fun c9 => absurd rfl c9)
set_option maxHeartbeats 4000000 in
set_option maxRecDepth 100000 in
theorem law_2 (C : Cx p s m #[.ref b] meth c cL_law 4 RL g) (hX : va_X b L xs s s.heap) (hbl : b < s.heap.size) (hbA : ¬ gA g b) (hL : L ≤ 384) {i : Nat} (hi : i + 6 ≤ L) (hc : cells ≤ room_1.cells ∧ slots ≤ room_1.slots) {S S1 S2 : sT} {r : Int32} (h1 : f_X10_undo (xs (i + 1)) S = some (r, S1)) (h2 : f_X11_undo (xs (i + 1)) S1 = some (r, S2)) (hH : Hp g s S H locs) (hl : lv_has ls 4 [(0, .ref b), (1, .ref (gad g 0 0)), (2, .ref (gad g 10 0)), (3, .int (nI i))]) (kk : ∀ (H : Heap) (locs : List Loc), Hp g s S2 H locs → W p l e room_1 s m #[.ref b] below meth c H locs cells slots Q (F0 m 1073 ls [])) : W p l e room_1 s m #[.ref b] below meth c H locs cells slots Q (F0 m 220 ls []) := by
  obtain ⟨hx, hb, hml, hown, hts, hlk, hK⟩ := id C
  refine lv_aload_n hx hb dL_law_220 rfl (lv_at hl 1 rfl) ?_
  refine lv_aload_n hx hb dL_law_221 rfl (lv_at hl 0 rfl) ?_
  refine lv_iload_n hx hb dL_law_222 rfl (lv_at hl 3 rfl) ?_
  refine lv_iconst (v := (1 : Int32)) hx hb dL_law_223 (by decide) ?_
  refine r_sl C hX hbl hbA hH hL (k := 1) rfl (by omega) dL_law_224 dL_law_225 ?_
  refine r_callV1 (ki := 0) (i := 0) (ci := 9) (As := [.int (xs (i + 1))]) C hl.1 hH (c_X10_undo l g h1) q323 q2 q320 q321 q322 nd_X10_undo rfl (by decide) hc (by decide) (by decide) ⟨_, rfl⟩ rfl (Nat.le_of_ble_eq_true rfl) dL_law_226 (fun H locs hH => ?_)
  refine lv_aload_n hx hb dL_law_229 rfl (lv_at hl 2 rfl) ?_
  refine lv_aload_n hx hb dL_law_230 rfl (lv_at hl 0 rfl) ?_
  refine lv_iload_n hx hb dL_law_231 rfl (lv_at hl 3 rfl) ?_
  refine lv_iconst (v := (1 : Int32)) hx hb dL_law_232 (by decide) ?_
  refine r_sl C hX hbl hbA hH hL (k := 1) rfl (by omega) dL_law_233 dL_law_234 ?_
  refine r_callV1 (ki := 10) (i := 0) (ci := 10) (As := [.int (xs (i + 1))]) C hl.1 hH (c_X11_undo l g h2) q331 q5 q328 q329 q330 nd_X11_undo rfl (by decide) hc (by decide) (by decide) ⟨_, rfl⟩ rfl (Nat.le_of_ble_eq_true rfl) dL_law_235 (fun H locs hH => ?_)
  refine lv_icmp_eq (tgt := 1073) hx hb dL_law_238 (by decide) (fun _ => kk _ _ hH) (fun c9 => absurd rfl c9)
set_option maxHeartbeats 4000000 in
set_option maxRecDepth 100000 in
theorem law_3 (C : Cx p s m #[.ref b] meth c cL_law 4 RL g) (hX : va_X b L xs s s.heap) (hbl : b < s.heap.size) (hbA : ¬ gA g b) (hL : L ≤ 384) {i : Nat} (hi : i + 6 ≤ L) (hc : cells ≤ room_1.cells ∧ slots ≤ room_1.slots) {S S1 S2 : sT} {r : Int32} (h1 : f_X10_fault (xs (i + 1)) S = some r) (h2 : f_X11_fault (xs (i + 1)) S = some (r, S2)) (hH : Hp g s S H locs) (hl : lv_has ls 4 [(0, .ref b), (1, .ref (gad g 0 0)), (2, .ref (gad g 10 0)), (3, .int (nI i))]) (kk : ∀ (H : Heap) (locs : List Loc), Hp g s S2 H locs → W p l e room_1 s m #[.ref b] below meth c H locs cells slots Q (F0 m 1073 ls [])) : W p l e room_1 s m #[.ref b] below meth c H locs cells slots Q (F0 m 243 ls []) := by
  obtain ⟨hx, hb, hml, hown, hts, hlk, hK⟩ := id C
  refine lv_aload_n hx hb dL_law_243 rfl (lv_at hl 1 rfl) ?_
  refine lv_aload_n hx hb dL_law_244 rfl (lv_at hl 0 rfl) ?_
  refine lv_iload_n hx hb dL_law_245 rfl (lv_at hl 3 rfl) ?_
  refine lv_iconst (v := (1 : Int32)) hx hb dL_law_246 (by decide) ?_
  refine r_sl C hX hbl hbA hH hL (k := 1) rfl (by omega) dL_law_247 dL_law_248 ?_
  refine r_callV1 (ki := 0) (i := 0) (ci := 9) (As := [.int (xs (i + 1))]) C hl.1 hH (c_X10_fault l g h1) q335 q2 q332 q333 q334 nd_X10_fault rfl (by decide) hc (by decide) (by decide) ⟨_, rfl⟩ rfl (Nat.le_of_ble_eq_true rfl) dL_law_249 (fun H locs hH => ?_)
  refine lv_aload_n hx hb dL_law_252 rfl (lv_at hl 2 rfl) ?_
  refine lv_aload_n hx hb dL_law_253 rfl (lv_at hl 0 rfl) ?_
  refine lv_iload_n hx hb dL_law_254 rfl (lv_at hl 3 rfl) ?_
  refine lv_iconst (v := (1 : Int32)) hx hb dL_law_255 (by decide) ?_
  refine r_sl C hX hbl hbA hH hL (k := 1) rfl (by omega) dL_law_256 dL_law_257 ?_
  refine r_callV1 (ki := 10) (i := 0) (ci := 10) (As := [.int (xs (i + 1))]) C hl.1 hH (c_X11_fault l g h2) q339 q5 q336 q337 q338 nd_X11_fault rfl (by decide) hc (by decide) (by decide) ⟨_, rfl⟩ rfl (Nat.le_of_ble_eq_true rfl) dL_law_258 (fun H locs hH => ?_)
  refine lv_icmp_eq (tgt := 1073) hx hb dL_law_261 (by decide) (fun _ => kk _ _ hH) (fun c9 => absurd rfl c9)
set_option maxHeartbeats 4000000 in
set_option maxRecDepth 100000 in
theorem law_4 (C : Cx p s m #[.ref b] meth c cL_law 4 RL g) (hX : va_X b L xs s s.heap) (hbl : b < s.heap.size) (hbA : ¬ gA g b) (hL : L ≤ 384) {i : Nat} (hi : i + 6 ≤ L) (hc : cells ≤ room_1.cells ∧ slots ≤ room_1.slots) {S S1 S2 : sT} {r : Int32} (h1 : f_X10_set (xs (i + 1)) (xs (i + 2)) S = some (r, S1)) (h2 : f_X11_set (xs (i + 1)) (xs (i + 2)) S1 = some (r, S2)) (hH : Hp g s S H locs) (hl : lv_has ls 4 [(0, .ref b), (1, .ref (gad g 0 0)), (2, .ref (gad g 10 0)), (3, .int (nI i))]) (kk : ∀ (H : Heap) (locs : List Loc), Hp g s S2 H locs → W p l e room_1 s m #[.ref b] below meth c H locs cells slots Q (F0 m 1073 ls [])) : W p l e room_1 s m #[.ref b] below meth c H locs cells slots Q (F0 m 266 ls []) := by
  obtain ⟨hx, hb, hml, hown, hts, hlk, hK⟩ := id C
  refine lv_aload_n hx hb dL_law_266 rfl (lv_at hl 1 rfl) ?_
  refine lv_aload_n hx hb dL_law_267 rfl (lv_at hl 0 rfl) ?_
  refine lv_iload_n hx hb dL_law_268 rfl (lv_at hl 3 rfl) ?_
  refine lv_iconst (v := (1 : Int32)) hx hb dL_law_269 (by decide) ?_
  refine r_sl C hX hbl hbA hH hL (k := 1) rfl (by omega) dL_law_270 dL_law_271 ?_
  refine lv_aload_n hx hb dL_law_272 rfl (lv_at hl 0 rfl) ?_
  refine lv_iload_n hx hb dL_law_273 rfl (lv_at hl 3 rfl) ?_
  refine lv_iconst (v := (2 : Int32)) hx hb dL_law_274 (by decide) ?_
  refine r_sl C hX hbl hbA hH hL (k := 2) rfl (by omega) dL_law_275 dL_law_276 ?_
  refine r_callV1 (ki := 0) (i := 0) (ci := 9) (As := [.int (xs (i + 1)), .int (xs (i + 2))]) C hl.1 hH (c_X10_set l g h1) q371 q2 q368 q369 q370 nd_X10_set rfl (by decide) hc (by decide) (by decide) ⟨_, rfl⟩ rfl (Nat.le_of_ble_eq_true rfl) dL_law_277 (fun H locs hH => ?_)
  refine lv_aload_n hx hb dL_law_280 rfl (lv_at hl 2 rfl) ?_
  refine lv_aload_n hx hb dL_law_281 rfl (lv_at hl 0 rfl) ?_
  refine lv_iload_n hx hb dL_law_282 rfl (lv_at hl 3 rfl) ?_
  refine lv_iconst (v := (1 : Int32)) hx hb dL_law_283 (by decide) ?_
  refine r_sl C hX hbl hbA hH hL (k := 1) rfl (by omega) dL_law_284 dL_law_285 ?_
  refine lv_aload_n hx hb dL_law_286 rfl (lv_at hl 0 rfl) ?_
  refine lv_iload_n hx hb dL_law_287 rfl (lv_at hl 3 rfl) ?_
  refine lv_iconst (v := (2 : Int32)) hx hb dL_law_288 (by decide) ?_
  refine r_sl C hX hbl hbA hH hL (k := 2) rfl (by omega) dL_law_289 dL_law_290 ?_
  refine r_callV1 (ki := 10) (i := 0) (ci := 10) (As := [.int (xs (i + 1)), .int (xs (i + 2))]) C hl.1 hH (c_X11_set l g h2) q385 q5 q382 q383 q384 nd_X11_set rfl (by decide) hc (by decide) (by decide) ⟨_, rfl⟩ rfl (Nat.le_of_ble_eq_true rfl) dL_law_291 (fun H locs hH => ?_)
  refine lv_icmp_eq (tgt := 1073) hx hb dL_law_294 (by decide) (fun _ => kk _ _ hH) (fun c9 => absurd rfl c9)
set_option maxHeartbeats 4000000 in
set_option maxRecDepth 100000 in
theorem law_5 (C : Cx p s m #[.ref b] meth c cL_law 4 RL g) (hX : va_X b L xs s s.heap) (hbl : b < s.heap.size) (hbA : ¬ gA g b) (hL : L ≤ 384) {i : Nat} (hi : i + 6 ≤ L) (hc : cells ≤ room_1.cells ∧ slots ≤ room_1.slots) {S S1 S2 : sT} {r : Int32} (h1 : f_X10_height (xs (i + 1)) (xs (i + 2)) S = some r) (h2 : f_X11_height (xs (i + 1)) (xs (i + 2)) S = some (r, S2)) (hH : Hp g s S H locs) (hl : lv_has ls 4 [(0, .ref b), (1, .ref (gad g 0 0)), (2, .ref (gad g 10 0)), (3, .int (nI i))]) (kk : ∀ (H : Heap) (locs : List Loc), Hp g s S2 H locs → W p l e room_1 s m #[.ref b] below meth c H locs cells slots Q (F0 m 1073 ls [])) : W p l e room_1 s m #[.ref b] below meth c H locs cells slots Q (F0 m 299 ls []) := by
  obtain ⟨hx, hb, hml, hown, hts, hlk, hK⟩ := id C
  refine lv_aload_n hx hb dL_law_299 rfl (lv_at hl 1 rfl) ?_
  refine lv_aload_n hx hb dL_law_300 rfl (lv_at hl 0 rfl) ?_
  refine lv_iload_n hx hb dL_law_301 rfl (lv_at hl 3 rfl) ?_
  refine lv_iconst (v := (1 : Int32)) hx hb dL_law_302 (by decide) ?_
  refine r_sl C hX hbl hbA hH hL (k := 1) rfl (by omega) dL_law_303 dL_law_304 ?_
  refine lv_aload_n hx hb dL_law_305 rfl (lv_at hl 0 rfl) ?_
  refine lv_iload_n hx hb dL_law_306 rfl (lv_at hl 3 rfl) ?_
  refine lv_iconst (v := (2 : Int32)) hx hb dL_law_307 (by decide) ?_
  refine r_sl C hX hbl hbA hH hL (k := 2) rfl (by omega) dL_law_308 dL_law_309 ?_
  refine r_callV1 (ki := 0) (i := 0) (ci := 9) (As := [.int (xs (i + 1)), .int (xs (i + 2))]) C hl.1 hH (c_X10_height l g h1) q393 q2 q390 q391 q392 nd_X10_height rfl (by decide) hc (by decide) (by decide) ⟨_, rfl⟩ rfl (Nat.le_of_ble_eq_true rfl) dL_law_310 (fun H locs hH => ?_)
  refine lv_aload_n hx hb dL_law_313 rfl (lv_at hl 2 rfl) ?_
  refine lv_aload_n hx hb dL_law_314 rfl (lv_at hl 0 rfl) ?_
  refine lv_iload_n hx hb dL_law_315 rfl (lv_at hl 3 rfl) ?_
  refine lv_iconst (v := (1 : Int32)) hx hb dL_law_316 (by decide) ?_
  refine r_sl C hX hbl hbA hH hL (k := 1) rfl (by omega) dL_law_317 dL_law_318 ?_
  refine lv_aload_n hx hb dL_law_319 rfl (lv_at hl 0 rfl) ?_
  refine lv_iload_n hx hb dL_law_320 rfl (lv_at hl 3 rfl) ?_
  refine lv_iconst (v := (2 : Int32)) hx hb dL_law_321 (by decide) ?_
  refine r_sl C hX hbl hbA hH hL (k := 2) rfl (by omega) dL_law_322 dL_law_323 ?_
  refine r_callV1 (ki := 10) (i := 0) (ci := 10) (As := [.int (xs (i + 1)), .int (xs (i + 2))]) C hl.1 hH (c_X11_height l g h2) q406 q5 q403 q404 q405 nd_X11_height rfl (by decide) hc (by decide) (by decide) ⟨_, rfl⟩ rfl (Nat.le_of_ble_eq_true rfl) dL_law_324 (fun H locs hH => ?_)
  refine lv_icmp_eq (tgt := 1073) hx hb dL_law_327 (by decide) (fun _ => kk _ _ hH) (fun c9 => absurd rfl c9)
set_option maxHeartbeats 4000000 in
set_option maxRecDepth 100000 in
theorem law_6 (C : Cx p s m #[.ref b] meth c cL_law 4 RL g) (hX : va_X b L xs s s.heap) (hbl : b < s.heap.size) (hbA : ¬ gA g b) (hL : L ≤ 384) {i : Nat} (hi : i + 6 ≤ L) (hc : cells ≤ room_1.cells ∧ slots ≤ room_1.slots) {S S1 S2 : sT} {r : Int32} (h1 : f_X10_lean (xs (i + 1)) (xs (i + 2)) S = some r) (h2 : f_X11_lean (xs (i + 1)) (xs (i + 2)) S = some (r, S2)) (hH : Hp g s S H locs) (hl : lv_has ls 4 [(0, .ref b), (1, .ref (gad g 0 0)), (2, .ref (gad g 10 0)), (3, .int (nI i))]) (kk : ∀ (H : Heap) (locs : List Loc), Hp g s S2 H locs → W p l e room_1 s m #[.ref b] below meth c H locs cells slots Q (F0 m 1073 ls [])) : W p l e room_1 s m #[.ref b] below meth c H locs cells slots Q (F0 m 332 ls []) := by
  obtain ⟨hx, hb, hml, hown, hts, hlk, hK⟩ := id C
  refine lv_aload_n hx hb dL_law_332 rfl (lv_at hl 1 rfl) ?_
  refine lv_aload_n hx hb dL_law_333 rfl (lv_at hl 0 rfl) ?_
  refine lv_iload_n hx hb dL_law_334 rfl (lv_at hl 3 rfl) ?_
  refine lv_iconst (v := (1 : Int32)) hx hb dL_law_335 (by decide) ?_
  refine r_sl C hX hbl hbA hH hL (k := 1) rfl (by omega) dL_law_336 dL_law_337 ?_
  refine lv_aload_n hx hb dL_law_338 rfl (lv_at hl 0 rfl) ?_
  refine lv_iload_n hx hb dL_law_339 rfl (lv_at hl 3 rfl) ?_
  refine lv_iconst (v := (2 : Int32)) hx hb dL_law_340 (by decide) ?_
  refine r_sl C hX hbl hbA hH hL (k := 2) rfl (by omega) dL_law_341 dL_law_342 ?_
  refine r_callV1 (ki := 0) (i := 0) (ci := 9) (As := [.int (xs (i + 1)), .int (xs (i + 2))]) C hl.1 hH (c_X10_lean l g h1) q460 q2 q457 q458 q459 nd_X10_lean rfl (by decide) hc (by decide) (by decide) ⟨_, rfl⟩ rfl (Nat.le_of_ble_eq_true rfl) dL_law_343 (fun H locs hH => ?_)
  refine lv_aload_n hx hb dL_law_346 rfl (lv_at hl 2 rfl) ?_
  refine lv_aload_n hx hb dL_law_347 rfl (lv_at hl 0 rfl) ?_
  refine lv_iload_n hx hb dL_law_348 rfl (lv_at hl 3 rfl) ?_
  refine lv_iconst (v := (1 : Int32)) hx hb dL_law_349 (by decide) ?_
  refine r_sl C hX hbl hbA hH hL (k := 1) rfl (by omega) dL_law_350 dL_law_351 ?_
  refine lv_aload_n hx hb dL_law_352 rfl (lv_at hl 0 rfl) ?_
  refine lv_iload_n hx hb dL_law_353 rfl (lv_at hl 3 rfl) ?_
  refine lv_iconst (v := (2 : Int32)) hx hb dL_law_354 (by decide) ?_
  refine r_sl C hX hbl hbA hH hL (k := 2) rfl (by omega) dL_law_355 dL_law_356 ?_
  refine r_callV1 (ki := 10) (i := 0) (ci := 10) (As := [.int (xs (i + 1)), .int (xs (i + 2))]) C hl.1 hH (c_X11_lean l g h2) q468 q5 q465 q466 q467 nd_X11_lean rfl (by decide) hc (by decide) (by decide) ⟨_, rfl⟩ rfl (Nat.le_of_ble_eq_true rfl) dL_law_357 (fun H locs hH => ?_)
  refine lv_icmp_eq (tgt := 1073) hx hb dL_law_360 (by decide) (fun _ => kk _ _ hH) (fun c9 => absurd rfl c9)
set_option maxHeartbeats 4000000 in
set_option maxRecDepth 100000 in
theorem law_7 (C : Cx p s m #[.ref b] meth c cL_law 4 RL g) (hX : va_X b L xs s s.heap) (hbl : b < s.heap.size) (hbA : ¬ gA g b) (hL : L ≤ 384) {i : Nat} (hi : i + 6 ≤ L) (hc : cells ≤ room_1.cells ∧ slots ≤ room_1.slots) {S S1 S2 : sT} {r : Int32} (h1 : f_X10_stone (xs (i + 1)) (xs (i + 2)) (xs (i + 3)) S = some r) (h2 : f_X11_stone (xs (i + 1)) (xs (i + 2)) (xs (i + 3)) S = some (r, S2)) (hH : Hp g s S H locs) (hl : lv_has ls 4 [(0, .ref b), (1, .ref (gad g 0 0)), (2, .ref (gad g 10 0)), (3, .int (nI i))]) (kk : ∀ (H : Heap) (locs : List Loc), Hp g s S2 H locs → W p l e room_1 s m #[.ref b] below meth c H locs cells slots Q (F0 m 1073 ls [])) : W p l e room_1 s m #[.ref b] below meth c H locs cells slots Q (F0 m 365 ls []) := by
  obtain ⟨hx, hb, hml, hown, hts, hlk, hK⟩ := id C
  refine lv_aload_n hx hb dL_law_365 rfl (lv_at hl 1 rfl) ?_
  refine lv_aload_n hx hb dL_law_366 rfl (lv_at hl 0 rfl) ?_
  refine lv_iload_n hx hb dL_law_367 rfl (lv_at hl 3 rfl) ?_
  refine lv_iconst (v := (1 : Int32)) hx hb dL_law_368 (by decide) ?_
  refine r_sl C hX hbl hbA hH hL (k := 1) rfl (by omega) dL_law_369 dL_law_370 ?_
  refine lv_aload_n hx hb dL_law_371 rfl (lv_at hl 0 rfl) ?_
  refine lv_iload_n hx hb dL_law_372 rfl (lv_at hl 3 rfl) ?_
  refine lv_iconst (v := (2 : Int32)) hx hb dL_law_373 (by decide) ?_
  refine r_sl C hX hbl hbA hH hL (k := 2) rfl (by omega) dL_law_374 dL_law_375 ?_
  refine lv_aload_n hx hb dL_law_376 rfl (lv_at hl 0 rfl) ?_
  refine lv_iload_n hx hb dL_law_377 rfl (lv_at hl 3 rfl) ?_
  refine lv_iconst (v := (3 : Int32)) hx hb dL_law_378 (by decide) ?_
  refine r_sl C hX hbl hbA hH hL (k := 3) rfl (by omega) dL_law_379 dL_law_380 ?_
  refine r_callV1 (ki := 0) (i := 0) (ci := 9) (As := [.int (xs (i + 1)), .int (xs (i + 2)), .int (xs (i + 3))]) C hl.1 hH (c_X10_stone l g h1) q480 q2 q477 q478 q479 nd_X10_stone rfl (by decide) hc (by decide) (by decide) ⟨_, rfl⟩ rfl (Nat.le_of_ble_eq_true rfl) dL_law_381 (fun H locs hH => ?_)
  refine lv_aload_n hx hb dL_law_384 rfl (lv_at hl 2 rfl) ?_
  refine lv_aload_n hx hb dL_law_385 rfl (lv_at hl 0 rfl) ?_
  refine lv_iload_n hx hb dL_law_386 rfl (lv_at hl 3 rfl) ?_
  refine lv_iconst (v := (1 : Int32)) hx hb dL_law_387 (by decide) ?_
  refine r_sl C hX hbl hbA hH hL (k := 1) rfl (by omega) dL_law_388 dL_law_389 ?_
  refine lv_aload_n hx hb dL_law_390 rfl (lv_at hl 0 rfl) ?_
  refine lv_iload_n hx hb dL_law_391 rfl (lv_at hl 3 rfl) ?_
  refine lv_iconst (v := (2 : Int32)) hx hb dL_law_392 (by decide) ?_
  refine r_sl C hX hbl hbA hH hL (k := 2) rfl (by omega) dL_law_393 dL_law_394 ?_
  refine lv_aload_n hx hb dL_law_395 rfl (lv_at hl 0 rfl) ?_
  refine lv_iload_n hx hb dL_law_396 rfl (lv_at hl 3 rfl) ?_
  refine lv_iconst (v := (3 : Int32)) hx hb dL_law_397 (by decide) ?_
  refine r_sl C hX hbl hbA hH hL (k := 3) rfl (by omega) dL_law_398 dL_law_399 ?_
  refine r_callV1 (ki := 10) (i := 0) (ci := 10) (As := [.int (xs (i + 1)), .int (xs (i + 2)), .int (xs (i + 3))]) C hl.1 hH (c_X11_stone l g h2) q493 q5 q490 q491 q492 nd_X11_stone rfl (by decide) hc (by decide) (by decide) ⟨_, rfl⟩ rfl (Nat.le_of_ble_eq_true rfl) dL_law_400 (fun H locs hH => ?_)
  refine lv_icmp_eq (tgt := 1073) hx hb dL_law_403 (by decide) (fun _ => kk _ _ hH) (fun c9 => absurd rfl c9)
set_option maxHeartbeats 4000000 in
set_option maxRecDepth 100000 in
theorem law_8 (C : Cx p s m #[.ref b] meth c cL_law 4 RL g) (hX : va_X b L xs s s.heap) (hbl : b < s.heap.size) (hbA : ¬ gA g b) (hL : L ≤ 384) {i : Nat} (hi : i + 6 ≤ L) (hc : cells ≤ room_1.cells ∧ slots ≤ room_1.slots) {S S1 S2 : sT} {r : Int32} (h1 : f_X10_behind (xs (i + 1)) (xs (i + 2)) S = some r) (h2 : f_X11_behind (xs (i + 1)) (xs (i + 2)) S = some (r, S2)) (hH : Hp g s S H locs) (hl : lv_has ls 4 [(0, .ref b), (1, .ref (gad g 0 0)), (2, .ref (gad g 10 0)), (3, .int (nI i))]) (kk : ∀ (H : Heap) (locs : List Loc), Hp g s S2 H locs → W p l e room_1 s m #[.ref b] below meth c H locs cells slots Q (F0 m 1073 ls [])) : W p l e room_1 s m #[.ref b] below meth c H locs cells slots Q (F0 m 408 ls []) := by
  obtain ⟨hx, hb, hml, hown, hts, hlk, hK⟩ := id C
  refine lv_aload_n hx hb dL_law_408 rfl (lv_at hl 1 rfl) ?_
  refine lv_aload_n hx hb dL_law_409 rfl (lv_at hl 0 rfl) ?_
  refine lv_iload_n hx hb dL_law_410 rfl (lv_at hl 3 rfl) ?_
  refine lv_iconst (v := (1 : Int32)) hx hb dL_law_411 (by decide) ?_
  refine r_sl C hX hbl hbA hH hL (k := 1) rfl (by omega) dL_law_412 dL_law_413 ?_
  refine lv_aload_n hx hb dL_law_414 rfl (lv_at hl 0 rfl) ?_
  refine lv_iload_n hx hb dL_law_415 rfl (lv_at hl 3 rfl) ?_
  refine lv_iconst (v := (2 : Int32)) hx hb dL_law_416 (by decide) ?_
  refine r_sl C hX hbl hbA hH hL (k := 2) rfl (by omega) dL_law_417 dL_law_418 ?_
  refine r_callV1 (ki := 0) (i := 0) (ci := 9) (As := [.int (xs (i + 1)), .int (xs (i + 2))]) C hl.1 hH (c_X10_behind l g h1) q503 q2 q500 q501 q502 nd_X10_behind rfl (by decide) hc (by decide) (by decide) ⟨_, rfl⟩ rfl (Nat.le_of_ble_eq_true rfl) dL_law_419 (fun H locs hH => ?_)
  refine lv_aload_n hx hb dL_law_422 rfl (lv_at hl 2 rfl) ?_
  refine lv_aload_n hx hb dL_law_423 rfl (lv_at hl 0 rfl) ?_
  refine lv_iload_n hx hb dL_law_424 rfl (lv_at hl 3 rfl) ?_
  refine lv_iconst (v := (1 : Int32)) hx hb dL_law_425 (by decide) ?_
  refine r_sl C hX hbl hbA hH hL (k := 1) rfl (by omega) dL_law_426 dL_law_427 ?_
  refine lv_aload_n hx hb dL_law_428 rfl (lv_at hl 0 rfl) ?_
  refine lv_iload_n hx hb dL_law_429 rfl (lv_at hl 3 rfl) ?_
  refine lv_iconst (v := (2 : Int32)) hx hb dL_law_430 (by decide) ?_
  refine r_sl C hX hbl hbA hH hL (k := 2) rfl (by omega) dL_law_431 dL_law_432 ?_
  refine r_callV1 (ki := 10) (i := 0) (ci := 10) (As := [.int (xs (i + 1)), .int (xs (i + 2))]) C hl.1 hH (c_X11_behind l g h2) q540 q5 q537 q538 q539 nd_X11_behind rfl (by decide) hc (by decide) (by decide) ⟨_, rfl⟩ rfl (Nat.le_of_ble_eq_true rfl) dL_law_433 (fun H locs hH => ?_)
  refine lv_icmp_eq (tgt := 1073) hx hb dL_law_436 (by decide) (fun _ => kk _ _ hH) (fun c9 => absurd rfl c9)
set_option maxHeartbeats 4000000 in
set_option maxRecDepth 100000 in
theorem law_9 (C : Cx p s m #[.ref b] meth c cL_law 4 RL g) (hX : va_X b L xs s s.heap) (hbl : b < s.heap.size) (hbA : ¬ gA g b) (hL : L ≤ 384) {i : Nat} (hi : i + 6 ≤ L) (hc : cells ≤ room_1.cells ∧ slots ≤ room_1.slots) {S S1 S2 : sT} {r : Int32} (h1 : f_X10_turn (xs (i + 1)) (xs (i + 2)) S = some r) (h2 : f_X11_turn (xs (i + 1)) (xs (i + 2)) S = some (r, S2)) (hH : Hp g s S H locs) (hl : lv_has ls 4 [(0, .ref b), (1, .ref (gad g 0 0)), (2, .ref (gad g 10 0)), (3, .int (nI i))]) (kk : ∀ (H : Heap) (locs : List Loc), Hp g s S2 H locs → W p l e room_1 s m #[.ref b] below meth c H locs cells slots Q (F0 m 1073 ls [])) : W p l e room_1 s m #[.ref b] below meth c H locs cells slots Q (F0 m 441 ls []) := by
  obtain ⟨hx, hb, hml, hown, hts, hlk, hK⟩ := id C
  refine lv_aload_n hx hb dL_law_441 rfl (lv_at hl 1 rfl) ?_
  refine lv_aload_n hx hb dL_law_442 rfl (lv_at hl 0 rfl) ?_
  refine lv_iload_n hx hb dL_law_443 rfl (lv_at hl 3 rfl) ?_
  refine lv_iconst (v := (1 : Int32)) hx hb dL_law_444 (by decide) ?_
  refine r_sl C hX hbl hbA hH hL (k := 1) rfl (by omega) dL_law_445 dL_law_446 ?_
  refine lv_aload_n hx hb dL_law_447 rfl (lv_at hl 0 rfl) ?_
  refine lv_iload_n hx hb dL_law_448 rfl (lv_at hl 3 rfl) ?_
  refine lv_iconst (v := (2 : Int32)) hx hb dL_law_449 (by decide) ?_
  refine r_sl C hX hbl hbA hH hL (k := 2) rfl (by omega) dL_law_450 dL_law_451 ?_
  refine r_callV1 (ki := 0) (i := 0) (ci := 9) (As := [.int (xs (i + 1)), .int (xs (i + 2))]) C hl.1 hH (c_X10_turn l g h1) q571 q2 q568 q569 q570 nd_X10_turn rfl (by decide) hc (by decide) (by decide) ⟨_, rfl⟩ rfl (Nat.le_of_ble_eq_true rfl) dL_law_452 (fun H locs hH => ?_)
  refine lv_aload_n hx hb dL_law_455 rfl (lv_at hl 2 rfl) ?_
  refine lv_aload_n hx hb dL_law_456 rfl (lv_at hl 0 rfl) ?_
  refine lv_iload_n hx hb dL_law_457 rfl (lv_at hl 3 rfl) ?_
  refine lv_iconst (v := (1 : Int32)) hx hb dL_law_458 (by decide) ?_
  refine r_sl C hX hbl hbA hH hL (k := 1) rfl (by omega) dL_law_459 dL_law_460 ?_
  refine lv_aload_n hx hb dL_law_461 rfl (lv_at hl 0 rfl) ?_
  refine lv_iload_n hx hb dL_law_462 rfl (lv_at hl 3 rfl) ?_
  refine lv_iconst (v := (2 : Int32)) hx hb dL_law_463 (by decide) ?_
  refine r_sl C hX hbl hbA hH hL (k := 2) rfl (by omega) dL_law_464 dL_law_465 ?_
  refine r_callV1 (ki := 10) (i := 0) (ci := 10) (As := [.int (xs (i + 1)), .int (xs (i + 2))]) C hl.1 hH (c_X11_turn l g h2) q589 q5 q586 q587 q588 nd_X11_turn rfl (by decide) hc (by decide) (by decide) ⟨_, rfl⟩ rfl (Nat.le_of_ble_eq_true rfl) dL_law_466 (fun H locs hH => ?_)
  refine lv_icmp_eq (tgt := 1073) hx hb dL_law_469 (by decide) (fun _ => kk _ _ hH) (fun c9 => absurd rfl c9)
set_option maxHeartbeats 4000000 in
set_option maxRecDepth 100000 in
theorem law_10 (C : Cx p s m #[.ref b] meth c cL_law 4 RL g) (hX : va_X b L xs s s.heap) (hbl : b < s.heap.size) (hbA : ¬ gA g b) (hL : L ≤ 384) {i : Nat} (hi : i + 6 ≤ L) (hc : cells ≤ room_1.cells ∧ slots ≤ room_1.slots) {S S1 S2 : sT} {r : Int32} (h1 : f_X10_first (xs (i + 1)) S = some r) (h2 : f_X11_first (xs (i + 1)) S = some (r, S2)) (hH : Hp g s S H locs) (hl : lv_has ls 4 [(0, .ref b), (1, .ref (gad g 0 0)), (2, .ref (gad g 10 0)), (3, .int (nI i))]) (kk : ∀ (H : Heap) (locs : List Loc), Hp g s S2 H locs → W p l e room_1 s m #[.ref b] below meth c H locs cells slots Q (F0 m 1073 ls [])) : W p l e room_1 s m #[.ref b] below meth c H locs cells slots Q (F0 m 474 ls []) := by
  obtain ⟨hx, hb, hml, hown, hts, hlk, hK⟩ := id C
  refine lv_aload_n hx hb dL_law_474 rfl (lv_at hl 1 rfl) ?_
  refine lv_aload_n hx hb dL_law_475 rfl (lv_at hl 0 rfl) ?_
  refine lv_iload_n hx hb dL_law_476 rfl (lv_at hl 3 rfl) ?_
  refine lv_iconst (v := (1 : Int32)) hx hb dL_law_477 (by decide) ?_
  refine r_sl C hX hbl hbA hH hL (k := 1) rfl (by omega) dL_law_478 dL_law_479 ?_
  refine r_callV1 (ki := 0) (i := 0) (ci := 9) (As := [.int (xs (i + 1))]) C hl.1 hH (c_X10_first l g h1) q598 q2 q595 q596 q597 nd_X10_first rfl (by decide) hc (by decide) (by decide) ⟨_, rfl⟩ rfl (Nat.le_of_ble_eq_true rfl) dL_law_480 (fun H locs hH => ?_)
  refine lv_aload_n hx hb dL_law_483 rfl (lv_at hl 2 rfl) ?_
  refine lv_aload_n hx hb dL_law_484 rfl (lv_at hl 0 rfl) ?_
  refine lv_iload_n hx hb dL_law_485 rfl (lv_at hl 3 rfl) ?_
  refine lv_iconst (v := (1 : Int32)) hx hb dL_law_486 (by decide) ?_
  refine r_sl C hX hbl hbA hH hL (k := 1) rfl (by omega) dL_law_487 dL_law_488 ?_
  refine r_callV1 (ki := 10) (i := 0) (ci := 10) (As := [.int (xs (i + 1))]) C hl.1 hH (c_X11_first l g h2) q609 q5 q606 q607 q608 nd_X11_first rfl (by decide) hc (by decide) (by decide) ⟨_, rfl⟩ rfl (Nat.le_of_ble_eq_true rfl) dL_law_489 (fun H locs hH => ?_)
  refine lv_icmp_eq (tgt := 1073) hx hb dL_law_492 (by decide) (fun _ => kk _ _ hH) (fun c9 => absurd rfl c9)
set_option maxHeartbeats 4000000 in
set_option maxRecDepth 100000 in
theorem law_11 (C : Cx p s m #[.ref b] meth c cL_law 4 RL g) (hX : va_X b L xs s s.heap) (hbl : b < s.heap.size) (hbA : ¬ gA g b) (hL : L ≤ 384) {i : Nat} (hi : i + 6 ≤ L) (hc : cells ≤ room_1.cells ∧ slots ≤ room_1.slots) {S S1 S2 : sT} {r : Int32} (h1 : f_X10_highest  S = some r) (h2 : f_X11_highest  S = some (r, S2)) (hH : Hp g s S H locs) (hl : lv_has ls 4 [(0, .ref b), (1, .ref (gad g 0 0)), (2, .ref (gad g 10 0)), (3, .int (nI i))]) (kk : ∀ (H : Heap) (locs : List Loc), Hp g s S2 H locs → W p l e room_1 s m #[.ref b] below meth c H locs cells slots Q (F0 m 1073 ls [])) : W p l e room_1 s m #[.ref b] below meth c H locs cells slots Q (F0 m 497 ls []) := by
  obtain ⟨hx, hb, hml, hown, hts, hlk, hK⟩ := id C
  refine lv_aload_n hx hb dL_law_497 rfl (lv_at hl 1 rfl) ?_
  refine r_callV1 (ki := 0) (i := 0) (ci := 9) (As := []) C hl.1 hH (c_X10_highest l g h1) q617 q2 q614 q615 q616 nd_X10_highest rfl (by decide) hc (by decide) (by decide) ⟨_, rfl⟩ rfl (Nat.le_of_ble_eq_true rfl) dL_law_498 (fun H locs hH => ?_)
  refine lv_aload_n hx hb dL_law_501 rfl (lv_at hl 2 rfl) ?_
  refine r_callV1 (ki := 10) (i := 0) (ci := 10) (As := []) C hl.1 hH (c_X11_highest l g h2) q630 q5 q627 q628 q629 nd_X11_highest rfl (by decide) hc (by decide) (by decide) ⟨_, rfl⟩ rfl (Nat.le_of_ble_eq_true rfl) dL_law_502 (fun H locs hH => ?_)
  refine lv_icmp_eq (tgt := 1073) hx hb dL_law_505 (by decide) (fun _ => kk _ _ hH) (fun c9 => absurd rfl c9)
set_option maxHeartbeats 4000000 in
set_option maxRecDepth 100000 in
theorem law_12 (C : Cx p s m #[.ref b] meth c cL_law 4 RL g) (hX : va_X b L xs s s.heap) (hbl : b < s.heap.size) (hbA : ¬ gA g b) (hL : L ≤ 384) {i : Nat} (hi : i + 6 ≤ L) (hc : cells ≤ room_1.cells ∧ slots ≤ room_1.slots) {S S1 S2 : sT} {r : Int32} (h1 : f_X10_mend (xs (i + 1)) S = some (r, S1)) (h2 : f_X11_mend (xs (i + 1)) S1 = some (r, S2)) (hH : Hp g s S H locs) (hl : lv_has ls 4 [(0, .ref b), (1, .ref (gad g 0 0)), (2, .ref (gad g 10 0)), (3, .int (nI i))]) (kk : ∀ (H : Heap) (locs : List Loc), Hp g s S2 H locs → W p l e room_1 s m #[.ref b] below meth c H locs cells slots Q (F0 m 1073 ls [])) : W p l e room_1 s m #[.ref b] below meth c H locs cells slots Q (F0 m 510 ls []) := by
  obtain ⟨hx, hb, hml, hown, hts, hlk, hK⟩ := id C
  refine lv_aload_n hx hb dL_law_510 rfl (lv_at hl 1 rfl) ?_
  refine lv_aload_n hx hb dL_law_511 rfl (lv_at hl 0 rfl) ?_
  refine lv_iload_n hx hb dL_law_512 rfl (lv_at hl 3 rfl) ?_
  refine lv_iconst (v := (1 : Int32)) hx hb dL_law_513 (by decide) ?_
  refine r_sl C hX hbl hbA hH hL (k := 1) rfl (by omega) dL_law_514 dL_law_515 ?_
  refine r_callV1 (ki := 0) (i := 0) (ci := 9) (As := [.int (xs (i + 1))]) C hl.1 hH (c_X10_mend l g h1) q638 q2 q635 q636 q637 nd_X10_mend rfl (by decide) hc (by decide) (by decide) ⟨_, rfl⟩ rfl (Nat.le_of_ble_eq_true rfl) dL_law_516 (fun H locs hH => ?_)
  refine lv_aload_n hx hb dL_law_519 rfl (lv_at hl 2 rfl) ?_
  refine lv_aload_n hx hb dL_law_520 rfl (lv_at hl 0 rfl) ?_
  refine lv_iload_n hx hb dL_law_521 rfl (lv_at hl 3 rfl) ?_
  refine lv_iconst (v := (1 : Int32)) hx hb dL_law_522 (by decide) ?_
  refine r_sl C hX hbl hbA hH hL (k := 1) rfl (by omega) dL_law_523 dL_law_524 ?_
  refine r_callV1 (ki := 10) (i := 0) (ci := 10) (As := [.int (xs (i + 1))]) C hl.1 hH (c_X11_mend l g h2) q663 q5 q660 q661 q662 nd_X11_mend rfl (by decide) hc (by decide) (by decide) ⟨_, rfl⟩ rfl (Nat.le_of_ble_eq_true rfl) dL_law_525 (fun H locs hH => ?_)
  refine lv_icmp_eq (tgt := 1073) hx hb dL_law_528 (by decide) (fun _ => kk _ _ hH) (fun c9 => absurd rfl c9)
set_option maxHeartbeats 4000000 in
set_option maxRecDepth 100000 in
theorem law_13 (C : Cx p s m #[.ref b] meth c cL_law 4 RL g) (hX : va_X b L xs s s.heap) (hbl : b < s.heap.size) (hbA : ¬ gA g b) (hL : L ≤ 384) {i : Nat} (hi : i + 6 ≤ L) (hc : cells ≤ room_1.cells ∧ slots ≤ room_1.slots) {S S1 S2 : sT} {r : Int32} (h1 : f_X10_open (xs (i + 1)) (xs (i + 2)) S = some (r, S1)) (h2 : f_X11_open (xs (i + 1)) (xs (i + 2)) S1 = some (r, S2)) (hH : Hp g s S H locs) (hl : lv_has ls 4 [(0, .ref b), (1, .ref (gad g 0 0)), (2, .ref (gad g 10 0)), (3, .int (nI i))]) (kk : ∀ (H : Heap) (locs : List Loc), Hp g s S2 H locs → W p l e room_1 s m #[.ref b] below meth c H locs cells slots Q (F0 m 1073 ls [])) : W p l e room_1 s m #[.ref b] below meth c H locs cells slots Q (F0 m 533 ls []) := by
  obtain ⟨hx, hb, hml, hown, hts, hlk, hK⟩ := id C
  refine lv_aload_n hx hb dL_law_533 rfl (lv_at hl 1 rfl) ?_
  refine lv_aload_n hx hb dL_law_534 rfl (lv_at hl 0 rfl) ?_
  refine lv_iload_n hx hb dL_law_535 rfl (lv_at hl 3 rfl) ?_
  refine lv_iconst (v := (1 : Int32)) hx hb dL_law_536 (by decide) ?_
  refine r_sl C hX hbl hbA hH hL (k := 1) rfl (by omega) dL_law_537 dL_law_538 ?_
  refine lv_aload_n hx hb dL_law_539 rfl (lv_at hl 0 rfl) ?_
  refine lv_iload_n hx hb dL_law_540 rfl (lv_at hl 3 rfl) ?_
  refine lv_iconst (v := (2 : Int32)) hx hb dL_law_541 (by decide) ?_
  refine r_sl C hX hbl hbA hH hL (k := 2) rfl (by omega) dL_law_542 dL_law_543 ?_
  refine r_callV1 (ki := 0) (i := 0) (ci := 9) (As := [.int (xs (i + 1)), .int (xs (i + 2))]) C hl.1 hH (c_X10_open l g h1) q683 q2 q680 q681 q682 nd_X10_open rfl (by decide) hc (by decide) (by decide) ⟨_, rfl⟩ rfl (Nat.le_of_ble_eq_true rfl) dL_law_544 (fun H locs hH => ?_)
  refine lv_aload_n hx hb dL_law_547 rfl (lv_at hl 2 rfl) ?_
  refine lv_aload_n hx hb dL_law_548 rfl (lv_at hl 0 rfl) ?_
  refine lv_iload_n hx hb dL_law_549 rfl (lv_at hl 3 rfl) ?_
  refine lv_iconst (v := (1 : Int32)) hx hb dL_law_550 (by decide) ?_
  refine r_sl C hX hbl hbA hH hL (k := 1) rfl (by omega) dL_law_551 dL_law_552 ?_
  refine lv_aload_n hx hb dL_law_553 rfl (lv_at hl 0 rfl) ?_
  refine lv_iload_n hx hb dL_law_554 rfl (lv_at hl 3 rfl) ?_
  refine lv_iconst (v := (2 : Int32)) hx hb dL_law_555 (by decide) ?_
  refine r_sl C hX hbl hbA hH hL (k := 2) rfl (by omega) dL_law_556 dL_law_557 ?_
  refine r_callV1 (ki := 10) (i := 0) (ci := 10) (As := [.int (xs (i + 1)), .int (xs (i + 2))]) C hl.1 hH (c_X11_open l g h2) q699 q5 q696 q697 q698 nd_X11_open rfl (by decide) hc (by decide) (by decide) ⟨_, rfl⟩ rfl (Nat.le_of_ble_eq_true rfl) dL_law_558 (fun H locs hH => ?_)
  refine lv_icmp_eq (tgt := 1073) hx hb dL_law_561 (by decide) (fun _ => kk _ _ hH) (fun c9 => absurd rfl c9)
set_option maxHeartbeats 4000000 in
set_option maxRecDepth 100000 in
theorem law_14 (C : Cx p s m #[.ref b] meth c cL_law 4 RL g) (hX : va_X b L xs s s.heap) (hbl : b < s.heap.size) (hbA : ¬ gA g b) (hL : L ≤ 384) {i : Nat} (hi : i + 6 ≤ L) (hc : cells ≤ room_1.cells ∧ slots ≤ room_1.slots) {S S1 S2 : sT} {r : Int32} (h1 : f_X10_sides (xs (i + 1)) (xs (i + 2)) S = some (r, S1)) (h2 : f_X11_sides (xs (i + 1)) (xs (i + 2)) S1 = some (r, S2)) (hH : Hp g s S H locs) (hl : lv_has ls 4 [(0, .ref b), (1, .ref (gad g 0 0)), (2, .ref (gad g 10 0)), (3, .int (nI i))]) (kk : ∀ (H : Heap) (locs : List Loc), Hp g s S2 H locs → W p l e room_1 s m #[.ref b] below meth c H locs cells slots Q (F0 m 1073 ls [])) : W p l e room_1 s m #[.ref b] below meth c H locs cells slots Q (F0 m 566 ls []) := by
  obtain ⟨hx, hb, hml, hown, hts, hlk, hK⟩ := id C
  refine lv_aload_n hx hb dL_law_566 rfl (lv_at hl 1 rfl) ?_
  refine lv_aload_n hx hb dL_law_567 rfl (lv_at hl 0 rfl) ?_
  refine lv_iload_n hx hb dL_law_568 rfl (lv_at hl 3 rfl) ?_
  refine lv_iconst (v := (1 : Int32)) hx hb dL_law_569 (by decide) ?_
  refine r_sl C hX hbl hbA hH hL (k := 1) rfl (by omega) dL_law_570 dL_law_571 ?_
  refine lv_aload_n hx hb dL_law_572 rfl (lv_at hl 0 rfl) ?_
  refine lv_iload_n hx hb dL_law_573 rfl (lv_at hl 3 rfl) ?_
  refine lv_iconst (v := (2 : Int32)) hx hb dL_law_574 (by decide) ?_
  refine r_sl C hX hbl hbA hH hL (k := 2) rfl (by omega) dL_law_575 dL_law_576 ?_
  refine r_callV1 (ki := 0) (i := 0) (ci := 9) (As := [.int (xs (i + 1)), .int (xs (i + 2))]) C hl.1 hH (c_X10_sides l g h1) q704 q2 q701 q702 q703 nd_X10_sides rfl (by decide) hc (by decide) (by decide) ⟨_, rfl⟩ rfl (Nat.le_of_ble_eq_true rfl) dL_law_577 (fun H locs hH => ?_)
  refine lv_aload_n hx hb dL_law_580 rfl (lv_at hl 2 rfl) ?_
  refine lv_aload_n hx hb dL_law_581 rfl (lv_at hl 0 rfl) ?_
  refine lv_iload_n hx hb dL_law_582 rfl (lv_at hl 3 rfl) ?_
  refine lv_iconst (v := (1 : Int32)) hx hb dL_law_583 (by decide) ?_
  refine r_sl C hX hbl hbA hH hL (k := 1) rfl (by omega) dL_law_584 dL_law_585 ?_
  refine lv_aload_n hx hb dL_law_586 rfl (lv_at hl 0 rfl) ?_
  refine lv_iload_n hx hb dL_law_587 rfl (lv_at hl 3 rfl) ?_
  refine lv_iconst (v := (2 : Int32)) hx hb dL_law_588 (by decide) ?_
  refine r_sl C hX hbl hbA hH hL (k := 2) rfl (by omega) dL_law_589 dL_law_590 ?_
  refine r_callV1 (ki := 10) (i := 0) (ci := 10) (As := [.int (xs (i + 1)), .int (xs (i + 2))]) C hl.1 hH (c_X11_sides l g h2) q723 q5 q720 q721 q722 nd_X11_sides rfl (by decide) hc (by decide) (by decide) ⟨_, rfl⟩ rfl (Nat.le_of_ble_eq_true rfl) dL_law_591 (fun H locs hH => ?_)
  refine lv_icmp_eq (tgt := 1073) hx hb dL_law_594 (by decide) (fun _ => kk _ _ hH) (fun c9 => absurd rfl c9)
set_option maxHeartbeats 4000000 in
set_option maxRecDepth 100000 in
theorem law_15 (C : Cx p s m #[.ref b] meth c cL_law 4 RL g) (hX : va_X b L xs s s.heap) (hbl : b < s.heap.size) (hbA : ¬ gA g b) (hL : L ≤ 384) {i : Nat} (hi : i + 6 ≤ L) (hc : cells ≤ room_1.cells ∧ slots ≤ room_1.slots) {S S1 S2 : sT} {r : Int32} (h1 : f_X10_seen (xs (i + 1)) (xs (i + 2)) (xs (i + 3)) S = some (r, S1)) (h2 : f_X11_seen (xs (i + 1)) (xs (i + 2)) (xs (i + 3)) S1 = some (r, S2)) (hH : Hp g s S H locs) (hl : lv_has ls 4 [(0, .ref b), (1, .ref (gad g 0 0)), (2, .ref (gad g 10 0)), (3, .int (nI i))]) (kk : ∀ (H : Heap) (locs : List Loc), Hp g s S2 H locs → W p l e room_1 s m #[.ref b] below meth c H locs cells slots Q (F0 m 1073 ls [])) : W p l e room_1 s m #[.ref b] below meth c H locs cells slots Q (F0 m 599 ls []) := by
  obtain ⟨hx, hb, hml, hown, hts, hlk, hK⟩ := id C
  refine lv_aload_n hx hb dL_law_599 rfl (lv_at hl 1 rfl) ?_
  refine lv_aload_n hx hb dL_law_600 rfl (lv_at hl 0 rfl) ?_
  refine lv_iload_n hx hb dL_law_601 rfl (lv_at hl 3 rfl) ?_
  refine lv_iconst (v := (1 : Int32)) hx hb dL_law_602 (by decide) ?_
  refine r_sl C hX hbl hbA hH hL (k := 1) rfl (by omega) dL_law_603 dL_law_604 ?_
  refine lv_aload_n hx hb dL_law_605 rfl (lv_at hl 0 rfl) ?_
  refine lv_iload_n hx hb dL_law_606 rfl (lv_at hl 3 rfl) ?_
  refine lv_iconst (v := (2 : Int32)) hx hb dL_law_607 (by decide) ?_
  refine r_sl C hX hbl hbA hH hL (k := 2) rfl (by omega) dL_law_608 dL_law_609 ?_
  refine lv_aload_n hx hb dL_law_610 rfl (lv_at hl 0 rfl) ?_
  refine lv_iload_n hx hb dL_law_611 rfl (lv_at hl 3 rfl) ?_
  refine lv_iconst (v := (3 : Int32)) hx hb dL_law_612 (by decide) ?_
  refine r_sl C hX hbl hbA hH hL (k := 3) rfl (by omega) dL_law_613 dL_law_614 ?_
  refine r_callV1 (ki := 0) (i := 0) (ci := 9) (As := [.int (xs (i + 1)), .int (xs (i + 2)), .int (xs (i + 3))]) C hl.1 hH (c_X10_seen l g h1) q738 q2 q735 q736 q737 nd_X10_seen rfl (by decide) hc (by decide) (by decide) ⟨_, rfl⟩ rfl (Nat.le_of_ble_eq_true rfl) dL_law_615 (fun H locs hH => ?_)
  refine lv_aload_n hx hb dL_law_618 rfl (lv_at hl 2 rfl) ?_
  refine lv_aload_n hx hb dL_law_619 rfl (lv_at hl 0 rfl) ?_
  refine lv_iload_n hx hb dL_law_620 rfl (lv_at hl 3 rfl) ?_
  refine lv_iconst (v := (1 : Int32)) hx hb dL_law_621 (by decide) ?_
  refine r_sl C hX hbl hbA hH hL (k := 1) rfl (by omega) dL_law_622 dL_law_623 ?_
  refine lv_aload_n hx hb dL_law_624 rfl (lv_at hl 0 rfl) ?_
  refine lv_iload_n hx hb dL_law_625 rfl (lv_at hl 3 rfl) ?_
  refine lv_iconst (v := (2 : Int32)) hx hb dL_law_626 (by decide) ?_
  refine r_sl C hX hbl hbA hH hL (k := 2) rfl (by omega) dL_law_627 dL_law_628 ?_
  refine lv_aload_n hx hb dL_law_629 rfl (lv_at hl 0 rfl) ?_
  refine lv_iload_n hx hb dL_law_630 rfl (lv_at hl 3 rfl) ?_
  refine lv_iconst (v := (3 : Int32)) hx hb dL_law_631 (by decide) ?_
  refine r_sl C hX hbl hbA hH hL (k := 3) rfl (by omega) dL_law_632 dL_law_633 ?_
  refine r_callV1 (ki := 10) (i := 0) (ci := 10) (As := [.int (xs (i + 1)), .int (xs (i + 2)), .int (xs (i + 3))]) C hl.1 hH (c_X11_seen l g h2) q757 q5 q754 q755 q756 nd_X11_seen rfl (by decide) hc (by decide) (by decide) ⟨_, rfl⟩ rfl (Nat.le_of_ble_eq_true rfl) dL_law_634 (fun H locs hH => ?_)
  refine lv_icmp_eq (tgt := 1073) hx hb dL_law_637 (by decide) (fun _ => kk _ _ hH) (fun c9 => absurd rfl c9)
set_option maxHeartbeats 4000000 in
set_option maxRecDepth 100000 in
theorem law_16 (C : Cx p s m #[.ref b] meth c cL_law 4 RL g) (hX : va_X b L xs s s.heap) (hbl : b < s.heap.size) (hbA : ¬ gA g b) (hL : L ≤ 384) {i : Nat} (hi : i + 6 ≤ L) (hc : cells ≤ room_1.cells ∧ slots ≤ room_1.slots) {S S1 S2 : sT} {r : Int32} (h1 : f_X10_forget  S = some (r, S1)) (h2 : f_X11_forget  S1 = some (r, S2)) (hH : Hp g s S H locs) (hl : lv_has ls 4 [(0, .ref b), (1, .ref (gad g 0 0)), (2, .ref (gad g 10 0)), (3, .int (nI i))]) (kk : ∀ (H : Heap) (locs : List Loc), Hp g s S2 H locs → W p l e room_1 s m #[.ref b] below meth c H locs cells slots Q (F0 m 1073 ls [])) : W p l e room_1 s m #[.ref b] below meth c H locs cells slots Q (F0 m 642 ls []) := by
  obtain ⟨hx, hb, hml, hown, hts, hlk, hK⟩ := id C
  refine lv_aload_n hx hb dL_law_642 rfl (lv_at hl 1 rfl) ?_
  refine r_callV1 (ki := 0) (i := 0) (ci := 9) (As := []) C hl.1 hH (c_X10_forget l g h1) q764 q2 q761 q762 q763 nd_X10_forget rfl (by decide) hc (by decide) (by decide) ⟨_, rfl⟩ rfl (Nat.le_of_ble_eq_true rfl) dL_law_643 (fun H locs hH => ?_)
  refine lv_aload_n hx hb dL_law_646 rfl (lv_at hl 2 rfl) ?_
  refine r_callV1 (ki := 10) (i := 0) (ci := 10) (As := []) C hl.1 hH (c_X11_forget l g h2) q772 q5 q769 q770 q771 nd_X11_forget rfl (by decide) hc (by decide) (by decide) ⟨_, rfl⟩ rfl (Nat.le_of_ble_eq_true rfl) dL_law_647 (fun H locs hH => ?_)
  refine lv_icmp_eq (tgt := 1073) hx hb dL_law_650 (by decide) (fun _ => kk _ _ hH) (fun c9 => absurd rfl c9)
set_option maxHeartbeats 4000000 in
set_option maxRecDepth 100000 in
theorem law_17 (C : Cx p s m #[.ref b] meth c cL_law 4 RL g) (hX : va_X b L xs s s.heap) (hbl : b < s.heap.size) (hbA : ¬ gA g b) (hL : L ≤ 384) {i : Nat} (hi : i + 6 ≤ L) (hc : cells ≤ room_1.cells ∧ slots ≤ room_1.slots) {S S1 S2 : sT} {r : Int32} (h1 : f_X10_read (xs (i + 1)) S = some (r, S1)) (h2 : f_X11_read (xs (i + 1)) S1 = some (r, S2)) (hH : Hp g s S H locs) (hl : lv_has ls 4 [(0, .ref b), (1, .ref (gad g 0 0)), (2, .ref (gad g 10 0)), (3, .int (nI i))]) (kk : ∀ (H : Heap) (locs : List Loc), Hp g s S2 H locs → W p l e room_1 s m #[.ref b] below meth c H locs cells slots Q (F0 m 1073 ls [])) : W p l e room_1 s m #[.ref b] below meth c H locs cells slots Q (F0 m 655 ls []) := by
  obtain ⟨hx, hb, hml, hown, hts, hlk, hK⟩ := id C
  refine lv_aload_n hx hb dL_law_655 rfl (lv_at hl 1 rfl) ?_
  refine lv_aload_n hx hb dL_law_656 rfl (lv_at hl 0 rfl) ?_
  refine lv_iload_n hx hb dL_law_657 rfl (lv_at hl 3 rfl) ?_
  refine lv_iconst (v := (1 : Int32)) hx hb dL_law_658 (by decide) ?_
  refine r_sl C hX hbl hbA hH hL (k := 1) rfl (by omega) dL_law_659 dL_law_660 ?_
  refine r_callV1 (ki := 0) (i := 0) (ci := 9) (As := [.int (xs (i + 1))]) C hl.1 hH (c_X10_read l g h1) q776 q2 q773 q774 q775 nd_X10_read rfl (by decide) hc (by decide) (by decide) ⟨_, rfl⟩ rfl (Nat.le_of_ble_eq_true rfl) dL_law_661 (fun H locs hH => ?_)
  refine lv_aload_n hx hb dL_law_664 rfl (lv_at hl 2 rfl) ?_
  refine lv_aload_n hx hb dL_law_665 rfl (lv_at hl 0 rfl) ?_
  refine lv_iload_n hx hb dL_law_666 rfl (lv_at hl 3 rfl) ?_
  refine lv_iconst (v := (1 : Int32)) hx hb dL_law_667 (by decide) ?_
  refine r_sl C hX hbl hbA hH hL (k := 1) rfl (by omega) dL_law_668 dL_law_669 ?_
  refine r_callV1 (ki := 10) (i := 0) (ci := 10) (As := [.int (xs (i + 1))]) C hl.1 hH (c_X11_read l g h2) q806 q5 q803 q804 q805 nd_X11_read rfl (by decide) hc (by decide) (by decide) ⟨_, rfl⟩ rfl (Nat.le_of_ble_eq_true rfl) dL_law_670 (fun H locs hH => ?_)
  refine lv_icmp_eq (tgt := 1073) hx hb dL_law_673 (by decide) (fun _ => kk _ _ hH) (fun c9 => absurd rfl c9)
set_option maxHeartbeats 4000000 in
set_option maxRecDepth 100000 in
theorem law_18 (C : Cx p s m #[.ref b] meth c cL_law 4 RL g) (hX : va_X b L xs s s.heap) (hbl : b < s.heap.size) (hbA : ¬ gA g b) (hL : L ≤ 384) {i : Nat} (hi : i + 6 ≤ L) (hc : cells ≤ room_1.cells ∧ slots ≤ room_1.slots) {S S1 S2 : sT} {r : Int32} (h1 : f_X10_who (xs (i + 1)) S = some (r, S1)) (h2 : f_X11_who (xs (i + 1)) S1 = some (r, S2)) (hH : Hp g s S H locs) (hl : lv_has ls 4 [(0, .ref b), (1, .ref (gad g 0 0)), (2, .ref (gad g 10 0)), (3, .int (nI i))]) (kk : ∀ (H : Heap) (locs : List Loc), Hp g s S2 H locs → W p l e room_1 s m #[.ref b] below meth c H locs cells slots Q (F0 m 1073 ls [])) : W p l e room_1 s m #[.ref b] below meth c H locs cells slots Q (F0 m 678 ls []) := by
  obtain ⟨hx, hb, hml, hown, hts, hlk, hK⟩ := id C
  refine lv_aload_n hx hb dL_law_678 rfl (lv_at hl 1 rfl) ?_
  refine lv_aload_n hx hb dL_law_679 rfl (lv_at hl 0 rfl) ?_
  refine lv_iload_n hx hb dL_law_680 rfl (lv_at hl 3 rfl) ?_
  refine lv_iconst (v := (1 : Int32)) hx hb dL_law_681 (by decide) ?_
  refine r_sl C hX hbl hbA hH hL (k := 1) rfl (by omega) dL_law_682 dL_law_683 ?_
  refine r_callV1 (ki := 0) (i := 0) (ci := 9) (As := [.int (xs (i + 1))]) C hl.1 hH (c_X10_who l g h1) q819 q2 q816 q817 q818 nd_X10_who rfl (by decide) hc (by decide) (by decide) ⟨_, rfl⟩ rfl (Nat.le_of_ble_eq_true rfl) dL_law_684 (fun H locs hH => ?_)
  refine lv_aload_n hx hb dL_law_687 rfl (lv_at hl 2 rfl) ?_
  refine lv_aload_n hx hb dL_law_688 rfl (lv_at hl 0 rfl) ?_
  refine lv_iload_n hx hb dL_law_689 rfl (lv_at hl 3 rfl) ?_
  refine lv_iconst (v := (1 : Int32)) hx hb dL_law_690 (by decide) ?_
  refine r_sl C hX hbl hbA hH hL (k := 1) rfl (by omega) dL_law_691 dL_law_692 ?_
  refine r_callV1 (ki := 10) (i := 0) (ci := 10) (As := [.int (xs (i + 1))]) C hl.1 hH (c_X11_who l g h2) q841 q5 q838 q839 q840 nd_X11_who rfl (by decide) hc (by decide) (by decide) ⟨_, rfl⟩ rfl (Nat.le_of_ble_eq_true rfl) dL_law_693 (fun H locs hH => ?_)
  refine lv_icmp_eq (tgt := 1073) hx hb dL_law_696 (by decide) (fun _ => kk _ _ hH) (fun c9 => absurd rfl c9)
set_option maxHeartbeats 4000000 in
set_option maxRecDepth 100000 in
theorem law_19 (C : Cx p s m #[.ref b] meth c cL_law 4 RL g) (hX : va_X b L xs s s.heap) (hbl : b < s.heap.size) (hbA : ¬ gA g b) (hL : L ≤ 384) {i : Nat} (hi : i + 6 ≤ L) (hc : cells ≤ room_1.cells ∧ slots ≤ room_1.slots) {S S1 S2 : sT} {r : Int64} (h1 : f_X10_frost (xs (i + 1)) (xs (i + 2)) S = some (r, S1)) (h2 : f_X11_frost (xs (i + 1)) (xs (i + 2)) S1 = some (r, S2)) (hH : Hp g s S H locs) (hl : lv_has ls 4 [(0, .ref b), (1, .ref (gad g 0 0)), (2, .ref (gad g 10 0)), (3, .int (nI i))]) (kk : ∀ (H : Heap) (locs : List Loc), Hp g s S2 H locs → W p l e room_1 s m #[.ref b] below meth c H locs cells slots Q (F0 m 1073 ls [])) : W p l e room_1 s m #[.ref b] below meth c H locs cells slots Q (F0 m 701 ls []) := by
  obtain ⟨hx, hb, hml, hown, hts, hlk, hK⟩ := id C
  refine lv_aload_n hx hb dL_law_701 rfl (lv_at hl 1 rfl) ?_
  refine lv_aload_n hx hb dL_law_702 rfl (lv_at hl 0 rfl) ?_
  refine lv_iload_n hx hb dL_law_703 rfl (lv_at hl 3 rfl) ?_
  refine lv_iconst (v := (1 : Int32)) hx hb dL_law_704 (by decide) ?_
  refine r_sl C hX hbl hbA hH hL (k := 1) rfl (by omega) dL_law_705 dL_law_706 ?_
  refine lv_aload_n hx hb dL_law_707 rfl (lv_at hl 0 rfl) ?_
  refine lv_iload_n hx hb dL_law_708 rfl (lv_at hl 3 rfl) ?_
  refine lv_iconst (v := (2 : Int32)) hx hb dL_law_709 (by decide) ?_
  refine r_sl C hX hbl hbA hH hL (k := 2) rfl (by omega) dL_law_710 dL_law_711 ?_
  refine r_callV1 (ki := 0) (i := 0) (ci := 9) (As := [.int (xs (i + 1)), .int (xs (i + 2))]) C hl.1 hH (c_X10_frost l g h1) q853 q2 q850 q851 q852 nd_X10_frost rfl (by decide) hc (by decide) (by decide) ⟨_, rfl⟩ rfl (Nat.le_of_ble_eq_true rfl) dL_law_712 (fun H locs hH => ?_)
  refine lv_aload_n hx hb dL_law_715 rfl (lv_at hl 2 rfl) ?_
  refine lv_aload_n hx hb dL_law_716 rfl (lv_at hl 0 rfl) ?_
  refine lv_iload_n hx hb dL_law_717 rfl (lv_at hl 3 rfl) ?_
  refine lv_iconst (v := (1 : Int32)) hx hb dL_law_718 (by decide) ?_
  refine r_sl C hX hbl hbA hH hL (k := 1) rfl (by omega) dL_law_719 dL_law_720 ?_
  refine lv_aload_n hx hb dL_law_721 rfl (lv_at hl 0 rfl) ?_
  refine lv_iload_n hx hb dL_law_722 rfl (lv_at hl 3 rfl) ?_
  refine lv_iconst (v := (2 : Int32)) hx hb dL_law_723 (by decide) ?_
  refine r_sl C hX hbl hbA hH hL (k := 2) rfl (by omega) dL_law_724 dL_law_725 ?_
  refine r_callV1 (ki := 10) (i := 0) (ci := 10) (As := [.int (xs (i + 1)), .int (xs (i + 2))]) C hl.1 hH (c_X11_frost l g h2) q884 q5 q881 q882 q883 nd_X11_frost rfl (by decide) hc (by decide) (by decide) ⟨_, rfl⟩ rfl (Nat.le_of_ble_eq_true rfl) dL_law_726 (fun H locs hH => ?_)
  refine W.lcmp hx hb dL_law_729 ?_
  refine lv_if_eq (tgt := 1073) hx hb dL_law_730 (by decide) (fun _ => kk _ _ hH) (fun c9 => absurd (by simp [lg_cmp]) c9)
set_option maxHeartbeats 4000000 in
set_option maxRecDepth 100000 in
theorem law_20 (C : Cx p s m #[.ref b] meth c cL_law 4 RL g) (hX : va_X b L xs s s.heap) (hbl : b < s.heap.size) (hbA : ¬ gA g b) (hL : L ≤ 384) {i : Nat} (hi : i + 6 ≤ L) (hc : cells ≤ room_1.cells ∧ slots ≤ room_1.slots) {S S1 S2 : sT} {r : Int32} (h1 : f_X10_years (xs (i + 1)) (xs (i + 2)) (xs (i + 3)) S = some (r, S1)) (h2 : f_X11_years (xs (i + 1)) (xs (i + 2)) (xs (i + 3)) S1 = some (r, S2)) (hH : Hp g s S H locs) (hl : lv_has ls 4 [(0, .ref b), (1, .ref (gad g 0 0)), (2, .ref (gad g 10 0)), (3, .int (nI i))]) (kk : ∀ (H : Heap) (locs : List Loc), Hp g s S2 H locs → W p l e room_1 s m #[.ref b] below meth c H locs cells slots Q (F0 m 1073 ls [])) : W p l e room_1 s m #[.ref b] below meth c H locs cells slots Q (F0 m 735 ls []) := by
  obtain ⟨hx, hb, hml, hown, hts, hlk, hK⟩ := id C
  refine lv_aload_n hx hb dL_law_735 rfl (lv_at hl 1 rfl) ?_
  refine lv_aload_n hx hb dL_law_736 rfl (lv_at hl 0 rfl) ?_
  refine lv_iload_n hx hb dL_law_737 rfl (lv_at hl 3 rfl) ?_
  refine lv_iconst (v := (1 : Int32)) hx hb dL_law_738 (by decide) ?_
  refine r_sl C hX hbl hbA hH hL (k := 1) rfl (by omega) dL_law_739 dL_law_740 ?_
  refine lv_aload_n hx hb dL_law_741 rfl (lv_at hl 0 rfl) ?_
  refine lv_iload_n hx hb dL_law_742 rfl (lv_at hl 3 rfl) ?_
  refine lv_iconst (v := (2 : Int32)) hx hb dL_law_743 (by decide) ?_
  refine r_sl C hX hbl hbA hH hL (k := 2) rfl (by omega) dL_law_744 dL_law_745 ?_
  refine lv_aload_n hx hb dL_law_746 rfl (lv_at hl 0 rfl) ?_
  refine lv_iload_n hx hb dL_law_747 rfl (lv_at hl 3 rfl) ?_
  refine lv_iconst (v := (3 : Int32)) hx hb dL_law_748 (by decide) ?_
  refine r_sl C hX hbl hbA hH hL (k := 3) rfl (by omega) dL_law_749 dL_law_750 ?_
  refine r_callV1 (ki := 0) (i := 0) (ci := 9) (As := [.int (xs (i + 1)), .int (xs (i + 2)), .int (xs (i + 3))]) C hl.1 hH (c_X10_years l g h1) q899 q2 q896 q897 q898 nd_X10_years rfl (by decide) hc (by decide) (by decide) ⟨_, rfl⟩ rfl (Nat.le_of_ble_eq_true rfl) dL_law_751 (fun H locs hH => ?_)
  refine lv_aload_n hx hb dL_law_754 rfl (lv_at hl 2 rfl) ?_
  refine lv_aload_n hx hb dL_law_755 rfl (lv_at hl 0 rfl) ?_
  refine lv_iload_n hx hb dL_law_756 rfl (lv_at hl 3 rfl) ?_
  refine lv_iconst (v := (1 : Int32)) hx hb dL_law_757 (by decide) ?_
  refine r_sl C hX hbl hbA hH hL (k := 1) rfl (by omega) dL_law_758 dL_law_759 ?_
  refine lv_aload_n hx hb dL_law_760 rfl (lv_at hl 0 rfl) ?_
  refine lv_iload_n hx hb dL_law_761 rfl (lv_at hl 3 rfl) ?_
  refine lv_iconst (v := (2 : Int32)) hx hb dL_law_762 (by decide) ?_
  refine r_sl C hX hbl hbA hH hL (k := 2) rfl (by omega) dL_law_763 dL_law_764 ?_
  refine lv_aload_n hx hb dL_law_765 rfl (lv_at hl 0 rfl) ?_
  refine lv_iload_n hx hb dL_law_766 rfl (lv_at hl 3 rfl) ?_
  refine lv_iconst (v := (3 : Int32)) hx hb dL_law_767 (by decide) ?_
  refine r_sl C hX hbl hbA hH hL (k := 3) rfl (by omega) dL_law_768 dL_law_769 ?_
  refine r_callV1 (ki := 10) (i := 0) (ci := 10) (As := [.int (xs (i + 1)), .int (xs (i + 2)), .int (xs (i + 3))]) C hl.1 hH (c_X11_years l g h2) q928 q5 q925 q926 q927 nd_X11_years rfl (by decide) hc (by decide) (by decide) ⟨_, rfl⟩ rfl (Nat.le_of_ble_eq_true rfl) dL_law_770 (fun H locs hH => ?_)
  refine lv_icmp_eq (tgt := 1073) hx hb dL_law_773 (by decide) (fun _ => kk _ _ hH) (fun c9 => absurd rfl c9)
set_option maxHeartbeats 4000000 in
set_option maxRecDepth 100000 in
theorem law_21 (C : Cx p s m #[.ref b] meth c cL_law 4 RL g) (hX : va_X b L xs s s.heap) (hbl : b < s.heap.size) (hbA : ¬ gA g b) (hL : L ≤ 384) {i : Nat} (hi : i + 6 ≤ L) (hc : cells ≤ room_1.cells ∧ slots ≤ room_1.slots) {S S1 S2 : sT} {r : Int32} (h1 : f_X10_sheet (xs (i + 1)) (xs (i + 2)) (xs (i + 3)) S = some (r, S1)) (h2 : f_X11_sheet (xs (i + 1)) (xs (i + 2)) (xs (i + 3)) S1 = some (r, S2)) (hH : Hp g s S H locs) (hl : lv_has ls 4 [(0, .ref b), (1, .ref (gad g 0 0)), (2, .ref (gad g 10 0)), (3, .int (nI i))]) (kk : ∀ (H : Heap) (locs : List Loc), Hp g s S2 H locs → W p l e room_1 s m #[.ref b] below meth c H locs cells slots Q (F0 m 1073 ls [])) : W p l e room_1 s m #[.ref b] below meth c H locs cells slots Q (F0 m 778 ls []) := by
  obtain ⟨hx, hb, hml, hown, hts, hlk, hK⟩ := id C
  refine lv_aload_n hx hb dL_law_778 rfl (lv_at hl 1 rfl) ?_
  refine lv_aload_n hx hb dL_law_779 rfl (lv_at hl 0 rfl) ?_
  refine lv_iload_n hx hb dL_law_780 rfl (lv_at hl 3 rfl) ?_
  refine lv_iconst (v := (1 : Int32)) hx hb dL_law_781 (by decide) ?_
  refine r_sl C hX hbl hbA hH hL (k := 1) rfl (by omega) dL_law_782 dL_law_783 ?_
  refine lv_aload_n hx hb dL_law_784 rfl (lv_at hl 0 rfl) ?_
  refine lv_iload_n hx hb dL_law_785 rfl (lv_at hl 3 rfl) ?_
  refine lv_iconst (v := (2 : Int32)) hx hb dL_law_786 (by decide) ?_
  refine r_sl C hX hbl hbA hH hL (k := 2) rfl (by omega) dL_law_787 dL_law_788 ?_
  refine lv_aload_n hx hb dL_law_789 rfl (lv_at hl 0 rfl) ?_
  refine lv_iload_n hx hb dL_law_790 rfl (lv_at hl 3 rfl) ?_
  refine lv_iconst (v := (3 : Int32)) hx hb dL_law_791 (by decide) ?_
  refine r_sl C hX hbl hbA hH hL (k := 3) rfl (by omega) dL_law_792 dL_law_793 ?_
  refine r_callV1 (ki := 0) (i := 0) (ci := 9) (As := [.int (xs (i + 1)), .int (xs (i + 2)), .int (xs (i + 3))]) C hl.1 hH (c_X10_sheet l g h1) q943 q2 q940 q941 q942 nd_X10_sheet rfl (by decide) hc (by decide) (by decide) ⟨_, rfl⟩ rfl (Nat.le_of_ble_eq_true rfl) dL_law_794 (fun H locs hH => ?_)
  refine lv_aload_n hx hb dL_law_797 rfl (lv_at hl 2 rfl) ?_
  refine lv_aload_n hx hb dL_law_798 rfl (lv_at hl 0 rfl) ?_
  refine lv_iload_n hx hb dL_law_799 rfl (lv_at hl 3 rfl) ?_
  refine lv_iconst (v := (1 : Int32)) hx hb dL_law_800 (by decide) ?_
  refine r_sl C hX hbl hbA hH hL (k := 1) rfl (by omega) dL_law_801 dL_law_802 ?_
  refine lv_aload_n hx hb dL_law_803 rfl (lv_at hl 0 rfl) ?_
  refine lv_iload_n hx hb dL_law_804 rfl (lv_at hl 3 rfl) ?_
  refine lv_iconst (v := (2 : Int32)) hx hb dL_law_805 (by decide) ?_
  refine r_sl C hX hbl hbA hH hL (k := 2) rfl (by omega) dL_law_806 dL_law_807 ?_
  refine lv_aload_n hx hb dL_law_808 rfl (lv_at hl 0 rfl) ?_
  refine lv_iload_n hx hb dL_law_809 rfl (lv_at hl 3 rfl) ?_
  refine lv_iconst (v := (3 : Int32)) hx hb dL_law_810 (by decide) ?_
  refine r_sl C hX hbl hbA hH hL (k := 3) rfl (by omega) dL_law_811 dL_law_812 ?_
  refine r_callV1 (ki := 10) (i := 0) (ci := 10) (As := [.int (xs (i + 1)), .int (xs (i + 2)), .int (xs (i + 3))]) C hl.1 hH (c_X11_sheet l g h2) q955 q5 q952 q953 q954 nd_X11_sheet rfl (by decide) hc (by decide) (by decide) ⟨_, rfl⟩ rfl (Nat.le_of_ble_eq_true rfl) dL_law_813 (fun H locs hH => ?_)
  refine lv_icmp_eq (tgt := 1073) hx hb dL_law_816 (by decide) (fun _ => kk _ _ hH) (fun c9 => absurd rfl c9)
set_option maxHeartbeats 4000000 in
set_option maxRecDepth 100000 in
theorem law_22 (C : Cx p s m #[.ref b] meth c cL_law 4 RL g) (hX : va_X b L xs s s.heap) (hbl : b < s.heap.size) (hbA : ¬ gA g b) (hL : L ≤ 384) {i : Nat} (hi : i + 6 ≤ L) (hc : cells ≤ room_1.cells ∧ slots ≤ room_1.slots) {S S1 S2 : sT} {r : Int32} (h1 : f_X10_lose (xs (i + 1)) S = some (r, S1)) (h2 : f_X11_lose (xs (i + 1)) S1 = some (r, S2)) (hH : Hp g s S H locs) (hl : lv_has ls 4 [(0, .ref b), (1, .ref (gad g 0 0)), (2, .ref (gad g 10 0)), (3, .int (nI i))]) (kk : ∀ (H : Heap) (locs : List Loc), Hp g s S2 H locs → W p l e room_1 s m #[.ref b] below meth c H locs cells slots Q (F0 m 1073 ls [])) : W p l e room_1 s m #[.ref b] below meth c H locs cells slots Q (F0 m 821 ls []) := by
  obtain ⟨hx, hb, hml, hown, hts, hlk, hK⟩ := id C
  refine lv_aload_n hx hb dL_law_821 rfl (lv_at hl 1 rfl) ?_
  refine lv_aload_n hx hb dL_law_822 rfl (lv_at hl 0 rfl) ?_
  refine lv_iload_n hx hb dL_law_823 rfl (lv_at hl 3 rfl) ?_
  refine lv_iconst (v := (1 : Int32)) hx hb dL_law_824 (by decide) ?_
  refine r_sl C hX hbl hbA hH hL (k := 1) rfl (by omega) dL_law_825 dL_law_826 ?_
  refine r_callV1 (ki := 0) (i := 0) (ci := 9) (As := [.int (xs (i + 1))]) C hl.1 hH (c_X10_lose l g h1) q959 q2 q956 q957 q958 nd_X10_lose rfl (by decide) hc (by decide) (by decide) ⟨_, rfl⟩ rfl (Nat.le_of_ble_eq_true rfl) dL_law_827 (fun H locs hH => ?_)
  refine lv_aload_n hx hb dL_law_830 rfl (lv_at hl 2 rfl) ?_
  refine lv_aload_n hx hb dL_law_831 rfl (lv_at hl 0 rfl) ?_
  refine lv_iload_n hx hb dL_law_832 rfl (lv_at hl 3 rfl) ?_
  refine lv_iconst (v := (1 : Int32)) hx hb dL_law_833 (by decide) ?_
  refine r_sl C hX hbl hbA hH hL (k := 1) rfl (by omega) dL_law_834 dL_law_835 ?_
  refine r_callV1 (ki := 10) (i := 0) (ci := 10) (As := [.int (xs (i + 1))]) C hl.1 hH (c_X11_lose l g h2) q967 q5 q964 q965 q966 nd_X11_lose rfl (by decide) hc (by decide) (by decide) ⟨_, rfl⟩ rfl (Nat.le_of_ble_eq_true rfl) dL_law_836 (fun H locs hH => ?_)
  refine lv_icmp_eq (tgt := 1073) hx hb dL_law_839 (by decide) (fun _ => kk _ _ hH) (fun c9 => absurd rfl c9)
set_option maxHeartbeats 4000000 in
set_option maxRecDepth 100000 in
theorem law_23 (C : Cx p s m #[.ref b] meth c cL_law 4 RL g) (hX : va_X b L xs s s.heap) (hbl : b < s.heap.size) (hbA : ¬ gA g b) (hL : L ≤ 384) {i : Nat} (hi : i + 6 ≤ L) (hc : cells ≤ room_1.cells ∧ slots ≤ room_1.slots) {S S1 S2 : sT} {r : Int32} (h1 : f_X10_lay (xs (i + 1)) (xs (i + 2)) (xs (i + 3)) (xs (i + 4)) S = some (r, S1)) (h2 : f_X11_lay (xs (i + 1)) (xs (i + 2)) (xs (i + 3)) (xs (i + 4)) S1 = some (r, S2)) (hH : Hp g s S H locs) (hl : lv_has ls 4 [(0, .ref b), (1, .ref (gad g 0 0)), (2, .ref (gad g 10 0)), (3, .int (nI i))]) (kk : ∀ (H : Heap) (locs : List Loc), Hp g s S2 H locs → W p l e room_1 s m #[.ref b] below meth c H locs cells slots Q (F0 m 1073 ls [])) : W p l e room_1 s m #[.ref b] below meth c H locs cells slots Q (F0 m 844 ls []) := by
  obtain ⟨hx, hb, hml, hown, hts, hlk, hK⟩ := id C
  refine lv_aload_n hx hb dL_law_844 rfl (lv_at hl 1 rfl) ?_
  refine lv_aload_n hx hb dL_law_845 rfl (lv_at hl 0 rfl) ?_
  refine lv_iload_n hx hb dL_law_846 rfl (lv_at hl 3 rfl) ?_
  refine lv_iconst (v := (1 : Int32)) hx hb dL_law_847 (by decide) ?_
  refine r_sl C hX hbl hbA hH hL (k := 1) rfl (by omega) dL_law_848 dL_law_849 ?_
  refine lv_aload_n hx hb dL_law_850 rfl (lv_at hl 0 rfl) ?_
  refine lv_iload_n hx hb dL_law_851 rfl (lv_at hl 3 rfl) ?_
  refine lv_iconst (v := (2 : Int32)) hx hb dL_law_852 (by decide) ?_
  refine r_sl C hX hbl hbA hH hL (k := 2) rfl (by omega) dL_law_853 dL_law_854 ?_
  refine lv_aload_n hx hb dL_law_855 rfl (lv_at hl 0 rfl) ?_
  refine lv_iload_n hx hb dL_law_856 rfl (lv_at hl 3 rfl) ?_
  refine lv_iconst (v := (3 : Int32)) hx hb dL_law_857 (by decide) ?_
  refine r_sl C hX hbl hbA hH hL (k := 3) rfl (by omega) dL_law_858 dL_law_859 ?_
  refine lv_aload_n hx hb dL_law_860 rfl (lv_at hl 0 rfl) ?_
  refine lv_iload_n hx hb dL_law_861 rfl (lv_at hl 3 rfl) ?_
  refine lv_iconst (v := (4 : Int32)) hx hb dL_law_862 (by decide) ?_
  refine r_sl C hX hbl hbA hH hL (k := 4) rfl (by omega) dL_law_863 dL_law_864 ?_
  refine r_callV1 (ki := 0) (i := 0) (ci := 9) (As := [.int (xs (i + 1)), .int (xs (i + 2)), .int (xs (i + 3)), .int (xs (i + 4))]) C hl.1 hH (c_X10_lay l g h1) q971 q2 q968 q969 q970 nd_X10_lay rfl (by decide) hc (by decide) (by decide) ⟨_, rfl⟩ rfl (Nat.le_of_ble_eq_true rfl) dL_law_865 (fun H locs hH => ?_)
  refine lv_aload_n hx hb dL_law_868 rfl (lv_at hl 2 rfl) ?_
  refine lv_aload_n hx hb dL_law_869 rfl (lv_at hl 0 rfl) ?_
  refine lv_iload_n hx hb dL_law_870 rfl (lv_at hl 3 rfl) ?_
  refine lv_iconst (v := (1 : Int32)) hx hb dL_law_871 (by decide) ?_
  refine r_sl C hX hbl hbA hH hL (k := 1) rfl (by omega) dL_law_872 dL_law_873 ?_
  refine lv_aload_n hx hb dL_law_874 rfl (lv_at hl 0 rfl) ?_
  refine lv_iload_n hx hb dL_law_875 rfl (lv_at hl 3 rfl) ?_
  refine lv_iconst (v := (2 : Int32)) hx hb dL_law_876 (by decide) ?_
  refine r_sl C hX hbl hbA hH hL (k := 2) rfl (by omega) dL_law_877 dL_law_878 ?_
  refine lv_aload_n hx hb dL_law_879 rfl (lv_at hl 0 rfl) ?_
  refine lv_iload_n hx hb dL_law_880 rfl (lv_at hl 3 rfl) ?_
  refine lv_iconst (v := (3 : Int32)) hx hb dL_law_881 (by decide) ?_
  refine r_sl C hX hbl hbA hH hL (k := 3) rfl (by omega) dL_law_882 dL_law_883 ?_
  refine lv_aload_n hx hb dL_law_884 rfl (lv_at hl 0 rfl) ?_
  refine lv_iload_n hx hb dL_law_885 rfl (lv_at hl 3 rfl) ?_
  refine lv_iconst (v := (4 : Int32)) hx hb dL_law_886 (by decide) ?_
  refine r_sl C hX hbl hbA hH hL (k := 4) rfl (by omega) dL_law_887 dL_law_888 ?_
  refine r_callV1 (ki := 10) (i := 0) (ci := 10) (As := [.int (xs (i + 1)), .int (xs (i + 2)), .int (xs (i + 3)), .int (xs (i + 4))]) C hl.1 hH (c_X11_lay l g h2) q987 q5 q984 q985 q986 nd_X11_lay rfl (by decide) hc (by decide) (by decide) ⟨_, rfl⟩ rfl (Nat.le_of_ble_eq_true rfl) dL_law_889 (fun H locs hH => ?_)
  refine lv_icmp_eq (tgt := 1073) hx hb dL_law_892 (by decide) (fun _ => kk _ _ hH) (fun c9 => absurd rfl c9)
set_option maxHeartbeats 4000000 in
set_option maxRecDepth 100000 in
theorem law_24 (C : Cx p s m #[.ref b] meth c cL_law 4 RL g) (hX : va_X b L xs s s.heap) (hbl : b < s.heap.size) (hbA : ¬ gA g b) (hL : L ≤ 384) {i : Nat} (hi : i + 6 ≤ L) (hc : cells ≤ room_1.cells ∧ slots ≤ room_1.slots) {S S1 S2 : sT} {r : Int32} (h1 : f_X10_get (xs (i + 1)) (xs (i + 2)) (xs (i + 3)) S = some (r, S1)) (h2 : f_X11_get (xs (i + 1)) (xs (i + 2)) (xs (i + 3)) S1 = some (r, S2)) (hH : Hp g s S H locs) (hl : lv_has ls 4 [(0, .ref b), (1, .ref (gad g 0 0)), (2, .ref (gad g 10 0)), (3, .int (nI i))]) (kk : ∀ (H : Heap) (locs : List Loc), Hp g s S2 H locs → W p l e room_1 s m #[.ref b] below meth c H locs cells slots Q (F0 m 1073 ls [])) : W p l e room_1 s m #[.ref b] below meth c H locs cells slots Q (F0 m 897 ls []) := by
  obtain ⟨hx, hb, hml, hown, hts, hlk, hK⟩ := id C
  refine lv_aload_n hx hb dL_law_897 rfl (lv_at hl 1 rfl) ?_
  refine lv_aload_n hx hb dL_law_898 rfl (lv_at hl 0 rfl) ?_
  refine lv_iload_n hx hb dL_law_899 rfl (lv_at hl 3 rfl) ?_
  refine lv_iconst (v := (1 : Int32)) hx hb dL_law_900 (by decide) ?_
  refine r_sl C hX hbl hbA hH hL (k := 1) rfl (by omega) dL_law_901 dL_law_902 ?_
  refine lv_aload_n hx hb dL_law_903 rfl (lv_at hl 0 rfl) ?_
  refine lv_iload_n hx hb dL_law_904 rfl (lv_at hl 3 rfl) ?_
  refine lv_iconst (v := (2 : Int32)) hx hb dL_law_905 (by decide) ?_
  refine r_sl C hX hbl hbA hH hL (k := 2) rfl (by omega) dL_law_906 dL_law_907 ?_
  refine lv_aload_n hx hb dL_law_908 rfl (lv_at hl 0 rfl) ?_
  refine lv_iload_n hx hb dL_law_909 rfl (lv_at hl 3 rfl) ?_
  refine lv_iconst (v := (3 : Int32)) hx hb dL_law_910 (by decide) ?_
  refine r_sl C hX hbl hbA hH hL (k := 3) rfl (by omega) dL_law_911 dL_law_912 ?_
  refine r_callV1 (ki := 0) (i := 0) (ci := 9) (As := [.int (xs (i + 1)), .int (xs (i + 2)), .int (xs (i + 3))]) C hl.1 hH (c_X10_get l g h1) q998 q2 q995 q996 q997 nd_X10_get rfl (by decide) hc (by decide) (by decide) ⟨_, rfl⟩ rfl (Nat.le_of_ble_eq_true rfl) dL_law_913 (fun H locs hH => ?_)
  refine lv_aload_n hx hb dL_law_916 rfl (lv_at hl 2 rfl) ?_
  refine lv_aload_n hx hb dL_law_917 rfl (lv_at hl 0 rfl) ?_
  refine lv_iload_n hx hb dL_law_918 rfl (lv_at hl 3 rfl) ?_
  refine lv_iconst (v := (1 : Int32)) hx hb dL_law_919 (by decide) ?_
  refine r_sl C hX hbl hbA hH hL (k := 1) rfl (by omega) dL_law_920 dL_law_921 ?_
  refine lv_aload_n hx hb dL_law_922 rfl (lv_at hl 0 rfl) ?_
  refine lv_iload_n hx hb dL_law_923 rfl (lv_at hl 3 rfl) ?_
  refine lv_iconst (v := (2 : Int32)) hx hb dL_law_924 (by decide) ?_
  refine r_sl C hX hbl hbA hH hL (k := 2) rfl (by omega) dL_law_925 dL_law_926 ?_
  refine lv_aload_n hx hb dL_law_927 rfl (lv_at hl 0 rfl) ?_
  refine lv_iload_n hx hb dL_law_928 rfl (lv_at hl 3 rfl) ?_
  refine lv_iconst (v := (3 : Int32)) hx hb dL_law_929 (by decide) ?_
  refine r_sl C hX hbl hbA hH hL (k := 3) rfl (by omega) dL_law_930 dL_law_931 ?_
  refine r_callV1 (ki := 10) (i := 0) (ci := 10) (As := [.int (xs (i + 1)), .int (xs (i + 2)), .int (xs (i + 3))]) C hl.1 hH (c_X11_get l g h2) q1003 q5 q1000 q1001 q1002 nd_X11_get rfl (by decide) hc (by decide) (by decide) ⟨_, rfl⟩ rfl (Nat.le_of_ble_eq_true rfl) dL_law_932 (fun H locs hH => ?_)
  refine lv_icmp_eq (tgt := 1073) hx hb dL_law_935 (by decide) (fun _ => kk _ _ hH) (fun c9 => absurd rfl c9)
set_option maxHeartbeats 4000000 in
set_option maxRecDepth 100000 in
theorem law_25 (C : Cx p s m #[.ref b] meth c cL_law 4 RL g) (hX : va_X b L xs s s.heap) (hbl : b < s.heap.size) (hbA : ¬ gA g b) (hL : L ≤ 384) {i : Nat} (hi : i + 6 ≤ L) (hc : cells ≤ room_1.cells ∧ slots ≤ room_1.slots) {S S1 S2 : sT} {r : Int32} (h1 : f_X10_copy (xs (i + 1)) (xs (i + 2)) (xs (i + 3)) (xs (i + 4)) (xs (i + 5)) S = some (r, S1)) (h2 : f_X11_copy (xs (i + 1)) (xs (i + 2)) (xs (i + 3)) (xs (i + 4)) (xs (i + 5)) S1 = some (r, S2)) (hH : Hp g s S H locs) (hl : lv_has ls 4 [(0, .ref b), (1, .ref (gad g 0 0)), (2, .ref (gad g 10 0)), (3, .int (nI i))]) (kk : ∀ (H : Heap) (locs : List Loc), Hp g s S2 H locs → W p l e room_1 s m #[.ref b] below meth c H locs cells slots Q (F0 m 1073 ls [])) : W p l e room_1 s m #[.ref b] below meth c H locs cells slots Q (F0 m 940 ls []) := by
  obtain ⟨hx, hb, hml, hown, hts, hlk, hK⟩ := id C
  refine lv_aload_n hx hb dL_law_940 rfl (lv_at hl 1 rfl) ?_
  refine lv_aload_n hx hb dL_law_941 rfl (lv_at hl 0 rfl) ?_
  refine lv_iload_n hx hb dL_law_942 rfl (lv_at hl 3 rfl) ?_
  refine lv_iconst (v := (1 : Int32)) hx hb dL_law_943 (by decide) ?_
  refine r_sl C hX hbl hbA hH hL (k := 1) rfl (by omega) dL_law_944 dL_law_945 ?_
  refine lv_aload_n hx hb dL_law_946 rfl (lv_at hl 0 rfl) ?_
  refine lv_iload_n hx hb dL_law_947 rfl (lv_at hl 3 rfl) ?_
  refine lv_iconst (v := (2 : Int32)) hx hb dL_law_948 (by decide) ?_
  refine r_sl C hX hbl hbA hH hL (k := 2) rfl (by omega) dL_law_949 dL_law_950 ?_
  refine lv_aload_n hx hb dL_law_951 rfl (lv_at hl 0 rfl) ?_
  refine lv_iload_n hx hb dL_law_952 rfl (lv_at hl 3 rfl) ?_
  refine lv_iconst (v := (3 : Int32)) hx hb dL_law_953 (by decide) ?_
  refine r_sl C hX hbl hbA hH hL (k := 3) rfl (by omega) dL_law_954 dL_law_955 ?_
  refine lv_aload_n hx hb dL_law_956 rfl (lv_at hl 0 rfl) ?_
  refine lv_iload_n hx hb dL_law_957 rfl (lv_at hl 3 rfl) ?_
  refine lv_iconst (v := (4 : Int32)) hx hb dL_law_958 (by decide) ?_
  refine r_sl C hX hbl hbA hH hL (k := 4) rfl (by omega) dL_law_959 dL_law_960 ?_
  refine lv_aload_n hx hb dL_law_961 rfl (lv_at hl 0 rfl) ?_
  refine lv_iload_n hx hb dL_law_962 rfl (lv_at hl 3 rfl) ?_
  refine lv_iconst (v := (5 : Int32)) hx hb dL_law_963 (by decide) ?_
  refine r_sl C hX hbl hbA hH hL (k := 5) rfl (by omega) dL_law_964 dL_law_965 ?_
  refine r_callV1 (ki := 0) (i := 0) (ci := 9) (As := [.int (xs (i + 1)), .int (xs (i + 2)), .int (xs (i + 3)), .int (xs (i + 4)), .int (xs (i + 5))]) C hl.1 hH (c_X10_copy l g h1) q1008 q2 q1005 q1006 q1007 nd_X10_copy rfl (by decide) hc (by decide) (by decide) ⟨_, rfl⟩ rfl (Nat.le_of_ble_eq_true rfl) dL_law_966 (fun H locs hH => ?_)
  refine lv_aload_n hx hb dL_law_969 rfl (lv_at hl 2 rfl) ?_
  refine lv_aload_n hx hb dL_law_970 rfl (lv_at hl 0 rfl) ?_
  refine lv_iload_n hx hb dL_law_971 rfl (lv_at hl 3 rfl) ?_
  refine lv_iconst (v := (1 : Int32)) hx hb dL_law_972 (by decide) ?_
  refine r_sl C hX hbl hbA hH hL (k := 1) rfl (by omega) dL_law_973 dL_law_974 ?_
  refine lv_aload_n hx hb dL_law_975 rfl (lv_at hl 0 rfl) ?_
  refine lv_iload_n hx hb dL_law_976 rfl (lv_at hl 3 rfl) ?_
  refine lv_iconst (v := (2 : Int32)) hx hb dL_law_977 (by decide) ?_
  refine r_sl C hX hbl hbA hH hL (k := 2) rfl (by omega) dL_law_978 dL_law_979 ?_
  refine lv_aload_n hx hb dL_law_980 rfl (lv_at hl 0 rfl) ?_
  refine lv_iload_n hx hb dL_law_981 rfl (lv_at hl 3 rfl) ?_
  refine lv_iconst (v := (3 : Int32)) hx hb dL_law_982 (by decide) ?_
  refine r_sl C hX hbl hbA hH hL (k := 3) rfl (by omega) dL_law_983 dL_law_984 ?_
  refine lv_aload_n hx hb dL_law_985 rfl (lv_at hl 0 rfl) ?_
  refine lv_iload_n hx hb dL_law_986 rfl (lv_at hl 3 rfl) ?_
  refine lv_iconst (v := (4 : Int32)) hx hb dL_law_987 (by decide) ?_
  refine r_sl C hX hbl hbA hH hL (k := 4) rfl (by omega) dL_law_988 dL_law_989 ?_
  refine lv_aload_n hx hb dL_law_990 rfl (lv_at hl 0 rfl) ?_
  refine lv_iload_n hx hb dL_law_991 rfl (lv_at hl 3 rfl) ?_
  refine lv_iconst (v := (5 : Int32)) hx hb dL_law_992 (by decide) ?_
  refine r_sl C hX hbl hbA hH hL (k := 5) rfl (by omega) dL_law_993 dL_law_994 ?_
  refine r_callV1 (ki := 10) (i := 0) (ci := 10) (As := [.int (xs (i + 1)), .int (xs (i + 2)), .int (xs (i + 3)), .int (xs (i + 4)), .int (xs (i + 5))]) C hl.1 hH (c_X11_copy l g h2) q1026 q5 q1023 q1024 q1025 nd_X11_copy rfl (by decide) hc (by decide) (by decide) ⟨_, rfl⟩ rfl (Nat.le_of_ble_eq_true rfl) dL_law_995 (fun H locs hH => ?_)
  refine lv_icmp_eq (tgt := 1073) hx hb dL_law_998 (by decide) (fun _ => kk _ _ hH) (fun c9 => absurd rfl c9)
set_option maxHeartbeats 4000000 in
set_option maxRecDepth 100000 in
theorem law_26 (C : Cx p s m #[.ref b] meth c cL_law 4 RL g) (hX : va_X b L xs s s.heap) (hbl : b < s.heap.size) (hbA : ¬ gA g b) (hL : L ≤ 384) {i : Nat} (hi : i + 6 ≤ L) (hc : cells ≤ room_1.cells ∧ slots ≤ room_1.slots) {S S1 S2 : sT} {r : Int32} (h1 : f_X10_write (xs (i + 1)) (xs (i + 2)) S = some (r, S1)) (h2 : f_X11_write (xs (i + 1)) (xs (i + 2)) S1 = some (r, S2)) (hH : Hp g s S H locs) (hl : lv_has ls 4 [(0, .ref b), (1, .ref (gad g 0 0)), (2, .ref (gad g 10 0)), (3, .int (nI i))]) (kk : ∀ (H : Heap) (locs : List Loc), Hp g s S2 H locs → W p l e room_1 s m #[.ref b] below meth c H locs cells slots Q (F0 m 1073 ls [])) : W p l e room_1 s m #[.ref b] below meth c H locs cells slots Q (F0 m 1003 ls []) := by
  obtain ⟨hx, hb, hml, hown, hts, hlk, hK⟩ := id C
  refine lv_aload_n hx hb dL_law_1003 rfl (lv_at hl 1 rfl) ?_
  refine lv_aload_n hx hb dL_law_1004 rfl (lv_at hl 0 rfl) ?_
  refine lv_iload_n hx hb dL_law_1005 rfl (lv_at hl 3 rfl) ?_
  refine lv_iconst (v := (1 : Int32)) hx hb dL_law_1006 (by decide) ?_
  refine r_sl C hX hbl hbA hH hL (k := 1) rfl (by omega) dL_law_1007 dL_law_1008 ?_
  refine lv_aload_n hx hb dL_law_1009 rfl (lv_at hl 0 rfl) ?_
  refine lv_iload_n hx hb dL_law_1010 rfl (lv_at hl 3 rfl) ?_
  refine lv_iconst (v := (2 : Int32)) hx hb dL_law_1011 (by decide) ?_
  refine r_sl C hX hbl hbA hH hL (k := 2) rfl (by omega) dL_law_1012 dL_law_1013 ?_
  refine r_callV1 (ki := 0) (i := 0) (ci := 9) (As := [.int (xs (i + 1)), .int (xs (i + 2))]) C hl.1 hH (c_X10_write l g h1) q1030 q2 q1027 q1028 q1029 nd_X10_write rfl (by decide) hc (by decide) (by decide) ⟨_, rfl⟩ rfl (Nat.le_of_ble_eq_true rfl) dL_law_1014 (fun H locs hH => ?_)
  refine lv_aload_n hx hb dL_law_1017 rfl (lv_at hl 2 rfl) ?_
  refine lv_aload_n hx hb dL_law_1018 rfl (lv_at hl 0 rfl) ?_
  refine lv_iload_n hx hb dL_law_1019 rfl (lv_at hl 3 rfl) ?_
  refine lv_iconst (v := (1 : Int32)) hx hb dL_law_1020 (by decide) ?_
  refine r_sl C hX hbl hbA hH hL (k := 1) rfl (by omega) dL_law_1021 dL_law_1022 ?_
  refine lv_aload_n hx hb dL_law_1023 rfl (lv_at hl 0 rfl) ?_
  refine lv_iload_n hx hb dL_law_1024 rfl (lv_at hl 3 rfl) ?_
  refine lv_iconst (v := (2 : Int32)) hx hb dL_law_1025 (by decide) ?_
  refine r_sl C hX hbl hbA hH hL (k := 2) rfl (by omega) dL_law_1026 dL_law_1027 ?_
  refine r_callV1 (ki := 10) (i := 0) (ci := 10) (As := [.int (xs (i + 1)), .int (xs (i + 2))]) C hl.1 hH (c_X11_write l g h2) q1035 q5 q1032 q1033 q1034 nd_X11_write rfl (by decide) hc (by decide) (by decide) ⟨_, rfl⟩ rfl (Nat.le_of_ble_eq_true rfl) dL_law_1028 (fun H locs hH => ?_)
  refine lv_icmp_eq (tgt := 1073) hx hb dL_law_1031 (by decide) (fun _ => kk _ _ hH) (fun c9 => absurd rfl c9)
set_option maxHeartbeats 4000000 in
set_option maxRecDepth 100000 in
theorem law_27 (C : Cx p s m #[.ref b] meth c cL_law 4 RL g) (hX : va_X b L xs s s.heap) (hbl : b < s.heap.size) (hbA : ¬ gA g b) (hL : L ≤ 384) {i : Nat} (hi : i + 6 ≤ L) (hc : cells ≤ room_1.cells ∧ slots ≤ room_1.slots) {S S1 S2 : sT} {r : Int32} (h1 : f_X10_count (xs (i + 1)) S = some r) (h2 : f_X11_count (xs (i + 1)) S = some (r, S2)) (hH : Hp g s S H locs) (hl : lv_has ls 4 [(0, .ref b), (1, .ref (gad g 0 0)), (2, .ref (gad g 10 0)), (3, .int (nI i))]) (kk : ∀ (H : Heap) (locs : List Loc), Hp g s S2 H locs → W p l e room_1 s m #[.ref b] below meth c H locs cells slots Q (F0 m 1073 ls [])) : W p l e room_1 s m #[.ref b] below meth c H locs cells slots Q (F0 m 1036 ls []) := by
  obtain ⟨hx, hb, hml, hown, hts, hlk, hK⟩ := id C
  refine lv_aload_n hx hb dL_law_1036 rfl (lv_at hl 1 rfl) ?_
  refine lv_aload_n hx hb dL_law_1037 rfl (lv_at hl 0 rfl) ?_
  refine lv_iload_n hx hb dL_law_1038 rfl (lv_at hl 3 rfl) ?_
  refine lv_iconst (v := (1 : Int32)) hx hb dL_law_1039 (by decide) ?_
  refine r_sl C hX hbl hbA hH hL (k := 1) rfl (by omega) dL_law_1040 dL_law_1041 ?_
  refine r_callV1 (ki := 0) (i := 0) (ci := 9) (As := [.int (xs (i + 1))]) C hl.1 hH (c_X10_count l g h1) q1042 q2 q1039 q1040 q1041 nd_X10_count rfl (by decide) hc (by decide) (by decide) ⟨_, rfl⟩ rfl (Nat.le_of_ble_eq_true rfl) dL_law_1042 (fun H locs hH => ?_)
  refine lv_aload_n hx hb dL_law_1045 rfl (lv_at hl 2 rfl) ?_
  refine lv_aload_n hx hb dL_law_1046 rfl (lv_at hl 0 rfl) ?_
  refine lv_iload_n hx hb dL_law_1047 rfl (lv_at hl 3 rfl) ?_
  refine lv_iconst (v := (1 : Int32)) hx hb dL_law_1048 (by decide) ?_
  refine r_sl C hX hbl hbA hH hL (k := 1) rfl (by omega) dL_law_1049 dL_law_1050 ?_
  refine r_callV1 (ki := 10) (i := 0) (ci := 10) (As := [.int (xs (i + 1))]) C hl.1 hH (c_X11_count l g h2) q1060 q5 q1057 q1058 q1059 nd_X11_count rfl (by decide) hc (by decide) (by decide) ⟨_, rfl⟩ rfl (Nat.le_of_ble_eq_true rfl) dL_law_1051 (fun H locs hH => ?_)
  refine lv_icmp_eq (tgt := 1073) hx hb dL_law_1054 (by decide) (fun _ => kk _ _ hH) (fun c9 => absurd rfl c9)
set_option maxHeartbeats 4000000 in
set_option maxRecDepth 100000 in
theorem law_28 (C : Cx p s m #[.ref b] meth c cL_law 4 RL g) (hX : va_X b L xs s s.heap) (hbl : b < s.heap.size) (hbA : ¬ gA g b) (hL : L ≤ 384) {i : Nat} (hi : i + 6 ≤ L) (hc : cells ≤ room_1.cells ∧ slots ≤ room_1.slots) {S S1 S2 : sT} {r : Int64} (h1 : f_X10_digest  S = some (r, S1)) (h2 : f_X11_digest  S1 = some (r, S2)) (hH : Hp g s S H locs) (hl : lv_has ls 4 [(0, .ref b), (1, .ref (gad g 0 0)), (2, .ref (gad g 10 0)), (3, .int (nI i))]) (kk : ∀ (H : Heap) (locs : List Loc), Hp g s S2 H locs → W p l e room_1 s m #[.ref b] below meth c H locs cells slots Q (F0 m 1073 ls [])) : W p l e room_1 s m #[.ref b] below meth c H locs cells slots Q (F0 m 1059 ls []) := by
  obtain ⟨hx, hb, hml, hown, hts, hlk, hK⟩ := id C
  refine lv_aload_n hx hb dL_law_1059 rfl (lv_at hl 1 rfl) ?_
  refine r_callV1 (ki := 0) (i := 0) (ci := 9) (As := []) C hl.1 hH (c_X10_digest l g h1) q1068 q2 q1065 q1066 q1067 nd_X10_digest rfl (by decide) hc (by decide) (by decide) ⟨_, rfl⟩ rfl (Nat.le_of_ble_eq_true rfl) dL_law_1060 (fun H locs hH => ?_)
  refine lv_aload_n hx hb dL_law_1063 rfl (lv_at hl 2 rfl) ?_
  refine r_callV1 (ki := 10) (i := 0) (ci := 10) (As := []) C hl.1 hH (c_X11_digest l g h2) q1104 q5 q1101 q1102 q1103 nd_X11_digest rfl (by decide) hc (by decide) (by decide) ⟨_, rfl⟩ rfl (Nat.le_of_ble_eq_true rfl) dL_law_1064 (fun H locs hH => ?_)
  refine W.lcmp hx hb dL_law_1067 ?_
  refine lv_if_eq (tgt := 1073) hx hb dL_law_1068 (by decide) (fun _ => kk _ _ hH) (fun c9 => absurd (by simp [lg_cmp]) c9)
/-- what the pure part has to show of an invariant: each call keeps it and both sides answer alike -/
def St_0 (I : sT → Prop) : Prop := ∀ S : sT, I S → ∀ a1 a2 : Int32, ∃ (r : Int32) (S1 : sT) (S2 : sT), f_X10_type a1 a2 S = some (r, S1) ∧ f_X11_type a1 a2 S1 = some (r, S2) ∧ I S2
def St_1 (I : sT → Prop) : Prop := ∀ S : sT, I S → ∀ a1 : Int32, ∃ (r : Int32) (S1 : sT) (S2 : sT), f_X10_wipe a1 S = some (r, S1) ∧ f_X11_wipe a1 S1 = some (r, S2) ∧ I S2
def St_2 (I : sT → Prop) : Prop := ∀ S : sT, I S → ∀ a1 : Int32, ∃ (r : Int32) (S1 : sT) (S2 : sT), f_X10_undo a1 S = some (r, S1) ∧ f_X11_undo a1 S1 = some (r, S2) ∧ I S2
def St_3 (I : sT → Prop) : Prop := ∀ S : sT, I S → ∀ a1 : Int32, ∃ (r : Int32) (S2 : sT), f_X10_fault a1 S = some r ∧ f_X11_fault a1 S = some (r, S2) ∧ I S2
def St_4 (I : sT → Prop) : Prop := ∀ S : sT, I S → ∀ a1 a2 : Int32, ∃ (r : Int32) (S1 : sT) (S2 : sT), f_X10_set a1 a2 S = some (r, S1) ∧ f_X11_set a1 a2 S1 = some (r, S2) ∧ I S2
def St_5 (I : sT → Prop) : Prop := ∀ S : sT, I S → ∀ a1 a2 : Int32, ∃ (r : Int32) (S2 : sT), f_X10_height a1 a2 S = some r ∧ f_X11_height a1 a2 S = some (r, S2) ∧ I S2
def St_6 (I : sT → Prop) : Prop := ∀ S : sT, I S → ∀ a1 a2 : Int32, ∃ (r : Int32) (S2 : sT), f_X10_lean a1 a2 S = some r ∧ f_X11_lean a1 a2 S = some (r, S2) ∧ I S2
def St_7 (I : sT → Prop) : Prop := ∀ S : sT, I S → ∀ a1 a2 a3 : Int32, ∃ (r : Int32) (S2 : sT), f_X10_stone a1 a2 a3 S = some r ∧ f_X11_stone a1 a2 a3 S = some (r, S2) ∧ I S2
def St_8 (I : sT → Prop) : Prop := ∀ S : sT, I S → ∀ a1 a2 : Int32, ∃ (r : Int32) (S2 : sT), f_X10_behind a1 a2 S = some r ∧ f_X11_behind a1 a2 S = some (r, S2) ∧ I S2
def St_9 (I : sT → Prop) : Prop := ∀ S : sT, I S → ∀ a1 a2 : Int32, ∃ (r : Int32) (S2 : sT), f_X10_turn a1 a2 S = some r ∧ f_X11_turn a1 a2 S = some (r, S2) ∧ I S2
def St_10 (I : sT → Prop) : Prop := ∀ S : sT, I S → ∀ a1 : Int32, ∃ (r : Int32) (S2 : sT), f_X10_first a1 S = some r ∧ f_X11_first a1 S = some (r, S2) ∧ I S2
def St_11 (I : sT → Prop) : Prop := ∀ S : sT, I S → ∃ (r : Int32) (S2 : sT), f_X10_highest  S = some r ∧ f_X11_highest  S = some (r, S2) ∧ I S2
def St_12 (I : sT → Prop) : Prop := ∀ S : sT, I S → ∀ a1 : Int32, ∃ (r : Int32) (S1 : sT) (S2 : sT), f_X10_mend a1 S = some (r, S1) ∧ f_X11_mend a1 S1 = some (r, S2) ∧ I S2
def St_13 (I : sT → Prop) : Prop := ∀ S : sT, I S → ∀ a1 a2 : Int32, ∃ (r : Int32) (S1 : sT) (S2 : sT), f_X10_open a1 a2 S = some (r, S1) ∧ f_X11_open a1 a2 S1 = some (r, S2) ∧ I S2
def St_14 (I : sT → Prop) : Prop := ∀ S : sT, I S → ∀ a1 a2 : Int32, ∃ (r : Int32) (S1 : sT) (S2 : sT), f_X10_sides a1 a2 S = some (r, S1) ∧ f_X11_sides a1 a2 S1 = some (r, S2) ∧ I S2
def St_15 (I : sT → Prop) : Prop := ∀ S : sT, I S → ∀ a1 a2 a3 : Int32, ∃ (r : Int32) (S1 : sT) (S2 : sT), f_X10_seen a1 a2 a3 S = some (r, S1) ∧ f_X11_seen a1 a2 a3 S1 = some (r, S2) ∧ I S2
def St_16 (I : sT → Prop) : Prop := ∀ S : sT, I S → ∃ (r : Int32) (S1 : sT) (S2 : sT), f_X10_forget  S = some (r, S1) ∧ f_X11_forget  S1 = some (r, S2) ∧ I S2
def St_17 (I : sT → Prop) : Prop := ∀ S : sT, I S → ∀ a1 : Int32, ∃ (r : Int32) (S1 : sT) (S2 : sT), f_X10_read a1 S = some (r, S1) ∧ f_X11_read a1 S1 = some (r, S2) ∧ I S2
def St_18 (I : sT → Prop) : Prop := ∀ S : sT, I S → ∀ a1 : Int32, ∃ (r : Int32) (S1 : sT) (S2 : sT), f_X10_who a1 S = some (r, S1) ∧ f_X11_who a1 S1 = some (r, S2) ∧ I S2
def St_19 (I : sT → Prop) : Prop := ∀ S : sT, I S → ∀ a1 a2 : Int32, ∃ (r : Int64) (S1 : sT) (S2 : sT), f_X10_frost a1 a2 S = some (r, S1) ∧ f_X11_frost a1 a2 S1 = some (r, S2) ∧ I S2
def St_20 (I : sT → Prop) : Prop := ∀ S : sT, I S → ∀ a1 a2 a3 : Int32, ∃ (r : Int32) (S1 : sT) (S2 : sT), f_X10_years a1 a2 a3 S = some (r, S1) ∧ f_X11_years a1 a2 a3 S1 = some (r, S2) ∧ I S2
def St_21 (I : sT → Prop) : Prop := ∀ S : sT, I S → ∀ a1 a2 a3 : Int32, ∃ (r : Int32) (S1 : sT) (S2 : sT), f_X10_sheet a1 a2 a3 S = some (r, S1) ∧ f_X11_sheet a1 a2 a3 S1 = some (r, S2) ∧ I S2
def St_22 (I : sT → Prop) : Prop := ∀ S : sT, I S → ∀ a1 : Int32, ∃ (r : Int32) (S1 : sT) (S2 : sT), f_X10_lose a1 S = some (r, S1) ∧ f_X11_lose a1 S1 = some (r, S2) ∧ I S2
def St_23 (I : sT → Prop) : Prop := ∀ S : sT, I S → ∀ a1 a2 a3 a4 : Int32, ∃ (r : Int32) (S1 : sT) (S2 : sT), f_X10_lay a1 a2 a3 a4 S = some (r, S1) ∧ f_X11_lay a1 a2 a3 a4 S1 = some (r, S2) ∧ I S2
def St_24 (I : sT → Prop) : Prop := ∀ S : sT, I S → ∀ a1 a2 a3 : Int32, ∃ (r : Int32) (S1 : sT) (S2 : sT), f_X10_get a1 a2 a3 S = some (r, S1) ∧ f_X11_get a1 a2 a3 S1 = some (r, S2) ∧ I S2
def St_25 (I : sT → Prop) : Prop := ∀ S : sT, I S → ∀ a1 a2 a3 a4 a5 : Int32, ∃ (r : Int32) (S1 : sT) (S2 : sT), f_X10_copy a1 a2 a3 a4 a5 S = some (r, S1) ∧ f_X11_copy a1 a2 a3 a4 a5 S1 = some (r, S2) ∧ I S2
def St_26 (I : sT → Prop) : Prop := ∀ S : sT, I S → ∀ a1 a2 : Int32, ∃ (r : Int32) (S1 : sT) (S2 : sT), f_X10_write a1 a2 S = some (r, S1) ∧ f_X11_write a1 a2 S1 = some (r, S2) ∧ I S2
def St_27 (I : sT → Prop) : Prop := ∀ S : sT, I S → ∀ a1 : Int32, ∃ (r : Int32) (S2 : sT), f_X10_count a1 S = some r ∧ f_X11_count a1 S = some (r, S2) ∧ I S2
def St_28 (I : sT → Prop) : Prop := ∀ S : sT, I S → ∃ (r : Int64) (S1 : sT) (S2 : sT), f_X10_digest  S = some (r, S1) ∧ f_X11_digest  S1 = some (r, S2) ∧ I S2
theorem law_ix (x : Int32) : ∃ j : Nat, j < 32 ∧ x &&& (31 : Int32) = nI j := by
  obtain ⟨j, hj, e⟩ := pk_andE x (m := 31) 5 (by decide)
  exact ⟨j, hj, e⟩
set_option maxHeartbeats 4000000 in
set_option maxRecDepth 100000 in
theorem law_loop (C : Cx p s m #[.ref b] meth c cL_law 4 RL g) (hr : meth.sig.returnType = ret) (hX : va_X b L xs s s.heap) (hbl : b < s.heap.size) (hbA : ¬ gA g b) (hgA : ∀ q, gA g q → s.heap.size ≤ q) (hL : L ≤ 384) (hc : cells ≤ room_1.cells ∧ slots ≤ room_1.slots) (I : sT → Prop) (T0 : St_0 I) (T1 : St_1 I) (T2 : St_2 I) (T3 : St_3 I) (T4 : St_4 I) (T5 : St_5 I) (T6 : St_6 I) (T7 : St_7 I) (T8 : St_8 I) (T9 : St_9 I) (T10 : St_10 I) (T11 : St_11 I) (T12 : St_12 I) (T13 : St_13 I) (T14 : St_14 I) (T15 : St_15 I) (T16 : St_16 I) (T17 : St_17 I) (T18 : St_18 I) (T19 : St_19 I) (T20 : St_20 I) (T21 : St_21 I) (T22 : St_22 I) (T23 : St_23 I) (T24 : St_24 I) (T25 : St_25 I) (T26 : St_26 I) (T27 : St_27 I) (T28 : St_28 I) :
    ∀ (n i : Nat), i ≤ L + 5 → L + 6 ≤ i + n → ∀ (S : sT) (H : Heap) (locs : List Loc) (ls : Array Slot), I S → Hp g s S H locs → lv_has ls 4 [(0, .ref b), (1, .ref (gad g 0 0)), (2, .ref (gad g 10 0)), (3, .int (nI i))] → W p l e room_1 s m #[.ref b] below meth c H locs cells slots (lw_Z below #[.ref b] s) (F0 m 18 ls []) := by
  obtain ⟨hx, hb, hml, hown, hts, hlk, hK⟩ := id C
  intro n
  induction n with
  | zero =>
    intro i h1 h2
    exact absurd h2 (by omega)
  | succ n ih =>
    intro i hi hin S H locs ls hI hH hl
    have hxi : (xs i &&& (31 : Int32)) = xs i &&& 31 := rfl
    refine lv_iload_n hx hb dL_law_18 rfl (lv_at hl 3 rfl) ?_
    refine lv_aload_n hx hb dL_law_19 rfl (lv_at hl 0 rfl) ?_
    refine va_slen hx hb hX hbl hbA hH.2 dL_law_20 ?_
    refine lv_bipush (v := (6 : Int32)) hx hb dL_law_21 (by decide) ?_
    refine lv_isub hx hb dL_law_23 ?_
    have hcmp : (Int32.ofNat L - (6 : Int32) < nI i) ↔ L < i + 6 := by
      have e : (Int32.ofNat L - (6 : Int32)).toInt = (L : Int) - 6 := pk_sub_toInt (a := L) (b := 6) (by omega) (by omega)
      rw [Int32.lt_iff_toInt_lt, e, nI_toInt (by omega)]
      omega
    refine lv_icmp_gt (tgt := 1079) hx hb dL_law_24 (by decide) (fun c_1 => ?_) (fun c_1 => ?_)
    · refine lv_iconst (v := 1) hx hb dL_law_1079 (by decide) ?_
      refine va_forget (fun q hq => hgA _ (hH.2.2.2 q hq)) ?_
      refine W.widen (k := 600000) (n := 7302249) hc.1 hc.2 ?_
      exact lw_ret hx hb hr hlk dL_law_1080
    · have hle : i + 6 ≤ L := by
        have := mt hcmp.mpr c_1
        omega
      have h_1 : vp_in (nI i) L := vp_in_nI (by omega) (by omega)
      refine lv_aload_n hx hb dL_law_27 rfl (lv_at hl 0 rfl) ?_
      refine lv_iload_n hx hb dL_law_28 rfl (lv_at hl 3 rfl) ?_
      refine va_sld hx hb hX hbl hbA hH.2 h_1 dL_law_29 ?_
      rw [nI_clamp (by omega)]
      refine lv_bipush (v := (31 : Int32)) hx hb dL_law_30 (by decide) ?_
      refine lv_iand hx hb dL_law_32 ?_
      have back : ∀ (S2 : sT), I S2 → ∀ (H : Heap) (locs : List Loc), Hp g s S2 H locs → W p l e room_1 s m #[.ref b] below meth c H locs cells slots (lw_Z below #[.ref b] s) (F0 m 1073 ls []) := by
        intro S2 hI2 H locs hH
        refine lv_iinc (v := nI (i + 6)) (lv' := [(3, .int (nI (i + 6))), (0, .ref b), (1, .ref (gad g 0 0)), (2, .ref (gad g 10 0))]) hx hb dL_law_1073 hl (k := 3) rfl (nI_add i 6) (by decide) rfl (fun ls hl => ?_)
        refine lv_goto (tgt := 18) hx hb dL_law_1076 (by decide) ?_
        exact ih (i + 6) (by omega) (by omega) S2 _ _ _ hI2 hH (lv_sub hl [1, 2, 3, 0] rfl)
      obtain ⟨j, hj, ej⟩ := law_ix (xs i)
      rw [ej]
      by_cases e0 : j = 0
      · subst e0
        obtain ⟨r, S1, S2, h1, h2, hI2⟩ := T0 S hI (xs (i + 1)) (xs (i + 2))
        refine r_tabI C (k := 0) (off := 131) (tgt := 164) dL_law_33 rfl (by decide) ?_
        exact law_0 C hX hbl hbA hL hle hc (S1 := S1) (S2 := S2) h1 h2 hH hl (back _ hI2)
      by_cases e1 : j = 1
      · subst e1
        obtain ⟨r, S1, S2, h1, h2, hI2⟩ := T1 S hI (xs (i + 1))
        refine r_tabI C (k := 1) (off := 164) (tgt := 197) dL_law_33 rfl (by decide) ?_
        exact law_1 C hX hbl hbA hL hle hc (S1 := S1) (S2 := S2) h1 h2 hH hl (back _ hI2)
      by_cases e2 : j = 2
      · subst e2
        obtain ⟨r, S1, S2, h1, h2, hI2⟩ := T2 S hI (xs (i + 1))
        refine r_tabI C (k := 2) (off := 187) (tgt := 220) dL_law_33 rfl (by decide) ?_
        exact law_2 C hX hbl hbA hL hle hc (S1 := S1) (S2 := S2) h1 h2 hH hl (back _ hI2)
      by_cases e3 : j = 3
      · subst e3
        obtain ⟨r, S2, h1, h2, hI2⟩ := T3 S hI (xs (i + 1))
        refine r_tabI C (k := 3) (off := 210) (tgt := 243) dL_law_33 rfl (by decide) ?_
        exact law_3 C hX hbl hbA hL hle hc (S1 := S) (S2 := S2) h1 h2 hH hl (back _ hI2)
      by_cases e4 : j = 4
      · subst e4
        obtain ⟨r, S1, S2, h1, h2, hI2⟩ := T4 S hI (xs (i + 1)) (xs (i + 2))
        refine r_tabI C (k := 4) (off := 233) (tgt := 266) dL_law_33 rfl (by decide) ?_
        exact law_4 C hX hbl hbA hL hle hc (S1 := S1) (S2 := S2) h1 h2 hH hl (back _ hI2)
      by_cases e5 : j = 5
      · subst e5
        obtain ⟨r, S2, h1, h2, hI2⟩ := T5 S hI (xs (i + 1)) (xs (i + 2))
        refine r_tabI C (k := 5) (off := 266) (tgt := 299) dL_law_33 rfl (by decide) ?_
        exact law_5 C hX hbl hbA hL hle hc (S1 := S) (S2 := S2) h1 h2 hH hl (back _ hI2)
      by_cases e6 : j = 6
      · subst e6
        obtain ⟨r, S2, h1, h2, hI2⟩ := T6 S hI (xs (i + 1)) (xs (i + 2))
        refine r_tabI C (k := 6) (off := 299) (tgt := 332) dL_law_33 rfl (by decide) ?_
        exact law_6 C hX hbl hbA hL hle hc (S1 := S) (S2 := S2) h1 h2 hH hl (back _ hI2)
      by_cases e7 : j = 7
      · subst e7
        obtain ⟨r, S2, h1, h2, hI2⟩ := T7 S hI (xs (i + 1)) (xs (i + 2)) (xs (i + 3))
        refine r_tabI C (k := 7) (off := 332) (tgt := 365) dL_law_33 rfl (by decide) ?_
        exact law_7 C hX hbl hbA hL hle hc (S1 := S) (S2 := S2) h1 h2 hH hl (back _ hI2)
      by_cases e8 : j = 8
      · subst e8
        obtain ⟨r, S2, h1, h2, hI2⟩ := T8 S hI (xs (i + 1)) (xs (i + 2))
        refine r_tabI C (k := 8) (off := 375) (tgt := 408) dL_law_33 rfl (by decide) ?_
        exact law_8 C hX hbl hbA hL hle hc (S1 := S) (S2 := S2) h1 h2 hH hl (back _ hI2)
      by_cases e9 : j = 9
      · subst e9
        obtain ⟨r, S2, h1, h2, hI2⟩ := T9 S hI (xs (i + 1)) (xs (i + 2))
        refine r_tabI C (k := 9) (off := 408) (tgt := 441) dL_law_33 rfl (by decide) ?_
        exact law_9 C hX hbl hbA hL hle hc (S1 := S) (S2 := S2) h1 h2 hH hl (back _ hI2)
      by_cases e10 : j = 10
      · subst e10
        obtain ⟨r, S2, h1, h2, hI2⟩ := T10 S hI (xs (i + 1))
        refine r_tabI C (k := 10) (off := 441) (tgt := 474) dL_law_33 rfl (by decide) ?_
        exact law_10 C hX hbl hbA hL hle hc (S1 := S) (S2 := S2) h1 h2 hH hl (back _ hI2)
      by_cases e11 : j = 11
      · subst e11
        obtain ⟨r, S2, h1, h2, hI2⟩ := T11 S hI
        refine r_tabI C (k := 11) (off := 464) (tgt := 497) dL_law_33 rfl (by decide) ?_
        exact law_11 C hX hbl hbA hL hle hc (S1 := S) (S2 := S2) h1 h2 hH hl (back _ hI2)
      by_cases e12 : j = 12
      · subst e12
        obtain ⟨r, S1, S2, h1, h2, hI2⟩ := T12 S hI (xs (i + 1))
        refine r_tabI C (k := 12) (off := 477) (tgt := 510) dL_law_33 rfl (by decide) ?_
        exact law_12 C hX hbl hbA hL hle hc (S1 := S1) (S2 := S2) h1 h2 hH hl (back _ hI2)
      by_cases e13 : j = 13
      · subst e13
        obtain ⟨r, S1, S2, h1, h2, hI2⟩ := T13 S hI (xs (i + 1)) (xs (i + 2))
        refine r_tabI C (k := 13) (off := 500) (tgt := 533) dL_law_33 rfl (by decide) ?_
        exact law_13 C hX hbl hbA hL hle hc (S1 := S1) (S2 := S2) h1 h2 hH hl (back _ hI2)
      by_cases e14 : j = 14
      · subst e14
        obtain ⟨r, S1, S2, h1, h2, hI2⟩ := T14 S hI (xs (i + 1)) (xs (i + 2))
        refine r_tabI C (k := 14) (off := 533) (tgt := 566) dL_law_33 rfl (by decide) ?_
        exact law_14 C hX hbl hbA hL hle hc (S1 := S1) (S2 := S2) h1 h2 hH hl (back _ hI2)
      by_cases e15 : j = 15
      · subst e15
        obtain ⟨r, S1, S2, h1, h2, hI2⟩ := T15 S hI (xs (i + 1)) (xs (i + 2)) (xs (i + 3))
        refine r_tabI C (k := 15) (off := 566) (tgt := 599) dL_law_33 rfl (by decide) ?_
        exact law_15 C hX hbl hbA hL hle hc (S1 := S1) (S2 := S2) h1 h2 hH hl (back _ hI2)
      by_cases e16 : j = 16
      · subst e16
        obtain ⟨r, S1, S2, h1, h2, hI2⟩ := T16 S hI
        refine r_tabI C (k := 16) (off := 609) (tgt := 642) dL_law_33 rfl (by decide) ?_
        exact law_16 C hX hbl hbA hL hle hc (S1 := S1) (S2 := S2) h1 h2 hH hl (back _ hI2)
      by_cases e17 : j = 17
      · subst e17
        obtain ⟨r, S1, S2, h1, h2, hI2⟩ := T17 S hI (xs (i + 1))
        refine r_tabI C (k := 17) (off := 622) (tgt := 655) dL_law_33 rfl (by decide) ?_
        exact law_17 C hX hbl hbA hL hle hc (S1 := S1) (S2 := S2) h1 h2 hH hl (back _ hI2)
      by_cases e18 : j = 18
      · subst e18
        obtain ⟨r, S1, S2, h1, h2, hI2⟩ := T18 S hI (xs (i + 1))
        refine r_tabI C (k := 18) (off := 645) (tgt := 678) dL_law_33 rfl (by decide) ?_
        exact law_18 C hX hbl hbA hL hle hc (S1 := S1) (S2 := S2) h1 h2 hH hl (back _ hI2)
      by_cases e19 : j = 19
      · subst e19
        obtain ⟨r, S1, S2, h1, h2, hI2⟩ := T19 S hI (xs (i + 1)) (xs (i + 2))
        refine r_tabI C (k := 19) (off := 668) (tgt := 701) dL_law_33 rfl (by decide) ?_
        exact law_19 C hX hbl hbA hL hle hc (S1 := S1) (S2 := S2) h1 h2 hH hl (back _ hI2)
      by_cases e20 : j = 20
      · subst e20
        obtain ⟨r, S1, S2, h1, h2, hI2⟩ := T20 S hI (xs (i + 1)) (xs (i + 2)) (xs (i + 3))
        refine r_tabI C (k := 20) (off := 702) (tgt := 735) dL_law_33 rfl (by decide) ?_
        exact law_20 C hX hbl hbA hL hle hc (S1 := S1) (S2 := S2) h1 h2 hH hl (back _ hI2)
      by_cases e21 : j = 21
      · subst e21
        obtain ⟨r, S1, S2, h1, h2, hI2⟩ := T21 S hI (xs (i + 1)) (xs (i + 2)) (xs (i + 3))
        refine r_tabI C (k := 21) (off := 745) (tgt := 778) dL_law_33 rfl (by decide) ?_
        exact law_21 C hX hbl hbA hL hle hc (S1 := S1) (S2 := S2) h1 h2 hH hl (back _ hI2)
      by_cases e22 : j = 22
      · subst e22
        obtain ⟨r, S1, S2, h1, h2, hI2⟩ := T22 S hI (xs (i + 1))
        refine r_tabI C (k := 22) (off := 788) (tgt := 821) dL_law_33 rfl (by decide) ?_
        exact law_22 C hX hbl hbA hL hle hc (S1 := S1) (S2 := S2) h1 h2 hH hl (back _ hI2)
      by_cases e23 : j = 23
      · subst e23
        obtain ⟨r, S1, S2, h1, h2, hI2⟩ := T23 S hI (xs (i + 1)) (xs (i + 2)) (xs (i + 3)) (xs (i + 4))
        refine r_tabI C (k := 23) (off := 811) (tgt := 844) dL_law_33 rfl (by decide) ?_
        exact law_23 C hX hbl hbA hL hle hc (S1 := S1) (S2 := S2) h1 h2 hH hl (back _ hI2)
      by_cases e24 : j = 24
      · subst e24
        obtain ⟨r, S1, S2, h1, h2, hI2⟩ := T24 S hI (xs (i + 1)) (xs (i + 2)) (xs (i + 3))
        refine r_tabI C (k := 24) (off := 864) (tgt := 897) dL_law_33 rfl (by decide) ?_
        exact law_24 C hX hbl hbA hL hle hc (S1 := S1) (S2 := S2) h1 h2 hH hl (back _ hI2)
      by_cases e25 : j = 25
      · subst e25
        obtain ⟨r, S1, S2, h1, h2, hI2⟩ := T25 S hI (xs (i + 1)) (xs (i + 2)) (xs (i + 3)) (xs (i + 4)) (xs (i + 5))
        refine r_tabI C (k := 25) (off := 907) (tgt := 940) dL_law_33 rfl (by decide) ?_
        exact law_25 C hX hbl hbA hL hle hc (S1 := S1) (S2 := S2) h1 h2 hH hl (back _ hI2)
      by_cases e26 : j = 26
      · subst e26
        obtain ⟨r, S1, S2, h1, h2, hI2⟩ := T26 S hI (xs (i + 1)) (xs (i + 2))
        refine r_tabI C (k := 26) (off := 970) (tgt := 1003) dL_law_33 rfl (by decide) ?_
        exact law_26 C hX hbl hbA hL hle hc (S1 := S1) (S2 := S2) h1 h2 hH hl (back _ hI2)
      by_cases e27 : j = 27
      · subst e27
        obtain ⟨r, S2, h1, h2, hI2⟩ := T27 S hI (xs (i + 1))
        refine r_tabI C (k := 27) (off := 1003) (tgt := 1036) dL_law_33 rfl (by decide) ?_
        exact law_27 C hX hbl hbA hL hle hc (S1 := S) (S2 := S2) h1 h2 hH hl (back _ hI2)
      by_cases e28 : j = 28
      · subst e28
        obtain ⟨r, S1, S2, h1, h2, hI2⟩ := T28 S hI
        refine r_tabI C (k := 28) (off := 1026) (tgt := 1059) dL_law_33 rfl (by decide) ?_
        exact law_28 C hX hbl hbA hL hle hc (S1 := S1) (S2 := S2) h1 h2 hH hl (back _ hI2)
      refine lv_tableOut (tgt := 1073) hx hb dL_law_33 (Or.inr ?_) (by decide) ?_
      · rw [nI_toInt (by omega)]
        omega
      · exact back S hI H locs hH
end LW
