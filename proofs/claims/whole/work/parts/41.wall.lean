/-! walls: columns of stones -/
def wt (x : Nat) : Nat := if x < 2 then 1 else 2
def pl (x : Nat) : Int := if x % 2 = 0 then (wt x : Int) else -(wt x : Int)
def ht (l : List Nat) : Nat := (l.map wt).sum
def ln (l : List Nat) : Int := (l.map pl).sum
def nth (l : List Nat) (i : Nat) : Nat := l.getD i 0
def Col (l : List Nat) : Prop := l.length ≤ 8 ∧ ∀ x ∈ l, x < 4
theorem wt_le (x : Nat) : 1 ≤ wt x ∧ wt x ≤ 2 := by unfold wt; split <;> omega
theorem ht_le (l : List Nat) : l.length ≤ ht l ∧ ht l ≤ 2 * l.length := by
  induction l with
  | nil => simp [ht]
  | cons a l ih =>
    have := wt_le a
    simp [ht] at ih ⊢
    omega
theorem ln_le (l : List Nat) : -(ht l : Int) ≤ ln l ∧ ln l ≤ ht l := by
  induction l with
  | nil => simp [ht, ln]
  | cons a l ih =>
    have h1 := wt_le a
    have h2 : ht (a :: l) = wt a + ht l := by simp [ht]
    have h3 : ln (a :: l) = pl a + ln l := by simp [ln]
    have h4 : pl a = wt a ∨ pl a = -(wt a : Int) := by unfold pl; split <;> simp
    omega
theorem ht_app (l : List Nat) (x : Nat) : ht (l ++ [x]) = ht l + wt x := by simp [ht]
theorem ln_app (l : List Nat) (x : Nat) : ln (l ++ [x]) = ln l + pl x := by simp [ln]
/-- the wall w holds n columns f -/
def RW (S : sT) (w n : Nat) (f : Nat → List Nat) : Prop :=
  n ≤ 8 ∧ S.1 112 w 0 = iI n ∧ ∀ c, c < 8 → Col (f c) ∧ (n ≤ c → f c = []) ∧ S.1 30 w c = iI (f c).length ∧ S.1 31 w c = iI (ht (f c)) ∧ S.1 32 w c = iI (ln (f c)) ∧ ∀ i, i < (f c).length → S.1 29 w (8 * c + i) = iI (nth (f c) i)
theorem p_weightOf {x : Nat} (hx : x < 4) (S : sT) : f_X7_weightOf (iI x) S = some (iI (wt x)) := by
  unfold f_X7_weightOf wt
  simp (disch := omega) only [ck_t, lt_b, bn_s, bn2_s, jn_b, nl_N, nl_S, i_m2147483648, i_m1002, i_m10, i_m9, i_m4, i_m3, i_m2, i_m1, i_0, i_1, i_2, i_3, i_4, i_5, i_6, i_7, i_8, i_9, i_12, i_15, i_16, i_32, i_40, i_45, i_48, i_55, i_59, i_60, i_63, i_64, i_78, i_81, i_83, i_110, i_115, i_255, iI_add, iI_sub, iI_mul, iI_neg, iI_lt, iI_le, iI_eq, cl_iI, vi_iI]
  split <;> split <;> first | rfl | omega
theorem i_and1 {x : Nat} (hx : x < 4) : iI x &&& (1 : Int32) = iI (x % 2 : Nat) := by
  rcases (show x = 0 ∨ x = 1 ∨ x = 2 ∨ x = 3 by omega) with rfl | rfl | rfl | rfl <;> rfl
theorem p_pullOf {x : Nat} (hx : x < 4) (S : sT) : f_X7_pullOf (iI x) S = some (iI (pl x)) := by
  unfold f_X7_pullOf pl wt
  rcases (show x = 0 ∨ x = 1 ∨ x = 2 ∨ x = 3 by omega) with rfl | rfl | rfl | rfl <;> rfl
theorem p_has_in {S : sT} {w n : Nat} {f : Nat → List Nat} (h : RW S w n f) {c : Nat} (hc : c < n) : f_X9_has w (iI c) S = some (iI 1) := by
  obtain ⟨hn, hw, -⟩ := h
  unfold f_X9_has
  rw [hw]
  simp (disch := omega) only [ck_t, lt_b, bn_s, bn2_s, jn_b, nl_N, nl_S, i_m2147483648, i_m1002, i_m10, i_m9, i_m4, i_m3, i_m2, i_m1, i_0, i_1, i_2, i_3, i_4, i_5, i_6, i_7, i_8, i_9, i_12, i_15, i_16, i_32, i_40, i_45, i_48, i_55, i_59, i_60, i_63, i_64, i_78, i_81, i_83, i_110, i_115, i_255, iI_add, iI_sub, iI_mul, iI_neg, iI_lt, iI_le, iI_eq, cl_iI, vi_iI, if_pos, if_neg, ↓reduceIte]
theorem p_has_out {S : sT} {w n : Nat} {f : Nat → List Nat} (h : RW S w n f) {z : Int} (h1 : -2147483648 ≤ z) (h2 : z < 2147483648) (hz : ¬ (0 ≤ z ∧ z < n)) : f_X9_has w (iI z) S = some (iI 0) := by
  obtain ⟨hn, hw, -⟩ := h
  unfold f_X9_has
  rw [hw]
  simp (disch := omega) only [ck_t, lt_b, bn_s, bn2_s, jn_b, nl_N, nl_S, i_m2147483648, i_m1002, i_m10, i_m9, i_m4, i_m3, i_m2, i_m1, i_0, i_1, i_2, i_3, i_4, i_5, i_6, i_7, i_8, i_9, i_12, i_15, i_16, i_32, i_40, i_45, i_48, i_55, i_59, i_60, i_63, i_64, i_78, i_81, i_83, i_110, i_115, i_255, iI_add, iI_sub, iI_mul, iI_neg, iI_lt, iI_le, iI_eq, cl_iI, vi_iI]
  split
  · rfl
  · rw [if_pos (by omega)]
theorem p_heightOf_in {S : sT} {w n : Nat} {f : Nat → List Nat} (h : RW S w n f) {c : Nat} (hc : c < n) : f_X9_heightOf w (iI c) S = some (iI (ht (f c))) := by
  obtain ⟨hn, hw, hf⟩ := h
  unfold f_X9_heightOf
  rw [hw]
  simp (disch := omega) only [ck_t, lt_b, bn_s, bn2_s, jn_b, nl_N, nl_S, i_m2147483648, i_m1002, i_m10, i_m9, i_m4, i_m3, i_m2, i_m1, i_0, i_1, i_2, i_3, i_4, i_5, i_6, i_7, i_8, i_9, i_12, i_15, i_16, i_32, i_40, i_45, i_48, i_55, i_59, i_60, i_63, i_64, i_78, i_81, i_83, i_110, i_115, i_255, iI_add, iI_sub, iI_mul, iI_neg, iI_lt, iI_le, iI_eq, cl_iI, vi_iI, if_pos, if_neg, ↓reduceIte, Int.toNat_natCast, (hf c (by omega)).2.2.2.1]
theorem p_heightOf_out {S : sT} {w n : Nat} {f : Nat → List Nat} (h : RW S w n f) {z : Int} (h1 : -2147483648 ≤ z) (h2 : z < 2147483648) (hz : ¬ (0 ≤ z ∧ z < n)) : f_X9_heightOf w (iI z) S = some (iI 0) := by
  obtain ⟨hn, hw, -⟩ := h
  unfold f_X9_heightOf
  rw [hw]
  simp (disch := omega) only [ck_t, lt_b, bn_s, bn2_s, jn_b, nl_N, nl_S, i_m2147483648, i_m1002, i_m10, i_m9, i_m4, i_m3, i_m2, i_m1, i_0, i_1, i_2, i_3, i_4, i_5, i_6, i_7, i_8, i_9, i_12, i_15, i_16, i_32, i_40, i_45, i_48, i_55, i_59, i_60, i_63, i_64, i_78, i_81, i_83, i_110, i_115, i_255, iI_add, iI_sub, iI_mul, iI_neg, iI_lt, iI_le, iI_eq, cl_iI, vi_iI]
  split
  · rfl
  · rw [if_pos (by omega)]
theorem p_leanOf_in {S : sT} {w n : Nat} {f : Nat → List Nat} (h : RW S w n f) {c : Nat} (hc : c < n) : f_X9_leanOf w (iI c) S = some (iI (ln (f c))) := by
  obtain ⟨hn, hw, hf⟩ := h
  unfold f_X9_leanOf
  rw [hw]
  simp (disch := omega) only [ck_t, lt_b, bn_s, bn2_s, jn_b, nl_N, nl_S, i_m2147483648, i_m1002, i_m10, i_m9, i_m4, i_m3, i_m2, i_m1, i_0, i_1, i_2, i_3, i_4, i_5, i_6, i_7, i_8, i_9, i_12, i_15, i_16, i_32, i_40, i_45, i_48, i_55, i_59, i_60, i_63, i_64, i_78, i_81, i_83, i_110, i_115, i_255, iI_add, iI_sub, iI_mul, iI_neg, iI_lt, iI_le, iI_eq, cl_iI, vi_iI, if_pos, if_neg, ↓reduceIte, Int.toNat_natCast, (hf c (by omega)).2.2.2.2.1]
theorem p_sizeOf_in {S : sT} {w n : Nat} {f : Nat → List Nat} (h : RW S w n f) {c : Nat} (hc : c < n) : f_X9_sizeOf w (iI c) S = some (iI (f c).length) := by
  unfold f_X9_sizeOf
  rw [p_has_in h hc]
  obtain ⟨hn, hw, hf⟩ := h
  simp (disch := omega) only [ck_t, lt_b, bn_s, bn2_s, jn_b, nl_N, nl_S, i_m2147483648, i_m1002, i_m10, i_m9, i_m4, i_m3, i_m2, i_m1, i_0, i_1, i_2, i_3, i_4, i_5, i_6, i_7, i_8, i_9, i_12, i_15, i_16, i_32, i_40, i_45, i_48, i_55, i_59, i_60, i_63, i_64, i_78, i_81, i_83, i_110, i_115, i_255, iI_add, iI_sub, iI_mul, iI_neg, iI_lt, iI_le, iI_eq, cl_iI, vi_iI, if_pos, if_neg, ↓reduceIte, Int.toNat_natCast, (hf c (by omega)).2.2.1]
theorem us_nb {S : sT} {f a b b' : Nat} {v : Int32} (h : b' ≠ b) : (us S f a b v).1 f a b' = S.1 f a b' := by simp [us, h]
def upf (f : Nat → List Nat) (c : Nat) (l : List Nat) : Nat → List Nat := fun j => if j = c then l else f j
theorem upf_s (f : Nat → List Nat) (c : Nat) (l : List Nat) : upf f c l c = l := by simp [upf]
theorem upf_n {f : Nat → List Nat} {c j : Nat} {l : List Nat} (h : j ≠ c) : upf f c l j = f j := by simp [upf, h]
theorem upf_self (f : Nat → List Nat) (c : Nat) : upf f c (f c) = f := by funext j; unfold upf; split <;> simp_all
theorem upf_upf (f : Nat → List Nat) (c : Nat) (l m : List Nat) : upf (upf f c l) c m = upf f c m := by funext j; unfold upf; split <;> rfl
/-- nothing but the wall w has changed -/
def FW (w : Nat) (S S' : sT) : Prop := (∀ k i, ¬ ((29 ≤ k ∧ k ≤ 32 ∨ k = 112) ∧ i = w) → S'.1 k i = S.1 k i) ∧ S'.2 = S.2
theorem FW.rf (w : Nat) (S : sT) : FW w S S := ⟨fun _ _ _ => rfl, rfl⟩
theorem FW.tr {w : Nat} {S S1 S2 : sT} (h1 : FW w S S1) (h2 : FW w S1 S2) : FW w S S2 := ⟨fun k i h => (h2.1 k i h).trans (h1.1 k i h), h2.2.trans h1.2⟩
theorem FW.us {w k b : Nat} {S : sT} {v : Int32} (h : 29 ≤ k ∧ k ≤ 32 ∨ k = 112) : FW w S (us S k w b v) := ⟨fun k' i h' => by
  by_cases e : k' = k
  · subst e
    exact us_ni (fun e2 => h' ⟨h, e2⟩)
  · exact congrFun (us_ne e) i, rfl⟩
theorem FW.ua {w k : Nat} {S : sT} {v : Nat → Int32} (h : 29 ≤ k ∧ k ≤ 32 ∨ k = 112) : FW w S (ua S k w v) := ⟨fun k' i h' => by
  by_cases e : k' = k
  · subst e
    exact ua_ni (fun e2 => h' ⟨h, e2⟩)
  · exact congrFun (ua_ne e) i, rfl⟩
theorem RW.kept {S S' : sT} {w n : Nat} {f : Nat → List Nat} (h : RW S w n f) (h29 : S'.1 29 w = S.1 29 w) (h30 : S'.1 30 w = S.1 30 w) (h31 : S'.1 31 w = S.1 31 w) (h32 : S'.1 32 w = S.1 32 w) (h112 : S'.1 112 w = S.1 112 w) : RW S' w n f := by
  obtain ⟨hn, hc, hf⟩ := h
  exact ⟨hn, by rw [h112]; exact hc, fun c hc => by rw [h29, h30, h31, h32]; exact hf c hc⟩
theorem RW.fw {S S' : sT} {w w' n : Nat} {f : Nat → List Nat} (h : RW S w n f) (hF : FW w' S S') (hw : w ≠ w') : RW S' w n f :=
  h.kept (hF.1 _ _ (fun q => hw q.2)) (hF.1 _ _ (fun q => hw q.2)) (hF.1 _ _ (fun q => hw q.2)) (hF.1 _ _ (fun q => hw q.2)) (hF.1 _ _ (fun q => hw q.2))
theorem RW.upd {S S' : sT} {w n c : Nat} {f : Nat → List Nat} {l : List Nat} (h : RW S w n f) (hc : c < n) (hl : Col l) (h112 : S'.1 112 w = S.1 112 w) (h30 : S'.1 30 w = upd (S.1 30 w) c (iI l.length)) (h31 : S'.1 31 w = upd (S.1 31 w) c (iI (ht l))) (h32 : S'.1 32 w = upd (S.1 32 w) c (iI (ln l))) (h29 : ∀ c' i, c' ≠ c → i < 8 → S'.1 29 w (8 * c' + i) = S.1 29 w (8 * c' + i)) (h29c : ∀ i, i < l.length → S'.1 29 w (8 * c + i) = iI (nth l i)) : RW S' w n (upf f c l) := by
  obtain ⟨hn, hw, hf⟩ := h
  refine ⟨hn, by rw [h112]; exact hw, fun c' hc' => ?_⟩
  by_cases e : c' = c
  · subst e
    rw [upf_s, h30, h31, h32]
    exact ⟨hl, fun q => absurd q (by omega), pk_us, pk_us, pk_us, h29c⟩
  · obtain ⟨a1, a2, a3, a4, a5, a6⟩ := hf c' hc'
    rw [upf_n e, h30, h31, h32, pk_un e, pk_un e, pk_un e]
    exact ⟨a1, a2, a3, a4, a5, fun i hi => by rw [h29 c' i e (by have := a1.1; omega)]; exact a6 i hi⟩
theorem nth_app_l {l : List Nat} {x i : Nat} (h : i < l.length) : nth (l ++ [x]) i = nth l i := by
  unfold nth; rw [List.getD_eq_getElem?_getD, List.getD_eq_getElem?_getD, List.getElem?_append_left h]
theorem nth_app_r {l : List Nat} {x : Nat} : nth (l ++ [x]) l.length = x := by
  unfold nth; simp
theorem Col.app {l : List Nat} {x : Nat} (h : Col l) (hx : x < 4) (hl : l.length < 8) : Col (l ++ [x]) := ⟨by simp; omega, fun y hy => by
  rcases List.mem_append.mp hy with q | q
  · exact h.2 y q
  · rw [List.mem_singleton.mp q]; exact hx⟩
theorem Col.init {l : List Nat} {x : Nat} (h : Col (l ++ [x])) : Col l ∧ x < 4 ∧ l.length < 8 := ⟨⟨by have := h.1; simp at this; omega, fun y hy => h.2 y (List.mem_append_left _ hy)⟩, h.2 x (List.mem_append_right _ (List.mem_singleton.mpr rfl)), by have := h.1; simp at this; omega⟩
theorem tN8 (c i : Nat) : ((c : Int) * 8 + (i : Int)).toNat = 8 * c + i := by omega
theorem p_put_eq {S : sT} {w n c x : Nat} {f : Nat → List Nat} (h : RW S w n f) (hc : c < n) (hx : x < 4) (hl : (f c).length < 8) : f_X9_put w (iI c) (iI x) S = some (iI 1, us (us (us (us S 29 w (8 * c + (f c).length) (iI x)) 30 w c (iI (((f c).length : Int) + 1))) 31 w c (iI ((ht (f c) : Int) + wt x))) 32 w c (iI (ln (f c) + pl x))) := by
  have hn := h.1
  obtain ⟨a1, a2, a3, a4, a5, a6⟩ := h.2.2 c (by omega)
  unfold f_X9_put
  rw [p_has_in h hc]
  simp (disch := omega) only [ck_t, lt_b, bn_s, bn2_s, jn_b, nl_N, nl_S, i_m2147483648, i_m1002, i_m10, i_m9, i_m4, i_m3, i_m2, i_m1, i_0, i_1, i_2, i_3, i_4, i_5, i_6, i_7, i_8, i_9, i_12, i_15, i_16, i_32, i_40, i_45, i_48, i_55, i_59, i_60, i_63, i_64, i_78, i_81, i_83, i_110, i_115, i_255, iI_add, iI_sub, iI_mul, iI_neg, iI_lt, iI_le, iI_eq, cl_iI, vi_iI, if_pos, if_neg, ↓reduceIte, Int.toNat_natCast, a3, us_ne, us_same, a4, a5, p_weightOf hx, p_pullOf hx, tN8]
theorem p_put_in {S : sT} {w n c x : Nat} {f : Nat → List Nat} (h : RW S w n f) (hc : c < n) (hx : x < 4) (hl : (f c).length < 8) : ∃ S', f_X9_put w (iI c) (iI x) S = some (iI 1, S') ∧ RW S' w n (upf f c (f c ++ [x])) ∧ FW w S S' := by
  have hn := h.1
  obtain ⟨a1, a2, a3, a4, a5, a6⟩ := h.2.2 c (by omega)
  refine ⟨_, p_put_eq h hc hx hl, ?_, ((((FW.us (by omega)).tr (FW.us (by omega))).tr (FW.us (by omega))).tr (FW.us (by omega)))⟩
  refine h.upd hc (a1.app hx hl) ?_ ?_ ?_ ?_ ?_ ?_
  · simp (disch := omega) only [us_ne]
  · simp (disch := omega) only [us_ne, us_arr, List.length_append, List.length_singleton]
    rfl
  · simp (disch := omega) only [us_ne, us_arr, ht_app]
    rfl
  · simp (disch := omega) only [us_ne, us_arr, ln_app]
  · intro c' i hc' hi
    simp (disch := omega) only [us_ne, us_nb]
  · intro i hi
    simp at hi
    by_cases e : i = (f c).length
    · subst e
      simp (disch := omega) only [us_ne, us_same, nth_app_r]
    · simp (disch := omega) only [us_ne, us_nb, nth_app_l]
      exact a6 i (by omega)
theorem p_put_full {S : sT} {w n c : Nat} {f : Nat → List Nat} (h : RW S w n f) (hc : c < n) (hl : (f c).length = 8) (x : Int32) : f_X9_put w (iI c) x S = some (iI 0, S) := by
  have hn := h.1
  obtain ⟨a1, a2, a3, a4, a5, a6⟩ := h.2.2 c (by omega)
  unfold f_X9_put
  rw [p_has_in h hc]
  simp (disch := omega) only [ck_t, lt_b, bn_s, bn2_s, jn_b, nl_N, nl_S, i_m2147483648, i_m1002, i_m10, i_m9, i_m4, i_m3, i_m2, i_m1, i_0, i_1, i_2, i_3, i_4, i_5, i_6, i_7, i_8, i_9, i_12, i_15, i_16, i_32, i_40, i_45, i_48, i_55, i_59, i_60, i_63, i_64, i_78, i_81, i_83, i_110, i_115, i_255, iI_add, iI_sub, iI_mul, iI_neg, iI_lt, iI_le, iI_eq, cl_iI, vi_iI, if_pos, if_neg, ↓reduceIte, Int.toNat_natCast, a3]
theorem p_put_out {S : sT} {w n : Nat} {f : Nat → List Nat} (h : RW S w n f) {z : Int} (h1 : -2147483648 ≤ z) (h2 : z < 2147483648) (hz : ¬ (0 ≤ z ∧ z < n)) (x : Int32) : f_X9_put w (iI z) x S = some (iI 0, S) := by
  unfold f_X9_put
  rw [p_has_out h h1 h2 hz]
  simp (disch := omega) only [ck_t, lt_b, bn_s, bn2_s, jn_b, nl_N, nl_S, i_m2147483648, i_m1002, i_m10, i_m9, i_m4, i_m3, i_m2, i_m1, i_0, i_1, i_2, i_3, i_4, i_5, i_6, i_7, i_8, i_9, i_12, i_15, i_16, i_32, i_40, i_45, i_48, i_55, i_59, i_60, i_63, i_64, i_78, i_81, i_83, i_110, i_115, i_255, iI_add, iI_sub, iI_mul, iI_neg, iI_lt, iI_le, iI_eq, cl_iI, vi_iI, if_pos, if_neg, ↓reduceIte]
theorem p_upper_nil {S : sT} {w n c : Nat} {f : Nat → List Nat} (h : RW S w n f) (hc : c < n) (hl : f c = []) : f_X9_uppermost w (iI c) S = some (iI (-1)) := by
  have hn := h.1
  obtain ⟨a1, a2, a3, a4, a5, a6⟩ := h.2.2 c (by omega)
  rw [hl] at a3
  have a3 : S.1 30 w c = iI 0 := a3
  unfold f_X9_uppermost
  rw [h.2.1]
  simp (disch := omega) only [ck_t, lt_b, bn_s, bn2_s, jn_b, nl_N, nl_S, i_m2147483648, i_m1002, i_m10, i_m9, i_m4, i_m3, i_m2, i_m1, i_0, i_1, i_2, i_3, i_4, i_5, i_6, i_7, i_8, i_9, i_12, i_15, i_16, i_32, i_40, i_45, i_48, i_55, i_59, i_60, i_63, i_64, i_78, i_81, i_83, i_110, i_115, i_255, iI_add, iI_sub, iI_mul, iI_neg, iI_lt, iI_le, iI_eq, cl_iI, vi_iI, if_pos, if_neg, ↓reduceIte, Int.toNat_natCast, a3]
theorem p_upper_out {S : sT} {w n : Nat} {f : Nat → List Nat} (h : RW S w n f) {z : Int} (h1 : -2147483648 ≤ z) (h2 : z < 2147483648) (hz : ¬ (0 ≤ z ∧ z < n)) : f_X9_uppermost w (iI z) S = some (iI (-1)) := by
  have hn := h.1
  unfold f_X9_uppermost
  rw [h.2.1]
  simp (disch := omega) only [ck_t, lt_b, bn_s, bn2_s, jn_b, nl_N, nl_S, i_m2147483648, i_m1002, i_m10, i_m9, i_m4, i_m3, i_m2, i_m1, i_0, i_1, i_2, i_3, i_4, i_5, i_6, i_7, i_8, i_9, i_12, i_15, i_16, i_32, i_40, i_45, i_48, i_55, i_59, i_60, i_63, i_64, i_78, i_81, i_83, i_110, i_115, i_255, iI_add, iI_sub, iI_mul, iI_neg, iI_lt, iI_le, iI_eq, cl_iI, vi_iI]
  split
  · rfl
  · rw [if_pos (by omega)]
theorem p_upper_app {S : sT} {w n c x : Nat} {f : Nat → List Nat} {l : List Nat} (h : RW S w n f) (hc : c < n) (hl : f c = l ++ [x]) : f_X9_uppermost w (iI c) S = some (iI x) := by
  have hn := h.1
  obtain ⟨a1, a2, a3, a4, a5, a6⟩ := h.2.2 c (by omega)
  rw [hl] at a1 a3 a6
  obtain ⟨b1, b2, b3⟩ := a1.init
  have a3 : S.1 30 w c = iI ((l.length : Int) + 1) := by rw [a3]; simp
  have a7 := a6 l.length (by simp)
  rw [nth_app_r] at a7
  unfold f_X9_uppermost
  rw [h.2.1]
  have e : (l.length : Int) + 1 - 1 = l.length := by omega
  simp (disch := omega) only [ck_t, lt_b, bn_s, bn2_s, jn_b, nl_N, nl_S, i_m2147483648, i_m1002, i_m10, i_m9, i_m4, i_m3, i_m2, i_m1, i_0, i_1, i_2, i_3, i_4, i_5, i_6, i_7, i_8, i_9, i_12, i_15, i_16, i_32, i_40, i_45, i_48, i_55, i_59, i_60, i_63, i_64, i_78, i_81, i_83, i_110, i_115, i_255, iI_add, iI_sub, iI_mul, iI_neg, iI_lt, iI_le, iI_eq, cl_iI, vi_iI, if_pos, if_neg, ↓reduceIte, Int.toNat_natCast, a3, e, tN8, a7]
theorem p_take_app {S : sT} {w n c x : Nat} {f : Nat → List Nat} {l : List Nat} (h : RW S w n f) (hc : c < n) (hl : f c = l ++ [x]) : ∃ S', f_X9_take w (iI c) S = some (iI x, S') ∧ RW S' w n (upf f c l) ∧ FW w S S' := by
  have hn := h.1
  obtain ⟨a1, a2, a3, a4, a5, a6⟩ := h.2.2 c (by omega)
  rw [hl] at a1 a3 a6 a4 a5
  obtain ⟨b1, b2, b3⟩ := a1.init
  have a3 : S.1 30 w c = iI ((l.length : Int) + 1) := by rw [a3]; simp
  have a4 : S.1 31 w c = iI ((ht l : Int) + wt x) := by rw [a4, ht_app]; rfl
  have a5 : S.1 32 w c = iI (ln l + pl x) := by rw [a5, ln_app]
  have e1 : (l.length : Int) + 1 - 1 = l.length := by omega
  have e2 : (ht l : Int) + wt x - wt x = ht l := by omega
  have e3 : ln l + pl x - pl x = ln l := by omega
  refine ⟨us (us (us S 30 w c (iI l.length)) 31 w c (iI (ht l))) 32 w c (iI (ln l)), ?_, ?_, (((FW.us (by omega)).tr (FW.us (by omega))).tr (FW.us (by omega)))⟩
  · unfold f_X9_take
    rw [p_upper_app h hc hl]
    simp (disch := omega) only [ck_t, lt_b, bn_s, bn2_s, jn_b, nl_N, nl_S, i_m2147483648, i_m1002, i_m10, i_m9, i_m4, i_m3, i_m2, i_m1, i_0, i_1, i_2, i_3, i_4, i_5, i_6, i_7, i_8, i_9, i_12, i_15, i_16, i_32, i_40, i_45, i_48, i_55, i_59, i_60, i_63, i_64, i_78, i_81, i_83, i_110, i_115, i_255, iI_add, iI_sub, iI_mul, iI_neg, iI_lt, iI_le, iI_eq, cl_iI, vi_iI, if_pos, if_neg, ↓reduceIte, Int.toNat_natCast, a3, us_ne, us_same, a4, a5, p_weightOf b2, p_pullOf b2, e1, e2, e3]
  · refine h.upd hc b1 ?_ ?_ ?_ ?_ ?_ ?_
    · simp (disch := omega) only [us_ne]
    · simp (disch := omega) only [us_ne, us_arr]
    · simp (disch := omega) only [us_ne, us_arr]
    · simp (disch := omega) only [us_ne, us_arr]
    · intro c' i hc' hi
      simp (disch := omega) only [us_ne]
    · intro i hi
      simp (disch := omega) only [us_ne]
      rw [a6 i (by simp; omega), nth_app_l hi]
theorem p_take_none {S : sT} {w : Nat} {a : Int32} (h : f_X9_uppermost w a S = some (iI (-1))) : f_X9_take w a S = some (iI (-1), S) := by
  unfold f_X9_take
  rw [h]
  simp (disch := omega) only [ck_t, lt_b, bn_s, bn2_s, jn_b, nl_N, nl_S, i_m2147483648, i_m1002, i_m10, i_m9, i_m4, i_m3, i_m2, i_m1, i_0, i_1, i_2, i_3, i_4, i_5, i_6, i_7, i_8, i_9, i_12, i_15, i_16, i_32, i_40, i_45, i_48, i_55, i_59, i_60, i_63, i_64, i_78, i_81, i_83, i_110, i_115, i_255, iI_add, iI_sub, iI_mul, iI_neg, iI_lt, iI_le, iI_eq, cl_iI, vi_iI, if_pos, if_neg, ↓reduceIte]
