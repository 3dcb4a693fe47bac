/-! the reference: weak columns, pears, weights -/
theorem m_set {S : sT} {st : Nat → Nat} (h : MS S st) : S.1 42 0 (cl (0 : Int32)) = iI (st 0) ∧ S.1 42 0 (cl (1 : Int32)) = iI (st 1) ∧ S.1 42 0 (cl (2 : Int32)) = iI (st 2) ∧ S.1 42 0 (cl (3 : Int32)) = iI (st 3) ∧ S.1 42 0 (cl (4 : Int32)) = iI (st 4) ∧ S.1 42 0 (cl (5 : Int32)) = iI (st 5) :=
  ⟨(h 0 (by omega)).1, (h 1 (by omega)).1, (h 2 (by omega)).1, (h 3 (by omega)).1, (h 4 (by omega)).1, (h 5 (by omega)).1⟩
theorem RM.b {S : sT} {n : Nat} {f : Nat → List Nat} (h : RM S n f) {c : Nat} (hc : c < 8) : ht (f c) ≤ 16 := by
  have := (h.2.2 c hc).1.1
  have := ht_le (f c)
  omega
theorem RM.hs_le {S : sT} {n : Nat} {f : Nat → List Nat} (h : RM S n f) (z : Int) : hs n f z ≤ 16 := by
  unfold hs
  split
  · exact h.b (by have := h.1; omega)
  · omega
theorem v6 : vi (1 : Int32) 6 = true ∧ vi (2 : Int32) 6 = true ∧ vi (3 : Int32) 6 = true ∧ vi (4 : Int32) 6 = true ∧ vi (5 : Int32) 6 = true ∧ vi (0 : Int32) 6 = true := by decide
theorem or_0 (a : Int32) : a ||| (0 : Int32) = a := by simp
theorem m_weakNow_l {S : sT} {n : Nat} {f : Nat → List Nat} {st : Nat → Nat} (h : RM S n f) (hM : MS S st) : ∀ (d k m : Nat) (a : Int32), k + d = n → d < m → l_X11_weakNow_4 S m a (iI k) = some ((List.range' k d).foldl (wbF st n f) a) := by
  have hn := h.1
  obtain ⟨s0, s1, s2, s3, s4, s5⟩ := m_set hM
  obtain ⟨v1, v2, v3, v4, v5, v0⟩ := v6
  have r1 := (hM 1 (by omega)).2
  have r2 := (hM 2 (by omega)).2
  have r3 := (hM 3 (by omega)).2
  intro d
  induction d with
  | zero =>
    intro k m a hk hm
    obtain ⟨m, rfl⟩ : ∃ m', m = m' + 1 := ⟨m - 1, by omega⟩
    rw [l_X11_weakNow_4_s]
    unfold b_X11_weakNow_4
    rw [h.2.1]
    simp (disch := omega) only [ck_t, lt_b, bn_s, bn2_s, jn_b, nl_N, nl_S, i_m2147483648, i_m1002, i_m10, i_m9, i_m4, i_m3, i_m2, i_m1, i_0, i_1, i_2, i_3, i_4, i_5, i_6, i_7, i_8, i_9, i_12, i_15, i_16, i_32, i_40, i_45, i_48, i_55, i_59, i_60, i_63, i_64, i_78, i_81, i_83, i_110, i_115, i_255, iI_add, iI_sub, iI_mul, iI_neg, iI_lt, iI_le, iI_eq, cl_iI, vi_iI, if_pos, if_neg, ↓reduceIte]
    rfl
  | succ d ih =>
    intro k m a hk hm
    obtain ⟨m, rfl⟩ : ∃ m', m = m' + 1 := ⟨m - 1, by omega⟩
    have b1 := h.b (c := k) (by omega)
    have g1 := h.hs_le ((k : Int) - 1)
    have g2 := h.hs_le ((k : Int) + 1)
    have b2 := ln_le (f k)
    have e := fun a => ih (k + 1) m a (by omega) (by omega)
    rw [l_X11_weakNow_4_s]
    unfold b_X11_weakNow_4
    rw [h.2.1, m_highOf h (by omega), m_beside h (by omega), List.range'_succ, List.foldl_cons]
    have ew : wk st n f k = (decide ((st 1 : Int) - st 2 < (ht (f k) : Int) - (if hs n f ((k : Int) - 1) < hs n f ((k : Int) + 1) then hs n f ((k : Int) + 1) else hs n f ((k : Int) - 1) : Nat)) || decide ((st 3 : Int) < (if 0 ≤ ln (f k) then ln (f k) else 0 - ln (f k)))) := rfl
    have hA : (if hs n f ((k : Int) - 1) < hs n f ((k : Int) + 1) then hs n f ((k : Int) + 1) else hs n f ((k : Int) - 1)) ≤ 16 := by split <;> omega
    generalize (if hs n f ((k : Int) - 1) < hs n f ((k : Int) + 1) then hs n f ((k : Int) + 1) else hs n f ((k : Int) - 1)) = A at ew hA ⊢
    have e6 : f_X11_amount (iI (ln (f k))) S = some (iI (if 0 ≤ ln (f k) then ln (f k) else 0 - ln (f k))) := by
      unfold f_X11_amount
      simp (disch := omega) only [i_0, iI_le, iI_neg]
      split
      · rfl
      · rw [Int.zero_sub]
    have hN : -16 ≤ (if 0 ≤ ln (f k) then ln (f k) else 0 - ln (f k)) ∧ (if 0 ≤ ln (f k) then ln (f k) else 0 - ln (f k)) ≤ 16 := by split <;> omega
    generalize (if 0 ≤ ln (f k) then ln (f k) else 0 - ln (f k)) = V at ew hN e6
    simp only [ck_t, lt_b, bn_s, bn2_s, jn_b, nl_N, nl_S, v1, v2, v3, s1, s2, s3, iI_sub]
    rw [if_neg (by rw [iI_le (by omega) (by omega) (by omega) (by omega)]; omega)]
    have z10 : ¬ ((1 : Int32) = 0) := by decide
    by_cases q1 : (st 1 : Int) - st 2 < (ht (f k) : Int) - A
    · rw [if_pos (by rw [iI_lt (by omega) (by omega) (by omega) (by omega)]; exact q1), if_neg z10]
      have e2 : wbF st n f a k = a ||| ((1 : Int32) <<< (iI k &&& 31)) := by unfold wbF; rw [ew, decide_eq_true q1]; rfl
      rw [e2, i_1, iI_add]
      exact e _
    · rw [if_neg (by rw [iI_lt (by omega) (by omega) (by omega) (by omega)]; exact q1), m_leanOf h (by omega), bn_s, e6, bn_s]
      by_cases q2 : (st 3 : Int) < V
      · rw [if_neg (by rw [iI_le (by omega) (by omega) (by omega) (by omega)]; omega), if_neg z10]
        have e2 : wbF st n f a k = a ||| ((1 : Int32) <<< (iI k &&& 31)) := by unfold wbF; rw [ew, decide_eq_true q2, decide_eq_false q1]; rfl
        rw [e2, i_1, iI_add]
        exact e _
      · rw [if_pos (by rw [iI_le (by omega) (by omega) (by omega) (by omega)]; omega), if_pos trivial, or_0]
        have e2 : wbF st n f a k = a := by unfold wbF; rw [ew, decide_eq_false q2, decide_eq_false q1]; rfl
        rw [e2, i_1, iI_add]
        exact e _
theorem m_weakNow {S : sT} {n : Nat} {f : Nat → List Nat} {st : Nat → Nat} (h : RM S n f) (hM : MS S st) : f_X11_weakNow S = some (wkB st n f) := by
  have hn := h.1
  unfold f_X11_weakNow
  exact m_weakNow_l h hM n 0 FU 0 (by omega) (by unfold FU; omega)
theorem m_pearsNow_l {S : sT} {n : Nat} {f : Nat → List Nat} {st : Nat → Nat} (h : RM S n f) (hM : MS S st) : ∀ (d k m a : Nat), k + d = n → d < m → a ≤ k → l_X11_pearsNow_4 S m (iI a) (iI k) = some (iI (((List.range' k d).foldl (peF st f) a : Nat) : Int)) := by
  have hn := h.1
  obtain ⟨s0, s1, s2, s3, s4, s5⟩ := m_set hM
  obtain ⟨v1, v2, v3, v4, v5, v0⟩ := v6
  have r4 := (hM 4 (by omega)).2
  intro d
  induction d with
  | zero =>
    intro k m a hk hm ha
    obtain ⟨m, rfl⟩ : ∃ m', m = m' + 1 := ⟨m - 1, by omega⟩
    rw [l_X11_pearsNow_4_s]
    unfold b_X11_pearsNow_4
    rw [h.2.1]
    simp (disch := omega) only [ck_t, lt_b, bn_s, bn2_s, jn_b, nl_N, nl_S, i_m2147483648, i_m1002, i_m10, i_m9, i_m4, i_m3, i_m2, i_m1, i_0, i_1, i_2, i_3, i_4, i_5, i_6, i_7, i_8, i_9, i_12, i_15, i_16, i_32, i_40, i_45, i_48, i_55, i_59, i_60, i_63, i_64, i_78, i_81, i_83, i_110, i_115, i_255, iI_add, iI_sub, iI_mul, iI_neg, iI_lt, iI_le, iI_eq, cl_iI, vi_iI, if_pos, if_neg, ↓reduceIte]
    rfl
  | succ d ih =>
    intro k m a hk hm ha
    obtain ⟨m, rfl⟩ : ∃ m', m = m' + 1 := ⟨m - 1, by omega⟩
    have b1 := h.b (c := k) (by omega)
    have e := fun a => ih (k + 1) m a (by omega) (by omega)
    rw [l_X11_pearsNow_4_s]
    unfold b_X11_pearsNow_4 f_X11_isIn
    rw [h.2.1, m_highOf h (by omega), List.range'_succ, List.foldl_cons]
    simp only [ck_t, lt_b, bn_s, bn2_s, jn_b, nl_N, nl_S, v4, v5, s4, s5]
    rw [if_neg (by rw [iI_le (by omega) (by omega) (by omega) (by omega)]; omega)]
    have z10 : ¬ ((1 : Int32) = 0) := by decide
    have es : sunQ st k = decide (((iI (st 5) >>> (iI k &&& 31)) &&& (1 : Int32)) = (1 : Int32)) := rfl
    by_cases q : ((iI (st 5) >>> (iI k &&& 31)) &&& (1 : Int32)) = (1 : Int32)
    · rw [if_pos q, bn_s, if_neg z10]
      rw [decide_eq_true q] at es
      by_cases q2 : ht (f k) ≤ st 4
      · rw [if_neg (by rw [iI_lt (by omega) (by omega) (by omega) (by omega)]; omega)]
        rw [show peF st f a k = a + 1 by unfold peF; rw [es, decide_eq_true q2]; rfl]
        rw [i_1, iI_add, iI_add]
        exact e (a + 1) (by omega)
      · rw [if_pos (by rw [iI_lt (by omega) (by omega) (by omega) (by omega)]; omega)]
        rw [show peF st f a k = a by unfold peF; rw [es, decide_eq_false q2]; rfl]
        rw [i_0, i_1, iI_add, iI_add, Int.add_zero]
        exact e a (by omega)
    · rw [if_neg q, bn_s, if_pos rfl]
      rw [decide_eq_false q] at es
      rw [show peF st f a k = a by unfold peF; rw [es]; rfl]
      rw [i_0, i_1, iI_add, iI_add, Int.add_zero]
      exact e a (by omega)
theorem m_pearsNow {S : sT} {n : Nat} {f : Nat → List Nat} {st : Nat → Nat} (h : RM S n f) (hM : MS S st) : f_X11_pearsNow S = some (iI (pears st n f)) := by
  have hn := h.1
  unfold f_X11_pearsNow
  exact m_pearsNow_l h hM n 0 FU 0 (by omega) (by unfold FU; omega) (by omega)
theorem m_weighs_i {S : sT} {n c who : Nat} {f : Nat → List Nat} (h : RM S n f) (hc : c < 8) (hw : who < 2) (j6 : Int32 → Option Int32) : ∀ (d k m a : Nat), k + d = (f c).length → d < m → a ≤ 1000 + 2 * k → l_X11_weighs_15 (iI who) S (iI c) j6 m (iI a) (iI k) = j6 (iI ((a + wS who ((f c).drop k) : Nat) : Int)) := by
  obtain ⟨a1, a2, a3, a4⟩ := h.2.2 c hc
  have a5 := a1.1
  intro d
  induction d with
  | zero =>
    intro k m a hk hm ha
    obtain ⟨m, rfl⟩ : ∃ m', m = m' + 1 := ⟨m - 1, by omega⟩
    rw [l_X11_weighs_15_s, List.drop_eq_nil_of_le (by omega)]
    unfold b_X11_weighs_15
    simp (disch := omega) only [ck_t, lt_b, bn_s, bn2_s, jn_b, nl_N, nl_S, i_m2147483648, i_m1002, i_m10, i_m9, i_m4, i_m3, i_m2, i_m1, i_0, i_1, i_2, i_3, i_4, i_5, i_6, i_7, i_8, i_9, i_12, i_15, i_16, i_32, i_40, i_45, i_48, i_55, i_59, i_60, i_63, i_64, i_78, i_81, i_83, i_110, i_115, i_255, iI_add, iI_sub, iI_mul, iI_neg, iI_lt, iI_le, iI_eq, cl_iI, vi_iI, if_pos, if_neg, ↓reduceIte, Int.toNat_natCast, a3]
    rfl
  | succ d ih =>
    intro k m a hk hm ha
    obtain ⟨m, rfl⟩ : ∃ m', m = m' + 1 := ⟨m - 1, by omega⟩
    have b1 := a4 k (by omega)
    have b2 := col_nth a1 (k := k) (by omega)
    have b3 := wt_le (nth (f c) k)
    rw [l_X11_weighs_15_s, drop_nth (by omega), wS_cons]
    unfold b_X11_weighs_15
    simp (disch := omega) only [ck_t, lt_b, bn_s, bn2_s, jn_b, nl_N, nl_S, i_8, i_0, i_1, iI_mul, iI_add, iI_le, vi_iI, cl_iI, if_neg, Int.toNat_natCast, a3, tN8', b1, p_weight b2, nz_2, iI_rem2]
    have e := fun a => ih (k + 1) m a (by omega) (by omega)
    by_cases q : (nth (f c) k) % 2 = who
    · rw [if_pos (by rw [q]), if_pos q]
      rw [← Nat.add_assoc]
      try simp only [iI_add]
      exact e _ (by omega)
    · rw [if_neg (by rw [iI_eq (by omega) (by omega) (by omega) (by omega)]; omega), if_neg q]
      try simp only [iI_add, Int.add_zero, Nat.zero_add]
      exact e _ (by omega)
theorem m_weighs_l {S : sT} {n who : Nat} {f : Nat → List Nat} (h : RM S n f) (hw : who < 2) : ∀ (d k m a : Nat), k + d = n → d < m → a ≤ 16 * k → l_X11_weighs_4 (iI who) S m (iI a) (iI k) = some (iI (((List.range' k d).foldl (fun a c => a + wS who (f c)) a : Nat) : Int)) := by
  have hn := h.1
  intro d
  induction d with
  | zero =>
    intro k m a hk hm ha
    obtain ⟨m, rfl⟩ : ∃ m', m = m' + 1 := ⟨m - 1, by omega⟩
    rw [l_X11_weighs_4_s]
    unfold b_X11_weighs_4
    rw [h.2.1]
    simp (disch := omega) only [ck_t, lt_b, bn_s, bn2_s, jn_b, nl_N, nl_S, i_m2147483648, i_m1002, i_m10, i_m9, i_m4, i_m3, i_m2, i_m1, i_0, i_1, i_2, i_3, i_4, i_5, i_6, i_7, i_8, i_9, i_12, i_15, i_16, i_32, i_40, i_45, i_48, i_55, i_59, i_60, i_63, i_64, i_78, i_81, i_83, i_110, i_115, i_255, iI_add, iI_sub, iI_mul, iI_neg, iI_lt, iI_le, iI_eq, cl_iI, vi_iI, if_pos, if_neg, ↓reduceIte]
    rfl
  | succ d ih =>
    intro k m a hk hm ha
    obtain ⟨m, rfl⟩ : ∃ m', m = m' + 1 := ⟨m - 1, by omega⟩
    have a5 := (h.2.2 k (by omega)).1.1
    have b3 := wS_le who (f k)
    have b4 := h.b (c := k) (by omega)
    rw [l_X11_weighs_4_s]
    unfold b_X11_weighs_4
    rw [h.2.1, List.range'_succ, List.foldl_cons]
    simp (disch := omega) only [ck_t, lt_b, bn_s, bn2_s, jn_b, nl_N, nl_S, i_m2147483648, i_m1002, i_m10, i_m9, i_m4, i_m3, i_m2, i_m1, i_0, i_1, i_2, i_3, i_4, i_5, i_6, i_7, i_8, i_9, i_12, i_15, i_16, i_32, i_40, i_45, i_48, i_55, i_59, i_60, i_63, i_64, i_78, i_81, i_83, i_110, i_115, i_255, iI_add, iI_sub, iI_mul, iI_neg, iI_lt, iI_le, iI_eq, cl_iI, vi_iI, if_pos, if_neg, ↓reduceIte]
    rw [show iI 0 = iI ((0 : Nat) : Int) from rfl, m_weighs_i h (by omega) hw _ (f k).length 0 FU a (by omega) (by unfold FU; omega) (by omega)]
    rw [List.drop_zero]
    exact ih (k + 1) m (a + wS who (f k)) (by omega) (by omega) (by omega)
theorem m_weighs {S : sT} {n who : Nat} {f : Nat → List Nat} (h : RM S n f) (hw : who < 2) : f_X11_weighs (iI who) S = some (iI (weS who n f)) := by
  have hn := h.1
  unfold f_X11_weighs
  exact m_weighs_l h hw n 0 FU 0 (by omega) (by unfold FU; omega) (by omega)
