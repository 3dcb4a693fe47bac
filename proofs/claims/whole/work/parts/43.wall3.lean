/-! walls: the loops over columns -/
def wbF (st : Nat → Nat) (n : Nat) (f : Nat → List Nat) : Int32 → Nat → Int32 := fun a c => if wk st n f c = true then a ||| ((1 : Int32) <<< (iI c &&& 31)) else a
def wkB (st : Nat → Nat) (n : Nat) (f : Nat → List Nat) : Int32 := (List.range' 0 n).foldl (wbF st n f) 0
theorem p_weakBits_l {S : sT} {w n : Nat} {f : Nat → List Nat} {st : Nat → Nat} (h : RW S w n f) (hR : RR S st) : ∀ (d k m : Nat) (a : Int32), k + d = n → d < m → l_X9_weakBits_17 w S (iI ((st 1 : Int) - st 2)) (iI (st 3)) m a (iI k) = some ((List.range' k d).foldl (wbF st n f) a) := by
  have hn := h.1
  intro d
  induction d with
  | zero =>
    intro k m a hk hm
    obtain ⟨m, rfl⟩ : ∃ m', m = m' + 1 := ⟨m - 1, by omega⟩
    rw [l_X9_weakBits_17_s]
    unfold b_X9_weakBits_17
    rw [h.2.1]
    simp (disch := omega) only [ck_t, lt_b, bn_s, bn2_s, jn_b, nl_N, nl_S, i_m2147483648, i_m1002, i_m10, i_m9, i_m4, i_m3, i_m2, i_m1, i_0, i_1, i_2, i_3, i_4, i_5, i_6, i_7, i_8, i_9, i_12, i_15, i_16, i_32, i_40, i_45, i_48, i_55, i_59, i_60, i_63, i_64, i_78, i_81, i_83, i_110, i_115, i_255, iI_add, iI_sub, iI_mul, iI_neg, iI_lt, iI_le, iI_eq, cl_iI, vi_iI, if_pos, if_neg, ↓reduceIte]
    rfl
  | succ d ih =>
    intro k m a hk hm
    obtain ⟨m, rfl⟩ : ∃ m', m = m' + 1 := ⟨m - 1, by omega⟩
    rw [l_X9_weakBits_17_s]
    unfold b_X9_weakBits_17
    rw [h.2.1, p_isWeak h hR (by omega)]
    rw [List.range'_succ, List.foldl_cons]
    have e := fun a => ih (k + 1) m a (by omega) (by omega)
    cases hw : wk st n f k
    · have e2 : wbF st n f a k = a := by unfold wbF; rw [hw]; rfl
      rw [e2]
      simp (disch := omega) only [ck_t, lt_b, bn_s, bn2_s, jn_b, nl_N, nl_S, i_m2147483648, i_m1002, i_m10, i_m9, i_m4, i_m3, i_m2, i_m1, i_0, i_1, i_2, i_3, i_4, i_5, i_6, i_7, i_8, i_9, i_12, i_15, i_16, i_32, i_40, i_45, i_48, i_55, i_59, i_60, i_63, i_64, i_78, i_81, i_83, i_110, i_115, i_255, iI_add, iI_sub, iI_mul, iI_neg, iI_lt, iI_le, iI_eq, cl_iI, vi_iI, if_pos, if_neg, ↓reduceIte, b2i_f]
      exact e a
    · have e2 : wbF st n f a k = a ||| ((1 : Int32) <<< (iI k &&& 31)) := by unfold wbF; rw [hw]; rfl
      rw [e2, i_1]
      simp (disch := omega) only [ck_t, lt_b, bn_s, bn2_s, jn_b, nl_N, nl_S, i_m2147483648, i_m1002, i_m10, i_m9, i_m4, i_m3, i_m2, i_m1, i_0, i_1, i_2, i_3, i_4, i_5, i_6, i_7, i_8, i_9, i_12, i_15, i_16, i_32, i_40, i_45, i_48, i_55, i_59, i_60, i_63, i_64, i_78, i_81, i_83, i_110, i_115, i_255, iI_add, iI_sub, iI_mul, iI_neg, iI_lt, iI_le, iI_eq, cl_iI, vi_iI, if_pos, if_neg, ↓reduceIte, b2i_t]
      exact e _
theorem p_weakBits {S : sT} {w n : Nat} {f : Nat → List Nat} {st : Nat → Nat} (h : RW S w n f) (hR : RR S st) : f_X9_weakBits w S = some (wkB st n f) := by
  have hn := h.1
  unfold f_X9_weakBits
  rw [p_mostAbove hR, bn_s, i_3, show iI 3 = iI (3 : Nat) from rfl, p_value hR (by omega), bn_s]
  exact p_weakBits_l h hR n 0 FU 0 (by omega) (by unfold FU; omega)
def sunQ (st : Nat → Nat) (c : Nat) : Bool := decide (((iI (st 5) >>> (iI c &&& 31)) &&& (1 : Int32)) = (1 : Int32))
def peF (st : Nat → Nat) (f : Nat → List Nat) : Nat → Nat → Nat := fun a c => if (sunQ st c && decide (ht (f c) ≤ st 4)) = true then a + 1 else a
def pears (st : Nat → Nat) (n : Nat) (f : Nat → List Nat) : Nat := (List.range' 0 n).foldl (peF st f) 0
theorem peF_le (st : Nat → Nat) (f : Nat → List Nat) : ∀ (d k a : Nat), (List.range' k d).foldl (peF st f) a ≤ a + d := by
  intro d
  induction d with
  | zero => intro k a; simp
  | succ d ih =>
    intro k a
    rw [List.range'_succ, List.foldl_cons]
    have h1 := ih (k + 1) (peF st f a k)
    have h2 : peF st f a k ≤ a + 1 := by unfold peF; split <;> omega
    omega
theorem pears_le (st : Nat → Nat) (n : Nat) (f : Nat → List Nat) : pears st n f ≤ n := by
  have := peF_le st f n 0 0
  unfold pears; omega
theorem p_wantsSun {S : sT} {st : Nat → Nat} (hR : RR S st) (c : Nat) : f_X3_wantsSun (iI c) S = some (iI (b2i (sunQ st c))) := by
  unfold f_X3_wantsSun sunQ
  rw [i_5, show iI 5 = iI (5 : Nat) from rfl, p_value hR (by omega), bn_s]
  split
  · rename_i q; rw [decide_eq_true q]; rfl
  · rename_i q; rw [decide_eq_false q]; rfl
theorem p_sunny_l {S : sT} {w n : Nat} {f : Nat → List Nat} {st : Nat → Nat} (h : RW S w n f) (hR : RR S st) : ∀ (d k m a : Nat), k + d = n → d < m → a ≤ k → l_X9_sunny_11 w S (iI (st 4)) m (iI a) (iI k) = some (iI (((List.range' k d).foldl (peF st f) a : Nat) : Int)) := by
  have hn := h.1
  have r4 := (hR 4 (by omega)).2
  intro d
  induction d with
  | zero =>
    intro k m a hk hm ha
    obtain ⟨m, rfl⟩ : ∃ m', m = m' + 1 := ⟨m - 1, by omega⟩
    rw [l_X9_sunny_11_s]
    unfold b_X9_sunny_11
    rw [h.2.1]
    simp (disch := omega) only [ck_t, lt_b, bn_s, bn2_s, jn_b, nl_N, nl_S, i_m2147483648, i_m1002, i_m10, i_m9, i_m4, i_m3, i_m2, i_m1, i_0, i_1, i_2, i_3, i_4, i_5, i_6, i_7, i_8, i_9, i_12, i_15, i_16, i_32, i_40, i_45, i_48, i_55, i_59, i_60, i_63, i_64, i_78, i_81, i_83, i_110, i_115, i_255, iI_add, iI_sub, iI_mul, iI_neg, iI_lt, iI_le, iI_eq, cl_iI, vi_iI, if_pos, if_neg, ↓reduceIte]
    rfl
  | succ d ih =>
    intro k m a hk hm ha
    obtain ⟨m, rfl⟩ : ∃ m', m = m' + 1 := ⟨m - 1, by omega⟩
    rw [l_X9_sunny_11_s]
    unfold b_X9_sunny_11
    have b1 := ht_le (f k)
    have b2 := (h.2.2 k (by omega)).1.1
    rw [h.2.1, p_wantsSun hR, p_heightOf_in h (by omega)]
    rw [List.range'_succ, List.foldl_cons]
    have e := fun a => ih (k + 1) m a (by omega) (by omega)
    cases hw : sunQ st k
    · have e2 : peF st f a k = a := by unfold peF; rw [hw]; rfl
      rw [e2]
      simp (disch := omega) only [ck_t, lt_b, bn_s, bn2_s, jn_b, nl_N, nl_S, i_m2147483648, i_m1002, i_m10, i_m9, i_m4, i_m3, i_m2, i_m1, i_0, i_1, i_2, i_3, i_4, i_5, i_6, i_7, i_8, i_9, i_12, i_15, i_16, i_32, i_40, i_45, i_48, i_55, i_59, i_60, i_63, i_64, i_78, i_81, i_83, i_110, i_115, i_255, iI_add, iI_sub, iI_mul, iI_neg, iI_lt, iI_le, iI_eq, cl_iI, vi_iI, if_pos, if_neg, ↓reduceIte, b2i_f]
      exact e a (by omega)
    · by_cases q : ht (f k) ≤ st 4
      · have e2 : peF st f a k = a + 1 := by unfold peF; rw [hw, decide_eq_true q]; rfl
        rw [e2]
        simp (disch := omega) only [ck_t, lt_b, bn_s, bn2_s, jn_b, nl_N, nl_S, i_m2147483648, i_m1002, i_m10, i_m9, i_m4, i_m3, i_m2, i_m1, i_0, i_1, i_2, i_3, i_4, i_5, i_6, i_7, i_8, i_9, i_12, i_15, i_16, i_32, i_40, i_45, i_48, i_55, i_59, i_60, i_63, i_64, i_78, i_81, i_83, i_110, i_115, i_255, iI_add, iI_sub, iI_mul, iI_neg, iI_lt, iI_le, iI_eq, cl_iI, vi_iI, if_pos, if_neg, ↓reduceIte, b2i_t]
        exact e (a + 1) (by omega)
      · have e2 : peF st f a k = a := by unfold peF; rw [hw, decide_eq_false q]; rfl
        rw [e2]
        simp (disch := omega) only [ck_t, lt_b, bn_s, bn2_s, jn_b, nl_N, nl_S, i_m2147483648, i_m1002, i_m10, i_m9, i_m4, i_m3, i_m2, i_m1, i_0, i_1, i_2, i_3, i_4, i_5, i_6, i_7, i_8, i_9, i_12, i_15, i_16, i_32, i_40, i_45, i_48, i_55, i_59, i_60, i_63, i_64, i_78, i_81, i_83, i_110, i_115, i_255, iI_add, iI_sub, iI_mul, iI_neg, iI_lt, iI_le, iI_eq, cl_iI, vi_iI, if_pos, if_neg, ↓reduceIte, b2i_t]
        exact e a (by omega)
theorem p_sunny {S : sT} {w n : Nat} {f : Nat → List Nat} {st : Nat → Nat} (h : RW S w n f) (hR : RR S st) : f_X9_sunny w S = some (iI (pears st n f)) := by
  have hn := h.1
  unfold f_X9_sunny
  rw [i_4, show iI 4 = iI (4 : Nat) from rfl, p_value hR (by omega), bn_s]
  exact p_sunny_l h hR n 0 FU 0 (by omega) (by unfold FU; omega) (by omega)
/-- what the stones of a brother weigh -/
def wS (who : Nat) (l : List Nat) : Nat := (l.map (fun x => if x % 2 = who then wt x else 0)).sum
theorem wS_0 (l : List Nat) : (ht l : Int) + ln l = 2 * wS 0 l := by
  induction l with
  | nil => rfl
  | cons a l ih =>
    have h2 : ht (a :: l) = wt a + ht l := by simp [ht]
    have h3 : ln (a :: l) = pl a + ln l := by simp [ln]
    have h4 : wS 0 (a :: l) = (if a % 2 = 0 then wt a else 0) + wS 0 l := by simp [wS]
    rw [h2, h3, h4]
    unfold pl
    split <;> omega
theorem wS_1 (l : List Nat) : (ht l : Int) - ln l = 2 * wS 1 l := by
  induction l with
  | nil => rfl
  | cons a l ih =>
    have h2 : ht (a :: l) = wt a + ht l := by simp [ht]
    have h3 : ln (a :: l) = pl a + ln l := by simp [ln]
    have h4 : wS 1 (a :: l) = (if a % 2 = 1 then wt a else 0) + wS 1 l := by simp [wS]
    rw [h2, h3, h4]
    unfold pl
    split
    · rw [if_neg (by omega)]; omega
    · rw [if_pos (by omega)]; omega
theorem wS_le (who : Nat) (l : List Nat) : wS who l ≤ ht l := by
  induction l with
  | nil => simp [wS, ht]
  | cons a l ih =>
    have h2 : ht (a :: l) = wt a + ht l := by simp [ht]
    have h4 : wS who (a :: l) = (if a % 2 = who then wt a else 0) + wS who l := by simp [wS]
    rw [h2, h4]
    split <;> omega
def weS (who n : Nat) (f : Nat → List Nat) : Nat := (List.range' 0 n).foldl (fun a c => a + wS who (f c)) 0
theorem iI_div2 {a : Nat} (h : a < 2147483648) : iI a / (2 : Int32) = iI (a / 2 : Nat) := pk_div (a := a) (d := 2) h (by omega) (by omega)
theorem p_weightOf_l {S : sT} {w n who : Nat} {f : Nat → List Nat} (h : RW S w n f) (hwho : who < 2) : ∀ (d k m a : Nat), k + d = n → d < m → a ≤ 16 * k → l_X9_weightOf_4 w (iI who) S m (iI a) (iI k) = some (iI (((List.range' k d).foldl (fun a c => a + wS who (f c)) a : Nat) : Int)) := by
  have hn := h.1
  intro d
  induction d with
  | zero =>
    intro k m a hk hm ha
    obtain ⟨m, rfl⟩ : ∃ m', m = m' + 1 := ⟨m - 1, by omega⟩
    rw [l_X9_weightOf_4_s]
    unfold b_X9_weightOf_4
    rw [h.2.1]
    simp (disch := omega) only [ck_t, lt_b, bn_s, bn2_s, jn_b, nl_N, nl_S, i_m2147483648, i_m1002, i_m10, i_m9, i_m4, i_m3, i_m2, i_m1, i_0, i_1, i_2, i_3, i_4, i_5, i_6, i_7, i_8, i_9, i_12, i_15, i_16, i_32, i_40, i_45, i_48, i_55, i_59, i_60, i_63, i_64, i_78, i_81, i_83, i_110, i_115, i_255, iI_add, iI_sub, iI_mul, iI_neg, iI_lt, iI_le, iI_eq, cl_iI, vi_iI, if_pos, if_neg, ↓reduceIte]
    rfl
  | succ d ih =>
    intro k m a hk hm ha
    obtain ⟨m, rfl⟩ : ∃ m', m = m' + 1 := ⟨m - 1, by omega⟩
    rw [l_X9_weightOf_4_s]
    unfold b_X9_weightOf_4
    have b1 := ht_le (f k)
    have b2 := (h.2.2 k (by omega)).1.1
    have b3 := wS_le who (f k)
    rw [h.2.1, p_heightOf_in h (by omega), p_leanOf_in h (by omega)]
    rw [List.range'_succ, List.foldl_cons]
    have nz2 : nz (2 : Int32) = true := by decide
    have e := ih (k + 1) m (a + wS who (f k)) (by omega) (by omega) (by omega)
    rcases (show who = 0 ∨ who = 1 by omega) with rfl | rfl
    · have e1 := wS_0 (f k)
      simp (disch := omega) only [ck_t, lt_b, bn_s, bn2_s, jn_b, nl_N, nl_S, i_0, i_1, iI_le, iI_eq, iI_add, iI_sub, if_pos, if_neg, nz2]
      rw [e1, show (2 * (wS 0 (f k) : Int)) = ((2 * wS 0 (f k) : Nat) : Int) by omega, iI_div2 (by omega), iI_add, show (2 * wS 0 (f k)) / 2 = wS 0 (f k) by omega]
      exact e
    · have e1 := wS_1 (f k)
      simp (disch := omega) only [ck_t, lt_b, bn_s, bn2_s, jn_b, nl_N, nl_S, i_0, i_1, iI_le, iI_eq, iI_add, iI_sub, if_pos, if_neg, nz2]
      rw [e1, show (2 * (wS 1 (f k) : Int)) = ((2 * wS 1 (f k) : Nat) : Int) by omega, iI_div2 (by omega), iI_add, show (2 * wS 1 (f k)) / 2 = wS 1 (f k) by omega]
      exact e
theorem p_weightOfW {S : sT} {w n who : Nat} {f : Nat → List Nat} (h : RW S w n f) (hwho : who < 2) : f_X9_weightOf w (iI who) S = some (iI (weS who n f)) := by
  have hn := h.1
  unfold f_X9_weightOf
  exact p_weightOf_l h hwho n 0 FU 0 (by omega) (by unfold FU; omega) (by omega)
def cntS (n : Nat) (f : Nat → List Nat) : Nat := (List.range' 0 n).foldl (fun a c => a + (f c).length) 0
theorem p_stoneCount_l {S : sT} {w n : Nat} {f : Nat → List Nat} (h : RW S w n f) : ∀ (d k m a : Nat), k + d = n → d < m → a ≤ 8 * k → l_X9_stoneCount_4 w S m (iI a) (iI k) = some (iI (((List.range' k d).foldl (fun a c => a + (f c).length) a : Nat) : Int)) := by
  have hn := h.1
  intro d
  induction d with
  | zero =>
    intro k m a hk hm ha
    obtain ⟨m, rfl⟩ : ∃ m', m = m' + 1 := ⟨m - 1, by omega⟩
    rw [l_X9_stoneCount_4_s]
    unfold b_X9_stoneCount_4
    rw [h.2.1]
    simp (disch := omega) only [ck_t, lt_b, bn_s, bn2_s, jn_b, nl_N, nl_S, i_m2147483648, i_m1002, i_m10, i_m9, i_m4, i_m3, i_m2, i_m1, i_0, i_1, i_2, i_3, i_4, i_5, i_6, i_7, i_8, i_9, i_12, i_15, i_16, i_32, i_40, i_45, i_48, i_55, i_59, i_60, i_63, i_64, i_78, i_81, i_83, i_110, i_115, i_255, iI_add, iI_sub, iI_mul, iI_neg, iI_lt, iI_le, iI_eq, cl_iI, vi_iI, if_pos, if_neg, ↓reduceIte]
    rfl
  | succ d ih =>
    intro k m a hk hm ha
    obtain ⟨m, rfl⟩ : ∃ m', m = m' + 1 := ⟨m - 1, by omega⟩
    rw [l_X9_stoneCount_4_s]
    unfold b_X9_stoneCount_4
    have b2 := (h.2.2 k (by omega)).1.1
    rw [h.2.1, p_sizeOf_in h (by omega)]
    rw [List.range'_succ, List.foldl_cons]
    simp (disch := omega) only [ck_t, lt_b, bn_s, bn2_s, jn_b, nl_N, nl_S, i_m2147483648, i_m1002, i_m10, i_m9, i_m4, i_m3, i_m2, i_m1, i_0, i_1, i_2, i_3, i_4, i_5, i_6, i_7, i_8, i_9, i_12, i_15, i_16, i_32, i_40, i_45, i_48, i_55, i_59, i_60, i_63, i_64, i_78, i_81, i_83, i_110, i_115, i_255, iI_add, iI_sub, iI_mul, iI_neg, iI_lt, iI_le, iI_eq, cl_iI, vi_iI, if_pos, if_neg, ↓reduceIte]
    exact ih (k + 1) m (a + (f k).length) (by omega) (by omega) (by omega)
theorem p_stoneCount {S : sT} {w n : Nat} {f : Nat → List Nat} (h : RW S w n f) : f_X9_stoneCount w S = some (iI (cntS n f)) := by
  have hn := h.1
  unfold f_X9_stoneCount
  exact p_stoneCount_l h n 0 FU 0 (by omega) (by unfold FU; omega) (by omega)
def hiF (f : Nat → List Nat) : Nat → Nat → Nat := fun b c => if ht (f b) < ht (f c) then c else b
def hiC (n : Nat) (f : Nat → List Nat) : Int := if n = 0 then -1 else ((List.range' 1 (n - 1)).foldl (hiF f) 0 : Nat)
theorem p_highest_l {S : sT} {w n : Nat} {f : Nat → List Nat} (h : RW S w n f) : ∀ (d k m b : Nat), k + d = n → d < m → b < k → l_X9_highestColumn_15 w S m (iI b) (iI k) = some (iI (((List.range' k d).foldl (hiF f) b : Nat) : Int)) := by
  have hn := h.1
  intro d
  induction d with
  | zero =>
    intro k m b hk hm hb
    obtain ⟨m, rfl⟩ : ∃ m', m = m' + 1 := ⟨m - 1, by omega⟩
    rw [l_X9_highestColumn_15_s]
    unfold b_X9_highestColumn_15
    rw [h.2.1]
    simp (disch := omega) only [ck_t, lt_b, bn_s, bn2_s, jn_b, nl_N, nl_S, i_m2147483648, i_m1002, i_m10, i_m9, i_m4, i_m3, i_m2, i_m1, i_0, i_1, i_2, i_3, i_4, i_5, i_6, i_7, i_8, i_9, i_12, i_15, i_16, i_32, i_40, i_45, i_48, i_55, i_59, i_60, i_63, i_64, i_78, i_81, i_83, i_110, i_115, i_255, iI_add, iI_sub, iI_mul, iI_neg, iI_lt, iI_le, iI_eq, cl_iI, vi_iI, if_pos, if_neg, ↓reduceIte]
    rfl
  | succ d ih =>
    intro k m b hk hm hb
    obtain ⟨m, rfl⟩ : ∃ m', m = m' + 1 := ⟨m - 1, by omega⟩
    rw [l_X9_highestColumn_15_s]
    unfold b_X9_highestColumn_15
    have b1 := ht_le (f k)
    have b2 := (h.2.2 k (by omega)).1.1
    have b3 := ht_le (f b)
    have b4 := (h.2.2 b (by omega)).1.1
    rw [h.2.1, p_heightOf_in h (by omega), p_heightOf_in h (c := b) (by omega)]
    rw [List.range'_succ, List.foldl_cons]
    by_cases q : ht (f b) < ht (f k)
    · rw [show hiF f b k = k by unfold hiF; rw [if_pos q]]
      simp (disch := omega) only [ck_t, lt_b, bn_s, bn2_s, jn_b, nl_N, nl_S, i_m2147483648, i_m1002, i_m10, i_m9, i_m4, i_m3, i_m2, i_m1, i_0, i_1, i_2, i_3, i_4, i_5, i_6, i_7, i_8, i_9, i_12, i_15, i_16, i_32, i_40, i_45, i_48, i_55, i_59, i_60, i_63, i_64, i_78, i_81, i_83, i_110, i_115, i_255, iI_add, iI_sub, iI_mul, iI_neg, iI_lt, iI_le, iI_eq, cl_iI, vi_iI, if_pos, if_neg, ↓reduceIte]
      exact ih (k + 1) m k (by omega) (by omega) (by omega)
    · rw [show hiF f b k = b by unfold hiF; rw [if_neg q]]
      simp (disch := omega) only [ck_t, lt_b, bn_s, bn2_s, jn_b, nl_N, nl_S, i_m2147483648, i_m1002, i_m10, i_m9, i_m4, i_m3, i_m2, i_m1, i_0, i_1, i_2, i_3, i_4, i_5, i_6, i_7, i_8, i_9, i_12, i_15, i_16, i_32, i_40, i_45, i_48, i_55, i_59, i_60, i_63, i_64, i_78, i_81, i_83, i_110, i_115, i_255, iI_add, iI_sub, iI_mul, iI_neg, iI_lt, iI_le, iI_eq, cl_iI, vi_iI, if_pos, if_neg, ↓reduceIte]
      exact ih (k + 1) m b (by omega) (by omega) (by omega)
theorem p_highest {S : sT} {w n : Nat} {f : Nat → List Nat} (h : RW S w n f) : f_X9_highestColumn w S = some (iI (hiC n f)) := by
  have hn := h.1
  unfold f_X9_highestColumn hiC
  rw [h.2.1]
  by_cases q : n = 0
  · subst q
    have e : l_X9_highestColumn_15 w S FU (iI (-1)) (iI 1) = some (iI (-1)) := by
      rw [FU_s, l_X9_highestColumn_15_s]
      unfold b_X9_highestColumn_15
      rw [h.2.1]
      simp (disch := omega) only [ck_t, lt_b, bn_s, bn2_s, jn_b, nl_N, nl_S, i_m2147483648, i_m1002, i_m10, i_m9, i_m4, i_m3, i_m2, i_m1, i_0, i_1, i_2, i_3, i_4, i_5, i_6, i_7, i_8, i_9, i_12, i_15, i_16, i_32, i_40, i_45, i_48, i_55, i_59, i_60, i_63, i_64, i_78, i_81, i_83, i_110, i_115, i_255, iI_add, iI_sub, iI_mul, iI_neg, iI_lt, iI_le, iI_eq, cl_iI, vi_iI, if_pos, if_neg, ↓reduceIte]
    simp (disch := omega) only [ck_t, lt_b, bn_s, bn2_s, jn_b, nl_N, nl_S, i_m2147483648, i_m1002, i_m10, i_m9, i_m4, i_m3, i_m2, i_m1, i_0, i_1, i_2, i_3, i_4, i_5, i_6, i_7, i_8, i_9, i_12, i_15, i_16, i_32, i_40, i_45, i_48, i_55, i_59, i_60, i_63, i_64, i_78, i_81, i_83, i_110, i_115, i_255, iI_add, iI_sub, iI_mul, iI_neg, iI_lt, iI_le, iI_eq, cl_iI, vi_iI, if_pos, if_neg, ↓reduceIte]
    exact e
  · have e := p_highest_l h (n - 1) 1 FU 0 (by omega) (by unfold FU; omega) (by omega)
    rw [if_neg q]
    simp (disch := omega) only [ck_t, lt_b, bn_s, bn2_s, jn_b, nl_N, nl_S, i_m2147483648, i_m1002, i_m10, i_m9, i_m4, i_m3, i_m2, i_m1, i_0, i_1, i_2, i_3, i_4, i_5, i_6, i_7, i_8, i_9, i_12, i_15, i_16, i_32, i_40, i_45, i_48, i_55, i_59, i_60, i_63, i_64, i_78, i_81, i_83, i_110, i_115, i_255, iI_add, iI_sub, iI_mul, iI_neg, iI_lt, iI_le, iI_eq, cl_iI, vi_iI, if_pos, if_neg, ↓reduceIte]
    exact e
