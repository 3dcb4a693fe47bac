/-! sights -/
def PG : Nat → Nat → Prop := fun k i => KG k i
/-- only sights change -/
theorem Inv.sg {S S' : sT} {sg : List (Nat × Nat × Nat)} (h : Inv S) (F : Fr PG S S') (g : SG S' sg) : Inv S' := by
  obtain ⟨L, st, sg0, h1, h2, h3, h4, h5⟩ := h
  refine ⟨L, st, sg, h1.fr F (fun k i z => by unfold KC at z; unfold PG KG; omega), h2.fr F (fun k i z => by unfold KM at z; unfold PG KG; omega), g, h4.fr F (fun k i z => by unfold KH at z; unfold PG KG; omega), ?_⟩
  rw [F.1 _ _ (by unfold PG KG; omega), F.1 _ _ (by unfold PG KG; omega)]
  exact h5
theorem T_16 : St_16 Inv := by
  intro S hI
  obtain ⟨L, st, sg, h1, h2, h3, h4, h5⟩ := id hI
  refine ⟨iI sg.length, us S 110 0 0 (0 : Int32), us (us S 110 0 0 (0 : Int32)) 121 0 0 (0 : Int32), ?_, ?_, hI.sg (sg := []) ((Fr.us (by unfold PG KG; omega)).tr (Fr.us (by unfold PG KG; omega))) ⟨by simp, by rw [us_ne (by omega), us_same]; rfl, by rw [us_same]; rfl, fun j hj => absurd hj (by simp)⟩⟩
  · unfold f_X10_forget f_X6_size f_X6_clear
    rw [h3.2.1]
    rfl
  · unfold f_X11_forget
    rw [us_ne (f' := 121) (by omega), h3.2.2.1]
    rfl
theorem sq_l {sg : List (Nat × Nat × Nat)} {q : Nat × Nat × Nat} {j : Nat} (h : j < sg.length) : sq (sg ++ [q]) j = sq sg j := by
  unfold sq
  rw [List.getD_eq_getElem?_getD, List.getD_eq_getElem?_getD, List.getElem?_append_left h]
theorem sq_r {sg : List (Nat × Nat × Nat)} {q : Nat × Nat × Nat} : sq (sg ++ [q]) sg.length = q := by
  unfold sq
  rw [List.getD_eq_getElem?_getD, List.getElem?_append_right (by omega)]
  simp
theorem p_allows6 {a b c : Int} (S : sT) (a1 : -2147483648 ≤ a) (a2 : a < 2147483648) (b1 : -2147483648 ≤ b) (b2 : b < 2147483648) (c1 : -2147483648 ≤ c) (c2 : c < 2147483648) : f_X6_allows (iI a) (iI b) (iI c) S = some (iI (b2i (decide ((0 ≤ a ∧ a ≤ 12) ∧ (0 ≤ b ∧ b ≤ 7) ∧ (0 ≤ c ∧ c ≤ 16))))) := by
  have z10' : ¬ (iI 1 = (0 : Int32)) := z10
  have z00 : iI 0 = (0 : Int32) := rfl
  unfold f_X6_allows
  rw [show f_X10_within (iI a) (0 : Int32) (12 : Int32) S = _ from p_within (a := 0) (b := 12) S a1 a2 (by omega) (by omega) (by omega) (by omega), bn_s]
  by_cases q1 : 0 ≤ a ∧ a ≤ 12
  · rw [b2i_p q1, if_neg z10', show f_X10_within (iI b) (0 : Int32) (7 : Int32) S = _ from p_within (a := 0) (b := 7) S b1 b2 (by omega) (by omega) (by omega) (by omega), bn_s]
    by_cases q2 : 0 ≤ b ∧ b ≤ 7
    · rw [b2i_p q2, if_neg z10', show f_X10_within (iI c) (0 : Int32) (16 : Int32) S = _ from p_within (a := 0) (b := 16) S c1 c2 (by omega) (by omega) (by omega) (by omega), bn_s]
      by_cases q3 : 0 ≤ c ∧ c ≤ 16
      · rw [b2i_p q3, if_neg z10', b2i_p ⟨q1, q2, q3⟩]; rfl
      · rw [b2i_n q3, if_pos z00, b2i_n (fun w => q3 w.2.2)]; rfl
    · rw [b2i_n q2, if_pos z00, b2i_n (fun w => q2 w.2.1)]; rfl
  · rw [b2i_n q1, if_pos z00, b2i_n (fun w => q1 w.1)]; rfl
/-- the state after a sight is added, in both -/
def add6 (S : sT) (n : Nat) (q : Nat × Nat × Nat) : sT := us (us (us (us S 22 0 n (iI q.1)) 23 0 n (iI q.2.1)) 24 0 n (iI q.2.2)) 110 0 0 (iI ((n : Int) + 1))
def add11 (S : sT) (n : Nat) (q : Nat × Nat × Nat) : sT := us (us (us (us S 46 0 (3 * n) (iI q.1)) 46 0 (3 * n + 1) (iI q.2.1)) 46 0 (3 * n + 2) (iI q.2.2)) 121 0 0 (iI ((n : Int) + 1))
theorem add_sg {S : sT} {sg : List (Nat × Nat × Nat)} {q : Nat × Nat × Nat} (h : SG S sg) (hl : sg.length < 8) (hq : q.1 ≤ 12 ∧ q.2.1 ≤ 7 ∧ q.2.2 ≤ 16) : Fr PG S (add11 (add6 S sg.length q) sg.length q) ∧ SG (add11 (add6 S sg.length q) sg.length q) (sg ++ [q]) := by
  refine ⟨?_, by rw [List.length_append, List.length_singleton]; omega, ?_, ?_, fun j hj => ?_⟩
  · unfold add11 add6
    exact (((((((Fr.us (by unfold PG KG; omega)).tr (Fr.us (by unfold PG KG; omega))).tr (Fr.us (by unfold PG KG; omega))).tr (Fr.us (by unfold PG KG; omega))).tr (Fr.us (by unfold PG KG; omega))).tr (Fr.us (by unfold PG KG; omega))).tr (Fr.us (by unfold PG KG; omega))).tr (Fr.us (by unfold PG KG; omega))
  · unfold add11 add6
    simp (disch := omega) only [us_ne, us_same, List.length_append, List.length_singleton]
    rfl
  · unfold add11 add6
    simp (disch := omega) only [us_ne, us_same, List.length_append, List.length_singleton]
    rfl
  · rw [List.length_append, List.length_singleton] at hj
    by_cases e : j = sg.length
    · subst e
      rw [sq_r]
      unfold add11 add6
      simp (disch := omega) only [us_ne, us_nb, us_same, and_true, true_and]
      exact hq
    · rw [sq_l (by omega)]
      have g := h.2.2.2 j (by omega)
      unfold add11 add6
      simp (disch := omega) only [us_ne, us_nb]
      exact g
theorem p_add6 {S : sT} {sg : List (Nat × Nat × Nat)} {q : Nat × Nat × Nat} (h : SG S sg) (hl : sg.length < 8) : f_X6_add (iI q.1) (iI q.2.1) (iI q.2.2) S = some (add6 S sg.length q) := by
  unfold f_X6_add add6
  rw [h.2.1, if_neg (by rw [i_0, iI_lt (by omega) (by omega) (by omega) (by omega)]; omega), if_neg (by rw [i_8, iI_le (by omega) (by omega) (by omega) (by omega)]; omega), vi_iI (by omega) (by omega) (by omega), ck_t, cl_iI (by omega) (by omega), Int.toNat_natCast]
  simp (disch := omega) only [ck_t, lt_b, bn_s, bn2_s, jn_b, nl_N, nl_S, i_m2147483648, i_m1002, i_m10, i_m9, i_m4, i_m3, i_m2, i_m1, i_0, i_1, i_2, i_3, i_4, i_5, i_6, i_7, i_8, i_9, i_12, i_15, i_16, i_32, i_40, i_45, i_48, i_55, i_59, i_60, i_63, i_64, i_78, i_81, i_83, i_110, i_115, i_255, iI_add, iI_sub, iI_mul, iI_neg, iI_lt, iI_le, iI_eq, cl_iI, vi_iI, us_ne, h.2.1, Int.toNat_natCast]
theorem T_15 : St_15 Inv := by
  intro S hI v1 v2 v3
  obtain ⟨a, a1, a2, rfl⟩ := iI_ex v1
  obtain ⟨b, b1, b2, rfl⟩ := iI_ex v2
  obtain ⟨c, c1, c2, rfl⟩ := iI_ex v3
  have z10' : ¬ (iI 1 = (0 : Int32)) := z10
  have z00 : iI 0 = (0 : Int32) := rfl
  have l12 : (12 : Int64) = lI 12 := by decide
  have l7 : (7 : Int64) = lI 7 := by decide
  have l16 : (16 : Int64) = lI 16 := by decide
  obtain ⟨L, st, sg, h1, h2, h3, h4, h5⟩ := id hI
  have h8 := h3.1
  unfold f_X10_seen f_X11_seen
  rw [p_allows6 S a1 a2 b1 b2 c1 c2, bn_s, l_0, l12, l7, l16]
  by_cases q1 : 0 ≤ a ∧ a ≤ 12
  · by_cases q2 : 0 ≤ b ∧ b ≤ 7
    · by_cases q3 : 0 ≤ c ∧ c ≤ 16
      · rw [b2i_p ⟨q1, q2, q3⟩, if_neg z10']
        by_cases q4 : sg.length < 8
        · have eF : f_X6_isFull S = some (0 : Int32) := by
            unfold f_X6_isFull
            rw [h3.2.1, if_pos (by rw [i_8, iI_lt (by omega) (by omega) (by omega) (by omega)]; omega)]
          obtain ⟨a, rfl⟩ : ∃ n : Nat, a = n := ⟨a.toNat, by omega⟩
          obtain ⟨b, rfl⟩ : ∃ n : Nat, b = n := ⟨b.toNat, by omega⟩
          obtain ⟨c, rfl⟩ : ∃ n : Nat, c = n := ⟨c.toNat, by omega⟩
          obtain ⟨g1, g2⟩ := add_sg (q := (a, b, c)) h3 q4 (by simp only; omega)
          refine ⟨iI ((sg.length : Int) + 1), add6 S sg.length (a, b, c), add11 (add6 S sg.length (a, b, c)) sg.length (a, b, c), ?_, ?_, hI.sg g1 g2⟩
          · have e := p_add6 (q := (a, b, c)) h3 q4
            simp only at e
            rw [eF, bn_s, if_pos rfl, e, bn_s]
            unfold f_X6_size
            rw [bn_s, show (add6 S sg.length (a, b, c)).1 110 0 0 = iI ((sg.length : Int) + 1) from us_same]
          · have e0 : (add6 S sg.length (a, b, c)).1 121 0 0 = iI sg.length := by
              unfold add6
              simp (disch := omega) only [us_ne, h3.2.2.1]
            rw [m_in2 _ a1 a2 (by omega) (by omega) (by omega) (by omega), bn_s, b2i_p q1, if_neg z10', m_in2 _ b1 b2 (by omega) (by omega) (by omega) (by omega), bn_s, b2i_p q2, if_neg z10', m_in2 _ c1 c2 (by omega) (by omega) (by omega) (by omega), bn_s, b2i_p q3, if_neg z10', e0, if_neg (by rw [i_8, iI_eq (by omega) (by omega) (by omega) (by omega)]; omega)]
            have t1 : (3 * (sg.length : Int)).toNat = 3 * sg.length := by omega
            have t2 : (3 * (sg.length : Int) + 1).toNat = 3 * sg.length + 1 := by omega
            have t3 : (3 * (sg.length : Int) + 2).toNat = 3 * sg.length + 2 := by omega
            simp (disch := omega) only [ck_t, lt_b, bn_s, bn2_s, jn_b, nl_N, nl_S, i_m2147483648, i_m1002, i_m10, i_m9, i_m4, i_m3, i_m2, i_m1, i_0, i_1, i_2, i_3, i_4, i_5, i_6, i_7, i_8, i_9, i_12, i_15, i_16, i_32, i_40, i_45, i_48, i_55, i_59, i_60, i_63, i_64, i_78, i_81, i_83, i_110, i_115, i_255, iI_add, iI_sub, iI_mul, iI_neg, iI_lt, iI_le, iI_eq, cl_iI, vi_iI, us_ne, e0, t1, t2, t3, us_same]
            rfl
        · have eF : f_X6_isFull S = some (1 : Int32) := by
            unfold f_X6_isFull
            rw [h3.2.1, if_neg (by rw [i_8, iI_lt (by omega) (by omega) (by omega) (by omega)]; omega)]
          refine ⟨(-4 : Int32), S, S, by rw [eF, bn_s, if_neg z10], ?_, hI⟩
          rw [m_in2 _ a1 a2 (by omega) (by omega) (by omega) (by omega), bn_s, b2i_p q1, if_neg z10', m_in2 _ b1 b2 (by omega) (by omega) (by omega) (by omega), bn_s, b2i_p q2, if_neg z10', m_in2 _ c1 c2 (by omega) (by omega) (by omega) (by omega), bn_s, b2i_p q3, if_neg z10', h3.2.2.1, if_pos (by rw [i_8, iI_eq (by omega) (by omega) (by omega) (by omega)]; omega)]
      · rw [b2i_n (fun w => q3 w.2.2), if_pos z00]
        refine ⟨_, S, S, rfl, ?_, hI⟩
        rw [m_in2 _ a1 a2 (by omega) (by omega) (by omega) (by omega), bn_s, b2i_p q1, if_neg z10', m_in2 _ b1 b2 (by omega) (by omega) (by omega) (by omega), bn_s, b2i_p q2, if_neg z10', m_in2 _ c1 c2 (by omega) (by omega) (by omega) (by omega), bn_s, b2i_n q3, if_pos z00]
    · rw [b2i_n (fun w => q2 w.2.1), if_pos z00]
      refine ⟨_, S, S, rfl, ?_, hI⟩
      rw [m_in2 _ a1 a2 (by omega) (by omega) (by omega) (by omega), bn_s, b2i_p q1, if_neg z10', m_in2 _ b1 b2 (by omega) (by omega) (by omega) (by omega), bn_s, b2i_n q2, if_pos z00]
  · rw [b2i_n (fun w => q1 w.1), if_pos z00]
    refine ⟨_, S, S, rfl, ?_, hI⟩
    rw [m_in2 _ a1 a2 (by omega) (by omega) (by omega) (by omega), bn_s, b2i_n q1, if_pos z00]
