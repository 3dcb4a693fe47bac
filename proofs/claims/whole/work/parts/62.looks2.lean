/-! stones, turns, the highest column -/
theorem p_stoneAt {S : sT} {w n c : Nat} {f : Nat → List Nat} (h : RW S w n f) (hc : c < n) {j : Nat} (hj : j < 8) : f_X9_stoneAt w (iI c) (iI j) S = some (iI (if j < (f c).length then (nth (f c) j : Int) else -1)) := by
  have hn := h.1
  obtain ⟨a1, a2, a3, a4, a5, a6⟩ := h.2.2 c (by omega)
  have a7 := a1.1
  unfold f_X9_stoneAt
  rw [if_neg (by rw [i_0, iI_lt (by omega) (by omega) (by omega) (by omega)]; omega), p_sizeOf_in h hc, bn_s]
  by_cases q : j < (f c).length
  · rw [if_neg (by rw [iI_le (by omega) (by omega) (by omega) (by omega)]; omega), if_neg (by rw [i_8, iI_le (by omega) (by omega) (by omega) (by omega)]; omega), if_pos q, i_8, iI_mul, iI_add, vi_iI (by omega) (by omega) (by omega), ck_t, cl_iI (by omega) (by omega), show ((c : Int) * 8 + (j : Int)).toNat = 8 * c + j by omega, a6 j q]
  · rw [if_pos (by rw [iI_le (by omega) (by omega) (by omega) (by omega)]; omega), if_neg q]; rfl
theorem T_7 : St_7 Inv := by
  intro S hI a1 a2 a3
  obtain ⟨z, z1, z2, rfl⟩ := iI_ex a1
  obtain ⟨y, y1, y2, rfl⟩ := iI_ex a2
  obtain ⟨x, x1, x2, rfl⟩ := iI_ex a3
  have z10' : ¬ (iI 1 = (0 : Int32)) := z10
  have lm1 : (-1 : Int64) = lI (-1) := by decide
  have l7 : (7 : Int64) = lI 7 := by decide
  obtain ⟨L, st, S1, h1, e1, hI1, h1', hB, hT, hM, hH⟩ := opened hI
  have h12 : (tW L).length ≤ 12 := (parseT_ok (L 1)).1
  have hn := hB.1
  unfold f_X10_stone f_X11_stone
  rw [e1, bn_s, m_areTurns hT (parseT_ok (L 1)) z1 z2, bn_s]
  by_cases q : 0 ≤ z ∧ z ≤ (tW L).length
  · obtain ⟨N, rfl⟩ : ∃ N : Nat, z = N := ⟨z.toNat, by omega⟩
    rw [b2i_p q, if_neg z10', m_isColumn hB y1 y2, bn_s, p_wallBehind h1 (by omega), bn_s, nl_S, decide_eq_true (show N < 16 by omega), ck_t]
    have hW := wallN h1 (N := N) (by omega)
    by_cases q2 : 0 ≤ y ∧ y ≤ (nW L : Int) - 1
    · obtain ⟨c, rfl⟩ : ∃ c : Nat, y = c := ⟨y.toNat, by omega⟩
      rw [b2i_p q2, if_neg z10', p_has_in hW (by omega), bn_s, if_neg z10', l7, lm1, m_in2 S1 x1 x2 (by omega) (by omega) (by omega) (by omega), bn_s, i_m1, i_7, p_within S x1 x2 (by omega) (by omega) (by omega) (by omega), bn_s]
      by_cases q3 : -1 ≤ x ∧ x ≤ 7
      · obtain ⟨S2, a1, a2, a3, a4, a5, a6⟩ := lived hI1 hB hT hM hH (N := N) (by omega)
        obtain ⟨b1, b2, b3, b4⟩ := a3.2.2 c (by omega)
        have b5 := b1.1
        rw [b2i_p q3, if_neg z10', if_neg z10']
        unfold f_X11_stoneBehind
        rw [a1, bn_s, i_m1]
        by_cases q4 : x = -1
        · subst q4
          rw [if_pos rfl, if_pos rfl, p_sizeOf_in hW (by omega), bn_s, vi_iI (by omega) (by omega) (by omega), ck_t, cl_iI (by omega) (by omega), Int.toNat_natCast, b3]
          exact ⟨_, S2, rfl, rfl, a2⟩
        · obtain ⟨j, rfl⟩ : ∃ j : Nat, x = j := ⟨x.toNat, by omega⟩
          rw [if_neg (by rw [iI_eq (by omega) (by omega) (by omega) (by omega)]; omega), if_neg (by rw [iI_eq (by omega) (by omega) (by omega) (by omega)]; omega), p_stoneAt hW (by omega) (by omega), bn_s, vi_iI (by omega) (by omega) (by omega), ck_t, cl_iI (by omega) (by omega), Int.toNat_natCast, b3]
          by_cases q5 : j < (wAt st (nW L) (tW L) (fW L) N c).length
          · rw [if_pos q5, if_neg (by rw [iI_le (by omega) (by omega) (by omega) (by omega)]; omega), i_8, iI_mul, iI_add, vi_iI (by omega) (by omega) (by omega), ck_t, cl_iI (by omega) (by omega), show ((8 : Int) * (c : Int) + (j : Int)).toNat = 8 * c + j by omega, b4 j q5]
            exact ⟨_, S2, rfl, rfl, a2⟩
          · rw [if_neg q5, if_pos (by rw [iI_le (by omega) (by omega) (by omega) (by omega)]; omega)]
            exact ⟨_, S2, rfl, rfl, a2⟩
      · rw [b2i_n q3, if_pos (show iI 0 = (0 : Int32) from rfl), if_pos (show iI 0 = (0 : Int32) from rfl)]
        exact ⟨_, S1, rfl, rfl, hI1⟩
    · rw [b2i_n q2, if_pos (show iI 0 = (0 : Int32) from rfl), p_has_out hW y1 y2 (by omega), bn_s, if_pos (show iI 0 = (0 : Int32) from rfl)]
      exact ⟨_, S1, rfl, rfl, hI1⟩
  · rw [b2i_n q, if_pos (show iI 0 = (0 : Int32) from rfl), p_wallBehind_out h1 z1 z2 q]
    exact ⟨_, S1, rfl, rfl, hI1⟩
theorem p_hasTurn {S : sT} {L : Nat → List Nat} {st : Nat → Nat} (h : CI S L st) {z : Int} (z1 : -2147483648 ≤ z) (z2 : z < 2147483648) : f_X1_hasTurn (iI z) S = some (iI (b2i (decide (0 ≤ z ∧ z ≤ ((tW L).length : Int) - 1)))) := by
  have h12 : (tW L).length ≤ 12 := (parseT_ok (L 1)).1
  unfold f_X1_hasTurn
  rw [h.2.2.2.2.1.1]
  by_cases q : 0 ≤ z
  · rw [if_neg (by rw [i_0, iI_lt (by omega) (by omega) (by omega) (by omega)]; omega)]
    by_cases q2 : z ≤ ((tW L).length : Int) - 1
    · rw [if_neg (by rw [iI_le (by omega) (by omega) (by omega) (by omega)]; omega), if_neg (by rw [i_12, iI_le (by omega) (by omega) (by omega) (by omega)]; omega), b2i_p ⟨q, q2⟩]; rfl
    · rw [if_pos (by rw [iI_le (by omega) (by omega) (by omega) (by omega)]; omega), b2i_n (fun w => q2 w.2)]; rfl
  · rw [if_pos (by rw [i_0, iI_lt (by omega) (by omega) (by omega) (by omega)]; omega), b2i_n (fun w => q w.1)]; rfl
theorem tookG_99 {st : Nat → Nat} {n k : Nat} {ts : List tT} {f0 : Nat → List Nat} (hk : k < 99) : tookG st n ts 99 0 k (wAt st n ts f0 k) = tookQ st n ts f0 k ∧ laidG st n ts 99 0 k (wAt st n ts f0 k) = laidQ st n ts f0 k := by
  have d1 : decide (k = 99 ∧ 0 = 0) = false := decide_eq_false (by omega)
  have d2 : decide (k = 99 ∧ 0 = 1) = false := decide_eq_false (by omega)
  have d3 : ¬ (k = 99 ∧ 0 = 2) := by omega
  unfold tookG laidG tookQ laidQ tkQ lyQ whoQ
  rw [d1, d2, if_neg d3]
  exact ⟨rfl, rfl⟩
theorem T_9 : St_9 Inv := by
  intro S hI a1 a2
  obtain ⟨z, z1, z2, rfl⟩ := iI_ex a1
  obtain ⟨y, y1, y2, rfl⟩ := iI_ex a2
  have z10' : ¬ (iI 1 = (0 : Int32)) := z10
  have l2 : (2 : Int64) = lI 2 := by decide
  obtain ⟨L, st, S1, h1, e1, hI1, h1', hB, hT, hM, hH⟩ := opened hI
  have h12 : (tW L).length ≤ 12 := (parseT_ok (L 1)).1
  unfold f_X10_turn f_X11_turn
  rw [e1, bn_s, hT.1, i_1, iI_sub, iI_toL (z := ((tW L).length : Int) - 1) (by omega) (by omega), l_0, m_in2 S1 z1 z2 (by omega) (by omega) (by omega) (by omega), bn_s, p_hasTurn h1 z1 z2, bn_s]
  by_cases q : 0 ≤ z ∧ z ≤ ((tW L).length : Int) - 1
  · obtain ⟨k, rfl⟩ : ∃ N : Nat, z = N := ⟨z.toNat, by omega⟩
    rw [b2i_p q, if_neg z10', if_neg z10', l2, m_in2 S1 y1 y2 (by omega) (by omega) (by omega) (by omega), bn_s]
    have ht : f_X1_tookIn (iI k) S = some (iI (b2i (tookQ st (nW L) (tW L) (fW L) k))) := by
      unfold f_X1_tookIn
      rw [p_hasTurn h1 z1 z2, bn_s, b2i_p q, if_neg z10', vi_iI (by omega) (by omega) (by omega), ck_t, cl_iI (by omega) (by omega), Int.toNat_natCast, (h1.2.2.2.2.1.2.2 k (by omega)).1]
    have hl : f_X1_laidIn (iI k) S = some (iI (laidQ st (nW L) (tW L) (fW L) k)) := by
      unfold f_X1_laidIn
      rw [p_hasTurn h1 z1 z2, bn_s, b2i_p q, if_neg z10', vi_iI (by omega) (by omega) (by omega), ck_t, cl_iI (by omega) (by omega), Int.toNat_natCast, (h1.2.2.2.2.1.2.2 k (by omega)).2]
    by_cases q2 : 0 ≤ y ∧ y ≤ 2
    · obtain ⟨S2, a1, a2, a3, a4, a5, a6⟩ := lived hI1 hB hT hM hH (N := k + 1) (by omega)
      obtain ⟨g1, g2⟩ := a6 k rfl
      obtain ⟨g3, g4⟩ := tookG_99 (st := st) (n := nW L) (k := k) (ts := tW L) (f0 := fW L) (by omega)
      rw [g3] at g1
      rw [g4] at g2
      rw [b2i_p q2, if_neg z10']
      unfold f_X11_turnOf
      rw [show iI (k : Int) + (1 : Int32) = iI ((k + 1 : Nat) : Int) by rw [i_1, iI_add]; rfl, a1, bn_s]
      rcases (show y = 0 ∨ y = 1 ∨ y = 2 by omega) with rfl | rfl | rfl
      · rw [if_pos (show iI 0 = (0 : Int32) from rfl), if_pos (show iI 0 = (0 : Int32) from rfl), p_brotherOf h1.2.1 (by omega), m_whose a5 (hH.fr a4) (by omega)]
        refine ⟨_, S2, rfl, ?_, a2⟩
        unfold whoQ
        rw [if_neg (by omega)]
        rfl
      · rw [if_neg (show ¬ (iI 1 = (0 : Int32)) by decide), if_pos (show iI 1 = iI 1 from rfl), if_neg (show ¬ (iI 1 = (0 : Int32)) by decide), if_pos (show iI 1 = (1 : Int32) from rfl), ht, g1]
        exact ⟨_, S2, rfl, rfl, a2⟩
      · rw [if_neg (show ¬ (iI 2 = (0 : Int32)) by decide), if_neg (show ¬ (iI 2 = iI 1) by decide), if_pos (show iI 2 = (2 : Int32) from rfl), if_neg (show ¬ (iI 2 = (0 : Int32)) by decide), if_neg (show ¬ (iI 2 = (1 : Int32)) by decide), hl, g2]
        exact ⟨_, S2, rfl, rfl, a2⟩
    · rw [b2i_n q2, if_pos (show iI 0 = (0 : Int32) from rfl), if_neg (by rw [i_0, iI_eq (by omega) (by omega) (by omega) (by omega)]; omega), if_neg (by rw [iI_eq (by omega) (by omega) (by omega) (by omega)]; omega), if_neg (by rw [i_2, iI_eq (by omega) (by omega) (by omega) (by omega)]; omega)]
      exact ⟨_, S1, rfl, rfl, hI1⟩
  · rw [b2i_n q, if_pos (show iI 0 = (0 : Int32) from rfl), if_pos (show iI 0 = (0 : Int32) from rfl)]
    exact ⟨_, S1, rfl, rfl, hI1⟩
