/-! what lies behind a number of turns -/
theorem PM_lo : Lo PM := by
  intro k i z
  unfold KC KM KG KH KF at z
  unfold PM
  omega
theorem opened {S : sT} (hI : Inv S) : ∃ L st S1, CI S L st ∧ f_X11_reads S = some S1 ∧ Inv S1 ∧ CI S1 L st ∧ RB S1 (nW L) (fW L) ∧ TM S1 (tW L) ∧ MS S1 st ∧ HO S1 99 0 := by
  obtain ⟨L, st, sg, h1, h2, h3, h4, h5⟩ := id hI
  obtain ⟨S1, a1, a2, a3, a4⟩ := m_reads (h2.1 0 (by omega)) (h2.1 1 (by omega))
  have h6 := h2.fr a4 (fun k i z => PR_lo k i (Or.inr (Or.inl z)))
  exact ⟨L, st, S1, h1, a1, hI.fr a4 PR_lo, h1.fr a4 (fun k i z => PR_lo k i (Or.inl z)), a2, a3, h6.2.1, Or.inl ⟨h6.2.2, rfl⟩⟩
theorem lived {S1 : sT} {L : Nat → List Nat} {st : Nat → Nat} {N : Nat} (hI : Inv S1) (hB : RB S1 (nW L) (fW L)) (hT : TM S1 (tW L)) (hM : MS S1 st) (hH : HO S1 99 0) (hN : N ≤ (tW L).length) : ∃ S2, f_X11_lives (iI N) S1 = some S2 ∧ Inv S2 ∧ RM S2 (nW L) (wAt st (nW L) (tW L) (fW L) N) ∧ Fr PM S1 S2 ∧ MS S2 st ∧ (∀ j, N = j + 1 → S2.1 117 0 0 = iI (b2i (tookG st (nW L) (tW L) 99 0 j (wAt st (nW L) (tW L) (fW L) j))) ∧ S2.1 118 0 0 = iI (laidG st (nW L) (tW L) 99 0 j (wAt st (nW L) (tW L) (fW L) j))) := by
  obtain ⟨S2, a1, a2, a3, a4⟩ := m_lives (parseT_ok (L 1)) hN hT hM hB hH
  exact ⟨S2, a1, hI.fr a3 PM_lo, a2, a3, hM.fr a3, a4⟩
theorem p_wallBehind {S : sT} {L : Nat → List Nat} {st : Nat → Nat} (h : CI S L st) {N : Nat} (hN : N ≤ (tW L).length) : f_X1_wallBehind (iI N) S = some (some N) := by
  have h12 : (tW L).length ≤ 12 := (parseT_ok (L 1)).1
  unfold f_X1_wallBehind
  rw [h.2.2.2.2.1.1, if_neg (by rw [i_0, iI_lt (by omega) (by omega) (by omega) (by omega)]; omega), if_neg (by rw [iI_lt (by omega) (by omega) (by omega) (by omega)]; omega), if_neg (by rw [i_12, iI_lt (by omega) (by omega) (by omega) (by omega)]; omega), vi_iI (by omega) (by omega) (by omega), ck_t, cl_iI (by omega) (by omega)]
  rfl
theorem p_wallBehind_out {S : sT} {L : Nat → List Nat} {st : Nat → Nat} (h : CI S L st) {z : Int} (z1 : -2147483648 ≤ z) (z2 : z < 2147483648) (hz : ¬ (0 ≤ z ∧ z ≤ (tW L).length)) : f_X1_wallBehind (iI z) S = some none := by
  have h12 : (tW L).length ≤ 12 := (parseT_ok (L 1)).1
  unfold f_X1_wallBehind
  by_cases q : 0 ≤ z
  · rw [h.2.2.2.2.1.1, if_neg (by rw [i_0, iI_lt (by omega) (by omega) (by omega) (by omega)]; omega), if_pos (by rw [iI_lt (by omega) (by omega) (by omega) (by omega)]; omega)]
  · rw [if_pos (by rw [i_0, iI_lt (by omega) (by omega) (by omega) (by omega)]; omega)]
theorem m_areTurns {S : sT} {ts : List tT} (h : TM S ts) (hO : OkT ts) {z : Int} (z1 : -2147483648 ≤ z) (z2 : z < 2147483648) : f_X11_areTurns (iI z) S = some (iI (b2i (decide (0 ≤ z ∧ z ≤ ts.length)))) := by
  have h12 := hO.1
  unfold f_X11_areTurns
  rw [h.1, l_0, iI_toL (z := (ts.length : Int)) (by omega) (by omega), m_in2 S z1 z2 (by omega) (by omega) (by omega) (by omega), bn_s, vz_b, ck_t]
theorem m_isColumn {S : sT} {n : Nat} {f : Nat → List Nat} (h : RB S n f) {z : Int} (z1 : -2147483648 ≤ z) (z2 : z < 2147483648) : f_X11_isColumn (iI z) S = some (iI (b2i (decide (0 ≤ z ∧ z ≤ (n : Int) - 1)))) := by
  have h12 := h.1
  unfold f_X11_isColumn
  rw [h.2.1, l_0, i_1, iI_sub, iI_toL (z := (n : Int) - 1) (by omega) (by omega), m_in2 S z1 z2 (by omega) (by omega) (by omega) (by omega), bn_s, vz_b, ck_t]
theorem wallN {S : sT} {L : Nat → List Nat} {st : Nat → Nat} (h : CI S L st) {N : Nat} (hN : N ≤ (tW L).length) : RW S N (nW L) (wAt st (nW L) (tW L) (fW L) N) := h.2.2.2.2.1.2.1 N hN
theorem T_5 : St_5 Inv := by
  intro S hI a1 a2
  obtain ⟨z, z1, z2, rfl⟩ := iI_ex a1
  obtain ⟨y, y1, y2, rfl⟩ := iI_ex a2
  have z10' : ¬ (iI 1 = (0 : Int32)) := z10
  obtain ⟨L, st, S1, h1, e1, hI1, h1', hB, hT, hM, hH⟩ := opened hI
  have h12 : (tW L).length ≤ 12 := (parseT_ok (L 1)).1
  have hn := hB.1
  unfold f_X10_height f_X11_height
  rw [e1, bn_s, m_areTurns hT (parseT_ok (L 1)) z1 z2, bn_s]
  by_cases q : 0 ≤ z ∧ z ≤ (tW L).length
  · obtain ⟨N, rfl⟩ : ∃ N : Nat, z = N := ⟨z.toNat, by omega⟩
    rw [b2i_p q, if_neg z10', m_isColumn hB y1 y2, bn_s, p_wallBehind h1 (by omega), bn_s, nl_S, decide_eq_true (show N < 16 by omega), ck_t]
    have hW := wallN h1 (N := N) (by omega)
    by_cases q2 : 0 ≤ y ∧ y ≤ (nW L : Int) - 1
    · obtain ⟨c, rfl⟩ : ∃ c : Nat, y = c := ⟨y.toNat, by omega⟩
      obtain ⟨S2, a1, a2, a3, a4, a5, a6⟩ := lived hI1 hB hT hM hH (N := N) (by omega)
      rw [b2i_p q2, if_neg z10', p_has_in hW (by omega), bn_s, if_neg z10', p_heightOf_in hW (by omega), bn_s]
      refine ⟨_, S2, rfl, ?_, a2⟩
      unfold f_X11_heightOf
      rw [a1, bn_s, m_highOf a3 (by omega), bn_s, bn2_s]
    · rw [b2i_n q2, if_pos (show iI 0 = (0 : Int32) from rfl), p_has_out hW y1 y2 (by omega), bn_s, if_pos (show iI 0 = (0 : Int32) from rfl)]
      exact ⟨_, S1, rfl, rfl, hI1⟩
  · rw [b2i_n q, if_pos (show iI 0 = (0 : Int32) from rfl), p_wallBehind_out h1 z1 z2 q]
    exact ⟨_, S1, rfl, rfl, hI1⟩
theorem T_6 : St_6 Inv := by
  intro S hI a1 a2
  obtain ⟨z, z1, z2, rfl⟩ := iI_ex a1
  obtain ⟨y, y1, y2, rfl⟩ := iI_ex a2
  have z10' : ¬ (iI 1 = (0 : Int32)) := z10
  obtain ⟨L, st, S1, h1, e1, hI1, h1', hB, hT, hM, hH⟩ := opened hI
  have h12 : (tW L).length ≤ 12 := (parseT_ok (L 1)).1
  have hn := hB.1
  unfold f_X10_lean f_X11_lean
  rw [e1, bn_s, m_areTurns hT (parseT_ok (L 1)) z1 z2, bn_s]
  by_cases q : 0 ≤ z ∧ z ≤ (tW L).length
  · obtain ⟨N, rfl⟩ : ∃ N : Nat, z = N := ⟨z.toNat, by omega⟩
    rw [b2i_p q, if_neg z10', m_isColumn hB y1 y2, bn_s, p_wallBehind h1 (by omega), bn_s, nl_S, decide_eq_true (show N < 16 by omega), ck_t]
    have hW := wallN h1 (N := N) (by omega)
    by_cases q2 : 0 ≤ y ∧ y ≤ (nW L : Int) - 1
    · obtain ⟨c, rfl⟩ : ∃ c : Nat, y = c := ⟨y.toNat, by omega⟩
      obtain ⟨S2, a1, a2, a3, a4, a5, a6⟩ := lived hI1 hB hT hM hH (N := N) (by omega)
      rw [b2i_p q2, if_neg z10', p_has_in hW (by omega), bn_s, if_neg z10', p_leanOf_in hW (by omega), bn_s]
      refine ⟨_, S2, rfl, ?_, a2⟩
      unfold f_X11_leanBehind
      rw [a1, bn_s, m_leanOf a3 (by omega), bn_s, bn2_s]
    · rw [b2i_n q2, if_pos (show iI 0 = (0 : Int32) from rfl), p_has_out hW y1 y2 (by omega), bn_s, if_pos (show iI 0 = (0 : Int32) from rfl)]
      exact ⟨_, S1, rfl, rfl, hI1⟩
  · rw [b2i_n q, if_pos (show iI 0 = (0 : Int32) from rfl), p_wallBehind_out h1 z1 z2 q]
    exact ⟨_, S1, rfl, rfl, hI1⟩
theorem T_8 : St_8 Inv := by
  intro S hI a1 a2
  obtain ⟨z, z1, z2, rfl⟩ := iI_ex a1
  obtain ⟨y, y1, y2, rfl⟩ := iI_ex a2
  have z10' : ¬ (iI 1 = (0 : Int32)) := z10
  have l3 : (3 : Int64) = lI 3 := by decide
  obtain ⟨L, st, S1, h1, e1, hI1, h1', hB, hT, hM, hH⟩ := opened hI
  have h12 : (tW L).length ≤ 12 := (parseT_ok (L 1)).1
  unfold f_X10_behind f_X11_behind
  rw [e1, bn_s, m_areTurns hT (parseT_ok (L 1)) z1 z2, bn_s]
  by_cases q : 0 ≤ z ∧ z ≤ (tW L).length
  · obtain ⟨N, rfl⟩ : ∃ N : Nat, z = N := ⟨z.toNat, by omega⟩
    rw [b2i_p q, if_neg z10', l_0, l3, m_in2 S1 y1 y2 (by omega) (by omega) (by omega) (by omega), bn_s, p_wallBehind h1 (by omega), bn_s, nl_S, decide_eq_true (show N < 16 by omega), ck_t]
    have hW := wallN h1 (N := N) (by omega)
    by_cases q2 : 0 ≤ y ∧ y ≤ 3
    · rw [b2i_p q2, if_neg z10']
      obtain ⟨S2, a1, a2, a3, a4, a5, a6⟩ := lived hI1 hB hT hM hH (N := N) (by omega)
      unfold f_X11_behindOf
      rw [a1, bn_s]
      rcases (show y = 0 ∨ y = 1 ∨ y = 2 ∨ y = 3 by omega) with rfl | rfl | rfl | rfl
      · rw [if_pos (show iI 0 = (0 : Int32) from rfl), if_pos (show iI 0 = (0 : Int32) from rfl), p_weakBits hW h1.2.1, m_weakNow a3 a5]
        exact ⟨_, S2, rfl, rfl, a2⟩
      · rw [if_neg (show ¬ (iI 1 = (0 : Int32)) by decide), if_pos (show iI 1 = (1 : Int32) from rfl), if_neg (show ¬ (iI 1 = (0 : Int32)) by decide), if_pos (show iI 1 = (1 : Int32) from rfl), p_sunny hW h1.2.1, m_pearsNow a3 a5]
        exact ⟨_, S2, rfl, rfl, a2⟩
      · rw [if_neg (show ¬ (iI 2 = (0 : Int32)) by decide), if_neg (show ¬ (iI 2 = (1 : Int32)) by decide), if_pos (show iI 2 = (2 : Int32) from rfl), if_neg (show ¬ (iI 2 = (0 : Int32)) by decide), if_neg (show ¬ (iI 2 = (1 : Int32)) by decide), show (0 : Int32) = iI ((0 : Nat) : Int) from rfl, p_weightOfW hW (by omega), show iI 2 - (2 : Int32) = iI ((0 : Nat) : Int) from rfl, m_weighs a3 (by omega)]
        exact ⟨_, S2, rfl, rfl, a2⟩
      · rw [if_neg (show ¬ (iI 3 = (0 : Int32)) by decide), if_neg (show ¬ (iI 3 = (1 : Int32)) by decide), if_neg (show ¬ (iI 3 = (2 : Int32)) by decide), if_pos (show iI 3 = (3 : Int32) from rfl), if_neg (show ¬ (iI 3 = (0 : Int32)) by decide), if_neg (show ¬ (iI 3 = (1 : Int32)) by decide), show (1 : Int32) = iI ((1 : Nat) : Int) from rfl, p_weightOfW hW (by omega), show iI 3 - (2 : Int32) = iI ((1 : Nat) : Int) from rfl, m_weighs a3 (by omega)]
        exact ⟨_, S2, rfl, rfl, a2⟩
    · rw [b2i_n q2, if_pos (show iI 0 = (0 : Int32) from rfl), if_neg (by rw [i_0, iI_eq (by omega) (by omega) (by omega) (by omega)]; omega), if_neg (by rw [i_1, iI_eq (by omega) (by omega) (by omega) (by omega)]; omega), if_neg (by rw [i_2, iI_eq (by omega) (by omega) (by omega) (by omega)]; omega), if_neg (by rw [i_3, iI_eq (by omega) (by omega) (by omega) (by omega)]; omega)]
      exact ⟨_, S1, rfl, rfl, hI1⟩
  · rw [b2i_n q, if_pos (show iI 0 = (0 : Int32) from rfl), p_wallBehind_out h1 z1 z2 q]
    exact ⟨_, S1, rfl, rfl, hI1⟩
