/-! the highest column; the first weak wall -/
theorem p_last {S : sT} {L : Nat → List Nat} {st : Nat → Nat} (h : CI S L st) : f_X1_last S = some (tW L).length := by
  have h12 : (tW L).length ≤ 12 := (parseT_ok (L 1)).1
  unfold f_X1_last
  rw [h.2.2.2.2.1.1]
  have e1 : (if (12 : Int32) < iI ((tW L).length : Int) then (12 : Int32) else iI ((tW L).length : Int)) = iI ((tW L).length : Int) := if_neg (by rw [i_12, iI_lt (by omega) (by omega) (by omega) (by omega)]; omega)
  have e2 : (if (0 : Int32) < iI ((tW L).length : Int) then iI ((tW L).length : Int) else (0 : Int32)) = iI ((tW L).length : Int) := by
    by_cases q : (tW L).length = 0
    · rw [q]; rfl
    · rw [if_pos (by rw [i_0, iI_lt (by omega) (by omega) (by omega) (by omega)]; omega)]
  simp only [e1]
  simp only [e2]
  rw [vi_iI (by omega) (by omega) (by omega), ck_t, cl_iI (by omega) (by omega)]
  rfl
theorem m_highestNow_l {S : sT} {n : Nat} {f : Nat → List Nat} (h : RM S n f) : ∀ (d k m b : Nat), k + d = n → d < m → b < k → l_X11_highestNow_12 S m (iI b) (iI k) = some (iI (((List.range' k d).foldl (hiF f) b : Nat) : Int), S) := by
  have hn := h.1
  intro d
  induction d with
  | zero =>
    intro k m b hk hm hb
    obtain ⟨m, rfl⟩ : ∃ m', m = m' + 1 := ⟨m - 1, by omega⟩
    rw [l_X11_highestNow_12_s]
    unfold b_X11_highestNow_12
    rw [h.2.1, if_pos (by rw [iI_le (by omega) (by omega) (by omega) (by omega)]; omega)]
    rfl
  | succ d ih =>
    intro k m b hk hm hb
    obtain ⟨m, rfl⟩ : ∃ m', m = m' + 1 := ⟨m - 1, by omega⟩
    rw [l_X11_highestNow_12_s]
    unfold b_X11_highestNow_12
    have b1 := ht_le (f k)
    have b2 := (h.2.2 k (by omega)).1.1
    have b3 := ht_le (f b)
    have b4 := (h.2.2 b (by omega)).1.1
    rw [h.2.1, if_neg (by rw [iI_le (by omega) (by omega) (by omega) (by omega)]; omega), m_highOf h (by omega), m_highOf h (c := b) (by omega)]
    rw [List.range'_succ, List.foldl_cons]
    have cm : ¬ (iI (b : Int) = (-1 : Int32)) := by rw [i_m1, iI_eq (by omega) (by omega) (by omega) (by omega)]; omega
    have hi1 : iI (k : Int) + (1 : Int32) = iI ((k + 1 : Nat) : Int) := by rw [i_1, iI_add]; rfl
    by_cases q : ht (f b) < ht (f k)
    · rw [show hiF f b k = k by unfold hiF; rw [if_pos q]]
      simp only [ck_t, lt_b, bn_s, bn2_s, jn_b, nl_N, nl_S, if_neg cm, hi1]
      rw [if_neg (by rw [iI_le (by omega) (by omega) (by omega) (by omega)]; omega)]
      exact ih (k + 1) m k (by omega) (by omega) (by omega)
    · rw [show hiF f b k = b by unfold hiF; rw [if_neg q]]
      simp only [ck_t, lt_b, bn_s, bn2_s, jn_b, nl_N, nl_S, if_neg cm, hi1]
      rw [if_pos (by rw [iI_le (by omega) (by omega) (by omega) (by omega)]; omega)]
      exact ih (k + 1) m b (by omega) (by omega) (by omega)
theorem m_highestNow_r {S : sT} {n N : Nat} {f : Nat → List Nat} (h : RM S n f) (hN : 100 < N) : l_X11_highestNow_12 S N (-1 : Int32) (0 : Int32) = some (iI (hiC n f), S) := by
  have hn := h.1
  obtain ⟨m, rfl⟩ : ∃ m', N = m' + 1 := ⟨N - 1, by omega⟩
  rw [l_X11_highestNow_12_s]
  unfold b_X11_highestNow_12 hiC
  by_cases q : n = 0
  · rw [h.2.1, if_pos (by rw [q]; decide), if_pos q]; rfl
  · rw [h.2.1, if_neg (by rw [i_0, iI_le (by omega) (by omega) (by omega) (by omega)]; omega), if_neg q]
    simp only [ck_t, lt_b, bn_s, bn2_s, jn_b, nl_N, nl_S, if_pos]
    rw [show (0 : Int32) + (1 : Int32) = iI ((1 : Nat) : Int) from rfl, show (0 : Int32) = iI ((0 : Nat) : Int) from rfl]
    exact m_highestNow_l h (n - 1) 1 m 0 (by omega) (by omega) (by omega)
theorem T_11 : St_11 Inv := by
  intro S hI
  obtain ⟨L, st, S1, h1, e1, hI1, h1', hB, hT, hM, hH⟩ := opened hI
  have h12 : (tW L).length ≤ 12 := (parseT_ok (L 1)).1
  obtain ⟨S2, a1, a2, a3, a4, a5, a6⟩ := lived hI1 hB hT hM hH (N := (tW L).length) (by omega)
  refine ⟨iI (hiC (nW L) (wAt st (nW L) (tW L) (fW L) (tW L).length)), S2, ?_, ?_, a2⟩
  · unfold f_X10_highest
    rw [p_last h1, bn_s, decide_eq_true (by omega), ck_t, p_highest (wallN h1 (Nat.le_refl _)), bn_s]
  · unfold f_X11_highest f_X11_highestNow
    rw [e1, bn_s, hT.1, a1, bn_s, m_highestNow_r a3 (by unfold FU; omega), bn2_s]
