/-! counts -/
theorem m_count_l {S : sT} {n : Nat} {f : Nat → List Nat} (h : RM S n f) : ∀ (d k m a : Nat), k + d = n → d < m → a ≤ 8 * k → l_X11_count_90 S m (iI a) (iI k) = some (iI (((List.range' k d).foldl (fun a c => a + (f c).length) a : Nat) : Int), S) := by
  have hn := h.1
  intro d
  induction d with
  | zero =>
    intro k m a hk hm ha
    obtain ⟨m, rfl⟩ : ∃ m', m = m' + 1 := ⟨m - 1, by omega⟩
    rw [l_X11_count_90_s]
    unfold b_X11_count_90
    rw [h.2.1, if_pos (by rw [iI_le (by omega) (by omega) (by omega) (by omega)]; omega)]
    rfl
  | succ d ih =>
    intro k m a hk hm ha
    obtain ⟨m, rfl⟩ : ∃ m', m = m' + 1 := ⟨m - 1, by omega⟩
    obtain ⟨b1, b2, b3, b4⟩ := h.2.2 k (by omega)
    have b5 := b1.1
    rw [l_X11_count_90_s]
    unfold b_X11_count_90
    rw [h.2.1, if_neg (by rw [iI_le (by omega) (by omega) (by omega) (by omega)]; omega), vi_iI (by omega) (by omega) (by omega), ck_t, cl_iI (by omega) (by omega), Int.toNat_natCast, b3, iI_add, lt_b, lt_b, show iI (k : Int) + (1 : Int32) = iI ((k + 1 : Nat) : Int) by rw [i_1, iI_add]; rfl]
    rw [List.range'_succ, List.foldl_cons]
    exact ih (k + 1) m (a + (f k).length) (by omega) (by omega) (by omega)
theorem laidQ_b {st : Nat → Nat} {n k : Nat} {ts : List tT} {f0 : Nat → List Nat} (hO : OkT ts) (hk : k < ts.length) : laidQ st n ts f0 k ≤ 3 := by
  have h1 := (hO.2 _ (tn_mem hk)).2.2.2.1
  have h2 := layF_le n ((st 0 + k) % 2) (tn ts k).2 ((tkF n (wAt st n ts f0 k) (tn ts k).1 ((st 0 + k) % 2)).getD (wAt st n ts f0 k), 0)
  unfold laidQ
  simp only at h2
  omega
theorem b2i_b (b : Bool) : 0 ≤ b2i b ∧ b2i b ≤ 1 := by cases b <;> decide
theorem busy_l {S : sT} {L : Nat → List Nat} {st : Nat → Nat} (h1 : CI S L st) : ∀ (d k m a : Nat) (S1 : sT), Inv S1 → TM S1 (tW L) → MS S1 st → HO S1 99 0 → RM S1 (nW L) (wAt st (nW L) (tW L) (fW L) k) → k + d = (tW L).length → d < m → a ≤ k → ∃ r S2, l_X1_busyTurns_4 S m (iI a) (iI k) = some r ∧ l_X11_working_8 m (iI a) (iI k) S1 = some (r, S2) ∧ Inv S2 := by
  have hO := parseT_ok (L 1)
  have h12 : (tW L).length ≤ 12 := hO.1
  have z10' : ¬ (iI 1 = (0 : Int32)) := z10
  intro d
  induction d with
  | zero =>
    intro k m a S1 hI hT hM hH hW hk hm ha
    obtain ⟨m, rfl⟩ : ∃ m', m = m' + 1 := ⟨m - 1, by omega⟩
    have c : iI ((tW L).length : Int) ≤ iI (k : Int) := by rw [iI_le (by omega) (by omega) (by omega) (by omega)]; omega
    rw [l_X1_busyTurns_4_s, l_X11_working_8_s]
    unfold b_X1_busyTurns_4 b_X11_working_8
    rw [h1.2.2.2.2.1.1, hT.1, if_pos c, if_pos c]
    exact ⟨_, S1, rfl, rfl, hI⟩
  | succ d ih =>
    intro k m a S1 hI hT hM hH hW hk hm ha
    obtain ⟨m, rfl⟩ : ∃ m', m = m' + 1 := ⟨m - 1, by omega⟩
    have c : ¬ (iI ((tW L).length : Int) ≤ iI (k : Int)) := by rw [iI_le (by omega) (by omega) (by omega) (by omega)]; omega
    obtain ⟨S2, b1, b2, b3, b4, b5⟩ := m_goes (odd := 99) (how := 0) hO (show k < (tW L).length by omega) hT hM hW hH
    obtain ⟨g3, g4⟩ := tookG_99 (st := st) (n := nW L) (k := k) (ts := tW L) (f0 := fW L) (by omega)
    rw [g3] at b3
    rw [g4] at b4
    have lb : laidQ st (nW L) (tW L) (fW L) k ≤ 3 := laidQ_b (st := st) (n := nW L) (f0 := fW L) hO (show k < (tW L).length by omega)
    have tb := b2i_b (tookQ st (nW L) (tW L) (fW L) k)
    have q : (0 : Int) ≤ (k : Int) ∧ (k : Int) ≤ ((tW L).length : Int) - 1 := by omega
    have ht : f_X1_tookIn (iI k) S = some (iI (b2i (tookQ st (nW L) (tW L) (fW L) k))) := by
      unfold f_X1_tookIn
      rw [p_hasTurn h1 (by omega) (by omega), bn_s, b2i_p q, if_neg z10', vi_iI (by omega) (by omega) (by omega), ck_t, cl_iI (by omega) (by omega), Int.toNat_natCast, (h1.2.2.2.2.1.2.2 k (by omega)).1]
    have hl : f_X1_laidIn (iI k) S = some (iI (laidQ st (nW L) (tW L) (fW L) k)) := by
      unfold f_X1_laidIn
      rw [p_hasTurn h1 (by omega) (by omega), bn_s, b2i_p q, if_neg z10', vi_iI (by omega) (by omega) (by omega), ck_t, cl_iI (by omega) (by omega), Int.toNat_natCast, (h1.2.2.2.2.1.2.2 k (by omega)).2]
    have hi1 : iI (k : Int) + (1 : Int32) = iI ((k + 1 : Nat) : Int) := by rw [i_1, iI_add]; rfl
    rw [l_X1_busyTurns_4_s, l_X11_working_8_s]
    unfold b_X1_busyTurns_4 b_X11_working_8
    rw [h1.2.2.2.2.1.1, hT.1, if_neg c, if_neg c, ht, bn_s, hl, bn_s, b1, bn_s, b3, b4]
    simp only [jn_b, lt_b, hi1]
    by_cases e : b2i (tookQ st (nW L) (tW L) (fW L) k) + (laidQ st (nW L) (tW L) (fW L) k : Int) ≤ 0
    · have ce : iI (b2i (tookQ st (nW L) (tW L) (fW L) k)) + iI (laidQ st (nW L) (tW L) (fW L) k : Int) ≤ (0 : Int32) := by rw [iI_add, i_0, iI_le (by omega) (by omega) (by omega) (by omega)]; omega
      rw [if_pos ce, if_pos ce, show iI (a : Int) + (0 : Int32) = iI (a : Int) by rw [i_0, iI_add]; congr 1]
      exact ih (k + 1) m a S2 (hI.fr b5 PM_lo) (hT.fr b5) (hM.fr b5) (hH.fr b5) b2 (by omega) (by omega) (by omega)
    · have ce : ¬ (iI (b2i (tookQ st (nW L) (tW L) (fW L) k)) + iI (laidQ st (nW L) (tW L) (fW L) k : Int) ≤ (0 : Int32)) := by rw [iI_add, i_0, iI_le (by omega) (by omega) (by omega) (by omega)]; omega
      rw [if_neg ce, if_neg ce, show iI (a : Int) + (1 : Int32) = iI ((a + 1 : Nat) : Int) by rw [i_1, iI_add]; rfl]
      exact ih (k + 1) m (a + 1) S2 (hI.fr b5 PM_lo) (hT.fr b5) (hM.fr b5) (hH.fr b5) b2 (by omega) (by omega) (by omega)
theorem T_27 : St_27 Inv := by
  intro S hI v1
  obtain ⟨z, z1, z2, rfl⟩ := iI_ex v1
  obtain ⟨L, st, sg, h1, h2, h3, h4, h5⟩ := id hI
  obtain ⟨S1, e1, hB, hT, F⟩ := m_reads (h2.1 0 (by omega)) (h2.1 1 (by omega))
  have hI1 : Inv S1 := hI.fr F PR_lo
  have g2 := h2.fr F (fun k i z => PR_lo k i (Or.inr (Or.inl z)))
  have g3 := h3.fr F (fun k i z => PR_lo k i (Or.inr (Or.inr (Or.inl z))))
  have hM := g2.2.1
  have hH : HO S1 99 0 := Or.inl ⟨g2.2.2, rfl⟩
  have h12 : (tW L).length ≤ 12 := (parseT_ok (L 1)).1
  have hn : nW L ≤ 8 := hB.1
  have hWl := wallN h1 (Nat.le_refl _)
  unfold f_X10_count f_X11_count
  rw [e1, bn_s]
  have nq : ∀ w : Int, ¬ (z = w) → -2147483648 ≤ w → w < 2147483648 → ¬ (iI z = iI w) := fun w a b c => by rw [iI_eq z1 z2 b c]; exact a
  have ed : decide ((tW L).length < 16) = true := decide_eq_true (by omega)
  rw [i_0, i_1, i_2, i_3, i_4, i_5, i_6, i_7, i_8]
  by_cases q0 : z = 0
  · subst q0
    rw [if_pos rfl, if_pos rfl, p_last h1, bn_s, ed, ck_t]
    unfold f_X9_columnCount
    rw [bn_s, hWl.2.1, hB.2.1]
    exact ⟨_, S1, rfl, rfl, hI1⟩
  rw [if_neg (nq 0 q0 (by omega) (by omega)), if_neg (nq 0 q0 (by omega) (by omega))]
  by_cases q1 : z = 1
  · subst q1
    rw [if_pos rfl, if_pos rfl]
    unfold f_X1_turnCount
    rw [bn_s, h1.2.2.2.2.1.1, hT.1]
    exact ⟨_, S1, rfl, rfl, hI1⟩
  rw [if_neg (nq 1 q1 (by omega) (by omega)), if_neg (nq 1 q1 (by omega) (by omega))]
  by_cases q2 : z = 2
  · subst q2
    rw [if_pos rfl, if_pos rfl, p_size (h1.1 0 (by omega)), bn_s]
    exact ⟨_, S1, rfl, by rw [show vi (iI 2 - iI 2) 2 = true by decide, ck_t, show cl (iI 2 - iI 2) = 0 by decide, (g2.1 0 (by omega)).1], hI1⟩
  rw [if_neg (nq 2 q2 (by omega) (by omega)), if_neg (nq 2 q2 (by omega) (by omega))]
  by_cases q3 : z = 3
  · subst q3
    rw [if_pos rfl, if_pos rfl, p_size (h1.1 1 (by omega)), bn_s]
    exact ⟨_, S1, rfl, by rw [show vi (iI 3 - iI 2) 2 = true by decide, ck_t, show cl (iI 3 - iI 2) = 1 by decide, (g2.1 1 (by omega)).1], hI1⟩
  rw [if_neg (nq 3 q3 (by omega) (by omega)), if_neg (nq 3 q3 (by omega) (by omega))]
  by_cases q4 : z = 4
  · subst q4
    rw [if_pos rfl, if_pos rfl]
    unfold f_X6_size
    rw [bn_s, h3.2.1, g3.2.2.1]
    exact ⟨_, S1, rfl, rfl, hI1⟩
  rw [if_neg (nq 4 q4 (by omega) (by omega)), if_neg (nq 4 q4 (by omega) (by omega))]
  by_cases q5 : z = 5
  · subst q5
    obtain ⟨S2, a1, a2, a3, a4, a5, a6⟩ := lived hI1 hB hT hM hH (N := (tW L).length) (by omega)
    have hF : 1000 < FU := by unfold FU; omega
    rw [if_pos rfl, if_pos rfl, p_last h1, bn_s, ed, ck_t, p_stoneCount hWl, bn_s, hT.1, a1, bn_s]
    revert hF
    generalize FU = N
    intro hF
    have e := m_count_l a3 (nW L) 0 N 0 (by omega) (by omega) (by omega)
    exact ⟨_, S2, rfl, e, a2⟩
  rw [if_neg (nq 5 q5 (by omega) (by omega)), if_neg (nq 5 q5 (by omega) (by omega))]
  by_cases q6 : z = 6
  · subst q6
    obtain ⟨S2, b1, b2, b3⟩ := m_begins hB
    have b3 := PL.pm b3
    have hF : 1000 < FU := by unfold FU; omega
    rw [if_pos rfl, if_pos rfl]
    unfold f_X1_busyTurns f_X11_working
    rw [b1, bn_s]
    revert hF
    generalize FU = N
    intro hF
    obtain ⟨r, S3, c1, c2, c3⟩ := busy_l h1 (tW L).length 0 N 0 S2 (hI1.fr b3 PM_lo) (hT.fr b3) (hM.fr b3) (hH.fr b3) b2 (by omega) (by omega) (by omega)
    have zz : iI ((0 : Nat) : Int) = (0 : Int32) := rfl
    rw [zz] at c1 c2
    have zz2 : iI 0 = (0 : Int32) := rfl
    try rw [zz2]
    rw [c1, c2]
    exact ⟨r, S3, rfl, rfl, c3⟩
  rw [if_neg (nq 6 q6 (by omega) (by omega)), if_neg (nq 6 q6 (by omega) (by omega))]
  by_cases q7 : z = 7
  · subst q7
    have e := p_value h1.2.1 (k := 2) (by omega)
    rw [if_pos rfl, if_pos rfl, show iI 2 = iI ((2 : Nat) : Int) from rfl, e, bn_s, vi_iI (by omega) (by omega) (by omega), ck_t, cl_iI (by omega) (by omega), Int.toNat_natCast, (hM 2 (by omega)).1]
    exact ⟨_, S1, rfl, rfl, hI1⟩
  rw [if_neg (nq 7 q7 (by omega) (by omega)), if_neg (nq 7 q7 (by omega) (by omega))]
  by_cases q8 : z = 8
  · subst q8
    rw [if_pos rfl, if_pos rfl]
    unfold f_X5_latestFinding
    rw [bn_s, h5, ← F.1 113 0 (PR_lo _ _ (Or.inr (Or.inr (Or.inr (Or.inr (by unfold KF; omega))))))]
    exact ⟨_, S1, rfl, rfl, hI1⟩
  rw [if_neg (nq 8 q8 (by omega) (by omega)), if_neg (nq 8 q8 (by omega) (by omega))]
  exact ⟨_, S1, rfl, rfl, hI1⟩
