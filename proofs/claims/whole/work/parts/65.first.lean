/-! the first weak wall -/
theorem m_isIn {r : Int32} {c : Nat} (hc : c < 8) (S : sT) : f_X11_isIn r (iI c) S = some (iI (b2i (r.toBitVec.getLsbD c))) := by
  unfold f_X11_isIn
  by_cases q : r.toBitVec.getLsbD c = true
  · rw [if_pos ((bit_b hc).mpr q), q]; rfl
  · rw [if_neg (fun z => q ((bit_b hc).mp z))]
    have : r.toBitVec.getLsbD c = false := by simpa using q
    rw [this]; rfl
theorem p_leastBit_l {r : Int32} {c : Nat} (hc : c < 8) (h1 : r.toBitVec.getLsbD c = true) (h2 : ∀ j, j < c → r.toBitVec.getLsbD j = false) : ∀ (d k m : Nat), k + d = c → d < m → l_X10_leastBit_2 r m (iI k) = some (iI c) := by
  intro d
  induction d with
  | zero =>
    intro k m hk hm
    obtain ⟨m, rfl⟩ : ∃ m', m = m' + 1 := ⟨m - 1, by omega⟩
    have : k = c := by omega
    subst this
    rw [l_X10_leastBit_2_s]
    unfold b_X10_leastBit_2
    rw [if_neg (by rw [i_8, iI_le (by omega) (by omega) (by omega) (by omega)]; omega), if_pos ((bit_b hc).mpr h1)]
  | succ d ih =>
    intro k m hk hm
    obtain ⟨m, rfl⟩ : ∃ m', m = m' + 1 := ⟨m - 1, by omega⟩
    rw [l_X10_leastBit_2_s]
    unfold b_X10_leastBit_2
    rw [if_neg (by rw [i_8, iI_le (by omega) (by omega) (by omega) (by omega)]; omega), if_neg (fun z => by have := (bit_b (by omega)).mp z; rw [h2 k (by omega)] at this; cases this), lt_b, show iI (k : Int) + (1 : Int32) = iI ((k + 1 : Nat) : Int) by rw [i_1, iI_add]; rfl]
    exact ih (k + 1) m (by omega) (by omega)
theorem p_leastBit {r : Int32} {c : Nat} (hc : c < 8) (h1 : r.toBitVec.getLsbD c = true) (h2 : ∀ j, j < c → r.toBitVec.getLsbD j = false) (S : sT) : f_X10_leastBit r S = some (iI c) := p_leastBit_l hc h1 h2 c 0 FU (by omega) (by unfold FU; omega)
theorem m_firstOf_i {S : sT} {n : Nat} {f : Nat → List Nat} {st : Nat → Nat} (h : RM S n f) (j5 : Int32 → Int32 → sT → Option (Int32 × sT)) (x6 : Int32) (j14 : Option (Int32 × sT)) : ∀ (d k m : Nat), k + d = n → d < m → (∀ c, c < k → wk st n f c = false) → (∃ c, c < n ∧ wk st n f c = true ∧ (∀ c', c' < c → wk st n f c' = false) ∧ l_X11_firstOf_23 j5 x6 S (wkB st n f) j14 m (iI k) = j5 x6 (iI c) S) ∨ ((∀ c, c < n → wk st n f c = false) ∧ l_X11_firstOf_23 j5 x6 S (wkB st n f) j14 m (iI k) = j14) := by
  have hn := h.1
  intro d
  induction d with
  | zero =>
    intro k m hk hm hw
    obtain ⟨m, rfl⟩ : ∃ m', m = m' + 1 := ⟨m - 1, by omega⟩
    refine Or.inr ⟨fun c hc => hw c (by omega), ?_⟩
    rw [l_X11_firstOf_23_s]
    unfold b_X11_firstOf_23
    rw [h.2.1, if_pos (by rw [iI_le (by omega) (by omega) (by omega) (by omega)]; omega)]
  | succ d ih =>
    intro k m hk hm hw
    obtain ⟨m, rfl⟩ : ∃ m', m = m' + 1 := ⟨m - 1, by omega⟩
    rw [l_X11_firstOf_23_s]
    unfold b_X11_firstOf_23
    rw [h.2.1, if_neg (by rw [iI_le (by omega) (by omega) (by omega) (by omega)]; omega), m_isIn (by omega), bn_s, wkB_bit hn (by omega), decide_eq_true (show k < n by omega), Bool.true_and]
    cases e : wk st n f k with
    | true =>
      rw [if_neg (show ¬ (iI (b2i true) = (0 : Int32)) from z10)]
      exact Or.inl ⟨k, by omega, e, hw, rfl⟩
    | false =>
      rw [if_pos (show iI (b2i false) = (0 : Int32) from rfl), lt_b, show iI (k : Int) + (1 : Int32) = iI ((k + 1 : Nat) : Int) by rw [i_1, iI_add]; rfl]
      exact ih (k + 1) m (by omega) (by omega) (fun c hc => by
        by_cases q : c = k
        · rw [q]; exact e
        · exact hw c (by omega))
theorem T_10_l {S : sT} {L : Nat → List Nat} {st : Nat → Nat} (h1 : CI S L st) (a1 : Int32) : ∀ (d k m m2 : Nat) (S1 : sT), Inv S1 → RB S1 (nW L) (fW L) → TM S1 (tW L) → MS S1 st → HO S1 99 0 → k + d = (tW L).length + 1 → d < m → d < m2 → ∃ r S2, l_X10_first_14 S (fun (x3 : Int32) (x4 : Int32) => (if a1 = (0 : Int32) then some x3 else bn (f_X10_leastBit x4 S) (fun r6 => some r6))) m (iI k) = some r ∧ l_X11_firstOf_2 (fun (x1 : Int32) (x2 : Int32) (S3 : sT) => (if a1 = (0 : Int32) then some (x1, S3) else some (x2, S3))) m2 (iI k) S1 = some (r, S2) ∧ Inv S2 := by
  have h12 : (tW L).length ≤ 12 := (parseT_ok (L 1)).1
  intro d
  induction d with
  | zero =>
    intro k m m2 S1 hI hB hT hM hH hk hm hm2
    obtain ⟨m, rfl⟩ : ∃ m', m = m' + 1 := ⟨m - 1, by omega⟩
    obtain ⟨m2, rfl⟩ : ∃ m', m2 = m' + 1 := ⟨m2 - 1, by omega⟩
    rw [l_X10_first_14_s, l_X11_firstOf_2_s]
    unfold b_X10_first_14 b_X11_firstOf_2 f_X1_turnCount
    rw [h1.2.2.2.2.1.1, bn_s, hT.1, if_pos (by rw [iI_lt (by omega) (by omega) (by omega) (by omega)]; omega), if_pos (by rw [iI_lt (by omega) (by omega) (by omega) (by omega)]; omega)]
    exact ⟨_, S1, rfl, rfl, hI⟩
  | succ d ih =>
    intro k m m2 S1 hI hB hT hM hH hk hm hm2
    obtain ⟨m, rfl⟩ : ∃ m', m = m' + 1 := ⟨m - 1, by omega⟩
    obtain ⟨m2, rfl⟩ : ∃ m', m2 = m' + 1 := ⟨m2 - 1, by omega⟩
    have hn := hB.1
    obtain ⟨S2, b1, b2, b3, b4, b5, b6⟩ := lived hI hB hT hM hH (N := k) (by omega)
    have hW := wallN h1 (N := k) (by omega)
    obtain ⟨r, S3, i1, i2, i3⟩ := ih (k + 1) m m2 S2 b2 (hB.fr b4) (hT.fr b4) b5 (hH.fr b4) (by omega) (by omega) (by omega)
    have hi1 : iI (k : Int) + (1 : Int32) = iI ((k + 1 : Nat) : Int) := by rw [i_1, iI_add]; rfl
    have hF : 1000 < FU := by unfold FU; omega
    have cl' : ¬ (iI ((tW L).length : Int) < iI (k : Int)) := by rw [iI_lt (by omega) (by omega) (by omega) (by omega)]; omega
    rw [l_X10_first_14_s, l_X11_firstOf_2_s]
    unfold b_X10_first_14 b_X11_firstOf_2 f_X1_turnCount
    rw [h1.2.2.2.2.1.1, bn_s, hT.1, if_neg cl', if_neg cl', p_wallBehind h1 (by omega), bn_s, nl_S, decide_eq_true (show k < 16 by omega), ck_t, p_weakBits hW h1.2.1, bn_s, b1, bn_s, m_weakNow b3 b5, bn_s, jn_b, lt_b, lt_b, hi1]
    rcases m_firstOf_i (st := st) b3 (fun (x1 : Int32) (x2 : Int32) (S3 : sT) => (if a1 = (0 : Int32) then some (x1, S3) else some (x2, S3))) (iI k) (l_X11_firstOf_2 (fun (x1 : Int32) (x2 : Int32) (S3 : sT) => (if a1 = (0 : Int32) then some (x1, S3) else some (x2, S3))) m2 (iI ((k + 1 : Nat) : Int)) S2) (nW L) 0 FU (by omega) (by omega) (fun c hc => absurd hc (by omega)) with ⟨c, c1, c2, c3, c4⟩ | ⟨c1, c2⟩
    · have hne : ¬ (wkB st (nW L) (wAt st (nW L) (tW L) (fW L) k) = (0 : Int32)) := fun z => by
        have := (wkB_0 hn).mp z c c1
        rw [c2] at this
        cases this
      have hz : (0 : Int32) = iI ((0 : Nat) : Int) := rfl
      rw [← hz] at c4
      rw [if_neg hne, c4]
      simp only []
      by_cases q : a1 = (0 : Int32)
      · rw [if_pos q, if_pos q]
        exact ⟨_, S2, rfl, rfl, b2⟩
      · rw [if_neg q, if_neg q, p_leastBit (c := c) (by omega) (by rw [wkB_bit hn (by omega), decide_eq_true c1, c2]; rfl) (fun j hj => by rw [wkB_bit hn (by omega), c3 j hj, Bool.and_false])]
        exact ⟨_, S2, rfl, rfl, b2⟩
    · have he : wkB st (nW L) (wAt st (nW L) (tW L) (fW L) k) = (0 : Int32) := (wkB_0 hn).mpr c1
      have hz : (0 : Int32) = iI ((0 : Nat) : Int) := rfl
      rw [← hz] at c2
      rw [if_pos he]
      refine ⟨r, S3, i1, ?_, i3⟩
      exact c2.trans i2
theorem T_10 : St_10 Inv := by
  intro S hI a1
  obtain ⟨z, z1, z2, rfl⟩ := iI_ex a1
  have z10' : ¬ (iI 1 = (0 : Int32)) := z10
  obtain ⟨L, st, S1, h1, e1, hI1, h1', hB, hT, hM, hH⟩ := opened hI
  have h12 : (tW L).length ≤ 12 := (parseT_ok (L 1)).1
  have hF : 1000 < FU := by unfold FU; omega
  unfold f_X10_first f_X11_first f_X11_firstOf
  rw [e1, bn_s, m_isTwo S1 z1 z2, bn_s, show f_X10_within (iI z) (0 : Int32) (1 : Int32) S = _ from p_within (a := 0) (b := 1) S z1 z2 (by omega) (by omega) (by omega) (by omega), bn_s]
  by_cases q : 0 ≤ z ∧ z ≤ 1
  · rw [b2i_p q, if_neg z10', if_neg z10']
    revert hF
    generalize FU = N
    intro hF
    obtain ⟨r, S2, a1, a2, a3⟩ := T_10_l h1 (iI z) ((tW L).length + 1) 0 N N S1 hI1 hB hT hM hH (by omega) (by omega) (by omega)
    refine ⟨r, S2, a1, ?_, a3⟩
    rw [jn_b]
    have a2' : l_X11_firstOf_2 (fun (x1 : Int32) (x2 : Int32) (S3 : sT) => (if iI z = (0 : Int32) then some (x1, S3) else some (x2, S3))) N (0 : Int32) S1 = some (r, S2) := a2
    rw [a2', bn2_s]
  · rw [b2i_n q, if_pos (show iI 0 = (0 : Int32) from rfl), if_pos (show iI 0 = (0 : Int32) from rfl)]
    exact ⟨_, S1, rfl, rfl, hI1⟩
