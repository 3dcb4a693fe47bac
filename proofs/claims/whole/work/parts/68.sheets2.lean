/-! a sheet is made -/
theorem p_make_l {t : Nat} (ht : t < 4) : ∀ (d k m : Nat) (S : sT), k + d = 60 → d < m → ∃ S', l_X5_make_42 (iI t) m (iI k) S = some S' ∧ Fr (fun k i => k = 26 ∧ i = t) S S' ∧ ∀ j, j < 60 → S'.1 26 t j = if j < k then S.1 26 t j else (0 : Int32) := by
  have hvi : vi (iI (t : Int)) 4 = true := vi_iI (by omega) (by omega) (by omega)
  have hcl : cl (iI (t : Int)) = t := by rw [cl_iI (by omega) (by omega)]; rfl
  intro d
  induction d with
  | zero =>
    intro k m S hk hm
    obtain ⟨m, rfl⟩ : ∃ m', m = m' + 1 := ⟨m - 1, by omega⟩
    refine ⟨S, ?_, Fr.rf, fun j hj => by rw [if_pos (by omega)]⟩
    rw [l_X5_make_42_s]
    unfold b_X5_make_42
    rw [if_pos (by rw [i_60, iI_le (by omega) (by omega) (by omega) (by omega)]; omega)]
  | succ d ih =>
    intro k m S hk hm
    obtain ⟨m, rfl⟩ : ∃ m', m = m' + 1 := ⟨m - 1, by omega⟩
    obtain ⟨S', a1, a2, a3⟩ := ih (k + 1) m (us S 26 t k (0 : Int32)) (by omega) (by omega)
    refine ⟨S', ?_, (Fr.us ⟨rfl, rfl⟩).tr a2, fun j hj => ?_⟩
    · rw [l_X5_make_42_s]
      unfold b_X5_make_42
      rw [if_neg (by rw [i_60, iI_le (by omega) (by omega) (by omega) (by omega)]; omega), hvi, ck_t, hcl, lt_b, vi_iI (by omega) (by omega) (by omega), ck_t, cl_iI (by omega) (by omega), Int.toNat_natCast, lt_b, lt_b, show iI (k : Int) + (1 : Int32) = iI ((k + 1 : Nat) : Int) by rw [i_1, iI_add]; rfl]
      exact a1
    · rw [a3 j hj]
      by_cases q : j < k
      · rw [if_pos (by omega), if_pos q, us_nb (by omega)]
      · by_cases q2 : j = k
        · subst q2
          rw [if_pos (by omega), if_neg (by omega), us_same]
        · rw [if_neg (by omega), if_neg (by omega)]
theorem m_sheet_l {t sz : Nat} (ht : t < 4) (hs : sz ≤ 60) : ∀ (d k m : Nat) (S : sT), k + d = sz → d < m → ∃ S', l_X11_sheet_55 (iI t) (iI sz) m (iI k) S = some (iI sz, S') ∧ Fr (fun k i => k = 35 ∧ i = 0) S S' ∧ (∀ j, j < sz → S'.1 35 0 (60 * t + j) = if j < k then S.1 35 0 (60 * t + j) else (0 : Int32)) ∧ ∀ i, ¬ (60 * t ≤ i ∧ i < 60 * t + 60) → S'.1 35 0 i = S.1 35 0 i := by
  intro d
  induction d with
  | zero =>
    intro k m S hk hm
    obtain ⟨m, rfl⟩ : ∃ m', m = m' + 1 := ⟨m - 1, by omega⟩
    refine ⟨S, ?_, Fr.rf, fun j hj => by rw [if_pos (by omega)], fun i hi => rfl⟩
    rw [l_X11_sheet_55_s]
    unfold b_X11_sheet_55
    rw [if_pos (by rw [iI_le (by omega) (by omega) (by omega) (by omega)]; omega)]
  | succ d ih =>
    intro k m S hk hm
    obtain ⟨m, rfl⟩ : ∃ m', m = m' + 1 := ⟨m - 1, by omega⟩
    obtain ⟨S', a1, a2, a3, a4⟩ := ih (k + 1) m (us S 35 0 (60 * t + k) (0 : Int32)) (by omega) (by omega)
    refine ⟨S', ?_, (Fr.us ⟨rfl, rfl⟩).tr a2, fun j hj => ?_, fun i hi => by rw [a4 i hi, us_nb (by omega)]⟩
    · rw [l_X11_sheet_55_s]
      unfold b_X11_sheet_55
      rw [if_neg (by rw [iI_le (by omega) (by omega) (by omega) (by omega)]; omega), i_60, iI_mul, iI_add, vi_iI (by omega) (by omega) (by omega), ck_t, cl_iI (by omega) (by omega), show ((60 : Int) * (t : Int) + (k : Int)).toNat = 60 * t + k by omega, lt_b, lt_b, show iI (k : Int) + (1 : Int32) = iI ((k + 1 : Nat) : Int) by rw [i_1, iI_add]; rfl]
      exact a1
    · rw [a3 j hj]
      by_cases q : j < k
      · rw [if_pos (by omega), if_pos q, us_nb (by omega)]
      · by_cases q2 : j = k
        · subst q2
          rw [if_pos (by omega), if_neg (by omega), us_same]
        · rw [if_neg (by omega), if_neg (by omega)]
theorem T_21 : St_21 Inv := by
  intro S hI v1 v2 v3
  obtain ⟨z, z1, z2, rfl⟩ := iI_ex v1
  obtain ⟨y, y1, y2, rfl⟩ := iI_ex v2
  obtain ⟨x, x1, x2, rfl⟩ := iI_ex v3
  have z10' : ¬ (iI 1 = (0 : Int32)) := z10
  have z00 : iI 0 = (0 : Int32) := rfl
  obtain ⟨L, st, sg, h1, h2, h3, h4, h5⟩ := id hI
  unfold f_X10_sheet f_X11_sheet
  rw [p_isSheet S z1 z2, bn_s, p_isForm S y1 y2, bn_s]
  by_cases q : 0 ≤ z ∧ z ≤ 3
  · obtain ⟨t, rfl⟩ : ∃ t : Nat, z = t := ⟨z.toNat, by omega⟩
    have hvi : vi (iI (t : Int)) 4 = true := vi_iI (by omega) (by omega) (by omega)
    have hcl : cl (iI (t : Int)) = t := by rw [cl_iI (by omega) (by omega)]; rfl
    rw [b2i_p q, if_neg z10']
    by_cases q2 : 0 ≤ y ∧ y ≤ 2
    · obtain ⟨fm, rfl⟩ : ∃ t : Nat, y = t := ⟨y.toNat, by omega⟩
      rw [b2i_p q2, if_neg z10']
      have eM : ∀ S1 : sT, f_X11_isSheet (iI t) S1 = some (iI 1) ∧ f_X11_in (iI (fm : Int)).toInt64 (0 : Int64) (2 : Int64) S1 = some (iI 1) := fun S1 => ⟨by rw [m_isSheet S1 z1 z2, b2i_p q], by rw [l_0, l_2, m_in2 _ y1 y2 (by omega) (by omega) (by omega) (by omega), b2i_p q2]⟩
      by_cases q3 : x ≤ 60
      · have c60 : iI x ≤ (60 : Int32) := by rw [i_60, iI_le (by omega) (by omega) (by omega) (by omega)]; omega
        rw [if_pos c60]
        by_cases q4 : 0 ≤ x
        · obtain ⟨sz, rfl⟩ : ∃ t : Nat, x = t := ⟨x.toNat, by omega⟩
          have c0 : (0 : Int32) ≤ iI (sz : Int) := by rw [i_0, iI_le (by omega) (by omega) (by omega) (by omega)]; omega
          rw [if_pos c0]
          have F0 : Fr PHF S (us (us S 27 0 t (iI fm)) 28 0 t (iI sz)) := (Fr.us (by unfold PHF KH; omega)).tr (Fr.us (by unfold PHF KH; omega))
          have hF : 1000 < FU := by unfold FU; omega
          revert hF
          unfold f_X5_make
          generalize FU = N
          intro hF
          obtain ⟨S1, a1, a2, a3⟩ := p_make_l (t := t) (by omega) 60 0 N (us (us S 27 0 t (iI fm)) 28 0 t (iI sz)) (by omega) (by omega)
          obtain ⟨S2, b1, b2, b3, b4⟩ := m_sheet_l (t := t) (sz := sz) (by omega) (by omega) sz 0 N (us (us S1 33 0 t (iI fm)) 34 0 t (iI sz)) (by omega) (by omega)
          have zz : iI ((0 : Nat) : Int) = (0 : Int32) := rfl
          rw [zz] at a1 b1
          have F1 : Fr PHF S S2 := (((F0.tr (a2.mono (fun k i z => by unfold PHF KH; omega))).tr (Fr.us (by unfold PHF KH; omega))).tr (Fr.us (by unfold PHF KH; omega))).tr (b2.mono (fun k i z => by unfold PHF KH; omega))
          refine ⟨iI sz, S1, S2, ?_, ?_, hI.sh F1 (SH.upd (t := t) h4 ?_ ?_ ?_ ?_ ?_ ?_ (Or.inr ⟨fm, sz, by omega, by omega, ?_, ?_, ?_, ?_, ?_⟩)) ?_⟩
          · rw [p_isSheet S z1 z2, bn_s, b2i_p q, if_neg z10', p_isForm S y1 y2, bn_s, b2i_p q2, if_neg z10', if_neg (by rw [i_0, iI_lt (by omega) (by omega) (by omega) (by omega)]; omega), if_pos c60, hvi, ck_t, hcl, lt_b, ck_t, lt_b, a1, bn_s]
          · rw [(eM S1).1, bn_s, if_neg z10', (eM S1).2, bn_s, if_neg z10', hvi, ck_t, hcl, lt_b, ck_t, lt_b, b1, if_pos c60, if_pos c0]
          · intro t' e; rw [b2.1 _ _ (by omega), us_ne (by omega), us_ne (by omega), a2.1 _ _ (by omega), us_ne (by omega), us_nb e]
          · intro t' e; rw [b2.1 _ _ (by omega), us_ne (by omega), us_ne (by omega), a2.1 _ _ (by omega), us_nb e, us_ne (by omega)]
          · intro t' e; rw [b2.1 _ _ (by omega), us_ne (by omega), us_nb e, a2.1 _ _ (by omega), us_ne (by omega), us_ne (by omega)]
          · intro t' e; rw [b2.1 _ _ (by omega), us_nb e, us_ne (by omega), a2.1 _ _ (by omega), us_ne (by omega), us_ne (by omega)]
          · intro t' e; rw [b2.1 _ _ (by omega), us_ne (by omega), us_ne (by omega), a2.1 _ _ (by omega), us_ne (by omega), us_ne (by omega)]
          · intro t' j e hj; rw [b4 _ (by omega), us_ne (by omega), us_ne (by omega), a2.1 _ _ (by omega), us_ne (by omega), us_ne (by omega)]
          · rw [b2.1 _ _ (by omega), us_ne (by omega), us_ne (by omega), a2.1 _ _ (by omega), us_ne (by omega), us_same]
          · rw [b2.1 _ _ (by omega), us_ne (by omega), us_same]
          · rw [b2.1 _ _ (by omega), us_ne (by omega), us_ne (by omega), a2.1 _ _ (by omega), us_same]
          · rw [b2.1 _ _ (by omega), us_same]
          · intro j hj
            rw [b2.1 26 _ (by omega), us_ne (by omega), us_ne (by omega), a3 j (by omega), b3 j hj, if_neg (by omega), if_neg (by omega)]
          · rw [b2.1 _ _ (by omega), us_ne (by omega), us_ne (by omega), a2.1 _ _ (by omega), us_ne (by omega), us_ne (by omega), b2.1 _ _ (by omega), us_ne (by omega), us_ne (by omega), a2.1 _ _ (by omega), us_ne (by omega), us_ne (by omega)]
            exact h5
        · have c0 : ¬ ((0 : Int32) ≤ iI x) := by rw [i_0, iI_le (by omega) (by omega) (by omega) (by omega)]; omega
          rw [if_neg c0]
          refine ⟨_, us S 111 0 0 (5 : Int32), us (us S 111 0 0 (5 : Int32)) 113 0 0 (5 : Int32), rfl, ?_, hI.find _⟩
          rw [(eM _).1, bn_s, if_neg z10', (eM _).2, bn_s, if_neg z10', if_pos c60, if_neg c0]
          rfl
      · have c60 : ¬ (iI x ≤ (60 : Int32)) := by rw [i_60, iI_le (by omega) (by omega) (by omega) (by omega)]; omega
        rw [if_neg c60]
        refine ⟨_, S, S, rfl, ?_, hI⟩
        rw [(eM _).1, bn_s, if_neg z10', (eM _).2, bn_s, if_neg z10', if_neg c60]
    · rw [b2i_n q2, if_pos z00]
      refine ⟨_, S, S, rfl, ?_, hI⟩
      rw [m_isSheet _ z1 z2, bn_s, b2i_p q, if_neg z10', l_0, l_2, m_in2 _ y1 y2 (by omega) (by omega) (by omega) (by omega), bn_s, b2i_n q2, if_pos z00]
  · rw [b2i_n q, if_pos z00]
    refine ⟨_, S, S, rfl, ?_, hI⟩
    rw [m_isSheet _ z1 z2, bn_s, b2i_n q, if_pos z00]
