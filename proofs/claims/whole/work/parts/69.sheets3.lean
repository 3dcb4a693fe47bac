/-! laying and getting -/
theorem p_isItem {S : sT} {t sz : Nat} {x : Int} (ht : t < 4) (h : S.1 28 0 t = iI sz) (hs : sz ≤ 60) (x1 : -2147483648 ≤ x) (x2 : x < 2147483648) : f_X5_isItem (iI t) (iI x) S = some (iI (b2i (decide (0 ≤ x ∧ x ≤ (sz : Int) - 1)))) := by
  unfold f_X5_isItem
  by_cases q : 0 ≤ x
  · rw [if_neg (by rw [i_0, iI_lt (by omega) (by omega) (by omega) (by omega)]; omega), p_sizeOf5 ht h hs, bn_s]
    by_cases q2 : x ≤ (sz : Int) - 1
    · rw [if_neg (by rw [iI_le (by omega) (by omega) (by omega) (by omega)]; omega), if_neg (by rw [i_60, iI_le (by omega) (by omega) (by omega) (by omega)]; omega), b2i_p ⟨q, q2⟩]; rfl
    · rw [if_pos (by rw [iI_le (by omega) (by omega) (by omega) (by omega)]; omega), b2i_n (fun w => q2 w.2)]; rfl
  · rw [if_pos (by rw [i_0, iI_lt (by omega) (by omega) (by omega) (by omega)]; omega), b2i_n (fun w => q w.1)]; rfl
/-- what both say of a place in a sheet -/
theorem sheet_look {S : sT} {t y : Nat} {x : Int} (h4 : SH S) (ht : t < 4) (hy : y ≤ 2) (x1 : -2147483648 ≤ x) (x2 : x < 2147483648) : (∃ j sz : Nat, x = j ∧ j < sz ∧ sz ≤ 60 ∧ S.1 27 0 t = iI y ∧ S.1 28 0 t = iI sz ∧ S.1 33 0 t = iI y ∧ S.1 34 0 t = iI sz ∧ (∀ j, j < sz → S.1 26 t j = S.1 35 0 (60 * t + j)) ∧ f_X5_refusalOf (iI t) (iI y) (iI x) S = some ((0 : Int32), S) ∧ ∀ S1 : sT, S1.1 33 0 t = S.1 33 0 t → S1.1 34 0 t = S.1 34 0 t → f_X11_lacks (iI t) (iI y) (iI x) S1 = some ((0 : Int32), S1)) ∨ (∃ k : Int32, ¬ ((-10 : Int32) - k = 0) ∧ f_X5_refusalOf (iI t) (iI y) (iI x) S = some ((-10 : Int32) - k, us S 111 0 0 k) ∧ f_X11_lacks (iI t) (iI y) (iI x) (us S 111 0 0 k) = some ((-10 : Int32) - k, us (us S 111 0 0 k) 113 0 0 k)) := by
  have z10' : ¬ (iI 1 = (0 : Int32)) := z10
  have z00 : iI 0 = (0 : Int32) := rfl
  have hvi : vi (iI (t : Int)) 4 = true := vi_iI (by omega) (by omega) (by omega)
  have hcl : cl (iI (t : Int)) = t := by rw [cl_iI (by omega) (by omega)]; rfl
  have eR : f_X5_refusalOf (iI t) (iI y) (iI x) S = bn (f_X5_isLost (iI t) S) (fun r6 => (if r6 = (0 : Int32) then (if (S.1 27 0 t) = iI y then bn (f_X5_isItem (iI t) (iI x) S) (fun r9 => (if r9 = (0 : Int32) then bn2 (f_X5_find (2 : Int32) S) (fun r11 S12 => some (r11, S12)) else some ((0 : Int32), S))) else bn2 (f_X5_find (3 : Int32) S) (fun r15 S16 => some (r15, S16))) else bn2 (f_X5_find (1 : Int32) S) (fun r19 S20 => some (r19, S20)))) := by
    unfold f_X5_refusalOf
    rw [p_isSheet S (by omega) (by omega), bn_s, b2i_p (by omega), if_neg z10', p_isForm S (by omega) (by omega), bn_s, b2i_p (by omega), if_neg z10']
    simp only [hvi, ck_t, hcl]
  rw [eR]
  unfold f_X11_lacks
  simp only [hvi, ck_t, hcl]
  rcases h4 t ht with ⟨a1, a2⟩ | ⟨fm, sz, a1, a2, a3, a4, a5, a6, a7⟩
  · refine Or.inr ⟨1, by decide, ?_, ?_⟩
    · rw [p_isLost ht a1 (by omega) (by omega), bn_s, if_pos rfl, if_neg z10']; rfl
    · rw [us_ne (f' := 33) (by omega), a2, if_neg (by decide)]; rfl
  · rw [p_isLost ht a5 (by omega) (by omega), bn_s, if_neg (show ¬ ((sz : Int) = -1) by omega), if_pos z00, a3]
    have c0 : (0 : Int32) ≤ iI (fm : Int) := by rw [i_0, iI_le (by omega) (by omega) (by omega) (by omega)]; omega
    by_cases q : fm = y
    · subst q
      rw [if_pos rfl, p_isItem ht a5 a2 x1 x2, bn_s]
      by_cases q2 : 0 ≤ x ∧ x ≤ (sz : Int) - 1
      · refine Or.inl ⟨x.toNat, sz, by omega, by omega, a2, rfl, a5, a4, a6, a7, ?_, fun S1 e33 e34 => ?_⟩
        · rw [b2i_p q2, if_neg z10']
        · rw [e33, e34, a4, a6, if_pos c0, if_pos rfl, i_1, iI_sub, iI_toL (z := (sz : Int) - 1) (by omega) (by omega), l_0, m_in2 _ x1 x2 (by omega) (by omega) (by omega) (by omega), bn_s, b2i_p q2, if_neg z10']
      · refine Or.inr ⟨2, by decide, ?_, ?_⟩
        · rw [b2i_n q2, if_pos z00]; rfl
        · rw [us_ne (f' := 33) (by omega), us_ne (f' := 34) (by omega), a4, a6, if_pos c0, if_pos rfl, show iI (sz : Int) - (1 : Int32) = iI ((sz : Int) - 1) by rw [i_1, iI_sub], iI_toL (z := (sz : Int) - 1) (by omega) (by omega), l_0, m_in2 _ x1 x2 (by omega) (by omega) (by omega) (by omega), bn_s, b2i_n q2, if_pos z00]; rfl
    · have cn : ¬ (iI (fm : Int) = iI (y : Int)) := by rw [iI_eq (by omega) (by omega) (by omega) (by omega)]; omega
      refine Or.inr ⟨3, by decide, ?_, ?_⟩
      · rw [if_neg cn]; rfl
      · rw [us_ne (f' := 33) (by omega), a4, if_pos c0, if_neg cn]; rfl
theorem p_itemAt {S : sT} {t sz j : Nat} (ht : t < 4) (h : S.1 28 0 t = iI sz) (hs : sz ≤ 60) (hj : j < sz) : f_X5_itemAt (iI t) (iI j) S = some (S.1 26 t j) := by
  have hcl : cl (iI (t : Int)) = t := by rw [cl_iI (by omega) (by omega)]; rfl
  unfold f_X5_itemAt
  rw [p_isItem ht h hs (by omega) (by omega), bn_s, b2i_p (by omega), if_neg (show ¬ (iI 1 = (0 : Int32)) from z10), vi_iI (by omega) (by omega) (by omega), ck_t, lt_b, vi_iI (by omega) (by omega) (by omega), ck_t, hcl, cl_iI (by omega) (by omega), Int.toNat_natCast]
theorem T_24 : St_24 Inv := by
  intro S hI v1 v2 v3
  obtain ⟨z, z1, z2, rfl⟩ := iI_ex v1
  obtain ⟨y, y1, y2, rfl⟩ := iI_ex v2
  obtain ⟨x, x1, x2, rfl⟩ := iI_ex v3
  have z10' : ¬ (iI 1 = (0 : Int32)) := z10
  have z00 : iI 0 = (0 : Int32) := rfl
  have m20 : ¬ ((-2 : Int32) = 0) := by decide
  obtain ⟨L, st, sg, h1, h2, h3, h4, h5⟩ := id hI
  unfold f_X10_get f_X11_get
  by_cases q : 0 ≤ z ∧ z ≤ 3
  · obtain ⟨t, rfl⟩ : ∃ t : Nat, z = t := ⟨z.toNat, by omega⟩
    by_cases q2 : 0 ≤ y ∧ y ≤ 2
    · obtain ⟨fm, rfl⟩ : ∃ t : Nat, y = t := ⟨y.toNat, by omega⟩
      have eM : ∀ S1 : sT, f_X11_isSheet (iI t) S1 = some (iI 1) ∧ f_X11_in (iI (fm : Int)).toInt64 (0 : Int64) (2 : Int64) S1 = some (iI 1) := fun S1 => ⟨by rw [m_isSheet S1 z1 z2, b2i_p q], by rw [l_0, l_2, m_in2 _ y1 y2 (by omega) (by omega) (by omega) (by omega), b2i_p q2]⟩
      rcases sheet_look h4 (t := t) (y := fm) (by omega) (by omega) x1 x2 with ⟨j, sz, rfl, g2, g3, g4, g5, g6, g7, g8, g9, g10⟩ | ⟨k, g1, g2, g3⟩
      · rw [g9, bn2_s, if_pos rfl, p_itemAt (by omega) g5 g3 g2, bn_s]
        refine ⟨_, S, S, rfl, ?_, hI⟩
        rw [(eM S).1, bn_s, if_neg z10', (eM S).2, bn_s, if_neg z10', g10 S rfl rfl, bn2_s, if_pos rfl, i_60, iI_mul, iI_add, vi_iI (by omega) (by omega) (by omega), ck_t, cl_iI (by omega) (by omega), show ((60 : Int) * (t : Int) + (j : Int)).toNat = 60 * t + j by omega, g8 j g2]
      · rw [g2, bn2_s, if_neg g1]
        refine ⟨_, _, _, rfl, ?_, hI.find k⟩
        rw [(eM _).1, bn_s, if_neg z10', (eM _).2, bn_s, if_neg z10', g3, bn2_s, if_neg g1]
    · have e : f_X5_refusalOf (iI t) (iI y) (iI x) S = some ((-2 : Int32), S) := by
        unfold f_X5_refusalOf
        rw [p_isSheet S z1 z2, bn_s, b2i_p q, if_neg z10', p_isForm S y1 y2, bn_s, b2i_n q2, if_pos z00]
      rw [e, bn2_s, if_neg m20]
      refine ⟨_, S, S, rfl, ?_, hI⟩
      rw [m_isSheet _ z1 z2, bn_s, b2i_p q, if_neg z10', l_0, l_2, m_in2 _ y1 y2 (by omega) (by omega) (by omega) (by omega), bn_s, b2i_n q2, if_pos z00]
  · have e : f_X5_refusalOf (iI z) (iI y) (iI x) S = some ((-2 : Int32), S) := by
      unfold f_X5_refusalOf
      rw [p_isSheet S z1 z2, bn_s, b2i_n q, if_pos z00]
    rw [e, bn2_s, if_neg m20]
    refine ⟨_, S, S, rfl, ?_, hI⟩
    rw [m_isSheet _ z1 z2, bn_s, b2i_n q, if_pos z00]
theorem T_23 : St_23 Inv := by
  intro S hI v1 v2 v3 v4
  obtain ⟨z, z1, z2, rfl⟩ := iI_ex v1
  obtain ⟨y, y1, y2, rfl⟩ := iI_ex v2
  obtain ⟨x, x1, x2, rfl⟩ := iI_ex v3
  have z10' : ¬ (iI 1 = (0 : Int32)) := z10
  have z00 : iI 0 = (0 : Int32) := rfl
  have m20 : ¬ ((-2 : Int32) = 0) := by decide
  obtain ⟨L, st, sg, h1, h2, h3, h4, h5⟩ := id hI
  unfold f_X10_lay f_X11_lay
  by_cases q : 0 ≤ z ∧ z ≤ 3
  · obtain ⟨t, rfl⟩ : ∃ t : Nat, z = t := ⟨z.toNat, by omega⟩
    have hvi : vi (iI (t : Int)) 4 = true := vi_iI (by omega) (by omega) (by omega)
    have hcl : cl (iI (t : Int)) = t := by rw [cl_iI (by omega) (by omega)]; rfl
    by_cases q2 : 0 ≤ y ∧ y ≤ 2
    · obtain ⟨fm, rfl⟩ : ∃ t : Nat, y = t := ⟨y.toNat, by omega⟩
      have eM : ∀ S1 : sT, f_X11_isSheet (iI t) S1 = some (iI 1) ∧ f_X11_in (iI (fm : Int)).toInt64 (0 : Int64) (2 : Int64) S1 = some (iI 1) := fun S1 => ⟨by rw [m_isSheet S1 z1 z2, b2i_p q], by rw [l_0, l_2, m_in2 _ y1 y2 (by omega) (by omega) (by omega) (by omega), b2i_p q2]⟩
      rcases sheet_look h4 (t := t) (y := fm) (by omega) (by omega) x1 x2 with ⟨j, sz, rfl, g2, g3, g4, g5, g6, g7, g8, g9, g10⟩ | ⟨k, g1, g2, g3⟩
      · have ev : ∃ v : Int32, ∀ S' : sT, f_X5_asForm (iI fm) v4 S' = some v ∧ f_X11_cut (iI fm) v4 S' = some v := by
          unfold f_X5_asForm f_X11_cut
          by_cases c1 : iI (fm : Int) = (0 : Int32)
          · exact ⟨_, fun S' => ⟨if_pos c1, if_pos c1⟩⟩
          · by_cases c2 : iI (fm : Int) = (1 : Int32)
            · exact ⟨_, fun S' => ⟨by rw [if_neg c1, if_pos c2], by rw [if_neg c1, if_pos c2]⟩⟩
            · exact ⟨_, fun S' => ⟨by rw [if_neg c1, if_neg c2], by rw [if_neg c1, if_neg c2]⟩⟩
        obtain ⟨v, ev⟩ := ev
        have hvj : vi (iI (j : Int)) 60 = true := vi_iI (by omega) (by omega) (by omega)
        have hcj : cl (iI (j : Int)) = j := by rw [cl_iI (by omega) (by omega)]; rfl
        have eP : f_X5_put (iI t) (iI j) v4 S = some (us S 26 t j v) := by
          unfold f_X5_put
          rw [p_isItem (by omega) g5 g3 (by omega) (by omega), bn_s, b2i_p (by omega), if_neg z10', hvi, ck_t, hcl, lt_b, ck_t, g4, (ev S).1, bn_s, hvj, ck_t, hcj]
          rfl
        rw [g9, bn2_s, if_pos rfl, eP, bn_s]
        refine ⟨_, us S 26 t j v, us (us S 26 t j v) 35 0 (60 * t + j) v, rfl, ?_, hI.sh ((Fr.us (by unfold PHF KH; omega)).tr (Fr.us (by unfold PHF KH; omega))) (SH.upd (t := t) h4 ?_ ?_ ?_ ?_ ?_ ?_ (Or.inr ⟨fm, sz, by omega, by omega, ?_, ?_, ?_, ?_, ?_⟩)) ?_⟩
        · rw [(eM _).1, bn_s, if_neg z10', (eM _).2, bn_s, if_neg z10', g10 _ (by rw [us_ne (by omega)]) (by rw [us_ne (by omega)]), bn2_s, if_pos rfl, (ev _).2, bn_s, i_60, iI_mul, iI_add, vi_iI (by omega) (by omega) (by omega), ck_t, cl_iI (by omega) (by omega), show ((60 : Int) * (t : Int) + (j : Int)).toNat = 60 * t + j by omega]
          rfl
        · intro t' e; simp (disch := omega) only [us_ne]
        · intro t' e; simp (disch := omega) only [us_ne]
        · intro t' e; simp (disch := omega) only [us_ne]
        · intro t' e; simp (disch := omega) only [us_ne]
        · intro t' e; rw [us_ne (by omega), us_ni e]
        · intro t' j' e hj'; rw [us_nb (by omega), us_ne (by omega)]
        · simp (disch := omega) only [us_ne]; exact g4
        · simp (disch := omega) only [us_ne]; exact g6
        · simp (disch := omega) only [us_ne]; exact g5
        · simp (disch := omega) only [us_ne]; exact g7
        · intro j' hj'
          by_cases e : j' = j
          · subst e; rw [us_same, us_ne (by omega), us_same]
          · rw [us_ne (f' := 26) (by omega), us_nb e, us_nb (by omega), us_ne (by omega)]; exact g8 j' hj'
        · simp (disch := omega) only [us_ne]; exact h5
      · rw [g2, bn2_s, if_neg g1]
        refine ⟨_, _, _, rfl, ?_, hI.find k⟩
        rw [(eM _).1, bn_s, if_neg z10', (eM _).2, bn_s, if_neg z10', g3, bn2_s, if_neg g1]
    · have e : f_X5_refusalOf (iI t) (iI y) (iI x) S = some ((-2 : Int32), S) := by
        unfold f_X5_refusalOf
        rw [p_isSheet S z1 z2, bn_s, b2i_p q, if_neg z10', p_isForm S y1 y2, bn_s, b2i_n q2, if_pos z00]
      rw [e, bn2_s, if_neg m20]
      refine ⟨_, S, S, rfl, ?_, hI⟩
      rw [m_isSheet _ z1 z2, bn_s, b2i_p q, if_neg z10', l_0, l_2, m_in2 _ y1 y2 (by omega) (by omega) (by omega) (by omega), bn_s, b2i_n q2, if_pos z00]
  · have e : f_X5_refusalOf (iI z) (iI y) (iI x) S = some ((-2 : Int32), S) := by
      unfold f_X5_refusalOf
      rw [p_isSheet S z1 z2, bn_s, b2i_n q, if_pos z00]
    rw [e, bn2_s, if_neg m20]
    refine ⟨_, S, S, rfl, ?_, hI⟩
    rw [m_isSheet _ z1 z2, bn_s, b2i_n q, if_pos z00]
