/-! heights written to a sheet -/
def fmV (fm : Nat) (v : Int32) : Int32 := if iI fm = (0 : Int32) then v.toInt8.toInt32 else if iI fm = (1 : Int32) then v.toInt16.toInt32 else v
theorem p_asForm (fm : Nat) (v : Int32) (S : sT) : f_X5_asForm (iI fm) v S = some (fmV fm v) ∧ f_X11_cut (iI fm) v S = some (fmV fm v) := by
  unfold f_X5_asForm f_X11_cut fmV
  by_cases c1 : iI (fm : Int) = (0 : Int32)
  · rw [if_pos c1, if_pos c1]; exact ⟨rfl, rfl⟩
  · by_cases c2 : iI (fm : Int) = (1 : Int32)
    · rw [if_neg c1, if_pos c2, if_neg c1, if_pos c2]; exact ⟨rfl, rfl⟩
    · rw [if_neg c1, if_neg c2, if_neg c1, if_neg c2]; exact ⟨rfl, rfl⟩
theorem p_put5 {S : sT} {t fm sz j : Nat} {v : Int32} (ht : t < 4) (h27 : S.1 27 0 t = iI fm) (h28 : S.1 28 0 t = iI sz) (hs : sz ≤ 60) (hj : j < sz) : f_X5_put (iI t) (iI j) v S = some (us S 26 t j (fmV fm v)) := by
  have hvi : vi (iI (t : Int)) 4 = true := vi_iI (by omega) (by omega) (by omega)
  have hcl : cl (iI (t : Int)) = t := by rw [cl_iI (by omega) (by omega)]; rfl
  have hvj : vi (iI (j : Int)) 60 = true := vi_iI (by omega) (by omega) (by omega)
  have hcj : cl (iI (j : Int)) = j := by rw [cl_iI (by omega) (by omega)]; rfl
  unfold f_X5_put
  rw [p_isItem ht h28 hs (by omega) (by omega), bn_s, b2i_p (by omega), if_neg (show ¬ (iI 1 = (0 : Int32)) from z10), hvi, ck_t, hcl, lt_b, ck_t, h27, (p_asForm fm v S).1, bn_s, hvj, ck_t, hcj]
  rfl
theorem p_write_l {w n x t fm sz : Nat} {f : Nat → List Nat} (ht' : t < 4) (hs : sz ≤ 60) (hx : x ≤ n) (hx2 : x ≤ sz) : ∀ (d k m : Nat) (S : sT), RW S w n f → S.1 27 0 t = iI fm → S.1 28 0 t = iI sz → k + d = x → d < m → ∃ S', l_X10_write_63 (iI t) w (iI x) m (iI k) S = some (iI x, S') ∧ Fr (fun k i => k = 26 ∧ i = t) S S' ∧ ∀ j, S'.1 26 t j = if k ≤ j ∧ j < x then fmV fm (iI (ht (f j))) else S.1 26 t j := by
  intro d
  induction d with
  | zero =>
    intro k m S hW h27 h28 hk hm
    have hn := hW.1
    obtain ⟨m, rfl⟩ : ∃ m', m = m' + 1 := ⟨m - 1, by omega⟩
    refine ⟨S, ?_, Fr.rf, fun j => by rw [if_neg (by omega)]⟩
    rw [l_X10_write_63_s]
    unfold b_X10_write_63
    rw [if_pos (by rw [iI_le (by omega) (by omega) (by omega) (by omega)]; omega)]
  | succ d ih =>
    intro k m S hW h27 h28 hk hm
    have hn := hW.1
    obtain ⟨m, rfl⟩ : ∃ m', m = m' + 1 := ⟨m - 1, by omega⟩
    obtain ⟨S', a1, a2, a3⟩ := ih (k + 1) m (us S 26 t k (fmV fm (iI (ht (f k))))) (by
      refine hW.kept ?_ ?_ ?_ ?_ ?_
      all_goals (rw [us_ne (by omega)])) (by rw [us_ne (by omega)]; exact h27) (by rw [us_ne (by omega)]; exact h28) (by omega) (by omega)
    refine ⟨S', ?_, (Fr.us ⟨rfl, rfl⟩).tr a2, fun j => ?_⟩
    · rw [l_X10_write_63_s]
      unfold b_X10_write_63
      rw [if_neg (by rw [iI_le (by omega) (by omega) (by omega) (by omega)]; omega), p_heightOf_in hW (by omega), bn_s, p_put5 ht' h27 h28 hs (by omega), bn_s, lt_b, show iI (k : Int) + (1 : Int32) = iI ((k + 1 : Nat) : Int) by rw [i_1, iI_add]; rfl]
      exact a1
    · rw [a3 j]
      by_cases q : j = k
      · subst q
        rw [if_neg (by omega), if_pos (by omega), us_same]
      · by_cases q2 : k + 1 ≤ j ∧ j < x
        · rw [if_pos q2, if_pos (by omega)]
        · rw [if_neg q2, if_neg (by omega), us_nb q]
theorem m_write_l {n x t fm : Nat} {f : Nat → List Nat} (ht' : t < 4) (hx : x ≤ n) : ∀ (d k m : Nat) (S : sT), RM S n f → S.1 33 0 t = iI fm → k + d = x → d < m → ∃ S', l_X11_write_59 (iI t) (iI x) m (iI k) S = some (iI x, S') ∧ Fr (fun k i => k = 35 ∧ i = 0) S S' ∧ ∀ i, S'.1 35 0 i = if 60 * t + k ≤ i ∧ i < 60 * t + x then fmV fm (iI (ht (f (i - 60 * t)))) else S.1 35 0 i := by
  have hvi : vi (iI (t : Int)) 4 = true := vi_iI (by omega) (by omega) (by omega)
  have hcl : cl (iI (t : Int)) = t := by rw [cl_iI (by omega) (by omega)]; rfl
  intro d
  induction d with
  | zero =>
    intro k m S hW h33 hk hm
    have hn := hW.1
    obtain ⟨m, rfl⟩ : ∃ m', m = m' + 1 := ⟨m - 1, by omega⟩
    refine ⟨S, ?_, Fr.rf, fun j => by rw [if_neg (by omega)]⟩
    rw [l_X11_write_59_s]
    unfold b_X11_write_59
    rw [if_pos (by rw [iI_le (by omega) (by omega) (by omega) (by omega)]; omega)]
  | succ d ih =>
    intro k m S hW h33 hk hm
    have hn := hW.1
    obtain ⟨m, rfl⟩ : ∃ m', m = m' + 1 := ⟨m - 1, by omega⟩
    obtain ⟨S', a1, a2, a3⟩ := ih (k + 1) m (us S 35 0 (60 * t + k) (fmV fm (iI (ht (f k))))) (hW.kept (by rw [us_ne (by omega)]) (by rw [us_ne (by omega)]) (by rw [us_ne (by omega)])) (by rw [us_ne (by omega)]; exact h33) (by omega) (by omega)
    refine ⟨S', ?_, (Fr.us ⟨rfl, rfl⟩).tr a2, fun i => ?_⟩
    · rw [l_X11_write_59_s]
      unfold b_X11_write_59
      rw [if_neg (by rw [iI_le (by omega) (by omega) (by omega) (by omega)]; omega), hvi, ck_t, hcl, m_highOf hW (by omega), bn_s, h33, (p_asForm fm _ S).2, bn_s, i_60, iI_mul, iI_add, vi_iI (by omega) (by omega) (by omega), ck_t, cl_iI (by omega) (by omega), show ((60 : Int) * (t : Int) + (k : Int)).toNat = 60 * t + k by omega, lt_b, lt_b, show iI (k : Int) + (1 : Int32) = iI ((k + 1 : Nat) : Int) by rw [i_1, iI_add]; rfl]
      exact a1
    · rw [a3 i]
      by_cases q : i = 60 * t + k
      · subst q
        rw [if_neg (by omega), if_pos (by omega), us_same, show 60 * t + k - 60 * t = k by omega]
      · by_cases q2 : 60 * t + (k + 1) ≤ i ∧ i < 60 * t + x
        · rw [if_pos q2, if_pos (by omega)]
        · rw [if_neg q2, if_neg (by omega), us_nb q]
