/-! sheets -/
def SHt (S : sT) (t : Nat) : Prop := (S.1 28 0 t = iI (-1) ∧ S.1 33 0 t = iI (-1)) ∨ ∃ fm sz : Nat, fm ≤ 2 ∧ sz ≤ 60 ∧ S.1 27 0 t = iI fm ∧ S.1 33 0 t = iI fm ∧ S.1 28 0 t = iI sz ∧ S.1 34 0 t = iI sz ∧ ∀ j, j < sz → S.1 26 t j = S.1 35 0 (60 * t + j)
def PHF : Nat → Nat → Prop := fun k i => KH k i ∨ KF k i
theorem Inv.sh {S S' : sT} (h : Inv S) (F : Fr PHF S S') (g : SH S') (gf : S'.1 111 0 0 = S'.1 113 0 0) : Inv S' := by
  obtain ⟨L, st, sg, h1, h2, h3, h4, h5⟩ := h
  exact ⟨L, st, sg, h1.fr F (fun k i z => by unfold KC at z; unfold PHF KH KF; omega), h2.fr F (fun k i z => by unfold KM at z; unfold PHF KH KF; omega), h3.fr F (fun k i z => by unfold KG at z; unfold PHF KH KF; omega), g, gf⟩
theorem SH.upd {S S' : sT} {t : Nat} (h : SH S) (h27 : ∀ t', t' ≠ t → S'.1 27 0 t' = S.1 27 0 t') (h28 : ∀ t', t' ≠ t → S'.1 28 0 t' = S.1 28 0 t') (h33 : ∀ t', t' ≠ t → S'.1 33 0 t' = S.1 33 0 t') (h34 : ∀ t', t' ≠ t → S'.1 34 0 t' = S.1 34 0 t') (h26 : ∀ t', t' ≠ t → S'.1 26 t' = S.1 26 t') (h35 : ∀ t' j, t' ≠ t → j < 60 → S'.1 35 0 (60 * t' + j) = S.1 35 0 (60 * t' + j)) (g : SHt S' t) : SH S' := by
  intro t' ht'
  by_cases e : t' = t
  · subst e; exact g
  · rw [h27 _ e, h28 _ e, h33 _ e, h34 _ e, h26 _ e]
    rcases h t' ht' with a | ⟨fm, sz, a1, a2, a3, a4, a5, a6, a7⟩
    · exact Or.inl a
    · exact Or.inr ⟨fm, sz, a1, a2, a3, a4, a5, a6, fun j hj => by rw [h35 _ _ e (by omega)]; exact a7 j hj⟩
/-- a finding in both -/
theorem Inv.find {S : sT} (h : Inv S) (v : Int32) : Inv (us (us S 111 0 0 v) 113 0 0 v) := by
  obtain ⟨L, st, sg, h1, h2, h3, h4, h5⟩ := id h
  have F : Fr KF S (us (us S 111 0 0 v) 113 0 0 v) := (Fr.us (by unfold KF; omega)).tr (Fr.us (by unfold KF; omega))
  refine h.sh (F.mono (fun k i z => Or.inr z)) (h4.fr F (fun k i z => by unfold KH at z; unfold KF; omega)) (by rw [us_same, us_ne (by omega), us_same])
theorem p_isSheet {z : Int} (S : sT) (z1 : -2147483648 ≤ z) (z2 : z < 2147483648) : f_X5_isSheet (iI z) S = some (iI (b2i (decide (0 ≤ z ∧ z ≤ 3)))) := by
  unfold f_X5_isSheet
  by_cases q : 0 ≤ z
  · rw [if_neg (by rw [i_0, iI_lt (by omega) (by omega) (by omega) (by omega)]; omega)]
    by_cases q2 : z ≤ 3
    · rw [if_neg (by rw [i_4, iI_le (by omega) (by omega) (by omega) (by omega)]; omega), b2i_p ⟨q, q2⟩]; rfl
    · rw [if_pos (by rw [i_4, iI_le (by omega) (by omega) (by omega) (by omega)]; omega), b2i_n (fun w => q2 w.2)]; rfl
  · rw [if_pos (by rw [i_0, iI_lt (by omega) (by omega) (by omega) (by omega)]; omega), b2i_n (fun w => q w.1)]; rfl
theorem p_isForm {z : Int} (S : sT) (z1 : -2147483648 ≤ z) (z2 : z < 2147483648) : f_X5_isForm (iI z) S = some (iI (b2i (decide (0 ≤ z ∧ z ≤ 2)))) := by
  unfold f_X5_isForm
  by_cases q : 0 ≤ z
  · rw [if_neg (by rw [i_0, iI_lt (by omega) (by omega) (by omega) (by omega)]; omega)]
    by_cases q2 : z ≤ 2
    · rw [if_neg (by rw [i_2, iI_lt (by omega) (by omega) (by omega) (by omega)]; omega), b2i_p ⟨q, q2⟩]; rfl
    · rw [if_pos (by rw [i_2, iI_lt (by omega) (by omega) (by omega) (by omega)]; omega), b2i_n (fun w => q2 w.2)]; rfl
  · rw [if_pos (by rw [i_0, iI_lt (by omega) (by omega) (by omega) (by omega)]; omega), b2i_n (fun w => q w.1)]; rfl
theorem l_2 : (2 : Int64) = lI 2 := by decide
theorem l_3 : (3 : Int64) = lI 3 := by decide
theorem m_isSheet {z : Int} (S : sT) (z1 : -2147483648 ≤ z) (z2 : z < 2147483648) : f_X11_isSheet (iI z) S = some (iI (b2i (decide (0 ≤ z ∧ z ≤ 3)))) := by
  unfold f_X11_isSheet
  rw [l_0, l_3, m_in2 S z1 z2 (by omega) (by omega) (by omega) (by omega), bn_s, vz_b, ck_t]
theorem p_isLost {S : sT} {t : Nat} {v : Int} (ht : t < 4) (h : S.1 28 0 t = iI v) (v1 : -1 ≤ v) (v2 : v ≤ 60) : f_X5_isLost (iI t) S = some (iI (if v = -1 then 1 else 0)) := by
  unfold f_X5_isLost
  rw [p_isSheet S (by omega) (by omega), bn_s, b2i_p (by omega), jn_b, if_neg (show ¬ (iI 1 = (0 : Int32)) from z10), vi_iI (by omega) (by omega) (by omega), ck_t, cl_iI (by omega) (by omega), Int.toNat_natCast, h]
  by_cases q : v = -1
  · rw [if_pos (by rw [q]; rfl), if_pos q]; rfl
  · rw [if_neg (by rw [i_m1, iI_eq (by omega) (by omega) (by omega) (by omega)]; omega), if_neg q]; rfl
theorem p_sizeOf5 {S : sT} {t : Nat} {v : Nat} (ht : t < 4) (h : S.1 28 0 t = iI v) (v2 : v ≤ 60) : f_X5_sizeOf (iI t) S = some (iI v) := by
  unfold f_X5_sizeOf
  rw [p_isLost ht h (by omega) (by omega), bn_s, if_neg (show ¬ ((v : Int) = -1) by omega), if_pos (show iI 0 = (0 : Int32) from rfl), vi_iI (by omega) (by omega) (by omega), ck_t, cl_iI (by omega) (by omega), Int.toNat_natCast, h]
theorem T_22 : St_22 Inv := by
  intro S hI v1
  obtain ⟨z, z1, z2, rfl⟩ := iI_ex v1
  have z10' : ¬ (iI 1 = (0 : Int32)) := z10
  have z00 : iI 0 = (0 : Int32) := rfl
  obtain ⟨L, st, sg, h1, h2, h3, h4, h5⟩ := id hI
  unfold f_X10_lose f_X11_lose
  rw [p_isSheet S z1 z2, bn_s]
  by_cases q : 0 ≤ z ∧ z ≤ 3
  · obtain ⟨t, rfl⟩ : ∃ t : Nat, z = t := ⟨z.toNat, by omega⟩
    rw [b2i_p q, if_neg z10']
    have hvi : vi (iI (t : Int)) 4 = true := vi_iI (by omega) (by omega) (by omega)
    have hcl : cl (iI (t : Int)) = t := by rw [cl_iI (by omega) (by omega)]; rfl
    rcases h4 t (by omega) with ⟨a1, a2⟩ | ⟨fm, sz, a1, a2, a3, a4, a5, a6, a7⟩
    · rw [p_isLost (by omega) a1 (by omega) (by omega), bn_s, if_pos rfl, if_neg z10']
      refine ⟨_, us S 111 0 0 (1 : Int32), us (us S 111 0 0 (1 : Int32)) 113 0 0 (1 : Int32), rfl, ?_, hI.find _⟩
      rw [m_isSheet _ z1 z2, bn_s, b2i_p q, if_neg z10', hvi, ck_t, hcl, us_ne (by omega), a2, if_neg (by decide)]
      rfl
    · rw [p_isLost (by omega) a5 (by omega) (by omega), bn_s, if_neg (show ¬ ((sz : Int) = -1) by omega), if_pos z00, p_sizeOf5 (by omega) a5 a2, bn_s]
      refine ⟨iI sz, us S 28 0 t (-1 : Int32), us (us S 28 0 t (-1 : Int32)) 33 0 t (-1 : Int32), ?_, ?_, hI.sh ((Fr.us (by unfold PHF KH; omega)).tr (Fr.us (by unfold PHF KH; omega))) (SH.upd (t := t) h4 ?_ ?_ ?_ ?_ ?_ ?_ (Or.inl ⟨?_, ?_⟩)) ?_⟩
      · unfold f_X5_drop
        rw [p_isSheet S z1 z2, bn_s, b2i_p q, if_neg z10', hvi, ck_t, hcl]
        rfl
      · rw [m_isSheet _ z1 z2, bn_s, b2i_p q, if_neg z10', hvi, ck_t, hcl, us_ne (f' := 33) (by omega), a4, if_pos (by rw [i_0, iI_le (by omega) (by omega) (by omega) (by omega)]; omega), ck_t, lt_b, ck_t, us_ne (f' := 34) (by omega), us_ne (f' := 34) (by omega), a6]
      · intro t' e; simp (disch := omega) only [us_ne]
      · intro t' e; simp (disch := omega) only [us_ne, us_nb]
      · intro t' e; simp (disch := omega) only [us_ne, us_nb]
      · intro t' e; simp (disch := omega) only [us_ne]
      · intro t' e; simp (disch := omega) only [us_ne]
      · intro t' j e hj; simp (disch := omega) only [us_ne]
      · simp (disch := omega) only [us_ne, us_same]; rfl
      · rw [us_same]; rfl
      · simp (disch := omega) only [us_ne]; exact h5
  · rw [b2i_n q, if_pos z00]
    refine ⟨_, S, S, rfl, ?_, hI⟩
    rw [m_isSheet _ z1 z2, bn_s, b2i_n q, if_pos z00]
