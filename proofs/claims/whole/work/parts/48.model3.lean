/-! the reference: taking, laying, turns -/
theorem l_0 : (0 : Int64) = lI 0 := by decide
theorem l_1 : (1 : Int64) = lI 1 := by decide
def PM : Nat → Nat → Prop := fun k _ => k = 43 ∨ k = 44 ∨ k = 117 ∨ k = 118
theorem RM.kept {S S' : sT} {n : Nat} {f : Nat → List Nat} (h : RM S n f) (h1 : S'.1 115 0 = S.1 115 0) (h2 : S'.1 44 0 = S.1 44 0) (h3 : S'.1 43 0 = S.1 43 0) : RM S' n f := by
  unfold RM
  rw [h1, h2, h3]
  exact h
theorem RM.upd {S S' : sT} {n c : Nat} {f : Nat → List Nat} {l : List Nat} (h : RM S n f) (hc : c < n) (hl : Col l) (h115 : S'.1 115 0 = S.1 115 0) (h44 : S'.1 44 0 = upd (S.1 44 0) c (iI l.length)) (h43 : ∀ c' i, c' ≠ c → i < 8 → S'.1 43 0 (8 * c' + i) = S.1 43 0 (8 * c' + i)) (h43c : ∀ i, i < l.length → S'.1 43 0 (8 * c + i) = iI (nth l i)) : RM S' n (upf f c l) := by
  obtain ⟨hn, hw, hf⟩ := h
  refine ⟨hn, by rw [h115]; exact hw, fun c' hc' => ?_⟩
  by_cases e : c' = c
  · subst e
    rw [upf_s, h44]
    exact ⟨hl, fun q => absurd q (by omega), pk_us, h43c⟩
  · obtain ⟨a1, a2, a3, a4⟩ := hf c' hc'
    rw [upf_n e, h44, pk_un e]
    exact ⟨a1, a2, a3, fun i hi => by rw [h43 c' i e (by have := a1.1; omega)]; exact a4 i hi⟩
theorem z10 : ¬ ((1 : Int32) = (0 : Int32)) := by decide
def PL : Nat → Nat → Prop := fun k _ => k = 43 ∨ k = 44
theorem PL.pm {S S' : sT} (h : Fr PL S S') : Fr PM S S' := h.mono (fun k i q => by rcases q with q | q; exact Or.inl q; exact Or.inr (Or.inl q))
theorem m_takes {S : sT} {n who : Nat} {f : Nat → List Nat} (h : RM S n f) (hw : who < 2) {z : Int} (h1 : -2147483648 ≤ z) (h2 : z < 2147483648) : ∃ S', f_X11_takes (iI who) (iI z) S = some (iI (b2i (tkF n f z who).isSome), S') ∧ RM S' n ((tkF n f z who).getD f) ∧ Fr PL S S' := by
  have hn := h.1
  have e0 : f_X11_in ((iI z).toInt64) (0 : Int64) ((((S.1 115 0 0) - (1 : Int32))).toInt64) S = some (iI (b2i (decide (0 ≤ z ∧ z ≤ (n : Int) - 1)))) := by
    rw [h.2.1, i_1, iI_sub, iI_toL h1 h2, iI_toL (by omega) (by omega), l_0]
    exact p_in S h1 h2 (by omega) (by omega) (by omega) (by omega)
  have vz0 : vz (0 : Int32) = true := by decide
  have vz1 : vz (1 : Int32) = true := by decide
  unfold tkF
  by_cases hz : 0 ≤ z ∧ z < n
  · rw [if_pos hz]
    obtain ⟨c, rfl⟩ : ∃ c : Nat, z = c := ⟨z.toNat, by omega⟩
    have hc : c < n := by omega
    obtain ⟨a1, a2, a3, a4⟩ := h.2.2 c (by omega)
    have ed : decide ((0 : Int) ≤ (c : Int) ∧ (c : Int) ≤ (n : Int) - 1) = true := decide_eq_true (by omega)
    rw [ed] at e0
    simp only [Int.toNat_natCast]
    have a5 := a1.1
    rcases list_nc (f c) with hl | ⟨l, x, hl⟩
    · refine ⟨S, ?_, ?_, Fr.rf⟩
      · unfold f_X11_takes
        rw [e0, hl]
        rw [hl] at a3
        have a3 : S.1 44 0 c = iI 0 := a3
        simp (disch := omega) only [ck_t, lt_b, bn_s, bn2_s, jn_b, nl_N, nl_S, b2i_t, if_neg z10, if_pos, vi_iI, cl_iI, Int.toNat_natCast, a3, i_0, iI_le, iI_eq, ↓reduceIte, if_neg]
        rfl
      · rw [hl]; exact h
    · rw [hl] at a1 a3 a4
      obtain ⟨b1, b2, b3⟩ := a1.init
      have a3 : S.1 44 0 c = iI ((l.length : Int) + 1) := by rw [a3]; simp
      have a7 := a4 l.length (by simp)
      rw [nth_app_r] at a7
      have e1 : (f c).getLast? = some x := by rw [hl]; simp
      have e2 : (f c).dropLast = l := by rw [hl]; simp
      have e3 : (8 * (c : Int) + ((l.length : Int) + 1) - 1) = 8 * (c : Int) + l.length := by omega
      rw [e1, e2]
      simp only
      unfold f_X11_takes
      rw [e0]
      simp (disch := omega) only [ck_t, lt_b, bn_s, bn2_s, jn_b, nl_N, nl_S, b2i_t, vi_iI, cl_iI, Int.toNat_natCast, a3, i_0, i_1, i_8, iI_mul, iI_add, iI_sub, iI_le, iI_eq, if_neg, e3, tN8', a7, nz_2, iI_rem2]
      by_cases hq : x % 2 = who
      · rw [if_pos hq, if_pos (by omega)]
        exact ⟨S, by simp (disch := omega) only [if_pos, ↓reduceIte, vz0, ← i_0, ck_t]; rfl, h, Fr.rf⟩
      · rw [if_neg hq, if_neg (by omega)]
        have e4 : ((l.length : Int) + 1 - 1) = l.length := by omega
        have vz1' : vz (iI 1) = true := by decide
        refine ⟨us S 44 0 c (iI l.length), ?_, ?_, Fr.us (Or.inr rfl)⟩
        · simp (disch := omega) only [if_neg, e4, vz1', ck_t]
          rfl
        · refine h.upd hc b1 ?_ ?_ ?_ ?_
          · simp (disch := omega) only [us_ne]
          · simp (disch := omega) only [us_arr]
          · intro c' i hc' hi
            simp (disch := omega) only [us_ne]
          · intro i hi
            simp (disch := omega) only [us_ne]
            rw [a4 i (by simp; omega), nth_app_l hi]
  · rw [if_neg hz]
    have ed : decide (0 ≤ z ∧ z ≤ (n : Int) - 1) = false := decide_eq_false (by omega)
    rw [ed] at e0
    refine ⟨S, ?_, h, Fr.rf⟩
    unfold f_X11_takes
    rw [e0]
    simp (disch := omega) only [ck_t, lt_b, bn_s, bn2_s, jn_b, nl_N, nl_S, b2i_f, i_0, iI_eq, if_pos, ↓reduceIte]
    rfl
theorem m_lays {S : sT} {n who x : Nat} {f : Nat → List Nat} (h : RM S n f) (hw : who < 2) (hx : x < 4) {z : Int} (h1 : -2147483648 ≤ z) (h2 : z < 2147483648) : ∃ S', f_X11_lays (iI who) (iI x) (iI z) S = some (iI (b2i (if x % 2 = who then putF n f z x else none).isSome), S') ∧ RM S' n ((if x % 2 = who then putF n f z x else none).getD f) ∧ Fr PL S S' := by
  have hn := h.1
  have e0 : f_X11_in ((iI z).toInt64) (0 : Int64) ((((S.1 115 0 0) - (1 : Int32))).toInt64) S = some (iI (b2i (decide (0 ≤ z ∧ z ≤ (n : Int) - 1)))) := by
    rw [h.2.1, i_1, iI_sub, iI_toL h1 h2, iI_toL (by omega) (by omega), l_0]
    exact p_in S h1 h2 (by omega) (by omega) (by omega) (by omega)
  have vz0 : vz (iI 0) = true := by decide
  have vz1 : vz (iI 1) = true := by decide
  by_cases hz : 0 ≤ z ∧ z < n
  · obtain ⟨c, rfl⟩ : ∃ c : Nat, z = c := ⟨z.toNat, by omega⟩
    have hc : c < n := by omega
    obtain ⟨a1, a2, a3, a4⟩ := h.2.2 c (by omega)
    have ed : decide ((0 : Int) ≤ (c : Int) ∧ (c : Int) ≤ (n : Int) - 1) = true := decide_eq_true (by omega)
    rw [ed] at e0
    have a5 := a1.1
    unfold f_X11_lays putF
    rw [e0]
    simp (disch := omega) only [ck_t, lt_b, bn_s, bn2_s, jn_b, nl_N, nl_S, b2i_t, vi_iI, cl_iI, Int.toNat_natCast, a3, i_0, i_1, i_8, iI_mul, iI_add, iI_sub, iI_le, iI_eq, if_neg, nz_2, iI_rem2]
    by_cases hl : (f c).length < 8
    · rw [if_neg (by omega)]
      by_cases hq : x % 2 = who
      · rw [if_pos (by omega), if_pos hq, if_pos ⟨hz.1, hz.2, hl⟩]
        refine ⟨us (us S 43 0 (8 * c + (f c).length) (iI x)) 44 0 c (iI (((f c).length : Int) + 1)), ?_, ?_, (Fr.us (Or.inl rfl)).tr (Fr.us (Or.inr rfl))⟩
        · simp (disch := omega) only [if_neg, vi_iI, tN8', us_ne, a3, iI_add, vz1, ck_t]
          rfl
        · refine h.upd hc (a1.app hx hl) ?_ ?_ ?_ ?_
          · simp (disch := omega) only [us_ne]
          · simp (disch := omega) only [us_ne, us_arr, List.length_append, List.length_singleton]
            rfl
          · intro c' i hc' hi
            simp (disch := omega) only [us_ne, us_nb]
          · intro i hi
            simp at hi
            by_cases e : i = (f c).length
            · subst e
              simp (disch := omega) only [us_ne, us_same, nth_app_r]
            · simp (disch := omega) only [us_ne, us_nb, nth_app_l]
              exact a4 i (by omega)
      · rw [if_neg (by omega), if_neg hq]
        refine ⟨S, ?_, h, Fr.rf⟩
        simp (disch := omega) only [if_pos, ↓reduceIte, vz0, ck_t]
        rfl
    · rw [if_pos (by omega)]
      have e5 : (if x % 2 = who then (if 0 ≤ (c : Int) ∧ (c : Int) < n ∧ (f c).length < 8 then some (upf f c (f c ++ [x])) else none) else none) = none := by
        split
        · rw [if_neg (fun q => hl q.2.2)]
        · rfl
      rw [e5]
      refine ⟨S, ?_, h, Fr.rf⟩
      simp (disch := omega) only [if_pos, ↓reduceIte, vz0, ck_t]
      rfl
  · have ed : decide (0 ≤ z ∧ z ≤ (n : Int) - 1) = false := decide_eq_false (by omega)
    rw [ed] at e0
    have e5 : (if x % 2 = who then putF n f z x else none) = none := by
      unfold putF
      split
      · rw [if_neg (fun q => hz ⟨q.1, q.2.1⟩)]
      · rfl
    rw [e5]
    refine ⟨S, ?_, h, Fr.rf⟩
    unfold f_X11_lays
    rw [e0]
    simp (disch := omega) only [ck_t, lt_b, bn_s, bn2_s, jn_b, nl_N, nl_S, b2i_f, i_0, iI_eq, if_pos, ↓reduceIte, vz0]
    rfl
