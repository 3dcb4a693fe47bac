/-! typing, taking back, faults, settings -/
theorem T_0 : St_0 Inv := by
  intro S hI a1 a2
  obtain ⟨z, z1, z2, rfl⟩ := iI_ex a1
  obtain ⟨y, y1, y2, rfl⟩ := iI_ex a2
  have l255 : (255 : Int64) = lI 255 := by decide
  by_cases q : 0 ≤ z ∧ z ≤ 1
  · obtain ⟨t, rfl⟩ : ∃ t : Nat, z = t := ⟨z.toNat, by omega⟩
    have ht : t < 2 := by omega
    have ec : f_X10_textOf (iI t) S = some (some t) := p_textOf ht S
    unfold f_X10_type f_X11_type
    rw [ec]
    simp only [ck_t, lt_b, bn_s, bn2_s, jn_b, nl_N, nl_S, decide_eq_true ht]
    rw [i_0, i_255, p_within S y1 y2 (by omega) (by omega) (by omega) (by omega), bn_s]
    by_cases q2 : 0 ≤ y ∧ y ≤ 255
    · obtain ⟨b, rfl⟩ : ∃ b : Nat, y = b := ⟨y.toNat, by omega⟩
      rw [b2i_p q2, if_neg (show ¬ (iI 1 = iI 0) from z10)]
      obtain ⟨L, st, sg, h1, h2, h3, h4, h5⟩ := id hI
      have hx := h1.1 t ht
      have hlim := lim_b t
      have hx3 := hx.2.2.1
      have eF : f_X8_isFull t S = some (iI (if (L t).length < lim t then 0 else 1)) := by
        unfold f_X8_isFull
        rw [hx.1, hx.2.1]
        simp only [iI_lt (show (-2147483648 : Int) ≤ (L t).length by omega) (by omega) (show (-2147483648 : Int) ≤ (lim t : Int) by omega) (by omega)]
        by_cases q3 : (L t).length < lim t
        · rw [if_pos (by omega), if_pos q3]; rfl
        · rw [if_neg (by omega), if_neg q3]; rfl
      rw [eF, bn_s]
      have eM : ∀ (v : Int32) (X Y : Option (Int32 × sT)), (if iI (t : Int) = iI 0 then (if v = (63 : Int32) then X else Y) else (if v = (59 : Int32) then X else Y)) = (if v = iI (lim t) then X else Y) := by
        intro v X Y
        rcases (show t = 0 ∨ t = 1 by omega) with rfl | rfl <;> rfl
      by_cases q3 : (L t).length < lim t
      · rw [if_pos q3, if_pos rfl]
        have F0 : Fr PZX S (us (us S 11 t (L t).length (iI b)) 103 t 0 (iI (((L t).length : Int) + 1))) := (Fr.us (by unfold PZX; omega)).tr (Fr.us (by unfold PZX; omega))
        have eA : f_X8_add t (iI b) S = some (us (us S 11 t (L t).length (iI b)) 103 t 0 (iI (((L t).length : Int) + 1))) := by
          unfold f_X8_add
          rw [hx.1, hx.2.1, if_neg (by rw [i_0, iI_lt (by omega) (by omega) (by omega) (by omega)]; omega), if_neg (by rw [iI_le (by omega) (by omega) (by omega) (by omega)]; omega), vi_iI (by omega) (by omega) (by omega), ck_t, cl_iI (by omega) (by omega), Int.toNat_natCast]
          simp only [ck_t, lt_b, bn_s, bn2_s, jn_b, nl_N, nl_S]
          rw [us_ne (f' := 103) (by omega), hx.1, i_1, iI_add]
        have hX : ∀ t', t' < 2 → TX (us (us S 11 t (L t).length (iI b)) 103 t 0 (iI (((L t).length : Int) + 1))) t' (updL L t (L t ++ [b]) t') (lim t') := by
          refine TX.set h1.1 ht (by rw [List.length_append, List.length_singleton]; omega) (by rw [us_same, List.length_append, List.length_singleton]; rfl) (fun t' e => by rw [us_ni e, us_ne (by omega)]) (by rw [us_ne (by omega), us_ne (by omega)]) (fun t' e => by rw [us_ne (by omega), us_ni e]) (fun j hj => ?_)
          rw [List.length_append, List.length_singleton] at hj
          rw [us_ne (by omega)]
          by_cases e : j = (L t).length
          · subst e
            rw [us_same, bt_r]
            exact ⟨rfl, by omega⟩
          · rw [us_nb e, bt_l (by omega)]
            exact hx.2.2.2.2 j (by omega)
        obtain ⟨S2, a1, a2, a3⟩ := p_settle hX (h1.2.1.fr F0 (by unfold PZX PZ; omega)) h1.2.2.1
        have F1 : Fr PZX S S2 := F0.tr (a3.mono (fun k i z => Or.inl z))
        have hm2 := (h2.1 t ht).fr F1 (by unfold PZX PZ; omega)
        have hx2 := a2.1 t ht
        rw [updL_s] at hx2
        refine ⟨iI (((L t).length : Int) + 1), S2, us (us S2 37 0 (64 * t + (L t).length) (iI b)) 38 0 t (iI (((L t).length : Int) + 1)), ?_, ?_, texts_end (S1 := S) (t := t) (l := L t ++ [b]) h2 h3 h4 h5 F1 a2 ((Fr.us (by unfold PMX; omega)).tr (Fr.us (by unfold PMX; omega))) (fun hM => MT.set hM ht ?_ ?_ ?_ ?_ ?_)⟩
        · rw [eA, bn_s, a1, bn_s, p_size hx2, bn_s, List.length_append, List.length_singleton]; rfl
        · rw [m_isTwo _ z1 z2, bn_s, b2i_p q, if_neg (show ¬ (iI 1 = iI 0) from z10), l255, l_0, m_in2 _ y1 y2 (by omega) (by omega) (by omega) (by omega), bn_s, b2i_p q2, if_neg (show ¬ (iI 1 = iI 0) from z10), vi_iI (by omega) (by omega) (by omega), ck_t, cl_iI (by omega) (by omega), Int.toNat_natCast, eM, hm2.1]
          rw [if_neg (by rw [iI_eq (by omega) (by omega) (by omega) (by omega)]; omega), i_64, iI_mul, iI_add, vi_iI (by omega) (by omega) (by omega), ck_t, cl_iI (by omega) (by omega)]
          rw [show ((64 : Int) * (t : Int) + ((L t).length : Int)).toNat = 64 * t + (L t).length by omega]
          have hun : (us S2 37 0 (64 * t + (L t).length) (iI b)).1 38 0 t + (1 : Int32) = iI (((L t).length : Int) + 1) := by rw [us_ne (by omega), hm2.1, i_1, iI_add]
          rw [hun]
          simp only [ck_t, lt_b, bn_s, bn2_s, jn_b, nl_N, nl_S, us_same]
        · rw [List.length_append, List.length_singleton]; omega
        · rw [us_same, List.length_append, List.length_singleton]; rfl
        · intro t' e; rw [us_nb e, us_ne (by omega)]
        · intro t' j g1 g2 g3
          rw [us_ne (by omega), us_nb (by omega)]
        · intro j hj
          rw [List.length_append, List.length_singleton] at hj
          rw [us_ne (by omega)]
          by_cases e : j = (L t).length
          · subst e
            rw [us_same, bt_r]
            exact ⟨rfl, by omega⟩
          · rw [us_nb (by omega), bt_l (by omega)]
            exact hm2.2.2 j (by omega)
      · rw [if_neg q3, if_neg (show ¬ (iI 1 = iI 0) from z10)]
        refine ⟨_, S, S, rfl, ?_, hI⟩
        have hm := h2.1 t ht
        rw [m_isTwo _ z1 z2, bn_s, b2i_p q, if_neg (show ¬ (iI 1 = iI 0) from z10), l255, l_0, m_in2 _ y1 y2 (by omega) (by omega) (by omega) (by omega), bn_s, b2i_p q2, if_neg (show ¬ (iI 1 = iI 0) from z10), vi_iI (by omega) (by omega) (by omega), ck_t, cl_iI (by omega) (by omega), Int.toNat_natCast, eM, hm.1]
        rw [if_pos (by rw [iI_eq (by omega) (by omega) (by omega) (by omega)]; omega)]
    · rw [b2i_n q2, if_pos rfl]
      refine ⟨_, S, S, rfl, ?_, hI⟩
      rw [m_isTwo _ z1 z2, bn_s, b2i_p q, if_neg (show ¬ (iI 1 = iI 0) from z10), l255, l_0, m_in2 _ y1 y2 (by omega) (by omega) (by omega) (by omega), bn_s, b2i_n q2, if_pos rfl]
  · refine ⟨(-2 : Int32), S, S, ?_, ?_, hI⟩
    · unfold f_X10_type
      rw [p_textOf_out S z1 z2 q]; rfl
    · unfold f_X11_type
      rw [m_isTwo S z1 z2, bn_s, b2i_n q, if_pos (by rfl)]
theorem T_2 : St_2 Inv := by
  intro S hI a1
  obtain ⟨z, z1, z2, rfl⟩ := iI_ex a1
  by_cases q : 0 ≤ z ∧ z ≤ 1
  · obtain ⟨t, rfl⟩ : ∃ t : Nat, z = t := ⟨z.toNat, by omega⟩
    have ht : t < 2 := by omega
    obtain ⟨L, st, sg, h1, h2, h3, h4, h5⟩ := id hI
    have hx := h1.1 t ht
    have hm := h2.1 t ht
    have hlim := lim_b t
    have hx3 := hx.2.2.1
    by_cases q2 : (L t).length = 0
    · refine ⟨(-3 : Int32), S, S, ?_, ?_, hI⟩
      · unfold f_X10_undo
        rw [p_textOf ht, bn_s, nl_S, decide_eq_true ht, ck_t, p_size hx, bn_s, if_pos (by rw [q2]; rfl)]
      · unfold f_X11_undo
        rw [m_isTwo _ z1 z2, bn_s, b2i_p q, if_neg (show ¬ (iI 1 = (0 : Int32)) from z10), vi_iI (by omega) (by omega) (by omega), ck_t, cl_iI (by omega) (by omega), Int.toNat_natCast, hm.1, if_pos (by rw [q2]; rfl)]
    · have hl : (L t).dropLast.length = (L t).length - 1 := List.length_dropLast
      have hc : ((L t).length : Int) - 1 = (((L t).length - 1 : Nat) : Int) := by omega
      have F0 : Fr PZX S (us S 103 t 0 (iI (((L t).length - 1 : Nat) : Int))) := Fr.us (by unfold PZX; omega)
      have eA : f_X8_cut t S = some (us S 103 t 0 (iI (((L t).length - 1 : Nat) : Int))) := by
        unfold f_X8_cut
        rw [hx.1, if_neg (by rw [i_0, iI_le (by omega) (by omega) (by omega) (by omega)]; omega), lt_b, i_1, iI_sub, hc]
      have hX : ∀ t', t' < 2 → TX (us S 103 t 0 (iI (((L t).length - 1 : Nat) : Int))) t' (updL L t (L t).dropLast t') (lim t') := by
        refine TX.set h1.1 ht (by omega) (by rw [us_same, hl]) (fun t' e => us_ni e) (us_ne (by omega)) (fun t' e => by rw [us_ne (by omega)]) (fun j hj => ?_)
        rw [us_ne (by omega), bt_dl (by omega)]
        exact hx.2.2.2.2 j (by omega)
      obtain ⟨S2, a1, a2, a3⟩ := p_settle hX (h1.2.1.fr F0 (by unfold PZX PZ; omega)) h1.2.2.1
      have F1 : Fr PZX S S2 := F0.tr (a3.mono (fun k i z => Or.inl z))
      have hm2 := hm.fr F1 (by unfold PZX PZ; omega)
      have hx2 := a2.1 t ht
      rw [updL_s] at hx2
      refine ⟨iI (((L t).length - 1 : Nat) : Int), S2, us S2 38 0 t (iI (((L t).length - 1 : Nat) : Int)), ?_, ?_, texts_end (S1 := S) (t := t) (l := (L t).dropLast) h2 h3 h4 h5 F1 a2 (Fr.us (by unfold PMX; omega)) (fun hM => MT.set hM ht (by omega) (by rw [us_same, hl]) (fun t' e => us_nb e) (fun t' j _ _ _ => by rw [us_ne (by omega)]) (fun j hj => ?_))⟩
      · unfold f_X10_undo
        rw [p_textOf ht, bn_s, nl_S, decide_eq_true ht, ck_t, p_size hx, bn_s, if_neg (by rw [i_0, iI_eq (by omega) (by omega) (by omega) (by omega)]; omega), eA, bn_s, a1, bn_s, p_size hx2, bn_s, hl]
      · unfold f_X11_undo
        rw [m_isTwo _ z1 z2, bn_s, b2i_p q, if_neg (show ¬ (iI 1 = (0 : Int32)) from z10), vi_iI (by omega) (by omega) (by omega), ck_t, cl_iI (by omega) (by omega), Int.toNat_natCast, hm2.1, if_neg (by rw [i_0, iI_eq (by omega) (by omega) (by omega) (by omega)]; omega)]
        rw [i_1, iI_sub, hc]
        simp only [ck_t, lt_b, bn_s, bn2_s, jn_b, nl_N, nl_S, us_same]
      · rw [us_ne (by omega), bt_dl (by omega)]
        exact hm2.2.2 j (by omega)
  · refine ⟨(-2 : Int32), S, S, ?_, ?_, hI⟩
    · unfold f_X10_undo
      rw [p_textOf_out S z1 z2 q]; rfl
    · unfold f_X11_undo
      rw [m_isTwo S z1 z2, bn_s, b2i_n q, if_pos (by rfl)]
theorem T_3 : St_3 Inv := by
  intro S hI a1
  obtain ⟨z, z1, z2, rfl⟩ := iI_ex a1
  obtain ⟨L, st, sg, h1, h2, h3, h4, h5⟩ := id hI
  unfold f_X10_fault f_X11_fault
  rw [m_isTwo S z1 z2, bn_s]
  by_cases q : z = 0
  · subst q
    obtain ⟨S1, a1, a2, a3⟩ := m_readsWall (h2.1 0 (by omega))
    refine ⟨iI (parseW (L 0)).1, S1, ?_, ?_, hI.fr (PB.pr a3) PR_lo⟩
    · rw [if_pos (by rfl), h1.2.2.2.2.2.1]
    · rw [if_neg (by decide), if_pos (by rfl), a1]; rfl
  · by_cases q2 : z = 1
    · subst q2
      obtain ⟨S1, a1, a2, a3⟩ := m_readsTurns (h2.1 1 (by omega))
      refine ⟨iI (parseT (L 1)).1, S1, ?_, ?_, hI.fr (PQ.pr a3) PR_lo⟩
      · rw [if_neg (by decide), if_pos (by rfl), h1.2.2.2.2.2.2]
      · rw [if_neg (by decide), if_neg (by decide), a1]; rfl
    · refine ⟨(-2 : Int32), S, ?_, ?_, hI⟩
      · rw [if_neg (by rw [i_0, iI_eq (by omega) (by omega) (by omega) (by omega)]; omega), if_neg (by rw [i_1, iI_eq (by omega) (by omega) (by omega) (by omega)]; omega)]
      · rw [b2i_n (by omega), if_pos (by rfl)]
