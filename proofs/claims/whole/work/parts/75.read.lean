/-! sights read from a sheet -/
def okS (a b c : Int32) : Bool := decide ((0 ≤ a.toInt ∧ a.toInt ≤ 12) ∧ (0 ≤ b.toInt ∧ b.toInt ≤ 7) ∧ (0 ≤ c.toInt ∧ c.toInt ≤ 16))
theorem okS_iI {a b c : Int} (a1 : -2147483648 ≤ a) (a2 : a < 2147483648) (b1 : -2147483648 ≤ b) (b2 : b < 2147483648) (c1 : -2147483648 ≤ c) (c2 : c < 2147483648) : okS (iI a) (iI b) (iI c) = decide ((0 ≤ a ∧ a ≤ 12) ∧ (0 ≤ b ∧ b ≤ 7) ∧ (0 ≤ c ∧ c ≤ 16)) := by
  unfold okS
  rw [iI_toInt a1 a2, iI_toInt b1 b2, iI_toInt c1 c2]
def qS (a b c : Int32) : Nat × Nat × Nat := (a.toInt.toNat, b.toInt.toNat, c.toInt.toNat)
def rdS (it : Nat → Int32) (sz : Nat) : Nat → Nat → List (Nat × Nat × Nat) → Nat × List (Nat × Nat × Nat)
  | 0, k, sg => (k, sg)
  | d + 1, k, sg => if 3 * k + 3 ≤ sz ∧ sg.length < 8 ∧ okS (it (3 * k)) (it (3 * k + 1)) (it (3 * k + 2)) = true then rdS it sz d (k + 1) (sg ++ [qS (it (3 * k)) (it (3 * k + 1)) (it (3 * k + 2))]) else (k, sg)
theorem rdS_congr {it it' : Nat → Int32} {sz : Nat} (h : ∀ j, j < sz → it j = it' j) : ∀ (d k : Nat) (sg : List (Nat × Nat × Nat)), rdS it sz d k sg = rdS it' sz d k sg := by
  intro d
  induction d with
  | zero => intro k sg; rfl
  | succ d ih =>
    intro k sg
    unfold rdS
    by_cases q : 3 * k + 3 ≤ sz
    · rw [h (3 * k) (by omega), h (3 * k + 1) (by omega), h (3 * k + 2) (by omega), ih]
    · rw [if_neg (fun z => q z.1), if_neg (fun z => q z.1)]
def SB (sg : List (Nat × Nat × Nat)) : Prop := sg.length ≤ 8 ∧ ∀ j, j < sg.length → (sq sg j).1 ≤ 12 ∧ (sq sg j).2.1 ≤ 7 ∧ (sq sg j).2.2 ≤ 16
theorem rdS_ok {it : Nat → Int32} {sz : Nat} : ∀ (d k : Nat) (sg : List (Nat × Nat × Nat)), SB sg → SB (rdS it sz d k sg).2 := by
  intro d
  induction d with
  | zero => intro k sg h; exact h
  | succ d ih =>
    intro k sg h
    unfold rdS
    split
    · rename_i q
      apply ih
      obtain ⟨q1, q2, q3⟩ := q
      have q3 := of_decide_eq_true q3
      refine ⟨by rw [List.length_append, List.length_singleton]; omega, fun j hj => ?_⟩
      rw [List.length_append, List.length_singleton] at hj
      by_cases e : j = sg.length
      · subst e
        rw [sq_r]
        unfold qS
        simp only
        omega
      · rw [sq_l (by omega)]
        exact h.2 j (by omega)
    · exact h
/-- the class's half, the reference's half -/
def SGc (S : sT) (sg : List (Nat × Nat × Nat)) : Prop := S.1 110 0 0 = iI sg.length ∧ ∀ j, j < sg.length → S.1 22 0 j = iI (sq sg j).1 ∧ S.1 23 0 j = iI (sq sg j).2.1 ∧ S.1 24 0 j = iI (sq sg j).2.2
def SGm (S : sT) (sg : List (Nat × Nat × Nat)) : Prop := S.1 121 0 0 = iI sg.length ∧ ∀ j, j < sg.length → S.1 46 0 (3 * j) = iI (sq sg j).1 ∧ S.1 46 0 (3 * j + 1) = iI (sq sg j).2.1 ∧ S.1 46 0 (3 * j + 2) = iI (sq sg j).2.2
theorem SG_iff {S : sT} {sg : List (Nat × Nat × Nat)} : SG S sg ↔ SB sg ∧ SGc S sg ∧ SGm S sg := by
  constructor
  · rintro ⟨h1, h2, h3, h4⟩
    exact ⟨⟨h1, fun j hj => (h4 j hj).2.2⟩, ⟨h2, fun j hj => (h4 j hj).1⟩, ⟨h3, fun j hj => (h4 j hj).2.1⟩⟩
  · rintro ⟨⟨h1, h2⟩, ⟨h3, h4⟩, ⟨h5, h6⟩⟩
    exact ⟨h1, h3, h5, fun j hj => ⟨h4 j hj, h6 j hj, h2 j hj⟩⟩
def PGc : Nat → Nat → Prop := fun k i => (k = 110 ∨ 22 ≤ k ∧ k ≤ 24) ∧ i = 0
def PGm : Nat → Nat → Prop := fun k i => (k = 121 ∨ k = 46) ∧ i = 0
theorem add6_c {S : sT} {sg : List (Nat × Nat × Nat)} {q : Nat × Nat × Nat} (h : SGc S sg) : Fr PGc S (add6 S sg.length q) ∧ SGc (add6 S sg.length q) (sg ++ [q]) := by
  refine ⟨?_, ?_, fun j hj => ?_⟩
  · unfold add6
    exact (((Fr.us (by unfold PGc; omega)).tr (Fr.us (by unfold PGc; omega))).tr (Fr.us (by unfold PGc; omega))).tr (Fr.us (by unfold PGc; omega))
  · unfold add6
    simp (disch := omega) only [us_ne, us_same, List.length_append, List.length_singleton]
    rfl
  · rw [List.length_append, List.length_singleton] at hj
    by_cases e : j = sg.length
    · subst e
      rw [sq_r]
      unfold add6
      simp (disch := omega) only [us_ne, us_nb, us_same, and_true, true_and]
    · rw [sq_l (by omega)]
      have g := h.2 j (by omega)
      unfold add6
      simp (disch := omega) only [us_ne, us_nb]
      exact g
theorem add11_m {S : sT} {sg : List (Nat × Nat × Nat)} {q : Nat × Nat × Nat} (h : SGm S sg) : Fr PGm S (add11 S sg.length q) ∧ SGm (add11 S sg.length q) (sg ++ [q]) := by
  refine ⟨?_, ?_, fun j hj => ?_⟩
  · unfold add11
    exact (((Fr.us (by unfold PGm; omega)).tr (Fr.us (by unfold PGm; omega))).tr (Fr.us (by unfold PGm; omega))).tr (Fr.us (by unfold PGm; omega))
  · unfold add11
    simp (disch := omega) only [us_ne, us_same, List.length_append, List.length_singleton]
    rfl
  · rw [List.length_append, List.length_singleton] at hj
    by_cases e : j = sg.length
    · subst e
      rw [sq_r]
      unfold add11
      simp (disch := omega) only [us_ne, us_nb, us_same, and_true, true_and]
    · rw [sq_l (by omega)]
      have g := h.2 j (by omega)
      unfold add11
      simp (disch := omega) only [us_ne, us_nb]
      exact g
theorem p_add6c {S : sT} {n : Nat} {q : Nat × Nat × Nat} (h : S.1 110 0 0 = iI n) (hl : n < 8) : f_X6_add (iI q.1) (iI q.2.1) (iI q.2.2) S = some (add6 S n q) := by
  unfold f_X6_add add6
  rw [h, if_neg (by rw [i_0, iI_lt (by omega) (by omega) (by omega) (by omega)]; omega), if_neg (by rw [i_8, iI_le (by omega) (by omega) (by omega) (by omega)]; omega), vi_iI (by omega) (by omega) (by omega), ck_t, cl_iI (by omega) (by omega), Int.toNat_natCast]
  simp (disch := omega) only [ck_t, lt_b, bn_s, bn2_s, jn_b, nl_N, nl_S, i_m2147483648, i_m1002, i_m10, i_m9, i_m4, i_m3, i_m2, i_m1, i_0, i_1, i_2, i_3, i_4, i_5, i_6, i_7, i_8, i_9, i_12, i_15, i_16, i_32, i_40, i_45, i_48, i_55, i_59, i_60, i_63, i_64, i_78, i_81, i_83, i_110, i_115, i_255, iI_add, iI_sub, iI_mul, iI_neg, iI_lt, iI_le, iI_eq, cl_iI, vi_iI, us_ne, h, Int.toNat_natCast]
theorem m_seen_y {S : sT} {n a b c : Nat} (h : S.1 121 0 0 = iI n) (hl : n < 8) (ha : a ≤ 12) (hb : b ≤ 7) (hc : c ≤ 16) : f_X11_seen (iI a) (iI b) (iI c) S = some (iI ((n : Int) + 1), add11 S n (a, b, c)) := by
  have z10' : ¬ (iI 1 = (0 : Int32)) := z10
  have l12 : (12 : Int64) = lI 12 := by decide
  have l7 : (7 : Int64) = lI 7 := by decide
  have l16 : (16 : Int64) = lI 16 := by decide
  unfold f_X11_seen
  rw [l_0, l12, l7, l16, m_in2 _ (by omega) (by omega) (by omega) (by omega) (by omega) (by omega), bn_s, b2i_p (by omega), if_neg z10', m_in2 _ (by omega) (by omega) (by omega) (by omega) (by omega) (by omega), bn_s, b2i_p (by omega), if_neg z10', m_in2 _ (by omega) (by omega) (by omega) (by omega) (by omega) (by omega), bn_s, b2i_p (by omega), if_neg z10', h, if_neg (by rw [i_8, iI_eq (by omega) (by omega) (by omega) (by omega)]; omega)]
  have t1 : (3 * (n : Int)).toNat = 3 * n := by omega
  have t2 : (3 * (n : Int) + 1).toNat = 3 * n + 1 := by omega
  have t3 : (3 * (n : Int) + 2).toNat = 3 * n + 2 := by omega
  simp (disch := omega) only [ck_t, lt_b, bn_s, bn2_s, jn_b, nl_N, nl_S, i_m2147483648, i_m1002, i_m10, i_m9, i_m4, i_m3, i_m2, i_m1, i_0, i_1, i_2, i_3, i_4, i_5, i_6, i_7, i_8, i_9, i_12, i_15, i_16, i_32, i_40, i_45, i_48, i_55, i_59, i_60, i_63, i_64, i_78, i_81, i_83, i_110, i_115, i_255, iI_add, iI_sub, iI_mul, iI_neg, iI_lt, iI_le, iI_eq, cl_iI, vi_iI, us_ne, h, t1, t2, t3, us_same]
  rfl
theorem m_seen_n {S : sT} {n : Nat} {a b c : Int} (h : S.1 121 0 0 = iI n) (hn : n ≤ 8) (a1 : -2147483648 ≤ a) (a2 : a < 2147483648) (b1 : -2147483648 ≤ b) (b2 : b < 2147483648) (c1 : -2147483648 ≤ c) (c2 : c < 2147483648) (hq : ¬ (n < 8 ∧ (0 ≤ a ∧ a ≤ 12) ∧ (0 ≤ b ∧ b ≤ 7) ∧ (0 ≤ c ∧ c ≤ 16))) : ∃ r, f_X11_seen (iI a) (iI b) (iI c) S = some (r, S) ∧ r < (0 : Int32) := by
  have z10' : ¬ (iI 1 = (0 : Int32)) := z10
  have z00 : iI 0 = (0 : Int32) := rfl
  have l12 : (12 : Int64) = lI 12 := by decide
  have l7 : (7 : Int64) = lI 7 := by decide
  have l16 : (16 : Int64) = lI 16 := by decide
  unfold f_X11_seen
  rw [l_0, l12, l7, l16, m_in2 _ a1 a2 (by omega) (by omega) (by omega) (by omega), bn_s]
  by_cases q1 : 0 ≤ a ∧ a ≤ 12
  · rw [b2i_p q1, if_neg z10', m_in2 _ b1 b2 (by omega) (by omega) (by omega) (by omega), bn_s]
    by_cases q2 : 0 ≤ b ∧ b ≤ 7
    · rw [b2i_p q2, if_neg z10', m_in2 _ c1 c2 (by omega) (by omega) (by omega) (by omega), bn_s]
      by_cases q3 : 0 ≤ c ∧ c ≤ 16
      · rw [b2i_p q3, if_neg z10', h, if_pos (by rw [i_8, iI_eq (by omega) (by omega) (by omega) (by omega)]; omega)]
        exact ⟨_, rfl, by decide⟩
      · rw [b2i_n q3, if_pos z00]
        exact ⟨_, rfl, by decide⟩
    · rw [b2i_n q2, if_pos z00]
      exact ⟨_, rfl, by decide⟩
  · rw [b2i_n q1, if_pos z00]
    exact ⟨_, rfl, by decide⟩
theorem p_read_l {t sz : Nat} {it : Nat → Int32} (ht : t < 4) (hs : sz ≤ 60) : ∀ (d k m : Nat) (S : sT) (sg : List (Nat × Nat × Nat)), k + d = 21 → d < m → SGc S sg → sg.length ≤ 8 → S.1 28 0 t = iI sz → S.1 26 t = it → ∃ S', l_X10_read_34 (iI t) m (iI k) (iI ((3 * k : Nat) : Int)) S = some (iI (rdS it sz d k sg).1, S') ∧ SGc S' (rdS it sz d k sg).2 ∧ Fr PGc S S' := by
  have z10' : ¬ (iI 1 = (0 : Int32)) := z10
  have z00 : iI 0 = (0 : Int32) := rfl
  intro d
  induction d with
  | zero =>
    intro k m S sg hk hm h h8 h28 h26
    obtain ⟨m, rfl⟩ : ∃ m', m = m' + 1 := ⟨m - 1, by omega⟩
    refine ⟨S, ?_, h, Fr.rf⟩
    rw [l_X10_read_34_s]
    unfold b_X10_read_34
    rw [p_sizeOf5 ht h28 hs, bn_s, i_2, iI_add, if_pos (by rw [iI_le (by omega) (by omega) (by omega) (by omega)]; omega)]
    rfl
  | succ d ih =>
    intro k m S sg hk hm h h8 h28 h26
    obtain ⟨m, rfl⟩ : ∃ m', m = m' + 1 := ⟨m - 1, by omega⟩
    rw [l_X10_read_34_s]
    unfold b_X10_read_34 rdS
    rw [p_sizeOf5 ht h28 hs, bn_s]
    have e2 : iI ((3 * k : Nat) : Int) + (2 : Int32) = iI ((3 * k + 2 : Nat) : Int) := by rw [i_2, iI_add]; rfl
    have e1 : iI ((3 * k : Nat) : Int) + (1 : Int32) = iI ((3 * k + 1 : Nat) : Int) := by rw [i_1, iI_add]; rfl
    have e3 : iI ((3 * k : Nat) : Int) + (3 : Int32) = iI ((3 * (k + 1) : Nat) : Int) := by rw [i_3, iI_add]; rfl
    rw [e1, e2, e3]
    by_cases q : 3 * k + 3 ≤ sz
    · rw [if_neg (by rw [iI_le (by omega) (by omega) (by omega) (by omega)]; omega)]
      by_cases q4 : sg.length < 8
      · have eF : f_X6_isFull S = some (0 : Int32) := by
          unfold f_X6_isFull
          rw [h.1, if_pos (by rw [i_8, iI_lt (by omega) (by omega) (by omega) (by omega)]; omega)]
        rw [eF, bn_s, if_pos rfl, p_itemAt ht h28 hs (by omega), bn_s, p_itemAt ht h28 hs (by omega), bn_s, p_itemAt ht h28 hs (by omega), bn_s, h26]
        obtain ⟨a, a1, a2, ea⟩ := iI_ex (it (3 * k))
        obtain ⟨b, b1, b2, eb⟩ := iI_ex (it (3 * k + 1))
        obtain ⟨c, c1, c2, ec⟩ := iI_ex (it (3 * k + 2))
        rw [ea, eb, ec, p_allows6 S a1 a2 b1 b2 c1 c2, bn_s, okS_iI a1 a2 b1 b2 c1 c2]
        by_cases q5 : (0 ≤ a ∧ a ≤ 12) ∧ (0 ≤ b ∧ b ≤ 7) ∧ (0 ≤ c ∧ c ≤ 16)
        · rw [b2i_p q5, if_neg z10', if_pos ⟨q, q4, decide_eq_true q5⟩]
          obtain ⟨a, rfl⟩ : ∃ n : Nat, a = n := ⟨a.toNat, by omega⟩
          obtain ⟨b, rfl⟩ : ∃ n : Nat, b = n := ⟨b.toNat, by omega⟩
          obtain ⟨c, rfl⟩ : ∃ n : Nat, c = n := ⟨c.toNat, by omega⟩
          have eq : qS (iI (a : Int)) (iI (b : Int)) (iI (c : Int)) = (a, b, c) := by
            unfold qS
            rw [iI_toInt a1 a2, iI_toInt b1 b2, iI_toInt c1 c2]
            rfl
          have eA := p_add6c (q := (a, b, c)) h.1 q4
          simp only at eA
          rw [eq, eA, bn_s, lt_b, lt_b, show iI (k : Int) + (1 : Int32) = iI ((k + 1 : Nat) : Int) by rw [i_1, iI_add]; rfl]
          obtain ⟨F1, g1⟩ := add6_c (q := (a, b, c)) h
          obtain ⟨S', r1, r2, r3⟩ := ih (k + 1) m (add6 S sg.length (a, b, c)) (sg ++ [(a, b, c)]) (by omega) (by omega) g1 (by rw [List.length_append, List.length_singleton]; omega) (by rw [F1.1 _ _ (by unfold PGc; omega)]; exact h28) (by rw [F1.1 _ _ (by unfold PGc; omega)]; exact h26)
          exact ⟨S', r1, r2, F1.tr r3⟩
        · rw [b2i_n q5, if_pos z00, if_neg (fun z => q5 (of_decide_eq_true z.2.2))]
          exact ⟨S, rfl, h, Fr.rf⟩
      · have eF : f_X6_isFull S = some (1 : Int32) := by
          unfold f_X6_isFull
          rw [h.1, if_neg (by rw [i_8, iI_lt (by omega) (by omega) (by omega) (by omega)]; omega)]
        rw [eF, bn_s, if_neg (show ¬ ((1 : Int32) = 0) from z10), if_neg (fun z => q4 z.2.1)]
        exact ⟨S, rfl, h, Fr.rf⟩
    · rw [if_pos (by rw [iI_le (by omega) (by omega) (by omega) (by omega)]; omega), if_neg (fun z => q z.1)]
      exact ⟨S, rfl, h, Fr.rf⟩
theorem m_read_l {t sz : Nat} {it : Nat → Int32} (ht : t < 4) (hs : sz ≤ 60) : ∀ (d k m : Nat) (S : sT) (sg : List (Nat × Nat × Nat)), k + d = 21 → d + 1 < m → SGm S sg → sg.length ≤ 8 → S.1 34 0 t = iI sz → (∀ j, j < sz → S.1 35 0 (60 * t + j) = it j) → ∃ S', l_X11_read_29 (iI t) m (iI k) (1 : Int32) S = some (iI (rdS it sz d k sg).1, S') ∧ SGm S' (rdS it sz d k sg).2 ∧ Fr PGm S S' := by
  have z10' : ¬ ((1 : Int32) = (0 : Int32)) := z10
  have hvi : vi (iI (t : Int)) 4 = true := vi_iI (by omega) (by omega) (by omega)
  have hcl : cl (iI (t : Int)) = t := by rw [cl_iI (by omega) (by omega)]; rfl
  intro d
  induction d with
  | zero =>
    intro k m S sg hk hm h h8 h34 h35
    obtain ⟨m, rfl⟩ : ∃ m', m = m' + 1 := ⟨m - 1, by omega⟩
    refine ⟨S, ?_, h, Fr.rf⟩
    rw [l_X11_read_29_s]
    unfold b_X11_read_29
    rw [if_neg z10', hvi, ck_t, hcl, h34, i_3, iI_mul, iI_add, if_pos (by rw [iI_lt (by omega) (by omega) (by omega) (by omega)]; omega)]
    rfl
  | succ d ih =>
    intro k m S sg hk hm h h8 h34 h35
    obtain ⟨m, rfl⟩ : ∃ m', m = m' + 1 := ⟨m - 1, by omega⟩
    rw [l_X11_read_29_s]
    unfold b_X11_read_29 rdS
    rw [if_neg z10', hvi, ck_t, hcl, h34, i_3, iI_mul, iI_add]
    by_cases q : 3 * k + 3 ≤ sz
    · rw [if_neg (by rw [iI_lt (by omega) (by omega) (by omega) (by omega)]; omega), i_60, iI_mul, iI_add, lt_b, show ((60 : Int) * (t : Int) + 3 * (k : Int)) = ((60 * t + 3 * k : Nat) : Int) by omega]
      have e2 : iI ((60 * t + 3 * k : Nat) : Int) + (2 : Int32) = iI ((60 * t + (3 * k + 2) : Nat) : Int) := by rw [i_2, iI_add]; rfl
      have e1 : iI ((60 * t + 3 * k : Nat) : Int) + (1 : Int32) = iI ((60 * t + (3 * k + 1) : Nat) : Int) := by rw [i_1, iI_add]; rfl
      rw [e1, e2, vi_iI (by omega) (by omega) (by omega), ck_t, vi_iI (by omega) (by omega) (by omega), ck_t, vi_iI (by omega) (by omega) (by omega), ck_t, cl_iI (by omega) (by omega), cl_iI (by omega) (by omega), cl_iI (by omega) (by omega), Int.toNat_natCast, Int.toNat_natCast, Int.toNat_natCast, h35 (3 * k) (by omega), h35 (3 * k + 1) (by omega), h35 (3 * k + 2) (by omega)]
      obtain ⟨a, a1, a2, ea⟩ := iI_ex (it (3 * k))
      obtain ⟨b, b1, b2, eb⟩ := iI_ex (it (3 * k + 1))
      obtain ⟨c, c1, c2, ec⟩ := iI_ex (it (3 * k + 2))
      rw [ea, eb, ec, okS_iI a1 a2 b1 b2 c1 c2]
      by_cases q5 : sg.length < 8 ∧ (0 ≤ a ∧ a ≤ 12) ∧ (0 ≤ b ∧ b ≤ 7) ∧ (0 ≤ c ∧ c ≤ 16)
      · obtain ⟨q6, q7⟩ := id q5
        obtain ⟨a, rfl⟩ : ∃ n : Nat, a = n := ⟨a.toNat, by omega⟩
        obtain ⟨b, rfl⟩ : ∃ n : Nat, b = n := ⟨b.toNat, by omega⟩
        obtain ⟨c, rfl⟩ : ∃ n : Nat, c = n := ⟨c.toNat, by omega⟩
        have eq : qS (iI (a : Int)) (iI (b : Int)) (iI (c : Int)) = (a, b, c) := by
          unfold qS
          rw [iI_toInt a1 a2, iI_toInt b1 b2, iI_toInt c1 c2]
          rfl
        rw [if_pos ⟨q, q6, decide_eq_true q7⟩, eq, m_seen_y h.1 q6 (by omega) (by omega) (by omega), bn2_s, jn_b, if_neg (by rw [i_0, iI_lt (by omega) (by omega) (by omega) (by omega)]; omega)]; (try dsimp only); rw [jn_b, if_neg z10']; (try dsimp only); rw [lt_b, show iI (k : Int) + (1 : Int32) = iI ((k + 1 : Nat) : Int) by rw [i_1, iI_add]; rfl]
        obtain ⟨F1, g1⟩ := add11_m (q := (a, b, c)) h
        obtain ⟨S', r1, r2, r3⟩ := ih (k + 1) m (add11 S sg.length (a, b, c)) (sg ++ [(a, b, c)]) (by omega) (by omega) g1 (by rw [List.length_append, List.length_singleton]; omega) (by rw [F1.1 _ _ (by unfold PGm; omega)]; exact h34) (fun j hj => by rw [F1.1 _ _ (by unfold PGm; omega)]; exact h35 j hj)
        exact ⟨S', r1, r2, F1.tr r3⟩
      · obtain ⟨r, r1, r2⟩ := m_seen_n h.1 h8 a1 a2 b1 b2 c1 c2 q5
        rw [if_neg (fun z => q5 ⟨z.2.1, of_decide_eq_true z.2.2⟩), r1, bn2_s, jn_b, if_pos r2]; (try dsimp only); rw [jn_b, if_pos rfl]; (try dsimp only); rw [lt_b]
        refine ⟨S, ?_, h, Fr.rf⟩
        obtain ⟨m, rfl⟩ : ∃ m', m = m' + 1 := ⟨m - 1, by omega⟩
        rw [l_X11_read_29_s]
        unfold b_X11_read_29
        rw [if_pos rfl, show iI (k : Int) + (0 : Int32) = iI (k : Int) by rw [i_0, iI_add, Int.add_zero]]
    · rw [if_pos (by rw [iI_lt (by omega) (by omega) (by omega) (by omega)]; omega), if_neg (fun z => q z.1)]
      exact ⟨S, rfl, h, Fr.rf⟩
theorem T_17 : St_17 Inv := by
  intro S hI v1
  obtain ⟨z, z1, z2, rfl⟩ := iI_ex v1
  have z10' : ¬ (iI 1 = (0 : Int32)) := z10
  have z00 : iI 0 = (0 : Int32) := rfl
  obtain ⟨L, st, sg, h1, h2, h3, h4, h5⟩ := id hI
  have hF : 1000 < FU := by unfold FU; omega
  unfold f_X10_read f_X11_read
  revert hF
  generalize FU = M
  intro hF
  rw [p_isSheet S z1 z2, bn_s]
  by_cases q : 0 ≤ z ∧ z ≤ 3
  · obtain ⟨t, rfl⟩ : ∃ t : Nat, z = t := ⟨z.toNat, by omega⟩
    have hvi : vi (iI (t : Int)) 4 = true := vi_iI (by omega) (by omega) (by omega)
    have hcl : cl (iI (t : Int)) = t := by rw [cl_iI (by omega) (by omega)]; rfl
    rw [b2i_p q, if_neg z10']
    rcases h4 t (by omega) with ⟨a1, a2⟩ | ⟨fm, sz, a1, a2, a3, a4, a5, a6, a7⟩
    · rw [p_isLost (by omega) a1 (by omega) (by omega), bn_s, if_pos rfl, if_neg z10']
      refine ⟨_, us S 111 0 0 (1 : Int32), us (us S 111 0 0 (1 : Int32)) 113 0 0 (1 : Int32), rfl, ?_, hI.find _⟩
      rw [m_isSheet _ z1 z2, bn_s, b2i_p q, if_neg z10', hvi, ck_t, hcl, us_ne (f' := 33) (by omega), a2, if_neg (by decide)]
      rfl
    · rw [p_isLost (by omega) a5 (by omega) (by omega), bn_s, if_neg (show ¬ ((sz : Int) = -1) by omega), if_pos z00]
      obtain ⟨g1, g2, g3⟩ := SG_iff.mp h3
      obtain ⟨S1, e1, c1, F1⟩ := p_read_l (t := t) (sz := sz) (it := S.1 26 t) (by omega) a2 21 0 M S sg (by omega) (by omega) g2 g1.1 a5 rfl
      have g3' : SGm S1 sg := by
        unfold SGm
        rw [F1.1 121 0 (by unfold PGc; omega), F1.1 46 0 (by unfold PGc; omega)]
        exact g3
      obtain ⟨S2, e2, c2, F2⟩ := m_read_l (t := t) (sz := sz) (it := S.1 26 t) (by omega) a2 21 0 M S1 sg (by omega) (by omega) g3' g1.1 (by rw [F1.1 _ _ (by unfold PGc; omega)]; exact a6) (fun j hj => by rw [F1.1 _ _ (by unfold PGc; omega)]; exact (a7 j hj).symm)
      have zz : iI ((0 : Nat) : Int) = (0 : Int32) := rfl
      have zz3 : iI ((3 * 0 : Nat) : Int) = (0 : Int32) := rfl
      rw [zz] at e1 e2
      refine ⟨_, S1, S2, e1, ?_, hI.sg (sg := (rdS (S.1 26 t) sz 21 0 sg).2) ((F1.mono (fun k i z => by unfold PGc at z; unfold PG KG; omega)).tr (F2.mono (fun k i z => by unfold PGm at z; unfold PG KG; omega))) (SG_iff.mpr ⟨rdS_ok _ _ _ g1, ?_, c2⟩)⟩
      · rw [m_isSheet _ z1 z2, bn_s, b2i_p q, if_neg z10', hvi, ck_t, hcl, F1.1 33 0 (by unfold PGc; omega), a4, if_pos (by rw [i_0, iI_le (by omega) (by omega) (by omega) (by omega)]; omega)]
        exact e2
      · unfold SGc
        rw [F2.1 110 0 (by unfold PGm; omega), F2.1 22 0 (by unfold PGm; omega), F2.1 23 0 (by unfold PGm; omega), F2.1 24 0 (by unfold PGm; omega)]
        exact c1
  · rw [b2i_n q, if_pos z00]
    refine ⟨_, S, S, rfl, ?_, hI⟩
    rw [m_isSheet _ z1 z2, bn_s, b2i_n q, if_pos z00]
