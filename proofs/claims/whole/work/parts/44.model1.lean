/-! the reference: its wall (stones, many), heights, leans, weak columns, pears, weights -/
def lI (z : Int) : Int64 := Int64.ofInt z
theorem lI_toInt {z : Int} (h1 : -4611686018427387904 ≤ z) (h2 : z < 4611686018427387904) : (lI z).toInt = z := Int64.toInt_ofInt_of_le (by omega) (by omega)
theorem iI_toL {z : Int} (h1 : -2147483648 ≤ z) (h2 : z < 2147483648) : (iI z).toInt64 = lI z := by
  apply Int64.toInt_inj.mp
  rw [Int32.toInt_toInt64, iI_toInt h1 h2, lI_toInt (by omega) (by omega)]
theorem lg_lI {a b : Int} (h1 : -4611686018427387904 ≤ a) (h2 : a < 4611686018427387904) (h3 : -4611686018427387904 ≤ b) (h4 : b < 4611686018427387904) : lg_cmp (lI a) (lI b) = iI (if b < a then 1 else if a = b then 0 else -1) := by
  unfold lg_cmp
  have e1 : (lI a > lI b) ↔ b < a := by
    show lI b < lI a ↔ b < a
    rw [Int64.lt_iff_toInt_lt, lI_toInt h1 h2, lI_toInt h3 h4]
  have e2 : (lI a = lI b) ↔ a = b := by
    rw [← Int64.toInt_inj, lI_toInt h1 h2, lI_toInt h3 h4]
  by_cases q1 : b < a
  · rw [if_pos (e1.mpr q1), if_pos q1]; rfl
  · rw [if_neg (fun q => q1 (e1.mp q)), if_neg q1]
    by_cases q2 : a = b
    · rw [if_pos (e2.mpr q2), if_pos q2]; rfl
    · rw [if_neg (fun q => q2 (e2.mp q)), if_neg q2]; rfl
theorem p_in {z a b : Int} (S : sT) (h1 : -2147483648 ≤ z) (h2 : z < 2147483648) (h3 : -2147483648 ≤ a) (h4 : a < 2147483648) (h5 : -2147483648 ≤ b) (h6 : b < 2147483648) : f_X11_in (lI z) (lI a) (lI b) S = some (iI (b2i (decide (a ≤ z ∧ z ≤ b)))) := by
  unfold f_X11_in
  rw [lg_lI (by omega) (by omega) (by omega) (by omega), lg_lI (by omega) (by omega) (by omega) (by omega)]
  by_cases q1 : a ≤ z
  · have e1 : ¬ (iI (if a < z then 1 else if z = a then 0 else -1) < (0 : Int32)) := by
      rw [i_0, iI_lt (by split <;> (try split) <;> omega) (by split <;> (try split) <;> omega) (by omega) (by omega)]
      split <;> (try split) <;> omega
    rw [if_neg e1]
    by_cases q2 : z ≤ b
    · have e2 : ¬ ((0 : Int32) < iI (if b < z then 1 else if z = b then 0 else -1)) := by
        rw [i_0, iI_lt (by omega) (by omega) (by split <;> (try split) <;> omega) (by split <;> (try split) <;> omega)]
        split <;> (try split) <;> omega
      rw [if_neg e2, decide_eq_true ⟨q1, q2⟩]; rfl
    · have e2 : ((0 : Int32) < iI (if b < z then 1 else if z = b then 0 else -1)) := by
        rw [i_0, iI_lt (by omega) (by omega) (by split <;> (try split) <;> omega) (by split <;> (try split) <;> omega)]
        split <;> (try split) <;> omega
      rw [if_pos e2, decide_eq_false (fun q => q2 q.2)]; rfl
  · have e1 : (iI (if a < z then 1 else if z = a then 0 else -1) < (0 : Int32)) := by
      rw [i_0, iI_lt (by split <;> (try split) <;> omega) (by split <;> (try split) <;> omega) (by omega) (by omega)]
      split <;> (try split) <;> omega
    rw [if_pos e1, decide_eq_false (fun q => q1 q.1)]; rfl
theorem vz_b (b : Bool) : vz (iI (b2i b)) = true := by cases b <;> decide
/-- the reference's wall holds n columns f -/
def RM (S : sT) (n : Nat) (f : Nat → List Nat) : Prop :=
  n ≤ 8 ∧ S.1 115 0 0 = iI n ∧ ∀ c, c < 8 → Col (f c) ∧ (n ≤ c → f c = []) ∧ S.1 44 0 c = iI (f c).length ∧ ∀ i, i < (f c).length → S.1 43 0 (8 * c + i) = iI (nth (f c) i)
/-- the reference's settings -/
def MS (S : sT) (st : Nat → Nat) : Prop := ∀ k, k < 6 → S.1 42 0 k = iI (st k) ∧ st k ≤ 255
theorem nz_2 : nz (2 : Int32) = true := by decide
theorem p_weight {x : Nat} (hx : x < 4) (S : sT) : f_X11_weight (iI x) S = some (iI (wt x)) := by
  unfold f_X11_weight wt
  rcases (show x = 0 ∨ x = 1 ∨ x = 2 ∨ x = 3 by omega) with rfl | rfl | rfl | rfl <;> rfl
theorem iI_rem2 {a : Nat} (h : a < 2147483648) : iI a - iI a / (2 : Int32) * (2 : Int32) = iI (a % 2 : Nat) := pk_rem (a := a) (d := 2) h (by omega) (by omega)
theorem drop_nth {l : List Nat} {k : Nat} (h : k < l.length) : l.drop k = nth l k :: l.drop (k + 1) := by
  rw [List.drop_eq_getElem_cons h]
  unfold nth
  rw [List.getD_eq_getElem?_getD, List.getElem?_eq_getElem h]
  rfl
theorem col_nth {l : List Nat} (h : Col l) {k : Nat} (hk : k < l.length) : nth l k < 4 := by
  have h2 := h.2 (l[k]) (List.getElem_mem hk)
  unfold nth
  rw [List.getD_eq_getElem?_getD, List.getElem?_eq_getElem hk]
  exact h2
theorem ht_cons (x : Nat) (l : List Nat) : ht (x :: l) = wt x + ht l := by simp [ht]
theorem ln_cons (x : Nat) (l : List Nat) : ln (x :: l) = pl x + ln l := by simp [ln]
theorem wS_cons (who x : Nat) (l : List Nat) : wS who (x :: l) = (if x % 2 = who then wt x else 0) + wS who l := by simp [wS]
theorem tN8' (c i : Nat) : (8 * (c : Int) + (i : Int)).toNat = 8 * c + i := by omega
theorem m_highOf_l {S : sT} {n c : Nat} {f : Nat → List Nat} (h : RM S n f) (hc : c < 8) : ∀ (d k m a : Nat), k + d = (f c).length → d < m → a ≤ 2 * k → l_X11_highOf_4 (iI c) S m (iI a) (iI k) = some (iI ((a + ht ((f c).drop k) : Nat) : Int)) := by
  obtain ⟨a1, a2, a3, a4⟩ := h.2.2 c hc
  have a5 := a1.1
  intro d
  induction d with
  | zero =>
    intro k m a hk hm ha
    obtain ⟨m, rfl⟩ : ∃ m', m = m' + 1 := ⟨m - 1, by omega⟩
    rw [l_X11_highOf_4_s, List.drop_eq_nil_of_le (by omega)]
    unfold b_X11_highOf_4
    simp (disch := omega) only [ck_t, lt_b, bn_s, bn2_s, jn_b, nl_N, nl_S, i_m2147483648, i_m1002, i_m10, i_m9, i_m4, i_m3, i_m2, i_m1, i_0, i_1, i_2, i_3, i_4, i_5, i_6, i_7, i_8, i_9, i_12, i_15, i_16, i_32, i_40, i_45, i_48, i_55, i_59, i_60, i_63, i_64, i_78, i_81, i_83, i_110, i_115, i_255, iI_add, iI_sub, iI_mul, iI_neg, iI_lt, iI_le, iI_eq, cl_iI, vi_iI, if_pos, if_neg, ↓reduceIte, Int.toNat_natCast, a3]
    rfl
  | succ d ih =>
    intro k m a hk hm ha
    obtain ⟨m, rfl⟩ : ∃ m', m = m' + 1 := ⟨m - 1, by omega⟩
    have b1 := a4 k (by omega)
    have b2 := col_nth a1 (k := k) (by omega)
    have b3 := wt_le (nth (f c) k)
    rw [l_X11_highOf_4_s, drop_nth (by omega), ht_cons]
    unfold b_X11_highOf_4
    simp (disch := omega) only [ck_t, lt_b, bn_s, bn2_s, jn_b, nl_N, nl_S, i_m2147483648, i_m1002, i_m10, i_m9, i_m4, i_m3, i_m2, i_m1, i_0, i_1, i_2, i_3, i_4, i_5, i_6, i_7, i_8, i_9, i_12, i_15, i_16, i_32, i_40, i_45, i_48, i_55, i_59, i_60, i_63, i_64, i_78, i_81, i_83, i_110, i_115, i_255, iI_add, iI_sub, iI_mul, iI_neg, iI_lt, iI_le, iI_eq, cl_iI, vi_iI, if_pos, if_neg, ↓reduceIte, Int.toNat_natCast, a3, tN8', b1, p_weight b2]
    have e := ih (k + 1) m (a + wt (nth (f c) k)) (by omega) (by omega) (by omega)
    rw [show a + (wt (nth (f c) k) + ht ((f c).drop (k + 1))) = a + wt (nth (f c) k) + ht ((f c).drop (k + 1)) by omega]
    exact e
theorem m_highOf {S : sT} {n c : Nat} {f : Nat → List Nat} (h : RM S n f) (hc : c < 8) : f_X11_highOf (iI c) S = some (iI (ht (f c))) := by
  have a5 := (h.2.2 c hc).1.1
  unfold f_X11_highOf
  have e := m_highOf_l h hc (f c).length 0 FU 0 (by omega) (by unfold FU; omega) (by omega)
  rw [show 0 + ht ((f c).drop 0) = ht (f c) by simp] at e
  exact e
theorem m_leanOf_l {S : sT} {n c : Nat} {f : Nat → List Nat} (h : RM S n f) (hc : c < 8) : ∀ (d k m : Nat) (a : Int), k + d = (f c).length → d < m → -(2 * k : Int) ≤ a → a ≤ 2 * k → l_X11_leanOf_4 (iI c) S m (iI a) (iI k) = some (iI (a + ln ((f c).drop k))) := by
  obtain ⟨a1, a2, a3, a4⟩ := h.2.2 c hc
  have a5 := a1.1
  intro d
  induction d with
  | zero =>
    intro k m a hk hm ha ha2
    obtain ⟨m, rfl⟩ : ∃ m', m = m' + 1 := ⟨m - 1, by omega⟩
    rw [l_X11_leanOf_4_s, List.drop_eq_nil_of_le (by omega)]
    unfold b_X11_leanOf_4
    simp (disch := omega) only [ck_t, lt_b, bn_s, bn2_s, jn_b, nl_N, nl_S, i_m2147483648, i_m1002, i_m10, i_m9, i_m4, i_m3, i_m2, i_m1, i_0, i_1, i_2, i_3, i_4, i_5, i_6, i_7, i_8, i_9, i_12, i_15, i_16, i_32, i_40, i_45, i_48, i_55, i_59, i_60, i_63, i_64, i_78, i_81, i_83, i_110, i_115, i_255, iI_add, iI_sub, iI_mul, iI_neg, iI_lt, iI_le, iI_eq, cl_iI, vi_iI, if_pos, if_neg, ↓reduceIte, Int.toNat_natCast, a3]
    rw [show ln [] = 0 from rfl, Int.add_zero]
  | succ d ih =>
    intro k m a hk hm ha ha2
    obtain ⟨m, rfl⟩ : ∃ m', m = m' + 1 := ⟨m - 1, by omega⟩
    have b1 := a4 k (by omega)
    have b2 := col_nth a1 (k := k) (by omega)
    have b3 := wt_le (nth (f c) k)
    rw [l_X11_leanOf_4_s, drop_nth (by omega), ln_cons]
    unfold b_X11_leanOf_4
    simp (disch := omega) only [ck_t, lt_b, bn_s, bn2_s, jn_b, nl_N, nl_S, i_8, i_0, i_1, iI_mul, iI_add, iI_le, vi_iI, cl_iI, if_neg, Int.toNat_natCast, a3, tN8', b1, p_weight b2, nz_2, iI_rem2]
    have e := fun a => ih (k + 1) m a (by omega) (by omega)
    have e2 : pl (nth (f c) k) = if (nth (f c) k) % 2 = 0 then (wt (nth (f c) k) : Int) else -(wt (nth (f c) k) : Int) := rfl
    rw [e2]
    by_cases q : (nth (f c) k) % 2 = 0
    · rw [if_pos (by rw [q]; rfl), if_pos q]
      try simp only [iI_add]
      rw [← Int.add_assoc]
      exact e _ (by omega) (by omega)
    · rw [if_neg (by rw [iI_eq (by omega) (by omega) (by omega) (by omega)]; omega), if_neg q]
      try simp only [iI_neg, iI_add]
      rw [← Int.add_assoc]
      exact e _ (by omega) (by omega)
theorem m_leanOf {S : sT} {n c : Nat} {f : Nat → List Nat} (h : RM S n f) (hc : c < 8) : f_X11_leanOf (iI c) S = some (iI (ln (f c))) := by
  have a5 := (h.2.2 c hc).1.1
  unfold f_X11_leanOf
  have e := m_leanOf_l h hc (f c).length 0 FU 0 (by omega) (by unfold FU; omega) (by omega) (by omega)
  rw [show (0 : Int) + ln ((f c).drop 0) = ln (f c) by simp] at e
  exact e
theorem m_beside {S : sT} {n c : Nat} {f : Nat → List Nat} (h : RM S n f) (hc : c < n) : f_X11_beside (iI c) S = some (iI ((if hs n f ((c : Int) - 1) < hs n f ((c : Int) + 1) then hs n f ((c : Int) + 1) else hs n f ((c : Int) - 1) : Nat) : Int)) := by
  have hn := h.1
  have hb : ∀ c, c < 8 → ht (f c) ≤ 16 := fun c hc => by
    have := (h.2.2 c hc).1.1
    have := ht_le (f c)
    omega
  have fin : ∀ A B : Nat, A ≤ 16 → B ≤ 16 → (if iI (A : Int) ≤ iI (B : Int) then some (iI (B : Int)) else some (iI (A : Int))) = some (iI ((if A < B then B else A : Nat) : Int)) := by
    intro A B hA hB
    simp (disch := omega) only [iI_le]
    by_cases q : A < B
    · rw [if_pos (by omega), if_pos q]
    · rw [if_neg q]
      split
      · rw [show A = B by omega]
      · rfl
  have eL : hs n f ((c : Int) - 1) = if c = 0 then 0 else ht (f (c - 1)) := by
    unfold hs
    by_cases q : c = 0
    · rw [if_neg (by omega), if_pos q]
    · rw [if_pos (by omega), if_neg q, show ((c : Int) - 1).toNat = c - 1 by omega]
  have eR : hs n f ((c : Int) + 1) = if c + 1 < n then ht (f (c + 1)) else 0 := by
    unfold hs
    by_cases q : c + 1 < n
    · rw [if_pos (by omega), if_pos q, show ((c : Int) + 1).toNat = c + 1 by omega]
    · rw [if_neg (by omega), if_neg q]
  unfold f_X11_beside
  simp only [jn_b, h.2.1, i_0, i_1, iI_add, iI_sub]
  rw [eL, eR]
  by_cases q : c = 0
  · subst q
    rw [if_pos (by rw [iI_le (by omega) (by omega) (by omega) (by omega)]; omega), if_pos rfl]
    by_cases q2 : 0 + 1 < n
    · rw [if_neg (by rw [iI_le (by omega) (by omega) (by omega) (by omega)]; omega), if_pos q2]
      rw [show ((0 : Nat) : Int) + 1 = ((1 : Nat) : Int) from rfl, m_highOf h (by omega), bn_s]
      exact fin 0 (ht (f 1)) (by omega) (hb 1 (by omega))
    · rw [if_pos (by rw [iI_le (by omega) (by omega) (by omega) (by omega)]; omega), if_neg q2]
      exact fin 0 0 (by omega) (by omega)
  · rw [if_neg (by rw [iI_le (by omega) (by omega) (by omega) (by omega)]; omega), if_neg q]
    rw [show (c : Int) - 1 = ((c - 1 : Nat) : Int) by omega, m_highOf h (by omega), bn_s]
    by_cases q2 : c + 1 < n
    · rw [if_neg (by rw [iI_le (by omega) (by omega) (by omega) (by omega)]; omega), if_pos q2]
      rw [show (c : Int) + 1 = ((c + 1 : Nat) : Int) from rfl, m_highOf h (by omega), bn_s]
      exact fin _ _ (hb _ (by omega)) (hb _ (by omega))
    · rw [if_pos (by rw [iI_le (by omega) (by omega) (by omega) (by omega)]; omega), if_neg q2]
      exact fin _ 0 (hb _ (by omega)) (by omega)
