/-! the reference: goes, begins, lives -/
def tkQ (n who : Nat) (dt : Bool) (f : Nat → List Nat) (z : Int) : Option (Nat → List Nat) := if dt = true then tkF n f z who else none
theorem sStep_eq (st : Nat → Nat) (n : Nat) (ts : List tT) (odd how k : Nat) (f : Nat → List Nat) : sStep st n ts odd how k f = (lyQ n (whoQ st odd how k) (!decide (k = odd ∧ how = 1)) (tn ts k).2 ((tkQ n (whoQ st odd how k) (!decide (k = odd ∧ how = 0)) f (tn ts k).1).getD f, 0)).1 := by
  unfold sStep gW lyQ tkQ
  cases (!decide (k = odd ∧ how = 1)) <;> cases (!decide (k = odd ∧ how = 0)) <;> rfl
def tookG (st : Nat → Nat) (n : Nat) (ts : List tT) (odd how k : Nat) (f : Nat → List Nat) : Bool := (tkQ n (whoQ st odd how k) (!decide (k = odd ∧ how = 0)) f (tn ts k).1).isSome
def laidG (st : Nat → Nat) (n : Nat) (ts : List tT) (odd how k : Nat) (f : Nat → List Nat) : Nat := (lyQ n (whoQ st odd how k) (!decide (k = odd ∧ how = 1)) (tn ts k).2 ((tkQ n (whoQ st odd how k) (!decide (k = odd ∧ how = 0)) f (tn ts k).1).getD f, 0)).2
theorem whoQ_lt (st : Nat → Nat) (odd how k : Nat) : whoQ st odd how k < 2 := by unfold whoQ; split <;> omega
theorem m_goes {S : sT} {st : Nat → Nat} {ts : List tT} {n k odd how : Nat} {f : Nat → List Nat} (hO : OkT ts) (hk : k < ts.length) (h : TM S ts) (hM : MS S st) (hW : RM S n f) (hH : HO S odd how) : ∃ S', f_X11_goes (iI k) S = some S' ∧ RM S' n (sStep st n ts odd how k f) ∧ S'.1 117 0 0 = iI (b2i (tookG st n ts odd how k f)) ∧ S'.1 118 0 0 = iI (laidG st n ts odd how k f) ∧ Fr PM S S' := by
  have h1 := hO.1
  obtain ⟨t1, t2, t3, t4, t5⟩ := hO.2 _ (tn_mem hk)
  have hw := whoQ_lt st odd how k
  have h41 := (h.2 k hk).1
  -- the end, behind what was taken
  have fin : ∀ (S1 : sT) (o : Option (Nat → List Nat)) (v : Int32), v = iI (b2i o.isSome) → RM S1 n (o.getD f) → Fr PM S S1 → ∃ S', l_X11_goes_67 (iI k) (iI (whoQ st odd how k)) FU (0 : Int32) (us (us S1 117 0 0 v) 118 0 0 (0 : Int32)) = some S' ∧ RM S' n (lyQ n (whoQ st odd how k) (!decide (k = odd ∧ how = 1)) (tn ts k).2 (o.getD f, 0)).1 ∧ S'.1 117 0 0 = iI (b2i o.isSome) ∧ S'.1 118 0 0 = iI (lyQ n (whoQ st odd how k) (!decide (k = odd ∧ how = 1)) (tn ts k).2 (o.getD f, 0)).2 ∧ Fr PM S S' := by
    intro S1 o v hv g1 g2
    subst hv
    have F2 : Fr PM S (us (us S1 117 0 0 (iI (b2i o.isSome))) 118 0 0 (0 : Int32)) := (g2.tr (Fr.us (by unfold PM; omega))).tr (Fr.us (by unfold PM; omega))
    obtain ⟨S', e1, e2, e3, e4, e5⟩ := m_goes_l (n := n) hO hk hw (tn ts k).2.length 0 FU (o.getD f, 0) (us (us S1 117 0 0 (iI (b2i o.isSome))) 118 0 0 (0 : Int32)) (h.fr F2) (g1.kept (by simp (disch := omega) only [us_ne]) (by simp (disch := omega) only [us_ne]) (by simp (disch := omega) only [us_ne])) (hH.fr F2) us_same (by omega) (by unfold FU; omega) (by simp)
    refine ⟨S', e1, e2, ?_, e3, F2.tr e5⟩
    rw [e4]
    simp (disch := omega) only [us_ne, us_same]
  unfold f_X11_goes
  rw [m_whose hM hH (by omega)]
  simp (disch := omega) only [ck_t, lt_b, bn_s, bn2_s, jn_b, nl_N, nl_S, i_8, iI_mul, vi_iI, cl_iI, tM0, h41]
  rw [sStep_eq]
  unfold tookG laidG
  have none1 : ∀ dt, (tn ts k).1 = -1 → tkQ n (whoQ st odd how k) dt f (tn ts k).1 = none := by
    intro dt q
    unfold tkQ tkF
    split
    · rw [if_neg (by omega)]
    · rfl
  by_cases q0 : (tn ts k).1 = -1
  · rw [if_pos (by rw [q0]; rfl), none1 _ q0]
    exact fin S none (0 : Int32) rfl hW Fr.rf
  · rw [if_neg (by rw [i_m1, iI_eq (by omega) (by omega) (by omega) (by omega)]; exact q0)]
    obtain ⟨S1, g1, g2, g3⟩ := m_takes hW hw (z := (tn ts k).1) (by omega) (by omega)
    have busy : decide (k = odd ∧ how = 0) = false → ∃ S', (bn2 (f_X11_takes (iI (whoQ st odd how k)) (iI (tn ts k).1) S) (fun r37 S38 => (if r37 = (0 : Int32) then l_X11_goes_67 (iI k) (iI (whoQ st odd how k)) FU (0 : Int32) (us (us S38 117 0 0 (0 : Int32)) 118 0 0 (0 : Int32)) else l_X11_goes_67 (iI k) (iI (whoQ st odd how k)) FU (0 : Int32) (us (us S38 117 0 0 (1 : Int32)) 118 0 0 (0 : Int32))))) = some S' ∧ RM S' n (lyQ n (whoQ st odd how k) (!decide (k = odd ∧ how = 1)) (tn ts k).2 ((tkQ n (whoQ st odd how k) (!decide (k = odd ∧ how = 0)) f (tn ts k).1).getD f, 0)).1 ∧ S'.1 117 0 0 = iI (b2i (tkQ n (whoQ st odd how k) (!decide (k = odd ∧ how = 0)) f (tn ts k).1).isSome) ∧ S'.1 118 0 0 = iI (lyQ n (whoQ st odd how k) (!decide (k = odd ∧ how = 1)) (tn ts k).2 ((tkQ n (whoQ st odd how k) (!decide (k = odd ∧ how = 0)) f (tn ts k).1).getD f, 0)).2 ∧ Fr PM S S' := by
      intro q
      have eT : tkQ n (whoQ st odd how k) (!decide (k = odd ∧ how = 0)) f (tn ts k).1 = tkF n f (tn ts k).1 (whoQ st odd how k) := by unfold tkQ; rw [q]; rfl
      rw [g1, bn2_s, eT]
      cases hs : tkF n f (tn ts k).1 (whoQ st odd how k) with
      | none =>
        rw [hs] at g2
        rw [if_pos (show iI (b2i (none : Option (Nat → List Nat)).isSome) = (0 : Int32) from rfl)]
        exact fin S1 none (0 : Int32) rfl g2 (PL.pm g3)
      | some f' =>
        rw [hs] at g2
        rw [if_neg (show ¬ (iI (b2i (some f').isSome) = (0 : Int32)) from z10)]
        exact fin S1 (some f') (1 : Int32) rfl g2 (PL.pm g3)
    by_cases q : k = odd ∧ how = 0
    · have ed : decide (k = odd ∧ how = 0) = true := decide_eq_true q
      have eT : tkQ n (whoQ st odd how k) (!decide (k = odd ∧ how = 0)) f (tn ts k).1 = none := by unfold tkQ; rw [ed]; rfl
      rw [eT]
      rcases hH with ⟨q1, q2⟩ | ⟨q1, q2, q3, q4⟩
      · exact absurd q.1 (by omega)
      · rw [if_pos (by rw [q1, q.1]), if_pos (by rw [q3, q.2]; rfl)]
        exact fin S none (0 : Int32) rfl hW Fr.rf
    · have hb := busy (decide_eq_false q)
      rcases hH with ⟨q1, q2⟩ | ⟨q1, q2, q3, q4⟩
      · rw [if_neg (by rw [q1, iI_eq (by omega) (by omega) (by omega) (by omega)]; omega)]
        exact hb
      · by_cases q5 : k = odd
        · rw [if_pos (by rw [q1, q5]), if_neg (by rw [q3, i_0, iI_eq (by omega) (by omega) (by omega) (by omega)]; omega)]
          exact hb
        · rw [if_neg (by rw [q1, iI_eq (by omega) (by omega) (by omega) (by omega)]; omega)]
          exact hb
/-- the wall as it was read -/
def RB (S : sT) (n : Nat) (f : Nat → List Nat) : Prop :=
  n ≤ 8 ∧ S.1 115 0 0 = iI n ∧ ∀ c, c < 8 → Col (f c) ∧ (n ≤ c → f c = []) ∧ (c < n → S.1 40 0 c = iI (f c).length) ∧ ∀ i, i < (f c).length → S.1 39 0 (8 * c + i) = iI (nth (f c) i)
theorem m_begins_a (j13 : sT → Option sT) : ∀ (d k m : Nat) (S : sT), k + d = 64 → d < m → ∃ S', l_X11_begins_2 j13 m (iI k) S = j13 S' ∧ (∀ i, i < 64 → S'.1 43 0 i = if i < k then S.1 43 0 i else S.1 39 0 i) ∧ Fr PL S S' ∧ S'.1 44 0 = S.1 44 0 := by
  intro d
  induction d with
  | zero =>
    intro k m S hk hm
    obtain ⟨m, rfl⟩ : ∃ m', m = m' + 1 := ⟨m - 1, by omega⟩
    refine ⟨S, ?_, fun i hi => by rw [if_pos (by omega)], Fr.rf, rfl⟩
    rw [l_X11_begins_2_s]
    unfold b_X11_begins_2
    simp (disch := omega) only [ck_t, lt_b, bn_s, bn2_s, jn_b, nl_N, nl_S, i_m2147483648, i_m1002, i_m10, i_m9, i_m4, i_m3, i_m2, i_m1, i_0, i_1, i_2, i_3, i_4, i_5, i_6, i_7, i_8, i_9, i_12, i_15, i_16, i_32, i_40, i_45, i_48, i_55, i_59, i_60, i_63, i_64, i_78, i_81, i_83, i_110, i_115, i_255, iI_add, iI_sub, iI_mul, iI_neg, iI_lt, iI_le, iI_eq, cl_iI, vi_iI, if_pos, if_neg, ↓reduceIte]
  | succ d ih =>
    intro k m S hk hm
    obtain ⟨m, rfl⟩ : ∃ m', m = m' + 1 := ⟨m - 1, by omega⟩
    obtain ⟨S', e1, e2, e3, e4⟩ := ih (k + 1) m (us S 43 0 k (S.1 39 0 k)) (by omega) (by omega)
    refine ⟨S', ?_, fun i hi => ?_, (Fr.us (Or.inl rfl)).tr e3, by rw [e4, us_ne (by omega)]⟩
    · rw [l_X11_begins_2_s]
      unfold b_X11_begins_2
      simp (disch := omega) only [ck_t, lt_b, bn_s, bn2_s, jn_b, nl_N, nl_S, i_m2147483648, i_m1002, i_m10, i_m9, i_m4, i_m3, i_m2, i_m1, i_0, i_1, i_2, i_3, i_4, i_5, i_6, i_7, i_8, i_9, i_12, i_15, i_16, i_32, i_40, i_45, i_48, i_55, i_59, i_60, i_63, i_64, i_78, i_81, i_83, i_110, i_115, i_255, iI_add, iI_sub, iI_mul, iI_neg, iI_lt, iI_le, iI_eq, cl_iI, vi_iI, if_pos, if_neg, ↓reduceIte, Int.toNat_natCast]
      exact e1
    · rw [e2 i hi]
      by_cases q : i < k
      · rw [if_pos (by omega), if_pos q, us_nb (by omega)]
      · rw [if_neg q]
        by_cases q2 : i = k
        · subst q2; rw [if_pos (by omega), us_same]
        · rw [if_neg (by omega), us_ne (by omega)]
theorem m_begins_b {n : Nat} (hn : n ≤ 8) : ∀ (d k m : Nat) (S : sT), k + d = 8 → d < m → S.1 115 0 0 = iI n → ∃ S', l_X11_begins_28 m (iI k) S = some S' ∧ (∀ i, i < 8 → S'.1 44 0 i = if i < k then S.1 44 0 i else if i < n then S.1 40 0 i else iI 0) ∧ Fr PL S S' ∧ S'.1 43 0 = S.1 43 0 := by
  intro d
  induction d with
  | zero =>
    intro k m S hk hm h115
    obtain ⟨m, rfl⟩ : ∃ m', m = m' + 1 := ⟨m - 1, by omega⟩
    refine ⟨S, ?_, fun i hi => by rw [if_pos (by omega)], Fr.rf, rfl⟩
    rw [l_X11_begins_28_s]
    unfold b_X11_begins_28
    simp (disch := omega) only [ck_t, lt_b, bn_s, bn2_s, jn_b, nl_N, nl_S, i_m2147483648, i_m1002, i_m10, i_m9, i_m4, i_m3, i_m2, i_m1, i_0, i_1, i_2, i_3, i_4, i_5, i_6, i_7, i_8, i_9, i_12, i_15, i_16, i_32, i_40, i_45, i_48, i_55, i_59, i_60, i_63, i_64, i_78, i_81, i_83, i_110, i_115, i_255, iI_add, iI_sub, iI_mul, iI_neg, iI_lt, iI_le, iI_eq, cl_iI, vi_iI, if_pos, if_neg, ↓reduceIte]
  | succ d ih =>
    intro k m S hk hm h115
    obtain ⟨m, rfl⟩ : ∃ m', m = m' + 1 := ⟨m - 1, by omega⟩
    obtain ⟨S', e1, e2, e3, e4⟩ := ih (k + 1) m (us S 44 0 k (if k < n then S.1 40 0 k else iI 0)) (by omega) (by omega) (by rw [us_ne (by omega)]; exact h115)
    refine ⟨S', ?_, fun i hi => ?_, (Fr.us (Or.inr rfl)).tr e3, by rw [e4, us_ne (by omega)]⟩
    · rw [l_X11_begins_28_s]
      unfold b_X11_begins_28
      rw [h115]
      by_cases q : k < n
      · rw [if_pos q] at e1
        simp (disch := omega) only [ck_t, lt_b, bn_s, bn2_s, jn_b, nl_N, nl_S, i_m2147483648, i_m1002, i_m10, i_m9, i_m4, i_m3, i_m2, i_m1, i_0, i_1, i_2, i_3, i_4, i_5, i_6, i_7, i_8, i_9, i_12, i_15, i_16, i_32, i_40, i_45, i_48, i_55, i_59, i_60, i_63, i_64, i_78, i_81, i_83, i_110, i_115, i_255, iI_add, iI_sub, iI_mul, iI_neg, iI_lt, iI_le, iI_eq, cl_iI, vi_iI, if_pos, if_neg, ↓reduceIte, Int.toNat_natCast]
        exact e1
      · rw [if_neg q] at e1
        simp (disch := omega) only [ck_t, lt_b, bn_s, bn2_s, jn_b, nl_N, nl_S, i_m2147483648, i_m1002, i_m10, i_m9, i_m4, i_m3, i_m2, i_m1, i_0, i_1, i_2, i_3, i_4, i_5, i_6, i_7, i_8, i_9, i_12, i_15, i_16, i_32, i_40, i_45, i_48, i_55, i_59, i_60, i_63, i_64, i_78, i_81, i_83, i_110, i_115, i_255, iI_add, iI_sub, iI_mul, iI_neg, iI_lt, iI_le, iI_eq, cl_iI, vi_iI, if_pos, if_neg, ↓reduceIte, Int.toNat_natCast]
        exact e1
    · rw [e2 i hi]
      by_cases q : i < k
      · rw [if_pos (by omega), if_pos q, us_nb (by omega)]
      · rw [if_neg q]
        by_cases q2 : i = k
        · subst q2; rw [if_pos (by omega), us_same]
        · rw [if_neg (by omega), us_ne (by omega)]
theorem m_begins {S : sT} {n : Nat} {f : Nat → List Nat} (h : RB S n f) : ∃ S', f_X11_begins S = some S' ∧ RM S' n f ∧ Fr PL S S' := by
  obtain ⟨hn, h115, hf⟩ := h
  obtain ⟨S1, e1, e2, e3, e4⟩ := m_begins_a (fun S1 => l_X11_begins_28 FU (0 : Int32) S1) 64 0 FU S (by omega) (by unfold FU; omega)
  obtain ⟨S2, g1, g2, g3, g4⟩ := m_begins_b hn 8 0 FU S1 (by omega) (by unfold FU; omega) (by rw [e3.1 115 0 (by unfold PL; omega)]; exact h115)
  refine ⟨S2, ?_, ⟨hn, by rw [g3.1 115 0 (by unfold PL; omega), e3.1 115 0 (by unfold PL; omega)]; exact h115, fun c hc => ?_⟩, e3.tr g3⟩
  · unfold f_X11_begins
    rw [jn_b]
    exact e1.trans g1
  · obtain ⟨a1, a2, a3, a4⟩ := hf c hc
    refine ⟨a1, a2, ?_, fun i hi => ?_⟩
    · rw [g2 c hc, if_neg (by omega)]
      by_cases q : c < n
      · rw [if_pos q, e3.1 40 0 (by unfold PL; omega)]; exact a3 q
      · rw [if_neg q, a2 (by omega)]; rfl
    · rw [g4, e2 (8 * c + i) (by have := a1.1; omega), if_neg (by omega)]
      exact a4 i hi
theorem RB.fr {S S' : sT} {n : Nat} {f : Nat → List Nat} (h : RB S n f) (hF : Fr PM S S') : RB S' n f := by
  unfold RB
  rw [hF.1 115 0 (by unfold PM; omega), hF.1 40 0 (by unfold PM; omega), hF.1 39 0 (by unfold PM; omega)]
  exact h
theorem m_lives_l {st : Nat → Nat} {ts : List tT} {n N odd how : Nat} {f0 : Nat → List Nat} (hO : OkT ts) (hN : N ≤ ts.length) : ∀ (d k m : Nat) (S : sT), TM S ts → MS S st → RM S n (sAt st n ts odd how f0 k) → HO S odd how → k + d = N → d < m → ∃ S', l_X11_lives_6 (iI N) m (iI k) S = some S' ∧ RM S' n (sAt st n ts odd how f0 N) ∧ Fr PM S S' ∧ (∀ j, k ≤ j → N = j + 1 → S'.1 117 0 0 = iI (b2i (tookG st n ts odd how j (sAt st n ts odd how f0 j))) ∧ S'.1 118 0 0 = iI (laidG st n ts odd how j (sAt st n ts odd how f0 j))) := by
  have h1 := hO.1
  intro d
  induction d with
  | zero =>
    intro k m S h hM hW hH hk hm
    obtain ⟨m, rfl⟩ : ∃ m', m = m' + 1 := ⟨m - 1, by omega⟩
    have : k = N := by omega
    subst this
    refine ⟨S, ?_, hW, Fr.rf, fun j q1 q2 => absurd q2 (by omega)⟩
    rw [l_X11_lives_6_s]
    unfold b_X11_lives_6
    simp (disch := omega) only [ck_t, lt_b, bn_s, bn2_s, jn_b, nl_N, nl_S, i_m2147483648, i_m1002, i_m10, i_m9, i_m4, i_m3, i_m2, i_m1, i_0, i_1, i_2, i_3, i_4, i_5, i_6, i_7, i_8, i_9, i_12, i_15, i_16, i_32, i_40, i_45, i_48, i_55, i_59, i_60, i_63, i_64, i_78, i_81, i_83, i_110, i_115, i_255, iI_add, iI_sub, iI_mul, iI_neg, iI_lt, iI_le, iI_eq, cl_iI, vi_iI, if_pos, if_neg, ↓reduceIte]
  | succ d ih =>
    intro k m S h hM hW hH hk hm
    obtain ⟨m, rfl⟩ : ∃ m', m = m' + 1 := ⟨m - 1, by omega⟩
    obtain ⟨S1, g1, g2, g3, g4, g5⟩ := m_goes hO (k := k) (by omega) h hM hW hH
    obtain ⟨S', e1, e2, e3, e4⟩ := ih (k + 1) m S1 (h.fr g5) (hM.fr g5) g2 (hH.fr g5) (by omega) (by omega)
    refine ⟨S', ?_, e2, g5.tr e3, fun j q1 q2 => ?_⟩
    · rw [l_X11_lives_6_s]
      unfold b_X11_lives_6
      simp (disch := omega) only [ck_t, lt_b, bn_s, bn2_s, jn_b, nl_N, nl_S, i_m2147483648, i_m1002, i_m10, i_m9, i_m4, i_m3, i_m2, i_m1, i_0, i_1, i_2, i_3, i_4, i_5, i_6, i_7, i_8, i_9, i_12, i_15, i_16, i_32, i_40, i_45, i_48, i_55, i_59, i_60, i_63, i_64, i_78, i_81, i_83, i_110, i_115, i_255, iI_add, iI_sub, iI_mul, iI_neg, iI_lt, iI_le, iI_eq, cl_iI, vi_iI, if_pos, if_neg, ↓reduceIte, g1]
      exact e1
    · by_cases q3 : k + 1 ≤ j
      · exact e4 j q3 q2
      · have : j = k := by omega
        subst this
        have hd : d = 0 := by omega
        subst hd
        -- nothing more is done
        obtain ⟨m, rfl⟩ : ∃ m', m = m' + 1 := ⟨m - 1, by omega⟩
        have e5 : l_X11_lives_6 (iI N) (m + 1) (iI ((j + 1 : Nat) : Int)) S1 = some S1 := by
          rw [l_X11_lives_6_s]
          unfold b_X11_lives_6
          simp (disch := omega) only [ck_t, lt_b, bn_s, bn2_s, jn_b, nl_N, nl_S, i_m2147483648, i_m1002, i_m10, i_m9, i_m4, i_m3, i_m2, i_m1, i_0, i_1, i_2, i_3, i_4, i_5, i_6, i_7, i_8, i_9, i_12, i_15, i_16, i_32, i_40, i_45, i_48, i_55, i_59, i_60, i_63, i_64, i_78, i_81, i_83, i_110, i_115, i_255, iI_add, iI_sub, iI_mul, iI_neg, iI_lt, iI_le, iI_eq, cl_iI, vi_iI, if_pos, if_neg, ↓reduceIte]
        have e6 : S1 = S' := Option.some.inj (e5.symm.trans e1)
        rw [← e6]
        exact ⟨g3, g4⟩
theorem m_lives {S : sT} {st : Nat → Nat} {ts : List tT} {n N odd how : Nat} {f0 : Nat → List Nat} (hO : OkT ts) (hN : N ≤ ts.length) (h : TM S ts) (hM : MS S st) (hB : RB S n f0) (hH : HO S odd how) : ∃ S', f_X11_lives (iI N) S = some S' ∧ RM S' n (sAt st n ts odd how f0 N) ∧ Fr PM S S' ∧ (∀ j, N = j + 1 → S'.1 117 0 0 = iI (b2i (tookG st n ts odd how j (sAt st n ts odd how f0 j))) ∧ S'.1 118 0 0 = iI (laidG st n ts odd how j (sAt st n ts odd how f0 j))) := by
  have h1 := hO.1
  obtain ⟨S1, g1, g2, g3⟩ := m_begins hB
  have g3 := PL.pm g3
  obtain ⟨S', e1, e2, e3, e4⟩ := m_lives_l (f0 := f0) (n := n) (odd := odd) (how := how) hO hN N 0 FU S1 (h.fr g3) (hM.fr g3) g2 (hH.fr g3) (by omega) (by unfold FU; omega)
  refine ⟨S', ?_, e2, g3.tr e3, fun j q => e4 j (by omega) q⟩
  unfold f_X11_lives
  rw [g1, bn_s]
  exact e1
