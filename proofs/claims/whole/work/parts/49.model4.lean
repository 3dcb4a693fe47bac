/-! the reference: a turn, all turns -/
def TM (S : sT) (ts : List tT) : Prop := S.1 116 0 0 = iI ts.length ∧ ∀ k, k < ts.length → S.1 41 0 (8 * k) = iI (tn ts k).1 ∧ S.1 41 0 (8 * k + 1) = iI (tn ts k).2.length ∧ ∀ j, j < (tn ts k).2.length → S.1 41 0 (8 * k + 2 + 2 * j) = iI (sn (tn ts k).2 j).1 ∧ S.1 41 0 (8 * k + 3 + 2 * j) = iI (sn (tn ts k).2 j).2
theorem TM.kept {S S' : sT} {ts : List tT} (h : TM S ts) (h1 : S'.1 116 0 = S.1 116 0) (h2 : S'.1 41 0 = S.1 41 0) : TM S' ts := by
  unfold TM
  rw [h1, h2]
  exact h
theorem TM.fr {S S' : sT} {ts : List tT} (h : TM S ts) (hF : Fr PM S S') : TM S' ts := h.kept (hF.1 _ _ (by unfold PM; omega)) (hF.1 _ _ (by unfold PM; omega))
theorem MS.fr {S S' : sT} {st : Nat → Nat} (h : MS S st) (hF : Fr PM S S') : MS S' st := by
  intro k hk
  rw [hF.1 _ _ (by unfold PM; omega)]
  exact h k hk
/-- the one turn that is otherwise -/
def HO (S : sT) (odd how : Nat) : Prop := (S.1 119 0 0 = iI (-1) ∧ odd = 99) ∨ (S.1 119 0 0 = iI odd ∧ odd < 12 ∧ S.1 120 0 0 = iI how ∧ how < 3)
theorem HO.fr {S S' : sT} {odd how : Nat} (h : HO S odd how) (hF : Fr PM S S') : HO S' odd how := by
  unfold HO
  rw [hF.1 119 0 (by unfold PM; omega), hF.1 120 0 (by unfold PM; omega)]
  exact h
theorem m_whose {S : sT} {st : Nat → Nat} {odd how k : Nat} (hM : MS S st) (hH : HO S odd how) (hk : k < 12) : f_X11_whoseTurn (iI k) S = some (iI (whoQ st odd how k)) := by
  obtain ⟨s0, s1, s2, s3, s4, s5⟩ := m_set hM
  obtain ⟨v1, v2, v3, v4, v5, v0⟩ := v6
  have r0 := (hM 0 (by omega)).2
  unfold f_X11_whoseTurn whoQ
  simp only [ck_t, lt_b, bn_s, bn2_s, jn_b, nl_N, nl_S, v0, s0, nz_2, iI_add]
  rw [show ((st 0 : Int) + (k : Int)) = ((st 0 + k : Nat) : Int) by omega, iI_rem2 (by omega)]
  rcases hH with ⟨h1, h2⟩ | ⟨h1, h2, h3, h4⟩
  · rw [h1, if_neg (by rw [iI_eq (by omega) (by omega) (by omega) (by omega)]; omega), if_neg (by omega)]
  · rw [h1, h3]
    by_cases q : k = odd
    · rw [if_pos (by rw [q])]
      by_cases q2 : how = 2
      · rw [if_pos (by rw [q2]; rfl), if_pos ⟨q, q2⟩, i_1, iI_sub]
        rw [show (1 : Int) - (((st 0 + k) % 2 : Nat) : Int) = (((st 0 + k + 1) % 2 : Nat) : Int) by omega]
      · rw [if_neg (by rw [i_2, iI_eq (by omega) (by omega) (by omega) (by omega)]; omega), if_neg (fun z => q2 z.2)]
    · rw [if_neg (by rw [iI_eq (by omega) (by omega) (by omega) (by omega)]; omega), if_neg (fun z => q z.1)]
theorem tM1 (k : Nat) : (8 * (k : Int) + 1).toNat = 8 * k + 1 := by omega
theorem tM0 (k : Nat) : (8 * (k : Int)).toNat = 8 * k := by omega
theorem tM2 (k j : Nat) : (8 * (k : Int) + 2 + 2 * (j : Int)).toNat = 8 * k + 2 + 2 * j := by omega
theorem tM3 (k j : Nat) : (8 * (k : Int) + 3 + 2 * (j : Int)).toNat = 8 * k + 3 + 2 * j := by omega
def lyQ (n who : Nat) (dl : Bool) (l : List (Nat × Nat)) (p : (Nat → List Nat) × Nat) : (Nat → List Nat) × Nat := if dl = true then l.foldl (layF n who) p else p
theorem m_goes_l {ts : List tT} {n who k odd how : Nat} (hO : OkT ts) (hk : k < ts.length) (hw : who < 2) : ∀ (d j m : Nat) (p : (Nat → List Nat) × Nat) (S : sT), TM S ts → RM S n p.1 → HO S odd how → S.1 118 0 0 = iI p.2 → j + d = (tn ts k).2.length → d < m → p.2 ≤ j → ∃ S', l_X11_goes_67 (iI k) (iI who) m (iI j) S = some S' ∧ RM S' n (lyQ n who (!decide (k = odd ∧ how = 1)) ((tn ts k).2.drop j) p).1 ∧ S'.1 118 0 0 = iI ((lyQ n who (!decide (k = odd ∧ how = 1)) ((tn ts k).2.drop j) p).2 : Nat) ∧ S'.1 117 0 0 = S.1 117 0 0 ∧ Fr PM S S' := by
  have h1 := hO.1
  obtain ⟨t1, t2, t3, t4, t5⟩ := hO.2 _ (tn_mem hk)
  intro d
  induction d with
  | zero =>
    intro j m p S h hW hH h118 hj hm hp
    obtain ⟨m, rfl⟩ : ∃ m', m = m' + 1 := ⟨m - 1, by omega⟩
    rw [List.drop_eq_nil_of_le (by omega)]
    have e0 : ∀ b, lyQ n who b [] p = p := by intro b; unfold lyQ; split <;> rfl
    rw [e0]
    refine ⟨S, ?_, hW, h118, rfl, Fr.rf⟩
    rw [l_X11_goes_67_s]
    unfold b_X11_goes_67
    simp (disch := omega) only [ck_t, lt_b, bn_s, bn2_s, jn_b, nl_N, nl_S, i_m2147483648, i_m1002, i_m10, i_m9, i_m4, i_m3, i_m2, i_m1, i_0, i_1, i_2, i_3, i_4, i_5, i_6, i_7, i_8, i_9, i_12, i_15, i_16, i_32, i_40, i_45, i_48, i_55, i_59, i_60, i_63, i_64, i_78, i_81, i_83, i_110, i_115, i_255, iI_add, iI_sub, iI_mul, iI_neg, iI_lt, iI_le, iI_eq, cl_iI, vi_iI, if_pos, if_neg, ↓reduceIte, tM1, (h.2 k hk).2.1]
  | succ d ih =>
    intro j m p S h hW hH h118 hj hm hp
    obtain ⟨m, rfl⟩ : ∃ m', m = m' + 1 := ⟨m - 1, by omega⟩
    obtain ⟨a1, a2⟩ := (h.2 k hk).2.2 j (by omega)
    obtain ⟨c1, c2⟩ := t5 _ (sn_mem (l := (tn ts k).2) (k := j) (by omega))
    -- what follows when this part does nothing, or what it does
    have step : ∀ (S1 : sT) (f1 : Nat → List Nat) (y : Nat) (v : Int32), v = iI y → y ≤ 1 → RM S1 n f1 → Fr PM S S1 → S1.1 117 0 0 = S.1 117 0 0 → ∃ S', l_X11_goes_67 (iI k) (iI who) m (iI ((j : Int) + 1)) (us S1 118 0 0 (S.1 118 0 0 + v)) = some S' ∧ RM S' n (lyQ n who (!decide (k = odd ∧ how = 1)) ((tn ts k).2.drop (j + 1)) (f1, p.2 + y)).1 ∧ S'.1 118 0 0 = iI ((lyQ n who (!decide (k = odd ∧ how = 1)) ((tn ts k).2.drop (j + 1)) (f1, p.2 + y)).2 : Nat) ∧ S'.1 117 0 0 = S.1 117 0 0 ∧ Fr PM S S' := by
      intro S1 f1 y v hv hy g1 g2 g3
      subst hv
      have F2 : Fr PM S (us S1 118 0 0 (S.1 118 0 0 + iI y)) := g2.tr (Fr.us (by unfold PM; omega))
      have ew : S.1 118 0 0 + iI y = iI ((p.2 + y : Nat) : Int) := by rw [h118, iI_add]; rfl
      obtain ⟨S', e1, e2, e3, e4, e5⟩ := ih (j + 1) m (f1, p.2 + y) (us S1 118 0 0 (S.1 118 0 0 + iI y)) (h.fr F2) (g1.kept (by simp (disch := omega) only [us_ne]) (by simp (disch := omega) only [us_ne]) (by simp (disch := omega) only [us_ne])) (hH.fr F2) (by rw [us_same, ew]) (by omega) (by omega) (by simp only; omega)
      refine ⟨S', ?_, e2, e3, ?_, F2.tr e5⟩
      · exact e1
      · rw [e4, us_ne (by omega), g3]
    rw [drop_sn (by omega)]
    rw [l_X11_goes_67_s]
    unfold b_X11_goes_67
    simp (disch := omega) only [ck_t, lt_b, bn_s, bn2_s, jn_b, nl_N, nl_S, i_8, iI_mul, iI_add, i_2, i_3, vi_iI, cl_iI, iI_le, if_neg, (show (8 * (k : Int) + (1 : Int)).toNat = 8 * k + 1 by omega), (h.2 k hk).2.1, tM2, tM3, a1, a2, (show (1 : Int32) = iI 1 from rfl)]
    have hidle : ∀ q : decide (k = odd ∧ how = 1) = true, lyQ n who (!decide (k = odd ∧ how = 1)) (sn (tn ts k).2 j :: (tn ts k).2.drop (j + 1)) p = lyQ n who (!decide (k = odd ∧ how = 1)) ((tn ts k).2.drop (j + 1)) (p.1, p.2 + 0) := by
      intro q
      unfold lyQ
      rw [q]
      rfl
    have hbusy : ∀ q : decide (k = odd ∧ how = 1) = false, lyQ n who (!decide (k = odd ∧ how = 1)) (sn (tn ts k).2 j :: (tn ts k).2.drop (j + 1)) p = lyQ n who (!decide (k = odd ∧ how = 1)) ((tn ts k).2.drop (j + 1)) (layF n who p (sn (tn ts k).2 j)) := by
      intro q
      unfold lyQ
      rw [q]
      rfl
    obtain ⟨S1, g1, g2, g3⟩ := m_lays hW hw c1 (z := ((sn (tn ts k).2 j).2 : Nat)) (by omega) (by omega)
    have key : decide (k = odd ∧ how = 1) = false → ∃ S', (bn2 (f_X11_lays (iI who) (iI (sn (tn ts k).2 j).1) (iI (sn (tn ts k).2 j).2) S) (fun r23 S24 => (if r23 = (0 : Int32) then l_X11_goes_67 (iI k) (iI who) m (iI ((j : Int) + 1)) (us S24 118 0 0 (S.1 118 0 0 + (0 : Int32))) else l_X11_goes_67 (iI k) (iI who) m (iI ((j : Int) + 1)) (us S24 118 0 0 (S.1 118 0 0 + iI 1))))) = some S' ∧ RM S' n (lyQ n who (!decide (k = odd ∧ how = 1)) (sn (tn ts k).2 j :: (tn ts k).2.drop (j + 1)) p).1 ∧ S'.1 118 0 0 = iI ((lyQ n who (!decide (k = odd ∧ how = 1)) (sn (tn ts k).2 j :: (tn ts k).2.drop (j + 1)) p).2 : Nat) ∧ S'.1 117 0 0 = S.1 117 0 0 ∧ Fr PM S S' := by
      intro q
      rw [hbusy q, g1, bn2_s]
      have eO : layO n p.1 who (sn (tn ts k).2 j) = (if (sn (tn ts k).2 j).1 % 2 = who then putF n p.1 (sn (tn ts k).2 j).2 (sn (tn ts k).2 j).1 else none) := rfl
      rw [← eO] at g2 ⊢
      have k117 : S1.1 117 0 0 = S.1 117 0 0 := by rw [g3.1 117 0 (by unfold PL; omega)]
      replace g3 := PL.pm g3
      cases hs : layO n p.1 who (sn (tn ts k).2 j) with
      | none =>
        have eF : layF n who p (sn (tn ts k).2 j) = (p.1, p.2 + 0) := by unfold layF; rw [hs]; rfl
        rw [eF, if_pos (by rfl)]
        rw [hs] at g2
        exact step S1 p.1 0 _ rfl (by omega) g2 g3 k117
      | some f' =>
        have eF : layF n who p (sn (tn ts k).2 j) = (f', p.2 + 1) := by unfold layF; rw [hs]; rfl
        rw [eF, if_neg (show ¬ (iI (b2i (some f').isSome) = (0 : Int32)) from z10)]
        rw [hs] at g2
        exact step S1 f' 1 _ rfl (by omega) g2 g3 k117
    have z1 : ¬ (iI 1 = (0 : Int32)) := z10
    by_cases q : k = odd ∧ how = 1
    · have ed : decide (k = odd ∧ how = 1) = true := decide_eq_true q
      rw [hidle ed]
      rcases hH with ⟨q1, q2⟩ | ⟨q1, q2, q3, q4⟩
      · exact absurd q.1 (by omega)
      · rw [if_pos (by rw [q1, q.1]), if_pos (by rw [q3, q.2]; rfl), if_pos trivial]
        exact step S p.1 0 _ rfl (by omega) hW Fr.rf rfl
    · have ed : decide (k = odd ∧ how = 1) = false := decide_eq_false q
      have hk2 := key ed
      rcases hH with ⟨q1, q2⟩ | ⟨q1, q2, q3, q4⟩
      · rw [if_neg (by rw [q1, iI_eq (by omega) (by omega) (by omega) (by omega)]; omega), if_neg z1]
        exact hk2
      · by_cases q5 : k = odd
        · rw [if_pos (by rw [q1, q5]), if_neg (by rw [q3, iI_eq (by omega) (by omega) (by omega) (by omega)]; omega), if_neg z1]
          exact hk2
        · rw [if_neg (by rw [q1, iI_eq (by omega) (by omega) (by omega) (by omega)]; omega), if_neg z1]
          exact hk2
