/-! the wall as a text: both readers -/
def bt (l : List Nat) (j : Nat) : Nat := l.getD j 0
theorem bt_drop {l : List Nat} {k : Nat} (h : k < l.length) : l.drop k = bt l k :: l.drop (k + 1) := drop_nth h
/-- text t of the class holds l -/
def TX (S : sT) (t : Nat) (l : List Nat) (lim : Nat) : Prop := S.1 103 t 0 = iI l.length ∧ S.1 102 t 0 = iI lim ∧ l.length ≤ lim ∧ lim ≤ 63 ∧ ∀ j, j < l.length → S.1 11 t j = iI (bt l j) ∧ bt l j < 256
theorem TX.kept {S S' : sT} {t lim : Nat} {l : List Nat} (h : TX S t l lim) (h1 : S'.1 103 t = S.1 103 t) (h2 : S'.1 102 t = S.1 102 t) (h3 : S'.1 11 t = S.1 11 t) : TX S' t l lim := by
  unfold TX
  rw [h1, h2, h3]
  exact h
theorem TX.fr {S S' : sT} {t lim : Nat} {l : List Nat} {P : Nat → Nat → Prop} (h : TX S t l lim) (hF : Fr P S S') (hP : ¬ P 103 t ∧ ¬ P 102 t ∧ ¬ P 11 t) : TX S' t l lim := h.kept (hF.1 _ _ hP.1) (hF.1 _ _ hP.2.1) (hF.1 _ _ hP.2.2)
theorem TX.fw {S S' : sT} {t lim w : Nat} {l : List Nat} (h : TX S t l lim) (hF : FW w S S') : TX S' t l lim := h.kept (hF.1 _ _ (by omega)) (hF.1 _ _ (by omega)) (hF.1 _ _ (by omega))
theorem p_size {S : sT} {t lim : Nat} {l : List Nat} (h : TX S t l lim) : f_X8_size t S = some (iI l.length) := by unfold f_X8_size; rw [h.1]
theorem p_byteAt {S : sT} {t lim k : Nat} {l : List Nat} (h : TX S t l lim) (hk : k < l.length) : f_X8_byteAt t (iI k) S = some (iI (bt l k)) := by
  obtain ⟨h1, h2, h3, h4, h5⟩ := h
  unfold f_X8_byteAt
  rw [h1]
  simp (disch := omega) only [ck_t, lt_b, bn_s, bn2_s, jn_b, nl_N, nl_S, i_m2147483648, i_m1002, i_m10, i_m9, i_m4, i_m3, i_m2, i_m1, i_0, i_1, i_2, i_3, i_4, i_5, i_6, i_7, i_8, i_9, i_12, i_15, i_16, i_32, i_40, i_45, i_48, i_55, i_59, i_60, i_63, i_64, i_78, i_81, i_83, i_110, i_115, i_255, iI_add, iI_sub, iI_mul, iI_neg, iI_lt, iI_le, iI_eq, cl_iI, vi_iI, if_pos, if_neg, ↓reduceIte, Int.toNat_natCast, (h5 k hk).1]
def ltr (b : Nat) : Option Nat := if b = 110 then some 0 else if b = 115 then some 1 else if b = 78 then some 2 else if b = 83 then some 3 else none
theorem ltr_lt {b x : Nat} (h : ltr b = some x) : x < 4 := by
  unfold ltr at h
  split at h
  · cases h; omega
  · split at h
    · cases h; omega
    · split at h
      · cases h; omega
      · split at h
        · cases h; omega
        · cases h
def oI (o : Option Nat) : Int := match o with | some x => x | none => -1
theorem p_ofLetter {b : Nat} (hb : b < 256) (S : sT) : f_X7_ofLetter (iI b) S = some (iI (oI (ltr b))) := by
  unfold f_X7_ofLetter ltr
  simp (disch := omega) only [ck_t, lt_b, bn_s, bn2_s, jn_b, nl_N, nl_S, i_m2147483648, i_m1002, i_m10, i_m9, i_m4, i_m3, i_m2, i_m1, i_0, i_1, i_2, i_3, i_4, i_5, i_6, i_7, i_8, i_9, i_12, i_15, i_16, i_32, i_40, i_45, i_48, i_55, i_59, i_60, i_63, i_64, i_78, i_81, i_83, i_110, i_115, i_255, iI_add, iI_sub, iI_mul, iI_neg, iI_lt, iI_le, iI_eq, cl_iI, vi_iI]
  by_cases h1 : b = 110
  · subst h1; rfl
  · by_cases h2 : b = 115
    · subst h2; rfl
    · by_cases h3 : b = 78
      · subst h3; rfl
      · by_cases h4 : b = 83
        · subst h4; rfl
        · rw [if_neg (by omega), if_neg (by omega), if_neg (by omega), if_neg (by omega), if_neg h1, if_neg h2, if_neg h3, if_neg h4]; rfl
theorem m_stoneOf {b : Int} (hb : b = -1 ∨ (0 ≤ b ∧ b < 256)) (S : sT) : f_X11_stoneOf (iI b) S = some (iI (oI (if b = -1 then none else ltr b.toNat))) := by
  unfold f_X11_stoneOf ltr
  simp (disch := omega) only [ck_t, lt_b, bn_s, bn2_s, jn_b, nl_N, nl_S, i_m2147483648, i_m1002, i_m10, i_m9, i_m4, i_m3, i_m2, i_m1, i_0, i_1, i_2, i_3, i_4, i_5, i_6, i_7, i_8, i_9, i_12, i_15, i_16, i_32, i_40, i_45, i_48, i_55, i_59, i_60, i_63, i_64, i_78, i_81, i_83, i_110, i_115, i_255, iI_add, iI_sub, iI_mul, iI_neg, iI_lt, iI_le, iI_eq, cl_iI, vi_iI]
  rcases hb with rfl | hb
  · rfl
  · obtain ⟨b, rfl⟩ : ∃ c : Nat, b = c := ⟨b.toNat, by omega⟩
    simp only [Int.toNat_natCast]
    rw [if_neg (show ¬ ((b : Int) = -1) by omega)]
    by_cases h1 : b = 110
    · subst h1; rfl
    · by_cases h2 : b = 115
      · subst h2; rfl
      · by_cases h3 : b = 78
        · subst h3; rfl
        · by_cases h4 : b = 83
          · subst h4; rfl
          · rw [if_neg (by omega), if_neg (by omega), if_neg (by omega), if_neg (by omega), if_neg h1, if_neg h2, if_neg h3, if_neg h4]; rfl
abbrev wT : Type := Nat × (Nat → List Nat)
def w0W : wT := (0, fun _ => [])
def growW (w : wT) (b : Nat) : Option wT := if b = 59 then (if w.1 < 8 then some (w.1 + 1, w.2) else none) else (match ltr b with | none => none | some x => if (w.2 (w.1 - 1)).length < 8 then some (w.1, upf w.2 (w.1 - 1) (w.2 (w.1 - 1) ++ [x])) else none)
def pWl : List Nat → Nat → wT → Int × wT
  | [], _, w => (-1, w)
  | b :: l, i, w => match growW w b with | none => ((i : Int), w0W) | some w' => pWl l (i + 1) w'
def parseW (l : List Nat) : Int × wT := pWl l 0 (if l = [] then 0 else 1, fun _ => [])
theorem p_raze_l {w : Nat} : ∀ (d k m : Nat) (S : sT), k + d = 8 → d < m → ∃ S', l_X9_raze_7 w m (iI k) S = some S' ∧ FW w S S' ∧ S'.1 112 w = S.1 112 w ∧ ∀ c, c < 8 → (S'.1 30 w c = if c < k then S.1 30 w c else iI 0) ∧ (S'.1 31 w c = if c < k then S.1 31 w c else iI 0) ∧ (S'.1 32 w c = if c < k then S.1 32 w c else iI 0) := by
  intro d
  induction d with
  | zero =>
    intro k m S hk hm
    obtain ⟨m, rfl⟩ : ∃ m', m = m' + 1 := ⟨m - 1, by omega⟩
    refine ⟨S, ?_, FW.rf w S, rfl, fun c hc => by rw [if_pos (by omega), if_pos (by omega), if_pos (by omega)]; exact ⟨rfl, rfl, rfl⟩⟩
    rw [l_X9_raze_7_s]
    unfold b_X9_raze_7
    simp (disch := omega) only [ck_t, lt_b, bn_s, bn2_s, jn_b, nl_N, nl_S, i_m2147483648, i_m1002, i_m10, i_m9, i_m4, i_m3, i_m2, i_m1, i_0, i_1, i_2, i_3, i_4, i_5, i_6, i_7, i_8, i_9, i_12, i_15, i_16, i_32, i_40, i_45, i_48, i_55, i_59, i_60, i_63, i_64, i_78, i_81, i_83, i_110, i_115, i_255, iI_add, iI_sub, iI_mul, iI_neg, iI_lt, iI_le, iI_eq, cl_iI, vi_iI, if_pos, if_neg, ↓reduceIte]
  | succ d ih =>
    intro k m S hk hm
    obtain ⟨m, rfl⟩ : ∃ m', m = m' + 1 := ⟨m - 1, by omega⟩
    obtain ⟨S', e1, e2, e3, e4⟩ := ih (k + 1) m (us (us (us S 30 w k (iI 0)) 31 w k (iI 0)) 32 w k (iI 0)) (by omega) (by omega)
    refine ⟨S', ?_, (((FW.us (by omega)).tr (FW.us (by omega))).tr (FW.us (by omega))).tr e2, ?_, fun c hc => ?_⟩
    · rw [l_X9_raze_7_s]
      unfold b_X9_raze_7
      simp (disch := omega) only [ck_t, lt_b, bn_s, bn2_s, jn_b, nl_N, nl_S, i_m2147483648, i_m1002, i_m10, i_m9, i_m4, i_m3, i_m2, i_m1, i_0, i_1, i_2, i_3, i_4, i_5, i_6, i_7, i_8, i_9, i_12, i_15, i_16, i_32, i_40, i_45, i_48, i_55, i_59, i_60, i_63, i_64, i_78, i_81, i_83, i_110, i_115, i_255, iI_add, iI_sub, iI_mul, iI_neg, iI_lt, iI_le, iI_eq, cl_iI, vi_iI, if_pos, if_neg, ↓reduceIte, Int.toNat_natCast]
      exact e1
    · rw [e3]
      simp (disch := omega) only [us_ne]
    · obtain ⟨a1, a2, a3⟩ := e4 c hc
      rw [a1, a2, a3]
      by_cases q : c < k
      · simp (disch := omega) only [if_pos, us_ne, us_nb, and_self]
      · by_cases q2 : c = k
        · subst q2
          simp (disch := omega) only [if_pos, if_neg, us_ne, us_same, and_self]
        · simp (disch := omega) only [if_neg, and_self]
theorem p_raze (w : Nat) (S : sT) : ∃ S', f_X9_raze w S = some S' ∧ FW w S S' ∧ RW S' w 0 (fun _ => []) := by
  obtain ⟨S', e1, e2, e3, e4⟩ := p_raze_l (w := w) 8 0 FU (us S 112 w 0 (iI 0)) (by omega) (by unfold FU; omega)
  refine ⟨S', ?_, (FW.us (by omega)).tr e2, ⟨by omega, ?_, fun c hc => ?_⟩⟩
  · unfold f_X9_raze
    exact e1
  · rw [e3, us_same]; rfl
  · obtain ⟨a1, a2, a3⟩ := e4 c hc
    rw [if_neg (by omega)] at a1 a2 a3
    exact ⟨⟨by simp, by simp⟩, fun _ => rfl, a1, a2, a3, fun i hi => absurd hi (by simp)⟩
theorem p_grow {S : sT} {w n b : Nat} {f : Nat → List Nat} (h : RW S w n f) (hn1 : 1 ≤ n) (hb : b < 256) : ∃ S', f_X9_grow w (iI b) S = some (iI (b2i (growW (n, f) b).isSome), S') ∧ (∀ w', growW (n, f) b = some w' → 1 ≤ w'.1 ∧ RW S' w w'.1 w'.2) ∧ FW w S S' := by
  have hn := h.1
  unfold f_X9_grow growW
  rw [h.2.1, p_ofLetter hb]
  by_cases q : b = 59
  · rw [if_pos (show iI (b : Int) = (59 : Int32) by rw [q]; rfl), if_pos q]
    by_cases q2 : n < 8
    · rw [if_pos q2]
      refine ⟨us S 112 w 0 (iI ((n : Int) + 1)), ?_, ?_, FW.us (by omega)⟩
      · simp (disch := omega) only [ck_t, lt_b, bn_s, bn2_s, jn_b, nl_N, nl_S, i_m2147483648, i_m1002, i_m10, i_m9, i_m4, i_m3, i_m2, i_m1, i_0, i_1, i_2, i_3, i_4, i_5, i_6, i_7, i_8, i_9, i_12, i_15, i_16, i_32, i_40, i_45, i_48, i_55, i_59, i_60, i_63, i_64, i_78, i_81, i_83, i_110, i_115, i_255, iI_add, iI_sub, iI_mul, iI_neg, iI_lt, iI_le, iI_eq, cl_iI, vi_iI, if_pos, if_neg, ↓reduceIte]
        rfl
      · intro w' e
        cases e
        refine ⟨by simp only; omega, by simp only; omega, us_same, fun c hc => ?_⟩
        obtain ⟨a1, a2, a3, a4, a5, a6⟩ := h.2.2 c hc
        simp (disch := omega) only [us_ne]
        exact ⟨a1, fun q3 => a2 (by omega), a3, a4, a5, a6⟩
    · rw [if_neg q2]
      refine ⟨S, ?_, (fun w' e => by cases e), FW.rf w S⟩
      simp (disch := omega) only [ck_t, lt_b, bn_s, bn2_s, jn_b, nl_N, nl_S, i_m2147483648, i_m1002, i_m10, i_m9, i_m4, i_m3, i_m2, i_m1, i_0, i_1, i_2, i_3, i_4, i_5, i_6, i_7, i_8, i_9, i_12, i_15, i_16, i_32, i_40, i_45, i_48, i_55, i_59, i_60, i_63, i_64, i_78, i_81, i_83, i_110, i_115, i_255, iI_add, iI_sub, iI_mul, iI_neg, iI_lt, iI_le, iI_eq, cl_iI, vi_iI, if_pos, if_neg, ↓reduceIte]
      rfl
  · rw [if_neg (by rw [i_59, iI_eq (by omega) (by omega) (by omega) (by omega)]; omega), if_neg q]
    cases hs : ltr b with
    | none =>
      refine ⟨S, ?_, (fun w' e => by cases e), FW.rf w S⟩
      simp only [bn_s, oI]
      rw [if_pos (by rfl)]
      rfl
    | some x =>
      have hx := ltr_lt hs
      simp only [bn_s, oI]
      rw [if_neg (by rw [i_m1, iI_eq (by omega) (by omega) (by omega) (by omega)]; omega), i_1, iI_sub]
      obtain ⟨S', e1, e2, e3⟩ := p_put h hx (z := (n : Int) - 1) (by omega) (by omega)
      have et : ((n : Int) - 1).toNat = n - 1 := by omega
      have ep : putF n f ((n : Int) - 1) x = if (f (n - 1)).length < 8 then some (upf f (n - 1) (f (n - 1) ++ [x])) else none := by
        unfold putF
        rw [et]
        by_cases q3 : (f (n - 1)).length < 8
        · rw [if_pos ⟨by omega, by omega, q3⟩, if_pos q3]
        · rw [if_neg (fun z => q3 z.2.2), if_neg q3]
      rw [ep] at e1 e2
      by_cases q3 : (f (n - 1)).length < 8
      · rw [if_pos q3] at e1 e2 ⊢
        refine ⟨S', ?_, fun w' e => by cases e; exact ⟨hn1, e2⟩, e3⟩
        rw [e1, bn2_s, if_neg (show ¬ (iI (b2i (some (upf f (n - 1) (f (n - 1) ++ [x]))).isSome) = (0 : Int32)) from z10)]
        rfl
      · rw [if_neg q3] at e1 e2 ⊢
        refine ⟨S', ?_, (fun w' e => by cases e), e3⟩
        rw [e1, bn2_s, if_pos (by rfl)]
        rfl
theorem p_parse_l {w t lim : Nat} {l : List Nat} (j10 : Int32 → sT → Option (Int32 × sT)) : ∀ (d k m : Nat) (S : sT) (n : Nat) (f : Nat → List Nat), TX S t l lim → RW S w n f → (k < l.length → 1 ≤ n) → k + d = l.length → d < m → ∃ S', FW w S S' ∧ (((pWl (l.drop k) k (n, f)).1 = -1 ∧ l_X9_parse_18 w t j10 m (iI k) S = some (iI (-1), S') ∧ RW S' w (pWl (l.drop k) k (n, f)).2.1 (pWl (l.drop k) k (n, f)).2.2) ∨ ((pWl (l.drop k) k (n, f)).1 ≠ -1 ∧ (pWl (l.drop k) k (n, f)).2 = w0W ∧ l_X9_parse_18 w t j10 m (iI k) S = j10 (iI (pWl (l.drop k) k (n, f)).1) S')) := by
  intro d
  induction d with
  | zero =>
    intro k m S n f h hW hn1 hk hm
    obtain ⟨m, rfl⟩ : ∃ m', m = m' + 1 := ⟨m - 1, by omega⟩
    rw [List.drop_eq_nil_of_le (by omega)]
    have h63 := h.2.2.2.1
    have h62 := h.2.2.1
    refine ⟨S, FW.rf w S, Or.inl ⟨rfl, ?_, hW⟩⟩
    rw [l_X9_parse_18_s]
    unfold b_X9_parse_18
    rw [p_size h]
    simp (disch := omega) only [ck_t, lt_b, bn_s, bn2_s, jn_b, nl_N, nl_S, i_m2147483648, i_m1002, i_m10, i_m9, i_m4, i_m3, i_m2, i_m1, i_0, i_1, i_2, i_3, i_4, i_5, i_6, i_7, i_8, i_9, i_12, i_15, i_16, i_32, i_40, i_45, i_48, i_55, i_59, i_60, i_63, i_64, i_78, i_81, i_83, i_110, i_115, i_255, iI_add, iI_sub, iI_mul, iI_neg, iI_lt, iI_le, iI_eq, cl_iI, vi_iI, if_pos, if_neg, ↓reduceIte]
  | succ d ih =>
    intro k m S n f h hW hn1 hk hm
    obtain ⟨m, rfl⟩ : ∃ m', m = m' + 1 := ⟨m - 1, by omega⟩
    have h63 := h.2.2.2.1
    have h62 := h.2.2.1
    have hb := (h.2.2.2.2 k (by omega)).2
    obtain ⟨S1, e1, e2, e3⟩ := p_grow hW (hn1 (by omega)) hb
    rw [bt_drop (by omega)]
    rw [l_X9_parse_18_s]
    unfold b_X9_parse_18
    rw [p_size h, p_byteAt h (by omega)]
    simp (disch := omega) only [ck_t, lt_b, bn_s, bn2_s, jn_b, nl_N, nl_S, iI_le, if_neg, e1]
    unfold pWl
    cases hs : growW (n, f) (bt l k) with
    | none =>
      refine ⟨S1, e3, Or.inr ⟨by simp only; omega, rfl, ?_⟩⟩
      rw [if_pos (by rfl)]
    | some w' =>
      obtain ⟨g1, g2⟩ := e2 w' hs
      obtain ⟨S', a1, a2⟩ := ih (k + 1) m S1 w'.1 w'.2 (h.fw e3) g2 (fun _ => g1) (by omega) (by omega)
      rw [if_neg (show ¬ (iI (b2i (some w').isSome) = (0 : Int32)) from z10), i_1, iI_add]
      exact ⟨S', e3.tr a1, a2⟩
theorem p_parse {S : sT} {w t lim : Nat} {l : List Nat} (h : TX S t l lim) : ∃ S', f_X9_parse w t S = some (iI (parseW l).1, S') ∧ RW S' w (parseW l).2.1 (parseW l).2.2 ∧ FW w S S' := by
  have h63 := h.2.2.2.1
  have h62 := h.2.2.1
  obtain ⟨S1, e1, e2, e3⟩ := p_raze w S
  have hx := h.fw e2
  unfold f_X9_parse
  rw [e1, bn_s, p_size hx, bn_s]
  -- the rest, from a wall with one column or none
  have rest : ∀ (S2 : sT) (n : Nat), FW w S S2 → TX S2 t l lim → RW S2 w n (fun _ => []) → (0 < l.length → 1 ≤ n) → (parseW l = pWl l 0 (n, fun _ => [])) → ∃ S', (l_X9_parse_18 w t (fun x6 S7 => bn (f_X9_raze w S7) (fun S9 => some (x6, S9))) FU (0 : Int32) S2) = some (iI (parseW l).1, S') ∧ RW S' w (parseW l).2.1 (parseW l).2.2 ∧ FW w S S' := by
    intro S2 n g1 g2 g3 g4 g5
    obtain ⟨S3, a1, a2⟩ := p_parse_l (fun x6 S7 => bn (f_X9_raze w S7) (fun S9 => some (x6, S9))) l.length 0 FU S2 n (fun _ => []) g2 g3 g4 (by omega) (by unfold FU; omega)
    rw [List.drop_zero, ← g5] at a2
    rcases a2 with ⟨b1, b2, b3⟩ | ⟨b1, b2, b3⟩
    · exact ⟨S3, by rw [b1]; exact b2, b3, g1.tr a1⟩
    · obtain ⟨S4, c1, c2, c3⟩ := p_raze w S3
      refine ⟨S4, ?_, by rw [b2]; exact c3, (g1.tr a1).tr c2⟩
      refine b3.trans ?_
      simp only [c1, bn_s]
  by_cases q : l.length = 0
  · have hl : l = [] := List.eq_nil_of_length_eq_zero q
    simp only [jn_b, lt_b]
    rw [if_pos (by rw [i_0, iI_le (by omega) (by omega) (by omega) (by omega)]; omega)]
    exact rest S1 0 e2 hx e3 (by omega) (by rw [hl]; rfl)
  · have hl : l ≠ [] := fun z => q (by rw [z]; rfl)
    simp only [jn_b, lt_b]
    rw [if_neg (by rw [i_0, iI_le (by omega) (by omega) (by omega) (by omega)]; omega)]
    refine rest (us S1 112 w 0 (1 : Int32)) 1 (e2.tr (FW.us (by omega))) (hx.fw (FW.us (by omega))) ⟨by omega, us_same, fun c hc => ?_⟩ (by omega) (by unfold parseW; rw [if_neg hl])
    obtain ⟨a1, a2, a3, a4, a5, a6⟩ := e3.2.2 c hc
    simp (disch := omega) only [us_ne]
    exact ⟨a1, fun _ => trivial, a3, a4, a5, a6⟩
