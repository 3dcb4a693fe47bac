/-! the turns as a text: the class, on -/
theorem p_place {S : sT} {ts : List tT} {t : tT} {b p : Nat} (h : TC S (ts ++ [t])) (hO : OkT ts) (hl : ts.length < 12) (h3 : t.2.length < 3) (hb : b < 256) (hp : S.1 15 0 (3 * ts.length + t.2.length) = iI p) : ∃ r S', f_X4_tellPlace (iI ts.length) (iI b) S = some (r, S') ∧ Fr PT S S' ∧ match fig b with | none => r = iI 0 | some c => r = iI 5 ∧ TC S' (ts ++ [(t.1, t.2 ++ [(p, c)])]) := by
  obtain ⟨i1, i2, i3, i4, i5⟩ := h.init
  unfold f_X4_tellPlace
  rw [p_columnOf hb, p_nextPart h hl (by omega)]
  simp only [ck_t, lt_b, bn_s, bn2_s, jn_b, nl_N, nl_S]
  cases hs : fig b with
  | none => exact ⟨iI 0, S, by rw [if_pos (by rfl)]; rfl, Fr.rf, rfl⟩
  | some c =>
    have hc := fig_lt hs
    rw [show oI (some c) = (c : Int) from rfl, if_neg (by rw [i_m1, iI_eq (by omega) (by omega) (by omega) (by omega)]; omega), if_pos h3, if_neg (by rw [i_m1, iI_eq (by omega) (by omega) (by omega) (by omega)]; omega)]
    rw [vi_iI (by omega) (by omega) (by omega), ck_t, cl_iI (by omega) (by omega), Int.toNat_natCast, vi_iI (by omega) (by omega) (by omega), ck_t, ck_t, cl_iI (by omega) (by omega), Int.toNat_natCast]
    refine ⟨iI 5, us (us S 16 0 (3 * ts.length + t.2.length) (iI c)) 14 0 ts.length (iI ((t.2.length : Int) + 1)), ?_, (Fr.us ⟨by omega, rfl⟩).tr (Fr.us ⟨by omega, rfl⟩), rfl, TC.last i1 hO ?_ ?_ ?_ ?_ ?_ ?_ ?_ ?_⟩
    · rw [show (us S 16 0 (3 * ts.length + t.2.length) (iI c)).1 14 0 ts.length = iI t.2.length by rw [us_ne (by omega), i4], i_1, iI_add]
      rfl
    · simp (disch := omega) only [us_ne, i2]
    · intro k hk; simp (disch := omega) only [us_ne]
    · intro k hk; simp (disch := omega) only [us_ne, us_nb]
    · intro k hk; simp (disch := omega) only [us_ne]
    · intro k hk; simp (disch := omega) only [us_ne, us_nb]
    · simp (disch := omega) only [us_ne, i3]
    · rw [us_same, List.length_append, List.length_singleton]; rfl
    · intro j hj
      simp only [List.length_append, List.length_singleton] at hj
      by_cases e : j = t.2.length
      · subst e
        simp (disch := omega) only [us_ne, us_same, sn_r, hp, and_self]
      · have hj : j < t.2.length := by omega
        simp (disch := omega) only [us_ne, us_nb, sn_l hj]
        exact i5 j hj
theorem p_take2 {S : sT} {ts : List tT} {t : tT} {b : Nat} (h : TC S (ts ++ [t])) (hO : OkT ts) (hl : ts.length < 12) (h3 : t.2 = []) (hb : b < 256) : ∃ r S', f_X4_tellTake (iI ts.length) (iI b) S = some (r, S') ∧ Fr PT S S' ∧ match fig b with | none => r = iI 0 | some c => r = iI 3 ∧ TC S' (ts ++ [((c : Int), [])]) := by
  obtain ⟨i1, i2, i3, i4, i5⟩ := h.init
  unfold f_X4_tellTake
  rw [p_columnOf hb, p_isT (n := ts.length + 1) (by rw [i2]; rfl) (by omega) (by omega)]
  simp only [ck_t, lt_b, bn_s, bn2_s, jn_b, nl_N, nl_S]
  rw [if_neg (by rw [i_0, iI_eq (by omega) (by omega) (by omega) (by omega)]; omega)]
  cases hs : fig b with
  | none => exact ⟨iI 0, S, by rw [if_pos (by rfl)]; rfl, Fr.rf, rfl⟩
  | some c =>
    have hc := fig_lt hs
    rw [show oI (some c) = (c : Int) from rfl, if_neg (by rw [i_m1, iI_eq (by omega) (by omega) (by omega) (by omega)]; omega)]
    rw [vi_iI (by omega) (by omega) (by omega), ck_t, cl_iI (by omega) (by omega), Int.toNat_natCast]
    refine ⟨iI 3, us S 13 0 ts.length (iI c), rfl, Fr.us ⟨by omega, rfl⟩, rfl, TC.last i1 hO ?_ ?_ ?_ ?_ ?_ ?_ ?_ ?_⟩
    · simp (disch := omega) only [us_ne, i2]
    · intro k hk; simp (disch := omega) only [us_nb]
    · intro k hk; simp (disch := omega) only [us_ne]
    · intro k hk; simp (disch := omega) only [us_ne]
    · intro k hk; simp (disch := omega) only [us_ne]
    · rw [us_same]
    · rw [us_ne (by omega), i4, h3]
    · intro j hj; exact absurd hj (by simp)
theorem p_begin {S : sT} {ts : List tT} (h : TC S ts) (hO : OkT ts) : ∃ S', f_X4_beginTurn S = some (iI (if ts.length < 12 then 1 else 0), S') ∧ Fr PT S S' ∧ (ts.length < 12 → TC S' (ts ++ [(-1, [])])) := by
  have h1 := hO.1
  unfold f_X4_beginTurn
  rw [h.1]
  by_cases q : ts.length < 12
  · simp (disch := omega) only [ck_t, lt_b, bn_s, bn2_s, jn_b, nl_N, nl_S, i_m2147483648, i_m1002, i_m10, i_m9, i_m4, i_m3, i_m2, i_m1, i_0, i_1, i_2, i_3, i_4, i_5, i_6, i_7, i_8, i_9, i_12, i_15, i_16, i_32, i_40, i_45, i_48, i_55, i_59, i_60, i_63, i_64, i_78, i_81, i_83, i_110, i_115, i_255, iI_add, iI_sub, iI_mul, iI_neg, iI_lt, iI_le, iI_eq, cl_iI, vi_iI, Int.toNat_natCast, us_ne, h.1]
    rw [if_neg (by omega), if_pos (by omega), if_pos q]
    refine ⟨_, rfl, ((Fr.us ⟨by omega, rfl⟩).tr (Fr.us ⟨by omega, rfl⟩)).tr (Fr.us ⟨by omega, rfl⟩), fun _ => TC.last h.2 hO ?_ ?_ ?_ ?_ ?_ ?_ ?_ ?_⟩
    · rw [us_same]
    · intro k hk; simp (disch := omega) only [us_ne, us_nb]
    · intro k hk; simp (disch := omega) only [us_ne, us_nb]
    · intro k hk; simp (disch := omega) only [us_ne]
    · intro k hk; simp (disch := omega) only [us_ne]
    · simp (disch := omega) only [us_ne, us_same]
    · simp (disch := omega) only [us_ne, us_same]; rfl
    · intro j hj; exact absurd hj (by simp)
  · simp (disch := omega) only [ck_t, lt_b, bn_s, bn2_s, jn_b, nl_N, nl_S, i_m2147483648, i_m1002, i_m10, i_m9, i_m4, i_m3, i_m2, i_m1, i_0, i_1, i_2, i_3, i_4, i_5, i_6, i_7, i_8, i_9, i_12, i_15, i_16, i_32, i_40, i_45, i_48, i_55, i_59, i_60, i_63, i_64, i_78, i_81, i_83, i_110, i_115, i_255, iI_add, iI_sub, iI_mul, iI_neg, iI_lt, iI_le, iI_eq, cl_iI, vi_iI]
    rw [if_neg (by omega), if_neg (by omega), if_neg q]
    exact ⟨S, rfl, Fr.rf, fun z => absurd z q⟩
/-- the class in the midst of its reading -/
def CT (S : sT) (x : Nat) (ts : List tT) (t : tT) (p : Nat) : Prop := (x = 1 → TC S ts) ∧ (x ≠ 1 → TC S (ts ++ [t])) ∧ (x = 4 → S.1 15 0 (3 * ts.length + t.2.length) = iI p)
def stQ (S' : sT) (r : Int32) (o : Option mT) : Prop := match o with | none => r = iI 0 | some q => r = iI q.1 ∧ CT S' q.1 q.2.1 q.2.2.1 q.2.2.2
/-- writing a letter behind the last stone keeps the turns -/
theorem TC.pend {S : sT} {ts : List tT} {t : tT} {v : Int32} (h : TC S (ts ++ [t])) (hO : OkT ts) : TC (us S 15 0 (3 * ts.length + t.2.length) v) (ts ++ [t]) := by
  obtain ⟨i1, i2, i3, i4, i5⟩ := h.init
  refine TC.last i1 hO ?_ ?_ ?_ ?_ ?_ ?_ ?_ ?_
  · simp (disch := omega) only [us_ne, i2]
  · intro k hk; simp (disch := omega) only [us_ne]
  · intro k hk; simp (disch := omega) only [us_ne]
  · intro k hk; simp (disch := omega) only [us_nb]
  · intro k hk; simp (disch := omega) only [us_ne]
  · simp (disch := omega) only [us_ne, i3]
  · simp (disch := omega) only [us_ne, i4]
  · intro j hj
    simp (disch := omega) only [us_ne, us_nb]
    exact i5 j hj
theorem p_letterQ {S : sT} {ts : List tT} {t : tT} {b : Nat} (h : TC S (ts ++ [t])) (hO : OkT ts) (hl : ts.length < 12) (h3 : t.2.length ≤ 3) (hb : b < 256) : ∃ r S', f_X4_tellLetter (iI ts.length) (iI b) S = some (r, S') ∧ Fr PT S S' ∧ stQ S' r (if t.2.length < 3 then (ltr b).map (fun s => ((4, ts, t, s) : mT)) else none) := by
  rw [p_letter h hl h3 hb]
  by_cases q : t.2.length < 3
  · rw [if_pos q, if_pos q]
    cases hs : ltr b with
    | none => exact ⟨_, _, rfl, Fr.rf, rfl⟩
    | some s => exact ⟨_, _, rfl, Fr.us ⟨by omega, rfl⟩, rfl, fun z => absurd z (show ¬ (4 = 1) by omega), fun _ => h.pend hO, fun _ => us_same⟩
  · rw [if_neg q, if_neg q]
    exact ⟨_, _, rfl, Fr.rf, rfl⟩
theorem nI_sub1 {n : Nat} : iI ((n : Int) + 1) - (1 : Int32) = iI n := by rw [i_1, iI_sub]; congr 1; omega
theorem p_state {S : sT} {x b p : Nat} {ts : List tT} {t : tT} (hC : CT S x ts t p) (hB : mB x ts t p) (hb : b < 256) : ∃ r S', f_X4_stateBehind (iI x) (iI b) S = some (r, S') ∧ Fr PT S S' ∧ stQ S' r (stT b x ts t p) := by
  obtain ⟨h1, h2, h3, h4, h5, h6, h7, h8⟩ := hB
  obtain ⟨c1, c2, c3⟩ := hC
  have h9 := h1.1
  have hx : x = 1 ∨ x = 2 ∨ x = 3 ∨ x = 4 ∨ x = 5 := by omega
  rcases hx with rfl | rfl | rfl | rfl | rfl
  · have c1 := c1 rfl
    unfold f_X4_stateBehind stT
    rw [if_pos (show iI ((1 : Nat) : Int) = (1 : Int32) from rfl), if_pos rfl]
    obtain ⟨S1, e1, e2, e3⟩ := p_begin c1 h1
    rw [e1, bn2_s]
    by_cases q : ts.length < 12
    · have e3 := e3 q
      rw [if_pos q, if_neg (show ¬ (iI 1 = (0 : Int32)) from z10), if_pos q]
      by_cases q2 : b = 45
      · rw [if_pos (show iI (b : Int) = (45 : Int32) by rw [q2]; rfl), if_pos q2]
        exact ⟨_, _, rfl, e2, rfl, fun z => absurd z (show ¬ (2 = 1) by omega), fun _ => e3, fun z => absurd z (show ¬ (2 = 4) by omega)⟩
      · rw [if_neg (show ¬ (iI (b : Int) = (45 : Int32)) by rw [i_45, iI_eq (by omega) (by omega) (by omega) (by omega)]; omega), if_neg q2]
        rw [(e3.init).2.1, nI_sub1]
        obtain ⟨r, S', a1, a2, a3⟩ := p_letterQ e3 h1 q (by simp) hb
        rw [if_pos (by simp)] at a3
        exact ⟨r, S', by rw [a1]; rfl, e2.tr a2, a3⟩
    · rw [if_neg q, if_pos (by rfl), if_neg q]
      exact ⟨_, _, rfl, e2, rfl⟩
  · have c2 := c2 (by omega)
    have h5 := h5 (by omega)
    unfold f_X4_stateBehind stT
    rw [if_neg (by decide), if_pos (by rfl), if_neg (by omega), if_pos rfl, (c2.init).2.1, nI_sub1]
    obtain ⟨r, S', a1, a2, a3⟩ := p_take2 c2 h1 h5 (h8 (Or.inl rfl)) hb
    refine ⟨r, S', by rw [a1]; rfl, a2, ?_⟩
    revert a3
    cases fig b with
    | none => exact fun a3 => a3
    | some c => exact fun a3 => ⟨a3.1, fun z => absurd z (show ¬ (3 = 1) by omega), fun _ => a3.2, fun z => absurd z (show ¬ (3 = 4) by omega)⟩
  · have c2 := c2 (by omega)
    have h5 := h5 (by omega)
    unfold f_X4_stateBehind stT
    rw [if_neg (by decide), if_neg (by decide), if_pos (by rfl), if_neg (by omega), if_neg (by omega), if_pos rfl, (c2.init).2.1, nI_sub1]
    obtain ⟨r, S', a1, a2, a3⟩ := p_letterQ c2 h1 h5 h2.2.2.1 hb
    rw [if_pos (by rw [h8 (Or.inr rfl)]; decide)] at a3
    exact ⟨r, S', by rw [a1]; rfl, a2, a3⟩
  · have c2 := c2 (by omega)
    have h5 := h5 (by omega)
    unfold f_X4_stateBehind stT
    rw [if_neg (by decide), if_neg (by decide), if_neg (by decide), if_pos (by rfl), if_neg (by omega), if_neg (by omega), if_neg (by omega), if_pos rfl, (c2.init).2.1, nI_sub1]
    obtain ⟨r, S', a1, a2, a3⟩ := p_place c2 h1 h5 (h6 rfl).1 hb (c3 rfl)
    refine ⟨r, S', by rw [a1]; rfl, a2, ?_⟩
    revert a3
    cases fig b with
    | none => exact fun a3 => a3
    | some c => exact fun a3 => ⟨a3.1, fun z => absurd z (show ¬ (5 = 1) by omega), fun _ => a3.2, fun z => absurd z (show ¬ (5 = 4) by omega)⟩
  · have c2 := c2 (by omega)
    have h5 := h5 (by omega)
    unfold f_X4_stateBehind stT
    rw [if_neg (by decide), if_neg (by decide), if_neg (by decide), if_neg (by decide), if_pos (show iI ((5 : Nat) : Int) = (5 : Int32) from rfl), if_neg (show ¬ ((5 : Nat) = 1) by omega), if_neg (show ¬ ((5 : Nat) = 2) by omega), if_neg (show ¬ ((5 : Nat) = 3) by omega), if_neg (show ¬ ((5 : Nat) = 4) by omega), (c2.init).2.1, nI_sub1]
    by_cases q : b = 59
    · rw [if_pos (show iI (b : Int) = (59 : Int32) by rw [q]; rfl), if_pos q]
      exact ⟨_, _, rfl, Fr.rf, rfl, fun _ => c2, fun z => absurd rfl z, fun z => absurd z (show ¬ (1 = 4) by omega)⟩
    · rw [if_neg (show ¬ (iI (b : Int) = (59 : Int32)) by rw [i_59, iI_eq (by omega) (by omega) (by omega) (by omega)]; omega), if_neg q]
      obtain ⟨r, S', a1, a2, a3⟩ := p_letterQ c2 h1 h5 h2.2.2.1 hb
      exact ⟨r, S', by rw [a1]; rfl, a2, a3⟩
theorem TC.nil {S : sT} (h : S.1 104 0 0 = iI 0) : TC S [] := ⟨h, fun k hk => absurd hk (by simp)⟩
theorem p_tparse_l {w lim : Nat} {l : List Nat} (j11 j15 : Int32 → sT → Option (Int32 × sT)) : ∀ (d k m : Nat) (S : sT) (x : Nat) (ts : List tT) (t : tT) (p : Nat), TX S w l lim → CT S x ts t p → mB x ts t p → k + d = l.length → d < m → ∃ S', Fr PT S S' ∧ ((∃ k', k' < l.length ∧ pT (l.drop k) k x ts t p = ((k' : Int), []) ∧ l_X4_parse_9 w j11 j15 m (iI x) (iI k) S = j15 (iI k') S') ∨ (∃ x' ts' t' p', CT S' x' ts' t' p' ∧ mB x' ts' t' p' ∧ pT (l.drop k) k x ts t p = (if x' = 5 then (-1, ts' ++ [t']) else ((l.length : Int), [])) ∧ l_X4_parse_9 w j11 j15 m (iI x) (iI k) S = j11 (iI x') S')) := by
  intro d
  induction d with
  | zero =>
    intro k m S x ts t p h hC hB hk hm
    obtain ⟨m, rfl⟩ : ∃ m', m = m' + 1 := ⟨m - 1, by omega⟩
    have h63 := h.2.2.2.1
    have h62 := h.2.2.1
    have hkl : k = l.length := by omega
    subst hkl
    rw [List.drop_eq_nil_of_le (by omega)]
    refine ⟨S, Fr.rf, Or.inr ⟨x, ts, t, p, hC, hB, rfl, ?_⟩⟩
    rw [l_X4_parse_9_s]
    unfold b_X4_parse_9
    rw [p_size h]
    simp (disch := omega) only [ck_t, lt_b, bn_s, bn2_s, jn_b, nl_N, nl_S, i_m2147483648, i_m1002, i_m10, i_m9, i_m4, i_m3, i_m2, i_m1, i_0, i_1, i_2, i_3, i_4, i_5, i_6, i_7, i_8, i_9, i_12, i_15, i_16, i_32, i_40, i_45, i_48, i_55, i_59, i_60, i_63, i_64, i_78, i_81, i_83, i_110, i_115, i_255, iI_add, iI_sub, iI_mul, iI_neg, iI_lt, iI_le, iI_eq, cl_iI, vi_iI, if_pos, if_neg, ↓reduceIte]
  | succ d ih =>
    intro k m S x ts t p h hC hB hk hm
    obtain ⟨m, rfl⟩ : ∃ m', m = m' + 1 := ⟨m - 1, by omega⟩
    have h63 := h.2.2.2.1
    have h62 := h.2.2.1
    have hb := (h.2.2.2.2 k (by omega)).2
    obtain ⟨r, S1, e1, e2, e3⟩ := p_state hC hB hb
    rw [bt_drop (by omega)]
    rw [l_X4_parse_9_s]
    unfold b_X4_parse_9
    rw [p_size h, p_byteAt h (by omega)]
    simp (disch := omega) only [ck_t, lt_b, bn_s, bn2_s, jn_b, nl_N, nl_S, iI_le, if_neg, e1]
    unfold pT
    cases hs : stT (bt l k) x ts t p with
    | none =>
      rw [hs] at e3
      refine ⟨S1, e2, Or.inl ⟨k, by omega, rfl, ?_⟩⟩
      rw [if_pos (by rw [e3]; rfl)]
    | some q =>
      rw [hs] at e3
      have hB' := stT_B (x' := q.1) (ts' := q.2.1) (t' := q.2.2.1) (p' := q.2.2.2) hB hs
      have hq1 := hB'.2.2.1
      have hq2 := hB'.2.2.2.1
      obtain ⟨S', a1, a2⟩ := ih (k + 1) m S1 q.1 q.2.1 q.2.2.1 q.2.2.2 (h.fr e2 (by unfold PT; omega)) e3.2 hB' (by omega) (by omega)
      rw [e3.1, if_neg (by rw [i_0, iI_eq (by omega) (by omega) (by omega) (by omega)]; omega), i_1, iI_add]
      exact ⟨S', e2.tr a1, a2⟩
theorem p_tparse {S : sT} {w lim : Nat} {l : List Nat} (h : TX S w l lim) : ∃ S', f_X4_parse w S = some (iI (parseT l).1, S') ∧ TC S' (parseT l).2 ∧ Fr PT S S' := by
  have h63 := h.2.2.2.1
  have h62 := h.2.2.1
  have F0 : Fr PT S (us S 104 0 0 (0 : Int32)) := Fr.us ⟨by omega, rfl⟩
  have hF : 1000 < FU := by unfold FU; omega
  revert hF
  unfold f_X4_parse
  generalize FU = N
  intro hF
  simp -implicitDefEqProofs only [lt_b, jn_b]
  obtain ⟨S1, a1, a2⟩ := p_tparse_l (fun (x2 : Int32) (S3 : sT) => bn (f_X8_size w S3) (fun r5 => (if r5 ≤ (0 : Int32) then some ((-1 : Int32), S3) else (if x2 = (5 : Int32) then some ((-1 : Int32), S3) else bn (f_X8_size w (us S3 104 0 0 (0 : Int32))) (fun r8 => some (r8, us S3 104 0 0 (0 : Int32))))))) (fun (x12 : Int32) (S13 : sT) => some (x12, us S13 104 0 0 (0 : Int32))) l.length 0 N _ 1 [] (-1, []) 0 (h.fr F0 (by unfold PT; omega)) ⟨fun _ => TC.nil us_same, fun z => absurd rfl z, fun z => absurd z (by decide)⟩ mB0 (by omega) (by omega)
  rw [List.drop_zero] at a2
  have z0 : iI ((0 : Nat) : Int) = (0 : Int32) := rfl
  have z1 : iI ((1 : Nat) : Int) = (1 : Int32) := rfl
  rw [z0, z1] at a2
  have hx := h.fr (F0.tr a1) (by unfold PT; omega)
  rcases a2 with ⟨k, b1, b2, b3⟩ | ⟨x, ts, t, p, b1, b2, b3, b4⟩
  · have hp : parseT l = ((k : Int), []) := by unfold parseT; rw [if_neg (fun z => absurd b1 (by rw [z]; simp))]; exact b2
    rw [hp]
    exact ⟨_, b3, TC.nil us_same, (F0.tr a1).tr (Fr.us ⟨by omega, rfl⟩)⟩
  · by_cases q : l.length = 0
    · have hl : l = [] := List.eq_nil_of_length_eq_zero q
      have hp : parseT l = (-1, []) := by unfold parseT; rw [if_pos hl]
      refine ⟨us S 104 0 0 (0 : Int32), ?_, by rw [hp]; exact TC.nil us_same, F0⟩
      obtain ⟨N, rfl⟩ : ∃ m', N = m' + 1 := ⟨N - 1, by omega⟩
      have hx0 := h.fr F0 (by unfold PT; omega)
      rw [l_X4_parse_9_s]
      unfold b_X4_parse_9
      rw [p_size hx0, bn_s, if_pos (by rw [q]; decide)]
      dsimp only
      rw [p_size hx0, bn_s, if_pos (by rw [q]; decide), hp]
      rfl
    · have hp : parseT l = (if x = 5 then (-1, ts ++ [t]) else ((l.length : Int), [])) := by unfold parseT; rw [if_neg (fun z => q (by rw [z]; rfl))]; exact b3
      rw [b4, p_size hx, bn_s, if_neg (by rw [i_0, iI_le (by omega) (by omega) (by omega) (by omega)]; omega)]
      have hx1 := b2.2.2.1
      have hx2 := b2.2.2.2.1
      by_cases q2 : x = 5
      · rw [if_pos (by rw [q2]; rfl), hp, if_pos q2]
        exact ⟨S1, rfl, b1.2.1 (by omega), F0.tr a1⟩
      · have F1 : Fr PT S1 (us S1 104 0 0 (0 : Int32)) := Fr.us ⟨by omega, rfl⟩
        rw [if_neg (by rw [i_5, iI_eq (by omega) (by omega) (by omega) (by omega)]; omega), hp, if_neg q2, p_size (hx.fr F1 (by unfold PT; omega)), bn_s]
        exact ⟨_, rfl, TC.nil us_same, (F0.tr a1).tr F1⟩
