/-! items copied -/
theorem p_holds {S : sT} {t sz : Nat} {x n : Int} (ht : t < 4) (h : S.1 28 0 t = iI sz) (hs : sz ≤ 60) (x1 : -2147483648 ≤ x) (x2 : x < 2147483648) (n1 : -2147483648 ≤ n) (n2 : n < 2147483648) : f_X5_holds (iI t) (iI x) (iI n) S = some (iI (b2i (decide (0 ≤ x ∧ 0 ≤ n ∧ x + n ≤ sz)))) := by
  unfold f_X5_holds
  by_cases q1 : 0 ≤ x
  · rw [if_neg (by rw [i_0, iI_lt (by omega) (by omega) (by omega) (by omega)]; omega)]
    by_cases q2 : 0 ≤ n
    · rw [if_neg (by rw [i_0, iI_lt (by omega) (by omega) (by omega) (by omega)]; omega)]
      by_cases q3 : n ≤ 60
      · rw [if_neg (by rw [i_60, iI_lt (by omega) (by omega) (by omega) (by omega)]; omega), p_sizeOf5 ht h hs, bn_s, iI_sub]
        by_cases q4 : x + n ≤ sz
        · rw [if_neg (by rw [iI_lt (by omega) (by omega) (by omega) (by omega)]; omega), b2i_p ⟨q1, q2, q4⟩]; rfl
        · rw [if_pos (by rw [iI_lt (by omega) (by omega) (by omega) (by omega)]; omega), b2i_n (fun w => q4 w.2.2)]; rfl
      · rw [if_pos (by rw [i_60, iI_lt (by omega) (by omega) (by omega) (by omega)]; omega), b2i_n (by omega)]; rfl
    · rw [if_pos (by rw [i_0, iI_lt (by omega) (by omega) (by omega) (by omega)]; omega), b2i_n (fun w => q2 w.2.1)]; rfl
  · rw [if_pos (by rw [i_0, iI_lt (by omega) (by omega) (by omega) (by omega)]; omega), b2i_n (fun w => q1 w.1)]; rfl
theorem m_copy_a {t i n : Nat} (ht : t < 4) (hi : i + n ≤ 60) (J : sT → Option (Int32 × sT)) : ∀ (d k m : Nat) (S : sT), k + d = n → d < m → ∃ S', l_X11_copy_120 (iI t) (iI i) (iI n) J m (iI k) S = J S' ∧ Fr (fun k i => k = 36 ∧ i = 0) S S' ∧ ∀ x, S'.1 36 0 x = if k ≤ x ∧ x < n then S.1 35 0 (60 * t + i + x) else S.1 36 0 x := by
  intro d
  induction d with
  | zero =>
    intro k m S hk hm
    obtain ⟨m, rfl⟩ : ∃ m', m = m' + 1 := ⟨m - 1, by omega⟩
    refine ⟨S, ?_, Fr.rf, fun x => by rw [if_neg (by omega)]⟩
    rw [l_X11_copy_120_s]
    unfold b_X11_copy_120
    rw [if_pos (by rw [iI_le (by omega) (by omega) (by omega) (by omega)]; omega)]
  | succ d ih =>
    intro k m S hk hm
    obtain ⟨m, rfl⟩ : ∃ m', m = m' + 1 := ⟨m - 1, by omega⟩
    obtain ⟨S', a1, a2, a3⟩ := ih (k + 1) m (us S 36 0 k (S.1 35 0 (60 * t + i + k))) (by omega) (by omega)
    refine ⟨S', ?_, (Fr.us ⟨rfl, rfl⟩).tr a2, fun x => ?_⟩
    · rw [l_X11_copy_120_s]
      unfold b_X11_copy_120
      rw [if_neg (by rw [iI_le (by omega) (by omega) (by omega) (by omega)]; omega), i_60, iI_mul, iI_add, iI_add, vi_iI (by omega) (by omega) (by omega), ck_t, vi_iI (by omega) (by omega) (by omega), ck_t, cl_iI (by omega) (by omega), cl_iI (by omega) (by omega), Int.toNat_natCast, show ((60 : Int) * (t : Int) + (i : Int) + (k : Int)).toNat = 60 * t + i + k by omega, lt_b, lt_b, show iI (k : Int) + (1 : Int32) = iI ((k + 1 : Nat) : Int) by rw [i_1, iI_add]; rfl]
      exact a1
    · rw [a3 x]
      by_cases q : x = k
      · subst q
        rw [if_neg (by omega), if_pos (by omega), us_same]
      · by_cases q2 : k + 1 ≤ x ∧ x < n
        · rw [if_pos q2, if_pos (by omega), us_ne (by omega)]
        · rw [if_neg q2, if_neg (by omega), us_nb q]
theorem m_copy_b {t j n : Nat} (ht : t < 4) (hj : j + n ≤ 60) : ∀ (d k m : Nat) (S : sT), k + d = n → d < m → ∃ S', l_X11_copy_157 (iI t) (iI j) (iI n) m (iI k) S = some ((1 : Int32), S') ∧ Fr (fun k i => k = 35 ∧ i = 0) S S' ∧ ∀ x, S'.1 35 0 x = if 60 * t + j + k ≤ x ∧ x < 60 * t + j + n then S.1 36 0 (x - 60 * t - j) else S.1 35 0 x := by
  intro d
  induction d with
  | zero =>
    intro k m S hk hm
    obtain ⟨m, rfl⟩ : ∃ m', m = m' + 1 := ⟨m - 1, by omega⟩
    refine ⟨S, ?_, Fr.rf, fun x => by rw [if_neg (by omega)]⟩
    rw [l_X11_copy_157_s]
    unfold b_X11_copy_157
    rw [if_pos (by rw [iI_le (by omega) (by omega) (by omega) (by omega)]; omega)]
  | succ d ih =>
    intro k m S hk hm
    obtain ⟨m, rfl⟩ : ∃ m', m = m' + 1 := ⟨m - 1, by omega⟩
    obtain ⟨S', a1, a2, a3⟩ := ih (k + 1) m (us S 35 0 (60 * t + j + k) (S.1 36 0 k)) (by omega) (by omega)
    refine ⟨S', ?_, (Fr.us ⟨rfl, rfl⟩).tr a2, fun x => ?_⟩
    · rw [l_X11_copy_157_s]
      unfold b_X11_copy_157
      rw [if_neg (by rw [iI_le (by omega) (by omega) (by omega) (by omega)]; omega), i_60, iI_mul, iI_add, iI_add, vi_iI (by omega) (by omega) (by omega), ck_t, vi_iI (by omega) (by omega) (by omega), ck_t, cl_iI (by omega) (by omega), cl_iI (by omega) (by omega), Int.toNat_natCast, show ((60 : Int) * (t : Int) + (j : Int) + (k : Int)).toNat = 60 * t + j + k by omega, lt_b, lt_b, show iI (k : Int) + (1 : Int32) = iI ((k + 1 : Nat) : Int) by rw [i_1, iI_add]; rfl]
      exact a1
    · rw [a3 x]
      by_cases q : x = 60 * t + j + k
      · subst q
        rw [if_neg (by omega), if_pos (by omega), us_same, show 60 * t + j + k - 60 * t - j = k by omega]
      · by_cases q2 : 60 * t + j + (k + 1) ≤ x ∧ x < 60 * t + j + n
        · rw [if_pos q2, if_pos (by omega), us_ne (by omega)]
        · rw [if_neg q2, if_neg (by omega), us_nb q]
theorem vc_iI {a n : Nat} (h : a + n ≤ 60) : vc (iI a) (iI n) 60 = true := by
  unfold vc
  have e1 : ¬ (iI (a : Int) < (0 : Int32)) := by rw [i_0, iI_lt (by omega) (by omega) (by omega) (by omega)]; omega
  have e2 : ¬ (iI (n : Int) < (0 : Int32)) := by rw [i_0, iI_lt (by omega) (by omega) (by omega) (by omega)]; omega
  have e3 : (iI (a : Int)).toNatClampNeg = a := by have := cl_iI (z := (a : Int)) (by omega) (by omega); simpa using this
  have e4 : (iI (n : Int)).toNatClampNeg = n := by have := cl_iI (z := (n : Int)) (by omega) (by omega); simpa using this
  rw [decide_eq_false e1, decide_eq_false e2, e3, e4, decide_eq_true h]
  rfl
theorem lg_gt {a b : Int} (h1 : -4611686018427387904 ≤ a) (h2 : a < 4611686018427387904) (h3 : -4611686018427387904 ≤ b) (h4 : b < 4611686018427387904) : ((0 : Int32) < lg_cmp (lI a) (lI b)) ↔ b < a := by
  rw [lg_lI h1 h2 h3 h4, i_0]
  by_cases q : b < a
  · rw [if_pos q, iI_lt (by omega) (by omega) (by omega) (by omega)]; omega
  · rw [if_neg q]
    by_cases q2 : a = b
    · rw [if_pos q2, iI_lt (by omega) (by omega) (by omega) (by omega)]; omega
    · rw [if_neg q2, iI_lt (by omega) (by omega) (by omega) (by omega)]; omega
theorem lg_ge {a b : Int} (h1 : -4611686018427387904 ≤ a) (h2 : a < 4611686018427387904) (h3 : -4611686018427387904 ≤ b) (h4 : b < 4611686018427387904) : (lg_cmp (lI a) (lI b) ≤ (0 : Int32)) ↔ a ≤ b := by
  rw [lg_lI h1 h2 h3 h4, i_0]
  by_cases q : b < a
  · rw [if_pos q, iI_le (by omega) (by omega) (by omega) (by omega)]; omega
  · rw [if_neg q]
    by_cases q2 : a = b
    · rw [if_pos q2, iI_le (by omega) (by omega) (by omega) (by omega)]; omega
    · rw [if_neg q2, iI_le (by omega) (by omega) (by omega) (by omega)]; omega
theorem lI_add (a b : Int) : lI a + lI b = lI (a + b) := (Int64.ofInt_add a b).symm
theorem T_25 : St_25 Inv := by
  intro S hI v1 v2 v3 v4 v5
  obtain ⟨z, z1, z2, rfl⟩ := iI_ex v1
  obtain ⟨x, x1, x2, rfl⟩ := iI_ex v2
  obtain ⟨y, y1, y2, rfl⟩ := iI_ex v3
  obtain ⟨w, w1, w2, rfl⟩ := iI_ex v4
  obtain ⟨n, n1, n2, rfl⟩ := iI_ex v5
  have z10' : ¬ (iI 1 = (0 : Int32)) := z10
  have z00 : iI 0 = (0 : Int32) := rfl
  obtain ⟨L, st, sg, h1, h2, h3, h4, h5⟩ := id hI
  have hF : 1000 < FU := by unfold FU; omega
  unfold f_X10_copy f_X11_copy
  rw [p_isSheet S z1 z2, bn_s]
  by_cases q : 0 ≤ z ∧ z ≤ 3
  · obtain ⟨t, rfl⟩ : ∃ t : Nat, z = t := ⟨z.toNat, by omega⟩
    have hvi : vi (iI (t : Int)) 4 = true := vi_iI (by omega) (by omega) (by omega)
    have hcl : cl (iI (t : Int)) = t := by rw [cl_iI (by omega) (by omega)]; rfl
    rw [b2i_p q, if_neg z10', p_isSheet S y1 y2, bn_s]
    by_cases q' : 0 ≤ y ∧ y ≤ 3
    · obtain ⟨u, rfl⟩ : ∃ u : Nat, y = u := ⟨y.toNat, by omega⟩
      have hvu : vi (iI (u : Int)) 4 = true := vi_iI (by omega) (by omega) (by omega)
      have hcu : cl (iI (u : Int)) = u := by rw [cl_iI (by omega) (by omega)]; rfl
      have eM : ∀ S1 : sT, f_X11_isSheet (iI t) S1 = some (iI 1) ∧ f_X11_isSheet (iI u) S1 = some (iI 1) := fun S1 => ⟨by rw [m_isSheet S1 z1 z2, b2i_p q], by rw [m_isSheet S1 y1 y2, b2i_p q']⟩
      rw [b2i_p q', if_neg z10']
      rcases h4 t (by omega) with ⟨a1, a2⟩ | ⟨fm, sz, a1, a2, a3, a4, a5, a6, a7⟩
      · rw [p_isLost (by omega) a1 (by omega) (by omega), bn_s, if_pos rfl, jn_b, if_neg z10']
        refine ⟨_, us S 111 0 0 (1 : Int32), us (us S 111 0 0 (1 : Int32)) 113 0 0 (1 : Int32), rfl, ?_, hI.find _⟩
        rw [(eM _).1, bn_s, if_neg z10', (eM _).2, bn_s, if_neg z10', hvi, ck_t, hcl, jn_b, us_ne (f' := 33) (by omega), a2, if_pos (by decide)]
        rfl
      · have c0 : ¬ (iI (fm : Int) < (0 : Int32)) := by rw [i_0, iI_lt (by omega) (by omega) (by omega) (by omega)]; omega
        rw [p_isLost (by omega) a5 (by omega) (by omega), bn_s, if_neg (show ¬ ((sz : Int) = -1) by omega), jn_b, if_pos z00]
        rcases h4 u (by omega) with ⟨b1, b2⟩ | ⟨gm, rz, b1, b2, b3, b4, b5, b6, b7⟩
        · rw [p_isLost (by omega) b1 (by omega) (by omega), bn_s, if_pos rfl, if_neg z10']
          refine ⟨_, us S 111 0 0 (1 : Int32), us (us S 111 0 0 (1 : Int32)) 113 0 0 (1 : Int32), rfl, ?_, hI.find _⟩
          rw [(eM _).1, bn_s, if_neg z10', (eM _).2, bn_s, if_neg z10', hvi, ck_t, hcl, jn_b, us_ne (f' := 33) (by omega), a4, if_neg c0, hvu, ck_t, hcu, b2, if_neg (by decide)]
          rfl
        · have d0 : (0 : Int32) ≤ iI (gm : Int) := by rw [i_0, iI_le (by omega) (by omega) (by omega) (by omega)]; omega
          rw [p_isLost (by omega) b5 (by omega) (by omega), bn_s, if_neg (show ¬ ((rz : Int) = -1) by omega), if_pos z00]
          have eF1 : f_X5_formOf (iI t) S = some (iI fm) := by
            unfold f_X5_formOf
            rw [p_isSheet S z1 z2, bn_s, b2i_p q, if_neg z10', hvi, ck_t, hcl, a3]
          have eF2 : f_X5_formOf (iI u) S = some (iI gm) := by
            unfold f_X5_formOf
            rw [p_isSheet S y1 y2, bn_s, b2i_p q', if_neg z10', hvu, ck_t, hcu, b3]
          rw [eF1, bn_s, eF2, bn_s]
          by_cases qf : fm = gm
          · subst qf
            rw [if_pos rfl, jn_b]
            have eL1 : (iI x).toInt64 + (iI n).toInt64 = lI (x + n) := by rw [iI_toL x1 x2, iI_toL n1 n2, lI_add]
            have eL2 : (iI w).toInt64 + (iI n).toInt64 = lI (w + n) := by rw [iI_toL w1 w2, iI_toL n1 n2, lI_add]
            by_cases g : (0 ≤ x ∧ 0 ≤ n ∧ x + n ≤ sz) ∧ (0 ≤ w ∧ 0 ≤ n ∧ w + n ≤ rz)
            · obtain ⟨⟨g1, g2, g3⟩, g4, -, g6⟩ := id g
              rw [if_neg (by rw [i_0, iI_lt (by omega) (by omega) (by omega) (by omega)]; omega), p_holds (by omega) a5 a2 x1 x2 n1 n2, bn_s, b2i_p g.1, if_neg z10', p_holds (by omega) b5 b2 w1 w2 n1 n2, bn_s, b2i_p g.2, if_neg z10']
              obtain ⟨i, rfl⟩ : ∃ i : Nat, x = i := ⟨x.toNat, by omega⟩
              obtain ⟨j, rfl⟩ : ∃ i : Nat, w = i := ⟨w.toNat, by omega⟩
              obtain ⟨n, rfl⟩ : ∃ i : Nat, n = i := ⟨n.toNat, by omega⟩
              have hci : cl (iI (i : Int)) = i := by rw [cl_iI (by omega) (by omega)]; rfl
              have hcj : cl (iI (j : Int)) = j := by rw [cl_iI (by omega) (by omega)]; rfl
              have hcn : cl (iI (n : Int)) = n := by rw [cl_iI (by omega) (by omega)]; rfl
              have eP : f_X5_move (iI t) (iI i) (iI u) (iI j) (iI n) S = some (ua S 26 u (va_cpy (S.1 26 t) (S.1 26 u) i j n)) := by
                unfold f_X5_move
                rw [p_isSheet S z1 z2, bn_s, b2i_p q, if_neg z10', p_isSheet S y1 y2, bn_s, b2i_p q', if_neg z10', p_holds (by omega) a5 a2 x1 x2 n1 n2, bn_s, b2i_p g.1, if_neg z10', p_holds (by omega) b5 b2 w1 w2 n1 n2, bn_s, b2i_p g.2, if_neg z10', hvi, ck_t, lt_b, hvu, ck_t, lt_b, vc_iI (by omega), ck_t, vc_iI (by omega), ck_t, hcl, hcu, hci, hcj, hcn, lt_b]
              rw [eP, bn_s]
              revert hF
              generalize FU = M
              intro hF
              obtain ⟨S3, e3, F3, k3⟩ := m_copy_a (t := t) (i := i) (n := n) (by omega) (by omega) (fun (S19 : sT) => l_X11_copy_157 (iI u) (iI j) (iI n) M (0 : Int32) S19) n 0 M (ua S 26 u (va_cpy (S.1 26 t) (S.1 26 u) i j n)) (by omega) (by omega)
              obtain ⟨S4, e4, F4, k4⟩ := m_copy_b (t := u) (j := j) (n := n) (by omega) (by omega) n 0 M S3 (by omega) (by omega)
              have zz : iI ((0 : Nat) : Int) = (0 : Int32) := rfl
              rw [zz] at e3 e4
              have F1 : Fr (fun k i => k = 26 ∧ i ≤ 3) S (ua S 26 u (va_cpy (S.1 26 t) (S.1 26 u) i j n)) := ⟨fun k' i' h' => by
                by_cases e : k' = 26
                · subst e; exact ua_ni (by omega)
                · exact congrFun (ua_ne e) i', rfl⟩
              have FA : Fr (fun k i => k = 26 ∧ i ≤ 3 ∨ (k = 36 ∨ k = 35) ∧ i = 0) S S4 := ((F1.mono (fun k i z => Or.inl z)).tr (F3.mono (fun k i z => Or.inr ⟨Or.inl z.1, z.2⟩))).tr (F4.mono (fun k i z => Or.inr ⟨Or.inr z.1, z.2⟩))
              have k26 : ∀ t', S4.1 26 t' = (ua S 26 u (va_cpy (S.1 26 t) (S.1 26 u) i j n)).1 26 t' := fun t' => by rw [F4.1 _ _ (by omega), F3.1 _ _ (by omega)]
              have k35 : S3.1 35 0 = S.1 35 0 := by rw [F3.1 _ _ (by omega), ua_ne (by omega)]
              refine ⟨_, ua S 26 u (va_cpy (S.1 26 t) (S.1 26 u) i j n), S4, rfl, ?_, L, st, sg, h1.fr FA (fun k i z => by unfold KC at z; omega), h2.fr FA (fun k i z => by unfold KM at z; omega), h3.fr FA (fun k i z => by unfold KG at z; omega), SH.upd (t := u) h4 ?_ ?_ ?_ ?_ ?_ ?_ (Or.inr ⟨fm, rz, b1, b2, ?_, ?_, ?_, ?_, ?_⟩), ?_⟩
              · rw [(eM _).1, bn_s, if_neg z10', (eM _).2, bn_s, if_neg z10', hvi, ck_t, hcl, jn_b, ua_ne (f' := 33) (by omega), a4, if_neg c0, hvu, ck_t, hcu, b4, if_pos d0, ck_t, ck_t, if_pos rfl, jn_b, if_neg (by rw [i_0, iI_lt (by omega) (by omega) (by omega) (by omega)]; omega), if_neg (by rw [i_0, iI_lt (by omega) (by omega) (by omega) (by omega)]; omega), if_neg (by rw [i_0, iI_lt (by omega) (by omega) (by omega) (by omega)]; omega), ck_t, ua_ne (f' := 34) (by omega), a6, b6, eL1, eL2, iI_toL (z := (sz : Int)) (by omega) (by omega), iI_toL (z := (rz : Int)) (by omega) (by omega), if_neg (by rw [lg_gt (by omega) (by omega) (by omega) (by omega)]; omega), ck_t, if_pos (by rw [lg_ge (by omega) (by omega) (by omega) (by omega)]; omega), jn_b, e3]
                exact e4
              · intro t' e; rw [FA.1 _ _ (by omega)]
              · intro t' e; rw [FA.1 _ _ (by omega)]
              · intro t' e; rw [FA.1 _ _ (by omega)]
              · intro t' e; rw [FA.1 _ _ (by omega)]
              · intro t' e; rw [k26, ua_ni e]
              · intro t' j' e hj; rw [k4, if_neg (by omega), k35]
              · rw [FA.1 _ _ (by omega)]; exact b3
              · rw [FA.1 _ _ (by omega)]; exact b4
              · rw [FA.1 _ _ (by omega)]; exact b5
              · rw [FA.1 _ _ (by omega)]; exact b6
              · intro p hp
                rw [k26, ua_same, k4]
                by_cases c : j ≤ p ∧ p < j + n
                · rw [pk_cpy_in c.1 c.2, if_pos (by omega), k3, if_pos (by omega), ua_ne (by omega), a7 _ (by omega)]
                  refine congrArg (S.1 35 0) ?_
                  omega
                · rw [pk_cpy_out (by omega), if_neg (by omega), k35, b7 p hp]
              · rw [FA.1 _ _ (by omega), FA.1 _ _ (by omega)]; exact h5
            · have eA : (if iI n < (0 : Int32) then bn2 (f_X5_find (2 : Int32) S) (fun r18 S19 => some (r18, S19)) else bn (f_X5_holds (iI t) (iI x) (iI n) S) (fun r22 => (if r22 = (0 : Int32) then bn2 (f_X5_find (2 : Int32) S) (fun r18 S19 => some (r18, S19)) else bn (f_X5_holds (iI u) (iI w) (iI n) S) (fun r24 => (if r24 = (0 : Int32) then bn2 (f_X5_find (2 : Int32) S) (fun r18 S19 => some (r18, S19)) else bn (f_X5_move (iI t) (iI x) (iI u) (iI w) (iI n) S) (fun S26 => some ((1 : Int32), S26))))))) = bn2 (f_X5_find (2 : Int32) S) (fun r18 S19 => some (r18, S19)) := by
                rw [p_holds (by omega) a5 a2 x1 x2 n1 n2, bn_s]
                by_cases c1 : 0 ≤ x ∧ 0 ≤ n ∧ x + n ≤ sz
                · rw [b2i_p c1, if_neg z10', p_holds (by omega) b5 b2 w1 w2 n1 n2, bn_s, b2i_n (fun c2 => g ⟨c1, c2⟩), if_pos z00]
                  split <;> rfl
                · rw [b2i_n c1, if_pos z00]
                  split <;> rfl
              rw [eA]
              refine ⟨_, us S 111 0 0 (2 : Int32), us (us S 111 0 0 (2 : Int32)) 113 0 0 (2 : Int32), rfl, ?_, hI.find _⟩
              rw [(eM _).1, bn_s, if_neg z10', (eM _).2, bn_s, if_neg z10', hvi, ck_t, hcl, jn_b, us_ne (f' := 33) (by omega), a4, if_neg c0, hvu, ck_t, hcu, b4, if_pos d0, ck_t, ck_t, if_pos rfl, jn_b, ck_t, us_ne (f' := 34) (by omega), a6, b6, eL1, eL2, iI_toL (z := (sz : Int)) (by omega) (by omega), iI_toL (z := (rz : Int)) (by omega) (by omega), ck_t]
              by_cases c1 : 0 ≤ x
              · rw [if_neg (by rw [i_0, iI_lt (by omega) (by omega) (by omega) (by omega)]; omega)]
                by_cases c2 : 0 ≤ w
                · rw [if_neg (by rw [i_0, iI_lt (by omega) (by omega) (by omega) (by omega)]; omega)]
                  by_cases c3 : 0 ≤ n
                  · rw [if_neg (by rw [i_0, iI_lt (by omega) (by omega) (by omega) (by omega)]; omega)]
                    by_cases c4 : x + n ≤ sz
                    · rw [if_neg (by rw [lg_gt (by omega) (by omega) (by omega) (by omega)]; omega), if_neg (by rw [lg_ge (by omega) (by omega) (by omega) (by omega)]; omega)]
                      rfl
                    · rw [if_pos (by rw [lg_gt (by omega) (by omega) (by omega) (by omega)]; omega)]
                      rfl
                  · rw [if_pos (by rw [i_0, iI_lt (by omega) (by omega) (by omega) (by omega)]; omega)]
                    rfl
                · rw [if_pos (by rw [i_0, iI_lt (by omega) (by omega) (by omega) (by omega)]; omega)]
                  rfl
              · rw [if_pos (by rw [i_0, iI_lt (by omega) (by omega) (by omega) (by omega)]; omega)]
                rfl
          · have cn : ¬ (iI (fm : Int) = iI (gm : Int)) := by rw [iI_eq (by omega) (by omega) (by omega) (by omega)]; omega
            rw [if_neg cn]
            refine ⟨_, us S 111 0 0 (4 : Int32), us (us S 111 0 0 (4 : Int32)) 113 0 0 (4 : Int32), rfl, ?_, hI.find _⟩
            rw [(eM _).1, bn_s, if_neg z10', (eM _).2, bn_s, if_neg z10', hvi, ck_t, hcl, jn_b, us_ne (f' := 33) (by omega), a4, if_neg c0, hvu, ck_t, hcu, b4, if_pos d0, ck_t, ck_t, if_neg cn]
            rfl
    · rw [b2i_n q', if_pos z00]
      refine ⟨_, S, S, rfl, ?_, hI⟩
      rw [m_isSheet _ z1 z2, bn_s, b2i_p q, if_neg z10', m_isSheet _ y1 y2, bn_s, b2i_n q', if_pos z00]
  · rw [b2i_n q, if_pos z00]
    refine ⟨_, S, S, rfl, ?_, hI⟩
    rw [m_isSheet _ z1 z2, bn_s, b2i_n q, if_pos z00]
