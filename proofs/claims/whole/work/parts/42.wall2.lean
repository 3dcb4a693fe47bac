/-! walls: what may be laid and taken, copies, rules, weak columns -/
def b2i (b : Bool) : Int := if b = true then 1 else 0
theorem b2i_t : b2i true = 1 := rfl
theorem b2i_f : b2i false = 0 := rfl
def putF (n : Nat) (f : Nat → List Nat) (z : Int) (x : Nat) : Option (Nat → List Nat) := if 0 ≤ z ∧ z < n ∧ (f z.toNat).length < 8 then some (upf f z.toNat (f z.toNat ++ [x])) else none
def tkF (n : Nat) (f : Nat → List Nat) (z : Int) (who : Nat) : Option (Nat → List Nat) := if 0 ≤ z ∧ z < n then (match (f z.toNat).getLast? with | some x => if x % 2 = who then none else some (upf f z.toNat (f z.toNat).dropLast) | none => none) else none
theorem p_put {S : sT} {w n x : Nat} {f : Nat → List Nat} (h : RW S w n f) (hx : x < 4) {z : Int} (h1 : -2147483648 ≤ z) (h2 : z < 2147483648) : ∃ S', f_X9_put w (iI z) (iI x) S = some (iI (b2i (putF n f z x).isSome), S') ∧ RW S' w n ((putF n f z x).getD f) ∧ FW w S S' := by
  unfold putF
  by_cases hz : 0 ≤ z ∧ z < n
  · obtain ⟨c, rfl⟩ : ∃ c : Nat, z = c := ⟨z.toNat, by omega⟩
    have hc : c < n := by omega
    simp only [Int.toNat_natCast]
    by_cases hl : (f c).length < 8
    · rw [if_pos ⟨hz.1, hz.2, hl⟩]
      exact p_put_in h hc hx hl
    · rw [if_neg (fun q => hl q.2.2)]
      have := (h.2.2 c (by have := h.1; omega)).1.1
      exact ⟨S, p_put_full h hc (by omega) _, h, FW.rf w S⟩
  · rw [if_neg (fun q => hz ⟨q.1, q.2.1⟩)]
    exact ⟨S, p_put_out h h1 h2 hz _, h, FW.rf w S⟩
theorem list_nc (l : List Nat) : l = [] ∨ ∃ (l' : List Nat) (x : Nat), l = l' ++ [x] := by
  rcases List.eq_nil_or_concat l with h | ⟨l', x, h⟩
  · exact Or.inl h
  · exact Or.inr ⟨l', x, by rw [h]; simp⟩
theorem iI_and1 {a : Nat} (h : a < 2147483648) : iI a &&& (1 : Int32) = iI (a % 2 : Nat) := pk_andN (n := a) (by omega) (m := 1) 1 (by decide)
theorem p_tfo {S : sT} {w n who : Nat} {f : Nat → List Nat} (h : RW S w n f) (hw : who < 2) {z : Int} (h1 : -2147483648 ≤ z) (h2 : z < 2147483648) : ∃ S', f_X9_takeFromOther w (iI z) (iI who) S = some (iI (b2i (tkF n f z who).isSome), S') ∧ RW S' w n ((tkF n f z who).getD f) ∧ FW w S S' := by
  unfold tkF
  by_cases hz : 0 ≤ z ∧ z < n
  · rw [if_pos hz]
    obtain ⟨c, rfl⟩ : ∃ c : Nat, z = c := ⟨z.toNat, by omega⟩
    have hc : c < n := by omega
    simp only [Int.toNat_natCast]
    rcases list_nc (f c) with hl | ⟨l, x, hl⟩
    · refine ⟨S, ?_, ?_, FW.rf w S⟩
      · unfold f_X9_takeFromOther
        rw [p_upper_nil h hc hl, hl]
        simp (disch := omega) only [ck_t, lt_b, bn_s, bn2_s, jn_b, nl_N, nl_S, i_m2147483648, i_m1002, i_m10, i_m9, i_m4, i_m3, i_m2, i_m1, i_0, i_1, i_2, i_3, i_4, i_5, i_6, i_7, i_8, i_9, i_12, i_15, i_16, i_32, i_40, i_45, i_48, i_55, i_59, i_60, i_63, i_64, i_78, i_81, i_83, i_110, i_115, i_255, iI_add, iI_sub, iI_mul, iI_neg, iI_lt, iI_le, iI_eq, cl_iI, vi_iI, if_pos, if_neg, ↓reduceIte]
        rfl
      · rw [hl]; exact h
    · have hx : x < 4 := by
        have := (h.2.2 c (by have := h.1; omega)).1
        rw [hl] at this
        exact this.init.2.1
      have e1 : (f c).getLast? = some x := by rw [hl]; simp
      have e2 : (f c).dropLast = l := by rw [hl]; simp
      rw [e1, e2]
      simp only
      by_cases hq : x % 2 = who
      · rw [if_pos hq]
        refine ⟨S, ?_, h, FW.rf w S⟩
        unfold f_X9_takeFromOther f_X7_ownerOf
        rw [p_upper_app h hc hl]
        simp (disch := omega) only [ck_t, lt_b, bn_s, bn2_s, jn_b, nl_N, nl_S, iI_and1, ← i_0, ← i_1]
        rw [if_neg (by rw [i_m1, iI_eq (by omega) (by omega) (by omega) (by omega)]; omega), if_pos (by rw [hq])]
        rfl
      · rw [if_neg hq]
        obtain ⟨S', e3, e4, e5⟩ := p_take_app h hc hl
        refine ⟨S', ?_, e4, e5⟩
        unfold f_X9_takeFromOther f_X7_ownerOf
        rw [p_upper_app h hc hl]
        simp (disch := omega) only [ck_t, lt_b, bn_s, bn2_s, jn_b, nl_N, nl_S, iI_and1, e3]
        rw [if_neg (by rw [i_m1, iI_eq (by omega) (by omega) (by omega) (by omega)]; omega), if_neg (by rw [iI_eq (by omega) (by omega) (by omega) (by omega)]; omega)]
        rfl
  · rw [if_neg hz]
    refine ⟨S, ?_, h, FW.rf w S⟩
    unfold f_X9_takeFromOther
    rw [p_upper_out h h1 h2 hz]
    simp (disch := omega) only [ck_t, lt_b, bn_s, bn2_s, jn_b, nl_N, nl_S, i_m2147483648, i_m1002, i_m10, i_m9, i_m4, i_m3, i_m2, i_m1, i_0, i_1, i_2, i_3, i_4, i_5, i_6, i_7, i_8, i_9, i_12, i_15, i_16, i_32, i_40, i_45, i_48, i_55, i_59, i_60, i_63, i_64, i_78, i_81, i_83, i_110, i_115, i_255, iI_add, iI_sub, iI_mul, iI_neg, iI_lt, iI_le, iI_eq, cl_iI, vi_iI, if_pos, if_neg, ↓reduceIte]
    rfl
theorem p_become {S : sT} {w w' n : Nat} {f : Nat → List Nat} (h : RW S w' n f) (hw : w' ≠ w) : ∃ S', f_X9_become w w' S = some S' ∧ RW S' w n f ∧ FW w S S' := by
  refine ⟨ua (ua (ua (ua (us S 112 w 0 (S.1 112 w' 0)) 29 w (va_cpy (S.1 29 w') (S.1 29 w) 0 0 64)) 30 w (va_cpy (S.1 30 w') (S.1 30 w) 0 0 8)) 31 w (va_cpy (S.1 31 w') (S.1 31 w) 0 0 8)) 32 w (va_cpy (S.1 32 w') (S.1 32 w) 0 0 8), ?_, ?_, ?_⟩
  · have c0 : cl (0 : Int32) = 0 := by decide
    have c8 : cl (8 : Int32) = 8 := by decide
    have c64 : cl (64 : Int32) = 64 := by decide
    have v1 : vc (0 : Int32) (64 : Int32) 64 = true := by decide
    have v2 : vc (0 : Int32) (8 : Int32) 8 = true := by decide
    unfold f_X9_become
    simp (disch := omega) only [ck_t, lt_b, bn_s, bn2_s, jn_b, nl_N, nl_S, v1, v2, c0, c8, c64, us_ne, ua_ne]
  · obtain ⟨hn, hc, hf⟩ := h
    refine ⟨hn, ?_, fun c hc8 => ?_⟩
    · simp (disch := omega) only [ua_ne, us_same]
      exact hc
    · obtain ⟨a1, a2, a3, a4, a5, a6⟩ := hf c hc8
      refine ⟨a1, a2, ?_, ?_, ?_, fun i hi => ?_⟩
      · simp (disch := omega) only [ua_ne, ua_same, us_ne]
        rw [pk_cpy_in (by omega) (by omega)]; simpa using a3
      · simp (disch := omega) only [ua_ne, ua_same, us_ne]
        rw [pk_cpy_in (by omega) (by omega)]; simpa using a4
      · simp (disch := omega) only [ua_ne, ua_same, us_ne]
        rw [pk_cpy_in (by omega) (by omega)]; simpa using a5
      · simp (disch := omega) only [ua_ne, ua_same, us_ne]
        rw [pk_cpy_in (by omega) (by have := a1.1; omega)]; simpa using a6 i hi
  · exact ((((FW.us (by omega)).tr (FW.ua (by omega))).tr (FW.ua (by omega))).tr (FW.ua (by omega))).tr (FW.ua (by omega))
/-- the rules hold st -/
def RR (S : sT) (st : Nat → Nat) : Prop := ∀ k, k < 6 → S.1 12 0 k = iI (st k) ∧ st k ≤ 255
theorem p_value {S : sT} {st : Nat → Nat} (h : RR S st) {k : Nat} (hk : k < 6) : f_X3_value (iI k) S = some (iI (st k)) := by
  unfold f_X3_value
  simp (disch := omega) only [ck_t, lt_b, bn_s, bn2_s, jn_b, nl_N, nl_S, i_m2147483648, i_m1002, i_m10, i_m9, i_m4, i_m3, i_m2, i_m1, i_0, i_1, i_2, i_3, i_4, i_5, i_6, i_7, i_8, i_9, i_12, i_15, i_16, i_32, i_40, i_45, i_48, i_55, i_59, i_60, i_63, i_64, i_78, i_81, i_83, i_110, i_115, i_255, iI_add, iI_sub, iI_mul, iI_neg, iI_lt, iI_le, iI_eq, cl_iI, vi_iI, if_pos, if_neg, ↓reduceIte, Int.toNat_natCast, (h k hk).1]
theorem p_mostAbove {S : sT} {st : Nat → Nat} (h : RR S st) : f_X3_mostAbove S = some (iI ((st 1 : Int) - st 2)) := by
  unfold f_X3_mostAbove
  have e1 : (1 : Int).toNat = 1 := rfl
  have e2 : (2 : Int).toNat = 2 := rfl
  simp (disch := omega) only [ck_t, lt_b, bn_s, bn2_s, jn_b, nl_N, nl_S, i_m2147483648, i_m1002, i_m10, i_m9, i_m4, i_m3, i_m2, i_m1, i_0, i_1, i_2, i_3, i_4, i_5, i_6, i_7, i_8, i_9, i_12, i_15, i_16, i_32, i_40, i_45, i_48, i_55, i_59, i_60, i_63, i_64, i_78, i_81, i_83, i_110, i_115, i_255, iI_add, iI_sub, iI_mul, iI_neg, iI_lt, iI_le, iI_eq, cl_iI, vi_iI, if_pos, if_neg, ↓reduceIte, e1, e2, (h 1 (by omega)).1, (h 2 (by omega)).1]
theorem p_brotherOf {S : sT} {st : Nat → Nat} (h : RR S st) {t : Nat} (ht : t < 10000) : f_X3_brotherOf (iI t) S = some (iI ((st 0 + t) % 2 : Nat)) := by
  have h0 := h 0 (by omega)
  have e := p_value h (k := 0) (by omega)
  unfold f_X3_brotherOf
  rw [i_0, show iI 0 = iI (0 : Nat) from rfl, e, bn_s, iI_add, show ((st 0 : Int) + (t : Int)) = ((st 0 + t : Nat) : Int) by omega, iI_and1 (by omega)]
/-- heights beside and at -/
def hs (n : Nat) (f : Nat → List Nat) (z : Int) : Nat := if 0 ≤ z ∧ z < n then ht (f z.toNat) else 0
theorem hs_in {n c : Nat} {f : Nat → List Nat} (hc : c < n) : hs n f c = ht (f c) := by
  unfold hs; rw [if_pos (by omega)]; rfl
theorem p_heightOf {S : sT} {w n : Nat} {f : Nat → List Nat} (h : RW S w n f) {z : Int} (h1 : -2147483648 ≤ z) (h2 : z < 2147483648) : f_X9_heightOf w (iI z) S = some (iI (hs n f z)) := by
  unfold hs
  by_cases hz : 0 ≤ z ∧ z < n
  · rw [if_pos hz]
    obtain ⟨c, rfl⟩ : ∃ c : Nat, z = c := ⟨z.toNat, by omega⟩
    exact p_heightOf_in h (by omega)
  · rw [if_neg hz]
    exact p_heightOf_out h h1 h2 hz
theorem hs_le {S : sT} {w n : Nat} {f : Nat → List Nat} (h : RW S w n f) (z : Int) : hs n f z ≤ 16 := by
  unfold hs
  split
  · have := (h.2.2 z.toNat (by have := h.1; omega)).1.1
    have := ht_le (f z.toNat)
    omega
  · omega
def wk (st : Nat → Nat) (n : Nat) (f : Nat → List Nat) (c : Nat) : Bool := decide ((st 1 : Int) - st 2 < (ht (f c) : Int) - (if hs n f ((c : Int) - 1) < hs n f ((c : Int) + 1) then hs n f ((c : Int) + 1) else hs n f ((c : Int) - 1) : Nat)) || decide ((st 3 : Int) < (if 0 ≤ ln (f c) then ln (f c) else 0 - ln (f c)))
theorem p_isWeak {S : sT} {w n c : Nat} {f : Nat → List Nat} {st : Nat → Nat} (h : RW S w n f) (hR : RR S st) (hc : c < n) : f_X9_isWeak w (iI c) (iI ((st 1 : Int) - st 2)) (iI (st 3)) S = some (iI (b2i (wk st n f c))) := by
  have hn := h.1
  have g1 := hs_le h ((c : Int) - 1)
  have g2 := hs_le h ((c : Int) + 1)
  have r1 := (hR 1 (by omega)).2
  have r2 := (hR 2 (by omega)).2
  have r3 := (hR 3 (by omega)).2
  have a1 := (h.2.2 c (by omega)).1.1
  have b1 := ht_le (f c)
  have b2 := ln_le (f c)
  unfold f_X9_isWeak wk
  rw [i_1, iI_sub, iI_add, p_heightOf h (by omega) (by omega), p_heightOf h (by omega) (by omega), p_heightOf_in h hc, p_leanOf_in h hc]
  generalize hs n f ((c : Int) - 1) = A at g1 ⊢
  generalize hs n f ((c : Int) + 1) = B at g2 ⊢
  have e5 : (if iI (A : Int) < iI (B : Int) then iI (B : Int) else iI (A : Int)) = iI ((if A < B then B else A : Nat) : Int) := by
    simp (disch := omega) only [iI_lt]
    by_cases q : A < B
    · rw [if_pos (by omega), if_pos q]
    · rw [if_neg (by omega), if_neg q]
  simp only [bn_s, lt_b, jn_b]
  rw [e5]
  have hM : (if A < B then B else A) ≤ 16 := by split <;> omega
  generalize (if A < B then B else A) = M at hM ⊢
  have e6 : (if (0 : Int32) ≤ iI (ln (f c)) then iI (ln (f c)) else (0 : Int32) - iI (ln (f c))) = iI (if 0 ≤ ln (f c) then ln (f c) else 0 - ln (f c)) := by
    simp (disch := omega) only [i_0, iI_le, iI_sub]
    split <;> rfl
  rw [e6]
  have hN : -16 ≤ (if 0 ≤ ln (f c) then ln (f c) else 0 - ln (f c)) ∧ (if 0 ≤ ln (f c) then ln (f c) else 0 - ln (f c)) ≤ 16 := by split <;> omega
  generalize (if 0 ≤ ln (f c) then ln (f c) else 0 - ln (f c)) = V at hN ⊢
  simp (disch := omega) only [ck_t, lt_b, bn_s, bn2_s, jn_b, nl_N, nl_S, i_m2147483648, i_m1002, i_m10, i_m9, i_m4, i_m3, i_m2, i_m1, i_0, i_1, i_2, i_3, i_4, i_5, i_6, i_7, i_8, i_9, i_12, i_15, i_16, i_32, i_40, i_45, i_48, i_55, i_59, i_60, i_63, i_64, i_78, i_81, i_83, i_110, i_115, i_255, iI_add, iI_sub, iI_mul, iI_neg, iI_lt, iI_le, iI_eq, cl_iI, vi_iI]
  by_cases q1 : (st 1 : Int) - st 2 < (ht (f c) : Int) - M
  · rw [if_pos q1, decide_eq_true q1]; rfl
  · rw [if_neg q1, decide_eq_false q1]
    by_cases q2 : (st 3 : Int) < V
    · rw [if_neg (by omega), decide_eq_true q2]; rfl
    · rw [if_pos (by omega), decide_eq_false q2]; rfl
theorem p_stands_l {S : sT} {w n : Nat} {f : Nat → List Nat} {st : Nat → Nat} (h : RW S w n f) (hR : RR S st) : ∀ (d k m : Nat), k + d = n → d < m → l_X9_stands_14 w S (iI ((st 1 : Int) - st 2)) (iI (st 3)) m (iI k) = some (iI (b2i ((List.range' k d).all (fun c => !wk st n f c)))) := by
  have hn := h.1
  intro d
  induction d with
  | zero =>
    intro k m hk hm
    obtain ⟨m, rfl⟩ : ∃ m', m = m' + 1 := ⟨m - 1, by omega⟩
    rw [l_X9_stands_14_s]
    unfold b_X9_stands_14
    rw [h.2.1]
    simp (disch := omega) only [ck_t, lt_b, bn_s, bn2_s, jn_b, nl_N, nl_S, i_m2147483648, i_m1002, i_m10, i_m9, i_m4, i_m3, i_m2, i_m1, i_0, i_1, i_2, i_3, i_4, i_5, i_6, i_7, i_8, i_9, i_12, i_15, i_16, i_32, i_40, i_45, i_48, i_55, i_59, i_60, i_63, i_64, i_78, i_81, i_83, i_110, i_115, i_255, iI_add, iI_sub, iI_mul, iI_neg, iI_lt, iI_le, iI_eq, cl_iI, vi_iI, if_pos, if_neg, ↓reduceIte]
    rfl
  | succ d ih =>
    intro k m hk hm
    obtain ⟨m, rfl⟩ : ∃ m', m = m' + 1 := ⟨m - 1, by omega⟩
    rw [l_X9_stands_14_s]
    unfold b_X9_stands_14
    rw [h.2.1, p_isWeak h hR (by omega)]
    rw [List.range'_succ, List.all_cons]
    have e := ih (k + 1) m (by omega) (by omega)
    cases hw : wk st n f k
    · simp (disch := omega) only [ck_t, lt_b, bn_s, bn2_s, jn_b, nl_N, nl_S, i_m2147483648, i_m1002, i_m10, i_m9, i_m4, i_m3, i_m2, i_m1, i_0, i_1, i_2, i_3, i_4, i_5, i_6, i_7, i_8, i_9, i_12, i_15, i_16, i_32, i_40, i_45, i_48, i_55, i_59, i_60, i_63, i_64, i_78, i_81, i_83, i_110, i_115, i_255, iI_add, iI_sub, iI_mul, iI_neg, iI_lt, iI_le, iI_eq, cl_iI, vi_iI, if_pos, if_neg, ↓reduceIte, b2i_f]
      exact e
    · simp (disch := omega) only [ck_t, lt_b, bn_s, bn2_s, jn_b, nl_N, nl_S, i_m2147483648, i_m1002, i_m10, i_m9, i_m4, i_m3, i_m2, i_m1, i_0, i_1, i_2, i_3, i_4, i_5, i_6, i_7, i_8, i_9, i_12, i_15, i_16, i_32, i_40, i_45, i_48, i_55, i_59, i_60, i_63, i_64, i_78, i_81, i_83, i_110, i_115, i_255, iI_add, iI_sub, iI_mul, iI_neg, iI_lt, iI_le, iI_eq, cl_iI, vi_iI, if_pos, if_neg, ↓reduceIte, b2i_t]
      rfl
theorem p_stands {S : sT} {w n : Nat} {f : Nat → List Nat} {st : Nat → Nat} (h : RW S w n f) (hR : RR S st) : f_X9_stands w S = some (iI (b2i ((List.range' 0 n).all (fun c => !wk st n f c)))) := by
  have hn := h.1
  unfold f_X9_stands
  rw [p_mostAbove hR, bn_s, i_3, show iI 3 = iI (3 : Nat) from rfl, p_value hR (by omega), bn_s]
  exact p_stands_l h hR n 0 FU (by omega) (by unfold FU; omega)
