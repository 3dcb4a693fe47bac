/-! the turns as a text: the class reads them -/
def fig (b : Nat) : Option Nat := if 48 ≤ b ∧ b < 56 then some (b - 48) else none
abbrev mT : Type := Nat × List tT × tT × Nat
def stT (b x : Nat) (ts : List tT) (t : tT) (p : Nat) : Option mT :=
  if x = 1 then (if ts.length < 12 then (if b = 45 then some (2, ts, (-1, []), 0) else (ltr b).map (fun s => (4, ts, (-1, []), s))) else none)
  else if x = 2 then (fig b).map (fun c => (3, ts, ((c : Int), []), 0))
  else if x = 3 then (ltr b).map (fun s => (4, ts, t, s))
  else if x = 4 then (fig b).map (fun c => (5, ts, (t.1, t.2 ++ [(p, c)]), 0))
  else if b = 59 then some (1, ts ++ [t], (-1, []), 0)
  else if t.2.length < 3 then (ltr b).map (fun s => (4, ts, t, s)) else none
def pT : List Nat → Nat → Nat → List tT → tT → Nat → Int × List tT
  | [], k, x, ts, t, _ => if x = 5 then (-1, ts ++ [t]) else ((k : Int), [])
  | b :: l, k, x, ts, t, p => match stT b x ts t p with | none => ((k : Int), []) | some q => pT l (k + 1) q.1 q.2.1 q.2.2.1 q.2.2.2
def parseT (l : List Nat) : Int × List tT := if l = [] then (-1, []) else pT l 0 1 [] (-1, []) 0
def tB (t : tT) : Prop := -1 ≤ t.1 ∧ t.1 ≤ 7 ∧ t.2.length ≤ 3 ∧ ∀ q ∈ t.2, q.1 < 4 ∧ q.2 < 8
def mB (x : Nat) (ts : List tT) (t : tT) (p : Nat) : Prop := OkT ts ∧ tB t ∧ 1 ≤ x ∧ x ≤ 5 ∧ (x ≠ 1 → ts.length < 12) ∧ (x = 4 → t.2.length < 3 ∧ p < 4) ∧ (x = 5 → 1 ≤ t.2.length) ∧ (x = 2 ∨ x = 3 → t.2 = [])
theorem fig_lt {b c : Nat} (h : fig b = some c) : c < 8 ∧ 48 ≤ b ∧ b < 56 ∧ c = b - 48 := by
  unfold fig at h
  split at h
  · cases h; omega
  · cases h
theorem OkT.app {ts : List tT} {t : tT} (h : OkT ts) (hl : ts.length < 12) (ht : tB t) (h1 : 1 ≤ t.2.length) : OkT (ts ++ [t]) := by
  refine ⟨by simp; omega, fun u hu => ?_⟩
  rcases List.mem_append.mp hu with hu | hu
  · exact h.2 u hu
  · have e : u = t := by simpa using hu
    subst e
    exact ⟨ht.1, ht.2.1, h1, ht.2.2.1, ht.2.2.2⟩
theorem tB_new : tB (-1, []) := ⟨by decide, by decide, by decide, fun q hq => absurd hq (by simp)⟩
theorem stT_B {b x p : Nat} {ts : List tT} {t : tT} (h : mB x ts t p) {x' p' : Nat} {ts' : List tT} {t' : tT} (e : stT b x ts t p = some (x', ts', t', p')) : mB x' ts' t' p' := by
  obtain ⟨h1, h2, h3, h4, h5, h6, h7, h8⟩ := h
  unfold stT at e
  split at e
  · split at e
    · split at e
      · cases e
        exact ⟨h1, tB_new, by decide, by decide, fun _ => by assumption, fun z => absurd z (by decide), fun z => absurd z (by decide), fun _ => rfl⟩
      · cases hs : ltr b with
        | none => rw [hs] at e; cases e
        | some s =>
          rw [hs] at e
          cases e
          exact ⟨h1, tB_new, by decide, by decide, fun _ => by assumption, fun _ => ⟨by decide, ltr_lt hs⟩, fun z => absurd z (by decide), fun z => absurd z (by decide)⟩
    · cases e
  · split at e
    · cases hs : fig b with
      | none => rw [hs] at e; cases e
      | some c =>
        rw [hs] at e
        cases e
        have hc := fig_lt hs
        exact ⟨h1, ⟨by simp only; omega, by simp only; omega, by simp, fun q hq => absurd hq (by simp)⟩, by decide, by decide, fun _ => h5 (by omega), fun z => absurd z (by decide), fun z => absurd z (by decide), fun _ => rfl⟩
    · split at e
      · cases hs : ltr b with
        | none => rw [hs] at e; cases e
        | some s =>
          rw [hs] at e
          cases e
          have h9 := h8 (Or.inr (by assumption))
          exact ⟨h1, h2, by decide, by decide, fun _ => h5 (by omega), fun _ => ⟨by rw [h9]; decide, ltr_lt hs⟩, fun z => absurd z (by decide), fun z => absurd z (by decide)⟩
      · split at e
        · cases hs : fig b with
          | none => rw [hs] at e; cases e
          | some c =>
            rw [hs] at e
            cases e
            have hc := fig_lt hs
            have h9 := h6 (by assumption)
            refine ⟨h1, ⟨h2.1, h2.2.1, by simp only [List.length_append, List.length_singleton]; omega, fun q hq => ?_⟩, by decide, by decide, fun _ => h5 (by omega), fun z => absurd z (by decide), fun _ => by simp only [List.length_append, List.length_singleton]; omega, fun z => absurd z (by decide)⟩
            rcases List.mem_append.mp hq with hq | hq
            · exact h2.2.2.2 q hq
            · have e : q = (p, c) := by simpa using hq
              subst e
              exact ⟨h9.2, hc.1⟩
        · split at e
          · cases e
            have hx : x = 5 := by omega
            exact ⟨h1.app (h5 (by omega)) h2 (h7 hx), tB_new, by decide, by decide, fun z => absurd rfl z, fun z => absurd z (by decide), fun z => absurd z (by decide), fun _ => rfl⟩
          · split at e
            · cases hs : ltr b with
              | none => rw [hs] at e; cases e
              | some s =>
                rw [hs] at e
                cases e
                exact ⟨h1, h2, by decide, by decide, fun _ => h5 (by omega), fun _ => ⟨by assumption, ltr_lt hs⟩, fun z => absurd z (by decide), fun z => absurd z (by decide)⟩
            · cases e
theorem OkT_nil : OkT [] := ⟨by decide, fun t ht => absurd ht (by simp)⟩
theorem pT_ok : ∀ (l : List Nat) (k x : Nat) (ts : List tT) (t : tT) (p : Nat), mB x ts t p → OkT (pT l k x ts t p).2 := by
  intro l
  induction l with
  | nil =>
    intro k x ts t p h
    unfold pT
    split
    · exact h.1.app (h.2.2.2.2.1 (by omega)) h.2.1 (h.2.2.2.2.2.2.1 (by assumption))
    · exact OkT_nil
  | cons b l ih =>
    intro k x ts t p h
    unfold pT
    cases e : stT b x ts t p with
    | none => exact OkT_nil
    | some q => exact ih _ _ _ _ _ (stT_B (x' := q.1) (ts' := q.2.1) (t' := q.2.2.1) (p' := q.2.2.2) h e)
theorem mB0 : mB 1 [] (-1, []) 0 := ⟨OkT_nil, tB_new, by decide, by decide, fun z => absurd rfl z, fun z => absurd z (by decide), fun z => absurd z (by decide), fun _ => rfl⟩
theorem parseT_ok (l : List Nat) : OkT (parseT l).2 := by
  unfold parseT
  split
  · exact OkT_nil
  · exact pT_ok _ _ _ _ _ _ mB0
theorem tn_l {ts : List tT} {t : tT} {k : Nat} (h : k < ts.length) : tn (ts ++ [t]) k = tn ts k := by
  unfold tn
  rw [List.getD_eq_getElem?_getD, List.getD_eq_getElem?_getD, List.getElem?_append_left h]
theorem tn_r {ts : List tT} {t : tT} : tn (ts ++ [t]) ts.length = t := by
  unfold tn
  rw [List.getD_eq_getElem?_getD, List.getElem?_append_right (by omega)]
  simp
theorem sn_l {ts : List (Nat × Nat)} {t : Nat × Nat} {k : Nat} (h : k < ts.length) : sn (ts ++ [t]) k = sn ts k := by
  unfold sn
  rw [List.getD_eq_getElem?_getD, List.getD_eq_getElem?_getD, List.getElem?_append_left h]
theorem sn_r {ts : List (Nat × Nat)} {t : Nat × Nat} : sn (ts ++ [t]) ts.length = t := by
  unfold sn
  rw [List.getD_eq_getElem?_getD, List.getElem?_append_right (by omega)]
  simp
def PT : Nat → Nat → Prop := fun k i => (13 ≤ k ∧ k ≤ 16 ∨ k = 104) ∧ i = 0
/-- one turn more, or another last turn -/
theorem TC.last {S S' : sT} {ts : List tT} {t : tT} (h : ∀ k, k < ts.length → S.1 13 0 k = iI (tn ts k).1 ∧ S.1 14 0 k = iI (tn ts k).2.length ∧ ∀ j, j < (tn ts k).2.length → S.1 15 0 (3 * k + j) = iI (sn (tn ts k).2 j).1 ∧ S.1 16 0 (3 * k + j) = iI (sn (tn ts k).2 j).2) (hO : OkT ts)
    (h0 : S'.1 104 0 0 = iI ((ts.length : Int) + 1)) (h1 : ∀ k, k < ts.length → S'.1 13 0 k = S.1 13 0 k) (h2 : ∀ k, k < ts.length → S'.1 14 0 k = S.1 14 0 k) (h3 : ∀ k, k < 3 * ts.length → S'.1 15 0 k = S.1 15 0 k) (h4 : ∀ k, k < 3 * ts.length → S'.1 16 0 k = S.1 16 0 k)
    (g1 : S'.1 13 0 ts.length = iI t.1) (g2 : S'.1 14 0 ts.length = iI t.2.length) (g3 : ∀ j, j < t.2.length → S'.1 15 0 (3 * ts.length + j) = iI (sn t.2 j).1 ∧ S'.1 16 0 (3 * ts.length + j) = iI (sn t.2 j).2) : TC S' (ts ++ [t]) := by
  refine ⟨by rw [h0, List.length_append, List.length_singleton]; rfl, fun k hk => ?_⟩
  rw [List.length_append, List.length_singleton] at hk
  by_cases e : k = ts.length
  · subst e
    rw [tn_r]
    exact ⟨g1, g2, g3⟩
  · have hk : k < ts.length := by omega
    obtain ⟨a1, a2, a3⟩ := h k hk
    have a4 := (hO.2 _ (tn_mem hk)).2.2.2.1
    rw [tn_l hk, h1 k hk, h2 k hk]
    exact ⟨a1, a2, fun j hj => by rw [h3 _ (by omega), h4 _ (by omega)]; exact a3 j hj⟩
theorem TC.init {S : sT} {ts : List tT} {t : tT} (h : TC S (ts ++ [t])) : (∀ k, k < ts.length → S.1 13 0 k = iI (tn ts k).1 ∧ S.1 14 0 k = iI (tn ts k).2.length ∧ ∀ j, j < (tn ts k).2.length → S.1 15 0 (3 * k + j) = iI (sn (tn ts k).2 j).1 ∧ S.1 16 0 (3 * k + j) = iI (sn (tn ts k).2 j).2) ∧ S.1 104 0 0 = iI ((ts.length : Int) + 1) ∧ S.1 13 0 ts.length = iI t.1 ∧ S.1 14 0 ts.length = iI t.2.length ∧ ∀ j, j < t.2.length → S.1 15 0 (3 * ts.length + j) = iI (sn t.2 j).1 ∧ S.1 16 0 (3 * ts.length + j) = iI (sn t.2 j).2 := by
  obtain ⟨h0, h1⟩ := h
  refine ⟨fun k hk => ?_, by rw [h0, List.length_append, List.length_singleton]; rfl, ?_⟩
  · have h2 := h1 k (by rw [List.length_append]; omega)
    rw [tn_l hk] at h2
    exact h2
  · have h2 := h1 ts.length (by rw [List.length_append, List.length_singleton]; omega)
    rw [tn_r] at h2
    exact h2
theorem p_isT {S : sT} {n k : Nat} (h : S.1 104 0 0 = iI n) (hn : n ≤ 12) (hk : k < n) : f_X4_isTurn (iI k) S = some (iI 1) := by
  unfold f_X4_isTurn
  rw [h]
  simp (disch := omega) only [ck_t, lt_b, bn_s, bn2_s, jn_b, nl_N, nl_S, i_m2147483648, i_m1002, i_m10, i_m9, i_m4, i_m3, i_m2, i_m1, i_0, i_1, i_2, i_3, i_4, i_5, i_6, i_7, i_8, i_9, i_12, i_15, i_16, i_32, i_40, i_45, i_48, i_55, i_59, i_60, i_63, i_64, i_78, i_81, i_83, i_110, i_115, i_255, iI_add, iI_sub, iI_mul, iI_neg, iI_lt, iI_le, iI_eq, cl_iI, vi_iI, if_pos, if_neg, ↓reduceIte]
theorem p_columnOf {b : Nat} (hb : b < 256) (S : sT) : f_X7_columnOf (iI b) S = some (iI (oI (fig b))) := by
  unfold f_X7_columnOf fig
  simp (disch := omega) only [ck_t, lt_b, bn_s, bn2_s, jn_b, nl_N, nl_S, i_m2147483648, i_m1002, i_m10, i_m9, i_m4, i_m3, i_m2, i_m1, i_0, i_1, i_2, i_3, i_4, i_5, i_6, i_7, i_8, i_9, i_12, i_15, i_16, i_32, i_40, i_45, i_48, i_55, i_59, i_60, i_63, i_64, i_78, i_81, i_83, i_110, i_115, i_255, iI_add, iI_sub, iI_mul, iI_neg, iI_lt, iI_le, iI_eq, cl_iI, vi_iI]
  by_cases h1 : b < 48
  · rw [if_pos (by omega), if_neg (by omega)]; rfl
  · by_cases h2 : 55 < b
    · rw [if_neg (by omega), if_pos (by omega), if_neg (by omega)]; rfl
    · rw [if_neg (by omega), if_neg (by omega), if_pos (by omega)]
      simp only [oI]
      congr 2; omega
theorem p_nextPart {S : sT} {ts : List tT} {t : tT} (h : TC S (ts ++ [t])) (hl : ts.length < 12) (h3 : t.2.length ≤ 3) : f_X4_nextPart (iI ts.length) S = some (iI (if t.2.length < 3 then ((3 * ts.length + t.2.length : Nat) : Int) else -1)) := by
  obtain ⟨-, h0, h1, h2, -⟩ := h.init
  unfold f_X4_nextPart
  rw [p_isT (n := ts.length + 1) (by rw [h0]; rfl) (by omega) (by omega)]
  simp (disch := omega) only [ck_t, lt_b, bn_s, bn2_s, jn_b, nl_N, nl_S, i_m2147483648, i_m1002, i_m10, i_m9, i_m4, i_m3, i_m2, i_m1, i_0, i_1, i_2, i_3, i_4, i_5, i_6, i_7, i_8, i_9, i_12, i_15, i_16, i_32, i_40, i_45, i_48, i_55, i_59, i_60, i_63, i_64, i_78, i_81, i_83, i_110, i_115, i_255, iI_add, iI_sub, iI_mul, iI_neg, iI_lt, iI_le, iI_eq, cl_iI, vi_iI, Int.toNat_natCast, h2, if_neg]
  by_cases q : t.2.length < 3
  · rw [if_pos (by omega), if_pos q]
    congr 2; omega
  · rw [if_neg (by omega), if_neg q]
theorem p_letter {S : sT} {ts : List tT} {t : tT} {b : Nat} (h : TC S (ts ++ [t])) (hl : ts.length < 12) (h3 : t.2.length ≤ 3) (hb : b < 256) : f_X4_tellLetter (iI ts.length) (iI b) S = match (if t.2.length < 3 then ltr b else none) with | none => some (iI 0, S) | some s => some (iI 4, us S 15 0 (3 * ts.length + t.2.length) (iI s)) := by
  unfold f_X4_tellLetter
  rw [p_ofLetter hb, p_nextPart h hl h3]
  simp only [ck_t, lt_b, bn_s, bn2_s, jn_b, nl_N, nl_S]
  cases hs : ltr b with
  | none =>
    rw [if_pos (by rfl)]
    split
    · rfl
    · next e => split at e <;> cases e
  | some s =>
    have hs4 := ltr_lt hs
    rw [show oI (some s) = (s : Int) from rfl, if_neg (by rw [i_m1, iI_eq (by omega) (by omega) (by omega) (by omega)]; omega)]
    by_cases q : t.2.length < 3
    · rw [if_pos q, if_pos q, if_neg (by rw [i_m1, iI_eq (by omega) (by omega) (by omega) (by omega)]; omega)]
      rw [vi_iI (by omega) (by omega) (by omega), ck_t, cl_iI (by omega) (by omega), Int.toNat_natCast]
      rfl
    · rw [if_neg q, if_neg q, if_pos (by rfl)]
      rfl
