/-! turns: (column or -1, what is laid) -/
abbrev tT : Type := Int × List (Nat × Nat)
def OkT (ts : List tT) : Prop := ts.length ≤ 12 ∧ ∀ t ∈ ts, -1 ≤ t.1 ∧ t.1 ≤ 7 ∧ 1 ≤ t.2.length ∧ t.2.length ≤ 3 ∧ ∀ q ∈ t.2, q.1 < 4 ∧ q.2 < 8
def tn (ts : List tT) (k : Nat) : tT := ts.getD k (-1, [])
def sn (l : List (Nat × Nat)) (j : Nat) : Nat × Nat := l.getD j (0, 0)
theorem tn_mem {ts : List tT} {k : Nat} (h : k < ts.length) : tn ts k ∈ ts := by
  unfold tn
  rw [List.getD_eq_getElem?_getD, List.getElem?_eq_getElem h]
  exact List.getElem_mem h
theorem sn_mem {l : List (Nat × Nat)} {k : Nat} (h : k < l.length) : sn l k ∈ l := by
  unfold sn
  rw [List.getD_eq_getElem?_getD, List.getElem?_eq_getElem h]
  exact List.getElem_mem h
theorem drop_sn {l : List (Nat × Nat)} {k : Nat} (h : k < l.length) : l.drop k = sn l k :: l.drop (k + 1) := by
  rw [List.drop_eq_getElem_cons h]
  unfold sn
  rw [List.getD_eq_getElem?_getD, List.getElem?_eq_getElem h]
  rfl
/-- the script holds the turns ts -/
def TC (S : sT) (ts : List tT) : Prop := S.1 104 0 0 = iI ts.length ∧ ∀ k, k < ts.length → S.1 13 0 k = iI (tn ts k).1 ∧ S.1 14 0 k = iI (tn ts k).2.length ∧ ∀ j, j < (tn ts k).2.length → S.1 15 0 (3 * k + j) = iI (sn (tn ts k).2 j).1 ∧ S.1 16 0 (3 * k + j) = iI (sn (tn ts k).2 j).2
theorem TC.kept {S S' : sT} {ts : List tT} (h : TC S ts) (h1 : S'.1 104 0 = S.1 104 0) (h2 : S'.1 13 0 = S.1 13 0) (h3 : S'.1 14 0 = S.1 14 0) (h4 : S'.1 15 0 = S.1 15 0) (h5 : S'.1 16 0 = S.1 16 0) : TC S' ts := by
  unfold TC
  rw [h1, h2, h3, h4, h5]
  exact h
theorem TC.fw {S S' : sT} {w : Nat} {ts : List tT} (h : TC S ts) (hF : FW w S S') : TC S' ts :=
  h.kept (hF.1 _ _ (by omega)) (hF.1 _ _ (by omega)) (hF.1 _ _ (by omega)) (hF.1 _ _ (by omega)) (hF.1 _ _ (by omega))
def layO (n : Nat) (f : Nat → List Nat) (who : Nat) (q : Nat × Nat) : Option (Nat → List Nat) := if q.1 % 2 = who then putF n f q.2 q.1 else none
def layF (n who : Nat) : (Nat → List Nat) × Nat → Nat × Nat → (Nat → List Nat) × Nat := fun p q => ((layO n p.1 who q).getD p.1, if (layO n p.1 who q).isSome then p.2 + 1 else p.2)
theorem layF_le (n who : Nat) : ∀ (l : List (Nat × Nat)) (p : (Nat → List Nat) × Nat), (l.foldl (layF n who) p).2 ≤ p.2 + l.length := by
  intro l
  induction l with
  | nil => intro p; simp
  | cons a l ih =>
    intro p
    rw [List.foldl_cons, List.length_cons]
    have h1 := ih (layF n who p a)
    have h2 : (layF n who p a).2 ≤ p.2 + 1 := by unfold layF; simp only; split <;> omega
    omega
theorem p_isTurn {S : sT} {ts : List tT} (h : TC S ts) (hO : OkT ts) {k : Nat} (hk : k < ts.length) : f_X4_isTurn (iI k) S = some (iI 1) := by
  have h1 := hO.1
  unfold f_X4_isTurn
  rw [h.1]
  simp (disch := omega) only [ck_t, lt_b, bn_s, bn2_s, jn_b, nl_N, nl_S, i_m2147483648, i_m1002, i_m10, i_m9, i_m4, i_m3, i_m2, i_m1, i_0, i_1, i_2, i_3, i_4, i_5, i_6, i_7, i_8, i_9, i_12, i_15, i_16, i_32, i_40, i_45, i_48, i_55, i_59, i_60, i_63, i_64, i_78, i_81, i_83, i_110, i_115, i_255, iI_add, iI_sub, iI_mul, iI_neg, iI_lt, iI_le, iI_eq, cl_iI, vi_iI, if_pos, if_neg, ↓reduceIte]
theorem p_isTurn_out {S : sT} {ts : List tT} (h : TC S ts) (hO : OkT ts) {z : Int} (h1 : -2147483648 ≤ z) (h2 : z < 2147483648) (hz : ¬ (0 ≤ z ∧ z < ts.length)) : f_X4_isTurn (iI z) S = some (iI 0) := by
  have h3 := hO.1
  unfold f_X4_isTurn
  rw [h.1]
  simp (disch := omega) only [ck_t, lt_b, bn_s, bn2_s, jn_b, nl_N, nl_S, i_m2147483648, i_m1002, i_m10, i_m9, i_m4, i_m3, i_m2, i_m1, i_0, i_1, i_2, i_3, i_4, i_5, i_6, i_7, i_8, i_9, i_12, i_15, i_16, i_32, i_40, i_45, i_48, i_55, i_59, i_60, i_63, i_64, i_78, i_81, i_83, i_110, i_115, i_255, iI_add, iI_sub, iI_mul, iI_neg, iI_lt, iI_le, iI_eq, cl_iI, vi_iI]
  split
  · rfl
  · rw [if_pos (by omega)]
theorem p_doTake {S : sT} {ts : List tT} {w n who k : Nat} {f : Nat → List Nat} (h : TC S ts) (hO : OkT ts) (hk : k < ts.length) (hW : RW S w n f) (hw : who < 2) : ∃ S', f_X4_doTake (iI k) (iI who) w S = some (iI (b2i (tkF n f (tn ts k).1 who).isSome), S') ∧ RW S' w n ((tkF n f (tn ts k).1 who).getD f) ∧ FW w S S' := by
  have h1 := hO.1
  obtain ⟨t1, t2, t3, t4, t5⟩ := hO.2 _ (tn_mem hk)
  obtain ⟨S', e1, e2, e3⟩ := p_tfo hW hw (z := (tn ts k).1) (by omega) (by omega)
  refine ⟨S', ?_, e2, e3⟩
  unfold f_X4_doTake
  rw [p_isTurn h hO hk]
  simp (disch := omega) only [ck_t, lt_b, bn_s, bn2_s, jn_b, nl_N, nl_S, i_m2147483648, i_m1002, i_m10, i_m9, i_m4, i_m3, i_m2, i_m1, i_0, i_1, i_2, i_3, i_4, i_5, i_6, i_7, i_8, i_9, i_12, i_15, i_16, i_32, i_40, i_45, i_48, i_55, i_59, i_60, i_63, i_64, i_78, i_81, i_83, i_110, i_115, i_255, iI_add, iI_sub, iI_mul, iI_neg, iI_lt, iI_le, iI_eq, cl_iI, vi_iI, if_pos, if_neg, ↓reduceIte, Int.toNat_natCast, (h.2 k hk).1, e1]
  cases (tkF n f (tn ts k).1 who).isSome
  · simp (disch := omega) only [b2i_f, ck_t, lt_b, bn_s, bn2_s, jn_b, nl_N, nl_S, i_m2147483648, i_m1002, i_m10, i_m9, i_m4, i_m3, i_m2, i_m1, i_0, i_1, i_2, i_3, i_4, i_5, i_6, i_7, i_8, i_9, i_12, i_15, i_16, i_32, i_40, i_45, i_48, i_55, i_59, i_60, i_63, i_64, i_78, i_81, i_83, i_110, i_115, i_255, iI_add, iI_sub, iI_mul, iI_neg, iI_lt, iI_le, iI_eq, cl_iI, vi_iI, if_pos, if_neg, ↓reduceIte]
  · simp (disch := omega) only [b2i_t, ck_t, lt_b, bn_s, bn2_s, jn_b, nl_N, nl_S, i_m2147483648, i_m1002, i_m10, i_m9, i_m4, i_m3, i_m2, i_m1, i_0, i_1, i_2, i_3, i_4, i_5, i_6, i_7, i_8, i_9, i_12, i_15, i_16, i_32, i_40, i_45, i_48, i_55, i_59, i_60, i_63, i_64, i_78, i_81, i_83, i_110, i_115, i_255, iI_add, iI_sub, iI_mul, iI_neg, iI_lt, iI_le, iI_eq, cl_iI, vi_iI, if_pos, if_neg, ↓reduceIte]
theorem tN3 (c i : Nat) : ((c : Int) * 3 + (i : Int)).toNat = 3 * c + i := by omega
theorem p_doLays_l {ts : List tT} {w n who k : Nat} (hO : OkT ts) (hk : k < ts.length) (hw : who < 2) : ∀ (d j m : Nat) (p : (Nat → List Nat) × Nat) (S : sT), TC S ts → RW S w n p.1 → j + d = (tn ts k).2.length → d < m → p.2 ≤ j → ∃ S', l_X4_doLays_16 (iI k) (iI who) w m (iI p.2) (iI j) S = some (iI ((((tn ts k).2.drop j).foldl (layF n who) p).2 : Nat), S') ∧ RW S' w n (((tn ts k).2.drop j).foldl (layF n who) p).1 ∧ FW w S S' := by
  have h1 := hO.1
  obtain ⟨t1, t2, t3, t4, t5⟩ := hO.2 _ (tn_mem hk)
  intro d
  induction d with
  | zero =>
    intro j m p S h hW hj hm hp
    obtain ⟨m, rfl⟩ : ∃ m', m = m' + 1 := ⟨m - 1, by omega⟩
    refine ⟨S, ?_, ?_, FW.rf w S⟩
    · rw [l_X4_doLays_16_s, List.drop_eq_nil_of_le (by omega)]
      unfold b_X4_doLays_16
      simp (disch := omega) only [ck_t, lt_b, bn_s, bn2_s, jn_b, nl_N, nl_S, i_m2147483648, i_m1002, i_m10, i_m9, i_m4, i_m3, i_m2, i_m1, i_0, i_1, i_2, i_3, i_4, i_5, i_6, i_7, i_8, i_9, i_12, i_15, i_16, i_32, i_40, i_45, i_48, i_55, i_59, i_60, i_63, i_64, i_78, i_81, i_83, i_110, i_115, i_255, iI_add, iI_sub, iI_mul, iI_neg, iI_lt, iI_le, iI_eq, cl_iI, vi_iI, if_pos, if_neg, ↓reduceIte, Int.toNat_natCast, (h.2 k hk).2.1]
      rfl
    · rw [List.drop_eq_nil_of_le (by omega)]; exact hW
  | succ d ih =>
    intro j m p S h hW hj hm hp
    obtain ⟨m, rfl⟩ : ∃ m', m = m' + 1 := ⟨m - 1, by omega⟩
    obtain ⟨a1, a2⟩ := (h.2 k hk).2.2 j (by omega)
    obtain ⟨c1, c2⟩ := t5 _ (sn_mem (l := (tn ts k).2) (k := j) (by omega))
    rw [drop_sn (by omega), List.foldl_cons]
    rw [l_X4_doLays_16_s]
    unfold b_X4_doLays_16 f_X7_ownerOf
    simp (disch := omega) only [ck_t, lt_b, bn_s, bn2_s, jn_b, nl_N, nl_S, i_3, iI_mul, iI_add, iI_le, vi_iI, cl_iI, if_neg, Int.toNat_natCast, (h.2 k hk).2.1, tN3, a1, a2, iI_and1]
    by_cases q : (sn (tn ts k).2 j).1 % 2 = who
    · obtain ⟨S1, e1, e2, e3⟩ := p_put hW c1 (z := ((sn (tn ts k).2 j).2 : Nat)) (by omega) (by omega)
      have eO : layO n p.1 who (sn (tn ts k).2 j) = putF n p.1 (sn (tn ts k).2 j).2 (sn (tn ts k).2 j).1 := by unfold layO; rw [if_pos q]
      rw [if_pos (by rw [q]), e1]
      have eF : layF n who p (sn (tn ts k).2 j) = ((putF n p.1 (sn (tn ts k).2 j).2 (sn (tn ts k).2 j).1).getD p.1, if (putF n p.1 (sn (tn ts k).2 j).2 (sn (tn ts k).2 j).1).isSome then p.2 + 1 else p.2) := by unfold layF; rw [eO]
      rw [eF]
      cases hs : putF n p.1 (sn (tn ts k).2 j).2 (sn (tn ts k).2 j).1 with
      | none =>
        rw [hs] at e2
        obtain ⟨S', g1, g2, g3⟩ := ih (j + 1) m p S1 (h.fw e3) e2 (by omega) (by omega) (by omega)
        refine ⟨S', ?_, g2, e3.tr g3⟩
        simp (disch := omega) only [Option.isSome_none, b2i_f, ck_t, lt_b, bn_s, bn2_s, jn_b, nl_N, nl_S, i_m2147483648, i_m1002, i_m10, i_m9, i_m4, i_m3, i_m2, i_m1, i_0, i_1, i_2, i_3, i_4, i_5, i_6, i_7, i_8, i_9, i_12, i_15, i_16, i_32, i_40, i_45, i_48, i_55, i_59, i_60, i_63, i_64, i_78, i_81, i_83, i_110, i_115, i_255, iI_add, iI_sub, iI_mul, iI_neg, iI_lt, iI_le, iI_eq, cl_iI, vi_iI, if_pos, if_neg, ↓reduceIte]
        exact g1
      | some f' =>
        rw [hs] at e2
        obtain ⟨S', g1, g2, g3⟩ := ih (j + 1) m (f', p.2 + 1) S1 (h.fw e3) e2 (by omega) (by omega) (by simp only; omega)
        refine ⟨S', ?_, g2, e3.tr g3⟩
        simp (disch := omega) only [Option.isSome_some, b2i_t, ck_t, lt_b, bn_s, bn2_s, jn_b, nl_N, nl_S, i_m2147483648, i_m1002, i_m10, i_m9, i_m4, i_m3, i_m2, i_m1, i_0, i_1, i_2, i_3, i_4, i_5, i_6, i_7, i_8, i_9, i_12, i_15, i_16, i_32, i_40, i_45, i_48, i_55, i_59, i_60, i_63, i_64, i_78, i_81, i_83, i_110, i_115, i_255, iI_add, iI_sub, iI_mul, iI_neg, iI_lt, iI_le, iI_eq, cl_iI, vi_iI, if_pos, if_neg, ↓reduceIte]
        exact g1
    · have eO : layO n p.1 who (sn (tn ts k).2 j) = none := by unfold layO; rw [if_neg q]
      have eF : layF n who p (sn (tn ts k).2 j) = p := by unfold layF; rw [eO]; rfl
      rw [eF, if_neg (by rw [iI_eq (by omega) (by omega) (by omega) (by omega)]; omega)]
      obtain ⟨S', g1, g2, g3⟩ := ih (j + 1) m p S h hW (by omega) (by omega) (by omega)
      refine ⟨S', ?_, g2, g3⟩
      rw [i_1, iI_add]
      exact g1
theorem p_doLays {S : sT} {ts : List tT} {w n who k : Nat} {f : Nat → List Nat} (h : TC S ts) (hO : OkT ts) (hk : k < ts.length) (hW : RW S w n f) (hw : who < 2) : ∃ S', f_X4_doLays (iI k) (iI who) w S = some (iI (((tn ts k).2.foldl (layF n who) (f, 0)).2 : Nat), S') ∧ RW S' w n ((tn ts k).2.foldl (layF n who) (f, 0)).1 ∧ FW w S S' := by
  obtain ⟨t1, t2, t3, t4, t5⟩ := hO.2 _ (tn_mem hk)
  obtain ⟨S', e1, e2, e3⟩ := p_doLays_l (w := w) (n := n) hO hk hw (tn ts k).2.length 0 FU (f, 0) S h hW (by omega) (by unfold FU; omega) (by simp)
  refine ⟨S', ?_, e2, e3⟩
  unfold f_X4_doLays
  rw [p_isTurn h hO hk]
  simp (disch := omega) only [ck_t, lt_b, bn_s, bn2_s, jn_b, nl_N, nl_S, i_m2147483648, i_m1002, i_m10, i_m9, i_m4, i_m3, i_m2, i_m1, i_0, i_1, i_2, i_3, i_4, i_5, i_6, i_7, i_8, i_9, i_12, i_15, i_16, i_32, i_40, i_45, i_48, i_55, i_59, i_60, i_63, i_64, i_78, i_81, i_83, i_110, i_115, i_255, iI_add, iI_sub, iI_mul, iI_neg, iI_lt, iI_le, iI_eq, cl_iI, vi_iI, if_pos, if_neg, ↓reduceIte]
  exact e1
