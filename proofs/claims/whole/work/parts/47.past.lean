/-! the walls behind each number of turns -/
def Fr (P : Nat → Nat → Prop) (S S' : sT) : Prop := (∀ k i, ¬ P k i → S'.1 k i = S.1 k i) ∧ S'.2 = S.2
theorem Fr.rf {P : Nat → Nat → Prop} {S : sT} : Fr P S S := ⟨fun _ _ _ => rfl, rfl⟩
theorem Fr.tr {P : Nat → Nat → Prop} {S S1 S2 : sT} (h1 : Fr P S S1) (h2 : Fr P S1 S2) : Fr P S S2 := ⟨fun k i h => (h2.1 k i h).trans (h1.1 k i h), h2.2.trans h1.2⟩
theorem Fr.mono {P P' : Nat → Nat → Prop} {S S' : sT} (h : Fr P S S') (hP : ∀ k i, P k i → P' k i) : Fr P' S S' := ⟨fun k i q => h.1 k i (fun z => q (hP k i z)), h.2⟩
theorem Fr.us {P : Nat → Nat → Prop} {S : sT} {k w b : Nat} {v : Int32} (h : P k w) : Fr P S (us S k w b v) := ⟨fun k' i h' => by
  by_cases e : k' = k
  · subst e
    exact us_ni (fun e2 => h' (by rw [e2]; exact h))
  · exact congrFun (us_ne e) i, rfl⟩
theorem FW.fr {w : Nat} {S S' : sT} {P : Nat → Nat → Prop} (h : FW w S S') (hP : ∀ k, (29 ≤ k ∧ k ≤ 32 ∨ k = 112) → P k w) : Fr P S S' := ⟨fun k i q => h.1 k i (fun z => q (by rw [z.2]; exact hP k z.1)), h.2⟩
theorem RW.fr {S S' : sT} {w n : Nat} {f : Nat → List Nat} {P : Nat → Nat → Prop} (h : RW S w n f) (hF : Fr P S S') (hw : ∀ k, (29 ≤ k ∧ k ≤ 32 ∨ k = 112) → ¬ P k w) : RW S' w n f :=
  h.kept (hF.1 _ _ (hw _ (by omega))) (hF.1 _ _ (hw _ (by omega))) (hF.1 _ _ (hw _ (by omega))) (hF.1 _ _ (hw _ (by omega))) (hF.1 _ _ (hw _ (by omega)))
theorem TC.fr {S S' : sT} {ts : List tT} {P : Nat → Nat → Prop} (h : TC S ts) (hF : Fr P S S') (hw : ∀ k, (13 ≤ k ∧ k ≤ 16 ∨ k = 104) → ¬ P k 0) : TC S' ts :=
  h.kept (hF.1 _ _ (hw _ (by omega))) (hF.1 _ _ (hw _ (by omega))) (hF.1 _ _ (hw _ (by omega))) (hF.1 _ _ (hw _ (by omega))) (hF.1 _ _ (hw _ (by omega)))
theorem RR.fr {S S' : sT} {st : Nat → Nat} {P : Nat → Nat → Prop} (h : RR S st) (hF : Fr P S S') (hw : ¬ P 12 0) : RR S' st := by
  intro k hk
  rw [hF.1 _ _ hw]
  exact h k hk
theorem RR.fw {S S' : sT} {st : Nat → Nat} {w : Nat} (h : RR S st) (hF : FW w S S') : RR S' st := by
  intro k hk
  rw [hF.1 _ _ (by omega)]
  exact h k hk
/-- a turn with or without its parts -/
def gW (n who : Nat) (dt dl : Bool) (t : tT) (f : Nat → List Nat) : Nat → List Nat :=
  if dl = true then (t.2.foldl (layF n who) ((if dt = true then (tkF n f t.1 who).getD f else f), 0)).1 else (if dt = true then (tkF n f t.1 who).getD f else f)
def whoQ (st : Nat → Nat) (odd how k : Nat) : Nat := if k = odd ∧ how = 2 then (st 0 + k + 1) % 2 else (st 0 + k) % 2
def sStep (st : Nat → Nat) (n : Nat) (ts : List tT) (odd how k : Nat) (f : Nat → List Nat) : Nat → List Nat :=
  gW n (whoQ st odd how k) (!decide (k = odd ∧ how = 0)) (!decide (k = odd ∧ how = 1)) (tn ts k) f
def sAt (st : Nat → Nat) (n : Nat) (ts : List tT) (odd how : Nat) (f0 : Nat → List Nat) : Nat → (Nat → List Nat)
  | 0 => f0
  | k + 1 => sStep st n ts odd how k (sAt st n ts odd how f0 k)
abbrev wAt (st : Nat → Nat) (n : Nat) (ts : List tT) (f0 : Nat → List Nat) (k : Nat) : Nat → List Nat := sAt st n ts 99 0 f0 k
def tookQ (st : Nat → Nat) (n : Nat) (ts : List tT) (f0 : Nat → List Nat) (k : Nat) : Bool := (tkF n (wAt st n ts f0 k) (tn ts k).1 ((st 0 + k) % 2)).isSome
def laidQ (st : Nat → Nat) (n : Nat) (ts : List tT) (f0 : Nat → List Nat) (k : Nat) : Nat := ((tn ts k).2.foldl (layF n ((st 0 + k) % 2)) ((tkF n (wAt st n ts f0 k) (tn ts k).1 ((st 0 + k) % 2)).getD (wAt st n ts f0 k), 0)).2
theorem wAt_s {st : Nat → Nat} {n : Nat} {ts : List tT} {f0 : Nat → List Nat} {k : Nat} (hk : k < 99) : wAt st n ts f0 (k + 1) = ((tn ts k).2.foldl (layF n ((st 0 + k) % 2)) ((tkF n (wAt st n ts f0 k) (tn ts k).1 ((st 0 + k) % 2)).getD (wAt st n ts f0 k), 0)).1 := by
  show sStep st n ts 99 0 k (wAt st n ts f0 k) = _
  unfold sStep gW whoQ
  have d1 : decide (k = 99 ∧ 0 = 0) = false := decide_eq_false (by omega)
  have d2 : decide (k = 99 ∧ 0 = 1) = false := decide_eq_false (by omega)
  have d3 : ¬ (k = 99 ∧ 0 = 2) := by omega
  rw [d1, d2, if_neg d3]
  rfl
/-- the past holds the walls, what each turn took and laid -/
def CPk (S : sT) (st : Nat → Nat) (n : Nat) (ts : List tT) (f0 : Nat → List Nat) (k : Nat) : Prop :=
  (∀ j, j ≤ k → RW S j n (wAt st n ts f0 j)) ∧ ∀ j, j < k → S.1 18 0 j = iI (b2i (tookQ st n ts f0 j)) ∧ S.1 19 0 j = iI (laidQ st n ts f0 j)
def CP (S : sT) (st : Nat → Nat) (n : Nat) (ts : List tT) (f0 : Nat → List Nat) : Prop := S.1 105 0 0 = iI ts.length ∧ CPk S st n ts f0 ts.length
def PP : Nat → Nat → Prop := fun k i => ((29 ≤ k ∧ k ≤ 32 ∨ k = 112) ∧ 1 ≤ i ∧ i ≤ 12) ∨ k = 18 ∨ k = 19 ∨ k = 105
theorem p_replay_l {st : Nat → Nat} {n : Nat} {ts : List tT} {f0 : Nat → List Nat} (hO : OkT ts) : ∀ (d k m : Nat) (S : sT), TC S ts → RR S st → S.1 105 0 0 = iI ts.length → CPk S st n ts f0 k → k + d = ts.length → d < m → ∃ S', l_X1_replay_15 m (iI k) S = some S' ∧ CP S' st n ts f0 ∧ Fr PP S S' := by
  have h12 := hO.1
  intro d
  induction d with
  | zero =>
    intro k m S h hR h105 hP hk hm
    obtain ⟨m, rfl⟩ : ∃ m', m = m' + 1 := ⟨m - 1, by omega⟩
    refine ⟨S, ?_, ⟨h105, by rw [← hk]; exact hP⟩, Fr.rf⟩
    rw [l_X1_replay_15_s]
    unfold b_X1_replay_15
    rw [h105]
    simp (disch := omega) only [ck_t, lt_b, bn_s, bn2_s, jn_b, nl_N, nl_S, i_m2147483648, i_m1002, i_m10, i_m9, i_m4, i_m3, i_m2, i_m1, i_0, i_1, i_2, i_3, i_4, i_5, i_6, i_7, i_8, i_9, i_12, i_15, i_16, i_32, i_40, i_45, i_48, i_55, i_59, i_60, i_63, i_64, i_78, i_81, i_83, i_110, i_115, i_255, iI_add, iI_sub, iI_mul, iI_neg, iI_lt, iI_le, iI_eq, cl_iI, vi_iI, if_pos, if_neg, ↓reduceIte]
  | succ d ih =>
    intro k m S h hR h105 hP hk hm
    obtain ⟨m, rfl⟩ : ∃ m', m = m' + 1 := ⟨m - 1, by omega⟩
    have h0 := (hR 0 (by omega)).2
    obtain ⟨S1, e1, f1, g1⟩ := p_become (w := k + 1) (hP.1 k (Nat.le_refl k)) (by omega)
    obtain ⟨S2, e2, f2, g2⟩ := p_doTake (h.fw g1) hO (k := k) (by omega) f1 (who := (st 0 + k) % 2) (by omega)
    have r2 := (h.fw g1).fw g2
    obtain ⟨S4, e4, f4, g4⟩ := p_doLays (S := us S2 18 0 k (iI (b2i (tkF n (wAt st n ts f0 k) (tn ts k).1 ((st 0 + k) % 2)).isSome))) (r2.kept (by simp (disch := omega) only [us_ne]) (by simp (disch := omega) only [us_ne]) (by simp (disch := omega) only [us_ne]) (by simp (disch := omega) only [us_ne]) (by simp (disch := omega) only [us_ne])) hO (k := k) (by omega) (w := k + 1) (f2.kept (by simp (disch := omega) only [us_ne]) (by simp (disch := omega) only [us_ne]) (by simp (disch := omega) only [us_ne]) (by simp (disch := omega) only [us_ne]) (by simp (disch := omega) only [us_ne])) (who := (st 0 + k) % 2) (by omega)
    have F1 : Fr PP S S1 := g1.fr (fun k' q => Or.inl ⟨q, by omega, by omega⟩)
    have F2 : Fr PP S S2 := F1.tr (g2.fr (fun k' q => Or.inl ⟨q, by omega, by omega⟩))
    have F3 := F2.tr (Fr.us (P := PP) (S := S2) (k := 18) (w := 0) (b := k) (v := iI (b2i (tkF n (wAt st n ts f0 k) (tn ts k).1 ((st 0 + k) % 2)).isSome)) (Or.inr (Or.inl rfl)))
    have F4 := F3.tr (g4.fr (P := PP) (fun k' q => Or.inl ⟨q, by omega, by omega⟩))
    have F5 := F4.tr (Fr.us (P := PP) (S := S4) (k := 19) (w := 0) (b := k) (v := iI (laidQ st n ts f0 k)) (Or.inr (Or.inr (Or.inl rfl))))
    have k18 : S4.1 18 0 = (us S2 18 0 k (iI (b2i (tkF n (wAt st n ts f0 k) (tn ts k).1 ((st 0 + k) % 2)).isSome))).1 18 0 := g4.1 _ _ (by omega)
    have o18 : S2.1 18 0 = S.1 18 0 := (g2.1 _ _ (by omega)).trans (g1.1 _ _ (by omega))
    have o19 : S4.1 19 0 = S.1 19 0 := (g4.1 _ _ (by omega)).trans ((congrFun (us_ne (by omega)) 0).trans ((g2.1 _ _ (by omega)).trans (g1.1 _ _ (by omega))))
    have o105 : S4.1 105 0 = S.1 105 0 := (g4.1 _ _ (by omega)).trans ((congrFun (us_ne (by omega)) 0).trans ((g2.1 _ _ (by omega)).trans (g1.1 _ _ (by omega))))
    obtain ⟨S', e5, f5, g5⟩ := ih (k + 1) m (us S4 19 0 k (iI (laidQ st n ts f0 k))) (h.fr F5 (fun k' q z => by rcases z with z | z | z | z <;> omega)) (hR.fr F5 (fun z => by rcases z with z | z | z | z <;> omega)) (by rw [us_ne (by omega), o105]; exact h105) ⟨fun j hj => by
        by_cases q : j = k + 1
        · subst q
          rw [wAt_s (by omega)]
          exact f4.kept (by simp (disch := omega) only [us_ne]) (by simp (disch := omega) only [us_ne]) (by simp (disch := omega) only [us_ne]) (by simp (disch := omega) only [us_ne]) (by simp (disch := omega) only [us_ne])
        · have r := hP.1 j (by omega)
          have r1 := (r.fw g1 q).fw g2 q
          have r3 : RW (us S2 18 0 k (iI (b2i (tkF n (wAt st n ts f0 k) (tn ts k).1 ((st 0 + k) % 2)).isSome))) j n (wAt st n ts f0 j) := r1.kept (by simp (disch := omega) only [us_ne]) (by simp (disch := omega) only [us_ne]) (by simp (disch := omega) only [us_ne]) (by simp (disch := omega) only [us_ne]) (by simp (disch := omega) only [us_ne])
          exact (r3.fw g4 q).kept (by simp (disch := omega) only [us_ne]) (by simp (disch := omega) only [us_ne]) (by simp (disch := omega) only [us_ne]) (by simp (disch := omega) only [us_ne]) (by simp (disch := omega) only [us_ne]), fun j hj => by
        by_cases q : j = k
        · subst q
          refine ⟨?_, us_same⟩
          rw [us_ne (by omega), k18, us_same]
          rfl
        · obtain ⟨t1, t2⟩ := hP.2 j (by omega)
          refine ⟨?_, ?_⟩
          · rw [us_ne (by omega), k18, us_nb q, o18]; exact t1
          · rw [us_nb q, o19]; exact t2⟩ (by omega) (by omega)
    refine ⟨S', ?_, f5, F5.tr g5⟩
    rw [l_X1_replay_15_s]
    unfold b_X1_replay_15
    rw [h105]
    have eb : f_X3_brotherOf (iI k) S1 = some (iI ((st 0 + k) % 2 : Nat)) := p_brotherOf (hR.fw g1) (by omega)
    simp (disch := omega) only [ck_t, lt_b, bn_s, bn2_s, jn_b, nl_N, nl_S, i_m2147483648, i_m1002, i_m10, i_m9, i_m4, i_m3, i_m2, i_m1, i_0, i_1, i_2, i_3, i_4, i_5, i_6, i_7, i_8, i_9, i_12, i_15, i_16, i_32, i_40, i_45, i_48, i_55, i_59, i_60, i_63, i_64, i_78, i_81, i_83, i_110, i_115, i_255, iI_add, iI_sub, iI_mul, iI_neg, iI_lt, iI_le, iI_eq, cl_iI, vi_iI, if_pos, if_neg, ↓reduceIte, Int.toNat_natCast, show ((k : Int) + 1).toNat = k + 1 by omega, e1, eb, e2, e4]
    exact e5
theorem p_replay {S : sT} {st : Nat → Nat} {n : Nat} {ts : List tT} {f0 : Nat → List Nat} (hO : OkT ts) (h : TC S ts) (hR : RR S st) (hW : RW S 0 n f0) : ∃ S', f_X1_replay S = some S' ∧ CP S' st n ts f0 ∧ Fr PP S S' := by
  have h12 := hO.1
  have F1 := Fr.us (P := PP) (S := S) (k := 105) (w := 0) (b := 0) (v := iI ts.length) (Or.inr (Or.inr (Or.inr rfl)))
  obtain ⟨S', e1, e2, e3⟩ := p_replay_l (st := st) (n := n) (f0 := f0) hO ts.length 0 FU (us S 105 0 0 (iI ts.length)) (h.fr F1 (fun k' q z => by rcases z with z | z | z | z <;> omega)) (hR.fr F1 (fun z => by rcases z with z | z | z | z <;> omega)) us_same ⟨fun j hj => by
    rw [show j = 0 by omega]
    exact hW.fr F1 (fun k' q z => by rcases z with z | z | z | z <;> omega), fun j hj => absurd hj (by omega)⟩ (by omega) (by unfold FU; omega)
  refine ⟨S', ?_, e2, F1.tr e3⟩
  unfold f_X1_replay f_X4_turnCount
  rw [h.1]
  simp (disch := omega) only [ck_t, lt_b, bn_s, bn2_s, jn_b, nl_N, nl_S, i_m2147483648, i_m1002, i_m10, i_m9, i_m4, i_m3, i_m2, i_m1, i_0, i_1, i_2, i_3, i_4, i_5, i_6, i_7, i_8, i_9, i_12, i_15, i_16, i_32, i_40, i_45, i_48, i_55, i_59, i_60, i_63, i_64, i_78, i_81, i_83, i_110, i_115, i_255, iI_add, iI_sub, iI_mul, iI_neg, iI_lt, iI_le, iI_eq, cl_iI, vi_iI, if_pos, if_neg, ↓reduceIte]
  exact e1
