/-! the reference takes by a row; both plans -/
theorem m_isColM {S : sT} {n : Nat} {f : wF} (h : RM S n f) {z : Int} (z1 : -2147483648 ≤ z) (z2 : z < 2147483648) : f_X11_isColumn (iI z) S = some (iI (b2i (decide (0 ≤ z ∧ z ≤ (n : Int) - 1)))) := by
  have h12 := h.1
  unfold f_X11_isColumn
  rw [h.2.1, l_0, i_1, iI_sub, iI_toL (z := (n : Int) - 1) (by omega) (by omega), m_in2 S z1 z2 (by omega) (by omega) (by omega) (by omega), bn_s, vz_b, ck_t]
theorem nth_le {r : List Nat} {b i : Nat} (hx : ∀ x ∈ r, x ≤ b) (hi : i < r.length) : nth r i ≤ b := by
  apply hx
  unfold nth
  rw [List.getD_eq_getElem?_getD, List.getElem?_eq_getElem hi]
  exact List.getElem_mem _
theorem m_opens_0 {r : List Nat} (hr : r.length ≤ 3) (hx : ∀ x ∈ r, x ≤ 7) (J : Int32 → sT → Option (Int32 × sT)) : ∀ (d i m : Nat) (S : sT), i + d = r.length → d < m → RQ S r → ∃ S', l_X11_opens_13 (iI r.length) J m (0 : Int32) (iI i) S = J (0 : Int32) S' ∧ Fr PL S S' := by
  intro d
  induction d with
  | zero =>
    intro i m S hi hm hq
    obtain ⟨m, rfl⟩ : ∃ m', m = m' + 1 := ⟨m - 1, by omega⟩
    refine ⟨S, ?_, Fr.rf⟩
    rw [l_X11_opens_13_s]
    unfold b_X11_opens_13
    rw [if_pos (by rw [iI_le (by omega) (by omega) (by omega) (by omega)]; omega)]
  | succ d ih =>
    intro i m S hi hm hq
    obtain ⟨m, rfl⟩ : ∃ m', m = m' + 1 := ⟨m - 1, by omega⟩
    have hxi := nth_le hx (show i < r.length by omega)
    rw [l_X11_opens_13_s]
    unfold b_X11_opens_13
    have ci : cl (iI (i : Int)) = i := by rw [cl_iI (by omega) (by omega)]; rfl
    have cx : cl (iI (nth r i : Int)) = nth r i := by rw [cl_iI (by omega) (by omega)]; rfl
    have vi3 : vi (iI (i : Int)) 3 = true := vi_iI (by omega) (by omega) (by omega)
    have vx : vi (iI (nth r i : Int)) 8 = true := vi_iI (by omega) (by omega) (by omega)
    have h45 := hq i (by omega)
    rw [if_neg (by rw [iI_le (by omega) (by omega) (by omega) (by omega)]; omega)]
    simp only [jn_b, lt_b, ↓reduceIte, vi3, ci, h45, cx, vx, ck_t]
    rw [show iI (i : Int) + (1 : Int32) = iI ((i + 1 : Nat) : Int) by rw [i_1, iI_add]; rfl]
    obtain ⟨S', g1, g2⟩ := ih (i + 1) m (us S 44 0 (nth r i) (S.1 44 0 (nth r i) - (0 : Int32))) (by omega) (by omega) (fun j hj => by rw [us_ne (by omega)]; exact hq j hj)
    exact ⟨S', g1, (Fr.us (Or.inr rfl)).tr g2⟩
theorem m_opens_l {n : Nat} {r : List Nat} (hr : r.length ≤ 3) (hx : ∀ x ∈ r, x ≤ 7) (J : Int32 → sT → Option (Int32 × sT)) : ∀ (d i m : Nat) (S : sT) (f : wF), i + d = r.length → d < m → RQ S r → RM S n f → ∃ S', l_X11_opens_13 (iI r.length) J m (1 : Int32) (iI i) S = J (iI (b2i (goF (stO n) (r.drop i) f).isSome)) S' ∧ Fr PL S S' ∧ ∀ f', goF (stO n) (r.drop i) f = some f' → RM S' n f' := by
  have z10' : ¬ (iI 1 = (0 : Int32)) := z10
  have z00 : iI 0 = (0 : Int32) := rfl
  intro d
  induction d with
  | zero =>
    intro i m S f hi hm hq hW
    obtain ⟨m, rfl⟩ : ∃ m', m = m' + 1 := ⟨m - 1, by omega⟩
    rw [List.drop_eq_nil_of_le (by omega)]
    refine ⟨S, ?_, Fr.rf, fun f' h => ?_⟩
    · rw [l_X11_opens_13_s]
      unfold b_X11_opens_13
      rw [if_pos (by rw [iI_le (by omega) (by omega) (by omega) (by omega)]; omega)]
      rfl
    · have : f = f' := Option.some.inj h
      rw [← this]; exact hW
  | succ d ih =>
    intro i m S f hi hm hq hW
    obtain ⟨m, rfl⟩ : ∃ m', m = m' + 1 := ⟨m - 1, by omega⟩
    have hn := hW.1
    have hxi := nth_le hx (show i < r.length by omega)
    rw [drop_nth (show i < r.length by omega)]
    have eg : goF (stO n) (nth r i :: r.drop (i + 1)) f = (stO n f (nth r i)).bind (goF (stO n) (r.drop (i + 1))) := rfl
    rw [eg]
    have dead : ∃ S', l_X11_opens_13 (iI r.length) J m (0 : Int32) (iI ((i + 1 : Nat) : Int)) (us S 44 0 (nth r i) (S.1 44 0 (nth r i) - (0 : Int32))) = J (0 : Int32) S' ∧ Fr PL S S' := by
      obtain ⟨S', g1, g2⟩ := m_opens_0 hr hx J d (i + 1) m (us S 44 0 (nth r i) (S.1 44 0 (nth r i) - (0 : Int32))) (by omega) (by omega) (fun j hj => by rw [us_ne (by omega)]; exact hq j hj)
      exact ⟨S', g1, (Fr.us (Or.inr rfl)).tr g2⟩
    rw [l_X11_opens_13_s]
    unfold b_X11_opens_13
    have ci : cl (iI (i : Int)) = i := by rw [cl_iI (by omega) (by omega)]; rfl
    have cx : cl (iI (nth r i : Int)) = nth r i := by rw [cl_iI (by omega) (by omega)]; rfl
    have vi3 : vi (iI (i : Int)) 3 = true := vi_iI (by omega) (by omega) (by omega)
    have vx : vi (iI (nth r i : Int)) 8 = true := vi_iI (by omega) (by omega) (by omega)
    have h45 := hq i (by omega)
    rw [if_neg (by rw [iI_le (by omega) (by omega) (by omega) (by omega)]; omega)]
    simp only [jn_b, lt_b, ↓reduceIte, if_neg z10, vi3, ci, h45, cx, vx, ck_t]
    rw [show iI (i : Int) + (1 : Int32) = iI ((i + 1 : Nat) : Int) by rw [i_1, iI_add]; rfl, m_isColM hW (by omega) (by omega), bn_s]
    by_cases q : nth r i < n
    · rw [b2i_p (by omega), if_neg z10']
      obtain ⟨a1, a2, a3, a4⟩ := hW.2.2 (nth r i) (by omega)
      have a5 := a1.1
      rcases list_nc (f (nth r i)) with hl | ⟨l0, y, hl⟩
      · rw [a3, hl, if_pos (show iI (([] : List Nat).length : Int) ≤ (0 : Int32) by decide)]
        rw [a3, hl] at dead
        obtain ⟨S', g1, g2⟩ := dead
        have es : stO n f (nth r i) = none := by unfold stO; rw [if_neg (fun z => z.2 hl)]
        rw [es]
        exact ⟨S', g1, g2, fun f' h => by cases h⟩
      · have hle : (f (nth r i)).length = l0.length + 1 := by rw [hl]; simp
        rw [if_neg (by rw [a3, i_0, iI_le (by omega) (by omega) (by omega) (by omega)]; omega), a3, hle, show iI ((l0.length + 1 : Nat) : Int) - (1 : Int32) = iI (l0.length : Int) by rw [i_1, iI_sub]; congr 1; omega]
        have es : stO n f (nth r i) = some (upf f (nth r i) l0) := by
          unfold stO
          rw [if_pos ⟨q, by rw [hl]; simp⟩, hl]
          simp
        rw [es]
        rw [hl] at a1 a4
        have hW2 : RM (us S 44 0 (nth r i) (iI (l0.length : Int))) n (upf f (nth r i) l0) := by
          refine hW.upd q a1.init.1 ?_ ?_ ?_ ?_
          · rw [us_ne (by omega)]
          · rw [us_arr]
          · intro c' j hc' hj; rw [us_ne (by omega)]
          · intro j hj
            rw [us_ne (by omega), a4 j (by simp; omega), nth_app_l hj]
        obtain ⟨S', g1, g2, g3⟩ := ih (i + 1) m (us S 44 0 (nth r i) (iI (l0.length : Int))) (upf f (nth r i) l0) (by omega) (by omega) (fun j hj => by rw [us_ne (by omega)]; exact hq j hj) hW2
        exact ⟨S', g1, (Fr.us (Or.inr rfl)).tr g2, g3⟩
    · rw [b2i_n (by omega), if_pos z00]
      obtain ⟨S', g1, g2⟩ := dead
      have es : stO n f (nth r i) = none := by unfold stO; rw [if_neg (fun z => q z.1)]
      rw [es]
      exact ⟨S', g1, g2, fun f' h => by cases h⟩
theorem m_opens {S : sT} {L : Nat → List Nat} {st : Nat → Nat} {sg : List (Nat × Nat × Nat)} {r : List Nat} {p : Nat} (hp : p ≤ 8) (h : RD S L st sg) (h9 : R9 S) (hr : r.length ≤ 3) (hx : ∀ x ∈ r, x ≤ 7) (hq : RQ S r) : ∃ S', f_X11_opens (iI r.length) (iI p) S = some (iI (b2i (gdR (stO (nW L)) (tsO st (nW L) p) r (gW' L st))), S') ∧ Fr PM S S' := by
  have hF : 1000 < FU := by unfold FU; omega
  obtain ⟨S1, a1, a2, a3, a4⟩ := h.lives h9.ho (Nat.le_refl _)
  obtain ⟨S', g1, g2, g3⟩ := m_opens_l (n := nW L) hr hx (fun (x3 : Int32) (S4 : sT) => (if x3 = (0 : Int32) then some ((0 : Int32), S4) else bn (f_X11_weakNow S4) (fun r6 => (if r6 = (0 : Int32) then bn (f_X11_pearsNow S4) (fun r8 => (if r8 < iI (p : Int) then some ((0 : Int32), S4) else some ((1 : Int32), S4))) else some ((0 : Int32), S4))))) r.length 0 FU S1 (gW' L st) (by omega) (by omega) (fun j hj => by rw [a4.1 45 0 (by unfold PM; omega)]; exact hq j hj) a2
  rw [List.drop_zero] at g1 g3
  have F : Fr PM S S' := a4.tr (PL.pm g2)
  refine ⟨S', ?_, F⟩
  unfold f_X11_opens
  rw [h.2.1.1, a1, bn_s, jn_b]
  refine Eq.trans g1 ?_
  unfold gdR
  cases hg : goF (stO (nW L)) r (gW' L st) with
  | none =>
    rw [if_pos (show iI (b2i (none : Option wF).isSome) = (0 : Int32) from rfl)]
    rfl
  | some f' =>
    have hn := (g3 f' hg).1
    have hpl := pears_le st (nW L) f'
    have hM : MS S' st := ((h.fr (Fr1.mono F.1 PM_px)).2.2.1)
    rw [if_neg (show ¬ (iI (b2i (some f' : Option wF).isSome) = (0 : Int32)) from z10), m_weakNow (g3 f' hg) hM, bn_s, m_pearsNow (g3 f' hg) hM, bn_s]
    show _ = some (iI (b2i (tsO st (nW L) p f')), S')
    unfold tsO
    by_cases q : stB st (nW L) f' = true
    · rw [if_pos ((stB_0 hn).mpr q), q, Bool.and_true]
      by_cases q2 : p ≤ pears st (nW L) f'
      · rw [if_neg (by rw [iI_lt (by omega) (by omega) (by omega) (by omega)]; omega), decide_eq_true q2]; rfl
      · rw [if_pos (by rw [iI_lt (by omega) (by omega) (by omega) (by omega)]; omega), decide_eq_false q2]; rfl
    · rw [if_neg (fun z => q ((stB_0 hn).mp z))]
      have : stB st (nW L) f' = false := by simpa using q
      rw [this, Bool.and_false]; rfl
/-- all rows of one length, one behind the other -/
theorem m_plan_l {L : Nat → List Nat} {st : Nat → Nat} {sg : List (Nat × Nat × Nat)} {a1 : Int32} {M1 N : Nat} {good : List Nat → Bool} {E : Int32 → sT → Option (Int32 × sT)} {j16 : sT → Option (Int32 × sT)} (hM : M1 ≤ 15) (hN : N ≤ 3) {CK : Int32 → sT → Option (Int32 × sT)} (hCK : ∀ (S : sT) (r : List Nat), RD S L st sg → R9 S → r.length ≤ 3 → (∀ x ∈ r, x ≤ M1) → RQ S r → ∃ S', CK (iI r.length) S = some (iI (b2i (good r)), S') ∧ Fr PM S S') (hb : ∀ (x17 : Int32) (S : sT) (k : Int32 → sT → Option (Int32 × sT)), b_X11_planOf_33 a1 E E (iI N) j16 x17 S k = if x17 = (0 : Int32) then j16 S else bn2 (CK (iI N) S) (fun r S' => if r = (0 : Int32) then bn2 (f_X11_goesOn (iI N) (iI M1) S') (fun r23 S24 => k r23 S24) else E (iI N) S')) : ∀ (t : List (List Nat)) (r : List Nat) (m : Nat) (S : sT), Ch M1 (r :: t) → (∀ q ∈ r :: t, q.length = N ∧ ∀ x ∈ q, x < M1 + 1) → RD S L st sg → R9 S → RQ S r → t.length + 2 < m → (∃ r' S', (r :: t).find? good = some r' ∧ l_X11_planOf_33 a1 E E (iI N) j16 m (1 : Int32) S = E (iI N) S' ∧ RQ S' r' ∧ Fr1 PX S S' ∧ R9 S') ∨ ((r :: t).find? good = none ∧ ∃ S', l_X11_planOf_33 a1 E E (iI N) j16 m (1 : Int32) S = j16 S' ∧ Fr1 PX S S' ∧ R9 S') := by
  intro t
  induction t with
  | nil =>
    intro r m S hc hl hD h9 hq hm
    obtain ⟨m, rfl⟩ : ∃ m', m = m' + 1 + 1 := ⟨m - 2, by simp at hm; omega⟩
    obtain ⟨l1, l2⟩ := hl r (List.mem_cons_self)
    obtain ⟨S1, e1, F1⟩ := hCK S r hD h9 (by omega) (fun x hx => by have := l2 x hx; omega) hq
    have hq1 : RQ S1 r := fun i hi => by rw [F1.1 45 0 (by unfold PM; omega)]; exact hq i hi
    have k9 : R9 S1 := by unfold R9; rw [F1.1 119 0 (by unfold PM; omega)]; exact h9
    have FX : Fr1 PX S S1 := Fr1.mono F1.1 PM_px
    rw [l1] at e1
    rw [l_X11_planOf_33_s, hb, if_neg z10, e1, bn2_s, List.find?_cons]
    cases hg : good r with
    | true =>
      rw [if_neg (show ¬ (iI (b2i true) = (0 : Int32)) from z10)]
      exact Or.inl ⟨r, S1, rfl, rfl, hq1, FX, k9⟩
    | false =>
      rw [if_pos (show iI (b2i false) = (0 : Int32) from rfl)]
      refine Or.inr ⟨rfl, S1, ?_, FX, k9⟩
      unfold Ch at hc
      have hnx : nxR M1 r = none := hc.1
      rcases m_goesOn (M1 := M1) (r := r) (by omega) (fun x hx => by have := l2 x hx; omega) hM hq1 with ⟨g1, g2⟩ | ⟨r', S2, g1, g2, g3, g4⟩
      · rw [l1] at g2
        rw [g2, bn2_s, l_X11_planOf_33_s, hb, if_pos rfl]
      · rw [hnx] at g1; cases g1
  | cons b t ih =>
    intro r m S hc hl hD h9 hq hm
    obtain ⟨m, rfl⟩ : ∃ m', m = m' + 1 := ⟨m - 1, by omega⟩
    obtain ⟨l1, l2⟩ := hl r (List.mem_cons_self)
    obtain ⟨S1, e1, F1⟩ := hCK S r hD h9 (by omega) (fun x hx => by have := l2 x hx; omega) hq
    have hq1 : RQ S1 r := fun i hi => by rw [F1.1 45 0 (by unfold PM; omega)]; exact hq i hi
    have k9 : R9 S1 := by unfold R9; rw [F1.1 119 0 (by unfold PM; omega)]; exact h9
    have FX : Fr1 PX S S1 := Fr1.mono F1.1 PM_px
    rw [l1] at e1
    rw [l_X11_planOf_33_s, hb, if_neg z10, e1, bn2_s, List.find?_cons]
    cases hg : good r with
    | true =>
      rw [if_neg (show ¬ (iI (b2i true) = (0 : Int32)) from z10)]
      exact Or.inl ⟨r, S1, rfl, rfl, hq1, FX, k9⟩
    | false =>
      rw [if_pos (show iI (b2i false) = (0 : Int32) from rfl)]
      unfold Ch at hc
      have hnx : nxR M1 r = some b := hc.1
      rcases m_goesOn (M1 := M1) (r := r) (by omega) (fun x hx => by have := l2 x hx; omega) hM hq1 with ⟨g1, g2⟩ | ⟨r', S2, g1, g2, g3, g4⟩
      · rw [hnx] at g1; cases g1
      · rw [hnx] at g1
        have hr' : r' = b := (Option.some.inj g1).symm
        subst hr'
        rw [l1] at g2
        have F2 : Fr1 PX S S2 := FX.tr (Fr1.mono g4.1 (fun k i z => by unfold P45 at z; unfold PX; omega))
        have k92 : R9 S2 := by unfold R9; rw [g4.1 119 0 (by unfold P45; omega)]; exact k9
        rw [g2, bn2_s]
        rcases ih r' m S2 hc.2 (fun q hq => hl q (List.mem_cons_of_mem _ hq)) (hD.fr F2) k92 g3 (by simp at hm; omega) with ⟨r'', S', d1, d2, d3, d4, d5⟩ | ⟨d1, S', d2, d3, d4⟩
        · exact Or.inl ⟨r'', S', d1, d2, d3, F2.tr d4, d5⟩
        · exact Or.inr ⟨d1, S', d2, F2.tr d3, d4⟩
theorem m_plan_0 (J : sT → Option (Int32 × sT)) : ∀ (d k m : Nat) (S : sT), k + d = 3 → d < m → ∃ S', l_X11_planOf_13 J m (iI k) S = J S' ∧ Fr P45 S S' ∧ ∀ j, j < 3 → S'.1 45 0 j = if k ≤ j then iI 0 else S.1 45 0 j := by
  intro d
  induction d with
  | zero =>
    intro k m S hk hm
    obtain ⟨m, rfl⟩ : ∃ m', m = m' + 1 := ⟨m - 1, by omega⟩
    refine ⟨S, ?_, Fr.rf, fun j hj => by rw [if_neg (by omega)]⟩
    rw [l_X11_planOf_13_s]
    unfold b_X11_planOf_13
    rw [if_pos (by rw [i_3, iI_le (by omega) (by omega) (by omega) (by omega)]; omega)]
  | succ d ih =>
    intro k m S hk hm
    obtain ⟨m, rfl⟩ : ∃ m', m = m' + 1 := ⟨m - 1, by omega⟩
    obtain ⟨S', a1, a2, a3⟩ := ih (k + 1) m (us S 45 0 k (0 : Int32)) (by omega) (by omega)
    refine ⟨S', ?_, (Fr.us ⟨rfl, rfl⟩).tr a2, fun j hj => ?_⟩
    · rw [l_X11_planOf_13_s]
      unfold b_X11_planOf_13
      rw [if_neg (by rw [i_3, iI_le (by omega) (by omega) (by omega) (by omega)]; omega), vi_iI (by omega) (by omega) (by omega), ck_t, cl_iI (by omega) (by omega), Int.toNat_natCast, lt_b, lt_b, show iI (k : Int) + (1 : Int32) = iI ((k + 1 : Nat) : Int) by rw [i_1, iI_add]; rfl]
      exact a1
    · rw [a3 j hj]
      by_cases q : j = k
      · subst q
        rw [if_neg (by omega), if_pos (by omega), us_same]; rfl
      · by_cases q2 : k + 1 ≤ j
        · rw [if_pos q2, if_pos (by omega)]
        · rw [if_neg q2, if_neg (by omega), us_nb q]
theorem m_planOf {L : Nat → List Nat} {st : Nat → Nat} {sg : List (Nat × Nat × Nat)} {a1 : Int32} {M1 : Nat} {step : wF → Nat → Option wF} {test : wF → Bool} (hM : M1 ≤ 15) (hlen : ∀ N, N ≤ 3 → (en (M1 + 1) N 0).length ≤ 1000) {CK : Int32 → sT → Option (Int32 × sT)} (hCK : ∀ (S : sT) (r : List Nat), RD S L st sg → R9 S → r.length ≤ 3 → (∀ x ∈ r, x ≤ M1) → RQ S r → ∃ S', CK (iI r.length) S = some (iI (b2i (gdR step test r (gW' L st))), S') ∧ Fr PM S S') (hb : ∀ (E : Int32 → sT → Option (Int32 × sT)) (j16 : sT → Option (Int32 × sT)) (x10 x17 : Int32) (S : sT) (k : Int32 → sT → Option (Int32 × sT)), b_X11_planOf_33 a1 E E x10 j16 x17 S k = if x17 = (0 : Int32) then j16 S else bn2 (CK x10 S) (fun r S' => if r = (0 : Int32) then bn2 (f_X11_goesOn x10 (iI M1) S') (fun r23 S24 => k r23 S24) else E x10 S')) {S : sT} {i : Int} (hD : RD S L st sg) (h9 : R9 S) (i1 : -1 ≤ i) (i2 : i ≤ 2) : ∃ S', f_X11_planOf a1 (iI i) S = some (plA (plF (fun N => sr step test (M1 + 1) N 0 (gW' L st)) 4 0) i, S') ∧ Fr1 PX S S' ∧ R9 S' := by
  have hF : 10000 < FU := by unfold FU; omega
  have hE : ∀ (N : Nat) (r : List Nat) (S : sT), r.length = N → N ≤ 3 → RQ S r → (if iI i = (-1 : Int32) then some (iI (N : Int), S) else (if iI (N : Int) ≤ iI i then some ((-1 : Int32), S) else ck (vi (iI i) 3) (some (S.1 45 0 (cl (iI i)), S)))) = some (plA (some r) i, S) := by
    intro N r S hr hN hq
    unfold plA
    by_cases q : i = -1
    · rw [if_pos (by rw [q]; rfl)]
      simp only
      rw [if_pos q, hr]
    · obtain ⟨j, rfl⟩ : ∃ t : Nat, i = t := ⟨i.toNat, by omega⟩
      simp only
      rw [if_neg (by rw [i_m1, iI_eq (by omega) (by omega) (by omega) (by omega)]; omega), if_neg q]
      by_cases q2 : j < N
      · rw [if_neg (by rw [iI_le (by omega) (by omega) (by omega) (by omega)]; omega), vi_iI (by omega) (by omega) (by omega), ck_t, cl_iI (by omega) (by omega), Int.toNat_natCast, hq j (by omega), if_pos (by omega)]
      · rw [if_pos (by rw [iI_le (by omega) (by omega) (by omega) (by omega)]; omega), if_neg (by omega)]
        rfl
  unfold f_X11_planOf
  rw [jn_b, jn_b]
  generalize hEE : (fun (x1 : Int32) (S2 : sT) => (if iI i = (-1 : Int32) then some (x1, S2) else (if x1 ≤ iI i then some ((-1 : Int32), S2) else ck (vi (iI i) 3) (some (S2.1 45 0 (cl (iI i)), S2))))) = E
  have hE' : ∀ (N : Nat) (r : List Nat) (S : sT), r.length = N → N ≤ 3 → RQ S r → E (iI N) S = some (plA (some r) i, S) := by
    intro N r S a b c
    rw [← hEE]
    exact hE N r S a b c
  show ∃ S', l_X11_planOf_2 a1 E E FU (0 : Int32) S = _ ∧ _
  have main : ∀ (d N m : Nat) (S : sT), N + d = 4 → d < m → RD S L st sg → R9 S → ∃ S', l_X11_planOf_2 a1 E E m (iI N) S = some (plA (plF (fun N => sr step test (M1 + 1) N 0 (gW' L st)) d N) i, S') ∧ Fr1 PX S S' ∧ R9 S' := by
    intro d
    induction d with
    | zero =>
      intro N m S hN hm hD h9
      obtain ⟨m, rfl⟩ : ∃ m', m = m' + 1 := ⟨m - 1, by omega⟩
      refine ⟨S, ?_, Fr1.rf, h9⟩
      rw [l_X11_planOf_2_s]
      unfold b_X11_planOf_2
      rw [if_pos (by rw [i_4, iI_le (by omega) (by omega) (by omega) (by omega)]; omega)]
      rfl
    | succ d ih =>
      intro N m S hN hm hD h9
      obtain ⟨m, rfl⟩ : ∃ m', m = m' + 1 := ⟨m - 1, by omega⟩
      rw [l_X11_planOf_2_s]
      unfold b_X11_planOf_2
      rw [if_neg (by rw [i_4, iI_le (by omega) (by omega) (by omega) (by omega)]; omega), jn_b, show (0 : Int32) = iI ((0 : Nat) : Int) from rfl]
      obtain ⟨S1, e1, e2, e3⟩ := m_plan_0 (fun (S13 : sT) => jn (fun (S14 : sT) => lt (iI (N : Int) + (1 : Int32)) (fun x15 => l_X11_planOf_2 a1 E E m x15 S14)) (fun j16 => l_X11_planOf_33 a1 E E (iI N) j16 FU (1 : Int32) S13)) 3 0 FU S (by omega) (by omega)
      rw [e1]; (try dsimp only); rw [jn_b]
      have F1 : Fr1 PX S S1 := Fr1.mono e2.1 (fun k i z => by unfold P45 at z; unfold PX; omega)
      have k9 : R9 S1 := by unfold R9; rw [e2.1 119 0 (by unfold P45; omega)]; exact h9
      obtain ⟨⟨t, et⟩, hc⟩ := ch_en M1 N 0 (by omega)
      have hq : RQ S1 (List.replicate N 0) := by
        intro j hj
        rw [List.length_replicate] at hj
        rw [e3 j (by omega), if_pos (by omega)]
        congr 1
        unfold nth
        rw [List.getD_eq_getElem?_getD, List.getElem?_replicate, if_pos hj]
        rfl
      have hl := hlen N (by omega)
      have hin := en_len (M1 + 1) N 0
      have hs : sr step test (M1 + 1) N 0 (gW' L st) = (en (M1 + 1) N 0).find? (fun l => gdR step test l (gW' L st)) := sr_en _ _ _ _ _ _
      rw [et] at hc hl hin hs
      rcases m_plan_l (E := E) (j16 := fun (S14 : sT) => lt (iI (N : Int) + (1 : Int32)) (fun x15 => l_X11_planOf_2 a1 E E m x15 S14)) (good := fun l => gdR step test l (gW' L st)) hM (show N ≤ 3 by omega) hCK (hb E _ (iI N)) t (List.replicate N 0) FU S1 hc hin (hD.fr F1) k9 hq (by simp at hl; omega) with ⟨r', S2, d1, d2, d3, d4, d5⟩ | ⟨d1, S2, d2, d3, d4⟩
      · have hr := (hin r' (List.mem_of_find?_eq_some d1)).1
        refine ⟨S2, ?_, F1.tr d4, d5⟩
        rw [d2, hE' N r' S2 hr (by omega) d3]
        have ep : plF (fun N => sr step test (M1 + 1) N 0 (gW' L st)) (d + 1) N = some r' := by
          first | exact plF_y (hs.trans d1) | exact plF_n (hs.trans d1)
        rw [ep]
      · rw [d2]; (try dsimp only); rw [lt_b, show iI (N : Int) + (1 : Int32) = iI ((N + 1 : Nat) : Int) by rw [i_1, iI_add]; rfl]
        obtain ⟨S', g1, g2, g3⟩ := ih (N + 1) m S2 (by omega) (by omega) (hD.fr (F1.tr d3)) d4
        refine ⟨S', ?_, (F1.tr d3).tr g2, g3⟩
        rw [g1]
        have ep : plF (fun N => sr step test (M1 + 1) N 0 (gW' L st)) (d + 1) N = plF (fun N => sr step test (M1 + 1) N 0 (gW' L st)) d (N + 1) := by
          first | exact plF_y (hs.trans d1) | exact plF_n (hs.trans d1)
        rw [ep]
  rw [show (0 : Int32) = iI ((0 : Nat) : Int) from rfl]
  exact main 4 0 FU S (by omega) (by omega) hD h9
theorem mD_mend {S : sT} {L : Nat → List Nat} {st : Nat → Nat} {sg : List (Nat × Nat × Nat)} {i : Int} (hD : RD S L st sg) (h9 : R9 S) (i1 : -1 ≤ i) (i2 : i ≤ 2) : ∃ S', f_X11_planOf (-1 : Int32) (iI i) S = some (plA (mdF st (nW L) (gW' L st)) i, S') ∧ Fr1 PX S S' ∧ R9 S' := by
  refine m_planOf (M1 := 15) (CK := fun x S => f_X11_mends x S) (by omega) (fun N hN => ?_) (fun S r a b c d e => m_mends a b c d e) (fun E j16 x10 x17 S k => ?_) hD h9 i1 i2
  · rcases (show N = 0 ∨ N = 1 ∨ N = 2 ∨ N = 3 by omega) with rfl | rfl | rfl | rfl
    · exact en_16.1
    · exact en_16.2.1
    · exact en_16.2.2.1
    · exact en_16.2.2.2
  · unfold b_X11_planOf_33
    simp only [jn_b, if_pos (show (-1 : Int32) = (-1 : Int32) from rfl)]
    rfl
theorem mD_open {S : sT} {L : Nat → List Nat} {st : Nat → Nat} {sg : List (Nat × Nat × Nat)} {p : Nat} {i : Int} (hp : p ≤ 8) (hD : RD S L st sg) (h9 : R9 S) (i1 : -1 ≤ i) (i2 : i ≤ 2) : ∃ S', f_X11_planOf (iI p) (iI i) S = some (plA (opF st (nW L) p (gW' L st)) i, S') ∧ Fr1 PX S S' ∧ R9 S' := by
  refine m_planOf (M1 := 7) (CK := fun x S => f_X11_opens x (iI p) S) (by omega) (fun N hN => ?_) (fun S r a b c d e => m_opens hp a b c d e) (fun E j16 x10 x17 S k => ?_) hD h9 i1 i2
  · rcases (show N = 0 ∨ N = 1 ∨ N = 2 ∨ N = 3 by omega) with rfl | rfl | rfl | rfl
    · exact en_8.1
    · exact en_8.2.1
    · exact en_8.2.2.1
    · exact en_8.2.2.2
  · have hne : ¬ (iI (p : Int) = (-1 : Int32)) := by rw [i_m1, iI_eq (by omega) (by omega) (by omega) (by omega)]; omega
    unfold b_X11_planOf_33
    simp only [jn_b, if_neg hne]
    rfl
theorem T_12 : St_12 Inv := by
  intro S hI v1
  obtain ⟨i, i1, i2, rfl⟩ := iI_ex v1
  have z10' : ¬ (iI 1 = (0 : Int32)) := z10
  have z00 : iI 0 = (0 : Int32) := rfl
  have lm1 : (-1 : Int64) = lI (-1) := by decide
  obtain ⟨L, st, sg, h1, hB, hG, hk⟩ := opened2 hI
  have eM : ∀ S2 : sT, f_X11_in (iI i).toInt64 (-1 : Int64) (2 : Int64) S2 = some (iI (b2i (decide (-1 ≤ i ∧ i ≤ 2)))) := fun S2 => by rw [lm1, l_2, m_in2 _ i1 i2 (by omega) (by omega) (by omega) (by omega)]
  by_cases q : -1 ≤ i ∧ i ≤ 2
  · obtain ⟨S1, e1, F1⟩ := cD_mend (i := i) h1 q.1 q.2
    obtain ⟨hI1, S2, r1, hI2, hD, h9, hE⟩ := hk S1 F1
    obtain ⟨S3, g1, g2, g3⟩ := mD_mend (i := i) hD h9 q.1 q.2
    refine ⟨_, S1, S3, e1, ?_, hE S3 g2 g3⟩
    unfold f_X11_mend
    rw [r1, bn_s, eM, bn_s, b2i_p q, if_neg z10', g1, bn2_s]
  · obtain ⟨hI1, S2, r1, hI2, hD, h9, hE⟩ := hk S Fr1.rf
    refine ⟨(-2 : Int32), S, S2, ?_, ?_, hI2⟩
    · unfold f_X10_mend
      rw [p_wi12 S i1 i2, bn_s, b2i_n q, if_pos z00]
    · unfold f_X11_mend
      rw [r1, bn_s, eM, bn_s, b2i_n q, if_pos z00]
theorem T_13 : St_13 Inv := by
  intro S hI v1 v2
  obtain ⟨p, p1, p2, rfl⟩ := iI_ex v1
  obtain ⟨i, i1, i2, rfl⟩ := iI_ex v2
  have z10' : ¬ (iI 1 = (0 : Int32)) := z10
  have z00 : iI 0 = (0 : Int32) := rfl
  have lm1 : (-1 : Int64) = lI (-1) := by decide
  have l8 : (8 : Int64) = lI 8 := by decide
  obtain ⟨L, st, sg, h1, hB, hG, hk⟩ := opened2 hI
  have eM : ∀ S2 : sT, f_X11_in (iI i).toInt64 (-1 : Int64) (2 : Int64) S2 = some (iI (b2i (decide (-1 ≤ i ∧ i ≤ 2)))) := fun S2 => by rw [lm1, l_2, m_in2 _ i1 i2 (by omega) (by omega) (by omega) (by omega)]
  have eP : ∀ S2 : sT, f_X11_in (iI p).toInt64 (0 : Int64) (8 : Int64) S2 = some (iI (b2i (decide (0 ≤ p ∧ p ≤ 8)))) := fun S2 => by rw [l_0, l8, m_in2 _ p1 p2 (by omega) (by omega) (by omega) (by omega)]
  by_cases q0 : 0 ≤ p ∧ p ≤ 8
  · obtain ⟨p, rfl⟩ : ∃ t : Nat, p = t := ⟨p.toNat, by omega⟩
    by_cases q : -1 ≤ i ∧ i ≤ 2
    · obtain ⟨S1, e1, F1⟩ := cD_open (p := p) (i := i) h1 (by omega) q.1 q.2
      obtain ⟨hI1, S2, r1, hI2, hD, h9, hE⟩ := hk S1 F1
      obtain ⟨S3, g1, g2, g3⟩ := mD_open (p := p) (i := i) (by omega) hD h9 q.1 q.2
      refine ⟨_, S1, S3, e1, ?_, hE S3 g2 g3⟩
      unfold f_X11_open
      rw [r1, bn_s, eP, bn_s, b2i_p q0, if_neg z10', eM, bn_s, b2i_p q, if_neg z10', g1, bn2_s]
    · obtain ⟨hI1, S2, r1, hI2, hD, h9, hE⟩ := hk S Fr1.rf
      refine ⟨(-2 : Int32), S, S2, ?_, ?_, hI2⟩
      · unfold f_X10_open
        rw [show f_X10_within (iI (p : Int)) (0 : Int32) (8 : Int32) S = _ from p_within (a := 0) (b := 8) S p1 p2 (by omega) (by omega) (by omega) (by omega), bn_s, b2i_p q0, if_neg z10', p_wi12 S i1 i2, bn_s, b2i_n q, if_pos z00]
      · unfold f_X11_open
        rw [r1, bn_s, eP, bn_s, b2i_p q0, if_neg z10', eM, bn_s, b2i_n q, if_pos z00]
  · obtain ⟨hI1, S2, r1, hI2, hD, h9, hE⟩ := hk S Fr1.rf
    refine ⟨(-2 : Int32), S, S2, ?_, ?_, hI2⟩
    · unfold f_X10_open
      rw [show f_X10_within (iI p) (0 : Int32) (8 : Int32) S = _ from p_within (a := 0) (b := 8) S p1 p2 (by omega) (by omega) (by omega) (by omega), bn_s, b2i_n q0, if_pos z00]
    · unfold f_X11_open
      rw [r1, bn_s, eP, bn_s, b2i_n q0, if_pos z00]
