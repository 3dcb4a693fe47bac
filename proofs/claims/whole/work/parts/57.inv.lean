/-! what holds between two commands -/
def mo (k : Nat) : Nat := if k = 0 then 1 else if k = 2 then 9 else if k = 5 then 255 else 16
def lim (t : Nat) : Nat := if t = 0 then 63 else 59
abbrev nW (L : Nat → List Nat) : Nat := (parseW (L 0)).2.1
abbrev fW (L : Nat → List Nat) : Nat → List Nat := (parseW (L 0)).2.2
abbrev tW (L : Nat → List Nat) : List tT := (parseT (L 1)).2
def CI (S : sT) (L : Nat → List Nat) (st : Nat → Nat) : Prop := (∀ t, t < 2 → TX S t (L t) (lim t)) ∧ RR S st ∧ (∀ k, k < 6 → st k ≤ mo k) ∧ TC S (tW L) ∧ CP S st (nW L) (tW L) (fW L) ∧ S.1 100 0 0 = iI (parseW (L 0)).1 ∧ S.1 101 0 0 = iI (parseT (L 1)).1
def MI (S : sT) (L : Nat → List Nat) (st : Nat → Nat) : Prop := (∀ t, t < 2 → MT S t (L t)) ∧ MS S st ∧ S.1 119 0 0 = iI (-1)
def sq (sg : List (Nat × Nat × Nat)) (j : Nat) : Nat × Nat × Nat := sg.getD j (0, 0, 0)
def SG (S : sT) (sg : List (Nat × Nat × Nat)) : Prop := sg.length ≤ 8 ∧ S.1 110 0 0 = iI sg.length ∧ S.1 121 0 0 = iI sg.length ∧ ∀ j, j < sg.length → (S.1 22 0 j = iI (sq sg j).1 ∧ S.1 23 0 j = iI (sq sg j).2.1 ∧ S.1 24 0 j = iI (sq sg j).2.2) ∧ (S.1 46 0 (3 * j) = iI (sq sg j).1 ∧ S.1 46 0 (3 * j + 1) = iI (sq sg j).2.1 ∧ S.1 46 0 (3 * j + 2) = iI (sq sg j).2.2) ∧ (sq sg j).1 ≤ 12 ∧ (sq sg j).2.1 ≤ 7 ∧ (sq sg j).2.2 ≤ 16
def SH (S : sT) : Prop := ∀ t, t < 4 → (S.1 28 0 t = iI (-1) ∧ S.1 33 0 t = iI (-1)) ∨ ∃ fm sz : Nat, fm ≤ 2 ∧ sz ≤ 60 ∧ S.1 27 0 t = iI fm ∧ S.1 33 0 t = iI fm ∧ S.1 28 0 t = iI sz ∧ S.1 34 0 t = iI sz ∧ ∀ j, j < sz → S.1 26 t j = S.1 35 0 (60 * t + j)
def KC (k i : Nat) : Prop := (k = 11 ∨ k = 102 ∨ k = 103) ∧ i ≤ 1 ∨ (12 ≤ k ∧ k ≤ 16 ∨ k = 18 ∨ k = 19 ∨ k = 104 ∨ k = 105 ∨ k = 100 ∨ k = 101) ∧ i = 0 ∨ (29 ≤ k ∧ k ≤ 32 ∨ k = 112) ∧ i ≤ 12
def KM (k i : Nat) : Prop := (k = 37 ∨ k = 38 ∨ k = 42 ∨ k = 119) ∧ i = 0
def KG (k i : Nat) : Prop := (k = 110 ∨ k = 121 ∨ 22 ≤ k ∧ k ≤ 24 ∨ k = 46) ∧ i = 0
def KH (k i : Nat) : Prop := k = 26 ∧ i ≤ 3 ∨ (k = 27 ∨ k = 28 ∨ 33 ≤ k ∧ k ≤ 35) ∧ i = 0
def KF (k i : Nat) : Prop := (k = 111 ∨ k = 113) ∧ i = 0
theorem CI.fr {S S' : sT} {L : Nat → List Nat} {st : Nat → Nat} {P : Nat → Nat → Prop} (h : CI S L st) (hF : Fr P S S') (hP : ∀ k i, KC k i → ¬ P k i) : CI S' L st := by
  obtain ⟨h1, h2, h3, h4, ⟨h5, h6, h7⟩, h8, h9⟩ := h
  have e : ∀ k i, KC k i → S'.1 k i = S.1 k i := fun k i z => hF.1 k i (hP k i z)
  have h12 : (tW L).length ≤ 12 := (parseT_ok (L 1)).1
  refine ⟨fun t ht => (h1 t ht).kept (e _ _ (by unfold KC; omega)) (e _ _ (by unfold KC; omega)) (e _ _ (by unfold KC; omega)), fun k hk => by rw [e _ _ (by unfold KC; omega)]; exact h2 k hk, h3, h4.kept (e _ _ (by unfold KC; omega)) (e _ _ (by unfold KC; omega)) (e _ _ (by unfold KC; omega)) (e _ _ (by unfold KC; omega)) (e _ _ (by unfold KC; omega)), ⟨by rw [e _ _ (by unfold KC; omega)]; exact h5, fun j hj => (h6 j hj).kept (e _ _ (by unfold KC; omega)) (e _ _ (by unfold KC; omega)) (e _ _ (by unfold KC; omega)) (e _ _ (by unfold KC; omega)) (e _ _ (by unfold KC; omega)), fun j hj => by rw [e _ _ (by unfold KC; omega), e _ _ (by unfold KC; omega)]; exact h7 j hj⟩, by rw [e _ _ (by unfold KC; omega)]; exact h8, by rw [e _ _ (by unfold KC; omega)]; exact h9⟩
theorem MI.fr {S S' : sT} {L : Nat → List Nat} {st : Nat → Nat} {P : Nat → Nat → Prop} (h : MI S L st) (hF : Fr P S S') (hP : ∀ k i, KM k i → ¬ P k i) : MI S' L st := by
  obtain ⟨h1, h2, h3⟩ := h
  have e : ∀ k i, KM k i → S'.1 k i = S.1 k i := fun k i z => hF.1 k i (hP k i z)
  exact ⟨fun t ht => (h1 t ht).fr hF ⟨hP _ _ (by unfold KM; omega), hP _ _ (by unfold KM; omega)⟩, fun k hk => by rw [e _ _ (by unfold KM; omega)]; exact h2 k hk, by rw [e _ _ (by unfold KM; omega)]; exact h3⟩
theorem SG.fr {S S' : sT} {sg : List (Nat × Nat × Nat)} {P : Nat → Nat → Prop} (h : SG S sg) (hF : Fr P S S') (hP : ∀ k i, KG k i → ¬ P k i) : SG S' sg := by
  have e : ∀ k i, KG k i → S'.1 k i = S.1 k i := fun k i z => hF.1 k i (hP k i z)
  unfold SG
  rw [e 110 0 (by unfold KG; omega), e 121 0 (by unfold KG; omega), e 22 0 (by unfold KG; omega), e 23 0 (by unfold KG; omega), e 24 0 (by unfold KG; omega), e 46 0 (by unfold KG; omega)]
  exact h
theorem SH.fr {S S' : sT} {P : Nat → Nat → Prop} (h : SH S) (hF : Fr P S S') (hP : ∀ k i, KH k i → ¬ P k i) : SH S' := by
  have e : ∀ k i, KH k i → S'.1 k i = S.1 k i := fun k i z => hF.1 k i (hP k i z)
  intro t ht
  rw [e 27 0 (by unfold KH; omega), e 28 0 (by unfold KH; omega), e 33 0 (by unfold KH; omega), e 34 0 (by unfold KH; omega), e 35 0 (by unfold KH; omega), e 26 t (by unfold KH; omega)]
  exact h t ht
def Inv (S : sT) : Prop := ∃ L st sg, CI S L st ∧ MI S L st ∧ SG S sg ∧ SH S ∧ S.1 111 0 0 = S.1 113 0 0
/-- nothing that holds between two commands is touched -/
def Lo (P : Nat → Nat → Prop) : Prop := ∀ k i, (KC k i ∨ KM k i ∨ KG k i ∨ KH k i ∨ KF k i) → ¬ P k i
theorem Inv.fr {S S' : sT} {P : Nat → Nat → Prop} (h : Inv S) (hF : Fr P S S') (hP : Lo P) : Inv S' := by
  obtain ⟨L, st, sg, h1, h2, h3, h4, h5⟩ := h
  refine ⟨L, st, sg, h1.fr hF (fun k i z => hP k i (Or.inl z)), h2.fr hF (fun k i z => hP k i (Or.inr (Or.inl z))), h3.fr hF (fun k i z => hP k i (Or.inr (Or.inr (Or.inl z)))), h4.fr hF (fun k i z => hP k i (Or.inr (Or.inr (Or.inr (Or.inl z))))), ?_⟩
  rw [hF.1 111 0 (hP _ _ (Or.inr (Or.inr (Or.inr (Or.inr (by unfold KF; omega)))))), hF.1 113 0 (hP _ _ (Or.inr (Or.inr (Or.inr (Or.inr (by unfold KF; omega))))))]
  exact h5
theorem PR_lo : Lo PR := by
  intro k i z
  unfold KC KM KG KH KF at z
  unfold PR PB PQ
  omega
theorem p_within {z a b : Int} (S : sT) (h1 : -2147483648 ≤ z) (h2 : z < 2147483648) (h3 : -2147483648 ≤ a) (h4 : a < 2147483648) (h5 : -2147483648 ≤ b) (h6 : b < 2147483648) : f_X10_within (iI z) (iI a) (iI b) S = some (iI (b2i (decide (a ≤ z ∧ z ≤ b)))) := by
  unfold f_X10_within
  simp only [iI_lt h1 h2 h3 h4, iI_lt h5 h6 h1 h2]
  by_cases q : a ≤ z
  · rw [if_neg (by omega)]
    by_cases q2 : z ≤ b
    · rw [if_neg (by omega), b2i_p ⟨q, q2⟩]; rfl
    · rw [if_pos (by omega), b2i_n (fun y => q2 y.2)]; rfl
  · rw [if_pos (by omega), b2i_n (fun y => q y.1)]; rfl
theorem m_isTwo {z : Int} (S : sT) (h1 : -2147483648 ≤ z) (h2 : z < 2147483648) : f_X11_isTwo (iI z) S = some (iI (b2i (decide (0 ≤ z ∧ z ≤ 1)))) := by
  unfold f_X11_isTwo
  rw [iI_toL h1 h2, l_0, l_1, p_in S h1 h2 (by omega) (by omega) (by omega) (by omega), bn_s, vz_b, ck_t]
def PZ : Nat → Nat → Prop := fun k i => (29 ≤ k ∧ k ≤ 32 ∨ k = 112) ∧ i ≤ 12 ∨ 13 ≤ k ∧ k ≤ 16 ∨ k = 18 ∨ k = 19 ∨ k = 104 ∨ k = 105 ∨ k = 100 ∨ k = 101
/-- the class settles what its texts say -/
theorem p_settle {S : sT} {L : Nat → List Nat} {st : Nat → Nat} (h1 : ∀ t, t < 2 → TX S t (L t) (lim t)) (h2 : RR S st) (h3 : ∀ k, k < 6 → st k ≤ mo k) : ∃ S', f_X10_settle S = some S' ∧ CI S' L st ∧ Fr PZ S S' := by
  have es : f_X1_start S = some 0 := rfl
  have ed : decide (0 < 16) = true := rfl
  obtain ⟨S1, a1, a2, a3⟩ := p_parse (w := 0) (h1 0 (by omega))
  have F1 : Fr PZ S S1 := a3.fr (fun k z => Or.inl ⟨z, by omega⟩)
  have F2 : Fr PZ S (us S1 100 0 0 (iI (parseW (L 0)).1)) := F1.tr (Fr.us (by unfold PZ; omega))
  obtain ⟨S3, b1, b2, b3⟩ := p_tparse ((h1 1 (by omega)).fr F2 (by unfold PZ; omega))
  have F3 : Fr PZ S S3 := F2.tr (b3.mono (fun k i z => by unfold PT at z; unfold PZ; omega))
  have F4 : Fr PZ S3 (us S3 101 0 0 (iI (parseT (L 1)).1)) := Fr.us (by unfold PZ; omega)
  have hW : RW (us S3 101 0 0 (iI (parseT (L 1)).1)) 0 (nW L) (fW L) := by
    have g1 : RW S3 0 (nW L) (fW L) := by
      refine (RW.kept a2 ?_ ?_ ?_ ?_ ?_)
      all_goals (rw [b3.1 _ _ (by unfold PT; omega), us_ne (by omega)])
    refine g1.kept ?_ ?_ ?_ ?_ ?_
    all_goals (rw [us_ne (by omega)])
  have hT : TC (us S3 101 0 0 (iI (parseT (L 1)).1)) (tW L) := by
    refine b2.kept ?_ ?_ ?_ ?_ ?_
    all_goals (rw [us_ne (by omega)])
  have hR : RR (us S3 101 0 0 (iI (parseT (L 1)).1)) st := h2.fr (F3.tr F4) (by unfold PZ; omega)
  obtain ⟨S5, c1, c2, c3⟩ := p_replay (parseT_ok (L 1)) hT hR hW
  have F5 : Fr PZ S S5 := (F3.tr F4).tr (c3.mono (fun k i z => by unfold PP at z; unfold PZ; omega))
  refine ⟨S5, ?_, ⟨fun t ht => (h1 t ht).fr F5 (by unfold PZ; omega), h2.fr F5 (by unfold PZ; omega), h3, hT.fr c3 (fun k hk => by unfold PP; omega), c2, ?_, ?_⟩, F5⟩
  · unfold f_X10_settle
    rw [es, bn_s, ed, ck_t, a1, bn2_s, lt_b, b1, bn2_s, lt_b, c1, bn_s]
  · rw [c3.1 _ _ (by unfold PP; omega), us_ne (by omega), b3.1 _ _ (by unfold PT; omega), us_same]
  · rw [c3.1 _ _ (by unfold PP; omega), us_same]
