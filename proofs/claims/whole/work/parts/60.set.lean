/-! settings -/
def updS (st : Nat → Nat) (k v : Nat) : Nat → Nat := fun j => if j = k then v else st j
theorem updS_s {st : Nat → Nat} {k v : Nat} : updS st k v k = v := if_pos rfl
theorem updS_n {st : Nat → Nat} {k v j : Nat} (h : j ≠ k) : updS st k v j = st j := if_neg h
theorem sAt_c {st st' : Nat → Nat} (h : st 0 = st' 0) (n : Nat) (ts : List tT) (odd how : Nat) (f0 : Nat → List Nat) : ∀ k, sAt st n ts odd how f0 k = sAt st' n ts odd how f0 k := by
  intro k
  induction k with
  | zero => rfl
  | succ k ih =>
    show sStep st n ts odd how k (sAt st n ts odd how f0 k) = sStep st' n ts odd how k (sAt st' n ts odd how f0 k)
    rw [ih]
    unfold sStep whoQ
    rw [h]
theorem CP.cst {S : sT} {st st' : Nat → Nat} {n : Nat} {ts : List tT} {f0 : Nat → List Nat} (h : CP S st n ts f0) (e : st 0 = st' 0) : CP S st' n ts f0 := by
  obtain ⟨h1, h2, h3⟩ := h
  refine ⟨h1, fun j hj => ?_, fun j hj => ?_⟩
  · have := h2 j hj
    unfold wAt at this ⊢
    rw [← sAt_c e]
    exact this
  · have := h3 j hj
    unfold tookQ laidQ wAt at this ⊢
    rw [← sAt_c e, ← e]
    exact this
theorem mostV_mo {k : Nat} (hk : k < 6) : mostV k = iI (mo k) := by
  rcases (show k = 0 ∨ k = 1 ∨ k = 2 ∨ k = 3 ∨ k = 4 ∨ k = 5 by omega) with rfl | rfl | rfl | rfl | rfl | rfl <;> rfl
theorem m_mostOf {k : Nat} (hk : k < 6) (S : sT) : f_X11_mostOf (iI k) S = some (iI (mo k)) := by
  rcases (show k = 0 ∨ k = 1 ∨ k = 2 ∨ k = 3 ∨ k = 4 ∨ k = 5 by omega) with rfl | rfl | rfl | rfl | rfl | rfl <;> rfl
theorem mo_b (k : Nat) : mo k ≤ 255 := by unfold mo; split; omega; split; omega; split <;> omega
theorem p_allows_in {k : Nat} {y : Int} (S : sT) (hk : k < 6) (y1 : -2147483648 ≤ y) (y2 : y < 2147483648) : f_X3_allows (iI k) (iI y) S = some (iI (b2i (decide (0 ≤ y ∧ y ≤ mo k)))) := by
  unfold f_X3_allows
  have hb := mo_b k
  rw [if_neg (by rw [i_0, iI_lt (by omega) (by omega) (by omega) (by omega)]; omega), if_neg (by rw [i_6, iI_le (by omega) (by omega) (by omega) (by omega)]; omega)]
  by_cases q3 : 0 ≤ y
  · rw [if_neg (by rw [i_0, iI_lt (by omega) (by omega) (by omega) (by omega)]; omega), vi_iI (by omega) (by omega) (by omega), ck_t, cl_iI (by omega) (by omega), Int.toNat_natCast, mostV_mo hk]
    by_cases q4 : y ≤ mo k
    · rw [if_neg (by rw [iI_lt (by omega) (by omega) (by omega) (by omega)]; omega), b2i_p ⟨q3, q4⟩]; rfl
    · rw [if_pos (by rw [iI_lt (by omega) (by omega) (by omega) (by omega)]; omega), b2i_n (fun w => q4 w.2)]; rfl
  · rw [if_pos (by rw [i_0, iI_lt (by omega) (by omega) (by omega) (by omega)]; omega), b2i_n (fun w => q3 w.1)]; rfl
theorem p_allows_out {z : Int} {y : Int32} (S : sT) (z1 : -2147483648 ≤ z) (z2 : z < 2147483648) (h : ¬ (0 ≤ z ∧ z ≤ 5)) : f_X3_allows (iI z) y S = some (iI 0) := by
  unfold f_X3_allows
  by_cases q1 : 0 ≤ z
  · rw [if_neg (by rw [i_0, iI_lt (by omega) (by omega) (by omega) (by omega)]; omega), if_pos (by rw [i_6, iI_le (by omega) (by omega) (by omega) (by omega)]; omega)]; rfl
  · rw [if_pos (by rw [i_0, iI_lt (by omega) (by omega) (by omega) (by omega)]; omega)]; rfl
theorem set_end {S S2 S3 : sT} {L : Nat → List Nat} {st : Nat → Nat} {sg : List (Nat × Nat × Nat)} {k v : Nat} {P : Nat → Nat → Prop} (hk : k < 6) (hv : v ≤ mo k) (h1 : CI S L st) (h2 : MI S L st) (h3 : SG S sg) (h4 : SH S) (h5 : S.1 111 0 0 = S.1 113 0 0) (hP : ∀ k i, P k i → k = 12 ∨ ((29 ≤ k ∧ k ≤ 32 ∨ k = 112) ∧ 1 ≤ i ∧ i ≤ 12) ∨ k = 18 ∨ k = 19 ∨ k = 105) (F1 : Fr P S S2) (hR : RR S2 (updS st k v)) (hC : CP S2 (updS st k v) (nW L) (tW L) (fW L)) (e : S3 = us S2 42 0 k (iI v)) : Inv S3 := by
  have hb := mo_b k
  have F2 : Fr (fun k i => k = 42 ∧ i = 0) S2 S3 := by rw [e]; exact Fr.us ⟨rfl, rfl⟩
  have g2 := h2.fr F1 (fun k i z w => by have := hP k i w; unfold KM at z; omega)
  refine ⟨L, updS st k v, sg, CI.fr ⟨fun t ht => (h1.1 t ht).fr F1 ⟨fun w => by have := hP _ _ w; omega, fun w => by have := hP _ _ w; omega, fun w => by have := hP _ _ w; omega⟩, hR, fun j hj => ?_, h1.2.2.2.1.fr F1 (fun k hk w => by have := hP _ _ w; omega), hC, ?_, ?_⟩ F2 (fun k i z => by unfold KC at z; omega), ⟨fun t ht => (g2.1 t ht).fr F2 (by omega), fun j hj => ?_, ?_⟩, (h3.fr F1 (fun k i z w => by have := hP k i w; unfold KG at z; omega)).fr F2 (fun k i z => by unfold KG at z; omega), (h4.fr F1 (fun k i z w => by have := hP k i w; unfold KH at z; omega)).fr F2 (fun k i z => by unfold KH at z; omega), ?_⟩
  · by_cases q : j = k
    · subst q; rw [updS_s]; exact hv
    · rw [updS_n q]; exact h1.2.2.1 j hj
  · rw [F1.1 _ _ (fun w => by have := hP _ _ w; omega)]; exact h1.2.2.2.2.2.1
  · rw [F1.1 _ _ (fun w => by have := hP _ _ w; omega)]; exact h1.2.2.2.2.2.2
  · rw [e]
    by_cases q : j = k
    · subst q; rw [updS_s, us_same]; exact ⟨rfl, by omega⟩
    · rw [updS_n q, us_nb q]; exact g2.2.1 j hj
  · rw [F2.1 _ _ (by omega)]; exact g2.2.2
  · rw [F2.1 _ _ (by omega), F2.1 _ _ (by omega), F1.1 _ _ (fun w => by have := hP _ _ w; omega), F1.1 _ _ (fun w => by have := hP _ _ w; omega)]; exact h5
theorem T_4 : St_4 Inv := by
  intro S hI a1 a2
  obtain ⟨z, z1, z2, rfl⟩ := iI_ex a1
  obtain ⟨y, y1, y2, rfl⟩ := iI_ex a2
  have l5 : (5 : Int64) = lI 5 := by decide
  have z10' : ¬ (iI 1 = (0 : Int32)) := z10
  unfold f_X10_set
  by_cases q : 0 ≤ z ∧ z ≤ 5
  · obtain ⟨k, rfl⟩ : ∃ k : Nat, z = k := ⟨z.toNat, by omega⟩
    have hk : k < 6 := by omega
    have hb := mo_b k
    rw [p_allows_in S hk y1 y2, bn_s]
    by_cases q2 : 0 ≤ y ∧ y ≤ mo k
    · obtain ⟨v, rfl⟩ : ∃ v : Nat, y = v := ⟨y.toNat, by omega⟩
      obtain ⟨L, st, sg, h1, h2, h3, h4, h5⟩ := id hI
      rw [b2i_p q2, if_neg z10', p_value h1.2.1 hk, bn_s]
      have eB : f_X3_become (iI k) (iI v) S = some (us S 12 0 k (iI v)) := by
        unfold f_X3_become
        rw [p_allows_in S hk y1 y2, bn_s, b2i_p q2, if_neg z10', if_neg (by rw [i_6, iI_le (by omega) (by omega) (by omega) (by omega)]; omega), vi_iI (by omega) (by omega) (by omega), ck_t, cl_iI (by omega) (by omega), Int.toNat_natCast]
        rfl
      rw [eB, bn_s]
      have hR : RR (us S 12 0 k (iI v)) (updS st k v) := by
        intro j hj
        by_cases e : j = k
        · subst e; rw [updS_s, us_same]; exact ⟨rfl, by omega⟩
        · rw [updS_n e, us_nb e]; exact h1.2.1 j hj
      have eM : ∀ S2 : sT, S2.1 42 0 = S.1 42 0 → f_X11_set (iI k) (iI v) S2 = some (iI (st k), us S2 42 0 k (iI v)) := by
        intro S2 e42
        unfold f_X11_set
        rw [l_0, l5, m_in2 _ z1 z2 (by omega) (by omega) (by omega) (by omega), bn_s, b2i_p q, if_neg z10', m_mostOf hk, bn_s, iI_toL (z := (mo k : Int)) (by omega) (by omega), m_in2 _ y1 y2 (by omega) (by omega) (by omega) (by omega), bn_s, b2i_p q2, if_neg z10', vi_iI (by omega) (by omega) (by omega), ck_t, cl_iI (by omega) (by omega), Int.toNat_natCast, lt_b, ck_t, e42, (h2.2.1 k hk).1]
        rfl
      by_cases q3 : k = 0
      · rw [if_pos (by rw [q3]; rfl)]
        have hW : RW (us S 12 0 k (iI v)) 0 (nW L) (fW L) := by
          have g := h1.2.2.2.2.1.2.1 0 (by omega)
          refine RW.kept g ?_ ?_ ?_ ?_ ?_
          all_goals (rw [us_ne (by omega)])
        have hT : TC (us S 12 0 k (iI v)) (tW L) := by
          refine h1.2.2.2.1.kept ?_ ?_ ?_ ?_ ?_
          all_goals (rw [us_ne (by omega)])
        obtain ⟨S2, a1, a2, a3⟩ := p_replay (parseT_ok (L 1)) hT hR hW
        have F1 : Fr (fun k i => k = 12 ∨ PP k i) S S2 := (Fr.us (Or.inl rfl)).tr (a3.mono (fun k i z => Or.inr z))
        refine ⟨iI (st k), S2, us S2 42 0 k (iI v), ?_, eM S2 (F1.1 _ _ (by unfold PP; omega)), set_end hk (by omega) h1 h2 h3 h4 h5 (fun k i z => by unfold PP at z; omega) F1 (hR.fr a3 (by unfold PP; omega)) a2 rfl⟩
        rw [a1, bn_s]
      · rw [if_neg (by rw [i_0, iI_eq (by omega) (by omega) (by omega) (by omega)]; omega)]
        have F1 : Fr (fun k i => k = 12) S (us S 12 0 k (iI v)) := Fr.us rfl
        refine ⟨iI (st k), _, us (us S 12 0 k (iI v)) 42 0 k (iI v), rfl, eM _ (by rw [us_ne (by omega)]), set_end hk (by omega) h1 h2 h3 h4 h5 (fun k i z => by omega) F1 hR ?_ rfl⟩
        have g : CP S (updS st k v) (nW L) (tW L) (fW L) := h1.2.2.2.2.1.cst (by rw [updS_n (by omega)])
        refine ⟨by rw [us_ne (by omega)]; exact g.1, fun j hj => RW.kept (g.2.1 j hj) ?_ ?_ ?_ ?_ ?_, fun j hj => by rw [us_ne (by omega), us_ne (by omega)]; exact g.2.2 j hj⟩
        all_goals (rw [us_ne (by omega)])
    · rw [b2i_n q2, if_pos (by rfl)]
      refine ⟨_, S, S, rfl, ?_, hI⟩
      unfold f_X11_set
      rw [l_0, l5, m_in2 _ z1 z2 (by omega) (by omega) (by omega) (by omega), bn_s, b2i_p q, if_neg z10', m_mostOf hk, bn_s, iI_toL (z := (mo k : Int)) (by omega) (by omega), m_in2 _ y1 y2 (by omega) (by omega) (by omega) (by omega), bn_s, b2i_n q2, if_pos (by rfl)]
  · rw [p_allows_out S z1 z2 q, bn_s, if_pos (by rfl)]
    refine ⟨_, S, S, rfl, ?_, hI⟩
    unfold f_X11_set
    rw [l_0, l5, m_in2 _ z1 z2 (by omega) (by omega) (by omega) (by omega), bn_s, b2i_n q, if_pos (by rfl)]
