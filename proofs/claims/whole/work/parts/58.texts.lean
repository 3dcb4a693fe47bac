/-! typing, wiping, taking back; faults; settings -/
def updL (L : Nat → List Nat) (t : Nat) (l : List Nat) : Nat → List Nat := fun j => if j = t then l else L j
theorem updL_s {L : Nat → List Nat} {t : Nat} {l : List Nat} : updL L t l t = l := if_pos rfl
theorem updL_n {L : Nat → List Nat} {t t' : Nat} {l : List Nat} (h : t' ≠ t) : updL L t l t' = L t' := if_neg h
theorem bt_l {l : List Nat} {b j : Nat} (h : j < l.length) : bt (l ++ [b]) j = bt l j := nth_app_l h
theorem bt_r {l : List Nat} {b : Nat} : bt (l ++ [b]) l.length = b := nth_app_r
theorem bt_dl {l : List Nat} {j : Nat} (h : j < l.length - 1) : bt l.dropLast j = bt l j := by
  unfold bt
  rw [List.getD_eq_getElem?_getD, List.getD_eq_getElem?_getD, List.getElem?_dropLast, if_pos h]
theorem m_in2 {z a b : Int} (S : sT) (h1 : -2147483648 ≤ z) (h2 : z < 2147483648) (h3 : -2147483648 ≤ a) (h4 : a < 2147483648) (h5 : -2147483648 ≤ b) (h6 : b < 2147483648) : f_X11_in (iI z).toInt64 (lI a) (lI b) S = some (iI (b2i (decide (a ≤ z ∧ z ≤ b)))) := by
  rw [iI_toL h1 h2]; exact p_in S h1 h2 h3 h4 h5 h6
theorem p_textOf {t : Nat} (ht : t < 2) (S : sT) : f_X10_textOf (iI t) S = some (some t) := by
  rcases (show t = 0 ∨ t = 1 by omega) with rfl | rfl <;> rfl
theorem p_textOf_out {z : Int} (S : sT) (h1 : -2147483648 ≤ z) (h2 : z < 2147483648) (h : ¬ (0 ≤ z ∧ z ≤ 1)) : f_X10_textOf (iI z) S = some none := by
  unfold f_X10_textOf
  rw [if_neg (by rw [i_0, iI_eq (by omega) (by omega) (by omega) (by omega)]; omega), if_neg (by rw [i_1, iI_eq (by omega) (by omega) (by omega) (by omega)]; omega)]
theorem TX.set {S : sT} {L : Nat → List Nat} {t : Nat} {l : List Nat} {S' : sT} (h : ∀ t, t < 2 → TX S t (L t) (lim t)) (ht : t < 2) (hl : l.length ≤ lim t) (h103 : S'.1 103 t 0 = iI l.length) (h103' : ∀ t', t' ≠ t → S'.1 103 t' = S.1 103 t') (h102 : S'.1 102 = S.1 102) (h11 : ∀ t', t' ≠ t → S'.1 11 t' = S.1 11 t') (h11' : ∀ j, j < l.length → S'.1 11 t j = iI (bt l j) ∧ bt l j < 256) : ∀ t', t' < 2 → TX S' t' (updL L t l t') (lim t') := by
  intro t' ht'
  obtain ⟨a1, a2, a3, a4, a5⟩ := h t' ht'
  by_cases e : t' = t
  · subst e
    rw [updL_s]
    exact ⟨h103, by rw [h102]; exact a2, hl, a4, h11'⟩
  · rw [updL_n e]
    exact ⟨by rw [h103' _ e]; exact a1, by rw [h102]; exact a2, a3, a4, by rw [h11 _ e]; exact a5⟩
theorem MT.set {S : sT} {L : Nat → List Nat} {t : Nat} {l : List Nat} {S' : sT} (h : ∀ t, t < 2 → MT S t (L t)) (ht : t < 2) (hl : l.length ≤ 63) (h38 : S'.1 38 0 t = iI l.length) (h38' : ∀ t', t' ≠ t → S'.1 38 0 t' = S.1 38 0 t') (h37 : ∀ t' j, t' < 2 → t' ≠ t → j < 63 → S'.1 37 0 (64 * t' + j) = S.1 37 0 (64 * t' + j)) (h37' : ∀ j, j < l.length → S'.1 37 0 (64 * t + j) = iI (bt l j) ∧ bt l j < 256) : ∀ t', t' < 2 → MT S' t' (updL L t l t') := by
  intro t' ht'
  obtain ⟨a1, a2, a3⟩ := h t' ht'
  by_cases e : t' = t
  · subst e
    rw [updL_s]
    exact ⟨h38, hl, h37'⟩
  · rw [updL_n e]
    exact ⟨by rw [h38' _ e]; exact a1, a2, fun j hj => by rw [h37 _ _ ht' e (by omega)]; exact a3 j hj⟩
theorem lim_b (t : Nat) : 59 ≤ lim t ∧ lim t ≤ 63 := by unfold lim; split <;> omega
def PZX : Nat → Nat → Prop := fun k i => PZ k i ∨ (k = 11 ∨ k = 103) ∧ i ≤ 1
def PMX : Nat → Nat → Prop := fun k i => (k = 37 ∨ k = 38) ∧ i = 0
/-- both change text t in the same way -/
theorem texts_end {S S1 S2 S3 : sT} {L : Nat → List Nat} {st : Nat → Nat} {sg : List (Nat × Nat × Nat)} {t : Nat} {l : List Nat} (h2 : MI S L st) (h3 : SG S sg) (h4 : SH S) (h5 : S.1 111 0 0 = S.1 113 0 0) (F1 : Fr PZX S S2) (c1 : CI S2 (updL L t l) st) (F2 : Fr PMX S2 S3) (hM : (∀ t, t < 2 → MT S2 t (L t)) → ∀ t', t' < 2 → MT S3 t' (updL L t l t')) : Inv S3 := by
  have g2 := h2.fr F1 (fun k i z => by unfold KM at z; unfold PZX PZ; omega)
  refine ⟨updL L t l, st, sg, c1.fr F2 (fun k i z => by unfold KC at z; unfold PMX; omega), ⟨hM g2.1, fun k hk => ?_, ?_⟩, (h3.fr F1 (fun k i z => by unfold KG at z; unfold PZX PZ; omega)).fr F2 (fun k i z => by unfold KG at z; unfold PMX; omega), (h4.fr F1 (fun k i z => by unfold KH at z; unfold PZX PZ; omega)).fr F2 (fun k i z => by unfold KH at z; unfold PMX; omega), ?_⟩
  · rw [F2.1 _ _ (by unfold PMX; omega)]; exact g2.2.1 k hk
  · rw [F2.1 _ _ (by unfold PMX; omega)]; exact g2.2.2
  · rw [F2.1 _ _ (by unfold PMX; omega), F2.1 _ _ (by unfold PMX; omega), F1.1 _ _ (by unfold PZX PZ; omega), F1.1 _ _ (by unfold PZX PZ; omega)]; exact h5
theorem T_1 : St_1 Inv := by
  intro S hI a1
  obtain ⟨z, z1, z2, rfl⟩ := iI_ex a1
  by_cases q : 0 ≤ z ∧ z ≤ 1
  · obtain ⟨t, rfl⟩ : ∃ t : Nat, z = t := ⟨z.toNat, by omega⟩
    have ht : t < 2 := by omega
    obtain ⟨L, st, sg, h1, h2, h3, h4, h5⟩ := hI
    have hx := h1.1 t ht
    have hm := h2.1 t ht
    have hlim := lim_b t
    have F0 : Fr PZX S (us S 103 t 0 (0 : Int32)) := Fr.us (by unfold PZX; omega)
    have hX : ∀ t', t' < 2 → TX (us S 103 t 0 (0 : Int32)) t' (updL L t [] t') (lim t') := TX.set h1.1 ht (by simp) us_same (fun t' e => us_ni e) (us_ne (by omega)) (fun t' e => by rw [us_ne (by omega)]) (fun j hj => absurd hj (by simp))
    obtain ⟨S2, a1, a2, a3⟩ := p_settle hX (h1.2.1.fr F0 (by unfold PZX PZ; omega)) h1.2.2.1
    have F1 : Fr PZX S S2 := F0.tr (a3.mono (fun k i z => Or.inl z))
    have hm2 := hm.fr F1 (by unfold PZX PZ; omega)
    refine ⟨iI (L t).length, S2, us S2 38 0 t (0 : Int32), ?_, ?_, texts_end (S1 := S) (t := t) (l := []) h2 h3 h4 h5 F1 a2 (Fr.us (by unfold PMX; omega)) (fun hM => MT.set hM ht (by simp) us_same (fun t' e => us_nb e) (fun t' j _ _ _ => by rw [us_ne (by omega)]) (fun j hj => absurd hj (by simp)))⟩
    · unfold f_X10_wipe f_X8_clear
      rw [p_textOf ht, bn_s, nl_S, decide_eq_true ht, ck_t, p_size hx, bn_s]
      simp only [ck_t, lt_b, bn_s, bn2_s, jn_b, nl_N, nl_S, a1]
    · unfold f_X11_wipe
      rw [m_isTwo _ z1 z2, bn_s, b2i_p q, if_neg (show ¬ (iI 1 = (0 : Int32)) from z10), vi_iI (by omega) (by omega) (by omega), ck_t, cl_iI (by omega) (by omega), Int.toNat_natCast, hm2.1]
      rfl
  · refine ⟨(-2 : Int32), S, S, ?_, ?_, hI⟩
    · unfold f_X10_wipe
      rw [p_textOf_out S z1 z2 q]; rfl
    · unfold f_X11_wipe
      rw [m_isTwo S z1 z2, bn_s, b2i_n q, if_pos (by rfl)]
