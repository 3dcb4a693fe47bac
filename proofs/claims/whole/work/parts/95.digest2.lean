/-! the digest: the reference -/
theorem hx_e (h : Int64) (v : Int32) : (31 : Int64) * h + v.toInt64 = hx h v := rfl
theorem e_count {L : Nat → List Nat} {st : Nat → Nat} {sg : List (Nat × Nat × Nat)} (J : Int64 → sT → Option (Int64 × sT)) : ∀ (d k m : Nat) (h : Int64) (S : sT), IR S L st sg → R9 S → k + d = 8 → d < m → ∃ S', l_X11_digest_6 J m h (iI k) S = J (smH (ctV L st sg) d k h) S' ∧ Fr1 PRM S S' ∧ R9 S' := by
  intro d
  induction d with
  | zero =>
    intro k m h S hI h9 hk hm
    obtain ⟨m, rfl⟩ : ∃ m', m = m' + 1 := ⟨m - 1, by omega⟩
    refine ⟨S, ?_, Fr1.rf, h9⟩
    rw [l_X11_digest_6_s]
    unfold b_X11_digest_6
    rw [if_pos (by rw [i_8, iI_le (by omega) (by omega) (by omega) (by omega)]; omega)]
    rfl
  | succ d ih =>
    intro k m h S hI h9 hk hm
    obtain ⟨m, rfl⟩ : ∃ m', m = m' + 1 := ⟨m - 1, by omega⟩
    obtain ⟨S1, e1, F1, k9⟩ := mV_count (k := k) hI h9 (by omega)
    rw [l_X11_digest_6_s]
    unfold b_X11_digest_6
    rw [if_neg (by rw [i_8, iI_le (by omega) (by omega) (by omega) (by omega)]; omega), e1, bn2_s, lt_b, hx_e, lt_b, hi1]
    obtain ⟨S', g1, g2, g3⟩ := ih (k + 1) m (hx h (ctV L st sg k)) S1 (hI.fr F1) k9 (by omega) (by omega)
    exact ⟨S', g1, F1.tr g2, g3⟩
theorem e_cols {L : Nat → List Nat} {st : Nat → Nat} {sg : List (Nat × Nat × Nat)} (J : Int64 → sT → Option (Int64 × sT)) : ∀ (d k m : Nat) (h : Int64) (S : sT), RD S L st sg → R9 S → k + d = nW L → d < m → ∃ S', l_X11_digest_57 J m h (iI k) S = J (smC (fun c h => hcol L st (tW L).length c (hcol L st 0 c h)) d k h) S' ∧ Fr PM S S' := by
  intro d
  induction d with
  | zero =>
    intro k m h S hD h9 hk hm
    have hn := hD.1.1
    obtain ⟨m, rfl⟩ : ∃ m', m = m' + 1 := ⟨m - 1, by omega⟩
    refine ⟨S, ?_, Fr.rf⟩
    rw [l_X11_digest_57_s]
    unfold b_X11_digest_57
    rw [hD.1.2.1, if_pos (by rw [iI_le (by omega) (by omega) (by omega) (by omega)]; omega)]
    rfl
  | succ d ih =>
    intro k m h S hD h9 hk hm
    have hn := hD.1.1
    obtain ⟨m, rfl⟩ : ∃ m', m = m' + 1 := ⟨m - 1, by omega⟩
    obtain ⟨S1, e1, F1⟩ := mV_col (N := 0) (c := k) (h := h) hD h9 (by omega) (by omega)
    obtain ⟨S2, e2, F2⟩ := mV_col (N := (tW L).length) (c := k) (h := hcol L st 0 k h) (hD.pm F1) (h9.pm F1) (Nat.le_refl _) (by omega)
    rw [l_X11_digest_57_s]
    unfold b_X11_digest_57
    rw [hD.1.2.1, if_neg (by rw [iI_le (by omega) (by omega) (by omega) (by omega)]; omega), show (0 : Int32) = iI ((0 : Nat) : Int) from rfl, e1, bn2_s, (hD.pm F1).2.1.1, e2, bn2_s, lt_b, hi1]
    obtain ⟨S', g1, g2⟩ := ih (k + 1) m (hcol L st (tW L).length k (hcol L st 0 k h)) S2 ((hD.pm F1).pm F2) ((h9.pm F1).pm F2) (by omega) (by omega)
    exact ⟨S', g1, (F1.tr F2).tr g2⟩
theorem e_turn1 {L : Nat → List Nat} {st : Nat → Nat} {sg : List (Nat × Nat × Nat)} {t : Nat} (ht : t < (tW L).length) (J : Int64 → sT → Option (Int64 × sT)) : ∀ (d k m : Nat) (h : Int64) (S : sT), RD S L st sg → R9 S → k + d = 3 → d < m → ∃ S', l_X11_digest_101 (iI t) J m h (iI k) S = J (smH (tuV L st t) d k h) S' ∧ Fr PM S S' := by
  intro d
  induction d with
  | zero =>
    intro k m h S hD h9 hk hm
    obtain ⟨m, rfl⟩ : ∃ m', m = m' + 1 := ⟨m - 1, by omega⟩
    refine ⟨S, ?_, Fr.rf⟩
    rw [l_X11_digest_101_s]
    unfold b_X11_digest_101
    rw [if_pos (by rw [i_3, iI_le (by omega) (by omega) (by omega) (by omega)]; omega)]
    rfl
  | succ d ih =>
    intro k m h S hD h9 hk hm
    obtain ⟨m, rfl⟩ : ∃ m', m = m' + 1 := ⟨m - 1, by omega⟩
    obtain ⟨S1, e1, F1⟩ := mV_turn (w := k) hD h9 ht (by omega)
    rw [l_X11_digest_101_s]
    unfold b_X11_digest_101
    rw [if_neg (by rw [i_3, iI_le (by omega) (by omega) (by omega) (by omega)]; omega), e1, bn2_s, lt_b, hx_e, lt_b, hi1]
    obtain ⟨S', g1, g2⟩ := ih (k + 1) m (hx h (tuV L st t k)) S1 (hD.pm F1) (h9.pm F1) (by omega) (by omega)
    exact ⟨S', g1, F1.tr g2⟩
theorem e_turns {L : Nat → List Nat} {st : Nat → Nat} {sg : List (Nat × Nat × Nat)} (J : Int64 → sT → Option (Int64 × sT)) : ∀ (d k m : Nat) (h : Int64) (S : sT), RD S L st sg → R9 S → k + d = (tW L).length → d < m → ∃ S', l_X11_digest_90 J m h (iI k) S = J (smC (fun t h => smH (tuV L st t) 3 0 h) d k h) S' ∧ Fr PM S S' := by
  have h12 : (tW L).length ≤ 12 := (parseT_ok (L 1)).1
  have hF : 1000 < FU := by unfold FU; omega
  intro d
  induction d with
  | zero =>
    intro k m h S hD h9 hk hm
    obtain ⟨m, rfl⟩ : ∃ m', m = m' + 1 := ⟨m - 1, by omega⟩
    refine ⟨S, ?_, Fr.rf⟩
    rw [l_X11_digest_90_s]
    unfold b_X11_digest_90
    rw [hD.2.1.1, if_pos (by rw [iI_le (by omega) (by omega) (by omega) (by omega)]; omega)]
    rfl
  | succ d ih =>
    intro k m h S hD h9 hk hm
    obtain ⟨m, rfl⟩ : ∃ m', m = m' + 1 := ⟨m - 1, by omega⟩
    obtain ⟨S1, e1, F1⟩ := e_turn1 (t := k) (by omega) (fun (x118 : Int64) (S119 : sT) => lt (iI (k : Int) + (1 : Int32)) (fun x120 => l_X11_digest_90 J m x118 x120 S119)) 3 0 FU h S hD h9 (by omega) (by omega)
    rw [show iI ((0 : Nat) : Int) = (0 : Int32) from rfl] at e1
    rw [l_X11_digest_90_s]
    unfold b_X11_digest_90
    rw [hD.2.1.1, if_neg (by rw [iI_le (by omega) (by omega) (by omega) (by omega)]; omega), jn_b, e1]; (try dsimp only); rw [lt_b, hi1]
    obtain ⟨S', g1, g2⟩ := ih (k + 1) m (smH (tuV L st k) 3 0 h) S1 (hD.pm F1) (h9.pm F1) (by omega) (by omega)
    exact ⟨S', g1, F1.tr g2⟩
theorem e_beh1 {L : Nat → List Nat} {st : Nat → Nat} {sg : List (Nat × Nat × Nat)} {b : Nat} (hb : b ≤ 1) (J : Int64 → sT → Option (Int64 × sT)) : ∀ (d k m : Nat) (h : Int64) (S : sT), RD S L st sg → R9 S → k + d = 4 → d < m → ∃ S', l_X11_digest_144 (iI b) J m h (iI k) S = J (smH (bhV L st (if b = 0 then 0 else (tW L).length)) d k h) S' ∧ Fr PM S S' := by
  intro d
  induction d with
  | zero =>
    intro k m h S hD h9 hk hm
    obtain ⟨m, rfl⟩ : ∃ m', m = m' + 1 := ⟨m - 1, by omega⟩
    refine ⟨S, ?_, Fr.rf⟩
    rw [l_X11_digest_144_s]
    unfold b_X11_digest_144
    rw [if_pos (by rw [i_4, iI_le (by omega) (by omega) (by omega) (by omega)]; omega)]
    rfl
  | succ d ih =>
    intro k m h S hD h9 hk hm
    obtain ⟨m, rfl⟩ : ∃ m', m = m' + 1 := ⟨m - 1, by omega⟩
    obtain ⟨S1, e1, F1⟩ := mV_behind (N := if b = 0 then 0 else (tW L).length) (w := k) hD h9 (by split <;> omega) (by omega)
    have en : (if iI (b : Int) = (0 : Int32) then (0 : Int32) else S.1 116 0 0) = iI ((if b = 0 then 0 else (tW L).length : Nat) : Int) := by
      rw [hD.2.1.1]
      by_cases q : b = 0
      · rw [if_pos (by rw [q]; rfl), if_pos q]; rfl
      · rw [if_neg (by rw [i_0, iI_eq (by omega) (by omega) (by omega) (by omega)]; omega), if_neg q]
    rw [l_X11_digest_144_s]
    unfold b_X11_digest_144
    rw [if_neg (by rw [i_4, iI_le (by omega) (by omega) (by omega) (by omega)]; omega), jn_ite, en, e1, bn2_s, lt_b, hx_e, lt_b, hi1]
    obtain ⟨S', g1, g2⟩ := ih (k + 1) m (hx h (bhV L st (if b = 0 then 0 else (tW L).length) k)) S1 (hD.pm F1) (h9.pm F1) (by omega) (by omega)
    exact ⟨S', g1, F1.tr g2⟩
theorem e_beh {L : Nat → List Nat} {st : Nat → Nat} {sg : List (Nat × Nat × Nat)} (J : Int64 → sT → Option (Int64 × sT)) : ∀ (d k m : Nat) (h : Int64) (S : sT), RD S L st sg → R9 S → k + d = 2 → d < m → ∃ S', l_X11_digest_136 J m h (iI k) S = J (smC (fun b h => smH (bhV L st (if b = 0 then 0 else (tW L).length)) 4 0 h) d k h) S' ∧ Fr PM S S' := by
  have hF : 1000 < FU := by unfold FU; omega
  intro d
  induction d with
  | zero =>
    intro k m h S hD h9 hk hm
    obtain ⟨m, rfl⟩ : ∃ m', m = m' + 1 := ⟨m - 1, by omega⟩
    refine ⟨S, ?_, Fr.rf⟩
    rw [l_X11_digest_136_s]
    unfold b_X11_digest_136
    rw [if_pos (by rw [i_2, iI_le (by omega) (by omega) (by omega) (by omega)]; omega)]
    rfl
  | succ d ih =>
    intro k m h S hD h9 hk hm
    obtain ⟨m, rfl⟩ : ∃ m', m = m' + 1 := ⟨m - 1, by omega⟩
    obtain ⟨S1, e1, F1⟩ := e_beh1 (b := k) (by omega) (fun (x95 : Int64) (S96 : sT) => lt (iI (k : Int) + (1 : Int32)) (fun x97 => l_X11_digest_136 J m x95 x97 S96)) 4 0 FU h S hD h9 (by omega) (by omega)
    rw [show iI ((0 : Nat) : Int) = (0 : Int32) from rfl] at e1
    rw [l_X11_digest_136_s]
    unfold b_X11_digest_136
    rw [if_neg (by rw [i_2, iI_le (by omega) (by omega) (by omega) (by omega)]; omega), jn_b, e1]; (try dsimp only); rw [lt_b, hi1]
    obtain ⟨S', g1, g2⟩ := ih (k + 1) m (smH (bhV L st (if k = 0 then 0 else (tW L).length)) 4 0 h) S1 (hD.pm F1) (h9.pm F1) (by omega) (by omega)
    exact ⟨S', g1, F1.tr g2⟩
theorem e_years {L : Nat → List Nat} {st : Nat → Nat} {sg : List (Nat × Nat × Nat)} (J : Int64 → sT → Option (Int64 × sT)) : ∀ (d k m : Nat) (h : Int64) (S : sT), RD S L st sg → R9 S → k + d = nW L → d < m → ∃ S', l_X11_digest_190 J m h (iI k) S = J (smH (fun c => yrV L st c) d k h) S' ∧ Fr1 PX S S' ∧ R9 S' := by
  intro d
  induction d with
  | zero =>
    intro k m h S hD h9 hk hm
    have hn := hD.1.1
    obtain ⟨m, rfl⟩ : ∃ m', m = m' + 1 := ⟨m - 1, by omega⟩
    refine ⟨S, ?_, Fr1.rf, h9⟩
    rw [l_X11_digest_190_s]
    unfold b_X11_digest_190
    rw [hD.1.2.1, if_pos (by rw [iI_le (by omega) (by omega) (by omega) (by omega)]; omega)]
    rfl
  | succ d ih =>
    intro k m h S hD h9 hk hm
    have hn := hD.1.1
    obtain ⟨m, rfl⟩ : ∃ m', m = m' + 1 := ⟨m - 1, by omega⟩
    obtain ⟨S1, e1, F1, k9⟩ := mD_years (seed := (7 : Int32)) (y := 9) (c := (k : Int)) hD h9 (by omega) (by omega) (by omega) (by omega)
    rw [show iI ((9 : Nat) : Int) = (9 : Int32) from rfl] at e1
    rw [l_X11_digest_190_s]
    unfold b_X11_digest_190
    rw [hD.1.2.1, if_neg (by rw [iI_le (by omega) (by omega) (by omega) (by omega)]; omega), e1, bn2_s, lt_b, hx_e, lt_b, hi1]
    obtain ⟨S', g1, g2, g3⟩ := ih (k + 1) m (hx h (yrV L st k)) S1 (hD.fr F1) k9 (by omega) (by omega)
    exact ⟨S', g1, F1.tr g2, g3⟩
theorem e_who {L : Nat → List Nat} {st : Nat → Nat} {sg : List (Nat × Nat × Nat)} (hB : SB sg) (J : Int64 → sT → Option (Int64 × sT)) : ∀ (d k m : Nat) (h : Int64) (S : sT), RD S L st sg → R9 S → k + d = 3 → d < m → ∃ S', l_X11_digest_345 J m h (iI k) S = J (smH (whoS L st sg) d k h) S' ∧ Fr1 PX S S' ∧ R9 S' := by
  intro d
  induction d with
  | zero =>
    intro k m h S hD h9 hk hm
    obtain ⟨m, rfl⟩ : ∃ m', m = m' + 1 := ⟨m - 1, by omega⟩
    refine ⟨S, ?_, Fr1.rf, h9⟩
    rw [l_X11_digest_345_s]
    unfold b_X11_digest_345
    rw [if_pos (by rw [i_3, iI_le (by omega) (by omega) (by omega) (by omega)]; omega)]
    rfl
  | succ d ih =>
    intro k m h S hD h9 hk hm
    obtain ⟨m, rfl⟩ : ∃ m', m = m' + 1 := ⟨m - 1, by omega⟩
    obtain ⟨S1, e1, F1, k9⟩ := mD_who (how := k) hB hD (by omega)
    rw [l_X11_digest_345_s]
    unfold b_X11_digest_345
    rw [if_neg (by rw [i_3, iI_le (by omega) (by omega) (by omega) (by omega)]; omega), e1, bn2_s, lt_b, hx_e, lt_b, hi1]
    obtain ⟨S', g1, g2, g3⟩ := ih (k + 1) m (hx h (whoS L st sg k)) S1 (hD.fr F1) k9 (by omega) (by omega)
    exact ⟨S', g1, F1.tr g2, g3⟩
theorem e_yearsN {S : sT} {L : Nat → List Nat} {st : Nat → Nat} {sg : List (Nat × Nat × Nat)} (hI : IR S L st sg) (h9 : R9 S) : ∃ S', f_X11_years (7 : Int32) (9 : Int32) (-1 : Int32) S = some (yrN L st, S') ∧ Fr1 PRM S S' ∧ R9 S' := by
  have z10' : ¬ (iI 1 = (0 : Int32)) := z10
  have l40 : (40 : Int64) = lI 40 := by decide
  have lm1 : (-1 : Int64) = lI (-1) := by decide
  obtain ⟨S1, e1, hD, k9, F⟩ := hI.reads h9
  have hn := hD.1.1
  have eM : f_X11_in (9 : Int32).toInt64 (1 : Int64) (40 : Int64) S1 = some (iI 1) := by
    rw [i_9, l_1, l40, m_in2 _ (by omega) (by omega) (by omega) (by omega) (by omega) (by omega), b2i_p (by omega)]
  unfold f_X11_years yrN
  rw [e1, bn_s, eM, bn_s, if_neg z10', hD.1.2.1]
  by_cases q : nW L = 0
  · rw [if_pos (by rw [i_0, iI_le (by omega) (by omega) (by omega) (by omega)]; omega), if_pos q]
    exact ⟨S1, rfl, PR_prm F, k9⟩
  · have eN : f_X11_in (-1 : Int32).toInt64 (-1 : Int64) (iI (nW L : Int) - (1 : Int32)).toInt64 S1 = some (iI 1) := by
      rw [i_m1, lm1, i_1, iI_sub, iI_toL (z := (nW L : Int) - 1) (by omega) (by omega), m_in2 _ (by omega) (by omega) (by omega) (by omega) (by omega) (by omega), b2i_p (by omega)]
    obtain ⟨S2, g1, g2, g3⟩ := mD_years (seed := (7 : Int32)) (y := 9) (c := -1) hD k9 (by omega) (by omega) (by omega) (by omega)
    rw [show iI ((9 : Nat) : Int) = (9 : Int32) from rfl, show iI (-1) = (-1 : Int32) from rfl] at g1
    rw [if_neg (by rw [i_0, iI_le (by omega) (by omega) (by omega) (by omega)]; omega), if_neg q, eN, bn_s, if_neg z10', g1, bn2_s]
    exact ⟨S2, rfl, (PR_prm F).tr (PX_prm g2), g3⟩
