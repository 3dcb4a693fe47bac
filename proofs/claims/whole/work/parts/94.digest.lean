/-! the digest: both sums -/
def smH (F : Nat → Int32) : Nat → Nat → Int64 → Int64
  | 0, _, h => h
  | d + 1, k, h => smH F d (k + 1) (hx h (F k))
def smC (G : Nat → Int64 → Int64) : Nat → Nat → Int64 → Int64
  | 0, _, h => h
  | d + 1, k, h => smC G d (k + 1) (G k h)
theorem hi1 (k : Nat) : iI (k : Int) + (1 : Int32) = iI ((k + 1 : Nat) : Int) := by rw [i_1, iI_add]; rfl
/-- the class: counts -/
theorem d_count {S : sT} {L : Nat → List Nat} {st : Nat → Nat} {sg : List (Nat × Nat × Nat)} (h1 : CI S L st) (hG : SGc S sg) (J : Int64 → Option (Int64 × sT)) : ∀ (d k m : Nat) (h : Int64), k + d = 8 → d < m → l_X10_digest_6 S J m h (iI k) = J (smH (ctV L st sg) d k h) := by
  intro d
  induction d with
  | zero =>
    intro k m h hk hm
    obtain ⟨m, rfl⟩ : ∃ m', m = m' + 1 := ⟨m - 1, by omega⟩
    rw [l_X10_digest_6_s]
    unfold b_X10_digest_6
    rw [if_pos (by rw [i_7, iI_lt (by omega) (by omega) (by omega) (by omega)]; omega)]
    rfl
  | succ d ih =>
    intro k m h hk hm
    obtain ⟨m, rfl⟩ : ∃ m', m = m' + 1 := ⟨m - 1, by omega⟩
    rw [l_X10_digest_6_s]
    unfold b_X10_digest_6
    rw [if_neg (by rw [i_7, iI_lt (by omega) (by omega) (by omega) (by omega)]; omega), cV_count h1 hG (by omega), bn_s, p_mix, bn_s, lt_b, hi1]
    exact ih (k + 1) m _ (by omega) (by omega)
theorem d_cols {S : sT} {L : Nat → List Nat} {st : Nat → Nat} (h1 : CI S L st) (J : Int64 → Option (Int64 × sT)) : ∀ (d k m : Nat) (h : Int64), k + d = nW L → d < m → l_X10_digest_53 S J m h (iI k) = J (smC (fun c h => hcol L st (tW L).length c (hcol L st 0 c h)) d k h) := by
  have h12 : (tW L).length ≤ 12 := (parseT_ok (L 1)).1
  have hW := wallN h1 (Nat.le_refl (tW L).length)
  have hn := hW.1
  have eC : f_X9_columnCount (tW L).length S = some (iI (nW L)) := by unfold f_X9_columnCount; rw [hW.2.1]
  intro d
  induction d with
  | zero =>
    intro k m h hk hm
    obtain ⟨m, rfl⟩ : ∃ m', m = m' + 1 := ⟨m - 1, by omega⟩
    rw [l_X10_digest_53_s]
    unfold b_X10_digest_53
    rw [p_last h1, bn_s, decide_eq_true (show (tW L).length < 16 by omega), ck_t, eC, bn_s, if_pos (by rw [iI_le (by omega) (by omega) (by omega) (by omega)]; omega)]
    rfl
  | succ d ih =>
    intro k m h hk hm
    obtain ⟨m, rfl⟩ : ∃ m', m = m' + 1 := ⟨m - 1, by omega⟩
    rw [l_X10_digest_53_s]
    unfold b_X10_digest_53 f_X1_turnCount
    rw [p_last h1, bn_s, decide_eq_true (show (tW L).length < 16 by omega), ck_t, eC, bn_s, if_neg (by rw [iI_le (by omega) (by omega) (by omega) (by omega)]; omega), show (0 : Int32) = iI ((0 : Nat) : Int) from rfl, cV_col h1 (by omega) (by omega), bn_s, h1.2.2.2.2.1.1, bn_s, cV_col h1 (Nat.le_refl _) (by omega), bn_s, lt_b, hi1]
    exact ih (k + 1) m _ (by omega) (by omega)
theorem d_turn1 {S : sT} {L : Nat → List Nat} {st : Nat → Nat} {t : Nat} (h1 : CI S L st) (ht : t < (tW L).length) (J : Int64 → Option (Int64 × sT)) : ∀ (d k m : Nat) (h : Int64), k + d = 3 → d < m → l_X10_digest_111 S (iI t) J m h (iI k) = J (smH (tuV L st t) d k h) := by
  intro d
  induction d with
  | zero =>
    intro k m h hk hm
    obtain ⟨m, rfl⟩ : ∃ m', m = m' + 1 := ⟨m - 1, by omega⟩
    rw [l_X10_digest_111_s]
    unfold b_X10_digest_111
    rw [if_pos (by rw [i_2, iI_lt (by omega) (by omega) (by omega) (by omega)]; omega)]
    rfl
  | succ d ih =>
    intro k m h hk hm
    obtain ⟨m, rfl⟩ : ∃ m', m = m' + 1 := ⟨m - 1, by omega⟩
    rw [l_X10_digest_111_s]
    unfold b_X10_digest_111
    rw [if_neg (by rw [i_2, iI_lt (by omega) (by omega) (by omega) (by omega)]; omega), cV_turn h1 ht (by omega), bn_s, p_mix, bn_s, lt_b, hi1]
    exact ih (k + 1) m _ (by omega) (by omega)
theorem d_turns {S : sT} {L : Nat → List Nat} {st : Nat → Nat} (h1 : CI S L st) (J : Int64 → Option (Int64 × sT)) : ∀ (d k m : Nat) (h : Int64), k + d = (tW L).length → d < m → l_X10_digest_97 S J m h (iI k) = J (smC (fun t h => smH (tuV L st t) 3 0 h) d k h) := by
  have h12 : (tW L).length ≤ 12 := (parseT_ok (L 1)).1
  have hF : 1000 < FU := by unfold FU; omega
  intro d
  induction d with
  | zero =>
    intro k m h hk hm
    obtain ⟨m, rfl⟩ : ∃ m', m = m' + 1 := ⟨m - 1, by omega⟩
    rw [l_X10_digest_97_s]
    unfold b_X10_digest_97 f_X1_turnCount
    rw [h1.2.2.2.2.1.1, bn_s, if_pos (by rw [iI_le (by omega) (by omega) (by omega) (by omega)]; omega)]
    rfl
  | succ d ih =>
    intro k m h hk hm
    obtain ⟨m, rfl⟩ : ∃ m', m = m' + 1 := ⟨m - 1, by omega⟩
    rw [l_X10_digest_97_s]
    unfold b_X10_digest_97 f_X1_turnCount
    rw [h1.2.2.2.2.1.1, bn_s, if_neg (by rw [iI_le (by omega) (by omega) (by omega) (by omega)]; omega), jn_b, show (0 : Int32) = iI ((0 : Nat) : Int) from rfl, d_turn1 h1 (show k < (tW L).length by omega) _ 3 0 FU h (by omega) (by omega)]; (try dsimp only); rw [lt_b, hi1]
    exact ih (k + 1) m _ (by omega) (by omega)
theorem d_behind {S : sT} {L : Nat → List Nat} {st : Nat → Nat} {N : Nat} (h1 : CI S L st) (hN : N ≤ (tW L).length) (h : Int64) : f_X10_mixBehind h (iI N) S = some (smH (bhV L st N) 4 0 h) := by
  have hF : 1000 < FU := by unfold FU; omega
  have e : ∀ (d k m : Nat) (h : Int64), k + d = 4 → d < m → l_X10_mixBehind_6 (iI N) S m h (iI k) = some (smH (bhV L st N) d k h) := by
    intro d
    induction d with
    | zero =>
      intro k m h hk hm
      obtain ⟨m, rfl⟩ : ∃ m', m = m' + 1 := ⟨m - 1, by omega⟩
      rw [l_X10_mixBehind_6_s]
      unfold b_X10_mixBehind_6
      rw [if_pos (by rw [i_3, iI_lt (by omega) (by omega) (by omega) (by omega)]; omega)]
      rfl
    | succ d ih =>
      intro k m h hk hm
      obtain ⟨m, rfl⟩ : ∃ m', m = m' + 1 := ⟨m - 1, by omega⟩
      rw [l_X10_mixBehind_6_s]
      unfold b_X10_mixBehind_6
      rw [if_neg (by rw [i_3, iI_lt (by omega) (by omega) (by omega) (by omega)]; omega), cV_behind h1 hN (by omega), bn_s, p_mix, bn_s, lt_b, hi1]
      exact ih (k + 1) m _ (by omega) (by omega)
  exact e 4 0 FU h (by omega) (by omega)
abbrev yrV (L : Nat → List Nat) (st : Nat → Nat) (c : Int) : Int32 := yrA L st (7 : Int32) 9 c
theorem d_years {L : Nat → List Nat} {st : Nat → Nat} (J : Int64 → sT → Option (Int64 × sT)) : ∀ (d k m : Nat) (h : Int64) (S : sT), CI S L st → k + d = nW L → d < m → ∃ S', l_X10_digest_164 J m h (iI k) S = J (smH (fun c => yrV L st c) d k h) S' ∧ Fr1 PCs S S' := by
  have h12 : (tW L).length ≤ 12 := (parseT_ok (L 1)).1
  intro d
  induction d with
  | zero =>
    intro k m h S h1 hk hm
    obtain ⟨m, rfl⟩ : ∃ m', m = m' + 1 := ⟨m - 1, by omega⟩
    have hW := wallN h1 (Nat.le_refl (tW L).length)
    have hn := hW.1
    have eC : f_X9_columnCount (tW L).length S = some (iI (nW L)) := by unfold f_X9_columnCount; rw [hW.2.1]
    refine ⟨S, ?_, Fr1.rf⟩
    rw [l_X10_digest_164_s]
    unfold b_X10_digest_164
    rw [p_last h1, bn_s, decide_eq_true (show (tW L).length < 16 by omega), ck_t, eC, bn_s, if_pos (by rw [iI_le (by omega) (by omega) (by omega) (by omega)]; omega)]
    rfl
  | succ d ih =>
    intro k m h S h1 hk hm
    obtain ⟨m, rfl⟩ : ∃ m', m = m' + 1 := ⟨m - 1, by omega⟩
    have hW := wallN h1 (Nat.le_refl (tW L).length)
    have hn := hW.1
    have eC : f_X9_columnCount (tW L).length S = some (iI (nW L)) := by unfold f_X9_columnCount; rw [hW.2.1]
    obtain ⟨S1, e1, F1⟩ := cD_years (seed := (7 : Int32)) (y := 9) (c := (k : Int)) h1 (by omega) (by omega) (by omega) (by omega) (by omega)
    rw [show iI ((9 : Nat) : Int) = (9 : Int32) from rfl] at e1
    rw [l_X10_digest_164_s]
    unfold b_X10_digest_164
    rw [p_last h1, bn_s, decide_eq_true (show (tW L).length < 16 by omega), ck_t, eC, bn_s, if_neg (by rw [iI_le (by omega) (by omega) (by omega) (by omega)]; omega), e1, bn2_s, p_mix, bn_s, lt_b, hi1]
    obtain ⟨S', g1, g2⟩ := ih (k + 1) m (hx h (yrV L st k)) S1 (h1.fr1 F1) (by omega) (by omega)
    exact ⟨S', g1, F1.tr g2⟩
theorem d_who {L : Nat → List Nat} {st : Nat → Nat} {sg : List (Nat × Nat × Nat)} (hB : SB sg) (J : Int64 → sT → Option (Int64 × sT)) : ∀ (d k m : Nat) (h : Int64) (S : sT), CI S L st → SGc S sg → k + d = 3 → d < m → ∃ S', l_X10_mixPlans_105 J m h (iI k) S = J (smH (whoS L st sg) d k h) S' ∧ Fr1 PCs S S' := by
  intro d
  induction d with
  | zero =>
    intro k m h S h1 hG hk hm
    obtain ⟨m, rfl⟩ : ∃ m', m = m' + 1 := ⟨m - 1, by omega⟩
    refine ⟨S, ?_, Fr1.rf⟩
    rw [l_X10_mixPlans_105_s]
    unfold b_X10_mixPlans_105
    rw [if_pos (by rw [i_2, iI_lt (by omega) (by omega) (by omega) (by omega)]; omega)]
    rfl
  | succ d ih =>
    intro k m h S h1 hG hk hm
    obtain ⟨m, rfl⟩ : ∃ m', m = m' + 1 := ⟨m - 1, by omega⟩
    obtain ⟨S1, e1, F1⟩ := cD_who (how := k) h1 hB hG (by omega)
    rw [l_X10_mixPlans_105_s]
    unfold b_X10_mixPlans_105
    rw [if_neg (by rw [i_2, iI_lt (by omega) (by omega) (by omega) (by omega)]; omega), e1, bn2_s, p_mix, bn_s, lt_b, hi1]
    obtain ⟨S', g1, g2⟩ := ih (k + 1) m (hx h (whoS L st sg k)) S1 (h1.fr1 F1) (hG.fr1 F1) (by omega) (by omega)
    exact ⟨S', g1, F1.tr g2⟩
/-- years with NONE: of no columns a refusal -/
def yrN (L : Nat → List Nat) (st : Nat → Nat) : Int32 := if nW L = 0 then (-2 : Int32) else yrV L st (-1)
def plnH (L : Nat → List Nat) (st : Nat → Nat) (sg : List (Nat × Nat × Nat)) (h : Int64) : Int64 :=
  hx ((31 : Int64) * ((31 : Int64) * (smH (whoS L st sg) 3 0 (hx (hx (hx (hx (hx (hx (hx (hx (hx h (fiS L st 0)) (fiS L st 1)) (iI (hiC (nW L) (gW' L st)))) (plA (mdF st (nW L) (gW' L st)) (-1))) (plA (mdF st (nW L) (gW' L st)) 0)) (plA (opF st (nW L) 3 (gW' L st)) (-1))) (plA (opF st (nW L) 3 (gW' L st)) 0)) (sdA st (nW L) 2 ((st 0 + (tW L).length) % 2) (gW' L st) 0)) (sdA st (nW L) 2 ((st 0 + (tW L).length) % 2) (gW' L st) 1))) + frA L st 5 0) + frA L st 5 1) (yrN L st)
def digH (L : Nat → List Nat) (st : Nat → Nat) (sg : List (Nat × Nat × Nat)) : Int64 :=
  plnH L st sg (smH (fun c => yrV L st c) (nW L) 0 (smH (bhV L st (tW L).length) 4 0 (smH (bhV L st 0) 4 0 (smC (fun t h => smH (tuV L st t) 3 0 h) (tW L).length 0 (smC (fun c h => hcol L st (tW L).length c (hcol L st 0 c h)) (nW L) 0 (hx (hx (smH (ctV L st sg) 8 0 (17 : Int64)) (iI (parseW (L 0)).1)) (iI (parseT (L 1)).1)))))))
theorem d_yearsN {S : sT} {L : Nat → List Nat} {st : Nat → Nat} (h1 : CI S L st) : ∃ S', f_X10_years (7 : Int32) (9 : Int32) (-1 : Int32) S = some (yrN L st, S') ∧ Fr1 PCs S S' := by
  have h12 : (tW L).length ≤ 12 := (parseT_ok (L 1)).1
  have hW := wallN h1 (Nat.le_refl (tW L).length)
  unfold yrN
  by_cases q : nW L = 0
  · have eC : f_X9_columnCount (tW L).length S = some (iI (nW L)) := by unfold f_X9_columnCount; rw [hW.2.1]
    refine ⟨S, ?_, Fr1.rf⟩
    unfold f_X10_years
    rw [p_last h1, bn_s, decide_eq_true (show (tW L).length < 16 by omega), ck_t, i_9, show f_X10_within (iI 9) (1 : Int32) (40 : Int32) S = _ from p_within (a := 1) (b := 40) S (by omega) (by omega) (by omega) (by omega) (by omega) (by omega), bn_s, b2i_p (by omega), if_neg (show ¬ (iI 1 = (0 : Int32)) from z10), eC, bn_s, if_pos (by rw [q]; rfl), if_pos q]
  · obtain ⟨S1, e1, F1⟩ := cD_years (seed := (7 : Int32)) (y := 9) (c := -1) h1 (by omega) (by omega) (by omega) (by omega) (by omega)
    rw [show iI ((9 : Nat) : Int) = (9 : Int32) from rfl, show iI (-1) = (-1 : Int32) from rfl] at e1
    rw [if_neg q]
    exact ⟨S1, e1, F1⟩
theorem cD_plans {S : sT} {L : Nat → List Nat} {st : Nat → Nat} {sg : List (Nat × Nat × Nat)} (h1 : CI S L st) (hB : SB sg) (hG : SGc S sg) (h : Int64) : ∃ S', f_X10_mixPlans h S = some (plnH L st sg h, S') ∧ Fr1 PCs S S' := by
  have hF : 1000 < FU := by unfold FU; omega
  have z0 : (0 : Int32) = iI 0 := rfl
  have zN : (0 : Int32) = iI ((0 : Nat) : Int) := rfl
  have zN1 : (1 : Int32) = iI ((1 : Nat) : Int) := rfl
  have f0 := cV_first (w := 0) h1 (by omega)
  have f1 := cV_first (w := 1) h1 (by omega)
  rw [← zN] at f0
  rw [← zN1] at f1
  obtain ⟨S1, e1, F1⟩ := cD_mend (i := -1) h1 (by omega) (by omega)
  have h2 := h1.fr1 F1
  obtain ⟨S2, e2, F2⟩ := cD_mend (i := 0) h2 (by omega) (by omega)
  have h3 := h2.fr1 F2
  obtain ⟨S3, e3, F3⟩ := cD_open (p := 3) (i := -1) h3 (by omega) (by omega) (by omega)
  have h4 := h3.fr1 F3
  obtain ⟨S4, e4, F4⟩ := cD_open (p := 3) (i := 0) h4 (by omega) (by omega) (by omega)
  have h5 := h4.fr1 F4
  obtain ⟨S5, e5, F5⟩ := cD_sides (k := 2) (w := 0) h5 (by omega) (by omega) (by omega) (by omega)
  have h6 := h5.fr1 F5
  obtain ⟨S6, e6, F6⟩ := cD_sides (k := 2) (w := 1) h6 (by omega) (by omega) (by omega) (by omega)
  have h7 := h6.fr1 F6
  have FA := ((((F1.tr F2).tr F3).tr F4).tr F5).tr F6
  have hG7 := hG.fr1 FA
  rw [show iI (-1) = (-1 : Int32) from rfl] at e1 e3
  rw [show iI 0 = (0 : Int32) from rfl] at e2 e4 e5
  rw [show iI ((3 : Nat) : Int) = (3 : Int32) from rfl] at e3 e4
  rw [show iI ((2 : Nat) : Int) = (2 : Int32) from rfl] at e5 e6
  rw [show iI 1 = (1 : Int32) from rfl] at e6
  have tail : ∀ (x : Int64) (S7 : sT), CI S7 L st → ∃ S', bn2 (f_X10_frost (5 : Int32) (0 : Int32) S7) (fun r46 S47 => bn (f_X10_mix x r46 S47) (fun r49 => bn2 (f_X10_frost (5 : Int32) (1 : Int32) S47) (fun r51 S52 => bn (f_X10_mix r49 r51 S52) (fun r54 => bn2 (f_X10_years (7 : Int32) (9 : Int32) (-1 : Int32) S52) (fun r56 S57 => bn (f_X10_mix r54 ((r56).toInt64) S57) (fun r59 => some (r59, S57))))))) = some (hx ((31 : Int64) * ((31 : Int64) * x + frA L st 5 0) + frA L st 5 1) (yrN L st), S') ∧ Fr1 PCs S7 S' := by
    intro x S7 k1
    obtain ⟨S8, g1, G1⟩ := cD_frost (c := 5) (w := 0) k1 (by omega) (by omega) (by omega)
    obtain ⟨S9, g2, G2⟩ := cD_frost (c := 5) (w := 1) (k1.fr1 G1) (by omega) (by omega) (by omega)
    obtain ⟨S10, g3, G3⟩ := d_yearsN ((k1.fr1 G1).fr1 G2)
    rw [show iI ((5 : Nat) : Int) = (5 : Int32) from rfl] at g1 g2
    rw [show iI 0 = (0 : Int32) from rfl] at g1
    rw [show iI 1 = (1 : Int32) from rfl] at g2
    refine ⟨S10, ?_, (G1.tr G2).tr G3⟩
    unfold f_X10_mix
    rw [g1, bn2_s, bn_s, g2, bn2_s, bn_s, g3, bn2_s, bn_s]
    rfl
  obtain ⟨S7, w1, W1⟩ := d_who hB (fun (x43 : Int64) (S44 : sT) => bn2 (f_X10_frost (5 : Int32) (0 : Int32) S44) (fun r46 S47 => bn (f_X10_mix x43 r46 S47) (fun r49 => bn2 (f_X10_frost (5 : Int32) (1 : Int32) S47) (fun r51 S52 => bn (f_X10_mix r49 r51 S52) (fun r54 => bn2 (f_X10_years (7 : Int32) (9 : Int32) (-1 : Int32) S52) (fun r56 S57 => bn (f_X10_mix r54 ((r56).toInt64) S57) (fun r59 => some (r59, S57)))))))) 3 0 FU (hx (hx (hx (hx (hx (hx (hx (hx (hx h (fiS L st 0)) (fiS L st 1)) (iI (hiC (nW L) (gW' L st)))) (plA (mdF st (nW L) (gW' L st)) (-1))) (plA (mdF st (nW L) (gW' L st)) 0)) (plA (opF st (nW L) 3 (gW' L st)) (-1))) (plA (opF st (nW L) 3 (gW' L st)) 0)) (sdA st (nW L) 2 ((st 0 + (tW L).length) % 2) (gW' L st) 0)) (sdA st (nW L) 2 ((st 0 + (tW L).length) % 2) (gW' L st) 1)) S6 h7 hG7 (by omega) (by omega)
  rw [← zN] at w1
  obtain ⟨S', t1, t2⟩ := tail (smH (whoS L st sg) 3 0 (hx (hx (hx (hx (hx (hx (hx (hx (hx h (fiS L st 0)) (fiS L st 1)) (iI (hiC (nW L) (gW' L st)))) (plA (mdF st (nW L) (gW' L st)) (-1))) (plA (mdF st (nW L) (gW' L st)) 0)) (plA (opF st (nW L) 3 (gW' L st)) (-1))) (plA (opF st (nW L) 3 (gW' L st)) 0)) (sdA st (nW L) 2 ((st 0 + (tW L).length) % 2) (gW' L st) 0)) (sdA st (nW L) 2 ((st 0 + (tW L).length) % 2) (gW' L st) 1))) S7 (h7.fr1 W1)
  refine ⟨S', ?_, (FA.tr W1).tr t2⟩
  unfold f_X10_mixPlans
  rw [f0, bn_s, p_mix, bn_s, f1, bn_s, p_mix, bn_s, cV_highest h1, bn_s, p_mix, bn_s, e1, bn2_s, p_mix, bn_s, e2, bn2_s, p_mix, bn_s, e3, bn2_s, p_mix, bn_s, e4, bn2_s, p_mix, bn_s, e5, bn2_s, p_mix, bn_s, e6, bn2_s, p_mix, bn_s, jn_b]
  exact w1.trans t1
theorem cD_digest {S : sT} {L : Nat → List Nat} {st : Nat → Nat} {sg : List (Nat × Nat × Nat)} (h1 : CI S L st) (hB : SB sg) (hG : SGc S sg) : ∃ S', f_X10_digest S = some (digH L st sg, S') ∧ Fr1 PCs S S' := by
  have h12 : (tW L).length ≤ 12 := (parseT_ok (L 1)).1
  have hn := (wallN h1 (Nat.le_refl (tW L).length)).1
  have hF : 1000 < FU := by unfold FU; omega
  have zN : (0 : Int32) = iI ((0 : Nat) : Int) := rfl
  have ef0 : f_X10_fault (0 : Int32) S = some (iI (parseW (L 0)).1) := by
    unfold f_X10_fault
    rw [if_pos rfl, h1.2.2.2.2.2.1]
  have ef1 : f_X10_fault (1 : Int32) S = some (iI (parseT (L 1)).1) := by
    unfold f_X10_fault
    rw [if_neg (by decide), if_pos rfl, h1.2.2.2.2.2.2]
  obtain ⟨S1, e1, F1⟩ := d_years (L := L) (st := st) (fun (x18 : Int64) (S19 : sT) => bn2 (f_X10_mixPlans x18 S19) (fun r21 S22 => some (r21, S22))) (nW L) 0 FU (smH (bhV L st (tW L).length) 4 0 (smH (bhV L st 0) 4 0 (smC (fun t h => smH (tuV L st t) 3 0 h) (tW L).length 0 (smC (fun c h => hcol L st (tW L).length c (hcol L st 0 c h)) (nW L) 0 (hx (hx (smH (ctV L st sg) 8 0 (17 : Int64)) (iI (parseW (L 0)).1)) (iI (parseT (L 1)).1)))))) S h1 (by omega) (by omega)
  obtain ⟨S2, e2, F2⟩ := cD_plans (h1.fr1 F1) hB (hG.fr1 F1) (smH (fun c => yrV L st c) (nW L) 0 (smH (bhV L st (tW L).length) 4 0 (smH (bhV L st 0) 4 0 (smC (fun t h => smH (tuV L st t) 3 0 h) (tW L).length 0 (smC (fun c h => hcol L st (tW L).length c (hcol L st 0 c h)) (nW L) 0 (hx (hx (smH (ctV L st sg) 8 0 (17 : Int64)) (iI (parseW (L 0)).1)) (iI (parseT (L 1)).1)))))))
  refine ⟨S2, ?_, F1.tr F2⟩
  have c1 := d_count h1 hG (fun (x1 : Int64) => bn (f_X10_fault (0 : Int32) S) (fun r3 => bn (f_X10_mix x1 ((r3).toInt64) S) (fun r5 => bn (f_X10_fault (1 : Int32) S) (fun r7 => bn (f_X10_mix r5 ((r7).toInt64) S) (fun r9 => jn (fun (x10 : Int64) => jn (fun (x11 : Int64) => bn (f_X10_mixBehind x11 (0 : Int32) S) (fun r13 => bn (f_X1_turnCount S) (fun r15 => bn (f_X10_mixBehind r13 r15 S) (fun r17 => jn (fun (x18 : Int64) (S19 : sT) => bn2 (f_X10_mixPlans x18 S19) (fun r21 S22 => some (r21, S22))) (fun j23 => l_X10_digest_164 j23 FU r17 (0 : Int32) S))))) (fun j40 => l_X10_digest_97 S j40 FU x10 (0 : Int32))) (fun j59 => l_X10_digest_53 S j59 FU r9 (0 : Int32))))))) 8 0 FU (17 : Int64) (by omega) (by omega)
  rw [← zN] at c1 e1
  unfold f_X10_digest
  rw [jn_b, c1]
  rw [ef0, bn_s, p_mix, bn_s, ef1, bn_s, p_mix, bn_s, jn_b]
  have c2 := fun (J : Int64 → Option (Int64 × sT)) (h : Int64) => d_cols h1 J (nW L) 0 FU h (by omega) (by omega)
  rw [← zN] at c2
  rw [c2]; (try dsimp only); rw [jn_b]
  have c3 := fun (J : Int64 → Option (Int64 × sT)) (h : Int64) => d_turns h1 J (tW L).length 0 FU h (by omega) (by omega)
  rw [← zN] at c3
  rw [c3]; (try dsimp only)
  have b0 := d_behind h1 (N := 0) (by omega)
  rw [← zN] at b0
  have et : f_X1_turnCount S = some (iI (tW L).length) := by unfold f_X1_turnCount; rw [h1.2.2.2.2.1.1]
  rw [b0, bn_s, et, bn_s, d_behind h1 (Nat.le_refl _), bn_s, jn_b]
  refine Eq.trans e1 ?_
  rw [e2, bn2_s]
  rfl
