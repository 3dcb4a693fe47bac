/-! the digest: what it tells, by the reference -/
def PRM : Nat → Nat → Prop := fun k i => PR k i ∨ PX k i
theorem PR_prm {S S' : sT} (h : Fr PR S S') : Fr1 PRM S S' := Fr1.mono h.1 (fun k i z => Or.inl z)
theorem PM_prm {S S' : sT} (h : Fr PM S S') : Fr1 PRM S S' := Fr1.mono h.1 (fun k i z => Or.inr (PM_px k i z))
theorem PX_prm {S S' : sT} (h : Fr1 PX S S') : Fr1 PRM S S' := Fr1.mono h (fun k i z => Or.inr z)
def IR (S : sT) (L : Nat → List Nat) (st : Nat → Nat) (sg : List (Nat × Nat × Nat)) : Prop := (∀ t, t < 2 → MT S t (L t)) ∧ MS S st ∧ SGm S sg
theorem IR.fr {S S' : sT} {L : Nat → List Nat} {st : Nat → Nat} {sg : List (Nat × Nat × Nat)} (h : IR S L st sg) (hF : Fr1 PRM S S') : IR S' L st sg := by
  obtain ⟨h1, h2, h3⟩ := h
  have F := hF.fr
  refine ⟨fun t ht => ((h1 t ht).fr F ⟨by unfold PRM PR PB PQ PX; omega, by unfold PRM PR PB PQ PX; omega⟩ : MT (S'.1, S.2) t (L t)), ?_, ?_⟩
  · unfold MS
    rw [hF 42 0 (by unfold PRM PR PB PQ PX; omega)]
    exact h2
  · unfold SGm
    rw [hF 121 0 (by unfold PRM PR PB PQ PX; omega), hF 46 0 (by unfold PRM PR PB PQ PX; omega)]
    exact h3
theorem R9.pr {S S' : sT} (h : R9 S) (F : Fr PR S S') : R9 S' := by unfold R9; rw [F.1 119 0 (by unfold PR PB PQ; omega)]; exact h
theorem Inv.prm {S S' : sT} (h : Inv S) (hF : Fr1 PRM S S') (h9 : R9 S') : Inv S' := by
  obtain ⟨L, st, sg, h1, h2, h3, h4, h5⟩ := h
  have F := hF.fr
  have g1 : CI (S'.1, S.2) L st := h1.fr F (fun k i z => by unfold KC at z; unfold PRM PR PB PQ PX; omega)
  have g3 : SG (S'.1, S.2) sg := h3.fr F (fun k i z => by unfold KG at z; unfold PRM PR PB PQ PX; omega)
  have g4 : SH (S'.1, S.2) := h4.fr F (fun k i z => by unfold KH at z; unfold PRM PR PB PQ PX; omega)
  obtain ⟨a1, a2, a3⟩ := h2
  refine ⟨L, st, sg, g1, ⟨fun t ht => (?_ : MT (S'.1, S.2) t (L t)), fun k hk => ?_, h9⟩, g3, g4, ?_⟩
  · exact (a1 t ht).fr F ⟨by unfold PRM PR PB PQ PX; omega, by unfold PRM PR PB PQ PX; omega⟩
  · rw [hF 42 0 (by unfold PRM PR PB PQ PX; omega)]; exact a2 k hk
  · rw [hF 111 0 (by unfold PRM PR PB PQ PX; omega), hF 113 0 (by unfold PRM PR PB PQ PX; omega)]; exact h5
/-- the reference has read its texts -/
theorem IR.reads {S : sT} {L : Nat → List Nat} {st : Nat → Nat} {sg : List (Nat × Nat × Nat)} (h : IR S L st sg) (h9 : R9 S) : ∃ S1, f_X11_reads S = some S1 ∧ RD S1 L st sg ∧ R9 S1 ∧ Fr PR S S1 := by
  obtain ⟨S1, e1, e2, e3, e4⟩ := m_reads (h.1 0 (by omega)) (h.1 1 (by omega))
  have h' := h.fr (PR_prm e4)
  exact ⟨S1, e1, ⟨e2, e3, h'.2.1, h'.2.2⟩, h9.pr e4, e4⟩
theorem m_busy_l {L : Nat → List Nat} {st : Nat → Nat} {sg : List (Nat × Nat × Nat)} : ∀ (d k m a : Nat) (S : sT), RD S L st sg → R9 S → RM S (nW L) (wAt st (nW L) (tW L) (fW L) k) → k + d = (tW L).length → d < m → a ≤ k → ∃ S', l_X11_working_8 m (iI a) (iI k) S = some (iI (bsyS st (nW L) (tW L) (fW L) d k a), S') ∧ Fr PM S S' := by
  have hO := parseT_ok (L 1)
  have h12 : (tW L).length ≤ 12 := hO.1
  intro d
  induction d with
  | zero =>
    intro k m a S hD h9 hW hk hm ha
    obtain ⟨m, rfl⟩ : ∃ m', m = m' + 1 := ⟨m - 1, by omega⟩
    refine ⟨S, ?_, Fr.rf⟩
    rw [l_X11_working_8_s]
    unfold b_X11_working_8
    rw [hD.2.1.1, if_pos (by rw [iI_le (by omega) (by omega) (by omega) (by omega)]; omega)]
    rfl
  | succ d ih =>
    intro k m a S hD h9 hW hk hm ha
    obtain ⟨m, rfl⟩ : ∃ m', m = m' + 1 := ⟨m - 1, by omega⟩
    obtain ⟨S2, b1, b2, b3, b4, b5⟩ := m_goes (odd := 99) (how := 0) hO (show k < (tW L).length by omega) hD.2.1 hD.2.2.1 hW h9.ho
    obtain ⟨g3, g4⟩ := tookG_99 (st := st) (n := nW L) (k := k) (ts := tW L) (f0 := fW L) (by omega)
    rw [g3] at b3
    rw [g4] at b4
    have lb : laidQ st (nW L) (tW L) (fW L) k ≤ 3 := laidQ_b (st := st) (n := nW L) (f0 := fW L) hO (show k < (tW L).length by omega)
    have tb := b2i_b (tookQ st (nW L) (tW L) (fW L) k)
    have hi1 : iI (k : Int) + (1 : Int32) = iI ((k + 1 : Nat) : Int) := by rw [i_1, iI_add]; rfl
    have eb : bsyS st (nW L) (tW L) (fW L) (d + 1) k a = bsyS st (nW L) (tW L) (fW L) d (k + 1) (if b2i (tookQ st (nW L) (tW L) (fW L) k) + (laidQ st (nW L) (tW L) (fW L) k : Int) ≤ 0 then a else a + 1) := rfl
    rw [l_X11_working_8_s, eb]
    unfold b_X11_working_8
    rw [hD.2.1.1, if_neg (by rw [iI_le (by omega) (by omega) (by omega) (by omega)]; omega), b1, bn_s, b3, b4]
    simp only [jn_b, lt_b, hi1]
    by_cases e : b2i (tookQ st (nW L) (tW L) (fW L) k) + (laidQ st (nW L) (tW L) (fW L) k : Int) ≤ 0
    · rw [if_pos (by rw [iI_add, i_0, iI_le (by omega) (by omega) (by omega) (by omega)]; omega), if_pos e, show iI (a : Int) + (0 : Int32) = iI (a : Int) by rw [i_0, iI_add]; congr 1]
      obtain ⟨S', d1, d2⟩ := ih (k + 1) m a S2 (hD.pm b5) (h9.pm b5) b2 (by omega) (by omega) (by omega)
      exact ⟨S', d1, b5.tr d2⟩
    · rw [if_neg (by rw [iI_add, i_0, iI_le (by omega) (by omega) (by omega) (by omega)]; omega), if_neg e, show iI (a : Int) + (1 : Int32) = iI ((a + 1 : Nat) : Int) by rw [i_1, iI_add]; rfl]
      obtain ⟨S', d1, d2⟩ := ih (k + 1) m (a + 1) S2 (hD.pm b5) (h9.pm b5) b2 (by omega) (by omega) (by omega)
      exact ⟨S', d1, b5.tr d2⟩
theorem mV_count {S : sT} {L : Nat → List Nat} {st : Nat → Nat} {sg : List (Nat × Nat × Nat)} {k : Nat} (h : IR S L st sg) (h9 : R9 S) (hk : k ≤ 7) : ∃ S', f_X11_count (iI k) S = some (ctV L st sg k, S') ∧ Fr1 PRM S S' ∧ R9 S' := by
  have h12 : (tW L).length ≤ 12 := (parseT_ok (L 1)).1
  have hF : 1000 < FU := by unfold FU; omega
  obtain ⟨S1, e1, hD, k9, F⟩ := h.reads h9
  have h' := h.fr (PR_prm F)
  have hn := hD.1.1
  unfold f_X11_count ctV
  rw [e1, bn_s]
  rcases (show k = 0 ∨ k = 1 ∨ k = 2 ∨ k = 3 ∨ k = 4 ∨ k = 5 ∨ k = 6 ∨ k = 7 by omega) with rfl | rfl | rfl | rfl | rfl | rfl | rfl | rfl
  · rw [if_pos (by decide), if_pos rfl, hD.1.2.1]
    exact ⟨S1, rfl, PR_prm F, k9⟩
  · rw [if_neg (by decide), if_pos (by decide), if_neg (by omega), if_pos rfl, hD.2.1.1]
    exact ⟨S1, rfl, PR_prm F, k9⟩
  · rw [if_neg (by decide), if_neg (by decide), if_pos (by decide), if_neg (by omega), if_neg (by omega), if_pos rfl, show vi (iI ((2 : Nat) : Int) - (2 : Int32)) 2 = true by decide, ck_t, show cl (iI ((2 : Nat) : Int) - (2 : Int32)) = 0 by decide, (h'.1 0 (by omega)).1]
    exact ⟨S1, rfl, PR_prm F, k9⟩
  · rw [if_neg (by decide), if_neg (by decide), if_neg (by decide), if_pos (by decide), if_neg (by omega), if_neg (by omega), if_neg (by omega), if_pos rfl, show vi (iI ((3 : Nat) : Int) - (2 : Int32)) 2 = true by decide, ck_t, show cl (iI ((3 : Nat) : Int) - (2 : Int32)) = 1 by decide, (h'.1 1 (by omega)).1]
    exact ⟨S1, rfl, PR_prm F, k9⟩
  · rw [if_neg (by decide), if_neg (by decide), if_neg (by decide), if_neg (by decide), if_pos (by decide), if_neg (by omega), if_neg (by omega), if_neg (by omega), if_neg (by omega), if_pos rfl, hD.2.2.2.1]
    exact ⟨S1, rfl, PR_prm F, k9⟩
  · rw [if_neg (by decide), if_neg (by decide), if_neg (by decide), if_neg (by decide), if_neg (by decide), if_pos (by decide), if_neg (by omega), if_neg (by omega), if_neg (by omega), if_neg (by omega), if_neg (by omega), if_pos rfl]
    obtain ⟨S2, a1, a2, a3, a4⟩ := hD.lives k9.ho (Nat.le_refl _)
    have e := m_count_l a2 (nW L) 0 FU 0 (by omega) (by omega) (by omega)
    rw [hD.2.1.1, a1, bn_s]
    exact ⟨S2, e, (PR_prm F).tr (PM_prm a4), k9.pm a4⟩
  · rw [if_neg (by decide), if_neg (by decide), if_neg (by decide), if_neg (by decide), if_neg (by decide), if_neg (by decide), if_pos (by decide), if_neg (by omega), if_neg (by omega), if_neg (by omega), if_neg (by omega), if_neg (by omega), if_neg (by omega), if_pos rfl]
    obtain ⟨S2, b1, b2, b3⟩ := m_begins hD.1
    have b3 := PL.pm b3
    obtain ⟨S3, c1, c2⟩ := m_busy_l (tW L).length 0 FU 0 S2 (hD.pm b3) (k9.pm b3) b2 (by omega) (by omega) (by omega)
    have eW : f_X11_working S1 = some (iI (bsyS st (nW L) (tW L) (fW L) (tW L).length 0 0), S3) := by
      unfold f_X11_working
      rw [b1, bn_s]
      exact c1
    rw [eW, bn2_s]
    exact ⟨S3, rfl, ((PR_prm F).tr (PM_prm b3)).tr (PM_prm c2), (k9.pm b3).pm c2⟩
  · rw [if_neg (by decide), if_neg (by decide), if_neg (by decide), if_neg (by decide), if_neg (by decide), if_neg (by decide), if_neg (by decide), if_pos (by decide), if_neg (by omega), if_neg (by omega), if_neg (by omega), if_neg (by omega), if_neg (by omega), if_neg (by omega), if_neg (by omega), show vi (2 : Int32) 6 = true by decide, ck_t, show cl (2 : Int32) = 2 by decide, (hD.2.2.1 2 (by omega)).1]
    exact ⟨S1, rfl, PR_prm F, k9⟩
theorem m_stoneB {S : sT} {L : Nat → List Nat} {st : Nat → Nat} {sg : List (Nat × Nat × Nat)} {N c : Nat} (hD : RD S L st sg) (h9 : R9 S) (hN : N ≤ (tW L).length) (hc : c < nW L) : ∃ S', Fr PM S S' ∧ f_X11_stoneBehind (iI N) (iI c) (-1 : Int32) S = some (iI (wN L st N c).length, S') ∧ f_X11_stoneBehind (iI N) (iI c) (0 : Int32) S = some (iI (st0 (wN L st N c)), S') := by
  have hn := hD.1.1
  obtain ⟨S2, a1, a2, a3, a4⟩ := hD.lives h9.ho hN
  obtain ⟨b1, b2, b3, b4⟩ := a2.2.2 c (by omega)
  have b5 : (wN L st N c).length ≤ 8 := b1.1
  have hb3 : S2.1 44 0 c = iI (wN L st N c).length := b3
  refine ⟨S2, a4, ?_, ?_⟩
  · unfold f_X11_stoneBehind
    rw [a1, bn_s, if_pos rfl, vi_iI (by omega) (by omega) (by omega), ck_t, cl_iI (by omega) (by omega), Int.toNat_natCast, hb3]
  · unfold f_X11_stoneBehind st0
    rw [a1, bn_s, if_neg (by decide), vi_iI (by omega) (by omega) (by omega), ck_t, cl_iI (by omega) (by omega), Int.toNat_natCast, hb3]
    by_cases q : 0 < (wN L st N c).length
    · have hb4 : S2.1 43 0 (8 * c + 0) = iI (nth (wN L st N c) 0) := b4 0 q
      rw [if_pos q, if_neg (by rw [i_0, iI_le (by omega) (by omega) (by omega) (by omega)]; omega), i_8, i_0, iI_mul, iI_add, show (8 : Int) * (c : Int) + 0 = ((8 * c + 0 : Nat) : Int) by omega, vi_iI (by omega) (by omega) (by omega), ck_t, cl_iI (by omega) (by omega), Int.toNat_natCast, hb4]
    · rw [if_neg q, if_pos (by rw [i_0, iI_le (by omega) (by omega) (by omega) (by omega)]; omega)]
      rfl
theorem mV_col {S : sT} {L : Nat → List Nat} {st : Nat → Nat} {sg : List (Nat × Nat × Nat)} {N c : Nat} {h : Int64} (hD : RD S L st sg) (h9 : R9 S) (hN : N ≤ (tW L).length) (hc : c < nW L) : ∃ S', f_X11_tellsColumn h (iI N) (iI c) S = some (hcol L st N c h, S') ∧ Fr PM S S' := by
  have hn := hD.1.1
  obtain ⟨S2, a1, a2, a3, a4⟩ := hD.lives h9.ho hN
  have eh : f_X11_heightOf (iI N) (iI c) S = some (iI (ht (wN L st N c)), S2) := by
    unfold f_X11_heightOf
    rw [a1, bn_s, m_highOf a2 (by omega), bn_s]
  obtain ⟨S3, F3, b1, -⟩ := m_stoneB a3 (h9.pm a4) hN hc
  obtain ⟨S4, F4, -, b2⟩ := m_stoneB (a3.pm F3) ((h9.pm a4).pm F3) hN hc
  refine ⟨S4, ?_, (a4.tr F3).tr F4⟩
  unfold f_X11_tellsColumn
  rw [eh, bn2_s, lt_b, m_leanOf a2 (by omega), bn_s, lt_b, b1, bn2_s, lt_b, b2, bn2_s]
  rfl
theorem mV_behind {S : sT} {L : Nat → List Nat} {st : Nat → Nat} {sg : List (Nat × Nat × Nat)} {N w : Nat} (hD : RD S L st sg) (h9 : R9 S) (hN : N ≤ (tW L).length) (hw : w ≤ 3) : ∃ S', f_X11_behindOf (iI N) (iI w) S = some (bhV L st N w, S') ∧ Fr PM S S' := by
  obtain ⟨S2, a1, a2, a3, a4⟩ := hD.lives h9.ho hN
  refine ⟨S2, ?_, a4⟩
  unfold f_X11_behindOf bhV
  rw [a1, bn_s]
  rcases (show w = 0 ∨ w = 1 ∨ w = 2 ∨ w = 3 by omega) with rfl | rfl | rfl | rfl
  · rw [if_pos (by decide), m_weakNow a2 a3.2.2.1, bn_s, if_pos rfl]
  · rw [if_neg (by decide), if_pos (by decide), m_pearsNow a2 a3.2.2.1, bn_s, if_neg (by omega), if_pos rfl]
  · rw [if_neg (by decide), if_neg (by decide), show iI ((2 : Nat) : Int) - (2 : Int32) = iI ((0 : Nat) : Int) from by decide, m_weighs a2 (by omega), bn_s, if_neg (by omega), if_neg (by omega)]
  · rw [if_neg (by decide), if_neg (by decide), show iI ((3 : Nat) : Int) - (2 : Int32) = iI ((1 : Nat) : Int) from by decide, m_weighs a2 (by omega), bn_s, if_neg (by omega), if_neg (by omega)]
theorem mV_turn {S : sT} {L : Nat → List Nat} {st : Nat → Nat} {sg : List (Nat × Nat × Nat)} {t w : Nat} (hD : RD S L st sg) (h9 : R9 S) (ht : t < (tW L).length) (hw : w ≤ 2) : ∃ S', f_X11_turnOf (iI t) (iI w) S = some (tuV L st t w, S') ∧ Fr PM S S' := by
  have h12 : (tW L).length ≤ 12 := (parseT_ok (L 1)).1
  obtain ⟨S2, a1, a2, a3, a4⟩ := m_lives (parseT_ok (L 1)) (show t + 1 ≤ (tW L).length by omega) hD.2.1 hD.2.2.1 hD.1 h9.ho
  obtain ⟨g1, g2⟩ := a4 t rfl
  obtain ⟨g3, g4⟩ := tookG_99 (st := st) (n := nW L) (k := t) (ts := tW L) (f0 := fW L) (by omega)
  rw [g3] at g1
  rw [g4] at g2
  have hD2 := hD.pm a3
  refine ⟨S2, ?_, a3⟩
  unfold f_X11_turnOf tuV
  rw [show iI (t : Int) + (1 : Int32) = iI ((t + 1 : Nat) : Int) by rw [i_1, iI_add]; rfl, a1, bn_s]
  rcases (show w = 0 ∨ w = 1 ∨ w = 2 by omega) with rfl | rfl | rfl
  · rw [if_pos (by decide), m_whose hD2.2.2.1 (h9.pm a3).ho (by omega), bn_s, if_pos rfl]
    unfold whoQ
    rw [if_neg (by omega)]
  · rw [if_neg (by decide), if_pos (by decide), g1, if_neg (by omega), if_pos rfl]
  · rw [if_neg (by decide), if_neg (by decide), g2, if_neg (by omega), if_neg (by omega)]
theorem m_first_l {L : Nat → List Nat} {st : Nat → Nat} {sg : List (Nat × Nat × Nat)} {w : Nat} (hw : w ≤ 1) : ∀ (d k m : Nat) (S : sT), RD S L st sg → R9 S → k + d = (tW L).length + 1 → d < m → ∃ S', l_X11_firstOf_2 (fun (x1 : Int32) (x2 : Int32) (S3 : sT) => (if iI (w : Int) = (0 : Int32) then some (x1, S3) else some (x2, S3))) m (iI k) S = some (fiV (frS L st d k) w, S') ∧ Fr PM S S' := by
  have h12 : (tW L).length ≤ 12 := (parseT_ok (L 1)).1
  have hF : 1000 < FU := by unfold FU; omega
  intro d
  induction d with
  | zero =>
    intro k m S hD h9 hk hm
    obtain ⟨m, rfl⟩ : ∃ m', m = m' + 1 := ⟨m - 1, by omega⟩
    refine ⟨S, ?_, Fr.rf⟩
    rw [l_X11_firstOf_2_s]
    unfold b_X11_firstOf_2
    rw [hD.2.1.1, if_pos (by rw [iI_lt (by omega) (by omega) (by omega) (by omega)]; omega)]
    rfl
  | succ d ih =>
    intro k m S hD h9 hk hm
    obtain ⟨m, rfl⟩ : ∃ m', m = m' + 1 := ⟨m - 1, by omega⟩
    obtain ⟨S2, a1, a2, a3, a4⟩ := hD.lives h9.ho (N := k) (by omega)
    have hn := a2.1
    have ef : frS L st (d + 1) k = (match lwS st (nW L) (wN L st k) with | some c => some (k, c) | none => frS L st d (k + 1)) := rfl
    rw [l_X11_firstOf_2_s, ef]
    unfold b_X11_firstOf_2
    rw [hD.2.1.1, if_neg (by rw [iI_lt (by omega) (by omega) (by omega) (by omega)]; omega), a1, bn_s, m_weakNow a2 a3.2.2.1, bn_s, jn_b, lt_b, show iI (k : Int) + (1 : Int32) = iI ((k + 1 : Nat) : Int) by rw [i_1, iI_add]; rfl]
    obtain ⟨S', d1, d2⟩ := ih (k + 1) m S2 a3 (h9.pm a4) (by omega) (by omega)
    have key := m_firstOf_i (st := st) a2 (fun (x1 : Int32) (x2 : Int32) (S3 : sT) => (if iI (w : Int) = (0 : Int32) then some (x1, S3) else some (x2, S3))) (iI k) (l_X11_firstOf_2 (fun (x1 : Int32) (x2 : Int32) (S3 : sT) => (if iI (w : Int) = (0 : Int32) then some (x1, S3) else some (x2, S3))) m (iI ((k + 1 : Nat) : Int)) S2) (nW L) 0 FU (by omega) (by omega) (fun c hc => absurd hc (by omega))
    rw [show iI ((0 : Nat) : Int) = (0 : Int32) from rfl] at key
    unfold lwS
    rcases key with ⟨c, c1, c2, c3, c4⟩ | ⟨c1, c2⟩
    · rw [c4]
      rcases fs_wk (P := wk st (nW L) (wN L st k)) (nW L) 0 with ⟨b1, b2⟩ | ⟨c', b1, b2, b3, b4, b5⟩
      · rw [b2 c (by omega) (by omega)] at c2; cases c2
      · have hcc : c' = c := by
          rcases Nat.lt_trichotomy c' c with q | q | q
          · rw [c3 c' q] at b3; cases b3
          · exact q
          · rw [b4 c (by omega) q] at c2; cases c2
        subst hcc
        rw [b5]
        refine ⟨S2, ?_, a4⟩
        show (if iI (w : Int) = (0 : Int32) then some (iI (k : Int), S2) else some (iI (c' : Int), S2)) = some (if w = 0 then iI (k : Int) else iI (c' : Int), S2)
        by_cases q : w = 0
        · rw [if_pos (by rw [q]; rfl), if_pos q]
        · rw [if_neg (by rw [i_0, iI_eq (by omega) (by omega) (by omega) (by omega)]; omega), if_neg q]
    · rw [c2]
      rcases fs_wk (P := wk st (nW L) (wN L st k)) (nW L) 0 with ⟨b1, b2⟩ | ⟨c', b1, b2, b3, b4, b5⟩
      · rw [b1]
        exact ⟨S', d1, a4.tr d2⟩
      · rw [c1 c' (by omega)] at b3; cases b3
theorem mV_first {S : sT} {L : Nat → List Nat} {st : Nat → Nat} {sg : List (Nat × Nat × Nat)} {w : Nat} (hD : RD S L st sg) (h9 : R9 S) (hw : w ≤ 1) : ∃ S', f_X11_firstOf (iI w) S = some (fiS L st w, S') ∧ Fr PM S S' := by
  have h12 : (tW L).length ≤ 12 := (parseT_ok (L 1)).1
  have hF : 1000 < FU := by unfold FU; omega
  obtain ⟨S', e1, e2⟩ := m_first_l hw ((tW L).length + 1) 0 FU S hD h9 (by omega) (by omega)
  rw [show iI ((0 : Nat) : Int) = (0 : Int32) from rfl] at e1
  refine ⟨S', ?_, e2⟩
  unfold f_X11_firstOf
  rw [jn_b]
  exact e1
theorem mV_highest {S : sT} {L : Nat → List Nat} {st : Nat → Nat} {sg : List (Nat × Nat × Nat)} (hD : RD S L st sg) (h9 : R9 S) : ∃ S', f_X11_highestNow S = some (iI (hiC (nW L) (gW' L st)), S') ∧ Fr PM S S' := by
  have hF : 1000 < FU := by unfold FU; omega
  obtain ⟨S2, a1, a2, a3, a4⟩ := hD.lives h9.ho (Nat.le_refl (tW L).length)
  refine ⟨S2, ?_, a4⟩
  unfold f_X11_highestNow
  rw [hD.2.1.1, a1, bn_s, m_highestNow_r a2 (by omega)]
