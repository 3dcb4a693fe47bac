/-! who: the reference -/
def gdB (st : Nat → Nat) (n : Nat) (ts : List tT) (f0 : Nat → List Nat) (odd how : Nat) (q : Nat × Nat × Nat) : Bool := decide (q.1 ≤ ts.length) && soB n (sAt st n ts odd how f0 q.1) q
theorem wfB_gd (st : Nat → Nat) (n : Nat) (ts : List tT) (f0 : Nat → List Nat) (sg : List (Nat × Nat × Nat)) (odd how : Nat) : wfB st n ts f0 sg odd how = (List.range' 0 sg.length).all (fun i => gdB st n ts f0 odd how (sq sg i)) := by
  rw [Bool.eq_iff_iff]
  unfold wfB gdB ftK ftB
  simp only [Bool.and_eq_true, List.all_eq_true, decide_eq_true_eq, List.mem_range'_1]
  constructor
  · rintro ⟨h1, h2⟩ i hi
    have a := h1 i hi
    have b := h2 (sq sg i).1 (by omega) i hi
    rw [decide_eq_true rfl] at b
    exact ⟨a, b⟩
  · intro h
    refine ⟨fun i hi => (h i hi).1, fun k hk i hi => ?_⟩
    by_cases q : (sq sg i).1 = k
    · have := (h i hi).2
      rw [q] at this
      rw [this]
      simp
    · rw [decide_eq_false q]; rfl
theorem m_isSeen_l {L : Nat → List Nat} {st : Nat → Nat} {sg : List (Nat × Nat × Nat)} {odd how : Nat} (hB : SB sg) : ∀ (d j m : Nat) (b : Bool) (S : sT), RD S L st sg → HO S odd how → j + d = sg.length → d < m → ∃ S', l_X11_isSeen_4 m (iI (b2i b)) (iI j) S = some (iI (b2i (b && (List.range' j d).all (fun i => gdB st (nW L) (tW L) (fW L) odd how (sq sg i)))), S') ∧ Fr PM S S' := by
  have z10' : ¬ (iI 1 = (0 : Int32)) := z10
  have z00 : iI 0 = (0 : Int32) := rfl
  have hO := parseT_ok (L 1)
  have h12 : (tW L).length ≤ 12 := hO.1
  have h8 := hB.1
  intro d
  induction d with
  | zero =>
    intro j m b S h hH hj hm
    obtain ⟨m, rfl⟩ : ∃ m', m = m' + 1 := ⟨m - 1, by omega⟩
    refine ⟨S, ?_, Fr.rf⟩
    rw [l_X11_isSeen_4_s]
    unfold b_X11_isSeen_4
    rw [h.2.2.2.1, if_pos (by rw [iI_le (by omega) (by omega) (by omega) (by omega)]; omega), vz_b, ck_t]
    simp
  | succ d ih =>
    intro j m b S h hH hj hm
    obtain ⟨m, rfl⟩ : ∃ m', m = m' + 1 := ⟨m - 1, by omega⟩
    obtain ⟨b1, b2, b3⟩ := hB.2 j (by omega)
    obtain ⟨c1, c2, c3⟩ := h.2.2.2.2 j (by omega)
    have hn := h.1.1
    rw [l_X11_isSeen_4_s]
    unfold b_X11_isSeen_4
    rw [h.2.2.2.1, if_neg (by rw [iI_le (by omega) (by omega) (by omega) (by omega)]; omega)]
    cases b with
    | false =>
      rw [b2i_f, if_pos z00, ck_t' (by decide)]
      exact ⟨S, by rw [Bool.false_and, b2i_f], Fr.rf⟩
    | true =>
      have e0 : (3 : Int32) * iI (j : Int) = iI ((3 * j : Nat) : Int) := by rw [i_3, iI_mul]; rfl
      have e1 : iI ((3 * j : Nat) : Int) + (1 : Int32) = iI ((3 * j + 1 : Nat) : Int) := by rw [i_1, iI_add]; rfl
      have e2 : iI ((3 * j : Nat) : Int) + (2 : Int32) = iI ((3 * j + 2 : Nat) : Int) := by rw [i_2, iI_add]; rfl
      have v0 : cl (iI ((3 * j : Nat) : Int)) = 3 * j := by rw [cl_iI (by omega) (by omega)]; rfl
      have v1 : cl (iI ((3 * j + 1 : Nat) : Int)) = 3 * j + 1 := by rw [cl_iI (by omega) (by omega)]; rfl
      have v2 : cl (iI ((3 * j + 2 : Nat) : Int)) = 3 * j + 2 := by rw [cl_iI (by omega) (by omega)]; rfl
      have w0 : vi (iI ((3 * j : Nat) : Int)) 24 = true := vi_iI (by omega) (by omega) (by omega)
      have w1 : vi (iI ((3 * j + 1 : Nat) : Int)) 24 = true := vi_iI (by omega) (by omega) (by omega)
      have w2 : vi (iI ((3 * j + 2 : Nat) : Int)) 24 = true := vi_iI (by omega) (by omega) (by omega)
      rw [b2i_t, if_neg z10', e0, e1, e2, v0, v1, v2, w0, w1, w2, ck_t, c1, c2, m_areTurns h.2.1 hO (by omega) (by omega), bn_s]
      simp only [jn_b, ck_t, lt_b]
      rw [show iI (j : Int) + (1 : Int32) = iI ((j + 1 : Nat) : Int) by rw [i_1, iI_add]; rfl]
      have eg : (List.range' j (d + 1)).all (fun i => gdB st (nW L) (tW L) (fW L) odd how (sq sg i)) = (gdB st (nW L) (tW L) (fW L) odd how (sq sg j) && (List.range' (j + 1) d).all (fun i => gdB st (nW L) (tW L) (fW L) odd how (sq sg i))) := by
        rw [List.range'_succ, List.all_cons]
      rw [eg, Bool.true_and]
      unfold gdB soB
      have go : ∀ (v : Bool) (S1 : sT), Fr PM S S1 → ∃ S', l_X11_isSeen_4 m (iI (b2i v)) (iI ((j + 1 : Nat) : Int)) S1 = some (iI (b2i (v && (List.range' (j + 1) d).all (fun i => gdB st (nW L) (tW L) (fW L) odd how (sq sg i)))), S') ∧ Fr PM S S' := by
        intro v S1 F1
        obtain ⟨S', g1, g2⟩ := ih (j + 1) m v S1 (h.fr (Fr1.mono F1.1 PM_px)) (hH.fr F1) (by omega) (by omega)
        exact ⟨S', g1, F1.tr g2⟩
      by_cases q1 : (sq sg j).1 ≤ (tW L).length
      · rw [b2i_p (by omega), if_neg z10', m_isColumn h.1 (by omega) (by omega), bn_s, decide_eq_true q1, Bool.true_and]
        by_cases q2 : (sq sg j).2.1 < nW L
        · obtain ⟨S2, d1, d2, d3, d4⟩ := h.lives hH q1
          have eh : f_X11_heightOf (iI ((sq sg j).1 : Int)) (iI ((sq sg j).2.1 : Int)) S = some (iI (ht (sAt st (nW L) (tW L) odd how (fW L) (sq sg j).1 (sq sg j).2.1)), S2) := by
            unfold f_X11_heightOf
            rw [d1, bn_s, m_highOf d2 (by omega), bn_s]
          have a2 := d2.b (c := (sq sg j).2.1) (by omega)
          rw [b2i_p (by omega), if_neg z10', eh, bn2_s, d4.1 46 0 (by unfold PM; omega), c3]
          by_cases q3 : ht (sAt st (nW L) (tW L) odd how (fW L) (sq sg j).1 (sq sg j).2.1) = (sq sg j).2.2
          · rw [if_pos (by rw [q3]), decide_eq_true (show (sq sg j).2.1 < nW L ∧ ht (sAt st (nW L) (tW L) odd how (fW L) (sq sg j).1 (sq sg j).2.1) = (sq sg j).2.2 from ⟨q2, q3⟩)]
            exact go true S2 d4
          · rw [if_neg (by rw [iI_eq (by omega) (by omega) (by omega) (by omega)]; omega), decide_eq_false (show ¬ ((sq sg j).2.1 < nW L ∧ ht (sAt st (nW L) (tW L) odd how (fW L) (sq sg j).1 (sq sg j).2.1) = (sq sg j).2.2) from fun z => q3 z.2)]
            exact go false S2 d4
        · rw [b2i_n (by omega), if_pos z00, decide_eq_false (show ¬ ((sq sg j).2.1 < nW L ∧ ht (sAt st (nW L) (tW L) odd how (fW L) (sq sg j).1 (sq sg j).2.1) = (sq sg j).2.2) from fun z => q2 z.1)]
          exact go false S Fr.rf
      · rw [b2i_n (by omega), if_pos z00, decide_eq_false q1, Bool.false_and]
        exact go false S Fr.rf
theorem m_isSeen {S : sT} {L : Nat → List Nat} {st : Nat → Nat} {sg : List (Nat × Nat × Nat)} {odd how : Nat} (hB : SB sg) (h : RD S L st sg) (hH : HO S odd how) : ∃ S', f_X11_isSeen S = some (iI (b2i (wfB st (nW L) (tW L) (fW L) sg odd how)), S') ∧ Fr PM S S' := by
  have h8 := hB.1
  have hF : 1000 < FU := by unfold FU; omega
  obtain ⟨S', e1, e2⟩ := m_isSeen_l hB sg.length 0 FU true S h hH (by omega) (by omega)
  refine ⟨S', ?_, e2⟩
  rw [wfB_gd]
  rw [Bool.true_and] at e1
  exact e1
theorem m_whoBy_l {L : Nat → List Nat} {st : Nat → Nat} {sg : List (Nat × Nat × Nat)} {how : Nat} (hB : SB sg) (hh : how < 3) (J : Int32 → sT → Option (Int32 × sT)) : ∀ (d k m : Nat) (a : Int32) (S : sT), RD S L st sg → S.1 120 0 0 = iI how → k + d = (tW L).length → d < m → ∃ S', l_X11_whoBy_9 J m a (iI k) S = J (whB (fun k => wfB st (nW L) (tW L) (fW L) sg k how) k d a) S' ∧ Fr1 PX S S' := by
  have hO := parseT_ok (L 1)
  have h12 : (tW L).length ≤ 12 := hO.1
  intro d
  induction d with
  | zero =>
    intro k m a S h h120 hk hm
    obtain ⟨m, rfl⟩ : ∃ m', m = m' + 1 := ⟨m - 1, by omega⟩
    refine ⟨S, ?_, Fr1.rf⟩
    rw [l_X11_whoBy_9_s]
    unfold b_X11_whoBy_9
    rw [h.2.1.1, if_pos (by rw [iI_le (by omega) (by omega) (by omega) (by omega)]; omega)]
    rfl
  | succ d ih =>
    intro k m a S h h120 hk hm
    obtain ⟨m, rfl⟩ : ∃ m', m = m' + 1 := ⟨m - 1, by omega⟩
    have F0 : Fr1 PX S (us S 119 0 0 (iI k)) := Fr1.us (by unfold PX; omega)
    have hH : HO (us S 119 0 0 (iI k)) k how := Or.inr ⟨us_same, by omega, by rw [us_ne (by omega)]; exact h120, hh⟩
    obtain ⟨S1, e1, e2⟩ := m_isSeen hB (h.fr F0) hH
    have F1 : Fr1 PX S S1 := F0.tr (Fr1.mono e2.1 PM_px)
    have k120 : S1.1 120 0 0 = iI how := by rw [e2.1 120 0 (by unfold PM; omega), us_ne (by omega)]; exact h120
    rw [l_X11_whoBy_9_s]
    unfold b_X11_whoBy_9
    rw [h.2.1.1, if_neg (by rw [iI_le (by omega) (by omega) (by omega) (by omega)]; omega), lt_b, e1, bn2_s, jn_ite, lt_b, lt_b, show iI (k : Int) + (1 : Int32) = iI ((k + 1 : Nat) : Int) by rw [i_1, iI_add]; rfl]
    have ew : whB (fun k => wfB st (nW L) (tW L) (fW L) sg k how) k (d + 1) a = whB (fun k => wfB st (nW L) (tW L) (fW L) sg k how) (k + 1) d (if wfB st (nW L) (tW L) (fW L) sg k how = true then a ||| ((1 : Int32) <<< (iI k &&& 31)) else a) := by
      unfold whB
      rw [List.range'_succ, List.foldl_cons]
    rw [ew]
    cases hw : wfB st (nW L) (tW L) (fW L) sg k how with
    | false =>
      rw [if_pos (show iI (b2i false) = (0 : Int32) from rfl), if_neg (by decide), or_0]
      obtain ⟨S', g1, g2⟩ := ih (k + 1) m a S1 (h.fr F1) k120 (by omega) (by omega)
      exact ⟨S', g1, F1.tr g2⟩
    | true =>
      rw [if_neg (show ¬ (iI (b2i true) = (0 : Int32)) from z10), if_pos rfl]
      obtain ⟨S', g1, g2⟩ := ih (k + 1) m (a ||| ((1 : Int32) <<< (iI k &&& 31))) S1 (h.fr F1) k120 (by omega) (by omega)
      exact ⟨S', g1, F1.tr g2⟩
theorem mD_who {S : sT} {L : Nat → List Nat} {st : Nat → Nat} {sg : List (Nat × Nat × Nat)} {how : Nat} (hB : SB sg) (h : RD S L st sg) (hh : how < 3) : ∃ S', f_X11_whoBy (iI how) S = some (whoS L st sg how, S') ∧ Fr1 PX S S' ∧ R9 S' := by
  have h12 : (tW L).length ≤ 12 := (parseT_ok (L 1)).1
  have hF : 1000 < FU := by unfold FU; omega
  have F0 : Fr1 PX S (us S 120 0 0 (iI how)) := Fr1.us (by unfold PX; omega)
  obtain ⟨S', e1, e2⟩ := m_whoBy_l hB hh (fun (x2 : Int32) (S3 : sT) => lt (us S3 119 0 0 (-1 : Int32)) (fun S4 => some (x2, S4))) (tW L).length 0 FU 0 (us S 120 0 0 (iI how)) (h.fr F0) us_same (by omega) (by omega)
  refine ⟨us S' 119 0 0 (-1 : Int32), ?_, (F0.tr e2).tr (Fr1.us (by unfold PX; omega)), ?_⟩
  · unfold f_X11_whoBy
    rw [lt_b, jn_b]
    exact e1
  · unfold R9
    rw [us_same]
    rfl
theorem T_18 : St_18 Inv := by
  intro S hI v1
  obtain ⟨z, z1, z2, rfl⟩ := iI_ex v1
  have z10' : ¬ (iI 1 = (0 : Int32)) := z10
  have z00 : iI 0 = (0 : Int32) := rfl
  obtain ⟨L, st, sg, h1, hB, hG, hk⟩ := opened2 hI
  have eM : ∀ S2 : sT, f_X11_in (iI z).toInt64 (0 : Int64) (2 : Int64) S2 = some (iI (b2i (decide (0 ≤ z ∧ z ≤ 2)))) := fun S2 => by rw [l_0, l_2, m_in2 _ z1 z2 (by omega) (by omega) (by omega) (by omega)]
  by_cases q : 0 ≤ z ∧ z ≤ 2
  · obtain ⟨how, rfl⟩ : ∃ t : Nat, z = t := ⟨z.toNat, by omega⟩
    obtain ⟨S1, e1, F1⟩ := cD_who (how := how) h1 hB hG (by omega)
    obtain ⟨hI1, S2, r1, hI2, hD, h9, hE⟩ := hk S1 F1
    obtain ⟨S3, g1, g2, g3⟩ := mD_who (how := how) hB hD (by omega)
    refine ⟨_, S1, S3, e1, ?_, hE S3 g2 g3⟩
    unfold f_X11_who
    rw [r1, bn_s, eM, bn_s, b2i_p q, if_neg z10', g1, bn2_s]
  · obtain ⟨hI1, S2, r1, hI2, hD, h9, hE⟩ := hk S Fr1.rf
    refine ⟨(-2 : Int32), S, S2, ?_, ?_, hI2⟩
    · unfold f_X10_who
      rw [show f_X10_within (iI z) (0 : Int32) (2 : Int32) S = _ from p_within (a := 0) (b := 2) S z1 z2 (by omega) (by omega) (by omega) (by omega), bn_s, b2i_n q, if_pos z00]
    · unfold f_X11_who
      rw [r1, bn_s, eM, bn_s, b2i_n q, if_pos z00]
