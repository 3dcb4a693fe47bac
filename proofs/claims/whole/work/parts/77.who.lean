/-! who: the class -/
def soB (n : Nat) (f : Nat → List Nat) (q : Nat × Nat × Nat) : Bool := decide (q.2.1 < n ∧ ht (f q.2.1) = q.2.2)
def ftB (n : Nat) (sg : List (Nat × Nat × Nat)) (k : Nat) (f : Nat → List Nat) (j d : Nat) : Bool := (List.range' j d).all (fun i => !decide ((sq sg i).1 = k) || soB n f (sq sg i))
theorem p_isSo {S : sT} {w n j : Nat} {f : Nat → List Nat} {sg : List (Nat × Nat × Nat)} (hB : SB sg) (hG : SGc S sg) (hW : RW S w n f) (hj : j < sg.length) : f_X6_isSo (iI j) w S = some (iI (b2i (soB n f (sq sg j)))) := by
  have z10' : ¬ (iI 1 = (0 : Int32)) := z10
  have z00 : iI 0 = (0 : Int32) := rfl
  obtain ⟨b1, b2, b3⟩ := hB.2 j hj
  obtain ⟨c1, c2, c3⟩ := hG.2 j hj
  have h8 := hB.1
  have hn := hW.1
  unfold f_X6_isSo soB
  rw [vi_iI (by omega) (by omega) (by omega), ck_t, ck_t, cl_iI (by omega) (by omega), Int.toNat_natCast, c2, c3]
  by_cases q : (sq sg j).2.1 < n
  · have a1 := (hW.2.2 _ (show (sq sg j).2.1 < 8 by omega)).1.1
    have a2 := ht_le (f (sq sg j).2.1)
    rw [p_has_in hW q, bn_s, if_neg z10', p_heightOf_in hW q, bn_s, ck_t]
    by_cases q2 : ht (f (sq sg j).2.1) = (sq sg j).2.2
    · rw [if_pos (by rw [q2]), b2i_p ⟨q, q2⟩]; rfl
    · rw [if_neg (by rw [iI_eq (by omega) (by omega) (by omega) (by omega)]; omega), b2i_n (fun z => q2 z.2)]; rfl
  · rw [p_has_out hW (by omega) (by omega) (by omega), bn_s, if_pos z00, b2i_n (fun z => q z.1)]; rfl
theorem p_fit_l {S : sT} {w n k : Nat} {f : Nat → List Nat} {sg : List (Nat × Nat × Nat)} (hB : SB sg) (hG : SGc S sg) (hW : RW S w n f) (hk : k ≤ 12) : ∀ (d j m : Nat), j + d = sg.length → d < m → l_X6_fit_2 (iI k) w S m (iI j) = some (iI (b2i (ftB n sg k f j d))) := by
  have z10' : ¬ (iI 1 = (0 : Int32)) := z10
  have z00 : iI 0 = (0 : Int32) := rfl
  have h8 := hB.1
  intro d
  induction d with
  | zero =>
    intro j m hj hm
    obtain ⟨m, rfl⟩ : ∃ m', m = m' + 1 := ⟨m - 1, by omega⟩
    rw [l_X6_fit_2_s]
    unfold b_X6_fit_2
    rw [hG.1, if_pos (by rw [iI_le (by omega) (by omega) (by omega) (by omega)]; omega)]
    rfl
  | succ d ih =>
    intro j m hj hm
    obtain ⟨m, rfl⟩ : ∃ m', m = m' + 1 := ⟨m - 1, by omega⟩
    obtain ⟨b1, b2, b3⟩ := hB.2 j (by omega)
    obtain ⟨c1, c2, c3⟩ := hG.2 j (by omega)
    have e := ih (j + 1) m (by omega) (by omega)
    rw [l_X6_fit_2_s]
    unfold b_X6_fit_2
    rw [hG.1, if_neg (by rw [iI_le (by omega) (by omega) (by omega) (by omega)]; omega), if_neg (by rw [i_8, iI_le (by omega) (by omega) (by omega) (by omega)]; omega), vi_iI (by omega) (by omega) (by omega), ck_t, cl_iI (by omega) (by omega), Int.toNat_natCast, c1, lt_b, jn_b, show iI (j : Int) + (1 : Int32) = iI ((j + 1 : Nat) : Int) by rw [i_1, iI_add]; rfl]
    have ef : ftB n sg k f j (d + 1) = ((!decide ((sq sg j).1 = k) || soB n f (sq sg j)) && ftB n sg k f (j + 1) d) := by
      unfold ftB
      rw [List.range'_succ, List.all_cons]
    rw [ef]
    by_cases q : (sq sg j).1 = k
    · rw [if_pos (by rw [q]), p_isSo hB hG hW (by omega), bn_s, decide_eq_true q]
      cases hs : soB n f (sq sg j)
      · rw [b2i_f, if_pos z00]; rfl
      · rw [b2i_t, if_neg z10', e]; rfl
    · rw [if_neg (by rw [iI_eq (by omega) (by omega) (by omega) (by omega)]; omega), decide_eq_false q, e]; rfl
theorem p_fit {S : sT} {w n k : Nat} {f : Nat → List Nat} {sg : List (Nat × Nat × Nat)} (hB : SB sg) (hG : SGc S sg) (hW : RW S w n f) (hk : k ≤ 12) : f_X6_fit (iI k) w S = some (iI (b2i (ftB n sg k f 0 sg.length))) := by
  have h8 := hB.1
  exact p_fit_l hB hG hW hk sg.length 0 FU (by omega) (by unfold FU; omega)
theorem p_beyond_l {S : sT} {T : Nat} {sg : List (Nat × Nat × Nat)} (hB : SB sg) (hG : SGc S sg) (hT : T ≤ 12) : ∀ (d j m : Nat), j + d = sg.length → d < m → l_X6_looksBeyond_2 (iI T) S m (iI j) = some (iI (b2i (!((List.range' j d).all (fun i => decide ((sq sg i).1 ≤ T)))))) := by
  have h8 := hB.1
  intro d
  induction d with
  | zero =>
    intro j m hj hm
    obtain ⟨m, rfl⟩ : ∃ m', m = m' + 1 := ⟨m - 1, by omega⟩
    rw [l_X6_looksBeyond_2_s]
    unfold b_X6_looksBeyond_2
    rw [hG.1, if_pos (by rw [iI_le (by omega) (by omega) (by omega) (by omega)]; omega)]
    rfl
  | succ d ih =>
    intro j m hj hm
    obtain ⟨m, rfl⟩ : ∃ m', m = m' + 1 := ⟨m - 1, by omega⟩
    obtain ⟨b1, b2, b3⟩ := hB.2 j (by omega)
    obtain ⟨c1, c2, c3⟩ := hG.2 j (by omega)
    have e := ih (j + 1) m (by omega) (by omega)
    rw [l_X6_looksBeyond_2_s]
    unfold b_X6_looksBeyond_2
    rw [hG.1, if_neg (by rw [iI_le (by omega) (by omega) (by omega) (by omega)]; omega), if_neg (by rw [i_8, iI_le (by omega) (by omega) (by omega) (by omega)]; omega), vi_iI (by omega) (by omega) (by omega), ck_t, cl_iI (by omega) (by omega), Int.toNat_natCast, c1, lt_b, show iI (j : Int) + (1 : Int32) = iI ((j + 1 : Nat) : Int) by rw [i_1, iI_add]; rfl]
    rw [List.range'_succ, List.all_cons]
    by_cases q : (sq sg j).1 ≤ T
    · rw [if_pos (by rw [iI_le (by omega) (by omega) (by omega) (by omega)]; omega), decide_eq_true q, e, Bool.true_and]
    · rw [if_neg (by rw [iI_le (by omega) (by omega) (by omega) (by omega)]; omega), decide_eq_false q, Bool.false_and]; rfl
/-- one turn on the other wall, perhaps without a part -/
theorem p_wf_step {α : Type} {S : sT} {ts : List tT} {w n who k : Nat} {f : Nat → List Nat} (h : TC S ts) (hO : OkT ts) (hk : k < ts.length) (hW : RW S w n f) (hw : who < 2) (ch : Int32) (K : sT → Option α) : ∃ S3, (jn (fun (S19 : sT) => jn (fun (S20 : sT) => K S20) (fun j24 => (if ch = (1 : Int32) then j24 S19 else bn2 (f_X4_doLays (iI k) (iI who) w S19) (fun r26 S27 => j24 S27)))) (fun j29 => (if ch = (0 : Int32) then j29 S else bn2 (f_X4_doTake (iI k) (iI who) w S) (fun r31 S32 => j29 S32)))) = K S3 ∧ RW S3 w n (gW n who (!decide (ch = (0 : Int32))) (!decide (ch = (1 : Int32))) (tn ts k) f) ∧ FW w S S3 := by
  have h2 : ∀ (S19 : sT) (f' : Nat → List Nat), TC S19 ts → RW S19 w n f' → FW w S S19 → ∃ S3, jn (fun (S20 : sT) => K S20) (fun j24 => (if ch = (1 : Int32) then j24 S19 else bn2 (f_X4_doLays (iI k) (iI who) w S19) (fun r26 S27 => j24 S27))) = K S3 ∧ RW S3 w n (if (!decide (ch = (1 : Int32))) = true then ((tn ts k).2.foldl (layF n who) (f', 0)).1 else f') ∧ FW w S S3 := by
    intro S19 f' g1 g2 g3
    rw [jn_b]
    by_cases q : ch = (1 : Int32)
    · rw [if_pos q, decide_eq_true q]
      exact ⟨S19, rfl, g2, g3⟩
    · obtain ⟨S3, e1, e2, e3⟩ := p_doLays g1 hO hk g2 hw
      rw [if_neg q, decide_eq_false q, e1, bn2_s]
      exact ⟨S3, rfl, e2, g3.tr e3⟩
  rw [jn_b]
  unfold gW
  by_cases q : ch = (0 : Int32)
  · rw [if_pos q, decide_eq_true q]
    exact h2 S f h hW (FW.rf w S)
  · obtain ⟨S3, e1, e2, e3⟩ := p_doTake h hO hk hW hw
    rw [if_neg q, decide_eq_false q, e1, bn2_s]
    exact h2 S3 _ (h.fw e3) e2 e3
def chI (odd how k : Nat) : Int32 := if k = odd then iI how else (-1 : Int32)
theorem chI_e {odd how k : Nat} (hk : k < 12) (ho : odd < 12) : (if iI (k : Int) = iI (odd : Int) then iI (how : Int) else (-1 : Int32)) = chI odd how k := by
  unfold chI
  by_cases q : k = odd
  · rw [if_pos (by rw [q]), if_pos q]
  · rw [if_neg (by rw [iI_eq (by omega) (by omega) (by omega) (by omega)]; omega), if_neg q]
theorem chI_s {odd how k : Nat} (hh : how < 3) (st : Nat → Nat) (n : Nat) (ts : List tT) (f : Nat → List Nat) : gW n (whoQ st odd how k) (!decide (chI odd how k = (0 : Int32))) (!decide (chI odd how k = (1 : Int32))) (tn ts k) f = sStep st n ts odd how k f := by
  unfold sStep chI
  have e0 : decide ((if k = odd then iI (how : Int) else (-1 : Int32)) = (0 : Int32)) = decide (k = odd ∧ how = 0) := by
    by_cases q : k = odd
    · rw [if_pos q]
      apply decide_eq_decide.mpr
      rw [i_0, iI_eq (by omega) (by omega) (by omega) (by omega)]
      omega
    · rw [if_neg q, decide_eq_false (fun z : k = odd ∧ how = 0 => q z.1)]; rfl
  have e1 : decide ((if k = odd then iI (how : Int) else (-1 : Int32)) = (1 : Int32)) = decide (k = odd ∧ how = 1) := by
    by_cases q : k = odd
    · rw [if_pos q]
      apply decide_eq_decide.mpr
      rw [i_1, iI_eq (by omega) (by omega) (by omega) (by omega)]
      omega
    · rw [if_neg q, decide_eq_false (fun z : k = odd ∧ how = 1 => q z.1)]; rfl
  rw [e0, e1]
theorem chI_w {S : sT} {st : Nat → Nat} {odd how k : Nat} (hR : RR S st) (hh : how < 3) (hk : k < 12) : f_X3_brotherOf (if chI odd how k = (2 : Int32) then iI (k : Int) + (1 : Int32) else iI (k : Int)) S = some (iI (whoQ st odd how k)) := by
  unfold chI whoQ
  by_cases q : k = odd
  · rw [if_pos q]
    by_cases q2 : how = 2
    · rw [if_pos (by rw [q2]; rfl), if_pos ⟨q, q2⟩, show iI (k : Int) + (1 : Int32) = iI ((k + 1 : Nat) : Int) by rw [i_1, iI_add]; rfl, p_brotherOf hR (by omega)]
      rfl
    · rw [if_neg (by rw [i_2, iI_eq (by omega) (by omega) (by omega) (by omega)]; omega), if_neg (fun z => q2 z.2), p_brotherOf hR (by omega)]
  · rw [if_neg q, if_neg (by decide), if_neg (fun z => q z.1), p_brotherOf hR (by omega)]
/-- all that was seen behind so many turns comes out so -/
def ftK (st : Nat → Nat) (n : Nat) (ts : List tT) (f0 : Nat → List Nat) (sg : List (Nat × Nat × Nat)) (odd how k : Nat) : Bool := ftB n sg k (sAt st n ts odd how f0 k) 0 sg.length
theorem SGc.fw {S S' : sT} {sg : List (Nat × Nat × Nat)} {w : Nat} (h : SGc S sg) (hF : FW w S S') : SGc S' sg := by
  unfold SGc
  rw [hF.1 110 0 (by omega), hF.1 22 0 (by omega), hF.1 23 0 (by omega), hF.1 24 0 (by omega)]
  exact h
theorem p_wf_l {st : Nat → Nat} {n : Nat} {ts : List tT} {f0 : Nat → List Nat} {sg : List (Nat × Nat × Nat)} {odd how : Nat} (hO : OkT ts) (hB : SB sg) (hh : how < 3) (ho : odd < 12) : ∀ (d k m : Nat) (b : Bool) (S : sT), TC S ts → RR S st → SGc S sg → S.1 105 0 0 = iI ts.length → RW S 13 n (sAt st n ts odd how f0 k) → k + d = ts.length → d < m → ∃ S', l_X1_wouldFit_40 (iI odd) (iI how) m (iI (b2i b)) (iI k) S = some (iI (b2i (b && (List.range' (k + 1) d).all (ftK st n ts f0 sg odd how))), S') ∧ FW 13 S S' := by
  have z10' : ¬ (iI 1 = (0 : Int32)) := z10
  have z00 : iI 0 = (0 : Int32) := rfl
  have h12 := hO.1
  intro d
  induction d with
  | zero =>
    intro k m b S hT hR hG h105 hW hk hm
    obtain ⟨m, rfl⟩ : ∃ m', m = m' + 1 := ⟨m - 1, by omega⟩
    refine ⟨S, ?_, FW.rf 13 S⟩
    rw [l_X1_wouldFit_40_s]
    unfold b_X1_wouldFit_40
    rw [h105, if_pos (by rw [iI_le (by omega) (by omega) (by omega) (by omega)]; omega), vz_b, ck_t]
    simp
  | succ d ih =>
    intro k m b S hT hR hG h105 hW hk hm
    obtain ⟨m, rfl⟩ : ∃ m', m = m' + 1 := ⟨m - 1, by omega⟩
    rw [l_X1_wouldFit_40_s]
    unfold b_X1_wouldFit_40
    rw [h105, if_neg (by rw [iI_le (by omega) (by omega) (by omega) (by omega)]; omega)]
    cases b with
    | false =>
      rw [b2i_f, if_pos z00, ck_t' (by decide)]
      exact ⟨S, by rw [Bool.false_and, b2i_f], FW.rf 13 S⟩
    | true =>
      rw [b2i_t, if_neg z10', jn_ite, chI_e (show k < 12 by omega) ho, jn_ite, chI_w hR hh (by omega), bn_s]
      obtain ⟨S3, e1, e2, e3⟩ := p_wf_step (α := Int32 × sT) hT hO (show k < ts.length by omega) hW (whoQ_lt st odd how k) (chI odd how k) (fun (S20 : sT) => bn (f_X6_fit (iI (k : Int) + (1 : Int32)) 13 S20) (fun r22 => lt (iI (k : Int) + (1 : Int32)) (fun x23 => l_X1_wouldFit_40 (iI odd) (iI how) m r22 x23 S20)))
      rw [chI_s hh st] at e2
      rw [e1, show iI (k : Int) + (1 : Int32) = iI ((k + 1 : Nat) : Int) by rw [i_1, iI_add]; rfl, p_fit hB (hG.fw e3) e2 (by omega), bn_s, lt_b]
      obtain ⟨S', g1, g2⟩ := ih (k + 1) m (ftB n sg (k + 1) (sStep st n ts odd how k (sAt st n ts odd how f0 k)) 0 sg.length) S3 (hT.fw e3) (hR.fw e3) (hG.fw e3) (by rw [e3.1 105 0 (by omega)]; exact h105) e2 (by omega) (by omega)
      refine ⟨S', ?_, e3.tr g2⟩
      rw [g1, List.range'_succ, List.all_cons, Bool.true_and]
      rfl
def wfB (st : Nat → Nat) (n : Nat) (ts : List tT) (f0 : Nat → List Nat) (sg : List (Nat × Nat × Nat)) (odd how : Nat) : Bool := (List.range' 0 sg.length).all (fun i => decide ((sq sg i).1 ≤ ts.length)) && (List.range' 0 (ts.length + 1)).all (ftK st n ts f0 sg odd how)
theorem p_wouldFit {S : sT} {L : Nat → List Nat} {st : Nat → Nat} {sg : List (Nat × Nat × Nat)} {odd how : Nat} (h : CI S L st) (hB : SB sg) (hG : SGc S sg) (hh : how < 3) (ho : odd < (tW L).length) : ∃ S', f_X1_wouldFit (iI odd) (iI how) S = some (iI (b2i (wfB st (nW L) (tW L) (fW L) sg odd how)), S') ∧ FW 13 S S' := by
  have z10' : ¬ (iI 1 = (0 : Int32)) := z10
  have z00 : iI 0 = (0 : Int32) := rfl
  have hO := parseT_ok (L 1)
  have h12 : (tW L).length ≤ 12 := hO.1
  have h8 := hB.1
  have hF : 1000 < FU := by unfold FU; omega
  have e105 := h.2.2.2.2.1.1
  have eb := p_beyond_l (T := (tW L).length) hB hG h12 sg.length 0 FU (by omega) (by omega)
  unfold f_X1_wouldFit f_X6_looksBeyond wfB
  rw [e105, show (0 : Int32) = iI ((0 : Nat) : Int) from rfl, eb, bn_s, show iI ((0 : Nat) : Int) = (0 : Int32) from rfl]
  cases hq : (List.range' 0 sg.length).all (fun i => decide ((sq sg i).1 ≤ (tW L).length)) with
  | false =>
    rw [if_neg (show ¬ (iI (b2i (!false)) = (0 : Int32)) from z10)]
    exact ⟨S, by rw [Bool.false_and]; rfl, FW.rf 13 S⟩
  | true =>
    rw [if_pos (show iI (b2i (!true)) = (0 : Int32) from rfl), ck_t' (by decide), lt_b]
    obtain ⟨S1, e1, e2, e3⟩ := p_become (S := S) (w := 13) (w' := 0) (wallN h (N := 0) (by omega)) (by omega)
    have ew : RW S1 13 (nW L) (sAt st (nW L) (tW L) odd how (fW L) 0) := e2
    rw [show cl (0 : Int32) = 0 from rfl, e1, bn_s]
    have ef := p_fit (k := 0) hB (hG.fw e3) ew (by omega)
    rw [show iI ((0 : Nat) : Int) = (0 : Int32) from rfl] at ef
    rw [ef, bn_s]
    obtain ⟨S', g1, g2⟩ := p_wf_l (st := st) (f0 := fW L) (n := nW L) (ts := tW L) hO hB hh (show odd < 12 by omega) (tW L).length 0 FU (ftB (nW L) sg 0 (sAt st (nW L) (tW L) odd how (fW L) 0) 0 sg.length) S1 (h.2.2.2.1.fw e3) (h.2.1.fw e3) (hG.fw e3) (by rw [e3.1 105 0 (by omega)]; exact e105) ew (by omega) (by omega)
    refine ⟨S', ?_, e3.tr g2⟩
    rw [Bool.true_and, List.range'_succ, List.all_cons]
    exact g1
def whB (F : Nat → Bool) : Nat → Nat → Int32 → Int32 := fun k d a => (List.range' k d).foldl (fun a k => if F k = true then a ||| ((1 : Int32) <<< (iI k &&& 31)) else a) a
theorem FW.p1 {S S' : sT} {w : Nat} (h : FW w S S') (hw : 13 ≤ w) : Fr1 PCs S S' := (h.fr (P := PCs) (fun k z => by unfold PCs; omega)).1
theorem p_who_l {L : Nat → List Nat} {st : Nat → Nat} {sg : List (Nat × Nat × Nat)} {how : Nat} (hB : SB sg) (hh : how < 3) : ∀ (d k m : Nat) (a : Int32) (S : sT), CI S L st → SGc S sg → k + d = (tW L).length → d < m → ∃ S', l_X10_who_16 (iI how) m a (iI k) S = some (whB (fun k => wfB st (nW L) (tW L) (fW L) sg k how) k d a, S') ∧ Fr1 PCs S S' := by
  have z10' : ¬ (iI 1 = (0 : Int32)) := z10
  have z00 : iI 0 = (0 : Int32) := rfl
  intro d
  induction d with
  | zero =>
    intro k m a S h hG hk hm
    have h12 : (tW L).length ≤ 12 := (parseT_ok (L 1)).1
    obtain ⟨m, rfl⟩ : ∃ m', m = m' + 1 := ⟨m - 1, by omega⟩
    refine ⟨S, ?_, Fr1.rf⟩
    rw [l_X10_who_16_s]
    unfold b_X10_who_16 f_X1_turnCount
    rw [h.2.2.2.2.1.1, bn_s, if_pos (by rw [iI_le (by omega) (by omega) (by omega) (by omega)]; omega)]
    rfl
  | succ d ih =>
    intro k m a S h hG hk hm
    have h12 : (tW L).length ≤ 12 := (parseT_ok (L 1)).1
    obtain ⟨m, rfl⟩ : ∃ m', m = m' + 1 := ⟨m - 1, by omega⟩
    obtain ⟨S1, e1, e2⟩ := p_wouldFit (odd := k) h hB hG hh (by omega)
    have F1 := e2.p1 (by omega)
    rw [l_X10_who_16_s]
    unfold b_X10_who_16 f_X1_turnCount
    rw [h.2.2.2.2.1.1, bn_s, if_neg (by rw [iI_le (by omega) (by omega) (by omega) (by omega)]; omega), e1, bn2_s, jn_b, show iI (k : Int) + (1 : Int32) = iI ((k + 1 : Nat) : Int) by rw [i_1, iI_add]; rfl]
    have ew : whB (fun k => wfB st (nW L) (tW L) (fW L) sg k how) k (d + 1) a = whB (fun k => wfB st (nW L) (tW L) (fW L) sg k how) (k + 1) d (if wfB st (nW L) (tW L) (fW L) sg k how = true then a ||| ((1 : Int32) <<< (iI k &&& 31)) else a) := by
      unfold whB
      rw [List.range'_succ, List.foldl_cons]
    rw [ew]
    cases hw : wfB st (nW L) (tW L) (fW L) sg k how with
    | false =>
      rw [if_pos (show iI (b2i false) = (0 : Int32) from rfl), if_neg (by decide)]; (try dsimp only); rw [lt_b]
      obtain ⟨S', g1, g2⟩ := ih (k + 1) m a S1 (h.fr1 F1) (hG.fr1 F1) (by omega) (by omega)
      exact ⟨S', g1, F1.tr g2⟩
    | true =>
      rw [if_neg (show ¬ (iI (b2i true) = (0 : Int32)) from z10), if_pos rfl]; (try dsimp only); rw [lt_b]; (try dsimp only); rw [lt_b]
      obtain ⟨S', g1, g2⟩ := ih (k + 1) m (a ||| ((1 : Int32) <<< (iI k &&& 31))) S1 (h.fr1 F1) (hG.fr1 F1) (by omega) (by omega)
      exact ⟨S', g1, F1.tr g2⟩
def whoS (L : Nat → List Nat) (st : Nat → Nat) (sg : List (Nat × Nat × Nat)) (how : Nat) : Int32 := whB (fun k => wfB st (nW L) (tW L) (fW L) sg k how) 0 (tW L).length 0
theorem cD_who {S : sT} {L : Nat → List Nat} {st : Nat → Nat} {sg : List (Nat × Nat × Nat)} {how : Nat} (h : CI S L st) (hB : SB sg) (hG : SGc S sg) (hh : how < 3) : ∃ S', f_X10_who (iI how) S = some (whoS L st sg how, S') ∧ Fr1 PCs S S' := by
  have h12 : (tW L).length ≤ 12 := (parseT_ok (L 1)).1
  have hF : 1000 < FU := by unfold FU; omega
  obtain ⟨S', e1, e2⟩ := p_who_l (how := how) hB hh (tW L).length 0 FU 0 S h hG (by omega) (by omega)
  refine ⟨S', ?_, e2⟩
  unfold f_X10_who
  rw [show f_X10_within (iI how) (0 : Int32) (2 : Int32) S = _ from p_within (a := 0) (b := 2) S (by omega) (by omega) (by omega) (by omega) (by omega) (by omega), bn_s, b2i_p (by omega), if_neg (show ¬ (iI 1 = (0 : Int32)) from z10)]
  exact e1
