/-! the class's search by taking -/
abbrev gO (st : Nat → Nat) (n p k : Nat) (f : wF) : Nat → Option (List Nat) := fun x => (stO n f x).bind (fun f' => (sr (stO n) (tsO st n p) 8 k x f').map (List.cons x))
theorem gO_out {st : Nat → Nat} {n p k : Nat} {f : wF} {x : Nat} (h : n ≤ x) : gO st n p k f x = none := by
  unfold gO stO
  rw [if_neg (fun z => by omega)]
  rfl
theorem fs_none {α : Type} {g : Nat → Option α} : ∀ (d x : Nat), (∀ y, x ≤ y → g y = none) → fs g d x = none := by
  intro d
  induction d with
  | zero => intro x h; rfl
  | succ d ih =>
    intro x h
    rw [fs_n (h x (Nat.le_refl x))]
    exact ih (x + 1) (fun y hy => h y (by omega))
theorem p_canOpen {st : Nat → Nat} {n p goal : Nat} (hg : goal ≤ 3) (hp8 : p ≤ 8) : ∀ (k a m lo : Nat) (S : sT) (f : wF), a + k = goal → k < m → RR S st → RW S 14 n f → (a ≠ 0 → S.1 20 0 (a - 1) = iI lo) → (a = 0 → lo = 0) → lo ≤ 7 → ∃ S', f_X2_canOpen m 14 (iI p) (iI a) (iI goal) S = some (iI (b2i (sr (stO n) (tsO st n p) 8 k lo f).isSome), S') ∧ SrQ S S' n a k f (sr (stO n) (tsO st n p) 8 k lo f) := by
  have z10' : ¬ (iI 1 = (0 : Int32)) := z10
  have z00 : iI 0 = (0 : Int32) := rfl
  intro k
  induction k with
  | zero =>
    intro a m lo S f ha hm hR hW hlo h0 hl
    obtain ⟨m, rfl⟩ : ∃ m', m = m' + 1 := ⟨m - 1, by omega⟩
    have hn := hW.1
    have hpl := pears_le st n f
    refine ⟨S, ?_, hW, Fr.rf, fun i hi => rfl, fun l hl i hi => absurd hi (by omega)⟩
    show s_X2_canOpen (f_X2_canOpen m) 14 (iI p) (iI a) (iI goal) S = _
    unfold s_X2_canOpen sr tsO
    rw [jn_b, if_neg (by rw [i_0, iI_lt (by omega) (by omega) (by omega) (by omega)]; omega), if_pos (by rw [iI_le (by omega) (by omega) (by omega) (by omega)]; omega), p_sunny hW hR, bn_s, p_stands hW hR, bn_s]
    have e : (List.range' 0 n).all (fun c => !wk st n f c) = stB st n f := rfl
    rw [e]
    by_cases q : p ≤ pears st n f
    · rw [if_neg (by rw [iI_lt (by omega) (by omega) (by omega) (by omega)]; omega), decide_eq_true q, Bool.true_and]
      cases stB st n f <;> rfl
    · rw [if_pos (by rw [iI_lt (by omega) (by omega) (by omega) (by omega)]; omega), decide_eq_false q, Bool.false_and]
      rfl
  | succ k ih =>
    intro a m lo S f ha hm hR hW hlo h0 hl
    obtain ⟨m, rfl⟩ : ∃ m', m = m' + 1 := ⟨m - 1, by omega⟩
    have hn := hW.1
    have inner : ∀ (d x M : Nat) (S : sT), x + d = 8 → d < M → RR S st → RW S 14 n f → ∃ S', l_X2_canOpen_50 (f_X2_canOpen m) 14 (iI p) (iI a) (iI goal) M (iI x) S = some (iI (b2i (fs (gO st n p k f) d x).isSome), S') ∧ SrQ S S' n a (k + 1) f (fs (gO st n p k f) d x) := by
      intro d
      induction d with
      | zero =>
        intro x M S hx hM hR hW
        obtain ⟨M, rfl⟩ : ∃ m', M = m' + 1 := ⟨M - 1, by omega⟩
        refine ⟨S, ?_, hW, Fr.rf, fun i hi => rfl, fun l hl i hi => by cases hl⟩
        rw [l_X2_canOpen_50_s]
        unfold b_X2_canOpen_50 f_X9_columnCount
        rw [hW.2.1, bn_s, if_pos (by rw [iI_le (by omega) (by omega) (by omega) (by omega)]; omega)]
        rfl
      | succ d ihd =>
        intro x M S hx hM hR hW
        obtain ⟨M, rfl⟩ : ∃ m', M = m' + 1 := ⟨M - 1, by omega⟩
        rw [l_X2_canOpen_50_s]
        unfold b_X2_canOpen_50 f_X9_columnCount
        rw [hW.2.1, bn_s]
        by_cases qn : n ≤ x
        · rw [if_pos (by rw [iI_le (by omega) (by omega) (by omega) (by omega)]; omega), fs_none (d + 1) x (fun y hy => gO_out (by omega))]
          exact ⟨S, rfl, hW, Fr.rf, fun i hi => rfl, fun l hl i hi => by cases hl⟩
        rw [if_neg (by rw [iI_le (by omega) (by omega) (by omega) (by omega)]; omega), show iI (x : Int) + (1 : Int32) = iI ((x + 1 : Nat) : Int) by rw [i_1, iI_add]; rfl]
        have rest : ∀ S4 : sT, RR S4 st → RW S4 14 n f → Fr P14 S S4 → (∀ i, i < a → S4.1 20 0 i = S.1 20 0 i) → gO st n p k f x = none → ∃ S', l_X2_canOpen_50 (f_X2_canOpen m) 14 (iI p) (iI a) (iI goal) M (iI ((x + 1 : Nat) : Int)) S4 = some (iI (b2i (fs (gO st n p k f) (d + 1) x).isSome), S') ∧ SrQ S S' n a (k + 1) f (fs (gO st n p k f) (d + 1) x) := by
          intro S4 r1 r2 r3 r4 r5
          obtain ⟨S', g1, g2, g3, g4, g5⟩ := ihd (x + 1) M S4 (by omega) (by omega) r1 r2
          have ef : fs (gO st n p k f) (d + 1) x = fs (gO st n p k f) d (x + 1) := fs_n r5
          rw [ef]
          exact ⟨S', g1, g2, r3.tr g3, fun i hi => (g4 i hi).trans (r4 i hi), g5⟩
        rcases list_nc (f x) with hl | ⟨l0, y, hl⟩
        · have es : gO st n p k f x = none := by
            unfold gO stO
            rw [if_neg (fun z => z.2 hl)]
            rfl
          rw [p_take_none (p_upper_nil hW (by omega) hl), bn2_s, jn_b, if_pos (show iI (-1) = (-1 : Int32) from rfl)]
          exact rest S hR hW Fr.rf (fun i hi => rfl) es
        · have hy : y < 4 := by
            have := (hW.2.2 x (by omega)).1
            rw [hl] at this
            exact this.init.2.1
          have hl8 : l0.length < 8 := by
            have := (hW.2.2 x (by omega)).1
            rw [hl] at this
            exact this.init.2.2
          obtain ⟨S1, e1, e2, e3⟩ := p_take_app hW (c := x) (by omega) hl
          have es : stO n f x = some (upf f x l0) := by
            unfold stO
            rw [if_pos ⟨by omega, by rw [hl]; simp⟩, hl]
            simp
          have hR1 : RR S1 st := hR.p14 e3.p14
          have k1 : ∀ i, S1.1 20 0 i = S.1 20 0 i := fun i => by rw [e3.1 20 0 (by omega)]
          rw [e1, bn2_s, jn_b, if_neg (by rw [i_m1, iI_eq (by omega) (by omega) (by omega) (by omega)]; omega), vi_iI (by omega) (by omega) (by omega), ck_t, cl_iI (by omega) (by omega), Int.toNat_natCast, lt_b, show iI (a : Int) + (1 : Int32) = iI ((a + 1 : Nat) : Int) by rw [i_1, iI_add]; rfl]
          have F2 : Fr P14 S (us S1 20 0 a (iI x)) := e3.p14.tr (Fr.us (by unfold P14; omega))
          obtain ⟨S3, g1, g2, g3, g4, g5⟩ := ih (a + 1) m x (us S1 20 0 a (iI x)) (upf f x l0) (by omega) (by omega) (hR.p14 F2) e2.us20 (fun _ => us_same) (fun z => absurd z (by omega)) (by omega)
          obtain ⟨S4, t1, t2, t3⟩ := p_put_in (x := y) g2 (show x < n by omega) hy (by rw [upf_s]; exact hl8)
          have t2 : RW S4 14 n f := by
            rw [upf_s, upf_upf, ← hl, upf_self] at t2
            exact t2
          have F3 : Fr P14 S S4 := (F2.tr g3).tr t3.p14
          have k4 : ∀ i, S4.1 20 0 i = S3.1 20 0 i := fun i => by rw [t3.1 20 0 (by omega)]
          rw [g1, bn2_s, t1, bn2_s]
          cases hs : sr (stO n) (tsO st n p) 8 k x (upf f x l0) with
          | none =>
            rw [if_pos (show iI (b2i (none : Option (List Nat)).isSome) = (0 : Int32) from rfl)]
            exact rest S4 (hR.p14 F3) t2 F3 (fun i hi => by rw [k4, g4 i (by omega), us_20n (by omega), k1]) (by unfold gO; rw [es]; show (sr (stO n) (tsO st n p) 8 k x (upf f x l0)).map (List.cons x) = none; rw [hs]; rfl)
          | some l =>
            rw [if_neg (show ¬ (iI (b2i (some l : Option (List Nat)).isSome) = (0 : Int32)) from z10)]
            have ef : fs (gO st n p k f) (d + 1) x = some (x :: l) := by
              have eg : gO st n p k f x = some (x :: l) := by
                unfold gO
                rw [es]
                show (sr (stO n) (tsO st n p) 8 k x (upf f x l0)).map (List.cons x) = _
                rw [hs]
                rfl
              exact fs_y eg
            rw [ef]
            refine ⟨S4, rfl, t2, F3, fun i hi => by rw [k4, g4 i (by omega), us_20n (by omega), k1], fun l' hl' i hi => ?_⟩
            have hl' : l' = x :: l := (Option.some.inj hl').symm
            subst hl'
            rw [k4]
            by_cases q : i = 0
            · subst q
              rw [show a + 0 = a by omega, g4 a (by omega), us_same]
              rfl
            · obtain ⟨i, rfl⟩ : ∃ i', i = i' + 1 := ⟨i - 1, by omega⟩
              rw [show a + (i + 1) = a + 1 + i by omega, g5 l hs i (by omega)]
              rfl
    show ∃ S', s_X2_canOpen (f_X2_canOpen m) 14 (iI p) (iI a) (iI goal) S = _ ∧ _
    have hF : 1000 < FU := by unfold FU; omega
    obtain ⟨S', g1, g2⟩ := inner (8 - lo) lo FU S (by omega) (by omega) hR hW
    refine ⟨S', ?_, g2⟩
    unfold s_X2_canOpen
    rw [jn_b, if_neg (by rw [i_0, iI_lt (by omega) (by omega) (by omega) (by omega)]; omega), if_neg (by rw [iI_le (by omega) (by omega) (by omega) (by omega)]; omega), if_pos (by rw [i_3, iI_lt (by omega) (by omega) (by omega) (by omega)]; omega), p_leastAt (by omega) hlo h0, bn_s]
    exact g1
theorem p_searchOpen_l {st : Nat → Nat} {n p : Nat} {f : wF} (hp8 : p ≤ 8) : ∀ (d N m : Nat) (S : sT), N + d = 4 → d < m → RR S st → RW S 14 n f → S.1 106 0 0 = iI (-1) → ∃ S', l_X2_searchOpen_16 (iI p) m (iI N) S = some S' ∧ Fr1 PCs S S' ∧ (∀ i : Int, -1 ≤ i → i ≤ 2 → f_X2_told (iI i) S' = some (plA (plF (fun N => sr (stO n) (tsO st n p) 8 N 0 f) d N) i)) := by
  have z10' : ¬ (iI 1 = (0 : Int32)) := z10
  have z00 : iI 0 = (0 : Int32) := rfl
  intro d
  induction d with
  | zero =>
    intro N m S hN hm hR hW h106
    obtain ⟨m, rfl⟩ : ∃ m', m = m' + 1 := ⟨m - 1, by omega⟩
    refine ⟨S, ?_, Fr1.rf, fun i i1 i2 => ?_⟩
    · rw [l_X2_searchOpen_16_s]
      unfold b_X2_searchOpen_16
      rw [if_pos (by rw [i_3, iI_lt (by omega) (by omega) (by omega) (by omega)]; omega)]
    · exact p_told_n h106 i1 i2
  | succ d ih =>
    intro N m S hN hm hR hW h106
    obtain ⟨m, rfl⟩ : ∃ m', m = m' + 1 := ⟨m - 1, by omega⟩
    obtain ⟨S1, e1, e2, e3, e4, e5⟩ := p_canOpen (st := st) (n := n) (p := p) (goal := N) (by omega) hp8 N 0 12 0 S f (by omega) (by omega) hR hW (fun z => absurd rfl z) (fun _ => rfl) (by omega)
    rw [l_X2_searchOpen_16_s]
    unfold b_X2_searchOpen_16
    rw [if_neg (by rw [i_3, iI_lt (by omega) (by omega) (by omega) (by omega)]; omega), h106, if_pos (show iI (-1) = (-1 : Int32) from rfl), show (0 : Int32) = iI ((0 : Nat) : Int) from rfl, e1, bn2_s, jn_b, show iI (N : Int) + (1 : Int32) = iI ((N + 1 : Nat) : Int) by rw [i_1, iI_add]; rfl]
    have F1 : Fr1 PCs S S1 := (e3.mono (fun k i z => by unfold P14 at z; unfold PCs; omega)).1
    have k106 : S1.1 106 0 0 = iI (-1) := by rw [e3.1 106 0 (by unfold P14; omega)]; exact h106
    cases hs : sr (stO n) (tsO st n p) 8 N 0 f with
    | none =>
      rw [if_pos (show iI (b2i (none : Option (List Nat)).isSome) = iI ((0 : Nat) : Int) from rfl)]; (try dsimp only); rw [lt_b]
      obtain ⟨S', g1, g2, g3⟩ := ih (N + 1) m S1 (by omega) (by omega) (hR.fr1 F1) e2 k106
      refine ⟨S', g1, F1.tr g2, fun i i1 i2 => ?_⟩
      rw [g3 i i1 i2]
      have ep : plF (fun N => sr (stO n) (tsO st n p) 8 N 0 f) (d + 1) N = plF (fun N => sr (stO n) (tsO st n p) 8 N 0 f) d (N + 1) := plF_n hs
      rw [ep]
    | some r =>
      have hr : r.length = N := by
        rw [sr_en] at hs
        exact (en_len _ _ _ r (List.mem_of_find?_eq_some hs)).1
      rw [if_neg (show ¬ (iI (b2i (some r : Option (List Nat)).isSome) = iI ((0 : Nat) : Int)) from z10), lt_b]; (try dsimp only); rw [lt_b]
      obtain ⟨m, rfl⟩ : ∃ m', m = m' + 1 := ⟨m - 1, by omega⟩
      refine ⟨us S1 106 0 0 (iI N), ?_, F1.tr (Fr1.us (by unfold PCs; omega)), fun i i1 i2 => ?_⟩
      · rw [l_X2_searchOpen_16_s]
        unfold b_X2_searchOpen_16
        rw [us_same]
        by_cases q : N = 3
        · rw [if_pos (by rw [i_3, iI_lt (by omega) (by omega) (by omega) (by omega)]; omega)]
        · rw [if_neg (by rw [i_3, iI_lt (by omega) (by omega) (by omega) (by omega)]; omega), if_neg (by rw [i_m1, iI_eq (by omega) (by omega) (by omega) (by omega)]; omega)]
      · have ep : plF (fun N => sr (stO n) (tsO st n p) 8 N 0 f) (d + 1) N = some r := plF_y hs
        rw [ep]
        refine p_told_y us_same hr (by omega) (fun j hj => ?_) i1 i2
        rw [us_ne (by omega)]
        have := e5 r hs j (by omega)
        rw [Nat.zero_add] at this
        exact this
theorem cD_open {S : sT} {L : Nat → List Nat} {st : Nat → Nat} {p : Nat} {i : Int} (h : CI S L st) (hp8 : p ≤ 8) (i1 : -1 ≤ i) (i2 : i ≤ 2) : ∃ S', f_X10_open (iI p) (iI i) S = some (plA (opF st (nW L) p (gW' L st)) i, S') ∧ Fr1 PCs S S' := by
  have h12 : (tW L).length ≤ 12 := (parseT_ok (L 1)).1
  have hF : 1000 < FU := by unfold FU; omega
  have z10' : ¬ (iI 1 = (0 : Int32)) := z10
  have hW := wallN h (Nat.le_refl (tW L).length)
  obtain ⟨S1, e1, e2, e3⟩ := p_become (S := S) (w := 14) hW (by omega)
  have F2 : Fr1 PCs S (us S1 106 0 0 (-1 : Int32)) := (e3.p1 (by omega)).tr (Fr1.us (by unfold PCs; omega))
  obtain ⟨S', g1, g2, g3⟩ := p_searchOpen_l (st := st) (f := gW' L st) (n := nW L) hp8 4 0 FU (us S1 106 0 0 (-1 : Int32)) (by omega) (by omega) (h.2.1.fr1 F2) (e2.kept (by rw [us_ne (by omega)]) (by rw [us_ne (by omega)]) (by rw [us_ne (by omega)]) (by rw [us_ne (by omega)]) (by rw [us_ne (by omega)])) us_same
  refine ⟨S', ?_, F2.tr g2⟩
  have eS : f_X2_searchOpen (tW L).length (iI p) S = some S' := by
    unfold f_X2_searchOpen
    rw [e1, bn_s, lt_b]
    exact g1
  unfold f_X10_open
  rw [show f_X10_within (iI (p : Int)) (0 : Int32) (8 : Int32) S = _ from p_within (a := 0) (b := 8) S (by omega) (by omega) (by omega) (by omega) (by omega) (by omega), bn_s, b2i_p (by omega), if_neg z10', p_wi12 S (by omega) (by omega), bn_s, b2i_p (by omega), if_neg z10', p_last h, bn_s, decide_eq_true (show (tW L).length < 16 by omega), ck_t, eS, bn_s, g3 i i1 i2, bn_s]
  rfl
