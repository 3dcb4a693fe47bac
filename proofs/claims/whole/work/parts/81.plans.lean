/-! the class's searches -/
theorem p_wi12 {i : Int} (S : sT) (i1 : -2147483648 ≤ i) (i2 : i < 2147483648) : f_X10_within (iI i) (-1 : Int32) (2 : Int32) S = some (iI (b2i (decide (-1 ≤ i ∧ i ≤ 2)))) := by
  rw [i_m1, i_2]
  exact p_within S i1 i2 (by omega) (by omega) (by omega) (by omega)
def P14 : Nat → Nat → Prop := fun k i => (29 ≤ k ∧ k ≤ 32 ∨ k = 112) ∧ i = 14 ∨ k = 20 ∧ i = 0
theorem FW.p14 {S S' : sT} (h : FW 14 S S') : Fr P14 S S' := h.fr (fun k z => by unfold P14; omega)
theorem RR.p14 {S S' : sT} {st : Nat → Nat} (h : RR S st) (hF : Fr P14 S S') : RR S' st := h.fr hF (by unfold P14; omega)
theorem RW.us20 {S : sT} {w n b : Nat} {f : Nat → List Nat} {v : Int32} (h : RW S w n f) : RW (us S 20 0 b v) w n f := h.kept (by rw [us_ne (by omega)]) (by rw [us_ne (by omega)]) (by rw [us_ne (by omega)]) (by rw [us_ne (by omega)]) (by rw [us_ne (by omega)])
theorem p_leastAt {S : sT} {a lo : Nat} (ha : a < 3) (h1 : a ≠ 0 → S.1 20 0 (a - 1) = iI lo) (h0 : a = 0 → lo = 0) : f_X2_leastAt (iI a) S = some (iI lo) := by
  unfold f_X2_leastAt
  by_cases q : a = 0
  · rw [if_pos (by rw [i_1, iI_lt (by omega) (by omega) (by omega) (by omega)]; omega), h0 q]
    rfl
  · rw [if_neg (by rw [i_1, iI_lt (by omega) (by omega) (by omega) (by omega)]; omega), if_neg (by rw [i_3, iI_lt (by omega) (by omega) (by omega) (by omega)]; omega), show iI (a : Int) - (1 : Int32) = iI ((a - 1 : Nat) : Int) by rw [i_1, iI_sub]; congr 1; omega, vi_iI (by omega) (by omega) (by omega), ck_t, cl_iI (by omega) (by omega), Int.toNat_natCast, h1 q]
theorem iI_div8 {a : Nat} (h : a < 1000) : iI (a : Int) / (8 : Int32) = iI ((a / 8 : Nat) : Int) := pk_div (a := a) (d := 8) (by omega) (by omega) (by omega)
theorem iI_rem8 {a : Nat} (h : a < 1000) : iI (a : Int) - iI (a : Int) / (8 : Int32) * (8 : Int32) = iI ((a % 8 : Nat) : Int) := pk_rem (a := a) (d := 8) (by omega) (by omega) (by omega)
theorem nz_8 : nz (8 : Int32) = true := by decide
theorem us_20n {S : sT} {i b : Nat} {v : Int32} (h : i ≠ b) : (us S 20 0 b v).1 20 0 i = S.1 20 0 i := us_nb h
/-- what a search of the class does: the answer, the row -/
def SrQ (S S' : sT) (n a k : Nat) (f : wF) (o : Option (List Nat)) : Prop := RW S' 14 n f ∧ Fr P14 S S' ∧ (∀ i, i < a → S'.1 20 0 i = S.1 20 0 i) ∧ ∀ l, o = some l → ∀ i, i < k → S'.1 20 0 (a + i) = iI (nth l i)
abbrev gMd (st : Nat → Nat) (n k : Nat) (f : wF) : Nat → Option (List Nat) := fun x => (stM n f x).bind (fun f' => (sr (stM n) (stB st n) 16 k x f').map (List.cons x))
theorem p_canMend {st : Nat → Nat} {n goal : Nat} (hg : goal ≤ 3) : ∀ (k a m lo : Nat) (S : sT) (f : wF), a + k = goal → k < m → RR S st → RW S 14 n f → (a ≠ 0 → S.1 20 0 (a - 1) = iI lo) → (a = 0 → lo = 0) → lo ≤ 15 → ∃ S', f_X2_canMend m 14 (iI a) (iI goal) S = some (iI (b2i (sr (stM n) (stB st n) 16 k lo f).isSome), S') ∧ SrQ S S' n a k f (sr (stM n) (stB st n) 16 k lo f) := by
  have z10' : ¬ (iI 1 = (0 : Int32)) := z10
  have z00 : iI 0 = (0 : Int32) := rfl
  intro k
  induction k with
  | zero =>
    intro a m lo S f ha hm hR hW hlo h0 hl
    obtain ⟨m, rfl⟩ : ∃ m', m = m' + 1 := ⟨m - 1, by omega⟩
    refine ⟨S, ?_, hW, Fr.rf, fun i hi => rfl, fun l hl i hi => absurd hi (by omega)⟩
    show s_X2_canMend (f_X2_canMend m) 14 (iI a) (iI goal) S = _
    unfold s_X2_canMend sr
    rw [jn_b, if_neg (by rw [i_0, iI_lt (by omega) (by omega) (by omega) (by omega)]; omega), if_pos (by rw [iI_le (by omega) (by omega) (by omega) (by omega)]; omega), p_stands hW hR, bn_s, vz_b, ck_t]
    have e : (List.range' 0 n).all (fun c => !wk st n f c) = stB st n f := rfl
    rw [e]
    cases stB st n f <;> rfl
  | succ k ih =>
    intro a m lo S f ha hm hR hW hlo h0 hl
    obtain ⟨m, rfl⟩ : ∃ m', m = m' + 1 := ⟨m - 1, by omega⟩
    have inner : ∀ (d x M : Nat) (S : sT), x + d = 16 → d < M → RR S st → RW S 14 n f → ∃ S', l_X2_canMend_29 (f_X2_canMend m) 14 (iI a) (iI goal) M (iI x) S = some (iI (b2i (fs (gMd st n k f) d x).isSome), S') ∧ SrQ S S' n a (k + 1) f (fs (gMd st n k f) d x) := by
      intro d
      induction d with
      | zero =>
        intro x M S hx hM hR hW
        obtain ⟨M, rfl⟩ : ∃ m', M = m' + 1 := ⟨M - 1, by omega⟩
        refine ⟨S, ?_, hW, Fr.rf, fun i hi => rfl, fun l hl i hi => by cases hl⟩
        rw [l_X2_canMend_29_s]
        unfold b_X2_canMend_29
        rw [if_pos (by rw [i_16, iI_le (by omega) (by omega) (by omega) (by omega)]; omega)]
        rfl
      | succ d ihd =>
        intro x M S hx hM hR hW
        obtain ⟨M, rfl⟩ : ∃ m', M = m' + 1 := ⟨M - 1, by omega⟩
        obtain ⟨S1, e1, e2, e3⟩ := p_put hW (x := x / 8) (by omega) (z := ((x % 8 : Nat) : Int)) (by omega) (by omega)
        have hR1 : RR S1 st := hR.p14 e3.p14
        have k1 : ∀ i, S1.1 20 0 i = S.1 20 0 i := fun i => by rw [e3.1 20 0 (by omega)]
        rw [l_X2_canMend_29_s]
        unfold b_X2_canMend_29
        rw [if_neg (by rw [i_16, iI_le (by omega) (by omega) (by omega) (by omega)]; omega), nz_8, ck_t, iI_rem8 (by omega), lt_b, ck_t, iI_div8 (by omega), e1, bn2_s, jn_b, lt_b, show iI (x : Int) + (1 : Int32) = iI ((x + 1 : Nat) : Int) by rw [i_1, iI_add]; rfl]
        -- the rest behind this number
        have rest : ∀ S4 : sT, RR S4 st → RW S4 14 n f → Fr P14 S S4 → (∀ i, i < a → S4.1 20 0 i = S.1 20 0 i) → gMd st n k f x = none → ∃ S', l_X2_canMend_29 (f_X2_canMend m) 14 (iI a) (iI goal) M (iI ((x + 1 : Nat) : Int)) S4 = some (iI (b2i (fs (gMd st n k f) (d + 1) x).isSome), S') ∧ SrQ S S' n a (k + 1) f (fs (gMd st n k f) (d + 1) x) := by
          intro S4 r1 r2 r3 r4 r5
          obtain ⟨S', g1, g2, g3, g4, g5⟩ := ihd (x + 1) M S4 (by omega) (by omega) r1 r2
          have ef : fs (gMd st n k f) (d + 1) x = fs (gMd st n k f) d (x + 1) := fs_n r5
          rw [ef]
          exact ⟨S', g1, g2, r3.tr g3, fun i hi => (g4 i hi).trans (r4 i hi), g5⟩
        have es : stM n f x = putF n f ((x % 8 : Nat) : Int) (x / 8) := rfl
        cases hp : putF n f ((x % 8 : Nat) : Int) (x / 8) with
        | none =>
          rw [hp] at e2
          rw [if_pos (show iI (b2i (none : Option wF).isSome) = (0 : Int32) from rfl)]
          exact rest S1 hR1 e2 e3.p14 (fun i hi => k1 i) (by unfold gMd; rw [es, hp]; rfl)
        | some f' =>
          rw [hp] at e2
          have e2 : RW S1 14 n f' := e2
          rw [if_neg (show ¬ (iI (b2i (some f' : Option wF).isSome) = (0 : Int32)) from z10), vi_iI (by omega) (by omega) (by omega), ck_t, cl_iI (by omega) (by omega), Int.toNat_natCast, show iI (a : Int) + (1 : Int32) = iI ((a + 1 : Nat) : Int) by rw [i_1, iI_add]; rfl]
          have F2 : Fr P14 S (us S1 20 0 a (iI x)) := e3.p14.tr (Fr.us (by unfold P14; omega))
          obtain ⟨S3, g1, g2, g3, g4, g5⟩ := ih (a + 1) m x (us S1 20 0 a (iI x)) f' (by omega) (by omega) (hR.p14 F2) e2.us20 (fun _ => us_same) (fun z => absurd z (by omega)) (by omega)
          -- the stone is taken back
          have hpp : f' = upf f (x % 8) (f (x % 8) ++ [x / 8]) ∧ x % 8 < n := by
            unfold putF at hp
            by_cases q : 0 ≤ ((x % 8 : Nat) : Int) ∧ ((x % 8 : Nat) : Int) < n ∧ (f ((x % 8 : Nat) : Int).toNat).length < 8
            · rw [if_pos q] at hp
              exact ⟨(Option.some.inj hp).symm, by omega⟩
            · rw [if_neg q] at hp
              cases hp
          obtain ⟨hf', hxn⟩ := hpp
          obtain ⟨S4, t1, t2, t3⟩ := p_take_app (x := x / 8) (l := f (x % 8)) g2 hxn (by rw [hf', upf_s])
          have t2 : RW S4 14 n f := by
            rw [hf', upf_upf, upf_self] at t2
            exact t2
          have F3 : Fr P14 S S4 := (F2.tr g3).tr t3.p14
          have k4 : ∀ i, S4.1 20 0 i = S3.1 20 0 i := fun i => by rw [t3.1 20 0 (by omega)]
          rw [g1, bn2_s, t1, bn2_s]
          cases hs : sr (stM n) (stB st n) 16 k x f' with
          | none =>
            rw [if_pos (show iI (b2i (none : Option (List Nat)).isSome) = (0 : Int32) from rfl)]
            exact rest S4 (hR.p14 F3) t2 F3 (fun i hi => by rw [k4, g4 i (by omega), us_20n (by omega), k1]) (by unfold gMd; rw [es, hp]; show (sr (stM n) (stB st n) 16 k x f').map (List.cons x) = none; rw [hs]; rfl)
          | some l =>
            rw [if_neg (show ¬ (iI (b2i (some l : Option (List Nat)).isSome) = (0 : Int32)) from z10)]
            have eg : gMd st n k f x = some (x :: l) := by
              unfold gMd
              rw [es, hp]
              show (sr (stM n) (stB st n) 16 k x f').map (List.cons x) = some (x :: l)
              rw [hs]
              rfl
            have ef : fs (gMd st n k f) (d + 1) x = some (x :: l) := fs_y eg
            rw [ef]
            refine ⟨S4, rfl, t2, F3, fun i hi => by rw [k4, g4 i (by omega), us_20n (by omega), k1], fun l' hl' i hi => ?_⟩
            have hl' : l' = x :: l := (Option.some.inj hl').symm
            subst hl'
            rw [k4]
            by_cases q : i = 0
            · subst q
              rw [show a + 0 = a by omega, g4 a (by omega), us_same]
              rfl
            · obtain ⟨i, rfl⟩ : ∃ i', i = i' + 1 := ⟨i - 1, by omega⟩
              rw [show a + (i + 1) = a + 1 + i by omega, g5 l hs i (by omega)]
              rfl
    show ∃ S', s_X2_canMend (f_X2_canMend m) 14 (iI a) (iI goal) S = _ ∧ _
    have hF : 1000 < FU := by unfold FU; omega
    obtain ⟨S', g1, g2⟩ := inner (16 - lo) lo FU S (by omega) (by omega) hR hW
    refine ⟨S', ?_, g2⟩
    unfold s_X2_canMend
    rw [jn_b, if_neg (by rw [i_0, iI_lt (by omega) (by omega) (by omega) (by omega)]; omega), if_neg (by rw [iI_le (by omega) (by omega) (by omega) (by omega)]; omega), if_pos (by rw [i_3, iI_lt (by omega) (by omega) (by omega) (by omega)]; omega), p_leastAt (by omega) hlo h0, bn_s]
    exact g1
theorem p_told_n {S : sT} {i : Int} (h : S.1 106 0 0 = iI (-1)) (i1 : -1 ≤ i) (i2 : i ≤ 2) : f_X2_told (iI i) S = some (plA none i) := by
  unfold f_X2_told plA
  rw [h]
  by_cases q : i = -1
  · rw [if_pos (by rw [q]; rfl)]
  · rw [if_neg (by rw [i_m1, iI_eq (by omega) (by omega) (by omega) (by omega)]; omega), if_neg (by rw [i_0, iI_lt (by omega) (by omega) (by omega) (by omega)]; omega), if_pos (by rw [iI_le (by omega) (by omega) (by omega) (by omega)]; omega)]
    rfl
theorem p_told_y {S : sT} {i : Int} {r : List Nat} {N : Nat} (h : S.1 106 0 0 = iI N) (hr : r.length = N) (hN : N ≤ 3) (h20 : ∀ j, j < N → S.1 20 0 j = iI (nth r j)) (i1 : -1 ≤ i) (i2 : i ≤ 2) : f_X2_told (iI i) S = some (plA (some r) i) := by
  unfold f_X2_told plA
  rw [h]
  by_cases q : i = -1
  · rw [if_pos (by rw [q]; rfl)]
    simp only
    rw [if_pos q, hr]
  · obtain ⟨j, rfl⟩ : ∃ t : Nat, i = t := ⟨i.toNat, by omega⟩
    simp only
    rw [if_neg (by rw [i_m1, iI_eq (by omega) (by omega) (by omega) (by omega)]; omega), if_neg (by rw [i_0, iI_lt (by omega) (by omega) (by omega) (by omega)]; omega), if_neg q]
    by_cases q2 : j < N
    · rw [if_neg (by rw [iI_le (by omega) (by omega) (by omega) (by omega)]; omega), if_neg (by rw [i_3, iI_le (by omega) (by omega) (by omega) (by omega)]; omega), vi_iI (by omega) (by omega) (by omega), ck_t, cl_iI (by omega) (by omega), Int.toNat_natCast, h20 j q2, if_pos (by omega)]
    · rw [if_pos (by rw [iI_le (by omega) (by omega) (by omega) (by omega)]; omega), if_neg (by omega)]
      rfl
theorem p_searchMend_l {st : Nat → Nat} {n : Nat} {f : wF} : ∀ (d N m : Nat) (S : sT), N + d = 4 → d < m → RR S st → RW S 14 n f → S.1 106 0 0 = iI (-1) → ∃ S', l_X2_searchMend_15 m (iI N) S = some S' ∧ Fr1 PCs S S' ∧ (∀ i : Int, -1 ≤ i → i ≤ 2 → f_X2_told (iI i) S' = some (plA (plF (fun N => sr (stM n) (stB st n) 16 N 0 f) d N) i)) := by
  have z10' : ¬ (iI 1 = (0 : Int32)) := z10
  have z00 : iI 0 = (0 : Int32) := rfl
  intro d
  induction d with
  | zero =>
    intro N m S hN hm hR hW h106
    obtain ⟨m, rfl⟩ : ∃ m', m = m' + 1 := ⟨m - 1, by omega⟩
    refine ⟨S, ?_, Fr1.rf, fun i i1 i2 => ?_⟩
    · rw [l_X2_searchMend_15_s]
      unfold b_X2_searchMend_15
      rw [if_pos (by rw [i_3, iI_lt (by omega) (by omega) (by omega) (by omega)]; omega)]
    · exact p_told_n h106 i1 i2
  | succ d ih =>
    intro N m S hN hm hR hW h106
    obtain ⟨m, rfl⟩ : ∃ m', m = m' + 1 := ⟨m - 1, by omega⟩
    obtain ⟨S1, e1, e2, e3, e4, e5⟩ := p_canMend (st := st) (n := n) (goal := N) (by omega) N 0 12 0 S f (by omega) (by omega) hR hW (fun z => absurd rfl z) (fun _ => rfl) (by omega)
    rw [l_X2_searchMend_15_s]
    unfold b_X2_searchMend_15
    rw [if_neg (by rw [i_3, iI_lt (by omega) (by omega) (by omega) (by omega)]; omega), h106, if_pos (show iI (-1) = (-1 : Int32) from rfl), show (0 : Int32) = iI ((0 : Nat) : Int) from rfl, e1, bn2_s, jn_b, show iI (N : Int) + (1 : Int32) = iI ((N + 1 : Nat) : Int) by rw [i_1, iI_add]; rfl]
    have F1 : Fr1 PCs S S1 := (e3.mono (fun k i z => by unfold P14 at z; unfold PCs; omega)).1
    have k106 : S1.1 106 0 0 = iI (-1) := by rw [e3.1 106 0 (by unfold P14; omega)]; exact h106
    cases hs : sr (stM n) (stB st n) 16 N 0 f with
    | none =>
      rw [if_pos (show iI (b2i (none : Option (List Nat)).isSome) = iI ((0 : Nat) : Int) from rfl)]; (try dsimp only); rw [lt_b]
      obtain ⟨S', g1, g2, g3⟩ := ih (N + 1) m S1 (by omega) (by omega) (hR.fr1 F1) e2 k106
      refine ⟨S', g1, F1.tr g2, fun i i1 i2 => ?_⟩
      rw [g3 i i1 i2, plF_n hs]
    | some r =>
      have hr : r.length = N := by
        rw [sr_en] at hs
        exact (en_len _ _ _ r (List.mem_of_find?_eq_some hs)).1
      rw [if_neg (show ¬ (iI (b2i (some r : Option (List Nat)).isSome) = iI ((0 : Nat) : Int)) from z10), lt_b]; (try dsimp only); rw [lt_b]
      obtain ⟨m, rfl⟩ : ∃ m', m = m' + 1 := ⟨m - 1, by omega⟩
      refine ⟨us S1 106 0 0 (iI N), ?_, F1.tr (Fr1.us (by unfold PCs; omega)), fun i i1 i2 => ?_⟩
      · rw [l_X2_searchMend_15_s]
        unfold b_X2_searchMend_15
        rw [us_same]
        by_cases q : N = 3
        · rw [if_pos (by rw [i_3, iI_lt (by omega) (by omega) (by omega) (by omega)]; omega)]
        · rw [if_neg (by rw [i_3, iI_lt (by omega) (by omega) (by omega) (by omega)]; omega), if_neg (by rw [i_m1, iI_eq (by omega) (by omega) (by omega) (by omega)]; omega)]
      · have ep : plF (fun N => sr (stM n) (stB st n) 16 N 0 f) (d + 1) N = some r := plF_y hs
        rw [ep]
        refine p_told_y us_same hr (by omega) (fun j hj => ?_) i1 i2
        rw [us_ne (by omega)]
        have := e5 r hs j (by omega)
        rw [Nat.zero_add] at this
        exact this
theorem cD_mend {S : sT} {L : Nat → List Nat} {st : Nat → Nat} {i : Int} (h : CI S L st) (i1 : -1 ≤ i) (i2 : i ≤ 2) : ∃ S', f_X10_mend (iI i) S = some (plA (mdF st (nW L) (gW' L st)) i, S') ∧ Fr1 PCs S S' := by
  have h12 : (tW L).length ≤ 12 := (parseT_ok (L 1)).1
  have hF : 1000 < FU := by unfold FU; omega
  have hW := wallN h (Nat.le_refl (tW L).length)
  obtain ⟨S1, e1, e2, e3⟩ := p_become (S := S) (w := 14) hW (by omega)
  have F2 : Fr1 PCs S (us S1 106 0 0 (-1 : Int32)) := (e3.p1 (by omega)).tr (Fr1.us (by unfold PCs; omega))
  obtain ⟨S', g1, g2, g3⟩ := p_searchMend_l (st := st) (f := gW' L st) (n := nW L) 4 0 FU (us S1 106 0 0 (-1 : Int32)) (by omega) (by omega) (h.2.1.fr1 F2) (e2.kept (by rw [us_ne (by omega)]) (by rw [us_ne (by omega)]) (by rw [us_ne (by omega)]) (by rw [us_ne (by omega)]) (by rw [us_ne (by omega)])) us_same
  refine ⟨S', ?_, F2.tr g2⟩
  have eS : f_X2_searchMend (tW L).length S = some S' := by
    unfold f_X2_searchMend
    rw [e1, bn_s, lt_b]
    exact g1
  unfold f_X10_mend
  rw [p_wi12 S (by omega) (by omega), bn_s, b2i_p (by omega), if_neg (show ¬ (iI 1 = (0 : Int32)) from z10), p_last h, bn_s, decide_eq_true (show (tW L).length < 16 by omega), ck_t, eS, bn_s, g3 i i1 i2, bn_s]
  rfl
