/-! years by a seed -/
def nxS (s : Int32) : Int32 := (1103515245 : Int32) * s + (12345 : Int32)
def hiN (s : Int32) : Nat := (s.toUInt32 >>> (16 : UInt32)).toNat
theorem hiN_lt (s : Int32) : hiN s < 65536 := by
  unfold hiN
  rw [UInt32.toNat_shiftRight]
  have h := s.toUInt32.toNat_lt
  have e : ((16 : UInt32).toNat % 32) = 16 := rfl
  rw [e, Nat.shiftRight_eq_div_pow]
  omega
theorem hi_eq (s : Int32) : (s.toUInt32 >>> (((16 : Int32)).toUInt32 &&& Int32.toUInt32 31)).toInt32 = iI (hiN s) := by
  have e : (((16 : Int32)).toUInt32 &&& Int32.toUInt32 31) = (16 : UInt32) := by decide
  rw [e]
  unfold hiN iI
  apply Int32.toBitVec_inj.mp
  show (s.toUInt32 >>> (16 : UInt32)).toBitVec = BitVec.ofInt 32 ((s.toUInt32 >>> (16 : UInt32)).toNat : Int)
  rw [BitVec.ofInt_natCast]
  apply BitVec.eq_of_toNat_eq
  rw [BitVec.toNat_ofNat]
  have h := (s.toUInt32 >>> (16 : UInt32)).toNat_lt
  have e2 : (s.toUInt32 >>> (16 : UInt32)).toBitVec.toNat = (s.toUInt32 >>> (16 : UInt32)).toNat := rfl
  rw [e2]
  omega
theorem hi_rem (s : Int32) {m : Nat} (h0 : 0 < m) (hm : m < 1000) : (s.toUInt32 >>> (((16 : Int32)).toUInt32 &&& Int32.toUInt32 31)).toInt32 - (s.toUInt32 >>> (((16 : Int32)).toUInt32 &&& Int32.toUInt32 31)).toInt32 / iI (m : Int) * iI (m : Int) = iI ((hiN s % m : Nat) : Int) := by
  have h := hiN_lt s
  rw [hi_eq]
  exact pk_rem (a := hiN s) (d := m) (by omega) h0 (by omega)
theorem nz_iI {m : Nat} (h0 : 0 < m) (hm : m < 1000) : nz (iI (m : Int)) = true := by
  unfold nz
  rw [decide_eq_false (by rw [i_0, iI_eq (by omega) (by omega) (by omega) (by omega)]; omega)]
  rfl
theorem p_lot {S : sT} {m : Nat} (h0 : 0 < m) (hm : m < 1000) : f_X0_lot (iI m) S = some (iI ((hiN (nxS (S.1 108 0 0)) % m : Nat) : Int), us S 108 0 0 (nxS (S.1 108 0 0))) := by
  unfold f_X0_lot
  rw [lt_b, us_same, if_neg (by rw [i_0, iI_le (by omega) (by omega) (by omega) (by omega)]; omega), nz_iI h0 hm, ck_t, hi_rem _ h0 hm]
  rfl
theorem m_lot {S : sT} {m : Nat} (h0 : 0 < m) (hm : m < 1000) : f_X11_lot (iI m) S = some (iI ((hiN (nxS (S.1 122 0 0)) % m : Nat) : Int), us S 122 0 0 (nxS (S.1 122 0 0))) := by
  unfold f_X11_lot
  rw [lt_b, us_same, nz_iI h0 hm, ck_t, hi_rem _ h0 hm]
  rfl
def stB (st : Nat → Nat) (n : Nat) (f : Nat → List Nat) : Bool := (List.range' 0 n).all (fun c => !wk st n f c)
theorem stB_0 {st : Nat → Nat} {n : Nat} {f : Nat → List Nat} (hn : n ≤ 8) : wkB st n f = (0 : Int32) ↔ stB st n f = true := by
  rw [wkB_0 hn]
  unfold stB
  rw [List.all_eq_true]
  constructor
  · intro h c hc
    rw [List.mem_range'_1] at hc
    rw [h c (by omega)]; rfl
  · intro h c hc
    have := h c (by rw [List.mem_range'_1]; omega)
    simpa using this
/-- a year -/
def yS (n who : Nat) (s : Int32) (f : Nat → List Nat) : Nat → List Nat := if hiN (nxS (nxS s)) % 4 = 0 then (tkF n f ((hiN (nxS s) % n : Nat) : Int) who).getD f else (putF n f ((hiN (nxS s) % n : Nat) : Int) who).getD f
theorem p_passYear {S : sT} {n who : Nat} {f : Nat → List Nat} (h : RW S 15 n f) (h1 : 0 < n) (hw : who < 2) : ∃ S', f_X0_passYear (iI who) S = some S' ∧ RW S' 15 n (yS n who (S.1 108 0 0) f) ∧ S'.1 108 0 0 = nxS (nxS (S.1 108 0 0)) ∧ S'.1 109 0 0 = S.1 109 0 0 ∧ Fr1 PCs S S' := by
  have hn := h.1
  have hlt : hiN (nxS (S.1 108 0 0)) % n < n := Nat.mod_lt _ h1
  have eC : f_X9_columnCount 15 S = some (iI n) := by unfold f_X9_columnCount; rw [h.2.1]
  have F2 : Fr1 PCs S (us (us S 108 0 0 (nxS (S.1 108 0 0))) 108 0 0 (nxS (nxS (S.1 108 0 0)))) := (Fr1.us (by unfold PCs; omega)).tr (Fr1.us (by unfold PCs; omega))
  have hW2 : RW (us (us S 108 0 0 (nxS (S.1 108 0 0))) 108 0 0 (nxS (nxS (S.1 108 0 0)))) 15 n f := h.kept (by rw [us_ne (by omega), us_ne (by omega)]) (by rw [us_ne (by omega), us_ne (by omega)]) (by rw [us_ne (by omega), us_ne (by omega)]) (by rw [us_ne (by omega), us_ne (by omega)]) (by rw [us_ne (by omega), us_ne (by omega)])
  have e4 : (4 : Int32) = iI ((4 : Nat) : Int) := rfl
  unfold f_X0_passYear yS
  rw [eC, bn_s, p_lot h1 (by omega), bn2_s, e4, p_lot (by omega) (by omega), bn2_s, us_same]
  have k9 : ∀ S', FW 15 (us (us S 108 0 0 (nxS (S.1 108 0 0))) 108 0 0 (nxS (nxS (S.1 108 0 0)))) S' → S'.1 108 0 0 = nxS (nxS (S.1 108 0 0)) ∧ S'.1 109 0 0 = S.1 109 0 0 := by
    intro S' g
    refine ⟨?_, ?_⟩
    · rw [g.1 108 0 (by omega), us_same]
    · rw [g.1 109 0 (by omega), us_ne (by omega), us_ne (by omega)]
  by_cases q : hiN (nxS (nxS (S.1 108 0 0))) % 4 = 0
  · rw [if_pos (by rw [q]; rfl), if_pos q]
    obtain ⟨S', a1, a2, a3⟩ := p_tfo hW2 hw (z := ((hiN (nxS (S.1 108 0 0)) % n : Nat) : Int)) (by omega) (by omega)
    rw [a1, bn2_s]
    exact ⟨S', rfl, a2, (k9 S' a3).1, (k9 S' a3).2, F2.tr (a3.p1 (by omega))⟩
  · rw [if_neg (by rw [i_0, iI_eq (by omega) (by omega) (by omega) (by omega)]; omega), if_neg q]
    obtain ⟨S', a1, a2, a3⟩ := p_put hW2 (x := who) (by omega) (z := ((hiN (nxS (S.1 108 0 0)) % n : Nat) : Int)) (by omega) (by omega)
    rw [a1, bn2_s]
    exact ⟨S', rfl, a2, (k9 S' a3).1, (k9 S' a3).2, F2.tr (a3.p1 (by omega))⟩
/-- the years on: the seed, the wall, how many do not stand -/
def yrs (st : Nat → Nat) (n T : Nat) : Nat → Nat → Int32 → (Nat → List Nat) → Nat → (Nat → List Nat) × Nat
  | 0, _, _, f, c => (f, c)
  | d + 1, k, s, f, c => yrs st n T d (k + 1) (nxS (nxS s)) (yS n ((st 0 + (T + k)) % 2) s f) (if stB st n (yS n ((st 0 + (T + k)) % 2) s f) = true then c else c + 1)
theorem RR.fr1 {S S' : sT} {st : Nat → Nat} (h : RR S st) (hF : Fr1 PCs S S') : RR S' st := by
  intro k hk
  rw [hF 12 0 (by unfold PCs; omega)]
  exact h k hk
theorem p_live_l {st : Nat → Nat} {n T y : Nat} (h1 : 0 < n) (hT : T ≤ 12) (hy : y ≤ 40) : ∀ (d k m : Nat) (S : sT) (f : Nat → List Nat) (c : Nat), RR S st → RW S 15 n f → S.1 109 0 0 = iI c → c ≤ k → k + d = y → d < m → ∃ S', l_X0_live_22 (iI T) (iI y) m (iI k) S = some S' ∧ RW S' 15 n (yrs st n T d k (S.1 108 0 0) f c).1 ∧ S'.1 109 0 0 = iI (yrs st n T d k (S.1 108 0 0) f c).2 ∧ Fr1 PCs S S' := by
  have z10' : ¬ (iI 1 = (0 : Int32)) := z10
  have z00 : iI 0 = (0 : Int32) := rfl
  intro d
  induction d with
  | zero =>
    intro k m S f c hR hW hc hck hk hm
    obtain ⟨m, rfl⟩ : ∃ m', m = m' + 1 := ⟨m - 1, by omega⟩
    refine ⟨S, ?_, hW, hc, Fr1.rf⟩
    rw [l_X0_live_22_s]
    unfold b_X0_live_22
    rw [if_pos (by rw [iI_le (by omega) (by omega) (by omega) (by omega)]; omega)]
  | succ d ih =>
    intro k m S f c hR hW hc hck hk hm
    obtain ⟨m, rfl⟩ : ∃ m', m = m' + 1 := ⟨m - 1, by omega⟩
    have hn := hW.1
    obtain ⟨S1, e1, e2, e3, e4, e5⟩ := p_passYear hW h1 (who := (st 0 + (T + k)) % 2) (by omega)
    have hR1 := hR.fr1 e5
    rw [l_X0_live_22_s]
    unfold b_X0_live_22
    rw [if_neg (by rw [iI_le (by omega) (by omega) (by omega) (by omega)]; omega), if_neg (by rw [i_40, iI_le (by omega) (by omega) (by omega) (by omega)]; omega), show iI (T : Int) + iI (k : Int) = iI ((T + k : Nat) : Int) by rw [iI_add]; rfl, p_brotherOf hR (by omega), bn_s, e1, bn_s, p_stands e2 hR1, bn_s, jn_b, lt_b, show iI (k : Int) + (1 : Int32) = iI ((k + 1 : Nat) : Int) by rw [i_1, iI_add]; rfl]
    unfold yrs
    have eq : (List.range' 0 n).all (fun c => !wk st n (yS n ((st 0 + (T + k)) % 2) (S.1 108 0 0) f) c) = stB st n (yS n ((st 0 + (T + k)) % 2) (S.1 108 0 0) f) := rfl
    rw [eq]
    cases hs : stB st n (yS n ((st 0 + (T + k)) % 2) (S.1 108 0 0) f) with
    | true =>
      rw [if_neg (show ¬ (iI (b2i true) = (0 : Int32)) from z10), if_pos rfl]
      obtain ⟨S', g1, g2, g3, g4⟩ := ih (k + 1) m S1 _ c hR1 e2 (by rw [e4]; exact hc) (by omega) (by omega) (by omega)
      rw [e3] at g2 g3
      exact ⟨S', g1, g2, g3, e5.tr g4⟩
    | false =>
      have F1 : Fr1 PCs S1 (us S1 109 0 0 (S1.1 109 0 0 + (1 : Int32))) := Fr1.us (by unfold PCs; omega)
      rw [if_pos (show iI (b2i false) = (0 : Int32) from rfl), if_neg (by decide)]; (try dsimp only); rw [lt_b]
      obtain ⟨S', g1, g2, g3, g4⟩ := ih (k + 1) m (us S1 109 0 0 (S1.1 109 0 0 + (1 : Int32))) _ (c + 1) (hR1.fr1 F1) (e2.kept (by rw [us_ne (by omega)]) (by rw [us_ne (by omega)]) (by rw [us_ne (by omega)]) (by rw [us_ne (by omega)]) (by rw [us_ne (by omega)])) (by rw [us_same, e4, hc, i_1, iI_add]; rfl) (by omega) (by omega) (by omega)
      rw [us_ne (by omega), e3] at g2 g3
      exact ⟨S', g1, g2, g3, (e5.tr F1).tr g4⟩
/-- what years answers -/
def yrA (L : Nat → List Nat) (st : Nat → Nat) (seed : Int32) (y : Nat) (c : Int) : Int32 :=
  if c = -1 then iI (yrs st (nW L) (tW L).length y 0 seed (gW' L st) 0).2 else iI (ht ((yrs st (nW L) (tW L).length y 0 seed (gW' L st) 0).1 c.toNat))
theorem yrs_2 (st : Nat → Nat) (n T : Nat) : ∀ (d k : Nat) (s : Int32) (f : Nat → List Nat) (c : Nat), (yrs st n T d k s f c).2 ≤ c + d := by
  intro d
  induction d with
  | zero => intro k s f c; exact Nat.le_refl _
  | succ d ih =>
    intro k s f c
    unfold yrs
    refine Nat.le_trans (ih _ _ _ _) ?_
    split <;> omega
theorem cD_years {S : sT} {L : Nat → List Nat} {st : Nat → Nat} {seed : Int32} {y : Nat} {c : Int} (h : CI S L st) (h1 : 0 < nW L) (y1 : 1 ≤ y) (y2 : y ≤ 40) (c1 : -1 ≤ c) (c2 : c < nW L) : ∃ S', f_X10_years seed (iI y) (iI c) S = some (yrA L st seed y c, S') ∧ Fr1 PCs S S' := by
  have z10' : ¬ (iI 1 = (0 : Int32)) := z10
  have z00 : iI 0 = (0 : Int32) := rfl
  have h12 : (tW L).length ≤ 12 := (parseT_ok (L 1)).1
  have hW := wallN h (Nat.le_refl (tW L).length)
  have hn := hW.1
  have hF : 1000 < FU := by unfold FU; omega
  have eC : f_X9_columnCount (tW L).length S = some (iI (nW L)) := by unfold f_X9_columnCount; rw [hW.2.1]
  obtain ⟨S1, e1, e2, e3⟩ := p_become (S := S) (w := 15) hW (by omega)
  have F1 := e3.p1 (by omega)
  have F2 : Fr1 PCs S (us (us S1 108 0 0 seed) 109 0 0 (0 : Int32)) := (F1.tr (Fr1.us (by unfold PCs; omega))).tr (Fr1.us (by unfold PCs; omega))
  have hW2 : RW (us (us S1 108 0 0 seed) 109 0 0 (0 : Int32)) 15 (nW L) (gW' L st) := e2.kept (by rw [us_ne (by omega), us_ne (by omega)]) (by rw [us_ne (by omega), us_ne (by omega)]) (by rw [us_ne (by omega), us_ne (by omega)]) (by rw [us_ne (by omega), us_ne (by omega)]) (by rw [us_ne (by omega), us_ne (by omega)])
  obtain ⟨S', g1, g2, g3, g4⟩ := p_live_l (st := st) (T := (tW L).length) h1 h12 y2 y 0 FU _ _ 0 (h.2.1.fr1 F2) hW2 us_same (Nat.le_refl 0) (by omega) (by omega)
  rw [us_ne (by omega), us_same] at g2 g3
  have eL : f_X0_live (tW L).length (iI (tW L).length) seed (iI y) S = some S' := by
    unfold f_X0_live
    rw [e1, bn_s, lt_b, lt_b]
    exact g1
  refine ⟨S', ?_, F2.tr g4⟩
  unfold f_X10_years f_X1_turnCount
  rw [p_last h, bn_s, decide_eq_true (show (tW L).length < 16 by omega), ck_t, show f_X10_within (iI (y : Int)) (1 : Int32) (40 : Int32) S = _ from p_within (a := 1) (b := 40) S (by omega) (by omega) (by omega) (by omega) (by omega) (by omega), bn_s, b2i_p (by omega), if_neg z10', eC, bn_s, if_neg (by rw [i_0, iI_eq (by omega) (by omega) (by omega) (by omega)]; omega), h.2.2.2.2.1.1, bn_s, eL, bn_s, jn_b]
  unfold yrA
  by_cases q : c = -1
  · rw [q, if_pos rfl, if_pos (show iI (-1) = (-1 : Int32) from rfl), if_pos (show iI (-1) = (-1 : Int32) from rfl)]
    unfold f_X0_fallenYears
    rw [bn_s, g3]
  · obtain ⟨c, rfl⟩ : ∃ t : Nat, c = t := ⟨c.toNat, by omega⟩
    have cn : ¬ (iI (c : Int) = (-1 : Int32)) := by rw [i_m1, iI_eq (by omega) (by omega) (by omega) (by omega)]; omega
    rw [if_neg cn, if_neg cn, if_neg q, p_has_in hW (by omega), bn_s, if_neg z10']
    unfold f_X0_heightOf
    rw [p_heightOf_in g2 (by omega), bn_s, bn_s]
    rfl
theorem m_years_l {L : Nat → List Nat} {st : Nat → Nat} {sg : List (Nat × Nat × Nat)} {y : Nat} (h1 : 0 < nW L) (hy : y ≤ 40) (J : Int32 → sT → Option (Int32 × sT)) : ∀ (d k m : Nat) (S : sT) (f : Nat → List Nat) (c : Nat), RD S L st sg → RM S (nW L) f → c ≤ k → k + d = y → d < m → ∃ S', l_X11_yearsOf_19 (iI y) J m (iI c) (iI k) S = J (iI (yrs st (nW L) (tW L).length d k (S.1 122 0 0) f c).2) S' ∧ RM S' (nW L) (yrs st (nW L) (tW L).length d k (S.1 122 0 0) f c).1 ∧ Fr1 PX S S' ∧ S'.1 119 0 0 = S.1 119 0 0 := by
  have z10' : ¬ (iI 1 = (0 : Int32)) := z10
  have z00 : iI 0 = (0 : Int32) := rfl
  have h12 : (tW L).length ≤ 12 := (parseT_ok (L 1)).1
  intro d
  induction d with
  | zero =>
    intro k m S f c hD hW hck hk hm
    obtain ⟨m, rfl⟩ : ∃ m', m = m' + 1 := ⟨m - 1, by omega⟩
    refine ⟨S, ?_, hW, Fr1.rf, rfl⟩
    rw [l_X11_yearsOf_19_s]
    unfold b_X11_yearsOf_19
    rw [if_pos (by rw [iI_le (by omega) (by omega) (by omega) (by omega)]; omega)]
    rfl
  | succ d ih =>
    intro k m S f c hD hW hck hk hm
    obtain ⟨m, rfl⟩ : ∃ m', m = m' + 1 := ⟨m - 1, by omega⟩
    have hn := hW.1
    obtain ⟨s0, -, -, -, -, -⟩ := m_set hD.2.2.1
    obtain ⟨v1, v2, v3, v4, v5, v0⟩ := v6
    have r0 := (hD.2.2.1 0 (by omega)).2
    have e4 : (4 : Int32) = iI ((4 : Nat) : Int) := rfl
    have hlt : hiN (nxS (S.1 122 0 0)) % nW L < nW L := Nat.mod_lt _ h1
    have ew : (st 0 : Int) + ((tW L).length : Int) + (k : Int) = ((st 0 + ((tW L).length + k) : Nat) : Int) := by omega
    have F2 : Fr (fun k _ => k = 122) S (us (us S 122 0 0 (nxS (S.1 122 0 0))) 122 0 0 (nxS (nxS (S.1 122 0 0)))) := (Fr.us (P := fun k _ => k = 122) rfl).tr (Fr.us (P := fun k _ => k = 122) rfl)
    have F2x : Fr1 PX S (us (us S 122 0 0 (nxS (S.1 122 0 0))) 122 0 0 (nxS (nxS (S.1 122 0 0)))) := Fr1.mono F2.1 (fun k i z => by
      have z : k = 122 := z
      unfold PX; omega)
    have hW2 : RM (us (us S 122 0 0 (nxS (S.1 122 0 0))) 122 0 0 (nxS (nxS (S.1 122 0 0)))) (nW L) f := hW.kept (F2.1 _ _ (by omega)) (F2.1 _ _ (by omega)) (F2.1 _ _ (by omega))
    rw [l_X11_yearsOf_19_s]
    unfold b_X11_yearsOf_19
    rw [if_neg (by rw [iI_le (by omega) (by omega) (by omega) (by omega)]; omega), v0, ck_t, nz_2, ck_t, s0, hD.2.1.1, iI_add, iI_add, ew, iI_rem2 (by omega), lt_b, hW.2.1, m_lot h1 (by omega), bn2_s, e4, m_lot (by omega) (by omega), bn2_s, us_same, jn_b]
    have hw : (st 0 + ((tW L).length + k)) % 2 < 2 := by omega
    -- what follows behind the year
    have go : ∀ S3 : sT, RM S3 (nW L) (yS (nW L) ((st 0 + ((tW L).length + k)) % 2) (S.1 122 0 0) f) → Fr PL (us (us S 122 0 0 (nxS (S.1 122 0 0))) 122 0 0 (nxS (nxS (S.1 122 0 0)))) S3 → ∃ S', bn (f_X11_weakNow S3) (fun r25 => jn (fun (y26 : Int32) => lt (iI (c : Int) + y26) (fun x27 => lt (iI (k : Int) + (1 : Int32)) (fun x28 => l_X11_yearsOf_19 (iI y) J m x27 x28 S3))) (fun j29 => (if r25 = (0 : Int32) then j29 (0 : Int32) else j29 (1 : Int32)))) = J (iI (yrs st (nW L) (tW L).length (d + 1) k (S.1 122 0 0) f c).2) S' ∧ RM S' (nW L) (yrs st (nW L) (tW L).length (d + 1) k (S.1 122 0 0) f c).1 ∧ Fr1 PX S S' ∧ S'.1 119 0 0 = S.1 119 0 0 := by
      intro S3 g1 g2
      have F3 : Fr1 PX S S3 := F2x.tr (Fr1.mono g2.1 (fun k i z => by unfold PL at z; unfold PX; omega))
      have hD3 := hD.fr F3
      have k122 : S3.1 122 0 0 = nxS (nxS (S.1 122 0 0)) := by rw [g2.1 122 0 (by unfold PL; omega), us_same]
      have k119 : S3.1 119 0 0 = S.1 119 0 0 := by rw [g2.1 119 0 (by unfold PL; omega), F2.1 119 0 (by omega)]
      rw [m_weakNow g1 hD3.2.2.1, bn_s, jn_b]
      unfold yrs
      by_cases q : stB st (nW L) (yS (nW L) ((st 0 + ((tW L).length + k)) % 2) (S.1 122 0 0) f) = true
      · rw [if_pos ((stB_0 hn).mpr q), if_pos q]; (try dsimp only); rw [lt_b, lt_b, show iI (k : Int) + (1 : Int32) = iI ((k + 1 : Nat) : Int) by rw [i_1, iI_add]; rfl, show iI (c : Int) + (0 : Int32) = iI (c : Int) by rw [i_0, iI_add, Int.add_zero]]
        obtain ⟨S', d1, d2, d3, d4⟩ := ih (k + 1) m S3 _ c hD3 g1 (by omega) (by omega) (by omega)
        rw [k122] at d1 d2
        exact ⟨S', d1, d2, F3.tr d3, d4.trans k119⟩
      · rw [if_neg (fun z => q ((stB_0 hn).mp z)), if_neg q]; (try dsimp only); rw [lt_b, lt_b, show iI (k : Int) + (1 : Int32) = iI ((k + 1 : Nat) : Int) by rw [i_1, iI_add]; rfl, show iI (c : Int) + (1 : Int32) = iI ((c + 1 : Nat) : Int) by rw [i_1, iI_add]; rfl]
        obtain ⟨S', d1, d2, d3, d4⟩ := ih (k + 1) m S3 _ (c + 1) hD3 g1 (by omega) (by omega) (by omega)
        rw [k122] at d1 d2
        exact ⟨S', d1, d2, F3.tr d3, d4.trans k119⟩
    by_cases q : hiN (nxS (nxS (S.1 122 0 0))) % 4 = 0
    · rw [if_pos (by rw [q]; rfl)]
      obtain ⟨S3, a1, a2, a3⟩ := m_takes hW2 hw (z := ((hiN (nxS (S.1 122 0 0)) % nW L : Nat) : Int)) (by omega) (by omega)
      rw [a1, bn2_s]
      refine go S3 ?_ a3
      unfold yS
      rw [if_pos q]
      exact a2
    · rw [if_neg (by rw [i_0, iI_eq (by omega) (by omega) (by omega) (by omega)]; omega)]
      obtain ⟨S3, a1, a2, a3⟩ := m_lays hW2 hw (x := (st 0 + ((tW L).length + k)) % 2) (by omega) (z := ((hiN (nxS (S.1 122 0 0)) % nW L : Nat) : Int)) (by omega) (by omega)
      rw [a1, bn2_s]
      refine go S3 ?_ a3
      unfold yS
      rw [if_neg q]
      rw [if_pos (by omega)] at a2
      exact a2
theorem mD_years {S : sT} {L : Nat → List Nat} {st : Nat → Nat} {sg : List (Nat × Nat × Nat)} {seed : Int32} {y : Nat} {c : Int} (h : RD S L st sg) (h9 : R9 S) (h1 : 0 < nW L) (y2 : y ≤ 40) (c1 : -1 ≤ c) (c2 : c < nW L) : ∃ S', f_X11_yearsOf seed (iI y) (iI c) S = some (yrA L st seed y c, S') ∧ Fr1 PX S S' ∧ R9 S' := by
  have h12 : (tW L).length ≤ 12 := (parseT_ok (L 1)).1
  have hF : 1000 < FU := by unfold FU; omega
  have hn := h.1.1
  have F0 : Fr1 PX S (us S 122 0 0 seed) := Fr1.us (by unfold PX; omega)
  have hD0 := h.fr F0
  have k9 : R9 (us S 122 0 0 seed) := by unfold R9; rw [us_ne (by omega)]; exact h9
  obtain ⟨S1, a1, a2, a3, a4⟩ := hD0.lives k9.ho (Nat.le_refl _)
  have k122 : S1.1 122 0 0 = seed := by rw [a4.1 122 0 (by unfold PM; omega), us_same]
  have k119 : S1.1 119 0 0 = iI (-1) := by rw [a4.1 119 0 (by unfold PM; omega)]; exact k9
  obtain ⟨S', g1, g2, g3, g4⟩ := m_years_l (y := y) h1 y2 (fun (x4 : Int32) (S5 : sT) => (if iI c = (-1 : Int32) then some (x4, S5) else bn (f_X11_highOf (iI c) S5) (fun r7 => some (r7, S5)))) y 0 FU S1 _ 0 a3 a2 (Nat.le_refl 0) (by omega) (by omega)
  rw [k122] at g1 g2
  refine ⟨S', ?_, (F0.tr (Fr1.mono a4.1 PM_px)).tr g3, g4.trans k119⟩
  unfold f_X11_yearsOf
  rw [lt_b, hD0.2.1.1, a1, bn_s, jn_b]
  refine g1.trans ?_
  unfold yrA
  by_cases q : c = -1
  · rw [q, if_pos rfl, if_pos (show iI (-1) = (-1 : Int32) from rfl)]
  · obtain ⟨c, rfl⟩ : ∃ t : Nat, c = t := ⟨c.toNat, by omega⟩
    have cn : ¬ (iI (c : Int) = (-1 : Int32)) := by rw [i_m1, iI_eq (by omega) (by omega) (by omega) (by omega)]; omega
    rw [if_neg cn, if_neg q, m_highOf g2 (by omega), bn_s]
    rfl
theorem T_20 : St_20 Inv := by
  intro S hI v1 v2 v3
  obtain ⟨y, y1, y2, rfl⟩ := iI_ex v2
  obtain ⟨c, c1, c2, rfl⟩ := iI_ex v3
  have z10' : ¬ (iI 1 = (0 : Int32)) := z10
  have z00 : iI 0 = (0 : Int32) := rfl
  have l40 : (40 : Int64) = lI 40 := by decide
  have lm1 : (-1 : Int64) = lI (-1) := by decide
  obtain ⟨L, st, sg, h1, hB, hG, hk⟩ := opened2 hI
  have h12 : (tW L).length ≤ 12 := (parseT_ok (L 1)).1
  have hW := wallN h1 (Nat.le_refl (tW L).length)
  have hn := hW.1
  have eC : f_X9_columnCount (tW L).length S = some (iI (nW L)) := by unfold f_X9_columnCount; rw [hW.2.1]
  have eM : ∀ S2 : sT, f_X11_in (iI y).toInt64 (1 : Int64) (40 : Int64) S2 = some (iI (b2i (decide (1 ≤ y ∧ y ≤ 40)))) := fun S2 => by rw [l_1, l40, m_in2 _ y1 y2 (by omega) (by omega) (by omega) (by omega)]
  have eN : ∀ S2 : sT, f_X11_in (iI c).toInt64 (-1 : Int64) (iI ((nW L : Int) - 1)).toInt64 S2 = some (iI (b2i (decide (-1 ≤ c ∧ c ≤ (nW L : Int) - 1)))) := fun S2 => by rw [lm1, iI_toL (z := (nW L : Int) - 1) (by omega) (by omega), m_in2 _ c1 c2 (by omega) (by omega) (by omega) (by omega)]
  by_cases q1 : 1 ≤ y ∧ y ≤ 40
  · obtain ⟨y, rfl⟩ : ∃ t : Nat, y = t := ⟨y.toNat, by omega⟩
    by_cases q2 : nW L = 0
    · obtain ⟨hI1, S2, r1, hI2, hD, h9, hE⟩ := hk S Fr1.rf
      refine ⟨(-2 : Int32), S, S2, ?_, ?_, hI2⟩
      · unfold f_X10_years
        rw [p_last h1, bn_s, decide_eq_true (show (tW L).length < 16 by omega), ck_t, show f_X10_within (iI (y : Int)) (1 : Int32) (40 : Int32) S = _ from p_within (a := 1) (b := 40) S (by omega) (by omega) (by omega) (by omega) (by omega) (by omega), bn_s, b2i_p (by omega), if_neg z10', eC, bn_s, if_pos (by rw [q2]; rfl)]
      · unfold f_X11_years
        rw [r1, bn_s, eM, bn_s, b2i_p q1, if_neg z10', hD.1.2.1, if_pos (by rw [i_0, iI_le (by omega) (by omega) (by omega) (by omega)]; omega)]
    · by_cases q3 : -1 ≤ c ∧ c ≤ (nW L : Int) - 1
      · obtain ⟨S1, e1, F1⟩ := cD_years (seed := v1) (y := y) (c := c) h1 (by omega) (by omega) (by omega) (by omega) (by omega)
        obtain ⟨hI1, S2, r1, hI2, hD, h9, hE⟩ := hk S1 F1
        obtain ⟨S3, g1, g2, g3⟩ := mD_years (seed := v1) (y := y) (c := c) hD h9 (by omega) (by omega) (by omega) (by omega)
        refine ⟨_, S1, S3, e1, ?_, hE S3 g2 g3⟩
        unfold f_X11_years
        rw [r1, bn_s, eM, bn_s, b2i_p q1, if_neg z10', hD.1.2.1, if_neg (by rw [i_0, iI_le (by omega) (by omega) (by omega) (by omega)]; omega), i_1, iI_sub, eN, bn_s, b2i_p q3, if_neg z10', g1, bn2_s]
      · obtain ⟨hI1, S2, r1, hI2, hD, h9, hE⟩ := hk S Fr1.rf
        refine ⟨(-2 : Int32), S, S2, ?_, ?_, hI2⟩
        · unfold f_X10_years
          rw [p_last h1, bn_s, decide_eq_true (show (tW L).length < 16 by omega), ck_t, show f_X10_within (iI (y : Int)) (1 : Int32) (40 : Int32) S = _ from p_within (a := 1) (b := 40) S (by omega) (by omega) (by omega) (by omega) (by omega) (by omega), bn_s, b2i_p (by omega), if_neg z10', eC, bn_s, if_neg (by rw [i_0, iI_eq (by omega) (by omega) (by omega) (by omega)]; omega), jn_b, if_neg (by rw [i_m1, iI_eq (by omega) (by omega) (by omega) (by omega)]; omega), p_has_out hW c1 c2 (by omega), bn_s, if_pos z00]
        · unfold f_X11_years
          rw [r1, bn_s, eM, bn_s, b2i_p q1, if_neg z10', hD.1.2.1, if_neg (by rw [i_0, iI_le (by omega) (by omega) (by omega) (by omega)]; omega), i_1, iI_sub, eN, bn_s, b2i_n q3, if_pos z00]
  · obtain ⟨hI1, S2, r1, hI2, hD, h9, hE⟩ := hk S Fr1.rf
    refine ⟨(-2 : Int32), S, S2, ?_, ?_, hI2⟩
    · unfold f_X10_years
      rw [p_last h1, bn_s, decide_eq_true (show (tW L).length < 16 by omega), ck_t, show f_X10_within (iI y) (1 : Int32) (40 : Int32) S = _ from p_within (a := 1) (b := 40) S y1 y2 (by omega) (by omega) (by omega) (by omega), bn_s, b2i_n q1, if_pos z00]
    · unfold f_X11_years
      rw [r1, bn_s, eM, bn_s, b2i_n q1, if_pos z00]
