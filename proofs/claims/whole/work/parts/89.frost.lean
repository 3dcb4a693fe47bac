/-! frost: the spec, the class -/
def frW (st : Nat → Nat) (n c : Nat) : Nat → Nat → wF → Nat
  | 0, _, f => if stB st n f = true then 1 else 0
  | k + 1, col, f => if f col = [] then frW st n c k (col + 1) f else (16 - c) * frW st n c k (col + 1) f + c * frW st n c k (col + 1) (upf f col (f col).dropLast)
theorem frW_le (st : Nat → Nat) (n : Nat) {c : Nat} (hc : c ≤ 16) : ∀ (k col : Nat) (f : wF), frW st n c k col f ≤ 16 ^ k := by
  intro k
  induction k with
  | zero => intro col f; unfold frW; split <;> simp
  | succ k ih =>
    intro col f
    unfold frW
    rw [Nat.pow_succ]
    have hp : 0 < 16 ^ k := Nat.pos_of_ne_zero (by intro z; have := Nat.pow_eq_zero.mp z; omega)
    split
    · have := ih (col + 1) f
      omega
    · have h1 := Nat.mul_le_mul_left (16 - c) (ih (col + 1) f)
      have h2 := Nat.mul_le_mul_left c (ih (col + 1) (upf f col (f col).dropLast))
      have h3 : (16 - c) * 16 ^ k + c * 16 ^ k = 16 ^ k * 16 := by rw [← Nat.add_mul, Nat.mul_comm]; congr 1; omega
      omega
def cnN (f : wF) : Nat → Nat → Nat
  | 0, _ => 0
  | k + 1, col => (if f col = [] then 0 else 1) + cnN f k (col + 1)
theorem cnN_le (f : wF) : ∀ (k col : Nat), cnN f k col ≤ k := by
  intro k
  induction k with
  | zero => intro col; exact Nat.le_refl 0
  | succ k ih =>
    intro col
    have := ih (col + 1)
    unfold cnN
    split <;> omega
theorem p16 {k : Nat} (h : k ≤ 8) : 1 ≤ 16 ^ k ∧ 16 ^ k ≤ 4294967296 := by
  rcases (show k = 0 ∨ k = 1 ∨ k = 2 ∨ k = 3 ∨ k = 4 ∨ k = 5 ∨ k = 6 ∨ k = 7 ∨ k = 8 by omega) with rfl | rfl | rfl | rfl | rfl | rfl | rfl | rfl | rfl <;> decide
def P16 : Nat → Nat → Prop := fun k i => (29 ≤ k ∧ k ≤ 32 ∨ k = 112) ∧ i = 15
theorem FW.p16 {S S' : sT} (h : FW 15 S S') : Fr P16 S S' := h.fr (fun k z => by unfold P16; omega)
theorem RR.p16 {S S' : sT} {st : Nat → Nat} (h : RR S st) (hF : Fr P16 S S') : RR S' st := h.fr hF (by unfold P16; omega)
theorem len_0 {l : List Nat} : iI (l.length : Int) = (0 : Int32) → l.length < 1000 → l = [] := by
  intro h hl
  rw [i_0, iI_eq (by omega) (by omega) (by omega) (by omega)] at h
  exact List.eq_nil_of_length_eq_zero (by omega)
theorem p_standing {st : Nat → Nat} {n c : Nat} (hc : c ≤ 16) : ∀ (k col m : Nat) (S : sT) (f : wF), col + k = n → k < m → RR S st → RW S 15 n f → ∃ S', f_X0_standing m 15 (iI c) (iI col) S = some (lI (frW st n c k col f), S') ∧ RW S' 15 n f ∧ Fr P16 S S' := by
  intro k
  induction k with
  | zero =>
    intro col m S f hcol hm hR hW
    obtain ⟨m, rfl⟩ : ∃ m', m = m' + 1 := ⟨m - 1, by omega⟩
    have hn := hW.1
    refine ⟨S, ?_, hW, Fr.rf⟩
    show s_X0_standing (f_X0_standing m) 15 (iI c) (iI col) S = _
    unfold s_X0_standing f_X9_columnCount frW
    rw [hW.2.1, bn_s, jn_b, if_pos (by rw [iI_le (by omega) (by omega) (by omega) (by omega)]; omega), p_stands hW hR, bn_s]
    have e : (List.range' 0 n).all (fun c => !wk st n f c) = stB st n f := rfl
    rw [e]
    cases stB st n f
    · rw [if_pos (show iI (b2i false) = (0 : Int32) from rfl), if_neg (by decide)]; rfl
    · rw [if_neg (show ¬ (iI (b2i true) = (0 : Int32)) from z10), if_pos rfl]; rfl
  | succ k ih =>
    intro col m S f hcol hm hR hW
    obtain ⟨m, rfl⟩ : ∃ m', m = m' + 1 := ⟨m - 1, by omega⟩
    have hn := hW.1
    obtain ⟨a1, a2, a3, a4, a5, a6⟩ := hW.2.2 col (by omega)
    have a7 := a1.1
    have e1 : iI (col : Int) + (1 : Int32) = iI ((col + 1 : Nat) : Int) := by rw [i_1, iI_add]; rfl
    show ∃ S', s_X0_standing (f_X0_standing m) 15 (iI c) (iI col) S = _ ∧ _
    unfold s_X0_standing f_X9_columnCount
    rw [hW.2.1, bn_s, jn_b, if_neg (by rw [iI_le (by omega) (by omega) (by omega) (by omega)]; omega), if_pos (by rw [i_8, iI_lt (by omega) (by omega) (by omega) (by omega)]; omega), p_sizeOf_in hW (by omega), bn_s, e1]
    rcases list_nc (f col) with hl | ⟨l0, y, hl⟩
    · obtain ⟨S1, g1, g2, g3⟩ := ih (col + 1) m S f (by omega) (by omega) hR hW
      have ef : frW st n c (k + 1) col f = frW st n c k (col + 1) f := by
        show (if f col = [] then _ else _) = _
        rw [if_pos hl]
      rw [hl, if_pos (show iI (([] : List Nat).length : Int) = (0 : Int32) from rfl), g1, bn2_s, ef]
      exact ⟨S1, rfl, g2, g3⟩
    · have hle : (f col).length = l0.length + 1 := by rw [hl]; simp
      have hy : y < 4 ∧ l0.length < 8 := by
        rw [hl] at a1
        exact a1.init.2
      have ef : frW st n c (k + 1) col f = (16 - c) * frW st n c k (col + 1) f + c * frW st n c k (col + 1) (upf f col l0) := by
        show (if f col = [] then _ else _) = _
        rw [if_neg (by rw [hl]; simp)]
        rw [show (f col).dropLast = l0 by rw [hl]; simp]
      rw [if_neg (fun z => by have := len_0 z (by omega); rw [this] at hl; simp at hl), jn_b, ef]
      -- behind the first half
      have second : ∀ (A : Nat) (S1 : sT), A = (16 - c) * frW st n c k (col + 1) f → RR S1 st → RW S1 15 n f → Fr P16 S S1 → ∃ S', (if iI (c : Int) ≤ (0 : Int32) then some (lI (A : Int), S1) else bn2 (f_X9_take 15 (iI col) S1) (fun r12 S13 => bn2 (f_X0_standing m 15 (iI c) (iI ((col + 1 : Nat) : Int)) S13) (fun r15 S16 => lt (lI (A : Int) + (((iI (c : Int)).toInt64) * r15)) (fun x17 => bn2 (f_X9_put 15 (iI col) r12 S16) (fun r19 S20 => some (x17, S20)))))) = some (lI (((16 - c) * frW st n c k (col + 1) f + c * frW st n c k (col + 1) (upf f col l0) : Nat) : Int), S') ∧ RW S' 15 n f ∧ Fr P16 S S' := by
        intro A S1 hA hR1 hW1 F1
        subst hA
        by_cases q : c = 0
        · rw [if_pos (by rw [i_0, iI_le (by omega) (by omega) (by omega) (by omega)]; omega)]
          refine ⟨S1, ?_, hW1, F1⟩
          have e0 : (16 - c) * frW st n c k (col + 1) f + c * frW st n c k (col + 1) (upf f col l0) = (16 - c) * frW st n c k (col + 1) f := by
            rw [q, Nat.zero_mul]; rfl
          rw [e0]
        · rw [if_neg (by rw [i_0, iI_le (by omega) (by omega) (by omega) (by omega)]; omega)]
          obtain ⟨S2, t1, t2, t3⟩ := p_take_app hW1 (c := col) (by omega) hl
          obtain ⟨S3, g1, g2, g3⟩ := ih (col + 1) m S2 (upf f col l0) (by omega) (by omega) (hR1.p16 t3.p16) t2
          obtain ⟨S4, u1, u2, u3⟩ := p_put_in (x := y) g2 (show col < n by omega) hy.1 (by rw [upf_s]; exact hy.2)
          have u2 : RW S4 15 n f := by
            rw [upf_s, upf_upf, ← hl, upf_self] at u2
            exact u2
          rw [t1, bn2_s, g1, bn2_s, lt_b, u1, bn2_s]
          refine ⟨S4, ?_, u2, ((F1.tr t3.p16).tr g3).tr u3.p16⟩
          rw [iI_toL (z := (c : Int)) (by omega) (by omega), lI_mul, lI_add]
          rfl
      by_cases q : c = 16
      · rw [if_pos (by rw [i_16, iI_le (by omega) (by omega) (by omega) (by omega)]; omega), show (0 : Int64) = lI ((0 : Nat) : Int) from l_0]
        exact second 0 S (by rw [q, Nat.sub_self, Nat.zero_mul]) hR hW Fr.rf
      · rw [if_neg (by rw [i_16, iI_le (by omega) (by omega) (by omega) (by omega)]; omega)]
        obtain ⟨S1, g1, g2, g3⟩ := ih (col + 1) m S f (by omega) (by omega) hR hW
        have e16 : ((16 : Int32) - iI (c : Int)).toInt64 * lI (frW st n c k (col + 1) f : Int) = lI (((16 - c) * frW st n c k (col + 1) f : Nat) : Int) := by
          rw [i_16, iI_sub, show (16 : Int) - (c : Int) = ((16 - c : Nat) : Int) by omega, iI_toL (by omega) (by omega), lI_mul]
          rfl
        rw [g1, bn2_s, e16]
        exact second _ S1 rfl (hR.p16 g3) g2 g3
theorem p_freeze_l {n : Nat} {f : wF} (J : sT → Option sT) : ∀ (d k m : Nat) (S : sT) (b : Nat), k + d = n → d < m → RW S 15 n f → S.2 1 = lI b → ∃ S', l_X0_freeze_30 J m (iI k) S = J S' ∧ S'.1 = S.1 ∧ S'.2 0 = S.2 0 ∧ S'.2 1 = lI ((b * 16 ^ cnN f d k : Nat) : Int) := by
  intro d
  induction d with
  | zero =>
    intro k m S b hk hm hW hb
    obtain ⟨m, rfl⟩ : ∃ m', m = m' + 1 := ⟨m - 1, by omega⟩
    have hn := hW.1
    refine ⟨S, ?_, rfl, rfl, ?_⟩
    · rw [l_X0_freeze_30_s]
      unfold b_X0_freeze_30 f_X9_columnCount
      rw [hW.2.1, bn_s, if_pos (by rw [iI_le (by omega) (by omega) (by omega) (by omega)]; omega)]
    · rw [hb]
      unfold cnN
      rw [Nat.pow_zero, Nat.mul_one]
  | succ d ih =>
    intro k m S b hk hm hW hb
    obtain ⟨m, rfl⟩ : ∃ m', m = m' + 1 := ⟨m - 1, by omega⟩
    have hn := hW.1
    have a7 := (hW.2.2 k (by omega)).1.1
    rw [l_X0_freeze_30_s]
    unfold b_X0_freeze_30 f_X9_columnCount
    rw [hW.2.1, bn_s, if_neg (by rw [iI_le (by omega) (by omega) (by omega) (by omega)]; omega), p_sizeOf_in hW (by omega), bn_s, jn_b, lt_b, show iI (k : Int) + (1 : Int32) = iI ((k + 1 : Nat) : Int) by rw [i_1, iI_add]; rfl]
    have ec : cnN f (d + 1) k = (if f k = [] then 0 else 1) + cnN f d (k + 1) := rfl
    rw [ec]
    by_cases q : f k = []
    · rw [if_pos (by rw [q]; decide), if_pos q, Nat.zero_add]
      exact ih (k + 1) m S b (by omega) (by omega) hW hb
    · have hpos : 0 < (f k).length := List.length_pos_iff.mpr q
      rw [if_neg (by rw [i_0, iI_le (by omega) (by omega) (by omega) (by omega)]; omega), if_neg q]; (try dsimp only); rw [lt_b]; (try dsimp only)
      have l16 : (16 : Int64) = lI ((16 : Nat) : Int) := by decide
      obtain ⟨S', g1, g2, g3, g4⟩ := ih (k + 1) m (ul S 1 (S.2 1 * (16 : Int64))) (b * 16) (by omega) (by omega) hW (by rw [ul_same, hb, l16, lI_mul]; rfl)
      refine ⟨S', g1, g2, ?_, ?_⟩
      · rw [g3, ul_ne (by omega)]
      · rw [g4]
        rw [Nat.pow_add, Nat.pow_one, Nat.mul_assoc]
/-- what frost answers -/
def frA (L : Nat → List Nat) (st : Nat → Nat) (c : Nat) (w : Int) : Int64 :=
  if w = 0 then lI ((frW st (nW L) c (nW L) 0 (gW' L st) / Nat.gcd (frW st (nW L) c (nW L) 0 (gW' L st)) (16 ^ cnN (gW' L st) (nW L) 0) : Nat) : Int) else lI ((16 ^ cnN (gW' L st) (nW L) 0 / Nat.gcd (frW st (nW L) c (nW L) 0 (gW' L st)) (16 ^ cnN (gW' L st) (nW L) 0) : Nat) : Int)
theorem cD_frost {S : sT} {L : Nat → List Nat} {st : Nat → Nat} {c : Nat} {w : Int} (h : CI S L st) (hc : c ≤ 16) (w1 : 0 ≤ w) (w2 : w ≤ 1) : ∃ S', f_X10_frost (iI c) (iI w) S = some (frA L st c w, S') ∧ Fr1 PCs S S' := by
  have h12 : (tW L).length ≤ 12 := (parseT_ok (L 1)).1
  have hF : 1000 < FU := by unfold FU; omega
  have z10' : ¬ (iI 1 = (0 : Int32)) := z10
  have hW := wallN h (Nat.le_refl (tW L).length)
  have hn := hW.1
  obtain ⟨S1, e1, e2, e3⟩ := p_become (S := S) (w := 15) hW (by omega)
  obtain ⟨S2, g1, g2, g3⟩ := p_standing (st := st) (c := c) hc (nW L) 0 12 S1 (gW' L st) (by omega) (by omega) (h.2.1.fw e3) e2
  have F2 : Fr1 PCs S S2 := (e3.p1 (by omega)).tr (g3.mono (fun k i z => by unfold P16 at z; unfold PCs; omega)).1
  obtain ⟨S3, d1, d2, d3, d4⟩ := p_freeze_l (f := gW' L st) (n := nW L) (fun (S8 : sT) => bn (f_X0_shorten S8) (fun S10 => some S10)) (nW L) 0 FU (ul (ul S2 0 (lI (frW st (nW L) c (nW L) 0 (gW' L st)))) 1 (1 : Int64)) 1 (by omega) (by omega) g2 (by rw [ul_same]; exact l_1)
  have hA := frW_le st (nW L) hc (nW L) 0 (gW' L st)
  have hA2 := (p16 (k := nW L) hn).2
  have hcn := cnN_le (gW' L st) (nW L) 0
  have hB := p16 (k := cnN (gW' L st) (nW L) 0) (by omega)
  rw [ul_ne (by omega), ul_same] at d3
  rw [Nat.one_mul] at d4
  obtain ⟨S4, c1, c2, c3, c4⟩ := p_shorten_l 32 0 FU _ _ S3 (by omega) (by omega) (by omega) (by omega) d3 d4
  have ep : (16 : Nat) ^ cnN (gW' L st) (nW L) 0 = 2 ^ (4 * cnN (gW' L st) (nW L) 0) := by rw [Nat.pow_mul]
  have hs : shN 32 (frW st (nW L) c (nW L) 0 (gW' L st)) (16 ^ cnN (gW' L st) (nW L) 0) = (frW st (nW L) c (nW L) 0 (gW' L st) / Nat.gcd (frW st (nW L) c (nW L) 0 (gW' L st)) (16 ^ cnN (gW' L st) (nW L) 0), 16 ^ cnN (gW' L st) (nW L) 0 / Nat.gcd (frW st (nW L) c (nW L) 0 (gW' L st)) (16 ^ cnN (gW' L st) (nW L) 0)) := by
    rw [ep]
    exact shN_gcd 32 _ _ (by omega)
  rw [hs] at c3 c4
  have eZ : f_X0_freeze (tW L).length (iI c) S = some S4 := by
    unfold f_X0_freeze
    rw [e1, bn_s, show (0 : Int32) = iI ((0 : Nat) : Int) from rfl, g1, bn2_s, lt_b, lt_b, jn_b]
    refine Eq.trans d1 ?_
    have e0 : f_X0_shorten S3 = some S4 := c1
    rw [e0, bn_s]
  refine ⟨S4, ?_, fun k i hk => ?_⟩
  · unfold f_X10_frost frA
    rw [show f_X10_within (iI (c : Int)) (0 : Int32) (16 : Int32) S = _ from p_within (a := 0) (b := 16) S (by omega) (by omega) (by omega) (by omega) (by omega) (by omega), bn_s, b2i_p (by omega), if_neg z10', show f_X10_within (iI w) (0 : Int32) (1 : Int32) S = _ from p_within (a := 0) (b := 1) S (by omega) (by omega) (by omega) (by omega) (by omega) (by omega), bn_s, b2i_p (by omega), if_neg z10', p_last h, bn_s, decide_eq_true (show (tW L).length < 16 by omega), ck_t, eZ, bn_s]
    unfold f_X0_above f_X0_below
    by_cases q : w = 0
    · rw [if_pos (by rw [q]; rfl), if_pos q, bn_s, c3]
    · rw [if_neg (by rw [i_0, iI_eq (by omega) (by omega) (by omega) (by omega)]; omega), if_neg q, bn_s, c4]
  · rw [c2, d2]
    exact F2 k i hk
