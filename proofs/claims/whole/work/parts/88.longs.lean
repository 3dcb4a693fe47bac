/-! longs; lowest terms -/
theorem lI_mul (a b : Int) : lI a * lI b = lI (a * b) := (Int64.ofInt_mul a b).symm
theorem lI_mod {a b : Nat} (ha : a < 2 ^ 62) (hb : b < 2 ^ 62) : lI (a : Int) / lI (b : Int) = lI ((a / b : Nat) : Int) := by
  unfold lI
  rw [← Int64.ofInt_tdiv (by have : Int64.minValue.toInt = -9223372036854775808 := by decide
                             omega) (by have : Int64.maxValue.toInt = 9223372036854775807 := by decide
                                        omega) (by have : Int64.minValue.toInt = -9223372036854775808 := by decide
                                                   omega) (by have : Int64.maxValue.toInt = 9223372036854775807 := by decide
                                                              omega)]
  rw [Int.ofNat_tdiv]
theorem lI_sub (a b : Int) : lI a - lI b = lI (a - b) := (Int64.ofInt_sub a b).symm
theorem lI_rem {a b : Nat} (ha : a < 2 ^ 62) (hb : b < 2 ^ 62) : lI (a : Int) - lI (a : Int) / lI (b : Int) * lI (b : Int) = lI ((a % b : Nat) : Int) := by
  rw [lI_mod ha hb, lI_mul, lI_sub]
  congr 1
  have h := Nat.div_add_mod a b
  have h2 : ((a / b : Nat) : Int) * (b : Int) = ((b * (a / b) : Nat) : Int) := by rw [Int.natCast_mul, Int.mul_comm]
  rw [h2]
  omega
theorem lI_eq {a b : Int} (h1 : -4611686018427387904 ≤ a) (h2 : a < 4611686018427387904) (h3 : -4611686018427387904 ≤ b) (h4 : b < 4611686018427387904) : (lI a = lI b) = (a = b) := by
  rw [← Int64.toInt_inj, lI_toInt h1 h2, lI_toInt h3 h4]
theorem nzl_lI {b : Nat} (h0 : 0 < b) (hb : b < 2 ^ 61) : nzl (lI (b : Int)) = true := by
  unfold nzl
  rw [decide_eq_false (by rw [l_0, lI_eq (by omega) (by omega) (by omega) (by omega)]; omega)]
  rfl
theorem lg_e0 {a b : Int} (h1 : -4611686018427387904 ≤ a) (h2 : a < 4611686018427387904) (h3 : -4611686018427387904 ≤ b) (h4 : b < 4611686018427387904) : (lg_cmp (lI a) (lI b) = (0 : Int32)) ↔ a = b := by
  rw [lg_lI h1 h2 h3 h4, i_0]
  by_cases q : b < a
  · rw [if_pos q, iI_eq (by omega) (by omega) (by omega) (by omega)]; omega
  · rw [if_neg q]
    by_cases q2 : a = b
    · rw [if_pos q2, iI_eq (by omega) (by omega) (by omega) (by omega)]; omega
    · rw [if_neg q2, iI_eq (by omega) (by omega) (by omega) (by omega)]; omega
theorem lI_shr {a : Nat} (ha : a < 2 ^ 61) : lI (a : Int) >>> (((1 : Int32)).toInt64 &&& 63) = lI ((a / 2 : Nat) : Int) := by
  have e : (((1 : Int32)).toInt64 &&& 63) = (1 : Int64) := by decide
  rw [e]
  apply Int64.toInt_inj.mp
  rw [lI_toInt (by omega) (by omega)]
  show (lI (a : Int) >>> (1 : Int64)).toBitVec.toInt = _
  rw [Int64.toBitVec_shiftRight]
  have e2 : ((1 : Int64).toBitVec.smod 64) = 1#64 := by decide
  rw [e2, BitVec.sshiftRight_eq', BitVec.toInt_sshiftRight]
  have e3 : (lI (a : Int)).toBitVec.toInt = (a : Int) := lI_toInt (by omega) (by omega)
  have e4 : (1#64).toNat = 1 := rfl
  rw [e3, e4, Int.shiftRight_eq_div_pow]
  omega
theorem lI_and1 {a : Nat} (ha : a < 2 ^ 61) : lI (a : Int) &&& (1 : Int64) = lI ((a % 2 : Nat) : Int) := by
  apply Int64.toBitVec_inj.mp
  rw [Int64.toBitVec_and]
  apply BitVec.eq_of_toNat_eq
  rw [BitVec.toNat_and]
  have e1 : ∀ b : Nat, b < 2 ^ 61 → (lI (b : Int)).toBitVec.toNat = b := by
    intro b hb
    show (BitVec.ofInt 64 (b : Int)).toNat = b
    rw [BitVec.ofInt_natCast, BitVec.toNat_ofNat]
    omega
  have e2 : (1 : Int64).toBitVec.toNat = 1 := rfl
  rw [e1 a ha, e1 (a % 2) (by omega), e2, Nat.and_one_is_mod]
theorem gcd_step (x y : Nat) : Nat.gcd x y = Nat.gcd y (x % y) := by
  rw [Nat.gcd_comm x y, Nat.gcd_rec y x, Nat.gcd_comm]
theorem mod_half {y r : Nat} (h0 : 0 < r) (h : r < y) : y % r < (y + 1) / 2 := by
  by_cases q : 2 * r ≤ y
  · have := Nat.mod_lt y h0
    omega
  · have : y % r = y - r := by
      rw [Nat.mod_eq_sub_mod (by omega), Nat.mod_eq_of_lt (by omega)]
    omega
theorem m_part_l (J : Int64 → Option Int64) : ∀ (k x y m : Nat), y < 2 ^ k → 2 * k + 1 < m → x < 2 ^ 60 → y < 2 ^ 60 → l_X11_part_6 J m (lI x) (lI y) = J (lI (Nat.gcd x y)) := by
  have stop : ∀ (x m : Nat), 0 < m → l_X11_part_6 J m (lI x) (lI ((0 : Nat) : Int)) = J (lI x) := by
    intro x m hm
    obtain ⟨m, rfl⟩ : ∃ m', m = m' + 1 := ⟨m - 1, by omega⟩
    rw [l_X11_part_6_s]
    unfold b_X11_part_6
    rw [l_0, show (((0 : Nat) : Int)) = 0 from rfl, if_pos ((lg_e0 (a := 0) (b := 0) (by omega) (by omega) (by omega) (by omega)).mpr rfl)]
  have step : ∀ (x y m : Nat), 0 < y → x < 2 ^ 60 → y < 2 ^ 60 → l_X11_part_6 J (m + 1) (lI x) (lI y) = l_X11_part_6 J m (lI y) (lI ((x % y : Nat) : Int)) := by
    intro x y m h0 hx hy
    rw [l_X11_part_6_s]
    unfold b_X11_part_6
    rw [l_0, if_neg (fun z => by have := (lg_e0 (by omega) (by omega) (by omega) (by omega)).mp z; omega), nzl_lI h0 (by omega), ck_t, lI_rem (by omega) (by omega), lt_b]
  intro k
  induction k with
  | zero =>
    intro x y m hy hm hx hy2
    have : y = 0 := by omega
    subst this
    rw [stop x m (by omega), Nat.gcd_zero_right]
  | succ k ih =>
    intro x y m hy hm hx hy2
    by_cases q : y = 0
    · subst q
      rw [stop x m (by omega), Nat.gcd_zero_right]
    · obtain ⟨m, rfl⟩ : ∃ m', m = m' + 1 + 1 := ⟨m - 2, by omega⟩
      rw [step x y (m + 1) (by omega) hx hy2, gcd_step]
      have hr := Nat.mod_lt x (show 0 < y by omega)
      by_cases q2 : x % y = 0
      · rw [q2, stop y (m + 1) (by omega), Nat.gcd_zero_right]
      · have hh := mod_half (show 0 < x % y by omega) hr
        rw [step y (x % y) m (by omega) hy2 (by omega), gcd_step]
        rw [Nat.pow_succ] at hy
        exact ih (x % y) (y % (x % y)) m (by omega) (by omega) (by omega) (by omega)
theorem m_part {S : sT} {a b : Nat} {w : Int} (ha : a < 2 ^ 60) (hb : b < 2 ^ 60) (h0 : 0 < b) (w1 : 0 ≤ w) (w2 : w ≤ 1) : f_X11_part (lI a) (lI b) (iI w) S = some (if w = 0 then lI ((a / Nat.gcd a b : Nat) : Int) else lI ((b / Nat.gcd a b : Nat) : Int)) := by
  have hF : 1000 < FU := by unfold FU; omega
  have hg : Nat.gcd a b ≤ b := Nat.gcd_le_right a h0
  have hg0 : 0 < Nat.gcd a b := Nat.gcd_pos_of_pos_right a h0
  unfold f_X11_part
  rw [jn_b, m_part_l _ 60 a b FU hb (by omega) ha hb, nzl_lI hg0 (by omega), ck_t, ck_t, lI_mod (by omega) (by omega), lI_mod (by omega) (by omega)]
  by_cases q : w = 0
  · rw [if_pos (by rw [q]; rfl), if_pos q]
  · rw [if_neg (by rw [i_0, iI_eq (by omega) (by omega) (by omega) (by omega)]; omega), if_neg q]
def shN : Nat → Nat → Nat → Nat × Nat
  | 0, a, b => (a, b)
  | d + 1, a, b => if 1 < b ∧ a % 2 = 0 then shN d (a / 2) (b / 2) else (a, b)
theorem shN_gcd : ∀ (d e a : Nat), e ≤ d → shN d a (2 ^ e) = (a / Nat.gcd a (2 ^ e), 2 ^ e / Nat.gcd a (2 ^ e)) := by
  intro d
  induction d with
  | zero =>
    intro e a h
    have : e = 0 := by omega
    subst this
    unfold shN
    rw [Nat.pow_zero, Nat.gcd_one_right, Nat.div_one]
  | succ d ih =>
    intro e a h
    unfold shN
    by_cases q : e = 0
    · subst q
      rw [Nat.pow_zero, if_neg (by omega), Nat.gcd_one_right, Nat.div_one]
    · obtain ⟨e, rfl⟩ : ∃ e', e = e' + 1 := ⟨e - 1, by omega⟩
      have hp : 0 < 2 ^ e := Nat.two_pow_pos e
      by_cases q2 : a % 2 = 0
      · rw [if_pos ⟨by rw [Nat.pow_succ]; omega, q2⟩, Nat.pow_succ, Nat.mul_div_cancel _ (by omega), ih e (a / 2) (by omega)]
        obtain ⟨a', rfl⟩ : ∃ a', a = 2 * a' := ⟨a / 2, by omega⟩
        rw [Nat.mul_div_cancel_left _ (by omega), Nat.mul_comm (2 ^ e) 2, Nat.gcd_mul_left, Nat.mul_div_mul_left _ _ (by omega), Nat.mul_div_mul_left _ _ (by omega)]
      · rw [if_neg (fun z => q2 z.2)]
        have hc : Nat.gcd a (2 ^ (e + 1)) = 1 := by
          apply Nat.Coprime.pow_right
          show Nat.gcd a 2 = 1
          rw [gcd_step, Nat.gcd_comm, gcd_step]
          have : a % 2 = 1 := by omega
          rw [this]
          decide
        rw [hc, Nat.div_one, Nat.div_one]
theorem p_shorten_l : ∀ (d i m a b : Nat) (S : sT), i + d = 32 → d < m → a < 2 ^ 60 → b < 2 ^ 60 → S.2 0 = lI a → S.2 1 = lI b → ∃ S', l_X0_shorten_2 m (iI i) S = some S' ∧ S'.1 = S.1 ∧ S'.2 0 = lI (shN d a b).1 ∧ S'.2 1 = lI (shN d a b).2 := by
  intro d
  induction d with
  | zero =>
    intro i m a b S hi hm ha hb h0 h1
    obtain ⟨m, rfl⟩ : ∃ m', m = m' + 1 := ⟨m - 1, by omega⟩
    refine ⟨S, ?_, rfl, h0, h1⟩
    rw [l_X0_shorten_2_s]
    unfold b_X0_shorten_2
    rw [if_pos (by rw [i_32, iI_le (by omega) (by omega) (by omega) (by omega)]; omega)]
  | succ d ih =>
    intro i m a b S hi hm ha hb h0 h1
    obtain ⟨m, rfl⟩ : ∃ m', m = m' + 1 := ⟨m - 1, by omega⟩
    rw [l_X0_shorten_2_s]
    unfold b_X0_shorten_2 shN
    rw [if_neg (by rw [i_32, iI_le (by omega) (by omega) (by omega) (by omega)]; omega), h0, h1, l_1]
    by_cases q : 1 < b
    · rw [if_neg (fun z => by have := (lg_ge (by omega) (by omega) (by omega) (by omega)).mp z; omega), ← l_1, lI_and1 (by omega), l_0]
      by_cases q2 : a % 2 = 0
      · rw [if_pos ((lg_e0 (by omega) (by omega) (by omega) (by omega)).mpr (by omega)), if_pos ⟨q, q2⟩, lt_b, ul_ne (by omega), h1, lI_shr (by omega), lI_shr (by omega), lt_b, lt_b, show iI (i : Int) + (1 : Int32) = iI ((i + 1 : Nat) : Int) by rw [i_1, iI_add]; rfl]
        obtain ⟨S', g1, g2, g3, g4⟩ := ih (i + 1) m (a / 2) (b / 2) (ul (ul S 0 (lI ((a / 2 : Nat) : Int))) 1 (lI ((b / 2 : Nat) : Int))) (by omega) (by omega) (by omega) (by omega) (by rw [ul_ne (by omega), ul_same]) ul_same
        exact ⟨S', g1, g2, g3, g4⟩
      · rw [if_neg (fun z => by have := (lg_e0 (by omega) (by omega) (by omega) (by omega)).mp z; omega), if_neg (fun z => q2 z.2)]
        exact ⟨S, rfl, rfl, h0, h1⟩
    · rw [if_pos ((lg_ge (by omega) (by omega) (by omega) (by omega)).mpr (by omega)), if_neg (fun z => q z.1)]
      exact ⟨S, rfl, rfl, h0, h1⟩
