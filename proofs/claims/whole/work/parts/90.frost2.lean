/-! frost: the sum over all that may be lost -/
def nfW (y col : Nat) (f : wF) : wF := if y % 2 = 1 then upf f col (f col).dropLast else f
def sbB : Nat → Nat → Nat → wF → Bool
  | 0, _, _, _ => true
  | k + 1, col, y, f => (decide (y % 2 = 0) || decide (f col ≠ [])) && sbB k (col + 1) (y / 2) (nfW y col f)
def tmW (c : Nat) : Nat → Nat → Nat → wF → Nat
  | 0, _, _, _ => 1
  | k + 1, col, y, f => (if f col = [] then 1 else if y % 2 = 1 then c else 16 - c) * tmW c k (col + 1) (y / 2) (nfW y col f)
def drW : Nat → Nat → Nat → wF → wF
  | 0, _, _, f => f
  | k + 1, col, y, f => drW k (col + 1) (y / 2) (nfW y col f)
def trm (st : Nat → Nat) (n c : Nat) : Nat → Nat → Nat → wF → Nat
  | 0, _, _, f => if stB st n f = true then 1 else 0
  | k + 1, col, y, f => if f col = [] then (if y % 2 = 1 then 0 else trm st n c k (col + 1) (y / 2) f) else (if y % 2 = 1 then c * trm st n c k (col + 1) (y / 2) (upf f col (f col).dropLast) else (16 - c) * trm st n c k (col + 1) (y / 2) f)
theorem trm_s (st : Nat → Nat) (n c k col y : Nat) (f : wF) : trm st n c (k + 1) col y f = if f col = [] then (if y % 2 = 1 then 0 else trm st n c k (col + 1) (y / 2) f) else (if y % 2 = 1 then c * trm st n c k (col + 1) (y / 2) (upf f col (f col).dropLast) else (16 - c) * trm st n c k (col + 1) (y / 2) f) := rfl
theorem trm_eq (st : Nat → Nat) (n c : Nat) : ∀ (k col y : Nat) (f : wF), trm st n c k col y f = if sbB k col y f = true then (if stB st n (drW k col y f) = true then tmW c k col y f else 0) else 0 := by
  intro k
  induction k with
  | zero => intro col y f; unfold trm sbB drW tmW; rw [if_pos rfl]
  | succ k ih =>
    intro col y f
    unfold trm sbB drW tmW
    by_cases q : y % 2 = 1
    · have en : nfW y col f = upf f col (f col).dropLast := by unfold nfW; rw [if_pos q]
      rw [en, decide_eq_false (show ¬ (y % 2 = 0) by omega), Bool.false_or]
      by_cases q2 : f col = []
      · rw [if_pos q2, if_pos q, decide_eq_false (fun z => z q2), Bool.false_and, if_neg (by decide)]
      · rw [if_neg q2, if_pos q, decide_eq_true q2, Bool.true_and, ih, if_neg q2, if_pos q]
        split
        · split
          · rfl
          · rw [Nat.mul_zero]
        · rw [Nat.mul_zero]
    · have en : nfW y col f = f := by unfold nfW; rw [if_neg q]
      rw [en, decide_eq_true (show y % 2 = 0 by omega), Bool.true_or, Bool.true_and]
      by_cases q2 : f col = []
      · rw [if_pos q2, if_neg q, ih, if_pos q2, Nat.one_mul]
      · rw [if_neg q2, if_neg q, ih, if_neg q2, if_neg q]
        split
        · split
          · rfl
          · rw [Nat.mul_zero]
        · rw [Nat.mul_zero]
def smS (g : Nat → Nat) : Nat → Nat → Nat
  | 0, _ => 0
  | d + 1, x => g x + smS g d (x + 1)
theorem smS_s (g : Nat → Nat) (d x : Nat) : smS g (d + 1) x = g x + smS g d (x + 1) := rfl
theorem smS_congr {g h : Nat → Nat} (e : ∀ x, g x = h x) (d x : Nat) : smS g d x = smS h d x := by
  have : g = h := funext e
  rw [this]
theorem smS_pair (g : Nat → Nat) : ∀ (m x : Nat), smS g (2 * m) (2 * x) = smS (fun y => g (2 * y) + g (2 * y + 1)) m x := by
  intro m
  induction m with
  | zero => intro x; rfl
  | succ m ih =>
    intro x
    rw [show 2 * (m + 1) = 2 * m + 1 + 1 by omega]
    have := ih (x + 1)
    rw [show 2 * (x + 1) = 2 * x + 1 + 1 by omega] at this
    rw [smS_s, smS_s, smS_s, this]
    omega
theorem smS_lin (a b : Nat) (g h : Nat → Nat) : ∀ (d x : Nat), smS (fun y => a * g y + b * h y) d x = a * smS g d x + b * smS h d x := by
  intro d
  induction d with
  | zero => intro x; rfl
  | succ d ih =>
    intro x
    rw [smS_s, smS_s, smS_s, ih, Nat.mul_add, Nat.mul_add]
    omega
theorem frW_sum (st : Nat → Nat) (n c : Nat) : ∀ (k col : Nat) (f : wF), smS (fun y => trm st n c k col y f) (2 ^ k) 0 = frW st n c k col f := by
  intro k
  induction k with
  | zero => intro col f; rfl
  | succ k ih =>
    intro col f
    rw [Nat.pow_succ, Nat.mul_comm (2 ^ k) 2]
    have hp := smS_pair (fun y => trm st n c (k + 1) col y f) (2 ^ k) 0
    rw [Nat.mul_zero] at hp
    rw [hp]
    have h0 : ∀ y, (2 * y) % 2 = 0 ∧ (2 * y) / 2 = y ∧ (2 * y + 1) % 2 = 1 ∧ (2 * y + 1) / 2 = y := fun y => by omega
    by_cases q : f col = []
    · have e : ∀ y, trm st n c (k + 1) col (2 * y) f + trm st n c (k + 1) col (2 * y + 1) f = trm st n c k (col + 1) y f := by
        intro y
        obtain ⟨a1, a2, a3, a4⟩ := h0 y
        rw [trm_s st n c k col (2 * y), trm_s st n c k col (2 * y + 1), if_pos q, if_pos q, if_neg (by omega), if_pos a3, a2, Nat.add_zero]
      rw [smS_congr e, ih]
      show _ = (if f col = [] then _ else _)
      rw [if_pos q]
    · have e : ∀ y, trm st n c (k + 1) col (2 * y) f + trm st n c (k + 1) col (2 * y + 1) f = (16 - c) * trm st n c k (col + 1) y f + c * trm st n c k (col + 1) y (upf f col (f col).dropLast) := by
        intro y
        obtain ⟨a1, a2, a3, a4⟩ := h0 y
        rw [trm_s st n c k col (2 * y), trm_s st n c k col (2 * y + 1), if_neg q, if_neg q, if_neg (by omega), if_pos a3, a2, a4]
      rw [smS_congr e, smS_lin, ih, ih]
      show _ = (if f col = [] then _ else _)
      rw [if_neg q]
theorem sb_iff : ∀ (k col y : Nat) (f : wF), sbB k col y f = true ↔ ∀ i, i < k → y.testBit i = true → f (col + i) ≠ [] := by
  intro k
  induction k with
  | zero =>
    intro col y f
    constructor
    · intro h i hi; omega
    · intro h; rfl
  | succ k ih =>
    intro col y f
    unfold sbB
    rw [Bool.and_eq_true, Bool.or_eq_true, decide_eq_true_eq, decide_eq_true_eq, ih]
    have en : ∀ i, nfW y col f (col + 1 + i) = f (col + 1 + i) := by
      intro i
      unfold nfW
      split
      · exact upf_n (by omega)
      · rfl
    constructor
    · rintro ⟨h1, h2⟩ i hi hb
      cases i with
      | zero =>
        rw [Nat.testBit_zero, decide_eq_true_eq] at hb
        rcases h1 with h1 | h1
        · omega
        · exact h1
      | succ i =>
        rw [Nat.testBit_succ] at hb
        have := h2 i (by omega) hb
        rw [en] at this
        rw [show col + (i + 1) = col + 1 + i by omega]
        exact this
    · intro h
      refine ⟨?_, fun i hi hb => ?_⟩
      · by_cases q : y % 2 = 0
        · exact Or.inl q
        · exact Or.inr (h 0 (by omega) (by rw [Nat.testBit_zero, decide_eq_true_eq]; omega))
      · rw [en]
        have := h (i + 1) (by omega) (by rw [Nat.testBit_succ]; exact hb)
        rw [show col + (i + 1) = col + 1 + i by omega] at this
        exact this
theorem bitI {x k : Nat} (hk : k < 32) : (iI (x : Int)).toBitVec.getLsbD k = x.testBit k := by
  show (BitVec.ofInt 32 (x : Int)).getLsbD k = _
  rw [BitVec.ofInt_natCast, BitVec.getLsbD_ofNat, decide_eq_true hk, Bool.true_and]
def mkM (f : wF) (d k : Nat) (a : Int32) : Int32 := (List.range' k d).foldl (fun a k => if f k = [] then a else a ||| ((1 : Int32) <<< (iI k &&& 31))) a
theorem mkM_bit (f : wF) : ∀ (d k : Nat) (a : Int32) (i : Nat), k + d ≤ 8 → i < 32 → (mkM f d k a).toBitVec.getLsbD i = (a.toBitVec.getLsbD i || (decide (k ≤ i ∧ i < k + d) && decide (f i ≠ []))) := by
  intro d
  induction d with
  | zero =>
    intro k a i hk hi
    rw [decide_eq_false (show ¬ (k ≤ i ∧ i < k + 0) by omega)]
    show a.toBitVec.getLsbD i = _
    simp
  | succ d ih =>
    intro k a i hk hi
    have e : mkM f (d + 1) k a = mkM f d (k + 1) (if f k = [] then a else a ||| ((1 : Int32) <<< (iI k &&& 31))) := by
      unfold mkM
      rw [List.range'_succ, List.foldl_cons]
    rw [e, ih (k + 1) _ i (by omega) hi]
    by_cases q : f k = []
    · rw [if_pos q]
      by_cases e : i = k
      · subst e
        rw [decide_eq_false (show ¬ (f i ≠ []) from fun z => z q), Bool.and_false, Bool.and_false]
      · congr 2
        exact decide_eq_decide.mpr (by omega)
    · rw [if_neg q, bit_or (by omega) hi]
      by_cases e : i = k
      · subst e
        rw [decide_eq_true q, decide_eq_true (show i = i from rfl), decide_eq_true (show i ≤ i ∧ i < i + (d + 1) by omega), Bool.or_true, Bool.true_or, Bool.and_true, Bool.or_true]
      · rw [decide_eq_false e, Bool.or_false]
        congr 2
        exact decide_eq_decide.mpr (by omega)
theorem mk_sub {f : wF} {n x : Nat} (hn : n ≤ 8) (hx : x < 2 ^ n) : ((iI (x : Int) &&& (mkM f n 0 0 ^^^ (-1 : Int32))) = (0 : Int32)) ↔ sbB n 0 x f = true := by
  rw [sb_iff, ← Int32.toBitVec_inj, Int32.toBitVec_and, Int32.toBitVec_xor]
  have e1 : (-1 : Int32).toBitVec = BitVec.allOnes 32 := by decide
  have e0 : (0 : Int32).toBitVec = 0#32 := rfl
  have ez : ∀ i, (0 : Int32).toBitVec.getLsbD i = false := fun i => by rw [e0]; simp
  have key : ∀ i, i < 32 → ((iI (x : Int)).toBitVec &&& ((mkM f n 0 0).toBitVec ^^^ (-1 : Int32).toBitVec)).getLsbD i = (x.testBit i && !(decide (i < n) && decide (f i ≠ []))) := by
    intro i hi
    rw [BitVec.getLsbD_and, BitVec.getLsbD_xor, bitI hi, mkM_bit f n 0 0 i (by omega) hi, e1, BitVec.getLsbD_allOnes, decide_eq_true hi, Bool.xor_true, ez, Bool.false_or]
    congr 3
    exact decide_eq_decide.mpr (by omega)
  constructor
  · intro h i hi hb hf
    have := key i (by omega)
    rw [h, hb, decide_eq_true hi, decide_eq_false (fun z => z (by rw [Nat.zero_add] at hf; exact hf)), e0] at this
    simp at this
  · intro h
    rw [e0]
    apply BitVec.eq_of_getLsbD_eq
    intro i hi
    rw [key i hi]
    have ez' : (0#32).getLsbD i = false := by simp
    rw [ez']
    by_cases q : i < n
    · by_cases q2 : x.testBit i = true
      · have := h i q q2
        rw [Nat.zero_add] at this
        rw [decide_eq_true q, decide_eq_true this]
        simp
      · have : x.testBit i = false := by simpa using q2
        rw [this, Bool.false_and]
    · have : x.testBit i = false := Nat.testBit_lt_two_pow (Nat.lt_of_lt_of_le hx (Nat.pow_le_pow_right (by omega) (by omega)))
      rw [this, Bool.false_and]
theorem shl_pow {n : Nat} (h : n ≤ 8) : (1 : Int32) <<< (iI (n : Int) &&& 31) = iI ((2 ^ n : Nat) : Int) := by
  rcases (show n = 0 ∨ n = 1 ∨ n = 2 ∨ n = 3 ∨ n = 4 ∨ n = 5 ∨ n = 6 ∨ n = 7 ∨ n = 8 by omega) with rfl | rfl | rfl | rfl | rfl | rfl | rfl | rfl | rfl <;> decide
theorem p2 {n : Nat} (h : n ≤ 8) : 1 ≤ 2 ^ n ∧ 2 ^ n ≤ 256 := by
  rcases (show n = 0 ∨ n = 1 ∨ n = 2 ∨ n = 3 ∨ n = 4 ∨ n = 5 ∨ n = 6 ∨ n = 7 ∨ n = 8 by omega) with rfl | rfl | rfl | rfl | rfl | rfl | rfl | rfl | rfl <;> decide
