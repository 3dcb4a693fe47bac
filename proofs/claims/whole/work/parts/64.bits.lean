/-! bits -/
theorem bv_and1 (x : BitVec 32) : (x &&& 1#32 = 1#32) ↔ x.getLsbD 0 = true := by
  constructor
  · intro h
    have := congrArg (fun y => y.getLsbD 0) h
    simpa using this
  · intro h
    apply BitVec.eq_of_getLsbD_eq
    intro i hi
    rw [BitVec.getLsbD_and]
    by_cases q : i = 0
    · subst q; rw [h]; rfl
    · have e : (1#32).getLsbD i = false := by
        simp [BitVec.getLsbD_one, q]
      rw [e, Bool.and_false]
theorem bit_b {r : Int32} {c : Nat} (hc : c < 8) : (((r >>> (iI (c : Int) &&& 31)) &&& (1 : Int32)) = (1 : Int32)) ↔ r.toBitVec.getLsbD c = true := by
  rw [← Int32.toBitVec_inj, Int32.toBitVec_and, Int32.toBitVec_shiftRight]
  have e1 : (1 : Int32).toBitVec = 1#32 := rfl
  rw [e1, bv_and1]
  have e : ((iI (c : Int) &&& 31).toBitVec.smod 32) = BitVec.ofNat 32 c := by
    rcases (show c = 0 ∨ c = 1 ∨ c = 2 ∨ c = 3 ∨ c = 4 ∨ c = 5 ∨ c = 6 ∨ c = 7 by omega) with rfl | rfl | rfl | rfl | rfl | rfl | rfl | rfl <;> rfl
  rw [e]
  have e2 : (BitVec.ofNat 32 c).toNat = c := by simp; omega
  rw [BitVec.sshiftRight_eq', e2, BitVec.getLsbD_sshiftRight]
  simp
  intro h1
  omega
theorem bit_or {r : Int32} {c i : Nat} (hc : c < 8) (hi : i < 32) : (r ||| ((1 : Int32) <<< (iI (c : Int) &&& 31))).toBitVec.getLsbD i = (r.toBitVec.getLsbD i || decide (i = c)) := by
  rw [Int32.toBitVec_or, Int32.toBitVec_shiftLeft, BitVec.getLsbD_or]
  have e : ((iI (c : Int) &&& 31).toBitVec.smod 32) = BitVec.ofNat 32 c := by
    rcases (show c = 0 ∨ c = 1 ∨ c = 2 ∨ c = 3 ∨ c = 4 ∨ c = 5 ∨ c = 6 ∨ c = 7 by omega) with rfl | rfl | rfl | rfl | rfl | rfl | rfl | rfl <;> rfl
  rw [e]
  have e2 : (BitVec.ofNat 32 c).toNat = c := by simp; omega
  have e1 : (1 : Int32).toBitVec = 1#32 := rfl
  rw [e1, BitVec.shiftLeft_eq', e2, BitVec.getLsbD_shiftLeft, BitVec.getLsbD_one]
  congr 1
  by_cases q : i = c
  · subst q; simp; omega
  · by_cases q2 : i < c
    · simp [q2, q]
    · have : ¬ (i - c = 0) := by omega
      simp [this, q]
theorem wkB_l {st : Nat → Nat} {n : Nat} {f : Nat → List Nat} (hn : n ≤ 8) : ∀ (d k : Nat) (a : Int32) (i : Nat), k + d = n → i < 32 → ((List.range' k d).foldl (wbF st n f) a).toBitVec.getLsbD i = (a.toBitVec.getLsbD i || (decide (k ≤ i ∧ i < n) && wk st n f i)) := by
  intro d
  induction d with
  | zero =>
    intro k a i hk hi
    have : decide (k ≤ i ∧ i < n) = false := decide_eq_false (by omega)
    rw [this]
    simp
  | succ d ih =>
    intro k a i hk hi
    rw [List.range'_succ, List.foldl_cons, ih (k + 1) _ i (by omega) hi]
    unfold wbF
    by_cases q : wk st n f k = true
    · rw [if_pos q, bit_or (by omega) hi]
      by_cases e : i = k
      · subst e
        simp [q]
        right; omega
      · by_cases e2 : k + 1 ≤ i ∧ i < n
        · rw [decide_eq_true e2, decide_eq_true (show k ≤ i ∧ i < n by omega), decide_eq_false e, Bool.or_false]
        · rw [decide_eq_false e2, decide_eq_false (show ¬ (k ≤ i ∧ i < n) by omega), decide_eq_false e, Bool.or_false]
    · rw [if_neg q]
      by_cases e : i = k
      · subst e
        have : wk st n f i = false := by simpa using q
        rw [this]
        simp
      · by_cases e2 : k + 1 ≤ i ∧ i < n
        · rw [decide_eq_true e2, decide_eq_true (show k ≤ i ∧ i < n by omega)]
        · rw [decide_eq_false e2, decide_eq_false (show ¬ (k ≤ i ∧ i < n) by omega)]
theorem wkB_bit {st : Nat → Nat} {n : Nat} {f : Nat → List Nat} (hn : n ≤ 8) {i : Nat} (hi : i < 32) : (wkB st n f).toBitVec.getLsbD i = (decide (i < n) && wk st n f i) := by
  unfold wkB
  rw [wkB_l hn n 0 0 i (by omega) hi]
  have : (0 : Int32).toBitVec.getLsbD i = false := by
    show (0#32).getLsbD i = false
    simp
  rw [this, Bool.false_or]
  congr 1
  exact decide_eq_decide.mpr (by omega)
theorem wkB_0 {st : Nat → Nat} {n : Nat} {f : Nat → List Nat} (hn : n ≤ 8) : wkB st n f = (0 : Int32) ↔ ∀ c, c < n → wk st n f c = false := by
  constructor
  · intro h c hc
    have := wkB_bit (st := st) (f := f) hn (i := c) (by omega)
    rw [h, decide_eq_true hc, Bool.true_and] at this
    rw [← this]
    show (0#32).getLsbD c = false
    simp
  · intro h
    apply Int32.toBitVec_inj.mp
    apply BitVec.eq_of_getLsbD_eq
    intro i hi
    rw [wkB_bit hn hi]
    have : (0 : Int32).toBitVec.getLsbD i = false := by
      show (0#32).getLsbD i = false
      simp
    rw [this]
    by_cases q : i < n
    · rw [h i q, Bool.and_false]
    · rw [decide_eq_false q, Bool.false_and]
