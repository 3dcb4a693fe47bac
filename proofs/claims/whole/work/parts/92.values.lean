/-! the digest: what it tells, by the class -/
def hx (h : Int64) (v : Int32) : Int64 := (31 : Int64) * h + v.toInt64
theorem p_mix (h : Int64) (v : Int32) (S : sT) : f_X10_mix h v.toInt64 S = some (hx h v) := rfl
def bsyS (st : Nat → Nat) (n : Nat) (ts : List tT) (f0 : wF) : Nat → Nat → Nat → Nat
  | 0, _, a => a
  | d + 1, k, a => bsyS st n ts f0 d (k + 1) (if b2i (tookQ st n ts f0 k) + (laidQ st n ts f0 k : Int) ≤ 0 then a else a + 1)
def ctV (L : Nat → List Nat) (st : Nat → Nat) (sg : List (Nat × Nat × Nat)) (k : Nat) : Int32 :=
  if k = 0 then iI (nW L) else if k = 1 then iI (tW L).length else if k = 2 then iI (L 0).length else if k = 3 then iI (L 1).length else if k = 4 then iI sg.length else if k = 5 then iI (cntS (nW L) (gW' L st)) else if k = 6 then iI (bsyS st (nW L) (tW L) (fW L) (tW L).length 0 0) else iI (st 2)
theorem p_took {S : sT} {L : Nat → List Nat} {st : Nat → Nat} {k : Nat} (h1 : CI S L st) (hk : k < (tW L).length) : f_X1_tookIn (iI k) S = some (iI (b2i (tookQ st (nW L) (tW L) (fW L) k))) := by
  have z10' : ¬ (iI 1 = (0 : Int32)) := z10
  have h12 : (tW L).length ≤ 12 := (parseT_ok (L 1)).1
  have q : (0 : Int) ≤ (k : Int) ∧ (k : Int) ≤ ((tW L).length : Int) - 1 := by omega
  unfold f_X1_tookIn
  rw [p_hasTurn h1 (by omega) (by omega), bn_s, b2i_p q, if_neg z10', vi_iI (by omega) (by omega) (by omega), ck_t, cl_iI (by omega) (by omega), Int.toNat_natCast, (h1.2.2.2.2.1.2.2 k (by omega)).1]
theorem p_laid {S : sT} {L : Nat → List Nat} {st : Nat → Nat} {k : Nat} (h1 : CI S L st) (hk : k < (tW L).length) : f_X1_laidIn (iI k) S = some (iI (laidQ st (nW L) (tW L) (fW L) k)) := by
  have z10' : ¬ (iI 1 = (0 : Int32)) := z10
  have h12 : (tW L).length ≤ 12 := (parseT_ok (L 1)).1
  have q : (0 : Int) ≤ (k : Int) ∧ (k : Int) ≤ ((tW L).length : Int) - 1 := by omega
  unfold f_X1_laidIn
  rw [p_hasTurn h1 (by omega) (by omega), bn_s, b2i_p q, if_neg z10', vi_iI (by omega) (by omega) (by omega), ck_t, cl_iI (by omega) (by omega), Int.toNat_natCast, (h1.2.2.2.2.1.2.2 k (by omega)).2]
theorem p_busy_l {S : sT} {L : Nat → List Nat} {st : Nat → Nat} (h1 : CI S L st) : ∀ (d k m a : Nat), k + d = (tW L).length → d < m → a ≤ k → l_X1_busyTurns_4 S m (iI a) (iI k) = some (iI (bsyS st (nW L) (tW L) (fW L) d k a)) := by
  have hO := parseT_ok (L 1)
  have h12 : (tW L).length ≤ 12 := hO.1
  intro d
  induction d with
  | zero =>
    intro k m a hk hm ha
    obtain ⟨m, rfl⟩ : ∃ m', m = m' + 1 := ⟨m - 1, by omega⟩
    rw [l_X1_busyTurns_4_s]
    unfold b_X1_busyTurns_4
    rw [h1.2.2.2.2.1.1, if_pos (by rw [iI_le (by omega) (by omega) (by omega) (by omega)]; omega)]
    rfl
  | succ d ih =>
    intro k m a hk hm ha
    obtain ⟨m, rfl⟩ : ∃ m', m = m' + 1 := ⟨m - 1, by omega⟩
    have lb : laidQ st (nW L) (tW L) (fW L) k ≤ 3 := laidQ_b (st := st) (n := nW L) (f0 := fW L) hO (show k < (tW L).length by omega)
    have tb := b2i_b (tookQ st (nW L) (tW L) (fW L) k)
    have hi1 : iI (k : Int) + (1 : Int32) = iI ((k + 1 : Nat) : Int) := by rw [i_1, iI_add]; rfl
    have eb : bsyS st (nW L) (tW L) (fW L) (d + 1) k a = bsyS st (nW L) (tW L) (fW L) d (k + 1) (if b2i (tookQ st (nW L) (tW L) (fW L) k) + (laidQ st (nW L) (tW L) (fW L) k : Int) ≤ 0 then a else a + 1) := rfl
    rw [l_X1_busyTurns_4_s, eb]
    unfold b_X1_busyTurns_4
    rw [h1.2.2.2.2.1.1, if_neg (by rw [iI_le (by omega) (by omega) (by omega) (by omega)]; omega), p_took h1 (by omega), bn_s, p_laid h1 (by omega), bn_s]
    simp only [jn_b, lt_b, hi1]
    by_cases e : b2i (tookQ st (nW L) (tW L) (fW L) k) + (laidQ st (nW L) (tW L) (fW L) k : Int) ≤ 0
    · rw [if_pos (by rw [iI_add, i_0, iI_le (by omega) (by omega) (by omega) (by omega)]; omega), if_pos e]
      exact ih (k + 1) m a (by omega) (by omega) (by omega)
    · rw [if_neg (by rw [iI_add, i_0, iI_le (by omega) (by omega) (by omega) (by omega)]; omega), if_neg e, show iI (a : Int) + (1 : Int32) = iI ((a + 1 : Nat) : Int) by rw [i_1, iI_add]; rfl]
      exact ih (k + 1) m (a + 1) (by omega) (by omega) (by omega)
theorem cV_count {S : sT} {L : Nat → List Nat} {st : Nat → Nat} {sg : List (Nat × Nat × Nat)} {k : Nat} (h1 : CI S L st) (hG : SGc S sg) (hk : k ≤ 7) : f_X10_count (iI k) S = some (ctV L st sg k) := by
  have h12 : (tW L).length ≤ 12 := (parseT_ok (L 1)).1
  have hWl := wallN h1 (Nat.le_refl (tW L).length)
  have ed : decide ((tW L).length < 16) = true := decide_eq_true (by omega)
  have hF : 1000 < FU := by unfold FU; omega
  unfold f_X10_count ctV
  rcases (show k = 0 ∨ k = 1 ∨ k = 2 ∨ k = 3 ∨ k = 4 ∨ k = 5 ∨ k = 6 ∨ k = 7 by omega) with rfl | rfl | rfl | rfl | rfl | rfl | rfl | rfl
  · rw [if_pos (by decide), if_pos rfl, p_last h1, bn_s, ed, ck_t]
    unfold f_X9_columnCount
    rw [bn_s, hWl.2.1]
  · rw [if_neg (by decide), if_pos (by decide), if_neg (by omega), if_pos rfl]
    unfold f_X1_turnCount
    rw [bn_s, h1.2.2.2.2.1.1]
  · rw [if_neg (by decide), if_neg (by decide), if_pos (by decide), if_neg (by omega), if_neg (by omega), if_pos rfl, p_size (h1.1 0 (by omega)), bn_s]
  · rw [if_neg (by decide), if_neg (by decide), if_neg (by decide), if_pos (by decide), if_neg (by omega), if_neg (by omega), if_neg (by omega), if_pos rfl, p_size (h1.1 1 (by omega)), bn_s]
  · rw [if_neg (by decide), if_neg (by decide), if_neg (by decide), if_neg (by decide), if_pos (by decide), if_neg (by omega), if_neg (by omega), if_neg (by omega), if_neg (by omega), if_pos rfl]
    unfold f_X6_size
    rw [bn_s, hG.1]
  · rw [if_neg (by decide), if_neg (by decide), if_neg (by decide), if_neg (by decide), if_neg (by decide), if_pos (by decide), if_neg (by omega), if_neg (by omega), if_neg (by omega), if_neg (by omega), if_neg (by omega), if_pos rfl, p_last h1, bn_s, ed, ck_t, p_stoneCount hWl, bn_s]
  · rw [if_neg (by decide), if_neg (by decide), if_neg (by decide), if_neg (by decide), if_neg (by decide), if_neg (by decide), if_pos (by decide), if_neg (by omega), if_neg (by omega), if_neg (by omega), if_neg (by omega), if_neg (by omega), if_neg (by omega), if_pos rfl]
    have e : f_X1_busyTurns S = some (iI (bsyS st (nW L) (tW L) (fW L) (tW L).length 0 0)) := p_busy_l h1 (tW L).length 0 FU 0 (by omega) (by omega) (by omega)
    rw [e, bn_s]
  · rw [if_neg (by decide), if_neg (by decide), if_neg (by decide), if_neg (by decide), if_neg (by decide), if_neg (by decide), if_neg (by decide), if_pos (by decide), if_neg (by omega), if_neg (by omega), if_neg (by omega), if_neg (by omega), if_neg (by omega), if_neg (by omega), if_neg (by omega)]
    have e := p_value h1.2.1 (k := 2) (by omega)
    rw [show (2 : Int32) = iI ((2 : Nat) : Int) from rfl, e, bn_s]
abbrev wN (L : Nat → List Nat) (st : Nat → Nat) (N : Nat) : wF := wAt st (nW L) (tW L) (fW L) N
def st0 (l : List Nat) : Int := if 0 < l.length then (nth l 0 : Int) else -1
/-- four numbers of a column -/
def hcol (L : Nat → List Nat) (st : Nat → Nat) (N c : Nat) (h : Int64) : Int64 := hx (hx (hx (hx h (iI (ht (wN L st N c)))) (iI (ln (wN L st N c)))) (iI (wN L st N c).length)) (iI (st0 (wN L st N c)))
theorem cV_col {S : sT} {L : Nat → List Nat} {st : Nat → Nat} {N c : Nat} {h : Int64} (h1 : CI S L st) (hN : N ≤ (tW L).length) (hc : c < nW L) : f_X10_mixColumn h (iI N) (iI c) S = some (hcol L st N c h) := by
  have z10' : ¬ (iI 1 = (0 : Int32)) := z10
  have h12 : (tW L).length ≤ 12 := (parseT_ok (L 1)).1
  have hW := wallN h1 hN
  have hn := hW.1
  have e1 : f_X10_height (iI N) (iI c) S = some (iI (ht (wN L st N c))) := by
    unfold f_X10_height
    rw [p_wallBehind h1 hN, bn_s, nl_S, decide_eq_true (show N < 16 by omega), ck_t, p_has_in hW hc, bn_s, if_neg z10', p_heightOf_in hW hc, bn_s]
  have e2 : f_X10_lean (iI N) (iI c) S = some (iI (ln (wN L st N c))) := by
    unfold f_X10_lean
    rw [p_wallBehind h1 hN, bn_s, nl_S, decide_eq_true (show N < 16 by omega), ck_t, p_has_in hW hc, bn_s, if_neg z10', p_leanOf_in hW hc, bn_s]
  have e3 : f_X10_stone (iI N) (iI c) (-1 : Int32) S = some (iI (wN L st N c).length) := by
    unfold f_X10_stone
    rw [p_wallBehind h1 hN, bn_s, nl_S, decide_eq_true (show N < 16 by omega), ck_t, p_has_in hW hc, bn_s, if_neg z10', i_m1, i_7, p_within S (by omega) (by omega) (by omega) (by omega) (by omega) (by omega), bn_s, b2i_p (by omega), if_neg z10', if_pos rfl, p_sizeOf_in hW hc, bn_s]
  have e4 : f_X10_stone (iI N) (iI c) (0 : Int32) S = some (iI (st0 (wN L st N c))) := by
    have es := p_stoneAt hW hc (j := 0) (by omega)
    unfold f_X10_stone
    rw [p_wallBehind h1 hN, bn_s, nl_S, decide_eq_true (show N < 16 by omega), ck_t, p_has_in hW hc, bn_s, if_neg z10', show (0 : Int32) = iI ((0 : Nat) : Int) from rfl, i_m1, i_7, p_within S (by omega) (by omega) (by omega) (by omega) (by omega) (by omega), bn_s, b2i_p (by omega), if_neg (show ¬ (iI 1 = iI ((0 : Nat) : Int)) from z10), if_neg (by rw [iI_eq (by omega) (by omega) (by omega) (by omega)]; omega), es, bn_s]
    rfl
  unfold f_X10_mixColumn
  rw [e1, bn_s, p_mix, bn_s, e2, bn_s, p_mix, bn_s, e3, bn_s, p_mix, bn_s, e4, bn_s, p_mix, bn_s]
  rfl
def bhV (L : Nat → List Nat) (st : Nat → Nat) (N w : Nat) : Int32 := if w = 0 then wkB st (nW L) (wN L st N) else if w = 1 then iI (pears st (nW L) (wN L st N)) else iI (weS (w - 2) (nW L) (wN L st N))
theorem cV_behind {S : sT} {L : Nat → List Nat} {st : Nat → Nat} {N w : Nat} (h1 : CI S L st) (hN : N ≤ (tW L).length) (hw : w ≤ 3) : f_X10_behind (iI N) (iI w) S = some (bhV L st N w) := by
  have h12 : (tW L).length ≤ 12 := (parseT_ok (L 1)).1
  have hW := wallN h1 hN
  unfold f_X10_behind bhV
  rw [p_wallBehind h1 hN, bn_s, nl_S, decide_eq_true (show N < 16 by omega), ck_t]
  rcases (show w = 0 ∨ w = 1 ∨ w = 2 ∨ w = 3 by omega) with rfl | rfl | rfl | rfl
  · rw [if_pos (by decide), p_weakBits hW h1.2.1, bn_s, if_pos rfl]
  · rw [if_neg (by decide), if_pos (by decide), p_sunny hW h1.2.1, bn_s, if_neg (by omega), if_pos rfl]
  · rw [if_neg (by decide), if_neg (by decide), if_pos (by decide), show (0 : Int32) = iI ((0 : Nat) : Int) from rfl, p_weightOfW hW (by omega), bn_s, if_neg (by omega), if_neg (by omega)]
  · rw [if_neg (by decide), if_neg (by decide), if_neg (by decide), if_pos (by decide), show (1 : Int32) = iI ((1 : Nat) : Int) from rfl, p_weightOfW hW (by omega), bn_s, if_neg (by omega), if_neg (by omega)]
def tuV (L : Nat → List Nat) (st : Nat → Nat) (t w : Nat) : Int32 := if w = 0 then iI ((st 0 + t) % 2 : Nat) else if w = 1 then iI (b2i (tookQ st (nW L) (tW L) (fW L) t)) else iI (laidQ st (nW L) (tW L) (fW L) t)
theorem cV_turn {S : sT} {L : Nat → List Nat} {st : Nat → Nat} {t w : Nat} (h1 : CI S L st) (ht : t < (tW L).length) (hw : w ≤ 2) : f_X10_turn (iI t) (iI w) S = some (tuV L st t w) := by
  have z10' : ¬ (iI 1 = (0 : Int32)) := z10
  have h12 : (tW L).length ≤ 12 := (parseT_ok (L 1)).1
  unfold f_X10_turn tuV
  rw [p_hasTurn h1 (by omega) (by omega), bn_s, b2i_p (by omega), if_neg z10']
  rcases (show w = 0 ∨ w = 1 ∨ w = 2 by omega) with rfl | rfl | rfl
  · rw [if_pos (by decide), p_brotherOf h1.2.1 (by omega), bn_s, if_pos rfl]
  · rw [if_neg (by decide), if_pos (by decide), p_took h1 ht, bn_s, if_neg (by omega), if_pos rfl]
  · rw [if_neg (by decide), if_neg (by decide), if_pos (by decide), p_laid h1 ht, bn_s, if_neg (by omega), if_neg (by omega)]
/-- the first wall that does not stand -/
def lwS (st : Nat → Nat) (n : Nat) (f : wF) : Option Nat := fs (fun c => if wk st n f c = true then some c else none) n 0
theorem fs_wk {P : Nat → Bool} : ∀ (d k : Nat), (fs (fun c => if P c = true then some c else none) d k = none ∧ ∀ c, k ≤ c → c < k + d → P c = false) ∨ ∃ c, k ≤ c ∧ c < k + d ∧ P c = true ∧ (∀ c', k ≤ c' → c' < c → P c' = false) ∧ fs (fun c => if P c = true then some c else none) d k = some c := by
  intro d
  induction d with
  | zero => intro k; exact Or.inl ⟨rfl, fun c h1 h2 => by omega⟩
  | succ d ih =>
    intro k
    cases hk : P k with
    | true => exact Or.inr ⟨k, Nat.le_refl k, by omega, hk, fun c' h1 h2 => by omega, fs_y (by rw [if_pos hk])⟩
    | false =>
      have e : fs (fun c => if P c = true then some c else none) (d + 1) k = fs (fun c => if P c = true then some c else none) d (k + 1) := fs_n (by rw [hk]; rfl)
      rw [e]
      have low : ∀ c, k ≤ c → ¬ (k + 1 ≤ c) → P c = false := fun c h1 h2 => by rw [show c = k by omega]; exact hk
      rcases ih (k + 1) with ⟨h1, h2⟩ | ⟨c, h1, h2, h3, h4, h5⟩
      · refine Or.inl ⟨h1, fun c a b => ?_⟩
        by_cases q : k + 1 ≤ c
        · exact h2 c q (by omega)
        · exact low c a q
      · refine Or.inr ⟨c, by omega, by omega, h3, fun c' a b => ?_, h5⟩
        by_cases q : k + 1 ≤ c'
        · exact h4 c' q b
        · exact low c' a q
def frS (L : Nat → List Nat) (st : Nat → Nat) : Nat → Nat → Option (Nat × Nat)
  | 0, _ => none
  | d + 1, k => (match lwS st (nW L) (wN L st k) with | some c => some (k, c) | none => frS L st d (k + 1))
def fiV (o : Option (Nat × Nat)) (w : Nat) : Int32 := (match o with | none => iI (-1) | some q => if w = 0 then iI q.1 else iI q.2)
theorem p_first_l {S : sT} {L : Nat → List Nat} {st : Nat → Nat} {w : Nat} (h1 : CI S L st) (hw : w ≤ 1) : ∀ (d k m : Nat), k + d = (tW L).length + 1 → d < m → l_X10_first_14 S (fun (x3 : Int32) (x4 : Int32) => (if iI (w : Int) = (0 : Int32) then some x3 else bn (f_X10_leastBit x4 S) (fun r6 => some r6))) m (iI k) = some (fiV (frS L st d k) w) := by
  have h12 : (tW L).length ≤ 12 := (parseT_ok (L 1)).1
  intro d
  induction d with
  | zero =>
    intro k m hk hm
    obtain ⟨m, rfl⟩ : ∃ m', m = m' + 1 := ⟨m - 1, by omega⟩
    rw [l_X10_first_14_s]
    unfold b_X10_first_14 f_X1_turnCount
    rw [h1.2.2.2.2.1.1, bn_s, if_pos (by rw [iI_lt (by omega) (by omega) (by omega) (by omega)]; omega)]
    rfl
  | succ d ih =>
    intro k m hk hm
    obtain ⟨m, rfl⟩ : ∃ m', m = m' + 1 := ⟨m - 1, by omega⟩
    have hW := wallN h1 (N := k) (by omega)
    have hn := hW.1
    have ef : frS L st (d + 1) k = (match lwS st (nW L) (wN L st k) with | some c => some (k, c) | none => frS L st d (k + 1)) := rfl
    rw [l_X10_first_14_s, ef]
    unfold b_X10_first_14 f_X1_turnCount
    rw [h1.2.2.2.2.1.1, bn_s, if_neg (by rw [iI_lt (by omega) (by omega) (by omega) (by omega)]; omega), p_wallBehind h1 (by omega), bn_s, nl_S, decide_eq_true (show k < 16 by omega), ck_t, p_weakBits hW h1.2.1, bn_s]
    unfold lwS
    rcases fs_wk (P := wk st (nW L) (wN L st k)) (nW L) 0 with ⟨a1, a2⟩ | ⟨c, a1, a2, a3, a4, a5⟩
    · have e0 : wkB st (nW L) (wN L st k) = (0 : Int32) := (wkB_0 hn).mpr (fun c hc => a2 c (by omega) (by omega))
      rw [a1, e0]
      simp only [jn_b, lt_b, ↓reduceIte]
      rw [show iI (k : Int) + (1 : Int32) = iI ((k + 1 : Nat) : Int) by rw [i_1, iI_add]; rfl]
      exact ih (k + 1) m (by omega) (by omega)
    · have e0 : ¬ (wkB st (nW L) (wN L st k) = (0 : Int32)) := fun z => by
        have := (wkB_0 hn).mp z c (by omega)
        rw [a3] at this; cases this
      rw [a5]
      simp only [jn_b, if_neg e0]
      have eb : f_X10_leastBit (wkB st (nW L) (wN L st k)) S = some (iI c) := by
        refine p_leastBit (by omega) ?_ (fun j hj => ?_) S
        · rw [wkB_bit hn (by omega), decide_eq_true (show c < nW L by omega), a3]; rfl
        · rw [wkB_bit hn (by omega), a4 j (by omega) hj, Bool.and_false]
      rw [eb, bn_s]
      show _ = some (if w = 0 then iI (k : Int) else iI (c : Int))
      by_cases q : w = 0
      · rw [if_pos (by rw [q]; rfl), if_pos q]
      · rw [if_neg (by rw [i_0, iI_eq (by omega) (by omega) (by omega) (by omega)]; omega), if_neg q]
abbrev fiS (L : Nat → List Nat) (st : Nat → Nat) (w : Nat) : Int32 := fiV (frS L st ((tW L).length + 1) 0) w
theorem cV_first {S : sT} {L : Nat → List Nat} {st : Nat → Nat} {w : Nat} (h1 : CI S L st) (hw : w ≤ 1) : f_X10_first (iI w) S = some (fiS L st w) := by
  have h12 : (tW L).length ≤ 12 := (parseT_ok (L 1)).1
  have hF : 1000 < FU := by unfold FU; omega
  have e := p_first_l h1 hw ((tW L).length + 1) 0 FU (by omega) (by omega)
  unfold f_X10_first
  rw [show f_X10_within (iI (w : Int)) (0 : Int32) (1 : Int32) S = _ from p_within (a := 0) (b := 1) S (by omega) (by omega) (by omega) (by omega) (by omega) (by omega), bn_s, b2i_p (by omega), if_neg (show ¬ (iI 1 = (0 : Int32)) from z10)]
  rw [show iI ((0 : Nat) : Int) = (0 : Int32) from rfl] at e
  exact e
theorem cV_highest {S : sT} {L : Nat → List Nat} {st : Nat → Nat} (h1 : CI S L st) : f_X10_highest S = some (iI (hiC (nW L) (gW' L st))) := by
  have h12 : (tW L).length ≤ 12 := (parseT_ok (L 1)).1
  unfold f_X10_highest
  rw [p_last h1, bn_s, decide_eq_true (by omega), ck_t, p_highest (wallN h1 (Nat.le_refl _)), bn_s]
