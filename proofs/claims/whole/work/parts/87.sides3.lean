/-! two who answer each other: the reference's loops -/
theorem m_better {who x : Nat} {v : Int} {p : Int × Int} (S : sT) (hw : who < 2) (v1 : -9 ≤ v) (v2 : v ≤ 8) (p1 : -9 ≤ p.1) (p2 : p.1 ≤ 8) : (f_X11_better (iI who) (iI v) (iI p.1) S = some (0 : Int32) ∧ bzU who v x p = p) ∨ (f_X11_better (iI who) (iI v) (iI p.1) S = some (1 : Int32) ∧ bzU who v x p = (v, (x : Int))) := by
  unfold f_X11_better bzU bet
  by_cases q : v = -9
  · rw [if_pos (by rw [q]; rfl), if_pos q]
    exact Or.inl ⟨rfl, rfl⟩
  · rw [if_neg (by rw [i_m9, iI_eq (by omega) (by omega) (by omega) (by omega)]; omega), if_neg q, jn_b]
    by_cases q2 : p.1 = -9
    · rw [if_pos (by rw [q2]; rfl), if_pos (Or.inl q2)]
      exact Or.inr ⟨rfl, rfl⟩
    · rw [if_neg (by rw [i_m9, iI_eq (by omega) (by omega) (by omega) (by omega)]; omega)]
      by_cases q3 : who = 0
      · rw [if_pos (by rw [q3]; rfl), if_pos q3]
        by_cases q4 : p.1 < v
        · rw [if_neg (by rw [iI_le (by omega) (by omega) (by omega) (by omega)]; omega), if_pos (Or.inr (decide_eq_true q4))]
          exact Or.inr ⟨rfl, rfl⟩
        · rw [if_pos (by rw [iI_le (by omega) (by omega) (by omega) (by omega)]; omega), if_neg (fun z => z.elim q2 (fun z => q4 (of_decide_eq_true z)))]
          exact Or.inl ⟨rfl, rfl⟩
      · rw [if_neg (by rw [i_0, iI_eq (by omega) (by omega) (by omega) (by omega)]; omega), if_neg q3]
        by_cases q4 : v < p.1
        · rw [if_neg (by rw [iI_le (by omega) (by omega) (by omega) (by omega)]; omega), if_pos (Or.inr (decide_eq_true q4))]
          exact Or.inr ⟨rfl, rfl⟩
        · rw [if_pos (by rw [iI_le (by omega) (by omega) (by omega) (by omega)]; omega), if_neg (fun z => z.elim q2 (fun z => q4 (of_decide_eq_true z)))]
          exact Or.inl ⟨rfl, rfl⟩
theorem edV_b {st : Nat → Nat} {n who : Nat} {ds : List Nat} {f : wF} (hn : n ≤ 8) : -9 ≤ edV st n who ds f ∧ edV st n who ds f ≤ 8 := by
  unfold edV
  cases goV n who ds f with
  | none => simp
  | some f' => have := tV_b (st := st) (f := f') hn; simp only; omega
def e3 (n : Nat) (e : List Nat → Int) (a b c : Nat) : Int := if n < 2 ∧ b < 8 then -9 else if n < 3 ∧ c < 8 then -9 else e (if n = 1 then [a] else if n = 2 then [a, b] else [a, b, c])
abbrev edW (L : Nat → List Nat) (st : Nat → Nat) : List Nat → Int := fun ds => edV st (nW L) ((st 0 + (tW L).length) % 2) ds (gW' L st)
theorem e3_b {L : Nat → List Nat} {st : Nat → Nat} {n : Nat} (hn : nW L ≤ 8) (a b c : Nat) : -9 ≤ e3 n (edW L st) a b c ∧ e3 n (edW L st) a b c ≤ 8 := by
  unfold e3
  split
  · simp
  · split
    · simp
    · exact edV_b hn
theorem R9.pm {S S' : sT} (h : R9 S) (F : Fr PM S S') : R9 S' := by unfold R9; rw [F.1 119 0 (by unfold PM; omega)]; exact h
theorem RD.pm {S S' : sT} {L : Nat → List Nat} {st : Nat → Nat} {sg : List (Nat × Nat × Nat)} (h : RD S L st sg) (F : Fr PM S S') : RD S' L st sg := h.fr (Fr1.mono F.1 PM_px)
theorem m_sides_52 {L : Nat → List Nat} {st : Nat → Nat} {sg : List (Nat × Nat × Nat)} {n a b w : Nat} (n1 : 1 ≤ n) (n3 : n ≤ 3) (ha : a < 9) (hb : b < 9) (hw : w = (st 0 + (tW L).length) % 2) (J : Int32 → sT → Option (Int32 × sT)) : ∀ (d x m : Nat) (S : sT) (p : Int × Int), x + d = 9 → d < m → RD S L st sg → R9 S → -9 ≤ p.1 → p.1 ≤ 8 → ∃ S', l_X11_sidesOf_52 (iI n) (iI w) (iI a) (iI b) J m (iI p.1) (iI x) S = J (iI (bz w (e3 n (edW L st) a b) d x p).1) S' ∧ Fr PM S S' := by
  have hw2 : w < 2 := by omega
  intro d
  induction d with
  | zero =>
    intro x m S p hx hm hD h9 p1 p2
    obtain ⟨m, rfl⟩ : ∃ m', m = m' + 1 := ⟨m - 1, by omega⟩
    refine ⟨S, ?_, Fr.rf⟩
    rw [l_X11_sidesOf_52_s]
    unfold b_X11_sidesOf_52
    rw [if_pos (by rw [i_9, iI_le (by omega) (by omega) (by omega) (by omega)]; omega)]
    rfl
  | succ d ih =>
    intro x m S p hx hm hD h9 p1 p2
    obtain ⟨m, rfl⟩ : ∃ m', m = m' + 1 := ⟨m - 1, by omega⟩
    have hn8 := hD.1.1
    have ebz : bz w (e3 n (edW L st) a b) (d + 1) x p = bz w (e3 n (edW L st) a b) d (x + 1) (bzU w (e3 n (edW L st) a b x) x p) := rfl
    have go : ∀ (v : Int) (S1 : sT), v = e3 n (edW L st) a b x → Fr PM S S1 → ∃ S', bn (f_X11_better (iI w) (iI v) (iI p.1) S1) (fun r45 => jn (fun (y46 : Int32) => lt (iI (x : Int) + (1 : Int32)) (fun x47 => l_X11_sidesOf_52 (iI n) (iI w) (iI a) (iI b) J m y46 x47 S1)) (fun j48 => (if r45 = (0 : Int32) then j48 (iI p.1) else j48 (iI v)))) = J (iI (bz w (e3 n (edW L st) a b) (d + 1) x p).1) S' ∧ Fr PM S S' := by
      intro v S1 hv F1
      have vb := e3_b (st := st) (n := n) hn8 a b x
      rw [← hv] at vb
      rw [ebz, ← hv]
      rcases m_better (x := x) (v := v) (p := p) S1 hw2 vb.1 vb.2 p1 p2 with ⟨g1, g2⟩ | ⟨g1, g2⟩
      · rw [g1, bn_s, jn_b, if_pos rfl]; (try dsimp only); rw [lt_b, g2, show iI (x : Int) + (1 : Int32) = iI ((x + 1 : Nat) : Int) by rw [i_1, iI_add]; rfl]
        obtain ⟨S', d1, d2⟩ := ih (x + 1) m S1 p (by omega) (by omega) (hD.pm F1) (h9.pm F1) p1 p2
        exact ⟨S', d1, F1.tr d2⟩
      · rw [g1, bn_s, jn_b, if_neg z10]; (try dsimp only); rw [lt_b, g2, show iI (x : Int) + (1 : Int32) = iI ((x + 1 : Nat) : Int) by rw [i_1, iI_add]; rfl]
        obtain ⟨S', d1, d2⟩ := ih (x + 1) m S1 (v, (x : Int)) (by omega) (by omega) (hD.pm F1) (h9.pm F1) vb.1 vb.2
        exact ⟨S', d1, F1.tr d2⟩
    rw [l_X11_sidesOf_52_s]
    unfold b_X11_sidesOf_52
    rw [if_neg (by rw [i_9, iI_le (by omega) (by omega) (by omega) (by omega)]; omega)]
    simp only [jn_b] at go ⊢
    have cb : (iI (b : Int) < (8 : Int32)) = (b < 8) := by rw [i_8, iI_lt (by omega) (by omega) (by omega) (by omega)]; exact propext (by omega)
    have cx : ((8 : Int32) ≤ iI (x : Int)) = (8 ≤ x) := by rw [i_8, iI_le (by omega) (by omega) (by omega) (by omega)]; exact propext (by omega)
    have mm9 : (-9 : Int32) = iI (-9) := rfl
    rcases (show n = 1 ∨ n = 2 ∨ n = 3 by omega) with rfl | rfl | rfl
    · have g0 : iI ((1 : Nat) : Int) = (1 : Int32) := rfl
      have g2 : ¬ ((2 : Int32) ≤ iI ((1 : Nat) : Int)) := by decide
      have g3 : ¬ ((3 : Int32) ≤ iI ((1 : Nat) : Int)) := by decide
      simp only [if_pos g0, if_neg g2, if_neg g3, cb, cx]
      by_cases q1 : b < 8
      · simp only [if_pos q1, mm9]
        exact go (-9) S (by unfold e3; rw [if_pos ⟨by omega, q1⟩]) Fr.rf
      · simp only [if_neg q1]
        by_cases q2 : 8 ≤ x
        · simp only [if_pos q2]
          obtain ⟨S1, k1, k2⟩ := m_endOf (ds := [a]) hD h9 (by simp; omega) (by simp) (by simp)
          have ec : cod [a] = a := by simp [cod]
          rw [ec] at k1
          have k1 : f_X11_endOf (iI (a : Int)) (iI ((1 : Nat) : Int)) S = some (iI (edW L st [a]), S1) := k1
          rw [k1, bn2_s]
          exact go _ S1 (by unfold e3; rw [if_neg (by omega), if_neg (by omega), if_pos rfl]) k2
        · simp only [if_neg q2, mm9]
          exact go (-9) S (by unfold e3; rw [if_neg (by omega), if_pos (by omega)]) Fr.rf
    · have g0 : ¬ (iI ((2 : Nat) : Int) = (1 : Int32)) := by decide
      have g1 : iI ((2 : Nat) : Int) = (2 : Int32) := rfl
      have g2 : ((2 : Int32) ≤ iI ((2 : Nat) : Int)) := by decide
      have g3 : ¬ ((3 : Int32) ≤ iI ((2 : Nat) : Int)) := by decide
      simp only [if_neg g0, if_pos g1, if_pos g2, if_neg g3, cx]
      by_cases q2 : 8 ≤ x
      · simp only [if_pos q2]
        obtain ⟨S1, k1, k2⟩ := m_endOf (ds := [a, b]) hD h9 (by simp; omega) (by simp) (by simp)
        have ec : ((9 : Int32) * iI (a : Int)) + iI (b : Int) = iI (cod [a, b] : Int) := by
          have : cod [a, b] = 9 * a + b := by simp [cod]; omega
          rw [this, i_9, iI_mul, iI_add]; rfl
        rw [ec]
        have k1 : f_X11_endOf (iI (cod [a, b] : Int)) (iI ((2 : Nat) : Int)) S = some (iI (edW L st [a, b]), S1) := k1
        rw [k1, bn2_s]
        exact go _ S1 (by unfold e3; rw [if_neg (by omega), if_neg (by omega), if_neg (by omega), if_pos rfl]) k2
      · simp only [if_neg q2, mm9]
        exact go (-9) S (by unfold e3; rw [if_neg (by omega), if_pos (by omega)]) Fr.rf
    · have g0 : ¬ (iI ((3 : Nat) : Int) = (1 : Int32)) := by decide
      have g1 : ¬ (iI ((3 : Nat) : Int) = (2 : Int32)) := by decide
      have g2 : ((2 : Int32) ≤ iI ((3 : Nat) : Int)) := by decide
      have g3 : ((3 : Int32) ≤ iI ((3 : Nat) : Int)) := by decide
      simp only [if_neg g0, if_neg g1, if_pos g2, if_pos g3]
      obtain ⟨S1, k1, k2⟩ := m_endOf (ds := [a, b, x]) hD h9 (by simp; omega) (by simp) (by simp)
      have ec : (((81 : Int32) * iI (a : Int)) + ((9 : Int32) * iI (b : Int))) + iI (x : Int) = iI (cod [a, b, x] : Int) := by
        have : cod [a, b, x] = 81 * a + 9 * b + x := by simp [cod]; omega
        rw [this, i_9, i_81, iI_mul, iI_mul, iI_add, iI_add]; rfl
      rw [ec]
      have k1 : f_X11_endOf (iI (cod [a, b, x] : Int)) (iI ((3 : Nat) : Int)) S = some (iI (edW L st [a, b, x]), S1) := k1
      rw [k1, bn2_s]
      exact go _ S1 (by unfold e3; rw [if_neg (by omega), if_neg (by omega), if_neg (by omega), if_neg (by omega)]) k2
abbrev h25 (L : Nat → List Nat) (st : Nat → Nat) (n a b : Nat) : Int := (bz ((st 0 + (tW L).length) % 2) (e3 n (edW L st) a b) 9 0 (-9, -1)).1
abbrev h11 (L : Nat → List Nat) (st : Nat → Nat) (n a : Nat) : Int := (bz (1 - (st 0 + (tW L).length) % 2) (h25 L st n a) 9 0 (-9, -1)).1
theorem m_sides_38 {L : Nat → List Nat} {st : Nat → Nat} {sg : List (Nat × Nat × Nat)} {n a w : Nat} (n1 : 1 ≤ n) (n3 : n ≤ 3) (ha : a < 9) (hw : w = (st 0 + (tW L).length) % 2) (J : Int32 → sT → Option (Int32 × sT)) : ∀ (d x m : Nat) (S : sT) (p : Int × Int), x + d = 9 → d < m → RD S L st sg → R9 S → -9 ≤ p.1 → p.1 ≤ 8 → ∃ S', l_X11_sidesOf_38 (iI n) (iI w) (iI a) J m (iI p.1) (iI x) S = J (iI (bz (1 - w) (h25 L st n a) d x p).1) S' ∧ Fr PM S S' := by
  have hw2 : 1 - w < 2 := by omega
  have hF : 1000 < FU := by unfold FU; omega
  intro d
  induction d with
  | zero =>
    intro x m S p hx hm hD h9 p1 p2
    obtain ⟨m, rfl⟩ : ∃ m', m = m' + 1 := ⟨m - 1, by omega⟩
    refine ⟨S, ?_, Fr.rf⟩
    rw [l_X11_sidesOf_38_s]
    unfold b_X11_sidesOf_38
    rw [if_pos (by rw [i_9, iI_le (by omega) (by omega) (by omega) (by omega)]; omega)]
    rfl
  | succ d ih =>
    intro x m S p hx hm hD h9 p1 p2
    obtain ⟨m, rfl⟩ : ∃ m', m = m' + 1 := ⟨m - 1, by omega⟩
    have hn8 := hD.1.1
    have ebz : bz (1 - w) (h25 L st n a) (d + 1) x p = bz (1 - w) (h25 L st n a) d (x + 1) (bzU (1 - w) (h25 L st n a x) x p) := rfl
    rw [l_X11_sidesOf_38_s]
    unfold b_X11_sidesOf_38
    rw [if_neg (by rw [i_9, iI_le (by omega) (by omega) (by omega) (by omega)]; omega), jn_b]
    obtain ⟨S1, e1, F1⟩ := m_sides_52 (b := x) n1 n3 ha (by omega) hw (fun (x28 : Int32) (S29 : sT) => bn (f_X11_better ((1 : Int32) - iI w) x28 (iI p.1) S29) (fun r31 => jn (fun (y32 : Int32) => lt (iI (x : Int) + (1 : Int32)) (fun x33 => l_X11_sidesOf_38 (iI n) (iI w) (iI a) J m y32 x33 S29)) (fun j34 => (if r31 = (0 : Int32) then j34 (iI p.1) else j34 x28)))) 9 0 FU S (-9, -1) (by omega) (by omega) hD h9 (by simp) (by simp)
    have e1 : l_X11_sidesOf_52 (iI n) (iI w) (iI a) (iI x) (fun (x28 : Int32) (S29 : sT) => bn (f_X11_better ((1 : Int32) - iI w) x28 (iI p.1) S29) (fun r31 => jn (fun (y32 : Int32) => lt (iI (x : Int) + (1 : Int32)) (fun x33 => l_X11_sidesOf_38 (iI n) (iI w) (iI a) J m y32 x33 S29)) (fun j34 => (if r31 = (0 : Int32) then j34 (iI p.1) else j34 x28)))) FU (-9 : Int32) (0 : Int32) S = _ := e1
    rw [e1]
    have vb := bz_b (who := w) (h := e3 n (edW L st) a x) (fun c => e3_b hn8 a x c) 9 0 (-9, -1) (by simp) (by simp)
    have ew : (1 : Int32) - iI (w : Int) = iI ((1 - w : Nat) : Int) := by rw [i_1, iI_sub]; congr 1; omega
    have eh : (bz w (e3 n (edW L st) a x) 9 0 (-9, -1)).1 = h25 L st n a x := by rw [hw]
    rw [ew, eh, ebz]
    rw [eh] at vb
    rcases m_better (x := x) (v := h25 L st n a x) (p := p) S1 hw2 vb.1 vb.2 p1 p2 with ⟨g1, g2⟩ | ⟨g1, g2⟩
    · rw [g1, bn_s, jn_b, if_pos rfl]; (try dsimp only); rw [lt_b, g2, show iI (x : Int) + (1 : Int32) = iI ((x + 1 : Nat) : Int) by rw [i_1, iI_add]; rfl]
      obtain ⟨S', d1, d2⟩ := ih (x + 1) m S1 p (by omega) (by omega) (hD.pm F1) (h9.pm F1) p1 p2
      exact ⟨S', d1, F1.tr d2⟩
    · rw [g1, bn_s, jn_b, if_neg z10]; (try dsimp only); rw [lt_b, g2, show iI (x : Int) + (1 : Int32) = iI ((x + 1 : Nat) : Int) by rw [i_1, iI_add]; rfl]
      obtain ⟨S', d1, d2⟩ := ih (x + 1) m S1 (h25 L st n a x, (x : Int)) (by omega) (by omega) (hD.pm F1) (h9.pm F1) vb.1 vb.2
      exact ⟨S', d1, F1.tr d2⟩
theorem m_sides_24 {L : Nat → List Nat} {st : Nat → Nat} {sg : List (Nat × Nat × Nat)} {n w : Nat} (n1 : 1 ≤ n) (n3 : n ≤ 3) (hw : w = (st 0 + (tW L).length) % 2) (J : Int32 → Int32 → sT → Option (Int32 × sT)) : ∀ (d x m : Nat) (S : sT) (p : Int × Int), x + d = 9 → d < m → RD S L st sg → R9 S → -9 ≤ p.1 → p.1 ≤ 8 → ∃ S', l_X11_sidesOf_24 (iI n) (iI w) J m (iI p.1) (iI p.2) (iI x) S = J (iI (bz w (h11 L st n) d x p).1) (iI (bz w (h11 L st n) d x p).2) S' ∧ Fr PM S S' := by
  have hw2 : w < 2 := by omega
  have hF : 1000 < FU := by unfold FU; omega
  intro d
  induction d with
  | zero =>
    intro x m S p hx hm hD h9 p1 p2
    obtain ⟨m, rfl⟩ : ∃ m', m = m' + 1 := ⟨m - 1, by omega⟩
    refine ⟨S, ?_, Fr.rf⟩
    rw [l_X11_sidesOf_24_s]
    unfold b_X11_sidesOf_24
    rw [if_pos (by rw [i_9, iI_le (by omega) (by omega) (by omega) (by omega)]; omega)]
    rfl
  | succ d ih =>
    intro x m S p hx hm hD h9 p1 p2
    obtain ⟨m, rfl⟩ : ∃ m', m = m' + 1 := ⟨m - 1, by omega⟩
    have hn8 := hD.1.1
    have ebz : bz w (h11 L st n) (d + 1) x p = bz w (h11 L st n) d (x + 1) (bzU w (h11 L st n x) x p) := rfl
    rw [l_X11_sidesOf_24_s]
    unfold b_X11_sidesOf_24
    rw [if_neg (by rw [i_9, iI_le (by omega) (by omega) (by omega) (by omega)]; omega), jn_b]
    obtain ⟨S1, e1, F1⟩ := m_sides_38 (a := x) n1 n3 (by omega) hw (fun (x14 : Int32) (S15 : sT) => bn (f_X11_better (iI w) x14 (iI p.1) S15) (fun r17 => jn (fun (x18 : Int32) (x19 : Int32) => lt (iI (x : Int) + (1 : Int32)) (fun x20 => l_X11_sidesOf_24 (iI n) (iI w) J m x18 x19 x20 S15)) (fun j21 => (if r17 = (0 : Int32) then j21 (iI p.1) (iI p.2) else j21 x14 (iI (x : Int)))))) 9 0 FU S (-9, -1) (by omega) (by omega) hD h9 (by simp) (by simp)
    have e1 : l_X11_sidesOf_38 (iI n) (iI w) (iI x) (fun (x14 : Int32) (S15 : sT) => bn (f_X11_better (iI w) x14 (iI p.1) S15) (fun r17 => jn (fun (x18 : Int32) (x19 : Int32) => lt (iI (x : Int) + (1 : Int32)) (fun x20 => l_X11_sidesOf_24 (iI n) (iI w) J m x18 x19 x20 S15)) (fun j21 => (if r17 = (0 : Int32) then j21 (iI p.1) (iI p.2) else j21 x14 (iI (x : Int)))))) FU (-9 : Int32) (0 : Int32) S = _ := e1
    rw [e1]
    have vb0 : ∀ b, -9 ≤ h25 L st n x b ∧ h25 L st n x b ≤ 8 := fun b => bz_b (fun c => e3_b hn8 x b c) 9 0 (-9, -1) (by simp) (by simp)
    have vb := bz_b (who := 1 - w) (h := h25 L st n x) vb0 9 0 (-9, -1) (by simp) (by simp)
    have eh : (bz (1 - w) (h25 L st n x) 9 0 (-9, -1)).1 = h11 L st n x := by rw [hw]
    rw [eh, ebz]
    rw [eh] at vb
    rcases m_better (x := x) (v := h11 L st n x) (p := p) S1 hw2 vb.1 vb.2 p1 p2 with ⟨g1, g2⟩ | ⟨g1, g2⟩
    · rw [g1, bn_s, jn_b, if_pos rfl]; (try dsimp only); rw [lt_b, g2, show iI (x : Int) + (1 : Int32) = iI ((x + 1 : Nat) : Int) by rw [i_1, iI_add]; rfl]
      obtain ⟨S', d1, d2⟩ := ih (x + 1) m S1 p (by omega) (by omega) (hD.pm F1) (h9.pm F1) p1 p2
      exact ⟨S', d1, F1.tr d2⟩
    · rw [g1, bn_s, jn_b, if_neg z10]; (try dsimp only); rw [lt_b, g2, show iI (x : Int) + (1 : Int32) = iI ((x + 1 : Nat) : Int) by rw [i_1, iI_add]; rfl]
      obtain ⟨S', d1, d2⟩ := ih (x + 1) m S1 (h11 L st n x, (x : Int)) (by omega) (by omega) (hD.pm F1) (h9.pm F1) vb.1 vb.2
      exact ⟨S', d1, F1.tr d2⟩
theorem h11_lv (L : Nat → List Nat) (st : Nat → Nat) {n : Nat} (n1 : 1 ≤ n) (n3 : n ≤ 3) (a : Nat) : h11 L st n a = lvS (n - 1) (1 - (st 0 + (tW L).length) % 2) (fun ds => edW L st (a :: ds)) := by
  have hww : 1 - (1 - (st 0 + (tW L).length) % 2) = (st 0 + (tW L).length) % 2 := by omega
  unfold h11
  rcases (show n = 1 ∨ n = 2 ∨ n = 3 by omega) with rfl | rfl | rfl
  · have e : (h25 L st 1 a) = fun b => if b < 8 then -9 else edW L st [a] := by
      funext b
      unfold h25
      by_cases q : b < 8
      · have e2 : e3 1 (edW L st) a b = fun _ => -9 := by
          funext c
          unfold e3
          rw [if_pos ⟨by omega, q⟩]
        rw [e2, bz_none, if_pos q]
      · have e2 : e3 1 (edW L st) a b = fun c => if c < 8 then -9 else edW L st [a] := by
          funext c
          unfold e3
          rw [if_neg (by omega)]
          by_cases q2 : c < 8
          · rw [if_pos ⟨by omega, q2⟩, if_pos q2]
          · rw [if_neg (by omega), if_neg q2, if_pos rfl]
        rw [e2, bz_last, if_neg q]
    rw [e, bz_last]
    rfl
  · have e : (h25 L st 2 a) = fun b => edW L st [a, b] := by
      funext b
      unfold h25
      have e2 : e3 2 (edW L st) a b = fun c => if c < 8 then -9 else edW L st [a, b] := by
        funext c
        unfold e3
        rw [if_neg (by omega)]
        by_cases q2 : c < 8
        · rw [if_pos ⟨by omega, q2⟩, if_pos q2]
        · rw [if_neg (by omega), if_neg q2, if_neg (by omega), if_pos rfl]
      rw [e2, bz_last]
    rw [e]
    rfl
  · have e : (h25 L st 3 a) = fun b => (bz ((st 0 + (tW L).length) % 2) (fun c => edW L st [a, b, c]) 9 0 (-9, -1)).1 := by
      funext b
      unfold h25
      have e2 : e3 3 (edW L st) a b = fun c => edW L st [a, b, c] := by
        funext c
        unfold e3
        rw [if_neg (by omega), if_neg (by omega), if_neg (by omega), if_neg (by omega)]
      rw [e2]
    rw [e]
    show _ = (bz (1 - (st 0 + (tW L).length) % 2) (fun b => (bz (1 - (1 - (st 0 + (tW L).length) % 2)) (fun c => edW L st [a, b, c]) 9 0 (-9, -1)).1) 9 0 (-9, -1)).1
    rw [hww]
theorem mD_sides {S : sT} {L : Nat → List Nat} {st : Nat → Nat} {sg : List (Nat × Nat × Nat)} {k : Nat} {w : Int} (hD : RD S L st sg) (h9 : R9 S) (k1 : 1 ≤ k) (k2 : k ≤ 3) (w1 : 0 ≤ w) (w2 : w ≤ 1) : ∃ S', f_X11_sidesOf (iI k) (iI w) S = some (sdA st (nW L) k ((st 0 + (tW L).length) % 2) (gW' L st) w, S') ∧ Fr PM S S' := by
  have h12 : (tW L).length ≤ 12 := (parseT_ok (L 1)).1
  have hF : 1000 < FU := by unfold FU; omega
  have hn8 := hD.1.1
  obtain ⟨s0, -, -, -, -, -⟩ := m_set hD.2.2.1
  obtain ⟨v1, v2, v3, v4, v5, v0⟩ := v6
  have r0 := (hD.2.2.1 0 (by omega)).2
  have ew : (st 0 : Int) + ((tW L).length : Int) = ((st 0 + (tW L).length : Nat) : Int) := by omega
  obtain ⟨S', g1, g2⟩ := m_sides_24 (n := k) k1 k2 rfl (fun (x4 : Int32) (x5 : Int32) (S6 : sT) => (if iI w = (0 : Int32) then some (x4, S6) else some (x5, S6))) 9 0 FU S (-9, -1) (by omega) (by omega) hD h9 (by simp) (by simp)
  refine ⟨S', ?_, g2⟩
  unfold f_X11_sidesOf
  rw [v0, ck_t, nz_2, ck_t, s0, hD.2.1.1, iI_add, ew, iI_rem2 (by omega), lt_b, jn_b]
  refine Eq.trans g1 ?_
  have eh : h11 L st k = fun m => lvS (k - 1) (1 - (st 0 + (tW L).length) % 2) (fun ds => edV st (nW L) ((st 0 + (tW L).length) % 2) (m :: ds) (gW' L st)) := by
    funext m
    exact h11_lv L st k1 k2 m
  obtain ⟨l1, l2⟩ := lv_ed (st := st) hn8 k ((st 0 + (tW L).length) % 2) (gW' L st)
  have l3 := l2 (k - 1) (by omega)
  rw [eh, l3]
  unfold sdA byS
  have ev : (bs ((st 0 + (tW L).length) % 2) (fun m => (mvS (nW L) ((st 0 + (tW L).length) % 2) (gW' L st) m).map (vS st (nW L) (k - 1) (1 - (st 0 + (tW L).length) % 2))) 9 0 (0, -1)).1 = vS st (nW L) k ((st 0 + (tW L).length) % 2) (gW' L st) := by
    obtain ⟨k', rfl⟩ : ∃ k', k = k' + 1 := ⟨k - 1, by omega⟩
    rfl
  rw [ev]
  by_cases q : w = 0
  · rw [if_pos (by rw [q]; rfl), if_pos q]
  · rw [if_neg (by rw [i_0, iI_eq (by omega) (by omega) (by omega) (by omega)]; omega), if_neg q]
theorem T_14 : St_14 Inv := by
  intro S hI v1 v2
  obtain ⟨p, p1, p2, rfl⟩ := iI_ex v1
  obtain ⟨i, i1, i2, rfl⟩ := iI_ex v2
  have z10' : ¬ (iI 1 = (0 : Int32)) := z10
  have z00 : iI 0 = (0 : Int32) := rfl
  obtain ⟨L, st, sg, h1, hB, hG, hk⟩ := opened2 hI
  have eP : ∀ S2 : sT, f_X11_in (iI p).toInt64 (1 : Int64) (3 : Int64) S2 = some (iI (b2i (decide (1 ≤ p ∧ p ≤ 3)))) := fun S2 => by rw [l_1, l_3, m_in2 _ p1 p2 (by omega) (by omega) (by omega) (by omega)]
  by_cases q0 : 1 ≤ p ∧ p ≤ 3
  · obtain ⟨p, rfl⟩ : ∃ t : Nat, p = t := ⟨p.toNat, by omega⟩
    by_cases q : 0 ≤ i ∧ i ≤ 1
    · obtain ⟨S1, e1, F1⟩ := cD_sides (k := p) (w := i) h1 (by omega) (by omega) q.1 q.2
      obtain ⟨hI1, S2, r1, hI2, hD, h9, hE⟩ := hk S1 F1
      obtain ⟨S3, g1, g2⟩ := mD_sides (k := p) (w := i) hD h9 (by omega) (by omega) q.1 q.2
      refine ⟨_, S1, S3, e1, ?_, hE S3 (Fr1.mono g2.1 PM_px) (h9.pm g2)⟩
      unfold f_X11_sides
      rw [r1, bn_s, eP, bn_s, b2i_p q0, if_neg z10', m_isTwo _ i1 i2, bn_s, b2i_p q, if_neg z10', g1, bn2_s]
    · obtain ⟨hI1, S2, r1, hI2, hD, h9, hE⟩ := hk S Fr1.rf
      refine ⟨(-2 : Int32), S, S2, ?_, ?_, hI2⟩
      · unfold f_X10_sides
        rw [show f_X10_within (iI (p : Int)) (1 : Int32) (3 : Int32) S = _ from p_within (a := 1) (b := 3) S p1 p2 (by omega) (by omega) (by omega) (by omega), bn_s, b2i_p q0, if_neg z10', show f_X10_within (iI i) (0 : Int32) (1 : Int32) S = _ from p_within (a := 0) (b := 1) S i1 i2 (by omega) (by omega) (by omega) (by omega), bn_s, b2i_n q, if_pos z00]
      · unfold f_X11_sides
        rw [r1, bn_s, eP, bn_s, b2i_p q0, if_neg z10', m_isTwo _ i1 i2, bn_s, b2i_n q, if_pos z00]
  · obtain ⟨hI1, S2, r1, hI2, hD, h9, hE⟩ := hk S Fr1.rf
    refine ⟨(-2 : Int32), S, S2, ?_, ?_, hI2⟩
    · unfold f_X10_sides
      rw [show f_X10_within (iI p) (1 : Int32) (3 : Int32) S = _ from p_within (a := 1) (b := 3) S p1 p2 (by omega) (by omega) (by omega) (by omega), bn_s, b2i_n q0, if_pos z00]
    · unfold f_X11_sides
      rw [r1, bn_s, eP, bn_s, b2i_n q0, if_pos z00]
