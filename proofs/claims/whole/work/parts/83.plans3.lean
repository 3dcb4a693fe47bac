/-! the reference counts its rows on -/
def RQ (S : sT) (r : List Nat) : Prop := ∀ i, i < r.length → S.1 45 0 i = iI (nth r i)
def P45 : Nat → Nat → Prop := fun k i => k = 45 ∧ i = 0
theorem go4 {M1 i v m : Nat} {S : sT} {J : Int32 → Option (Int32 × sT)} (hi : i < 3) (h : S.1 45 0 i = iI v) (hv : v ≤ 15) (hM : M1 ≤ 15) : l_X11_goesOn_4 (iI M1) S J (m + 1) (iI i) = if v < M1 then J (iI i) else l_X11_goesOn_4 (iI M1) S J m (iI ((i : Int) - 1)) := by
  rw [l_X11_goesOn_4_s]
  unfold b_X11_goesOn_4
  rw [if_neg (by rw [i_0, iI_lt (by omega) (by omega) (by omega) (by omega)]; omega), vi_iI (by omega) (by omega) (by omega), ck_t, cl_iI (by omega) (by omega), Int.toNat_natCast, h]
  by_cases q : v < M1
  · rw [if_neg (by rw [iI_le (by omega) (by omega) (by omega) (by omega)]; omega), if_pos q]
  · rw [if_pos (by rw [iI_le (by omega) (by omega) (by omega) (by omega)]; omega), if_neg q, lt_b, i_m1, iI_add, show (i : Int) + -1 = (i : Int) - 1 by omega]
theorem go4e {M1 m : Nat} {S : sT} {J : Int32 → Option (Int32 × sT)} : l_X11_goesOn_4 (iI M1) S J (m + 1) (iI (-1)) = some ((0 : Int32), S) := by
  rw [l_X11_goesOn_4_s]
  unfold b_X11_goesOn_4
  rw [if_pos (by rw [i_0, iI_lt (by omega) (by omega) (by omega) (by omega)]; omega)]
theorem go33 {N i : Nat} (hN : N ≤ 3) (hi : i < N) : ∀ (d k m : Nat) (S : sT), k + d = N → i < k → d < m → ∃ S', l_X11_goesOn_33 (iI N) (iI i) m (iI k) S = some ((1 : Int32), S') ∧ Fr P45 S S' ∧ ∀ j, S'.1 45 0 j = if k ≤ j ∧ j < N then S.1 45 0 i else S.1 45 0 j := by
  intro d
  induction d with
  | zero =>
    intro k m S hk hik hm
    obtain ⟨m, rfl⟩ : ∃ m', m = m' + 1 := ⟨m - 1, by omega⟩
    refine ⟨S, ?_, Fr.rf, fun j => by rw [if_neg (by omega)]⟩
    rw [l_X11_goesOn_33_s]
    unfold b_X11_goesOn_33
    rw [if_pos (by rw [iI_le (by omega) (by omega) (by omega) (by omega)]; omega)]
  | succ d ih =>
    intro k m S hk hik hm
    obtain ⟨m, rfl⟩ : ∃ m', m = m' + 1 := ⟨m - 1, by omega⟩
    obtain ⟨S', a1, a2, a3⟩ := ih (k + 1) m (us S 45 0 k (S.1 45 0 i)) (by omega) (by omega) (by omega)
    refine ⟨S', ?_, (Fr.us ⟨rfl, rfl⟩).tr a2, fun j => ?_⟩
    · rw [l_X11_goesOn_33_s]
      unfold b_X11_goesOn_33
      rw [if_neg (by rw [iI_le (by omega) (by omega) (by omega) (by omega)]; omega), vi_iI (by omega) (by omega) (by omega), ck_t, vi_iI (by omega) (by omega) (by omega), ck_t, cl_iI (by omega) (by omega), cl_iI (by omega) (by omega), Int.toNat_natCast, Int.toNat_natCast, lt_b, lt_b, show iI (k : Int) + (1 : Int32) = iI ((k + 1 : Nat) : Int) by rw [i_1, iI_add]; rfl]
      exact a1
    · rw [a3 j, us_nb (show i ≠ k by omega)]
      by_cases q : j = k
      · subst q
        rw [if_neg (by omega), if_pos (by omega), us_same]
      · by_cases q2 : k + 1 ≤ j ∧ j < N
        · rw [if_pos q2, if_pos (by omega)]
        · rw [if_neg q2, if_neg (by omega), us_nb q]
theorem goJ {N i v M : Nat} {S : sT} (hN : N ≤ 3) (hi : i < N) (h : S.1 45 0 i = iI v) (hM : 10 < M) : ∃ S', (ck (vi (iI (i : Int)) 3) (ck (vi (iI (i : Int)) 3) (lt (us S 45 0 (cl (iI (i : Int))) ((S.1 45 0 (cl (iI (i : Int)))) + (1 : Int32))) (fun S5 => lt (iI (i : Int) + (1 : Int32)) (fun x6 => l_X11_goesOn_33 (iI N) (iI i) M x6 S5))))) = some ((1 : Int32), S') ∧ Fr P45 S S' ∧ ∀ j, S'.1 45 0 j = if i ≤ j ∧ j < N then iI ((v + 1 : Nat) : Int) else S.1 45 0 j := by
  rw [vi_iI (by omega) (by omega) (by omega), ck_t, ck_t, cl_iI (by omega) (by omega), Int.toNat_natCast, h, lt_b, lt_b, show iI (i : Int) + (1 : Int32) = iI ((i + 1 : Nat) : Int) by rw [i_1, iI_add]; rfl, show iI (v : Int) + (1 : Int32) = iI ((v + 1 : Nat) : Int) by rw [i_1, iI_add]; rfl]
  obtain ⟨S', a1, a2, a3⟩ := go33 hN hi (N - (i + 1)) (i + 1) M (us S 45 0 i (iI ((v + 1 : Nat) : Int))) (by omega) (by omega) (by omega)
  refine ⟨S', a1, (Fr.us ⟨rfl, rfl⟩).tr a2, fun j => ?_⟩
  rw [a3 j, us_same]
  by_cases q : j = i
  · subst q
    rw [if_neg (by omega), if_pos (by omega), us_same]
  · by_cases q2 : i + 1 ≤ j ∧ j < N
    · rw [if_pos q2, if_pos (by omega)]
    · rw [if_neg q2, if_neg (by omega), us_nb q]
theorem m_goesOn {S : sT} {r : List Nat} {M1 : Nat} (hr : r.length ≤ 3) (hx : ∀ x ∈ r, x ≤ 15) (hM : M1 ≤ 15) (h : RQ S r) : (nxR M1 r = none ∧ f_X11_goesOn (iI r.length) (iI M1) S = some ((0 : Int32), S)) ∨ ∃ r' S', nxR M1 r = some r' ∧ f_X11_goesOn (iI r.length) (iI M1) S = some ((1 : Int32), S') ∧ RQ S' r' ∧ Fr P45 S S' := by
  have hF : FU = (99995 + 1 + 1 + 1 + 1 : Nat) + 1 := rfl
  have hF2 : 1000 < FU := by unfold FU; omega
  unfold f_X11_goesOn
  rw [lt_b, jn_b]
  have main : ∀ M, 10 < M → (nxR M1 r = none ∧ l_X11_goesOn_4 (iI M1) S (fun (x2 : Int32) => ck (vi x2 3) (ck (vi x2 3) (lt (us S 45 0 (cl x2) ((S.1 45 0 (cl x2)) + (1 : Int32))) (fun S5 => lt (x2 + (1 : Int32)) (fun x6 => l_X11_goesOn_33 (iI r.length) x2 M x6 S5))))) M (iI (r.length : Int) - (1 : Int32)) = some ((0 : Int32), S)) ∨ ∃ r' S', nxR M1 r = some r' ∧ l_X11_goesOn_4 (iI M1) S (fun (x2 : Int32) => ck (vi x2 3) (ck (vi x2 3) (lt (us S 45 0 (cl x2) ((S.1 45 0 (cl x2)) + (1 : Int32))) (fun S5 => lt (x2 + (1 : Int32)) (fun x6 => l_X11_goesOn_33 (iI r.length) x2 M x6 S5))))) M (iI (r.length : Int) - (1 : Int32)) = some ((1 : Int32), S') ∧ RQ S' r' ∧ Fr P45 S S' := by
    intro M hMM
    obtain ⟨m, rfl⟩ : ∃ m', M = m' + 1 + 1 + 1 + 1 := ⟨M - 4, by omega⟩
    match r, hr, hx, h with
    | [], _, _, _ =>
      refine Or.inl ⟨rfl, ?_⟩
      show l_X11_goesOn_4 (iI M1) S _ (m + 1 + 1 + 1 + 1) (iI (-1)) = _
      rw [go4e]
    | [a], _, hx, h =>
      have ha := hx a (by simp)
      have h0 : S.1 45 0 0 = iI a := h 0 (by simp)
      rw [show iI (([a] : List Nat).length : Int) - (1 : Int32) = iI ((0 : Nat) : Int) by rw [i_1, iI_sub]; rfl, go4 (by omega) h0 ha hM]
      by_cases q : a < M1
      · rw [if_pos q]
        obtain ⟨S', g1, g2, g3⟩ := goJ (N := 1) (i := 0) (v := a) (M := m + 1 + 1 + 1 + 1) (S := S) (by omega) (by omega) h0 hMM
        refine Or.inr ⟨[a + 1], S', by unfold nxR nxR; simp only; rw [if_pos q]; rfl, g1, fun i hi => ?_, g2⟩
        have : i = 0 := by simp at hi; omega
        subst this
        rw [g3]
        rfl
      · rw [if_neg q, show ((0 : Nat) : Int) - 1 = -1 from rfl, go4e]
        exact Or.inl ⟨by unfold nxR nxR; simp only; rw [if_neg q], rfl⟩
    | [a, b], _, hx, h =>
      have ha := hx a (by simp)
      have hb := hx b (by simp)
      have h0 : S.1 45 0 0 = iI a := h 0 (by simp)
      have h1 : S.1 45 0 1 = iI b := h 1 (by simp)
      rw [show iI (([a, b] : List Nat).length : Int) - (1 : Int32) = iI ((1 : Nat) : Int) by rw [i_1, iI_sub]; rfl, go4 (by omega) h1 hb hM]
      by_cases q : b < M1
      · rw [if_pos q]
        obtain ⟨S', g1, g2, g3⟩ := goJ (N := 2) (i := 1) (v := b) (M := m + 1 + 1 + 1 + 1) (S := S) (by omega) (by omega) h1 hMM
        refine Or.inr ⟨[a, b + 1], S', by unfold nxR nxR nxR; simp only; rw [if_pos q]; rfl, g1, fun i hi => ?_, g2⟩
        rcases (show i = 0 ∨ i = 1 by simp at hi; omega) with rfl | rfl
        · rw [g3, if_neg (by omega)]; exact h0
        · rw [g3, if_pos (by omega)]; rfl
      · rw [if_neg q, show ((1 : Nat) : Int) - 1 = ((0 : Nat) : Int) from rfl, go4 (by omega) h0 ha hM]
        by_cases q2 : a < M1
        · rw [if_pos q2]
          obtain ⟨S', g1, g2, g3⟩ := goJ (N := 2) (i := 0) (v := a) (M := m + 1 + 1 + 1 + 1) (S := S) (by omega) (by omega) h0 hMM
          refine Or.inr ⟨[a + 1, a + 1], S', by unfold nxR nxR nxR; simp only; rw [if_neg q]; simp only; rw [if_pos q2]; rfl, g1, fun i hi => ?_, g2⟩
          rcases (show i = 0 ∨ i = 1 by simp at hi; omega) with rfl | rfl
          · rw [g3, if_pos (by omega)]; rfl
          · rw [g3, if_pos (by omega)]; rfl
        · rw [if_neg q2, show ((0 : Nat) : Int) - 1 = -1 from rfl, go4e]
          exact Or.inl ⟨by unfold nxR nxR nxR; simp only; rw [if_neg q]; simp only; rw [if_neg q2], rfl⟩
    | [a, b, c], _, hx, h =>
      have ha := hx a (by simp)
      have hb := hx b (by simp)
      have hc := hx c (by simp)
      have h0 : S.1 45 0 0 = iI a := h 0 (by simp)
      have h1 : S.1 45 0 1 = iI b := h 1 (by simp)
      have h2 : S.1 45 0 2 = iI c := h 2 (by simp)
      rw [show iI (([a, b, c] : List Nat).length : Int) - (1 : Int32) = iI ((2 : Nat) : Int) by rw [i_1, iI_sub]; rfl, go4 (by omega) h2 hc hM]
      by_cases q : c < M1
      · rw [if_pos q]
        obtain ⟨S', g1, g2, g3⟩ := goJ (N := 3) (i := 2) (v := c) (M := m + 1 + 1 + 1 + 1) (S := S) (by omega) (by omega) h2 hMM
        refine Or.inr ⟨[a, b, c + 1], S', by unfold nxR nxR nxR nxR; simp only; rw [if_pos q]; rfl, g1, fun i hi => ?_, g2⟩
        rcases (show i = 0 ∨ i = 1 ∨ i = 2 by simp at hi; omega) with rfl | rfl | rfl
        · rw [g3, if_neg (by omega)]; exact h0
        · rw [g3, if_neg (by omega)]; exact h1
        · rw [g3, if_pos (by omega)]; rfl
      · rw [if_neg q, show ((2 : Nat) : Int) - 1 = ((1 : Nat) : Int) from rfl, go4 (by omega) h1 hb hM]
        by_cases q2 : b < M1
        · rw [if_pos q2]
          obtain ⟨S', g1, g2, g3⟩ := goJ (N := 3) (i := 1) (v := b) (M := m + 1 + 1 + 1 + 1) (S := S) (by omega) (by omega) h1 hMM
          refine Or.inr ⟨[a, b + 1, b + 1], S', by unfold nxR nxR nxR nxR; simp only; rw [if_neg q]; simp only; rw [if_pos q2]; rfl, g1, fun i hi => ?_, g2⟩
          rcases (show i = 0 ∨ i = 1 ∨ i = 2 by simp at hi; omega) with rfl | rfl | rfl
          · rw [g3, if_neg (by omega)]; exact h0
          · rw [g3, if_pos (by omega)]; rfl
          · rw [g3, if_pos (by omega)]; rfl
        · rw [if_neg q2, show ((1 : Nat) : Int) - 1 = ((0 : Nat) : Int) from rfl, go4 (by omega) h0 ha hM]
          by_cases q3 : a < M1
          · rw [if_pos q3]
            obtain ⟨S', g1, g2, g3⟩ := goJ (N := 3) (i := 0) (v := a) (M := m + 1 + 1 + 1 + 1) (S := S) (by omega) (by omega) h0 hMM
            refine Or.inr ⟨[a + 1, a + 1, a + 1], S', by unfold nxR nxR nxR nxR; simp only; rw [if_neg q]; simp only; rw [if_neg q2]; simp only; rw [if_pos q3]; rfl, g1, fun i hi => ?_, g2⟩
            rcases (show i = 0 ∨ i = 1 ∨ i = 2 by simp at hi; omega) with rfl | rfl | rfl
            · rw [g3, if_pos (by omega)]; rfl
            · rw [g3, if_pos (by omega)]; rfl
            · rw [g3, if_pos (by omega)]; rfl
          · rw [if_neg q3, show ((0 : Nat) : Int) - 1 = -1 from rfl, go4e]
            exact Or.inl ⟨by unfold nxR nxR nxR nxR; simp only; rw [if_neg q]; simp only; rw [if_neg q2]; simp only; rw [if_neg q3], rfl⟩
    | _ :: _ :: _ :: _ :: _, hr, _, _ => exact absurd hr (by simp)
  exact main FU (by omega)
/-! the reference tries a row -/
theorem RM.pl {S S' : sT} {n : Nat} {f : Nat → List Nat} (h : RM S n f) (h1 : S'.1 115 0 = S.1 115 0) (h2 : S'.1 44 0 = S.1 44 0) (h3 : S'.1 43 0 = S.1 43 0) : RM S' n f := h.kept h1 h2 h3
theorem m_mends_0 {N : Nat} (hN : N ≤ 3) (J : Int32 → sT → Option (Int32 × sT)) : ∀ (d i m : Nat) (S : sT), i + d = N → d < m → l_X11_mends_12 (iI N) J m (0 : Int32) (iI i) S = J (0 : Int32) S := by
  intro d
  induction d with
  | zero =>
    intro i m S hi hm
    obtain ⟨m, rfl⟩ : ∃ m', m = m' + 1 := ⟨m - 1, by omega⟩
    rw [l_X11_mends_12_s]
    unfold b_X11_mends_12
    rw [if_pos (by rw [iI_le (by omega) (by omega) (by omega) (by omega)]; omega)]
  | succ d ih =>
    intro i m S hi hm
    obtain ⟨m, rfl⟩ : ∃ m', m = m' + 1 := ⟨m - 1, by omega⟩
    rw [l_X11_mends_12_s]
    unfold b_X11_mends_12
    rw [if_neg (by rw [iI_le (by omega) (by omega) (by omega) (by omega)]; omega), jn_b, jn_b, if_pos rfl]; (try dsimp only); rw [lt_b, show iI (i : Int) + (1 : Int32) = iI ((i + 1 : Nat) : Int) by rw [i_1, iI_add]; rfl]
    exact ih (i + 1) m S (by omega) (by omega)
theorem m_mends_l {n : Nat} {r : List Nat} (hr : r.length ≤ 3) (hx : ∀ x ∈ r, x ≤ 15) (J : Int32 → sT → Option (Int32 × sT)) : ∀ (d i m : Nat) (S : sT) (f : wF), i + d = r.length → d < m → RQ S r → RM S n f → ∃ S', l_X11_mends_12 (iI r.length) J m (1 : Int32) (iI i) S = J (iI (b2i (goF (stM n) (r.drop i) f).isSome)) S' ∧ Fr PL S S' ∧ ∀ f', goF (stM n) (r.drop i) f = some f' → RM S' n f' := by
  intro d
  induction d with
  | zero =>
    intro i m S f hi hm hq hW
    obtain ⟨m, rfl⟩ : ∃ m', m = m' + 1 := ⟨m - 1, by omega⟩
    rw [List.drop_eq_nil_of_le (by omega)]
    refine ⟨S, ?_, Fr.rf, fun f' h => ?_⟩
    · rw [l_X11_mends_12_s]
      unfold b_X11_mends_12
      rw [if_pos (by rw [iI_le (by omega) (by omega) (by omega) (by omega)]; omega)]
      rfl
    · have : f = f' := Option.some.inj h
      rw [← this]; exact hW
  | succ d ih =>
    intro i m S f hi hm hq hW
    obtain ⟨m, rfl⟩ : ∃ m', m = m' + 1 := ⟨m - 1, by omega⟩
    have hxi : nth r i ≤ 15 := by
      apply hx
      unfold nth
      rw [List.getD_eq_getElem?_getD, List.getElem?_eq_getElem (show i < r.length by omega)]
      exact List.getElem_mem _
    rw [drop_nth (show i < r.length by omega)]
    rw [l_X11_mends_12_s]
    unfold b_X11_mends_12
    rw [if_neg (by rw [iI_le (by omega) (by omega) (by omega) (by omega)]; omega), jn_b, jn_b, if_neg z10, vi_iI (by omega) (by omega) (by omega), ck_t, nz_8, ck_t, ck_t, ck_t, ck_t, ck_t, cl_iI (by omega) (by omega), Int.toNat_natCast, hq i (by omega), iI_rem8 (by omega), iI_div8 (by omega), show iI (i : Int) + (1 : Int32) = iI ((i + 1 : Nat) : Int) by rw [i_1, iI_add]; rfl]
    obtain ⟨S1, e1, e2, e3⟩ := m_lays hW (who := nth r i / 8) (by omega) (x := nth r i / 8) (by omega) (z := ((nth r i % 8 : Nat) : Int)) (by omega) (by omega)
    rw [if_pos (show nth r i / 8 % 2 = nth r i / 8 by omega)] at e1 e2
    rw [e1, bn2_s]
    have eg : goF (stM n) (nth r i :: r.drop (i + 1)) f = (putF n f ((nth r i % 8 : Nat) : Int) (nth r i / 8)).bind (goF (stM n) (r.drop (i + 1))) := rfl
    rw [eg]
    cases hp : putF n f ((nth r i % 8 : Nat) : Int) (nth r i / 8) with
    | none =>
      rw [if_pos (show iI (b2i (none : Option wF).isSome) = (0 : Int32) from rfl)]; (try dsimp only); rw [lt_b]
      refine ⟨S1, ?_, e3, fun f' h => by cases h⟩
      rw [m_mends_0 hr J d (i + 1) m S1 (by omega) (by omega)]
      rfl
    | some f1 =>
      rw [hp] at e2
      rw [if_neg (show ¬ (iI (b2i (some f1 : Option wF).isSome) = (0 : Int32)) from z10)]; (try dsimp only); rw [lt_b]
      obtain ⟨S', g1, g2, g3⟩ := ih (i + 1) m S1 f1 (by omega) (by omega) (fun j hj => by rw [e3.1 45 0 (by unfold PL; omega)]; exact hq j hj) e2
      exact ⟨S', g1, e3.tr g2, g3⟩
theorem m_mends {S : sT} {L : Nat → List Nat} {st : Nat → Nat} {sg : List (Nat × Nat × Nat)} {r : List Nat} (h : RD S L st sg) (h9 : R9 S) (hr : r.length ≤ 3) (hx : ∀ x ∈ r, x ≤ 15) (hq : RQ S r) : ∃ S', f_X11_mends (iI r.length) S = some (iI (b2i (gdR (stM (nW L)) (stB st (nW L)) r (gW' L st))), S') ∧ Fr PM S S' := by
  have hF : 1000 < FU := by unfold FU; omega
  obtain ⟨S1, a1, a2, a3, a4⟩ := h.lives h9.ho (Nat.le_refl _)
  obtain ⟨S', g1, g2, g3⟩ := m_mends_l (n := nW L) hr hx (fun (x3 : Int32) (S4 : sT) => (if x3 = (0 : Int32) then some ((0 : Int32), S4) else bn (f_X11_weakNow S4) (fun r6 => (if r6 = (0 : Int32) then some ((1 : Int32), S4) else some ((0 : Int32), S4))))) r.length 0 FU S1 (gW' L st) (by omega) (by omega) (fun j hj => by rw [a4.1 45 0 (by unfold PM; omega)]; exact hq j hj) a2
  rw [List.drop_zero] at g1 g3
  have F : Fr PM S S' := a4.tr (PL.pm g2)
  refine ⟨S', ?_, F⟩
  unfold f_X11_mends
  rw [h.2.1.1, a1, bn_s, jn_b]
  refine Eq.trans g1 ?_
  unfold gdR
  cases hg : goF (stM (nW L)) r (gW' L st) with
  | none =>
    rw [if_pos (show iI (b2i (none : Option wF).isSome) = (0 : Int32) from rfl)]
    rfl
  | some f' =>
    have hn := (g3 f' hg).1
    have hM : MS S' st := ((h.fr (Fr1.mono F.1 PM_px)).2.2.1)
    rw [if_neg (show ¬ (iI (b2i (some f' : Option wF).isSome) = (0 : Int32)) from z10), m_weakNow (g3 f' hg) hM, bn_s]
    show (if wkB st (nW L) f' = (0 : Int32) then _ else _) = some (iI (b2i (stB st (nW L) f')), S')
    by_cases q : stB st (nW L) f' = true
    · rw [if_pos ((stB_0 hn).mpr q), q]; rfl
    · rw [if_neg (fun z => q ((stB_0 hn).mp z))]
      have : stB st (nW L) f' = false := by simpa using q
      rw [this]; rfl
