/-! the reference reads the turns -/
def TMd (S : sT) (ts : List tT) : Prop := ∀ k, k < ts.length → S.1 41 0 (8 * k) = iI (tn ts k).1 ∧ S.1 41 0 (8 * k + 1) = iI (tn ts k).2.length ∧ ∀ j, j < (tn ts k).2.length → S.1 41 0 (8 * k + 2 + 2 * j) = iI (sn (tn ts k).2 j).1 ∧ S.1 41 0 (8 * k + 3 + 2 * j) = iI (sn (tn ts k).2 j).2
def PQ : Nat → Nat → Prop := fun k _ => k = 41 ∨ k = 114 ∨ k = 116
theorem TMd.last {S S' : sT} {ts : List tT} {t : tT} (h : TMd S ts) (hO : OkT ts) (h1 : ∀ i, i < 8 * ts.length → S'.1 41 0 i = S.1 41 0 i) (g1 : S'.1 41 0 (8 * ts.length) = iI t.1) (g2 : S'.1 41 0 (8 * ts.length + 1) = iI t.2.length) (g3 : ∀ j, j < t.2.length → S'.1 41 0 (8 * ts.length + 2 + 2 * j) = iI (sn t.2 j).1 ∧ S'.1 41 0 (8 * ts.length + 3 + 2 * j) = iI (sn t.2 j).2) : TMd S' (ts ++ [t]) := by
  intro k hk
  rw [List.length_append, List.length_singleton] at hk
  by_cases e : k = ts.length
  · subst e
    rw [tn_r]
    exact ⟨g1, g2, g3⟩
  · have hk : k < ts.length := by omega
    obtain ⟨a1, a2, a3⟩ := h k hk
    have a4 := (hO.2 _ (tn_mem hk)).2.2.2.1
    rw [tn_l hk, h1 _ (by omega), h1 _ (by omega)]
    exact ⟨a1, a2, fun j hj => by rw [h1 _ (by omega), h1 _ (by omega)]; exact a3 j hj⟩
theorem TMd.init {S : sT} {ts : List tT} {t : tT} (h : TMd S (ts ++ [t])) : TMd S ts ∧ S.1 41 0 (8 * ts.length) = iI t.1 ∧ S.1 41 0 (8 * ts.length + 1) = iI t.2.length ∧ ∀ j, j < t.2.length → S.1 41 0 (8 * ts.length + 2 + 2 * j) = iI (sn t.2 j).1 ∧ S.1 41 0 (8 * ts.length + 3 + 2 * j) = iI (sn t.2 j).2 := by
  refine ⟨fun k hk => ?_, ?_⟩
  · have h2 := h k (by rw [List.length_append]; omega)
    rw [tn_l hk] at h2
    exact h2
  · have h2 := h ts.length (by rw [List.length_append, List.length_singleton]; omega)
    rw [tn_r] at h2
    exact h2
theorem TMd.kept {S S' : sT} {ts : List tT} (h : TMd S ts) (h1 : S'.1 41 0 = S.1 41 0) : TMd S' ts := by
  unfold TMd
  rw [h1]
  exact h
def hz (l : List Nat) (k : Nat) : Int := if k < l.length then (bt l k : Int) else -1
def lz (l : List Nat) (k : Nat) : Option Nat := if k < l.length then ltr (bt l k) else none
def fz (l : List Nat) (k : Nat) : Option Nat := if k < l.length then fig (bt l k) else none
theorem hz_b {S : sT} {l : List Nat} (h : MT S 1 l) (k : Nat) : -1 ≤ hz l k ∧ hz l k < 256 := by
  unfold hz
  split
  · have := (h.2.2 k (by assumption)).2
    omega
  · omega
theorem m_here {S : sT} {l : List Nat} {k : Nat} (h : MT S 1 l) (hk : S.1 114 0 0 = iI k) (hk2 : k ≤ l.length) : f_X11_here S = some (iI (hz l k)) := by
  obtain ⟨h1, h2, h3⟩ := h
  obtain ⟨v20, v21, v80⟩ := v2
  obtain ⟨cl0, cl1⟩ := cl01
  unfold f_X11_here hz
  rw [hk, v21, ck_t, cl1, h1]
  by_cases q : k < l.length
  · rw [if_neg (by rw [iI_le (by omega) (by omega) (by omega) (by omega)]; omega), if_pos q, i_64, iI_add, vi_iI (by omega) (by omega) (by omega), ck_t, cl_iI (by omega) (by omega)]
    rw [show ((64 : Int) + (k : Int)).toNat = 64 * 1 + k by omega, (h3 k q).1]
  · rw [if_pos (by rw [iI_le (by omega) (by omega) (by omega) (by omega)]; omega), if_neg q]; rfl
theorem m_stHere {S : sT} {l : List Nat} {k : Nat} (h : MT S 1 l) (S' : sT) : f_X11_stoneOf (iI (hz l k)) S' = some (iI (oI (lz l k))) := by
  have hb := hz_b h k
  rw [m_stoneOf (by omega)]
  unfold hz lz
  by_cases q : k < l.length
  · rw [if_pos q, if_pos q, if_neg (by omega), Int.toNat_natCast]
  · rw [if_neg q, if_neg q, if_pos rfl]
theorem l_48 : (48 : Int64) = lI 48 := by decide
theorem l_55 : (55 : Int64) = lI 55 := by decide
theorem b2i_p {p : Prop} [Decidable p] (h : p) : b2i (decide p) = 1 := by rw [decide_eq_true h]; rfl
theorem b2i_n {p : Prop} [Decidable p] (h : ¬ p) : b2i (decide p) = 0 := by rw [decide_eq_false h]; rfl
theorem m_figure {S : sT} {l : List Nat} {k : Nat} (h : MT S 1 l) (hk : S.1 114 0 0 = iI k) (hk2 : k ≤ l.length) : f_X11_figure S = some (iI (oI (fz l k)), match fz l k with | none => S | some _ => us S 114 0 0 (iI ((k + 1 : Nat) : Int))) := by
  have hb := hz_b h k
  unfold f_X11_figure
  rw [m_here h hk hk2, bn_s, iI_toL (by omega) (by omega), l_48, l_55, p_in S (by omega) (by omega) (by omega) (by omega) (by omega) (by omega), bn_s, hk, i_1, iI_add]
  unfold fz
  by_cases q : k < l.length
  · rw [if_pos q]
    have e : hz l k = bt l k := by unfold hz; rw [if_pos q]
    rw [e] at hb ⊢
    unfold fig
    by_cases q2 : 48 ≤ bt l k ∧ bt l k < 56
    · rw [if_pos q2, b2i_p (by omega), if_neg (show ¬ (iI 1 = (0 : Int32)) from z10), i_48, iI_sub]
      simp only [ck_t, lt_b, bn_s, bn2_s, jn_b, nl_N, nl_S, oI]
      congr 2
      congr 1
      omega
    · rw [if_neg q2, b2i_n (by omega), if_pos (by rfl)]
      rfl
  · rw [if_neg q]
    have e : hz l k = -1 := by unfold hz; rw [if_neg q]
    rw [e, b2i_n (by omega), if_pos (by rfl)]
    rfl
def xS (t : tT) : Nat := if t.2 = [] then 3 else 5
theorem oI_b {o : Option Nat} {n : Nat} (h : ∀ x, o = some x → x < n) : -1 ≤ oI o ∧ (oI o < n ∨ oI o = -1) ∧ (oI o = -1 ↔ o = none) := by
  cases o with
  | none => exact ⟨by decide, Or.inr rfl, by simp [oI]⟩
  | some x => have := h x rfl; exact ⟨by simp only [oI]; omega, Or.inl (by simp only [oI]; omega), by simp only [oI]; constructor <;> intro z <;> (try cases z) <;> omega⟩
theorem m_lays_r {l : List Nat} {n : Nat} {ts : List tT} (hO : OkT ts) (hn : n = ts.length) (hn2 : n < 12) (j17 : sT → Option (Int32 × sT)) : ∀ (d k m : Nat) (S : sT) (t : tT), MT S 1 l → S.1 114 0 0 = iI k → k ≤ l.length → TMd S (ts ++ [t]) → tB t → t.2.length + d = 3 → d < m → ∃ S', Fr PQ S S' ∧ S'.1 116 0 0 = S.1 116 0 0 ∧ ((∃ k' : Nat, k' ≤ l.length ∧ S'.1 114 0 0 = iI k' ∧ pT (l.drop k) k (xS t) ts t 0 = ((k' : Int), []) ∧ l_X11_readsTurn_76 (iI (8 * (n : Int))) j17 m S = some ((0 : Int32), S')) ∨ (∃ t' k', k' ≤ l.length ∧ S'.1 114 0 0 = iI k' ∧ TMd S' (ts ++ [t']) ∧ tB t' ∧ pT (l.drop k) k (xS t) ts t 0 = pT (l.drop k') k' (xS t') ts t' 0 ∧ (t'.2.length < 3 → lz l k' = none) ∧ l_X11_readsTurn_76 (iI (8 * (n : Int))) j17 m S = j17 S')) := by
  intro d
  induction d with
  | zero =>
    intro k m S t h hk hk2 hT hB hd hm
    obtain ⟨m, rfl⟩ : ∃ m', m = m' + 1 := ⟨m - 1, by omega⟩
    obtain ⟨i1, i2, i3, i4⟩ := hT.init
    refine ⟨S, Fr.rf, rfl, Or.inr ⟨t, k, hk2, hk, hT, hB, rfl, fun z => absurd z (by omega), ?_⟩⟩
    rw [l_X11_readsTurn_76_s]
    unfold b_X11_readsTurn_76
    rw [i_1, iI_add, vi_iI (by omega) (by omega) (by omega), ck_t, cl_iI (by omega) (by omega), show ((8 : Int) * (n : Int) + 1).toNat = 8 * ts.length + 1 by omega, i3, if_pos (by rw [i_3, iI_le (by omega) (by omega) (by omega) (by omega)]; omega)]
  | succ d ih =>
    intro k m S t h hk hk2 hT hB hd hm
    obtain ⟨m, rfl⟩ : ∃ m', m = m' + 1 := ⟨m - 1, by omega⟩
    obtain ⟨i1, i2, i3, i4⟩ := hT.init
    have h63 := h.2.1
    have hb := hz_b h k
    rw [l_X11_readsTurn_76_s]
    unfold b_X11_readsTurn_76
    have c1 : cl (iI (8 * (n : Int)) + (1 : Int32)) = 8 * ts.length + 1 := by rw [i_1, iI_add, cl_iI (by omega) (by omega)]; omega
    have v1 : vi (iI (8 * (n : Int)) + (1 : Int32)) 96 = true := by rw [i_1, iI_add, vi_iI (by omega) (by omega) (by omega)]
    have c2 : cl (iI (8 * (n : Int)) + (2 : Int32) + (2 : Int32) * iI t.2.length) = 8 * ts.length + 2 + 2 * t.2.length := by rw [i_2, iI_add, iI_mul, iI_add, cl_iI (by omega) (by omega)]; omega
    have v2' : vi (iI (8 * (n : Int)) + (2 : Int32) + (2 : Int32) * iI t.2.length) 96 = true := by rw [i_2, iI_add, iI_mul, iI_add, vi_iI (by omega) (by omega) (by omega)]
    have c3 : cl (iI (8 * (n : Int)) + (3 : Int32) + (2 : Int32) * iI t.2.length) = 8 * ts.length + 3 + 2 * t.2.length := by rw [i_3, i_2, iI_add, iI_mul, iI_add, cl_iI (by omega) (by omega)]; omega
    have v3 : vi (iI (8 * (n : Int)) + (3 : Int32) + (2 : Int32) * iI t.2.length) 96 = true := by rw [i_3, i_2, iI_add, iI_mul, iI_add, vi_iI (by omega) (by omega) (by omega)]
    have hs1 : k + 1 = k + 1 := rfl
    rw [v1, ck_t, c1, i3, if_neg (by rw [i_3, iI_le (by omega) (by omega) (by omega) (by omega)]; omega), m_here h hk hk2, bn_s, m_stHere h, bn_s]
    cases hs : lz l k with
    | none =>
      rw [if_pos (by rfl)]
      exact ⟨S, Fr.rf, rfl, Or.inr ⟨t, k, hk2, hk, hT, hB, rfl, fun _ => hs, rfl⟩⟩
    | some s =>
      have hkl : k < l.length := by
        unfold lz at hs
        split at hs
        · assumption
        · cases hs
      have hlt : ltr (bt l k) = some s := by unfold lz at hs; rw [if_pos hkl] at hs; exact hs
      have hs4 := ltr_lt hlt
      have h59 : bt l k ≠ 59 := fun z => by rw [z] at hlt; cases hlt
      rw [show oI (some s) = (s : Int) from rfl, if_neg (by rw [i_m1, iI_eq (by omega) (by omega) (by omega) (by omega)]; omega)]
      simp -implicitDefEqProofs only [ck_t, lt_b, bn_s, bn2_s, jn_b, nl_N, nl_S, v1, v2', v3, c2, c3, m_stHere h, hs, show oI (some s) = (s : Int) from rfl]
      rw [us_ne (f' := 114) (by omega), hk, show iI (k : Int) + (1 : Int32) = iI ((k : Int) + 1) by rw [i_1, iI_add]]
      have hp : pT (l.drop k) k (xS t) ts t 0 = pT (l.drop (k + 1)) (k + 1) 4 ts t s := by
        rw [bt_drop hkl, pT]
        have : stT (bt l k) (xS t) ts t 0 = some (4, ts, t, s) := by
          unfold stT xS
          split
          · rw [if_neg (by omega), if_neg (by omega), if_pos rfl, hlt]; rfl
          · rw [if_neg (show ¬ ((5 : Nat) = 1) by omega), if_neg (show ¬ ((5 : Nat) = 2) by omega), if_neg (show ¬ ((5 : Nat) = 3) by omega), if_neg (show ¬ ((5 : Nat) = 4) by omega), if_pos (by omega), hlt]; rfl
        rw [this]
      rw [hp]
      have F1 : Fr PQ S (us (us S 41 0 (8 * ts.length + 2 + 2 * t.2.length) (iI s)) 114 0 0 (iI ((k : Int) + 1))) := (Fr.us (Or.inl rfl)).tr (Fr.us (Or.inr (Or.inl rfl)))
      have e1 := m_figure (S := us (us S 41 0 (8 * ts.length + 2 + 2 * t.2.length) (iI s)) 114 0 0 (iI ((k : Int) + 1))) (k := k + 1) (h.fr F1 (by unfold PQ; omega)) us_same (by omega)
      rw [e1, bn2_s]
      cases hc : fz l (k + 1) with
      | none =>
        simp only []
        rw [us_same, if_pos (by rfl)]
        refine ⟨_, F1.tr (Fr.us (Or.inl rfl)), by simp (disch := omega) only [us_ne], Or.inl ⟨k + 1, by omega, ?_, ?_, rfl⟩⟩
        · simp (disch := omega) only [us_ne, us_same]; rfl
        · by_cases q : k + 1 < l.length
          · rw [bt_drop q, pT]
            have : stT (bt l (k + 1)) 4 ts t s = none := by
              unfold stT
              unfold fz at hc
              rw [if_pos q] at hc
              rw [if_neg (by omega), if_neg (by omega), if_neg (by omega), if_pos rfl, hc]; rfl
            rw [this]
          · rw [List.drop_eq_nil_of_le (by omega), pT, if_neg (by omega)]
      | some c =>
        have hkl2 : k + 1 < l.length := by
          unfold fz at hc
          split at hc
          · assumption
          · cases hc
        have hcf : fig (bt l (k + 1)) = some c := by unfold fz at hc; rw [if_pos hkl2] at hc; exact hc
        have hc8 := fig_lt hcf
        simp only []
        rw [us_same, show oI (some c) = (c : Int) from rfl, if_neg (by rw [i_m1, iI_eq (by omega) (by omega) (by omega) (by omega)]; omega)]
        have hp2 : pT (l.drop (k + 1)) (k + 1) 4 ts t s = pT (l.drop (k + 1 + 1)) (k + 1 + 1) (xS (t.1, t.2 ++ [(s, c)])) ts (t.1, t.2 ++ [(s, c)]) 0 := by
          rw [bt_drop hkl2, pT]
          have : stT (bt l (k + 1)) 4 ts t s = some (5, ts, (t.1, t.2 ++ [(s, c)]), 0) := by
            unfold stT
            rw [if_neg (by omega), if_neg (by omega), if_neg (by omega), if_pos rfl, hcf]; rfl
          rw [this]
          unfold xS
          rw [if_neg (by simp)]
        rw [hp2]
        have F2 : Fr PQ S (us (us (us (us (us S 41 0 (8 * ts.length + 2 + 2 * t.2.length) (iI s)) 114 0 0 (iI ((k : Int) + 1))) 114 0 0 (iI ((k + 1 + 1 : Nat) : Int))) 41 0 (8 * ts.length + 3 + 2 * t.2.length) (iI c)) 41 0 (8 * ts.length + 1) (iI ((t.2.length : Int) + 1))) := ((F1.tr (Fr.us (Or.inr (Or.inl rfl)))).tr (Fr.us (Or.inl rfl))).tr (Fr.us (Or.inl rfl))
        obtain ⟨S', a1, a2, a3⟩ := ih (k + 1 + 1) m _ (t.1, t.2 ++ [(s, c)]) (h.fr F2 (by unfold PQ; omega)) (by simp (disch := omega) only [us_ne, us_same]) (by omega) (TMd.last i1 hO (by intro i hi; simp (disch := omega) only [us_ne, us_nb]) (by simp (disch := omega) only [us_ne, us_nb, i2]) (by rw [us_same, List.length_append, List.length_singleton]; rfl) (by
          intro j hj
          simp only [List.length_append, List.length_singleton] at hj
          by_cases e : j = t.2.length
          · subst e
            simp (disch := omega) only [us_ne, us_nb, us_same, sn_r, and_self]
          · have hj : j < t.2.length := by omega
            simp (disch := omega) only [us_ne, us_nb, sn_l hj]
            exact i4 j hj)) ⟨hB.1, hB.2.1, by simp only [List.length_append, List.length_singleton]; omega, fun q hq => by
              rcases List.mem_append.mp hq with hq | hq
              · exact hB.2.2.2 q hq
              · have e : q = (s, c) := by simpa using hq
                subst e
                exact ⟨hs4, hc8.1⟩⟩ (by simp only [List.length_append, List.length_singleton]; omega) (by omega)
        refine ⟨S', F2.tr a1, by rw [a2]; simp (disch := omega) only [us_ne], ?_⟩
        have hun : (us (us (us (us S 41 0 (8 * ts.length + 2 + 2 * t.2.length) (iI s)) 114 0 0 (iI ((k : Int) + 1))) 114 0 0 (iI ((k + 1 + 1 : Nat) : Int))) 41 0 (8 * ts.length + 3 + 2 * t.2.length) (iI c)).1 41 0 (8 * ts.length + 1) = iI t.2.length := by
          simp (disch := omega) only [us_ne, us_nb, i3]
        rw [hun, show iI (t.2.length : Int) + (1 : Int32) = iI ((t.2.length : Int) + 1) by rw [i_1, iI_add]]
        exact a3
theorem m_readsTurn {S : sT} {l : List Nat} {ts : List tT} {k : Nat} (hO : OkT ts) (h : MT S 1 l) (hk : S.1 114 0 0 = iI k) (hk2 : k ≤ l.length) (h6 : S.1 116 0 0 = iI ts.length) (hT : TMd S ts) : ∃ r S', f_X11_readsTurn S = some (r, S') ∧ Fr PQ S S' ∧ ((r = (0 : Int32) ∧ ∃ k' : Nat, k' ≤ l.length ∧ S'.1 114 0 0 = iI k' ∧ pT (l.drop k) k 1 ts (-1, []) 0 = ((k' : Int), [])) ∨ (r = (1 : Int32) ∧ ts.length < 12 ∧ ∃ t' k', k' ≤ l.length ∧ S'.1 114 0 0 = iI k' ∧ S'.1 116 0 0 = iI ((ts.length : Int) + 1) ∧ TMd S' (ts ++ [t']) ∧ tB t' ∧ 1 ≤ t'.2.length ∧ pT (l.drop k) k 1 ts (-1, []) 0 = pT (l.drop k') k' 5 ts t' 0 ∧ (t'.2.length < 3 → lz l k' = none))) := by
  have h1 := hO.1
  have h63 := h.2.1
  have hb := hz_b h k
  have hF : 1000 < FU := by unfold FU; omega
  revert hF
  unfold f_X11_readsTurn
  generalize FU = N
  intro hF
  by_cases q : ts.length = 12
  · rw [h6, if_pos (by rw [q]; rfl)]
    refine ⟨_, _, rfl, Fr.rf, Or.inl ⟨rfl, k, hk2, hk, ?_⟩⟩
    by_cases q2 : k < l.length
    · rw [bt_drop q2, pT]
      have : stT (bt l k) 1 ts (-1, []) 0 = none := by unfold stT; rw [if_pos rfl, if_neg (by omega)]
      rw [this]
    · rw [List.drop_eq_nil_of_le (by omega), pT, if_neg (by omega)]
  · rw [h6, if_neg (by rw [i_12, iI_eq (by omega) (by omega) (by omega) (by omega)]; omega)]
    have q : ts.length < 12 := by omega
    have e8 : (8 : Int32) * iI ts.length = iI (8 * (ts.length : Int)) := by rw [i_8, iI_mul]
    have c0 : cl (iI (8 * (ts.length : Int))) = 8 * ts.length := by rw [cl_iI (by omega) (by omega)]; omega
    have v0 : vi (iI (8 * (ts.length : Int))) 96 = true := vi_iI (by omega) (by omega) (by omega)
    have c1 : cl (iI (8 * (ts.length : Int)) + (1 : Int32)) = 8 * ts.length + 1 := by rw [i_1, iI_add, cl_iI (by omega) (by omega)]; omega
    have v1 : vi (iI (8 * (ts.length : Int)) + (1 : Int32)) 96 = true := by rw [i_1, iI_add, vi_iI (by omega) (by omega) (by omega)]
    rw [e8]
    simp -implicitDefEqProofs only [lt_b, jn_b, ck_t, c0, v0, c1, v1]
    have F0 : Fr PQ S (us (us S 41 0 (8 * ts.length) (-1 : Int32)) 41 0 (8 * ts.length + 1) (0 : Int32)) := (Fr.us (Or.inl rfl)).tr (Fr.us (Or.inl rfl))
    have T0 : TMd (us (us S 41 0 (8 * ts.length) (-1 : Int32)) 41 0 (8 * ts.length + 1) (0 : Int32)) (ts ++ [(-1, [])]) := TMd.last hT hO (by intro i hi; simp (disch := omega) only [us_nb]) (by simp (disch := omega) only [us_nb, us_same]; rfl) (by rw [us_same]; rfl) (fun j hj => absurd hj (by simp))
    have K0 : (us (us S 41 0 (8 * ts.length) (-1 : Int32)) 41 0 (8 * ts.length + 1) (0 : Int32)).1 114 0 0 = iI k := by simp (disch := omega) only [us_ne, hk]
    have H0 : (us (us S 41 0 (8 * ts.length) (-1 : Int32)) 41 0 (8 * ts.length + 1) (0 : Int32)).1 116 0 0 = iI ts.length := by simp (disch := omega) only [us_ne, h6]
    generalize us (us S 41 0 (8 * ts.length) (-1 : Int32)) 41 0 (8 * ts.length + 1) (0 : Int32) = S5 at F0 T0 K0 H0 ⊢
    have M0 := h.fr F0 (by unfold PQ; omega)
    rw [m_here M0 K0 hk2, bn_s]
    -- from a turn begun
    have rest : ∀ (S8 : sT) (t : tT) (k1 : Nat), Fr PQ S S8 → S8.1 114 0 0 = iI k1 → k1 ≤ l.length → S8.1 116 0 0 = iI ts.length → TMd S8 (ts ++ [t]) → t.2 = [] → tB t → pT (l.drop k) k 1 ts (-1, []) 0 = pT (l.drop k1) k1 3 ts t 0 → ∃ r S', (l_X11_readsTurn_76 (iI (8 * (ts.length : Int))) (fun S9 => (if (S9.1 41 0 (8 * ts.length + 1)) ≤ (0 : Int32) then (if ((us S9 116 0 0 ((S9.1 116 0 0) + (0 : Int32))).1 41 0 (8 * ts.length + 1)) ≤ (0 : Int32) then some ((0 : Int32), us S9 116 0 0 ((S9.1 116 0 0) + (0 : Int32))) else some ((1 : Int32), us S9 116 0 0 ((S9.1 116 0 0) + (0 : Int32)))) else (if ((us S9 116 0 0 ((S9.1 116 0 0) + (1 : Int32))).1 41 0 (8 * ts.length + 1)) ≤ (0 : Int32) then some ((0 : Int32), us S9 116 0 0 ((S9.1 116 0 0) + (1 : Int32))) else some ((1 : Int32), us S9 116 0 0 ((S9.1 116 0 0) + (1 : Int32)))))) N S8) = some (r, S') ∧ Fr PQ S S' ∧ ((r = (0 : Int32) ∧ ∃ k' : Nat, k' ≤ l.length ∧ S'.1 114 0 0 = iI k' ∧ pT (l.drop k) k 1 ts (-1, []) 0 = ((k' : Int), [])) ∨ (r = (1 : Int32) ∧ ts.length < 12 ∧ ∃ t' k', k' ≤ l.length ∧ S'.1 114 0 0 = iI k' ∧ S'.1 116 0 0 = iI ((ts.length : Int) + 1) ∧ TMd S' (ts ++ [t']) ∧ tB t' ∧ 1 ≤ t'.2.length ∧ pT (l.drop k) k 1 ts (-1, []) 0 = pT (l.drop k') k' 5 ts t' 0 ∧ (t'.2.length < 3 → lz l k' = none))) := by
      intro S8 t k1 F8 K8 g1 H8 T8 g2 g3 g4
      rw [g4]
      obtain ⟨S', a1, a2, a3⟩ := m_lays_r hO rfl q (fun S9 => (if (S9.1 41 0 (8 * ts.length + 1)) ≤ (0 : Int32) then (if ((us S9 116 0 0 ((S9.1 116 0 0) + (0 : Int32))).1 41 0 (8 * ts.length + 1)) ≤ (0 : Int32) then some ((0 : Int32), us S9 116 0 0 ((S9.1 116 0 0) + (0 : Int32))) else some ((1 : Int32), us S9 116 0 0 ((S9.1 116 0 0) + (0 : Int32)))) else (if ((us S9 116 0 0 ((S9.1 116 0 0) + (1 : Int32))).1 41 0 (8 * ts.length + 1)) ≤ (0 : Int32) then some ((0 : Int32), us S9 116 0 0 ((S9.1 116 0 0) + (1 : Int32))) else some ((1 : Int32), us S9 116 0 0 ((S9.1 116 0 0) + (1 : Int32)))))) 3 k1 N S8 t (h.fr F8 (by unfold PQ; omega)) K8 g1 T8 g3 (by rw [g2]; rfl) (by omega)
      have hx : xS t = 3 := by unfold xS; rw [if_pos g2]
      rw [hx] at a3
      rcases a3 with ⟨k', b1, b2, b3, b4⟩ | ⟨t', k', b1, b2, b3, b4, b5, b6, b7⟩
      · exact ⟨_, S', b4, F8.tr a1, Or.inl ⟨rfl, k', b1, b2, b3⟩⟩
      · have b8 := b4.2.2.1
        have i3 := (b3.init).2.2.1
        rw [b7]
        simp (disch := omega) only [us_ne]
        rw [i3]
        by_cases q2 : t'.2.length = 0
        · have q3 : t'.2 = [] := List.eq_nil_of_length_eq_zero q2
          rw [if_pos (by rw [q2]; decide), if_pos (by rw [q2]; decide)]
          refine ⟨_, _, rfl, (F8.tr a1).tr (Fr.us (Or.inr (Or.inr rfl))), Or.inl ⟨rfl, k', b1, by simp (disch := omega) only [us_ne, b2], ?_⟩⟩
          rw [b5]
          have hx2 : xS t' = 3 := by unfold xS; rw [if_pos q3]
          rw [hx2]
          by_cases q4 : k' < l.length
          · rw [bt_drop q4, pT]
            have hl := b6 (by omega)
            unfold lz at hl
            rw [if_pos q4] at hl
            have : stT (bt l k') 3 ts t' 0 = none := by
              unfold stT
              rw [if_neg (by omega), if_neg (by omega), if_pos rfl, hl]; rfl
            rw [this]
          · rw [List.drop_eq_nil_of_le (by omega), pT, if_neg (by omega)]
        · rw [if_neg (by rw [i_0, iI_le (by omega) (by omega) (by omega) (by omega)]; omega), if_neg (by rw [i_0, iI_le (by omega) (by omega) (by omega) (by omega)]; omega)]
          refine ⟨_, _, rfl, (F8.tr a1).tr (Fr.us (Or.inr (Or.inr rfl))), Or.inr ⟨rfl, q, t', k', b1, by simp (disch := omega) only [us_ne, b2], ?_, b3.kept (congrFun (us_ne (by omega)) 0), b4, by omega, ?_, b6⟩⟩
          · rw [us_same, a2, H8, i_1, iI_add]
          · rw [b5]
            unfold xS
            rw [if_neg (fun z => q2 (by rw [z]; rfl))]
    by_cases q2 : hz l k = 45
    · have hkl : k < l.length := by
        unfold hz at q2
        split at q2
        · assumption
        · omega
      have q2b : bt l k = 45 := by unfold hz at q2; rw [if_pos hkl] at q2; omega
      have hp : pT (l.drop k) k 1 ts (-1, []) 0 = pT (l.drop (k + 1)) (k + 1) 2 ts (-1, []) 0 := by
        rw [bt_drop hkl, pT]
        have : stT (bt l k) 1 ts (-1, []) 0 = some (2, ts, (-1, []), 0) := by unfold stT; rw [if_pos rfl, if_pos q, if_pos q2b]
        rw [this]
      rw [if_pos (show iI (hz l k) = (45 : Int32) by rw [q2]; rfl), K0, show iI (k : Int) + (1 : Int32) = iI ((k + 1 : Nat) : Int) by rw [i_1, iI_add]; rfl]
      have F1 : Fr PQ S (us S5 114 0 0 (iI ((k + 1 : Nat) : Int))) := F0.tr (Fr.us (Or.inr (Or.inl rfl)))
      rw [m_figure (h.fr F1 (by unfold PQ; omega)) us_same (by omega), bn2_s]
      cases hc : fz l (k + 1) with
      | none =>
        simp only []
        rw [us_same, if_pos (by rfl)]
        refine ⟨_, _, rfl, F1.tr (Fr.us (Or.inl rfl)), Or.inl ⟨rfl, k + 1, by omega, by simp (disch := omega) only [us_ne, us_same], ?_⟩⟩
        rw [hp]
        by_cases q3 : k + 1 < l.length
        · rw [bt_drop q3, pT]
          have : stT (bt l (k + 1)) 2 ts (-1, []) 0 = none := by
            unfold stT
            unfold fz at hc
            rw [if_pos q3] at hc
            rw [if_neg (by omega), if_pos rfl, hc]; rfl
          rw [this]
        · rw [List.drop_eq_nil_of_le (by omega), pT, if_neg (by omega)]
      | some c =>
        have hkl2 : k + 1 < l.length := by
          unfold fz at hc
          split at hc
          · assumption
          · cases hc
        have hcf : fig (bt l (k + 1)) = some c := by unfold fz at hc; rw [if_pos hkl2] at hc; exact hc
        have hc8 := fig_lt hcf
        simp only []
        rw [us_same, show oI (some c) = (c : Int) from rfl, if_neg (by rw [i_m1, iI_eq (by omega) (by omega) (by omega) (by omega)]; omega)]
        obtain ⟨i1, i2, i3, i4⟩ := T0.init
        refine rest _ ((c : Int), []) (k + 1 + 1) ((F1.tr (Fr.us (Or.inr (Or.inl rfl)))).tr (Fr.us (Or.inl rfl))) (by simp (disch := omega) only [us_ne, us_same]) (by omega) (by simp (disch := omega) only [us_ne, H0]) (TMd.last i1 hO (by intro i hi; simp (disch := omega) only [us_ne, us_nb]) (by rw [us_same]) (by simp (disch := omega) only [us_ne, us_nb, i3]) (fun j hj => absurd hj (by simp))) rfl ⟨by simp only; omega, by simp only; omega, by simp, fun q hq => absurd hq (by simp)⟩ ?_
        rw [hp, bt_drop hkl2, pT]
        have : stT (bt l (k + 1)) 2 ts (-1, []) 0 = some (3, ts, ((c : Int), []), 0) := by
          unfold stT
          rw [if_neg (by omega), if_pos rfl, hcf]; rfl
        rw [this]
    · rw [if_neg (show ¬ (iI (hz l k) = (45 : Int32)) by rw [i_45, iI_eq (by omega) (by omega) (by omega) (by omega)]; omega)]
      refine rest S5 (-1, []) k F0 K0 hk2 H0 T0 rfl tB_new ?_
      by_cases q3 : k < l.length
      · rw [bt_drop q3, pT, pT]
        have q4 : ¬ (bt l k = 45) := fun z => q2 (by unfold hz; rw [if_pos q3, z]; rfl)
        have : stT (bt l k) 1 ts (-1, []) 0 = stT (bt l k) 3 ts (-1, []) 0 := by
          unfold stT
          rw [if_pos rfl, if_pos q, if_neg q4, if_neg (by omega), if_neg (by omega), if_pos rfl]
        rw [this]
      · rw [List.drop_eq_nil_of_le (by omega), pT, pT, if_neg (by omega), if_neg (by omega)]
