/-! the reference reads all turns -/
theorem TMd.fr {S S' : sT} {ts : List tT} {P : Nat → Nat → Prop} (h : TMd S ts) (hF : Fr P S S') (hP : ¬ P 41 0) : TMd S' ts := h.kept (hF.1 _ _ hP)
theorem m_readsTurns_l {l : List Nat} (j7 : sT → Option (Int32 × sT)) : ∀ (d m : Nat) (S : sT) (ts : List tT) (k : Nat), OkT ts → MT S 1 l → S.1 114 0 0 = iI k → k ≤ l.length → S.1 116 0 0 = iI ts.length → TMd S ts → ts.length + d = 12 → d + 1 < m → ∃ S', Fr PQ S S' ∧ ((∃ k' : Nat, k' ≤ l.length ∧ S'.1 114 0 0 = iI k' ∧ pT (l.drop k) k 1 ts (-1, []) 0 = ((k' : Int), []) ∧ l_X11_readsTurns_25 j7 m (1 : Int32) S = j7 S') ∨ (∃ ts', pT (l.drop k) k 1 ts (-1, []) 0 = (-1, ts') ∧ TM S' ts' ∧ l_X11_readsTurns_25 j7 m (1 : Int32) S = some ((-1 : Int32), S'))) := by
  obtain ⟨v20, v21, v80⟩ := v2
  obtain ⟨cl0, cl1⟩ := cl01
  intro d
  induction d with
  | zero =>
    intro m S ts k hO h hk hk2 h6 hT hd hm
    obtain ⟨m, rfl⟩ : ∃ m', m = m' + 1 := ⟨m - 1, by omega⟩
    obtain ⟨r, S1, e1, e2, e3⟩ := m_readsTurn hO h hk hk2 h6 hT
    rcases e3 with ⟨b1, k', b2, b3, b4⟩ | ⟨b1, b2, -⟩
    · refine ⟨S1, e2, Or.inl ⟨k', b2, b3, b4, ?_⟩⟩
      rw [l_X11_readsTurns_25_s]
      unfold b_X11_readsTurns_25
      rw [if_neg z10, e1, b1]
      simp only [ck_t, lt_b, bn_s, bn2_s, jn_b, nl_N, nl_S, if_pos]
    · omega
  | succ d ih =>
    intro m S ts k hO h hk hk2 h6 hT hd hm
    obtain ⟨m, rfl⟩ : ∃ m', m = m' + 1 := ⟨m - 1, by omega⟩
    have h63 := h.2.1
    obtain ⟨r, S1, e1, e2, e3⟩ := m_readsTurn hO h hk hk2 h6 hT
    rw [l_X11_readsTurns_25_s]
    unfold b_X11_readsTurns_25
    rw [if_neg z10, e1]
    have h' := h.fr e2 (by unfold PQ; omega)
    rcases e3 with ⟨b1, k', b2, b3, b4⟩ | ⟨b1, b2, t', k', b3, b4, b5, b6, b7, b8, b9, b10⟩
    · refine ⟨S1, e2, Or.inl ⟨k', b2, b3, b4, ?_⟩⟩
      rw [b1]
      simp only [ck_t, lt_b, bn_s, bn2_s, jn_b, nl_N, nl_S, if_pos]
    · rw [b1, b9]
      have hO' := hO.app b2 b7 b8
      have hb := hz_b h' k'
      simp only [ck_t, lt_b, bn_s, bn2_s, jn_b, nl_N, nl_S, v21, cl1]
      rw [if_neg z10, if_neg z10, h'.1, b4]
      by_cases q : k' < l.length
      · rw [if_neg (show ¬ (iI (l.length : Int) ≤ iI (k' : Int)) by rw [iI_le (by omega) (by omega) (by omega) (by omega)]; omega), if_neg z10, m_here h' b4 b3, bn_s]
        rw [bt_drop q, pT]
        have eh : hz l k' = bt l k' := by unfold hz; rw [if_pos q]
        rw [eh] at hb ⊢
        by_cases q2 : bt l k' = 59
        · rw [if_pos (show iI (bt l k' : Int) = (59 : Int32) by rw [q2]; rfl), if_neg z10]
          have : stT (bt l k') 5 ts t' 0 = some (1, ts ++ [t'], (-1, []), 0) := by
            unfold stT
            rw [if_neg (show ¬ ((5 : Nat) = 1) by omega), if_neg (show ¬ ((5 : Nat) = 2) by omega), if_neg (show ¬ ((5 : Nat) = 3) by omega), if_neg (show ¬ ((5 : Nat) = 4) by omega), if_pos q2]
          rw [this]
          have F : Fr PQ S1 (us S1 114 0 0 (iI (k' : Int) + (1 : Int32))) := Fr.us (Or.inr (Or.inl rfl))
          obtain ⟨S', a1, a2⟩ := ih m _ (ts ++ [t']) (k' + 1) hO' (h'.fr F (by unfold PQ; omega)) (by rw [us_same, i_1, iI_add]; rfl) (by omega) (by rw [us_ne (by omega), b5, List.length_append, List.length_singleton]; rfl) (b6.kept (congrFun (us_ne (by omega)) 0)) (by rw [List.length_append, List.length_singleton]; omega) (by omega)
          exact ⟨S', (e2.tr F).tr a1, a2⟩
        · rw [if_neg (show ¬ (iI (bt l k' : Int) = (59 : Int32)) by rw [i_59, iI_eq (by omega) (by omega) (by omega) (by omega)]; omega)]
          have : stT (bt l k') 5 ts t' 0 = none := by
            unfold stT
            rw [if_neg (show ¬ ((5 : Nat) = 1) by omega), if_neg (show ¬ ((5 : Nat) = 2) by omega), if_neg (show ¬ ((5 : Nat) = 3) by omega), if_neg (show ¬ ((5 : Nat) = 4) by omega), if_neg q2]
            by_cases q3 : t'.2.length < 3
            · have := b10 q3
              unfold lz at this
              rw [if_pos q] at this
              rw [if_pos q3, this]; rfl
            · rw [if_neg q3]
          rw [this]
          exact ⟨S1, e2, Or.inl ⟨k', b3, b4, rfl, rfl⟩⟩
      · rw [if_pos (show (iI (l.length : Int) ≤ iI (k' : Int)) by rw [iI_le (by omega) (by omega) (by omega) (by omega)]; omega), if_pos trivial]
        rw [List.drop_eq_nil_of_le (by omega), pT, if_pos rfl]
        obtain ⟨m, rfl⟩ : ∃ m', m = m' + 1 := ⟨m - 1, by omega⟩
        refine ⟨us S1 114 0 0 (iI (k' : Int) + (0 : Int32)), e2.tr (Fr.us (Or.inr (Or.inl rfl))), Or.inr ⟨ts ++ [t'], rfl, ⟨by rw [us_ne (by omega), b5, List.length_append, List.length_singleton]; rfl, b6.kept (congrFun (us_ne (by omega)) 0)⟩, ?_⟩⟩
        simp only [if_pos]
        rw [l_X11_readsTurns_25_s]
        unfold b_X11_readsTurns_25
        rw [if_pos rfl]
theorem TM_nil {S : sT} (h : S.1 116 0 0 = iI 0) : TM S [] := ⟨h, fun k hk => absurd hk (by simp)⟩
theorem m_readsTurns {S : sT} {l : List Nat} (h : MT S 1 l) : ∃ S', f_X11_readsTurns S = some (iI (parseT l).1, S') ∧ TM S' (parseT l).2 ∧ Fr PQ S S' := by
  obtain ⟨v20, v21, v80⟩ := v2
  obtain ⟨cl0, cl1⟩ := cl01
  have h63 := h.2.1
  have F0 : Fr PQ S (us (us S 114 0 0 (0 : Int32)) 116 0 0 (0 : Int32)) := (Fr.us (Or.inr (Or.inl rfl))).tr (Fr.us (Or.inr (Or.inr rfl)))
  have h0 := h.fr F0 (by unfold PQ; omega)
  have hF : 1000 < FU := by unfold FU; omega
  revert hF
  unfold f_X11_readsTurns
  generalize FU = N
  intro hF
  simp -implicitDefEqProofs only [ck_t, lt_b, bn_s, bn2_s, jn_b, nl_N, nl_S, v21, cl1]
  rw [h0.1]
  by_cases q : l.length = 0
  · have hl : l = [] := List.eq_nil_of_length_eq_zero q
    have hp : parseT l = (-1, []) := by unfold parseT; rw [if_pos hl]
    rw [if_pos (by rw [q]; decide), hp]
    obtain ⟨N, rfl⟩ : ∃ m', N = m' + 1 := ⟨N - 1, by omega⟩
    refine ⟨_, ?_, TM_nil (by rw [us_same]; rfl), F0⟩
    rw [l_X11_readsTurns_25_s]
    unfold b_X11_readsTurns_25
    rw [if_pos rfl]
    rfl
  · have hp : parseT l = pT l 0 1 [] (-1, []) 0 := by unfold parseT; rw [if_neg (fun z => q (by rw [z]; rfl))]
    rw [if_neg (by rw [i_0, iI_le (by omega) (by omega) (by omega) (by omega)]; omega), hp]
    obtain ⟨S', a1, a2⟩ := m_readsTurns_l (fun S5 => some (((us S5 116 0 0 (0 : Int32)).1 114 0 0), us S5 116 0 0 (0 : Int32))) 12 N _ [] 0 OkT_nil h0 (by rw [us_ne (by omega), us_same]; rfl) (by omega) us_same (fun k hk => absurd hk (by simp)) (by simp) (by omega)
    rw [List.drop_zero] at a2
    rcases a2 with ⟨k', b1, b2, b3, b4⟩ | ⟨ts', b1, b2, b3⟩
    · rw [b3]
      refine ⟨us S' 116 0 0 (0 : Int32), ?_, TM_nil us_same, (F0.tr a1).tr (Fr.us (Or.inr (Or.inr rfl)))⟩
      refine b4.trans ?_
      rw [us_ne (by omega), b2]
    · rw [b1]
      exact ⟨S', b3, b2, F0.tr a1⟩
def PR : Nat → Nat → Prop := fun k i => PB k i ∨ PQ k i
theorem PB.pr {S S' : sT} (h : Fr PB S S') : Fr PR S S' := h.mono (fun _ _ q => Or.inl q)
theorem PQ.pr {S S' : sT} (h : Fr PQ S S') : Fr PR S S' := h.mono (fun _ _ q => Or.inr q)
theorem RB.frP {S S' : sT} {n : Nat} {f : Nat → List Nat} {P : Nat → Nat → Prop} (h : RB S n f) (hF : Fr P S S') (hP : ¬ P 115 0 ∧ ¬ P 40 0 ∧ ¬ P 39 0) : RB S' n f := by
  unfold RB
  rw [hF.1 _ _ hP.1, hF.1 _ _ hP.2.1, hF.1 _ _ hP.2.2]
  exact h
/-- the reference has read both texts -/
theorem m_reads {S : sT} {l1 l2 : List Nat} (h1 : MT S 0 l1) (h2 : MT S 1 l2) : ∃ S', f_X11_reads S = some S' ∧ RB S' (parseW l1).2.1 (parseW l1).2.2 ∧ TM S' (parseT l2).2 ∧ Fr PR S S' := by
  obtain ⟨S1, a1, a2, a3⟩ := m_readsWall h1
  obtain ⟨S2, b1, b2, b3⟩ := m_readsTurns (h2.fr a3 (by unfold PB; omega))
  refine ⟨S2, ?_, a2.frP b3 (by unfold PQ; omega), b2, (PB.pr a3).tr (PQ.pr b3)⟩
  unfold f_X11_reads
  rw [a1, bn2_s, b1, bn2_s]
