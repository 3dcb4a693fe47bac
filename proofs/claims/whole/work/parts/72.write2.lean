/-! heights written to a sheet: the command -/
theorem T_26 : St_26 Inv := by
  intro S hI v1 v2
  obtain ⟨z, z1, z2, rfl⟩ := iI_ex v1
  obtain ⟨y, y1, y2, rfl⟩ := iI_ex v2
  have z10' : ¬ (iI 1 = (0 : Int32)) := z10
  have z00 : iI 0 = (0 : Int32) := rfl
  obtain ⟨L, st, sg, h1, h2, h3, h4, h5⟩ := id hI
  have hO := parseT_ok (L 1)
  have h12 : (tW L).length ≤ 12 := hO.1
  obtain ⟨S0', e0, hB0, hT0, F0⟩ := m_reads (h2.1 0 (by omega)) (h2.1 1 (by omega))
  have hn : nW L ≤ 8 := hB0.1
  have hI0 : Inv S0' := hI.fr F0 PR_lo
  unfold f_X10_write f_X11_write
  by_cases q : 0 ≤ z ∧ z ≤ (tW L).length
  · obtain ⟨N, rfl⟩ : ∃ N : Nat, z = N := ⟨z.toNat, by omega⟩
    rw [p_wallBehind h1 (by omega), bn_s, nl_S, decide_eq_true (show N < 16 by omega), ck_t, p_isSheet S y1 y2, bn_s]
    have hW := wallN h1 (N := N) (by omega)
    by_cases q2 : 0 ≤ y ∧ y ≤ 3
    · obtain ⟨t, rfl⟩ : ∃ t : Nat, y = t := ⟨y.toNat, by omega⟩
      have hvi : vi (iI (t : Int)) 4 = true := vi_iI (by omega) (by omega) (by omega)
      have hcl : cl (iI (t : Int)) = t := by rw [cl_iI (by omega) (by omega)]; rfl
      rw [b2i_p q2, if_neg z10']
      rcases h4 t (by omega) with ⟨a1, a2⟩ | ⟨fm, sz, a1, a2, a3, a4, a5, a6, a7⟩
      · rw [p_isLost (by omega) a1 (by omega) (by omega), bn_s, if_pos rfl, if_neg z10']
        have hI2 := hI.find (1 : Int32)
        have F : Fr KF S (us S 111 0 0 (1 : Int32)) := Fr.us (by unfold KF; omega)
        have g2 := h2.fr F (fun k i z => by unfold KM at z; unfold KF; omega)
        obtain ⟨S2, e2, hB2, hT2, F2⟩ := m_reads (g2.1 0 (by omega)) (g2.1 1 (by omega))
        have FA : Fr (fun k i => KF k i ∨ PR k i) S (us S2 113 0 0 (1 : Int32)) := ((F.mono (fun k i z => Or.inl z)).tr (F2.mono (fun k i z => Or.inr z))).tr (Fr.us (Or.inl (by unfold KF; omega)))
        refine ⟨_, us S 111 0 0 (1 : Int32), us S2 113 0 0 (1 : Int32), rfl, ?_, L, st, sg, h1.fr FA (fun k i z => by unfold KC at z; unfold KF PR PB PQ; omega), h2.fr FA (fun k i z => by unfold KM at z; unfold KF PR PB PQ; omega), h3.fr FA (fun k i z => by unfold KG at z; unfold KF PR PB PQ; omega), h4.fr FA (fun k i z => by unfold KH at z; unfold KF PR PB PQ; omega), ?_⟩
        · rw [e2, bn_s, m_areTurns hT2 hO z1 z2, bn_s, b2i_p q, if_neg z10', m_isSheet _ y1 y2, bn_s, b2i_p q2, if_neg z10', hvi, ck_t, hcl, F2.1 33 0 (by unfold PR PB PQ; omega), us_ne (by omega), a2, if_neg (by decide)]
          rfl
        · rw [us_same, us_ne (by omega), F2.1 111 0 (by unfold PR PB PQ; omega), us_same]
      · rw [p_isLost (by omega) a5 (by omega) (by omega), bn_s, if_neg (show ¬ ((sz : Int) = -1) by omega), if_pos z00, p_sizeOf5 (by omega) a5 a2, bn_s]
        have eC : f_X9_columnCount N S = some (iI (nW L)) := by unfold f_X9_columnCount; rw [hW.2.1]
        rw [eC, bn_s, lt_b]
        obtain ⟨x, hx, hx1, hx2⟩ : ∃ x : Nat, x = (if nW L < sz then nW L else sz) ∧ x ≤ nW L ∧ x ≤ sz := ⟨_, rfl, by split <;> omega, by split <;> omega⟩
        have ex : (if iI (nW L : Int) < iI (sz : Int) then iI (nW L : Int) else iI (sz : Int)) = iI (x : Int) := by
          by_cases c : nW L < sz
          · rw [if_pos (by rw [iI_lt (by omega) (by omega) (by omega) (by omega)]; omega), hx, if_pos c]
          · rw [if_neg (by rw [iI_lt (by omega) (by omega) (by omega) (by omega)]; omega), hx, if_neg c]
        have ey : ∀ S' : sT, f_X11_lesser (iI (sz : Int)) (iI (nW L : Int)) S' = some (iI (x : Int)) := by
          intro S'
          unfold f_X11_lesser
          by_cases c : nW L ≤ sz
          · rw [if_pos (by rw [iI_le (by omega) (by omega) (by omega) (by omega)]; omega), hx]
            by_cases c2 : nW L < sz
            · rw [if_pos c2]
            · rw [if_neg c2, show sz = nW L by omega]
          · rw [if_neg (by rw [iI_le (by omega) (by omega) (by omega) (by omega)]; omega), hx, if_neg (by omega)]
        rw [ex]
        have hF : 1000 < FU := by unfold FU; omega
        revert hF
        generalize FU = M
        intro hF
        obtain ⟨S1, b1, b2, b3⟩ := p_write_l (t := t) (fm := fm) (by omega) a2 hx1 hx2 x 0 M S hW a3 a5 (by omega) (by omega)
        have g2 := h2.fr b2 (fun k i z => by unfold KM at z; omega)
        obtain ⟨S2, e2, hB2, hT2, F2⟩ := m_reads (g2.1 0 (by omega)) (g2.1 1 (by omega))
        have g3 := g2.fr F2 (fun k i z => PR_lo k i (Or.inr (Or.inl z)))
        obtain ⟨S3, e3, hW3, F3, -⟩ := m_lives hO (show N ≤ (tW L).length by omega) hT2 g3.2.1 hB2 (Or.inl ⟨g3.2.2, rfl⟩)
        have k33 : S3.1 33 0 = S.1 33 0 := by rw [F3.1 _ _ (by unfold PM; omega), F2.1 _ _ (by unfold PR PB PQ; omega), b2.1 _ _ (by omega)]
        have k34 : S3.1 34 0 = S.1 34 0 := by rw [F3.1 _ _ (by unfold PM; omega), F2.1 _ _ (by unfold PR PB PQ; omega), b2.1 _ _ (by omega)]
        have k35 : S3.1 35 0 = S.1 35 0 := by rw [F3.1 _ _ (by unfold PM; omega), F2.1 _ _ (by unfold PR PB PQ; omega), b2.1 _ _ (by omega)]
        obtain ⟨S4, c1, c2, c3⟩ := m_write_l (t := t) (fm := fm) (by omega) hx1 x 0 M S3 hW3 (by rw [k33]; exact a4) (by omega) (by omega)
        have FA : Fr (fun k i => (k = 26 ∧ i = t) ∨ PR k i ∨ PM k i ∨ (k = 35 ∧ i = 0)) S S4 := (((b2.mono (fun k i z => Or.inl z)).tr (F2.mono (fun k i z => Or.inr (Or.inl z)))).tr (F3.mono (fun k i z => Or.inr (Or.inr (Or.inl z))))).tr (c2.mono (fun k i z => Or.inr (Or.inr (Or.inr z))))
        have kk : ∀ k i, ¬ ((k = 26 ∧ i = t) ∨ PR k i ∨ PM k i ∨ (k = 35 ∧ i = 0)) → S4.1 k i = S.1 k i := FA.1
        have k26 : S4.1 26 t = S1.1 26 t := by rw [c2.1 _ _ (by omega), F3.1 _ _ (by unfold PM; omega), F2.1 _ _ (by unfold PR PB PQ; omega)]
        have zz : iI ((0 : Nat) : Int) = (0 : Int32) := rfl
        rw [zz] at b1 c1
        refine ⟨iI x, S1, S4, b1, ?_, L, st, sg, h1.fr FA (fun k i z => by unfold KC at z; unfold PM PR PB PQ; omega), h2.fr FA (fun k i z => by unfold KM at z; unfold PM PR PB PQ; omega), h3.fr FA (fun k i z => by unfold KG at z; unfold PM PR PB PQ; omega), SH.upd (t := t) h4 ?_ ?_ ?_ ?_ ?_ ?_ (Or.inr ⟨fm, sz, a1, a2, ?_, ?_, ?_, ?_, ?_⟩), ?_⟩
        · rw [e2, bn_s, m_areTurns hT2 hO z1 z2, bn_s, b2i_p q, if_neg z10', m_isSheet _ y1 y2, bn_s, b2i_p q2, if_neg z10', hvi, ck_t, hcl, F2.1 33 0 (by unfold PR PB PQ; omega), b2.1 33 0 (by omega), a4, if_pos (by rw [i_0, iI_le (by omega) (by omega) (by omega) (by omega)]; omega), e3, bn_s, ck_t, k34, a6, hW3.2.1, ey, bn_s]
          exact c1
        · intro t' e; rw [kk _ _ (by unfold PM PR PB PQ; omega)]
        · intro t' e; rw [kk _ _ (by unfold PM PR PB PQ; omega)]
        · intro t' e; rw [kk _ _ (by unfold PM PR PB PQ; omega)]
        · intro t' e; rw [kk _ _ (by unfold PM PR PB PQ; omega)]
        · intro t' e; rw [kk _ _ (by unfold PM PR PB PQ; omega)]
        · intro t' j e hj; rw [c3, if_neg (by omega), k35]
        · rw [kk _ _ (by unfold PM PR PB PQ; omega)]; exact a3
        · rw [kk _ _ (by unfold PM PR PB PQ; omega)]; exact a4
        · rw [kk _ _ (by unfold PM PR PB PQ; omega)]; exact a5
        · rw [kk _ _ (by unfold PM PR PB PQ; omega)]; exact a6
        · intro j hj
          rw [k26, b3, c3, k35]
          by_cases c : j < x
          · rw [if_pos (by omega), if_pos (by omega), show 60 * t + j - 60 * t = j by omega]
          · rw [if_neg (by omega), if_neg (by omega)]
            exact a7 j hj
        · rw [kk _ _ (by unfold PM PR PB PQ; omega), kk _ _ (by unfold PM PR PB PQ; omega)]; exact h5
    · rw [b2i_n q2, if_pos z00]
      refine ⟨_, S, S0', rfl, ?_, hI0⟩
      rw [e0, bn_s, m_areTurns hT0 hO z1 z2, bn_s, b2i_p q, if_neg z10', m_isSheet _ y1 y2, bn_s, b2i_n q2, if_pos z00]
  · rw [p_wallBehind_out h1 z1 z2 q]
    refine ⟨_, S, S0', rfl, ?_, hI0⟩
    rw [e0, bn_s, m_areTurns hT0 hO z1 z2, bn_s, b2i_n q, if_pos z00]
