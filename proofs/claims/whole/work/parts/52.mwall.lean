/-! the reference reads the wall -/
/-- the reference's text t holds l -/
def MT (S : sT) (t : Nat) (l : List Nat) : Prop := S.1 38 0 t = iI l.length ∧ l.length ≤ 63 ∧ ∀ j, j < l.length → S.1 37 0 (64 * t + j) = iI (bt l j) ∧ bt l j < 256
def PB : Nat → Nat → Prop := fun k _ => k = 115 ∨ k = 40 ∨ k = 39
theorem MT.fr {S S' : sT} {t : Nat} {l : List Nat} {P : Nat → Nat → Prop} (h : MT S t l) (hF : Fr P S S') (hP : ¬ P 38 0 ∧ ¬ P 37 0) : MT S' t l := by
  unfold MT
  rw [hF.1 _ _ hP.1, hF.1 _ _ hP.2]
  exact h
theorem v2 : vi (0 : Int32) 2 = true ∧ vi (1 : Int32) 2 = true ∧ vi (0 : Int32) 8 = true := by decide
theorem cl01 : cl (0 : Int32) = 0 ∧ cl (1 : Int32) = 1 := by decide
theorem RB.upd {S S' : sT} {n c : Nat} {f : Nat → List Nat} {l : List Nat} (h : RB S n f) (hc : c < n) (hl : Col l) (h115 : S'.1 115 0 = S.1 115 0) (h40 : S'.1 40 0 = upd (S.1 40 0) c (iI l.length)) (h39 : ∀ c' i, c' ≠ c → i < 8 → S'.1 39 0 (8 * c' + i) = S.1 39 0 (8 * c' + i)) (h39c : ∀ i, i < l.length → S'.1 39 0 (8 * c + i) = iI (nth l i)) : RB S' n (upf f c l) := by
  obtain ⟨hn, hw, hf⟩ := h
  refine ⟨hn, by rw [h115]; exact hw, fun c' hc' => ?_⟩
  by_cases e : c' = c
  · subst e
    rw [upf_s, h40]
    exact ⟨hl, fun q => absurd q (by omega), fun _ => pk_us, h39c⟩
  · obtain ⟨a1, a2, a3, a4⟩ := hf c' hc'
    rw [upf_n e, h40, pk_un e]
    exact ⟨a1, a2, a3, fun i hi => by rw [h39 c' i e (by have := a1.1; omega)]; exact a4 i hi⟩
theorem m_readsWall_l {l : List Nat} (j9 : Int32 → sT → Option (Int32 × sT)) : ∀ (d k m : Nat) (S : sT) (n : Nat) (f : Nat → List Nat), MT S 0 l → RB S n f → (k < l.length → 1 ≤ n) → k + d = l.length → d < m → ∃ S', Fr PB S S' ∧ (((pWl (l.drop k) k (n, f)).1 = -1 ∧ l_X11_readsWall_27 j9 m (iI k) S = some (iI (-1), S') ∧ RB S' (pWl (l.drop k) k (n, f)).2.1 (pWl (l.drop k) k (n, f)).2.2) ∨ ((pWl (l.drop k) k (n, f)).1 ≠ -1 ∧ (pWl (l.drop k) k (n, f)).2 = w0W ∧ l_X11_readsWall_27 j9 m (iI k) S = j9 (iI (pWl (l.drop k) k (n, f)).1) S')) := by
  obtain ⟨v20, v21, v80⟩ := v2
  obtain ⟨cl0, cl1⟩ := cl01
  intro d
  induction d with
  | zero =>
    intro k m S n f h hW hn1 hk hm
    obtain ⟨m, rfl⟩ : ∃ m', m = m' + 1 := ⟨m - 1, by omega⟩
    have h63 := h.2.1
    rw [List.drop_eq_nil_of_le (by omega)]
    refine ⟨S, Fr.rf, Or.inl ⟨rfl, ?_, hW⟩⟩
    rw [l_X11_readsWall_27_s]
    unfold b_X11_readsWall_27
    simp (disch := omega) only [ck_t, lt_b, bn_s, bn2_s, jn_b, nl_N, nl_S, v20, cl0, h.1, i_m1, iI_le, if_pos]
  | succ d ih =>
    intro k m S n f h hW hn1 hk hm
    obtain ⟨m, rfl⟩ : ∃ m', m = m' + 1 := ⟨m - 1, by omega⟩
    have h63 := h.2.1
    obtain ⟨hb1, hb⟩ := h.2.2 k (by omega)
    have hb1 : S.1 37 0 k = iI (bt l k) := by rw [← hb1]; simp
    have hn := hW.1
    have hn2 := hn1 (by omega)
    have hst : ∀ S, f_X11_stoneOf (iI (bt l k)) S = some (iI (oI (ltr (bt l k)))) := fun S => by
      have := m_stoneOf (b := (bt l k : Int)) (Or.inr ⟨by omega, by omega⟩) S
      rw [if_neg (by omega), Int.toNat_natCast] at this
      exact this
    rw [bt_drop (by omega)]
    rw [l_X11_readsWall_27_s]
    unfold b_X11_readsWall_27
    have hi1 : iI (k : Int) + (1 : Int32) = iI ((k + 1 : Nat) : Int) := by rw [i_1, iI_add]; rfl
    have hvi : vi (iI (k : Int)) 128 = true := vi_iI (by omega) (by omega) (by omega)
    have hcl : cl (iI (k : Int)) = k := by rw [cl_iI (by omega) (by omega), Int.toNat_natCast]
    simp only [v20, cl0, h.1, hvi, hcl, hb1, ck_t]
    rw [if_neg (by rw [iI_le (by omega) (by omega) (by omega) (by omega)]; omega)]
    simp only [ck_t, lt_b, bn_s, bn2_s, jn_b, nl_N, nl_S, hst, hW.2.1, hi1]
    have e59 : (iI (bt l k : Int) = (59 : Int32)) ↔ bt l k = 59 := by
      rw [i_59, iI_eq (by omega) (by omega) (by omega) (by omega)]; omega
    have e8 : ((8 : Int32) ≤ iI (n : Int)) ↔ 8 ≤ n := by
      rw [i_8, iI_le (by omega) (by omega) (by omega) (by omega)]; omega
    have hp0 : growW (n, f) (bt l k) = none → pWl (bt l k :: l.drop (k + 1)) k (n, f) = ((k : Int), w0W) := fun g => by rw [pWl, g]
    have hp1 : ∀ w', growW (n, f) (bt l k) = some w' → pWl (bt l k :: l.drop (k + 1)) k (n, f) = pWl (l.drop (k + 1)) (k + 1) w' := fun w' g => by rw [pWl, g]
    by_cases q : bt l k = 59
    · rw [if_pos (e59.mpr q)]
      by_cases q2 : n < 8
      · rw [if_neg (fun z => absurd (e8.mp z) (by omega)), if_neg z10, if_neg z10]
        rw [hp1 (n + 1, f) (by unfold growW; rw [if_pos q, if_pos q2])]
        have hr : RB (us (us S 40 0 n (0 : Int32)) 115 0 0 (iI ((n : Int) + 1))) (n + 1) f := by
          refine ⟨by omega, us_same, fun c hc => ?_⟩
          obtain ⟨a1, a2, a3, a4⟩ := hW.2.2 c hc
          refine ⟨a1, fun z => a2 (by omega), fun z => ?_, fun i hi => ?_⟩
          · rw [us_ne (by omega)]
            by_cases q3 : c = n
            · subst q3; rw [us_same, a2 (by omega)]; rfl
            · rw [us_nb q3]; exact a3 (by omega)
          · simp (disch := omega) only [us_ne]; exact a4 i hi
        have F : Fr PB S (us (us S 40 0 n (0 : Int32)) 115 0 0 (iI ((n : Int) + 1))) := (Fr.us (Or.inr (Or.inl rfl))).tr (Fr.us (Or.inl rfl))
        obtain ⟨S', a1, a2⟩ := ih (k + 1) m _ (n + 1) f (h.fr F (by unfold PB; omega)) hr (by omega) (by omega) (by omega)
        refine ⟨S', F.tr a1, ?_⟩
        have hvn : vi (iI (n : Int)) 8 = true := vi_iI (by omega) (by omega) (by omega)
        have hcn : cl (iI (n : Int)) = n := by rw [cl_iI (by omega) (by omega), Int.toNat_natCast]
        have hun : (us S 40 0 n (0 : Int32)).1 115 0 0 + (1 : Int32) = iI ((n : Int) + 1) := by rw [us_ne (by omega), hW.2.1, i_1, iI_add]
        rw [hvn, ck_t, hcn, hun]
        exact a2
      · rw [if_pos (e8.mpr (by omega))]
        have el : ltr (bt l k) = none := by rw [q]; rfl
        rw [hp0 (by unfold growW; rw [if_pos q, if_neg q2]), el]
        refine ⟨S, Fr.rf, Or.inr ⟨by simp only; omega, rfl, ?_⟩⟩
        rw [if_pos trivial, if_pos (by rfl)]
    · rw [if_neg (fun z => q (e59.mp z)), if_pos trivial]
      cases hs : ltr (bt l k) with
      | none =>
        rw [hp0 (by unfold growW; rw [if_neg q, hs]), if_pos (by rfl)]
        exact ⟨S, Fr.rf, Or.inr ⟨by simp only; omega, rfl, rfl⟩⟩
      | some x =>
        have hx := ltr_lt hs
        obtain ⟨a1, a2, a3, a4⟩ := hW.2.2 (n - 1) (by omega)
        have a3 := a3 (by omega)
        have a5 := a1.1
        have hcm : iI (n : Int) - (1 : Int32) = iI ((n - 1 : Nat) : Int) := by rw [i_1, iI_sub]; congr 1; omega
        have hvn : vi (iI ((n - 1 : Nat) : Int)) 8 = true := vi_iI (by omega) (by omega) (by omega)
        have hcn : cl (iI ((n - 1 : Nat) : Int)) = n - 1 := by rw [cl_iI (by omega) (by omega), Int.toNat_natCast]
        rw [show oI (some x) = (x : Int) from rfl]
        have cx : ¬ (iI (x : Int) = (-1 : Int32)) := by rw [i_m1, iI_eq (by omega) (by omega) (by omega) (by omega)]; omega
        have c8 : (iI ((f (n - 1)).length : Int) = (8 : Int32)) ↔ (f (n - 1)).length = 8 := by rw [i_8, iI_eq (by omega) (by omega) (by omega) (by omega)]; omega
        rw [if_neg cx, hcm, hvn, ck_t, hcn, a3]
        by_cases q3 : (f (n - 1)).length < 8
        · rw [if_neg (fun z => absurd (c8.mp z) (by omega)), if_pos trivial]
          rw [hp1 (n, upf f (n - 1) (f (n - 1) ++ [x])) (by unfold growW; rw [if_neg q, hs]; simp only; rw [if_pos q3])]
          have hr : RB (us (us S 39 0 (8 * (n - 1) + (f (n - 1)).length) (iI x)) 40 0 (n - 1) (iI (((f (n - 1)).length : Int) + 1))) n (upf f (n - 1) (f (n - 1) ++ [x])) := by
            refine hW.upd (by omega) (a1.app hx q3) ?_ ?_ ?_ ?_
            · simp (disch := omega) only [us_ne]
            · simp (disch := omega) only [us_ne, us_arr, List.length_append, List.length_singleton]
              rfl
            · intro c' i hc' hi
              simp (disch := omega) only [us_ne, us_nb]
            · intro i hi
              simp at hi
              by_cases e : i = (f (n - 1)).length
              · subst e
                simp (disch := omega) only [us_ne, us_same, nth_app_r]
              · simp (disch := omega) only [us_ne, us_nb, nth_app_l]
                exact a4 i (by omega)
          have F : Fr PB S (us (us S 39 0 (8 * (n - 1) + (f (n - 1)).length) (iI x)) 40 0 (n - 1) (iI (((f (n - 1)).length : Int) + 1))) := (Fr.us (Or.inr (Or.inr rfl))).tr (Fr.us (Or.inr (Or.inl rfl)))
          obtain ⟨S', b1, b2⟩ := ih (k + 1) m _ n (upf f (n - 1) (f (n - 1) ++ [x])) (h.fr F (by unfold PB; omega)) hr (by omega) (by omega) (by omega)
          refine ⟨S', F.tr b1, ?_⟩
          have hix : (8 : Int32) * iI ((n - 1 : Nat) : Int) + iI ((f (n - 1)).length : Int) = iI (8 * ((n - 1 : Nat) : Int) + ((f (n - 1)).length : Int)) := by rw [i_8, iI_mul, iI_add]
          have hun : (us S 39 0 (8 * (n - 1) + (f (n - 1)).length) (iI x)).1 40 0 (n - 1) + (1 : Int32) = iI (((f (n - 1)).length : Int) + 1) := by rw [us_ne (by omega), a3, i_1, iI_add]
          rw [hix, vi_iI (by omega) (by omega) (by omega), ck_t, cl_iI (by omega) (by omega), tN8', hun]
          exact b2
        · rw [if_pos (c8.mpr (by omega))]
          rw [hp0 (by unfold growW; rw [if_neg q, hs]; simp only; rw [if_neg q3])]
          exact ⟨S, Fr.rf, Or.inr ⟨by simp only; omega, rfl, rfl⟩⟩
theorem m_readsWall {S : sT} {l : List Nat} (h : MT S 0 l) : ∃ S', f_X11_readsWall S = some (iI (parseW l).1, S') ∧ RB S' (parseW l).2.1 (parseW l).2.2 ∧ Fr PB S S' := by
  obtain ⟨v20, v21, v80⟩ := v2
  obtain ⟨cl0, cl1⟩ := cl01
  have h63 := h.2.1
  have rest : ∀ (n : Nat) (v : Int32), v = iI n → n ≤ 1 → (0 < l.length → 1 ≤ n) → (parseW l = pWl l 0 (n, fun _ => [])) → ∀ N, 1000 < N → ∃ S', (l_X11_readsWall_27 (fun x6 S7 => some (x6, us S7 115 0 0 (0 : Int32))) N (0 : Int32) (us (us S 115 0 0 v) 40 0 0 (0 : Int32))) = some (iI (parseW l).1, S') ∧ RB S' (parseW l).2.1 (parseW l).2.2 ∧ Fr PB S S' := by
    intro n v hv hn1 g4 g5 N hN
    subst hv
    have F : Fr PB S (us (us S 115 0 0 (iI n)) 40 0 0 (0 : Int32)) := (Fr.us (Or.inl rfl)).tr (Fr.us (Or.inr (Or.inl rfl)))
    have hr : RB (us (us S 115 0 0 (iI n)) 40 0 0 (0 : Int32)) n (fun _ => []) := by
      refine ⟨by omega, by rw [us_ne (by omega), us_same], fun c hc => ⟨⟨by simp, by simp⟩, fun _ => rfl, fun z => ?_, fun i hi => absurd hi (by simp)⟩⟩
      rw [show c = 0 by omega, us_same]
      rfl
    obtain ⟨S3, a1, a2⟩ := m_readsWall_l (fun x6 S7 => some (x6, us S7 115 0 0 (0 : Int32))) l.length 0 N _ n (fun _ => []) (h.fr F (by unfold PB; omega)) hr g4 (by omega) (by omega)
    have z0 : iI ((0 : Nat) : Int) = (0 : Int32) := rfl
    rw [List.drop_zero, ← g5, z0] at a2
    rcases a2 with ⟨b1, b2, b3⟩ | ⟨b1, b2, b3⟩
    · exact ⟨S3, by rw [b1]; exact b2, b3, F.tr a1⟩
    · refine ⟨us S3 115 0 0 (0 : Int32), b3, ?_, (F.tr a1).tr (Fr.us (Or.inl rfl))⟩
      rw [b2]
      exact ⟨by simp [w0W], us_same, fun c hc => ⟨⟨by simp [w0W], by simp [w0W]⟩, fun _ => rfl, fun z => absurd z (by simp [w0W]), fun i hi => absurd hi (by simp [w0W])⟩⟩
  have hF : 1000 < FU := by unfold FU; omega
  revert hF
  unfold f_X11_readsWall
  generalize FU = N
  intro hF
  simp -implicitDefEqProofs only [lt_b, jn_b, ck_t, v20, v80, cl0, h.1]
  by_cases q : l.length = 0
  · have hl : l = [] := List.eq_nil_of_length_eq_zero q
    have cq : iI (l.length : Int) = (0 : Int32) := by rw [q]; rfl
    rw [if_pos cq]
    exact rest 0 (0 : Int32) rfl (by omega) (by omega) (by rw [hl]; rfl) _ hF
  · have hl : l ≠ [] := fun z => q (by rw [z]; rfl)
    have cq : ¬ (iI (l.length : Int) = (0 : Int32)) := by rw [i_0, iI_eq (by omega) (by omega) (by omega) (by omega)]; omega
    rw [if_neg cq]
    exact rest 1 (1 : Int32) rfl (by omega) (by omega) (by unfold parseW; rw [if_neg hl]) _ hF
