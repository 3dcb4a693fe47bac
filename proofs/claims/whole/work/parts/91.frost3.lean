/-! frost: the reference -/
def P44 : Nat → Nat → Prop := fun k i => k = 44 ∧ i = 0
theorem P44.pl {S S' : sT} (h : Fr P44 S S') : Fr PL S S' := h.mono (fun k i z => Or.inr z.1)
def bI (x j : Nat) : Int32 := if x.testBit j = true then 1 else 0
theorem bI_if {x j : Nat} : (if iI (b2i (x.testBit j)) = (0 : Int32) then (0 : Int32) else (1 : Int32)) = bI x j := by
  unfold bI
  cases x.testBit j <;> rfl
theorem tb_div (x k : Nat) : x.testBit k = decide ((x / 2 ^ k) % 2 = 1) := Nat.testBit_eq_decide_div_mod_eq
theorem div_succ (x k : Nat) : x / 2 ^ k / 2 = x / 2 ^ (k + 1) := by rw [Nat.div_div_eq_div_mul, Nat.pow_succ]
theorem m_fr16 {S : sT} {n : Nat} {f : wF} (hW : RM S n f) (J : Int32 → Int64 → Option (Int64 × sT)) : ∀ (d k m b : Nat) (a : Int32), k + d = n → d < m → l_X11_frostOf_16 S J m a (lI b) (iI k) = J (mkM f d k a) (lI ((b * 16 ^ cnN f d k : Nat) : Int)) := by
  have hn := hW.1
  intro d
  induction d with
  | zero =>
    intro k m b a hk hm
    obtain ⟨m, rfl⟩ : ∃ m', m = m' + 1 := ⟨m - 1, by omega⟩
    rw [l_X11_frostOf_16_s]
    unfold b_X11_frostOf_16
    rw [hW.2.1, if_pos (by rw [iI_le (by omega) (by omega) (by omega) (by omega)]; omega)]
    unfold cnN
    rw [Nat.pow_zero, Nat.mul_one]
    rfl
  | succ d ih =>
    intro k m b a hk hm
    obtain ⟨m, rfl⟩ : ∃ m', m = m' + 1 := ⟨m - 1, by omega⟩
    obtain ⟨a1, a2, a3, a4⟩ := hW.2.2 k (by omega)
    have a7 := a1.1
    have e : mkM f (d + 1) k a = mkM f d (k + 1) (if f k = [] then a else a ||| ((1 : Int32) <<< (iI k &&& 31))) := by
      unfold mkM
      rw [List.range'_succ, List.foldl_cons]
    have ec : cnN f (d + 1) k = (if f k = [] then 0 else 1) + cnN f d (k + 1) := rfl
    rw [l_X11_frostOf_16_s]
    unfold b_X11_frostOf_16
    rw [hW.2.1, if_neg (by rw [iI_le (by omega) (by omega) (by omega) (by omega)]; omega), vi_iI (by omega) (by omega) (by omega), ck_t, cl_iI (by omega) (by omega), Int.toNat_natCast, a3, jn_b, e, ec]
    simp only [ck_t, jn_b, lt_b]
    rw [show iI (k : Int) + (1 : Int32) = iI ((k + 1 : Nat) : Int) by rw [i_1, iI_add]; rfl]
    have l16 : (16 : Int64) = lI ((16 : Nat) : Int) := by decide
    by_cases q : f k = []
    · have c : iI ((f k).length : Int) ≤ (0 : Int32) := by rw [q]; decide
      simp only [if_pos c, if_pos q]
      rw [or_0, Nat.zero_add, l_1, lI_mul, Int.mul_one]
      exact ih (k + 1) m b a (by omega) (by omega)
    · have hpos : 0 < (f k).length := List.length_pos_iff.mpr q
      have c : ¬ (iI ((f k).length : Int) ≤ (0 : Int32)) := by rw [i_0, iI_le (by omega) (by omega) (by omega) (by omega)]; omega
      simp only [if_neg c, if_neg q]
      rw [l16, lI_mul, show (b : Int) * ((16 : Nat) : Int) = ((b * 16 : Nat) : Int) from rfl, Nat.pow_add, Nat.pow_one, ← Nat.mul_assoc]
      exact ih (k + 1) m (b * 16) _ (by omega) (by omega)
theorem m_fr106 {n c x : Nat} {f0 : wF} {M : Int32} (hc : c ≤ 16) (hx : x < 2 ^ n) (hn : n ≤ 8) (hM : ∀ i, i < n → M.toBitVec.getLsbD i = decide (f0 i ≠ [])) (J : Int64 → sT → Option (Int64 × sT)) : ∀ (d k m p : Nat) (S : sT) (f : wF), k + d = n → d < m → RM S n f → (∀ j, k ≤ j → f j = f0 j) → sbB d k (x / 2 ^ k) f = true → ∃ S', l_X11_frostOf_106 (iI c) M (iI x) J m (lI p) (iI k) S = J (lI ((p * tmW c d k (x / 2 ^ k) f : Nat) : Int)) S' ∧ RM S' n (drW d k (x / 2 ^ k) f) ∧ Fr P44 S S' ∧ ∀ j, S'.1 44 0 j = if k ≤ j ∧ j < n then S.1 44 0 j - bI x j else S.1 44 0 j := by
  have z10' : ¬ (iI 1 = (0 : Int32)) := z10
  have z00 : iI 0 = (0 : Int32) := rfl
  intro d
  induction d with
  | zero =>
    intro k m p S f hk hm hW hf hs
    obtain ⟨m, rfl⟩ : ∃ m', m = m' + 1 := ⟨m - 1, by omega⟩
    refine ⟨S, ?_, hW, Fr.rf, fun j => by rw [if_neg (by omega)]⟩
    rw [l_X11_frostOf_106_s]
    unfold b_X11_frostOf_106
    rw [hW.2.1, if_pos (by rw [iI_le (by omega) (by omega) (by omega) (by omega)]; omega)]
    unfold tmW
    rw [Nat.mul_one]
  | succ d ih =>
    intro k m p S f hk hm hW hf hs
    obtain ⟨m, rfl⟩ : ∃ m', m = m' + 1 := ⟨m - 1, by omega⟩
    obtain ⟨a1, a2, a3, a4⟩ := hW.2.2 k (by omega)
    have a7 := a1.1
    have hb : (iI (x : Int)).toBitVec.getLsbD k = decide ((x / 2 ^ k) % 2 = 1) := by rw [bitI (by omega), tb_div]
    have hbI : bI x k = if (x / 2 ^ k) % 2 = 1 then (1 : Int32) else 0 := by
      unfold bI
      rw [tb_div]
      by_cases q : (x / 2 ^ k) % 2 = 1
      · rw [decide_eq_true q, if_pos rfl, if_pos q]
      · rw [decide_eq_false q, if_neg (by decide), if_neg q]
    have et : tmW c (d + 1) k (x / 2 ^ k) f = (if f k = [] then 1 else if (x / 2 ^ k) % 2 = 1 then c else 16 - c) * tmW c d (k + 1) (x / 2 ^ (k + 1)) (nfW (x / 2 ^ k) k f) := by
      show (if f k = [] then 1 else if (x / 2 ^ k) % 2 = 1 then c else 16 - c) * tmW c d (k + 1) (x / 2 ^ k / 2) (nfW (x / 2 ^ k) k f) = _
      rw [div_succ]
    have ed : drW (d + 1) k (x / 2 ^ k) f = drW d (k + 1) (x / 2 ^ (k + 1)) (nfW (x / 2 ^ k) k f) := by
      show drW d (k + 1) (x / 2 ^ k / 2) (nfW (x / 2 ^ k) k f) = _
      rw [div_succ]
    have es : sbB (d + 1) k (x / 2 ^ k) f = ((decide ((x / 2 ^ k) % 2 = 0) || decide (f k ≠ [])) && sbB d (k + 1) (x / 2 ^ (k + 1)) (nfW (x / 2 ^ k) k f)) := by
      show ((decide ((x / 2 ^ k) % 2 = 0) || decide (f k ≠ [])) && sbB d (k + 1) (x / 2 ^ k / 2) (nfW (x / 2 ^ k) k f)) = _
      rw [div_succ]
    rw [es, Bool.and_eq_true, Bool.or_eq_true, decide_eq_true_eq, decide_eq_true_eq] at hs
    obtain ⟨hs1, hs2⟩ := hs
    rw [et, ed]
    rw [l_X11_frostOf_106_s]
    unfold b_X11_frostOf_106
    rw [hW.2.1, if_neg (by rw [iI_le (by omega) (by omega) (by omega) (by omega)]; omega), m_isIn (by omega), bn_s, hM k (by omega), ← hf k (Nat.le_refl k), m_isIn (by omega), hb, vi_iI (by omega) (by omega) (by omega), cl_iI (by omega) (by omega), Int.toNat_natCast]
    simp only [ck_t, jn_b, lt_b, bn_s]
    rw [show iI (k : Int) + (1 : Int32) = iI ((k + 1 : Nat) : Int) by rw [i_1, iI_add]; rfl]
    -- on to the next column
    have go : ∀ (w : Nat) (v : Int32), v = bI x k → RM (us S 44 0 k (S.1 44 0 k - v)) n (nfW (x / 2 ^ k) k f) → w = (if f k = [] then 1 else if (x / 2 ^ k) % 2 = 1 then c else 16 - c) → ∃ S', l_X11_frostOf_106 (iI c) M (iI x) J m (lI (p : Int) * lI (w : Int)) (iI ((k + 1 : Nat) : Int)) (us S 44 0 k (S.1 44 0 k - v)) = J (lI ((p * ((if f k = [] then 1 else if (x / 2 ^ k) % 2 = 1 then c else 16 - c) * tmW c d (k + 1) (x / 2 ^ (k + 1)) (nfW (x / 2 ^ k) k f)) : Nat) : Int)) S' ∧ RM S' n (drW d (k + 1) (x / 2 ^ (k + 1)) (nfW (x / 2 ^ k) k f)) ∧ Fr P44 S S' ∧ ∀ j, S'.1 44 0 j = if k ≤ j ∧ j < n then S.1 44 0 j - bI x j else S.1 44 0 j := by
      intro w v hv hW2 hw
      subst hv
      rw [← hw, ← Nat.mul_assoc, lI_mul, show (p : Int) * (w : Int) = ((p * w : Nat) : Int) from rfl]
      obtain ⟨S', g1, g2, g3, g4⟩ := ih (k + 1) m (p * w) _ (nfW (x / 2 ^ k) k f) (by omega) (by omega) hW2 (fun j hj => by
        rw [← hf j (by omega)]
        unfold nfW
        split
        · exact upf_n (by omega)
        · rfl) hs2
      refine ⟨S', g1, g2, (Fr.us ⟨rfl, rfl⟩).tr g3, fun j => ?_⟩
      rw [g4]
      by_cases e : j = k
      · subst e
        rw [if_neg (by omega), if_pos (by omega), us_same]
      · by_cases e2 : k + 1 ≤ j ∧ j < n
        · rw [if_pos e2, if_pos (by omega), us_nb e]
        · rw [if_neg e2, if_neg (by omega), us_nb e]
    by_cases q : (x / 2 ^ k) % 2 = 1
    · have hne : f k ≠ [] := by
        rcases hs1 with z | z
        · omega
        · exact z
      rw [b2i_p (show f k ≠ [] from hne), b2i_p q, if_neg z10', if_neg z10', if_neg z10', iI_toL (z := (c : Int)) (by omega) (by omega)]
      have en : nfW (x / 2 ^ k) k f = upf f k (f k).dropLast := by unfold nfW; rw [if_pos q]
      refine go c 1 (by rw [hbI, if_pos q]) ?_ (by rw [if_neg hne, if_pos q])
      rw [en]
      rcases list_nc (f k) with hl | ⟨l0, y, hl⟩
      · exact absurd hl hne
      · have hle : (f k).length = l0.length + 1 := by rw [hl]; simp
        rw [hl] at a1 a4
        rw [show (f k).dropLast = l0 by rw [hl]; simp]
        refine hW.upd (by omega) a1.init.1 ?_ ?_ ?_ ?_
        · rw [us_ne (by omega)]
        · rw [us_arr, a3, hle, show iI ((l0.length + 1 : Nat) : Int) - (1 : Int32) = iI (l0.length : Int) by rw [i_1, iI_sub]; congr 1; omega]
        · intro c' j hc' hj; rw [us_ne (by omega)]
        · intro j hj
          rw [us_ne (by omega), a4 j (by simp; omega), nth_app_l hj]
    · have en : nfW (x / 2 ^ k) k f = f := by unfold nfW; rw [if_neg q]
      have e0 : S.1 44 0 k - (0 : Int32) = S.1 44 0 k := by simp
      have hW2 : RM (us S 44 0 k (S.1 44 0 k - (0 : Int32))) n (nfW (x / 2 ^ k) k f) := by
        rw [en, e0]
        refine hW.kept (by rw [us_ne (by omega)]) ?_ (by rw [us_ne (by omega)])
        funext j
        by_cases e : j = k
        · subst e; rw [us_same]
        · rw [us_nb e]
      rw [b2i_n q, if_pos z00, if_pos z00]
      by_cases q2 : f k = []
      · rw [b2i_n (show ¬ (f k ≠ []) from fun z => z q2), if_pos z00, show (1 : Int64) = lI ((1 : Nat) : Int) from l_1]
        exact go 1 0 (by rw [hbI, if_neg q]) hW2 (by rw [if_pos q2])
      · rw [b2i_p (show f k ≠ [] from q2), if_neg z10', i_16, iI_sub, show (16 : Int) - (c : Int) = ((16 - c : Nat) : Int) by omega, iI_toL (by omega) (by omega)]
        exact go (16 - c) 0 (by rw [hbI, if_neg q]) hW2 (by rw [if_neg q2, if_neg q])
theorem m_fr205 {n x : Nat} (hn : n ≤ 8) (J : Int64 → sT → Option (Int64 × sT)) (v : Int64) : ∀ (d k m : Nat) (S : sT), S.1 115 0 0 = iI n → k + d = n → d < m → ∃ S', l_X11_frostOf_205 (iI x) J v m (iI k) S = J v S' ∧ Fr P44 S S' ∧ ∀ j, S'.1 44 0 j = if k ≤ j ∧ j < n then S.1 44 0 j + bI x j else S.1 44 0 j := by
  intro d
  induction d with
  | zero =>
    intro k m S h115 hk hm
    obtain ⟨m, rfl⟩ : ∃ m', m = m' + 1 := ⟨m - 1, by omega⟩
    refine ⟨S, ?_, Fr.rf, fun j => by rw [if_neg (by omega)]⟩
    rw [l_X11_frostOf_205_s]
    unfold b_X11_frostOf_205
    rw [h115, if_pos (by rw [iI_le (by omega) (by omega) (by omega) (by omega)]; omega)]
  | succ d ih =>
    intro k m S h115 hk hm
    obtain ⟨m, rfl⟩ : ∃ m', m = m' + 1 := ⟨m - 1, by omega⟩
    rw [l_X11_frostOf_205_s]
    unfold b_X11_frostOf_205
    rw [h115, if_neg (by rw [iI_le (by omega) (by omega) (by omega) (by omega)]; omega), vi_iI (by omega) (by omega) (by omega), ck_t, m_isIn (by omega), bn_s, bitI (by omega), cl_iI (by omega) (by omega), Int.toNat_natCast]
    simp only [ck_t, jn_b, lt_b]
    rw [show iI (k : Int) + (1 : Int32) = iI ((k + 1 : Nat) : Int) by rw [i_1, iI_add]; rfl]
    have ei : (if iI (b2i (x.testBit k)) = (0 : Int32) then l_X11_frostOf_205 (iI x) J v m (iI ((k + 1 : Nat) : Int)) (us S 44 0 k (S.1 44 0 k + (0 : Int32))) else l_X11_frostOf_205 (iI x) J v m (iI ((k + 1 : Nat) : Int)) (us S 44 0 k (S.1 44 0 k + (1 : Int32)))) = l_X11_frostOf_205 (iI x) J v m (iI ((k + 1 : Nat) : Int)) (us S 44 0 k (S.1 44 0 k + bI x k)) := by
      unfold bI
      cases x.testBit k <;> rfl
    rw [ei]
    obtain ⟨S', g1, g2, g3⟩ := ih (k + 1) m (us S 44 0 k (S.1 44 0 k + bI x k)) (by rw [us_ne (by omega)]; exact h115) (by omega) (by omega)
    refine ⟨S', g1, (Fr.us ⟨rfl, rfl⟩).tr g2, fun j => ?_⟩
    rw [g3]
    by_cases e : j = k
    · subst e
      rw [if_neg (by omega), if_pos (by omega), us_same]
    · by_cases e2 : k + 1 ≤ j ∧ j < n
      · rw [if_pos e2, if_pos (by omega), us_nb e]
      · rw [if_neg e2, if_neg (by omega), us_nb e]
theorem m_fr80 {st : Nat → Nat} {n c : Nat} {f : wF} (hc : c ≤ 16) (J : Int64 → sT → Option (Int64 × sT)) : ∀ (d x m p : Nat) (S : sT), x + d = 2 ^ n → d < m → RM S n f → MS S st → ∃ S', l_X11_frostOf_80 (iI c) (mkM f n 0 0) J m (lI p) (iI x) S = J (lI ((p + smS (fun y => trm st n c n 0 y f) d x : Nat) : Int)) S' ∧ Fr P44 S S' := by
  have hF : 1000 < FU := by unfold FU; omega
  intro d
  induction d with
  | zero =>
    intro x m p S hx hm hW hM
    obtain ⟨m, rfl⟩ : ∃ m', m = m' + 1 := ⟨m - 1, by omega⟩
    have hn := hW.1
    have h2 := p2 hn
    refine ⟨S, ?_, Fr.rf⟩
    rw [l_X11_frostOf_80_s]
    unfold b_X11_frostOf_80
    rw [hW.2.1, shl_pow hn, if_pos (by rw [iI_le (by omega) (by omega) (by omega) (by omega)]; omega)]
    rfl
  | succ d ih =>
    intro x m p S hx hm hW hM
    obtain ⟨m, rfl⟩ : ∃ m', m = m' + 1 := ⟨m - 1, by omega⟩
    have hn := hW.1
    have h2 := p2 hn
    have hx2 : x < 2 ^ n := by omega
    have e1 : smS (fun y => trm st n c n 0 y f) (d + 1) x = trm st n c n 0 x f + smS (fun y => trm st n c n 0 y f) d (x + 1) := rfl
    rw [e1]
    rw [l_X11_frostOf_80_s]
    unfold b_X11_frostOf_80
    rw [hW.2.1, shl_pow hn, if_neg (by rw [iI_le (by omega) (by omega) (by omega) (by omega)]; omega), jn_b, show iI (x : Int) + (1 : Int32) = iI ((x + 1 : Nat) : Int) by rw [i_1, iI_add]; rfl]
    by_cases q : sbB n 0 x f = true
    · rw [if_pos ((mk_sub hn hx2).mpr q), jn_b]
      have hMb : ∀ i, i < n → (mkM f n 0 0).toBitVec.getLsbD i = decide (f i ≠ []) := by
        intro i hi
        rw [mkM_bit f n 0 0 i (by omega) (by omega), decide_eq_true (show 0 ≤ i ∧ i < 0 + n by omega), Bool.true_and]
        have : (0 : Int32).toBitVec.getLsbD i = false := by
          show (0#32).getLsbD i = false
          simp
        rw [this, Bool.false_or]
      have hd : x / 2 ^ 0 = x := by rw [Nat.pow_zero, Nat.div_one]
      obtain ⟨S1, g1, g2, g3, g4⟩ := m_fr106 hc hx2 hn hMb (fun (x18 : Int64) (S19 : sT) => bn (f_X11_weakNow S19) (fun r21 => jn (fun (y22 : Int64) => lt (lI (p : Int) + y22) (fun x23 => l_X11_frostOf_205 (iI x) (fun (x14 : Int64) (S15 : sT) => lt (iI ((x + 1 : Nat) : Int)) (fun x16 => l_X11_frostOf_80 (iI c) (mkM f n 0 0) J m x14 x16 S15)) x23 FU (0 : Int32) S19)) (fun j37 => (if r21 = (0 : Int32) then j37 x18 else j37 (0 : Int64))))) n 0 FU 1 S f (by omega) (by omega) hW (fun j hj => rfl) (by rw [hd]; exact q)
      rw [show iI ((0 : Nat) : Int) = (0 : Int32) from rfl] at g1
      rw [show (1 : Int64) = lI ((1 : Nat) : Int) from l_1, g1, hd]; (try dsimp only)
      rw [hd] at g2
      have hM1 : MS S1 st := by
        intro k hk
        rw [g3.1 42 0 (by unfold P44; omega)]
        exact hM k hk
      rw [m_weakNow g2 hM1, bn_s, jn_b, Nat.one_mul]
      have fin : ∀ (v : Nat), v = trm st n c n 0 x f → ∃ S', l_X11_frostOf_205 (iI x) (fun (x14 : Int64) (S15 : sT) => lt (iI ((x + 1 : Nat) : Int)) (fun x16 => l_X11_frostOf_80 (iI c) (mkM f n 0 0) J m x14 x16 S15)) (lI (p : Int) + lI (v : Int)) FU (0 : Int32) S1 = J (lI ((p + (trm st n c n 0 x f + smS (fun y => trm st n c n 0 y f) d (x + 1)) : Nat) : Int)) S' ∧ Fr P44 S S' := by
        intro v hv
        obtain ⟨S2, k1, k2, k3⟩ := m_fr205 (x := x) hn (fun (x14 : Int64) (S15 : sT) => lt (iI ((x + 1 : Nat) : Int)) (fun x16 => l_X11_frostOf_80 (iI c) (mkM f n 0 0) J m x14 x16 S15)) (lI (p : Int) + lI (v : Int)) n 0 FU S1 g2.2.1 (by omega) (by omega)
        rw [show iI ((0 : Nat) : Int) = (0 : Int32) from rfl] at k1
        have F2 : Fr P44 S S2 := g3.tr k2
        have hW2 : RM S2 n f := by
          refine hW.kept (F2.1 115 0 (by unfold P44; omega)) ?_ (F2.1 43 0 (by unfold P44; omega))
          funext j
          rw [k3, g4]
          by_cases e : 0 ≤ j ∧ j < n
          · rw [if_pos e, if_pos e]
            simp
          · rw [if_neg e, if_neg e]
        have hM2 : MS S2 st := by
          intro k hk
          rw [F2.1 42 0 (by unfold P44; omega)]
          exact hM k hk
        obtain ⟨S', d1, d2⟩ := ih (x + 1) m (p + v) S2 (by omega) (by omega) hW2 hM2
        refine ⟨S', ?_, F2.tr d2⟩
        rw [k1]; (try dsimp only); rw [lt_b, lI_add, show (p : Int) + (v : Int) = ((p + v : Nat) : Int) from rfl, d1, ← hv, Nat.add_assoc]
      have et := trm_eq st n c n 0 x f
      rw [if_pos q] at et
      by_cases q2 : stB st n (drW n 0 x f) = true
      · rw [if_pos q2] at et
        rw [if_pos ((stB_0 hn).mpr q2)]; (try dsimp only); rw [lt_b]
        exact fin _ et.symm
      · rw [if_neg q2] at et
        rw [if_neg (fun z => q2 ((stB_0 hn).mp z))]; (try dsimp only); rw [lt_b, show (0 : Int64) = lI ((0 : Nat) : Int) from l_0]
        exact fin _ et.symm
    · rw [if_neg (fun z => q ((mk_sub hn hx2).mp z))]; (try dsimp only); rw [lt_b]
      have et := trm_eq st n c n 0 x f
      rw [if_neg q] at et
      rw [et, Nat.zero_add]
      exact ih (x + 1) m p S (by omega) (by omega) hW hM
theorem mD_frost {S : sT} {L : Nat → List Nat} {st : Nat → Nat} {sg : List (Nat × Nat × Nat)} {c : Nat} {w : Int} (hD : RD S L st sg) (h9 : R9 S) (hc : c ≤ 16) (w1 : 0 ≤ w) (w2 : w ≤ 1) : ∃ S', f_X11_frostOf (iI c) (iI w) S = some (frA L st c w, S') ∧ Fr PM S S' := by
  have hF : 1000 < FU := by unfold FU; omega
  obtain ⟨S1, a1, a2, a3, a4⟩ := hD.lives h9.ho (Nat.le_refl _)
  have hn := a2.1
  have h2 := p2 hn
  have hA := frW_le st (nW L) hc (nW L) 0 (gW' L st)
  have hA2 := (p16 (k := nW L) hn).2
  have hcn := cnN_le (gW' L st) (nW L) 0
  have hB := p16 (k := cnN (gW' L st) (nW L) 0) (by omega)
  have g16 := m_fr16 a2 (fun (x3 : Int32) (x4 : Int64) => jn (fun (x5 : Int64) (S6 : sT) => bn (f_X11_part x5 x4 (iI w) S6) (fun r8 => some (r8, S6))) (fun j9 => l_X11_frostOf_80 (iI c) x3 j9 FU (0 : Int64) (0 : Int32) S1)) (nW L) 0 FU 1 0 (by omega) (by omega)
  obtain ⟨S', g1, g2⟩ := m_fr80 (st := st) hc (fun (x5 : Int64) (S6 : sT) => bn (f_X11_part x5 (lI ((1 * 16 ^ cnN (gW' L st) (nW L) 0 : Nat) : Int)) (iI w) S6) (fun r8 => some (r8, S6))) (2 ^ nW L) 0 FU 0 S1 (by omega) (by omega) a2 a3.2.2.1
  refine ⟨S', ?_, a4.tr (PL.pm (P44.pl g2))⟩
  unfold f_X11_frostOf
  rw [hD.2.1.1, a1, bn_s, jn_b]
  rw [show (1 : Int64) = lI ((1 : Nat) : Int) from l_1]
  refine Eq.trans g16 ?_
  rw [jn_b]
  refine Eq.trans g1 ?_
  have hA3 : frW st (nW L) c (nW L) 0 (gW' L st) < 2 ^ 60 := by omega
  have hB3 : 16 ^ cnN (gW' L st) (nW L) 0 < 2 ^ 60 := by omega
  rw [Nat.zero_add, frW_sum, Nat.one_mul, m_part hA3 hB3 (by omega) w1 w2, bn_s]
  rfl
theorem T_19 : St_19 Inv := by
  intro S hI v1 v2
  obtain ⟨c, p1, p2, rfl⟩ := iI_ex v1
  obtain ⟨w, i1, i2, rfl⟩ := iI_ex v2
  have z10' : ¬ (iI 1 = (0 : Int32)) := z10
  have z00 : iI 0 = (0 : Int32) := rfl
  have l16 : (16 : Int64) = lI 16 := by decide
  have eno : ∀ S2 : sT, f_X11_no (-2 : Int32) S2 = some (-9223372036854775806 : Int64) := fun S2 => by unfold f_X11_no; decide
  obtain ⟨L, st, sg, h1, hB, hG, hk⟩ := opened2 hI
  have eP : ∀ S2 : sT, f_X11_in (iI c).toInt64 (0 : Int64) (16 : Int64) S2 = some (iI (b2i (decide (0 ≤ c ∧ c ≤ 16)))) := fun S2 => by rw [l_0, l16, m_in2 _ p1 p2 (by omega) (by omega) (by omega) (by omega)]
  by_cases q0 : 0 ≤ c ∧ c ≤ 16
  · obtain ⟨c, rfl⟩ : ∃ t : Nat, c = t := ⟨c.toNat, by omega⟩
    by_cases q : 0 ≤ w ∧ w ≤ 1
    · obtain ⟨S1, e1, F1⟩ := cD_frost (c := c) (w := w) h1 (by omega) q.1 q.2
      obtain ⟨hI1, S2, r1, hI2, hD, h9, hE⟩ := hk S1 F1
      obtain ⟨S3, g1, g2⟩ := mD_frost (c := c) (w := w) hD h9 (by omega) q.1 q.2
      refine ⟨_, S1, S3, e1, ?_, hE S3 (Fr1.mono g2.1 PM_px) (h9.pm g2)⟩
      unfold f_X11_frost
      rw [r1, bn_s, eP, bn_s, jn_b, b2i_p q0, if_neg z10', m_isTwo _ i1 i2, bn_s, b2i_p q, if_neg z10', g1, bn2_s]
    · obtain ⟨hI1, S2, r1, hI2, hD, h9, hE⟩ := hk S Fr1.rf
      refine ⟨(-9223372036854775806 : Int64), S, S2, ?_, ?_, hI2⟩
      · unfold f_X10_frost
        rw [show f_X10_within (iI (c : Int)) (0 : Int32) (16 : Int32) S = _ from p_within (a := 0) (b := 16) S p1 p2 (by omega) (by omega) (by omega) (by omega), bn_s, b2i_p q0, if_neg z10', show f_X10_within (iI w) (0 : Int32) (1 : Int32) S = _ from p_within (a := 0) (b := 1) S i1 i2 (by omega) (by omega) (by omega) (by omega), bn_s, b2i_n q, if_pos z00]
      · unfold f_X11_frost
        rw [r1, bn_s, eP, bn_s, jn_b, b2i_p q0, if_neg z10', m_isTwo _ i1 i2, bn_s, b2i_n q, if_pos z00, eno, bn_s]
  · obtain ⟨hI1, S2, r1, hI2, hD, h9, hE⟩ := hk S Fr1.rf
    refine ⟨(-9223372036854775806 : Int64), S, S2, ?_, ?_, hI2⟩
    · unfold f_X10_frost
      rw [show f_X10_within (iI c) (0 : Int32) (16 : Int32) S = _ from p_within (a := 0) (b := 16) S p1 p2 (by omega) (by omega) (by omega) (by omega), bn_s, b2i_n q0, if_pos z00]
    · unfold f_X11_frost
      rw [r1, bn_s, eP, bn_s, jn_b, b2i_n q0, if_pos z00, eno, bn_s]
