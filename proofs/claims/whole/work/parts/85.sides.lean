/-! two who answer each other: the spec, the class -/
def mvS (n who : Nat) (f : wF) (m : Nat) : Option wF := if m = 8 then some f else putF n f (m : Int) who
def tV (st : Nat → Nat) (n : Nat) (f : wF) : Int := if stB st n f = true then (pears st n f : Int) else -1
def bet (who : Nat) (a b : Int) : Bool := if who = 0 then decide (b < a) else decide (a < b)
def bsU (who : Nat) (o : Option Int) (x : Nat) (p : Int × Int) : Int × Int := (match o with | none => p | some v => if p.2 = -1 ∨ bet who v p.1 = true then (v, (x : Int)) else p)
def bs (who : Nat) (g : Nat → Option Int) : Nat → Nat → Int × Int → Int × Int
  | 0, _, p => p
  | d + 1, x, p => bs who g d (x + 1) (bsU who (g x) x p)
def vS (st : Nat → Nat) (n : Nat) : Nat → Nat → wF → Int
  | 0, _, f => tV st n f
  | k + 1, who, f => (bs who (fun m => (mvS n who f m).map (vS st n k (1 - who))) 9 0 (0, -1)).1
def byS (st : Nat → Nat) (n k who : Nat) (f : wF) : Int := (bs who (fun m => (mvS n who f m).map (vS st n k (1 - who))) 9 0 (0, -1)).2
theorem tV_b {st : Nat → Nat} {n : Nat} {f : wF} (hn : n ≤ 8) : -1 ≤ tV st n f ∧ tV st n f ≤ 8 := by
  have := pears_le st n f
  unfold tV
  split <;> omega
theorem bs_b {who : Nat} {g : Nat → Option Int} (hg : ∀ m v, g m = some v → -1 ≤ v ∧ v ≤ 8) : ∀ (d x : Nat) (p : Int × Int), -1 ≤ p.1 → p.1 ≤ 8 → -1 ≤ (bs who g d x p).1 ∧ (bs who g d x p).1 ≤ 8 := by
  intro d
  induction d with
  | zero => intro x p h1 h2; exact ⟨h1, h2⟩
  | succ d ih =>
    intro x p h1 h2
    unfold bs
    apply ih
    · unfold bsU
      cases hx : g x with
      | none => exact h1
      | some v =>
        have := hg x v hx
        simp only
        split
        · exact this.1
        · exact h1
    · unfold bsU
      cases hx : g x with
      | none => exact h2
      | some v =>
        have := hg x v hx
        simp only
        split
        · exact this.2
        · exact h2
theorem vS_b {st : Nat → Nat} {n : Nat} (hn : n ≤ 8) : ∀ (k who : Nat) (f : wF), -1 ≤ vS st n k who f ∧ vS st n k who f ≤ 8 := by
  intro k
  induction k with
  | zero => intro who f; exact tV_b hn
  | succ k ih =>
    intro who f
    unfold vS
    apply bs_b
    · intro m v hv
      cases hm : mvS n who f m with
      | none => rw [hm] at hv; cases hv
      | some f' =>
        rw [hm] at hv
        have : vS st n k (1 - who) f' = v := Option.some.inj hv
        rw [← this]
        exact ih _ _
    · simp
    · simp
def P15 : Nat → Nat → Prop := fun k i => (29 ≤ k ∧ k ≤ 32 ∨ k = 112) ∧ i = 14 ∨ k = 21 ∧ i = 0
theorem FW.p15 {S S' : sT} (h : FW 14 S S') : Fr P15 S S' := h.fr (fun k z => by unfold P15; omega)
theorem RR.p15 {S S' : sT} {st : Nat → Nat} (h : RR S st) (hF : Fr P15 S S') : RR S' st := h.fr hF (by unfold P15; omega)
theorem p_isBetter {a b : Int} {who : Nat} (S : sT) (hw : who < 2) (a1 : -100 ≤ a) (a2 : a ≤ 100) (b1 : -100 ≤ b) (b2 : b ≤ 100) : f_X2_isBetter (iI a) (iI b) (iI who) S = some (iI (b2i (bet who a b))) := by
  unfold f_X2_isBetter bet
  by_cases q : who = 0
  · rw [if_pos (by rw [q]; rfl), if_pos q]
    by_cases q2 : b < a
    · rw [if_neg (by rw [iI_le (by omega) (by omega) (by omega) (by omega)]; omega), decide_eq_true q2]; rfl
    · rw [if_pos (by rw [iI_le (by omega) (by omega) (by omega) (by omega)]; omega), decide_eq_false q2]; rfl
  · rw [if_neg (by rw [i_0, iI_eq (by omega) (by omega) (by omega) (by omega)]; omega), if_neg q]
    by_cases q2 : a < b
    · rw [if_neg (by rw [iI_le (by omega) (by omega) (by omega) (by omega)]; omega), decide_eq_true q2]; rfl
    · rw [if_pos (by rw [iI_le (by omega) (by omega) (by omega) (by omega)]; omega), decide_eq_false q2]; rfl
theorem p_best {st : Nat → Nat} {n : Nat} : ∀ (k m who : Nat) (S : sT) (f : wF), k ≤ 3 → k < m → who < 2 → RR S st → RW S 14 n f → ∃ S', f_X2_bestWorth m 14 (iI k) (iI who) S = some (iI (vS st n k who f), S') ∧ RW S' 14 n f ∧ Fr P15 S S' ∧ ∀ k', k = k' + 1 → S'.1 21 0 k = iI (byS st n k' who f) := by
  have z10' : ¬ (iI 1 = (0 : Int32)) := z10
  have z00 : iI 0 = (0 : Int32) := rfl
  intro k
  induction k with
  | zero =>
    intro m who S f hk hm hw hR hW
    obtain ⟨m, rfl⟩ : ∃ m', m = m' + 1 := ⟨m - 1, by omega⟩
    refine ⟨S, ?_, hW, Fr.rf, fun k' h => by omega⟩
    show s_X2_bestWorth (f_X2_bestWorth m) 14 (iI ((0 : Nat) : Int)) (iI who) S = _
    unfold s_X2_bestWorth vS tV
    rw [jn_b, if_pos (by rw [i_0, iI_le (by omega) (by omega) (by omega) (by omega)]; omega), p_stands hW hR, bn_s, p_sunny hW hR, bn_s]
    have e : (List.range' 0 n).all (fun c => !wk st n f c) = stB st n f := rfl
    rw [e]
    cases stB st n f <;> rfl
  | succ k ih =>
    intro m who S f hk hm hw hR hW
    obtain ⟨m, rfl⟩ : ∃ m', m = m' + 1 := ⟨m - 1, by omega⟩
    have hn := hW.1
    have inner : ∀ (J : Int32 → Int32 → sT → Option (Int32 × sT)) (d x M : Nat) (S : sT) (p : Int × Int), x + d = 9 → d < M → RR S st → RW S 14 n f → -1 ≤ p.1 → p.1 ≤ 8 → -1 ≤ p.2 → p.2 ≤ 8 → ∃ S', l_X2_bestWorth_37 (f_X2_bestWorth m) 14 (iI ((k + 1 : Nat) : Int)) (iI who) J M (iI p.1) (iI p.2) (iI x) S = J (iI (bs who (fun m => (mvS n who f m).map (vS st n k (1 - who))) d x p).1) (iI (bs who (fun m => (mvS n who f m).map (vS st n k (1 - who))) d x p).2) S' ∧ RW S' 14 n f ∧ Fr P15 S S' := by
      intro J d
      induction d with
      | zero =>
        intro x M S p hx hM hR hW p1 p2 p3 p4
        obtain ⟨M, rfl⟩ : ∃ m', M = m' + 1 := ⟨M - 1, by omega⟩
        refine ⟨S, ?_, hW, Fr.rf⟩
        rw [l_X2_bestWorth_37_s]
        unfold b_X2_bestWorth_37
        rw [if_pos (by rw [i_8, iI_lt (by omega) (by omega) (by omega) (by omega)]; omega)]
        rfl
      | succ d ihd =>
        intro x M S p hx hM hR hW p1 p2 p3 p4
        obtain ⟨M, rfl⟩ : ∃ m', M = m' + 1 := ⟨M - 1, by omega⟩
        have ebs : ∀ p, bs who (fun m => (mvS n who f m).map (vS st n k (1 - who))) (d + 1) x p = bs who (fun m => (mvS n who f m).map (vS st n k (1 - who))) d (x + 1) (bsU who ((mvS n who f x).map (vS st n k (1 - who))) x p) := fun p => rfl
        rw [ebs]
        rw [l_X2_bestWorth_37_s]
        unfold b_X2_bestWorth_37
        rw [if_neg (by rw [i_8, iI_lt (by omega) (by omega) (by omega) (by omega)]; omega), jn_b, jn_b]
        have e1x : iI (x : Int) + (1 : Int32) = iI ((x + 1 : Nat) : Int) := by rw [i_1, iI_add]; rfl
        -- a move that may be made: behind the answer
        have fin : ∀ (v : Int) (S27 : sT), -1 ≤ v → v ≤ 8 → RR S27 st → RW S27 14 n f → Fr P15 S S27 → ∃ S', jn (lt (iI (x : Int) + (1 : Int32)) (fun x21 => l_X2_bestWorth_37 (f_X2_bestWorth m) 14 (iI ((k + 1 : Nat) : Int)) (iI who) J M (iI v) (iI x) x21 S27)) (fun j28 => (if iI p.2 = (-1 : Int32) then j28 else bn (f_X2_isBetter (iI v) (iI p.1) (iI who) S27) (fun r30 => (if r30 = (0 : Int32) then lt (iI (x : Int) + (1 : Int32)) (fun x21 => l_X2_bestWorth_37 (f_X2_bestWorth m) 14 (iI ((k + 1 : Nat) : Int)) (iI who) J M (iI p.1) (iI p.2) x21 S27) else j28)))) = J (iI (bs who (fun m => (mvS n who f m).map (vS st n k (1 - who))) d (x + 1) (bsU who (some v) x p)).1) (iI (bs who (fun m => (mvS n who f m).map (vS st n k (1 - who))) d (x + 1) (bsU who (some v) x p)).2) S' ∧ RW S' 14 n f ∧ Fr P15 S S' := by
          intro v S27 v1 v2 r1 r2 r3
          rw [jn_b, lt_b, lt_b, e1x, p_isBetter S27 hw (by omega) (by omega) (by omega) (by omega), bn_s]
          have yes : ∃ S', l_X2_bestWorth_37 (f_X2_bestWorth m) 14 (iI ((k + 1 : Nat) : Int)) (iI who) J M (iI v) (iI x) (iI ((x + 1 : Nat) : Int)) S27 = J (iI (bs who (fun m => (mvS n who f m).map (vS st n k (1 - who))) d (x + 1) (v, (x : Int))).1) (iI (bs who (fun m => (mvS n who f m).map (vS st n k (1 - who))) d (x + 1) (v, (x : Int))).2) S' ∧ RW S' 14 n f ∧ Fr P15 S S' := by
            obtain ⟨S', g1, g2, g3⟩ := ihd (x + 1) M S27 (v, (x : Int)) (by omega) (by omega) r1 r2 v1 v2 (by simp only; omega) (by simp only; omega)
            exact ⟨S', g1, g2, r3.tr g3⟩
          unfold bsU
          simp only
          by_cases q : p.2 = -1
          · rw [if_pos (by rw [q]; rfl), if_pos (Or.inl q)]
            exact yes
          · rw [if_neg (by rw [i_m1, iI_eq (by omega) (by omega) (by omega) (by omega)]; omega)]
            cases hb : bet who v p.1 with
            | true =>
              rw [if_neg (show ¬ (iI (b2i true) = (0 : Int32)) from z10), if_pos (Or.inr rfl)]
              exact yes
            | false =>
              rw [if_pos (show iI (b2i false) = (0 : Int32) from rfl), if_neg (by intro z; rcases z with z | z; exact q z; cases z)]
              obtain ⟨S', g1, g2, g3⟩ := ihd (x + 1) M S27 p (by omega) (by omega) r1 r2 p1 p2 p3 p4
              exact ⟨S', g1, g2, r3.tr g3⟩
        have ek : iI ((k + 1 : Nat) : Int) - (1 : Int32) = iI (k : Int) := by rw [i_1, iI_sub]; congr 1; omega
        have ew : (1 : Int32) - iI (who : Int) = iI ((1 - who : Nat) : Int) := by rw [i_1, iI_sub]; congr 1; omega
        by_cases qx : x = 8
        · have hc : iI (x : Int) = (8 : Int32) := by rw [qx]; rfl
          have em : mvS n who f x = some f := by unfold mvS; rw [if_pos qx]
          rw [if_pos hc]; (try dsimp only)
          obtain ⟨S1, g1, g2, g3, -⟩ := ih m (1 - who) S f (by omega) (by omega) (by omega) hR hW
          have vb := vS_b (st := st) hn k (1 - who) f
          rw [ek, ew, g1, bn2_s, jn_b, if_pos hc]; (try dsimp only); rw [em]
          exact fin _ S1 vb.1 vb.2 (hR.p15 g3) g2 g3
        · have hc : ¬ (iI (x : Int) = (8 : Int32)) := by rw [i_8, iI_eq (by omega) (by omega) (by omega) (by omega)]; omega
          have em : mvS n who f x = putF n f (x : Int) who := by unfold mvS; rw [if_neg qx]
          rw [if_neg hc]
          obtain ⟨S1, e1, e2, e3⟩ := p_put hW (x := who) (by omega) (z := (x : Int)) (by omega) (by omega)
          rw [e1, bn2_s, em]
          cases hp : putF n f (x : Int) who with
          | none =>
            rw [hp] at e2
            rw [if_pos (show iI (b2i (none : Option wF).isSome) = (0 : Int32) from rfl)]; (try dsimp only); rw [lt_b, e1x]
            obtain ⟨S', g1, g2, g3⟩ := ihd (x + 1) M S1 p (by omega) (by omega) (hR.p15 e3.p15) e2 p1 p2 p3 p4
            exact ⟨S', g1, g2, e3.p15.tr g3⟩
          | some f' =>
            rw [hp] at e2
            have e2 : RW S1 14 n f' := e2
            rw [if_neg (show ¬ (iI (b2i (some f' : Option wF).isSome) = (0 : Int32)) from z10)]; (try dsimp only)
            obtain ⟨S2, g1, g2, g3, -⟩ := ih m (1 - who) S1 f' (by omega) (by omega) (by omega) (hR.p15 e3.p15) e2
            have hpp : f' = upf f x (f x ++ [who]) ∧ x < n := by
              unfold putF at hp
              by_cases q : 0 ≤ (x : Int) ∧ (x : Int) < n ∧ (f ((x : Int)).toNat).length < 8
              · rw [if_pos q] at hp
                exact ⟨(Option.some.inj hp).symm, by omega⟩
              · rw [if_neg q] at hp
                cases hp
            obtain ⟨hf', hxn⟩ := hpp
            obtain ⟨S4, t1, t2, t3⟩ := p_take_app (x := who) (l := f x) g2 hxn (by rw [hf', upf_s])
            have t2 : RW S4 14 n f := by
              rw [hf', upf_upf, upf_self] at t2
              exact t2
            have F4 : Fr P15 S S4 := (e3.p15.tr g3).tr t3.p15
            have vb := vS_b (st := st) hn k (1 - who) f'
            rw [ek, ew, g1, bn2_s, jn_b, if_neg hc, t1, bn2_s]; (try dsimp only)
            exact fin _ S4 vb.1 vb.2 (hR.p15 F4) t2 F4
    show ∃ S', s_X2_bestWorth (f_X2_bestWorth m) 14 (iI ((k + 1 : Nat) : Int)) (iI who) S = _ ∧ _
    have hF : 1000 < FU := by unfold FU; omega
    obtain ⟨S', g1, g2, g3⟩ := inner (fun (x7 : Int32) (x8 : Int32) (S9 : sT) => ck (vi (iI ((k + 1 : Nat) : Int)) 4) (lt (us S9 21 0 (cl (iI ((k + 1 : Nat) : Int))) x8) (fun S11 => some (x7, S11)))) 9 0 FU S (0, -1) (by omega) (by omega) hR hW (by simp) (by simp) (by simp) (by simp)
    have hcl : cl (iI ((k + 1 : Nat) : Int)) = k + 1 := by rw [cl_iI (by omega) (by omega)]; rfl
    have z0 : iI ((0 : Int), (-1 : Int)).1 = (0 : Int32) := rfl
    have z1 : iI ((0 : Int), (-1 : Int)).2 = (-1 : Int32) := rfl
    have z2 : iI ((0 : Nat) : Int) = (0 : Int32) := rfl
    rw [z0, z1, z2] at g1
    have ev : vS st n (k + 1) who f = (bs who (fun m => (mvS n who f m).map (vS st n k (1 - who))) 9 0 (0, -1)).1 := rfl
    have ey : byS st n k who f = (bs who (fun m => (mvS n who f m).map (vS st n k (1 - who))) 9 0 (0, -1)).2 := rfl
    refine ⟨us S' 21 0 (k + 1) (iI (byS st n k who f)), ?_, g2.kept (by rw [us_ne (by omega)]) (by rw [us_ne (by omega)]) (by rw [us_ne (by omega)]) (by rw [us_ne (by omega)]) (by rw [us_ne (by omega)]), g3.tr (Fr.us (by unfold P15; omega)), fun k' h => ?_⟩
    · unfold s_X2_bestWorth
      rw [jn_b, if_neg (by rw [i_0, iI_le (by omega) (by omega) (by omega) (by omega)]; omega), if_pos (by rw [i_4, iI_lt (by omega) (by omega) (by omega) (by omega)]; omega), jn_b, g1]; (try dsimp only); rw [vi_iI (by omega) (by omega) (by omega), ck_t, hcl, lt_b, ev, ey]
    · have : k' = k := by omega
      subst this
      exact us_same
def sdA (st : Nat → Nat) (n k who : Nat) (f : wF) (what : Int) : Int32 := if what = 0 then iI (vS st n k who f) else iI (byS st n (k - 1) who f)
theorem cD_sides {S : sT} {L : Nat → List Nat} {st : Nat → Nat} {k : Nat} {w : Int} (h : CI S L st) (k1 : 1 ≤ k) (k2 : k ≤ 3) (w1 : 0 ≤ w) (w2 : w ≤ 1) : ∃ S', f_X10_sides (iI k) (iI w) S = some (sdA st (nW L) k ((st 0 + (tW L).length) % 2) (gW' L st) w, S') ∧ Fr1 PCs S S' := by
  have h12 : (tW L).length ≤ 12 := (parseT_ok (L 1)).1
  have hF : 1000 < FU := by unfold FU; omega
  have z10' : ¬ (iI 1 = (0 : Int32)) := z10
  have hW := wallN h (Nat.le_refl (tW L).length)
  obtain ⟨S1, e1, e2, e3⟩ := p_become (S := S) (w := 14) hW (by omega)
  obtain ⟨S2, g1, g2, g3, g4⟩ := p_best (st := st) (n := nW L) k 12 ((st 0 + (tW L).length) % 2) S1 (gW' L st) k2 (by omega) (by omega) (h.2.1.fw e3) e2
  have F2 : Fr1 PCs S S2 := (e3.p1 (by omega)).tr (g3.mono (fun k i z => by unfold P15 at z; unfold PCs; omega)).1
  have hcl : cl (iI (k : Int)) = k := by rw [cl_iI (by omega) (by omega)]; rfl
  have eP : f_X2_playOn (tW L).length (iI k) (iI ((st 0 + (tW L).length) % 2 : Nat)) S = some (iI (vS st (nW L) k ((st 0 + (tW L).length) % 2) (gW' L st)), us S2 107 0 0 (iI (byS st (nW L) (k - 1) ((st 0 + (tW L).length) % 2) (gW' L st)))) := by
    unfold f_X2_playOn
    rw [e1, bn_s, lt_b, if_neg (by rw [i_3, iI_lt (by omega) (by omega) (by omega) (by omega)]; omega), g1, bn2_s, jn_b, jn_b, if_neg (by rw [i_0, iI_lt (by omega) (by omega) (by omega) (by omega)]; omega), if_neg (by rw [i_4, iI_le (by omega) (by omega) (by omega) (by omega)]; omega), vi_iI (by omega) (by omega) (by omega), ck_t, hcl]; (try dsimp only); rw [lt_b, g4 (k - 1) (by omega)]
  refine ⟨us S2 107 0 0 (iI (byS st (nW L) (k - 1) ((st 0 + (tW L).length) % 2) (gW' L st))), ?_, F2.tr (Fr1.us (by unfold PCs; omega))⟩
  unfold f_X10_sides f_X1_turnCount sdA
  rw [show f_X10_within (iI (k : Int)) (1 : Int32) (3 : Int32) S = _ from p_within (a := 1) (b := 3) S (by omega) (by omega) (by omega) (by omega) (by omega) (by omega), bn_s, b2i_p (by omega), if_neg z10', show f_X10_within (iI w) (0 : Int32) (1 : Int32) S = _ from p_within (a := 0) (b := 1) S (by omega) (by omega) (by omega) (by omega) (by omega) (by omega), bn_s, b2i_p (by omega), if_neg z10', p_last h, bn_s, decide_eq_true (show (tW L).length < 16 by omega), ck_t, h.2.2.2.2.1.1, bn_s, p_brotherOf h.2.1 (by omega), bn_s, eP, bn2_s]
  by_cases q : w = 0
  · rw [if_pos (by rw [q]; rfl), if_pos q]
  · rw [if_neg (by rw [i_0, iI_eq (by omega) (by omega) (by omega) (by omega)]; omega), if_neg q]
    unfold f_X2_firstMove
    rw [bn_s, us_same]
