/-! two who answer each other: the reference -/
def goV (n : Nat) : Nat → List Nat → wF → Option wF
  | _, [], f => some f
  | who, m :: ds, f => (mvS n who f m).bind (goV n (1 - who) ds)
def edV (st : Nat → Nat) (n who : Nat) (ds : List Nat) (f : wF) : Int := (match goV n who ds f with | none => -9 | some f' => tV st n f')
def cod : List Nat → Nat
  | [] => 0
  | m :: ds => m * 9 ^ ds.length + cod ds
def scl (ds : List Nat) : Nat := 9 ^ ds.length / 9
theorem cod_lt : ∀ (ds : List Nat), (∀ m ∈ ds, m < 9) → cod ds < 9 ^ ds.length := by
  intro ds
  induction ds with
  | nil => intro h; exact Nat.one_pos
  | cons m ds ih =>
    intro h
    have h1 := ih (fun x hx => h x (List.mem_cons_of_mem _ hx))
    have h2 := h m (List.mem_cons_self)
    unfold cod
    rw [List.length_cons, Nat.pow_succ]
    have : m * 9 ^ ds.length ≤ 8 * 9 ^ ds.length := Nat.mul_le_mul_right _ (by omega)
    omega
theorem cod_div {m : Nat} {ds : List Nat} (h : ∀ x ∈ ds, x < 9) : cod (m :: ds) / 9 ^ ds.length = m ∧ cod (m :: ds) % 9 ^ ds.length = cod ds := by
  have h1 := cod_lt ds h
  have h2 : 0 < 9 ^ ds.length := Nat.pos_of_ne_zero (by intro z; rw [z] at h1; omega)
  have e : cod (m :: ds) = cod ds + 9 ^ ds.length * m := by
    show m * 9 ^ ds.length + cod ds = _
    rw [Nat.mul_comm m, Nat.add_comm]
  rw [e, Nat.add_mul_div_left _ _ h2, Nat.add_mul_mod_self_left, Nat.div_eq_of_lt h1, Nat.mod_eq_of_lt h1]
  exact ⟨by omega, rfl⟩
theorem pow9 {k : Nat} (h : k ≤ 3) : 1 ≤ 9 ^ k ∧ 9 ^ k ≤ 729 := by
  rcases (show k = 0 ∨ k = 1 ∨ k = 2 ∨ k = 3 by omega) with rfl | rfl | rfl | rfl <;> decide
theorem nz_9 : nz (9 : Int32) = true := by decide
theorem nz_big {a : Nat} (h0 : 0 < a) (h : a < 100000) : nz (iI (a : Int)) = true := by
  unfold nz
  rw [decide_eq_false (by rw [i_0, iI_eq (by omega) (by omega) (by omega) (by omega)]; omega)]
  rfl
theorem jn_ite3 {α β : Type} {F : α → β} {c d : Prop} [Decidable c] [Decidable d] {a b e : α} : jn F (fun j => if c then j a else if d then j b else j e) = F (if c then a else if d then b else e) := by
  unfold jn
  split
  · rfl
  · split <;> rfl
theorem scl_c (m : Nat) (ds : List Nat) : scl (m :: ds) = 9 ^ ds.length := by
  unfold scl
  rw [List.length_cons, Nat.pow_succ, Nat.mul_div_cancel _ (by omega)]
theorem m_endOf_l {L : Nat → List Nat} {st : Nat → Nat} {sg : List (Nat × Nat × Nat)} {n : Nat} (hn : n ≤ 3) (J : Int32 → sT → Option (Int32 × sT)) : ∀ (ds : List Nat) (i m : Nat) (S : sT) (o : Option wF), RD S L st sg → (∀ x ∈ ds, x < 9) → i + ds.length = n → ds.length < m → (∀ f, o = some f → RM S (nW L) f) → ∃ S', l_X11_endOf_39 (iI n) J m (iI (b2i o.isSome)) (iI (cod ds)) (iI (scl ds)) (iI i) S = J (iI (b2i (o.bind (goV (nW L) ((st 0 + ((tW L).length + i)) % 2) ds)).isSome)) S' ∧ Fr PL S S' ∧ ∀ f', o.bind (goV (nW L) ((st 0 + ((tW L).length + i)) % 2) ds) = some f' → RM S' (nW L) f' := by
  intro ds
  induction ds with
  | nil =>
    intro i m S o hD hds hi hm hW
    rw [List.length_nil] at hi hm
    obtain ⟨m, rfl⟩ : ∃ m', m = m' + 1 := ⟨m - 1, by omega⟩
    have e : o.bind (goV (nW L) ((st 0 + ((tW L).length + i)) % 2) []) = o := by cases o <;> rfl
    rw [e]
    refine ⟨S, ?_, Fr.rf, hW⟩
    rw [l_X11_endOf_39_s]
    unfold b_X11_endOf_39
    rw [if_pos (by rw [iI_le (by omega) (by omega) (by omega) (by omega)]; omega)]
  | cons c ds ih =>
    intro i m S o hD hds hi hm hW
    rw [List.length_cons] at hi hm
    obtain ⟨m, rfl⟩ : ∃ m', m = m' + 1 := ⟨m - 1, by omega⟩
    have hds' : ∀ x ∈ ds, x < 9 := fun x hx => hds x (List.mem_cons_of_mem _ hx)
    have hc := hds c (List.mem_cons_self)
    obtain ⟨p1, p2⟩ := pow9 (k := ds.length) (by omega)
    obtain ⟨d1, d2⟩ := cod_div (m := c) hds'
    have hlt := cod_lt (c :: ds) hds
    rw [List.length_cons] at hlt
    obtain ⟨p3, p4⟩ := pow9 (k := ds.length + 1) (by omega)
    have h12 : (tW L).length ≤ 12 := (parseT_ok (L 1)).1
    obtain ⟨s0, -, -, -, -, -⟩ := m_set hD.2.2.1
    obtain ⟨v1, v2, v3, v4, v5, v0⟩ := v6
    have r0 := (hD.2.2.1 0 (by omega)).2
    have ew : (st 0 : Int) + ((tW L).length : Int) + (i : Int) = ((st 0 + ((tW L).length + i) : Nat) : Int) := by omega
    have eq1 : iI (cod (c :: ds) : Int) / iI ((9 ^ ds.length : Nat) : Int) = iI (c : Int) := by
      have := pk_div (a := cod (c :: ds)) (d := 9 ^ ds.length) (by omega) (by omega) (by omega)
      rw [d1] at this
      exact this
    have eq2 : iI (cod (c :: ds) : Int) - iI (c : Int) * iI ((9 ^ ds.length : Nat) : Int) = iI (cod ds : Int) := by
      have := pk_rem (a := cod (c :: ds)) (d := 9 ^ ds.length) (by omega) (by omega) (by omega)
      rw [d2] at this
      rw [← eq1]
      exact this
    have eq3 : iI ((9 ^ ds.length : Nat) : Int) / (9 : Int32) = iI (scl ds : Int) := pk_div (a := 9 ^ ds.length) (d := 9) (by omega) (by omega) (by omega)
    have hb : ∀ f, (some f : Option wF).bind (goV (nW L) ((st 0 + ((tW L).length + i)) % 2) (c :: ds)) = (mvS (nW L) ((st 0 + ((tW L).length + i)) % 2) f c).bind (goV (nW L) ((st 0 + ((tW L).length + (i + 1))) % 2) ds) := by
      intro f
      show (mvS (nW L) ((st 0 + ((tW L).length + i)) % 2) f c).bind (goV (nW L) (1 - (st 0 + ((tW L).length + i)) % 2) ds) = _
      rw [show 1 - (st 0 + ((tW L).length + i)) % 2 = (st 0 + ((tW L).length + (i + 1))) % 2 by omega]
    rw [l_X11_endOf_39_s]
    unfold b_X11_endOf_39
    rw [if_neg (by rw [iI_le (by omega) (by omega) (by omega) (by omega)]; omega), scl_c, nz_big (by omega) (by omega), ck_t, lt_b, ck_t, eq1, lt_b, eq2, nz_9, ck_t, eq3, lt_b, v0, ck_t, nz_2, ck_t, s0, hD.2.1.1, iI_add, iI_add, ew, iI_rem2 (by omega), lt_b, jn_b, jn_b, show iI (i : Int) + (1 : Int32) = iI ((i + 1 : Nat) : Int) by rw [i_1, iI_add]; rfl]
    simp only [lt_b]
    -- go on with what is left of the wall
    have go : ∀ (S1 : sT) (o' : Option wF), Fr PL S S1 → (∀ f, o' = some f → RM S1 (nW L) f) → ∃ S', l_X11_endOf_39 (iI n) J m (iI (b2i o'.isSome)) (iI (cod ds)) (iI (scl ds)) (iI ((i + 1 : Nat) : Int)) S1 = J (iI (b2i (o'.bind (goV (nW L) ((st 0 + ((tW L).length + (i + 1))) % 2) ds)).isSome)) S' ∧ Fr PL S S' ∧ ∀ f', o'.bind (goV (nW L) ((st 0 + ((tW L).length + (i + 1))) % 2) ds) = some f' → RM S' (nW L) f' := by
      intro S1 o' F1 hW1
      obtain ⟨S', g1, g2, g3⟩ := ih (i + 1) m S1 o' (hD.fr (Fr1.mono F1.1 (fun k i z => by unfold PL at z; unfold PX; omega))) hds' (by omega) (by omega) hW1
      exact ⟨S', g1, F1.tr g2, g3⟩
    cases o with
    | none =>
      rw [if_pos (show iI (b2i (none : Option wF).isSome) = (0 : Int32) from rfl)]
      exact go S none Fr.rf (fun f h => by cases h)
    | some f =>
      rw [if_neg (show ¬ (iI (b2i (some f : Option wF).isSome) = (0 : Int32)) from z10), jn_b, hb]
      by_cases q8 : c = 8
      · have em : mvS (nW L) ((st 0 + ((tW L).length + i)) % 2) f c = some f := by unfold mvS; rw [if_pos q8]
        rw [if_pos (by rw [q8]; rfl), em]
        exact go S (some f) Fr.rf (fun f' h => hW f' h)
      · have em : mvS (nW L) ((st 0 + ((tW L).length + i)) % 2) f c = putF (nW L) f (c : Int) ((st 0 + ((tW L).length + i)) % 2) := by unfold mvS; rw [if_neg q8]
        rw [if_neg (by rw [i_8, iI_eq (by omega) (by omega) (by omega) (by omega)]; omega), em]
        obtain ⟨S1, e1, e2, e3⟩ := m_lays (hW f rfl) (who := (st 0 + ((tW L).length + i)) % 2) (by omega) (x := (st 0 + ((tW L).length + i)) % 2) (by omega) (z := (c : Int)) (by omega) (by omega)
        rw [if_pos (show (st 0 + ((tW L).length + i)) % 2 % 2 = (st 0 + ((tW L).length + i)) % 2 by omega)] at e1 e2
        rw [e1, bn2_s]
        cases hp : putF (nW L) f (c : Int) ((st 0 + ((tW L).length + i)) % 2) with
        | none =>
          rw [if_pos (show iI (b2i (none : Option wF).isSome) = (0 : Int32) from rfl)]
          exact go S1 none e3 (fun f h => by cases h)
        | some f1 =>
          rw [hp] at e2
          rw [if_neg (show ¬ (iI (b2i (some f1 : Option wF).isSome) = (0 : Int32)) from z10)]
          exact go S1 (some f1) e3 (fun f' h => by have : f1 = f' := Option.some.inj h; rw [← this]; exact e2)
theorem m_endOf {S : sT} {L : Nat → List Nat} {st : Nat → Nat} {sg : List (Nat × Nat × Nat)} {ds : List Nat} (hD : RD S L st sg) (h9 : R9 S) (hds : ∀ x ∈ ds, x < 9) (h1 : 1 ≤ ds.length) (h3 : ds.length ≤ 3) : ∃ S', f_X11_endOf (iI (cod ds)) (iI ds.length) S = some (iI (edV st (nW L) ((st 0 + (tW L).length) % 2) ds (gW' L st)), S') ∧ Fr PM S S' := by
  have hF : 1000 < FU := by unfold FU; omega
  obtain ⟨S1, a1, a2, a3, a4⟩ := hD.lives h9.ho (Nat.le_refl _)
  obtain ⟨S', g1, g2, g3⟩ := m_endOf_l (n := ds.length) h3 (fun (x4 : Int32) (S5 : sT) => (if x4 = (0 : Int32) then some ((-9 : Int32), S5) else bn (f_X11_weakNow S5) (fun r7 => (if r7 = (0 : Int32) then bn (f_X11_pearsNow S5) (fun r9 => some (r9, S5)) else some ((-1 : Int32), S5))))) ds 0 FU S1 (some (gW' L st)) a3 hds (by omega) (by omega) (fun f h => by have : gW' L st = f := Option.some.inj h; rw [← this]; exact a2)
  have F : Fr PM S S' := a4.tr (PL.pm g2)
  refine ⟨S', ?_, F⟩
  unfold f_X11_endOf
  have es : (if iI (ds.length : Int) = (1 : Int32) then (1 : Int32) else if iI (ds.length : Int) = (2 : Int32) then (9 : Int32) else (81 : Int32)) = iI (scl ds : Int) := by
    unfold scl
    rcases (show ds.length = 1 ∨ ds.length = 2 ∨ ds.length = 3 by omega) with e | e | e
    · rw [e]; rfl
    · rw [e]; rfl
    · rw [e]; rfl
  rw [hD.2.1.1, a1, bn_s, jn_ite3, es, jn_b]
  rw [show iI (b2i (some (gW' L st) : Option wF).isSome) = (1 : Int32) from rfl, show iI ((0 : Nat) : Int) = (0 : Int32) from rfl] at g1
  rw [show (some (gW' L st) : Option wF).bind (goV (nW L) ((st 0 + ((tW L).length + 0)) % 2) ds) = goV (nW L) ((st 0 + (tW L).length) % 2) ds (gW' L st) from rfl] at g1 g3
  rw [g1]; (try dsimp only)
  unfold edV
  cases hg : goV (nW L) ((st 0 + (tW L).length) % 2) ds (gW' L st) with
  | none =>
    rw [if_pos (show iI (b2i (none : Option wF).isSome) = (0 : Int32) from rfl)]
    rfl
  | some f' =>
    have hn := (g3 f' hg).1
    have hM : MS S' st := ((hD.fr (Fr1.mono F.1 PM_px)).2.2.1)
    rw [if_neg (show ¬ (iI (b2i (some f' : Option wF).isSome) = (0 : Int32)) from z10), m_weakNow (g3 f' hg) hM, bn_s, m_pearsNow (g3 f' hg) hM, bn_s]
    show _ = some (iI (tV st (nW L) f'), S')
    unfold tV
    by_cases q : stB st (nW L) f' = true
    · rw [if_pos ((stB_0 hn).mpr q), if_pos q]
    · rw [if_neg (fun z => q ((stB_0 hn).mp z)), if_neg q]
      rfl
/-- the best, told by -9 where nothing may be done -/
def bzU (who : Nat) (v : Int) (x : Nat) (p : Int × Int) : Int × Int := if v = -9 then p else if p.1 = -9 ∨ bet who v p.1 = true then (v, (x : Int)) else p
def bz (who : Nat) (h : Nat → Int) : Nat → Nat → Int × Int → Int × Int
  | 0, _, p => p
  | d + 1, x, p => bz who h d (x + 1) (bzU who (h x) x p)
theorem bz_b {who : Nat} {h : Nat → Int} (hh : ∀ m, -9 ≤ h m ∧ h m ≤ 8) : ∀ (d x : Nat) (p : Int × Int), -9 ≤ p.1 → p.1 ≤ 8 → -9 ≤ (bz who h d x p).1 ∧ (bz who h d x p).1 ≤ 8 := by
  intro d
  induction d with
  | zero => intro x p h1 h2; exact ⟨h1, h2⟩
  | succ d ih =>
    intro x p h1 h2
    have := hh x
    unfold bz
    apply ih
    · unfold bzU
      split
      · exact h1
      · split
        · exact this.1
        · exact h1
    · unfold bzU
      split
      · exact h2
      · split
        · exact this.2
        · exact h2
theorem bz_none {who : Nat} : ∀ (d x : Nat) (p : Int × Int), bz who (fun _ => -9) d x p = p := by
  intro d
  induction d with
  | zero => intro x p; rfl
  | succ d ih =>
    intro x p
    unfold bz
    rw [ih]
    unfold bzU
    rw [if_pos rfl]
theorem bz_last {who : Nat} {c : Int} : (bz who (fun x => if x < 8 then -9 else c) 9 0 (-9, -1)).1 = c := by
  have e : ∀ (d x : Nat), x + d = 8 → bz who (fun x => if x < 8 then -9 else c) (d + 1) x (-9, -1) = bzU who c 8 (-9, -1) := by
    intro d
    induction d with
    | zero =>
      intro x h
      have : x = 8 := by omega
      subst this
      unfold bz bz
      rw [if_neg (by omega)]
    | succ d ih =>
      intro x h
      unfold bz
      have e2 : bzU who (if x < 8 then -9 else c) x (-9, -1) = (-9, -1) := by
        unfold bzU
        rw [if_pos (by rw [if_pos (by omega)])]
      rw [e2]
      exact ih (x + 1) (by omega)
  rw [e 8 0 rfl]
  unfold bzU
  by_cases q : c = -9
  · rw [if_pos q, q]
  · rw [if_neg q, if_pos (Or.inl rfl)]
theorem bz_bs {who : Nat} {g : Nat → Option Int} (hg : ∀ m v, g m = some v → -1 ≤ v) (h8 : (g 8).isSome = true) : ∀ (d x : Nat) (p q : Int × Int), x + d = 8 → ((q.2 = -1 ∧ p = (-9, -1)) ∨ (q.2 ≠ -1 ∧ p = q ∧ -1 ≤ q.1)) → bz who (fun m => (g m).getD (-9)) (d + 1) x p = bs who g (d + 1) x q := by
  have step : ∀ (x : Nat) (p q : Int × Int), ((q.2 = -1 ∧ p = (-9, -1)) ∨ (q.2 ≠ -1 ∧ p = q ∧ -1 ≤ q.1)) → (((bsU who (g x) x q).2 = -1 ∧ bzU who ((g x).getD (-9)) x p = (-9, -1)) ∨ ((bsU who (g x) x q).2 ≠ -1 ∧ bzU who ((g x).getD (-9)) x p = bsU who (g x) x q ∧ -1 ≤ (bsU who (g x) x q).1)) ∧ ((g x).isSome = true → bzU who ((g x).getD (-9)) x p = bsU who (g x) x q) := by
    intro x p q h
    cases hx : g x with
    | none =>
      refine ⟨?_, fun z => by cases z⟩
      unfold bzU bsU
      rw [show (none : Option Int).getD (-9) = -9 from rfl, if_pos rfl]
      exact h
    | some v =>
      have hv := hg x v hx
      have hv9 : ¬ (v = -9) := by omega
      unfold bzU bsU
      rw [show (some v : Option Int).getD (-9) = v from rfl, if_neg hv9]
      simp only
      rcases h with ⟨h1, h2⟩ | ⟨h1, h2, h3⟩
      · rw [h2, if_pos (Or.inl h1), if_pos (Or.inl rfl)]
        exact ⟨Or.inr ⟨by show ¬ ((x : Int) = -1); omega, rfl, hv⟩, fun _ => rfl⟩
      · rw [h2]
        have hq9 : ¬ (q.1 = -9) := by omega
        by_cases hb : bet who v q.1 = true
        · rw [if_pos (Or.inr hb), if_pos (Or.inr hb)]
          exact ⟨Or.inr ⟨by show ¬ ((x : Int) = -1); omega, rfl, hv⟩, fun _ => rfl⟩
        · rw [if_neg (fun z => z.elim h1 hb), if_neg (fun z => z.elim hq9 hb)]
          exact ⟨Or.inr ⟨h1, rfl, h3⟩, fun _ => rfl⟩
  intro d
  induction d with
  | zero =>
    intro x p q hx h
    have : x = 8 := by omega
    subst this
    unfold bz bs bz bs
    exact (step 8 p q h).2 h8
  | succ d ih =>
    intro x p q hx h
    unfold bz bs
    exact ih (x + 1) _ _ (by omega) (step x p q h).1
/-- the levels of the reference's loops -/
def lvS : Nat → Nat → (List Nat → Int) → Int
  | 0, _, e => e []
  | k + 1, who, e => (bz who (fun m => lvS k (1 - who) (fun ds => e (m :: ds))) 9 0 (-9, -1)).1
theorem lv_none : ∀ (k who : Nat), lvS k who (fun _ => -9) = -9 := by
  intro k
  induction k with
  | zero => intro who; rfl
  | succ k ih =>
    intro who
    unfold lvS
    have e : (fun m : Nat => lvS k (1 - who) (fun ds => (fun _ => (-9 : Int)) (m :: ds))) = fun _ => -9 := by
      funext m
      exact ih (1 - who)
    rw [e, bz_none]
theorem lv_ed {st : Nat → Nat} {n : Nat} (hn : n ≤ 8) : ∀ (k who : Nat) (f : wF), lvS k who (fun ds => edV st n who ds f) = vS st n k who f ∧ ∀ k', k = k' + 1 → bz who (fun m => lvS k' (1 - who) (fun ds => edV st n who (m :: ds) f)) 9 0 (-9, -1) = bs who (fun m => (mvS n who f m).map (vS st n k' (1 - who))) 9 0 (0, -1) := by
  intro k
  induction k with
  | zero => intro who f; exact ⟨rfl, fun k' h => by omega⟩
  | succ k ih =>
    intro who f
    have key : bz who (fun m => lvS k (1 - who) (fun ds => edV st n who (m :: ds) f)) 9 0 (-9, -1) = bs who (fun m => (mvS n who f m).map (vS st n k (1 - who))) 9 0 (0, -1) := by
      have e : (fun m => lvS k (1 - who) (fun ds => edV st n who (m :: ds) f)) = fun m => ((mvS n who f m).map (vS st n k (1 - who))).getD (-9) := by
        funext m
        cases hm : mvS n who f m with
        | none =>
          have e2 : (fun ds => edV st n who (m :: ds) f) = fun _ => -9 := by
            funext ds
            unfold edV
            show (match (mvS n who f m).bind (goV n (1 - who) ds) with | none => (-9 : Int) | some f' => tV st n f') = -9
            rw [hm]
            rfl
          rw [e2, lv_none]
          rfl
        | some f' =>
          have e2 : (fun ds => edV st n who (m :: ds) f) = fun ds => edV st n (1 - who) ds f' := by
            funext ds
            unfold edV
            show (match (mvS n who f m).bind (goV n (1 - who) ds) with | none => (-9 : Int) | some f' => tV st n f') = _
            rw [hm]
            rfl
          rw [e2, (ih (1 - who) f').1]
          rfl
      rw [e]
      refine bz_bs ?_ ?_ 8 0 _ _ rfl (Or.inl ⟨rfl, rfl⟩)
      · intro m v hv
        cases hm : mvS n who f m with
        | none => rw [hm] at hv; cases hv
        | some f' =>
          rw [hm] at hv
          have : vS st n k (1 - who) f' = v := Option.some.inj hv
          rw [← this]
          exact (vS_b hn _ _ _).1
      · unfold mvS
        rw [if_pos rfl]
        rfl
    refine ⟨?_, fun k' h => ?_⟩
    · unfold lvS vS
      rw [key]
    · have : k' = k := by omega
      subst this
      exact key
