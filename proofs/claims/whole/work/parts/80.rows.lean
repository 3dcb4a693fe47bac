/-! rows of numbers, none less than the one ahead: searching and counting on -/
abbrev wF : Type := Nat → List Nat
def fs {α : Type} (g : Nat → Option α) : Nat → Nat → Option α
  | 0, _ => none
  | d + 1, x => (match g x with | some r => some r | none => fs g d (x + 1))
theorem fs_n {α : Type} {g : Nat → Option α} {d x : Nat} (h : g x = none) : fs g (d + 1) x = fs g d (x + 1) := by rw [fs, h]
theorem fs_y {α : Type} {g : Nat → Option α} {d x : Nat} {r : α} (h : g x = some r) : fs g (d + 1) x = some r := by rw [fs, h]
theorem fs_range {α : Type} (g : Nat → Option α) : ∀ (d x : Nat), (List.range' x d).findSome? g = fs g d x := by
  intro d
  induction d with
  | zero => intro x; rfl
  | succ d ih =>
    intro x
    rw [List.range'_succ, List.findSome?_cons]
    unfold fs
    rw [ih]
    cases g x <;> rfl
def sr (step : wF → Nat → Option wF) (test : wF → Bool) (M : Nat) : Nat → Nat → wF → Option (List Nat)
  | 0, _, f => if test f = true then some [] else none
  | k + 1, lo, f => fs (fun x => (step f x).bind (fun f' => (sr step test M k x f').map (List.cons x))) (M - lo) lo
def goF (step : wF → Nat → Option wF) : List Nat → wF → Option wF
  | [], f => some f
  | x :: l, f => (step f x).bind (goF step l)
def gdR (step : wF → Nat → Option wF) (test : wF → Bool) (l : List Nat) (f : wF) : Bool := (match goF step l f with | some f' => test f' | none => false)
def en (M : Nat) : Nat → Nat → List (List Nat)
  | 0, _ => [[]]
  | k + 1, lo => (List.range' lo (M - lo)).flatMap (fun x => (en M k x).map (List.cons x))
theorem sr_en (step : wF → Nat → Option wF) (test : wF → Bool) (M : Nat) : ∀ (k lo : Nat) (f : wF), sr step test M k lo f = (en M k lo).find? (fun l => gdR step test l f) := by
  intro k
  induction k with
  | zero =>
    intro lo f
    show (if test f = true then some [] else none) = ([[]] : List (List Nat)).find? (fun l => gdR step test l f)
    rw [List.find?_cons]
    have e : gdR step test [] f = test f := rfl
    rw [e]
    cases test f <;> rfl
  | succ k ih =>
    intro lo f
    unfold sr en
    rw [List.find?_flatMap, fs_range]
    congr 1
    funext x
    rw [List.find?_map]
    cases hs : step f x with
    | none =>
      have e : (fun l => gdR step test l f) ∘ List.cons x = fun _ => false := by
        funext l
        show gdR step test (x :: l) f = false
        unfold gdR goF
        rw [hs]
        rfl
      rw [e]
      have e2 : (en M k x).find? (fun _ => false) = none := by rw [List.find?_eq_none]; intro a ha; simp
      rw [e2]
      rfl
    | some f' =>
      have e : (fun l => gdR step test l f) ∘ List.cons x = fun l => gdR step test l f' := by
        funext l
        show gdR step test (x :: l) f = gdR step test l f'
        unfold gdR
        show (match (step f x).bind (goF step l) with | some f' => test f' | none => false) = _
        rw [hs]
        rfl
      rw [e, ← ih]
      rfl
theorem en_len (M : Nat) : ∀ (k lo : Nat) (r : List Nat), r ∈ en M k lo → r.length = k ∧ ∀ x ∈ r, x < M := by
  intro k
  induction k with
  | zero =>
    intro lo r h
    unfold en at h
    rw [List.mem_singleton] at h
    subst h
    exact ⟨rfl, fun x hx => absurd hx (by simp)⟩
  | succ k ih =>
    intro lo r h
    unfold en at h
    rw [List.mem_flatMap] at h
    obtain ⟨x, hx, h⟩ := h
    rw [List.mem_map] at h
    obtain ⟨l, hl, h⟩ := h
    subst h
    obtain ⟨a, b⟩ := ih x l hl
    rw [List.mem_range'_1] at hx
    refine ⟨by rw [List.length_cons, a], fun y hy => ?_⟩
    rcases List.mem_cons.mp hy with e | e
    · rw [e]; omega
    · exact b y e
/-- the row behind a row -/
def nxR (M1 : Nat) : List Nat → Option (List Nat)
  | [] => none
  | x :: l => (match nxR M1 l with | some l' => some (x :: l') | none => if x < M1 then some (List.replicate (l.length + 1) (x + 1)) else none)
def Ch (M1 : Nat) : List (List Nat) → Prop
  | [] => True
  | a :: t => (match t with | [] => nxR M1 a = none | b :: _ => nxR M1 a = some b) ∧ Ch M1 t
theorem ch_app {M1 k x : Nat} {B : List (List Nat)} (hB : (B = [] ∧ ¬ x < M1) ∨ (x < M1 ∧ Ch M1 B ∧ ∃ t, B = List.replicate (k + 1) (x + 1) :: t)) : ∀ (l : List (List Nat)), l ≠ [] → Ch M1 l → (∀ r ∈ l, r.length = k) → Ch M1 (l.map (List.cons x) ++ B) := by
  intro l
  induction l with
  | nil => intro h; exact absurd rfl h
  | cons a t ih =>
    intro _ hc hl
    have ha := hl a (List.mem_cons_self)
    unfold Ch at hc
    obtain ⟨h1, h2⟩ := hc
    cases t with
    | nil =>
      have h1 : nxR M1 a = none := h1
      have e : nxR M1 (x :: a) = if x < M1 then some (List.replicate (a.length + 1) (x + 1)) else none := by
        show (match nxR M1 a with | some l' => some (x :: l') | none => if x < M1 then some (List.replicate (a.length + 1) (x + 1)) else none) = _
        rw [h1]
      rcases hB with ⟨hb, hx⟩ | ⟨hx, hc, t', ht⟩
      · subst hb
        show Ch M1 [x :: a]
        unfold Ch
        refine ⟨?_, by unfold Ch; trivial⟩
        show nxR M1 (x :: a) = none
        rw [e, if_neg hx]
      · subst ht
        show Ch M1 ((x :: a) :: List.replicate (k + 1) (x + 1) :: t')
        unfold Ch
        refine ⟨?_, hc⟩
        show nxR M1 (x :: a) = some (List.replicate (k + 1) (x + 1))
        rw [e, if_pos hx, ha]
    | cons b t =>
      have h1 : nxR M1 a = some b := h1
      have e : nxR M1 (x :: a) = some (x :: b) := by
        show (match nxR M1 a with | some l' => some (x :: l') | none => if x < M1 then some (List.replicate (a.length + 1) (x + 1)) else none) = _
        rw [h1]
      have g := ih (by simp) h2 (fun r hr => hl r (List.mem_cons_of_mem _ hr))
      show Ch M1 ((x :: a) :: (x :: b) :: (t.map (List.cons x) ++ B))
      unfold Ch
      exact ⟨e, g⟩
theorem ch_en (M1 : Nat) : ∀ (k lo : Nat), lo ≤ M1 → (∃ t, en (M1 + 1) k lo = List.replicate k lo :: t) ∧ Ch M1 (en (M1 + 1) k lo) := by
  intro k
  induction k with
  | zero =>
    intro lo h
    refine ⟨⟨[], rfl⟩, ?_⟩
    unfold en Ch
    exact ⟨rfl, by unfold Ch; trivial⟩
  | succ k ih =>
    have key : ∀ (d lo : Nat), lo + d = M1 → (∃ t, (List.range' lo (d + 1)).flatMap (fun x => (en (M1 + 1) k x).map (List.cons x)) = List.replicate (k + 1) lo :: t) ∧ Ch M1 ((List.range' lo (d + 1)).flatMap (fun x => (en (M1 + 1) k x).map (List.cons x))) := by
      intro d
      induction d with
      | zero =>
        intro lo h
        obtain ⟨⟨t, e⟩, hc⟩ := ih lo (by omega)
        have e1 : (List.range' lo (0 + 1)).flatMap (fun x => (en (M1 + 1) k x).map (List.cons x)) = (en (M1 + 1) k lo).map (List.cons lo) ++ [] := by
          rw [List.range'_succ, List.flatMap_cons]; rfl
        rw [e1]
        refine ⟨⟨t.map (List.cons lo) ++ [], ?_⟩, ch_app (k := k) (Or.inl ⟨rfl, by omega⟩) _ (by rw [e]; simp) hc (fun r hr => (en_len _ _ _ r hr).1)⟩
        rw [e]
        rfl
      | succ d ihd =>
        intro lo h
        obtain ⟨⟨t, e⟩, hc⟩ := ih lo (by omega)
        obtain ⟨⟨t', e'⟩, hc'⟩ := ihd (lo + 1) (by omega)
        have e1 : (List.range' lo (d + 1 + 1)).flatMap (fun x => (en (M1 + 1) k x).map (List.cons x)) = (en (M1 + 1) k lo).map (List.cons lo) ++ (List.range' (lo + 1) (d + 1)).flatMap (fun x => (en (M1 + 1) k x).map (List.cons x)) := by
          rw [List.range'_succ, List.flatMap_cons]
        rw [e1]
        refine ⟨⟨t.map (List.cons lo) ++ (List.range' (lo + 1) (d + 1)).flatMap (fun x => (en (M1 + 1) k x).map (List.cons x)), ?_⟩, ch_app (k := k) (Or.inr ⟨by omega, hc', t', e'⟩) _ (by rw [e]; simp) hc (fun r hr => (en_len _ _ _ r hr).1)⟩
        rw [e]
        rfl
    intro lo h
    have := key (M1 - lo) lo (by omega)
    rw [show M1 - lo + 1 = M1 + 1 - lo by omega] at this
    exact this
theorem en_16 : (en 16 0 0).length ≤ 1000 ∧ (en 16 1 0).length ≤ 1000 ∧ (en 16 2 0).length ≤ 1000 ∧ (en 16 3 0).length ≤ 1000 := by decide +kernel
theorem en_8 : (en 8 0 0).length ≤ 1000 ∧ (en 8 1 0).length ≤ 1000 ∧ (en 8 2 0).length ≤ 1000 ∧ (en 8 3 0).length ≤ 1000 := by decide +kernel
/-- the first number of items with a row -/
def plF (F : Nat → Option (List Nat)) : Nat → Nat → Option (List Nat)
  | 0, _ => none
  | d + 1, N => (match F N with | some r => some r | none => plF F d (N + 1))
theorem plF_n {F : Nat → Option (List Nat)} {d N : Nat} (h : F N = none) : plF F (d + 1) N = plF F d (N + 1) := by rw [plF, h]
theorem plF_y {F : Nat → Option (List Nat)} {d N : Nat} {r : List Nat} (h : F N = some r) : plF F (d + 1) N = some r := by rw [plF, h]
def plA (o : Option (List Nat)) (i : Int) : Int32 := (match o with | none => iI (-1) | some r => if i = -1 then iI r.length else if i < r.length then iI (nth r i.toNat) else iI (-1))
def stM (n : Nat) (f : wF) (x : Nat) : Option wF := putF n f ((x % 8 : Nat) : Int) (x / 8)
def stO (n : Nat) (f : wF) (x : Nat) : Option wF := if x < n ∧ f x ≠ [] then some (upf f x (f x).dropLast) else none
def tsO (st : Nat → Nat) (n p : Nat) (f : wF) : Bool := decide (p ≤ pears st n f) && stB st n f
def mdF (st : Nat → Nat) (n : Nat) (f : wF) : Option (List Nat) := plF (fun N => sr (stM n) (stB st n) 16 N 0 f) 4 0
def opF (st : Nat → Nat) (n p : Nat) (f : wF) : Option (List Nat) := plF (fun N => sr (stO n) (tsO st n p) 8 N 0 f) 4 0
