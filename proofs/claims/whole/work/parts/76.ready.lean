/-! the class between two commands, the reference behind its reading; what each may touch -/
def Fr1 (P : Nat → Nat → Prop) (S S' : sT) : Prop := ∀ k i, ¬ P k i → S'.1 k i = S.1 k i
theorem Fr1.rf {P : Nat → Nat → Prop} {S : sT} : Fr1 P S S := fun _ _ _ => rfl
theorem Fr1.tr {P : Nat → Nat → Prop} {S S1 S2 : sT} (h1 : Fr1 P S S1) (h2 : Fr1 P S1 S2) : Fr1 P S S2 := fun k i h => (h2 k i h).trans (h1 k i h)
theorem Fr1.mono {P P' : Nat → Nat → Prop} {S S' : sT} (h : Fr1 P S S') (hP : ∀ k i, P k i → P' k i) : Fr1 P' S S' := fun k i q => h k i (fun z => q (hP k i z))
theorem Fr1.fr {P : Nat → Nat → Prop} {S S' : sT} (h : Fr1 P S S') : Fr P S (S'.1, S.2) := ⟨h, rfl⟩
theorem Fr1.us {P : Nat → Nat → Prop} {S : sT} {k w b : Nat} {v : Int32} (h : P k w) : Fr1 P S (us S k w b v) := (Fr.us h).1
theorem Fr1.ul {P : Nat → Nat → Prop} {S : sT} {k : Nat} {v : Int64} : Fr1 P S (ul S k v) := fun _ _ _ => rfl
/-- scratch of the class -/
theorem ck_t' {α : Type} {b : Bool} {k : Option α} (h : b = true) : ck b k = k := by rw [h]; rfl
theorem jn_ite {α β : Type} {F : α → β} {c : Prop} [Decidable c] {a b : α} : jn F (fun j => if c then j a else j b) = F (if c then a else b) := by
  unfold jn
  split <;> rfl
def PCs : Nat → Nat → Prop := fun k i => (29 ≤ k ∧ k ≤ 32 ∨ k = 112) ∧ 13 ≤ i ∨ k = 20 ∨ k = 21 ∨ 106 ≤ k ∧ k ≤ 109
/-- scratch of the reference -/
def PX : Nat → Nat → Prop := fun k _ => k = 43 ∨ k = 44 ∨ k = 45 ∨ 117 ≤ k ∧ k ≤ 120 ∨ k = 122
theorem PM_px : ∀ k i, PM k i → PX k i := fun k i z => by unfold PM at z; unfold PX; omega
theorem PCs_lo : Lo PCs := by
  intro k i z
  unfold KC KM KG KH KF at z
  unfold PCs
  omega
def RD (S : sT) (L : Nat → List Nat) (st : Nat → Nat) (sg : List (Nat × Nat × Nat)) : Prop := RB S (nW L) (fW L) ∧ TM S (tW L) ∧ MS S st ∧ SGm S sg
def R9 (S : sT) : Prop := S.1 119 0 0 = iI (-1)
theorem RD.fr {S S' : sT} {L : Nat → List Nat} {st : Nat → Nat} {sg : List (Nat × Nat × Nat)} (h : RD S L st sg) (hF : Fr1 PX S S') : RD S' L st sg := by
  obtain ⟨h1, h2, h3, h4⟩ := h
  refine ⟨?_, ?_, ?_, ?_⟩
  · unfold RB
    rw [hF 115 0 (by unfold PX; omega), hF 40 0 (by unfold PX; omega), hF 39 0 (by unfold PX; omega)]
    exact h1
  · exact h2.kept (hF 116 0 (by unfold PX; omega)) (hF 41 0 (by unfold PX; omega))
  · unfold MS
    rw [hF 42 0 (by unfold PX; omega)]
    exact h3
  · unfold SGm
    rw [hF 121 0 (by unfold PX; omega), hF 46 0 (by unfold PX; omega)]
    exact h4
theorem R9.ho {S : sT} (h : R9 S) : HO S 99 0 := Or.inl ⟨h, rfl⟩
theorem CI.fr1 {S S' : sT} {L : Nat → List Nat} {st : Nat → Nat} (h : CI S L st) (hF : Fr1 PCs S S') : CI S' L st :=
  (h.fr (S' := (S'.1, S.2)) hF.fr (fun k i z => PCs_lo k i (Or.inl z)) : CI (S'.1, S.2) L st)
theorem SGc.fr1 {S S' : sT} {sg : List (Nat × Nat × Nat)} (h : SGc S sg) (hF : Fr1 PCs S S') : SGc S' sg := by
  unfold SGc
  rw [hF 110 0 (by unfold PCs; omega), hF 22 0 (by unfold PCs; omega), hF 23 0 (by unfold PCs; omega), hF 24 0 (by unfold PCs; omega)]
  exact h
theorem Inv.fr1 {S S' : sT} {P : Nat → Nat → Prop} (h : Inv S) (hF : Fr1 P S S') (hP : Lo P) : Inv S' :=
  (h.fr (S' := (S'.1, S.2)) hF.fr hP : Inv (S'.1, S.2))
/-- the reference's scratch, with the odd turn put back -/
theorem Inv.px {S S' : sT} (h : Inv S) (hF : Fr1 PX S S') (h9 : R9 S') : Inv S' := by
  obtain ⟨L, st, sg, h1, h2, h3, h4, h5⟩ := h
  have F := hF.fr
  have g1 : CI (S'.1, S.2) L st := h1.fr F (fun k i z => by unfold KC at z; unfold PX; omega)
  have g3 : SG (S'.1, S.2) sg := h3.fr F (fun k i z => by unfold KG at z; unfold PX; omega)
  have g4 : SH (S'.1, S.2) := h4.fr F (fun k i z => by unfold KH at z; unfold PX; omega)
  obtain ⟨a1, a2, a3⟩ := h2
  refine ⟨L, st, sg, g1, ⟨fun t ht => (?_ : MT (S'.1, S.2) t (L t)), fun k hk => ?_, h9⟩, g3, g4, ?_⟩
  · exact (a1 t ht).fr F ⟨by unfold PX; omega, by unfold PX; omega⟩
  · rw [hF 42 0 (by unfold PX; omega)]; exact a2 k hk
  · rw [hF 111 0 (by unfold PX; omega), hF 113 0 (by unfold PX; omega)]; exact h5
/-- what a command begins with -/
theorem opened2 {S : sT} (hI : Inv S) : ∃ L st sg, CI S L st ∧ SB sg ∧ SGc S sg ∧ ∀ S1, Fr1 PCs S S1 → Inv S1 ∧ ∃ S2, f_X11_reads S1 = some S2 ∧ Inv S2 ∧ RD S2 L st sg ∧ R9 S2 ∧ ∀ S3, Fr1 PX S2 S3 → R9 S3 → Inv S3 := by
  obtain ⟨L, st, sg, h1, h2, h3, h4, h5⟩ := id hI
  obtain ⟨g1, g2, g3⟩ := SG_iff.mp h3
  refine ⟨L, st, sg, h1, g1, g2, fun S1 F1 => ?_⟩
  have hI1 := hI.fr1 F1 PCs_lo
  have h2' : MI S1 L st := (h2.fr F1.fr (fun k i z => PCs_lo k i (Or.inr (Or.inl z))) : MI (S1.1, S.2) L st)
  have h3' : SG S1 sg := (h3.fr F1.fr (fun k i z => PCs_lo k i (Or.inr (Or.inr (Or.inl z)))) : SG (S1.1, S.2) sg)
  obtain ⟨S2, a1, a2, a3, a4⟩ := m_reads (h2'.1 0 (by omega)) (h2'.1 1 (by omega))
  have h6 := h2'.fr a4 (fun k i z => PR_lo k i (Or.inr (Or.inl z)))
  have h7 := h3'.fr a4 (fun k i z => PR_lo k i (Or.inr (Or.inr (Or.inl z))))
  have hI2 := hI1.fr a4 PR_lo
  exact ⟨hI1, S2, a1, hI2, ⟨a2, a3, h6.2.1, (SG_iff.mp h7).2.2⟩, h6.2.2, fun S3 F3 r => hI2.px F3 r⟩
/-- the reference lives through its turns -/
theorem RD.lives {S : sT} {L : Nat → List Nat} {st : Nat → Nat} {sg : List (Nat × Nat × Nat)} {N odd how : Nat} (h : RD S L st sg) (hH : HO S odd how) (hN : N ≤ (tW L).length) : ∃ S2, f_X11_lives (iI N) S = some S2 ∧ RM S2 (nW L) (sAt st (nW L) (tW L) odd how (fW L) N) ∧ RD S2 L st sg ∧ Fr PM S S2 := by
  obtain ⟨S2, a1, a2, a3, -⟩ := m_lives (parseT_ok (L 1)) hN h.2.1 h.2.2.1 h.1 hH
  exact ⟨S2, a1, a2, h.fr (Fr1.mono a3.1 PM_px), a3⟩
abbrev gW' (L : Nat → List Nat) (st : Nat → Nat) : Nat → List Nat := wAt st (nW L) (tW L) (fW L) (tW L).length
