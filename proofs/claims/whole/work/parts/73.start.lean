/-! at the start -/
theorem Inv_0 : Inv S0 := by
  have eW : parseW [] = (-1, (0, fun _ => [])) := by unfold parseW; rw [if_pos rfl]; rfl
  have eT : parseT [] = (-1, []) := by unfold parseT; rw [if_pos rfl]
  refine ⟨fun _ => [], fun k => match k with | 0 => 0 | 1 => 3 | 2 => 0 | 3 => 6 | 4 => 4 | _ => 255, [], ⟨fun t ht => ?_, fun k hk => ?_, fun k hk => ?_, ?_, ?_, ?_, ?_⟩, ⟨fun t ht => ?_, fun k hk => ?_, rfl⟩, ⟨by simp, rfl, rfl, fun j hj => absurd hj (by simp)⟩, fun t ht => ?_, rfl⟩
  · rcases (show t = 0 ∨ t = 1 by omega) with rfl | rfl
    · exact ⟨rfl, by decide, by decide, by decide, fun j hj => absurd hj (by simp)⟩
    · exact ⟨rfl, by decide, by decide, by decide, fun j hj => absurd hj (by simp)⟩
  · rcases (show k = 0 ∨ k = 1 ∨ k = 2 ∨ k = 3 ∨ k = 4 ∨ k = 5 by omega) with rfl | rfl | rfl | rfl | rfl | rfl <;> exact ⟨by decide, by decide⟩
  · rcases (show k = 0 ∨ k = 1 ∨ k = 2 ∨ k = 3 ∨ k = 4 ∨ k = 5 by omega) with rfl | rfl | rfl | rfl | rfl | rfl <;> decide
  · unfold tW
    rw [eT]
    exact TC.nil rfl
  · unfold tW nW fW
    rw [eT, eW]
    refine ⟨rfl, fun j hj => ?_, fun j hj => absurd hj (by simp)⟩
    have : j = 0 := by simpa using hj
    subst this
    exact ⟨by decide, rfl, fun c hc => ⟨⟨by simp [wAt, sAt], by simp [wAt, sAt]⟩, fun _ => rfl, rfl, rfl, rfl, fun i hi => absurd hi (by simp [wAt, sAt])⟩⟩
  · rw [eW]; rfl
  · rw [eT]; rfl
  · exact ⟨rfl, by simp, fun j hj => absurd hj (by simp)⟩
  · rcases (show k = 0 ∨ k = 1 ∨ k = 2 ∨ k = 3 ∨ k = 4 ∨ k = 5 by omega) with rfl | rfl | rfl | rfl | rfl | rfl <;> exact ⟨by decide, by decide⟩
  · refine Or.inl ?_
    rcases (show t = 0 ∨ t = 1 ∨ t = 2 ∨ t = 3 by omega) with rfl | rfl | rfl | rfl <;> exact ⟨by decide, by decide⟩
