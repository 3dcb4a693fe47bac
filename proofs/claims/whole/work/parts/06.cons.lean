/-! constructors: rows over a world 'wr ++ L' (wr: whatever was there); the block of new T[n][m] is the printed one -/
def va_AOA (t : FieldType) (U : State) : Prop := (Cond.arrayOver (.array t)).before #[] U = true
theorem va_AOA.use {t : FieldType} {A : Array Value} {U : State} (h : va_AOA t U) : (Cond.arrayOver (.array t)).before A U = true := h
theorem aoa_spec {args : Array Value} {first s : State} {o : Option Outcome} {idx : List Nat} {t : FieldType} (h : (Cond.arrayOver (.array t)).holds args first o s idx = true) :
    ∃ comp c k, s.vm.findClass (FieldType.array t).toString = some comp ∧ (s.vm.classes.findIdx? fun x => match x.kind with | .array component _ => component == comp | _ => false) = some c ∧ s.vm.classes[c]? = some k ∧ k.kind = .array comp (.array t) ∧ s.vm.findClass ("[" ++ (FieldType.array t).toString) = some c := by
  simp only [Cond.holds, Cond.value, beq_iff_eq] at h
  cases hc : s.vm.findClass (FieldType.array t).toString with
  | none => simp [hc] at h
  | some comp =>
    simp only [hc, Option.bind_some, Option.bind_eq_some_iff, Option.map_eq_some_iff] at h
    obtain ⟨c, hi, k, hk, hb⟩ := h
    obtain ⟨hlt, hp, -⟩ := Array.findIdx?_eq_some_iff_getElem.mp hi
    have hkk : s.vm.classes[c] = k := (Array.getElem?_eq_some_iff.mp hk).2
    rw [hkk] at hp
    cases hkind : k.kind with
    | array component ty =>
      rw [hkind] at hb hp
      simp at hb hp
      exact ⟨comp, c, k, rfl, hi, hk, by rw [hkind, hp, hb.1], hb.2⟩
    | _ => rw [hkind] at hb; simp at hb
theorem va_AOA.moved {t : FieldType} {u U : State} (hvm : u.vm.Alike U.vm) (h : va_AOA t u) : va_AOA t U := by
  obtain ⟨comp, c, k, h1, h2, h3, h4, h5⟩ := aoa_spec h
  obtain ⟨k', hk', he⟩ := hvm.2.2 _ _ h3
  have hi : (U.vm.classes.findIdx? fun (x : Class) => match x.kind with | .array component _ => component == comp | _ => false) = some c := by
    have hbare : U.vm.bare = u.vm.bare := by first | exact hvm.bare_eq | exact hvm.bare_eq.symm
    have e1 := va_idx_bare U.vm comp
    have e2 := va_idx_bare u.vm comp
    rw [hbare] at e1
    exact e1.symm.trans (e2.trans h2)
  have hkind : k'.kind = .array comp (.array t) := by rw [he]; exact h4
  have f1 : U.vm.findClass (FieldType.array t).toString = some comp := by rw [hvm.findClass]; exact h1
  have f2 : U.vm.findClass ("[" ++ (FieldType.array t).toString) = some c := by rw [hvm.findClass]; exact h5
  unfold va_AOA Cond.before Cond.holds
  simp only [Cond.value]
  rw [f1, Option.bind_some]
  refine (congrArg (fun o : Option Nat => (o.bind (fun c => (U.vm.classes[c]?).map fun (k : Class) => match k.kind with | .array _ ty => decide (ty = FieldType.array t) && decide (U.vm.findClass ("[" ++ (FieldType.array t).toString) = some c) | _ => false) == some true)) hi).trans ?_
  simp [hk', hkind, f2]
/-! ===== BEGIN new T[n][m]: the outer array a place, the inner ones among the pooled ===== -/
/-- f, but v at every address of l -/
def vr_up {α : Type} (f : Nat → α) (l : List Nat) (v : α) : Nat → α := fun a => if a ∈ l then v else f a
theorem vr_up_in {α : Type} {f : Nat → α} {l : List Nat} {v : α} {a : Nat} (h : a ∈ l) : vr_up f l v a = v := if_pos h
theorem vr_up_ne {α : Type} {f : Nat → α} {l : List Nat} {v : α} {a : Nat} (h : a ∉ l) : vr_up f l v a = f a := if_neg h
theorem vr_rows {L l : List Nat} {f : Nat → va_E} {e : va_E} (h : ∀ a, a ∈ l → a ∉ L) : va_pl L f ++ l.map (fun a => (a, e)) = va_pl (L ++ l) (vr_up f l e) := by
  unfold va_pl
  rw [List.map_append]
  congr 1
  · apply List.map_congr_left
    intro a ha
    rw [vr_up_ne (fun q => h a q ha)]
  · apply List.map_congr_left
    intro a ha
    rw [vr_up_in ha]
theorem vr_lay {X rows : va_W} {x : Nat × va_E} {pl : va_W} {D : va_G} {cl : List vw_C} {H : Heap} (hP : va_P D cl (((X ++ pl) ++ [x]) ++ rows) H) : va_P D cl ((X ++ [x]) ++ (pl ++ rows)) H := by
  rw [List.append_assoc (X ++ pl)] at hP
  have h := va_P.swap hP
  rw [← List.append_assoc X] at h
  have h2 := va_P.swap h
  rw [List.append_assoc (X ++ [x])] at h2
  exact h2
theorem vr_layD {X rows : va_W} {x : Nat × va_E} {pl : va_W} {A : Nat → Prop} (hD : va_D A (((X ++ pl) ++ [x]) ++ rows)) : va_D A ((X ++ [x]) ++ (pl ++ rows)) := by
  rw [List.append_assoc (X ++ pl)] at hD
  have h := va_D.swap hD
  rw [← List.append_assoc X] at h
  have h2 := va_D.swap h
  rw [List.append_assoc (X ++ [x])] at h2
  exact h2
theorem vr_outer (c : ClassId) (N h0 : Nat) : ∀ i : Nat, Jvm.Free.Multi.outerC c N h0 i = arrV c N (fun j => va_rf (if j < i then some (h0 + 1 + j) else none))
  | 0 => by
    show ({ cls := c, slots := Array.replicate N .null, vm := .none } : Cell) = _
    rw [arrV_new]
    refine congrArg (arrV c N) (funext fun j => ?_)
    simp [va_rf]
  | i + 1 => by
    show (Jvm.Free.Multi.outerC c N h0 i).setSlot i (.ref (h0 + 1 + i)) = _
    rw [vr_outer c N h0 i, arrV_store]
    refine congrArg (arrV c N) (funext fun j => ?_)
    by_cases e : j = i
    · subst e
      simp [updV, va_rf]
    · by_cases h : j < i
      · simp [updV, e, h, Nat.lt_succ_of_lt h]
      · simp [updV, e, h, show ¬ j < i + 1 by omega]
section VGM
variable {p : Program} {l : Launch} {e : Env} {R : Room} {s : State} {m : MethodId} {args : Array Value} {below : List Frame} {meth : Method} {c : Code} {H : Heap} {locs : List Loc} {cells slots : Nat} {Q : State → Prop}
variable {cc : ByteArray} {pc : Nat} {ls : Array Slot} {rest : List Value} {D : va_G} {cl : List vw_C} {A : Nat → Prop} {a : Nat} {tys : List (ClassId × FieldType)} {ws : va_W} {H0 : Heap}
theorem va_mna {X : va_W} {L : List Nat} {f : Nat → va_E} {cc : ByteArray} (hexec : p.tables.exec = Jvm.exec) (hb : c.code = cc) {own : String} {index : Nat} {ty : FieldType} {cy : ClassId} (hown : s.vm.findClass own = some m.cls) (hclink : (Cond.classLink own index ("[" ++ (FieldType.array ty).toString)).before args s = true) (hover : va_AOA ty s) (harr : (Cond.arrayClass ty).before args s = true) (hcy : s.vm.findClass (FieldType.array ty).toString = some cy)
    (hK : va_K D cl tys s) (hP : va_P D cl (X ++ va_pl L f) H) (hD : va_D A (X ++ va_pl L f)) (hS : va_S A H0 H locs) (hA : ∀ q, H0.size ≤ q → A q) {n k : Int32} {N' K' : Nat} {z : vp_A} (hn : ¬ n < 0) (hk : ¬ k < 0) (hN : n.toNatClampNeg = N') (hM : k.toNatClampNeg = K')
    (hb1 : N' * 4 ≤ 536870912) (hb2 : K' * componentBytes ty ≤ 536870912) (hb3 : K' ≤ 536870912) (hdf : fits ty (defaultValue ty) = true) (hdd : (defaultValue ty).isDefault = true) (hcells : cells + (1 + N') ≤ R.cells) (hslots : slots + (N' + N' * K') ≤ R.slots) (hz : ∀ c : ClassId, Jvm.Free.Multi.innerC c K' (defaultValue ty) = vp_cell c z) (hdg : decode cc pc = .ok (.multianewarray index 2, 4))
    (kk : ∀ (q : Nat) (r : Nat → Nat) (cA : ClassId) (H1 : Heap), (∀ i j : Nat, i < N' → j < N' → r i = r j → i = j) → (∀ i : Nat, i < N' → r i ∉ L) → va_K D cl (tys ++ [(cA, .array ty)]) s →
      va_P D cl ((X ++ [(q, .inl (cA, N', .inr (.inr (.inr (.inr (fun i => if i < N' then some (r i) else none))))))]) ++ va_pl (L ++ (List.range N').map r) (vr_up f ((List.range N').map r) (.inl (cy, z)))) H1 → va_D A ((X ++ [(q, .inl (cA, N', .inr (.inr (.inr (.inr (fun i => if i < N' then some (r i) else none))))))]) ++ va_pl (L ++ (List.range N').map r) (vr_up f ((List.range N').map r) (.inl (cy, z)))) → va_S A H0 H1 locs →
      W p l e R s m args below meth c H1 locs (cells + 1 + N') (slots + N' + N' * K') Q (F0 m (pc + 4) ls (.ref q :: rest))) : W p l e R s m args below meth c H locs cells slots Q (F0 m pc ls (.int k :: .int n :: rest)) := by
  subst hN
  subst hM
  intro T hT Xs
  obtain ⟨vm₁, cA, comp, -, fA, fC, hO, -, X', step⟩ := Xs.multianewarray2F hexec hown hclink (va_AOA.use hover) harr (g := F0 m pc ls (.int k :: .int n :: rest)) rfl (by rw [hb]; exact hdg) rfl hn hk hb1 hb2 hb3 hdf hdd hcells hslots
  have ec : some cy = some comp := hcy.symm.trans fC
  cases ec
  generalize hF : Jvm.Free.Multi.fill (T.setVm vm₁) cA cy n.toNatClampNeg k.toNatClampNeg (defaultValue ty) n.toNatClampNeg = F at X' step
  have hTh : (T.setVm vm₁).heap = H := hT
  obtain ⟨f1, f2, -, -⟩ := Jvm.Free.Multi.fill_facts (T.setVm vm₁) cA cy n.toNatClampNeg k.toNatClampNeg (defaultValue ty) n.toNatClampNeg
  rw [hF, hTh] at f1 f2
  have hold : ∀ x : Nat, x < H.size → F.heap[x]? = H[x]? := fun x hx => by
    have := Jvm.Free.Multi.fill_old (T.setVm vm₁) cA cy n.toNatClampNeg k.toNatClampNeg (defaultValue ty) (a := x) (by rw [hTh]; exact hx) n.toNatClampNeg
    rw [hF, hTh] at this
    exact this
  have hrow : ∀ j : Nat, j < n.toNatClampNeg → F.heap[H.size + 1 + j]? = some (vp_cell cy z) := fun j hj => by
    have := Jvm.Free.Multi.fill_inner (T.setVm vm₁) cA cy n.toNatClampNeg k.toNatClampNeg (defaultValue ty) n.toNatClampNeg j hj
    rw [hF, hTh, hz] at this
    exact this
  have hout : Jvm.Free.Multi.outerC cA n.toNatClampNeg H.size n.toNatClampNeg = vp_cell cA (n.toNatClampNeg, .inr (.inr (.inr (.inr (fun i => if i < n.toNatClampNeg then some (H.size + 1 + i) else none))))) := by
    rw [vp_cell_q]
    exact vr_outer cA n.toNatClampNeg H.size n.toNatClampNeg
  rw [hout] at f2
  have hlt : ∀ a, a ∈ L → a < H.size := fun a ha => by
    obtain ⟨k9, hk9⟩ := va_pl_get (X := X) (f := f) ha
    exact (hP k9 _ hk9).lt
  have hnl : ∀ i : Nat, i < n.toNatClampNeg → H.size + 1 + i ∉ L := fun i _ h => by
    have := hlt _ h
    omega
  have hnm : ∀ a, a ∈ (List.range n.toNatClampNeg).map (fun i => H.size + 1 + i) → a ∉ L := fun a ha h => by
    obtain ⟨i, -, rfl⟩ := List.mem_map.mp ha
    have := hlt _ h
    omega
  have hP0 : va_P D cl (X ++ va_pl L f) F.heap := hP.kept (fun k9 x hx => hold x.1 ((hP k9 x hx).lt))
  have hP1 : va_P D cl ((X ++ va_pl L f) ++ [(H.size, .inl (cA, n.toNatClampNeg, .inr (.inr (.inr (.inr (fun i => if i < n.toNatClampNeg then some (H.size + 1 + i) else none))))))]) F.heap := hP0.app (fun k9 x hx => by
    have h0 : k9 < 1 := (List.getElem?_eq_some_iff.mp hx).1
    rw [show k9 = 0 by omega] at hx
    cases hx
    exact f2)
  have hP2 : va_P D cl (((X ++ va_pl L f) ++ [(H.size, .inl (cA, n.toNatClampNeg, .inr (.inr (.inr (.inr (fun i => if i < n.toNatClampNeg then some (H.size + 1 + i) else none))))))]) ++ ((List.range n.toNatClampNeg).map (fun i => H.size + 1 + i)).map (fun a => (a, .inl (cy, z)))) F.heap := hP1.app (fun k9 x hx => by
    obtain ⟨a, ha, rfl⟩ := List.mem_map.mp (List.mem_of_getElem? hx)
    obtain ⟨i, hi, rfl⟩ := List.mem_map.mp ha
    exact hrow i (List.mem_range.mp hi))
  have hD2 : va_D A (((X ++ va_pl L f) ++ [(H.size, .inl (cA, n.toNatClampNeg, .inr (.inr (.inr (.inr (fun i => if i < n.toNatClampNeg then some (H.size + 1 + i) else none))))))]) ++ ((List.range n.toNatClampNeg).map (fun i => H.size + 1 + i)).map (fun a => (a, .inl (cy, z)))) := by
    have hD1 := hD.push (e := .inl (cA, n.toNatClampNeg, .inr (.inr (.inr (.inr (fun i => if i < n.toNatClampNeg then some (H.size + 1 + i) else none)))))) hP rfl (hA _ hS.1)
    generalize hW1 : (X ++ va_pl L f) ++ [(H.size, .inl (cA, n.toNatClampNeg, .inr (.inr (.inr (.inr (fun i => if i < n.toNatClampNeg then some (H.size + 1 + i) else none))))))] = W1 at hD1 hP1 ⊢
    have hle : ∀ (k9 : Nat) (x : Nat × va_E), W1[k9]? = some x → x.1 ≤ H.size := fun k9 x hx => by
      rw [← hW1] at hx
      by_cases hl : k9 < (X ++ va_pl L f).length
      · rw [List.getElem?_append_left hl] at hx
        exact Nat.le_of_lt ((hP k9 x hx).lt)
      · rw [List.getElem?_append_right (by omega)] at hx
        have h0 : k9 - (X ++ va_pl L f).length < 1 := (List.getElem?_eq_some_iff.mp hx).1
        rw [show k9 - (X ++ va_pl L f).length = 0 by omega] at hx
        cases hx
        exact Nat.le_refl _
    have hr : ∀ (k9 : Nat) (x : Nat × va_E), (((List.range n.toNatClampNeg).map (fun i => H.size + 1 + i)).map (fun a => ((a, .inl (cy, z)) : Nat × va_E)))[k9]? = some x → x.1 = H.size + 1 + k9 := fun k9 x hx => by
      rw [List.getElem?_map, List.getElem?_map] at hx
      by_cases h9 : k9 < n.toNatClampNeg
      · rw [List.getElem?_range h9] at hx
        cases hx
        rfl
      · have hn0 : (List.range n.toNatClampNeg)[k9]? = none := List.getElem?_eq_none (by rw [List.length_range]; omega)
        rw [hn0] at hx
        cases hx
    refine ⟨fun i j x y hi hj hxy => ?_, fun k9 x hx => ?_⟩
    · by_cases h1 : i < W1.length <;> by_cases h2 : j < W1.length
      · rw [List.getElem?_append_left h1] at hi
        rw [List.getElem?_append_left h2] at hj
        exact hD1.1 i j x y hi hj hxy
      · rw [List.getElem?_append_left h1] at hi
        rw [List.getElem?_append_right (by omega)] at hj
        have := hle _ _ hi
        have := hr _ _ hj
        omega
      · rw [List.getElem?_append_right (by omega)] at hi
        rw [List.getElem?_append_left h2] at hj
        have := hle _ _ hj
        have := hr _ _ hi
        omega
      · rw [List.getElem?_append_right (by omega)] at hi hj
        have := hr _ _ hi
        have := hr _ _ hj
        omega
    · by_cases h1 : k9 < W1.length
      · rw [List.getElem?_append_left h1] at hx
        exact hD1.2 k9 x hx
      · rw [List.getElem?_append_right (by omega)] at hx
        have := hr _ _ hx
        exact hA _ (by have := hS.1; omega)
  have hAr : ArrOfT s cA (.array ty) := fun N9 z9 => by
    obtain ⟨-, k9, hk9, cm9, hkk9⟩ := (hO 0 0 0).1
    exact ⟨(fun q hq => by cases hq), k9, hk9, cm9, hkk9⟩
  have hK2 : va_K D cl (tys ++ [(cA, .array ty)]) s := ⟨hK.1, fun k9 x hx => by
    by_cases hl : k9 < tys.length
    · rw [List.getElem?_append_left hl] at hx
      exact hK.2 k9 x hx
    · rw [List.getElem?_append_right (by omega)] at hx
      have h0 : k9 - tys.length < 1 := (List.getElem?_eq_some_iff.mp hx).1
      rw [show k9 - tys.length = 0 by omega] at hx
      cases hx
      exact ⟨hAr, fA⟩⟩
  obtain ⟨t, a1, b1⟩ := kk H.size (fun i => H.size + 1 + i) cA F.heap (fun i j _ _ h => by have h9 : H.size + 1 + i = H.size + 1 + j := h; omega) hnl hK2 (by rw [← vr_rows hnm]; exact vr_lay hP2) (by rw [← vr_rows hnm]; exact vr_layD hD2) ⟨by rw [f1]; have := hS.1; omega, fun x h1 h2 => (hold x (Nat.lt_of_lt_of_le h1 hS.1)).trans (hS.2.1 x h1 h2), hS.2.2⟩ F rfl X'
  refine ⟨t, step t ?_, b1⟩
  have e : T.heap.size = H.size := by rw [hT]
  rw [e]
  exact a1
end VGM
/-! ===== END ===== -/
abbrev tyC (cy : Nat → ClassId) : List (ClassId × FieldType) := [(cy 0, .int), (cy 1, .object "WallTurns$Wall"), (cy 2, .array .int)]
abbrev AC (B0 : Nat) : Nat → Prop := fun q => B0 ≤ q
/-- what constructors ask of the tables -/
def K0 (D : va_G) (cy : Nat → ClassId) (U : State) : Prop := va_K D vwCl (tyC cy) U ∧ NW U ∧ va_AO "WallTurns$Wall" U ∧ va_AOA .int U
def rmC (k mc ms : Nat) : Room := { frames := k, cells := mc, slots := ms, locals := 60 * k }
def PC (D : va_G) (cy : Nat → ClassId) (B0 : Nat) (ws : va_W) (U : State) : Prop := B0 ≤ U.heap.size ∧ va_P D vwCl ws U.heap ∧ va_D (AC B0) ws ∧ K0 D cy U
def QC (D : va_G) (B0 : Nat) (wr : va_W) (post : va_W → Prop) : Array Value → State → Outcome → State → Prop := fun _ st oc t => oc = .returned none ∧ (∃ L1, post L1 ∧ va_P D vwCl (wr ++ L1) t.heap ∧ va_D (AC B0) (wr ++ L1)) ∧ va_F (AC B0) st t
def MC (l : Launch) (y : MethodName) (b : ByteArray) (n k mc ms : Nat) (D : va_G) (cy : Nat → ClassId) (B0 : Nat) (vs : List Value) (wr L0 : va_W) (post : va_W → Prop) : Prop :=
  Met l y (.code y b n none :: WL) (rmC k mc ms) (va_Pc vs (PC D cy B0 (wr ++ L0))) (QC D B0 wr post) mc ms (AC B0)
section FC
variable {p : Program} {l : Launch} {e : Env} {R : Room} {s : State} {m : MethodId} {args : Array Value} {below : List Frame} {meth : Method} {c : Code} {H : Heap} {locs : List Loc} {cells slots : Nat} {Q : State → Prop}
variable {cc : ByteArray} {nL : Nat} {own : String} {D : va_G} {cy : Nat → ClassId} {B0 : Nat} {wr L : va_W} {pc : Nat} {ls : Array Slot} {rest : List Value}
def CC (p : Program) (s : State) (m : MethodId) (args : Array Value) (meth : Method) (c : Code) (cc : ByteArray) (nL : Nat) (own : String) (D : va_G) (cy : Nat → ClassId) (B0 : Nat) : Prop :=
  p.tables.exec = Jvm.exec ∧ c.code = cc ∧ c.maxLocals = nL ∧ s.vm.findClass own = some m.cls ∧ (∀ w ∈ WL, w.before args s = true) ∧ meth.locks = false ∧ K0 D cy s ∧ B0 ≤ s.heap.size
/-- the heap holds wr ++ L -/
def Hc (D : va_G) (B0 : Nat) (s : State) (ws : va_W) (H : Heap) (locs : List Loc) : Prop := va_P D vwCl ws H ∧ va_D (AC B0) ws ∧ va_S (AC B0) s.heap H locs
theorem wr_at {j : Nat} {x : Nat × va_E} (h : L[j]? = some x) : (wr ++ L)[wr.length + j]? = some x := by
  rw [List.getElem?_append_right (Nat.le_add_right _ _), Nat.add_sub_cancel_left]; exact h
theorem wr_set (j : Nat) (x : Nat × va_E) : (wr ++ L).set (wr.length + j) x = wr ++ L.set j x := by
  rw [List.set_append_right _ _ (Nat.le_add_right _ _), Nat.add_sub_cancel_left]
theorem c_new {C : String} {T : u_T} {N ci index : Nat} (X : CC p s m args meth c cc nL own D cy B0) (hH : Hc D B0 s (wr ++ L) H locs) (hin : ∀ w ∈ u_ws C T N, w ∈ WL) (ty : Nat → FieldType) (hty : ∀ k, k < N → parseFieldDescriptor (T k).2.2.1 = some (ty k)) (h1 : (Cond.classLink own index C) ∈ WL) (h2 : (Cond.instantiable C N) ∈ WL) (h3 : (Cond.initialized C) ∈ WL) (hc : vwCl[ci]? = some (C, T, N)) {fs : List Value} (hfs : ∀ j, j < N → defaultValue (ty j) = vp_V fs j) (hcells : cells + 1 ≤ R.cells) (hslots : slots + N ≤ R.slots) (hdg : decode cc pc = .ok (.new index, 3))
    (kk : ∀ (q : Nat) (H1 : Heap), Hc D B0 s (wr ++ (L ++ [(q, .inr (ci, fs))])) H1 locs → W p l e R s m args below meth c H1 locs (cells + 1) (slots + N) Q (F0 m (pc + 3) ls (.ref q :: rest))) : W p l e R s m args below meth c H locs cells slots Q (F0 m pc ls rest) := by
  obtain ⟨hx, hb, hml, hown, hts, hlk, hK, hB⟩ := X
  refine va_new (ci := ci) hx hb hts hin ty hty hown (hts _ h1) (hts _ h2) (hts _ h3) hK.1 hH.1 hH.2.1 hH.2.2 (fun q h => Nat.le_trans hB h) hc hfs hcells hslots hdg (fun q H1 hP hD hS => kk q H1 ⟨?_, ?_, hS⟩)
  · rw [← List.append_assoc]; exact hP
  · rw [← List.append_assoc]; exact hD
theorem c_newa (X : CC p s m args meth c cc nL own D cy B0) (hH : Hc D B0 s (wr ++ L) H locs) (harr : (Cond.arrayClass .int) ∈ WL) {n : Int32} {N' : Nat} (hn : ¬ n < 0) (hN : n.toNatClampNeg = N') (hbytes : N' * 4 ≤ 536870912) (hcells : cells + 1 ≤ R.cells) (hslots : slots + N' ≤ R.slots) (hdg : decode cc pc = .ok (.newarray .int, 2))
    (kk : ∀ (q : Nat) (H1 : Heap), Hc D B0 s (wr ++ (L ++ [(q, .inl (cy 0, N', .inl (fun _ => 0)))])) H1 locs → W p l e R s m args below meth c H1 locs (cells + 1) (slots + N') Q (F0 m (pc + 2) ls (.ref q :: rest))) : W p l e R s m args below meth c H locs cells slots Q (F0 m pc ls (.int n :: rest)) := by
  obtain ⟨hx, hb, hml, hown, hts, hlk, hK, hB⟩ := X
  refine va_newa (atype := .int) (ty := .int) (a0 := (N', .inl (fun _ => 0))) hx hb (hts _ harr) rfl hK.1 hH.1 hH.2.1 hH.2.2 (fun q h => Nat.le_trans hB h) (fun _ => rfl) hn hN hbytes hcells hslots hdg (fun q cA H1 hK2 hP hD hS => ?_)
  have e : cA = cy 0 := by
    have a1 : s.vm.findClass ("[" ++ FieldType.int.toString) = some cA := (hK2.2 3 (cA, .int) rfl).2
    have a2 : s.vm.findClass ("[" ++ FieldType.int.toString) = some (cy 0) := (hK.1.2 0 (cy 0, .int) rfl).2
    exact Option.some.inj (a1.symm.trans a2)
  subst e
  exact kk q H1 ⟨by rw [← List.append_assoc]; exact hP, by rw [← List.append_assoc]; exact hD, hS⟩
theorem c_newq {index : Nat} (X : CC p s m args meth c cc nL own D cy B0) (hH : Hc D B0 s (wr ++ L) H locs) (h1 : (Cond.classLink own index "WallTurns$Wall") ∈ WL) {n : Int32} {N' : Nat} (hn : ¬ n < 0) (hN : n.toNatClampNeg = N') (hbytes : N' * 4 ≤ 536870912) (hcells : cells + 1 ≤ R.cells) (hslots : slots + N' ≤ R.slots) (hdg : decode cc pc = .ok (.anewarray index, 3))
    (kk : ∀ (q : Nat) (H1 : Heap), Hc D B0 s (wr ++ (L ++ [(q, .inl (cy 1, N', .inr (.inr (.inr (.inr (fun _ => none))))))])) H1 locs → W p l e R s m args below meth c H1 locs (cells + 1) (slots + N') Q (F0 m (pc + 3) ls (.ref q :: rest))) : W p l e R s m args below meth c H locs cells slots Q (F0 m pc ls (.int n :: rest)) := by
  obtain ⟨hx, hb, hml, hown, hts, hlk, hK, hB⟩ := X
  refine va_newq hx hb hown (hts _ h1) hK.2.2.1 hK.1 hH.1 hH.2.1 hH.2.2 (fun q h => Nat.le_trans hB h) hn hN hbytes hcells hslots hdg (fun q cA H1 hK2 hP hD hS => ?_)
  have e : cA = cy 1 := by
    obtain ⟨kA, comp, -, -, -, a1⟩ := (hK2.2 3 (cA, .object "WallTurns$Wall") rfl).2
    obtain ⟨kA, comp, -, -, -, a2⟩ := (hK.1.2 1 (cy 1, .object "WallTurns$Wall") rfl).2
    exact Option.some.inj (a1.symm.trans a2)
  subst e
  exact kk q H1 ⟨by rw [← List.append_assoc]; exact hP, by rw [← List.append_assoc]; exact hD, hS⟩
theorem c_mna {index : Nat} (X : CC p s m args meth c cc nL own D cy B0) (hH : Hc D B0 s (wr ++ L) H locs) (h1 : (Cond.classLink own index "[[I") ∈ WL) (h2 : (Cond.arrayClass .int) ∈ WL) {n k : Int32} {N' K' : Nat} (hn : ¬ n < 0) (hk : ¬ k < 0) (hN : n.toNatClampNeg = N') (hM : k.toNatClampNeg = K') (hb1 : N' * 4 ≤ 536870912) (hb2 : K' * 4 ≤ 536870912) (hb3 : K' ≤ 536870912) (hcells : cells + (1 + N') ≤ R.cells) (hslots : slots + (N' + N' * K') ≤ R.slots) (hdg : decode cc pc = .ok (.multianewarray index 2, 4))
    (kk : ∀ (q : Nat) (r : Nat → Nat) (H1 : Heap), Hc D B0 s (wr ++ (L ++ ((q, .inl (cy 2, N', .inr (.inr (.inr (.inr (fun i => if i < N' then some (r i) else none)))))) :: ((List.range N').map r).map (fun a => (a, .inl (cy 0, K', .inl (fun _ => 0))))))) H1 locs → W p l e R s m args below meth c H1 locs (cells + 1 + N') (slots + N' + N' * K') Q (F0 m (pc + 4) ls (.ref q :: rest))) : W p l e R s m args below meth c H locs cells slots Q (F0 m pc ls (.int k :: .int n :: rest)) := by
  obtain ⟨hx, hb, hml, hown, hts, hlk, hK, hB⟩ := X
  have a2 : s.vm.findClass ("[" ++ FieldType.int.toString) = some (cy 0) := (hK.1.2 0 (cy 0, .int) rfl).2
  have b2 : s.vm.findClass ("[" ++ (FieldType.array .int).toString) = some (cy 2) := (hK.1.2 2 (cy 2, .array .int) rfl).2
  have hP0 : va_P D vwCl ((wr ++ L) ++ va_pl [] (fun _ => .inr (0, []))) H := by rw [show va_pl [] (fun _ => (.inr (0, []) : va_E)) = [] from rfl, List.append_nil]; exact hH.1
  have hD0 : va_D (AC B0) ((wr ++ L) ++ va_pl [] (fun _ => .inr (0, []))) := by rw [show va_pl [] (fun _ => (.inr (0, []) : va_E)) = [] from rfl, List.append_nil]; exact hH.2.1
  refine va_mna (ty := .int) (cy := cy 0) (z := (K', .inl (fun _ => 0))) hx hb hown (hts _ h1) hK.2.2.2 (hts _ h2) a2 hK.1 hP0 hD0 hH.2.2 (fun q h => Nat.le_trans hB h) hn hk hN hM hb1 hb2 hb3 rfl rfl hcells hslots (fun c => ?_) hdg (fun q r cA H1 h5 h6 hK2 hP hD hS => ?_)
  · simp [Jvm.Free.Multi.innerC, vp_cell_i, ← arrV_new, defaultValue]
  · have e : cA = cy 2 := by
      have a1 : s.vm.findClass ("[" ++ (FieldType.array .int).toString) = some cA := (hK2.2 3 (cA, .array .int) rfl).2
      exact Option.some.inj (a1.symm.trans b2)
    subst e
    rw [← vr_rows (fun a _ h => by cases h)] at hP hD
    exact kk q r H1 ⟨by simpa [va_pl, List.append_assoc] using hP, by simpa [va_pl, List.append_assoc] using hD, hS⟩
theorem c_putF {ref C : String} {T : u_T} {N ci index : Nat} (X : CC p s m args meth c cc nL own D cy B0) (hH : Hc D B0 s (wr ++ L) H locs) (hin2 : meth.name = "<init>") (hin : ∀ w ∈ u_ws C T N, w ∈ WL) (ty0 : Nat → FieldType) (hty : ∀ k, k < N → parseFieldDescriptor (T k).2.2.1 = some (ty0 k)) (hnm : ∀ a, a < N → ∀ b, b < N → a ≠ b → (T a).2.1 ≠ (T b).2.1) (j : Nat) {a : Nat} {fs : List Value} (he : L[j]? = some (a, .inr (ci, fs))) (hc : vwCl[ci]? = some (C, T, N)) (k : Nat) (hk : k < N) (hlink : (Cond.fieldLink own index ref (T k).2.1 (T k).2.2.1) ∈ WL) (href : (T k).1 = ref) (hfin : (T k).2.2.2 = true) (hdecl : (T k).1 = own) {ty : FieldType} {v : Value} (hd : parseFieldDescriptor (T k).2.2.1 = some ty) (hn : narrow ty v = v) (hfit : fits ty v = true) (hl : k < fs.length) (hdg : decode cc pc = .ok (.putfield index, 3))
    (kk : ∀ (H1 : Heap) (locs1 : List Loc), Hc D B0 s (wr ++ L.set j (a, .inr (ci, fs.set k v))) H1 locs1 → W p l e R s m args below meth c H1 locs1 cells slots Q (F0 m (pc + 3) ls rest)) : W p l e R s m args below meth c H locs cells slots Q (F0 m pc ls (v :: .ref a :: rest)) := by
  obtain ⟨hx, hb, hml, hown, hts, hlk, hK, hB⟩ := X
  refine va_putF (ci := ci) hx hb hts hin ty0 hty hnm hown hK.1 hH.1 hH.2.1 hH.2.2 (wr.length + j) (wr_at he) hc k hk (hts _ hlink) (fun _ h => by rw [← href]; exact h) hfin hin2 hdecl hd hn hfit hl hdg (fun H1 locs1 hP hD hS => kk H1 locs1 ?_)
  rw [wr_set] at hP hD
  exact ⟨hP, hD, hS⟩
theorem c_put {ref C : String} {T : u_T} {N ci index : Nat} (X : CC p s m args meth c cc nL own D cy B0) (hH : Hc D B0 s (wr ++ L) H locs) (hin : ∀ w ∈ u_ws C T N, w ∈ WL) (ty0 : Nat → FieldType) (hty : ∀ k, k < N → parseFieldDescriptor (T k).2.2.1 = some (ty0 k)) (hnm : ∀ a, a < N → ∀ b, b < N → a ≠ b → (T a).2.1 ≠ (T b).2.1) (j : Nat) {a : Nat} {fs : List Value} (he : L[j]? = some (a, .inr (ci, fs))) (hc : vwCl[ci]? = some (C, T, N)) (k : Nat) (hk : k < N) (hlink : (Cond.fieldLink own index ref (T k).2.1 (T k).2.2.1) ∈ WL) (href : (T k).1 = ref) (hfin : (T k).2.2.2 = false) {ty : FieldType} {v : Value} (hd : parseFieldDescriptor (T k).2.2.1 = some ty) (hn : narrow ty v = v) (hfit : fits ty v = true) (hl : k < fs.length) (hdg : decode cc pc = .ok (.putfield index, 3))
    (kk : ∀ (H1 : Heap) (locs1 : List Loc), Hc D B0 s (wr ++ L.set j (a, .inr (ci, fs.set k v))) H1 locs1 → W p l e R s m args below meth c H1 locs1 cells slots Q (F0 m (pc + 3) ls rest)) : W p l e R s m args below meth c H locs cells slots Q (F0 m pc ls (v :: .ref a :: rest)) := by
  obtain ⟨hx, hb, hml, hown, hts, hlk, hK, hB⟩ := X
  refine va_put (ci := ci) hx hb hts hin ty0 hty hnm hown hK.1 hH.1 hH.2.1 hH.2.2 (wr.length + j) (wr_at he) hc k hk (hts _ hlink) (fun _ h => by rw [← href]; exact h) hfin hd hn hfit hl hdg (fun H1 locs1 hP hD hS => kk H1 locs1 ?_)
  rw [wr_set] at hP hD
  exact ⟨hP, hD, hS⟩
theorem c_get {ref C : String} {T : u_T} {N ci index : Nat} (X : CC p s m args meth c cc nL own D cy B0) (hH : Hc D B0 s (wr ++ L) H locs) (hin : ∀ w ∈ u_ws C T N, w ∈ WL) (j : Nat) {a : Nat} {fs : List Value} (he : L[j]? = some (a, .inr (ci, fs))) (hc : vwCl[ci]? = some (C, T, N)) (k : Nat) (hk : k < N) (hlink : (Cond.fieldLink own index ref (T k).2.1 (T k).2.2.1) ∈ WL) (href : (T k).1 = ref) {v : Value} (hv : fs[k]? = some v) (hdg : decode cc pc = .ok (.getfield index, 3))
    (kk : W p l e R s m args below meth c H locs cells slots Q (F0 m (pc + 3) ls (v :: rest))) : W p l e R s m args below meth c H locs cells slots Q (F0 m pc ls (.ref a :: rest)) := by
  obtain ⟨hx, hb, hml, hown, hts, hlk, hK, hB⟩ := X
  exact va_get (ci := ci) hx hb hts hin hown hK.1 hH.1 (wr.length + j) (wr_at he) hc k hk (hts _ hlink) (fun _ h => by rw [← href]; exact h) hv hdg kk
theorem c_ast (X : CC p s m args meth c cc nL own D cy B0) (hH : Hc D B0 s (wr ++ L) H locs) (j : Nat) {a n : Nat} {f : Nat → Int32} (ha : L[j]? = some (a, .inl (cy 0, n, .inl f))) {i x : Int32} (hin : vp_in i n) (hdg : decode cc pc = .ok (.iastore, 1))
    (kk : ∀ (H1 : Heap) (locs1 : List Loc), Hc D B0 s (wr ++ L.set j (a, .inl (cy 0, n, .inl (upd f (cl i) x)))) H1 locs1 → W p l e R s m args below meth c H1 locs1 cells slots Q (F0 m (pc + 1) ls rest)) : W p l e R s m args below meth c H locs cells slots Q (F0 m pc ls (.int x :: .int i :: .ref a :: rest)) := by
  obtain ⟨hx, hb, hml, hown, hts, hlk, hK, hB⟩ := X
  refine va_iast hx hb hK.1 hH.1 hH.2.1 hH.2.2 (wr.length + j) 0 (wr_at ha) rfl hin hdg (fun H1 locs1 hP hD hS => kk H1 locs1 ?_)
  rw [wr_set] at hP hD
  exact ⟨hP, hD, hS⟩
theorem c_astq (X : CC p s m args meth c cc nL own D cy B0) (hH : Hc D B0 s (wr ++ L) H locs) (j jk : Nat) {a n v : Nat} {vs : List Value} {f : Nat → Option Nat} (ha : L[j]? = some (a, .inl (cy 1, n, .inr (.inr (.inr (.inr f)))))) (hv : L[jk]? = some (v, .inr (8, vs))) {i : Int32} (hin : vp_in i n) (hdg : decode cc pc = .ok (.aastore, 1))
    (kk : ∀ (H1 : Heap) (locs1 : List Loc), Hc D B0 s (wr ++ L.set j (a, .inl (cy 1, n, .inr (.inr (.inr (.inr (va_up f (cl i) (some v)))))))) H1 locs1 → W p l e R s m args below meth c H1 locs1 cells slots Q (F0 m (pc + 1) ls rest)) : W p l e R s m args below meth c H locs cells slots Q (F0 m pc ls (.ref v :: .int i :: .ref a :: rest)) := by
  obtain ⟨hx, hb, hml, hown, hts, hlk, hK, hB⟩ := X
  refine va_astq hx hb hK.1 hH.1 hH.2.1 hH.2.2 (wr.length + j) 1 (wr.length + jk) 8 (r := (RX9, TX9, 5)) (wr_at ha) rfl (wr_at hv) rfl hin hdg (fun H1 locs1 hP hD hS => kk H1 locs1 ?_)
  rw [wr_set] at hP hD
  exact ⟨hP, hD, hS⟩
theorem va_cell_eq {c : ClassId} {n : Nat} {f f' : Nat → Option Nat} (h : ∀ i, i < n → f i = f' i) : vp_cell c (n, .inr (.inr (.inr (.inr f)))) = vp_cell c (n, .inr (.inr (.inr (.inr f')))) := by
  rw [vp_cell_q, vp_cell_q]
  unfold arrV
  congr 1
  apply Array.ext (by simp)
  intro i h1 h2
  have hi : i < n := by simpa using h1
  simp [h i hi]
theorem c_refeq {ci : ClassId} (hH : Hc D B0 s (wr ++ L) H locs) (j : Nat) {a n : Nat} {f f' : Nat → Option Nat} (ha : L[j]? = some (a, .inl (ci, n, .inr (.inr (.inr (.inr f)))))) (h : ∀ i, i < n → f i = f' i) : Hc D B0 s (wr ++ L.set j (a, .inl (ci, n, .inr (.inr (.inr (.inr f')))))) H locs := by
  have hw := wr_at (wr := wr) ha
  refine ⟨?_, ?_, hH.2.2⟩
  · rw [← wr_set]
    refine hH.1.set hH.2.1 hw ?_ (fun _ _ => rfl)
    have := hH.1 _ _ hw
    show H[a]? = some (vp_cell _ _)
    rw [← va_cell_eq h]
    exact this
  · rw [← wr_set]
    exact hH.2.1.set hw
theorem c_blind {vs : List Value} {ws : va_W} : FrameBlind (va_Pc vs (PC D cy B0 ws)) := fun a U gg mk q => by
  obtain ⟨q0, qB, qP, qD, qK, qN, qA, qI⟩ := q
  exact ⟨q0, qB, qP, qD, va_K.moved (u := U) (U := U.calling gg mk a) (Vm.Alike.refl U.vm) qK, NW.same (u := U) (U := U.calling gg mk a) rfl qN, va_AO.moved (u := U) (U := U.calling gg mk a) (Vm.Alike.refl U.vm) qA, va_AOA.moved (u := U) (U := U.calling gg mk a) (Vm.Alike.refl U.vm) qI⟩
theorem c_pre {ws : va_W} (X : CC p s m args meth c cc nL own D cy B0) (hH : Hc D B0 s ws H locs) (U : State) (hU : U.heap = H) (hW : s.WarmedH U.vm) : PC D cy B0 ws U := by
  obtain ⟨hx, hb, hml, hown, hts, hlk, hK, hB⟩ := X
  exact ⟨by rw [hU]; exact Nat.le_trans hB hH.2.2.1, by rw [hU]; exact hH.1, hH.2.1, va_K.moved hW.alike hK.1, NW.warm hW hK.2.1, va_AO.moved hW.alike hK.2.2.1, va_AOA.moved hW.alike hK.2.2.2⟩
/-- behind a constructor's call -/
theorem c_back {L' L0 : va_W} {post : va_W → Prop} {a : Array Value} {st0 : List Value} {mc ms : Nat} (hS0 : va_S (AC B0) s.heap H locs) (hr : va_Run p l e R s m args below meth c H locs cells slots mc ms (F0 m pc ls st0) rest (QC D B0 (wr ++ L') post a) (AC B0)) (kk : ∀ (L1 : va_W) (H1 : Heap) (locs1 : List Loc), post L1 → Hc D B0 s (wr ++ (L' ++ L1)) H1 locs1 → W p l e R s m args below meth c H1 locs1 (cells + mc) (slots + ms) Q (F0 m (pc + 3) ls rest)) : W p l e R s m args below meth c H locs cells slots Q (F0 m pc ls st0) := by
  intro T hT X
  obtain ⟨v', st₀, t, T', L2, h0, X', hL, e1, e2, ⟨hv, ⟨L1, hp, hP, hD⟩, hz, hk⟩, st⟩ := hr T hT X
  cases hv
  rw [h0] at hz hk
  obtain ⟨t2, a1, b1⟩ := kk L1 T'.heap (locs ++ L2) hp ⟨by rw [e1, ← List.append_assoc]; exact hP, by rw [← List.append_assoc]; exact hD, ⟨Nat.le_trans hS0.1 (by rw [e1]; exact hz), fun q h1 h2 => by rw [e1, hk q (Nat.lt_of_lt_of_le h1 hS0.1) h2]; exact hS0.2.1 q h1 h2, fun q hq => by
      rcases List.mem_append.mp hq with h | h
      · exact hS0.2.2 q h
      · exact hL q h⟩⟩ T' rfl X'
  exact ⟨t2, st t2 a1, b1⟩
theorem c_callI {y : MethodName} {b : ByteArray} {n np index k mc ms : Nat} {As : List Value} {L' L0 : va_W} {q : Nat} {post : va_W → Prop} (X : CC p s m args meth c cc nL own D cy B0) (hl : ls.size = nL) (hH : Hc D B0 s (wr ++ (L' ++ L0)) H locs) (hM : MC l y b n k mc ms D cy B0 (.ref q :: As) (wr ++ L') L0 post)
    (h0 : (.code y b n none : Cond) ∈ WL) (h1 : (.initialized y.cls : Cond) ∈ WL) (h2 : (.methodLink own index y : Cond) ∈ WL) (h3 : (.instanceMethod y : Cond) ∈ WL) (hi : y.name = "<init>") (hd : y.cls ≠ "java/lang/invoke/MethodHandle" ∧ y.cls ≠ "java/lang/invoke/VarHandle" ∧ (parseMethodDescriptor y.desc).map (fun d => d.parameters.length) = some np) (hnp : As.length = np) (hR : k + 1 ≤ R.frames ∧ 8 + (n + 11) + 60 * k ≤ R.locals) (hc0 : cells + mc ≤ R.cells ∧ slots + ms ≤ R.slots)
    (hW : (rest.map fun v => v.category).sum ≤ 8) (hdg : decode cc pc = .ok (.invokespecial index, 3))
    (kk : ∀ (L1 : va_W) (H1 : Heap) (locs1 : List Loc), post L1 → Hc D B0 s (wr ++ (L' ++ L1)) H1 locs1 → W p l e R s m args below meth c H1 locs1 (cells + mc) (slots + ms) Q (F0 m (pc + 3) ls rest)) : W p l e R s m args below meth c H locs cells slots Q (F0 m pc ls (As.reverse ++ .ref q :: rest)) := by
  obtain ⟨hx, hb, hml, hown, hts, hlk, hK, hB⟩ := id X
  have hH' : Hc D B0 s ((wr ++ L') ++ L0) H locs := by rw [List.append_assoc]; exact hH
  exact c_back (L0 := L0) hH.2.2 (va_runI (y := y) (As := As) (rest := rest) ⟨hx, hb, hml, hown, hts⟩ hM ⟨callB_of np hts (g_cons h0) rfl rfl rfl (hts _ h1) (hts _ h2) hd hR, hi, hts _ h3⟩ ⟨c_blind, fun U hU hW => ⟨rfl, c_pre X hH' U hU hW⟩⟩ rfl hnp hl rfl (lv_room hW) hdg hc0) kk
theorem c_callIN {y : MethodName} {b : ByteArray} {n np index k mc ms : Nat} {host : String} {As : List Value} {L' L0 : va_W} {q : Nat} {post : va_W → Prop} (X : CC p s m args meth c cc nL own D cy B0) (hl : ls.size = nL) (hH : Hc D B0 s (wr ++ (L' ++ L0)) H locs) (hM : MC l y b n k mc ms D cy B0 (.ref q :: As) (wr ++ L') L0 post)
    (h0 : (.code y b n none : Cond) ∈ WL) (h1 : (.initialized y.cls : Cond) ∈ WL) (h2 : (own, index, y, host) ∈ nestL) (h3 : (.instanceMethod y : Cond) ∈ WL) (hi : y.name = "<init>") (hd : y.cls ≠ "java/lang/invoke/MethodHandle" ∧ y.cls ≠ "java/lang/invoke/VarHandle" ∧ (parseMethodDescriptor y.desc).map (fun d => d.parameters.length) = some np) (hnp : As.length = np) (hR : k + 1 ≤ R.frames ∧ 8 + (n + 11) + 60 * k ≤ R.locals) (hc0 : cells + mc ≤ R.cells ∧ slots + ms ≤ R.slots)
    (hW : (rest.map fun v => v.category).sum ≤ 8) (hdg : decode cc pc = .ok (.invokespecial index, 3))
    (kk : ∀ (L1 : va_W) (H1 : Heap) (locs1 : List Loc), post L1 → Hc D B0 s (wr ++ (L' ++ L1)) H1 locs1 → W p l e R s m args below meth c H1 locs1 (cells + mc) (slots + ms) Q (F0 m (pc + 3) ls rest)) : W p l e R s m args below meth c H locs cells slots Q (F0 m pc ls (As.reverse ++ .ref q :: rest)) := by
  obtain ⟨hx, hb, hml, hown, hts, hlk, hK, hB⟩ := id X
  have hH' : Hc D B0 s ((wr ++ L') ++ L0) H locs := by rw [List.append_assoc]; exact hH
  exact c_back (L0 := L0) hH.2.2 (va_runIN (y := y) (host := host) (As := As) (rest := rest) ⟨hx, hb, hml, hown, hts⟩ hM ⟨va_cnB np hts (g_cons h0) rfl rfl rfl (hK.2.1 _ h2) (hts _ h1) hd hR, hi, hts _ h3⟩ ⟨c_blind, fun U hU hW => ⟨rfl, c_pre X hH' U hU hW⟩⟩ rfl hnp hl rfl (lv_room hW) hdg hc0) kk
theorem c_ret {post : va_W → Prop} {mc ms : Nat} (X : CC p s m args meth c cc nL own D cy B0) (hr : meth.sig.returnType = none) (hH : Hc D B0 s (wr ++ L) H locs) (hp : post L) (hdg : decode cc pc = .ok (.return_, 1)) : W p l e R s m args below meth c H locs mc ms (MQ below (QC D B0 wr post) args s mc ms (AC B0)) (F0 m pc ls []) := by
  obtain ⟨hx, hb, hml, hown, hts, hlk, hK, hB⟩ := id X
  exact W.vret hx hb hr (fun t ht hW => ⟨rfl, ⟨L, hp, by rw [ht]; exact hH.1, hH.2.1⟩, hH.2.2.F ht⟩) hH.2.2.2.2 hdg hlk
theorem MC.of {y : MethodName} {b : ByteArray} {n k mc ms : Nat} {own : String} {vs : List Value} {L0 : va_W} {post : va_W → Prop} (hy : plainName y.cls = true) (hown : y.cls = own) (hn : (lg_sl vs).length ≤ n)
    (body : ∀ (p : Program) (e : Env) (s : State) (m : MethodId) (below : List Frame) (meth : Method) (c : Code), CC p s m vs.toArray meth c b n own D cy B0 → meth.sig.returnType = none → meth.name = y.name → Hc D B0 s (wr ++ L0) s.heap [] → ∀ ls : Array Slot, lv_has ls n (lv_args 0 vs) → W p l e (rmC k mc ms) s m vs.toArray below meth c s.heap [] 0 0 (MQ below (QC D B0 wr post) vs.toArray s mc ms (AC B0)) (F0 m 0 ls [])) : MC l y b n k mc ms D cy B0 vs wr L0 post := by
  refine Met.ofW (cc := b) (maxL := n) (ret := none) hy rfl ?_
  intro p e s m args below meth c s₁ B hml hv
  obtain ⟨rfl, hB0, hP, hD, hK⟩ := hv
  have hts := atoms_spec (ws := .code y b n none :: WL) B.pre
  have ho : s.vm.findClass own = some m.cls := by rw [← hown]; exact findClass_of_methodNamed B.named
  have hin : meth.name = y.name := (name_of_methodNamed B.named B.method).1
  rw [lg_entry_eq]
  exact body p e s m below meth c ⟨B.exec, B.bytes, hml, ho, fun w h => hts w (List.mem_cons_of_mem _ h), B.notSynchronized, hK, hB0⟩ B.returns hin ⟨hP, hD, va_S.rf⟩ _ (lv_entry vs hn)
end FC
