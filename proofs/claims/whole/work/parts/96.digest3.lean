/-! the digest: the command -/
theorem mD_plans {S : sT} {L : Nat → List Nat} {st : Nat → Nat} {sg : List (Nat × Nat × Nat)} (hB : SB sg) (hI : IR S L st sg) (hD : RD S L st sg) (h9 : R9 S) (x17 : Int64) : ∃ S', (bn2 (f_X11_firstOf (0 : Int32) S) (fun r20 S21 => lt (((31 : Int64) * x17) + ((r20).toInt64)) (fun x22 => bn2 (f_X11_firstOf (1 : Int32) S21) (fun r24 S25 => lt (((31 : Int64) * x22) + ((r24).toInt64)) (fun x26 => bn2 (f_X11_highestNow S25) (fun r28 S29 => lt (((31 : Int64) * x26) + ((r28).toInt64)) (fun x30 => bn2 (f_X11_planOf (-1 : Int32) (-1 : Int32) S29) (fun r32 S33 => lt (((31 : Int64) * x30) + ((r32).toInt64)) (fun x34 => bn2 (f_X11_planOf (-1 : Int32) (0 : Int32) S33) (fun r36 S37 => lt (((31 : Int64) * x34) + ((r36).toInt64)) (fun x38 => bn2 (f_X11_planOf (3 : Int32) (-1 : Int32) S37) (fun r40 S41 => lt (((31 : Int64) * x38) + ((r40).toInt64)) (fun x42 => bn2 (f_X11_planOf (3 : Int32) (0 : Int32) S41) (fun r44 S45 => lt (((31 : Int64) * x42) + ((r44).toInt64)) (fun x46 => bn2 (f_X11_sidesOf (2 : Int32) (0 : Int32) S45) (fun r48 S49 => lt (((31 : Int64) * x46) + ((r48).toInt64)) (fun x50 => bn2 (f_X11_sidesOf (2 : Int32) (1 : Int32) S49) (fun r52 S53 => lt (((31 : Int64) * x50) + ((r52).toInt64)) (fun x54 => jn (fun (x55 : Int64) (S56 : sT) => bn2 (f_X11_frostOf (5 : Int32) (0 : Int32) S56) (fun r58 S59 => lt (((31 : Int64) * x55) + r58) (fun x60 => bn2 (f_X11_frostOf (5 : Int32) (1 : Int32) S59) (fun r62 S63 => lt (((31 : Int64) * x60) + r62) (fun x64 => bn2 (f_X11_years (7 : Int32) (9 : Int32) (-1 : Int32) S63) (fun r66 S67 => some ((((31 : Int64) * x64) + ((r66).toInt64)), S67))))))) (fun j68 => l_X11_digest_345 j68 FU x54 (0 : Int32) S53)))))))))))))))))))) = some (plnH L st sg x17, S') ∧ Fr1 PRM S S' ∧ R9 S' := by
  have hF : 1000 < FU := by unfold FU; omega
  have zN : iI ((0 : Nat) : Int) = (0 : Int32) := rfl
  have zN1 : iI ((1 : Nat) : Int) = (1 : Int32) := rfl
  obtain ⟨A1, a1, FA1⟩ := mV_first (w := 0) hD h9 (by omega)
  have D1 := hD.pm FA1
  have K1 := h9.pm FA1
  obtain ⟨A2, a2, FA2⟩ := mV_first (w := 1) D1 K1 (by omega)
  have D2 := D1.pm FA2
  have K2 := K1.pm FA2
  obtain ⟨A3, a3, FA3⟩ := mV_highest D2 K2
  have D3 := D2.pm FA3
  have K3 := K2.pm FA3
  obtain ⟨A4, a4, FA4, K4⟩ := mD_mend (i := -1) D3 K3 (by omega) (by omega)
  have D4 := D3.fr FA4
  obtain ⟨A5, a5, FA5, K5⟩ := mD_mend (i := 0) D4 K4 (by omega) (by omega)
  have D5 := D4.fr FA5
  obtain ⟨A6, a6, FA6, K6⟩ := mD_open (p := 3) (i := -1) (by omega) D5 K5 (by omega) (by omega)
  have D6 := D5.fr FA6
  obtain ⟨A7, a7, FA7, K7⟩ := mD_open (p := 3) (i := 0) (by omega) D6 K6 (by omega) (by omega)
  have D7 := D6.fr FA7
  obtain ⟨A8, a8, FA8⟩ := mD_sides (k := 2) (w := 0) D7 K7 (by omega) (by omega) (by omega) (by omega)
  have D8 := D7.pm FA8
  have K8 := K7.pm FA8
  obtain ⟨A9, a9, FA9⟩ := mD_sides (k := 2) (w := 1) D8 K8 (by omega) (by omega) (by omega) (by omega)
  have D9 := D8.pm FA9
  have K9 := K8.pm FA9
  have FX : Fr1 PRM S A9 := (((((((PM_prm FA1).tr (PM_prm FA2)).tr (PM_prm FA3)).tr (PX_prm FA4)).tr (PX_prm FA5)).tr (PX_prm FA6)).tr (PX_prm FA7)).tr ((PM_prm FA8).tr (PM_prm FA9))
  rw [zN] at a1
  rw [zN1] at a2
  rw [show iI (-1) = (-1 : Int32) from rfl] at a4 a6
  rw [show iI 0 = (0 : Int32) from rfl] at a5 a7 a8
  rw [show iI ((3 : Nat) : Int) = (3 : Int32) from rfl] at a6 a7
  rw [show iI ((2 : Nat) : Int) = (2 : Int32) from rfl] at a8 a9
  rw [show iI 1 = (1 : Int32) from rfl] at a9
  have tail : ∀ (x : Int64) (T : sT), IR T L st sg → RD T L st sg → R9 T → ∃ S', bn2 (f_X11_frostOf (5 : Int32) (0 : Int32) T) (fun r58 S59 => lt (((31 : Int64) * x) + r58) (fun x60 => bn2 (f_X11_frostOf (5 : Int32) (1 : Int32) S59) (fun r62 S63 => lt (((31 : Int64) * x60) + r62) (fun x64 => bn2 (f_X11_years (7 : Int32) (9 : Int32) (-1 : Int32) S63) (fun r66 S67 => some ((((31 : Int64) * x64) + ((r66).toInt64)), S67)))))) = some (hx ((31 : Int64) * ((31 : Int64) * x + frA L st 5 0) + frA L st 5 1) (yrN L st), S') ∧ Fr1 PRM T S' ∧ R9 S' := by
    intro x T t1 t2 t3
    obtain ⟨T1, g1, G1⟩ := mD_frost (c := 5) (w := 0) t2 t3 (by omega) (by omega) (by omega)
    obtain ⟨T2, g2, G2⟩ := mD_frost (c := 5) (w := 1) (t2.pm G1) (t3.pm G1) (by omega) (by omega) (by omega)
    obtain ⟨T3, g3, G3, G4⟩ := e_yearsN (t1.fr ((PM_prm G1).tr (PM_prm G2))) ((t3.pm G1).pm G2)
    rw [show iI ((5 : Nat) : Int) = (5 : Int32) from rfl] at g1 g2
    rw [show iI 0 = (0 : Int32) from rfl] at g1
    rw [show iI 1 = (1 : Int32) from rfl] at g2
    refine ⟨T3, ?_, ((PM_prm G1).tr (PM_prm G2)).tr G3, G4⟩
    rw [g1, bn2_s, lt_b, g2, bn2_s, lt_b, g3, bn2_s]
    rfl
  rw [a1, bn2_s, lt_b, hx_e, a2, bn2_s, lt_b, hx_e, a3, bn2_s, lt_b, hx_e, a4, bn2_s, lt_b, hx_e, a5, bn2_s, lt_b, hx_e, a6, bn2_s, lt_b, hx_e, a7, bn2_s, lt_b, hx_e, a8, bn2_s, lt_b, hx_e, a9, bn2_s, lt_b, hx_e, jn_b]
  obtain ⟨B1, w1, W1, W2⟩ := e_who hB (fun (x55 : Int64) (S56 : sT) => bn2 (f_X11_frostOf (5 : Int32) (0 : Int32) S56) (fun r58 S59 => lt (((31 : Int64) * x55) + r58) (fun x60 => bn2 (f_X11_frostOf (5 : Int32) (1 : Int32) S59) (fun r62 S63 => lt (((31 : Int64) * x60) + r62) (fun x64 => bn2 (f_X11_years (7 : Int32) (9 : Int32) (-1 : Int32) S63) (fun r66 S67 => some ((((31 : Int64) * x64) + ((r66).toInt64)), S67))))))) 3 0 FU (hx (hx (hx (hx (hx (hx (hx (hx (hx x17 (fiS L st 0)) (fiS L st 1)) (iI (hiC (nW L) (gW' L st)))) (plA (mdF st (nW L) (gW' L st)) (-1))) (plA (mdF st (nW L) (gW' L st)) 0)) (plA (opF st (nW L) 3 (gW' L st)) (-1))) (plA (opF st (nW L) 3 (gW' L st)) 0)) (sdA st (nW L) 2 ((st 0 + (tW L).length) % 2) (gW' L st) 0)) (sdA st (nW L) 2 ((st 0 + (tW L).length) % 2) (gW' L st) 1)) A9 D9 K9 (by omega) (by omega)
  rw [zN] at w1
  obtain ⟨S', t1, t2, t3⟩ := tail (smH (whoS L st sg) 3 0 (hx (hx (hx (hx (hx (hx (hx (hx (hx x17 (fiS L st 0)) (fiS L st 1)) (iI (hiC (nW L) (gW' L st)))) (plA (mdF st (nW L) (gW' L st)) (-1))) (plA (mdF st (nW L) (gW' L st)) 0)) (plA (opF st (nW L) 3 (gW' L st)) (-1))) (plA (opF st (nW L) 3 (gW' L st)) 0)) (sdA st (nW L) 2 ((st 0 + (tW L).length) % 2) (gW' L st) 0)) (sdA st (nW L) 2 ((st 0 + (tW L).length) % 2) (gW' L st) 1))) B1 ((hI.fr FX).fr (PX_prm W1)) (D9.fr W1) W2
  exact ⟨S', w1.trans t1, (FX.tr (PX_prm W1)).tr t2, t3⟩
theorem T_28 : St_28 Inv := by
  intro S hI
  obtain ⟨L, st, sg, h1, h2, h3, h4, h5⟩ := id hI
  obtain ⟨hB, hG, hGm⟩ := SG_iff.mp h3
  have hF : 1000 < FU := by unfold FU; omega
  have zN : iI ((0 : Nat) : Int) = (0 : Int32) := rfl
  obtain ⟨S1, c1, F1⟩ := cD_digest h1 hB hG
  have hI1 : Inv S1 := hI.fr1 F1 PCs_lo
  have h2' : MI S1 L st := (h2.fr F1.fr (fun k i z => PCs_lo k i (Or.inr (Or.inl z))) : MI (S1.1, S.2) L st)
  have h3' : SG S1 sg := (h3.fr F1.fr (fun k i z => PCs_lo k i (Or.inr (Or.inr (Or.inl z)))) : SG (S1.1, S.2) sg)
  have hR : IR S1 L st sg := ⟨h2'.1, h2'.2.1, (SG_iff.mp h3').2.2⟩
  have k1 : R9 S1 := h2'.2.2
  have hn : nW L ≤ 8 := (wallN h1 (Nat.le_refl (tW L).length)).1
  have h12 : (tW L).length ≤ 12 := (parseT_ok (L 1)).1
  -- the reference, from its end to its beginning
  have end1 : ∀ (h : Int64) (T : sT), IR T L st sg → RD T L st sg → R9 T → ∃ S', l_X11_digest_190 (fun (x17 : Int64) (S18 : sT) => (bn2 (f_X11_firstOf (0 : Int32) S18) (fun r20 S21 => lt (((31 : Int64) * x17) + ((r20).toInt64)) (fun x22 => bn2 (f_X11_firstOf (1 : Int32) S21) (fun r24 S25 => lt (((31 : Int64) * x22) + ((r24).toInt64)) (fun x26 => bn2 (f_X11_highestNow S25) (fun r28 S29 => lt (((31 : Int64) * x26) + ((r28).toInt64)) (fun x30 => bn2 (f_X11_planOf (-1 : Int32) (-1 : Int32) S29) (fun r32 S33 => lt (((31 : Int64) * x30) + ((r32).toInt64)) (fun x34 => bn2 (f_X11_planOf (-1 : Int32) (0 : Int32) S33) (fun r36 S37 => lt (((31 : Int64) * x34) + ((r36).toInt64)) (fun x38 => bn2 (f_X11_planOf (3 : Int32) (-1 : Int32) S37) (fun r40 S41 => lt (((31 : Int64) * x38) + ((r40).toInt64)) (fun x42 => bn2 (f_X11_planOf (3 : Int32) (0 : Int32) S41) (fun r44 S45 => lt (((31 : Int64) * x42) + ((r44).toInt64)) (fun x46 => bn2 (f_X11_sidesOf (2 : Int32) (0 : Int32) S45) (fun r48 S49 => lt (((31 : Int64) * x46) + ((r48).toInt64)) (fun x50 => bn2 (f_X11_sidesOf (2 : Int32) (1 : Int32) S49) (fun r52 S53 => lt (((31 : Int64) * x50) + ((r52).toInt64)) (fun x54 => jn (fun (x55 : Int64) (S56 : sT) => bn2 (f_X11_frostOf (5 : Int32) (0 : Int32) S56) (fun r58 S59 => lt (((31 : Int64) * x55) + r58) (fun x60 => bn2 (f_X11_frostOf (5 : Int32) (1 : Int32) S59) (fun r62 S63 => lt (((31 : Int64) * x60) + r62) (fun x64 => bn2 (f_X11_years (7 : Int32) (9 : Int32) (-1 : Int32) S63) (fun r66 S67 => some ((((31 : Int64) * x64) + ((r66).toInt64)), S67))))))) (fun j68 => l_X11_digest_345 j68 FU x54 (0 : Int32) S53))))))))))))))))))))) FU h (0 : Int32) T = some (plnH L st sg (smH (fun c => yrV L st c) (nW L) 0 h), S') ∧ Fr1 PRM T S' ∧ R9 S' := by
    intro h T t1 t2 t3
    obtain ⟨T1, g1, G1, G2⟩ := e_years (L := L) (st := st) (sg := sg) (fun (x17 : Int64) (S18 : sT) => (bn2 (f_X11_firstOf (0 : Int32) S18) (fun r20 S21 => lt (((31 : Int64) * x17) + ((r20).toInt64)) (fun x22 => bn2 (f_X11_firstOf (1 : Int32) S21) (fun r24 S25 => lt (((31 : Int64) * x22) + ((r24).toInt64)) (fun x26 => bn2 (f_X11_highestNow S25) (fun r28 S29 => lt (((31 : Int64) * x26) + ((r28).toInt64)) (fun x30 => bn2 (f_X11_planOf (-1 : Int32) (-1 : Int32) S29) (fun r32 S33 => lt (((31 : Int64) * x30) + ((r32).toInt64)) (fun x34 => bn2 (f_X11_planOf (-1 : Int32) (0 : Int32) S33) (fun r36 S37 => lt (((31 : Int64) * x34) + ((r36).toInt64)) (fun x38 => bn2 (f_X11_planOf (3 : Int32) (-1 : Int32) S37) (fun r40 S41 => lt (((31 : Int64) * x38) + ((r40).toInt64)) (fun x42 => bn2 (f_X11_planOf (3 : Int32) (0 : Int32) S41) (fun r44 S45 => lt (((31 : Int64) * x42) + ((r44).toInt64)) (fun x46 => bn2 (f_X11_sidesOf (2 : Int32) (0 : Int32) S45) (fun r48 S49 => lt (((31 : Int64) * x46) + ((r48).toInt64)) (fun x50 => bn2 (f_X11_sidesOf (2 : Int32) (1 : Int32) S49) (fun r52 S53 => lt (((31 : Int64) * x50) + ((r52).toInt64)) (fun x54 => jn (fun (x55 : Int64) (S56 : sT) => bn2 (f_X11_frostOf (5 : Int32) (0 : Int32) S56) (fun r58 S59 => lt (((31 : Int64) * x55) + r58) (fun x60 => bn2 (f_X11_frostOf (5 : Int32) (1 : Int32) S59) (fun r62 S63 => lt (((31 : Int64) * x60) + r62) (fun x64 => bn2 (f_X11_years (7 : Int32) (9 : Int32) (-1 : Int32) S63) (fun r66 S67 => some ((((31 : Int64) * x64) + ((r66).toInt64)), S67))))))) (fun j68 => l_X11_digest_345 j68 FU x54 (0 : Int32) S53))))))))))))))))))))) (nW L) 0 FU h T t2 t3 (by omega) (by omega)
    rw [zN] at g1
    obtain ⟨S', d1, d2, d3⟩ := mD_plans hB (t1.fr (PX_prm G1)) (t2.fr G1) G2 (smH (fun c => yrV L st c) (nW L) 0 h)
    exact ⟨S', g1.trans d1, (PX_prm G1).tr d2, d3⟩
  suffices hh : ∃ S2, f_X11_digest S1 = some (digH L st sg, S2) ∧ Fr1 PRM S1 S2 ∧ R9 S2 by
    obtain ⟨S2, e1, e2, e3⟩ := hh
    exact ⟨_, S1, S2, c1, e1, hI1.prm e2 e3⟩
  unfold f_X11_digest
  rw [jn_b]
  obtain ⟨A1, a1, FA1, K1⟩ := e_count (L := L) (st := st) (sg := sg) _ 8 0 FU (17 : Int64) S1 hR k1 (by omega) (by omega)
  rw [zN] at a1
  rw [a1]
  have R1 := hR.fr FA1
  obtain ⟨A2, a2, B2, FA2⟩ := m_readsWall (R1.1 0 (by omega))
  have P2 : Fr PR A1 A2 := PB.pr FA2
  have R2 := R1.fr (PR_prm P2)
  have K2 := K1.pr P2
  obtain ⟨A3, a3, T3, FA3⟩ := m_readsTurns (R2.1 1 (by omega))
  have P3 : Fr PR A2 A3 := PQ.pr FA3
  have R3 := R2.fr (PR_prm P3)
  have K3 := K2.pr P3
  have D3 : RD A3 L st sg := ⟨B2.frP FA3 ⟨by unfold PQ; omega, by unfold PQ; omega, by unfold PQ; omega⟩, T3, R3.2.1, R3.2.2⟩
  (try dsimp only)
  rw [a2, bn2_s, lt_b, hx_e, a3, bn2_s, lt_b, hx_e, jn_b]
  obtain ⟨A4, a4, FA4⟩ := e_cols (L := L) (st := st) (sg := sg) _ (nW L) 0 FU (hx (hx (smH (ctV L st sg) 8 0 (17 : Int64)) (iI (parseW (L 0)).1)) (iI (parseT (L 1)).1)) A3 D3 K3 (by omega) (by omega)
  rw [zN] at a4
  rw [a4]
  have D4 := D3.pm FA4
  have K4 := K3.pm FA4
  have R4 := R3.fr (PM_prm FA4)
  (try dsimp only)
  rw [jn_b]
  obtain ⟨A5, a5, FA5⟩ := e_turns (L := L) (st := st) (sg := sg) _ (tW L).length 0 FU (smC (fun c h => hcol L st (tW L).length c (hcol L st 0 c h)) (nW L) 0 (hx (hx (smH (ctV L st sg) 8 0 (17 : Int64)) (iI (parseW (L 0)).1)) (iI (parseT (L 1)).1))) A4 D4 K4 (by omega) (by omega)
  rw [zN] at a5
  rw [a5]
  have D5 := D4.pm FA5
  have K5 := K4.pm FA5
  have R5 := R4.fr (PM_prm FA5)
  (try dsimp only)
  rw [jn_b]
  obtain ⟨A6, a6, FA6⟩ := e_beh (L := L) (st := st) (sg := sg) _ 2 0 FU (smC (fun t h => smH (tuV L st t) 3 0 h) (tW L).length 0 (smC (fun c h => hcol L st (tW L).length c (hcol L st 0 c h)) (nW L) 0 (hx (hx (smH (ctV L st sg) 8 0 (17 : Int64)) (iI (parseW (L 0)).1)) (iI (parseT (L 1)).1)))) A5 D5 K5 (by omega) (by omega)
  rw [zN] at a6
  rw [a6]
  have D6 := D5.pm FA6
  have K6 := K5.pm FA6
  have R6 := R5.fr (PM_prm FA6)
  (try dsimp only)
  rw [jn_b]
  obtain ⟨S2, e1, e2, e3⟩ := end1 (smC (fun b h => smH (bhV L st (if b = 0 then 0 else (tW L).length)) 4 0 h) 2 0 (smC (fun t h => smH (tuV L st t) 3 0 h) (tW L).length 0 (smC (fun c h => hcol L st (tW L).length c (hcol L st 0 c h)) (nW L) 0 (hx (hx (smH (ctV L st sg) 8 0 (17 : Int64)) (iI (parseW (L 0)).1)) (iI (parseT (L 1)).1))))) A6 R6 D6 K6
  refine ⟨S2, e1, ?_, e3⟩
  exact ((((((FA1.tr (PR_prm P2)).tr (PR_prm P3)).tr (PM_prm FA4)).tr (PM_prm FA5)).tr (PM_prm FA6)).tr e2)
