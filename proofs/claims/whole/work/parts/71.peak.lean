/-! what is asked: peak -/
section ASK7
variable {S Sc Sm : S2} {n z nl r B no zo : Int} {s pl so : Int → Int}
theorem KM.w0 {v : Int} : KM Sm (pI Sm 0 0 v) := ⟨fun j hj => pI_row (by omega), rfl, fun _ _ => by rw [pI_cell (by decide)], fun _ _ => by rw [pI_cell (by decide)], fun k hk => pI_idx (by omega)⟩
set_option maxHeartbeats 4000000 in
theorem peak_both (N M : Nat) (hN : 2000 ≤ N) (hM : 2000 ≤ M) (hB : B ≤ 50000) (H : RelB B Sc Sm) {a1 a2 : Int} (h1 : inR a1) (h2 : inR a2) : ∃ (o : Option Int) (bv th : Int) (Sc1 Sm1 Sm2 : S2), f_X10_peak N Sc a1 a2 = some (o, Sc1) ∧ f_X11_peak M Sm a1 a2 = some (bv, Sm1) ∧ f_X11_thrown M Sm1 = some (th, Sm2) ∧ th = (if o.isSome then 0 else 1) ∧ (∀ v, o = some v → v = bv) ∧ RelB (B + 40) Sc1 Sm2 := by
  obtain ⟨-, -, -, ⟨n, z, s, cur, -⟩, ⟨nl, r, pl, ln⟩, -⟩ := id H
  have hb1 := h1.1
  have hb2 := h1.2
  have ha1 := h2.1
  have ha2 := h2.2
  obtain ⟨⟨n0, n48⟩, hb, hz, hc, hm, hi, hP, hQ⟩ := id cur
  -- refused
  have refu : ∀ Sm1, KM Sm Sm1 → f_X10_peak N Sc a1 a2 = some (none, Sc) → f_X11_peak M Sm a1 a2 = f_X11_peak_23 M a1 a2 Sm1 → ∃ (o : Option Int) (bv th : Int) (Sc1 Sm1 Sm2 : S2), f_X10_peak N Sc a1 a2 = some (o, Sc1) ∧ f_X11_peak M Sm a1 a2 = some (bv, Sm1) ∧ f_X11_thrown M Sm1 = some (th, Sm2) ∧ th = (if o.isSome then 0 else 1) ∧ (∀ v, o = some v → v = bv) ∧ RelB (B + 40) Sc1 Sm2 := fun Sm1 km e1 e2 => by
    refine ⟨none, 0, 1, Sc, pI Sm1 0 0 1, pI Sm1 0 0 1, e1, ?_, ?_, rfl, fun v q => (by cases q), (H.keep KC.refl (km.trans KM.w0)).up (by omega)⟩
    · rw [e2]
      unfold f_X11_peak_23 f_X11_peak_24
      unfold uI gI
      dsimp only
      rw [pI_eq, cI_of (by decide) (by decide) (by decide) (by decide), if_pos rfl]
      rfl
    · unfold f_X11_thrown
      simp only [gI, pI_eq, rI]
  by_cases g0 : n = 0
  · have q := hQ g0
    have e60 := q.1
    refine refu Sm KM.refl ?_ ?_
    · by_cases g : a1 < 0
      · exact pkC_n1 h1 g
      · exact pkC_n2 h1 (by omega) (by omega) (by omega)
    · unfold f_X11_peak
      rw [isPeak_0 M cur g0, bI_of, cI_of (by decide) (by decide) (by decide) (by decide), if_pos rfl]
  · have n1 : 1 ≤ n := by omega
    have hP := hP n1
    have p1 := (pk_facts n1 n48 hb).1
    have e60 := hP.1
    obtain ⟨Sm1, e1, e2, e3, e4, e5, e6⟩ := isPeak_y M cur n1 ln (by omega) hb1 hb2
    by_cases g1 : 0 ≤ a1 ∧ a1 < pkC n s
    · rw [if_pos g1] at e1
      by_cases g2 : 0 ≤ a2 ∧ a2 ≤ 8
      · -- told
        have w := (pkW_ok n1 n48 hb).range p1.1 a1 g1.1 g1.2
        have fr0 : FrM (fun _ => False) (fun k => k = 0) Sm1 (pI Sm1 0 0 0) := FrM.refl.wF rfl
        have hM2 := e2.kept fr0 (fun q => q) (fun q => q) (fun q => q) (fun q => q) (fun q => q) (fun q => q) (by decide) (by decide)
        have hc2 := e4.keptM fr0 (by decide) (fun q => q)
        obtain ⟨S1, hS1⟩ : ∃ S1, S1 = pI Sm1 0 0 0 := ⟨_, rfl⟩
        rw [← hS1] at hM2 hc2
        have km : KM Sm S1 := by rw [hS1]; exact e6.trans KM.w0
        have e00 : S1.1 0 0 = 0 := by rw [hS1, pI_eq]
        have e18 := (hM2.2.1 a1 g1.1 g1.2).1
        obtain ⟨e13, e14, e16, e15⟩ := hM2.1.2 _ w.1 w.2
        have fin : ∀ (v : Int) (Sc1 : S2), KC Sc Sc1 → f_X10_peak N Sc a1 a2 = some (some v, Sc1) → f_X11_peak_24 M a1 a2 0 Sm1 = some (v, S1) → ∃ (o : Option Int) (bv th : Int) (Sc1 Sm1 Sm2 : S2), f_X10_peak N Sc a1 a2 = some (o, Sc1) ∧ f_X11_peak M Sm a1 a2 = some (bv, Sm1) ∧ f_X11_thrown M Sm1 = some (th, Sm2) ∧ th = (if o.isSome then 0 else 1) ∧ (∀ v, o = some v → v = bv) ∧ RelB (B + 40) Sc1 Sm2 := fun v Sc1 kc c1 c2 => by
          refine ⟨some v, v, 0, Sc1, S1, S1, c1, ?_, ?_, rfl, fun w q => (by cases q; rfl), (H.keep kc km).up (by omega)⟩
          · unfold f_X11_peak
            rw [e1, bI_of, cI_of (by decide) (by decide) (by decide) (by decide), if_neg (by decide), in_y M (by decide) (by decide) g2.1 g2.2, bI_of, cI_of (by decide) (by decide) (by decide) (by decide), if_neg (by decide)]
            exact c2
          · unfold f_X11_thrown
            simp only [gI, e00, rI]
        have hc60 : Sc.1 6 0 ≤ 48 := by rw [e60]; omega
        have hc6a : a1 < Sc.1 6 0 := by rw [e60]; exact g1.2
        have a48 : a1 < 48 := by omega
        have w48 : pkW n s a1 < 48 := by omega
        have sE : pI Sm1 0 0 0 = S1 := hS1.symm
        rcases (show a2 = 0 ∨ a2 = 1 ∨ a2 = 2 ∨ a2 = 3 ∨ a2 = 4 ∨ a2 = 5 ∨ a2 = 6 ∨ a2 = 7 ∨ a2 = 8 by omega) with g | g | g | g | g | g | g | g | g
        · have ec := placeC_of N hP n1 n48 hb g1.1 g1.2
          refine fin (pkP n s (pkW n s a1)) Sc KC.refl ?_ ?_
          · rw [g, pkC_0 g1.1 hc6a hc60, ec]; rfl
          · rw [g, pkM_0 sE e00 e18 g1.1 a48, aI_of w.1 w48, e13]; rfl
        · have ec : f_X5_heightOf N Sc 6 a1 = some (qH n s a1, Sc) := heightC_of N hP n1 n48 hb g1.1 g1.2
          have em := heightM_of M hc2 hM2 n1 n48 hb g1.1 g1.2
          refine fin (qH n s a1) Sc KC.refl ?_ ?_
          · rw [g, pkC_1 g1.1 hc6a hc60, ec]; rfl
          · rw [g, pkM_1 sE e00 e18 g1.1 a48, em]; rfl
        · have ec := valleyC_of N hP n1 n48 hb g1.1 g1.2
          refine fin (pkV n s (pkW n s a1)) Sc KC.refl ?_ ?_
          · rw [g, pkC_2 g1.1 hc6a hc60, ec]; rfl
          · rw [g, pkM_2 sE e00 e18 g1.1 a48, aI_of w.1 w48, e14]; rfl
        · have ec := deathC_of N hP n1 n48 hb g1.1 g1.2
          refine fin (pkD n s (pkW n s a1)) Sc KC.refl ?_ ?_
          · rw [g, pkC_3 g1.1 hc6a hc60, ec]; rfl
          · rw [g, pkM_3 sE e00 e18 g1.1 a48, aI_of w.1 w48, e15]; rfl
        · have ec : f_X5_persistenceOf N Sc 6 a1 = some (qL n s a1, Sc) := persC_of N hP n1 n48 hb g1.1 g1.2
          have em := lifeK_of M hc2 hM2 n1 n48 hb g1.1 g1.2
          refine fin (qL n s a1) Sc KC.refl ?_ ?_
          · rw [g, pkC_4 g1.1 hc6a hc60, ec]; rfl
          · rw [g, pkM_4 sE e00 e18 g1.1 a48, em]; rfl
        · obtain ⟨v, ec, ev⟩ := parentC_of N hP n1 n48 hb g1.1 g1.2
          have pa : qA n s a1 = -1 ∨ (0 ≤ qA n s a1 ∧ qA n s a1 < pkW n s a1) := pkA_in n1 n48 hb _ w.1 w.2
          have e16 : S1.1 16 (pkW n s a1) = qA n s a1 := e16
          refine fin v Sc KC.refl ?_ ?_
          · rw [g, pkC_5 g1.1 hc6a hc60, ec]; rfl
          · rw [g, pkM_5 sE e00 e18 g1.1 a48, aI_of w.1 w48, e16]
            rcases ev with ⟨v1, v2⟩ | ⟨v1, v2, v3, v4⟩
            · rw [v1, v2, cI_of (by decide) (by decide) (by decide) (by decide), if_pos rfl]; rfl
            · have e19 := (hM2.2.1 v v2 v3).2
              rw [v4] at e19
              rw [cI_of (by omega) (by omega) (by omega) (by omega), if_neg v1, aI_of w.1 w48, e16, aI_of (by omega) (by omega), e19]; rfl
        · have ec := isKeptC_of N cur hb1 hb2
          have em := isKept_of M hM2 n1 n48 hb hb1 hb2
          by_cases gk : 0 ≤ a1 ∧ a1 < pkK n s z
          · rw [if_pos ⟨n1, gk⟩] at ec
            rw [if_pos gk] at em
            refine fin 1 Sc KC.refl ?_ ?_
            · rw [g, pkC_6 g1.1 hc6a hc60, ec, bI_of, cI_of (by decide) (by decide) (by decide) (by decide), if_neg (by decide)]; rfl
            · rw [g, pkM_6 sE e00 e18 g1.1 a48, em, bI_of, cI_of (by decide) (by decide) (by decide) (by decide), if_neg (by decide)]; rfl
          · rw [if_neg (fun q => gk q.2)] at ec
            rw [if_neg gk] at em
            refine fin 0 Sc KC.refl ?_ ?_
            · rw [g, pkC_6 g1.1 hc6a hc60, ec, bI_of, cI_of (by decide) (by decide) (by decide) (by decide), if_pos rfl]; rfl
            · rw [g, pkM_6 sE e00 e18 g1.1 a48, em, bI_of, cI_of (by decide) (by decide) (by decide) (by decide), if_pos rfl]; rfl
        · have ec : f_X5_generationOf N Sc 6 a1 = some (qG n s a1, Sc) := genC_of N hP n1 n48 hb g1.1 g1.2
          have em := generationOf_of M hM2 n1 n48 hb g1.1 g1.2 (by omega)
          refine fin (qG n s a1) Sc KC.refl ?_ ?_
          · rw [g, pkC_7 g1.1 hc6a hc60, ec]; rfl
          · rw [g, pkM_7 sE e00 e18 g1.1 a48, em]; rfl
        · obtain ⟨hLB, hLC, -, -⟩ := id ln
          obtain ⟨C1, c1, c2, c3⟩ := matchC_of N hLB n1 n48 hb (by_ := 0) (by omega) hLC hP (by omega)
          have ec := takenBy_of N hLB n1 n48 hb (z := z) (by rw [c3.at (by decide)]; exact hLC.1) c2 g1.1 g1.2 (by omega)
          have em : S1.1 20 a1 = lnQ n s z nl pl r 0 a1 := by rw [hS1, pI_cell (by decide)]; exact e3.2.1 a1 g1.1 g1.2
          refine fin (lnQ n s z nl pl r 0 a1) C1 (KC.of c3 (fun j q => by have q : j = 23 := q; show j = 1 ∨ j = 19 ∨ j = 23 ∨ (54 ≤ j ∧ j ≤ 73) ∨ (75 ≤ j ∧ j ≤ 81); omega)) ?_ ?_
          · rw [g, pkC_8 g1.1 hc6a hc60, c1, bI_of, ec]; rfl
          · rw [g, pkM_8 sE e00 e18 g1.1 a48, aI_of g1.1 a48, em]; rfl
      · refine refu Sm1 e6 ?_ ?_
        · exact pkC_n3 h2 g1.1 (by omega) (by omega) (by omega)
        · unfold f_X11_peak
          rw [e1, bI_of, cI_of (by decide) (by decide) (by decide) (by decide), if_neg (by decide), in_n M (by decide) (by decide) (by decide) (by decide) ha1 ha2 (by omega), bI_of, cI_of (by decide) (by decide) (by decide) (by decide), if_pos rfl]
    · rw [if_neg g1] at e1
      refine refu Sm1 e6 ?_ ?_
      · by_cases g : a1 < 0
        · exact pkC_n1 h1 g
        · exact pkC_n2 h1 (by omega) (by omega) (by omega)
      · unfold f_X11_peak
        rw [e1, bI_of, cI_of (by decide) (by decide) (by decide) (by decide), if_pos rfl]
theorem op_peak (hB : B ≤ 50000) : Op_peak (RelB B) (RelB (B + 40)) := fun Sc Sm H a1 a2 h1 h2 => ⟨2000, 2000, 2000, peak_both 2000 2000 (by decide) (by decide) hB H h1 h2⟩
end ASK7
