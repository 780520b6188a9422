section STATE6
variable {Sc Sm : S2} {n z B : Int} {s : Int → Int}
theorem back_both (N M : Nat) (hN : 1000 ≤ N) (hM : 1000 ≤ M) (hB : B ≤ 50000) (H : RelB B Sc Sm) : ∃ (v : Int) (Sc' Sm' : S2), f_X10_back N Sc = some (v, Sc') ∧ f_X11_back M Sm = some (v, Sm') ∧ RelB (B + 40) Sc' Sm' := by
  obtain ⟨g1, g2, g3, ⟨n, z, s, cur, g4'⟩, ⟨nl, r, pl, g5⟩, g6, g7⟩ := id H
  obtain ⟨h, nx, T0, e0, k1, k2, k3, k4, k5, k6, k7, k8, k9⟩ := id g6
  rcases id g7 with ⟨h1, h2⟩ | ⟨h1, no, zo, T, so, e, o1, o2, o3, o4, o5, o6, o7, o8⟩
  · refine ⟨-1, Sc, Sm, ?_, ?_, H.up (by omega)⟩
    · unfold f_X10_back
      simp (disch := omega) only [h1, gI, uI, cI_of, aI_of, sI_of, mnI_of, mxI_of, abI_of, dvI_of, rmI_of, bI_of, bV_of, rI, rV, rL, rP, rT, rZ_of, rC_of, if_pos, if_neg, if_true, if_false]
    · unfold f_X11_back
      simp (disch := omega) only [h2, gI, uI, cI_of, aI_of, sI_of, mnI_of, mxI_of, abI_of, dvI_of, rmI_of, bI_of, bV_of, rI, rV, rL, rP, rT, rZ_of, rC_of, if_pos, if_neg, if_true, if_false]
  · have n1 := g4' (Or.inl h1)
    have i29 := cur.2.2.2.2.2.1
    rw [if_neg (by omega)] at i29
    have e48 := o4.1
    obtain ⟨C1, a1, a2, a3, -⟩ := copyFrom_of N (c0 := 4) o4 o1.2 (by omega) (by omega) (by omega)
    obtain ⟨C2, b1, b2, b3⟩ := logCopy_of N (l := 50) (l' := 27) (o7.kept a3 (fun j q z => by have q : 50 ≤ j ∧ j ≤ 50 + 3 := q; have z : j = 4 ∨ j = 4 + 1 := z; omega)) (Or.inr ⟨rfl, rfl⟩)
    have frf : Fr (fun j => j = 25) C2 (pI C2 25 0 0) := Fr.refl.pI rfl
    have hoff : Off 6 4 := by unfold Off; omega
    have cu2 := (a2.kept b3 (by decide) (by decide)).kept frf (by decide) (by decide)
    obtain ⟨C3, c1, c2, c3⟩ := findC_of N hoff cu2 o2 o1.1 o1.2 o3.1 o3.2 (by omega)
    have frC : Fr (fun j => (4 ≤ j ∧ j ≤ 18) ∨ j = 25 ∨ (27 ≤ j ∧ j ≤ 30)) Sc C3 := (((a3.trans b3 (fun j q => by have q : j = 4 ∨ j = 4 + 1 := q; omega) (fun j q => by have q : 27 ≤ j ∧ j ≤ 27 + 3 := q; omega) (C := fun j => (4 ≤ j ∧ j ≤ 18) ∨ j = 25 ∨ (27 ≤ j ∧ j ≤ 30))).trans frf (fun _ q => q) (fun j q => by have q : j = 25 := q; omega) (C := fun j => (4 ≤ j ∧ j ≤ 18) ∨ j = 25 ∨ (27 ≤ j ∧ j ≤ 30)))).trans c3 (fun _ q => q) (fun j q => by have q : 6 ≤ j ∧ j ≤ 6 + 12 := q; omega)
    obtain ⟨M1, d1, d2, d3, d4⟩ := backLay 231 M 0 Sm (by omega) (by omega) (by omega)
    have frM : FrM is8 f44 Sm (pI M1 0 44 0) := (d4.mono (fun _ h => h) (fun _ h => h.elim)).wF rfl
    have qc : ∀ j, ¬ ((4 ≤ j ∧ j ≤ 18) ∨ j = 25 ∨ (27 ≤ j ∧ j ≤ 30)) → C3.1 j = Sc.1 j := fun j hj => frC.2 j hj
    have qm : ∀ j, j ≠ 0 → j ≠ 8 → (pI M1 0 44 0).1 j = Sm.1 j := fun j x y => frM.2.1 j x y
    have qf : ∀ k : Int, k ≠ 44 → (pI M1 0 44 0).1 0 k = Sm.1 0 k := fun k x => frM.2.2 k x
    have r8 : ∀ k, 0 ≤ k → k < 231 → (pI M1 0 44 0).1 8 k = Sm.1 24 k := fun k x y => by rw [pI_cell (by decide)]; exact d2 k x y
    have cur3 : CurR C3 (pI M1 0 44 0) no so zo := ⟨⟨by omega, o1.2⟩, o2, o3, cu2.kept c3 (by decide) (by decide), CvG.congr o5 o1.2 (fun k x y => r8 k x (by omega)), by rw [qf 29 (by decide), if_neg (by omega)]; exact i29, fun _ => c2, fun q => by omega⟩
    have e25 : C3.1 25 0 = 0 := by rw [c3.at (by decide), pI_eq]
    have e251 : C3.1 25 1 = nx := by rw [c3.at (by decide), pI_idx (by decide), b3.at (by decide), a3.at (by decide)]; exact k5
    have R3 : RelB B C3 (pI M1 0 44 0) := ⟨g1.keep (fun j hj => qc j (by omega)) (qm 1 (by decide) (by decide)) (qf 2 (by decide)), g2.keep (fun j x y => qc j (by omega)) (by rw [qc 0 (by omega)]) (fun _ _ => by rw [qm 6 (by decide) (by decide)]) (fun _ _ => by rw [qm 7 (by decide) (by decide)]) (qf 21 (by decide)), g3.keep (by rw [qc 0 (by omega)]) (by rw [qc 0 (by omega)]) (qm 9 (by decide) (by decide)) (qc 74 (by omega)), ⟨no, zo, so, cur3, fun _ => o1.1⟩, ⟨nl, r, pl, g5.keep (fun j hj => qc j (by omega)) (fun j hj => qm j (by omega) (by omega)) (by rw [frM.1]) (fun k hk => qf k (by omega))⟩, ⟨0, nx, T, e, by omega, k2, by omega, e25, e251, pI_eq, by rw [show T - 0 = T by omega]; exact (b2.kept frf (fun j q z => by have q : 27 ≤ j ∧ j ≤ 27 + 3 := q; have z : j = 25 := z; omega)).kept c3 (fun j q z => by have q : 27 ≤ j ∧ j ≤ 27 + 3 := q; have z : 6 ≤ j ∧ j ≤ 6 + 12 := z; omega), o8.congr (fun k x y => r8 k (by omega) y), fun j x y => by omega⟩, g7.keep (fun j hj => qc j (by omega)) (qm 24 (by decide) (by decide)) (qf 47 (by decide))⟩
    obtain ⟨Sm2, f1, f2⟩ := kept_both M R3 cur3 o1.1 (by omega)
    refine ⟨C3.1 6 1, C3, Sm2, ?_, ?_, (R3.keep KC.refl f2).up (by omega)⟩
    · unfold f_X10_back f_X2_forget
      simp (disch := omega) only [e48, a1, b1, c1, gI, uI, cI_of, aI_of, sI_of, mnI_of, mxI_of, abI_of, dvI_of, rmI_of, bI_of, bV_of, rI, rV, rL, rP, rT, rZ_of, rC_of, if_pos, if_neg, if_true, if_false]
    · unfold f_X11_back
      simp (disch := omega) only [h1, gI, uI, cI_of, aI_of, sI_of, mnI_of, mxI_of, abI_of, dvI_of, rmI_of, bI_of, bV_of, rI, rV, rL, rP, rT, rZ_of, rC_of, if_pos, if_neg, if_true, if_false]
      rw [d1, f_X11_back_36]
      simp (disch := omega) only [f1, gI, uI, cI_of, aI_of, sI_of, mnI_of, mxI_of, abI_of, dvI_of, rmI_of, bI_of, bV_of, rI, rV, rL, rP, rT, rZ_of, rC_of, if_pos, if_neg, if_true, if_false]
theorem op_back (hB : B ≤ 50000) : Op_back (RelB B) (RelB (B + 40)) := fun Sc Sm H => ⟨1000, 1000, back_both 1000 1000 (by decide) (by decide) hB H⟩
end STATE6
