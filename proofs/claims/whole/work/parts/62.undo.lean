section STATE5
variable {Sc Sm : S2} {n z B : Int} {s : Int → Int}
theorem undo_both (N M : Nat) (hN : 1000 ≤ N) (hM : 1000 ≤ M) (hB : B ≤ 50000) (H : RelB B Sc Sm) : ∃ (v : Int) (Sc' Sm' : S2), f_X10_undo N Sc = some (v, Sc') ∧ f_X11_undo M Sm = some (v, Sm') ∧ RelB (B + 40) Sc' Sm' := by
  obtain ⟨g1, g2, g3, ⟨n, z, s, cur, g4'⟩, ⟨nl, r, pl, g5⟩, g6, g7⟩ := id H
  obtain ⟨h, nx, T, e, k1, k2, k3, k4, k5, k6, k7, k8, k9⟩ := id g6
  have n0 := cur.1
  by_cases g0 : h = 0
  · rw [g0] at k4 k6
    refine ⟨-1, Sc, Sm, ?_, ?_, H.up (by omega)⟩
    · unfold f_X10_undo
      simp (disch := omega) only [k4, gI, uI, cI_of, aI_of, sI_of, mnI_of, mxI_of, abI_of, dvI_of, rmI_of, bI_of, bV_of, rI, rV, rL, rP, rT, rZ_of, rC_of, if_pos, if_neg, if_true, if_false]
    · unfold f_X11_undo
      simp (disch := omega) only [k6, gI, uI, cI_of, aI_of, sI_of, mnI_of, mxI_of, abI_of, dvI_of, rmI_of, bI_of, bV_of, rI, rV, rL, rP, rT, rZ_of, rC_of, if_pos, if_neg, if_true, if_false]
  · have n1 := g4' (Or.inr (Or.inl (by omega)))
    have i29 := cur.2.2.2.2.2.1
    rw [if_neg (by omega)] at i29
    obtain ⟨no, so, zo, o1, o2, o3, o4, o5, o6⟩ := k9 (h - 1) (by omega) (by omega)
    rw [show (nx + 40 - h + (h - 1)) % 40 = (nx + 39) % 40 by omega] at o4
    obtain ⟨C1, a1, a2, a3, a4, a5⟩ := takeBackC_of N k4 k5 (by omega) k2 o4 o1.2
    obtain ⟨C2, b1, b2, b3⟩ := dropC_of N (k7.kept a5 (fun j q z => by have q : 27 ≤ j ∧ j ≤ 27 + 3 := q; have z : j = 25 ∨ j = 4 ∨ j = 5 := z; omega)) (by omega) (by omega)
    have hoff : Off 6 4 := by unfold Off; omega
    obtain ⟨C3, c1, c2, c3⟩ := findC_of N hoff (a2.kept b3 (by decide) (by decide)) o2 o1.1 o1.2 o3.1 o3.2 (by omega)
    have frC : Fr (fun j => (4 ≤ j ∧ j ≤ 18) ∨ j = 25 ∨ (27 ≤ j ∧ j ≤ 30)) Sc C3 := (a5.trans b3 (fun j q => by have q : j = 25 ∨ j = 4 ∨ j = 5 := q; omega) (fun j q => by have q : 27 ≤ j ∧ j ≤ 27 + 3 := q; omega) (C := fun j => (4 ≤ j ∧ j ≤ 18) ∨ j = 25 ∨ (27 ≤ j ∧ j ≤ 30))).trans c3 (fun _ q => q) (fun j q => by have q : 6 ≤ j ∧ j ≤ 6 + 12 := q; omega)
    have fr13 : Fr (fun j => (6 ≤ j ∧ j ≤ 18) ∨ (27 ≤ j ∧ j ≤ 30)) C1 C3 := b3.trans c3 (fun j q => by have q : 27 ≤ j ∧ j ≤ 27 + 3 := q; omega) (fun j q => by have q : 6 ≤ j ∧ j ≤ 6 + 12 := q; omega)
    obtain ⟨M1, d1, d2, d3, d4⟩ := undoM_of M k6 (by omega) (by omega)
    have qc : ∀ j, ¬ ((4 ≤ j ∧ j ≤ 18) ∨ j = 25 ∨ (27 ≤ j ∧ j ≤ 30)) → C3.1 j = Sc.1 j := fun j hj => frC.2 j hj
    have qm : ∀ j, j ≠ 0 → j ≠ 8 → M1.1 j = Sm.1 j := fun j x y => d4.2.1 j x y
    have qf : ∀ k : Int, k ≠ 44 → M1.1 0 k = Sm.1 0 k := fun k x => d4.2.2 k x
    have e44 : C3.1 25 0 = h - 1 := by rw [fr13.at (by decide)]; exact a3
    refine ⟨h - 1, C3, M1, ?_, d1, RelB.up (B := B) ⟨g1.keep (fun j hj => qc j (by omega)) (qm 1 (by decide) (by decide)) (qf 2 (by decide)), g2.keep (fun j x y => qc j (by omega)) (by rw [qc 0 (by omega)]) (fun _ _ => by rw [qm 6 (by decide) (by decide)]) (fun _ _ => by rw [qm 7 (by decide) (by decide)]) (qf 21 (by decide)), g3.keep (by rw [qc 0 (by omega)]) (by rw [qc 0 (by omega)]) (qm 9 (by decide) (by decide)) (qc 74 (by omega)), ⟨no, zo, so, ⟨⟨by omega, o1.2⟩, o2, o3, (a2.kept fr13 (by decide) (by decide)), ?_, ?_, fun _ => c2, fun q => by omega⟩, fun _ => o1.1⟩, ⟨nl, r, pl, g5.keep (fun j hj => qc j (by omega)) (fun j hj => qm j (by omega) (by omega)) (by rw [d4.1]) (fun k hk => qf k (by omega))⟩, ⟨h - 1, (nx + 39) % 40, T - 1, e, by omega, by omega, by omega, e44, by rw [fr13.at (by decide)]; exact a4, d2, ?_, ?_, fun j x y => ?_⟩, g7.keep (fun j hj => qc j (by omega)) (qm 24 (by decide) (by decide)) (qf 47 (by decide))⟩ (by omega)⟩
    · unfold f_X10_undo
      simp (disch := omega) only [k4, a1, b1, c1, e44, gI, uI, cI_of, aI_of, sI_of, mnI_of, mxI_of, abI_of, dvI_of, rmI_of, bI_of, bV_of, rI, rV, rL, rP, rT, rZ_of, rC_of, if_pos, if_neg, if_true, if_false]
    · exact CvG.congr o5 o1.2 (fun k x y => d3 k x (by omega))
    · rw [qf 29 (by decide), if_neg (by omega)]; exact i29
    · rw [show T - 1 - (h - 1) = T - h by omega]
      exact b2.kept c3 (fun j q z => by have q : 27 ≤ j ∧ j ≤ 27 + 3 := q; have z : 6 ≤ j ∧ j ≤ 6 + 12 := z; omega)
    · rw [show T - h + (h - 1) = T - 1 by omega] at o6
      exact o6.congr (fun k x y => d3 k (by omega) y)
    · rw [show T - 1 - (h - 1) = T - h by omega, show ((nx + 39) % 40 + 40 - (h - 1) + j) % 40 = (nx + 40 - h + j) % 40 by omega]
      exact (HistR.keep (h := h) (nx := nx) k9 k2 (fun i hi => qc i (by omega)) (qm 23 (by decide) (by decide))) j x (by omega)
theorem op_undo (hB : B ≤ 50000) : Op_undo (RelB B) (RelB (B + 40)) := fun Sc Sm H => ⟨1000, 1000, undo_both 1000 1000 (by decide) (by decide) hB H⟩
end STATE5
