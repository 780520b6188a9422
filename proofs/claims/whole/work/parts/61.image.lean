section STATE4
variable {Sc Sm : S2} {n z B : Int} {s : Int → Int}
theorem op_image (hB : B ≤ 50000) : Op_image (RelB B) (RelB (B + 40)) := fun Sc Sm H => by
  obtain ⟨g1, g2, g3, ⟨n, z, s, cur, g4'⟩, ⟨nl, r, pl, g5⟩, g6, g7⟩ := id H
  have i29 := cur.2.2.2.2.2.1
  have n0 := cur.1
  by_cases g0 : n = 0
  · rw [if_pos g0] at i29
    refine ⟨1000, 1000, -1, Sc, Sm, ?_, ?_, H.up (by omega)⟩
    · unfold f_X10_image
      simp (disch := omega) only [noTrace_y _ cur g0, gI, uI, cI_of, aI_of, sI_of, mnI_of, mxI_of, abI_of, dvI_of, rmI_of, bI_of, bV_of, rI, rV, rL, rP, rT, rZ_of, rC_of, if_pos, if_neg, if_true, if_false]
    · unfold f_X11_image
      simp (disch := omega) only [i29, gI, uI, cI_of, aI_of, sI_of, mnI_of, mxI_of, abI_of, dvI_of, rmI_of, bI_of, bV_of, rI, rV, rL, rP, rT, rZ_of, rC_of, if_pos, if_neg, if_true, if_false]
  · rw [if_neg g0] at i29
    obtain ⟨h, nx, T, e, k1, k2, k3, k4, k5, k6, k7, k8, k9⟩ := id g6
    obtain ⟨C1, a1, a2, a3, -⟩ := copyFrom_of 1000 (c0 := 48) cur.2.2.2.1 n0.2 (by omega) (by omega) (by omega)
    obtain ⟨C2, b1, b2, b3⟩ := logCopy_of 1000 (l := 27) (l' := 50) (k7.kept a3 (fun j q z => by have q : 27 ≤ j ∧ j ≤ 27 + 3 := q; have z : j = 48 ∨ j = 48 + 1 := z; omega)) (Or.inl ⟨rfl, rfl⟩)
    have frC : Fr (fun j => 48 ≤ j ∧ j ≤ 53) Sc C2 := a3.trans b3 (fun j q => by have q : j = 48 ∨ j = 48 + 1 := q; omega) (fun j q => by have q : 50 ≤ j ∧ j ≤ 50 + 3 := q; omega)
    obtain ⟨M1, c1, c2, c3, c4⟩ := imageLay 231 1000 0 Sm (by omega) (by omega) (by omega)
    have frM : FrM is24 (fun k => k = 47) Sm (pI M1 0 47 1) := (c4.mono (fun _ h => h) (fun _ h => h.elim)).wF rfl
    have qc : ∀ j, ¬ (48 ≤ j ∧ j ≤ 53) → C2.1 j = Sc.1 j := fun j hj => frC.2 j hj
    have qm : ∀ j, j ≠ 0 → j ≠ 24 → (pI M1 0 47 1).1 j = Sm.1 j := fun j h0 h1 => frM.2.1 j h0 h1
    have qf : ∀ k : Int, k ≠ 47 → (pI M1 0 47 1).1 0 k = Sm.1 0 k := fun k hk => frM.2.2 k hk
    have r24 : ∀ k, 0 ≤ k → k < 231 → (pI M1 0 47 1).1 24 k = Sm.1 8 k := fun k x y => by rw [pI_cell (by decide)]; exact c2 k x y
    have R2 : RelB B C2 (pI M1 0 47 1) := ⟨g1.keep (fun j hj => qc j (by omega)) (qm 1 (by decide) (by decide)) (qf 2 (by decide)), g2.keep (fun j x y => qc j (by omega)) (by rw [qc 0 (by omega)]) (fun _ _ => by rw [qm 6 (by decide) (by decide)]) (fun _ _ => by rw [qm 7 (by decide) (by decide)]) (qf 21 (by decide)), g3.keep (by rw [qc 0 (by omega)]) (by rw [qc 0 (by omega)]) (qm 9 (by decide) (by decide)) (qc 74 (by omega)), ⟨n, z, s, cur.keep (fun j hj => qc j (by omega)) (fun k _ => by rw [qm 8 (by decide) (by decide)]) (qf 29 (by decide)), fun _ => by omega⟩, ⟨nl, r, pl, g5.keep (fun j hj => qc j (by omega)) (fun j hj => qm j (by omega) (by omega)) (by rw [frM.1]) (fun k hk => qf k (by omega))⟩, g6.keep (fun j hj => qc j (by omega)) (fun k _ _ => by rw [qm 8 (by decide) (by decide)]) (qm 23 (by decide) (by decide)) (qf 44 (by decide)), Or.inr ⟨pI_eq, n, z, T, s, e, ⟨by omega, n0.2⟩, cur.2.1, cur.2.2.1, a2.kept b3 (by decide) (by decide), CvG.congr (g := Sm.1 8) cur.2.2.2.2.1 n0.2 (fun k x y => r24 k x (by omega)), ⟨by omega, by omega⟩, b2.less (by omega), k8.congr (fun k x y => r24 k (by omega) y)⟩⟩
    have cur2 : CurR C2 (pI M1 0 47 1) n s z := cur.keep (fun j hj => qc j (by omega)) (fun k _ => by rw [qm 8 (by decide) (by decide)]) (qf 29 (by decide))
    obtain ⟨Sm2, d1, d2⟩ := kept_both 1000 R2 cur2 (by omega) (by omega)
    refine ⟨1000, 1000, C2.1 6 1, C2, Sm2, ?_, ?_, (R2.keep KC.refl d2).up (by omega)⟩
    · unfold f_X10_image
      simp (disch := omega) only [noTrace_n _ cur (by omega), a1, b1, gI, uI, cI_of, aI_of, sI_of, mnI_of, mxI_of, abI_of, dvI_of, rmI_of, bI_of, bV_of, rI, rV, rL, rP, rT, rZ_of, rC_of, if_pos, if_neg, if_true, if_false]
    · unfold f_X11_image
      simp (disch := omega) only [i29, gI, uI, cI_of, aI_of, sI_of, mnI_of, mxI_of, abI_of, dvI_of, rmI_of, bI_of, bV_of, rI, rV, rL, rP, rT, rZ_of, rC_of, if_pos, if_neg, if_true, if_false]
      rw [c1, f_X11_image_36]
      simp (disch := omega) only [uZ_of, d1, gI, uI, cI_of, aI_of, sI_of, mnI_of, mxI_of, abI_of, dvI_of, rmI_of, bI_of, bV_of, rI, rV, rL, rP, rT, rZ_of, rC_of, if_pos, if_neg, if_true, if_false]
end STATE4
