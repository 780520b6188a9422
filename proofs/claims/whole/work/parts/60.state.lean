section STATE3
variable {Sc Sm : S2} {n z B : Int} {s : Int → Int}
theorem op_status (hB : B ≤ 50000) : Op_status (RelB B) (RelB (B + 40)) := fun Sc Sm H a1 h1 => by
  obtain ⟨-, -, ⟨r0, r1⟩, -⟩ := id H
  have ha1 := h1.1
  have ha2 := h1.2
  refine ⟨10, 10, if a1 = 0 then Sc.1 0 9 else if a1 = 1 then Sc.1 0 10 else -1, Sc, Sm, ?_, ?_, H.up (by omega)⟩
  · unfold f_X10_status
    by_cases g0 : a1 = 0
    · simp (disch := omega) only [gI, uI, cI_of, aI_of, sI_of, mnI_of, mxI_of, abI_of, dvI_of, rmI_of, bI_of, bV_of, rI, rV, rL, rP, rT, rZ_of, rC_of, if_pos, if_neg, if_true, if_false]
    · by_cases g1 : a1 = 1
      · simp (disch := omega) only [gI, uI, cI_of, aI_of, sI_of, mnI_of, mxI_of, abI_of, dvI_of, rmI_of, bI_of, bV_of, rI, rV, rL, rP, rT, rZ_of, rC_of, if_pos, if_neg, if_true, if_false]
      · simp (disch := omega) only [gI, uI, cI_of, aI_of, sI_of, mnI_of, mxI_of, abI_of, dvI_of, rmI_of, bI_of, bV_of, rI, rV, rL, rP, rT, rZ_of, rC_of, if_pos, if_neg, if_true, if_false]
  · unfold f_X11_status
    by_cases g0 : a1 = 0
    · rw [g0]
      simp (disch := omega) only [in_y, r0, gI, uI, cI_of, aI_of, sI_of, mnI_of, mxI_of, abI_of, dvI_of, rmI_of, bI_of, bV_of, rI, rV, rL, rP, rT, rZ_of, rC_of, if_pos, if_neg, if_true, if_false]
    · by_cases g1 : a1 = 1
      · rw [g1]
        simp (disch := omega) only [in_y, r1, gI, uI, cI_of, aI_of, sI_of, mnI_of, mxI_of, abI_of, dvI_of, rmI_of, bI_of, bV_of, rI, rV, rL, rP, rT, rZ_of, rC_of, if_pos, if_neg, if_true, if_false]
      · simp (disch := omega) only [in_n, gI, uI, cI_of, aI_of, sI_of, mnI_of, mxI_of, abI_of, dvI_of, rmI_of, bI_of, bV_of, rI, rV, rL, rP, rT, rZ_of, rC_of, if_pos, if_neg, if_true, if_false]
theorem op_log (hB : B ≤ 50000) : Op_log (RelB B) (RelB (B + 40)) := fun Sc Sm H a1 a2 h1 h2 => by
  obtain ⟨-, -, -, -, -, ⟨h, nx, T, e, k1, k2, k3, k4, k5, k6, k7, k8, k9⟩, -⟩ := id H
  refine ⟨10, 10, lgF T e a1 a2, Sc, Sm, ?_, logM_of 10 k8 (by omega) h1.1 h1.2 h2.1 h2.2, H.up (by omega)⟩
  unfold f_X10_log
  rw [tellC_of 10 k7 (by omega) (by omega) (by omega) h1.1 h1.2 h2.1 h2.2]
  rfl
theorem op_held (hB : B ≤ 50000) : Op_held (RelB B) (RelB (B + 40)) := fun Sc Sm H a1 h1 => by
  obtain ⟨⟨t1, t2, -⟩, ⟨s1, s2, -⟩, -, ⟨n, z, s, cur, -⟩, -, ⟨h, nx, T, e, k1, k2, k3, k4, k5, k6, k7, k8, k9⟩, -⟩ := id H
  have ha1 := h1.1
  have ha2 := h1.2
  have en := cur.2.2.2.1.1
  have em := many_of 10 cur.2.2.2.2.1
  have es := shownC_of 10 k7 (by omega) (by omega)
  have e50 := k8.1
  refine ⟨10, 10, if a1 = 0 then n else if a1 = 1 then Sc.1 0 8 else if a1 = 2 then Sc.1 2 1 else if a1 = 3 then min T 60 else if a1 = 4 then h else -1000000, Sc, Sm, ?_, ?_, H.up (by omega)⟩
  · unfold f_X10_held
    by_cases g0 : a1 = 0
    · simp (disch := omega) only [en, gI, uI, cI_of, aI_of, sI_of, mnI_of, mxI_of, abI_of, dvI_of, rmI_of, bI_of, bV_of, rI, rV, rL, rP, rT, rZ_of, rC_of, if_pos, if_neg, if_true, if_false]
    by_cases g1 : a1 = 1
    · simp (disch := omega) only [gI, uI, cI_of, aI_of, sI_of, mnI_of, mxI_of, abI_of, dvI_of, rmI_of, bI_of, bV_of, rI, rV, rL, rP, rT, rZ_of, rC_of, if_pos, if_neg, if_true, if_false]
    by_cases g2 : a1 = 2
    · simp (disch := omega) only [gI, uI, cI_of, aI_of, sI_of, mnI_of, mxI_of, abI_of, dvI_of, rmI_of, bI_of, bV_of, rI, rV, rL, rP, rT, rZ_of, rC_of, if_pos, if_neg, if_true, if_false]
    by_cases g3 : a1 = 3
    · simp (disch := omega) only [es, gI, uI, cI_of, aI_of, sI_of, mnI_of, mxI_of, abI_of, dvI_of, rmI_of, bI_of, bV_of, rI, rV, rL, rP, rT, rZ_of, rC_of, if_pos, if_neg, if_true, if_false]
    by_cases g4 : a1 = 4
    · simp (disch := omega) only [k4, gI, uI, cI_of, aI_of, sI_of, mnI_of, mxI_of, abI_of, dvI_of, rmI_of, bI_of, bV_of, rI, rV, rL, rP, rT, rZ_of, rC_of, if_pos, if_neg, if_true, if_false]
    simp (disch := omega) only [gI, uI, cI_of, aI_of, sI_of, mnI_of, mxI_of, abI_of, dvI_of, rmI_of, bI_of, bV_of, rI, rV, rL, rP, rT, rZ_of, rC_of, if_pos, if_neg, if_true, if_false]
  · unfold f_X11_held
    by_cases g0 : a1 = 0
    · simp (disch := omega) only [em, gI, uI, cI_of, aI_of, sI_of, mnI_of, mxI_of, abI_of, dvI_of, rmI_of, bI_of, bV_of, rI, rV, rL, rP, rT, rZ_of, rC_of, if_pos, if_neg, if_true, if_false]
    by_cases g1 : a1 = 1
    · simp (disch := omega) only [s2, gI, uI, cI_of, aI_of, sI_of, mnI_of, mxI_of, abI_of, dvI_of, rmI_of, bI_of, bV_of, rI, rV, rL, rP, rT, rZ_of, rC_of, if_pos, if_neg, if_true, if_false]
    by_cases g2 : a1 = 2
    · simp (disch := omega) only [t2, gI, uI, cI_of, aI_of, sI_of, mnI_of, mxI_of, abI_of, dvI_of, rmI_of, bI_of, bV_of, rI, rV, rL, rP, rT, rZ_of, rC_of, if_pos, if_neg, if_true, if_false]
    by_cases g3 : a1 = 3
    · simp (disch := omega) only [e50, gI, uI, cI_of, aI_of, sI_of, mnI_of, mxI_of, abI_of, dvI_of, rmI_of, bI_of, bV_of, rI, rV, rL, rP, rT, rZ_of, rC_of, if_pos, if_neg, if_true, if_false]
    by_cases g4 : a1 = 4
    · simp (disch := omega) only [k6, gI, uI, cI_of, aI_of, sI_of, mnI_of, mxI_of, abI_of, dvI_of, rmI_of, bI_of, bV_of, rI, rV, rL, rP, rT, rZ_of, rC_of, if_pos, if_neg, if_true, if_false]
    simp (disch := omega) only [gI, uI, cI_of, aI_of, sI_of, mnI_of, mxI_of, abI_of, dvI_of, rmI_of, bI_of, bV_of, rI, rV, rL, rP, rT, rZ_of, rC_of, if_pos, if_neg, if_true, if_false]
end STATE3
