section STATE2
variable {Sc Sm : S2} {n z B : Int} {s : Int → Int}
theorem ways_loop {m : Int} (hm : 0 ≤ m ∧ m ≤ 40) : ∀ (d N M : Nat) (i B n z : Int) (s : Int → Int) (Sc Sm : S2), 0 ≤ i → i + d = m → d + 1000 < N → d + 10000 < M → RelB B Sc Sm → CurR Sc Sm n s z → 1 ≤ n → B + d ≤ 100000 → Sc.2 79 0 = Sm.2 0 45 → ∃ (Sc' Sm' : S2) (n' z' : Int) (s' : Int → Int), (∀ K, f_X10_ways_31 K N m i Sc = K Sc') ∧ (∀ K, f_X11_ways_27 K M m i Sm = K Sm') ∧ RelB (B + d) Sc' Sm' ∧ CurR Sc' Sm' n' s' z' ∧ 1 ≤ n' := by
  intro d
  induction d with
  | zero =>
    intro N M i B n z s Sc Sm h0 hi hN hM H cur h1 hB hx
    obtain ⟨N, rfl⟩ : ∃ M, N = M + 1 := ⟨N - 1, by omega⟩
    obtain ⟨M, rfl⟩ : ∃ M', M = M' + 1 := ⟨M - 1, by omega⟩
    refine ⟨Sc, Sm, n, z, s, fun K => ?_, fun K => ?_, H.up (by omega), cur, h1⟩
    · rw [f_X10_ways_31]
      simp (disch := omega) only [gI, uI, cI_of, aI_of, sI_of, mnI_of, mxI_of, abI_of, dvI_of, rmI_of, bI_of, bV_of, rI, rV, rL, rP, rT, rZ_of, rC_of, if_pos, if_neg, if_true, if_false]
    · rw [f_X11_ways_27]
      simp (disch := omega) only [gI, uI, cI_of, aI_of, sI_of, mnI_of, mxI_of, abI_of, dvI_of, rmI_of, bI_of, bV_of, rI, rV, rL, rP, rT, rZ_of, rC_of, if_pos, if_neg, if_true, if_false]
  | succ d ih =>
    intro N M i B n z s Sc Sm h0 hi hN hM H cur h1 hB hx
    obtain ⟨N, rfl⟩ : ∃ M, N = M + 1 := ⟨N - 1, by omega⟩
    obtain ⟨M, rfl⟩ : ∃ M', M = M' + 1 := ⟨M - 1, by omega⟩
    obtain ⟨C1, M1, n1, z1, s1, a1, a2, a3, a4, a5, a6⟩ := way_both N M H cur h1 (by omega) hx (by omega) (by omega)
    obtain ⟨Sc', Sm', n', z', s', b1, b2, b3, b4, b5⟩ := ih N M (i + 1) (B + 1) n1 z1 s1 C1 M1 (by omega) (by omega) (by omega) (by omega) a3 a4 a5 (by omega) a6
    refine ⟨Sc', Sm', n', z', s', fun K => ?_, fun K => ?_, b3.up (by omega), b4, b5⟩
    · rw [← b1 K, f_X10_ways_31]
      simp (disch := omega) only [a1, gI, uI, cI_of, aI_of, sI_of, mnI_of, mxI_of, abI_of, dvI_of, rmI_of, bI_of, bV_of, rI, rV, rL, rP, rT, rZ_of, rC_of, if_pos, if_neg, if_true, if_false]
    · rw [← b2 K, f_X11_ways_27]
      simp (disch := omega) only [a2, gI, uI, cI_of, aI_of, sI_of, mnI_of, mxI_of, abI_of, dvI_of, rmI_of, bI_of, bV_of, rI, rV, rL, rP, rT, rZ_of, rC_of, if_pos, if_neg, if_true, if_false]
/-- how many are kept, on both sides -/
theorem kept_both (M : Nat) (H : RelB B Sc Sm) (cur : CurR Sc Sm n s z) (h1 : 1 ≤ n) (hM : 1000 ≤ M) : ∃ Sm', f_X11_keptNow M Sm = some (Sc.1 6 1, Sm') ∧ KM Sm Sm' := by
  obtain ⟨⟨n0, n48⟩, hb, hz, hc, hm, hi, hP, -⟩ := cur
  obtain ⟨-, -, -, -, ⟨nl, r, pl, hLB, -, hLM, -⟩, -⟩ := H
  obtain ⟨Sm', e1, e2⟩ := keptNow_of M hm hb h1 n48 hz hLB hLM (by omega)
  refine ⟨Sm', by rw [(hP h1).2.1]; exact e1, KM.of e2 (fun j q => by have q : 13 ≤ j ∧ j ≤ 21 := q; omega) (fun k q => by have q : k = 35 ∨ k = 38 ∨ k = 41 := q; omega)⟩
theorem noTrace_y (N : Nat) (cur : CurR Sc Sm n s z) (h : n = 0) : f_X10_noTrace N Sc = some (1, Sc) := by
  have e := cur.2.2.2.1.1
  unfold f_X10_noTrace
  simp (disch := omega) only [e, rZ_of, gI, uI, cI_of, aI_of, sI_of, mnI_of, mxI_of, abI_of, dvI_of, rmI_of, bI_of, bV_of, rI, rV, rL, rP, rT, rZ_of, rC_of, if_pos, if_neg, if_true, if_false]
theorem noTrace_n (N : Nat) (cur : CurR Sc Sm n s z) (h : 1 ≤ n) : f_X10_noTrace N Sc = some (0, Sc) := by
  have e := cur.2.2.2.1.1
  have := cur.1
  unfold f_X10_noTrace
  simp (disch := omega) only [e, rZ_of, gI, uI, cI_of, aI_of, sI_of, mnI_of, mxI_of, abI_of, dvI_of, rmI_of, bI_of, bV_of, rI, rV, rL, rP, rT, rZ_of, rC_of, if_pos, if_neg, if_true, if_false]
theorem op_ways (hB : B ≤ 50000) : Op_ways (RelB B) (RelB (B + 40)) := fun Sc Sm H a1 a2 h1 => by
  obtain ⟨-, -, -, ⟨n, z, s, cur, -⟩, -⟩ := id H
  have i29 := cur.2.2.2.2.2.1
  have n0 := cur.1
  by_cases g0 : n = 0
  · rw [if_pos g0] at i29
    refine ⟨2000, 20000, -1, Sc, Sm, ?_, ?_, H.up (by omega)⟩
    · unfold f_X10_ways
      simp (disch := omega) only [noTrace_y _ cur g0, gI, uI, cI_of, aI_of, sI_of, mnI_of, mxI_of, abI_of, dvI_of, rmI_of, bI_of, bV_of, rI, rV, rL, rP, rT, rZ_of, rC_of, if_pos, if_neg, if_true, if_false]
    · unfold f_X11_ways
      simp (disch := omega) only [i29, gI, uI, cI_of, aI_of, sI_of, mnI_of, mxI_of, abI_of, dvI_of, rmI_of, bI_of, bV_of, rI, rV, rL, rP, rT, rZ_of, rC_of, if_pos, if_neg, if_true, if_false]
  · rw [if_neg g0] at i29
    have ha1 := h1.1
    have ha2 := h1.2
    by_cases g1 : 1 ≤ a1 ∧ a1 ≤ 40
    · obtain ⟨Sc', Sm', n', z', s', e1, e2, e3, e4, e5⟩ := ways_loop (m := a1) (by omega) a1.toNat 2000 20000 0 B n z s (pL Sc 79 0 a2) (pL Sm 0 45 a2) (by omega) (by omega) (by omega) (by omega) (H.keep KC.pL KM.pL) (cur.kk KC.pL KM.pL) (by omega) (by omega) (by rw [pL_eq, pL_eq])
      obtain ⟨Sm2, k1, k2⟩ := kept_both 20000 e3 e4 e5 (by omega)
      refine ⟨2000, 20000, Sc'.1 6 1, Sc', Sm2, ?_, ?_, (e3.keep KC.refl k2).up (by omega)⟩
      · unfold f_X10_ways
        simp (disch := omega) only [noTrace_n _ cur (by omega), uL, gI, uI, cI_of, aI_of, sI_of, mnI_of, mxI_of, abI_of, dvI_of, rmI_of, bI_of, bV_of, rI, rV, rL, rP, rT, rZ_of, rC_of, if_pos, if_neg, if_true, if_false]
        rw [e1, f_X10_ways_47]
        simp (disch := omega) only [gI, uI, cI_of, aI_of, sI_of, mnI_of, mxI_of, abI_of, dvI_of, rmI_of, bI_of, bV_of, rI, rV, rL, rP, rT, rZ_of, rC_of, if_pos, if_neg, if_true, if_false]
      · unfold f_X11_ways
        simp (disch := omega) only [i29, in_y, uL, gI, uI, cI_of, aI_of, sI_of, mnI_of, mxI_of, abI_of, dvI_of, rmI_of, bI_of, bV_of, rI, rV, rL, rP, rT, rZ_of, rC_of, if_pos, if_neg, if_true, if_false]
        rw [e2, f_X11_ways_43, k1]
        rfl
    · refine ⟨2000, 20000, -1, Sc, Sm, ?_, ?_, H.up (by omega)⟩
      · unfold f_X10_ways
        by_cases g2 : a1 < 1
        · simp (disch := omega) only [noTrace_n _ cur (by omega), gI, uI, cI_of, aI_of, sI_of, mnI_of, mxI_of, abI_of, dvI_of, rmI_of, bI_of, bV_of, rI, rV, rL, rP, rT, rZ_of, rC_of, if_pos, if_neg, if_true, if_false]
        · simp (disch := omega) only [noTrace_n _ cur (by omega), gI, uI, cI_of, aI_of, sI_of, mnI_of, mxI_of, abI_of, dvI_of, rmI_of, bI_of, bV_of, rI, rV, rL, rP, rT, rZ_of, rC_of, if_pos, if_neg, if_true, if_false]
      · unfold f_X11_ways
        simp (disch := omega) only [i29, in_n, gI, uI, cI_of, aI_of, sI_of, mnI_of, mxI_of, abI_of, dvI_of, rmI_of, bI_of, bV_of, rI, rV, rL, rP, rT, rZ_of, rC_of, if_pos, if_neg, if_true, if_false]
end STATE2
