/-! ways, status, undo, log, images, what is held -/
theorem rfF_y {n so a b : Int} (h1 : 1 ≤ n) (h2 : (so = 7 ∨ so = 9) → 0 ≤ a ∧ a < n) (h3 : bnF n so a b) : rfF n so a b = -1 := by
  unfold rfF
  rw [if_neg (by omega), if_neg (fun q => q.2 (h2 q.1)), bnI_y h3, if_neg (by decide)]
section STATE
variable {Sc Sm : S2} {n z B : Int} {s : Int → Int}
theorem KC.pL {w : Int64} {k : Int} : KC Sc (pL Sc 79 k w) := fun _ _ => rfl
theorem KM.pL {w : Int64} {k : Int} : KM Sm (pL Sm 0 k w) := ⟨fun _ _ => rfl, pL_row (by decide), fun _ _ => rfl, fun _ _ => rfl, fun _ _ => rfl⟩
theorem CurR.kk {Sc' Sm' : S2} (h : CurR Sc Sm n s z) (c : KC Sc Sc') (m : KM Sm Sm') : CurR Sc' Sm' n s z := h.keep (fun j hj => c j (fun q => by have q : j = 1 ∨ j = 19 ∨ j = 23 ∨ (54 ≤ j ∧ j ≤ 81) := q; omega)) (fun k _ => by rw [m.1 8 (by omega)]) (m.2.2.2.2 29 (by omega))
theorem draw_both (N M : Nat) (H : RelB B Sc Sm) (cur : CurR Sc Sm n s z) (hx : Sc.2 79 0 = Sm.2 0 45) {b : Int} (h1 : 1 ≤ b) (h2 : b ≤ 1000) : ∃ (v : Int) (Sc' Sm' : S2), f_X1_next N Sc 79 b = some (v, Sc') ∧ f_X11_draw M Sm b = some (v, Sm') ∧ (0 ≤ v ∧ v < b) ∧ RelB B Sc' Sm' ∧ CurR Sc' Sm' n s z ∧ Sc'.2 79 0 = Sm'.2 0 45 := by
  refine ⟨dwV (dwX (Sc.2 79 0)) b, _, _, nextC_of N h1 h2, ?_, dwV_in _ h1 h2, H.keep KC.pL KM.pL, cur.kk KC.pL KM.pL, ?_⟩
  · rw [hx]; exact draw_of M h1 h2
  · rw [pL_eq, pL_eq, hx]
theorem way_both (N M : Nat) (H : RelB B Sc Sm) (cur : CurR Sc Sm n s z) (h1 : 1 ≤ n) (hB : B ≤ 100000) (hx : Sc.2 79 0 = Sm.2 0 45) (hN : 1000 ≤ N) (hM : 10000 ≤ M) : ∃ (Sc' Sm' : S2) (n' z' : Int) (s' : Int → Int), f_X10_drawnAct N Sc = some Sc' ∧ f_X11_drawWay M Sm = some Sm' ∧ RelB (B + 1) Sc' Sm' ∧ CurR Sc' Sm' n' s' z' ∧ 1 ≤ n' ∧ Sc'.2 79 0 = Sm'.2 0 45 := by
  obtain ⟨v, C1, M1, a1, a2, a3, a4, a5, a6⟩ := draw_both N M H cur hx (b := 8) (by omega) (by omega)
  by_cases g : v ≤ 2
  · obtain ⟨w, C2, M2, b1, b2, b3, b4, b5, b6, b7⟩ := act_rel N M a4 a5 h1 hB (so := v) (a := 0) (b := 0) (a' := 0) (b' := 0) (by omega) (rfF_y h1 (fun q => by omega) ⟨fun q => by omega, fun q => by omega, fun q => by omega, fun q => by omega, fun q => by omega⟩) ⟨fun _ => rfl, fun _ => rfl, fun _ => rfl⟩ hN hM
    refine ⟨C2, M2, _, _, _, ?_, ?_, b3, b4, b5, by rw [b6.1, b7.1]; exact a6⟩
    · unfold f_X10_drawnAct
      simp (disch := omega) only [a1, b1, gI, uI, cI_of, aI_of, sI_of, mnI_of, mxI_of, abI_of, dvI_of, rmI_of, bI_of, bV_of, rI, rV, rL, rP, rT, rZ_of, rC_of, if_pos, if_neg, if_true, if_false]
    · unfold f_X11_drawWay
      simp (disch := omega) only [a2, b2, gI, uI, cI_of, aI_of, sI_of, mnI_of, mxI_of, abI_of, dvI_of, rmI_of, bI_of, bV_of, rI, rV, rL, rP, rT, rZ_of, rC_of, if_pos, if_neg, if_true, if_false]
  by_cases g5 : v ≤ 5
  · obtain ⟨⟨n0, n48⟩, -, -, ⟨cn, -⟩, -⟩ := id a5
    obtain ⟨p, C2, M2, b1, b2, b3, b4, b5, b6⟩ := draw_both N M a4 a5 a6 (b := n) h1 (by omega)
    obtain ⟨q, C3, M3, c1, c2, c3, c4, c5, c6⟩ := draw_both N M b4 b5 b6 (b := 1000) (by omega) (by omega)
    obtain ⟨w, C4, M4, d1, d2, d3, d4, d5, d6, d7⟩ := act_rel N M c4 c5 h1 hB (so := 7) (a := p) (b := q) (a' := p) (b' := q) (by omega) (rfF_y h1 (fun _ => by omega) ⟨fun q => by omega, fun q => by omega, fun q => by omega, fun _ => by omega, fun q => by omega⟩) ⟨fun h => by omega, fun _ => rfl, fun _ => rfl⟩ hN hM
    have em := many_of M a5.2.2.2.2.1
    refine ⟨C4, M4, _, _, _, ?_, ?_, d3, d4, d5, by rw [d6.1, d7.1]; exact c6⟩
    · unfold f_X10_drawnAct
      simp (disch := omega) only [a1, cn, b1, c1, d1, gI, uI, cI_of, aI_of, sI_of, mnI_of, mxI_of, abI_of, dvI_of, rmI_of, bI_of, bV_of, rI, rV, rL, rP, rT, rZ_of, rC_of, if_pos, if_neg, if_true, if_false]
    · unfold f_X11_drawWay
      simp (disch := omega) only [a2, em, b2, c2, d2, gI, uI, cI_of, aI_of, sI_of, mnI_of, mxI_of, abI_of, dvI_of, rmI_of, bI_of, bV_of, rI, rV, rL, rP, rT, rZ_of, rC_of, if_pos, if_neg, if_true, if_false]
  by_cases g6 : v = 6
  · obtain ⟨p, C2, M2, b1, b2, b3, b4, b5, b6⟩ := draw_both N M a4 a5 a6 (b := 200) (by omega) (by omega)
    obtain ⟨w, C4, M4, d1, d2, d3, d4, d5, d6, d7⟩ := act_rel N M b4 b5 h1 hB (so := 8) (a := p) (b := 0) (a' := p) (b' := 0) (by omega) (rfF_y h1 (fun q => by omega) ⟨fun q => by omega, fun q => by omega, fun q => by omega, fun q => by omega, fun q => by omega⟩) ⟨fun h => by omega, fun _ => rfl, fun _ => rfl⟩ hN hM
    refine ⟨C4, M4, _, _, _, ?_, ?_, d3, d4, d5, by rw [d6.1, d7.1]; exact b6⟩
    · unfold f_X10_drawnAct
      simp (disch := omega) only [a1, b1, d1, gI, uI, cI_of, aI_of, sI_of, mnI_of, mxI_of, abI_of, dvI_of, rmI_of, bI_of, bV_of, rI, rV, rL, rP, rT, rZ_of, rC_of, if_pos, if_neg, if_true, if_false]
    · unfold f_X11_drawWay
      simp (disch := omega) only [a2, b2, d2, gI, uI, cI_of, aI_of, sI_of, mnI_of, mxI_of, abI_of, dvI_of, rmI_of, bI_of, bV_of, rI, rV, rL, rP, rT, rZ_of, rC_of, if_pos, if_neg, if_true, if_false]
  · obtain ⟨p, C2, M2, b1, b2, b3, b4, b5, b6⟩ := draw_both N M a4 a5 a6 (b := 100) (by omega) (by omega)
    obtain ⟨q, C3, M3, c1, c2, c3, c4, c5, c6⟩ := draw_both N M b4 b5 b6 (b := 9) (by omega) (by omega)
    obtain ⟨w, C4, M4, d1, d2, d3, d4, d5, d6, d7⟩ := act_rel N M c4 c5 h1 hB (so := 6) (a := p) (b := q + 1) (a' := p) (b' := q + 1) (by omega) (rfF_y h1 (fun q => by omega) ⟨fun q => by omega, fun q => by omega, fun _ => by omega, fun q => by omega, fun q => by omega⟩) ⟨fun h => by omega, fun _ => rfl, fun _ => rfl⟩ hN hM
    refine ⟨C4, M4, _, _, _, ?_, ?_, d3, d4, d5, by rw [d6.1, d7.1]; exact c6⟩
    · unfold f_X10_drawnAct
      simp (disch := omega) only [a1, b1, c1, d1, gI, uI, cI_of, aI_of, sI_of, mnI_of, mxI_of, abI_of, dvI_of, rmI_of, bI_of, bV_of, rI, rV, rL, rP, rT, rZ_of, rC_of, if_pos, if_neg, if_true, if_false]
    · unfold f_X11_drawWay
      simp (disch := omega) only [a2, b2, c2, d2, gI, uI, cI_of, aI_of, sI_of, mnI_of, mxI_of, abI_of, dvI_of, rmI_of, bI_of, bV_of, rI, rV, rL, rP, rT, rZ_of, rC_of, if_pos, if_neg, if_true, if_false]
theorem ways_loop {m : Int} (hm : 0 ≤ m ∧ m ≤ 40) : ∀ (d N M : Nat) (i B n z : Int) (s : Int → Int) (Sc Sm : S2), 0 ≤ i → i + d = m → d + 1000 < N → d + 10000 < M → RelB B Sc Sm → CurR Sc Sm n s z → 1 ≤ n → B + d ≤ 100000 → Sc.2 79 0 = Sm.2 0 45 → ∃ (Sc' Sm' : S2) (n' z' : Int) (s' : Int → Int), (∀ K, f_X10_ways_31 K N m i Sc = K Sc') ∧ (∀ K, f_X11_ways_27 K M m i Sm = K Sm') ∧ RelB (B + d) Sc' Sm' ∧ CurR Sc' Sm' n' s' z' ∧ 1 ≤ n' := by
  intro d
  induction d with
  | zero =>
    intro N M i B n z s Sc Sm h0 hi hN hM H cur h1 hB hx
    obtain ⟨N, rfl⟩ : ∃ M, N = M + 1 := ⟨N - 1, by omega⟩
    obtain ⟨M, rfl⟩ : ∃ M', M = M' + 1 := ⟨M - 1, by omega⟩
    refine ⟨Sc, Sm, n, z, s, fun K => ?_, fun K => ?_, H.up (by omega), cur, h1⟩
    · rw [f_X10_ways_31]
      simp (disch := omega) only [gI, uI, cI_of, aI_of, sI_of, mnI_of, mxI_of, abI_of, dvI_of, rmI_of, bI_of, bV_of, rI, rV, rL, rP, rT, rZ_of, rC_of, if_pos, if_neg, if_true, if_false]
    · rw [f_X11_ways_27]
      simp (disch := omega) only [gI, uI, cI_of, aI_of, sI_of, mnI_of, mxI_of, abI_of, dvI_of, rmI_of, bI_of, bV_of, rI, rV, rL, rP, rT, rZ_of, rC_of, if_pos, if_neg, if_true, if_false]
  | succ d ih =>
    intro N M i B n z s Sc Sm h0 hi hN hM H cur h1 hB hx
    obtain ⟨N, rfl⟩ : ∃ M, N = M + 1 := ⟨N - 1, by omega⟩
    obtain ⟨M, rfl⟩ : ∃ M', M = M' + 1 := ⟨M - 1, by omega⟩
    obtain ⟨C1, M1, n1, z1, s1, a1, a2, a3, a4, a5, a6⟩ := way_both N M H cur h1 (by omega) hx (by omega) (by omega)
    obtain ⟨Sc', Sm', n', z', s', b1, b2, b3, b4, b5⟩ := ih N M (i + 1) (B + 1) n1 z1 s1 C1 M1 (by omega) (by omega) (by omega) (by omega) a3 a4 a5 (by omega) a6
    refine ⟨Sc', Sm', n', z', s', fun K => ?_, fun K => ?_, b3.up (by omega), b4, b5⟩
    · rw [← b1 K, f_X10_ways_31]
      simp (disch := omega) only [a1, gI, uI, cI_of, aI_of, sI_of, mnI_of, mxI_of, abI_of, dvI_of, rmI_of, bI_of, bV_of, rI, rV, rL, rP, rT, rZ_of, rC_of, if_pos, if_neg, if_true, if_false]
    · rw [← b2 K, f_X11_ways_27]
      simp (disch := omega) only [a2, gI, uI, cI_of, aI_of, sI_of, mnI_of, mxI_of, abI_of, dvI_of, rmI_of, bI_of, bV_of, rI, rV, rL, rP, rT, rZ_of, rC_of, if_pos, if_neg, if_true, if_false]
/-- how many are kept, on both sides -/
theorem kept_both (M : Nat) (H : RelB B Sc Sm) (cur : CurR Sc Sm n s z) (h1 : 1 ≤ n) (hM : 1000 ≤ M) : ∃ Sm', f_X11_keptNow M Sm = some (Sc.1 6 1, Sm') ∧ KM Sm Sm' := by
  obtain ⟨⟨n0, n48⟩, hb, hz, hc, hm, hi, hP, -⟩ := cur
  obtain ⟨-, -, -, -, ⟨nl, r, pl, hLB, -, hLM, -⟩, -⟩ := H
  obtain ⟨Sm', e1, e2⟩ := keptNow_of M hm hb h1 n48 hz hLB hLM (by omega)
  refine ⟨Sm', by rw [(hP h1).2.1]; exact e1, KM.of e2 (fun j q => by have q : 13 ≤ j ∧ j ≤ 21 := q; omega) (fun k q => by have q : k = 35 ∨ k = 38 ∨ k = 41 := q; omega)⟩
theorem noTrace_y (N : Nat) (cur : CurR Sc Sm n s z) (h : n = 0) : f_X10_noTrace N Sc = some (1, Sc) := by
  have e := cur.2.2.2.1.1
  unfold f_X10_noTrace
  simp (disch := omega) only [e, rZ_of, gI, uI, cI_of, aI_of, sI_of, mnI_of, mxI_of, abI_of, dvI_of, rmI_of, bI_of, bV_of, rI, rV, rL, rP, rT, rZ_of, rC_of, if_pos, if_neg, if_true, if_false]
theorem noTrace_n (N : Nat) (cur : CurR Sc Sm n s z) (h : 1 ≤ n) : f_X10_noTrace N Sc = some (0, Sc) := by
  have e := cur.2.2.2.1.1
  have := cur.1
  unfold f_X10_noTrace
  simp (disch := omega) only [e, rZ_of, gI, uI, cI_of, aI_of, sI_of, mnI_of, mxI_of, abI_of, dvI_of, rmI_of, bI_of, bV_of, rI, rV, rL, rP, rT, rZ_of, rC_of, if_pos, if_neg, if_true, if_false]
theorem op_ways (hB : B ≤ 50000) : Op_ways (RelB B) (RelB (B + 40)) := fun Sc Sm H a1 a2 h1 => by
  obtain ⟨-, -, -, ⟨n, z, s, cur, -⟩, -⟩ := id H
  have i29 := cur.2.2.2.2.2.1
  have n0 := cur.1
  by_cases g0 : n = 0
  · rw [if_pos g0] at i29
    refine ⟨2000, 20000, -1, Sc, Sm, ?_, ?_, H.up (by omega)⟩
    · unfold f_X10_ways
      simp (disch := omega) only [noTrace_y _ cur g0, gI, uI, cI_of, aI_of, sI_of, mnI_of, mxI_of, abI_of, dvI_of, rmI_of, bI_of, bV_of, rI, rV, rL, rP, rT, rZ_of, rC_of, if_pos, if_neg, if_true, if_false]
    · unfold f_X11_ways
      simp (disch := omega) only [i29, gI, uI, cI_of, aI_of, sI_of, mnI_of, mxI_of, abI_of, dvI_of, rmI_of, bI_of, bV_of, rI, rV, rL, rP, rT, rZ_of, rC_of, if_pos, if_neg, if_true, if_false]
  · rw [if_neg g0] at i29
    have ha1 := h1.1
    have ha2 := h1.2
    by_cases g1 : 1 ≤ a1 ∧ a1 ≤ 40
    · obtain ⟨Sc', Sm', n', z', s', e1, e2, e3, e4, e5⟩ := ways_loop (m := a1) (by omega) a1.toNat 2000 20000 0 B n z s (pL Sc 79 0 a2) (pL Sm 0 45 a2) (by omega) (by omega) (by omega) (by omega) (H.keep KC.pL KM.pL) (cur.kk KC.pL KM.pL) (by omega) (by omega) (by rw [pL_eq, pL_eq])
      obtain ⟨Sm2, k1, k2⟩ := kept_both 20000 e3 e4 e5 (by omega)
      refine ⟨2000, 20000, Sc'.1 6 1, Sc', Sm2, ?_, ?_, (e3.keep KC.refl k2).up (by omega)⟩
      · unfold f_X10_ways
        simp (disch := omega) only [noTrace_n _ cur (by omega), uL, gI, uI, cI_of, aI_of, sI_of, mnI_of, mxI_of, abI_of, dvI_of, rmI_of, bI_of, bV_of, rI, rV, rL, rP, rT, rZ_of, rC_of, if_pos, if_neg, if_true, if_false]
        rw [e1, f_X10_ways_47]
        simp (disch := omega) only [gI, uI, cI_of, aI_of, sI_of, mnI_of, mxI_of, abI_of, dvI_of, rmI_of, bI_of, bV_of, rI, rV, rL, rP, rT, rZ_of, rC_of, if_pos, if_neg, if_true, if_false]
      · unfold f_X11_ways
        simp (disch := omega) only [i29, in_y, uL, gI, uI, cI_of, aI_of, sI_of, mnI_of, mxI_of, abI_of, dvI_of, rmI_of, bI_of, bV_of, rI, rV, rL, rP, rT, rZ_of, rC_of, if_pos, if_neg, if_true, if_false]
        rw [e2, f_X11_ways_43, k1]
        rfl
    · refine ⟨2000, 20000, -1, Sc, Sm, ?_, ?_, H.up (by omega)⟩
      · unfold f_X10_ways
        by_cases g2 : a1 < 1
        · simp (disch := omega) only [noTrace_n _ cur (by omega), gI, uI, cI_of, aI_of, sI_of, mnI_of, mxI_of, abI_of, dvI_of, rmI_of, bI_of, bV_of, rI, rV, rL, rP, rT, rZ_of, rC_of, if_pos, if_neg, if_true, if_false]
        · simp (disch := omega) only [noTrace_n _ cur (by omega), gI, uI, cI_of, aI_of, sI_of, mnI_of, mxI_of, abI_of, dvI_of, rmI_of, bI_of, bV_of, rI, rV, rL, rP, rT, rZ_of, rC_of, if_pos, if_neg, if_true, if_false]
      · unfold f_X11_ways
        simp (disch := omega) only [i29, in_n, gI, uI, cI_of, aI_of, sI_of, mnI_of, mxI_of, abI_of, dvI_of, rmI_of, bI_of, bV_of, rI, rV, rL, rP, rT, rZ_of, rC_of, if_pos, if_neg, if_true, if_false]
theorem op_status (hB : B ≤ 50000) : Op_status (RelB B) (RelB (B + 40)) := fun Sc Sm H a1 h1 => by
  obtain ⟨-, -, ⟨r0, r1⟩, -⟩ := id H
  have ha1 := h1.1
  have ha2 := h1.2
  refine ⟨10, 10, if a1 = 0 then Sc.1 0 9 else if a1 = 1 then Sc.1 0 10 else -1, Sc, Sm, ?_, ?_, H.up (by omega)⟩
  · unfold f_X10_status
    by_cases g0 : a1 = 0
    · simp (disch := omega) only [gI, uI, cI_of, aI_of, sI_of, mnI_of, mxI_of, abI_of, dvI_of, rmI_of, bI_of, bV_of, rI, rV, rL, rP, rT, rZ_of, rC_of, if_pos, if_neg, if_true, if_false]
    · by_cases g1 : a1 = 1
      · simp (disch := omega) only [gI, uI, cI_of, aI_of, sI_of, mnI_of, mxI_of, abI_of, dvI_of, rmI_of, bI_of, bV_of, rI, rV, rL, rP, rT, rZ_of, rC_of, if_pos, if_neg, if_true, if_false]
      · simp (disch := omega) only [gI, uI, cI_of, aI_of, sI_of, mnI_of, mxI_of, abI_of, dvI_of, rmI_of, bI_of, bV_of, rI, rV, rL, rP, rT, rZ_of, rC_of, if_pos, if_neg, if_true, if_false]
  · unfold f_X11_status
    by_cases g0 : a1 = 0
    · rw [g0]
      simp (disch := omega) only [in_y, r0, gI, uI, cI_of, aI_of, sI_of, mnI_of, mxI_of, abI_of, dvI_of, rmI_of, bI_of, bV_of, rI, rV, rL, rP, rT, rZ_of, rC_of, if_pos, if_neg, if_true, if_false]
    · by_cases g1 : a1 = 1
      · rw [g1]
        simp (disch := omega) only [in_y, r1, gI, uI, cI_of, aI_of, sI_of, mnI_of, mxI_of, abI_of, dvI_of, rmI_of, bI_of, bV_of, rI, rV, rL, rP, rT, rZ_of, rC_of, if_pos, if_neg, if_true, if_false]
        rfl
      · simp (disch := omega) only [in_n, gI, uI, cI_of, aI_of, sI_of, mnI_of, mxI_of, abI_of, dvI_of, rmI_of, bI_of, bV_of, rI, rV, rL, rP, rT, rZ_of, rC_of, if_pos, if_neg, if_true, if_false]
theorem op_log (hB : B ≤ 50000) : Op_log (RelB B) (RelB (B + 40)) := fun Sc Sm H a1 a2 h1 h2 => by
  obtain ⟨-, -, -, -, -, ⟨h, nx, T, e, k1, k2, k3, k4, k5, k6, k7, k8, k9⟩, -⟩ := id H
  refine ⟨10, 10, lgF T e a1 a2, Sc, Sm, ?_, logM_of 10 k8 (by omega) h1.1 h1.2 h2.1 h2.2, H.up (by omega)⟩
  unfold f_X10_log
  rw [tellC_of 10 k7 (by omega) (by omega) (by omega) h1.1 h1.2 h2.1 h2.2]
  rfl
theorem op_held (hB : B ≤ 50000) : Op_held (RelB B) (RelB (B + 40)) := fun Sc Sm H a1 h1 => by
  obtain ⟨⟨t1, t2, -⟩, ⟨s1, s2, -⟩, -, ⟨n, z, s, cur, -⟩, -, ⟨h, nx, T, e, k1, k2, k3, k4, k5, k6, k7, k8, k9⟩, -⟩ := id H
  have ha1 := h1.1
  have ha2 := h1.2
  have en := cur.2.2.2.1.1
  have em := many_of 10 cur.2.2.2.2.1
  have es := shownC_of 10 k7 (by omega) (by omega)
  have e50 := k8.1
  refine ⟨10, 10, if a1 = 0 then n else if a1 = 1 then Sc.1 0 8 else if a1 = 2 then Sc.1 2 1 else if a1 = 3 then min T 60 else if a1 = 4 then h else -1000000, Sc, Sm, ?_, ?_, H.up (by omega)⟩
  · unfold f_X10_held
    by_cases g0 : a1 = 0
    · simp (disch := omega) only [en, gI, uI, cI_of, aI_of, sI_of, mnI_of, mxI_of, abI_of, dvI_of, rmI_of, bI_of, bV_of, rI, rV, rL, rP, rT, rZ_of, rC_of, if_pos, if_neg, if_true, if_false]
    by_cases g1 : a1 = 1
    · simp (disch := omega) only [gI, uI, cI_of, aI_of, sI_of, mnI_of, mxI_of, abI_of, dvI_of, rmI_of, bI_of, bV_of, rI, rV, rL, rP, rT, rZ_of, rC_of, if_pos, if_neg, if_true, if_false]
    by_cases g2 : a1 = 2
    · simp (disch := omega) only [gI, uI, cI_of, aI_of, sI_of, mnI_of, mxI_of, abI_of, dvI_of, rmI_of, bI_of, bV_of, rI, rV, rL, rP, rT, rZ_of, rC_of, if_pos, if_neg, if_true, if_false]
    by_cases g3 : a1 = 3
    · simp (disch := omega) only [es, gI, uI, cI_of, aI_of, sI_of, mnI_of, mxI_of, abI_of, dvI_of, rmI_of, bI_of, bV_of, rI, rV, rL, rP, rT, rZ_of, rC_of, if_pos, if_neg, if_true, if_false]
    by_cases g4 : a1 = 4
    · simp (disch := omega) only [k4, gI, uI, cI_of, aI_of, sI_of, mnI_of, mxI_of, abI_of, dvI_of, rmI_of, bI_of, bV_of, rI, rV, rL, rP, rT, rZ_of, rC_of, if_pos, if_neg, if_true, if_false]
    simp (disch := omega) only [gI, uI, cI_of, aI_of, sI_of, mnI_of, mxI_of, abI_of, dvI_of, rmI_of, bI_of, bV_of, rI, rV, rL, rP, rT, rZ_of, rC_of, if_pos, if_neg, if_true, if_false]
  · unfold f_X11_held
    by_cases g0 : a1 = 0
    · simp (disch := omega) only [em, gI, uI, cI_of, aI_of, sI_of, mnI_of, mxI_of, abI_of, dvI_of, rmI_of, bI_of, bV_of, rI, rV, rL, rP, rT, rZ_of, rC_of, if_pos, if_neg, if_true, if_false]
    by_cases g1 : a1 = 1
    · simp (disch := omega) only [s2, gI, uI, cI_of, aI_of, sI_of, mnI_of, mxI_of, abI_of, dvI_of, rmI_of, bI_of, bV_of, rI, rV, rL, rP, rT, rZ_of, rC_of, if_pos, if_neg, if_true, if_false]
    by_cases g2 : a1 = 2
    · simp (disch := omega) only [t2, gI, uI, cI_of, aI_of, sI_of, mnI_of, mxI_of, abI_of, dvI_of, rmI_of, bI_of, bV_of, rI, rV, rL, rP, rT, rZ_of, rC_of, if_pos, if_neg, if_true, if_false]
    by_cases g3 : a1 = 3
    · simp (disch := omega) only [e50, gI, uI, cI_of, aI_of, sI_of, mnI_of, mxI_of, abI_of, dvI_of, rmI_of, bI_of, bV_of, rI, rV, rL, rP, rT, rZ_of, rC_of, if_pos, if_neg, if_true, if_false]
    by_cases g4 : a1 = 4
    · simp (disch := omega) only [k6, gI, uI, cI_of, aI_of, sI_of, mnI_of, mxI_of, abI_of, dvI_of, rmI_of, bI_of, bV_of, rI, rV, rL, rP, rT, rZ_of, rC_of, if_pos, if_neg, if_true, if_false]
    simp (disch := omega) only [gI, uI, cI_of, aI_of, sI_of, mnI_of, mxI_of, abI_of, dvI_of, rmI_of, bI_of, bV_of, rI, rV, rL, rP, rT, rZ_of, rC_of, if_pos, if_neg, if_true, if_false]
theorem op_image (hB : B ≤ 50000) : Op_image (RelB B) (RelB (B + 40)) := fun Sc Sm H => by
  obtain ⟨g1, g2, g3, ⟨n, z, s, cur, g4'⟩, ⟨nl, r, pl, g5⟩, g6, g7⟩ := id H
  have i29 := cur.2.2.2.2.2.1
  have n0 := cur.1
  by_cases g0 : n = 0
  · rw [if_pos g0] at i29
    refine ⟨1000, 1000, -1, Sc, Sm, ?_, ?_, H.up (by omega)⟩
    · unfold f_X10_image
      simp (disch := omega) only [noTrace_y _ cur g0, gI, uI, cI_of, aI_of, sI_of, mnI_of, mxI_of, abI_of, dvI_of, rmI_of, bI_of, bV_of, rI, rV, rL, rP, rT, rZ_of, rC_of, if_pos, if_neg, if_true, if_false]
    · unfold f_X11_image
      simp (disch := omega) only [i29, gI, uI, cI_of, aI_of, sI_of, mnI_of, mxI_of, abI_of, dvI_of, rmI_of, bI_of, bV_of, rI, rV, rL, rP, rT, rZ_of, rC_of, if_pos, if_neg, if_true, if_false]
  · rw [if_neg g0] at i29
    obtain ⟨h, nx, T, e, k1, k2, k3, k4, k5, k6, k7, k8, k9⟩ := id g6
    obtain ⟨C1, a1, a2, a3, -⟩ := copyFrom_of 1000 (c0 := 48) cur.2.2.2.1 n0.2 (by omega) (by omega) (by omega)
    obtain ⟨C2, b1, b2, b3⟩ := logCopy_of 1000 (l := 27) (l' := 50) (k7.kept a3 (fun j q z => by have q : 27 ≤ j ∧ j ≤ 27 + 3 := q; have z : j = 48 ∨ j = 48 + 1 := z; omega)) (Or.inl ⟨rfl, rfl⟩)
    have frC : Fr (fun j => 48 ≤ j ∧ j ≤ 53) Sc C2 := a3.trans b3 (fun j q => by have q : j = 48 ∨ j = 48 + 1 := q; omega) (fun j q => by have q : 50 ≤ j ∧ j ≤ 50 + 3 := q; omega)
    obtain ⟨M1, c1, c2, c3, c4⟩ := imageLay 231 1000 0 Sm (by omega) (by omega) (by omega)
    have frM : FrM is24 (fun k => k = 47) Sm (pI M1 0 47 1) := (c4.mono (fun _ h => h) (fun _ h => h.elim)).wF rfl
    have qc : ∀ j, ¬ (48 ≤ j ∧ j ≤ 53) → C2.1 j = Sc.1 j := fun j hj => frC.2 j hj
    have qm : ∀ j, j ≠ 0 → j ≠ 24 → (pI M1 0 47 1).1 j = Sm.1 j := fun j h0 h1 => frM.2.1 j h0 h1
    have qf : ∀ k : Int, k ≠ 47 → (pI M1 0 47 1).1 0 k = Sm.1 0 k := fun k hk => frM.2.2 k hk
    have r24 : ∀ k, 0 ≤ k → k < 231 → (pI M1 0 47 1).1 24 k = Sm.1 8 k := fun k x y => by rw [pI_cell (by decide)]; exact c2 k x y
    have R2 : RelB B C2 (pI M1 0 47 1) := ⟨g1.keep (fun j hj => qc j (by omega)) (qm 1 (by decide) (by decide)) (qf 2 (by decide)), g2.keep (fun j x y => qc j (by omega)) (by rw [qc 0 (by omega)]) (fun _ _ => by rw [qm 6 (by decide) (by decide)]) (fun _ _ => by rw [qm 7 (by decide) (by decide)]) (qf 21 (by decide)), g3.keep (by rw [qc 0 (by omega)]) (by rw [qc 0 (by omega)]) (qm 9 (by decide) (by decide)), ⟨n, z, s, cur.keep (fun j hj => qc j (by omega)) (fun k _ => by rw [qm 8 (by decide) (by decide)]) (qf 29 (by decide)), fun _ => by omega⟩, ⟨nl, r, pl, g5.keep (fun j hj => qc j (by omega)) (fun j hj => qm j (by omega) (by omega)) (by rw [frM.1]) (fun k hk => qf k (by omega))⟩, g6.keep (fun j hj => qc j (by omega)) (fun k _ _ => by rw [qm 8 (by decide) (by decide)]) (qm 23 (by decide) (by decide)) (qf 44 (by decide)), Or.inr ⟨pI_eq, n, z, T, s, e, ⟨by omega, n0.2⟩, cur.2.1, cur.2.2.1, a2.kept b3 (by decide) (by decide), CvG.congr (g := Sm.1 8) cur.2.2.2.2.1 n0.2 (fun k x y => r24 k x (by omega)), ⟨by omega, by omega⟩, b2.less (by omega), k8.congr (fun k x y => r24 k (by omega) y)⟩⟩
    have cur2 : CurR C2 (pI M1 0 47 1) n s z := cur.keep (fun j hj => qc j (by omega)) (fun k _ => by rw [qm 8 (by decide) (by decide)]) (qf 29 (by decide))
    obtain ⟨Sm2, d1, d2⟩ := kept_both 1000 R2 cur2 (by omega) (by omega)
    refine ⟨1000, 1000, C2.1 6 1, C2, Sm2, ?_, ?_, (R2.keep KC.refl d2).up (by omega)⟩
    · unfold f_X10_image
      simp (disch := omega) only [noTrace_n _ cur (by omega), a1, b1, gI, uI, cI_of, aI_of, sI_of, mnI_of, mxI_of, abI_of, dvI_of, rmI_of, bI_of, bV_of, rI, rV, rL, rP, rT, rZ_of, rC_of, if_pos, if_neg, if_true, if_false]
    · unfold f_X11_image
      simp (disch := omega) only [i29, gI, uI, cI_of, aI_of, sI_of, mnI_of, mxI_of, abI_of, dvI_of, rmI_of, bI_of, bV_of, rI, rV, rL, rP, rT, rZ_of, rC_of, if_pos, if_neg, if_true, if_false]
      rw [c1, f_X11_image_36]
      simp (disch := omega) only [uZ_of, d1, gI, uI, cI_of, aI_of, sI_of, mnI_of, mxI_of, abI_of, dvI_of, rmI_of, bI_of, bV_of, rI, rV, rL, rP, rT, rZ_of, rC_of, if_pos, if_neg, if_true, if_false]
theorem op_undo (hB : B ≤ 50000) : Op_undo (RelB B) (RelB (B + 40)) := fun Sc Sm H => by
  obtain ⟨g1, g2, g3, ⟨n, z, s, cur, g4'⟩, ⟨nl, r, pl, g5⟩, g6, g7⟩ := id H
  obtain ⟨h, nx, T, e, k1, k2, k3, k4, k5, k6, k7, k8, k9⟩ := id g6
  have n0 := cur.1
  by_cases g0 : h = 0
  · rw [g0] at k4 k6
    refine ⟨1000, 1000, -1, Sc, Sm, ?_, ?_, H.up (by omega)⟩
    · unfold f_X10_undo
      simp (disch := omega) only [k4, gI, uI, cI_of, aI_of, sI_of, mnI_of, mxI_of, abI_of, dvI_of, rmI_of, bI_of, bV_of, rI, rV, rL, rP, rT, rZ_of, rC_of, if_pos, if_neg, if_true, if_false]
    · unfold f_X11_undo
      simp (disch := omega) only [k6, gI, uI, cI_of, aI_of, sI_of, mnI_of, mxI_of, abI_of, dvI_of, rmI_of, bI_of, bV_of, rI, rV, rL, rP, rT, rZ_of, rC_of, if_pos, if_neg, if_true, if_false]
  · have n1 := g4' (Or.inr (by omega))
    have i29 := cur.2.2.2.2.2.1
    rw [if_neg (by omega)] at i29
    obtain ⟨no, so, zo, o1, o2, o3, o4, o5, o6⟩ := k9 (h - 1) (by omega) (by omega)
    rw [show (nx + 40 - h + (h - 1)) % 40 = (nx + 39) % 40 by omega] at o4
    obtain ⟨C1, a1, a2, a3, a4, a5⟩ := takeBackC_of 1000 k4 k5 (by omega) k2 o4 o1.2
    obtain ⟨C2, b1, b2, b3⟩ := dropC_of 1000 (k7.kept a5 (fun j q z => by have q : 27 ≤ j ∧ j ≤ 27 + 3 := q; have z : j = 25 ∨ j = 4 ∨ j = 5 := z; omega)) (by omega) (by omega)
    have hoff : Off 6 4 := by unfold Off; omega
    obtain ⟨C3, c1, c2, c3⟩ := findC_of 1000 hoff (a2.kept b3 (by decide) (by decide)) o2 o1.1 o1.2 o3.1 o3.2 (by omega)
    have frC : Fr (fun j => (4 ≤ j ∧ j ≤ 18) ∨ j = 25 ∨ (27 ≤ j ∧ j ≤ 30)) Sc C3 := (a5.trans b3 (fun j q => by have q : j = 25 ∨ j = 4 ∨ j = 5 := q; omega) (fun j q => by have q : 27 ≤ j ∧ j ≤ 27 + 3 := q; omega) (C := fun j => (4 ≤ j ∧ j ≤ 18) ∨ j = 25 ∨ (27 ≤ j ∧ j ≤ 30))).trans c3 (fun _ q => q) (fun j q => by have q : 6 ≤ j ∧ j ≤ 6 + 12 := q; omega)
    have fr13 : Fr (fun j => (6 ≤ j ∧ j ≤ 18) ∨ (27 ≤ j ∧ j ≤ 30)) C1 C3 := b3.trans c3 (fun j q => by have q : 27 ≤ j ∧ j ≤ 27 + 3 := q; omega) (fun j q => by have q : 6 ≤ j ∧ j ≤ 6 + 12 := q; omega)
    obtain ⟨M1, d1, d2, d3, d4⟩ := undoM_of 1000 k6 (by omega) (by omega)
    have qc : ∀ j, ¬ ((4 ≤ j ∧ j ≤ 18) ∨ j = 25 ∨ (27 ≤ j ∧ j ≤ 30)) → C3.1 j = Sc.1 j := fun j hj => frC.2 j hj
    have qm : ∀ j, j ≠ 0 → j ≠ 8 → M1.1 j = Sm.1 j := fun j x y => d4.2.1 j x y
    have qf : ∀ k : Int, k ≠ 44 → M1.1 0 k = Sm.1 0 k := fun k x => d4.2.2 k x
    have e44 : C3.1 25 0 = h - 1 := by rw [fr13.at (by decide)]; exact a3
    refine ⟨1000, 1000, h - 1, C3, M1, ?_, d1, RelB.up (B := B) ⟨g1.keep (fun j hj => qc j (by omega)) (qm 1 (by decide) (by decide)) (qf 2 (by decide)), g2.keep (fun j x y => qc j (by omega)) (by rw [qc 0 (by omega)]) (fun _ _ => by rw [qm 6 (by decide) (by decide)]) (fun _ _ => by rw [qm 7 (by decide) (by decide)]) (qf 21 (by decide)), g3.keep (by rw [qc 0 (by omega)]) (by rw [qc 0 (by omega)]) (qm 9 (by decide) (by decide)), ⟨no, zo, so, ⟨⟨by omega, o1.2⟩, o2, o3, (a2.kept fr13 (by decide) (by decide)), ?_, ?_, fun _ => c2, fun q => by omega⟩, fun _ => o1.1⟩, ⟨nl, r, pl, g5.keep (fun j hj => qc j (by omega)) (fun j hj => qm j (by omega) (by omega)) (by rw [d4.1]) (fun k hk => qf k (by omega))⟩, ⟨h - 1, (nx + 39) % 40, T - 1, e, by omega, by omega, by omega, e44, by rw [fr13.at (by decide)]; exact a4, d2, ?_, ?_, fun j x y => ?_⟩, g7.keep (fun j hj => qc j (by omega)) (qm 24 (by decide) (by decide)) (qf 47 (by decide))⟩ (by omega)⟩
    · unfold f_X10_undo
      simp (disch := omega) only [k4, a1, b1, c1, e44, gI, uI, cI_of, aI_of, sI_of, mnI_of, mxI_of, abI_of, dvI_of, rmI_of, bI_of, bV_of, rI, rV, rL, rP, rT, rZ_of, rC_of, if_pos, if_neg, if_true, if_false]
    · exact CvG.congr o5 o1.2 (fun k x y => d3 k x (by omega))
    · rw [qf 29 (by decide), if_neg (by omega)]; exact i29
    · rw [show T - 1 - (h - 1) = T - h by omega]
      exact b2.kept c3 (fun j q z => by have q : 27 ≤ j ∧ j ≤ 27 + 3 := q; have z : 6 ≤ j ∧ j ≤ 6 + 12 := z; omega)
    · rw [show T - h + (h - 1) = T - 1 by omega] at o6
      exact o6.congr (fun k x y => d3 k (by omega) y)
    · rw [show T - 1 - (h - 1) = T - h by omega, show ((nx + 39) % 40 + 40 - (h - 1) + j) % 40 = (nx + 40 - h + j) % 40 by omega]
      exact (HistR.keep (h := h) (nx := nx) k9 k2 (fun i hi => qc i (by omega)) (qm 23 (by decide) (by decide))) j x (by omega)
theorem op_back (hB : B ≤ 50000) : Op_back (RelB B) (RelB (B + 40)) := fun Sc Sm H => by
  obtain ⟨g1, g2, g3, ⟨n, z, s, cur, g4'⟩, ⟨nl, r, pl, g5⟩, g6, g7⟩ := id H
  obtain ⟨h, nx, T0, e0, k1, k2, k3, k4, k5, k6, k7, k8, k9⟩ := id g6
  rcases id g7 with ⟨h1, h2⟩ | ⟨h1, no, zo, T, so, e, o1, o2, o3, o4, o5, o6, o7, o8⟩
  · refine ⟨1000, 1000, -1, Sc, Sm, ?_, ?_, H.up (by omega)⟩
    · unfold f_X10_back
      simp (disch := omega) only [h1, gI, uI, cI_of, aI_of, sI_of, mnI_of, mxI_of, abI_of, dvI_of, rmI_of, bI_of, bV_of, rI, rV, rL, rP, rT, rZ_of, rC_of, if_pos, if_neg, if_true, if_false]
    · unfold f_X11_back
      simp (disch := omega) only [h2, gI, uI, cI_of, aI_of, sI_of, mnI_of, mxI_of, abI_of, dvI_of, rmI_of, bI_of, bV_of, rI, rV, rL, rP, rT, rZ_of, rC_of, if_pos, if_neg, if_true, if_false]
  · have n1 := g4' (Or.inl h1)
    have i29 := cur.2.2.2.2.2.1
    rw [if_neg (by omega)] at i29
    have e48 := o4.1
    obtain ⟨C1, a1, a2, a3, -⟩ := copyFrom_of 1000 (c0 := 4) o4 o1.2 (by omega) (by omega) (by omega)
    obtain ⟨C2, b1, b2, b3⟩ := logCopy_of 1000 (l := 50) (l' := 27) (o7.kept a3 (fun j q z => by have q : 50 ≤ j ∧ j ≤ 50 + 3 := q; have z : j = 4 ∨ j = 4 + 1 := z; omega)) (Or.inr ⟨rfl, rfl⟩)
    have frf : Fr (fun j => j = 25) C2 (pI C2 25 0 0) := Fr.refl.pI rfl
    have hoff : Off 6 4 := by unfold Off; omega
    have cu2 := (a2.kept b3 (by decide) (by decide)).kept frf (by decide) (by decide)
    obtain ⟨C3, c1, c2, c3⟩ := findC_of 1000 hoff cu2 o2 o1.1 o1.2 o3.1 o3.2 (by omega)
    have frC : Fr (fun j => (4 ≤ j ∧ j ≤ 18) ∨ j = 25 ∨ (27 ≤ j ∧ j ≤ 30)) Sc C3 := (((a3.trans b3 (fun j q => by have q : j = 4 ∨ j = 4 + 1 := q; omega) (fun j q => by have q : 27 ≤ j ∧ j ≤ 27 + 3 := q; omega) (C := fun j => (4 ≤ j ∧ j ≤ 18) ∨ j = 25 ∨ (27 ≤ j ∧ j ≤ 30))).trans frf (fun _ q => q) (fun j q => by have q : j = 25 := q; omega) (C := fun j => (4 ≤ j ∧ j ≤ 18) ∨ j = 25 ∨ (27 ≤ j ∧ j ≤ 30)))).trans c3 (fun _ q => q) (fun j q => by have q : 6 ≤ j ∧ j ≤ 6 + 12 := q; omega)
    obtain ⟨M1, d1, d2, d3, d4⟩ := backLay 231 1000 0 Sm (by omega) (by omega) (by omega)
    have frM : FrM is8 f44 Sm (pI M1 0 44 0) := (d4.mono (fun _ h => h) (fun _ h => h.elim)).wF rfl
    have qc : ∀ j, ¬ ((4 ≤ j ∧ j ≤ 18) ∨ j = 25 ∨ (27 ≤ j ∧ j ≤ 30)) → C3.1 j = Sc.1 j := fun j hj => frC.2 j hj
    have qm : ∀ j, j ≠ 0 → j ≠ 8 → (pI M1 0 44 0).1 j = Sm.1 j := fun j x y => frM.2.1 j x y
    have qf : ∀ k : Int, k ≠ 44 → (pI M1 0 44 0).1 0 k = Sm.1 0 k := fun k x => frM.2.2 k x
    have r8 : ∀ k, 0 ≤ k → k < 231 → (pI M1 0 44 0).1 8 k = Sm.1 24 k := fun k x y => by rw [pI_cell (by decide)]; exact d2 k x y
    have cur3 : CurR C3 (pI M1 0 44 0) no so zo := ⟨⟨by omega, o1.2⟩, o2, o3, cu2.kept c3 (by decide) (by decide), CvG.congr o5 o1.2 (fun k x y => r8 k x (by omega)), by rw [qf 29 (by decide), if_neg (by omega)]; exact i29, fun _ => c2, fun q => by omega⟩
    have e25 : C3.1 25 0 = 0 := by rw [c3.at (by decide), pI_eq]
    have e251 : C3.1 25 1 = nx := by rw [c3.at (by decide), pI_idx (by decide), b3.at (by decide), a3.at (by decide)]; exact k5
    have R3 : RelB B C3 (pI M1 0 44 0) := ⟨g1.keep (fun j hj => qc j (by omega)) (qm 1 (by decide) (by decide)) (qf 2 (by decide)), g2.keep (fun j x y => qc j (by omega)) (by rw [qc 0 (by omega)]) (fun _ _ => by rw [qm 6 (by decide) (by decide)]) (fun _ _ => by rw [qm 7 (by decide) (by decide)]) (qf 21 (by decide)), g3.keep (by rw [qc 0 (by omega)]) (by rw [qc 0 (by omega)]) (qm 9 (by decide) (by decide)), ⟨no, zo, so, cur3, fun _ => o1.1⟩, ⟨nl, r, pl, g5.keep (fun j hj => qc j (by omega)) (fun j hj => qm j (by omega) (by omega)) (by rw [frM.1]) (fun k hk => qf k (by omega))⟩, ⟨0, nx, T, e, by omega, k2, by omega, e25, e251, pI_eq, by rw [show T - 0 = T by omega]; exact (b2.kept frf (fun j q z => by have q : 27 ≤ j ∧ j ≤ 27 + 3 := q; have z : j = 25 := z; omega)).kept c3 (fun j q z => by have q : 27 ≤ j ∧ j ≤ 27 + 3 := q; have z : 6 ≤ j ∧ j ≤ 6 + 12 := z; omega), o8.congr (fun k x y => r8 k (by omega) y), fun j x y => by omega⟩, g7.keep (fun j hj => qc j (by omega)) (qm 24 (by decide) (by decide)) (qf 47 (by decide))⟩
    obtain ⟨Sm2, f1, f2⟩ := kept_both 1000 R3 cur3 o1.1 (by omega)
    refine ⟨1000, 1000, C3.1 6 1, C3, Sm2, ?_, ?_, (R3.keep KC.refl f2).up (by omega)⟩
    · unfold f_X10_back f_X2_forget
      simp (disch := omega) only [e48, a1, b1, c1, gI, uI, cI_of, aI_of, sI_of, mnI_of, mxI_of, abI_of, dvI_of, rmI_of, bI_of, bV_of, rI, rV, rL, rP, rT, rZ_of, rC_of, if_pos, if_neg, if_true, if_false]
    · unfold f_X11_back
      simp (disch := omega) only [h1, gI, uI, cI_of, aI_of, sI_of, mnI_of, mxI_of, abI_of, dvI_of, rmI_of, bI_of, bV_of, rI, rV, rL, rP, rT, rZ_of, rC_of, if_pos, if_neg, if_true, if_false]
      rw [d1, f_X11_back_36]
      simp (disch := omega) only [f1, gI, uI, cI_of, aI_of, sI_of, mnI_of, mxI_of, abI_of, dvI_of, rmI_of, bI_of, bV_of, rI, rV, rL, rP, rT, rZ_of, rC_of, if_pos, if_neg, if_true, if_false]
end STATE
