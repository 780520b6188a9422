/-! ways, status, undo, log, images, what is held -/
theorem rfF_y {n so a b : Int} (h1 : 1 ≤ n) (h2 : (so = 7 ∨ so = 9) → 0 ≤ a ∧ a < n) (h3 : bnF n so a b) : rfF n so a b = -1 := by
  unfold rfF
  rw [if_neg (by omega), if_neg (fun q => q.2 (h2 q.1)), bnI_y h3, if_neg (by decide)]
section STATE
variable {Sc Sm : S2} {n z B : Int} {s : Int → Int}
theorem KC.pL {w : Int64} {k : Int} : KC Sc (pL Sc 79 k w) := fun _ _ => rfl
theorem KM.pL {w : Int64} {k : Int} : KM Sm (pL Sm 0 k w) := ⟨fun _ _ => rfl, pL_row (by decide), fun _ _ => rfl, fun _ _ => rfl, fun _ _ => rfl⟩
theorem CurR.kk {Sc' Sm' : S2} (h : CurR Sc Sm n s z) (c : KC Sc Sc') (m : KM Sm Sm') : CurR Sc' Sm' n s z := h.keep (fun j hj => c j (fun q => by have q : j = 1 ∨ j = 19 ∨ j = 23 ∨ (54 ≤ j ∧ j ≤ 73) ∨ (75 ≤ j ∧ j ≤ 81) := q; omega)) (fun k _ => by rw [m.1 8 (by omega)]) (m.2.2.2.2 29 (by omega))
theorem draw_both (N M : Nat) (H : RelB B Sc Sm) (cur : CurR Sc Sm n s z) (hx : Sc.2 79 0 = Sm.2 0 45) {b : Int} (h1 : 1 ≤ b) (h2 : b ≤ 1000) : ∃ (v : Int) (Sc' Sm' : S2), f_X1_next N Sc 79 b = some (v, Sc') ∧ f_X11_draw M Sm b = some (v, Sm') ∧ (0 ≤ v ∧ v < b) ∧ RelB B Sc' Sm' ∧ CurR Sc' Sm' n s z ∧ Sc'.2 79 0 = Sm'.2 0 45 := by
  refine ⟨dwV (dwX (Sc.2 79 0)) b, pL Sc 79 0 (dwX (Sc.2 79 0)), pL Sm 0 45 (dwX (Sm.2 0 45)), nextC_of N h1 h2, ?_, dwV_in _ h1 h2, H.keep KC.pL KM.pL, cur.kk KC.pL KM.pL, ?_⟩
  · rw [hx]; exact draw_of M h1 h2
  · rw [pL_eq, pL_eq, hx]
theorem way_both (N M : Nat) (H : RelB B Sc Sm) (cur : CurR Sc Sm n s z) (h1 : 1 ≤ n) (hB : B ≤ 100000) (hx : Sc.2 79 0 = Sm.2 0 45) (hN : 1000 ≤ N) (hM : 10000 ≤ M) : ∃ (Sc' Sm' : S2) (n' z' : Int) (s' : Int → Int), f_X10_drawnAct N Sc = some Sc' ∧ f_X11_drawWay M Sm = some Sm' ∧ RelB (B + 1) Sc' Sm' ∧ CurR Sc' Sm' n' s' z' ∧ 1 ≤ n' ∧ Sc'.2 79 0 = Sm'.2 0 45 := by
  obtain ⟨v, C1, M1, a1, a2, a3, a4, a5, a6⟩ := draw_both N M H cur hx (b := 8) (by omega) (by omega)
  by_cases g : v ≤ 2
  · obtain ⟨w, C2, M2, b1, b2, b3, b4, b5, b6, b7⟩ := act_rel N M a4 a5 h1 hB (so := v) (a := 0) (b := 0) (a' := 0) (b' := 0) (by omega) (rfF_y h1 (fun q => by omega) ⟨fun q => by omega, fun q => by omega, fun q => by omega, fun q => by omega, fun q => by omega⟩) ⟨fun _ => rfl, fun _ => rfl, fun _ => rfl⟩ hN hM
    refine ⟨C2, M2, _, _, _, ?_, ?_, b3, b4, b5, by rw [b6.1, b7.1]; exact a6⟩
    · unfold f_X10_drawnAct
      rw [a1, bI_of, cI_of (by omega) (by omega) (by omega) (by omega), if_neg (by omega), b1]
      rfl
    · unfold f_X11_drawWay
      rw [a2, bI_of, cI_of (by omega) (by omega) (by omega) (by omega), if_neg (by omega), b2]
      rfl
  by_cases g5 : v ≤ 5
  · obtain ⟨⟨n0, n48⟩, -, -, ⟨cn, -⟩, -⟩ := id a5
    obtain ⟨p, C2, M2, b1, b2, b3, b4, b5, b6⟩ := draw_both N M a4 a5 a6 (b := n) h1 (by omega)
    obtain ⟨q, C3, M3, c1, c2, c3, c4, c5, c6⟩ := draw_both N M b4 b5 b6 (b := 1000) (by omega) (by omega)
    obtain ⟨w, C4, M4, d1, d2, d3, d4, d5, d6, d7⟩ := act_rel N M c4 c5 h1 hB (so := 7) (a := p) (b := q) (a' := p) (b' := q) (by omega) (rfF_y h1 (fun _ => by omega) ⟨fun q => by omega, fun q => by omega, fun q => by omega, fun _ => by omega, fun q => by omega⟩) ⟨fun h => by omega, fun _ => rfl, fun _ => rfl⟩ hN hM
    have em := many_of M a5.2.2.2.2.1
    refine ⟨C4, M4, _, _, _, ?_, ?_, d3, d4, d5, by rw [d6.1, d7.1]; exact c6⟩
    · unfold f_X10_drawnAct gI
      rw [a1, bI_of, cI_of (by omega) (by omega) (by omega) (by omega), if_pos (by omega), cI_of (by omega) (by omega) (by omega) (by omega), if_neg (by omega)]
      dsimp only
      rw [cn, b1, bI_of, c1, bI_of, d1]
      rfl
    · unfold f_X11_drawWay
      rw [a2, bI_of, cI_of (by omega) (by omega) (by omega) (by omega), if_pos (by omega), cI_of (by omega) (by omega) (by omega) (by omega), if_neg (by omega), em, bI_of, b2, bI_of, c2, bI_of, d2]
      rfl
  by_cases g6 : v = 6
  · obtain ⟨p, C2, M2, b1, b2, b3, b4, b5, b6⟩ := draw_both N M a4 a5 a6 (b := 200) (by omega) (by omega)
    obtain ⟨w, C4, M4, d1, d2, d3, d4, d5, d6, d7⟩ := act_rel N M b4 b5 h1 hB (so := 8) (a := p) (b := 0) (a' := p) (b' := 0) (by omega) (rfF_y h1 (fun q => by omega) ⟨fun q => by omega, fun q => by omega, fun q => by omega, fun q => by omega, fun q => by omega⟩) ⟨fun h => by omega, fun _ => rfl, fun _ => rfl⟩ hN hM
    refine ⟨C4, M4, _, _, _, ?_, ?_, d3, d4, d5, by rw [d6.1, d7.1]; exact b6⟩
    · unfold f_X10_drawnAct
      rw [a1, bI_of, cI_of (by omega) (by omega) (by omega) (by omega), if_pos (by omega), cI_of (by omega) (by omega) (by omega) (by omega), if_pos (by omega), cI_of (by omega) (by omega) (by omega) (by omega), if_pos g6, b1, bI_of, d1]
      rfl
    · unfold f_X11_drawWay
      rw [a2, bI_of, cI_of (by omega) (by omega) (by omega) (by omega), if_pos (by omega), cI_of (by omega) (by omega) (by omega) (by omega), if_pos (by omega), cI_of (by omega) (by omega) (by omega) (by omega), if_pos g6, b2, bI_of, d2]
      rfl
  · obtain ⟨p, C2, M2, b1, b2, b3, b4, b5, b6⟩ := draw_both N M a4 a5 a6 (b := 100) (by omega) (by omega)
    obtain ⟨q, C3, M3, c1, c2, c3, c4, c5, c6⟩ := draw_both N M b4 b5 b6 (b := 9) (by omega) (by omega)
    obtain ⟨w, C4, M4, d1, d2, d3, d4, d5, d6, d7⟩ := act_rel N M c4 c5 h1 hB (so := 6) (a := p) (b := q + 1) (a' := p) (b' := q + 1) (by omega) (rfF_y h1 (fun q => by omega) ⟨fun q => by omega, fun q => by omega, fun _ => by omega, fun q => by omega, fun q => by omega⟩) ⟨fun h => by omega, fun _ => rfl, fun _ => rfl⟩ hN hM
    refine ⟨C4, M4, _, _, _, ?_, ?_, d3, d4, d5, by rw [d6.1, d7.1]; exact c6⟩
    · unfold f_X10_drawnAct
      rw [a1, bI_of, cI_of (by omega) (by omega) (by omega) (by omega), if_pos (by omega), cI_of (by omega) (by omega) (by omega) (by omega), if_pos (by omega), cI_of (by omega) (by omega) (by omega) (by omega), if_neg g6, b1, bI_of, c1, bI_of, d1]
      rfl
    · unfold f_X11_drawWay
      rw [a2, bI_of, cI_of (by omega) (by omega) (by omega) (by omega), if_pos (by omega), cI_of (by omega) (by omega) (by omega) (by omega), if_pos (by omega), cI_of (by omega) (by omega) (by omega) (by omega), if_neg g6, b2, bI_of, c2, bI_of, d2]
      rfl
end STATE
