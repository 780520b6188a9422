/-! scripts: step, perform, run -/
theorem nbF_in {so : Int} : 0 ≤ nbF so ∧ nbF so ≤ 2 := by
  unfold nbF
  by_cases g : so ≤ 3
  · rw [if_pos g]; omega
  · rw [if_neg g]
    by_cases k : so = 4 ∨ so = 5 ∨ so = 8
    · rw [if_pos k]; omega
    · rw [if_neg k]; omega
theorem numbersOf_of (N : Nat) {S : S2} {so : Int} (h : 0 ≤ so ∧ so ≤ 9) : f_X7_numbersOf N S so = some (nbF so, S) := by
  unfold f_X7_numbersOf nbF
  rcases (show so = 0 ∨ so = 1 ∨ so = 2 ∨ so = 3 ∨ so = 4 ∨ so = 5 ∨ so = 6 ∨ so = 7 ∨ so = 8 ∨ so = 9 by omega) with rfl | rfl | rfl | rfl | rfl | rfl | rfl | rfl | rfl | rfl <;> rw [cI_of (by decide) (by decide) (by decide) (by decide)] <;> rfl
theorem StpR.E {so f g so' a b : Int} (h : StpR so f g so' a b) : StpE so f g a b := by
  obtain ⟨h1, h2, h3, h4, h5, h6⟩ := h
  unfold nbF at h3 h4 h5 h6
  refine ⟨fun q => ?_, fun q => ?_, fun q => ?_⟩
  · rw [if_pos q] at h4; exact (h4 (by decide)).1
  · rw [if_neg (by omega)] at h3
    by_cases k : so = 4 ∨ so = 5 ∨ so = 8
    · rw [if_pos k] at h3; exact (h3 (by decide)).1
    · rw [if_neg k] at h3; exact (h3 (by decide)).1
  · rw [if_neg (by omega), if_neg (by omega)] at h5; exact (h5 (by decide)).1
theorem StpR.in {so f g so' a b : Int} (h : StpR so f g so' a b) : (-999 ≤ f ∧ f ≤ 999) ∧ (-999 ≤ g ∧ g ≤ 999) ∧ (-1000000 ≤ a ∧ a ≤ 999) ∧ (-1000000 ≤ b ∧ b ≤ 999) := by
  obtain ⟨h1, h2, h3, h4, h5, h6⟩ := h
  have hn := nbF_in (so := so)
  refine ⟨?_, ?_, ?_, ?_⟩
  · by_cases k : 1 ≤ nbF so
    · exact (h3 k).2
    · have := (h4 (by omega)).1; omega
  · by_cases k : 2 ≤ nbF so
    · exact (h5 k).2
    · have := (h6 (by omega)).1; omega
  · by_cases k : 1 ≤ nbF so
    · have := h3 k; omega
    · have := (h4 (by omega)).2; omega
  · by_cases k : 2 ≤ nbF so
    · have := h5 k; omega
    · have := (h6 (by omega)).2; omega
section SCRIPTS
variable {Sc Sm : S2} {n z nl r B j : Int} {s pl : Int → Int}
theorem hasScript_of (N : Nat) (h : ScrR Sc Sm) {k : Int} (h1 : -2147483648 ≤ k) (h2 : k ≤ 2147483647) : f_X10_hasScript N Sc k = some (if 0 ≤ k ∧ k < Sc.1 0 8 then 1 else 0, Sc) := by
  obtain ⟨⟨a, b⟩, -⟩ := h
  unfold f_X10_hasScript
  by_cases g : k < 0
  · rw [if_neg (c := 0 ≤ k ∧ _) (by omega)]
    simp (disch := omega) only [rZ_of, gI, uI, cI_of, aI_of, sI_of, mnI_of, mxI_of, abI_of, dvI_of, rmI_of, bI_of, bV_of, rI, rV, rL, rP, rT, rZ_of, rC_of, if_pos, if_neg, if_true, if_false]
  · by_cases g1 : k < Sc.1 0 8
    · rw [if_pos (c := 0 ≤ k ∧ _) (by omega)]
      simp (disch := omega) only [rZ_of, gI, uI, cI_of, aI_of, sI_of, mnI_of, mxI_of, abI_of, dvI_of, rmI_of, bI_of, bV_of, rI, rV, rL, rP, rT, rZ_of, rC_of, if_pos, if_neg, if_true, if_false]
    · rw [if_neg (c := 0 ≤ k ∧ _) (by omega)]
      simp (disch := omega) only [rZ_of, gI, uI, cI_of, aI_of, sI_of, mnI_of, mxI_of, abI_of, dvI_of, rmI_of, bI_of, bV_of, rI, rV, rL, rP, rT, rZ_of, rC_of, if_pos, if_neg, if_true, if_false]
theorem isScript_of (N : Nat) (h : ScrR Sc Sm) {k : Int} (h1 : -2147483648 ≤ k) (h2 : k ≤ 2147483647) : f_X11_isScript N Sm k = some (if 0 ≤ k ∧ k < Sc.1 0 8 then 1 else 0, Sm) := by
  obtain ⟨⟨a, b⟩, e, -⟩ := h
  unfold f_X11_isScript
  by_cases g : 0 ≤ k ∧ k < Sc.1 0 8
  · rw [if_pos g]
    simp (disch := omega) only [e, in_y N, rZ_of, gI, uI, cI_of, aI_of, sI_of, mnI_of, mxI_of, abI_of, dvI_of, rmI_of, bI_of, bV_of, rI, rV, rL, rP, rT, rZ_of, rC_of, if_pos, if_neg, if_true, if_false]
  · rw [if_neg g]
    simp (disch := omega) only [e, in_n N, rZ_of, gI, uI, cI_of, aI_of, sI_of, mnI_of, mxI_of, abI_of, dvI_of, rmI_of, bI_of, bV_of, rI, rV, rL, rP, rT, rZ_of, rC_of, if_pos, if_neg, if_true, if_false]
/-- what the class tells of a step -/
def teF (cnt : Int) (S : S2) (c : Nat) (i w : Int) : Int := if 0 ≤ i ∧ i < cnt ∧ 0 ≤ w ∧ w ≤ nbF (S.1 (c + 1) i) then (if w = 0 then S.1 (c + 1) i else if w = 1 then S.1 (c + 2) i else S.1 (c + 3) i) else -1000000
theorem step_both (N M : Nat) (hB : B ≤ 50000) (H : RelB B Sc Sm) {a1 a2 a3 : Int} (h1 : inR a1) (h2 : inR a2) (h3 : inR a3) : ∃ (v : Int) (Sc' Sm' : S2), f_X10_step N Sc a1 a2 a3 = some (v, Sc') ∧ f_X11_step M Sm a1 a2 a3 = some (v, Sm') ∧ RelB (B + 40) Sc' Sm' := by
  obtain ⟨-, hS, -⟩ := id H
  have b1 := h2.1
  have b2 := h2.2
  have c1 := h3.1
  have c2 := h3.2
  have ec := hasScript_of N hS h1.1 h1.2
  have em := isScript_of M hS h1.1 h1.2
  obtain ⟨⟨s0, s4⟩, e21, hO⟩ := id hS
  by_cases g : 0 ≤ a1 ∧ a1 < Sc.1 0 8
  · rw [if_pos g] at ec em
    obtain ⟨⟨k1, k12⟩, e7, hst⟩ := hO a1 g.1 g.2
    have eN : scC a1 = 32 + 4 * a1.toNat := rfl
    have cls : f_X10_step N Sc a1 a2 a3 = bI (f_X7_tell N Sc (scC a1) a2 a3) fun v20 S20 => rI v20 S20 := by
      unfold f_X10_step
      rw [ec, bI_of, cI_of (by decide) (by decide) (by decide) (by decide), if_neg (by decide), aR_of g.1 (by omega)]
    have rf : f_X11_step M Sm a1 a2 a3 = bI (f_X11_in M Sm a2 0 (Sc.1 (scC a1) 0 - 1)) fun v18 S18 => cI v18 0 (if v18 = 0 then rI (-1000000) S18 else bI (f_X11_in M S18 a3 0 2) fun v27 S27 => cI v27 0 (if v27 = 0 then rI (-1000000) S27 else aI S27 6 180 ((3 * ((12 * a1) + a2)) + a3) fun v47 => rI v47 S27)) := by
      unfold f_X11_step
      rw [em, bI_of, cI_of (by decide) (by decide) (by decide) (by decide), if_neg (by decide), aI_of g.1 (by omega), e7]
    by_cases gi : 0 ≤ a2 ∧ a2 < Sc.1 (scC a1) 0
    · obtain ⟨p1, p2, p3, p4, p5, p6⟩ := hst a2 gi.1 gi.2
      have nb := numbersOf_of N (S := Sc) p2
      have nbi := nbF_in (so := Sc.1 (scC a1 + 1) a2)
      by_cases gw : 0 ≤ a3 ∧ a3 ≤ 2
      · refine ⟨teF (Sc.1 (scC a1) 0) Sc (scC a1) a2 a3, Sc, Sm, ?_, ?_, H.up (by omega)⟩
        · rw [cls]
          unfold f_X7_tell teF
          by_cases gn : a3 ≤ nbF (Sc.1 (scC a1 + 1) a2)
          · rw [if_pos (c := 0 ≤ a2 ∧ _) ⟨gi.1, gi.2, gw.1, gn⟩]
            rcases (show a3 = 0 ∨ a3 = 1 ∨ a3 = 2 by omega) with q | q | q
            · simp (disch := omega) only [nb, gI, uI, cI_of, aI_of, sI_of, mnI_of, mxI_of, abI_of, dvI_of, rmI_of, bI_of, bV_of, rI, rV, rL, rP, rT, rZ_of, rC_of, if_pos, if_neg, if_true, if_false]
            · simp (disch := omega) only [nb, gI, uI, cI_of, aI_of, sI_of, mnI_of, mxI_of, abI_of, dvI_of, rmI_of, bI_of, bV_of, rI, rV, rL, rP, rT, rZ_of, rC_of, if_pos, if_neg, if_true, if_false]
            · simp (disch := omega) only [nb, gI, uI, cI_of, aI_of, sI_of, mnI_of, mxI_of, abI_of, dvI_of, rmI_of, bI_of, bV_of, rI, rV, rL, rP, rT, rZ_of, rC_of, if_pos, if_neg, if_true, if_false]
          · rw [if_neg (c := 0 ≤ a2 ∧ _) (fun q => gn q.2.2.2)]
            simp (disch := omega) only [nb, gI, uI, cI_of, aI_of, sI_of, mnI_of, mxI_of, abI_of, dvI_of, rmI_of, bI_of, bV_of, rI, rV, rL, rP, rT, rZ_of, rC_of, if_pos, if_neg, if_true, if_false]
        · rw [rf, in_y M (by decide) (by omega) gi.1 (by omega), bI_of, cI_of (by decide) (by decide) (by decide) (by decide), if_neg (by decide), in_y M (by decide) (by decide) gw.1 gw.2, bI_of, cI_of (by decide) (by decide) (by decide) (by decide), if_neg (by decide), aI_of (by omega) (by omega)]
          unfold teF
          rcases (show a3 = 0 ∨ a3 = 1 ∨ a3 = 2 by omega) with q | q | q
          · rw [if_pos ⟨gi.1, gi.2, gw.1, by omega⟩, if_pos q, q, Int.add_zero, p1]; rfl
          · rw [q]
            by_cases gn : 1 ≤ nbF (Sc.1 (scC a1 + 1) a2)
            · rw [if_pos ⟨gi.1, gi.2, by omega, gn⟩, if_neg (by decide), if_pos rfl, (p3 gn).1]; rfl
            · rw [if_neg (fun w => gn w.2.2.2), (p4 (by omega)).2]; rfl
          · rw [q]
            by_cases gn : 2 ≤ nbF (Sc.1 (scC a1 + 1) a2)
            · rw [if_pos ⟨gi.1, gi.2, by omega, gn⟩, if_neg (by decide), if_neg (by decide), (p5 gn).1]; rfl
            · rw [if_neg (fun w => gn w.2.2.2), (p6 (by omega)).2]; rfl
      · refine ⟨-1000000, Sc, Sm, ?_, ?_, H.up (by omega)⟩
        · rw [cls]
          unfold f_X7_tell
          by_cases q : a3 < 0
          · simp (disch := omega) only [gI, uI, cI_of, aI_of, sI_of, mnI_of, mxI_of, abI_of, dvI_of, rmI_of, bI_of, bV_of, rI, rV, rL, rP, rT, rZ_of, rC_of, if_pos, if_neg, if_true, if_false]
          · simp (disch := omega) only [nb, gI, uI, cI_of, aI_of, sI_of, mnI_of, mxI_of, abI_of, dvI_of, rmI_of, bI_of, bV_of, rI, rV, rL, rP, rT, rZ_of, rC_of, if_pos, if_neg, if_true, if_false]
        · rw [rf, in_y M (by decide) (by omega) gi.1 (by omega), bI_of, cI_of (by decide) (by decide) (by decide) (by decide), if_neg (by decide), in_n M (by decide) (by decide) (by decide) (by decide) c1 c2 (by omega), bI_of, cI_of (by decide) (by decide) (by decide) (by decide), if_pos rfl]; rfl
    · refine ⟨-1000000, Sc, Sm, ?_, ?_, H.up (by omega)⟩
      · rw [cls]
        unfold f_X7_tell gI
        by_cases q : a2 < 0
        · rw [cI_of (by omega) (by omega) (by omega) (by omega), if_pos q]; rfl
        · rw [cI_of (by omega) (by omega) (by omega) (by omega), if_neg q]
          dsimp only
          rw [cI_of (by omega) (by omega) (by omega) (by omega), if_pos (by omega)]; rfl
      · rw [rf, in_n M (by decide) (by decide) (by omega) (by omega) b1 b2 (by omega), bI_of, cI_of (by decide) (by decide) (by decide) (by decide), if_pos rfl]; rfl
  · rw [if_neg g] at ec em
    refine ⟨-1000000, Sc, Sm, ?_, ?_, H.up (by omega)⟩
    · unfold f_X10_step
      rw [ec, bI_of, cI_of (by decide) (by decide) (by decide) (by decide), if_pos rfl]; rfl
    · unfold f_X11_step
      rw [em, bI_of, cI_of (by decide) (by decide) (by decide) (by decide), if_pos rfl]; rfl
theorem op_step (hB : B ≤ 50000) : Op_step (RelB B) (RelB (B + 40)) := fun Sc Sm H a1 a2 a3 h1 h2 h3 => ⟨2000, 2000, step_both 2000 2000 hB H h1 h2 h3⟩
theorem perform_loop (M0 : Nat) (hj : 0 ≤ j ∧ j < 4) : ∀ (d N M : Nat) (i B n z : Int) (s : Int → Int) (Sc Sm : S2), 0 ≤ i → i + d = Sc.1 (scC j) 0 → d + 1000 < N → d + 10000 < M → RelB B Sc Sm → CurR Sc Sm n s z → 1 ≤ n → OneS Sc Sm (scC j) j → B + d ≤ 100000 → ∃ (v : Int) (Sc' Sm' : S2), f_X10_perform_26 j.toNat N i Sc = some (v, Sc') ∧ f_X11_goSteps_2 (f_X11_goSteps_130 M0) M j 1 i Sm = some (v, Sm') ∧ RelB (B + d) Sc' Sm' := by
  have eN : scC j = 32 + 4 * j.toNat := rfl
  intro d
  induction d with
  | zero =>
    intro N M i B n z s Sc Sm h0 hi hN hM H cur h1 hO hB
    obtain ⟨N, rfl⟩ : ∃ M, N = M + 1 := ⟨N - 1, by omega⟩
    obtain ⟨M, rfl⟩ : ∃ M', M = M' + 1 := ⟨M - 1, by omega⟩
    obtain ⟨⟨k1, k12⟩, e7, hst⟩ := id hO
    refine ⟨i, Sc, Sm, ?_, ?_, H.up (by omega)⟩
    · rw [f_X10_perform_26]
      unfold gI
      dsimp only
      rw [show 32 + 4 * j.toNat = scC j from rfl, cI_of (by omega) (by omega) (by omega) (by omega), if_pos (by omega)]; rfl
    · rw [f_X11_goSteps_2, aI_of hj.1 (by omega), e7, cI_of (by omega) (by omega) (by omega) (by omega), if_pos (by omega), f_X11_goSteps_130, aI_of hj.1 (by omega), e7, show i = Sc.1 (scC j) 0 by omega]; rfl
  | succ d ih =>
    intro N M i B n z s Sc Sm h0 hi hN hM H cur h1 hO hB
    obtain ⟨N, rfl⟩ : ∃ M, N = M + 1 := ⟨N - 1, by omega⟩
    obtain ⟨M, rfl⟩ : ∃ M', M = M' + 1 := ⟨M - 1, by omega⟩
    obtain ⟨⟨k1, k12⟩, e7, hst⟩ := id hO
    have st := hst i h0 (by omega)
    have sb := st.in
    have se := st.E
    have so := st.2.1
    have i29 := cur.2.2.2.2.2.1
    rw [if_neg (by omega)] at i29
    have er := refusal_of N cur.2.2.2.1 cur.1.1 cur.1.2 (sort := Sc.1 (scC j + 1) i) (a := Sc.1 (scC j + 2) i) (b := Sc.1 (scC j + 3) i) (by omega) (by omega) (by omega) (by omega) (by omega) (by omega)
    have ew := whyNot_of M cur.2.2.2.2.1 i29 h1 cur.1.2 (sort := Sm.1 6 (3 * (12 * j + i))) (a := Sm.1 6 (3 * (12 * j + i) + 1)) (b := Sm.1 6 (3 * (12 * j + i) + 2)) (by have := st.1; omega) (by have := st.1; omega) (by omega) (by omega) (by omega) (by omega)
    rw [st.1, (ac_eq (n := n) (z := z) (s := s) se so).1] at ew
    have rc := rf_cases (n := n) (so := Sc.1 (scC j + 1) i) (a := Sc.1 (scC j + 2) i) (b := Sc.1 (scC j + 3) i)
    have clsR : f_X10_perform_26 j.toNat (N + 1) i Sc = cI (rfF n (Sc.1 (scC j + 1) i) (Sc.1 (scC j + 2) i) (Sc.1 (scC j + 3) i)) (-1) (if rfF n (Sc.1 (scC j + 1) i) (Sc.1 (scC j + 2) i) (Sc.1 (scC j + 3) i) = -1 then bI (f_X10_act N Sc (Sc.1 (scC j + 1) i) (Sc.1 (scC j + 2) i) (Sc.1 (scC j + 3) i)) fun v66 S66 => f_X10_perform_26 j.toNat N (i + 1) S66 else rI i Sc) := by
      rw [f_X10_perform_26]
      unfold gI f_X7_refusalOf
      dsimp only
      rw [show 32 + 4 * j.toNat = scC j from rfl, cI_of (by omega) (by omega) (by omega) (by omega), if_neg (by omega)]
      rw [aI_of h0 (by omega), aI_of h0 (by omega), aI_of h0 (by omega), er, bI_of, show rI (rfF n (Sc.1 (scC j + 1) i) (Sc.1 (scC j + 2) i) (Sc.1 (scC j + 3) i)) Sc = some (rfF n (Sc.1 (scC j + 1) i) (Sc.1 (scC j + 2) i) (Sc.1 (scC j + 3) i), Sc) from rfl, bI_of]
      rw [aI_of h0 (by omega), aI_of h0 (by omega), aI_of h0 (by omega)]
    have refR : f_X11_goSteps_2 (f_X11_goSteps_130 M0) (M + 1) j 1 i Sm = cI (rfF n (Sc.1 (scC j + 1) i) (Sc.1 (scC j + 2) i) (Sc.1 (scC j + 3) i)) (-1) (if rfF n (Sc.1 (scC j + 1) i) (Sc.1 (scC j + 2) i) (Sc.1 (scC j + 3) i) = -1 then bI (f_X11_act M Sm (Sc.1 (scC j + 1) i) (Sm.1 6 (3 * (12 * j + i) + 1)) (Sm.1 6 (3 * (12 * j + i) + 2))) fun v87 S87 => f_X11_goSteps_2 (f_X11_goSteps_130 M0) M j 1 (i + 1) S87 else rI i Sm) := by
      rw [f_X11_goSteps_2, aI_of hj.1 (by omega), e7, cI_of (by omega) (by omega) (by omega) (by omega), if_neg (by omega), aI_of (by omega) (by omega), aI_of (by omega) (by omega), aI_of (by omega) (by omega), st.1, ew, bI_of, cI_of (x := (1 : Int)) (by decide) (by decide) (by decide) (by decide), if_neg (c := (1 : Int) = 0) (by decide), aI_of (by omega) (by omega), aI_of (by omega) (by omega), aI_of (by omega) (by omega), st.1]
      rfl
    by_cases g : rfF n (Sc.1 (scC j + 1) i) (Sc.1 (scC j + 2) i) (Sc.1 (scC j + 3) i) = -1
    · obtain ⟨v, C1, M1, a1, a2, a3, a4, a5, a6, a7⟩ := act_rel N M H cur h1 (by omega) so g se (by omega) (by omega)
      have q : ∀ x, scC j ≤ x → x ≤ scC j + 3 → C1.1 x = Sc.1 x := fun x y w => a6.2 x (fun u => by have u : (4 ≤ x ∧ x ≤ 19) ∨ x = 25 ∨ (27 ≤ x ∧ x ≤ 30) ∨ (82 ≤ x ∧ x ≤ 161) := u; omega)
      have hO1 : OneS C1 M1 (scC j) j := hO.keep (by omega) q (fun k _ => by rw [a7.2.1 6 (by decide) (by decide)]) (fun k _ => by rw [a7.2.1 7 (by decide) (by decide)])
      obtain ⟨w, C2, M2, b1, b2, b3⟩ := ih N M (i + 1) (B + 1) _ _ _ C1 M1 (by omega) (by rw [q _ (by omega) (by omega)]; omega) (by omega) (by omega) a3 a4 a5 hO1 (by omega)
      refine ⟨w, C2, M2, ?_, ?_, b3.up (by omega)⟩
      · rw [clsR, g, cI_of (by decide) (by decide) (by decide) (by decide), if_pos rfl, a1, bI_of]; exact b1
      · rw [refR, g, cI_of (by decide) (by decide) (by decide) (by decide), if_pos rfl, a2, bI_of]; exact b2
    · refine ⟨i, Sc, Sm, ?_, ?_, H.up (by omega)⟩
      · rw [clsR, cI_of (by omega) (by omega) (by decide) (by decide), if_neg g]; rfl
      · rw [refR, cI_of (by omega) (by omega) (by decide) (by decide), if_neg g]; rfl
theorem perform_both (N M : Nat) (hN : 2000 ≤ N) (hM : 20000 ≤ M) (hB : B ≤ 50000) (H : RelB B Sc Sm) {a1 : Int} (h1 : inR a1) : ∃ (v : Int) (Sc' Sm' : S2), f_X10_perform N Sc a1 = some (v, Sc') ∧ f_X11_perform M Sm a1 = some (v, Sm') ∧ RelB (B + 40) Sc' Sm' := by
  obtain ⟨-, hS, -, ⟨n, z, s, cur, -⟩, -⟩ := id H
  have i29 := cur.2.2.2.2.2.1
  have n0 := cur.1
  have ec := hasScript_of N hS h1.1 h1.2
  have em := isScript_of M hS h1.1 h1.2
  obtain ⟨⟨s0, s4⟩, e21, hO⟩ := id hS
  by_cases g : 0 ≤ a1 ∧ a1 < Sc.1 0 8
  · rw [if_pos g] at ec em
    by_cases g0 : n = 0
    · rw [if_pos g0] at i29
      refine ⟨-1, Sc, Sm, ?_, ?_, H.up (by omega)⟩
      · unfold f_X10_perform
        rw [ec, bI_of, cI_of (by decide) (by decide) (by decide) (by decide), if_neg (by decide), noTrace_y _ cur g0, bI_of, cI_of (by decide) (by decide) (by decide) (by decide), if_neg (by decide)]; rfl
      · unfold f_X11_perform gI
        rw [em, bI_of, cI_of (by decide) (by decide) (by decide) (by decide), if_neg (by decide)]
        dsimp only
        rw [i29, cI_of (by decide) (by decide) (by decide) (by decide), if_pos rfl]; rfl
    · rw [if_neg g0] at i29
      have o := hO a1 g.1 g.2
      have ob := o.1
      obtain ⟨v, C1, M1, e1, e2, e3⟩ := perform_loop M (j := a1) (by omega) (Sc.1 (scC a1) 0).toNat N M 0 B n z s Sc Sm (by omega) (by omega) (by omega) (by omega) H cur (by omega) o (by omega)
      refine ⟨v, C1, M1, ?_, ?_, e3.up (by omega)⟩
      · unfold f_X10_perform
        rw [ec, bI_of, cI_of (by decide) (by decide) (by decide) (by decide), if_neg (by decide), noTrace_n _ cur (by omega), bI_of, cI_of (by decide) (by decide) (by decide) (by decide), if_pos rfl, aR_of g.1 (by omega)]
        exact e1
      · unfold f_X11_perform gI f_X11_goSteps
        rw [em, bI_of, cI_of (by decide) (by decide) (by decide) (by decide), if_neg (by decide)]
        dsimp only
        rw [i29, cI_of (by decide) (by decide) (by decide) (by decide), if_neg (by decide), e2]; rfl
  · rw [if_neg g] at ec em
    refine ⟨-1, Sc, Sm, ?_, ?_, H.up (by omega)⟩
    · unfold f_X10_perform
      rw [ec, bI_of, cI_of (by decide) (by decide) (by decide) (by decide), if_pos rfl]; rfl
    · unfold f_X11_perform
      rw [em, bI_of, cI_of (by decide) (by decide) (by decide) (by decide), if_pos rfl]; rfl
theorem op_perform (hB : B ≤ 50000) : Op_perform (RelB B) (RelB (B + 40)) := fun Sc Sm H a1 h1 => ⟨2000, 20000, perform_both 2000 20000 (by decide) (by decide) hB H h1⟩
end SCRIPTS
